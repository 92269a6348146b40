section
variable {P1 P2 : Nat} {nx1 nx2 : Nat → Option Nat} {en1 en2 : Nat → Bool}
/-- what stays when the contest works -/
def frTl (q q' : Nat → Nat) (h h' : am_H) : Prop := h.1 ≤ h'.1 ∧ (∀ o, o < h.1 → am_K h' o = am_K h o ∧ am_J h' o = am_J h o) ∧ (∀ o, o < h.1 → o ≠ 19 → am_A h' o = am_A h o) ∧ (∀ o, o < h.1 → o ≠ 19 → (∀ k, 6 ≤ k → k ≤ 10 → o ≠ q k) → am_I h' o = am_I h o) ∧ (∀ k, 6 ≤ k → k ≤ 10 → h.1 ≤ q' k ∨ q' k = q k)
theorem sep_q {q q' : Nat → Nat} {h : am_H} {o : Nat} (ho : o < h.1) (s : sepC q o) (hq : ∀ k, 6 ≤ k → k ≤ 10 → h.1 ≤ q' k ∨ q' k = q k) : sepC q' o := ⟨s.1, fun k k6 k10 e => by
  rcases hq k k6 k10 with c | c
  · omega
  · exact s.2 k k6 k10 (e.trans c)⟩
theorem tl_8 {h : am_H} {cap : Nat} {q : Nat → Nat} {m1 e1 r1 m2 e2 r2 : Nat} (M1 : M8 h m1 e1 r1 P1 nx1 en1) (M2 : M8 h m2 e2 r2 P2 nx2 en2) (hP : 1 ≤ P1 ∧ P1 ≤ 4096 ∧ 1 ≤ P2 ∧ P2 ≤ 4096) (x1 : ∀ j, j < 24 * P1 → ∀ i, nx1 j = some i → i < P1) (x2 : ∀ j, j < 24 * P2 → ∀ i, nx2 j = some i → i < P2) (cr : CR h cap q) (hc2 : cap ≤ 100000) (sp : sep6 q m1 e1 r1 m2 e2 r2) (lt : m1 < h.1 ∧ e1 < h.1 ∧ r1 < h.1 ∧ m2 < h.1 ∧ e2 < h.1 ∧ r2 < h.1) {F : Nat} (hF : 1000000 ≤ F) :
    ∃ h' q' cap' b c s, f_X1_tells F m1 m2 h = some ((bI b, h'), c, s) ∧ CR h' cap' q' ∧ (cap ≤ cap' ∧ P1 + P2 + 1 ≤ cap') ∧ cap' ≤ 100000 ∧ TR8 P1 P2 nx1 nx2 en1 en2 h' cap' q' b ∧ frTl q q' h h' ∧ c ≤ 5 * (cap' - cap) ∧ s ≤ 10 * (cap' - cap) := by
  have h98 := cr.2.2
  let G0 := am_sI (am_sA (am_sA h 19 1 (some m1)) 19 2 (some m2)) 19 3 (nI (P1 + P2))
  have A0 : ∀ k, k ≠ 1 → k ≠ 2 → am_A G0 19 k = am_A h 19 k := fun k k1 k2 => show am_A (am_sA (am_sA h 19 1 (some m1)) 19 2 (some m2)) 19 k = _ from (sA_ne _ _ _ k2).trans (sA_ne _ _ _ k1)
  have A1 : am_A G0 19 1 = some m1 := show am_A (am_sA (am_sA h 19 1 (some m1)) 19 2 (some m2)) 19 1 = _ from (sA_ne _ _ _ (by decide)).trans (sA_at _ _ _ _)
  have A2 : am_A G0 19 2 = some m2 := show am_A (am_sA (am_sA h 19 1 (some m1)) 19 2 (some m2)) 19 2 = _ from sA_at _ _ _ _
  have Ao : ∀ o, o ≠ 19 → am_A G0 o = am_A h o := fun o ho => show am_A (am_sA (am_sA h 19 1 (some m1)) 19 2 (some m2)) o = _ from (sA_o _ _ _ ho).trans (sA_o _ _ _ ho)
  have Io : ∀ o, o ≠ 19 → am_I G0 o = am_I h o := fun o ho => hp_I' _ _ _ ho
  have cr0 : CR G0 cap q := ⟨fun k k6 k10 => by
    obtain ⟨y1, y2, y3, y4⟩ := cr.1 k k6 k10
    exact ⟨(A0 k (by omega) (by omega)).trans y1, y2, y3, y4⟩, cr.2.1, h98⟩
  have M8o : ∀ {G : am_H} {m e r P : Nat} {nx : Nat → Option Nat} {en : Nat → Bool}, M8 h m e r P nx en → (am_K G m = am_K h m ∧ am_K G e = am_K h e ∧ am_K G r = am_K h r) → (am_I G m = am_I h m ∧ am_I G e = am_I h e ∧ am_I G r = am_I h r) → am_A G m = am_A h m → M8 G m e r P nx en := by
    intro G m e r P nx en M hK hI hA
    obtain ⟨y1, y2, y3, y4, y5, y6, y7, y8⟩ := M
    exact ⟨by rw [hK.1]; exact y1, by rw [hI.1]; exact y2, by rw [hA]; exact y3, by rw [hA]; exact y4, by rw [hK.2.1]; exact y5, by rw [hK.2.2]; exact y6, by rw [hI.2.1]; exact y7, by rw [hI.2.2]; exact y8⟩
  obtain ⟨G1, q', cap', c, s, em, cr1, hn1, hc1, hc3, fR, hq', hcc, hss⟩ := mr_8 cr0 (n := P1 + P2 + 1) (by omega) hc2
  have hG0 : G0.1 = h.1 := rfl
  obtain ⟨s1, s2, s3, s4, s5, s6⟩ := sp
  obtain ⟨t1, t2, t3, t4, t5, t6⟩ := lt
  have hqh : ∀ k, 6 ≤ k → k ≤ 10 → h.1 ≤ q' k ∨ q' k = q k := hq'
  have sp' : sep6 q' m1 e1 r1 m2 e2 r2 := ⟨sep_q t1 s1 hqh, sep_q t2 s2 hqh, sep_q t3 s3 hqh, sep_q t4 s4 hqh, sep_q t5 s5 hqh, sep_q t6 s6 hqh⟩
  have K1o : ∀ o, o < h.1 → am_K G1 o = am_K h o := fun o ho => (fR.2.1 o ho).1
  have I1o : ∀ o, o < h.1 → o ≠ 19 → am_I G1 o = am_I h o := fun o ho h19 => (fR.2.1 o ho).2.2.trans (Io o h19)
  have A1o : ∀ o, o < h.1 → o ≠ 19 → am_A G1 o = am_A h o := fun o ho h19 => (fR.2.2.1 o ho h19).trans (Ao o h19)
  have M1' : M8 G1 m1 e1 r1 P1 nx1 en1 := M8o M1 ⟨K1o _ t1, K1o _ t2, K1o _ t3⟩ ⟨I1o _ t1 s1.1, I1o _ t2 s2.1, I1o _ t3 s3.1⟩ (A1o _ t1 s1.1)
  have M2' : M8 G1 m2 e2 r2 P2 nx2 en2 := M8o M2 ⟨K1o _ t4, K1o _ t5, K1o _ t6⟩ ⟨I1o _ t4 s4.1, I1o _ t5 s5.1, I1o _ t6 s6.1⟩ (A1o _ t4 s4.1)
  have I3 : am_I G1 19 3 = nI (P1 + P2) := by
    rw [(fR.2.1 19 (show 19 < h.1 by omega)).2.2]
    show am_I (am_sI _ 19 3 _) 19 3 = _
    rw [hp_I, upd_at]
  have cm1 : CM G1 m1 e1 r1 m2 e2 r2 P1 P2 nx1 nx2 en1 en2 := ⟨(fR.2.2.2 1 (by decide)).trans A1, (fR.2.2.2 2 (by decide)).trans A2, M1', M2', I3, hP, x1, x2⟩
  obtain ⟨G2, ei, f2, hz⟩ := in8 (q := q') hn1 hc3 m1 m2 (P := P1) (P1 + P2 + 1) 0 G1 (by omega) cr1 I3 M1'.1 M1'.2.1 s1.1 (sp'.1.2) (fun z hz => by omega)
  let H := am_sI (am_sI G2 19 4 (nI 0)) 19 5 (Int32.ofInt (-1))
  have fH : frC q' G1 H := frC_t f2 (frC_t (frC_n q' _ (Or.inr (Or.inl rfl)) _) (frC_n q' _ (Or.inr (Or.inr rfl)) _))
  have crH := CR_fr cr1 fH
  have cmH := CM_fr cm1 fH sp'
  have q19 : ∀ k, 6 ≤ k → k ≤ 10 → q' k ≠ 19 := fun k k6 k10 => (cr1.1 k k6 k10).2.2.1
  have c0 : C8 P1 P2 nx1 nx2 H cap' q' 0 (fun _ => []) (fun _ => 0) (fun _ => 0) (fun z => z) := by
    refine ⟨crH, ?_, fun i hi => absurd hi (Nat.not_lt_zero _), fun y hy => ?_⟩
    · show am_I (am_sI (am_sI G2 19 4 (nI 0)) 19 5 _) 19 4 = _
      rw [hp_I, upd_ne (by decide), hp_I, upd_at]
    · show am_I (am_sI (am_sI G2 19 4 (nI 0)) 19 5 _) (q' 6) y = _
      rw [hp_I' _ _ _ (q19 6 (by decide) (by decide)), hp_I' _ _ _ (q19 6 (by decide) (by decide))]; exact hz y hy
  have u0 : UF (P1 + P2) (fun z => z) (fun _ => 0) 0 (nEq P1 P2 nx1 nx2 en1 en2 0 (fun _ => [])) := by
    refine ⟨fun z hz => hz, fun z _ hne => absurd rfl hne, fun z _ => Nat.le_refl _, ?_, fun z _ x _ => Or.inl Iff.rfl⟩
    have : ((List.range (P1 + P2 + 1)).filter (fun z => decide ((fun z => z) z = z))) = List.range (P1 + P2 + 1) := List.filter_eq_self.mpr (fun z _ => decide_eq_true rfl)
    rw [this, List.length_range]
  have h5H : am_I H 19 5 = Int32.ofInt (-1) := by
    show am_I (am_sI _ 19 5 _) 19 5 = _
    rw [hp_I, upd_at]
  obtain ⟨h3, st, f3, res⟩ := mt_8 cmH sp' c0 hn1 hc3 (Nat.zero_le _) u0 h5H (w := []) (fun b hb => nomatch hb) (Int32.ofInt (-1)) (Int32.ofInt (-1))
  have fT : ∀ h', frC q' G1 h' → frTl q q' h h' := by
    intro h' f
    refine ⟨by rw [f.1]; exact fR.1, fun o ho => ⟨by rw [f.2.1]; exact K1o o ho, by rw [f.2.2.1]; exact (fR.2.1 o ho).2.1⟩, fun o ho h19 => by rw [f.2.2.2.1]; exact A1o o ho h19, fun o ho h19 hq => ?_, hqh⟩
    rw [f.2.2.2.2.1 o h19 (fun k k6 k10 e => by
      rcases hqh k k6 k10 with c | c
      · omega
      · exact hq k k6 k10 (e.trans c))]
    exact I1o o ho h19
  -- the begin of the search
  have start : ∀ (b : Bool) (h' : am_H) (F' : Nat), g_X1_tells F' 1 m1 m2 (nI 0) 0 h3 = some ((bI b, h'), 0, 0) → 10000 ≤ F' → F = F' + (P1 + P2 + 1) + 1 → f_X1_tells F m1 m2 h = some ((bI b, h'), c, s) := by
    intro b h' F' e hF' hFF
    have eF := ei F'
    rw [show f_X1_meet F' (nI 0) (nI P1) (Int32.ofInt (-1)) (Int32.ofInt (-1)) (am_sI (am_sI G2 19 4 (nI 0)) 19 5 (Int32.ofInt (-1))) = some ((), h3) from st F' hF', b2s, e, ← hFF] at eF
    unfold f_X1_tells
    have o1 : am_isO (am_sA (am_sA h 19 1 (some m1)) 19 2 (some m2)) m1 3 = true := hp_isO M1.1
    have o2 : am_isO (am_sA (am_sA h 19 1 (some m1)) 19 2 (some m2)) m2 3 = true := hp_isO M2.1
    have p1 : am_I (am_sA (am_sA h 19 1 (some m1)) 19 2 (some m2)) m1 0 = nI P1 := M1.2.1
    have p2 : am_I (am_sA (am_sA h 19 1 (some m1)) 19 2 (some m2)) m2 0 = nI P2 := M2.2.1
    rw [o1, cond_true, o2, cond_true, p1, p2, nI_add]
    show am_bc (f_X1_makeRoom (am_I G0 19 3 + Int32.ofInt 1) G0) (fun _ h4 => g_X1_tells F 0 m1 m2 (Int32.ofInt 0) 0 h4) = _
    have g3 : am_I G0 19 3 = nI (P1 + P2) := by
      show am_I (am_sI _ 19 3 _) 19 3 = _
      rw [hp_I, upd_at]
    rw [g3, hp_1, em]
    show am_cost c s (g_X1_tells F 0 m1 m2 (nI 0) 0 G1) = _
    rw [eF]
    rfl
  rcases res with ⟨χ', c1, u1, eq, h5'⟩ | ⟨χ', ρ', c1, u1, hNW, res⟩
  · -- nothing can tell them apart
    have nod : ∀ u, (∀ a, a ∈ u → a < 24) → ¬ nD nx1 nx2 en1 en2 u := by
      intro u hu hd
      rcases eq u hu with h1 | ⟨i, hi, _⟩
      · rw [nA_L (mPl_lt hP.1 x1) (u := []) (fun b hb => nomatch hb) u, nA_R (mPl_lt hP.2.2.1 x2) (u := []) (fun b hb => nomatch hb) u, List.append_nil] at h1
        exact hd (Bool.eq_iff_iff.mpr h1)
      · exact absurd hi (Nat.not_lt_zero _)
    refine ⟨h3, q', cap', false, c, s, start false h3 (F - (P1 + P2 + 1) - 1) ?_ (by omega) (by omega), CR_fr crH f3, ⟨hc1, hn1⟩, hc3, ⟨0, fun _ => [], fun _ => 0, fun _ => 0, Or.inl ⟨rfl, h5', nod⟩⟩, fT h3 (frC_t fH f3), hcc, hss⟩
    rw [show F - (P1 + P2 + 1) - 1 = (F - (P1 + P2 + 1) - 2) + 1 from by omega, g_X1_tells]
    simp only [show Nat.beq 1 0 = false from rfl, show Nat.beq 1 1 = true from rfl, cond_false, cond_true, am_let]
    rw [h5', if_pos rfl, b_some, show am_b01 (Int32.ofInt 0) = true from rfl, cond_true, c1.2.1, if_pos (Int32.le_refl _)]
    rfl
  · have cc : C8 P1 P2 nx1 nx2 h3 cap' q' 1 (fun _ => []) (frI (fun _ => 0)) (frI (fun _ => 0)) χ' := C8_c c1 (fun i hi => by
      have : i = 0 := by omega
      subst this; rfl) (fun i hi => by
      have : i = 0 := by omega
      subst this; rfl) (fun i hi => by
      have : i = 0 := by omega
      subst this; rfl)
    have bw : BW 1 (fun _ => []) (fun _ => 0) (fun _ => 0) := ⟨Nat.le_refl _, rfl, fun i i1 iN => by omega, fun i j hij hj => by omega⟩
    have e1' : (fun i => if i = 0 then ([] : List Nat) else (fun _ => []) i) = fun _ => [] := by
      funext i
      show (if i = 0 then [] else []) = []
      exact ite_self _
    rcases res with ⟨hd, h5'⟩ | ⟨hd, h5', h0'⟩
    · have u1' : UF (P1 + P2) χ' ρ' 1 (nEq P1 P2 nx1 nx2 en1 en2 1 (fun _ => [])) := by
        have := u1
        rw [e1'] at this
        exact this
      have g : TC P1 P2 nx1 nx2 en1 en2 h3 cap' q' 1 (fun _ => []) (fun _ => 0) (fun _ => 0) 0 0 := ⟨⟨χ', ρ', cc, u1'⟩, hNW, ⟨bw, fun i i1 iN => by omega⟩, fun k' a' hlt _ => by omega, fun i _ => hd, h5'⟩
      obtain ⟨h4, b, c4, hc4, e4, f4, t4'⟩ := tl8_out (m1 := m1) (e1 := e1) (r1 := r1) (m2 := m2) (e2 := e2) (r2 := r2) sp' hn1 hc3 m1 m2 (P1 + P2) 0 h3 1 (fun _ => []) (fun _ => 0) (fun _ => 0) (by omega) (by omega) (CM_fr cmH f3 sp') g
      have ft := frC_t fH (frC_t f3 f4)
      refine ⟨h4, q', cap', b, c, s, start b h4 (F - (P1 + P2 + 1) - 1) ?_ (by omega) (by omega), CR_fr cr1 ft, ⟨hc1, hn1⟩, hc3, t4', fT h4 ft, hcc, hss⟩
      have := e4 (F - (P1 + P2 + 1) - 1 - c4) (by omega)
      rw [show F - (P1 + P2 + 1) - 1 - c4 + c4 = F - (P1 + P2 + 1) - 1 from by omega] at this
      exact this
    · have t : TF P1 P2 nx1 nx2 en1 en2 h3 cap' q' 1 (fun _ => []) (fun _ => 0) (fun _ => 0) 0 := ⟨⟨χ', cc⟩, hNW, bw, by decide, h5', h0', ⟨(fun a ha => nomatch ha), hd, (fun u _ hlt => by
        cases u with
        | nil => exact absurd hlt (wLt_i _)
        | cons a u => exact absurd hlt (fun h => h))⟩⟩
      have ft := frC_t fH f3
      refine ⟨h3, q', cap', true, c, s, start true h3 (F - (P1 + P2 + 1) - 1) ?_ (by omega) (by omega), CR_fr cr1 ft, ⟨hc1, hn1⟩, hc3, ⟨1, fun _ => [], fun _ => 0, fun _ => 0, Or.inr ⟨rfl, 0, t⟩⟩, fT h3 ft, hcc, hss⟩
      have := tl8_found t (by omega) m1 m2 (nI 0) (F - (P1 + P2 + 1) - 2)
      rw [show F - (P1 + P2 + 1) - 2 + 1 = F - (P1 + P2 + 1) - 1 from by omega] at this
      exact this
end
