/-! ===== one, own, twin ===== -/
theorem sI_comm (h : am_H) {o p : Nat} (i j : Nat) (x y : Int32) (ne : o ≠ p) : am_sI (am_sI h o i x) p j y = am_sI (am_sI h p j y) o i x := by
  obtain ⟨hn, hK, hI, hJ, hA⟩ := h
  have : ∀ f g : Nat → Nat → Int32, f = g → (hn, hK, f, hJ, hA) = ((hn, hK, g, hJ, hA) : am_H) := fun f g e => by rw [e]
  refine this _ _ ?_
  funext q
  show va_up (va_up hI o (upd (hI o) i x)) p (upd (va_up hI o (upd (hI o) i x) p) j y) q = va_up (va_up hI p (upd (hI p) j y)) o (upd (va_up hI p (upd (hI p) j y) o) i x) q
  unfold va_up
  by_cases h1 : q = p
  · subst h1
    rw [if_pos rfl, if_neg (Ne.symm ne), if_neg (Ne.symm ne), if_pos rfl]
  · rw [if_neg h1]
    by_cases h2 : q = o
    · subst h2
      rw [if_pos rfl, if_pos rfl, if_neg ne]
    · rw [if_neg h2, if_neg h2, if_neg h1]
/-- the class copies the page -/
theorem pc_8 {h : am_H} {m : Nat} {tx : Nat → Int32} (st : am_stat h) (t : tx8 h 1 2 m tx) : ∃ hm, f_X4_copy 1 h = some ((h.1, hm), 2, 62) ∧ ext h hm ∧ hm.1 = h.1 + 2 ∧ tx8 hm h.1 (h.1 + 1) m tx := by
  have h98 : 87 ≤ h.1 := st.1
  obtain ⟨t1, t2, t3, t4, t5, t6, t7, t8⟩ := t
  generalize hh1 : am_new h (.inl 4) (fun _ => 0) = h1
  have x1 : ext h h1 := by rw [← hh1]; exact ext_n _ _ _
  have n1 : h1.1 = h.1 + 1 := by rw [← hh1]; rfl
  have k1 : am_K h1 h.1 = .inl 4 := by rw [← hh1, nw_K0]
  generalize hh2 : am_new h1 (.inr (0, 60)) (fun _ => 0) = h2
  have x2 : ext h1 h2 := by rw [← hh2]; exact ext_n _ _ _
  have n2 : h2.1 = h.1 + 2 := by rw [← hh2]; show h1.1 + 1 = _; omega
  have k2 : am_K h2 (h.1 + 1) = .inr (0, 60) := by rw [← hh2, show h.1 + 1 = h1.1 from n1.symm, nw_K0]
  have k2' : am_K h2 h.1 = .inl 4 := by rw [(x2.2 h.1 (by omega)).1]; exact k1
  generalize hh3 : am_sA h2 h.1 0 (some (h.1 + 1)) = h3
  have x3 : ext h h3 := by rw [← hh3]; exact ext_a (ext_t x1 x2) (Nat.le_refl _) 0 _
  have kk3 : am_K h3 = am_K h2 := by rw [← hh3]; rfl
  have ini : f_X4_init h.1 h1 = some (((), h3), 1, 60) := by
    unfold f_X4_init
    rw [show am_nn (Int32.ofInt 60) = true from by decide, cond_true, show Int32.toNatClampNeg (Int32.ofInt 60) = 60 from by decide, hh2, hp_isO k2', cond_true, Nat.ble_eq_true_of_le h98, cond_true, n1, hh3]
    rfl
  have a31 : am_A h3 1 0 = some 2 := by rw [(x3.2 1 (by omega)).2.2.2]; exact t2
  have k31 : am_K h3 1 = .inl 4 := by rw [(x3.2 1 (by omega)).1]; exact t1
  have k3h : am_K h3 h.1 = .inl 4 := by rw [kk3]; exact k2'
  have a3h : am_A h3 h.1 0 = some (h.1 + 1) := by rw [← hh3, sA_at]
  have k32 : am_K h3 2 = .inr (0, 60) := by rw [(x3.2 2 (by omega)).1]; exact t3
  have k3q : am_K h3 (h.1 + 1) = .inr (0, 60) := by rw [kk3]; exact k2
  generalize hh4 : am_sR h3 (h.1 + 1) (va_cpy (am_I h3 2) (am_I h3 (h.1 + 1)) 0 0 60) = h4
  have i4 : ∀ p, p ≠ h.1 + 1 → am_I h4 p = am_I h3 p := fun p hp => by rw [← hh4]; exact hp_IR' _ _ hp
  have i41 : am_I h4 1 1 = nI m := by rw [i4 1 (by omega), (x3.2 1 (by omega)).2.1]; exact t4
  have x4 : ext h h4 := ⟨by rw [← hh4]; exact x3.1, fun o ho => ⟨by rw [← hh4]; exact (x3.2 o ho).1, by rw [i4 o (by omega)]; exact (x3.2 o ho).2.1, by rw [← hh4]; exact (x3.2 o ho).2.2.1, by rw [← hh4]; exact (x3.2 o ho).2.2.2⟩⟩
  have n3 : h3.1 = h.1 + 2 := by rw [← hh3]; exact n2
  have n4 : h4.1 = h.1 + 2 := by rw [← hh4]; exact n3
  refine ⟨am_sI h4 h.1 1 (nI m), ?_, ext_s x4 (Nat.le_refl _) 1 _, n4, ?_, ?_, ?_, ?_, fun j hj => ?_, Or.inr (by omega), Or.inr (by omega), t8⟩
  · unfold f_X4_copy
    rw [hh1, ini, bcs, hp_isO k31, cond_true, a31, b_some, hp_isO k3h, cond_true, a3h, b_some, hp_ln k32, b_some, hp_ln k3q, b_some, show am_cpk (Int32.ofInt 0) (Int32.ofInt 0) (Int32.ofInt 60) 60 60 = true from by decide, cond_true, show Int32.toNatClampNeg (Int32.ofInt 0) = 0 from by decide, show Int32.toNatClampNeg (Int32.ofInt 60) = 60 from by decide, hh4, i41, cts, cts]
  · show am_K h4 h.1 = _
    rw [← hh4]; exact k3h
  · show am_A h4 h.1 0 = _
    rw [← hh4]; exact a3h
  · show am_K h4 (h.1 + 1) = _
    rw [← hh4]; exact k3q
  · rw [hp_I, upd_at]
  · rw [hp_I' _ _ _ (by omega), ← hh4, hp_IR]
    show (if 0 ≤ j ∧ j < 0 + 60 then am_I h3 2 (0 + (j - 0)) else _) = _
    rw [if_pos ⟨Nat.zero_le _, by omega⟩, (x3.2 2 (by omega)).2.1, show 0 + (j - 0) = j from by omega]
    exact t5 j hj
def koH (h : am_H) (k a : Nat) : am_H := am_sI (am_sA h 26 k (some a)) 0 7 (nI (k + 1))
theorem ao_om (S : PS) (m : Nat) (t : Nat → Int32) : (∀ k, k < S.no → (S.ao m t).om k = S.om k ∧ (S.ao m t).ox k = S.ox k) ∧ (S.ao m t).om S.no = m ∧ (S.ao m t).ox S.no = t := by
  refine ⟨fun k hk => ⟨?_, ?_⟩, ?_, ?_⟩
  · show updN S.om S.no m k = _
    unfold updN; rw [if_neg (by omega)]
  · show (if k = S.no then t else S.ox k) = _
    rw [if_neg (by omega)]
  · show updN S.om S.no m S.no = _
    unfold updN; rw [if_pos rfl]
  · show (if S.no = S.no then t else S.ox S.no) = _
    rw [if_pos rfl]
theorem PSok_ao {S : PS} (ok : PSok S) (no3 : S.no < 3) {m : Nat} {t : Nat → Int32} (m60 : m ≤ 60) (hv : vl (Int32.ofInt 1) t m 0 0 0) : PSok (S.ao m t) := by
  obtain ⟨a1, a2, a3, a4, a5, a6, a7, a8, a9, a10⟩ := ok
  refine ⟨a1, a2, a3, no3, fun k hk => ?_, a6, a7, a8, a9, a10⟩
  have hk : k < S.no + 1 := hk
  obtain ⟨o1, o2, o3⟩ := ao_om S m t
  by_cases q : k = S.no
  · rw [q, o2, o3]; exact ⟨m60, hv⟩
  · rw [(o1 k (by omega)).1, (o1 k (by omega)).2]; exact a5 k (by omega)
theorem X8_ao {h hm : am_H} {S : PS} {c sl c1 z1 a q m : Nat} {tx : Nat → Int32} (x : X8 h S c sl) (e : ext h hm) (sm : am_stat (koH hm S.no a)) (ha : h.1 ≤ a) (ham : a < hm.1) (hq : h.1 ≤ q) (hqm : q < hm.1) (t' : tx8 hm a q m tx) (c2 : c1 ≤ 2) (z2 : z1 ≤ 200) : X8 (koH hm S.no a) (S.ao m tx) (c + c1) (sl + z1) := by
  obtain ⟨w, ba, cf, qf0, cc, qc0, c3', a3, b3, st, t, bk, on, tk, rw8, sv, co⟩ := x
  have h98 : 87 ≤ h.1 := st.1
  have iI : ∀ p, p < h.1 → p ≠ 0 → am_I (koH hm S.no a) p = am_I h p := fun p hp p0 => by
    unfold koH; rw [hp_I' _ _ _ p0, sA_I]; exact (e.2 p hp).2.1
  have i0 : ∀ k, k ≠ 7 → am_I (koH hm S.no a) 0 k = am_I h 0 k := fun k hk => by
    unfold koH; rw [hp_I, upd_ne hk, sA_I, (e.2 0 (by omega)).2.1]
  have iA : ∀ p, p ≠ 26 → am_A (koH hm S.no a) p = am_A hm p := fun p hp => sA_o _ _ _ hp
  have iA0 : ∀ p, p < h.1 → p ≠ 26 → am_A (koH hm S.no a) p = am_A h p := fun p hp h26 => (iA p h26).trans (e.2 p hp).2.2.2
  have i26 : ∀ k, k ≠ S.no → am_A (koH hm S.no a) 26 k = am_A h 26 k := fun k hk => by
    show am_A (am_sA hm 26 S.no (some a)) 26 k = _
    rw [sA_ne _ _ _ hk, (e.2 26 (by omega)).2.2.2]
  have iK : ∀ p, p < h.1 → am_K (koH hm S.no a) p = am_K h p := fun p hp => (e.2 p hp).1
  have iJ : ∀ p, p < h.1 → am_J (koH hm S.no a) p = am_J h p := fun p hp => (e.2 p hp).2.2.1
  have iIm : ∀ p, p ≠ 0 → am_I (koH hm S.no a) p = am_I hm p := fun p p0 => by unfold koH; rw [hp_I' _ _ _ p0, sA_I]
  have h1 : h.1 ≤ (koH hm S.no a).1 := e.1
  have fz : frFz w (fun q => if q < h.1 then w q else 0) h (koH hm S.no a) := ⟨h1, fun p z => by
    have p1 := z.1
    have p2 := z.2.1
    exact ⟨by rw [fill_eq p2]; exact z.2.2, iK p p2, iI p p2 (by omega), iA0 p p2 (by omega)⟩⟩
  have nz : ∀ p, h.1 ≤ p → p < hm.1 → frz (koH hm S.no a) (fun q => if q < h.1 then w q else 0) p := fun p a1 a2 => ⟨by omega, a2, if_neg (by omega)⟩
  obtain ⟨bk', gm⟩ := BK8_f fz bk (i0 5 (by decide)) (iA0 25 (by omega) (by decide))
  obtain ⟨o1, o2, o3⟩ := ao_om S m tx
  refine ⟨(fun q => if q < h.1 then w q else 0), ba, cf, qf0, cc, qc0, c3', a3, b3, sm, tx8_c t (iK 1 (by omega)) (iK 2 (by omega)) (iI 1 (by omega) (by decide)) (iI 2 (by omega) (by decide)) (iA0 1 (by omega) (by decide)), BK8_eq (S := S) rfl bk', ⟨?_, fun k hk => ?_⟩, TK8_g tk (by rw [iI 28 (by omega) (by decide)]) (fun p hp => iI p (by omega) (by omega)) (by rw [iJ 0 (by omega)]) (fun k hk => i0 k (by omega)), RW8_x rw8 0 h1 h98 iK (fun p hp => iA0 p (by omega) (by omega)), ?_, ?_⟩
  · show am_I (koH hm S.no a) 0 7 = nI (S.no + 1)
    unfold koH; rw [hp_I, upd_at]
  · have hk : k < S.no + 1 := hk
    by_cases q' : k = S.no
    · subst q'
      rw [o2, o3]
      refine ⟨a, q, sA_at hm 26 S.no (some a), nz a ha ham, nz q hq hqm, tx8_c t' rfl rfl (iIm a (by omega)) (iIm q (by omega)) (iA a (by omega))⟩
    · obtain ⟨a', q'', y1, y2, y3, y4⟩ := on.2 k (by omega)
      obtain ⟨-, a1, a2, a3'⟩ := fz.2 _ y2
      obtain ⟨-, b1, b2, -⟩ := fz.2 _ y3
      rw [(o1 k (by omega)).1, (o1 k (by omega)).2]
      exact ⟨a', q'', by rw [i26 k q']; exact y1, frz_f fz y2, frz_f fz y3, tx8_c y4 a1 b1 a2 b2 a3'⟩
  · obtain ⟨ga, gb, la, lb, -⟩ := gr_at sv.1.1
    exact SV8_g sv h1 iK (iJ 40 (by omega)) (iA0 37 (by omega) (by decide)) (fun p a b => iI p (by omega) (by omega)) (iI a3 la (by omega)) (iI b3 lb (by omega)) (fun k hk => i0 k (by omega)) (iI 49 (by omega) (by decide))
  · have gm' : gM (koH hm S.no a) (S.ao m tx) ba = gM h S ba := gm
    rw [gm']
    obtain ⟨o1, o2⟩ := co
    show CO (c + c1) (sl + z1) cf cc c3' S.nb (S.no + 1) (gM h S ba)
    exact ⟨by omega, by omega⟩
/-- signs of a whole text are bytes -/
theorem st_by {sort c : Int32} (h : rd_st sort c = true) : vp_nar (am_at 1) c = c := by
  unfold rd_st at h
  by_cases hs : sort = 0
  · rw [decide_eq_true hs] at h
    have h : rd_mark c = true := h
    unfold rd_mark at h
    rcases Bool.or_eq_true_iff.mp h with h | h
    · rw [of_decide_eq_true h]; decide
    · rw [of_decide_eq_true h]; decide
  · rw [decide_eq_false hs] at h
    rcases dig_cases (show rd_dig c = true from h) with rfl | rfl | rfl <;> decide
theorem it_by {c : Int32} {d p e : Nat} (h : rd_it c d = some (p, e)) : vp_nar (am_at 1) c = c := by
  rcases it_x h with ⟨rfl, -⟩ | ⟨-, rfl, -⟩ | ⟨-, rfl, -⟩ <;> decide
theorem step_by {sort last c : Int32} {ph d p e : Nat} (hp : ph ≤ 4) (h : rd_step sort last c ph d = some (p, e)) : vp_nar (am_at 1) c = c := by
  match ph, hp with
  | 0, _ =>
    have h : (if c = Int32.ofInt 123 then some (0, d + 1) else bif rd_st sort c then some (1, d) else none) = some (p, e) := h
    by_cases c1 : c = Int32.ofInt 123
    · rw [c1]; decide
    · rw [if_neg c1] at h
      cases hs : rd_st sort c
      · rw [hs] at h; cases h
      · exact st_by hs
  | 1, _ =>
    have h : (bif rd_dig c then (if sort = 0 then some (2, d) else if c = last then none else some (2, d)) else none) = some (p, e) := h
    cases hs : rd_dig c
    · rw [hs] at h; cases h
    · rcases dig_cases hs with rfl | rfl | rfl <;> decide
  | 2, _ =>
    have h : (bif rd_let c then some (3, d) else none) = some (p, e) := h
    cases hs : rd_let c
    · rw [hs] at h; cases h
    · rcases let_cases hs with rfl | rfl | rfl | rfl <;> decide
  | 3, _ => exact it_by (show rd_it c d = some (p, e) from h)
  | 4, _ =>
    have h : (if c = Int32.ofInt 42 then some (3, d) else rd_it c d) = some (p, e) := h
    by_cases c1 : c = Int32.ofInt 42
    · rw [c1]; decide
    · rw [if_neg c1] at h
      exact it_by h
theorem vl_by {sort : Int32} {r : Nat → Int32} : ∀ (k i ph d : Nat), vl sort r k i ph d → ph ≤ 4 → ∀ j, i ≤ j → j < i + k → vp_nar (am_at 1) (r j) = r j := by
  intro k
  induction k with
  | zero => intro i ph d _ _ j a b; omega
  | succ k ih =>
    intro i ph d hv hp j a b
    obtain ⟨p, e, hst, hv1⟩ := vl_s hv
    by_cases c : j = i
    · subst c; exact step_by hp hst
    · exact ih (i + 1) p e hv1 (rd_step_le hp hst).1 j (by omega) (by omega)
/-- the reference copies the page -/
theorem on9 {m k : Nat} (m60 : m ≤ 60) (k3 : k < 3) (n : Nat) : ∀ (d i : Nat) (h : am_H), i + d = m → am_I h 51 0 = nI m → am_I h 51 6 = nI k → (∀ j, j < m → vp_nar (am_at 1) (am_I h 52 j) = am_I h 52 j) → g_X9_one (n + d + 1) 0 (nI i) h = some (nI k, am_sI (am_sI (am_sI (am_sR h 56 (lt_row (am_I h 52) (am_I h 56) (60 * k + i) i d)) 57 k (nI m)) 51 6 (nI (k + 1))) 51 0 (Int32.ofInt 0)) := by
  intro d
  induction d with
  | zero =>
    intro i h hi e0 e6 by_
    have : i = m := by omega
    subst this
    show (if (am_I h 51 0) ≤ nI i then bif am_vp (am_I h 51 6) 3 then _ else none else _) = _
    rw [e0, if_pos (Int32.le_refl _), e6, hp_vp k3 (by decide), cond_true, nI_clamp (show k < 2 ^ 31 by omega), lt_row0, hp_sR_id, hp_I' h (o := 57) k (nI i) (show (51 : Nat) ≠ 57 by decide), e6, hp_1, hp_I _ 51 0, upd_ne (show (6 : Nat) ≠ 0 by decide), hp_I _ 51 6, upd_at, nI_m1 (by omega)]
    rfl
  | succ d ih =>
    intro i h hi e0 e6 by_
    have ix : ((Int32.ofInt 60) * nI k) + nI i = nI (60 * k + i) := by rw [show Int32.ofInt 60 = nI 60 from rfl, nI_mul, nI_add]
    show (if (am_I h 51 0) ≤ nI i then _ else bif am_vp (nI i) 60 then (bif am_vp (((Int32.ofInt 60) * (am_I h 51 6)) + nI i) 180 then (g_X9_one (n + d + 1) 0 (nI i + Int32.ofInt 1) (am_sI h 56 (Int32.toNatClampNeg (((Int32.ofInt 60) * (am_I h 51 6)) + nI i)) (vp_nar (am_at 1) (am_I h 52 (Int32.toNatClampNeg (nI i)))))) else none) else none) = _
    rw [e0, if_neg (nI_ge (a := i) (b := m) (by omega) (by omega)), hp_vp (show i < 60 by omega) (by decide), cond_true, e6, ix, hp_vp (show 60 * k + i < 180 by omega) (by decide), cond_true, nI_clamp (show 60 * k + i < 2 ^ 31 by omega), nI_clamp (show i < 2 ^ 31 by omega), by_ i (by omega), hp_1]
    have i62 : am_I (am_sI h 56 (60 * k + i) (am_I h 52 i)) 51 = am_I h 51 := hp_I' _ _ _ (by decide)
    have i63 : am_I (am_sI h 56 (60 * k + i) (am_I h 52 i)) 52 = am_I h 52 := hp_I' _ _ _ (by decide)
    rw [ih (i + 1) _ (by omega) (by rw [i62]; exact e0) (by rw [i62]; exact e6) (by rw [i63]; exact by_), i63, hp_I, hp_sR_sI, show 60 * k + (i + 1) = 60 * k + i + 1 from by omega, lt_rowS]
theorem X9_ao {h : am_H} {S : PS} (ok : PSok S) (x : X9p h S) (no3 : S.no < 3) : X9p (am_sI (am_sI (am_sI (am_sR h 56 (lt_row (am_I h 52) (am_I h 56) (60 * S.no + 0) 0 S.m)) 57 S.no (nI S.m)) 51 6 (nI (S.no + 1))) 51 0 (Int32.ofInt 0)) ((S.ao S.m S.tx).pg 0 S.tx) ∧ same8 h (am_sI (am_sI (am_sI (am_sR h 56 (lt_row (am_I h 52) (am_I h 56) (60 * S.no + 0) 0 S.m)) 57 S.no (nI S.m)) 51 6 (nI (S.no + 1))) 51 0 (Int32.ofInt 0)) := by
  have m60 := ok.1
  generalize hh2 : am_sI (am_sI (am_sI (am_sR h 56 (lt_row (am_I h 52) (am_I h 56) (60 * S.no + 0) 0 S.m)) 57 S.no (nI S.m)) 51 6 (nI (S.no + 1))) 51 0 (Int32.ofInt 0) = h2
  have i0 : ∀ q, q ≠ 51 → q ≠ 56 → q ≠ 57 → am_I h2 q = am_I h q := fun q a b d => by rw [← hh2, hp_I' _ _ _ a, hp_I' _ _ _ a, hp_I' _ _ _ d, hp_IR' _ _ b]
  have i62 : ∀ k, k ≠ 0 → k ≠ 6 → am_I h2 51 k = am_I h 51 k := fun k a b => by rw [← hh2, hp_I, upd_ne a, hp_I, upd_ne b, hp_I' _ _ _ (by decide), hp_IR' _ _ (by decide)]
  have i67 : am_I h2 56 = lt_row (am_I h 52) (am_I h 56) (60 * S.no + 0) 0 S.m := by rw [← hh2, hp_I' _ _ _ (by decide), hp_I' _ _ _ (by decide), hp_I' _ _ _ (by decide), hp_IR]
  have i68 : am_I h2 57 = upd (am_I h 57) S.no (nI S.m) := by rw [← hh2, hp_I' _ _ _ (by decide), hp_I' _ _ _ (by decide), hp_I, hp_IR' _ _ (by decide)]
  have sm : same8 h h2 := ⟨by rw [← hh2]; rfl, by rw [← hh2]; rfl, by rw [← hh2]; rfl, fun p hp => ⟨i0 p (by omega) (by omega) (by omega), by rw [← hh2]; rfl⟩⟩
  obtain ⟨st, y, k, c9⟩ := x
  obtain ⟨o1, o2, o3⟩ := ao_om S S.m S.tx
  refine ⟨⟨stat_8 st sm, ⟨⟨by rw [← hh2, hp_I, upd_at]; rfl, by rw [i0 52 (by decide) (by decide) (by decide)]; exact y.1.2⟩, ⟨by rw [i62 2 (by decide) (by decide)]; exact y.2.1.1, by rw [i0 53 (by decide) (by decide) (by decide), i0 54 (by decide) (by decide) (by decide), i0 55 (by decide) (by decide) (by decide)]; exact y.2.1.2⟩, ⟨by rw [← hh2, hp_I, upd_ne (by decide), hp_I, upd_at]; rfl, fun q hq => ?_⟩⟩, K9_c k (fun j hj => i62 j (by omega) (by omega)) (fun q hq => i0 q (by omega) (by omega) (by omega)), C9_c c9 (fun j a b => i62 j (by omega) (by omega)) (fun q a b => i0 q (by omega) (by omega) (by omega)) (by rw [← hh2]; rfl)⟩, sm⟩
  have hq : q < S.no + 1 := hq
  rw [i67, i68]
  by_cases c : q = S.no
  · subst c
    show upd (am_I h 57) S.no (nI S.m) S.no = nI ((S.ao S.m S.tx).om S.no) ∧ ∀ j, j < (S.ao S.m S.tx).om S.no → _ = (S.ao S.m S.tx).ox S.no j
    rw [o2, o3, upd_at]
    refine ⟨rfl, fun j hj => ?_⟩
    unfold lt_row
    rw [if_pos (by omega), show 0 + (60 * S.no + j - (60 * S.no + 0)) = j from by omega]
    exact y.1.2 j (by omega)
  · have hq' : q < S.no := by omega
    show upd (am_I h 57) S.no (nI S.m) q = nI ((S.ao S.m S.tx).om q) ∧ ∀ j, j < (S.ao S.m S.tx).om q → _ = (S.ao S.m S.tx).ox q j
    rw [(o1 q hq').1, (o1 q hq').2, upd_ne c]
    refine ⟨(y.2.2.2 q hq').1, fun j hj => ?_⟩
    have om60 := (ok.2.2.2.2.1 q hq').1
    unfold lt_row
    rw [if_neg (by omega)]
    exact (y.2.2.2 q hq').2 j hj
theorem nI_3 {n : Nat} (h : n ≤ 3) : (nI n < Int32.ofInt 3 ↔ n < 3) ∧ (nI n = Int32.ofInt 3 ↔ n = 3) := ⟨nI_ltI (a := n) (b := 3) (by omega) (by decide), nI_inj (a := n) (b := 3) (by omega) (by decide)⟩
theorem cl_4 {h : am_H} {c sl : Nat} (J : JJ h c sl) : am_stat h ∧ po_4 JJ h c sl := by
  obtain ⟨S, ok, x8, x9⟩ := J
  refine ⟨X8_st x8, 200, 200, ?_⟩
  have m60 := ok.1
  obtain ⟨w0, w1⟩ := rw_8 (X8_st x8) (X8_tx x8) (Int32.ofInt 1) 200 (by decide)
  cases wh : rd_whole (rd_run (Int32.ofInt 1) S.tx S.m 0 0 0).2 with
  | false =>
    obtain ⟨h1, e1, f1⟩ := w0 wh
    have x81 := X8_Y x8 (frY_8 f1)
    have x91 := X9_loc x9 (X8_st x81) (frY_9 (frY_8 f1))
    obtain ⟨h2, e2, -, i15, f2⟩ := rp_9 x91.2.1.1.1 x91.2.1.1.2 m60 (Int32.ofInt 1) 200 (by decide)
    refine ⟨Int32.ofInt (-103), h1, h2, 0, 0, ?_, ?_, JJ_of ok x81 (same8_K f2) (X9_K x91 f2)⟩
    · unfold f_X8_one; rw [e1, b2s, if_pos (show bI false = 0 from rfl)]
    · unfold f_X9_one; rw [e2, b2s, i15, wh, if_pos (show bI false = 0 from rfl)]
  | true =>
    have hv : vl (Int32.ofInt 1) S.tx S.m 0 0 0 := wh
    obtain ⟨h1, e1, f1, -⟩ := w1 hv
    have x81 := X8_Y x8 (frY_8 f1)
    have x91 := X9_loc x9 (X8_st x81) (frY_9 (frY_8 f1))
    have no3 := ok.2.2.2.1
    have ref : ∀ {g : am_H}, X9p g S → ∃ g', f_X9_one 200 g = (if bI (gRun (Int32.ofInt 1) (Int32.ofInt (-1)) S.tx S.m S.m 0 g00).idle = 0 then (if nI S.no = Int32.ofInt 3 then some (Int32.ofInt (-104), g') else g_X9_one 200 0 (Int32.ofInt 0) g') else some (Int32.ofInt (-103), g')) ∧ X9p g' S ∧ same8 g g' := by
      intro g xg
      obtain ⟨h2, e2, -, i15, f2⟩ := rp_9 xg.2.1.1.1 xg.2.1.1.2 m60 (Int32.ofInt 1) 200 (by decide)
      have x92 := X9_K xg f2
      obtain ⟨h3, e3, f3, i23⟩ := li9 (sort := Int32.ofInt 1) x92.2.1.1.1 x92.2.1.1.2 m60 (Or.inr rfl) hv 200 (by decide)
      obtain ⟨x93, s3⟩ := X9_f9 ok ok.2.1 x92 f3
      refine ⟨h3, ?_, x93, same8_t (same8_K f2) s3⟩
      unfold f_X9_one
      rw [e2, b2s, i15, wh, if_neg (show ¬ bI true = 0 by decide), e3, b2s, i23, x93.2.1.2.2.1]
    cases idl : (gRun (Int32.ofInt 1) (Int32.ofInt (-1)) S.tx S.m S.m 0 g00).idle with
    | true =>
      rw [idl] at e1
      obtain ⟨h2, e2, x92, s2⟩ := ref x91
      rw [idl, if_neg (show ¬ bI true = 0 by decide)] at e2
      refine ⟨Int32.ofInt (-103), h1, h2, 0, 0, ?_, e2, JJ_of ok x81 s2 x92⟩
      unfold f_X8_one; rw [e1, b2s, if_pos (show bI (!true) = 0 from rfl)]
    | false =>
      rw [idl] at e1
      by_cases c3 : S.no = 3
      · obtain ⟨h2, e2, x92, s2⟩ := ref x91
        rw [idl, if_pos (show bI false = 0 from rfl), if_pos ((nI_3 no3).2.mpr c3)] at e2
        refine ⟨Int32.ofInt (-104), h1, h2, 0, 0, ?_, e2, JJ_of ok x81 s2 x92⟩
        unfold f_X8_one
        rw [e1, b2s, if_neg (show ¬ bI (!false) = 0 by decide), (X8_n x81).2, if_neg (fun q => by have := (nI_3 no3).1.mp q; omega)]
      · have n3 : S.no < 3 := by omega
        have st1 := X8_st x81
        have h98 : 87 ≤ h1.1 := st1.1
        obtain ⟨hm, e2, xm, nm, tm⟩ := pc_8 st1 (X8_tx x81)
        have stm : am_stat hm := s_X4_copy 1 h1 st1 e2
        have e8 : f_X8_one 200 h = some ((nI S.no, am_sI (am_sI (am_sA hm 26 S.no (some h1.1)) 1 1 (Int32.ofInt 0)) 0 7 (nI (S.no + 1))), 2, 62) := by
          unfold f_X8_one
          rw [e1, b2s, if_neg (show ¬ bI (!false) = 0 by decide), (X8_n x81).2, if_pos ((nI_3 no3).1.mpr n3), e2, bcs, hp_isO tm.1, cond_true, hp_vp n3 (by decide), cond_true, nI_clamp (show S.no < 2 ^ 31 by omega), hp_I' _ 1 _ (show (0 : Nat) ≠ 1 by decide), sA_I, (xm.2 0 (by omega)).2.1, (X8_n x81).2, hp_1, cts]
        have eq : am_sI (am_sI (am_sA hm 26 S.no (some h1.1)) 1 1 (Int32.ofInt 0)) 0 7 (nI (S.no + 1)) = am_sI (koH hm S.no h1.1) 1 1 (Int32.ofInt 0) := sI_comm _ _ _ _ _ (by decide)
        have sk : am_stat (koH hm S.no h1.1) := by
          have z := s_X8_one 200 h (X8_st x8) e8
          rw [eq] at z
          exact z
        have x82 := X8_bl (X8_ao x81 xm sk (Nat.le_refl _) (by omega) (by omega) (by omega) tm (show 2 ≤ 2 by omega) (show 62 ≤ 200 by omega))
        have s12 : same9 h1 (am_sI (koH hm S.no h1.1) 1 1 (Int32.ofInt 0)) := fun p a b => ⟨by rw [hp_I' _ _ _ (by omega)]; unfold koH; rw [hp_I' _ _ _ (by omega), sA_I]; exact (xm.2 p (by omega)).2.1, (xm.2 p (by omega)).2.2.1⟩
        have x92 := X9_loc x91 (X8_st x82) s12
        obtain ⟨h3, e3, x93, s3⟩ := ref x92
        rw [idl, if_pos (show bI false = 0 from rfl), if_neg (fun q => c3 ((nI_3 no3).2.mp q))] at e3
        have o9 := on9 m60 n3 (199 - S.m) S.m 0 h3 (by omega) x93.2.1.1.1 x93.2.1.2.2.1 (fun j hj => by rw [x93.2.1.1.2 j (by omega)]; exact vl_by S.m 0 0 0 hv (by decide) j (Nat.zero_le _) (by omega))
        rw [show 199 - S.m + S.m + 1 = 200 from by omega] at o9
        obtain ⟨x94, s4⟩ := X9_ao ok x93 n3
        have ok' : PSok ((S.ao S.m S.tx).pg 0 S.tx) := ⟨Nat.zero_le _, (PSok_ao ok n3 m60 hv).2⟩
        refine ⟨nI S.no, _, _, 2, 62, by rw [e8, eq], e3.trans o9, JJ_of ok' x82 (same8_t s3 s4) x94⟩
theorem cl_5 (a1 a2 : Int32) {h : am_H} {c sl : Nat} (J : JJ h c sl) : am_stat h ∧ po_5 a1 a2 JJ h c sl := by
  obtain ⟨S, ok, x8, x9⟩ := J
  refine ⟨X8_st x8, 200, 200, ?_⟩
  have no3 := ok.2.2.2.1
  have n7 := (X8_n x8).2
  have n6 := x9.2.1.2.2.1
  have out : ∀ v, f_X8_own 200 a1 a2 h = some ((v, h), 0, 0) → f_X9_own 200 a1 a2 h = some (v, h) → ∃ (v : Int32) (h1 h2 : am_H) (c1 s1 : Nat), f_X8_own 200 a1 a2 h = some ((v, h1), c1, s1) ∧ f_X9_own 200 a1 a2 h1 = some (v, h2) ∧ c + c1 ≤ 600000 ∧ sl + s1 ≤ 7302250 ∧ JJ h2 (c + c1) (sl + s1) := fun v e1 e2 => ⟨v, h, h, 0, 0, e1, e2, JJ_ro ok x8 x9⟩
  rcases in_89 a1 (n := S.no) (by omega) with ⟨k, hk, rfl, q1, q2, q3, w⟩ | ⟨cc, w⟩
  · rcases of_89 a2 with ⟨o, ho, rfl, e⟩ | e
    · by_cases c8 : S.nb = 8
      · refine out (Int32.ofInt (-104)) ?_ ?_
        · unfold f_X8_own
          rw [if_neg q1, n7, if_neg q3, (e h).1, b2s, if_neg (show ¬ bI true = 0 by decide), (X8_n x8).1, if_neg (fun q => by have := (nI_8 ok.2.1).1.mp q; omega)]
        · unfold f_X9_own
          rw [n6, w, b2s, if_neg (show ¬ bI true = 0 by decide), (e h).2, b2s, if_neg (show ¬ bI true = 0 by decide), x9.2.1.2.1.1, if_pos ((nI_8 ok.2.1).2.mpr c8)]
      · have nb8 : S.nb < 8 := by have := ok.2.1; omega
        obtain ⟨om60, hv⟩ := ok.2.2.2.2.1 k hk
        have ton : ∃ a q, am_A h 26 k = some a ∧ tx8 h a q (S.om k) (S.ox k) := by
          obtain ⟨w, ba, cf, qf0, cc, qc0, c3', a3, b3, st, t, bk, on, tk, rw8, sv, co⟩ := x8
          obtain ⟨a, q, y1, -, -, y4⟩ := on.2 k hk
          exact ⟨a, q, y1, y4⟩
        obtain ⟨a, q, ea, ta⟩ := ton
        obtain ⟨bkk, co, d0⟩ := bk_whole (o := nI o) om60 hv
        obtain ⟨h1, e1, g1, f1⟩ := g8_gather ta (sK (X8_st x8) 5) (Int32.ofInt 1) (nI o) 200 (by decide) d0 bkk.1
        have x81 := X8_Y x8 (frY_8 f1)
        obtain ⟨h2, c1, z1, e2, x82, s2⟩ := kg_8 ok x81 nb8 g1 bkk.1 co
        have s12 := same9_t (frY_9 (frY_8 f1)) s2
        have x92 := X9_loc x9 (X8_st x82) s12
        have b2 : am_I h2 51 2 = nI S.nb := x92.2.1.2.1.1
        obtain ⟨h4, e4, f4, i66, -, i64, i65, -, -⟩ := g9_layT nb8 (Int32.ofInt 1) (nI o) (nI k) (fun _ => nI_m1ne (by omega)) (h := h2) (m := S.om k) (r := S.ox k) ⟨om60, Or.inr ⟨k, by omega, rfl, (x92.2.1.2.2.2 k hk).2⟩⟩ hv 200 (by decide)
        obtain ⟨x94, s4⟩ := X9_ab ok x92 f4 i66 (fun i a b => (i64 i a b).trans (co i a b)) i65
        have b4 : am_I h4 51 2 = nI S.nb := by rw [f4.2.2.1 2 (by decide) (by decide)]; exact b2
        refine ⟨nI S.nb, h2, am_sI h4 51 2 (nI (S.nb + 1)), c1, z1, ?_, ?_, JJ_of (PSok_ab ok nb8 bkk) x82 s4 x94⟩
        · unfold f_X8_own
          rw [if_neg q1, n7, if_neg q3, (e h).1, b2s, if_neg (show ¬ bI true = 0 by decide), (X8_n x8).1, if_pos ((nI_8 ok.2.1).1.mpr nb8), hp_vp (show k < 3 by omega) (by decide), cond_true, nI_clamp (show k < 2 ^ 31 by omega), ea, b_some, e1, b2s]
          exact e2
        · unfold f_X9_own
          rw [show am_I h2 51 6 = nI S.no from x92.2.1.2.2.1, w, b2s, if_neg (show ¬ bI true = 0 by decide), (e h2).2, b2s, if_neg (show ¬ bI true = 0 by decide), b2, if_neg (fun q => c8 ((nI_8 ok.2.1).2.mp q)), hp_vp (show k < 3 by omega) (by decide), cond_true, nI_clamp (show k < 2 ^ 31 by omega), (x92.2.1.2.2.2 k hk).1, e4, b2s, b4, hp_1, hp_I _ 51 2, upd_at, nI_m1 (by omega)]
          rfl
    · refine out (Int32.ofInt (-101)) ?_ ?_
      · unfold f_X8_own
        rw [if_neg q1, n7, if_neg q3, (e h).1, b2s, if_pos (show bI false = 0 from rfl)]
      · unfold f_X9_own
        rw [n6, w, b2s, if_neg (show ¬ bI true = 0 by decide), (e h).2, b2s, if_pos (show bI false = 0 from rfl)]
  · refine out (Int32.ofInt (-101)) ?_ ?_
    · unfold f_X8_own
      rcases cc with cc | ⟨c1, c2, c3⟩
      · rw [if_pos cc]
      · rw [if_neg c1, n7, if_pos c3]
    · unfold f_X9_own
      rw [n6, w, b2s, if_pos (show bI false = 0 from rfl)]
