section
variable {P1 P2 : Nat} {nx1 nx2 : Nat → Option Nat} {en1 en2 : Nat → Bool}
theorem nEq_mono {N : Nat} {pw : Nat → List Nat} {u : List Nat} {l r : Nat} (h : nEq P1 P2 nx1 nx2 en1 en2 N pw l r) : nEq P1 P2 nx1 nx2 en1 en2 (N + 1) (fun i => if i = N then u else pw i) l r := fun x hx => (h x hx).imp id (fun ⟨i, hi, hd⟩ => ⟨i, by omega, by
  show nD nx1 nx2 en1 en2 (x ++ if i = N then u else pw i)
  rw [if_neg (by omega)]; exact hd⟩)
theorem nEq_new {N : Nat} {pw : Nat → List Nat} {u : List Nat} (h1 : ∀ w v, (∀ b, b ∈ w → b < 24) → mPl nx1 w = some v → v < P1) (h2 : ∀ w v, (∀ b, b ∈ w → b < 24) → mPl nx2 w = some v → v < P2) (hu : ∀ b, b ∈ u → b < 24) : nEq P1 P2 nx1 nx2 en1 en2 (N + 1) (fun i => if i = N then u else pw i) (nLN P1 P2 nx1 u) (nRN P1 P2 nx2 u) := by
  intro x _
  by_cases hd : nD nx1 nx2 en1 en2 (x ++ u)
  · exact Or.inr ⟨N, by omega, by show nD nx1 nx2 en1 en2 (x ++ if N = N then u else pw N); rw [if_pos rfl]; exact hd⟩
  · left
    rw [nA_L h1 hu x, nA_R h2 hu x]
    have : nE nx1 en1 (x ++ u) = nE nx2 en2 (x ++ u) := Classical.byContradiction fun h => hd h
    rw [this]
theorem le_8 {H : am_H} {m1 e1 r1 m2 e2 r2 : Nat} (c : CM H m1 e1 r1 m2 e2 r2 P1 P2 nx1 nx2 en1 en2) {w : List Nat} (hw : ∀ b, b ∈ w → b < 24) : (if nI (nLN P1 P2 nx1 w) = (am_I H 19 3) then some (Int32.ofInt 0) else (am_A H 19 1).bind fun q36 => (bif am_isO H q36 3 then ((am_A H q36 1).bind fun q39 => ((am_ln H 2 q39).bind fun n41 => (bif am_vp (nI (nLN P1 P2 nx1 w)) n41 then ((if (am_I H q39 (Int32.toNatClampNeg (nI (nLN P1 P2 nx1 w)))) = 0 then some (Int32.ofInt 0) else some (Int32.ofInt 1))) else none))) else none)) = some (bI (nE nx1 en1 w)) := by
  obtain ⟨a1, a2, ⟨k1, k2, k3, k4, k5, k6, k7, k8⟩, _, a5, ⟨b1, b2, b3, b4⟩, a7, a8⟩ := c
  unfold nLN nE
  cases hm : mPl nx1 w with
  | none => rw [a5, if_pos rfl]; rfl
  | some v =>
    have hv := mPl_lt b1 a7 w v hw hm
    show (if nI v = (am_I H 19 3) then some (Int32.ofInt 0) else (am_A H 19 1).bind fun q36 => (bif am_isO H q36 3 then ((am_A H q36 1).bind fun q39 => ((am_ln H 2 q39).bind fun n41 => (bif am_vp (nI v) n41 then ((if (am_I H q39 (Int32.toNatClampNeg (nI v))) = 0 then some (Int32.ofInt 0) else some (Int32.ofInt 1))) else none))) else none)) = some (bI (en1 v))
    rw [a5, if_neg (fun e => by have := (nI_inj (by omega) (by omega)).mp e; omega), a1, b_some, hp_isO k1, cond_true, k3, b_some, hp_ln k5, b_some, hp_vp hv (by omega), cond_true, nI_clamp (by omega), k7 v hv]
    cases en1 v <;> rfl
theorem re_8 {H : am_H} {m1 e1 r1 m2 e2 r2 : Nat} (c : CM H m1 e1 r1 m2 e2 r2 P1 P2 nx1 nx2 en1 en2) {w : List Nat} (hw : ∀ b, b ∈ w → b < 24) : (if nI (nRN P1 P2 nx2 w) = (am_I H 19 3) then some (Int32.ofInt 0) else (am_A H 19 2).bind fun q98 => (bif am_isO H q98 3 then ((am_A H q98 1).bind fun q101 => ((am_A H 19 1).bind fun q103 => (bif am_isO H q103 3 then ((am_ln H 2 q101).bind fun n106 => (bif am_vp (nI (nRN P1 P2 nx2 w) - (am_I H q103 0)) n106 then ((if (am_I H q101 (Int32.toNatClampNeg (nI (nRN P1 P2 nx2 w) - (am_I H q103 0)))) = 0 then some (Int32.ofInt 0) else some (Int32.ofInt 1))) else none)) else none))) else none)) = some (bI (nE nx2 en2 w)) := by
  obtain ⟨a1, a2, ⟨l1, l2, l3, l4, l5, l6, l7, l8⟩, ⟨k1, k2, k3, k4, k5, k6, k7, k8⟩, a5, ⟨b1, b2, b3, b4⟩, a7, a8⟩ := c
  unfold nRN nE
  cases hm : mPl nx2 w with
  | none => rw [a5, if_pos rfl]; rfl
  | some v =>
    have hv := mPl_lt b3 a8 w v hw hm
    have sb : nI (P1 + v) - nI P1 = nI v := by rw [nI_subN (by omega)]; congr 1; omega
    show (if nI (P1 + v) = am_I H 19 3 then _ else _) = some (bI (en2 v))
    rw [a5, if_neg (fun e => by have := (nI_inj (by omega) (by omega)).mp e; omega), a2, b_some, hp_isO k1, cond_true, k3, b_some, a1, b_some, hp_isO l1, cond_true, hp_ln k5, b_some, l2, sb, hp_vp hv (by omega), cond_true, nI_clamp (by omega), k7 v hv]
    cases en2 v <;> rfl
theorem mt_8 {h : am_H} {cap : Nat} {q : Nat → Nat} {m1 e1 r1 m2 e2 r2 : Nat} (cm : CM h m1 e1 r1 m2 e2 r2 P1 P2 nx1 nx2 en1 en2) (sp : sep6 q m1 e1 r1 m2 e2 r2) {N : Nat} {pw : Nat → List Nat} {fr sb : Nat → Int32} {χ ρ : Nat → Nat} (c : C8 P1 P2 nx1 nx2 h cap q N pw fr sb χ) (hcap : P1 + P2 + 1 ≤ cap) (hc2 : cap ≤ 100000) (hN : N ≤ P1 + P2) (u : UF (P1 + P2) χ ρ N (nEq P1 P2 nx1 nx2 en1 en2 N pw)) (h5 : am_I h 19 5 = Int32.ofInt (-1)) {w : List Nat} (hw : ∀ b, b ∈ w → b < 24) (f s : Int32) :
    ∃ h', (∀ F, 10000 ≤ F → f_X1_meet F (nI (nLN P1 P2 nx1 w)) (nI (nRN P1 P2 nx2 w)) f s h = some ((), h')) ∧ frC q h h' ∧
      ((∃ χ', C8 P1 P2 nx1 nx2 h' cap q N pw fr sb χ' ∧ UF (P1 + P2) χ' ρ N (nEq P1 P2 nx1 nx2 en1 en2 N pw) ∧ nEq P1 P2 nx1 nx2 en1 en2 N pw (nLN P1 P2 nx1 w) (nRN P1 P2 nx2 w) ∧ am_I h' 19 5 = Int32.ofInt (-1)) ∨
       (∃ χ' ρ', C8 P1 P2 nx1 nx2 h' cap q (N + 1) (fun i => if i = N then w else pw i) (fun i => if i = N then f else fr i) (fun i => if i = N then s else sb i) χ' ∧ UF (P1 + P2) χ' ρ' (N + 1) (nEq P1 P2 nx1 nx2 en1 en2 (N + 1) (fun i => if i = N then w else pw i)) ∧ N + 1 ≤ P1 + P2 ∧ ((¬ nD nx1 nx2 en1 en2 w ∧ am_I h' 19 5 = Int32.ofInt (-1)) ∨ (nD nx1 nx2 en1 en2 w ∧ am_I h' 19 5 = nI N ∧ am_I h' 19 0 = bI (nE nx1 en1 w))))) := by
  obtain ⟨cr, c4, crow, cχ⟩ := c
  have cm' := cm
  obtain ⟨a1, a2, M1, M2, a5, ⟨b1, b2, b3, b4⟩, a7, a8⟩ := cm'
  have v1 := mPl_lt b1 a7
  have v2 := mPl_lt b3 a8
  have lW : nLN P1 P2 nx1 w ≤ P1 + P2 := by
    unfold nLN
    cases hm : mPl nx1 w with
    | none => exact Nat.le_refl _
    | some v => have := v1 w v hw hm; show v ≤ _; omega
  have rW : nRN P1 P2 nx2 w ≤ P1 + P2 := by
    unfold nRN
    cases hm : mPl nx2 w with
    | none => exact Nat.le_refl _
    | some v => have := v2 w v hw hm; show P1 + v ≤ _; omega
  have hv := nEq_v (P1 := P1) (P2 := P2) (nx1 := nx1) (nx2 := nx2) (en1 := en1) (en2 := en2) N pw
  obtain ⟨χ1, t1, g1, s1, u1, rt1, tW1, et1, x1, f1, o1, ro1⟩ := ch_8 hv hN hcap hc2 lW cr a5 u cχ
  have cr1 := CR_fr cr f1
  have a51 : am_I g1 19 3 = nI (P1 + P2) := by rw [f1.2.2.2.2.2 3 (by decide) (by decide) (by decide)]; exact a5
  obtain ⟨χ2, t2, g2, s2, u2, rt2, tW2, et2, x2, f2, o2, ro2⟩ := ch_8 hv hN hcap hc2 rW cr1 a51 u1 x1
  have cr2 := CR_fr cr1 f2
  have f12 := frC_t f1 f2
  have q6n := (cr.1 6 (by decide) (by decide)).2.2.1
  have qne : ∀ i j, 6 ≤ i → i ≤ 10 → 6 ≤ j → j ≤ 10 → i ≠ j → q i ≠ q j := fun i j i6 i10 j6 j10 hij e => hij (cr.2.1 i j i6 i10 j6 j10 e)
  have q19 : ∀ k, 6 ≤ k → k ≤ 10 → 19 ≠ q k := fun k k6 k10 e => (cr.1 k k6 k10).2.2.1 e.symm
  have og : ∀ o, o ≠ q 6 → am_I g2 o = am_I h o := fun o ho => (o2 o ho).trans (o1 o ho)
  have rt1' : χ2 t1 = t1 := ro2 t1 rt1
  have g19 : am_I g2 19 = am_I h 19 := og 19 (q19 6 (by decide) (by decide))
  by_cases heq : t1 = t2
  · -- alike already
    refine ⟨g2, fun F hF => ?_, f12, Or.inl ⟨χ2, ⟨cr2, by rw [g19]; exact c4, ?_, x2⟩, u2, ?_, by rw [g19]; exact h5⟩⟩
    · unfold f_X1_meet
      rw [s1 F (by omega), b2s, s2 F (by omega), b2s, heq, if_pos rfl]
    · intro i hi
      rw [og _ (qne 7 6 (by decide) (by decide) (by decide) (by decide) (by decide)), og _ (qne 8 6 (by decide) (by decide) (by decide) (by decide) (by decide)), og _ (qne 9 6 (by decide) (by decide) (by decide) (by decide) (by decide)), og _ (qne 10 6 (by decide) (by decide) (by decide) (by decide) (by decide))]
      exact crow i hi
    · rw [heq] at et1
      exact hv.2.2 _ _ _ et1 (hv.2.1 _ _ et2)
  · -- a new pair
    have hEb : nEq P1 P2 nx1 nx2 en1 en2 (N + 1) (fun i => if i = N then w else pw i) t2 t1 := by
      have hv' := nEq_v (P1 := P1) (P2 := P2) (nx1 := nx1) (nx2 := nx2) (en1 := en1) (en2 := en2) (N + 1) (fun i => if i = N then w else pw i)
      exact hv'.2.2 _ _ _ (hv'.2.1 _ _ (nEq_mono et2)) (hv'.2.2 _ _ _ (hv'.2.1 _ _ (nEq_new v1 v2 hw)) (nEq_mono et1))
    obtain ⟨u3, hNW⟩ := UF_join u2 (fun a b => nEq_mono (u := w)) tW1 tW2 rt1' rt2 heq hEb
    have ne : ¬ nI t1 = nI t2 := fun e => heq ((nI_inj (by omega) (by omega)).mp e)
    have vt : am_vp (nI t2) cap = true := hp_vp (by omega) (by omega)
    have ct : Int32.toNatClampNeg (nI t2) = t2 := nI_clamp (by omega)
    have vN : am_vp (nI N) cap = true := hp_vp (by omega) (by omega)
    have cN : Int32.toNatClampNeg (nI N) = N := nI_clamp (by omega)
    have g4 : am_I g2 19 4 = nI N := by rw [g19]; exact c4
    have A : ∀ k, 6 ≤ k → k ≤ 10 → am_A g2 19 k = some (q k) := fun k k6 k10 => (cr2.1 k k6 k10).1
    have Kq : ∀ k, 6 ≤ k → k ≤ 10 → am_K g2 (q k) = .inr (0, cap) := fun k k6 k10 => (cr2.1 k k6 k10).2.2.2
    let H1 := am_sI g2 (q 6) t2 (nI t1)
    let H2 := am_sI H1 (q 7) N (nI (nLN P1 P2 nx1 w))
    let H3 := am_sI H2 (q 8) N (nI (nRN P1 P2 nx2 w))
    let H4 := am_sI H3 (q 9) N f
    let H5 := am_sI H4 (q 10) N s
    have k1 : frC q g2 H1 := frC_s cr2 (by decide) (by decide) _ _
    have k2 : frC q g2 H2 := frC_t k1 (frC_s (CR_fr cr2 k1) (by decide) (by decide) _ _)
    have k3 : frC q g2 H3 := frC_t k2 (frC_s (CR_fr cr2 k2) (by decide) (by decide) _ _)
    have k4 : frC q g2 H4 := frC_t k3 (frC_s (CR_fr cr2 k3) (by decide) (by decide) _ _)
    have k5 : frC q g2 H5 := frC_t k4 (frC_s (CR_fr cr2 k4) (by decide) (by decide) _ _)
    have i1 : am_I H1 19 = am_I g2 19 := hp_I' _ _ _ (q19 6 (by decide) (by decide))
    have i2 : am_I H2 19 = am_I g2 19 := (hp_I' _ _ _ (q19 7 (by decide) (by decide))).trans i1
    have i3 : am_I H3 19 = am_I g2 19 := (hp_I' _ _ _ (q19 8 (by decide) (by decide))).trans i2
    have i4 : am_I H4 19 = am_I g2 19 := (hp_I' _ _ _ (q19 9 (by decide) (by decide))).trans i3
    have i5 : am_I H5 19 = am_I g2 19 := (hp_I' _ _ _ (q19 10 (by decide) (by decide))).trans i4
    have cm5 : CM H5 m1 e1 r1 m2 e2 r2 P1 P2 nx1 nx2 en1 en2 := CM_fr (CM_fr cm f12 sp) k5 sp
    have L := le_8 cm5 hw
    have Rr := re_8 cm5 hw
    -- the rows behind
    have rows : ∀ h', (∀ o, o ≠ 19 → am_I h' o = am_I H5 o) → am_A h' = am_A H5 → am_K h' = am_K H5 → h'.1 = H5.1 → am_I h' 19 4 = nI (N + 1) → C8 P1 P2 nx1 nx2 h' cap q (N + 1) (fun i => if i = N then w else pw i) (fun i => if i = N then f else fr i) (fun i => if i = N then s else sb i) (updN χ2 t2 t1) := by
      intro h' oh oA oK on h4'
      have cr5 := CR_fr cr2 k5
      refine ⟨⟨fun k k6 k10 => ?_, cr5.2.1, by rw [on]; exact cr5.2.2⟩, h4', ?_, ?_⟩
      · rw [oA, oK, on]; exact cr5.1 k k6 k10
      · intro i hi
        have e7 : am_I H5 (q 7) = upd (am_I g2 (q 7)) N (nI (nLN P1 P2 nx1 w)) := by
          show am_I (am_sI (am_sI (am_sI (am_sI H1 (q 7) N _) (q 8) N _) (q 9) N _) (q 10) N _) (q 7) = _
          rw [hp_I' _ _ _ (qne 7 10 (by decide) (by decide) (by decide) (by decide) (by decide)), hp_I' _ _ _ (qne 7 9 (by decide) (by decide) (by decide) (by decide) (by decide)), hp_I' _ _ _ (qne 7 8 (by decide) (by decide) (by decide) (by decide) (by decide)), hp_I, hp_I' _ _ _ (qne 7 6 (by decide) (by decide) (by decide) (by decide) (by decide))]
        have e8 : am_I H5 (q 8) = upd (am_I g2 (q 8)) N (nI (nRN P1 P2 nx2 w)) := by
          show am_I (am_sI (am_sI (am_sI H2 (q 8) N _) (q 9) N _) (q 10) N _) (q 8) = _
          rw [hp_I' _ _ _ (qne 8 10 (by decide) (by decide) (by decide) (by decide) (by decide)), hp_I' _ _ _ (qne 8 9 (by decide) (by decide) (by decide) (by decide) (by decide)), hp_I, hp_I' _ _ _ (qne 8 7 (by decide) (by decide) (by decide) (by decide) (by decide)), hp_I' _ _ _ (qne 8 6 (by decide) (by decide) (by decide) (by decide) (by decide))]
        have e9 : am_I H5 (q 9) = upd (am_I g2 (q 9)) N f := by
          show am_I (am_sI (am_sI H3 (q 9) N _) (q 10) N _) (q 9) = _
          rw [hp_I' _ _ _ (qne 9 10 (by decide) (by decide) (by decide) (by decide) (by decide)), hp_I, hp_I' _ _ _ (qne 9 8 (by decide) (by decide) (by decide) (by decide) (by decide)), hp_I' _ _ _ (qne 9 7 (by decide) (by decide) (by decide) (by decide) (by decide)), hp_I' _ _ _ (qne 9 6 (by decide) (by decide) (by decide) (by decide) (by decide))]
        have e10 : am_I H5 (q 10) = upd (am_I g2 (q 10)) N s := by
          show am_I (am_sI H4 (q 10) N _) (q 10) = _
          rw [hp_I, hp_I' _ _ _ (qne 10 9 (by decide) (by decide) (by decide) (by decide) (by decide)), hp_I' _ _ _ (qne 10 8 (by decide) (by decide) (by decide) (by decide) (by decide)), hp_I' _ _ _ (qne 10 7 (by decide) (by decide) (by decide) (by decide) (by decide)), hp_I' _ _ _ (qne 10 6 (by decide) (by decide) (by decide) (by decide) (by decide))]
        rw [oh _ (fun e => q19 7 (by decide) (by decide) e.symm), oh _ (fun e => q19 8 (by decide) (by decide) e.symm), oh _ (fun e => q19 9 (by decide) (by decide) e.symm), oh _ (fun e => q19 10 (by decide) (by decide) e.symm), e7, e8, e9, e10]
        by_cases c : i = N
        · subst c
          simp only [upd_at, if_true]
          exact ⟨trivial, trivial, trivial, trivial⟩
        · simp only [upd_ne c, if_neg c]
          rw [og _ (qne 7 6 (by decide) (by decide) (by decide) (by decide) (by decide)), og _ (qne 8 6 (by decide) (by decide) (by decide) (by decide) (by decide)), og _ (qne 9 6 (by decide) (by decide) (by decide) (by decide) (by decide)), og _ (qne 10 6 (by decide) (by decide) (by decide) (by decide) (by decide))]
          exact crow i (by omega)
      · intro y hy
        have e6 : am_I H5 (q 6) = upd (am_I g2 (q 6)) t2 (nI t1) := by
          show am_I (am_sI (am_sI (am_sI (am_sI (am_sI g2 (q 6) t2 _) (q 7) N _) (q 8) N _) (q 9) N _) (q 10) N _) (q 6) = _
          rw [hp_I' _ _ _ (qne 6 10 (by decide) (by decide) (by decide) (by decide) (by decide)), hp_I' _ _ _ (qne 6 9 (by decide) (by decide) (by decide) (by decide) (by decide)), hp_I' _ _ _ (qne 6 8 (by decide) (by decide) (by decide) (by decide) (by decide)), hp_I' _ _ _ (qne 6 7 (by decide) (by decide) (by decide) (by decide) (by decide)), hp_I]
        rw [oh _ (fun e => q19 6 (by decide) (by decide) e.symm), e6]
        by_cases c : y = t2
        · rw [c, upd_at, updN_at]
        · rw [upd_ne c, updN_ne c]; exact x2 y hy
    -- what is done, up to the ends
    have un : ∀ F, 10000 ≤ F → f_X1_meet F (nI (nLN P1 P2 nx1 w)) (nI (nRN P1 P2 nx2 w)) f s h = Option.bind (if bI (nE nx1 en1 w) = bI (nE nx2 en2 w) then some H5 else bif am_b01 (bI (nE nx1 en1 w)) then (some (am_sI (am_sI H5 19 5 (am_I H5 19 4)) 19 0 (bI (nE nx1 en1 w)))) else none) fun h160 => some ((), am_sI h160 19 4 (am_I h160 19 4 + Int32.ofInt 1)) := by
      intro F hF
      have A7 : am_A H1 19 7 = some (q 7) := A 7 (by decide) (by decide)
      have A8 : am_A H2 19 8 = some (q 8) := A 8 (by decide) (by decide)
      have A9 : am_A H3 19 9 = some (q 9) := A 9 (by decide) (by decide)
      have A10 : am_A H4 19 10 = some (q 10) := A 10 (by decide) (by decide)
      have N7 : am_ln H1 0 (q 7) = some cap := hp_ln (Kq 7 (by decide) (by decide))
      have N8 : am_ln H2 0 (q 8) = some cap := hp_ln (Kq 8 (by decide) (by decide))
      have N9 : am_ln H3 0 (q 9) = some cap := hp_ln (Kq 9 (by decide) (by decide))
      have N10 : am_ln H4 0 (q 10) = some cap := hp_ln (Kq 10 (by decide) (by decide))
      have S1 : am_I H1 19 4 = nI N := by rw [i1]; exact g4
      have S2 : am_I H2 19 4 = nI N := by rw [i2]; exact g4
      have S3 : am_I H3 19 4 = nI N := by rw [i3]; exact g4
      have S4 : am_I H4 19 4 = nI N := by rw [i4]; exact g4
      unfold f_X1_meet
      rw [s1 F (by omega), b2s, s2 F (by omega), b2s, if_neg ne, A 6 (by decide) (by decide), b_some, hp_ln (Kq 6 (by decide) (by decide)), b_some, vt, cond_true, ct]
      show ((am_A H1 19 7).bind fun q13 => ((am_ln H1 0 q13).bind fun n15 => (bif am_vp (am_I H1 19 4) n15 then _ else none))) = _
      rw [A7, b_some, N7, b_some, S1, vN, cond_true, cN]
      show ((am_A H2 19 8).bind fun q18 => ((am_ln H2 0 q18).bind fun n20 => (bif am_vp (am_I H2 19 4) n20 then _ else none))) = _
      rw [A8, b_some, N8, b_some, S2, vN, cond_true, cN]
      show ((am_A H3 19 9).bind fun q23 => ((am_ln H3 0 q23).bind fun n25 => (bif am_vp (am_I H3 19 4) n25 then _ else none))) = _
      rw [A9, b_some, N9, b_some, S3, vN, cond_true, cN]
      show ((am_A H4 19 10).bind fun q28 => ((am_ln H4 0 q28).bind fun n30 => (bif am_vp (am_I H4 19 4) n30 then _ else none))) = _
      rw [A10, b_some, N10, b_some, S4, vN, cond_true, cN]
      refine (congrArg (fun o => Option.bind o _) L).trans ?_
      rw [b_some]
      refine (congrArg (fun o => Option.bind o _) Rr).trans ?_
      rw [b_some]
    have h54 : am_I H5 19 4 = nI N := by rw [i5]; exact g4
    have h55 : am_I H5 19 5 = Int32.ofInt (-1) := by rw [i5, g19]; exact h5
    by_cases hd : nD nx1 nx2 en1 en2 w
    · have nb : ¬ bI (nE nx1 en1 w) = bI (nE nx2 en2 w) := by
        intro e
        apply hd
        cases h1 : nE nx1 en1 w <;> cases h2 : nE nx2 en2 w <;> first | rfl | (rw [h1, h2] at e; exact absurd e (by decide))
      refine ⟨am_sI (am_sI (am_sI H5 19 5 (nI N)) 19 0 (bI (nE nx1 en1 w))) 19 4 (nI (N + 1)), fun F hF => ?_, frC_t f12 (frC_t k5 (frC_t (frC_n q _ (Or.inr (Or.inr rfl)) _) (frC_t (frC_n q _ (Or.inl rfl) _) (frC_n q _ (Or.inr (Or.inl rfl)) _)))), Or.inr ⟨updN χ2 t2 t1, _, rows _ ?_ rfl rfl rfl ?_, u3, hNW, Or.inr ⟨hd, ?_, ?_⟩⟩⟩
      · rw [un F hF, if_neg nb, b01_bI, cond_true, b_some, h54, hp_I, upd_ne (show (4 : Nat) ≠ 0 by decide), hp_I, upd_ne (show (4 : Nat) ≠ 5 by decide), h54, hp_1]
      · intro o ho
        rw [hp_I' _ _ _ ho, hp_I' _ _ _ ho, hp_I' _ _ _ ho]
      · rw [hp_I, upd_at]
      · rw [hp_I, upd_ne (by decide), hp_I, upd_ne (by decide), hp_I, upd_at]
      · rw [hp_I, upd_ne (by decide), hp_I, upd_at]
    · have eb : bI (nE nx1 en1 w) = bI (nE nx2 en2 w) := by
        have : nE nx1 en1 w = nE nx2 en2 w := Classical.byContradiction fun h => hd h
        rw [this]
      refine ⟨am_sI H5 19 4 (nI (N + 1)), fun F hF => ?_, frC_t f12 (frC_t k5 (frC_n q _ (Or.inr (Or.inl rfl)) _)), Or.inr ⟨updN χ2 t2 t1, _, rows _ ?_ rfl rfl rfl ?_, u3, hNW, Or.inl ⟨hd, ?_⟩⟩⟩
      · rw [un F hF, if_pos eb, b_some, h54, hp_1]
      · intro o ho
        rw [hp_I' _ _ _ ho]
      · rw [hp_I, upd_at]
      · rw [hp_I, upd_ne (by decide)]; exact h55
end
