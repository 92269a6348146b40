/-! ===== p1: steps, seats, letters that lie ===== -/
def gH {α : Type} (o : Option (α × am_H)) : am_H := match o with
  | some (_, h) => h
  | none => hF
theorem gH_ok {α : Type} {o : Option (α × am_H)} {v : α} (h : o.map Prod.fst = some v) : o = some (v, gH o) := by
  cases o with
  | none => cases h
  | some p =>
    obtain ⟨a, b⟩ := p
    have e : a = v := Option.some.inj h
    subst e
    rfl
theorem ex_ok {α : Type} {o : Option (α × am_H)} {v : α} (h : o.map Prod.fst = some v) : ∃ h2, o = some (v, h2) := ⟨_, gH_ok h⟩
def hL1 : am_H := gH (f_X7_list 100 (am_J hF 0 10) hF)
theorem e_list : f_X7_list 100 (am_J hF 0 10) hF = some (0, hL1) := gH_ok (by decide +kernel)
def hM1 : am_H := gH (f_X9_laySteps 100 hL1)
theorem e_lay : f_X9_laySteps 100 hL1 = some ((), hM1) := gH_ok (by decide +kernel)
theorem z_m44 : am_I hM1 62 44 = 0 := by decide +kernel
theorem w_none (a : Int32) (h : am_H) : f_X9_within a (Int32.ofInt 0) ((0 : Int32) - Int32.ofInt 1) h = some (Int32.ofInt 0, h) := by
  refine p9_w0 h ?_
  by_cases h : a < 0
  · exact Or.inl h
  · exact Or.inr (i_m1 h)
theorem q_19 (a1 : Int32) : po_19 a1 pJ hF 98 824412 := by
  refine ⟨100, 100, Int32.ofInt (-1), hL1, hM1, ?_, ?_, fJ hM1⟩
  · unfold f_X8_step
    rw [e_list]
    show Option.bind (if a1 < 0 then _ else (if a1 < 0 then _ else _)) _ = _
    by_cases h : a1 < 0
    · rw [if_pos h]; rfl
    · rw [if_neg h, if_neg h]; rfl
  · unfold f_X9_step
    rw [e_lay]
    show am_b2 (f_X9_within a1 (Int32.ofInt 0) (am_I hM1 62 44 - Int32.ofInt 1) hM1) _ = _
    rw [z_m44, w_none]; rfl
theorem q_20 (a1 : Int32) : po_20 a1 pJ hF 98 824412 := by
  refine ⟨100, 100, Int32.ofInt (-103), hL1, hM1, ?_, ?_, fJ hM1⟩
  · unfold f_X8_go
    rw [e_list]
    show (if a1 < 0 then _ else (if a1 < 0 then _ else _)) = _
    by_cases h : a1 < 0
    · rw [if_pos h]
    · rw [if_neg h, if_neg h]
  · unfold f_X9_go
    rw [e_lay]
    show am_b2 (f_X9_within a1 (Int32.ofInt 0) (am_I hM1 62 44 - Int32.ofInt 1) hM1) _ = _
    rw [z_m44, w_none]; rfl
set_option maxRecDepth 100000 in
theorem q_21 (a1 a2 : Int32) : po_21 a1 a2 pJ hF 98 824412 := by
  by_cases h1 : a1 < 0
  · exact ⟨0, 0, Int32.ofInt (-102), hF, hF, by unfold f_X8_run; rw [if_pos h1], by unfold f_X9_run; rw [if_pos h1], fJ hF⟩
  · by_cases h2 : a2 < Int32.ofInt 1
    · exact ⟨0, 0, Int32.ofInt (-102), hF, hF, by unfold f_X8_run; rw [if_neg h1, if_pos h2], by unfold f_X9_run; rw [if_neg h1, p9_w0 hF (Or.inl h2)]; rfl, fJ hF⟩
    · by_cases h3 : a2 ≤ Int32.ofInt 200
      · have h4 : ¬ a2 ≤ Int32.ofInt 0 := by
          intro h
          rw [Int32.lt_iff_toInt_lt] at h2
          rw [Int32.le_iff_toInt_le] at h
          have e1 : (Int32.ofInt 1).toInt = 1 := by decide
          have e0 : (Int32.ofInt 0).toInt = 0 := by decide
          omega
        refine ⟨101, 100, Int32.ofInt 0, hL1, hM1, ?_, ?_, fJ hM1⟩
        · unfold f_X8_run
          rw [if_neg h1, if_neg h2, if_pos h3]
          show (if a2 ≤ Int32.ofInt 0 then _ else am_b2 (f_X7_list 100 (am_J hF 0 10) hF) _) = _
          rw [if_neg h4, e_list]
          rw [b2s, if_neg (by decide)]
        · unfold f_X9_run
          rw [if_neg h1, p9_w1 hL1 h2 (Int32.not_lt.mpr h3)]
          rw [b2s, if_neg (by decide), e_lay, b2s]
          show (if a2 ≤ Int32.ofInt 0 then _ else (if am_I hM1 62 44 ≤ 0 then _ else _)) = _
          rw [if_neg h4, z_m44, if_pos (by decide)]
      · exact ⟨0, 0, Int32.ofInt (-102), hF, hF, by unfold f_X8_run; rw [if_neg h1, if_neg h2, if_neg h3], by unfold f_X9_run; rw [if_neg h1, p9_w0 hF (Or.inr (Int32.not_le.mp h3))]; rfl, fJ hF⟩
theorem q_13 (a1 a2 : Int32) : po_13 a1 a2 pJ hF 98 824412 := by
  rcases o_cases a1 with ho | ⟨j, hj, rfl⟩
  · exact ⟨0, 0, Int32.ofInt (-101), hF, hF, by unfold f_X8_seat; rw [(ho hF).1]; rfl, by unfold f_X9_seat; rw [(ho hF).2]; rfl, fJ hF⟩
  · by_cases h : a2 = Int32.ofInt (-1)
    · subst h
      have key : ∀ j, j < 3 → ckI (f_X8_seat 100 (nI j) (Int32.ofInt (-1)) hF) (f_X9_seat 100 (nI j) (Int32.ofInt (-1))) = true := by decide +kernel
      obtain ⟨v, h1, h2, e1, e2⟩ := ckI_ok (key j hj)
      exact ⟨_, _, v, h1, h2, e1, e2, fJ h2⟩
    · refine ⟨0, 0, Int32.ofInt (-101), hF, hF, ?_, ?_, fJ hF⟩
      · unfold f_X8_seat
        rw [p8_o1 hF hj]
        show (if a2 = Int32.ofInt (-1) then _ else am_b2 (f_X8_isBook a2 hF) _) = _
        rw [if_neg h, p8_isBook]; rfl
      · unfold f_X9_seat
        rw [p9_o1 hF hj]
        show (if a2 = Int32.ofInt (-1) then _ else am_b2 (f_X9_isBook a2 hF) _) = _
        rw [if_neg h, p9_isBook]; rfl
theorem e_load : ∀ i, i < 3 → ∀ j, j < 3 → i ≠ j → (f_X8_postOf (nI i) (nI j) hF).map Prod.fst = some (nI (2 * i + if i < j then j - 1 else j)) := by decide +kernel
theorem e_load2 : ∀ p, p < 6 → (f_X7_loadIn (am_J hF 0 10) (nI p) hF).map Prod.fst = some 0 := by decide +kernel
theorem e_vp9 : ∀ i, i < 3 → ∀ j, j < 3 → am_vp (Int32.ofInt 3 * nI i + nI j) 9 = true ∧ am_I hF 89 (Int32.ofInt 3 * nI i + nI j).toNatClampNeg = 0 := by decide +kernel
theorem q_23 (a1 a2 a3 : Int32) : po_23 a1 a2 a3 pJ hF 98 824412 := by
  rcases s_cases a1 a2 with hs | ⟨i, j, hi, hj, hij, rfl, rfl⟩
  · exact ⟨0, Int32.ofInt (-101), hF, hF, by unfold f_X8_lies; rw [(hs hF).1]; rfl, by unfold f_X9_lies; rw [(hs hF).2]; rfl, fJ hF⟩
  · refine ⟨0, Int32.ofInt (-1), hF, hF, ?_, ?_, fJ hF⟩
    · have e1 := gH_ok (e_load i hi j hj hij)
      rw [ro_X8_postOf _ _ _ e1] at e1
      have hp : (2 * i + if i < j then j - 1 else j) < 6 := by split <;> omega
      have e2 := gH_ok (e_load2 _ hp)
      rw [ro_X7_loadIn _ _ _ e2] at e2
      unfold f_X8_lies
      rw [p8_s1 hF hi hj hij]
      show am_b2 (f_X8_postOf (nI i) (nI j) hF) _ = _
      rw [e1]
      show am_b2 (f_X7_lying 0 (am_J hF 0 10) (nI (2 * i + if i < j then j - 1 else j)) a3 hF) _ = _
      unfold f_X7_lying
      by_cases h : a3 < 0
      · rw [if_pos h]; rfl
      · rw [if_neg h, e2]
        show am_b2 (if a3 < 0 then _ else _) _ = _
        rw [if_neg h]; rfl
    · unfold f_X9_lies
      rw [p9_s1 hF hi hj hij]
      show (bif am_vp (Int32.ofInt 3 * nI i + nI j) 9 then am_b2 (f_X9_sizeOf (am_I hF 89 (Int32.ofInt 3 * nI i + nI j).toNatClampNeg) hF) _ else none) = _
      rw [(e_vp9 i hi j hj).1, (e_vp9 i hi j hj).2]
      show am_b2 (f_X9_within a3 (Int32.ofInt 0) ((0 : Int32) - Int32.ofInt 1) hF) _ = _
      rw [w_none]; rfl
/-! a fresh survey -/
set_option maxRecDepth 100000 in
theorem zr44 (j : Nat) : am_I hF 44 j = 0 := rfl
set_option maxRecDepth 100000 in
theorem zr95 (j : Nat) : am_I hF 95 j = 0 := rfl
