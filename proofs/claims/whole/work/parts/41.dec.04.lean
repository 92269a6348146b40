def f_X8_isOffice (a0 : Int32) (h : am_H) : Option (Int32 × am_H) := (if a0 < 0 then some ((Int32.ofInt 0), h) else (if (Int32.ofInt 3) ≤ a0 then some ((Int32.ofInt 0), h) else some ((Int32.ofInt 1), h)))
set_option maxRecDepth 100000 in
theorem s_X8_isOffice (a0 : Int32) (h : am_H) (hs : am_stat h) {v : Int32} {h' : am_H} (hf : f_X8_isOffice a0 h = some (v, h')) : am_stat h' := by
  unfold f_X8_isOffice at hf
  by_cases c1 : a0 < 0
  · rw [if_pos c1] at hf
    cases hf
    exact hs
  · rw [if_neg c1] at hf
    by_cases c2 : (Int32.ofInt 3) ≤ a0
    · rw [if_pos c2] at hf
      cases hf
      exact hs
    · rw [if_neg c2] at hf
      cases hf
      exact hs
set_option maxRecDepth 100000 in
theorem c_X8_isOffice (a0 : Int32) (h : am_H) (hs : am_stat h) {v : Int32} {h' : am_H} (hf : f_X8_isOffice a0 h = some (v, h')) : AMet mX8_isOffice (rX8_isOffice 0 0) (fun r h2 => r = some (.int v) ∧ h2 = h') [.int a0] h := by
  unfold f_X8_isOffice at hf
  refine AW_go okX8_isOffice 2 ?_
  refine And.intro (fun c1 => ?_) (fun c1 => ?_)
  · rw [if_pos c1] at hf
    refine AW_go okX8_isOffice 2 ?_
    cases hf
    exact And.intro ⟨(Nat.le_of_ble_eq_true rfl), (Nat.le_of_ble_eq_true rfl)⟩ (And.intro (Or.inr ⟨rfl, Or.inl rfl⟩) ⟨rfl, rfl⟩)
  · rw [if_neg c1] at hf
    refine AW_go okX8_isOffice 3 ?_
    refine And.intro (fun c2 => ?_) (fun c2 => ?_)
    · rw [if_pos c2] at hf
      refine AW_go okX8_isOffice 2 ?_
      cases hf
      exact And.intro ⟨(Nat.le_of_ble_eq_true rfl), (Nat.le_of_ble_eq_true rfl)⟩ (And.intro (Or.inr ⟨rfl, Or.inl rfl⟩) ⟨rfl, rfl⟩)
    · rw [if_neg c2] at hf
      refine AW_go okX8_isOffice 3 ?_
      cases hf
      exact And.intro ⟨(Nat.le_of_ble_eq_true rfl), (Nat.le_of_ble_eq_true rfl)⟩ (And.intro (Or.inr ⟨rfl, Or.inr rfl⟩) ⟨rfl, rfl⟩)
