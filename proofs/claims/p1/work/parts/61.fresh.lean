/-! ===== p1: calls with arguments ===== -/
theorem q_8 (a1 a2 : Int32) : po_8 a1 a2 pJ hF 98 824412 :=
  ⟨Int32.ofInt (-101), hF, hF, by unfold f_X8_act; rw [p8_isBook]; rfl, by unfold f_X9_act; rw [p9_isBook]; rfl, fJ hF⟩
theorem q_9 (a1 a2 : Int32) : po_9 a1 a2 pJ hF 98 824412 :=
  ⟨Int32.ofInt (-101), hF, hF, by unfold f_X8_follow; rw [p8_isBook]; rfl, by unfold f_X9_follow; rw [p9_isBook]; rfl, fJ hF⟩
theorem q_10 (a1 a2 : Int32) : po_10 a1 a2 pJ hF 98 824412 :=
  ⟨0, 0, Int32.ofInt (-101), hF, hF, 0, 0, by unfold f_X8_same; rw [p8_isBook]; rfl, by unfold f_X9_same; rw [p9_isBook]; rfl, fC hF (Nat.zero_le _) (Nat.zero_le _)⟩
theorem q_11 (a1 a2 a3 : Int32) : po_11 a1 a2 a3 pJ hF 98 824412 :=
  ⟨0, 0, Int32.ofInt (-101), hF, hF, 0, 0, by unfold f_X8_apart; rw [p8_isBook]; rfl, by unfold f_X9_apart; rw [p9_isBook]; rfl, fC hF (Nat.zero_le _) (Nat.zero_le _)⟩
theorem q_12 (a1 : Int32) : po_12 a1 pJ hF 98 824412 :=
  ⟨0, 0, Int32.ofInt (-101), hF, hF, 0, 0, by unfold f_X8_watch; rw [p8_isBook]; rfl, by unfold f_X9_watch; rw [p9_isBook]; rfl, fC hF (Nat.zero_le _) (Nat.zero_le _)⟩
theorem q_5 (a1 a2 : Int32) : po_5 a1 a2 pJ hF 98 824412 := by
  refine ⟨0, 0, Int32.ofInt (-101), hF, hF, 0, 0, ?_, ?_, fC hF (Nat.zero_le _) (Nat.zero_le _)⟩
  · unfold f_X8_own
    rw [z07]
    by_cases h : a1 < 0
    · rw [if_pos h]
    · rw [if_neg h, if_pos (Int32.not_lt.mp h)]
  · unfold f_X9_own
    rw [z62_6, p9_w0 hF (by
      by_cases h : a1 < 0
      · exact Or.inl h
      · exact Or.inr (i_m1 h))]
    rfl
/-- a value within 0 .. n-1, or out of it -/
theorem i_cases (a : Int32) (n : Nat) (hn : n < 2 ^ 31) : (∀ j, j < n → a ≠ nI j) ∧ (∀ lo hi : Int32, lo.toInt = 0 → hi.toInt = (n : Int) - 1 → ∀ h, f_X9_within a lo hi h = some (Int32.ofInt 0, h)) ∧ (a < 0 ∨ nI n ≤ a) ∨ ∃ j, j < n ∧ a = nI j := by
  rcases pk_ix a hn with h | h | h
  · refine Or.inl ⟨fun j hj e => ?_, fun lo hi h0 h1 hh => p9_w0 hh (Or.inl ?_), Or.inl h⟩
    · subst e; exact nI_pos (by omega) h
    · rw [Int32.lt_iff_toInt_lt, h0]; rw [Int32.lt_iff_toInt_lt] at h; simpa using h
  · refine Or.inl ⟨fun j hj e => ?_, fun lo hi h0 h1 hh => p9_w0 hh (Or.inr ?_), Or.inr h⟩
    · subst e; exact nI_ge hj (by omega) h
    · rw [Int32.lt_iff_toInt_lt, h1]; rw [Int32.le_iff_toInt_le, nI_toInt hn] at h; omega
  · exact Or.inr h
theorem q_2 (a1 : Int32) : po_2 a1 pJ hF 98 824412 := by
  rcases i_cases a1 2 (by decide) with ⟨hne, hw, -⟩ | ⟨j, hj, rfl⟩
  · refine ⟨0, 0, Int32.ofInt (-102), hF, hF, ?_, ?_, fJ hF⟩
    · unfold f_X8_fault
      rw [if_neg (show ¬ a1 = 0 from hne 0 (by decide)), if_neg (show ¬ a1 = Int32.ofInt 1 from hne 1 (by decide))]; rfl
    · unfold f_X9_fault
      rw [hw _ _ (by decide) (by decide)]; rfl
  · have key : ∀ j, j < 2 → ckI (f_X8_fault 100 (nI j) hF) (f_X9_fault 100 (nI j)) = true := by decide +kernel
    obtain ⟨v, h1, h2, e1, e2⟩ := ckI_ok (key j hj)
    exact ⟨_, _, v, h1, h2, e1, e2, fJ h2⟩
theorem p8_o0 {a : Int32} (h : am_H) (q : a < 0 ∨ nI 3 ≤ a) : f_X8_isOffice a h = some (Int32.ofInt 0, h) := by
  unfold f_X8_isOffice
  by_cases h1 : a < 0
  · rw [if_pos h1]; rfl
  · rw [if_neg h1, if_pos (show Int32.ofInt 3 ≤ a from q.resolve_left h1)]; rfl
theorem p8_o1 {j : Nat} (h : am_H) (hj : j < 3) : f_X8_isOffice (nI j) h = some (Int32.ofInt 1, h) := by
  unfold f_X8_isOffice
  rw [if_neg (nI_pos (by omega)), if_neg (show ¬ Int32.ofInt 3 ≤ nI j from nI_ge hj (by decide))]; rfl
theorem p9_o1 {j : Nat} (h : am_H) (hj : j < 3) : f_X9_isOffice (nI j) h = some (Int32.ofInt 1, h) := by
  unfold f_X9_isOffice
  rw [p9_w1 h (show ¬ nI j < Int32.ofInt 0 from nI_nlt (a := j) (b := 0) (by omega) (by omega)) (show ¬ Int32.ofInt 2 < nI j from nI_nlt (a := 2) (b := j) (by omega) (by decide))]; rfl
theorem o_cases (a : Int32) : (∀ h, f_X8_isOffice a h = some (Int32.ofInt 0, h) ∧ f_X9_isOffice a h = some (Int32.ofInt 0, h)) ∨ ∃ j, j < 3 ∧ a = nI j := by
  rcases i_cases a 3 (by decide) with ⟨-, hw, hr⟩ | h
  · refine Or.inl (fun h => ⟨p8_o0 h hr, ?_⟩)
    unfold f_X9_isOffice
    rw [hw _ _ (by decide) (by decide)]; rfl
  · exact Or.inr h
theorem s_cases (a b : Int32) : (∀ h, f_X8_isPost a b h = some (Int32.ofInt 0, h) ∧ f_X9_isPost a b h = some (Int32.ofInt 0, h)) ∨ ∃ i j, i < 3 ∧ j < 3 ∧ i ≠ j ∧ a = nI i ∧ b = nI j := by
  rcases o_cases a with ha | ⟨i, hi, rfl⟩
  · exact Or.inl (fun h => ⟨by unfold f_X8_isPost; rw [(ha h).1]; rfl, by unfold f_X9_isPost; rw [(ha h).2]; rfl⟩)
  · rcases o_cases b with hb | ⟨j, hj, rfl⟩
    · refine Or.inl (fun h => ⟨?_, ?_⟩)
      · unfold f_X8_isPost
        rw [p8_o1 h hi]
        show am_b2 (am_b2 (f_X8_isOffice b h) _) _ = _
        rw [(hb h).1]; rfl
      · unfold f_X9_isPost
        rw [p9_o1 h hi]
        show am_b2 (am_b2 (f_X9_isOffice b h) _) _ = _
        rw [(hb h).2]; rfl
    · by_cases hij : i = j
      · subst hij
        refine Or.inl (fun h => ⟨?_, ?_⟩)
        · unfold f_X8_isPost
          rw [p8_o1 h hi]
          show am_b2 (am_b2 (f_X8_isOffice (nI i) h) _) _ = _
          rw [p8_o1 h hi]
          show am_b2 (if nI i = nI i then _ else _) _ = _
          rw [if_pos rfl]; rfl
        · unfold f_X9_isPost
          rw [p9_o1 h hi]
          show am_b2 (am_b2 (f_X9_isOffice (nI i) h) _) _ = _
          rw [p9_o1 h hi]
          show am_b2 (if nI i = nI i then _ else _) _ = _
          rw [if_pos rfl]; rfl
      · exact Or.inr ⟨i, j, hi, hj, hij, rfl, rfl⟩
theorem p8_s1 {i j : Nat} (h : am_H) (hi : i < 3) (hj : j < 3) (hij : i ≠ j) : f_X8_isPost (nI i) (nI j) h = some (Int32.ofInt 1, h) := by
  unfold f_X8_isPost
  rw [p8_o1 h hi]
  show am_b2 (am_b2 (f_X8_isOffice (nI j) h) _) _ = _
  rw [p8_o1 h hj]
  show am_b2 (if nI i = nI j then _ else _) _ = _
  rw [if_neg (fun e => hij ((nI_eq (by omega) (by omega)).mp e))]; rfl
theorem p9_s1 {i j : Nat} (h : am_H) (hi : i < 3) (hj : j < 3) (hij : i ≠ j) : f_X9_isPost (nI i) (nI j) h = some (Int32.ofInt 1, h) := by
  unfold f_X9_isPost
  rw [p9_o1 h hi]
  show am_b2 (am_b2 (f_X9_isOffice (nI j) h) _) _ = _
  rw [p9_o1 h hj]
  show am_b2 (if nI i = nI j then _ else _) _ = _
  rw [if_neg (fun e => hij ((nI_eq (by omega) (by omega)).mp e))]; rfl
theorem q_22 (a1 : Int32) : po_22 a1 pJ hF 98 824412 := by
  rcases o_cases a1 with ho | ⟨j, hj, rfl⟩
  · exact ⟨Int32.ofInt (-101), hF, hF, by unfold f_X8_at; rw [(ho hF).1]; rfl, by unfold f_X9_at; rw [(ho hF).2]; rfl, fJ hF⟩
  · have key : ∀ j, j < 3 → ckI (f_X8_at (nI j) hF) (f_X9_at (nI j)) = true := by decide +kernel
    obtain ⟨v, h1, h2, e1, e2⟩ := ckI_ok (key j hj)
    exact ⟨v, h1, h2, e1, e2, fJ h2⟩
theorem q_16 (a1 : Int32) : po_16 a1 pJ hF 98 824412 := by
  by_cases h1 : a1 < Int32.ofInt 1
  · refine ⟨0, Int32.ofInt (-102), hF, hF, ?_, ?_, fJ hF⟩
    · unfold f_X8_room; rw [if_pos h1]
    · unfold f_X9_room; rw [p9_w0 hF (Or.inl h1)]; rfl
  · by_cases h2 : a1 ≤ Int32.ofInt 3
    · have hx : ∃ j, j < 4 ∧ a1 = nI j := by
        rcases pk_ix a1 (n := 4) (by decide) with h | h | h
        · exfalso; rw [Int32.lt_iff_toInt_lt] at h h1
          have e1 : (Int32.ofInt 1).toInt = 1 := by decide
          have e0 : (0 : Int32).toInt = 0 := by decide
          omega
        · exfalso; rw [Int32.le_iff_toInt_le] at h h2
          have e1 : (Int32.ofInt 3).toInt = 3 := by decide
          have e0 : (nI 4).toInt = 4 := by decide
          omega
        · exact h
      obtain ⟨j, hj, rfl⟩ := hx
      have key : ∀ j, j < 4 → ckI (f_X8_room (nI j) hF) (f_X9_room 100 (nI j)) = true := by decide +kernel
      obtain ⟨v, h1, h2, e1, e2⟩ := ckI_ok (key j hj)
      exact ⟨_, v, h1, h2, e1, e2, fJ h2⟩
    · refine ⟨0, Int32.ofInt (-102), hF, hF, ?_, ?_, fJ hF⟩
      · unfold f_X8_room; rw [if_neg h1, if_neg h2]
      · unfold f_X9_room; rw [p9_w0 hF (Or.inr (Int32.not_le.mp h2))]; rfl
theorem q_14 (a1 a2 a3 : Int32) : po_14 a1 a2 a3 pJ hF 98 824412 := by
  rcases s_cases a1 a2 with hs | ⟨i, j, hi, hj, hij, rfl, rfl⟩
  · exact ⟨0, Int32.ofInt (-101), hF, hF, by unfold f_X8_post; rw [(hs hF).1]; rfl, by unfold f_X9_post; rw [(hs hF).2]; rfl, fJ hF⟩
  · rcases i_cases a3 5 (by decide) with ⟨-, hw, hr⟩ | ⟨k, hk, rfl⟩
    · refine ⟨0, Int32.ofInt (-102), hF, hF, ?_, ?_, fJ hF⟩
      · unfold f_X8_post
        rw [p8_s1 hF hi hj hij]
        show (if a3 < 0 then _ else _) = _
        by_cases h1 : a3 < 0
        · rw [if_pos h1]
        · rw [if_neg h1]
          show (if a3 < Int32.ofInt 5 then _ else _) = _
          rw [if_neg (show ¬ a3 < Int32.ofInt 5 from Int32.not_lt.mpr (hr.resolve_left h1))]
      · unfold f_X9_post
        rw [p9_s1 hF hi hj hij]
        show am_b2 (f_X9_within a3 _ _ hF) _ = _
        rw [hw _ _ (by decide) (by decide)]; rfl
    · have key : ∀ i, i < 3 → ∀ j, j < 3 → i ≠ j → ∀ k, k < 5 → ckI (f_X8_post (nI i) (nI j) (nI k) hF) (f_X9_post 100 (nI i) (nI j) (nI k)) = true := by decide +kernel
      obtain ⟨v, h1, h2, e1, e2⟩ := ckI_ok (key i hi j hj hij k hk)
      exact ⟨_, v, h1, h2, e1, e2, fJ h2⟩
theorem q_15 (a1 a2 a3 : Int32) : po_15 a1 a2 a3 pJ hF 98 824412 := by
  rcases s_cases a1 a2 with hs | ⟨i, j, hi, hj, hij, rfl, rfl⟩
  · exact ⟨Int32.ofInt (-101), hF, hF, by unfold f_X8_as; rw [(hs hF).1]; rfl, by unfold f_X9_as; rw [(hs hF).2]; rfl, fJ hF⟩
  · rcases i_cases a3 5 (by decide) with ⟨-, hw, hr⟩ | ⟨k, hk, rfl⟩
    · refine ⟨Int32.ofInt (-102), hF, hF, ?_, ?_, fJ hF⟩
      · unfold f_X8_as
        rw [p8_s1 hF hi hj hij]
        show (if a3 < 0 then _ else _) = _
        by_cases h1 : a3 < 0
        · rw [if_pos h1]
        · rw [if_neg h1]
          show (if a3 < Int32.ofInt 5 then _ else _) = _
          rw [if_neg (show ¬ a3 < Int32.ofInt 5 from Int32.not_lt.mpr (hr.resolve_left h1))]
      · unfold f_X9_as
        rw [p9_s1 hF hi hj hij]
        show am_b2 (f_X9_within a3 _ _ hF) _ = _
        rw [hw _ _ (by decide) (by decide)]; rfl
    · have key : ∀ i, i < 3 → ∀ j, j < 3 → i ≠ j → ∀ k, k < 5 → ckI (f_X8_as (nI i) (nI j) (nI k) hF) (f_X9_as (nI i) (nI j) (nI k)) = true := by decide +kernel
      obtain ⟨v, h1, h2, e1, e2⟩ := ckI_ok (key i hi j hj hij k hk)
      exact ⟨v, h1, h2, e1, e2, fJ h2⟩
theorem q_29 (a1 : Int32) : po_29 a1 pJ hF 98 824412 := by
  rcases i_cases a1 6 (by decide) with ⟨hne, -, -⟩ | ⟨j, hj, rfl⟩
  · refine ⟨0, 0, Int32.ofInt (-102), hF, hF, ?_, ?_, fJ hF⟩
    · unfold f_X8_count
      rw [if_neg (show ¬ a1 = Int32.ofInt 0 from hne 0 (by decide)), if_neg (show ¬ a1 = Int32.ofInt 1 from hne 1 (by decide)), if_neg (show ¬ a1 = Int32.ofInt 2 from hne 2 (by decide)), if_neg (show ¬ a1 = Int32.ofInt 3 from hne 3 (by decide)), if_neg (show ¬ a1 = Int32.ofInt 4 from hne 4 (by decide)), if_neg (show ¬ a1 = Int32.ofInt 5 from hne 5 (by decide))]
    · unfold f_X9_count f_X9_howMany
      rw [if_neg (show ¬ a1 = Int32.ofInt 0 from hne 0 (by decide)), if_neg (show ¬ a1 = Int32.ofInt 1 from hne 1 (by decide)), if_neg (show ¬ a1 = Int32.ofInt 2 from hne 2 (by decide)), if_neg (show ¬ a1 = Int32.ofInt 3 from hne 3 (by decide)), if_neg (show ¬ a1 = Int32.ofInt 4 from hne 4 (by decide)), if_neg (show ¬ a1 = Int32.ofInt 5 from hne 5 (by decide))]; rfl
  · have key : ∀ j, j < 6 → ckI (f_X8_count 100 (nI j) hF) (f_X9_count 100 (nI j)) = true := by decide +kernel
    obtain ⟨v, h1, h2, e1, e2⟩ := ckI_ok (key j hj)
    exact ⟨_, _, v, h1, h2, e1, e2, fJ h2⟩
