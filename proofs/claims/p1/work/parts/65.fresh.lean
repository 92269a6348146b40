/-! ===== p1: most, mend ===== -/
set_option maxRecDepth 1000000 in
theorem q_27k : ∀ i, i < 3 → ∀ j, j < 3 → i ≠ j → ckC (f_X8_most 5100 (nI i) (nI j) hF) (f_X9_most 9100 (nI i) (nI j)) = true := by decide +kernel
theorem q_27 (a1 a2 : Int32) : po_27 a1 a2 pJ hF 98 824412 := by
  rcases s_cases a1 a2 with hs | ⟨i, j, hi, hj, hij, rfl, rfl⟩
  · exact ⟨0, 0, Int32.ofInt (-101), hF, hF, 0, 0, by unfold f_X8_most; rw [(hs hF).1]; rfl, by unfold f_X9_most; rw [(hs hF).2]; rfl, fC hF (Nat.zero_le _) (Nat.zero_le _)⟩
  · obtain ⟨v, h1, h2, c, s, e1, e2, hc, hs⟩ := ckC_ok (q_27k i hi j hj hij)
    exact ⟨_, _, v, h1, h2, c, s, e1, e2, fC h2 hc hs⟩
set_option maxRecDepth 1000000 in
theorem q_28k : ∀ j, j < 3 → ckC (f_X8_mend 5100 (nI j) hF) (f_X9_mend 9100 (nI j)) = true := by decide +kernel
theorem q_28 (a1 : Int32) : po_28 a1 pJ hF 98 824412 := by
  rcases i_cases a1 3 (by decide) with ⟨-, hw, hr⟩ | ⟨j, hj, rfl⟩
  · refine ⟨0, 0, Int32.ofInt (-102), hF, hF, 0, 0, ?_, ?_, fC hF (Nat.zero_le _) (Nat.zero_le _)⟩
    · unfold f_X8_mend
      by_cases h1 : a1 < 0
      · rw [if_pos h1]
      · rw [if_neg h1, if_neg (show ¬ a1 ≤ Int32.ofInt 2 from i_out (n := 2) (by decide) (hr.resolve_left h1) (by decide))]
    · unfold f_X9_mend
      rw [hw _ _ (by decide) (by decide)]; rfl
  · obtain ⟨v, h1, h2, c, s, e1, e2, hc, hs⟩ := ckC_ok (q_28k j hj)
    exact ⟨_, _, v, h1, h2, c, s, e1, e2, fC h2 hc hs⟩
