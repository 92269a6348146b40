/-! ===== p1: what a talk can come to, of a fresh one ===== -/
theorem i_out {a : Int32} {n : Nat} (hn : n < 2 ^ 31) (h : nI (n + 1) ≤ a) (hm : n + 1 < 2 ^ 31) : ¬ a ≤ nI n := by
  intro g
  rw [Int32.le_iff_toInt_le, nI_toInt hm] at h
  rw [Int32.le_iff_toInt_le, nI_toInt hn] at g
  omega
set_option maxRecDepth 1000000 in
theorem q_30 : po_30 pJ hF 98 824412 := by
  obtain ⟨v, h1, h2, c, s, e1, e2, hc, hs⟩ := ckL_ok (o := f_X8_digest 5100 hF) (g := f_X9_digest 9100) (by decide +kernel)
  exact ⟨_, _, v, h1, h2, c, s, e1, e2, fC h2 hc hs⟩
set_option maxRecDepth 1000000 in
theorem q_25 : po_25 pJ hF 98 824412 := by
  obtain ⟨v, h1, h2, c, s, e1, e2, hc, hs⟩ := ckC_ok (o := f_X8_met 5100 hF) (g := f_X9_met 9100) (by decide +kernel)
  exact ⟨_, _, v, h1, h2, c, s, e1, e2, fC h2 hc hs⟩
set_option maxRecDepth 1000000 in
theorem q_24k : ∀ j, j < 5 → ckC (f_X8_now 5100 (nI j) hF) (f_X9_now 9100 (nI j)) = true := by decide +kernel
theorem q_24 (a1 : Int32) : po_24 a1 pJ hF 98 824412 := by
  rcases i_cases a1 5 (by decide) with ⟨-, hw, hr⟩ | ⟨j, hj, rfl⟩
  · refine ⟨0, 0, Int32.ofInt (-102), hF, hF, 0, 0, ?_, ?_, fC hF (Nat.zero_le _) (Nat.zero_le _)⟩
    · unfold f_X8_now
      by_cases h1 : a1 < 0
      · rw [if_pos h1]
      · rw [if_neg h1, if_neg (show ¬ a1 < Int32.ofInt 5 from Int32.not_lt.mpr (hr.resolve_left h1))]
    · unfold f_X9_now
      rw [hw _ _ (by decide) (by decide)]; rfl
  · obtain ⟨v, h1, h2, c, s, e1, e2, hc, hs⟩ := ckC_ok (q_24k j hj)
    exact ⟨_, _, v, h1, h2, c, s, e1, e2, fC h2 hc hs⟩
