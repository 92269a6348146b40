/-! ===== p1: find, of a fresh talk ===== -/
set_option maxRecDepth 1000000 in
theorem f26a : ∀ j, j < 5 → ck26 9000 j hSV = true := by decide +kernel
set_option maxRecDepth 1000000 in
theorem f26b : am_I hSV 37 1 = 0 := by decide +kernel
set_option maxRecDepth 1000000 in
theorem f26c : ∀ j, j < 5 → am_I hSV 39 j = Int32.ofInt (-1) ∨ am_I hSV 39 j = 0 := by decide +kernel
set_option maxRecDepth 1000000 in
theorem f26d : (f_X6_depthOf 4997 37 0 hSV).map Prod.fst = some 0 := by decide +kernel
set_option maxRecDepth 1000000 in
theorem f26e : ∀ j, j < 5 → ∀ k, k < 2 → ckC (f_X8_find 5100 (nI j) (nI k) hF) (f_X9_find 9100 (nI j) (nI k)) = true := by decide +kernel
theorem f26f {hS : am_H} (e : f_X8_surveyNow 4997 hF = some ((37, hS), 0, 0)) (a : ∀ j, j < 5 → ck26 9000 j hS = true) (b : am_I hS 37 1 = 0) (c : ∀ j, j < 5 → am_I hS 39 j = Int32.ofInt (-1) ∨ am_I hS 39 j = 0) (d : (f_X6_depthOf 4997 37 0 hS).map Prod.fst = some 0) (a1 a2 : Int32) : po_26 a1 a2 pJ hF 98 824412 := by
  rcases i_cases a1 5 (by decide) with ⟨-, hw, hr⟩ | ⟨j, hj, rfl⟩
  · refine ⟨0, 0, Int32.ofInt (-102), hF, hF, 0, 0, ?_, ?_, fC hF (Nat.zero_le _) (Nat.zero_le _)⟩
    · unfold f_X8_find
      by_cases h1 : a1 < 0
      · rw [if_pos h1]
      · rw [if_neg h1, if_pos (show Int32.ofInt 5 ≤ a1 from hr.resolve_left h1)]
    · unfold f_X9_find
      rw [hw _ _ (by decide) (by decide)]; rfl
  · have g1 : ¬ nI j < 0 := nI_pos (by omega)
    have g2 : ¬ Int32.ofInt 5 ≤ nI j := nI_ge (a := j) (b := 5) hj (by decide)
    rcases i_cases a2 100 (by decide) with ⟨hne, -, hr⟩ | ⟨k, hk, rfl⟩
    · have q : a2 < Int32.ofInt 10 ∨ Int32.ofInt 99 < a2 := by
        rcases hr with h | h
        · left
          rw [Int32.lt_iff_toInt_lt] at h ⊢
          have e1 : (Int32.ofInt 10).toInt = 10 := by decide
          have e0 : (0 : Int32).toInt = 0 := by decide
          omega
        · right
          rw [Int32.le_iff_toInt_le] at h
          rw [Int32.lt_iff_toInt_lt]
          have e1 : (Int32.ofInt 99).toInt = 99 := by decide
          have e0 : (nI 100).toInt = 100 := by decide
          omega
      have q2 : a2 < Int32.ofInt 0 ∨ Int32.ofInt 1 < a2 := by
        rcases hr with h | h
        · exact Or.inl h
        · right
          rw [Int32.le_iff_toInt_le] at h
          rw [Int32.lt_iff_toInt_lt]
          have e1 : (Int32.ofInt 1).toInt = 1 := by decide
          have e0 : (nI 100).toInt = 100 := by decide
          omega
      refine ⟨0, 0, Int32.ofInt (-102), hF, hF, 0, 0, fnd8n 0 _ _ _ (hne 0 (by decide)) (hne 1 (by decide)) q, ?_, fC hF (Nat.zero_le _) (Nat.zero_le _)⟩
      unfold f_X9_find
      rw [p9_w1 hF (show ¬ nI j < Int32.ofInt 0 from g1) (show ¬ Int32.ofInt 4 < nI j from nI_nlt (a := 4) (b := j) (by omega) (by decide)), b2s, if_neg (by decide), p9_w0 hF q2, b2s, if_pos (by decide), p9_w0 hF q, b2s, if_pos (by decide)]
    · by_cases h2 : k < 2
      · obtain ⟨v, h1, h2, c, s, e1, e2, hc, hs⟩ := ckC_ok (f26e j hj k h2)
        exact ⟨_, _, v, h1, h2, c, s, e1, e2, fC h2 hc hs⟩
      · have k0 : ¬ nI k = 0 := nI_ne0 (by omega) (by omega)
        have k1 : ¬ nI k = Int32.ofInt 1 := fun e => by have := (nI_eq (a := k) (b := 1) (by omega) (by decide)).mp e; omega
        by_cases h10 : k < 10
        · refine ⟨0, 0, Int32.ofInt (-102), hF, hF, 0, 0, fnd8n 0 _ _ _ k0 k1 (Or.inl (show nI k < Int32.ofInt 10 from nI_lt (a := k) (b := 10) h10 (by decide))), ?_, fC hF (Nat.zero_le _) (Nat.zero_le _)⟩
          unfold f_X9_find
          rw [p9_w1 hF (show ¬ nI j < Int32.ofInt 0 from g1) (show ¬ Int32.ofInt 4 < nI j from nI_nlt (a := 4) (b := j) (by omega) (by decide)), b2s, if_neg (by decide), p9_w0 hF (Or.inr (show Int32.ofInt 1 < nI k from nI_lt (a := 1) (b := k) (by omega) (by omega))), b2s, if_pos (by decide), p9_w0 hF (Or.inl (show nI k < Int32.ofInt 10 from nI_lt (a := k) (b := 10) h10 (by decide))), b2s, if_pos (by decide)]
        · obtain ⟨hE, e9⟩ := ck26_ok 9000 j k hj (by omega) (by omega) hS (a j hj)
          have d1 := gH_ok d
          rw [ro_X6_depthOf _ _ _ _ d1] at d1
          have e8 := sv8_ok 4997 j k hS hj (by omega) (by omega) b ((c j hj).imp id (fun q => ⟨q, d1⟩))
          refine ⟨4997, 9004, Int32.ofInt (-1), hS, hE, 0, 0, ?_, e9, fC hE (Nat.zero_le _) (Nat.zero_le _)⟩
          rw [fnd8 4997 (nI j) (nI k) hF g1 g2 k0 k1 (show ¬ nI k < Int32.ofInt 10 from nI_nlt (a := k) (b := 10) (by omega) (by omega)) (show ¬ Int32.ofInt 99 < nI k from nI_nlt (a := 99) (b := k) (by omega) (by decide)), e]
          show am_cost 0 0 (sv8 4997 (nI j) (nI k) hS) = _
          rw [e8]; rfl
theorem q_26 (a1 a2 : Int32) : po_26 a1 a2 pJ hF 98 824412 := f26f e_sv f26a f26b f26c f26d a1 a2
theorem q_0 (w : Int64) : po_0 w pJ hF 98 824412 := by
  rcases lt_ok w 0 hF hF_stat (by decide +kernel) (by decide +kernel) (by omega) with ⟨v, e1, e2⟩ | ⟨t, h1, h2, e1, e2⟩
  · exact ⟨100, 100, v, hF, hF, e1, e2, fJ hF⟩
  · exact ⟨100, 100, _, _, _, e1, e2 _ (by rw [hp_I' _ _ _ (by decide), hp_IR' _ _ (by decide)]; decide +kernel), fJ _⟩
