def g_X9_watch : Nat → Nat → Int32 → Int32 → Int32 → Int32 → Int32 → Int32 → am_H → Option (Int32 × am_H)
  | 0, _, _, _, _, _, _, _, _ => none
  | n + 1, tag, a1, x2i, x3i, x4i, x5i, x6i, h => bif Nat.beq tag 0 then (am_let ((if x2i = 0 then some ((Int32.ofInt (-103)), h) else g_X9_watch n 1 a1 x2i (Int32.ofInt 1) (Int32.ofInt 0) (Int32.ofInt 1) (Int32.ofInt 0) h)) fun b1 => ((if (am_I h 51 0) ≤ x3i then b1 else (if x2i = 0 then b1 else bif am_vp x3i 60 then (am_b2 (am_let (bif am_vp (x3i + (Int32.ofInt 1)) 60 then (am_b2 (f_X9_isOfficeSign (am_I h 52 (Int32.toNatClampNeg (x3i + (Int32.ofInt 1)))) h) fun r14 h15 => ((if r14 = 0 then some ((Int32.ofInt 0), h15) else bif am_vp (x3i + (Int32.ofInt 2)) 60 then (am_b2 (f_X9_isLetterSign (am_I h15 52 (Int32.toNatClampNeg (x3i + (Int32.ofInt 2)))) h15) fun r19 h20 => ((if r19 = 0 then some ((Int32.ofInt 0), h20) else some ((Int32.ofInt 1), h20)))) else none))) else none) fun b10 => ((if (am_I h 52 (Int32.toNatClampNeg x3i)) = (Int32.ofInt 33) then b10 else (if (am_I h 52 (Int32.toNatClampNeg x3i)) = (Int32.ofInt 63) then b10 else some ((Int32.ofInt 0), h))))) fun y7 h8 => (g_X9_watch n 0 a1 y7 (x3i + Int32.ofInt 3) 0 0 0 h8)) else none)))) else (am_let (am_b2 ((if x5i = 0 then some (x4i, h) else am_b2 (f_X9_ends n a1 x3i h) fun r8 h9 => ((if r8 = 0 then some (x4i, h9) else some (((Int32.ofInt 100) + x4i), h9))))) fun y4 h5 => (some (y4, h5))) fun b1 => ((if (am_I h 51 0) ≤ x6i then b1 else (if x5i = 0 then b1 else bif am_vp x6i 60 then (Option.bind ((if (am_I h 52 (Int32.toNatClampNeg x6i)) = (Int32.ofInt 63) then some (Int32.ofInt 100) else some (Int32.ofInt 0))) fun y7 => (bif am_vp (x6i + (Int32.ofInt 1)) 60 then (bif am_vp (x6i + (Int32.ofInt 2)) 60 then (am_b2 (f_X9_asNumber (((y7 + ((Int32.ofInt 10) * ((am_I h 52 (Int32.toNatClampNeg (x6i + (Int32.ofInt 1)))) - (Int32.ofInt 48)))) + (am_I h 52 (Int32.toNatClampNeg (x6i + (Int32.ofInt 2))))) - (Int32.ofInt 97)) h) fun r62 h63 => (am_b2 (f_X9_lead n a1 x3i r62 h63) fun r65 h66 => (Option.bind ((if r65 = 0 then some (Int32.ofInt 0) else some (Int32.ofInt 1))) fun y68 => (Option.bind ((if y68 = 0 then some x3i else some r65)) fun y121 => (Option.bind ((if y68 = 0 then some (Int32.ofInt 0) else some (Int32.ofInt 1))) fun y174 => (g_X9_watch n 1 a1 x2i y121 (x4i + y174) y68 (x6i + Int32.ofInt 3) h66)))))) else none) else none)) else none))))
set_option maxRecDepth 100000 in
set_option maxHeartbeats 4000000 in
theorem m_X9_watch (n : Nat) : (∀ (a1 : Int32) (x2i : Int32) (x3i : Int32) (x4i : Int32) (x5i : Int32) (x6i : Int32) (h : am_H) (v : Int32) (h' : am_H), am_stat h → g_X9_watch n 0 a1 x2i x3i x4i x5i x6i h = some (v, h') → am_stat h') ∧ (∀ (a1 : Int32) (x2i : Int32) (x3i : Int32) (x4i : Int32) (x5i : Int32) (x6i : Int32) (h : am_H) (v : Int32) (h' : am_H), am_stat h → g_X9_watch n 1 a1 x2i x3i x4i x5i x6i h = some (v, h') → am_stat h') := by
  induction n with
  | zero => exact ⟨fun a1 x2i x3i x4i x5i x6i h v h' hs hf => (by cases hf), fun a1 x2i x3i x4i x5i x6i h v h' hs hf => (by cases hf)⟩
  | succ n ih =>
    refine ⟨?_, ?_⟩
    · intro a1 x2i x3i x4i x5i x6i h v h' hs hf
      have hf : (am_let ((if x2i = 0 then some ((Int32.ofInt (-103)), h) else g_X9_watch n 1 a1 x2i (Int32.ofInt 1) (Int32.ofInt 0) (Int32.ofInt 1) (Int32.ofInt 0) h)) fun b1 => ((if (am_I h 51 0) ≤ x3i then b1 else (if x2i = 0 then b1 else bif am_vp x3i 60 then (am_b2 (am_let (bif am_vp (x3i + (Int32.ofInt 1)) 60 then (am_b2 (f_X9_isOfficeSign (am_I h 52 (Int32.toNatClampNeg (x3i + (Int32.ofInt 1)))) h) fun r14 h15 => ((if r14 = 0 then some ((Int32.ofInt 0), h15) else bif am_vp (x3i + (Int32.ofInt 2)) 60 then (am_b2 (f_X9_isLetterSign (am_I h15 52 (Int32.toNatClampNeg (x3i + (Int32.ofInt 2)))) h15) fun r19 h20 => ((if r19 = 0 then some ((Int32.ofInt 0), h20) else some ((Int32.ofInt 1), h20)))) else none))) else none) fun b10 => ((if (am_I h 52 (Int32.toNatClampNeg x3i)) = (Int32.ofInt 33) then b10 else (if (am_I h 52 (Int32.toNatClampNeg x3i)) = (Int32.ofInt 63) then b10 else some ((Int32.ofInt 0), h))))) fun y7 h8 => (g_X9_watch n 0 a1 y7 (x3i + Int32.ofInt 3) 0 0 0 h8)) else none)))) = some (v, h') := hf
      obtain ⟨b1, k2, hf⟩ := am_let_ok hf
      refine am_cut (P := ((if x2i = 0 then some ((Int32.ofInt (-103)), h) else g_X9_watch n 1 a1 x2i (Int32.ofInt 1) (Int32.ofInt 0) (Int32.ofInt 1) (Int32.ofInt 0) h)) = some (v, h') → am_stat h') (fun B3 => ?_) ?_
      · skip
        by_cases c4 : (am_I h 51 0) ≤ x3i
        · rw [if_pos c4] at hf
          exact B3 (k2.symm.trans hf)
        · rw [if_neg c4] at hf
          by_cases c5 : x2i = 0
          · rw [if_pos c5] at hf
            exact B3 (k2.symm.trans hf)
          · rw [if_neg c5] at hf
            obtain ⟨b6, hf⟩ := am_bis hf
            obtain ⟨y7, h8, j9, hf⟩ := am_b2_ok hf
            have hs0 := hs
            have hs : am_stat h8 := by
              have hs := hs0
              obtain ⟨b10, k11, j9⟩ := am_let_ok j9
              refine am_cut (P := (bif am_vp (x3i + (Int32.ofInt 1)) 60 then (am_b2 (f_X9_isOfficeSign (am_I h 52 (Int32.toNatClampNeg (x3i + (Int32.ofInt 1)))) h) fun r14 h15 => ((if r14 = 0 then some ((Int32.ofInt 0), h15) else bif am_vp (x3i + (Int32.ofInt 2)) 60 then (am_b2 (f_X9_isLetterSign (am_I h15 52 (Int32.toNatClampNeg (x3i + (Int32.ofInt 2)))) h15) fun r19 h20 => ((if r19 = 0 then some ((Int32.ofInt 0), h20) else some ((Int32.ofInt 1), h20)))) else none))) else none) = some (y7, h8) → am_stat h8) (fun B12 => ?_) ?_
              · skip
                by_cases c13 : (am_I h 52 (Int32.toNatClampNeg x3i)) = (Int32.ofInt 33)
                · rw [if_pos c13] at j9
                  exact B12 (k11.symm.trans j9)
                · rw [if_neg c13] at j9
                  by_cases c14 : (am_I h 52 (Int32.toNatClampNeg x3i)) = (Int32.ofInt 63)
                  · rw [if_pos c14] at j9
                    exact B12 (k11.symm.trans j9)
                  · rw [if_neg c14] at j9
                    obtain ⟨rfl, rfl⟩ := am_i2 j9
                    exact hs
              intro j9
              obtain ⟨b15, j9⟩ := am_bis j9
              obtain ⟨r16, h17, e18, j9⟩ := am_b2_ok j9
              have hs := s_X9_isOfficeSign (am_I h 52 (Int32.toNatClampNeg (x3i + (Int32.ofInt 1)))) h hs e18
              by_cases c19 : r16 = 0
              · rw [if_pos c19] at j9
                obtain ⟨rfl, rfl⟩ := am_i2 j9
                exact hs
              · rw [if_neg c19] at j9
                obtain ⟨b20, j9⟩ := am_bis j9
                obtain ⟨r21, h22, e23, j9⟩ := am_b2_ok j9
                have hs := s_X9_isLetterSign (am_I h17 52 (Int32.toNatClampNeg (x3i + (Int32.ofInt 2)))) h17 hs e23
                by_cases c24 : r21 = 0
                · rw [if_pos c24] at j9
                  obtain ⟨rfl, rfl⟩ := am_i2 j9
                  exact hs
                · rw [if_neg c24] at j9
                  obtain ⟨rfl, rfl⟩ := am_i2 j9
                  exact hs
            exact ih.1 a1 y7 (x3i + Int32.ofInt 3) 0 0 0 h8 _ _ hs hf
      intro hf
      by_cases c75 : x2i = 0
      · rw [if_pos c75] at hf
        obtain ⟨rfl, rfl⟩ := am_i2 hf
        exact hs
      · rw [if_neg c75] at hf
        exact ih.2 a1 x2i (Int32.ofInt 1) (Int32.ofInt 0) (Int32.ofInt 1) (Int32.ofInt 0) h _ _ hs hf
    · intro a1 x2i x3i x4i x5i x6i h v h' hs hf
      have hf : (am_let (am_b2 ((if x5i = 0 then some (x4i, h) else am_b2 (f_X9_ends n a1 x3i h) fun r8 h9 => ((if r8 = 0 then some (x4i, h9) else some (((Int32.ofInt 100) + x4i), h9))))) fun y4 h5 => (some (y4, h5))) fun b1 => ((if (am_I h 51 0) ≤ x6i then b1 else (if x5i = 0 then b1 else bif am_vp x6i 60 then (Option.bind ((if (am_I h 52 (Int32.toNatClampNeg x6i)) = (Int32.ofInt 63) then some (Int32.ofInt 100) else some (Int32.ofInt 0))) fun y7 => (bif am_vp (x6i + (Int32.ofInt 1)) 60 then (bif am_vp (x6i + (Int32.ofInt 2)) 60 then (am_b2 (f_X9_asNumber (((y7 + ((Int32.ofInt 10) * ((am_I h 52 (Int32.toNatClampNeg (x6i + (Int32.ofInt 1)))) - (Int32.ofInt 48)))) + (am_I h 52 (Int32.toNatClampNeg (x6i + (Int32.ofInt 2))))) - (Int32.ofInt 97)) h) fun r62 h63 => (am_b2 (f_X9_lead n a1 x3i r62 h63) fun r65 h66 => (Option.bind ((if r65 = 0 then some (Int32.ofInt 0) else some (Int32.ofInt 1))) fun y68 => (Option.bind ((if y68 = 0 then some x3i else some r65)) fun y121 => (Option.bind ((if y68 = 0 then some (Int32.ofInt 0) else some (Int32.ofInt 1))) fun y174 => (g_X9_watch n 1 a1 x2i y121 (x4i + y174) y68 (x6i + Int32.ofInt 3) h66)))))) else none) else none)) else none)))) = some (v, h') := hf
      obtain ⟨b1, k2, hf⟩ := am_let_ok hf
      refine am_cut (P := (am_b2 ((if x5i = 0 then some (x4i, h) else am_b2 (f_X9_ends n a1 x3i h) fun r8 h9 => ((if r8 = 0 then some (x4i, h9) else some (((Int32.ofInt 100) + x4i), h9))))) fun y4 h5 => (some (y4, h5))) = some (v, h') → am_stat h') (fun B3 => ?_) ?_
      · skip
        by_cases c4 : (am_I h 51 0) ≤ x6i
        · rw [if_pos c4] at hf
          exact B3 (k2.symm.trans hf)
        · rw [if_neg c4] at hf
          by_cases c5 : x5i = 0
          · rw [if_pos c5] at hf
            exact B3 (k2.symm.trans hf)
          · rw [if_neg c5] at hf
            obtain ⟨b6, hf⟩ := am_bis hf
            obtain ⟨y7, j8, hf⟩ := am_bnd hf
            obtain ⟨b60, hf⟩ := am_bis hf
            obtain ⟨b61, hf⟩ := am_bis hf
            obtain ⟨r62, h63, e64, hf⟩ := am_b2_ok hf
            have hs := s_X9_asNumber (((y7 + ((Int32.ofInt 10) * ((am_I h 52 (Int32.toNatClampNeg (x6i + (Int32.ofInt 1)))) - (Int32.ofInt 48)))) + (am_I h 52 (Int32.toNatClampNeg (x6i + (Int32.ofInt 2))))) - (Int32.ofInt 97)) h hs e64
            obtain ⟨r65, h66, e67, hf⟩ := am_b2_ok hf
            have hs := s_X9_lead n a1 x3i r62 h63 hs e67
            obtain ⟨y68, j69, hf⟩ := am_bnd hf
            obtain ⟨y121, j122, hf⟩ := am_bnd hf
            obtain ⟨y174, j175, hf⟩ := am_bnd hf
            exact ih.2 a1 x2i y121 (x4i + y174) y68 (x6i + Int32.ofInt 3) h66 _ _ hs hf
      intro hf
      obtain ⟨y227, h228, j229, hf⟩ := am_b2_ok hf
      have hs0 := hs
      have hs : am_stat h228 := by
        have hs := hs0
        by_cases c230 : x5i = 0
        · rw [if_pos c230] at j229
          obtain ⟨rfl, rfl⟩ := am_i2 j229
          exact hs
        · rw [if_neg c230] at j229
          obtain ⟨r231, h232, e233, j229⟩ := am_b2_ok j229
          have hs := s_X9_ends n a1 x3i h hs e233
          by_cases c234 : r231 = 0
          · rw [if_pos c234] at j229
            obtain ⟨rfl, rfl⟩ := am_i2 j229
            exact hs
          · rw [if_neg c234] at j229
            obtain ⟨rfl, rfl⟩ := am_i2 j229
            exact hs
      obtain ⟨rfl, rfl⟩ := am_i2 hf
      exact hs
set_option maxRecDepth 100000 in
set_option maxHeartbeats 4000000 in
theorem l_X9_watch (n : Nat) : (∀ (a1 : Int32) (x2i : Int32) (x3i : Int32) (x4i : Int32) (x5i : Int32) (x6i : Int32) (h : am_H) (v : Int32) (h' : am_H), am_stat h → g_X9_watch n 0 a1 x2i x3i x4i x5i x6i h = some (v, h') → AW mX9_watch (rX9_watch 0 0) (fun r h2 => r = some (.int v) ∧ h2 = h') 28 [(0, .ref 51), (1, .int a1), (2, .int x2i), (3, .int x3i)] [] h 0 0) ∧ (∀ (a1 : Int32) (x2i : Int32) (x3i : Int32) (x4i : Int32) (x5i : Int32) (x6i : Int32) (h : am_H) (v : Int32) (h' : am_H), am_stat h → g_X9_watch n 1 a1 x2i x3i x4i x5i x6i h = some (v, h') → AW mX9_watch (rX9_watch 0 0) (fun r h2 => r = some (.int v) ∧ h2 = h') 120 [(0, .ref 51), (1, .int a1), (2, .int x2i), (3, .int x3i), (4, .int x4i), (5, .int x5i), (6, .int x6i)] [] h 0 0) := by
  induction n with
  | zero => exact ⟨fun a1 x2i x3i x4i x5i x6i h v h' hs hf => (by cases hf), fun a1 x2i x3i x4i x5i x6i h v h' hs hf => (by cases hf)⟩
  | succ n ih =>
    refine ⟨?_, ?_⟩
    · intro a1 x2i x3i x4i x5i x6i h v h' hs hf
      have hf : (am_let ((if x2i = 0 then some ((Int32.ofInt (-103)), h) else g_X9_watch n 1 a1 x2i (Int32.ofInt 1) (Int32.ofInt 0) (Int32.ofInt 1) (Int32.ofInt 0) h)) fun b1 => ((if (am_I h 51 0) ≤ x3i then b1 else (if x2i = 0 then b1 else bif am_vp x3i 60 then (am_b2 (am_let (bif am_vp (x3i + (Int32.ofInt 1)) 60 then (am_b2 (f_X9_isOfficeSign (am_I h 52 (Int32.toNatClampNeg (x3i + (Int32.ofInt 1)))) h) fun r14 h15 => ((if r14 = 0 then some ((Int32.ofInt 0), h15) else bif am_vp (x3i + (Int32.ofInt 2)) 60 then (am_b2 (f_X9_isLetterSign (am_I h15 52 (Int32.toNatClampNeg (x3i + (Int32.ofInt 2)))) h15) fun r19 h20 => ((if r19 = 0 then some ((Int32.ofInt 0), h20) else some ((Int32.ofInt 1), h20)))) else none))) else none) fun b10 => ((if (am_I h 52 (Int32.toNatClampNeg x3i)) = (Int32.ofInt 33) then b10 else (if (am_I h 52 (Int32.toNatClampNeg x3i)) = (Int32.ofInt 63) then b10 else some ((Int32.ofInt 0), h))))) fun y7 h8 => (g_X9_watch n 0 a1 y7 (x3i + Int32.ofInt 3) 0 0 0 h8)) else none)))) = some (v, h') := hf
      refine AW_go okX9_watch 3 ?_
      refine And.intro (sK hs 51) ?_
      obtain ⟨b1, k2, hf⟩ := am_let_ok hf
      refine am_cut (P := ((if x2i = 0 then some ((Int32.ofInt (-103)), h) else g_X9_watch n 1 a1 x2i (Int32.ofInt 1) (Int32.ofInt 0) (Int32.ofInt 1) (Int32.ofInt 0) h)) = some (v, h') → AW mX9_watch (rX9_watch 0 0) (fun r h2 => r = some (.int v) ∧ h2 = h') 102 [(0, .ref 51), (1, .int a1), (2, .int x2i), (3, .int x3i)] [] h 0 0) (fun B3 => ?_) ?_
      · skip
        refine AW_go okX9_watch 1 ?_
        refine And.intro (fun c4 => ?_) (fun c4 => ?_)
        · rw [if_pos c4] at hf
          exact B3 (k2.symm.trans hf)
        · rw [if_neg c4] at hf
          refine AW_go okX9_watch 2 ?_
          refine And.intro (fun c5 => ?_) (fun c5 => ?_)
          · rw [if_pos c5] at hf
            exact B3 (k2.symm.trans hf)
          · rw [if_neg c5] at hf
            obtain ⟨b6, hf⟩ := am_bis hf
            refine AW_go okX9_watch 5 ?_
            refine And.intro (sK hs 51) (Exists.intro _ (And.intro (sA hs 51 1) ?_))
            refine Exists.intro 1 (Exists.intro 60 (And.intro (by decide) (And.intro (sK hs 52) (And.intro (am_vp_ok b6) ?_))))
            obtain ⟨y7, h8, j9, hf⟩ := am_b2_ok hf
            have hs0 := hs
            have hs : am_stat h8 := by
              have hs := hs0
              obtain ⟨b10, k11, j9⟩ := am_let_ok j9
              refine am_cut (P := (bif am_vp (x3i + (Int32.ofInt 1)) 60 then (am_b2 (f_X9_isOfficeSign (am_I h 52 (Int32.toNatClampNeg (x3i + (Int32.ofInt 1)))) h) fun r14 h15 => ((if r14 = 0 then some ((Int32.ofInt 0), h15) else bif am_vp (x3i + (Int32.ofInt 2)) 60 then (am_b2 (f_X9_isLetterSign (am_I h15 52 (Int32.toNatClampNeg (x3i + (Int32.ofInt 2)))) h15) fun r19 h20 => ((if r19 = 0 then some ((Int32.ofInt 0), h20) else some ((Int32.ofInt 1), h20)))) else none))) else none) = some (y7, h8) → am_stat h8) (fun B12 => ?_) ?_
              · skip
                by_cases c13 : (am_I h 52 (Int32.toNatClampNeg x3i)) = (Int32.ofInt 33)
                · rw [if_pos c13] at j9
                  exact B12 (k11.symm.trans j9)
                · rw [if_neg c13] at j9
                  by_cases c14 : (am_I h 52 (Int32.toNatClampNeg x3i)) = (Int32.ofInt 63)
                  · rw [if_pos c14] at j9
                    exact B12 (k11.symm.trans j9)
                  · rw [if_neg c14] at j9
                    obtain ⟨rfl, rfl⟩ := am_i2 j9
                    exact hs
              intro j9
              obtain ⟨b15, j9⟩ := am_bis j9
              obtain ⟨r16, h17, e18, j9⟩ := am_b2_ok j9
              have hs := s_X9_isOfficeSign (am_I h 52 (Int32.toNatClampNeg (x3i + (Int32.ofInt 1)))) h hs e18
              by_cases c19 : r16 = 0
              · rw [if_pos c19] at j9
                obtain ⟨rfl, rfl⟩ := am_i2 j9
                exact hs
              · rw [if_neg c19] at j9
                obtain ⟨b20, j9⟩ := am_bis j9
                obtain ⟨r21, h22, e23, j9⟩ := am_b2_ok j9
                have hs := s_X9_isLetterSign (am_I h17 52 (Int32.toNatClampNeg (x3i + (Int32.ofInt 2)))) h17 hs e23
                by_cases c24 : r21 = 0
                · rw [if_pos c24] at j9
                  obtain ⟨rfl, rfl⟩ := am_i2 j9
                  exact hs
                · rw [if_neg c24] at j9
                  obtain ⟨rfl, rfl⟩ := am_i2 j9
                  exact hs
            refine am_cut (P := AW mX9_watch (rX9_watch 0 0) (fun r h2 => r = some (.int v) ∧ h2 = h') 95 [(0, .ref 51), (1, .int a1), (2, .int x2i), (3, .int x3i)] [.int y7] h8 0 0) (fun hJ9 => ?_) ?_
            · have hs := hs0
              obtain ⟨b10, k11, j9⟩ := am_let_ok j9
              refine am_cut (P := (bif am_vp (x3i + (Int32.ofInt 1)) 60 then (am_b2 (f_X9_isOfficeSign (am_I h 52 (Int32.toNatClampNeg (x3i + (Int32.ofInt 1)))) h) fun r14 h15 => ((if r14 = 0 then some ((Int32.ofInt 0), h15) else bif am_vp (x3i + (Int32.ofInt 2)) 60 then (am_b2 (f_X9_isLetterSign (am_I h15 52 (Int32.toNatClampNeg (x3i + (Int32.ofInt 2)))) h15) fun r19 h20 => ((if r19 = 0 then some ((Int32.ofInt 0), h20) else some ((Int32.ofInt 1), h20)))) else none))) else none) = some (y7, h8) → AW mX9_watch (rX9_watch 0 0) (fun r h2 => r = some (.int v) ∧ h2 = h') 62 [(0, .ref 51), (1, .int a1), (2, .int x2i), (3, .int x3i)] [] h 0 0) (fun B12 => ?_) ?_
              · skip
                refine AW_go okX9_watch 1 ?_
                refine And.intro (fun c13 => ?_) (fun c13 => ?_)
                · rw [if_pos c13] at j9
                  exact B12 (k11.symm.trans j9)
                · rw [if_neg c13] at j9
                  refine AW_go okX9_watch 6 ?_
                  refine And.intro (sK hs 51) (Exists.intro _ (And.intro (sA hs 51 1) ?_))
                  refine Exists.intro 1 (Exists.intro 60 (And.intro (by decide) (And.intro (sK hs 52) (And.intro (am_vp_ok b6) ?_))))
                  refine And.intro (fun c14 => ?_) (fun c14 => ?_)
                  · rw [if_neg c14] at j9
                    refine AW_go okX9_watch 1 ?_
                    obtain ⟨rfl, rfl⟩ := am_i2 j9
                    exact AW_pick [0, 1, 2, 3] rfl hJ9
                  · rw [if_pos c14] at j9
                    exact B12 (k11.symm.trans j9)
              intro j9
              obtain ⟨b15, j9⟩ := am_bis j9
              refine AW_go okX9_watch 6 ?_
              refine And.intro (sK hs 51) (Exists.intro _ (And.intro (sA hs 51 1) ?_))
              refine Exists.intro 1 (Exists.intro 60 (And.intro (by decide) (And.intro (sK hs 52) (And.intro (am_vp_ok b15) ?_))))
              obtain ⟨r16, h17, e18, j9⟩ := am_b2_ok j9
              refine AW_callS (As := [.int (am_I h 52 (Int32.toNatClampNeg (x3i + (Int32.ofInt 1))))]) (R' := rX9_isOfficeSign 0 0) (okX9_watch.1 70 _ _ rfl) lkX9_isOfficeSign (Or.inl kX9_138) rfl (Nat.le_of_ble_eq_true rfl) ⟨by decide, by decide⟩ ⟨(Nat.le_of_ble_eq_true rfl), (Nat.le_of_ble_eq_true rfl)⟩ (Nat.le_of_ble_eq_true rfl) (c_X9_isOfficeSign (am_I h 52 (Int32.toNatClampNeg (x3i + (Int32.ofInt 1)))) h hs e18) (fun r h' hq => ?_)
              obtain ⟨rfl, hq⟩ := hq
              replace hq := hq.symm
              subst hq
              have hs := s_X9_isOfficeSign (am_I h 52 (Int32.toNatClampNeg (x3i + (Int32.ofInt 1)))) h hs e18
              refine AW_go okX9_watch 1 ?_
              refine And.intro (fun c19 => ?_) (fun c19 => ?_)
              · rw [if_pos c19] at j9
                refine AW_go okX9_watch 1 ?_
                obtain ⟨rfl, rfl⟩ := am_i2 j9
                exact AW_pick [0, 1, 2, 3] rfl hJ9
              · rw [if_neg c19] at j9
                obtain ⟨b20, j9⟩ := am_bis j9
                refine AW_go okX9_watch 6 ?_
                refine And.intro (sK hs 51) (Exists.intro _ (And.intro (sA hs 51 1) ?_))
                refine Exists.intro 1 (Exists.intro 60 (And.intro (by decide) (And.intro (sK hs 52) (And.intro (am_vp_ok b20) ?_))))
                obtain ⟨r21, h22, e23, j9⟩ := am_b2_ok j9
                refine AW_callS (As := [.int (am_I h17 52 (Int32.toNatClampNeg (x3i + (Int32.ofInt 2))))]) (R' := rX9_isLetterSign 0 0) (okX9_watch.1 84 _ _ rfl) lkX9_isLetterSign (Or.inl kX9_142) rfl (Nat.le_of_ble_eq_true rfl) ⟨by decide, by decide⟩ ⟨(Nat.le_of_ble_eq_true rfl), (Nat.le_of_ble_eq_true rfl)⟩ (Nat.le_of_ble_eq_true rfl) (c_X9_isLetterSign (am_I h17 52 (Int32.toNatClampNeg (x3i + (Int32.ofInt 2)))) h17 hs e23) (fun r h' hq => ?_)
                obtain ⟨rfl, hq⟩ := hq
                replace hq := hq.symm
                subst hq
                have hs := s_X9_isLetterSign (am_I h17 52 (Int32.toNatClampNeg (x3i + (Int32.ofInt 2)))) h17 hs e23
                refine AW_go okX9_watch 1 ?_
                refine And.intro (fun c24 => ?_) (fun c24 => ?_)
                · rw [if_pos c24] at j9
                  refine AW_go okX9_watch 1 ?_
                  obtain ⟨rfl, rfl⟩ := am_i2 j9
                  exact AW_pick [0, 1, 2, 3] rfl hJ9
                · rw [if_neg c24] at j9
                  refine AW_go okX9_watch 2 ?_
                  obtain ⟨rfl, rfl⟩ := am_i2 j9
                  exact AW_pick [0, 1, 2, 3] rfl hJ9
            refine AW_go okX9_watch 3 ?_
            refine AW_pick (lv' := [(0, .ref 51), (1, .int a1), (2, .int y7), (3, .int (x3i + Int32.ofInt 3))]) [2, 3, 1, 0] rfl ?_
            exact ih.1 a1 y7 (x3i + Int32.ofInt 3) 0 0 0 h8 _ _ hs hf
      intro hf
      refine AW_go okX9_watch 2 ?_
      refine And.intro (fun c75 => ?_) (fun c75 => ?_)
      · rw [if_neg c75] at hf
        refine AW_go okX9_watch 8 ?_
        refine AW_pick (lv' := [(0, .ref 51), (1, .int a1), (2, .int x2i), (3, .int (Int32.ofInt 1)), (4, .int (Int32.ofInt 0)), (5, .int (Int32.ofInt 1)), (6, .int (Int32.ofInt 0))]) [4, 5, 6, 3, 2, 1, 0] rfl ?_
        exact ih.2 a1 x2i (Int32.ofInt 1) (Int32.ofInt 0) (Int32.ofInt 1) (Int32.ofInt 0) h _ _ hs hf
      · rw [if_pos c75] at hf
        refine AW_go okX9_watch 2 ?_
        obtain ⟨rfl, rfl⟩ := am_i2 hf
        exact And.intro ⟨(Nat.le_of_ble_eq_true rfl), (Nat.le_of_ble_eq_true rfl)⟩ (And.intro (Or.inl rfl) ⟨rfl, rfl⟩)
    · intro a1 x2i x3i x4i x5i x6i h v h' hs hf
      have hf : (am_let (am_b2 ((if x5i = 0 then some (x4i, h) else am_b2 (f_X9_ends n a1 x3i h) fun r8 h9 => ((if r8 = 0 then some (x4i, h9) else some (((Int32.ofInt 100) + x4i), h9))))) fun y4 h5 => (some (y4, h5))) fun b1 => ((if (am_I h 51 0) ≤ x6i then b1 else (if x5i = 0 then b1 else bif am_vp x6i 60 then (Option.bind ((if (am_I h 52 (Int32.toNatClampNeg x6i)) = (Int32.ofInt 63) then some (Int32.ofInt 100) else some (Int32.ofInt 0))) fun y7 => (bif am_vp (x6i + (Int32.ofInt 1)) 60 then (bif am_vp (x6i + (Int32.ofInt 2)) 60 then (am_b2 (f_X9_asNumber (((y7 + ((Int32.ofInt 10) * ((am_I h 52 (Int32.toNatClampNeg (x6i + (Int32.ofInt 1)))) - (Int32.ofInt 48)))) + (am_I h 52 (Int32.toNatClampNeg (x6i + (Int32.ofInt 2))))) - (Int32.ofInt 97)) h) fun r62 h63 => (am_b2 (f_X9_lead n a1 x3i r62 h63) fun r65 h66 => (Option.bind ((if r65 = 0 then some (Int32.ofInt 0) else some (Int32.ofInt 1))) fun y68 => (Option.bind ((if y68 = 0 then some x3i else some r65)) fun y121 => (Option.bind ((if y68 = 0 then some (Int32.ofInt 0) else some (Int32.ofInt 1))) fun y174 => (g_X9_watch n 1 a1 x2i y121 (x4i + y174) y68 (x6i + Int32.ofInt 3) h66)))))) else none) else none)) else none)))) = some (v, h') := hf
      refine AW_go okX9_watch 3 ?_
      refine And.intro (sK hs 51) ?_
      obtain ⟨b1, k2, hf⟩ := am_let_ok hf
      refine am_cut (P := (am_b2 ((if x5i = 0 then some (x4i, h) else am_b2 (f_X9_ends n a1 x3i h) fun r8 h9 => ((if r8 = 0 then some (x4i, h9) else some (((Int32.ofInt 100) + x4i), h9))))) fun y4 h5 => (some (y4, h5))) = some (v, h') → AW mX9_watch (rX9_watch 0 0) (fun r h2 => r = some (.int v) ∧ h2 = h') 241 [(0, .ref 51), (1, .int a1), (2, .int x2i), (3, .int x3i), (4, .int x4i), (5, .int x5i), (6, .int x6i)] [] h 0 0) (fun B3 => ?_) ?_
      · skip
        refine AW_go okX9_watch 1 ?_
        refine And.intro (fun c4 => ?_) (fun c4 => ?_)
        · rw [if_pos c4] at hf
          exact B3 (k2.symm.trans hf)
        · rw [if_neg c4] at hf
          refine AW_go okX9_watch 2 ?_
          refine And.intro (fun c5 => ?_) (fun c5 => ?_)
          · rw [if_pos c5] at hf
            exact B3 (k2.symm.trans hf)
          · rw [if_neg c5] at hf
            obtain ⟨b6, hf⟩ := am_bis hf
            refine AW_go okX9_watch 5 ?_
            refine And.intro (sK hs 51) (Exists.intro _ (And.intro (sA hs 51 1) ?_))
            refine Exists.intro 1 (Exists.intro 60 (And.intro (by decide) (And.intro (sK hs 52) (And.intro (am_vp_ok b6) ?_))))
            obtain ⟨y7, j8, hf⟩ := am_bnd hf
            refine am_cut (P := AW mX9_watch (rX9_watch 0 0) (fun r h2 => r = some (.int v) ∧ h2 = h') 152 [(0, .ref 51), (1, .int a1), (2, .int x2i), (3, .int x3i), (4, .int x4i), (5, .int x5i), (6, .int x6i)] [.int y7] h 0 0) (fun hJ8 => ?_) ?_
            · have hs := hs
              refine AW_go okX9_watch 1 ?_
              refine And.intro (fun c9 => ?_) (fun c9 => ?_)
              · rw [if_neg c9] at j8
                refine AW_go okX9_watch 1 ?_
                obtain rfl := am_i1 j8
                exact AW_pick [0, 1, 2, 3, 4, 5, 6] rfl hJ8
              · rw [if_pos c9] at j8
                refine AW_go okX9_watch 2 ?_
                obtain rfl := am_i1 j8
                exact AW_pick [0, 1, 2, 3, 4, 5, 6] rfl hJ8
            obtain ⟨b60, hf⟩ := am_bis hf
            obtain ⟨b61, hf⟩ := am_bis hf
            refine AW_go okX9_watch 25 ?_
            refine And.intro (sK hs 51) (Exists.intro _ (And.intro (sA hs 51 1) ?_))
            refine Exists.intro 1 (Exists.intro 60 (And.intro (by decide) (And.intro (sK hs 52) (And.intro (am_vp_ok b60) ?_))))
            refine And.intro (sK hs 51) (Exists.intro _ (And.intro (sA hs 51 1) ?_))
            refine Exists.intro 1 (Exists.intro 60 (And.intro (by decide) (And.intro (sK hs 52) (And.intro (am_vp_ok b61) ?_))))
            obtain ⟨r62, h63, e64, hf⟩ := am_b2_ok hf
            refine AW_callS (As := [.int (((y7 + ((Int32.ofInt 10) * ((am_I h 52 (Int32.toNatClampNeg (x6i + (Int32.ofInt 1)))) - (Int32.ofInt 48)))) + (am_I h 52 (Int32.toNatClampNeg (x6i + (Int32.ofInt 2))))) - (Int32.ofInt 97))]) (R' := rX9_asNumber 0 0) (okX9_watch.1 188 _ _ rfl) lkX9_asNumber (Or.inl kX9_209) rfl (Nat.le_of_ble_eq_true rfl) ⟨by decide, by decide⟩ ⟨(Nat.le_of_ble_eq_true rfl), (Nat.le_of_ble_eq_true rfl)⟩ (Nat.le_of_ble_eq_true rfl) (c_X9_asNumber (((y7 + ((Int32.ofInt 10) * ((am_I h 52 (Int32.toNatClampNeg (x6i + (Int32.ofInt 1)))) - (Int32.ofInt 48)))) + (am_I h 52 (Int32.toNatClampNeg (x6i + (Int32.ofInt 2))))) - (Int32.ofInt 97)) h hs e64) (fun r h' hq => ?_)
            obtain ⟨rfl, hq⟩ := hq
            replace hq := hq.symm
            subst hq
            have hs := s_X9_asNumber (((y7 + ((Int32.ofInt 10) * ((am_I h 52 (Int32.toNatClampNeg (x6i + (Int32.ofInt 1)))) - (Int32.ofInt 48)))) + (am_I h 52 (Int32.toNatClampNeg (x6i + (Int32.ofInt 2))))) - (Int32.ofInt 97)) h hs e64
            obtain ⟨r65, h66, e67, hf⟩ := am_b2_ok hf
            refine AW_callV (As := [.int a1, .int x3i, .int r62]) (R' := rX9_lead 0 0) (T := TX9) (N := 58) (ci := 9) (okX9_watch.1 191 _ _ rfl) lkX9_lead kX9_216 rfl (sK hs 51) rfl (Nat.le_of_ble_eq_true rfl) ⟨by decide, by decide⟩ ⟨(Nat.le_of_ble_eq_true rfl), (Nat.le_of_ble_eq_true rfl)⟩ (Nat.le_of_ble_eq_true rfl) (c_X9_lead n a1 x3i r62 h63 hs e67) (fun r h' hq => ?_)
            obtain ⟨rfl, hq⟩ := hq
            replace hq := hq.symm
            subst hq
            have hs := s_X9_lead n a1 x3i r62 h63 hs e67
            refine AW_go okX9_watch 2 ?_
            obtain ⟨y68, j69, hf⟩ := am_bnd hf
            refine am_cut (P := AW mX9_watch (rX9_watch 0 0) (fun r h2 => r = some (.int v) ∧ h2 = h') 206 [(0, .ref 51), (1, .int a1), (2, .int x2i), (3, .int x3i), (4, .int x4i), (5, .int x5i), (6, .int x6i), (7, .int (((y7 + ((Int32.ofInt 10) * ((am_I h 52 (Int32.toNatClampNeg (x6i + (Int32.ofInt 1)))) - (Int32.ofInt 48)))) + (am_I h 52 (Int32.toNatClampNeg (x6i + (Int32.ofInt 2))))) - (Int32.ofInt 97))), (8, .int r65)] [.int y68] h66 0 0) (fun hJ69 => ?_) ?_
            · have hs := hs
              refine AW_go okX9_watch 1 ?_
              refine And.intro (fun c70 => ?_) (fun c70 => ?_)
              · rw [if_pos c70] at j69
                refine AW_go okX9_watch 1 ?_
                obtain rfl := am_i1 j69
                exact AW_pick [2, 3, 4, 5, 6, 7, 8, 1, 0] rfl hJ69
              · rw [if_neg c70] at j69
                refine AW_go okX9_watch 2 ?_
                obtain rfl := am_i1 j69
                exact AW_pick [2, 3, 4, 5, 6, 7, 8, 1, 0] rfl hJ69
            refine AW_go okX9_watch 2 ?_
            obtain ⟨y121, j122, hf⟩ := am_bnd hf
            refine am_cut (P := AW mX9_watch (rX9_watch 0 0) (fun r h2 => r = some (.int v) ∧ h2 = h') 219 [(0, .ref 51), (1, .int a1), (2, .int x2i), (3, .int x3i), (4, .int x4i), (5, .int y68), (6, .int x6i), (7, .int (((y7 + ((Int32.ofInt 10) * ((am_I h 52 (Int32.toNatClampNeg (x6i + (Int32.ofInt 1)))) - (Int32.ofInt 48)))) + (am_I h 52 (Int32.toNatClampNeg (x6i + (Int32.ofInt 2))))) - (Int32.ofInt 97))), (8, .int r65)] [.int y121] h66 0 0) (fun hJ122 => ?_) ?_
            · have hs := hs
              refine AW_go okX9_watch 1 ?_
              refine And.intro (fun c123 => ?_) (fun c123 => ?_)
              · rw [if_pos c123] at j122
                refine AW_go okX9_watch 1 ?_
                obtain rfl := am_i1 j122
                exact AW_pick [1, 2, 3, 4, 5, 0, 6, 7, 8] rfl hJ122
              · rw [if_neg c123] at j122
                refine AW_go okX9_watch 2 ?_
                obtain rfl := am_i1 j122
                exact AW_pick [1, 2, 3, 4, 5, 0, 6, 7, 8] rfl hJ122
            refine AW_go okX9_watch 3 ?_
            obtain ⟨y174, j175, hf⟩ := am_bnd hf
            refine am_cut (P := AW mX9_watch (rX9_watch 0 0) (fun r h2 => r = some (.int v) ∧ h2 = h') 232 [(0, .ref 51), (1, .int a1), (2, .int x2i), (3, .int y121), (4, .int x4i), (5, .int y68), (6, .int x6i), (7, .int (((y7 + ((Int32.ofInt 10) * ((am_I h 52 (Int32.toNatClampNeg (x6i + (Int32.ofInt 1)))) - (Int32.ofInt 48)))) + (am_I h 52 (Int32.toNatClampNeg (x6i + (Int32.ofInt 2))))) - (Int32.ofInt 97))), (8, .int r65)] [.int y174, .int x4i] h66 0 0) (fun hJ175 => ?_) ?_
            · have hs := hs
              refine AW_go okX9_watch 1 ?_
              refine And.intro (fun c176 => ?_) (fun c176 => ?_)
              · rw [if_pos c176] at j175
                refine AW_go okX9_watch 1 ?_
                obtain rfl := am_i1 j175
                exact AW_pick [1, 2, 3, 0, 4, 5, 6, 7, 8] rfl hJ175
              · rw [if_neg c176] at j175
                refine AW_go okX9_watch 2 ?_
                obtain rfl := am_i1 j175
                exact AW_pick [1, 2, 3, 0, 4, 5, 6, 7, 8] rfl hJ175
            refine AW_go okX9_watch 4 ?_
            refine AW_pick (lv' := [(0, .ref 51), (1, .int a1), (2, .int x2i), (3, .int y121), (4, .int (x4i + y174)), (5, .int y68), (6, .int (x6i + Int32.ofInt 3))]) [2, 3, 4, 5, 1, 6, 0] rfl ?_
            exact ih.2 a1 x2i y121 (x4i + y174) y68 (x6i + Int32.ofInt 3) h66 _ _ hs hf
      intro hf
      refine AW_go okX9_watch 1 ?_
      obtain ⟨y227, h228, j229, hf⟩ := am_b2_ok hf
      have hs0 := hs
      have hs : am_stat h228 := by
        have hs := hs0
        by_cases c230 : x5i = 0
        · rw [if_pos c230] at j229
          obtain ⟨rfl, rfl⟩ := am_i2 j229
          exact hs
        · rw [if_neg c230] at j229
          obtain ⟨r231, h232, e233, j229⟩ := am_b2_ok j229
          have hs := s_X9_ends n a1 x3i h hs e233
          by_cases c234 : r231 = 0
          · rw [if_pos c234] at j229
            obtain ⟨rfl, rfl⟩ := am_i2 j229
            exact hs
          · rw [if_neg c234] at j229
            obtain ⟨rfl, rfl⟩ := am_i2 j229
            exact hs
      refine am_cut (P := AW mX9_watch (rX9_watch 0 0) (fun r h2 => r = some (.int v) ∧ h2 = h') 265 [(0, .ref 51), (1, .int a1), (2, .int x2i), (3, .int x3i), (4, .int x4i), (5, .int x5i), (6, .int x6i)] [.int y227] h228 0 0) (fun hJ229 => ?_) ?_
      · have hs := hs0
        refine AW_go okX9_watch 1 ?_
        refine And.intro (fun c230 => ?_) (fun c230 => ?_)
        · rw [if_pos c230] at j229
          refine AW_go okX9_watch 1 ?_
          obtain ⟨rfl, rfl⟩ := am_i2 j229
          exact AW_pick [0, 1, 2, 3, 4, 5, 6] rfl hJ229
        · rw [if_neg c230] at j229
          refine AW_go okX9_watch 3 ?_
          obtain ⟨r231, h232, e233, j229⟩ := am_b2_ok j229
          refine AW_callV (As := [.int a1, .int x3i]) (R' := rX9_ends 0 0) (T := TX9) (N := 58) (ci := 9) (okX9_watch.1 249 _ _ rfl) lkX9_ends kX9_248 rfl (sK hs 51) rfl (Nat.le_of_ble_eq_true rfl) ⟨by decide, by decide⟩ ⟨(Nat.le_of_ble_eq_true rfl), (Nat.le_of_ble_eq_true rfl)⟩ (Nat.le_of_ble_eq_true rfl) (c_X9_ends n a1 x3i h hs e233) (fun r h' hq => ?_)
          obtain ⟨rfl, hq⟩ := hq
          replace hq := hq.symm
          subst hq
          have hs := s_X9_ends n a1 x3i h hs e233
          refine AW_go okX9_watch 1 ?_
          refine And.intro (fun c234 => ?_) (fun c234 => ?_)
          · rw [if_pos c234] at j229
            refine AW_go okX9_watch 1 ?_
            obtain ⟨rfl, rfl⟩ := am_i2 j229
            exact AW_pick [0, 1, 2, 3, 4, 5, 6] rfl hJ229
          · rw [if_neg c234] at j229
            refine AW_go okX9_watch 4 ?_
            obtain ⟨rfl, rfl⟩ := am_i2 j229
            exact AW_pick [0, 1, 2, 3, 4, 5, 6] rfl hJ229
      refine AW_go okX9_watch 1 ?_
      obtain ⟨rfl, rfl⟩ := am_i2 hf
      exact And.intro ⟨(Nat.le_of_ble_eq_true rfl), (Nat.le_of_ble_eq_true rfl)⟩ (And.intro (Or.inl rfl) ⟨rfl, rfl⟩)
def f_X9_watch (n : Nat) (a1 : Int32) (h : am_H) : Option (Int32 × am_H) := am_b2 (f_X9_isBook a1 h) fun r1 h2 => ((if r1 = 0 then some ((Int32.ofInt (-101)), h2) else Option.bind ((if ((am_I h2 51 0) - (am_I h2 51 0) / (Int32.ofInt 3) * (Int32.ofInt 3)) = 0 then some (Int32.ofInt 1) else some (Int32.ofInt 0))) fun y5 => (g_X9_watch n 0 a1 y5 (Int32.ofInt 0) 0 0 0 h2)))
set_option maxRecDepth 100000 in
theorem s_X9_watch (n : Nat) (a1 : Int32) (h : am_H) (hs : am_stat h) {v : Int32} {h' : am_H} (hf : f_X9_watch n a1 h = some (v, h')) : am_stat h' := by
  unfold f_X9_watch at hf
  obtain ⟨r1, h2, e3, hf⟩ := am_b2_ok hf
  have hs := s_X9_isBook a1 h hs e3
  by_cases c4 : r1 = 0
  · rw [if_pos c4] at hf
    obtain ⟨rfl, rfl⟩ := am_i2 hf
    exact hs
  · rw [if_neg c4] at hf
    obtain ⟨y5, j6, hf⟩ := am_bnd hf
    exact (m_X9_watch n).1 a1 y5 (Int32.ofInt 0) 0 0 0 h2 _ _ hs hf
set_option maxRecDepth 100000 in
theorem c_X9_watch (n : Nat) (a1 : Int32) (h : am_H) (hs : am_stat h) {v : Int32} {h' : am_H} (hf : f_X9_watch n a1 h = some (v, h')) : AMet mX9_watch (rX9_watch 0 0) (fun r h2 => r = some (.int v) ∧ h2 = h') [.ref 51, .int a1] h := by
  unfold f_X9_watch at hf
  refine AW_go okX9_watch 2 ?_
  obtain ⟨r1, h2, e3, hf⟩ := am_b2_ok hf
  refine AW_callV (As := [.int a1]) (R' := rX9_isBook 0 0) (T := TX9) (N := 58) (ci := 9) (okX9_watch.1 2 _ _ rfl) lkX9_isBook kX9_203 rfl (sK hs 51) rfl (Nat.le_of_ble_eq_true rfl) ⟨by decide, by decide⟩ ⟨(Nat.le_of_ble_eq_true rfl), (Nat.le_of_ble_eq_true rfl)⟩ (Nat.le_of_ble_eq_true rfl) (c_X9_isBook a1 h hs e3) (fun r h' hq => ?_)
  obtain ⟨rfl, hq⟩ := hq
  replace hq := hq.symm
  subst hq
  have hs := s_X9_isBook a1 h hs e3
  refine AW_go okX9_watch 1 ?_
  refine And.intro (fun c4 => ?_) (fun c4 => ?_)
  · rw [if_neg c4] at hf
    refine AW_go okX9_watch 4 ?_
    refine And.intro (sK hs 51) ?_
    refine And.intro (by decide) ?_
    obtain ⟨y5, j6, hf⟩ := am_bnd hf
    refine am_cut (P := AW mX9_watch (rX9_watch 0 0) (fun r h2 => r = some (.int v) ∧ h2 = h') 25 [(0, .ref 51), (1, .int a1)] [.int y5] h2 0 0) (fun hJ6 => ?_) ?_
    · have hs := hs
      refine AW_go okX9_watch 1 ?_
      refine And.intro (fun c7 => ?_) (fun c7 => ?_)
      · rw [if_neg c7] at j6
        refine AW_go okX9_watch 1 ?_
        obtain rfl := am_i1 j6
        exact AW_pick [0, 1] rfl hJ6
      · rw [if_pos c7] at j6
        refine AW_go okX9_watch 2 ?_
        obtain rfl := am_i1 j6
        exact AW_pick [0, 1] rfl hJ6
    refine AW_go okX9_watch 3 ?_
    refine AW_pick (lv' := [(0, .ref 51), (1, .int a1), (2, .int y5), (3, .int (Int32.ofInt 0))]) [2, 3, 1, 0] rfl ?_
    exact (l_X9_watch n).1 a1 y5 (Int32.ofInt 0) 0 0 0 h2 _ _ hs hf
  · rw [if_pos c4] at hf
    refine AW_go okX9_watch 2 ?_
    obtain ⟨rfl, rfl⟩ := am_i2 hf
    exact And.intro ⟨(Nat.le_of_ble_eq_true rfl), (Nat.le_of_ble_eq_true rfl)⟩ (And.intro (Or.inl rfl) ⟨rfl, rfl⟩)
def g_X9_beginAnew : Nat → Nat → Int32 → am_H → Option (Unit × am_H)
  | 0, _, _, _ => none
  | n + 1, tag, x1i, h => bif Nat.beq tag 0 then ((if (Int32.ofInt 3) ≤ x1i then g_X9_beginAnew n 1 (Int32.ofInt 0) h else bif am_vp x1i 3 then (g_X9_beginAnew n 0 (x1i + Int32.ofInt 1) (am_sI h 77 (Int32.toNatClampNeg x1i) (Int32.ofInt 0))) else none)) else ((if (Int32.ofInt 9) ≤ x1i then some ((), h) else bif am_vp x1i 9 then (g_X9_beginAnew n 1 (x1i + Int32.ofInt 1) (am_sI h 78 (Int32.toNatClampNeg x1i) (Int32.ofInt 0))) else none))
set_option maxRecDepth 100000 in
set_option maxHeartbeats 4000000 in
theorem m_X9_beginAnew (n : Nat) : (∀ (x1i : Int32) (h : am_H) (v : Unit) (h' : am_H), am_stat h → g_X9_beginAnew n 0 x1i h = some (v, h') → am_stat h') ∧ (∀ (x1i : Int32) (h : am_H) (v : Unit) (h' : am_H), am_stat h → g_X9_beginAnew n 1 x1i h = some (v, h') → am_stat h') := by
  induction n with
  | zero => exact ⟨fun x1i h v h' hs hf => (by cases hf), fun x1i h v h' hs hf => (by cases hf)⟩
  | succ n ih =>
    refine ⟨?_, ?_⟩
    · intro x1i h v h' hs hf
      have hf : ((if (Int32.ofInt 3) ≤ x1i then g_X9_beginAnew n 1 (Int32.ofInt 0) h else bif am_vp x1i 3 then (g_X9_beginAnew n 0 (x1i + Int32.ofInt 1) (am_sI h 77 (Int32.toNatClampNeg x1i) (Int32.ofInt 0))) else none)) = some (v, h') := hf
      by_cases c1 : (Int32.ofInt 3) ≤ x1i
      · rw [if_pos c1] at hf
        exact ih.2 (Int32.ofInt 0) h _ _ hs hf
      · rw [if_neg c1] at hf
        obtain ⟨b2, hf⟩ := am_bis hf
        exact ih.1 (x1i + Int32.ofInt 1) (am_sI h 77 (Int32.toNatClampNeg x1i) (Int32.ofInt 0)) _ _ hs hf
    · intro x1i h v h' hs hf
      have hf : ((if (Int32.ofInt 9) ≤ x1i then some ((), h) else bif am_vp x1i 9 then (g_X9_beginAnew n 1 (x1i + Int32.ofInt 1) (am_sI h 78 (Int32.toNatClampNeg x1i) (Int32.ofInt 0))) else none)) = some (v, h') := hf
      by_cases c1 : (Int32.ofInt 9) ≤ x1i
      · rw [if_pos c1] at hf
        obtain ⟨rfl, rfl⟩ := am_i2 hf
        exact hs
      · rw [if_neg c1] at hf
        obtain ⟨b2, hf⟩ := am_bis hf
        exact ih.2 (x1i + Int32.ofInt 1) (am_sI h 78 (Int32.toNatClampNeg x1i) (Int32.ofInt 0)) _ _ hs hf
set_option maxRecDepth 100000 in
set_option maxHeartbeats 4000000 in
theorem l_X9_beginAnew (n : Nat) : (∀ (x1i : Int32) (h : am_H) (v : Unit) (h' : am_H), am_stat h → g_X9_beginAnew n 0 x1i h = some (v, h') → AW mX9_beginAnew (rX9_beginAnew 0 0) (fun r h2 => r = none ∧ h2 = h') 7 [(0, .ref 51), (1, .int x1i)] [] h 0 0) ∧ (∀ (x1i : Int32) (h : am_H) (v : Unit) (h' : am_H), am_stat h → g_X9_beginAnew n 1 x1i h = some (v, h') → AW mX9_beginAnew (rX9_beginAnew 0 0) (fun r h2 => r = none ∧ h2 = h') 27 [(0, .ref 51), (1, .int x1i)] [] h 0 0) := by
  induction n with
  | zero => exact ⟨fun x1i h v h' hs hf => (by cases hf), fun x1i h v h' hs hf => (by cases hf)⟩
  | succ n ih =>
    refine ⟨?_, ?_⟩
    · intro x1i h v h' hs hf
      have hf : ((if (Int32.ofInt 3) ≤ x1i then g_X9_beginAnew n 1 (Int32.ofInt 0) h else bif am_vp x1i 3 then (g_X9_beginAnew n 0 (x1i + Int32.ofInt 1) (am_sI h 77 (Int32.toNatClampNeg x1i) (Int32.ofInt 0))) else none)) = some (v, h') := hf
      refine AW_go okX9_beginAnew 3 ?_
      refine And.intro (fun c1 => ?_) (fun c1 => ?_)
      · rw [if_pos c1] at hf
        refine AW_go okX9_beginAnew 2 ?_
        refine AW_pick (lv' := [(0, .ref 51), (1, .int (Int32.ofInt 0))]) [1, 0] rfl ?_
        exact ih.2 (Int32.ofInt 0) h _ _ hs hf
      · rw [if_neg c1] at hf
        obtain ⟨b2, hf⟩ := am_bis hf
        refine AW_go okX9_beginAnew 7 ?_
        refine And.intro (sK hs 51) (Exists.intro _ (And.intro (sA hs 51 38) ?_))
        refine Exists.intro 3 (And.intro (sK hs 77) (And.intro (am_vp_ok b2) ?_))
        refine AW_pick (lv' := [(0, .ref 51), (1, .int (x1i + Int32.ofInt 1))]) [1, 0] rfl ?_
        exact ih.1 (x1i + Int32.ofInt 1) (am_sI h 77 (Int32.toNatClampNeg x1i) (Int32.ofInt 0)) _ _ hs hf
    · intro x1i h v h' hs hf
      have hf : ((if (Int32.ofInt 9) ≤ x1i then some ((), h) else bif am_vp x1i 9 then (g_X9_beginAnew n 1 (x1i + Int32.ofInt 1) (am_sI h 78 (Int32.toNatClampNeg x1i) (Int32.ofInt 0))) else none)) = some (v, h') := hf
      refine AW_go okX9_beginAnew 3 ?_
      refine And.intro (fun c1 => ?_) (fun c1 => ?_)
      · rw [if_pos c1] at hf
        refine AW_go okX9_beginAnew 1 ?_
        obtain ⟨rfl, rfl⟩ := am_i2 hf
        exact And.intro ⟨(Nat.le_of_ble_eq_true rfl), (Nat.le_of_ble_eq_true rfl)⟩ (And.intro rfl ⟨rfl, rfl⟩)
      · rw [if_neg c1] at hf
        obtain ⟨b2, hf⟩ := am_bis hf
        refine AW_go okX9_beginAnew 7 ?_
        refine And.intro (sK hs 51) (Exists.intro _ (And.intro (sA hs 51 39) ?_))
        refine Exists.intro 9 (And.intro (sK hs 78) (And.intro (am_vp_ok b2) ?_))
        refine AW_pick (lv' := [(0, .ref 51), (1, .int (x1i + Int32.ofInt 1))]) [1, 0] rfl ?_
        exact ih.2 (x1i + Int32.ofInt 1) (am_sI h 78 (Int32.toNatClampNeg x1i) (Int32.ofInt 0)) _ _ hs hf
def f_X9_beginAnew (n : Nat) (h : am_H) : Option (Unit × am_H) := g_X9_beginAnew n 0 (Int32.ofInt 0) (am_sI h 51 12 (Int32.ofInt 0))
set_option maxRecDepth 100000 in
theorem s_X9_beginAnew (n : Nat) (h : am_H) (hs : am_stat h) {v : Unit} {h' : am_H} (hf : f_X9_beginAnew n h = some (v, h')) : am_stat h' := by
  unfold f_X9_beginAnew at hf
  exact (m_X9_beginAnew n).1 (Int32.ofInt 0) (am_sI h 51 12 (Int32.ofInt 0)) _ _ hs hf
set_option maxRecDepth 100000 in
theorem c_X9_beginAnew (n : Nat) (h : am_H) (hs : am_stat h) {v : Unit} {h' : am_H} (hf : f_X9_beginAnew n h = some (v, h')) : AMet mX9_beginAnew (rX9_beginAnew 0 0) (fun r h2 => r = none ∧ h2 = h') [.ref 51] h := by
  unfold f_X9_beginAnew at hf
  refine AW_go okX9_beginAnew 5 ?_
  refine And.intro (sK hs 51) ?_
  refine AW_pick (lv' := [(0, .ref 51), (1, .int (Int32.ofInt 0))]) [1, 0] rfl ?_
  exact (l_X9_beginAnew n).1 (Int32.ofInt 0) (am_sI h 51 12 (Int32.ofInt 0)) _ _ hs hf
def g_X9_seat : Nat → Nat → Int32 → Int32 → Int32 → am_H → Option (Int32 × am_H)
  | 0, _, _, _, _, _ => none
  | n + 1, _, a1, a2, x3i, h => am_let (bif am_vp a1 3 then (am_b2 (f_X9_beginAnew n (am_sI (am_sI h 58 (Int32.toNatClampNeg a1) a2) 51 52 (Int32.ofInt 0))) fun r5 h6 => (some ((am_I h 58 (Int32.toNatClampNeg a1)), h6))) else none) fun b1 => ((if a2 = (Int32.ofInt (-1)) then b1 else bif am_vp a2 8 then ((if (am_I h 55 (Int32.toNatClampNeg a2)) < x3i then b1 else bif am_vp (((Int32.ofInt 16) * a2) + x3i) 128 then ((if (((am_I h 53 (Int32.toNatClampNeg (((Int32.ofInt 16) * a2) + x3i))) - (am_I h 53 (Int32.toNatClampNeg (((Int32.ofInt 16) * a2) + x3i))) / (Int32.ofInt 100) * (Int32.ofInt 100)) / (Int32.ofInt 10)) = a1 then some ((Int32.ofInt (-103)), h) else g_X9_seat n 0 a1 a2 (x3i + Int32.ofInt 1) h)) else none)) else none))
set_option maxRecDepth 100000 in
set_option maxHeartbeats 4000000 in
theorem m_X9_seat (n : Nat) : (∀ (a1 : Int32) (a2 : Int32) (x3i : Int32) (h : am_H) (v : Int32) (h' : am_H), am_stat h → g_X9_seat n 0 a1 a2 x3i h = some (v, h') → am_stat h') := by
  induction n with
  | zero => exact fun a1 a2 x3i h v h' hs hf => (by cases hf)
  | succ n ih =>
    skip
    · intro a1 a2 x3i h v h' hs hf
      have hf : (am_let (bif am_vp a1 3 then (am_b2 (f_X9_beginAnew n (am_sI (am_sI h 58 (Int32.toNatClampNeg a1) a2) 51 52 (Int32.ofInt 0))) fun r5 h6 => (some ((am_I h 58 (Int32.toNatClampNeg a1)), h6))) else none) fun b1 => ((if a2 = (Int32.ofInt (-1)) then b1 else bif am_vp a2 8 then ((if (am_I h 55 (Int32.toNatClampNeg a2)) < x3i then b1 else bif am_vp (((Int32.ofInt 16) * a2) + x3i) 128 then ((if (((am_I h 53 (Int32.toNatClampNeg (((Int32.ofInt 16) * a2) + x3i))) - (am_I h 53 (Int32.toNatClampNeg (((Int32.ofInt 16) * a2) + x3i))) / (Int32.ofInt 100) * (Int32.ofInt 100)) / (Int32.ofInt 10)) = a1 then some ((Int32.ofInt (-103)), h) else g_X9_seat n 0 a1 a2 (x3i + Int32.ofInt 1) h)) else none)) else none))) = some (v, h') := hf
      obtain ⟨b1, k2, hf⟩ := am_let_ok hf
      refine am_cut (P := (bif am_vp a1 3 then (am_b2 (f_X9_beginAnew n (am_sI (am_sI h 58 (Int32.toNatClampNeg a1) a2) 51 52 (Int32.ofInt 0))) fun r5 h6 => (some ((am_I h 58 (Int32.toNatClampNeg a1)), h6))) else none) = some (v, h') → am_stat h') (fun B3 => ?_) ?_
      · skip
        by_cases c4 : a2 = (Int32.ofInt (-1))
        · rw [if_pos c4] at hf
          exact B3 (k2.symm.trans hf)
        · rw [if_neg c4] at hf
          obtain ⟨b5, hf⟩ := am_bis hf
          by_cases c6 : (am_I h 55 (Int32.toNatClampNeg a2)) < x3i
          · rw [if_pos c6] at hf
            exact B3 (k2.symm.trans hf)
          · rw [if_neg c6] at hf
            obtain ⟨b7, hf⟩ := am_bis hf
            by_cases c8 : (((am_I h 53 (Int32.toNatClampNeg (((Int32.ofInt 16) * a2) + x3i))) - (am_I h 53 (Int32.toNatClampNeg (((Int32.ofInt 16) * a2) + x3i))) / (Int32.ofInt 100) * (Int32.ofInt 100)) / (Int32.ofInt 10)) = a1
            · rw [if_pos c8] at hf
              obtain ⟨rfl, rfl⟩ := am_i2 hf
              exact hs
            · rw [if_neg c8] at hf
              exact ih a1 a2 (x3i + Int32.ofInt 1) h _ _ hs hf
      intro hf
      obtain ⟨b9, hf⟩ := am_bis hf
      obtain ⟨r10, h11, e12, hf⟩ := am_b2_ok hf
      have hs := s_X9_beginAnew n (am_sI (am_sI h 58 (Int32.toNatClampNeg a1) a2) 51 52 (Int32.ofInt 0)) hs e12
      obtain ⟨rfl, rfl⟩ := am_i2 hf
      exact hs
set_option maxRecDepth 100000 in
set_option maxHeartbeats 4000000 in
theorem l_X9_seat (n : Nat) : (∀ (a1 : Int32) (a2 : Int32) (x3i : Int32) (h : am_H) (v : Int32) (h' : am_H), am_stat h → g_X9_seat n 0 a1 a2 x3i h = some (v, h') → AW mX9_seat (rX9_seat 0 0) (fun r h2 => r = some (.int v) ∧ h2 = h') 25 [(0, .ref 51), (1, .int a1), (2, .int a2), (3, .int x3i)] [] h 0 0) := by
  induction n with
  | zero => exact fun a1 a2 x3i h v h' hs hf => (by cases hf)
  | succ n ih =>
    skip
    · intro a1 a2 x3i h v h' hs hf
      have hf : (am_let (bif am_vp a1 3 then (am_b2 (f_X9_beginAnew n (am_sI (am_sI h 58 (Int32.toNatClampNeg a1) a2) 51 52 (Int32.ofInt 0))) fun r5 h6 => (some ((am_I h 58 (Int32.toNatClampNeg a1)), h6))) else none) fun b1 => ((if a2 = (Int32.ofInt (-1)) then b1 else bif am_vp a2 8 then ((if (am_I h 55 (Int32.toNatClampNeg a2)) < x3i then b1 else bif am_vp (((Int32.ofInt 16) * a2) + x3i) 128 then ((if (((am_I h 53 (Int32.toNatClampNeg (((Int32.ofInt 16) * a2) + x3i))) - (am_I h 53 (Int32.toNatClampNeg (((Int32.ofInt 16) * a2) + x3i))) / (Int32.ofInt 100) * (Int32.ofInt 100)) / (Int32.ofInt 10)) = a1 then some ((Int32.ofInt (-103)), h) else g_X9_seat n 0 a1 a2 (x3i + Int32.ofInt 1) h)) else none)) else none))) = some (v, h') := hf
      refine AW_go okX9_seat 2 ?_
      obtain ⟨b1, k2, hf⟩ := am_let_ok hf
      refine am_cut (P := (bif am_vp a1 3 then (am_b2 (f_X9_beginAnew n (am_sI (am_sI h 58 (Int32.toNatClampNeg a1) a2) 51 52 (Int32.ofInt 0))) fun r5 h6 => (some ((am_I h 58 (Int32.toNatClampNeg a1)), h6))) else none) = some (v, h') → AW mX9_seat (rX9_seat 0 0) (fun r h2 => r = some (.int v) ∧ h2 = h') 70 [(0, .ref 51), (1, .int a1), (2, .int a2), (3, .int x3i)] [] h 0 0) (fun B3 => ?_) ?_
      · skip
        refine AW_go okX9_seat 1 ?_
        refine And.intro (fun c4 => ?_) (fun c4 => ?_)
        · rw [if_pos c4] at hf
          exact B3 (k2.symm.trans hf)
        · rw [if_neg c4] at hf
          obtain ⟨b5, hf⟩ := am_bis hf
          refine AW_go okX9_seat 6 ?_
          refine And.intro (sK hs 51) (Exists.intro _ (And.intro (sA hs 51 5) ?_))
          refine Exists.intro 8 (And.intro (sK hs 55) (And.intro (am_vp_ok b5) ?_))
          refine And.intro (fun c6 => ?_) (fun c6 => ?_)
          · rw [if_pos c6] at hf
            exact B3 (k2.symm.trans hf)
          · rw [if_neg c6] at hf
            obtain ⟨b7, hf⟩ := am_bis hf
            refine AW_go okX9_seat 14 ?_
            refine And.intro (sK hs 51) (Exists.intro _ (And.intro (sA hs 51 3) ?_))
            refine Exists.intro 128 (And.intro (sK hs 53) (And.intro (am_vp_ok b7) ?_))
            refine And.intro (by decide) ?_
            refine And.intro (by decide) ?_
            refine And.intro (fun c8 => ?_) (fun c8 => ?_)
            · rw [if_neg c8] at hf
              refine AW_go okX9_seat 2 ?_
              refine AW_pick (lv' := [(0, .ref 51), (1, .int a1), (2, .int a2), (3, .int (x3i + Int32.ofInt 1))]) [1, 2, 3, 0] rfl ?_
              exact ih a1 a2 (x3i + Int32.ofInt 1) h _ _ hs hf
            · rw [if_pos c8] at hf
              refine AW_go okX9_seat 2 ?_
              obtain ⟨rfl, rfl⟩ := am_i2 hf
              exact And.intro ⟨(Nat.le_of_ble_eq_true rfl), (Nat.le_of_ble_eq_true rfl)⟩ (And.intro (Or.inl rfl) ⟨rfl, rfl⟩)
      intro hf
      obtain ⟨b9, hf⟩ := am_bis hf
      refine AW_go okX9_seat 14 ?_
      refine And.intro (sK hs 51) (Exists.intro _ (And.intro (sA hs 51 9) ?_))
      refine Exists.intro 3 (And.intro (sK hs 58) (And.intro (am_vp_ok b9) ?_))
      refine And.intro (sK hs 51) (Exists.intro _ (And.intro (sA hs 51 9) ?_))
      refine Exists.intro 3 (And.intro (sK hs 58) (And.intro (am_vp_ok b9) ?_))
      refine And.intro (Or.inl rfl) (And.intro (sK hs 51) ?_)
      obtain ⟨r10, h11, e12, hf⟩ := am_b2_ok hf
      refine AW_callV (As := []) (R' := rX9_beginAnew 0 0) (T := TX9) (N := 58) (ci := 9) (okX9_seat.1 90 _ _ rfl) lkX9_beginAnew kX9_264 rfl (sK hs 51) rfl (Nat.le_of_ble_eq_true rfl) ⟨by decide, by decide⟩ ⟨(Nat.le_of_ble_eq_true rfl), (Nat.le_of_ble_eq_true rfl)⟩ (Nat.le_of_ble_eq_true rfl) (c_X9_beginAnew n (am_sI (am_sI h 58 (Int32.toNatClampNeg a1) a2) 51 52 (Int32.ofInt 0)) hs e12) (fun r h' hq => ?_)
      obtain ⟨rfl, hq⟩ := hq
      replace hq := hq.symm
      subst hq
      have hs := s_X9_beginAnew n (am_sI (am_sI h 58 (Int32.toNatClampNeg a1) a2) 51 52 (Int32.ofInt 0)) hs e12
      refine AW_go okX9_seat 2 ?_
      obtain ⟨rfl, rfl⟩ := am_i2 hf
      exact And.intro ⟨(Nat.le_of_ble_eq_true rfl), (Nat.le_of_ble_eq_true rfl)⟩ (And.intro (Or.inl rfl) ⟨rfl, rfl⟩)
def f_X9_seat (n : Nat) (a1 : Int32) (a2 : Int32) (h : am_H) : Option (Int32 × am_H) := am_b2 (f_X9_isOffice a1 h) fun r1 h2 => ((if r1 = 0 then some ((Int32.ofInt (-101)), h2) else (if a2 = (Int32.ofInt (-1)) then g_X9_seat n 0 a1 a2 (Int32.ofInt 1) h2 else am_b2 (f_X9_isBook a2 h2) fun r6 h7 => ((if r6 = 0 then some ((Int32.ofInt (-101)), h7) else g_X9_seat n 0 a1 a2 (Int32.ofInt 1) h7)))))
set_option maxRecDepth 100000 in
theorem s_X9_seat (n : Nat) (a1 : Int32) (a2 : Int32) (h : am_H) (hs : am_stat h) {v : Int32} {h' : am_H} (hf : f_X9_seat n a1 a2 h = some (v, h')) : am_stat h' := by
  unfold f_X9_seat at hf
  obtain ⟨r1, h2, e3, hf⟩ := am_b2_ok hf
  have hs := s_X9_isOffice a1 h hs e3
  by_cases c4 : r1 = 0
  · rw [if_pos c4] at hf
    obtain ⟨rfl, rfl⟩ := am_i2 hf
    exact hs
  · rw [if_neg c4] at hf
    by_cases c5 : a2 = (Int32.ofInt (-1))
    · rw [if_pos c5] at hf
      exact (m_X9_seat n) a1 a2 (Int32.ofInt 1) h2 _ _ hs hf
    · rw [if_neg c5] at hf
      obtain ⟨r6, h7, e8, hf⟩ := am_b2_ok hf
      have hs := s_X9_isBook a2 h2 hs e8
      by_cases c9 : r6 = 0
      · rw [if_pos c9] at hf
        obtain ⟨rfl, rfl⟩ := am_i2 hf
        exact hs
      · rw [if_neg c9] at hf
        exact (m_X9_seat n) a1 a2 (Int32.ofInt 1) h7 _ _ hs hf
set_option maxRecDepth 100000 in
theorem c_X9_seat (n : Nat) (a1 : Int32) (a2 : Int32) (h : am_H) (hs : am_stat h) {v : Int32} {h' : am_H} (hf : f_X9_seat n a1 a2 h = some (v, h')) : AMet mX9_seat (rX9_seat 0 0) (fun r h2 => r = some (.int v) ∧ h2 = h') [.ref 51, .int a1, .int a2] h := by
  unfold f_X9_seat at hf
  refine AW_go okX9_seat 1 ?_
  obtain ⟨r1, h2, e3, hf⟩ := am_b2_ok hf
  refine AW_callS (As := [.int a1]) (R' := rX9_isOffice 0 0) (okX9_seat.1 1 _ _ rfl) lkX9_isOffice (Or.inl kX9_200) rfl (Nat.le_of_ble_eq_true rfl) ⟨by decide, by decide⟩ ⟨(Nat.le_of_ble_eq_true rfl), (Nat.le_of_ble_eq_true rfl)⟩ (Nat.le_of_ble_eq_true rfl) (c_X9_isOffice a1 h hs e3) (fun r h' hq => ?_)
  obtain ⟨rfl, hq⟩ := hq
  replace hq := hq.symm
  subst hq
  have hs := s_X9_isOffice a1 h hs e3
  refine AW_go okX9_seat 1 ?_
  refine And.intro (fun c4 => ?_) (fun c4 => ?_)
  · rw [if_pos c4] at hf
    refine AW_go okX9_seat 2 ?_
    obtain ⟨rfl, rfl⟩ := am_i2 hf
    exact And.intro ⟨(Nat.le_of_ble_eq_true rfl), (Nat.le_of_ble_eq_true rfl)⟩ (And.intro (Or.inl rfl) ⟨rfl, rfl⟩)
  · rw [if_neg c4] at hf
    refine AW_go okX9_seat 3 ?_
    refine And.intro (fun c5 => ?_) (fun c5 => ?_)
    · rw [if_pos c5] at hf
      refine AW_go okX9_seat 2 ?_
      refine AW_pick (lv' := [(0, .ref 51), (1, .int a1), (2, .int a2), (3, .int (Int32.ofInt 1))]) [1, 2, 3, 0] rfl ?_
      exact (l_X9_seat n) a1 a2 (Int32.ofInt 1) h2 _ _ hs hf
    · rw [if_neg c5] at hf
      refine AW_go okX9_seat 2 ?_
      obtain ⟨r6, h7, e8, hf⟩ := am_b2_ok hf
      refine AW_callV (As := [.int a2]) (R' := rX9_isBook 0 0) (T := TX9) (N := 58) (ci := 9) (okX9_seat.1 14 _ _ rfl) lkX9_isBook kX9_203 rfl (sK hs 51) rfl (Nat.le_of_ble_eq_true rfl) ⟨by decide, by decide⟩ ⟨(Nat.le_of_ble_eq_true rfl), (Nat.le_of_ble_eq_true rfl)⟩ (Nat.le_of_ble_eq_true rfl) (c_X9_isBook a2 h2 hs e8) (fun r h' hq => ?_)
      obtain ⟨rfl, hq⟩ := hq
      replace hq := hq.symm
      subst hq
      have hs := s_X9_isBook a2 h2 hs e8
      refine AW_go okX9_seat 1 ?_
      refine And.intro (fun c9 => ?_) (fun c9 => ?_)
      · rw [if_neg c9] at hf
        refine AW_go okX9_seat 2 ?_
        refine AW_pick (lv' := [(0, .ref 51), (1, .int a1), (2, .int a2), (3, .int (Int32.ofInt 1))]) [1, 2, 3, 0] rfl ?_
        exact (l_X9_seat n) a1 a2 (Int32.ofInt 1) h7 _ _ hs hf
      · rw [if_pos c9] at hf
        refine AW_go okX9_seat 2 ?_
        obtain ⟨rfl, rfl⟩ := am_i2 hf
        exact And.intro ⟨(Nat.le_of_ble_eq_true rfl), (Nat.le_of_ble_eq_true rfl)⟩ (And.intro (Or.inl rfl) ⟨rfl, rfl⟩)
def f_X9_isPost (a0 : Int32) (a1 : Int32) (h : am_H) : Option (Int32 × am_H) := am_b2 (f_X9_isOffice a0 h) fun r1 h2 => (am_b2 ((if r1 = 0 then some ((Int32.ofInt 0), h2) else am_b2 (f_X9_isOffice a1 h2) fun r8 h9 => ((if r8 = 0 then some ((Int32.ofInt 0), h9) else (if a0 = a1 then some ((Int32.ofInt 0), h9) else some ((Int32.ofInt 1), h9)))))) fun y4 h5 => (bif am_b01 y4 then (some (y4, h5)) else none))
set_option maxRecDepth 100000 in
theorem s_X9_isPost (a0 : Int32) (a1 : Int32) (h : am_H) (hs : am_stat h) {v : Int32} {h' : am_H} (hf : f_X9_isPost a0 a1 h = some (v, h')) : am_stat h' := by
  unfold f_X9_isPost at hf
  obtain ⟨r1, h2, e3, hf⟩ := am_b2_ok hf
  have hs := s_X9_isOffice a0 h hs e3
  obtain ⟨y4, h5, j6, hf⟩ := am_b2_ok hf
  have hs0 := hs
  have hs : am_stat h5 := by
    have hs := hs0
    by_cases c7 : r1 = 0
    · rw [if_pos c7] at j6
      obtain ⟨rfl, rfl⟩ := am_i2 j6
      exact hs
    · rw [if_neg c7] at j6
      obtain ⟨r8, h9, e10, j6⟩ := am_b2_ok j6
      have hs := s_X9_isOffice a1 h2 hs e10
      by_cases c11 : r8 = 0
      · rw [if_pos c11] at j6
        obtain ⟨rfl, rfl⟩ := am_i2 j6
        exact hs
      · rw [if_neg c11] at j6
        by_cases c12 : a0 = a1
        · rw [if_pos c12] at j6
          obtain ⟨rfl, rfl⟩ := am_i2 j6
          exact hs
        · rw [if_neg c12] at j6
          obtain ⟨rfl, rfl⟩ := am_i2 j6
          exact hs
  obtain ⟨b63, hf⟩ := am_bis hf
  obtain ⟨rfl, rfl⟩ := am_i2 hf
  exact hs
set_option maxRecDepth 100000 in
theorem c_X9_isPost (a0 : Int32) (a1 : Int32) (h : am_H) (hs : am_stat h) {v : Int32} {h' : am_H} (hf : f_X9_isPost a0 a1 h = some (v, h')) : AMet mX9_isPost (rX9_isPost 0 0) (fun r h2 => r = some (.int v) ∧ h2 = h') [.int a0, .int a1] h := by
  unfold f_X9_isPost at hf
  refine AW_go okX9_isPost 1 ?_
  obtain ⟨r1, h2, e3, hf⟩ := am_b2_ok hf
  refine AW_callS (As := [.int a0]) (R' := rX9_isOffice 0 0) (okX9_isPost.1 1 _ _ rfl) lkX9_isOffice (Or.inl kX9_200) rfl (Nat.le_of_ble_eq_true rfl) ⟨by decide, by decide⟩ ⟨(Nat.le_of_ble_eq_true rfl), (Nat.le_of_ble_eq_true rfl)⟩ (Nat.le_of_ble_eq_true rfl) (c_X9_isOffice a0 h hs e3) (fun r h' hq => ?_)
  obtain ⟨rfl, hq⟩ := hq
  replace hq := hq.symm
  subst hq
  have hs := s_X9_isOffice a0 h hs e3
  obtain ⟨y4, h5, j6, hf⟩ := am_b2_ok hf
  have hs0 := hs
  have hs : am_stat h5 := by
    have hs := hs0
    by_cases c7 : r1 = 0
    · rw [if_pos c7] at j6
      obtain ⟨rfl, rfl⟩ := am_i2 j6
      exact hs
    · rw [if_neg c7] at j6
      obtain ⟨r8, h9, e10, j6⟩ := am_b2_ok j6
      have hs := s_X9_isOffice a1 h2 hs e10
      by_cases c11 : r8 = 0
      · rw [if_pos c11] at j6
        obtain ⟨rfl, rfl⟩ := am_i2 j6
        exact hs
      · rw [if_neg c11] at j6
        by_cases c12 : a0 = a1
        · rw [if_pos c12] at j6
          obtain ⟨rfl, rfl⟩ := am_i2 j6
          exact hs
        · rw [if_neg c12] at j6
          obtain ⟨rfl, rfl⟩ := am_i2 j6
          exact hs
  refine am_cut (P := AW mX9_isPost (rX9_isPost 0 0) (fun r h2 => r = some (.int v) ∧ h2 = h') 24 [(0, .int a0), (1, .int a1)] [.int y4] h5 0 0) (fun hJ6 => ?_) ?_
  · have hs := hs0
    refine AW_go okX9_isPost 1 ?_
    refine And.intro (fun c7 => ?_) (fun c7 => ?_)
    · rw [if_pos c7] at j6
      refine AW_go okX9_isPost 1 ?_
      obtain ⟨rfl, rfl⟩ := am_i2 j6
      exact AW_pick [0, 1] rfl hJ6
    · rw [if_neg c7] at j6
      refine AW_go okX9_isPost 1 ?_
      obtain ⟨r8, h9, e10, j6⟩ := am_b2_ok j6
      refine AW_callS (As := [.int a1]) (R' := rX9_isOffice 0 0) (okX9_isPost.1 8 _ _ rfl) lkX9_isOffice (Or.inl kX9_200) rfl (Nat.le_of_ble_eq_true rfl) ⟨by decide, by decide⟩ ⟨(Nat.le_of_ble_eq_true rfl), (Nat.le_of_ble_eq_true rfl)⟩ (Nat.le_of_ble_eq_true rfl) (c_X9_isOffice a1 h2 hs e10) (fun r h' hq => ?_)
      obtain ⟨rfl, hq⟩ := hq
      replace hq := hq.symm
      subst hq
      have hs := s_X9_isOffice a1 h2 hs e10
      refine AW_go okX9_isPost 1 ?_
      refine And.intro (fun c11 => ?_) (fun c11 => ?_)
      · rw [if_pos c11] at j6
        refine AW_go okX9_isPost 1 ?_
        obtain ⟨rfl, rfl⟩ := am_i2 j6
        exact AW_pick [0, 1] rfl hJ6
      · rw [if_neg c11] at j6
        refine AW_go okX9_isPost 3 ?_
        refine And.intro (fun c12 => ?_) (fun c12 => ?_)
        · rw [if_pos c12] at j6
          refine AW_go okX9_isPost 1 ?_
          obtain ⟨rfl, rfl⟩ := am_i2 j6
          exact AW_pick [0, 1] rfl hJ6
        · rw [if_neg c12] at j6
          refine AW_go okX9_isPost 2 ?_
          obtain ⟨rfl, rfl⟩ := am_i2 j6
          exact AW_pick [0, 1] rfl hJ6
  obtain ⟨b63, hf⟩ := am_bis hf
  refine AW_go okX9_isPost 1 ?_
  obtain ⟨rfl, rfl⟩ := am_i2 hf
  exact And.intro ⟨(Nat.le_of_ble_eq_true rfl), (Nat.le_of_ble_eq_true rfl)⟩ (And.intro (Or.inr ⟨rfl, am_b01_ok b63⟩) ⟨rfl, rfl⟩)
