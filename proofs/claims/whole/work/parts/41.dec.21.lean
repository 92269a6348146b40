def g_X9_mend : Nat → Nat → Int32 → Int32 → Int64 → Int32 → Int32 → Int32 → Int32 → am_H → Option (Int32 × am_H)
  | 0, _, _, _, _, _, _, _, _, _ => none
  | n + 1, tag, a1, x2i, x3j, x5i, x6i, x7i, x8i, h => bif Nat.beq tag 0 then (am_let (am_b2 (f_X9_layState n x3j (am_sI (am_sI h 51 40 (Int32.ofInt (-1))) 51 52 (Int32.ofInt 0))) fun r4 h5 => (some (x5i, h5))) fun b1 => ((if (Int32.ofInt 3) ≤ x6i then b1 else (if x5i = (Int32.ofInt (-1)) then g_X9_mend n 1 a1 x2i x3j x5i x6i (Int32.ofInt 1) 0 h else b1)))) else (bif Nat.beq tag 1 then (bif am_vp x6i 3 then ((if (am_I h 58 (Int32.toNatClampNeg x6i)) = (Int32.ofInt (-1)) then g_X9_mend n 0 a1 x2i x3j x5i (x6i + Int32.ofInt 1) 0 0 h else bif am_vp (am_I h 58 (Int32.toNatClampNeg x6i)) 8 then ((if (am_I h 55 (Int32.toNatClampNeg (am_I h 58 (Int32.toNatClampNeg x6i)))) < x7i then g_X9_mend n 0 a1 x2i x3j x5i (x6i + Int32.ofInt 1) 0 0 h else (if x5i = (Int32.ofInt (-1)) then g_X9_mend n 2 a1 x2i x3j x5i x6i x7i (Int32.ofInt 0) h else g_X9_mend n 0 a1 x2i x3j x5i (x6i + Int32.ofInt 1) 0 0 h))) else none)) else none) else ((if (Int32.ofInt 4) ≤ x8i then g_X9_mend n 1 a1 x2i x3j x5i x6i (x7i + Int32.ofInt 1) 0 h else (if x5i = (Int32.ofInt (-1)) then am_b2 (f_X9_actOfSeat x6i x7i (am_sI h 51 40 (Int32.ofInt (-1)))) fun r3 h4 => (Option.bind ((if (r3 - r3 / (Int32.ofInt 10) * (Int32.ofInt 10)) = x8i then some (Int32.ofInt 0) else some (Int32.ofInt 1))) fun y6 => (am_b2 ((if y6 = 0 then some ((Int32.ofInt (-1)), (am_sI (am_sI (am_sI (am_sI h4 51 40 x6i) 51 41 x7i) 51 42 x8i) 51 52 (Int32.ofInt 0))) else am_b2 (f_X9_isWell n (am_sI (am_sI (am_sI (am_sI h4 51 40 x6i) 51 41 x7i) 51 42 x8i) 51 52 (Int32.ofInt 0))) fun r63 h64 => ((if r63 = 0 then some ((Int32.ofInt (-1)), h64) else (if a1 = 0 then some (x6i, h64) else (if a1 = (Int32.ofInt 1) then some (x7i, h64) else some (x8i, h64))))))) fun y59 h60 => (g_X9_mend n 2 a1 x2i x3j y59 x6i x7i (x8i + Int32.ofInt 1) h60))) else g_X9_mend n 1 a1 x2i x3j x5i x6i (x7i + Int32.ofInt 1) 0 h))))
set_option maxRecDepth 100000 in
set_option maxHeartbeats 4000000 in
theorem m_X9_mend (n : Nat) : (∀ (a1 : Int32) (x2i : Int32) (x3j : Int64) (x5i : Int32) (x6i : Int32) (x7i : Int32) (x8i : Int32) (h : am_H) (v : Int32) (h' : am_H), am_stat h → g_X9_mend n 0 a1 x2i x3j x5i x6i x7i x8i h = some (v, h') → am_stat h') ∧ (∀ (a1 : Int32) (x2i : Int32) (x3j : Int64) (x5i : Int32) (x6i : Int32) (x7i : Int32) (x8i : Int32) (h : am_H) (v : Int32) (h' : am_H), am_stat h → g_X9_mend n 1 a1 x2i x3j x5i x6i x7i x8i h = some (v, h') → am_stat h') ∧ (∀ (a1 : Int32) (x2i : Int32) (x3j : Int64) (x5i : Int32) (x6i : Int32) (x7i : Int32) (x8i : Int32) (h : am_H) (v : Int32) (h' : am_H), am_stat h → g_X9_mend n 2 a1 x2i x3j x5i x6i x7i x8i h = some (v, h') → am_stat h') := by
  induction n with
  | zero => exact ⟨fun a1 x2i x3j x5i x6i x7i x8i h v h' hs hf => (by cases hf), fun a1 x2i x3j x5i x6i x7i x8i h v h' hs hf => (by cases hf), fun a1 x2i x3j x5i x6i x7i x8i h v h' hs hf => (by cases hf)⟩
  | succ n ih =>
    refine ⟨?_, ?_, ?_⟩
    · intro a1 x2i x3j x5i x6i x7i x8i h v h' hs hf
      have hf : (am_let (am_b2 (f_X9_layState n x3j (am_sI (am_sI h 51 40 (Int32.ofInt (-1))) 51 52 (Int32.ofInt 0))) fun r4 h5 => (some (x5i, h5))) fun b1 => ((if (Int32.ofInt 3) ≤ x6i then b1 else (if x5i = (Int32.ofInt (-1)) then g_X9_mend n 1 a1 x2i x3j x5i x6i (Int32.ofInt 1) 0 h else b1)))) = some (v, h') := hf
      obtain ⟨b1, k2, hf⟩ := am_let_ok hf
      refine am_cut (P := (am_b2 (f_X9_layState n x3j (am_sI (am_sI h 51 40 (Int32.ofInt (-1))) 51 52 (Int32.ofInt 0))) fun r4 h5 => (some (x5i, h5))) = some (v, h') → am_stat h') (fun B3 => ?_) ?_
      · skip
        by_cases c4 : (Int32.ofInt 3) ≤ x6i
        · rw [if_pos c4] at hf
          exact B3 (k2.symm.trans hf)
        · rw [if_neg c4] at hf
          by_cases c5 : x5i = (Int32.ofInt (-1))
          · rw [if_pos c5] at hf
            exact ih.2.1 a1 x2i x3j x5i x6i (Int32.ofInt 1) 0 h _ _ hs hf
          · rw [if_neg c5] at hf
            exact B3 (k2.symm.trans hf)
      intro hf
      obtain ⟨r6, h7, e8, hf⟩ := am_b2_ok hf
      have hs := s_X9_layState n x3j (am_sI (am_sI h 51 40 (Int32.ofInt (-1))) 51 52 (Int32.ofInt 0)) hs e8
      obtain ⟨rfl, rfl⟩ := am_i2 hf
      exact hs
    · intro a1 x2i x3j x5i x6i x7i x8i h v h' hs hf
      have hf : (bif am_vp x6i 3 then ((if (am_I h 58 (Int32.toNatClampNeg x6i)) = (Int32.ofInt (-1)) then g_X9_mend n 0 a1 x2i x3j x5i (x6i + Int32.ofInt 1) 0 0 h else bif am_vp (am_I h 58 (Int32.toNatClampNeg x6i)) 8 then ((if (am_I h 55 (Int32.toNatClampNeg (am_I h 58 (Int32.toNatClampNeg x6i)))) < x7i then g_X9_mend n 0 a1 x2i x3j x5i (x6i + Int32.ofInt 1) 0 0 h else (if x5i = (Int32.ofInt (-1)) then g_X9_mend n 2 a1 x2i x3j x5i x6i x7i (Int32.ofInt 0) h else g_X9_mend n 0 a1 x2i x3j x5i (x6i + Int32.ofInt 1) 0 0 h))) else none)) else none) = some (v, h') := hf
      obtain ⟨b1, hf⟩ := am_bis hf
      by_cases c2 : (am_I h 58 (Int32.toNatClampNeg x6i)) = (Int32.ofInt (-1))
      · rw [if_pos c2] at hf
        exact ih.1 a1 x2i x3j x5i (x6i + Int32.ofInt 1) 0 0 h _ _ hs hf
      · rw [if_neg c2] at hf
        obtain ⟨b3, hf⟩ := am_bis hf
        by_cases c4 : (am_I h 55 (Int32.toNatClampNeg (am_I h 58 (Int32.toNatClampNeg x6i)))) < x7i
        · rw [if_pos c4] at hf
          exact ih.1 a1 x2i x3j x5i (x6i + Int32.ofInt 1) 0 0 h _ _ hs hf
        · rw [if_neg c4] at hf
          by_cases c5 : x5i = (Int32.ofInt (-1))
          · rw [if_pos c5] at hf
            exact ih.2.2 a1 x2i x3j x5i x6i x7i (Int32.ofInt 0) h _ _ hs hf
          · rw [if_neg c5] at hf
            exact ih.1 a1 x2i x3j x5i (x6i + Int32.ofInt 1) 0 0 h _ _ hs hf
    · intro a1 x2i x3j x5i x6i x7i x8i h v h' hs hf
      have hf : ((if (Int32.ofInt 4) ≤ x8i then g_X9_mend n 1 a1 x2i x3j x5i x6i (x7i + Int32.ofInt 1) 0 h else (if x5i = (Int32.ofInt (-1)) then am_b2 (f_X9_actOfSeat x6i x7i (am_sI h 51 40 (Int32.ofInt (-1)))) fun r3 h4 => (Option.bind ((if (r3 - r3 / (Int32.ofInt 10) * (Int32.ofInt 10)) = x8i then some (Int32.ofInt 0) else some (Int32.ofInt 1))) fun y6 => (am_b2 ((if y6 = 0 then some ((Int32.ofInt (-1)), (am_sI (am_sI (am_sI (am_sI h4 51 40 x6i) 51 41 x7i) 51 42 x8i) 51 52 (Int32.ofInt 0))) else am_b2 (f_X9_isWell n (am_sI (am_sI (am_sI (am_sI h4 51 40 x6i) 51 41 x7i) 51 42 x8i) 51 52 (Int32.ofInt 0))) fun r63 h64 => ((if r63 = 0 then some ((Int32.ofInt (-1)), h64) else (if a1 = 0 then some (x6i, h64) else (if a1 = (Int32.ofInt 1) then some (x7i, h64) else some (x8i, h64))))))) fun y59 h60 => (g_X9_mend n 2 a1 x2i x3j y59 x6i x7i (x8i + Int32.ofInt 1) h60))) else g_X9_mend n 1 a1 x2i x3j x5i x6i (x7i + Int32.ofInt 1) 0 h))) = some (v, h') := hf
      by_cases c1 : (Int32.ofInt 4) ≤ x8i
      · rw [if_pos c1] at hf
        exact ih.2.1 a1 x2i x3j x5i x6i (x7i + Int32.ofInt 1) 0 h _ _ hs hf
      · rw [if_neg c1] at hf
        by_cases c2 : x5i = (Int32.ofInt (-1))
        · rw [if_pos c2] at hf
          obtain ⟨r3, h4, e5, hf⟩ := am_b2_ok hf
          have hs := s_X9_actOfSeat x6i x7i (am_sI h 51 40 (Int32.ofInt (-1))) hs e5
          obtain ⟨y6, j7, hf⟩ := am_bnd hf
          obtain ⟨y59, h60, j61, hf⟩ := am_b2_ok hf
          have hs0 := hs
          have hs : am_stat h60 := by
            have hs := hs0
            by_cases c62 : y6 = 0
            · rw [if_pos c62] at j61
              obtain ⟨rfl, rfl⟩ := am_i2 j61
              exact hs
            · rw [if_neg c62] at j61
              obtain ⟨r63, h64, e65, j61⟩ := am_b2_ok j61
              have hs := s_X9_isWell n (am_sI (am_sI (am_sI (am_sI h4 51 40 x6i) 51 41 x7i) 51 42 x8i) 51 52 (Int32.ofInt 0)) hs e65
              by_cases c66 : r63 = 0
              · rw [if_pos c66] at j61
                obtain ⟨rfl, rfl⟩ := am_i2 j61
                exact hs
              · rw [if_neg c66] at j61
                by_cases c67 : a1 = 0
                · rw [if_pos c67] at j61
                  obtain ⟨rfl, rfl⟩ := am_i2 j61
                  exact hs
                · rw [if_neg c67] at j61
                  by_cases c68 : a1 = (Int32.ofInt 1)
                  · rw [if_pos c68] at j61
                    obtain ⟨rfl, rfl⟩ := am_i2 j61
                    exact hs
                  · rw [if_neg c68] at j61
                    obtain ⟨rfl, rfl⟩ := am_i2 j61
                    exact hs
          exact ih.2.2 a1 x2i x3j y59 x6i x7i (x8i + Int32.ofInt 1) h60 _ _ hs hf
        · rw [if_neg c2] at hf
          exact ih.2.1 a1 x2i x3j x5i x6i (x7i + Int32.ofInt 1) 0 h _ _ hs hf
set_option maxRecDepth 100000 in
set_option maxHeartbeats 4000000 in
theorem l_X9_mend (n : Nat) : (∀ (a1 : Int32) (x2i : Int32) (x3j : Int64) (x5i : Int32) (x6i : Int32) (x7i : Int32) (x8i : Int32) (h : am_H) (v : Int32) (h' : am_H), am_stat h → g_X9_mend n 0 a1 x2i x3j x5i x6i x7i x8i h = some (v, h') → AW mX9_mend (rX9_mend 0 0) (fun r h2 => r = some (.int v) ∧ h2 = h') 67 [(0, .ref 51), (1, .int a1), (2, .int x2i), (3, .long x3j), (5, .int x5i), (6, .int x6i)] [] h 0 0) ∧ (∀ (a1 : Int32) (x2i : Int32) (x3j : Int64) (x5i : Int32) (x6i : Int32) (x7i : Int32) (x8i : Int32) (h : am_H) (v : Int32) (h' : am_H), am_stat h → g_X9_mend n 1 a1 x2i x3j x5i x6i x7i x8i h = some (v, h') → AW mX9_mend (rX9_mend 0 0) (fun r h2 => r = some (.int v) ∧ h2 = h') 82 [(0, .ref 51), (1, .int a1), (2, .int x2i), (3, .long x3j), (5, .int x5i), (6, .int x6i), (7, .int x7i)] [] h 0 0) ∧ (∀ (a1 : Int32) (x2i : Int32) (x3j : Int64) (x5i : Int32) (x6i : Int32) (x7i : Int32) (x8i : Int32) (h : am_H) (v : Int32) (h' : am_H), am_stat h → g_X9_mend n 2 a1 x2i x3j x5i x6i x7i x8i h = some (v, h') → AW mX9_mend (rX9_mend 0 0) (fun r h2 => r = some (.int v) ∧ h2 = h') 119 [(0, .ref 51), (1, .int a1), (2, .int x2i), (3, .long x3j), (5, .int x5i), (6, .int x6i), (7, .int x7i), (8, .int x8i)] [] h 0 0) := by
  induction n with
  | zero => exact ⟨fun a1 x2i x3j x5i x6i x7i x8i h v h' hs hf => (by cases hf), fun a1 x2i x3j x5i x6i x7i x8i h v h' hs hf => (by cases hf), fun a1 x2i x3j x5i x6i x7i x8i h v h' hs hf => (by cases hf)⟩
  | succ n ih =>
    refine ⟨?_, ?_, ?_⟩
    · intro a1 x2i x3j x5i x6i x7i x8i h v h' hs hf
      have hf : (am_let (am_b2 (f_X9_layState n x3j (am_sI (am_sI h 51 40 (Int32.ofInt (-1))) 51 52 (Int32.ofInt 0))) fun r4 h5 => (some (x5i, h5))) fun b1 => ((if (Int32.ofInt 3) ≤ x6i then b1 else (if x5i = (Int32.ofInt (-1)) then g_X9_mend n 1 a1 x2i x3j x5i x6i (Int32.ofInt 1) 0 h else b1)))) = some (v, h') := hf
      refine AW_go okX9_mend 2 ?_
      obtain ⟨b1, k2, hf⟩ := am_let_ok hf
      refine am_cut (P := (am_b2 (f_X9_layState n x3j (am_sI (am_sI h 51 40 (Int32.ofInt (-1))) 51 52 (Int32.ofInt 0))) fun r4 h5 => (some (x5i, h5))) = some (v, h') → AW mX9_mend (rX9_mend 0 0) (fun r h2 => r = some (.int v) ∧ h2 = h') 239 [(0, .ref 51), (1, .int a1), (2, .int x2i), (3, .long x3j), (5, .int x5i), (6, .int x6i)] [] h 0 0) (fun B3 => ?_) ?_
      · skip
        refine AW_go okX9_mend 1 ?_
        refine And.intro (fun c4 => ?_) (fun c4 => ?_)
        · rw [if_pos c4] at hf
          exact B3 (k2.symm.trans hf)
        · rw [if_neg c4] at hf
          refine AW_go okX9_mend 3 ?_
          refine And.intro (fun c5 => ?_) (fun c5 => ?_)
          · rw [if_neg c5] at hf
            exact B3 (k2.symm.trans hf)
          · rw [if_pos c5] at hf
            refine AW_go okX9_mend 2 ?_
            refine AW_pick (lv' := [(0, .ref 51), (1, .int a1), (2, .int x2i), (3, .long x3j), (5, .int x5i), (6, .int x6i), (7, .int (Int32.ofInt 1))]) [1, 2, 3, 4, 5, 6, 0] rfl ?_
            exact ih.2.1 a1 x2i x3j x5i x6i (Int32.ofInt 1) 0 h _ _ hs hf
      intro hf
      refine AW_go okX9_mend 8 ?_
      refine And.intro (sK hs 51) ?_
      refine And.intro (Or.inl rfl) (And.intro (sK hs 51) ?_)
      obtain ⟨r6, h7, e8, hf⟩ := am_b2_ok hf
      refine AW_callV (As := [.long x3j]) (R' := rX9_layState 0 0) (T := TX9) (N := 58) (ci := 9) (okX9_mend.1 251 _ _ rfl) lkX9_layState kX9_364 rfl (sK hs 51) rfl (Nat.le_of_ble_eq_true rfl) ⟨by decide, by decide⟩ ⟨(Nat.le_of_ble_eq_true rfl), (Nat.le_of_ble_eq_true rfl)⟩ (Nat.le_of_ble_eq_true rfl) (c_X9_layState n x3j (am_sI (am_sI h 51 40 (Int32.ofInt (-1))) 51 52 (Int32.ofInt 0)) hs e8) (fun r h' hq => ?_)
      obtain ⟨rfl, hq⟩ := hq
      replace hq := hq.symm
      subst hq
      have hs := s_X9_layState n x3j (am_sI (am_sI h 51 40 (Int32.ofInt (-1))) 51 52 (Int32.ofInt 0)) hs e8
      refine AW_go okX9_mend 2 ?_
      obtain ⟨rfl, rfl⟩ := am_i2 hf
      exact And.intro ⟨(Nat.le_of_ble_eq_true rfl), (Nat.le_of_ble_eq_true rfl)⟩ (And.intro (Or.inl rfl) ⟨rfl, rfl⟩)
    · intro a1 x2i x3j x5i x6i x7i x8i h v h' hs hf
      have hf : (bif am_vp x6i 3 then ((if (am_I h 58 (Int32.toNatClampNeg x6i)) = (Int32.ofInt (-1)) then g_X9_mend n 0 a1 x2i x3j x5i (x6i + Int32.ofInt 1) 0 0 h else bif am_vp (am_I h 58 (Int32.toNatClampNeg x6i)) 8 then ((if (am_I h 55 (Int32.toNatClampNeg (am_I h 58 (Int32.toNatClampNeg x6i)))) < x7i then g_X9_mend n 0 a1 x2i x3j x5i (x6i + Int32.ofInt 1) 0 0 h else (if x5i = (Int32.ofInt (-1)) then g_X9_mend n 2 a1 x2i x3j x5i x6i x7i (Int32.ofInt 0) h else g_X9_mend n 0 a1 x2i x3j x5i (x6i + Int32.ofInt 1) 0 0 h))) else none)) else none) = some (v, h') := hf
      obtain ⟨b1, hf⟩ := am_bis hf
      refine AW_go okX9_mend 6 ?_
      refine And.intro (sK hs 51) (Exists.intro _ (And.intro (sA hs 51 9) ?_))
      refine Exists.intro 3 (And.intro (sK hs 58) (And.intro (am_vp_ok b1) ?_))
      refine And.intro (fun c2 => ?_) (fun c2 => ?_)
      · rw [if_pos c2] at hf
        refine AW_go okX9_mend 2 ?_
        refine AW_pick (lv' := [(0, .ref 51), (1, .int a1), (2, .int x2i), (3, .long x3j), (5, .int x5i), (6, .int (x6i + Int32.ofInt 1))]) [1, 2, 3, 4, 5, 0] rfl ?_
        exact ih.1 a1 x2i x3j x5i (x6i + Int32.ofInt 1) 0 0 h _ _ hs hf
      · rw [if_neg c2] at hf
        obtain ⟨b3, hf⟩ := am_bis hf
        refine AW_go okX9_mend 9 ?_
        refine And.intro (sK hs 51) (Exists.intro _ (And.intro (sA hs 51 5) ?_))
        refine And.intro (sK hs 51) (Exists.intro _ (And.intro (sA hs 51 9) ?_))
        refine Exists.intro 3 (And.intro (sK hs 58) (And.intro (am_vp_ok b1) ?_))
        refine Exists.intro 8 (And.intro (sK hs 55) (And.intro (am_vp_ok b3) ?_))
        refine And.intro (fun c4 => ?_) (fun c4 => ?_)
        · rw [if_pos c4] at hf
          refine AW_go okX9_mend 2 ?_
          refine AW_pick (lv' := [(0, .ref 51), (1, .int a1), (2, .int x2i), (3, .long x3j), (5, .int x5i), (6, .int (x6i + Int32.ofInt 1))]) [1, 2, 3, 4, 5, 0] rfl ?_
          exact ih.1 a1 x2i x3j x5i (x6i + Int32.ofInt 1) 0 0 h _ _ hs hf
        · rw [if_neg c4] at hf
          refine AW_go okX9_mend 3 ?_
          refine And.intro (fun c5 => ?_) (fun c5 => ?_)
          · rw [if_neg c5] at hf
            refine AW_go okX9_mend 2 ?_
            refine AW_pick (lv' := [(0, .ref 51), (1, .int a1), (2, .int x2i), (3, .long x3j), (5, .int x5i), (6, .int (x6i + Int32.ofInt 1))]) [1, 2, 3, 4, 5, 0] rfl ?_
            exact ih.1 a1 x2i x3j x5i (x6i + Int32.ofInt 1) 0 0 h _ _ hs hf
          · rw [if_pos c5] at hf
            refine AW_go okX9_mend 2 ?_
            refine AW_pick (lv' := [(0, .ref 51), (1, .int a1), (2, .int x2i), (3, .long x3j), (5, .int x5i), (6, .int x6i), (7, .int x7i), (8, .int (Int32.ofInt 0))]) [1, 2, 3, 4, 5, 6, 7, 0] rfl ?_
            exact ih.2.2 a1 x2i x3j x5i x6i x7i (Int32.ofInt 0) h _ _ hs hf
    · intro a1 x2i x3j x5i x6i x7i x8i h v h' hs hf
      have hf : ((if (Int32.ofInt 4) ≤ x8i then g_X9_mend n 1 a1 x2i x3j x5i x6i (x7i + Int32.ofInt 1) 0 h else (if x5i = (Int32.ofInt (-1)) then am_b2 (f_X9_actOfSeat x6i x7i (am_sI h 51 40 (Int32.ofInt (-1)))) fun r3 h4 => (Option.bind ((if (r3 - r3 / (Int32.ofInt 10) * (Int32.ofInt 10)) = x8i then some (Int32.ofInt 0) else some (Int32.ofInt 1))) fun y6 => (am_b2 ((if y6 = 0 then some ((Int32.ofInt (-1)), (am_sI (am_sI (am_sI (am_sI h4 51 40 x6i) 51 41 x7i) 51 42 x8i) 51 52 (Int32.ofInt 0))) else am_b2 (f_X9_isWell n (am_sI (am_sI (am_sI (am_sI h4 51 40 x6i) 51 41 x7i) 51 42 x8i) 51 52 (Int32.ofInt 0))) fun r63 h64 => ((if r63 = 0 then some ((Int32.ofInt (-1)), h64) else (if a1 = 0 then some (x6i, h64) else (if a1 = (Int32.ofInt 1) then some (x7i, h64) else some (x8i, h64))))))) fun y59 h60 => (g_X9_mend n 2 a1 x2i x3j y59 x6i x7i (x8i + Int32.ofInt 1) h60))) else g_X9_mend n 1 a1 x2i x3j x5i x6i (x7i + Int32.ofInt 1) 0 h))) = some (v, h') := hf
      refine AW_go okX9_mend 3 ?_
      refine And.intro (fun c1 => ?_) (fun c1 => ?_)
      · rw [if_pos c1] at hf
        refine AW_go okX9_mend 2 ?_
        refine AW_pick (lv' := [(0, .ref 51), (1, .int a1), (2, .int x2i), (3, .long x3j), (5, .int x5i), (6, .int x6i), (7, .int (x7i + Int32.ofInt 1))]) [1, 2, 3, 4, 5, 6, 0] rfl ?_
        exact ih.2.1 a1 x2i x3j x5i x6i (x7i + Int32.ofInt 1) 0 h _ _ hs hf
      · rw [if_neg c1] at hf
        refine AW_go okX9_mend 3 ?_
        refine And.intro (fun c2 => ?_) (fun c2 => ?_)
        · rw [if_neg c2] at hf
          refine AW_go okX9_mend 2 ?_
          refine AW_pick (lv' := [(0, .ref 51), (1, .int a1), (2, .int x2i), (3, .long x3j), (5, .int x5i), (6, .int x6i), (7, .int (x7i + Int32.ofInt 1))]) [1, 2, 3, 4, 5, 6, 0] rfl ?_
          exact ih.2.1 a1 x2i x3j x5i x6i (x7i + Int32.ofInt 1) 0 h _ _ hs hf
        · rw [if_pos c2] at hf
          refine AW_go okX9_mend 6 ?_
          refine And.intro (sK hs 51) ?_
          obtain ⟨r3, h4, e5, hf⟩ := am_b2_ok hf
          refine AW_callV (As := [.int x6i, .int x7i]) (R' := rX9_actOfSeat 0 0) (T := TX9) (N := 58) (ci := 9) (okX9_mend.1 141 _ _ rfl) lkX9_actOfSeat kX9_291 rfl (sK hs 51) rfl (Nat.le_of_ble_eq_true rfl) ⟨by decide, by decide⟩ ⟨(Nat.le_of_ble_eq_true rfl), (Nat.le_of_ble_eq_true rfl)⟩ (Nat.le_of_ble_eq_true rfl) (c_X9_actOfSeat x6i x7i (am_sI h 51 40 (Int32.ofInt (-1))) hs e5) (fun r h' hq => ?_)
          obtain ⟨rfl, hq⟩ := hq
          replace hq := hq.symm
          subst hq
          have hs := s_X9_actOfSeat x6i x7i (am_sI h 51 40 (Int32.ofInt (-1))) hs e5
          refine AW_go okX9_mend 3 ?_
          refine And.intro (by decide) ?_
          obtain ⟨y6, j7, hf⟩ := am_bnd hf
          refine am_cut (P := AW mX9_mend (rX9_mend 0 0) (fun r h2 => r = some (.int v) ∧ h2 = h') 157 [(0, .ref 51), (1, .int a1), (2, .int x2i), (3, .long x3j), (5, .int x5i), (6, .int x6i), (7, .int x7i), (8, .int x8i)] [.int y6] h4 0 0) (fun hJ7 => ?_) ?_
          · have hs := hs
            refine AW_go okX9_mend 1 ?_
            refine And.intro (fun c8 => ?_) (fun c8 => ?_)
            · rw [if_pos c8] at j7
              refine AW_go okX9_mend 1 ?_
              obtain rfl := am_i1 j7
              exact AW_pick [0, 1, 2, 3, 4, 5, 6, 7] rfl hJ7
            · rw [if_neg c8] at j7
              refine AW_go okX9_mend 2 ?_
              obtain rfl := am_i1 j7
              exact AW_pick [0, 1, 2, 3, 4, 5, 6, 7] rfl hJ7
          refine AW_go okX9_mend 14 ?_
          refine And.intro (sK hs 51) ?_
          refine And.intro (sK hs 51) ?_
          refine And.intro (sK hs 51) ?_
          refine And.intro (Or.inl rfl) (And.intro (sK hs 51) ?_)
          obtain ⟨y59, h60, j61, hf⟩ := am_b2_ok hf
          have hs0 := hs
          have hs : am_stat h60 := by
            have hs := hs0
            by_cases c62 : y6 = 0
            · rw [if_pos c62] at j61
              obtain ⟨rfl, rfl⟩ := am_i2 j61
              exact hs
            · rw [if_neg c62] at j61
              obtain ⟨r63, h64, e65, j61⟩ := am_b2_ok j61
              have hs := s_X9_isWell n (am_sI (am_sI (am_sI (am_sI h4 51 40 x6i) 51 41 x7i) 51 42 x8i) 51 52 (Int32.ofInt 0)) hs e65
              by_cases c66 : r63 = 0
              · rw [if_pos c66] at j61
                obtain ⟨rfl, rfl⟩ := am_i2 j61
                exact hs
              · rw [if_neg c66] at j61
                by_cases c67 : a1 = 0
                · rw [if_pos c67] at j61
                  obtain ⟨rfl, rfl⟩ := am_i2 j61
                  exact hs
                · rw [if_neg c67] at j61
                  by_cases c68 : a1 = (Int32.ofInt 1)
                  · rw [if_pos c68] at j61
                    obtain ⟨rfl, rfl⟩ := am_i2 j61
                    exact hs
                  · rw [if_neg c68] at j61
                    obtain ⟨rfl, rfl⟩ := am_i2 j61
                    exact hs
          refine am_cut (P := AW mX9_mend (rX9_mend 0 0) (fun r h2 => r = some (.int v) ∧ h2 = h') 219 [(0, .ref 51), (1, .int a1), (2, .int x2i), (3, .long x3j), (5, .int x5i), (6, .int x6i), (7, .int x7i), (8, .int x8i), (9, .int y6)] [.int y59] h60 0 0) (fun hJ61 => ?_) ?_
          · have hs := hs0
            refine AW_go okX9_mend 1 ?_
            refine And.intro (fun c62 => ?_) (fun c62 => ?_)
            · rw [if_pos c62] at j61
              refine AW_go okX9_mend 1 ?_
              obtain ⟨rfl, rfl⟩ := am_i2 j61
              exact AW_pick [1, 2, 3, 4, 5, 6, 7, 8, 0] rfl hJ61
            · rw [if_neg c62] at j61
              refine AW_go okX9_mend 1 ?_
              obtain ⟨r63, h64, e65, j61⟩ := am_b2_ok j61
              refine AW_callV (As := []) (R' := rX9_isWell 0 0) (T := TX9) (N := 58) (ci := 9) (okX9_mend.1 188 _ _ rfl) lkX9_isWell kX9_390 rfl (sK hs 51) rfl (Nat.le_of_ble_eq_true rfl) ⟨by decide, by decide⟩ ⟨(Nat.le_of_ble_eq_true rfl), (Nat.le_of_ble_eq_true rfl)⟩ (Nat.le_of_ble_eq_true rfl) (c_X9_isWell n (am_sI (am_sI (am_sI (am_sI h4 51 40 x6i) 51 41 x7i) 51 42 x8i) 51 52 (Int32.ofInt 0)) hs e65) (fun r h' hq => ?_)
              obtain ⟨rfl, hq⟩ := hq
              replace hq := hq.symm
              subst hq
              have hs := s_X9_isWell n (am_sI (am_sI (am_sI (am_sI h4 51 40 x6i) 51 41 x7i) 51 42 x8i) 51 52 (Int32.ofInt 0)) hs e65
              refine AW_go okX9_mend 1 ?_
              refine And.intro (fun c66 => ?_) (fun c66 => ?_)
              · rw [if_pos c66] at j61
                refine AW_go okX9_mend 1 ?_
                obtain ⟨rfl, rfl⟩ := am_i2 j61
                exact AW_pick [1, 2, 3, 4, 5, 6, 7, 8, 0] rfl hJ61
              · rw [if_neg c66] at j61
                refine AW_go okX9_mend 2 ?_
                refine And.intro (fun c67 => ?_) (fun c67 => ?_)
                · rw [if_neg c67] at j61
                  refine AW_go okX9_mend 3 ?_
                  refine And.intro (fun c68 => ?_) (fun c68 => ?_)
                  · rw [if_neg c68] at j61
                    refine AW_go okX9_mend 2 ?_
                    obtain ⟨rfl, rfl⟩ := am_i2 j61
                    exact AW_pick [1, 2, 3, 4, 5, 6, 7, 8, 0] rfl hJ61
                  · rw [if_pos c68] at j61
                    refine AW_go okX9_mend 2 ?_
                    obtain ⟨rfl, rfl⟩ := am_i2 j61
                    exact AW_pick [1, 2, 3, 4, 5, 6, 7, 8, 0] rfl hJ61
                · rw [if_pos c67] at j61
                  refine AW_go okX9_mend 2 ?_
                  obtain ⟨rfl, rfl⟩ := am_i2 j61
                  exact AW_pick [1, 2, 3, 4, 5, 6, 7, 8, 0] rfl hJ61
          refine AW_go okX9_mend 3 ?_
          refine AW_pick (lv' := [(0, .ref 51), (1, .int a1), (2, .int x2i), (3, .long x3j), (5, .int y59), (6, .int x6i), (7, .int x7i), (8, .int (x8i + Int32.ofInt 1))]) [2, 3, 4, 5, 1, 6, 7, 0] rfl ?_
          exact ih.2.2 a1 x2i x3j y59 x6i x7i (x8i + Int32.ofInt 1) h60 _ _ hs hf
def f_X9_mend (n : Nat) (a1 : Int32) (h : am_H) : Option (Int32 × am_H) := am_b2 (f_X9_within a1 (Int32.ofInt 0) (Int32.ofInt 2) h) fun r1 h2 => ((if r1 = 0 then some ((Int32.ofInt (-102)), h2) else (if (am_I h2 51 13) = (Int32.ofInt 6) then some ((Int32.ofInt (-103)), h2) else am_b2 (f_X9_isWell n (am_sI h2 51 13 ((am_I h2 51 13) + (Int32.ofInt 1)))) fun r6 h7 => ((if (am_I h7 51 51) = 0 then (if r6 = 0 then am_b2 (f_X9_asState n h7) fun r11 h12 => (g_X9_mend n 0 a1 r6 r11 (Int32.ofInt (-1)) (Int32.ofInt 0) 0 0 h12) else some ((Int32.ofInt (-3)), h7)) else some ((Int32.ofInt (-2)), h7))))))
set_option maxRecDepth 100000 in
theorem s_X9_mend (n : Nat) (a1 : Int32) (h : am_H) (hs : am_stat h) {v : Int32} {h' : am_H} (hf : f_X9_mend n a1 h = some (v, h')) : am_stat h' := by
  unfold f_X9_mend at hf
  obtain ⟨r1, h2, e3, hf⟩ := am_b2_ok hf
  have hs := s_X9_within a1 (Int32.ofInt 0) (Int32.ofInt 2) h hs e3
  by_cases c4 : r1 = 0
  · rw [if_pos c4] at hf
    obtain ⟨rfl, rfl⟩ := am_i2 hf
    exact hs
  · rw [if_neg c4] at hf
    by_cases c5 : (am_I h2 51 13) = (Int32.ofInt 6)
    · rw [if_pos c5] at hf
      obtain ⟨rfl, rfl⟩ := am_i2 hf
      exact hs
    · rw [if_neg c5] at hf
      obtain ⟨r6, h7, e8, hf⟩ := am_b2_ok hf
      have hs := s_X9_isWell n (am_sI h2 51 13 ((am_I h2 51 13) + (Int32.ofInt 1))) hs e8
      by_cases c9 : (am_I h7 51 51) = 0
      · rw [if_pos c9] at hf
        by_cases c10 : r6 = 0
        · rw [if_pos c10] at hf
          obtain ⟨r11, h12, e13, hf⟩ := am_b2_ok hf
          have hs := s_X9_asState n h7 hs e13
          exact (m_X9_mend n).1 a1 r6 r11 (Int32.ofInt (-1)) (Int32.ofInt 0) 0 0 h12 _ _ hs hf
        · rw [if_neg c10] at hf
          obtain ⟨rfl, rfl⟩ := am_i2 hf
          exact hs
      · rw [if_neg c9] at hf
        obtain ⟨rfl, rfl⟩ := am_i2 hf
        exact hs
set_option maxRecDepth 100000 in
theorem c_X9_mend (n : Nat) (a1 : Int32) (h : am_H) (hs : am_stat h) {v : Int32} {h' : am_H} (hf : f_X9_mend n a1 h = some (v, h')) : AMet mX9_mend (rX9_mend 0 0) (fun r h2 => r = some (.int v) ∧ h2 = h') [.ref 51, .int a1] h := by
  unfold f_X9_mend at hf
  refine AW_go okX9_mend 3 ?_
  obtain ⟨r1, h2, e3, hf⟩ := am_b2_ok hf
  refine AW_callS (As := [.int a1, .int (Int32.ofInt 0), .int (Int32.ofInt 2)]) (R' := rX9_within 0 0) (okX9_mend.1 3 _ _ rfl) lkX9_within (Or.inl kX9_134) rfl (Nat.le_of_ble_eq_true rfl) ⟨by decide, by decide⟩ ⟨(Nat.le_of_ble_eq_true rfl), (Nat.le_of_ble_eq_true rfl)⟩ (Nat.le_of_ble_eq_true rfl) (c_X9_within a1 (Int32.ofInt 0) (Int32.ofInt 2) h hs e3) (fun r h' hq => ?_)
  obtain ⟨rfl, hq⟩ := hq
  replace hq := hq.symm
  subst hq
  have hs := s_X9_within a1 (Int32.ofInt 0) (Int32.ofInt 2) h hs e3
  refine AW_go okX9_mend 1 ?_
  refine And.intro (fun c4 => ?_) (fun c4 => ?_)
  · rw [if_neg c4] at hf
    refine AW_go okX9_mend 4 ?_
    refine And.intro (sK hs 51) ?_
    refine And.intro (fun c5 => ?_) (fun c5 => ?_)
    · rw [if_neg c5] at hf
      refine AW_go okX9_mend 7 ?_
      refine And.intro (sK hs 51) ?_
      refine And.intro (sK hs 51) ?_
      obtain ⟨r6, h7, e8, hf⟩ := am_b2_ok hf
      refine AW_callV (As := []) (R' := rX9_isWell 0 0) (T := TX9) (N := 58) (ci := 9) (okX9_mend.1 35 _ _ rfl) lkX9_isWell kX9_390 rfl (sK hs 51) rfl (Nat.le_of_ble_eq_true rfl) ⟨by decide, by decide⟩ ⟨(Nat.le_of_ble_eq_true rfl), (Nat.le_of_ble_eq_true rfl)⟩ (Nat.le_of_ble_eq_true rfl) (c_X9_isWell n (am_sI h2 51 13 ((am_I h2 51 13) + (Int32.ofInt 1))) hs e8) (fun r h' hq => ?_)
      obtain ⟨rfl, hq⟩ := hq
      replace hq := hq.symm
      subst hq
      have hs := s_X9_isWell n (am_sI h2 51 13 ((am_I h2 51 13) + (Int32.ofInt 1))) hs e8
      refine AW_go okX9_mend 4 ?_
      refine And.intro (sK hs 51) ?_
      refine And.intro (fun c9 => ?_) (fun c9 => ?_)
      · rw [if_pos c9] at hf
        refine AW_go okX9_mend 2 ?_
        refine And.intro (fun c10 => ?_) (fun c10 => ?_)
        · rw [if_pos c10] at hf
          refine AW_go okX9_mend 1 ?_
          obtain ⟨r11, h12, e13, hf⟩ := am_b2_ok hf
          refine AW_callV (As := []) (R' := rX9_asState 0 0) (T := TX9) (N := 58) (ci := 9) (okX9_mend.1 57 _ _ rfl) lkX9_asState kX9_350 rfl (sK hs 51) rfl (Nat.le_of_ble_eq_true rfl) ⟨by decide, by decide⟩ ⟨(Nat.le_of_ble_eq_true rfl), (Nat.le_of_ble_eq_true rfl)⟩ (Nat.le_of_ble_eq_true rfl) (c_X9_asState n h7 hs e13) (fun r h' hq => ?_)
          obtain ⟨rfl, hq⟩ := hq
          replace hq := hq.symm
          subst hq
          have hs := s_X9_asState n h7 hs e13
          refine AW_go okX9_mend 5 ?_
          refine AW_pick (lv' := [(0, .ref 51), (1, .int a1), (2, .int r6), (3, .long r11), (5, .int (Int32.ofInt (-1))), (6, .int (Int32.ofInt 0))]) [4, 5, 3, 2, 1, 0] rfl ?_
          exact (l_X9_mend n).1 a1 r6 r11 (Int32.ofInt (-1)) (Int32.ofInt 0) 0 0 h12 _ _ hs hf
        · rw [if_neg c10] at hf
          refine AW_go okX9_mend 2 ?_
          obtain ⟨rfl, rfl⟩ := am_i2 hf
          exact And.intro ⟨(Nat.le_of_ble_eq_true rfl), (Nat.le_of_ble_eq_true rfl)⟩ (And.intro (Or.inl rfl) ⟨rfl, rfl⟩)
      · rw [if_neg c9] at hf
        refine AW_go okX9_mend 2 ?_
        obtain ⟨rfl, rfl⟩ := am_i2 hf
        exact And.intro ⟨(Nat.le_of_ble_eq_true rfl), (Nat.le_of_ble_eq_true rfl)⟩ (And.intro (Or.inl rfl) ⟨rfl, rfl⟩)
    · rw [if_pos c5] at hf
      refine AW_go okX9_mend 2 ?_
      obtain ⟨rfl, rfl⟩ := am_i2 hf
      exact And.intro ⟨(Nat.le_of_ble_eq_true rfl), (Nat.le_of_ble_eq_true rfl)⟩ (And.intro (Or.inl rfl) ⟨rfl, rfl⟩)
  · rw [if_pos c4] at hf
    refine AW_go okX9_mend 2 ?_
    obtain ⟨rfl, rfl⟩ := am_i2 hf
    exact And.intro ⟨(Nat.le_of_ble_eq_true rfl), (Nat.le_of_ble_eq_true rfl)⟩ (And.intro (Or.inl rfl) ⟨rfl, rfl⟩)
def g_X9_digest : Nat → Nat → Int32 → Int32 → am_H → Option (Int64 × am_H)
  | 0, _, _, _, _ => none
  | n + 1, tag, x1i, x2i, h => bif Nat.beq tag 0 then ((if (am_I h 51 2) ≤ x1i then g_X9_digest n 4 (Int32.ofInt 0) 0 h else g_X9_digest n 1 x1i (Int32.ofInt 0) h)) else (bif Nat.beq tag 1 then ((if (Int32.ofInt 4) ≤ x2i then g_X9_digest n 2 x1i (Int32.ofInt 1) h else am_b2 (f_X9_aboutOf n x1i x2i h) fun r2 h3 => (am_b2 (f_X9_mix (Int32.toInt64 r2) h3) fun r5 h6 => (g_X9_digest n 1 x1i (x2i + Int32.ofInt 1) h6)))) else (bif Nat.beq tag 2 then (bif am_vp x1i 8 then ((if (am_I h 55 (Int32.toNatClampNeg x1i)) < x2i then g_X9_digest n 3 x1i (Int32.ofInt 0) h else bif am_vp (((Int32.ofInt 16) * x1i) + x2i) 128 then (am_b2 (f_X9_mix (Int32.toInt64 (am_I h 53 (Int32.toNatClampNeg (((Int32.ofInt 16) * x1i) + x2i)))) h) fun r4 h5 => (g_X9_digest n 2 x1i (x2i + Int32.ofInt 1) h5)) else none)) else none) else (bif Nat.beq tag 3 then (bif am_vp x1i 8 then ((if (am_I h 55 (Int32.toNatClampNeg x1i)) < x2i then g_X9_digest n 0 (x1i + Int32.ofInt 1) 0 h else bif am_vp (((Int32.ofInt 16) * x1i) + x2i) 128 then (am_b2 (f_X9_mix (Int32.toInt64 (am_I h 54 (Int32.toNatClampNeg (((Int32.ofInt 16) * x1i) + x2i)))) h) fun r4 h5 => (g_X9_digest n 3 x1i (x2i + Int32.ofInt 1) h5)) else none)) else none) else (bif Nat.beq tag 4 then ((if (Int32.ofInt 3) ≤ x1i then g_X9_digest n 5 (Int32.ofInt 0) 0 h else bif am_vp x1i 3 then (am_b2 (f_X9_mix (Int32.toInt64 (am_I h 58 (Int32.toNatClampNeg x1i))) h) fun r3 h4 => (Option.bind ((if (am_I h4 58 (Int32.toNatClampNeg x1i)) = (Int32.ofInt (-1)) then some (-1 : Int64) else some (Int32.toInt64 (am_I h4 77 (Int32.toNatClampNeg x1i))))) fun y6 => (am_b2 (f_X9_mix y6 h4) fun r59 h60 => (g_X9_digest n 4 (x1i + Int32.ofInt 1) 0 h60)))) else none)) else (bif Nat.beq tag 5 then ((if (Int32.ofInt 9) ≤ x1i then am_b2 (f_X9_mix (Int32.toInt64 (am_I h 51 11)) h) fun r2 h3 => (am_b2 (f_X9_laySteps n h3) fun r5 h6 => (am_b2 (f_X9_mix (Int32.toInt64 (am_I h6 51 44)) h6) fun r8 h9 => (am_b2 (f_X9_meetAll n h9) fun r11 h12 => (Option.bind ((if (am_I h12 51 51) = 0 then some (Int32.toInt64 (am_I h12 51 50)) else some (-2 : Int64))) fun y14 => (am_b2 (f_X9_mix y14 h12) fun r67 h68 => (g_X9_digest n 7 (Int32.ofInt 0) 0 h68)))))) else (if (x1i - x1i / (Int32.ofInt 4) * (Int32.ofInt 4)) = 0 then g_X9_digest n 5 (x1i + Int32.ofInt 1) 0 h else bif am_vp x1i 9 then (am_b2 (f_X9_mix (Int32.toInt64 (am_I h 59 (Int32.toNatClampNeg x1i))) h) fun r72 h73 => (g_X9_digest n 6 x1i (Int32.ofInt 0) h73)) else none))) else (bif Nat.beq tag 6 then (bif am_vp x1i 9 then (am_b2 (f_X9_sizeOf (am_I h 78 (Int32.toNatClampNeg x1i)) h) fun r2 h3 => ((if r2 ≤ x2i then g_X9_digest n 5 (x1i + Int32.ofInt 1) 0 h3 else am_b2 (f_X9_letterAt (am_I h3 78 (Int32.toNatClampNeg x1i)) x2i h3) fun r6 h7 => (am_b2 (f_X9_mix (Int32.toInt64 (r6 - (Int32.ofInt 1))) h7) fun r9 h10 => (g_X9_digest n 6 x1i (x2i + Int32.ofInt 1) h10))))) else none) else (bif Nat.beq tag 7 then ((if (am_I h 51 0) ≤ x1i then g_X9_digest n 8 (Int32.ofInt 0) 0 h else bif am_vp x1i 60 then (am_b2 (f_X9_mix (Int32.toInt64 (am_I h 52 (Int32.toNatClampNeg x1i))) h) fun r3 h4 => (g_X9_digest n 7 (x1i + Int32.ofInt 1) 0 h4)) else none)) else ((if (Int32.ofInt 6) ≤ x1i then some ((am_J h 51 57), h) else am_b2 (f_X9_howMany n x1i h) fun r2 h3 => (am_b2 (f_X9_mix (Int32.toInt64 r2) h3) fun r5 h6 => (g_X9_digest n 8 (x1i + Int32.ofInt 1) 0 h6)))))))))))
set_option maxRecDepth 100000 in
set_option maxHeartbeats 4000000 in
theorem m_X9_digest (n : Nat) : (∀ (x1i : Int32) (x2i : Int32) (h : am_H) (v : Int64) (h' : am_H), am_stat h → g_X9_digest n 0 x1i x2i h = some (v, h') → am_stat h') ∧ (∀ (x1i : Int32) (x2i : Int32) (h : am_H) (v : Int64) (h' : am_H), am_stat h → g_X9_digest n 1 x1i x2i h = some (v, h') → am_stat h') ∧ (∀ (x1i : Int32) (x2i : Int32) (h : am_H) (v : Int64) (h' : am_H), am_stat h → g_X9_digest n 2 x1i x2i h = some (v, h') → am_stat h') ∧ (∀ (x1i : Int32) (x2i : Int32) (h : am_H) (v : Int64) (h' : am_H), am_stat h → g_X9_digest n 3 x1i x2i h = some (v, h') → am_stat h') ∧ (∀ (x1i : Int32) (x2i : Int32) (h : am_H) (v : Int64) (h' : am_H), am_stat h → g_X9_digest n 4 x1i x2i h = some (v, h') → am_stat h') ∧ (∀ (x1i : Int32) (x2i : Int32) (h : am_H) (v : Int64) (h' : am_H), am_stat h → g_X9_digest n 5 x1i x2i h = some (v, h') → am_stat h') ∧ (∀ (x1i : Int32) (x2i : Int32) (h : am_H) (v : Int64) (h' : am_H), am_stat h → g_X9_digest n 6 x1i x2i h = some (v, h') → am_stat h') ∧ (∀ (x1i : Int32) (x2i : Int32) (h : am_H) (v : Int64) (h' : am_H), am_stat h → g_X9_digest n 7 x1i x2i h = some (v, h') → am_stat h') ∧ (∀ (x1i : Int32) (x2i : Int32) (h : am_H) (v : Int64) (h' : am_H), am_stat h → g_X9_digest n 8 x1i x2i h = some (v, h') → am_stat h') := by
  induction n with
  | zero => exact ⟨fun x1i x2i h v h' hs hf => (by cases hf), fun x1i x2i h v h' hs hf => (by cases hf), fun x1i x2i h v h' hs hf => (by cases hf), fun x1i x2i h v h' hs hf => (by cases hf), fun x1i x2i h v h' hs hf => (by cases hf), fun x1i x2i h v h' hs hf => (by cases hf), fun x1i x2i h v h' hs hf => (by cases hf), fun x1i x2i h v h' hs hf => (by cases hf), fun x1i x2i h v h' hs hf => (by cases hf)⟩
  | succ n ih =>
    refine ⟨?_, ?_, ?_, ?_, ?_, ?_, ?_, ?_, ?_⟩
    · intro x1i x2i h v h' hs hf
      have hf : ((if (am_I h 51 2) ≤ x1i then g_X9_digest n 4 (Int32.ofInt 0) 0 h else g_X9_digest n 1 x1i (Int32.ofInt 0) h)) = some (v, h') := hf
      by_cases c1 : (am_I h 51 2) ≤ x1i
      · rw [if_pos c1] at hf
        exact ih.2.2.2.2.1 (Int32.ofInt 0) 0 h _ _ hs hf
      · rw [if_neg c1] at hf
        exact ih.2.1 x1i (Int32.ofInt 0) h _ _ hs hf
    · intro x1i x2i h v h' hs hf
      have hf : ((if (Int32.ofInt 4) ≤ x2i then g_X9_digest n 2 x1i (Int32.ofInt 1) h else am_b2 (f_X9_aboutOf n x1i x2i h) fun r2 h3 => (am_b2 (f_X9_mix (Int32.toInt64 r2) h3) fun r5 h6 => (g_X9_digest n 1 x1i (x2i + Int32.ofInt 1) h6)))) = some (v, h') := hf
      by_cases c1 : (Int32.ofInt 4) ≤ x2i
      · rw [if_pos c1] at hf
        exact ih.2.2.1 x1i (Int32.ofInt 1) h _ _ hs hf
      · rw [if_neg c1] at hf
        obtain ⟨r2, h3, e4, hf⟩ := am_b2_ok hf
        have hs := s_X9_aboutOf n x1i x2i h hs e4
        obtain ⟨r5, h6, e7, hf⟩ := am_b2_ok hf
        have hs := s_X9_mix (Int32.toInt64 r2) h3 hs e7
        exact ih.2.1 x1i (x2i + Int32.ofInt 1) h6 _ _ hs hf
    · intro x1i x2i h v h' hs hf
      have hf : (bif am_vp x1i 8 then ((if (am_I h 55 (Int32.toNatClampNeg x1i)) < x2i then g_X9_digest n 3 x1i (Int32.ofInt 0) h else bif am_vp (((Int32.ofInt 16) * x1i) + x2i) 128 then (am_b2 (f_X9_mix (Int32.toInt64 (am_I h 53 (Int32.toNatClampNeg (((Int32.ofInt 16) * x1i) + x2i)))) h) fun r4 h5 => (g_X9_digest n 2 x1i (x2i + Int32.ofInt 1) h5)) else none)) else none) = some (v, h') := hf
      obtain ⟨b1, hf⟩ := am_bis hf
      by_cases c2 : (am_I h 55 (Int32.toNatClampNeg x1i)) < x2i
      · rw [if_pos c2] at hf
        exact ih.2.2.2.1 x1i (Int32.ofInt 0) h _ _ hs hf
      · rw [if_neg c2] at hf
        obtain ⟨b3, hf⟩ := am_bis hf
        obtain ⟨r4, h5, e6, hf⟩ := am_b2_ok hf
        have hs := s_X9_mix (Int32.toInt64 (am_I h 53 (Int32.toNatClampNeg (((Int32.ofInt 16) * x1i) + x2i)))) h hs e6
        exact ih.2.2.1 x1i (x2i + Int32.ofInt 1) h5 _ _ hs hf
    · intro x1i x2i h v h' hs hf
      have hf : (bif am_vp x1i 8 then ((if (am_I h 55 (Int32.toNatClampNeg x1i)) < x2i then g_X9_digest n 0 (x1i + Int32.ofInt 1) 0 h else bif am_vp (((Int32.ofInt 16) * x1i) + x2i) 128 then (am_b2 (f_X9_mix (Int32.toInt64 (am_I h 54 (Int32.toNatClampNeg (((Int32.ofInt 16) * x1i) + x2i)))) h) fun r4 h5 => (g_X9_digest n 3 x1i (x2i + Int32.ofInt 1) h5)) else none)) else none) = some (v, h') := hf
      obtain ⟨b1, hf⟩ := am_bis hf
      by_cases c2 : (am_I h 55 (Int32.toNatClampNeg x1i)) < x2i
      · rw [if_pos c2] at hf
        exact ih.1 (x1i + Int32.ofInt 1) 0 h _ _ hs hf
      · rw [if_neg c2] at hf
        obtain ⟨b3, hf⟩ := am_bis hf
        obtain ⟨r4, h5, e6, hf⟩ := am_b2_ok hf
        have hs := s_X9_mix (Int32.toInt64 (am_I h 54 (Int32.toNatClampNeg (((Int32.ofInt 16) * x1i) + x2i)))) h hs e6
        exact ih.2.2.2.1 x1i (x2i + Int32.ofInt 1) h5 _ _ hs hf
    · intro x1i x2i h v h' hs hf
      have hf : ((if (Int32.ofInt 3) ≤ x1i then g_X9_digest n 5 (Int32.ofInt 0) 0 h else bif am_vp x1i 3 then (am_b2 (f_X9_mix (Int32.toInt64 (am_I h 58 (Int32.toNatClampNeg x1i))) h) fun r3 h4 => (Option.bind ((if (am_I h4 58 (Int32.toNatClampNeg x1i)) = (Int32.ofInt (-1)) then some (-1 : Int64) else some (Int32.toInt64 (am_I h4 77 (Int32.toNatClampNeg x1i))))) fun y6 => (am_b2 (f_X9_mix y6 h4) fun r59 h60 => (g_X9_digest n 4 (x1i + Int32.ofInt 1) 0 h60)))) else none)) = some (v, h') := hf
      by_cases c1 : (Int32.ofInt 3) ≤ x1i
      · rw [if_pos c1] at hf
        exact ih.2.2.2.2.2.1 (Int32.ofInt 0) 0 h _ _ hs hf
      · rw [if_neg c1] at hf
        obtain ⟨b2, hf⟩ := am_bis hf
        obtain ⟨r3, h4, e5, hf⟩ := am_b2_ok hf
        have hs := s_X9_mix (Int32.toInt64 (am_I h 58 (Int32.toNatClampNeg x1i))) h hs e5
        obtain ⟨y6, j7, hf⟩ := am_bnd hf
        obtain ⟨r59, h60, e61, hf⟩ := am_b2_ok hf
        have hs := s_X9_mix y6 h4 hs e61
        exact ih.2.2.2.2.1 (x1i + Int32.ofInt 1) 0 h60 _ _ hs hf
    · intro x1i x2i h v h' hs hf
      have hf : ((if (Int32.ofInt 9) ≤ x1i then am_b2 (f_X9_mix (Int32.toInt64 (am_I h 51 11)) h) fun r2 h3 => (am_b2 (f_X9_laySteps n h3) fun r5 h6 => (am_b2 (f_X9_mix (Int32.toInt64 (am_I h6 51 44)) h6) fun r8 h9 => (am_b2 (f_X9_meetAll n h9) fun r11 h12 => (Option.bind ((if (am_I h12 51 51) = 0 then some (Int32.toInt64 (am_I h12 51 50)) else some (-2 : Int64))) fun y14 => (am_b2 (f_X9_mix y14 h12) fun r67 h68 => (g_X9_digest n 7 (Int32.ofInt 0) 0 h68)))))) else (if (x1i - x1i / (Int32.ofInt 4) * (Int32.ofInt 4)) = 0 then g_X9_digest n 5 (x1i + Int32.ofInt 1) 0 h else bif am_vp x1i 9 then (am_b2 (f_X9_mix (Int32.toInt64 (am_I h 59 (Int32.toNatClampNeg x1i))) h) fun r72 h73 => (g_X9_digest n 6 x1i (Int32.ofInt 0) h73)) else none))) = some (v, h') := hf
      by_cases c1 : (Int32.ofInt 9) ≤ x1i
      · rw [if_pos c1] at hf
        obtain ⟨r2, h3, e4, hf⟩ := am_b2_ok hf
        have hs := s_X9_mix (Int32.toInt64 (am_I h 51 11)) h hs e4
        obtain ⟨r5, h6, e7, hf⟩ := am_b2_ok hf
        have hs := s_X9_laySteps n h3 hs e7
        obtain ⟨r8, h9, e10, hf⟩ := am_b2_ok hf
        have hs := s_X9_mix (Int32.toInt64 (am_I h6 51 44)) h6 hs e10
        obtain ⟨r11, h12, e13, hf⟩ := am_b2_ok hf
        have hs := s_X9_meetAll n h9 hs e13
        obtain ⟨y14, j15, hf⟩ := am_bnd hf
        obtain ⟨r67, h68, e69, hf⟩ := am_b2_ok hf
        have hs := s_X9_mix y14 h12 hs e69
        exact ih.2.2.2.2.2.2.2.1 (Int32.ofInt 0) 0 h68 _ _ hs hf
      · rw [if_neg c1] at hf
        by_cases c70 : (x1i - x1i / (Int32.ofInt 4) * (Int32.ofInt 4)) = 0
        · rw [if_pos c70] at hf
          exact ih.2.2.2.2.2.1 (x1i + Int32.ofInt 1) 0 h _ _ hs hf
        · rw [if_neg c70] at hf
          obtain ⟨b71, hf⟩ := am_bis hf
          obtain ⟨r72, h73, e74, hf⟩ := am_b2_ok hf
          have hs := s_X9_mix (Int32.toInt64 (am_I h 59 (Int32.toNatClampNeg x1i))) h hs e74
          exact ih.2.2.2.2.2.2.1 x1i (Int32.ofInt 0) h73 _ _ hs hf
    · intro x1i x2i h v h' hs hf
      have hf : (bif am_vp x1i 9 then (am_b2 (f_X9_sizeOf (am_I h 78 (Int32.toNatClampNeg x1i)) h) fun r2 h3 => ((if r2 ≤ x2i then g_X9_digest n 5 (x1i + Int32.ofInt 1) 0 h3 else am_b2 (f_X9_letterAt (am_I h3 78 (Int32.toNatClampNeg x1i)) x2i h3) fun r6 h7 => (am_b2 (f_X9_mix (Int32.toInt64 (r6 - (Int32.ofInt 1))) h7) fun r9 h10 => (g_X9_digest n 6 x1i (x2i + Int32.ofInt 1) h10))))) else none) = some (v, h') := hf
      obtain ⟨b1, hf⟩ := am_bis hf
      obtain ⟨r2, h3, e4, hf⟩ := am_b2_ok hf
      have hs := s_X9_sizeOf (am_I h 78 (Int32.toNatClampNeg x1i)) h hs e4
      by_cases c5 : r2 ≤ x2i
      · rw [if_pos c5] at hf
        exact ih.2.2.2.2.2.1 (x1i + Int32.ofInt 1) 0 h3 _ _ hs hf
      · rw [if_neg c5] at hf
        obtain ⟨r6, h7, e8, hf⟩ := am_b2_ok hf
        have hs := s_X9_letterAt (am_I h3 78 (Int32.toNatClampNeg x1i)) x2i h3 hs e8
        obtain ⟨r9, h10, e11, hf⟩ := am_b2_ok hf
        have hs := s_X9_mix (Int32.toInt64 (r6 - (Int32.ofInt 1))) h7 hs e11
        exact ih.2.2.2.2.2.2.1 x1i (x2i + Int32.ofInt 1) h10 _ _ hs hf
    · intro x1i x2i h v h' hs hf
      have hf : ((if (am_I h 51 0) ≤ x1i then g_X9_digest n 8 (Int32.ofInt 0) 0 h else bif am_vp x1i 60 then (am_b2 (f_X9_mix (Int32.toInt64 (am_I h 52 (Int32.toNatClampNeg x1i))) h) fun r3 h4 => (g_X9_digest n 7 (x1i + Int32.ofInt 1) 0 h4)) else none)) = some (v, h') := hf
      by_cases c1 : (am_I h 51 0) ≤ x1i
      · rw [if_pos c1] at hf
        exact ih.2.2.2.2.2.2.2.2 (Int32.ofInt 0) 0 h _ _ hs hf
      · rw [if_neg c1] at hf
        obtain ⟨b2, hf⟩ := am_bis hf
        obtain ⟨r3, h4, e5, hf⟩ := am_b2_ok hf
        have hs := s_X9_mix (Int32.toInt64 (am_I h 52 (Int32.toNatClampNeg x1i))) h hs e5
        exact ih.2.2.2.2.2.2.2.1 (x1i + Int32.ofInt 1) 0 h4 _ _ hs hf
    · intro x1i x2i h v h' hs hf
      have hf : ((if (Int32.ofInt 6) ≤ x1i then some ((am_J h 51 57), h) else am_b2 (f_X9_howMany n x1i h) fun r2 h3 => (am_b2 (f_X9_mix (Int32.toInt64 r2) h3) fun r5 h6 => (g_X9_digest n 8 (x1i + Int32.ofInt 1) 0 h6)))) = some (v, h') := hf
      by_cases c1 : (Int32.ofInt 6) ≤ x1i
      · rw [if_pos c1] at hf
        obtain ⟨rfl, rfl⟩ := am_i2 hf
        exact hs
      · rw [if_neg c1] at hf
        obtain ⟨r2, h3, e4, hf⟩ := am_b2_ok hf
        have hs := s_X9_howMany n x1i h hs e4
        obtain ⟨r5, h6, e7, hf⟩ := am_b2_ok hf
        have hs := s_X9_mix (Int32.toInt64 r2) h3 hs e7
        exact ih.2.2.2.2.2.2.2.2 (x1i + Int32.ofInt 1) 0 h6 _ _ hs hf
set_option maxRecDepth 100000 in
set_option maxHeartbeats 4000000 in
theorem l_X9_digest (n : Nat) : (∀ (x1i : Int32) (x2i : Int32) (h : am_H) (v : Int64) (h' : am_H), am_stat h → g_X9_digest n 0 x1i x2i h = some (v, h') → AW mX9_digest (rX9_digest 0 0) (fun r h2 => r = some (.long v) ∧ h2 = h') 9 [(0, .ref 51), (1, .int x1i)] [] h 0 0) ∧ (∀ (x1i : Int32) (x2i : Int32) (h : am_H) (v : Int64) (h' : am_H), am_stat h → g_X9_digest n 1 x1i x2i h = some (v, h') → AW mX9_digest (rX9_digest 0 0) (fun r h2 => r = some (.long v) ∧ h2 = h') 19 [(0, .ref 51), (1, .int x1i), (2, .int x2i)] [] h 0 0) ∧ (∀ (x1i : Int32) (x2i : Int32) (h : am_H) (v : Int64) (h' : am_H), am_stat h → g_X9_digest n 2 x1i x2i h = some (v, h') → AW mX9_digest (rX9_digest 0 0) (fun r h2 => r = some (.long v) ∧ h2 = h') 43 [(0, .ref 51), (1, .int x1i), (2, .int x2i)] [] h 0 0) ∧ (∀ (x1i : Int32) (x2i : Int32) (h : am_H) (v : Int64) (h' : am_H), am_stat h → g_X9_digest n 3 x1i x2i h = some (v, h') → AW mX9_digest (rX9_digest 0 0) (fun r h2 => r = some (.long v) ∧ h2 = h') 77 [(0, .ref 51), (1, .int x1i), (2, .int x2i)] [] h 0 0) ∧ (∀ (x1i : Int32) (x2i : Int32) (h : am_H) (v : Int64) (h' : am_H), am_stat h → g_X9_digest n 4 x1i x2i h = some (v, h') → AW mX9_digest (rX9_digest 0 0) (fun r h2 => r = some (.long v) ∧ h2 = h') 117 [(0, .ref 51), (1, .int x1i)] [] h 0 0) ∧ (∀ (x1i : Int32) (x2i : Int32) (h : am_H) (v : Int64) (h' : am_H), am_stat h → g_X9_digest n 5 x1i x2i h = some (v, h') → AW mX9_digest (rX9_digest 0 0) (fun r h2 => r = some (.long v) ∧ h2 = h') 168 [(0, .ref 51), (1, .int x1i)] [] h 0 0) ∧ (∀ (x1i : Int32) (x2i : Int32) (h : am_H) (v : Int64) (h' : am_H), am_stat h → g_X9_digest n 6 x1i x2i h = some (v, h') → AW mX9_digest (rX9_digest 0 0) (fun r h2 => r = some (.long v) ∧ h2 = h') 193 [(0, .ref 51), (1, .int x1i), (2, .int x2i)] [] h 0 0) ∧ (∀ (x1i : Int32) (x2i : Int32) (h : am_H) (v : Int64) (h' : am_H), am_stat h → g_X9_digest n 7 x1i x2i h = some (v, h') → AW mX9_digest (rX9_digest 0 0) (fun r h2 => r = some (.long v) ∧ h2 = h') 285 [(0, .ref 51), (1, .int x1i)] [] h 0 0) ∧ (∀ (x1i : Int32) (x2i : Int32) (h : am_H) (v : Int64) (h' : am_H), am_stat h → g_X9_digest n 8 x1i x2i h = some (v, h') → AW mX9_digest (rX9_digest 0 0) (fun r h2 => r = some (.long v) ∧ h2 = h') 312 [(0, .ref 51), (1, .int x1i)] [] h 0 0) := by
  induction n with
  | zero => exact ⟨fun x1i x2i h v h' hs hf => (by cases hf), fun x1i x2i h v h' hs hf => (by cases hf), fun x1i x2i h v h' hs hf => (by cases hf), fun x1i x2i h v h' hs hf => (by cases hf), fun x1i x2i h v h' hs hf => (by cases hf), fun x1i x2i h v h' hs hf => (by cases hf), fun x1i x2i h v h' hs hf => (by cases hf), fun x1i x2i h v h' hs hf => (by cases hf), fun x1i x2i h v h' hs hf => (by cases hf)⟩
  | succ n ih =>
    refine ⟨?_, ?_, ?_, ?_, ?_, ?_, ?_, ?_, ?_⟩
    · intro x1i x2i h v h' hs hf
      have hf : ((if (am_I h 51 2) ≤ x1i then g_X9_digest n 4 (Int32.ofInt 0) 0 h else g_X9_digest n 1 x1i (Int32.ofInt 0) h)) = some (v, h') := hf
      refine AW_go okX9_digest 4 ?_
      refine And.intro (sK hs 51) ?_
      refine And.intro (fun c1 => ?_) (fun c1 => ?_)
      · rw [if_pos c1] at hf
        refine AW_go okX9_digest 2 ?_
        refine AW_pick (lv' := [(0, .ref 51), (1, .int (Int32.ofInt 0))]) [1, 0] rfl ?_
        exact ih.2.2.2.2.1 (Int32.ofInt 0) 0 h _ _ hs hf
      · rw [if_neg c1] at hf
        refine AW_go okX9_digest 2 ?_
        refine AW_pick (lv' := [(0, .ref 51), (1, .int x1i), (2, .int (Int32.ofInt 0))]) [1, 2, 0] rfl ?_
        exact ih.2.1 x1i (Int32.ofInt 0) h _ _ hs hf
    · intro x1i x2i h v h' hs hf
      have hf : ((if (Int32.ofInt 4) ≤ x2i then g_X9_digest n 2 x1i (Int32.ofInt 1) h else am_b2 (f_X9_aboutOf n x1i x2i h) fun r2 h3 => (am_b2 (f_X9_mix (Int32.toInt64 r2) h3) fun r5 h6 => (g_X9_digest n 1 x1i (x2i + Int32.ofInt 1) h6)))) = some (v, h') := hf
      refine AW_go okX9_digest 3 ?_
      refine And.intro (fun c1 => ?_) (fun c1 => ?_)
      · rw [if_pos c1] at hf
        refine AW_go okX9_digest 2 ?_
        refine AW_pick (lv' := [(0, .ref 51), (1, .int x1i), (2, .int (Int32.ofInt 1))]) [1, 2, 0] rfl ?_
        exact ih.2.2.1 x1i (Int32.ofInt 1) h _ _ hs hf
      · rw [if_neg c1] at hf
        refine AW_go okX9_digest 4 ?_
        obtain ⟨r2, h3, e4, hf⟩ := am_b2_ok hf
        refine AW_callV (As := [.int x1i, .int x2i]) (R' := rX9_aboutOf 0 0) (T := TX9) (N := 58) (ci := 9) (okX9_digest.1 28 _ _ rfl) lkX9_aboutOf kX9_233 rfl (sK hs 51) rfl (Nat.le_of_ble_eq_true rfl) ⟨by decide, by decide⟩ ⟨(Nat.le_of_ble_eq_true rfl), (Nat.le_of_ble_eq_true rfl)⟩ (Nat.le_of_ble_eq_true rfl) (c_X9_aboutOf n x1i x2i h hs e4) (fun r h' hq => ?_)
        obtain ⟨rfl, hq⟩ := hq
        replace hq := hq.symm
        subst hq
        have hs := s_X9_aboutOf n x1i x2i h hs e4
        refine AW_go okX9_digest 1 ?_
        obtain ⟨r5, h6, e7, hf⟩ := am_b2_ok hf
        refine AW_callV (As := [.long (Int32.toInt64 r2)]) (R' := rX9_mix 0 0) (T := TX9) (N := 58) (ci := 9) (okX9_digest.1 32 _ _ rfl) lkX9_mix kX9_408 rfl (sK hs 51) rfl (Nat.le_of_ble_eq_true rfl) ⟨by decide, by decide⟩ ⟨(Nat.le_of_ble_eq_true rfl), (Nat.le_of_ble_eq_true rfl)⟩ (Nat.le_of_ble_eq_true rfl) (c_X9_mix (Int32.toInt64 r2) h3 hs e7) (fun r h' hq => ?_)
        obtain ⟨rfl, hq⟩ := hq
        replace hq := hq.symm
        subst hq
        have hs := s_X9_mix (Int32.toInt64 r2) h3 hs e7
        refine AW_go okX9_digest 2 ?_
        refine AW_pick (lv' := [(0, .ref 51), (1, .int x1i), (2, .int (x2i + Int32.ofInt 1))]) [1, 2, 0] rfl ?_
        exact ih.2.1 x1i (x2i + Int32.ofInt 1) h6 _ _ hs hf
    · intro x1i x2i h v h' hs hf
      have hf : (bif am_vp x1i 8 then ((if (am_I h 55 (Int32.toNatClampNeg x1i)) < x2i then g_X9_digest n 3 x1i (Int32.ofInt 0) h else bif am_vp (((Int32.ofInt 16) * x1i) + x2i) 128 then (am_b2 (f_X9_mix (Int32.toInt64 (am_I h 53 (Int32.toNatClampNeg (((Int32.ofInt 16) * x1i) + x2i)))) h) fun r4 h5 => (g_X9_digest n 2 x1i (x2i + Int32.ofInt 1) h5)) else none)) else none) = some (v, h') := hf
      obtain ⟨b1, hf⟩ := am_bis hf
      refine AW_go okX9_digest 6 ?_
      refine And.intro (sK hs 51) (Exists.intro _ (And.intro (sA hs 51 5) ?_))
      refine Exists.intro 8 (And.intro (sK hs 55) (And.intro (am_vp_ok b1) ?_))
      refine And.intro (fun c2 => ?_) (fun c2 => ?_)
      · rw [if_pos c2] at hf
        refine AW_go okX9_digest 2 ?_
        refine AW_pick (lv' := [(0, .ref 51), (1, .int x1i), (2, .int (Int32.ofInt 0))]) [1, 2, 0] rfl ?_
        exact ih.2.2.2.1 x1i (Int32.ofInt 0) h _ _ hs hf
      · rw [if_neg c2] at hf
        obtain ⟨b3, hf⟩ := am_bis hf
        refine AW_go okX9_digest 10 ?_
        refine And.intro (sK hs 51) (Exists.intro _ (And.intro (sA hs 51 3) ?_))
        refine Exists.intro 128 (And.intro (sK hs 53) (And.intro (am_vp_ok b3) ?_))
        obtain ⟨r4, h5, e6, hf⟩ := am_b2_ok hf
        refine AW_callV (As := [.long (Int32.toInt64 (am_I h 53 (Int32.toNatClampNeg (((Int32.ofInt 16) * x1i) + x2i))))]) (R' := rX9_mix 0 0) (T := TX9) (N := 58) (ci := 9) (okX9_digest.1 66 _ _ rfl) lkX9_mix kX9_408 rfl (sK hs 51) rfl (Nat.le_of_ble_eq_true rfl) ⟨by decide, by decide⟩ ⟨(Nat.le_of_ble_eq_true rfl), (Nat.le_of_ble_eq_true rfl)⟩ (Nat.le_of_ble_eq_true rfl) (c_X9_mix (Int32.toInt64 (am_I h 53 (Int32.toNatClampNeg (((Int32.ofInt 16) * x1i) + x2i)))) h hs e6) (fun r h' hq => ?_)
        obtain ⟨rfl, hq⟩ := hq
        replace hq := hq.symm
        subst hq
        have hs := s_X9_mix (Int32.toInt64 (am_I h 53 (Int32.toNatClampNeg (((Int32.ofInt 16) * x1i) + x2i)))) h hs e6
        refine AW_go okX9_digest 2 ?_
        refine AW_pick (lv' := [(0, .ref 51), (1, .int x1i), (2, .int (x2i + Int32.ofInt 1))]) [1, 2, 0] rfl ?_
        exact ih.2.2.1 x1i (x2i + Int32.ofInt 1) h5 _ _ hs hf
    · intro x1i x2i h v h' hs hf
      have hf : (bif am_vp x1i 8 then ((if (am_I h 55 (Int32.toNatClampNeg x1i)) < x2i then g_X9_digest n 0 (x1i + Int32.ofInt 1) 0 h else bif am_vp (((Int32.ofInt 16) * x1i) + x2i) 128 then (am_b2 (f_X9_mix (Int32.toInt64 (am_I h 54 (Int32.toNatClampNeg (((Int32.ofInt 16) * x1i) + x2i)))) h) fun r4 h5 => (g_X9_digest n 3 x1i (x2i + Int32.ofInt 1) h5)) else none)) else none) = some (v, h') := hf
      obtain ⟨b1, hf⟩ := am_bis hf
      refine AW_go okX9_digest 6 ?_
      refine And.intro (sK hs 51) (Exists.intro _ (And.intro (sA hs 51 5) ?_))
      refine Exists.intro 8 (And.intro (sK hs 55) (And.intro (am_vp_ok b1) ?_))
      refine And.intro (fun c2 => ?_) (fun c2 => ?_)
      · rw [if_pos c2] at hf
        refine AW_go okX9_digest 2 ?_
        refine AW_pick (lv' := [(0, .ref 51), (1, .int (x1i + Int32.ofInt 1))]) [1, 0] rfl ?_
        exact ih.1 (x1i + Int32.ofInt 1) 0 h _ _ hs hf
      · rw [if_neg c2] at hf
        obtain ⟨b3, hf⟩ := am_bis hf
        refine AW_go okX9_digest 10 ?_
        refine And.intro (sK hs 51) (Exists.intro _ (And.intro (sA hs 51 4) ?_))
        refine Exists.intro 128 (And.intro (sK hs 54) (And.intro (am_vp_ok b3) ?_))
        obtain ⟨r4, h5, e6, hf⟩ := am_b2_ok hf
        refine AW_callV (As := [.long (Int32.toInt64 (am_I h 54 (Int32.toNatClampNeg (((Int32.ofInt 16) * x1i) + x2i))))]) (R' := rX9_mix 0 0) (T := TX9) (N := 58) (ci := 9) (okX9_digest.1 100 _ _ rfl) lkX9_mix kX9_408 rfl (sK hs 51) rfl (Nat.le_of_ble_eq_true rfl) ⟨by decide, by decide⟩ ⟨(Nat.le_of_ble_eq_true rfl), (Nat.le_of_ble_eq_true rfl)⟩ (Nat.le_of_ble_eq_true rfl) (c_X9_mix (Int32.toInt64 (am_I h 54 (Int32.toNatClampNeg (((Int32.ofInt 16) * x1i) + x2i)))) h hs e6) (fun r h' hq => ?_)
        obtain ⟨rfl, hq⟩ := hq
        replace hq := hq.symm
        subst hq
        have hs := s_X9_mix (Int32.toInt64 (am_I h 54 (Int32.toNatClampNeg (((Int32.ofInt 16) * x1i) + x2i)))) h hs e6
        refine AW_go okX9_digest 2 ?_
        refine AW_pick (lv' := [(0, .ref 51), (1, .int x1i), (2, .int (x2i + Int32.ofInt 1))]) [1, 2, 0] rfl ?_
        exact ih.2.2.2.1 x1i (x2i + Int32.ofInt 1) h5 _ _ hs hf
    · intro x1i x2i h v h' hs hf
      have hf : ((if (Int32.ofInt 3) ≤ x1i then g_X9_digest n 5 (Int32.ofInt 0) 0 h else bif am_vp x1i 3 then (am_b2 (f_X9_mix (Int32.toInt64 (am_I h 58 (Int32.toNatClampNeg x1i))) h) fun r3 h4 => (Option.bind ((if (am_I h4 58 (Int32.toNatClampNeg x1i)) = (Int32.ofInt (-1)) then some (-1 : Int64) else some (Int32.toInt64 (am_I h4 77 (Int32.toNatClampNeg x1i))))) fun y6 => (am_b2 (f_X9_mix y6 h4) fun r59 h60 => (g_X9_digest n 4 (x1i + Int32.ofInt 1) 0 h60)))) else none)) = some (v, h') := hf
      refine AW_go okX9_digest 3 ?_
      refine And.intro (fun c1 => ?_) (fun c1 => ?_)
      · rw [if_pos c1] at hf
        refine AW_go okX9_digest 2 ?_
        refine AW_pick (lv' := [(0, .ref 51), (1, .int (Int32.ofInt 0))]) [1, 0] rfl ?_
        exact ih.2.2.2.2.2.1 (Int32.ofInt 0) 0 h _ _ hs hf
      · rw [if_neg c1] at hf
        obtain ⟨b2, hf⟩ := am_bis hf
        refine AW_go okX9_digest 6 ?_
        refine And.intro (sK hs 51) (Exists.intro _ (And.intro (sA hs 51 9) ?_))
        refine Exists.intro 3 (And.intro (sK hs 58) (And.intro (am_vp_ok b2) ?_))
        obtain ⟨r3, h4, e5, hf⟩ := am_b2_ok hf
        refine AW_callV (As := [.long (Int32.toInt64 (am_I h 58 (Int32.toNatClampNeg x1i)))]) (R' := rX9_mix 0 0) (T := TX9) (N := 58) (ci := 9) (okX9_digest.1 130 _ _ rfl) lkX9_mix kX9_408 rfl (sK hs 51) rfl (Nat.le_of_ble_eq_true rfl) ⟨by decide, by decide⟩ ⟨(Nat.le_of_ble_eq_true rfl), (Nat.le_of_ble_eq_true rfl)⟩ (Nat.le_of_ble_eq_true rfl) (c_X9_mix (Int32.toInt64 (am_I h 58 (Int32.toNatClampNeg x1i))) h hs e5) (fun r h' hq => ?_)
        obtain ⟨rfl, hq⟩ := hq
        replace hq := hq.symm
        subst hq
        have hs := s_X9_mix (Int32.toInt64 (am_I h 58 (Int32.toNatClampNeg x1i))) h hs e5
        refine AW_go okX9_digest 6 ?_
        refine And.intro (sK hs 51) (Exists.intro _ (And.intro (sA hs 51 9) ?_))
        refine Exists.intro 3 (And.intro (sK hs 58) (And.intro (am_vp_ok b2) ?_))
        obtain ⟨y6, j7, hf⟩ := am_bnd hf
        refine am_cut (P := AW mX9_digest (rX9_digest 0 0) (fun r h2 => r = some (.long v) ∧ h2 = h') 157 [(0, .ref 51), (1, .int x1i)] [.long y6, .ref 51] h4 0 0) (fun hJ7 => ?_) ?_
        · have hs := hs
          refine AW_go okX9_digest 1 ?_
          refine And.intro (fun c8 => ?_) (fun c8 => ?_)
          · rw [if_neg c8] at j7
            refine AW_go okX9_digest 5 ?_
            refine And.intro (sK hs 51) (Exists.intro _ (And.intro (sA hs 51 38) ?_))
            refine Exists.intro 3 (And.intro (sK hs 77) (And.intro (am_vp_ok b2) ?_))
            obtain rfl := am_i1 j7
            exact AW_pick [0, 1] rfl hJ7
          · rw [if_pos c8] at j7
            refine AW_go okX9_digest 2 ?_
            obtain rfl := am_i1 j7
            exact AW_pick [0, 1] rfl hJ7
        obtain ⟨r59, h60, e61, hf⟩ := am_b2_ok hf
        refine AW_callV (As := [.long y6]) (R' := rX9_mix 0 0) (T := TX9) (N := 58) (ci := 9) (okX9_digest.1 157 _ _ rfl) lkX9_mix kX9_408 rfl (sK hs 51) rfl (Nat.le_of_ble_eq_true rfl) ⟨by decide, by decide⟩ ⟨(Nat.le_of_ble_eq_true rfl), (Nat.le_of_ble_eq_true rfl)⟩ (Nat.le_of_ble_eq_true rfl) (c_X9_mix y6 h4 hs e61) (fun r h' hq => ?_)
        obtain ⟨rfl, hq⟩ := hq
        replace hq := hq.symm
        subst hq
        have hs := s_X9_mix y6 h4 hs e61
        refine AW_go okX9_digest 2 ?_
        refine AW_pick (lv' := [(0, .ref 51), (1, .int (x1i + Int32.ofInt 1))]) [1, 0] rfl ?_
        exact ih.2.2.2.2.1 (x1i + Int32.ofInt 1) 0 h60 _ _ hs hf
    · intro x1i x2i h v h' hs hf
      have hf : ((if (Int32.ofInt 9) ≤ x1i then am_b2 (f_X9_mix (Int32.toInt64 (am_I h 51 11)) h) fun r2 h3 => (am_b2 (f_X9_laySteps n h3) fun r5 h6 => (am_b2 (f_X9_mix (Int32.toInt64 (am_I h6 51 44)) h6) fun r8 h9 => (am_b2 (f_X9_meetAll n h9) fun r11 h12 => (Option.bind ((if (am_I h12 51 51) = 0 then some (Int32.toInt64 (am_I h12 51 50)) else some (-2 : Int64))) fun y14 => (am_b2 (f_X9_mix y14 h12) fun r67 h68 => (g_X9_digest n 7 (Int32.ofInt 0) 0 h68)))))) else (if (x1i - x1i / (Int32.ofInt 4) * (Int32.ofInt 4)) = 0 then g_X9_digest n 5 (x1i + Int32.ofInt 1) 0 h else bif am_vp x1i 9 then (am_b2 (f_X9_mix (Int32.toInt64 (am_I h 59 (Int32.toNatClampNeg x1i))) h) fun r72 h73 => (g_X9_digest n 6 x1i (Int32.ofInt 0) h73)) else none))) = some (v, h') := hf
      refine AW_go okX9_digest 3 ?_
      refine And.intro (fun c1 => ?_) (fun c1 => ?_)
      · rw [if_pos c1] at hf
        refine AW_go okX9_digest 4 ?_
        refine And.intro (sK hs 51) ?_
        obtain ⟨r2, h3, e4, hf⟩ := am_b2_ok hf
        refine AW_callV (As := [.long (Int32.toInt64 (am_I h 51 11))]) (R' := rX9_mix 0 0) (T := TX9) (N := 58) (ci := 9) (okX9_digest.1 241 _ _ rfl) lkX9_mix kX9_408 rfl (sK hs 51) rfl (Nat.le_of_ble_eq_true rfl) ⟨by decide, by decide⟩ ⟨(Nat.le_of_ble_eq_true rfl), (Nat.le_of_ble_eq_true rfl)⟩ (Nat.le_of_ble_eq_true rfl) (c_X9_mix (Int32.toInt64 (am_I h 51 11)) h hs e4) (fun r h' hq => ?_)
        obtain ⟨rfl, hq⟩ := hq
        replace hq := hq.symm
        subst hq
        have hs := s_X9_mix (Int32.toInt64 (am_I h 51 11)) h hs e4
        refine AW_go okX9_digest 1 ?_
        obtain ⟨r5, h6, e7, hf⟩ := am_b2_ok hf
        refine AW_callV (As := []) (R' := rX9_laySteps 0 0) (T := TX9) (N := 58) (ci := 9) (okX9_digest.1 245 _ _ rfl) lkX9_laySteps kX9_306 rfl (sK hs 51) rfl (Nat.le_of_ble_eq_true rfl) ⟨by decide, by decide⟩ ⟨(Nat.le_of_ble_eq_true rfl), (Nat.le_of_ble_eq_true rfl)⟩ (Nat.le_of_ble_eq_true rfl) (c_X9_laySteps n h3 hs e7) (fun r h' hq => ?_)
        obtain ⟨rfl, hq⟩ := hq
        replace hq := hq.symm
        subst hq
        have hs := s_X9_laySteps n h3 hs e7
        refine AW_go okX9_digest 4 ?_
        refine And.intro (sK hs 51) ?_
        obtain ⟨r8, h9, e10, hf⟩ := am_b2_ok hf
        refine AW_callV (As := [.long (Int32.toInt64 (am_I h6 51 44))]) (R' := rX9_mix 0 0) (T := TX9) (N := 58) (ci := 9) (okX9_digest.1 254 _ _ rfl) lkX9_mix kX9_408 rfl (sK hs 51) rfl (Nat.le_of_ble_eq_true rfl) ⟨by decide, by decide⟩ ⟨(Nat.le_of_ble_eq_true rfl), (Nat.le_of_ble_eq_true rfl)⟩ (Nat.le_of_ble_eq_true rfl) (c_X9_mix (Int32.toInt64 (am_I h6 51 44)) h6 hs e10) (fun r h' hq => ?_)
        obtain ⟨rfl, hq⟩ := hq
        replace hq := hq.symm
        subst hq
        have hs := s_X9_mix (Int32.toInt64 (am_I h6 51 44)) h6 hs e10
        refine AW_go okX9_digest 1 ?_
        obtain ⟨r11, h12, e13, hf⟩ := am_b2_ok hf
        refine AW_callV (As := []) (R' := rX9_meetAll 0 0) (T := TX9) (N := 58) (ci := 9) (okX9_digest.1 258 _ _ rfl) lkX9_meetAll kX9_378 rfl (sK hs 51) rfl (Nat.le_of_ble_eq_true rfl) ⟨by decide, by decide⟩ ⟨(Nat.le_of_ble_eq_true rfl), (Nat.le_of_ble_eq_true rfl)⟩ (Nat.le_of_ble_eq_true rfl) (c_X9_meetAll n h9 hs e13) (fun r h' hq => ?_)
        obtain ⟨rfl, hq⟩ := hq
        replace hq := hq.symm
        subst hq
        have hs := s_X9_meetAll n h9 hs e13
        refine AW_go okX9_digest 3 ?_
        refine And.intro (sK hs 51) ?_
        obtain ⟨y14, j15, hf⟩ := am_bnd hf
        refine am_cut (P := AW mX9_digest (rX9_digest 0 0) (fun r h2 => r = some (.long v) ∧ h2 = h') 280 [(0, .ref 51), (1, .int x1i)] [.long y14, .ref 51] h12 0 0) (fun hJ15 => ?_) ?_
        · have hs := hs
          refine AW_go okX9_digest 1 ?_
          refine And.intro (fun c16 => ?_) (fun c16 => ?_)
          · rw [if_pos c16] at j15
            refine AW_go okX9_digest 3 ?_
            refine And.intro (sK hs 51) ?_
            obtain rfl := am_i1 j15
            exact AW_pick [0, 1] rfl hJ15
          · rw [if_neg c16] at j15
            refine AW_go okX9_digest 2 ?_
            obtain rfl := am_i1 j15
            exact AW_pick [0, 1] rfl hJ15
        obtain ⟨r67, h68, e69, hf⟩ := am_b2_ok hf
        refine AW_callV (As := [.long y14]) (R' := rX9_mix 0 0) (T := TX9) (N := 58) (ci := 9) (okX9_digest.1 280 _ _ rfl) lkX9_mix kX9_408 rfl (sK hs 51) rfl (Nat.le_of_ble_eq_true rfl) ⟨by decide, by decide⟩ ⟨(Nat.le_of_ble_eq_true rfl), (Nat.le_of_ble_eq_true rfl)⟩ (Nat.le_of_ble_eq_true rfl) (c_X9_mix y14 h12 hs e69) (fun r h' hq => ?_)
        obtain ⟨rfl, hq⟩ := hq
        replace hq := hq.symm
        subst hq
        have hs := s_X9_mix y14 h12 hs e69
        refine AW_go okX9_digest 2 ?_
        refine AW_pick (lv' := [(0, .ref 51), (1, .int (Int32.ofInt 0))]) [1, 0] rfl ?_
        exact ih.2.2.2.2.2.2.2.1 (Int32.ofInt 0) 0 h68 _ _ hs hf
      · rw [if_neg c1] at hf
        refine AW_go okX9_digest 4 ?_
        refine And.intro (by decide) ?_
        refine And.intro (fun c70 => ?_) (fun c70 => ?_)
        · rw [if_pos c70] at hf
          refine AW_go okX9_digest 2 ?_
          refine AW_pick (lv' := [(0, .ref 51), (1, .int (x1i + Int32.ofInt 1))]) [1, 0] rfl ?_
          exact ih.2.2.2.2.2.1 (x1i + Int32.ofInt 1) 0 h _ _ hs hf
        · rw [if_neg c70] at hf
          obtain ⟨b71, hf⟩ := am_bis hf
          refine AW_go okX9_digest 6 ?_
          refine And.intro (sK hs 51) (Exists.intro _ (And.intro (sA hs 51 10) ?_))
          refine Exists.intro 9 (And.intro (sK hs 59) (And.intro (am_vp_ok b71) ?_))
          obtain ⟨r72, h73, e74, hf⟩ := am_b2_ok hf
          refine AW_callV (As := [.long (Int32.toInt64 (am_I h 59 (Int32.toNatClampNeg x1i)))]) (R' := rX9_mix 0 0) (T := TX9) (N := 58) (ci := 9) (okX9_digest.1 188 _ _ rfl) lkX9_mix kX9_408 rfl (sK hs 51) rfl (Nat.le_of_ble_eq_true rfl) ⟨by decide, by decide⟩ ⟨(Nat.le_of_ble_eq_true rfl), (Nat.le_of_ble_eq_true rfl)⟩ (Nat.le_of_ble_eq_true rfl) (c_X9_mix (Int32.toInt64 (am_I h 59 (Int32.toNatClampNeg x1i))) h hs e74) (fun r h' hq => ?_)
          obtain ⟨rfl, hq⟩ := hq
          replace hq := hq.symm
          subst hq
          have hs := s_X9_mix (Int32.toInt64 (am_I h 59 (Int32.toNatClampNeg x1i))) h hs e74
          refine AW_go okX9_digest 2 ?_
          refine AW_pick (lv' := [(0, .ref 51), (1, .int x1i), (2, .int (Int32.ofInt 0))]) [1, 2, 0] rfl ?_
          exact ih.2.2.2.2.2.2.1 x1i (Int32.ofInt 0) h73 _ _ hs hf
    · intro x1i x2i h v h' hs hf
      have hf : (bif am_vp x1i 9 then (am_b2 (f_X9_sizeOf (am_I h 78 (Int32.toNatClampNeg x1i)) h) fun r2 h3 => ((if r2 ≤ x2i then g_X9_digest n 5 (x1i + Int32.ofInt 1) 0 h3 else am_b2 (f_X9_letterAt (am_I h3 78 (Int32.toNatClampNeg x1i)) x2i h3) fun r6 h7 => (am_b2 (f_X9_mix (Int32.toInt64 (r6 - (Int32.ofInt 1))) h7) fun r9 h10 => (g_X9_digest n 6 x1i (x2i + Int32.ofInt 1) h10))))) else none) = some (v, h') := hf
      obtain ⟨b1, hf⟩ := am_bis hf
      refine AW_go okX9_digest 5 ?_
      refine And.intro (sK hs 51) (Exists.intro _ (And.intro (sA hs 51 39) ?_))
      refine Exists.intro 9 (And.intro (sK hs 78) (And.intro (am_vp_ok b1) ?_))
      obtain ⟨r2, h3, e4, hf⟩ := am_b2_ok hf
      refine AW_callS (As := [.int (am_I h 78 (Int32.toNatClampNeg x1i))]) (R' := rX9_sizeOf 0 0) (okX9_digest.1 200 _ _ rfl) lkX9_sizeOf (Or.inl kX9_270) rfl (Nat.le_of_ble_eq_true rfl) ⟨by decide, by decide⟩ ⟨(Nat.le_of_ble_eq_true rfl), (Nat.le_of_ble_eq_true rfl)⟩ (Nat.le_of_ble_eq_true rfl) (c_X9_sizeOf (am_I h 78 (Int32.toNatClampNeg x1i)) h hs e4) (fun r h' hq => ?_)
      obtain ⟨rfl, hq⟩ := hq
      replace hq := hq.symm
      subst hq
      have hs := s_X9_sizeOf (am_I h 78 (Int32.toNatClampNeg x1i)) h hs e4
      refine AW_go okX9_digest 1 ?_
      refine And.intro (fun c5 => ?_) (fun c5 => ?_)
      · rw [if_pos c5] at hf
        refine AW_go okX9_digest 2 ?_
        refine AW_pick (lv' := [(0, .ref 51), (1, .int (x1i + Int32.ofInt 1))]) [1, 0] rfl ?_
        exact ih.2.2.2.2.2.1 (x1i + Int32.ofInt 1) 0 h3 _ _ hs hf
      · rw [if_neg c5] at hf
        refine AW_go okX9_digest 6 ?_
        refine And.intro (sK hs 51) (Exists.intro _ (And.intro (sA hs 51 39) ?_))
        refine Exists.intro 9 (And.intro (sK hs 78) (And.intro (am_vp_ok b1) ?_))
        obtain ⟨r6, h7, e8, hf⟩ := am_b2_ok hf
        refine AW_callS (As := [.int (am_I h3 78 (Int32.toNatClampNeg x1i)), .int x2i]) (R' := rX9_letterAt 0 0) (okX9_digest.1 214 _ _ rfl) lkX9_letterAt (Or.inl kX9_273) rfl (Nat.le_of_ble_eq_true rfl) ⟨by decide, by decide⟩ ⟨(Nat.le_of_ble_eq_true rfl), (Nat.le_of_ble_eq_true rfl)⟩ (Nat.le_of_ble_eq_true rfl) (c_X9_letterAt (am_I h3 78 (Int32.toNatClampNeg x1i)) x2i h3 hs e8) (fun r h' hq => ?_)
        obtain ⟨rfl, hq⟩ := hq
        replace hq := hq.symm
        subst hq
        have hs := s_X9_letterAt (am_I h3 78 (Int32.toNatClampNeg x1i)) x2i h3 hs e8
        refine AW_go okX9_digest 3 ?_
        obtain ⟨r9, h10, e11, hf⟩ := am_b2_ok hf
        refine AW_callV (As := [.long (Int32.toInt64 (r6 - (Int32.ofInt 1)))]) (R' := rX9_mix 0 0) (T := TX9) (N := 58) (ci := 9) (okX9_digest.1 220 _ _ rfl) lkX9_mix kX9_408 rfl (sK hs 51) rfl (Nat.le_of_ble_eq_true rfl) ⟨by decide, by decide⟩ ⟨(Nat.le_of_ble_eq_true rfl), (Nat.le_of_ble_eq_true rfl)⟩ (Nat.le_of_ble_eq_true rfl) (c_X9_mix (Int32.toInt64 (r6 - (Int32.ofInt 1))) h7 hs e11) (fun r h' hq => ?_)
        obtain ⟨rfl, hq⟩ := hq
        replace hq := hq.symm
        subst hq
        have hs := s_X9_mix (Int32.toInt64 (r6 - (Int32.ofInt 1))) h7 hs e11
        refine AW_go okX9_digest 2 ?_
        refine AW_pick (lv' := [(0, .ref 51), (1, .int x1i), (2, .int (x2i + Int32.ofInt 1))]) [1, 2, 0] rfl ?_
        exact ih.2.2.2.2.2.2.1 x1i (x2i + Int32.ofInt 1) h10 _ _ hs hf
    · intro x1i x2i h v h' hs hf
      have hf : ((if (am_I h 51 0) ≤ x1i then g_X9_digest n 8 (Int32.ofInt 0) 0 h else bif am_vp x1i 60 then (am_b2 (f_X9_mix (Int32.toInt64 (am_I h 52 (Int32.toNatClampNeg x1i))) h) fun r3 h4 => (g_X9_digest n 7 (x1i + Int32.ofInt 1) 0 h4)) else none)) = some (v, h') := hf
      refine AW_go okX9_digest 4 ?_
      refine And.intro (sK hs 51) ?_
      refine And.intro (fun c1 => ?_) (fun c1 => ?_)
      · rw [if_pos c1] at hf
        refine AW_go okX9_digest 2 ?_
        refine AW_pick (lv' := [(0, .ref 51), (1, .int (Int32.ofInt 0))]) [1, 0] rfl ?_
        exact ih.2.2.2.2.2.2.2.2 (Int32.ofInt 0) 0 h _ _ hs hf
      · rw [if_neg c1] at hf
        obtain ⟨b2, hf⟩ := am_bis hf
        refine AW_go okX9_digest 6 ?_
        refine And.intro (sK hs 51) (Exists.intro _ (And.intro (sA hs 51 1) ?_))
        refine Exists.intro 1 (Exists.intro 60 (And.intro (by decide) (And.intro (sK hs 52) (And.intro (am_vp_ok b2) ?_))))
        obtain ⟨r3, h4, e5, hf⟩ := am_b2_ok hf
        refine AW_callV (As := [.long (Int32.toInt64 (am_I h 52 (Int32.toNatClampNeg x1i)))]) (R' := rX9_mix 0 0) (T := TX9) (N := 58) (ci := 9) (okX9_digest.1 301 _ _ rfl) lkX9_mix kX9_408 rfl (sK hs 51) rfl (Nat.le_of_ble_eq_true rfl) ⟨by decide, by decide⟩ ⟨(Nat.le_of_ble_eq_true rfl), (Nat.le_of_ble_eq_true rfl)⟩ (Nat.le_of_ble_eq_true rfl) (c_X9_mix (Int32.toInt64 (am_I h 52 (Int32.toNatClampNeg x1i))) h hs e5) (fun r h' hq => ?_)
        obtain ⟨rfl, hq⟩ := hq
        replace hq := hq.symm
        subst hq
        have hs := s_X9_mix (Int32.toInt64 (am_I h 52 (Int32.toNatClampNeg x1i))) h hs e5
        refine AW_go okX9_digest 2 ?_
        refine AW_pick (lv' := [(0, .ref 51), (1, .int (x1i + Int32.ofInt 1))]) [1, 0] rfl ?_
        exact ih.2.2.2.2.2.2.2.1 (x1i + Int32.ofInt 1) 0 h4 _ _ hs hf
    · intro x1i x2i h v h' hs hf
      have hf : ((if (Int32.ofInt 6) ≤ x1i then some ((am_J h 51 57), h) else am_b2 (f_X9_howMany n x1i h) fun r2 h3 => (am_b2 (f_X9_mix (Int32.toInt64 r2) h3) fun r5 h6 => (g_X9_digest n 8 (x1i + Int32.ofInt 1) 0 h6)))) = some (v, h') := hf
      refine AW_go okX9_digest 3 ?_
      refine And.intro (fun c1 => ?_) (fun c1 => ?_)
      · rw [if_pos c1] at hf
        refine AW_go okX9_digest 3 ?_
        refine And.intro (sK hs 51) ?_
        obtain ⟨rfl, rfl⟩ := am_i2 hf
        exact And.intro ⟨(Nat.le_of_ble_eq_true rfl), (Nat.le_of_ble_eq_true rfl)⟩ (And.intro rfl ⟨rfl, rfl⟩)
      · rw [if_neg c1] at hf
        refine AW_go okX9_digest 3 ?_
        obtain ⟨r2, h3, e4, hf⟩ := am_b2_ok hf
        refine AW_callV (As := [.int x1i]) (R' := rX9_howMany 0 0) (T := TX9) (N := 58) (ci := 9) (okX9_digest.1 321 _ _ rfl) lkX9_howMany kX9_397 rfl (sK hs 51) rfl (Nat.le_of_ble_eq_true rfl) ⟨by decide, by decide⟩ ⟨(Nat.le_of_ble_eq_true rfl), (Nat.le_of_ble_eq_true rfl)⟩ (Nat.le_of_ble_eq_true rfl) (c_X9_howMany n x1i h hs e4) (fun r h' hq => ?_)
        obtain ⟨rfl, hq⟩ := hq
        replace hq := hq.symm
        subst hq
        have hs := s_X9_howMany n x1i h hs e4
        refine AW_go okX9_digest 1 ?_
        obtain ⟨r5, h6, e7, hf⟩ := am_b2_ok hf
        refine AW_callV (As := [.long (Int32.toInt64 r2)]) (R' := rX9_mix 0 0) (T := TX9) (N := 58) (ci := 9) (okX9_digest.1 325 _ _ rfl) lkX9_mix kX9_408 rfl (sK hs 51) rfl (Nat.le_of_ble_eq_true rfl) ⟨by decide, by decide⟩ ⟨(Nat.le_of_ble_eq_true rfl), (Nat.le_of_ble_eq_true rfl)⟩ (Nat.le_of_ble_eq_true rfl) (c_X9_mix (Int32.toInt64 r2) h3 hs e7) (fun r h' hq => ?_)
        obtain ⟨rfl, hq⟩ := hq
        replace hq := hq.symm
        subst hq
        have hs := s_X9_mix (Int32.toInt64 r2) h3 hs e7
        refine AW_go okX9_digest 2 ?_
        refine AW_pick (lv' := [(0, .ref 51), (1, .int (x1i + Int32.ofInt 1))]) [1, 0] rfl ?_
        exact ih.2.2.2.2.2.2.2.2 (x1i + Int32.ofInt 1) 0 h6 _ _ hs hf
def f_X9_digest (n : Nat) (h : am_H) : Option (Int64 × am_H) := g_X9_digest n 0 (Int32.ofInt 0) 0 (am_sJ h 51 57 (307 : Int64))
set_option maxRecDepth 100000 in
theorem s_X9_digest (n : Nat) (h : am_H) (hs : am_stat h) {v : Int64} {h' : am_H} (hf : f_X9_digest n h = some (v, h')) : am_stat h' := by
  unfold f_X9_digest at hf
  exact (m_X9_digest n).1 (Int32.ofInt 0) 0 (am_sJ h 51 57 (307 : Int64)) _ _ hs hf
set_option maxRecDepth 100000 in
theorem c_X9_digest (n : Nat) (h : am_H) (hs : am_stat h) {v : Int64} {h' : am_H} (hf : f_X9_digest n h = some (v, h')) : AMet mX9_digest (rX9_digest 0 0) (fun r h2 => r = some (.long v) ∧ h2 = h') [.ref 51] h := by
  unfold f_X9_digest at hf
  refine AW_go okX9_digest 5 ?_
  refine And.intro (sK hs 51) ?_
  refine AW_pick (lv' := [(0, .ref 51), (1, .int (Int32.ofInt 0))]) [1, 0] rfl ?_
  exact (l_X9_digest n).1 (Int32.ofInt 0) 0 (am_sJ h 51 57 (307 : Int64)) _ _ hs hf
