def g_X9_meetAll : Nat → Nat → Int64 → Int32 → Int32 → Int32 → am_H → Option (Unit × am_H)
  | 0, _, _, _, _, _, _ => none
  | n + 1, tag, x1j, x3i, x4i, x5i, h => bif Nat.beq tag 0 then ((if (Int32.ofInt 8192) ≤ x3i then am_b2 (f_X9_beginAnew n h) fun r2 h3 => (am_b2 (f_X9_asState n (am_sI (am_sI (am_sI h3 51 12 (am_I h 51 12)) 51 50 (Int32.ofInt 0)) 51 51 (Int32.ofInt 0))) fun r5 h6 => (am_b2 (f_X9_meet n r5 (Int32.ofInt (-1)) (Int32.ofInt (-1)) h6) fun r8 h9 => (g_X9_meetAll n 1 x1j (am_I h 51 12) (Int32.ofInt 0) 0 h9))) else bif am_vp x3i 8192 then (g_X9_meetAll n 0 x1j (x3i + Int32.ofInt 1) 0 0 (am_sI h 84 (Int32.toNatClampNeg x3i) (Int32.ofInt 0))) else none)) else (bif Nat.beq tag 1 then ((if (am_I h 51 50) ≤ x4i then am_b2 (f_X9_layState n x1j h) fun r2 h3 => (some ((), h3)) else (if (am_I h 51 51) = 0 then bif am_vp x4i 2001 then (am_b2 (f_X9_layState n (am_J h 80 (Int32.toNatClampNeg x4i)) h) fun r10 h11 => (am_b2 (f_X9_laySteps n h11) fun r13 h14 => (bif am_vp x4i 2002 then (g_X9_meetAll n 2 x1j x3i x4i (Int32.ofInt 0) (am_sI h14 85 (Int32.toNatClampNeg x4i) (am_I h14 51 56))) else none))) else none else am_b2 (f_X9_layState n x1j h) fun r6 h7 => (some ((), h7))))) else (am_let (bif am_vp (x4i + (Int32.ofInt 1)) 2002 then (g_X9_meetAll n 1 x1j x3i (x4i + Int32.ofInt 1) 0 (am_sI h 85 (Int32.toNatClampNeg (x4i + (Int32.ofInt 1))) (am_I h 51 56))) else none) fun b1 => ((if (am_I h 51 44) ≤ x5i then b1 else (if (am_I h 51 51) = 0 then bif am_vp x4i 2001 then (am_b2 (f_X9_layState n (am_J h 80 (Int32.toNatClampNeg x4i)) h) fun r7 h8 => (bif am_vp x5i 96 then (am_b2 (f_X9_doStep n (am_I h8 79 (Int32.toNatClampNeg x5i)) h8) fun r11 h12 => (am_b2 (f_X9_asState n h12) fun r14 h15 => (am_b2 (f_X9_meet n r14 x4i (am_I h8 79 (Int32.toNatClampNeg x5i)) h15) fun r17 h18 => (bif am_vp (am_I h12 51 56) 180090 then (g_X9_meetAll n 2 x1j x3i x4i (x5i + Int32.ofInt 1) (am_sI (am_sI h18 86 (Int32.toNatClampNeg (am_I h12 51 56)) r17) 51 56 ((am_I (am_sI h18 86 (Int32.toNatClampNeg (am_I h12 51 56)) r17) 51 56) + (Int32.ofInt 1)))) else none)))) else none)) else none else b1)))))
set_option maxRecDepth 100000 in
set_option maxHeartbeats 4000000 in
theorem m_X9_meetAll (n : Nat) : (∀ (x1j : Int64) (x3i : Int32) (x4i : Int32) (x5i : Int32) (h : am_H) (v : Unit) (h' : am_H), am_stat h → g_X9_meetAll n 0 x1j x3i x4i x5i h = some (v, h') → am_stat h') ∧ (∀ (x1j : Int64) (x3i : Int32) (x4i : Int32) (x5i : Int32) (h : am_H) (v : Unit) (h' : am_H), am_stat h → g_X9_meetAll n 1 x1j x3i x4i x5i h = some (v, h') → am_stat h') ∧ (∀ (x1j : Int64) (x3i : Int32) (x4i : Int32) (x5i : Int32) (h : am_H) (v : Unit) (h' : am_H), am_stat h → g_X9_meetAll n 2 x1j x3i x4i x5i h = some (v, h') → am_stat h') := by
  induction n with
  | zero => exact ⟨fun x1j x3i x4i x5i h v h' hs hf => (by cases hf), fun x1j x3i x4i x5i h v h' hs hf => (by cases hf), fun x1j x3i x4i x5i h v h' hs hf => (by cases hf)⟩
  | succ n ih =>
    refine ⟨?_, ?_, ?_⟩
    · intro x1j x3i x4i x5i h v h' hs hf
      have hf : ((if (Int32.ofInt 8192) ≤ x3i then am_b2 (f_X9_beginAnew n h) fun r2 h3 => (am_b2 (f_X9_asState n (am_sI (am_sI (am_sI h3 51 12 (am_I h 51 12)) 51 50 (Int32.ofInt 0)) 51 51 (Int32.ofInt 0))) fun r5 h6 => (am_b2 (f_X9_meet n r5 (Int32.ofInt (-1)) (Int32.ofInt (-1)) h6) fun r8 h9 => (g_X9_meetAll n 1 x1j (am_I h 51 12) (Int32.ofInt 0) 0 h9))) else bif am_vp x3i 8192 then (g_X9_meetAll n 0 x1j (x3i + Int32.ofInt 1) 0 0 (am_sI h 84 (Int32.toNatClampNeg x3i) (Int32.ofInt 0))) else none)) = some (v, h') := hf
      by_cases c1 : (Int32.ofInt 8192) ≤ x3i
      · rw [if_pos c1] at hf
        obtain ⟨r2, h3, e4, hf⟩ := am_b2_ok hf
        have hs := s_X9_beginAnew n h hs e4
        obtain ⟨r5, h6, e7, hf⟩ := am_b2_ok hf
        have hs := s_X9_asState n (am_sI (am_sI (am_sI h3 51 12 (am_I h 51 12)) 51 50 (Int32.ofInt 0)) 51 51 (Int32.ofInt 0)) hs e7
        obtain ⟨r8, h9, e10, hf⟩ := am_b2_ok hf
        have hs := s_X9_meet n r5 (Int32.ofInt (-1)) (Int32.ofInt (-1)) h6 hs e10
        exact ih.2.1 x1j (am_I h 51 12) (Int32.ofInt 0) 0 h9 _ _ hs hf
      · rw [if_neg c1] at hf
        obtain ⟨b11, hf⟩ := am_bis hf
        exact ih.1 x1j (x3i + Int32.ofInt 1) 0 0 (am_sI h 84 (Int32.toNatClampNeg x3i) (Int32.ofInt 0)) _ _ hs hf
    · intro x1j x3i x4i x5i h v h' hs hf
      have hf : ((if (am_I h 51 50) ≤ x4i then am_b2 (f_X9_layState n x1j h) fun r2 h3 => (some ((), h3)) else (if (am_I h 51 51) = 0 then bif am_vp x4i 2001 then (am_b2 (f_X9_layState n (am_J h 80 (Int32.toNatClampNeg x4i)) h) fun r7 h8 => (am_b2 (f_X9_laySteps n h8) fun r10 h11 => (bif am_vp x4i 2002 then (g_X9_meetAll n 2 x1j x3i x4i (Int32.ofInt 0) (am_sI h11 85 (Int32.toNatClampNeg x4i) (am_I h11 51 56))) else none))) else none else am_b2 (f_X9_layState n x1j h) fun r14 h15 => (some ((), h15))))) = some (v, h') := hf
      by_cases c1 : (am_I h 51 50) ≤ x4i
      · rw [if_pos c1] at hf
        obtain ⟨r2, h3, e4, hf⟩ := am_b2_ok hf
        have hs := s_X9_layState n x1j h hs e4
        obtain ⟨rfl, rfl⟩ := am_i2 hf
        exact hs
      · rw [if_neg c1] at hf
        by_cases c5 : (am_I h 51 51) = 0
        · rw [if_pos c5] at hf
          obtain ⟨b6, hf⟩ := am_bis hf
          obtain ⟨r7, h8, e9, hf⟩ := am_b2_ok hf
          have hs := s_X9_layState n (am_J h 80 (Int32.toNatClampNeg x4i)) h hs e9
          obtain ⟨r10, h11, e12, hf⟩ := am_b2_ok hf
          have hs := s_X9_laySteps n h8 hs e12
          obtain ⟨b13, hf⟩ := am_bis hf
          exact ih.2.2 x1j x3i x4i (Int32.ofInt 0) (am_sI h11 85 (Int32.toNatClampNeg x4i) (am_I h11 51 56)) _ _ hs hf
        · rw [if_neg c5] at hf
          obtain ⟨r14, h15, e16, hf⟩ := am_b2_ok hf
          have hs := s_X9_layState n x1j h hs e16
          obtain ⟨rfl, rfl⟩ := am_i2 hf
          exact hs
    · intro x1j x3i x4i x5i h v h' hs hf
      have hf : (am_let (bif am_vp (x4i + (Int32.ofInt 1)) 2002 then (g_X9_meetAll n 1 x1j x3i (x4i + Int32.ofInt 1) 0 (am_sI h 85 (Int32.toNatClampNeg (x4i + (Int32.ofInt 1))) (am_I h 51 56))) else none) fun b1 => ((if (am_I h 51 44) ≤ x5i then b1 else (if (am_I h 51 51) = 0 then bif am_vp x4i 2001 then (am_b2 (f_X9_layState n (am_J h 80 (Int32.toNatClampNeg x4i)) h) fun r7 h8 => (bif am_vp x5i 96 then (am_b2 (f_X9_doStep n (am_I h8 79 (Int32.toNatClampNeg x5i)) h8) fun r11 h12 => (am_b2 (f_X9_asState n h12) fun r14 h15 => (am_b2 (f_X9_meet n r14 x4i (am_I h8 79 (Int32.toNatClampNeg x5i)) h15) fun r17 h18 => (bif am_vp (am_I h12 51 56) 180090 then (g_X9_meetAll n 2 x1j x3i x4i (x5i + Int32.ofInt 1) (am_sI (am_sI h18 86 (Int32.toNatClampNeg (am_I h12 51 56)) r17) 51 56 ((am_I (am_sI h18 86 (Int32.toNatClampNeg (am_I h12 51 56)) r17) 51 56) + (Int32.ofInt 1)))) else none)))) else none)) else none else b1)))) = some (v, h') := hf
      obtain ⟨b1, k2, hf⟩ := am_let_ok hf
      refine am_cut (P := (bif am_vp (x4i + (Int32.ofInt 1)) 2002 then (g_X9_meetAll n 1 x1j x3i (x4i + Int32.ofInt 1) 0 (am_sI h 85 (Int32.toNatClampNeg (x4i + (Int32.ofInt 1))) (am_I h 51 56))) else none) = some (v, h') → am_stat h') (fun B3 => ?_) ?_
      · skip
        by_cases c4 : (am_I h 51 44) ≤ x5i
        · rw [if_pos c4] at hf
          exact B3 (k2.symm.trans hf)
        · rw [if_neg c4] at hf
          by_cases c5 : (am_I h 51 51) = 0
          · rw [if_pos c5] at hf
            obtain ⟨b6, hf⟩ := am_bis hf
            obtain ⟨r7, h8, e9, hf⟩ := am_b2_ok hf
            have hs := s_X9_layState n (am_J h 80 (Int32.toNatClampNeg x4i)) h hs e9
            obtain ⟨b10, hf⟩ := am_bis hf
            obtain ⟨r11, h12, e13, hf⟩ := am_b2_ok hf
            have hs := s_X9_doStep n (am_I h8 79 (Int32.toNatClampNeg x5i)) h8 hs e13
            obtain ⟨r14, h15, e16, hf⟩ := am_b2_ok hf
            have hs := s_X9_asState n h12 hs e16
            obtain ⟨r17, h18, e19, hf⟩ := am_b2_ok hf
            have hs := s_X9_meet n r14 x4i (am_I h8 79 (Int32.toNatClampNeg x5i)) h15 hs e19
            obtain ⟨b20, hf⟩ := am_bis hf
            exact ih.2.2 x1j x3i x4i (x5i + Int32.ofInt 1) (am_sI (am_sI h18 86 (Int32.toNatClampNeg (am_I h12 51 56)) r17) 51 56 ((am_I (am_sI h18 86 (Int32.toNatClampNeg (am_I h12 51 56)) r17) 51 56) + (Int32.ofInt 1))) _ _ hs hf
          · rw [if_neg c5] at hf
            exact B3 (k2.symm.trans hf)
      intro hf
      obtain ⟨b21, hf⟩ := am_bis hf
      exact ih.2.1 x1j x3i (x4i + Int32.ofInt 1) 0 (am_sI h 85 (Int32.toNatClampNeg (x4i + (Int32.ofInt 1))) (am_I h 51 56)) _ _ hs hf
set_option maxRecDepth 100000 in
set_option maxHeartbeats 4000000 in
theorem l_X9_meetAll (n : Nat) : (∀ (x1j : Int64) (x3i : Int32) (x4i : Int32) (x5i : Int32) (h : am_H) (v : Unit) (h' : am_H), am_stat h → g_X9_meetAll n 0 x1j x3i x4i x5i h = some (v, h') → AW mX9_meetAll (rX9_meetAll 0 0) (fun r h2 => r = none ∧ h2 = h') 30 [(0, .ref 51), (1, .long x1j), (3, .int x3i)] [] h 0 0) ∧ (∀ (x1j : Int64) (x3i : Int32) (x4i : Int32) (x5i : Int32) (h : am_H) (v : Unit) (h' : am_H), am_stat h → g_X9_meetAll n 1 x1j x3i x4i x5i h = some (v, h') → AW mX9_meetAll (rX9_meetAll 0 0) (fun r h2 => r = none ∧ h2 = h') 88 [(0, .ref 51), (1, .long x1j), (3, .int x3i), (4, .int x4i)] [] h 0 0) ∧ (∀ (x1j : Int64) (x3i : Int32) (x4i : Int32) (x5i : Int32) (h : am_H) (v : Unit) (h' : am_H), am_stat h → g_X9_meetAll n 2 x1j x3i x4i x5i h = some (v, h') → AW mX9_meetAll (rX9_meetAll 0 0) (fun r h2 => r = none ∧ h2 = h') 133 [(0, .ref 51), (1, .long x1j), (3, .int x3i), (4, .int x4i), (5, .int x5i)] [] h 0 0) := by
  induction n with
  | zero => exact ⟨fun x1j x3i x4i x5i h v h' hs hf => (by cases hf), fun x1j x3i x4i x5i h v h' hs hf => (by cases hf), fun x1j x3i x4i x5i h v h' hs hf => (by cases hf)⟩
  | succ n ih =>
    refine ⟨?_, ?_, ?_⟩
    · intro x1j x3i x4i x5i h v h' hs hf
      have hf : ((if (Int32.ofInt 8192) ≤ x3i then am_b2 (f_X9_beginAnew n h) fun r2 h3 => (am_b2 (f_X9_asState n (am_sI (am_sI (am_sI h3 51 12 (am_I h 51 12)) 51 50 (Int32.ofInt 0)) 51 51 (Int32.ofInt 0))) fun r5 h6 => (am_b2 (f_X9_meet n r5 (Int32.ofInt (-1)) (Int32.ofInt (-1)) h6) fun r8 h9 => (g_X9_meetAll n 1 x1j (am_I h 51 12) (Int32.ofInt 0) 0 h9))) else bif am_vp x3i 8192 then (g_X9_meetAll n 0 x1j (x3i + Int32.ofInt 1) 0 0 (am_sI h 84 (Int32.toNatClampNeg x3i) (Int32.ofInt 0))) else none)) = some (v, h') := hf
      refine AW_go okX9_meetAll 3 ?_
      refine And.intro (fun c1 => ?_) (fun c1 => ?_)
      · rw [if_pos c1] at hf
        refine AW_go okX9_meetAll 4 ?_
        refine And.intro (sK hs 51) ?_
        obtain ⟨r2, h3, e4, hf⟩ := am_b2_ok hf
        refine AW_callV (As := []) (R' := rX9_beginAnew 0 0) (T := TX9) (N := 58) (ci := 9) (okX9_meetAll.1 56 _ _ rfl) lkX9_beginAnew kX9_264 rfl (sK hs 51) rfl (Nat.le_of_ble_eq_true rfl) ⟨by decide, by decide⟩ ⟨(Nat.le_of_ble_eq_true rfl), (Nat.le_of_ble_eq_true rfl)⟩ (Nat.le_of_ble_eq_true rfl) (c_X9_beginAnew n h hs e4) (fun r h' hq => ?_)
        obtain ⟨rfl, hq⟩ := hq
        replace hq := hq.symm
        subst hq
        have hs := s_X9_beginAnew n h hs e4
        refine AW_go okX9_meetAll 11 ?_
        refine And.intro (sK hs 51) ?_
        refine And.intro (sK hs 51) ?_
        refine And.intro (Or.inl rfl) (And.intro (sK hs 51) ?_)
        obtain ⟨r5, h6, e7, hf⟩ := am_b2_ok hf
        refine AW_callV (As := []) (R' := rX9_asState 0 0) (T := TX9) (N := 58) (ci := 9) (okX9_meetAll.1 76 _ _ rfl) lkX9_asState kX9_350 rfl (sK hs 51) rfl (Nat.le_of_ble_eq_true rfl) ⟨by decide, by decide⟩ ⟨(Nat.le_of_ble_eq_true rfl), (Nat.le_of_ble_eq_true rfl)⟩ (Nat.le_of_ble_eq_true rfl) (c_X9_asState n (am_sI (am_sI (am_sI h3 51 12 (am_I h 51 12)) 51 50 (Int32.ofInt 0)) 51 51 (Int32.ofInt 0)) hs e7) (fun r h' hq => ?_)
        obtain ⟨rfl, hq⟩ := hq
        replace hq := hq.symm
        subst hq
        have hs := s_X9_asState n (am_sI (am_sI (am_sI h3 51 12 (am_I h 51 12)) 51 50 (Int32.ofInt 0)) 51 51 (Int32.ofInt 0)) hs e7
        refine AW_go okX9_meetAll 2 ?_
        obtain ⟨r8, h9, e10, hf⟩ := am_b2_ok hf
        refine AW_callV (As := [.long r5, .int (Int32.ofInt (-1)), .int (Int32.ofInt (-1))]) (R' := rX9_meet 0 0) (T := TX9) (N := 58) (ci := 9) (okX9_meetAll.1 81 _ _ rfl) lkX9_meet kX9_360 rfl (sK hs 51) rfl (Nat.le_of_ble_eq_true rfl) ⟨by decide, by decide⟩ ⟨(Nat.le_of_ble_eq_true rfl), (Nat.le_of_ble_eq_true rfl)⟩ (Nat.le_of_ble_eq_true rfl) (c_X9_meet n r5 (Int32.ofInt (-1)) (Int32.ofInt (-1)) h6 hs e10) (fun r h' hq => ?_)
        obtain ⟨rfl, hq⟩ := hq
        replace hq := hq.symm
        subst hq
        have hs := s_X9_meet n r5 (Int32.ofInt (-1)) (Int32.ofInt (-1)) h6 hs e10
        refine AW_go okX9_meetAll 3 ?_
        refine AW_pick (lv' := [(0, .ref 51), (1, .long x1j), (3, .int (am_I h 51 12)), (4, .int (Int32.ofInt 0))]) [2, 3, 1, 0] rfl ?_
        exact ih.2.1 x1j (am_I h 51 12) (Int32.ofInt 0) 0 h9 _ _ hs hf
      · rw [if_neg c1] at hf
        obtain ⟨b11, hf⟩ := am_bis hf
        refine AW_go okX9_meetAll 7 ?_
        refine And.intro (sK hs 51) (Exists.intro _ (And.intro (sA hs 51 49) ?_))
        refine Exists.intro 8192 (And.intro (sK hs 84) (And.intro (am_vp_ok b11) ?_))
        refine AW_pick (lv' := [(0, .ref 51), (1, .long x1j), (3, .int (x3i + Int32.ofInt 1))]) [1, 2, 0] rfl ?_
        exact ih.1 x1j (x3i + Int32.ofInt 1) 0 0 (am_sI h 84 (Int32.toNatClampNeg x3i) (Int32.ofInt 0)) _ _ hs hf
    · intro x1j x3i x4i x5i h v h' hs hf
      have hf : ((if (am_I h 51 50) ≤ x4i then am_b2 (f_X9_layState n x1j h) fun r2 h3 => (some ((), h3)) else (if (am_I h 51 51) = 0 then bif am_vp x4i 2001 then (am_b2 (f_X9_layState n (am_J h 80 (Int32.toNatClampNeg x4i)) h) fun r10 h11 => (am_b2 (f_X9_laySteps n h11) fun r13 h14 => (bif am_vp x4i 2002 then (g_X9_meetAll n 2 x1j x3i x4i (Int32.ofInt 0) (am_sI h14 85 (Int32.toNatClampNeg x4i) (am_I h14 51 56))) else none))) else none else am_b2 (f_X9_layState n x1j h) fun r6 h7 => (some ((), h7))))) = some (v, h') := hf
      refine AW_go okX9_meetAll 4 ?_
      refine And.intro (sK hs 51) ?_
      refine And.intro (fun c1 => ?_) (fun c1 => ?_)
      · rw [if_pos c1] at hf
        refine AW_go okX9_meetAll 2 ?_
        obtain ⟨r2, h3, e4, hf⟩ := am_b2_ok hf
        refine AW_callV (As := [.long x1j]) (R' := rX9_layState 0 0) (T := TX9) (N := 58) (ci := 9) (okX9_meetAll.1 233 _ _ rfl) lkX9_layState kX9_364 rfl (sK hs 51) rfl (Nat.le_of_ble_eq_true rfl) ⟨by decide, by decide⟩ ⟨(Nat.le_of_ble_eq_true rfl), (Nat.le_of_ble_eq_true rfl)⟩ (Nat.le_of_ble_eq_true rfl) (c_X9_layState n x1j h hs e4) (fun r h' hq => ?_)
        obtain ⟨rfl, hq⟩ := hq
        replace hq := hq.symm
        subst hq
        have hs := s_X9_layState n x1j h hs e4
        refine AW_go okX9_meetAll 1 ?_
        obtain ⟨rfl, rfl⟩ := am_i2 hf
        exact And.intro ⟨(Nat.le_of_ble_eq_true rfl), (Nat.le_of_ble_eq_true rfl)⟩ (And.intro rfl ⟨rfl, rfl⟩)
      · rw [if_neg c1] at hf
        refine AW_go okX9_meetAll 3 ?_
        refine And.intro (sK hs 51) ?_
        refine And.intro (fun c5 => ?_) (fun c5 => ?_)
        · rw [if_neg c5] at hf
          refine AW_go okX9_meetAll 2 ?_
          obtain ⟨r6, h7, e8, hf⟩ := am_b2_ok hf
          refine AW_callV (As := [.long x1j]) (R' := rX9_layState 0 0) (T := TX9) (N := 58) (ci := 9) (okX9_meetAll.1 233 _ _ rfl) lkX9_layState kX9_364 rfl (sK hs 51) rfl (Nat.le_of_ble_eq_true rfl) ⟨by decide, by decide⟩ ⟨(Nat.le_of_ble_eq_true rfl), (Nat.le_of_ble_eq_true rfl)⟩ (Nat.le_of_ble_eq_true rfl) (c_X9_layState n x1j h hs e8) (fun r h' hq => ?_)
          obtain ⟨rfl, hq⟩ := hq
          replace hq := hq.symm
          subst hq
          have hs := s_X9_layState n x1j h hs e8
          refine AW_go okX9_meetAll 1 ?_
          obtain ⟨rfl, rfl⟩ := am_i2 hf
          exact And.intro ⟨(Nat.le_of_ble_eq_true rfl), (Nat.le_of_ble_eq_true rfl)⟩ (And.intro rfl ⟨rfl, rfl⟩)
        · rw [if_pos c5] at hf
          obtain ⟨b9, hf⟩ := am_bis hf
          refine AW_go okX9_meetAll 5 ?_
          refine And.intro (sK hs 51) (Exists.intro _ (And.intro (sA hs 51 45) ?_))
          refine Exists.intro 2001 (And.intro (sK hs 80) (And.intro (am_vp_ok b9) ?_))
          obtain ⟨r10, h11, e12, hf⟩ := am_b2_ok hf
          refine AW_callV (As := [.long (am_J h 80 (Int32.toNatClampNeg x4i))]) (R' := rX9_layState 0 0) (T := TX9) (N := 58) (ci := 9) (okX9_meetAll.1 112 _ _ rfl) lkX9_layState kX9_364 rfl (sK hs 51) rfl (Nat.le_of_ble_eq_true rfl) ⟨by decide, by decide⟩ ⟨(Nat.le_of_ble_eq_true rfl), (Nat.le_of_ble_eq_true rfl)⟩ (Nat.le_of_ble_eq_true rfl) (c_X9_layState n (am_J h 80 (Int32.toNatClampNeg x4i)) h hs e12) (fun r h' hq => ?_)
          obtain ⟨rfl, hq⟩ := hq
          replace hq := hq.symm
          subst hq
          have hs := s_X9_layState n (am_J h 80 (Int32.toNatClampNeg x4i)) h hs e12
          refine AW_go okX9_meetAll 1 ?_
          obtain ⟨r13, h14, e15, hf⟩ := am_b2_ok hf
          refine AW_callV (As := []) (R' := rX9_laySteps 0 0) (T := TX9) (N := 58) (ci := 9) (okX9_meetAll.1 116 _ _ rfl) lkX9_laySteps kX9_306 rfl (sK hs 51) rfl (Nat.le_of_ble_eq_true rfl) ⟨by decide, by decide⟩ ⟨(Nat.le_of_ble_eq_true rfl), (Nat.le_of_ble_eq_true rfl)⟩ (Nat.le_of_ble_eq_true rfl) (c_X9_laySteps n h11 hs e15) (fun r h' hq => ?_)
          obtain ⟨rfl, hq⟩ := hq
          replace hq := hq.symm
          subst hq
          have hs := s_X9_laySteps n h11 hs e15
          obtain ⟨b16, hf⟩ := am_bis hf
          refine AW_go okX9_meetAll 8 ?_
          refine And.intro (sK hs 51) (Exists.intro _ (And.intro (sA hs 51 54) ?_))
          refine And.intro (sK hs 51) ?_
          refine Exists.intro 2002 (And.intro (sK hs 85) (And.intro (am_vp_ok b16) ?_))
          refine AW_pick (lv' := [(0, .ref 51), (1, .long x1j), (3, .int x3i), (4, .int x4i), (5, .int (Int32.ofInt 0))]) [1, 2, 3, 4, 0] rfl ?_
          exact ih.2.2 x1j x3i x4i (Int32.ofInt 0) (am_sI h14 85 (Int32.toNatClampNeg x4i) (am_I h14 51 56)) _ _ hs hf
    · intro x1j x3i x4i x5i h v h' hs hf
      have hf : (am_let (bif am_vp (x4i + (Int32.ofInt 1)) 2002 then (g_X9_meetAll n 1 x1j x3i (x4i + Int32.ofInt 1) 0 (am_sI h 85 (Int32.toNatClampNeg (x4i + (Int32.ofInt 1))) (am_I h 51 56))) else none) fun b1 => ((if (am_I h 51 44) ≤ x5i then b1 else (if (am_I h 51 51) = 0 then bif am_vp x4i 2001 then (am_b2 (f_X9_layState n (am_J h 80 (Int32.toNatClampNeg x4i)) h) fun r7 h8 => (bif am_vp x5i 96 then (am_b2 (f_X9_doStep n (am_I h8 79 (Int32.toNatClampNeg x5i)) h8) fun r11 h12 => (am_b2 (f_X9_asState n h12) fun r14 h15 => (am_b2 (f_X9_meet n r14 x4i (am_I h8 79 (Int32.toNatClampNeg x5i)) h15) fun r17 h18 => (bif am_vp (am_I h12 51 56) 180090 then (g_X9_meetAll n 2 x1j x3i x4i (x5i + Int32.ofInt 1) (am_sI (am_sI h18 86 (Int32.toNatClampNeg (am_I h12 51 56)) r17) 51 56 ((am_I (am_sI h18 86 (Int32.toNatClampNeg (am_I h12 51 56)) r17) 51 56) + (Int32.ofInt 1)))) else none)))) else none)) else none else b1)))) = some (v, h') := hf
      refine AW_go okX9_meetAll 3 ?_
      refine And.intro (sK hs 51) ?_
      obtain ⟨b1, k2, hf⟩ := am_let_ok hf
      refine am_cut (P := (bif am_vp (x4i + (Int32.ofInt 1)) 2002 then (g_X9_meetAll n 1 x1j x3i (x4i + Int32.ofInt 1) 0 (am_sI h 85 (Int32.toNatClampNeg (x4i + (Int32.ofInt 1))) (am_I h 51 56))) else none) = some (v, h') → AW mX9_meetAll (rX9_meetAll 0 0) (fun r h2 => r = none ∧ h2 = h') 212 [(0, .ref 51), (1, .long x1j), (3, .int x3i), (4, .int x4i), (5, .int x5i)] [] h 0 0) (fun B3 => ?_) ?_
      · skip
        refine AW_go okX9_meetAll 1 ?_
        refine And.intro (fun c4 => ?_) (fun c4 => ?_)
        · rw [if_pos c4] at hf
          exact B3 (k2.symm.trans hf)
        · rw [if_neg c4] at hf
          refine AW_go okX9_meetAll 3 ?_
          refine And.intro (sK hs 51) ?_
          refine And.intro (fun c5 => ?_) (fun c5 => ?_)
          · rw [if_neg c5] at hf
            exact B3 (k2.symm.trans hf)
          · rw [if_pos c5] at hf
            obtain ⟨b6, hf⟩ := am_bis hf
            refine AW_go okX9_meetAll 5 ?_
            refine And.intro (sK hs 51) (Exists.intro _ (And.intro (sA hs 51 45) ?_))
            refine Exists.intro 2001 (And.intro (sK hs 80) (And.intro (am_vp_ok b6) ?_))
            obtain ⟨r7, h8, e9, hf⟩ := am_b2_ok hf
            refine AW_callV (As := [.long (am_J h 80 (Int32.toNatClampNeg x4i))]) (R' := rX9_layState 0 0) (T := TX9) (N := 58) (ci := 9) (okX9_meetAll.1 157 _ _ rfl) lkX9_layState kX9_364 rfl (sK hs 51) rfl (Nat.le_of_ble_eq_true rfl) ⟨by decide, by decide⟩ ⟨(Nat.le_of_ble_eq_true rfl), (Nat.le_of_ble_eq_true rfl)⟩ (Nat.le_of_ble_eq_true rfl) (c_X9_layState n (am_J h 80 (Int32.toNatClampNeg x4i)) h hs e9) (fun r h' hq => ?_)
            obtain ⟨rfl, hq⟩ := hq
            replace hq := hq.symm
            subst hq
            have hs := s_X9_layState n (am_J h 80 (Int32.toNatClampNeg x4i)) h hs e9
            obtain ⟨b10, hf⟩ := am_bis hf
            refine AW_go okX9_meetAll 7 ?_
            refine And.intro (sK hs 51) (Exists.intro _ (And.intro (sA hs 51 43) ?_))
            refine Exists.intro 96 (And.intro (sK hs 79) (And.intro (am_vp_ok b10) ?_))
            obtain ⟨r11, h12, e13, hf⟩ := am_b2_ok hf
            refine AW_callV (As := [.int (am_I h8 79 (Int32.toNatClampNeg x5i))]) (R' := rX9_doStep 0 0) (T := TX9) (N := 58) (ci := 9) (okX9_meetAll.1 172 _ _ rfl) lkX9_doStep kX9_309 rfl (sK hs 51) rfl (Nat.le_of_ble_eq_true rfl) ⟨by decide, by decide⟩ ⟨(Nat.le_of_ble_eq_true rfl), (Nat.le_of_ble_eq_true rfl)⟩ (Nat.le_of_ble_eq_true rfl) (c_X9_doStep n (am_I h8 79 (Int32.toNatClampNeg x5i)) h8 hs e13) (fun r h' hq => ?_)
            obtain ⟨rfl, hq⟩ := hq
            replace hq := hq.symm
            subst hq
            have hs := s_X9_doStep n (am_I h8 79 (Int32.toNatClampNeg x5i)) h8 hs e13
            refine AW_go okX9_meetAll 6 ?_
            refine And.intro (sK hs 51) (Exists.intro _ (And.intro (sA hs 51 55) ?_))
            refine And.intro (sK hs 51) ?_
            obtain ⟨r14, h15, e16, hf⟩ := am_b2_ok hf
            refine AW_callV (As := []) (R' := rX9_asState 0 0) (T := TX9) (N := 58) (ci := 9) (okX9_meetAll.1 185 _ _ rfl) lkX9_asState kX9_350 rfl (sK hs 51) rfl (Nat.le_of_ble_eq_true rfl) ⟨by decide, by decide⟩ ⟨(Nat.le_of_ble_eq_true rfl), (Nat.le_of_ble_eq_true rfl)⟩ (Nat.le_of_ble_eq_true rfl) (c_X9_asState n h12 hs e16) (fun r h' hq => ?_)
            obtain ⟨rfl, hq⟩ := hq
            replace hq := hq.symm
            subst hq
            have hs := s_X9_asState n h12 hs e16
            refine AW_go okX9_meetAll 2 ?_
            obtain ⟨r17, h18, e19, hf⟩ := am_b2_ok hf
            refine AW_callV (As := [.long r14, .int x4i, .int (am_I h8 79 (Int32.toNatClampNeg x5i))]) (R' := rX9_meet 0 0) (T := TX9) (N := 58) (ci := 9) (okX9_meetAll.1 192 _ _ rfl) lkX9_meet kX9_360 rfl (sK hs 51) rfl (Nat.le_of_ble_eq_true rfl) ⟨by decide, by decide⟩ ⟨(Nat.le_of_ble_eq_true rfl), (Nat.le_of_ble_eq_true rfl)⟩ (Nat.le_of_ble_eq_true rfl) (c_X9_meet n r14 x4i (am_I h8 79 (Int32.toNatClampNeg x5i)) h15 hs e19) (fun r h' hq => ?_)
            obtain ⟨rfl, hq⟩ := hq
            replace hq := hq.symm
            subst hq
            have hs := s_X9_meet n r14 x4i (am_I h8 79 (Int32.toNatClampNeg x5i)) h15 hs e19
            obtain ⟨b20, hf⟩ := am_bis hf
            refine AW_go okX9_meetAll 9 ?_
            refine Exists.intro 180090 (And.intro (sK hs 86) (And.intro (am_vp_ok b20) ?_))
            refine And.intro (sK hs 51) ?_
            refine And.intro (sK hs 51) ?_
            refine AW_pick (lv' := [(0, .ref 51), (1, .long x1j), (3, .int x3i), (4, .int x4i), (5, .int (x5i + Int32.ofInt 1))]) [2, 3, 4, 5, 0] rfl ?_
            exact ih.2.2 x1j x3i x4i (x5i + Int32.ofInt 1) (am_sI (am_sI h18 86 (Int32.toNatClampNeg (am_I h12 51 56)) r17) 51 56 ((am_I (am_sI h18 86 (Int32.toNatClampNeg (am_I h12 51 56)) r17) 51 56) + (Int32.ofInt 1))) _ _ hs hf
      intro hf
      obtain ⟨b21, hf⟩ := am_bis hf
      refine AW_go okX9_meetAll 10 ?_
      refine And.intro (sK hs 51) (Exists.intro _ (And.intro (sA hs 51 54) ?_))
      refine And.intro (sK hs 51) ?_
      refine Exists.intro 2002 (And.intro (sK hs 85) (And.intro (am_vp_ok b21) ?_))
      refine AW_pick (lv' := [(0, .ref 51), (1, .long x1j), (3, .int x3i), (4, .int (x4i + Int32.ofInt 1))]) [1, 2, 3, 0] rfl ?_
      exact ih.2.1 x1j x3i (x4i + Int32.ofInt 1) 0 (am_sI h 85 (Int32.toNatClampNeg (x4i + (Int32.ofInt 1))) (am_I h 51 56)) _ _ hs hf
def f_X9_meetAll (n : Nat) (h : am_H) : Option (Unit × am_H) := (if (am_I h 51 52) = 0 then am_b2 (f_X9_asState n (am_sI (am_sI (am_sI h 51 52 (Int32.ofInt 1)) 51 53 (Int32.ofInt 0)) 51 56 (Int32.ofInt 0))) fun r2 h3 => (g_X9_meetAll n 0 r2 (Int32.ofInt 0) 0 0 h3) else some ((), h))
set_option maxRecDepth 100000 in
theorem s_X9_meetAll (n : Nat) (h : am_H) (hs : am_stat h) {v : Unit} {h' : am_H} (hf : f_X9_meetAll n h = some (v, h')) : am_stat h' := by
  unfold f_X9_meetAll at hf
  by_cases c1 : (am_I h 51 52) = 0
  · rw [if_pos c1] at hf
    obtain ⟨r2, h3, e4, hf⟩ := am_b2_ok hf
    have hs := s_X9_asState n (am_sI (am_sI (am_sI h 51 52 (Int32.ofInt 1)) 51 53 (Int32.ofInt 0)) 51 56 (Int32.ofInt 0)) hs e4
    exact (m_X9_meetAll n).1 r2 (Int32.ofInt 0) 0 0 h3 _ _ hs hf
  · rw [if_neg c1] at hf
    obtain ⟨rfl, rfl⟩ := am_i2 hf
    exact hs
set_option maxRecDepth 100000 in
theorem c_X9_meetAll (n : Nat) (h : am_H) (hs : am_stat h) {v : Unit} {h' : am_H} (hf : f_X9_meetAll n h = some (v, h')) : AMet mX9_meetAll (rX9_meetAll 0 0) (fun r h2 => r = none ∧ h2 = h') [.ref 51] h := by
  unfold f_X9_meetAll at hf
  refine AW_go okX9_meetAll 3 ?_
  refine And.intro (sK hs 51) ?_
  refine And.intro (fun c1 => ?_) (fun c1 => ?_)
  · rw [if_pos c1] at hf
    refine AW_go okX9_meetAll 10 ?_
    refine And.intro (Or.inr rfl) (And.intro (sK hs 51) ?_)
    refine And.intro (Or.inl rfl) (And.intro (sK hs 51) ?_)
    refine And.intro (sK hs 51) ?_
    obtain ⟨r2, h3, e4, hf⟩ := am_b2_ok hf
    refine AW_callV (As := []) (R' := rX9_asState 0 0) (T := TX9) (N := 58) (ci := 9) (okX9_meetAll.1 24 _ _ rfl) lkX9_asState kX9_350 rfl (sK hs 51) rfl (Nat.le_of_ble_eq_true rfl) ⟨by decide, by decide⟩ ⟨(Nat.le_of_ble_eq_true rfl), (Nat.le_of_ble_eq_true rfl)⟩ (Nat.le_of_ble_eq_true rfl) (c_X9_asState n (am_sI (am_sI (am_sI h 51 52 (Int32.ofInt 1)) 51 53 (Int32.ofInt 0)) 51 56 (Int32.ofInt 0)) hs e4) (fun r h' hq => ?_)
    obtain ⟨rfl, hq⟩ := hq
    replace hq := hq.symm
    subst hq
    have hs := s_X9_asState n (am_sI (am_sI (am_sI h 51 52 (Int32.ofInt 1)) 51 53 (Int32.ofInt 0)) 51 56 (Int32.ofInt 0)) hs e4
    refine AW_go okX9_meetAll 3 ?_
    refine AW_pick (lv' := [(0, .ref 51), (1, .long r2), (3, .int (Int32.ofInt 0))]) [2, 1, 0] rfl ?_
    exact (l_X9_meetAll n).1 r2 (Int32.ofInt 0) 0 0 h3 _ _ hs hf
  · rw [if_neg c1] at hf
    refine AW_go okX9_meetAll 1 ?_
    obtain ⟨rfl, rfl⟩ := am_i2 hf
    exact And.intro ⟨(Nat.le_of_ble_eq_true rfl), (Nat.le_of_ble_eq_true rfl)⟩ (And.intro rfl ⟨rfl, rfl⟩)
def g_X9_layFine : Nat → Nat → Int64 → Int32 → Int32 → am_H → Option (Unit × am_H)
  | 0, _, _, _, _, _ => none
  | n + 1, tag, x1j, x3i, x4i, h => bif Nat.beq tag 0 then ((if (am_I h 51 50) ≤ x3i then g_X9_layFine n 1 x1j (Int32.ofInt 1) 0 h else bif am_vp x3i 2001 then (am_b2 (f_X9_layState n (am_J h 80 (Int32.toNatClampNeg x3i)) h) fun r3 h4 => (am_b2 (f_X9_isSo n (Int32.ofInt 4) h4) fun r6 h7 => (g_X9_layFine n 0 x1j (x3i + Int32.ofInt 1) 0 (am_sI h7 83 (Int32.toNatClampNeg x3i) (vp_nar (am_at 2) r6))))) else none)) else (bif Nat.beq tag 1 then ((if x3i = 0 then am_b2 (f_X9_layState n x1j h) fun r2 h3 => (some ((), h3)) else g_X9_layFine n 2 x1j (Int32.ofInt 0) ((am_I h 51 50) - (Int32.ofInt 1)) h)) else ((if x4i < 0 then g_X9_layFine n 1 x1j x3i 0 h else bif am_vp x4i 2001 then (am_b2 ((if (am_I h 83 (Int32.toNatClampNeg x4i)) = 0 then am_b2 (f_X9_leadsToFine n x4i h) fun r7 h8 => ((if r7 = 0 then some (x3i, h8) else some ((Int32.ofInt 1), (am_sI h8 83 (Int32.toNatClampNeg x4i) (vp_nar (am_at 2) (Int32.ofInt 1)))))) else some (x3i, h))) fun y3 h4 => (g_X9_layFine n 2 x1j y3 (x4i + Int32.ofInt (-1)) h4)) else none)))
set_option maxRecDepth 100000 in
set_option maxHeartbeats 4000000 in
theorem m_X9_layFine (n : Nat) : (∀ (x1j : Int64) (x3i : Int32) (x4i : Int32) (h : am_H) (v : Unit) (h' : am_H), am_stat h → g_X9_layFine n 0 x1j x3i x4i h = some (v, h') → am_stat h') ∧ (∀ (x1j : Int64) (x3i : Int32) (x4i : Int32) (h : am_H) (v : Unit) (h' : am_H), am_stat h → g_X9_layFine n 1 x1j x3i x4i h = some (v, h') → am_stat h') ∧ (∀ (x1j : Int64) (x3i : Int32) (x4i : Int32) (h : am_H) (v : Unit) (h' : am_H), am_stat h → g_X9_layFine n 2 x1j x3i x4i h = some (v, h') → am_stat h') := by
  induction n with
  | zero => exact ⟨fun x1j x3i x4i h v h' hs hf => (by cases hf), fun x1j x3i x4i h v h' hs hf => (by cases hf), fun x1j x3i x4i h v h' hs hf => (by cases hf)⟩
  | succ n ih =>
    refine ⟨?_, ?_, ?_⟩
    · intro x1j x3i x4i h v h' hs hf
      have hf : ((if (am_I h 51 50) ≤ x3i then g_X9_layFine n 1 x1j (Int32.ofInt 1) 0 h else bif am_vp x3i 2001 then (am_b2 (f_X9_layState n (am_J h 80 (Int32.toNatClampNeg x3i)) h) fun r3 h4 => (am_b2 (f_X9_isSo n (Int32.ofInt 4) h4) fun r6 h7 => (g_X9_layFine n 0 x1j (x3i + Int32.ofInt 1) 0 (am_sI h7 83 (Int32.toNatClampNeg x3i) (vp_nar (am_at 2) r6))))) else none)) = some (v, h') := hf
      by_cases c1 : (am_I h 51 50) ≤ x3i
      · rw [if_pos c1] at hf
        exact ih.2.1 x1j (Int32.ofInt 1) 0 h _ _ hs hf
      · rw [if_neg c1] at hf
        obtain ⟨b2, hf⟩ := am_bis hf
        obtain ⟨r3, h4, e5, hf⟩ := am_b2_ok hf
        have hs := s_X9_layState n (am_J h 80 (Int32.toNatClampNeg x3i)) h hs e5
        obtain ⟨r6, h7, e8, hf⟩ := am_b2_ok hf
        have hs := s_X9_isSo n (Int32.ofInt 4) h4 hs e8
        exact ih.1 x1j (x3i + Int32.ofInt 1) 0 (am_sI h7 83 (Int32.toNatClampNeg x3i) (vp_nar (am_at 2) r6)) _ _ hs hf
    · intro x1j x3i x4i h v h' hs hf
      have hf : ((if x3i = 0 then am_b2 (f_X9_layState n x1j h) fun r2 h3 => (some ((), h3)) else g_X9_layFine n 2 x1j (Int32.ofInt 0) ((am_I h 51 50) - (Int32.ofInt 1)) h)) = some (v, h') := hf
      by_cases c1 : x3i = 0
      · rw [if_pos c1] at hf
        obtain ⟨r2, h3, e4, hf⟩ := am_b2_ok hf
        have hs := s_X9_layState n x1j h hs e4
        obtain ⟨rfl, rfl⟩ := am_i2 hf
        exact hs
      · rw [if_neg c1] at hf
        exact ih.2.2 x1j (Int32.ofInt 0) ((am_I h 51 50) - (Int32.ofInt 1)) h _ _ hs hf
    · intro x1j x3i x4i h v h' hs hf
      have hf : ((if x4i < 0 then g_X9_layFine n 1 x1j x3i 0 h else bif am_vp x4i 2001 then (am_b2 ((if (am_I h 83 (Int32.toNatClampNeg x4i)) = 0 then am_b2 (f_X9_leadsToFine n x4i h) fun r7 h8 => ((if r7 = 0 then some (x3i, h8) else some ((Int32.ofInt 1), (am_sI h8 83 (Int32.toNatClampNeg x4i) (vp_nar (am_at 2) (Int32.ofInt 1)))))) else some (x3i, h))) fun y3 h4 => (g_X9_layFine n 2 x1j y3 (x4i + Int32.ofInt (-1)) h4)) else none)) = some (v, h') := hf
      by_cases c1 : x4i < 0
      · rw [if_pos c1] at hf
        exact ih.2.1 x1j x3i 0 h _ _ hs hf
      · rw [if_neg c1] at hf
        obtain ⟨b2, hf⟩ := am_bis hf
        obtain ⟨y3, h4, j5, hf⟩ := am_b2_ok hf
        have hs0 := hs
        have hs : am_stat h4 := by
          have hs := hs0
          by_cases c6 : (am_I h 83 (Int32.toNatClampNeg x4i)) = 0
          · rw [if_pos c6] at j5
            obtain ⟨r7, h8, e9, j5⟩ := am_b2_ok j5
            have hs := s_X9_leadsToFine n x4i h hs e9
            by_cases c10 : r7 = 0
            · rw [if_pos c10] at j5
              obtain ⟨rfl, rfl⟩ := am_i2 j5
              exact hs
            · rw [if_neg c10] at j5
              obtain ⟨rfl, rfl⟩ := am_i2 j5
              exact hs
          · rw [if_neg c6] at j5
            obtain ⟨rfl, rfl⟩ := am_i2 j5
            exact hs
        exact ih.2.2 x1j y3 (x4i + Int32.ofInt (-1)) h4 _ _ hs hf
set_option maxRecDepth 100000 in
set_option maxHeartbeats 4000000 in
theorem l_X9_layFine (n : Nat) : (∀ (x1j : Int64) (x3i : Int32) (x4i : Int32) (h : am_H) (v : Unit) (h' : am_H), am_stat h → g_X9_layFine n 0 x1j x3i x4i h = some (v, h') → AW mX9_layFine (rX9_layFine 0 0) (fun r h2 => r = none ∧ h2 = h') 20 [(0, .ref 51), (1, .long x1j), (3, .int x3i)] [] h 0 0) ∧ (∀ (x1j : Int64) (x3i : Int32) (x4i : Int32) (h : am_H) (v : Unit) (h' : am_H), am_stat h → g_X9_layFine n 1 x1j x3i x4i h = some (v, h') → AW mX9_layFine (rX9_layFine 0 0) (fun r h2 => r = none ∧ h2 = h') 57 [(0, .ref 51), (1, .long x1j), (3, .int x3i)] [] h 0 0) ∧ (∀ (x1j : Int64) (x3i : Int32) (x4i : Int32) (h : am_H) (v : Unit) (h' : am_H), am_stat h → g_X9_layFine n 2 x1j x3i x4i h = some (v, h') → AW mX9_layFine (rX9_layFine 0 0) (fun r h2 => r = none ∧ h2 = h') 71 [(0, .ref 51), (1, .long x1j), (3, .int x3i), (4, .int x4i)] [] h 0 0) := by
  induction n with
  | zero => exact ⟨fun x1j x3i x4i h v h' hs hf => (by cases hf), fun x1j x3i x4i h v h' hs hf => (by cases hf), fun x1j x3i x4i h v h' hs hf => (by cases hf)⟩
  | succ n ih =>
    refine ⟨?_, ?_, ?_⟩
    · intro x1j x3i x4i h v h' hs hf
      have hf : ((if (am_I h 51 50) ≤ x3i then g_X9_layFine n 1 x1j (Int32.ofInt 1) 0 h else bif am_vp x3i 2001 then (am_b2 (f_X9_layState n (am_J h 80 (Int32.toNatClampNeg x3i)) h) fun r3 h4 => (am_b2 (f_X9_isSo n (Int32.ofInt 4) h4) fun r6 h7 => (g_X9_layFine n 0 x1j (x3i + Int32.ofInt 1) 0 (am_sI h7 83 (Int32.toNatClampNeg x3i) (vp_nar (am_at 2) r6))))) else none)) = some (v, h') := hf
      refine AW_go okX9_layFine 4 ?_
      refine And.intro (sK hs 51) ?_
      refine And.intro (fun c1 => ?_) (fun c1 => ?_)
      · rw [if_pos c1] at hf
        refine AW_go okX9_layFine 2 ?_
        refine AW_pick (lv' := [(0, .ref 51), (1, .long x1j), (3, .int (Int32.ofInt 1))]) [1, 2, 0] rfl ?_
        exact ih.2.1 x1j (Int32.ofInt 1) 0 h _ _ hs hf
      · rw [if_neg c1] at hf
        obtain ⟨b2, hf⟩ := am_bis hf
        refine AW_go okX9_layFine 5 ?_
        refine And.intro (sK hs 51) (Exists.intro _ (And.intro (sA hs 51 45) ?_))
        refine Exists.intro 2001 (And.intro (sK hs 80) (And.intro (am_vp_ok b2) ?_))
        obtain ⟨r3, h4, e5, hf⟩ := am_b2_ok hf
        refine AW_callV (As := [.long (am_J h 80 (Int32.toNatClampNeg x3i))]) (R' := rX9_layState 0 0) (T := TX9) (N := 58) (ci := 9) (okX9_layFine.1 35 _ _ rfl) lkX9_layState kX9_364 rfl (sK hs 51) rfl (Nat.le_of_ble_eq_true rfl) ⟨by decide, by decide⟩ ⟨(Nat.le_of_ble_eq_true rfl), (Nat.le_of_ble_eq_true rfl)⟩ (Nat.le_of_ble_eq_true rfl) (c_X9_layState n (am_J h 80 (Int32.toNatClampNeg x3i)) h hs e5) (fun r h' hq => ?_)
        obtain ⟨rfl, hq⟩ := hq
        replace hq := hq.symm
        subst hq
        have hs := s_X9_layState n (am_J h 80 (Int32.toNatClampNeg x3i)) h hs e5
        refine AW_go okX9_layFine 5 ?_
        refine And.intro (sK hs 51) (Exists.intro _ (And.intro (sA hs 51 48) ?_))
        obtain ⟨r6, h7, e8, hf⟩ := am_b2_ok hf
        refine AW_callV (As := [.int (Int32.ofInt 4)]) (R' := rX9_isSo 0 0) (T := TX9) (N := 58) (ci := 9) (okX9_layFine.1 45 _ _ rfl) lkX9_isSo kX9_372 rfl (sK hs 51) rfl (Nat.le_of_ble_eq_true rfl) ⟨by decide, by decide⟩ ⟨(Nat.le_of_ble_eq_true rfl), (Nat.le_of_ble_eq_true rfl)⟩ (Nat.le_of_ble_eq_true rfl) (c_X9_isSo n (Int32.ofInt 4) h4 hs e8) (fun r h' hq => ?_)
        obtain ⟨rfl, hq⟩ := hq
        replace hq := hq.symm
        subst hq
        have hs := s_X9_isSo n (Int32.ofInt 4) h4 hs e8
        refine AW_go okX9_layFine 3 ?_
        refine Exists.intro 2 (Exists.intro 2001 (And.intro (by decide) (And.intro (sK hs 83) (And.intro (am_vp_ok b2) ?_))))
        refine AW_pick (lv' := [(0, .ref 51), (1, .long x1j), (3, .int (x3i + Int32.ofInt 1))]) [1, 2, 0] rfl ?_
        exact ih.1 x1j (x3i + Int32.ofInt 1) 0 (am_sI h7 83 (Int32.toNatClampNeg x3i) (vp_nar (am_at 2) r6)) _ _ hs hf
    · intro x1j x3i x4i h v h' hs hf
      have hf : ((if x3i = 0 then am_b2 (f_X9_layState n x1j h) fun r2 h3 => (some ((), h3)) else g_X9_layFine n 2 x1j (Int32.ofInt 0) ((am_I h 51 50) - (Int32.ofInt 1)) h)) = some (v, h') := hf
      refine AW_go okX9_layFine 2 ?_
      refine And.intro (fun c1 => ?_) (fun c1 => ?_)
      · rw [if_pos c1] at hf
        refine AW_go okX9_layFine 2 ?_
        obtain ⟨r2, h3, e4, hf⟩ := am_b2_ok hf
        refine AW_callV (As := [.long x1j]) (R' := rX9_layState 0 0) (T := TX9) (N := 58) (ci := 9) (okX9_layFine.1 116 _ _ rfl) lkX9_layState kX9_364 rfl (sK hs 51) rfl (Nat.le_of_ble_eq_true rfl) ⟨by decide, by decide⟩ ⟨(Nat.le_of_ble_eq_true rfl), (Nat.le_of_ble_eq_true rfl)⟩ (Nat.le_of_ble_eq_true rfl) (c_X9_layState n x1j h hs e4) (fun r h' hq => ?_)
        obtain ⟨rfl, hq⟩ := hq
        replace hq := hq.symm
        subst hq
        have hs := s_X9_layState n x1j h hs e4
        refine AW_go okX9_layFine 1 ?_
        obtain ⟨rfl, rfl⟩ := am_i2 hf
        exact And.intro ⟨(Nat.le_of_ble_eq_true rfl), (Nat.le_of_ble_eq_true rfl)⟩ (And.intro rfl ⟨rfl, rfl⟩)
      · rw [if_neg c1] at hf
        refine AW_go okX9_layFine 7 ?_
        refine And.intro (sK hs 51) ?_
        refine AW_pick (lv' := [(0, .ref 51), (1, .long x1j), (3, .int (Int32.ofInt 0)), (4, .int ((am_I h 51 50) - (Int32.ofInt 1)))]) [2, 3, 1, 0] rfl ?_
        exact ih.2.2 x1j (Int32.ofInt 0) ((am_I h 51 50) - (Int32.ofInt 1)) h _ _ hs hf
    · intro x1j x3i x4i h v h' hs hf
      have hf : ((if x4i < 0 then g_X9_layFine n 1 x1j x3i 0 h else bif am_vp x4i 2001 then (am_b2 ((if (am_I h 83 (Int32.toNatClampNeg x4i)) = 0 then am_b2 (f_X9_leadsToFine n x4i h) fun r7 h8 => ((if r7 = 0 then some (x3i, h8) else some ((Int32.ofInt 1), (am_sI h8 83 (Int32.toNatClampNeg x4i) (vp_nar (am_at 2) (Int32.ofInt 1)))))) else some (x3i, h))) fun y3 h4 => (g_X9_layFine n 2 x1j y3 (x4i + Int32.ofInt (-1)) h4)) else none)) = some (v, h') := hf
      refine AW_go okX9_layFine 2 ?_
      refine And.intro (fun c1 => ?_) (fun c1 => ?_)
      · rw [if_pos c1] at hf
        refine AW_go okX9_layFine 1 ?_
        refine AW_pick (lv' := [(0, .ref 51), (1, .long x1j), (3, .int x3i)]) [0, 1, 2] rfl ?_
        exact ih.2.1 x1j x3i 0 h _ _ hs hf
      · rw [if_neg c1] at hf
        obtain ⟨b2, hf⟩ := am_bis hf
        refine AW_go okX9_layFine 4 ?_
        refine And.intro (sK hs 51) (Exists.intro _ (And.intro (sA hs 51 48) ?_))
        refine Exists.intro 2 (Exists.intro 2001 (And.intro (by decide) (And.intro (sK hs 83) (And.intro (am_vp_ok b2) ?_))))
        obtain ⟨y3, h4, j5, hf⟩ := am_b2_ok hf
        have hs0 := hs
        have hs : am_stat h4 := by
          have hs := hs0
          by_cases c6 : (am_I h 83 (Int32.toNatClampNeg x4i)) = 0
          · rw [if_pos c6] at j5
            obtain ⟨r7, h8, e9, j5⟩ := am_b2_ok j5
            have hs := s_X9_leadsToFine n x4i h hs e9
            by_cases c10 : r7 = 0
            · rw [if_pos c10] at j5
              obtain ⟨rfl, rfl⟩ := am_i2 j5
              exact hs
            · rw [if_neg c10] at j5
              obtain ⟨rfl, rfl⟩ := am_i2 j5
              exact hs
          · rw [if_neg c6] at j5
            obtain ⟨rfl, rfl⟩ := am_i2 j5
            exact hs
        refine am_cut (P := AW mX9_layFine (rX9_layFine 0 0) (fun r h2 => r = none ∧ h2 = h') 105 [(0, .ref 51), (1, .long x1j), (3, .int y3), (4, .int x4i)] [] h4 0 0) (fun hJ5 => ?_) ?_
        · have hs := hs0
          refine AW_go okX9_layFine 1 ?_
          refine And.intro (fun c6 => ?_) (fun c6 => ?_)
          · rw [if_neg c6] at j5
            obtain ⟨rfl, rfl⟩ := am_i2 j5
            exact AW_pick [0, 1, 2, 3] rfl hJ5
          · rw [if_pos c6] at j5
            refine AW_go okX9_layFine 2 ?_
            obtain ⟨r7, h8, e9, j5⟩ := am_b2_ok j5
            refine AW_callV (As := [.int x4i]) (R' := rX9_leadsToFine 0 0) (T := TX9) (N := 58) (ci := 9) (okX9_layFine.1 89 _ _ rfl) lkX9_leadsToFine kX9_375 rfl (sK hs 51) rfl (Nat.le_of_ble_eq_true rfl) ⟨by decide, by decide⟩ ⟨(Nat.le_of_ble_eq_true rfl), (Nat.le_of_ble_eq_true rfl)⟩ (Nat.le_of_ble_eq_true rfl) (c_X9_leadsToFine n x4i h hs e9) (fun r h' hq => ?_)
            obtain ⟨rfl, hq⟩ := hq
            replace hq := hq.symm
            subst hq
            have hs := s_X9_leadsToFine n x4i h hs e9
            refine AW_go okX9_layFine 1 ?_
            refine And.intro (fun c10 => ?_) (fun c10 => ?_)
            · rw [if_pos c10] at j5
              obtain ⟨rfl, rfl⟩ := am_i2 j5
              exact AW_pick [0, 1, 2, 3] rfl hJ5
            · rw [if_neg c10] at j5
              refine AW_go okX9_layFine 7 ?_
              refine And.intro (sK hs 51) (Exists.intro _ (And.intro (sA hs 51 48) ?_))
              refine Exists.intro 2 (Exists.intro 2001 (And.intro (by decide) (And.intro (sK hs 83) (And.intro (am_vp_ok b2) ?_))))
              obtain ⟨rfl, rfl⟩ := am_i2 j5
              exact AW_pick [1, 2, 0, 3] rfl hJ5
        refine AW_go okX9_layFine 2 ?_
        refine AW_pick (lv' := [(0, .ref 51), (1, .long x1j), (3, .int y3), (4, .int (x4i + Int32.ofInt (-1)))]) [1, 2, 3, 0] rfl ?_
        exact ih.2.2 x1j y3 (x4i + Int32.ofInt (-1)) h4 _ _ hs hf
def f_X9_layFine (n : Nat) (h : am_H) : Option (Unit × am_H) := (if (am_I h 51 53) = 0 then am_b2 (f_X9_asState n (am_sI h 51 53 (Int32.ofInt 1))) fun r2 h3 => (g_X9_layFine n 0 r2 (Int32.ofInt 0) 0 h3) else some ((), h))
set_option maxRecDepth 100000 in
theorem s_X9_layFine (n : Nat) (h : am_H) (hs : am_stat h) {v : Unit} {h' : am_H} (hf : f_X9_layFine n h = some (v, h')) : am_stat h' := by
  unfold f_X9_layFine at hf
  by_cases c1 : (am_I h 51 53) = 0
  · rw [if_pos c1] at hf
    obtain ⟨r2, h3, e4, hf⟩ := am_b2_ok hf
    have hs := s_X9_asState n (am_sI h 51 53 (Int32.ofInt 1)) hs e4
    exact (m_X9_layFine n).1 r2 (Int32.ofInt 0) 0 h3 _ _ hs hf
  · rw [if_neg c1] at hf
    obtain ⟨rfl, rfl⟩ := am_i2 hf
    exact hs
set_option maxRecDepth 100000 in
theorem c_X9_layFine (n : Nat) (h : am_H) (hs : am_stat h) {v : Unit} {h' : am_H} (hf : f_X9_layFine n h = some (v, h')) : AMet mX9_layFine (rX9_layFine 0 0) (fun r h2 => r = none ∧ h2 = h') [.ref 51] h := by
  unfold f_X9_layFine at hf
  refine AW_go okX9_layFine 3 ?_
  refine And.intro (sK hs 51) ?_
  refine And.intro (fun c1 => ?_) (fun c1 => ?_)
  · rw [if_pos c1] at hf
    refine AW_go okX9_layFine 4 ?_
    refine And.intro (Or.inr rfl) (And.intro (sK hs 51) ?_)
    obtain ⟨r2, h3, e4, hf⟩ := am_b2_ok hf
    refine AW_callV (As := []) (R' := rX9_asState 0 0) (T := TX9) (N := 58) (ci := 9) (okX9_layFine.1 14 _ _ rfl) lkX9_asState kX9_350 rfl (sK hs 51) rfl (Nat.le_of_ble_eq_true rfl) ⟨by decide, by decide⟩ ⟨(Nat.le_of_ble_eq_true rfl), (Nat.le_of_ble_eq_true rfl)⟩ (Nat.le_of_ble_eq_true rfl) (c_X9_asState n (am_sI h 51 53 (Int32.ofInt 1)) hs e4) (fun r h' hq => ?_)
    obtain ⟨rfl, hq⟩ := hq
    replace hq := hq.symm
    subst hq
    have hs := s_X9_asState n (am_sI h 51 53 (Int32.ofInt 1)) hs e4
    refine AW_go okX9_layFine 3 ?_
    refine AW_pick (lv' := [(0, .ref 51), (1, .long r2), (3, .int (Int32.ofInt 0))]) [2, 1, 0] rfl ?_
    exact (l_X9_layFine n).1 r2 (Int32.ofInt 0) 0 h3 _ _ hs hf
  · rw [if_neg c1] at hf
    refine AW_go okX9_layFine 1 ?_
    obtain ⟨rfl, rfl⟩ := am_i2 hf
    exact And.intro ⟨(Nat.le_of_ble_eq_true rfl), (Nat.le_of_ble_eq_true rfl)⟩ (And.intro rfl ⟨rfl, rfl⟩)
def f_X9_isStateSo (n : Nat) (a1 : Int32) (a2 : Int32) (h : am_H) : Option (Int32 × am_H) := (if a2 = (Int32.ofInt 3) then bif am_vp a1 2001 then (Option.bind ((if (am_I h 83 (Int32.toNatClampNeg a1)) = 0 then some (Int32.ofInt 1) else some (Int32.ofInt 0))) fun y11 => (bif am_b01 y11 then (some (y11, h)) else none)) else none else bif am_vp a1 2001 then (am_b2 (f_X9_layState n (am_J h 80 (Int32.toNatClampNeg a1)) h) fun r3 h4 => (am_b2 (f_X9_isSo n a2 h4) fun r6 h7 => (bif am_b01 r6 then (some (r6, h7)) else none))) else none)
set_option maxRecDepth 100000 in
theorem s_X9_isStateSo (n : Nat) (a1 : Int32) (a2 : Int32) (h : am_H) (hs : am_stat h) {v : Int32} {h' : am_H} (hf : f_X9_isStateSo n a1 a2 h = some (v, h')) : am_stat h' := by
  unfold f_X9_isStateSo at hf
  by_cases c1 : a2 = (Int32.ofInt 3)
  · rw [if_pos c1] at hf
    obtain ⟨b2, hf⟩ := am_bis hf
    obtain ⟨y3, j4, hf⟩ := am_bnd hf
    obtain ⟨b56, hf⟩ := am_bis hf
    obtain ⟨rfl, rfl⟩ := am_i2 hf
    exact hs
  · rw [if_neg c1] at hf
    obtain ⟨b57, hf⟩ := am_bis hf
    obtain ⟨r58, h59, e60, hf⟩ := am_b2_ok hf
    have hs := s_X9_layState n (am_J h 80 (Int32.toNatClampNeg a1)) h hs e60
    obtain ⟨r61, h62, e63, hf⟩ := am_b2_ok hf
    have hs := s_X9_isSo n a2 h59 hs e63
    obtain ⟨b64, hf⟩ := am_bis hf
    obtain ⟨rfl, rfl⟩ := am_i2 hf
    exact hs
set_option maxRecDepth 100000 in
theorem c_X9_isStateSo (n : Nat) (a1 : Int32) (a2 : Int32) (h : am_H) (hs : am_stat h) {v : Int32} {h' : am_H} (hf : f_X9_isStateSo n a1 a2 h = some (v, h')) : AMet mX9_isStateSo (rX9_isStateSo 0 0) (fun r h2 => r = some (.int v) ∧ h2 = h') [.ref 51, .int a1, .int a2] h := by
  unfold f_X9_isStateSo at hf
  refine AW_go okX9_isStateSo 3 ?_
  refine And.intro (fun c1 => ?_) (fun c1 => ?_)
  · rw [if_neg c1] at hf
    obtain ⟨b2, hf⟩ := am_bis hf
    refine AW_go okX9_isStateSo 5 ?_
    refine And.intro (sK hs 51) (Exists.intro _ (And.intro (sA hs 51 45) ?_))
    refine Exists.intro 2001 (And.intro (sK hs 80) (And.intro (am_vp_ok b2) ?_))
    obtain ⟨r3, h4, e5, hf⟩ := am_b2_ok hf
    refine AW_callV (As := [.long (am_J h 80 (Int32.toNatClampNeg a1))]) (R' := rX9_layState 0 0) (T := TX9) (N := 58) (ci := 9) (okX9_isStateSo.1 27 _ _ rfl) lkX9_layState kX9_364 rfl (sK hs 51) rfl (Nat.le_of_ble_eq_true rfl) ⟨by decide, by decide⟩ ⟨(Nat.le_of_ble_eq_true rfl), (Nat.le_of_ble_eq_true rfl)⟩ (Nat.le_of_ble_eq_true rfl) (c_X9_layState n (am_J h 80 (Int32.toNatClampNeg a1)) h hs e5) (fun r h' hq => ?_)
    obtain ⟨rfl, hq⟩ := hq
    replace hq := hq.symm
    subst hq
    have hs := s_X9_layState n (am_J h 80 (Int32.toNatClampNeg a1)) h hs e5
    refine AW_go okX9_isStateSo 2 ?_
    obtain ⟨r6, h7, e8, hf⟩ := am_b2_ok hf
    refine AW_callV (As := [.int a2]) (R' := rX9_isSo 0 0) (T := TX9) (N := 58) (ci := 9) (okX9_isStateSo.1 32 _ _ rfl) lkX9_isSo kX9_372 rfl (sK hs 51) rfl (Nat.le_of_ble_eq_true rfl) ⟨by decide, by decide⟩ ⟨(Nat.le_of_ble_eq_true rfl), (Nat.le_of_ble_eq_true rfl)⟩ (Nat.le_of_ble_eq_true rfl) (c_X9_isSo n a2 h4 hs e8) (fun r h' hq => ?_)
    obtain ⟨rfl, hq⟩ := hq
    replace hq := hq.symm
    subst hq
    have hs := s_X9_isSo n a2 h4 hs e8
    obtain ⟨b9, hf⟩ := am_bis hf
    refine AW_go okX9_isStateSo 1 ?_
    obtain ⟨rfl, rfl⟩ := am_i2 hf
    exact And.intro ⟨(Nat.le_of_ble_eq_true rfl), (Nat.le_of_ble_eq_true rfl)⟩ (And.intro (Or.inr ⟨rfl, am_b01_ok b9⟩) ⟨rfl, rfl⟩)
  · rw [if_pos c1] at hf
    obtain ⟨b10, hf⟩ := am_bis hf
    refine AW_go okX9_isStateSo 4 ?_
    refine And.intro (sK hs 51) (Exists.intro _ (And.intro (sA hs 51 48) ?_))
    refine Exists.intro 2 (Exists.intro 2001 (And.intro (by decide) (And.intro (sK hs 83) (And.intro (am_vp_ok b10) ?_))))
    obtain ⟨y11, j12, hf⟩ := am_bnd hf
    refine am_cut (P := AW mX9_isStateSo (rX9_isStateSo 0 0) (fun r h2 => r = some (.int v) ∧ h2 = h') 19 [(0, .ref 51), (1, .int a1), (2, .int a2)] [.int y11] h 0 0) (fun hJ12 => ?_) ?_
    · have hs := hs
      refine AW_go okX9_isStateSo 1 ?_
      refine And.intro (fun c13 => ?_) (fun c13 => ?_)
      · rw [if_neg c13] at j12
        refine AW_go okX9_isStateSo 1 ?_
        obtain rfl := am_i1 j12
        exact AW_pick [0, 1, 2] rfl hJ12
      · rw [if_pos c13] at j12
        refine AW_go okX9_isStateSo 2 ?_
        obtain rfl := am_i1 j12
        exact AW_pick [0, 1, 2] rfl hJ12
    obtain ⟨b64, hf⟩ := am_bis hf
    refine AW_go okX9_isStateSo 1 ?_
    obtain ⟨rfl, rfl⟩ := am_i2 hf
    exact And.intro ⟨(Nat.le_of_ble_eq_true rfl), (Nat.le_of_ble_eq_true rfl)⟩ (And.intro (Or.inr ⟨rfl, am_b01_ok b64⟩) ⟨rfl, rfl⟩)
def f_X9_now (n : Nat) (a1 : Int32) (h : am_H) : Option (Int32 × am_H) := am_b2 (f_X9_within a1 (Int32.ofInt 0) (Int32.ofInt 4) h) fun r1 h2 => ((if r1 = 0 then some ((Int32.ofInt (-102)), h2) else (if a1 = (Int32.ofInt 3) then am_b2 (f_X9_meetAll n h2) fun r6 h7 => ((if (am_I h7 51 51) = 0 then am_b2 (f_X9_layFine n h7) fun r10 h11 => (am_b2 (f_X9_asState n h11) fun r13 h14 => (am_b2 (f_X9_stateNumber n r13 h14) fun r16 h17 => (bif am_vp r16 8192 then (bif am_vp ((am_I h17 84 (Int32.toNatClampNeg r16)) - (Int32.ofInt 1)) 2001 then (Option.bind ((if (am_I h17 83 (Int32.toNatClampNeg ((am_I h17 84 (Int32.toNatClampNeg r16)) - (Int32.ofInt 1)))) = 0 then some (Int32.ofInt 1) else some (Int32.ofInt 0))) fun y21 => (some (y21, h17))) else none) else none))) else some ((Int32.ofInt (-2)), h7))) else am_b2 (f_X9_isSo n a1 h2) fun r74 h75 => (Option.bind ((if r74 = 0 then some (Int32.ofInt 0) else some (Int32.ofInt 1))) fun y77 => (some (y77, h75))))))
set_option maxRecDepth 100000 in
theorem s_X9_now (n : Nat) (a1 : Int32) (h : am_H) (hs : am_stat h) {v : Int32} {h' : am_H} (hf : f_X9_now n a1 h = some (v, h')) : am_stat h' := by
  unfold f_X9_now at hf
  obtain ⟨r1, h2, e3, hf⟩ := am_b2_ok hf
  have hs := s_X9_within a1 (Int32.ofInt 0) (Int32.ofInt 4) h hs e3
  by_cases c4 : r1 = 0
  · rw [if_pos c4] at hf
    obtain ⟨rfl, rfl⟩ := am_i2 hf
    exact hs
  · rw [if_neg c4] at hf
    by_cases c5 : a1 = (Int32.ofInt 3)
    · rw [if_pos c5] at hf
      obtain ⟨r6, h7, e8, hf⟩ := am_b2_ok hf
      have hs := s_X9_meetAll n h2 hs e8
      by_cases c9 : (am_I h7 51 51) = 0
      · rw [if_pos c9] at hf
        obtain ⟨r10, h11, e12, hf⟩ := am_b2_ok hf
        have hs := s_X9_layFine n h7 hs e12
        obtain ⟨r13, h14, e15, hf⟩ := am_b2_ok hf
        have hs := s_X9_asState n h11 hs e15
        obtain ⟨r16, h17, e18, hf⟩ := am_b2_ok hf
        have hs := s_X9_stateNumber n r13 h14 hs e18
        obtain ⟨b19, hf⟩ := am_bis hf
        obtain ⟨b20, hf⟩ := am_bis hf
        obtain ⟨y21, j22, hf⟩ := am_bnd hf
        obtain ⟨rfl, rfl⟩ := am_i2 hf
        exact hs
      · rw [if_neg c9] at hf
        obtain ⟨rfl, rfl⟩ := am_i2 hf
        exact hs
    · rw [if_neg c5] at hf
      obtain ⟨r74, h75, e76, hf⟩ := am_b2_ok hf
      have hs := s_X9_isSo n a1 h2 hs e76
      obtain ⟨y77, j78, hf⟩ := am_bnd hf
      obtain ⟨rfl, rfl⟩ := am_i2 hf
      exact hs
set_option maxRecDepth 100000 in
theorem c_X9_now (n : Nat) (a1 : Int32) (h : am_H) (hs : am_stat h) {v : Int32} {h' : am_H} (hf : f_X9_now n a1 h = some (v, h')) : AMet mX9_now (rX9_now 0 0) (fun r h2 => r = some (.int v) ∧ h2 = h') [.ref 51, .int a1] h := by
  unfold f_X9_now at hf
  refine AW_go okX9_now 3 ?_
  obtain ⟨r1, h2, e3, hf⟩ := am_b2_ok hf
  refine AW_callS (As := [.int a1, .int (Int32.ofInt 0), .int (Int32.ofInt 4)]) (R' := rX9_within 0 0) (okX9_now.1 3 _ _ rfl) lkX9_within (Or.inl kX9_134) rfl (Nat.le_of_ble_eq_true rfl) ⟨by decide, by decide⟩ ⟨(Nat.le_of_ble_eq_true rfl), (Nat.le_of_ble_eq_true rfl)⟩ (Nat.le_of_ble_eq_true rfl) (c_X9_within a1 (Int32.ofInt 0) (Int32.ofInt 4) h hs e3) (fun r h' hq => ?_)
  obtain ⟨rfl, hq⟩ := hq
  replace hq := hq.symm
  subst hq
  have hs := s_X9_within a1 (Int32.ofInt 0) (Int32.ofInt 4) h hs e3
  refine AW_go okX9_now 1 ?_
  refine And.intro (fun c4 => ?_) (fun c4 => ?_)
  · rw [if_neg c4] at hf
    refine AW_go okX9_now 3 ?_
    refine And.intro (fun c5 => ?_) (fun c5 => ?_)
    · rw [if_pos c5] at hf
      refine AW_go okX9_now 1 ?_
      obtain ⟨r6, h7, e8, hf⟩ := am_b2_ok hf
      refine AW_callV (As := []) (R' := rX9_meetAll 0 0) (T := TX9) (N := 58) (ci := 9) (okX9_now.1 32 _ _ rfl) lkX9_meetAll kX9_378 rfl (sK hs 51) rfl (Nat.le_of_ble_eq_true rfl) ⟨by decide, by decide⟩ ⟨(Nat.le_of_ble_eq_true rfl), (Nat.le_of_ble_eq_true rfl)⟩ (Nat.le_of_ble_eq_true rfl) (c_X9_meetAll n h2 hs e8) (fun r h' hq => ?_)
      obtain ⟨rfl, hq⟩ := hq
      replace hq := hq.symm
      subst hq
      have hs := s_X9_meetAll n h2 hs e8
      refine AW_go okX9_now 3 ?_
      refine And.intro (sK hs 51) ?_
      refine And.intro (fun c9 => ?_) (fun c9 => ?_)
      · rw [if_pos c9] at hf
        refine AW_go okX9_now 1 ?_
        obtain ⟨r10, h11, e12, hf⟩ := am_b2_ok hf
        refine AW_callV (As := []) (R' := rX9_layFine 0 0) (T := TX9) (N := 58) (ci := 9) (okX9_now.1 46 _ _ rfl) lkX9_layFine kX9_381 rfl (sK hs 51) rfl (Nat.le_of_ble_eq_true rfl) ⟨by decide, by decide⟩ ⟨(Nat.le_of_ble_eq_true rfl), (Nat.le_of_ble_eq_true rfl)⟩ (Nat.le_of_ble_eq_true rfl) (c_X9_layFine n h7 hs e12) (fun r h' hq => ?_)
        obtain ⟨rfl, hq⟩ := hq
        replace hq := hq.symm
        subst hq
        have hs := s_X9_layFine n h7 hs e12
        refine AW_go okX9_now 6 ?_
        refine And.intro (sK hs 51) (Exists.intro _ (And.intro (sA hs 51 48) ?_))
        refine And.intro (sK hs 51) (Exists.intro _ (And.intro (sA hs 51 49) ?_))
        obtain ⟨r13, h14, e15, hf⟩ := am_b2_ok hf
        refine AW_callV (As := []) (R' := rX9_asState 0 0) (T := TX9) (N := 58) (ci := 9) (okX9_now.1 59 _ _ rfl) lkX9_asState kX9_350 rfl (sK hs 51) rfl (Nat.le_of_ble_eq_true rfl) ⟨by decide, by decide⟩ ⟨(Nat.le_of_ble_eq_true rfl), (Nat.le_of_ble_eq_true rfl)⟩ (Nat.le_of_ble_eq_true rfl) (c_X9_asState n h11 hs e15) (fun r h' hq => ?_)
        obtain ⟨rfl, hq⟩ := hq
        replace hq := hq.symm
        subst hq
        have hs := s_X9_asState n h11 hs e15
        obtain ⟨r16, h17, e18, hf⟩ := am_b2_ok hf
        refine AW_callV (As := [.long r13]) (R' := rX9_stateNumber 0 0) (T := TX9) (N := 58) (ci := 9) (okX9_now.1 62 _ _ rfl) lkX9_stateNumber kX9_368 rfl (sK hs 51) rfl (Nat.le_of_ble_eq_true rfl) ⟨by decide, by decide⟩ ⟨(Nat.le_of_ble_eq_true rfl), (Nat.le_of_ble_eq_true rfl)⟩ (Nat.le_of_ble_eq_true rfl) (c_X9_stateNumber n r13 h14 hs e18) (fun r h' hq => ?_)
        obtain ⟨rfl, hq⟩ := hq
        replace hq := hq.symm
        subst hq
        have hs := s_X9_stateNumber n r13 h14 hs e18
        obtain ⟨b19, hf⟩ := am_bis hf
        obtain ⟨b20, hf⟩ := am_bis hf
        refine AW_go okX9_now 4 ?_
        refine Exists.intro 8192 (And.intro (sK hs 84) (And.intro (am_vp_ok b19) ?_))
        refine Exists.intro 2 (Exists.intro 2001 (And.intro (by decide) (And.intro (sK hs 83) (And.intro (am_vp_ok b20) ?_))))
        obtain ⟨y21, j22, hf⟩ := am_bnd hf
        refine am_cut (P := AW mX9_now (rX9_now 0 0) (fun r h2 => r = some (.int v) ∧ h2 = h') 77 [(0, .ref 51), (1, .int a1)] [.int y21] h17 0 0) (fun hJ22 => ?_) ?_
        · have hs := hs
          refine AW_go okX9_now 1 ?_
          refine And.intro (fun c23 => ?_) (fun c23 => ?_)
          · rw [if_pos c23] at j22
            refine AW_go okX9_now 1 ?_
            obtain rfl := am_i1 j22
            exact AW_pick [0, 1] rfl hJ22
          · rw [if_neg c23] at j22
            refine AW_go okX9_now 2 ?_
            obtain rfl := am_i1 j22
            exact AW_pick [0, 1] rfl hJ22
        refine AW_go okX9_now 1 ?_
        obtain ⟨rfl, rfl⟩ := am_i2 hf
        exact And.intro ⟨(Nat.le_of_ble_eq_true rfl), (Nat.le_of_ble_eq_true rfl)⟩ (And.intro (Or.inl rfl) ⟨rfl, rfl⟩)
      · rw [if_neg c9] at hf
        refine AW_go okX9_now 2 ?_
        obtain ⟨rfl, rfl⟩ := am_i2 hf
        exact And.intro ⟨(Nat.le_of_ble_eq_true rfl), (Nat.le_of_ble_eq_true rfl)⟩ (And.intro (Or.inl rfl) ⟨rfl, rfl⟩)
    · rw [if_neg c5] at hf
      refine AW_go okX9_now 2 ?_
      obtain ⟨r74, h75, e76, hf⟩ := am_b2_ok hf
      refine AW_callV (As := [.int a1]) (R' := rX9_isSo 0 0) (T := TX9) (N := 58) (ci := 9) (okX9_now.1 19 _ _ rfl) lkX9_isSo kX9_372 rfl (sK hs 51) rfl (Nat.le_of_ble_eq_true rfl) ⟨by decide, by decide⟩ ⟨(Nat.le_of_ble_eq_true rfl), (Nat.le_of_ble_eq_true rfl)⟩ (Nat.le_of_ble_eq_true rfl) (c_X9_isSo n a1 h2 hs e76) (fun r h' hq => ?_)
      obtain ⟨rfl, hq⟩ := hq
      replace hq := hq.symm
      subst hq
      have hs := s_X9_isSo n a1 h2 hs e76
      obtain ⟨y77, j78, hf⟩ := am_bnd hf
      refine am_cut (P := AW mX9_now (rX9_now 0 0) (fun r h2 => r = some (.int v) ∧ h2 = h') 30 [(0, .ref 51), (1, .int a1)] [.int y77] h75 0 0) (fun hJ78 => ?_) ?_
      · have hs := hs
        refine AW_go okX9_now 1 ?_
        refine And.intro (fun c79 => ?_) (fun c79 => ?_)
        · rw [if_pos c79] at j78
          refine AW_go okX9_now 1 ?_
          obtain rfl := am_i1 j78
          exact AW_pick [0, 1] rfl hJ78
        · rw [if_neg c79] at j78
          refine AW_go okX9_now 2 ?_
          obtain rfl := am_i1 j78
          exact AW_pick [0, 1] rfl hJ78
      refine AW_go okX9_now 1 ?_
      obtain ⟨rfl, rfl⟩ := am_i2 hf
      exact And.intro ⟨(Nat.le_of_ble_eq_true rfl), (Nat.le_of_ble_eq_true rfl)⟩ (And.intro (Or.inl rfl) ⟨rfl, rfl⟩)
  · rw [if_pos c4] at hf
    refine AW_go okX9_now 2 ?_
    obtain ⟨rfl, rfl⟩ := am_i2 hf
    exact And.intro ⟨(Nat.le_of_ble_eq_true rfl), (Nat.le_of_ble_eq_true rfl)⟩ (And.intro (Or.inl rfl) ⟨rfl, rfl⟩)
