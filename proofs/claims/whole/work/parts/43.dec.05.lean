def f_X8_own (n : Nat) (a1 : Int32) (a2 : Int32) (h : am_H) : Option ((Int32 × am_H) × Nat × Nat) := (if a1 < 0 then some (((Int32.ofInt (-101)), h), 0, 0) else (if (am_I h 0 7) ≤ a1 then some (((Int32.ofInt (-101)), h), 0, 0) else am_b2 (f_X8_isOffice a2 h) fun r3 h4 => ((if r3 = 0 then some (((Int32.ofInt (-101)), h4), 0, 0) else (if (am_I h4 0 5) < (Int32.ofInt 8) then bif am_vp a1 3 then ((am_A h4 26 (Int32.toNatClampNeg a1)).bind fun q9 => (am_b2 (f_X5_gather n q9 (Int32.ofInt 1) a2 h4) fun r11 h12 => (am_bc (f_X5_gathered h12) fun r14 h15 => (am_b2 (f_X8_keep r14 h15) fun r22 h23 => (some ((r22, h23), 0, 0)))))) else none else some (((Int32.ofInt (-104)), h4), 0, 0))))))
set_option maxRecDepth 100000 in
set_option maxHeartbeats 4000000 in
theorem s_X8_own (n : Nat) (a1 : Int32) (a2 : Int32) (h : am_H) (hs : am_stat h) {v : Int32} {h' : am_H} {cr sr : Nat} (hf : f_X8_own n a1 a2 h = some ((v, h'), cr, sr)) : am_stat h' := by
  unfold f_X8_own at hf
  by_cases c1 : a1 < 0
  · rw [if_pos c1] at hf
    obtain ⟨rfl, rfl, rfl, rfl⟩ := am_ic hf
    exact hs
  · rw [if_neg c1] at hf
    by_cases c2 : (am_I h 0 7) ≤ a1
    · rw [if_pos c2] at hf
      obtain ⟨rfl, rfl, rfl, rfl⟩ := am_ic hf
      exact hs
    · rw [if_neg c2] at hf
      obtain ⟨r3, h4, e5, hf⟩ := am_b2_ok hf
      have hs := s_X8_isOffice a2 h hs e5
      by_cases c6 : r3 = 0
      · rw [if_pos c6] at hf
        obtain ⟨rfl, rfl, rfl, rfl⟩ := am_ic hf
        exact hs
      · rw [if_neg c6] at hf
        by_cases c7 : (am_I h4 0 5) < (Int32.ofInt 8)
        · rw [if_pos c7] at hf
          obtain ⟨b8, hf⟩ := am_bis hf
          obtain ⟨q9, k10, hf⟩ := am_bnd hf
          obtain ⟨r11, h12, e13, hf⟩ := am_b2_ok hf
          have hs := s_X5_gather n q9 (Int32.ofInt 1) a2 h4 hs e13
          obtain ⟨r14, h15, c17, s18, c19, s20, e16, hg21, rfl, rfl⟩ := am_bc_ok hf
          have hf := hg21
          have hs := s_X5_gathered h12 hs e16
          obtain ⟨r22, h23, e24, hf⟩ := am_b2_ok hf
          have hs := s_X8_keep r14 h15 hs e24
          obtain ⟨rfl, rfl, rfl, rfl⟩ := am_ic hf
          exact hs
        · rw [if_neg c7] at hf
          obtain ⟨rfl, rfl, rfl, rfl⟩ := am_ic hf
          exact hs
set_option maxRecDepth 100000 in
set_option maxHeartbeats 4000000 in
theorem c_X8_own (n : Nat) (a1 : Int32) (a2 : Int32) (h : am_H) (hs : am_stat h) {v : Int32} {h' : am_H} {cr sr : Nat} (Cc Ss : Nat) (hC : 0 + cr ≤ Cc) (hS : 0 + sr ≤ Ss) (hf : f_X8_own n a1 a2 h = some ((v, h'), cr, sr)) : AMet mX8_own (rX8_own Cc Ss) (fun r h2 => r = some (.int v) ∧ h2 = h') [.ref 0, .int a1, .int a2] h := by
  unfold f_X8_own at hf
  refine AW_go okX8_own 2 ?_
  refine And.intro (fun c1 => ?_) (fun c1 => ?_)
  · rw [if_pos c1] at hf
    refine AW_go okX8_own 2 ?_
    obtain ⟨rfl, rfl, rfl, rfl⟩ := am_ic hf
    exact And.intro ⟨show 0 ≤ Cc by omega, show 0 ≤ Ss by omega⟩ (And.intro (Or.inl rfl) ⟨rfl, rfl⟩)
  · rw [if_neg c1] at hf
    refine AW_go okX8_own 4 ?_
    refine And.intro (sK hs 0) ?_
    refine And.intro (fun c2 => ?_) (fun c2 => ?_)
    · rw [if_pos c2] at hf
      refine AW_go okX8_own 2 ?_
      obtain ⟨rfl, rfl, rfl, rfl⟩ := am_ic hf
      exact And.intro ⟨show 0 ≤ Cc by omega, show 0 ≤ Ss by omega⟩ (And.intro (Or.inl rfl) ⟨rfl, rfl⟩)
    · rw [if_neg c2] at hf
      refine AW_go okX8_own 1 ?_
      obtain ⟨r3, h4, e5, hf⟩ := am_b2_ok hf
      refine AW_callS (As := [.int a2]) (R' := rX8_isOffice 0 0) (okX8_own.1 13 _ _ rfl) lkX8_isOffice (Or.inl kX8_109) rfl (Nat.le_of_ble_eq_true rfl) ⟨(Nat.le_of_ble_eq_true rfl), (Nat.le_of_ble_eq_true rfl)⟩ ⟨show 0 + 0 ≤ Cc by omega, show 0 + 0 ≤ Ss by omega⟩ (Nat.le_of_ble_eq_true rfl) (c_X8_isOffice a2 h hs e5) (fun r h' hq => ?_)
      obtain ⟨rfl, hq⟩ := hq
      replace hq := hq.symm
      subst hq
      have hs := s_X8_isOffice a2 h hs e5
      refine AW_go okX8_own 1 ?_
      refine And.intro (fun c6 => ?_) (fun c6 => ?_)
      · rw [if_neg c6] at hf
        refine AW_go okX8_own 4 ?_
        refine And.intro (sK hs 0) ?_
        refine And.intro (fun c7 => ?_) (fun c7 => ?_)
        · rw [if_pos c7] at hf
          obtain ⟨b8, hf⟩ := am_bis hf
          obtain ⟨q9, k10, hf⟩ := am_bnd hf
          refine AW_go okX8_own 8 ?_
          refine And.intro (sK hs 0) (Exists.intro _ (And.intro (sA hs 0 1) ?_))
          refine And.intro (sK hs 0) (Exists.intro _ (And.intro (sA hs 0 6) ?_))
          refine Exists.intro 5 (Exists.intro 3 (Exists.intro (some q9) (And.intro (by decide) (And.intro (sK hs 26) (And.intro (am_vp_ok b8) (And.intro k10 ?_))))))
          obtain ⟨r11, h12, e13, hf⟩ := am_b2_ok hf
          refine AW_callV (As := [.ref q9, .int (Int32.ofInt 1), .int a2]) (R' := rX5_gather 0 0) (T := TX5) (N := 12) (ci := 5) (okX8_own.1 46 _ _ rfl) lkX5_gather kX8_112 rfl (sK hs 3) rfl (Nat.le_of_ble_eq_true rfl) ⟨(Nat.le_of_ble_eq_true rfl), (Nat.le_of_ble_eq_true rfl)⟩ ⟨show 0 + 0 ≤ Cc by omega, show 0 + 0 ≤ Ss by omega⟩ (Nat.le_of_ble_eq_true rfl) (c_X5_gather n q9 (Int32.ofInt 1) a2 h4 hs e13) (fun r h' hq => ?_)
          obtain ⟨rfl, hq⟩ := hq
          replace hq := hq.symm
          subst hq
          have hs := s_X5_gather n q9 (Int32.ofInt 1) a2 h4 hs e13
          refine AW_go okX8_own 3 ?_
          refine And.intro (sK hs 0) (Exists.intro _ (And.intro (sA hs 0 1) ?_))
          obtain ⟨r14, h15, c17, s18, c19, s20, e16, hg21, rfl, rfl⟩ := am_bc_ok hf
          have hf := hg21
          refine AW_callV (As := []) (R' := rX5_gathered c17 s18) (T := TX5) (N := 12) (ci := 5) (okX8_own.1 54 _ _ rfl) lkX5_gathered kX8_94 rfl (sK hs 3) rfl (Nat.le_of_ble_eq_true rfl) ⟨(Nat.le_of_ble_eq_true rfl), (Nat.le_of_ble_eq_true rfl)⟩ ⟨show 0 + c17 ≤ Cc by omega, show 0 + s18 ≤ Ss by omega⟩ (Nat.le_of_ble_eq_true rfl) (c_X5_gathered h12 hs c17 s18 (by omega) (by omega) e16) (fun r h' hq => ?_)
          obtain ⟨rfl, hq⟩ := hq
          replace hq := hq.symm
          subst hq
          have hs := s_X5_gathered h12 hs e16
          obtain ⟨r22, h23, e24, hf⟩ := am_b2_ok hf
          refine AW_callV (As := [.ref r14]) (R' := rX8_keep 0 0) (T := TX8) (N := 18) (ci := 8) (okX8_own.1 57 _ _ rfl) lkX8_keep kX8_98 rfl (sK hs 0) rfl (Nat.le_of_ble_eq_true rfl) ⟨(Nat.le_of_ble_eq_true rfl), (Nat.le_of_ble_eq_true rfl)⟩ ⟨show (0 + c17) + 0 ≤ Cc by omega, show (0 + s18) + 0 ≤ Ss by omega⟩ (Nat.le_of_ble_eq_true rfl) (c_X8_keep r14 h15 hs e24) (fun r h' hq => ?_)
          obtain ⟨rfl, hq⟩ := hq
          replace hq := hq.symm
          subst hq
          have hs := s_X8_keep r14 h15 hs e24
          refine AW_go okX8_own 1 ?_
          obtain ⟨rfl, rfl, rfl, rfl⟩ := am_ic hf
          exact And.intro ⟨show (0 + c17) ≤ Cc by omega, show (0 + s18) ≤ Ss by omega⟩ (And.intro (Or.inl rfl) ⟨rfl, rfl⟩)
        · rw [if_neg c7] at hf
          refine AW_go okX8_own 2 ?_
          obtain ⟨rfl, rfl, rfl, rfl⟩ := am_ic hf
          exact And.intro ⟨show 0 ≤ Cc by omega, show 0 ≤ Ss by omega⟩ (And.intro (Or.inl rfl) ⟨rfl, rfl⟩)
      · rw [if_pos c6] at hf
        refine AW_go okX8_own 2 ?_
        obtain ⟨rfl, rfl, rfl, rfl⟩ := am_ic hf
        exact And.intro ⟨show 0 ≤ Cc by omega, show 0 ≤ Ss by omega⟩ (And.intro (Or.inl rfl) ⟨rfl, rfl⟩)
def f_X8_surveyNow (n : Nat) (h : am_H) : Option ((Nat × am_H) × Nat × Nat) := (if (am_I h 0 13) = 0 then am_bc (f_X6_explore n 37 (Int32.ofInt 0) h) fun r2 h3 => (some ((37, (am_sI h3 0 13 (Int32.ofInt 1))), 0, 0)) else some ((37, h), 0, 0))
set_option maxRecDepth 100000 in
set_option maxHeartbeats 4000000 in
theorem s_X8_surveyNow (n : Nat) (h : am_H) (hs : am_stat h) {v : Nat} {h' : am_H} {cr sr : Nat} (hf : f_X8_surveyNow n h = some ((v, h'), cr, sr)) : am_stat h' := by
  unfold f_X8_surveyNow at hf
  by_cases c1 : (am_I h 0 13) = 0
  · rw [if_pos c1] at hf
    obtain ⟨r2, h3, c5, s6, c7, s8, e4, hg9, rfl, rfl⟩ := am_bc_ok hf
    have hf := hg9
    have hs := s_X6_explore n 37 (Int32.ofInt 0) h (Or.inl rfl) hs e4
    obtain ⟨rfl, rfl, rfl, rfl⟩ := am_ic hf
    exact hs
  · rw [if_neg c1] at hf
    obtain ⟨rfl, rfl, rfl, rfl⟩ := am_ic hf
    exact hs
set_option maxRecDepth 100000 in
set_option maxHeartbeats 4000000 in
theorem c_X8_surveyNow (n : Nat) (h : am_H) (hs : am_stat h) {v : Nat} {h' : am_H} {cr sr : Nat} (Cc Ss : Nat) (hC : 0 + cr ≤ Cc) (hS : 0 + sr ≤ Ss) (hf : f_X8_surveyNow n h = some ((v, h'), cr, sr)) : AMet mX8_surveyNow (rX8_surveyNow Cc Ss) (fun r h2 => r = some (.ref v) ∧ h2 = h') [.ref 0] h := by
  unfold f_X8_surveyNow at hf
  refine AW_go okX8_surveyNow 3 ?_
  refine And.intro (sK hs 0) ?_
  refine And.intro (fun c1 => ?_) (fun c1 => ?_)
  · rw [if_neg c1] at hf
    refine AW_go okX8_surveyNow 3 ?_
    refine And.intro (sK hs 0) (Exists.intro _ (And.intro (sA hs 0 12) ?_))
    obtain ⟨rfl, rfl, rfl, rfl⟩ := am_ic hf
    exact And.intro ⟨show 0 ≤ Cc by omega, show 0 ≤ Ss by omega⟩ (And.intro ⟨_, rfl, rfl⟩ ⟨rfl, rfl⟩)
  · rw [if_pos c1] at hf
    refine AW_go okX8_surveyNow 5 ?_
    refine And.intro (sK hs 0) (Exists.intro _ (And.intro (sA hs 0 12) ?_))
    refine And.intro (sK hs 0) (Exists.intro _ (And.intro (sA hs 0 9) ?_))
    obtain ⟨r2, h3, c5, s6, c7, s8, e4, hg9, rfl, rfl⟩ := am_bc_ok hf
    have hf := hg9
    refine AW_callV (As := [.ref 28, .int (Int32.ofInt 0)]) (R' := rX6_explore c5 s6) (T := TX6) (N := 15) (ci := 6) (okX8_surveyNow.1 16 _ _ rfl) lkX6_explore kX8_336 rfl (sK hs 37) rfl (Nat.le_of_ble_eq_true rfl) ⟨(Nat.le_of_ble_eq_true rfl), (Nat.le_of_ble_eq_true rfl)⟩ ⟨show 0 + c5 ≤ Cc by omega, show 0 + s6 ≤ Ss by omega⟩ (Nat.le_of_ble_eq_true rfl) (c_X6_explore n 37 (Int32.ofInt 0) h (Or.inl rfl) hs c5 s6 (by omega) (by omega) e4) (fun r h' hq => ?_)
    obtain ⟨rfl, hq⟩ := hq
    replace hq := hq.symm
    subst hq
    have hs := s_X6_explore n 37 (Int32.ofInt 0) h (Or.inl rfl) hs e4
    refine AW_go okX8_surveyNow 6 ?_
    refine And.intro (Or.inr rfl) (And.intro (sK hs 0) ?_)
    refine And.intro (sK hs 0) (Exists.intro _ (And.intro (sA hs 0 12) ?_))
    obtain ⟨rfl, rfl, rfl, rfl⟩ := am_ic hf
    exact And.intro ⟨show (0 + c5) ≤ Cc by omega, show (0 + s6) ≤ Ss by omega⟩ (And.intro ⟨_, rfl, rfl⟩ ⟨rfl, rfl⟩)
def g_X8_mendsAct : Nat → Nat → Int32 → Int32 → Int32 → Int32 → Int32 → Int32 → am_H → Option ((Int32 × am_H) × Nat × Nat)
  | 0, _, _, _, _, _, _, _, _ => none
  | n + 1, _, a1, a2, x3i, x4i, x5i, x6i, h => am_let (bif am_vp x3i 48 then (bif am_b01 x5i then (some ((x5i, (am_sI h 30 (Int32.toNatClampNeg x3i) x4i)), 0, 0)) else none) else none) fun b1 => ((if (Int32.ofInt 4) ≤ x6i then b1 else (if x5i = 0 then (if x6i = x4i then g_X8_mendsAct n 0 a1 a2 x3i x4i x5i (x6i + Int32.ofInt 1) h else bif am_vp x3i 48 then (am_bc (f_X6_explore n 37 (Int32.ofInt 1) (am_sI h 30 (Int32.toNatClampNeg x3i) x6i)) fun r8 h9 => (am_b2 (f_X6_isSound 37 h9) fun r16 h17 => (am_b2 ((if r16 = 0 then some (x5i, h17) else some ((Int32.ofInt 1), (am_sI (am_sI (am_sI h17 49 (Int32.toNatClampNeg (Int32.ofInt 0)) a1) 49 (Int32.toNatClampNeg (Int32.ofInt 1)) a2) 49 (Int32.toNatClampNeg (Int32.ofInt 2)) x6i)))) fun y19 h20 => (g_X8_mendsAct n 0 a1 a2 x3i x4i y19 (x6i + Int32.ofInt 1) h20)))) else none) else b1)))
set_option maxRecDepth 100000 in
set_option maxHeartbeats 4000000 in
theorem m_X8_mendsAct (n : Nat) : (∀ (a1 : Int32) (a2 : Int32) (x3i : Int32) (x4i : Int32) (x5i : Int32) (x6i : Int32) (h : am_H) (v : Int32) (h' : am_H) (cr sr : Nat), am_stat h → g_X8_mendsAct n 0 a1 a2 x3i x4i x5i x6i h = some ((v, h'), cr, sr) → am_stat h') := by
  induction n with
  | zero => exact fun a1 a2 x3i x4i x5i x6i h v h' cr sr hs hf => (by cases hf)
  | succ n ih =>
    skip
    · intro a1 a2 x3i x4i x5i x6i h v h' cr sr hs hf
      have hf : (am_let (bif am_vp x3i 48 then (bif am_b01 x5i then (some ((x5i, (am_sI h 30 (Int32.toNatClampNeg x3i) x4i)), 0, 0)) else none) else none) fun b1 => ((if (Int32.ofInt 4) ≤ x6i then b1 else (if x5i = 0 then (if x6i = x4i then g_X8_mendsAct n 0 a1 a2 x3i x4i x5i (x6i + Int32.ofInt 1) h else bif am_vp x3i 48 then (am_bc (f_X6_explore n 37 (Int32.ofInt 1) (am_sI h 30 (Int32.toNatClampNeg x3i) x6i)) fun r8 h9 => (am_b2 (f_X6_isSound 37 h9) fun r16 h17 => (am_b2 ((if r16 = 0 then some (x5i, h17) else some ((Int32.ofInt 1), (am_sI (am_sI (am_sI h17 49 (Int32.toNatClampNeg (Int32.ofInt 0)) a1) 49 (Int32.toNatClampNeg (Int32.ofInt 1)) a2) 49 (Int32.toNatClampNeg (Int32.ofInt 2)) x6i)))) fun y19 h20 => (g_X8_mendsAct n 0 a1 a2 x3i x4i y19 (x6i + Int32.ofInt 1) h20)))) else none) else b1)))) = some ((v, h'), cr, sr) := hf
      obtain ⟨b1, k2, hf⟩ := am_let_ok hf
      refine am_cut (P := (bif am_vp x3i 48 then (bif am_b01 x5i then (some ((x5i, (am_sI h 30 (Int32.toNatClampNeg x3i) x4i)), 0, 0)) else none) else none) = some ((v, h'), cr, sr) → am_stat h') (fun B3 => ?_) ?_
      · skip
        by_cases c4 : (Int32.ofInt 4) ≤ x6i
        · rw [if_pos c4] at hf
          exact B3 (k2.symm.trans hf)
        · rw [if_neg c4] at hf
          by_cases c5 : x5i = 0
          · rw [if_pos c5] at hf
            by_cases c6 : x6i = x4i
            · rw [if_pos c6] at hf
              exact ih a1 a2 x3i x4i x5i (x6i + Int32.ofInt 1) h _ _ cr sr hs hf
            · rw [if_neg c6] at hf
              obtain ⟨b7, hf⟩ := am_bis hf
              obtain ⟨r8, h9, c11, s12, c13, s14, e10, hg15, rfl, rfl⟩ := am_bc_ok hf
              have hf := hg15
              have hs := s_X6_explore n 37 (Int32.ofInt 1) (am_sI h 30 (Int32.toNatClampNeg x3i) x6i) (Or.inl rfl) hs e10
              obtain ⟨r16, h17, e18, hf⟩ := am_b2_ok hf
              have hs := s_X6_isSound 37 h9 (Or.inl rfl) hs e18
              obtain ⟨y19, h20, j21, hf⟩ := am_b2_ok hf
              have hs0 := hs
              have hs : am_stat h20 := by
                have hs := hs0
                by_cases c22 : r16 = 0
                · rw [if_pos c22] at j21
                  obtain ⟨rfl, rfl⟩ := am_i2 j21
                  exact hs
                · rw [if_neg c22] at j21
                  obtain ⟨rfl, rfl⟩ := am_i2 j21
                  exact hs
              exact ih a1 a2 x3i x4i y19 (x6i + Int32.ofInt 1) h20 _ _ c13 s14 hs hf
          · rw [if_neg c5] at hf
            exact B3 (k2.symm.trans hf)
      intro hf
      obtain ⟨b73, hf⟩ := am_bis hf
      obtain ⟨b74, hf⟩ := am_bis hf
      obtain ⟨rfl, rfl, rfl, rfl⟩ := am_ic hf
      exact hs
set_option maxRecDepth 100000 in
set_option maxHeartbeats 4000000 in
theorem l_X8_mendsAct (n : Nat) : (∀ (a1 : Int32) (a2 : Int32) (x3i : Int32) (x4i : Int32) (x5i : Int32) (x6i : Int32) (h : am_H) (v : Int32) (h' : am_H) (cr sr : Nat) (Cc Ss ac sc : Nat), ac + cr ≤ Cc → sc + sr ≤ Ss → am_stat h → g_X8_mendsAct n 0 a1 a2 x3i x4i x5i x6i h = some ((v, h'), cr, sr) → AW mX8_mendsAct (rX8_mendsAct Cc Ss) (fun r h2 => r = some (.int v) ∧ h2 = h') 24 [(0, .ref 0), (1, .int a1), (2, .int a2), (3, .int x3i), (4, .int x4i), (5, .int x5i), (6, .int x6i)] [] h ac sc) := by
  induction n with
  | zero => exact fun a1 a2 x3i x4i x5i x6i h v h' cr sr Cc Ss ac sc hC hS hs hf => (by cases hf)
  | succ n ih =>
    skip
    · intro a1 a2 x3i x4i x5i x6i h v h' cr sr Cc Ss ac sc hC hS hs hf
      have hf : (am_let (bif am_vp x3i 48 then (bif am_b01 x5i then (some ((x5i, (am_sI h 30 (Int32.toNatClampNeg x3i) x4i)), 0, 0)) else none) else none) fun b1 => ((if (Int32.ofInt 4) ≤ x6i then b1 else (if x5i = 0 then (if x6i = x4i then g_X8_mendsAct n 0 a1 a2 x3i x4i x5i (x6i + Int32.ofInt 1) h else bif am_vp x3i 48 then (am_bc (f_X6_explore n 37 (Int32.ofInt 1) (am_sI h 30 (Int32.toNatClampNeg x3i) x6i)) fun r8 h9 => (am_b2 (f_X6_isSound 37 h9) fun r16 h17 => (am_b2 ((if r16 = 0 then some (x5i, h17) else some ((Int32.ofInt 1), (am_sI (am_sI (am_sI h17 49 (Int32.toNatClampNeg (Int32.ofInt 0)) a1) 49 (Int32.toNatClampNeg (Int32.ofInt 1)) a2) 49 (Int32.toNatClampNeg (Int32.ofInt 2)) x6i)))) fun y19 h20 => (g_X8_mendsAct n 0 a1 a2 x3i x4i y19 (x6i + Int32.ofInt 1) h20)))) else none) else b1)))) = some ((v, h'), cr, sr) := hf
      refine AW_go okX8_mendsAct 2 ?_
      obtain ⟨b1, k2, hf⟩ := am_let_ok hf
      refine am_cut (P := (bif am_vp x3i 48 then (bif am_b01 x5i then (some ((x5i, (am_sI h 30 (Int32.toNatClampNeg x3i) x4i)), 0, 0)) else none) else none) = some ((v, h'), cr, sr) → AW mX8_mendsAct (rX8_mendsAct Cc Ss) (fun r h2 => r = some (.int v) ∧ h2 = h') 106 [(0, .ref 0), (1, .int a1), (2, .int a2), (3, .int x3i), (4, .int x4i), (5, .int x5i), (6, .int x6i)] [] h ac sc) (fun B3 => ?_) ?_
      · skip
        refine AW_go okX8_mendsAct 1 ?_
        refine And.intro (fun c4 => ?_) (fun c4 => ?_)
        · rw [if_pos c4] at hf
          exact B3 (k2.symm.trans hf)
        · rw [if_neg c4] at hf
          refine AW_go okX8_mendsAct 2 ?_
          refine And.intro (fun c5 => ?_) (fun c5 => ?_)
          · rw [if_neg c5] at hf
            exact B3 (k2.symm.trans hf)
          · rw [if_pos c5] at hf
            refine AW_go okX8_mendsAct 3 ?_
            refine And.intro (fun c6 => ?_) (fun c6 => ?_)
            · rw [if_pos c6] at hf
              refine AW_go okX8_mendsAct 2 ?_
              refine AW_pick (lv' := [(0, .ref 0), (1, .int a1), (2, .int a2), (3, .int x3i), (4, .int x4i), (5, .int x5i), (6, .int (x6i + Int32.ofInt 1))]) [1, 2, 3, 4, 5, 6, 0] rfl ?_
              exact ih a1 a2 x3i x4i x5i (x6i + Int32.ofInt 1) h _ _ cr sr Cc Ss ac sc (by omega) (by omega) hs hf
            · rw [if_neg c6] at hf
              obtain ⟨b7, hf⟩ := am_bis hf
              refine AW_go okX8_mendsAct 11 ?_
              refine And.intro (sK hs 0) (Exists.intro _ (And.intro (sA hs 0 9) ?_))
              refine And.intro (sK hs 28) (Exists.intro _ (And.intro (sA hs 28 2) ?_))
              refine Exists.intro 48 (And.intro (sK hs 30) (And.intro (am_vp_ok b7) ?_))
              refine And.intro (sK hs 0) (Exists.intro _ (And.intro (sA hs 0 12) ?_))
              refine And.intro (sK hs 0) (Exists.intro _ (And.intro (sA hs 0 9) ?_))
              obtain ⟨r8, h9, c11, s12, c13, s14, e10, hg15, rfl, rfl⟩ := am_bc_ok hf
              have hf := hg15
              refine AW_callV (As := [.ref 28, .int (Int32.ofInt 1)]) (R' := rX6_explore c11 s12) (T := TX6) (N := 15) (ci := 6) (okX8_mendsAct.1 62 _ _ rfl) lkX6_explore kX8_336 rfl (sK hs 37) rfl (Nat.le_of_ble_eq_true rfl) ⟨(Nat.le_of_ble_eq_true rfl), (Nat.le_of_ble_eq_true rfl)⟩ ⟨show ac + c11 ≤ Cc by omega, show sc + s12 ≤ Ss by omega⟩ (Nat.le_of_ble_eq_true rfl) (c_X6_explore n 37 (Int32.ofInt 1) (am_sI h 30 (Int32.toNatClampNeg x3i) x6i) (Or.inl rfl) hs c11 s12 (by omega) (by omega) e10) (fun r h' hq => ?_)
              obtain ⟨rfl, hq⟩ := hq
              replace hq := hq.symm
              subst hq
              have hs := s_X6_explore n 37 (Int32.ofInt 1) (am_sI h 30 (Int32.toNatClampNeg x3i) x6i) (Or.inl rfl) hs e10
              refine AW_go okX8_mendsAct 2 ?_
              refine And.intro (sK hs 0) (Exists.intro _ (And.intro (sA hs 0 12) ?_))
              obtain ⟨r16, h17, e18, hf⟩ := am_b2_ok hf
              refine AW_callV (As := []) (R' := rX6_isSound 0 0) (T := TX6) (N := 15) (ci := 6) (okX8_mendsAct.1 69 _ _ rfl) lkX6_isSound kX8_272 rfl (sK hs 37) rfl (Nat.le_of_ble_eq_true rfl) ⟨(Nat.le_of_ble_eq_true rfl), (Nat.le_of_ble_eq_true rfl)⟩ ⟨show (ac + c11) + 0 ≤ Cc by omega, show (sc + s12) + 0 ≤ Ss by omega⟩ (Nat.le_of_ble_eq_true rfl) (c_X6_isSound 37 h9 (Or.inl rfl) hs e18) (fun r h' hq => ?_)
              obtain ⟨rfl, hq⟩ := hq
              replace hq := hq.symm
              subst hq
              have hs := s_X6_isSound 37 h9 (Or.inl rfl) hs e18
              obtain ⟨y19, h20, j21, hf⟩ := am_b2_ok hf
              have hs0 := hs
              have hs : am_stat h20 := by
                have hs := hs0
                by_cases c22 : r16 = 0
                · rw [if_pos c22] at j21
                  obtain ⟨rfl, rfl⟩ := am_i2 j21
                  exact hs
                · rw [if_neg c22] at j21
                  obtain ⟨rfl, rfl⟩ := am_i2 j21
                  exact hs
              refine am_cut (P := AW mX8_mendsAct (rX8_mendsAct Cc Ss) (fun r h2 => r = some (.int v) ∧ h2 = h') 100 [(0, .ref 0), (1, .int a1), (2, .int a2), (3, .int x3i), (4, .int x4i), (5, .int y19), (6, .int x6i)] [] h20 (ac + c11) (sc + s12)) (fun hJ21 => ?_) ?_
              · have hs := hs0
                refine AW_go okX8_mendsAct 1 ?_
                refine And.intro (fun c22 => ?_) (fun c22 => ?_)
                · rw [if_pos c22] at j21
                  obtain ⟨rfl, rfl⟩ := am_i2 j21
                  exact AW_pick [0, 1, 2, 3, 4, 5, 6] rfl hJ21
                · rw [if_neg c22] at j21
                  refine AW_go okX8_mendsAct 17 ?_
                  refine And.intro (sK hs 0) (Exists.intro _ (And.intro (sA hs 0 15) ?_))
                  refine Exists.intro 3 (And.intro (sK hs 49) (And.intro (by unfold vp_in; decide) ?_))
                  refine And.intro (sK hs 0) (Exists.intro _ (And.intro (sA hs 0 15) ?_))
                  refine Exists.intro 3 (And.intro (sK hs 49) (And.intro (by unfold vp_in; decide) ?_))
                  refine And.intro (sK hs 0) (Exists.intro _ (And.intro (sA hs 0 15) ?_))
                  refine Exists.intro 3 (And.intro (sK hs 49) (And.intro (by unfold vp_in; decide) ?_))
                  obtain ⟨rfl, rfl⟩ := am_i2 j21
                  exact AW_pick [1, 2, 3, 4, 5, 0, 6] rfl hJ21
              refine AW_go okX8_mendsAct 2 ?_
              refine AW_pick (lv' := [(0, .ref 0), (1, .int a1), (2, .int a2), (3, .int x3i), (4, .int x4i), (5, .int y19), (6, .int (x6i + Int32.ofInt 1))]) [1, 2, 3, 4, 5, 6, 0] rfl ?_
              exact ih a1 a2 x3i x4i y19 (x6i + Int32.ofInt 1) h20 _ _ c13 s14 Cc Ss (ac + c11) (sc + s12) (by omega) (by omega) hs hf
      intro hf
      obtain ⟨b73, hf⟩ := am_bis hf
      obtain ⟨b74, hf⟩ := am_bis hf
      refine AW_go okX8_mendsAct 8 ?_
      refine And.intro (sK hs 0) (Exists.intro _ (And.intro (sA hs 0 9) ?_))
      refine And.intro (sK hs 28) (Exists.intro _ (And.intro (sA hs 28 2) ?_))
      refine Exists.intro 48 (And.intro (sK hs 30) (And.intro (am_vp_ok b73) ?_))
      obtain ⟨rfl, rfl, rfl, rfl⟩ := am_ic hf
      exact And.intro ⟨show ac ≤ Cc by omega, show sc ≤ Ss by omega⟩ (And.intro (Or.inr ⟨rfl, am_b01_ok b74⟩) ⟨rfl, rfl⟩)
def f_X8_mendsAct (n : Nat) (a1 : Int32) (a2 : Int32) (h : am_H) : Option ((Int32 × am_H) × Nat × Nat) := bif am_vp (((Int32.ofInt 16) * a1) + a2) 48 then (g_X8_mendsAct n 0 a1 a2 (((Int32.ofInt 16) * a1) + a2) (am_I h 30 (Int32.toNatClampNeg (((Int32.ofInt 16) * a1) + a2))) (Int32.ofInt 0) (Int32.ofInt 0) h) else none
set_option maxRecDepth 100000 in
set_option maxHeartbeats 4000000 in
theorem s_X8_mendsAct (n : Nat) (a1 : Int32) (a2 : Int32) (h : am_H) (hs : am_stat h) {v : Int32} {h' : am_H} {cr sr : Nat} (hf : f_X8_mendsAct n a1 a2 h = some ((v, h'), cr, sr)) : am_stat h' := by
  unfold f_X8_mendsAct at hf
  obtain ⟨b1, hf⟩ := am_bis hf
  exact (m_X8_mendsAct n) a1 a2 (((Int32.ofInt 16) * a1) + a2) (am_I h 30 (Int32.toNatClampNeg (((Int32.ofInt 16) * a1) + a2))) (Int32.ofInt 0) (Int32.ofInt 0) h _ _ cr sr hs hf
set_option maxRecDepth 100000 in
set_option maxHeartbeats 4000000 in
theorem c_X8_mendsAct (n : Nat) (a1 : Int32) (a2 : Int32) (h : am_H) (hs : am_stat h) {v : Int32} {h' : am_H} {cr sr : Nat} (Cc Ss : Nat) (hC : 0 + cr ≤ Cc) (hS : 0 + sr ≤ Ss) (hf : f_X8_mendsAct n a1 a2 h = some ((v, h'), cr, sr)) : AMet mX8_mendsAct (rX8_mendsAct Cc Ss) (fun r h2 => r = some (.int v) ∧ h2 = h') [.ref 0, .int a1, .int a2] h := by
  unfold f_X8_mendsAct at hf
  obtain ⟨b1, hf⟩ := am_bis hf
  refine AW_go okX8_mendsAct 16 ?_
  refine And.intro (sK hs 0) (Exists.intro _ (And.intro (sA hs 0 9) ?_))
  refine And.intro (sK hs 28) (Exists.intro _ (And.intro (sA hs 28 2) ?_))
  refine Exists.intro 48 (And.intro (sK hs 30) (And.intro (am_vp_ok b1) ?_))
  refine AW_pick (lv' := [(0, .ref 0), (1, .int a1), (2, .int a2), (3, .int (((Int32.ofInt 16) * a1) + a2)), (4, .int (am_I h 30 (Int32.toNatClampNeg (((Int32.ofInt 16) * a1) + a2)))), (5, .int (Int32.ofInt 0)), (6, .int (Int32.ofInt 0))]) [4, 5, 6, 3, 2, 1, 0] rfl ?_
  exact (l_X8_mendsAct n) a1 a2 (((Int32.ofInt 16) * a1) + a2) (am_I h 30 (Int32.toNatClampNeg (((Int32.ofInt 16) * a1) + a2))) (Int32.ofInt 0) (Int32.ofInt 0) h _ _ cr sr Cc Ss 0 0 (by omega) (by omega) hs hf
def g_X2_fold : Nat → Nat → Nat → Int32 → Int32 → Int32 → am_H → Option ((Nat × am_H) × Nat × Nat)
  | 0, _, _, _, _, _, _ => none
  | n + 1, tag, a1, x2i, x3i, x4i, h => bif Nat.beq tag 0 then (bif am_isO h a1 0 then ((if (am_I h a1 0) < x3i then g_X2_fold n 1 a1 x2i (Int32.ofInt 0) 0 h else (am_A h a1 2).bind fun q3 => ((am_ln h 0 q3).bind fun n5 => (bif am_vp x3i n5 then (g_X2_fold n 0 a1 (x2i ||| (((am_I h q3 (Int32.toNatClampNeg x3i)) &&& (Int32.ofInt 1)) <<< (x3i &&& 31))) (x3i + Int32.ofInt 1) 0 h) else none)))) else none) else (bif Nat.beq tag 1 then ((if (am_I h 12 0) ≤ x3i then am_b2 (f_X2_refine n h) fun r2 h3 => (g_X2_fold n 2 a1 x2i r2 (Int32.ofInt 0) h3) else (am_A h 12 3).bind fun q5 => ((am_A h 12 1).bind fun q7 => ((am_ln h 0 q7).bind fun n9 => (bif am_vp x3i n9 then (Option.bind ((if ((am_I h q7 (Int32.toNatClampNeg x3i)) &&& x2i) = 0 then some (Int32.ofInt 0) else some (Int32.ofInt 1))) fun y12 => ((am_ln h 0 q5).bind fun n65 => (bif am_vp x3i n65 then (g_X2_fold n 1 a1 x2i (x3i + Int32.ofInt 1) 0 (am_sI h q5 (Int32.toNatClampNeg x3i) y12)) else none))) else none))))) else ((if (am_I h 12 0) ≤ x4i then am_bc (f_X2_folded n x3i x2i h) fun r2 h3 => (some ((r2, h3), 0, 0)) else am_b2 (f_X2_refine n h) fun r10 h11 => ((if r10 = x3i then am_bc (f_X2_folded n x3i x2i h11) fun r14 h15 => (some ((r14, h15), 0, 0)) else g_X2_fold n 2 a1 x2i r10 (x4i + Int32.ofInt 1) h11)))))
set_option maxRecDepth 100000 in
set_option maxHeartbeats 4000000 in
theorem m_X2_fold (n : Nat) : (∀ (a1 : Nat) (x2i : Int32) (x3i : Int32) (x4i : Int32) (h : am_H) (v : Nat) (h' : am_H) (cr sr : Nat), am_stat h → g_X2_fold n 0 a1 x2i x3i x4i h = some ((v, h'), cr, sr) → am_stat h') ∧ (∀ (a1 : Nat) (x2i : Int32) (x3i : Int32) (x4i : Int32) (h : am_H) (v : Nat) (h' : am_H) (cr sr : Nat), am_stat h → g_X2_fold n 1 a1 x2i x3i x4i h = some ((v, h'), cr, sr) → am_stat h') ∧ (∀ (a1 : Nat) (x2i : Int32) (x3i : Int32) (x4i : Int32) (h : am_H) (v : Nat) (h' : am_H) (cr sr : Nat), am_stat h → g_X2_fold n 2 a1 x2i x3i x4i h = some ((v, h'), cr, sr) → am_stat h') := by
  induction n with
  | zero => exact ⟨fun a1 x2i x3i x4i h v h' cr sr hs hf => (by cases hf), fun a1 x2i x3i x4i h v h' cr sr hs hf => (by cases hf), fun a1 x2i x3i x4i h v h' cr sr hs hf => (by cases hf)⟩
  | succ n ih =>
    refine ⟨?_, ?_, ?_⟩
    · intro a1 x2i x3i x4i h v h' cr sr hs hf
      have hf : (bif am_isO h a1 0 then ((if (am_I h a1 0) < x3i then g_X2_fold n 1 a1 x2i (Int32.ofInt 0) 0 h else (am_A h a1 2).bind fun q3 => ((am_ln h 0 q3).bind fun n5 => (bif am_vp x3i n5 then (g_X2_fold n 0 a1 (x2i ||| (((am_I h q3 (Int32.toNatClampNeg x3i)) &&& (Int32.ofInt 1)) <<< (x3i &&& 31))) (x3i + Int32.ofInt 1) 0 h) else none)))) else none) = some ((v, h'), cr, sr) := hf
      obtain ⟨k1, hf⟩ := am_bis hf
      by_cases c2 : (am_I h a1 0) < x3i
      · rw [if_pos c2] at hf
        exact ih.2.1 a1 x2i (Int32.ofInt 0) 0 h _ _ cr sr hs hf
      · rw [if_neg c2] at hf
        obtain ⟨q3, k4, hf⟩ := am_bnd hf
        obtain ⟨n5, k6, hf⟩ := am_bnd hf
        obtain ⟨b7, hf⟩ := am_bis hf
        exact ih.1 a1 (x2i ||| (((am_I h q3 (Int32.toNatClampNeg x3i)) &&& (Int32.ofInt 1)) <<< (x3i &&& 31))) (x3i + Int32.ofInt 1) 0 h _ _ cr sr hs hf
    · intro a1 x2i x3i x4i h v h' cr sr hs hf
      have hf : ((if (am_I h 12 0) ≤ x3i then am_b2 (f_X2_refine n h) fun r2 h3 => (g_X2_fold n 2 a1 x2i r2 (Int32.ofInt 0) h3) else (am_A h 12 3).bind fun q5 => ((am_A h 12 1).bind fun q7 => ((am_ln h 0 q7).bind fun n9 => (bif am_vp x3i n9 then (Option.bind ((if ((am_I h q7 (Int32.toNatClampNeg x3i)) &&& x2i) = 0 then some (Int32.ofInt 0) else some (Int32.ofInt 1))) fun y12 => ((am_ln h 0 q5).bind fun n65 => (bif am_vp x3i n65 then (g_X2_fold n 1 a1 x2i (x3i + Int32.ofInt 1) 0 (am_sI h q5 (Int32.toNatClampNeg x3i) y12)) else none))) else none))))) = some ((v, h'), cr, sr) := hf
      by_cases c1 : (am_I h 12 0) ≤ x3i
      · rw [if_pos c1] at hf
        obtain ⟨r2, h3, e4, hf⟩ := am_b2_ok hf
        have hs := s_X2_refine n h hs e4
        exact ih.2.2 a1 x2i r2 (Int32.ofInt 0) h3 _ _ cr sr hs hf
      · rw [if_neg c1] at hf
        obtain ⟨q5, k6, hf⟩ := am_bnd hf
        obtain ⟨q7, k8, hf⟩ := am_bnd hf
        obtain ⟨n9, k10, hf⟩ := am_bnd hf
        obtain ⟨b11, hf⟩ := am_bis hf
        obtain ⟨y12, j13, hf⟩ := am_bnd hf
        obtain ⟨n65, k66, hf⟩ := am_bnd hf
        obtain ⟨b67, hf⟩ := am_bis hf
        exact ih.2.1 a1 x2i (x3i + Int32.ofInt 1) 0 (am_sI h q5 (Int32.toNatClampNeg x3i) y12) _ _ cr sr hs hf
    · intro a1 x2i x3i x4i h v h' cr sr hs hf
      have hf : ((if (am_I h 12 0) ≤ x4i then am_bc (f_X2_folded n x3i x2i h) fun r2 h3 => (some ((r2, h3), 0, 0)) else am_b2 (f_X2_refine n h) fun r10 h11 => ((if r10 = x3i then am_bc (f_X2_folded n x3i x2i h11) fun r14 h15 => (some ((r14, h15), 0, 0)) else g_X2_fold n 2 a1 x2i r10 (x4i + Int32.ofInt 1) h11)))) = some ((v, h'), cr, sr) := hf
      by_cases c1 : (am_I h 12 0) ≤ x4i
      · rw [if_pos c1] at hf
        obtain ⟨r2, h3, c5, s6, c7, s8, e4, hg9, rfl, rfl⟩ := am_bc_ok hf
        have hf := hg9
        have hs := s_X2_folded n x3i x2i h hs e4
        obtain ⟨rfl, rfl, rfl, rfl⟩ := am_ic hf
        exact hs
      · rw [if_neg c1] at hf
        obtain ⟨r10, h11, e12, hf⟩ := am_b2_ok hf
        have hs := s_X2_refine n h hs e12
        by_cases c13 : r10 = x3i
        · rw [if_pos c13] at hf
          obtain ⟨r14, h15, c17, s18, c19, s20, e16, hg21, rfl, rfl⟩ := am_bc_ok hf
          have hf := hg21
          have hs := s_X2_folded n x3i x2i h11 hs e16
          obtain ⟨rfl, rfl, rfl, rfl⟩ := am_ic hf
          exact hs
        · rw [if_neg c13] at hf
          exact ih.2.2 a1 x2i r10 (x4i + Int32.ofInt 1) h11 _ _ cr sr hs hf
set_option maxRecDepth 100000 in
set_option maxHeartbeats 4000000 in
theorem l_X2_fold (n : Nat) : (∀ (a1 : Nat) (x2i : Int32) (x3i : Int32) (x4i : Int32) (h : am_H) (v : Nat) (h' : am_H) (cr sr : Nat) (Cc Ss ac sc : Nat), ac + cr ≤ Cc → sc + sr ≤ Ss → am_stat h → g_X2_fold n 0 a1 x2i x3i x4i h = some ((v, h'), cr, sr) → AW mX2_fold (rX2_fold Cc Ss) (fun r h2 => r = some (.ref v) ∧ h2 = h') 9 [(0, .ref 12), (1, .ref a1), (2, .int x2i), (3, .int x3i)] [] h ac sc) ∧ (∀ (a1 : Nat) (x2i : Int32) (x3i : Int32) (x4i : Int32) (h : am_H) (v : Nat) (h' : am_H) (cr sr : Nat) (Cc Ss ac sc : Nat), ac + cr ≤ Cc → sc + sr ≤ Ss → am_stat h → g_X2_fold n 1 a1 x2i x3i x4i h = some ((v, h'), cr, sr) → AW mX2_fold (rX2_fold Cc Ss) (fun r h2 => r = some (.ref v) ∧ h2 = h') 38 [(0, .ref 12), (1, .ref a1), (2, .int x2i), (3, .int x3i)] [] h ac sc) ∧ (∀ (a1 : Nat) (x2i : Int32) (x3i : Int32) (x4i : Int32) (h : am_H) (v : Nat) (h' : am_H) (cr sr : Nat) (Cc Ss ac sc : Nat), ac + cr ≤ Cc → sc + sr ≤ Ss → am_stat h → g_X2_fold n 2 a1 x2i x3i x4i h = some ((v, h'), cr, sr) → AW mX2_fold (rX2_fold Cc Ss) (fun r h2 => r = some (.ref v) ∧ h2 = h') 82 [(0, .ref 12), (1, .ref a1), (2, .int x2i), (3, .int x3i), (4, .int x4i)] [] h ac sc) := by
  induction n with
  | zero => exact ⟨fun a1 x2i x3i x4i h v h' cr sr Cc Ss ac sc hC hS hs hf => (by cases hf), fun a1 x2i x3i x4i h v h' cr sr Cc Ss ac sc hC hS hs hf => (by cases hf), fun a1 x2i x3i x4i h v h' cr sr Cc Ss ac sc hC hS hs hf => (by cases hf)⟩
  | succ n ih =>
    refine ⟨?_, ?_, ?_⟩
    · intro a1 x2i x3i x4i h v h' cr sr Cc Ss ac sc hC hS hs hf
      have hf : (bif am_isO h a1 0 then ((if (am_I h a1 0) < x3i then g_X2_fold n 1 a1 x2i (Int32.ofInt 0) 0 h else (am_A h a1 2).bind fun q3 => ((am_ln h 0 q3).bind fun n5 => (bif am_vp x3i n5 then (g_X2_fold n 0 a1 (x2i ||| (((am_I h q3 (Int32.toNatClampNeg x3i)) &&& (Int32.ofInt 1)) <<< (x3i &&& 31))) (x3i + Int32.ofInt 1) 0 h) else none)))) else none) = some ((v, h'), cr, sr) := hf
      obtain ⟨k1, hf⟩ := am_bis hf
      refine AW_go okX2_fold 4 ?_
      refine And.intro (am_isO_ok k1) ?_
      refine And.intro (fun c2 => ?_) (fun c2 => ?_)
      · rw [if_pos c2] at hf
        refine AW_go okX2_fold 2 ?_
        refine AW_pick (lv' := [(0, .ref 12), (1, .ref a1), (2, .int x2i), (3, .int (Int32.ofInt 0))]) [1, 2, 3, 0] rfl ?_
        exact ih.2.1 a1 x2i (Int32.ofInt 0) 0 h _ _ cr sr Cc Ss ac sc (by omega) (by omega) hs hf
      · rw [if_neg c2] at hf
        obtain ⟨q3, k4, hf⟩ := am_bnd hf
        obtain ⟨n5, k6, hf⟩ := am_bnd hf
        obtain ⟨b7, hf⟩ := am_bis hf
        refine AW_go okX2_fold 13 ?_
        refine And.intro (am_isO_ok k1) (Exists.intro (some q3) (And.intro k4 ?_))
        refine Exists.intro n5 (And.intro (am_ln_ok k6) (And.intro (am_vp_ok b7) ?_))
        refine AW_pick (lv' := [(0, .ref 12), (1, .ref a1), (2, .int (x2i ||| (((am_I h q3 (Int32.toNatClampNeg x3i)) &&& (Int32.ofInt 1)) <<< (x3i &&& 31)))), (3, .int (x3i + Int32.ofInt 1))]) [2, 3, 1, 0] rfl ?_
        exact ih.1 a1 (x2i ||| (((am_I h q3 (Int32.toNatClampNeg x3i)) &&& (Int32.ofInt 1)) <<< (x3i &&& 31))) (x3i + Int32.ofInt 1) 0 h _ _ cr sr Cc Ss ac sc (by omega) (by omega) hs hf
    · intro a1 x2i x3i x4i h v h' cr sr Cc Ss ac sc hC hS hs hf
      have hf : ((if (am_I h 12 0) ≤ x3i then am_b2 (f_X2_refine n h) fun r2 h3 => (g_X2_fold n 2 a1 x2i r2 (Int32.ofInt 0) h3) else (am_A h 12 3).bind fun q5 => ((am_A h 12 1).bind fun q7 => ((am_ln h 0 q7).bind fun n9 => (bif am_vp x3i n9 then (Option.bind ((if ((am_I h q7 (Int32.toNatClampNeg x3i)) &&& x2i) = 0 then some (Int32.ofInt 0) else some (Int32.ofInt 1))) fun y12 => ((am_ln h 0 q5).bind fun n65 => (bif am_vp x3i n65 then (g_X2_fold n 1 a1 x2i (x3i + Int32.ofInt 1) 0 (am_sI h q5 (Int32.toNatClampNeg x3i) y12)) else none))) else none))))) = some ((v, h'), cr, sr) := hf
      refine AW_go okX2_fold 4 ?_
      refine And.intro (sK hs 12) ?_
      refine And.intro (fun c1 => ?_) (fun c1 => ?_)
      · rw [if_pos c1] at hf
        refine AW_go okX2_fold 1 ?_
        obtain ⟨r2, h3, e4, hf⟩ := am_b2_ok hf
        refine AW_callV (As := []) (R' := rX2_refine 0 0) (T := TX2) (N := 7) (ci := 2) (okX2_fold.1 75 _ _ rfl) lkX2_refine kX2_46 rfl (sK hs 12) rfl (Nat.le_of_ble_eq_true rfl) ⟨(Nat.le_of_ble_eq_true rfl), (Nat.le_of_ble_eq_true rfl)⟩ ⟨show ac + 0 ≤ Cc by omega, show sc + 0 ≤ Ss by omega⟩ (Nat.le_of_ble_eq_true rfl) (c_X2_refine n h hs e4) (fun r h' hq => ?_)
        obtain ⟨rfl, hq⟩ := hq
        replace hq := hq.symm
        subst hq
        have hs := s_X2_refine n h hs e4
        refine AW_go okX2_fold 3 ?_
        refine AW_pick (lv' := [(0, .ref 12), (1, .ref a1), (2, .int x2i), (3, .int r2), (4, .int (Int32.ofInt 0))]) [2, 3, 4, 1, 0] rfl ?_
        exact ih.2.2 a1 x2i r2 (Int32.ofInt 0) h3 _ _ cr sr Cc Ss ac sc (by omega) (by omega) hs hf
      · rw [if_neg c1] at hf
        obtain ⟨q5, k6, hf⟩ := am_bnd hf
        obtain ⟨q7, k8, hf⟩ := am_bnd hf
        obtain ⟨n9, k10, hf⟩ := am_bnd hf
        obtain ⟨b11, hf⟩ := am_bis hf
        refine AW_go okX2_fold 9 ?_
        refine And.intro (sK hs 12) (Exists.intro (some q5) (And.intro k6 ?_))
        refine And.intro (sK hs 12) (Exists.intro (some q7) (And.intro k8 ?_))
        refine Exists.intro n9 (And.intro (am_ln_ok k10) (And.intro (am_vp_ok b11) ?_))
        obtain ⟨y12, j13, hf⟩ := am_bnd hf
        refine am_cut (P := AW mX2_fold (rX2_fold Cc Ss) (fun r h2 => r = some (.ref v) ∧ h2 = h') 67 [(0, .ref 12), (1, .ref a1), (2, .int x2i), (3, .int x3i)] [.int y12, .int x3i, .ref q5] h ac sc) (fun hJ13 => ?_) ?_
        · have hs := hs
          refine AW_go okX2_fold 1 ?_
          refine And.intro (fun c14 => ?_) (fun c14 => ?_)
          · rw [if_pos c14] at j13
            refine AW_go okX2_fold 1 ?_
            obtain rfl := am_i1 j13
            exact AW_pick [0, 1, 2, 3] rfl hJ13
          · rw [if_neg c14] at j13
            refine AW_go okX2_fold 2 ?_
            obtain rfl := am_i1 j13
            exact AW_pick [0, 1, 2, 3] rfl hJ13
        obtain ⟨n65, k66, hf⟩ := am_bnd hf
        obtain ⟨b67, hf⟩ := am_bis hf
        refine AW_go okX2_fold 3 ?_
        refine Exists.intro n65 (And.intro (am_ln_ok k66) (And.intro (am_vp_ok b67) ?_))
        refine AW_pick (lv' := [(0, .ref 12), (1, .ref a1), (2, .int x2i), (3, .int (x3i + Int32.ofInt 1))]) [1, 2, 3, 0] rfl ?_
        exact ih.2.1 a1 x2i (x3i + Int32.ofInt 1) 0 (am_sI h q5 (Int32.toNatClampNeg x3i) y12) _ _ cr sr Cc Ss ac sc (by omega) (by omega) hs hf
    · intro a1 x2i x3i x4i h v h' cr sr Cc Ss ac sc hC hS hs hf
      have hf : ((if (am_I h 12 0) ≤ x4i then am_bc (f_X2_folded n x3i x2i h) fun r2 h3 => (some ((r2, h3), 0, 0)) else am_b2 (f_X2_refine n h) fun r10 h11 => ((if r10 = x3i then am_bc (f_X2_folded n x3i x2i h11) fun r14 h15 => (some ((r14, h15), 0, 0)) else g_X2_fold n 2 a1 x2i r10 (x4i + Int32.ofInt 1) h11)))) = some ((v, h'), cr, sr) := hf
      refine AW_go okX2_fold 4 ?_
      refine And.intro (sK hs 12) ?_
      refine And.intro (fun c1 => ?_) (fun c1 => ?_)
      · rw [if_pos c1] at hf
        refine AW_go okX2_fold 3 ?_
        obtain ⟨r2, h3, c5, s6, c7, s8, e4, hg9, rfl, rfl⟩ := am_bc_ok hf
        have hf := hg9
        refine AW_callV (As := [.int x3i, .int x2i]) (R' := rX2_folded c5 s6) (T := TX2) (N := 7) (ci := 2) (okX2_fold.1 118 _ _ rfl) lkX2_folded kX2_50 rfl (sK hs 12) rfl (Nat.le_of_ble_eq_true rfl) ⟨(Nat.le_of_ble_eq_true rfl), (Nat.le_of_ble_eq_true rfl)⟩ ⟨show ac + c5 ≤ Cc by omega, show sc + s6 ≤ Ss by omega⟩ (Nat.le_of_ble_eq_true rfl) (c_X2_folded n x3i x2i h hs c5 s6 (by omega) (by omega) e4) (fun r h' hq => ?_)
        obtain ⟨rfl, hq⟩ := hq
        replace hq := hq.symm
        subst hq
        have hs := s_X2_folded n x3i x2i h hs e4
        refine AW_go okX2_fold 1 ?_
        obtain ⟨rfl, rfl, rfl, rfl⟩ := am_ic hf
        exact And.intro ⟨show (ac + c5) ≤ Cc by omega, show (sc + s6) ≤ Ss by omega⟩ (And.intro ⟨_, rfl, rfl⟩ ⟨rfl, rfl⟩)
      · rw [if_neg c1] at hf
        refine AW_go okX2_fold 1 ?_
        obtain ⟨r10, h11, e12, hf⟩ := am_b2_ok hf
        refine AW_callV (As := []) (R' := rX2_refine 0 0) (T := TX2) (N := 7) (ci := 2) (okX2_fold.1 92 _ _ rfl) lkX2_refine kX2_46 rfl (sK hs 12) rfl (Nat.le_of_ble_eq_true rfl) ⟨(Nat.le_of_ble_eq_true rfl), (Nat.le_of_ble_eq_true rfl)⟩ ⟨show ac + 0 ≤ Cc by omega, show sc + 0 ≤ Ss by omega⟩ (Nat.le_of_ble_eq_true rfl) (c_X2_refine n h hs e12) (fun r h' hq => ?_)
        obtain ⟨rfl, hq⟩ := hq
        replace hq := hq.symm
        subst hq
        have hs := s_X2_refine n h hs e12
        refine AW_go okX2_fold 4 ?_
        refine And.intro (fun c13 => ?_) (fun c13 => ?_)
        · rw [if_neg c13] at hf
          refine AW_go okX2_fold 4 ?_
          refine AW_pick (lv' := [(0, .ref 12), (1, .ref a1), (2, .int x2i), (3, .int r10), (4, .int (x4i + Int32.ofInt 1))]) [3, 4, 5, 1, 0] rfl ?_
          exact ih.2.2 a1 x2i r10 (x4i + Int32.ofInt 1) h11 _ _ cr sr Cc Ss ac sc (by omega) (by omega) hs hf
        · rw [if_pos c13] at hf
          refine AW_go okX2_fold 4 ?_
          obtain ⟨r14, h15, c17, s18, c19, s20, e16, hg21, rfl, rfl⟩ := am_bc_ok hf
          have hf := hg21
          refine AW_callV (As := [.int x3i, .int x2i]) (R' := rX2_folded c17 s18) (T := TX2) (N := 7) (ci := 2) (okX2_fold.1 118 _ _ rfl) lkX2_folded kX2_50 rfl (sK hs 12) rfl (Nat.le_of_ble_eq_true rfl) ⟨(Nat.le_of_ble_eq_true rfl), (Nat.le_of_ble_eq_true rfl)⟩ ⟨show ac + c17 ≤ Cc by omega, show sc + s18 ≤ Ss by omega⟩ (Nat.le_of_ble_eq_true rfl) (c_X2_folded n x3i x2i h11 hs c17 s18 (by omega) (by omega) e16) (fun r h' hq => ?_)
          obtain ⟨rfl, hq⟩ := hq
          replace hq := hq.symm
          subst hq
          have hs := s_X2_folded n x3i x2i h11 hs e16
          refine AW_go okX2_fold 1 ?_
          obtain ⟨rfl, rfl, rfl, rfl⟩ := am_ic hf
          exact And.intro ⟨show (ac + c17) ≤ Cc by omega, show (sc + s18) ≤ Ss by omega⟩ (And.intro ⟨_, rfl, rfl⟩ ⟨rfl, rfl⟩)
def f_X2_fold (n : Nat) (a1 : Nat) (h : am_H) : Option ((Nat × am_H) × Nat × Nat) := am_bc (f_X2_gatherSets n a1 h) fun r1 h2 => (g_X2_fold n 0 a1 (Int32.ofInt 0) (Int32.ofInt 0) 0 h2)
set_option maxRecDepth 100000 in
set_option maxHeartbeats 4000000 in
theorem s_X2_fold (n : Nat) (a1 : Nat) (h : am_H) (hs : am_stat h) {v : Nat} {h' : am_H} {cr sr : Nat} (hf : f_X2_fold n a1 h = some ((v, h'), cr, sr)) : am_stat h' := by
  unfold f_X2_fold at hf
  obtain ⟨r1, h2, c4, s5, c6, s7, e3, hg8, rfl, rfl⟩ := am_bc_ok hf
  have hf := hg8
  have hs := s_X2_gatherSets n a1 h hs e3
  exact (m_X2_fold n).1 a1 (Int32.ofInt 0) (Int32.ofInt 0) 0 h2 _ _ c6 s7 hs hf
set_option maxRecDepth 100000 in
set_option maxHeartbeats 4000000 in
theorem c_X2_fold (n : Nat) (a1 : Nat) (h : am_H) (hs : am_stat h) {v : Nat} {h' : am_H} {cr sr : Nat} (Cc Ss : Nat) (hC : 0 + cr ≤ Cc) (hS : 0 + sr ≤ Ss) (hf : f_X2_fold n a1 h = some ((v, h'), cr, sr)) : AMet mX2_fold (rX2_fold Cc Ss) (fun r h2 => r = some (.ref v) ∧ h2 = h') [.ref 12, .ref a1] h := by
  unfold f_X2_fold at hf
  refine AW_go okX2_fold 2 ?_
  obtain ⟨r1, h2, c4, s5, c6, s7, e3, hg8, rfl, rfl⟩ := am_bc_ok hf
  have hf := hg8
  refine AW_callV (As := [.ref a1]) (R' := rX2_gatherSets c4 s5) (T := TX2) (N := 7) (ci := 2) (okX2_fold.1 2 _ _ rfl) lkX2_gatherSets kX2_30 rfl (sK hs 12) rfl (Nat.le_of_ble_eq_true rfl) ⟨(Nat.le_of_ble_eq_true rfl), (Nat.le_of_ble_eq_true rfl)⟩ ⟨show 0 + c4 ≤ Cc by omega, show 0 + s5 ≤ Ss by omega⟩ (Nat.le_of_ble_eq_true rfl) (c_X2_gatherSets n a1 h hs c4 s5 (by omega) (by omega) e3) (fun r h' hq => ?_)
  obtain ⟨rfl, hq⟩ := hq
  replace hq := hq.symm
  subst hq
  have hs := s_X2_gatherSets n a1 h hs e3
  refine AW_go okX2_fold 4 ?_
  refine AW_pick (lv' := [(0, .ref 12), (1, .ref a1), (2, .int (Int32.ofInt 0)), (3, .int (Int32.ofInt 0))]) [2, 3, 1, 0] rfl ?_
  exact (l_X2_fold n).1 a1 (Int32.ofInt 0) (Int32.ofInt 0) 0 h2 _ _ c6 s7 Cc Ss (0 + c4) (0 + s5) (by omega) (by omega) hs hf
