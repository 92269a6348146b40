def f_X8_twin (n : Nat) (a1 : Int32) (h : am_H) : Option ((Int32 × am_H) × Nat × Nat) := am_b2 (f_X8_isBook a1 h) fun r1 h2 => ((if r1 = 0 then some (((Int32.ofInt (-101)), h2), 0, 0) else (if (am_I h2 0 5) < (Int32.ofInt 8) then bif am_vp a1 8 then ((am_A h2 25 (Int32.toNatClampNeg a1)).bind fun q7 => (bif am_isO h2 q7 0 then (am_bc (f_X0_mirrored n q7 h2) fun r10 h11 => (am_b2 (f_X8_keep r10 h11) fun r18 h19 => (some ((r18, h19), 0, 0)))) else none)) else none else some (((Int32.ofInt (-104)), h2), 0, 0))))
set_option maxRecDepth 100000 in
set_option maxHeartbeats 4000000 in
theorem s_X8_twin (n : Nat) (a1 : Int32) (h : am_H) (hs : am_stat h) {v : Int32} {h' : am_H} {cr sr : Nat} (hf : f_X8_twin n a1 h = some ((v, h'), cr, sr)) : am_stat h' := by
  unfold f_X8_twin at hf
  obtain ⟨r1, h2, e3, hf⟩ := am_b2_ok hf
  have hs := s_X8_isBook a1 h hs e3
  by_cases c4 : r1 = 0
  · rw [if_pos c4] at hf
    obtain ⟨rfl, rfl, rfl, rfl⟩ := am_ic hf
    exact hs
  · rw [if_neg c4] at hf
    by_cases c5 : (am_I h2 0 5) < (Int32.ofInt 8)
    · rw [if_pos c5] at hf
      obtain ⟨b6, hf⟩ := am_bis hf
      obtain ⟨q7, k8, hf⟩ := am_bnd hf
      obtain ⟨k9, hf⟩ := am_bis hf
      obtain ⟨r10, h11, c13, s14, c15, s16, e12, hg17, rfl, rfl⟩ := am_bc_ok hf
      have hf := hg17
      have hs := s_X0_mirrored n q7 h2 hs e12
      obtain ⟨r18, h19, e20, hf⟩ := am_b2_ok hf
      have hs := s_X8_keep r10 h11 hs e20
      obtain ⟨rfl, rfl, rfl, rfl⟩ := am_ic hf
      exact hs
    · rw [if_neg c5] at hf
      obtain ⟨rfl, rfl, rfl, rfl⟩ := am_ic hf
      exact hs
set_option maxRecDepth 100000 in
set_option maxHeartbeats 4000000 in
theorem c_X8_twin (n : Nat) (a1 : Int32) (h : am_H) (hs : am_stat h) {v : Int32} {h' : am_H} {cr sr : Nat} (Cc Ss : Nat) (hC : 0 + cr ≤ Cc) (hS : 0 + sr ≤ Ss) (hf : f_X8_twin n a1 h = some ((v, h'), cr, sr)) : AMet mX8_twin (rX8_twin Cc Ss) (fun r h2 => r = some (.int v) ∧ h2 = h') [.ref 0, .int a1] h := by
  unfold f_X8_twin at hf
  refine AW_go okX8_twin 2 ?_
  obtain ⟨r1, h2, e3, hf⟩ := am_b2_ok hf
  refine AW_callV (As := [.int a1]) (R' := rX8_isBook 0 0) (T := TX8) (N := 18) (ci := 8) (okX8_twin.1 2 _ _ rfl) lkX8_isBook kX8_116 rfl (sK hs 0) rfl (Nat.le_of_ble_eq_true rfl) ⟨(Nat.le_of_ble_eq_true rfl), (Nat.le_of_ble_eq_true rfl)⟩ ⟨show 0 + 0 ≤ Cc by omega, show 0 + 0 ≤ Ss by omega⟩ (Nat.le_of_ble_eq_true rfl) (c_X8_isBook a1 h hs e3) (fun r h' hq => ?_)
  obtain ⟨rfl, hq⟩ := hq
  replace hq := hq.symm
  subst hq
  have hs := s_X8_isBook a1 h hs e3
  refine AW_go okX8_twin 1 ?_
  refine And.intro (fun c4 => ?_) (fun c4 => ?_)
  · rw [if_neg c4] at hf
    refine AW_go okX8_twin 4 ?_
    refine And.intro (sK hs 0) ?_
    refine And.intro (fun c5 => ?_) (fun c5 => ?_)
    · rw [if_pos c5] at hf
      obtain ⟨b6, hf⟩ := am_bis hf
      obtain ⟨q7, k8, hf⟩ := am_bnd hf
      obtain ⟨k9, hf⟩ := am_bis hf
      refine AW_go okX8_twin 5 ?_
      refine And.intro (sK hs 0) (Exists.intro _ (And.intro (sA hs 0 4) ?_))
      refine Exists.intro 4 (Exists.intro 8 (Exists.intro (some q7) (And.intro (by decide) (And.intro (sK hs 25) (And.intro (am_vp_ok b6) (And.intro k8 ?_))))))
      obtain ⟨r10, h11, c13, s14, c15, s16, e12, hg17, rfl, rfl⟩ := am_bc_ok hf
      have hf := hg17
      refine AW_callV (As := []) (R' := rX0_mirrored c13 s14) (T := TX0) (N := 4) (ci := 0) (okX8_twin.1 32 _ _ rfl) lkX0_mirrored kX8_119 rfl (am_isO_ok k9) rfl (Nat.le_of_ble_eq_true rfl) ⟨(Nat.le_of_ble_eq_true rfl), (Nat.le_of_ble_eq_true rfl)⟩ ⟨show 0 + c13 ≤ Cc by omega, show 0 + s14 ≤ Ss by omega⟩ (Nat.le_of_ble_eq_true rfl) (c_X0_mirrored n q7 h2 hs c13 s14 (by omega) (by omega) e12) (fun r h' hq => ?_)
      obtain ⟨rfl, hq⟩ := hq
      replace hq := hq.symm
      subst hq
      have hs := s_X0_mirrored n q7 h2 hs e12
      obtain ⟨r18, h19, e20, hf⟩ := am_b2_ok hf
      refine AW_callV (As := [.ref r10]) (R' := rX8_keep 0 0) (T := TX8) (N := 18) (ci := 8) (okX8_twin.1 35 _ _ rfl) lkX8_keep kX8_98 rfl (sK hs 0) rfl (Nat.le_of_ble_eq_true rfl) ⟨(Nat.le_of_ble_eq_true rfl), (Nat.le_of_ble_eq_true rfl)⟩ ⟨show (0 + c13) + 0 ≤ Cc by omega, show (0 + s14) + 0 ≤ Ss by omega⟩ (Nat.le_of_ble_eq_true rfl) (c_X8_keep r10 h11 hs e20) (fun r h' hq => ?_)
      obtain ⟨rfl, hq⟩ := hq
      replace hq := hq.symm
      subst hq
      have hs := s_X8_keep r10 h11 hs e20
      refine AW_go okX8_twin 1 ?_
      obtain ⟨rfl, rfl, rfl, rfl⟩ := am_ic hf
      exact And.intro ⟨show (0 + c13) ≤ Cc by omega, show (0 + s14) ≤ Ss by omega⟩ (And.intro (Or.inl rfl) ⟨rfl, rfl⟩)
    · rw [if_neg c5] at hf
      refine AW_go okX8_twin 3 ?_
      obtain ⟨rfl, rfl, rfl, rfl⟩ := am_ic hf
      exact And.intro ⟨show 0 ≤ Cc by omega, show 0 ≤ Ss by omega⟩ (And.intro (Or.inl rfl) ⟨rfl, rfl⟩)
  · rw [if_pos c4] at hf
    refine AW_go okX8_twin 2 ?_
    obtain ⟨rfl, rfl, rfl, rfl⟩ := am_ic hf
    exact And.intro ⟨show 0 ≤ Cc by omega, show 0 ≤ Ss by omega⟩ (And.intro (Or.inl rfl) ⟨rfl, rfl⟩)
def f_X8_seat (n : Nat) (a1 : Int32) (a2 : Int32) (h : am_H) : Option (Int32 × am_H) := am_b2 (f_X8_isOffice a1 h) fun r1 h2 => ((if r1 = 0 then some ((Int32.ofInt (-101)), h2) else (if a2 = (Int32.ofInt (-1)) then (if a2 = (Int32.ofInt (-1)) then bif am_vp a1 3 then ((if a2 = (Int32.ofInt (-1)) then am_b2 (f_X7_giveN n a1 (am_sI h2 27 (Int32.toNatClampNeg a1) a2)) fun r18 h19 => (am_b2 (f_X8_changeTalk h19) fun r21 h22 => (some ((am_I h2 27 (Int32.toNatClampNeg a1)), h22))) else bif am_vp a2 8 then ((am_A (am_sI h2 27 (Int32.toNatClampNeg a1) a2) 25 (Int32.toNatClampNeg a2)).bind fun q10 => (am_b2 (f_X7_give n a1 q10 (am_sI h2 27 (Int32.toNatClampNeg a1) a2)) fun r12 h13 => (am_b2 (f_X8_changeTalk h13) fun r15 h16 => (some ((am_I h2 27 (Int32.toNatClampNeg a1)), h16))))) else none)) else none else bif am_vp a2 8 then ((am_A h2 25 (Int32.toNatClampNeg a2)).bind fun q25 => (bif am_isO h2 q25 0 then (am_b2 (f_X0_names n q25 a1 h2) fun r28 h29 => ((if r28 = 0 then bif am_vp a1 3 then ((if a2 = (Int32.ofInt (-1)) then am_b2 (f_X7_giveN n a1 (am_sI h29 27 (Int32.toNatClampNeg a1) a2)) fun r42 h43 => (am_b2 (f_X8_changeTalk h43) fun r45 h46 => (some ((am_I h29 27 (Int32.toNatClampNeg a1)), h46))) else (am_A (am_sI h29 27 (Int32.toNatClampNeg a1) a2) 25 (Int32.toNatClampNeg a2)).bind fun q34 => (am_b2 (f_X7_give n a1 q34 (am_sI h29 27 (Int32.toNatClampNeg a1) a2)) fun r36 h37 => (am_b2 (f_X8_changeTalk h37) fun r39 h40 => (some ((am_I h29 27 (Int32.toNatClampNeg a1)), h40)))))) else none else some ((Int32.ofInt (-103)), h29)))) else none)) else none) else am_b2 (f_X8_isBook a2 h2) fun r48 h49 => ((if r48 = 0 then some ((Int32.ofInt (-101)), h49) else (if a2 = (Int32.ofInt (-1)) then bif am_vp a1 3 then ((if a2 = (Int32.ofInt (-1)) then am_b2 (f_X7_giveN n a1 (am_sI h49 27 (Int32.toNatClampNeg a1) a2)) fun r64 h65 => (am_b2 (f_X8_changeTalk h65) fun r67 h68 => (some ((am_I h49 27 (Int32.toNatClampNeg a1)), h68))) else bif am_vp a2 8 then ((am_A (am_sI h49 27 (Int32.toNatClampNeg a1) a2) 25 (Int32.toNatClampNeg a2)).bind fun q56 => (am_b2 (f_X7_give n a1 q56 (am_sI h49 27 (Int32.toNatClampNeg a1) a2)) fun r58 h59 => (am_b2 (f_X8_changeTalk h59) fun r61 h62 => (some ((am_I h49 27 (Int32.toNatClampNeg a1)), h62))))) else none)) else none else bif am_vp a2 8 then ((am_A h49 25 (Int32.toNatClampNeg a2)).bind fun q71 => (bif am_isO h49 q71 0 then (am_b2 (f_X0_names n q71 a1 h49) fun r74 h75 => ((if r74 = 0 then bif am_vp a1 3 then ((if a2 = (Int32.ofInt (-1)) then am_b2 (f_X7_giveN n a1 (am_sI h75 27 (Int32.toNatClampNeg a1) a2)) fun r88 h89 => (am_b2 (f_X8_changeTalk h89) fun r91 h92 => (some ((am_I h75 27 (Int32.toNatClampNeg a1)), h92))) else (am_A (am_sI h75 27 (Int32.toNatClampNeg a1) a2) 25 (Int32.toNatClampNeg a2)).bind fun q80 => (am_b2 (f_X7_give n a1 q80 (am_sI h75 27 (Int32.toNatClampNeg a1) a2)) fun r82 h83 => (am_b2 (f_X8_changeTalk h83) fun r85 h86 => (some ((am_I h75 27 (Int32.toNatClampNeg a1)), h86)))))) else none else some ((Int32.ofInt (-103)), h75)))) else none)) else none))))))
set_option maxRecDepth 100000 in
theorem s_X8_seat (n : Nat) (a1 : Int32) (a2 : Int32) (h : am_H) (hs : am_stat h) {v : Int32} {h' : am_H} (hf : f_X8_seat n a1 a2 h = some (v, h')) : am_stat h' := by
  unfold f_X8_seat at hf
  obtain ⟨r1, h2, e3, hf⟩ := am_b2_ok hf
  have hs := s_X8_isOffice a1 h hs e3
  by_cases c4 : r1 = 0
  · rw [if_pos c4] at hf
    obtain ⟨rfl, rfl⟩ := am_i2 hf
    exact hs
  · rw [if_neg c4] at hf
    by_cases c5 : a2 = (Int32.ofInt (-1))
    · rw [if_pos c5] at hf
      by_cases c6 : a2 = (Int32.ofInt (-1))
      · rw [if_pos c6] at hf
        obtain ⟨b7, hf⟩ := am_bis hf
        by_cases c8 : a2 = (Int32.ofInt (-1))
        · rw [if_pos c8] at hf
          obtain ⟨r9, h10, e11, hf⟩ := am_b2_ok hf
          have hs := s_X7_giveN n a1 (am_sI h2 27 (Int32.toNatClampNeg a1) a2) hs e11
          obtain ⟨r12, h13, e14, hf⟩ := am_b2_ok hf
          have hs := s_X8_changeTalk h10 hs e14
          obtain ⟨rfl, rfl⟩ := am_i2 hf
          exact hs
        · rw [if_neg c8] at hf
          obtain ⟨b15, hf⟩ := am_bis hf
          obtain ⟨q16, k17, hf⟩ := am_bnd hf
          obtain ⟨r18, h19, e20, hf⟩ := am_b2_ok hf
          have hs := s_X7_give n a1 q16 (am_sI h2 27 (Int32.toNatClampNeg a1) a2) hs e20
          obtain ⟨r21, h22, e23, hf⟩ := am_b2_ok hf
          have hs := s_X8_changeTalk h19 hs e23
          obtain ⟨rfl, rfl⟩ := am_i2 hf
          exact hs
      · rw [if_neg c6] at hf
        obtain ⟨b24, hf⟩ := am_bis hf
        obtain ⟨q25, k26, hf⟩ := am_bnd hf
        obtain ⟨k27, hf⟩ := am_bis hf
        obtain ⟨r28, h29, e30, hf⟩ := am_b2_ok hf
        have hs := s_X0_names n q25 a1 h2 hs e30
        by_cases c31 : r28 = 0
        · rw [if_pos c31] at hf
          obtain ⟨b32, hf⟩ := am_bis hf
          by_cases c33 : a2 = (Int32.ofInt (-1))
          · rw [if_pos c33] at hf
            obtain ⟨r34, h35, e36, hf⟩ := am_b2_ok hf
            have hs := s_X7_giveN n a1 (am_sI h29 27 (Int32.toNatClampNeg a1) a2) hs e36
            obtain ⟨r37, h38, e39, hf⟩ := am_b2_ok hf
            have hs := s_X8_changeTalk h35 hs e39
            obtain ⟨rfl, rfl⟩ := am_i2 hf
            exact hs
          · rw [if_neg c33] at hf
            obtain ⟨q40, k41, hf⟩ := am_bnd hf
            obtain ⟨r42, h43, e44, hf⟩ := am_b2_ok hf
            have hs := s_X7_give n a1 q40 (am_sI h29 27 (Int32.toNatClampNeg a1) a2) hs e44
            obtain ⟨r45, h46, e47, hf⟩ := am_b2_ok hf
            have hs := s_X8_changeTalk h43 hs e47
            obtain ⟨rfl, rfl⟩ := am_i2 hf
            exact hs
        · rw [if_neg c31] at hf
          obtain ⟨rfl, rfl⟩ := am_i2 hf
          exact hs
    · rw [if_neg c5] at hf
      obtain ⟨r48, h49, e50, hf⟩ := am_b2_ok hf
      have hs := s_X8_isBook a2 h2 hs e50
      by_cases c51 : r48 = 0
      · rw [if_pos c51] at hf
        obtain ⟨rfl, rfl⟩ := am_i2 hf
        exact hs
      · rw [if_neg c51] at hf
        by_cases c52 : a2 = (Int32.ofInt (-1))
        · rw [if_pos c52] at hf
          obtain ⟨b53, hf⟩ := am_bis hf
          by_cases c54 : a2 = (Int32.ofInt (-1))
          · rw [if_pos c54] at hf
            obtain ⟨r55, h56, e57, hf⟩ := am_b2_ok hf
            have hs := s_X7_giveN n a1 (am_sI h49 27 (Int32.toNatClampNeg a1) a2) hs e57
            obtain ⟨r58, h59, e60, hf⟩ := am_b2_ok hf
            have hs := s_X8_changeTalk h56 hs e60
            obtain ⟨rfl, rfl⟩ := am_i2 hf
            exact hs
          · rw [if_neg c54] at hf
            obtain ⟨b61, hf⟩ := am_bis hf
            obtain ⟨q62, k63, hf⟩ := am_bnd hf
            obtain ⟨r64, h65, e66, hf⟩ := am_b2_ok hf
            have hs := s_X7_give n a1 q62 (am_sI h49 27 (Int32.toNatClampNeg a1) a2) hs e66
            obtain ⟨r67, h68, e69, hf⟩ := am_b2_ok hf
            have hs := s_X8_changeTalk h65 hs e69
            obtain ⟨rfl, rfl⟩ := am_i2 hf
            exact hs
        · rw [if_neg c52] at hf
          obtain ⟨b70, hf⟩ := am_bis hf
          obtain ⟨q71, k72, hf⟩ := am_bnd hf
          obtain ⟨k73, hf⟩ := am_bis hf
          obtain ⟨r74, h75, e76, hf⟩ := am_b2_ok hf
          have hs := s_X0_names n q71 a1 h49 hs e76
          by_cases c77 : r74 = 0
          · rw [if_pos c77] at hf
            obtain ⟨b78, hf⟩ := am_bis hf
            by_cases c79 : a2 = (Int32.ofInt (-1))
            · rw [if_pos c79] at hf
              obtain ⟨r80, h81, e82, hf⟩ := am_b2_ok hf
              have hs := s_X7_giveN n a1 (am_sI h75 27 (Int32.toNatClampNeg a1) a2) hs e82
              obtain ⟨r83, h84, e85, hf⟩ := am_b2_ok hf
              have hs := s_X8_changeTalk h81 hs e85
              obtain ⟨rfl, rfl⟩ := am_i2 hf
              exact hs
            · rw [if_neg c79] at hf
              obtain ⟨q86, k87, hf⟩ := am_bnd hf
              obtain ⟨r88, h89, e90, hf⟩ := am_b2_ok hf
              have hs := s_X7_give n a1 q86 (am_sI h75 27 (Int32.toNatClampNeg a1) a2) hs e90
              obtain ⟨r91, h92, e93, hf⟩ := am_b2_ok hf
              have hs := s_X8_changeTalk h89 hs e93
              obtain ⟨rfl, rfl⟩ := am_i2 hf
              exact hs
          · rw [if_neg c77] at hf
            obtain ⟨rfl, rfl⟩ := am_i2 hf
            exact hs
set_option maxRecDepth 100000 in
theorem c_X8_seat (n : Nat) (a1 : Int32) (a2 : Int32) (h : am_H) (hs : am_stat h) {v : Int32} {h' : am_H} (hf : f_X8_seat n a1 a2 h = some (v, h')) : AMet mX8_seat (rX8_seat 0 0) (fun r h2 => r = some (.int v) ∧ h2 = h') [.ref 0, .int a1, .int a2] h := by
  unfold f_X8_seat at hf
  refine AW_go okX8_seat 1 ?_
  obtain ⟨r1, h2, e3, hf⟩ := am_b2_ok hf
  refine AW_callS (As := [.int a1]) (R' := rX8_isOffice 0 0) (okX8_seat.1 1 _ _ rfl) lkX8_isOffice (Or.inl kX8_109) rfl (Nat.le_of_ble_eq_true rfl) ⟨(Nat.le_of_ble_eq_true rfl), (Nat.le_of_ble_eq_true rfl)⟩ ⟨(Nat.le_of_ble_eq_true rfl), (Nat.le_of_ble_eq_true rfl)⟩ (Nat.le_of_ble_eq_true rfl) (c_X8_isOffice a1 h hs e3) (fun r h' hq => ?_)
  obtain ⟨rfl, hq⟩ := hq
  replace hq := hq.symm
  subst hq
  have hs := s_X8_isOffice a1 h hs e3
  refine AW_go okX8_seat 1 ?_
  refine And.intro (fun c4 => ?_) (fun c4 => ?_)
  · rw [if_pos c4] at hf
    refine AW_go okX8_seat 2 ?_
    obtain ⟨rfl, rfl⟩ := am_i2 hf
    exact And.intro ⟨(Nat.le_of_ble_eq_true rfl), (Nat.le_of_ble_eq_true rfl)⟩ (And.intro (Or.inl rfl) ⟨rfl, rfl⟩)
  · rw [if_neg c4] at hf
    refine AW_go okX8_seat 3 ?_
    refine And.intro (fun c5 => ?_) (fun c5 => ?_)
    · rw [if_pos c5] at hf
      refine AW_go okX8_seat 3 ?_
      refine And.intro (fun c6 => ?_) (fun c6 => ?_)
      · rw [if_pos c6] at hf
        obtain ⟨b7, hf⟩ := am_bis hf
        refine AW_go okX8_seat 16 ?_
        refine And.intro (sK hs 0) (Exists.intro _ (And.intro (sA hs 0 8) ?_))
        refine Exists.intro 3 (And.intro (sK hs 27) (And.intro (am_vp_ok b7) ?_))
        refine And.intro (sK hs 0) (Exists.intro _ (And.intro (sA hs 0 8) ?_))
        refine Exists.intro 3 (And.intro (sK hs 27) (And.intro (am_vp_ok b7) ?_))
        refine And.intro (sK hs 0) (Exists.intro _ (And.intro (sA hs 0 9) ?_))
        refine And.intro (fun c8 => ?_) (fun c8 => ?_)
        · rw [if_neg c8] at hf
          obtain ⟨b9, hf⟩ := am_bis hf
          obtain ⟨q10, k11, hf⟩ := am_bnd hf
          refine AW_go okX8_seat 4 ?_
          refine And.intro (sK hs 0) (Exists.intro _ (And.intro (sA hs 0 4) ?_))
          refine Exists.intro 4 (Exists.intro 8 (Exists.intro (some q10) (And.intro (by decide) (And.intro (sK hs 25) (And.intro (am_vp_ok b9) (And.intro k11 ?_))))))
          obtain ⟨r12, h13, e14, hf⟩ := am_b2_ok hf
          refine AW_callV (As := [.int a1, .ref q10]) (R' := rX7_give 0 0) (T := TX7) (N := 10) (ci := 7) (okX8_seat.1 78 _ _ rfl) lkX7_give kX8_183 rfl (sK hs 28) rfl (Nat.le_of_ble_eq_true rfl) ⟨(Nat.le_of_ble_eq_true rfl), (Nat.le_of_ble_eq_true rfl)⟩ ⟨(Nat.le_of_ble_eq_true rfl), (Nat.le_of_ble_eq_true rfl)⟩ (Nat.le_of_ble_eq_true rfl) (c_X7_give n a1 q10 (am_sI h2 27 (Int32.toNatClampNeg a1) a2) hs e14) (fun r h' hq => ?_)
          obtain ⟨rfl, hq⟩ := hq
          replace hq := hq.symm
          subst hq
          have hs := s_X7_give n a1 q10 (am_sI h2 27 (Int32.toNatClampNeg a1) a2) hs e14
          refine AW_go okX8_seat 1 ?_
          obtain ⟨r15, h16, e17, hf⟩ := am_b2_ok hf
          refine AW_callV (As := []) (R' := rX8_changeTalk 0 0) (T := TX8) (N := 18) (ci := 8) (okX8_seat.1 82 _ _ rfl) lkX8_changeTalk kX8_187 rfl (sK hs 0) rfl (Nat.le_of_ble_eq_true rfl) ⟨(Nat.le_of_ble_eq_true rfl), (Nat.le_of_ble_eq_true rfl)⟩ ⟨(Nat.le_of_ble_eq_true rfl), (Nat.le_of_ble_eq_true rfl)⟩ (Nat.le_of_ble_eq_true rfl) (c_X8_changeTalk h13 hs e17) (fun r h' hq => ?_)
          obtain ⟨rfl, hq⟩ := hq
          replace hq := hq.symm
          subst hq
          have hs := s_X8_changeTalk h13 hs e17
          refine AW_go okX8_seat 2 ?_
          obtain ⟨rfl, rfl⟩ := am_i2 hf
          exact And.intro ⟨(Nat.le_of_ble_eq_true rfl), (Nat.le_of_ble_eq_true rfl)⟩ (And.intro (Or.inl rfl) ⟨rfl, rfl⟩)
        · rw [if_pos c8] at hf
          refine AW_go okX8_seat 2 ?_
          obtain ⟨r18, h19, e20, hf⟩ := am_b2_ok hf
          refine AW_callV (As := [.int a1, .null]) (R' := rX7_give 0 0) (T := TX7) (N := 10) (ci := 7) (okX8_seat.1 78 _ _ rfl) lkX7_give kX8_183 rfl (sK hs 28) rfl (Nat.le_of_ble_eq_true rfl) ⟨(Nat.le_of_ble_eq_true rfl), (Nat.le_of_ble_eq_true rfl)⟩ ⟨(Nat.le_of_ble_eq_true rfl), (Nat.le_of_ble_eq_true rfl)⟩ (Nat.le_of_ble_eq_true rfl) (c_X7_giveN n a1 (am_sI h2 27 (Int32.toNatClampNeg a1) a2) hs e20) (fun r h' hq => ?_)
          obtain ⟨rfl, hq⟩ := hq
          replace hq := hq.symm
          subst hq
          have hs := s_X7_giveN n a1 (am_sI h2 27 (Int32.toNatClampNeg a1) a2) hs e20
          refine AW_go okX8_seat 1 ?_
          obtain ⟨r21, h22, e23, hf⟩ := am_b2_ok hf
          refine AW_callV (As := []) (R' := rX8_changeTalk 0 0) (T := TX8) (N := 18) (ci := 8) (okX8_seat.1 82 _ _ rfl) lkX8_changeTalk kX8_187 rfl (sK hs 0) rfl (Nat.le_of_ble_eq_true rfl) ⟨(Nat.le_of_ble_eq_true rfl), (Nat.le_of_ble_eq_true rfl)⟩ ⟨(Nat.le_of_ble_eq_true rfl), (Nat.le_of_ble_eq_true rfl)⟩ (Nat.le_of_ble_eq_true rfl) (c_X8_changeTalk h19 hs e23) (fun r h' hq => ?_)
          obtain ⟨rfl, hq⟩ := hq
          replace hq := hq.symm
          subst hq
          have hs := s_X8_changeTalk h19 hs e23
          refine AW_go okX8_seat 2 ?_
          obtain ⟨rfl, rfl⟩ := am_i2 hf
          exact And.intro ⟨(Nat.le_of_ble_eq_true rfl), (Nat.le_of_ble_eq_true rfl)⟩ (And.intro (Or.inl rfl) ⟨rfl, rfl⟩)
      · rw [if_neg c6] at hf
        obtain ⟨b24, hf⟩ := am_bis hf
        obtain ⟨q25, k26, hf⟩ := am_bnd hf
        obtain ⟨k27, hf⟩ := am_bis hf
        refine AW_go okX8_seat 5 ?_
        refine And.intro (sK hs 0) (Exists.intro _ (And.intro (sA hs 0 4) ?_))
        refine Exists.intro 4 (Exists.intro 8 (Exists.intro (some q25) (And.intro (by decide) (And.intro (sK hs 25) (And.intro (am_vp_ok b24) (And.intro k26 ?_))))))
        obtain ⟨r28, h29, e30, hf⟩ := am_b2_ok hf
        refine AW_callV (As := [.int a1]) (R' := rX0_names 0 0) (T := TX0) (N := 4) (ci := 0) (okX8_seat.1 35 _ _ rfl) lkX0_names kX8_180 rfl (am_isO_ok k27) rfl (Nat.le_of_ble_eq_true rfl) ⟨(Nat.le_of_ble_eq_true rfl), (Nat.le_of_ble_eq_true rfl)⟩ ⟨(Nat.le_of_ble_eq_true rfl), (Nat.le_of_ble_eq_true rfl)⟩ (Nat.le_of_ble_eq_true rfl) (c_X0_names n q25 a1 h2 hs e30) (fun r h' hq => ?_)
        obtain ⟨rfl, hq⟩ := hq
        replace hq := hq.symm
        subst hq
        have hs := s_X0_names n q25 a1 h2 hs e30
        refine AW_go okX8_seat 1 ?_
        refine And.intro (fun c31 => ?_) (fun c31 => ?_)
        · rw [if_pos c31] at hf
          obtain ⟨b32, hf⟩ := am_bis hf
          refine AW_go okX8_seat 16 ?_
          refine And.intro (sK hs 0) (Exists.intro _ (And.intro (sA hs 0 8) ?_))
          refine Exists.intro 3 (And.intro (sK hs 27) (And.intro (am_vp_ok b32) ?_))
          refine And.intro (sK hs 0) (Exists.intro _ (And.intro (sA hs 0 8) ?_))
          refine Exists.intro 3 (And.intro (sK hs 27) (And.intro (am_vp_ok b32) ?_))
          refine And.intro (sK hs 0) (Exists.intro _ (And.intro (sA hs 0 9) ?_))
          refine And.intro (fun c33 => ?_) (fun c33 => ?_)
          · rw [if_neg c33] at hf
            obtain ⟨q34, k35, hf⟩ := am_bnd hf
            refine AW_go okX8_seat 4 ?_
            refine And.intro (sK hs 0) (Exists.intro _ (And.intro (sA hs 0 4) ?_))
            refine Exists.intro 4 (Exists.intro 8 (Exists.intro (some q34) (And.intro (by decide) (And.intro (sK hs 25) (And.intro (am_vp_ok b24) (And.intro k35 ?_))))))
            obtain ⟨r36, h37, e38, hf⟩ := am_b2_ok hf
            refine AW_callV (As := [.int a1, .ref q34]) (R' := rX7_give 0 0) (T := TX7) (N := 10) (ci := 7) (okX8_seat.1 78 _ _ rfl) lkX7_give kX8_183 rfl (sK hs 28) rfl (Nat.le_of_ble_eq_true rfl) ⟨(Nat.le_of_ble_eq_true rfl), (Nat.le_of_ble_eq_true rfl)⟩ ⟨(Nat.le_of_ble_eq_true rfl), (Nat.le_of_ble_eq_true rfl)⟩ (Nat.le_of_ble_eq_true rfl) (c_X7_give n a1 q34 (am_sI h29 27 (Int32.toNatClampNeg a1) a2) hs e38) (fun r h' hq => ?_)
            obtain ⟨rfl, hq⟩ := hq
            replace hq := hq.symm
            subst hq
            have hs := s_X7_give n a1 q34 (am_sI h29 27 (Int32.toNatClampNeg a1) a2) hs e38
            refine AW_go okX8_seat 1 ?_
            obtain ⟨r39, h40, e41, hf⟩ := am_b2_ok hf
            refine AW_callV (As := []) (R' := rX8_changeTalk 0 0) (T := TX8) (N := 18) (ci := 8) (okX8_seat.1 82 _ _ rfl) lkX8_changeTalk kX8_187 rfl (sK hs 0) rfl (Nat.le_of_ble_eq_true rfl) ⟨(Nat.le_of_ble_eq_true rfl), (Nat.le_of_ble_eq_true rfl)⟩ ⟨(Nat.le_of_ble_eq_true rfl), (Nat.le_of_ble_eq_true rfl)⟩ (Nat.le_of_ble_eq_true rfl) (c_X8_changeTalk h37 hs e41) (fun r h' hq => ?_)
            obtain ⟨rfl, hq⟩ := hq
            replace hq := hq.symm
            subst hq
            have hs := s_X8_changeTalk h37 hs e41
            refine AW_go okX8_seat 2 ?_
            obtain ⟨rfl, rfl⟩ := am_i2 hf
            exact And.intro ⟨(Nat.le_of_ble_eq_true rfl), (Nat.le_of_ble_eq_true rfl)⟩ (And.intro (Or.inl rfl) ⟨rfl, rfl⟩)
          · rw [if_pos c33] at hf
            refine AW_go okX8_seat 2 ?_
            obtain ⟨r42, h43, e44, hf⟩ := am_b2_ok hf
            refine AW_callV (As := [.int a1, .null]) (R' := rX7_give 0 0) (T := TX7) (N := 10) (ci := 7) (okX8_seat.1 78 _ _ rfl) lkX7_give kX8_183 rfl (sK hs 28) rfl (Nat.le_of_ble_eq_true rfl) ⟨(Nat.le_of_ble_eq_true rfl), (Nat.le_of_ble_eq_true rfl)⟩ ⟨(Nat.le_of_ble_eq_true rfl), (Nat.le_of_ble_eq_true rfl)⟩ (Nat.le_of_ble_eq_true rfl) (c_X7_giveN n a1 (am_sI h29 27 (Int32.toNatClampNeg a1) a2) hs e44) (fun r h' hq => ?_)
            obtain ⟨rfl, hq⟩ := hq
            replace hq := hq.symm
            subst hq
            have hs := s_X7_giveN n a1 (am_sI h29 27 (Int32.toNatClampNeg a1) a2) hs e44
            refine AW_go okX8_seat 1 ?_
            obtain ⟨r45, h46, e47, hf⟩ := am_b2_ok hf
            refine AW_callV (As := []) (R' := rX8_changeTalk 0 0) (T := TX8) (N := 18) (ci := 8) (okX8_seat.1 82 _ _ rfl) lkX8_changeTalk kX8_187 rfl (sK hs 0) rfl (Nat.le_of_ble_eq_true rfl) ⟨(Nat.le_of_ble_eq_true rfl), (Nat.le_of_ble_eq_true rfl)⟩ ⟨(Nat.le_of_ble_eq_true rfl), (Nat.le_of_ble_eq_true rfl)⟩ (Nat.le_of_ble_eq_true rfl) (c_X8_changeTalk h43 hs e47) (fun r h' hq => ?_)
            obtain ⟨rfl, hq⟩ := hq
            replace hq := hq.symm
            subst hq
            have hs := s_X8_changeTalk h43 hs e47
            refine AW_go okX8_seat 2 ?_
            obtain ⟨rfl, rfl⟩ := am_i2 hf
            exact And.intro ⟨(Nat.le_of_ble_eq_true rfl), (Nat.le_of_ble_eq_true rfl)⟩ (And.intro (Or.inl rfl) ⟨rfl, rfl⟩)
        · rw [if_neg c31] at hf
          refine AW_go okX8_seat 2 ?_
          obtain ⟨rfl, rfl⟩ := am_i2 hf
          exact And.intro ⟨(Nat.le_of_ble_eq_true rfl), (Nat.le_of_ble_eq_true rfl)⟩ (And.intro (Or.inl rfl) ⟨rfl, rfl⟩)
    · rw [if_neg c5] at hf
      refine AW_go okX8_seat 2 ?_
      obtain ⟨r48, h49, e50, hf⟩ := am_b2_ok hf
      refine AW_callV (As := [.int a2]) (R' := rX8_isBook 0 0) (T := TX8) (N := 18) (ci := 8) (okX8_seat.1 14 _ _ rfl) lkX8_isBook kX8_116 rfl (sK hs 0) rfl (Nat.le_of_ble_eq_true rfl) ⟨(Nat.le_of_ble_eq_true rfl), (Nat.le_of_ble_eq_true rfl)⟩ ⟨(Nat.le_of_ble_eq_true rfl), (Nat.le_of_ble_eq_true rfl)⟩ (Nat.le_of_ble_eq_true rfl) (c_X8_isBook a2 h2 hs e50) (fun r h' hq => ?_)
      obtain ⟨rfl, hq⟩ := hq
      replace hq := hq.symm
      subst hq
      have hs := s_X8_isBook a2 h2 hs e50
      refine AW_go okX8_seat 1 ?_
      refine And.intro (fun c51 => ?_) (fun c51 => ?_)
      · rw [if_neg c51] at hf
        refine AW_go okX8_seat 3 ?_
        refine And.intro (fun c52 => ?_) (fun c52 => ?_)
        · rw [if_pos c52] at hf
          obtain ⟨b53, hf⟩ := am_bis hf
          refine AW_go okX8_seat 16 ?_
          refine And.intro (sK hs 0) (Exists.intro _ (And.intro (sA hs 0 8) ?_))
          refine Exists.intro 3 (And.intro (sK hs 27) (And.intro (am_vp_ok b53) ?_))
          refine And.intro (sK hs 0) (Exists.intro _ (And.intro (sA hs 0 8) ?_))
          refine Exists.intro 3 (And.intro (sK hs 27) (And.intro (am_vp_ok b53) ?_))
          refine And.intro (sK hs 0) (Exists.intro _ (And.intro (sA hs 0 9) ?_))
          refine And.intro (fun c54 => ?_) (fun c54 => ?_)
          · rw [if_neg c54] at hf
            obtain ⟨b55, hf⟩ := am_bis hf
            obtain ⟨q56, k57, hf⟩ := am_bnd hf
            refine AW_go okX8_seat 4 ?_
            refine And.intro (sK hs 0) (Exists.intro _ (And.intro (sA hs 0 4) ?_))
            refine Exists.intro 4 (Exists.intro 8 (Exists.intro (some q56) (And.intro (by decide) (And.intro (sK hs 25) (And.intro (am_vp_ok b55) (And.intro k57 ?_))))))
            obtain ⟨r58, h59, e60, hf⟩ := am_b2_ok hf
            refine AW_callV (As := [.int a1, .ref q56]) (R' := rX7_give 0 0) (T := TX7) (N := 10) (ci := 7) (okX8_seat.1 78 _ _ rfl) lkX7_give kX8_183 rfl (sK hs 28) rfl (Nat.le_of_ble_eq_true rfl) ⟨(Nat.le_of_ble_eq_true rfl), (Nat.le_of_ble_eq_true rfl)⟩ ⟨(Nat.le_of_ble_eq_true rfl), (Nat.le_of_ble_eq_true rfl)⟩ (Nat.le_of_ble_eq_true rfl) (c_X7_give n a1 q56 (am_sI h49 27 (Int32.toNatClampNeg a1) a2) hs e60) (fun r h' hq => ?_)
            obtain ⟨rfl, hq⟩ := hq
            replace hq := hq.symm
            subst hq
            have hs := s_X7_give n a1 q56 (am_sI h49 27 (Int32.toNatClampNeg a1) a2) hs e60
            refine AW_go okX8_seat 1 ?_
            obtain ⟨r61, h62, e63, hf⟩ := am_b2_ok hf
            refine AW_callV (As := []) (R' := rX8_changeTalk 0 0) (T := TX8) (N := 18) (ci := 8) (okX8_seat.1 82 _ _ rfl) lkX8_changeTalk kX8_187 rfl (sK hs 0) rfl (Nat.le_of_ble_eq_true rfl) ⟨(Nat.le_of_ble_eq_true rfl), (Nat.le_of_ble_eq_true rfl)⟩ ⟨(Nat.le_of_ble_eq_true rfl), (Nat.le_of_ble_eq_true rfl)⟩ (Nat.le_of_ble_eq_true rfl) (c_X8_changeTalk h59 hs e63) (fun r h' hq => ?_)
            obtain ⟨rfl, hq⟩ := hq
            replace hq := hq.symm
            subst hq
            have hs := s_X8_changeTalk h59 hs e63
            refine AW_go okX8_seat 2 ?_
            obtain ⟨rfl, rfl⟩ := am_i2 hf
            exact And.intro ⟨(Nat.le_of_ble_eq_true rfl), (Nat.le_of_ble_eq_true rfl)⟩ (And.intro (Or.inl rfl) ⟨rfl, rfl⟩)
          · rw [if_pos c54] at hf
            refine AW_go okX8_seat 2 ?_
            obtain ⟨r64, h65, e66, hf⟩ := am_b2_ok hf
            refine AW_callV (As := [.int a1, .null]) (R' := rX7_give 0 0) (T := TX7) (N := 10) (ci := 7) (okX8_seat.1 78 _ _ rfl) lkX7_give kX8_183 rfl (sK hs 28) rfl (Nat.le_of_ble_eq_true rfl) ⟨(Nat.le_of_ble_eq_true rfl), (Nat.le_of_ble_eq_true rfl)⟩ ⟨(Nat.le_of_ble_eq_true rfl), (Nat.le_of_ble_eq_true rfl)⟩ (Nat.le_of_ble_eq_true rfl) (c_X7_giveN n a1 (am_sI h49 27 (Int32.toNatClampNeg a1) a2) hs e66) (fun r h' hq => ?_)
            obtain ⟨rfl, hq⟩ := hq
            replace hq := hq.symm
            subst hq
            have hs := s_X7_giveN n a1 (am_sI h49 27 (Int32.toNatClampNeg a1) a2) hs e66
            refine AW_go okX8_seat 1 ?_
            obtain ⟨r67, h68, e69, hf⟩ := am_b2_ok hf
            refine AW_callV (As := []) (R' := rX8_changeTalk 0 0) (T := TX8) (N := 18) (ci := 8) (okX8_seat.1 82 _ _ rfl) lkX8_changeTalk kX8_187 rfl (sK hs 0) rfl (Nat.le_of_ble_eq_true rfl) ⟨(Nat.le_of_ble_eq_true rfl), (Nat.le_of_ble_eq_true rfl)⟩ ⟨(Nat.le_of_ble_eq_true rfl), (Nat.le_of_ble_eq_true rfl)⟩ (Nat.le_of_ble_eq_true rfl) (c_X8_changeTalk h65 hs e69) (fun r h' hq => ?_)
            obtain ⟨rfl, hq⟩ := hq
            replace hq := hq.symm
            subst hq
            have hs := s_X8_changeTalk h65 hs e69
            refine AW_go okX8_seat 2 ?_
            obtain ⟨rfl, rfl⟩ := am_i2 hf
            exact And.intro ⟨(Nat.le_of_ble_eq_true rfl), (Nat.le_of_ble_eq_true rfl)⟩ (And.intro (Or.inl rfl) ⟨rfl, rfl⟩)
        · rw [if_neg c52] at hf
          obtain ⟨b70, hf⟩ := am_bis hf
          obtain ⟨q71, k72, hf⟩ := am_bnd hf
          obtain ⟨k73, hf⟩ := am_bis hf
          refine AW_go okX8_seat 5 ?_
          refine And.intro (sK hs 0) (Exists.intro _ (And.intro (sA hs 0 4) ?_))
          refine Exists.intro 4 (Exists.intro 8 (Exists.intro (some q71) (And.intro (by decide) (And.intro (sK hs 25) (And.intro (am_vp_ok b70) (And.intro k72 ?_))))))
          obtain ⟨r74, h75, e76, hf⟩ := am_b2_ok hf
          refine AW_callV (As := [.int a1]) (R' := rX0_names 0 0) (T := TX0) (N := 4) (ci := 0) (okX8_seat.1 35 _ _ rfl) lkX0_names kX8_180 rfl (am_isO_ok k73) rfl (Nat.le_of_ble_eq_true rfl) ⟨(Nat.le_of_ble_eq_true rfl), (Nat.le_of_ble_eq_true rfl)⟩ ⟨(Nat.le_of_ble_eq_true rfl), (Nat.le_of_ble_eq_true rfl)⟩ (Nat.le_of_ble_eq_true rfl) (c_X0_names n q71 a1 h49 hs e76) (fun r h' hq => ?_)
          obtain ⟨rfl, hq⟩ := hq
          replace hq := hq.symm
          subst hq
          have hs := s_X0_names n q71 a1 h49 hs e76
          refine AW_go okX8_seat 1 ?_
          refine And.intro (fun c77 => ?_) (fun c77 => ?_)
          · rw [if_pos c77] at hf
            obtain ⟨b78, hf⟩ := am_bis hf
            refine AW_go okX8_seat 16 ?_
            refine And.intro (sK hs 0) (Exists.intro _ (And.intro (sA hs 0 8) ?_))
            refine Exists.intro 3 (And.intro (sK hs 27) (And.intro (am_vp_ok b78) ?_))
            refine And.intro (sK hs 0) (Exists.intro _ (And.intro (sA hs 0 8) ?_))
            refine Exists.intro 3 (And.intro (sK hs 27) (And.intro (am_vp_ok b78) ?_))
            refine And.intro (sK hs 0) (Exists.intro _ (And.intro (sA hs 0 9) ?_))
            refine And.intro (fun c79 => ?_) (fun c79 => ?_)
            · rw [if_neg c79] at hf
              obtain ⟨q80, k81, hf⟩ := am_bnd hf
              refine AW_go okX8_seat 4 ?_
              refine And.intro (sK hs 0) (Exists.intro _ (And.intro (sA hs 0 4) ?_))
              refine Exists.intro 4 (Exists.intro 8 (Exists.intro (some q80) (And.intro (by decide) (And.intro (sK hs 25) (And.intro (am_vp_ok b70) (And.intro k81 ?_))))))
              obtain ⟨r82, h83, e84, hf⟩ := am_b2_ok hf
              refine AW_callV (As := [.int a1, .ref q80]) (R' := rX7_give 0 0) (T := TX7) (N := 10) (ci := 7) (okX8_seat.1 78 _ _ rfl) lkX7_give kX8_183 rfl (sK hs 28) rfl (Nat.le_of_ble_eq_true rfl) ⟨(Nat.le_of_ble_eq_true rfl), (Nat.le_of_ble_eq_true rfl)⟩ ⟨(Nat.le_of_ble_eq_true rfl), (Nat.le_of_ble_eq_true rfl)⟩ (Nat.le_of_ble_eq_true rfl) (c_X7_give n a1 q80 (am_sI h75 27 (Int32.toNatClampNeg a1) a2) hs e84) (fun r h' hq => ?_)
              obtain ⟨rfl, hq⟩ := hq
              replace hq := hq.symm
              subst hq
              have hs := s_X7_give n a1 q80 (am_sI h75 27 (Int32.toNatClampNeg a1) a2) hs e84
              refine AW_go okX8_seat 1 ?_
              obtain ⟨r85, h86, e87, hf⟩ := am_b2_ok hf
              refine AW_callV (As := []) (R' := rX8_changeTalk 0 0) (T := TX8) (N := 18) (ci := 8) (okX8_seat.1 82 _ _ rfl) lkX8_changeTalk kX8_187 rfl (sK hs 0) rfl (Nat.le_of_ble_eq_true rfl) ⟨(Nat.le_of_ble_eq_true rfl), (Nat.le_of_ble_eq_true rfl)⟩ ⟨(Nat.le_of_ble_eq_true rfl), (Nat.le_of_ble_eq_true rfl)⟩ (Nat.le_of_ble_eq_true rfl) (c_X8_changeTalk h83 hs e87) (fun r h' hq => ?_)
              obtain ⟨rfl, hq⟩ := hq
              replace hq := hq.symm
              subst hq
              have hs := s_X8_changeTalk h83 hs e87
              refine AW_go okX8_seat 2 ?_
              obtain ⟨rfl, rfl⟩ := am_i2 hf
              exact And.intro ⟨(Nat.le_of_ble_eq_true rfl), (Nat.le_of_ble_eq_true rfl)⟩ (And.intro (Or.inl rfl) ⟨rfl, rfl⟩)
            · rw [if_pos c79] at hf
              refine AW_go okX8_seat 2 ?_
              obtain ⟨r88, h89, e90, hf⟩ := am_b2_ok hf
              refine AW_callV (As := [.int a1, .null]) (R' := rX7_give 0 0) (T := TX7) (N := 10) (ci := 7) (okX8_seat.1 78 _ _ rfl) lkX7_give kX8_183 rfl (sK hs 28) rfl (Nat.le_of_ble_eq_true rfl) ⟨(Nat.le_of_ble_eq_true rfl), (Nat.le_of_ble_eq_true rfl)⟩ ⟨(Nat.le_of_ble_eq_true rfl), (Nat.le_of_ble_eq_true rfl)⟩ (Nat.le_of_ble_eq_true rfl) (c_X7_giveN n a1 (am_sI h75 27 (Int32.toNatClampNeg a1) a2) hs e90) (fun r h' hq => ?_)
              obtain ⟨rfl, hq⟩ := hq
              replace hq := hq.symm
              subst hq
              have hs := s_X7_giveN n a1 (am_sI h75 27 (Int32.toNatClampNeg a1) a2) hs e90
              refine AW_go okX8_seat 1 ?_
              obtain ⟨r91, h92, e93, hf⟩ := am_b2_ok hf
              refine AW_callV (As := []) (R' := rX8_changeTalk 0 0) (T := TX8) (N := 18) (ci := 8) (okX8_seat.1 82 _ _ rfl) lkX8_changeTalk kX8_187 rfl (sK hs 0) rfl (Nat.le_of_ble_eq_true rfl) ⟨(Nat.le_of_ble_eq_true rfl), (Nat.le_of_ble_eq_true rfl)⟩ ⟨(Nat.le_of_ble_eq_true rfl), (Nat.le_of_ble_eq_true rfl)⟩ (Nat.le_of_ble_eq_true rfl) (c_X8_changeTalk h89 hs e93) (fun r h' hq => ?_)
              obtain ⟨rfl, hq⟩ := hq
              replace hq := hq.symm
              subst hq
              have hs := s_X8_changeTalk h89 hs e93
              refine AW_go okX8_seat 2 ?_
              obtain ⟨rfl, rfl⟩ := am_i2 hf
              exact And.intro ⟨(Nat.le_of_ble_eq_true rfl), (Nat.le_of_ble_eq_true rfl)⟩ (And.intro (Or.inl rfl) ⟨rfl, rfl⟩)
          · rw [if_neg c77] at hf
            refine AW_go okX8_seat 2 ?_
            obtain ⟨rfl, rfl⟩ := am_i2 hf
            exact And.intro ⟨(Nat.le_of_ble_eq_true rfl), (Nat.le_of_ble_eq_true rfl)⟩ (And.intro (Or.inl rfl) ⟨rfl, rfl⟩)
      · rw [if_pos c51] at hf
        refine AW_go okX8_seat 2 ?_
        obtain ⟨rfl, rfl⟩ := am_i2 hf
        exact And.intro ⟨(Nat.le_of_ble_eq_true rfl), (Nat.le_of_ble_eq_true rfl)⟩ (And.intro (Or.inl rfl) ⟨rfl, rfl⟩)
def g_X1_tells : Nat → Nat → Nat → Nat → Int32 → Int32 → am_H → Option ((Int32 × am_H) × Nat × Nat)
  | 0, _, _, _, _, _, _ => none
  | n + 1, tag, a1, a2, x3i, x4i, h => bif Nat.beq tag 0 then ((if (am_I h 19 3) < x3i then bif am_isO (am_sI (am_sI h 19 4 (Int32.ofInt 0)) 19 5 (Int32.ofInt (-1))) a1 3 then (am_b2 (f_X1_meet n (Int32.ofInt 0) (am_I (am_sI (am_sI h 19 4 (Int32.ofInt 0)) 19 5 (Int32.ofInt (-1))) a1 0) (Int32.ofInt (-1)) (Int32.ofInt (-1)) (am_sI (am_sI h 19 4 (Int32.ofInt 0)) 19 5 (Int32.ofInt (-1)))) fun r3 h4 => (g_X1_tells n 1 a1 a2 (Int32.ofInt 0) 0 h4)) else none else (am_A h 19 6).bind fun q6 => ((am_ln h 0 q6).bind fun n8 => (bif am_vp x3i n8 then (g_X1_tells n 0 a1 a2 (x3i + Int32.ofInt 1) 0 (am_sI h q6 (Int32.toNatClampNeg x3i) x3i)) else none)))) else (bif Nat.beq tag 1 then (am_let (Option.bind ((if (am_I h 19 5) = (Int32.ofInt (-1)) then some (Int32.ofInt 0) else some (Int32.ofInt 1))) fun y4 => (bif am_b01 y4 then (some ((y4, h), 0, 0)) else none)) fun b1 => ((if (am_I h 19 4) ≤ x3i then b1 else (if (am_I h 19 3) < x3i then b1 else (if (am_I h 19 5) = (Int32.ofInt (-1)) then g_X1_tells n 2 a1 a2 x3i (Int32.ofInt 0) h else b1))))) else ((if (Int32.ofInt 24) ≤ x4i then g_X1_tells n 1 a1 a2 (x3i + Int32.ofInt 1) 0 h else (if (am_I h 19 5) = (Int32.ofInt (-1)) then (am_A h 19 7).bind fun q3 => ((am_ln h 0 q3).bind fun n5 => (bif am_vp x3i n5 then (am_b2 (f_X1_leftBehind (am_I h q3 (Int32.toNatClampNeg x3i)) x4i h) fun r8 h9 => ((am_A h9 19 8).bind fun q11 => ((am_ln h9 0 q11).bind fun n13 => (bif am_vp x3i n13 then (am_b2 (f_X1_rightBehind (am_I h9 q11 (Int32.toNatClampNeg x3i)) x4i h9) fun r16 h17 => (am_b2 (f_X1_meet n r8 r16 x3i x4i h17) fun r19 h20 => (g_X1_tells n 2 a1 a2 x3i (x4i + Int32.ofInt 1) h20))) else none)))) else none)) else g_X1_tells n 1 a1 a2 (x3i + Int32.ofInt 1) 0 h))))
set_option maxRecDepth 100000 in
set_option maxHeartbeats 4000000 in
theorem m_X1_tells (n : Nat) : (∀ (a1 : Nat) (a2 : Nat) (x3i : Int32) (x4i : Int32) (h : am_H) (v : Int32) (h' : am_H) (cr sr : Nat), am_stat h → g_X1_tells n 0 a1 a2 x3i x4i h = some ((v, h'), cr, sr) → am_stat h') ∧ (∀ (a1 : Nat) (a2 : Nat) (x3i : Int32) (x4i : Int32) (h : am_H) (v : Int32) (h' : am_H) (cr sr : Nat), am_stat h → g_X1_tells n 1 a1 a2 x3i x4i h = some ((v, h'), cr, sr) → am_stat h') ∧ (∀ (a1 : Nat) (a2 : Nat) (x3i : Int32) (x4i : Int32) (h : am_H) (v : Int32) (h' : am_H) (cr sr : Nat), am_stat h → g_X1_tells n 2 a1 a2 x3i x4i h = some ((v, h'), cr, sr) → am_stat h') := by
  induction n with
  | zero => exact ⟨fun a1 a2 x3i x4i h v h' cr sr hs hf => (by cases hf), fun a1 a2 x3i x4i h v h' cr sr hs hf => (by cases hf), fun a1 a2 x3i x4i h v h' cr sr hs hf => (by cases hf)⟩
  | succ n ih =>
    refine ⟨?_, ?_, ?_⟩
    · intro a1 a2 x3i x4i h v h' cr sr hs hf
      have hf : ((if (am_I h 19 3) < x3i then bif am_isO (am_sI (am_sI h 19 4 (Int32.ofInt 0)) 19 5 (Int32.ofInt (-1))) a1 3 then (am_b2 (f_X1_meet n (Int32.ofInt 0) (am_I (am_sI (am_sI h 19 4 (Int32.ofInt 0)) 19 5 (Int32.ofInt (-1))) a1 0) (Int32.ofInt (-1)) (Int32.ofInt (-1)) (am_sI (am_sI h 19 4 (Int32.ofInt 0)) 19 5 (Int32.ofInt (-1)))) fun r3 h4 => (g_X1_tells n 1 a1 a2 (Int32.ofInt 0) 0 h4)) else none else (am_A h 19 6).bind fun q6 => ((am_ln h 0 q6).bind fun n8 => (bif am_vp x3i n8 then (g_X1_tells n 0 a1 a2 (x3i + Int32.ofInt 1) 0 (am_sI h q6 (Int32.toNatClampNeg x3i) x3i)) else none)))) = some ((v, h'), cr, sr) := hf
      by_cases c1 : (am_I h 19 3) < x3i
      · rw [if_pos c1] at hf
        obtain ⟨k2, hf⟩ := am_bis hf
        obtain ⟨r3, h4, e5, hf⟩ := am_b2_ok hf
        have hs := s_X1_meet n (Int32.ofInt 0) (am_I (am_sI (am_sI h 19 4 (Int32.ofInt 0)) 19 5 (Int32.ofInt (-1))) a1 0) (Int32.ofInt (-1)) (Int32.ofInt (-1)) (am_sI (am_sI h 19 4 (Int32.ofInt 0)) 19 5 (Int32.ofInt (-1))) hs e5
        exact ih.2.1 a1 a2 (Int32.ofInt 0) 0 h4 _ _ cr sr hs hf
      · rw [if_neg c1] at hf
        obtain ⟨q6, k7, hf⟩ := am_bnd hf
        obtain ⟨n8, k9, hf⟩ := am_bnd hf
        obtain ⟨b10, hf⟩ := am_bis hf
        exact ih.1 a1 a2 (x3i + Int32.ofInt 1) 0 (am_sI h q6 (Int32.toNatClampNeg x3i) x3i) _ _ cr sr hs hf
    · intro a1 a2 x3i x4i h v h' cr sr hs hf
      have hf : (am_let (Option.bind ((if (am_I h 19 5) = (Int32.ofInt (-1)) then some (Int32.ofInt 0) else some (Int32.ofInt 1))) fun y4 => (bif am_b01 y4 then (some ((y4, h), 0, 0)) else none)) fun b1 => ((if (am_I h 19 4) ≤ x3i then b1 else (if (am_I h 19 3) < x3i then b1 else (if (am_I h 19 5) = (Int32.ofInt (-1)) then g_X1_tells n 2 a1 a2 x3i (Int32.ofInt 0) h else b1))))) = some ((v, h'), cr, sr) := hf
      obtain ⟨b1, k2, hf⟩ := am_let_ok hf
      refine am_cut (P := (Option.bind ((if (am_I h 19 5) = (Int32.ofInt (-1)) then some (Int32.ofInt 0) else some (Int32.ofInt 1))) fun y4 => (bif am_b01 y4 then (some ((y4, h), 0, 0)) else none)) = some ((v, h'), cr, sr) → am_stat h') (fun B3 => ?_) ?_
      · skip
        by_cases c4 : (am_I h 19 4) ≤ x3i
        · rw [if_pos c4] at hf
          exact B3 (k2.symm.trans hf)
        · rw [if_neg c4] at hf
          by_cases c5 : (am_I h 19 3) < x3i
          · rw [if_pos c5] at hf
            exact B3 (k2.symm.trans hf)
          · rw [if_neg c5] at hf
            by_cases c6 : (am_I h 19 5) = (Int32.ofInt (-1))
            · rw [if_pos c6] at hf
              exact ih.2.2 a1 a2 x3i (Int32.ofInt 0) h _ _ cr sr hs hf
            · rw [if_neg c6] at hf
              exact B3 (k2.symm.trans hf)
      intro hf
      obtain ⟨y7, j8, hf⟩ := am_bnd hf
      obtain ⟨b60, hf⟩ := am_bis hf
      obtain ⟨rfl, rfl, rfl, rfl⟩ := am_ic hf
      exact hs
    · intro a1 a2 x3i x4i h v h' cr sr hs hf
      have hf : ((if (Int32.ofInt 24) ≤ x4i then g_X1_tells n 1 a1 a2 (x3i + Int32.ofInt 1) 0 h else (if (am_I h 19 5) = (Int32.ofInt (-1)) then (am_A h 19 7).bind fun q3 => ((am_ln h 0 q3).bind fun n5 => (bif am_vp x3i n5 then (am_b2 (f_X1_leftBehind (am_I h q3 (Int32.toNatClampNeg x3i)) x4i h) fun r8 h9 => ((am_A h9 19 8).bind fun q11 => ((am_ln h9 0 q11).bind fun n13 => (bif am_vp x3i n13 then (am_b2 (f_X1_rightBehind (am_I h9 q11 (Int32.toNatClampNeg x3i)) x4i h9) fun r16 h17 => (am_b2 (f_X1_meet n r8 r16 x3i x4i h17) fun r19 h20 => (g_X1_tells n 2 a1 a2 x3i (x4i + Int32.ofInt 1) h20))) else none)))) else none)) else g_X1_tells n 1 a1 a2 (x3i + Int32.ofInt 1) 0 h))) = some ((v, h'), cr, sr) := hf
      by_cases c1 : (Int32.ofInt 24) ≤ x4i
      · rw [if_pos c1] at hf
        exact ih.2.1 a1 a2 (x3i + Int32.ofInt 1) 0 h _ _ cr sr hs hf
      · rw [if_neg c1] at hf
        by_cases c2 : (am_I h 19 5) = (Int32.ofInt (-1))
        · rw [if_pos c2] at hf
          obtain ⟨q3, k4, hf⟩ := am_bnd hf
          obtain ⟨n5, k6, hf⟩ := am_bnd hf
          obtain ⟨b7, hf⟩ := am_bis hf
          obtain ⟨r8, h9, e10, hf⟩ := am_b2_ok hf
          have hs := s_X1_leftBehind (am_I h q3 (Int32.toNatClampNeg x3i)) x4i h hs e10
          obtain ⟨q11, k12, hf⟩ := am_bnd hf
          obtain ⟨n13, k14, hf⟩ := am_bnd hf
          obtain ⟨b15, hf⟩ := am_bis hf
          obtain ⟨r16, h17, e18, hf⟩ := am_b2_ok hf
          have hs := s_X1_rightBehind (am_I h9 q11 (Int32.toNatClampNeg x3i)) x4i h9 hs e18
          obtain ⟨r19, h20, e21, hf⟩ := am_b2_ok hf
          have hs := s_X1_meet n r8 r16 x3i x4i h17 hs e21
          exact ih.2.2 a1 a2 x3i (x4i + Int32.ofInt 1) h20 _ _ cr sr hs hf
        · rw [if_neg c2] at hf
          exact ih.2.1 a1 a2 (x3i + Int32.ofInt 1) 0 h _ _ cr sr hs hf
set_option maxRecDepth 100000 in
set_option maxHeartbeats 4000000 in
theorem l_X1_tells (n : Nat) : (∀ (a1 : Nat) (a2 : Nat) (x3i : Int32) (x4i : Int32) (h : am_H) (v : Int32) (h' : am_H) (cr sr : Nat) (Cc Ss ac sc : Nat), ac + cr ≤ Cc → sc + sr ≤ Ss → am_stat h → g_X1_tells n 0 a1 a2 x3i x4i h = some ((v, h'), cr, sr) → AW mX1_tells (rX1_tells Cc Ss) (fun r h2 => r = some (.int v) ∧ h2 = h') 35 [(0, .ref 19), (1, .ref a1), (2, .ref a2), (3, .int x3i)] [] h ac sc) ∧ (∀ (a1 : Nat) (a2 : Nat) (x3i : Int32) (x4i : Int32) (h : am_H) (v : Int32) (h' : am_H) (cr sr : Nat) (Cc Ss ac sc : Nat), ac + cr ≤ Cc → sc + sr ≤ Ss → am_stat h → g_X1_tells n 1 a1 a2 x3i x4i h = some ((v, h'), cr, sr) → AW mX1_tells (rX1_tells Cc Ss) (fun r h2 => r = some (.int v) ∧ h2 = h') 79 [(0, .ref 19), (1, .ref a1), (2, .ref a2), (3, .int x3i)] [] h ac sc) ∧ (∀ (a1 : Nat) (a2 : Nat) (x3i : Int32) (x4i : Int32) (h : am_H) (v : Int32) (h' : am_H) (cr sr : Nat) (Cc Ss ac sc : Nat), ac + cr ≤ Cc → sc + sr ≤ Ss → am_stat h → g_X1_tells n 2 a1 a2 x3i x4i h = some ((v, h'), cr, sr) → AW mX1_tells (rX1_tells Cc Ss) (fun r h2 => r = some (.int v) ∧ h2 = h') 106 [(0, .ref 19), (1, .ref a1), (2, .ref a2), (3, .int x3i), (4, .int x4i)] [] h ac sc) := by
  induction n with
  | zero => exact ⟨fun a1 a2 x3i x4i h v h' cr sr Cc Ss ac sc hC hS hs hf => (by cases hf), fun a1 a2 x3i x4i h v h' cr sr Cc Ss ac sc hC hS hs hf => (by cases hf), fun a1 a2 x3i x4i h v h' cr sr Cc Ss ac sc hC hS hs hf => (by cases hf)⟩
  | succ n ih =>
    refine ⟨?_, ?_, ?_⟩
    · intro a1 a2 x3i x4i h v h' cr sr Cc Ss ac sc hC hS hs hf
      have hf : ((if (am_I h 19 3) < x3i then bif am_isO (am_sI (am_sI h 19 4 (Int32.ofInt 0)) 19 5 (Int32.ofInt (-1))) a1 3 then (am_b2 (f_X1_meet n (Int32.ofInt 0) (am_I (am_sI (am_sI h 19 4 (Int32.ofInt 0)) 19 5 (Int32.ofInt (-1))) a1 0) (Int32.ofInt (-1)) (Int32.ofInt (-1)) (am_sI (am_sI h 19 4 (Int32.ofInt 0)) 19 5 (Int32.ofInt (-1)))) fun r3 h4 => (g_X1_tells n 1 a1 a2 (Int32.ofInt 0) 0 h4)) else none else (am_A h 19 6).bind fun q6 => ((am_ln h 0 q6).bind fun n8 => (bif am_vp x3i n8 then (g_X1_tells n 0 a1 a2 (x3i + Int32.ofInt 1) 0 (am_sI h q6 (Int32.toNatClampNeg x3i) x3i)) else none)))) = some ((v, h'), cr, sr) := hf
      refine AW_go okX1_tells 4 ?_
      refine And.intro (sK hs 19) ?_
      refine And.intro (fun c1 => ?_) (fun c1 => ?_)
      · rw [if_pos c1] at hf
        obtain ⟨k2, hf⟩ := am_bis hf
        refine AW_go okX1_tells 12 ?_
        refine And.intro (sK hs 19) ?_
        refine And.intro (sK hs 19) ?_
        refine And.intro (am_isO_ok k2) ?_
        obtain ⟨r3, h4, e5, hf⟩ := am_b2_ok hf
        refine AW_callV (As := [.int (Int32.ofInt 0), .int (am_I (am_sI (am_sI h 19 4 (Int32.ofInt 0)) 19 5 (Int32.ofInt (-1))) a1 0), .int (Int32.ofInt (-1)), .int (Int32.ofInt (-1))]) (R' := rX1_meet 0 0) (T := TX1) (N := 11) (ci := 1) (okX1_tells.1 74 _ _ rfl) lkX1_meet kX1_53 rfl (sK hs 19) rfl (Nat.le_of_ble_eq_true rfl) ⟨(Nat.le_of_ble_eq_true rfl), (Nat.le_of_ble_eq_true rfl)⟩ ⟨show ac + 0 ≤ Cc by omega, show sc + 0 ≤ Ss by omega⟩ (Nat.le_of_ble_eq_true rfl) (c_X1_meet n (Int32.ofInt 0) (am_I (am_sI (am_sI h 19 4 (Int32.ofInt 0)) 19 5 (Int32.ofInt (-1))) a1 0) (Int32.ofInt (-1)) (Int32.ofInt (-1)) (am_sI (am_sI h 19 4 (Int32.ofInt 0)) 19 5 (Int32.ofInt (-1))) hs e5) (fun r h' hq => ?_)
        obtain ⟨rfl, hq⟩ := hq
        replace hq := hq.symm
        subst hq
        have hs := s_X1_meet n (Int32.ofInt 0) (am_I (am_sI (am_sI h 19 4 (Int32.ofInt 0)) 19 5 (Int32.ofInt (-1))) a1 0) (Int32.ofInt (-1)) (Int32.ofInt (-1)) (am_sI (am_sI h 19 4 (Int32.ofInt 0)) 19 5 (Int32.ofInt (-1))) hs e5
        refine AW_go okX1_tells 2 ?_
        refine AW_pick (lv' := [(0, .ref 19), (1, .ref a1), (2, .ref a2), (3, .int (Int32.ofInt 0))]) [1, 2, 3, 0] rfl ?_
        exact ih.2.1 a1 a2 (Int32.ofInt 0) 0 h4 _ _ cr sr Cc Ss ac sc (by omega) (by omega) hs hf
      · rw [if_neg c1] at hf
        obtain ⟨q6, k7, hf⟩ := am_bnd hf
        obtain ⟨n8, k9, hf⟩ := am_bnd hf
        obtain ⟨b10, hf⟩ := am_bis hf
        refine AW_go okX1_tells 7 ?_
        refine And.intro (sK hs 19) (Exists.intro (some q6) (And.intro k7 ?_))
        refine Exists.intro n8 (And.intro (am_ln_ok k9) (And.intro (am_vp_ok b10) ?_))
        refine AW_pick (lv' := [(0, .ref 19), (1, .ref a1), (2, .ref a2), (3, .int (x3i + Int32.ofInt 1))]) [1, 2, 3, 0] rfl ?_
        exact ih.1 a1 a2 (x3i + Int32.ofInt 1) 0 (am_sI h q6 (Int32.toNatClampNeg x3i) x3i) _ _ cr sr Cc Ss ac sc (by omega) (by omega) hs hf
    · intro a1 a2 x3i x4i h v h' cr sr Cc Ss ac sc hC hS hs hf
      have hf : (am_let (Option.bind ((if (am_I h 19 5) = (Int32.ofInt (-1)) then some (Int32.ofInt 0) else some (Int32.ofInt 1))) fun y4 => (bif am_b01 y4 then (some ((y4, h), 0, 0)) else none)) fun b1 => ((if (am_I h 19 4) ≤ x3i then b1 else (if (am_I h 19 3) < x3i then b1 else (if (am_I h 19 5) = (Int32.ofInt (-1)) then g_X1_tells n 2 a1 a2 x3i (Int32.ofInt 0) h else b1))))) = some ((v, h'), cr, sr) := hf
      refine AW_go okX1_tells 3 ?_
      refine And.intro (sK hs 19) ?_
      obtain ⟨b1, k2, hf⟩ := am_let_ok hf
      refine am_cut (P := (Option.bind ((if (am_I h 19 5) = (Int32.ofInt (-1)) then some (Int32.ofInt 0) else some (Int32.ofInt 1))) fun y4 => (bif am_b01 y4 then (some ((y4, h), 0, 0)) else none)) = some ((v, h'), cr, sr) → AW mX1_tells (rX1_tells Cc Ss) (fun r h2 => r = some (.int v) ∧ h2 = h') 164 [(0, .ref 19), (1, .ref a1), (2, .ref a2), (3, .int x3i)] [] h ac sc) (fun B3 => ?_) ?_
      · skip
        refine AW_go okX1_tells 1 ?_
        refine And.intro (fun c4 => ?_) (fun c4 => ?_)
        · rw [if_pos c4] at hf
          exact B3 (k2.symm.trans hf)
        · rw [if_neg c4] at hf
          refine AW_go okX1_tells 4 ?_
          refine And.intro (sK hs 19) ?_
          refine And.intro (fun c5 => ?_) (fun c5 => ?_)
          · rw [if_pos c5] at hf
            exact B3 (k2.symm.trans hf)
          · rw [if_neg c5] at hf
            refine AW_go okX1_tells 4 ?_
            refine And.intro (sK hs 19) ?_
            refine And.intro (fun c6 => ?_) (fun c6 => ?_)
            · rw [if_neg c6] at hf
              exact B3 (k2.symm.trans hf)
            · rw [if_pos c6] at hf
              refine AW_go okX1_tells 2 ?_
              refine AW_pick (lv' := [(0, .ref 19), (1, .ref a1), (2, .ref a2), (3, .int x3i), (4, .int (Int32.ofInt 0))]) [1, 2, 3, 4, 0] rfl ?_
              exact ih.2.2 a1 a2 x3i (Int32.ofInt 0) h _ _ cr sr Cc Ss ac sc (by omega) (by omega) hs hf
      intro hf
      refine AW_go okX1_tells 3 ?_
      refine And.intro (sK hs 19) ?_
      obtain ⟨y7, j8, hf⟩ := am_bnd hf
      refine am_cut (P := AW mX1_tells (rX1_tells Cc Ss) (fun r h2 => r = some (.int v) ∧ h2 = h') 177 [(0, .ref 19), (1, .ref a1), (2, .ref a2), (3, .int x3i)] [.int y7] h ac sc) (fun hJ8 => ?_) ?_
      · have hs := hs
        refine AW_go okX1_tells 1 ?_
        refine And.intro (fun c9 => ?_) (fun c9 => ?_)
        · rw [if_pos c9] at j8
          refine AW_go okX1_tells 1 ?_
          obtain rfl := am_i1 j8
          exact AW_pick [0, 1, 2, 3] rfl hJ8
        · rw [if_neg c9] at j8
          refine AW_go okX1_tells 2 ?_
          obtain rfl := am_i1 j8
          exact AW_pick [0, 1, 2, 3] rfl hJ8
      obtain ⟨b60, hf⟩ := am_bis hf
      refine AW_go okX1_tells 1 ?_
      obtain ⟨rfl, rfl, rfl, rfl⟩ := am_ic hf
      exact And.intro ⟨show ac ≤ Cc by omega, show sc ≤ Ss by omega⟩ (And.intro (Or.inr ⟨rfl, am_b01_ok b60⟩) ⟨rfl, rfl⟩)
    · intro a1 a2 x3i x4i h v h' cr sr Cc Ss ac sc hC hS hs hf
      have hf : ((if (Int32.ofInt 24) ≤ x4i then g_X1_tells n 1 a1 a2 (x3i + Int32.ofInt 1) 0 h else (if (am_I h 19 5) = (Int32.ofInt (-1)) then (am_A h 19 7).bind fun q3 => ((am_ln h 0 q3).bind fun n5 => (bif am_vp x3i n5 then (am_b2 (f_X1_leftBehind (am_I h q3 (Int32.toNatClampNeg x3i)) x4i h) fun r8 h9 => ((am_A h9 19 8).bind fun q11 => ((am_ln h9 0 q11).bind fun n13 => (bif am_vp x3i n13 then (am_b2 (f_X1_rightBehind (am_I h9 q11 (Int32.toNatClampNeg x3i)) x4i h9) fun r16 h17 => (am_b2 (f_X1_meet n r8 r16 x3i x4i h17) fun r19 h20 => (g_X1_tells n 2 a1 a2 x3i (x4i + Int32.ofInt 1) h20))) else none)))) else none)) else g_X1_tells n 1 a1 a2 (x3i + Int32.ofInt 1) 0 h))) = some ((v, h'), cr, sr) := hf
      refine AW_go okX1_tells 3 ?_
      refine And.intro (fun c1 => ?_) (fun c1 => ?_)
      · rw [if_pos c1] at hf
        refine AW_go okX1_tells 2 ?_
        refine AW_pick (lv' := [(0, .ref 19), (1, .ref a1), (2, .ref a2), (3, .int (x3i + Int32.ofInt 1))]) [1, 2, 3, 0] rfl ?_
        exact ih.2.1 a1 a2 (x3i + Int32.ofInt 1) 0 h _ _ cr sr Cc Ss ac sc (by omega) (by omega) hs hf
      · rw [if_neg c1] at hf
        refine AW_go okX1_tells 4 ?_
        refine And.intro (sK hs 19) ?_
        refine And.intro (fun c2 => ?_) (fun c2 => ?_)
        · rw [if_neg c2] at hf
          refine AW_go okX1_tells 2 ?_
          refine AW_pick (lv' := [(0, .ref 19), (1, .ref a1), (2, .ref a2), (3, .int (x3i + Int32.ofInt 1))]) [1, 2, 3, 0] rfl ?_
          exact ih.2.1 a1 a2 (x3i + Int32.ofInt 1) 0 h _ _ cr sr Cc Ss ac sc (by omega) (by omega) hs hf
        · rw [if_pos c2] at hf
          obtain ⟨q3, k4, hf⟩ := am_bnd hf
          obtain ⟨n5, k6, hf⟩ := am_bnd hf
          obtain ⟨b7, hf⟩ := am_bis hf
          refine AW_go okX1_tells 7 ?_
          refine And.intro (sK hs 19) (Exists.intro (some q3) (And.intro k4 ?_))
          refine Exists.intro n5 (And.intro (am_ln_ok k6) (And.intro (am_vp_ok b7) ?_))
          obtain ⟨r8, h9, e10, hf⟩ := am_b2_ok hf
          refine AW_callV (As := [.int (am_I h q3 (Int32.toNatClampNeg x3i)), .int x4i]) (R' := rX1_leftBehind 0 0) (T := TX1) (N := 11) (ci := 1) (okX1_tells.1 131 _ _ rfl) lkX1_leftBehind kX1_57 rfl (sK hs 19) rfl (Nat.le_of_ble_eq_true rfl) ⟨(Nat.le_of_ble_eq_true rfl), (Nat.le_of_ble_eq_true rfl)⟩ ⟨show ac + 0 ≤ Cc by omega, show sc + 0 ≤ Ss by omega⟩ (Nat.le_of_ble_eq_true rfl) (c_X1_leftBehind (am_I h q3 (Int32.toNatClampNeg x3i)) x4i h hs e10) (fun r h' hq => ?_)
          obtain ⟨rfl, hq⟩ := hq
          replace hq := hq.symm
          subst hq
          have hs := s_X1_leftBehind (am_I h q3 (Int32.toNatClampNeg x3i)) x4i h hs e10
          obtain ⟨q11, k12, hf⟩ := am_bnd hf
          obtain ⟨n13, k14, hf⟩ := am_bnd hf
          obtain ⟨b15, hf⟩ := am_bis hf
          refine AW_go okX1_tells 6 ?_
          refine And.intro (sK hs 19) (Exists.intro (some q11) (And.intro k12 ?_))
          refine Exists.intro n13 (And.intro (am_ln_ok k14) (And.intro (am_vp_ok b15) ?_))
          obtain ⟨r16, h17, e18, hf⟩ := am_b2_ok hf
          refine AW_callV (As := [.int (am_I h9 q11 (Int32.toNatClampNeg x3i)), .int x4i]) (R' := rX1_rightBehind 0 0) (T := TX1) (N := 11) (ci := 1) (okX1_tells.1 143 _ _ rfl) lkX1_rightBehind kX1_61 rfl (sK hs 19) rfl (Nat.le_of_ble_eq_true rfl) ⟨(Nat.le_of_ble_eq_true rfl), (Nat.le_of_ble_eq_true rfl)⟩ ⟨show ac + 0 ≤ Cc by omega, show sc + 0 ≤ Ss by omega⟩ (Nat.le_of_ble_eq_true rfl) (c_X1_rightBehind (am_I h9 q11 (Int32.toNatClampNeg x3i)) x4i h9 hs e18) (fun r h' hq => ?_)
          obtain ⟨rfl, hq⟩ := hq
          replace hq := hq.symm
          subst hq
          have hs := s_X1_rightBehind (am_I h9 q11 (Int32.toNatClampNeg x3i)) x4i h9 hs e18
          refine AW_go okX1_tells 2 ?_
          obtain ⟨r19, h20, e21, hf⟩ := am_b2_ok hf
          refine AW_callV (As := [.int r8, .int r16, .int x3i, .int x4i]) (R' := rX1_meet 0 0) (T := TX1) (N := 11) (ci := 1) (okX1_tells.1 149 _ _ rfl) lkX1_meet kX1_53 rfl (sK hs 19) rfl (Nat.le_of_ble_eq_true rfl) ⟨(Nat.le_of_ble_eq_true rfl), (Nat.le_of_ble_eq_true rfl)⟩ ⟨show ac + 0 ≤ Cc by omega, show sc + 0 ≤ Ss by omega⟩ (Nat.le_of_ble_eq_true rfl) (c_X1_meet n r8 r16 x3i x4i h17 hs e21) (fun r h' hq => ?_)
          obtain ⟨rfl, hq⟩ := hq
          replace hq := hq.symm
          subst hq
          have hs := s_X1_meet n r8 r16 x3i x4i h17 hs e21
          refine AW_go okX1_tells 2 ?_
          refine AW_pick (lv' := [(0, .ref 19), (1, .ref a1), (2, .ref a2), (3, .int x3i), (4, .int (x4i + Int32.ofInt 1))]) [1, 2, 3, 4, 0] rfl ?_
          exact ih.2.2 a1 a2 x3i (x4i + Int32.ofInt 1) h20 _ _ cr sr Cc Ss ac sc (by omega) (by omega) hs hf
def f_X1_tells (n : Nat) (a1 : Nat) (a2 : Nat) (h : am_H) : Option ((Int32 × am_H) × Nat × Nat) := bif am_isO (am_sA (am_sA h 19 1 (some a1)) 19 2 (some a2)) a1 3 then (bif am_isO (am_sA (am_sA h 19 1 (some a1)) 19 2 (some a2)) a2 3 then (am_bc (f_X1_makeRoom ((am_I (am_sI (am_sA (am_sA h 19 1 (some a1)) 19 2 (some a2)) 19 3 ((am_I (am_sA (am_sA h 19 1 (some a1)) 19 2 (some a2)) a1 0) + (am_I (am_sA (am_sA h 19 1 (some a1)) 19 2 (some a2)) a2 0))) 19 3) + (Int32.ofInt 1)) (am_sI (am_sA (am_sA h 19 1 (some a1)) 19 2 (some a2)) 19 3 ((am_I (am_sA (am_sA h 19 1 (some a1)) 19 2 (some a2)) a1 0) + (am_I (am_sA (am_sA h 19 1 (some a1)) 19 2 (some a2)) a2 0)))) fun r3 h4 => (g_X1_tells n 0 a1 a2 (Int32.ofInt 0) 0 h4)) else none) else none
set_option maxRecDepth 100000 in
set_option maxHeartbeats 4000000 in
theorem s_X1_tells (n : Nat) (a1 : Nat) (a2 : Nat) (h : am_H) (hs : am_stat h) {v : Int32} {h' : am_H} {cr sr : Nat} (hf : f_X1_tells n a1 a2 h = some ((v, h'), cr, sr)) : am_stat h' := by
  unfold f_X1_tells at hf
  obtain ⟨k1, hf⟩ := am_bis hf
  obtain ⟨k2, hf⟩ := am_bis hf
  have hs := am_stA hs 19 1 (some a1) rfl
  have hs := am_stA hs 19 2 (some a2) rfl
  obtain ⟨r3, h4, c6, s7, c8, s9, e5, hg10, rfl, rfl⟩ := am_bc_ok hf
  have hf := hg10
  have hs := s_X1_makeRoom ((am_I (am_sI (am_sA (am_sA h 19 1 (some a1)) 19 2 (some a2)) 19 3 ((am_I (am_sA (am_sA h 19 1 (some a1)) 19 2 (some a2)) a1 0) + (am_I (am_sA (am_sA h 19 1 (some a1)) 19 2 (some a2)) a2 0))) 19 3) + (Int32.ofInt 1)) (am_sI (am_sA (am_sA h 19 1 (some a1)) 19 2 (some a2)) 19 3 ((am_I (am_sA (am_sA h 19 1 (some a1)) 19 2 (some a2)) a1 0) + (am_I (am_sA (am_sA h 19 1 (some a1)) 19 2 (some a2)) a2 0))) hs e5
  exact (m_X1_tells n).1 a1 a2 (Int32.ofInt 0) 0 h4 _ _ c8 s9 hs hf
set_option maxRecDepth 100000 in
set_option maxHeartbeats 4000000 in
theorem c_X1_tells (n : Nat) (a1 : Nat) (a2 : Nat) (h : am_H) (hs : am_stat h) {v : Int32} {h' : am_H} {cr sr : Nat} (Cc Ss : Nat) (hC : 0 + cr ≤ Cc) (hS : 0 + sr ≤ Ss) (hf : f_X1_tells n a1 a2 h = some ((v, h'), cr, sr)) : AMet mX1_tells (rX1_tells Cc Ss) (fun r h2 => r = some (.int v) ∧ h2 = h') [.ref 19, .ref a1, .ref a2] h := by
  unfold f_X1_tells at hf
  obtain ⟨k1, hf⟩ := am_bis hf
  obtain ⟨k2, hf⟩ := am_bis hf
  refine AW_go okX1_tells 18 ?_
  refine And.intro (sK hs 19) ?_
  have hs := am_stA hs 19 1 (some a1) rfl
  refine And.intro (sK hs 19) ?_
  have hs := am_stA hs 19 2 (some a2) rfl
  refine And.intro (am_isO_ok k1) ?_
  refine And.intro (am_isO_ok k2) ?_
  refine And.intro (sK hs 19) ?_
  refine And.intro (sK hs 19) ?_
  obtain ⟨r3, h4, c6, s7, c8, s9, e5, hg10, rfl, rfl⟩ := am_bc_ok hf
  have hf := hg10
  refine AW_callV (As := [.int ((am_I (am_sI (am_sA (am_sA h 19 1 (some a1)) 19 2 (some a2)) 19 3 ((am_I (am_sA (am_sA h 19 1 (some a1)) 19 2 (some a2)) a1 0) + (am_I (am_sA (am_sA h 19 1 (some a1)) 19 2 (some a2)) a2 0))) 19 3) + (Int32.ofInt 1))]) (R' := rX1_makeRoom c6 s7) (T := TX1) (N := 11) (ci := 1) (okX1_tells.1 30 _ _ rfl) lkX1_makeRoom kX1_43 rfl (sK hs 19) rfl (Nat.le_of_ble_eq_true rfl) ⟨(Nat.le_of_ble_eq_true rfl), (Nat.le_of_ble_eq_true rfl)⟩ ⟨show 0 + c6 ≤ Cc by omega, show 0 + s7 ≤ Ss by omega⟩ (Nat.le_of_ble_eq_true rfl) (c_X1_makeRoom ((am_I (am_sI (am_sA (am_sA h 19 1 (some a1)) 19 2 (some a2)) 19 3 ((am_I (am_sA (am_sA h 19 1 (some a1)) 19 2 (some a2)) a1 0) + (am_I (am_sA (am_sA h 19 1 (some a1)) 19 2 (some a2)) a2 0))) 19 3) + (Int32.ofInt 1)) (am_sI (am_sA (am_sA h 19 1 (some a1)) 19 2 (some a2)) 19 3 ((am_I (am_sA (am_sA h 19 1 (some a1)) 19 2 (some a2)) a1 0) + (am_I (am_sA (am_sA h 19 1 (some a1)) 19 2 (some a2)) a2 0))) hs c6 s7 (by omega) (by omega) e5) (fun r h' hq => ?_)
  obtain ⟨rfl, hq⟩ := hq
  replace hq := hq.symm
  subst hq
  have hs := s_X1_makeRoom ((am_I (am_sI (am_sA (am_sA h 19 1 (some a1)) 19 2 (some a2)) 19 3 ((am_I (am_sA (am_sA h 19 1 (some a1)) 19 2 (some a2)) a1 0) + (am_I (am_sA (am_sA h 19 1 (some a1)) 19 2 (some a2)) a2 0))) 19 3) + (Int32.ofInt 1)) (am_sI (am_sA (am_sA h 19 1 (some a1)) 19 2 (some a2)) 19 3 ((am_I (am_sA (am_sA h 19 1 (some a1)) 19 2 (some a2)) a1 0) + (am_I (am_sA (am_sA h 19 1 (some a1)) 19 2 (some a2)) a2 0))) hs e5
  refine AW_go okX1_tells 2 ?_
  refine AW_pick (lv' := [(0, .ref 19), (1, .ref a1), (2, .ref a2), (3, .int (Int32.ofInt 0))]) [1, 2, 3, 0] rfl ?_
  exact (l_X1_tells n).1 a1 a2 (Int32.ofInt 0) 0 h4 _ _ c8 s9 Cc Ss (0 + c6) (0 + s7) (by omega) (by omega) hs hf
