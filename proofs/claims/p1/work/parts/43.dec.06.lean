def f_X8_book (n : Nat) (h : am_H) : Option ((Int32 × am_H) × Nat × Nat) := am_b2 (f_X8_readWhole n (Int32.ofInt 0) h) fun r1 h2 => ((if r1 = 0 then some (((Int32.ofInt (-103)), h2), 0, 0) else (if (am_I h2 0 5) < (Int32.ofInt 8) then am_bc (f_X5_gathered (am_sI h2 1 1 (Int32.ofInt 0))) fun r6 h7 => (am_b2 (f_X8_keep r6 h7) fun r14 h15 => (some ((r14, h15), 0, 0))) else some (((Int32.ofInt (-104)), h2), 0, 0))))
set_option maxRecDepth 100000 in
set_option maxHeartbeats 4000000 in
theorem s_X8_book (n : Nat) (h : am_H) (hs : am_stat h) {v : Int32} {h' : am_H} {cr sr : Nat} (hf : f_X8_book n h = some ((v, h'), cr, sr)) : am_stat h' := by
  unfold f_X8_book at hf
  obtain ⟨r1, h2, e3, hf⟩ := am_b2_ok hf
  have hs := s_X8_readWhole n (Int32.ofInt 0) h hs e3
  by_cases c4 : r1 = 0
  · rw [if_pos c4] at hf
    obtain ⟨rfl, rfl, rfl, rfl⟩ := am_ic hf
    exact hs
  · rw [if_neg c4] at hf
    by_cases c5 : (am_I h2 0 5) < (Int32.ofInt 8)
    · rw [if_pos c5] at hf
      obtain ⟨r6, h7, c9, s10, c11, s12, e8, hg13, rfl, rfl⟩ := am_bc_ok hf
      have hf := hg13
      have hs := s_X5_gathered (am_sI h2 1 1 (Int32.ofInt 0)) hs e8
      obtain ⟨r14, h15, e16, hf⟩ := am_b2_ok hf
      have hs := s_X8_keep r6 h7 hs e16
      obtain ⟨rfl, rfl, rfl, rfl⟩ := am_ic hf
      exact hs
    · rw [if_neg c5] at hf
      obtain ⟨rfl, rfl, rfl, rfl⟩ := am_ic hf
      exact hs
set_option maxRecDepth 100000 in
set_option maxHeartbeats 4000000 in
theorem c_X8_book (n : Nat) (h : am_H) (hs : am_stat h) {v : Int32} {h' : am_H} {cr sr : Nat} (Cc Ss : Nat) (hC : 0 + cr ≤ Cc) (hS : 0 + sr ≤ Ss) (hf : f_X8_book n h = some ((v, h'), cr, sr)) : AMet mX8_book (rX8_book Cc Ss) (fun r h2 => r = some (.int v) ∧ h2 = h') [.ref 0] h := by
  unfold f_X8_book at hf
  refine AW_go okX8_book 2 ?_
  obtain ⟨r1, h2, e3, hf⟩ := am_b2_ok hf
  refine AW_callV (As := [.int (Int32.ofInt 0)]) (R' := rX8_readWhole 0 0) (T := TX8) (N := 18) (ci := 8) (okX8_book.1 2 _ _ rfl) lkX8_readWhole kX8_87 rfl (sK hs 0) rfl (Nat.le_of_ble_eq_true rfl) ⟨(Nat.le_of_ble_eq_true rfl), (Nat.le_of_ble_eq_true rfl)⟩ ⟨show 0 + 0 ≤ Cc by omega, show 0 + 0 ≤ Ss by omega⟩ (Nat.le_of_ble_eq_true rfl) (c_X8_readWhole n (Int32.ofInt 0) h hs e3) (fun r h' hq => ?_)
  obtain ⟨rfl, hq⟩ := hq
  replace hq := hq.symm
  subst hq
  have hs := s_X8_readWhole n (Int32.ofInt 0) h hs e3
  refine AW_go okX8_book 1 ?_
  refine And.intro (fun c4 => ?_) (fun c4 => ?_)
  · rw [if_neg c4] at hf
    refine AW_go okX8_book 4 ?_
    refine And.intro (sK hs 0) ?_
    refine And.intro (fun c5 => ?_) (fun c5 => ?_)
    · rw [if_pos c5] at hf
      refine AW_go okX8_book 7 ?_
      refine And.intro (sK hs 0) (Exists.intro _ (And.intro (sA hs 0 0) ?_))
      refine And.intro (sK hs 1) ?_
      refine And.intro (sK hs 0) (Exists.intro _ (And.intro (sA hs 0 1) ?_))
      obtain ⟨r6, h7, c9, s10, c11, s12, e8, hg13, rfl, rfl⟩ := am_bc_ok hf
      have hf := hg13
      refine AW_callV (As := []) (R' := rX5_gathered c9 s10) (T := TX5) (N := 12) (ci := 5) (okX8_book.1 36 _ _ rfl) lkX5_gathered kX8_94 rfl (sK hs 3) rfl (Nat.le_of_ble_eq_true rfl) ⟨(Nat.le_of_ble_eq_true rfl), (Nat.le_of_ble_eq_true rfl)⟩ ⟨show 0 + c9 ≤ Cc by omega, show 0 + s10 ≤ Ss by omega⟩ (Nat.le_of_ble_eq_true rfl) (c_X5_gathered (am_sI h2 1 1 (Int32.ofInt 0)) hs c9 s10 (by omega) (by omega) e8) (fun r h' hq => ?_)
      obtain ⟨rfl, hq⟩ := hq
      replace hq := hq.symm
      subst hq
      have hs := s_X5_gathered (am_sI h2 1 1 (Int32.ofInt 0)) hs e8
      obtain ⟨r14, h15, e16, hf⟩ := am_b2_ok hf
      refine AW_callV (As := [.ref r6]) (R' := rX8_keep 0 0) (T := TX8) (N := 18) (ci := 8) (okX8_book.1 39 _ _ rfl) lkX8_keep kX8_98 rfl (sK hs 0) rfl (Nat.le_of_ble_eq_true rfl) ⟨(Nat.le_of_ble_eq_true rfl), (Nat.le_of_ble_eq_true rfl)⟩ ⟨show (0 + c9) + 0 ≤ Cc by omega, show (0 + s10) + 0 ≤ Ss by omega⟩ (Nat.le_of_ble_eq_true rfl) (c_X8_keep r6 h7 hs e16) (fun r h' hq => ?_)
      obtain ⟨rfl, hq⟩ := hq
      replace hq := hq.symm
      subst hq
      have hs := s_X8_keep r6 h7 hs e16
      refine AW_go okX8_book 1 ?_
      obtain ⟨rfl, rfl, rfl, rfl⟩ := am_ic hf
      exact And.intro ⟨show (0 + c9) ≤ Cc by omega, show (0 + s10) ≤ Ss by omega⟩ (And.intro (Or.inl rfl) ⟨rfl, rfl⟩)
    · rw [if_neg c5] at hf
      refine AW_go okX8_book 2 ?_
      obtain ⟨rfl, rfl, rfl, rfl⟩ := am_ic hf
      exact And.intro ⟨show 0 ≤ Cc by omega, show 0 ≤ Ss by omega⟩ (And.intro (Or.inl rfl) ⟨rfl, rfl⟩)
  · rw [if_pos c4] at hf
    refine AW_go okX8_book 2 ?_
    obtain ⟨rfl, rfl, rfl, rfl⟩ := am_ic hf
    exact And.intro ⟨show 0 ≤ Cc by omega, show 0 ≤ Ss by omega⟩ (And.intro (Or.inl rfl) ⟨rfl, rfl⟩)
def f_X8_one (n : Nat) (h : am_H) : Option ((Int32 × am_H) × Nat × Nat) := am_b2 (f_X8_readWhole n (Int32.ofInt 1) h) fun r1 h2 => ((if r1 = 0 then some (((Int32.ofInt (-103)), h2), 0, 0) else (if (am_I h2 0 7) < (Int32.ofInt 3) then am_bc (f_X4_copy 1 h2) fun r6 h7 => (bif am_isO h7 r6 4 then (bif am_vp (am_I h2 0 7) 3 then (some (((am_I (am_sI (am_sA h7 26 (Int32.toNatClampNeg (am_I h2 0 7)) (some r6)) 1 1 (Int32.ofInt 0)) 0 7), (am_sI (am_sI (am_sA h7 26 (Int32.toNatClampNeg (am_I h2 0 7)) (some r6)) 1 1 (Int32.ofInt 0)) 0 7 ((am_I (am_sI (am_sA h7 26 (Int32.toNatClampNeg (am_I h2 0 7)) (some r6)) 1 1 (Int32.ofInt 0)) 0 7) + (Int32.ofInt 1)))), 0, 0)) else none) else none) else some (((Int32.ofInt (-104)), h2), 0, 0))))
set_option maxRecDepth 100000 in
set_option maxHeartbeats 4000000 in
theorem s_X8_one (n : Nat) (h : am_H) (hs : am_stat h) {v : Int32} {h' : am_H} {cr sr : Nat} (hf : f_X8_one n h = some ((v, h'), cr, sr)) : am_stat h' := by
  unfold f_X8_one at hf
  obtain ⟨r1, h2, e3, hf⟩ := am_b2_ok hf
  have hs := s_X8_readWhole n (Int32.ofInt 1) h hs e3
  by_cases c4 : r1 = 0
  · rw [if_pos c4] at hf
    obtain ⟨rfl, rfl, rfl, rfl⟩ := am_ic hf
    exact hs
  · rw [if_neg c4] at hf
    by_cases c5 : (am_I h2 0 7) < (Int32.ofInt 3)
    · rw [if_pos c5] at hf
      obtain ⟨r6, h7, c9, s10, c11, s12, e8, hg13, rfl, rfl⟩ := am_bc_ok hf
      have hf := hg13
      have hs := s_X4_copy 1 h2 hs e8
      obtain ⟨k14, hf⟩ := am_bis hf
      obtain ⟨b15, hf⟩ := am_bis hf
      have hs := am_stAr hs 26 (Int32.toNatClampNeg (am_I h2 0 7)) (some r6) (by decide +kernel)
      obtain ⟨rfl, rfl, rfl, rfl⟩ := am_ic hf
      exact hs
    · rw [if_neg c5] at hf
      obtain ⟨rfl, rfl, rfl, rfl⟩ := am_ic hf
      exact hs
set_option maxRecDepth 100000 in
set_option maxHeartbeats 4000000 in
theorem c_X8_one (n : Nat) (h : am_H) (hs : am_stat h) {v : Int32} {h' : am_H} {cr sr : Nat} (Cc Ss : Nat) (hC : 0 + cr ≤ Cc) (hS : 0 + sr ≤ Ss) (hf : f_X8_one n h = some ((v, h'), cr, sr)) : AMet mX8_one (rX8_one Cc Ss) (fun r h2 => r = some (.int v) ∧ h2 = h') [.ref 0] h := by
  unfold f_X8_one at hf
  refine AW_go okX8_one 2 ?_
  obtain ⟨r1, h2, e3, hf⟩ := am_b2_ok hf
  refine AW_callV (As := [.int (Int32.ofInt 1)]) (R' := rX8_readWhole 0 0) (T := TX8) (N := 18) (ci := 8) (okX8_one.1 2 _ _ rfl) lkX8_readWhole kX8_87 rfl (sK hs 0) rfl (Nat.le_of_ble_eq_true rfl) ⟨(Nat.le_of_ble_eq_true rfl), (Nat.le_of_ble_eq_true rfl)⟩ ⟨show 0 + 0 ≤ Cc by omega, show 0 + 0 ≤ Ss by omega⟩ (Nat.le_of_ble_eq_true rfl) (c_X8_readWhole n (Int32.ofInt 1) h hs e3) (fun r h' hq => ?_)
  obtain ⟨rfl, hq⟩ := hq
  replace hq := hq.symm
  subst hq
  have hs := s_X8_readWhole n (Int32.ofInt 1) h hs e3
  refine AW_go okX8_one 1 ?_
  refine And.intro (fun c4 => ?_) (fun c4 => ?_)
  · rw [if_neg c4] at hf
    refine AW_go okX8_one 4 ?_
    refine And.intro (sK hs 0) ?_
    refine And.intro (fun c5 => ?_) (fun c5 => ?_)
    · rw [if_pos c5] at hf
      refine AW_go okX8_one 6 ?_
      refine And.intro (sK hs 0) (Exists.intro _ (And.intro (sA hs 0 6) ?_))
      refine And.intro (sK hs 0) ?_
      refine And.intro (sK hs 0) (Exists.intro _ (And.intro (sA hs 0 0) ?_))
      obtain ⟨r6, h7, c9, s10, c11, s12, e8, hg13, rfl, rfl⟩ := am_bc_ok hf
      have hf := hg13
      refine AW_callV (As := []) (R' := rX4_copy c9 s10) (T := TX4) (N := 2) (ci := 4) (okX8_one.1 34 _ _ rfl) lkX4_copy kX8_105 rfl (sK hs 1) rfl (Nat.le_of_ble_eq_true rfl) ⟨(Nat.le_of_ble_eq_true rfl), (Nat.le_of_ble_eq_true rfl)⟩ ⟨show 0 + c9 ≤ Cc by omega, show 0 + s10 ≤ Ss by omega⟩ (Nat.le_of_ble_eq_true rfl) (c_X4_copy 1 h2 hs c9 s10 (by omega) (by omega) e8) (fun r h' hq => ?_)
      obtain ⟨rfl, hq⟩ := hq
      replace hq := hq.symm
      subst hq
      have hs := s_X4_copy 1 h2 hs e8
      obtain ⟨k14, hf⟩ := am_bis hf
      obtain ⟨b15, hf⟩ := am_bis hf
      refine AW_go okX8_one 13 ?_
      refine Exists.intro 5 (Exists.intro 3 (Exists.intro 4 (And.intro (by decide) (And.intro (sK hs 26) (And.intro (am_isO_ok k14) (And.intro (am_vp_ok b15) ?_))))))
      have hs := am_stAr hs 26 (Int32.toNatClampNeg (am_I h2 0 7)) (some r6) (by decide +kernel)
      refine And.intro (sK hs 0) (Exists.intro _ (And.intro (sA hs 0 0) ?_))
      refine And.intro (sK hs 1) ?_
      refine And.intro (sK hs 0) ?_
      refine And.intro (sK hs 0) ?_
      obtain ⟨rfl, rfl, rfl, rfl⟩ := am_ic hf
      exact And.intro ⟨show (0 + c9) ≤ Cc by omega, show (0 + s10) ≤ Ss by omega⟩ (And.intro (Or.inl rfl) ⟨rfl, rfl⟩)
    · rw [if_neg c5] at hf
      refine AW_go okX8_one 2 ?_
      obtain ⟨rfl, rfl, rfl, rfl⟩ := am_ic hf
      exact And.intro ⟨show 0 ≤ Cc by omega, show 0 ≤ Ss by omega⟩ (And.intro (Or.inl rfl) ⟨rfl, rfl⟩)
  · rw [if_pos c4] at hf
    refine AW_go okX8_one 2 ?_
    obtain ⟨rfl, rfl, rfl, rfl⟩ := am_ic hf
    exact And.intro ⟨show 0 ≤ Cc by omega, show 0 ≤ Ss by omega⟩ (And.intro (Or.inl rfl) ⟨rfl, rfl⟩)
def f_X8_now (n : Nat) (a1 : Int32) (h : am_H) : Option ((Int32 × am_H) × Nat × Nat) := (if a1 < 0 then some (((Int32.ofInt (-102)), h), 0, 0) else (if a1 < (Int32.ofInt 5) then (if a1 = (Int32.ofInt 3) then am_bc (f_X8_surveyNow n h) fun r4 h5 => (bif Nat.beq r4 37 then (am_b2 ((if (am_I h5 37 1) = 0 then am_b2 (f_X6_marksOf n 37 (am_J h5 0 10) h5) fun r18 h19 => (some ((((Int32.toUInt32 r18 >>> (Int32.toUInt32 (Int32.ofInt 3) &&& Int32.toUInt32 31)).toInt32) &&& (Int32.ofInt 1)), h19)) else some ((Int32.ofInt (-2)), h5))) fun y14 h15 => (some ((y14, h15), 0, 0))) else none) else am_b2 (f_X7_list n (am_J h 0 10) h) fun r71 h72 => (am_b2 (f_X7_marks n (am_J h 0 10) r71 h72) fun r74 h75 => (some (((((Int32.toUInt32 r74 >>> (Int32.toUInt32 a1 &&& Int32.toUInt32 31)).toInt32) &&& (Int32.ofInt 1)), h75), 0, 0)))) else some (((Int32.ofInt (-102)), h), 0, 0)))
set_option maxRecDepth 100000 in
set_option maxHeartbeats 4000000 in
theorem s_X8_now (n : Nat) (a1 : Int32) (h : am_H) (hs : am_stat h) {v : Int32} {h' : am_H} {cr sr : Nat} (hf : f_X8_now n a1 h = some ((v, h'), cr, sr)) : am_stat h' := by
  unfold f_X8_now at hf
  by_cases c1 : a1 < 0
  · rw [if_pos c1] at hf
    obtain ⟨rfl, rfl, rfl, rfl⟩ := am_ic hf
    exact hs
  · rw [if_neg c1] at hf
    by_cases c2 : a1 < (Int32.ofInt 5)
    · rw [if_pos c2] at hf
      by_cases c3 : a1 = (Int32.ofInt 3)
      · rw [if_pos c3] at hf
        obtain ⟨r4, h5, c7, s8, c9, s10, e6, hg11, rfl, rfl⟩ := am_bc_ok hf
        have hf := hg11
        have hs := s_X8_surveyNow n h hs e6
        obtain ⟨k12, hg13⟩ := am_bis hf
        obtain rfl := Nat.eq_of_beq_eq_true k12
        have hf := hg13
        obtain ⟨y14, h15, j16, hf⟩ := am_b2_ok hf
        have hs0 := hs
        have hs : am_stat h15 := by
          have hs := hs0
          by_cases c17 : (am_I h5 37 1) = 0
          · rw [if_pos c17] at j16
            obtain ⟨r18, h19, e20, j16⟩ := am_b2_ok j16
            have hs := s_X6_marksOf n 37 (am_J h5 0 10) h5 (Or.inl rfl) hs e20
            obtain ⟨rfl, rfl⟩ := am_i2 j16
            exact hs
          · rw [if_neg c17] at j16
            obtain ⟨rfl, rfl⟩ := am_i2 j16
            exact hs
        obtain ⟨rfl, rfl, rfl, rfl⟩ := am_ic hf
        exact hs
      · rw [if_neg c3] at hf
        obtain ⟨r71, h72, e73, hf⟩ := am_b2_ok hf
        have hs := s_X7_list n (am_J h 0 10) h hs e73
        obtain ⟨r74, h75, e76, hf⟩ := am_b2_ok hf
        have hs := s_X7_marks n (am_J h 0 10) r71 h72 hs e76
        obtain ⟨rfl, rfl, rfl, rfl⟩ := am_ic hf
        exact hs
    · rw [if_neg c2] at hf
      obtain ⟨rfl, rfl, rfl, rfl⟩ := am_ic hf
      exact hs
set_option maxRecDepth 100000 in
set_option maxHeartbeats 4000000 in
theorem c_X8_now (n : Nat) (a1 : Int32) (h : am_H) (hs : am_stat h) {v : Int32} {h' : am_H} {cr sr : Nat} (Cc Ss : Nat) (hC : 0 + cr ≤ Cc) (hS : 0 + sr ≤ Ss) (hf : f_X8_now n a1 h = some ((v, h'), cr, sr)) : AMet mX8_now (rX8_now Cc Ss) (fun r h2 => r = some (.int v) ∧ h2 = h') [.ref 0, .int a1] h := by
  unfold f_X8_now at hf
  refine AW_go okX8_now 2 ?_
  refine And.intro (fun c1 => ?_) (fun c1 => ?_)
  · rw [if_pos c1] at hf
    refine AW_go okX8_now 2 ?_
    obtain ⟨rfl, rfl, rfl, rfl⟩ := am_ic hf
    exact And.intro ⟨show 0 ≤ Cc by omega, show 0 ≤ Ss by omega⟩ (And.intro (Or.inl rfl) ⟨rfl, rfl⟩)
  · rw [if_neg c1] at hf
    refine AW_go okX8_now 3 ?_
    refine And.intro (fun c2 => ?_) (fun c2 => ?_)
    · rw [if_pos c2] at hf
      refine AW_go okX8_now 3 ?_
      refine And.intro (fun c3 => ?_) (fun c3 => ?_)
      · rw [if_pos c3] at hf
        refine AW_go okX8_now 1 ?_
        obtain ⟨r4, h5, c7, s8, c9, s10, e6, hg11, rfl, rfl⟩ := am_bc_ok hf
        have hf := hg11
        refine AW_callV (As := []) (R' := rX8_surveyNow c7 s8) (T := TX8) (N := 18) (ci := 8) (okX8_now.1 45 _ _ rfl) lkX8_surveyNow kX8_242 rfl (sK hs 0) rfl (Nat.le_of_ble_eq_true rfl) ⟨(Nat.le_of_ble_eq_true rfl), (Nat.le_of_ble_eq_true rfl)⟩ ⟨show 0 + c7 ≤ Cc by omega, show 0 + s8 ≤ Ss by omega⟩ (Nat.le_of_ble_eq_true rfl) (c_X8_surveyNow n h hs c7 s8 (by omega) (by omega) e6) (fun r h' hq => ?_)
        obtain ⟨rfl, hq⟩ := hq
        replace hq := hq.symm
        subst hq
        have hs := s_X8_surveyNow n h hs e6
        obtain ⟨k12, hg13⟩ := am_bis hf
        obtain rfl := Nat.eq_of_beq_eq_true k12
        have hf := hg13
        refine AW_go okX8_now 3 ?_
        refine And.intro (sK hs 37) ?_
        obtain ⟨y14, h15, j16, hf⟩ := am_b2_ok hf
        have hs0 := hs
        have hs : am_stat h15 := by
          have hs := hs0
          by_cases c17 : (am_I h5 37 1) = 0
          · rw [if_pos c17] at j16
            obtain ⟨r18, h19, e20, j16⟩ := am_b2_ok j16
            have hs := s_X6_marksOf n 37 (am_J h5 0 10) h5 (Or.inl rfl) hs e20
            obtain ⟨rfl, rfl⟩ := am_i2 j16
            exact hs
          · rw [if_neg c17] at j16
            obtain ⟨rfl, rfl⟩ := am_i2 j16
            exact hs
        refine am_cut (P := AW mX8_now (rX8_now Cc Ss) (fun r h2 => r = some (.int v) ∧ h2 = h') 73 [(0, .ref 0), (1, .int a1), (2, .ref 37)] [.int y14] h15 (0 + c7) (0 + s8)) (fun hJ16 => ?_) ?_
        · have hs := hs0
          refine AW_go okX8_now 1 ?_
          refine And.intro (fun c17 => ?_) (fun c17 => ?_)
          · rw [if_pos c17] at j16
            refine AW_go okX8_now 3 ?_
            refine And.intro (sK hs 0) ?_
            obtain ⟨r18, h19, e20, j16⟩ := am_b2_ok j16
            refine AW_callV (As := [.long (am_J h5 0 10)]) (R' := rX6_marksOf 0 0) (T := TX6) (N := 15) (ci := 6) (okX8_now.1 66 _ _ rfl) lkX6_marksOf kX8_249 rfl (sK hs 37) rfl (Nat.le_of_ble_eq_true rfl) ⟨(Nat.le_of_ble_eq_true rfl), (Nat.le_of_ble_eq_true rfl)⟩ ⟨show (0 + c7) + 0 ≤ Cc by omega, show (0 + s8) + 0 ≤ Ss by omega⟩ (Nat.le_of_ble_eq_true rfl) (c_X6_marksOf n 37 (am_J h5 0 10) h5 (Or.inl rfl) hs e20) (fun r h' hq => ?_)
            obtain ⟨rfl, hq⟩ := hq
            replace hq := hq.symm
            subst hq
            have hs := s_X6_marksOf n 37 (am_J h5 0 10) h5 (Or.inl rfl) hs e20
            refine AW_go okX8_now 4 ?_
            obtain ⟨rfl, rfl⟩ := am_i2 j16
            exact AW_pick [1, 2, 0] rfl hJ16
          · rw [if_neg c17] at j16
            refine AW_go okX8_now 2 ?_
            obtain ⟨rfl, rfl⟩ := am_i2 j16
            exact AW_pick [1, 2, 0] rfl hJ16
        refine AW_go okX8_now 1 ?_
        obtain ⟨rfl, rfl, rfl, rfl⟩ := am_ic hf
        exact And.intro ⟨show (0 + c7) ≤ Cc by omega, show (0 + s8) ≤ Ss by omega⟩ (And.intro (Or.inl rfl) ⟨rfl, rfl⟩)
      · rw [if_neg c3] at hf
        refine AW_go okX8_now 8 ?_
        refine And.intro (sK hs 0) (Exists.intro _ (And.intro (sA hs 0 9) ?_))
        refine And.intro (sK hs 0) ?_
        refine And.intro (sK hs 0) (Exists.intro _ (And.intro (sA hs 0 9) ?_))
        refine And.intro (sK hs 0) ?_
        obtain ⟨r71, h72, e73, hf⟩ := am_b2_ok hf
        refine AW_callV (As := [.long (am_J h 0 10)]) (R' := rX7_list 0 0) (T := TX7) (N := 10) (ci := 7) (okX8_now.1 33 _ _ rfl) lkX7_list kX8_216 rfl (sK hs 28) rfl (Nat.le_of_ble_eq_true rfl) ⟨(Nat.le_of_ble_eq_true rfl), (Nat.le_of_ble_eq_true rfl)⟩ ⟨show 0 + 0 ≤ Cc by omega, show 0 + 0 ≤ Ss by omega⟩ (Nat.le_of_ble_eq_true rfl) (c_X7_list n (am_J h 0 10) h hs e73) (fun r h' hq => ?_)
        obtain ⟨rfl, hq⟩ := hq
        replace hq := hq.symm
        subst hq
        have hs := s_X7_list n (am_J h 0 10) h hs e73
        obtain ⟨r74, h75, e76, hf⟩ := am_b2_ok hf
        refine AW_callV (As := [.long (am_J h 0 10), .int r71]) (R' := rX7_marks 0 0) (T := TX7) (N := 10) (ci := 7) (okX8_now.1 36 _ _ rfl) lkX7_marks kX8_239 rfl (sK hs 28) rfl (Nat.le_of_ble_eq_true rfl) ⟨(Nat.le_of_ble_eq_true rfl), (Nat.le_of_ble_eq_true rfl)⟩ ⟨show 0 + 0 ≤ Cc by omega, show 0 + 0 ≤ Ss by omega⟩ (Nat.le_of_ble_eq_true rfl) (c_X7_marks n (am_J h 0 10) r71 h72 hs e76) (fun r h' hq => ?_)
        obtain ⟨rfl, hq⟩ := hq
        replace hq := hq.symm
        subst hq
        have hs := s_X7_marks n (am_J h 0 10) r71 h72 hs e76
        refine AW_go okX8_now 5 ?_
        obtain ⟨rfl, rfl, rfl, rfl⟩ := am_ic hf
        exact And.intro ⟨show 0 ≤ Cc by omega, show 0 ≤ Ss by omega⟩ (And.intro (Or.inl rfl) ⟨rfl, rfl⟩)
    · rw [if_neg c2] at hf
      refine AW_go okX8_now 2 ?_
      obtain ⟨rfl, rfl, rfl, rfl⟩ := am_ic hf
      exact And.intro ⟨show 0 ≤ Cc by omega, show 0 ≤ Ss by omega⟩ (And.intro (Or.inl rfl) ⟨rfl, rfl⟩)
def f_X8_met (n : Nat) (h : am_H) : Option ((Int32 × am_H) × Nat × Nat) := am_bc (f_X8_surveyNow n h) fun r1 h2 => (bif Nat.beq r1 37 then (Option.bind ((if (am_I h2 37 1) = 0 then some (am_I h2 37 0) else some (Int32.ofInt (-2)))) fun y11 => (some ((y11, h2), 0, 0))) else none)
set_option maxRecDepth 100000 in
set_option maxHeartbeats 4000000 in
theorem s_X8_met (n : Nat) (h : am_H) (hs : am_stat h) {v : Int32} {h' : am_H} {cr sr : Nat} (hf : f_X8_met n h = some ((v, h'), cr, sr)) : am_stat h' := by
  unfold f_X8_met at hf
  obtain ⟨r1, h2, c4, s5, c6, s7, e3, hg8, rfl, rfl⟩ := am_bc_ok hf
  have hf := hg8
  have hs := s_X8_surveyNow n h hs e3
  obtain ⟨k9, hg10⟩ := am_bis hf
  obtain rfl := Nat.eq_of_beq_eq_true k9
  have hf := hg10
  obtain ⟨y11, j12, hf⟩ := am_bnd hf
  obtain ⟨rfl, rfl, rfl, rfl⟩ := am_ic hf
  exact hs
set_option maxRecDepth 100000 in
set_option maxHeartbeats 4000000 in
theorem c_X8_met (n : Nat) (h : am_H) (hs : am_stat h) {v : Int32} {h' : am_H} {cr sr : Nat} (Cc Ss : Nat) (hC : 0 + cr ≤ Cc) (hS : 0 + sr ≤ Ss) (hf : f_X8_met n h = some ((v, h'), cr, sr)) : AMet mX8_met (rX8_met Cc Ss) (fun r h2 => r = some (.int v) ∧ h2 = h') [.ref 0] h := by
  unfold f_X8_met at hf
  refine AW_go okX8_met 1 ?_
  obtain ⟨r1, h2, c4, s5, c6, s7, e3, hg8, rfl, rfl⟩ := am_bc_ok hf
  have hf := hg8
  refine AW_callV (As := []) (R' := rX8_surveyNow c4 s5) (T := TX8) (N := 18) (ci := 8) (okX8_met.1 1 _ _ rfl) lkX8_surveyNow kX8_242 rfl (sK hs 0) rfl (Nat.le_of_ble_eq_true rfl) ⟨(Nat.le_of_ble_eq_true rfl), (Nat.le_of_ble_eq_true rfl)⟩ ⟨show 0 + c4 ≤ Cc by omega, show 0 + s5 ≤ Ss by omega⟩ (Nat.le_of_ble_eq_true rfl) (c_X8_surveyNow n h hs c4 s5 (by omega) (by omega) e3) (fun r h' hq => ?_)
  obtain ⟨rfl, hq⟩ := hq
  replace hq := hq.symm
  subst hq
  have hs := s_X8_surveyNow n h hs e3
  obtain ⟨k9, hg10⟩ := am_bis hf
  obtain rfl := Nat.eq_of_beq_eq_true k9
  have hf := hg10
  refine AW_go okX8_met 3 ?_
  refine And.intro (sK hs 37) ?_
  obtain ⟨y11, j12, hf⟩ := am_bnd hf
  refine am_cut (P := AW mX8_met (rX8_met Cc Ss) (fun r h2 => r = some (.int v) ∧ h2 = h') 21 [(0, .ref 0), (1, .ref 37)] [.int y11] h2 (0 + c4) (0 + s5)) (fun hJ12 => ?_) ?_
  · have hs := hs
    refine AW_go okX8_met 1 ?_
    refine And.intro (fun c13 => ?_) (fun c13 => ?_)
    · rw [if_pos c13] at j12
      refine AW_go okX8_met 2 ?_
      refine And.intro (sK hs 37) ?_
      obtain rfl := am_i1 j12
      exact AW_pick [1, 0] rfl hJ12
    · rw [if_neg c13] at j12
      refine AW_go okX8_met 2 ?_
      obtain rfl := am_i1 j12
      exact AW_pick [1, 0] rfl hJ12
  refine AW_go okX8_met 1 ?_
  obtain ⟨rfl, rfl, rfl, rfl⟩ := am_ic hf
  exact And.intro ⟨show (0 + c4) ≤ Cc by omega, show (0 + s5) ≤ Ss by omega⟩ (And.intro (Or.inl rfl) ⟨rfl, rfl⟩)
def f_X8_find (n : Nat) (a1 : Int32) (a2 : Int32) (h : am_H) : Option ((Int32 × am_H) × Nat × Nat) := (if a1 < 0 then some (((Int32.ofInt (-102)), h), 0, 0) else (if (Int32.ofInt 5) ≤ a1 then some (((Int32.ofInt (-102)), h), 0, 0) else am_let (am_bc (f_X8_surveyNow n h) fun r6 h7 => (bif Nat.beq r6 37 then ((if (am_I h7 37 1) = 0 then (if a2 = 0 then bif am_vp a1 5 then (some (((am_I h7 38 (Int32.toNatClampNeg a1)), h7), 0, 0)) else none else bif am_vp a1 5 then ((if 0 ≤ (am_I h7 39 (Int32.toNatClampNeg a1)) then am_b2 ((if a2 = (Int32.ofInt 1) then am_b2 (f_X6_depthOf n 37 (am_I h7 39 (Int32.toNatClampNeg a1)) h7) fun r27 h28 => (some (r27, h28)) else am_b2 (f_X6_stepTo n 37 (am_I h7 39 (Int32.toNatClampNeg a1)) (a2 - (Int32.ofInt 10)) h7) fun r24 h25 => (some (r24, h25)))) fun y20 h21 => (some ((y20, h21), 0, 0)) else some (((Int32.ofInt (-1)), h7), 0, 0))) else none) else some (((Int32.ofInt (-2)), h7), 0, 0))) else none)) fun b3 => ((if a2 = 0 then b3 else (if a2 = (Int32.ofInt 1) then b3 else am_b2 (f_X8_isItem a2 h) fun r8 h9 => ((if r8 = 0 then some (((Int32.ofInt (-102)), h9), 0, 0) else am_bc (f_X8_surveyNow n h9) fun r12 h13 => (bif Nat.beq r12 37 then ((if (am_I h13 37 1) = 0 then (if a2 = 0 then bif am_vp a1 5 then (some (((am_I h13 38 (Int32.toNatClampNeg a1)), h13), 0, 0)) else none else bif am_vp a1 5 then ((if 0 ≤ (am_I h13 39 (Int32.toNatClampNeg a1)) then am_b2 ((if a2 = (Int32.ofInt 1) then am_b2 (f_X6_depthOf n 37 (am_I h13 39 (Int32.toNatClampNeg a1)) h13) fun r33 h34 => (some (r33, h34)) else am_b2 (f_X6_stepTo n 37 (am_I h13 39 (Int32.toNatClampNeg a1)) (a2 - (Int32.ofInt 10)) h13) fun r30 h31 => (some (r30, h31)))) fun y26 h27 => (some ((y26, h27), 0, 0)) else some (((Int32.ofInt (-1)), h13), 0, 0))) else none) else some (((Int32.ofInt (-2)), h13), 0, 0))) else none))))))))
set_option maxRecDepth 100000 in
set_option maxHeartbeats 4000000 in
theorem s_X8_find (n : Nat) (a1 : Int32) (a2 : Int32) (h : am_H) (hs : am_stat h) {v : Int32} {h' : am_H} {cr sr : Nat} (hf : f_X8_find n a1 a2 h = some ((v, h'), cr, sr)) : am_stat h' := by
  unfold f_X8_find at hf
  by_cases c1 : a1 < 0
  · rw [if_pos c1] at hf
    obtain ⟨rfl, rfl, rfl, rfl⟩ := am_ic hf
    exact hs
  · rw [if_neg c1] at hf
    by_cases c2 : (Int32.ofInt 5) ≤ a1
    · rw [if_pos c2] at hf
      obtain ⟨rfl, rfl, rfl, rfl⟩ := am_ic hf
      exact hs
    · rw [if_neg c2] at hf
      obtain ⟨b3, k4, hf⟩ := am_let_ok hf
      refine am_cut (P := (am_bc (f_X8_surveyNow n h) fun r6 h7 => (bif Nat.beq r6 37 then ((if (am_I h7 37 1) = 0 then (if a2 = 0 then bif am_vp a1 5 then (some (((am_I h7 38 (Int32.toNatClampNeg a1)), h7), 0, 0)) else none else bif am_vp a1 5 then ((if 0 ≤ (am_I h7 39 (Int32.toNatClampNeg a1)) then am_b2 ((if a2 = (Int32.ofInt 1) then am_b2 (f_X6_depthOf n 37 (am_I h7 39 (Int32.toNatClampNeg a1)) h7) fun r25 h26 => (some (r25, h26)) else am_b2 (f_X6_stepTo n 37 (am_I h7 39 (Int32.toNatClampNeg a1)) (a2 - (Int32.ofInt 10)) h7) fun r28 h29 => (some (r28, h29)))) fun y21 h22 => (some ((y21, h22), 0, 0)) else some (((Int32.ofInt (-1)), h7), 0, 0))) else none) else some (((Int32.ofInt (-2)), h7), 0, 0))) else none)) = some ((v, h'), cr, sr) → am_stat h') (fun B5 => ?_) ?_
      · skip
        by_cases c6 : a2 = 0
        · rw [if_pos c6] at hf
          exact B5 (k4.symm.trans hf)
        · rw [if_neg c6] at hf
          by_cases c7 : a2 = (Int32.ofInt 1)
          · rw [if_pos c7] at hf
            exact B5 (k4.symm.trans hf)
          · rw [if_neg c7] at hf
            obtain ⟨r8, h9, e10, hf⟩ := am_b2_ok hf
            have hs := s_X8_isItem a2 h hs e10
            by_cases c11 : r8 = 0
            · rw [if_pos c11] at hf
              obtain ⟨rfl, rfl, rfl, rfl⟩ := am_ic hf
              exact hs
            · rw [if_neg c11] at hf
              obtain ⟨r12, h13, c15, s16, c17, s18, e14, hg19, rfl, rfl⟩ := am_bc_ok hf
              have hf := hg19
              have hs := s_X8_surveyNow n h9 hs e14
              obtain ⟨k20, hg21⟩ := am_bis hf
              obtain rfl := Nat.eq_of_beq_eq_true k20
              have hf := hg21
              by_cases c22 : (am_I h13 37 1) = 0
              · rw [if_pos c22] at hf
                by_cases c23 : a2 = 0
                · rw [if_pos c23] at hf
                  obtain ⟨b24, hf⟩ := am_bis hf
                  obtain ⟨rfl, rfl, rfl, rfl⟩ := am_ic hf
                  exact hs
                · rw [if_neg c23] at hf
                  obtain ⟨b25, hf⟩ := am_bis hf
                  by_cases c26 : 0 ≤ (am_I h13 39 (Int32.toNatClampNeg a1))
                  · rw [if_pos c26] at hf
                    obtain ⟨y27, h28, j29, hf⟩ := am_b2_ok hf
                    have hs0 := hs
                    have hs : am_stat h28 := by
                      have hs := hs0
                      by_cases c30 : a2 = (Int32.ofInt 1)
                      · rw [if_pos c30] at j29
                        obtain ⟨r31, h32, e33, j29⟩ := am_b2_ok j29
                        have hs := s_X6_depthOf n 37 (am_I h13 39 (Int32.toNatClampNeg a1)) h13 (Or.inl rfl) hs e33
                        obtain ⟨rfl, rfl⟩ := am_i2 j29
                        exact hs
                      · rw [if_neg c30] at j29
                        obtain ⟨r34, h35, e36, j29⟩ := am_b2_ok j29
                        have hs := s_X6_stepTo n 37 (am_I h13 39 (Int32.toNatClampNeg a1)) (a2 - (Int32.ofInt 10)) h13 (Or.inl rfl) hs e36
                        obtain ⟨rfl, rfl⟩ := am_i2 j29
                        exact hs
                    obtain ⟨rfl, rfl, rfl, rfl⟩ := am_ic hf
                    exact hs
                  · rw [if_neg c26] at hf
                    obtain ⟨rfl, rfl, rfl, rfl⟩ := am_ic hf
                    exact hs
              · rw [if_neg c22] at hf
                obtain ⟨rfl, rfl, rfl, rfl⟩ := am_ic hf
                exact hs
      intro hf
      obtain ⟨r87, h88, c90, s91, c92, s93, e89, hg94, rfl, rfl⟩ := am_bc_ok hf
      have hf := hg94
      have hs := s_X8_surveyNow n h hs e89
      obtain ⟨k95, hg96⟩ := am_bis hf
      obtain rfl := Nat.eq_of_beq_eq_true k95
      have hf := hg96
      by_cases c97 : (am_I h88 37 1) = 0
      · rw [if_pos c97] at hf
        by_cases c98 : a2 = 0
        · rw [if_pos c98] at hf
          obtain ⟨b99, hf⟩ := am_bis hf
          obtain ⟨rfl, rfl, rfl, rfl⟩ := am_ic hf
          exact hs
        · rw [if_neg c98] at hf
          obtain ⟨b100, hf⟩ := am_bis hf
          by_cases c101 : 0 ≤ (am_I h88 39 (Int32.toNatClampNeg a1))
          · rw [if_pos c101] at hf
            obtain ⟨y102, h103, j104, hf⟩ := am_b2_ok hf
            have hs0 := hs
            have hs : am_stat h103 := by
              have hs := hs0
              by_cases c105 : a2 = (Int32.ofInt 1)
              · rw [if_pos c105] at j104
                obtain ⟨r106, h107, e108, j104⟩ := am_b2_ok j104
                have hs := s_X6_depthOf n 37 (am_I h88 39 (Int32.toNatClampNeg a1)) h88 (Or.inl rfl) hs e108
                obtain ⟨rfl, rfl⟩ := am_i2 j104
                exact hs
              · rw [if_neg c105] at j104
                obtain ⟨r109, h110, e111, j104⟩ := am_b2_ok j104
                have hs := s_X6_stepTo n 37 (am_I h88 39 (Int32.toNatClampNeg a1)) (a2 - (Int32.ofInt 10)) h88 (Or.inl rfl) hs e111
                obtain ⟨rfl, rfl⟩ := am_i2 j104
                exact hs
            obtain ⟨rfl, rfl, rfl, rfl⟩ := am_ic hf
            exact hs
          · rw [if_neg c101] at hf
            obtain ⟨rfl, rfl, rfl, rfl⟩ := am_ic hf
            exact hs
      · rw [if_neg c97] at hf
        obtain ⟨rfl, rfl, rfl, rfl⟩ := am_ic hf
        exact hs
set_option maxRecDepth 100000 in
set_option maxHeartbeats 4000000 in
theorem c_X8_find (n : Nat) (a1 : Int32) (a2 : Int32) (h : am_H) (hs : am_stat h) {v : Int32} {h' : am_H} {cr sr : Nat} (Cc Ss : Nat) (hC : 0 + cr ≤ Cc) (hS : 0 + sr ≤ Ss) (hf : f_X8_find n a1 a2 h = some ((v, h'), cr, sr)) : AMet mX8_find (rX8_find Cc Ss) (fun r h2 => r = some (.int v) ∧ h2 = h') [.ref 0, .int a1, .int a2] h := by
  unfold f_X8_find at hf
  refine AW_go okX8_find 2 ?_
  refine And.intro (fun c1 => ?_) (fun c1 => ?_)
  · rw [if_pos c1] at hf
    refine AW_go okX8_find 2 ?_
    obtain ⟨rfl, rfl, rfl, rfl⟩ := am_ic hf
    exact And.intro ⟨show 0 ≤ Cc by omega, show 0 ≤ Ss by omega⟩ (And.intro (Or.inl rfl) ⟨rfl, rfl⟩)
  · rw [if_neg c1] at hf
    refine AW_go okX8_find 3 ?_
    refine And.intro (fun c2 => ?_) (fun c2 => ?_)
    · rw [if_pos c2] at hf
      refine AW_go okX8_find 2 ?_
      obtain ⟨rfl, rfl, rfl, rfl⟩ := am_ic hf
      exact And.intro ⟨show 0 ≤ Cc by omega, show 0 ≤ Ss by omega⟩ (And.intro (Or.inl rfl) ⟨rfl, rfl⟩)
    · rw [if_neg c2] at hf
      refine AW_go okX8_find 1 ?_
      obtain ⟨b3, k4, hf⟩ := am_let_ok hf
      refine am_cut (P := (am_bc (f_X8_surveyNow n h) fun r6 h7 => (bif Nat.beq r6 37 then ((if (am_I h7 37 1) = 0 then (if a2 = 0 then bif am_vp a1 5 then (some (((am_I h7 38 (Int32.toNatClampNeg a1)), h7), 0, 0)) else none else bif am_vp a1 5 then ((if 0 ≤ (am_I h7 39 (Int32.toNatClampNeg a1)) then am_b2 ((if a2 = (Int32.ofInt 1) then am_b2 (f_X6_depthOf n 37 (am_I h7 39 (Int32.toNatClampNeg a1)) h7) fun r27 h28 => (some (r27, h28)) else am_b2 (f_X6_stepTo n 37 (am_I h7 39 (Int32.toNatClampNeg a1)) (a2 - (Int32.ofInt 10)) h7) fun r24 h25 => (some (r24, h25)))) fun y20 h21 => (some ((y20, h21), 0, 0)) else some (((Int32.ofInt (-1)), h7), 0, 0))) else none) else some (((Int32.ofInt (-2)), h7), 0, 0))) else none)) = some ((v, h'), cr, sr) → AW mX8_find (rX8_find Cc Ss) (fun r h2 => r = some (.int v) ∧ h2 = h') 28 [(0, .ref 0), (1, .int a1), (2, .int a2)] [] h 0 0) (fun B5 => ?_) ?_
      · skip
        refine AW_go okX8_find 1 ?_
        refine And.intro (fun c6 => ?_) (fun c6 => ?_)
        · rw [if_pos c6] at hf
          exact B5 (k4.symm.trans hf)
        · rw [if_neg c6] at hf
          refine AW_go okX8_find 3 ?_
          refine And.intro (fun c7 => ?_) (fun c7 => ?_)
          · rw [if_pos c7] at hf
            exact B5 (k4.symm.trans hf)
          · rw [if_neg c7] at hf
            refine AW_go okX8_find 1 ?_
            obtain ⟨r8, h9, e10, hf⟩ := am_b2_ok hf
            refine AW_callS (As := [.int a2]) (R' := rX8_isItem 0 0) (okX8_find.1 19 _ _ rfl) lkX8_isItem (Or.inl kX8_148) rfl (Nat.le_of_ble_eq_true rfl) ⟨(Nat.le_of_ble_eq_true rfl), (Nat.le_of_ble_eq_true rfl)⟩ ⟨show 0 + 0 ≤ Cc by omega, show 0 + 0 ≤ Ss by omega⟩ (Nat.le_of_ble_eq_true rfl) (c_X8_isItem a2 h hs e10) (fun r h' hq => ?_)
            obtain ⟨rfl, hq⟩ := hq
            replace hq := hq.symm
            subst hq
            have hs := s_X8_isItem a2 h hs e10
            refine AW_go okX8_find 1 ?_
            refine And.intro (fun c11 => ?_) (fun c11 => ?_)
            · rw [if_neg c11] at hf
              refine AW_go okX8_find 1 ?_
              obtain ⟨r12, h13, c15, s16, c17, s18, e14, hg19, rfl, rfl⟩ := am_bc_ok hf
              have hf := hg19
              refine AW_callV (As := []) (R' := rX8_surveyNow c15 s16) (T := TX8) (N := 18) (ci := 8) (okX8_find.1 29 _ _ rfl) lkX8_surveyNow kX8_242 rfl (sK hs 0) rfl (Nat.le_of_ble_eq_true rfl) ⟨(Nat.le_of_ble_eq_true rfl), (Nat.le_of_ble_eq_true rfl)⟩ ⟨show 0 + c15 ≤ Cc by omega, show 0 + s16 ≤ Ss by omega⟩ (Nat.le_of_ble_eq_true rfl) (c_X8_surveyNow n h9 hs c15 s16 (by omega) (by omega) e14) (fun r h' hq => ?_)
              obtain ⟨rfl, hq⟩ := hq
              replace hq := hq.symm
              subst hq
              have hs := s_X8_surveyNow n h9 hs e14
              obtain ⟨k20, hg21⟩ := am_bis hf
              obtain rfl := Nat.eq_of_beq_eq_true k20
              have hf := hg21
              refine AW_go okX8_find 4 ?_
              refine And.intro (sK hs 37) ?_
              refine And.intro (fun c22 => ?_) (fun c22 => ?_)
              · rw [if_pos c22] at hf
                refine AW_go okX8_find 2 ?_
                refine And.intro (fun c23 => ?_) (fun c23 => ?_)
                · rw [if_neg c23] at hf
                  obtain ⟨b24, hf⟩ := am_bis hf
                  refine AW_go okX8_find 7 ?_
                  refine And.intro (sK hs 37) (Exists.intro _ (And.intro (sA hs 37 3) ?_))
                  refine Exists.intro 5 (And.intro (sK hs 39) (And.intro (am_vp_ok b24) ?_))
                  refine And.intro (fun c25 => ?_) (fun c25 => ?_)
                  · rw [if_pos c25] at hf
                    refine AW_go okX8_find 2 ?_
                    obtain ⟨y26, h27, j28, hf⟩ := am_b2_ok hf
                    have hs0 := hs
                    have hs : am_stat h27 := by
                      have hs := hs0
                      by_cases c29 : a2 = (Int32.ofInt 1)
                      · rw [if_pos c29] at j28
                        obtain ⟨r30, h31, e32, j28⟩ := am_b2_ok j28
                        have hs := s_X6_depthOf n 37 (am_I h13 39 (Int32.toNatClampNeg a1)) h13 (Or.inl rfl) hs e32
                        obtain ⟨rfl, rfl⟩ := am_i2 j28
                        exact hs
                      · rw [if_neg c29] at j28
                        obtain ⟨r33, h34, e35, j28⟩ := am_b2_ok j28
                        have hs := s_X6_stepTo n 37 (am_I h13 39 (Int32.toNatClampNeg a1)) (a2 - (Int32.ofInt 10)) h13 (Or.inl rfl) hs e35
                        obtain ⟨rfl, rfl⟩ := am_i2 j28
                        exact hs
                    refine am_cut (P := AW mX8_find (rX8_find Cc Ss) (fun r h2 => r = some (.int v) ∧ h2 = h') 93 [(0, .ref 0), (1, .int a1), (2, .int a2), (3, .ref 37), (4, .int (am_I h13 39 (Int32.toNatClampNeg a1)))] [.int y26] h27 (0 + c15) (0 + s16)) (fun hJ28 => ?_) ?_
                    · have hs := hs0
                      refine AW_go okX8_find 1 ?_
                      refine And.intro (fun c29 => ?_) (fun c29 => ?_)
                      · rw [if_neg c29] at j28
                        refine AW_go okX8_find 5 ?_
                        obtain ⟨r30, h31, e32, j28⟩ := am_b2_ok j28
                        refine AW_callV (As := [.int (am_I h13 39 (Int32.toNatClampNeg a1)), .int (a2 - (Int32.ofInt 10))]) (R' := rX6_stepTo 0 0) (T := TX6) (N := 15) (ci := 6) (okX8_find.1 90 _ _ rfl) lkX6_stepTo kX8_262 rfl (sK hs 37) rfl (Nat.le_of_ble_eq_true rfl) ⟨(Nat.le_of_ble_eq_true rfl), (Nat.le_of_ble_eq_true rfl)⟩ ⟨show (0 + c15) + 0 ≤ Cc by omega, show (0 + s16) + 0 ≤ Ss by omega⟩ (Nat.le_of_ble_eq_true rfl) (c_X6_stepTo n 37 (am_I h13 39 (Int32.toNatClampNeg a1)) (a2 - (Int32.ofInt 10)) h13 (Or.inl rfl) hs e32) (fun r h' hq => ?_)
                        obtain ⟨rfl, hq⟩ := hq
                        replace hq := hq.symm
                        subst hq
                        have hs := s_X6_stepTo n 37 (am_I h13 39 (Int32.toNatClampNeg a1)) (a2 - (Int32.ofInt 10)) h13 (Or.inl rfl) hs e32
                        obtain ⟨rfl, rfl⟩ := am_i2 j28
                        exact AW_pick [2, 3, 4, 1, 0] rfl hJ28
                      · rw [if_pos c29] at j28
                        refine AW_go okX8_find 2 ?_
                        obtain ⟨r33, h34, e35, j28⟩ := am_b2_ok j28
                        refine AW_callV (As := [.int (am_I h13 39 (Int32.toNatClampNeg a1))]) (R' := rX6_depthOf 0 0) (T := TX6) (N := 15) (ci := 6) (okX8_find.1 77 _ _ rfl) lkX6_depthOf kX8_259 rfl (sK hs 37) rfl (Nat.le_of_ble_eq_true rfl) ⟨(Nat.le_of_ble_eq_true rfl), (Nat.le_of_ble_eq_true rfl)⟩ ⟨show (0 + c15) + 0 ≤ Cc by omega, show (0 + s16) + 0 ≤ Ss by omega⟩ (Nat.le_of_ble_eq_true rfl) (c_X6_depthOf n 37 (am_I h13 39 (Int32.toNatClampNeg a1)) h13 (Or.inl rfl) hs e35) (fun r h' hq => ?_)
                        obtain ⟨rfl, hq⟩ := hq
                        replace hq := hq.symm
                        subst hq
                        have hs := s_X6_depthOf n 37 (am_I h13 39 (Int32.toNatClampNeg a1)) h13 (Or.inl rfl) hs e35
                        refine AW_go okX8_find 1 ?_
                        obtain ⟨rfl, rfl⟩ := am_i2 j28
                        exact AW_pick [2, 3, 4, 1, 0] rfl hJ28
                    refine AW_go okX8_find 1 ?_
                    obtain ⟨rfl, rfl, rfl, rfl⟩ := am_ic hf
                    exact And.intro ⟨show (0 + c15) ≤ Cc by omega, show (0 + s16) ≤ Ss by omega⟩ (And.intro (Or.inl rfl) ⟨rfl, rfl⟩)
                  · rw [if_neg c25] at hf
                    refine AW_go okX8_find 2 ?_
                    obtain ⟨rfl, rfl, rfl, rfl⟩ := am_ic hf
                    exact And.intro ⟨show (0 + c15) ≤ Cc by omega, show (0 + s16) ≤ Ss by omega⟩ (And.intro (Or.inl rfl) ⟨rfl, rfl⟩)
                · rw [if_pos c23] at hf
                  obtain ⟨b86, hf⟩ := am_bis hf
                  refine AW_go okX8_find 5 ?_
                  refine And.intro (sK hs 37) (Exists.intro _ (And.intro (sA hs 37 2) ?_))
                  refine Exists.intro 5 (And.intro (sK hs 38) (And.intro (am_vp_ok b86) ?_))
                  obtain ⟨rfl, rfl, rfl, rfl⟩ := am_ic hf
                  exact And.intro ⟨show (0 + c15) ≤ Cc by omega, show (0 + s16) ≤ Ss by omega⟩ (And.intro (Or.inl rfl) ⟨rfl, rfl⟩)
              · rw [if_neg c22] at hf
                refine AW_go okX8_find 2 ?_
                obtain ⟨rfl, rfl, rfl, rfl⟩ := am_ic hf
                exact And.intro ⟨show (0 + c15) ≤ Cc by omega, show (0 + s16) ≤ Ss by omega⟩ (And.intro (Or.inl rfl) ⟨rfl, rfl⟩)
            · rw [if_pos c11] at hf
              refine AW_go okX8_find 2 ?_
              obtain ⟨rfl, rfl, rfl, rfl⟩ := am_ic hf
              exact And.intro ⟨show 0 ≤ Cc by omega, show 0 ≤ Ss by omega⟩ (And.intro (Or.inl rfl) ⟨rfl, rfl⟩)
      intro hf
      refine AW_go okX8_find 1 ?_
      obtain ⟨r87, h88, c90, s91, c92, s93, e89, hg94, rfl, rfl⟩ := am_bc_ok hf
      have hf := hg94
      refine AW_callV (As := []) (R' := rX8_surveyNow c90 s91) (T := TX8) (N := 18) (ci := 8) (okX8_find.1 29 _ _ rfl) lkX8_surveyNow kX8_242 rfl (sK hs 0) rfl (Nat.le_of_ble_eq_true rfl) ⟨(Nat.le_of_ble_eq_true rfl), (Nat.le_of_ble_eq_true rfl)⟩ ⟨show 0 + c90 ≤ Cc by omega, show 0 + s91 ≤ Ss by omega⟩ (Nat.le_of_ble_eq_true rfl) (c_X8_surveyNow n h hs c90 s91 (by omega) (by omega) e89) (fun r h' hq => ?_)
      obtain ⟨rfl, hq⟩ := hq
      replace hq := hq.symm
      subst hq
      have hs := s_X8_surveyNow n h hs e89
      obtain ⟨k95, hg96⟩ := am_bis hf
      obtain rfl := Nat.eq_of_beq_eq_true k95
      have hf := hg96
      refine AW_go okX8_find 4 ?_
      refine And.intro (sK hs 37) ?_
      refine And.intro (fun c97 => ?_) (fun c97 => ?_)
      · rw [if_pos c97] at hf
        refine AW_go okX8_find 2 ?_
        refine And.intro (fun c98 => ?_) (fun c98 => ?_)
        · rw [if_neg c98] at hf
          obtain ⟨b99, hf⟩ := am_bis hf
          refine AW_go okX8_find 7 ?_
          refine And.intro (sK hs 37) (Exists.intro _ (And.intro (sA hs 37 3) ?_))
          refine Exists.intro 5 (And.intro (sK hs 39) (And.intro (am_vp_ok b99) ?_))
          refine And.intro (fun c100 => ?_) (fun c100 => ?_)
          · rw [if_pos c100] at hf
            refine AW_go okX8_find 2 ?_
            obtain ⟨y101, h102, j103, hf⟩ := am_b2_ok hf
            have hs0 := hs
            have hs : am_stat h102 := by
              have hs := hs0
              by_cases c104 : a2 = (Int32.ofInt 1)
              · rw [if_pos c104] at j103
                obtain ⟨r105, h106, e107, j103⟩ := am_b2_ok j103
                have hs := s_X6_depthOf n 37 (am_I h88 39 (Int32.toNatClampNeg a1)) h88 (Or.inl rfl) hs e107
                obtain ⟨rfl, rfl⟩ := am_i2 j103
                exact hs
              · rw [if_neg c104] at j103
                obtain ⟨r108, h109, e110, j103⟩ := am_b2_ok j103
                have hs := s_X6_stepTo n 37 (am_I h88 39 (Int32.toNatClampNeg a1)) (a2 - (Int32.ofInt 10)) h88 (Or.inl rfl) hs e110
                obtain ⟨rfl, rfl⟩ := am_i2 j103
                exact hs
            refine am_cut (P := AW mX8_find (rX8_find Cc Ss) (fun r h2 => r = some (.int v) ∧ h2 = h') 93 [(0, .ref 0), (1, .int a1), (2, .int a2), (3, .ref 37), (4, .int (am_I h88 39 (Int32.toNatClampNeg a1)))] [.int y101] h102 (0 + c90) (0 + s91)) (fun hJ103 => ?_) ?_
            · have hs := hs0
              refine AW_go okX8_find 1 ?_
              refine And.intro (fun c104 => ?_) (fun c104 => ?_)
              · rw [if_neg c104] at j103
                refine AW_go okX8_find 5 ?_
                obtain ⟨r105, h106, e107, j103⟩ := am_b2_ok j103
                refine AW_callV (As := [.int (am_I h88 39 (Int32.toNatClampNeg a1)), .int (a2 - (Int32.ofInt 10))]) (R' := rX6_stepTo 0 0) (T := TX6) (N := 15) (ci := 6) (okX8_find.1 90 _ _ rfl) lkX6_stepTo kX8_262 rfl (sK hs 37) rfl (Nat.le_of_ble_eq_true rfl) ⟨(Nat.le_of_ble_eq_true rfl), (Nat.le_of_ble_eq_true rfl)⟩ ⟨show (0 + c90) + 0 ≤ Cc by omega, show (0 + s91) + 0 ≤ Ss by omega⟩ (Nat.le_of_ble_eq_true rfl) (c_X6_stepTo n 37 (am_I h88 39 (Int32.toNatClampNeg a1)) (a2 - (Int32.ofInt 10)) h88 (Or.inl rfl) hs e107) (fun r h' hq => ?_)
                obtain ⟨rfl, hq⟩ := hq
                replace hq := hq.symm
                subst hq
                have hs := s_X6_stepTo n 37 (am_I h88 39 (Int32.toNatClampNeg a1)) (a2 - (Int32.ofInt 10)) h88 (Or.inl rfl) hs e107
                obtain ⟨rfl, rfl⟩ := am_i2 j103
                exact AW_pick [2, 3, 4, 1, 0] rfl hJ103
              · rw [if_pos c104] at j103
                refine AW_go okX8_find 2 ?_
                obtain ⟨r108, h109, e110, j103⟩ := am_b2_ok j103
                refine AW_callV (As := [.int (am_I h88 39 (Int32.toNatClampNeg a1))]) (R' := rX6_depthOf 0 0) (T := TX6) (N := 15) (ci := 6) (okX8_find.1 77 _ _ rfl) lkX6_depthOf kX8_259 rfl (sK hs 37) rfl (Nat.le_of_ble_eq_true rfl) ⟨(Nat.le_of_ble_eq_true rfl), (Nat.le_of_ble_eq_true rfl)⟩ ⟨show (0 + c90) + 0 ≤ Cc by omega, show (0 + s91) + 0 ≤ Ss by omega⟩ (Nat.le_of_ble_eq_true rfl) (c_X6_depthOf n 37 (am_I h88 39 (Int32.toNatClampNeg a1)) h88 (Or.inl rfl) hs e110) (fun r h' hq => ?_)
                obtain ⟨rfl, hq⟩ := hq
                replace hq := hq.symm
                subst hq
                have hs := s_X6_depthOf n 37 (am_I h88 39 (Int32.toNatClampNeg a1)) h88 (Or.inl rfl) hs e110
                refine AW_go okX8_find 1 ?_
                obtain ⟨rfl, rfl⟩ := am_i2 j103
                exact AW_pick [2, 3, 4, 1, 0] rfl hJ103
            refine AW_go okX8_find 1 ?_
            obtain ⟨rfl, rfl, rfl, rfl⟩ := am_ic hf
            exact And.intro ⟨show (0 + c90) ≤ Cc by omega, show (0 + s91) ≤ Ss by omega⟩ (And.intro (Or.inl rfl) ⟨rfl, rfl⟩)
          · rw [if_neg c100] at hf
            refine AW_go okX8_find 2 ?_
            obtain ⟨rfl, rfl, rfl, rfl⟩ := am_ic hf
            exact And.intro ⟨show (0 + c90) ≤ Cc by omega, show (0 + s91) ≤ Ss by omega⟩ (And.intro (Or.inl rfl) ⟨rfl, rfl⟩)
        · rw [if_pos c98] at hf
          obtain ⟨b161, hf⟩ := am_bis hf
          refine AW_go okX8_find 5 ?_
          refine And.intro (sK hs 37) (Exists.intro _ (And.intro (sA hs 37 2) ?_))
          refine Exists.intro 5 (And.intro (sK hs 38) (And.intro (am_vp_ok b161) ?_))
          obtain ⟨rfl, rfl, rfl, rfl⟩ := am_ic hf
          exact And.intro ⟨show (0 + c90) ≤ Cc by omega, show (0 + s91) ≤ Ss by omega⟩ (And.intro (Or.inl rfl) ⟨rfl, rfl⟩)
      · rw [if_neg c97] at hf
        refine AW_go okX8_find 2 ?_
        obtain ⟨rfl, rfl, rfl, rfl⟩ := am_ic hf
        exact And.intro ⟨show (0 + c90) ≤ Cc by omega, show (0 + s91) ≤ Ss by omega⟩ (And.intro (Or.inl rfl) ⟨rfl, rfl⟩)
