def f_X7_listAct (a1 : Int64) (a3 : Int32) (a4 : Int32) (h : am_H) : Option (Unit × am_H) := bif am_vp (((Int32.ofInt 16) * a3) + a4) 48 then (bif am_vp (am_I h 35 (Int32.toNatClampNeg (((Int32.ofInt 16) * a3) + a4))) 6 then (am_b2 (f_X7_contentIn a1 (am_I h 35 (Int32.toNatClampNeg (((Int32.ofInt 16) * a3) + a4))) h) fun r3 h4 => (bif am_vp a3 3 then (Option.bind ((if (((Int32.toUInt32 (am_I h4 36 (Int32.toNatClampNeg a3)) >>> (Int32.toUInt32 a4 &&& Int32.toUInt32 31)).toInt32) &&& (Int32.ofInt 1)) = 0 then am_b2 (f_X7_load (am_I h 29 (Int32.toNatClampNeg (am_I h 35 (Int32.toNatClampNeg (((Int32.ofInt 16) * a3) + a4))))) r3 h4) fun r10 h11 => (Option.bind ((if (am_I h 29 (Int32.toNatClampNeg (am_I h 35 (Int32.toNatClampNeg (((Int32.ofInt 16) * a3) + a4))))) = (Int32.ofInt 2) then some (Int32.ofInt 1) else some (am_I h11 28 0))) fun y13 => ((if y13 ≤ r10 then some h11 else am_b2 (f_X7_put (am_I h 29 (Int32.toNatClampNeg (am_I h 35 (Int32.toNatClampNeg (((Int32.ofInt 16) * a3) + a4))))) r3 (am_I h11 30 (Int32.toNatClampNeg (((Int32.ofInt 16) * a3) + a4))) h11) fun r67 h68 => (am_b2 (f_X7_withContent ((a1 &&& (((15 : Int64) <<< (Int32.toInt64 ((Int32.ofInt 4) * a3) &&& 63)) ^^^ (-1 : Int64))) ||| ((Int32.toInt64 a4) <<< (Int32.toInt64 ((Int32.ofInt 4) * a3) &&& 63))) (am_I h 35 (Int32.toNatClampNeg (((Int32.ofInt 16) * a3) + a4))) r67 h68) fun r70 h71 => (am_b2 (f_X7_listStep (((Int32.ofInt 100) * a3) + a4) r70 h71) fun r73 h74 => ((if (am_I h 29 (Int32.toNatClampNeg (am_I h 35 (Int32.toNatClampNeg (((Int32.ofInt 16) * a3) + a4))))) = (Int32.ofInt 3) then am_b2 (f_X7_listStep ((Int32.ofInt 1000) + (((Int32.ofInt 100) * a3) + a4)) ((a1 &&& (((15 : Int64) <<< (Int32.toInt64 ((Int32.ofInt 4) * a3) &&& 63)) ^^^ (-1 : Int64))) ||| ((Int32.toInt64 a4) <<< (Int32.toInt64 ((Int32.ofInt 4) * a3) &&& 63))) h74) fun r77 h78 => (some h78) else some h74))))))) else am_b2 (f_X7_canTake (am_I h 29 (Int32.toNatClampNeg (am_I h 35 (Int32.toNatClampNeg (((Int32.ofInt 16) * a3) + a4))))) r3 (am_I h4 30 (Int32.toNatClampNeg (((Int32.ofInt 16) * a3) + a4))) h4) fun r80 h81 => ((if r80 = 0 then some h81 else am_b2 (f_X7_taken (am_I h 29 (Int32.toNatClampNeg (am_I h 35 (Int32.toNatClampNeg (((Int32.ofInt 16) * a3) + a4))))) r3 (am_I h81 30 (Int32.toNatClampNeg (((Int32.ofInt 16) * a3) + a4))) h81) fun r84 h85 => (am_b2 (f_X7_withContent ((a1 &&& (((15 : Int64) <<< (Int32.toInt64 ((Int32.ofInt 4) * a3) &&& 63)) ^^^ (-1 : Int64))) ||| ((Int32.toInt64 a4) <<< (Int32.toInt64 ((Int32.ofInt 4) * a3) &&& 63))) (am_I h 35 (Int32.toNatClampNeg (((Int32.ofInt 16) * a3) + a4))) r84 h85) fun r87 h88 => (am_b2 (f_X7_listStep (((Int32.ofInt 100) * a3) + a4) r87 h88) fun r90 h91 => ((if (am_I h 29 (Int32.toNatClampNeg (am_I h 35 (Int32.toNatClampNeg (((Int32.ofInt 16) * a3) + a4))))) = (Int32.ofInt 4) then am_b2 (f_X7_listStep ((Int32.ofInt 1000) + (((Int32.ofInt 100) * a3) + a4)) ((a1 &&& (((15 : Int64) <<< (Int32.toInt64 ((Int32.ofInt 4) * a3) &&& 63)) ^^^ (-1 : Int64))) ||| ((Int32.toInt64 a4) <<< (Int32.toInt64 ((Int32.ofInt 4) * a3) &&& 63))) h91) fun r94 h95 => (some h95) else some h91)))))))) fun h7 => (some ((), h7))) else none)) else none) else none
set_option maxRecDepth 100000 in
theorem s_X7_listAct (a1 : Int64) (a3 : Int32) (a4 : Int32) (h : am_H) (hs : am_stat h) {v : Unit} {h' : am_H} (hf : f_X7_listAct a1 a3 a4 h = some (v, h')) : am_stat h' := by
  unfold f_X7_listAct at hf
  obtain ⟨b1, hf⟩ := am_bis hf
  obtain ⟨b2, hf⟩ := am_bis hf
  obtain ⟨r3, h4, e5, hf⟩ := am_b2_ok hf
  have hs := s_X7_contentIn a1 (am_I h 35 (Int32.toNatClampNeg (((Int32.ofInt 16) * a3) + a4))) h hs e5
  obtain ⟨b6, hf⟩ := am_bis hf
  obtain ⟨h7, j8, hf⟩ := am_bnd hf
  have hs0 := hs
  have hs : am_stat h7 := by
    have hs := hs0
    by_cases c9 : (((Int32.toUInt32 (am_I h4 36 (Int32.toNatClampNeg a3)) >>> (Int32.toUInt32 a4 &&& Int32.toUInt32 31)).toInt32) &&& (Int32.ofInt 1)) = 0
    · rw [if_pos c9] at j8
      obtain ⟨r10, h11, e12, j8⟩ := am_b2_ok j8
      have hs := s_X7_load (am_I h 29 (Int32.toNatClampNeg (am_I h 35 (Int32.toNatClampNeg (((Int32.ofInt 16) * a3) + a4))))) r3 h4 hs e12
      obtain ⟨y13, j14, j8⟩ := am_bnd j8
      by_cases c66 : y13 ≤ r10
      · rw [if_pos c66] at j8
        obtain rfl := am_i1 j8
        exact hs
      · rw [if_neg c66] at j8
        obtain ⟨r67, h68, e69, j8⟩ := am_b2_ok j8
        have hs := s_X7_put (am_I h 29 (Int32.toNatClampNeg (am_I h 35 (Int32.toNatClampNeg (((Int32.ofInt 16) * a3) + a4))))) r3 (am_I h11 30 (Int32.toNatClampNeg (((Int32.ofInt 16) * a3) + a4))) h11 hs e69
        obtain ⟨r70, h71, e72, j8⟩ := am_b2_ok j8
        have hs := s_X7_withContent ((a1 &&& (((15 : Int64) <<< (Int32.toInt64 ((Int32.ofInt 4) * a3) &&& 63)) ^^^ (-1 : Int64))) ||| ((Int32.toInt64 a4) <<< (Int32.toInt64 ((Int32.ofInt 4) * a3) &&& 63))) (am_I h 35 (Int32.toNatClampNeg (((Int32.ofInt 16) * a3) + a4))) r67 h68 hs e72
        obtain ⟨r73, h74, e75, j8⟩ := am_b2_ok j8
        have hs := s_X7_listStep (((Int32.ofInt 100) * a3) + a4) r70 h71 hs e75
        by_cases c76 : (am_I h 29 (Int32.toNatClampNeg (am_I h 35 (Int32.toNatClampNeg (((Int32.ofInt 16) * a3) + a4))))) = (Int32.ofInt 3)
        · rw [if_pos c76] at j8
          obtain ⟨r77, h78, e79, j8⟩ := am_b2_ok j8
          have hs := s_X7_listStep ((Int32.ofInt 1000) + (((Int32.ofInt 100) * a3) + a4)) ((a1 &&& (((15 : Int64) <<< (Int32.toInt64 ((Int32.ofInt 4) * a3) &&& 63)) ^^^ (-1 : Int64))) ||| ((Int32.toInt64 a4) <<< (Int32.toInt64 ((Int32.ofInt 4) * a3) &&& 63))) h74 hs e79
          obtain rfl := am_i1 j8
          exact hs
        · rw [if_neg c76] at j8
          obtain rfl := am_i1 j8
          exact hs
    · rw [if_neg c9] at j8
      obtain ⟨r80, h81, e82, j8⟩ := am_b2_ok j8
      have hs := s_X7_canTake (am_I h 29 (Int32.toNatClampNeg (am_I h 35 (Int32.toNatClampNeg (((Int32.ofInt 16) * a3) + a4))))) r3 (am_I h4 30 (Int32.toNatClampNeg (((Int32.ofInt 16) * a3) + a4))) h4 hs e82
      by_cases c83 : r80 = 0
      · rw [if_pos c83] at j8
        obtain rfl := am_i1 j8
        exact hs
      · rw [if_neg c83] at j8
        obtain ⟨r84, h85, e86, j8⟩ := am_b2_ok j8
        have hs := s_X7_taken (am_I h 29 (Int32.toNatClampNeg (am_I h 35 (Int32.toNatClampNeg (((Int32.ofInt 16) * a3) + a4))))) r3 (am_I h81 30 (Int32.toNatClampNeg (((Int32.ofInt 16) * a3) + a4))) h81 hs e86
        obtain ⟨r87, h88, e89, j8⟩ := am_b2_ok j8
        have hs := s_X7_withContent ((a1 &&& (((15 : Int64) <<< (Int32.toInt64 ((Int32.ofInt 4) * a3) &&& 63)) ^^^ (-1 : Int64))) ||| ((Int32.toInt64 a4) <<< (Int32.toInt64 ((Int32.ofInt 4) * a3) &&& 63))) (am_I h 35 (Int32.toNatClampNeg (((Int32.ofInt 16) * a3) + a4))) r84 h85 hs e89
        obtain ⟨r90, h91, e92, j8⟩ := am_b2_ok j8
        have hs := s_X7_listStep (((Int32.ofInt 100) * a3) + a4) r87 h88 hs e92
        by_cases c93 : (am_I h 29 (Int32.toNatClampNeg (am_I h 35 (Int32.toNatClampNeg (((Int32.ofInt 16) * a3) + a4))))) = (Int32.ofInt 4)
        · rw [if_pos c93] at j8
          obtain ⟨r94, h95, e96, j8⟩ := am_b2_ok j8
          have hs := s_X7_listStep ((Int32.ofInt 1000) + (((Int32.ofInt 100) * a3) + a4)) ((a1 &&& (((15 : Int64) <<< (Int32.toInt64 ((Int32.ofInt 4) * a3) &&& 63)) ^^^ (-1 : Int64))) ||| ((Int32.toInt64 a4) <<< (Int32.toInt64 ((Int32.ofInt 4) * a3) &&& 63))) h91 hs e96
          obtain rfl := am_i1 j8
          exact hs
        · rw [if_neg c93] at j8
          obtain rfl := am_i1 j8
          exact hs
  obtain ⟨rfl, rfl⟩ := am_i2 hf
  exact hs
set_option maxRecDepth 100000 in
theorem c_X7_listAct (a1 : Int64) (a3 : Int32) (a4 : Int32) (h : am_H) (hs : am_stat h) {v : Unit} {h' : am_H} (hf : f_X7_listAct a1 a3 a4 h = some (v, h')) : AMet mX7_listAct (rX7_listAct 0 0) (fun r h2 => r = none ∧ h2 = h') [.ref 28, .long a1, .int a3, .int a4] h := by
  unfold f_X7_listAct at hf
  obtain ⟨b1, hf⟩ := am_bis hf
  obtain ⟨b2, hf⟩ := am_bis hf
  refine AW_go okX7_listAct 18 ?_
  refine And.intro (sK hs 28) (Exists.intro _ (And.intro (sA hs 28 8) ?_))
  refine Exists.intro 48 (And.intro (sK hs 35) (And.intro (am_vp_ok b1) ?_))
  refine And.intro (sK hs 28) (Exists.intro _ (And.intro (sA hs 28 1) ?_))
  refine Exists.intro 6 (And.intro (sK hs 29) (And.intro (am_vp_ok b2) ?_))
  obtain ⟨r3, h4, e5, hf⟩ := am_b2_ok hf
  refine AW_callS (As := [.long a1, .int (am_I h 35 (Int32.toNatClampNeg (((Int32.ofInt 16) * a3) + a4)))]) (R' := rX7_contentIn 0 0) (okX7_listAct.1 30 _ _ rfl) lkX7_contentIn (Or.inl kX7_65) rfl (Nat.le_of_ble_eq_true rfl) ⟨by decide, by decide⟩ ⟨(Nat.le_of_ble_eq_true rfl), (Nat.le_of_ble_eq_true rfl)⟩ (Nat.le_of_ble_eq_true rfl) (c_X7_contentIn a1 (am_I h 35 (Int32.toNatClampNeg (((Int32.ofInt 16) * a3) + a4))) h hs e5) (fun r h' hq => ?_)
  obtain ⟨rfl, hq⟩ := hq
  replace hq := hq.symm
  subst hq
  have hs := s_X7_contentIn a1 (am_I h 35 (Int32.toNatClampNeg (((Int32.ofInt 16) * a3) + a4))) h hs e5
  obtain ⟨b6, hf⟩ := am_bis hf
  refine AW_go okX7_listAct 32 ?_
  refine And.intro (sK hs 28) (Exists.intro _ (And.intro (sA hs 28 9) ?_))
  refine Exists.intro 3 (And.intro (sK hs 36) (And.intro (am_vp_ok b6) ?_))
  obtain ⟨h7, j8, hf⟩ := am_bnd hf
  have hs0 := hs
  have hs : am_stat h7 := by
    have hs := hs0
    by_cases c9 : (((Int32.toUInt32 (am_I h4 36 (Int32.toNatClampNeg a3)) >>> (Int32.toUInt32 a4 &&& Int32.toUInt32 31)).toInt32) &&& (Int32.ofInt 1)) = 0
    · rw [if_pos c9] at j8
      obtain ⟨r10, h11, e12, j8⟩ := am_b2_ok j8
      have hs := s_X7_load (am_I h 29 (Int32.toNatClampNeg (am_I h 35 (Int32.toNatClampNeg (((Int32.ofInt 16) * a3) + a4))))) r3 h4 hs e12
      obtain ⟨y13, j14, j8⟩ := am_bnd j8
      by_cases c66 : y13 ≤ r10
      · rw [if_pos c66] at j8
        obtain rfl := am_i1 j8
        exact hs
      · rw [if_neg c66] at j8
        obtain ⟨r67, h68, e69, j8⟩ := am_b2_ok j8
        have hs := s_X7_put (am_I h 29 (Int32.toNatClampNeg (am_I h 35 (Int32.toNatClampNeg (((Int32.ofInt 16) * a3) + a4))))) r3 (am_I h11 30 (Int32.toNatClampNeg (((Int32.ofInt 16) * a3) + a4))) h11 hs e69
        obtain ⟨r70, h71, e72, j8⟩ := am_b2_ok j8
        have hs := s_X7_withContent ((a1 &&& (((15 : Int64) <<< (Int32.toInt64 ((Int32.ofInt 4) * a3) &&& 63)) ^^^ (-1 : Int64))) ||| ((Int32.toInt64 a4) <<< (Int32.toInt64 ((Int32.ofInt 4) * a3) &&& 63))) (am_I h 35 (Int32.toNatClampNeg (((Int32.ofInt 16) * a3) + a4))) r67 h68 hs e72
        obtain ⟨r73, h74, e75, j8⟩ := am_b2_ok j8
        have hs := s_X7_listStep (((Int32.ofInt 100) * a3) + a4) r70 h71 hs e75
        by_cases c76 : (am_I h 29 (Int32.toNatClampNeg (am_I h 35 (Int32.toNatClampNeg (((Int32.ofInt 16) * a3) + a4))))) = (Int32.ofInt 3)
        · rw [if_pos c76] at j8
          obtain ⟨r77, h78, e79, j8⟩ := am_b2_ok j8
          have hs := s_X7_listStep ((Int32.ofInt 1000) + (((Int32.ofInt 100) * a3) + a4)) ((a1 &&& (((15 : Int64) <<< (Int32.toInt64 ((Int32.ofInt 4) * a3) &&& 63)) ^^^ (-1 : Int64))) ||| ((Int32.toInt64 a4) <<< (Int32.toInt64 ((Int32.ofInt 4) * a3) &&& 63))) h74 hs e79
          obtain rfl := am_i1 j8
          exact hs
        · rw [if_neg c76] at j8
          obtain rfl := am_i1 j8
          exact hs
    · rw [if_neg c9] at j8
      obtain ⟨r80, h81, e82, j8⟩ := am_b2_ok j8
      have hs := s_X7_canTake (am_I h 29 (Int32.toNatClampNeg (am_I h 35 (Int32.toNatClampNeg (((Int32.ofInt 16) * a3) + a4))))) r3 (am_I h4 30 (Int32.toNatClampNeg (((Int32.ofInt 16) * a3) + a4))) h4 hs e82
      by_cases c83 : r80 = 0
      · rw [if_pos c83] at j8
        obtain rfl := am_i1 j8
        exact hs
      · rw [if_neg c83] at j8
        obtain ⟨r84, h85, e86, j8⟩ := am_b2_ok j8
        have hs := s_X7_taken (am_I h 29 (Int32.toNatClampNeg (am_I h 35 (Int32.toNatClampNeg (((Int32.ofInt 16) * a3) + a4))))) r3 (am_I h81 30 (Int32.toNatClampNeg (((Int32.ofInt 16) * a3) + a4))) h81 hs e86
        obtain ⟨r87, h88, e89, j8⟩ := am_b2_ok j8
        have hs := s_X7_withContent ((a1 &&& (((15 : Int64) <<< (Int32.toInt64 ((Int32.ofInt 4) * a3) &&& 63)) ^^^ (-1 : Int64))) ||| ((Int32.toInt64 a4) <<< (Int32.toInt64 ((Int32.ofInt 4) * a3) &&& 63))) (am_I h 35 (Int32.toNatClampNeg (((Int32.ofInt 16) * a3) + a4))) r84 h85 hs e89
        obtain ⟨r90, h91, e92, j8⟩ := am_b2_ok j8
        have hs := s_X7_listStep (((Int32.ofInt 100) * a3) + a4) r87 h88 hs e92
        by_cases c93 : (am_I h 29 (Int32.toNatClampNeg (am_I h 35 (Int32.toNatClampNeg (((Int32.ofInt 16) * a3) + a4))))) = (Int32.ofInt 4)
        · rw [if_pos c93] at j8
          obtain ⟨r94, h95, e96, j8⟩ := am_b2_ok j8
          have hs := s_X7_listStep ((Int32.ofInt 1000) + (((Int32.ofInt 100) * a3) + a4)) ((a1 &&& (((15 : Int64) <<< (Int32.toInt64 ((Int32.ofInt 4) * a3) &&& 63)) ^^^ (-1 : Int64))) ||| ((Int32.toInt64 a4) <<< (Int32.toInt64 ((Int32.ofInt 4) * a3) &&& 63))) h91 hs e96
          obtain rfl := am_i1 j8
          exact hs
        · rw [if_neg c93] at j8
          obtain rfl := am_i1 j8
          exact hs
  refine am_cut (P := AW mX7_listAct (rX7_listAct 0 0) (fun r h2 => r = none ∧ h2 = h') 218 [(0, .ref 28), (1, .long a1), (3, .int a3), (4, .int a4), (5, .int (((Int32.ofInt 16) * a3) + a4)), (6, .int (am_I h 35 (Int32.toNatClampNeg (((Int32.ofInt 16) * a3) + a4)))), (7, .int (am_I h 29 (Int32.toNatClampNeg (am_I h 35 (Int32.toNatClampNeg (((Int32.ofInt 16) * a3) + a4)))))), (8, .int r3), (9, .int ((Int32.ofInt 4) * a3)), (10, .long ((a1 &&& (((15 : Int64) <<< (Int32.toInt64 ((Int32.ofInt 4) * a3) &&& 63)) ^^^ (-1 : Int64))) ||| ((Int32.toInt64 a4) <<< (Int32.toInt64 ((Int32.ofInt 4) * a3) &&& 63)))), (12, .int (((Int32.ofInt 100) * a3) + a4))] [] h7 0 0) (fun hJ8 => ?_) ?_
  · have hs := hs0
    refine AW_go okX7_listAct 1 ?_
    refine And.intro (fun c9 => ?_) (fun c9 => ?_)
    · rw [if_pos c9] at j8
      refine AW_go okX7_listAct 2 ?_
      obtain ⟨r10, h11, e12, j8⟩ := am_b2_ok j8
      refine AW_callS (As := [.int (am_I h 29 (Int32.toNatClampNeg (am_I h 35 (Int32.toNatClampNeg (((Int32.ofInt 16) * a3) + a4))))), .int r3]) (R' := rX7_load 0 0) (okX7_listAct.1 153 _ _ rfl) lkX7_load (Or.inl kX7_69) rfl (Nat.le_of_ble_eq_true rfl) ⟨by decide, by decide⟩ ⟨(Nat.le_of_ble_eq_true rfl), (Nat.le_of_ble_eq_true rfl)⟩ (Nat.le_of_ble_eq_true rfl) (c_X7_load (am_I h 29 (Int32.toNatClampNeg (am_I h 35 (Int32.toNatClampNeg (((Int32.ofInt 16) * a3) + a4))))) r3 h4 hs e12) (fun r h' hq => ?_)
      obtain ⟨rfl, hq⟩ := hq
      replace hq := hq.symm
      subst hq
      have hs := s_X7_load (am_I h 29 (Int32.toNatClampNeg (am_I h 35 (Int32.toNatClampNeg (((Int32.ofInt 16) * a3) + a4))))) r3 h4 hs e12
      refine AW_go okX7_listAct 2 ?_
      obtain ⟨y13, j14, j8⟩ := am_bnd j8
      refine am_cut (P := AW mX7_listAct (rX7_listAct 0 0) (fun r h2 => r = none ∧ h2 = h') 170 [(0, .ref 28), (1, .long a1), (3, .int a3), (4, .int a4), (5, .int (((Int32.ofInt 16) * a3) + a4)), (6, .int (am_I h 35 (Int32.toNatClampNeg (((Int32.ofInt 16) * a3) + a4)))), (7, .int (am_I h 29 (Int32.toNatClampNeg (am_I h 35 (Int32.toNatClampNeg (((Int32.ofInt 16) * a3) + a4)))))), (8, .int r3), (9, .int ((Int32.ofInt 4) * a3)), (10, .long ((a1 &&& (((15 : Int64) <<< (Int32.toInt64 ((Int32.ofInt 4) * a3) &&& 63)) ^^^ (-1 : Int64))) ||| ((Int32.toInt64 a4) <<< (Int32.toInt64 ((Int32.ofInt 4) * a3) &&& 63)))), (12, .int (((Int32.ofInt 100) * a3) + a4))] [.int y13, .int r10] h11 0 0) (fun hJ14 => ?_) ?_
      · have hs := hs
        refine AW_go okX7_listAct 1 ?_
        refine And.intro (fun c15 => ?_) (fun c15 => ?_)
        · rw [if_neg c15] at j14
          refine AW_go okX7_listAct 2 ?_
          refine And.intro (sK hs 28) ?_
          obtain rfl := am_i1 j14
          exact AW_pick [7, 8, 9, 10, 6, 5, 4, 3, 2, 1, 0] rfl hJ14
        · rw [if_pos c15] at j14
          refine AW_go okX7_listAct 2 ?_
          obtain rfl := am_i1 j14
          exact AW_pick [7, 8, 9, 10, 6, 5, 4, 3, 2, 1, 0] rfl hJ14
      refine AW_go okX7_listAct 1 ?_
      refine And.intro (fun c66 => ?_) (fun c66 => ?_)
      · rw [if_pos c66] at j8
        obtain rfl := am_i1 j8
        exact AW_pick [0, 1, 2, 3, 4, 5, 6, 7, 8, 9, 10] rfl hJ8
      · rw [if_neg c66] at j8
        refine AW_go okX7_listAct 10 ?_
        refine And.intro (sK hs 28) (Exists.intro _ (And.intro (sA hs 28 2) ?_))
        refine Exists.intro 48 (And.intro (sK hs 30) (And.intro (am_vp_ok b1) ?_))
        obtain ⟨r67, h68, e69, j8⟩ := am_b2_ok j8
        refine AW_callS (As := [.int (am_I h 29 (Int32.toNatClampNeg (am_I h 35 (Int32.toNatClampNeg (((Int32.ofInt 16) * a3) + a4))))), .int r3, .int (am_I h11 30 (Int32.toNatClampNeg (((Int32.ofInt 16) * a3) + a4)))]) (R' := rX7_put 0 0) (okX7_listAct.1 191 _ _ rfl) lkX7_put (Or.inl kX7_103) rfl (Nat.le_of_ble_eq_true rfl) ⟨by decide, by decide⟩ ⟨(Nat.le_of_ble_eq_true rfl), (Nat.le_of_ble_eq_true rfl)⟩ (Nat.le_of_ble_eq_true rfl) (c_X7_put (am_I h 29 (Int32.toNatClampNeg (am_I h 35 (Int32.toNatClampNeg (((Int32.ofInt 16) * a3) + a4))))) r3 (am_I h11 30 (Int32.toNatClampNeg (((Int32.ofInt 16) * a3) + a4))) h11 hs e69) (fun r h' hq => ?_)
        obtain ⟨rfl, hq⟩ := hq
        replace hq := hq.symm
        subst hq
        have hs := s_X7_put (am_I h 29 (Int32.toNatClampNeg (am_I h 35 (Int32.toNatClampNeg (((Int32.ofInt 16) * a3) + a4))))) r3 (am_I h11 30 (Int32.toNatClampNeg (((Int32.ofInt 16) * a3) + a4))) h11 hs e69
        obtain ⟨r70, h71, e72, j8⟩ := am_b2_ok j8
        refine AW_callS (As := [.long ((a1 &&& (((15 : Int64) <<< (Int32.toInt64 ((Int32.ofInt 4) * a3) &&& 63)) ^^^ (-1 : Int64))) ||| ((Int32.toInt64 a4) <<< (Int32.toInt64 ((Int32.ofInt 4) * a3) &&& 63))), .int (am_I h 35 (Int32.toNatClampNeg (((Int32.ofInt 16) * a3) + a4))), .int r67]) (R' := rX7_withContent 0 0) (okX7_listAct.1 194 _ _ rfl) lkX7_withContent (Or.inl kX7_95) rfl (Nat.le_of_ble_eq_true rfl) ⟨by decide, by decide⟩ ⟨(Nat.le_of_ble_eq_true rfl), (Nat.le_of_ble_eq_true rfl)⟩ (Nat.le_of_ble_eq_true rfl) (c_X7_withContent ((a1 &&& (((15 : Int64) <<< (Int32.toInt64 ((Int32.ofInt 4) * a3) &&& 63)) ^^^ (-1 : Int64))) ||| ((Int32.toInt64 a4) <<< (Int32.toInt64 ((Int32.ofInt 4) * a3) &&& 63))) (am_I h 35 (Int32.toNatClampNeg (((Int32.ofInt 16) * a3) + a4))) r67 h68 hs e72) (fun r h' hq => ?_)
        obtain ⟨rfl, hq⟩ := hq
        replace hq := hq.symm
        subst hq
        have hs := s_X7_withContent ((a1 &&& (((15 : Int64) <<< (Int32.toInt64 ((Int32.ofInt 4) * a3) &&& 63)) ^^^ (-1 : Int64))) ||| ((Int32.toInt64 a4) <<< (Int32.toInt64 ((Int32.ofInt 4) * a3) &&& 63))) (am_I h 35 (Int32.toNatClampNeg (((Int32.ofInt 16) * a3) + a4))) r67 h68 hs e72
        obtain ⟨r73, h74, e75, j8⟩ := am_b2_ok j8
        refine AW_callV (As := [.int (((Int32.ofInt 100) * a3) + a4), .long r70]) (R' := rX7_listStep 0 0) (T := TX7) (N := 10) (ci := 7) (okX7_listAct.1 197 _ _ rfl) lkX7_listStep kX7_99 rfl (sK hs 28) rfl (Nat.le_of_ble_eq_true rfl) ⟨by decide, by decide⟩ ⟨(Nat.le_of_ble_eq_true rfl), (Nat.le_of_ble_eq_true rfl)⟩ (Nat.le_of_ble_eq_true rfl) (c_X7_listStep (((Int32.ofInt 100) * a3) + a4) r70 h71 hs e75) (fun r h' hq => ?_)
        obtain ⟨rfl, hq⟩ := hq
        replace hq := hq.symm
        subst hq
        have hs := s_X7_listStep (((Int32.ofInt 100) * a3) + a4) r70 h71 hs e75
        refine AW_go okX7_listAct 3 ?_
        refine And.intro (fun c76 => ?_) (fun c76 => ?_)
        · rw [if_neg c76] at j8
          obtain rfl := am_i1 j8
          exact AW_pick [0, 1, 2, 3, 4, 5, 6, 7, 8, 9, 10] rfl hJ8
        · rw [if_pos c76] at j8
          refine AW_go okX7_listAct 5 ?_
          obtain ⟨r77, h78, e79, j8⟩ := am_b2_ok j8
          refine AW_callV (As := [.int ((Int32.ofInt 1000) + (((Int32.ofInt 100) * a3) + a4)), .long ((a1 &&& (((15 : Int64) <<< (Int32.toInt64 ((Int32.ofInt 4) * a3) &&& 63)) ^^^ (-1 : Int64))) ||| ((Int32.toInt64 a4) <<< (Int32.toInt64 ((Int32.ofInt 4) * a3) &&& 63)))]) (R' := rX7_listStep 0 0) (T := TX7) (N := 10) (ci := 7) (okX7_listAct.1 215 _ _ rfl) lkX7_listStep kX7_99 rfl (sK hs 28) rfl (Nat.le_of_ble_eq_true rfl) ⟨by decide, by decide⟩ ⟨(Nat.le_of_ble_eq_true rfl), (Nat.le_of_ble_eq_true rfl)⟩ (Nat.le_of_ble_eq_true rfl) (c_X7_listStep ((Int32.ofInt 1000) + (((Int32.ofInt 100) * a3) + a4)) ((a1 &&& (((15 : Int64) <<< (Int32.toInt64 ((Int32.ofInt 4) * a3) &&& 63)) ^^^ (-1 : Int64))) ||| ((Int32.toInt64 a4) <<< (Int32.toInt64 ((Int32.ofInt 4) * a3) &&& 63))) h74 hs e79) (fun r h' hq => ?_)
          obtain ⟨rfl, hq⟩ := hq
          replace hq := hq.symm
          subst hq
          have hs := s_X7_listStep ((Int32.ofInt 1000) + (((Int32.ofInt 100) * a3) + a4)) ((a1 &&& (((15 : Int64) <<< (Int32.toInt64 ((Int32.ofInt 4) * a3) &&& 63)) ^^^ (-1 : Int64))) ||| ((Int32.toInt64 a4) <<< (Int32.toInt64 ((Int32.ofInt 4) * a3) &&& 63))) h74 hs e79
          obtain rfl := am_i1 j8
          exact AW_pick [0, 1, 2, 3, 4, 5, 6, 7, 8, 9, 10] rfl hJ8
    · rw [if_neg c9] at j8
      refine AW_go okX7_listAct 6 ?_
      refine And.intro (sK hs 28) (Exists.intro _ (And.intro (sA hs 28 2) ?_))
      refine Exists.intro 48 (And.intro (sK hs 30) (And.intro (am_vp_ok b1) ?_))
      obtain ⟨r80, h81, e82, j8⟩ := am_b2_ok j8
      refine AW_callS (As := [.int (am_I h 29 (Int32.toNatClampNeg (am_I h 35 (Int32.toNatClampNeg (((Int32.ofInt 16) * a3) + a4))))), .int r3, .int (am_I h4 30 (Int32.toNatClampNeg (((Int32.ofInt 16) * a3) + a4)))]) (R' := rX7_canTake 0 0) (okX7_listAct.1 95 _ _ rfl) lkX7_canTake (Or.inl kX7_87) rfl (Nat.le_of_ble_eq_true rfl) ⟨by decide, by decide⟩ ⟨(Nat.le_of_ble_eq_true rfl), (Nat.le_of_ble_eq_true rfl)⟩ (Nat.le_of_ble_eq_true rfl) (c_X7_canTake (am_I h 29 (Int32.toNatClampNeg (am_I h 35 (Int32.toNatClampNeg (((Int32.ofInt 16) * a3) + a4))))) r3 (am_I h4 30 (Int32.toNatClampNeg (((Int32.ofInt 16) * a3) + a4))) h4 hs e82) (fun r h' hq => ?_)
      obtain ⟨rfl, hq⟩ := hq
      replace hq := hq.symm
      subst hq
      have hs := s_X7_canTake (am_I h 29 (Int32.toNatClampNeg (am_I h 35 (Int32.toNatClampNeg (((Int32.ofInt 16) * a3) + a4))))) r3 (am_I h4 30 (Int32.toNatClampNeg (((Int32.ofInt 16) * a3) + a4))) h4 hs e82
      refine AW_go okX7_listAct 1 ?_
      refine And.intro (fun c83 => ?_) (fun c83 => ?_)
      · rw [if_pos c83] at j8
        obtain rfl := am_i1 j8
        exact AW_pick [7, 8, 9, 10, 6, 5, 4, 3, 2, 1, 0] rfl hJ8
      · rw [if_neg c83] at j8
        refine AW_go okX7_listAct 10 ?_
        refine And.intro (sK hs 28) (Exists.intro _ (And.intro (sA hs 28 2) ?_))
        refine Exists.intro 48 (And.intro (sK hs 30) (And.intro (am_vp_ok b1) ?_))
        obtain ⟨r84, h85, e86, j8⟩ := am_b2_ok j8
        refine AW_callS (As := [.int (am_I h 29 (Int32.toNatClampNeg (am_I h 35 (Int32.toNatClampNeg (((Int32.ofInt 16) * a3) + a4))))), .int r3, .int (am_I h81 30 (Int32.toNatClampNeg (((Int32.ofInt 16) * a3) + a4)))]) (R' := rX7_taken 0 0) (okX7_listAct.1 119 _ _ rfl) lkX7_taken (Or.inl kX7_91) rfl (Nat.le_of_ble_eq_true rfl) ⟨by decide, by decide⟩ ⟨(Nat.le_of_ble_eq_true rfl), (Nat.le_of_ble_eq_true rfl)⟩ (Nat.le_of_ble_eq_true rfl) (c_X7_taken (am_I h 29 (Int32.toNatClampNeg (am_I h 35 (Int32.toNatClampNeg (((Int32.ofInt 16) * a3) + a4))))) r3 (am_I h81 30 (Int32.toNatClampNeg (((Int32.ofInt 16) * a3) + a4))) h81 hs e86) (fun r h' hq => ?_)
        obtain ⟨rfl, hq⟩ := hq
        replace hq := hq.symm
        subst hq
        have hs := s_X7_taken (am_I h 29 (Int32.toNatClampNeg (am_I h 35 (Int32.toNatClampNeg (((Int32.ofInt 16) * a3) + a4))))) r3 (am_I h81 30 (Int32.toNatClampNeg (((Int32.ofInt 16) * a3) + a4))) h81 hs e86
        obtain ⟨r87, h88, e89, j8⟩ := am_b2_ok j8
        refine AW_callS (As := [.long ((a1 &&& (((15 : Int64) <<< (Int32.toInt64 ((Int32.ofInt 4) * a3) &&& 63)) ^^^ (-1 : Int64))) ||| ((Int32.toInt64 a4) <<< (Int32.toInt64 ((Int32.ofInt 4) * a3) &&& 63))), .int (am_I h 35 (Int32.toNatClampNeg (((Int32.ofInt 16) * a3) + a4))), .int r84]) (R' := rX7_withContent 0 0) (okX7_listAct.1 122 _ _ rfl) lkX7_withContent (Or.inl kX7_95) rfl (Nat.le_of_ble_eq_true rfl) ⟨by decide, by decide⟩ ⟨(Nat.le_of_ble_eq_true rfl), (Nat.le_of_ble_eq_true rfl)⟩ (Nat.le_of_ble_eq_true rfl) (c_X7_withContent ((a1 &&& (((15 : Int64) <<< (Int32.toInt64 ((Int32.ofInt 4) * a3) &&& 63)) ^^^ (-1 : Int64))) ||| ((Int32.toInt64 a4) <<< (Int32.toInt64 ((Int32.ofInt 4) * a3) &&& 63))) (am_I h 35 (Int32.toNatClampNeg (((Int32.ofInt 16) * a3) + a4))) r84 h85 hs e89) (fun r h' hq => ?_)
        obtain ⟨rfl, hq⟩ := hq
        replace hq := hq.symm
        subst hq
        have hs := s_X7_withContent ((a1 &&& (((15 : Int64) <<< (Int32.toInt64 ((Int32.ofInt 4) * a3) &&& 63)) ^^^ (-1 : Int64))) ||| ((Int32.toInt64 a4) <<< (Int32.toInt64 ((Int32.ofInt 4) * a3) &&& 63))) (am_I h 35 (Int32.toNatClampNeg (((Int32.ofInt 16) * a3) + a4))) r84 h85 hs e89
        obtain ⟨r90, h91, e92, j8⟩ := am_b2_ok j8
        refine AW_callV (As := [.int (((Int32.ofInt 100) * a3) + a4), .long r87]) (R' := rX7_listStep 0 0) (T := TX7) (N := 10) (ci := 7) (okX7_listAct.1 125 _ _ rfl) lkX7_listStep kX7_99 rfl (sK hs 28) rfl (Nat.le_of_ble_eq_true rfl) ⟨by decide, by decide⟩ ⟨(Nat.le_of_ble_eq_true rfl), (Nat.le_of_ble_eq_true rfl)⟩ (Nat.le_of_ble_eq_true rfl) (c_X7_listStep (((Int32.ofInt 100) * a3) + a4) r87 h88 hs e92) (fun r h' hq => ?_)
        obtain ⟨rfl, hq⟩ := hq
        replace hq := hq.symm
        subst hq
        have hs := s_X7_listStep (((Int32.ofInt 100) * a3) + a4) r87 h88 hs e92
        refine AW_go okX7_listAct 3 ?_
        refine And.intro (fun c93 => ?_) (fun c93 => ?_)
        · rw [if_neg c93] at j8
          obtain rfl := am_i1 j8
          exact AW_pick [7, 8, 9, 10, 6, 5, 4, 3, 2, 1, 0] rfl hJ8
        · rw [if_pos c93] at j8
          refine AW_go okX7_listAct 5 ?_
          obtain ⟨r94, h95, e96, j8⟩ := am_b2_ok j8
          refine AW_callV (As := [.int ((Int32.ofInt 1000) + (((Int32.ofInt 100) * a3) + a4)), .long ((a1 &&& (((15 : Int64) <<< (Int32.toInt64 ((Int32.ofInt 4) * a3) &&& 63)) ^^^ (-1 : Int64))) ||| ((Int32.toInt64 a4) <<< (Int32.toInt64 ((Int32.ofInt 4) * a3) &&& 63)))]) (R' := rX7_listStep 0 0) (T := TX7) (N := 10) (ci := 7) (okX7_listAct.1 143 _ _ rfl) lkX7_listStep kX7_99 rfl (sK hs 28) rfl (Nat.le_of_ble_eq_true rfl) ⟨by decide, by decide⟩ ⟨(Nat.le_of_ble_eq_true rfl), (Nat.le_of_ble_eq_true rfl)⟩ (Nat.le_of_ble_eq_true rfl) (c_X7_listStep ((Int32.ofInt 1000) + (((Int32.ofInt 100) * a3) + a4)) ((a1 &&& (((15 : Int64) <<< (Int32.toInt64 ((Int32.ofInt 4) * a3) &&& 63)) ^^^ (-1 : Int64))) ||| ((Int32.toInt64 a4) <<< (Int32.toInt64 ((Int32.ofInt 4) * a3) &&& 63))) h91 hs e96) (fun r h' hq => ?_)
          obtain ⟨rfl, hq⟩ := hq
          replace hq := hq.symm
          subst hq
          have hs := s_X7_listStep ((Int32.ofInt 1000) + (((Int32.ofInt 100) * a3) + a4)) ((a1 &&& (((15 : Int64) <<< (Int32.toInt64 ((Int32.ofInt 4) * a3) &&& 63)) ^^^ (-1 : Int64))) ||| ((Int32.toInt64 a4) <<< (Int32.toInt64 ((Int32.ofInt 4) * a3) &&& 63))) h91 hs e96
          refine AW_go okX7_listAct 1 ?_
          obtain rfl := am_i1 j8
          exact AW_pick [7, 8, 9, 10, 6, 5, 4, 3, 2, 1, 0] rfl hJ8
  refine AW_go okX7_listAct 1 ?_
  obtain ⟨rfl, rfl⟩ := am_i2 hf
  exact And.intro ⟨(Nat.le_of_ble_eq_true rfl), (Nat.le_of_ble_eq_true rfl)⟩ (And.intro rfl ⟨rfl, rfl⟩)
def g_X7_isBarred : Nat → Nat → Int64 → Int32 → Int32 → Int32 → Int32 → Int32 → Int32 → Int32 → am_H → Option (Int32 × am_H)
  | 0, _, _, _, _, _, _, _, _, _, _ => none
  | n + 1, _, a1, a3, a4, a5, x6i, x7i, x8i, x9i, h => (if (Int32.ofInt 15) < x9i then bif am_b01 x8i then (some (x8i, h)) else none else (if ((Int32.toUInt32 a4 >>> (Int32.toUInt32 x9i &&& Int32.toUInt32 31)).toInt32) = 0 then bif am_b01 x8i then (some (x8i, h)) else none else (if (((Int32.toUInt32 a4 >>> (Int32.toUInt32 x9i &&& Int32.toUInt32 31)).toInt32) &&& (Int32.ofInt 1)) = 0 then g_X7_isBarred n 0 a1 a3 a4 a5 x6i x7i x8i (x9i + Int32.ofInt 1) h else bif am_vp (((Int32.ofInt 16) * a3) + x9i) 48 then ((if (am_I h 35 (Int32.toNatClampNeg (((Int32.ofInt 16) * a3) + x9i))) = x6i then bif am_vp x6i 6 then (am_b2 (f_X7_canTake (am_I h 29 (Int32.toNatClampNeg x6i)) x7i (am_I h 30 (Int32.toNatClampNeg (((Int32.ofInt 16) * a3) + x9i))) h) fun r9 h10 => ((if r9 = 0 then g_X7_isBarred n 0 a1 a3 a4 a5 x6i x7i (Int32.ofInt 1) (x9i + Int32.ofInt 1) h10 else some ((Int32.ofInt 0), h10)))) else none else g_X7_isBarred n 0 a1 a3 a4 a5 x6i x7i x8i (x9i + Int32.ofInt 1) h)) else none)))
set_option maxRecDepth 100000 in
set_option maxHeartbeats 4000000 in
theorem m_X7_isBarred (n : Nat) : (∀ (a1 : Int64) (a3 : Int32) (a4 : Int32) (a5 : Int32) (x6i : Int32) (x7i : Int32) (x8i : Int32) (x9i : Int32) (h : am_H) (v : Int32) (h' : am_H), am_stat h → g_X7_isBarred n 0 a1 a3 a4 a5 x6i x7i x8i x9i h = some (v, h') → am_stat h') := by
  induction n with
  | zero => exact fun a1 a3 a4 a5 x6i x7i x8i x9i h v h' hs hf => (by cases hf)
  | succ n ih =>
    skip
    · intro a1 a3 a4 a5 x6i x7i x8i x9i h v h' hs hf
      have hf : ((if (Int32.ofInt 15) < x9i then bif am_b01 x8i then (some (x8i, h)) else none else (if ((Int32.toUInt32 a4 >>> (Int32.toUInt32 x9i &&& Int32.toUInt32 31)).toInt32) = 0 then bif am_b01 x8i then (some (x8i, h)) else none else (if (((Int32.toUInt32 a4 >>> (Int32.toUInt32 x9i &&& Int32.toUInt32 31)).toInt32) &&& (Int32.ofInt 1)) = 0 then g_X7_isBarred n 0 a1 a3 a4 a5 x6i x7i x8i (x9i + Int32.ofInt 1) h else bif am_vp (((Int32.ofInt 16) * a3) + x9i) 48 then ((if (am_I h 35 (Int32.toNatClampNeg (((Int32.ofInt 16) * a3) + x9i))) = x6i then bif am_vp x6i 6 then (am_b2 (f_X7_canTake (am_I h 29 (Int32.toNatClampNeg x6i)) x7i (am_I h 30 (Int32.toNatClampNeg (((Int32.ofInt 16) * a3) + x9i))) h) fun r9 h10 => ((if r9 = 0 then g_X7_isBarred n 0 a1 a3 a4 a5 x6i x7i (Int32.ofInt 1) (x9i + Int32.ofInt 1) h10 else some ((Int32.ofInt 0), h10)))) else none else g_X7_isBarred n 0 a1 a3 a4 a5 x6i x7i x8i (x9i + Int32.ofInt 1) h)) else none)))) = some (v, h') := hf
      by_cases c1 : (Int32.ofInt 15) < x9i
      · rw [if_pos c1] at hf
        obtain ⟨b2, hf⟩ := am_bis hf
        obtain ⟨rfl, rfl⟩ := am_i2 hf
        exact hs
      · rw [if_neg c1] at hf
        by_cases c3 : ((Int32.toUInt32 a4 >>> (Int32.toUInt32 x9i &&& Int32.toUInt32 31)).toInt32) = 0
        · rw [if_pos c3] at hf
          obtain ⟨b4, hf⟩ := am_bis hf
          obtain ⟨rfl, rfl⟩ := am_i2 hf
          exact hs
        · rw [if_neg c3] at hf
          by_cases c5 : (((Int32.toUInt32 a4 >>> (Int32.toUInt32 x9i &&& Int32.toUInt32 31)).toInt32) &&& (Int32.ofInt 1)) = 0
          · rw [if_pos c5] at hf
            exact ih a1 a3 a4 a5 x6i x7i x8i (x9i + Int32.ofInt 1) h _ _ hs hf
          · rw [if_neg c5] at hf
            obtain ⟨b6, hf⟩ := am_bis hf
            by_cases c7 : (am_I h 35 (Int32.toNatClampNeg (((Int32.ofInt 16) * a3) + x9i))) = x6i
            · rw [if_pos c7] at hf
              obtain ⟨b8, hf⟩ := am_bis hf
              obtain ⟨r9, h10, e11, hf⟩ := am_b2_ok hf
              have hs := s_X7_canTake (am_I h 29 (Int32.toNatClampNeg x6i)) x7i (am_I h 30 (Int32.toNatClampNeg (((Int32.ofInt 16) * a3) + x9i))) h hs e11
              by_cases c12 : r9 = 0
              · rw [if_pos c12] at hf
                exact ih a1 a3 a4 a5 x6i x7i (Int32.ofInt 1) (x9i + Int32.ofInt 1) h10 _ _ hs hf
              · rw [if_neg c12] at hf
                obtain ⟨rfl, rfl⟩ := am_i2 hf
                exact hs
            · rw [if_neg c7] at hf
              exact ih a1 a3 a4 a5 x6i x7i x8i (x9i + Int32.ofInt 1) h _ _ hs hf
set_option maxRecDepth 100000 in
set_option maxHeartbeats 4000000 in
theorem l_X7_isBarred (n : Nat) : (∀ (a1 : Int64) (a3 : Int32) (a4 : Int32) (a5 : Int32) (x6i : Int32) (x7i : Int32) (x8i : Int32) (x9i : Int32) (h : am_H) (v : Int32) (h' : am_H), am_stat h → g_X7_isBarred n 0 a1 a3 a4 a5 x6i x7i x8i x9i h = some (v, h') → AW mX7_isBarred (rX7_isBarred 0 0) (fun r h2 => r = some (.int v) ∧ h2 = h') 29 [(0, .ref 28), (1, .long a1), (3, .int a3), (4, .int a4), (5, .int a5), (6, .int x6i), (7, .int x7i), (8, .int x8i), (9, .int x9i)] [] h 0 0) := by
  induction n with
  | zero => exact fun a1 a3 a4 a5 x6i x7i x8i x9i h v h' hs hf => (by cases hf)
  | succ n ih =>
    skip
    · intro a1 a3 a4 a5 x6i x7i x8i x9i h v h' hs hf
      have hf : ((if (Int32.ofInt 15) < x9i then bif am_b01 x8i then (some (x8i, h)) else none else (if ((Int32.toUInt32 a4 >>> (Int32.toUInt32 x9i &&& Int32.toUInt32 31)).toInt32) = 0 then bif am_b01 x8i then (some (x8i, h)) else none else (if (((Int32.toUInt32 a4 >>> (Int32.toUInt32 x9i &&& Int32.toUInt32 31)).toInt32) &&& (Int32.ofInt 1)) = 0 then g_X7_isBarred n 0 a1 a3 a4 a5 x6i x7i x8i (x9i + Int32.ofInt 1) h else bif am_vp (((Int32.ofInt 16) * a3) + x9i) 48 then ((if (am_I h 35 (Int32.toNatClampNeg (((Int32.ofInt 16) * a3) + x9i))) = x6i then bif am_vp x6i 6 then (am_b2 (f_X7_canTake (am_I h 29 (Int32.toNatClampNeg x6i)) x7i (am_I h 30 (Int32.toNatClampNeg (((Int32.ofInt 16) * a3) + x9i))) h) fun r9 h10 => ((if r9 = 0 then g_X7_isBarred n 0 a1 a3 a4 a5 x6i x7i (Int32.ofInt 1) (x9i + Int32.ofInt 1) h10 else some ((Int32.ofInt 0), h10)))) else none else g_X7_isBarred n 0 a1 a3 a4 a5 x6i x7i x8i (x9i + Int32.ofInt 1) h)) else none)))) = some (v, h') := hf
      refine AW_go okX7_isBarred 3 ?_
      refine And.intro (fun c1 => ?_) (fun c1 => ?_)
      · rw [if_pos c1] at hf
        obtain ⟨b2, hf⟩ := am_bis hf
        refine AW_go okX7_isBarred 2 ?_
        obtain ⟨rfl, rfl⟩ := am_i2 hf
        exact And.intro ⟨(Nat.le_of_ble_eq_true rfl), (Nat.le_of_ble_eq_true rfl)⟩ (And.intro (Or.inr ⟨rfl, am_b01_ok b2⟩) ⟨rfl, rfl⟩)
      · rw [if_neg c1] at hf
        refine AW_go okX7_isBarred 4 ?_
        refine And.intro (fun c3 => ?_) (fun c3 => ?_)
        · rw [if_pos c3] at hf
          obtain ⟨b4, hf⟩ := am_bis hf
          refine AW_go okX7_isBarred 2 ?_
          obtain ⟨rfl, rfl⟩ := am_i2 hf
          exact And.intro ⟨(Nat.le_of_ble_eq_true rfl), (Nat.le_of_ble_eq_true rfl)⟩ (And.intro (Or.inr ⟨rfl, am_b01_ok b4⟩) ⟨rfl, rfl⟩)
        · rw [if_neg c3] at hf
          refine AW_go okX7_isBarred 12 ?_
          refine And.intro (fun c5 => ?_) (fun c5 => ?_)
          · rw [if_pos c5] at hf
            refine AW_go okX7_isBarred 2 ?_
            refine AW_pick (lv' := [(0, .ref 28), (1, .long a1), (3, .int a3), (4, .int a4), (5, .int a5), (6, .int x6i), (7, .int x7i), (8, .int x8i), (9, .int (x9i + Int32.ofInt 1))]) [2, 3, 4, 5, 6, 7, 8, 9, 0] rfl ?_
            exact ih a1 a3 a4 a5 x6i x7i x8i (x9i + Int32.ofInt 1) h _ _ hs hf
          · rw [if_neg c5] at hf
            obtain ⟨b6, hf⟩ := am_bis hf
            refine AW_go okX7_isBarred 6 ?_
            refine And.intro (sK hs 28) (Exists.intro _ (And.intro (sA hs 28 8) ?_))
            refine Exists.intro 48 (And.intro (sK hs 35) (And.intro (am_vp_ok b6) ?_))
            refine And.intro (fun c7 => ?_) (fun c7 => ?_)
            · rw [if_neg c7] at hf
              refine AW_go okX7_isBarred 2 ?_
              refine AW_pick (lv' := [(0, .ref 28), (1, .long a1), (3, .int a3), (4, .int a4), (5, .int a5), (6, .int x6i), (7, .int x7i), (8, .int x8i), (9, .int (x9i + Int32.ofInt 1))]) [2, 3, 4, 5, 6, 7, 8, 9, 0] rfl ?_
              exact ih a1 a3 a4 a5 x6i x7i x8i (x9i + Int32.ofInt 1) h _ _ hs hf
            · rw [if_pos c7] at hf
              obtain ⟨b8, hf⟩ := am_bis hf
              refine AW_go okX7_isBarred 9 ?_
              refine And.intro (sK hs 28) (Exists.intro _ (And.intro (sA hs 28 1) ?_))
              refine Exists.intro 6 (And.intro (sK hs 29) (And.intro (am_vp_ok b8) ?_))
              refine And.intro (sK hs 28) (Exists.intro _ (And.intro (sA hs 28 2) ?_))
              refine Exists.intro 48 (And.intro (sK hs 30) (And.intro (am_vp_ok b6) ?_))
              obtain ⟨r9, h10, e11, hf⟩ := am_b2_ok hf
              refine AW_callS (As := [.int (am_I h 29 (Int32.toNatClampNeg x6i)), .int x7i, .int (am_I h 30 (Int32.toNatClampNeg (((Int32.ofInt 16) * a3) + x9i)))]) (R' := rX7_canTake 0 0) (okX7_isBarred.1 91 _ _ rfl) lkX7_canTake (Or.inl kX7_87) rfl (Nat.le_of_ble_eq_true rfl) ⟨by decide, by decide⟩ ⟨(Nat.le_of_ble_eq_true rfl), (Nat.le_of_ble_eq_true rfl)⟩ (Nat.le_of_ble_eq_true rfl) (c_X7_canTake (am_I h 29 (Int32.toNatClampNeg x6i)) x7i (am_I h 30 (Int32.toNatClampNeg (((Int32.ofInt 16) * a3) + x9i))) h hs e11) (fun r h' hq => ?_)
              obtain ⟨rfl, hq⟩ := hq
              replace hq := hq.symm
              subst hq
              have hs := s_X7_canTake (am_I h 29 (Int32.toNatClampNeg x6i)) x7i (am_I h 30 (Int32.toNatClampNeg (((Int32.ofInt 16) * a3) + x9i))) h hs e11
              refine AW_go okX7_isBarred 1 ?_
              refine And.intro (fun c12 => ?_) (fun c12 => ?_)
              · rw [if_pos c12] at hf
                refine AW_go okX7_isBarred 4 ?_
                refine AW_pick (lv' := [(0, .ref 28), (1, .long a1), (3, .int a3), (4, .int a4), (5, .int a5), (6, .int x6i), (7, .int x7i), (8, .int (Int32.ofInt 1)), (9, .int (x9i + Int32.ofInt 1))]) [3, 4, 5, 6, 7, 8, 9, 1, 0] rfl ?_
                exact ih a1 a3 a4 a5 x6i x7i (Int32.ofInt 1) (x9i + Int32.ofInt 1) h10 _ _ hs hf
              · rw [if_neg c12] at hf
                refine AW_go okX7_isBarred 2 ?_
                obtain ⟨rfl, rfl⟩ := am_i2 hf
                exact And.intro ⟨(Nat.le_of_ble_eq_true rfl), (Nat.le_of_ble_eq_true rfl)⟩ (And.intro (Or.inr ⟨rfl, Or.inl rfl⟩) ⟨rfl, rfl⟩)
def f_X7_isBarred (n : Nat) (a1 : Int64) (a3 : Int32) (a4 : Int32) (a5 : Int32) (h : am_H) : Option (Int32 × am_H) := am_b2 (f_X8_postOf a5 a3 h) fun r1 h2 => (am_b2 (f_X7_contentIn a1 r1 h2) fun r4 h5 => ((if r4 = 0 then some ((Int32.ofInt 0), h5) else g_X7_isBarred n 0 a1 a3 a4 a5 r1 r4 (Int32.ofInt 0) (Int32.ofInt 1) h5)))
set_option maxRecDepth 100000 in
theorem s_X7_isBarred (n : Nat) (a1 : Int64) (a3 : Int32) (a4 : Int32) (a5 : Int32) (h : am_H) (hs : am_stat h) {v : Int32} {h' : am_H} (hf : f_X7_isBarred n a1 a3 a4 a5 h = some (v, h')) : am_stat h' := by
  unfold f_X7_isBarred at hf
  obtain ⟨r1, h2, e3, hf⟩ := am_b2_ok hf
  have hs := s_X8_postOf a5 a3 h hs e3
  obtain ⟨r4, h5, e6, hf⟩ := am_b2_ok hf
  have hs := s_X7_contentIn a1 r1 h2 hs e6
  by_cases c7 : r4 = 0
  · rw [if_pos c7] at hf
    obtain ⟨rfl, rfl⟩ := am_i2 hf
    exact hs
  · rw [if_neg c7] at hf
    exact (m_X7_isBarred n) a1 a3 a4 a5 r1 r4 (Int32.ofInt 0) (Int32.ofInt 1) h5 _ _ hs hf
set_option maxRecDepth 100000 in
theorem c_X7_isBarred (n : Nat) (a1 : Int64) (a3 : Int32) (a4 : Int32) (a5 : Int32) (h : am_H) (hs : am_stat h) {v : Int32} {h' : am_H} (hf : f_X7_isBarred n a1 a3 a4 a5 h = some (v, h')) : AMet mX7_isBarred (rX7_isBarred 0 0) (fun r h2 => r = some (.int v) ∧ h2 = h') [.ref 28, .long a1, .int a3, .int a4, .int a5] h := by
  unfold f_X7_isBarred at hf
  refine AW_go okX7_isBarred 2 ?_
  obtain ⟨r1, h2, e3, hf⟩ := am_b2_ok hf
  refine AW_callS (As := [.int a5, .int a3]) (R' := rX8_postOf 0 0) (okX7_isBarred.1 3 _ _ rfl) lkX8_postOf (Or.inr ⟨_, kX7_57⟩) rfl (Nat.le_of_ble_eq_true rfl) ⟨by decide, by decide⟩ ⟨(Nat.le_of_ble_eq_true rfl), (Nat.le_of_ble_eq_true rfl)⟩ (Nat.le_of_ble_eq_true rfl) (c_X8_postOf a5 a3 h hs e3) (fun r h' hq => ?_)
  obtain ⟨rfl, hq⟩ := hq
  replace hq := hq.symm
  subst hq
  have hs := s_X8_postOf a5 a3 h hs e3
  refine AW_go okX7_isBarred 3 ?_
  obtain ⟨r4, h5, e6, hf⟩ := am_b2_ok hf
  refine AW_callS (As := [.long a1, .int r1]) (R' := rX7_contentIn 0 0) (okX7_isBarred.1 11 _ _ rfl) lkX7_contentIn (Or.inl kX7_65) rfl (Nat.le_of_ble_eq_true rfl) ⟨by decide, by decide⟩ ⟨(Nat.le_of_ble_eq_true rfl), (Nat.le_of_ble_eq_true rfl)⟩ (Nat.le_of_ble_eq_true rfl) (c_X7_contentIn a1 r1 h2 hs e6) (fun r h' hq => ?_)
  obtain ⟨rfl, hq⟩ := hq
  replace hq := hq.symm
  subst hq
  have hs := s_X7_contentIn a1 r1 h2 hs e6
  refine AW_go okX7_isBarred 3 ?_
  refine And.intro (fun c7 => ?_) (fun c7 => ?_)
  · rw [if_neg c7] at hf
    refine AW_go okX7_isBarred 4 ?_
    refine AW_pick (lv' := [(0, .ref 28), (1, .long a1), (3, .int a3), (4, .int a4), (5, .int a5), (6, .int r1), (7, .int r4), (8, .int (Int32.ofInt 0)), (9, .int (Int32.ofInt 1))]) [4, 5, 6, 7, 8, 3, 2, 1, 0] rfl ?_
    exact (l_X7_isBarred n) a1 a3 a4 a5 r1 r4 (Int32.ofInt 0) (Int32.ofInt 1) h5 _ _ hs hf
  · rw [if_pos c7] at hf
    refine AW_go okX7_isBarred 2 ?_
    obtain ⟨rfl, rfl⟩ := am_i2 hf
    exact And.intro ⟨(Nat.le_of_ble_eq_true rfl), (Nat.le_of_ble_eq_true rfl)⟩ (And.intro (Or.inr ⟨rfl, Or.inl rfl⟩) ⟨rfl, rfl⟩)
def f_X8_letters (n : Nat) (a1 : Int64) (h : am_H) : Option (Int32 × am_H) := am_b2 (f_X4_told n a1 h) fun r1 h2 => ((if 0 ≤ r1 then (if ((am_I h2 1 1) + r1) ≤ (Int32.ofInt 60) then am_b2 (f_X4_append n 1 a1 r1 h2) fun r6 h7 => (some ((am_I h7 1 1), h7)) else some ((Int32.ofInt (-104)), h2)) else some ((Int32.ofInt (-102)), h2)))
set_option maxRecDepth 100000 in
theorem s_X8_letters (n : Nat) (a1 : Int64) (h : am_H) (hs : am_stat h) {v : Int32} {h' : am_H} (hf : f_X8_letters n a1 h = some (v, h')) : am_stat h' := by
  unfold f_X8_letters at hf
  obtain ⟨r1, h2, e3, hf⟩ := am_b2_ok hf
  have hs := s_X4_told n a1 h hs e3
  by_cases c4 : 0 ≤ r1
  · rw [if_pos c4] at hf
    by_cases c5 : ((am_I h2 1 1) + r1) ≤ (Int32.ofInt 60)
    · rw [if_pos c5] at hf
      obtain ⟨r6, h7, e8, hf⟩ := am_b2_ok hf
      have hs := s_X4_append n 1 a1 r1 h2 hs e8
      obtain ⟨rfl, rfl⟩ := am_i2 hf
      exact hs
    · rw [if_neg c5] at hf
      obtain ⟨rfl, rfl⟩ := am_i2 hf
      exact hs
  · rw [if_neg c4] at hf
    obtain ⟨rfl, rfl⟩ := am_i2 hf
    exact hs
set_option maxRecDepth 100000 in
theorem c_X8_letters (n : Nat) (a1 : Int64) (h : am_H) (hs : am_stat h) {v : Int32} {h' : am_H} (hf : f_X8_letters n a1 h = some (v, h')) : AMet mX8_letters (rX8_letters 0 0) (fun r h2 => r = some (.int v) ∧ h2 = h') [.ref 0, .long a1] h := by
  unfold f_X8_letters at hf
  refine AW_go okX8_letters 1 ?_
  obtain ⟨r1, h2, e3, hf⟩ := am_b2_ok hf
  refine AW_callS (As := [.long a1]) (R' := rX4_told 0 0) (okX8_letters.1 1 _ _ rfl) lkX4_told (Or.inl kX8_71) rfl (Nat.le_of_ble_eq_true rfl) ⟨by decide, by decide⟩ ⟨(Nat.le_of_ble_eq_true rfl), (Nat.le_of_ble_eq_true rfl)⟩ (Nat.le_of_ble_eq_true rfl) (c_X4_told n a1 h hs e3) (fun r h' hq => ?_)
  obtain ⟨rfl, hq⟩ := hq
  replace hq := hq.symm
  subst hq
  have hs := s_X4_told n a1 h hs e3
  refine AW_go okX8_letters 3 ?_
  refine And.intro (fun c4 => ?_) (fun c4 => ?_)
  · rw [if_pos c4] at hf
    refine AW_go okX8_letters 7 ?_
    refine And.intro (sK hs 0) (Exists.intro _ (And.intro (sA hs 0 0) ?_))
    refine And.intro (sK hs 1) ?_
    refine And.intro (fun c5 => ?_) (fun c5 => ?_)
    · rw [if_pos c5] at hf
      refine AW_go okX8_letters 4 ?_
      refine And.intro (sK hs 0) (Exists.intro _ (And.intro (sA hs 0 0) ?_))
      obtain ⟨r6, h7, e8, hf⟩ := am_b2_ok hf
      refine AW_callV (As := [.long a1, .int r1]) (R' := rX4_append 0 0) (T := TX4) (N := 2) (ci := 4) (okX8_letters.1 35 _ _ rfl) lkX4_append kX8_79 rfl (sK hs 1) rfl (Nat.le_of_ble_eq_true rfl) ⟨by decide, by decide⟩ ⟨(Nat.le_of_ble_eq_true rfl), (Nat.le_of_ble_eq_true rfl)⟩ (Nat.le_of_ble_eq_true rfl) (c_X4_append n 1 a1 r1 h2 hs e8) (fun r h' hq => ?_)
      obtain ⟨rfl, hq⟩ := hq
      replace hq := hq.symm
      subst hq
      have hs := s_X4_append n 1 a1 r1 h2 hs e8
      refine AW_go okX8_letters 4 ?_
      refine And.intro (sK hs 0) (Exists.intro _ (And.intro (sA hs 0 0) ?_))
      refine And.intro (sK hs 1) ?_
      obtain ⟨rfl, rfl⟩ := am_i2 hf
      exact And.intro ⟨(Nat.le_of_ble_eq_true rfl), (Nat.le_of_ble_eq_true rfl)⟩ (And.intro (Or.inl rfl) ⟨rfl, rfl⟩)
    · rw [if_neg c5] at hf
      refine AW_go okX8_letters 2 ?_
      obtain ⟨rfl, rfl⟩ := am_i2 hf
      exact And.intro ⟨(Nat.le_of_ble_eq_true rfl), (Nat.le_of_ble_eq_true rfl)⟩ (And.intro (Or.inl rfl) ⟨rfl, rfl⟩)
  · rw [if_neg c4] at hf
    refine AW_go okX8_letters 2 ?_
    obtain ⟨rfl, rfl⟩ := am_i2 hf
    exact And.intro ⟨(Nat.le_of_ble_eq_true rfl), (Nat.le_of_ble_eq_true rfl)⟩ (And.intro (Or.inl rfl) ⟨rfl, rfl⟩)
def f_X8_act (a1 : Int32) (a2 : Int32) (h : am_H) : Option (Int32 × am_H) := am_b2 (f_X8_isBook a1 h) fun r1 h2 => ((if r1 = 0 then some ((Int32.ofInt (-101)), h2) else (if a2 < (Int32.ofInt 1) then some ((Int32.ofInt (-101)), h2) else bif am_vp a1 8 then ((am_A h2 25 (Int32.toNatClampNeg a1)).bind fun q7 => (bif am_isO h2 q7 0 then ((if a2 ≤ (am_I h2 q7 0) then (am_A h2 25 (Int32.toNatClampNeg a1)).bind fun q11 => (bif am_isO h2 q11 0 then ((am_A h2 q11 1).bind fun q14 => ((am_ln h2 0 q14).bind fun n16 => (bif am_vp a2 n16 then (some ((am_I h2 q14 (Int32.toNatClampNeg a2)), h2)) else none))) else none) else some ((Int32.ofInt (-101)), h2))) else none)) else none)))
set_option maxRecDepth 100000 in
theorem s_X8_act (a1 : Int32) (a2 : Int32) (h : am_H) (hs : am_stat h) {v : Int32} {h' : am_H} (hf : f_X8_act a1 a2 h = some (v, h')) : am_stat h' := by
  unfold f_X8_act at hf
  obtain ⟨r1, h2, e3, hf⟩ := am_b2_ok hf
  have hs := s_X8_isBook a1 h hs e3
  by_cases c4 : r1 = 0
  · rw [if_pos c4] at hf
    obtain ⟨rfl, rfl⟩ := am_i2 hf
    exact hs
  · rw [if_neg c4] at hf
    by_cases c5 : a2 < (Int32.ofInt 1)
    · rw [if_pos c5] at hf
      obtain ⟨rfl, rfl⟩ := am_i2 hf
      exact hs
    · rw [if_neg c5] at hf
      obtain ⟨b6, hf⟩ := am_bis hf
      obtain ⟨q7, k8, hf⟩ := am_bnd hf
      obtain ⟨k9, hf⟩ := am_bis hf
      by_cases c10 : a2 ≤ (am_I h2 q7 0)
      · rw [if_pos c10] at hf
        obtain ⟨q11, k12, hf⟩ := am_bnd hf
        obtain ⟨k13, hf⟩ := am_bis hf
        obtain ⟨q14, k15, hf⟩ := am_bnd hf
        obtain ⟨n16, k17, hf⟩ := am_bnd hf
        obtain ⟨b18, hf⟩ := am_bis hf
        obtain ⟨rfl, rfl⟩ := am_i2 hf
        exact hs
      · rw [if_neg c10] at hf
        obtain ⟨rfl, rfl⟩ := am_i2 hf
        exact hs
set_option maxRecDepth 100000 in
theorem c_X8_act (a1 : Int32) (a2 : Int32) (h : am_H) (hs : am_stat h) {v : Int32} {h' : am_H} (hf : f_X8_act a1 a2 h = some (v, h')) : AMet mX8_act (rX8_act 0 0) (fun r h2 => r = some (.int v) ∧ h2 = h') [.ref 0, .int a1, .int a2] h := by
  unfold f_X8_act at hf
  refine AW_go okX8_act 2 ?_
  obtain ⟨r1, h2, e3, hf⟩ := am_b2_ok hf
  refine AW_callV (As := [.int a1]) (R' := rX8_isBook 0 0) (T := TX8) (N := 18) (ci := 8) (okX8_act.1 2 _ _ rfl) lkX8_isBook kX8_116 rfl (sK hs 0) rfl (Nat.le_of_ble_eq_true rfl) ⟨by decide, by decide⟩ ⟨(Nat.le_of_ble_eq_true rfl), (Nat.le_of_ble_eq_true rfl)⟩ (Nat.le_of_ble_eq_true rfl) (c_X8_isBook a1 h hs e3) (fun r h' hq => ?_)
  obtain ⟨rfl, hq⟩ := hq
  replace hq := hq.symm
  subst hq
  have hs := s_X8_isBook a1 h hs e3
  refine AW_go okX8_act 1 ?_
  refine And.intro (fun c4 => ?_) (fun c4 => ?_)
  · rw [if_pos c4] at hf
    refine AW_go okX8_act 2 ?_
    obtain ⟨rfl, rfl⟩ := am_i2 hf
    exact And.intro ⟨(Nat.le_of_ble_eq_true rfl), (Nat.le_of_ble_eq_true rfl)⟩ (And.intro (Or.inl rfl) ⟨rfl, rfl⟩)
  · rw [if_neg c4] at hf
    refine AW_go okX8_act 3 ?_
    refine And.intro (fun c5 => ?_) (fun c5 => ?_)
    · rw [if_pos c5] at hf
      refine AW_go okX8_act 2 ?_
      obtain ⟨rfl, rfl⟩ := am_i2 hf
      exact And.intro ⟨(Nat.le_of_ble_eq_true rfl), (Nat.le_of_ble_eq_true rfl)⟩ (And.intro (Or.inl rfl) ⟨rfl, rfl⟩)
    · rw [if_neg c5] at hf
      obtain ⟨b6, hf⟩ := am_bis hf
      obtain ⟨q7, k8, hf⟩ := am_bnd hf
      obtain ⟨k9, hf⟩ := am_bis hf
      refine AW_go okX8_act 7 ?_
      refine And.intro (sK hs 0) (Exists.intro _ (And.intro (sA hs 0 4) ?_))
      refine Exists.intro 4 (Exists.intro 8 (Exists.intro (some q7) (And.intro (by decide) (And.intro (sK hs 25) (And.intro (am_vp_ok b6) (And.intro k8 ?_))))))
      refine And.intro (am_isO_ok k9) ?_
      refine And.intro (fun c10 => ?_) (fun c10 => ?_)
      · rw [if_pos c10] at hf
        obtain ⟨q11, k12, hf⟩ := am_bnd hf
        obtain ⟨k13, hf⟩ := am_bis hf
        obtain ⟨q14, k15, hf⟩ := am_bnd hf
        obtain ⟨n16, k17, hf⟩ := am_bnd hf
        obtain ⟨b18, hf⟩ := am_bis hf
        refine AW_go okX8_act 8 ?_
        refine And.intro (sK hs 0) (Exists.intro _ (And.intro (sA hs 0 4) ?_))
        refine Exists.intro 4 (Exists.intro 8 (Exists.intro (some q11) (And.intro (by decide) (And.intro (sK hs 25) (And.intro (am_vp_ok b6) (And.intro k12 ?_))))))
        refine And.intro (am_isO_ok k13) (Exists.intro (some q14) (And.intro k15 ?_))
        refine Exists.intro n16 (And.intro (am_ln_ok k17) (And.intro (am_vp_ok b18) ?_))
        obtain ⟨rfl, rfl⟩ := am_i2 hf
        exact And.intro ⟨(Nat.le_of_ble_eq_true rfl), (Nat.le_of_ble_eq_true rfl)⟩ (And.intro (Or.inl rfl) ⟨rfl, rfl⟩)
      · rw [if_neg c10] at hf
        refine AW_go okX8_act 2 ?_
        obtain ⟨rfl, rfl⟩ := am_i2 hf
        exact And.intro ⟨(Nat.le_of_ble_eq_true rfl), (Nat.le_of_ble_eq_true rfl)⟩ (And.intro (Or.inl rfl) ⟨rfl, rfl⟩)
def f_X8_follow (a1 : Int32) (a2 : Int32) (h : am_H) : Option (Int32 × am_H) := am_b2 (f_X8_isBook a1 h) fun r1 h2 => ((if r1 = 0 then some ((Int32.ofInt (-101)), h2) else (if a2 < 0 then some ((Int32.ofInt (-101)), h2) else bif am_vp a1 8 then ((am_A h2 25 (Int32.toNatClampNeg a1)).bind fun q7 => (bif am_isO h2 q7 0 then ((if a2 ≤ (am_I h2 q7 0) then (am_A h2 25 (Int32.toNatClampNeg a1)).bind fun q11 => (bif am_isO h2 q11 0 then ((am_A h2 q11 2).bind fun q14 => ((am_ln h2 0 q14).bind fun n16 => (bif am_vp a2 n16 then (some ((am_I h2 q14 (Int32.toNatClampNeg a2)), h2)) else none))) else none) else some ((Int32.ofInt (-101)), h2))) else none)) else none)))
set_option maxRecDepth 100000 in
theorem s_X8_follow (a1 : Int32) (a2 : Int32) (h : am_H) (hs : am_stat h) {v : Int32} {h' : am_H} (hf : f_X8_follow a1 a2 h = some (v, h')) : am_stat h' := by
  unfold f_X8_follow at hf
  obtain ⟨r1, h2, e3, hf⟩ := am_b2_ok hf
  have hs := s_X8_isBook a1 h hs e3
  by_cases c4 : r1 = 0
  · rw [if_pos c4] at hf
    obtain ⟨rfl, rfl⟩ := am_i2 hf
    exact hs
  · rw [if_neg c4] at hf
    by_cases c5 : a2 < 0
    · rw [if_pos c5] at hf
      obtain ⟨rfl, rfl⟩ := am_i2 hf
      exact hs
    · rw [if_neg c5] at hf
      obtain ⟨b6, hf⟩ := am_bis hf
      obtain ⟨q7, k8, hf⟩ := am_bnd hf
      obtain ⟨k9, hf⟩ := am_bis hf
      by_cases c10 : a2 ≤ (am_I h2 q7 0)
      · rw [if_pos c10] at hf
        obtain ⟨q11, k12, hf⟩ := am_bnd hf
        obtain ⟨k13, hf⟩ := am_bis hf
        obtain ⟨q14, k15, hf⟩ := am_bnd hf
        obtain ⟨n16, k17, hf⟩ := am_bnd hf
        obtain ⟨b18, hf⟩ := am_bis hf
        obtain ⟨rfl, rfl⟩ := am_i2 hf
        exact hs
      · rw [if_neg c10] at hf
        obtain ⟨rfl, rfl⟩ := am_i2 hf
        exact hs
set_option maxRecDepth 100000 in
theorem c_X8_follow (a1 : Int32) (a2 : Int32) (h : am_H) (hs : am_stat h) {v : Int32} {h' : am_H} (hf : f_X8_follow a1 a2 h = some (v, h')) : AMet mX8_follow (rX8_follow 0 0) (fun r h2 => r = some (.int v) ∧ h2 = h') [.ref 0, .int a1, .int a2] h := by
  unfold f_X8_follow at hf
  refine AW_go okX8_follow 2 ?_
  obtain ⟨r1, h2, e3, hf⟩ := am_b2_ok hf
  refine AW_callV (As := [.int a1]) (R' := rX8_isBook 0 0) (T := TX8) (N := 18) (ci := 8) (okX8_follow.1 2 _ _ rfl) lkX8_isBook kX8_116 rfl (sK hs 0) rfl (Nat.le_of_ble_eq_true rfl) ⟨by decide, by decide⟩ ⟨(Nat.le_of_ble_eq_true rfl), (Nat.le_of_ble_eq_true rfl)⟩ (Nat.le_of_ble_eq_true rfl) (c_X8_isBook a1 h hs e3) (fun r h' hq => ?_)
  obtain ⟨rfl, hq⟩ := hq
  replace hq := hq.symm
  subst hq
  have hs := s_X8_isBook a1 h hs e3
  refine AW_go okX8_follow 1 ?_
  refine And.intro (fun c4 => ?_) (fun c4 => ?_)
  · rw [if_pos c4] at hf
    refine AW_go okX8_follow 2 ?_
    obtain ⟨rfl, rfl⟩ := am_i2 hf
    exact And.intro ⟨(Nat.le_of_ble_eq_true rfl), (Nat.le_of_ble_eq_true rfl)⟩ (And.intro (Or.inl rfl) ⟨rfl, rfl⟩)
  · rw [if_neg c4] at hf
    refine AW_go okX8_follow 2 ?_
    refine And.intro (fun c5 => ?_) (fun c5 => ?_)
    · rw [if_pos c5] at hf
      refine AW_go okX8_follow 2 ?_
      obtain ⟨rfl, rfl⟩ := am_i2 hf
      exact And.intro ⟨(Nat.le_of_ble_eq_true rfl), (Nat.le_of_ble_eq_true rfl)⟩ (And.intro (Or.inl rfl) ⟨rfl, rfl⟩)
    · rw [if_neg c5] at hf
      obtain ⟨b6, hf⟩ := am_bis hf
      obtain ⟨q7, k8, hf⟩ := am_bnd hf
      obtain ⟨k9, hf⟩ := am_bis hf
      refine AW_go okX8_follow 7 ?_
      refine And.intro (sK hs 0) (Exists.intro _ (And.intro (sA hs 0 4) ?_))
      refine Exists.intro 4 (Exists.intro 8 (Exists.intro (some q7) (And.intro (by decide) (And.intro (sK hs 25) (And.intro (am_vp_ok b6) (And.intro k8 ?_))))))
      refine And.intro (am_isO_ok k9) ?_
      refine And.intro (fun c10 => ?_) (fun c10 => ?_)
      · rw [if_pos c10] at hf
        obtain ⟨q11, k12, hf⟩ := am_bnd hf
        obtain ⟨k13, hf⟩ := am_bis hf
        obtain ⟨q14, k15, hf⟩ := am_bnd hf
        obtain ⟨n16, k17, hf⟩ := am_bnd hf
        obtain ⟨b18, hf⟩ := am_bis hf
        refine AW_go okX8_follow 8 ?_
        refine And.intro (sK hs 0) (Exists.intro _ (And.intro (sA hs 0 4) ?_))
        refine Exists.intro 4 (Exists.intro 8 (Exists.intro (some q11) (And.intro (by decide) (And.intro (sK hs 25) (And.intro (am_vp_ok b6) (And.intro k12 ?_))))))
        refine And.intro (am_isO_ok k13) (Exists.intro (some q14) (And.intro k15 ?_))
        refine Exists.intro n16 (And.intro (am_ln_ok k17) (And.intro (am_vp_ok b18) ?_))
        obtain ⟨rfl, rfl⟩ := am_i2 hf
        exact And.intro ⟨(Nat.le_of_ble_eq_true rfl), (Nat.le_of_ble_eq_true rfl)⟩ (And.intro (Or.inl rfl) ⟨rfl, rfl⟩)
      · rw [if_neg c10] at hf
        refine AW_go okX8_follow 2 ?_
        obtain ⟨rfl, rfl⟩ := am_i2 hf
        exact And.intro ⟨(Nat.le_of_ble_eq_true rfl), (Nat.le_of_ble_eq_true rfl)⟩ (And.intro (Or.inl rfl) ⟨rfl, rfl⟩)
def f_X8_post (a1 : Int32) (a2 : Int32) (a3 : Int32) (h : am_H) : Option (Int32 × am_H) := am_b2 (f_X8_isPost a1 a2 h) fun r1 h2 => ((if r1 = 0 then some ((Int32.ofInt (-101)), h2) else (if a3 < 0 then some ((Int32.ofInt (-102)), h2) else (if a3 < (Int32.ofInt 5) then am_b2 (f_X8_postOf a1 a2 h2) fun r7 h8 => (bif am_vp r7 6 then (am_b2 (f_X8_changeTalk (am_sI h8 29 (Int32.toNatClampNeg r7) a3)) fun r11 h12 => (some ((am_I h8 29 (Int32.toNatClampNeg r7)), h12))) else none) else some ((Int32.ofInt (-102)), h2)))))
set_option maxRecDepth 100000 in
theorem s_X8_post (a1 : Int32) (a2 : Int32) (a3 : Int32) (h : am_H) (hs : am_stat h) {v : Int32} {h' : am_H} (hf : f_X8_post a1 a2 a3 h = some (v, h')) : am_stat h' := by
  unfold f_X8_post at hf
  obtain ⟨r1, h2, e3, hf⟩ := am_b2_ok hf
  have hs := s_X8_isPost a1 a2 h hs e3
  by_cases c4 : r1 = 0
  · rw [if_pos c4] at hf
    obtain ⟨rfl, rfl⟩ := am_i2 hf
    exact hs
  · rw [if_neg c4] at hf
    by_cases c5 : a3 < 0
    · rw [if_pos c5] at hf
      obtain ⟨rfl, rfl⟩ := am_i2 hf
      exact hs
    · rw [if_neg c5] at hf
      by_cases c6 : a3 < (Int32.ofInt 5)
      · rw [if_pos c6] at hf
        obtain ⟨r7, h8, e9, hf⟩ := am_b2_ok hf
        have hs := s_X8_postOf a1 a2 h2 hs e9
        obtain ⟨b10, hf⟩ := am_bis hf
        obtain ⟨r11, h12, e13, hf⟩ := am_b2_ok hf
        have hs := s_X8_changeTalk (am_sI h8 29 (Int32.toNatClampNeg r7) a3) hs e13
        obtain ⟨rfl, rfl⟩ := am_i2 hf
        exact hs
      · rw [if_neg c6] at hf
        obtain ⟨rfl, rfl⟩ := am_i2 hf
        exact hs
set_option maxRecDepth 100000 in
theorem c_X8_post (a1 : Int32) (a2 : Int32) (a3 : Int32) (h : am_H) (hs : am_stat h) {v : Int32} {h' : am_H} (hf : f_X8_post a1 a2 a3 h = some (v, h')) : AMet mX8_post (rX8_post 0 0) (fun r h2 => r = some (.int v) ∧ h2 = h') [.ref 0, .int a1, .int a2, .int a3] h := by
  unfold f_X8_post at hf
  refine AW_go okX8_post 2 ?_
  obtain ⟨r1, h2, e3, hf⟩ := am_b2_ok hf
  refine AW_callS (As := [.int a1, .int a2]) (R' := rX8_isPost 0 0) (okX8_post.1 2 _ _ rfl) lkX8_isPost (Or.inl kX8_190) rfl (Nat.le_of_ble_eq_true rfl) ⟨by decide, by decide⟩ ⟨(Nat.le_of_ble_eq_true rfl), (Nat.le_of_ble_eq_true rfl)⟩ (Nat.le_of_ble_eq_true rfl) (c_X8_isPost a1 a2 h hs e3) (fun r h' hq => ?_)
  obtain ⟨rfl, hq⟩ := hq
  replace hq := hq.symm
  subst hq
  have hs := s_X8_isPost a1 a2 h hs e3
  refine AW_go okX8_post 1 ?_
  refine And.intro (fun c4 => ?_) (fun c4 => ?_)
  · rw [if_neg c4] at hf
    refine AW_go okX8_post 2 ?_
    refine And.intro (fun c5 => ?_) (fun c5 => ?_)
    · rw [if_pos c5] at hf
      refine AW_go okX8_post 2 ?_
      obtain ⟨rfl, rfl⟩ := am_i2 hf
      exact And.intro ⟨(Nat.le_of_ble_eq_true rfl), (Nat.le_of_ble_eq_true rfl)⟩ (And.intro (Or.inl rfl) ⟨rfl, rfl⟩)
    · rw [if_neg c5] at hf
      refine AW_go okX8_post 3 ?_
      refine And.intro (fun c6 => ?_) (fun c6 => ?_)
      · rw [if_pos c6] at hf
        refine AW_go okX8_post 2 ?_
        obtain ⟨r7, h8, e9, hf⟩ := am_b2_ok hf
        refine AW_callS (As := [.int a1, .int a2]) (R' := rX8_postOf 0 0) (okX8_post.1 25 _ _ rfl) lkX8_postOf (Or.inl kX8_194) rfl (Nat.le_of_ble_eq_true rfl) ⟨by decide, by decide⟩ ⟨(Nat.le_of_ble_eq_true rfl), (Nat.le_of_ble_eq_true rfl)⟩ (Nat.le_of_ble_eq_true rfl) (c_X8_postOf a1 a2 h2 hs e9) (fun r h' hq => ?_)
        obtain ⟨rfl, hq⟩ := hq
        replace hq := hq.symm
        subst hq
        have hs := s_X8_postOf a1 a2 h2 hs e9
        obtain ⟨b10, hf⟩ := am_bis hf
        refine AW_go okX8_post 14 ?_
        refine And.intro (sK hs 0) (Exists.intro _ (And.intro (sA hs 0 9) ?_))
        refine And.intro (sK hs 28) (Exists.intro _ (And.intro (sA hs 28 1) ?_))
        refine Exists.intro 6 (And.intro (sK hs 29) (And.intro (am_vp_ok b10) ?_))
        refine And.intro (sK hs 0) (Exists.intro _ (And.intro (sA hs 0 9) ?_))
        refine And.intro (sK hs 28) (Exists.intro _ (And.intro (sA hs 28 1) ?_))
        refine Exists.intro 6 (And.intro (sK hs 29) (And.intro (am_vp_ok b10) ?_))
        obtain ⟨r11, h12, e13, hf⟩ := am_b2_ok hf
        refine AW_callV (As := []) (R' := rX8_changeTalk 0 0) (T := TX8) (N := 18) (ci := 8) (okX8_post.1 54 _ _ rfl) lkX8_changeTalk kX8_187 rfl (sK hs 0) rfl (Nat.le_of_ble_eq_true rfl) ⟨by decide, by decide⟩ ⟨(Nat.le_of_ble_eq_true rfl), (Nat.le_of_ble_eq_true rfl)⟩ (Nat.le_of_ble_eq_true rfl) (c_X8_changeTalk (am_sI h8 29 (Int32.toNatClampNeg r7) a3) hs e13) (fun r h' hq => ?_)
        obtain ⟨rfl, hq⟩ := hq
        replace hq := hq.symm
        subst hq
        have hs := s_X8_changeTalk (am_sI h8 29 (Int32.toNatClampNeg r7) a3) hs e13
        refine AW_go okX8_post 2 ?_
        obtain ⟨rfl, rfl⟩ := am_i2 hf
        exact And.intro ⟨(Nat.le_of_ble_eq_true rfl), (Nat.le_of_ble_eq_true rfl)⟩ (And.intro (Or.inl rfl) ⟨rfl, rfl⟩)
      · rw [if_neg c6] at hf
        refine AW_go okX8_post 2 ?_
        obtain ⟨rfl, rfl⟩ := am_i2 hf
        exact And.intro ⟨(Nat.le_of_ble_eq_true rfl), (Nat.le_of_ble_eq_true rfl)⟩ (And.intro (Or.inl rfl) ⟨rfl, rfl⟩)
  · rw [if_pos c4] at hf
    refine AW_go okX8_post 2 ?_
    obtain ⟨rfl, rfl⟩ := am_i2 hf
    exact And.intro ⟨(Nat.le_of_ble_eq_true rfl), (Nat.le_of_ble_eq_true rfl)⟩ (And.intro (Or.inl rfl) ⟨rfl, rfl⟩)
