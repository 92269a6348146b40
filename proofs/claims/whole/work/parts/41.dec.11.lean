def f_X9_actOfSeat (a1 : Int32) (a2 : Int32) (h : am_H) : Option (Int32 × am_H) := bif am_vp a1 3 then (bif am_vp (((Int32.ofInt 16) * (am_I h 58 (Int32.toNatClampNeg a1))) + a2) 128 then (Option.bind ((if (am_I h 51 40) = a1 then (if (am_I h 51 41) = a2 then some (((am_I h 53 (Int32.toNatClampNeg (((Int32.ofInt 16) * (am_I h 58 (Int32.toNatClampNeg a1))) + a2))) - ((am_I h 53 (Int32.toNatClampNeg (((Int32.ofInt 16) * (am_I h 58 (Int32.toNatClampNeg a1))) + a2))) - (am_I h 53 (Int32.toNatClampNeg (((Int32.ofInt 16) * (am_I h 58 (Int32.toNatClampNeg a1))) + a2))) / (Int32.ofInt 10) * (Int32.ofInt 10))) + (am_I h 51 42)) else some (am_I h 53 (Int32.toNatClampNeg (((Int32.ofInt 16) * (am_I h 58 (Int32.toNatClampNeg a1))) + a2)))) else some (am_I h 53 (Int32.toNatClampNeg (((Int32.ofInt 16) * (am_I h 58 (Int32.toNatClampNeg a1))) + a2))))) fun y3 => (some (y3, h))) else none) else none
set_option maxRecDepth 100000 in
theorem s_X9_actOfSeat (a1 : Int32) (a2 : Int32) (h : am_H) (hs : am_stat h) {v : Int32} {h' : am_H} (hf : f_X9_actOfSeat a1 a2 h = some (v, h')) : am_stat h' := by
  unfold f_X9_actOfSeat at hf
  obtain ⟨b1, hf⟩ := am_bis hf
  obtain ⟨b2, hf⟩ := am_bis hf
  obtain ⟨y3, j4, hf⟩ := am_bnd hf
  obtain ⟨rfl, rfl⟩ := am_i2 hf
  exact hs
set_option maxRecDepth 100000 in
theorem c_X9_actOfSeat (a1 : Int32) (a2 : Int32) (h : am_H) (hs : am_stat h) {v : Int32} {h' : am_H} (hf : f_X9_actOfSeat a1 a2 h = some (v, h')) : AMet mX9_actOfSeat (rX9_actOfSeat 0 0) (fun r h2 => r = some (.int v) ∧ h2 = h') [.ref 51, .int a1, .int a2] h := by
  unfold f_X9_actOfSeat at hf
  obtain ⟨b1, hf⟩ := am_bis hf
  obtain ⟨b2, hf⟩ := am_bis hf
  refine AW_go okX9_actOfSeat 15 ?_
  refine And.intro (sK hs 51) (Exists.intro _ (And.intro (sA hs 51 3) ?_))
  refine And.intro (sK hs 51) (Exists.intro _ (And.intro (sA hs 51 9) ?_))
  refine Exists.intro 3 (And.intro (sK hs 58) (And.intro (am_vp_ok b1) ?_))
  refine Exists.intro 128 (And.intro (sK hs 53) (And.intro (am_vp_ok b2) ?_))
  refine And.intro (sK hs 51) ?_
  obtain ⟨y3, j4, hf⟩ := am_bnd hf
  refine am_cut (P := AW mX9_actOfSeat (rX9_actOfSeat 0 0) (fun r h2 => r = some (.int v) ∧ h2 = h') 48 [(0, .ref 51), (1, .int a1), (2, .int a2), (3, .int (am_I h 53 (Int32.toNatClampNeg (((Int32.ofInt 16) * (am_I h 58 (Int32.toNatClampNeg a1))) + a2))))] [.int y3] h 0 0) (fun hJ4 => ?_) ?_
  · have hs := hs
    refine AW_go okX9_actOfSeat 1 ?_
    refine And.intro (fun c5 => ?_) (fun c5 => ?_)
    · rw [if_neg c5] at j4
      refine AW_go okX9_actOfSeat 1 ?_
      obtain rfl := am_i1 j4
      exact AW_pick [1, 2, 3, 0] rfl hJ4
    · rw [if_pos c5] at j4
      refine AW_go okX9_actOfSeat 4 ?_
      refine And.intro (sK hs 51) ?_
      refine And.intro (fun c6 => ?_) (fun c6 => ?_)
      · rw [if_neg c6] at j4
        refine AW_go okX9_actOfSeat 1 ?_
        obtain rfl := am_i1 j4
        exact AW_pick [1, 2, 3, 0] rfl hJ4
      · rw [if_pos c6] at j4
        refine AW_go okX9_actOfSeat 9 ?_
        refine And.intro (by decide) ?_
        refine And.intro (sK hs 51) ?_
        obtain rfl := am_i1 j4
        exact AW_pick [1, 2, 3, 0] rfl hJ4
  refine AW_go okX9_actOfSeat 1 ?_
  obtain ⟨rfl, rfl⟩ := am_i2 hf
  exact And.intro ⟨(Nat.le_of_ble_eq_true rfl), (Nat.le_of_ble_eq_true rfl)⟩ (And.intro (Or.inl rfl) ⟨rfl, rfl⟩)
def f_X9_followNow (a1 : Int32) (h : am_H) : Option (Int32 × am_H) := bif am_vp a1 3 then (Option.bind ((if (am_I h 58 (Int32.toNatClampNeg a1)) = (Int32.ofInt (-1)) then some (Int32.ofInt 1) else bif am_vp (((Int32.ofInt 16) * (am_I h 58 (Int32.toNatClampNeg a1))) + (am_I h 77 (Int32.toNatClampNeg a1))) 128 then (some (am_I h 54 (Int32.toNatClampNeg (((Int32.ofInt 16) * (am_I h 58 (Int32.toNatClampNeg a1))) + (am_I h 77 (Int32.toNatClampNeg a1)))))) else none)) fun y2 => (some (y2, h))) else none
set_option maxRecDepth 100000 in
theorem s_X9_followNow (a1 : Int32) (h : am_H) (hs : am_stat h) {v : Int32} {h' : am_H} (hf : f_X9_followNow a1 h = some (v, h')) : am_stat h' := by
  unfold f_X9_followNow at hf
  obtain ⟨b1, hf⟩ := am_bis hf
  obtain ⟨y2, j3, hf⟩ := am_bnd hf
  obtain ⟨rfl, rfl⟩ := am_i2 hf
  exact hs
set_option maxRecDepth 100000 in
theorem c_X9_followNow (a1 : Int32) (h : am_H) (hs : am_stat h) {v : Int32} {h' : am_H} (hf : f_X9_followNow a1 h = some (v, h')) : AMet mX9_followNow (rX9_followNow 0 0) (fun r h2 => r = some (.int v) ∧ h2 = h') [.ref 51, .int a1] h := by
  unfold f_X9_followNow at hf
  obtain ⟨b1, hf⟩ := am_bis hf
  refine AW_go okX9_followNow 5 ?_
  refine And.intro (sK hs 51) (Exists.intro _ (And.intro (sA hs 51 9) ?_))
  refine Exists.intro 3 (And.intro (sK hs 58) (And.intro (am_vp_ok b1) ?_))
  obtain ⟨y2, j3, hf⟩ := am_bnd hf
  refine am_cut (P := AW mX9_followNow (rX9_followNow 0 0) (fun r h2 => r = some (.int v) ∧ h2 = h') 35 [(0, .ref 51), (1, .int a1)] [.int y2] h 0 0) (fun hJ3 => ?_) ?_
  · have hs := hs
    refine AW_go okX9_followNow 1 ?_
    refine And.intro (fun c4 => ?_) (fun c4 => ?_)
    · rw [if_neg c4] at j3
      obtain ⟨b5, j3⟩ := am_bis j3
      refine AW_go okX9_followNow 14 ?_
      refine And.intro (sK hs 51) (Exists.intro _ (And.intro (sA hs 51 4) ?_))
      refine And.intro (sK hs 51) (Exists.intro _ (And.intro (sA hs 51 9) ?_))
      refine Exists.intro 3 (And.intro (sK hs 58) (And.intro (am_vp_ok b1) ?_))
      refine And.intro (sK hs 51) (Exists.intro _ (And.intro (sA hs 51 38) ?_))
      refine Exists.intro 3 (And.intro (sK hs 77) (And.intro (am_vp_ok b1) ?_))
      refine Exists.intro 128 (And.intro (sK hs 54) (And.intro (am_vp_ok b5) ?_))
      obtain rfl := am_i1 j3
      exact AW_pick [0, 1] rfl hJ3
    · rw [if_pos c4] at j3
      refine AW_go okX9_followNow 2 ?_
      obtain rfl := am_i1 j3
      exact AW_pick [0, 1] rfl hJ3
  refine AW_go okX9_followNow 1 ?_
  obtain ⟨rfl, rfl⟩ := am_i2 hf
  exact And.intro ⟨(Nat.le_of_ble_eq_true rfl), (Nat.le_of_ble_eq_true rfl)⟩ (And.intro (Or.inl rfl) ⟨rfl, rfl⟩)
def f_X9_layStep (n : Nat) (a1 : Int32) (a2 : Int32) (h : am_H) : Option (Unit × am_H) := am_b2 (f_X9_actOfSeat a1 a2 h) fun r1 h2 => (am_b4 ((if (Int32.ofInt 100) ≤ r1 then am_b2 (f_X9_placeOf n (((Int32.ofInt 3) * ((r1 - r1 / (Int32.ofInt 100) * (Int32.ofInt 100)) / (Int32.ofInt 10))) + a1) (r1 - r1 / (Int32.ofInt 10) * (Int32.ofInt 10)) h2) fun r10 h11 => (Option.bind ((if r10 = (Int32.ofInt (-1)) then some (Int32.ofInt 0) else some (Int32.ofInt 1))) fun y13 => (bif am_vp (((Int32.ofInt 3) * ((r1 - r1 / (Int32.ofInt 100) * (Int32.ofInt 100)) / (Int32.ofInt 10))) + a1) 9 then (Option.bind ((if (am_I h11 59 (Int32.toNatClampNeg (((Int32.ofInt 3) * ((r1 - r1 / (Int32.ofInt 100) * (Int32.ofInt 100)) / (Int32.ofInt 10))) + a1))) = (Int32.ofInt 4) then some (Int32.ofInt 1) else some (Int32.ofInt 0))) fun y67 => (some (y13, y67, (((Int32.ofInt 3) * ((r1 - r1 / (Int32.ofInt 100) * (Int32.ofInt 100)) / (Int32.ofInt 10))) + a1), h11))) else none)) else bif am_vp (((Int32.ofInt 3) * a1) + ((r1 - r1 / (Int32.ofInt 100) * (Int32.ofInt 100)) / (Int32.ofInt 10))) 9 then (am_b2 (f_X9_sizeOf (am_I h2 78 (Int32.toNatClampNeg (((Int32.ofInt 3) * a1) + ((r1 - r1 / (Int32.ofInt 100) * (Int32.ofInt 100)) / (Int32.ofInt 10))))) h2) fun r121 h122 => (Option.bind ((if (am_I h122 59 (Int32.toNatClampNeg (((Int32.ofInt 3) * a1) + ((r1 - r1 / (Int32.ofInt 100) * (Int32.ofInt 100)) / (Int32.ofInt 10))))) = (Int32.ofInt 2) then some (Int32.ofInt 1) else some (am_I h122 51 11))) fun y124 => (Option.bind ((if y124 ≤ r121 then some (Int32.ofInt 0) else some (Int32.ofInt 1))) fun y177 => (Option.bind ((if (am_I h122 59 (Int32.toNatClampNeg (((Int32.ofInt 3) * a1) + ((r1 - r1 / (Int32.ofInt 100) * (Int32.ofInt 100)) / (Int32.ofInt 10))))) = (Int32.ofInt 3) then some (Int32.ofInt 1) else some (Int32.ofInt 0))) fun y230 => (some (y177, y230, (((Int32.ofInt 3) * a1) + ((r1 - r1 / (Int32.ofInt 100) * (Int32.ofInt 100)) / (Int32.ofInt 10))), h122)))))) else none)) fun y4 y5 y6 h7 => (Option.bind ((if y4 = 0 then some h7 else bif am_vp (am_I h7 51 44) 96 then (some (am_sI (am_sI h7 79 (Int32.toNatClampNeg (am_I h7 51 44)) (((Int32.ofInt 100) * a1) + a2)) 51 44 ((am_I (am_sI h7 79 (Int32.toNatClampNeg (am_I h7 51 44)) (((Int32.ofInt 100) * a1) + a2)) 51 44) + (Int32.ofInt 1)))) else none)) fun h333 => (Option.bind ((if y4 = 0 then some h333 else (if y5 = 0 then some h333 else bif am_vp (am_I h333 51 44) 96 then (some (am_sI (am_sI h333 79 (Int32.toNatClampNeg (am_I h333 51 44)) (((Int32.ofInt 1000) + ((Int32.ofInt 100) * a1)) + a2)) 51 44 ((am_I (am_sI h333 79 (Int32.toNatClampNeg (am_I h333 51 44)) (((Int32.ofInt 1000) + ((Int32.ofInt 100) * a1)) + a2)) 51 44) + (Int32.ofInt 1)))) else none))) fun h387 => (some ((), h387)))))
set_option maxRecDepth 100000 in
theorem s_X9_layStep (n : Nat) (a1 : Int32) (a2 : Int32) (h : am_H) (hs : am_stat h) {v : Unit} {h' : am_H} (hf : f_X9_layStep n a1 a2 h = some (v, h')) : am_stat h' := by
  unfold f_X9_layStep at hf
  obtain ⟨r1, h2, e3, hf⟩ := am_b2_ok hf
  have hs := s_X9_actOfSeat a1 a2 h hs e3
  obtain ⟨y4, y5, y6, h7, j8, hf⟩ := am_b4_ok hf
  have hs0 := hs
  have hs : am_stat h7 := by
    have hs := hs0
    by_cases c9 : (Int32.ofInt 100) ≤ r1
    · rw [if_pos c9] at j8
      obtain ⟨r10, h11, e12, j8⟩ := am_b2_ok j8
      have hs := s_X9_placeOf n (((Int32.ofInt 3) * ((r1 - r1 / (Int32.ofInt 100) * (Int32.ofInt 100)) / (Int32.ofInt 10))) + a1) (r1 - r1 / (Int32.ofInt 10) * (Int32.ofInt 10)) h2 hs e12
      obtain ⟨y13, j14, j8⟩ := am_bnd j8
      obtain ⟨b66, j8⟩ := am_bis j8
      obtain ⟨y67, j68, j8⟩ := am_bnd j8
      obtain ⟨rfl, rfl, rfl, rfl⟩ := am_i4 j8
      exact hs
    · rw [if_neg c9] at j8
      obtain ⟨b120, j8⟩ := am_bis j8
      obtain ⟨r121, h122, e123, j8⟩ := am_b2_ok j8
      have hs := s_X9_sizeOf (am_I h2 78 (Int32.toNatClampNeg (((Int32.ofInt 3) * a1) + ((r1 - r1 / (Int32.ofInt 100) * (Int32.ofInt 100)) / (Int32.ofInt 10))))) h2 hs e123
      obtain ⟨y124, j125, j8⟩ := am_bnd j8
      obtain ⟨y177, j178, j8⟩ := am_bnd j8
      obtain ⟨y230, j231, j8⟩ := am_bnd j8
      obtain ⟨rfl, rfl, rfl, rfl⟩ := am_i4 j8
      exact hs
  obtain ⟨h333, j334, hf⟩ := am_bnd hf
  have hs0 := hs
  have hs : am_stat h333 := by
    have hs := hs0
    by_cases c335 : y4 = 0
    · rw [if_pos c335] at j334
      obtain rfl := am_i1 j334
      exact hs
    · rw [if_neg c335] at j334
      obtain ⟨b336, j334⟩ := am_bis j334
      obtain rfl := am_i1 j334
      exact hs
  obtain ⟨h387, j388, hf⟩ := am_bnd hf
  have hs0 := hs
  have hs : am_stat h387 := by
    have hs := hs0
    by_cases c389 : y4 = 0
    · rw [if_pos c389] at j388
      obtain rfl := am_i1 j388
      exact hs
    · rw [if_neg c389] at j388
      by_cases c390 : y5 = 0
      · rw [if_pos c390] at j388
        obtain rfl := am_i1 j388
        exact hs
      · rw [if_neg c390] at j388
        obtain ⟨b391, j388⟩ := am_bis j388
        obtain rfl := am_i1 j388
        exact hs
  obtain ⟨rfl, rfl⟩ := am_i2 hf
  exact hs
set_option maxRecDepth 100000 in
theorem c_X9_layStep (n : Nat) (a1 : Int32) (a2 : Int32) (h : am_H) (hs : am_stat h) {v : Unit} {h' : am_H} (hf : f_X9_layStep n a1 a2 h = some (v, h')) : AMet mX9_layStep (rX9_layStep 0 0) (fun r h2 => r = none ∧ h2 = h') [.ref 51, .int a1, .int a2] h := by
  unfold f_X9_layStep at hf
  refine AW_go okX9_layStep 3 ?_
  obtain ⟨r1, h2, e3, hf⟩ := am_b2_ok hf
  refine AW_callV (As := [.int a1, .int a2]) (R' := rX9_actOfSeat 0 0) (T := TX9) (N := 58) (ci := 9) (okX9_layStep.1 3 _ _ rfl) lkX9_actOfSeat kX9_291 rfl (sK hs 51) rfl (Nat.le_of_ble_eq_true rfl) ⟨by decide, by decide⟩ ⟨(Nat.le_of_ble_eq_true rfl), (Nat.le_of_ble_eq_true rfl)⟩ (Nat.le_of_ble_eq_true rfl) (c_X9_actOfSeat a1 a2 h hs e3) (fun r h' hq => ?_)
  obtain ⟨rfl, hq⟩ := hq
  replace hq := hq.symm
  subst hq
  have hs := s_X9_actOfSeat a1 a2 h hs e3
  refine AW_go okX9_layStep 9 ?_
  refine And.intro (by decide) ?_
  refine And.intro (by decide) ?_
  obtain ⟨y4, y5, y6, h7, j8, hf⟩ := am_b4_ok hf
  have hs0 := hs
  have hs : am_stat h7 := by
    have hs := hs0
    by_cases c9 : (Int32.ofInt 100) ≤ r1
    · rw [if_pos c9] at j8
      obtain ⟨r10, h11, e12, j8⟩ := am_b2_ok j8
      have hs := s_X9_placeOf n (((Int32.ofInt 3) * ((r1 - r1 / (Int32.ofInt 100) * (Int32.ofInt 100)) / (Int32.ofInt 10))) + a1) (r1 - r1 / (Int32.ofInt 10) * (Int32.ofInt 10)) h2 hs e12
      obtain ⟨y13, j14, j8⟩ := am_bnd j8
      obtain ⟨b66, j8⟩ := am_bis j8
      obtain ⟨y67, j68, j8⟩ := am_bnd j8
      obtain ⟨rfl, rfl, rfl, rfl⟩ := am_i4 j8
      exact hs
    · rw [if_neg c9] at j8
      obtain ⟨b120, j8⟩ := am_bis j8
      obtain ⟨r121, h122, e123, j8⟩ := am_b2_ok j8
      have hs := s_X9_sizeOf (am_I h2 78 (Int32.toNatClampNeg (((Int32.ofInt 3) * a1) + ((r1 - r1 / (Int32.ofInt 100) * (Int32.ofInt 100)) / (Int32.ofInt 10))))) h2 hs e123
      obtain ⟨y124, j125, j8⟩ := am_bnd j8
      obtain ⟨y177, j178, j8⟩ := am_bnd j8
      obtain ⟨y230, j231, j8⟩ := am_bnd j8
      obtain ⟨rfl, rfl, rfl, rfl⟩ := am_i4 j8
      exact hs
  refine am_cut (P := AW mX9_layStep (rX9_layStep 0 0) (fun r h2 => r = none ∧ h2 = h') 137 [(0, .ref 51), (1, .int a1), (2, .int a2), (3, .int r1), (4, .int ((r1 - r1 / (Int32.ofInt 100) * (Int32.ofInt 100)) / (Int32.ofInt 10))), (5, .int y4), (6, .int y5), (7, .int y6)] [] h7 0 0) (fun hJ8 => ?_) ?_
  · have hs := hs0
    refine AW_go okX9_layStep 1 ?_
    refine And.intro (fun c9 => ?_) (fun c9 => ?_)
    · rw [if_pos c9] at j8
      refine AW_go okX9_layStep 11 ?_
      refine And.intro (by decide) ?_
      obtain ⟨r10, h11, e12, j8⟩ := am_b2_ok j8
      refine AW_callV (As := [.int (((Int32.ofInt 3) * ((r1 - r1 / (Int32.ofInt 100) * (Int32.ofInt 100)) / (Int32.ofInt 10))) + a1), .int (r1 - r1 / (Int32.ofInt 10) * (Int32.ofInt 10))]) (R' := rX9_placeOf 0 0) (T := TX9) (N := 58) (ci := 9) (okX9_layStep.1 105 _ _ rfl) lkX9_placeOf kX9_294 rfl (sK hs 51) rfl (Nat.le_of_ble_eq_true rfl) ⟨by decide, by decide⟩ ⟨(Nat.le_of_ble_eq_true rfl), (Nat.le_of_ble_eq_true rfl)⟩ (Nat.le_of_ble_eq_true rfl) (c_X9_placeOf n (((Int32.ofInt 3) * ((r1 - r1 / (Int32.ofInt 100) * (Int32.ofInt 100)) / (Int32.ofInt 10))) + a1) (r1 - r1 / (Int32.ofInt 10) * (Int32.ofInt 10)) h2 hs e12) (fun r h' hq => ?_)
      obtain ⟨rfl, hq⟩ := hq
      replace hq := hq.symm
      subst hq
      have hs := s_X9_placeOf n (((Int32.ofInt 3) * ((r1 - r1 / (Int32.ofInt 100) * (Int32.ofInt 100)) / (Int32.ofInt 10))) + a1) (r1 - r1 / (Int32.ofInt 10) * (Int32.ofInt 10)) h2 hs e12
      refine AW_go okX9_layStep 1 ?_
      obtain ⟨y13, j14, j8⟩ := am_bnd j8
      refine am_cut (P := AW mX9_layStep (rX9_layStep 0 0) (fun r h2 => r = none ∧ h2 = h') 117 [(0, .ref 51), (1, .int a1), (2, .int a2), (3, .int r1), (4, .int ((r1 - r1 / (Int32.ofInt 100) * (Int32.ofInt 100)) / (Int32.ofInt 10))), (7, .int (((Int32.ofInt 3) * ((r1 - r1 / (Int32.ofInt 100) * (Int32.ofInt 100)) / (Int32.ofInt 10))) + a1))] [.int y13] h11 0 0) (fun hJ14 => ?_) ?_
      · have hs := hs
        refine AW_go okX9_layStep 1 ?_
        refine And.intro (fun c15 => ?_) (fun c15 => ?_)
        · rw [if_pos c15] at j14
          refine AW_go okX9_layStep 1 ?_
          obtain rfl := am_i1 j14
          exact AW_pick [3, 4, 5, 2, 1, 0] rfl hJ14
        · rw [if_neg c15] at j14
          refine AW_go okX9_layStep 2 ?_
          obtain rfl := am_i1 j14
          exact AW_pick [3, 4, 5, 2, 1, 0] rfl hJ14
      obtain ⟨b66, j8⟩ := am_bis j8
      refine AW_go okX9_layStep 6 ?_
      refine And.intro (sK hs 51) (Exists.intro _ (And.intro (sA hs 51 10) ?_))
      refine Exists.intro 9 (And.intro (sK hs 59) (And.intro (am_vp_ok b66) ?_))
      obtain ⟨y67, j68, j8⟩ := am_bnd j8
      refine am_cut (P := AW mX9_layStep (rX9_layStep 0 0) (fun r h2 => r = none ∧ h2 = h') 135 [(0, .ref 51), (1, .int a1), (2, .int a2), (3, .int r1), (4, .int ((r1 - r1 / (Int32.ofInt 100) * (Int32.ofInt 100)) / (Int32.ofInt 10))), (5, .int y13), (7, .int (((Int32.ofInt 3) * ((r1 - r1 / (Int32.ofInt 100) * (Int32.ofInt 100)) / (Int32.ofInt 10))) + a1))] [.int y67] h11 0 0) (fun hJ68 => ?_) ?_
      · have hs := hs
        refine AW_go okX9_layStep 1 ?_
        refine And.intro (fun c69 => ?_) (fun c69 => ?_)
        · rw [if_neg c69] at j68
          refine AW_go okX9_layStep 1 ?_
          obtain rfl := am_i1 j68
          exact AW_pick [1, 2, 3, 4, 5, 0, 6] rfl hJ68
        · rw [if_pos c69] at j68
          refine AW_go okX9_layStep 2 ?_
          obtain rfl := am_i1 j68
          exact AW_pick [1, 2, 3, 4, 5, 0, 6] rfl hJ68
      refine AW_go okX9_layStep 1 ?_
      obtain ⟨rfl, rfl, rfl, rfl⟩ := am_i4 j8
      exact AW_pick [1, 2, 3, 4, 5, 6, 0, 7] rfl hJ8
    · rw [if_neg c9] at j8
      obtain ⟨b120, j8⟩ := am_bis j8
      refine AW_go okX9_layStep 10 ?_
      refine And.intro (sK hs 51) (Exists.intro _ (And.intro (sA hs 51 39) ?_))
      refine Exists.intro 9 (And.intro (sK hs 78) (And.intro (am_vp_ok b120) ?_))
      obtain ⟨r121, h122, e123, j8⟩ := am_b2_ok j8
      refine AW_callS (As := [.int (am_I h2 78 (Int32.toNatClampNeg (((Int32.ofInt 3) * a1) + ((r1 - r1 / (Int32.ofInt 100) * (Int32.ofInt 100)) / (Int32.ofInt 10)))))]) (R' := rX9_sizeOf 0 0) (okX9_layStep.1 37 _ _ rfl) lkX9_sizeOf (Or.inl kX9_270) rfl (Nat.le_of_ble_eq_true rfl) ⟨by decide, by decide⟩ ⟨(Nat.le_of_ble_eq_true rfl), (Nat.le_of_ble_eq_true rfl)⟩ (Nat.le_of_ble_eq_true rfl) (c_X9_sizeOf (am_I h2 78 (Int32.toNatClampNeg (((Int32.ofInt 3) * a1) + ((r1 - r1 / (Int32.ofInt 100) * (Int32.ofInt 100)) / (Int32.ofInt 10))))) h2 hs e123) (fun r h' hq => ?_)
      obtain ⟨rfl, hq⟩ := hq
      replace hq := hq.symm
      subst hq
      have hs := s_X9_sizeOf (am_I h2 78 (Int32.toNatClampNeg (((Int32.ofInt 3) * a1) + ((r1 - r1 / (Int32.ofInt 100) * (Int32.ofInt 100)) / (Int32.ofInt 10))))) h2 hs e123
      refine AW_go okX9_layStep 5 ?_
      refine And.intro (sK hs 51) (Exists.intro _ (And.intro (sA hs 51 10) ?_))
      refine Exists.intro 9 (And.intro (sK hs 59) (And.intro (am_vp_ok b120) ?_))
      obtain ⟨y124, j125, j8⟩ := am_bnd j8
      refine am_cut (P := AW mX9_layStep (rX9_layStep 0 0) (fun r h2 => r = none ∧ h2 = h') 59 [(0, .ref 51), (1, .int a1), (2, .int a2), (3, .int r1), (4, .int ((r1 - r1 / (Int32.ofInt 100) * (Int32.ofInt 100)) / (Int32.ofInt 10))), (7, .int (((Int32.ofInt 3) * a1) + ((r1 - r1 / (Int32.ofInt 100) * (Int32.ofInt 100)) / (Int32.ofInt 10))))] [.int y124, .int r121] h122 0 0) (fun hJ125 => ?_) ?_
      · have hs := hs
        refine AW_go okX9_layStep 1 ?_
        refine And.intro (fun c126 => ?_) (fun c126 => ?_)
        · rw [if_neg c126] at j125
          refine AW_go okX9_layStep 2 ?_
          refine And.intro (sK hs 51) ?_
          obtain rfl := am_i1 j125
          exact AW_pick [3, 4, 5, 2, 1, 0] rfl hJ125
        · rw [if_pos c126] at j125
          refine AW_go okX9_layStep 2 ?_
          obtain rfl := am_i1 j125
          exact AW_pick [3, 4, 5, 2, 1, 0] rfl hJ125
      obtain ⟨y177, j178, j8⟩ := am_bnd j8
      refine am_cut (P := AW mX9_layStep (rX9_layStep 0 0) (fun r h2 => r = none ∧ h2 = h') 67 [(0, .ref 51), (1, .int a1), (2, .int a2), (3, .int r1), (4, .int ((r1 - r1 / (Int32.ofInt 100) * (Int32.ofInt 100)) / (Int32.ofInt 10))), (7, .int (((Int32.ofInt 3) * a1) + ((r1 - r1 / (Int32.ofInt 100) * (Int32.ofInt 100)) / (Int32.ofInt 10))))] [.int y177] h122 0 0) (fun hJ178 => ?_) ?_
      · have hs := hs
        refine AW_go okX9_layStep 1 ?_
        refine And.intro (fun c179 => ?_) (fun c179 => ?_)
        · rw [if_pos c179] at j178
          refine AW_go okX9_layStep 1 ?_
          obtain rfl := am_i1 j178
          exact AW_pick [0, 1, 2, 3, 4, 5] rfl hJ178
        · rw [if_neg c179] at j178
          refine AW_go okX9_layStep 2 ?_
          obtain rfl := am_i1 j178
          exact AW_pick [0, 1, 2, 3, 4, 5] rfl hJ178
      refine AW_go okX9_layStep 6 ?_
      refine And.intro (sK hs 51) (Exists.intro _ (And.intro (sA hs 51 10) ?_))
      refine Exists.intro 9 (And.intro (sK hs 59) (And.intro (am_vp_ok b120) ?_))
      obtain ⟨y230, j231, j8⟩ := am_bnd j8
      refine am_cut (P := AW mX9_layStep (rX9_layStep 0 0) (fun r h2 => r = none ∧ h2 = h') 85 [(0, .ref 51), (1, .int a1), (2, .int a2), (3, .int r1), (4, .int ((r1 - r1 / (Int32.ofInt 100) * (Int32.ofInt 100)) / (Int32.ofInt 10))), (5, .int y177), (7, .int (((Int32.ofInt 3) * a1) + ((r1 - r1 / (Int32.ofInt 100) * (Int32.ofInt 100)) / (Int32.ofInt 10))))] [.int y230] h122 0 0) (fun hJ231 => ?_) ?_
      · have hs := hs
        refine AW_go okX9_layStep 1 ?_
        refine And.intro (fun c232 => ?_) (fun c232 => ?_)
        · rw [if_neg c232] at j231
          refine AW_go okX9_layStep 1 ?_
          obtain rfl := am_i1 j231
          exact AW_pick [1, 2, 3, 4, 5, 0, 6] rfl hJ231
        · rw [if_pos c232] at j231
          refine AW_go okX9_layStep 2 ?_
          obtain rfl := am_i1 j231
          exact AW_pick [1, 2, 3, 4, 5, 0, 6] rfl hJ231
      refine AW_go okX9_layStep 2 ?_
      obtain ⟨rfl, rfl, rfl, rfl⟩ := am_i4 j8
      exact AW_pick [1, 2, 3, 4, 5, 6, 0, 7] rfl hJ8
  refine AW_go okX9_layStep 1 ?_
  obtain ⟨h333, j334, hf⟩ := am_bnd hf
  have hs0 := hs
  have hs : am_stat h333 := by
    have hs := hs0
    by_cases c335 : y4 = 0
    · rw [if_pos c335] at j334
      obtain rfl := am_i1 j334
      exact hs
    · rw [if_neg c335] at j334
      obtain ⟨b336, j334⟩ := am_bis j334
      obtain rfl := am_i1 j334
      exact hs
  refine am_cut (P := AW mX9_layStep (rX9_layStep 0 0) (fun r h2 => r = none ∧ h2 = h') 167 [(0, .ref 51), (1, .int a1), (2, .int a2), (3, .int r1), (4, .int ((r1 - r1 / (Int32.ofInt 100) * (Int32.ofInt 100)) / (Int32.ofInt 10))), (5, .int y4), (6, .int y5), (7, .int y6)] [] h333 0 0) (fun hJ334 => ?_) ?_
  · have hs := hs0
    refine AW_go okX9_layStep 1 ?_
    refine And.intro (fun c335 => ?_) (fun c335 => ?_)
    · rw [if_pos c335] at j334
      obtain rfl := am_i1 j334
      exact AW_pick [0, 1, 2, 3, 4, 5, 6, 7] rfl hJ334
    · rw [if_neg c335] at j334
      obtain ⟨b336, j334⟩ := am_bis j334
      refine AW_go okX9_layStep 16 ?_
      refine And.intro (sK hs 51) (Exists.intro _ (And.intro (sA hs 51 43) ?_))
      refine And.intro (sK hs 51) ?_
      refine Exists.intro 96 (And.intro (sK hs 79) (And.intro (am_vp_ok b336) ?_))
      refine And.intro (sK hs 51) ?_
      refine And.intro (sK hs 51) ?_
      obtain rfl := am_i1 j334
      exact AW_pick [0, 1, 2, 3, 4, 5, 6, 7] rfl hJ334
  refine AW_go okX9_layStep 1 ?_
  obtain ⟨h387, j388, hf⟩ := am_bnd hf
  have hs0 := hs
  have hs : am_stat h387 := by
    have hs := hs0
    by_cases c389 : y4 = 0
    · rw [if_pos c389] at j388
      obtain rfl := am_i1 j388
      exact hs
    · rw [if_neg c389] at j388
      by_cases c390 : y5 = 0
      · rw [if_pos c390] at j388
        obtain rfl := am_i1 j388
        exact hs
      · rw [if_neg c390] at j388
        obtain ⟨b391, j388⟩ := am_bis j388
        obtain rfl := am_i1 j388
        exact hs
  refine am_cut (P := AW mX9_layStep (rX9_layStep 0 0) (fun r h2 => r = none ∧ h2 = h') 206 [(0, .ref 51), (1, .int a1), (2, .int a2), (3, .int r1), (4, .int ((r1 - r1 / (Int32.ofInt 100) * (Int32.ofInt 100)) / (Int32.ofInt 10))), (5, .int y4), (6, .int y5), (7, .int y6)] [] h387 0 0) (fun hJ388 => ?_) ?_
  · have hs := hs0
    refine AW_go okX9_layStep 1 ?_
    refine And.intro (fun c389 => ?_) (fun c389 => ?_)
    · rw [if_pos c389] at j388
      obtain rfl := am_i1 j388
      exact AW_pick [0, 1, 2, 3, 4, 5, 6, 7] rfl hJ388
    · rw [if_neg c389] at j388
      refine AW_go okX9_layStep 2 ?_
      refine And.intro (fun c390 => ?_) (fun c390 => ?_)
      · rw [if_pos c390] at j388
        obtain rfl := am_i1 j388
        exact AW_pick [0, 1, 2, 3, 4, 5, 6, 7] rfl hJ388
      · rw [if_neg c390] at j388
        obtain ⟨b391, j388⟩ := am_bis j388
        refine AW_go okX9_layStep 18 ?_
        refine And.intro (sK hs 51) (Exists.intro _ (And.intro (sA hs 51 43) ?_))
        refine And.intro (sK hs 51) ?_
        refine Exists.intro 96 (And.intro (sK hs 79) (And.intro (am_vp_ok b391) ?_))
        refine And.intro (sK hs 51) ?_
        refine And.intro (sK hs 51) ?_
        obtain rfl := am_i1 j388
        exact AW_pick [0, 1, 2, 3, 4, 5, 6, 7] rfl hJ388
  refine AW_go okX9_layStep 1 ?_
  obtain ⟨rfl, rfl⟩ := am_i2 hf
  exact And.intro ⟨(Nat.le_of_ble_eq_true rfl), (Nat.le_of_ble_eq_true rfl)⟩ (And.intro rfl ⟨rfl, rfl⟩)
def f_X9_doStep (n : Nat) (a1 : Int32) (h : am_H) : Option (Unit × am_H) := am_b2 (f_X9_actOfSeat ((a1 - a1 / (Int32.ofInt 1000) * (Int32.ofInt 1000)) / (Int32.ofInt 100)) (a1 - a1 / (Int32.ofInt 100) * (Int32.ofInt 100)) h) fun r1 h2 => (Option.bind ((if (Int32.ofInt 100) ≤ r1 then some h2 else (if (a1 / (Int32.ofInt 1000)) = 0 then bif am_vp (((Int32.ofInt 3) * ((a1 - a1 / (Int32.ofInt 1000) * (Int32.ofInt 1000)) / (Int32.ofInt 100))) + ((r1 - r1 / (Int32.ofInt 100) * (Int32.ofInt 100)) / (Int32.ofInt 10))) 9 then (am_b2 ((if (am_I h2 59 (Int32.toNatClampNeg (((Int32.ofInt 3) * ((a1 - a1 / (Int32.ofInt 1000) * (Int32.ofInt 1000)) / (Int32.ofInt 100))) + ((r1 - r1 / (Int32.ofInt 100) * (Int32.ofInt 100)) / (Int32.ofInt 10))))) = (Int32.ofInt 1) then am_b2 (f_X9_among n (am_I h2 78 (Int32.toNatClampNeg (((Int32.ofInt 3) * ((a1 - a1 / (Int32.ofInt 1000) * (Int32.ofInt 1000)) / (Int32.ofInt 100))) + ((r1 - r1 / (Int32.ofInt 100) * (Int32.ofInt 100)) / (Int32.ofInt 10))))) (r1 - r1 / (Int32.ofInt 10) * (Int32.ofInt 10)) h2) fun r16 h17 => (some (r16, h17)) else am_b2 (f_X9_behind (am_I h2 78 (Int32.toNatClampNeg (((Int32.ofInt 3) * ((a1 - a1 / (Int32.ofInt 1000) * (Int32.ofInt 1000)) / (Int32.ofInt 100))) + ((r1 - r1 / (Int32.ofInt 100) * (Int32.ofInt 100)) / (Int32.ofInt 10))))) (r1 - r1 / (Int32.ofInt 10) * (Int32.ofInt 10)) h2) fun r13 h14 => (some (r13, h14)))) fun y9 h10 => (some (am_sI h10 78 (Int32.toNatClampNeg (((Int32.ofInt 3) * ((a1 - a1 / (Int32.ofInt 1000) * (Int32.ofInt 1000)) / (Int32.ofInt 100))) + ((r1 - r1 / (Int32.ofInt 100) * (Int32.ofInt 100)) / (Int32.ofInt 10)))) y9))) else none else some h2))) fun h4 => (Option.bind ((if r1 < (Int32.ofInt 100) then some h4 else (if (a1 / (Int32.ofInt 1000)) = 0 then bif am_vp (((Int32.ofInt 3) * ((r1 - r1 / (Int32.ofInt 100) * (Int32.ofInt 100)) / (Int32.ofInt 10))) + ((a1 - a1 / (Int32.ofInt 1000) * (Int32.ofInt 1000)) / (Int32.ofInt 100))) 9 then (am_b2 (f_X9_placeOf n (((Int32.ofInt 3) * ((r1 - r1 / (Int32.ofInt 100) * (Int32.ofInt 100)) / (Int32.ofInt 10))) + ((a1 - a1 / (Int32.ofInt 1000) * (Int32.ofInt 1000)) / (Int32.ofInt 100))) (r1 - r1 / (Int32.ofInt 10) * (Int32.ofInt 10)) h4) fun r124 h125 => (am_b2 (f_X9_without n (am_I h4 78 (Int32.toNatClampNeg (((Int32.ofInt 3) * ((r1 - r1 / (Int32.ofInt 100) * (Int32.ofInt 100)) / (Int32.ofInt 10))) + ((a1 - a1 / (Int32.ofInt 1000) * (Int32.ofInt 1000)) / (Int32.ofInt 100))))) r124 h125) fun r127 h128 => (some (am_sI h128 78 (Int32.toNatClampNeg (((Int32.ofInt 3) * ((r1 - r1 / (Int32.ofInt 100) * (Int32.ofInt 100)) / (Int32.ofInt 10))) + ((a1 - a1 / (Int32.ofInt 1000) * (Int32.ofInt 1000)) / (Int32.ofInt 100)))) r127)))) else none else some h4))) fun h119 => (bif am_vp ((a1 - a1 / (Int32.ofInt 1000) * (Int32.ofInt 1000)) / (Int32.ofInt 100)) 3 then (some ((), (am_sI h119 77 (Int32.toNatClampNeg ((a1 - a1 / (Int32.ofInt 1000) * (Int32.ofInt 1000)) / (Int32.ofInt 100))) (a1 - a1 / (Int32.ofInt 100) * (Int32.ofInt 100))))) else none)))
set_option maxRecDepth 100000 in
theorem s_X9_doStep (n : Nat) (a1 : Int32) (h : am_H) (hs : am_stat h) {v : Unit} {h' : am_H} (hf : f_X9_doStep n a1 h = some (v, h')) : am_stat h' := by
  unfold f_X9_doStep at hf
  obtain ⟨r1, h2, e3, hf⟩ := am_b2_ok hf
  have hs := s_X9_actOfSeat ((a1 - a1 / (Int32.ofInt 1000) * (Int32.ofInt 1000)) / (Int32.ofInt 100)) (a1 - a1 / (Int32.ofInt 100) * (Int32.ofInt 100)) h hs e3
  obtain ⟨h4, j5, hf⟩ := am_bnd hf
  have hs0 := hs
  have hs : am_stat h4 := by
    have hs := hs0
    by_cases c6 : (Int32.ofInt 100) ≤ r1
    · rw [if_pos c6] at j5
      obtain rfl := am_i1 j5
      exact hs
    · rw [if_neg c6] at j5
      by_cases c7 : (a1 / (Int32.ofInt 1000)) = 0
      · rw [if_pos c7] at j5
        obtain ⟨b8, j5⟩ := am_bis j5
        obtain ⟨y9, h10, j11, j5⟩ := am_b2_ok j5
        have hs0 := hs
        have hs : am_stat h10 := by
          have hs := hs0
          by_cases c12 : (am_I h2 59 (Int32.toNatClampNeg (((Int32.ofInt 3) * ((a1 - a1 / (Int32.ofInt 1000) * (Int32.ofInt 1000)) / (Int32.ofInt 100))) + ((r1 - r1 / (Int32.ofInt 100) * (Int32.ofInt 100)) / (Int32.ofInt 10))))) = (Int32.ofInt 1)
          · rw [if_pos c12] at j11
            obtain ⟨r13, h14, e15, j11⟩ := am_b2_ok j11
            have hs := s_X9_among n (am_I h2 78 (Int32.toNatClampNeg (((Int32.ofInt 3) * ((a1 - a1 / (Int32.ofInt 1000) * (Int32.ofInt 1000)) / (Int32.ofInt 100))) + ((r1 - r1 / (Int32.ofInt 100) * (Int32.ofInt 100)) / (Int32.ofInt 10))))) (r1 - r1 / (Int32.ofInt 10) * (Int32.ofInt 10)) h2 hs e15
            obtain ⟨rfl, rfl⟩ := am_i2 j11
            exact hs
          · rw [if_neg c12] at j11
            obtain ⟨r16, h17, e18, j11⟩ := am_b2_ok j11
            have hs := s_X9_behind (am_I h2 78 (Int32.toNatClampNeg (((Int32.ofInt 3) * ((a1 - a1 / (Int32.ofInt 1000) * (Int32.ofInt 1000)) / (Int32.ofInt 100))) + ((r1 - r1 / (Int32.ofInt 100) * (Int32.ofInt 100)) / (Int32.ofInt 10))))) (r1 - r1 / (Int32.ofInt 10) * (Int32.ofInt 10)) h2 hs e18
            obtain ⟨rfl, rfl⟩ := am_i2 j11
            exact hs
        obtain rfl := am_i1 j5
        exact hs
      · rw [if_neg c7] at j5
        obtain rfl := am_i1 j5
        exact hs
  obtain ⟨h119, j120, hf⟩ := am_bnd hf
  have hs0 := hs
  have hs : am_stat h119 := by
    have hs := hs0
    by_cases c121 : r1 < (Int32.ofInt 100)
    · rw [if_pos c121] at j120
      obtain rfl := am_i1 j120
      exact hs
    · rw [if_neg c121] at j120
      by_cases c122 : (a1 / (Int32.ofInt 1000)) = 0
      · rw [if_pos c122] at j120
        obtain ⟨b123, j120⟩ := am_bis j120
        obtain ⟨r124, h125, e126, j120⟩ := am_b2_ok j120
        have hs := s_X9_placeOf n (((Int32.ofInt 3) * ((r1 - r1 / (Int32.ofInt 100) * (Int32.ofInt 100)) / (Int32.ofInt 10))) + ((a1 - a1 / (Int32.ofInt 1000) * (Int32.ofInt 1000)) / (Int32.ofInt 100))) (r1 - r1 / (Int32.ofInt 10) * (Int32.ofInt 10)) h4 hs e126
        obtain ⟨r127, h128, e129, j120⟩ := am_b2_ok j120
        have hs := s_X9_without n (am_I h4 78 (Int32.toNatClampNeg (((Int32.ofInt 3) * ((r1 - r1 / (Int32.ofInt 100) * (Int32.ofInt 100)) / (Int32.ofInt 10))) + ((a1 - a1 / (Int32.ofInt 1000) * (Int32.ofInt 1000)) / (Int32.ofInt 100))))) r124 h125 hs e129
        obtain rfl := am_i1 j120
        exact hs
      · rw [if_neg c122] at j120
        obtain rfl := am_i1 j120
        exact hs
  obtain ⟨b180, hf⟩ := am_bis hf
  obtain ⟨rfl, rfl⟩ := am_i2 hf
  exact hs
set_option maxRecDepth 100000 in
theorem c_X9_doStep (n : Nat) (a1 : Int32) (h : am_H) (hs : am_stat h) {v : Unit} {h' : am_H} (hf : f_X9_doStep n a1 h = some (v, h')) : AMet mX9_doStep (rX9_doStep 0 0) (fun r h2 => r = none ∧ h2 = h') [.ref 51, .int a1] h := by
  unfold f_X9_doStep at hf
  refine AW_go okX9_doStep 17 ?_
  refine And.intro (by decide) ?_
  refine And.intro (by decide) ?_
  refine And.intro (by decide) ?_
  refine And.intro (by decide) ?_
  obtain ⟨r1, h2, e3, hf⟩ := am_b2_ok hf
  refine AW_callV (As := [.int ((a1 - a1 / (Int32.ofInt 1000) * (Int32.ofInt 1000)) / (Int32.ofInt 100)), .int (a1 - a1 / (Int32.ofInt 100) * (Int32.ofInt 100))]) (R' := rX9_actOfSeat 0 0) (T := TX9) (N := 58) (ci := 9) (okX9_doStep.1 25 _ _ rfl) lkX9_actOfSeat kX9_291 rfl (sK hs 51) rfl (Nat.le_of_ble_eq_true rfl) ⟨by decide, by decide⟩ ⟨(Nat.le_of_ble_eq_true rfl), (Nat.le_of_ble_eq_true rfl)⟩ (Nat.le_of_ble_eq_true rfl) (c_X9_actOfSeat ((a1 - a1 / (Int32.ofInt 1000) * (Int32.ofInt 1000)) / (Int32.ofInt 100)) (a1 - a1 / (Int32.ofInt 100) * (Int32.ofInt 100)) h hs e3) (fun r h' hq => ?_)
  obtain ⟨rfl, hq⟩ := hq
  replace hq := hq.symm
  subst hq
  have hs := s_X9_actOfSeat ((a1 - a1 / (Int32.ofInt 1000) * (Int32.ofInt 1000)) / (Int32.ofInt 100)) (a1 - a1 / (Int32.ofInt 100) * (Int32.ofInt 100)) h hs e3
  refine AW_go okX9_doStep 9 ?_
  refine And.intro (by decide) ?_
  refine And.intro (by decide) ?_
  obtain ⟨h4, j5, hf⟩ := am_bnd hf
  have hs0 := hs
  have hs : am_stat h4 := by
    have hs := hs0
    by_cases c6 : (Int32.ofInt 100) ≤ r1
    · rw [if_pos c6] at j5
      obtain rfl := am_i1 j5
      exact hs
    · rw [if_neg c6] at j5
      by_cases c7 : (a1 / (Int32.ofInt 1000)) = 0
      · rw [if_pos c7] at j5
        obtain ⟨b8, j5⟩ := am_bis j5
        obtain ⟨y9, h10, j11, j5⟩ := am_b2_ok j5
        have hs0 := hs
        have hs : am_stat h10 := by
          have hs := hs0
          by_cases c12 : (am_I h2 59 (Int32.toNatClampNeg (((Int32.ofInt 3) * ((a1 - a1 / (Int32.ofInt 1000) * (Int32.ofInt 1000)) / (Int32.ofInt 100))) + ((r1 - r1 / (Int32.ofInt 100) * (Int32.ofInt 100)) / (Int32.ofInt 10))))) = (Int32.ofInt 1)
          · rw [if_pos c12] at j11
            obtain ⟨r13, h14, e15, j11⟩ := am_b2_ok j11
            have hs := s_X9_among n (am_I h2 78 (Int32.toNatClampNeg (((Int32.ofInt 3) * ((a1 - a1 / (Int32.ofInt 1000) * (Int32.ofInt 1000)) / (Int32.ofInt 100))) + ((r1 - r1 / (Int32.ofInt 100) * (Int32.ofInt 100)) / (Int32.ofInt 10))))) (r1 - r1 / (Int32.ofInt 10) * (Int32.ofInt 10)) h2 hs e15
            obtain ⟨rfl, rfl⟩ := am_i2 j11
            exact hs
          · rw [if_neg c12] at j11
            obtain ⟨r16, h17, e18, j11⟩ := am_b2_ok j11
            have hs := s_X9_behind (am_I h2 78 (Int32.toNatClampNeg (((Int32.ofInt 3) * ((a1 - a1 / (Int32.ofInt 1000) * (Int32.ofInt 1000)) / (Int32.ofInt 100))) + ((r1 - r1 / (Int32.ofInt 100) * (Int32.ofInt 100)) / (Int32.ofInt 10))))) (r1 - r1 / (Int32.ofInt 10) * (Int32.ofInt 10)) h2 hs e18
            obtain ⟨rfl, rfl⟩ := am_i2 j11
            exact hs
        obtain rfl := am_i1 j5
        exact hs
      · rw [if_neg c7] at j5
        obtain rfl := am_i1 j5
        exact hs
  refine am_cut (P := AW mX9_doStep (rX9_doStep 0 0) (fun r h2 => r = none ∧ h2 = h') 110 [(0, .ref 51), (1, .int a1), (2, .int (a1 / (Int32.ofInt 1000))), (3, .int ((a1 - a1 / (Int32.ofInt 1000) * (Int32.ofInt 1000)) / (Int32.ofInt 100))), (4, .int (a1 - a1 / (Int32.ofInt 100) * (Int32.ofInt 100))), (5, .int r1), (6, .int ((r1 - r1 / (Int32.ofInt 100) * (Int32.ofInt 100)) / (Int32.ofInt 10)))] [] h4 0 0) (fun hJ5 => ?_) ?_
  · have hs := hs0
    refine AW_go okX9_doStep 1 ?_
    refine And.intro (fun c6 => ?_) (fun c6 => ?_)
    · rw [if_pos c6] at j5
      obtain rfl := am_i1 j5
      exact AW_pick [5, 6, 4, 3, 2, 1, 0] rfl hJ5
    · rw [if_neg c6] at j5
      refine AW_go okX9_doStep 2 ?_
      refine And.intro (fun c7 => ?_) (fun c7 => ?_)
      · rw [if_neg c7] at j5
        obtain rfl := am_i1 j5
        exact AW_pick [5, 6, 4, 3, 2, 1, 0] rfl hJ5
      · rw [if_pos c7] at j5
        obtain ⟨b8, j5⟩ := am_bis j5
        refine AW_go okX9_doStep 14 ?_
        refine And.intro (sK hs 51) (Exists.intro _ (And.intro (sA hs 51 39) ?_))
        refine And.intro (sK hs 51) (Exists.intro _ (And.intro (sA hs 51 10) ?_))
        refine Exists.intro 9 (And.intro (sK hs 59) (And.intro (am_vp_ok b8) ?_))
        obtain ⟨y9, h10, j11, j5⟩ := am_b2_ok j5
        have hs0 := hs
        have hs : am_stat h10 := by
          have hs := hs0
          by_cases c12 : (am_I h2 59 (Int32.toNatClampNeg (((Int32.ofInt 3) * ((a1 - a1 / (Int32.ofInt 1000) * (Int32.ofInt 1000)) / (Int32.ofInt 100))) + ((r1 - r1 / (Int32.ofInt 100) * (Int32.ofInt 100)) / (Int32.ofInt 10))))) = (Int32.ofInt 1)
          · rw [if_pos c12] at j11
            obtain ⟨r13, h14, e15, j11⟩ := am_b2_ok j11
            have hs := s_X9_among n (am_I h2 78 (Int32.toNatClampNeg (((Int32.ofInt 3) * ((a1 - a1 / (Int32.ofInt 1000) * (Int32.ofInt 1000)) / (Int32.ofInt 100))) + ((r1 - r1 / (Int32.ofInt 100) * (Int32.ofInt 100)) / (Int32.ofInt 10))))) (r1 - r1 / (Int32.ofInt 10) * (Int32.ofInt 10)) h2 hs e15
            obtain ⟨rfl, rfl⟩ := am_i2 j11
            exact hs
          · rw [if_neg c12] at j11
            obtain ⟨r16, h17, e18, j11⟩ := am_b2_ok j11
            have hs := s_X9_behind (am_I h2 78 (Int32.toNatClampNeg (((Int32.ofInt 3) * ((a1 - a1 / (Int32.ofInt 1000) * (Int32.ofInt 1000)) / (Int32.ofInt 100))) + ((r1 - r1 / (Int32.ofInt 100) * (Int32.ofInt 100)) / (Int32.ofInt 10))))) (r1 - r1 / (Int32.ofInt 10) * (Int32.ofInt 10)) h2 hs e18
            obtain ⟨rfl, rfl⟩ := am_i2 j11
            exact hs
        refine am_cut (P := AW mX9_doStep (rX9_doStep 0 0) (fun r h2 => r = none ∧ h2 = h') 109 [(0, .ref 51), (1, .int a1), (2, .int (a1 / (Int32.ofInt 1000))), (3, .int ((a1 - a1 / (Int32.ofInt 1000) * (Int32.ofInt 1000)) / (Int32.ofInt 100))), (4, .int (a1 - a1 / (Int32.ofInt 100) * (Int32.ofInt 100))), (5, .int r1), (6, .int ((r1 - r1 / (Int32.ofInt 100) * (Int32.ofInt 100)) / (Int32.ofInt 10))), (7, .int (((Int32.ofInt 3) * ((a1 - a1 / (Int32.ofInt 1000) * (Int32.ofInt 1000)) / (Int32.ofInt 100))) + ((r1 - r1 / (Int32.ofInt 100) * (Int32.ofInt 100)) / (Int32.ofInt 10))))] [.int y9, .int (((Int32.ofInt 3) * ((a1 - a1 / (Int32.ofInt 1000) * (Int32.ofInt 1000)) / (Int32.ofInt 100))) + ((r1 - r1 / (Int32.ofInt 100) * (Int32.ofInt 100)) / (Int32.ofInt 10))), .ref 78] h10 0 0) (fun hJ11 => ?_) ?_
        · have hs := hs0
          refine AW_go okX9_doStep 1 ?_
          refine And.intro (fun c12 => ?_) (fun c12 => ?_)
          · rw [if_neg c12] at j11
            refine AW_go okX9_doStep 7 ?_
            refine And.intro (sK hs 51) (Exists.intro _ (And.intro (sA hs 51 39) ?_))
            refine Exists.intro 9 (And.intro (sK hs 78) (And.intro (am_vp_ok b8) ?_))
            refine And.intro (by decide) ?_
            obtain ⟨r13, h14, e15, j11⟩ := am_b2_ok j11
            refine AW_callS (As := [.int (am_I h2 78 (Int32.toNatClampNeg (((Int32.ofInt 3) * ((a1 - a1 / (Int32.ofInt 1000) * (Int32.ofInt 1000)) / (Int32.ofInt 100))) + ((r1 - r1 / (Int32.ofInt 100) * (Int32.ofInt 100)) / (Int32.ofInt 10))))), .int (r1 - r1 / (Int32.ofInt 10) * (Int32.ofInt 10))]) (R' := rX9_behind 0 0) (okX9_doStep.1 106 _ _ rfl) lkX9_behind (Or.inl kX9_300) rfl (Nat.le_of_ble_eq_true rfl) ⟨by decide, by decide⟩ ⟨(Nat.le_of_ble_eq_true rfl), (Nat.le_of_ble_eq_true rfl)⟩ (Nat.le_of_ble_eq_true rfl) (c_X9_behind (am_I h2 78 (Int32.toNatClampNeg (((Int32.ofInt 3) * ((a1 - a1 / (Int32.ofInt 1000) * (Int32.ofInt 1000)) / (Int32.ofInt 100))) + ((r1 - r1 / (Int32.ofInt 100) * (Int32.ofInt 100)) / (Int32.ofInt 10))))) (r1 - r1 / (Int32.ofInt 10) * (Int32.ofInt 10)) h2 hs e15) (fun r h' hq => ?_)
            obtain ⟨rfl, hq⟩ := hq
            replace hq := hq.symm
            subst hq
            have hs := s_X9_behind (am_I h2 78 (Int32.toNatClampNeg (((Int32.ofInt 3) * ((a1 - a1 / (Int32.ofInt 1000) * (Int32.ofInt 1000)) / (Int32.ofInt 100))) + ((r1 - r1 / (Int32.ofInt 100) * (Int32.ofInt 100)) / (Int32.ofInt 10))))) (r1 - r1 / (Int32.ofInt 10) * (Int32.ofInt 10)) h2 hs e15
            obtain ⟨rfl, rfl⟩ := am_i2 j11
            exact AW_pick [6, 7, 5, 4, 3, 2, 1, 0] rfl hJ11
          · rw [if_pos c12] at j11
            refine AW_go okX9_doStep 7 ?_
            refine And.intro (sK hs 51) (Exists.intro _ (And.intro (sA hs 51 39) ?_))
            refine Exists.intro 9 (And.intro (sK hs 78) (And.intro (am_vp_ok b8) ?_))
            refine And.intro (by decide) ?_
            obtain ⟨r16, h17, e18, j11⟩ := am_b2_ok j11
            refine AW_callS (As := [.int (am_I h2 78 (Int32.toNatClampNeg (((Int32.ofInt 3) * ((a1 - a1 / (Int32.ofInt 1000) * (Int32.ofInt 1000)) / (Int32.ofInt 100))) + ((r1 - r1 / (Int32.ofInt 100) * (Int32.ofInt 100)) / (Int32.ofInt 10))))), .int (r1 - r1 / (Int32.ofInt 10) * (Int32.ofInt 10))]) (R' := rX9_among 0 0) (okX9_doStep.1 88 _ _ rfl) lkX9_among (Or.inl kX9_297) rfl (Nat.le_of_ble_eq_true rfl) ⟨by decide, by decide⟩ ⟨(Nat.le_of_ble_eq_true rfl), (Nat.le_of_ble_eq_true rfl)⟩ (Nat.le_of_ble_eq_true rfl) (c_X9_among n (am_I h2 78 (Int32.toNatClampNeg (((Int32.ofInt 3) * ((a1 - a1 / (Int32.ofInt 1000) * (Int32.ofInt 1000)) / (Int32.ofInt 100))) + ((r1 - r1 / (Int32.ofInt 100) * (Int32.ofInt 100)) / (Int32.ofInt 10))))) (r1 - r1 / (Int32.ofInt 10) * (Int32.ofInt 10)) h2 hs e18) (fun r h' hq => ?_)
            obtain ⟨rfl, hq⟩ := hq
            replace hq := hq.symm
            subst hq
            have hs := s_X9_among n (am_I h2 78 (Int32.toNatClampNeg (((Int32.ofInt 3) * ((a1 - a1 / (Int32.ofInt 1000) * (Int32.ofInt 1000)) / (Int32.ofInt 100))) + ((r1 - r1 / (Int32.ofInt 100) * (Int32.ofInt 100)) / (Int32.ofInt 10))))) (r1 - r1 / (Int32.ofInt 10) * (Int32.ofInt 10)) h2 hs e18
            refine AW_go okX9_doStep 1 ?_
            obtain ⟨rfl, rfl⟩ := am_i2 j11
            exact AW_pick [6, 7, 5, 4, 3, 2, 1, 0] rfl hJ11
        refine AW_go okX9_doStep 1 ?_
        refine Exists.intro 9 (And.intro (sK hs 78) (And.intro (am_vp_ok b8) ?_))
        obtain rfl := am_i1 j5
        exact AW_pick [0, 1, 2, 3, 4, 5, 6] rfl hJ5
  refine AW_go okX9_doStep 2 ?_
  obtain ⟨h119, j120, hf⟩ := am_bnd hf
  have hs0 := hs
  have hs : am_stat h119 := by
    have hs := hs0
    by_cases c121 : r1 < (Int32.ofInt 100)
    · rw [if_pos c121] at j120
      obtain rfl := am_i1 j120
      exact hs
    · rw [if_neg c121] at j120
      by_cases c122 : (a1 / (Int32.ofInt 1000)) = 0
      · rw [if_pos c122] at j120
        obtain ⟨b123, j120⟩ := am_bis j120
        obtain ⟨r124, h125, e126, j120⟩ := am_b2_ok j120
        have hs := s_X9_placeOf n (((Int32.ofInt 3) * ((r1 - r1 / (Int32.ofInt 100) * (Int32.ofInt 100)) / (Int32.ofInt 10))) + ((a1 - a1 / (Int32.ofInt 1000) * (Int32.ofInt 1000)) / (Int32.ofInt 100))) (r1 - r1 / (Int32.ofInt 10) * (Int32.ofInt 10)) h4 hs e126
        obtain ⟨r127, h128, e129, j120⟩ := am_b2_ok j120
        have hs := s_X9_without n (am_I h4 78 (Int32.toNatClampNeg (((Int32.ofInt 3) * ((r1 - r1 / (Int32.ofInt 100) * (Int32.ofInt 100)) / (Int32.ofInt 10))) + ((a1 - a1 / (Int32.ofInt 1000) * (Int32.ofInt 1000)) / (Int32.ofInt 100))))) r124 h125 hs e129
        obtain rfl := am_i1 j120
        exact hs
      · rw [if_neg c122] at j120
        obtain rfl := am_i1 j120
        exact hs
  refine am_cut (P := AW mX9_doStep (rX9_doStep 0 0) (fun r h2 => r = none ∧ h2 = h') 157 [(0, .ref 51), (1, .int a1), (2, .int (a1 / (Int32.ofInt 1000))), (3, .int ((a1 - a1 / (Int32.ofInt 1000) * (Int32.ofInt 1000)) / (Int32.ofInt 100))), (4, .int (a1 - a1 / (Int32.ofInt 100) * (Int32.ofInt 100))), (5, .int r1), (6, .int ((r1 - r1 / (Int32.ofInt 100) * (Int32.ofInt 100)) / (Int32.ofInt 10)))] [] h119 0 0) (fun hJ120 => ?_) ?_
  · have hs := hs0
    refine AW_go okX9_doStep 1 ?_
    refine And.intro (fun c121 => ?_) (fun c121 => ?_)
    · rw [if_pos c121] at j120
      obtain rfl := am_i1 j120
      exact AW_pick [0, 1, 2, 3, 4, 5, 6] rfl hJ120
    · rw [if_neg c121] at j120
      refine AW_go okX9_doStep 2 ?_
      refine And.intro (fun c122 => ?_) (fun c122 => ?_)
      · rw [if_neg c122] at j120
        obtain rfl := am_i1 j120
        exact AW_pick [0, 1, 2, 3, 4, 5, 6] rfl hJ120
      · rw [if_pos c122] at j120
        obtain ⟨b123, j120⟩ := am_bis j120
        refine AW_go okX9_doStep 18 ?_
        refine And.intro (sK hs 51) (Exists.intro _ (And.intro (sA hs 51 39) ?_))
        refine And.intro (sK hs 51) (Exists.intro _ (And.intro (sA hs 51 39) ?_))
        refine Exists.intro 9 (And.intro (sK hs 78) (And.intro (am_vp_ok b123) ?_))
        refine And.intro (by decide) ?_
        obtain ⟨r124, h125, e126, j120⟩ := am_b2_ok j120
        refine AW_callV (As := [.int (((Int32.ofInt 3) * ((r1 - r1 / (Int32.ofInt 100) * (Int32.ofInt 100)) / (Int32.ofInt 10))) + ((a1 - a1 / (Int32.ofInt 1000) * (Int32.ofInt 1000)) / (Int32.ofInt 100))), .int (r1 - r1 / (Int32.ofInt 10) * (Int32.ofInt 10))]) (R' := rX9_placeOf 0 0) (T := TX9) (N := 58) (ci := 9) (okX9_doStep.1 150 _ _ rfl) lkX9_placeOf kX9_294 rfl (sK hs 51) rfl (Nat.le_of_ble_eq_true rfl) ⟨by decide, by decide⟩ ⟨(Nat.le_of_ble_eq_true rfl), (Nat.le_of_ble_eq_true rfl)⟩ (Nat.le_of_ble_eq_true rfl) (c_X9_placeOf n (((Int32.ofInt 3) * ((r1 - r1 / (Int32.ofInt 100) * (Int32.ofInt 100)) / (Int32.ofInt 10))) + ((a1 - a1 / (Int32.ofInt 1000) * (Int32.ofInt 1000)) / (Int32.ofInt 100))) (r1 - r1 / (Int32.ofInt 10) * (Int32.ofInt 10)) h4 hs e126) (fun r h' hq => ?_)
        obtain ⟨rfl, hq⟩ := hq
        replace hq := hq.symm
        subst hq
        have hs := s_X9_placeOf n (((Int32.ofInt 3) * ((r1 - r1 / (Int32.ofInt 100) * (Int32.ofInt 100)) / (Int32.ofInt 10))) + ((a1 - a1 / (Int32.ofInt 1000) * (Int32.ofInt 1000)) / (Int32.ofInt 100))) (r1 - r1 / (Int32.ofInt 10) * (Int32.ofInt 10)) h4 hs e126
        obtain ⟨r127, h128, e129, j120⟩ := am_b2_ok j120
        refine AW_callS (As := [.int (am_I h4 78 (Int32.toNatClampNeg (((Int32.ofInt 3) * ((r1 - r1 / (Int32.ofInt 100) * (Int32.ofInt 100)) / (Int32.ofInt 10))) + ((a1 - a1 / (Int32.ofInt 1000) * (Int32.ofInt 1000)) / (Int32.ofInt 100))))), .int r124]) (R' := rX9_without 0 0) (okX9_doStep.1 153 _ _ rfl) lkX9_without (Or.inl kX9_303) rfl (Nat.le_of_ble_eq_true rfl) ⟨by decide, by decide⟩ ⟨(Nat.le_of_ble_eq_true rfl), (Nat.le_of_ble_eq_true rfl)⟩ (Nat.le_of_ble_eq_true rfl) (c_X9_without n (am_I h4 78 (Int32.toNatClampNeg (((Int32.ofInt 3) * ((r1 - r1 / (Int32.ofInt 100) * (Int32.ofInt 100)) / (Int32.ofInt 10))) + ((a1 - a1 / (Int32.ofInt 1000) * (Int32.ofInt 1000)) / (Int32.ofInt 100))))) r124 h125 hs e129) (fun r h' hq => ?_)
        obtain ⟨rfl, hq⟩ := hq
        replace hq := hq.symm
        subst hq
        have hs := s_X9_without n (am_I h4 78 (Int32.toNatClampNeg (((Int32.ofInt 3) * ((r1 - r1 / (Int32.ofInt 100) * (Int32.ofInt 100)) / (Int32.ofInt 10))) + ((a1 - a1 / (Int32.ofInt 1000) * (Int32.ofInt 1000)) / (Int32.ofInt 100))))) r124 h125 hs e129
        refine AW_go okX9_doStep 1 ?_
        refine Exists.intro 9 (And.intro (sK hs 78) (And.intro (am_vp_ok b123) ?_))
        obtain rfl := am_i1 j120
        exact AW_pick [1, 2, 3, 4, 5, 6, 7] rfl hJ120
  obtain ⟨b180, hf⟩ := am_bis hf
  refine AW_go okX9_doStep 6 ?_
  refine And.intro (sK hs 51) (Exists.intro _ (And.intro (sA hs 51 38) ?_))
  refine Exists.intro 3 (And.intro (sK hs 77) (And.intro (am_vp_ok b180) ?_))
  obtain ⟨rfl, rfl⟩ := am_i2 hf
  exact And.intro ⟨(Nat.le_of_ble_eq_true rfl), (Nat.le_of_ble_eq_true rfl)⟩ (And.intro rfl ⟨rfl, rfl⟩)
def f_X9_at (a1 : Int32) (h : am_H) : Option (Int32 × am_H) := am_b2 (f_X9_isOffice a1 h) fun r1 h2 => (Option.bind ((if r1 = 0 then some (Int32.ofInt (-101)) else bif am_vp a1 3 then ((if (am_I h2 58 (Int32.toNatClampNeg a1)) = (Int32.ofInt (-1)) then some (Int32.ofInt (-1)) else some (am_I h2 77 (Int32.toNatClampNeg a1)))) else none)) fun y4 => (some (y4, h2)))
set_option maxRecDepth 100000 in
theorem s_X9_at (a1 : Int32) (h : am_H) (hs : am_stat h) {v : Int32} {h' : am_H} (hf : f_X9_at a1 h = some (v, h')) : am_stat h' := by
  unfold f_X9_at at hf
  obtain ⟨r1, h2, e3, hf⟩ := am_b2_ok hf
  have hs := s_X9_isOffice a1 h hs e3
  obtain ⟨y4, j5, hf⟩ := am_bnd hf
  obtain ⟨rfl, rfl⟩ := am_i2 hf
  exact hs
set_option maxRecDepth 100000 in
theorem c_X9_at (a1 : Int32) (h : am_H) (hs : am_stat h) {v : Int32} {h' : am_H} (hf : f_X9_at a1 h = some (v, h')) : AMet mX9_at (rX9_at 0 0) (fun r h2 => r = some (.int v) ∧ h2 = h') [.ref 51, .int a1] h := by
  unfold f_X9_at at hf
  refine AW_go okX9_at 1 ?_
  obtain ⟨r1, h2, e3, hf⟩ := am_b2_ok hf
  refine AW_callS (As := [.int a1]) (R' := rX9_isOffice 0 0) (okX9_at.1 1 _ _ rfl) lkX9_isOffice (Or.inl kX9_200) rfl (Nat.le_of_ble_eq_true rfl) ⟨by decide, by decide⟩ ⟨(Nat.le_of_ble_eq_true rfl), (Nat.le_of_ble_eq_true rfl)⟩ (Nat.le_of_ble_eq_true rfl) (c_X9_isOffice a1 h hs e3) (fun r h' hq => ?_)
  obtain ⟨rfl, hq⟩ := hq
  replace hq := hq.symm
  subst hq
  have hs := s_X9_isOffice a1 h hs e3
  obtain ⟨y4, j5, hf⟩ := am_bnd hf
  refine am_cut (P := AW mX9_at (rX9_at 0 0) (fun r h2 => r = some (.int v) ∧ h2 = h') 32 [(0, .ref 51), (1, .int a1)] [.int y4] h2 0 0) (fun hJ5 => ?_) ?_
  · have hs := hs
    refine AW_go okX9_at 1 ?_
    refine And.intro (fun c6 => ?_) (fun c6 => ?_)
    · rw [if_neg c6] at j5
      obtain ⟨b7, j5⟩ := am_bis j5
      refine AW_go okX9_at 6 ?_
      refine And.intro (sK hs 51) (Exists.intro _ (And.intro (sA hs 51 9) ?_))
      refine Exists.intro 3 (And.intro (sK hs 58) (And.intro (am_vp_ok b7) ?_))
      refine And.intro (fun c8 => ?_) (fun c8 => ?_)
      · rw [if_neg c8] at j5
        refine AW_go okX9_at 4 ?_
        refine And.intro (sK hs 51) (Exists.intro _ (And.intro (sA hs 51 38) ?_))
        refine Exists.intro 3 (And.intro (sK hs 77) (And.intro (am_vp_ok b7) ?_))
        obtain rfl := am_i1 j5
        exact AW_pick [0, 1] rfl hJ5
      · rw [if_pos c8] at j5
        refine AW_go okX9_at 2 ?_
        obtain rfl := am_i1 j5
        exact AW_pick [0, 1] rfl hJ5
    · rw [if_pos c6] at j5
      refine AW_go okX9_at 2 ?_
      obtain rfl := am_i1 j5
      exact AW_pick [0, 1] rfl hJ5
  refine AW_go okX9_at 1 ?_
  obtain ⟨rfl, rfl⟩ := am_i2 hf
  exact And.intro ⟨(Nat.le_of_ble_eq_true rfl), (Nat.le_of_ble_eq_true rfl)⟩ (And.intro (Or.inl rfl) ⟨rfl, rfl⟩)
def f_X9_lies (a1 : Int32) (a2 : Int32) (a3 : Int32) (h : am_H) : Option (Int32 × am_H) := am_b2 (f_X9_isPost a1 a2 h) fun r1 h2 => ((if r1 = 0 then some ((Int32.ofInt (-101)), h2) else bif am_vp (((Int32.ofInt 3) * a1) + a2) 9 then (am_b2 (f_X9_sizeOf (am_I h2 78 (Int32.toNatClampNeg (((Int32.ofInt 3) * a1) + a2))) h2) fun r6 h7 => (am_b2 (f_X9_within a3 (Int32.ofInt 0) (r6 - (Int32.ofInt 1)) h7) fun r9 h10 => (am_b2 ((if r9 = 0 then some ((Int32.ofInt (-1)), h10) else am_b2 (f_X9_letterAt (am_I h2 78 (Int32.toNatClampNeg (((Int32.ofInt 3) * a1) + a2))) a3 h10) fun r16 h17 => (some ((r16 - (Int32.ofInt 1)), h17)))) fun y12 h13 => (some (y12, h13))))) else none))
set_option maxRecDepth 100000 in
theorem s_X9_lies (a1 : Int32) (a2 : Int32) (a3 : Int32) (h : am_H) (hs : am_stat h) {v : Int32} {h' : am_H} (hf : f_X9_lies a1 a2 a3 h = some (v, h')) : am_stat h' := by
  unfold f_X9_lies at hf
  obtain ⟨r1, h2, e3, hf⟩ := am_b2_ok hf
  have hs := s_X9_isPost a1 a2 h hs e3
  by_cases c4 : r1 = 0
  · rw [if_pos c4] at hf
    obtain ⟨rfl, rfl⟩ := am_i2 hf
    exact hs
  · rw [if_neg c4] at hf
    obtain ⟨b5, hf⟩ := am_bis hf
    obtain ⟨r6, h7, e8, hf⟩ := am_b2_ok hf
    have hs := s_X9_sizeOf (am_I h2 78 (Int32.toNatClampNeg (((Int32.ofInt 3) * a1) + a2))) h2 hs e8
    obtain ⟨r9, h10, e11, hf⟩ := am_b2_ok hf
    have hs := s_X9_within a3 (Int32.ofInt 0) (r6 - (Int32.ofInt 1)) h7 hs e11
    obtain ⟨y12, h13, j14, hf⟩ := am_b2_ok hf
    have hs0 := hs
    have hs : am_stat h13 := by
      have hs := hs0
      by_cases c15 : r9 = 0
      · rw [if_pos c15] at j14
        obtain ⟨rfl, rfl⟩ := am_i2 j14
        exact hs
      · rw [if_neg c15] at j14
        obtain ⟨r16, h17, e18, j14⟩ := am_b2_ok j14
        have hs := s_X9_letterAt (am_I h2 78 (Int32.toNatClampNeg (((Int32.ofInt 3) * a1) + a2))) a3 h10 hs e18
        obtain ⟨rfl, rfl⟩ := am_i2 j14
        exact hs
    obtain ⟨rfl, rfl⟩ := am_i2 hf
    exact hs
set_option maxRecDepth 100000 in
theorem c_X9_lies (a1 : Int32) (a2 : Int32) (a3 : Int32) (h : am_H) (hs : am_stat h) {v : Int32} {h' : am_H} (hf : f_X9_lies a1 a2 a3 h = some (v, h')) : AMet mX9_lies (rX9_lies 0 0) (fun r h2 => r = some (.int v) ∧ h2 = h') [.ref 51, .int a1, .int a2, .int a3] h := by
  unfold f_X9_lies at hf
  refine AW_go okX9_lies 2 ?_
  obtain ⟨r1, h2, e3, hf⟩ := am_b2_ok hf
  refine AW_callS (As := [.int a1, .int a2]) (R' := rX9_isPost 0 0) (okX9_lies.1 2 _ _ rfl) lkX9_isPost (Or.inl kX9_267) rfl (Nat.le_of_ble_eq_true rfl) ⟨by decide, by decide⟩ ⟨(Nat.le_of_ble_eq_true rfl), (Nat.le_of_ble_eq_true rfl)⟩ (Nat.le_of_ble_eq_true rfl) (c_X9_isPost a1 a2 h hs e3) (fun r h' hq => ?_)
  obtain ⟨rfl, hq⟩ := hq
  replace hq := hq.symm
  subst hq
  have hs := s_X9_isPost a1 a2 h hs e3
  refine AW_go okX9_lies 1 ?_
  refine And.intro (fun c4 => ?_) (fun c4 => ?_)
  · rw [if_neg c4] at hf
    obtain ⟨b5, hf⟩ := am_bis hf
    refine AW_go okX9_lies 12 ?_
    refine And.intro (sK hs 51) (Exists.intro _ (And.intro (sA hs 51 39) ?_))
    refine Exists.intro 9 (And.intro (sK hs 78) (And.intro (am_vp_ok b5) ?_))
    obtain ⟨r6, h7, e8, hf⟩ := am_b2_ok hf
    refine AW_callS (As := [.int (am_I h2 78 (Int32.toNatClampNeg (((Int32.ofInt 3) * a1) + a2)))]) (R' := rX9_sizeOf 0 0) (okX9_lies.1 27 _ _ rfl) lkX9_sizeOf (Or.inl kX9_270) rfl (Nat.le_of_ble_eq_true rfl) ⟨by decide, by decide⟩ ⟨(Nat.le_of_ble_eq_true rfl), (Nat.le_of_ble_eq_true rfl)⟩ (Nat.le_of_ble_eq_true rfl) (c_X9_sizeOf (am_I h2 78 (Int32.toNatClampNeg (((Int32.ofInt 3) * a1) + a2))) h2 hs e8) (fun r h' hq => ?_)
    obtain ⟨rfl, hq⟩ := hq
    replace hq := hq.symm
    subst hq
    have hs := s_X9_sizeOf (am_I h2 78 (Int32.toNatClampNeg (((Int32.ofInt 3) * a1) + a2))) h2 hs e8
    refine AW_go okX9_lies 2 ?_
    obtain ⟨r9, h10, e11, hf⟩ := am_b2_ok hf
    refine AW_callS (As := [.int a3, .int (Int32.ofInt 0), .int (r6 - (Int32.ofInt 1))]) (R' := rX9_within 0 0) (okX9_lies.1 32 _ _ rfl) lkX9_within (Or.inl kX9_134) rfl (Nat.le_of_ble_eq_true rfl) ⟨by decide, by decide⟩ ⟨(Nat.le_of_ble_eq_true rfl), (Nat.le_of_ble_eq_true rfl)⟩ (Nat.le_of_ble_eq_true rfl) (c_X9_within a3 (Int32.ofInt 0) (r6 - (Int32.ofInt 1)) h7 hs e11) (fun r h' hq => ?_)
    obtain ⟨rfl, hq⟩ := hq
    replace hq := hq.symm
    subst hq
    have hs := s_X9_within a3 (Int32.ofInt 0) (r6 - (Int32.ofInt 1)) h7 hs e11
    obtain ⟨y12, h13, j14, hf⟩ := am_b2_ok hf
    have hs0 := hs
    have hs : am_stat h13 := by
      have hs := hs0
      by_cases c15 : r9 = 0
      · rw [if_pos c15] at j14
        obtain ⟨rfl, rfl⟩ := am_i2 j14
        exact hs
      · rw [if_neg c15] at j14
        obtain ⟨r16, h17, e18, j14⟩ := am_b2_ok j14
        have hs := s_X9_letterAt (am_I h2 78 (Int32.toNatClampNeg (((Int32.ofInt 3) * a1) + a2))) a3 h10 hs e18
        obtain ⟨rfl, rfl⟩ := am_i2 j14
        exact hs
    refine am_cut (P := AW mX9_lies (rX9_lies 0 0) (fun r h2 => r = some (.int v) ∧ h2 = h') 50 [(0, .ref 51), (1, .int a1), (2, .int a2), (3, .int a3), (4, .int (am_I h2 78 (Int32.toNatClampNeg (((Int32.ofInt 3) * a1) + a2))))] [.int y12] h13 0 0) (fun hJ14 => ?_) ?_
    · have hs := hs0
      refine AW_go okX9_lies 1 ?_
      refine And.intro (fun c15 => ?_) (fun c15 => ?_)
      · rw [if_pos c15] at j14
        refine AW_go okX9_lies 1 ?_
        obtain ⟨rfl, rfl⟩ := am_i2 j14
        exact AW_pick [1, 2, 3, 4, 0] rfl hJ14
      · rw [if_neg c15] at j14
        refine AW_go okX9_lies 2 ?_
        obtain ⟨r16, h17, e18, j14⟩ := am_b2_ok j14
        refine AW_callS (As := [.int (am_I h2 78 (Int32.toNatClampNeg (((Int32.ofInt 3) * a1) + a2))), .int a3]) (R' := rX9_letterAt 0 0) (okX9_lies.1 41 _ _ rfl) lkX9_letterAt (Or.inl kX9_273) rfl (Nat.le_of_ble_eq_true rfl) ⟨by decide, by decide⟩ ⟨(Nat.le_of_ble_eq_true rfl), (Nat.le_of_ble_eq_true rfl)⟩ (Nat.le_of_ble_eq_true rfl) (c_X9_letterAt (am_I h2 78 (Int32.toNatClampNeg (((Int32.ofInt 3) * a1) + a2))) a3 h10 hs e18) (fun r h' hq => ?_)
        obtain ⟨rfl, hq⟩ := hq
        replace hq := hq.symm
        subst hq
        have hs := s_X9_letterAt (am_I h2 78 (Int32.toNatClampNeg (((Int32.ofInt 3) * a1) + a2))) a3 h10 hs e18
        refine AW_go okX9_lies 3 ?_
        obtain ⟨rfl, rfl⟩ := am_i2 j14
        exact AW_pick [1, 2, 3, 4, 0] rfl hJ14
    refine AW_go okX9_lies 1 ?_
    obtain ⟨rfl, rfl⟩ := am_i2 hf
    exact And.intro ⟨(Nat.le_of_ble_eq_true rfl), (Nat.le_of_ble_eq_true rfl)⟩ (And.intro (Or.inl rfl) ⟨rfl, rfl⟩)
  · rw [if_pos c4] at hf
    refine AW_go okX9_lies 2 ?_
    obtain ⟨rfl, rfl⟩ := am_i2 hf
    exact And.intro ⟨(Nat.le_of_ble_eq_true rfl), (Nat.le_of_ble_eq_true rfl)⟩ (And.intro (Or.inl rfl) ⟨rfl, rfl⟩)
