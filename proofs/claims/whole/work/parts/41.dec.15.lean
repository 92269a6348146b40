def f_X5_startsAct (a0 : Int32) (a1 : Int32) (h : am_H) : Option (Int32 × am_H) := am_b2 ((if a1 = 0 then am_b2 (f_X5_isMark a0 h) fun r8 h9 => (some (r8, h9)) else am_b2 (f_X5_isDigit a0 h) fun r5 h6 => (some (r5, h6)))) fun y1 h2 => (bif am_b01 y1 then (some (y1, h2)) else none)
set_option maxRecDepth 100000 in
theorem s_X5_startsAct (a0 : Int32) (a1 : Int32) (h : am_H) (hs : am_stat h) {v : Int32} {h' : am_H} (hf : f_X5_startsAct a0 a1 h = some (v, h')) : am_stat h' := by
  unfold f_X5_startsAct at hf
  obtain ⟨y1, h2, j3, hf⟩ := am_b2_ok hf
  have hs0 := hs
  have hs : am_stat h2 := by
    have hs := hs0
    by_cases c4 : a1 = 0
    · rw [if_pos c4] at j3
      obtain ⟨r5, h6, e7, j3⟩ := am_b2_ok j3
      have hs := s_X5_isMark a0 h hs e7
      obtain ⟨rfl, rfl⟩ := am_i2 j3
      exact hs
    · rw [if_neg c4] at j3
      obtain ⟨r8, h9, e10, j3⟩ := am_b2_ok j3
      have hs := s_X5_isDigit a0 h hs e10
      obtain ⟨rfl, rfl⟩ := am_i2 j3
      exact hs
  obtain ⟨b61, hf⟩ := am_bis hf
  obtain ⟨rfl, rfl⟩ := am_i2 hf
  exact hs
set_option maxRecDepth 100000 in
theorem c_X5_startsAct (a0 : Int32) (a1 : Int32) (h : am_H) (hs : am_stat h) {v : Int32} {h' : am_H} (hf : f_X5_startsAct a0 a1 h = some (v, h')) : AMet mX5_startsAct (rX5_startsAct 0 0) (fun r h2 => r = some (.int v) ∧ h2 = h') [.int a0, .int a1] h := by
  unfold f_X5_startsAct at hf
  refine AW_go okX5_startsAct 1 ?_
  obtain ⟨y1, h2, j3, hf⟩ := am_b2_ok hf
  have hs0 := hs
  have hs : am_stat h2 := by
    have hs := hs0
    by_cases c4 : a1 = 0
    · rw [if_pos c4] at j3
      obtain ⟨r5, h6, e7, j3⟩ := am_b2_ok j3
      have hs := s_X5_isMark a0 h hs e7
      obtain ⟨rfl, rfl⟩ := am_i2 j3
      exact hs
    · rw [if_neg c4] at j3
      obtain ⟨r8, h9, e10, j3⟩ := am_b2_ok j3
      have hs := s_X5_isDigit a0 h hs e10
      obtain ⟨rfl, rfl⟩ := am_i2 j3
      exact hs
  refine am_cut (P := AW mX5_startsAct (rX5_startsAct 0 0) (fun r h2 => r = some (.int v) ∧ h2 = h') 15 [(0, .int a0), (1, .int a1)] [.int y1] h2 0 0) (fun hJ3 => ?_) ?_
  · have hs := hs0
    refine AW_go okX5_startsAct 1 ?_
    refine And.intro (fun c4 => ?_) (fun c4 => ?_)
    · rw [if_neg c4] at j3
      refine AW_go okX5_startsAct 1 ?_
      obtain ⟨r5, h6, e7, j3⟩ := am_b2_ok j3
      refine AW_callS (As := [.int a0]) (R' := rX5_isDigit 0 0) (okX5_startsAct.1 12 _ _ rfl) lkX5_isDigit (Or.inl kX5_60) rfl (Nat.le_of_ble_eq_true rfl) ⟨by decide, by decide⟩ ⟨(Nat.le_of_ble_eq_true rfl), (Nat.le_of_ble_eq_true rfl)⟩ (Nat.le_of_ble_eq_true rfl) (c_X5_isDigit a0 h hs e7) (fun r h' hq => ?_)
      obtain ⟨rfl, hq⟩ := hq
      replace hq := hq.symm
      subst hq
      have hs := s_X5_isDigit a0 h hs e7
      obtain ⟨rfl, rfl⟩ := am_i2 j3
      exact AW_pick [0, 1] rfl hJ3
    · rw [if_pos c4] at j3
      refine AW_go okX5_startsAct 1 ?_
      obtain ⟨r8, h9, e10, j3⟩ := am_b2_ok j3
      refine AW_callS (As := [.int a0]) (R' := rX5_isMark 0 0) (okX5_startsAct.1 5 _ _ rfl) lkX5_isMark (Or.inl kX5_71) rfl (Nat.le_of_ble_eq_true rfl) ⟨by decide, by decide⟩ ⟨(Nat.le_of_ble_eq_true rfl), (Nat.le_of_ble_eq_true rfl)⟩ (Nat.le_of_ble_eq_true rfl) (c_X5_isMark a0 h hs e10) (fun r h' hq => ?_)
      obtain ⟨rfl, hq⟩ := hq
      replace hq := hq.symm
      subst hq
      have hs := s_X5_isMark a0 h hs e10
      refine AW_go okX5_startsAct 1 ?_
      obtain ⟨rfl, rfl⟩ := am_i2 j3
      exact AW_pick [0, 1] rfl hJ3
  obtain ⟨b61, hf⟩ := am_bis hf
  refine AW_go okX5_startsAct 1 ?_
  obtain ⟨rfl, rfl⟩ := am_i2 hf
  exact And.intro ⟨(Nat.le_of_ble_eq_true rfl), (Nat.le_of_ble_eq_true rfl)⟩ (And.intro (Or.inr ⟨rfl, am_b01_ok b61⟩) ⟨rfl, rfl⟩)
def f_X5_openBraces (h : am_H) : Option (Unit × am_H) := bif am_vp (am_I h 3 2) 61 then (bif am_vp (am_I (am_sI h 9 (Int32.toNatClampNeg (am_I h 3 2)) (Int32.ofInt 0)) 3 2) 61 then (bif am_vp (am_I (am_sI (am_sI h 9 (Int32.toNatClampNeg (am_I h 3 2)) (Int32.ofInt 0)) 10 (Int32.toNatClampNeg (am_I (am_sI h 9 (Int32.toNatClampNeg (am_I h 3 2)) (Int32.ofInt 0)) 3 2)) (Int32.ofInt 0)) 3 2) 61 then (am_b2 (f_X5_startRow (am_sI (am_sI (am_sI h 9 (Int32.toNatClampNeg (am_I h 3 2)) (Int32.ofInt 0)) 10 (Int32.toNatClampNeg (am_I (am_sI h 9 (Int32.toNatClampNeg (am_I h 3 2)) (Int32.ofInt 0)) 3 2)) (Int32.ofInt 0)) 11 (Int32.toNatClampNeg (am_I (am_sI (am_sI h 9 (Int32.toNatClampNeg (am_I h 3 2)) (Int32.ofInt 0)) 10 (Int32.toNatClampNeg (am_I (am_sI h 9 (Int32.toNatClampNeg (am_I h 3 2)) (Int32.ofInt 0)) 3 2)) (Int32.ofInt 0)) 3 2)) (vp_nar (am_at 2) (Int32.ofInt 0)))) fun r4 h5 => (some ((), h5))) else none) else none) else none
set_option maxRecDepth 100000 in
theorem s_X5_openBraces (h : am_H) (hs : am_stat h) {v : Unit} {h' : am_H} (hf : f_X5_openBraces h = some (v, h')) : am_stat h' := by
  unfold f_X5_openBraces at hf
  obtain ⟨b1, hf⟩ := am_bis hf
  obtain ⟨b2, hf⟩ := am_bis hf
  obtain ⟨b3, hf⟩ := am_bis hf
  obtain ⟨r4, h5, e6, hf⟩ := am_b2_ok hf
  have hs := s_X5_startRow (am_sI (am_sI (am_sI h 9 (Int32.toNatClampNeg (am_I h 3 2)) (Int32.ofInt 0)) 10 (Int32.toNatClampNeg (am_I (am_sI h 9 (Int32.toNatClampNeg (am_I h 3 2)) (Int32.ofInt 0)) 3 2)) (Int32.ofInt 0)) 11 (Int32.toNatClampNeg (am_I (am_sI (am_sI h 9 (Int32.toNatClampNeg (am_I h 3 2)) (Int32.ofInt 0)) 10 (Int32.toNatClampNeg (am_I (am_sI h 9 (Int32.toNatClampNeg (am_I h 3 2)) (Int32.ofInt 0)) 3 2)) (Int32.ofInt 0)) 3 2)) (vp_nar (am_at 2) (Int32.ofInt 0))) hs e6
  obtain ⟨rfl, rfl⟩ := am_i2 hf
  exact hs
set_option maxRecDepth 100000 in
theorem c_X5_openBraces (h : am_H) (hs : am_stat h) {v : Unit} {h' : am_H} (hf : f_X5_openBraces h = some (v, h')) : AMet mX5_openBraces (rX5_openBraces 0 0) (fun r h2 => r = none ∧ h2 = h') [.ref 3] h := by
  unfold f_X5_openBraces at hf
  obtain ⟨b1, hf⟩ := am_bis hf
  obtain ⟨b2, hf⟩ := am_bis hf
  obtain ⟨b3, hf⟩ := am_bis hf
  refine AW_go okX5_openBraces 19 ?_
  refine And.intro (sK hs 3) (Exists.intro _ (And.intro (sA hs 3 9) ?_))
  refine And.intro (sK hs 3) ?_
  refine Exists.intro 61 (And.intro (sK hs 9) (And.intro (am_vp_ok b1) ?_))
  refine And.intro (sK hs 3) (Exists.intro _ (And.intro (sA hs 3 10) ?_))
  refine And.intro (sK hs 3) ?_
  refine Exists.intro 61 (And.intro (sK hs 10) (And.intro (am_vp_ok b2) ?_))
  refine And.intro (sK hs 3) (Exists.intro _ (And.intro (sA hs 3 11) ?_))
  refine And.intro (sK hs 3) ?_
  refine Exists.intro 2 (Exists.intro 61 (And.intro (by decide) (And.intro (sK hs 11) (And.intro (am_vp_ok b3) ?_))))
  obtain ⟨r4, h5, e6, hf⟩ := am_b2_ok hf
  refine AW_callV (As := []) (R' := rX5_startRow 0 0) (T := TX5) (N := 12) (ci := 5) (okX5_openBraces.1 31 _ _ rfl) lkX5_startRow kX5_122 rfl (sK hs 3) rfl (Nat.le_of_ble_eq_true rfl) ⟨by decide, by decide⟩ ⟨(Nat.le_of_ble_eq_true rfl), (Nat.le_of_ble_eq_true rfl)⟩ (Nat.le_of_ble_eq_true rfl) (c_X5_startRow (am_sI (am_sI (am_sI h 9 (Int32.toNatClampNeg (am_I h 3 2)) (Int32.ofInt 0)) 10 (Int32.toNatClampNeg (am_I (am_sI h 9 (Int32.toNatClampNeg (am_I h 3 2)) (Int32.ofInt 0)) 3 2)) (Int32.ofInt 0)) 11 (Int32.toNatClampNeg (am_I (am_sI (am_sI h 9 (Int32.toNatClampNeg (am_I h 3 2)) (Int32.ofInt 0)) 10 (Int32.toNatClampNeg (am_I (am_sI h 9 (Int32.toNatClampNeg (am_I h 3 2)) (Int32.ofInt 0)) 3 2)) (Int32.ofInt 0)) 3 2)) (vp_nar (am_at 2) (Int32.ofInt 0))) hs e6) (fun r h' hq => ?_)
  obtain ⟨rfl, hq⟩ := hq
  replace hq := hq.symm
  subst hq
  have hs := s_X5_startRow (am_sI (am_sI (am_sI h 9 (Int32.toNatClampNeg (am_I h 3 2)) (Int32.ofInt 0)) 10 (Int32.toNatClampNeg (am_I (am_sI h 9 (Int32.toNatClampNeg (am_I h 3 2)) (Int32.ofInt 0)) 3 2)) (Int32.ofInt 0)) 11 (Int32.toNatClampNeg (am_I (am_sI (am_sI h 9 (Int32.toNatClampNeg (am_I h 3 2)) (Int32.ofInt 0)) 10 (Int32.toNatClampNeg (am_I (am_sI h 9 (Int32.toNatClampNeg (am_I h 3 2)) (Int32.ofInt 0)) 3 2)) (Int32.ofInt 0)) 3 2)) (vp_nar (am_at 2) (Int32.ofInt 0))) hs e6
  refine AW_go okX5_openBraces 1 ?_
  obtain ⟨rfl, rfl⟩ := am_i2 hf
  exact And.intro ⟨(Nat.le_of_ble_eq_true rfl), (Nat.le_of_ble_eq_true rfl)⟩ (And.intro rfl ⟨rfl, rfl⟩)
def f_X5_addItem (n : Nat) (a1 : Int32) (a2 : Int32) (a3 : Int32) (h : am_H) : Option (Unit × am_H) := bif am_vp (am_I h 3 2) 61 then (am_b2 (f_X5_followUp n (am_I h 7 (Int32.toNatClampNeg (am_I h 3 2))) a1 h) fun r2 h3 => (bif am_vp (am_I h3 3 2) 61 then (Option.bind ((if (am_I h3 8 (Int32.toNatClampNeg (am_I h3 3 2))) = 0 then some h3 else some (am_sI h3 6 (Int32.toNatClampNeg (am_I h3 3 2)) ((am_I h3 6 (Int32.toNatClampNeg (am_I h3 3 2))) ||| a1)))) fun h6 => (Option.bind ((if a3 = 0 then some a2 else bif am_vp (am_I h6 3 2) 61 then (some ((am_I h6 7 (Int32.toNatClampNeg (am_I h6 3 2))) ||| a2)) else none)) fun y59 => (bif am_vp (am_I h6 3 2) 61 then (bif am_vp (am_I (am_sI h6 7 (Int32.toNatClampNeg (am_I h6 3 2)) y59) 3 2) 61 then (some ((), (am_sI (am_sI h6 7 (Int32.toNatClampNeg (am_I h6 3 2)) y59) 8 (Int32.toNatClampNeg (am_I (am_sI h6 7 (Int32.toNatClampNeg (am_I h6 3 2)) y59) 3 2)) (vp_nar (am_at 2) ((am_I (am_sI h6 7 (Int32.toNatClampNeg (am_I h6 3 2)) y59) 8 (Int32.toNatClampNeg (am_I (am_sI h6 7 (Int32.toNatClampNeg (am_I h6 3 2)) y59) 3 2))) &&& a3))))) else none) else none))) else none)) else none
set_option maxRecDepth 100000 in
theorem s_X5_addItem (n : Nat) (a1 : Int32) (a2 : Int32) (a3 : Int32) (h : am_H) (hs : am_stat h) {v : Unit} {h' : am_H} (hf : f_X5_addItem n a1 a2 a3 h = some (v, h')) : am_stat h' := by
  unfold f_X5_addItem at hf
  obtain ⟨b1, hf⟩ := am_bis hf
  obtain ⟨r2, h3, e4, hf⟩ := am_b2_ok hf
  have hs := s_X5_followUp n (am_I h 7 (Int32.toNatClampNeg (am_I h 3 2))) a1 h hs e4
  obtain ⟨b5, hf⟩ := am_bis hf
  obtain ⟨h6, j7, hf⟩ := am_bnd hf
  have hs0 := hs
  have hs : am_stat h6 := by
    have hs := hs0
    by_cases c8 : (am_I h3 8 (Int32.toNatClampNeg (am_I h3 3 2))) = 0
    · rw [if_pos c8] at j7
      obtain rfl := am_i1 j7
      exact hs
    · rw [if_neg c8] at j7
      obtain rfl := am_i1 j7
      exact hs
  obtain ⟨y59, j60, hf⟩ := am_bnd hf
  obtain ⟨b113, hf⟩ := am_bis hf
  obtain ⟨b114, hf⟩ := am_bis hf
  obtain ⟨rfl, rfl⟩ := am_i2 hf
  exact hs
set_option maxRecDepth 100000 in
theorem c_X5_addItem (n : Nat) (a1 : Int32) (a2 : Int32) (a3 : Int32) (h : am_H) (hs : am_stat h) {v : Unit} {h' : am_H} (hf : f_X5_addItem n a1 a2 a3 h = some (v, h')) : AMet mX5_addItem (rX5_addItem 0 0) (fun r h2 => r = none ∧ h2 = h') [.ref 3, .int a1, .int a2, .int a3] h := by
  unfold f_X5_addItem at hf
  obtain ⟨b1, hf⟩ := am_bis hf
  refine AW_go okX5_addItem 7 ?_
  refine And.intro (sK hs 3) (Exists.intro _ (And.intro (sA hs 3 7) ?_))
  refine And.intro (sK hs 3) ?_
  refine Exists.intro 61 (And.intro (sK hs 7) (And.intro (am_vp_ok b1) ?_))
  obtain ⟨r2, h3, e4, hf⟩ := am_b2_ok hf
  refine AW_callV (As := [.int (am_I h 7 (Int32.toNatClampNeg (am_I h 3 2))), .int a1]) (R' := rX5_followUp 0 0) (T := TX5) (N := 12) (ci := 5) (okX5_addItem.1 11 _ _ rfl) lkX5_followUp kX5_109 rfl (sK hs 3) rfl (Nat.le_of_ble_eq_true rfl) ⟨by decide, by decide⟩ ⟨(Nat.le_of_ble_eq_true rfl), (Nat.le_of_ble_eq_true rfl)⟩ (Nat.le_of_ble_eq_true rfl) (c_X5_followUp n (am_I h 7 (Int32.toNatClampNeg (am_I h 3 2))) a1 h hs e4) (fun r h' hq => ?_)
  obtain ⟨rfl, hq⟩ := hq
  replace hq := hq.symm
  subst hq
  have hs := s_X5_followUp n (am_I h 7 (Int32.toNatClampNeg (am_I h 3 2))) a1 h hs e4
  obtain ⟨b5, hf⟩ := am_bis hf
  refine AW_go okX5_addItem 5 ?_
  refine And.intro (sK hs 3) (Exists.intro _ (And.intro (sA hs 3 8) ?_))
  refine And.intro (sK hs 3) ?_
  refine Exists.intro 2 (Exists.intro 61 (And.intro (by decide) (And.intro (sK hs 8) (And.intro (am_vp_ok b5) ?_))))
  obtain ⟨h6, j7, hf⟩ := am_bnd hf
  have hs0 := hs
  have hs : am_stat h6 := by
    have hs := hs0
    by_cases c8 : (am_I h3 8 (Int32.toNatClampNeg (am_I h3 3 2))) = 0
    · rw [if_pos c8] at j7
      obtain rfl := am_i1 j7
      exact hs
    · rw [if_neg c8] at j7
      obtain rfl := am_i1 j7
      exact hs
  refine am_cut (P := AW mX5_addItem (rX5_addItem 0 0) (fun r h2 => r = none ∧ h2 = h') 39 [(0, .ref 3), (1, .int a1), (2, .int a2), (3, .int a3)] [] h6 0 0) (fun hJ7 => ?_) ?_
  · have hs := hs0
    refine AW_go okX5_addItem 1 ?_
    refine And.intro (fun c8 => ?_) (fun c8 => ?_)
    · rw [if_pos c8] at j7
      obtain rfl := am_i1 j7
      exact AW_pick [0, 1, 2, 3] rfl hJ7
    · rw [if_neg c8] at j7
      refine AW_go okX5_addItem 9 ?_
      refine And.intro (sK hs 3) (Exists.intro _ (And.intro (sA hs 3 6) ?_))
      refine And.intro (sK hs 3) ?_
      refine Exists.intro 61 (And.intro (sK hs 6) (And.intro (am_vp_ok b5) ?_))
      refine Exists.intro 61 (And.intro (sK hs 6) (And.intro (am_vp_ok b5) ?_))
      obtain rfl := am_i1 j7
      exact AW_pick [0, 1, 2, 3] rfl hJ7
  refine AW_go okX5_addItem 5 ?_
  refine And.intro (sK hs 3) (Exists.intro _ (And.intro (sA hs 3 7) ?_))
  refine And.intro (sK hs 3) ?_
  obtain ⟨y59, j60, hf⟩ := am_bnd hf
  refine am_cut (P := AW mX5_addItem (rX5_addItem 0 0) (fun r h2 => r = none ∧ h2 = h') 66 [(0, .ref 3), (1, .int a1), (2, .int a2), (3, .int a3)] [.int y59, .int (am_I h6 3 2), .ref 7] h6 0 0) (fun hJ60 => ?_) ?_
  · have hs := hs
    refine AW_go okX5_addItem 1 ?_
    refine And.intro (fun c61 => ?_) (fun c61 => ?_)
    · rw [if_pos c61] at j60
      refine AW_go okX5_addItem 1 ?_
      obtain rfl := am_i1 j60
      exact AW_pick [0, 1, 2, 3] rfl hJ60
    · rw [if_neg c61] at j60
      obtain ⟨b62, j60⟩ := am_bis j60
      refine AW_go okX5_addItem 8 ?_
      refine And.intro (sK hs 3) (Exists.intro _ (And.intro (sA hs 3 7) ?_))
      refine And.intro (sK hs 3) ?_
      refine Exists.intro 61 (And.intro (sK hs 7) (And.intro (am_vp_ok b62) ?_))
      obtain rfl := am_i1 j60
      exact AW_pick [0, 1, 2, 3] rfl hJ60
  obtain ⟨b113, hf⟩ := am_bis hf
  obtain ⟨b114, hf⟩ := am_bis hf
  refine AW_go okX5_addItem 11 ?_
  refine Exists.intro 61 (And.intro (sK hs 7) (And.intro (am_vp_ok b113) ?_))
  refine And.intro (sK hs 3) (Exists.intro _ (And.intro (sA hs 3 8) ?_))
  refine And.intro (sK hs 3) ?_
  refine Exists.intro 2 (Exists.intro 61 (And.intro (by decide) (And.intro (sK hs 8) (And.intro (am_vp_ok b114) ?_))))
  refine Exists.intro 2 (Exists.intro 61 (And.intro (by decide) (And.intro (sK hs 8) (And.intro (am_vp_ok b114) ?_))))
  obtain ⟨rfl, rfl⟩ := am_i2 hf
  exact And.intro ⟨(Nat.le_of_ble_eq_true rfl), (Nat.le_of_ble_eq_true rfl)⟩ (And.intro rfl ⟨rfl, rfl⟩)
def f_X6_marksOf (n : Nat) (o : Nat) (a1 : Int64) (h : am_H) : Option (Int32 × am_H) := am_b2 (f_X6_slotOf n o a1 h) fun r1 h2 => (bif am_vp r1 4096 then (Option.bind ((if 0 ≤ ((am_I h2 (o + 7) (Int32.toNatClampNeg r1)) - (Int32.ofInt 1)) then bif am_vp ((am_I h2 (o + 7) (Int32.toNatClampNeg r1)) - (Int32.ofInt 1)) 2000 then (some (am_I h2 (o + 4) (Int32.toNatClampNeg ((am_I h2 (o + 7) (Int32.toNatClampNeg r1)) - (Int32.ofInt 1))))) else none else some (Int32.ofInt 0))) fun y5 => (some (y5, h2))) else none)
set_option maxRecDepth 100000 in
theorem s_X6_marksOf (n : Nat) (o : Nat) (a1 : Int64) (h : am_H) (ho : o = 37 ∨ o = 37) (hs : am_stat h) {v : Int32} {h' : am_H} (hf : f_X6_marksOf n o a1 h = some (v, h')) : am_stat h' := by
  unfold f_X6_marksOf at hf
  obtain ⟨r1, h2, e3, hf⟩ := am_b2_ok hf
  have hs := s_X6_slotOf n o a1 h ho hs e3
  obtain ⟨b4, hf⟩ := am_bis hf
  obtain ⟨y5, j6, hf⟩ := am_bnd hf
  obtain ⟨rfl, rfl⟩ := am_i2 hf
  exact hs
set_option maxRecDepth 100000 in
theorem c_X6_marksOf (n : Nat) (o : Nat) (a1 : Int64) (h : am_H) (ho : o = 37 ∨ o = 37) (hs : am_stat h) {v : Int32} {h' : am_H} (hf : f_X6_marksOf n o a1 h = some (v, h')) : AMet mX6_marksOf (rX6_marksOf 0 0) (fun r h2 => r = some (.int v) ∧ h2 = h') [.ref o, .long a1] h := by
  unfold f_X6_marksOf at hf
  refine AW_go okX6_marksOf 4 ?_
  refine And.intro (sv_K0 hs ho) (Exists.intro _ (And.intro (sv_A hs ho 9 7) ?_))
  obtain ⟨r1, h2, e3, hf⟩ := am_b2_ok hf
  refine AW_callV (As := [.long a1]) (R' := rX6_slotOf 0 0) (T := TX6) (N := 15) (ci := 6) (okX6_marksOf.1 6 _ _ rfl) lkX6_slotOf kX6_91 rfl (sv_K0 hs ho) rfl (Nat.le_of_ble_eq_true rfl) ⟨by decide, by decide⟩ ⟨(Nat.le_of_ble_eq_true rfl), (Nat.le_of_ble_eq_true rfl)⟩ (Nat.le_of_ble_eq_true rfl) (c_X6_slotOf n o a1 h ho hs e3) (fun r h' hq => ?_)
  obtain ⟨rfl, hq⟩ := hq
  replace hq := hq.symm
  subst hq
  have hs := s_X6_slotOf n o a1 h ho hs e3
  obtain ⟨b4, hf⟩ := am_bis hf
  refine AW_go okX6_marksOf 5 ?_
  refine Exists.intro 4096 (And.intro (sv_K hs ho 7) (And.intro (am_vp_ok b4) ?_))
  obtain ⟨y5, j6, hf⟩ := am_bnd hf
  refine am_cut (P := AW mX6_marksOf (rX6_marksOf 0 0) (fun r h2 => r = some (.int v) ∧ h2 = h') 27 [(0, .ref o), (1, .long a1), (3, .int ((am_I h2 (o + 7) (Int32.toNatClampNeg r1)) - (Int32.ofInt 1)))] [.int y5] h2 0 0) (fun hJ6 => ?_) ?_
  · have hs := hs
    refine AW_go okX6_marksOf 1 ?_
    refine And.intro (fun c7 => ?_) (fun c7 => ?_)
    · rw [if_pos c7] at j6
      obtain ⟨b8, j6⟩ := am_bis j6
      refine AW_go okX6_marksOf 4 ?_
      refine And.intro (sv_K0 hs ho) (Exists.intro _ (And.intro (sv_A hs ho 6 4) ?_))
      refine Exists.intro 2000 (And.intro (sv_K hs ho 4) (And.intro (am_vp_ok b8) ?_))
      obtain rfl := am_i1 j6
      exact AW_pick [1, 2, 0] rfl hJ6
    · rw [if_neg c7] at j6
      refine AW_go okX6_marksOf 2 ?_
      obtain rfl := am_i1 j6
      exact AW_pick [1, 2, 0] rfl hJ6
  refine AW_go okX6_marksOf 1 ?_
  obtain ⟨rfl, rfl⟩ := am_i2 hf
  exact And.intro ⟨(Nat.le_of_ble_eq_true rfl), (Nat.le_of_ble_eq_true rfl)⟩ (And.intro (Or.inl rfl) ⟨rfl, rfl⟩)
def g_X6_worthMending : Nat → Nat → Nat → Int32 → Int32 → Int32 → Int32 → am_H → Option (Int32 × am_H)
  | 0, _, _, _, _, _, _, _ => none
  | n + 1, _, o, a2, x3i, x4i, x5i, h => (if (am_I h o 0) ≤ x5i then some (x4i, h) else bif am_vp x5i 2000 then (am_b2 ((if (((Int32.toUInt32 (am_I h (o + 4) (Int32.toNatClampNeg x5i)) >>> (Int32.toUInt32 (Int32.ofInt 3) &&& Int32.toUInt32 31)).toInt32) &&& (Int32.ofInt 1)) = 0 then some (x4i, h) else am_b2 (f_X7_mayAt (am_J h (o + 3) (Int32.toNatClampNeg x5i)) a2 h) fun r7 h8 => (some ((x4i ||| r7), h8)))) fun y3 h4 => (g_X6_worthMending n 0 o a2 x3i y3 (x5i + Int32.ofInt 1) h4)) else none)
set_option maxRecDepth 100000 in
set_option maxHeartbeats 4000000 in
theorem m_X6_worthMending (n : Nat) : (∀ (o : Nat) (a2 : Int32) (x3i : Int32) (x4i : Int32) (x5i : Int32) (h : am_H) (v : Int32) (h' : am_H), (o = 37 ∨ o = 37) → am_stat h → g_X6_worthMending n 0 o a2 x3i x4i x5i h = some (v, h') → am_stat h') := by
  induction n with
  | zero => exact fun o a2 x3i x4i x5i h v h' ho hs hf => (by cases hf)
  | succ n ih =>
    skip
    · intro o a2 x3i x4i x5i h v h' ho hs hf
      have hf : ((if (am_I h o 0) ≤ x5i then some (x4i, h) else bif am_vp x5i 2000 then (am_b2 ((if (((Int32.toUInt32 (am_I h (o + 4) (Int32.toNatClampNeg x5i)) >>> (Int32.toUInt32 (Int32.ofInt 3) &&& Int32.toUInt32 31)).toInt32) &&& (Int32.ofInt 1)) = 0 then some (x4i, h) else am_b2 (f_X7_mayAt (am_J h (o + 3) (Int32.toNatClampNeg x5i)) a2 h) fun r7 h8 => (some ((x4i ||| r7), h8)))) fun y3 h4 => (g_X6_worthMending n 0 o a2 x3i y3 (x5i + Int32.ofInt 1) h4)) else none)) = some (v, h') := hf
      by_cases c1 : (am_I h o 0) ≤ x5i
      · rw [if_pos c1] at hf
        obtain ⟨rfl, rfl⟩ := am_i2 hf
        exact hs
      · rw [if_neg c1] at hf
        obtain ⟨b2, hf⟩ := am_bis hf
        obtain ⟨y3, h4, j5, hf⟩ := am_b2_ok hf
        have hs0 := hs
        have hs : am_stat h4 := by
          have hs := hs0
          by_cases c6 : (((Int32.toUInt32 (am_I h (o + 4) (Int32.toNatClampNeg x5i)) >>> (Int32.toUInt32 (Int32.ofInt 3) &&& Int32.toUInt32 31)).toInt32) &&& (Int32.ofInt 1)) = 0
          · rw [if_pos c6] at j5
            obtain ⟨rfl, rfl⟩ := am_i2 j5
            exact hs
          · rw [if_neg c6] at j5
            obtain ⟨r7, h8, e9, j5⟩ := am_b2_ok j5
            have hs := s_X7_mayAt (am_J h (o + 3) (Int32.toNatClampNeg x5i)) a2 h hs e9
            obtain ⟨rfl, rfl⟩ := am_i2 j5
            exact hs
        exact ih o a2 x3i y3 (x5i + Int32.ofInt 1) h4 _ _ ho hs hf
set_option maxRecDepth 100000 in
set_option maxHeartbeats 4000000 in
theorem l_X6_worthMending (n : Nat) : (∀ (o : Nat) (a2 : Int32) (x3i : Int32) (x4i : Int32) (x5i : Int32) (h : am_H) (v : Int32) (h' : am_H), (o = 37 ∨ o = 37) → am_stat h → g_X6_worthMending n 0 o a2 x3i x4i x5i h = some (v, h') → AW mX6_worthMending (rX6_worthMending 0 0) (fun r h2 => r = some (.int v) ∧ h2 = h') 44 [(0, .ref o), (1, .ref 28), (2, .int a2), (3, .int x3i), (4, .int x4i), (5, .int x5i)] [] h 0 0) := by
  induction n with
  | zero => exact fun o a2 x3i x4i x5i h v h' ho hs hf => (by cases hf)
  | succ n ih =>
    skip
    · intro o a2 x3i x4i x5i h v h' ho hs hf
      have hf : ((if (am_I h o 0) ≤ x5i then some (x4i, h) else bif am_vp x5i 2000 then (am_b2 ((if (((Int32.toUInt32 (am_I h (o + 4) (Int32.toNatClampNeg x5i)) >>> (Int32.toUInt32 (Int32.ofInt 3) &&& Int32.toUInt32 31)).toInt32) &&& (Int32.ofInt 1)) = 0 then some (x4i, h) else am_b2 (f_X7_mayAt (am_J h (o + 3) (Int32.toNatClampNeg x5i)) a2 h) fun r7 h8 => (some ((x4i ||| r7), h8)))) fun y3 h4 => (g_X6_worthMending n 0 o a2 x3i y3 (x5i + Int32.ofInt 1) h4)) else none)) = some (v, h') := hf
      refine AW_go okX6_worthMending 4 ?_
      refine And.intro (sv_K0 hs ho) ?_
      refine And.intro (fun c1 => ?_) (fun c1 => ?_)
      · rw [if_pos c1] at hf
        refine AW_go okX6_worthMending 2 ?_
        obtain ⟨rfl, rfl⟩ := am_i2 hf
        exact And.intro ⟨(Nat.le_of_ble_eq_true rfl), (Nat.le_of_ble_eq_true rfl)⟩ (And.intro (Or.inl rfl) ⟨rfl, rfl⟩)
      · rw [if_neg c1] at hf
        obtain ⟨b2, hf⟩ := am_bis hf
        refine AW_go okX6_worthMending 8 ?_
        refine And.intro (sv_K0 hs ho) (Exists.intro _ (And.intro (sv_A hs ho 6 4) ?_))
        refine Exists.intro 2000 (And.intro (sv_K hs ho 4) (And.intro (am_vp_ok b2) ?_))
        obtain ⟨y3, h4, j5, hf⟩ := am_b2_ok hf
        have hs0 := hs
        have hs : am_stat h4 := by
          have hs := hs0
          by_cases c6 : (((Int32.toUInt32 (am_I h (o + 4) (Int32.toNatClampNeg x5i)) >>> (Int32.toUInt32 (Int32.ofInt 3) &&& Int32.toUInt32 31)).toInt32) &&& (Int32.ofInt 1)) = 0
          · rw [if_pos c6] at j5
            obtain ⟨rfl, rfl⟩ := am_i2 j5
            exact hs
          · rw [if_neg c6] at j5
            obtain ⟨r7, h8, e9, j5⟩ := am_b2_ok j5
            have hs := s_X7_mayAt (am_J h (o + 3) (Int32.toNatClampNeg x5i)) a2 h hs e9
            obtain ⟨rfl, rfl⟩ := am_i2 j5
            exact hs
        refine am_cut (P := AW mX6_worthMending (rX6_worthMending 0 0) (fun r h2 => r = some (.int v) ∧ h2 = h') 84 [(0, .ref o), (1, .ref 28), (2, .int a2), (3, .int x3i), (4, .int y3), (5, .int x5i)] [] h4 0 0) (fun hJ5 => ?_) ?_
        · have hs := hs0
          refine AW_go okX6_worthMending 1 ?_
          refine And.intro (fun c6 => ?_) (fun c6 => ?_)
          · rw [if_pos c6] at j5
            obtain ⟨rfl, rfl⟩ := am_i2 j5
            exact AW_pick [0, 1, 2, 3, 4, 5] rfl hJ5
          · rw [if_neg c6] at j5
            refine AW_go okX6_worthMending 7 ?_
            refine And.intro (sv_K0 hs ho) (Exists.intro _ (And.intro (sv_A hs ho 5 3) ?_))
            refine Exists.intro 2000 (And.intro (sv_K hs ho 3) (And.intro (am_vp_ok b2) ?_))
            obtain ⟨r7, h8, e9, j5⟩ := am_b2_ok j5
            refine AW_callV (As := [.long (am_J h (o + 3) (Int32.toNatClampNeg x5i)), .int a2]) (R' := rX7_mayAt 0 0) (T := TX7) (N := 10) (ci := 7) (okX6_worthMending.1 78 _ _ rfl) lkX7_mayAt kX6_114 rfl (sK hs 28) rfl (Nat.le_of_ble_eq_true rfl) ⟨by decide, by decide⟩ ⟨(Nat.le_of_ble_eq_true rfl), (Nat.le_of_ble_eq_true rfl)⟩ (Nat.le_of_ble_eq_true rfl) (c_X7_mayAt (am_J h (o + 3) (Int32.toNatClampNeg x5i)) a2 h hs e9) (fun r h' hq => ?_)
            obtain ⟨rfl, hq⟩ := hq
            replace hq := hq.symm
            subst hq
            have hs := s_X7_mayAt (am_J h (o + 3) (Int32.toNatClampNeg x5i)) a2 h hs e9
            refine AW_go okX6_worthMending 2 ?_
            obtain ⟨rfl, rfl⟩ := am_i2 j5
            exact AW_pick [1, 2, 3, 4, 0, 5] rfl hJ5
        refine AW_go okX6_worthMending 2 ?_
        refine AW_pick (lv' := [(0, .ref o), (1, .ref 28), (2, .int a2), (3, .int x3i), (4, .int y3), (5, .int (x5i + Int32.ofInt 1))]) [1, 2, 3, 4, 5, 0] rfl ?_
        exact ih o a2 x3i y3 (x5i + Int32.ofInt 1) h4 _ _ ho hs hf
def f_X6_worthMending (n : Nat) (o : Nat) (a2 : Int32) (h : am_H) : Option (Int32 × am_H) := am_b2 (f_X6_firstBad n o h) fun r1 h2 => ((if r1 < 0 then am_b2 (f_X6_actsOnWay n o (am_I h2 (o + 2) (Int32.toNatClampNeg (Int32.ofInt 3))) a2 h2) fun r5 h6 => (g_X6_worthMending n 0 o a2 r1 r5 (Int32.ofInt 0) h6) else am_b2 (f_X6_actsOnWay n o r1 a2 h2) fun r8 h9 => (bif am_vp r1 2000 then (am_b2 (f_X7_mayAt (am_J h9 (o + 3) (Int32.toNatClampNeg r1)) a2 h9) fun r12 h13 => (some ((r8 ||| r12), h13))) else none)))
set_option maxRecDepth 100000 in
theorem s_X6_worthMending (n : Nat) (o : Nat) (a2 : Int32) (h : am_H) (ho : o = 37 ∨ o = 37) (hs : am_stat h) {v : Int32} {h' : am_H} (hf : f_X6_worthMending n o a2 h = some (v, h')) : am_stat h' := by
  unfold f_X6_worthMending at hf
  obtain ⟨r1, h2, e3, hf⟩ := am_b2_ok hf
  have hs := s_X6_firstBad n o h ho hs e3
  by_cases c4 : r1 < 0
  · rw [if_pos c4] at hf
    obtain ⟨r5, h6, e7, hf⟩ := am_b2_ok hf
    have hs := s_X6_actsOnWay n o (am_I h2 (o + 2) (Int32.toNatClampNeg (Int32.ofInt 3))) a2 h2 ho hs e7
    exact (m_X6_worthMending n) o a2 r1 r5 (Int32.ofInt 0) h6 _ _ ho hs hf
  · rw [if_neg c4] at hf
    obtain ⟨r8, h9, e10, hf⟩ := am_b2_ok hf
    have hs := s_X6_actsOnWay n o r1 a2 h2 ho hs e10
    obtain ⟨b11, hf⟩ := am_bis hf
    obtain ⟨r12, h13, e14, hf⟩ := am_b2_ok hf
    have hs := s_X7_mayAt (am_J h9 (o + 3) (Int32.toNatClampNeg r1)) a2 h9 hs e14
    obtain ⟨rfl, rfl⟩ := am_i2 hf
    exact hs
set_option maxRecDepth 100000 in
theorem c_X6_worthMending (n : Nat) (o : Nat) (a2 : Int32) (h : am_H) (ho : o = 37 ∨ o = 37) (hs : am_stat h) {v : Int32} {h' : am_H} (hf : f_X6_worthMending n o a2 h = some (v, h')) : AMet mX6_worthMending (rX6_worthMending 0 0) (fun r h2 => r = some (.int v) ∧ h2 = h') [.ref o, .ref 28, .int a2] h := by
  unfold f_X6_worthMending at hf
  refine AW_go okX6_worthMending 1 ?_
  obtain ⟨r1, h2, e3, hf⟩ := am_b2_ok hf
  refine AW_callV (As := []) (R' := rX6_firstBad 0 0) (T := TX6) (N := 15) (ci := 6) (okX6_worthMending.1 1 _ _ rfl) lkX6_firstBad kX6_107 rfl (sv_K0 hs ho) rfl (Nat.le_of_ble_eq_true rfl) ⟨by decide, by decide⟩ ⟨(Nat.le_of_ble_eq_true rfl), (Nat.le_of_ble_eq_true rfl)⟩ (Nat.le_of_ble_eq_true rfl) (c_X6_firstBad n o h ho hs e3) (fun r h' hq => ?_)
  obtain ⟨rfl, hq⟩ := hq
  replace hq := hq.symm
  subst hq
  have hs := s_X6_firstBad n o h ho hs e3
  refine AW_go okX6_worthMending 3 ?_
  refine And.intro (fun c4 => ?_) (fun c4 => ?_)
  · rw [if_pos c4] at hf
    refine AW_go okX6_worthMending 6 ?_
    refine And.intro (sv_K0 hs ho) (Exists.intro _ (And.intro (sv_A hs ho 3 2) ?_))
    refine Exists.intro 5 (And.intro (sv_K hs ho 2) (And.intro (by unfold vp_in; decide) ?_))
    obtain ⟨r5, h6, e7, hf⟩ := am_b2_ok hf
    refine AW_callV (As := [.int (am_I h2 (o + 2) (Int32.toNatClampNeg (Int32.ofInt 3))), .int a2]) (R' := rX6_actsOnWay 0 0) (T := TX6) (N := 15) (ci := 6) (okX6_worthMending.1 36 _ _ rfl) lkX6_actsOnWay kX6_111 rfl (sv_K0 hs ho) rfl (Nat.le_of_ble_eq_true rfl) ⟨by decide, by decide⟩ ⟨(Nat.le_of_ble_eq_true rfl), (Nat.le_of_ble_eq_true rfl)⟩ (Nat.le_of_ble_eq_true rfl) (c_X6_actsOnWay n o (am_I h2 (o + 2) (Int32.toNatClampNeg (Int32.ofInt 3))) a2 h2 ho hs e7) (fun r h' hq => ?_)
    obtain ⟨rfl, hq⟩ := hq
    replace hq := hq.symm
    subst hq
    have hs := s_X6_actsOnWay n o (am_I h2 (o + 2) (Int32.toNatClampNeg (Int32.ofInt 3))) a2 h2 ho hs e7
    refine AW_go okX6_worthMending 3 ?_
    refine AW_pick (lv' := [(0, .ref o), (1, .ref 28), (2, .int a2), (3, .int r1), (4, .int r5), (5, .int (Int32.ofInt 0))]) [3, 4, 5, 2, 1, 0] rfl ?_
    exact (l_X6_worthMending n) o a2 r1 r5 (Int32.ofInt 0) h6 _ _ ho hs hf
  · rw [if_neg c4] at hf
    refine AW_go okX6_worthMending 3 ?_
    obtain ⟨r8, h9, e10, hf⟩ := am_b2_ok hf
    refine AW_callV (As := [.int r1, .int a2]) (R' := rX6_actsOnWay 0 0) (T := TX6) (N := 15) (ci := 6) (okX6_worthMending.1 12 _ _ rfl) lkX6_actsOnWay kX6_111 rfl (sv_K0 hs ho) rfl (Nat.le_of_ble_eq_true rfl) ⟨by decide, by decide⟩ ⟨(Nat.le_of_ble_eq_true rfl), (Nat.le_of_ble_eq_true rfl)⟩ (Nat.le_of_ble_eq_true rfl) (c_X6_actsOnWay n o r1 a2 h2 ho hs e10) (fun r h' hq => ?_)
    obtain ⟨rfl, hq⟩ := hq
    replace hq := hq.symm
    subst hq
    have hs := s_X6_actsOnWay n o r1 a2 h2 ho hs e10
    obtain ⟨b11, hf⟩ := am_bis hf
    refine AW_go okX6_worthMending 6 ?_
    refine And.intro (sv_K0 hs ho) (Exists.intro _ (And.intro (sv_A hs ho 5 3) ?_))
    refine Exists.intro 2000 (And.intro (sv_K hs ho 3) (And.intro (am_vp_ok b11) ?_))
    obtain ⟨r12, h13, e14, hf⟩ := am_b2_ok hf
    refine AW_callV (As := [.long (am_J h9 (o + 3) (Int32.toNatClampNeg r1)), .int a2]) (R' := rX7_mayAt 0 0) (T := TX7) (N := 10) (ci := 7) (okX6_worthMending.1 23 _ _ rfl) lkX7_mayAt kX6_114 rfl (sK hs 28) rfl (Nat.le_of_ble_eq_true rfl) ⟨by decide, by decide⟩ ⟨(Nat.le_of_ble_eq_true rfl), (Nat.le_of_ble_eq_true rfl)⟩ (Nat.le_of_ble_eq_true rfl) (c_X7_mayAt (am_J h9 (o + 3) (Int32.toNatClampNeg r1)) a2 h9 hs e14) (fun r h' hq => ?_)
    obtain ⟨rfl, hq⟩ := hq
    replace hq := hq.symm
    subst hq
    have hs := s_X7_mayAt (am_J h9 (o + 3) (Int32.toNatClampNeg r1)) a2 h9 hs e14
    refine AW_go okX6_worthMending 2 ?_
    obtain ⟨rfl, rfl⟩ := am_i2 hf
    exact And.intro ⟨(Nat.le_of_ble_eq_true rfl), (Nat.le_of_ble_eq_true rfl)⟩ (And.intro (Or.inl rfl) ⟨rfl, rfl⟩)
def f_X6_clear (n : Nat) (o : Nat) (h : am_H) : Option (Unit × am_H) := am_b2 (f_J7_fill_53178 n (o + 7) (Int32.ofInt 0) (am_sI (am_sI (am_sI (am_sI h o 0 (Int32.ofInt 0)) o 12 (Int32.ofInt 0)) o 1 (Int32.ofInt 0)) o 4 (Int32.ofInt 0))) fun r1 h2 => (am_b2 (f_J7_fill_53178 n (o + 1) (Int32.ofInt 0) h2) fun r4 h5 => (am_b2 (f_J7_fill_53178 n (o + 2) (Int32.ofInt (-1)) h5) fun r7 h8 => (some ((), h8))))
set_option maxRecDepth 100000 in
theorem s_X6_clear (n : Nat) (o : Nat) (h : am_H) (ho : o = 37 ∨ o = 37) (hs : am_stat h) {v : Unit} {h' : am_H} (hf : f_X6_clear n o h = some (v, h')) : am_stat h' := by
  unfold f_X6_clear at hf
  obtain ⟨r1, h2, e3, hf⟩ := am_b2_ok hf
  have hs := s_J7_fill_53178 n (o + 7) (Int32.ofInt 0) (am_sI (am_sI (am_sI (am_sI h o 0 (Int32.ofInt 0)) o 12 (Int32.ofInt 0)) o 1 (Int32.ofInt 0)) o 4 (Int32.ofInt 0)) hs e3
  obtain ⟨r4, h5, e6, hf⟩ := am_b2_ok hf
  have hs := s_J7_fill_53178 n (o + 1) (Int32.ofInt 0) h2 hs e6
  obtain ⟨r7, h8, e9, hf⟩ := am_b2_ok hf
  have hs := s_J7_fill_53178 n (o + 2) (Int32.ofInt (-1)) h5 hs e9
  obtain ⟨rfl, rfl⟩ := am_i2 hf
  exact hs
set_option maxRecDepth 100000 in
theorem c_X6_clear (n : Nat) (o : Nat) (h : am_H) (ho : o = 37 ∨ o = 37) (hs : am_stat h) {v : Unit} {h' : am_H} (hf : f_X6_clear n o h = some (v, h')) : AMet mX6_clear (rX6_clear 0 0) (fun r h2 => r = none ∧ h2 = h') [.ref o] h := by
  unfold f_X6_clear at hf
  refine AW_go okX6_clear 15 ?_
  refine And.intro (sv_K0 hs ho) ?_
  refine And.intro (sv_K0 hs ho) ?_
  refine And.intro (Or.inl rfl) (And.intro (sv_K0 hs ho) ?_)
  refine And.intro (Or.inl rfl) (And.intro (sv_K0 hs ho) ?_)
  refine And.intro (sv_K0 hs ho) (Exists.intro _ (And.intro (sv_A hs ho 9 7) ?_))
  obtain ⟨r1, h2, e3, hf⟩ := am_b2_ok hf
  refine AW_callS (As := [.ref (o + 7), .int (Int32.ofInt 0)]) (R' := rJ7_fill_53178 0 0) (okX6_clear.1 25 _ _ rfl) lkJ7_fill_53178 (Or.inl kX6_120) rfl (Nat.le_of_ble_eq_true rfl) ⟨by decide, by decide⟩ ⟨(Nat.le_of_ble_eq_true rfl), (Nat.le_of_ble_eq_true rfl)⟩ (Nat.le_of_ble_eq_true rfl) (c_J7_fill_53178 n (o + 7) (Int32.ofInt 0) (am_sI (am_sI (am_sI (am_sI h o 0 (Int32.ofInt 0)) o 12 (Int32.ofInt 0)) o 1 (Int32.ofInt 0)) o 4 (Int32.ofInt 0)) hs e3) (fun r h' hq => ?_)
  obtain ⟨rfl, hq⟩ := hq
  replace hq := hq.symm
  subst hq
  have hs := s_J7_fill_53178 n (o + 7) (Int32.ofInt 0) (am_sI (am_sI (am_sI (am_sI h o 0 (Int32.ofInt 0)) o 12 (Int32.ofInt 0)) o 1 (Int32.ofInt 0)) o 4 (Int32.ofInt 0)) hs e3
  refine AW_go okX6_clear 3 ?_
  refine And.intro (sv_K0 hs ho) (Exists.intro _ (And.intro (sv_A hs ho 2 1) ?_))
  obtain ⟨r4, h5, e6, hf⟩ := am_b2_ok hf
  refine AW_callS (As := [.ref (o + 1), .int (Int32.ofInt 0)]) (R' := rJ7_fill_53178 0 0) (okX6_clear.1 33 _ _ rfl) lkJ7_fill_53178 (Or.inl kX6_120) rfl (Nat.le_of_ble_eq_true rfl) ⟨by decide, by decide⟩ ⟨(Nat.le_of_ble_eq_true rfl), (Nat.le_of_ble_eq_true rfl)⟩ (Nat.le_of_ble_eq_true rfl) (c_J7_fill_53178 n (o + 1) (Int32.ofInt 0) h2 hs e6) (fun r h' hq => ?_)
  obtain ⟨rfl, hq⟩ := hq
  replace hq := hq.symm
  subst hq
  have hs := s_J7_fill_53178 n (o + 1) (Int32.ofInt 0) h2 hs e6
  refine AW_go okX6_clear 3 ?_
  refine And.intro (sv_K0 hs ho) (Exists.intro _ (And.intro (sv_A hs ho 3 2) ?_))
  obtain ⟨r7, h8, e9, hf⟩ := am_b2_ok hf
  refine AW_callS (As := [.ref (o + 2), .int (Int32.ofInt (-1))]) (R' := rJ7_fill_53178 0 0) (okX6_clear.1 41 _ _ rfl) lkJ7_fill_53178 (Or.inl kX6_120) rfl (Nat.le_of_ble_eq_true rfl) ⟨by decide, by decide⟩ ⟨(Nat.le_of_ble_eq_true rfl), (Nat.le_of_ble_eq_true rfl)⟩ (Nat.le_of_ble_eq_true rfl) (c_J7_fill_53178 n (o + 2) (Int32.ofInt (-1)) h5 hs e9) (fun r h' hq => ?_)
  obtain ⟨rfl, hq⟩ := hq
  replace hq := hq.symm
  subst hq
  have hs := s_J7_fill_53178 n (o + 2) (Int32.ofInt (-1)) h5 hs e9
  refine AW_go okX6_clear 1 ?_
  obtain ⟨rfl, rfl⟩ := am_i2 hf
  exact And.intro ⟨(Nat.le_of_ble_eq_true rfl), (Nat.le_of_ble_eq_true rfl)⟩ (And.intro rfl ⟨rfl, rfl⟩)
def f_X6_meet (n : Nat) (o : Nat) (a1 : Int64) (a3 : Int32) (a4 : Int32) (h : am_H) : Option (Int32 × am_H) := am_b2 (f_X6_slotOf n o a1 h) fun r1 h2 => (bif am_vp r1 4096 then ((if (am_I h2 (o + 7) (Int32.toNatClampNeg r1)) = 0 then (if (am_I h2 o 0) < (Int32.ofInt 2000) then bif am_vp (am_I h2 o 0) 2000 then (bif am_vp (am_I (am_sJ h2 (o + 3) (Int32.toNatClampNeg (am_I h2 o 0)) a1) o 0) 2000 then (bif am_vp (am_I (am_sI (am_sJ h2 (o + 3) (Int32.toNatClampNeg (am_I h2 o 0)) a1) (o + 5) (Int32.toNatClampNeg (am_I (am_sJ h2 (o + 3) (Int32.toNatClampNeg (am_I h2 o 0)) a1) o 0)) a3) o 0) 2000 then (bif am_vp (am_I (am_sI (am_sI (am_sJ h2 (o + 3) (Int32.toNatClampNeg (am_I h2 o 0)) a1) (o + 5) (Int32.toNatClampNeg (am_I (am_sJ h2 (o + 3) (Int32.toNatClampNeg (am_I h2 o 0)) a1) o 0)) a3) (o + 6) (Int32.toNatClampNeg (am_I (am_sI (am_sJ h2 (o + 3) (Int32.toNatClampNeg (am_I h2 o 0)) a1) (o + 5) (Int32.toNatClampNeg (am_I (am_sJ h2 (o + 3) (Int32.toNatClampNeg (am_I h2 o 0)) a1) o 0)) a3) o 0)) a4) o 0) 2000 then (some (((am_I (am_sI (am_sI (am_sI (am_sI (am_sI (am_sJ h2 (o + 3) (Int32.toNatClampNeg (am_I h2 o 0)) a1) (o + 5) (Int32.toNatClampNeg (am_I (am_sJ h2 (o + 3) (Int32.toNatClampNeg (am_I h2 o 0)) a1) o 0)) a3) (o + 6) (Int32.toNatClampNeg (am_I (am_sI (am_sJ h2 (o + 3) (Int32.toNatClampNeg (am_I h2 o 0)) a1) (o + 5) (Int32.toNatClampNeg (am_I (am_sJ h2 (o + 3) (Int32.toNatClampNeg (am_I h2 o 0)) a1) o 0)) a3) o 0)) a4) (o + 9) (Int32.toNatClampNeg (am_I (am_sI (am_sI (am_sJ h2 (o + 3) (Int32.toNatClampNeg (am_I h2 o 0)) a1) (o + 5) (Int32.toNatClampNeg (am_I (am_sJ h2 (o + 3) (Int32.toNatClampNeg (am_I h2 o 0)) a1) o 0)) a3) (o + 6) (Int32.toNatClampNeg (am_I (am_sI (am_sJ h2 (o + 3) (Int32.toNatClampNeg (am_I h2 o 0)) a1) (o + 5) (Int32.toNatClampNeg (am_I (am_sJ h2 (o + 3) (Int32.toNatClampNeg (am_I h2 o 0)) a1) o 0)) a3) o 0)) a4) o 0)) (Int32.ofInt (-1))) o 0 ((am_I (am_sI (am_sI (am_sI (am_sJ h2 (o + 3) (Int32.toNatClampNeg (am_I h2 o 0)) a1) (o + 5) (Int32.toNatClampNeg (am_I (am_sJ h2 (o + 3) (Int32.toNatClampNeg (am_I h2 o 0)) a1) o 0)) a3) (o + 6) (Int32.toNatClampNeg (am_I (am_sI (am_sJ h2 (o + 3) (Int32.toNatClampNeg (am_I h2 o 0)) a1) (o + 5) (Int32.toNatClampNeg (am_I (am_sJ h2 (o + 3) (Int32.toNatClampNeg (am_I h2 o 0)) a1) o 0)) a3) o 0)) a4) (o + 9) (Int32.toNatClampNeg (am_I (am_sI (am_sI (am_sJ h2 (o + 3) (Int32.toNatClampNeg (am_I h2 o 0)) a1) (o + 5) (Int32.toNatClampNeg (am_I (am_sJ h2 (o + 3) (Int32.toNatClampNeg (am_I h2 o 0)) a1) o 0)) a3) (o + 6) (Int32.toNatClampNeg (am_I (am_sI (am_sJ h2 (o + 3) (Int32.toNatClampNeg (am_I h2 o 0)) a1) (o + 5) (Int32.toNatClampNeg (am_I (am_sJ h2 (o + 3) (Int32.toNatClampNeg (am_I h2 o 0)) a1) o 0)) a3) o 0)) a4) o 0)) (Int32.ofInt (-1))) o 0) + (Int32.ofInt 1))) (o + 7) (Int32.toNatClampNeg r1) (am_I (am_sI (am_sI (am_sI (am_sI (am_sJ h2 (o + 3) (Int32.toNatClampNeg (am_I h2 o 0)) a1) (o + 5) (Int32.toNatClampNeg (am_I (am_sJ h2 (o + 3) (Int32.toNatClampNeg (am_I h2 o 0)) a1) o 0)) a3) (o + 6) (Int32.toNatClampNeg (am_I (am_sI (am_sJ h2 (o + 3) (Int32.toNatClampNeg (am_I h2 o 0)) a1) (o + 5) (Int32.toNatClampNeg (am_I (am_sJ h2 (o + 3) (Int32.toNatClampNeg (am_I h2 o 0)) a1) o 0)) a3) o 0)) a4) (o + 9) (Int32.toNatClampNeg (am_I (am_sI (am_sI (am_sJ h2 (o + 3) (Int32.toNatClampNeg (am_I h2 o 0)) a1) (o + 5) (Int32.toNatClampNeg (am_I (am_sJ h2 (o + 3) (Int32.toNatClampNeg (am_I h2 o 0)) a1) o 0)) a3) (o + 6) (Int32.toNatClampNeg (am_I (am_sI (am_sJ h2 (o + 3) (Int32.toNatClampNeg (am_I h2 o 0)) a1) (o + 5) (Int32.toNatClampNeg (am_I (am_sJ h2 (o + 3) (Int32.toNatClampNeg (am_I h2 o 0)) a1) o 0)) a3) o 0)) a4) o 0)) (Int32.ofInt (-1))) o 0 ((am_I (am_sI (am_sI (am_sI (am_sJ h2 (o + 3) (Int32.toNatClampNeg (am_I h2 o 0)) a1) (o + 5) (Int32.toNatClampNeg (am_I (am_sJ h2 (o + 3) (Int32.toNatClampNeg (am_I h2 o 0)) a1) o 0)) a3) (o + 6) (Int32.toNatClampNeg (am_I (am_sI (am_sJ h2 (o + 3) (Int32.toNatClampNeg (am_I h2 o 0)) a1) (o + 5) (Int32.toNatClampNeg (am_I (am_sJ h2 (o + 3) (Int32.toNatClampNeg (am_I h2 o 0)) a1) o 0)) a3) o 0)) a4) (o + 9) (Int32.toNatClampNeg (am_I (am_sI (am_sI (am_sJ h2 (o + 3) (Int32.toNatClampNeg (am_I h2 o 0)) a1) (o + 5) (Int32.toNatClampNeg (am_I (am_sJ h2 (o + 3) (Int32.toNatClampNeg (am_I h2 o 0)) a1) o 0)) a3) (o + 6) (Int32.toNatClampNeg (am_I (am_sI (am_sJ h2 (o + 3) (Int32.toNatClampNeg (am_I h2 o 0)) a1) (o + 5) (Int32.toNatClampNeg (am_I (am_sJ h2 (o + 3) (Int32.toNatClampNeg (am_I h2 o 0)) a1) o 0)) a3) o 0)) a4) o 0)) (Int32.ofInt (-1))) o 0) + (Int32.ofInt 1))) o 0)) o 0) - (Int32.ofInt 1)), (am_sI (am_sI (am_sI (am_sI (am_sI (am_sJ h2 (o + 3) (Int32.toNatClampNeg (am_I h2 o 0)) a1) (o + 5) (Int32.toNatClampNeg (am_I (am_sJ h2 (o + 3) (Int32.toNatClampNeg (am_I h2 o 0)) a1) o 0)) a3) (o + 6) (Int32.toNatClampNeg (am_I (am_sI (am_sJ h2 (o + 3) (Int32.toNatClampNeg (am_I h2 o 0)) a1) (o + 5) (Int32.toNatClampNeg (am_I (am_sJ h2 (o + 3) (Int32.toNatClampNeg (am_I h2 o 0)) a1) o 0)) a3) o 0)) a4) (o + 9) (Int32.toNatClampNeg (am_I (am_sI (am_sI (am_sJ h2 (o + 3) (Int32.toNatClampNeg (am_I h2 o 0)) a1) (o + 5) (Int32.toNatClampNeg (am_I (am_sJ h2 (o + 3) (Int32.toNatClampNeg (am_I h2 o 0)) a1) o 0)) a3) (o + 6) (Int32.toNatClampNeg (am_I (am_sI (am_sJ h2 (o + 3) (Int32.toNatClampNeg (am_I h2 o 0)) a1) (o + 5) (Int32.toNatClampNeg (am_I (am_sJ h2 (o + 3) (Int32.toNatClampNeg (am_I h2 o 0)) a1) o 0)) a3) o 0)) a4) o 0)) (Int32.ofInt (-1))) o 0 ((am_I (am_sI (am_sI (am_sI (am_sJ h2 (o + 3) (Int32.toNatClampNeg (am_I h2 o 0)) a1) (o + 5) (Int32.toNatClampNeg (am_I (am_sJ h2 (o + 3) (Int32.toNatClampNeg (am_I h2 o 0)) a1) o 0)) a3) (o + 6) (Int32.toNatClampNeg (am_I (am_sI (am_sJ h2 (o + 3) (Int32.toNatClampNeg (am_I h2 o 0)) a1) (o + 5) (Int32.toNatClampNeg (am_I (am_sJ h2 (o + 3) (Int32.toNatClampNeg (am_I h2 o 0)) a1) o 0)) a3) o 0)) a4) (o + 9) (Int32.toNatClampNeg (am_I (am_sI (am_sI (am_sJ h2 (o + 3) (Int32.toNatClampNeg (am_I h2 o 0)) a1) (o + 5) (Int32.toNatClampNeg (am_I (am_sJ h2 (o + 3) (Int32.toNatClampNeg (am_I h2 o 0)) a1) o 0)) a3) (o + 6) (Int32.toNatClampNeg (am_I (am_sI (am_sJ h2 (o + 3) (Int32.toNatClampNeg (am_I h2 o 0)) a1) (o + 5) (Int32.toNatClampNeg (am_I (am_sJ h2 (o + 3) (Int32.toNatClampNeg (am_I h2 o 0)) a1) o 0)) a3) o 0)) a4) o 0)) (Int32.ofInt (-1))) o 0) + (Int32.ofInt 1))) (o + 7) (Int32.toNatClampNeg r1) (am_I (am_sI (am_sI (am_sI (am_sI (am_sJ h2 (o + 3) (Int32.toNatClampNeg (am_I h2 o 0)) a1) (o + 5) (Int32.toNatClampNeg (am_I (am_sJ h2 (o + 3) (Int32.toNatClampNeg (am_I h2 o 0)) a1) o 0)) a3) (o + 6) (Int32.toNatClampNeg (am_I (am_sI (am_sJ h2 (o + 3) (Int32.toNatClampNeg (am_I h2 o 0)) a1) (o + 5) (Int32.toNatClampNeg (am_I (am_sJ h2 (o + 3) (Int32.toNatClampNeg (am_I h2 o 0)) a1) o 0)) a3) o 0)) a4) (o + 9) (Int32.toNatClampNeg (am_I (am_sI (am_sI (am_sJ h2 (o + 3) (Int32.toNatClampNeg (am_I h2 o 0)) a1) (o + 5) (Int32.toNatClampNeg (am_I (am_sJ h2 (o + 3) (Int32.toNatClampNeg (am_I h2 o 0)) a1) o 0)) a3) (o + 6) (Int32.toNatClampNeg (am_I (am_sI (am_sJ h2 (o + 3) (Int32.toNatClampNeg (am_I h2 o 0)) a1) (o + 5) (Int32.toNatClampNeg (am_I (am_sJ h2 (o + 3) (Int32.toNatClampNeg (am_I h2 o 0)) a1) o 0)) a3) o 0)) a4) o 0)) (Int32.ofInt (-1))) o 0 ((am_I (am_sI (am_sI (am_sI (am_sJ h2 (o + 3) (Int32.toNatClampNeg (am_I h2 o 0)) a1) (o + 5) (Int32.toNatClampNeg (am_I (am_sJ h2 (o + 3) (Int32.toNatClampNeg (am_I h2 o 0)) a1) o 0)) a3) (o + 6) (Int32.toNatClampNeg (am_I (am_sI (am_sJ h2 (o + 3) (Int32.toNatClampNeg (am_I h2 o 0)) a1) (o + 5) (Int32.toNatClampNeg (am_I (am_sJ h2 (o + 3) (Int32.toNatClampNeg (am_I h2 o 0)) a1) o 0)) a3) o 0)) a4) (o + 9) (Int32.toNatClampNeg (am_I (am_sI (am_sI (am_sJ h2 (o + 3) (Int32.toNatClampNeg (am_I h2 o 0)) a1) (o + 5) (Int32.toNatClampNeg (am_I (am_sJ h2 (o + 3) (Int32.toNatClampNeg (am_I h2 o 0)) a1) o 0)) a3) (o + 6) (Int32.toNatClampNeg (am_I (am_sI (am_sJ h2 (o + 3) (Int32.toNatClampNeg (am_I h2 o 0)) a1) (o + 5) (Int32.toNatClampNeg (am_I (am_sJ h2 (o + 3) (Int32.toNatClampNeg (am_I h2 o 0)) a1) o 0)) a3) o 0)) a4) o 0)) (Int32.ofInt (-1))) o 0) + (Int32.ofInt 1))) o 0)))) else none) else none) else none) else none else some ((Int32.ofInt (-1)), h2)) else some (((am_I h2 (o + 7) (Int32.toNatClampNeg r1)) - (Int32.ofInt 1)), h2))) else none)
set_option maxRecDepth 100000 in
theorem s_X6_meet (n : Nat) (o : Nat) (a1 : Int64) (a3 : Int32) (a4 : Int32) (h : am_H) (ho : o = 37 ∨ o = 37) (hs : am_stat h) {v : Int32} {h' : am_H} (hf : f_X6_meet n o a1 a3 a4 h = some (v, h')) : am_stat h' := by
  unfold f_X6_meet at hf
  obtain ⟨r1, h2, e3, hf⟩ := am_b2_ok hf
  have hs := s_X6_slotOf n o a1 h ho hs e3
  obtain ⟨b4, hf⟩ := am_bis hf
  by_cases c5 : (am_I h2 (o + 7) (Int32.toNatClampNeg r1)) = 0
  · rw [if_pos c5] at hf
    by_cases c6 : (am_I h2 o 0) < (Int32.ofInt 2000)
    · rw [if_pos c6] at hf
      obtain ⟨b7, hf⟩ := am_bis hf
      obtain ⟨b8, hf⟩ := am_bis hf
      obtain ⟨b9, hf⟩ := am_bis hf
      obtain ⟨b10, hf⟩ := am_bis hf
      obtain ⟨rfl, rfl⟩ := am_i2 hf
      exact hs
    · rw [if_neg c6] at hf
      obtain ⟨rfl, rfl⟩ := am_i2 hf
      exact hs
  · rw [if_neg c5] at hf
    obtain ⟨rfl, rfl⟩ := am_i2 hf
    exact hs
set_option maxRecDepth 100000 in
theorem c_X6_meet (n : Nat) (o : Nat) (a1 : Int64) (a3 : Int32) (a4 : Int32) (h : am_H) (ho : o = 37 ∨ o = 37) (hs : am_stat h) {v : Int32} {h' : am_H} (hf : f_X6_meet n o a1 a3 a4 h = some (v, h')) : AMet mX6_meet (rX6_meet 0 0) (fun r h2 => r = some (.int v) ∧ h2 = h') [.ref o, .long a1, .int a3, .int a4] h := by
  unfold f_X6_meet at hf
  refine AW_go okX6_meet 2 ?_
  obtain ⟨r1, h2, e3, hf⟩ := am_b2_ok hf
  refine AW_callV (As := [.long a1]) (R' := rX6_slotOf 0 0) (T := TX6) (N := 15) (ci := 6) (okX6_meet.1 2 _ _ rfl) lkX6_slotOf kX6_91 rfl (sv_K0 hs ho) rfl (Nat.le_of_ble_eq_true rfl) ⟨by decide, by decide⟩ ⟨(Nat.le_of_ble_eq_true rfl), (Nat.le_of_ble_eq_true rfl)⟩ (Nat.le_of_ble_eq_true rfl) (c_X6_slotOf n o a1 h ho hs e3) (fun r h' hq => ?_)
  obtain ⟨rfl, hq⟩ := hq
  replace hq := hq.symm
  subst hq
  have hs := s_X6_slotOf n o a1 h ho hs e3
  obtain ⟨b4, hf⟩ := am_bis hf
  refine AW_go okX6_meet 6 ?_
  refine And.intro (sv_K0 hs ho) (Exists.intro _ (And.intro (sv_A hs ho 9 7) ?_))
  refine Exists.intro 4096 (And.intro (sv_K hs ho 7) (And.intro (am_vp_ok b4) ?_))
  refine And.intro (fun c5 => ?_) (fun c5 => ?_)
  · rw [if_pos c5] at hf
    refine AW_go okX6_meet 4 ?_
    refine And.intro (sv_K0 hs ho) ?_
    refine And.intro (fun c6 => ?_) (fun c6 => ?_)
    · rw [if_pos c6] at hf
      obtain ⟨b7, hf⟩ := am_bis hf
      obtain ⟨b8, hf⟩ := am_bis hf
      obtain ⟨b9, hf⟩ := am_bis hf
      obtain ⟨b10, hf⟩ := am_bis hf
      refine AW_go okX6_meet 41 ?_
      refine And.intro (sv_K0 hs ho) (Exists.intro _ (And.intro (sv_A hs ho 5 3) ?_))
      refine And.intro (sv_K0 hs ho) ?_
      refine Exists.intro 2000 (And.intro (sv_K hs ho 3) (And.intro (am_vp_ok b7) ?_))
      refine And.intro (sv_K0 hs ho) (Exists.intro _ (And.intro (sv_A hs ho 7 5) ?_))
      refine And.intro (sv_K0 hs ho) ?_
      refine Exists.intro 2000 (And.intro (sv_K hs ho 5) (And.intro (am_vp_ok b8) ?_))
      refine And.intro (sv_K0 hs ho) (Exists.intro _ (And.intro (sv_A hs ho 8 6) ?_))
      refine And.intro (sv_K0 hs ho) ?_
      refine Exists.intro 2000 (And.intro (sv_K hs ho 6) (And.intro (am_vp_ok b9) ?_))
      refine And.intro (sv_K0 hs ho) (Exists.intro _ (And.intro (sv_A hs ho 11 9) ?_))
      refine And.intro (sv_K0 hs ho) ?_
      refine Exists.intro 2000 (And.intro (sv_K hs ho 9) (And.intro (am_vp_ok b10) ?_))
      refine And.intro (sv_K0 hs ho) ?_
      refine And.intro (sv_K0 hs ho) ?_
      refine And.intro (sv_K0 hs ho) (Exists.intro _ (And.intro (sv_A hs ho 9 7) ?_))
      refine And.intro (sv_K0 hs ho) ?_
      refine Exists.intro 4096 (And.intro (sv_K hs ho 7) (And.intro (am_vp_ok b4) ?_))
      refine And.intro (sv_K0 hs ho) ?_
      obtain ⟨rfl, rfl⟩ := am_i2 hf
      exact And.intro ⟨(Nat.le_of_ble_eq_true rfl), (Nat.le_of_ble_eq_true rfl)⟩ (And.intro (Or.inl rfl) ⟨rfl, rfl⟩)
    · rw [if_neg c6] at hf
      refine AW_go okX6_meet 2 ?_
      obtain ⟨rfl, rfl⟩ := am_i2 hf
      exact And.intro ⟨(Nat.le_of_ble_eq_true rfl), (Nat.le_of_ble_eq_true rfl)⟩ (And.intro (Or.inl rfl) ⟨rfl, rfl⟩)
  · rw [if_neg c5] at hf
    refine AW_go okX6_meet 7 ?_
    refine And.intro (sv_K0 hs ho) (Exists.intro _ (And.intro (sv_A hs ho 9 7) ?_))
    refine Exists.intro 4096 (And.intro (sv_K hs ho 7) (And.intro (am_vp_ok b4) ?_))
    obtain ⟨rfl, rfl⟩ := am_i2 hf
    exact And.intro ⟨(Nat.le_of_ble_eq_true rfl), (Nat.le_of_ble_eq_true rfl)⟩ (And.intro (Or.inl rfl) ⟨rfl, rfl⟩)
def f_X7_loadIn (a1 : Int64) (a3 : Int32) (h : am_H) : Option (Int32 × am_H) := bif am_vp a3 6 then (am_b2 (f_X7_contentIn a1 a3 h) fun r2 h3 => (am_b2 (f_X7_load (am_I h 29 (Int32.toNatClampNeg a3)) r2 h3) fun r5 h6 => (some (r5, h6)))) else none
set_option maxRecDepth 100000 in
theorem s_X7_loadIn (a1 : Int64) (a3 : Int32) (h : am_H) (hs : am_stat h) {v : Int32} {h' : am_H} (hf : f_X7_loadIn a1 a3 h = some (v, h')) : am_stat h' := by
  unfold f_X7_loadIn at hf
  obtain ⟨b1, hf⟩ := am_bis hf
  obtain ⟨r2, h3, e4, hf⟩ := am_b2_ok hf
  have hs := s_X7_contentIn a1 a3 h hs e4
  obtain ⟨r5, h6, e7, hf⟩ := am_b2_ok hf
  have hs := s_X7_load (am_I h 29 (Int32.toNatClampNeg a3)) r2 h3 hs e7
  obtain ⟨rfl, rfl⟩ := am_i2 hf
  exact hs
set_option maxRecDepth 100000 in
theorem c_X7_loadIn (a1 : Int64) (a3 : Int32) (h : am_H) (hs : am_stat h) {v : Int32} {h' : am_H} (hf : f_X7_loadIn a1 a3 h = some (v, h')) : AMet mX7_loadIn (rX7_loadIn 0 0) (fun r h2 => r = some (.int v) ∧ h2 = h') [.ref 28, .long a1, .int a3] h := by
  unfold f_X7_loadIn at hf
  obtain ⟨b1, hf⟩ := am_bis hf
  refine AW_go okX7_loadIn 6 ?_
  refine And.intro (sK hs 28) (Exists.intro _ (And.intro (sA hs 28 1) ?_))
  refine Exists.intro 6 (And.intro (sK hs 29) (And.intro (am_vp_ok b1) ?_))
  obtain ⟨r2, h3, e4, hf⟩ := am_b2_ok hf
  refine AW_callS (As := [.long a1, .int a3]) (R' := rX7_contentIn 0 0) (okX7_loadIn.1 8 _ _ rfl) lkX7_contentIn (Or.inl kX7_65) rfl (Nat.le_of_ble_eq_true rfl) ⟨by decide, by decide⟩ ⟨(Nat.le_of_ble_eq_true rfl), (Nat.le_of_ble_eq_true rfl)⟩ (Nat.le_of_ble_eq_true rfl) (c_X7_contentIn a1 a3 h hs e4) (fun r h' hq => ?_)
  obtain ⟨rfl, hq⟩ := hq
  replace hq := hq.symm
  subst hq
  have hs := s_X7_contentIn a1 a3 h hs e4
  obtain ⟨r5, h6, e7, hf⟩ := am_b2_ok hf
  refine AW_callS (As := [.int (am_I h 29 (Int32.toNatClampNeg a3)), .int r2]) (R' := rX7_load 0 0) (okX7_loadIn.1 11 _ _ rfl) lkX7_load (Or.inl kX7_69) rfl (Nat.le_of_ble_eq_true rfl) ⟨by decide, by decide⟩ ⟨(Nat.le_of_ble_eq_true rfl), (Nat.le_of_ble_eq_true rfl)⟩ (Nat.le_of_ble_eq_true rfl) (c_X7_load (am_I h 29 (Int32.toNatClampNeg a3)) r2 h3 hs e7) (fun r h' hq => ?_)
  obtain ⟨rfl, hq⟩ := hq
  replace hq := hq.symm
  subst hq
  have hs := s_X7_load (am_I h 29 (Int32.toNatClampNeg a3)) r2 h3 hs e7
  refine AW_go okX7_loadIn 1 ?_
  obtain ⟨rfl, rfl⟩ := am_i2 hf
  exact And.intro ⟨(Nat.le_of_ble_eq_true rfl), (Nat.le_of_ble_eq_true rfl)⟩ (And.intro (Or.inl rfl) ⟨rfl, rfl⟩)
def g_X7_lyingInAll : Nat → Nat → Int64 → Int32 → Int32 → am_H → Option (Int32 × am_H)
  | 0, _, _, _, _, _ => none
  | n + 1, _, a1, x3i, x4i, h => (if (Int32.ofInt 6) ≤ x4i then some (x3i, h) else am_b2 (f_X7_loadIn a1 x4i h) fun r2 h3 => (g_X7_lyingInAll n 0 a1 (x3i + r2) (x4i + Int32.ofInt 1) h3))
set_option maxRecDepth 100000 in
set_option maxHeartbeats 4000000 in
theorem m_X7_lyingInAll (n : Nat) : (∀ (a1 : Int64) (x3i : Int32) (x4i : Int32) (h : am_H) (v : Int32) (h' : am_H), am_stat h → g_X7_lyingInAll n 0 a1 x3i x4i h = some (v, h') → am_stat h') := by
  induction n with
  | zero => exact fun a1 x3i x4i h v h' hs hf => (by cases hf)
  | succ n ih =>
    skip
    · intro a1 x3i x4i h v h' hs hf
      have hf : ((if (Int32.ofInt 6) ≤ x4i then some (x3i, h) else am_b2 (f_X7_loadIn a1 x4i h) fun r2 h3 => (g_X7_lyingInAll n 0 a1 (x3i + r2) (x4i + Int32.ofInt 1) h3))) = some (v, h') := hf
      by_cases c1 : (Int32.ofInt 6) ≤ x4i
      · rw [if_pos c1] at hf
        obtain ⟨rfl, rfl⟩ := am_i2 hf
        exact hs
      · rw [if_neg c1] at hf
        obtain ⟨r2, h3, e4, hf⟩ := am_b2_ok hf
        have hs := s_X7_loadIn a1 x4i h hs e4
        exact ih a1 (x3i + r2) (x4i + Int32.ofInt 1) h3 _ _ hs hf
set_option maxRecDepth 100000 in
set_option maxHeartbeats 4000000 in
theorem l_X7_lyingInAll (n : Nat) : (∀ (a1 : Int64) (x3i : Int32) (x4i : Int32) (h : am_H) (v : Int32) (h' : am_H), am_stat h → g_X7_lyingInAll n 0 a1 x3i x4i h = some (v, h') → AW mX7_lyingInAll (rX7_lyingInAll 0 0) (fun r h2 => r = some (.int v) ∧ h2 = h') 5 [(0, .ref 28), (1, .long a1), (3, .int x3i), (4, .int x4i)] [] h 0 0) := by
  induction n with
  | zero => exact fun a1 x3i x4i h v h' hs hf => (by cases hf)
  | succ n ih =>
    skip
    · intro a1 x3i x4i h v h' hs hf
      have hf : ((if (Int32.ofInt 6) ≤ x4i then some (x3i, h) else am_b2 (f_X7_loadIn a1 x4i h) fun r2 h3 => (g_X7_lyingInAll n 0 a1 (x3i + r2) (x4i + Int32.ofInt 1) h3))) = some (v, h') := hf
      refine AW_go okX7_lyingInAll 3 ?_
      refine And.intro (fun c1 => ?_) (fun c1 => ?_)
      · rw [if_pos c1] at hf
        refine AW_go okX7_lyingInAll 2 ?_
        obtain ⟨rfl, rfl⟩ := am_i2 hf
        exact And.intro ⟨(Nat.le_of_ble_eq_true rfl), (Nat.le_of_ble_eq_true rfl)⟩ (And.intro (Or.inl rfl) ⟨rfl, rfl⟩)
      · rw [if_neg c1] at hf
        refine AW_go okX7_lyingInAll 4 ?_
        obtain ⟨r2, h3, e4, hf⟩ := am_b2_ok hf
        refine AW_callV (As := [.long a1, .int x4i]) (R' := rX7_loadIn 0 0) (T := TX7) (N := 10) (ci := 7) (okX7_lyingInAll.1 17 _ _ rfl) lkX7_loadIn kX7_72 rfl (sK hs 28) rfl (Nat.le_of_ble_eq_true rfl) ⟨by decide, by decide⟩ ⟨(Nat.le_of_ble_eq_true rfl), (Nat.le_of_ble_eq_true rfl)⟩ (Nat.le_of_ble_eq_true rfl) (c_X7_loadIn a1 x4i h hs e4) (fun r h' hq => ?_)
        obtain ⟨rfl, hq⟩ := hq
        replace hq := hq.symm
        subst hq
        have hs := s_X7_loadIn a1 x4i h hs e4
        refine AW_go okX7_lyingInAll 4 ?_
        refine AW_pick (lv' := [(0, .ref 28), (1, .long a1), (3, .int (x3i + r2)), (4, .int (x4i + Int32.ofInt 1))]) [2, 3, 1, 0] rfl ?_
        exact ih a1 (x3i + r2) (x4i + Int32.ofInt 1) h3 _ _ hs hf
def f_X7_lyingInAll (n : Nat) (a1 : Int64) (h : am_H) : Option (Int32 × am_H) := g_X7_lyingInAll n 0 a1 (Int32.ofInt 0) (Int32.ofInt 0) h
set_option maxRecDepth 100000 in
theorem s_X7_lyingInAll (n : Nat) (a1 : Int64) (h : am_H) (hs : am_stat h) {v : Int32} {h' : am_H} (hf : f_X7_lyingInAll n a1 h = some (v, h')) : am_stat h' := by
  unfold f_X7_lyingInAll at hf
  exact (m_X7_lyingInAll n) a1 (Int32.ofInt 0) (Int32.ofInt 0) h _ _ hs hf
set_option maxRecDepth 100000 in
theorem c_X7_lyingInAll (n : Nat) (a1 : Int64) (h : am_H) (hs : am_stat h) {v : Int32} {h' : am_H} (hf : f_X7_lyingInAll n a1 h = some (v, h')) : AMet mX7_lyingInAll (rX7_lyingInAll 0 0) (fun r h2 => r = some (.int v) ∧ h2 = h') [.ref 28, .long a1] h := by
  unfold f_X7_lyingInAll at hf
  refine AW_go okX7_lyingInAll 4 ?_
  refine AW_pick (lv' := [(0, .ref 28), (1, .long a1), (3, .int (Int32.ofInt 0)), (4, .int (Int32.ofInt 0))]) [2, 3, 1, 0] rfl ?_
  exact (l_X7_lyingInAll n) a1 (Int32.ofInt 0) (Int32.ofInt 0) h _ _ hs hf
def g_X7_lying : Nat → Nat → Int64 → Int32 → Int32 → Int32 → Int32 → Int32 → Int32 → am_H → Option (Int32 × am_H)
  | 0, _, _, _, _, _, _, _, _, _ => none
  | n + 1, _, a1, a3, a4, x5i, x6i, x7i, x8i, h => (if (Int32.ofInt 4) ≤ x8i then some (x7i, h) else (if a4 < x6i then some (x7i, h) else g_X7_lying n 0 a1 a3 a4 x5i (x6i + (((Int32.toUInt32 x5i >>> (Int32.toUInt32 ((Int32.ofInt 2) * x8i) &&& Int32.toUInt32 31)).toInt32) &&& (Int32.ofInt 3))) x8i (x8i + Int32.ofInt 1) h))
set_option maxRecDepth 100000 in
set_option maxHeartbeats 4000000 in
theorem m_X7_lying (n : Nat) : (∀ (a1 : Int64) (a3 : Int32) (a4 : Int32) (x5i : Int32) (x6i : Int32) (x7i : Int32) (x8i : Int32) (h : am_H) (v : Int32) (h' : am_H), am_stat h → g_X7_lying n 0 a1 a3 a4 x5i x6i x7i x8i h = some (v, h') → am_stat h') := by
  induction n with
  | zero => exact fun a1 a3 a4 x5i x6i x7i x8i h v h' hs hf => (by cases hf)
  | succ n ih =>
    skip
    · intro a1 a3 a4 x5i x6i x7i x8i h v h' hs hf
      have hf : ((if (Int32.ofInt 4) ≤ x8i then some (x7i, h) else (if a4 < x6i then some (x7i, h) else g_X7_lying n 0 a1 a3 a4 x5i (x6i + (((Int32.toUInt32 x5i >>> (Int32.toUInt32 ((Int32.ofInt 2) * x8i) &&& Int32.toUInt32 31)).toInt32) &&& (Int32.ofInt 3))) x8i (x8i + Int32.ofInt 1) h))) = some (v, h') := hf
      by_cases c1 : (Int32.ofInt 4) ≤ x8i
      · rw [if_pos c1] at hf
        obtain ⟨rfl, rfl⟩ := am_i2 hf
        exact hs
      · rw [if_neg c1] at hf
        by_cases c2 : a4 < x6i
        · rw [if_pos c2] at hf
          obtain ⟨rfl, rfl⟩ := am_i2 hf
          exact hs
        · rw [if_neg c2] at hf
          exact ih a1 a3 a4 x5i (x6i + (((Int32.toUInt32 x5i >>> (Int32.toUInt32 ((Int32.ofInt 2) * x8i) &&& Int32.toUInt32 31)).toInt32) &&& (Int32.ofInt 3))) x8i (x8i + Int32.ofInt 1) h _ _ hs hf
set_option maxRecDepth 100000 in
set_option maxHeartbeats 4000000 in
theorem l_X7_lying (n : Nat) : (∀ (a1 : Int64) (a3 : Int32) (a4 : Int32) (x5i : Int32) (x6i : Int32) (x7i : Int32) (x8i : Int32) (h : am_H) (v : Int32) (h' : am_H), am_stat h → g_X7_lying n 0 a1 a3 a4 x5i x6i x7i x8i h = some (v, h') → AW mX7_lying (rX7_lying 0 0) (fun r h2 => r = some (.int v) ∧ h2 = h') 56 [(0, .ref 28), (1, .long a1), (3, .int a3), (4, .int a4), (5, .int x5i), (6, .int x6i), (7, .int x7i), (8, .int x8i)] [] h 0 0) := by
  induction n with
  | zero => exact fun a1 a3 a4 x5i x6i x7i x8i h v h' hs hf => (by cases hf)
  | succ n ih =>
    skip
    · intro a1 a3 a4 x5i x6i x7i x8i h v h' hs hf
      have hf : ((if (Int32.ofInt 4) ≤ x8i then some (x7i, h) else (if a4 < x6i then some (x7i, h) else g_X7_lying n 0 a1 a3 a4 x5i (x6i + (((Int32.toUInt32 x5i >>> (Int32.toUInt32 ((Int32.ofInt 2) * x8i) &&& Int32.toUInt32 31)).toInt32) &&& (Int32.ofInt 3))) x8i (x8i + Int32.ofInt 1) h))) = some (v, h') := hf
      refine AW_go okX7_lying 3 ?_
      refine And.intro (fun c1 => ?_) (fun c1 => ?_)
      · rw [if_pos c1] at hf
        refine AW_go okX7_lying 2 ?_
        obtain ⟨rfl, rfl⟩ := am_i2 hf
        exact And.intro ⟨(Nat.le_of_ble_eq_true rfl), (Nat.le_of_ble_eq_true rfl)⟩ (And.intro (Or.inl rfl) ⟨rfl, rfl⟩)
      · rw [if_neg c1] at hf
        refine AW_go okX7_lying 3 ?_
        refine And.intro (fun c2 => ?_) (fun c2 => ?_)
        · rw [if_pos c2] at hf
          refine AW_go okX7_lying 2 ?_
          obtain ⟨rfl, rfl⟩ := am_i2 hf
          exact And.intro ⟨(Nat.le_of_ble_eq_true rfl), (Nat.le_of_ble_eq_true rfl)⟩ (And.intro (Or.inl rfl) ⟨rfl, rfl⟩)
        · rw [if_neg c2] at hf
          refine AW_go okX7_lying 14 ?_
          refine AW_pick (lv' := [(0, .ref 28), (1, .long a1), (3, .int a3), (4, .int a4), (5, .int x5i), (6, .int (x6i + (((Int32.toUInt32 x5i >>> (Int32.toUInt32 ((Int32.ofInt 2) * x8i) &&& Int32.toUInt32 31)).toInt32) &&& (Int32.ofInt 3)))), (7, .int x8i), (8, .int (x8i + Int32.ofInt 1))]) [3, 4, 5, 6, 7, 1, 2, 0] rfl ?_
          exact ih a1 a3 a4 x5i (x6i + (((Int32.toUInt32 x5i >>> (Int32.toUInt32 ((Int32.ofInt 2) * x8i) &&& Int32.toUInt32 31)).toInt32) &&& (Int32.ofInt 3))) x8i (x8i + Int32.ofInt 1) h _ _ hs hf
def f_X7_lying (n : Nat) (a1 : Int64) (a3 : Int32) (a4 : Int32) (h : am_H) : Option (Int32 × am_H) := (if a4 < 0 then some ((Int32.ofInt (-1)), h) else am_b2 (f_X7_loadIn a1 a3 h) fun r2 h3 => ((if a4 < r2 then am_b2 (f_X7_contentIn a1 a3 h3) fun r6 h7 => (bif am_vp a3 6 then ((if (am_I h7 29 (Int32.toNatClampNeg a3)) = (Int32.ofInt 1) then g_X7_lying n 0 a1 a3 a4 r6 (Int32.ofInt 0) (Int32.ofInt 0) (Int32.ofInt 0) h7 else some ((((Int32.toUInt32 r6 >>> (Int32.toUInt32 ((Int32.ofInt 2) + ((Int32.ofInt 2) * a4)) &&& Int32.toUInt32 31)).toInt32) &&& (Int32.ofInt 3)), h7))) else none) else some ((Int32.ofInt (-1)), h3))))
set_option maxRecDepth 100000 in
theorem s_X7_lying (n : Nat) (a1 : Int64) (a3 : Int32) (a4 : Int32) (h : am_H) (hs : am_stat h) {v : Int32} {h' : am_H} (hf : f_X7_lying n a1 a3 a4 h = some (v, h')) : am_stat h' := by
  unfold f_X7_lying at hf
  by_cases c1 : a4 < 0
  · rw [if_pos c1] at hf
    obtain ⟨rfl, rfl⟩ := am_i2 hf
    exact hs
  · rw [if_neg c1] at hf
    obtain ⟨r2, h3, e4, hf⟩ := am_b2_ok hf
    have hs := s_X7_loadIn a1 a3 h hs e4
    by_cases c5 : a4 < r2
    · rw [if_pos c5] at hf
      obtain ⟨r6, h7, e8, hf⟩ := am_b2_ok hf
      have hs := s_X7_contentIn a1 a3 h3 hs e8
      obtain ⟨b9, hf⟩ := am_bis hf
      by_cases c10 : (am_I h7 29 (Int32.toNatClampNeg a3)) = (Int32.ofInt 1)
      · rw [if_pos c10] at hf
        exact (m_X7_lying n) a1 a3 a4 r6 (Int32.ofInt 0) (Int32.ofInt 0) (Int32.ofInt 0) h7 _ _ hs hf
      · rw [if_neg c10] at hf
        obtain ⟨rfl, rfl⟩ := am_i2 hf
        exact hs
    · rw [if_neg c5] at hf
      obtain ⟨rfl, rfl⟩ := am_i2 hf
      exact hs
set_option maxRecDepth 100000 in
theorem c_X7_lying (n : Nat) (a1 : Int64) (a3 : Int32) (a4 : Int32) (h : am_H) (hs : am_stat h) {v : Int32} {h' : am_H} (hf : f_X7_lying n a1 a3 a4 h = some (v, h')) : AMet mX7_lying (rX7_lying 0 0) (fun r h2 => r = some (.int v) ∧ h2 = h') [.ref 28, .long a1, .int a3, .int a4] h := by
  unfold f_X7_lying at hf
  refine AW_go okX7_lying 2 ?_
  refine And.intro (fun c1 => ?_) (fun c1 => ?_)
  · rw [if_pos c1] at hf
    refine AW_go okX7_lying 2 ?_
    obtain ⟨rfl, rfl⟩ := am_i2 hf
    exact And.intro ⟨(Nat.le_of_ble_eq_true rfl), (Nat.le_of_ble_eq_true rfl)⟩ (And.intro (Or.inl rfl) ⟨rfl, rfl⟩)
  · rw [if_neg c1] at hf
    refine AW_go okX7_lying 4 ?_
    obtain ⟨r2, h3, e4, hf⟩ := am_b2_ok hf
    refine AW_callV (As := [.long a1, .int a3]) (R' := rX7_loadIn 0 0) (T := TX7) (N := 10) (ci := 7) (okX7_lying.1 10 _ _ rfl) lkX7_loadIn kX7_72 rfl (sK hs 28) rfl (Nat.le_of_ble_eq_true rfl) ⟨by decide, by decide⟩ ⟨(Nat.le_of_ble_eq_true rfl), (Nat.le_of_ble_eq_true rfl)⟩ (Nat.le_of_ble_eq_true rfl) (c_X7_loadIn a1 a3 h hs e4) (fun r h' hq => ?_)
    obtain ⟨rfl, hq⟩ := hq
    replace hq := hq.symm
    subst hq
    have hs := s_X7_loadIn a1 a3 h hs e4
    refine AW_go okX7_lying 1 ?_
    refine And.intro (fun c5 => ?_) (fun c5 => ?_)
    · rw [if_pos c5] at hf
      refine AW_go okX7_lying 2 ?_
      obtain ⟨r6, h7, e8, hf⟩ := am_b2_ok hf
      refine AW_callS (As := [.long a1, .int a3]) (R' := rX7_contentIn 0 0) (okX7_lying.1 20 _ _ rfl) lkX7_contentIn (Or.inl kX7_65) rfl (Nat.le_of_ble_eq_true rfl) ⟨by decide, by decide⟩ ⟨(Nat.le_of_ble_eq_true rfl), (Nat.le_of_ble_eq_true rfl)⟩ (Nat.le_of_ble_eq_true rfl) (c_X7_contentIn a1 a3 h3 hs e8) (fun r h' hq => ?_)
      obtain ⟨rfl, hq⟩ := hq
      replace hq := hq.symm
      subst hq
      have hs := s_X7_contentIn a1 a3 h3 hs e8
      obtain ⟨b9, hf⟩ := am_bis hf
      refine AW_go okX7_lying 7 ?_
      refine And.intro (sK hs 28) (Exists.intro _ (And.intro (sA hs 28 1) ?_))
      refine Exists.intro 6 (And.intro (sK hs 29) (And.intro (am_vp_ok b9) ?_))
      refine And.intro (fun c10 => ?_) (fun c10 => ?_)
      · rw [if_pos c10] at hf
        refine AW_go okX7_lying 6 ?_
        refine AW_pick (lv' := [(0, .ref 28), (1, .long a1), (3, .int a3), (4, .int a4), (5, .int r6), (6, .int (Int32.ofInt 0)), (7, .int (Int32.ofInt 0)), (8, .int (Int32.ofInt 0))]) [4, 5, 6, 7, 3, 2, 1, 0] rfl ?_
        exact (l_X7_lying n) a1 a3 a4 r6 (Int32.ofInt 0) (Int32.ofInt 0) (Int32.ofInt 0) h7 _ _ hs hf
      · rw [if_neg c10] at hf
        refine AW_go okX7_lying 10 ?_
        obtain ⟨rfl, rfl⟩ := am_i2 hf
        exact And.intro ⟨(Nat.le_of_ble_eq_true rfl), (Nat.le_of_ble_eq_true rfl)⟩ (And.intro (Or.inl rfl) ⟨rfl, rfl⟩)
    · rw [if_neg c5] at hf
      refine AW_go okX7_lying 2 ?_
      obtain ⟨rfl, rfl⟩ := am_i2 hf
      exact And.intro ⟨(Nat.le_of_ble_eq_true rfl), (Nat.le_of_ble_eq_true rfl)⟩ (And.intro (Or.inl rfl) ⟨rfl, rfl⟩)
