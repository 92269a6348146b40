def f_X8_as (a1 : Int32) (a2 : Int32) (a3 : Int32) (h : am_H) : Option (Int32 × am_H) := am_b2 (f_X8_isPost a1 a2 h) fun r1 h2 => ((if r1 = 0 then some ((Int32.ofInt (-101)), h2) else (if a3 < 0 then some ((Int32.ofInt (-102)), h2) else (if a3 < (Int32.ofInt 5) then am_b2 (f_X8_postOf a1 a2 h2) fun r7 h8 => (bif am_vp r7 6 then (am_b2 (f_X8_isSuch (am_I h8 29 (Int32.toNatClampNeg r7)) a3 h8) fun r11 h12 => (Option.bind ((if r11 = 0 then some (Int32.ofInt (-1)) else some (((Int32.ofInt 10) * a1) + a2))) fun y14 => (some (y14, h12)))) else none) else some ((Int32.ofInt (-102)), h2)))))
set_option maxRecDepth 100000 in
theorem s_X8_as (a1 : Int32) (a2 : Int32) (a3 : Int32) (h : am_H) (hs : am_stat h) {v : Int32} {h' : am_H} (hf : f_X8_as a1 a2 a3 h = some (v, h')) : am_stat h' := by
  unfold f_X8_as at hf
  obtain ⟨r1, h2, e3, hf⟩ := am_b2_ok hf
  have hs := s_X8_isPost a1 a2 h hs e3
  by_cases c4 : r1 = 0
  · rw [if_pos c4] at hf
    obtain ⟨rfl, rfl⟩ := am_i2 hf
    exact hs
  · rw [if_neg c4] at hf
    by_cases c5 : a3 < 0
    · rw [if_pos c5] at hf
      obtain ⟨rfl, rfl⟩ := am_i2 hf
      exact hs
    · rw [if_neg c5] at hf
      by_cases c6 : a3 < (Int32.ofInt 5)
      · rw [if_pos c6] at hf
        obtain ⟨r7, h8, e9, hf⟩ := am_b2_ok hf
        have hs := s_X8_postOf a1 a2 h2 hs e9
        obtain ⟨b10, hf⟩ := am_bis hf
        obtain ⟨r11, h12, e13, hf⟩ := am_b2_ok hf
        have hs := s_X8_isSuch (am_I h8 29 (Int32.toNatClampNeg r7)) a3 h8 hs e13
        obtain ⟨y14, j15, hf⟩ := am_bnd hf
        obtain ⟨rfl, rfl⟩ := am_i2 hf
        exact hs
      · rw [if_neg c6] at hf
        obtain ⟨rfl, rfl⟩ := am_i2 hf
        exact hs
set_option maxRecDepth 100000 in
theorem c_X8_as (a1 : Int32) (a2 : Int32) (a3 : Int32) (h : am_H) (hs : am_stat h) {v : Int32} {h' : am_H} (hf : f_X8_as a1 a2 a3 h = some (v, h')) : AMet mX8_as (rX8_as 0 0) (fun r h2 => r = some (.int v) ∧ h2 = h') [.ref 0, .int a1, .int a2, .int a3] h := by
  unfold f_X8_as at hf
  refine AW_go okX8_as 2 ?_
  obtain ⟨r1, h2, e3, hf⟩ := am_b2_ok hf
  refine AW_callS (As := [.int a1, .int a2]) (R' := rX8_isPost 0 0) (okX8_as.1 2 _ _ rfl) lkX8_isPost (Or.inl kX8_190) rfl (Nat.le_of_ble_eq_true rfl) ⟨by decide, by decide⟩ ⟨(Nat.le_of_ble_eq_true rfl), (Nat.le_of_ble_eq_true rfl)⟩ (Nat.le_of_ble_eq_true rfl) (c_X8_isPost a1 a2 h hs e3) (fun r h' hq => ?_)
  obtain ⟨rfl, hq⟩ := hq
  replace hq := hq.symm
  subst hq
  have hs := s_X8_isPost a1 a2 h hs e3
  refine AW_go okX8_as 1 ?_
  refine And.intro (fun c4 => ?_) (fun c4 => ?_)
  · rw [if_neg c4] at hf
    refine AW_go okX8_as 2 ?_
    refine And.intro (fun c5 => ?_) (fun c5 => ?_)
    · rw [if_pos c5] at hf
      refine AW_go okX8_as 2 ?_
      obtain ⟨rfl, rfl⟩ := am_i2 hf
      exact And.intro ⟨(Nat.le_of_ble_eq_true rfl), (Nat.le_of_ble_eq_true rfl)⟩ (And.intro (Or.inl rfl) ⟨rfl, rfl⟩)
    · rw [if_neg c5] at hf
      refine AW_go okX8_as 3 ?_
      refine And.intro (fun c6 => ?_) (fun c6 => ?_)
      · rw [if_pos c6] at hf
        refine AW_go okX8_as 5 ?_
        refine And.intro (sK hs 0) (Exists.intro _ (And.intro (sA hs 0 9) ?_))
        refine And.intro (sK hs 28) (Exists.intro _ (And.intro (sA hs 28 1) ?_))
        obtain ⟨r7, h8, e9, hf⟩ := am_b2_ok hf
        refine AW_callS (As := [.int a1, .int a2]) (R' := rX8_postOf 0 0) (okX8_as.1 32 _ _ rfl) lkX8_postOf (Or.inl kX8_194) rfl (Nat.le_of_ble_eq_true rfl) ⟨by decide, by decide⟩ ⟨(Nat.le_of_ble_eq_true rfl), (Nat.le_of_ble_eq_true rfl)⟩ (Nat.le_of_ble_eq_true rfl) (c_X8_postOf a1 a2 h2 hs e9) (fun r h' hq => ?_)
        obtain ⟨rfl, hq⟩ := hq
        replace hq := hq.symm
        subst hq
        have hs := s_X8_postOf a1 a2 h2 hs e9
        obtain ⟨b10, hf⟩ := am_bis hf
        refine AW_go okX8_as 2 ?_
        refine Exists.intro 6 (And.intro (sK hs 29) (And.intro (am_vp_ok b10) ?_))
        obtain ⟨r11, h12, e13, hf⟩ := am_b2_ok hf
        refine AW_callS (As := [.int (am_I h8 29 (Int32.toNatClampNeg r7)), .int a3]) (R' := rX8_isSuch 0 0) (okX8_as.1 37 _ _ rfl) lkX8_isSuch (Or.inl kX8_200) rfl (Nat.le_of_ble_eq_true rfl) ⟨by decide, by decide⟩ ⟨(Nat.le_of_ble_eq_true rfl), (Nat.le_of_ble_eq_true rfl)⟩ (Nat.le_of_ble_eq_true rfl) (c_X8_isSuch (am_I h8 29 (Int32.toNatClampNeg r7)) a3 h8 hs e13) (fun r h' hq => ?_)
        obtain ⟨rfl, hq⟩ := hq
        replace hq := hq.symm
        subst hq
        have hs := s_X8_isSuch (am_I h8 29 (Int32.toNatClampNeg r7)) a3 h8 hs e13
        obtain ⟨y14, j15, hf⟩ := am_bnd hf
        refine am_cut (P := AW mX8_as (rX8_as 0 0) (fun r h2 => r = some (.int v) ∧ h2 = h') 53 [(0, .ref 0), (1, .int a1), (2, .int a2), (3, .int a3)] [.int y14] h12 0 0) (fun hJ15 => ?_) ?_
        · have hs := hs
          refine AW_go okX8_as 1 ?_
          refine And.intro (fun c16 => ?_) (fun c16 => ?_)
          · rw [if_pos c16] at j15
            refine AW_go okX8_as 1 ?_
            obtain rfl := am_i1 j15
            exact AW_pick [0, 1, 2, 3] rfl hJ15
          · rw [if_neg c16] at j15
            refine AW_go okX8_as 6 ?_
            obtain rfl := am_i1 j15
            exact AW_pick [0, 1, 2, 3] rfl hJ15
        refine AW_go okX8_as 1 ?_
        obtain ⟨rfl, rfl⟩ := am_i2 hf
        exact And.intro ⟨(Nat.le_of_ble_eq_true rfl), (Nat.le_of_ble_eq_true rfl)⟩ (And.intro (Or.inl rfl) ⟨rfl, rfl⟩)
      · rw [if_neg c6] at hf
        refine AW_go okX8_as 2 ?_
        obtain ⟨rfl, rfl⟩ := am_i2 hf
        exact And.intro ⟨(Nat.le_of_ble_eq_true rfl), (Nat.le_of_ble_eq_true rfl)⟩ (And.intro (Or.inl rfl) ⟨rfl, rfl⟩)
  · rw [if_pos c4] at hf
    refine AW_go okX8_as 2 ?_
    obtain ⟨rfl, rfl⟩ := am_i2 hf
    exact And.intro ⟨(Nat.le_of_ble_eq_true rfl), (Nat.le_of_ble_eq_true rfl)⟩ (And.intro (Or.inl rfl) ⟨rfl, rfl⟩)
def f_X8_room (a1 : Int32) (h : am_H) : Option (Int32 × am_H) := (if a1 < (Int32.ofInt 1) then some ((Int32.ofInt (-102)), h) else (if a1 ≤ (Int32.ofInt 3) then am_b2 (f_X8_changeTalk (am_sI h 28 0 a1)) fun r3 h4 => (some ((am_I h 28 0), h4)) else some ((Int32.ofInt (-102)), h)))
set_option maxRecDepth 100000 in
theorem s_X8_room (a1 : Int32) (h : am_H) (hs : am_stat h) {v : Int32} {h' : am_H} (hf : f_X8_room a1 h = some (v, h')) : am_stat h' := by
  unfold f_X8_room at hf
  by_cases c1 : a1 < (Int32.ofInt 1)
  · rw [if_pos c1] at hf
    obtain ⟨rfl, rfl⟩ := am_i2 hf
    exact hs
  · rw [if_neg c1] at hf
    by_cases c2 : a1 ≤ (Int32.ofInt 3)
    · rw [if_pos c2] at hf
      obtain ⟨r3, h4, e5, hf⟩ := am_b2_ok hf
      have hs := s_X8_changeTalk (am_sI h 28 0 a1) hs e5
      obtain ⟨rfl, rfl⟩ := am_i2 hf
      exact hs
    · rw [if_neg c2] at hf
      obtain ⟨rfl, rfl⟩ := am_i2 hf
      exact hs
set_option maxRecDepth 100000 in
theorem c_X8_room (a1 : Int32) (h : am_H) (hs : am_stat h) {v : Int32} {h' : am_H} (hf : f_X8_room a1 h = some (v, h')) : AMet mX8_room (rX8_room 0 0) (fun r h2 => r = some (.int v) ∧ h2 = h') [.ref 0, .int a1] h := by
  unfold f_X8_room at hf
  refine AW_go okX8_room 3 ?_
  refine And.intro (fun c1 => ?_) (fun c1 => ?_)
  · rw [if_pos c1] at hf
    refine AW_go okX8_room 2 ?_
    obtain ⟨rfl, rfl⟩ := am_i2 hf
    exact And.intro ⟨(Nat.le_of_ble_eq_true rfl), (Nat.le_of_ble_eq_true rfl)⟩ (And.intro (Or.inl rfl) ⟨rfl, rfl⟩)
  · rw [if_neg c1] at hf
    refine AW_go okX8_room 3 ?_
    refine And.intro (fun c2 => ?_) (fun c2 => ?_)
    · rw [if_pos c2] at hf
      refine AW_go okX8_room 9 ?_
      refine And.intro (sK hs 0) (Exists.intro _ (And.intro (sA hs 0 9) ?_))
      refine And.intro (sK hs 28) ?_
      refine And.intro (sK hs 0) (Exists.intro _ (And.intro (sA hs 0 9) ?_))
      refine And.intro (sK hs 28) ?_
      obtain ⟨r3, h4, e5, hf⟩ := am_b2_ok hf
      refine AW_callV (As := []) (R' := rX8_changeTalk 0 0) (T := TX8) (N := 18) (ci := 8) (okX8_room.1 30 _ _ rfl) lkX8_changeTalk kX8_187 rfl (sK hs 0) rfl (Nat.le_of_ble_eq_true rfl) ⟨by decide, by decide⟩ ⟨(Nat.le_of_ble_eq_true rfl), (Nat.le_of_ble_eq_true rfl)⟩ (Nat.le_of_ble_eq_true rfl) (c_X8_changeTalk (am_sI h 28 0 a1) hs e5) (fun r h' hq => ?_)
      obtain ⟨rfl, hq⟩ := hq
      replace hq := hq.symm
      subst hq
      have hs := s_X8_changeTalk (am_sI h 28 0 a1) hs e5
      refine AW_go okX8_room 2 ?_
      obtain ⟨rfl, rfl⟩ := am_i2 hf
      exact And.intro ⟨(Nat.le_of_ble_eq_true rfl), (Nat.le_of_ble_eq_true rfl)⟩ (And.intro (Or.inl rfl) ⟨rfl, rfl⟩)
    · rw [if_neg c2] at hf
      refine AW_go okX8_room 2 ?_
      obtain ⟨rfl, rfl⟩ := am_i2 hf
      exact And.intro ⟨(Nat.le_of_ble_eq_true rfl), (Nat.le_of_ble_eq_true rfl)⟩ (And.intro (Or.inl rfl) ⟨rfl, rfl⟩)
def f_X8_begin (h : am_H) : Option (Int32 × am_H) := am_b2 (f_X8_beginAnew h) fun r1 h2 => (some ((am_I h 0 11), h2))
set_option maxRecDepth 100000 in
theorem s_X8_begin (h : am_H) (hs : am_stat h) {v : Int32} {h' : am_H} (hf : f_X8_begin h = some (v, h')) : am_stat h' := by
  unfold f_X8_begin at hf
  obtain ⟨r1, h2, e3, hf⟩ := am_b2_ok hf
  have hs := s_X8_beginAnew h hs e3
  obtain ⟨rfl, rfl⟩ := am_i2 hf
  exact hs
set_option maxRecDepth 100000 in
theorem c_X8_begin (h : am_H) (hs : am_stat h) {v : Int32} {h' : am_H} (hf : f_X8_begin h = some (v, h')) : AMet mX8_begin (rX8_begin 0 0) (fun r h2 => r = some (.int v) ∧ h2 = h') [.ref 0] h := by
  unfold f_X8_begin at hf
  refine AW_go okX8_begin 4 ?_
  refine And.intro (sK hs 0) ?_
  obtain ⟨r1, h2, e3, hf⟩ := am_b2_ok hf
  refine AW_callV (As := []) (R' := rX8_beginAnew 0 0) (T := TX8) (N := 18) (ci := 8) (okX8_begin.1 6 _ _ rfl) lkX8_beginAnew kX8_209 rfl (sK hs 0) rfl (Nat.le_of_ble_eq_true rfl) ⟨by decide, by decide⟩ ⟨(Nat.le_of_ble_eq_true rfl), (Nat.le_of_ble_eq_true rfl)⟩ (Nat.le_of_ble_eq_true rfl) (c_X8_beginAnew h hs e3) (fun r h' hq => ?_)
  obtain ⟨rfl, hq⟩ := hq
  replace hq := hq.symm
  subst hq
  have hs := s_X8_beginAnew h hs e3
  refine AW_go okX8_begin 2 ?_
  obtain ⟨rfl, rfl⟩ := am_i2 hf
  exact And.intro ⟨(Nat.le_of_ble_eq_true rfl), (Nat.le_of_ble_eq_true rfl)⟩ (And.intro (Or.inl rfl) ⟨rfl, rfl⟩)
def f_X8_at (a1 : Int32) (h : am_H) : Option (Int32 × am_H) := am_b2 (f_X8_isOffice a1 h) fun r1 h2 => ((if r1 = 0 then some ((Int32.ofInt (-101)), h2) else bif am_vp a1 3 then (am_b2 ((if (am_I h2 27 (Int32.toNatClampNeg a1)) = (Int32.ofInt (-1)) then some ((Int32.ofInt (-1)), h2) else am_b2 (f_X7_placeIn (am_J h2 0 10) a1 h2) fun r10 h11 => (some (r10, h11)))) fun y6 h7 => (some (y6, h7))) else none))
set_option maxRecDepth 100000 in
theorem s_X8_at (a1 : Int32) (h : am_H) (hs : am_stat h) {v : Int32} {h' : am_H} (hf : f_X8_at a1 h = some (v, h')) : am_stat h' := by
  unfold f_X8_at at hf
  obtain ⟨r1, h2, e3, hf⟩ := am_b2_ok hf
  have hs := s_X8_isOffice a1 h hs e3
  by_cases c4 : r1 = 0
  · rw [if_pos c4] at hf
    obtain ⟨rfl, rfl⟩ := am_i2 hf
    exact hs
  · rw [if_neg c4] at hf
    obtain ⟨b5, hf⟩ := am_bis hf
    obtain ⟨y6, h7, j8, hf⟩ := am_b2_ok hf
    have hs0 := hs
    have hs : am_stat h7 := by
      have hs := hs0
      by_cases c9 : (am_I h2 27 (Int32.toNatClampNeg a1)) = (Int32.ofInt (-1))
      · rw [if_pos c9] at j8
        obtain ⟨rfl, rfl⟩ := am_i2 j8
        exact hs
      · rw [if_neg c9] at j8
        obtain ⟨r10, h11, e12, j8⟩ := am_b2_ok j8
        have hs := s_X7_placeIn (am_J h2 0 10) a1 h2 hs e12
        obtain ⟨rfl, rfl⟩ := am_i2 j8
        exact hs
    obtain ⟨rfl, rfl⟩ := am_i2 hf
    exact hs
set_option maxRecDepth 100000 in
theorem c_X8_at (a1 : Int32) (h : am_H) (hs : am_stat h) {v : Int32} {h' : am_H} (hf : f_X8_at a1 h = some (v, h')) : AMet mX8_at (rX8_at 0 0) (fun r h2 => r = some (.int v) ∧ h2 = h') [.ref 0, .int a1] h := by
  unfold f_X8_at at hf
  refine AW_go okX8_at 1 ?_
  obtain ⟨r1, h2, e3, hf⟩ := am_b2_ok hf
  refine AW_callS (As := [.int a1]) (R' := rX8_isOffice 0 0) (okX8_at.1 1 _ _ rfl) lkX8_isOffice (Or.inl kX8_109) rfl (Nat.le_of_ble_eq_true rfl) ⟨by decide, by decide⟩ ⟨(Nat.le_of_ble_eq_true rfl), (Nat.le_of_ble_eq_true rfl)⟩ (Nat.le_of_ble_eq_true rfl) (c_X8_isOffice a1 h hs e3) (fun r h' hq => ?_)
  obtain ⟨rfl, hq⟩ := hq
  replace hq := hq.symm
  subst hq
  have hs := s_X8_isOffice a1 h hs e3
  refine AW_go okX8_at 1 ?_
  refine And.intro (fun c4 => ?_) (fun c4 => ?_)
  · rw [if_neg c4] at hf
    obtain ⟨b5, hf⟩ := am_bis hf
    refine AW_go okX8_at 5 ?_
    refine And.intro (sK hs 0) (Exists.intro _ (And.intro (sA hs 0 8) ?_))
    refine Exists.intro 3 (And.intro (sK hs 27) (And.intro (am_vp_ok b5) ?_))
    obtain ⟨y6, h7, j8, hf⟩ := am_b2_ok hf
    have hs0 := hs
    have hs : am_stat h7 := by
      have hs := hs0
      by_cases c9 : (am_I h2 27 (Int32.toNatClampNeg a1)) = (Int32.ofInt (-1))
      · rw [if_pos c9] at j8
        obtain ⟨rfl, rfl⟩ := am_i2 j8
        exact hs
      · rw [if_neg c9] at j8
        obtain ⟨r10, h11, e12, j8⟩ := am_b2_ok j8
        have hs := s_X7_placeIn (am_J h2 0 10) a1 h2 hs e12
        obtain ⟨rfl, rfl⟩ := am_i2 j8
        exact hs
    refine am_cut (P := AW mX8_at (rX8_at 0 0) (fun r h2 => r = some (.int v) ∧ h2 = h') 32 [(0, .ref 0), (1, .int a1)] [.int y6] h7 0 0) (fun hJ8 => ?_) ?_
    · have hs := hs0
      refine AW_go okX8_at 1 ?_
      refine And.intro (fun c9 => ?_) (fun c9 => ?_)
      · rw [if_neg c9] at j8
        refine AW_go okX8_at 3 ?_
        refine And.intro (sK hs 0) ?_
        obtain ⟨r10, h11, e12, j8⟩ := am_b2_ok j8
        refine AW_callS (As := [.long (am_J h2 0 10), .int a1]) (R' := rX7_placeIn 0 0) (okX8_at.1 29 _ _ rfl) lkX7_placeIn (Or.inl kX8_231) rfl (Nat.le_of_ble_eq_true rfl) ⟨by decide, by decide⟩ ⟨(Nat.le_of_ble_eq_true rfl), (Nat.le_of_ble_eq_true rfl)⟩ (Nat.le_of_ble_eq_true rfl) (c_X7_placeIn (am_J h2 0 10) a1 h2 hs e12) (fun r h' hq => ?_)
        obtain ⟨rfl, hq⟩ := hq
        replace hq := hq.symm
        subst hq
        have hs := s_X7_placeIn (am_J h2 0 10) a1 h2 hs e12
        obtain ⟨rfl, rfl⟩ := am_i2 j8
        exact AW_pick [0, 1] rfl hJ8
      · rw [if_pos c9] at j8
        refine AW_go okX8_at 2 ?_
        obtain ⟨rfl, rfl⟩ := am_i2 j8
        exact AW_pick [0, 1] rfl hJ8
    refine AW_go okX8_at 1 ?_
    obtain ⟨rfl, rfl⟩ := am_i2 hf
    exact And.intro ⟨(Nat.le_of_ble_eq_true rfl), (Nat.le_of_ble_eq_true rfl)⟩ (And.intro (Or.inl rfl) ⟨rfl, rfl⟩)
  · rw [if_pos c4] at hf
    refine AW_go okX8_at 2 ?_
    obtain ⟨rfl, rfl⟩ := am_i2 hf
    exact And.intro ⟨(Nat.le_of_ble_eq_true rfl), (Nat.le_of_ble_eq_true rfl)⟩ (And.intro (Or.inl rfl) ⟨rfl, rfl⟩)
def f_X8_lies (n : Nat) (a1 : Int32) (a2 : Int32) (a3 : Int32) (h : am_H) : Option (Int32 × am_H) := am_b2 (f_X8_isPost a1 a2 h) fun r1 h2 => ((if r1 = 0 then some ((Int32.ofInt (-101)), h2) else am_b2 (f_X8_postOf a1 a2 h2) fun r5 h6 => (am_b2 (f_X7_lying n (am_J h2 0 10) r5 a3 h6) fun r8 h9 => (some (r8, h9)))))
set_option maxRecDepth 100000 in
theorem s_X8_lies (n : Nat) (a1 : Int32) (a2 : Int32) (a3 : Int32) (h : am_H) (hs : am_stat h) {v : Int32} {h' : am_H} (hf : f_X8_lies n a1 a2 a3 h = some (v, h')) : am_stat h' := by
  unfold f_X8_lies at hf
  obtain ⟨r1, h2, e3, hf⟩ := am_b2_ok hf
  have hs := s_X8_isPost a1 a2 h hs e3
  by_cases c4 : r1 = 0
  · rw [if_pos c4] at hf
    obtain ⟨rfl, rfl⟩ := am_i2 hf
    exact hs
  · rw [if_neg c4] at hf
    obtain ⟨r5, h6, e7, hf⟩ := am_b2_ok hf
    have hs := s_X8_postOf a1 a2 h2 hs e7
    obtain ⟨r8, h9, e10, hf⟩ := am_b2_ok hf
    have hs := s_X7_lying n (am_J h2 0 10) r5 a3 h6 hs e10
    obtain ⟨rfl, rfl⟩ := am_i2 hf
    exact hs
set_option maxRecDepth 100000 in
theorem c_X8_lies (n : Nat) (a1 : Int32) (a2 : Int32) (a3 : Int32) (h : am_H) (hs : am_stat h) {v : Int32} {h' : am_H} (hf : f_X8_lies n a1 a2 a3 h = some (v, h')) : AMet mX8_lies (rX8_lies 0 0) (fun r h2 => r = some (.int v) ∧ h2 = h') [.ref 0, .int a1, .int a2, .int a3] h := by
  unfold f_X8_lies at hf
  refine AW_go okX8_lies 2 ?_
  obtain ⟨r1, h2, e3, hf⟩ := am_b2_ok hf
  refine AW_callS (As := [.int a1, .int a2]) (R' := rX8_isPost 0 0) (okX8_lies.1 2 _ _ rfl) lkX8_isPost (Or.inl kX8_190) rfl (Nat.le_of_ble_eq_true rfl) ⟨by decide, by decide⟩ ⟨(Nat.le_of_ble_eq_true rfl), (Nat.le_of_ble_eq_true rfl)⟩ (Nat.le_of_ble_eq_true rfl) (c_X8_isPost a1 a2 h hs e3) (fun r h' hq => ?_)
  obtain ⟨rfl, hq⟩ := hq
  replace hq := hq.symm
  subst hq
  have hs := s_X8_isPost a1 a2 h hs e3
  refine AW_go okX8_lies 1 ?_
  refine And.intro (fun c4 => ?_) (fun c4 => ?_)
  · rw [if_neg c4] at hf
    refine AW_go okX8_lies 6 ?_
    refine And.intro (sK hs 0) (Exists.intro _ (And.intro (sA hs 0 9) ?_))
    refine And.intro (sK hs 0) ?_
    obtain ⟨r5, h6, e7, hf⟩ := am_b2_ok hf
    refine AW_callS (As := [.int a1, .int a2]) (R' := rX8_postOf 0 0) (okX8_lies.1 21 _ _ rfl) lkX8_postOf (Or.inl kX8_194) rfl (Nat.le_of_ble_eq_true rfl) ⟨by decide, by decide⟩ ⟨(Nat.le_of_ble_eq_true rfl), (Nat.le_of_ble_eq_true rfl)⟩ (Nat.le_of_ble_eq_true rfl) (c_X8_postOf a1 a2 h2 hs e7) (fun r h' hq => ?_)
    obtain ⟨rfl, hq⟩ := hq
    replace hq := hq.symm
    subst hq
    have hs := s_X8_postOf a1 a2 h2 hs e7
    refine AW_go okX8_lies 1 ?_
    obtain ⟨r8, h9, e10, hf⟩ := am_b2_ok hf
    refine AW_callV (As := [.long (am_J h2 0 10), .int r5, .int a3]) (R' := rX7_lying 0 0) (T := TX7) (N := 10) (ci := 7) (okX8_lies.1 25 _ _ rfl) lkX7_lying kX8_235 rfl (sK hs 28) rfl (Nat.le_of_ble_eq_true rfl) ⟨by decide, by decide⟩ ⟨(Nat.le_of_ble_eq_true rfl), (Nat.le_of_ble_eq_true rfl)⟩ (Nat.le_of_ble_eq_true rfl) (c_X7_lying n (am_J h2 0 10) r5 a3 h6 hs e10) (fun r h' hq => ?_)
    obtain ⟨rfl, hq⟩ := hq
    replace hq := hq.symm
    subst hq
    have hs := s_X7_lying n (am_J h2 0 10) r5 a3 h6 hs e10
    refine AW_go okX8_lies 1 ?_
    obtain ⟨rfl, rfl⟩ := am_i2 hf
    exact And.intro ⟨(Nat.le_of_ble_eq_true rfl), (Nat.le_of_ble_eq_true rfl)⟩ (And.intro (Or.inl rfl) ⟨rfl, rfl⟩)
  · rw [if_pos c4] at hf
    refine AW_go okX8_lies 2 ?_
    obtain ⟨rfl, rfl⟩ := am_i2 hf
    exact And.intro ⟨(Nat.le_of_ble_eq_true rfl), (Nat.le_of_ble_eq_true rfl)⟩ (And.intro (Or.inl rfl) ⟨rfl, rfl⟩)
def f_X8_count (n : Nat) (a1 : Int32) (h : am_H) : Option (Int32 × am_H) := (if a1 = Int32.ofInt 0 then some ((am_I h 0 5), h) else (if a1 = Int32.ofInt 1 then some ((am_I h 0 7), h) else (if a1 = Int32.ofInt 2 then some ((am_I h 1 1), h) else (if a1 = Int32.ofInt 3 then some ((am_I h 0 11), h) else (if a1 = Int32.ofInt 4 then am_b2 (f_X7_lyingInAll n (am_J h 0 10) h) fun r6 h7 => (some (r6, h7)) else (if a1 = Int32.ofInt 5 then some ((am_I h 0 17), h) else some ((Int32.ofInt (-102)), h)))))))
set_option maxRecDepth 100000 in
theorem s_X8_count (n : Nat) (a1 : Int32) (h : am_H) (hs : am_stat h) {v : Int32} {h' : am_H} (hf : f_X8_count n a1 h = some (v, h')) : am_stat h' := by
  unfold f_X8_count at hf
  by_cases c1 : a1 = Int32.ofInt 0
  · rw [if_pos c1] at hf
    obtain ⟨rfl, rfl⟩ := am_i2 hf
    exact hs
  rw [if_neg c1] at hf
  by_cases c2 : a1 = Int32.ofInt 1
  · rw [if_pos c2] at hf
    obtain ⟨rfl, rfl⟩ := am_i2 hf
    exact hs
  rw [if_neg c2] at hf
  by_cases c3 : a1 = Int32.ofInt 2
  · rw [if_pos c3] at hf
    obtain ⟨rfl, rfl⟩ := am_i2 hf
    exact hs
  rw [if_neg c3] at hf
  by_cases c4 : a1 = Int32.ofInt 3
  · rw [if_pos c4] at hf
    obtain ⟨rfl, rfl⟩ := am_i2 hf
    exact hs
  rw [if_neg c4] at hf
  by_cases c5 : a1 = Int32.ofInt 4
  · rw [if_pos c5] at hf
    obtain ⟨r6, h7, e8, hf⟩ := am_b2_ok hf
    have hs := s_X7_lyingInAll n (am_J h 0 10) h hs e8
    obtain ⟨rfl, rfl⟩ := am_i2 hf
    exact hs
  rw [if_neg c5] at hf
  by_cases c9 : a1 = Int32.ofInt 5
  · rw [if_pos c9] at hf
    obtain ⟨rfl, rfl⟩ := am_i2 hf
    exact hs
  rw [if_neg c9] at hf
  obtain ⟨rfl, rfl⟩ := am_i2 hf
  exact hs
set_option maxRecDepth 100000 in
theorem c_X8_count (n : Nat) (a1 : Int32) (h : am_H) (hs : am_stat h) {v : Int32} {h' : am_H} (hf : f_X8_count n a1 h = some (v, h')) : AMet mX8_count (rX8_count 0 0) (fun r h2 => r = some (.int v) ∧ h2 = h') [.ref 0, .int a1] h := by
  unfold f_X8_count at hf
  refine AW_go okX8_count 2 ?_
  by_cases c1 : a1 = Int32.ofInt 0
  · rw [if_pos c1] at hf
    refine And.intro (fun q => absurd q (by rw [c1]; decide)) (fun _ _ => Exists.intro 39 (Exists.intro 40 (And.intro (by rw [c1]; rfl) (And.intro rfl ?_))))
    refine AW_go okX8_count 3 ?_
    refine And.intro (sK hs 0) ?_
    obtain ⟨rfl, rfl⟩ := am_i2 hf
    exact And.intro ⟨(Nat.le_of_ble_eq_true rfl), (Nat.le_of_ble_eq_true rfl)⟩ (And.intro (Or.inl rfl) ⟨rfl, rfl⟩)
  rw [if_neg c1] at hf
  by_cases c2 : a1 = Int32.ofInt 1
  · rw [if_pos c2] at hf
    refine And.intro (fun q => absurd q (by rw [c2]; decide)) (fun _ _ => Exists.intro 44 (Exists.intro 45 (And.intro (by rw [c2]; rfl) (And.intro rfl ?_))))
    refine AW_go okX8_count 3 ?_
    refine And.intro (sK hs 0) ?_
    obtain ⟨rfl, rfl⟩ := am_i2 hf
    exact And.intro ⟨(Nat.le_of_ble_eq_true rfl), (Nat.le_of_ble_eq_true rfl)⟩ (And.intro (Or.inl rfl) ⟨rfl, rfl⟩)
  rw [if_neg c2] at hf
  by_cases c3 : a1 = Int32.ofInt 2
  · rw [if_pos c3] at hf
    refine And.intro (fun q => absurd q (by rw [c3]; decide)) (fun _ _ => Exists.intro 49 (Exists.intro 50 (And.intro (by rw [c3]; rfl) (And.intro rfl ?_))))
    refine AW_go okX8_count 4 ?_
    refine And.intro (sK hs 0) (Exists.intro _ (And.intro (sA hs 0 0) ?_))
    refine And.intro (sK hs 1) ?_
    obtain ⟨rfl, rfl⟩ := am_i2 hf
    exact And.intro ⟨(Nat.le_of_ble_eq_true rfl), (Nat.le_of_ble_eq_true rfl)⟩ (And.intro (Or.inl rfl) ⟨rfl, rfl⟩)
  rw [if_neg c3] at hf
  by_cases c4 : a1 = Int32.ofInt 3
  · rw [if_pos c4] at hf
    refine And.intro (fun q => absurd q (by rw [c4]; decide)) (fun _ _ => Exists.intro 57 (Exists.intro 58 (And.intro (by rw [c4]; rfl) (And.intro rfl ?_))))
    refine AW_go okX8_count 3 ?_
    refine And.intro (sK hs 0) ?_
    obtain ⟨rfl, rfl⟩ := am_i2 hf
    exact And.intro ⟨(Nat.le_of_ble_eq_true rfl), (Nat.le_of_ble_eq_true rfl)⟩ (And.intro (Or.inl rfl) ⟨rfl, rfl⟩)
  rw [if_neg c4] at hf
  by_cases c5 : a1 = Int32.ofInt 4
  · rw [if_pos c5] at hf
    refine And.intro (fun q => absurd q (by rw [c5]; decide)) (fun _ _ => Exists.intro 62 (Exists.intro 63 (And.intro (by rw [c5]; rfl) (And.intro rfl ?_))))
    refine AW_go okX8_count 4 ?_
    refine And.intro (sK hs 0) (Exists.intro _ (And.intro (sA hs 0 9) ?_))
    refine And.intro (sK hs 0) ?_
    obtain ⟨r6, h7, e8, hf⟩ := am_b2_ok hf
    refine AW_callV (As := [.long (am_J h 0 10)]) (R' := rX7_lyingInAll 0 0) (T := TX7) (N := 10) (ci := 7) (okX8_count.1 71 _ _ rfl) lkX7_lyingInAll kX8_282 rfl (sK hs 28) rfl (Nat.le_of_ble_eq_true rfl) ⟨by decide, by decide⟩ ⟨(Nat.le_of_ble_eq_true rfl), (Nat.le_of_ble_eq_true rfl)⟩ (Nat.le_of_ble_eq_true rfl) (c_X7_lyingInAll n (am_J h 0 10) h hs e8) (fun r h' hq => ?_)
    obtain ⟨rfl, hq⟩ := hq
    replace hq := hq.symm
    subst hq
    have hs := s_X7_lyingInAll n (am_J h 0 10) h hs e8
    refine AW_go okX8_count 1 ?_
    obtain ⟨rfl, rfl⟩ := am_i2 hf
    exact And.intro ⟨(Nat.le_of_ble_eq_true rfl), (Nat.le_of_ble_eq_true rfl)⟩ (And.intro (Or.inl rfl) ⟨rfl, rfl⟩)
  rw [if_neg c5] at hf
  by_cases c9 : a1 = Int32.ofInt 5
  · rw [if_pos c9] at hf
    refine And.intro (fun q => absurd q (by rw [c9]; decide)) (fun _ _ => Exists.intro 74 (Exists.intro 75 (And.intro (by rw [c9]; rfl) (And.intro rfl ?_))))
    refine AW_go okX8_count 3 ?_
    refine And.intro (sK hs 0) ?_
    obtain ⟨rfl, rfl⟩ := am_i2 hf
    exact And.intro ⟨(Nat.le_of_ble_eq_true rfl), (Nat.le_of_ble_eq_true rfl)⟩ (And.intro (Or.inl rfl) ⟨rfl, rfl⟩)
  rw [if_neg c9] at hf
  refine And.intro (fun _ => Exists.intro 80 (And.intro rfl ?_)) (fun q1 q2 => absurd (am_sw6 q1 q2 c1 c2 c3 c4 c5 c9) id)
  refine AW_go okX8_count 2 ?_
  obtain ⟨rfl, rfl⟩ := am_i2 hf
  exact And.intro ⟨(Nat.le_of_ble_eq_true rfl), (Nat.le_of_ble_eq_true rfl)⟩ (And.intro (Or.inl rfl) ⟨rfl, rfl⟩)
def g_X8_withPost : Nat → Nat → Int64 → Int32 → Int64 → Int32 → Int32 → am_H → Option (Int64 × am_H)
  | 0, _, _, _, _, _, _, _ => none
  | n + 1, _, a1, a3, x4j, x6i, x7i, h => (if x6i ≤ x7i then some (x4j, h) else am_b2 (f_X7_lying n (am_J h 0 10) a3 x7i h) fun r2 h3 => (am_b2 (f_X8_with x4j (Int32.toInt64 r2) h3) fun r5 h6 => (g_X8_withPost n 0 a1 a3 r5 x6i (x7i + Int32.ofInt 1) h6)))
set_option maxRecDepth 100000 in
set_option maxHeartbeats 4000000 in
theorem m_X8_withPost (n : Nat) : (∀ (a1 : Int64) (a3 : Int32) (x4j : Int64) (x6i : Int32) (x7i : Int32) (h : am_H) (v : Int64) (h' : am_H), am_stat h → g_X8_withPost n 0 a1 a3 x4j x6i x7i h = some (v, h') → am_stat h') := by
  induction n with
  | zero => exact fun a1 a3 x4j x6i x7i h v h' hs hf => (by cases hf)
  | succ n ih =>
    skip
    · intro a1 a3 x4j x6i x7i h v h' hs hf
      have hf : ((if x6i ≤ x7i then some (x4j, h) else am_b2 (f_X7_lying n (am_J h 0 10) a3 x7i h) fun r2 h3 => (am_b2 (f_X8_with x4j (Int32.toInt64 r2) h3) fun r5 h6 => (g_X8_withPost n 0 a1 a3 r5 x6i (x7i + Int32.ofInt 1) h6)))) = some (v, h') := hf
      by_cases c1 : x6i ≤ x7i
      · rw [if_pos c1] at hf
        obtain ⟨rfl, rfl⟩ := am_i2 hf
        exact hs
      · rw [if_neg c1] at hf
        obtain ⟨r2, h3, e4, hf⟩ := am_b2_ok hf
        have hs := s_X7_lying n (am_J h 0 10) a3 x7i h hs e4
        obtain ⟨r5, h6, e7, hf⟩ := am_b2_ok hf
        have hs := s_X8_with x4j (Int32.toInt64 r2) h3 hs e7
        exact ih a1 a3 r5 x6i (x7i + Int32.ofInt 1) h6 _ _ hs hf
set_option maxRecDepth 100000 in
set_option maxHeartbeats 4000000 in
theorem l_X8_withPost (n : Nat) : (∀ (a1 : Int64) (a3 : Int32) (x4j : Int64) (x6i : Int32) (x7i : Int32) (h : am_H) (v : Int64) (h' : am_H), am_stat h → g_X8_withPost n 0 a1 a3 x4j x6i x7i h = some (v, h') → AW mX8_withPost (rX8_withPost 0 0) (fun r h2 => r = some (.long v) ∧ h2 = h') 33 [(0, .ref 0), (1, .long a1), (3, .int a3), (4, .long x4j), (6, .int x6i), (7, .int x7i)] [] h 0 0) := by
  induction n with
  | zero => exact fun a1 a3 x4j x6i x7i h v h' hs hf => (by cases hf)
  | succ n ih =>
    skip
    · intro a1 a3 x4j x6i x7i h v h' hs hf
      have hf : ((if x6i ≤ x7i then some (x4j, h) else am_b2 (f_X7_lying n (am_J h 0 10) a3 x7i h) fun r2 h3 => (am_b2 (f_X8_with x4j (Int32.toInt64 r2) h3) fun r5 h6 => (g_X8_withPost n 0 a1 a3 r5 x6i (x7i + Int32.ofInt 1) h6)))) = some (v, h') := hf
      refine AW_go okX8_withPost 3 ?_
      refine And.intro (fun c1 => ?_) (fun c1 => ?_)
      · rw [if_pos c1] at hf
        refine AW_go okX8_withPost 2 ?_
        obtain ⟨rfl, rfl⟩ := am_i2 hf
        exact And.intro ⟨(Nat.le_of_ble_eq_true rfl), (Nat.le_of_ble_eq_true rfl)⟩ (And.intro rfl ⟨rfl, rfl⟩)
      · rw [if_neg c1] at hf
        refine AW_go okX8_withPost 7 ?_
        refine And.intro (sK hs 0) (Exists.intro _ (And.intro (sA hs 0 9) ?_))
        refine And.intro (sK hs 0) ?_
        obtain ⟨r2, h3, e4, hf⟩ := am_b2_ok hf
        refine AW_callV (As := [.long (am_J h 0 10), .int a3, .int x7i]) (R' := rX7_lying 0 0) (T := TX7) (N := 10) (ci := 7) (okX8_withPost.1 53 _ _ rfl) lkX7_lying kX8_235 rfl (sK hs 28) rfl (Nat.le_of_ble_eq_true rfl) ⟨by decide, by decide⟩ ⟨(Nat.le_of_ble_eq_true rfl), (Nat.le_of_ble_eq_true rfl)⟩ (Nat.le_of_ble_eq_true rfl) (c_X7_lying n (am_J h 0 10) a3 x7i h hs e4) (fun r h' hq => ?_)
        obtain ⟨rfl, hq⟩ := hq
        replace hq := hq.symm
        subst hq
        have hs := s_X7_lying n (am_J h 0 10) a3 x7i h hs e4
        refine AW_go okX8_withPost 1 ?_
        obtain ⟨r5, h6, e7, hf⟩ := am_b2_ok hf
        refine AW_callS (As := [.long x4j, .long (Int32.toInt64 r2)]) (R' := rX8_with 0 0) (okX8_withPost.1 57 _ _ rfl) lkX8_with (Or.inl kX8_291) rfl (Nat.le_of_ble_eq_true rfl) ⟨by decide, by decide⟩ ⟨(Nat.le_of_ble_eq_true rfl), (Nat.le_of_ble_eq_true rfl)⟩ (Nat.le_of_ble_eq_true rfl) (c_X8_with x4j (Int32.toInt64 r2) h3 hs e7) (fun r h' hq => ?_)
        obtain ⟨rfl, hq⟩ := hq
        replace hq := hq.symm
        subst hq
        have hs := s_X8_with x4j (Int32.toInt64 r2) h3 hs e7
        refine AW_go okX8_withPost 3 ?_
        refine AW_pick (lv' := [(0, .ref 0), (1, .long a1), (3, .int a3), (4, .long r5), (6, .int x6i), (7, .int (x7i + Int32.ofInt 1))]) [2, 3, 4, 1, 5, 0] rfl ?_
        exact ih a1 a3 r5 x6i (x7i + Int32.ofInt 1) h6 _ _ hs hf
def f_X8_withPost (n : Nat) (a1 : Int64) (a3 : Int32) (h : am_H) : Option (Int64 × am_H) := bif am_vp a3 6 then (am_b2 (f_X8_with a1 (Int32.toInt64 (am_I h 29 (Int32.toNatClampNeg a3))) h) fun r2 h3 => (am_b2 (f_X7_loadIn (am_J h3 0 10) a3 h3) fun r5 h6 => (g_X8_withPost n 0 a1 a3 r2 r5 (Int32.ofInt 0) h6))) else none
set_option maxRecDepth 100000 in
theorem s_X8_withPost (n : Nat) (a1 : Int64) (a3 : Int32) (h : am_H) (hs : am_stat h) {v : Int64} {h' : am_H} (hf : f_X8_withPost n a1 a3 h = some (v, h')) : am_stat h' := by
  unfold f_X8_withPost at hf
  obtain ⟨b1, hf⟩ := am_bis hf
  obtain ⟨r2, h3, e4, hf⟩ := am_b2_ok hf
  have hs := s_X8_with a1 (Int32.toInt64 (am_I h 29 (Int32.toNatClampNeg a3))) h hs e4
  obtain ⟨r5, h6, e7, hf⟩ := am_b2_ok hf
  have hs := s_X7_loadIn (am_J h3 0 10) a3 h3 hs e7
  exact (m_X8_withPost n) a1 a3 r2 r5 (Int32.ofInt 0) h6 _ _ hs hf
set_option maxRecDepth 100000 in
theorem c_X8_withPost (n : Nat) (a1 : Int64) (a3 : Int32) (h : am_H) (hs : am_stat h) {v : Int64} {h' : am_H} (hf : f_X8_withPost n a1 a3 h = some (v, h')) : AMet mX8_withPost (rX8_withPost 0 0) (fun r h2 => r = some (.long v) ∧ h2 = h') [.ref 0, .long a1, .int a3] h := by
  unfold f_X8_withPost at hf
  obtain ⟨b1, hf⟩ := am_bis hf
  refine AW_go okX8_withPost 7 ?_
  refine And.intro (sK hs 0) (Exists.intro _ (And.intro (sA hs 0 9) ?_))
  refine And.intro (sK hs 28) (Exists.intro _ (And.intro (sA hs 28 1) ?_))
  refine Exists.intro 6 (And.intro (sK hs 29) (And.intro (am_vp_ok b1) ?_))
  obtain ⟨r2, h3, e4, hf⟩ := am_b2_ok hf
  refine AW_callS (As := [.long a1, .long (Int32.toInt64 (am_I h 29 (Int32.toNatClampNeg a3)))]) (R' := rX8_with 0 0) (okX8_withPost.1 11 _ _ rfl) lkX8_with (Or.inl kX8_291) rfl (Nat.le_of_ble_eq_true rfl) ⟨by decide, by decide⟩ ⟨(Nat.le_of_ble_eq_true rfl), (Nat.le_of_ble_eq_true rfl)⟩ (Nat.le_of_ble_eq_true rfl) (c_X8_with a1 (Int32.toInt64 (am_I h 29 (Int32.toNatClampNeg a3))) h hs e4) (fun r h' hq => ?_)
  obtain ⟨rfl, hq⟩ := hq
  replace hq := hq.symm
  subst hq
  have hs := s_X8_with a1 (Int32.toInt64 (am_I h 29 (Int32.toNatClampNeg a3))) h hs e4
  refine AW_go okX8_withPost 6 ?_
  refine And.intro (sK hs 0) (Exists.intro _ (And.intro (sA hs 0 9) ?_))
  refine And.intro (sK hs 0) ?_
  obtain ⟨r5, h6, e7, hf⟩ := am_b2_ok hf
  refine AW_callV (As := [.long (am_J h3 0 10), .int a3]) (R' := rX7_loadIn 0 0) (T := TX7) (N := 10) (ci := 7) (okX8_withPost.1 25 _ _ rfl) lkX7_loadIn kX8_312 rfl (sK hs 28) rfl (Nat.le_of_ble_eq_true rfl) ⟨by decide, by decide⟩ ⟨(Nat.le_of_ble_eq_true rfl), (Nat.le_of_ble_eq_true rfl)⟩ (Nat.le_of_ble_eq_true rfl) (c_X7_loadIn (am_J h3 0 10) a3 h3 hs e7) (fun r h' hq => ?_)
  obtain ⟨rfl, hq⟩ := hq
  replace hq := hq.symm
  subst hq
  have hs := s_X7_loadIn (am_J h3 0 10) a3 h3 hs e7
  refine AW_go okX8_withPost 3 ?_
  refine AW_pick (lv' := [(0, .ref 0), (1, .long a1), (3, .int a3), (4, .long r2), (6, .int r5), (7, .int (Int32.ofInt 0))]) [3, 4, 5, 2, 1, 0] rfl ?_
  exact (l_X8_withPost n) a1 a3 r2 r5 (Int32.ofInt 0) h6 _ _ hs hf
def g_X9_lay : Nat → Nat → Int32 → Int32 → Int32 → Int32 → Int32 → Int32 → am_H → Option (Unit × am_H)
  | 0, _, _, _, _, _, _, _, _ => none
  | n + 1, tag, a1, a2, a3, a4, x5i, x6i, h => bif Nat.beq tag 0 then ((if (Int32.ofInt 16) ≤ x5i then am_b2 (f_X9_openGroup (am_sI (am_sI h 51 23 (Int32.ofInt 0)) 51 22 (Int32.ofInt (-1)))) fun r2 h3 => (g_X9_lay n 1 a1 a2 a3 a4 (Int32.ofInt 0) 0 h3) else bif am_vp (((Int32.ofInt 16) * a1) + x5i) 128 then (g_X9_lay n 0 a1 a2 a3 a4 (x5i + Int32.ofInt 1) 0 (am_sI h 54 (Int32.toNatClampNeg (((Int32.ofInt 16) * a1) + x5i)) (Int32.ofInt 0))) else none)) else (bif Nat.beq tag 1 then ((if a3 ≤ x5i then Option.bind ((if (am_I h 62 (Int32.toNatClampNeg (Int32.ofInt 0))) = 0 then some (Int32.ofInt 0) else some (Int32.ofInt 1))) fun y2 => (bif am_vp ((Int32.ofInt 16) * a1) 128 then (g_X9_lay n 2 a1 a2 a3 a4 x5i (Int32.ofInt 1) (am_sI h 54 (Int32.toNatClampNeg ((Int32.ofInt 16) * a1)) ((am_I h 60 (Int32.toNatClampNeg (Int32.ofInt 0))) ||| y2))) else none) else am_b2 (f_X9_signAt a2 x5i h) fun r56 h57 => (am_b2 ((if r56 = (Int32.ofInt 123) then am_b2 (f_X9_openGroup h57) fun r365 h366 => (some ((x5i + Int32.ofInt 1), h366)) else (if r56 = (Int32.ofInt 43) then am_b2 (f_X9_endRow h57) fun r359 h360 => (am_b2 (f_X9_newRow h360) fun r362 h363 => (some ((x5i + Int32.ofInt 1), h363))) else (if r56 = (Int32.ofInt 125) then am_b2 (f_X9_endRow h57) fun r75 h76 => (am_b2 ((if a3 ≤ (x5i + (Int32.ofInt 1)) then some ((Int32.ofInt 0), h76) else am_b2 (f_X9_signAt a2 (x5i + (Int32.ofInt 1)) h76) fun r82 h83 => ((if r82 = (Int32.ofInt 42) then some ((Int32.ofInt 1), h83) else some ((Int32.ofInt 0), h83))))) fun y78 h79 => (bif am_vp (am_I h79 51 22) 61 then (Option.bind ((if (am_I h79 51 23) = 0 then (if y78 = 0 then some (Int32.ofInt 0) else (if (am_I h79 65 (Int32.toNatClampNeg (am_I h79 51 22))) = 0 then some (Int32.ofInt 0) else some (Int32.ofInt 1))) else some (Int32.ofInt 1))) fun y137 => (bif am_b01 y137 then (Option.bind ((if y78 = 0 then some (am_sI h79 51 23 y137) else am_b2 (f_X9_join n a1 (am_I h79 64 (Int32.toNatClampNeg (am_I h79 51 22))) (am_I h79 63 (Int32.toNatClampNeg (am_I h79 51 22))) (am_sI h79 51 23 y137)) fun r196 h197 => (some h197))) fun h193 => (Option.bind ((if (am_I h79 65 (Int32.toNatClampNeg (am_I h79 51 22))) = 0 then (if y78 = 0 then some (Int32.ofInt 0) else some (Int32.ofInt 1)) else some (Int32.ofInt 1))) fun y249 => (am_b2 (f_X9_item n a1 (am_I h79 63 (Int32.toNatClampNeg (am_I h79 51 22))) (am_I h79 64 (Int32.toNatClampNeg (am_I h79 51 22))) y249 (am_sI h193 51 22 ((am_I h193 51 22) - (Int32.ofInt 1)))) fun r303 h304 => (Option.bind ((if y78 = 0 then some (Int32.ofInt 1) else some (Int32.ofInt 2))) fun y306 => (some ((x5i + y306), h304)))))) else none)) else none)) else (if r56 = (Int32.ofInt 59) then some ((x5i + Int32.ofInt 1), h57) else am_b2 (f_X9_signAt a2 (x5i + (Int32.ofInt 1)) h57) fun r66 h67 => (am_b2 (f_X9_signAt a2 (x5i + (Int32.ofInt 2)) h67) fun r69 h70 => (am_b2 (f_X9_layAct n a1 r56 r66 r69 a4 h70) fun r72 h73 => (some ((x5i + Int32.ofInt 3), h73))))))))) fun y59 h60 => (g_X9_lay n 1 a1 a2 a3 a4 y59 0 h60)))) else ((if (Int32.ofInt 16) ≤ x6i then some ((), h) else bif am_vp (((Int32.ofInt 16) * a1) + x6i) 128 then (g_X9_lay n 2 a1 a2 a3 a4 x5i (x6i + Int32.ofInt 1) (am_sI h 54 (Int32.toNatClampNeg (((Int32.ofInt 16) * a1) + x6i)) ((am_I h 54 (Int32.toNatClampNeg (((Int32.ofInt 16) * a1) + x6i))) ||| (((am_I h 61 (Int32.toNatClampNeg (Int32.ofInt 0))) >>> (x6i &&& 31)) &&& (Int32.ofInt 1))))) else none)))
set_option maxRecDepth 100000 in
set_option maxHeartbeats 4000000 in
theorem m_X9_lay (n : Nat) : (∀ (a1 : Int32) (a2 : Int32) (a3 : Int32) (a4 : Int32) (x5i : Int32) (x6i : Int32) (h : am_H) (v : Unit) (h' : am_H), am_stat h → g_X9_lay n 0 a1 a2 a3 a4 x5i x6i h = some (v, h') → am_stat h') ∧ (∀ (a1 : Int32) (a2 : Int32) (a3 : Int32) (a4 : Int32) (x5i : Int32) (x6i : Int32) (h : am_H) (v : Unit) (h' : am_H), am_stat h → g_X9_lay n 1 a1 a2 a3 a4 x5i x6i h = some (v, h') → am_stat h') ∧ (∀ (a1 : Int32) (a2 : Int32) (a3 : Int32) (a4 : Int32) (x5i : Int32) (x6i : Int32) (h : am_H) (v : Unit) (h' : am_H), am_stat h → g_X9_lay n 2 a1 a2 a3 a4 x5i x6i h = some (v, h') → am_stat h') := by
  induction n with
  | zero => exact ⟨fun a1 a2 a3 a4 x5i x6i h v h' hs hf => (by cases hf), fun a1 a2 a3 a4 x5i x6i h v h' hs hf => (by cases hf), fun a1 a2 a3 a4 x5i x6i h v h' hs hf => (by cases hf)⟩
  | succ n ih =>
    refine ⟨?_, ?_, ?_⟩
    · intro a1 a2 a3 a4 x5i x6i h v h' hs hf
      have hf : ((if (Int32.ofInt 16) ≤ x5i then am_b2 (f_X9_openGroup (am_sI (am_sI h 51 23 (Int32.ofInt 0)) 51 22 (Int32.ofInt (-1)))) fun r2 h3 => (g_X9_lay n 1 a1 a2 a3 a4 (Int32.ofInt 0) 0 h3) else bif am_vp (((Int32.ofInt 16) * a1) + x5i) 128 then (g_X9_lay n 0 a1 a2 a3 a4 (x5i + Int32.ofInt 1) 0 (am_sI h 54 (Int32.toNatClampNeg (((Int32.ofInt 16) * a1) + x5i)) (Int32.ofInt 0))) else none)) = some (v, h') := hf
      by_cases c1 : (Int32.ofInt 16) ≤ x5i
      · rw [if_pos c1] at hf
        obtain ⟨r2, h3, e4, hf⟩ := am_b2_ok hf
        have hs := s_X9_openGroup (am_sI (am_sI h 51 23 (Int32.ofInt 0)) 51 22 (Int32.ofInt (-1))) hs e4
        exact ih.2.1 a1 a2 a3 a4 (Int32.ofInt 0) 0 h3 _ _ hs hf
      · rw [if_neg c1] at hf
        obtain ⟨b5, hf⟩ := am_bis hf
        exact ih.1 a1 a2 a3 a4 (x5i + Int32.ofInt 1) 0 (am_sI h 54 (Int32.toNatClampNeg (((Int32.ofInt 16) * a1) + x5i)) (Int32.ofInt 0)) _ _ hs hf
    · intro a1 a2 a3 a4 x5i x6i h v h' hs hf
      have hf : ((if a3 ≤ x5i then Option.bind ((if (am_I h 62 (Int32.toNatClampNeg (Int32.ofInt 0))) = 0 then some (Int32.ofInt 0) else some (Int32.ofInt 1))) fun y2 => (bif am_vp ((Int32.ofInt 16) * a1) 128 then (g_X9_lay n 2 a1 a2 a3 a4 x5i (Int32.ofInt 1) (am_sI h 54 (Int32.toNatClampNeg ((Int32.ofInt 16) * a1)) ((am_I h 60 (Int32.toNatClampNeg (Int32.ofInt 0))) ||| y2))) else none) else am_b2 (f_X9_signAt a2 x5i h) fun r56 h57 => (am_b2 ((if r56 = (Int32.ofInt 123) then am_b2 (f_X9_openGroup h57) fun r63 h64 => (some ((x5i + Int32.ofInt 1), h64)) else (if r56 = (Int32.ofInt 43) then am_b2 (f_X9_endRow h57) fun r67 h68 => (am_b2 (f_X9_newRow h68) fun r70 h71 => (some ((x5i + Int32.ofInt 1), h71))) else (if r56 = (Int32.ofInt 125) then am_b2 (f_X9_endRow h57) fun r74 h75 => (am_b2 ((if a3 ≤ (x5i + (Int32.ofInt 1)) then some ((Int32.ofInt 0), h75) else am_b2 (f_X9_signAt a2 (x5i + (Int32.ofInt 1)) h75) fun r81 h82 => ((if r81 = (Int32.ofInt 42) then some ((Int32.ofInt 1), h82) else some ((Int32.ofInt 0), h82))))) fun y77 h78 => (bif am_vp (am_I h78 51 22) 61 then (Option.bind ((if (am_I h78 51 23) = 0 then (if y77 = 0 then some (Int32.ofInt 0) else (if (am_I h78 65 (Int32.toNatClampNeg (am_I h78 51 22))) = 0 then some (Int32.ofInt 0) else some (Int32.ofInt 1))) else some (Int32.ofInt 1))) fun y136 => (bif am_b01 y136 then (Option.bind ((if y77 = 0 then some (am_sI h78 51 23 y136) else am_b2 (f_X9_join n a1 (am_I h78 64 (Int32.toNatClampNeg (am_I h78 51 22))) (am_I h78 63 (Int32.toNatClampNeg (am_I h78 51 22))) (am_sI h78 51 23 y136)) fun r195 h196 => (some h196))) fun h192 => (Option.bind ((if (am_I h78 65 (Int32.toNatClampNeg (am_I h78 51 22))) = 0 then (if y77 = 0 then some (Int32.ofInt 0) else some (Int32.ofInt 1)) else some (Int32.ofInt 1))) fun y248 => (am_b2 (f_X9_item n a1 (am_I h78 63 (Int32.toNatClampNeg (am_I h78 51 22))) (am_I h78 64 (Int32.toNatClampNeg (am_I h78 51 22))) y248 (am_sI h192 51 22 ((am_I h192 51 22) - (Int32.ofInt 1)))) fun r302 h303 => (Option.bind ((if y77 = 0 then some (Int32.ofInt 1) else some (Int32.ofInt 2))) fun y305 => (some ((x5i + y305), h303)))))) else none)) else none)) else (if r56 = (Int32.ofInt 59) then some ((x5i + Int32.ofInt 1), h57) else am_b2 (f_X9_signAt a2 (x5i + (Int32.ofInt 1)) h57) fun r359 h360 => (am_b2 (f_X9_signAt a2 (x5i + (Int32.ofInt 2)) h360) fun r362 h363 => (am_b2 (f_X9_layAct n a1 r56 r359 r362 a4 h363) fun r365 h366 => (some ((x5i + Int32.ofInt 3), h366))))))))) fun y59 h60 => (g_X9_lay n 1 a1 a2 a3 a4 y59 0 h60)))) = some (v, h') := hf
      by_cases c1 : a3 ≤ x5i
      · rw [if_pos c1] at hf
        obtain ⟨y2, j3, hf⟩ := am_bnd hf
        obtain ⟨b55, hf⟩ := am_bis hf
        exact ih.2.2 a1 a2 a3 a4 x5i (Int32.ofInt 1) (am_sI h 54 (Int32.toNatClampNeg ((Int32.ofInt 16) * a1)) ((am_I h 60 (Int32.toNatClampNeg (Int32.ofInt 0))) ||| y2)) _ _ hs hf
      · rw [if_neg c1] at hf
        obtain ⟨r56, h57, e58, hf⟩ := am_b2_ok hf
        have hs := s_X9_signAt a2 x5i h hs e58
        obtain ⟨y59, h60, j61, hf⟩ := am_b2_ok hf
        have hs0 := hs
        have hs : am_stat h60 := by
          have hs := hs0
          by_cases c62 : r56 = (Int32.ofInt 123)
          · rw [if_pos c62] at j61
            obtain ⟨r63, h64, e65, j61⟩ := am_b2_ok j61
            have hs := s_X9_openGroup h57 hs e65
            obtain ⟨rfl, rfl⟩ := am_i2 j61
            exact hs
          · rw [if_neg c62] at j61
            by_cases c66 : r56 = (Int32.ofInt 43)
            · rw [if_pos c66] at j61
              obtain ⟨r67, h68, e69, j61⟩ := am_b2_ok j61
              have hs := s_X9_endRow h57 hs e69
              obtain ⟨r70, h71, e72, j61⟩ := am_b2_ok j61
              have hs := s_X9_newRow h68 hs e72
              obtain ⟨rfl, rfl⟩ := am_i2 j61
              exact hs
            · rw [if_neg c66] at j61
              by_cases c73 : r56 = (Int32.ofInt 125)
              · rw [if_pos c73] at j61
                obtain ⟨r74, h75, e76, j61⟩ := am_b2_ok j61
                have hs := s_X9_endRow h57 hs e76
                obtain ⟨y77, h78, j79, j61⟩ := am_b2_ok j61
                have hs0 := hs
                have hs : am_stat h78 := by
                  have hs := hs0
                  by_cases c80 : a3 ≤ (x5i + (Int32.ofInt 1))
                  · rw [if_pos c80] at j79
                    obtain ⟨rfl, rfl⟩ := am_i2 j79
                    exact hs
                  · rw [if_neg c80] at j79
                    obtain ⟨r81, h82, e83, j79⟩ := am_b2_ok j79
                    have hs := s_X9_signAt a2 (x5i + (Int32.ofInt 1)) h75 hs e83
                    by_cases c84 : r81 = (Int32.ofInt 42)
                    · rw [if_pos c84] at j79
                      obtain ⟨rfl, rfl⟩ := am_i2 j79
                      exact hs
                    · rw [if_neg c84] at j79
                      obtain ⟨rfl, rfl⟩ := am_i2 j79
                      exact hs
                obtain ⟨b135, j61⟩ := am_bis j61
                obtain ⟨y136, j137, j61⟩ := am_bnd j61
                obtain ⟨b191, j61⟩ := am_bis j61
                obtain ⟨h192, j193, j61⟩ := am_bnd j61
                have hs0 := hs
                have hs : am_stat h192 := by
                  have hs := hs0
                  by_cases c194 : y77 = 0
                  · rw [if_pos c194] at j193
                    obtain rfl := am_i1 j193
                    exact hs
                  · rw [if_neg c194] at j193
                    obtain ⟨r195, h196, e197, j193⟩ := am_b2_ok j193
                    have hs := s_X9_join n a1 (am_I h78 64 (Int32.toNatClampNeg (am_I h78 51 22))) (am_I h78 63 (Int32.toNatClampNeg (am_I h78 51 22))) (am_sI h78 51 23 y136) hs e197
                    obtain rfl := am_i1 j193
                    exact hs
                obtain ⟨y248, j249, j61⟩ := am_bnd j61
                obtain ⟨r302, h303, e304, j61⟩ := am_b2_ok j61
                have hs := s_X9_item n a1 (am_I h78 63 (Int32.toNatClampNeg (am_I h78 51 22))) (am_I h78 64 (Int32.toNatClampNeg (am_I h78 51 22))) y248 (am_sI h192 51 22 ((am_I h192 51 22) - (Int32.ofInt 1))) hs e304
                obtain ⟨y305, j306, j61⟩ := am_bnd j61
                obtain ⟨rfl, rfl⟩ := am_i2 j61
                exact hs
              · rw [if_neg c73] at j61
                by_cases c358 : r56 = (Int32.ofInt 59)
                · rw [if_pos c358] at j61
                  obtain ⟨rfl, rfl⟩ := am_i2 j61
                  exact hs
                · rw [if_neg c358] at j61
                  obtain ⟨r359, h360, e361, j61⟩ := am_b2_ok j61
                  have hs := s_X9_signAt a2 (x5i + (Int32.ofInt 1)) h57 hs e361
                  obtain ⟨r362, h363, e364, j61⟩ := am_b2_ok j61
                  have hs := s_X9_signAt a2 (x5i + (Int32.ofInt 2)) h360 hs e364
                  obtain ⟨r365, h366, e367, j61⟩ := am_b2_ok j61
                  have hs := s_X9_layAct n a1 r56 r359 r362 a4 h363 hs e367
                  obtain ⟨rfl, rfl⟩ := am_i2 j61
                  exact hs
        exact ih.2.1 a1 a2 a3 a4 y59 0 h60 _ _ hs hf
    · intro a1 a2 a3 a4 x5i x6i h v h' hs hf
      have hf : ((if (Int32.ofInt 16) ≤ x6i then some ((), h) else bif am_vp (((Int32.ofInt 16) * a1) + x6i) 128 then (g_X9_lay n 2 a1 a2 a3 a4 x5i (x6i + Int32.ofInt 1) (am_sI h 54 (Int32.toNatClampNeg (((Int32.ofInt 16) * a1) + x6i)) ((am_I h 54 (Int32.toNatClampNeg (((Int32.ofInt 16) * a1) + x6i))) ||| (((am_I h 61 (Int32.toNatClampNeg (Int32.ofInt 0))) >>> (x6i &&& 31)) &&& (Int32.ofInt 1))))) else none)) = some (v, h') := hf
      by_cases c1 : (Int32.ofInt 16) ≤ x6i
      · rw [if_pos c1] at hf
        obtain ⟨rfl, rfl⟩ := am_i2 hf
        exact hs
      · rw [if_neg c1] at hf
        obtain ⟨b2, hf⟩ := am_bis hf
        exact ih.2.2 a1 a2 a3 a4 x5i (x6i + Int32.ofInt 1) (am_sI h 54 (Int32.toNatClampNeg (((Int32.ofInt 16) * a1) + x6i)) ((am_I h 54 (Int32.toNatClampNeg (((Int32.ofInt 16) * a1) + x6i))) ||| (((am_I h 61 (Int32.toNatClampNeg (Int32.ofInt 0))) >>> (x6i &&& 31)) &&& (Int32.ofInt 1)))) _ _ hs hf
set_option maxRecDepth 100000 in
set_option maxHeartbeats 4000000 in
theorem l_X9_lay (n : Nat) : (∀ (a1 : Int32) (a2 : Int32) (a3 : Int32) (a4 : Int32) (x5i : Int32) (x6i : Int32) (h : am_H) (v : Unit) (h' : am_H), am_stat h → g_X9_lay n 0 a1 a2 a3 a4 x5i x6i h = some (v, h') → AW mX9_lay (rX9_lay 0 0) (fun r h2 => r = none ∧ h2 = h') 10 [(0, .ref 51), (1, .int a1), (2, .int a2), (3, .int a3), (4, .int a4), (5, .int x5i)] [] h 0 0) ∧ (∀ (a1 : Int32) (a2 : Int32) (a3 : Int32) (a4 : Int32) (x5i : Int32) (x6i : Int32) (h : am_H) (v : Unit) (h' : am_H), am_stat h → g_X9_lay n 1 a1 a2 a3 a4 x5i x6i h = some (v, h') → AW mX9_lay (rX9_lay 0 0) (fun r h2 => r = none ∧ h2 = h') 53 [(0, .ref 51), (1, .int a1), (2, .int a2), (3, .int a3), (4, .int a4), (5, .int x5i)] [] h 0 0) ∧ (∀ (a1 : Int32) (a2 : Int32) (a3 : Int32) (a4 : Int32) (x5i : Int32) (x6i : Int32) (h : am_H) (v : Unit) (h' : am_H), am_stat h → g_X9_lay n 2 a1 a2 a3 a4 x5i x6i h = some (v, h') → AW mX9_lay (rX9_lay 0 0) (fun r h2 => r = none ∧ h2 = h') 350 [(0, .ref 51), (1, .int a1), (2, .int a2), (3, .int a3), (4, .int a4), (5, .int x5i), (6, .int x6i)] [] h 0 0) := by
  induction n with
  | zero => exact ⟨fun a1 a2 a3 a4 x5i x6i h v h' hs hf => (by cases hf), fun a1 a2 a3 a4 x5i x6i h v h' hs hf => (by cases hf), fun a1 a2 a3 a4 x5i x6i h v h' hs hf => (by cases hf)⟩
  | succ n ih =>
    refine ⟨?_, ?_, ?_⟩
    · intro a1 a2 a3 a4 x5i x6i h v h' hs hf
      have hf : ((if (Int32.ofInt 16) ≤ x5i then am_b2 (f_X9_openGroup (am_sI (am_sI h 51 23 (Int32.ofInt 0)) 51 22 (Int32.ofInt (-1)))) fun r2 h3 => (g_X9_lay n 1 a1 a2 a3 a4 (Int32.ofInt 0) 0 h3) else bif am_vp (((Int32.ofInt 16) * a1) + x5i) 128 then (g_X9_lay n 0 a1 a2 a3 a4 (x5i + Int32.ofInt 1) 0 (am_sI h 54 (Int32.toNatClampNeg (((Int32.ofInt 16) * a1) + x5i)) (Int32.ofInt 0))) else none)) = some (v, h') := hf
      refine AW_go okX9_lay 3 ?_
      refine And.intro (fun c1 => ?_) (fun c1 => ?_)
      · rw [if_pos c1] at hf
        refine AW_go okX9_lay 7 ?_
        refine And.intro (Or.inl rfl) (And.intro (sK hs 51) ?_)
        refine And.intro (sK hs 51) ?_
        obtain ⟨r2, h3, e4, hf⟩ := am_b2_ok hf
        refine AW_callV (As := []) (R' := rX9_openGroup 0 0) (T := TX9) (N := 58) (ci := 9) (okX9_lay.1 47 _ _ rfl) lkX9_openGroup kX9_169 rfl (sK hs 51) rfl (Nat.le_of_ble_eq_true rfl) ⟨by decide, by decide⟩ ⟨(Nat.le_of_ble_eq_true rfl), (Nat.le_of_ble_eq_true rfl)⟩ (Nat.le_of_ble_eq_true rfl) (c_X9_openGroup (am_sI (am_sI h 51 23 (Int32.ofInt 0)) 51 22 (Int32.ofInt (-1))) hs e4) (fun r h' hq => ?_)
        obtain ⟨rfl, hq⟩ := hq
        replace hq := hq.symm
        subst hq
        have hs := s_X9_openGroup (am_sI (am_sI h 51 23 (Int32.ofInt 0)) 51 22 (Int32.ofInt (-1))) hs e4
        refine AW_go okX9_lay 2 ?_
        refine AW_pick (lv' := [(0, .ref 51), (1, .int a1), (2, .int a2), (3, .int a3), (4, .int a4), (5, .int (Int32.ofInt 0))]) [1, 2, 3, 4, 5, 0] rfl ?_
        exact ih.2.1 a1 a2 a3 a4 (Int32.ofInt 0) 0 h3 _ _ hs hf
      · rw [if_neg c1] at hf
        obtain ⟨b5, hf⟩ := am_bis hf
        refine AW_go okX9_lay 11 ?_
        refine And.intro (sK hs 51) (Exists.intro _ (And.intro (sA hs 51 4) ?_))
        refine Exists.intro 128 (And.intro (sK hs 54) (And.intro (am_vp_ok b5) ?_))
        refine AW_pick (lv' := [(0, .ref 51), (1, .int a1), (2, .int a2), (3, .int a3), (4, .int a4), (5, .int (x5i + Int32.ofInt 1))]) [1, 2, 3, 4, 5, 0] rfl ?_
        exact ih.1 a1 a2 a3 a4 (x5i + Int32.ofInt 1) 0 (am_sI h 54 (Int32.toNatClampNeg (((Int32.ofInt 16) * a1) + x5i)) (Int32.ofInt 0)) _ _ hs hf
    · intro a1 a2 a3 a4 x5i x6i h v h' hs hf
      have hf : ((if a3 ≤ x5i then Option.bind ((if (am_I h 62 (Int32.toNatClampNeg (Int32.ofInt 0))) = 0 then some (Int32.ofInt 0) else some (Int32.ofInt 1))) fun y2 => (bif am_vp ((Int32.ofInt 16) * a1) 128 then (g_X9_lay n 2 a1 a2 a3 a4 x5i (Int32.ofInt 1) (am_sI h 54 (Int32.toNatClampNeg ((Int32.ofInt 16) * a1)) ((am_I h 60 (Int32.toNatClampNeg (Int32.ofInt 0))) ||| y2))) else none) else am_b2 (f_X9_signAt a2 x5i h) fun r56 h57 => (am_b2 ((if r56 = (Int32.ofInt 123) then am_b2 (f_X9_openGroup h57) fun r365 h366 => (some ((x5i + Int32.ofInt 1), h366)) else (if r56 = (Int32.ofInt 43) then am_b2 (f_X9_endRow h57) fun r359 h360 => (am_b2 (f_X9_newRow h360) fun r362 h363 => (some ((x5i + Int32.ofInt 1), h363))) else (if r56 = (Int32.ofInt 125) then am_b2 (f_X9_endRow h57) fun r75 h76 => (am_b2 ((if a3 ≤ (x5i + (Int32.ofInt 1)) then some ((Int32.ofInt 0), h76) else am_b2 (f_X9_signAt a2 (x5i + (Int32.ofInt 1)) h76) fun r82 h83 => ((if r82 = (Int32.ofInt 42) then some ((Int32.ofInt 1), h83) else some ((Int32.ofInt 0), h83))))) fun y78 h79 => (bif am_vp (am_I h79 51 22) 61 then (Option.bind ((if (am_I h79 51 23) = 0 then (if y78 = 0 then some (Int32.ofInt 0) else (if (am_I h79 65 (Int32.toNatClampNeg (am_I h79 51 22))) = 0 then some (Int32.ofInt 0) else some (Int32.ofInt 1))) else some (Int32.ofInt 1))) fun y137 => (bif am_b01 y137 then (Option.bind ((if y78 = 0 then some (am_sI h79 51 23 y137) else am_b2 (f_X9_join n a1 (am_I h79 64 (Int32.toNatClampNeg (am_I h79 51 22))) (am_I h79 63 (Int32.toNatClampNeg (am_I h79 51 22))) (am_sI h79 51 23 y137)) fun r196 h197 => (some h197))) fun h193 => (Option.bind ((if (am_I h79 65 (Int32.toNatClampNeg (am_I h79 51 22))) = 0 then (if y78 = 0 then some (Int32.ofInt 0) else some (Int32.ofInt 1)) else some (Int32.ofInt 1))) fun y249 => (am_b2 (f_X9_item n a1 (am_I h79 63 (Int32.toNatClampNeg (am_I h79 51 22))) (am_I h79 64 (Int32.toNatClampNeg (am_I h79 51 22))) y249 (am_sI h193 51 22 ((am_I h193 51 22) - (Int32.ofInt 1)))) fun r303 h304 => (Option.bind ((if y78 = 0 then some (Int32.ofInt 1) else some (Int32.ofInt 2))) fun y306 => (some ((x5i + y306), h304)))))) else none)) else none)) else (if r56 = (Int32.ofInt 59) then some ((x5i + Int32.ofInt 1), h57) else am_b2 (f_X9_signAt a2 (x5i + (Int32.ofInt 1)) h57) fun r66 h67 => (am_b2 (f_X9_signAt a2 (x5i + (Int32.ofInt 2)) h67) fun r69 h70 => (am_b2 (f_X9_layAct n a1 r56 r66 r69 a4 h70) fun r72 h73 => (some ((x5i + Int32.ofInt 3), h73))))))))) fun y59 h60 => (g_X9_lay n 1 a1 a2 a3 a4 y59 0 h60)))) = some (v, h') := hf
      refine AW_go okX9_lay 3 ?_
      refine And.intro (fun c1 => ?_) (fun c1 => ?_)
      · rw [if_pos c1] at hf
        refine AW_go okX9_lay 13 ?_
        refine And.intro (sK hs 51) (Exists.intro _ (And.intro (sA hs 51 4) ?_))
        refine And.intro (sK hs 51) (Exists.intro _ (And.intro (sA hs 51 16) ?_))
        refine Exists.intro 61 (And.intro (sK hs 60) (And.intro (by unfold vp_in; decide) ?_))
        refine And.intro (sK hs 51) (Exists.intro _ (And.intro (sA hs 51 18) ?_))
        refine Exists.intro 2 (Exists.intro 61 (And.intro (by decide) (And.intro (sK hs 62) (And.intro (by unfold vp_in; decide) ?_))))
        obtain ⟨y2, j3, hf⟩ := am_bnd hf
        refine am_cut (P := AW mX9_lay (rX9_lay 0 0) (fun r h2 => r = none ∧ h2 = h') 345 [(0, .ref 51), (1, .int a1), (2, .int a2), (3, .int a3), (4, .int a4), (5, .int x5i)] [.int y2, .int (am_I h 60 (Int32.toNatClampNeg (Int32.ofInt 0))), .int ((Int32.ofInt 16) * a1), .ref 54] h 0 0) (fun hJ3 => ?_) ?_
        · have hs := hs
          refine AW_go okX9_lay 1 ?_
          refine And.intro (fun c4 => ?_) (fun c4 => ?_)
          · rw [if_pos c4] at j3
            refine AW_go okX9_lay 1 ?_
            obtain rfl := am_i1 j3
            exact AW_pick [0, 1, 2, 3, 4, 5] rfl hJ3
          · rw [if_neg c4] at j3
            refine AW_go okX9_lay 2 ?_
            obtain rfl := am_i1 j3
            exact AW_pick [0, 1, 2, 3, 4, 5] rfl hJ3
        obtain ⟨b55, hf⟩ := am_bis hf
        refine AW_go okX9_lay 4 ?_
        refine Exists.intro 128 (And.intro (sK hs 54) (And.intro (am_vp_ok b55) ?_))
        refine AW_pick (lv' := [(0, .ref 51), (1, .int a1), (2, .int a2), (3, .int a3), (4, .int a4), (5, .int x5i), (6, .int (Int32.ofInt 1))]) [1, 2, 3, 4, 5, 6, 0] rfl ?_
        exact ih.2.2 a1 a2 a3 a4 x5i (Int32.ofInt 1) (am_sI h 54 (Int32.toNatClampNeg ((Int32.ofInt 16) * a1)) ((am_I h 60 (Int32.toNatClampNeg (Int32.ofInt 0))) ||| y2)) _ _ hs hf
      · rw [if_neg c1] at hf
        refine AW_go okX9_lay 3 ?_
        obtain ⟨r56, h57, e58, hf⟩ := am_b2_ok hf
        refine AW_callV (As := [.int a2, .int x5i]) (R' := rX9_signAt 0 0) (T := TX9) (N := 58) (ci := 9) (okX9_lay.1 63 _ _ rfl) lkX9_signAt kX9_172 rfl (sK hs 51) rfl (Nat.le_of_ble_eq_true rfl) ⟨by decide, by decide⟩ ⟨(Nat.le_of_ble_eq_true rfl), (Nat.le_of_ble_eq_true rfl)⟩ (Nat.le_of_ble_eq_true rfl) (c_X9_signAt a2 x5i h hs e58) (fun r h' hq => ?_)
        obtain ⟨rfl, hq⟩ := hq
        replace hq := hq.symm
        subst hq
        have hs := s_X9_signAt a2 x5i h hs e58
        refine AW_go okX9_lay 3 ?_
        obtain ⟨y59, h60, j61, hf⟩ := am_b2_ok hf
        have hs0 := hs
        have hs : am_stat h60 := by
          have hs := hs0
          by_cases c62 : r56 = (Int32.ofInt 123)
          · rw [if_pos c62] at j61
            obtain ⟨r63, h64, e65, j61⟩ := am_b2_ok j61
            have hs := s_X9_openGroup h57 hs e65
            obtain ⟨rfl, rfl⟩ := am_i2 j61
            exact hs
          · rw [if_neg c62] at j61
            by_cases c66 : r56 = (Int32.ofInt 43)
            · rw [if_pos c66] at j61
              obtain ⟨r67, h68, e69, j61⟩ := am_b2_ok j61
              have hs := s_X9_endRow h57 hs e69
              obtain ⟨r70, h71, e72, j61⟩ := am_b2_ok j61
              have hs := s_X9_newRow h68 hs e72
              obtain ⟨rfl, rfl⟩ := am_i2 j61
              exact hs
            · rw [if_neg c66] at j61
              by_cases c73 : r56 = (Int32.ofInt 125)
              · rw [if_pos c73] at j61
                obtain ⟨r74, h75, e76, j61⟩ := am_b2_ok j61
                have hs := s_X9_endRow h57 hs e76
                obtain ⟨y77, h78, j79, j61⟩ := am_b2_ok j61
                have hs0 := hs
                have hs : am_stat h78 := by
                  have hs := hs0
                  by_cases c80 : a3 ≤ (x5i + (Int32.ofInt 1))
                  · rw [if_pos c80] at j79
                    obtain ⟨rfl, rfl⟩ := am_i2 j79
                    exact hs
                  · rw [if_neg c80] at j79
                    obtain ⟨r81, h82, e83, j79⟩ := am_b2_ok j79
                    have hs := s_X9_signAt a2 (x5i + (Int32.ofInt 1)) h75 hs e83
                    by_cases c84 : r81 = (Int32.ofInt 42)
                    · rw [if_pos c84] at j79
                      obtain ⟨rfl, rfl⟩ := am_i2 j79
                      exact hs
                    · rw [if_neg c84] at j79
                      obtain ⟨rfl, rfl⟩ := am_i2 j79
                      exact hs
                obtain ⟨b135, j61⟩ := am_bis j61
                obtain ⟨y136, j137, j61⟩ := am_bnd j61
                obtain ⟨b191, j61⟩ := am_bis j61
                obtain ⟨h192, j193, j61⟩ := am_bnd j61
                have hs0 := hs
                have hs : am_stat h192 := by
                  have hs := hs0
                  by_cases c194 : y77 = 0
                  · rw [if_pos c194] at j193
                    obtain rfl := am_i1 j193
                    exact hs
                  · rw [if_neg c194] at j193
                    obtain ⟨r195, h196, e197, j193⟩ := am_b2_ok j193
                    have hs := s_X9_join n a1 (am_I h78 64 (Int32.toNatClampNeg (am_I h78 51 22))) (am_I h78 63 (Int32.toNatClampNeg (am_I h78 51 22))) (am_sI h78 51 23 y136) hs e197
                    obtain rfl := am_i1 j193
                    exact hs
                obtain ⟨y248, j249, j61⟩ := am_bnd j61
                obtain ⟨r302, h303, e304, j61⟩ := am_b2_ok j61
                have hs := s_X9_item n a1 (am_I h78 63 (Int32.toNatClampNeg (am_I h78 51 22))) (am_I h78 64 (Int32.toNatClampNeg (am_I h78 51 22))) y248 (am_sI h192 51 22 ((am_I h192 51 22) - (Int32.ofInt 1))) hs e304
                obtain ⟨y305, j306, j61⟩ := am_bnd j61
                obtain ⟨rfl, rfl⟩ := am_i2 j61
                exact hs
              · rw [if_neg c73] at j61
                by_cases c358 : r56 = (Int32.ofInt 59)
                · rw [if_pos c358] at j61
                  obtain ⟨rfl, rfl⟩ := am_i2 j61
                  exact hs
                · rw [if_neg c358] at j61
                  obtain ⟨r359, h360, e361, j61⟩ := am_b2_ok j61
                  have hs := s_X9_signAt a2 (x5i + (Int32.ofInt 1)) h57 hs e361
                  obtain ⟨r362, h363, e364, j61⟩ := am_b2_ok j61
                  have hs := s_X9_signAt a2 (x5i + (Int32.ofInt 2)) h360 hs e364
                  obtain ⟨r365, h366, e367, j61⟩ := am_b2_ok j61
                  have hs := s_X9_layAct n a1 r56 r359 r362 a4 h363 hs e367
                  obtain ⟨rfl, rfl⟩ := am_i2 j61
                  exact hs
        refine am_cut (P := AW mX9_lay (rX9_lay 0 0) (fun r h2 => r = none ∧ h2 = h') 314 [(0, .ref 51), (1, .int a1), (2, .int a2), (3, .int a3), (4, .int a4), (5, .int y59), (6, .int r56)] [] h60 0 0) (fun hJ61 => ?_) ?_
        · have hs := hs0
          refine AW_go okX9_lay 1 ?_
          refine And.intro (fun c62 => ?_) (fun c62 => ?_)
          · rw [if_neg c62] at j61
            refine AW_go okX9_lay 3 ?_
            refine And.intro (fun c63 => ?_) (fun c63 => ?_)
            · rw [if_neg c63] at j61
              refine AW_go okX9_lay 3 ?_
              refine And.intro (fun c64 => ?_) (fun c64 => ?_)
              · rw [if_neg c64] at j61
                refine AW_go okX9_lay 3 ?_
                refine And.intro (fun c65 => ?_) (fun c65 => ?_)
                · rw [if_neg c65] at j61
                  refine AW_go okX9_lay 8 ?_
                  obtain ⟨r66, h67, e68, j61⟩ := am_b2_ok j61
                  refine AW_callV (As := [.int a2, .int (x5i + (Int32.ofInt 1))]) (R' := rX9_signAt 0 0) (T := TX9) (N := 58) (ci := 9) (okX9_lay.1 294 _ _ rfl) lkX9_signAt kX9_172 rfl (sK hs 51) rfl (Nat.le_of_ble_eq_true rfl) ⟨by decide, by decide⟩ ⟨(Nat.le_of_ble_eq_true rfl), (Nat.le_of_ble_eq_true rfl)⟩ (Nat.le_of_ble_eq_true rfl) (c_X9_signAt a2 (x5i + (Int32.ofInt 1)) h57 hs e68) (fun r h' hq => ?_)
                  obtain ⟨rfl, hq⟩ := hq
                  replace hq := hq.symm
                  subst hq
                  have hs := s_X9_signAt a2 (x5i + (Int32.ofInt 1)) h57 hs e68
                  refine AW_go okX9_lay 5 ?_
                  obtain ⟨r69, h70, e71, j61⟩ := am_b2_ok j61
                  refine AW_callV (As := [.int a2, .int (x5i + (Int32.ofInt 2))]) (R' := rX9_signAt 0 0) (T := TX9) (N := 58) (ci := 9) (okX9_lay.1 303 _ _ rfl) lkX9_signAt kX9_172 rfl (sK hs 51) rfl (Nat.le_of_ble_eq_true rfl) ⟨by decide, by decide⟩ ⟨(Nat.le_of_ble_eq_true rfl), (Nat.le_of_ble_eq_true rfl)⟩ (Nat.le_of_ble_eq_true rfl) (c_X9_signAt a2 (x5i + (Int32.ofInt 2)) h67 hs e71) (fun r h' hq => ?_)
                  obtain ⟨rfl, hq⟩ := hq
                  replace hq := hq.symm
                  subst hq
                  have hs := s_X9_signAt a2 (x5i + (Int32.ofInt 2)) h67 hs e71
                  refine AW_go okX9_lay 1 ?_
                  obtain ⟨r72, h73, e74, j61⟩ := am_b2_ok j61
                  refine AW_callV (As := [.int a1, .int r56, .int r66, .int r69, .int a4]) (R' := rX9_layAct 0 0) (T := TX9) (N := 58) (ci := 9) (okX9_lay.1 308 _ _ rfl) lkX9_layAct kX9_183 rfl (sK hs 51) rfl (Nat.le_of_ble_eq_true rfl) ⟨by decide, by decide⟩ ⟨(Nat.le_of_ble_eq_true rfl), (Nat.le_of_ble_eq_true rfl)⟩ (Nat.le_of_ble_eq_true rfl) (c_X9_layAct n a1 r56 r66 r69 a4 h70 hs e74) (fun r h' hq => ?_)
                  obtain ⟨rfl, hq⟩ := hq
                  replace hq := hq.symm
                  subst hq
                  have hs := s_X9_layAct n a1 r56 r66 r69 a4 h70 hs e74
                  refine AW_go okX9_lay 1 ?_
                  obtain ⟨rfl, rfl⟩ := am_i2 j61
                  exact AW_pick [2, 3, 4, 5, 6, 0, 1] rfl hJ61
                · rw [if_pos c65] at j61
                  refine AW_go okX9_lay 2 ?_
                  obtain ⟨rfl, rfl⟩ := am_i2 j61
                  exact AW_pick [2, 3, 4, 5, 6, 0, 1] rfl hJ61
              · rw [if_pos c64] at j61
                refine AW_go okX9_lay 1 ?_
                obtain ⟨r75, h76, e77, j61⟩ := am_b2_ok j61
                refine AW_callV (As := []) (R' := rX9_endRow 0 0) (T := TX9) (N := 58) (ci := 9) (okX9_lay.1 114 _ _ rfl) lkX9_endRow kX9_176 rfl (sK hs 51) rfl (Nat.le_of_ble_eq_true rfl) ⟨by decide, by decide⟩ ⟨(Nat.le_of_ble_eq_true rfl), (Nat.le_of_ble_eq_true rfl)⟩ (Nat.le_of_ble_eq_true rfl) (c_X9_endRow h57 hs e77) (fun r h' hq => ?_)
                obtain ⟨rfl, hq⟩ := hq
                replace hq := hq.symm
                subst hq
                have hs := s_X9_endRow h57 hs e77
                refine AW_go okX9_lay 4 ?_
                obtain ⟨y78, h79, j80, j61⟩ := am_b2_ok j61
                have hs0 := hs
                have hs : am_stat h79 := by
                  have hs := hs0
                  by_cases c81 : a3 ≤ (x5i + (Int32.ofInt 1))
                  · rw [if_pos c81] at j80
                    obtain ⟨rfl, rfl⟩ := am_i2 j80
                    exact hs
                  · rw [if_neg c81] at j80
                    obtain ⟨r82, h83, e84, j80⟩ := am_b2_ok j80
                    have hs := s_X9_signAt a2 (x5i + (Int32.ofInt 1)) h76 hs e84
                    by_cases c85 : r82 = (Int32.ofInt 42)
                    · rw [if_pos c85] at j80
                      obtain ⟨rfl, rfl⟩ := am_i2 j80
                      exact hs
                    · rw [if_neg c85] at j80
                      obtain ⟨rfl, rfl⟩ := am_i2 j80
                      exact hs
                refine am_cut (P := AW mX9_lay (rX9_lay 0 0) (fun r h2 => r = none ∧ h2 = h') 144 [(0, .ref 51), (1, .int a1), (2, .int a2), (3, .int a3), (4, .int a4), (5, .int x5i), (6, .int r56)] [.int y78] h79 0 0) (fun hJ80 => ?_) ?_
                · have hs := hs0
                  refine AW_go okX9_lay 1 ?_
                  refine And.intro (fun c81 => ?_) (fun c81 => ?_)
                  · rw [if_pos c81] at j80
                    refine AW_go okX9_lay 1 ?_
                    obtain ⟨rfl, rfl⟩ := am_i2 j80
                    exact AW_pick [1, 2, 3, 4, 5, 6, 0] rfl hJ80
                  · rw [if_neg c81] at j80
                    refine AW_go okX9_lay 5 ?_
                    obtain ⟨r82, h83, e84, j80⟩ := am_b2_ok j80
                    refine AW_callV (As := [.int a2, .int (x5i + (Int32.ofInt 1))]) (R' := rX9_signAt 0 0) (T := TX9) (N := 58) (ci := 9) (okX9_lay.1 131 _ _ rfl) lkX9_signAt kX9_172 rfl (sK hs 51) rfl (Nat.le_of_ble_eq_true rfl) ⟨by decide, by decide⟩ ⟨(Nat.le_of_ble_eq_true rfl), (Nat.le_of_ble_eq_true rfl)⟩ (Nat.le_of_ble_eq_true rfl) (c_X9_signAt a2 (x5i + (Int32.ofInt 1)) h76 hs e84) (fun r h' hq => ?_)
                    obtain ⟨rfl, hq⟩ := hq
                    replace hq := hq.symm
                    subst hq
                    have hs := s_X9_signAt a2 (x5i + (Int32.ofInt 1)) h76 hs e84
                    refine AW_go okX9_lay 2 ?_
                    refine And.intro (fun c85 => ?_) (fun c85 => ?_)
                    · rw [if_neg c85] at j80
                      refine AW_go okX9_lay 1 ?_
                      obtain ⟨rfl, rfl⟩ := am_i2 j80
                      exact AW_pick [1, 2, 3, 4, 5, 6, 0] rfl hJ80
                    · rw [if_pos c85] at j80
                      refine AW_go okX9_lay 2 ?_
                      obtain ⟨rfl, rfl⟩ := am_i2 j80
                      exact AW_pick [1, 2, 3, 4, 5, 6, 0] rfl hJ80
                obtain ⟨b136, j61⟩ := am_bis j61
                refine AW_go okX9_lay 22 ?_
                refine And.intro (sK hs 51) (Exists.intro _ (And.intro (sA hs 51 19) ?_))
                refine And.intro (sK hs 51) ?_
                refine Exists.intro 61 (And.intro (sK hs 63) (And.intro (am_vp_ok b136) ?_))
                refine And.intro (sK hs 51) (Exists.intro _ (And.intro (sA hs 51 20) ?_))
                refine And.intro (sK hs 51) ?_
                refine Exists.intro 61 (And.intro (sK hs 64) (And.intro (am_vp_ok b136) ?_))
                refine And.intro (sK hs 51) (Exists.intro _ (And.intro (sA hs 51 21) ?_))
                refine And.intro (sK hs 51) ?_
                refine Exists.intro 2 (Exists.intro 61 (And.intro (by decide) (And.intro (sK hs 65) (And.intro (am_vp_ok b136) ?_))))
                refine And.intro (sK hs 51) ?_
                obtain ⟨y137, j138, j61⟩ := am_bnd j61
                refine am_cut (P := AW mX9_lay (rX9_lay 0 0) (fun r h2 => r = none ∧ h2 = h') 202 [(0, .ref 51), (1, .int a1), (2, .int a2), (3, .int a3), (4, .int a4), (5, .int x5i), (6, .int r56), (7, .int y78), (8, .int (am_I h79 63 (Int32.toNatClampNeg (am_I h79 51 22)))), (9, .int (am_I h79 64 (Int32.toNatClampNeg (am_I h79 51 22)))), (10, .int (am_I h79 65 (Int32.toNatClampNeg (am_I h79 51 22))))] [.int y137, .ref 51] h79 0 0) (fun hJ138 => ?_) ?_
                · have hs := hs
                  refine AW_go okX9_lay 1 ?_
                  refine And.intro (fun c139 => ?_) (fun c139 => ?_)
                  · rw [if_neg c139] at j138
                    refine AW_go okX9_lay 2 ?_
                    obtain rfl := am_i1 j138
                    exact AW_pick [4, 5, 6, 7, 8, 9, 10, 3, 2, 1, 0] rfl hJ138
                  · rw [if_pos c139] at j138
                    refine AW_go okX9_lay 2 ?_
                    refine And.intro (fun c140 => ?_) (fun c140 => ?_)
                    · rw [if_pos c140] at j138
                      refine AW_go okX9_lay 1 ?_
                      obtain rfl := am_i1 j138
                      exact AW_pick [4, 5, 6, 7, 8, 9, 10, 3, 2, 1, 0] rfl hJ138
                    · rw [if_neg c140] at j138
                      refine AW_go okX9_lay 2 ?_
                      refine And.intro (fun c141 => ?_) (fun c141 => ?_)
                      · rw [if_pos c141] at j138
                        refine AW_go okX9_lay 1 ?_
                        obtain rfl := am_i1 j138
                        exact AW_pick [4, 5, 6, 7, 8, 9, 10, 3, 2, 1, 0] rfl hJ138
                      · rw [if_neg c141] at j138
                        refine AW_go okX9_lay 2 ?_
                        obtain rfl := am_i1 j138
                        exact AW_pick [4, 5, 6, 7, 8, 9, 10, 3, 2, 1, 0] rfl hJ138
                obtain ⟨b192, j61⟩ := am_bis j61
                refine AW_go okX9_lay 2 ?_
                refine And.intro (am_b01_ok b192) (And.intro (sK hs 51) ?_)
                obtain ⟨h193, j194, j61⟩ := am_bnd j61
                have hs0 := hs
                have hs : am_stat h193 := by
                  have hs := hs0
                  by_cases c195 : y78 = 0
                  · rw [if_pos c195] at j194
                    obtain rfl := am_i1 j194
                    exact hs
                  · rw [if_neg c195] at j194
                    obtain ⟨r196, h197, e198, j194⟩ := am_b2_ok j194
                    have hs := s_X9_join n a1 (am_I h79 64 (Int32.toNatClampNeg (am_I h79 51 22))) (am_I h79 63 (Int32.toNatClampNeg (am_I h79 51 22))) (am_sI h79 51 23 y137) hs e198
                    obtain rfl := am_i1 j194
                    exact hs
                refine am_cut (P := AW mX9_lay (rX9_lay 0 0) (fun r h2 => r = none ∧ h2 = h') 219 [(0, .ref 51), (1, .int a1), (2, .int a2), (3, .int a3), (4, .int a4), (5, .int x5i), (6, .int r56), (7, .int y78), (8, .int (am_I h79 63 (Int32.toNatClampNeg (am_I h79 51 22)))), (9, .int (am_I h79 64 (Int32.toNatClampNeg (am_I h79 51 22)))), (10, .int (am_I h79 65 (Int32.toNatClampNeg (am_I h79 51 22))))] [] h193 0 0) (fun hJ194 => ?_) ?_
                · have hs := hs0
                  refine AW_go okX9_lay 1 ?_
                  refine And.intro (fun c195 => ?_) (fun c195 => ?_)
                  · rw [if_pos c195] at j194
                    obtain rfl := am_i1 j194
                    exact AW_pick [0, 1, 2, 3, 4, 5, 6, 7, 8, 9, 10] rfl hJ194
                  · rw [if_neg c195] at j194
                    refine AW_go okX9_lay 4 ?_
                    obtain ⟨r196, h197, e198, j194⟩ := am_b2_ok j194
                    refine AW_callV (As := [.int a1, .int (am_I h79 64 (Int32.toNatClampNeg (am_I h79 51 22))), .int (am_I h79 63 (Int32.toNatClampNeg (am_I h79 51 22)))]) (R' := rX9_join 0 0) (T := TX9) (N := 58) (ci := 9) (okX9_lay.1 216 _ _ rfl) lkX9_join kX9_162 rfl (sK hs 51) rfl (Nat.le_of_ble_eq_true rfl) ⟨by decide, by decide⟩ ⟨(Nat.le_of_ble_eq_true rfl), (Nat.le_of_ble_eq_true rfl)⟩ (Nat.le_of_ble_eq_true rfl) (c_X9_join n a1 (am_I h79 64 (Int32.toNatClampNeg (am_I h79 51 22))) (am_I h79 63 (Int32.toNatClampNeg (am_I h79 51 22))) (am_sI h79 51 23 y137) hs e198) (fun r h' hq => ?_)
                    obtain ⟨rfl, hq⟩ := hq
                    replace hq := hq.symm
                    subst hq
                    have hs := s_X9_join n a1 (am_I h79 64 (Int32.toNatClampNeg (am_I h79 51 22))) (am_I h79 63 (Int32.toNatClampNeg (am_I h79 51 22))) (am_sI h79 51 23 y137) hs e198
                    obtain rfl := am_i1 j194
                    exact AW_pick [0, 1, 2, 3, 4, 5, 6, 7, 8, 9, 10] rfl hJ194
                refine AW_go okX9_lay 11 ?_
                refine And.intro (sK hs 51) ?_
                refine And.intro (sK hs 51) ?_
                obtain ⟨y249, j250, j61⟩ := am_bnd j61
                refine am_cut (P := AW mX9_lay (rX9_lay 0 0) (fun r h2 => r = none ∧ h2 = h') 250 [(0, .ref 51), (1, .int a1), (2, .int a2), (3, .int a3), (4, .int a4), (5, .int x5i), (6, .int r56), (7, .int y78), (8, .int (am_I h79 63 (Int32.toNatClampNeg (am_I h79 51 22)))), (9, .int (am_I h79 64 (Int32.toNatClampNeg (am_I h79 51 22)))), (10, .int (am_I h79 65 (Int32.toNatClampNeg (am_I h79 51 22))))] [.int y249, .int (am_I h79 64 (Int32.toNatClampNeg (am_I h79 51 22))), .int (am_I h79 63 (Int32.toNatClampNeg (am_I h79 51 22))), .int a1, .ref 51] (am_sI h193 51 22 ((am_I h193 51 22) - (Int32.ofInt 1))) 0 0) (fun hJ250 => ?_) ?_
                · have hs := hs
                  refine AW_go okX9_lay 1 ?_
                  refine And.intro (fun c251 => ?_) (fun c251 => ?_)
                  · rw [if_neg c251] at j250
                    refine AW_go okX9_lay 2 ?_
                    obtain rfl := am_i1 j250
                    exact AW_pick [0, 1, 2, 3, 4, 5, 6, 7, 8, 9, 10] rfl hJ250
                  · rw [if_pos c251] at j250
                    refine AW_go okX9_lay 2 ?_
                    refine And.intro (fun c252 => ?_) (fun c252 => ?_)
                    · rw [if_pos c252] at j250
                      refine AW_go okX9_lay 1 ?_
                      obtain rfl := am_i1 j250
                      exact AW_pick [0, 1, 2, 3, 4, 5, 6, 7, 8, 9, 10] rfl hJ250
                    · rw [if_neg c252] at j250
                      refine AW_go okX9_lay 2 ?_
                      obtain rfl := am_i1 j250
                      exact AW_pick [0, 1, 2, 3, 4, 5, 6, 7, 8, 9, 10] rfl hJ250
                obtain ⟨r303, h304, e305, j61⟩ := am_b2_ok j61
                refine AW_callV (As := [.int a1, .int (am_I h79 63 (Int32.toNatClampNeg (am_I h79 51 22))), .int (am_I h79 64 (Int32.toNatClampNeg (am_I h79 51 22))), .int y249]) (R' := rX9_item 0 0) (T := TX9) (N := 58) (ci := 9) (okX9_lay.1 250 _ _ rfl) lkX9_item kX9_179 rfl (sK hs 51) rfl (Nat.le_of_ble_eq_true rfl) ⟨by decide, by decide⟩ ⟨(Nat.le_of_ble_eq_true rfl), (Nat.le_of_ble_eq_true rfl)⟩ (Nat.le_of_ble_eq_true rfl) (c_X9_item n a1 (am_I h79 63 (Int32.toNatClampNeg (am_I h79 51 22))) (am_I h79 64 (Int32.toNatClampNeg (am_I h79 51 22))) y249 (am_sI h193 51 22 ((am_I h193 51 22) - (Int32.ofInt 1))) hs e305) (fun r h' hq => ?_)
                obtain ⟨rfl, hq⟩ := hq
                replace hq := hq.symm
                subst hq
                have hs := s_X9_item n a1 (am_I h79 63 (Int32.toNatClampNeg (am_I h79 51 22))) (am_I h79 64 (Int32.toNatClampNeg (am_I h79 51 22))) y249 (am_sI h193 51 22 ((am_I h193 51 22) - (Int32.ofInt 1))) hs e305
                refine AW_go okX9_lay 2 ?_
                obtain ⟨y306, j307, j61⟩ := am_bnd j61
                refine am_cut (P := AW mX9_lay (rX9_lay 0 0) (fun r h2 => r = none ∧ h2 = h') 265 [(0, .ref 51), (1, .int a1), (2, .int a2), (3, .int a3), (4, .int a4), (5, .int x5i), (6, .int r56), (7, .int y78), (8, .int (am_I h79 63 (Int32.toNatClampNeg (am_I h79 51 22)))), (9, .int (am_I h79 64 (Int32.toNatClampNeg (am_I h79 51 22)))), (10, .int (am_I h79 65 (Int32.toNatClampNeg (am_I h79 51 22))))] [.int y306, .int x5i] h304 0 0) (fun hJ307 => ?_) ?_
                · have hs := hs
                  refine AW_go okX9_lay 1 ?_
                  refine And.intro (fun c308 => ?_) (fun c308 => ?_)
                  · rw [if_pos c308] at j307
                    refine AW_go okX9_lay 1 ?_
                    obtain rfl := am_i1 j307
                    exact AW_pick [0, 1, 2, 3, 4, 5, 6, 7, 8, 9, 10] rfl hJ307
                  · rw [if_neg c308] at j307
                    refine AW_go okX9_lay 2 ?_
                    obtain rfl := am_i1 j307
                    exact AW_pick [0, 1, 2, 3, 4, 5, 6, 7, 8, 9, 10] rfl hJ307
                refine AW_go okX9_lay 3 ?_
                obtain ⟨rfl, rfl⟩ := am_i2 j61
                exact AW_pick [1, 2, 3, 4, 5, 0, 6] rfl hJ61
            · rw [if_pos c63] at j61
              refine AW_go okX9_lay 1 ?_
              obtain ⟨r359, h360, e361, j61⟩ := am_b2_ok j61
              refine AW_callV (As := []) (R' := rX9_endRow 0 0) (T := TX9) (N := 58) (ci := 9) (okX9_lay.1 93 _ _ rfl) lkX9_endRow kX9_176 rfl (sK hs 51) rfl (Nat.le_of_ble_eq_true rfl) ⟨by decide, by decide⟩ ⟨(Nat.le_of_ble_eq_true rfl), (Nat.le_of_ble_eq_true rfl)⟩ (Nat.le_of_ble_eq_true rfl) (c_X9_endRow h57 hs e361) (fun r h' hq => ?_)
              obtain ⟨rfl, hq⟩ := hq
              replace hq := hq.symm
              subst hq
              have hs := s_X9_endRow h57 hs e361
              refine AW_go okX9_lay 1 ?_
              obtain ⟨r362, h363, e364, j61⟩ := am_b2_ok j61
              refine AW_callV (As := []) (R' := rX9_newRow 0 0) (T := TX9) (N := 58) (ci := 9) (okX9_lay.1 97 _ _ rfl) lkX9_newRow kX9_159 rfl (sK hs 51) rfl (Nat.le_of_ble_eq_true rfl) ⟨by decide, by decide⟩ ⟨(Nat.le_of_ble_eq_true rfl), (Nat.le_of_ble_eq_true rfl)⟩ (Nat.le_of_ble_eq_true rfl) (c_X9_newRow h360 hs e364) (fun r h' hq => ?_)
              obtain ⟨rfl, hq⟩ := hq
              replace hq := hq.symm
              subst hq
              have hs := s_X9_newRow h360 hs e364
              refine AW_go okX9_lay 2 ?_
              obtain ⟨rfl, rfl⟩ := am_i2 j61
              exact AW_pick [2, 3, 4, 5, 6, 0, 1] rfl hJ61
          · rw [if_pos c62] at j61
            refine AW_go okX9_lay 1 ?_
            obtain ⟨r365, h366, e367, j61⟩ := am_b2_ok j61
            refine AW_callV (As := []) (R' := rX9_openGroup 0 0) (T := TX9) (N := 58) (ci := 9) (okX9_lay.1 76 _ _ rfl) lkX9_openGroup kX9_169 rfl (sK hs 51) rfl (Nat.le_of_ble_eq_true rfl) ⟨by decide, by decide⟩ ⟨(Nat.le_of_ble_eq_true rfl), (Nat.le_of_ble_eq_true rfl)⟩ (Nat.le_of_ble_eq_true rfl) (c_X9_openGroup h57 hs e367) (fun r h' hq => ?_)
            obtain ⟨rfl, hq⟩ := hq
            replace hq := hq.symm
            subst hq
            have hs := s_X9_openGroup h57 hs e367
            refine AW_go okX9_lay 2 ?_
            obtain ⟨rfl, rfl⟩ := am_i2 j61
            exact AW_pick [2, 3, 4, 5, 6, 0, 1] rfl hJ61
        refine AW_go okX9_lay 1 ?_
        refine AW_pick (lv' := [(0, .ref 51), (1, .int a1), (2, .int a2), (3, .int a3), (4, .int a4), (5, .int y59)]) [0, 1, 2, 3, 4, 5] rfl ?_
        exact ih.2.1 a1 a2 a3 a4 y59 0 h60 _ _ hs hf
    · intro a1 a2 a3 a4 x5i x6i h v h' hs hf
      have hf : ((if (Int32.ofInt 16) ≤ x6i then some ((), h) else bif am_vp (((Int32.ofInt 16) * a1) + x6i) 128 then (g_X9_lay n 2 a1 a2 a3 a4 x5i (x6i + Int32.ofInt 1) (am_sI h 54 (Int32.toNatClampNeg (((Int32.ofInt 16) * a1) + x6i)) ((am_I h 54 (Int32.toNatClampNeg (((Int32.ofInt 16) * a1) + x6i))) ||| (((am_I h 61 (Int32.toNatClampNeg (Int32.ofInt 0))) >>> (x6i &&& 31)) &&& (Int32.ofInt 1))))) else none)) = some (v, h') := hf
      refine AW_go okX9_lay 3 ?_
      refine And.intro (fun c1 => ?_) (fun c1 => ?_)
      · rw [if_pos c1] at hf
        refine AW_go okX9_lay 1 ?_
        obtain ⟨rfl, rfl⟩ := am_i2 hf
        exact And.intro ⟨(Nat.le_of_ble_eq_true rfl), (Nat.le_of_ble_eq_true rfl)⟩ (And.intro rfl ⟨rfl, rfl⟩)
      · rw [if_neg c1] at hf
        obtain ⟨b2, hf⟩ := am_bis hf
        refine AW_go okX9_lay 21 ?_
        refine And.intro (sK hs 51) (Exists.intro _ (And.intro (sA hs 51 4) ?_))
        refine Exists.intro 128 (And.intro (sK hs 54) (And.intro (am_vp_ok b2) ?_))
        refine And.intro (sK hs 51) (Exists.intro _ (And.intro (sA hs 51 17) ?_))
        refine Exists.intro 61 (And.intro (sK hs 61) (And.intro (by unfold vp_in; decide) ?_))
        refine Exists.intro 128 (And.intro (sK hs 54) (And.intro (am_vp_ok b2) ?_))
        refine AW_pick (lv' := [(0, .ref 51), (1, .int a1), (2, .int a2), (3, .int a3), (4, .int a4), (5, .int x5i), (6, .int (x6i + Int32.ofInt 1))]) [1, 2, 3, 4, 5, 6, 0] rfl ?_
        exact ih.2.2 a1 a2 a3 a4 x5i (x6i + Int32.ofInt 1) (am_sI h 54 (Int32.toNatClampNeg (((Int32.ofInt 16) * a1) + x6i)) ((am_I h 54 (Int32.toNatClampNeg (((Int32.ofInt 16) * a1) + x6i))) ||| (((am_I h 61 (Int32.toNatClampNeg (Int32.ofInt 0))) >>> (x6i &&& 31)) &&& (Int32.ofInt 1)))) _ _ hs hf
def f_X9_lay (n : Nat) (a1 : Int32) (a2 : Int32) (a3 : Int32) (a4 : Int32) (h : am_H) : Option (Unit × am_H) := bif am_vp a1 8 then (g_X9_lay n 0 a1 a2 a3 a4 (Int32.ofInt 0) 0 (am_sI h 55 (Int32.toNatClampNeg a1) (Int32.ofInt 0))) else none
set_option maxRecDepth 100000 in
theorem s_X9_lay (n : Nat) (a1 : Int32) (a2 : Int32) (a3 : Int32) (a4 : Int32) (h : am_H) (hs : am_stat h) {v : Unit} {h' : am_H} (hf : f_X9_lay n a1 a2 a3 a4 h = some (v, h')) : am_stat h' := by
  unfold f_X9_lay at hf
  obtain ⟨b1, hf⟩ := am_bis hf
  exact (m_X9_lay n).1 a1 a2 a3 a4 (Int32.ofInt 0) 0 (am_sI h 55 (Int32.toNatClampNeg a1) (Int32.ofInt 0)) _ _ hs hf
set_option maxRecDepth 100000 in
theorem c_X9_lay (n : Nat) (a1 : Int32) (a2 : Int32) (a3 : Int32) (a4 : Int32) (h : am_H) (hs : am_stat h) {v : Unit} {h' : am_H} (hf : f_X9_lay n a1 a2 a3 a4 h = some (v, h')) : AMet mX9_lay (rX9_lay 0 0) (fun r h2 => r = none ∧ h2 = h') [.ref 51, .int a1, .int a2, .int a3, .int a4] h := by
  unfold f_X9_lay at hf
  obtain ⟨b1, hf⟩ := am_bis hf
  refine AW_go okX9_lay 7 ?_
  refine And.intro (sK hs 51) (Exists.intro _ (And.intro (sA hs 51 5) ?_))
  refine Exists.intro 8 (And.intro (sK hs 55) (And.intro (am_vp_ok b1) ?_))
  refine AW_pick (lv' := [(0, .ref 51), (1, .int a1), (2, .int a2), (3, .int a3), (4, .int a4), (5, .int (Int32.ofInt 0))]) [1, 2, 3, 4, 5, 0] rfl ?_
  exact (l_X9_lay n).1 a1 a2 a3 a4 (Int32.ofInt 0) 0 (am_sI h 55 (Int32.toNatClampNeg a1) (Int32.ofInt 0)) _ _ hs hf
