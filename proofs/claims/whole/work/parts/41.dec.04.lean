def f_X8_isOffice (a0 : Int32) (h : am_H) : Option (Int32 × am_H) := Option.bind ((if a0 < 0 then some (Int32.ofInt 0) else (if (Int32.ofInt 3) ≤ a0 then some (Int32.ofInt 0) else some (Int32.ofInt 1)))) fun y1 => (bif am_b01 y1 then (some (y1, h)) else none)
set_option maxRecDepth 100000 in
theorem s_X8_isOffice (a0 : Int32) (h : am_H) (hs : am_stat h) {v : Int32} {h' : am_H} (hf : f_X8_isOffice a0 h = some (v, h')) : am_stat h' := by
  unfold f_X8_isOffice at hf
  obtain ⟨y1, j2, hf⟩ := am_bnd hf
  obtain ⟨b55, hf⟩ := am_bis hf
  obtain ⟨rfl, rfl⟩ := am_i2 hf
  exact hs
set_option maxRecDepth 100000 in
theorem c_X8_isOffice (a0 : Int32) (h : am_H) (hs : am_stat h) {v : Int32} {h' : am_H} (hf : f_X8_isOffice a0 h = some (v, h')) : AMet mX8_isOffice (rX8_isOffice 0 0) (fun r h2 => r = some (.int v) ∧ h2 = h') [.int a0] h := by
  unfold f_X8_isOffice at hf
  refine AW_go okX8_isOffice 1 ?_
  obtain ⟨y1, j2, hf⟩ := am_bnd hf
  refine am_cut (P := AW mX8_isOffice (rX8_isOffice 0 0) (fun r h2 => r = some (.int v) ∧ h2 = h') 14 [(0, .int a0)] [.int y1] h 0 0) (fun hJ2 => ?_) ?_
  · have hs := hs
    refine AW_go okX8_isOffice 1 ?_
    refine And.intro (fun c3 => ?_) (fun c3 => ?_)
    · rw [if_pos c3] at j2
      refine AW_go okX8_isOffice 1 ?_
      obtain rfl := am_i1 j2
      exact AW_pick [0] rfl hJ2
    · rw [if_neg c3] at j2
      refine AW_go okX8_isOffice 3 ?_
      refine And.intro (fun c4 => ?_) (fun c4 => ?_)
      · rw [if_pos c4] at j2
        refine AW_go okX8_isOffice 1 ?_
        obtain rfl := am_i1 j2
        exact AW_pick [0] rfl hJ2
      · rw [if_neg c4] at j2
        refine AW_go okX8_isOffice 2 ?_
        obtain rfl := am_i1 j2
        exact AW_pick [0] rfl hJ2
  obtain ⟨b55, hf⟩ := am_bis hf
  refine AW_go okX8_isOffice 1 ?_
  obtain ⟨rfl, rfl⟩ := am_i2 hf
  exact And.intro ⟨(Nat.le_of_ble_eq_true rfl), (Nat.le_of_ble_eq_true rfl)⟩ (And.intro (Or.inr ⟨rfl, am_b01_ok b55⟩) ⟨rfl, rfl⟩)
def f_X8_isPost (a0 : Int32) (a1 : Int32) (h : am_H) : Option (Int32 × am_H) := am_b2 (f_X8_isOffice a0 h) fun r1 h2 => (am_b2 ((if r1 = 0 then some ((Int32.ofInt 0), h2) else am_b2 (f_X8_isOffice a1 h2) fun r8 h9 => ((if r8 = 0 then some ((Int32.ofInt 0), h9) else (if a0 = a1 then some ((Int32.ofInt 0), h9) else some ((Int32.ofInt 1), h9)))))) fun y4 h5 => (bif am_b01 y4 then (some (y4, h5)) else none))
set_option maxRecDepth 100000 in
theorem s_X8_isPost (a0 : Int32) (a1 : Int32) (h : am_H) (hs : am_stat h) {v : Int32} {h' : am_H} (hf : f_X8_isPost a0 a1 h = some (v, h')) : am_stat h' := by
  unfold f_X8_isPost at hf
  obtain ⟨r1, h2, e3, hf⟩ := am_b2_ok hf
  have hs := s_X8_isOffice a0 h hs e3
  obtain ⟨y4, h5, j6, hf⟩ := am_b2_ok hf
  have hs0 := hs
  have hs : am_stat h5 := by
    have hs := hs0
    by_cases c7 : r1 = 0
    · rw [if_pos c7] at j6
      obtain ⟨rfl, rfl⟩ := am_i2 j6
      exact hs
    · rw [if_neg c7] at j6
      obtain ⟨r8, h9, e10, j6⟩ := am_b2_ok j6
      have hs := s_X8_isOffice a1 h2 hs e10
      by_cases c11 : r8 = 0
      · rw [if_pos c11] at j6
        obtain ⟨rfl, rfl⟩ := am_i2 j6
        exact hs
      · rw [if_neg c11] at j6
        by_cases c12 : a0 = a1
        · rw [if_pos c12] at j6
          obtain ⟨rfl, rfl⟩ := am_i2 j6
          exact hs
        · rw [if_neg c12] at j6
          obtain ⟨rfl, rfl⟩ := am_i2 j6
          exact hs
  obtain ⟨b63, hf⟩ := am_bis hf
  obtain ⟨rfl, rfl⟩ := am_i2 hf
  exact hs
set_option maxRecDepth 100000 in
theorem c_X8_isPost (a0 : Int32) (a1 : Int32) (h : am_H) (hs : am_stat h) {v : Int32} {h' : am_H} (hf : f_X8_isPost a0 a1 h = some (v, h')) : AMet mX8_isPost (rX8_isPost 0 0) (fun r h2 => r = some (.int v) ∧ h2 = h') [.int a0, .int a1] h := by
  unfold f_X8_isPost at hf
  refine AW_go okX8_isPost 1 ?_
  obtain ⟨r1, h2, e3, hf⟩ := am_b2_ok hf
  refine AW_callS (As := [.int a0]) (R' := rX8_isOffice 0 0) (okX8_isPost.1 1 _ _ rfl) lkX8_isOffice (Or.inl kX8_109) rfl (Nat.le_of_ble_eq_true rfl) ⟨by decide, by decide⟩ ⟨(Nat.le_of_ble_eq_true rfl), (Nat.le_of_ble_eq_true rfl)⟩ (Nat.le_of_ble_eq_true rfl) (c_X8_isOffice a0 h hs e3) (fun r h' hq => ?_)
  obtain ⟨rfl, hq⟩ := hq
  replace hq := hq.symm
  subst hq
  have hs := s_X8_isOffice a0 h hs e3
  obtain ⟨y4, h5, j6, hf⟩ := am_b2_ok hf
  have hs0 := hs
  have hs : am_stat h5 := by
    have hs := hs0
    by_cases c7 : r1 = 0
    · rw [if_pos c7] at j6
      obtain ⟨rfl, rfl⟩ := am_i2 j6
      exact hs
    · rw [if_neg c7] at j6
      obtain ⟨r8, h9, e10, j6⟩ := am_b2_ok j6
      have hs := s_X8_isOffice a1 h2 hs e10
      by_cases c11 : r8 = 0
      · rw [if_pos c11] at j6
        obtain ⟨rfl, rfl⟩ := am_i2 j6
        exact hs
      · rw [if_neg c11] at j6
        by_cases c12 : a0 = a1
        · rw [if_pos c12] at j6
          obtain ⟨rfl, rfl⟩ := am_i2 j6
          exact hs
        · rw [if_neg c12] at j6
          obtain ⟨rfl, rfl⟩ := am_i2 j6
          exact hs
  refine am_cut (P := AW mX8_isPost (rX8_isPost 0 0) (fun r h2 => r = some (.int v) ∧ h2 = h') 24 [(0, .int a0), (1, .int a1)] [.int y4] h5 0 0) (fun hJ6 => ?_) ?_
  · have hs := hs0
    refine AW_go okX8_isPost 1 ?_
    refine And.intro (fun c7 => ?_) (fun c7 => ?_)
    · rw [if_pos c7] at j6
      refine AW_go okX8_isPost 1 ?_
      obtain ⟨rfl, rfl⟩ := am_i2 j6
      exact AW_pick [0, 1] rfl hJ6
    · rw [if_neg c7] at j6
      refine AW_go okX8_isPost 1 ?_
      obtain ⟨r8, h9, e10, j6⟩ := am_b2_ok j6
      refine AW_callS (As := [.int a1]) (R' := rX8_isOffice 0 0) (okX8_isPost.1 8 _ _ rfl) lkX8_isOffice (Or.inl kX8_109) rfl (Nat.le_of_ble_eq_true rfl) ⟨by decide, by decide⟩ ⟨(Nat.le_of_ble_eq_true rfl), (Nat.le_of_ble_eq_true rfl)⟩ (Nat.le_of_ble_eq_true rfl) (c_X8_isOffice a1 h2 hs e10) (fun r h' hq => ?_)
      obtain ⟨rfl, hq⟩ := hq
      replace hq := hq.symm
      subst hq
      have hs := s_X8_isOffice a1 h2 hs e10
      refine AW_go okX8_isPost 1 ?_
      refine And.intro (fun c11 => ?_) (fun c11 => ?_)
      · rw [if_pos c11] at j6
        refine AW_go okX8_isPost 1 ?_
        obtain ⟨rfl, rfl⟩ := am_i2 j6
        exact AW_pick [0, 1] rfl hJ6
      · rw [if_neg c11] at j6
        refine AW_go okX8_isPost 3 ?_
        refine And.intro (fun c12 => ?_) (fun c12 => ?_)
        · rw [if_pos c12] at j6
          refine AW_go okX8_isPost 1 ?_
          obtain ⟨rfl, rfl⟩ := am_i2 j6
          exact AW_pick [0, 1] rfl hJ6
        · rw [if_neg c12] at j6
          refine AW_go okX8_isPost 2 ?_
          obtain ⟨rfl, rfl⟩ := am_i2 j6
          exact AW_pick [0, 1] rfl hJ6
  obtain ⟨b63, hf⟩ := am_bis hf
  refine AW_go okX8_isPost 1 ?_
  obtain ⟨rfl, rfl⟩ := am_i2 hf
  exact And.intro ⟨(Nat.le_of_ble_eq_true rfl), (Nat.le_of_ble_eq_true rfl)⟩ (And.intro (Or.inr ⟨rfl, am_b01_ok b63⟩) ⟨rfl, rfl⟩)
def f_X8_isItem (a0 : Int32) (h : am_H) : Option (Int32 × am_H) := Option.bind ((if a0 < (Int32.ofInt 10) then some (Int32.ofInt 0) else (if (Int32.ofInt 99) < a0 then some (Int32.ofInt 0) else some (Int32.ofInt 1)))) fun y1 => (bif am_b01 y1 then (some (y1, h)) else none)
set_option maxRecDepth 100000 in
theorem s_X8_isItem (a0 : Int32) (h : am_H) (hs : am_stat h) {v : Int32} {h' : am_H} (hf : f_X8_isItem a0 h = some (v, h')) : am_stat h' := by
  unfold f_X8_isItem at hf
  obtain ⟨y1, j2, hf⟩ := am_bnd hf
  obtain ⟨b55, hf⟩ := am_bis hf
  obtain ⟨rfl, rfl⟩ := am_i2 hf
  exact hs
set_option maxRecDepth 100000 in
theorem c_X8_isItem (a0 : Int32) (h : am_H) (hs : am_stat h) {v : Int32} {h' : am_H} (hf : f_X8_isItem a0 h = some (v, h')) : AMet mX8_isItem (rX8_isItem 0 0) (fun r h2 => r = some (.int v) ∧ h2 = h') [.int a0] h := by
  unfold f_X8_isItem at hf
  refine AW_go okX8_isItem 2 ?_
  obtain ⟨y1, j2, hf⟩ := am_bnd hf
  refine am_cut (P := AW mX8_isItem (rX8_isItem 0 0) (fun r h2 => r = some (.int v) ∧ h2 = h') 17 [(0, .int a0)] [.int y1] h 0 0) (fun hJ2 => ?_) ?_
  · have hs := hs
    refine AW_go okX8_isItem 1 ?_
    refine And.intro (fun c3 => ?_) (fun c3 => ?_)
    · rw [if_pos c3] at j2
      refine AW_go okX8_isItem 1 ?_
      obtain rfl := am_i1 j2
      exact AW_pick [0] rfl hJ2
    · rw [if_neg c3] at j2
      refine AW_go okX8_isItem 3 ?_
      refine And.intro (fun c4 => ?_) (fun c4 => ?_)
      · rw [if_pos c4] at j2
        refine AW_go okX8_isItem 1 ?_
        obtain rfl := am_i1 j2
        exact AW_pick [0] rfl hJ2
      · rw [if_neg c4] at j2
        refine AW_go okX8_isItem 2 ?_
        obtain rfl := am_i1 j2
        exact AW_pick [0] rfl hJ2
  obtain ⟨b55, hf⟩ := am_bis hf
  refine AW_go okX8_isItem 1 ?_
  obtain ⟨rfl, rfl⟩ := am_i2 hf
  exact And.intro ⟨(Nat.le_of_ble_eq_true rfl), (Nat.le_of_ble_eq_true rfl)⟩ (And.intro (Or.inr ⟨rfl, am_b01_ok b55⟩) ⟨rfl, rfl⟩)
def f_X8_isSuch (a0 : Int32) (a1 : Int32) (h : am_H) : Option (Int32 × am_H) := Option.bind ((if a1 = 0 then some (Int32.ofInt 1) else (if a0 = a1 then some (Int32.ofInt 1) else (if a0 = (Int32.ofInt 4) then (if a1 = (Int32.ofInt 3) then some (Int32.ofInt 1) else some (Int32.ofInt 0)) else some (Int32.ofInt 0))))) fun y1 => (bif am_b01 y1 then (some (y1, h)) else none)
set_option maxRecDepth 100000 in
theorem s_X8_isSuch (a0 : Int32) (a1 : Int32) (h : am_H) (hs : am_stat h) {v : Int32} {h' : am_H} (hf : f_X8_isSuch a0 a1 h = some (v, h')) : am_stat h' := by
  unfold f_X8_isSuch at hf
  obtain ⟨y1, j2, hf⟩ := am_bnd hf
  obtain ⟨b57, hf⟩ := am_bis hf
  obtain ⟨rfl, rfl⟩ := am_i2 hf
  exact hs
set_option maxRecDepth 100000 in
theorem c_X8_isSuch (a0 : Int32) (a1 : Int32) (h : am_H) (hs : am_stat h) {v : Int32} {h' : am_H} (hf : f_X8_isSuch a0 a1 h = some (v, h')) : AMet mX8_isSuch (rX8_isSuch 0 0) (fun r h2 => r = some (.int v) ∧ h2 = h') [.int a0, .int a1] h := by
  unfold f_X8_isSuch at hf
  refine AW_go okX8_isSuch 1 ?_
  obtain ⟨y1, j2, hf⟩ := am_bnd hf
  refine am_cut (P := AW mX8_isSuch (rX8_isSuch 0 0) (fun r h2 => r = some (.int v) ∧ h2 = h') 24 [(0, .int a0), (1, .int a1)] [.int y1] h 0 0) (fun hJ2 => ?_) ?_
  · have hs := hs
    refine AW_go okX8_isSuch 1 ?_
    refine And.intro (fun c3 => ?_) (fun c3 => ?_)
    · rw [if_pos c3] at j2
      refine AW_go okX8_isSuch 2 ?_
      obtain rfl := am_i1 j2
      exact AW_pick [0, 1] rfl hJ2
    · rw [if_neg c3] at j2
      refine AW_go okX8_isSuch 3 ?_
      refine And.intro (fun c4 => ?_) (fun c4 => ?_)
      · rw [if_pos c4] at j2
        refine AW_go okX8_isSuch 2 ?_
        obtain rfl := am_i1 j2
        exact AW_pick [0, 1] rfl hJ2
      · rw [if_neg c4] at j2
        refine AW_go okX8_isSuch 3 ?_
        refine And.intro (fun c5 => ?_) (fun c5 => ?_)
        · rw [if_neg c5] at j2
          refine AW_go okX8_isSuch 1 ?_
          obtain rfl := am_i1 j2
          exact AW_pick [0, 1] rfl hJ2
        · rw [if_pos c5] at j2
          refine AW_go okX8_isSuch 3 ?_
          refine And.intro (fun c6 => ?_) (fun c6 => ?_)
          · rw [if_neg c6] at j2
            refine AW_go okX8_isSuch 1 ?_
            obtain rfl := am_i1 j2
            exact AW_pick [0, 1] rfl hJ2
          · rw [if_pos c6] at j2
            refine AW_go okX8_isSuch 2 ?_
            obtain rfl := am_i1 j2
            exact AW_pick [0, 1] rfl hJ2
  obtain ⟨b57, hf⟩ := am_bis hf
  refine AW_go okX8_isSuch 1 ?_
  obtain ⟨rfl, rfl⟩ := am_i2 hf
  exact And.intro ⟨(Nat.le_of_ble_eq_true rfl), (Nat.le_of_ble_eq_true rfl)⟩ (And.intro (Or.inr ⟨rfl, am_b01_ok b57⟩) ⟨rfl, rfl⟩)
def f_X8_postOf (a0 : Int32) (a1 : Int32) (h : am_H) : Option (Int32 × am_H) := Option.bind ((if a1 ≤ a0 then some a1 else some (a1 - (Int32.ofInt 1)))) fun y1 => (some ((((Int32.ofInt 2) * a0) + y1), h))
set_option maxRecDepth 100000 in
theorem s_X8_postOf (a0 : Int32) (a1 : Int32) (h : am_H) (hs : am_stat h) {v : Int32} {h' : am_H} (hf : f_X8_postOf a0 a1 h = some (v, h')) : am_stat h' := by
  unfold f_X8_postOf at hf
  obtain ⟨y1, j2, hf⟩ := am_bnd hf
  obtain ⟨rfl, rfl⟩ := am_i2 hf
  exact hs
set_option maxRecDepth 100000 in
theorem c_X8_postOf (a0 : Int32) (a1 : Int32) (h : am_H) (hs : am_stat h) {v : Int32} {h' : am_H} (hf : f_X8_postOf a0 a1 h = some (v, h')) : AMet mX8_postOf (rX8_postOf 0 0) (fun r h2 => r = some (.int v) ∧ h2 = h') [.int a0, .int a1] h := by
  unfold f_X8_postOf at hf
  refine AW_go okX8_postOf 5 ?_
  obtain ⟨y1, j2, hf⟩ := am_bnd hf
  refine am_cut (P := AW mX8_postOf (rX8_postOf 0 0) (fun r h2 => r = some (.int v) ∧ h2 = h') 15 [(0, .int a0), (1, .int a1)] [.int y1, .int ((Int32.ofInt 2) * a0)] h 0 0) (fun hJ2 => ?_) ?_
  · have hs := hs
    refine AW_go okX8_postOf 1 ?_
    refine And.intro (fun c3 => ?_) (fun c3 => ?_)
    · rw [if_pos c3] at j2
      refine AW_go okX8_postOf 1 ?_
      obtain rfl := am_i1 j2
      exact AW_pick [0, 1] rfl hJ2
    · rw [if_neg c3] at j2
      refine AW_go okX8_postOf 4 ?_
      obtain rfl := am_i1 j2
      exact AW_pick [0, 1] rfl hJ2
  refine AW_go okX8_postOf 2 ?_
  obtain ⟨rfl, rfl⟩ := am_i2 hf
  exact And.intro ⟨(Nat.le_of_ble_eq_true rfl), (Nat.le_of_ble_eq_true rfl)⟩ (And.intro (Or.inl rfl) ⟨rfl, rfl⟩)
def f_X8_sortOf (a0 : Int32) (h : am_H) : Option (Int32 × am_H) := some (((((a0 / (Int32.ofInt 100)) * (Int32.ofInt 12)) + (((a0 / (Int32.ofInt 10)) - (a0 / (Int32.ofInt 10)) / (Int32.ofInt 10) * (Int32.ofInt 10)) * (Int32.ofInt 4))) + (a0 - a0 / (Int32.ofInt 10) * (Int32.ofInt 10))), h)
set_option maxRecDepth 100000 in
theorem s_X8_sortOf (a0 : Int32) (h : am_H) (hs : am_stat h) {v : Int32} {h' : am_H} (hf : f_X8_sortOf a0 h = some (v, h')) : am_stat h' := by
  unfold f_X8_sortOf at hf
  obtain ⟨rfl, rfl⟩ := am_i2 hf
  exact hs
set_option maxRecDepth 100000 in
theorem c_X8_sortOf (a0 : Int32) (h : am_H) (hs : am_stat h) {v : Int32} {h' : am_H} (hf : f_X8_sortOf a0 h = some (v, h')) : AMet mX8_sortOf (rX8_sortOf 0 0) (fun r h2 => r = some (.int v) ∧ h2 = h') [.int a0] h := by
  unfold f_X8_sortOf at hf
  refine AW_go okX8_sortOf 18 ?_
  refine And.intro (by decide) ?_
  refine And.intro (by decide) ?_
  refine And.intro (by decide) ?_
  refine And.intro (by decide) ?_
  obtain ⟨rfl, rfl⟩ := am_i2 hf
  exact And.intro ⟨(Nat.le_of_ble_eq_true rfl), (Nat.le_of_ble_eq_true rfl)⟩ (And.intro (Or.inl rfl) ⟨rfl, rfl⟩)
def f_X8_codeOf (a0 : Int32) (h : am_H) : Option (Int32 × am_H) := some (((((a0 / (Int32.ofInt 12)) * (Int32.ofInt 100)) + (((a0 - a0 / (Int32.ofInt 12) * (Int32.ofInt 12)) / (Int32.ofInt 4)) * (Int32.ofInt 10))) + (a0 - a0 / (Int32.ofInt 4) * (Int32.ofInt 4))), h)
set_option maxRecDepth 100000 in
theorem s_X8_codeOf (a0 : Int32) (h : am_H) (hs : am_stat h) {v : Int32} {h' : am_H} (hf : f_X8_codeOf a0 h = some (v, h')) : am_stat h' := by
  unfold f_X8_codeOf at hf
  obtain ⟨rfl, rfl⟩ := am_i2 hf
  exact hs
set_option maxRecDepth 100000 in
theorem c_X8_codeOf (a0 : Int32) (h : am_H) (hs : am_stat h) {v : Int32} {h' : am_H} (hf : f_X8_codeOf a0 h = some (v, h')) : AMet mX8_codeOf (rX8_codeOf 0 0) (fun r h2 => r = some (.int v) ∧ h2 = h') [.int a0] h := by
  unfold f_X8_codeOf at hf
  refine AW_go okX8_codeOf 18 ?_
  refine And.intro (by decide) ?_
  refine And.intro (by decide) ?_
  refine And.intro (by decide) ?_
  refine And.intro (by decide) ?_
  obtain ⟨rfl, rfl⟩ := am_i2 hf
  exact And.intro ⟨(Nat.le_of_ble_eq_true rfl), (Nat.le_of_ble_eq_true rfl)⟩ (And.intro (Or.inl rfl) ⟨rfl, rfl⟩)
def f_X8_keep (a1 : Nat) (h : am_H) : Option (Int32 × am_H) := bif am_isO h a1 0 then (bif am_vp (am_I h 0 5) 8 then (some ((am_I (am_sA h 25 (Int32.toNatClampNeg (am_I h 0 5)) (some a1)) 0 5), (am_sI (am_sA h 25 (Int32.toNatClampNeg (am_I h 0 5)) (some a1)) 0 5 ((am_I (am_sA h 25 (Int32.toNatClampNeg (am_I h 0 5)) (some a1)) 0 5) + (Int32.ofInt 1))))) else none) else none
set_option maxRecDepth 100000 in
theorem s_X8_keep (a1 : Nat) (h : am_H) (hs : am_stat h) {v : Int32} {h' : am_H} (hf : f_X8_keep a1 h = some (v, h')) : am_stat h' := by
  unfold f_X8_keep at hf
  obtain ⟨k1, hf⟩ := am_bis hf
  obtain ⟨b2, hf⟩ := am_bis hf
  have hs := am_stAr hs 25 (Int32.toNatClampNeg (am_I h 0 5)) (some a1) (by decide +kernel)
  obtain ⟨rfl, rfl⟩ := am_i2 hf
  exact hs
set_option maxRecDepth 100000 in
theorem c_X8_keep (a1 : Nat) (h : am_H) (hs : am_stat h) {v : Int32} {h' : am_H} (hf : f_X8_keep a1 h = some (v, h')) : AMet mX8_keep (rX8_keep 0 0) (fun r h2 => r = some (.int v) ∧ h2 = h') [.ref 0, .ref a1] h := by
  unfold f_X8_keep at hf
  obtain ⟨k1, hf⟩ := am_bis hf
  obtain ⟨b2, hf⟩ := am_bis hf
  refine AW_go okX8_keep 14 ?_
  refine And.intro (sK hs 0) (Exists.intro _ (And.intro (sA hs 0 4) ?_))
  refine And.intro (sK hs 0) ?_
  refine Exists.intro 4 (Exists.intro 8 (Exists.intro 0 (And.intro (by decide) (And.intro (sK hs 25) (And.intro (am_isO_ok k1) (And.intro (am_vp_ok b2) ?_))))))
  have hs := am_stAr hs 25 (Int32.toNatClampNeg (am_I h 0 5)) (some a1) (by decide +kernel)
  refine And.intro (sK hs 0) ?_
  refine And.intro (sK hs 0) ?_
  obtain ⟨rfl, rfl⟩ := am_i2 hf
  exact And.intro ⟨(Nat.le_of_ble_eq_true rfl), (Nat.le_of_ble_eq_true rfl)⟩ (And.intro (Or.inl rfl) ⟨rfl, rfl⟩)
def f_X8_beginAnew (h : am_H) : Option (Unit × am_H) := some ((), (am_sI (am_sJ h 0 10 (Int64.ofNat (0 : Fin 2).val)) 0 11 (Int32.ofInt 0)))
set_option maxRecDepth 100000 in
theorem s_X8_beginAnew (h : am_H) (hs : am_stat h) {v : Unit} {h' : am_H} (hf : f_X8_beginAnew h = some (v, h')) : am_stat h' := by
  unfold f_X8_beginAnew at hf
  obtain ⟨rfl, rfl⟩ := am_i2 hf
  exact hs
set_option maxRecDepth 100000 in
theorem c_X8_beginAnew (h : am_H) (hs : am_stat h) {v : Unit} {h' : am_H} (hf : f_X8_beginAnew h = some (v, h')) : AMet mX8_beginAnew (rX8_beginAnew 0 0) (fun r h2 => r = none ∧ h2 = h') [.ref 0] h := by
  unfold f_X8_beginAnew at hf
  refine AW_go okX8_beginAnew 7 ?_
  refine And.intro (sK hs 0) ?_
  refine And.intro (sK hs 0) ?_
  obtain ⟨rfl, rfl⟩ := am_i2 hf
  exact And.intro ⟨(Nat.le_of_ble_eq_true rfl), (Nat.le_of_ble_eq_true rfl)⟩ (And.intro rfl ⟨rfl, rfl⟩)
def f_X8_changeTalk (h : am_H) : Option (Unit × am_H) := am_b2 (f_X8_beginAnew h) fun r1 h2 => (some ((), (am_sI (am_sI h2 0 13 (Int32.ofInt 0)) 0 14 (Int32.ofInt 0))))
set_option maxRecDepth 100000 in
theorem s_X8_changeTalk (h : am_H) (hs : am_stat h) {v : Unit} {h' : am_H} (hf : f_X8_changeTalk h = some (v, h')) : am_stat h' := by
  unfold f_X8_changeTalk at hf
  obtain ⟨r1, h2, e3, hf⟩ := am_b2_ok hf
  have hs := s_X8_beginAnew h hs e3
  obtain ⟨rfl, rfl⟩ := am_i2 hf
  exact hs
set_option maxRecDepth 100000 in
theorem c_X8_changeTalk (h : am_H) (hs : am_stat h) {v : Unit} {h' : am_H} (hf : f_X8_changeTalk h = some (v, h')) : AMet mX8_changeTalk (rX8_changeTalk 0 0) (fun r h2 => r = none ∧ h2 = h') [.ref 0] h := by
  unfold f_X8_changeTalk at hf
  refine AW_go okX8_changeTalk 1 ?_
  obtain ⟨r1, h2, e3, hf⟩ := am_b2_ok hf
  refine AW_callV (As := []) (R' := rX8_beginAnew 0 0) (T := TX8) (N := 18) (ci := 8) (okX8_changeTalk.1 1 _ _ rfl) lkX8_beginAnew kX8_209 rfl (sK hs 0) rfl (Nat.le_of_ble_eq_true rfl) ⟨by decide, by decide⟩ ⟨(Nat.le_of_ble_eq_true rfl), (Nat.le_of_ble_eq_true rfl)⟩ (Nat.le_of_ble_eq_true rfl) (c_X8_beginAnew h hs e3) (fun r h' hq => ?_)
  obtain ⟨rfl, hq⟩ := hq
  replace hq := hq.symm
  subst hq
  have hs := s_X8_beginAnew h hs e3
  refine AW_go okX8_changeTalk 7 ?_
  refine And.intro (Or.inl rfl) (And.intro (sK hs 0) ?_)
  refine And.intro (Or.inl rfl) (And.intro (sK hs 0) ?_)
  obtain ⟨rfl, rfl⟩ := am_i2 hf
  exact And.intro ⟨(Nat.le_of_ble_eq_true rfl), (Nat.le_of_ble_eq_true rfl)⟩ (And.intro rfl ⟨rfl, rfl⟩)
def f_X8_doListed (a1 : Int32) (h : am_H) : Option (Unit × am_H) := bif am_vp a1 90 then (some ((), (am_sI (am_sJ h 0 10 (am_J h 32 (Int32.toNatClampNeg a1))) 0 11 ((am_I (am_sJ h 0 10 (am_J h 32 (Int32.toNatClampNeg a1))) 0 11) + (Int32.ofInt 1))))) else none
set_option maxRecDepth 100000 in
theorem s_X8_doListed (a1 : Int32) (h : am_H) (hs : am_stat h) {v : Unit} {h' : am_H} (hf : f_X8_doListed a1 h = some (v, h')) : am_stat h' := by
  unfold f_X8_doListed at hf
  obtain ⟨b1, hf⟩ := am_bis hf
  obtain ⟨rfl, rfl⟩ := am_i2 hf
  exact hs
set_option maxRecDepth 100000 in
theorem c_X8_doListed (a1 : Int32) (h : am_H) (hs : am_stat h) {v : Unit} {h' : am_H} (hf : f_X8_doListed a1 h = some (v, h')) : AMet mX8_doListed (rX8_doListed 0 0) (fun r h2 => r = none ∧ h2 = h') [.ref 0, .int a1] h := by
  unfold f_X8_doListed at hf
  obtain ⟨b1, hf⟩ := am_bis hf
  refine AW_go okX8_doListed 14 ?_
  refine And.intro (sK hs 0) (Exists.intro _ (And.intro (sA hs 0 9) ?_))
  refine And.intro (sK hs 28) (Exists.intro _ (And.intro (sA hs 28 4) ?_))
  refine Exists.intro 90 (And.intro (sK hs 32) (And.intro (am_vp_ok b1) ?_))
  refine And.intro (sK hs 0) ?_
  refine And.intro (sK hs 0) ?_
  refine And.intro (sK hs 0) ?_
  obtain ⟨rfl, rfl⟩ := am_i2 hf
  exact And.intro ⟨(Nat.le_of_ble_eq_true rfl), (Nat.le_of_ble_eq_true rfl)⟩ (And.intro rfl ⟨rfl, rfl⟩)
def f_X9_within (a0 : Int32) (a1 : Int32) (a2 : Int32) (h : am_H) : Option (Int32 × am_H) := Option.bind ((if a0 < a1 then some (Int32.ofInt 0) else (if a2 < a0 then some (Int32.ofInt 0) else some (Int32.ofInt 1)))) fun y1 => (bif am_b01 y1 then (some (y1, h)) else none)
set_option maxRecDepth 100000 in
theorem s_X9_within (a0 : Int32) (a1 : Int32) (a2 : Int32) (h : am_H) (hs : am_stat h) {v : Int32} {h' : am_H} (hf : f_X9_within a0 a1 a2 h = some (v, h')) : am_stat h' := by
  unfold f_X9_within at hf
  obtain ⟨y1, j2, hf⟩ := am_bnd hf
  obtain ⟨b55, hf⟩ := am_bis hf
  obtain ⟨rfl, rfl⟩ := am_i2 hf
  exact hs
set_option maxRecDepth 100000 in
theorem c_X9_within (a0 : Int32) (a1 : Int32) (a2 : Int32) (h : am_H) (hs : am_stat h) {v : Int32} {h' : am_H} (hf : f_X9_within a0 a1 a2 h = some (v, h')) : AMet mX9_within (rX9_within 0 0) (fun r h2 => r = some (.int v) ∧ h2 = h') [.int a0, .int a1, .int a2] h := by
  unfold f_X9_within at hf
  refine AW_go okX9_within 2 ?_
  obtain ⟨y1, j2, hf⟩ := am_bnd hf
  refine am_cut (P := AW mX9_within (rX9_within 0 0) (fun r h2 => r = some (.int v) ∧ h2 = h') 15 [(0, .int a0), (1, .int a1), (2, .int a2)] [.int y1] h 0 0) (fun hJ2 => ?_) ?_
  · have hs := hs
    refine AW_go okX9_within 1 ?_
    refine And.intro (fun c3 => ?_) (fun c3 => ?_)
    · rw [if_pos c3] at j2
      refine AW_go okX9_within 1 ?_
      obtain rfl := am_i1 j2
      exact AW_pick [0, 1, 2] rfl hJ2
    · rw [if_neg c3] at j2
      refine AW_go okX9_within 3 ?_
      refine And.intro (fun c4 => ?_) (fun c4 => ?_)
      · rw [if_pos c4] at j2
        refine AW_go okX9_within 1 ?_
        obtain rfl := am_i1 j2
        exact AW_pick [0, 1, 2] rfl hJ2
      · rw [if_neg c4] at j2
        refine AW_go okX9_within 2 ?_
        obtain rfl := am_i1 j2
        exact AW_pick [0, 1, 2] rfl hJ2
  obtain ⟨b55, hf⟩ := am_bis hf
  refine AW_go okX9_within 1 ?_
  obtain ⟨rfl, rfl⟩ := am_i2 hf
  exact And.intro ⟨(Nat.le_of_ble_eq_true rfl), (Nat.le_of_ble_eq_true rfl)⟩ (And.intro (Or.inr ⟨rfl, am_b01_ok b55⟩) ⟨rfl, rfl⟩)
def g_X9_letters : Nat → Nat → Int64 → Int32 → Int32 → Int32 → am_H → Option (Int32 × am_H)
  | 0, _, _, _, _, _, _ => none
  | n + 1, tag, a1, x3i, x4i, x5i, h => bif Nat.beq tag 0 then ((if (Int32.ofInt 8) ≤ x5i then (if ((am_I h 51 0) + x3i) ≤ (Int32.ofInt 60) then g_X9_letters n 1 a1 x3i x4i (Int32.ofInt 0) h else some ((Int32.ofInt (-104)), h)) else (if (Int32.ofInt 126) < (Int64.toInt32 ((a1 >>> (Int32.toInt64 ((Int32.ofInt 8) * x5i) &&& 63)) &&& (255 : Int64))) then some ((Int32.ofInt (-102)), h) else am_let (Option.bind ((if x4i = 0 then (if (Int64.toInt32 ((a1 >>> (Int32.toInt64 ((Int32.ofInt 8) * x5i) &&& 63)) &&& (255 : Int64))) = 0 then some (Int32.ofInt 1) else some (Int32.ofInt 0)) else some (Int32.ofInt 1))) fun y7 => (Option.bind ((if (Int64.toInt32 ((a1 >>> (Int32.toInt64 ((Int32.ofInt 8) * x5i) &&& 63)) &&& (255 : Int64))) = 0 then some (Int32.ofInt 0) else some (Int32.ofInt 1))) fun y61 => (g_X9_letters n 0 a1 (x3i + y61) y7 (x5i + Int32.ofInt 1) h))) fun b4 => ((if x4i = 0 then b4 else (if (Int64.toInt32 ((a1 >>> (Int32.toInt64 ((Int32.ofInt 8) * x5i) &&& 63)) &&& (255 : Int64))) = 0 then b4 else some ((Int32.ofInt (-102)), h))))))) else ((if x3i ≤ x5i then some ((am_I (am_sI h 51 0 ((am_I h 51 0) + x3i)) 51 0), (am_sI h 51 0 ((am_I h 51 0) + x3i))) else bif am_vp ((am_I h 51 0) + x5i) 60 then (g_X9_letters n 1 a1 x3i x4i (x5i + Int32.ofInt 1) (am_sI h 52 (Int32.toNatClampNeg ((am_I h 51 0) + x5i)) (vp_nar (am_at 1) (Int8.toInt32 (Int32.toInt8 (Int64.toInt32 (a1 >>> (Int32.toInt64 ((Int32.ofInt 8) * x5i) &&& 63)))))))) else none))
set_option maxRecDepth 100000 in
set_option maxHeartbeats 4000000 in
theorem m_X9_letters (n : Nat) : (∀ (a1 : Int64) (x3i : Int32) (x4i : Int32) (x5i : Int32) (h : am_H) (v : Int32) (h' : am_H), am_stat h → g_X9_letters n 0 a1 x3i x4i x5i h = some (v, h') → am_stat h') ∧ (∀ (a1 : Int64) (x3i : Int32) (x4i : Int32) (x5i : Int32) (h : am_H) (v : Int32) (h' : am_H), am_stat h → g_X9_letters n 1 a1 x3i x4i x5i h = some (v, h') → am_stat h') := by
  induction n with
  | zero => exact ⟨fun a1 x3i x4i x5i h v h' hs hf => (by cases hf), fun a1 x3i x4i x5i h v h' hs hf => (by cases hf)⟩
  | succ n ih =>
    refine ⟨?_, ?_⟩
    · intro a1 x3i x4i x5i h v h' hs hf
      have hf : ((if (Int32.ofInt 8) ≤ x5i then (if ((am_I h 51 0) + x3i) ≤ (Int32.ofInt 60) then g_X9_letters n 1 a1 x3i x4i (Int32.ofInt 0) h else some ((Int32.ofInt (-104)), h)) else (if (Int32.ofInt 126) < (Int64.toInt32 ((a1 >>> (Int32.toInt64 ((Int32.ofInt 8) * x5i) &&& 63)) &&& (255 : Int64))) then some ((Int32.ofInt (-102)), h) else am_let (Option.bind ((if x4i = 0 then (if (Int64.toInt32 ((a1 >>> (Int32.toInt64 ((Int32.ofInt 8) * x5i) &&& 63)) &&& (255 : Int64))) = 0 then some (Int32.ofInt 1) else some (Int32.ofInt 0)) else some (Int32.ofInt 1))) fun y7 => (Option.bind ((if (Int64.toInt32 ((a1 >>> (Int32.toInt64 ((Int32.ofInt 8) * x5i) &&& 63)) &&& (255 : Int64))) = 0 then some (Int32.ofInt 0) else some (Int32.ofInt 1))) fun y61 => (g_X9_letters n 0 a1 (x3i + y61) y7 (x5i + Int32.ofInt 1) h))) fun b4 => ((if x4i = 0 then b4 else (if (Int64.toInt32 ((a1 >>> (Int32.toInt64 ((Int32.ofInt 8) * x5i) &&& 63)) &&& (255 : Int64))) = 0 then b4 else some ((Int32.ofInt (-102)), h))))))) = some (v, h') := hf
      by_cases c1 : (Int32.ofInt 8) ≤ x5i
      · rw [if_pos c1] at hf
        by_cases c2 : ((am_I h 51 0) + x3i) ≤ (Int32.ofInt 60)
        · rw [if_pos c2] at hf
          exact ih.2 a1 x3i x4i (Int32.ofInt 0) h _ _ hs hf
        · rw [if_neg c2] at hf
          obtain ⟨rfl, rfl⟩ := am_i2 hf
          exact hs
      · rw [if_neg c1] at hf
        by_cases c3 : (Int32.ofInt 126) < (Int64.toInt32 ((a1 >>> (Int32.toInt64 ((Int32.ofInt 8) * x5i) &&& 63)) &&& (255 : Int64)))
        · rw [if_pos c3] at hf
          obtain ⟨rfl, rfl⟩ := am_i2 hf
          exact hs
        · rw [if_neg c3] at hf
          obtain ⟨b4, k5, hf⟩ := am_let_ok hf
          refine am_cut (P := (Option.bind ((if x4i = 0 then (if (Int64.toInt32 ((a1 >>> (Int32.toInt64 ((Int32.ofInt 8) * x5i) &&& 63)) &&& (255 : Int64))) = 0 then some (Int32.ofInt 1) else some (Int32.ofInt 0)) else some (Int32.ofInt 1))) fun y7 => (Option.bind ((if (Int64.toInt32 ((a1 >>> (Int32.toInt64 ((Int32.ofInt 8) * x5i) &&& 63)) &&& (255 : Int64))) = 0 then some (Int32.ofInt 0) else some (Int32.ofInt 1))) fun y61 => (g_X9_letters n 0 a1 (x3i + y61) y7 (x5i + Int32.ofInt 1) h))) = some (v, h') → am_stat h') (fun B6 => ?_) ?_
          · skip
            by_cases c7 : x4i = 0
            · rw [if_pos c7] at hf
              exact B6 (k5.symm.trans hf)
            · rw [if_neg c7] at hf
              by_cases c8 : (Int64.toInt32 ((a1 >>> (Int32.toInt64 ((Int32.ofInt 8) * x5i) &&& 63)) &&& (255 : Int64))) = 0
              · rw [if_pos c8] at hf
                exact B6 (k5.symm.trans hf)
              · rw [if_neg c8] at hf
                obtain ⟨rfl, rfl⟩ := am_i2 hf
                exact hs
          intro hf
          obtain ⟨y9, j10, hf⟩ := am_bnd hf
          obtain ⟨y63, j64, hf⟩ := am_bnd hf
          exact ih.1 a1 (x3i + y63) y9 (x5i + Int32.ofInt 1) h _ _ hs hf
    · intro a1 x3i x4i x5i h v h' hs hf
      have hf : ((if x3i ≤ x5i then some ((am_I (am_sI h 51 0 ((am_I h 51 0) + x3i)) 51 0), (am_sI h 51 0 ((am_I h 51 0) + x3i))) else bif am_vp ((am_I h 51 0) + x5i) 60 then (g_X9_letters n 1 a1 x3i x4i (x5i + Int32.ofInt 1) (am_sI h 52 (Int32.toNatClampNeg ((am_I h 51 0) + x5i)) (vp_nar (am_at 1) (Int8.toInt32 (Int32.toInt8 (Int64.toInt32 (a1 >>> (Int32.toInt64 ((Int32.ofInt 8) * x5i) &&& 63)))))))) else none)) = some (v, h') := hf
      by_cases c1 : x3i ≤ x5i
      · rw [if_pos c1] at hf
        obtain ⟨rfl, rfl⟩ := am_i2 hf
        exact hs
      · rw [if_neg c1] at hf
        obtain ⟨b2, hf⟩ := am_bis hf
        exact ih.2 a1 x3i x4i (x5i + Int32.ofInt 1) (am_sI h 52 (Int32.toNatClampNeg ((am_I h 51 0) + x5i)) (vp_nar (am_at 1) (Int8.toInt32 (Int32.toInt8 (Int64.toInt32 (a1 >>> (Int32.toInt64 ((Int32.ofInt 8) * x5i) &&& 63))))))) _ _ hs hf
set_option maxRecDepth 100000 in
set_option maxHeartbeats 4000000 in
theorem l_X9_letters (n : Nat) : (∀ (a1 : Int64) (x3i : Int32) (x4i : Int32) (x5i : Int32) (h : am_H) (v : Int32) (h' : am_H), am_stat h → g_X9_letters n 0 a1 x3i x4i x5i h = some (v, h') → AW mX9_letters (rX9_letters 0 0) (fun r h2 => r = some (.int v) ∧ h2 = h') 8 [(0, .ref 51), (1, .long a1), (3, .int x3i), (4, .int x4i), (5, .int x5i)] [] h 0 0) ∧ (∀ (a1 : Int64) (x3i : Int32) (x4i : Int32) (x5i : Int32) (h : am_H) (v : Int32) (h' : am_H), am_stat h → g_X9_letters n 1 a1 x3i x4i x5i h = some (v, h') → AW mX9_letters (rX9_letters 0 0) (fun r h2 => r = some (.int v) ∧ h2 = h') 102 [(0, .ref 51), (1, .long a1), (3, .int x3i), (4, .int x4i), (5, .int x5i)] [] h 0 0) := by
  induction n with
  | zero => exact ⟨fun a1 x3i x4i x5i h v h' hs hf => (by cases hf), fun a1 x3i x4i x5i h v h' hs hf => (by cases hf)⟩
  | succ n ih =>
    refine ⟨?_, ?_⟩
    · intro a1 x3i x4i x5i h v h' hs hf
      have hf : ((if (Int32.ofInt 8) ≤ x5i then (if ((am_I h 51 0) + x3i) ≤ (Int32.ofInt 60) then g_X9_letters n 1 a1 x3i x4i (Int32.ofInt 0) h else some ((Int32.ofInt (-104)), h)) else (if (Int32.ofInt 126) < (Int64.toInt32 ((a1 >>> (Int32.toInt64 ((Int32.ofInt 8) * x5i) &&& 63)) &&& (255 : Int64))) then some ((Int32.ofInt (-102)), h) else am_let (Option.bind ((if x4i = 0 then (if (Int64.toInt32 ((a1 >>> (Int32.toInt64 ((Int32.ofInt 8) * x5i) &&& 63)) &&& (255 : Int64))) = 0 then some (Int32.ofInt 1) else some (Int32.ofInt 0)) else some (Int32.ofInt 1))) fun y7 => (Option.bind ((if (Int64.toInt32 ((a1 >>> (Int32.toInt64 ((Int32.ofInt 8) * x5i) &&& 63)) &&& (255 : Int64))) = 0 then some (Int32.ofInt 0) else some (Int32.ofInt 1))) fun y61 => (g_X9_letters n 0 a1 (x3i + y61) y7 (x5i + Int32.ofInt 1) h))) fun b4 => ((if x4i = 0 then b4 else (if (Int64.toInt32 ((a1 >>> (Int32.toInt64 ((Int32.ofInt 8) * x5i) &&& 63)) &&& (255 : Int64))) = 0 then b4 else some ((Int32.ofInt (-102)), h))))))) = some (v, h') := hf
      refine AW_go okX9_letters 3 ?_
      refine And.intro (fun c1 => ?_) (fun c1 => ?_)
      · rw [if_pos c1] at hf
        refine AW_go okX9_letters 6 ?_
        refine And.intro (sK hs 51) ?_
        refine And.intro (fun c2 => ?_) (fun c2 => ?_)
        · rw [if_pos c2] at hf
          refine AW_go okX9_letters 2 ?_
          refine AW_pick (lv' := [(0, .ref 51), (1, .long a1), (3, .int x3i), (4, .int x4i), (5, .int (Int32.ofInt 0))]) [1, 2, 3, 4, 0] rfl ?_
          exact ih.2 a1 x3i x4i (Int32.ofInt 0) h _ _ hs hf
        · rw [if_neg c2] at hf
          refine AW_go okX9_letters 2 ?_
          obtain ⟨rfl, rfl⟩ := am_i2 hf
          exact And.intro ⟨(Nat.le_of_ble_eq_true rfl), (Nat.le_of_ble_eq_true rfl)⟩ (And.intro (Or.inl rfl) ⟨rfl, rfl⟩)
      · rw [if_neg c1] at hf
        refine AW_go okX9_letters 12 ?_
        refine And.intro (fun c3 => ?_) (fun c3 => ?_)
        · rw [if_pos c3] at hf
          refine AW_go okX9_letters 2 ?_
          obtain ⟨rfl, rfl⟩ := am_i2 hf
          exact And.intro ⟨(Nat.le_of_ble_eq_true rfl), (Nat.le_of_ble_eq_true rfl)⟩ (And.intro (Or.inl rfl) ⟨rfl, rfl⟩)
        · rw [if_neg c3] at hf
          refine AW_go okX9_letters 1 ?_
          obtain ⟨b4, k5, hf⟩ := am_let_ok hf
          refine am_cut (P := (Option.bind ((if x4i = 0 then (if (Int64.toInt32 ((a1 >>> (Int32.toInt64 ((Int32.ofInt 8) * x5i) &&& 63)) &&& (255 : Int64))) = 0 then some (Int32.ofInt 1) else some (Int32.ofInt 0)) else some (Int32.ofInt 1))) fun y7 => (Option.bind ((if (Int64.toInt32 ((a1 >>> (Int32.toInt64 ((Int32.ofInt 8) * x5i) &&& 63)) &&& (255 : Int64))) = 0 then some (Int32.ofInt 0) else some (Int32.ofInt 1))) fun y61 => (g_X9_letters n 0 a1 (x3i + y61) y7 (x5i + Int32.ofInt 1) h))) = some (v, h') → AW mX9_letters (rX9_letters 0 0) (fun r h2 => r = some (.int v) ∧ h2 = h') 49 [(6, .int (Int64.toInt32 ((a1 >>> (Int32.toInt64 ((Int32.ofInt 8) * x5i) &&& 63)) &&& (255 : Int64)))), (0, .ref 51), (1, .long a1), (3, .int x3i), (4, .int x4i), (5, .int x5i)] [] h 0 0) (fun B6 => ?_) ?_
          · skip
            refine AW_go okX9_letters 1 ?_
            refine And.intro (fun c7 => ?_) (fun c7 => ?_)
            · rw [if_pos c7] at hf
              exact B6 (k5.symm.trans hf)
            · rw [if_neg c7] at hf
              refine AW_go okX9_letters 2 ?_
              refine And.intro (fun c8 => ?_) (fun c8 => ?_)
              · rw [if_pos c8] at hf
                exact B6 (k5.symm.trans hf)
              · rw [if_neg c8] at hf
                refine AW_go okX9_letters 2 ?_
                obtain ⟨rfl, rfl⟩ := am_i2 hf
                exact And.intro ⟨(Nat.le_of_ble_eq_true rfl), (Nat.le_of_ble_eq_true rfl)⟩ (And.intro (Or.inl rfl) ⟨rfl, rfl⟩)
          intro hf
          refine AW_go okX9_letters 1 ?_
          obtain ⟨y9, j10, hf⟩ := am_bnd hf
          refine am_cut (P := AW mX9_letters (rX9_letters 0 0) (fun r h2 => r = some (.int v) ∧ h2 = h') 64 [(0, .ref 51), (1, .long a1), (3, .int x3i), (4, .int x4i), (5, .int x5i), (6, .int (Int64.toInt32 ((a1 >>> (Int32.toInt64 ((Int32.ofInt 8) * x5i) &&& 63)) &&& (255 : Int64))))] [.int y9] h 0 0) (fun hJ10 => ?_) ?_
          · have hs := hs
            refine AW_go okX9_letters 1 ?_
            refine And.intro (fun c11 => ?_) (fun c11 => ?_)
            · rw [if_neg c11] at j10
              refine AW_go okX9_letters 2 ?_
              obtain rfl := am_i1 j10
              exact AW_pick [1, 2, 3, 4, 5, 0] rfl hJ10
            · rw [if_pos c11] at j10
              refine AW_go okX9_letters 2 ?_
              refine And.intro (fun c12 => ?_) (fun c12 => ?_)
              · rw [if_neg c12] at j10
                refine AW_go okX9_letters 1 ?_
                obtain rfl := am_i1 j10
                exact AW_pick [1, 2, 3, 4, 5, 0] rfl hJ10
              · rw [if_pos c12] at j10
                refine AW_go okX9_letters 2 ?_
                obtain rfl := am_i1 j10
                exact AW_pick [1, 2, 3, 4, 5, 0] rfl hJ10
          refine AW_go okX9_letters 3 ?_
          obtain ⟨y63, j64, hf⟩ := am_bnd hf
          refine am_cut (P := AW mX9_letters (rX9_letters 0 0) (fun r h2 => r = some (.int v) ∧ h2 = h') 77 [(0, .ref 51), (1, .long a1), (3, .int x3i), (4, .int y9), (5, .int x5i), (6, .int (Int64.toInt32 ((a1 >>> (Int32.toInt64 ((Int32.ofInt 8) * x5i) &&& 63)) &&& (255 : Int64))))] [.int y63, .int x3i] h 0 0) (fun hJ64 => ?_) ?_
          · have hs := hs
            refine AW_go okX9_letters 1 ?_
            refine And.intro (fun c65 => ?_) (fun c65 => ?_)
            · rw [if_neg c65] at j64
              refine AW_go okX9_letters 1 ?_
              obtain rfl := am_i1 j64
              exact AW_pick [1, 2, 3, 0, 4, 5] rfl hJ64
            · rw [if_pos c65] at j64
              refine AW_go okX9_letters 2 ?_
              obtain rfl := am_i1 j64
              exact AW_pick [1, 2, 3, 0, 4, 5] rfl hJ64
          refine AW_go okX9_letters 4 ?_
          refine AW_pick (lv' := [(0, .ref 51), (1, .long a1), (3, .int (x3i + y63)), (4, .int y9), (5, .int (x5i + Int32.ofInt 1))]) [2, 3, 1, 4, 0] rfl ?_
          exact ih.1 a1 (x3i + y63) y9 (x5i + Int32.ofInt 1) h _ _ hs hf
    · intro a1 x3i x4i x5i h v h' hs hf
      have hf : ((if x3i ≤ x5i then some ((am_I (am_sI h 51 0 ((am_I h 51 0) + x3i)) 51 0), (am_sI h 51 0 ((am_I h 51 0) + x3i))) else bif am_vp ((am_I h 51 0) + x5i) 60 then (g_X9_letters n 1 a1 x3i x4i (x5i + Int32.ofInt 1) (am_sI h 52 (Int32.toNatClampNeg ((am_I h 51 0) + x5i)) (vp_nar (am_at 1) (Int8.toInt32 (Int32.toInt8 (Int64.toInt32 (a1 >>> (Int32.toInt64 ((Int32.ofInt 8) * x5i) &&& 63)))))))) else none)) = some (v, h') := hf
      refine AW_go okX9_letters 3 ?_
      refine And.intro (fun c1 => ?_) (fun c1 => ?_)
      · rw [if_pos c1] at hf
        refine AW_go okX9_letters 9 ?_
        refine And.intro (sK hs 51) ?_
        refine And.intro (sK hs 51) ?_
        refine And.intro (sK hs 51) ?_
        obtain ⟨rfl, rfl⟩ := am_i2 hf
        exact And.intro ⟨(Nat.le_of_ble_eq_true rfl), (Nat.le_of_ble_eq_true rfl)⟩ (And.intro (Or.inl rfl) ⟨rfl, rfl⟩)
      · rw [if_neg c1] at hf
        obtain ⟨b2, hf⟩ := am_bis hf
        refine AW_go okX9_letters 16 ?_
        refine And.intro (sK hs 51) (Exists.intro _ (And.intro (sA hs 51 1) ?_))
        refine And.intro (sK hs 51) ?_
        refine Exists.intro 1 (Exists.intro 60 (And.intro (by decide) (And.intro (sK hs 52) (And.intro (am_vp_ok b2) ?_))))
        refine AW_pick (lv' := [(0, .ref 51), (1, .long a1), (3, .int x3i), (4, .int x4i), (5, .int (x5i + Int32.ofInt 1))]) [1, 2, 3, 4, 0] rfl ?_
        exact ih.2 a1 x3i x4i (x5i + Int32.ofInt 1) (am_sI h 52 (Int32.toNatClampNeg ((am_I h 51 0) + x5i)) (vp_nar (am_at 1) (Int8.toInt32 (Int32.toInt8 (Int64.toInt32 (a1 >>> (Int32.toInt64 ((Int32.ofInt 8) * x5i) &&& 63))))))) _ _ hs hf
def f_X9_letters (n : Nat) (a1 : Int64) (h : am_H) : Option (Int32 × am_H) := g_X9_letters n 0 a1 (Int32.ofInt 0) (Int32.ofInt 0) (Int32.ofInt 0) h
set_option maxRecDepth 100000 in
theorem s_X9_letters (n : Nat) (a1 : Int64) (h : am_H) (hs : am_stat h) {v : Int32} {h' : am_H} (hf : f_X9_letters n a1 h = some (v, h')) : am_stat h' := by
  unfold f_X9_letters at hf
  exact (m_X9_letters n).1 a1 (Int32.ofInt 0) (Int32.ofInt 0) (Int32.ofInt 0) h _ _ hs hf
set_option maxRecDepth 100000 in
theorem c_X9_letters (n : Nat) (a1 : Int64) (h : am_H) (hs : am_stat h) {v : Int32} {h' : am_H} (hf : f_X9_letters n a1 h = some (v, h')) : AMet mX9_letters (rX9_letters 0 0) (fun r h2 => r = some (.int v) ∧ h2 = h') [.ref 51, .long a1] h := by
  unfold f_X9_letters at hf
  refine AW_go okX9_letters 6 ?_
  refine AW_pick (lv' := [(0, .ref 51), (1, .long a1), (3, .int (Int32.ofInt 0)), (4, .int (Int32.ofInt 0)), (5, .int (Int32.ofInt 0))]) [3, 4, 2, 1, 0] rfl ?_
  exact (l_X9_letters n).1 a1 (Int32.ofInt 0) (Int32.ofInt 0) (Int32.ofInt 0) h _ _ hs hf
def f_X9_blank (h : am_H) : Option (Int32 × am_H) := some ((am_I h 51 0), (am_sI h 51 0 (Int32.ofInt 0)))
set_option maxRecDepth 100000 in
theorem s_X9_blank (h : am_H) (hs : am_stat h) {v : Int32} {h' : am_H} (hf : f_X9_blank h = some (v, h')) : am_stat h' := by
  unfold f_X9_blank at hf
  obtain ⟨rfl, rfl⟩ := am_i2 hf
  exact hs
set_option maxRecDepth 100000 in
theorem c_X9_blank (h : am_H) (hs : am_stat h) {v : Int32} {h' : am_H} (hf : f_X9_blank h = some (v, h')) : AMet mX9_blank (rX9_blank 0 0) (fun r h2 => r = some (.int v) ∧ h2 = h') [.ref 51] h := by
  unfold f_X9_blank at hf
  refine AW_go okX9_blank 8 ?_
  refine And.intro (sK hs 51) ?_
  refine And.intro (sK hs 51) ?_
  obtain ⟨rfl, rfl⟩ := am_i2 hf
  exact And.intro ⟨(Nat.le_of_ble_eq_true rfl), (Nat.le_of_ble_eq_true rfl)⟩ (And.intro (Or.inl rfl) ⟨rfl, rfl⟩)
def f_X9_isOfficeSign (a0 : Int32) (h : am_H) : Option (Int32 × am_H) := am_b2 (f_X9_within a0 (Int32.ofInt 48) (Int32.ofInt 50) h) fun r1 h2 => (bif am_b01 r1 then (some (r1, h2)) else none)
set_option maxRecDepth 100000 in
theorem s_X9_isOfficeSign (a0 : Int32) (h : am_H) (hs : am_stat h) {v : Int32} {h' : am_H} (hf : f_X9_isOfficeSign a0 h = some (v, h')) : am_stat h' := by
  unfold f_X9_isOfficeSign at hf
  obtain ⟨r1, h2, e3, hf⟩ := am_b2_ok hf
  have hs := s_X9_within a0 (Int32.ofInt 48) (Int32.ofInt 50) h hs e3
  obtain ⟨b4, hf⟩ := am_bis hf
  obtain ⟨rfl, rfl⟩ := am_i2 hf
  exact hs
set_option maxRecDepth 100000 in
theorem c_X9_isOfficeSign (a0 : Int32) (h : am_H) (hs : am_stat h) {v : Int32} {h' : am_H} (hf : f_X9_isOfficeSign a0 h = some (v, h')) : AMet mX9_isOfficeSign (rX9_isOfficeSign 0 0) (fun r h2 => r = some (.int v) ∧ h2 = h') [.int a0] h := by
  unfold f_X9_isOfficeSign at hf
  refine AW_go okX9_isOfficeSign 3 ?_
  obtain ⟨r1, h2, e3, hf⟩ := am_b2_ok hf
  refine AW_callS (As := [.int a0, .int (Int32.ofInt 48), .int (Int32.ofInt 50)]) (R' := rX9_within 0 0) (okX9_isOfficeSign.1 5 _ _ rfl) lkX9_within (Or.inl kX9_134) rfl (Nat.le_of_ble_eq_true rfl) ⟨by decide, by decide⟩ ⟨(Nat.le_of_ble_eq_true rfl), (Nat.le_of_ble_eq_true rfl)⟩ (Nat.le_of_ble_eq_true rfl) (c_X9_within a0 (Int32.ofInt 48) (Int32.ofInt 50) h hs e3) (fun r h' hq => ?_)
  obtain ⟨rfl, hq⟩ := hq
  replace hq := hq.symm
  subst hq
  have hs := s_X9_within a0 (Int32.ofInt 48) (Int32.ofInt 50) h hs e3
  obtain ⟨b4, hf⟩ := am_bis hf
  refine AW_go okX9_isOfficeSign 1 ?_
  obtain ⟨rfl, rfl⟩ := am_i2 hf
  exact And.intro ⟨(Nat.le_of_ble_eq_true rfl), (Nat.le_of_ble_eq_true rfl)⟩ (And.intro (Or.inr ⟨rfl, am_b01_ok b4⟩) ⟨rfl, rfl⟩)
def f_X9_isLetterSign (a0 : Int32) (h : am_H) : Option (Int32 × am_H) := am_b2 (f_X9_within a0 (Int32.ofInt 97) (Int32.ofInt 100) h) fun r1 h2 => (bif am_b01 r1 then (some (r1, h2)) else none)
set_option maxRecDepth 100000 in
theorem s_X9_isLetterSign (a0 : Int32) (h : am_H) (hs : am_stat h) {v : Int32} {h' : am_H} (hf : f_X9_isLetterSign a0 h = some (v, h')) : am_stat h' := by
  unfold f_X9_isLetterSign at hf
  obtain ⟨r1, h2, e3, hf⟩ := am_b2_ok hf
  have hs := s_X9_within a0 (Int32.ofInt 97) (Int32.ofInt 100) h hs e3
  obtain ⟨b4, hf⟩ := am_bis hf
  obtain ⟨rfl, rfl⟩ := am_i2 hf
  exact hs
set_option maxRecDepth 100000 in
theorem c_X9_isLetterSign (a0 : Int32) (h : am_H) (hs : am_stat h) {v : Int32} {h' : am_H} (hf : f_X9_isLetterSign a0 h = some (v, h')) : AMet mX9_isLetterSign (rX9_isLetterSign 0 0) (fun r h2 => r = some (.int v) ∧ h2 = h') [.int a0] h := by
  unfold f_X9_isLetterSign at hf
  refine AW_go okX9_isLetterSign 3 ?_
  obtain ⟨r1, h2, e3, hf⟩ := am_b2_ok hf
  refine AW_callS (As := [.int a0, .int (Int32.ofInt 97), .int (Int32.ofInt 100)]) (R' := rX9_within 0 0) (okX9_isLetterSign.1 5 _ _ rfl) lkX9_within (Or.inl kX9_134) rfl (Nat.le_of_ble_eq_true rfl) ⟨by decide, by decide⟩ ⟨(Nat.le_of_ble_eq_true rfl), (Nat.le_of_ble_eq_true rfl)⟩ (Nat.le_of_ble_eq_true rfl) (c_X9_within a0 (Int32.ofInt 97) (Int32.ofInt 100) h hs e3) (fun r h' hq => ?_)
  obtain ⟨rfl, hq⟩ := hq
  replace hq := hq.symm
  subst hq
  have hs := s_X9_within a0 (Int32.ofInt 97) (Int32.ofInt 100) h hs e3
  obtain ⟨b4, hf⟩ := am_bis hf
  refine AW_go okX9_isLetterSign 1 ?_
  obtain ⟨rfl, rfl⟩ := am_i2 hf
  exact And.intro ⟨(Nat.le_of_ble_eq_true rfl), (Nat.le_of_ble_eq_true rfl)⟩ (And.intro (Or.inr ⟨rfl, am_b01_ok b4⟩) ⟨rfl, rfl⟩)
def g_X9_readPage : Nat → Nat → Int32 → Int32 → Int32 → Int32 → Int32 → am_H → Option (Unit × am_H)
  | 0, _, _, _, _, _, _, _ => none
  | n + 1, _, a1, x2i, x3i, x4i, x5i, h => am_let (Option.bind ((if x4i = (am_I (am_sI h 51 14 x4i) 51 0) then (if x2i ≤ (Int32.ofInt 2) then some (Int32.ofInt 0) else (if x3i = 0 then some (Int32.ofInt 1) else some (Int32.ofInt 0))) else some (Int32.ofInt 0))) fun y4 => (bif am_b01 y4 then (some ((), (am_sI (am_sI h 51 14 x4i) 51 15 y4))) else none)) fun b1 => ((if (am_I h 51 0) ≤ x4i then b1 else (if x5i = 0 then b1 else bif am_vp x4i 60 then (am_b2 ((if a1 = 0 then (if (am_I h 52 (Int32.toNatClampNeg x4i)) = (Int32.ofInt 33) then some ((Int32.ofInt 1), h) else (if (am_I h 52 (Int32.toNatClampNeg x4i)) = (Int32.ofInt 63) then some ((Int32.ofInt 1), h) else some ((Int32.ofInt 0), h))) else am_b2 (f_X9_isOfficeSign (am_I h 52 (Int32.toNatClampNeg x4i)) h) fun r11 h12 => (some (r11, h12)))) fun y7 h8 => (am_b2 ((if x2i = (Int32.ofInt 1) then am_b2 (f_X9_isOfficeSign (am_I h 52 (Int32.toNatClampNeg x4i)) h8) fun r70 h71 => ((if r70 = 0 then some ((Int32.ofInt 0), h71) else (if a1 = 0 then some ((Int32.ofInt 1), h71) else bif am_vp (x4i - (Int32.ofInt 1)) 60 then ((if (am_I h 52 (Int32.toNatClampNeg x4i)) = (am_I h71 52 (Int32.toNatClampNeg (x4i - (Int32.ofInt 1)))) then some ((Int32.ofInt 0), h71) else some ((Int32.ofInt 1), h71))) else none))) else some ((Int32.ofInt 0), h8))) fun y66 h67 => (am_b4 (am_let (am_let (am_let ((if x2i = (Int32.ofInt 2) then am_b2 (f_X9_isLetterSign (am_I h 52 (Int32.toNatClampNeg x4i)) h67) fun r157 h158 => ((if r157 = 0 then am_let (am_let ((if x2i = (Int32.ofInt 4) then (if (am_I h 52 (Int32.toNatClampNeg x4i)) = (Int32.ofInt 42) then some ((Int32.ofInt 3), x3i, (Int32.ofInt 1), h158) else some (x2i, x3i, (Int32.ofInt 0), h158)) else some (x2i, x3i, (Int32.ofInt 0), h158))) fun b164 => ((if x2i ≤ (Int32.ofInt 2) then b164 else (if (am_I h 52 (Int32.toNatClampNeg x4i)) = (Int32.ofInt 125) then (if x3i ≤ 0 then b164 else some ((Int32.ofInt 4), (x3i + Int32.ofInt (-1)), (Int32.ofInt 1), h158)) else b164)))) fun b161 => ((if x2i ≤ (Int32.ofInt 2) then b161 else (if (am_I h 52 (Int32.toNatClampNeg x4i)) = (Int32.ofInt 59) then some ((Int32.ofInt 0), x3i, (Int32.ofInt 1), h158) else (if (am_I h 52 (Int32.toNatClampNeg x4i)) = (Int32.ofInt 43) then (if x3i ≤ 0 then b161 else some ((Int32.ofInt 0), x3i, (Int32.ofInt 1), h158)) else b161)))) else some ((Int32.ofInt 3), x3i, (Int32.ofInt 1), h158))) else am_let (am_let ((if x2i = (Int32.ofInt 4) then (if (am_I h 52 (Int32.toNatClampNeg x4i)) = (Int32.ofInt 42) then some ((Int32.ofInt 3), x3i, (Int32.ofInt 1), h67) else some (x2i, x3i, (Int32.ofInt 0), h67)) else some (x2i, x3i, (Int32.ofInt 0), h67))) fun b145 => ((if x2i ≤ (Int32.ofInt 2) then b145 else (if (am_I h 52 (Int32.toNatClampNeg x4i)) = (Int32.ofInt 125) then (if x3i ≤ 0 then b145 else some ((Int32.ofInt 4), (x3i + Int32.ofInt (-1)), (Int32.ofInt 1), h67)) else b145)))) fun b142 => ((if x2i ≤ (Int32.ofInt 2) then b142 else (if (am_I h 52 (Int32.toNatClampNeg x4i)) = (Int32.ofInt 59) then some ((Int32.ofInt 0), x3i, (Int32.ofInt 1), h67) else (if (am_I h 52 (Int32.toNatClampNeg x4i)) = (Int32.ofInt 43) then (if x3i ≤ 0 then b142 else some ((Int32.ofInt 0), x3i, (Int32.ofInt 1), h67)) else b142)))))) fun b138 => ((if x2i = (Int32.ofInt 1) then (if y66 = 0 then b138 else some ((Int32.ofInt 2), x3i, (Int32.ofInt 1), h67)) else b138))) fun b135 => ((if x2i = 0 then (if (am_I h 52 (Int32.toNatClampNeg x4i)) = (Int32.ofInt 123) then some (x2i, (x3i + Int32.ofInt 1), (Int32.ofInt 1), h67) else b135) else b135))) fun b132 => ((if x2i = 0 then (if y7 = 0 then b132 else some ((Int32.ofInt 1), x3i, (Int32.ofInt 1), h67)) else b132))) fun y127 y128 y129 h130 => (Option.bind ((if y129 = 0 then some (Int32.ofInt 0) else some (Int32.ofInt 1))) fun y232 => (g_X9_readPage n 0 a1 y127 y128 (x4i + y232) y129 h130))))) else none)))
set_option maxRecDepth 100000 in
set_option maxHeartbeats 4000000 in
theorem m_X9_readPage (n : Nat) : (∀ (a1 : Int32) (x2i : Int32) (x3i : Int32) (x4i : Int32) (x5i : Int32) (h : am_H) (v : Unit) (h' : am_H), am_stat h → g_X9_readPage n 0 a1 x2i x3i x4i x5i h = some (v, h') → am_stat h') := by
  induction n with
  | zero => exact fun a1 x2i x3i x4i x5i h v h' hs hf => (by cases hf)
  | succ n ih =>
    skip
    · intro a1 x2i x3i x4i x5i h v h' hs hf
      have hf : (am_let (Option.bind ((if x4i = (am_I (am_sI h 51 14 x4i) 51 0) then (if x2i ≤ (Int32.ofInt 2) then some (Int32.ofInt 0) else (if x3i = 0 then some (Int32.ofInt 1) else some (Int32.ofInt 0))) else some (Int32.ofInt 0))) fun y4 => (bif am_b01 y4 then (some ((), (am_sI (am_sI h 51 14 x4i) 51 15 y4))) else none)) fun b1 => ((if (am_I h 51 0) ≤ x4i then b1 else (if x5i = 0 then b1 else bif am_vp x4i 60 then (am_b2 ((if a1 = 0 then (if (am_I h 52 (Int32.toNatClampNeg x4i)) = (Int32.ofInt 33) then some ((Int32.ofInt 1), h) else (if (am_I h 52 (Int32.toNatClampNeg x4i)) = (Int32.ofInt 63) then some ((Int32.ofInt 1), h) else some ((Int32.ofInt 0), h))) else am_b2 (f_X9_isOfficeSign (am_I h 52 (Int32.toNatClampNeg x4i)) h) fun r13 h14 => (some (r13, h14)))) fun y7 h8 => (am_b2 ((if x2i = (Int32.ofInt 1) then am_b2 (f_X9_isOfficeSign (am_I h 52 (Int32.toNatClampNeg x4i)) h8) fun r70 h71 => ((if r70 = 0 then some ((Int32.ofInt 0), h71) else (if a1 = 0 then some ((Int32.ofInt 1), h71) else bif am_vp (x4i - (Int32.ofInt 1)) 60 then ((if (am_I h 52 (Int32.toNatClampNeg x4i)) = (am_I h71 52 (Int32.toNatClampNeg (x4i - (Int32.ofInt 1)))) then some ((Int32.ofInt 0), h71) else some ((Int32.ofInt 1), h71))) else none))) else some ((Int32.ofInt 0), h8))) fun y66 h67 => (am_b4 (am_let (am_let (am_let ((if x2i = (Int32.ofInt 2) then am_b2 (f_X9_isLetterSign (am_I h 52 (Int32.toNatClampNeg x4i)) h67) fun r142 h143 => ((if r142 = 0 then am_let (am_let ((if x2i = (Int32.ofInt 4) then (if (am_I h 52 (Int32.toNatClampNeg x4i)) = (Int32.ofInt 42) then some ((Int32.ofInt 3), x3i, (Int32.ofInt 1), h143) else some (x2i, x3i, (Int32.ofInt 0), h143)) else some (x2i, x3i, (Int32.ofInt 0), h143))) fun b149 => ((if x2i ≤ (Int32.ofInt 2) then b149 else (if (am_I h 52 (Int32.toNatClampNeg x4i)) = (Int32.ofInt 125) then (if x3i ≤ 0 then b149 else some ((Int32.ofInt 4), (x3i + Int32.ofInt (-1)), (Int32.ofInt 1), h143)) else b149)))) fun b146 => ((if x2i ≤ (Int32.ofInt 2) then b146 else (if (am_I h 52 (Int32.toNatClampNeg x4i)) = (Int32.ofInt 59) then some ((Int32.ofInt 0), x3i, (Int32.ofInt 1), h143) else (if (am_I h 52 (Int32.toNatClampNeg x4i)) = (Int32.ofInt 43) then (if x3i ≤ 0 then b146 else some ((Int32.ofInt 0), x3i, (Int32.ofInt 1), h143)) else b146)))) else some ((Int32.ofInt 3), x3i, (Int32.ofInt 1), h143))) else am_let (am_let ((if x2i = (Int32.ofInt 4) then (if (am_I h 52 (Int32.toNatClampNeg x4i)) = (Int32.ofInt 42) then some ((Int32.ofInt 3), x3i, (Int32.ofInt 1), h67) else some (x2i, x3i, (Int32.ofInt 0), h67)) else some (x2i, x3i, (Int32.ofInt 0), h67))) fun b164 => ((if x2i ≤ (Int32.ofInt 2) then b164 else (if (am_I h 52 (Int32.toNatClampNeg x4i)) = (Int32.ofInt 125) then (if x3i ≤ 0 then b164 else some ((Int32.ofInt 4), (x3i + Int32.ofInt (-1)), (Int32.ofInt 1), h67)) else b164)))) fun b161 => ((if x2i ≤ (Int32.ofInt 2) then b161 else (if (am_I h 52 (Int32.toNatClampNeg x4i)) = (Int32.ofInt 59) then some ((Int32.ofInt 0), x3i, (Int32.ofInt 1), h67) else (if (am_I h 52 (Int32.toNatClampNeg x4i)) = (Int32.ofInt 43) then (if x3i ≤ 0 then b161 else some ((Int32.ofInt 0), x3i, (Int32.ofInt 1), h67)) else b161)))))) fun b138 => ((if x2i = (Int32.ofInt 1) then (if y66 = 0 then b138 else some ((Int32.ofInt 2), x3i, (Int32.ofInt 1), h67)) else b138))) fun b135 => ((if x2i = 0 then (if (am_I h 52 (Int32.toNatClampNeg x4i)) = (Int32.ofInt 123) then some (x2i, (x3i + Int32.ofInt 1), (Int32.ofInt 1), h67) else b135) else b135))) fun b132 => ((if x2i = 0 then (if y7 = 0 then b132 else some ((Int32.ofInt 1), x3i, (Int32.ofInt 1), h67)) else b132))) fun y127 y128 y129 h130 => (Option.bind ((if y129 = 0 then some (Int32.ofInt 0) else some (Int32.ofInt 1))) fun y232 => (g_X9_readPage n 0 a1 y127 y128 (x4i + y232) y129 h130))))) else none)))) = some (v, h') := hf
      obtain ⟨b1, k2, hf⟩ := am_let_ok hf
      refine am_cut (P := (Option.bind ((if x4i = (am_I (am_sI h 51 14 x4i) 51 0) then (if x2i ≤ (Int32.ofInt 2) then some (Int32.ofInt 0) else (if x3i = 0 then some (Int32.ofInt 1) else some (Int32.ofInt 0))) else some (Int32.ofInt 0))) fun y4 => (bif am_b01 y4 then (some ((), (am_sI (am_sI h 51 14 x4i) 51 15 y4))) else none)) = some (v, h') → am_stat h') (fun B3 => ?_) ?_
      · skip
        by_cases c4 : (am_I h 51 0) ≤ x4i
        · rw [if_pos c4] at hf
          exact B3 (k2.symm.trans hf)
        · rw [if_neg c4] at hf
          by_cases c5 : x5i = 0
          · rw [if_pos c5] at hf
            exact B3 (k2.symm.trans hf)
          · rw [if_neg c5] at hf
            obtain ⟨b6, hf⟩ := am_bis hf
            obtain ⟨y7, h8, j9, hf⟩ := am_b2_ok hf
            have hs0 := hs
            have hs : am_stat h8 := by
              have hs := hs0
              by_cases c10 : a1 = 0
              · rw [if_pos c10] at j9
                by_cases c11 : (am_I h 52 (Int32.toNatClampNeg x4i)) = (Int32.ofInt 33)
                · rw [if_pos c11] at j9
                  obtain ⟨rfl, rfl⟩ := am_i2 j9
                  exact hs
                · rw [if_neg c11] at j9
                  by_cases c12 : (am_I h 52 (Int32.toNatClampNeg x4i)) = (Int32.ofInt 63)
                  · rw [if_pos c12] at j9
                    obtain ⟨rfl, rfl⟩ := am_i2 j9
                    exact hs
                  · rw [if_neg c12] at j9
                    obtain ⟨rfl, rfl⟩ := am_i2 j9
                    exact hs
              · rw [if_neg c10] at j9
                obtain ⟨r13, h14, e15, j9⟩ := am_b2_ok j9
                have hs := s_X9_isOfficeSign (am_I h 52 (Int32.toNatClampNeg x4i)) h hs e15
                obtain ⟨rfl, rfl⟩ := am_i2 j9
                exact hs
            obtain ⟨y66, h67, j68, hf⟩ := am_b2_ok hf
            have hs0 := hs
            have hs : am_stat h67 := by
              have hs := hs0
              by_cases c69 : x2i = (Int32.ofInt 1)
              · rw [if_pos c69] at j68
                obtain ⟨r70, h71, e72, j68⟩ := am_b2_ok j68
                have hs := s_X9_isOfficeSign (am_I h 52 (Int32.toNatClampNeg x4i)) h8 hs e72
                by_cases c73 : r70 = 0
                · rw [if_pos c73] at j68
                  obtain ⟨rfl, rfl⟩ := am_i2 j68
                  exact hs
                · rw [if_neg c73] at j68
                  by_cases c74 : a1 = 0
                  · rw [if_pos c74] at j68
                    obtain ⟨rfl, rfl⟩ := am_i2 j68
                    exact hs
                  · rw [if_neg c74] at j68
                    obtain ⟨b75, j68⟩ := am_bis j68
                    by_cases c76 : (am_I h 52 (Int32.toNatClampNeg x4i)) = (am_I h71 52 (Int32.toNatClampNeg (x4i - (Int32.ofInt 1))))
                    · rw [if_pos c76] at j68
                      obtain ⟨rfl, rfl⟩ := am_i2 j68
                      exact hs
                    · rw [if_neg c76] at j68
                      obtain ⟨rfl, rfl⟩ := am_i2 j68
                      exact hs
              · rw [if_neg c69] at j68
                obtain ⟨rfl, rfl⟩ := am_i2 j68
                exact hs
            obtain ⟨y127, y128, y129, h130, j131, hf⟩ := am_b4_ok hf
            have hs0 := hs
            have hs : am_stat h130 := by
              have hs := hs0
              obtain ⟨b132, k133, j131⟩ := am_let_ok j131
              refine am_cut (P := (am_let (am_let ((if x2i = (Int32.ofInt 2) then am_b2 (f_X9_isLetterSign (am_I h 52 (Int32.toNatClampNeg x4i)) h67) fun r142 h143 => ((if r142 = 0 then am_let (am_let ((if x2i = (Int32.ofInt 4) then (if (am_I h 52 (Int32.toNatClampNeg x4i)) = (Int32.ofInt 42) then some ((Int32.ofInt 3), x3i, (Int32.ofInt 1), h143) else some (x2i, x3i, (Int32.ofInt 0), h143)) else some (x2i, x3i, (Int32.ofInt 0), h143))) fun b149 => ((if x2i ≤ (Int32.ofInt 2) then b149 else (if (am_I h 52 (Int32.toNatClampNeg x4i)) = (Int32.ofInt 125) then (if x3i ≤ 0 then b149 else some ((Int32.ofInt 4), (x3i + Int32.ofInt (-1)), (Int32.ofInt 1), h143)) else b149)))) fun b146 => ((if x2i ≤ (Int32.ofInt 2) then b146 else (if (am_I h 52 (Int32.toNatClampNeg x4i)) = (Int32.ofInt 59) then some ((Int32.ofInt 0), x3i, (Int32.ofInt 1), h143) else (if (am_I h 52 (Int32.toNatClampNeg x4i)) = (Int32.ofInt 43) then (if x3i ≤ 0 then b146 else some ((Int32.ofInt 0), x3i, (Int32.ofInt 1), h143)) else b146)))) else some ((Int32.ofInt 3), x3i, (Int32.ofInt 1), h143))) else am_let (am_let ((if x2i = (Int32.ofInt 4) then (if (am_I h 52 (Int32.toNatClampNeg x4i)) = (Int32.ofInt 42) then some ((Int32.ofInt 3), x3i, (Int32.ofInt 1), h67) else some (x2i, x3i, (Int32.ofInt 0), h67)) else some (x2i, x3i, (Int32.ofInt 0), h67))) fun b164 => ((if x2i ≤ (Int32.ofInt 2) then b164 else (if (am_I h 52 (Int32.toNatClampNeg x4i)) = (Int32.ofInt 125) then (if x3i ≤ 0 then b164 else some ((Int32.ofInt 4), (x3i + Int32.ofInt (-1)), (Int32.ofInt 1), h67)) else b164)))) fun b161 => ((if x2i ≤ (Int32.ofInt 2) then b161 else (if (am_I h 52 (Int32.toNatClampNeg x4i)) = (Int32.ofInt 59) then some ((Int32.ofInt 0), x3i, (Int32.ofInt 1), h67) else (if (am_I h 52 (Int32.toNatClampNeg x4i)) = (Int32.ofInt 43) then (if x3i ≤ 0 then b161 else some ((Int32.ofInt 0), x3i, (Int32.ofInt 1), h67)) else b161)))))) fun b138 => ((if x2i = (Int32.ofInt 1) then (if y66 = 0 then b138 else some ((Int32.ofInt 2), x3i, (Int32.ofInt 1), h67)) else b138))) fun b135 => ((if x2i = 0 then (if (am_I h 52 (Int32.toNatClampNeg x4i)) = (Int32.ofInt 123) then some (x2i, (x3i + Int32.ofInt 1), (Int32.ofInt 1), h67) else b135) else b135))) = some (y127, y128, y129, h130) → am_stat h130) (fun B134 => ?_) ?_
              · skip
                by_cases c135 : x2i = 0
                · rw [if_pos c135] at j131
                  by_cases c136 : y7 = 0
                  · rw [if_pos c136] at j131
                    exact B134 (k133.symm.trans j131)
                  · rw [if_neg c136] at j131
                    obtain ⟨rfl, rfl, rfl, rfl⟩ := am_i4 j131
                    exact hs
                · rw [if_neg c135] at j131
                  exact B134 (k133.symm.trans j131)
              intro j131
              obtain ⟨b137, k138, j131⟩ := am_let_ok j131
              refine am_cut (P := (am_let ((if x2i = (Int32.ofInt 2) then am_b2 (f_X9_isLetterSign (am_I h 52 (Int32.toNatClampNeg x4i)) h67) fun r144 h145 => ((if r144 = 0 then am_let (am_let ((if x2i = (Int32.ofInt 4) then (if (am_I h 52 (Int32.toNatClampNeg x4i)) = (Int32.ofInt 42) then some ((Int32.ofInt 3), x3i, (Int32.ofInt 1), h145) else some (x2i, x3i, (Int32.ofInt 0), h145)) else some (x2i, x3i, (Int32.ofInt 0), h145))) fun b151 => ((if x2i ≤ (Int32.ofInt 2) then b151 else (if (am_I h 52 (Int32.toNatClampNeg x4i)) = (Int32.ofInt 125) then (if x3i ≤ 0 then b151 else some ((Int32.ofInt 4), (x3i + Int32.ofInt (-1)), (Int32.ofInt 1), h145)) else b151)))) fun b148 => ((if x2i ≤ (Int32.ofInt 2) then b148 else (if (am_I h 52 (Int32.toNatClampNeg x4i)) = (Int32.ofInt 59) then some ((Int32.ofInt 0), x3i, (Int32.ofInt 1), h145) else (if (am_I h 52 (Int32.toNatClampNeg x4i)) = (Int32.ofInt 43) then (if x3i ≤ 0 then b148 else some ((Int32.ofInt 0), x3i, (Int32.ofInt 1), h145)) else b148)))) else some ((Int32.ofInt 3), x3i, (Int32.ofInt 1), h145))) else am_let (am_let ((if x2i = (Int32.ofInt 4) then (if (am_I h 52 (Int32.toNatClampNeg x4i)) = (Int32.ofInt 42) then some ((Int32.ofInt 3), x3i, (Int32.ofInt 1), h67) else some (x2i, x3i, (Int32.ofInt 0), h67)) else some (x2i, x3i, (Int32.ofInt 0), h67))) fun b166 => ((if x2i ≤ (Int32.ofInt 2) then b166 else (if (am_I h 52 (Int32.toNatClampNeg x4i)) = (Int32.ofInt 125) then (if x3i ≤ 0 then b166 else some ((Int32.ofInt 4), (x3i + Int32.ofInt (-1)), (Int32.ofInt 1), h67)) else b166)))) fun b163 => ((if x2i ≤ (Int32.ofInt 2) then b163 else (if (am_I h 52 (Int32.toNatClampNeg x4i)) = (Int32.ofInt 59) then some ((Int32.ofInt 0), x3i, (Int32.ofInt 1), h67) else (if (am_I h 52 (Int32.toNatClampNeg x4i)) = (Int32.ofInt 43) then (if x3i ≤ 0 then b163 else some ((Int32.ofInt 0), x3i, (Int32.ofInt 1), h67)) else b163)))))) fun b140 => ((if x2i = (Int32.ofInt 1) then (if y66 = 0 then b140 else some ((Int32.ofInt 2), x3i, (Int32.ofInt 1), h67)) else b140))) = some (y127, y128, y129, h130) → am_stat h130) (fun B139 => ?_) ?_
              · skip
                by_cases c140 : x2i = 0
                · rw [if_pos c140] at j131
                  by_cases c141 : (am_I h 52 (Int32.toNatClampNeg x4i)) = (Int32.ofInt 123)
                  · rw [if_pos c141] at j131
                    obtain ⟨rfl, rfl, rfl, rfl⟩ := am_i4 j131
                    exact hs
                  · rw [if_neg c141] at j131
                    exact B139 (k138.symm.trans j131)
                · rw [if_neg c140] at j131
                  exact B139 (k138.symm.trans j131)
              intro j131
              obtain ⟨b142, k143, j131⟩ := am_let_ok j131
              refine am_cut (P := ((if x2i = (Int32.ofInt 2) then am_b2 (f_X9_isLetterSign (am_I h 52 (Int32.toNatClampNeg x4i)) h67) fun r146 h147 => ((if r146 = 0 then am_let (am_let ((if x2i = (Int32.ofInt 4) then (if (am_I h 52 (Int32.toNatClampNeg x4i)) = (Int32.ofInt 42) then some ((Int32.ofInt 3), x3i, (Int32.ofInt 1), h147) else some (x2i, x3i, (Int32.ofInt 0), h147)) else some (x2i, x3i, (Int32.ofInt 0), h147))) fun b153 => ((if x2i ≤ (Int32.ofInt 2) then b153 else (if (am_I h 52 (Int32.toNatClampNeg x4i)) = (Int32.ofInt 125) then (if x3i ≤ 0 then b153 else some ((Int32.ofInt 4), (x3i + Int32.ofInt (-1)), (Int32.ofInt 1), h147)) else b153)))) fun b150 => ((if x2i ≤ (Int32.ofInt 2) then b150 else (if (am_I h 52 (Int32.toNatClampNeg x4i)) = (Int32.ofInt 59) then some ((Int32.ofInt 0), x3i, (Int32.ofInt 1), h147) else (if (am_I h 52 (Int32.toNatClampNeg x4i)) = (Int32.ofInt 43) then (if x3i ≤ 0 then b150 else some ((Int32.ofInt 0), x3i, (Int32.ofInt 1), h147)) else b150)))) else some ((Int32.ofInt 3), x3i, (Int32.ofInt 1), h147))) else am_let (am_let ((if x2i = (Int32.ofInt 4) then (if (am_I h 52 (Int32.toNatClampNeg x4i)) = (Int32.ofInt 42) then some ((Int32.ofInt 3), x3i, (Int32.ofInt 1), h67) else some (x2i, x3i, (Int32.ofInt 0), h67)) else some (x2i, x3i, (Int32.ofInt 0), h67))) fun b168 => ((if x2i ≤ (Int32.ofInt 2) then b168 else (if (am_I h 52 (Int32.toNatClampNeg x4i)) = (Int32.ofInt 125) then (if x3i ≤ 0 then b168 else some ((Int32.ofInt 4), (x3i + Int32.ofInt (-1)), (Int32.ofInt 1), h67)) else b168)))) fun b165 => ((if x2i ≤ (Int32.ofInt 2) then b165 else (if (am_I h 52 (Int32.toNatClampNeg x4i)) = (Int32.ofInt 59) then some ((Int32.ofInt 0), x3i, (Int32.ofInt 1), h67) else (if (am_I h 52 (Int32.toNatClampNeg x4i)) = (Int32.ofInt 43) then (if x3i ≤ 0 then b165 else some ((Int32.ofInt 0), x3i, (Int32.ofInt 1), h67)) else b165)))))) = some (y127, y128, y129, h130) → am_stat h130) (fun B144 => ?_) ?_
              · skip
                by_cases c145 : x2i = (Int32.ofInt 1)
                · rw [if_pos c145] at j131
                  by_cases c146 : y66 = 0
                  · rw [if_pos c146] at j131
                    exact B144 (k143.symm.trans j131)
                  · rw [if_neg c146] at j131
                    obtain ⟨rfl, rfl, rfl, rfl⟩ := am_i4 j131
                    exact hs
                · rw [if_neg c145] at j131
                  exact B144 (k143.symm.trans j131)
              intro j131
              by_cases c147 : x2i = (Int32.ofInt 2)
              · rw [if_pos c147] at j131
                obtain ⟨r148, h149, e150, j131⟩ := am_b2_ok j131
                have hs := s_X9_isLetterSign (am_I h 52 (Int32.toNatClampNeg x4i)) h67 hs e150
                by_cases c151 : r148 = 0
                · rw [if_pos c151] at j131
                  obtain ⟨b152, k153, j131⟩ := am_let_ok j131
                  refine am_cut (P := (am_let ((if x2i = (Int32.ofInt 4) then (if (am_I h 52 (Int32.toNatClampNeg x4i)) = (Int32.ofInt 42) then some ((Int32.ofInt 3), x3i, (Int32.ofInt 1), h149) else some (x2i, x3i, (Int32.ofInt 0), h149)) else some (x2i, x3i, (Int32.ofInt 0), h149))) fun b155 => ((if x2i ≤ (Int32.ofInt 2) then b155 else (if (am_I h 52 (Int32.toNatClampNeg x4i)) = (Int32.ofInt 125) then (if x3i ≤ 0 then b155 else some ((Int32.ofInt 4), (x3i + Int32.ofInt (-1)), (Int32.ofInt 1), h149)) else b155)))) = some (y127, y128, y129, h130) → am_stat h130) (fun B154 => ?_) ?_
                  · skip
                    by_cases c155 : x2i ≤ (Int32.ofInt 2)
                    · rw [if_pos c155] at j131
                      exact B154 (k153.symm.trans j131)
                    · rw [if_neg c155] at j131
                      by_cases c156 : (am_I h 52 (Int32.toNatClampNeg x4i)) = (Int32.ofInt 59)
                      · rw [if_pos c156] at j131
                        obtain ⟨rfl, rfl, rfl, rfl⟩ := am_i4 j131
                        exact hs
                      · rw [if_neg c156] at j131
                        by_cases c157 : (am_I h 52 (Int32.toNatClampNeg x4i)) = (Int32.ofInt 43)
                        · rw [if_pos c157] at j131
                          by_cases c158 : x3i ≤ 0
                          · rw [if_pos c158] at j131
                            exact B154 (k153.symm.trans j131)
                          · rw [if_neg c158] at j131
                            obtain ⟨rfl, rfl, rfl, rfl⟩ := am_i4 j131
                            exact hs
                        · rw [if_neg c157] at j131
                          exact B154 (k153.symm.trans j131)
                  intro j131
                  obtain ⟨b159, k160, j131⟩ := am_let_ok j131
                  refine am_cut (P := ((if x2i = (Int32.ofInt 4) then (if (am_I h 52 (Int32.toNatClampNeg x4i)) = (Int32.ofInt 42) then some ((Int32.ofInt 3), x3i, (Int32.ofInt 1), h149) else some (x2i, x3i, (Int32.ofInt 0), h149)) else some (x2i, x3i, (Int32.ofInt 0), h149))) = some (y127, y128, y129, h130) → am_stat h130) (fun B161 => ?_) ?_
                  · skip
                    by_cases c162 : x2i ≤ (Int32.ofInt 2)
                    · rw [if_pos c162] at j131
                      exact B161 (k160.symm.trans j131)
                    · rw [if_neg c162] at j131
                      by_cases c163 : (am_I h 52 (Int32.toNatClampNeg x4i)) = (Int32.ofInt 125)
                      · rw [if_pos c163] at j131
                        by_cases c164 : x3i ≤ 0
                        · rw [if_pos c164] at j131
                          exact B161 (k160.symm.trans j131)
                        · rw [if_neg c164] at j131
                          obtain ⟨rfl, rfl, rfl, rfl⟩ := am_i4 j131
                          exact hs
                      · rw [if_neg c163] at j131
                        exact B161 (k160.symm.trans j131)
                  intro j131
                  by_cases c165 : x2i = (Int32.ofInt 4)
                  · rw [if_pos c165] at j131
                    by_cases c166 : (am_I h 52 (Int32.toNatClampNeg x4i)) = (Int32.ofInt 42)
                    · rw [if_pos c166] at j131
                      obtain ⟨rfl, rfl, rfl, rfl⟩ := am_i4 j131
                      exact hs
                    · rw [if_neg c166] at j131
                      obtain ⟨rfl, rfl, rfl, rfl⟩ := am_i4 j131
                      exact hs
                  · rw [if_neg c165] at j131
                    obtain ⟨rfl, rfl, rfl, rfl⟩ := am_i4 j131
                    exact hs
                · rw [if_neg c151] at j131
                  obtain ⟨rfl, rfl, rfl, rfl⟩ := am_i4 j131
                  exact hs
              · rw [if_neg c147] at j131
                obtain ⟨b167, k168, j131⟩ := am_let_ok j131
                refine am_cut (P := (am_let ((if x2i = (Int32.ofInt 4) then (if (am_I h 52 (Int32.toNatClampNeg x4i)) = (Int32.ofInt 42) then some ((Int32.ofInt 3), x3i, (Int32.ofInt 1), h67) else some (x2i, x3i, (Int32.ofInt 0), h67)) else some (x2i, x3i, (Int32.ofInt 0), h67))) fun b170 => ((if x2i ≤ (Int32.ofInt 2) then b170 else (if (am_I h 52 (Int32.toNatClampNeg x4i)) = (Int32.ofInt 125) then (if x3i ≤ 0 then b170 else some ((Int32.ofInt 4), (x3i + Int32.ofInt (-1)), (Int32.ofInt 1), h67)) else b170)))) = some (y127, y128, y129, h130) → am_stat h130) (fun B169 => ?_) ?_
                · skip
                  by_cases c170 : x2i ≤ (Int32.ofInt 2)
                  · rw [if_pos c170] at j131
                    exact B169 (k168.symm.trans j131)
                  · rw [if_neg c170] at j131
                    by_cases c171 : (am_I h 52 (Int32.toNatClampNeg x4i)) = (Int32.ofInt 59)
                    · rw [if_pos c171] at j131
                      obtain ⟨rfl, rfl, rfl, rfl⟩ := am_i4 j131
                      exact hs
                    · rw [if_neg c171] at j131
                      by_cases c172 : (am_I h 52 (Int32.toNatClampNeg x4i)) = (Int32.ofInt 43)
                      · rw [if_pos c172] at j131
                        by_cases c173 : x3i ≤ 0
                        · rw [if_pos c173] at j131
                          exact B169 (k168.symm.trans j131)
                        · rw [if_neg c173] at j131
                          obtain ⟨rfl, rfl, rfl, rfl⟩ := am_i4 j131
                          exact hs
                      · rw [if_neg c172] at j131
                        exact B169 (k168.symm.trans j131)
                intro j131
                obtain ⟨b174, k175, j131⟩ := am_let_ok j131
                refine am_cut (P := ((if x2i = (Int32.ofInt 4) then (if (am_I h 52 (Int32.toNatClampNeg x4i)) = (Int32.ofInt 42) then some ((Int32.ofInt 3), x3i, (Int32.ofInt 1), h67) else some (x2i, x3i, (Int32.ofInt 0), h67)) else some (x2i, x3i, (Int32.ofInt 0), h67))) = some (y127, y128, y129, h130) → am_stat h130) (fun B176 => ?_) ?_
                · skip
                  by_cases c177 : x2i ≤ (Int32.ofInt 2)
                  · rw [if_pos c177] at j131
                    exact B176 (k175.symm.trans j131)
                  · rw [if_neg c177] at j131
                    by_cases c178 : (am_I h 52 (Int32.toNatClampNeg x4i)) = (Int32.ofInt 125)
                    · rw [if_pos c178] at j131
                      by_cases c179 : x3i ≤ 0
                      · rw [if_pos c179] at j131
                        exact B176 (k175.symm.trans j131)
                      · rw [if_neg c179] at j131
                        obtain ⟨rfl, rfl, rfl, rfl⟩ := am_i4 j131
                        exact hs
                    · rw [if_neg c178] at j131
                      exact B176 (k175.symm.trans j131)
                intro j131
                by_cases c180 : x2i = (Int32.ofInt 4)
                · rw [if_pos c180] at j131
                  by_cases c181 : (am_I h 52 (Int32.toNatClampNeg x4i)) = (Int32.ofInt 42)
                  · rw [if_pos c181] at j131
                    obtain ⟨rfl, rfl, rfl, rfl⟩ := am_i4 j131
                    exact hs
                  · rw [if_neg c181] at j131
                    obtain ⟨rfl, rfl, rfl, rfl⟩ := am_i4 j131
                    exact hs
                · rw [if_neg c180] at j131
                  obtain ⟨rfl, rfl, rfl, rfl⟩ := am_i4 j131
                  exact hs
            obtain ⟨y232, j233, hf⟩ := am_bnd hf
            exact ih a1 y127 y128 (x4i + y232) y129 h130 _ _ hs hf
      intro hf
      obtain ⟨y285, j286, hf⟩ := am_bnd hf
      obtain ⟨b340, hf⟩ := am_bis hf
      obtain ⟨rfl, rfl⟩ := am_i2 hf
      exact hs
set_option maxRecDepth 100000 in
set_option maxHeartbeats 4000000 in
theorem l_X9_readPage (n : Nat) : (∀ (a1 : Int32) (x2i : Int32) (x3i : Int32) (x4i : Int32) (x5i : Int32) (h : am_H) (v : Unit) (h' : am_H), am_stat h → g_X9_readPage n 0 a1 x2i x3i x4i x5i h = some (v, h') → AW mX9_readPage (rX9_readPage 0 0) (fun r h2 => r = none ∧ h2 = h') 10 [(0, .ref 51), (1, .int a1), (2, .int x2i), (3, .int x3i), (4, .int x4i), (5, .int x5i)] [] h 0 0) := by
  induction n with
  | zero => exact fun a1 x2i x3i x4i x5i h v h' hs hf => (by cases hf)
  | succ n ih =>
    skip
    · intro a1 x2i x3i x4i x5i h v h' hs hf
      have hf : (am_let (Option.bind ((if x4i = (am_I (am_sI h 51 14 x4i) 51 0) then (if x2i ≤ (Int32.ofInt 2) then some (Int32.ofInt 0) else (if x3i = 0 then some (Int32.ofInt 1) else some (Int32.ofInt 0))) else some (Int32.ofInt 0))) fun y4 => (bif am_b01 y4 then (some ((), (am_sI (am_sI h 51 14 x4i) 51 15 y4))) else none)) fun b1 => ((if (am_I h 51 0) ≤ x4i then b1 else (if x5i = 0 then b1 else bif am_vp x4i 60 then (am_b2 ((if a1 = 0 then (if (am_I h 52 (Int32.toNatClampNeg x4i)) = (Int32.ofInt 33) then some ((Int32.ofInt 1), h) else (if (am_I h 52 (Int32.toNatClampNeg x4i)) = (Int32.ofInt 63) then some ((Int32.ofInt 1), h) else some ((Int32.ofInt 0), h))) else am_b2 (f_X9_isOfficeSign (am_I h 52 (Int32.toNatClampNeg x4i)) h) fun r11 h12 => (some (r11, h12)))) fun y7 h8 => (am_b2 ((if x2i = (Int32.ofInt 1) then am_b2 (f_X9_isOfficeSign (am_I h 52 (Int32.toNatClampNeg x4i)) h8) fun r70 h71 => ((if r70 = 0 then some ((Int32.ofInt 0), h71) else (if a1 = 0 then some ((Int32.ofInt 1), h71) else bif am_vp (x4i - (Int32.ofInt 1)) 60 then ((if (am_I h 52 (Int32.toNatClampNeg x4i)) = (am_I h71 52 (Int32.toNatClampNeg (x4i - (Int32.ofInt 1)))) then some ((Int32.ofInt 0), h71) else some ((Int32.ofInt 1), h71))) else none))) else some ((Int32.ofInt 0), h8))) fun y66 h67 => (am_b4 (am_let (am_let (am_let ((if x2i = (Int32.ofInt 2) then am_b2 (f_X9_isLetterSign (am_I h 52 (Int32.toNatClampNeg x4i)) h67) fun r157 h158 => ((if r157 = 0 then am_let (am_let ((if x2i = (Int32.ofInt 4) then (if (am_I h 52 (Int32.toNatClampNeg x4i)) = (Int32.ofInt 42) then some ((Int32.ofInt 3), x3i, (Int32.ofInt 1), h158) else some (x2i, x3i, (Int32.ofInt 0), h158)) else some (x2i, x3i, (Int32.ofInt 0), h158))) fun b164 => ((if x2i ≤ (Int32.ofInt 2) then b164 else (if (am_I h 52 (Int32.toNatClampNeg x4i)) = (Int32.ofInt 125) then (if x3i ≤ 0 then b164 else some ((Int32.ofInt 4), (x3i + Int32.ofInt (-1)), (Int32.ofInt 1), h158)) else b164)))) fun b161 => ((if x2i ≤ (Int32.ofInt 2) then b161 else (if (am_I h 52 (Int32.toNatClampNeg x4i)) = (Int32.ofInt 59) then some ((Int32.ofInt 0), x3i, (Int32.ofInt 1), h158) else (if (am_I h 52 (Int32.toNatClampNeg x4i)) = (Int32.ofInt 43) then (if x3i ≤ 0 then b161 else some ((Int32.ofInt 0), x3i, (Int32.ofInt 1), h158)) else b161)))) else some ((Int32.ofInt 3), x3i, (Int32.ofInt 1), h158))) else am_let (am_let ((if x2i = (Int32.ofInt 4) then (if (am_I h 52 (Int32.toNatClampNeg x4i)) = (Int32.ofInt 42) then some ((Int32.ofInt 3), x3i, (Int32.ofInt 1), h67) else some (x2i, x3i, (Int32.ofInt 0), h67)) else some (x2i, x3i, (Int32.ofInt 0), h67))) fun b145 => ((if x2i ≤ (Int32.ofInt 2) then b145 else (if (am_I h 52 (Int32.toNatClampNeg x4i)) = (Int32.ofInt 125) then (if x3i ≤ 0 then b145 else some ((Int32.ofInt 4), (x3i + Int32.ofInt (-1)), (Int32.ofInt 1), h67)) else b145)))) fun b142 => ((if x2i ≤ (Int32.ofInt 2) then b142 else (if (am_I h 52 (Int32.toNatClampNeg x4i)) = (Int32.ofInt 59) then some ((Int32.ofInt 0), x3i, (Int32.ofInt 1), h67) else (if (am_I h 52 (Int32.toNatClampNeg x4i)) = (Int32.ofInt 43) then (if x3i ≤ 0 then b142 else some ((Int32.ofInt 0), x3i, (Int32.ofInt 1), h67)) else b142)))))) fun b138 => ((if x2i = (Int32.ofInt 1) then (if y66 = 0 then b138 else some ((Int32.ofInt 2), x3i, (Int32.ofInt 1), h67)) else b138))) fun b135 => ((if x2i = 0 then (if (am_I h 52 (Int32.toNatClampNeg x4i)) = (Int32.ofInt 123) then some (x2i, (x3i + Int32.ofInt 1), (Int32.ofInt 1), h67) else b135) else b135))) fun b132 => ((if x2i = 0 then (if y7 = 0 then b132 else some ((Int32.ofInt 1), x3i, (Int32.ofInt 1), h67)) else b132))) fun y127 y128 y129 h130 => (Option.bind ((if y129 = 0 then some (Int32.ofInt 0) else some (Int32.ofInt 1))) fun y232 => (g_X9_readPage n 0 a1 y127 y128 (x4i + y232) y129 h130))))) else none)))) = some (v, h') := hf
      refine AW_go okX9_readPage 3 ?_
      refine And.intro (sK hs 51) ?_
      obtain ⟨b1, k2, hf⟩ := am_let_ok hf
      refine am_cut (P := (Option.bind ((if x4i = (am_I (am_sI h 51 14 x4i) 51 0) then (if x2i ≤ (Int32.ofInt 2) then some (Int32.ofInt 0) else (if x3i = 0 then some (Int32.ofInt 1) else some (Int32.ofInt 0))) else some (Int32.ofInt 0))) fun y4 => (bif am_b01 y4 then (some ((), (am_sI (am_sI h 51 14 x4i) 51 15 y4))) else none)) = some (v, h') → AW mX9_readPage (rX9_readPage 0 0) (fun r h2 => r = none ∧ h2 = h') 261 [(0, .ref 51), (1, .int a1), (2, .int x2i), (3, .int x3i), (4, .int x4i), (5, .int x5i)] [] h 0 0) (fun B3 => ?_) ?_
      · skip
        refine AW_go okX9_readPage 1 ?_
        refine And.intro (fun c4 => ?_) (fun c4 => ?_)
        · rw [if_pos c4] at hf
          exact B3 (k2.symm.trans hf)
        · rw [if_neg c4] at hf
          refine AW_go okX9_readPage 2 ?_
          refine And.intro (fun c5 => ?_) (fun c5 => ?_)
          · rw [if_pos c5] at hf
            exact B3 (k2.symm.trans hf)
          · rw [if_neg c5] at hf
            obtain ⟨b6, hf⟩ := am_bis hf
            refine AW_go okX9_readPage 6 ?_
            refine And.intro (sK hs 51) (Exists.intro _ (And.intro (sA hs 51 1) ?_))
            refine Exists.intro 1 (Exists.intro 60 (And.intro (by decide) (And.intro (sK hs 52) (And.intro (am_vp_ok b6) ?_))))
            obtain ⟨y7, h8, j9, hf⟩ := am_b2_ok hf
            have hs0 := hs
            have hs : am_stat h8 := by
              have hs := hs0
              by_cases c10 : a1 = 0
              · rw [if_pos c10] at j9
                by_cases c11 : (am_I h 52 (Int32.toNatClampNeg x4i)) = (Int32.ofInt 33)
                · rw [if_pos c11] at j9
                  obtain ⟨rfl, rfl⟩ := am_i2 j9
                  exact hs
                · rw [if_neg c11] at j9
                  by_cases c12 : (am_I h 52 (Int32.toNatClampNeg x4i)) = (Int32.ofInt 63)
                  · rw [if_pos c12] at j9
                    obtain ⟨rfl, rfl⟩ := am_i2 j9
                    exact hs
                  · rw [if_neg c12] at j9
                    obtain ⟨rfl, rfl⟩ := am_i2 j9
                    exact hs
              · rw [if_neg c10] at j9
                obtain ⟨r13, h14, e15, j9⟩ := am_b2_ok j9
                have hs := s_X9_isOfficeSign (am_I h 52 (Int32.toNatClampNeg x4i)) h hs e15
                obtain ⟨rfl, rfl⟩ := am_i2 j9
                exact hs
            refine am_cut (P := AW mX9_readPage (rX9_readPage 0 0) (fun r h2 => r = none ∧ h2 = h') 64 [(0, .ref 51), (1, .int a1), (2, .int x2i), (3, .int x3i), (4, .int x4i), (5, .int x5i), (6, .int (am_I h 52 (Int32.toNatClampNeg x4i)))] [.int y7] h8 0 0) (fun hJ9 => ?_) ?_
            · have hs := hs0
              refine AW_go okX9_readPage 1 ?_
              refine And.intro (fun c10 => ?_) (fun c10 => ?_)
              · rw [if_neg c10] at j9
                refine AW_go okX9_readPage 1 ?_
                obtain ⟨r11, h12, e13, j9⟩ := am_b2_ok j9
                refine AW_callS (As := [.int (am_I h 52 (Int32.toNatClampNeg x4i))]) (R' := rX9_isOfficeSign 0 0) (okX9_readPage.1 61 _ _ rfl) lkX9_isOfficeSign (Or.inl kX9_138) rfl (Nat.le_of_ble_eq_true rfl) ⟨by decide, by decide⟩ ⟨(Nat.le_of_ble_eq_true rfl), (Nat.le_of_ble_eq_true rfl)⟩ (Nat.le_of_ble_eq_true rfl) (c_X9_isOfficeSign (am_I h 52 (Int32.toNatClampNeg x4i)) h hs e13) (fun r h' hq => ?_)
                obtain ⟨rfl, hq⟩ := hq
                replace hq := hq.symm
                subst hq
                have hs := s_X9_isOfficeSign (am_I h 52 (Int32.toNatClampNeg x4i)) h hs e13
                obtain ⟨rfl, rfl⟩ := am_i2 j9
                exact AW_pick [1, 2, 3, 4, 5, 6, 0] rfl hJ9
              · rw [if_pos c10] at j9
                refine AW_go okX9_readPage 3 ?_
                refine And.intro (fun c14 => ?_) (fun c14 => ?_)
                · rw [if_pos c14] at j9
                  refine AW_go okX9_readPage 2 ?_
                  obtain ⟨rfl, rfl⟩ := am_i2 j9
                  exact AW_pick [1, 2, 3, 4, 5, 6, 0] rfl hJ9
                · rw [if_neg c14] at j9
                  refine AW_go okX9_readPage 3 ?_
                  refine And.intro (fun c15 => ?_) (fun c15 => ?_)
                  · rw [if_neg c15] at j9
                    refine AW_go okX9_readPage 2 ?_
                    obtain ⟨rfl, rfl⟩ := am_i2 j9
                    exact AW_pick [1, 2, 3, 4, 5, 6, 0] rfl hJ9
                  · rw [if_pos c15] at j9
                    refine AW_go okX9_readPage 2 ?_
                    obtain ⟨rfl, rfl⟩ := am_i2 j9
                    exact AW_pick [1, 2, 3, 4, 5, 6, 0] rfl hJ9
            refine AW_go okX9_readPage 3 ?_
            obtain ⟨y66, h67, j68, hf⟩ := am_b2_ok hf
            have hs0 := hs
            have hs : am_stat h67 := by
              have hs := hs0
              by_cases c69 : x2i = (Int32.ofInt 1)
              · rw [if_pos c69] at j68
                obtain ⟨r70, h71, e72, j68⟩ := am_b2_ok j68
                have hs := s_X9_isOfficeSign (am_I h 52 (Int32.toNatClampNeg x4i)) h8 hs e72
                by_cases c73 : r70 = 0
                · rw [if_pos c73] at j68
                  obtain ⟨rfl, rfl⟩ := am_i2 j68
                  exact hs
                · rw [if_neg c73] at j68
                  by_cases c74 : a1 = 0
                  · rw [if_pos c74] at j68
                    obtain ⟨rfl, rfl⟩ := am_i2 j68
                    exact hs
                  · rw [if_neg c74] at j68
                    obtain ⟨b75, j68⟩ := am_bis j68
                    by_cases c76 : (am_I h 52 (Int32.toNatClampNeg x4i)) = (am_I h71 52 (Int32.toNatClampNeg (x4i - (Int32.ofInt 1))))
                    · rw [if_pos c76] at j68
                      obtain ⟨rfl, rfl⟩ := am_i2 j68
                      exact hs
                    · rw [if_neg c76] at j68
                      obtain ⟨rfl, rfl⟩ := am_i2 j68
                      exact hs
              · rw [if_neg c69] at j68
                obtain ⟨rfl, rfl⟩ := am_i2 j68
                exact hs
            refine am_cut (P := AW mX9_readPage (rX9_readPage 0 0) (fun r h2 => r = none ∧ h2 = h') 102 [(0, .ref 51), (1, .int a1), (2, .int x2i), (3, .int x3i), (4, .int x4i), (5, .int x5i), (6, .int (am_I h 52 (Int32.toNatClampNeg x4i))), (7, .int y7)] [.int y66] h67 0 0) (fun hJ68 => ?_) ?_
            · have hs := hs0
              refine AW_go okX9_readPage 1 ?_
              refine And.intro (fun c69 => ?_) (fun c69 => ?_)
              · rw [if_neg c69] at j68
                refine AW_go okX9_readPage 1 ?_
                obtain ⟨rfl, rfl⟩ := am_i2 j68
                exact AW_pick [1, 2, 3, 4, 5, 6, 7, 0] rfl hJ68
              · rw [if_pos c69] at j68
                refine AW_go okX9_readPage 1 ?_
                obtain ⟨r70, h71, e72, j68⟩ := am_b2_ok j68
                refine AW_callS (As := [.int (am_I h 52 (Int32.toNatClampNeg x4i))]) (R' := rX9_isOfficeSign 0 0) (okX9_readPage.1 73 _ _ rfl) lkX9_isOfficeSign (Or.inl kX9_138) rfl (Nat.le_of_ble_eq_true rfl) ⟨by decide, by decide⟩ ⟨(Nat.le_of_ble_eq_true rfl), (Nat.le_of_ble_eq_true rfl)⟩ (Nat.le_of_ble_eq_true rfl) (c_X9_isOfficeSign (am_I h 52 (Int32.toNatClampNeg x4i)) h8 hs e72) (fun r h' hq => ?_)
                obtain ⟨rfl, hq⟩ := hq
                replace hq := hq.symm
                subst hq
                have hs := s_X9_isOfficeSign (am_I h 52 (Int32.toNatClampNeg x4i)) h8 hs e72
                refine AW_go okX9_readPage 1 ?_
                refine And.intro (fun c73 => ?_) (fun c73 => ?_)
                · rw [if_pos c73] at j68
                  refine AW_go okX9_readPage 1 ?_
                  obtain ⟨rfl, rfl⟩ := am_i2 j68
                  exact AW_pick [1, 2, 3, 4, 5, 6, 7, 0] rfl hJ68
                · rw [if_neg c73] at j68
                  refine AW_go okX9_readPage 2 ?_
                  refine And.intro (fun c74 => ?_) (fun c74 => ?_)
                  · rw [if_pos c74] at j68
                    refine AW_go okX9_readPage 2 ?_
                    obtain ⟨rfl, rfl⟩ := am_i2 j68
                    exact AW_pick [1, 2, 3, 4, 5, 6, 7, 0] rfl hJ68
                  · rw [if_neg c74] at j68
                    obtain ⟨b75, j68⟩ := am_bis j68
                    refine AW_go okX9_readPage 8 ?_
                    refine And.intro (sK hs 51) (Exists.intro _ (And.intro (sA hs 51 1) ?_))
                    refine Exists.intro 1 (Exists.intro 60 (And.intro (by decide) (And.intro (sK hs 52) (And.intro (am_vp_ok b75) ?_))))
                    refine And.intro (fun c76 => ?_) (fun c76 => ?_)
                    · rw [if_pos c76] at j68
                      refine AW_go okX9_readPage 1 ?_
                      obtain ⟨rfl, rfl⟩ := am_i2 j68
                      exact AW_pick [1, 2, 3, 4, 5, 6, 7, 0] rfl hJ68
                    · rw [if_neg c76] at j68
                      refine AW_go okX9_readPage 2 ?_
                      obtain ⟨rfl, rfl⟩ := am_i2 j68
                      exact AW_pick [1, 2, 3, 4, 5, 6, 7, 0] rfl hJ68
            refine AW_go okX9_readPage 4 ?_
            obtain ⟨y127, y128, y129, h130, j131, hf⟩ := am_b4_ok hf
            have hs0 := hs
            have hs : am_stat h130 := by
              have hs := hs0
              obtain ⟨b132, k133, j131⟩ := am_let_ok j131
              refine am_cut (P := (am_let (am_let ((if x2i = (Int32.ofInt 2) then am_b2 (f_X9_isLetterSign (am_I h 52 (Int32.toNatClampNeg x4i)) h67) fun r142 h143 => ((if r142 = 0 then am_let (am_let ((if x2i = (Int32.ofInt 4) then (if (am_I h 52 (Int32.toNatClampNeg x4i)) = (Int32.ofInt 42) then some ((Int32.ofInt 3), x3i, (Int32.ofInt 1), h143) else some (x2i, x3i, (Int32.ofInt 0), h143)) else some (x2i, x3i, (Int32.ofInt 0), h143))) fun b149 => ((if x2i ≤ (Int32.ofInt 2) then b149 else (if (am_I h 52 (Int32.toNatClampNeg x4i)) = (Int32.ofInt 125) then (if x3i ≤ 0 then b149 else some ((Int32.ofInt 4), (x3i + Int32.ofInt (-1)), (Int32.ofInt 1), h143)) else b149)))) fun b146 => ((if x2i ≤ (Int32.ofInt 2) then b146 else (if (am_I h 52 (Int32.toNatClampNeg x4i)) = (Int32.ofInt 59) then some ((Int32.ofInt 0), x3i, (Int32.ofInt 1), h143) else (if (am_I h 52 (Int32.toNatClampNeg x4i)) = (Int32.ofInt 43) then (if x3i ≤ 0 then b146 else some ((Int32.ofInt 0), x3i, (Int32.ofInt 1), h143)) else b146)))) else some ((Int32.ofInt 3), x3i, (Int32.ofInt 1), h143))) else am_let (am_let ((if x2i = (Int32.ofInt 4) then (if (am_I h 52 (Int32.toNatClampNeg x4i)) = (Int32.ofInt 42) then some ((Int32.ofInt 3), x3i, (Int32.ofInt 1), h67) else some (x2i, x3i, (Int32.ofInt 0), h67)) else some (x2i, x3i, (Int32.ofInt 0), h67))) fun b164 => ((if x2i ≤ (Int32.ofInt 2) then b164 else (if (am_I h 52 (Int32.toNatClampNeg x4i)) = (Int32.ofInt 125) then (if x3i ≤ 0 then b164 else some ((Int32.ofInt 4), (x3i + Int32.ofInt (-1)), (Int32.ofInt 1), h67)) else b164)))) fun b161 => ((if x2i ≤ (Int32.ofInt 2) then b161 else (if (am_I h 52 (Int32.toNatClampNeg x4i)) = (Int32.ofInt 59) then some ((Int32.ofInt 0), x3i, (Int32.ofInt 1), h67) else (if (am_I h 52 (Int32.toNatClampNeg x4i)) = (Int32.ofInt 43) then (if x3i ≤ 0 then b161 else some ((Int32.ofInt 0), x3i, (Int32.ofInt 1), h67)) else b161)))))) fun b138 => ((if x2i = (Int32.ofInt 1) then (if y66 = 0 then b138 else some ((Int32.ofInt 2), x3i, (Int32.ofInt 1), h67)) else b138))) fun b135 => ((if x2i = 0 then (if (am_I h 52 (Int32.toNatClampNeg x4i)) = (Int32.ofInt 123) then some (x2i, (x3i + Int32.ofInt 1), (Int32.ofInt 1), h67) else b135) else b135))) = some (y127, y128, y129, h130) → am_stat h130) (fun B134 => ?_) ?_
              · skip
                by_cases c135 : x2i = 0
                · rw [if_pos c135] at j131
                  by_cases c136 : y7 = 0
                  · rw [if_pos c136] at j131
                    exact B134 (k133.symm.trans j131)
                  · rw [if_neg c136] at j131
                    obtain ⟨rfl, rfl, rfl, rfl⟩ := am_i4 j131
                    exact hs
                · rw [if_neg c135] at j131
                  exact B134 (k133.symm.trans j131)
              intro j131
              obtain ⟨b137, k138, j131⟩ := am_let_ok j131
              refine am_cut (P := (am_let ((if x2i = (Int32.ofInt 2) then am_b2 (f_X9_isLetterSign (am_I h 52 (Int32.toNatClampNeg x4i)) h67) fun r144 h145 => ((if r144 = 0 then am_let (am_let ((if x2i = (Int32.ofInt 4) then (if (am_I h 52 (Int32.toNatClampNeg x4i)) = (Int32.ofInt 42) then some ((Int32.ofInt 3), x3i, (Int32.ofInt 1), h145) else some (x2i, x3i, (Int32.ofInt 0), h145)) else some (x2i, x3i, (Int32.ofInt 0), h145))) fun b151 => ((if x2i ≤ (Int32.ofInt 2) then b151 else (if (am_I h 52 (Int32.toNatClampNeg x4i)) = (Int32.ofInt 125) then (if x3i ≤ 0 then b151 else some ((Int32.ofInt 4), (x3i + Int32.ofInt (-1)), (Int32.ofInt 1), h145)) else b151)))) fun b148 => ((if x2i ≤ (Int32.ofInt 2) then b148 else (if (am_I h 52 (Int32.toNatClampNeg x4i)) = (Int32.ofInt 59) then some ((Int32.ofInt 0), x3i, (Int32.ofInt 1), h145) else (if (am_I h 52 (Int32.toNatClampNeg x4i)) = (Int32.ofInt 43) then (if x3i ≤ 0 then b148 else some ((Int32.ofInt 0), x3i, (Int32.ofInt 1), h145)) else b148)))) else some ((Int32.ofInt 3), x3i, (Int32.ofInt 1), h145))) else am_let (am_let ((if x2i = (Int32.ofInt 4) then (if (am_I h 52 (Int32.toNatClampNeg x4i)) = (Int32.ofInt 42) then some ((Int32.ofInt 3), x3i, (Int32.ofInt 1), h67) else some (x2i, x3i, (Int32.ofInt 0), h67)) else some (x2i, x3i, (Int32.ofInt 0), h67))) fun b166 => ((if x2i ≤ (Int32.ofInt 2) then b166 else (if (am_I h 52 (Int32.toNatClampNeg x4i)) = (Int32.ofInt 125) then (if x3i ≤ 0 then b166 else some ((Int32.ofInt 4), (x3i + Int32.ofInt (-1)), (Int32.ofInt 1), h67)) else b166)))) fun b163 => ((if x2i ≤ (Int32.ofInt 2) then b163 else (if (am_I h 52 (Int32.toNatClampNeg x4i)) = (Int32.ofInt 59) then some ((Int32.ofInt 0), x3i, (Int32.ofInt 1), h67) else (if (am_I h 52 (Int32.toNatClampNeg x4i)) = (Int32.ofInt 43) then (if x3i ≤ 0 then b163 else some ((Int32.ofInt 0), x3i, (Int32.ofInt 1), h67)) else b163)))))) fun b140 => ((if x2i = (Int32.ofInt 1) then (if y66 = 0 then b140 else some ((Int32.ofInt 2), x3i, (Int32.ofInt 1), h67)) else b140))) = some (y127, y128, y129, h130) → am_stat h130) (fun B139 => ?_) ?_
              · skip
                by_cases c140 : x2i = 0
                · rw [if_pos c140] at j131
                  by_cases c141 : (am_I h 52 (Int32.toNatClampNeg x4i)) = (Int32.ofInt 123)
                  · rw [if_pos c141] at j131
                    obtain ⟨rfl, rfl, rfl, rfl⟩ := am_i4 j131
                    exact hs
                  · rw [if_neg c141] at j131
                    exact B139 (k138.symm.trans j131)
                · rw [if_neg c140] at j131
                  exact B139 (k138.symm.trans j131)
              intro j131
              obtain ⟨b142, k143, j131⟩ := am_let_ok j131
              refine am_cut (P := ((if x2i = (Int32.ofInt 2) then am_b2 (f_X9_isLetterSign (am_I h 52 (Int32.toNatClampNeg x4i)) h67) fun r146 h147 => ((if r146 = 0 then am_let (am_let ((if x2i = (Int32.ofInt 4) then (if (am_I h 52 (Int32.toNatClampNeg x4i)) = (Int32.ofInt 42) then some ((Int32.ofInt 3), x3i, (Int32.ofInt 1), h147) else some (x2i, x3i, (Int32.ofInt 0), h147)) else some (x2i, x3i, (Int32.ofInt 0), h147))) fun b153 => ((if x2i ≤ (Int32.ofInt 2) then b153 else (if (am_I h 52 (Int32.toNatClampNeg x4i)) = (Int32.ofInt 125) then (if x3i ≤ 0 then b153 else some ((Int32.ofInt 4), (x3i + Int32.ofInt (-1)), (Int32.ofInt 1), h147)) else b153)))) fun b150 => ((if x2i ≤ (Int32.ofInt 2) then b150 else (if (am_I h 52 (Int32.toNatClampNeg x4i)) = (Int32.ofInt 59) then some ((Int32.ofInt 0), x3i, (Int32.ofInt 1), h147) else (if (am_I h 52 (Int32.toNatClampNeg x4i)) = (Int32.ofInt 43) then (if x3i ≤ 0 then b150 else some ((Int32.ofInt 0), x3i, (Int32.ofInt 1), h147)) else b150)))) else some ((Int32.ofInt 3), x3i, (Int32.ofInt 1), h147))) else am_let (am_let ((if x2i = (Int32.ofInt 4) then (if (am_I h 52 (Int32.toNatClampNeg x4i)) = (Int32.ofInt 42) then some ((Int32.ofInt 3), x3i, (Int32.ofInt 1), h67) else some (x2i, x3i, (Int32.ofInt 0), h67)) else some (x2i, x3i, (Int32.ofInt 0), h67))) fun b168 => ((if x2i ≤ (Int32.ofInt 2) then b168 else (if (am_I h 52 (Int32.toNatClampNeg x4i)) = (Int32.ofInt 125) then (if x3i ≤ 0 then b168 else some ((Int32.ofInt 4), (x3i + Int32.ofInt (-1)), (Int32.ofInt 1), h67)) else b168)))) fun b165 => ((if x2i ≤ (Int32.ofInt 2) then b165 else (if (am_I h 52 (Int32.toNatClampNeg x4i)) = (Int32.ofInt 59) then some ((Int32.ofInt 0), x3i, (Int32.ofInt 1), h67) else (if (am_I h 52 (Int32.toNatClampNeg x4i)) = (Int32.ofInt 43) then (if x3i ≤ 0 then b165 else some ((Int32.ofInt 0), x3i, (Int32.ofInt 1), h67)) else b165)))))) = some (y127, y128, y129, h130) → am_stat h130) (fun B144 => ?_) ?_
              · skip
                by_cases c145 : x2i = (Int32.ofInt 1)
                · rw [if_pos c145] at j131
                  by_cases c146 : y66 = 0
                  · rw [if_pos c146] at j131
                    exact B144 (k143.symm.trans j131)
                  · rw [if_neg c146] at j131
                    obtain ⟨rfl, rfl, rfl, rfl⟩ := am_i4 j131
                    exact hs
                · rw [if_neg c145] at j131
                  exact B144 (k143.symm.trans j131)
              intro j131
              by_cases c147 : x2i = (Int32.ofInt 2)
              · rw [if_pos c147] at j131
                obtain ⟨r148, h149, e150, j131⟩ := am_b2_ok j131
                have hs := s_X9_isLetterSign (am_I h 52 (Int32.toNatClampNeg x4i)) h67 hs e150
                by_cases c151 : r148 = 0
                · rw [if_pos c151] at j131
                  obtain ⟨b152, k153, j131⟩ := am_let_ok j131
                  refine am_cut (P := (am_let ((if x2i = (Int32.ofInt 4) then (if (am_I h 52 (Int32.toNatClampNeg x4i)) = (Int32.ofInt 42) then some ((Int32.ofInt 3), x3i, (Int32.ofInt 1), h149) else some (x2i, x3i, (Int32.ofInt 0), h149)) else some (x2i, x3i, (Int32.ofInt 0), h149))) fun b155 => ((if x2i ≤ (Int32.ofInt 2) then b155 else (if (am_I h 52 (Int32.toNatClampNeg x4i)) = (Int32.ofInt 125) then (if x3i ≤ 0 then b155 else some ((Int32.ofInt 4), (x3i + Int32.ofInt (-1)), (Int32.ofInt 1), h149)) else b155)))) = some (y127, y128, y129, h130) → am_stat h130) (fun B154 => ?_) ?_
                  · skip
                    by_cases c155 : x2i ≤ (Int32.ofInt 2)
                    · rw [if_pos c155] at j131
                      exact B154 (k153.symm.trans j131)
                    · rw [if_neg c155] at j131
                      by_cases c156 : (am_I h 52 (Int32.toNatClampNeg x4i)) = (Int32.ofInt 59)
                      · rw [if_pos c156] at j131
                        obtain ⟨rfl, rfl, rfl, rfl⟩ := am_i4 j131
                        exact hs
                      · rw [if_neg c156] at j131
                        by_cases c157 : (am_I h 52 (Int32.toNatClampNeg x4i)) = (Int32.ofInt 43)
                        · rw [if_pos c157] at j131
                          by_cases c158 : x3i ≤ 0
                          · rw [if_pos c158] at j131
                            exact B154 (k153.symm.trans j131)
                          · rw [if_neg c158] at j131
                            obtain ⟨rfl, rfl, rfl, rfl⟩ := am_i4 j131
                            exact hs
                        · rw [if_neg c157] at j131
                          exact B154 (k153.symm.trans j131)
                  intro j131
                  obtain ⟨b159, k160, j131⟩ := am_let_ok j131
                  refine am_cut (P := ((if x2i = (Int32.ofInt 4) then (if (am_I h 52 (Int32.toNatClampNeg x4i)) = (Int32.ofInt 42) then some ((Int32.ofInt 3), x3i, (Int32.ofInt 1), h149) else some (x2i, x3i, (Int32.ofInt 0), h149)) else some (x2i, x3i, (Int32.ofInt 0), h149))) = some (y127, y128, y129, h130) → am_stat h130) (fun B161 => ?_) ?_
                  · skip
                    by_cases c162 : x2i ≤ (Int32.ofInt 2)
                    · rw [if_pos c162] at j131
                      exact B161 (k160.symm.trans j131)
                    · rw [if_neg c162] at j131
                      by_cases c163 : (am_I h 52 (Int32.toNatClampNeg x4i)) = (Int32.ofInt 125)
                      · rw [if_pos c163] at j131
                        by_cases c164 : x3i ≤ 0
                        · rw [if_pos c164] at j131
                          exact B161 (k160.symm.trans j131)
                        · rw [if_neg c164] at j131
                          obtain ⟨rfl, rfl, rfl, rfl⟩ := am_i4 j131
                          exact hs
                      · rw [if_neg c163] at j131
                        exact B161 (k160.symm.trans j131)
                  intro j131
                  by_cases c165 : x2i = (Int32.ofInt 4)
                  · rw [if_pos c165] at j131
                    by_cases c166 : (am_I h 52 (Int32.toNatClampNeg x4i)) = (Int32.ofInt 42)
                    · rw [if_pos c166] at j131
                      obtain ⟨rfl, rfl, rfl, rfl⟩ := am_i4 j131
                      exact hs
                    · rw [if_neg c166] at j131
                      obtain ⟨rfl, rfl, rfl, rfl⟩ := am_i4 j131
                      exact hs
                  · rw [if_neg c165] at j131
                    obtain ⟨rfl, rfl, rfl, rfl⟩ := am_i4 j131
                    exact hs
                · rw [if_neg c151] at j131
                  obtain ⟨rfl, rfl, rfl, rfl⟩ := am_i4 j131
                  exact hs
              · rw [if_neg c147] at j131
                obtain ⟨b167, k168, j131⟩ := am_let_ok j131
                refine am_cut (P := (am_let ((if x2i = (Int32.ofInt 4) then (if (am_I h 52 (Int32.toNatClampNeg x4i)) = (Int32.ofInt 42) then some ((Int32.ofInt 3), x3i, (Int32.ofInt 1), h67) else some (x2i, x3i, (Int32.ofInt 0), h67)) else some (x2i, x3i, (Int32.ofInt 0), h67))) fun b170 => ((if x2i ≤ (Int32.ofInt 2) then b170 else (if (am_I h 52 (Int32.toNatClampNeg x4i)) = (Int32.ofInt 125) then (if x3i ≤ 0 then b170 else some ((Int32.ofInt 4), (x3i + Int32.ofInt (-1)), (Int32.ofInt 1), h67)) else b170)))) = some (y127, y128, y129, h130) → am_stat h130) (fun B169 => ?_) ?_
                · skip
                  by_cases c170 : x2i ≤ (Int32.ofInt 2)
                  · rw [if_pos c170] at j131
                    exact B169 (k168.symm.trans j131)
                  · rw [if_neg c170] at j131
                    by_cases c171 : (am_I h 52 (Int32.toNatClampNeg x4i)) = (Int32.ofInt 59)
                    · rw [if_pos c171] at j131
                      obtain ⟨rfl, rfl, rfl, rfl⟩ := am_i4 j131
                      exact hs
                    · rw [if_neg c171] at j131
                      by_cases c172 : (am_I h 52 (Int32.toNatClampNeg x4i)) = (Int32.ofInt 43)
                      · rw [if_pos c172] at j131
                        by_cases c173 : x3i ≤ 0
                        · rw [if_pos c173] at j131
                          exact B169 (k168.symm.trans j131)
                        · rw [if_neg c173] at j131
                          obtain ⟨rfl, rfl, rfl, rfl⟩ := am_i4 j131
                          exact hs
                      · rw [if_neg c172] at j131
                        exact B169 (k168.symm.trans j131)
                intro j131
                obtain ⟨b174, k175, j131⟩ := am_let_ok j131
                refine am_cut (P := ((if x2i = (Int32.ofInt 4) then (if (am_I h 52 (Int32.toNatClampNeg x4i)) = (Int32.ofInt 42) then some ((Int32.ofInt 3), x3i, (Int32.ofInt 1), h67) else some (x2i, x3i, (Int32.ofInt 0), h67)) else some (x2i, x3i, (Int32.ofInt 0), h67))) = some (y127, y128, y129, h130) → am_stat h130) (fun B176 => ?_) ?_
                · skip
                  by_cases c177 : x2i ≤ (Int32.ofInt 2)
                  · rw [if_pos c177] at j131
                    exact B176 (k175.symm.trans j131)
                  · rw [if_neg c177] at j131
                    by_cases c178 : (am_I h 52 (Int32.toNatClampNeg x4i)) = (Int32.ofInt 125)
                    · rw [if_pos c178] at j131
                      by_cases c179 : x3i ≤ 0
                      · rw [if_pos c179] at j131
                        exact B176 (k175.symm.trans j131)
                      · rw [if_neg c179] at j131
                        obtain ⟨rfl, rfl, rfl, rfl⟩ := am_i4 j131
                        exact hs
                    · rw [if_neg c178] at j131
                      exact B176 (k175.symm.trans j131)
                intro j131
                by_cases c180 : x2i = (Int32.ofInt 4)
                · rw [if_pos c180] at j131
                  by_cases c181 : (am_I h 52 (Int32.toNatClampNeg x4i)) = (Int32.ofInt 42)
                  · rw [if_pos c181] at j131
                    obtain ⟨rfl, rfl, rfl, rfl⟩ := am_i4 j131
                    exact hs
                  · rw [if_neg c181] at j131
                    obtain ⟨rfl, rfl, rfl, rfl⟩ := am_i4 j131
                    exact hs
                · rw [if_neg c180] at j131
                  obtain ⟨rfl, rfl, rfl, rfl⟩ := am_i4 j131
                  exact hs
            refine am_cut (P := AW mX9_readPage (rX9_readPage 0 0) (fun r h2 => r = none ∧ h2 = h') 243 [(0, .ref 51), (1, .int a1), (2, .int y127), (3, .int y128), (4, .int x4i), (5, .int y129), (6, .int (am_I h 52 (Int32.toNatClampNeg x4i))), (7, .int y7), (8, .int y66)] [] h130 0 0) (fun hJ131 => ?_) ?_
            · have hs := hs0
              obtain ⟨b132, k133, j131⟩ := am_let_ok j131
              refine am_cut (P := (am_let (am_let ((if x2i = (Int32.ofInt 2) then am_b2 (f_X9_isLetterSign (am_I h 52 (Int32.toNatClampNeg x4i)) h67) fun r157 h158 => ((if r157 = 0 then am_let (am_let ((if x2i = (Int32.ofInt 4) then (if (am_I h 52 (Int32.toNatClampNeg x4i)) = (Int32.ofInt 42) then some ((Int32.ofInt 3), x3i, (Int32.ofInt 1), h158) else some (x2i, x3i, (Int32.ofInt 0), h158)) else some (x2i, x3i, (Int32.ofInt 0), h158))) fun b164 => ((if x2i ≤ (Int32.ofInt 2) then b164 else (if (am_I h 52 (Int32.toNatClampNeg x4i)) = (Int32.ofInt 125) then (if x3i ≤ 0 then b164 else some ((Int32.ofInt 4), (x3i + Int32.ofInt (-1)), (Int32.ofInt 1), h158)) else b164)))) fun b161 => ((if x2i ≤ (Int32.ofInt 2) then b161 else (if (am_I h 52 (Int32.toNatClampNeg x4i)) = (Int32.ofInt 59) then some ((Int32.ofInt 0), x3i, (Int32.ofInt 1), h158) else (if (am_I h 52 (Int32.toNatClampNeg x4i)) = (Int32.ofInt 43) then (if x3i ≤ 0 then b161 else some ((Int32.ofInt 0), x3i, (Int32.ofInt 1), h158)) else b161)))) else some ((Int32.ofInt 3), x3i, (Int32.ofInt 1), h158))) else am_let (am_let ((if x2i = (Int32.ofInt 4) then (if (am_I h 52 (Int32.toNatClampNeg x4i)) = (Int32.ofInt 42) then some ((Int32.ofInt 3), x3i, (Int32.ofInt 1), h67) else some (x2i, x3i, (Int32.ofInt 0), h67)) else some (x2i, x3i, (Int32.ofInt 0), h67))) fun b145 => ((if x2i ≤ (Int32.ofInt 2) then b145 else (if (am_I h 52 (Int32.toNatClampNeg x4i)) = (Int32.ofInt 125) then (if x3i ≤ 0 then b145 else some ((Int32.ofInt 4), (x3i + Int32.ofInt (-1)), (Int32.ofInt 1), h67)) else b145)))) fun b142 => ((if x2i ≤ (Int32.ofInt 2) then b142 else (if (am_I h 52 (Int32.toNatClampNeg x4i)) = (Int32.ofInt 59) then some ((Int32.ofInt 0), x3i, (Int32.ofInt 1), h67) else (if (am_I h 52 (Int32.toNatClampNeg x4i)) = (Int32.ofInt 43) then (if x3i ≤ 0 then b142 else some ((Int32.ofInt 0), x3i, (Int32.ofInt 1), h67)) else b142)))))) fun b138 => ((if x2i = (Int32.ofInt 1) then (if y66 = 0 then b138 else some ((Int32.ofInt 2), x3i, (Int32.ofInt 1), h67)) else b138))) fun b135 => ((if x2i = 0 then (if (am_I h 52 (Int32.toNatClampNeg x4i)) = (Int32.ofInt 123) then some (x2i, (x3i + Int32.ofInt 1), (Int32.ofInt 1), h67) else b135) else b135))) = some (y127, y128, y129, h130) → AW mX9_readPage (rX9_readPage 0 0) (fun r h2 => r = none ∧ h2 = h') 121 [(5, .int (Int32.ofInt 1)), (8, .int y66), (0, .ref 51), (1, .int a1), (2, .int x2i), (3, .int x3i), (4, .int x4i), (6, .int (am_I h 52 (Int32.toNatClampNeg x4i))), (7, .int y7)] [] h67 0 0) (fun B134 => ?_) ?_
              · skip
                refine AW_go okX9_readPage 1 ?_
                refine And.intro (fun c135 => ?_) (fun c135 => ?_)
                · rw [if_neg c135] at j131
                  exact B134 (k133.symm.trans j131)
                · rw [if_pos c135] at j131
                  refine AW_go okX9_readPage 2 ?_
                  refine And.intro (fun c136 => ?_) (fun c136 => ?_)
                  · rw [if_pos c136] at j131
                    exact B134 (k133.symm.trans j131)
                  · rw [if_neg c136] at j131
                    refine AW_go okX9_readPage 3 ?_
                    obtain ⟨rfl, rfl, rfl, rfl⟩ := am_i4 j131
                    exact AW_pick [3, 4, 0, 5, 6, 1, 7, 8, 2] rfl hJ131
              intro j131
              refine AW_go okX9_readPage 1 ?_
              obtain ⟨b137, k138, j131⟩ := am_let_ok j131
              refine am_cut (P := (am_let ((if x2i = (Int32.ofInt 2) then am_b2 (f_X9_isLetterSign (am_I h 52 (Int32.toNatClampNeg x4i)) h67) fun r159 h160 => ((if r159 = 0 then am_let (am_let ((if x2i = (Int32.ofInt 4) then (if (am_I h 52 (Int32.toNatClampNeg x4i)) = (Int32.ofInt 42) then some ((Int32.ofInt 3), x3i, (Int32.ofInt 1), h160) else some (x2i, x3i, (Int32.ofInt 0), h160)) else some (x2i, x3i, (Int32.ofInt 0), h160))) fun b166 => ((if x2i ≤ (Int32.ofInt 2) then b166 else (if (am_I h 52 (Int32.toNatClampNeg x4i)) = (Int32.ofInt 125) then (if x3i ≤ 0 then b166 else some ((Int32.ofInt 4), (x3i + Int32.ofInt (-1)), (Int32.ofInt 1), h160)) else b166)))) fun b163 => ((if x2i ≤ (Int32.ofInt 2) then b163 else (if (am_I h 52 (Int32.toNatClampNeg x4i)) = (Int32.ofInt 59) then some ((Int32.ofInt 0), x3i, (Int32.ofInt 1), h160) else (if (am_I h 52 (Int32.toNatClampNeg x4i)) = (Int32.ofInt 43) then (if x3i ≤ 0 then b163 else some ((Int32.ofInt 0), x3i, (Int32.ofInt 1), h160)) else b163)))) else some ((Int32.ofInt 3), x3i, (Int32.ofInt 1), h160))) else am_let (am_let ((if x2i = (Int32.ofInt 4) then (if (am_I h 52 (Int32.toNatClampNeg x4i)) = (Int32.ofInt 42) then some ((Int32.ofInt 3), x3i, (Int32.ofInt 1), h67) else some (x2i, x3i, (Int32.ofInt 0), h67)) else some (x2i, x3i, (Int32.ofInt 0), h67))) fun b147 => ((if x2i ≤ (Int32.ofInt 2) then b147 else (if (am_I h 52 (Int32.toNatClampNeg x4i)) = (Int32.ofInt 125) then (if x3i ≤ 0 then b147 else some ((Int32.ofInt 4), (x3i + Int32.ofInt (-1)), (Int32.ofInt 1), h67)) else b147)))) fun b144 => ((if x2i ≤ (Int32.ofInt 2) then b144 else (if (am_I h 52 (Int32.toNatClampNeg x4i)) = (Int32.ofInt 59) then some ((Int32.ofInt 0), x3i, (Int32.ofInt 1), h67) else (if (am_I h 52 (Int32.toNatClampNeg x4i)) = (Int32.ofInt 43) then (if x3i ≤ 0 then b144 else some ((Int32.ofInt 0), x3i, (Int32.ofInt 1), h67)) else b144)))))) fun b140 => ((if x2i = (Int32.ofInt 1) then (if y66 = 0 then b140 else some ((Int32.ofInt 2), x3i, (Int32.ofInt 1), h67)) else b140))) = some (y127, y128, y129, h130) → AW mX9_readPage (rX9_readPage 0 0) (fun r h2 => r = none ∧ h2 = h') 138 [(5, .int (Int32.ofInt 1)), (8, .int y66), (0, .ref 51), (1, .int a1), (2, .int x2i), (3, .int x3i), (4, .int x4i), (6, .int (am_I h 52 (Int32.toNatClampNeg x4i))), (7, .int y7)] [] h67 0 0) (fun B139 => ?_) ?_
              · skip
                refine AW_go okX9_readPage 1 ?_
                refine And.intro (fun c140 => ?_) (fun c140 => ?_)
                · rw [if_neg c140] at j131
                  exact B139 (k138.symm.trans j131)
                · rw [if_pos c140] at j131
                  refine AW_go okX9_readPage 3 ?_
                  refine And.intro (fun c141 => ?_) (fun c141 => ?_)
                  · rw [if_neg c141] at j131
                    exact B139 (k138.symm.trans j131)
                  · rw [if_pos c141] at j131
                    refine AW_go okX9_readPage 2 ?_
                    obtain ⟨rfl, rfl, rfl, rfl⟩ := am_i4 j131
                    exact AW_pick [3, 4, 5, 0, 6, 1, 7, 8, 2] rfl hJ131
              intro j131
              refine AW_go okX9_readPage 2 ?_
              obtain ⟨b142, k143, j131⟩ := am_let_ok j131
              refine am_cut (P := ((if x2i = (Int32.ofInt 2) then am_b2 (f_X9_isLetterSign (am_I h 52 (Int32.toNatClampNeg x4i)) h67) fun r161 h162 => ((if r161 = 0 then am_let (am_let ((if x2i = (Int32.ofInt 4) then (if (am_I h 52 (Int32.toNatClampNeg x4i)) = (Int32.ofInt 42) then some ((Int32.ofInt 3), x3i, (Int32.ofInt 1), h162) else some (x2i, x3i, (Int32.ofInt 0), h162)) else some (x2i, x3i, (Int32.ofInt 0), h162))) fun b168 => ((if x2i ≤ (Int32.ofInt 2) then b168 else (if (am_I h 52 (Int32.toNatClampNeg x4i)) = (Int32.ofInt 125) then (if x3i ≤ 0 then b168 else some ((Int32.ofInt 4), (x3i + Int32.ofInt (-1)), (Int32.ofInt 1), h162)) else b168)))) fun b165 => ((if x2i ≤ (Int32.ofInt 2) then b165 else (if (am_I h 52 (Int32.toNatClampNeg x4i)) = (Int32.ofInt 59) then some ((Int32.ofInt 0), x3i, (Int32.ofInt 1), h162) else (if (am_I h 52 (Int32.toNatClampNeg x4i)) = (Int32.ofInt 43) then (if x3i ≤ 0 then b165 else some ((Int32.ofInt 0), x3i, (Int32.ofInt 1), h162)) else b165)))) else some ((Int32.ofInt 3), x3i, (Int32.ofInt 1), h162))) else am_let (am_let ((if x2i = (Int32.ofInt 4) then (if (am_I h 52 (Int32.toNatClampNeg x4i)) = (Int32.ofInt 42) then some ((Int32.ofInt 3), x3i, (Int32.ofInt 1), h67) else some (x2i, x3i, (Int32.ofInt 0), h67)) else some (x2i, x3i, (Int32.ofInt 0), h67))) fun b149 => ((if x2i ≤ (Int32.ofInt 2) then b149 else (if (am_I h 52 (Int32.toNatClampNeg x4i)) = (Int32.ofInt 125) then (if x3i ≤ 0 then b149 else some ((Int32.ofInt 4), (x3i + Int32.ofInt (-1)), (Int32.ofInt 1), h67)) else b149)))) fun b146 => ((if x2i ≤ (Int32.ofInt 2) then b146 else (if (am_I h 52 (Int32.toNatClampNeg x4i)) = (Int32.ofInt 59) then some ((Int32.ofInt 0), x3i, (Int32.ofInt 1), h67) else (if (am_I h 52 (Int32.toNatClampNeg x4i)) = (Int32.ofInt 43) then (if x3i ≤ 0 then b146 else some ((Int32.ofInt 0), x3i, (Int32.ofInt 1), h67)) else b146)))))) = some (y127, y128, y129, h130) → AW mX9_readPage (rX9_readPage 0 0) (fun r h2 => r = none ∧ h2 = h') 153 [(5, .int (Int32.ofInt 1)), (8, .int y66), (0, .ref 51), (1, .int a1), (2, .int x2i), (3, .int x3i), (4, .int x4i), (6, .int (am_I h 52 (Int32.toNatClampNeg x4i))), (7, .int y7)] [] h67 0 0) (fun B144 => ?_) ?_
              · skip
                refine AW_go okX9_readPage 1 ?_
                refine And.intro (fun c145 => ?_) (fun c145 => ?_)
                · rw [if_neg c145] at j131
                  exact B144 (k143.symm.trans j131)
                · rw [if_pos c145] at j131
                  refine AW_go okX9_readPage 2 ?_
                  refine And.intro (fun c146 => ?_) (fun c146 => ?_)
                  · rw [if_pos c146] at j131
                    exact B144 (k143.symm.trans j131)
                  · rw [if_neg c146] at j131
                    refine AW_go okX9_readPage 3 ?_
                    obtain ⟨rfl, rfl, rfl, rfl⟩ := am_i4 j131
                    exact AW_pick [3, 4, 0, 5, 6, 1, 7, 8, 2] rfl hJ131
              intro j131
              refine AW_go okX9_readPage 3 ?_
              refine And.intro (fun c147 => ?_) (fun c147 => ?_)
              · rw [if_neg c147] at j131
                refine AW_go okX9_readPage 2 ?_
                obtain ⟨b148, k149, j131⟩ := am_let_ok j131
                refine am_cut (P := (am_let ((if x2i = (Int32.ofInt 4) then (if (am_I h 52 (Int32.toNatClampNeg x4i)) = (Int32.ofInt 42) then some ((Int32.ofInt 3), x3i, (Int32.ofInt 1), h67) else some (x2i, x3i, (Int32.ofInt 0), h67)) else some (x2i, x3i, (Int32.ofInt 0), h67))) fun b151 => ((if x2i ≤ (Int32.ofInt 2) then b151 else (if (am_I h 52 (Int32.toNatClampNeg x4i)) = (Int32.ofInt 125) then (if x3i ≤ 0 then b151 else some ((Int32.ofInt 4), (x3i + Int32.ofInt (-1)), (Int32.ofInt 1), h67)) else b151)))) = some (y127, y128, y129, h130) → AW mX9_readPage (rX9_readPage 0 0) (fun r h2 => r = none ∧ h2 = h') 199 [(5, .int (Int32.ofInt 1)), (8, .int y66), (0, .ref 51), (1, .int a1), (2, .int x2i), (3, .int x3i), (4, .int x4i), (6, .int (am_I h 52 (Int32.toNatClampNeg x4i))), (7, .int y7)] [] h67 0 0) (fun B150 => ?_) ?_
                · skip
                  refine AW_go okX9_readPage 1 ?_
                  refine And.intro (fun c151 => ?_) (fun c151 => ?_)
                  · rw [if_pos c151] at j131
                    exact B150 (k149.symm.trans j131)
                  · rw [if_neg c151] at j131
                    refine AW_go okX9_readPage 3 ?_
                    refine And.intro (fun c152 => ?_) (fun c152 => ?_)
                    · rw [if_pos c152] at j131
                      refine AW_go okX9_readPage 3 ?_
                      obtain ⟨rfl, rfl, rfl, rfl⟩ := am_i4 j131
                      exact AW_pick [3, 4, 0, 5, 6, 1, 7, 8, 2] rfl hJ131
                    · rw [if_neg c152] at j131
                      refine AW_go okX9_readPage 3 ?_
                      refine And.intro (fun c153 => ?_) (fun c153 => ?_)
                      · rw [if_neg c153] at j131
                        exact B150 (k149.symm.trans j131)
                      · rw [if_pos c153] at j131
                        refine AW_go okX9_readPage 2 ?_
                        refine And.intro (fun c154 => ?_) (fun c154 => ?_)
                        · rw [if_pos c154] at j131
                          exact B150 (k149.symm.trans j131)
                        · rw [if_neg c154] at j131
                          refine AW_go okX9_readPage 3 ?_
                          obtain ⟨rfl, rfl, rfl, rfl⟩ := am_i4 j131
                          exact AW_pick [3, 4, 0, 5, 6, 1, 7, 8, 2] rfl hJ131
                intro j131
                refine AW_go okX9_readPage 2 ?_
                obtain ⟨b155, k156, j131⟩ := am_let_ok j131
                refine am_cut (P := ((if x2i = (Int32.ofInt 4) then (if (am_I h 52 (Int32.toNatClampNeg x4i)) = (Int32.ofInt 42) then some ((Int32.ofInt 3), x3i, (Int32.ofInt 1), h67) else some (x2i, x3i, (Int32.ofInt 0), h67)) else some (x2i, x3i, (Int32.ofInt 0), h67))) = some (y127, y128, y129, h130) → AW mX9_readPage (rX9_readPage 0 0) (fun r h2 => r = none ∧ h2 = h') 223 [(5, .int (Int32.ofInt 1)), (8, .int y66), (0, .ref 51), (1, .int a1), (2, .int x2i), (3, .int x3i), (4, .int x4i), (6, .int (am_I h 52 (Int32.toNatClampNeg x4i))), (7, .int y7)] [] h67 0 0) (fun B157 => ?_) ?_
                · skip
                  refine AW_go okX9_readPage 1 ?_
                  refine And.intro (fun c158 => ?_) (fun c158 => ?_)
                  · rw [if_pos c158] at j131
                    exact B157 (k156.symm.trans j131)
                  · rw [if_neg c158] at j131
                    refine AW_go okX9_readPage 3 ?_
                    refine And.intro (fun c159 => ?_) (fun c159 => ?_)
                    · rw [if_neg c159] at j131
                      exact B157 (k156.symm.trans j131)
                    · rw [if_pos c159] at j131
                      refine AW_go okX9_readPage 2 ?_
                      refine And.intro (fun c160 => ?_) (fun c160 => ?_)
                      · rw [if_pos c160] at j131
                        exact B157 (k156.symm.trans j131)
                      · rw [if_neg c160] at j131
                        refine AW_go okX9_readPage 4 ?_
                        obtain ⟨rfl, rfl, rfl, rfl⟩ := am_i4 j131
                        exact AW_pick [4, 5, 0, 1, 6, 2, 7, 8, 3] rfl hJ131
                intro j131
                refine AW_go okX9_readPage 3 ?_
                refine And.intro (fun c161 => ?_) (fun c161 => ?_)
                · rw [if_neg c161] at j131
                  refine AW_go okX9_readPage 2 ?_
                  obtain ⟨rfl, rfl, rfl, rfl⟩ := am_i4 j131
                  exact AW_pick [2, 3, 4, 5, 6, 0, 7, 8, 1] rfl hJ131
                · rw [if_pos c161] at j131
                  refine AW_go okX9_readPage 3 ?_
                  refine And.intro (fun c162 => ?_) (fun c162 => ?_)
                  · rw [if_neg c162] at j131
                    refine AW_go okX9_readPage 2 ?_
                    obtain ⟨rfl, rfl, rfl, rfl⟩ := am_i4 j131
                    exact AW_pick [2, 3, 4, 5, 6, 0, 7, 8, 1] rfl hJ131
                  · rw [if_pos c162] at j131
                    refine AW_go okX9_readPage 3 ?_
                    obtain ⟨rfl, rfl, rfl, rfl⟩ := am_i4 j131
                    exact AW_pick [3, 4, 0, 5, 6, 1, 7, 8, 2] rfl hJ131
              · rw [if_pos c147] at j131
                refine AW_go okX9_readPage 1 ?_
                obtain ⟨r163, h164, e165, j131⟩ := am_b2_ok j131
                refine AW_callS (As := [.int (am_I h 52 (Int32.toNatClampNeg x4i))]) (R' := rX9_isLetterSign 0 0) (okX9_readPage.1 160 _ _ rfl) lkX9_isLetterSign (Or.inl kX9_142) rfl (Nat.le_of_ble_eq_true rfl) ⟨by decide, by decide⟩ ⟨(Nat.le_of_ble_eq_true rfl), (Nat.le_of_ble_eq_true rfl)⟩ (Nat.le_of_ble_eq_true rfl) (c_X9_isLetterSign (am_I h 52 (Int32.toNatClampNeg x4i)) h67 hs e165) (fun r h' hq => ?_)
                obtain ⟨rfl, hq⟩ := hq
                replace hq := hq.symm
                subst hq
                have hs := s_X9_isLetterSign (am_I h 52 (Int32.toNatClampNeg x4i)) h67 hs e165
                refine AW_go okX9_readPage 1 ?_
                refine And.intro (fun c166 => ?_) (fun c166 => ?_)
                · rw [if_pos c166] at j131
                  refine AW_go okX9_readPage 2 ?_
                  obtain ⟨b167, k168, j131⟩ := am_let_ok j131
                  refine am_cut (P := (am_let ((if x2i = (Int32.ofInt 4) then (if (am_I h 52 (Int32.toNatClampNeg x4i)) = (Int32.ofInt 42) then some ((Int32.ofInt 3), x3i, (Int32.ofInt 1), h164) else some (x2i, x3i, (Int32.ofInt 0), h164)) else some (x2i, x3i, (Int32.ofInt 0), h164))) fun b170 => ((if x2i ≤ (Int32.ofInt 2) then b170 else (if (am_I h 52 (Int32.toNatClampNeg x4i)) = (Int32.ofInt 125) then (if x3i ≤ 0 then b170 else some ((Int32.ofInt 4), (x3i + Int32.ofInt (-1)), (Int32.ofInt 1), h164)) else b170)))) = some (y127, y128, y129, h130) → AW mX9_readPage (rX9_readPage 0 0) (fun r h2 => r = none ∧ h2 = h') 199 [(5, .int (Int32.ofInt 1)), (8, .int y66), (0, .ref 51), (1, .int a1), (2, .int x2i), (3, .int x3i), (4, .int x4i), (6, .int (am_I h 52 (Int32.toNatClampNeg x4i))), (7, .int y7)] [] h164 0 0) (fun B169 => ?_) ?_
                  · skip
                    refine AW_go okX9_readPage 1 ?_
                    refine And.intro (fun c170 => ?_) (fun c170 => ?_)
                    · rw [if_pos c170] at j131
                      exact B169 (k168.symm.trans j131)
                    · rw [if_neg c170] at j131
                      refine AW_go okX9_readPage 3 ?_
                      refine And.intro (fun c171 => ?_) (fun c171 => ?_)
                      · rw [if_pos c171] at j131
                        refine AW_go okX9_readPage 3 ?_
                        obtain ⟨rfl, rfl, rfl, rfl⟩ := am_i4 j131
                        exact AW_pick [3, 4, 0, 5, 6, 1, 7, 8, 2] rfl hJ131
                      · rw [if_neg c171] at j131
                        refine AW_go okX9_readPage 3 ?_
                        refine And.intro (fun c172 => ?_) (fun c172 => ?_)
                        · rw [if_neg c172] at j131
                          exact B169 (k168.symm.trans j131)
                        · rw [if_pos c172] at j131
                          refine AW_go okX9_readPage 2 ?_
                          refine And.intro (fun c173 => ?_) (fun c173 => ?_)
                          · rw [if_pos c173] at j131
                            exact B169 (k168.symm.trans j131)
                          · rw [if_neg c173] at j131
                            refine AW_go okX9_readPage 3 ?_
                            obtain ⟨rfl, rfl, rfl, rfl⟩ := am_i4 j131
                            exact AW_pick [3, 4, 0, 5, 6, 1, 7, 8, 2] rfl hJ131
                  intro j131
                  refine AW_go okX9_readPage 2 ?_
                  obtain ⟨b174, k175, j131⟩ := am_let_ok j131
                  refine am_cut (P := ((if x2i = (Int32.ofInt 4) then (if (am_I h 52 (Int32.toNatClampNeg x4i)) = (Int32.ofInt 42) then some ((Int32.ofInt 3), x3i, (Int32.ofInt 1), h164) else some (x2i, x3i, (Int32.ofInt 0), h164)) else some (x2i, x3i, (Int32.ofInt 0), h164))) = some (y127, y128, y129, h130) → AW mX9_readPage (rX9_readPage 0 0) (fun r h2 => r = none ∧ h2 = h') 223 [(5, .int (Int32.ofInt 1)), (8, .int y66), (0, .ref 51), (1, .int a1), (2, .int x2i), (3, .int x3i), (4, .int x4i), (6, .int (am_I h 52 (Int32.toNatClampNeg x4i))), (7, .int y7)] [] h164 0 0) (fun B176 => ?_) ?_
                  · skip
                    refine AW_go okX9_readPage 1 ?_
                    refine And.intro (fun c177 => ?_) (fun c177 => ?_)
                    · rw [if_pos c177] at j131
                      exact B176 (k175.symm.trans j131)
                    · rw [if_neg c177] at j131
                      refine AW_go okX9_readPage 3 ?_
                      refine And.intro (fun c178 => ?_) (fun c178 => ?_)
                      · rw [if_neg c178] at j131
                        exact B176 (k175.symm.trans j131)
                      · rw [if_pos c178] at j131
                        refine AW_go okX9_readPage 2 ?_
                        refine And.intro (fun c179 => ?_) (fun c179 => ?_)
                        · rw [if_pos c179] at j131
                          exact B176 (k175.symm.trans j131)
                        · rw [if_neg c179] at j131
                          refine AW_go okX9_readPage 4 ?_
                          obtain ⟨rfl, rfl, rfl, rfl⟩ := am_i4 j131
                          exact AW_pick [4, 5, 0, 1, 6, 2, 7, 8, 3] rfl hJ131
                  intro j131
                  refine AW_go okX9_readPage 3 ?_
                  refine And.intro (fun c180 => ?_) (fun c180 => ?_)
                  · rw [if_neg c180] at j131
                    refine AW_go okX9_readPage 2 ?_
                    obtain ⟨rfl, rfl, rfl, rfl⟩ := am_i4 j131
                    exact AW_pick [2, 3, 4, 5, 6, 0, 7, 8, 1] rfl hJ131
                  · rw [if_pos c180] at j131
                    refine AW_go okX9_readPage 3 ?_
                    refine And.intro (fun c181 => ?_) (fun c181 => ?_)
                    · rw [if_neg c181] at j131
                      refine AW_go okX9_readPage 2 ?_
                      obtain ⟨rfl, rfl, rfl, rfl⟩ := am_i4 j131
                      exact AW_pick [2, 3, 4, 5, 6, 0, 7, 8, 1] rfl hJ131
                    · rw [if_pos c181] at j131
                      refine AW_go okX9_readPage 3 ?_
                      obtain ⟨rfl, rfl, rfl, rfl⟩ := am_i4 j131
                      exact AW_pick [3, 4, 0, 5, 6, 1, 7, 8, 2] rfl hJ131
                · rw [if_neg c166] at j131
                  refine AW_go okX9_readPage 3 ?_
                  obtain ⟨rfl, rfl, rfl, rfl⟩ := am_i4 j131
                  exact AW_pick [3, 4, 0, 5, 6, 1, 7, 8, 2] rfl hJ131
            refine AW_go okX9_readPage 2 ?_
            obtain ⟨y232, j233, hf⟩ := am_bnd hf
            refine am_cut (P := AW mX9_readPage (rX9_readPage 0 0) (fun r h2 => r = none ∧ h2 = h') 255 [(0, .ref 51), (1, .int a1), (2, .int y127), (3, .int y128), (4, .int x4i), (5, .int y129), (6, .int (am_I h 52 (Int32.toNatClampNeg x4i))), (7, .int y7), (8, .int y66)] [.int y232, .int x4i] h130 0 0) (fun hJ233 => ?_) ?_
            · have hs := hs
              refine AW_go okX9_readPage 1 ?_
              refine And.intro (fun c234 => ?_) (fun c234 => ?_)
              · rw [if_pos c234] at j233
                refine AW_go okX9_readPage 1 ?_
                obtain rfl := am_i1 j233
                exact AW_pick [0, 1, 2, 3, 4, 5, 6, 7, 8] rfl hJ233
              · rw [if_neg c234] at j233
                refine AW_go okX9_readPage 2 ?_
                obtain rfl := am_i1 j233
                exact AW_pick [0, 1, 2, 3, 4, 5, 6, 7, 8] rfl hJ233
            refine AW_go okX9_readPage 3 ?_
            refine AW_pick (lv' := [(0, .ref 51), (1, .int a1), (2, .int y127), (3, .int y128), (4, .int (x4i + y232)), (5, .int y129)]) [1, 2, 3, 4, 0, 5] rfl ?_
            exact ih a1 y127 y128 (x4i + y232) y129 h130 _ _ hs hf
      intro hf
      refine AW_go okX9_readPage 7 ?_
      refine And.intro (sK hs 51) ?_
      refine And.intro (sK hs 51) ?_
      obtain ⟨y285, j286, hf⟩ := am_bnd hf
      refine am_cut (P := AW mX9_readPage (rX9_readPage 0 0) (fun r h2 => r = none ∧ h2 = h') 291 [(0, .ref 51), (1, .int a1), (2, .int x2i), (3, .int x3i), (4, .int x4i), (5, .int x5i)] [.int y285, .ref 51] (am_sI h 51 14 x4i) 0 0) (fun hJ286 => ?_) ?_
      · have hs := hs
        refine AW_go okX9_readPage 1 ?_
        refine And.intro (fun c287 => ?_) (fun c287 => ?_)
        · rw [if_neg c287] at j286
          refine AW_go okX9_readPage 1 ?_
          obtain rfl := am_i1 j286
          exact AW_pick [0, 1, 2, 3, 4, 5] rfl hJ286
        · rw [if_pos c287] at j286
          refine AW_go okX9_readPage 3 ?_
          refine And.intro (fun c288 => ?_) (fun c288 => ?_)
          · rw [if_pos c288] at j286
            refine AW_go okX9_readPage 1 ?_
            obtain rfl := am_i1 j286
            exact AW_pick [0, 1, 2, 3, 4, 5] rfl hJ286
          · rw [if_neg c288] at j286
            refine AW_go okX9_readPage 2 ?_
            refine And.intro (fun c289 => ?_) (fun c289 => ?_)
            · rw [if_neg c289] at j286
              refine AW_go okX9_readPage 1 ?_
              obtain rfl := am_i1 j286
              exact AW_pick [0, 1, 2, 3, 4, 5] rfl hJ286
            · rw [if_pos c289] at j286
              refine AW_go okX9_readPage 2 ?_
              obtain rfl := am_i1 j286
              exact AW_pick [0, 1, 2, 3, 4, 5] rfl hJ286
      obtain ⟨b340, hf⟩ := am_bis hf
      refine AW_go okX9_readPage 2 ?_
      refine And.intro (am_b01_ok b340) (And.intro (sK hs 51) ?_)
      obtain ⟨rfl, rfl⟩ := am_i2 hf
      exact And.intro ⟨(Nat.le_of_ble_eq_true rfl), (Nat.le_of_ble_eq_true rfl)⟩ (And.intro rfl ⟨rfl, rfl⟩)
def f_X9_readPage (n : Nat) (a1 : Int32) (h : am_H) : Option (Unit × am_H) := g_X9_readPage n 0 a1 (Int32.ofInt 0) (Int32.ofInt 0) (Int32.ofInt 0) (Int32.ofInt 1) h
set_option maxRecDepth 100000 in
theorem s_X9_readPage (n : Nat) (a1 : Int32) (h : am_H) (hs : am_stat h) {v : Unit} {h' : am_H} (hf : f_X9_readPage n a1 h = some (v, h')) : am_stat h' := by
  unfold f_X9_readPage at hf
  exact (m_X9_readPage n) a1 (Int32.ofInt 0) (Int32.ofInt 0) (Int32.ofInt 0) (Int32.ofInt 1) h _ _ hs hf
set_option maxRecDepth 100000 in
theorem c_X9_readPage (n : Nat) (a1 : Int32) (h : am_H) (hs : am_stat h) {v : Unit} {h' : am_H} (hf : f_X9_readPage n a1 h = some (v, h')) : AMet mX9_readPage (rX9_readPage 0 0) (fun r h2 => r = none ∧ h2 = h') [.ref 51, .int a1] h := by
  unfold f_X9_readPage at hf
  refine AW_go okX9_readPage 8 ?_
  refine AW_pick (lv' := [(0, .ref 51), (1, .int a1), (2, .int (Int32.ofInt 0)), (3, .int (Int32.ofInt 0)), (4, .int (Int32.ofInt 0)), (5, .int (Int32.ofInt 1))]) [4, 5, 3, 2, 1, 0] rfl ?_
  exact (l_X9_readPage n) a1 (Int32.ofInt 0) (Int32.ofInt 0) (Int32.ofInt 0) (Int32.ofInt 1) h _ _ hs hf
