def f_X7_put (a0 : Int32) (a1 : Int32) (a2 : Int32) (h : am_H) : Option (Int32 × am_H) := Option.bind ((if a0 = (Int32.ofInt 1) then some (a1 + ((Int32.ofInt 1) <<< (((Int32.ofInt 2) * a2) &&& 31))) else some ((a1 + (Int32.ofInt 1)) + (a2 <<< (((Int32.ofInt 2) + ((Int32.ofInt 2) * (a1 &&& (Int32.ofInt 3)))) &&& 31))))) fun y1 => (some (y1, h))
set_option maxRecDepth 100000 in
theorem s_X7_put (a0 : Int32) (a1 : Int32) (a2 : Int32) (h : am_H) (hs : am_stat h) {v : Int32} {h' : am_H} (hf : f_X7_put a0 a1 a2 h = some (v, h')) : am_stat h' := by
  unfold f_X7_put at hf
  obtain ⟨y1, j2, hf⟩ := am_bnd hf
  cases hf
  exact hs
set_option maxRecDepth 100000 in
theorem c_X7_put (a0 : Int32) (a1 : Int32) (a2 : Int32) (h : am_H) (hs : am_stat h) {v : Int32} {h' : am_H} (hf : f_X7_put a0 a1 a2 h = some (v, h')) : AMet mX7_put (rX7_put 0 0) (fun r h2 => r = some (.int v) ∧ h2 = h') [.int a0, .int a1, .int a2] h := by
  unfold f_X7_put at hf
  refine AW_go okX7_put 2 ?_
  obtain ⟨y1, j2, hf⟩ := am_bnd hf
  refine am_cut (P := AW mX7_put (rX7_put 0 0) (fun r h2 => r = some (.int v) ∧ h2 = h') 28 [(0, .int a0), (1, .int a1), (2, .int a2)] [.int y1] h 0 0) (fun hJ2 => ?_) ?_
  · have hs := hs
    refine AW_go okX7_put 1 ?_
    refine And.intro (fun c3 => ?_) (fun c3 => ?_)
    · rw [if_neg c3] at j2
      refine AW_go okX7_put 13 ?_
      cases j2
      exact AW_pick [0, 1, 2] rfl hJ2
    · rw [if_pos c3] at j2
      refine AW_go okX7_put 8 ?_
      cases j2
      exact AW_pick [0, 1, 2] rfl hJ2
  refine AW_go okX7_put 1 ?_
  cases hf
  exact And.intro ⟨(Nat.le_of_ble_eq_true rfl), (Nat.le_of_ble_eq_true rfl)⟩ (And.intro (Or.inl rfl) ⟨rfl, rfl⟩)
def f_X7_listStep (a1 : Int32) (a2 : Int64) (h : am_H) : Option (Unit × am_H) := bif am_vp (am_I h 28 5) 90 then (bif am_vp (am_I (am_sI h 31 (Int32.toNatClampNeg (am_I h 28 5)) a1) 28 5) 90 then (some ((), (am_sI (am_sJ (am_sI h 31 (Int32.toNatClampNeg (am_I h 28 5)) a1) 32 (Int32.toNatClampNeg (am_I (am_sI h 31 (Int32.toNatClampNeg (am_I h 28 5)) a1) 28 5)) a2) 28 5 ((am_I (am_sJ (am_sI h 31 (Int32.toNatClampNeg (am_I h 28 5)) a1) 32 (Int32.toNatClampNeg (am_I (am_sI h 31 (Int32.toNatClampNeg (am_I h 28 5)) a1) 28 5)) a2) 28 5) + (Int32.ofInt 1))))) else none) else none
set_option maxRecDepth 100000 in
theorem s_X7_listStep (a1 : Int32) (a2 : Int64) (h : am_H) (hs : am_stat h) {v : Unit} {h' : am_H} (hf : f_X7_listStep a1 a2 h = some (v, h')) : am_stat h' := by
  unfold f_X7_listStep at hf
  obtain ⟨b1, hf⟩ := am_bis hf
  obtain ⟨b2, hf⟩ := am_bis hf
  cases hf
  exact hs
set_option maxRecDepth 100000 in
theorem c_X7_listStep (a1 : Int32) (a2 : Int64) (h : am_H) (hs : am_stat h) {v : Unit} {h' : am_H} (hf : f_X7_listStep a1 a2 h = some (v, h')) : AMet mX7_listStep (rX7_listStep 0 0) (fun r h2 => r = none ∧ h2 = h') [.ref 28, .int a1, .long a2] h := by
  unfold f_X7_listStep at hf
  obtain ⟨b1, hf⟩ := am_bis hf
  obtain ⟨b2, hf⟩ := am_bis hf
  refine AW_go okX7_listStep 19 ?_
  refine And.intro (sK hs 28) (Exists.intro _ (And.intro (sA hs 28 3) ?_))
  refine And.intro (sK hs 28) ?_
  refine Exists.intro 90 (And.intro (sK hs 31) (And.intro (am_vp_ok b1) ?_))
  refine And.intro (sK hs 28) (Exists.intro _ (And.intro (sA hs 28 4) ?_))
  refine And.intro (sK hs 28) ?_
  refine Exists.intro 90 (And.intro (sK hs 32) (And.intro (am_vp_ok b2) ?_))
  refine And.intro (sK hs 28) ?_
  refine And.intro (sK hs 28) ?_
  cases hf
  exact And.intro ⟨(Nat.le_of_ble_eq_true rfl), (Nat.le_of_ble_eq_true rfl)⟩ (And.intro rfl ⟨rfl, rfl⟩)
def f_X7_mayAt (a1 : Int64) (a3 : Int32) (h : am_H) : Option (Int32 × am_H) := am_b2 (f_X7_placeIn a1 a3 h) fun r1 h2 => (bif am_vp (((Int32.ofInt 16) * a3) + r1) 48 then (some ((am_I h2 34 (Int32.toNatClampNeg (((Int32.ofInt 16) * a3) + r1))), h2)) else none)
set_option maxRecDepth 100000 in
theorem s_X7_mayAt (a1 : Int64) (a3 : Int32) (h : am_H) (hs : am_stat h) {v : Int32} {h' : am_H} (hf : f_X7_mayAt a1 a3 h = some (v, h')) : am_stat h' := by
  unfold f_X7_mayAt at hf
  obtain ⟨r1, h2, e3, hf⟩ := am_b2_ok hf
  have hs := s_X7_placeIn a1 a3 h hs e3
  obtain ⟨b4, hf⟩ := am_bis hf
  cases hf
  exact hs
set_option maxRecDepth 100000 in
theorem c_X7_mayAt (a1 : Int64) (a3 : Int32) (h : am_H) (hs : am_stat h) {v : Int32} {h' : am_H} (hf : f_X7_mayAt a1 a3 h = some (v, h')) : AMet mX7_mayAt (rX7_mayAt 0 0) (fun r h2 => r = some (.int v) ∧ h2 = h') [.ref 28, .long a1, .int a3] h := by
  unfold f_X7_mayAt at hf
  refine AW_go okX7_mayAt 7 ?_
  refine And.intro (sK hs 28) (Exists.intro _ (And.intro (sA hs 28 7) ?_))
  obtain ⟨r1, h2, e3, hf⟩ := am_b2_ok hf
  refine AW_callS (As := [.long a1, .int a3]) (R' := rX7_placeIn 0 0) (okX7_mayAt.1 10 _ _ rfl) lkX7_placeIn (Or.inl kX7_110) rfl (Nat.le_of_ble_eq_true rfl) ⟨by decide, by decide⟩ ⟨(Nat.le_of_ble_eq_true rfl), (Nat.le_of_ble_eq_true rfl)⟩ (Nat.le_of_ble_eq_true rfl) (c_X7_placeIn a1 a3 h hs e3) (fun r h' hq => ?_)
  obtain ⟨rfl, hq⟩ := hq
  replace hq := hq.symm
  subst hq
  have hs := s_X7_placeIn a1 a3 h hs e3
  obtain ⟨b4, hf⟩ := am_bis hf
  refine AW_go okX7_mayAt 3 ?_
  refine Exists.intro 48 (And.intro (sK hs 34) (And.intro (am_vp_ok b4) ?_))
  cases hf
  exact And.intro ⟨(Nat.le_of_ble_eq_true rfl), (Nat.le_of_ble_eq_true rfl)⟩ (And.intro (Or.inl rfl) ⟨rfl, rfl⟩)
def f_X8_blank (h : am_H) : Option (Int32 × am_H) := some ((am_I h 1 1), (am_sI h 1 1 (Int32.ofInt 0)))
set_option maxRecDepth 100000 in
theorem s_X8_blank (h : am_H) (hs : am_stat h) {v : Int32} {h' : am_H} (hf : f_X8_blank h = some (v, h')) : am_stat h' := by
  unfold f_X8_blank at hf
  cases hf
  exact hs
set_option maxRecDepth 100000 in
theorem c_X8_blank (h : am_H) (hs : am_stat h) {v : Int32} {h' : am_H} (hf : f_X8_blank h = some (v, h')) : AMet mX8_blank (rX8_blank 0 0) (fun r h2 => r = some (.int v) ∧ h2 = h') [.ref 0] h := by
  unfold f_X8_blank at hf
  refine AW_go okX8_blank 10 ?_
  refine And.intro (sK hs 0) (Exists.intro _ (And.intro (sA hs 0 0) ?_))
  refine And.intro (sK hs 1) ?_
  refine And.intro (sK hs 0) (Exists.intro _ (And.intro (sA hs 0 0) ?_))
  refine And.intro (sK hs 1) ?_
  cases hf
  exact And.intro ⟨(Nat.le_of_ble_eq_true rfl), (Nat.le_of_ble_eq_true rfl)⟩ (And.intro (Or.inl rfl) ⟨rfl, rfl⟩)
def f_X8_with (a0 : Int64) (a2 : Int64) (h : am_H) : Option (Int64 × am_H) := some ((((31 : Int64) * a0) + a2), h)
set_option maxRecDepth 100000 in
theorem s_X8_with (a0 : Int64) (a2 : Int64) (h : am_H) (hs : am_stat h) {v : Int64} {h' : am_H} (hf : f_X8_with a0 a2 h = some (v, h')) : am_stat h' := by
  unfold f_X8_with at hf
  cases hf
  exact hs
set_option maxRecDepth 100000 in
theorem c_X8_with (a0 : Int64) (a2 : Int64) (h : am_H) (hs : am_stat h) {v : Int64} {h' : am_H} (hf : f_X8_with a0 a2 h = some (v, h')) : AMet mX8_with (rX8_with 0 0) (fun r h2 => r = some (.long v) ∧ h2 = h') [.long a0, .long a2] h := by
  unfold f_X8_with at hf
  refine AW_go okX8_with 6 ?_
  cases hf
  exact And.intro ⟨(Nat.le_of_ble_eq_true rfl), (Nat.le_of_ble_eq_true rfl)⟩ (And.intro rfl ⟨rfl, rfl⟩)
def f_X8_isBook (a1 : Int32) (h : am_H) : Option (Int32 × am_H) := Option.bind ((if a1 < 0 then some (Int32.ofInt 0) else (if (am_I h 0 5) ≤ a1 then some (Int32.ofInt 0) else some (Int32.ofInt 1)))) fun y1 => (bif am_b01 y1 then (some (y1, h)) else none)
set_option maxRecDepth 100000 in
theorem s_X8_isBook (a1 : Int32) (h : am_H) (hs : am_stat h) {v : Int32} {h' : am_H} (hf : f_X8_isBook a1 h = some (v, h')) : am_stat h' := by
  unfold f_X8_isBook at hf
  obtain ⟨y1, j2, hf⟩ := am_bnd hf
  obtain ⟨b55, hf⟩ := am_bis hf
  cases hf
  exact hs
set_option maxRecDepth 100000 in
theorem c_X8_isBook (a1 : Int32) (h : am_H) (hs : am_stat h) {v : Int32} {h' : am_H} (hf : f_X8_isBook a1 h = some (v, h')) : AMet mX8_isBook (rX8_isBook 0 0) (fun r h2 => r = some (.int v) ∧ h2 = h') [.ref 0, .int a1] h := by
  unfold f_X8_isBook at hf
  refine AW_go okX8_isBook 1 ?_
  obtain ⟨y1, j2, hf⟩ := am_bnd hf
  refine am_cut (P := AW mX8_isBook (rX8_isBook 0 0) (fun r h2 => r = some (.int v) ∧ h2 = h') 17 [(0, .ref 0), (1, .int a1)] [.int y1] h 0 0) (fun hJ2 => ?_) ?_
  · have hs := hs
    refine AW_go okX8_isBook 1 ?_
    refine And.intro (fun c3 => ?_) (fun c3 => ?_)
    · rw [if_pos c3] at j2
      refine AW_go okX8_isBook 1 ?_
      cases j2
      exact AW_pick [0, 1] rfl hJ2
    · rw [if_neg c3] at j2
      refine AW_go okX8_isBook 4 ?_
      refine And.intro (sK hs 0) ?_
      refine And.intro (fun c4 => ?_) (fun c4 => ?_)
      · rw [if_pos c4] at j2
        refine AW_go okX8_isBook 1 ?_
        cases j2
        exact AW_pick [0, 1] rfl hJ2
      · rw [if_neg c4] at j2
        refine AW_go okX8_isBook 2 ?_
        cases j2
        exact AW_pick [0, 1] rfl hJ2
  obtain ⟨b55, hf⟩ := am_bis hf
  refine AW_go okX8_isBook 1 ?_
  cases hf
  exact And.intro ⟨(Nat.le_of_ble_eq_true rfl), (Nat.le_of_ble_eq_true rfl)⟩ (And.intro (Or.inr ⟨rfl, am_b01_ok b55⟩) ⟨rfl, rfl⟩)
def f_X8_isOffice (a0 : Int32) (h : am_H) : Option (Int32 × am_H) := Option.bind ((if a0 < 0 then some (Int32.ofInt 0) else (if (Int32.ofInt 3) ≤ a0 then some (Int32.ofInt 0) else some (Int32.ofInt 1)))) fun y1 => (bif am_b01 y1 then (some (y1, h)) else none)
set_option maxRecDepth 100000 in
theorem s_X8_isOffice (a0 : Int32) (h : am_H) (hs : am_stat h) {v : Int32} {h' : am_H} (hf : f_X8_isOffice a0 h = some (v, h')) : am_stat h' := by
  unfold f_X8_isOffice at hf
  obtain ⟨y1, j2, hf⟩ := am_bnd hf
  obtain ⟨b55, hf⟩ := am_bis hf
  cases hf
  exact hs
set_option maxRecDepth 100000 in
theorem c_X8_isOffice (a0 : Int32) (h : am_H) (hs : am_stat h) {v : Int32} {h' : am_H} (hf : f_X8_isOffice a0 h = some (v, h')) : AMet mX8_isOffice (rX8_isOffice 0 0) (fun r h2 => r = some (.int v) ∧ h2 = h') [.int a0] h := by
  unfold f_X8_isOffice at hf
  refine AW_go okX8_isOffice 1 ?_
  obtain ⟨y1, j2, hf⟩ := am_bnd hf
  refine am_cut (P := AW mX8_isOffice (rX8_isOffice 0 0) (fun r h2 => r = some (.int v) ∧ h2 = h') 14 [(0, .int a0)] [.int y1] h 0 0) (fun hJ2 => ?_) ?_
  · have hs := hs
    refine AW_go okX8_isOffice 1 ?_
    refine And.intro (fun c3 => ?_) (fun c3 => ?_)
    · rw [if_pos c3] at j2
      refine AW_go okX8_isOffice 1 ?_
      cases j2
      exact AW_pick [0] rfl hJ2
    · rw [if_neg c3] at j2
      refine AW_go okX8_isOffice 3 ?_
      refine And.intro (fun c4 => ?_) (fun c4 => ?_)
      · rw [if_pos c4] at j2
        refine AW_go okX8_isOffice 1 ?_
        cases j2
        exact AW_pick [0] rfl hJ2
      · rw [if_neg c4] at j2
        refine AW_go okX8_isOffice 2 ?_
        cases j2
        exact AW_pick [0] rfl hJ2
  obtain ⟨b55, hf⟩ := am_bis hf
  refine AW_go okX8_isOffice 1 ?_
  cases hf
  exact And.intro ⟨(Nat.le_of_ble_eq_true rfl), (Nat.le_of_ble_eq_true rfl)⟩ (And.intro (Or.inr ⟨rfl, am_b01_ok b55⟩) ⟨rfl, rfl⟩)
