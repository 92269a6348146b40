def f_X9_fault (n : Nat) (a1 : Int32) (h : am_H) : Option (Int32 × am_H) := am_b2 (f_X9_within a1 (Int32.ofInt 0) (Int32.ofInt 1) h) fun r1 h2 => ((if r1 = 0 then some ((Int32.ofInt (-102)), h2) else am_b2 (f_X9_readPage n a1 h2) fun r5 h6 => (some ((am_I h6 51 14), h6))))
set_option maxRecDepth 100000 in
theorem s_X9_fault (n : Nat) (a1 : Int32) (h : am_H) (hs : am_stat h) {v : Int32} {h' : am_H} (hf : f_X9_fault n a1 h = some (v, h')) : am_stat h' := by
  unfold f_X9_fault at hf
  obtain ⟨r1, h2, e3, hf⟩ := am_b2_ok hf
  have hs := s_X9_within a1 (Int32.ofInt 0) (Int32.ofInt 1) h hs e3
  by_cases c4 : r1 = 0
  · rw [if_pos c4] at hf
    obtain ⟨rfl, rfl⟩ := am_i2 hf
    exact hs
  · rw [if_neg c4] at hf
    obtain ⟨r5, h6, e7, hf⟩ := am_b2_ok hf
    have hs := s_X9_readPage n a1 h2 hs e7
    obtain ⟨rfl, rfl⟩ := am_i2 hf
    exact hs
set_option maxRecDepth 100000 in
theorem c_X9_fault (n : Nat) (a1 : Int32) (h : am_H) (hs : am_stat h) {v : Int32} {h' : am_H} (hf : f_X9_fault n a1 h = some (v, h')) : AMet mX9_fault (rX9_fault 0 0) (fun r h2 => r = some (.int v) ∧ h2 = h') [.ref 51, .int a1] h := by
  unfold f_X9_fault at hf
  refine AW_go okX9_fault 3 ?_
  obtain ⟨r1, h2, e3, hf⟩ := am_b2_ok hf
  refine AW_callS (As := [.int a1, .int (Int32.ofInt 0), .int (Int32.ofInt 1)]) (R' := rX9_within 0 0) (okX9_fault.1 3 _ _ rfl) lkX9_within (Or.inl kX9_134) rfl (Nat.le_of_ble_eq_true rfl) ⟨by decide, by decide⟩ ⟨(Nat.le_of_ble_eq_true rfl), (Nat.le_of_ble_eq_true rfl)⟩ (Nat.le_of_ble_eq_true rfl) (c_X9_within a1 (Int32.ofInt 0) (Int32.ofInt 1) h hs e3) (fun r h' hq => ?_)
  obtain ⟨rfl, hq⟩ := hq
  replace hq := hq.symm
  subst hq
  have hs := s_X9_within a1 (Int32.ofInt 0) (Int32.ofInt 1) h hs e3
  refine AW_go okX9_fault 1 ?_
  refine And.intro (fun c4 => ?_) (fun c4 => ?_)
  · rw [if_neg c4] at hf
    refine AW_go okX9_fault 2 ?_
    obtain ⟨r5, h6, e7, hf⟩ := am_b2_ok hf
    refine AW_callV (As := [.int a1]) (R' := rX9_readPage 0 0) (T := TX9) (N := 58) (ci := 9) (okX9_fault.1 14 _ _ rfl) lkX9_readPage kX9_152 rfl (sK hs 51) rfl (Nat.le_of_ble_eq_true rfl) ⟨by decide, by decide⟩ ⟨(Nat.le_of_ble_eq_true rfl), (Nat.le_of_ble_eq_true rfl)⟩ (Nat.le_of_ble_eq_true rfl) (c_X9_readPage n a1 h2 hs e7) (fun r h' hq => ?_)
    obtain ⟨rfl, hq⟩ := hq
    replace hq := hq.symm
    subst hq
    have hs := s_X9_readPage n a1 h2 hs e7
    refine AW_go okX9_fault 3 ?_
    refine And.intro (sK hs 51) ?_
    obtain ⟨rfl, rfl⟩ := am_i2 hf
    exact And.intro ⟨(Nat.le_of_ble_eq_true rfl), (Nat.le_of_ble_eq_true rfl)⟩ (And.intro (Or.inl rfl) ⟨rfl, rfl⟩)
  · rw [if_pos c4] at hf
    refine AW_go okX9_fault 2 ?_
    obtain ⟨rfl, rfl⟩ := am_i2 hf
    exact And.intro ⟨(Nat.le_of_ble_eq_true rfl), (Nat.le_of_ble_eq_true rfl)⟩ (And.intro (Or.inl rfl) ⟨rfl, rfl⟩)
def f_X9_newRow (h : am_H) : Option (Unit × am_H) := bif am_vp (am_I h 51 22) 61 then (bif am_vp (am_I (am_sI h 60 (Int32.toNatClampNeg (am_I h 51 22)) (Int32.ofInt 0)) 51 22) 61 then (bif am_vp (am_I (am_sI (am_sI h 60 (Int32.toNatClampNeg (am_I h 51 22)) (Int32.ofInt 0)) 61 (Int32.toNatClampNeg (am_I (am_sI h 60 (Int32.toNatClampNeg (am_I h 51 22)) (Int32.ofInt 0)) 51 22)) (Int32.ofInt 0)) 51 22) 61 then (some ((), (am_sI (am_sI (am_sI h 60 (Int32.toNatClampNeg (am_I h 51 22)) (Int32.ofInt 0)) 61 (Int32.toNatClampNeg (am_I (am_sI h 60 (Int32.toNatClampNeg (am_I h 51 22)) (Int32.ofInt 0)) 51 22)) (Int32.ofInt 0)) 62 (Int32.toNatClampNeg (am_I (am_sI (am_sI h 60 (Int32.toNatClampNeg (am_I h 51 22)) (Int32.ofInt 0)) 61 (Int32.toNatClampNeg (am_I (am_sI h 60 (Int32.toNatClampNeg (am_I h 51 22)) (Int32.ofInt 0)) 51 22)) (Int32.ofInt 0)) 51 22)) (vp_nar (am_at 2) (Int32.ofInt 1))))) else none) else none) else none
set_option maxRecDepth 100000 in
theorem s_X9_newRow (h : am_H) (hs : am_stat h) {v : Unit} {h' : am_H} (hf : f_X9_newRow h = some (v, h')) : am_stat h' := by
  unfold f_X9_newRow at hf
  obtain ⟨b1, hf⟩ := am_bis hf
  obtain ⟨b2, hf⟩ := am_bis hf
  obtain ⟨b3, hf⟩ := am_bis hf
  obtain ⟨rfl, rfl⟩ := am_i2 hf
  exact hs
set_option maxRecDepth 100000 in
theorem c_X9_newRow (h : am_H) (hs : am_stat h) {v : Unit} {h' : am_H} (hf : f_X9_newRow h = some (v, h')) : AMet mX9_newRow (rX9_newRow 0 0) (fun r h2 => r = none ∧ h2 = h') [.ref 51] h := by
  unfold f_X9_newRow at hf
  obtain ⟨b1, hf⟩ := am_bis hf
  obtain ⟨b2, hf⟩ := am_bis hf
  obtain ⟨b3, hf⟩ := am_bis hf
  refine AW_go okX9_newRow 19 ?_
  refine And.intro (sK hs 51) (Exists.intro _ (And.intro (sA hs 51 16) ?_))
  refine And.intro (sK hs 51) ?_
  refine Exists.intro 61 (And.intro (sK hs 60) (And.intro (am_vp_ok b1) ?_))
  refine And.intro (sK hs 51) (Exists.intro _ (And.intro (sA hs 51 17) ?_))
  refine And.intro (sK hs 51) ?_
  refine Exists.intro 61 (And.intro (sK hs 61) (And.intro (am_vp_ok b2) ?_))
  refine And.intro (sK hs 51) (Exists.intro _ (And.intro (sA hs 51 18) ?_))
  refine And.intro (sK hs 51) ?_
  refine Exists.intro 2 (Exists.intro 61 (And.intro (by decide) (And.intro (sK hs 62) (And.intro (am_vp_ok b3) ?_))))
  obtain ⟨rfl, rfl⟩ := am_i2 hf
  exact And.intro ⟨(Nat.le_of_ble_eq_true rfl), (Nat.le_of_ble_eq_true rfl)⟩ (And.intro rfl ⟨rfl, rfl⟩)
def f_X9_openGroup (h : am_H) : Option (Unit × am_H) := bif am_vp (am_I (am_sI h 51 22 ((am_I h 51 22) + (Int32.ofInt 1))) 51 22) 61 then (bif am_vp (am_I (am_sI (am_sI h 51 22 ((am_I h 51 22) + (Int32.ofInt 1))) 63 (Int32.toNatClampNeg (am_I (am_sI h 51 22 ((am_I h 51 22) + (Int32.ofInt 1))) 51 22)) (Int32.ofInt 0)) 51 22) 61 then (bif am_vp (am_I (am_sI (am_sI (am_sI h 51 22 ((am_I h 51 22) + (Int32.ofInt 1))) 63 (Int32.toNatClampNeg (am_I (am_sI h 51 22 ((am_I h 51 22) + (Int32.ofInt 1))) 51 22)) (Int32.ofInt 0)) 64 (Int32.toNatClampNeg (am_I (am_sI (am_sI h 51 22 ((am_I h 51 22) + (Int32.ofInt 1))) 63 (Int32.toNatClampNeg (am_I (am_sI h 51 22 ((am_I h 51 22) + (Int32.ofInt 1))) 51 22)) (Int32.ofInt 0)) 51 22)) (Int32.ofInt 0)) 51 22) 61 then (am_b2 (f_X9_newRow (am_sI (am_sI (am_sI (am_sI h 51 22 ((am_I h 51 22) + (Int32.ofInt 1))) 63 (Int32.toNatClampNeg (am_I (am_sI h 51 22 ((am_I h 51 22) + (Int32.ofInt 1))) 51 22)) (Int32.ofInt 0)) 64 (Int32.toNatClampNeg (am_I (am_sI (am_sI h 51 22 ((am_I h 51 22) + (Int32.ofInt 1))) 63 (Int32.toNatClampNeg (am_I (am_sI h 51 22 ((am_I h 51 22) + (Int32.ofInt 1))) 51 22)) (Int32.ofInt 0)) 51 22)) (Int32.ofInt 0)) 65 (Int32.toNatClampNeg (am_I (am_sI (am_sI (am_sI h 51 22 ((am_I h 51 22) + (Int32.ofInt 1))) 63 (Int32.toNatClampNeg (am_I (am_sI h 51 22 ((am_I h 51 22) + (Int32.ofInt 1))) 51 22)) (Int32.ofInt 0)) 64 (Int32.toNatClampNeg (am_I (am_sI (am_sI h 51 22 ((am_I h 51 22) + (Int32.ofInt 1))) 63 (Int32.toNatClampNeg (am_I (am_sI h 51 22 ((am_I h 51 22) + (Int32.ofInt 1))) 51 22)) (Int32.ofInt 0)) 51 22)) (Int32.ofInt 0)) 51 22)) (vp_nar (am_at 2) (Int32.ofInt 0)))) fun r4 h5 => (some ((), h5))) else none) else none) else none
set_option maxRecDepth 100000 in
theorem s_X9_openGroup (h : am_H) (hs : am_stat h) {v : Unit} {h' : am_H} (hf : f_X9_openGroup h = some (v, h')) : am_stat h' := by
  unfold f_X9_openGroup at hf
  obtain ⟨b1, hf⟩ := am_bis hf
  obtain ⟨b2, hf⟩ := am_bis hf
  obtain ⟨b3, hf⟩ := am_bis hf
  obtain ⟨r4, h5, e6, hf⟩ := am_b2_ok hf
  have hs := s_X9_newRow (am_sI (am_sI (am_sI (am_sI h 51 22 ((am_I h 51 22) + (Int32.ofInt 1))) 63 (Int32.toNatClampNeg (am_I (am_sI h 51 22 ((am_I h 51 22) + (Int32.ofInt 1))) 51 22)) (Int32.ofInt 0)) 64 (Int32.toNatClampNeg (am_I (am_sI (am_sI h 51 22 ((am_I h 51 22) + (Int32.ofInt 1))) 63 (Int32.toNatClampNeg (am_I (am_sI h 51 22 ((am_I h 51 22) + (Int32.ofInt 1))) 51 22)) (Int32.ofInt 0)) 51 22)) (Int32.ofInt 0)) 65 (Int32.toNatClampNeg (am_I (am_sI (am_sI (am_sI h 51 22 ((am_I h 51 22) + (Int32.ofInt 1))) 63 (Int32.toNatClampNeg (am_I (am_sI h 51 22 ((am_I h 51 22) + (Int32.ofInt 1))) 51 22)) (Int32.ofInt 0)) 64 (Int32.toNatClampNeg (am_I (am_sI (am_sI h 51 22 ((am_I h 51 22) + (Int32.ofInt 1))) 63 (Int32.toNatClampNeg (am_I (am_sI h 51 22 ((am_I h 51 22) + (Int32.ofInt 1))) 51 22)) (Int32.ofInt 0)) 51 22)) (Int32.ofInt 0)) 51 22)) (vp_nar (am_at 2) (Int32.ofInt 0))) hs e6
  obtain ⟨rfl, rfl⟩ := am_i2 hf
  exact hs
set_option maxRecDepth 100000 in
theorem c_X9_openGroup (h : am_H) (hs : am_stat h) {v : Unit} {h' : am_H} (hf : f_X9_openGroup h = some (v, h')) : AMet mX9_openGroup (rX9_openGroup 0 0) (fun r h2 => r = none ∧ h2 = h') [.ref 51] h := by
  unfold f_X9_openGroup at hf
  obtain ⟨b1, hf⟩ := am_bis hf
  obtain ⟨b2, hf⟩ := am_bis hf
  obtain ⟨b3, hf⟩ := am_bis hf
  refine AW_go okX9_openGroup 25 ?_
  refine And.intro (sK hs 51) ?_
  refine And.intro (sK hs 51) ?_
  refine And.intro (sK hs 51) (Exists.intro _ (And.intro (sA hs 51 19) ?_))
  refine And.intro (sK hs 51) ?_
  refine Exists.intro 61 (And.intro (sK hs 63) (And.intro (am_vp_ok b1) ?_))
  refine And.intro (sK hs 51) (Exists.intro _ (And.intro (sA hs 51 20) ?_))
  refine And.intro (sK hs 51) ?_
  refine Exists.intro 61 (And.intro (sK hs 64) (And.intro (am_vp_ok b2) ?_))
  refine And.intro (sK hs 51) (Exists.intro _ (And.intro (sA hs 51 21) ?_))
  refine And.intro (sK hs 51) ?_
  refine Exists.intro 2 (Exists.intro 61 (And.intro (by decide) (And.intro (sK hs 65) (And.intro (am_vp_ok b3) ?_))))
  obtain ⟨r4, h5, e6, hf⟩ := am_b2_ok hf
  refine AW_callV (As := []) (R' := rX9_newRow 0 0) (T := TX9) (N := 58) (ci := 9) (okX9_openGroup.1 41 _ _ rfl) lkX9_newRow kX9_159 rfl (sK hs 51) rfl (Nat.le_of_ble_eq_true rfl) ⟨by decide, by decide⟩ ⟨(Nat.le_of_ble_eq_true rfl), (Nat.le_of_ble_eq_true rfl)⟩ (Nat.le_of_ble_eq_true rfl) (c_X9_newRow (am_sI (am_sI (am_sI (am_sI h 51 22 ((am_I h 51 22) + (Int32.ofInt 1))) 63 (Int32.toNatClampNeg (am_I (am_sI h 51 22 ((am_I h 51 22) + (Int32.ofInt 1))) 51 22)) (Int32.ofInt 0)) 64 (Int32.toNatClampNeg (am_I (am_sI (am_sI h 51 22 ((am_I h 51 22) + (Int32.ofInt 1))) 63 (Int32.toNatClampNeg (am_I (am_sI h 51 22 ((am_I h 51 22) + (Int32.ofInt 1))) 51 22)) (Int32.ofInt 0)) 51 22)) (Int32.ofInt 0)) 65 (Int32.toNatClampNeg (am_I (am_sI (am_sI (am_sI h 51 22 ((am_I h 51 22) + (Int32.ofInt 1))) 63 (Int32.toNatClampNeg (am_I (am_sI h 51 22 ((am_I h 51 22) + (Int32.ofInt 1))) 51 22)) (Int32.ofInt 0)) 64 (Int32.toNatClampNeg (am_I (am_sI (am_sI h 51 22 ((am_I h 51 22) + (Int32.ofInt 1))) 63 (Int32.toNatClampNeg (am_I (am_sI h 51 22 ((am_I h 51 22) + (Int32.ofInt 1))) 51 22)) (Int32.ofInt 0)) 51 22)) (Int32.ofInt 0)) 51 22)) (vp_nar (am_at 2) (Int32.ofInt 0))) hs e6) (fun r h' hq => ?_)
  obtain ⟨rfl, hq⟩ := hq
  replace hq := hq.symm
  subst hq
  have hs := s_X9_newRow (am_sI (am_sI (am_sI (am_sI h 51 22 ((am_I h 51 22) + (Int32.ofInt 1))) 63 (Int32.toNatClampNeg (am_I (am_sI h 51 22 ((am_I h 51 22) + (Int32.ofInt 1))) 51 22)) (Int32.ofInt 0)) 64 (Int32.toNatClampNeg (am_I (am_sI (am_sI h 51 22 ((am_I h 51 22) + (Int32.ofInt 1))) 63 (Int32.toNatClampNeg (am_I (am_sI h 51 22 ((am_I h 51 22) + (Int32.ofInt 1))) 51 22)) (Int32.ofInt 0)) 51 22)) (Int32.ofInt 0)) 65 (Int32.toNatClampNeg (am_I (am_sI (am_sI (am_sI h 51 22 ((am_I h 51 22) + (Int32.ofInt 1))) 63 (Int32.toNatClampNeg (am_I (am_sI h 51 22 ((am_I h 51 22) + (Int32.ofInt 1))) 51 22)) (Int32.ofInt 0)) 64 (Int32.toNatClampNeg (am_I (am_sI (am_sI h 51 22 ((am_I h 51 22) + (Int32.ofInt 1))) 63 (Int32.toNatClampNeg (am_I (am_sI h 51 22 ((am_I h 51 22) + (Int32.ofInt 1))) 51 22)) (Int32.ofInt 0)) 51 22)) (Int32.ofInt 0)) 51 22)) (vp_nar (am_at 2) (Int32.ofInt 0))) hs e6
  refine AW_go okX9_openGroup 1 ?_
  obtain ⟨rfl, rfl⟩ := am_i2 hf
  exact And.intro ⟨(Nat.le_of_ble_eq_true rfl), (Nat.le_of_ble_eq_true rfl)⟩ (And.intro rfl ⟨rfl, rfl⟩)
def f_X9_endRow (h : am_H) : Option (Unit × am_H) := bif am_vp (am_I h 51 22) 61 then (bif am_vp (am_I (am_sI h 63 (Int32.toNatClampNeg (am_I h 51 22)) ((am_I h 63 (Int32.toNatClampNeg (am_I h 51 22))) ||| (am_I h 60 (Int32.toNatClampNeg (am_I h 51 22))))) 51 22) 61 then (bif am_vp (am_I (am_sI (am_sI h 63 (Int32.toNatClampNeg (am_I h 51 22)) ((am_I h 63 (Int32.toNatClampNeg (am_I h 51 22))) ||| (am_I h 60 (Int32.toNatClampNeg (am_I h 51 22))))) 64 (Int32.toNatClampNeg (am_I (am_sI h 63 (Int32.toNatClampNeg (am_I h 51 22)) ((am_I h 63 (Int32.toNatClampNeg (am_I h 51 22))) ||| (am_I h 60 (Int32.toNatClampNeg (am_I h 51 22))))) 51 22)) ((am_I (am_sI h 63 (Int32.toNatClampNeg (am_I h 51 22)) ((am_I h 63 (Int32.toNatClampNeg (am_I h 51 22))) ||| (am_I h 60 (Int32.toNatClampNeg (am_I h 51 22))))) 64 (Int32.toNatClampNeg (am_I (am_sI h 63 (Int32.toNatClampNeg (am_I h 51 22)) ((am_I h 63 (Int32.toNatClampNeg (am_I h 51 22))) ||| (am_I h 60 (Int32.toNatClampNeg (am_I h 51 22))))) 51 22))) ||| (am_I (am_sI h 63 (Int32.toNatClampNeg (am_I h 51 22)) ((am_I h 63 (Int32.toNatClampNeg (am_I h 51 22))) ||| (am_I h 60 (Int32.toNatClampNeg (am_I h 51 22))))) 61 (Int32.toNatClampNeg (am_I (am_sI h 63 (Int32.toNatClampNeg (am_I h 51 22)) ((am_I h 63 (Int32.toNatClampNeg (am_I h 51 22))) ||| (am_I h 60 (Int32.toNatClampNeg (am_I h 51 22))))) 51 22))))) 51 22) 61 then (Option.bind ((if (am_I (am_sI (am_sI h 63 (Int32.toNatClampNeg (am_I h 51 22)) ((am_I h 63 (Int32.toNatClampNeg (am_I h 51 22))) ||| (am_I h 60 (Int32.toNatClampNeg (am_I h 51 22))))) 64 (Int32.toNatClampNeg (am_I (am_sI h 63 (Int32.toNatClampNeg (am_I h 51 22)) ((am_I h 63 (Int32.toNatClampNeg (am_I h 51 22))) ||| (am_I h 60 (Int32.toNatClampNeg (am_I h 51 22))))) 51 22)) ((am_I (am_sI h 63 (Int32.toNatClampNeg (am_I h 51 22)) ((am_I h 63 (Int32.toNatClampNeg (am_I h 51 22))) ||| (am_I h 60 (Int32.toNatClampNeg (am_I h 51 22))))) 64 (Int32.toNatClampNeg (am_I (am_sI h 63 (Int32.toNatClampNeg (am_I h 51 22)) ((am_I h 63 (Int32.toNatClampNeg (am_I h 51 22))) ||| (am_I h 60 (Int32.toNatClampNeg (am_I h 51 22))))) 51 22))) ||| (am_I (am_sI h 63 (Int32.toNatClampNeg (am_I h 51 22)) ((am_I h 63 (Int32.toNatClampNeg (am_I h 51 22))) ||| (am_I h 60 (Int32.toNatClampNeg (am_I h 51 22))))) 61 (Int32.toNatClampNeg (am_I (am_sI h 63 (Int32.toNatClampNeg (am_I h 51 22)) ((am_I h 63 (Int32.toNatClampNeg (am_I h 51 22))) ||| (am_I h 60 (Int32.toNatClampNeg (am_I h 51 22))))) 51 22))))) 65 (Int32.toNatClampNeg (am_I (am_sI (am_sI h 63 (Int32.toNatClampNeg (am_I h 51 22)) ((am_I h 63 (Int32.toNatClampNeg (am_I h 51 22))) ||| (am_I h 60 (Int32.toNatClampNeg (am_I h 51 22))))) 64 (Int32.toNatClampNeg (am_I (am_sI h 63 (Int32.toNatClampNeg (am_I h 51 22)) ((am_I h 63 (Int32.toNatClampNeg (am_I h 51 22))) ||| (am_I h 60 (Int32.toNatClampNeg (am_I h 51 22))))) 51 22)) ((am_I (am_sI h 63 (Int32.toNatClampNeg (am_I h 51 22)) ((am_I h 63 (Int32.toNatClampNeg (am_I h 51 22))) ||| (am_I h 60 (Int32.toNatClampNeg (am_I h 51 22))))) 64 (Int32.toNatClampNeg (am_I (am_sI h 63 (Int32.toNatClampNeg (am_I h 51 22)) ((am_I h 63 (Int32.toNatClampNeg (am_I h 51 22))) ||| (am_I h 60 (Int32.toNatClampNeg (am_I h 51 22))))) 51 22))) ||| (am_I (am_sI h 63 (Int32.toNatClampNeg (am_I h 51 22)) ((am_I h 63 (Int32.toNatClampNeg (am_I h 51 22))) ||| (am_I h 60 (Int32.toNatClampNeg (am_I h 51 22))))) 61 (Int32.toNatClampNeg (am_I (am_sI h 63 (Int32.toNatClampNeg (am_I h 51 22)) ((am_I h 63 (Int32.toNatClampNeg (am_I h 51 22))) ||| (am_I h 60 (Int32.toNatClampNeg (am_I h 51 22))))) 51 22))))) 51 22))) = 0 then (if (am_I (am_sI (am_sI h 63 (Int32.toNatClampNeg (am_I h 51 22)) ((am_I h 63 (Int32.toNatClampNeg (am_I h 51 22))) ||| (am_I h 60 (Int32.toNatClampNeg (am_I h 51 22))))) 64 (Int32.toNatClampNeg (am_I (am_sI h 63 (Int32.toNatClampNeg (am_I h 51 22)) ((am_I h 63 (Int32.toNatClampNeg (am_I h 51 22))) ||| (am_I h 60 (Int32.toNatClampNeg (am_I h 51 22))))) 51 22)) ((am_I (am_sI h 63 (Int32.toNatClampNeg (am_I h 51 22)) ((am_I h 63 (Int32.toNatClampNeg (am_I h 51 22))) ||| (am_I h 60 (Int32.toNatClampNeg (am_I h 51 22))))) 64 (Int32.toNatClampNeg (am_I (am_sI h 63 (Int32.toNatClampNeg (am_I h 51 22)) ((am_I h 63 (Int32.toNatClampNeg (am_I h 51 22))) ||| (am_I h 60 (Int32.toNatClampNeg (am_I h 51 22))))) 51 22))) ||| (am_I (am_sI h 63 (Int32.toNatClampNeg (am_I h 51 22)) ((am_I h 63 (Int32.toNatClampNeg (am_I h 51 22))) ||| (am_I h 60 (Int32.toNatClampNeg (am_I h 51 22))))) 61 (Int32.toNatClampNeg (am_I (am_sI h 63 (Int32.toNatClampNeg (am_I h 51 22)) ((am_I h 63 (Int32.toNatClampNeg (am_I h 51 22))) ||| (am_I h 60 (Int32.toNatClampNeg (am_I h 51 22))))) 51 22))))) 62 (Int32.toNatClampNeg (am_I (am_sI (am_sI h 63 (Int32.toNatClampNeg (am_I h 51 22)) ((am_I h 63 (Int32.toNatClampNeg (am_I h 51 22))) ||| (am_I h 60 (Int32.toNatClampNeg (am_I h 51 22))))) 64 (Int32.toNatClampNeg (am_I (am_sI h 63 (Int32.toNatClampNeg (am_I h 51 22)) ((am_I h 63 (Int32.toNatClampNeg (am_I h 51 22))) ||| (am_I h 60 (Int32.toNatClampNeg (am_I h 51 22))))) 51 22)) ((am_I (am_sI h 63 (Int32.toNatClampNeg (am_I h 51 22)) ((am_I h 63 (Int32.toNatClampNeg (am_I h 51 22))) ||| (am_I h 60 (Int32.toNatClampNeg (am_I h 51 22))))) 64 (Int32.toNatClampNeg (am_I (am_sI h 63 (Int32.toNatClampNeg (am_I h 51 22)) ((am_I h 63 (Int32.toNatClampNeg (am_I h 51 22))) ||| (am_I h 60 (Int32.toNatClampNeg (am_I h 51 22))))) 51 22))) ||| (am_I (am_sI h 63 (Int32.toNatClampNeg (am_I h 51 22)) ((am_I h 63 (Int32.toNatClampNeg (am_I h 51 22))) ||| (am_I h 60 (Int32.toNatClampNeg (am_I h 51 22))))) 61 (Int32.toNatClampNeg (am_I (am_sI h 63 (Int32.toNatClampNeg (am_I h 51 22)) ((am_I h 63 (Int32.toNatClampNeg (am_I h 51 22))) ||| (am_I h 60 (Int32.toNatClampNeg (am_I h 51 22))))) 51 22))))) 51 22))) = 0 then some (Int32.ofInt 0) else some (Int32.ofInt 1)) else some (Int32.ofInt 1))) fun y4 => (some ((), (am_sI (am_sI (am_sI h 63 (Int32.toNatClampNeg (am_I h 51 22)) ((am_I h 63 (Int32.toNatClampNeg (am_I h 51 22))) ||| (am_I h 60 (Int32.toNatClampNeg (am_I h 51 22))))) 64 (Int32.toNatClampNeg (am_I (am_sI h 63 (Int32.toNatClampNeg (am_I h 51 22)) ((am_I h 63 (Int32.toNatClampNeg (am_I h 51 22))) ||| (am_I h 60 (Int32.toNatClampNeg (am_I h 51 22))))) 51 22)) ((am_I (am_sI h 63 (Int32.toNatClampNeg (am_I h 51 22)) ((am_I h 63 (Int32.toNatClampNeg (am_I h 51 22))) ||| (am_I h 60 (Int32.toNatClampNeg (am_I h 51 22))))) 64 (Int32.toNatClampNeg (am_I (am_sI h 63 (Int32.toNatClampNeg (am_I h 51 22)) ((am_I h 63 (Int32.toNatClampNeg (am_I h 51 22))) ||| (am_I h 60 (Int32.toNatClampNeg (am_I h 51 22))))) 51 22))) ||| (am_I (am_sI h 63 (Int32.toNatClampNeg (am_I h 51 22)) ((am_I h 63 (Int32.toNatClampNeg (am_I h 51 22))) ||| (am_I h 60 (Int32.toNatClampNeg (am_I h 51 22))))) 61 (Int32.toNatClampNeg (am_I (am_sI h 63 (Int32.toNatClampNeg (am_I h 51 22)) ((am_I h 63 (Int32.toNatClampNeg (am_I h 51 22))) ||| (am_I h 60 (Int32.toNatClampNeg (am_I h 51 22))))) 51 22))))) 65 (Int32.toNatClampNeg (am_I (am_sI (am_sI h 63 (Int32.toNatClampNeg (am_I h 51 22)) ((am_I h 63 (Int32.toNatClampNeg (am_I h 51 22))) ||| (am_I h 60 (Int32.toNatClampNeg (am_I h 51 22))))) 64 (Int32.toNatClampNeg (am_I (am_sI h 63 (Int32.toNatClampNeg (am_I h 51 22)) ((am_I h 63 (Int32.toNatClampNeg (am_I h 51 22))) ||| (am_I h 60 (Int32.toNatClampNeg (am_I h 51 22))))) 51 22)) ((am_I (am_sI h 63 (Int32.toNatClampNeg (am_I h 51 22)) ((am_I h 63 (Int32.toNatClampNeg (am_I h 51 22))) ||| (am_I h 60 (Int32.toNatClampNeg (am_I h 51 22))))) 64 (Int32.toNatClampNeg (am_I (am_sI h 63 (Int32.toNatClampNeg (am_I h 51 22)) ((am_I h 63 (Int32.toNatClampNeg (am_I h 51 22))) ||| (am_I h 60 (Int32.toNatClampNeg (am_I h 51 22))))) 51 22))) ||| (am_I (am_sI h 63 (Int32.toNatClampNeg (am_I h 51 22)) ((am_I h 63 (Int32.toNatClampNeg (am_I h 51 22))) ||| (am_I h 60 (Int32.toNatClampNeg (am_I h 51 22))))) 61 (Int32.toNatClampNeg (am_I (am_sI h 63 (Int32.toNatClampNeg (am_I h 51 22)) ((am_I h 63 (Int32.toNatClampNeg (am_I h 51 22))) ||| (am_I h 60 (Int32.toNatClampNeg (am_I h 51 22))))) 51 22))))) 51 22)) (vp_nar (am_at 2) y4))))) else none) else none) else none
set_option maxRecDepth 100000 in
theorem s_X9_endRow (h : am_H) (hs : am_stat h) {v : Unit} {h' : am_H} (hf : f_X9_endRow h = some (v, h')) : am_stat h' := by
  unfold f_X9_endRow at hf
  obtain ⟨b1, hf⟩ := am_bis hf
  obtain ⟨b2, hf⟩ := am_bis hf
  obtain ⟨b3, hf⟩ := am_bis hf
  obtain ⟨y4, j5, hf⟩ := am_bnd hf
  obtain ⟨rfl, rfl⟩ := am_i2 hf
  exact hs
set_option maxRecDepth 100000 in
theorem c_X9_endRow (h : am_H) (hs : am_stat h) {v : Unit} {h' : am_H} (hf : f_X9_endRow h = some (v, h')) : AMet mX9_endRow (rX9_endRow 0 0) (fun r h2 => r = none ∧ h2 = h') [.ref 51] h := by
  unfold f_X9_endRow at hf
  obtain ⟨b1, hf⟩ := am_bis hf
  obtain ⟨b2, hf⟩ := am_bis hf
  obtain ⟨b3, hf⟩ := am_bis hf
  refine AW_go okX9_endRow 35 ?_
  refine And.intro (sK hs 51) (Exists.intro _ (And.intro (sA hs 51 19) ?_))
  refine And.intro (sK hs 51) ?_
  refine Exists.intro 61 (And.intro (sK hs 63) (And.intro (am_vp_ok b1) ?_))
  refine And.intro (sK hs 51) (Exists.intro _ (And.intro (sA hs 51 16) ?_))
  refine And.intro (sK hs 51) ?_
  refine Exists.intro 61 (And.intro (sK hs 60) (And.intro (am_vp_ok b1) ?_))
  refine Exists.intro 61 (And.intro (sK hs 63) (And.intro (am_vp_ok b1) ?_))
  refine And.intro (sK hs 51) (Exists.intro _ (And.intro (sA hs 51 20) ?_))
  refine And.intro (sK hs 51) ?_
  refine Exists.intro 61 (And.intro (sK hs 64) (And.intro (am_vp_ok b2) ?_))
  refine And.intro (sK hs 51) (Exists.intro _ (And.intro (sA hs 51 17) ?_))
  refine And.intro (sK hs 51) ?_
  refine Exists.intro 61 (And.intro (sK hs 61) (And.intro (am_vp_ok b2) ?_))
  refine Exists.intro 61 (And.intro (sK hs 64) (And.intro (am_vp_ok b2) ?_))
  refine And.intro (sK hs 51) (Exists.intro _ (And.intro (sA hs 51 21) ?_))
  refine And.intro (sK hs 51) ?_
  refine And.intro (sK hs 51) (Exists.intro _ (And.intro (sA hs 51 21) ?_))
  refine And.intro (sK hs 51) ?_
  refine Exists.intro 2 (Exists.intro 61 (And.intro (by decide) (And.intro (sK hs 65) (And.intro (am_vp_ok b3) ?_))))
  obtain ⟨y4, j5, hf⟩ := am_bnd hf
  refine am_cut (P := AW mX9_endRow (rX9_endRow 0 0) (fun r h2 => r = none ∧ h2 = h') 79 [(0, .ref 51)] [.int y4, .int (am_I (am_sI (am_sI h 63 (Int32.toNatClampNeg (am_I h 51 22)) ((am_I h 63 (Int32.toNatClampNeg (am_I h 51 22))) ||| (am_I h 60 (Int32.toNatClampNeg (am_I h 51 22))))) 64 (Int32.toNatClampNeg (am_I (am_sI h 63 (Int32.toNatClampNeg (am_I h 51 22)) ((am_I h 63 (Int32.toNatClampNeg (am_I h 51 22))) ||| (am_I h 60 (Int32.toNatClampNeg (am_I h 51 22))))) 51 22)) ((am_I (am_sI h 63 (Int32.toNatClampNeg (am_I h 51 22)) ((am_I h 63 (Int32.toNatClampNeg (am_I h 51 22))) ||| (am_I h 60 (Int32.toNatClampNeg (am_I h 51 22))))) 64 (Int32.toNatClampNeg (am_I (am_sI h 63 (Int32.toNatClampNeg (am_I h 51 22)) ((am_I h 63 (Int32.toNatClampNeg (am_I h 51 22))) ||| (am_I h 60 (Int32.toNatClampNeg (am_I h 51 22))))) 51 22))) ||| (am_I (am_sI h 63 (Int32.toNatClampNeg (am_I h 51 22)) ((am_I h 63 (Int32.toNatClampNeg (am_I h 51 22))) ||| (am_I h 60 (Int32.toNatClampNeg (am_I h 51 22))))) 61 (Int32.toNatClampNeg (am_I (am_sI h 63 (Int32.toNatClampNeg (am_I h 51 22)) ((am_I h 63 (Int32.toNatClampNeg (am_I h 51 22))) ||| (am_I h 60 (Int32.toNatClampNeg (am_I h 51 22))))) 51 22))))) 51 22), .ref 65] (am_sI (am_sI h 63 (Int32.toNatClampNeg (am_I h 51 22)) ((am_I h 63 (Int32.toNatClampNeg (am_I h 51 22))) ||| (am_I h 60 (Int32.toNatClampNeg (am_I h 51 22))))) 64 (Int32.toNatClampNeg (am_I (am_sI h 63 (Int32.toNatClampNeg (am_I h 51 22)) ((am_I h 63 (Int32.toNatClampNeg (am_I h 51 22))) ||| (am_I h 60 (Int32.toNatClampNeg (am_I h 51 22))))) 51 22)) ((am_I (am_sI h 63 (Int32.toNatClampNeg (am_I h 51 22)) ((am_I h 63 (Int32.toNatClampNeg (am_I h 51 22))) ||| (am_I h 60 (Int32.toNatClampNeg (am_I h 51 22))))) 64 (Int32.toNatClampNeg (am_I (am_sI h 63 (Int32.toNatClampNeg (am_I h 51 22)) ((am_I h 63 (Int32.toNatClampNeg (am_I h 51 22))) ||| (am_I h 60 (Int32.toNatClampNeg (am_I h 51 22))))) 51 22))) ||| (am_I (am_sI h 63 (Int32.toNatClampNeg (am_I h 51 22)) ((am_I h 63 (Int32.toNatClampNeg (am_I h 51 22))) ||| (am_I h 60 (Int32.toNatClampNeg (am_I h 51 22))))) 61 (Int32.toNatClampNeg (am_I (am_sI h 63 (Int32.toNatClampNeg (am_I h 51 22)) ((am_I h 63 (Int32.toNatClampNeg (am_I h 51 22))) ||| (am_I h 60 (Int32.toNatClampNeg (am_I h 51 22))))) 51 22))))) 0 0) (fun hJ5 => ?_) ?_
  · have hs := hs
    refine AW_go okX9_endRow 1 ?_
    refine And.intro (fun c6 => ?_) (fun c6 => ?_)
    · rw [if_neg c6] at j5
      refine AW_go okX9_endRow 2 ?_
      obtain rfl := am_i1 j5
      exact AW_pick [0] rfl hJ5
    · rw [if_pos c6] at j5
      refine AW_go okX9_endRow 6 ?_
      refine And.intro (sK hs 51) (Exists.intro _ (And.intro (sA hs 51 18) ?_))
      refine And.intro (sK hs 51) ?_
      refine Exists.intro 2 (Exists.intro 61 (And.intro (by decide) (And.intro (sK hs 62) (And.intro (am_vp_ok b3) ?_))))
      refine And.intro (fun c7 => ?_) (fun c7 => ?_)
      · rw [if_pos c7] at j5
        refine AW_go okX9_endRow 1 ?_
        obtain rfl := am_i1 j5
        exact AW_pick [0] rfl hJ5
      · rw [if_neg c7] at j5
        refine AW_go okX9_endRow 2 ?_
        obtain rfl := am_i1 j5
        exact AW_pick [0] rfl hJ5
  refine AW_go okX9_endRow 2 ?_
  refine Exists.intro 2 (Exists.intro 61 (And.intro (by decide) (And.intro (sK hs 65) (And.intro (am_vp_ok b3) ?_))))
  obtain ⟨rfl, rfl⟩ := am_i2 hf
  exact And.intro ⟨(Nat.le_of_ble_eq_true rfl), (Nat.le_of_ble_eq_true rfl)⟩ (And.intro rfl ⟨rfl, rfl⟩)
def g_X9_join : Nat → Nat → Int32 → Int32 → Int32 → Int32 → am_H → Option (Unit × am_H)
  | 0, _, _, _, _, _, _ => none
  | n + 1, _, a1, a2, a3, x4i, h => (if (Int32.ofInt 16) ≤ x4i then some ((), h) else bif am_vp (((Int32.ofInt 16) * a1) + x4i) 128 then (Option.bind ((if ((a2 >>> (x4i &&& 31)) &&& (Int32.ofInt 1)) = (Int32.ofInt 1) then some a3 else some (Int32.ofInt 0))) fun y3 => (g_X9_join n 0 a1 a2 a3 (x4i + Int32.ofInt 1) (am_sI h 54 (Int32.toNatClampNeg (((Int32.ofInt 16) * a1) + x4i)) ((am_I h 54 (Int32.toNatClampNeg (((Int32.ofInt 16) * a1) + x4i))) ||| y3)))) else none)
set_option maxRecDepth 100000 in
set_option maxHeartbeats 4000000 in
theorem m_X9_join (n : Nat) : (∀ (a1 : Int32) (a2 : Int32) (a3 : Int32) (x4i : Int32) (h : am_H) (v : Unit) (h' : am_H), am_stat h → g_X9_join n 0 a1 a2 a3 x4i h = some (v, h') → am_stat h') := by
  induction n with
  | zero => exact fun a1 a2 a3 x4i h v h' hs hf => (by cases hf)
  | succ n ih =>
    skip
    · intro a1 a2 a3 x4i h v h' hs hf
      have hf : ((if (Int32.ofInt 16) ≤ x4i then some ((), h) else bif am_vp (((Int32.ofInt 16) * a1) + x4i) 128 then (Option.bind ((if ((a2 >>> (x4i &&& 31)) &&& (Int32.ofInt 1)) = (Int32.ofInt 1) then some a3 else some (Int32.ofInt 0))) fun y3 => (g_X9_join n 0 a1 a2 a3 (x4i + Int32.ofInt 1) (am_sI h 54 (Int32.toNatClampNeg (((Int32.ofInt 16) * a1) + x4i)) ((am_I h 54 (Int32.toNatClampNeg (((Int32.ofInt 16) * a1) + x4i))) ||| y3)))) else none)) = some (v, h') := hf
      by_cases c1 : (Int32.ofInt 16) ≤ x4i
      · rw [if_pos c1] at hf
        obtain ⟨rfl, rfl⟩ := am_i2 hf
        exact hs
      · rw [if_neg c1] at hf
        obtain ⟨b2, hf⟩ := am_bis hf
        obtain ⟨y3, j4, hf⟩ := am_bnd hf
        exact ih a1 a2 a3 (x4i + Int32.ofInt 1) (am_sI h 54 (Int32.toNatClampNeg (((Int32.ofInt 16) * a1) + x4i)) ((am_I h 54 (Int32.toNatClampNeg (((Int32.ofInt 16) * a1) + x4i))) ||| y3)) _ _ hs hf
set_option maxRecDepth 100000 in
set_option maxHeartbeats 4000000 in
theorem l_X9_join (n : Nat) : (∀ (a1 : Int32) (a2 : Int32) (a3 : Int32) (x4i : Int32) (h : am_H) (v : Unit) (h' : am_H), am_stat h → g_X9_join n 0 a1 a2 a3 x4i h = some (v, h') → AW mX9_join (rX9_join 0 0) (fun r h2 => r = none ∧ h2 = h') 3 [(0, .ref 51), (1, .int a1), (2, .int a2), (3, .int a3), (4, .int x4i)] [] h 0 0) := by
  induction n with
  | zero => exact fun a1 a2 a3 x4i h v h' hs hf => (by cases hf)
  | succ n ih =>
    skip
    · intro a1 a2 a3 x4i h v h' hs hf
      have hf : ((if (Int32.ofInt 16) ≤ x4i then some ((), h) else bif am_vp (((Int32.ofInt 16) * a1) + x4i) 128 then (Option.bind ((if ((a2 >>> (x4i &&& 31)) &&& (Int32.ofInt 1)) = (Int32.ofInt 1) then some a3 else some (Int32.ofInt 0))) fun y3 => (g_X9_join n 0 a1 a2 a3 (x4i + Int32.ofInt 1) (am_sI h 54 (Int32.toNatClampNeg (((Int32.ofInt 16) * a1) + x4i)) ((am_I h 54 (Int32.toNatClampNeg (((Int32.ofInt 16) * a1) + x4i))) ||| y3)))) else none)) = some (v, h') := hf
      refine AW_go okX9_join 3 ?_
      refine And.intro (fun c1 => ?_) (fun c1 => ?_)
      · rw [if_pos c1] at hf
        refine AW_go okX9_join 1 ?_
        obtain ⟨rfl, rfl⟩ := am_i2 hf
        exact And.intro ⟨(Nat.le_of_ble_eq_true rfl), (Nat.le_of_ble_eq_true rfl)⟩ (And.intro rfl ⟨rfl, rfl⟩)
      · rw [if_neg c1] at hf
        obtain ⟨b2, hf⟩ := am_bis hf
        refine AW_go okX9_join 15 ?_
        refine And.intro (sK hs 51) (Exists.intro _ (And.intro (sA hs 51 4) ?_))
        refine Exists.intro 128 (And.intro (sK hs 54) (And.intro (am_vp_ok b2) ?_))
        obtain ⟨y3, j4, hf⟩ := am_bnd hf
        refine am_cut (P := AW mX9_join (rX9_join 0 0) (fun r h2 => r = none ∧ h2 = h') 38 [(0, .ref 51), (1, .int a1), (2, .int a2), (3, .int a3), (4, .int x4i)] [.int y3, .int (am_I h 54 (Int32.toNatClampNeg (((Int32.ofInt 16) * a1) + x4i))), .int (((Int32.ofInt 16) * a1) + x4i), .ref 54] h 0 0) (fun hJ4 => ?_) ?_
        · have hs := hs
          refine AW_go okX9_join 1 ?_
          refine And.intro (fun c5 => ?_) (fun c5 => ?_)
          · rw [if_neg c5] at j4
            refine AW_go okX9_join 1 ?_
            obtain rfl := am_i1 j4
            exact AW_pick [0, 1, 2, 3, 4] rfl hJ4
          · rw [if_pos c5] at j4
            refine AW_go okX9_join 2 ?_
            obtain rfl := am_i1 j4
            exact AW_pick [0, 1, 2, 3, 4] rfl hJ4
        refine AW_go okX9_join 4 ?_
        refine Exists.intro 128 (And.intro (sK hs 54) (And.intro (am_vp_ok b2) ?_))
        refine AW_pick (lv' := [(0, .ref 51), (1, .int a1), (2, .int a2), (3, .int a3), (4, .int (x4i + Int32.ofInt 1))]) [1, 2, 3, 4, 0] rfl ?_
        exact ih a1 a2 a3 (x4i + Int32.ofInt 1) (am_sI h 54 (Int32.toNatClampNeg (((Int32.ofInt 16) * a1) + x4i)) ((am_I h 54 (Int32.toNatClampNeg (((Int32.ofInt 16) * a1) + x4i))) ||| y3)) _ _ hs hf
def f_X9_join (n : Nat) (a1 : Int32) (a2 : Int32) (a3 : Int32) (h : am_H) : Option (Unit × am_H) := g_X9_join n 0 a1 a2 a3 (Int32.ofInt 1) h
set_option maxRecDepth 100000 in
theorem s_X9_join (n : Nat) (a1 : Int32) (a2 : Int32) (a3 : Int32) (h : am_H) (hs : am_stat h) {v : Unit} {h' : am_H} (hf : f_X9_join n a1 a2 a3 h = some (v, h')) : am_stat h' := by
  unfold f_X9_join at hf
  exact (m_X9_join n) a1 a2 a3 (Int32.ofInt 1) h _ _ hs hf
set_option maxRecDepth 100000 in
theorem c_X9_join (n : Nat) (a1 : Int32) (a2 : Int32) (a3 : Int32) (h : am_H) (hs : am_stat h) {v : Unit} {h' : am_H} (hf : f_X9_join n a1 a2 a3 h = some (v, h')) : AMet mX9_join (rX9_join 0 0) (fun r h2 => r = none ∧ h2 = h') [.ref 51, .int a1, .int a2, .int a3] h := by
  unfold f_X9_join at hf
  refine AW_go okX9_join 2 ?_
  refine AW_pick (lv' := [(0, .ref 51), (1, .int a1), (2, .int a2), (3, .int a3), (4, .int (Int32.ofInt 1))]) [1, 2, 3, 4, 0] rfl ?_
  exact (l_X9_join n) a1 a2 a3 (Int32.ofInt 1) h _ _ hs hf
def f_X9_item (n : Nat) (a1 : Int32) (a2 : Int32) (a3 : Int32) (a4 : Int32) (h : am_H) : Option (Unit × am_H) := bif am_vp (am_I h 51 22) 61 then (am_b2 (f_X9_join n a1 (am_I h 61 (Int32.toNatClampNeg (am_I h 51 22))) a2 h) fun r2 h3 => (bif am_vp (am_I h3 51 22) 61 then (Option.bind ((if (am_I h3 62 (Int32.toNatClampNeg (am_I h3 51 22))) = 0 then some (Int32.ofInt 0) else some a2)) fun y6 => (Option.bind ((if a4 = 0 then some a3 else bif am_vp (am_I (am_sI h3 60 (Int32.toNatClampNeg (am_I h3 51 22)) ((am_I h3 60 (Int32.toNatClampNeg (am_I h3 51 22))) ||| y6)) 51 22) 61 then (some ((am_I (am_sI h3 60 (Int32.toNatClampNeg (am_I h3 51 22)) ((am_I h3 60 (Int32.toNatClampNeg (am_I h3 51 22))) ||| y6)) 61 (Int32.toNatClampNeg (am_I (am_sI h3 60 (Int32.toNatClampNeg (am_I h3 51 22)) ((am_I h3 60 (Int32.toNatClampNeg (am_I h3 51 22))) ||| y6)) 51 22))) ||| a3)) else none)) fun y59 => (bif am_vp (am_I (am_sI h3 60 (Int32.toNatClampNeg (am_I h3 51 22)) ((am_I h3 60 (Int32.toNatClampNeg (am_I h3 51 22))) ||| y6)) 51 22) 61 then (bif am_vp (am_I (am_sI (am_sI h3 60 (Int32.toNatClampNeg (am_I h3 51 22)) ((am_I h3 60 (Int32.toNatClampNeg (am_I h3 51 22))) ||| y6)) 61 (Int32.toNatClampNeg (am_I (am_sI h3 60 (Int32.toNatClampNeg (am_I h3 51 22)) ((am_I h3 60 (Int32.toNatClampNeg (am_I h3 51 22))) ||| y6)) 51 22)) y59) 51 22) 61 then (Option.bind ((if (am_I (am_sI (am_sI h3 60 (Int32.toNatClampNeg (am_I h3 51 22)) ((am_I h3 60 (Int32.toNatClampNeg (am_I h3 51 22))) ||| y6)) 61 (Int32.toNatClampNeg (am_I (am_sI h3 60 (Int32.toNatClampNeg (am_I h3 51 22)) ((am_I h3 60 (Int32.toNatClampNeg (am_I h3 51 22))) ||| y6)) 51 22)) y59) 62 (Int32.toNatClampNeg (am_I (am_sI (am_sI h3 60 (Int32.toNatClampNeg (am_I h3 51 22)) ((am_I h3 60 (Int32.toNatClampNeg (am_I h3 51 22))) ||| y6)) 61 (Int32.toNatClampNeg (am_I (am_sI h3 60 (Int32.toNatClampNeg (am_I h3 51 22)) ((am_I h3 60 (Int32.toNatClampNeg (am_I h3 51 22))) ||| y6)) 51 22)) y59) 51 22))) = 0 then some (Int32.ofInt 0) else (if a4 = 0 then some (Int32.ofInt 0) else some (Int32.ofInt 1)))) fun y115 => (some ((), (am_sI (am_sI (am_sI h3 60 (Int32.toNatClampNeg (am_I h3 51 22)) ((am_I h3 60 (Int32.toNatClampNeg (am_I h3 51 22))) ||| y6)) 61 (Int32.toNatClampNeg (am_I (am_sI h3 60 (Int32.toNatClampNeg (am_I h3 51 22)) ((am_I h3 60 (Int32.toNatClampNeg (am_I h3 51 22))) ||| y6)) 51 22)) y59) 62 (Int32.toNatClampNeg (am_I (am_sI (am_sI h3 60 (Int32.toNatClampNeg (am_I h3 51 22)) ((am_I h3 60 (Int32.toNatClampNeg (am_I h3 51 22))) ||| y6)) 61 (Int32.toNatClampNeg (am_I (am_sI h3 60 (Int32.toNatClampNeg (am_I h3 51 22)) ((am_I h3 60 (Int32.toNatClampNeg (am_I h3 51 22))) ||| y6)) 51 22)) y59) 51 22)) (vp_nar (am_at 2) y115))))) else none) else none))) else none)) else none
set_option maxRecDepth 100000 in
theorem s_X9_item (n : Nat) (a1 : Int32) (a2 : Int32) (a3 : Int32) (a4 : Int32) (h : am_H) (hs : am_stat h) {v : Unit} {h' : am_H} (hf : f_X9_item n a1 a2 a3 a4 h = some (v, h')) : am_stat h' := by
  unfold f_X9_item at hf
  obtain ⟨b1, hf⟩ := am_bis hf
  obtain ⟨r2, h3, e4, hf⟩ := am_b2_ok hf
  have hs := s_X9_join n a1 (am_I h 61 (Int32.toNatClampNeg (am_I h 51 22))) a2 h hs e4
  obtain ⟨b5, hf⟩ := am_bis hf
  obtain ⟨y6, j7, hf⟩ := am_bnd hf
  obtain ⟨y59, j60, hf⟩ := am_bnd hf
  obtain ⟨b113, hf⟩ := am_bis hf
  obtain ⟨b114, hf⟩ := am_bis hf
  obtain ⟨y115, j116, hf⟩ := am_bnd hf
  obtain ⟨rfl, rfl⟩ := am_i2 hf
  exact hs
set_option maxRecDepth 100000 in
theorem c_X9_item (n : Nat) (a1 : Int32) (a2 : Int32) (a3 : Int32) (a4 : Int32) (h : am_H) (hs : am_stat h) {v : Unit} {h' : am_H} (hf : f_X9_item n a1 a2 a3 a4 h = some (v, h')) : AMet mX9_item (rX9_item 0 0) (fun r h2 => r = none ∧ h2 = h') [.ref 51, .int a1, .int a2, .int a3, .int a4] h := by
  unfold f_X9_item at hf
  obtain ⟨b1, hf⟩ := am_bis hf
  refine AW_go okX9_item 8 ?_
  refine And.intro (sK hs 51) (Exists.intro _ (And.intro (sA hs 51 17) ?_))
  refine And.intro (sK hs 51) ?_
  refine Exists.intro 61 (And.intro (sK hs 61) (And.intro (am_vp_ok b1) ?_))
  obtain ⟨r2, h3, e4, hf⟩ := am_b2_ok hf
  refine AW_callV (As := [.int a1, .int (am_I h 61 (Int32.toNatClampNeg (am_I h 51 22))), .int a2]) (R' := rX9_join 0 0) (T := TX9) (N := 58) (ci := 9) (okX9_item.1 12 _ _ rfl) lkX9_join kX9_162 rfl (sK hs 51) rfl (Nat.le_of_ble_eq_true rfl) ⟨by decide, by decide⟩ ⟨(Nat.le_of_ble_eq_true rfl), (Nat.le_of_ble_eq_true rfl)⟩ (Nat.le_of_ble_eq_true rfl) (c_X9_join n a1 (am_I h 61 (Int32.toNatClampNeg (am_I h 51 22))) a2 h hs e4) (fun r h' hq => ?_)
  obtain ⟨rfl, hq⟩ := hq
  replace hq := hq.symm
  subst hq
  have hs := s_X9_join n a1 (am_I h 61 (Int32.toNatClampNeg (am_I h 51 22))) a2 h hs e4
  obtain ⟨b5, hf⟩ := am_bis hf
  refine AW_go okX9_item 11 ?_
  refine And.intro (sK hs 51) (Exists.intro _ (And.intro (sA hs 51 16) ?_))
  refine And.intro (sK hs 51) ?_
  refine Exists.intro 61 (And.intro (sK hs 60) (And.intro (am_vp_ok b5) ?_))
  refine And.intro (sK hs 51) (Exists.intro _ (And.intro (sA hs 51 18) ?_))
  refine And.intro (sK hs 51) ?_
  refine Exists.intro 2 (Exists.intro 61 (And.intro (by decide) (And.intro (sK hs 62) (And.intro (am_vp_ok b5) ?_))))
  obtain ⟨y6, j7, hf⟩ := am_bnd hf
  refine am_cut (P := AW mX9_item (rX9_item 0 0) (fun r h2 => r = none ∧ h2 = h') 42 [(0, .ref 51), (1, .int a1), (2, .int a2), (3, .int a3), (4, .int a4)] [.int y6, .int (am_I h3 60 (Int32.toNatClampNeg (am_I h3 51 22))), .int (am_I h3 51 22), .ref 60] h3 0 0) (fun hJ7 => ?_) ?_
  · have hs := hs
    refine AW_go okX9_item 1 ?_
    refine And.intro (fun c8 => ?_) (fun c8 => ?_)
    · rw [if_pos c8] at j7
      refine AW_go okX9_item 1 ?_
      obtain rfl := am_i1 j7
      exact AW_pick [0, 1, 2, 3, 4] rfl hJ7
    · rw [if_neg c8] at j7
      refine AW_go okX9_item 2 ?_
      obtain rfl := am_i1 j7
      exact AW_pick [0, 1, 2, 3, 4] rfl hJ7
  refine AW_go okX9_item 7 ?_
  refine Exists.intro 61 (And.intro (sK hs 60) (And.intro (am_vp_ok b5) ?_))
  refine And.intro (sK hs 51) (Exists.intro _ (And.intro (sA hs 51 17) ?_))
  refine And.intro (sK hs 51) ?_
  obtain ⟨y59, j60, hf⟩ := am_bnd hf
  refine am_cut (P := AW mX9_item (rX9_item 0 0) (fun r h2 => r = none ∧ h2 = h') 72 [(0, .ref 51), (1, .int a1), (2, .int a2), (3, .int a3), (4, .int a4)] [.int y59, .int (am_I (am_sI h3 60 (Int32.toNatClampNeg (am_I h3 51 22)) ((am_I h3 60 (Int32.toNatClampNeg (am_I h3 51 22))) ||| y6)) 51 22), .ref 61] (am_sI h3 60 (Int32.toNatClampNeg (am_I h3 51 22)) ((am_I h3 60 (Int32.toNatClampNeg (am_I h3 51 22))) ||| y6)) 0 0) (fun hJ60 => ?_) ?_
  · have hs := hs
    refine AW_go okX9_item 1 ?_
    refine And.intro (fun c61 => ?_) (fun c61 => ?_)
    · rw [if_pos c61] at j60
      refine AW_go okX9_item 1 ?_
      obtain rfl := am_i1 j60
      exact AW_pick [0, 1, 2, 3, 4] rfl hJ60
    · rw [if_neg c61] at j60
      obtain ⟨b62, j60⟩ := am_bis j60
      refine AW_go okX9_item 8 ?_
      refine And.intro (sK hs 51) (Exists.intro _ (And.intro (sA hs 51 17) ?_))
      refine And.intro (sK hs 51) ?_
      refine Exists.intro 61 (And.intro (sK hs 61) (And.intro (am_vp_ok b62) ?_))
      obtain rfl := am_i1 j60
      exact AW_pick [0, 1, 2, 3, 4] rfl hJ60
  obtain ⟨b113, hf⟩ := am_bis hf
  obtain ⟨b114, hf⟩ := am_bis hf
  refine AW_go okX9_item 10 ?_
  refine Exists.intro 61 (And.intro (sK hs 61) (And.intro (am_vp_ok b113) ?_))
  refine And.intro (sK hs 51) (Exists.intro _ (And.intro (sA hs 51 18) ?_))
  refine And.intro (sK hs 51) ?_
  refine And.intro (sK hs 51) (Exists.intro _ (And.intro (sA hs 51 18) ?_))
  refine And.intro (sK hs 51) ?_
  refine Exists.intro 2 (Exists.intro 61 (And.intro (by decide) (And.intro (sK hs 62) (And.intro (am_vp_ok b114) ?_))))
  obtain ⟨y115, j116, hf⟩ := am_bnd hf
  refine am_cut (P := AW mX9_item (rX9_item 0 0) (fun r h2 => r = none ∧ h2 = h') 103 [(0, .ref 51), (1, .int a1), (2, .int a2), (3, .int a3), (4, .int a4)] [.int y115, .int (am_I (am_sI (am_sI h3 60 (Int32.toNatClampNeg (am_I h3 51 22)) ((am_I h3 60 (Int32.toNatClampNeg (am_I h3 51 22))) ||| y6)) 61 (Int32.toNatClampNeg (am_I (am_sI h3 60 (Int32.toNatClampNeg (am_I h3 51 22)) ((am_I h3 60 (Int32.toNatClampNeg (am_I h3 51 22))) ||| y6)) 51 22)) y59) 51 22), .ref 62] (am_sI (am_sI h3 60 (Int32.toNatClampNeg (am_I h3 51 22)) ((am_I h3 60 (Int32.toNatClampNeg (am_I h3 51 22))) ||| y6)) 61 (Int32.toNatClampNeg (am_I (am_sI h3 60 (Int32.toNatClampNeg (am_I h3 51 22)) ((am_I h3 60 (Int32.toNatClampNeg (am_I h3 51 22))) ||| y6)) 51 22)) y59) 0 0) (fun hJ116 => ?_) ?_
  · have hs := hs
    refine AW_go okX9_item 1 ?_
    refine And.intro (fun c117 => ?_) (fun c117 => ?_)
    · rw [if_pos c117] at j116
      refine AW_go okX9_item 1 ?_
      obtain rfl := am_i1 j116
      exact AW_pick [0, 1, 2, 3, 4] rfl hJ116
    · rw [if_neg c117] at j116
      refine AW_go okX9_item 2 ?_
      refine And.intro (fun c118 => ?_) (fun c118 => ?_)
      · rw [if_pos c118] at j116
        refine AW_go okX9_item 1 ?_
        obtain rfl := am_i1 j116
        exact AW_pick [0, 1, 2, 3, 4] rfl hJ116
      · rw [if_neg c118] at j116
        refine AW_go okX9_item 2 ?_
        obtain rfl := am_i1 j116
        exact AW_pick [0, 1, 2, 3, 4] rfl hJ116
  refine AW_go okX9_item 2 ?_
  refine Exists.intro 2 (Exists.intro 61 (And.intro (by decide) (And.intro (sK hs 62) (And.intro (am_vp_ok b114) ?_))))
  obtain ⟨rfl, rfl⟩ := am_i2 hf
  exact And.intro ⟨(Nat.le_of_ble_eq_true rfl), (Nat.le_of_ble_eq_true rfl)⟩ (And.intro rfl ⟨rfl, rfl⟩)
def f_X9_signAt (a1 : Int32) (a2 : Int32) (h : am_H) : Option (Int32 × am_H) := Option.bind ((if a1 = (Int32.ofInt (-1)) then bif am_vp a2 60 then (some (am_I h 52 (Int32.toNatClampNeg a2))) else none else bif am_vp (((Int32.ofInt 60) * a1) + a2) 180 then (some (am_I h 56 (Int32.toNatClampNeg (((Int32.ofInt 60) * a1) + a2)))) else none)) fun y1 => (some (y1, h))
set_option maxRecDepth 100000 in
theorem s_X9_signAt (a1 : Int32) (a2 : Int32) (h : am_H) (hs : am_stat h) {v : Int32} {h' : am_H} (hf : f_X9_signAt a1 a2 h = some (v, h')) : am_stat h' := by
  unfold f_X9_signAt at hf
  obtain ⟨y1, j2, hf⟩ := am_bnd hf
  obtain ⟨rfl, rfl⟩ := am_i2 hf
  exact hs
set_option maxRecDepth 100000 in
theorem c_X9_signAt (a1 : Int32) (a2 : Int32) (h : am_H) (hs : am_stat h) {v : Int32} {h' : am_H} (hf : f_X9_signAt a1 a2 h = some (v, h')) : AMet mX9_signAt (rX9_signAt 0 0) (fun r h2 => r = some (.int v) ∧ h2 = h') [.ref 51, .int a1, .int a2] h := by
  unfold f_X9_signAt at hf
  refine AW_go okX9_signAt 2 ?_
  obtain ⟨y1, j2, hf⟩ := am_bnd hf
  refine am_cut (P := AW mX9_signAt (rX9_signAt 0 0) (fun r h2 => r = some (.int v) ∧ h2 = h') 25 [(0, .ref 51), (1, .int a1), (2, .int a2)] [.int y1] h 0 0) (fun hJ2 => ?_) ?_
  · have hs := hs
    refine AW_go okX9_signAt 1 ?_
    refine And.intro (fun c3 => ?_) (fun c3 => ?_)
    · rw [if_neg c3] at j2
      obtain ⟨b4, j2⟩ := am_bis j2
      refine AW_go okX9_signAt 8 ?_
      refine And.intro (sK hs 51) (Exists.intro _ (And.intro (sA hs 51 7) ?_))
      refine Exists.intro 1 (Exists.intro 180 (And.intro (by decide) (And.intro (sK hs 56) (And.intro (am_vp_ok b4) ?_))))
      obtain rfl := am_i1 j2
      exact AW_pick [0, 1, 2] rfl hJ2
    · rw [if_pos c3] at j2
      obtain ⟨b5, j2⟩ := am_bis j2
      refine AW_go okX9_signAt 5 ?_
      refine And.intro (sK hs 51) (Exists.intro _ (And.intro (sA hs 51 1) ?_))
      refine Exists.intro 1 (Exists.intro 60 (And.intro (by decide) (And.intro (sK hs 52) (And.intro (am_vp_ok b5) ?_))))
      obtain rfl := am_i1 j2
      exact AW_pick [0, 1, 2] rfl hJ2
  refine AW_go okX9_signAt 1 ?_
  obtain ⟨rfl, rfl⟩ := am_i2 hf
  exact And.intro ⟨(Nat.le_of_ble_eq_true rfl), (Nat.le_of_ble_eq_true rfl)⟩ (And.intro (Or.inl rfl) ⟨rfl, rfl⟩)
def f_X9_layAct (n : Nat) (a1 : Int32) (a2 : Int32) (a3 : Int32) (a4 : Int32) (a5 : Int32) (h : am_H) : Option (Unit × am_H) := Option.bind ((if a2 = (Int32.ofInt 33) then some (Int32.ofInt 1) else (if a2 = (Int32.ofInt 63) then some (Int32.ofInt 1) else some (Int32.ofInt 0)))) fun y1 => (Option.bind ((if y1 = 0 then (if (a2 - (Int32.ofInt 48)) = a5 then some (Int32.ofInt 1) else some (Int32.ofInt 0)) else (if a2 = (Int32.ofInt 33) then some (Int32.ofInt 1) else some (Int32.ofInt 0)))) fun y55 => (Option.bind ((if y1 = 0 then (if (a2 - (Int32.ofInt 48)) = a5 then some (Int32.ofInt 1) else (if (a3 - (Int32.ofInt 48)) = a5 then some (Int32.ofInt 1) else (if a5 = (Int32.ofInt (-1)) then some (Int32.ofInt 1) else some (Int32.ofInt 0)))) else some (Int32.ofInt 1))) fun y110 => (Option.bind ((if y110 = 0 then am_b2 (f_X9_item n a1 (Int32.ofInt 0) (Int32.ofInt 0) (Int32.ofInt 1) h) fun r281 h282 => (some h282) else bif am_vp a1 8 then (Option.bind ((if y1 = 0 then (if y55 = 0 then some (a2 - (Int32.ofInt 48)) else some (a3 - (Int32.ofInt 48))) else some (a3 - (Int32.ofInt 48)))) fun y170 => (Option.bind ((if y55 = 0 then some (Int32.ofInt 100) else some (Int32.ofInt 0))) fun y224 => (bif am_vp (((Int32.ofInt 16) * a1) + (am_I (am_sI h 55 (Int32.toNatClampNeg a1) ((am_I h 55 (Int32.toNatClampNeg a1)) + (Int32.ofInt 1))) 55 (Int32.toNatClampNeg a1))) 128 then (am_b2 (f_X9_item n a1 ((Int32.ofInt 1) <<< ((am_I (am_sI (am_sI h 55 (Int32.toNatClampNeg a1) ((am_I h 55 (Int32.toNatClampNeg a1)) + (Int32.ofInt 1))) 53 (Int32.toNatClampNeg (((Int32.ofInt 16) * a1) + (am_I (am_sI h 55 (Int32.toNatClampNeg a1) ((am_I h 55 (Int32.toNatClampNeg a1)) + (Int32.ofInt 1))) 55 (Int32.toNatClampNeg a1)))) (((y224 + ((Int32.ofInt 10) * y170)) + a4) - (Int32.ofInt 97))) 55 (Int32.toNatClampNeg a1)) &&& 31)) ((Int32.ofInt 1) <<< ((am_I (am_sI (am_sI h 55 (Int32.toNatClampNeg a1) ((am_I h 55 (Int32.toNatClampNeg a1)) + (Int32.ofInt 1))) 53 (Int32.toNatClampNeg (((Int32.ofInt 16) * a1) + (am_I (am_sI h 55 (Int32.toNatClampNeg a1) ((am_I h 55 (Int32.toNatClampNeg a1)) + (Int32.ofInt 1))) 55 (Int32.toNatClampNeg a1)))) (((y224 + ((Int32.ofInt 10) * y170)) + a4) - (Int32.ofInt 97))) 55 (Int32.toNatClampNeg a1)) &&& 31)) (Int32.ofInt 0) (am_sI (am_sI h 55 (Int32.toNatClampNeg a1) ((am_I h 55 (Int32.toNatClampNeg a1)) + (Int32.ofInt 1))) 53 (Int32.toNatClampNeg (((Int32.ofInt 16) * a1) + (am_I (am_sI h 55 (Int32.toNatClampNeg a1) ((am_I h 55 (Int32.toNatClampNeg a1)) + (Int32.ofInt 1))) 55 (Int32.toNatClampNeg a1)))) (((y224 + ((Int32.ofInt 10) * y170)) + a4) - (Int32.ofInt 97)))) fun r278 h279 => (some h279)) else none))) else none)) fun h166 => (some ((), h166)))))
set_option maxRecDepth 100000 in
theorem s_X9_layAct (n : Nat) (a1 : Int32) (a2 : Int32) (a3 : Int32) (a4 : Int32) (a5 : Int32) (h : am_H) (hs : am_stat h) {v : Unit} {h' : am_H} (hf : f_X9_layAct n a1 a2 a3 a4 a5 h = some (v, h')) : am_stat h' := by
  unfold f_X9_layAct at hf
  obtain ⟨y1, j2, hf⟩ := am_bnd hf
  obtain ⟨y55, j56, hf⟩ := am_bnd hf
  obtain ⟨y110, j111, hf⟩ := am_bnd hf
  obtain ⟨h166, j167, hf⟩ := am_bnd hf
  have hs0 := hs
  have hs : am_stat h166 := by
    have hs := hs0
    by_cases c168 : y110 = 0
    · rw [if_pos c168] at j167
      obtain ⟨r169, h170, e171, j167⟩ := am_b2_ok j167
      have hs := s_X9_item n a1 (Int32.ofInt 0) (Int32.ofInt 0) (Int32.ofInt 1) h hs e171
      obtain rfl := am_i1 j167
      exact hs
    · rw [if_neg c168] at j167
      obtain ⟨b172, j167⟩ := am_bis j167
      obtain ⟨y173, j174, j167⟩ := am_bnd j167
      obtain ⟨y227, j228, j167⟩ := am_bnd j167
      obtain ⟨b280, j167⟩ := am_bis j167
      obtain ⟨r281, h282, e283, j167⟩ := am_b2_ok j167
      have hs := s_X9_item n a1 ((Int32.ofInt 1) <<< ((am_I (am_sI (am_sI h 55 (Int32.toNatClampNeg a1) ((am_I h 55 (Int32.toNatClampNeg a1)) + (Int32.ofInt 1))) 53 (Int32.toNatClampNeg (((Int32.ofInt 16) * a1) + (am_I (am_sI h 55 (Int32.toNatClampNeg a1) ((am_I h 55 (Int32.toNatClampNeg a1)) + (Int32.ofInt 1))) 55 (Int32.toNatClampNeg a1)))) (((y227 + ((Int32.ofInt 10) * y173)) + a4) - (Int32.ofInt 97))) 55 (Int32.toNatClampNeg a1)) &&& 31)) ((Int32.ofInt 1) <<< ((am_I (am_sI (am_sI h 55 (Int32.toNatClampNeg a1) ((am_I h 55 (Int32.toNatClampNeg a1)) + (Int32.ofInt 1))) 53 (Int32.toNatClampNeg (((Int32.ofInt 16) * a1) + (am_I (am_sI h 55 (Int32.toNatClampNeg a1) ((am_I h 55 (Int32.toNatClampNeg a1)) + (Int32.ofInt 1))) 55 (Int32.toNatClampNeg a1)))) (((y227 + ((Int32.ofInt 10) * y173)) + a4) - (Int32.ofInt 97))) 55 (Int32.toNatClampNeg a1)) &&& 31)) (Int32.ofInt 0) (am_sI (am_sI h 55 (Int32.toNatClampNeg a1) ((am_I h 55 (Int32.toNatClampNeg a1)) + (Int32.ofInt 1))) 53 (Int32.toNatClampNeg (((Int32.ofInt 16) * a1) + (am_I (am_sI h 55 (Int32.toNatClampNeg a1) ((am_I h 55 (Int32.toNatClampNeg a1)) + (Int32.ofInt 1))) 55 (Int32.toNatClampNeg a1)))) (((y227 + ((Int32.ofInt 10) * y173)) + a4) - (Int32.ofInt 97))) hs e283
      obtain rfl := am_i1 j167
      exact hs
  obtain ⟨rfl, rfl⟩ := am_i2 hf
  exact hs
set_option maxRecDepth 100000 in
theorem c_X9_layAct (n : Nat) (a1 : Int32) (a2 : Int32) (a3 : Int32) (a4 : Int32) (a5 : Int32) (h : am_H) (hs : am_stat h) {v : Unit} {h' : am_H} (hf : f_X9_layAct n a1 a2 a3 a4 a5 h = some (v, h')) : AMet mX9_layAct (rX9_layAct 0 0) (fun r h2 => r = none ∧ h2 = h') [.ref 51, .int a1, .int a2, .int a3, .int a4, .int a5] h := by
  unfold f_X9_layAct at hf
  refine AW_go okX9_layAct 2 ?_
  obtain ⟨y1, j2, hf⟩ := am_bnd hf
  refine am_cut (P := AW mX9_layAct (rX9_layAct 0 0) (fun r h2 => r = none ∧ h2 = h') 17 [(0, .ref 51), (1, .int a1), (2, .int a2), (3, .int a3), (4, .int a4), (5, .int a5)] [.int y1] h 0 0) (fun hJ2 => ?_) ?_
  · have hs := hs
    refine AW_go okX9_layAct 1 ?_
    refine And.intro (fun c3 => ?_) (fun c3 => ?_)
    · rw [if_pos c3] at j2
      refine AW_go okX9_layAct 2 ?_
      obtain rfl := am_i1 j2
      exact AW_pick [0, 1, 2, 3, 4, 5] rfl hJ2
    · rw [if_neg c3] at j2
      refine AW_go okX9_layAct 3 ?_
      refine And.intro (fun c4 => ?_) (fun c4 => ?_)
      · rw [if_neg c4] at j2
        refine AW_go okX9_layAct 1 ?_
        obtain rfl := am_i1 j2
        exact AW_pick [0, 1, 2, 3, 4, 5] rfl hJ2
      · rw [if_pos c4] at j2
        refine AW_go okX9_layAct 2 ?_
        obtain rfl := am_i1 j2
        exact AW_pick [0, 1, 2, 3, 4, 5] rfl hJ2
  refine AW_go okX9_layAct 2 ?_
  obtain ⟨y55, j56, hf⟩ := am_bnd hf
  refine am_cut (P := AW mX9_layAct (rX9_layAct 0 0) (fun r h2 => r = none ∧ h2 = h') 52 [(0, .ref 51), (1, .int a1), (2, .int a2), (3, .int a3), (4, .int a4), (5, .int a5), (6, .int y1)] [.int y55] h 0 0) (fun hJ56 => ?_) ?_
  · have hs := hs
    refine AW_go okX9_layAct 1 ?_
    refine And.intro (fun c57 => ?_) (fun c57 => ?_)
    · rw [if_pos c57] at j56
      refine AW_go okX9_layAct 5 ?_
      refine And.intro (fun c58 => ?_) (fun c58 => ?_)
      · rw [if_neg c58] at j56
        refine AW_go okX9_layAct 1 ?_
        obtain rfl := am_i1 j56
        exact AW_pick [1, 2, 3, 4, 5, 6, 0] rfl hJ56
      · rw [if_pos c58] at j56
        refine AW_go okX9_layAct 2 ?_
        obtain rfl := am_i1 j56
        exact AW_pick [1, 2, 3, 4, 5, 6, 0] rfl hJ56
    · rw [if_neg c57] at j56
      refine AW_go okX9_layAct 3 ?_
      refine And.intro (fun c59 => ?_) (fun c59 => ?_)
      · rw [if_neg c59] at j56
        refine AW_go okX9_layAct 2 ?_
        obtain rfl := am_i1 j56
        exact AW_pick [1, 2, 3, 4, 5, 6, 0] rfl hJ56
      · rw [if_pos c59] at j56
        refine AW_go okX9_layAct 2 ?_
        obtain rfl := am_i1 j56
        exact AW_pick [1, 2, 3, 4, 5, 6, 0] rfl hJ56
  refine AW_go okX9_layAct 2 ?_
  obtain ⟨y110, j111, hf⟩ := am_bnd hf
  refine am_cut (P := AW mX9_layAct (rX9_layAct 0 0) (fun r h2 => r = none ∧ h2 = h') 88 [(0, .ref 51), (1, .int a1), (2, .int a2), (3, .int a3), (4, .int a4), (5, .int a5), (6, .int y1), (7, .int y55)] [.int y110] h 0 0) (fun hJ111 => ?_) ?_
  · have hs := hs
    refine AW_go okX9_layAct 1 ?_
    refine And.intro (fun c112 => ?_) (fun c112 => ?_)
    · rw [if_neg c112] at j111
      refine AW_go okX9_layAct 2 ?_
      obtain rfl := am_i1 j111
      exact AW_pick [1, 2, 3, 4, 5, 6, 7, 0] rfl hJ111
    · rw [if_pos c112] at j111
      refine AW_go okX9_layAct 5 ?_
      refine And.intro (fun c113 => ?_) (fun c113 => ?_)
      · rw [if_pos c113] at j111
        refine AW_go okX9_layAct 2 ?_
        obtain rfl := am_i1 j111
        exact AW_pick [1, 2, 3, 4, 5, 6, 7, 0] rfl hJ111
      · rw [if_neg c113] at j111
        refine AW_go okX9_layAct 5 ?_
        refine And.intro (fun c114 => ?_) (fun c114 => ?_)
        · rw [if_pos c114] at j111
          refine AW_go okX9_layAct 2 ?_
          obtain rfl := am_i1 j111
          exact AW_pick [1, 2, 3, 4, 5, 6, 7, 0] rfl hJ111
        · rw [if_neg c114] at j111
          refine AW_go okX9_layAct 3 ?_
          refine And.intro (fun c115 => ?_) (fun c115 => ?_)
          · rw [if_neg c115] at j111
            refine AW_go okX9_layAct 1 ?_
            obtain rfl := am_i1 j111
            exact AW_pick [1, 2, 3, 4, 5, 6, 7, 0] rfl hJ111
          · rw [if_pos c115] at j111
            refine AW_go okX9_layAct 2 ?_
            obtain rfl := am_i1 j111
            exact AW_pick [1, 2, 3, 4, 5, 6, 7, 0] rfl hJ111
  refine AW_go okX9_layAct 2 ?_
  obtain ⟨h166, j167, hf⟩ := am_bnd hf
  have hs0 := hs
  have hs : am_stat h166 := by
    have hs := hs0
    by_cases c168 : y110 = 0
    · rw [if_pos c168] at j167
      obtain ⟨r169, h170, e171, j167⟩ := am_b2_ok j167
      have hs := s_X9_item n a1 (Int32.ofInt 0) (Int32.ofInt 0) (Int32.ofInt 1) h hs e171
      obtain rfl := am_i1 j167
      exact hs
    · rw [if_neg c168] at j167
      obtain ⟨b172, j167⟩ := am_bis j167
      obtain ⟨y173, j174, j167⟩ := am_bnd j167
      obtain ⟨y227, j228, j167⟩ := am_bnd j167
      obtain ⟨b280, j167⟩ := am_bis j167
      obtain ⟨r281, h282, e283, j167⟩ := am_b2_ok j167
      have hs := s_X9_item n a1 ((Int32.ofInt 1) <<< ((am_I (am_sI (am_sI h 55 (Int32.toNatClampNeg a1) ((am_I h 55 (Int32.toNatClampNeg a1)) + (Int32.ofInt 1))) 53 (Int32.toNatClampNeg (((Int32.ofInt 16) * a1) + (am_I (am_sI h 55 (Int32.toNatClampNeg a1) ((am_I h 55 (Int32.toNatClampNeg a1)) + (Int32.ofInt 1))) 55 (Int32.toNatClampNeg a1)))) (((y227 + ((Int32.ofInt 10) * y173)) + a4) - (Int32.ofInt 97))) 55 (Int32.toNatClampNeg a1)) &&& 31)) ((Int32.ofInt 1) <<< ((am_I (am_sI (am_sI h 55 (Int32.toNatClampNeg a1) ((am_I h 55 (Int32.toNatClampNeg a1)) + (Int32.ofInt 1))) 53 (Int32.toNatClampNeg (((Int32.ofInt 16) * a1) + (am_I (am_sI h 55 (Int32.toNatClampNeg a1) ((am_I h 55 (Int32.toNatClampNeg a1)) + (Int32.ofInt 1))) 55 (Int32.toNatClampNeg a1)))) (((y227 + ((Int32.ofInt 10) * y173)) + a4) - (Int32.ofInt 97))) 55 (Int32.toNatClampNeg a1)) &&& 31)) (Int32.ofInt 0) (am_sI (am_sI h 55 (Int32.toNatClampNeg a1) ((am_I h 55 (Int32.toNatClampNeg a1)) + (Int32.ofInt 1))) 53 (Int32.toNatClampNeg (((Int32.ofInt 16) * a1) + (am_I (am_sI h 55 (Int32.toNatClampNeg a1) ((am_I h 55 (Int32.toNatClampNeg a1)) + (Int32.ofInt 1))) 55 (Int32.toNatClampNeg a1)))) (((y227 + ((Int32.ofInt 10) * y173)) + a4) - (Int32.ofInt 97))) hs e283
      obtain rfl := am_i1 j167
      exact hs
  refine am_cut (P := AW mX9_layAct (rX9_layAct 0 0) (fun r h2 => r = none ∧ h2 = h') 200 [(0, .ref 51), (1, .int a1), (2, .int a2), (3, .int a3), (4, .int a4), (5, .int a5), (6, .int y1), (7, .int y55), (8, .int y110)] [] h166 0 0) (fun hJ167 => ?_) ?_
  · have hs := hs0
    refine AW_go okX9_layAct 1 ?_
    refine And.intro (fun c168 => ?_) (fun c168 => ?_)
    · rw [if_neg c168] at j167
      obtain ⟨b169, j167⟩ := am_bis j167
      refine AW_go okX9_layAct 9 ?_
      refine And.intro (sK hs 51) (Exists.intro _ (And.intro (sA hs 51 5) ?_))
      refine Exists.intro 8 (And.intro (sK hs 55) (And.intro (am_vp_ok b169) ?_))
      refine Exists.intro 8 (And.intro (sK hs 55) (And.intro (am_vp_ok b169) ?_))
      obtain ⟨y170, j171, j167⟩ := am_bnd j167
      refine am_cut (P := AW mX9_layAct (rX9_layAct 0 0) (fun r h2 => r = none ∧ h2 = h') 137 [(0, .ref 51), (1, .int a1), (2, .int a2), (3, .int a3), (4, .int a4), (5, .int a5), (6, .int y1), (7, .int y55), (8, .int y110)] [.int y170] (am_sI h 55 (Int32.toNatClampNeg a1) ((am_I h 55 (Int32.toNatClampNeg a1)) + (Int32.ofInt 1))) 0 0) (fun hJ171 => ?_) ?_
      · have hs := hs
        refine AW_go okX9_layAct 1 ?_
        refine And.intro (fun c172 => ?_) (fun c172 => ?_)
        · rw [if_neg c172] at j171
          refine AW_go okX9_layAct 4 ?_
          obtain rfl := am_i1 j171
          exact AW_pick [1, 2, 3, 4, 5, 6, 7, 8, 0] rfl hJ171
        · rw [if_pos c172] at j171
          refine AW_go okX9_layAct 2 ?_
          refine And.intro (fun c173 => ?_) (fun c173 => ?_)
          · rw [if_pos c173] at j171
            refine AW_go okX9_layAct 3 ?_
            obtain rfl := am_i1 j171
            exact AW_pick [1, 2, 3, 4, 5, 6, 7, 8, 0] rfl hJ171
          · rw [if_neg c173] at j171
            refine AW_go okX9_layAct 4 ?_
            obtain rfl := am_i1 j171
            exact AW_pick [1, 2, 3, 4, 5, 6, 7, 8, 0] rfl hJ171
      refine AW_go okX9_layAct 12 ?_
      refine And.intro (sK hs 51) (Exists.intro _ (And.intro (sA hs 51 3) ?_))
      refine And.intro (sK hs 51) (Exists.intro _ (And.intro (sA hs 51 5) ?_))
      refine Exists.intro 8 (And.intro (sK hs 55) (And.intro (am_vp_ok b169) ?_))
      obtain ⟨y224, j225, j167⟩ := am_bnd j167
      refine am_cut (P := AW mX9_layAct (rX9_layAct 0 0) (fun r h2 => r = none ∧ h2 = h') 165 [(0, .ref 51), (1, .int a1), (2, .int a2), (3, .int a3), (4, .int a4), (5, .int a5), (6, .int y1), (7, .int y55), (8, .int y110), (9, .int y170)] [.int y224, .int (((Int32.ofInt 16) * a1) + (am_I (am_sI h 55 (Int32.toNatClampNeg a1) ((am_I h 55 (Int32.toNatClampNeg a1)) + (Int32.ofInt 1))) 55 (Int32.toNatClampNeg a1))), .ref 53] (am_sI h 55 (Int32.toNatClampNeg a1) ((am_I h 55 (Int32.toNatClampNeg a1)) + (Int32.ofInt 1))) 0 0) (fun hJ225 => ?_) ?_
      · have hs := hs
        refine AW_go okX9_layAct 1 ?_
        refine And.intro (fun c226 => ?_) (fun c226 => ?_)
        · rw [if_pos c226] at j225
          refine AW_go okX9_layAct 1 ?_
          obtain rfl := am_i1 j225
          exact AW_pick [1, 2, 3, 4, 5, 6, 7, 8, 9, 0] rfl hJ225
        · rw [if_neg c226] at j225
          refine AW_go okX9_layAct 2 ?_
          obtain rfl := am_i1 j225
          exact AW_pick [1, 2, 3, 4, 5, 6, 7, 8, 9, 0] rfl hJ225
      obtain ⟨b277, j167⟩ := am_bis j167
      refine AW_go okX9_layAct 24 ?_
      refine Exists.intro 128 (And.intro (sK hs 53) (And.intro (am_vp_ok b277) ?_))
      refine And.intro (sK hs 51) (Exists.intro _ (And.intro (sA hs 51 5) ?_))
      refine Exists.intro 8 (And.intro (sK hs 55) (And.intro (am_vp_ok b169) ?_))
      refine And.intro (sK hs 51) (Exists.intro _ (And.intro (sA hs 51 5) ?_))
      refine Exists.intro 8 (And.intro (sK hs 55) (And.intro (am_vp_ok b169) ?_))
      obtain ⟨r278, h279, e280, j167⟩ := am_b2_ok j167
      refine AW_callV (As := [.int a1, .int ((Int32.ofInt 1) <<< ((am_I (am_sI (am_sI h 55 (Int32.toNatClampNeg a1) ((am_I h 55 (Int32.toNatClampNeg a1)) + (Int32.ofInt 1))) 53 (Int32.toNatClampNeg (((Int32.ofInt 16) * a1) + (am_I (am_sI h 55 (Int32.toNatClampNeg a1) ((am_I h 55 (Int32.toNatClampNeg a1)) + (Int32.ofInt 1))) 55 (Int32.toNatClampNeg a1)))) (((y224 + ((Int32.ofInt 10) * y170)) + a4) - (Int32.ofInt 97))) 55 (Int32.toNatClampNeg a1)) &&& 31)), .int ((Int32.ofInt 1) <<< ((am_I (am_sI (am_sI h 55 (Int32.toNatClampNeg a1) ((am_I h 55 (Int32.toNatClampNeg a1)) + (Int32.ofInt 1))) 53 (Int32.toNatClampNeg (((Int32.ofInt 16) * a1) + (am_I (am_sI h 55 (Int32.toNatClampNeg a1) ((am_I h 55 (Int32.toNatClampNeg a1)) + (Int32.ofInt 1))) 55 (Int32.toNatClampNeg a1)))) (((y224 + ((Int32.ofInt 10) * y170)) + a4) - (Int32.ofInt 97))) 55 (Int32.toNatClampNeg a1)) &&& 31)), .int (Int32.ofInt 0)]) (R' := rX9_item 0 0) (T := TX9) (N := 58) (ci := 9) (okX9_layAct.1 197 _ _ rfl) lkX9_item kX9_179 rfl (sK hs 51) rfl (Nat.le_of_ble_eq_true rfl) ⟨by decide, by decide⟩ ⟨(Nat.le_of_ble_eq_true rfl), (Nat.le_of_ble_eq_true rfl)⟩ (Nat.le_of_ble_eq_true rfl) (c_X9_item n a1 ((Int32.ofInt 1) <<< ((am_I (am_sI (am_sI h 55 (Int32.toNatClampNeg a1) ((am_I h 55 (Int32.toNatClampNeg a1)) + (Int32.ofInt 1))) 53 (Int32.toNatClampNeg (((Int32.ofInt 16) * a1) + (am_I (am_sI h 55 (Int32.toNatClampNeg a1) ((am_I h 55 (Int32.toNatClampNeg a1)) + (Int32.ofInt 1))) 55 (Int32.toNatClampNeg a1)))) (((y224 + ((Int32.ofInt 10) * y170)) + a4) - (Int32.ofInt 97))) 55 (Int32.toNatClampNeg a1)) &&& 31)) ((Int32.ofInt 1) <<< ((am_I (am_sI (am_sI h 55 (Int32.toNatClampNeg a1) ((am_I h 55 (Int32.toNatClampNeg a1)) + (Int32.ofInt 1))) 53 (Int32.toNatClampNeg (((Int32.ofInt 16) * a1) + (am_I (am_sI h 55 (Int32.toNatClampNeg a1) ((am_I h 55 (Int32.toNatClampNeg a1)) + (Int32.ofInt 1))) 55 (Int32.toNatClampNeg a1)))) (((y224 + ((Int32.ofInt 10) * y170)) + a4) - (Int32.ofInt 97))) 55 (Int32.toNatClampNeg a1)) &&& 31)) (Int32.ofInt 0) (am_sI (am_sI h 55 (Int32.toNatClampNeg a1) ((am_I h 55 (Int32.toNatClampNeg a1)) + (Int32.ofInt 1))) 53 (Int32.toNatClampNeg (((Int32.ofInt 16) * a1) + (am_I (am_sI h 55 (Int32.toNatClampNeg a1) ((am_I h 55 (Int32.toNatClampNeg a1)) + (Int32.ofInt 1))) 55 (Int32.toNatClampNeg a1)))) (((y224 + ((Int32.ofInt 10) * y170)) + a4) - (Int32.ofInt 97))) hs e280) (fun r h' hq => ?_)
      obtain ⟨rfl, hq⟩ := hq
      replace hq := hq.symm
      subst hq
      have hs := s_X9_item n a1 ((Int32.ofInt 1) <<< ((am_I (am_sI (am_sI h 55 (Int32.toNatClampNeg a1) ((am_I h 55 (Int32.toNatClampNeg a1)) + (Int32.ofInt 1))) 53 (Int32.toNatClampNeg (((Int32.ofInt 16) * a1) + (am_I (am_sI h 55 (Int32.toNatClampNeg a1) ((am_I h 55 (Int32.toNatClampNeg a1)) + (Int32.ofInt 1))) 55 (Int32.toNatClampNeg a1)))) (((y224 + ((Int32.ofInt 10) * y170)) + a4) - (Int32.ofInt 97))) 55 (Int32.toNatClampNeg a1)) &&& 31)) ((Int32.ofInt 1) <<< ((am_I (am_sI (am_sI h 55 (Int32.toNatClampNeg a1) ((am_I h 55 (Int32.toNatClampNeg a1)) + (Int32.ofInt 1))) 53 (Int32.toNatClampNeg (((Int32.ofInt 16) * a1) + (am_I (am_sI h 55 (Int32.toNatClampNeg a1) ((am_I h 55 (Int32.toNatClampNeg a1)) + (Int32.ofInt 1))) 55 (Int32.toNatClampNeg a1)))) (((y224 + ((Int32.ofInt 10) * y170)) + a4) - (Int32.ofInt 97))) 55 (Int32.toNatClampNeg a1)) &&& 31)) (Int32.ofInt 0) (am_sI (am_sI h 55 (Int32.toNatClampNeg a1) ((am_I h 55 (Int32.toNatClampNeg a1)) + (Int32.ofInt 1))) 53 (Int32.toNatClampNeg (((Int32.ofInt 16) * a1) + (am_I (am_sI h 55 (Int32.toNatClampNeg a1) ((am_I h 55 (Int32.toNatClampNeg a1)) + (Int32.ofInt 1))) 55 (Int32.toNatClampNeg a1)))) (((y224 + ((Int32.ofInt 10) * y170)) + a4) - (Int32.ofInt 97))) hs e280
      obtain rfl := am_i1 j167
      exact AW_pick [0, 1, 2, 3, 4, 5, 6, 7, 8] rfl hJ167
    · rw [if_pos c168] at j167
      refine AW_go okX9_layAct 5 ?_
      obtain ⟨r281, h282, e283, j167⟩ := am_b2_ok j167
      refine AW_callV (As := [.int a1, .int (Int32.ofInt 0), .int (Int32.ofInt 0), .int (Int32.ofInt 1)]) (R' := rX9_item 0 0) (T := TX9) (N := 58) (ci := 9) (okX9_layAct.1 100 _ _ rfl) lkX9_item kX9_179 rfl (sK hs 51) rfl (Nat.le_of_ble_eq_true rfl) ⟨by decide, by decide⟩ ⟨(Nat.le_of_ble_eq_true rfl), (Nat.le_of_ble_eq_true rfl)⟩ (Nat.le_of_ble_eq_true rfl) (c_X9_item n a1 (Int32.ofInt 0) (Int32.ofInt 0) (Int32.ofInt 1) h hs e283) (fun r h' hq => ?_)
      obtain ⟨rfl, hq⟩ := hq
      replace hq := hq.symm
      subst hq
      have hs := s_X9_item n a1 (Int32.ofInt 0) (Int32.ofInt 0) (Int32.ofInt 1) h hs e283
      refine AW_go okX9_layAct 1 ?_
      obtain rfl := am_i1 j167
      exact AW_pick [1, 2, 3, 4, 5, 6, 7, 8, 0] rfl hJ167
  refine AW_go okX9_layAct 1 ?_
  obtain ⟨rfl, rfl⟩ := am_i2 hf
  exact And.intro ⟨(Nat.le_of_ble_eq_true rfl), (Nat.le_of_ble_eq_true rfl)⟩ (And.intro rfl ⟨rfl, rfl⟩)
def g_X9_layIdle : Nat → Nat → Int32 → Int32 → am_H → Option (Unit × am_H)
  | 0, _, _, _, _ => none
  | n + 1, _, a1, x2i, h => (if (am_I h 51 0) ≤ x2i then some ((), h) else bif am_vp x2i 60 then (Option.bind ((if (am_I h 52 (Int32.toNatClampNeg x2i)) = (Int32.ofInt 123) then am_b2 (f_X9_openGroup h) fun r195 h196 => (some h196) else (if (am_I h 52 (Int32.toNatClampNeg x2i)) = (Int32.ofInt 43) then am_b2 (f_X9_endRow h) fun r189 h190 => (am_b2 (f_X9_newRow h190) fun r192 h193 => (some h193)) else (if (am_I h 52 (Int32.toNatClampNeg x2i)) = (Int32.ofInt 125) then am_b2 (f_X9_endRow h) fun r18 h19 => (Option.bind ((if (am_I h19 51 0) ≤ (x2i + (Int32.ofInt 1)) then some (Int32.ofInt 0) else bif am_vp (x2i + (Int32.ofInt 1)) 60 then ((if (am_I h19 52 (Int32.toNatClampNeg (x2i + (Int32.ofInt 1)))) = (Int32.ofInt 42) then some (Int32.ofInt 1) else some (Int32.ofInt 0))) else none)) fun y21 => (bif am_vp (am_I h19 51 22) 61 then (Option.bind ((if (am_I h19 51 23) = 0 then (if y21 = 0 then some (Int32.ofInt 0) else (if (am_I h19 65 (Int32.toNatClampNeg (am_I h19 51 22))) = 0 then some (Int32.ofInt 0) else some (Int32.ofInt 1))) else some (Int32.ofInt 1))) fun y77 => (bif am_b01 y77 then (bif am_vp (am_I (am_sI (am_sI h19 51 23 y77) 51 22 ((am_I (am_sI h19 51 23 y77) 51 22) - (Int32.ofInt 1))) 51 22) 61 then (Option.bind ((if (am_I (am_sI (am_sI h19 51 23 y77) 51 22 ((am_I (am_sI h19 51 23 y77) 51 22) - (Int32.ofInt 1))) 62 (Int32.toNatClampNeg (am_I (am_sI (am_sI h19 51 23 y77) 51 22 ((am_I (am_sI h19 51 23 y77) 51 22) - (Int32.ofInt 1))) 51 22))) = 0 then some (Int32.ofInt 0) else (if (am_I h19 65 (Int32.toNatClampNeg (am_I h19 51 22))) = 0 then (if y21 = 0 then some (Int32.ofInt 0) else some (Int32.ofInt 1)) else some (Int32.ofInt 1)))) fun y134 => (some (am_sI (am_sI (am_sI h19 51 23 y77) 51 22 ((am_I (am_sI h19 51 23 y77) 51 22) - (Int32.ofInt 1))) 62 (Int32.toNatClampNeg (am_I (am_sI (am_sI h19 51 23 y77) 51 22 ((am_I (am_sI h19 51 23 y77) 51 22) - (Int32.ofInt 1))) 51 22)) (vp_nar (am_at 2) y134)))) else none) else none)) else none)) else (if (am_I h 52 (Int32.toNatClampNeg x2i)) = (Int32.ofInt 33) then bif am_vp (am_I h 51 22) 61 then (some (am_sI h 62 (Int32.toNatClampNeg (am_I h 51 22)) (vp_nar (am_at 2) (Int32.ofInt 0)))) else none else (if (am_I h 52 (Int32.toNatClampNeg x2i)) = (Int32.ofInt 63) then bif am_vp (am_I h 51 22) 61 then (some (am_sI h 62 (Int32.toNatClampNeg (am_I h 51 22)) (vp_nar (am_at 2) (Int32.ofInt 0)))) else none else (if a1 = (Int32.ofInt 1) then am_b2 (f_X9_isOfficeSign (am_I h 52 (Int32.toNatClampNeg x2i)) h) fun r13 h14 => ((if r13 = 0 then some h14 else bif am_vp (am_I h14 51 22) 61 then (some (am_sI h14 62 (Int32.toNatClampNeg (am_I h14 51 22)) (vp_nar (am_at 2) (Int32.ofInt 0)))) else none)) else some h))))))) fun h3 => (g_X9_layIdle n 0 a1 (x2i + Int32.ofInt 1) h3)) else none)
set_option maxRecDepth 100000 in
set_option maxHeartbeats 4000000 in
theorem m_X9_layIdle (n : Nat) : (∀ (a1 : Int32) (x2i : Int32) (h : am_H) (v : Unit) (h' : am_H), am_stat h → g_X9_layIdle n 0 a1 x2i h = some (v, h') → am_stat h') := by
  induction n with
  | zero => exact fun a1 x2i h v h' hs hf => (by cases hf)
  | succ n ih =>
    skip
    · intro a1 x2i h v h' hs hf
      have hf : ((if (am_I h 51 0) ≤ x2i then some ((), h) else bif am_vp x2i 60 then (Option.bind ((if (am_I h 52 (Int32.toNatClampNeg x2i)) = (Int32.ofInt 123) then am_b2 (f_X9_openGroup h) fun r6 h7 => (some h7) else (if (am_I h 52 (Int32.toNatClampNeg x2i)) = (Int32.ofInt 43) then am_b2 (f_X9_endRow h) fun r10 h11 => (am_b2 (f_X9_newRow h11) fun r13 h14 => (some h14)) else (if (am_I h 52 (Int32.toNatClampNeg x2i)) = (Int32.ofInt 125) then am_b2 (f_X9_endRow h) fun r17 h18 => (Option.bind ((if (am_I h18 51 0) ≤ (x2i + (Int32.ofInt 1)) then some (Int32.ofInt 0) else bif am_vp (x2i + (Int32.ofInt 1)) 60 then ((if (am_I h18 52 (Int32.toNatClampNeg (x2i + (Int32.ofInt 1)))) = (Int32.ofInt 42) then some (Int32.ofInt 1) else some (Int32.ofInt 0))) else none)) fun y20 => (bif am_vp (am_I h18 51 22) 61 then (Option.bind ((if (am_I h18 51 23) = 0 then (if y20 = 0 then some (Int32.ofInt 0) else (if (am_I h18 65 (Int32.toNatClampNeg (am_I h18 51 22))) = 0 then some (Int32.ofInt 0) else some (Int32.ofInt 1))) else some (Int32.ofInt 1))) fun y76 => (bif am_b01 y76 then (bif am_vp (am_I (am_sI (am_sI h18 51 23 y76) 51 22 ((am_I (am_sI h18 51 23 y76) 51 22) - (Int32.ofInt 1))) 51 22) 61 then (Option.bind ((if (am_I (am_sI (am_sI h18 51 23 y76) 51 22 ((am_I (am_sI h18 51 23 y76) 51 22) - (Int32.ofInt 1))) 62 (Int32.toNatClampNeg (am_I (am_sI (am_sI h18 51 23 y76) 51 22 ((am_I (am_sI h18 51 23 y76) 51 22) - (Int32.ofInt 1))) 51 22))) = 0 then some (Int32.ofInt 0) else (if (am_I h18 65 (Int32.toNatClampNeg (am_I h18 51 22))) = 0 then (if y20 = 0 then some (Int32.ofInt 0) else some (Int32.ofInt 1)) else some (Int32.ofInt 1)))) fun y133 => (some (am_sI (am_sI (am_sI h18 51 23 y76) 51 22 ((am_I (am_sI h18 51 23 y76) 51 22) - (Int32.ofInt 1))) 62 (Int32.toNatClampNeg (am_I (am_sI (am_sI h18 51 23 y76) 51 22 ((am_I (am_sI h18 51 23 y76) 51 22) - (Int32.ofInt 1))) 51 22)) (vp_nar (am_at 2) y133)))) else none) else none)) else none)) else (if (am_I h 52 (Int32.toNatClampNeg x2i)) = (Int32.ofInt 33) then bif am_vp (am_I h 51 22) 61 then (some (am_sI h 62 (Int32.toNatClampNeg (am_I h 51 22)) (vp_nar (am_at 2) (Int32.ofInt 0)))) else none else (if (am_I h 52 (Int32.toNatClampNeg x2i)) = (Int32.ofInt 63) then bif am_vp (am_I h 51 22) 61 then (some (am_sI h 62 (Int32.toNatClampNeg (am_I h 51 22)) (vp_nar (am_at 2) (Int32.ofInt 0)))) else none else (if a1 = (Int32.ofInt 1) then am_b2 (f_X9_isOfficeSign (am_I h 52 (Int32.toNatClampNeg x2i)) h) fun r193 h194 => ((if r193 = 0 then some h194 else bif am_vp (am_I h194 51 22) 61 then (some (am_sI h194 62 (Int32.toNatClampNeg (am_I h194 51 22)) (vp_nar (am_at 2) (Int32.ofInt 0)))) else none)) else some h))))))) fun h3 => (g_X9_layIdle n 0 a1 (x2i + Int32.ofInt 1) h3)) else none)) = some (v, h') := hf
      by_cases c1 : (am_I h 51 0) ≤ x2i
      · rw [if_pos c1] at hf
        obtain ⟨rfl, rfl⟩ := am_i2 hf
        exact hs
      · rw [if_neg c1] at hf
        obtain ⟨b2, hf⟩ := am_bis hf
        obtain ⟨h3, j4, hf⟩ := am_bnd hf
        have hs0 := hs
        have hs : am_stat h3 := by
          have hs := hs0
          by_cases c5 : (am_I h 52 (Int32.toNatClampNeg x2i)) = (Int32.ofInt 123)
          · rw [if_pos c5] at j4
            obtain ⟨r6, h7, e8, j4⟩ := am_b2_ok j4
            have hs := s_X9_openGroup h hs e8
            obtain rfl := am_i1 j4
            exact hs
          · rw [if_neg c5] at j4
            by_cases c9 : (am_I h 52 (Int32.toNatClampNeg x2i)) = (Int32.ofInt 43)
            · rw [if_pos c9] at j4
              obtain ⟨r10, h11, e12, j4⟩ := am_b2_ok j4
              have hs := s_X9_endRow h hs e12
              obtain ⟨r13, h14, e15, j4⟩ := am_b2_ok j4
              have hs := s_X9_newRow h11 hs e15
              obtain rfl := am_i1 j4
              exact hs
            · rw [if_neg c9] at j4
              by_cases c16 : (am_I h 52 (Int32.toNatClampNeg x2i)) = (Int32.ofInt 125)
              · rw [if_pos c16] at j4
                obtain ⟨r17, h18, e19, j4⟩ := am_b2_ok j4
                have hs := s_X9_endRow h hs e19
                obtain ⟨y20, j21, j4⟩ := am_bnd j4
                obtain ⟨b75, j4⟩ := am_bis j4
                obtain ⟨y76, j77, j4⟩ := am_bnd j4
                obtain ⟨b131, j4⟩ := am_bis j4
                obtain ⟨b132, j4⟩ := am_bis j4
                obtain ⟨y133, j134, j4⟩ := am_bnd j4
                obtain rfl := am_i1 j4
                exact hs
              · rw [if_neg c16] at j4
                by_cases c188 : (am_I h 52 (Int32.toNatClampNeg x2i)) = (Int32.ofInt 33)
                · rw [if_pos c188] at j4
                  obtain ⟨b189, j4⟩ := am_bis j4
                  obtain rfl := am_i1 j4
                  exact hs
                · rw [if_neg c188] at j4
                  by_cases c190 : (am_I h 52 (Int32.toNatClampNeg x2i)) = (Int32.ofInt 63)
                  · rw [if_pos c190] at j4
                    obtain ⟨b191, j4⟩ := am_bis j4
                    obtain rfl := am_i1 j4
                    exact hs
                  · rw [if_neg c190] at j4
                    by_cases c192 : a1 = (Int32.ofInt 1)
                    · rw [if_pos c192] at j4
                      obtain ⟨r193, h194, e195, j4⟩ := am_b2_ok j4
                      have hs := s_X9_isOfficeSign (am_I h 52 (Int32.toNatClampNeg x2i)) h hs e195
                      by_cases c196 : r193 = 0
                      · rw [if_pos c196] at j4
                        obtain rfl := am_i1 j4
                        exact hs
                      · rw [if_neg c196] at j4
                        obtain ⟨b197, j4⟩ := am_bis j4
                        obtain rfl := am_i1 j4
                        exact hs
                    · rw [if_neg c192] at j4
                      obtain rfl := am_i1 j4
                      exact hs
        exact ih a1 (x2i + Int32.ofInt 1) h3 _ _ hs hf
set_option maxRecDepth 100000 in
set_option maxHeartbeats 4000000 in
theorem l_X9_layIdle (n : Nat) : (∀ (a1 : Int32) (x2i : Int32) (h : am_H) (v : Unit) (h' : am_H), am_stat h → g_X9_layIdle n 0 a1 x2i h = some (v, h') → AW mX9_layIdle (rX9_layIdle 0 0) (fun r h2 => r = none ∧ h2 = h') 16 [(0, .ref 51), (1, .int a1), (2, .int x2i)] [] h 0 0) := by
  induction n with
  | zero => exact fun a1 x2i h v h' hs hf => (by cases hf)
  | succ n ih =>
    skip
    · intro a1 x2i h v h' hs hf
      have hf : ((if (am_I h 51 0) ≤ x2i then some ((), h) else bif am_vp x2i 60 then (Option.bind ((if (am_I h 52 (Int32.toNatClampNeg x2i)) = (Int32.ofInt 123) then am_b2 (f_X9_openGroup h) fun r195 h196 => (some h196) else (if (am_I h 52 (Int32.toNatClampNeg x2i)) = (Int32.ofInt 43) then am_b2 (f_X9_endRow h) fun r189 h190 => (am_b2 (f_X9_newRow h190) fun r192 h193 => (some h193)) else (if (am_I h 52 (Int32.toNatClampNeg x2i)) = (Int32.ofInt 125) then am_b2 (f_X9_endRow h) fun r18 h19 => (Option.bind ((if (am_I h19 51 0) ≤ (x2i + (Int32.ofInt 1)) then some (Int32.ofInt 0) else bif am_vp (x2i + (Int32.ofInt 1)) 60 then ((if (am_I h19 52 (Int32.toNatClampNeg (x2i + (Int32.ofInt 1)))) = (Int32.ofInt 42) then some (Int32.ofInt 1) else some (Int32.ofInt 0))) else none)) fun y21 => (bif am_vp (am_I h19 51 22) 61 then (Option.bind ((if (am_I h19 51 23) = 0 then (if y21 = 0 then some (Int32.ofInt 0) else (if (am_I h19 65 (Int32.toNatClampNeg (am_I h19 51 22))) = 0 then some (Int32.ofInt 0) else some (Int32.ofInt 1))) else some (Int32.ofInt 1))) fun y77 => (bif am_b01 y77 then (bif am_vp (am_I (am_sI (am_sI h19 51 23 y77) 51 22 ((am_I (am_sI h19 51 23 y77) 51 22) - (Int32.ofInt 1))) 51 22) 61 then (Option.bind ((if (am_I (am_sI (am_sI h19 51 23 y77) 51 22 ((am_I (am_sI h19 51 23 y77) 51 22) - (Int32.ofInt 1))) 62 (Int32.toNatClampNeg (am_I (am_sI (am_sI h19 51 23 y77) 51 22 ((am_I (am_sI h19 51 23 y77) 51 22) - (Int32.ofInt 1))) 51 22))) = 0 then some (Int32.ofInt 0) else (if (am_I h19 65 (Int32.toNatClampNeg (am_I h19 51 22))) = 0 then (if y21 = 0 then some (Int32.ofInt 0) else some (Int32.ofInt 1)) else some (Int32.ofInt 1)))) fun y134 => (some (am_sI (am_sI (am_sI h19 51 23 y77) 51 22 ((am_I (am_sI h19 51 23 y77) 51 22) - (Int32.ofInt 1))) 62 (Int32.toNatClampNeg (am_I (am_sI (am_sI h19 51 23 y77) 51 22 ((am_I (am_sI h19 51 23 y77) 51 22) - (Int32.ofInt 1))) 51 22)) (vp_nar (am_at 2) y134)))) else none) else none)) else none)) else (if (am_I h 52 (Int32.toNatClampNeg x2i)) = (Int32.ofInt 33) then bif am_vp (am_I h 51 22) 61 then (some (am_sI h 62 (Int32.toNatClampNeg (am_I h 51 22)) (vp_nar (am_at 2) (Int32.ofInt 0)))) else none else (if (am_I h 52 (Int32.toNatClampNeg x2i)) = (Int32.ofInt 63) then bif am_vp (am_I h 51 22) 61 then (some (am_sI h 62 (Int32.toNatClampNeg (am_I h 51 22)) (vp_nar (am_at 2) (Int32.ofInt 0)))) else none else (if a1 = (Int32.ofInt 1) then am_b2 (f_X9_isOfficeSign (am_I h 52 (Int32.toNatClampNeg x2i)) h) fun r13 h14 => ((if r13 = 0 then some h14 else bif am_vp (am_I h14 51 22) 61 then (some (am_sI h14 62 (Int32.toNatClampNeg (am_I h14 51 22)) (vp_nar (am_at 2) (Int32.ofInt 0)))) else none)) else some h))))))) fun h3 => (g_X9_layIdle n 0 a1 (x2i + Int32.ofInt 1) h3)) else none)) = some (v, h') := hf
      refine AW_go okX9_layIdle 4 ?_
      refine And.intro (sK hs 51) ?_
      refine And.intro (fun c1 => ?_) (fun c1 => ?_)
      · rw [if_pos c1] at hf
        refine AW_go okX9_layIdle 1 ?_
        obtain ⟨rfl, rfl⟩ := am_i2 hf
        exact And.intro ⟨(Nat.le_of_ble_eq_true rfl), (Nat.le_of_ble_eq_true rfl)⟩ (And.intro rfl ⟨rfl, rfl⟩)
      · rw [if_neg c1] at hf
        obtain ⟨b2, hf⟩ := am_bis hf
        refine AW_go okX9_layIdle 7 ?_
        refine And.intro (sK hs 51) (Exists.intro _ (And.intro (sA hs 51 1) ?_))
        refine Exists.intro 1 (Exists.intro 60 (And.intro (by decide) (And.intro (sK hs 52) (And.intro (am_vp_ok b2) ?_))))
        obtain ⟨h3, j4, hf⟩ := am_bnd hf
        have hs0 := hs
        have hs : am_stat h3 := by
          have hs := hs0
          by_cases c5 : (am_I h 52 (Int32.toNatClampNeg x2i)) = (Int32.ofInt 123)
          · rw [if_pos c5] at j4
            obtain ⟨r6, h7, e8, j4⟩ := am_b2_ok j4
            have hs := s_X9_openGroup h hs e8
            obtain rfl := am_i1 j4
            exact hs
          · rw [if_neg c5] at j4
            by_cases c9 : (am_I h 52 (Int32.toNatClampNeg x2i)) = (Int32.ofInt 43)
            · rw [if_pos c9] at j4
              obtain ⟨r10, h11, e12, j4⟩ := am_b2_ok j4
              have hs := s_X9_endRow h hs e12
              obtain ⟨r13, h14, e15, j4⟩ := am_b2_ok j4
              have hs := s_X9_newRow h11 hs e15
              obtain rfl := am_i1 j4
              exact hs
            · rw [if_neg c9] at j4
              by_cases c16 : (am_I h 52 (Int32.toNatClampNeg x2i)) = (Int32.ofInt 125)
              · rw [if_pos c16] at j4
                obtain ⟨r17, h18, e19, j4⟩ := am_b2_ok j4
                have hs := s_X9_endRow h hs e19
                obtain ⟨y20, j21, j4⟩ := am_bnd j4
                obtain ⟨b75, j4⟩ := am_bis j4
                obtain ⟨y76, j77, j4⟩ := am_bnd j4
                obtain ⟨b131, j4⟩ := am_bis j4
                obtain ⟨b132, j4⟩ := am_bis j4
                obtain ⟨y133, j134, j4⟩ := am_bnd j4
                obtain rfl := am_i1 j4
                exact hs
              · rw [if_neg c16] at j4
                by_cases c188 : (am_I h 52 (Int32.toNatClampNeg x2i)) = (Int32.ofInt 33)
                · rw [if_pos c188] at j4
                  obtain ⟨b189, j4⟩ := am_bis j4
                  obtain rfl := am_i1 j4
                  exact hs
                · rw [if_neg c188] at j4
                  by_cases c190 : (am_I h 52 (Int32.toNatClampNeg x2i)) = (Int32.ofInt 63)
                  · rw [if_pos c190] at j4
                    obtain ⟨b191, j4⟩ := am_bis j4
                    obtain rfl := am_i1 j4
                    exact hs
                  · rw [if_neg c190] at j4
                    by_cases c192 : a1 = (Int32.ofInt 1)
                    · rw [if_pos c192] at j4
                      obtain ⟨r193, h194, e195, j4⟩ := am_b2_ok j4
                      have hs := s_X9_isOfficeSign (am_I h 52 (Int32.toNatClampNeg x2i)) h hs e195
                      by_cases c196 : r193 = 0
                      · rw [if_pos c196] at j4
                        obtain rfl := am_i1 j4
                        exact hs
                      · rw [if_neg c196] at j4
                        obtain ⟨b197, j4⟩ := am_bis j4
                        obtain rfl := am_i1 j4
                        exact hs
                    · rw [if_neg c192] at j4
                      obtain rfl := am_i1 j4
                      exact hs
        refine am_cut (P := AW mX9_layIdle (rX9_layIdle 0 0) (fun r h2 => r = none ∧ h2 = h') 221 [(0, .ref 51), (1, .int a1), (2, .int x2i), (3, .int (am_I h 52 (Int32.toNatClampNeg x2i)))] [] h3 0 0) (fun hJ4 => ?_) ?_
        · have hs := hs0
          refine AW_go okX9_layIdle 1 ?_
          refine And.intro (fun c5 => ?_) (fun c5 => ?_)
          · rw [if_neg c5] at j4
            refine AW_go okX9_layIdle 3 ?_
            refine And.intro (fun c6 => ?_) (fun c6 => ?_)
            · rw [if_neg c6] at j4
              refine AW_go okX9_layIdle 3 ?_
              refine And.intro (fun c7 => ?_) (fun c7 => ?_)
              · rw [if_neg c7] at j4
                refine AW_go okX9_layIdle 3 ?_
                refine And.intro (fun c8 => ?_) (fun c8 => ?_)
                · rw [if_pos c8] at j4
                  obtain ⟨b9, j4⟩ := am_bis j4
                  refine AW_go okX9_layIdle 6 ?_
                  refine And.intro (sK hs 51) (Exists.intro _ (And.intro (sA hs 51 18) ?_))
                  refine And.intro (sK hs 51) ?_
                  refine Exists.intro 2 (Exists.intro 61 (And.intro (by decide) (And.intro (sK hs 62) (And.intro (am_vp_ok b9) ?_))))
                  obtain rfl := am_i1 j4
                  exact AW_pick [1, 2, 3, 0] rfl hJ4
                · rw [if_neg c8] at j4
                  refine AW_go okX9_layIdle 3 ?_
                  refine And.intro (fun c10 => ?_) (fun c10 => ?_)
                  · rw [if_pos c10] at j4
                    obtain ⟨b11, j4⟩ := am_bis j4
                    refine AW_go okX9_layIdle 6 ?_
                    refine And.intro (sK hs 51) (Exists.intro _ (And.intro (sA hs 51 18) ?_))
                    refine And.intro (sK hs 51) ?_
                    refine Exists.intro 2 (Exists.intro 61 (And.intro (by decide) (And.intro (sK hs 62) (And.intro (am_vp_ok b11) ?_))))
                    obtain rfl := am_i1 j4
                    exact AW_pick [1, 2, 3, 0] rfl hJ4
                  · rw [if_neg c10] at j4
                    refine AW_go okX9_layIdle 3 ?_
                    refine And.intro (fun c12 => ?_) (fun c12 => ?_)
                    · rw [if_neg c12] at j4
                      obtain rfl := am_i1 j4
                      exact AW_pick [1, 2, 3, 0] rfl hJ4
                    · rw [if_pos c12] at j4
                      refine AW_go okX9_layIdle 1 ?_
                      obtain ⟨r13, h14, e15, j4⟩ := am_b2_ok j4
                      refine AW_callS (As := [.int (am_I h 52 (Int32.toNatClampNeg x2i))]) (R' := rX9_isOfficeSign 0 0) (okX9_layIdle.1 205 _ _ rfl) lkX9_isOfficeSign (Or.inl kX9_138) rfl (Nat.le_of_ble_eq_true rfl) ⟨by decide, by decide⟩ ⟨(Nat.le_of_ble_eq_true rfl), (Nat.le_of_ble_eq_true rfl)⟩ (Nat.le_of_ble_eq_true rfl) (c_X9_isOfficeSign (am_I h 52 (Int32.toNatClampNeg x2i)) h hs e15) (fun r h' hq => ?_)
                      obtain ⟨rfl, hq⟩ := hq
                      replace hq := hq.symm
                      subst hq
                      have hs := s_X9_isOfficeSign (am_I h 52 (Int32.toNatClampNeg x2i)) h hs e15
                      refine AW_go okX9_layIdle 1 ?_
                      refine And.intro (fun c16 => ?_) (fun c16 => ?_)
                      · rw [if_pos c16] at j4
                        obtain rfl := am_i1 j4
                        exact AW_pick [1, 2, 3, 0] rfl hJ4
                      · rw [if_neg c16] at j4
                        obtain ⟨b17, j4⟩ := am_bis j4
                        refine AW_go okX9_layIdle 6 ?_
                        refine And.intro (sK hs 51) (Exists.intro _ (And.intro (sA hs 51 18) ?_))
                        refine And.intro (sK hs 51) ?_
                        refine Exists.intro 2 (Exists.intro 61 (And.intro (by decide) (And.intro (sK hs 62) (And.intro (am_vp_ok b17) ?_))))
                        obtain rfl := am_i1 j4
                        exact AW_pick [1, 2, 3, 0] rfl hJ4
              · rw [if_pos c7] at j4
                refine AW_go okX9_layIdle 1 ?_
                obtain ⟨r18, h19, e20, j4⟩ := am_b2_ok j4
                refine AW_callV (As := []) (R' := rX9_endRow 0 0) (T := TX9) (N := 58) (ci := 9) (okX9_layIdle.1 68 _ _ rfl) lkX9_endRow kX9_176 rfl (sK hs 51) rfl (Nat.le_of_ble_eq_true rfl) ⟨by decide, by decide⟩ ⟨(Nat.le_of_ble_eq_true rfl), (Nat.le_of_ble_eq_true rfl)⟩ (Nat.le_of_ble_eq_true rfl) (c_X9_endRow h hs e20) (fun r h' hq => ?_)
                obtain ⟨rfl, hq⟩ := hq
                replace hq := hq.symm
                subst hq
                have hs := s_X9_endRow h hs e20
                refine AW_go okX9_layIdle 5 ?_
                refine And.intro (sK hs 51) ?_
                obtain ⟨y21, j22, j4⟩ := am_bnd j4
                refine am_cut (P := AW mX9_layIdle (rX9_layIdle 0 0) (fun r h2 => r = none ∧ h2 = h') 99 [(0, .ref 51), (1, .int a1), (2, .int x2i), (3, .int (am_I h 52 (Int32.toNatClampNeg x2i)))] [.int y21] h19 0 0) (fun hJ22 => ?_) ?_
                · have hs := hs
                  refine AW_go okX9_layIdle 1 ?_
                  refine And.intro (fun c23 => ?_) (fun c23 => ?_)
                  · rw [if_pos c23] at j22
                    refine AW_go okX9_layIdle 1 ?_
                    obtain rfl := am_i1 j22
                    exact AW_pick [1, 2, 3, 0] rfl hJ22
                  · rw [if_neg c23] at j22
                    obtain ⟨b24, j22⟩ := am_bis j22
                    refine AW_go okX9_layIdle 8 ?_
                    refine And.intro (sK hs 51) (Exists.intro _ (And.intro (sA hs 51 1) ?_))
                    refine Exists.intro 1 (Exists.intro 60 (And.intro (by decide) (And.intro (sK hs 52) (And.intro (am_vp_ok b24) ?_))))
                    refine And.intro (fun c25 => ?_) (fun c25 => ?_)
                    · rw [if_neg c25] at j22
                      refine AW_go okX9_layIdle 1 ?_
                      obtain rfl := am_i1 j22
                      exact AW_pick [1, 2, 3, 0] rfl hJ22
                    · rw [if_pos c25] at j22
                      refine AW_go okX9_layIdle 2 ?_
                      obtain rfl := am_i1 j22
                      exact AW_pick [1, 2, 3, 0] rfl hJ22
                obtain ⟨b76, j4⟩ := am_bis j4
                refine AW_go okX9_layIdle 10 ?_
                refine And.intro (sK hs 51) (Exists.intro _ (And.intro (sA hs 51 21) ?_))
                refine And.intro (sK hs 51) ?_
                refine Exists.intro 2 (Exists.intro 61 (And.intro (by decide) (And.intro (sK hs 65) (And.intro (am_vp_ok b76) ?_))))
                refine And.intro (sK hs 51) ?_
                obtain ⟨y77, j78, j4⟩ := am_bnd j4
                refine am_cut (P := AW mX9_layIdle (rX9_layIdle 0 0) (fun r h2 => r = none ∧ h2 = h') 135 [(0, .ref 51), (1, .int a1), (2, .int x2i), (3, .int (am_I h 52 (Int32.toNatClampNeg x2i))), (4, .int y21), (5, .int (am_I h19 65 (Int32.toNatClampNeg (am_I h19 51 22))))] [.int y77, .ref 51] h19 0 0) (fun hJ78 => ?_) ?_
                · have hs := hs
                  refine AW_go okX9_layIdle 1 ?_
                  refine And.intro (fun c79 => ?_) (fun c79 => ?_)
                  · rw [if_neg c79] at j78
                    refine AW_go okX9_layIdle 2 ?_
                    obtain rfl := am_i1 j78
                    exact AW_pick [2, 3, 4, 5, 1, 0] rfl hJ78
                  · rw [if_pos c79] at j78
                    refine AW_go okX9_layIdle 2 ?_
                    refine And.intro (fun c80 => ?_) (fun c80 => ?_)
                    · rw [if_pos c80] at j78
                      refine AW_go okX9_layIdle 1 ?_
                      obtain rfl := am_i1 j78
                      exact AW_pick [2, 3, 4, 5, 1, 0] rfl hJ78
                    · rw [if_neg c80] at j78
                      refine AW_go okX9_layIdle 2 ?_
                      refine And.intro (fun c81 => ?_) (fun c81 => ?_)
                      · rw [if_pos c81] at j78
                        refine AW_go okX9_layIdle 1 ?_
                        obtain rfl := am_i1 j78
                        exact AW_pick [2, 3, 4, 5, 1, 0] rfl hJ78
                      · rw [if_neg c81] at j78
                        refine AW_go okX9_layIdle 2 ?_
                        obtain rfl := am_i1 j78
                        exact AW_pick [2, 3, 4, 5, 1, 0] rfl hJ78
                obtain ⟨b132, j4⟩ := am_bis j4
                obtain ⟨b133, j4⟩ := am_bis j4
                refine AW_go okX9_layIdle 16 ?_
                refine And.intro (am_b01_ok b132) (And.intro (sK hs 51) ?_)
                refine And.intro (sK hs 51) ?_
                refine And.intro (sK hs 51) ?_
                refine And.intro (sK hs 51) (Exists.intro _ (And.intro (sA hs 51 18) ?_))
                refine And.intro (sK hs 51) ?_
                refine And.intro (sK hs 51) (Exists.intro _ (And.intro (sA hs 51 18) ?_))
                refine And.intro (sK hs 51) ?_
                refine Exists.intro 2 (Exists.intro 61 (And.intro (by decide) (And.intro (sK hs 62) (And.intro (am_vp_ok b133) ?_))))
                obtain ⟨y134, j135, j4⟩ := am_bnd j4
                refine am_cut (P := AW mX9_layIdle (rX9_layIdle 0 0) (fun r h2 => r = none ∧ h2 = h') 183 [(0, .ref 51), (1, .int a1), (2, .int x2i), (3, .int (am_I h 52 (Int32.toNatClampNeg x2i))), (4, .int y21), (5, .int (am_I h19 65 (Int32.toNatClampNeg (am_I h19 51 22))))] [.int y134, .int (am_I (am_sI (am_sI h19 51 23 y77) 51 22 ((am_I (am_sI h19 51 23 y77) 51 22) - (Int32.ofInt 1))) 51 22), .ref 62] (am_sI (am_sI h19 51 23 y77) 51 22 ((am_I (am_sI h19 51 23 y77) 51 22) - (Int32.ofInt 1))) 0 0) (fun hJ135 => ?_) ?_
                · have hs := hs
                  refine AW_go okX9_layIdle 1 ?_
                  refine And.intro (fun c136 => ?_) (fun c136 => ?_)
                  · rw [if_pos c136] at j135
                    refine AW_go okX9_layIdle 1 ?_
                    obtain rfl := am_i1 j135
                    exact AW_pick [0, 1, 2, 3, 4, 5] rfl hJ135
                  · rw [if_neg c136] at j135
                    refine AW_go okX9_layIdle 2 ?_
                    refine And.intro (fun c137 => ?_) (fun c137 => ?_)
                    · rw [if_neg c137] at j135
                      refine AW_go okX9_layIdle 2 ?_
                      obtain rfl := am_i1 j135
                      exact AW_pick [0, 1, 2, 3, 4, 5] rfl hJ135
                    · rw [if_pos c137] at j135
                      refine AW_go okX9_layIdle 2 ?_
                      refine And.intro (fun c138 => ?_) (fun c138 => ?_)
                      · rw [if_pos c138] at j135
                        refine AW_go okX9_layIdle 1 ?_
                        obtain rfl := am_i1 j135
                        exact AW_pick [0, 1, 2, 3, 4, 5] rfl hJ135
                      · rw [if_neg c138] at j135
                        refine AW_go okX9_layIdle 2 ?_
                        obtain rfl := am_i1 j135
                        exact AW_pick [0, 1, 2, 3, 4, 5] rfl hJ135
                refine AW_go okX9_layIdle 2 ?_
                refine Exists.intro 2 (Exists.intro 61 (And.intro (by decide) (And.intro (sK hs 62) (And.intro (am_vp_ok b133) ?_))))
                obtain rfl := am_i1 j4
                exact AW_pick [0, 1, 2, 3] rfl hJ4
            · rw [if_pos c6] at j4
              refine AW_go okX9_layIdle 1 ?_
              obtain ⟨r189, h190, e191, j4⟩ := am_b2_ok j4
              refine AW_callV (As := []) (R' := rX9_endRow 0 0) (T := TX9) (N := 58) (ci := 9) (okX9_layIdle.1 51 _ _ rfl) lkX9_endRow kX9_176 rfl (sK hs 51) rfl (Nat.le_of_ble_eq_true rfl) ⟨by decide, by decide⟩ ⟨(Nat.le_of_ble_eq_true rfl), (Nat.le_of_ble_eq_true rfl)⟩ (Nat.le_of_ble_eq_true rfl) (c_X9_endRow h hs e191) (fun r h' hq => ?_)
              obtain ⟨rfl, hq⟩ := hq
              replace hq := hq.symm
              subst hq
              have hs := s_X9_endRow h hs e191
              refine AW_go okX9_layIdle 1 ?_
              obtain ⟨r192, h193, e194, j4⟩ := am_b2_ok j4
              refine AW_callV (As := []) (R' := rX9_newRow 0 0) (T := TX9) (N := 58) (ci := 9) (okX9_layIdle.1 55 _ _ rfl) lkX9_newRow kX9_159 rfl (sK hs 51) rfl (Nat.le_of_ble_eq_true rfl) ⟨by decide, by decide⟩ ⟨(Nat.le_of_ble_eq_true rfl), (Nat.le_of_ble_eq_true rfl)⟩ (Nat.le_of_ble_eq_true rfl) (c_X9_newRow h190 hs e194) (fun r h' hq => ?_)
              obtain ⟨rfl, hq⟩ := hq
              replace hq := hq.symm
              subst hq
              have hs := s_X9_newRow h190 hs e194
              refine AW_go okX9_layIdle 1 ?_
              obtain rfl := am_i1 j4
              exact AW_pick [1, 2, 3, 0] rfl hJ4
          · rw [if_pos c5] at j4
            refine AW_go okX9_layIdle 1 ?_
            obtain ⟨r195, h196, e197, j4⟩ := am_b2_ok j4
            refine AW_callV (As := []) (R' := rX9_openGroup 0 0) (T := TX9) (N := 58) (ci := 9) (okX9_layIdle.1 38 _ _ rfl) lkX9_openGroup kX9_169 rfl (sK hs 51) rfl (Nat.le_of_ble_eq_true rfl) ⟨by decide, by decide⟩ ⟨(Nat.le_of_ble_eq_true rfl), (Nat.le_of_ble_eq_true rfl)⟩ (Nat.le_of_ble_eq_true rfl) (c_X9_openGroup h hs e197) (fun r h' hq => ?_)
            obtain ⟨rfl, hq⟩ := hq
            replace hq := hq.symm
            subst hq
            have hs := s_X9_openGroup h hs e197
            refine AW_go okX9_layIdle 1 ?_
            obtain rfl := am_i1 j4
            exact AW_pick [1, 2, 3, 0] rfl hJ4
        refine AW_go okX9_layIdle 2 ?_
        refine AW_pick (lv' := [(0, .ref 51), (1, .int a1), (2, .int (x2i + Int32.ofInt 1))]) [1, 2, 0] rfl ?_
        exact ih a1 (x2i + Int32.ofInt 1) h3 _ _ hs hf
def f_X9_layIdle (n : Nat) (a1 : Int32) (h : am_H) : Option (Unit × am_H) := am_b2 (f_X9_openGroup (am_sI (am_sI h 51 23 (Int32.ofInt 0)) 51 22 (Int32.ofInt (-1)))) fun r1 h2 => (g_X9_layIdle n 0 a1 (Int32.ofInt 0) h2)
set_option maxRecDepth 100000 in
theorem s_X9_layIdle (n : Nat) (a1 : Int32) (h : am_H) (hs : am_stat h) {v : Unit} {h' : am_H} (hf : f_X9_layIdle n a1 h = some (v, h')) : am_stat h' := by
  unfold f_X9_layIdle at hf
  obtain ⟨r1, h2, e3, hf⟩ := am_b2_ok hf
  have hs := s_X9_openGroup (am_sI (am_sI h 51 23 (Int32.ofInt 0)) 51 22 (Int32.ofInt (-1))) hs e3
  exact (m_X9_layIdle n) a1 (Int32.ofInt 0) h2 _ _ hs hf
set_option maxRecDepth 100000 in
theorem c_X9_layIdle (n : Nat) (a1 : Int32) (h : am_H) (hs : am_stat h) {v : Unit} {h' : am_H} (hf : f_X9_layIdle n a1 h = some (v, h')) : AMet mX9_layIdle (rX9_layIdle 0 0) (fun r h2 => r = none ∧ h2 = h') [.ref 51, .int a1] h := by
  unfold f_X9_layIdle at hf
  refine AW_go okX9_layIdle 7 ?_
  refine And.intro (Or.inl rfl) (And.intro (sK hs 51) ?_)
  refine And.intro (sK hs 51) ?_
  obtain ⟨r1, h2, e3, hf⟩ := am_b2_ok hf
  refine AW_callV (As := []) (R' := rX9_openGroup 0 0) (T := TX9) (N := 58) (ci := 9) (okX9_layIdle.1 11 _ _ rfl) lkX9_openGroup kX9_169 rfl (sK hs 51) rfl (Nat.le_of_ble_eq_true rfl) ⟨by decide, by decide⟩ ⟨(Nat.le_of_ble_eq_true rfl), (Nat.le_of_ble_eq_true rfl)⟩ (Nat.le_of_ble_eq_true rfl) (c_X9_openGroup (am_sI (am_sI h 51 23 (Int32.ofInt 0)) 51 22 (Int32.ofInt (-1))) hs e3) (fun r h' hq => ?_)
  obtain ⟨rfl, hq⟩ := hq
  replace hq := hq.symm
  subst hq
  have hs := s_X9_openGroup (am_sI (am_sI h 51 23 (Int32.ofInt 0)) 51 22 (Int32.ofInt (-1))) hs e3
  refine AW_go okX9_layIdle 2 ?_
  refine AW_pick (lv' := [(0, .ref 51), (1, .int a1), (2, .int (Int32.ofInt 0))]) [1, 2, 0] rfl ?_
  exact (l_X9_layIdle n) a1 (Int32.ofInt 0) h2 _ _ hs hf
