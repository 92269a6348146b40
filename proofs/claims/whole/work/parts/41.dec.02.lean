def f_X5_bookCode (a0 : Nat) (a1 : Int32) (h : am_H) : Option (Int32 × am_H) := bif am_isO h a0 4 then ((am_A h a0 0).bind fun q2 => ((am_ln h 0 q2).bind fun n4 => (bif am_vp a1 n4 then (Option.bind ((if (am_I h q2 (Int32.toNatClampNeg a1)) = (Int32.ofInt 63) then some (Int32.ofInt 100) else some (Int32.ofInt 0))) fun y7 => ((am_A h a0 0).bind fun q60 => ((am_ln h 0 q60).bind fun n62 => (bif am_vp (a1 + (Int32.ofInt 1)) n62 then ((am_A h a0 0).bind fun q65 => ((am_ln h 0 q65).bind fun n67 => (bif am_vp (a1 + (Int32.ofInt 2)) n67 then (some ((((y7 + ((Int32.ofInt 10) * ((am_I h q60 (Int32.toNatClampNeg (a1 + (Int32.ofInt 1)))) - (Int32.ofInt 48)))) + (am_I h q65 (Int32.toNatClampNeg (a1 + (Int32.ofInt 2))))) - (Int32.ofInt 97)), h)) else none))) else none)))) else none))) else none
set_option maxRecDepth 100000 in
theorem s_X5_bookCode (a0 : Nat) (a1 : Int32) (h : am_H) (hs : am_stat h) {v : Int32} {h' : am_H} (hf : f_X5_bookCode a0 a1 h = some (v, h')) : am_stat h' := by
  unfold f_X5_bookCode at hf
  obtain ⟨k1, hf⟩ := am_bis hf
  obtain ⟨q2, k3, hf⟩ := am_bnd hf
  obtain ⟨n4, k5, hf⟩ := am_bnd hf
  obtain ⟨b6, hf⟩ := am_bis hf
  obtain ⟨y7, j8, hf⟩ := am_bnd hf
  obtain ⟨q60, k61, hf⟩ := am_bnd hf
  obtain ⟨n62, k63, hf⟩ := am_bnd hf
  obtain ⟨b64, hf⟩ := am_bis hf
  obtain ⟨q65, k66, hf⟩ := am_bnd hf
  obtain ⟨n67, k68, hf⟩ := am_bnd hf
  obtain ⟨b69, hf⟩ := am_bis hf
  obtain ⟨rfl, rfl⟩ := am_i2 hf
  exact hs
set_option maxRecDepth 100000 in
theorem c_X5_bookCode (a0 : Nat) (a1 : Int32) (h : am_H) (hs : am_stat h) {v : Int32} {h' : am_H} (hf : f_X5_bookCode a0 a1 h = some (v, h')) : AMet mX5_bookCode (rX5_bookCode 0 0) (fun r h2 => r = some (.int v) ∧ h2 = h') [.ref a0, .int a1] h := by
  unfold f_X5_bookCode at hf
  obtain ⟨k1, hf⟩ := am_bis hf
  obtain ⟨q2, k3, hf⟩ := am_bnd hf
  obtain ⟨n4, k5, hf⟩ := am_bnd hf
  obtain ⟨b6, hf⟩ := am_bis hf
  refine AW_go okX5_bookCode 5 ?_
  refine And.intro (am_isO_ok k1) (Exists.intro (some q2) (And.intro k3 ?_))
  refine Exists.intro n4 (And.intro (am_ln_ok k5) (And.intro (am_vp_ok b6) ?_))
  obtain ⟨y7, j8, hf⟩ := am_bnd hf
  refine am_cut (P := AW mX5_bookCode (rX5_bookCode 0 0) (fun r h2 => r = some (.int v) ∧ h2 = h') 17 [(0, .ref a0), (1, .int a1)] [.int y7] h 0 0) (fun hJ8 => ?_) ?_
  · have hs := hs
    refine AW_go okX5_bookCode 1 ?_
    refine And.intro (fun c9 => ?_) (fun c9 => ?_)
    · rw [if_neg c9] at j8
      refine AW_go okX5_bookCode 1 ?_
      obtain rfl := am_i1 j8
      exact AW_pick [0, 1] rfl hJ8
    · rw [if_pos c9] at j8
      refine AW_go okX5_bookCode 2 ?_
      obtain rfl := am_i1 j8
      exact AW_pick [0, 1] rfl hJ8
  obtain ⟨q60, k61, hf⟩ := am_bnd hf
  obtain ⟨n62, k63, hf⟩ := am_bnd hf
  obtain ⟨b64, hf⟩ := am_bis hf
  obtain ⟨q65, k66, hf⟩ := am_bnd hf
  obtain ⟨n67, k68, hf⟩ := am_bnd hf
  obtain ⟨b69, hf⟩ := am_bis hf
  refine AW_go okX5_bookCode 21 ?_
  refine And.intro (am_isO_ok k1) (Exists.intro (some q60) (And.intro k61 ?_))
  refine Exists.intro n62 (And.intro (am_ln_ok k63) (And.intro (am_vp_ok b64) ?_))
  refine And.intro (am_isO_ok k1) (Exists.intro (some q65) (And.intro k66 ?_))
  refine Exists.intro n67 (And.intro (am_ln_ok k68) (And.intro (am_vp_ok b69) ?_))
  obtain ⟨rfl, rfl⟩ := am_i2 hf
  exact And.intro ⟨(Nat.le_of_ble_eq_true rfl), (Nat.le_of_ble_eq_true rfl)⟩ (And.intro (Or.inl rfl) ⟨rfl, rfl⟩)
def f_X5_partCode (a0 : Nat) (a1 : Int32) (a2 : Int32) (h : am_H) : Option (Int32 × am_H) := bif am_isO h a0 4 then ((am_A h a0 0).bind fun q2 => ((am_ln h 0 q2).bind fun n4 => (bif am_vp a1 n4 then ((am_A h a0 0).bind fun q7 => ((am_ln h 0 q7).bind fun n9 => (bif am_vp (a1 + (Int32.ofInt 1)) n9 then ((am_A h a0 0).bind fun q12 => ((am_ln h 0 q12).bind fun n14 => (bif am_vp (a1 + (Int32.ofInt 2)) n14 then ((if a2 = (Int32.ofInt (-1)) then some ((((Int32.ofInt 10) * ((am_I h q7 (Int32.toNatClampNeg (a1 + (Int32.ofInt 1)))) - (Int32.ofInt 48))) + ((am_I h q12 (Int32.toNatClampNeg (a1 + (Int32.ofInt 2)))) - (Int32.ofInt 97))), h) else (if a2 = ((am_I h q2 (Int32.toNatClampNeg a1)) - (Int32.ofInt 48)) then some ((((Int32.ofInt 10) * ((am_I h q7 (Int32.toNatClampNeg (a1 + (Int32.ofInt 1)))) - (Int32.ofInt 48))) + ((am_I h q12 (Int32.toNatClampNeg (a1 + (Int32.ofInt 2)))) - (Int32.ofInt 97))), h) else Option.bind ((if a2 = ((am_I h q7 (Int32.toNatClampNeg (a1 + (Int32.ofInt 1)))) - (Int32.ofInt 48)) then some (((Int32.ofInt 100) + ((Int32.ofInt 10) * ((am_I h q2 (Int32.toNatClampNeg a1)) - (Int32.ofInt 48)))) + ((am_I h q12 (Int32.toNatClampNeg (a1 + (Int32.ofInt 2)))) - (Int32.ofInt 97))) else some (Int32.ofInt (-1)))) fun y19 => (some (y19, h))))) else none))) else none))) else none))) else none
set_option maxRecDepth 100000 in
theorem s_X5_partCode (a0 : Nat) (a1 : Int32) (a2 : Int32) (h : am_H) (hs : am_stat h) {v : Int32} {h' : am_H} (hf : f_X5_partCode a0 a1 a2 h = some (v, h')) : am_stat h' := by
  unfold f_X5_partCode at hf
  obtain ⟨k1, hf⟩ := am_bis hf
  obtain ⟨q2, k3, hf⟩ := am_bnd hf
  obtain ⟨n4, k5, hf⟩ := am_bnd hf
  obtain ⟨b6, hf⟩ := am_bis hf
  obtain ⟨q7, k8, hf⟩ := am_bnd hf
  obtain ⟨n9, k10, hf⟩ := am_bnd hf
  obtain ⟨b11, hf⟩ := am_bis hf
  obtain ⟨q12, k13, hf⟩ := am_bnd hf
  obtain ⟨n14, k15, hf⟩ := am_bnd hf
  obtain ⟨b16, hf⟩ := am_bis hf
  by_cases c17 : a2 = (Int32.ofInt (-1))
  · rw [if_pos c17] at hf
    obtain ⟨rfl, rfl⟩ := am_i2 hf
    exact hs
  · rw [if_neg c17] at hf
    by_cases c18 : a2 = ((am_I h q2 (Int32.toNatClampNeg a1)) - (Int32.ofInt 48))
    · rw [if_pos c18] at hf
      obtain ⟨rfl, rfl⟩ := am_i2 hf
      exact hs
    · rw [if_neg c18] at hf
      obtain ⟨y19, j20, hf⟩ := am_bnd hf
      obtain ⟨rfl, rfl⟩ := am_i2 hf
      exact hs
set_option maxRecDepth 100000 in
theorem c_X5_partCode (a0 : Nat) (a1 : Int32) (a2 : Int32) (h : am_H) (hs : am_stat h) {v : Int32} {h' : am_H} (hf : f_X5_partCode a0 a1 a2 h = some (v, h')) : AMet mX5_partCode (rX5_partCode 0 0) (fun r h2 => r = some (.int v) ∧ h2 = h') [.ref a0, .int a1, .int a2] h := by
  unfold f_X5_partCode at hf
  obtain ⟨k1, hf⟩ := am_bis hf
  obtain ⟨q2, k3, hf⟩ := am_bnd hf
  obtain ⟨n4, k5, hf⟩ := am_bnd hf
  obtain ⟨b6, hf⟩ := am_bis hf
  obtain ⟨q7, k8, hf⟩ := am_bnd hf
  obtain ⟨n9, k10, hf⟩ := am_bnd hf
  obtain ⟨b11, hf⟩ := am_bis hf
  obtain ⟨q12, k13, hf⟩ := am_bnd hf
  obtain ⟨n14, k15, hf⟩ := am_bnd hf
  obtain ⟨b16, hf⟩ := am_bis hf
  refine AW_go okX5_partCode 28 ?_
  refine And.intro (am_isO_ok k1) (Exists.intro (some q2) (And.intro k3 ?_))
  refine Exists.intro n4 (And.intro (am_ln_ok k5) (And.intro (am_vp_ok b6) ?_))
  refine And.intro (am_isO_ok k1) (Exists.intro (some q7) (And.intro k8 ?_))
  refine Exists.intro n9 (And.intro (am_ln_ok k10) (And.intro (am_vp_ok b11) ?_))
  refine And.intro (am_isO_ok k1) (Exists.intro (some q12) (And.intro k13 ?_))
  refine Exists.intro n14 (And.intro (am_ln_ok k15) (And.intro (am_vp_ok b16) ?_))
  refine And.intro (fun c17 => ?_) (fun c17 => ?_)
  · rw [if_pos c17] at hf
    refine AW_go okX5_partCode 6 ?_
    obtain ⟨rfl, rfl⟩ := am_i2 hf
    exact And.intro ⟨(Nat.le_of_ble_eq_true rfl), (Nat.le_of_ble_eq_true rfl)⟩ (And.intro (Or.inl rfl) ⟨rfl, rfl⟩)
  · rw [if_neg c17] at hf
    refine AW_go okX5_partCode 3 ?_
    refine And.intro (fun c18 => ?_) (fun c18 => ?_)
    · rw [if_neg c18] at hf
      refine AW_go okX5_partCode 2 ?_
      obtain ⟨y19, j20, hf⟩ := am_bnd hf
      refine am_cut (P := AW mX5_partCode (rX5_partCode 0 0) (fun r h2 => r = some (.int v) ∧ h2 = h') 75 [(0, .ref a0), (1, .int a1), (2, .int a2), (3, .int ((am_I h q2 (Int32.toNatClampNeg a1)) - (Int32.ofInt 48))), (4, .int ((am_I h q7 (Int32.toNatClampNeg (a1 + (Int32.ofInt 1)))) - (Int32.ofInt 48))), (5, .int ((am_I h q12 (Int32.toNatClampNeg (a1 + (Int32.ofInt 2)))) - (Int32.ofInt 97)))] [.int y19] h 0 0) (fun hJ20 => ?_) ?_
      · have hs := hs
        refine AW_go okX5_partCode 1 ?_
        refine And.intro (fun c21 => ?_) (fun c21 => ?_)
        · rw [if_neg c21] at j20
          refine AW_go okX5_partCode 1 ?_
          obtain rfl := am_i1 j20
          exact AW_pick [3, 4, 5, 2, 1, 0] rfl hJ20
        · rw [if_pos c21] at j20
          refine AW_go okX5_partCode 8 ?_
          obtain rfl := am_i1 j20
          exact AW_pick [3, 4, 5, 2, 1, 0] rfl hJ20
      refine AW_go okX5_partCode 1 ?_
      obtain ⟨rfl, rfl⟩ := am_i2 hf
      exact And.intro ⟨(Nat.le_of_ble_eq_true rfl), (Nat.le_of_ble_eq_true rfl)⟩ (And.intro (Or.inl rfl) ⟨rfl, rfl⟩)
    · rw [if_pos c18] at hf
      refine AW_go okX5_partCode 6 ?_
      obtain ⟨rfl, rfl⟩ := am_i2 hf
      exact And.intro ⟨(Nat.le_of_ble_eq_true rfl), (Nat.le_of_ble_eq_true rfl)⟩ (And.intro (Or.inl rfl) ⟨rfl, rfl⟩)
def f_X5_startRow (h : am_H) : Option (Unit × am_H) := bif am_vp (am_I h 3 2) 61 then (bif am_vp (am_I (am_sI h 6 (Int32.toNatClampNeg (am_I h 3 2)) (Int32.ofInt 0)) 3 2) 61 then (bif am_vp (am_I (am_sI (am_sI h 6 (Int32.toNatClampNeg (am_I h 3 2)) (Int32.ofInt 0)) 7 (Int32.toNatClampNeg (am_I (am_sI h 6 (Int32.toNatClampNeg (am_I h 3 2)) (Int32.ofInt 0)) 3 2)) (Int32.ofInt 0)) 3 2) 61 then (some ((), (am_sI (am_sI (am_sI h 6 (Int32.toNatClampNeg (am_I h 3 2)) (Int32.ofInt 0)) 7 (Int32.toNatClampNeg (am_I (am_sI h 6 (Int32.toNatClampNeg (am_I h 3 2)) (Int32.ofInt 0)) 3 2)) (Int32.ofInt 0)) 8 (Int32.toNatClampNeg (am_I (am_sI (am_sI h 6 (Int32.toNatClampNeg (am_I h 3 2)) (Int32.ofInt 0)) 7 (Int32.toNatClampNeg (am_I (am_sI h 6 (Int32.toNatClampNeg (am_I h 3 2)) (Int32.ofInt 0)) 3 2)) (Int32.ofInt 0)) 3 2)) (vp_nar (am_at 2) (Int32.ofInt 1))))) else none) else none) else none
set_option maxRecDepth 100000 in
theorem s_X5_startRow (h : am_H) (hs : am_stat h) {v : Unit} {h' : am_H} (hf : f_X5_startRow h = some (v, h')) : am_stat h' := by
  unfold f_X5_startRow at hf
  obtain ⟨b1, hf⟩ := am_bis hf
  obtain ⟨b2, hf⟩ := am_bis hf
  obtain ⟨b3, hf⟩ := am_bis hf
  obtain ⟨rfl, rfl⟩ := am_i2 hf
  exact hs
set_option maxRecDepth 100000 in
theorem c_X5_startRow (h : am_H) (hs : am_stat h) {v : Unit} {h' : am_H} (hf : f_X5_startRow h = some (v, h')) : AMet mX5_startRow (rX5_startRow 0 0) (fun r h2 => r = none ∧ h2 = h') [.ref 3] h := by
  unfold f_X5_startRow at hf
  obtain ⟨b1, hf⟩ := am_bis hf
  obtain ⟨b2, hf⟩ := am_bis hf
  obtain ⟨b3, hf⟩ := am_bis hf
  refine AW_go okX5_startRow 19 ?_
  refine And.intro (sK hs 3) (Exists.intro _ (And.intro (sA hs 3 6) ?_))
  refine And.intro (sK hs 3) ?_
  refine Exists.intro 61 (And.intro (sK hs 6) (And.intro (am_vp_ok b1) ?_))
  refine And.intro (sK hs 3) (Exists.intro _ (And.intro (sA hs 3 7) ?_))
  refine And.intro (sK hs 3) ?_
  refine Exists.intro 61 (And.intro (sK hs 7) (And.intro (am_vp_ok b2) ?_))
  refine And.intro (sK hs 3) (Exists.intro _ (And.intro (sA hs 3 8) ?_))
  refine And.intro (sK hs 3) ?_
  refine Exists.intro 2 (Exists.intro 61 (And.intro (by decide) (And.intro (sK hs 8) (And.intro (am_vp_ok b3) ?_))))
  obtain ⟨rfl, rfl⟩ := am_i2 hf
  exact And.intro ⟨(Nat.le_of_ble_eq_true rfl), (Nat.le_of_ble_eq_true rfl)⟩ (And.intro rfl ⟨rfl, rfl⟩)
def f_X5_endRow (h : am_H) : Option (Unit × am_H) := bif am_vp (am_I h 3 2) 61 then (bif am_vp (am_I (am_sI h 9 (Int32.toNatClampNeg (am_I h 3 2)) ((am_I h 9 (Int32.toNatClampNeg (am_I h 3 2))) ||| (am_I h 6 (Int32.toNatClampNeg (am_I h 3 2))))) 3 2) 61 then (bif am_vp (am_I (am_sI (am_sI h 9 (Int32.toNatClampNeg (am_I h 3 2)) ((am_I h 9 (Int32.toNatClampNeg (am_I h 3 2))) ||| (am_I h 6 (Int32.toNatClampNeg (am_I h 3 2))))) 10 (Int32.toNatClampNeg (am_I (am_sI h 9 (Int32.toNatClampNeg (am_I h 3 2)) ((am_I h 9 (Int32.toNatClampNeg (am_I h 3 2))) ||| (am_I h 6 (Int32.toNatClampNeg (am_I h 3 2))))) 3 2)) ((am_I (am_sI h 9 (Int32.toNatClampNeg (am_I h 3 2)) ((am_I h 9 (Int32.toNatClampNeg (am_I h 3 2))) ||| (am_I h 6 (Int32.toNatClampNeg (am_I h 3 2))))) 10 (Int32.toNatClampNeg (am_I (am_sI h 9 (Int32.toNatClampNeg (am_I h 3 2)) ((am_I h 9 (Int32.toNatClampNeg (am_I h 3 2))) ||| (am_I h 6 (Int32.toNatClampNeg (am_I h 3 2))))) 3 2))) ||| (am_I (am_sI h 9 (Int32.toNatClampNeg (am_I h 3 2)) ((am_I h 9 (Int32.toNatClampNeg (am_I h 3 2))) ||| (am_I h 6 (Int32.toNatClampNeg (am_I h 3 2))))) 7 (Int32.toNatClampNeg (am_I (am_sI h 9 (Int32.toNatClampNeg (am_I h 3 2)) ((am_I h 9 (Int32.toNatClampNeg (am_I h 3 2))) ||| (am_I h 6 (Int32.toNatClampNeg (am_I h 3 2))))) 3 2))))) 3 2) 61 then (am_b2 (f_X5_startRow (am_sI (am_sI (am_sI h 9 (Int32.toNatClampNeg (am_I h 3 2)) ((am_I h 9 (Int32.toNatClampNeg (am_I h 3 2))) ||| (am_I h 6 (Int32.toNatClampNeg (am_I h 3 2))))) 10 (Int32.toNatClampNeg (am_I (am_sI h 9 (Int32.toNatClampNeg (am_I h 3 2)) ((am_I h 9 (Int32.toNatClampNeg (am_I h 3 2))) ||| (am_I h 6 (Int32.toNatClampNeg (am_I h 3 2))))) 3 2)) ((am_I (am_sI h 9 (Int32.toNatClampNeg (am_I h 3 2)) ((am_I h 9 (Int32.toNatClampNeg (am_I h 3 2))) ||| (am_I h 6 (Int32.toNatClampNeg (am_I h 3 2))))) 10 (Int32.toNatClampNeg (am_I (am_sI h 9 (Int32.toNatClampNeg (am_I h 3 2)) ((am_I h 9 (Int32.toNatClampNeg (am_I h 3 2))) ||| (am_I h 6 (Int32.toNatClampNeg (am_I h 3 2))))) 3 2))) ||| (am_I (am_sI h 9 (Int32.toNatClampNeg (am_I h 3 2)) ((am_I h 9 (Int32.toNatClampNeg (am_I h 3 2))) ||| (am_I h 6 (Int32.toNatClampNeg (am_I h 3 2))))) 7 (Int32.toNatClampNeg (am_I (am_sI h 9 (Int32.toNatClampNeg (am_I h 3 2)) ((am_I h 9 (Int32.toNatClampNeg (am_I h 3 2))) ||| (am_I h 6 (Int32.toNatClampNeg (am_I h 3 2))))) 3 2))))) 11 (Int32.toNatClampNeg (am_I (am_sI (am_sI h 9 (Int32.toNatClampNeg (am_I h 3 2)) ((am_I h 9 (Int32.toNatClampNeg (am_I h 3 2))) ||| (am_I h 6 (Int32.toNatClampNeg (am_I h 3 2))))) 10 (Int32.toNatClampNeg (am_I (am_sI h 9 (Int32.toNatClampNeg (am_I h 3 2)) ((am_I h 9 (Int32.toNatClampNeg (am_I h 3 2))) ||| (am_I h 6 (Int32.toNatClampNeg (am_I h 3 2))))) 3 2)) ((am_I (am_sI h 9 (Int32.toNatClampNeg (am_I h 3 2)) ((am_I h 9 (Int32.toNatClampNeg (am_I h 3 2))) ||| (am_I h 6 (Int32.toNatClampNeg (am_I h 3 2))))) 10 (Int32.toNatClampNeg (am_I (am_sI h 9 (Int32.toNatClampNeg (am_I h 3 2)) ((am_I h 9 (Int32.toNatClampNeg (am_I h 3 2))) ||| (am_I h 6 (Int32.toNatClampNeg (am_I h 3 2))))) 3 2))) ||| (am_I (am_sI h 9 (Int32.toNatClampNeg (am_I h 3 2)) ((am_I h 9 (Int32.toNatClampNeg (am_I h 3 2))) ||| (am_I h 6 (Int32.toNatClampNeg (am_I h 3 2))))) 7 (Int32.toNatClampNeg (am_I (am_sI h 9 (Int32.toNatClampNeg (am_I h 3 2)) ((am_I h 9 (Int32.toNatClampNeg (am_I h 3 2))) ||| (am_I h 6 (Int32.toNatClampNeg (am_I h 3 2))))) 3 2))))) 3 2)) (vp_nar (am_at 2) ((am_I (am_sI (am_sI h 9 (Int32.toNatClampNeg (am_I h 3 2)) ((am_I h 9 (Int32.toNatClampNeg (am_I h 3 2))) ||| (am_I h 6 (Int32.toNatClampNeg (am_I h 3 2))))) 10 (Int32.toNatClampNeg (am_I (am_sI h 9 (Int32.toNatClampNeg (am_I h 3 2)) ((am_I h 9 (Int32.toNatClampNeg (am_I h 3 2))) ||| (am_I h 6 (Int32.toNatClampNeg (am_I h 3 2))))) 3 2)) ((am_I (am_sI h 9 (Int32.toNatClampNeg (am_I h 3 2)) ((am_I h 9 (Int32.toNatClampNeg (am_I h 3 2))) ||| (am_I h 6 (Int32.toNatClampNeg (am_I h 3 2))))) 10 (Int32.toNatClampNeg (am_I (am_sI h 9 (Int32.toNatClampNeg (am_I h 3 2)) ((am_I h 9 (Int32.toNatClampNeg (am_I h 3 2))) ||| (am_I h 6 (Int32.toNatClampNeg (am_I h 3 2))))) 3 2))) ||| (am_I (am_sI h 9 (Int32.toNatClampNeg (am_I h 3 2)) ((am_I h 9 (Int32.toNatClampNeg (am_I h 3 2))) ||| (am_I h 6 (Int32.toNatClampNeg (am_I h 3 2))))) 7 (Int32.toNatClampNeg (am_I (am_sI h 9 (Int32.toNatClampNeg (am_I h 3 2)) ((am_I h 9 (Int32.toNatClampNeg (am_I h 3 2))) ||| (am_I h 6 (Int32.toNatClampNeg (am_I h 3 2))))) 3 2))))) 11 (Int32.toNatClampNeg (am_I (am_sI (am_sI h 9 (Int32.toNatClampNeg (am_I h 3 2)) ((am_I h 9 (Int32.toNatClampNeg (am_I h 3 2))) ||| (am_I h 6 (Int32.toNatClampNeg (am_I h 3 2))))) 10 (Int32.toNatClampNeg (am_I (am_sI h 9 (Int32.toNatClampNeg (am_I h 3 2)) ((am_I h 9 (Int32.toNatClampNeg (am_I h 3 2))) ||| (am_I h 6 (Int32.toNatClampNeg (am_I h 3 2))))) 3 2)) ((am_I (am_sI h 9 (Int32.toNatClampNeg (am_I h 3 2)) ((am_I h 9 (Int32.toNatClampNeg (am_I h 3 2))) ||| (am_I h 6 (Int32.toNatClampNeg (am_I h 3 2))))) 10 (Int32.toNatClampNeg (am_I (am_sI h 9 (Int32.toNatClampNeg (am_I h 3 2)) ((am_I h 9 (Int32.toNatClampNeg (am_I h 3 2))) ||| (am_I h 6 (Int32.toNatClampNeg (am_I h 3 2))))) 3 2))) ||| (am_I (am_sI h 9 (Int32.toNatClampNeg (am_I h 3 2)) ((am_I h 9 (Int32.toNatClampNeg (am_I h 3 2))) ||| (am_I h 6 (Int32.toNatClampNeg (am_I h 3 2))))) 7 (Int32.toNatClampNeg (am_I (am_sI h 9 (Int32.toNatClampNeg (am_I h 3 2)) ((am_I h 9 (Int32.toNatClampNeg (am_I h 3 2))) ||| (am_I h 6 (Int32.toNatClampNeg (am_I h 3 2))))) 3 2))))) 3 2))) ||| (am_I (am_sI (am_sI h 9 (Int32.toNatClampNeg (am_I h 3 2)) ((am_I h 9 (Int32.toNatClampNeg (am_I h 3 2))) ||| (am_I h 6 (Int32.toNatClampNeg (am_I h 3 2))))) 10 (Int32.toNatClampNeg (am_I (am_sI h 9 (Int32.toNatClampNeg (am_I h 3 2)) ((am_I h 9 (Int32.toNatClampNeg (am_I h 3 2))) ||| (am_I h 6 (Int32.toNatClampNeg (am_I h 3 2))))) 3 2)) ((am_I (am_sI h 9 (Int32.toNatClampNeg (am_I h 3 2)) ((am_I h 9 (Int32.toNatClampNeg (am_I h 3 2))) ||| (am_I h 6 (Int32.toNatClampNeg (am_I h 3 2))))) 10 (Int32.toNatClampNeg (am_I (am_sI h 9 (Int32.toNatClampNeg (am_I h 3 2)) ((am_I h 9 (Int32.toNatClampNeg (am_I h 3 2))) ||| (am_I h 6 (Int32.toNatClampNeg (am_I h 3 2))))) 3 2))) ||| (am_I (am_sI h 9 (Int32.toNatClampNeg (am_I h 3 2)) ((am_I h 9 (Int32.toNatClampNeg (am_I h 3 2))) ||| (am_I h 6 (Int32.toNatClampNeg (am_I h 3 2))))) 7 (Int32.toNatClampNeg (am_I (am_sI h 9 (Int32.toNatClampNeg (am_I h 3 2)) ((am_I h 9 (Int32.toNatClampNeg (am_I h 3 2))) ||| (am_I h 6 (Int32.toNatClampNeg (am_I h 3 2))))) 3 2))))) 8 (Int32.toNatClampNeg (am_I (am_sI (am_sI h 9 (Int32.toNatClampNeg (am_I h 3 2)) ((am_I h 9 (Int32.toNatClampNeg (am_I h 3 2))) ||| (am_I h 6 (Int32.toNatClampNeg (am_I h 3 2))))) 10 (Int32.toNatClampNeg (am_I (am_sI h 9 (Int32.toNatClampNeg (am_I h 3 2)) ((am_I h 9 (Int32.toNatClampNeg (am_I h 3 2))) ||| (am_I h 6 (Int32.toNatClampNeg (am_I h 3 2))))) 3 2)) ((am_I (am_sI h 9 (Int32.toNatClampNeg (am_I h 3 2)) ((am_I h 9 (Int32.toNatClampNeg (am_I h 3 2))) ||| (am_I h 6 (Int32.toNatClampNeg (am_I h 3 2))))) 10 (Int32.toNatClampNeg (am_I (am_sI h 9 (Int32.toNatClampNeg (am_I h 3 2)) ((am_I h 9 (Int32.toNatClampNeg (am_I h 3 2))) ||| (am_I h 6 (Int32.toNatClampNeg (am_I h 3 2))))) 3 2))) ||| (am_I (am_sI h 9 (Int32.toNatClampNeg (am_I h 3 2)) ((am_I h 9 (Int32.toNatClampNeg (am_I h 3 2))) ||| (am_I h 6 (Int32.toNatClampNeg (am_I h 3 2))))) 7 (Int32.toNatClampNeg (am_I (am_sI h 9 (Int32.toNatClampNeg (am_I h 3 2)) ((am_I h 9 (Int32.toNatClampNeg (am_I h 3 2))) ||| (am_I h 6 (Int32.toNatClampNeg (am_I h 3 2))))) 3 2))))) 3 2))))))) fun r4 h5 => (some ((), h5))) else none) else none) else none
set_option maxRecDepth 100000 in
theorem s_X5_endRow (h : am_H) (hs : am_stat h) {v : Unit} {h' : am_H} (hf : f_X5_endRow h = some (v, h')) : am_stat h' := by
  unfold f_X5_endRow at hf
  obtain ⟨b1, hf⟩ := am_bis hf
  obtain ⟨b2, hf⟩ := am_bis hf
  obtain ⟨b3, hf⟩ := am_bis hf
  obtain ⟨r4, h5, e6, hf⟩ := am_b2_ok hf
  have hs := s_X5_startRow (am_sI (am_sI (am_sI h 9 (Int32.toNatClampNeg (am_I h 3 2)) ((am_I h 9 (Int32.toNatClampNeg (am_I h 3 2))) ||| (am_I h 6 (Int32.toNatClampNeg (am_I h 3 2))))) 10 (Int32.toNatClampNeg (am_I (am_sI h 9 (Int32.toNatClampNeg (am_I h 3 2)) ((am_I h 9 (Int32.toNatClampNeg (am_I h 3 2))) ||| (am_I h 6 (Int32.toNatClampNeg (am_I h 3 2))))) 3 2)) ((am_I (am_sI h 9 (Int32.toNatClampNeg (am_I h 3 2)) ((am_I h 9 (Int32.toNatClampNeg (am_I h 3 2))) ||| (am_I h 6 (Int32.toNatClampNeg (am_I h 3 2))))) 10 (Int32.toNatClampNeg (am_I (am_sI h 9 (Int32.toNatClampNeg (am_I h 3 2)) ((am_I h 9 (Int32.toNatClampNeg (am_I h 3 2))) ||| (am_I h 6 (Int32.toNatClampNeg (am_I h 3 2))))) 3 2))) ||| (am_I (am_sI h 9 (Int32.toNatClampNeg (am_I h 3 2)) ((am_I h 9 (Int32.toNatClampNeg (am_I h 3 2))) ||| (am_I h 6 (Int32.toNatClampNeg (am_I h 3 2))))) 7 (Int32.toNatClampNeg (am_I (am_sI h 9 (Int32.toNatClampNeg (am_I h 3 2)) ((am_I h 9 (Int32.toNatClampNeg (am_I h 3 2))) ||| (am_I h 6 (Int32.toNatClampNeg (am_I h 3 2))))) 3 2))))) 11 (Int32.toNatClampNeg (am_I (am_sI (am_sI h 9 (Int32.toNatClampNeg (am_I h 3 2)) ((am_I h 9 (Int32.toNatClampNeg (am_I h 3 2))) ||| (am_I h 6 (Int32.toNatClampNeg (am_I h 3 2))))) 10 (Int32.toNatClampNeg (am_I (am_sI h 9 (Int32.toNatClampNeg (am_I h 3 2)) ((am_I h 9 (Int32.toNatClampNeg (am_I h 3 2))) ||| (am_I h 6 (Int32.toNatClampNeg (am_I h 3 2))))) 3 2)) ((am_I (am_sI h 9 (Int32.toNatClampNeg (am_I h 3 2)) ((am_I h 9 (Int32.toNatClampNeg (am_I h 3 2))) ||| (am_I h 6 (Int32.toNatClampNeg (am_I h 3 2))))) 10 (Int32.toNatClampNeg (am_I (am_sI h 9 (Int32.toNatClampNeg (am_I h 3 2)) ((am_I h 9 (Int32.toNatClampNeg (am_I h 3 2))) ||| (am_I h 6 (Int32.toNatClampNeg (am_I h 3 2))))) 3 2))) ||| (am_I (am_sI h 9 (Int32.toNatClampNeg (am_I h 3 2)) ((am_I h 9 (Int32.toNatClampNeg (am_I h 3 2))) ||| (am_I h 6 (Int32.toNatClampNeg (am_I h 3 2))))) 7 (Int32.toNatClampNeg (am_I (am_sI h 9 (Int32.toNatClampNeg (am_I h 3 2)) ((am_I h 9 (Int32.toNatClampNeg (am_I h 3 2))) ||| (am_I h 6 (Int32.toNatClampNeg (am_I h 3 2))))) 3 2))))) 3 2)) (vp_nar (am_at 2) ((am_I (am_sI (am_sI h 9 (Int32.toNatClampNeg (am_I h 3 2)) ((am_I h 9 (Int32.toNatClampNeg (am_I h 3 2))) ||| (am_I h 6 (Int32.toNatClampNeg (am_I h 3 2))))) 10 (Int32.toNatClampNeg (am_I (am_sI h 9 (Int32.toNatClampNeg (am_I h 3 2)) ((am_I h 9 (Int32.toNatClampNeg (am_I h 3 2))) ||| (am_I h 6 (Int32.toNatClampNeg (am_I h 3 2))))) 3 2)) ((am_I (am_sI h 9 (Int32.toNatClampNeg (am_I h 3 2)) ((am_I h 9 (Int32.toNatClampNeg (am_I h 3 2))) ||| (am_I h 6 (Int32.toNatClampNeg (am_I h 3 2))))) 10 (Int32.toNatClampNeg (am_I (am_sI h 9 (Int32.toNatClampNeg (am_I h 3 2)) ((am_I h 9 (Int32.toNatClampNeg (am_I h 3 2))) ||| (am_I h 6 (Int32.toNatClampNeg (am_I h 3 2))))) 3 2))) ||| (am_I (am_sI h 9 (Int32.toNatClampNeg (am_I h 3 2)) ((am_I h 9 (Int32.toNatClampNeg (am_I h 3 2))) ||| (am_I h 6 (Int32.toNatClampNeg (am_I h 3 2))))) 7 (Int32.toNatClampNeg (am_I (am_sI h 9 (Int32.toNatClampNeg (am_I h 3 2)) ((am_I h 9 (Int32.toNatClampNeg (am_I h 3 2))) ||| (am_I h 6 (Int32.toNatClampNeg (am_I h 3 2))))) 3 2))))) 11 (Int32.toNatClampNeg (am_I (am_sI (am_sI h 9 (Int32.toNatClampNeg (am_I h 3 2)) ((am_I h 9 (Int32.toNatClampNeg (am_I h 3 2))) ||| (am_I h 6 (Int32.toNatClampNeg (am_I h 3 2))))) 10 (Int32.toNatClampNeg (am_I (am_sI h 9 (Int32.toNatClampNeg (am_I h 3 2)) ((am_I h 9 (Int32.toNatClampNeg (am_I h 3 2))) ||| (am_I h 6 (Int32.toNatClampNeg (am_I h 3 2))))) 3 2)) ((am_I (am_sI h 9 (Int32.toNatClampNeg (am_I h 3 2)) ((am_I h 9 (Int32.toNatClampNeg (am_I h 3 2))) ||| (am_I h 6 (Int32.toNatClampNeg (am_I h 3 2))))) 10 (Int32.toNatClampNeg (am_I (am_sI h 9 (Int32.toNatClampNeg (am_I h 3 2)) ((am_I h 9 (Int32.toNatClampNeg (am_I h 3 2))) ||| (am_I h 6 (Int32.toNatClampNeg (am_I h 3 2))))) 3 2))) ||| (am_I (am_sI h 9 (Int32.toNatClampNeg (am_I h 3 2)) ((am_I h 9 (Int32.toNatClampNeg (am_I h 3 2))) ||| (am_I h 6 (Int32.toNatClampNeg (am_I h 3 2))))) 7 (Int32.toNatClampNeg (am_I (am_sI h 9 (Int32.toNatClampNeg (am_I h 3 2)) ((am_I h 9 (Int32.toNatClampNeg (am_I h 3 2))) ||| (am_I h 6 (Int32.toNatClampNeg (am_I h 3 2))))) 3 2))))) 3 2))) ||| (am_I (am_sI (am_sI h 9 (Int32.toNatClampNeg (am_I h 3 2)) ((am_I h 9 (Int32.toNatClampNeg (am_I h 3 2))) ||| (am_I h 6 (Int32.toNatClampNeg (am_I h 3 2))))) 10 (Int32.toNatClampNeg (am_I (am_sI h 9 (Int32.toNatClampNeg (am_I h 3 2)) ((am_I h 9 (Int32.toNatClampNeg (am_I h 3 2))) ||| (am_I h 6 (Int32.toNatClampNeg (am_I h 3 2))))) 3 2)) ((am_I (am_sI h 9 (Int32.toNatClampNeg (am_I h 3 2)) ((am_I h 9 (Int32.toNatClampNeg (am_I h 3 2))) ||| (am_I h 6 (Int32.toNatClampNeg (am_I h 3 2))))) 10 (Int32.toNatClampNeg (am_I (am_sI h 9 (Int32.toNatClampNeg (am_I h 3 2)) ((am_I h 9 (Int32.toNatClampNeg (am_I h 3 2))) ||| (am_I h 6 (Int32.toNatClampNeg (am_I h 3 2))))) 3 2))) ||| (am_I (am_sI h 9 (Int32.toNatClampNeg (am_I h 3 2)) ((am_I h 9 (Int32.toNatClampNeg (am_I h 3 2))) ||| (am_I h 6 (Int32.toNatClampNeg (am_I h 3 2))))) 7 (Int32.toNatClampNeg (am_I (am_sI h 9 (Int32.toNatClampNeg (am_I h 3 2)) ((am_I h 9 (Int32.toNatClampNeg (am_I h 3 2))) ||| (am_I h 6 (Int32.toNatClampNeg (am_I h 3 2))))) 3 2))))) 8 (Int32.toNatClampNeg (am_I (am_sI (am_sI h 9 (Int32.toNatClampNeg (am_I h 3 2)) ((am_I h 9 (Int32.toNatClampNeg (am_I h 3 2))) ||| (am_I h 6 (Int32.toNatClampNeg (am_I h 3 2))))) 10 (Int32.toNatClampNeg (am_I (am_sI h 9 (Int32.toNatClampNeg (am_I h 3 2)) ((am_I h 9 (Int32.toNatClampNeg (am_I h 3 2))) ||| (am_I h 6 (Int32.toNatClampNeg (am_I h 3 2))))) 3 2)) ((am_I (am_sI h 9 (Int32.toNatClampNeg (am_I h 3 2)) ((am_I h 9 (Int32.toNatClampNeg (am_I h 3 2))) ||| (am_I h 6 (Int32.toNatClampNeg (am_I h 3 2))))) 10 (Int32.toNatClampNeg (am_I (am_sI h 9 (Int32.toNatClampNeg (am_I h 3 2)) ((am_I h 9 (Int32.toNatClampNeg (am_I h 3 2))) ||| (am_I h 6 (Int32.toNatClampNeg (am_I h 3 2))))) 3 2))) ||| (am_I (am_sI h 9 (Int32.toNatClampNeg (am_I h 3 2)) ((am_I h 9 (Int32.toNatClampNeg (am_I h 3 2))) ||| (am_I h 6 (Int32.toNatClampNeg (am_I h 3 2))))) 7 (Int32.toNatClampNeg (am_I (am_sI h 9 (Int32.toNatClampNeg (am_I h 3 2)) ((am_I h 9 (Int32.toNatClampNeg (am_I h 3 2))) ||| (am_I h 6 (Int32.toNatClampNeg (am_I h 3 2))))) 3 2))))) 3 2)))))) hs e6
  obtain ⟨rfl, rfl⟩ := am_i2 hf
  exact hs
set_option maxRecDepth 100000 in
theorem c_X5_endRow (h : am_H) (hs : am_stat h) {v : Unit} {h' : am_H} (hf : f_X5_endRow h = some (v, h')) : AMet mX5_endRow (rX5_endRow 0 0) (fun r h2 => r = none ∧ h2 = h') [.ref 3] h := by
  unfold f_X5_endRow at hf
  obtain ⟨b1, hf⟩ := am_bis hf
  obtain ⟨b2, hf⟩ := am_bis hf
  obtain ⟨b3, hf⟩ := am_bis hf
  refine AW_go okX5_endRow 40 ?_
  refine And.intro (sK hs 3) (Exists.intro _ (And.intro (sA hs 3 9) ?_))
  refine And.intro (sK hs 3) ?_
  refine Exists.intro 61 (And.intro (sK hs 9) (And.intro (am_vp_ok b1) ?_))
  refine And.intro (sK hs 3) (Exists.intro _ (And.intro (sA hs 3 6) ?_))
  refine And.intro (sK hs 3) ?_
  refine Exists.intro 61 (And.intro (sK hs 6) (And.intro (am_vp_ok b1) ?_))
  refine Exists.intro 61 (And.intro (sK hs 9) (And.intro (am_vp_ok b1) ?_))
  refine And.intro (sK hs 3) (Exists.intro _ (And.intro (sA hs 3 10) ?_))
  refine And.intro (sK hs 3) ?_
  refine Exists.intro 61 (And.intro (sK hs 10) (And.intro (am_vp_ok b2) ?_))
  refine And.intro (sK hs 3) (Exists.intro _ (And.intro (sA hs 3 7) ?_))
  refine And.intro (sK hs 3) ?_
  refine Exists.intro 61 (And.intro (sK hs 7) (And.intro (am_vp_ok b2) ?_))
  refine Exists.intro 61 (And.intro (sK hs 10) (And.intro (am_vp_ok b2) ?_))
  refine And.intro (sK hs 3) (Exists.intro _ (And.intro (sA hs 3 11) ?_))
  refine And.intro (sK hs 3) ?_
  refine Exists.intro 2 (Exists.intro 61 (And.intro (by decide) (And.intro (sK hs 11) (And.intro (am_vp_ok b3) ?_))))
  refine And.intro (sK hs 3) (Exists.intro _ (And.intro (sA hs 3 8) ?_))
  refine And.intro (sK hs 3) ?_
  refine Exists.intro 2 (Exists.intro 61 (And.intro (by decide) (And.intro (sK hs 8) (And.intro (am_vp_ok b3) ?_))))
  refine Exists.intro 2 (Exists.intro 61 (And.intro (by decide) (And.intro (sK hs 11) (And.intro (am_vp_ok b3) ?_))))
  obtain ⟨r4, h5, e6, hf⟩ := am_b2_ok hf
  refine AW_callV (As := []) (R' := rX5_startRow 0 0) (T := TX5) (N := 12) (ci := 5) (okX5_endRow.1 64 _ _ rfl) lkX5_startRow kX5_122 rfl (sK hs 3) rfl (Nat.le_of_ble_eq_true rfl) ⟨by decide, by decide⟩ ⟨(Nat.le_of_ble_eq_true rfl), (Nat.le_of_ble_eq_true rfl)⟩ (Nat.le_of_ble_eq_true rfl) (c_X5_startRow (am_sI (am_sI (am_sI h 9 (Int32.toNatClampNeg (am_I h 3 2)) ((am_I h 9 (Int32.toNatClampNeg (am_I h 3 2))) ||| (am_I h 6 (Int32.toNatClampNeg (am_I h 3 2))))) 10 (Int32.toNatClampNeg (am_I (am_sI h 9 (Int32.toNatClampNeg (am_I h 3 2)) ((am_I h 9 (Int32.toNatClampNeg (am_I h 3 2))) ||| (am_I h 6 (Int32.toNatClampNeg (am_I h 3 2))))) 3 2)) ((am_I (am_sI h 9 (Int32.toNatClampNeg (am_I h 3 2)) ((am_I h 9 (Int32.toNatClampNeg (am_I h 3 2))) ||| (am_I h 6 (Int32.toNatClampNeg (am_I h 3 2))))) 10 (Int32.toNatClampNeg (am_I (am_sI h 9 (Int32.toNatClampNeg (am_I h 3 2)) ((am_I h 9 (Int32.toNatClampNeg (am_I h 3 2))) ||| (am_I h 6 (Int32.toNatClampNeg (am_I h 3 2))))) 3 2))) ||| (am_I (am_sI h 9 (Int32.toNatClampNeg (am_I h 3 2)) ((am_I h 9 (Int32.toNatClampNeg (am_I h 3 2))) ||| (am_I h 6 (Int32.toNatClampNeg (am_I h 3 2))))) 7 (Int32.toNatClampNeg (am_I (am_sI h 9 (Int32.toNatClampNeg (am_I h 3 2)) ((am_I h 9 (Int32.toNatClampNeg (am_I h 3 2))) ||| (am_I h 6 (Int32.toNatClampNeg (am_I h 3 2))))) 3 2))))) 11 (Int32.toNatClampNeg (am_I (am_sI (am_sI h 9 (Int32.toNatClampNeg (am_I h 3 2)) ((am_I h 9 (Int32.toNatClampNeg (am_I h 3 2))) ||| (am_I h 6 (Int32.toNatClampNeg (am_I h 3 2))))) 10 (Int32.toNatClampNeg (am_I (am_sI h 9 (Int32.toNatClampNeg (am_I h 3 2)) ((am_I h 9 (Int32.toNatClampNeg (am_I h 3 2))) ||| (am_I h 6 (Int32.toNatClampNeg (am_I h 3 2))))) 3 2)) ((am_I (am_sI h 9 (Int32.toNatClampNeg (am_I h 3 2)) ((am_I h 9 (Int32.toNatClampNeg (am_I h 3 2))) ||| (am_I h 6 (Int32.toNatClampNeg (am_I h 3 2))))) 10 (Int32.toNatClampNeg (am_I (am_sI h 9 (Int32.toNatClampNeg (am_I h 3 2)) ((am_I h 9 (Int32.toNatClampNeg (am_I h 3 2))) ||| (am_I h 6 (Int32.toNatClampNeg (am_I h 3 2))))) 3 2))) ||| (am_I (am_sI h 9 (Int32.toNatClampNeg (am_I h 3 2)) ((am_I h 9 (Int32.toNatClampNeg (am_I h 3 2))) ||| (am_I h 6 (Int32.toNatClampNeg (am_I h 3 2))))) 7 (Int32.toNatClampNeg (am_I (am_sI h 9 (Int32.toNatClampNeg (am_I h 3 2)) ((am_I h 9 (Int32.toNatClampNeg (am_I h 3 2))) ||| (am_I h 6 (Int32.toNatClampNeg (am_I h 3 2))))) 3 2))))) 3 2)) (vp_nar (am_at 2) ((am_I (am_sI (am_sI h 9 (Int32.toNatClampNeg (am_I h 3 2)) ((am_I h 9 (Int32.toNatClampNeg (am_I h 3 2))) ||| (am_I h 6 (Int32.toNatClampNeg (am_I h 3 2))))) 10 (Int32.toNatClampNeg (am_I (am_sI h 9 (Int32.toNatClampNeg (am_I h 3 2)) ((am_I h 9 (Int32.toNatClampNeg (am_I h 3 2))) ||| (am_I h 6 (Int32.toNatClampNeg (am_I h 3 2))))) 3 2)) ((am_I (am_sI h 9 (Int32.toNatClampNeg (am_I h 3 2)) ((am_I h 9 (Int32.toNatClampNeg (am_I h 3 2))) ||| (am_I h 6 (Int32.toNatClampNeg (am_I h 3 2))))) 10 (Int32.toNatClampNeg (am_I (am_sI h 9 (Int32.toNatClampNeg (am_I h 3 2)) ((am_I h 9 (Int32.toNatClampNeg (am_I h 3 2))) ||| (am_I h 6 (Int32.toNatClampNeg (am_I h 3 2))))) 3 2))) ||| (am_I (am_sI h 9 (Int32.toNatClampNeg (am_I h 3 2)) ((am_I h 9 (Int32.toNatClampNeg (am_I h 3 2))) ||| (am_I h 6 (Int32.toNatClampNeg (am_I h 3 2))))) 7 (Int32.toNatClampNeg (am_I (am_sI h 9 (Int32.toNatClampNeg (am_I h 3 2)) ((am_I h 9 (Int32.toNatClampNeg (am_I h 3 2))) ||| (am_I h 6 (Int32.toNatClampNeg (am_I h 3 2))))) 3 2))))) 11 (Int32.toNatClampNeg (am_I (am_sI (am_sI h 9 (Int32.toNatClampNeg (am_I h 3 2)) ((am_I h 9 (Int32.toNatClampNeg (am_I h 3 2))) ||| (am_I h 6 (Int32.toNatClampNeg (am_I h 3 2))))) 10 (Int32.toNatClampNeg (am_I (am_sI h 9 (Int32.toNatClampNeg (am_I h 3 2)) ((am_I h 9 (Int32.toNatClampNeg (am_I h 3 2))) ||| (am_I h 6 (Int32.toNatClampNeg (am_I h 3 2))))) 3 2)) ((am_I (am_sI h 9 (Int32.toNatClampNeg (am_I h 3 2)) ((am_I h 9 (Int32.toNatClampNeg (am_I h 3 2))) ||| (am_I h 6 (Int32.toNatClampNeg (am_I h 3 2))))) 10 (Int32.toNatClampNeg (am_I (am_sI h 9 (Int32.toNatClampNeg (am_I h 3 2)) ((am_I h 9 (Int32.toNatClampNeg (am_I h 3 2))) ||| (am_I h 6 (Int32.toNatClampNeg (am_I h 3 2))))) 3 2))) ||| (am_I (am_sI h 9 (Int32.toNatClampNeg (am_I h 3 2)) ((am_I h 9 (Int32.toNatClampNeg (am_I h 3 2))) ||| (am_I h 6 (Int32.toNatClampNeg (am_I h 3 2))))) 7 (Int32.toNatClampNeg (am_I (am_sI h 9 (Int32.toNatClampNeg (am_I h 3 2)) ((am_I h 9 (Int32.toNatClampNeg (am_I h 3 2))) ||| (am_I h 6 (Int32.toNatClampNeg (am_I h 3 2))))) 3 2))))) 3 2))) ||| (am_I (am_sI (am_sI h 9 (Int32.toNatClampNeg (am_I h 3 2)) ((am_I h 9 (Int32.toNatClampNeg (am_I h 3 2))) ||| (am_I h 6 (Int32.toNatClampNeg (am_I h 3 2))))) 10 (Int32.toNatClampNeg (am_I (am_sI h 9 (Int32.toNatClampNeg (am_I h 3 2)) ((am_I h 9 (Int32.toNatClampNeg (am_I h 3 2))) ||| (am_I h 6 (Int32.toNatClampNeg (am_I h 3 2))))) 3 2)) ((am_I (am_sI h 9 (Int32.toNatClampNeg (am_I h 3 2)) ((am_I h 9 (Int32.toNatClampNeg (am_I h 3 2))) ||| (am_I h 6 (Int32.toNatClampNeg (am_I h 3 2))))) 10 (Int32.toNatClampNeg (am_I (am_sI h 9 (Int32.toNatClampNeg (am_I h 3 2)) ((am_I h 9 (Int32.toNatClampNeg (am_I h 3 2))) ||| (am_I h 6 (Int32.toNatClampNeg (am_I h 3 2))))) 3 2))) ||| (am_I (am_sI h 9 (Int32.toNatClampNeg (am_I h 3 2)) ((am_I h 9 (Int32.toNatClampNeg (am_I h 3 2))) ||| (am_I h 6 (Int32.toNatClampNeg (am_I h 3 2))))) 7 (Int32.toNatClampNeg (am_I (am_sI h 9 (Int32.toNatClampNeg (am_I h 3 2)) ((am_I h 9 (Int32.toNatClampNeg (am_I h 3 2))) ||| (am_I h 6 (Int32.toNatClampNeg (am_I h 3 2))))) 3 2))))) 8 (Int32.toNatClampNeg (am_I (am_sI (am_sI h 9 (Int32.toNatClampNeg (am_I h 3 2)) ((am_I h 9 (Int32.toNatClampNeg (am_I h 3 2))) ||| (am_I h 6 (Int32.toNatClampNeg (am_I h 3 2))))) 10 (Int32.toNatClampNeg (am_I (am_sI h 9 (Int32.toNatClampNeg (am_I h 3 2)) ((am_I h 9 (Int32.toNatClampNeg (am_I h 3 2))) ||| (am_I h 6 (Int32.toNatClampNeg (am_I h 3 2))))) 3 2)) ((am_I (am_sI h 9 (Int32.toNatClampNeg (am_I h 3 2)) ((am_I h 9 (Int32.toNatClampNeg (am_I h 3 2))) ||| (am_I h 6 (Int32.toNatClampNeg (am_I h 3 2))))) 10 (Int32.toNatClampNeg (am_I (am_sI h 9 (Int32.toNatClampNeg (am_I h 3 2)) ((am_I h 9 (Int32.toNatClampNeg (am_I h 3 2))) ||| (am_I h 6 (Int32.toNatClampNeg (am_I h 3 2))))) 3 2))) ||| (am_I (am_sI h 9 (Int32.toNatClampNeg (am_I h 3 2)) ((am_I h 9 (Int32.toNatClampNeg (am_I h 3 2))) ||| (am_I h 6 (Int32.toNatClampNeg (am_I h 3 2))))) 7 (Int32.toNatClampNeg (am_I (am_sI h 9 (Int32.toNatClampNeg (am_I h 3 2)) ((am_I h 9 (Int32.toNatClampNeg (am_I h 3 2))) ||| (am_I h 6 (Int32.toNatClampNeg (am_I h 3 2))))) 3 2))))) 3 2)))))) hs e6) (fun r h' hq => ?_)
  obtain ⟨rfl, hq⟩ := hq
  replace hq := hq.symm
  subst hq
  have hs := s_X5_startRow (am_sI (am_sI (am_sI h 9 (Int32.toNatClampNeg (am_I h 3 2)) ((am_I h 9 (Int32.toNatClampNeg (am_I h 3 2))) ||| (am_I h 6 (Int32.toNatClampNeg (am_I h 3 2))))) 10 (Int32.toNatClampNeg (am_I (am_sI h 9 (Int32.toNatClampNeg (am_I h 3 2)) ((am_I h 9 (Int32.toNatClampNeg (am_I h 3 2))) ||| (am_I h 6 (Int32.toNatClampNeg (am_I h 3 2))))) 3 2)) ((am_I (am_sI h 9 (Int32.toNatClampNeg (am_I h 3 2)) ((am_I h 9 (Int32.toNatClampNeg (am_I h 3 2))) ||| (am_I h 6 (Int32.toNatClampNeg (am_I h 3 2))))) 10 (Int32.toNatClampNeg (am_I (am_sI h 9 (Int32.toNatClampNeg (am_I h 3 2)) ((am_I h 9 (Int32.toNatClampNeg (am_I h 3 2))) ||| (am_I h 6 (Int32.toNatClampNeg (am_I h 3 2))))) 3 2))) ||| (am_I (am_sI h 9 (Int32.toNatClampNeg (am_I h 3 2)) ((am_I h 9 (Int32.toNatClampNeg (am_I h 3 2))) ||| (am_I h 6 (Int32.toNatClampNeg (am_I h 3 2))))) 7 (Int32.toNatClampNeg (am_I (am_sI h 9 (Int32.toNatClampNeg (am_I h 3 2)) ((am_I h 9 (Int32.toNatClampNeg (am_I h 3 2))) ||| (am_I h 6 (Int32.toNatClampNeg (am_I h 3 2))))) 3 2))))) 11 (Int32.toNatClampNeg (am_I (am_sI (am_sI h 9 (Int32.toNatClampNeg (am_I h 3 2)) ((am_I h 9 (Int32.toNatClampNeg (am_I h 3 2))) ||| (am_I h 6 (Int32.toNatClampNeg (am_I h 3 2))))) 10 (Int32.toNatClampNeg (am_I (am_sI h 9 (Int32.toNatClampNeg (am_I h 3 2)) ((am_I h 9 (Int32.toNatClampNeg (am_I h 3 2))) ||| (am_I h 6 (Int32.toNatClampNeg (am_I h 3 2))))) 3 2)) ((am_I (am_sI h 9 (Int32.toNatClampNeg (am_I h 3 2)) ((am_I h 9 (Int32.toNatClampNeg (am_I h 3 2))) ||| (am_I h 6 (Int32.toNatClampNeg (am_I h 3 2))))) 10 (Int32.toNatClampNeg (am_I (am_sI h 9 (Int32.toNatClampNeg (am_I h 3 2)) ((am_I h 9 (Int32.toNatClampNeg (am_I h 3 2))) ||| (am_I h 6 (Int32.toNatClampNeg (am_I h 3 2))))) 3 2))) ||| (am_I (am_sI h 9 (Int32.toNatClampNeg (am_I h 3 2)) ((am_I h 9 (Int32.toNatClampNeg (am_I h 3 2))) ||| (am_I h 6 (Int32.toNatClampNeg (am_I h 3 2))))) 7 (Int32.toNatClampNeg (am_I (am_sI h 9 (Int32.toNatClampNeg (am_I h 3 2)) ((am_I h 9 (Int32.toNatClampNeg (am_I h 3 2))) ||| (am_I h 6 (Int32.toNatClampNeg (am_I h 3 2))))) 3 2))))) 3 2)) (vp_nar (am_at 2) ((am_I (am_sI (am_sI h 9 (Int32.toNatClampNeg (am_I h 3 2)) ((am_I h 9 (Int32.toNatClampNeg (am_I h 3 2))) ||| (am_I h 6 (Int32.toNatClampNeg (am_I h 3 2))))) 10 (Int32.toNatClampNeg (am_I (am_sI h 9 (Int32.toNatClampNeg (am_I h 3 2)) ((am_I h 9 (Int32.toNatClampNeg (am_I h 3 2))) ||| (am_I h 6 (Int32.toNatClampNeg (am_I h 3 2))))) 3 2)) ((am_I (am_sI h 9 (Int32.toNatClampNeg (am_I h 3 2)) ((am_I h 9 (Int32.toNatClampNeg (am_I h 3 2))) ||| (am_I h 6 (Int32.toNatClampNeg (am_I h 3 2))))) 10 (Int32.toNatClampNeg (am_I (am_sI h 9 (Int32.toNatClampNeg (am_I h 3 2)) ((am_I h 9 (Int32.toNatClampNeg (am_I h 3 2))) ||| (am_I h 6 (Int32.toNatClampNeg (am_I h 3 2))))) 3 2))) ||| (am_I (am_sI h 9 (Int32.toNatClampNeg (am_I h 3 2)) ((am_I h 9 (Int32.toNatClampNeg (am_I h 3 2))) ||| (am_I h 6 (Int32.toNatClampNeg (am_I h 3 2))))) 7 (Int32.toNatClampNeg (am_I (am_sI h 9 (Int32.toNatClampNeg (am_I h 3 2)) ((am_I h 9 (Int32.toNatClampNeg (am_I h 3 2))) ||| (am_I h 6 (Int32.toNatClampNeg (am_I h 3 2))))) 3 2))))) 11 (Int32.toNatClampNeg (am_I (am_sI (am_sI h 9 (Int32.toNatClampNeg (am_I h 3 2)) ((am_I h 9 (Int32.toNatClampNeg (am_I h 3 2))) ||| (am_I h 6 (Int32.toNatClampNeg (am_I h 3 2))))) 10 (Int32.toNatClampNeg (am_I (am_sI h 9 (Int32.toNatClampNeg (am_I h 3 2)) ((am_I h 9 (Int32.toNatClampNeg (am_I h 3 2))) ||| (am_I h 6 (Int32.toNatClampNeg (am_I h 3 2))))) 3 2)) ((am_I (am_sI h 9 (Int32.toNatClampNeg (am_I h 3 2)) ((am_I h 9 (Int32.toNatClampNeg (am_I h 3 2))) ||| (am_I h 6 (Int32.toNatClampNeg (am_I h 3 2))))) 10 (Int32.toNatClampNeg (am_I (am_sI h 9 (Int32.toNatClampNeg (am_I h 3 2)) ((am_I h 9 (Int32.toNatClampNeg (am_I h 3 2))) ||| (am_I h 6 (Int32.toNatClampNeg (am_I h 3 2))))) 3 2))) ||| (am_I (am_sI h 9 (Int32.toNatClampNeg (am_I h 3 2)) ((am_I h 9 (Int32.toNatClampNeg (am_I h 3 2))) ||| (am_I h 6 (Int32.toNatClampNeg (am_I h 3 2))))) 7 (Int32.toNatClampNeg (am_I (am_sI h 9 (Int32.toNatClampNeg (am_I h 3 2)) ((am_I h 9 (Int32.toNatClampNeg (am_I h 3 2))) ||| (am_I h 6 (Int32.toNatClampNeg (am_I h 3 2))))) 3 2))))) 3 2))) ||| (am_I (am_sI (am_sI h 9 (Int32.toNatClampNeg (am_I h 3 2)) ((am_I h 9 (Int32.toNatClampNeg (am_I h 3 2))) ||| (am_I h 6 (Int32.toNatClampNeg (am_I h 3 2))))) 10 (Int32.toNatClampNeg (am_I (am_sI h 9 (Int32.toNatClampNeg (am_I h 3 2)) ((am_I h 9 (Int32.toNatClampNeg (am_I h 3 2))) ||| (am_I h 6 (Int32.toNatClampNeg (am_I h 3 2))))) 3 2)) ((am_I (am_sI h 9 (Int32.toNatClampNeg (am_I h 3 2)) ((am_I h 9 (Int32.toNatClampNeg (am_I h 3 2))) ||| (am_I h 6 (Int32.toNatClampNeg (am_I h 3 2))))) 10 (Int32.toNatClampNeg (am_I (am_sI h 9 (Int32.toNatClampNeg (am_I h 3 2)) ((am_I h 9 (Int32.toNatClampNeg (am_I h 3 2))) ||| (am_I h 6 (Int32.toNatClampNeg (am_I h 3 2))))) 3 2))) ||| (am_I (am_sI h 9 (Int32.toNatClampNeg (am_I h 3 2)) ((am_I h 9 (Int32.toNatClampNeg (am_I h 3 2))) ||| (am_I h 6 (Int32.toNatClampNeg (am_I h 3 2))))) 7 (Int32.toNatClampNeg (am_I (am_sI h 9 (Int32.toNatClampNeg (am_I h 3 2)) ((am_I h 9 (Int32.toNatClampNeg (am_I h 3 2))) ||| (am_I h 6 (Int32.toNatClampNeg (am_I h 3 2))))) 3 2))))) 8 (Int32.toNatClampNeg (am_I (am_sI (am_sI h 9 (Int32.toNatClampNeg (am_I h 3 2)) ((am_I h 9 (Int32.toNatClampNeg (am_I h 3 2))) ||| (am_I h 6 (Int32.toNatClampNeg (am_I h 3 2))))) 10 (Int32.toNatClampNeg (am_I (am_sI h 9 (Int32.toNatClampNeg (am_I h 3 2)) ((am_I h 9 (Int32.toNatClampNeg (am_I h 3 2))) ||| (am_I h 6 (Int32.toNatClampNeg (am_I h 3 2))))) 3 2)) ((am_I (am_sI h 9 (Int32.toNatClampNeg (am_I h 3 2)) ((am_I h 9 (Int32.toNatClampNeg (am_I h 3 2))) ||| (am_I h 6 (Int32.toNatClampNeg (am_I h 3 2))))) 10 (Int32.toNatClampNeg (am_I (am_sI h 9 (Int32.toNatClampNeg (am_I h 3 2)) ((am_I h 9 (Int32.toNatClampNeg (am_I h 3 2))) ||| (am_I h 6 (Int32.toNatClampNeg (am_I h 3 2))))) 3 2))) ||| (am_I (am_sI h 9 (Int32.toNatClampNeg (am_I h 3 2)) ((am_I h 9 (Int32.toNatClampNeg (am_I h 3 2))) ||| (am_I h 6 (Int32.toNatClampNeg (am_I h 3 2))))) 7 (Int32.toNatClampNeg (am_I (am_sI h 9 (Int32.toNatClampNeg (am_I h 3 2)) ((am_I h 9 (Int32.toNatClampNeg (am_I h 3 2))) ||| (am_I h 6 (Int32.toNatClampNeg (am_I h 3 2))))) 3 2))))) 3 2)))))) hs e6
  refine AW_go okX5_endRow 1 ?_
  obtain ⟨rfl, rfl⟩ := am_i2 hf
  exact And.intro ⟨(Nat.le_of_ble_eq_true rfl), (Nat.le_of_ble_eq_true rfl)⟩ (And.intro rfl ⟨rfl, rfl⟩)
def g_X5_followUp : Nat → Nat → Int32 → Int32 → Int32 → am_H → Option (Unit × am_H)
  | 0, _, _, _, _, _ => none
  | n + 1, _, a1, a2, x3i, h => (if (am_I h 3 3) < x3i then some ((), h) else Option.bind ((if (((Int32.toUInt32 a1 >>> (Int32.toUInt32 x3i &&& Int32.toUInt32 31)).toInt32) &&& (Int32.ofInt 1)) = 0 then some h else bif am_vp x3i 16 then (some (am_sI h 5 (Int32.toNatClampNeg x3i) ((am_I h 5 (Int32.toNatClampNeg x3i)) ||| a2))) else none)) fun h2 => (g_X5_followUp n 0 a1 a2 (x3i + Int32.ofInt 1) h2))
set_option maxRecDepth 100000 in
set_option maxHeartbeats 4000000 in
theorem m_X5_followUp (n : Nat) : (∀ (a1 : Int32) (a2 : Int32) (x3i : Int32) (h : am_H) (v : Unit) (h' : am_H), am_stat h → g_X5_followUp n 0 a1 a2 x3i h = some (v, h') → am_stat h') := by
  induction n with
  | zero => exact fun a1 a2 x3i h v h' hs hf => (by cases hf)
  | succ n ih =>
    skip
    · intro a1 a2 x3i h v h' hs hf
      have hf : ((if (am_I h 3 3) < x3i then some ((), h) else Option.bind ((if (((Int32.toUInt32 a1 >>> (Int32.toUInt32 x3i &&& Int32.toUInt32 31)).toInt32) &&& (Int32.ofInt 1)) = 0 then some h else bif am_vp x3i 16 then (some (am_sI h 5 (Int32.toNatClampNeg x3i) ((am_I h 5 (Int32.toNatClampNeg x3i)) ||| a2))) else none)) fun h2 => (g_X5_followUp n 0 a1 a2 (x3i + Int32.ofInt 1) h2))) = some (v, h') := hf
      by_cases c1 : (am_I h 3 3) < x3i
      · rw [if_pos c1] at hf
        obtain ⟨rfl, rfl⟩ := am_i2 hf
        exact hs
      · rw [if_neg c1] at hf
        obtain ⟨h2, j3, hf⟩ := am_bnd hf
        have hs0 := hs
        have hs : am_stat h2 := by
          have hs := hs0
          by_cases c4 : (((Int32.toUInt32 a1 >>> (Int32.toUInt32 x3i &&& Int32.toUInt32 31)).toInt32) &&& (Int32.ofInt 1)) = 0
          · rw [if_pos c4] at j3
            obtain rfl := am_i1 j3
            exact hs
          · rw [if_neg c4] at j3
            obtain ⟨b5, j3⟩ := am_bis j3
            obtain rfl := am_i1 j3
            exact hs
        exact ih a1 a2 (x3i + Int32.ofInt 1) h2 _ _ hs hf
set_option maxRecDepth 100000 in
set_option maxHeartbeats 4000000 in
theorem l_X5_followUp (n : Nat) : (∀ (a1 : Int32) (a2 : Int32) (x3i : Int32) (h : am_H) (v : Unit) (h' : am_H), am_stat h → g_X5_followUp n 0 a1 a2 x3i h = some (v, h') → AW mX5_followUp (rX5_followUp 0 0) (fun r h2 => r = none ∧ h2 = h') 2 [(0, .ref 3), (1, .int a1), (2, .int a2), (3, .int x3i)] [] h 0 0) := by
  induction n with
  | zero => exact fun a1 a2 x3i h v h' hs hf => (by cases hf)
  | succ n ih =>
    skip
    · intro a1 a2 x3i h v h' hs hf
      have hf : ((if (am_I h 3 3) < x3i then some ((), h) else Option.bind ((if (((Int32.toUInt32 a1 >>> (Int32.toUInt32 x3i &&& Int32.toUInt32 31)).toInt32) &&& (Int32.ofInt 1)) = 0 then some h else bif am_vp x3i 16 then (some (am_sI h 5 (Int32.toNatClampNeg x3i) ((am_I h 5 (Int32.toNatClampNeg x3i)) ||| a2))) else none)) fun h2 => (g_X5_followUp n 0 a1 a2 (x3i + Int32.ofInt 1) h2))) = some (v, h') := hf
      refine AW_go okX5_followUp 4 ?_
      refine And.intro (sK hs 3) ?_
      refine And.intro (fun c1 => ?_) (fun c1 => ?_)
      · rw [if_pos c1] at hf
        refine AW_go okX5_followUp 1 ?_
        obtain ⟨rfl, rfl⟩ := am_i2 hf
        exact And.intro ⟨(Nat.le_of_ble_eq_true rfl), (Nat.le_of_ble_eq_true rfl)⟩ (And.intro rfl ⟨rfl, rfl⟩)
      · rw [if_neg c1] at hf
        refine AW_go okX5_followUp 5 ?_
        obtain ⟨h2, j3, hf⟩ := am_bnd hf
        have hs0 := hs
        have hs : am_stat h2 := by
          have hs := hs0
          by_cases c4 : (((Int32.toUInt32 a1 >>> (Int32.toUInt32 x3i &&& Int32.toUInt32 31)).toInt32) &&& (Int32.ofInt 1)) = 0
          · rw [if_pos c4] at j3
            obtain rfl := am_i1 j3
            exact hs
          · rw [if_neg c4] at j3
            obtain ⟨b5, j3⟩ := am_bis j3
            obtain rfl := am_i1 j3
            exact hs
        refine am_cut (P := AW mX5_followUp (rX5_followUp 0 0) (fun r h2 => r = none ∧ h2 = h') 28 [(0, .ref 3), (1, .int a1), (2, .int a2), (3, .int x3i)] [] h2 0 0) (fun hJ3 => ?_) ?_
        · have hs := hs0
          refine AW_go okX5_followUp 1 ?_
          refine And.intro (fun c4 => ?_) (fun c4 => ?_)
          · rw [if_pos c4] at j3
            obtain rfl := am_i1 j3
            exact AW_pick [0, 1, 2, 3] rfl hJ3
          · rw [if_neg c4] at j3
            obtain ⟨b5, j3⟩ := am_bis j3
            refine AW_go okX5_followUp 8 ?_
            refine And.intro (sK hs 3) (Exists.intro _ (And.intro (sA hs 3 5) ?_))
            refine Exists.intro 16 (And.intro (sK hs 5) (And.intro (am_vp_ok b5) ?_))
            refine Exists.intro 16 (And.intro (sK hs 5) (And.intro (am_vp_ok b5) ?_))
            obtain rfl := am_i1 j3
            exact AW_pick [0, 1, 2, 3] rfl hJ3
        refine AW_go okX5_followUp 2 ?_
        refine AW_pick (lv' := [(0, .ref 3), (1, .int a1), (2, .int a2), (3, .int (x3i + Int32.ofInt 1))]) [1, 2, 3, 0] rfl ?_
        exact ih a1 a2 (x3i + Int32.ofInt 1) h2 _ _ hs hf
def f_X5_followUp (n : Nat) (a1 : Int32) (a2 : Int32) (h : am_H) : Option (Unit × am_H) := g_X5_followUp n 0 a1 a2 (Int32.ofInt 1) h
set_option maxRecDepth 100000 in
theorem s_X5_followUp (n : Nat) (a1 : Int32) (a2 : Int32) (h : am_H) (hs : am_stat h) {v : Unit} {h' : am_H} (hf : f_X5_followUp n a1 a2 h = some (v, h')) : am_stat h' := by
  unfold f_X5_followUp at hf
  exact (m_X5_followUp n) a1 a2 (Int32.ofInt 1) h _ _ hs hf
set_option maxRecDepth 100000 in
theorem c_X5_followUp (n : Nat) (a1 : Int32) (a2 : Int32) (h : am_H) (hs : am_stat h) {v : Unit} {h' : am_H} (hf : f_X5_followUp n a1 a2 h = some (v, h')) : AMet mX5_followUp (rX5_followUp 0 0) (fun r h2 => r = none ∧ h2 = h') [.ref 3, .int a1, .int a2] h := by
  unfold f_X5_followUp at hf
  refine AW_go okX5_followUp 2 ?_
  refine AW_pick (lv' := [(0, .ref 3), (1, .int a1), (2, .int a2), (3, .int (Int32.ofInt 1))]) [1, 2, 3, 0] rfl ?_
  exact (l_X5_followUp n) a1 a2 (Int32.ofInt 1) h _ _ hs hf
def f_X6_isSound (o : Nat) (h : am_H) : Option (Int32 × am_H) := Option.bind ((if (am_I h o 1) = 0 then (if (am_I h o 4) = 0 then (if ((((am_I h (o + 1) (Int32.toNatClampNeg (Int32.ofInt 0))) + (am_I h (o + 1) (Int32.toNatClampNeg (Int32.ofInt 1)))) + (am_I h (o + 1) (Int32.toNatClampNeg (Int32.ofInt 2)))) + (am_I h (o + 1) (Int32.toNatClampNeg (Int32.ofInt 3)))) = 0 then some (Int32.ofInt 1) else some (Int32.ofInt 0)) else some (Int32.ofInt 0)) else some (Int32.ofInt 0))) fun y1 => (bif am_b01 y1 then (some (y1, h)) else none)
set_option maxRecDepth 100000 in
theorem s_X6_isSound (o : Nat) (h : am_H) (ho : o = 37 ∨ o = 37) (hs : am_stat h) {v : Int32} {h' : am_H} (hf : f_X6_isSound o h = some (v, h')) : am_stat h' := by
  unfold f_X6_isSound at hf
  obtain ⟨y1, j2, hf⟩ := am_bnd hf
  obtain ⟨b56, hf⟩ := am_bis hf
  obtain ⟨rfl, rfl⟩ := am_i2 hf
  exact hs
set_option maxRecDepth 100000 in
theorem c_X6_isSound (o : Nat) (h : am_H) (ho : o = 37 ∨ o = 37) (hs : am_stat h) {v : Int32} {h' : am_H} (hf : f_X6_isSound o h = some (v, h')) : AMet mX6_isSound (rX6_isSound 0 0) (fun r h2 => r = some (.int v) ∧ h2 = h') [.ref o] h := by
  unfold f_X6_isSound at hf
  refine AW_go okX6_isSound 2 ?_
  refine And.intro (sv_K0 hs ho) ?_
  obtain ⟨y1, j2, hf⟩ := am_bnd hf
  refine am_cut (P := AW mX6_isSound (rX6_isSound 0 0) (fun r h2 => r = some (.int v) ∧ h2 = h') 49 [(0, .ref o)] [.int y1] h 0 0) (fun hJ2 => ?_) ?_
  · have hs := hs
    refine AW_go okX6_isSound 1 ?_
    refine And.intro (fun c3 => ?_) (fun c3 => ?_)
    · rw [if_neg c3] at j2
      refine AW_go okX6_isSound 1 ?_
      obtain rfl := am_i1 j2
      exact AW_pick [0] rfl hJ2
    · rw [if_pos c3] at j2
      refine AW_go okX6_isSound 3 ?_
      refine And.intro (sv_K0 hs ho) ?_
      refine And.intro (fun c4 => ?_) (fun c4 => ?_)
      · rw [if_neg c4] at j2
        refine AW_go okX6_isSound 1 ?_
        obtain rfl := am_i1 j2
        exact AW_pick [0] rfl hJ2
      · rw [if_pos c4] at j2
        refine AW_go okX6_isSound 20 ?_
        refine And.intro (sv_K0 hs ho) (Exists.intro _ (And.intro (sv_A hs ho 2 1) ?_))
        refine Exists.intro 5 (And.intro (sv_K hs ho 1) (And.intro (by unfold vp_in; decide) ?_))
        refine And.intro (sv_K0 hs ho) (Exists.intro _ (And.intro (sv_A hs ho 2 1) ?_))
        refine Exists.intro 5 (And.intro (sv_K hs ho 1) (And.intro (by unfold vp_in; decide) ?_))
        refine And.intro (sv_K0 hs ho) (Exists.intro _ (And.intro (sv_A hs ho 2 1) ?_))
        refine Exists.intro 5 (And.intro (sv_K hs ho 1) (And.intro (by unfold vp_in; decide) ?_))
        refine And.intro (sv_K0 hs ho) (Exists.intro _ (And.intro (sv_A hs ho 2 1) ?_))
        refine Exists.intro 5 (And.intro (sv_K hs ho 1) (And.intro (by unfold vp_in; decide) ?_))
        refine And.intro (fun c5 => ?_) (fun c5 => ?_)
        · rw [if_neg c5] at j2
          refine AW_go okX6_isSound 1 ?_
          obtain rfl := am_i1 j2
          exact AW_pick [0] rfl hJ2
        · rw [if_pos c5] at j2
          refine AW_go okX6_isSound 2 ?_
          obtain rfl := am_i1 j2
          exact AW_pick [0] rfl hJ2
  obtain ⟨b56, hf⟩ := am_bis hf
  refine AW_go okX6_isSound 1 ?_
  obtain ⟨rfl, rfl⟩ := am_i2 hf
  exact And.intro ⟨(Nat.le_of_ble_eq_true rfl), (Nat.le_of_ble_eq_true rfl)⟩ (And.intro (Or.inr ⟨rfl, am_b01_ok b56⟩) ⟨rfl, rfl⟩)
def g_X6_depthOf : Nat → Nat → Nat → Int32 → Int32 → Int32 → am_H → Option (Int32 × am_H)
  | 0, _, _, _, _, _, _ => none
  | n + 1, _, o, a1, x2i, x3i, h => (if x3i ≤ 0 then some (x2i, h) else (if (am_I h o 0) ≤ x2i then some (x2i, h) else bif am_vp x3i 2000 then (g_X6_depthOf n 0 o a1 (x2i + Int32.ofInt 1) (am_I h (o + 5) (Int32.toNatClampNeg x3i)) h) else none))
set_option maxRecDepth 100000 in
set_option maxHeartbeats 4000000 in
theorem m_X6_depthOf (n : Nat) : (∀ (o : Nat) (a1 : Int32) (x2i : Int32) (x3i : Int32) (h : am_H) (v : Int32) (h' : am_H), (o = 37 ∨ o = 37) → am_stat h → g_X6_depthOf n 0 o a1 x2i x3i h = some (v, h') → am_stat h') := by
  induction n with
  | zero => exact fun o a1 x2i x3i h v h' ho hs hf => (by cases hf)
  | succ n ih =>
    skip
    · intro o a1 x2i x3i h v h' ho hs hf
      have hf : ((if x3i ≤ 0 then some (x2i, h) else (if (am_I h o 0) ≤ x2i then some (x2i, h) else bif am_vp x3i 2000 then (g_X6_depthOf n 0 o a1 (x2i + Int32.ofInt 1) (am_I h (o + 5) (Int32.toNatClampNeg x3i)) h) else none))) = some (v, h') := hf
      by_cases c1 : x3i ≤ 0
      · rw [if_pos c1] at hf
        obtain ⟨rfl, rfl⟩ := am_i2 hf
        exact hs
      · rw [if_neg c1] at hf
        by_cases c2 : (am_I h o 0) ≤ x2i
        · rw [if_pos c2] at hf
          obtain ⟨rfl, rfl⟩ := am_i2 hf
          exact hs
        · rw [if_neg c2] at hf
          obtain ⟨b3, hf⟩ := am_bis hf
          exact ih o a1 (x2i + Int32.ofInt 1) (am_I h (o + 5) (Int32.toNatClampNeg x3i)) h _ _ ho hs hf
set_option maxRecDepth 100000 in
set_option maxHeartbeats 4000000 in
theorem l_X6_depthOf (n : Nat) : (∀ (o : Nat) (a1 : Int32) (x2i : Int32) (x3i : Int32) (h : am_H) (v : Int32) (h' : am_H), (o = 37 ∨ o = 37) → am_stat h → g_X6_depthOf n 0 o a1 x2i x3i h = some (v, h') → AW mX6_depthOf (rX6_depthOf 0 0) (fun r h2 => r = some (.int v) ∧ h2 = h') 4 [(0, .ref o), (1, .int a1), (2, .int x2i), (3, .int x3i)] [] h 0 0) := by
  induction n with
  | zero => exact fun o a1 x2i x3i h v h' ho hs hf => (by cases hf)
  | succ n ih =>
    skip
    · intro o a1 x2i x3i h v h' ho hs hf
      have hf : ((if x3i ≤ 0 then some (x2i, h) else (if (am_I h o 0) ≤ x2i then some (x2i, h) else bif am_vp x3i 2000 then (g_X6_depthOf n 0 o a1 (x2i + Int32.ofInt 1) (am_I h (o + 5) (Int32.toNatClampNeg x3i)) h) else none))) = some (v, h') := hf
      refine AW_go okX6_depthOf 2 ?_
      refine And.intro (fun c1 => ?_) (fun c1 => ?_)
      · rw [if_pos c1] at hf
        refine AW_go okX6_depthOf 2 ?_
        obtain ⟨rfl, rfl⟩ := am_i2 hf
        exact And.intro ⟨(Nat.le_of_ble_eq_true rfl), (Nat.le_of_ble_eq_true rfl)⟩ (And.intro (Or.inl rfl) ⟨rfl, rfl⟩)
      · rw [if_neg c1] at hf
        refine AW_go okX6_depthOf 4 ?_
        refine And.intro (sv_K0 hs ho) ?_
        refine And.intro (fun c2 => ?_) (fun c2 => ?_)
        · rw [if_pos c2] at hf
          refine AW_go okX6_depthOf 2 ?_
          obtain ⟨rfl, rfl⟩ := am_i2 hf
          exact And.intro ⟨(Nat.le_of_ble_eq_true rfl), (Nat.le_of_ble_eq_true rfl)⟩ (And.intro (Or.inl rfl) ⟨rfl, rfl⟩)
        · rw [if_neg c2] at hf
          obtain ⟨b3, hf⟩ := am_bis hf
          refine AW_go okX6_depthOf 7 ?_
          refine And.intro (sv_K0 hs ho) (Exists.intro _ (And.intro (sv_A hs ho 7 5) ?_))
          refine Exists.intro 2000 (And.intro (sv_K hs ho 5) (And.intro (am_vp_ok b3) ?_))
          refine AW_pick (lv' := [(0, .ref o), (1, .int a1), (2, .int (x2i + Int32.ofInt 1)), (3, .int (am_I h (o + 5) (Int32.toNatClampNeg x3i)))]) [2, 3, 1, 0] rfl ?_
          exact ih o a1 (x2i + Int32.ofInt 1) (am_I h (o + 5) (Int32.toNatClampNeg x3i)) h _ _ ho hs hf
def f_X6_depthOf (n : Nat) (o : Nat) (a1 : Int32) (h : am_H) : Option (Int32 × am_H) := g_X6_depthOf n 0 o a1 (Int32.ofInt 0) a1 h
set_option maxRecDepth 100000 in
theorem s_X6_depthOf (n : Nat) (o : Nat) (a1 : Int32) (h : am_H) (ho : o = 37 ∨ o = 37) (hs : am_stat h) {v : Int32} {h' : am_H} (hf : f_X6_depthOf n o a1 h = some (v, h')) : am_stat h' := by
  unfold f_X6_depthOf at hf
  exact (m_X6_depthOf n) o a1 (Int32.ofInt 0) a1 h _ _ ho hs hf
set_option maxRecDepth 100000 in
theorem c_X6_depthOf (n : Nat) (o : Nat) (a1 : Int32) (h : am_H) (ho : o = 37 ∨ o = 37) (hs : am_stat h) {v : Int32} {h' : am_H} (hf : f_X6_depthOf n o a1 h = some (v, h')) : AMet mX6_depthOf (rX6_depthOf 0 0) (fun r h2 => r = some (.int v) ∧ h2 = h') [.ref o, .int a1] h := by
  unfold f_X6_depthOf at hf
  refine AW_go okX6_depthOf 4 ?_
  refine AW_pick (lv' := [(0, .ref o), (1, .int a1), (2, .int (Int32.ofInt 0)), (3, .int a1)]) [2, 3, 1, 0] rfl ?_
  exact (l_X6_depthOf n) o a1 (Int32.ofInt 0) a1 h _ _ ho hs hf
def g_X6_stepTo : Nat → Nat → Nat → Int32 → Int32 → Int32 → Int32 → Int32 → am_H → Option (Int32 × am_H)
  | 0, _, _, _, _, _, _, _, _ => none
  | n + 1, _, o, a1, a2, x3i, x4i, x5i, h => (if x3i ≤ x5i then bif am_vp x4i 2000 then (some ((am_I h (o + 6) (Int32.toNatClampNeg x4i)), h)) else none else bif am_vp x4i 2000 then (g_X6_stepTo n 0 o a1 a2 x3i (am_I h (o + 5) (Int32.toNatClampNeg x4i)) (x5i + Int32.ofInt 1) h) else none)
set_option maxRecDepth 100000 in
set_option maxHeartbeats 4000000 in
theorem m_X6_stepTo (n : Nat) : (∀ (o : Nat) (a1 : Int32) (a2 : Int32) (x3i : Int32) (x4i : Int32) (x5i : Int32) (h : am_H) (v : Int32) (h' : am_H), (o = 37 ∨ o = 37) → am_stat h → g_X6_stepTo n 0 o a1 a2 x3i x4i x5i h = some (v, h') → am_stat h') := by
  induction n with
  | zero => exact fun o a1 a2 x3i x4i x5i h v h' ho hs hf => (by cases hf)
  | succ n ih =>
    skip
    · intro o a1 a2 x3i x4i x5i h v h' ho hs hf
      have hf : ((if x3i ≤ x5i then bif am_vp x4i 2000 then (some ((am_I h (o + 6) (Int32.toNatClampNeg x4i)), h)) else none else bif am_vp x4i 2000 then (g_X6_stepTo n 0 o a1 a2 x3i (am_I h (o + 5) (Int32.toNatClampNeg x4i)) (x5i + Int32.ofInt 1) h) else none)) = some (v, h') := hf
      by_cases c1 : x3i ≤ x5i
      · rw [if_pos c1] at hf
        obtain ⟨b2, hf⟩ := am_bis hf
        obtain ⟨rfl, rfl⟩ := am_i2 hf
        exact hs
      · rw [if_neg c1] at hf
        obtain ⟨b3, hf⟩ := am_bis hf
        exact ih o a1 a2 x3i (am_I h (o + 5) (Int32.toNatClampNeg x4i)) (x5i + Int32.ofInt 1) h _ _ ho hs hf
set_option maxRecDepth 100000 in
set_option maxHeartbeats 4000000 in
theorem l_X6_stepTo (n : Nat) : (∀ (o : Nat) (a1 : Int32) (a2 : Int32) (x3i : Int32) (x4i : Int32) (x5i : Int32) (h : am_H) (v : Int32) (h' : am_H), (o = 37 ∨ o = 37) → am_stat h → g_X6_stepTo n 0 o a1 a2 x3i x4i x5i h = some (v, h') → AW mX6_stepTo (rX6_stepTo 0 0) (fun r h2 => r = some (.int v) ∧ h2 = h') 22 [(0, .ref o), (1, .int a1), (2, .int a2), (3, .int x3i), (4, .int x4i), (5, .int x5i)] [] h 0 0) := by
  induction n with
  | zero => exact fun o a1 a2 x3i x4i x5i h v h' ho hs hf => (by cases hf)
  | succ n ih =>
    skip
    · intro o a1 a2 x3i x4i x5i h v h' ho hs hf
      have hf : ((if x3i ≤ x5i then bif am_vp x4i 2000 then (some ((am_I h (o + 6) (Int32.toNatClampNeg x4i)), h)) else none else bif am_vp x4i 2000 then (g_X6_stepTo n 0 o a1 a2 x3i (am_I h (o + 5) (Int32.toNatClampNeg x4i)) (x5i + Int32.ofInt 1) h) else none)) = some (v, h') := hf
      refine AW_go okX6_stepTo 3 ?_
      refine And.intro (fun c1 => ?_) (fun c1 => ?_)
      · rw [if_pos c1] at hf
        obtain ⟨b2, hf⟩ := am_bis hf
        refine AW_go okX6_stepTo 5 ?_
        refine And.intro (sv_K0 hs ho) (Exists.intro _ (And.intro (sv_A hs ho 8 6) ?_))
        refine Exists.intro 2000 (And.intro (sv_K hs ho 6) (And.intro (am_vp_ok b2) ?_))
        obtain ⟨rfl, rfl⟩ := am_i2 hf
        exact And.intro ⟨(Nat.le_of_ble_eq_true rfl), (Nat.le_of_ble_eq_true rfl)⟩ (And.intro (Or.inl rfl) ⟨rfl, rfl⟩)
      · rw [if_neg c1] at hf
        obtain ⟨b3, hf⟩ := am_bis hf
        refine AW_go okX6_stepTo 7 ?_
        refine And.intro (sv_K0 hs ho) (Exists.intro _ (And.intro (sv_A hs ho 7 5) ?_))
        refine Exists.intro 2000 (And.intro (sv_K hs ho 5) (And.intro (am_vp_ok b3) ?_))
        refine AW_pick (lv' := [(0, .ref o), (1, .int a1), (2, .int a2), (3, .int x3i), (4, .int (am_I h (o + 5) (Int32.toNatClampNeg x4i))), (5, .int (x5i + Int32.ofInt 1))]) [2, 3, 4, 5, 1, 0] rfl ?_
        exact ih o a1 a2 x3i (am_I h (o + 5) (Int32.toNatClampNeg x4i)) (x5i + Int32.ofInt 1) h _ _ ho hs hf
def f_X6_stepTo (n : Nat) (o : Nat) (a1 : Int32) (a2 : Int32) (h : am_H) : Option (Int32 × am_H) := am_b2 (f_X6_depthOf n o a1 h) fun r1 h2 => ((if 0 ≤ ((r1 - (Int32.ofInt 1)) - a2) then g_X6_stepTo n 0 o a1 a2 ((r1 - (Int32.ofInt 1)) - a2) a1 (Int32.ofInt 0) h2 else some ((Int32.ofInt (-1)), h2)))
set_option maxRecDepth 100000 in
theorem s_X6_stepTo (n : Nat) (o : Nat) (a1 : Int32) (a2 : Int32) (h : am_H) (ho : o = 37 ∨ o = 37) (hs : am_stat h) {v : Int32} {h' : am_H} (hf : f_X6_stepTo n o a1 a2 h = some (v, h')) : am_stat h' := by
  unfold f_X6_stepTo at hf
  obtain ⟨r1, h2, e3, hf⟩ := am_b2_ok hf
  have hs := s_X6_depthOf n o a1 h ho hs e3
  by_cases c4 : 0 ≤ ((r1 - (Int32.ofInt 1)) - a2)
  · rw [if_pos c4] at hf
    exact (m_X6_stepTo n) o a1 a2 ((r1 - (Int32.ofInt 1)) - a2) a1 (Int32.ofInt 0) h2 _ _ ho hs hf
  · rw [if_neg c4] at hf
    obtain ⟨rfl, rfl⟩ := am_i2 hf
    exact hs
set_option maxRecDepth 100000 in
theorem c_X6_stepTo (n : Nat) (o : Nat) (a1 : Int32) (a2 : Int32) (h : am_H) (ho : o = 37 ∨ o = 37) (hs : am_stat h) {v : Int32} {h' : am_H} (hf : f_X6_stepTo n o a1 a2 h = some (v, h')) : AMet mX6_stepTo (rX6_stepTo 0 0) (fun r h2 => r = some (.int v) ∧ h2 = h') [.ref o, .int a1, .int a2] h := by
  unfold f_X6_stepTo at hf
  refine AW_go okX6_stepTo 2 ?_
  obtain ⟨r1, h2, e3, hf⟩ := am_b2_ok hf
  refine AW_callV (As := [.int a1]) (R' := rX6_depthOf 0 0) (T := TX6) (N := 15) (ci := 6) (okX6_stepTo.1 2 _ _ rfl) lkX6_depthOf kX6_94 rfl (sv_K0 hs ho) rfl (Nat.le_of_ble_eq_true rfl) ⟨by decide, by decide⟩ ⟨(Nat.le_of_ble_eq_true rfl), (Nat.le_of_ble_eq_true rfl)⟩ (Nat.le_of_ble_eq_true rfl) (c_X6_depthOf n o a1 h ho hs e3) (fun r h' hq => ?_)
  obtain ⟨rfl, hq⟩ := hq
  replace hq := hq.symm
  subst hq
  have hs := s_X6_depthOf n o a1 h ho hs e3
  refine AW_go okX6_stepTo 7 ?_
  refine And.intro (fun c4 => ?_) (fun c4 => ?_)
  · rw [if_pos c4] at hf
    refine AW_go okX6_stepTo 4 ?_
    refine AW_pick (lv' := [(0, .ref o), (1, .int a1), (2, .int a2), (3, .int ((r1 - (Int32.ofInt 1)) - a2)), (4, .int a1), (5, .int (Int32.ofInt 0))]) [3, 4, 5, 2, 1, 0] rfl ?_
    exact (l_X6_stepTo n) o a1 a2 ((r1 - (Int32.ofInt 1)) - a2) a1 (Int32.ofInt 0) h2 _ _ ho hs hf
  · rw [if_neg c4] at hf
    refine AW_go okX6_stepTo 2 ?_
    obtain ⟨rfl, rfl⟩ := am_i2 hf
    exact And.intro ⟨(Nat.le_of_ble_eq_true rfl), (Nat.le_of_ble_eq_true rfl)⟩ (And.intro (Or.inl rfl) ⟨rfl, rfl⟩)
def g_X6_actsOnWay : Nat → Nat → Nat → Int32 → Int32 → Int32 → Int32 → Int32 → am_H → Option (Int32 × am_H)
  | 0, _, _, _, _, _, _, _, _ => none
  | n + 1, _, o, a1, a2, x3i, x4i, x5i, h => (if x5i ≤ 0 then some (x3i, h) else (if (am_I h o 0) ≤ x4i then some (x3i, h) else bif am_vp x5i 2000 then (Option.bind ((if (((am_I h (o + 6) (Int32.toNatClampNeg x5i)) - (am_I h (o + 6) (Int32.toNatClampNeg x5i)) / (Int32.ofInt 1000) * (Int32.ofInt 1000)) / (Int32.ofInt 100)) = a2 then some (x3i ||| ((Int32.ofInt 1) <<< (((am_I h (o + 6) (Int32.toNatClampNeg x5i)) - (am_I h (o + 6) (Int32.toNatClampNeg x5i)) / (Int32.ofInt 100) * (Int32.ofInt 100)) &&& 31))) else some x3i)) fun y4 => (g_X6_actsOnWay n 0 o a1 a2 y4 (x4i + Int32.ofInt 1) (am_I h (o + 5) (Int32.toNatClampNeg x5i)) h)) else none))
set_option maxRecDepth 100000 in
set_option maxHeartbeats 4000000 in
theorem m_X6_actsOnWay (n : Nat) : (∀ (o : Nat) (a1 : Int32) (a2 : Int32) (x3i : Int32) (x4i : Int32) (x5i : Int32) (h : am_H) (v : Int32) (h' : am_H), (o = 37 ∨ o = 37) → am_stat h → g_X6_actsOnWay n 0 o a1 a2 x3i x4i x5i h = some (v, h') → am_stat h') := by
  induction n with
  | zero => exact fun o a1 a2 x3i x4i x5i h v h' ho hs hf => (by cases hf)
  | succ n ih =>
    skip
    · intro o a1 a2 x3i x4i x5i h v h' ho hs hf
      have hf : ((if x5i ≤ 0 then some (x3i, h) else (if (am_I h o 0) ≤ x4i then some (x3i, h) else bif am_vp x5i 2000 then (Option.bind ((if (((am_I h (o + 6) (Int32.toNatClampNeg x5i)) - (am_I h (o + 6) (Int32.toNatClampNeg x5i)) / (Int32.ofInt 1000) * (Int32.ofInt 1000)) / (Int32.ofInt 100)) = a2 then some (x3i ||| ((Int32.ofInt 1) <<< (((am_I h (o + 6) (Int32.toNatClampNeg x5i)) - (am_I h (o + 6) (Int32.toNatClampNeg x5i)) / (Int32.ofInt 100) * (Int32.ofInt 100)) &&& 31))) else some x3i)) fun y4 => (g_X6_actsOnWay n 0 o a1 a2 y4 (x4i + Int32.ofInt 1) (am_I h (o + 5) (Int32.toNatClampNeg x5i)) h)) else none))) = some (v, h') := hf
      by_cases c1 : x5i ≤ 0
      · rw [if_pos c1] at hf
        obtain ⟨rfl, rfl⟩ := am_i2 hf
        exact hs
      · rw [if_neg c1] at hf
        by_cases c2 : (am_I h o 0) ≤ x4i
        · rw [if_pos c2] at hf
          obtain ⟨rfl, rfl⟩ := am_i2 hf
          exact hs
        · rw [if_neg c2] at hf
          obtain ⟨b3, hf⟩ := am_bis hf
          obtain ⟨y4, j5, hf⟩ := am_bnd hf
          exact ih o a1 a2 y4 (x4i + Int32.ofInt 1) (am_I h (o + 5) (Int32.toNatClampNeg x5i)) h _ _ ho hs hf
set_option maxRecDepth 100000 in
set_option maxHeartbeats 4000000 in
theorem l_X6_actsOnWay (n : Nat) : (∀ (o : Nat) (a1 : Int32) (a2 : Int32) (x3i : Int32) (x4i : Int32) (x5i : Int32) (h : am_H) (v : Int32) (h' : am_H), (o = 37 ∨ o = 37) → am_stat h → g_X6_actsOnWay n 0 o a1 a2 x3i x4i x5i h = some (v, h') → AW mX6_actsOnWay (rX6_actsOnWay 0 0) (fun r h2 => r = some (.int v) ∧ h2 = h') 8 [(0, .ref o), (1, .int a1), (2, .int a2), (3, .int x3i), (4, .int x4i), (5, .int x5i)] [] h 0 0) := by
  induction n with
  | zero => exact fun o a1 a2 x3i x4i x5i h v h' ho hs hf => (by cases hf)
  | succ n ih =>
    skip
    · intro o a1 a2 x3i x4i x5i h v h' ho hs hf
      have hf : ((if x5i ≤ 0 then some (x3i, h) else (if (am_I h o 0) ≤ x4i then some (x3i, h) else bif am_vp x5i 2000 then (Option.bind ((if (((am_I h (o + 6) (Int32.toNatClampNeg x5i)) - (am_I h (o + 6) (Int32.toNatClampNeg x5i)) / (Int32.ofInt 1000) * (Int32.ofInt 1000)) / (Int32.ofInt 100)) = a2 then some (x3i ||| ((Int32.ofInt 1) <<< (((am_I h (o + 6) (Int32.toNatClampNeg x5i)) - (am_I h (o + 6) (Int32.toNatClampNeg x5i)) / (Int32.ofInt 100) * (Int32.ofInt 100)) &&& 31))) else some x3i)) fun y4 => (g_X6_actsOnWay n 0 o a1 a2 y4 (x4i + Int32.ofInt 1) (am_I h (o + 5) (Int32.toNatClampNeg x5i)) h)) else none))) = some (v, h') := hf
      refine AW_go okX6_actsOnWay 2 ?_
      refine And.intro (fun c1 => ?_) (fun c1 => ?_)
      · rw [if_pos c1] at hf
        refine AW_go okX6_actsOnWay 2 ?_
        obtain ⟨rfl, rfl⟩ := am_i2 hf
        exact And.intro ⟨(Nat.le_of_ble_eq_true rfl), (Nat.le_of_ble_eq_true rfl)⟩ (And.intro (Or.inl rfl) ⟨rfl, rfl⟩)
      · rw [if_neg c1] at hf
        refine AW_go okX6_actsOnWay 4 ?_
        refine And.intro (sv_K0 hs ho) ?_
        refine And.intro (fun c2 => ?_) (fun c2 => ?_)
        · rw [if_pos c2] at hf
          refine AW_go okX6_actsOnWay 2 ?_
          obtain ⟨rfl, rfl⟩ := am_i2 hf
          exact And.intro ⟨(Nat.le_of_ble_eq_true rfl), (Nat.le_of_ble_eq_true rfl)⟩ (And.intro (Or.inl rfl) ⟨rfl, rfl⟩)
        · rw [if_neg c2] at hf
          obtain ⟨b3, hf⟩ := am_bis hf
          refine AW_go okX6_actsOnWay 9 ?_
          refine And.intro (sv_K0 hs ho) (Exists.intro _ (And.intro (sv_A hs ho 8 6) ?_))
          refine Exists.intro 2000 (And.intro (sv_K hs ho 6) (And.intro (am_vp_ok b3) ?_))
          refine And.intro (by decide) ?_
          refine And.intro (by decide) ?_
          obtain ⟨y4, j5, hf⟩ := am_bnd hf
          refine am_cut (P := AW mX6_actsOnWay (rX6_actsOnWay 0 0) (fun r h2 => r = some (.int v) ∧ h2 = h') 55 [(0, .ref o), (1, .int a1), (2, .int a2), (3, .int y4), (4, .int x4i), (5, .int x5i)] [] h 0 0) (fun hJ5 => ?_) ?_
          · have hs := hs
            refine AW_go okX6_actsOnWay 1 ?_
            refine And.intro (fun c6 => ?_) (fun c6 => ?_)
            · rw [if_neg c6] at j5
              obtain rfl := am_i1 j5
              exact AW_pick [0, 1, 2, 3, 4, 5] rfl hJ5
            · rw [if_pos c6] at j5
              refine AW_go okX6_actsOnWay 11 ?_
              refine And.intro (sv_K0 hs ho) (Exists.intro _ (And.intro (sv_A hs ho 8 6) ?_))
              refine Exists.intro 2000 (And.intro (sv_K hs ho 6) (And.intro (am_vp_ok b3) ?_))
              refine And.intro (by decide) ?_
              obtain rfl := am_i1 j5
              exact AW_pick [1, 2, 3, 0, 4, 5] rfl hJ5
          refine AW_go okX6_actsOnWay 7 ?_
          refine And.intro (sv_K0 hs ho) (Exists.intro _ (And.intro (sv_A hs ho 7 5) ?_))
          refine Exists.intro 2000 (And.intro (sv_K hs ho 5) (And.intro (am_vp_ok b3) ?_))
          refine AW_pick (lv' := [(0, .ref o), (1, .int a1), (2, .int a2), (3, .int y4), (4, .int (x4i + Int32.ofInt 1)), (5, .int (am_I h (o + 5) (Int32.toNatClampNeg x5i)))]) [2, 3, 4, 5, 1, 0] rfl ?_
          exact ih o a1 a2 y4 (x4i + Int32.ofInt 1) (am_I h (o + 5) (Int32.toNatClampNeg x5i)) h _ _ ho hs hf
def f_X6_actsOnWay (n : Nat) (o : Nat) (a1 : Int32) (a2 : Int32) (h : am_H) : Option (Int32 × am_H) := g_X6_actsOnWay n 0 o a1 a2 (Int32.ofInt 0) (Int32.ofInt 0) a1 h
set_option maxRecDepth 100000 in
theorem s_X6_actsOnWay (n : Nat) (o : Nat) (a1 : Int32) (a2 : Int32) (h : am_H) (ho : o = 37 ∨ o = 37) (hs : am_stat h) {v : Int32} {h' : am_H} (hf : f_X6_actsOnWay n o a1 a2 h = some (v, h')) : am_stat h' := by
  unfold f_X6_actsOnWay at hf
  exact (m_X6_actsOnWay n) o a1 a2 (Int32.ofInt 0) (Int32.ofInt 0) a1 h _ _ ho hs hf
set_option maxRecDepth 100000 in
theorem c_X6_actsOnWay (n : Nat) (o : Nat) (a1 : Int32) (a2 : Int32) (h : am_H) (ho : o = 37 ∨ o = 37) (hs : am_stat h) {v : Int32} {h' : am_H} (hf : f_X6_actsOnWay n o a1 a2 h = some (v, h')) : AMet mX6_actsOnWay (rX6_actsOnWay 0 0) (fun r h2 => r = some (.int v) ∧ h2 = h') [.ref o, .int a1, .int a2] h := by
  unfold f_X6_actsOnWay at hf
  refine AW_go okX6_actsOnWay 6 ?_
  refine AW_pick (lv' := [(0, .ref o), (1, .int a1), (2, .int a2), (3, .int (Int32.ofInt 0)), (4, .int (Int32.ofInt 0)), (5, .int a1)]) [3, 4, 5, 2, 1, 0] rfl ?_
  exact (l_X6_actsOnWay n) o a1 a2 (Int32.ofInt 0) (Int32.ofInt 0) a1 h _ _ ho hs hf
def g_X6_firstBad : Nat → Nat → Nat → Int32 → am_H → Option (Int32 × am_H)
  | 0, _, _, _, _ => none
  | n + 1, _, o, x1i, h => (if (am_I h o 0) ≤ x1i then some ((Int32.ofInt (-1)), h) else bif am_vp x1i 2000 then ((if ((am_I h (o + 4) (Int32.toNatClampNeg x1i)) &&& (Int32.ofInt 7)) = 0 then g_X6_firstBad n 0 o (x1i + Int32.ofInt 1) h else some (x1i, h))) else none)
set_option maxRecDepth 100000 in
set_option maxHeartbeats 4000000 in
theorem m_X6_firstBad (n : Nat) : (∀ (o : Nat) (x1i : Int32) (h : am_H) (v : Int32) (h' : am_H), (o = 37 ∨ o = 37) → am_stat h → g_X6_firstBad n 0 o x1i h = some (v, h') → am_stat h') := by
  induction n with
  | zero => exact fun o x1i h v h' ho hs hf => (by cases hf)
  | succ n ih =>
    skip
    · intro o x1i h v h' ho hs hf
      have hf : ((if (am_I h o 0) ≤ x1i then some ((Int32.ofInt (-1)), h) else bif am_vp x1i 2000 then ((if ((am_I h (o + 4) (Int32.toNatClampNeg x1i)) &&& (Int32.ofInt 7)) = 0 then g_X6_firstBad n 0 o (x1i + Int32.ofInt 1) h else some (x1i, h))) else none)) = some (v, h') := hf
      by_cases c1 : (am_I h o 0) ≤ x1i
      · rw [if_pos c1] at hf
        obtain ⟨rfl, rfl⟩ := am_i2 hf
        exact hs
      · rw [if_neg c1] at hf
        obtain ⟨b2, hf⟩ := am_bis hf
        by_cases c3 : ((am_I h (o + 4) (Int32.toNatClampNeg x1i)) &&& (Int32.ofInt 7)) = 0
        · rw [if_pos c3] at hf
          exact ih o (x1i + Int32.ofInt 1) h _ _ ho hs hf
        · rw [if_neg c3] at hf
          obtain ⟨rfl, rfl⟩ := am_i2 hf
          exact hs
set_option maxRecDepth 100000 in
set_option maxHeartbeats 4000000 in
theorem l_X6_firstBad (n : Nat) : (∀ (o : Nat) (x1i : Int32) (h : am_H) (v : Int32) (h' : am_H), (o = 37 ∨ o = 37) → am_stat h → g_X6_firstBad n 0 o x1i h = some (v, h') → AW mX6_firstBad (rX6_firstBad 0 0) (fun r h2 => r = some (.int v) ∧ h2 = h') 2 [(0, .ref o), (1, .int x1i)] [] h 0 0) := by
  induction n with
  | zero => exact fun o x1i h v h' ho hs hf => (by cases hf)
  | succ n ih =>
    skip
    · intro o x1i h v h' ho hs hf
      have hf : ((if (am_I h o 0) ≤ x1i then some ((Int32.ofInt (-1)), h) else bif am_vp x1i 2000 then ((if ((am_I h (o + 4) (Int32.toNatClampNeg x1i)) &&& (Int32.ofInt 7)) = 0 then g_X6_firstBad n 0 o (x1i + Int32.ofInt 1) h else some (x1i, h))) else none)) = some (v, h') := hf
      refine AW_go okX6_firstBad 4 ?_
      refine And.intro (sv_K0 hs ho) ?_
      refine And.intro (fun c1 => ?_) (fun c1 => ?_)
      · rw [if_pos c1] at hf
        refine AW_go okX6_firstBad 2 ?_
        obtain ⟨rfl, rfl⟩ := am_i2 hf
        exact And.intro ⟨(Nat.le_of_ble_eq_true rfl), (Nat.le_of_ble_eq_true rfl)⟩ (And.intro (Or.inl rfl) ⟨rfl, rfl⟩)
      · rw [if_neg c1] at hf
        obtain ⟨b2, hf⟩ := am_bis hf
        refine AW_go okX6_firstBad 7 ?_
        refine And.intro (sv_K0 hs ho) (Exists.intro _ (And.intro (sv_A hs ho 6 4) ?_))
        refine Exists.intro 2000 (And.intro (sv_K hs ho 4) (And.intro (am_vp_ok b2) ?_))
        refine And.intro (fun c3 => ?_) (fun c3 => ?_)
        · rw [if_pos c3] at hf
          refine AW_go okX6_firstBad 2 ?_
          refine AW_pick (lv' := [(0, .ref o), (1, .int (x1i + Int32.ofInt 1))]) [1, 0] rfl ?_
          exact ih o (x1i + Int32.ofInt 1) h _ _ ho hs hf
        · rw [if_neg c3] at hf
          refine AW_go okX6_firstBad 2 ?_
          obtain ⟨rfl, rfl⟩ := am_i2 hf
          exact And.intro ⟨(Nat.le_of_ble_eq_true rfl), (Nat.le_of_ble_eq_true rfl)⟩ (And.intro (Or.inl rfl) ⟨rfl, rfl⟩)
def f_X6_firstBad (n : Nat) (o : Nat) (h : am_H) : Option (Int32 × am_H) := g_X6_firstBad n 0 o (Int32.ofInt 0) h
set_option maxRecDepth 100000 in
theorem s_X6_firstBad (n : Nat) (o : Nat) (h : am_H) (ho : o = 37 ∨ o = 37) (hs : am_stat h) {v : Int32} {h' : am_H} (hf : f_X6_firstBad n o h = some (v, h')) : am_stat h' := by
  unfold f_X6_firstBad at hf
  exact (m_X6_firstBad n) o (Int32.ofInt 0) h _ _ ho hs hf
set_option maxRecDepth 100000 in
theorem c_X6_firstBad (n : Nat) (o : Nat) (h : am_H) (ho : o = 37 ∨ o = 37) (hs : am_stat h) {v : Int32} {h' : am_H} (hf : f_X6_firstBad n o h = some (v, h')) : AMet mX6_firstBad (rX6_firstBad 0 0) (fun r h2 => r = some (.int v) ∧ h2 = h') [.ref o] h := by
  unfold f_X6_firstBad at hf
  refine AW_go okX6_firstBad 2 ?_
  refine AW_pick (lv' := [(0, .ref o), (1, .int (Int32.ofInt 0))]) [1, 0] rfl ?_
  exact (l_X6_firstBad n) o (Int32.ofInt 0) h _ _ ho hs hf
def g_X6_slotOf : Nat → Nat → Nat → Int64 → Int32 → Int32 → am_H → Option (Int32 × am_H)
  | 0, _, _, _, _, _, _ => none
  | n + 1, _, o, a1, x3i, x4i, h => (if (Int32.ofInt 4096) ≤ x4i then some (x3i, h) else bif am_vp x3i 4096 then ((if (am_I h (o + 7) (Int32.toNatClampNeg x3i)) = 0 then some (x3i, h) else bif am_vp ((am_I h (o + 7) (Int32.toNatClampNeg x3i)) - (Int32.ofInt 1)) 2000 then ((if (lg_cmp (am_J h (o + 3) (Int32.toNatClampNeg ((am_I h (o + 7) (Int32.toNatClampNeg x3i)) - (Int32.ofInt 1)))) a1) = 0 then some (x3i, h) else g_X6_slotOf n 0 o a1 ((x3i + (Int32.ofInt 1)) &&& (Int32.ofInt 4095)) (x4i + Int32.ofInt 1) h)) else none)) else none)
set_option maxRecDepth 100000 in
set_option maxHeartbeats 4000000 in
theorem m_X6_slotOf (n : Nat) : (∀ (o : Nat) (a1 : Int64) (x3i : Int32) (x4i : Int32) (h : am_H) (v : Int32) (h' : am_H), (o = 37 ∨ o = 37) → am_stat h → g_X6_slotOf n 0 o a1 x3i x4i h = some (v, h') → am_stat h') := by
  induction n with
  | zero => exact fun o a1 x3i x4i h v h' ho hs hf => (by cases hf)
  | succ n ih =>
    skip
    · intro o a1 x3i x4i h v h' ho hs hf
      have hf : ((if (Int32.ofInt 4096) ≤ x4i then some (x3i, h) else bif am_vp x3i 4096 then ((if (am_I h (o + 7) (Int32.toNatClampNeg x3i)) = 0 then some (x3i, h) else bif am_vp ((am_I h (o + 7) (Int32.toNatClampNeg x3i)) - (Int32.ofInt 1)) 2000 then ((if (lg_cmp (am_J h (o + 3) (Int32.toNatClampNeg ((am_I h (o + 7) (Int32.toNatClampNeg x3i)) - (Int32.ofInt 1)))) a1) = 0 then some (x3i, h) else g_X6_slotOf n 0 o a1 ((x3i + (Int32.ofInt 1)) &&& (Int32.ofInt 4095)) (x4i + Int32.ofInt 1) h)) else none)) else none)) = some (v, h') := hf
      by_cases c1 : (Int32.ofInt 4096) ≤ x4i
      · rw [if_pos c1] at hf
        obtain ⟨rfl, rfl⟩ := am_i2 hf
        exact hs
      · rw [if_neg c1] at hf
        obtain ⟨b2, hf⟩ := am_bis hf
        by_cases c3 : (am_I h (o + 7) (Int32.toNatClampNeg x3i)) = 0
        · rw [if_pos c3] at hf
          obtain ⟨rfl, rfl⟩ := am_i2 hf
          exact hs
        · rw [if_neg c3] at hf
          obtain ⟨b4, hf⟩ := am_bis hf
          by_cases c5 : (lg_cmp (am_J h (o + 3) (Int32.toNatClampNeg ((am_I h (o + 7) (Int32.toNatClampNeg x3i)) - (Int32.ofInt 1)))) a1) = 0
          · rw [if_pos c5] at hf
            obtain ⟨rfl, rfl⟩ := am_i2 hf
            exact hs
          · rw [if_neg c5] at hf
            exact ih o a1 ((x3i + (Int32.ofInt 1)) &&& (Int32.ofInt 4095)) (x4i + Int32.ofInt 1) h _ _ ho hs hf
set_option maxRecDepth 100000 in
set_option maxHeartbeats 4000000 in
theorem l_X6_slotOf (n : Nat) : (∀ (o : Nat) (a1 : Int64) (x3i : Int32) (x4i : Int32) (h : am_H) (v : Int32) (h' : am_H), (o = 37 ∨ o = 37) → am_stat h → g_X6_slotOf n 0 o a1 x3i x4i h = some (v, h') → AW mX6_slotOf (rX6_slotOf 0 0) (fun r h2 => r = some (.int v) ∧ h2 = h') 13 [(0, .ref o), (1, .long a1), (3, .int x3i), (4, .int x4i)] [] h 0 0) := by
  induction n with
  | zero => exact fun o a1 x3i x4i h v h' ho hs hf => (by cases hf)
  | succ n ih =>
    skip
    · intro o a1 x3i x4i h v h' ho hs hf
      have hf : ((if (Int32.ofInt 4096) ≤ x4i then some (x3i, h) else bif am_vp x3i 4096 then ((if (am_I h (o + 7) (Int32.toNatClampNeg x3i)) = 0 then some (x3i, h) else bif am_vp ((am_I h (o + 7) (Int32.toNatClampNeg x3i)) - (Int32.ofInt 1)) 2000 then ((if (lg_cmp (am_J h (o + 3) (Int32.toNatClampNeg ((am_I h (o + 7) (Int32.toNatClampNeg x3i)) - (Int32.ofInt 1)))) a1) = 0 then some (x3i, h) else g_X6_slotOf n 0 o a1 ((x3i + (Int32.ofInt 1)) &&& (Int32.ofInt 4095)) (x4i + Int32.ofInt 1) h)) else none)) else none)) = some (v, h') := hf
      refine AW_go okX6_slotOf 3 ?_
      refine And.intro (fun c1 => ?_) (fun c1 => ?_)
      · rw [if_pos c1] at hf
        refine AW_go okX6_slotOf 2 ?_
        obtain ⟨rfl, rfl⟩ := am_i2 hf
        exact And.intro ⟨(Nat.le_of_ble_eq_true rfl), (Nat.le_of_ble_eq_true rfl)⟩ (And.intro (Or.inl rfl) ⟨rfl, rfl⟩)
      · rw [if_neg c1] at hf
        obtain ⟨b2, hf⟩ := am_bis hf
        refine AW_go okX6_slotOf 5 ?_
        refine And.intro (sv_K0 hs ho) (Exists.intro _ (And.intro (sv_A hs ho 9 7) ?_))
        refine Exists.intro 4096 (And.intro (sv_K hs ho 7) (And.intro (am_vp_ok b2) ?_))
        refine And.intro (fun c3 => ?_) (fun c3 => ?_)
        · rw [if_pos c3] at hf
          refine AW_go okX6_slotOf 2 ?_
          obtain ⟨rfl, rfl⟩ := am_i2 hf
          exact And.intro ⟨(Nat.le_of_ble_eq_true rfl), (Nat.le_of_ble_eq_true rfl)⟩ (And.intro (Or.inl rfl) ⟨rfl, rfl⟩)
        · rw [if_neg c3] at hf
          obtain ⟨b4, hf⟩ := am_bis hf
          refine AW_go okX6_slotOf 12 ?_
          refine And.intro (sv_K0 hs ho) (Exists.intro _ (And.intro (sv_A hs ho 5 3) ?_))
          refine And.intro (sv_K0 hs ho) (Exists.intro _ (And.intro (sv_A hs ho 9 7) ?_))
          refine Exists.intro 4096 (And.intro (sv_K hs ho 7) (And.intro (am_vp_ok b2) ?_))
          refine Exists.intro 2000 (And.intro (sv_K hs ho 3) (And.intro (am_vp_ok b4) ?_))
          refine And.intro (fun c5 => ?_) (fun c5 => ?_)
          · rw [if_neg c5] at hf
            refine AW_go okX6_slotOf 8 ?_
            refine AW_pick (lv' := [(0, .ref o), (1, .long a1), (3, .int ((x3i + (Int32.ofInt 1)) &&& (Int32.ofInt 4095))), (4, .int (x4i + Int32.ofInt 1))]) [2, 3, 1, 0] rfl ?_
            exact ih o a1 ((x3i + (Int32.ofInt 1)) &&& (Int32.ofInt 4095)) (x4i + Int32.ofInt 1) h _ _ ho hs hf
          · rw [if_pos c5] at hf
            refine AW_go okX6_slotOf 2 ?_
            obtain ⟨rfl, rfl⟩ := am_i2 hf
            exact And.intro ⟨(Nat.le_of_ble_eq_true rfl), (Nat.le_of_ble_eq_true rfl)⟩ (And.intro (Or.inl rfl) ⟨rfl, rfl⟩)
def f_X6_slotOf (n : Nat) (o : Nat) (a1 : Int64) (h : am_H) : Option (Int32 × am_H) := g_X6_slotOf n 0 o a1 (Int64.toInt32 ((Int64.toUInt64 (a1 * (-7046029254386353131 : Int64)) >>> ((Int32.toInt64 (Int32.ofInt 52)).toUInt64 &&& Int64.toUInt64 63)).toInt64)) (Int32.ofInt 0) h
set_option maxRecDepth 100000 in
theorem s_X6_slotOf (n : Nat) (o : Nat) (a1 : Int64) (h : am_H) (ho : o = 37 ∨ o = 37) (hs : am_stat h) {v : Int32} {h' : am_H} (hf : f_X6_slotOf n o a1 h = some (v, h')) : am_stat h' := by
  unfold f_X6_slotOf at hf
  exact (m_X6_slotOf n) o a1 (Int64.toInt32 ((Int64.toUInt64 (a1 * (-7046029254386353131 : Int64)) >>> ((Int32.toInt64 (Int32.ofInt 52)).toUInt64 &&& Int64.toUInt64 63)).toInt64)) (Int32.ofInt 0) h _ _ ho hs hf
set_option maxRecDepth 100000 in
theorem c_X6_slotOf (n : Nat) (o : Nat) (a1 : Int64) (h : am_H) (ho : o = 37 ∨ o = 37) (hs : am_stat h) {v : Int32} {h' : am_H} (hf : f_X6_slotOf n o a1 h = some (v, h')) : AMet mX6_slotOf (rX6_slotOf 0 0) (fun r h2 => r = some (.int v) ∧ h2 = h') [.ref o, .long a1] h := by
  unfold f_X6_slotOf at hf
  refine AW_go okX6_slotOf 9 ?_
  refine AW_pick (lv' := [(0, .ref o), (1, .long a1), (3, .int (Int64.toInt32 ((Int64.toUInt64 (a1 * (-7046029254386353131 : Int64)) >>> ((Int32.toInt64 (Int32.ofInt 52)).toUInt64 &&& Int64.toUInt64 63)).toInt64))), (4, .int (Int32.ofInt 0))]) [2, 3, 1, 0] rfl ?_
  exact (l_X6_slotOf n) o a1 (Int64.toInt32 ((Int64.toUInt64 (a1 * (-7046029254386353131 : Int64)) >>> ((Int32.toInt64 (Int32.ofInt 52)).toUInt64 &&& Int64.toUInt64 63)).toInt64)) (Int32.ofInt 0) h _ _ ho hs hf
