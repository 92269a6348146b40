def g_X5_faultIn : Nat → Nat → Nat → Int32 → Int32 → Int32 → am_H → Option (Int32 × am_H)
  | 0, _, _, _, _, _, _ => none
  | n + 1, _, a1, a2, x3i, x4i, h => bif am_isO h a1 4 then ((if (am_I h a1 1) ≤ x4i then some ((am_I h a1 1), h) else (am_A h a1 0).bind fun q3 => ((am_ln h 0 q3).bind fun n5 => (bif am_vp x4i n5 then (am_b2 (f_X5_phaseBehind (am_I h q3 (Int32.toNatClampNeg x4i)) x3i a2 h) fun r8 h9 => ((if (am_I (am_sI h9 3 1 r8) 3 1) = (Int32.ofInt 5) then some (x4i, (am_sI h9 3 1 r8)) else bif am_isO (am_sI h9 3 1 r8) a1 4 then ((am_A (am_sI h9 3 1 r8) a1 0).bind fun q13 => ((am_ln (am_sI h9 3 1 r8) 0 q13).bind fun n15 => (bif am_vp x4i n15 then (g_X5_faultIn n 0 a1 a2 (am_I (am_sI h9 3 1 r8) q13 (Int32.toNatClampNeg x4i)) (x4i + Int32.ofInt 1) (am_sI h9 3 1 r8)) else none))) else none))) else none)))) else none
set_option maxRecDepth 100000 in
set_option maxHeartbeats 4000000 in
theorem m_X5_faultIn (n : Nat) : (∀ (a1 : Nat) (a2 : Int32) (x3i : Int32) (x4i : Int32) (h : am_H) (v : Int32) (h' : am_H), am_stat h → g_X5_faultIn n 0 a1 a2 x3i x4i h = some (v, h') → am_stat h') := by
  induction n with
  | zero => exact fun a1 a2 x3i x4i h v h' hs hf => (by cases hf)
  | succ n ih =>
    skip
    · intro a1 a2 x3i x4i h v h' hs hf
      have hf : (bif am_isO h a1 4 then ((if (am_I h a1 1) ≤ x4i then some ((am_I h a1 1), h) else (am_A h a1 0).bind fun q3 => ((am_ln h 0 q3).bind fun n5 => (bif am_vp x4i n5 then (am_b2 (f_X5_phaseBehind (am_I h q3 (Int32.toNatClampNeg x4i)) x3i a2 h) fun r8 h9 => ((if (am_I (am_sI h9 3 1 r8) 3 1) = (Int32.ofInt 5) then some (x4i, (am_sI h9 3 1 r8)) else bif am_isO (am_sI h9 3 1 r8) a1 4 then ((am_A (am_sI h9 3 1 r8) a1 0).bind fun q13 => ((am_ln (am_sI h9 3 1 r8) 0 q13).bind fun n15 => (bif am_vp x4i n15 then (g_X5_faultIn n 0 a1 a2 (am_I (am_sI h9 3 1 r8) q13 (Int32.toNatClampNeg x4i)) (x4i + Int32.ofInt 1) (am_sI h9 3 1 r8)) else none))) else none))) else none)))) else none) = some (v, h') := hf
      obtain ⟨k1, hf⟩ := am_bis hf
      by_cases c2 : (am_I h a1 1) ≤ x4i
      · rw [if_pos c2] at hf
        obtain ⟨rfl, rfl⟩ := am_i2 hf
        exact hs
      · rw [if_neg c2] at hf
        obtain ⟨q3, k4, hf⟩ := am_bnd hf
        obtain ⟨n5, k6, hf⟩ := am_bnd hf
        obtain ⟨b7, hf⟩ := am_bis hf
        obtain ⟨r8, h9, e10, hf⟩ := am_b2_ok hf
        have hs := s_X5_phaseBehind (am_I h q3 (Int32.toNatClampNeg x4i)) x3i a2 h hs e10
        by_cases c11 : (am_I (am_sI h9 3 1 r8) 3 1) = (Int32.ofInt 5)
        · rw [if_pos c11] at hf
          obtain ⟨rfl, rfl⟩ := am_i2 hf
          exact hs
        · rw [if_neg c11] at hf
          obtain ⟨k12, hf⟩ := am_bis hf
          obtain ⟨q13, k14, hf⟩ := am_bnd hf
          obtain ⟨n15, k16, hf⟩ := am_bnd hf
          obtain ⟨b17, hf⟩ := am_bis hf
          exact ih a1 a2 (am_I (am_sI h9 3 1 r8) q13 (Int32.toNatClampNeg x4i)) (x4i + Int32.ofInt 1) (am_sI h9 3 1 r8) _ _ hs hf
set_option maxRecDepth 100000 in
set_option maxHeartbeats 4000000 in
theorem l_X5_faultIn (n : Nat) : (∀ (a1 : Nat) (a2 : Int32) (x3i : Int32) (x4i : Int32) (h : am_H) (v : Int32) (h' : am_H), am_stat h → g_X5_faultIn n 0 a1 a2 x3i x4i h = some (v, h') → AW mX5_faultIn (rX5_faultIn 0 0) (fun r h2 => r = some (.int v) ∧ h2 = h') 15 [(0, .ref 3), (1, .ref a1), (2, .int a2), (3, .int x3i), (4, .int x4i)] [] h 0 0) := by
  induction n with
  | zero => exact fun a1 a2 x3i x4i h v h' hs hf => (by cases hf)
  | succ n ih =>
    skip
    · intro a1 a2 x3i x4i h v h' hs hf
      have hf : (bif am_isO h a1 4 then ((if (am_I h a1 1) ≤ x4i then some ((am_I h a1 1), h) else (am_A h a1 0).bind fun q3 => ((am_ln h 0 q3).bind fun n5 => (bif am_vp x4i n5 then (am_b2 (f_X5_phaseBehind (am_I h q3 (Int32.toNatClampNeg x4i)) x3i a2 h) fun r8 h9 => ((if (am_I (am_sI h9 3 1 r8) 3 1) = (Int32.ofInt 5) then some (x4i, (am_sI h9 3 1 r8)) else bif am_isO (am_sI h9 3 1 r8) a1 4 then ((am_A (am_sI h9 3 1 r8) a1 0).bind fun q13 => ((am_ln (am_sI h9 3 1 r8) 0 q13).bind fun n15 => (bif am_vp x4i n15 then (g_X5_faultIn n 0 a1 a2 (am_I (am_sI h9 3 1 r8) q13 (Int32.toNatClampNeg x4i)) (x4i + Int32.ofInt 1) (am_sI h9 3 1 r8)) else none))) else none))) else none)))) else none) = some (v, h') := hf
      obtain ⟨k1, hf⟩ := am_bis hf
      refine AW_go okX5_faultIn 4 ?_
      refine And.intro (am_isO_ok k1) ?_
      refine And.intro (fun c2 => ?_) (fun c2 => ?_)
      · rw [if_pos c2] at hf
        refine AW_go okX5_faultIn 3 ?_
        refine And.intro (am_isO_ok k1) ?_
        obtain ⟨rfl, rfl⟩ := am_i2 hf
        exact And.intro ⟨(Nat.le_of_ble_eq_true rfl), (Nat.le_of_ble_eq_true rfl)⟩ (And.intro (Or.inl rfl) ⟨rfl, rfl⟩)
      · rw [if_neg c2] at hf
        obtain ⟨q3, k4, hf⟩ := am_bnd hf
        obtain ⟨n5, k6, hf⟩ := am_bnd hf
        obtain ⟨b7, hf⟩ := am_bis hf
        refine AW_go okX5_faultIn 8 ?_
        refine And.intro (am_isO_ok k1) (Exists.intro (some q3) (And.intro k4 ?_))
        refine Exists.intro n5 (And.intro (am_ln_ok k6) (And.intro (am_vp_ok b7) ?_))
        obtain ⟨r8, h9, e10, hf⟩ := am_b2_ok hf
        refine AW_callV (As := [.int (am_I h q3 (Int32.toNatClampNeg x4i)), .int x3i, .int a2]) (R' := rX5_phaseBehind 0 0) (T := TX5) (N := 12) (ci := 5) (okX5_faultIn.1 35 _ _ rfl) lkX5_phaseBehind kX5_52 rfl (sK hs 3) rfl (Nat.le_of_ble_eq_true rfl) ⟨by decide, by decide⟩ ⟨(Nat.le_of_ble_eq_true rfl), (Nat.le_of_ble_eq_true rfl)⟩ (Nat.le_of_ble_eq_true rfl) (c_X5_phaseBehind (am_I h q3 (Int32.toNatClampNeg x4i)) x3i a2 h hs e10) (fun r h' hq => ?_)
        obtain ⟨rfl, hq⟩ := hq
        replace hq := hq.symm
        subst hq
        have hs := s_X5_phaseBehind (am_I h q3 (Int32.toNatClampNeg x4i)) x3i a2 h hs e10
        refine AW_go okX5_faultIn 5 ?_
        refine And.intro (sK hs 3) ?_
        refine And.intro (sK hs 3) ?_
        refine And.intro (fun c11 => ?_) (fun c11 => ?_)
        · rw [if_neg c11] at hf
          obtain ⟨k12, hf⟩ := am_bis hf
          obtain ⟨q13, k14, hf⟩ := am_bnd hf
          obtain ⟨n15, k16, hf⟩ := am_bnd hf
          obtain ⟨b17, hf⟩ := am_bis hf
          refine AW_go okX5_faultIn 7 ?_
          refine And.intro (am_isO_ok k12) (Exists.intro (some q13) (And.intro k14 ?_))
          refine Exists.intro n15 (And.intro (am_ln_ok k16) (And.intro (am_vp_ok b17) ?_))
          refine AW_pick (lv' := [(0, .ref 3), (1, .ref a1), (2, .int a2), (3, .int (am_I (am_sI h9 3 1 r8) q13 (Int32.toNatClampNeg x4i))), (4, .int (x4i + Int32.ofInt 1))]) [2, 3, 4, 1, 0] rfl ?_
          exact ih a1 a2 (am_I (am_sI h9 3 1 r8) q13 (Int32.toNatClampNeg x4i)) (x4i + Int32.ofInt 1) (am_sI h9 3 1 r8) _ _ hs hf
        · rw [if_pos c11] at hf
          refine AW_go okX5_faultIn 2 ?_
          obtain ⟨rfl, rfl⟩ := am_i2 hf
          exact And.intro ⟨(Nat.le_of_ble_eq_true rfl), (Nat.le_of_ble_eq_true rfl)⟩ (And.intro (Or.inl rfl) ⟨rfl, rfl⟩)
def f_X5_faultIn (n : Nat) (a1 : Nat) (a2 : Int32) (h : am_H) : Option (Int32 × am_H) := g_X5_faultIn n 0 a1 a2 (Int32.ofInt 0) (Int32.ofInt 0) (am_sI (am_sI h 3 1 (Int32.ofInt 0)) 3 2 (Int32.ofInt 0))
set_option maxRecDepth 100000 in
theorem s_X5_faultIn (n : Nat) (a1 : Nat) (a2 : Int32) (h : am_H) (hs : am_stat h) {v : Int32} {h' : am_H} (hf : f_X5_faultIn n a1 a2 h = some (v, h')) : am_stat h' := by
  unfold f_X5_faultIn at hf
  exact (m_X5_faultIn n) a1 a2 (Int32.ofInt 0) (Int32.ofInt 0) (am_sI (am_sI h 3 1 (Int32.ofInt 0)) 3 2 (Int32.ofInt 0)) _ _ hs hf
set_option maxRecDepth 100000 in
theorem c_X5_faultIn (n : Nat) (a1 : Nat) (a2 : Int32) (h : am_H) (hs : am_stat h) {v : Int32} {h' : am_H} (hf : f_X5_faultIn n a1 a2 h = some (v, h')) : AMet mX5_faultIn (rX5_faultIn 0 0) (fun r h2 => r = some (.int v) ∧ h2 = h') [.ref 3, .ref a1, .int a2] h := by
  unfold f_X5_faultIn at hf
  refine AW_go okX5_faultIn 10 ?_
  refine And.intro (sK hs 3) ?_
  refine And.intro (sK hs 3) ?_
  refine AW_pick (lv' := [(0, .ref 3), (1, .ref a1), (2, .int a2), (3, .int (Int32.ofInt 0)), (4, .int (Int32.ofInt 0))]) [2, 3, 4, 1, 0] rfl ?_
  exact (l_X5_faultIn n) a1 a2 (Int32.ofInt 0) (Int32.ofInt 0) (am_sI (am_sI h 3 1 (Int32.ofInt 0)) 3 2 (Int32.ofInt 0)) _ _ hs hf
def g_X5_gather : Nat → Nat → Nat → Int32 → Int32 → Int32 → am_H → Option (Unit × am_H)
  | 0, _, _, _, _, _, _ => none
  | n + 1, _, a1, a2, a3, x4i, h => bif am_isO h a1 4 then ((if (am_I h a1 1) ≤ x4i then am_b2 (f_X5_endRow h) fun r3 h4 => (Option.bind ((if (am_I h4 11 (Int32.toNatClampNeg (Int32.ofInt 0))) = 0 then some (Int32.ofInt 0) else some (Int32.ofInt 1))) fun y6 => (am_b2 (f_X5_followUp n (am_I (am_sI h4 5 (Int32.toNatClampNeg (Int32.ofInt 0)) ((am_I h4 9 (Int32.toNatClampNeg (Int32.ofInt 0))) ||| y6)) 10 (Int32.toNatClampNeg (Int32.ofInt 0))) (Int32.ofInt 1) (am_sI h4 5 (Int32.toNatClampNeg (Int32.ofInt 0)) ((am_I h4 9 (Int32.toNatClampNeg (Int32.ofInt 0))) ||| y6))) fun r59 h60 => (some ((), h60)))) else (am_A h a1 0).bind fun q62 => ((am_ln h 0 q62).bind fun n64 => (bif am_vp x4i n64 then (am_b2 (f_X5_isLetter (am_I h q62 (Int32.toNatClampNeg x4i)) h) fun r67 h68 => (Option.bind (am_let (am_let ((if (am_I h q62 (Int32.toNatClampNeg x4i)) = (Int32.ofInt 43) then am_b2 (f_X5_endRow h68) fun r144 h145 => (some h145) else (if (am_I h q62 (Int32.toNatClampNeg x4i)) = (Int32.ofInt 125) then (if (am_I h68 3 2) ≤ 0 then some h68 else bif am_isO h68 a1 4 then (Option.bind ((if (am_I h68 a1 1) ≤ (x4i + (Int32.ofInt 1)) then some (Int32.ofInt 0) else (am_A h68 a1 0).bind fun q85 => ((am_ln h68 0 q85).bind fun n87 => (bif am_vp (x4i + (Int32.ofInt 1)) n87 then ((if (am_I h68 q85 (Int32.toNatClampNeg (x4i + (Int32.ofInt 1)))) = (Int32.ofInt 42) then some (Int32.ofInt 1) else some (Int32.ofInt 0))) else none)))) fun y82 => (am_b2 (f_X5_closeBraces n y82 h68) fun r141 h142 => (some h142))) else none) else some h68))) fun b75 => ((if (am_I h q62 (Int32.toNatClampNeg x4i)) = (Int32.ofInt 123) then (if (Int32.ofInt 60) ≤ (am_I h68 3 2) then b75 else am_b2 (f_X5_openBraces (am_sI h68 3 2 ((am_I h68 3 2) + (Int32.ofInt 1)))) fun r80 h81 => (some h81)) else b75))) fun b72 => ((if r67 = 0 then b72 else (if x4i < (Int32.ofInt 2) then b72 else am_b2 ((if a2 = 0 then am_b2 (f_X5_bookCode a1 (x4i - (Int32.ofInt 2)) h68) fun r84 h85 => (some (r84, h85)) else am_b2 (f_X5_partCode a1 (x4i - (Int32.ofInt 2)) a3 h68) fun r81 h82 => (some (r81, h82)))) fun y77 h78 => (am_b2 (f_X5_addAct n y77 h78) fun r137 h138 => (some h138)))))) fun h70 => (g_X5_gather n 0 a1 a2 a3 (x4i + Int32.ofInt 1) h70))) else none)))) else none
set_option maxRecDepth 100000 in
set_option maxHeartbeats 4000000 in
theorem m_X5_gather (n : Nat) : (∀ (a1 : Nat) (a2 : Int32) (a3 : Int32) (x4i : Int32) (h : am_H) (v : Unit) (h' : am_H), am_stat h → g_X5_gather n 0 a1 a2 a3 x4i h = some (v, h') → am_stat h') := by
  induction n with
  | zero => exact fun a1 a2 a3 x4i h v h' hs hf => (by cases hf)
  | succ n ih =>
    skip
    · intro a1 a2 a3 x4i h v h' hs hf
      have hf : (bif am_isO h a1 4 then ((if (am_I h a1 1) ≤ x4i then am_b2 (f_X5_endRow h) fun r3 h4 => (Option.bind ((if (am_I h4 11 (Int32.toNatClampNeg (Int32.ofInt 0))) = 0 then some (Int32.ofInt 0) else some (Int32.ofInt 1))) fun y6 => (am_b2 (f_X5_followUp n (am_I (am_sI h4 5 (Int32.toNatClampNeg (Int32.ofInt 0)) ((am_I h4 9 (Int32.toNatClampNeg (Int32.ofInt 0))) ||| y6)) 10 (Int32.toNatClampNeg (Int32.ofInt 0))) (Int32.ofInt 1) (am_sI h4 5 (Int32.toNatClampNeg (Int32.ofInt 0)) ((am_I h4 9 (Int32.toNatClampNeg (Int32.ofInt 0))) ||| y6))) fun r59 h60 => (some ((), h60)))) else (am_A h a1 0).bind fun q62 => ((am_ln h 0 q62).bind fun n64 => (bif am_vp x4i n64 then (am_b2 (f_X5_isLetter (am_I h q62 (Int32.toNatClampNeg x4i)) h) fun r67 h68 => (Option.bind (am_let (am_let ((if (am_I h q62 (Int32.toNatClampNeg x4i)) = (Int32.ofInt 43) then am_b2 (f_X5_endRow h68) fun r79 h80 => (some h80) else (if (am_I h q62 (Int32.toNatClampNeg x4i)) = (Int32.ofInt 125) then (if (am_I h68 3 2) ≤ 0 then some h68 else bif am_isO h68 a1 4 then (Option.bind ((if (am_I h68 a1 1) ≤ (x4i + (Int32.ofInt 1)) then some (Int32.ofInt 0) else (am_A h68 a1 0).bind fun q88 => ((am_ln h68 0 q88).bind fun n90 => (bif am_vp (x4i + (Int32.ofInt 1)) n90 then ((if (am_I h68 q88 (Int32.toNatClampNeg (x4i + (Int32.ofInt 1)))) = (Int32.ofInt 42) then some (Int32.ofInt 1) else some (Int32.ofInt 0))) else none)))) fun y85 => (am_b2 (f_X5_closeBraces n y85 h68) fun r144 h145 => (some h145))) else none) else some h68))) fun b75 => ((if (am_I h q62 (Int32.toNatClampNeg x4i)) = (Int32.ofInt 123) then (if (Int32.ofInt 60) ≤ (am_I h68 3 2) then b75 else am_b2 (f_X5_openBraces (am_sI h68 3 2 ((am_I h68 3 2) + (Int32.ofInt 1)))) fun r80 h81 => (some h81)) else b75))) fun b72 => ((if r67 = 0 then b72 else (if x4i < (Int32.ofInt 2) then b72 else am_b2 ((if a2 = 0 then am_b2 (f_X5_bookCode a1 (x4i - (Int32.ofInt 2)) h68) fun r81 h82 => (some (r81, h82)) else am_b2 (f_X5_partCode a1 (x4i - (Int32.ofInt 2)) a3 h68) fun r84 h85 => (some (r84, h85)))) fun y77 h78 => (am_b2 (f_X5_addAct n y77 h78) fun r137 h138 => (some h138)))))) fun h70 => (g_X5_gather n 0 a1 a2 a3 (x4i + Int32.ofInt 1) h70))) else none)))) else none) = some (v, h') := hf
      obtain ⟨k1, hf⟩ := am_bis hf
      by_cases c2 : (am_I h a1 1) ≤ x4i
      · rw [if_pos c2] at hf
        obtain ⟨r3, h4, e5, hf⟩ := am_b2_ok hf
        have hs := s_X5_endRow h hs e5
        obtain ⟨y6, j7, hf⟩ := am_bnd hf
        obtain ⟨r59, h60, e61, hf⟩ := am_b2_ok hf
        have hs := s_X5_followUp n (am_I (am_sI h4 5 (Int32.toNatClampNeg (Int32.ofInt 0)) ((am_I h4 9 (Int32.toNatClampNeg (Int32.ofInt 0))) ||| y6)) 10 (Int32.toNatClampNeg (Int32.ofInt 0))) (Int32.ofInt 1) (am_sI h4 5 (Int32.toNatClampNeg (Int32.ofInt 0)) ((am_I h4 9 (Int32.toNatClampNeg (Int32.ofInt 0))) ||| y6)) hs e61
        obtain ⟨rfl, rfl⟩ := am_i2 hf
        exact hs
      · rw [if_neg c2] at hf
        obtain ⟨q62, k63, hf⟩ := am_bnd hf
        obtain ⟨n64, k65, hf⟩ := am_bnd hf
        obtain ⟨b66, hf⟩ := am_bis hf
        obtain ⟨r67, h68, e69, hf⟩ := am_b2_ok hf
        have hs := s_X5_isLetter (am_I h q62 (Int32.toNatClampNeg x4i)) h hs e69
        obtain ⟨h70, j71, hf⟩ := am_bnd hf
        have hs0 := hs
        have hs : am_stat h70 := by
          have hs := hs0
          obtain ⟨b72, k73, j71⟩ := am_let_ok j71
          refine am_cut (P := (am_let ((if (am_I h q62 (Int32.toNatClampNeg x4i)) = (Int32.ofInt 43) then am_b2 (f_X5_endRow h68) fun r79 h80 => (some h80) else (if (am_I h q62 (Int32.toNatClampNeg x4i)) = (Int32.ofInt 125) then (if (am_I h68 3 2) ≤ 0 then some h68 else bif am_isO h68 a1 4 then (Option.bind ((if (am_I h68 a1 1) ≤ (x4i + (Int32.ofInt 1)) then some (Int32.ofInt 0) else (am_A h68 a1 0).bind fun q88 => ((am_ln h68 0 q88).bind fun n90 => (bif am_vp (x4i + (Int32.ofInt 1)) n90 then ((if (am_I h68 q88 (Int32.toNatClampNeg (x4i + (Int32.ofInt 1)))) = (Int32.ofInt 42) then some (Int32.ofInt 1) else some (Int32.ofInt 0))) else none)))) fun y85 => (am_b2 (f_X5_closeBraces n y85 h68) fun r144 h145 => (some h145))) else none) else some h68))) fun b75 => ((if (am_I h q62 (Int32.toNatClampNeg x4i)) = (Int32.ofInt 123) then (if (Int32.ofInt 60) ≤ (am_I h68 3 2) then b75 else am_b2 (f_X5_openBraces (am_sI h68 3 2 ((am_I h68 3 2) + (Int32.ofInt 1)))) fun r80 h81 => (some h81)) else b75))) = some h70 → am_stat h70) (fun B74 => ?_) ?_
          · skip
            by_cases c75 : r67 = 0
            · rw [if_pos c75] at j71
              exact B74 (k73.symm.trans j71)
            · rw [if_neg c75] at j71
              by_cases c76 : x4i < (Int32.ofInt 2)
              · rw [if_pos c76] at j71
                exact B74 (k73.symm.trans j71)
              · rw [if_neg c76] at j71
                obtain ⟨y77, h78, j79, j71⟩ := am_b2_ok j71
                have hs0 := hs
                have hs : am_stat h78 := by
                  have hs := hs0
                  by_cases c80 : a2 = 0
                  · rw [if_pos c80] at j79
                    obtain ⟨r81, h82, e83, j79⟩ := am_b2_ok j79
                    have hs := s_X5_bookCode a1 (x4i - (Int32.ofInt 2)) h68 hs e83
                    obtain ⟨rfl, rfl⟩ := am_i2 j79
                    exact hs
                  · rw [if_neg c80] at j79
                    obtain ⟨r84, h85, e86, j79⟩ := am_b2_ok j79
                    have hs := s_X5_partCode a1 (x4i - (Int32.ofInt 2)) a3 h68 hs e86
                    obtain ⟨rfl, rfl⟩ := am_i2 j79
                    exact hs
                obtain ⟨r137, h138, e139, j71⟩ := am_b2_ok j71
                have hs := s_X5_addAct n y77 h78 hs e139
                obtain rfl := am_i1 j71
                exact hs
          intro j71
          obtain ⟨b140, k141, j71⟩ := am_let_ok j71
          refine am_cut (P := ((if (am_I h q62 (Int32.toNatClampNeg x4i)) = (Int32.ofInt 43) then am_b2 (f_X5_endRow h68) fun r144 h145 => (some h145) else (if (am_I h q62 (Int32.toNatClampNeg x4i)) = (Int32.ofInt 125) then (if (am_I h68 3 2) ≤ 0 then some h68 else bif am_isO h68 a1 4 then (Option.bind ((if (am_I h68 a1 1) ≤ (x4i + (Int32.ofInt 1)) then some (Int32.ofInt 0) else (am_A h68 a1 0).bind fun q153 => ((am_ln h68 0 q153).bind fun n155 => (bif am_vp (x4i + (Int32.ofInt 1)) n155 then ((if (am_I h68 q153 (Int32.toNatClampNeg (x4i + (Int32.ofInt 1)))) = (Int32.ofInt 42) then some (Int32.ofInt 1) else some (Int32.ofInt 0))) else none)))) fun y150 => (am_b2 (f_X5_closeBraces n y150 h68) fun r209 h210 => (some h210))) else none) else some h68))) = some h70 → am_stat h70) (fun B142 => ?_) ?_
          · skip
            by_cases c143 : (am_I h q62 (Int32.toNatClampNeg x4i)) = (Int32.ofInt 123)
            · rw [if_pos c143] at j71
              by_cases c144 : (Int32.ofInt 60) ≤ (am_I h68 3 2)
              · rw [if_pos c144] at j71
                exact B142 (k141.symm.trans j71)
              · rw [if_neg c144] at j71
                obtain ⟨r145, h146, e147, j71⟩ := am_b2_ok j71
                have hs := s_X5_openBraces (am_sI h68 3 2 ((am_I h68 3 2) + (Int32.ofInt 1))) hs e147
                obtain rfl := am_i1 j71
                exact hs
            · rw [if_neg c143] at j71
              exact B142 (k141.symm.trans j71)
          intro j71
          by_cases c148 : (am_I h q62 (Int32.toNatClampNeg x4i)) = (Int32.ofInt 43)
          · rw [if_pos c148] at j71
            obtain ⟨r149, h150, e151, j71⟩ := am_b2_ok j71
            have hs := s_X5_endRow h68 hs e151
            obtain rfl := am_i1 j71
            exact hs
          · rw [if_neg c148] at j71
            by_cases c152 : (am_I h q62 (Int32.toNatClampNeg x4i)) = (Int32.ofInt 125)
            · rw [if_pos c152] at j71
              by_cases c153 : (am_I h68 3 2) ≤ 0
              · rw [if_pos c153] at j71
                obtain rfl := am_i1 j71
                exact hs
              · rw [if_neg c153] at j71
                obtain ⟨k154, j71⟩ := am_bis j71
                obtain ⟨y155, j156, j71⟩ := am_bnd j71
                obtain ⟨r214, h215, e216, j71⟩ := am_b2_ok j71
                have hs := s_X5_closeBraces n y155 h68 hs e216
                obtain rfl := am_i1 j71
                exact hs
            · rw [if_neg c152] at j71
              obtain rfl := am_i1 j71
              exact hs
        exact ih a1 a2 a3 (x4i + Int32.ofInt 1) h70 _ _ hs hf
set_option maxRecDepth 100000 in
set_option maxHeartbeats 4000000 in
theorem l_X5_gather (n : Nat) : (∀ (a1 : Nat) (a2 : Int32) (a3 : Int32) (x4i : Int32) (h : am_H) (v : Unit) (h' : am_H), am_stat h → g_X5_gather n 0 a1 a2 a3 x4i h = some (v, h') → AW mX5_gather (rX5_gather 0 0) (fun r h2 => r = none ∧ h2 = h') 30 [(0, .ref 3), (1, .ref a1), (2, .int a2), (3, .int a3), (4, .int x4i)] [] h 0 0) := by
  induction n with
  | zero => exact fun a1 a2 a3 x4i h v h' hs hf => (by cases hf)
  | succ n ih =>
    skip
    · intro a1 a2 a3 x4i h v h' hs hf
      have hf : (bif am_isO h a1 4 then ((if (am_I h a1 1) ≤ x4i then am_b2 (f_X5_endRow h) fun r3 h4 => (Option.bind ((if (am_I h4 11 (Int32.toNatClampNeg (Int32.ofInt 0))) = 0 then some (Int32.ofInt 0) else some (Int32.ofInt 1))) fun y6 => (am_b2 (f_X5_followUp n (am_I (am_sI h4 5 (Int32.toNatClampNeg (Int32.ofInt 0)) ((am_I h4 9 (Int32.toNatClampNeg (Int32.ofInt 0))) ||| y6)) 10 (Int32.toNatClampNeg (Int32.ofInt 0))) (Int32.ofInt 1) (am_sI h4 5 (Int32.toNatClampNeg (Int32.ofInt 0)) ((am_I h4 9 (Int32.toNatClampNeg (Int32.ofInt 0))) ||| y6))) fun r59 h60 => (some ((), h60)))) else (am_A h a1 0).bind fun q62 => ((am_ln h 0 q62).bind fun n64 => (bif am_vp x4i n64 then (am_b2 (f_X5_isLetter (am_I h q62 (Int32.toNatClampNeg x4i)) h) fun r67 h68 => (Option.bind (am_let (am_let ((if (am_I h q62 (Int32.toNatClampNeg x4i)) = (Int32.ofInt 43) then am_b2 (f_X5_endRow h68) fun r144 h145 => (some h145) else (if (am_I h q62 (Int32.toNatClampNeg x4i)) = (Int32.ofInt 125) then (if (am_I h68 3 2) ≤ 0 then some h68 else bif am_isO h68 a1 4 then (Option.bind ((if (am_I h68 a1 1) ≤ (x4i + (Int32.ofInt 1)) then some (Int32.ofInt 0) else (am_A h68 a1 0).bind fun q85 => ((am_ln h68 0 q85).bind fun n87 => (bif am_vp (x4i + (Int32.ofInt 1)) n87 then ((if (am_I h68 q85 (Int32.toNatClampNeg (x4i + (Int32.ofInt 1)))) = (Int32.ofInt 42) then some (Int32.ofInt 1) else some (Int32.ofInt 0))) else none)))) fun y82 => (am_b2 (f_X5_closeBraces n y82 h68) fun r141 h142 => (some h142))) else none) else some h68))) fun b75 => ((if (am_I h q62 (Int32.toNatClampNeg x4i)) = (Int32.ofInt 123) then (if (Int32.ofInt 60) ≤ (am_I h68 3 2) then b75 else am_b2 (f_X5_openBraces (am_sI h68 3 2 ((am_I h68 3 2) + (Int32.ofInt 1)))) fun r80 h81 => (some h81)) else b75))) fun b72 => ((if r67 = 0 then b72 else (if x4i < (Int32.ofInt 2) then b72 else am_b2 ((if a2 = 0 then am_b2 (f_X5_bookCode a1 (x4i - (Int32.ofInt 2)) h68) fun r84 h85 => (some (r84, h85)) else am_b2 (f_X5_partCode a1 (x4i - (Int32.ofInt 2)) a3 h68) fun r81 h82 => (some (r81, h82)))) fun y77 h78 => (am_b2 (f_X5_addAct n y77 h78) fun r137 h138 => (some h138)))))) fun h70 => (g_X5_gather n 0 a1 a2 a3 (x4i + Int32.ofInt 1) h70))) else none)))) else none) = some (v, h') := hf
      obtain ⟨k1, hf⟩ := am_bis hf
      refine AW_go okX5_gather 4 ?_
      refine And.intro (am_isO_ok k1) ?_
      refine And.intro (fun c2 => ?_) (fun c2 => ?_)
      · rw [if_pos c2] at hf
        refine AW_go okX5_gather 1 ?_
        obtain ⟨r3, h4, e5, hf⟩ := am_b2_ok hf
        refine AW_callV (As := []) (R' := rX5_endRow 0 0) (T := TX5) (N := 12) (ci := 5) (okX5_gather.1 195 _ _ rfl) lkX5_endRow kX5_102 rfl (sK hs 3) rfl (Nat.le_of_ble_eq_true rfl) ⟨by decide, by decide⟩ ⟨(Nat.le_of_ble_eq_true rfl), (Nat.le_of_ble_eq_true rfl)⟩ (Nat.le_of_ble_eq_true rfl) (c_X5_endRow h hs e5) (fun r h' hq => ?_)
        obtain ⟨rfl, hq⟩ := hq
        replace hq := hq.symm
        subst hq
        have hs := s_X5_endRow h hs e5
        refine AW_go okX5_gather 11 ?_
        refine And.intro (sK hs 3) (Exists.intro _ (And.intro (sA hs 3 5) ?_))
        refine And.intro (sK hs 3) (Exists.intro _ (And.intro (sA hs 3 9) ?_))
        refine Exists.intro 61 (And.intro (sK hs 9) (And.intro (by unfold vp_in; decide) ?_))
        refine And.intro (sK hs 3) (Exists.intro _ (And.intro (sA hs 3 11) ?_))
        refine Exists.intro 2 (Exists.intro 61 (And.intro (by decide) (And.intro (sK hs 11) (And.intro (by unfold vp_in; decide) ?_))))
        obtain ⟨y6, j7, hf⟩ := am_bnd hf
        refine am_cut (P := AW mX5_gather (rX5_gather 0 0) (fun r h2 => r = none ∧ h2 = h') 223 [(0, .ref 3), (1, .ref a1), (2, .int a2), (3, .int a3), (4, .int x4i)] [.int y6, .int (am_I h4 9 (Int32.toNatClampNeg (Int32.ofInt 0))), .int (Int32.ofInt 0), .ref 5] h4 0 0) (fun hJ7 => ?_) ?_
        · have hs := hs
          refine AW_go okX5_gather 1 ?_
          refine And.intro (fun c8 => ?_) (fun c8 => ?_)
          · rw [if_pos c8] at j7
            refine AW_go okX5_gather 1 ?_
            obtain rfl := am_i1 j7
            exact AW_pick [0, 1, 2, 3, 4] rfl hJ7
          · rw [if_neg c8] at j7
            refine AW_go okX5_gather 2 ?_
            obtain rfl := am_i1 j7
            exact AW_pick [0, 1, 2, 3, 4] rfl hJ7
        refine AW_go okX5_gather 8 ?_
        refine Exists.intro 16 (And.intro (sK hs 5) (And.intro (by unfold vp_in; decide) ?_))
        refine And.intro (sK hs 3) (Exists.intro _ (And.intro (sA hs 3 10) ?_))
        refine Exists.intro 61 (And.intro (sK hs 10) (And.intro (by unfold vp_in; decide) ?_))
        obtain ⟨r59, h60, e61, hf⟩ := am_b2_ok hf
        refine AW_callV (As := [.int (am_I (am_sI h4 5 (Int32.toNatClampNeg (Int32.ofInt 0)) ((am_I h4 9 (Int32.toNatClampNeg (Int32.ofInt 0))) ||| y6)) 10 (Int32.toNatClampNeg (Int32.ofInt 0))), .int (Int32.ofInt 1)]) (R' := rX5_followUp 0 0) (T := TX5) (N := 12) (ci := 5) (okX5_gather.1 233 _ _ rfl) lkX5_followUp kX5_109 rfl (sK hs 3) rfl (Nat.le_of_ble_eq_true rfl) ⟨by decide, by decide⟩ ⟨(Nat.le_of_ble_eq_true rfl), (Nat.le_of_ble_eq_true rfl)⟩ (Nat.le_of_ble_eq_true rfl) (c_X5_followUp n (am_I (am_sI h4 5 (Int32.toNatClampNeg (Int32.ofInt 0)) ((am_I h4 9 (Int32.toNatClampNeg (Int32.ofInt 0))) ||| y6)) 10 (Int32.toNatClampNeg (Int32.ofInt 0))) (Int32.ofInt 1) (am_sI h4 5 (Int32.toNatClampNeg (Int32.ofInt 0)) ((am_I h4 9 (Int32.toNatClampNeg (Int32.ofInt 0))) ||| y6)) hs e61) (fun r h' hq => ?_)
        obtain ⟨rfl, hq⟩ := hq
        replace hq := hq.symm
        subst hq
        have hs := s_X5_followUp n (am_I (am_sI h4 5 (Int32.toNatClampNeg (Int32.ofInt 0)) ((am_I h4 9 (Int32.toNatClampNeg (Int32.ofInt 0))) ||| y6)) 10 (Int32.toNatClampNeg (Int32.ofInt 0))) (Int32.ofInt 1) (am_sI h4 5 (Int32.toNatClampNeg (Int32.ofInt 0)) ((am_I h4 9 (Int32.toNatClampNeg (Int32.ofInt 0))) ||| y6)) hs e61
        refine AW_go okX5_gather 1 ?_
        obtain ⟨rfl, rfl⟩ := am_i2 hf
        exact And.intro ⟨(Nat.le_of_ble_eq_true rfl), (Nat.le_of_ble_eq_true rfl)⟩ (And.intro rfl ⟨rfl, rfl⟩)
      · rw [if_neg c2] at hf
        obtain ⟨q62, k63, hf⟩ := am_bnd hf
        obtain ⟨n64, k65, hf⟩ := am_bnd hf
        obtain ⟨b66, hf⟩ := am_bis hf
        refine AW_go okX5_gather 6 ?_
        refine And.intro (am_isO_ok k1) (Exists.intro (some q62) (And.intro k63 ?_))
        refine Exists.intro n64 (And.intro (am_ln_ok k65) (And.intro (am_vp_ok b66) ?_))
        obtain ⟨r67, h68, e69, hf⟩ := am_b2_ok hf
        refine AW_callS (As := [.int (am_I h q62 (Int32.toNatClampNeg x4i))]) (R' := rX5_isLetter 0 0) (okX5_gather.1 50 _ _ rfl) lkX5_isLetter (Or.inl kX5_64) rfl (Nat.le_of_ble_eq_true rfl) ⟨by decide, by decide⟩ ⟨(Nat.le_of_ble_eq_true rfl), (Nat.le_of_ble_eq_true rfl)⟩ (Nat.le_of_ble_eq_true rfl) (c_X5_isLetter (am_I h q62 (Int32.toNatClampNeg x4i)) h hs e69) (fun r h' hq => ?_)
        obtain ⟨rfl, hq⟩ := hq
        replace hq := hq.symm
        subst hq
        have hs := s_X5_isLetter (am_I h q62 (Int32.toNatClampNeg x4i)) h hs e69
        obtain ⟨h70, j71, hf⟩ := am_bnd hf
        have hs0 := hs
        have hs : am_stat h70 := by
          have hs := hs0
          obtain ⟨b72, k73, j71⟩ := am_let_ok j71
          refine am_cut (P := (am_let ((if (am_I h q62 (Int32.toNatClampNeg x4i)) = (Int32.ofInt 43) then am_b2 (f_X5_endRow h68) fun r79 h80 => (some h80) else (if (am_I h q62 (Int32.toNatClampNeg x4i)) = (Int32.ofInt 125) then (if (am_I h68 3 2) ≤ 0 then some h68 else bif am_isO h68 a1 4 then (Option.bind ((if (am_I h68 a1 1) ≤ (x4i + (Int32.ofInt 1)) then some (Int32.ofInt 0) else (am_A h68 a1 0).bind fun q88 => ((am_ln h68 0 q88).bind fun n90 => (bif am_vp (x4i + (Int32.ofInt 1)) n90 then ((if (am_I h68 q88 (Int32.toNatClampNeg (x4i + (Int32.ofInt 1)))) = (Int32.ofInt 42) then some (Int32.ofInt 1) else some (Int32.ofInt 0))) else none)))) fun y85 => (am_b2 (f_X5_closeBraces n y85 h68) fun r144 h145 => (some h145))) else none) else some h68))) fun b75 => ((if (am_I h q62 (Int32.toNatClampNeg x4i)) = (Int32.ofInt 123) then (if (Int32.ofInt 60) ≤ (am_I h68 3 2) then b75 else am_b2 (f_X5_openBraces (am_sI h68 3 2 ((am_I h68 3 2) + (Int32.ofInt 1)))) fun r80 h81 => (some h81)) else b75))) = some h70 → am_stat h70) (fun B74 => ?_) ?_
          · skip
            by_cases c75 : r67 = 0
            · rw [if_pos c75] at j71
              exact B74 (k73.symm.trans j71)
            · rw [if_neg c75] at j71
              by_cases c76 : x4i < (Int32.ofInt 2)
              · rw [if_pos c76] at j71
                exact B74 (k73.symm.trans j71)
              · rw [if_neg c76] at j71
                obtain ⟨y77, h78, j79, j71⟩ := am_b2_ok j71
                have hs0 := hs
                have hs : am_stat h78 := by
                  have hs := hs0
                  by_cases c80 : a2 = 0
                  · rw [if_pos c80] at j79
                    obtain ⟨r81, h82, e83, j79⟩ := am_b2_ok j79
                    have hs := s_X5_bookCode a1 (x4i - (Int32.ofInt 2)) h68 hs e83
                    obtain ⟨rfl, rfl⟩ := am_i2 j79
                    exact hs
                  · rw [if_neg c80] at j79
                    obtain ⟨r84, h85, e86, j79⟩ := am_b2_ok j79
                    have hs := s_X5_partCode a1 (x4i - (Int32.ofInt 2)) a3 h68 hs e86
                    obtain ⟨rfl, rfl⟩ := am_i2 j79
                    exact hs
                obtain ⟨r137, h138, e139, j71⟩ := am_b2_ok j71
                have hs := s_X5_addAct n y77 h78 hs e139
                obtain rfl := am_i1 j71
                exact hs
          intro j71
          obtain ⟨b140, k141, j71⟩ := am_let_ok j71
          refine am_cut (P := ((if (am_I h q62 (Int32.toNatClampNeg x4i)) = (Int32.ofInt 43) then am_b2 (f_X5_endRow h68) fun r144 h145 => (some h145) else (if (am_I h q62 (Int32.toNatClampNeg x4i)) = (Int32.ofInt 125) then (if (am_I h68 3 2) ≤ 0 then some h68 else bif am_isO h68 a1 4 then (Option.bind ((if (am_I h68 a1 1) ≤ (x4i + (Int32.ofInt 1)) then some (Int32.ofInt 0) else (am_A h68 a1 0).bind fun q153 => ((am_ln h68 0 q153).bind fun n155 => (bif am_vp (x4i + (Int32.ofInt 1)) n155 then ((if (am_I h68 q153 (Int32.toNatClampNeg (x4i + (Int32.ofInt 1)))) = (Int32.ofInt 42) then some (Int32.ofInt 1) else some (Int32.ofInt 0))) else none)))) fun y150 => (am_b2 (f_X5_closeBraces n y150 h68) fun r209 h210 => (some h210))) else none) else some h68))) = some h70 → am_stat h70) (fun B142 => ?_) ?_
          · skip
            by_cases c143 : (am_I h q62 (Int32.toNatClampNeg x4i)) = (Int32.ofInt 123)
            · rw [if_pos c143] at j71
              by_cases c144 : (Int32.ofInt 60) ≤ (am_I h68 3 2)
              · rw [if_pos c144] at j71
                exact B142 (k141.symm.trans j71)
              · rw [if_neg c144] at j71
                obtain ⟨r145, h146, e147, j71⟩ := am_b2_ok j71
                have hs := s_X5_openBraces (am_sI h68 3 2 ((am_I h68 3 2) + (Int32.ofInt 1))) hs e147
                obtain rfl := am_i1 j71
                exact hs
            · rw [if_neg c143] at j71
              exact B142 (k141.symm.trans j71)
          intro j71
          by_cases c148 : (am_I h q62 (Int32.toNatClampNeg x4i)) = (Int32.ofInt 43)
          · rw [if_pos c148] at j71
            obtain ⟨r149, h150, e151, j71⟩ := am_b2_ok j71
            have hs := s_X5_endRow h68 hs e151
            obtain rfl := am_i1 j71
            exact hs
          · rw [if_neg c148] at j71
            by_cases c152 : (am_I h q62 (Int32.toNatClampNeg x4i)) = (Int32.ofInt 125)
            · rw [if_pos c152] at j71
              by_cases c153 : (am_I h68 3 2) ≤ 0
              · rw [if_pos c153] at j71
                obtain rfl := am_i1 j71
                exact hs
              · rw [if_neg c153] at j71
                obtain ⟨k154, j71⟩ := am_bis j71
                obtain ⟨y155, j156, j71⟩ := am_bnd j71
                obtain ⟨r214, h215, e216, j71⟩ := am_b2_ok j71
                have hs := s_X5_closeBraces n y155 h68 hs e216
                obtain rfl := am_i1 j71
                exact hs
            · rw [if_neg c152] at j71
              obtain rfl := am_i1 j71
              exact hs
        refine am_cut (P := AW mX5_gather (rX5_gather 0 0) (fun r h2 => r = none ∧ h2 = h') 188 [(0, .ref 3), (1, .ref a1), (2, .int a2), (3, .int a3), (4, .int x4i), (5, .int (am_I h q62 (Int32.toNatClampNeg x4i)))] [] h70 0 0) (fun hJ71 => ?_) ?_
        · have hs := hs0
          obtain ⟨b72, k73, j71⟩ := am_let_ok j71
          refine am_cut (P := (am_let ((if (am_I h q62 (Int32.toNatClampNeg x4i)) = (Int32.ofInt 43) then am_b2 (f_X5_endRow h68) fun r144 h145 => (some h145) else (if (am_I h q62 (Int32.toNatClampNeg x4i)) = (Int32.ofInt 125) then (if (am_I h68 3 2) ≤ 0 then some h68 else bif am_isO h68 a1 4 then (Option.bind ((if (am_I h68 a1 1) ≤ (x4i + (Int32.ofInt 1)) then some (Int32.ofInt 0) else (am_A h68 a1 0).bind fun q85 => ((am_ln h68 0 q85).bind fun n87 => (bif am_vp (x4i + (Int32.ofInt 1)) n87 then ((if (am_I h68 q85 (Int32.toNatClampNeg (x4i + (Int32.ofInt 1)))) = (Int32.ofInt 42) then some (Int32.ofInt 1) else some (Int32.ofInt 0))) else none)))) fun y82 => (am_b2 (f_X5_closeBraces n y82 h68) fun r141 h142 => (some h142))) else none) else some h68))) fun b75 => ((if (am_I h q62 (Int32.toNatClampNeg x4i)) = (Int32.ofInt 123) then (if (Int32.ofInt 60) ≤ (am_I h68 3 2) then b75 else am_b2 (f_X5_openBraces (am_sI h68 3 2 ((am_I h68 3 2) + (Int32.ofInt 1)))) fun r80 h81 => (some h81)) else b75))) = some h70 → AW mX5_gather (rX5_gather 0 0) (fun r h2 => r = none ∧ h2 = h') 93 [(5, .int (am_I h q62 (Int32.toNatClampNeg x4i))), (0, .ref 3), (1, .ref a1), (2, .int a2), (3, .int a3), (4, .int x4i)] [] h68 0 0) (fun B74 => ?_) ?_
          · skip
            refine AW_go okX5_gather 1 ?_
            refine And.intro (fun c75 => ?_) (fun c75 => ?_)
            · rw [if_pos c75] at j71
              exact B74 (k73.symm.trans j71)
            · rw [if_neg c75] at j71
              refine AW_go okX5_gather 3 ?_
              refine And.intro (fun c76 => ?_) (fun c76 => ?_)
              · rw [if_pos c76] at j71
                exact B74 (k73.symm.trans j71)
              · rw [if_neg c76] at j71
                refine AW_go okX5_gather 2 ?_
                obtain ⟨y77, h78, j79, j71⟩ := am_b2_ok j71
                have hs0 := hs
                have hs : am_stat h78 := by
                  have hs := hs0
                  by_cases c80 : a2 = 0
                  · rw [if_pos c80] at j79
                    obtain ⟨r81, h82, e83, j79⟩ := am_b2_ok j79
                    have hs := s_X5_bookCode a1 (x4i - (Int32.ofInt 2)) h68 hs e83
                    obtain ⟨rfl, rfl⟩ := am_i2 j79
                    exact hs
                  · rw [if_neg c80] at j79
                    obtain ⟨r84, h85, e86, j79⟩ := am_b2_ok j79
                    have hs := s_X5_partCode a1 (x4i - (Int32.ofInt 2)) a3 h68 hs e86
                    obtain ⟨rfl, rfl⟩ := am_i2 j79
                    exact hs
                refine am_cut (P := AW mX5_gather (rX5_gather 0 0) (fun r h2 => r = none ∧ h2 = h') 87 [(0, .ref 3), (1, .ref a1), (2, .int a2), (3, .int a3), (4, .int x4i), (5, .int (am_I h q62 (Int32.toNatClampNeg x4i)))] [.int y77, .ref 3] h78 0 0) (fun hJ79 => ?_) ?_
                · have hs := hs0
                  refine AW_go okX5_gather 1 ?_
                  refine And.intro (fun c80 => ?_) (fun c80 => ?_)
                  · rw [if_neg c80] at j79
                    refine AW_go okX5_gather 5 ?_
                    obtain ⟨r81, h82, e83, j79⟩ := am_b2_ok j79
                    refine AW_callS (As := [.ref a1, .int (x4i - (Int32.ofInt 2)), .int a3]) (R' := rX5_partCode 0 0) (okX5_gather.1 84 _ _ rfl) lkX5_partCode (Or.inl kX5_94) rfl (Nat.le_of_ble_eq_true rfl) ⟨by decide, by decide⟩ ⟨(Nat.le_of_ble_eq_true rfl), (Nat.le_of_ble_eq_true rfl)⟩ (Nat.le_of_ble_eq_true rfl) (c_X5_partCode a1 (x4i - (Int32.ofInt 2)) a3 h68 hs e83) (fun r h' hq => ?_)
                    obtain ⟨rfl, hq⟩ := hq
                    replace hq := hq.symm
                    subst hq
                    have hs := s_X5_partCode a1 (x4i - (Int32.ofInt 2)) a3 h68 hs e83
                    obtain ⟨rfl, rfl⟩ := am_i2 j79
                    exact AW_pick [1, 2, 3, 4, 5, 0] rfl hJ79
                  · rw [if_pos c80] at j79
                    refine AW_go okX5_gather 4 ?_
                    obtain ⟨r84, h85, e86, j79⟩ := am_b2_ok j79
                    refine AW_callS (As := [.ref a1, .int (x4i - (Int32.ofInt 2))]) (R' := rX5_bookCode 0 0) (okX5_gather.1 72 _ _ rfl) lkX5_bookCode (Or.inl kX5_90) rfl (Nat.le_of_ble_eq_true rfl) ⟨by decide, by decide⟩ ⟨(Nat.le_of_ble_eq_true rfl), (Nat.le_of_ble_eq_true rfl)⟩ (Nat.le_of_ble_eq_true rfl) (c_X5_bookCode a1 (x4i - (Int32.ofInt 2)) h68 hs e86) (fun r h' hq => ?_)
                    obtain ⟨rfl, hq⟩ := hq
                    replace hq := hq.symm
                    subst hq
                    have hs := s_X5_bookCode a1 (x4i - (Int32.ofInt 2)) h68 hs e86
                    refine AW_go okX5_gather 1 ?_
                    obtain ⟨rfl, rfl⟩ := am_i2 j79
                    exact AW_pick [1, 2, 3, 4, 5, 0] rfl hJ79
                obtain ⟨r137, h138, e139, j71⟩ := am_b2_ok j71
                refine AW_callV (As := [.int y77]) (R' := rX5_addAct 0 0) (T := TX5) (N := 12) (ci := 5) (okX5_gather.1 87 _ _ rfl) lkX5_addAct kX5_98 rfl (sK hs 3) rfl (Nat.le_of_ble_eq_true rfl) ⟨by decide, by decide⟩ ⟨(Nat.le_of_ble_eq_true rfl), (Nat.le_of_ble_eq_true rfl)⟩ (Nat.le_of_ble_eq_true rfl) (c_X5_addAct n y77 h78 hs e139) (fun r h' hq => ?_)
                obtain ⟨rfl, hq⟩ := hq
                replace hq := hq.symm
                subst hq
                have hs := s_X5_addAct n y77 h78 hs e139
                refine AW_go okX5_gather 1 ?_
                obtain rfl := am_i1 j71
                exact AW_pick [0, 1, 2, 3, 4, 5] rfl hJ71
          intro j71
          refine AW_go okX5_gather 2 ?_
          obtain ⟨b140, k141, j71⟩ := am_let_ok j71
          refine am_cut (P := ((if (am_I h q62 (Int32.toNatClampNeg x4i)) = (Int32.ofInt 43) then am_b2 (f_X5_endRow h68) fun r209 h210 => (some h210) else (if (am_I h q62 (Int32.toNatClampNeg x4i)) = (Int32.ofInt 125) then (if (am_I h68 3 2) ≤ 0 then some h68 else bif am_isO h68 a1 4 then (Option.bind ((if (am_I h68 a1 1) ≤ (x4i + (Int32.ofInt 1)) then some (Int32.ofInt 0) else (am_A h68 a1 0).bind fun q150 => ((am_ln h68 0 q150).bind fun n152 => (bif am_vp (x4i + (Int32.ofInt 1)) n152 then ((if (am_I h68 q150 (Int32.toNatClampNeg (x4i + (Int32.ofInt 1)))) = (Int32.ofInt 42) then some (Int32.ofInt 1) else some (Int32.ofInt 0))) else none)))) fun y147 => (am_b2 (f_X5_closeBraces n y147 h68) fun r206 h207 => (some h207))) else none) else some h68))) = some h70 → AW mX5_gather (rX5_gather 0 0) (fun r h2 => r = none ∧ h2 = h') 126 [(5, .int (am_I h q62 (Int32.toNatClampNeg x4i))), (0, .ref 3), (1, .ref a1), (2, .int a2), (3, .int a3), (4, .int x4i)] [] h68 0 0) (fun B142 => ?_) ?_
          · skip
            refine AW_go okX5_gather 1 ?_
            refine And.intro (fun c143 => ?_) (fun c143 => ?_)
            · rw [if_neg c143] at j71
              exact B142 (k141.symm.trans j71)
            · rw [if_pos c143] at j71
              refine AW_go okX5_gather 4 ?_
              refine And.intro (sK hs 3) ?_
              refine And.intro (fun c144 => ?_) (fun c144 => ?_)
              · rw [if_pos c144] at j71
                exact B142 (k141.symm.trans j71)
              · rw [if_neg c144] at j71
                refine AW_go okX5_gather 7 ?_
                refine And.intro (sK hs 3) ?_
                refine And.intro (sK hs 3) ?_
                obtain ⟨r145, h146, e147, j71⟩ := am_b2_ok j71
                refine AW_callV (As := []) (R' := rX5_openBraces 0 0) (T := TX5) (N := 12) (ci := 5) (okX5_gather.1 120 _ _ rfl) lkX5_openBraces kX5_87 rfl (sK hs 3) rfl (Nat.le_of_ble_eq_true rfl) ⟨by decide, by decide⟩ ⟨(Nat.le_of_ble_eq_true rfl), (Nat.le_of_ble_eq_true rfl)⟩ (Nat.le_of_ble_eq_true rfl) (c_X5_openBraces (am_sI h68 3 2 ((am_I h68 3 2) + (Int32.ofInt 1))) hs e147) (fun r h' hq => ?_)
                obtain ⟨rfl, hq⟩ := hq
                replace hq := hq.symm
                subst hq
                have hs := s_X5_openBraces (am_sI h68 3 2 ((am_I h68 3 2) + (Int32.ofInt 1))) hs e147
                refine AW_go okX5_gather 1 ?_
                obtain rfl := am_i1 j71
                exact AW_pick [1, 2, 3, 4, 5, 0] rfl hJ71
          intro j71
          refine AW_go okX5_gather 3 ?_
          refine And.intro (fun c148 => ?_) (fun c148 => ?_)
          · rw [if_neg c148] at j71
            refine AW_go okX5_gather 3 ?_
            refine And.intro (fun c149 => ?_) (fun c149 => ?_)
            · rw [if_neg c149] at j71
              obtain rfl := am_i1 j71
              exact AW_pick [1, 2, 3, 4, 5, 0] rfl hJ71
            · rw [if_pos c149] at j71
              refine AW_go okX5_gather 3 ?_
              refine And.intro (sK hs 3) ?_
              refine And.intro (fun c150 => ?_) (fun c150 => ?_)
              · rw [if_pos c150] at j71
                obtain rfl := am_i1 j71
                exact AW_pick [1, 2, 3, 4, 5, 0] rfl hJ71
              · rw [if_neg c150] at j71
                obtain ⟨k151, j71⟩ := am_bis j71
                refine AW_go okX5_gather 6 ?_
                refine And.intro (am_isO_ok k151) ?_
                obtain ⟨y152, j153, j71⟩ := am_bnd j71
                refine am_cut (P := AW mX5_gather (rX5_gather 0 0) (fun r h2 => r = none ∧ h2 = h') 185 [(0, .ref 3), (1, .ref a1), (2, .int a2), (3, .int a3), (4, .int x4i), (5, .int (am_I h q62 (Int32.toNatClampNeg x4i)))] [.int y152, .ref 3] h68 0 0) (fun hJ153 => ?_) ?_
                · have hs := hs
                  refine AW_go okX5_gather 1 ?_
                  refine And.intro (fun c154 => ?_) (fun c154 => ?_)
                  · rw [if_pos c154] at j153
                    refine AW_go okX5_gather 1 ?_
                    obtain rfl := am_i1 j153
                    exact AW_pick [1, 2, 3, 4, 5, 0] rfl hJ153
                  · rw [if_neg c154] at j153
                    obtain ⟨q155, k156, j153⟩ := am_bnd j153
                    obtain ⟨n157, k158, j153⟩ := am_bnd j153
                    obtain ⟨b159, j153⟩ := am_bis j153
                    refine AW_go okX5_gather 8 ?_
                    refine And.intro (am_isO_ok k151) (Exists.intro (some q155) (And.intro k156 ?_))
                    refine Exists.intro n157 (And.intro (am_ln_ok k158) (And.intro (am_vp_ok b159) ?_))
                    refine And.intro (fun c160 => ?_) (fun c160 => ?_)
                    · rw [if_neg c160] at j153
                      refine AW_go okX5_gather 1 ?_
                      obtain rfl := am_i1 j153
                      exact AW_pick [1, 2, 3, 4, 5, 0] rfl hJ153
                    · rw [if_pos c160] at j153
                      refine AW_go okX5_gather 2 ?_
                      obtain rfl := am_i1 j153
                      exact AW_pick [1, 2, 3, 4, 5, 0] rfl hJ153
                obtain ⟨r211, h212, e213, j71⟩ := am_b2_ok j71
                refine AW_callV (As := [.int y152]) (R' := rX5_closeBraces 0 0) (T := TX5) (N := 12) (ci := 5) (okX5_gather.1 185 _ _ rfl) lkX5_closeBraces kX5_105 rfl (sK hs 3) rfl (Nat.le_of_ble_eq_true rfl) ⟨by decide, by decide⟩ ⟨(Nat.le_of_ble_eq_true rfl), (Nat.le_of_ble_eq_true rfl)⟩ (Nat.le_of_ble_eq_true rfl) (c_X5_closeBraces n y152 h68 hs e213) (fun r h' hq => ?_)
                obtain ⟨rfl, hq⟩ := hq
                replace hq := hq.symm
                subst hq
                have hs := s_X5_closeBraces n y152 h68 hs e213
                obtain rfl := am_i1 j71
                exact AW_pick [0, 1, 2, 3, 4, 5] rfl hJ71
          · rw [if_pos c148] at j71
            refine AW_go okX5_gather 1 ?_
            obtain ⟨r214, h215, e216, j71⟩ := am_b2_ok j71
            refine AW_callV (As := []) (R' := rX5_endRow 0 0) (T := TX5) (N := 12) (ci := 5) (okX5_gather.1 134 _ _ rfl) lkX5_endRow kX5_102 rfl (sK hs 3) rfl (Nat.le_of_ble_eq_true rfl) ⟨by decide, by decide⟩ ⟨(Nat.le_of_ble_eq_true rfl), (Nat.le_of_ble_eq_true rfl)⟩ (Nat.le_of_ble_eq_true rfl) (c_X5_endRow h68 hs e216) (fun r h' hq => ?_)
            obtain ⟨rfl, hq⟩ := hq
            replace hq := hq.symm
            subst hq
            have hs := s_X5_endRow h68 hs e216
            refine AW_go okX5_gather 1 ?_
            obtain rfl := am_i1 j71
            exact AW_pick [1, 2, 3, 4, 5, 0] rfl hJ71
        refine AW_go okX5_gather 2 ?_
        refine AW_pick (lv' := [(0, .ref 3), (1, .ref a1), (2, .int a2), (3, .int a3), (4, .int (x4i + Int32.ofInt 1))]) [1, 2, 3, 4, 0] rfl ?_
        exact ih a1 a2 a3 (x4i + Int32.ofInt 1) h70 _ _ hs hf
def f_X5_gather (n : Nat) (a1 : Nat) (a2 : Int32) (a3 : Int32) (h : am_H) : Option (Unit × am_H) := am_b2 (f_J7_fill_53178 n 5 (Int32.ofInt 0) (am_sI (am_sI (am_sI h 3 0 (Int32.ofInt 0)) 3 2 (Int32.ofInt 0)) 3 3 (Int32.ofInt 0))) fun r1 h2 => (am_b2 (f_X5_openBraces h2) fun r4 h5 => (g_X5_gather n 0 a1 a2 a3 (Int32.ofInt 0) h5))
set_option maxRecDepth 100000 in
theorem s_X5_gather (n : Nat) (a1 : Nat) (a2 : Int32) (a3 : Int32) (h : am_H) (hs : am_stat h) {v : Unit} {h' : am_H} (hf : f_X5_gather n a1 a2 a3 h = some (v, h')) : am_stat h' := by
  unfold f_X5_gather at hf
  obtain ⟨r1, h2, e3, hf⟩ := am_b2_ok hf
  have hs := s_J7_fill_53178 n 5 (Int32.ofInt 0) (am_sI (am_sI (am_sI h 3 0 (Int32.ofInt 0)) 3 2 (Int32.ofInt 0)) 3 3 (Int32.ofInt 0)) hs e3
  obtain ⟨r4, h5, e6, hf⟩ := am_b2_ok hf
  have hs := s_X5_openBraces h2 hs e6
  exact (m_X5_gather n) a1 a2 a3 (Int32.ofInt 0) h5 _ _ hs hf
set_option maxRecDepth 100000 in
theorem c_X5_gather (n : Nat) (a1 : Nat) (a2 : Int32) (a3 : Int32) (h : am_H) (hs : am_stat h) {v : Unit} {h' : am_H} (hf : f_X5_gather n a1 a2 a3 h = some (v, h')) : AMet mX5_gather (rX5_gather 0 0) (fun r h2 => r = none ∧ h2 = h') [.ref 3, .ref a1, .int a2, .int a3] h := by
  unfold f_X5_gather at hf
  refine AW_go okX5_gather 12 ?_
  refine And.intro (Or.inl rfl) (And.intro (sK hs 3) ?_)
  refine And.intro (sK hs 3) ?_
  refine And.intro (sK hs 3) ?_
  refine And.intro (sK hs 3) (Exists.intro _ (And.intro (sA hs 3 5) ?_))
  obtain ⟨r1, h2, e3, hf⟩ := am_b2_ok hf
  refine AW_callS (As := [.ref 5, .int (Int32.ofInt 0)]) (R' := rJ7_fill_53178 0 0) (okX5_gather.1 20 _ _ rfl) lkJ7_fill_53178 (Or.inl kX5_81) rfl (Nat.le_of_ble_eq_true rfl) ⟨by decide, by decide⟩ ⟨(Nat.le_of_ble_eq_true rfl), (Nat.le_of_ble_eq_true rfl)⟩ (Nat.le_of_ble_eq_true rfl) (c_J7_fill_53178 n 5 (Int32.ofInt 0) (am_sI (am_sI (am_sI h 3 0 (Int32.ofInt 0)) 3 2 (Int32.ofInt 0)) 3 3 (Int32.ofInt 0)) hs e3) (fun r h' hq => ?_)
  obtain ⟨rfl, hq⟩ := hq
  replace hq := hq.symm
  subst hq
  have hs := s_J7_fill_53178 n 5 (Int32.ofInt 0) (am_sI (am_sI (am_sI h 3 0 (Int32.ofInt 0)) 3 2 (Int32.ofInt 0)) 3 3 (Int32.ofInt 0)) hs e3
  refine AW_go okX5_gather 1 ?_
  obtain ⟨r4, h5, e6, hf⟩ := am_b2_ok hf
  refine AW_callV (As := []) (R' := rX5_openBraces 0 0) (T := TX5) (N := 12) (ci := 5) (okX5_gather.1 24 _ _ rfl) lkX5_openBraces kX5_87 rfl (sK hs 3) rfl (Nat.le_of_ble_eq_true rfl) ⟨by decide, by decide⟩ ⟨(Nat.le_of_ble_eq_true rfl), (Nat.le_of_ble_eq_true rfl)⟩ (Nat.le_of_ble_eq_true rfl) (c_X5_openBraces h2 hs e6) (fun r h' hq => ?_)
  obtain ⟨rfl, hq⟩ := hq
  replace hq := hq.symm
  subst hq
  have hs := s_X5_openBraces h2 hs e6
  refine AW_go okX5_gather 2 ?_
  refine AW_pick (lv' := [(0, .ref 3), (1, .ref a1), (2, .int a2), (3, .int a3), (4, .int (Int32.ofInt 0))]) [1, 2, 3, 4, 0] rfl ?_
  exact (l_X5_gather n) a1 a2 a3 (Int32.ofInt 0) h5 _ _ hs hf
def f_X8_fault (n : Nat) (a1 : Int32) (h : am_H) : Option (Int32 × am_H) := am_b2 ((if a1 = 0 then am_b2 (f_X5_faultIn n 1 a1 h) fun r5 h6 => (some (r5, h6)) else (if a1 = (Int32.ofInt 1) then am_b2 (f_X5_faultIn n 1 a1 h) fun r9 h10 => (some (r9, h10)) else some ((Int32.ofInt (-102)), h)))) fun y1 h2 => (some (y1, h2))
set_option maxRecDepth 100000 in
theorem s_X8_fault (n : Nat) (a1 : Int32) (h : am_H) (hs : am_stat h) {v : Int32} {h' : am_H} (hf : f_X8_fault n a1 h = some (v, h')) : am_stat h' := by
  unfold f_X8_fault at hf
  obtain ⟨y1, h2, j3, hf⟩ := am_b2_ok hf
  have hs0 := hs
  have hs : am_stat h2 := by
    have hs := hs0
    by_cases c4 : a1 = 0
    · rw [if_pos c4] at j3
      obtain ⟨r5, h6, e7, j3⟩ := am_b2_ok j3
      have hs := s_X5_faultIn n 1 a1 h hs e7
      obtain ⟨rfl, rfl⟩ := am_i2 j3
      exact hs
    · rw [if_neg c4] at j3
      by_cases c8 : a1 = (Int32.ofInt 1)
      · rw [if_pos c8] at j3
        obtain ⟨r9, h10, e11, j3⟩ := am_b2_ok j3
        have hs := s_X5_faultIn n 1 a1 h hs e11
        obtain ⟨rfl, rfl⟩ := am_i2 j3
        exact hs
      · rw [if_neg c8] at j3
        obtain ⟨rfl, rfl⟩ := am_i2 j3
        exact hs
  obtain ⟨rfl, rfl⟩ := am_i2 hf
  exact hs
set_option maxRecDepth 100000 in
theorem c_X8_fault (n : Nat) (a1 : Int32) (h : am_H) (hs : am_stat h) {v : Int32} {h' : am_H} (hf : f_X8_fault n a1 h = some (v, h')) : AMet mX8_fault (rX8_fault 0 0) (fun r h2 => r = some (.int v) ∧ h2 = h') [.ref 0, .int a1] h := by
  unfold f_X8_fault at hf
  refine AW_go okX8_fault 1 ?_
  obtain ⟨y1, h2, j3, hf⟩ := am_b2_ok hf
  have hs0 := hs
  have hs : am_stat h2 := by
    have hs := hs0
    by_cases c4 : a1 = 0
    · rw [if_pos c4] at j3
      obtain ⟨r5, h6, e7, j3⟩ := am_b2_ok j3
      have hs := s_X5_faultIn n 1 a1 h hs e7
      obtain ⟨rfl, rfl⟩ := am_i2 j3
      exact hs
    · rw [if_neg c4] at j3
      by_cases c8 : a1 = (Int32.ofInt 1)
      · rw [if_pos c8] at j3
        obtain ⟨r9, h10, e11, j3⟩ := am_b2_ok j3
        have hs := s_X5_faultIn n 1 a1 h hs e11
        obtain ⟨rfl, rfl⟩ := am_i2 j3
        exact hs
      · rw [if_neg c8] at j3
        obtain ⟨rfl, rfl⟩ := am_i2 j3
        exact hs
  refine am_cut (P := AW mX8_fault (rX8_fault 0 0) (fun r h2 => r = some (.int v) ∧ h2 = h') 26 [(0, .ref 0), (1, .int a1)] [.int y1] h2 0 0) (fun hJ3 => ?_) ?_
  · have hs := hs0
    refine AW_go okX8_fault 1 ?_
    refine And.intro (fun c4 => ?_) (fun c4 => ?_)
    · rw [if_pos c4] at j3
      refine AW_go okX8_fault 5 ?_
      refine And.intro (sK hs 0) (Exists.intro _ (And.intro (sA hs 0 1) ?_))
      refine And.intro (sK hs 0) (Exists.intro _ (And.intro (sA hs 0 0) ?_))
      obtain ⟨r5, h6, e7, j3⟩ := am_b2_ok j3
      refine AW_callV (As := [.ref 1, .int a1]) (R' := rX5_faultIn 0 0) (T := TX5) (N := 12) (ci := 5) (okX8_fault.1 18 _ _ rfl) lkX5_faultIn kX8_83 rfl (sK hs 3) rfl (Nat.le_of_ble_eq_true rfl) ⟨by decide, by decide⟩ ⟨(Nat.le_of_ble_eq_true rfl), (Nat.le_of_ble_eq_true rfl)⟩ (Nat.le_of_ble_eq_true rfl) (c_X5_faultIn n 1 a1 h hs e7) (fun r h' hq => ?_)
      obtain ⟨rfl, hq⟩ := hq
      replace hq := hq.symm
      subst hq
      have hs := s_X5_faultIn n 1 a1 h hs e7
      refine AW_go okX8_fault 1 ?_
      obtain ⟨rfl, rfl⟩ := am_i2 j3
      exact AW_pick [0, 1] rfl hJ3
    · rw [if_neg c4] at j3
      refine AW_go okX8_fault 3 ?_
      refine And.intro (fun c8 => ?_) (fun c8 => ?_)
      · rw [if_neg c8] at j3
        refine AW_go okX8_fault 1 ?_
        obtain ⟨rfl, rfl⟩ := am_i2 j3
        exact AW_pick [0, 1] rfl hJ3
      · rw [if_pos c8] at j3
        refine AW_go okX8_fault 5 ?_
        refine And.intro (sK hs 0) (Exists.intro _ (And.intro (sA hs 0 1) ?_))
        refine And.intro (sK hs 0) (Exists.intro _ (And.intro (sA hs 0 0) ?_))
        obtain ⟨r9, h10, e11, j3⟩ := am_b2_ok j3
        refine AW_callV (As := [.ref 1, .int a1]) (R' := rX5_faultIn 0 0) (T := TX5) (N := 12) (ci := 5) (okX8_fault.1 18 _ _ rfl) lkX5_faultIn kX8_83 rfl (sK hs 3) rfl (Nat.le_of_ble_eq_true rfl) ⟨by decide, by decide⟩ ⟨(Nat.le_of_ble_eq_true rfl), (Nat.le_of_ble_eq_true rfl)⟩ (Nat.le_of_ble_eq_true rfl) (c_X5_faultIn n 1 a1 h hs e11) (fun r h' hq => ?_)
        obtain ⟨rfl, hq⟩ := hq
        replace hq := hq.symm
        subst hq
        have hs := s_X5_faultIn n 1 a1 h hs e11
        refine AW_go okX8_fault 1 ?_
        obtain ⟨rfl, rfl⟩ := am_i2 j3
        exact AW_pick [0, 1] rfl hJ3
  refine AW_go okX8_fault 1 ?_
  obtain ⟨rfl, rfl⟩ := am_i2 hf
  exact And.intro ⟨(Nat.le_of_ble_eq_true rfl), (Nat.le_of_ble_eq_true rfl)⟩ (And.intro (Or.inl rfl) ⟨rfl, rfl⟩)
def f_X8_readWhole (n : Nat) (a1 : Int32) (h : am_H) : Option (Int32 × am_H) := am_b2 (f_X5_faultIn n 1 a1 h) fun r1 h2 => ((if r1 < (am_I h2 1 1) then some ((Int32.ofInt 0), h2) else am_b2 (f_X5_isWhole h2) fun r5 h6 => ((if r5 = 0 then some ((Int32.ofInt 0), h6) else am_b2 (f_X5_gather n 1 a1 (Int32.ofInt (-1)) h6) fun r9 h10 => (Option.bind ((if (am_I h10 3 0) = 0 then some (Int32.ofInt 1) else some (Int32.ofInt 0))) fun y12 => (bif am_b01 y12 then (some (y12, h10)) else none))))))
set_option maxRecDepth 100000 in
theorem s_X8_readWhole (n : Nat) (a1 : Int32) (h : am_H) (hs : am_stat h) {v : Int32} {h' : am_H} (hf : f_X8_readWhole n a1 h = some (v, h')) : am_stat h' := by
  unfold f_X8_readWhole at hf
  obtain ⟨r1, h2, e3, hf⟩ := am_b2_ok hf
  have hs := s_X5_faultIn n 1 a1 h hs e3
  by_cases c4 : r1 < (am_I h2 1 1)
  · rw [if_pos c4] at hf
    obtain ⟨rfl, rfl⟩ := am_i2 hf
    exact hs
  · rw [if_neg c4] at hf
    obtain ⟨r5, h6, e7, hf⟩ := am_b2_ok hf
    have hs := s_X5_isWhole h2 hs e7
    by_cases c8 : r5 = 0
    · rw [if_pos c8] at hf
      obtain ⟨rfl, rfl⟩ := am_i2 hf
      exact hs
    · rw [if_neg c8] at hf
      obtain ⟨r9, h10, e11, hf⟩ := am_b2_ok hf
      have hs := s_X5_gather n 1 a1 (Int32.ofInt (-1)) h6 hs e11
      obtain ⟨y12, j13, hf⟩ := am_bnd hf
      obtain ⟨b65, hf⟩ := am_bis hf
      obtain ⟨rfl, rfl⟩ := am_i2 hf
      exact hs
set_option maxRecDepth 100000 in
theorem c_X8_readWhole (n : Nat) (a1 : Int32) (h : am_H) (hs : am_stat h) {v : Int32} {h' : am_H} (hf : f_X8_readWhole n a1 h = some (v, h')) : AMet mX8_readWhole (rX8_readWhole 0 0) (fun r h2 => r = some (.int v) ∧ h2 = h') [.ref 0, .int a1] h := by
  unfold f_X8_readWhole at hf
  refine AW_go okX8_readWhole 5 ?_
  refine And.intro (sK hs 0) (Exists.intro _ (And.intro (sA hs 0 1) ?_))
  refine And.intro (sK hs 0) (Exists.intro _ (And.intro (sA hs 0 0) ?_))
  obtain ⟨r1, h2, e3, hf⟩ := am_b2_ok hf
  refine AW_callV (As := [.ref 1, .int a1]) (R' := rX5_faultIn 0 0) (T := TX5) (N := 12) (ci := 5) (okX8_readWhole.1 9 _ _ rfl) lkX5_faultIn kX8_83 rfl (sK hs 3) rfl (Nat.le_of_ble_eq_true rfl) ⟨by decide, by decide⟩ ⟨(Nat.le_of_ble_eq_true rfl), (Nat.le_of_ble_eq_true rfl)⟩ (Nat.le_of_ble_eq_true rfl) (c_X5_faultIn n 1 a1 h hs e3) (fun r h' hq => ?_)
  obtain ⟨rfl, hq⟩ := hq
  replace hq := hq.symm
  subst hq
  have hs := s_X5_faultIn n 1 a1 h hs e3
  refine AW_go okX8_readWhole 4 ?_
  refine And.intro (sK hs 0) (Exists.intro _ (And.intro (sA hs 0 0) ?_))
  refine And.intro (sK hs 1) ?_
  refine And.intro (fun c4 => ?_) (fun c4 => ?_)
  · rw [if_pos c4] at hf
    refine AW_go okX8_readWhole 2 ?_
    obtain ⟨rfl, rfl⟩ := am_i2 hf
    exact And.intro ⟨(Nat.le_of_ble_eq_true rfl), (Nat.le_of_ble_eq_true rfl)⟩ (And.intro (Or.inr ⟨rfl, Or.inl rfl⟩) ⟨rfl, rfl⟩)
  · rw [if_neg c4] at hf
    refine AW_go okX8_readWhole 2 ?_
    refine And.intro (sK hs 0) (Exists.intro _ (And.intro (sA hs 0 1) ?_))
    obtain ⟨r5, h6, e7, hf⟩ := am_b2_ok hf
    refine AW_callV (As := []) (R' := rX5_isWhole 0 0) (T := TX5) (N := 12) (ci := 5) (okX8_readWhole.1 26 _ _ rfl) lkX5_isWhole kX8_315 rfl (sK hs 3) rfl (Nat.le_of_ble_eq_true rfl) ⟨by decide, by decide⟩ ⟨(Nat.le_of_ble_eq_true rfl), (Nat.le_of_ble_eq_true rfl)⟩ (Nat.le_of_ble_eq_true rfl) (c_X5_isWhole h2 hs e7) (fun r h' hq => ?_)
    obtain ⟨rfl, hq⟩ := hq
    replace hq := hq.symm
    subst hq
    have hs := s_X5_isWhole h2 hs e7
    refine AW_go okX8_readWhole 1 ?_
    refine And.intro (fun c8 => ?_) (fun c8 => ?_)
    · rw [if_neg c8] at hf
      refine AW_go okX8_readWhole 6 ?_
      refine And.intro (sK hs 0) (Exists.intro _ (And.intro (sA hs 0 1) ?_))
      refine And.intro (sK hs 0) (Exists.intro _ (And.intro (sA hs 0 0) ?_))
      obtain ⟨r9, h10, e11, hf⟩ := am_b2_ok hf
      refine AW_callV (As := [.ref 1, .int a1, .int (Int32.ofInt (-1))]) (R' := rX5_gather 0 0) (T := TX5) (N := 12) (ci := 5) (okX8_readWhole.1 44 _ _ rfl) lkX5_gather kX8_112 rfl (sK hs 3) rfl (Nat.le_of_ble_eq_true rfl) ⟨by decide, by decide⟩ ⟨(Nat.le_of_ble_eq_true rfl), (Nat.le_of_ble_eq_true rfl)⟩ (Nat.le_of_ble_eq_true rfl) (c_X5_gather n 1 a1 (Int32.ofInt (-1)) h6 hs e11) (fun r h' hq => ?_)
      obtain ⟨rfl, hq⟩ := hq
      replace hq := hq.symm
      subst hq
      have hs := s_X5_gather n 1 a1 (Int32.ofInt (-1)) h6 hs e11
      refine AW_go okX8_readWhole 3 ?_
      refine And.intro (sK hs 0) (Exists.intro _ (And.intro (sA hs 0 1) ?_))
      refine And.intro (sK hs 3) ?_
      obtain ⟨y12, j13, hf⟩ := am_bnd hf
      refine am_cut (P := AW mX8_readWhole (rX8_readWhole 0 0) (fun r h2 => r = some (.int v) ∧ h2 = h') 62 [(0, .ref 0), (1, .int a1)] [.int y12] h10 0 0) (fun hJ13 => ?_) ?_
      · have hs := hs
        refine AW_go okX8_readWhole 1 ?_
        refine And.intro (fun c14 => ?_) (fun c14 => ?_)
        · rw [if_neg c14] at j13
          refine AW_go okX8_readWhole 1 ?_
          obtain rfl := am_i1 j13
          exact AW_pick [0, 1] rfl hJ13
        · rw [if_pos c14] at j13
          refine AW_go okX8_readWhole 2 ?_
          obtain rfl := am_i1 j13
          exact AW_pick [0, 1] rfl hJ13
      obtain ⟨b65, hf⟩ := am_bis hf
      refine AW_go okX8_readWhole 1 ?_
      obtain ⟨rfl, rfl⟩ := am_i2 hf
      exact And.intro ⟨(Nat.le_of_ble_eq_true rfl), (Nat.le_of_ble_eq_true rfl)⟩ (And.intro (Or.inr ⟨rfl, am_b01_ok b65⟩) ⟨rfl, rfl⟩)
    · rw [if_pos c8] at hf
      refine AW_go okX8_readWhole 2 ?_
      obtain ⟨rfl, rfl⟩ := am_i2 hf
      exact And.intro ⟨(Nat.le_of_ble_eq_true rfl), (Nat.le_of_ble_eq_true rfl)⟩ (And.intro (Or.inr ⟨rfl, Or.inl rfl⟩) ⟨rfl, rfl⟩)
