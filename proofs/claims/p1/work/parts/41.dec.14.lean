def g_X1_codeAt : Nat → Nat → Int32 → Int32 → Int32 → Int32 → am_H → Option (Int32 × am_H)
  | 0, _, _, _, _, _, _ => none
  | n + 1, _, a1, x2i, x3i, x4i, h => (if x2i ≤ x4i then (am_A h 19 10).bind fun q2 => ((am_ln h 0 q2).bind fun n4 => (bif am_vp x3i n4 then (am_b2 (f_X8_codeOf (am_I h q2 (Int32.toNatClampNeg x3i)) h) fun r7 h8 => (some (r7, h8))) else none)) else (am_A h 19 9).bind fun q10 => ((am_ln h 0 q10).bind fun n12 => (bif am_vp x3i n12 then (g_X1_codeAt n 0 a1 x2i (am_I h q10 (Int32.toNatClampNeg x3i)) (x4i + Int32.ofInt 1) h) else none)))
set_option maxRecDepth 100000 in
set_option maxHeartbeats 4000000 in
theorem m_X1_codeAt (n : Nat) : (∀ (a1 : Int32) (x2i : Int32) (x3i : Int32) (x4i : Int32) (h : am_H) (v : Int32) (h' : am_H), am_stat h → g_X1_codeAt n 0 a1 x2i x3i x4i h = some (v, h') → am_stat h') := by
  induction n with
  | zero => exact fun a1 x2i x3i x4i h v h' hs hf => (by cases hf)
  | succ n ih =>
    skip
    · intro a1 x2i x3i x4i h v h' hs hf
      have hf : ((if x2i ≤ x4i then (am_A h 19 10).bind fun q2 => ((am_ln h 0 q2).bind fun n4 => (bif am_vp x3i n4 then (am_b2 (f_X8_codeOf (am_I h q2 (Int32.toNatClampNeg x3i)) h) fun r7 h8 => (some (r7, h8))) else none)) else (am_A h 19 9).bind fun q10 => ((am_ln h 0 q10).bind fun n12 => (bif am_vp x3i n12 then (g_X1_codeAt n 0 a1 x2i (am_I h q10 (Int32.toNatClampNeg x3i)) (x4i + Int32.ofInt 1) h) else none)))) = some (v, h') := hf
      by_cases c1 : x2i ≤ x4i
      · rw [if_pos c1] at hf
        obtain ⟨q2, k3, hf⟩ := am_bnd hf
        obtain ⟨n4, k5, hf⟩ := am_bnd hf
        obtain ⟨b6, hf⟩ := am_bis hf
        obtain ⟨r7, h8, e9, hf⟩ := am_b2_ok hf
        have hs := s_X8_codeOf (am_I h q2 (Int32.toNatClampNeg x3i)) h hs e9
        obtain ⟨rfl, rfl⟩ := am_i2 hf
        exact hs
      · rw [if_neg c1] at hf
        obtain ⟨q10, k11, hf⟩ := am_bnd hf
        obtain ⟨n12, k13, hf⟩ := am_bnd hf
        obtain ⟨b14, hf⟩ := am_bis hf
        exact ih a1 x2i (am_I h q10 (Int32.toNatClampNeg x3i)) (x4i + Int32.ofInt 1) h _ _ hs hf
set_option maxRecDepth 100000 in
set_option maxHeartbeats 4000000 in
theorem l_X1_codeAt (n : Nat) : (∀ (a1 : Int32) (x2i : Int32) (x3i : Int32) (x4i : Int32) (h : am_H) (v : Int32) (h' : am_H), am_stat h → g_X1_codeAt n 0 a1 x2i x3i x4i h = some (v, h') → AW mX1_codeAt (rX1_codeAt 0 0) (fun r h2 => r = some (.int v) ∧ h2 = h') 23 [(0, .ref 19), (1, .int a1), (2, .int x2i), (3, .int x3i), (4, .int x4i)] [] h 0 0) := by
  induction n with
  | zero => exact fun a1 x2i x3i x4i h v h' hs hf => (by cases hf)
  | succ n ih =>
    skip
    · intro a1 x2i x3i x4i h v h' hs hf
      have hf : ((if x2i ≤ x4i then (am_A h 19 10).bind fun q2 => ((am_ln h 0 q2).bind fun n4 => (bif am_vp x3i n4 then (am_b2 (f_X8_codeOf (am_I h q2 (Int32.toNatClampNeg x3i)) h) fun r7 h8 => (some (r7, h8))) else none)) else (am_A h 19 9).bind fun q10 => ((am_ln h 0 q10).bind fun n12 => (bif am_vp x3i n12 then (g_X1_codeAt n 0 a1 x2i (am_I h q10 (Int32.toNatClampNeg x3i)) (x4i + Int32.ofInt 1) h) else none)))) = some (v, h') := hf
      refine AW_go okX1_codeAt 3 ?_
      refine And.intro (fun c1 => ?_) (fun c1 => ?_)
      · rw [if_pos c1] at hf
        obtain ⟨q2, k3, hf⟩ := am_bnd hf
        obtain ⟨n4, k5, hf⟩ := am_bnd hf
        obtain ⟨b6, hf⟩ := am_bis hf
        refine AW_go okX1_codeAt 4 ?_
        refine And.intro (sK hs 19) (Exists.intro (some q2) (And.intro k3 ?_))
        refine Exists.intro n4 (And.intro (am_ln_ok k5) (And.intro (am_vp_ok b6) ?_))
        obtain ⟨r7, h8, e9, hf⟩ := am_b2_ok hf
        refine AW_callS (As := [.int (am_I h q2 (Int32.toNatClampNeg x3i))]) (R' := rX8_codeOf 0 0) (okX1_codeAt.1 48 _ _ rfl) lkX8_codeOf (Or.inr ⟨_, kX1_68⟩) rfl (Nat.le_of_ble_eq_true rfl) ⟨by decide, by decide⟩ ⟨(Nat.le_of_ble_eq_true rfl), (Nat.le_of_ble_eq_true rfl)⟩ (Nat.le_of_ble_eq_true rfl) (c_X8_codeOf (am_I h q2 (Int32.toNatClampNeg x3i)) h hs e9) (fun r h' hq => ?_)
        obtain ⟨rfl, hq⟩ := hq
        replace hq := hq.symm
        subst hq
        have hs := s_X8_codeOf (am_I h q2 (Int32.toNatClampNeg x3i)) h hs e9
        refine AW_go okX1_codeAt 1 ?_
        obtain ⟨rfl, rfl⟩ := am_i2 hf
        exact And.intro ⟨(Nat.le_of_ble_eq_true rfl), (Nat.le_of_ble_eq_true rfl)⟩ (And.intro (Or.inl rfl) ⟨rfl, rfl⟩)
      · rw [if_neg c1] at hf
        obtain ⟨q10, k11, hf⟩ := am_bnd hf
        obtain ⟨n12, k13, hf⟩ := am_bnd hf
        obtain ⟨b14, hf⟩ := am_bis hf
        refine AW_go okX1_codeAt 7 ?_
        refine And.intro (sK hs 19) (Exists.intro (some q10) (And.intro k11 ?_))
        refine Exists.intro n12 (And.intro (am_ln_ok k13) (And.intro (am_vp_ok b14) ?_))
        refine AW_pick (lv' := [(0, .ref 19), (1, .int a1), (2, .int x2i), (3, .int (am_I h q10 (Int32.toNatClampNeg x3i))), (4, .int (x4i + Int32.ofInt 1))]) [2, 3, 4, 1, 0] rfl ?_
        exact ih a1 x2i (am_I h q10 (Int32.toNatClampNeg x3i)) (x4i + Int32.ofInt 1) h _ _ hs hf
def f_X1_codeAt (n : Nat) (a1 : Int32) (h : am_H) : Option (Int32 × am_H) := am_b2 (f_X1_length n h) fun r1 h2 => ((if 0 ≤ ((r1 - (Int32.ofInt 1)) - a1) then g_X1_codeAt n 0 a1 ((r1 - (Int32.ofInt 1)) - a1) (am_I h2 19 5) (Int32.ofInt 0) h2 else some ((Int32.ofInt (-1)), h2)))
set_option maxRecDepth 100000 in
theorem s_X1_codeAt (n : Nat) (a1 : Int32) (h : am_H) (hs : am_stat h) {v : Int32} {h' : am_H} (hf : f_X1_codeAt n a1 h = some (v, h')) : am_stat h' := by
  unfold f_X1_codeAt at hf
  obtain ⟨r1, h2, e3, hf⟩ := am_b2_ok hf
  have hs := s_X1_length n h hs e3
  by_cases c4 : 0 ≤ ((r1 - (Int32.ofInt 1)) - a1)
  · rw [if_pos c4] at hf
    exact (m_X1_codeAt n) a1 ((r1 - (Int32.ofInt 1)) - a1) (am_I h2 19 5) (Int32.ofInt 0) h2 _ _ hs hf
  · rw [if_neg c4] at hf
    obtain ⟨rfl, rfl⟩ := am_i2 hf
    exact hs
set_option maxRecDepth 100000 in
theorem c_X1_codeAt (n : Nat) (a1 : Int32) (h : am_H) (hs : am_stat h) {v : Int32} {h' : am_H} (hf : f_X1_codeAt n a1 h = some (v, h')) : AMet mX1_codeAt (rX1_codeAt 0 0) (fun r h2 => r = some (.int v) ∧ h2 = h') [.ref 19, .int a1] h := by
  unfold f_X1_codeAt at hf
  refine AW_go okX1_codeAt 1 ?_
  obtain ⟨r1, h2, e3, hf⟩ := am_b2_ok hf
  refine AW_callV (As := []) (R' := rX1_length 0 0) (T := TX1) (N := 11) (ci := 1) (okX1_codeAt.1 1 _ _ rfl) lkX1_length kX1_64 rfl (sK hs 19) rfl (Nat.le_of_ble_eq_true rfl) ⟨by decide, by decide⟩ ⟨(Nat.le_of_ble_eq_true rfl), (Nat.le_of_ble_eq_true rfl)⟩ (Nat.le_of_ble_eq_true rfl) (c_X1_length n h hs e3) (fun r h' hq => ?_)
  obtain ⟨rfl, hq⟩ := hq
  replace hq := hq.symm
  subst hq
  have hs := s_X1_length n h hs e3
  refine AW_go okX1_codeAt 7 ?_
  refine And.intro (fun c4 => ?_) (fun c4 => ?_)
  · rw [if_pos c4] at hf
    refine AW_go okX1_codeAt 5 ?_
    refine And.intro (sK hs 19) ?_
    refine AW_pick (lv' := [(0, .ref 19), (1, .int a1), (2, .int ((r1 - (Int32.ofInt 1)) - a1)), (3, .int (am_I h2 19 5)), (4, .int (Int32.ofInt 0))]) [3, 4, 2, 1, 0] rfl ?_
    exact (l_X1_codeAt n) a1 ((r1 - (Int32.ofInt 1)) - a1) (am_I h2 19 5) (Int32.ofInt 0) h2 _ _ hs hf
  · rw [if_neg c4] at hf
    refine AW_go okX1_codeAt 2 ?_
    obtain ⟨rfl, rfl⟩ := am_i2 hf
    exact And.intro ⟨(Nat.le_of_ble_eq_true rfl), (Nat.le_of_ble_eq_true rfl)⟩ (And.intro (Or.inl rfl) ⟨rfl, rfl⟩)
def f_X1_leftBehind (a1 : Int32) (a2 : Int32) (h : am_H) : Option (Int32 × am_H) := am_b2 ((if a1 = (am_I h 19 3) then some ((Int32.ofInt (-1)), h) else (am_A h 19 1).bind fun q5 => (bif am_isO h q5 3 then (am_b2 (f_X3_behind q5 a1 a2 h) fun r8 h9 => (some (r8, h9))) else none))) fun y1 h2 => (Option.bind ((if 0 ≤ y1 then some y1 else some (am_I h2 19 3))) fun y61 => (some (y61, h2)))
set_option maxRecDepth 100000 in
theorem s_X1_leftBehind (a1 : Int32) (a2 : Int32) (h : am_H) (hs : am_stat h) {v : Int32} {h' : am_H} (hf : f_X1_leftBehind a1 a2 h = some (v, h')) : am_stat h' := by
  unfold f_X1_leftBehind at hf
  obtain ⟨y1, h2, j3, hf⟩ := am_b2_ok hf
  have hs0 := hs
  have hs : am_stat h2 := by
    have hs := hs0
    by_cases c4 : a1 = (am_I h 19 3)
    · rw [if_pos c4] at j3
      obtain ⟨rfl, rfl⟩ := am_i2 j3
      exact hs
    · rw [if_neg c4] at j3
      obtain ⟨q5, k6, j3⟩ := am_bnd j3
      obtain ⟨k7, j3⟩ := am_bis j3
      obtain ⟨r8, h9, e10, j3⟩ := am_b2_ok j3
      have hs := s_X3_behind q5 a1 a2 h hs e10
      obtain ⟨rfl, rfl⟩ := am_i2 j3
      exact hs
  obtain ⟨y61, j62, hf⟩ := am_bnd hf
  obtain ⟨rfl, rfl⟩ := am_i2 hf
  exact hs
set_option maxRecDepth 100000 in
theorem c_X1_leftBehind (a1 : Int32) (a2 : Int32) (h : am_H) (hs : am_stat h) {v : Int32} {h' : am_H} (hf : f_X1_leftBehind a1 a2 h = some (v, h')) : AMet mX1_leftBehind (rX1_leftBehind 0 0) (fun r h2 => r = some (.int v) ∧ h2 = h') [.ref 19, .int a1, .int a2] h := by
  unfold f_X1_leftBehind at hf
  refine AW_go okX1_leftBehind 3 ?_
  refine And.intro (sK hs 19) ?_
  obtain ⟨y1, h2, j3, hf⟩ := am_b2_ok hf
  have hs0 := hs
  have hs : am_stat h2 := by
    have hs := hs0
    by_cases c4 : a1 = (am_I h 19 3)
    · rw [if_pos c4] at j3
      obtain ⟨rfl, rfl⟩ := am_i2 j3
      exact hs
    · rw [if_neg c4] at j3
      obtain ⟨q5, k6, j3⟩ := am_bnd j3
      obtain ⟨k7, j3⟩ := am_bis j3
      obtain ⟨r8, h9, e10, j3⟩ := am_b2_ok j3
      have hs := s_X3_behind q5 a1 a2 h hs e10
      obtain ⟨rfl, rfl⟩ := am_i2 j3
      exact hs
  refine am_cut (P := AW mX1_leftBehind (rX1_leftBehind 0 0) (fun r h2 => r = some (.int v) ∧ h2 = h') 21 [(0, .ref 19), (1, .int a1), (2, .int a2)] [.int y1] h2 0 0) (fun hJ3 => ?_) ?_
  · have hs := hs0
    refine AW_go okX1_leftBehind 1 ?_
    refine And.intro (fun c4 => ?_) (fun c4 => ?_)
    · rw [if_neg c4] at j3
      obtain ⟨q5, k6, j3⟩ := am_bnd j3
      obtain ⟨k7, j3⟩ := am_bis j3
      refine AW_go okX1_leftBehind 4 ?_
      refine And.intro (sK hs 19) (Exists.intro (some q5) (And.intro k6 ?_))
      obtain ⟨r8, h9, e10, j3⟩ := am_b2_ok j3
      refine AW_callV (As := [.int a1, .int a2]) (R' := rX3_behind 0 0) (T := TX3) (N := 3) (ci := 3) (okX1_leftBehind.1 18 _ _ rfl) lkX3_behind kX1_72 rfl (am_isO_ok k7) rfl (Nat.le_of_ble_eq_true rfl) ⟨by decide, by decide⟩ ⟨(Nat.le_of_ble_eq_true rfl), (Nat.le_of_ble_eq_true rfl)⟩ (Nat.le_of_ble_eq_true rfl) (c_X3_behind q5 a1 a2 h hs e10) (fun r h' hq => ?_)
      obtain ⟨rfl, hq⟩ := hq
      replace hq := hq.symm
      subst hq
      have hs := s_X3_behind q5 a1 a2 h hs e10
      obtain ⟨rfl, rfl⟩ := am_i2 j3
      exact AW_pick [0, 1, 2] rfl hJ3
    · rw [if_pos c4] at j3
      refine AW_go okX1_leftBehind 2 ?_
      obtain ⟨rfl, rfl⟩ := am_i2 j3
      exact AW_pick [0, 1, 2] rfl hJ3
  refine AW_go okX1_leftBehind 2 ?_
  obtain ⟨y61, j62, hf⟩ := am_bnd hf
  refine am_cut (P := AW mX1_leftBehind (rX1_leftBehind 0 0) (fun r h2 => r = some (.int v) ∧ h2 = h') 34 [(0, .ref 19), (1, .int a1), (2, .int a2), (3, .int y1)] [.int y61] h2 0 0) (fun hJ62 => ?_) ?_
  · have hs := hs
    refine AW_go okX1_leftBehind 1 ?_
    refine And.intro (fun c63 => ?_) (fun c63 => ?_)
    · rw [if_pos c63] at j62
      refine AW_go okX1_leftBehind 1 ?_
      obtain rfl := am_i1 j62
      exact AW_pick [1, 2, 3, 0] rfl hJ62
    · rw [if_neg c63] at j62
      refine AW_go okX1_leftBehind 3 ?_
      refine And.intro (sK hs 19) ?_
      obtain rfl := am_i1 j62
      exact AW_pick [1, 2, 3, 0] rfl hJ62
  refine AW_go okX1_leftBehind 1 ?_
  obtain ⟨rfl, rfl⟩ := am_i2 hf
  exact And.intro ⟨(Nat.le_of_ble_eq_true rfl), (Nat.le_of_ble_eq_true rfl)⟩ (And.intro (Or.inl rfl) ⟨rfl, rfl⟩)
def f_X1_rightBehind (a1 : Int32) (a2 : Int32) (h : am_H) : Option (Int32 × am_H) := am_b2 ((if a1 = (am_I h 19 3) then some ((Int32.ofInt (-1)), h) else (am_A h 19 2).bind fun q5 => ((am_A h 19 1).bind fun q7 => (bif am_isO h q7 3 then (bif am_isO h q5 3 then (am_b2 (f_X3_behind q5 (a1 - (am_I h q7 0)) a2 h) fun r11 h12 => (some (r11, h12))) else none) else none)))) fun y1 h2 => (Option.bind ((if 0 ≤ y1 then (am_A h2 19 1).bind fun q67 => (bif am_isO h2 q67 3 then (some ((am_I h2 q67 0) + y1)) else none) else some (am_I h2 19 3))) fun y64 => (some (y64, h2)))
set_option maxRecDepth 100000 in
theorem s_X1_rightBehind (a1 : Int32) (a2 : Int32) (h : am_H) (hs : am_stat h) {v : Int32} {h' : am_H} (hf : f_X1_rightBehind a1 a2 h = some (v, h')) : am_stat h' := by
  unfold f_X1_rightBehind at hf
  obtain ⟨y1, h2, j3, hf⟩ := am_b2_ok hf
  have hs0 := hs
  have hs : am_stat h2 := by
    have hs := hs0
    by_cases c4 : a1 = (am_I h 19 3)
    · rw [if_pos c4] at j3
      obtain ⟨rfl, rfl⟩ := am_i2 j3
      exact hs
    · rw [if_neg c4] at j3
      obtain ⟨q5, k6, j3⟩ := am_bnd j3
      obtain ⟨q7, k8, j3⟩ := am_bnd j3
      obtain ⟨k9, j3⟩ := am_bis j3
      obtain ⟨k10, j3⟩ := am_bis j3
      obtain ⟨r11, h12, e13, j3⟩ := am_b2_ok j3
      have hs := s_X3_behind q5 (a1 - (am_I h q7 0)) a2 h hs e13
      obtain ⟨rfl, rfl⟩ := am_i2 j3
      exact hs
  obtain ⟨y64, j65, hf⟩ := am_bnd hf
  obtain ⟨rfl, rfl⟩ := am_i2 hf
  exact hs
set_option maxRecDepth 100000 in
theorem c_X1_rightBehind (a1 : Int32) (a2 : Int32) (h : am_H) (hs : am_stat h) {v : Int32} {h' : am_H} (hf : f_X1_rightBehind a1 a2 h = some (v, h')) : AMet mX1_rightBehind (rX1_rightBehind 0 0) (fun r h2 => r = some (.int v) ∧ h2 = h') [.ref 19, .int a1, .int a2] h := by
  unfold f_X1_rightBehind at hf
  refine AW_go okX1_rightBehind 3 ?_
  refine And.intro (sK hs 19) ?_
  obtain ⟨y1, h2, j3, hf⟩ := am_b2_ok hf
  have hs0 := hs
  have hs : am_stat h2 := by
    have hs := hs0
    by_cases c4 : a1 = (am_I h 19 3)
    · rw [if_pos c4] at j3
      obtain ⟨rfl, rfl⟩ := am_i2 j3
      exact hs
    · rw [if_neg c4] at j3
      obtain ⟨q5, k6, j3⟩ := am_bnd j3
      obtain ⟨q7, k8, j3⟩ := am_bnd j3
      obtain ⟨k9, j3⟩ := am_bis j3
      obtain ⟨k10, j3⟩ := am_bis j3
      obtain ⟨r11, h12, e13, j3⟩ := am_b2_ok j3
      have hs := s_X3_behind q5 (a1 - (am_I h q7 0)) a2 h hs e13
      obtain ⟨rfl, rfl⟩ := am_i2 j3
      exact hs
  refine am_cut (P := AW mX1_rightBehind (rX1_rightBehind 0 0) (fun r h2 => r = some (.int v) ∧ h2 = h') 29 [(0, .ref 19), (1, .int a1), (2, .int a2)] [.int y1] h2 0 0) (fun hJ3 => ?_) ?_
  · have hs := hs0
    refine AW_go okX1_rightBehind 1 ?_
    refine And.intro (fun c4 => ?_) (fun c4 => ?_)
    · rw [if_neg c4] at j3
      obtain ⟨q5, k6, j3⟩ := am_bnd j3
      obtain ⟨q7, k8, j3⟩ := am_bnd j3
      obtain ⟨k9, j3⟩ := am_bis j3
      obtain ⟨k10, j3⟩ := am_bis j3
      refine AW_go okX1_rightBehind 8 ?_
      refine And.intro (sK hs 19) (Exists.intro (some q5) (And.intro k6 ?_))
      refine And.intro (sK hs 19) (Exists.intro (some q7) (And.intro k8 ?_))
      refine And.intro (am_isO_ok k9) ?_
      obtain ⟨r11, h12, e13, j3⟩ := am_b2_ok j3
      refine AW_callV (As := [.int (a1 - (am_I h q7 0)), .int a2]) (R' := rX3_behind 0 0) (T := TX3) (N := 3) (ci := 3) (okX1_rightBehind.1 26 _ _ rfl) lkX3_behind kX1_72 rfl (am_isO_ok k10) rfl (Nat.le_of_ble_eq_true rfl) ⟨by decide, by decide⟩ ⟨(Nat.le_of_ble_eq_true rfl), (Nat.le_of_ble_eq_true rfl)⟩ (Nat.le_of_ble_eq_true rfl) (c_X3_behind q5 (a1 - (am_I h q7 0)) a2 h hs e13) (fun r h' hq => ?_)
      obtain ⟨rfl, hq⟩ := hq
      replace hq := hq.symm
      subst hq
      have hs := s_X3_behind q5 (a1 - (am_I h q7 0)) a2 h hs e13
      obtain ⟨rfl, rfl⟩ := am_i2 j3
      exact AW_pick [0, 1, 2] rfl hJ3
    · rw [if_pos c4] at j3
      refine AW_go okX1_rightBehind 2 ?_
      obtain ⟨rfl, rfl⟩ := am_i2 j3
      exact AW_pick [0, 1, 2] rfl hJ3
  refine AW_go okX1_rightBehind 2 ?_
  obtain ⟨y64, j65, hf⟩ := am_bnd hf
  refine am_cut (P := AW mX1_rightBehind (rX1_rightBehind 0 0) (fun r h2 => r = some (.int v) ∧ h2 = h') 50 [(0, .ref 19), (1, .int a1), (2, .int a2), (3, .int y1)] [.int y64] h2 0 0) (fun hJ65 => ?_) ?_
  · have hs := hs
    refine AW_go okX1_rightBehind 1 ?_
    refine And.intro (fun c66 => ?_) (fun c66 => ?_)
    · rw [if_pos c66] at j65
      obtain ⟨q67, k68, j65⟩ := am_bnd j65
      obtain ⟨k69, j65⟩ := am_bis j65
      refine AW_go okX1_rightBehind 5 ?_
      refine And.intro (sK hs 19) (Exists.intro (some q67) (And.intro k68 ?_))
      refine And.intro (am_isO_ok k69) ?_
      obtain rfl := am_i1 j65
      exact AW_pick [1, 2, 3, 0] rfl hJ65
    · rw [if_neg c66] at j65
      refine AW_go okX1_rightBehind 3 ?_
      refine And.intro (sK hs 19) ?_
      obtain rfl := am_i1 j65
      exact AW_pick [1, 2, 3, 0] rfl hJ65
  refine AW_go okX1_rightBehind 1 ?_
  obtain ⟨rfl, rfl⟩ := am_i2 hf
  exact And.intro ⟨(Nat.le_of_ble_eq_true rfl), (Nat.le_of_ble_eq_true rfl)⟩ (And.intro (Or.inl rfl) ⟨rfl, rfl⟩)
def f_X1_meet (n : Nat) (a1 : Int32) (a2 : Int32) (a3 : Int32) (a4 : Int32) (h : am_H) : Option (Unit × am_H) := am_b2 (f_X1_chiefOf n a1 h) fun r1 h2 => (am_b2 (f_X1_chiefOf n a2 h2) fun r4 h5 => ((if r1 = r4 then some ((), h5) else (am_A h5 19 6).bind fun q8 => ((am_ln h5 0 q8).bind fun n10 => (bif am_vp r4 n10 then ((am_A (am_sI h5 q8 (Int32.toNatClampNeg r4) r1) 19 7).bind fun q13 => ((am_ln (am_sI h5 q8 (Int32.toNatClampNeg r4) r1) 0 q13).bind fun n15 => (bif am_vp (am_I (am_sI h5 q8 (Int32.toNatClampNeg r4) r1) 19 4) n15 then ((am_A (am_sI (am_sI h5 q8 (Int32.toNatClampNeg r4) r1) q13 (Int32.toNatClampNeg (am_I (am_sI h5 q8 (Int32.toNatClampNeg r4) r1) 19 4)) a1) 19 8).bind fun q18 => ((am_ln (am_sI (am_sI h5 q8 (Int32.toNatClampNeg r4) r1) q13 (Int32.toNatClampNeg (am_I (am_sI h5 q8 (Int32.toNatClampNeg r4) r1) 19 4)) a1) 0 q18).bind fun n20 => (bif am_vp (am_I (am_sI (am_sI h5 q8 (Int32.toNatClampNeg r4) r1) q13 (Int32.toNatClampNeg (am_I (am_sI h5 q8 (Int32.toNatClampNeg r4) r1) 19 4)) a1) 19 4) n20 then ((am_A (am_sI (am_sI (am_sI h5 q8 (Int32.toNatClampNeg r4) r1) q13 (Int32.toNatClampNeg (am_I (am_sI h5 q8 (Int32.toNatClampNeg r4) r1) 19 4)) a1) q18 (Int32.toNatClampNeg (am_I (am_sI (am_sI h5 q8 (Int32.toNatClampNeg r4) r1) q13 (Int32.toNatClampNeg (am_I (am_sI h5 q8 (Int32.toNatClampNeg r4) r1) 19 4)) a1) 19 4)) a2) 19 9).bind fun q23 => ((am_ln (am_sI (am_sI (am_sI h5 q8 (Int32.toNatClampNeg r4) r1) q13 (Int32.toNatClampNeg (am_I (am_sI h5 q8 (Int32.toNatClampNeg r4) r1) 19 4)) a1) q18 (Int32.toNatClampNeg (am_I (am_sI (am_sI h5 q8 (Int32.toNatClampNeg r4) r1) q13 (Int32.toNatClampNeg (am_I (am_sI h5 q8 (Int32.toNatClampNeg r4) r1) 19 4)) a1) 19 4)) a2) 0 q23).bind fun n25 => (bif am_vp (am_I (am_sI (am_sI (am_sI h5 q8 (Int32.toNatClampNeg r4) r1) q13 (Int32.toNatClampNeg (am_I (am_sI h5 q8 (Int32.toNatClampNeg r4) r1) 19 4)) a1) q18 (Int32.toNatClampNeg (am_I (am_sI (am_sI h5 q8 (Int32.toNatClampNeg r4) r1) q13 (Int32.toNatClampNeg (am_I (am_sI h5 q8 (Int32.toNatClampNeg r4) r1) 19 4)) a1) 19 4)) a2) 19 4) n25 then ((am_A (am_sI (am_sI (am_sI (am_sI h5 q8 (Int32.toNatClampNeg r4) r1) q13 (Int32.toNatClampNeg (am_I (am_sI h5 q8 (Int32.toNatClampNeg r4) r1) 19 4)) a1) q18 (Int32.toNatClampNeg (am_I (am_sI (am_sI h5 q8 (Int32.toNatClampNeg r4) r1) q13 (Int32.toNatClampNeg (am_I (am_sI h5 q8 (Int32.toNatClampNeg r4) r1) 19 4)) a1) 19 4)) a2) q23 (Int32.toNatClampNeg (am_I (am_sI (am_sI (am_sI h5 q8 (Int32.toNatClampNeg r4) r1) q13 (Int32.toNatClampNeg (am_I (am_sI h5 q8 (Int32.toNatClampNeg r4) r1) 19 4)) a1) q18 (Int32.toNatClampNeg (am_I (am_sI (am_sI h5 q8 (Int32.toNatClampNeg r4) r1) q13 (Int32.toNatClampNeg (am_I (am_sI h5 q8 (Int32.toNatClampNeg r4) r1) 19 4)) a1) 19 4)) a2) 19 4)) a3) 19 10).bind fun q28 => ((am_ln (am_sI (am_sI (am_sI (am_sI h5 q8 (Int32.toNatClampNeg r4) r1) q13 (Int32.toNatClampNeg (am_I (am_sI h5 q8 (Int32.toNatClampNeg r4) r1) 19 4)) a1) q18 (Int32.toNatClampNeg (am_I (am_sI (am_sI h5 q8 (Int32.toNatClampNeg r4) r1) q13 (Int32.toNatClampNeg (am_I (am_sI h5 q8 (Int32.toNatClampNeg r4) r1) 19 4)) a1) 19 4)) a2) q23 (Int32.toNatClampNeg (am_I (am_sI (am_sI (am_sI h5 q8 (Int32.toNatClampNeg r4) r1) q13 (Int32.toNatClampNeg (am_I (am_sI h5 q8 (Int32.toNatClampNeg r4) r1) 19 4)) a1) q18 (Int32.toNatClampNeg (am_I (am_sI (am_sI h5 q8 (Int32.toNatClampNeg r4) r1) q13 (Int32.toNatClampNeg (am_I (am_sI h5 q8 (Int32.toNatClampNeg r4) r1) 19 4)) a1) 19 4)) a2) 19 4)) a3) 0 q28).bind fun n30 => (bif am_vp (am_I (am_sI (am_sI (am_sI (am_sI h5 q8 (Int32.toNatClampNeg r4) r1) q13 (Int32.toNatClampNeg (am_I (am_sI h5 q8 (Int32.toNatClampNeg r4) r1) 19 4)) a1) q18 (Int32.toNatClampNeg (am_I (am_sI (am_sI h5 q8 (Int32.toNatClampNeg r4) r1) q13 (Int32.toNatClampNeg (am_I (am_sI h5 q8 (Int32.toNatClampNeg r4) r1) 19 4)) a1) 19 4)) a2) q23 (Int32.toNatClampNeg (am_I (am_sI (am_sI (am_sI h5 q8 (Int32.toNatClampNeg r4) r1) q13 (Int32.toNatClampNeg (am_I (am_sI h5 q8 (Int32.toNatClampNeg r4) r1) 19 4)) a1) q18 (Int32.toNatClampNeg (am_I (am_sI (am_sI h5 q8 (Int32.toNatClampNeg r4) r1) q13 (Int32.toNatClampNeg (am_I (am_sI h5 q8 (Int32.toNatClampNeg r4) r1) 19 4)) a1) 19 4)) a2) 19 4)) a3) 19 4) n30 then (Option.bind ((if a1 = (am_I (am_sI (am_sI (am_sI (am_sI (am_sI h5 q8 (Int32.toNatClampNeg r4) r1) q13 (Int32.toNatClampNeg (am_I (am_sI h5 q8 (Int32.toNatClampNeg r4) r1) 19 4)) a1) q18 (Int32.toNatClampNeg (am_I (am_sI (am_sI h5 q8 (Int32.toNatClampNeg r4) r1) q13 (Int32.toNatClampNeg (am_I (am_sI h5 q8 (Int32.toNatClampNeg r4) r1) 19 4)) a1) 19 4)) a2) q23 (Int32.toNatClampNeg (am_I (am_sI (am_sI (am_sI h5 q8 (Int32.toNatClampNeg r4) r1) q13 (Int32.toNatClampNeg (am_I (am_sI h5 q8 (Int32.toNatClampNeg r4) r1) 19 4)) a1) q18 (Int32.toNatClampNeg (am_I (am_sI (am_sI h5 q8 (Int32.toNatClampNeg r4) r1) q13 (Int32.toNatClampNeg (am_I (am_sI h5 q8 (Int32.toNatClampNeg r4) r1) 19 4)) a1) 19 4)) a2) 19 4)) a3) q28 (Int32.toNatClampNeg (am_I (am_sI (am_sI (am_sI (am_sI h5 q8 (Int32.toNatClampNeg r4) r1) q13 (Int32.toNatClampNeg (am_I (am_sI h5 q8 (Int32.toNatClampNeg r4) r1) 19 4)) a1) q18 (Int32.toNatClampNeg (am_I (am_sI (am_sI h5 q8 (Int32.toNatClampNeg r4) r1) q13 (Int32.toNatClampNeg (am_I (am_sI h5 q8 (Int32.toNatClampNeg r4) r1) 19 4)) a1) 19 4)) a2) q23 (Int32.toNatClampNeg (am_I (am_sI (am_sI (am_sI h5 q8 (Int32.toNatClampNeg r4) r1) q13 (Int32.toNatClampNeg (am_I (am_sI h5 q8 (Int32.toNatClampNeg r4) r1) 19 4)) a1) q18 (Int32.toNatClampNeg (am_I (am_sI (am_sI h5 q8 (Int32.toNatClampNeg r4) r1) q13 (Int32.toNatClampNeg (am_I (am_sI h5 q8 (Int32.toNatClampNeg r4) r1) 19 4)) a1) 19 4)) a2) 19 4)) a3) 19 4)) a4) 19 3) then some (Int32.ofInt 0) else (am_A (am_sI (am_sI (am_sI (am_sI (am_sI h5 q8 (Int32.toNatClampNeg r4) r1) q13 (Int32.toNatClampNeg (am_I (am_sI h5 q8 (Int32.toNatClampNeg r4) r1) 19 4)) a1) q18 (Int32.toNatClampNeg (am_I (am_sI (am_sI h5 q8 (Int32.toNatClampNeg r4) r1) q13 (Int32.toNatClampNeg (am_I (am_sI h5 q8 (Int32.toNatClampNeg r4) r1) 19 4)) a1) 19 4)) a2) q23 (Int32.toNatClampNeg (am_I (am_sI (am_sI (am_sI h5 q8 (Int32.toNatClampNeg r4) r1) q13 (Int32.toNatClampNeg (am_I (am_sI h5 q8 (Int32.toNatClampNeg r4) r1) 19 4)) a1) q18 (Int32.toNatClampNeg (am_I (am_sI (am_sI h5 q8 (Int32.toNatClampNeg r4) r1) q13 (Int32.toNatClampNeg (am_I (am_sI h5 q8 (Int32.toNatClampNeg r4) r1) 19 4)) a1) 19 4)) a2) 19 4)) a3) q28 (Int32.toNatClampNeg (am_I (am_sI (am_sI (am_sI (am_sI h5 q8 (Int32.toNatClampNeg r4) r1) q13 (Int32.toNatClampNeg (am_I (am_sI h5 q8 (Int32.toNatClampNeg r4) r1) 19 4)) a1) q18 (Int32.toNatClampNeg (am_I (am_sI (am_sI h5 q8 (Int32.toNatClampNeg r4) r1) q13 (Int32.toNatClampNeg (am_I (am_sI h5 q8 (Int32.toNatClampNeg r4) r1) 19 4)) a1) 19 4)) a2) q23 (Int32.toNatClampNeg (am_I (am_sI (am_sI (am_sI h5 q8 (Int32.toNatClampNeg r4) r1) q13 (Int32.toNatClampNeg (am_I (am_sI h5 q8 (Int32.toNatClampNeg r4) r1) 19 4)) a1) q18 (Int32.toNatClampNeg (am_I (am_sI (am_sI h5 q8 (Int32.toNatClampNeg r4) r1) q13 (Int32.toNatClampNeg (am_I (am_sI h5 q8 (Int32.toNatClampNeg r4) r1) 19 4)) a1) 19 4)) a2) 19 4)) a3) 19 4)) a4) 19 1).bind fun q36 => (bif am_isO (am_sI (am_sI (am_sI (am_sI (am_sI h5 q8 (Int32.toNatClampNeg r4) r1) q13 (Int32.toNatClampNeg (am_I (am_sI h5 q8 (Int32.toNatClampNeg r4) r1) 19 4)) a1) q18 (Int32.toNatClampNeg (am_I (am_sI (am_sI h5 q8 (Int32.toNatClampNeg r4) r1) q13 (Int32.toNatClampNeg (am_I (am_sI h5 q8 (Int32.toNatClampNeg r4) r1) 19 4)) a1) 19 4)) a2) q23 (Int32.toNatClampNeg (am_I (am_sI (am_sI (am_sI h5 q8 (Int32.toNatClampNeg r4) r1) q13 (Int32.toNatClampNeg (am_I (am_sI h5 q8 (Int32.toNatClampNeg r4) r1) 19 4)) a1) q18 (Int32.toNatClampNeg (am_I (am_sI (am_sI h5 q8 (Int32.toNatClampNeg r4) r1) q13 (Int32.toNatClampNeg (am_I (am_sI h5 q8 (Int32.toNatClampNeg r4) r1) 19 4)) a1) 19 4)) a2) 19 4)) a3) q28 (Int32.toNatClampNeg (am_I (am_sI (am_sI (am_sI (am_sI h5 q8 (Int32.toNatClampNeg r4) r1) q13 (Int32.toNatClampNeg (am_I (am_sI h5 q8 (Int32.toNatClampNeg r4) r1) 19 4)) a1) q18 (Int32.toNatClampNeg (am_I (am_sI (am_sI h5 q8 (Int32.toNatClampNeg r4) r1) q13 (Int32.toNatClampNeg (am_I (am_sI h5 q8 (Int32.toNatClampNeg r4) r1) 19 4)) a1) 19 4)) a2) q23 (Int32.toNatClampNeg (am_I (am_sI (am_sI (am_sI h5 q8 (Int32.toNatClampNeg r4) r1) q13 (Int32.toNatClampNeg (am_I (am_sI h5 q8 (Int32.toNatClampNeg r4) r1) 19 4)) a1) q18 (Int32.toNatClampNeg (am_I (am_sI (am_sI h5 q8 (Int32.toNatClampNeg r4) r1) q13 (Int32.toNatClampNeg (am_I (am_sI h5 q8 (Int32.toNatClampNeg r4) r1) 19 4)) a1) 19 4)) a2) 19 4)) a3) 19 4)) a4) q36 3 then ((am_A (am_sI (am_sI (am_sI (am_sI (am_sI h5 q8 (Int32.toNatClampNeg r4) r1) q13 (Int32.toNatClampNeg (am_I (am_sI h5 q8 (Int32.toNatClampNeg r4) r1) 19 4)) a1) q18 (Int32.toNatClampNeg (am_I (am_sI (am_sI h5 q8 (Int32.toNatClampNeg r4) r1) q13 (Int32.toNatClampNeg (am_I (am_sI h5 q8 (Int32.toNatClampNeg r4) r1) 19 4)) a1) 19 4)) a2) q23 (Int32.toNatClampNeg (am_I (am_sI (am_sI (am_sI h5 q8 (Int32.toNatClampNeg r4) r1) q13 (Int32.toNatClampNeg (am_I (am_sI h5 q8 (Int32.toNatClampNeg r4) r1) 19 4)) a1) q18 (Int32.toNatClampNeg (am_I (am_sI (am_sI h5 q8 (Int32.toNatClampNeg r4) r1) q13 (Int32.toNatClampNeg (am_I (am_sI h5 q8 (Int32.toNatClampNeg r4) r1) 19 4)) a1) 19 4)) a2) 19 4)) a3) q28 (Int32.toNatClampNeg (am_I (am_sI (am_sI (am_sI (am_sI h5 q8 (Int32.toNatClampNeg r4) r1) q13 (Int32.toNatClampNeg (am_I (am_sI h5 q8 (Int32.toNatClampNeg r4) r1) 19 4)) a1) q18 (Int32.toNatClampNeg (am_I (am_sI (am_sI h5 q8 (Int32.toNatClampNeg r4) r1) q13 (Int32.toNatClampNeg (am_I (am_sI h5 q8 (Int32.toNatClampNeg r4) r1) 19 4)) a1) 19 4)) a2) q23 (Int32.toNatClampNeg (am_I (am_sI (am_sI (am_sI h5 q8 (Int32.toNatClampNeg r4) r1) q13 (Int32.toNatClampNeg (am_I (am_sI h5 q8 (Int32.toNatClampNeg r4) r1) 19 4)) a1) q18 (Int32.toNatClampNeg (am_I (am_sI (am_sI h5 q8 (Int32.toNatClampNeg r4) r1) q13 (Int32.toNatClampNeg (am_I (am_sI h5 q8 (Int32.toNatClampNeg r4) r1) 19 4)) a1) 19 4)) a2) 19 4)) a3) 19 4)) a4) q36 1).bind fun q39 => ((am_ln (am_sI (am_sI (am_sI (am_sI (am_sI h5 q8 (Int32.toNatClampNeg r4) r1) q13 (Int32.toNatClampNeg (am_I (am_sI h5 q8 (Int32.toNatClampNeg r4) r1) 19 4)) a1) q18 (Int32.toNatClampNeg (am_I (am_sI (am_sI h5 q8 (Int32.toNatClampNeg r4) r1) q13 (Int32.toNatClampNeg (am_I (am_sI h5 q8 (Int32.toNatClampNeg r4) r1) 19 4)) a1) 19 4)) a2) q23 (Int32.toNatClampNeg (am_I (am_sI (am_sI (am_sI h5 q8 (Int32.toNatClampNeg r4) r1) q13 (Int32.toNatClampNeg (am_I (am_sI h5 q8 (Int32.toNatClampNeg r4) r1) 19 4)) a1) q18 (Int32.toNatClampNeg (am_I (am_sI (am_sI h5 q8 (Int32.toNatClampNeg r4) r1) q13 (Int32.toNatClampNeg (am_I (am_sI h5 q8 (Int32.toNatClampNeg r4) r1) 19 4)) a1) 19 4)) a2) 19 4)) a3) q28 (Int32.toNatClampNeg (am_I (am_sI (am_sI (am_sI (am_sI h5 q8 (Int32.toNatClampNeg r4) r1) q13 (Int32.toNatClampNeg (am_I (am_sI h5 q8 (Int32.toNatClampNeg r4) r1) 19 4)) a1) q18 (Int32.toNatClampNeg (am_I (am_sI (am_sI h5 q8 (Int32.toNatClampNeg r4) r1) q13 (Int32.toNatClampNeg (am_I (am_sI h5 q8 (Int32.toNatClampNeg r4) r1) 19 4)) a1) 19 4)) a2) q23 (Int32.toNatClampNeg (am_I (am_sI (am_sI (am_sI h5 q8 (Int32.toNatClampNeg r4) r1) q13 (Int32.toNatClampNeg (am_I (am_sI h5 q8 (Int32.toNatClampNeg r4) r1) 19 4)) a1) q18 (Int32.toNatClampNeg (am_I (am_sI (am_sI h5 q8 (Int32.toNatClampNeg r4) r1) q13 (Int32.toNatClampNeg (am_I (am_sI h5 q8 (Int32.toNatClampNeg r4) r1) 19 4)) a1) 19 4)) a2) 19 4)) a3) 19 4)) a4) 2 q39).bind fun n41 => (bif am_vp a1 n41 then ((if (am_I (am_sI (am_sI (am_sI (am_sI (am_sI h5 q8 (Int32.toNatClampNeg r4) r1) q13 (Int32.toNatClampNeg (am_I (am_sI h5 q8 (Int32.toNatClampNeg r4) r1) 19 4)) a1) q18 (Int32.toNatClampNeg (am_I (am_sI (am_sI h5 q8 (Int32.toNatClampNeg r4) r1) q13 (Int32.toNatClampNeg (am_I (am_sI h5 q8 (Int32.toNatClampNeg r4) r1) 19 4)) a1) 19 4)) a2) q23 (Int32.toNatClampNeg (am_I (am_sI (am_sI (am_sI h5 q8 (Int32.toNatClampNeg r4) r1) q13 (Int32.toNatClampNeg (am_I (am_sI h5 q8 (Int32.toNatClampNeg r4) r1) 19 4)) a1) q18 (Int32.toNatClampNeg (am_I (am_sI (am_sI h5 q8 (Int32.toNatClampNeg r4) r1) q13 (Int32.toNatClampNeg (am_I (am_sI h5 q8 (Int32.toNatClampNeg r4) r1) 19 4)) a1) 19 4)) a2) 19 4)) a3) q28 (Int32.toNatClampNeg (am_I (am_sI (am_sI (am_sI (am_sI h5 q8 (Int32.toNatClampNeg r4) r1) q13 (Int32.toNatClampNeg (am_I (am_sI h5 q8 (Int32.toNatClampNeg r4) r1) 19 4)) a1) q18 (Int32.toNatClampNeg (am_I (am_sI (am_sI h5 q8 (Int32.toNatClampNeg r4) r1) q13 (Int32.toNatClampNeg (am_I (am_sI h5 q8 (Int32.toNatClampNeg r4) r1) 19 4)) a1) 19 4)) a2) q23 (Int32.toNatClampNeg (am_I (am_sI (am_sI (am_sI h5 q8 (Int32.toNatClampNeg r4) r1) q13 (Int32.toNatClampNeg (am_I (am_sI h5 q8 (Int32.toNatClampNeg r4) r1) 19 4)) a1) q18 (Int32.toNatClampNeg (am_I (am_sI (am_sI h5 q8 (Int32.toNatClampNeg r4) r1) q13 (Int32.toNatClampNeg (am_I (am_sI h5 q8 (Int32.toNatClampNeg r4) r1) 19 4)) a1) 19 4)) a2) 19 4)) a3) 19 4)) a4) q39 (Int32.toNatClampNeg a1)) = 0 then some (Int32.ofInt 0) else some (Int32.ofInt 1))) else none))) else none))) fun y33 => (Option.bind ((if a2 = (am_I (am_sI (am_sI (am_sI (am_sI (am_sI h5 q8 (Int32.toNatClampNeg r4) r1) q13 (Int32.toNatClampNeg (am_I (am_sI h5 q8 (Int32.toNatClampNeg r4) r1) 19 4)) a1) q18 (Int32.toNatClampNeg (am_I (am_sI (am_sI h5 q8 (Int32.toNatClampNeg r4) r1) q13 (Int32.toNatClampNeg (am_I (am_sI h5 q8 (Int32.toNatClampNeg r4) r1) 19 4)) a1) 19 4)) a2) q23 (Int32.toNatClampNeg (am_I (am_sI (am_sI (am_sI h5 q8 (Int32.toNatClampNeg r4) r1) q13 (Int32.toNatClampNeg (am_I (am_sI h5 q8 (Int32.toNatClampNeg r4) r1) 19 4)) a1) q18 (Int32.toNatClampNeg (am_I (am_sI (am_sI h5 q8 (Int32.toNatClampNeg r4) r1) q13 (Int32.toNatClampNeg (am_I (am_sI h5 q8 (Int32.toNatClampNeg r4) r1) 19 4)) a1) 19 4)) a2) 19 4)) a3) q28 (Int32.toNatClampNeg (am_I (am_sI (am_sI (am_sI (am_sI h5 q8 (Int32.toNatClampNeg r4) r1) q13 (Int32.toNatClampNeg (am_I (am_sI h5 q8 (Int32.toNatClampNeg r4) r1) 19 4)) a1) q18 (Int32.toNatClampNeg (am_I (am_sI (am_sI h5 q8 (Int32.toNatClampNeg r4) r1) q13 (Int32.toNatClampNeg (am_I (am_sI h5 q8 (Int32.toNatClampNeg r4) r1) 19 4)) a1) 19 4)) a2) q23 (Int32.toNatClampNeg (am_I (am_sI (am_sI (am_sI h5 q8 (Int32.toNatClampNeg r4) r1) q13 (Int32.toNatClampNeg (am_I (am_sI h5 q8 (Int32.toNatClampNeg r4) r1) 19 4)) a1) q18 (Int32.toNatClampNeg (am_I (am_sI (am_sI h5 q8 (Int32.toNatClampNeg r4) r1) q13 (Int32.toNatClampNeg (am_I (am_sI h5 q8 (Int32.toNatClampNeg r4) r1) 19 4)) a1) 19 4)) a2) 19 4)) a3) 19 4)) a4) 19 3) then some (Int32.ofInt 0) else (am_A (am_sI (am_sI (am_sI (am_sI (am_sI h5 q8 (Int32.toNatClampNeg r4) r1) q13 (Int32.toNatClampNeg (am_I (am_sI h5 q8 (Int32.toNatClampNeg r4) r1) 19 4)) a1) q18 (Int32.toNatClampNeg (am_I (am_sI (am_sI h5 q8 (Int32.toNatClampNeg r4) r1) q13 (Int32.toNatClampNeg (am_I (am_sI h5 q8 (Int32.toNatClampNeg r4) r1) 19 4)) a1) 19 4)) a2) q23 (Int32.toNatClampNeg (am_I (am_sI (am_sI (am_sI h5 q8 (Int32.toNatClampNeg r4) r1) q13 (Int32.toNatClampNeg (am_I (am_sI h5 q8 (Int32.toNatClampNeg r4) r1) 19 4)) a1) q18 (Int32.toNatClampNeg (am_I (am_sI (am_sI h5 q8 (Int32.toNatClampNeg r4) r1) q13 (Int32.toNatClampNeg (am_I (am_sI h5 q8 (Int32.toNatClampNeg r4) r1) 19 4)) a1) 19 4)) a2) 19 4)) a3) q28 (Int32.toNatClampNeg (am_I (am_sI (am_sI (am_sI (am_sI h5 q8 (Int32.toNatClampNeg r4) r1) q13 (Int32.toNatClampNeg (am_I (am_sI h5 q8 (Int32.toNatClampNeg r4) r1) 19 4)) a1) q18 (Int32.toNatClampNeg (am_I (am_sI (am_sI h5 q8 (Int32.toNatClampNeg r4) r1) q13 (Int32.toNatClampNeg (am_I (am_sI h5 q8 (Int32.toNatClampNeg r4) r1) 19 4)) a1) 19 4)) a2) q23 (Int32.toNatClampNeg (am_I (am_sI (am_sI (am_sI h5 q8 (Int32.toNatClampNeg r4) r1) q13 (Int32.toNatClampNeg (am_I (am_sI h5 q8 (Int32.toNatClampNeg r4) r1) 19 4)) a1) q18 (Int32.toNatClampNeg (am_I (am_sI (am_sI h5 q8 (Int32.toNatClampNeg r4) r1) q13 (Int32.toNatClampNeg (am_I (am_sI h5 q8 (Int32.toNatClampNeg r4) r1) 19 4)) a1) 19 4)) a2) 19 4)) a3) 19 4)) a4) 19 2).bind fun q98 => (bif am_isO (am_sI (am_sI (am_sI (am_sI (am_sI h5 q8 (Int32.toNatClampNeg r4) r1) q13 (Int32.toNatClampNeg (am_I (am_sI h5 q8 (Int32.toNatClampNeg r4) r1) 19 4)) a1) q18 (Int32.toNatClampNeg (am_I (am_sI (am_sI h5 q8 (Int32.toNatClampNeg r4) r1) q13 (Int32.toNatClampNeg (am_I (am_sI h5 q8 (Int32.toNatClampNeg r4) r1) 19 4)) a1) 19 4)) a2) q23 (Int32.toNatClampNeg (am_I (am_sI (am_sI (am_sI h5 q8 (Int32.toNatClampNeg r4) r1) q13 (Int32.toNatClampNeg (am_I (am_sI h5 q8 (Int32.toNatClampNeg r4) r1) 19 4)) a1) q18 (Int32.toNatClampNeg (am_I (am_sI (am_sI h5 q8 (Int32.toNatClampNeg r4) r1) q13 (Int32.toNatClampNeg (am_I (am_sI h5 q8 (Int32.toNatClampNeg r4) r1) 19 4)) a1) 19 4)) a2) 19 4)) a3) q28 (Int32.toNatClampNeg (am_I (am_sI (am_sI (am_sI (am_sI h5 q8 (Int32.toNatClampNeg r4) r1) q13 (Int32.toNatClampNeg (am_I (am_sI h5 q8 (Int32.toNatClampNeg r4) r1) 19 4)) a1) q18 (Int32.toNatClampNeg (am_I (am_sI (am_sI h5 q8 (Int32.toNatClampNeg r4) r1) q13 (Int32.toNatClampNeg (am_I (am_sI h5 q8 (Int32.toNatClampNeg r4) r1) 19 4)) a1) 19 4)) a2) q23 (Int32.toNatClampNeg (am_I (am_sI (am_sI (am_sI h5 q8 (Int32.toNatClampNeg r4) r1) q13 (Int32.toNatClampNeg (am_I (am_sI h5 q8 (Int32.toNatClampNeg r4) r1) 19 4)) a1) q18 (Int32.toNatClampNeg (am_I (am_sI (am_sI h5 q8 (Int32.toNatClampNeg r4) r1) q13 (Int32.toNatClampNeg (am_I (am_sI h5 q8 (Int32.toNatClampNeg r4) r1) 19 4)) a1) 19 4)) a2) 19 4)) a3) 19 4)) a4) q98 3 then ((am_A (am_sI (am_sI (am_sI (am_sI (am_sI h5 q8 (Int32.toNatClampNeg r4) r1) q13 (Int32.toNatClampNeg (am_I (am_sI h5 q8 (Int32.toNatClampNeg r4) r1) 19 4)) a1) q18 (Int32.toNatClampNeg (am_I (am_sI (am_sI h5 q8 (Int32.toNatClampNeg r4) r1) q13 (Int32.toNatClampNeg (am_I (am_sI h5 q8 (Int32.toNatClampNeg r4) r1) 19 4)) a1) 19 4)) a2) q23 (Int32.toNatClampNeg (am_I (am_sI (am_sI (am_sI h5 q8 (Int32.toNatClampNeg r4) r1) q13 (Int32.toNatClampNeg (am_I (am_sI h5 q8 (Int32.toNatClampNeg r4) r1) 19 4)) a1) q18 (Int32.toNatClampNeg (am_I (am_sI (am_sI h5 q8 (Int32.toNatClampNeg r4) r1) q13 (Int32.toNatClampNeg (am_I (am_sI h5 q8 (Int32.toNatClampNeg r4) r1) 19 4)) a1) 19 4)) a2) 19 4)) a3) q28 (Int32.toNatClampNeg (am_I (am_sI (am_sI (am_sI (am_sI h5 q8 (Int32.toNatClampNeg r4) r1) q13 (Int32.toNatClampNeg (am_I (am_sI h5 q8 (Int32.toNatClampNeg r4) r1) 19 4)) a1) q18 (Int32.toNatClampNeg (am_I (am_sI (am_sI h5 q8 (Int32.toNatClampNeg r4) r1) q13 (Int32.toNatClampNeg (am_I (am_sI h5 q8 (Int32.toNatClampNeg r4) r1) 19 4)) a1) 19 4)) a2) q23 (Int32.toNatClampNeg (am_I (am_sI (am_sI (am_sI h5 q8 (Int32.toNatClampNeg r4) r1) q13 (Int32.toNatClampNeg (am_I (am_sI h5 q8 (Int32.toNatClampNeg r4) r1) 19 4)) a1) q18 (Int32.toNatClampNeg (am_I (am_sI (am_sI h5 q8 (Int32.toNatClampNeg r4) r1) q13 (Int32.toNatClampNeg (am_I (am_sI h5 q8 (Int32.toNatClampNeg r4) r1) 19 4)) a1) 19 4)) a2) 19 4)) a3) 19 4)) a4) q98 1).bind fun q101 => ((am_A (am_sI (am_sI (am_sI (am_sI (am_sI h5 q8 (Int32.toNatClampNeg r4) r1) q13 (Int32.toNatClampNeg (am_I (am_sI h5 q8 (Int32.toNatClampNeg r4) r1) 19 4)) a1) q18 (Int32.toNatClampNeg (am_I (am_sI (am_sI h5 q8 (Int32.toNatClampNeg r4) r1) q13 (Int32.toNatClampNeg (am_I (am_sI h5 q8 (Int32.toNatClampNeg r4) r1) 19 4)) a1) 19 4)) a2) q23 (Int32.toNatClampNeg (am_I (am_sI (am_sI (am_sI h5 q8 (Int32.toNatClampNeg r4) r1) q13 (Int32.toNatClampNeg (am_I (am_sI h5 q8 (Int32.toNatClampNeg r4) r1) 19 4)) a1) q18 (Int32.toNatClampNeg (am_I (am_sI (am_sI h5 q8 (Int32.toNatClampNeg r4) r1) q13 (Int32.toNatClampNeg (am_I (am_sI h5 q8 (Int32.toNatClampNeg r4) r1) 19 4)) a1) 19 4)) a2) 19 4)) a3) q28 (Int32.toNatClampNeg (am_I (am_sI (am_sI (am_sI (am_sI h5 q8 (Int32.toNatClampNeg r4) r1) q13 (Int32.toNatClampNeg (am_I (am_sI h5 q8 (Int32.toNatClampNeg r4) r1) 19 4)) a1) q18 (Int32.toNatClampNeg (am_I (am_sI (am_sI h5 q8 (Int32.toNatClampNeg r4) r1) q13 (Int32.toNatClampNeg (am_I (am_sI h5 q8 (Int32.toNatClampNeg r4) r1) 19 4)) a1) 19 4)) a2) q23 (Int32.toNatClampNeg (am_I (am_sI (am_sI (am_sI h5 q8 (Int32.toNatClampNeg r4) r1) q13 (Int32.toNatClampNeg (am_I (am_sI h5 q8 (Int32.toNatClampNeg r4) r1) 19 4)) a1) q18 (Int32.toNatClampNeg (am_I (am_sI (am_sI h5 q8 (Int32.toNatClampNeg r4) r1) q13 (Int32.toNatClampNeg (am_I (am_sI h5 q8 (Int32.toNatClampNeg r4) r1) 19 4)) a1) 19 4)) a2) 19 4)) a3) 19 4)) a4) 19 1).bind fun q103 => (bif am_isO (am_sI (am_sI (am_sI (am_sI (am_sI h5 q8 (Int32.toNatClampNeg r4) r1) q13 (Int32.toNatClampNeg (am_I (am_sI h5 q8 (Int32.toNatClampNeg r4) r1) 19 4)) a1) q18 (Int32.toNatClampNeg (am_I (am_sI (am_sI h5 q8 (Int32.toNatClampNeg r4) r1) q13 (Int32.toNatClampNeg (am_I (am_sI h5 q8 (Int32.toNatClampNeg r4) r1) 19 4)) a1) 19 4)) a2) q23 (Int32.toNatClampNeg (am_I (am_sI (am_sI (am_sI h5 q8 (Int32.toNatClampNeg r4) r1) q13 (Int32.toNatClampNeg (am_I (am_sI h5 q8 (Int32.toNatClampNeg r4) r1) 19 4)) a1) q18 (Int32.toNatClampNeg (am_I (am_sI (am_sI h5 q8 (Int32.toNatClampNeg r4) r1) q13 (Int32.toNatClampNeg (am_I (am_sI h5 q8 (Int32.toNatClampNeg r4) r1) 19 4)) a1) 19 4)) a2) 19 4)) a3) q28 (Int32.toNatClampNeg (am_I (am_sI (am_sI (am_sI (am_sI h5 q8 (Int32.toNatClampNeg r4) r1) q13 (Int32.toNatClampNeg (am_I (am_sI h5 q8 (Int32.toNatClampNeg r4) r1) 19 4)) a1) q18 (Int32.toNatClampNeg (am_I (am_sI (am_sI h5 q8 (Int32.toNatClampNeg r4) r1) q13 (Int32.toNatClampNeg (am_I (am_sI h5 q8 (Int32.toNatClampNeg r4) r1) 19 4)) a1) 19 4)) a2) q23 (Int32.toNatClampNeg (am_I (am_sI (am_sI (am_sI h5 q8 (Int32.toNatClampNeg r4) r1) q13 (Int32.toNatClampNeg (am_I (am_sI h5 q8 (Int32.toNatClampNeg r4) r1) 19 4)) a1) q18 (Int32.toNatClampNeg (am_I (am_sI (am_sI h5 q8 (Int32.toNatClampNeg r4) r1) q13 (Int32.toNatClampNeg (am_I (am_sI h5 q8 (Int32.toNatClampNeg r4) r1) 19 4)) a1) 19 4)) a2) 19 4)) a3) 19 4)) a4) q103 3 then ((am_ln (am_sI (am_sI (am_sI (am_sI (am_sI h5 q8 (Int32.toNatClampNeg r4) r1) q13 (Int32.toNatClampNeg (am_I (am_sI h5 q8 (Int32.toNatClampNeg r4) r1) 19 4)) a1) q18 (Int32.toNatClampNeg (am_I (am_sI (am_sI h5 q8 (Int32.toNatClampNeg r4) r1) q13 (Int32.toNatClampNeg (am_I (am_sI h5 q8 (Int32.toNatClampNeg r4) r1) 19 4)) a1) 19 4)) a2) q23 (Int32.toNatClampNeg (am_I (am_sI (am_sI (am_sI h5 q8 (Int32.toNatClampNeg r4) r1) q13 (Int32.toNatClampNeg (am_I (am_sI h5 q8 (Int32.toNatClampNeg r4) r1) 19 4)) a1) q18 (Int32.toNatClampNeg (am_I (am_sI (am_sI h5 q8 (Int32.toNatClampNeg r4) r1) q13 (Int32.toNatClampNeg (am_I (am_sI h5 q8 (Int32.toNatClampNeg r4) r1) 19 4)) a1) 19 4)) a2) 19 4)) a3) q28 (Int32.toNatClampNeg (am_I (am_sI (am_sI (am_sI (am_sI h5 q8 (Int32.toNatClampNeg r4) r1) q13 (Int32.toNatClampNeg (am_I (am_sI h5 q8 (Int32.toNatClampNeg r4) r1) 19 4)) a1) q18 (Int32.toNatClampNeg (am_I (am_sI (am_sI h5 q8 (Int32.toNatClampNeg r4) r1) q13 (Int32.toNatClampNeg (am_I (am_sI h5 q8 (Int32.toNatClampNeg r4) r1) 19 4)) a1) 19 4)) a2) q23 (Int32.toNatClampNeg (am_I (am_sI (am_sI (am_sI h5 q8 (Int32.toNatClampNeg r4) r1) q13 (Int32.toNatClampNeg (am_I (am_sI h5 q8 (Int32.toNatClampNeg r4) r1) 19 4)) a1) q18 (Int32.toNatClampNeg (am_I (am_sI (am_sI h5 q8 (Int32.toNatClampNeg r4) r1) q13 (Int32.toNatClampNeg (am_I (am_sI h5 q8 (Int32.toNatClampNeg r4) r1) 19 4)) a1) 19 4)) a2) 19 4)) a3) 19 4)) a4) 2 q101).bind fun n106 => (bif am_vp (a2 - (am_I (am_sI (am_sI (am_sI (am_sI (am_sI h5 q8 (Int32.toNatClampNeg r4) r1) q13 (Int32.toNatClampNeg (am_I (am_sI h5 q8 (Int32.toNatClampNeg r4) r1) 19 4)) a1) q18 (Int32.toNatClampNeg (am_I (am_sI (am_sI h5 q8 (Int32.toNatClampNeg r4) r1) q13 (Int32.toNatClampNeg (am_I (am_sI h5 q8 (Int32.toNatClampNeg r4) r1) 19 4)) a1) 19 4)) a2) q23 (Int32.toNatClampNeg (am_I (am_sI (am_sI (am_sI h5 q8 (Int32.toNatClampNeg r4) r1) q13 (Int32.toNatClampNeg (am_I (am_sI h5 q8 (Int32.toNatClampNeg r4) r1) 19 4)) a1) q18 (Int32.toNatClampNeg (am_I (am_sI (am_sI h5 q8 (Int32.toNatClampNeg r4) r1) q13 (Int32.toNatClampNeg (am_I (am_sI h5 q8 (Int32.toNatClampNeg r4) r1) 19 4)) a1) 19 4)) a2) 19 4)) a3) q28 (Int32.toNatClampNeg (am_I (am_sI (am_sI (am_sI (am_sI h5 q8 (Int32.toNatClampNeg r4) r1) q13 (Int32.toNatClampNeg (am_I (am_sI h5 q8 (Int32.toNatClampNeg r4) r1) 19 4)) a1) q18 (Int32.toNatClampNeg (am_I (am_sI (am_sI h5 q8 (Int32.toNatClampNeg r4) r1) q13 (Int32.toNatClampNeg (am_I (am_sI h5 q8 (Int32.toNatClampNeg r4) r1) 19 4)) a1) 19 4)) a2) q23 (Int32.toNatClampNeg (am_I (am_sI (am_sI (am_sI h5 q8 (Int32.toNatClampNeg r4) r1) q13 (Int32.toNatClampNeg (am_I (am_sI h5 q8 (Int32.toNatClampNeg r4) r1) 19 4)) a1) q18 (Int32.toNatClampNeg (am_I (am_sI (am_sI h5 q8 (Int32.toNatClampNeg r4) r1) q13 (Int32.toNatClampNeg (am_I (am_sI h5 q8 (Int32.toNatClampNeg r4) r1) 19 4)) a1) 19 4)) a2) 19 4)) a3) 19 4)) a4) q103 0)) n106 then ((if (am_I (am_sI (am_sI (am_sI (am_sI (am_sI h5 q8 (Int32.toNatClampNeg r4) r1) q13 (Int32.toNatClampNeg (am_I (am_sI h5 q8 (Int32.toNatClampNeg r4) r1) 19 4)) a1) q18 (Int32.toNatClampNeg (am_I (am_sI (am_sI h5 q8 (Int32.toNatClampNeg r4) r1) q13 (Int32.toNatClampNeg (am_I (am_sI h5 q8 (Int32.toNatClampNeg r4) r1) 19 4)) a1) 19 4)) a2) q23 (Int32.toNatClampNeg (am_I (am_sI (am_sI (am_sI h5 q8 (Int32.toNatClampNeg r4) r1) q13 (Int32.toNatClampNeg (am_I (am_sI h5 q8 (Int32.toNatClampNeg r4) r1) 19 4)) a1) q18 (Int32.toNatClampNeg (am_I (am_sI (am_sI h5 q8 (Int32.toNatClampNeg r4) r1) q13 (Int32.toNatClampNeg (am_I (am_sI h5 q8 (Int32.toNatClampNeg r4) r1) 19 4)) a1) 19 4)) a2) 19 4)) a3) q28 (Int32.toNatClampNeg (am_I (am_sI (am_sI (am_sI (am_sI h5 q8 (Int32.toNatClampNeg r4) r1) q13 (Int32.toNatClampNeg (am_I (am_sI h5 q8 (Int32.toNatClampNeg r4) r1) 19 4)) a1) q18 (Int32.toNatClampNeg (am_I (am_sI (am_sI h5 q8 (Int32.toNatClampNeg r4) r1) q13 (Int32.toNatClampNeg (am_I (am_sI h5 q8 (Int32.toNatClampNeg r4) r1) 19 4)) a1) 19 4)) a2) q23 (Int32.toNatClampNeg (am_I (am_sI (am_sI (am_sI h5 q8 (Int32.toNatClampNeg r4) r1) q13 (Int32.toNatClampNeg (am_I (am_sI h5 q8 (Int32.toNatClampNeg r4) r1) 19 4)) a1) q18 (Int32.toNatClampNeg (am_I (am_sI (am_sI h5 q8 (Int32.toNatClampNeg r4) r1) q13 (Int32.toNatClampNeg (am_I (am_sI h5 q8 (Int32.toNatClampNeg r4) r1) 19 4)) a1) 19 4)) a2) 19 4)) a3) 19 4)) a4) q101 (Int32.toNatClampNeg (a2 - (am_I (am_sI (am_sI (am_sI (am_sI (am_sI h5 q8 (Int32.toNatClampNeg r4) r1) q13 (Int32.toNatClampNeg (am_I (am_sI h5 q8 (Int32.toNatClampNeg r4) r1) 19 4)) a1) q18 (Int32.toNatClampNeg (am_I (am_sI (am_sI h5 q8 (Int32.toNatClampNeg r4) r1) q13 (Int32.toNatClampNeg (am_I (am_sI h5 q8 (Int32.toNatClampNeg r4) r1) 19 4)) a1) 19 4)) a2) q23 (Int32.toNatClampNeg (am_I (am_sI (am_sI (am_sI h5 q8 (Int32.toNatClampNeg r4) r1) q13 (Int32.toNatClampNeg (am_I (am_sI h5 q8 (Int32.toNatClampNeg r4) r1) 19 4)) a1) q18 (Int32.toNatClampNeg (am_I (am_sI (am_sI h5 q8 (Int32.toNatClampNeg r4) r1) q13 (Int32.toNatClampNeg (am_I (am_sI h5 q8 (Int32.toNatClampNeg r4) r1) 19 4)) a1) 19 4)) a2) 19 4)) a3) q28 (Int32.toNatClampNeg (am_I (am_sI (am_sI (am_sI (am_sI h5 q8 (Int32.toNatClampNeg r4) r1) q13 (Int32.toNatClampNeg (am_I (am_sI h5 q8 (Int32.toNatClampNeg r4) r1) 19 4)) a1) q18 (Int32.toNatClampNeg (am_I (am_sI (am_sI h5 q8 (Int32.toNatClampNeg r4) r1) q13 (Int32.toNatClampNeg (am_I (am_sI h5 q8 (Int32.toNatClampNeg r4) r1) 19 4)) a1) 19 4)) a2) q23 (Int32.toNatClampNeg (am_I (am_sI (am_sI (am_sI h5 q8 (Int32.toNatClampNeg r4) r1) q13 (Int32.toNatClampNeg (am_I (am_sI h5 q8 (Int32.toNatClampNeg r4) r1) 19 4)) a1) q18 (Int32.toNatClampNeg (am_I (am_sI (am_sI h5 q8 (Int32.toNatClampNeg r4) r1) q13 (Int32.toNatClampNeg (am_I (am_sI h5 q8 (Int32.toNatClampNeg r4) r1) 19 4)) a1) 19 4)) a2) 19 4)) a3) 19 4)) a4) q103 0)))) = 0 then some (Int32.ofInt 0) else some (Int32.ofInt 1))) else none)) else none))) else none))) fun y95 => (Option.bind ((if y33 = y95 then some (am_sI (am_sI (am_sI (am_sI (am_sI h5 q8 (Int32.toNatClampNeg r4) r1) q13 (Int32.toNatClampNeg (am_I (am_sI h5 q8 (Int32.toNatClampNeg r4) r1) 19 4)) a1) q18 (Int32.toNatClampNeg (am_I (am_sI (am_sI h5 q8 (Int32.toNatClampNeg r4) r1) q13 (Int32.toNatClampNeg (am_I (am_sI h5 q8 (Int32.toNatClampNeg r4) r1) 19 4)) a1) 19 4)) a2) q23 (Int32.toNatClampNeg (am_I (am_sI (am_sI (am_sI h5 q8 (Int32.toNatClampNeg r4) r1) q13 (Int32.toNatClampNeg (am_I (am_sI h5 q8 (Int32.toNatClampNeg r4) r1) 19 4)) a1) q18 (Int32.toNatClampNeg (am_I (am_sI (am_sI h5 q8 (Int32.toNatClampNeg r4) r1) q13 (Int32.toNatClampNeg (am_I (am_sI h5 q8 (Int32.toNatClampNeg r4) r1) 19 4)) a1) 19 4)) a2) 19 4)) a3) q28 (Int32.toNatClampNeg (am_I (am_sI (am_sI (am_sI (am_sI h5 q8 (Int32.toNatClampNeg r4) r1) q13 (Int32.toNatClampNeg (am_I (am_sI h5 q8 (Int32.toNatClampNeg r4) r1) 19 4)) a1) q18 (Int32.toNatClampNeg (am_I (am_sI (am_sI h5 q8 (Int32.toNatClampNeg r4) r1) q13 (Int32.toNatClampNeg (am_I (am_sI h5 q8 (Int32.toNatClampNeg r4) r1) 19 4)) a1) 19 4)) a2) q23 (Int32.toNatClampNeg (am_I (am_sI (am_sI (am_sI h5 q8 (Int32.toNatClampNeg r4) r1) q13 (Int32.toNatClampNeg (am_I (am_sI h5 q8 (Int32.toNatClampNeg r4) r1) 19 4)) a1) q18 (Int32.toNatClampNeg (am_I (am_sI (am_sI h5 q8 (Int32.toNatClampNeg r4) r1) q13 (Int32.toNatClampNeg (am_I (am_sI h5 q8 (Int32.toNatClampNeg r4) r1) 19 4)) a1) 19 4)) a2) 19 4)) a3) 19 4)) a4) else bif am_b01 y33 then (some (am_sI (am_sI (am_sI (am_sI (am_sI (am_sI (am_sI h5 q8 (Int32.toNatClampNeg r4) r1) q13 (Int32.toNatClampNeg (am_I (am_sI h5 q8 (Int32.toNatClampNeg r4) r1) 19 4)) a1) q18 (Int32.toNatClampNeg (am_I (am_sI (am_sI h5 q8 (Int32.toNatClampNeg r4) r1) q13 (Int32.toNatClampNeg (am_I (am_sI h5 q8 (Int32.toNatClampNeg r4) r1) 19 4)) a1) 19 4)) a2) q23 (Int32.toNatClampNeg (am_I (am_sI (am_sI (am_sI h5 q8 (Int32.toNatClampNeg r4) r1) q13 (Int32.toNatClampNeg (am_I (am_sI h5 q8 (Int32.toNatClampNeg r4) r1) 19 4)) a1) q18 (Int32.toNatClampNeg (am_I (am_sI (am_sI h5 q8 (Int32.toNatClampNeg r4) r1) q13 (Int32.toNatClampNeg (am_I (am_sI h5 q8 (Int32.toNatClampNeg r4) r1) 19 4)) a1) 19 4)) a2) 19 4)) a3) q28 (Int32.toNatClampNeg (am_I (am_sI (am_sI (am_sI (am_sI h5 q8 (Int32.toNatClampNeg r4) r1) q13 (Int32.toNatClampNeg (am_I (am_sI h5 q8 (Int32.toNatClampNeg r4) r1) 19 4)) a1) q18 (Int32.toNatClampNeg (am_I (am_sI (am_sI h5 q8 (Int32.toNatClampNeg r4) r1) q13 (Int32.toNatClampNeg (am_I (am_sI h5 q8 (Int32.toNatClampNeg r4) r1) 19 4)) a1) 19 4)) a2) q23 (Int32.toNatClampNeg (am_I (am_sI (am_sI (am_sI h5 q8 (Int32.toNatClampNeg r4) r1) q13 (Int32.toNatClampNeg (am_I (am_sI h5 q8 (Int32.toNatClampNeg r4) r1) 19 4)) a1) q18 (Int32.toNatClampNeg (am_I (am_sI (am_sI h5 q8 (Int32.toNatClampNeg r4) r1) q13 (Int32.toNatClampNeg (am_I (am_sI h5 q8 (Int32.toNatClampNeg r4) r1) 19 4)) a1) 19 4)) a2) 19 4)) a3) 19 4)) a4) 19 5 (am_I (am_sI (am_sI (am_sI (am_sI (am_sI h5 q8 (Int32.toNatClampNeg r4) r1) q13 (Int32.toNatClampNeg (am_I (am_sI h5 q8 (Int32.toNatClampNeg r4) r1) 19 4)) a1) q18 (Int32.toNatClampNeg (am_I (am_sI (am_sI h5 q8 (Int32.toNatClampNeg r4) r1) q13 (Int32.toNatClampNeg (am_I (am_sI h5 q8 (Int32.toNatClampNeg r4) r1) 19 4)) a1) 19 4)) a2) q23 (Int32.toNatClampNeg (am_I (am_sI (am_sI (am_sI h5 q8 (Int32.toNatClampNeg r4) r1) q13 (Int32.toNatClampNeg (am_I (am_sI h5 q8 (Int32.toNatClampNeg r4) r1) 19 4)) a1) q18 (Int32.toNatClampNeg (am_I (am_sI (am_sI h5 q8 (Int32.toNatClampNeg r4) r1) q13 (Int32.toNatClampNeg (am_I (am_sI h5 q8 (Int32.toNatClampNeg r4) r1) 19 4)) a1) 19 4)) a2) 19 4)) a3) q28 (Int32.toNatClampNeg (am_I (am_sI (am_sI (am_sI (am_sI h5 q8 (Int32.toNatClampNeg r4) r1) q13 (Int32.toNatClampNeg (am_I (am_sI h5 q8 (Int32.toNatClampNeg r4) r1) 19 4)) a1) q18 (Int32.toNatClampNeg (am_I (am_sI (am_sI h5 q8 (Int32.toNatClampNeg r4) r1) q13 (Int32.toNatClampNeg (am_I (am_sI h5 q8 (Int32.toNatClampNeg r4) r1) 19 4)) a1) 19 4)) a2) q23 (Int32.toNatClampNeg (am_I (am_sI (am_sI (am_sI h5 q8 (Int32.toNatClampNeg r4) r1) q13 (Int32.toNatClampNeg (am_I (am_sI h5 q8 (Int32.toNatClampNeg r4) r1) 19 4)) a1) q18 (Int32.toNatClampNeg (am_I (am_sI (am_sI h5 q8 (Int32.toNatClampNeg r4) r1) q13 (Int32.toNatClampNeg (am_I (am_sI h5 q8 (Int32.toNatClampNeg r4) r1) 19 4)) a1) 19 4)) a2) 19 4)) a3) 19 4)) a4) 19 4)) 19 0 y33)) else none)) fun h160 => (some ((), (am_sI h160 19 4 ((am_I h160 19 4) + (Int32.ofInt 1)))))))) else none))) else none))) else none))) else none))) else none)))))
set_option maxRecDepth 100000 in
theorem s_X1_meet (n : Nat) (a1 : Int32) (a2 : Int32) (a3 : Int32) (a4 : Int32) (h : am_H) (hs : am_stat h) {v : Unit} {h' : am_H} (hf : f_X1_meet n a1 a2 a3 a4 h = some (v, h')) : am_stat h' := by
  unfold f_X1_meet at hf
  obtain ⟨r1, h2, e3, hf⟩ := am_b2_ok hf
  have hs := s_X1_chiefOf n a1 h hs e3
  obtain ⟨r4, h5, e6, hf⟩ := am_b2_ok hf
  have hs := s_X1_chiefOf n a2 h2 hs e6
  by_cases c7 : r1 = r4
  · rw [if_pos c7] at hf
    obtain ⟨rfl, rfl⟩ := am_i2 hf
    exact hs
  · rw [if_neg c7] at hf
    obtain ⟨q8, k9, hf⟩ := am_bnd hf
    obtain ⟨n10, k11, hf⟩ := am_bnd hf
    obtain ⟨b12, hf⟩ := am_bis hf
    obtain ⟨q13, k14, hf⟩ := am_bnd hf
    obtain ⟨n15, k16, hf⟩ := am_bnd hf
    obtain ⟨b17, hf⟩ := am_bis hf
    obtain ⟨q18, k19, hf⟩ := am_bnd hf
    obtain ⟨n20, k21, hf⟩ := am_bnd hf
    obtain ⟨b22, hf⟩ := am_bis hf
    obtain ⟨q23, k24, hf⟩ := am_bnd hf
    obtain ⟨n25, k26, hf⟩ := am_bnd hf
    obtain ⟨b27, hf⟩ := am_bis hf
    obtain ⟨q28, k29, hf⟩ := am_bnd hf
    obtain ⟨n30, k31, hf⟩ := am_bnd hf
    obtain ⟨b32, hf⟩ := am_bis hf
    obtain ⟨y33, j34, hf⟩ := am_bnd hf
    obtain ⟨y95, j96, hf⟩ := am_bnd hf
    obtain ⟨h160, j161, hf⟩ := am_bnd hf
    have hs0 := hs
    have hs : am_stat h160 := by
      have hs := hs0
      by_cases c162 : y33 = y95
      · rw [if_pos c162] at j161
        obtain rfl := am_i1 j161
        exact hs
      · rw [if_neg c162] at j161
        obtain ⟨b163, j161⟩ := am_bis j161
        obtain rfl := am_i1 j161
        exact hs
    obtain ⟨rfl, rfl⟩ := am_i2 hf
    exact hs
set_option maxRecDepth 100000 in
theorem c_X1_meet (n : Nat) (a1 : Int32) (a2 : Int32) (a3 : Int32) (a4 : Int32) (h : am_H) (hs : am_stat h) {v : Unit} {h' : am_H} (hf : f_X1_meet n a1 a2 a3 a4 h = some (v, h')) : AMet mX1_meet (rX1_meet 0 0) (fun r h2 => r = none ∧ h2 = h') [.ref 19, .int a1, .int a2, .int a3, .int a4] h := by
  unfold f_X1_meet at hf
  refine AW_go okX1_meet 2 ?_
  obtain ⟨r1, h2, e3, hf⟩ := am_b2_ok hf
  refine AW_callV (As := [.int a1]) (R' := rX1_chiefOf 0 0) (T := TX1) (N := 11) (ci := 1) (okX1_meet.1 2 _ _ rfl) lkX1_chiefOf kX1_75 rfl (sK hs 19) rfl (Nat.le_of_ble_eq_true rfl) ⟨by decide, by decide⟩ ⟨(Nat.le_of_ble_eq_true rfl), (Nat.le_of_ble_eq_true rfl)⟩ (Nat.le_of_ble_eq_true rfl) (c_X1_chiefOf n a1 h hs e3) (fun r h' hq => ?_)
  obtain ⟨rfl, hq⟩ := hq
  replace hq := hq.symm
  subst hq
  have hs := s_X1_chiefOf n a1 h hs e3
  refine AW_go okX1_meet 3 ?_
  obtain ⟨r4, h5, e6, hf⟩ := am_b2_ok hf
  refine AW_callV (As := [.int a2]) (R' := rX1_chiefOf 0 0) (T := TX1) (N := 11) (ci := 1) (okX1_meet.1 9 _ _ rfl) lkX1_chiefOf kX1_75 rfl (sK hs 19) rfl (Nat.le_of_ble_eq_true rfl) ⟨by decide, by decide⟩ ⟨(Nat.le_of_ble_eq_true rfl), (Nat.le_of_ble_eq_true rfl)⟩ (Nat.le_of_ble_eq_true rfl) (c_X1_chiefOf n a2 h2 hs e6) (fun r h' hq => ?_)
  obtain ⟨rfl, hq⟩ := hq
  replace hq := hq.symm
  subst hq
  have hs := s_X1_chiefOf n a2 h2 hs e6
  refine AW_go okX1_meet 4 ?_
  refine And.intro (fun c7 => ?_) (fun c7 => ?_)
  · rw [if_neg c7] at hf
    obtain ⟨q8, k9, hf⟩ := am_bnd hf
    obtain ⟨n10, k11, hf⟩ := am_bnd hf
    obtain ⟨b12, hf⟩ := am_bis hf
    obtain ⟨q13, k14, hf⟩ := am_bnd hf
    obtain ⟨n15, k16, hf⟩ := am_bnd hf
    obtain ⟨b17, hf⟩ := am_bis hf
    obtain ⟨q18, k19, hf⟩ := am_bnd hf
    obtain ⟨n20, k21, hf⟩ := am_bnd hf
    obtain ⟨b22, hf⟩ := am_bis hf
    obtain ⟨q23, k24, hf⟩ := am_bnd hf
    obtain ⟨n25, k26, hf⟩ := am_bnd hf
    obtain ⟨b27, hf⟩ := am_bis hf
    obtain ⟨q28, k29, hf⟩ := am_bnd hf
    obtain ⟨n30, k31, hf⟩ := am_bnd hf
    obtain ⟨b32, hf⟩ := am_bis hf
    refine AW_go okX1_meet 32 ?_
    refine And.intro (sK hs 19) (Exists.intro (some q8) (And.intro k9 ?_))
    refine Exists.intro n10 (And.intro (am_ln_ok k11) (And.intro (am_vp_ok b12) ?_))
    refine And.intro (sK hs 19) (Exists.intro (some q13) (And.intro k14 ?_))
    refine And.intro (sK hs 19) ?_
    refine Exists.intro n15 (And.intro (am_ln_ok k16) (And.intro (am_vp_ok b17) ?_))
    refine And.intro (sK hs 19) (Exists.intro (some q18) (And.intro k19 ?_))
    refine And.intro (sK hs 19) ?_
    refine Exists.intro n20 (And.intro (am_ln_ok k21) (And.intro (am_vp_ok b22) ?_))
    refine And.intro (sK hs 19) (Exists.intro (some q23) (And.intro k24 ?_))
    refine And.intro (sK hs 19) ?_
    refine Exists.intro n25 (And.intro (am_ln_ok k26) (And.intro (am_vp_ok b27) ?_))
    refine And.intro (sK hs 19) (Exists.intro (some q28) (And.intro k29 ?_))
    refine And.intro (sK hs 19) ?_
    refine Exists.intro n30 (And.intro (am_ln_ok k31) (And.intro (am_vp_ok b32) ?_))
    refine And.intro (sK hs 19) ?_
    obtain ⟨y33, j34, hf⟩ := am_bnd hf
    refine am_cut (P := AW mX1_meet (rX1_meet 0 0) (fun r h2 => r = none ∧ h2 = h') 97 [(0, .ref 19), (1, .int a1), (2, .int a2), (3, .int a3), (4, .int a4), (5, .int r1), (6, .int r4)] [.int y33] (am_sI (am_sI (am_sI (am_sI (am_sI h5 q8 (Int32.toNatClampNeg r4) r1) q13 (Int32.toNatClampNeg (am_I (am_sI h5 q8 (Int32.toNatClampNeg r4) r1) 19 4)) a1) q18 (Int32.toNatClampNeg (am_I (am_sI (am_sI h5 q8 (Int32.toNatClampNeg r4) r1) q13 (Int32.toNatClampNeg (am_I (am_sI h5 q8 (Int32.toNatClampNeg r4) r1) 19 4)) a1) 19 4)) a2) q23 (Int32.toNatClampNeg (am_I (am_sI (am_sI (am_sI h5 q8 (Int32.toNatClampNeg r4) r1) q13 (Int32.toNatClampNeg (am_I (am_sI h5 q8 (Int32.toNatClampNeg r4) r1) 19 4)) a1) q18 (Int32.toNatClampNeg (am_I (am_sI (am_sI h5 q8 (Int32.toNatClampNeg r4) r1) q13 (Int32.toNatClampNeg (am_I (am_sI h5 q8 (Int32.toNatClampNeg r4) r1) 19 4)) a1) 19 4)) a2) 19 4)) a3) q28 (Int32.toNatClampNeg (am_I (am_sI (am_sI (am_sI (am_sI h5 q8 (Int32.toNatClampNeg r4) r1) q13 (Int32.toNatClampNeg (am_I (am_sI h5 q8 (Int32.toNatClampNeg r4) r1) 19 4)) a1) q18 (Int32.toNatClampNeg (am_I (am_sI (am_sI h5 q8 (Int32.toNatClampNeg r4) r1) q13 (Int32.toNatClampNeg (am_I (am_sI h5 q8 (Int32.toNatClampNeg r4) r1) 19 4)) a1) 19 4)) a2) q23 (Int32.toNatClampNeg (am_I (am_sI (am_sI (am_sI h5 q8 (Int32.toNatClampNeg r4) r1) q13 (Int32.toNatClampNeg (am_I (am_sI h5 q8 (Int32.toNatClampNeg r4) r1) 19 4)) a1) q18 (Int32.toNatClampNeg (am_I (am_sI (am_sI h5 q8 (Int32.toNatClampNeg r4) r1) q13 (Int32.toNatClampNeg (am_I (am_sI h5 q8 (Int32.toNatClampNeg r4) r1) 19 4)) a1) 19 4)) a2) 19 4)) a3) 19 4)) a4) 0 0) (fun hJ34 => ?_) ?_
    · have hs := hs
      refine AW_go okX1_meet 1 ?_
      refine And.intro (fun c35 => ?_) (fun c35 => ?_)
      · rw [if_pos c35] at j34
        refine AW_go okX1_meet 1 ?_
        obtain rfl := am_i1 j34
        exact AW_pick [2, 3, 4, 5, 6, 1, 0] rfl hJ34
      · rw [if_neg c35] at j34
        obtain ⟨q36, k37, j34⟩ := am_bnd j34
        obtain ⟨k38, j34⟩ := am_bis j34
        obtain ⟨q39, k40, j34⟩ := am_bnd j34
        obtain ⟨n41, k42, j34⟩ := am_bnd j34
        obtain ⟨b43, j34⟩ := am_bis j34
        refine AW_go okX1_meet 6 ?_
        refine And.intro (sK hs 19) (Exists.intro (some q36) (And.intro k37 ?_))
        refine And.intro (am_isO_ok k38) (Exists.intro (some q39) (And.intro k40 ?_))
        refine Exists.intro 2 (Exists.intro n41 (And.intro (by decide) (And.intro (am_ln_ok k42) (And.intro (am_vp_ok b43) ?_))))
        refine And.intro (fun c44 => ?_) (fun c44 => ?_)
        · rw [if_pos c44] at j34
          refine AW_go okX1_meet 1 ?_
          obtain rfl := am_i1 j34
          exact AW_pick [2, 3, 4, 5, 6, 1, 0] rfl hJ34
        · rw [if_neg c44] at j34
          refine AW_go okX1_meet 2 ?_
          obtain rfl := am_i1 j34
          exact AW_pick [2, 3, 4, 5, 6, 1, 0] rfl hJ34
    refine AW_go okX1_meet 4 ?_
    refine And.intro (sK hs 19) ?_
    obtain ⟨y95, j96, hf⟩ := am_bnd hf
    refine am_cut (P := AW mX1_meet (rX1_meet 0 0) (fun r h2 => r = none ∧ h2 = h') 132 [(0, .ref 19), (1, .int a1), (2, .int a2), (3, .int a3), (4, .int a4), (5, .int r1), (6, .int r4), (7, .int y33)] [.int y95] (am_sI (am_sI (am_sI (am_sI (am_sI h5 q8 (Int32.toNatClampNeg r4) r1) q13 (Int32.toNatClampNeg (am_I (am_sI h5 q8 (Int32.toNatClampNeg r4) r1) 19 4)) a1) q18 (Int32.toNatClampNeg (am_I (am_sI (am_sI h5 q8 (Int32.toNatClampNeg r4) r1) q13 (Int32.toNatClampNeg (am_I (am_sI h5 q8 (Int32.toNatClampNeg r4) r1) 19 4)) a1) 19 4)) a2) q23 (Int32.toNatClampNeg (am_I (am_sI (am_sI (am_sI h5 q8 (Int32.toNatClampNeg r4) r1) q13 (Int32.toNatClampNeg (am_I (am_sI h5 q8 (Int32.toNatClampNeg r4) r1) 19 4)) a1) q18 (Int32.toNatClampNeg (am_I (am_sI (am_sI h5 q8 (Int32.toNatClampNeg r4) r1) q13 (Int32.toNatClampNeg (am_I (am_sI h5 q8 (Int32.toNatClampNeg r4) r1) 19 4)) a1) 19 4)) a2) 19 4)) a3) q28 (Int32.toNatClampNeg (am_I (am_sI (am_sI (am_sI (am_sI h5 q8 (Int32.toNatClampNeg r4) r1) q13 (Int32.toNatClampNeg (am_I (am_sI h5 q8 (Int32.toNatClampNeg r4) r1) 19 4)) a1) q18 (Int32.toNatClampNeg (am_I (am_sI (am_sI h5 q8 (Int32.toNatClampNeg r4) r1) q13 (Int32.toNatClampNeg (am_I (am_sI h5 q8 (Int32.toNatClampNeg r4) r1) 19 4)) a1) 19 4)) a2) q23 (Int32.toNatClampNeg (am_I (am_sI (am_sI (am_sI h5 q8 (Int32.toNatClampNeg r4) r1) q13 (Int32.toNatClampNeg (am_I (am_sI h5 q8 (Int32.toNatClampNeg r4) r1) 19 4)) a1) q18 (Int32.toNatClampNeg (am_I (am_sI (am_sI h5 q8 (Int32.toNatClampNeg r4) r1) q13 (Int32.toNatClampNeg (am_I (am_sI h5 q8 (Int32.toNatClampNeg r4) r1) 19 4)) a1) 19 4)) a2) 19 4)) a3) 19 4)) a4) 0 0) (fun hJ96 => ?_) ?_
    · have hs := hs
      refine AW_go okX1_meet 1 ?_
      refine And.intro (fun c97 => ?_) (fun c97 => ?_)
      · rw [if_pos c97] at j96
        refine AW_go okX1_meet 1 ?_
        obtain rfl := am_i1 j96
        exact AW_pick [1, 2, 3, 4, 5, 6, 7, 0] rfl hJ96
      · rw [if_neg c97] at j96
        obtain ⟨q98, k99, j96⟩ := am_bnd j96
        obtain ⟨k100, j96⟩ := am_bis j96
        obtain ⟨q101, k102, j96⟩ := am_bnd j96
        obtain ⟨q103, k104, j96⟩ := am_bnd j96
        obtain ⟨k105, j96⟩ := am_bis j96
        obtain ⟨n106, k107, j96⟩ := am_bnd j96
        obtain ⟨b108, j96⟩ := am_bis j96
        refine AW_go okX1_meet 10 ?_
        refine And.intro (sK hs 19) (Exists.intro (some q98) (And.intro k99 ?_))
        refine And.intro (am_isO_ok k100) (Exists.intro (some q101) (And.intro k102 ?_))
        refine And.intro (sK hs 19) (Exists.intro (some q103) (And.intro k104 ?_))
        refine And.intro (am_isO_ok k105) ?_
        refine Exists.intro 2 (Exists.intro n106 (And.intro (by decide) (And.intro (am_ln_ok k107) (And.intro (am_vp_ok b108) ?_))))
        refine And.intro (fun c109 => ?_) (fun c109 => ?_)
        · rw [if_pos c109] at j96
          refine AW_go okX1_meet 1 ?_
          obtain rfl := am_i1 j96
          exact AW_pick [1, 2, 3, 4, 5, 6, 7, 0] rfl hJ96
        · rw [if_neg c109] at j96
          refine AW_go okX1_meet 2 ?_
          obtain rfl := am_i1 j96
          exact AW_pick [1, 2, 3, 4, 5, 6, 7, 0] rfl hJ96
    refine AW_go okX1_meet 3 ?_
    obtain ⟨h160, j161, hf⟩ := am_bnd hf
    have hs0 := hs
    have hs : am_stat h160 := by
      have hs := hs0
      by_cases c162 : y33 = y95
      · rw [if_pos c162] at j161
        obtain rfl := am_i1 j161
        exact hs
      · rw [if_neg c162] at j161
        obtain ⟨b163, j161⟩ := am_bis j161
        obtain rfl := am_i1 j161
        exact hs
    refine am_cut (P := AW mX1_meet (rX1_meet 0 0) (fun r h2 => r = none ∧ h2 = h') 155 [(0, .ref 19), (1, .int a1), (2, .int a2), (3, .int a3), (4, .int a4), (5, .int r1), (6, .int r4), (7, .int y33), (8, .int y95)] [] h160 0 0) (fun hJ161 => ?_) ?_
    · have hs := hs0
      refine AW_go okX1_meet 1 ?_
      refine And.intro (fun c162 => ?_) (fun c162 => ?_)
      · rw [if_pos c162] at j161
        obtain rfl := am_i1 j161
        exact AW_pick [1, 2, 3, 4, 5, 6, 7, 8, 0] rfl hJ161
      · rw [if_neg c162] at j161
        obtain ⟨b163, j161⟩ := am_bis j161
        refine AW_go okX1_meet 7 ?_
        refine And.intro (sK hs 19) ?_
        refine And.intro (sK hs 19) ?_
        refine And.intro (am_b01_ok b163) (And.intro (sK hs 19) ?_)
        obtain rfl := am_i1 j161
        exact AW_pick [1, 2, 3, 4, 5, 6, 7, 8, 0] rfl hJ161
    refine AW_go okX1_meet 7 ?_
    refine And.intro (sK hs 19) ?_
    refine And.intro (sK hs 19) ?_
    obtain ⟨rfl, rfl⟩ := am_i2 hf
    exact And.intro ⟨(Nat.le_of_ble_eq_true rfl), (Nat.le_of_ble_eq_true rfl)⟩ (And.intro rfl ⟨rfl, rfl⟩)
  · rw [if_pos c7] at hf
    refine AW_go okX1_meet 1 ?_
    obtain ⟨rfl, rfl⟩ := am_i2 hf
    exact And.intro ⟨(Nat.le_of_ble_eq_true rfl), (Nat.le_of_ble_eq_true rfl)⟩ (And.intro rfl ⟨rfl, rfl⟩)
def g_X2_alike : Nat → Nat → Int32 → Int32 → Int32 → am_H → Option (Int32 × am_H)
  | 0, _, _, _, _, _ => none
  | n + 1, _, a1, a2, x3i, h => (if (Int32.ofInt 24) ≤ x3i then some ((Int32.ofInt 1), h) else (am_A h 12 2).bind fun q2 => ((am_ln h 0 q2).bind fun n4 => (bif am_vp (((Int32.ofInt 24) * a1) + x3i) n4 then (am_b2 (f_X2_kinOf (am_I h q2 (Int32.toNatClampNeg (((Int32.ofInt 24) * a1) + x3i))) h) fun r7 h8 => ((am_A h8 12 2).bind fun q10 => ((am_ln h8 0 q10).bind fun n12 => (bif am_vp (((Int32.ofInt 24) * a2) + x3i) n12 then (am_b2 (f_X2_kinOf (am_I h8 q10 (Int32.toNatClampNeg (((Int32.ofInt 24) * a2) + x3i))) h8) fun r15 h16 => ((if r7 = r15 then g_X2_alike n 0 a1 a2 (x3i + Int32.ofInt 1) h16 else some ((Int32.ofInt 0), h16)))) else none)))) else none)))
set_option maxRecDepth 100000 in
set_option maxHeartbeats 4000000 in
theorem m_X2_alike (n : Nat) : (∀ (a1 : Int32) (a2 : Int32) (x3i : Int32) (h : am_H) (v : Int32) (h' : am_H), am_stat h → g_X2_alike n 0 a1 a2 x3i h = some (v, h') → am_stat h') := by
  induction n with
  | zero => exact fun a1 a2 x3i h v h' hs hf => (by cases hf)
  | succ n ih =>
    skip
    · intro a1 a2 x3i h v h' hs hf
      have hf : ((if (Int32.ofInt 24) ≤ x3i then some ((Int32.ofInt 1), h) else (am_A h 12 2).bind fun q2 => ((am_ln h 0 q2).bind fun n4 => (bif am_vp (((Int32.ofInt 24) * a1) + x3i) n4 then (am_b2 (f_X2_kinOf (am_I h q2 (Int32.toNatClampNeg (((Int32.ofInt 24) * a1) + x3i))) h) fun r7 h8 => ((am_A h8 12 2).bind fun q10 => ((am_ln h8 0 q10).bind fun n12 => (bif am_vp (((Int32.ofInt 24) * a2) + x3i) n12 then (am_b2 (f_X2_kinOf (am_I h8 q10 (Int32.toNatClampNeg (((Int32.ofInt 24) * a2) + x3i))) h8) fun r15 h16 => ((if r7 = r15 then g_X2_alike n 0 a1 a2 (x3i + Int32.ofInt 1) h16 else some ((Int32.ofInt 0), h16)))) else none)))) else none)))) = some (v, h') := hf
      by_cases c1 : (Int32.ofInt 24) ≤ x3i
      · rw [if_pos c1] at hf
        obtain ⟨rfl, rfl⟩ := am_i2 hf
        exact hs
      · rw [if_neg c1] at hf
        obtain ⟨q2, k3, hf⟩ := am_bnd hf
        obtain ⟨n4, k5, hf⟩ := am_bnd hf
        obtain ⟨b6, hf⟩ := am_bis hf
        obtain ⟨r7, h8, e9, hf⟩ := am_b2_ok hf
        have hs := s_X2_kinOf (am_I h q2 (Int32.toNatClampNeg (((Int32.ofInt 24) * a1) + x3i))) h hs e9
        obtain ⟨q10, k11, hf⟩ := am_bnd hf
        obtain ⟨n12, k13, hf⟩ := am_bnd hf
        obtain ⟨b14, hf⟩ := am_bis hf
        obtain ⟨r15, h16, e17, hf⟩ := am_b2_ok hf
        have hs := s_X2_kinOf (am_I h8 q10 (Int32.toNatClampNeg (((Int32.ofInt 24) * a2) + x3i))) h8 hs e17
        by_cases c18 : r7 = r15
        · rw [if_pos c18] at hf
          exact ih a1 a2 (x3i + Int32.ofInt 1) h16 _ _ hs hf
        · rw [if_neg c18] at hf
          obtain ⟨rfl, rfl⟩ := am_i2 hf
          exact hs
set_option maxRecDepth 100000 in
set_option maxHeartbeats 4000000 in
theorem l_X2_alike (n : Nat) : (∀ (a1 : Int32) (a2 : Int32) (x3i : Int32) (h : am_H) (v : Int32) (h' : am_H), am_stat h → g_X2_alike n 0 a1 a2 x3i h = some (v, h') → AW mX2_alike (rX2_alike 0 0) (fun r h2 => r = some (.int v) ∧ h2 = h') 19 [(0, .ref 12), (1, .int a1), (2, .int a2), (3, .int x3i)] [] h 0 0) := by
  induction n with
  | zero => exact fun a1 a2 x3i h v h' hs hf => (by cases hf)
  | succ n ih =>
    skip
    · intro a1 a2 x3i h v h' hs hf
      have hf : ((if (Int32.ofInt 24) ≤ x3i then some ((Int32.ofInt 1), h) else (am_A h 12 2).bind fun q2 => ((am_ln h 0 q2).bind fun n4 => (bif am_vp (((Int32.ofInt 24) * a1) + x3i) n4 then (am_b2 (f_X2_kinOf (am_I h q2 (Int32.toNatClampNeg (((Int32.ofInt 24) * a1) + x3i))) h) fun r7 h8 => ((am_A h8 12 2).bind fun q10 => ((am_ln h8 0 q10).bind fun n12 => (bif am_vp (((Int32.ofInt 24) * a2) + x3i) n12 then (am_b2 (f_X2_kinOf (am_I h8 q10 (Int32.toNatClampNeg (((Int32.ofInt 24) * a2) + x3i))) h8) fun r15 h16 => ((if r7 = r15 then g_X2_alike n 0 a1 a2 (x3i + Int32.ofInt 1) h16 else some ((Int32.ofInt 0), h16)))) else none)))) else none)))) = some (v, h') := hf
      refine AW_go okX2_alike 3 ?_
      refine And.intro (fun c1 => ?_) (fun c1 => ?_)
      · rw [if_pos c1] at hf
        refine AW_go okX2_alike 2 ?_
        obtain ⟨rfl, rfl⟩ := am_i2 hf
        exact And.intro ⟨(Nat.le_of_ble_eq_true rfl), (Nat.le_of_ble_eq_true rfl)⟩ (And.intro (Or.inr ⟨rfl, Or.inr rfl⟩) ⟨rfl, rfl⟩)
      · rw [if_neg c1] at hf
        obtain ⟨q2, k3, hf⟩ := am_bnd hf
        obtain ⟨n4, k5, hf⟩ := am_bnd hf
        obtain ⟨b6, hf⟩ := am_bis hf
        refine AW_go okX2_alike 9 ?_
        refine And.intro (sK hs 12) (Exists.intro (some q2) (And.intro k3 ?_))
        refine Exists.intro n4 (And.intro (am_ln_ok k5) (And.intro (am_vp_ok b6) ?_))
        obtain ⟨r7, h8, e9, hf⟩ := am_b2_ok hf
        refine AW_callV (As := [.int (am_I h q2 (Int32.toNatClampNeg (((Int32.ofInt 24) * a1) + x3i)))]) (R' := rX2_kinOf 0 0) (T := TX2) (N := 7) (ci := 2) (okX2_alike.1 37 _ _ rfl) lkX2_kinOf kX2_82 rfl (sK hs 12) rfl (Nat.le_of_ble_eq_true rfl) ⟨by decide, by decide⟩ ⟨(Nat.le_of_ble_eq_true rfl), (Nat.le_of_ble_eq_true rfl)⟩ (Nat.le_of_ble_eq_true rfl) (c_X2_kinOf (am_I h q2 (Int32.toNatClampNeg (((Int32.ofInt 24) * a1) + x3i))) h hs e9) (fun r h' hq => ?_)
        obtain ⟨rfl, hq⟩ := hq
        replace hq := hq.symm
        subst hq
        have hs := s_X2_kinOf (am_I h q2 (Int32.toNatClampNeg (((Int32.ofInt 24) * a1) + x3i))) h hs e9
        obtain ⟨q10, k11, hf⟩ := am_bnd hf
        obtain ⟨n12, k13, hf⟩ := am_bnd hf
        obtain ⟨b14, hf⟩ := am_bis hf
        refine AW_go okX2_alike 9 ?_
        refine And.intro (sK hs 12) (Exists.intro (some q10) (And.intro k11 ?_))
        refine Exists.intro n12 (And.intro (am_ln_ok k13) (And.intro (am_vp_ok b14) ?_))
        obtain ⟨r15, h16, e17, hf⟩ := am_b2_ok hf
        refine AW_callV (As := [.int (am_I h8 q10 (Int32.toNatClampNeg (((Int32.ofInt 24) * a2) + x3i)))]) (R' := rX2_kinOf 0 0) (T := TX2) (N := 7) (ci := 2) (okX2_alike.1 52 _ _ rfl) lkX2_kinOf kX2_82 rfl (sK hs 12) rfl (Nat.le_of_ble_eq_true rfl) ⟨by decide, by decide⟩ ⟨(Nat.le_of_ble_eq_true rfl), (Nat.le_of_ble_eq_true rfl)⟩ (Nat.le_of_ble_eq_true rfl) (c_X2_kinOf (am_I h8 q10 (Int32.toNatClampNeg (((Int32.ofInt 24) * a2) + x3i))) h8 hs e17) (fun r h' hq => ?_)
        obtain ⟨rfl, hq⟩ := hq
        replace hq := hq.symm
        subst hq
        have hs := s_X2_kinOf (am_I h8 q10 (Int32.toNatClampNeg (((Int32.ofInt 24) * a2) + x3i))) h8 hs e17
        refine AW_go okX2_alike 1 ?_
        refine And.intro (fun c18 => ?_) (fun c18 => ?_)
        · rw [if_pos c18] at hf
          refine AW_go okX2_alike 2 ?_
          refine AW_pick (lv' := [(0, .ref 12), (1, .int a1), (2, .int a2), (3, .int (x3i + Int32.ofInt 1))]) [1, 2, 3, 0] rfl ?_
          exact ih a1 a2 (x3i + Int32.ofInt 1) h16 _ _ hs hf
        · rw [if_neg c18] at hf
          refine AW_go okX2_alike 2 ?_
          obtain ⟨rfl, rfl⟩ := am_i2 hf
          exact And.intro ⟨(Nat.le_of_ble_eq_true rfl), (Nat.le_of_ble_eq_true rfl)⟩ (And.intro (Or.inr ⟨rfl, Or.inl rfl⟩) ⟨rfl, rfl⟩)
def f_X2_alike (n : Nat) (a1 : Int32) (a2 : Int32) (h : am_H) : Option (Int32 × am_H) := (am_A h 12 3).bind fun q1 => ((am_ln h 0 q1).bind fun n3 => (bif am_vp a1 n3 then ((am_A h 12 3).bind fun q6 => ((am_ln h 0 q6).bind fun n8 => (bif am_vp a2 n8 then ((if (am_I h q1 (Int32.toNatClampNeg a1)) = (am_I h q6 (Int32.toNatClampNeg a2)) then g_X2_alike n 0 a1 a2 (Int32.ofInt 0) h else some ((Int32.ofInt 0), h))) else none))) else none))
set_option maxRecDepth 100000 in
theorem s_X2_alike (n : Nat) (a1 : Int32) (a2 : Int32) (h : am_H) (hs : am_stat h) {v : Int32} {h' : am_H} (hf : f_X2_alike n a1 a2 h = some (v, h')) : am_stat h' := by
  unfold f_X2_alike at hf
  obtain ⟨q1, k2, hf⟩ := am_bnd hf
  obtain ⟨n3, k4, hf⟩ := am_bnd hf
  obtain ⟨b5, hf⟩ := am_bis hf
  obtain ⟨q6, k7, hf⟩ := am_bnd hf
  obtain ⟨n8, k9, hf⟩ := am_bnd hf
  obtain ⟨b10, hf⟩ := am_bis hf
  by_cases c11 : (am_I h q1 (Int32.toNatClampNeg a1)) = (am_I h q6 (Int32.toNatClampNeg a2))
  · rw [if_pos c11] at hf
    exact (m_X2_alike n) a1 a2 (Int32.ofInt 0) h _ _ hs hf
  · rw [if_neg c11] at hf
    obtain ⟨rfl, rfl⟩ := am_i2 hf
    exact hs
set_option maxRecDepth 100000 in
theorem c_X2_alike (n : Nat) (a1 : Int32) (a2 : Int32) (h : am_H) (hs : am_stat h) {v : Int32} {h' : am_H} (hf : f_X2_alike n a1 a2 h = some (v, h')) : AMet mX2_alike (rX2_alike 0 0) (fun r h2 => r = some (.int v) ∧ h2 = h') [.ref 12, .int a1, .int a2] h := by
  unfold f_X2_alike at hf
  obtain ⟨q1, k2, hf⟩ := am_bnd hf
  obtain ⟨n3, k4, hf⟩ := am_bnd hf
  obtain ⟨b5, hf⟩ := am_bis hf
  obtain ⟨q6, k7, hf⟩ := am_bnd hf
  obtain ⟨n8, k9, hf⟩ := am_bnd hf
  obtain ⟨b10, hf⟩ := am_bis hf
  refine AW_go okX2_alike 9 ?_
  refine And.intro (sK hs 12) (Exists.intro (some q1) (And.intro k2 ?_))
  refine Exists.intro n3 (And.intro (am_ln_ok k4) (And.intro (am_vp_ok b5) ?_))
  refine And.intro (sK hs 12) (Exists.intro (some q6) (And.intro k7 ?_))
  refine Exists.intro n8 (And.intro (am_ln_ok k9) (And.intro (am_vp_ok b10) ?_))
  refine And.intro (fun c11 => ?_) (fun c11 => ?_)
  · rw [if_pos c11] at hf
    refine AW_go okX2_alike 2 ?_
    refine AW_pick (lv' := [(0, .ref 12), (1, .int a1), (2, .int a2), (3, .int (Int32.ofInt 0))]) [1, 2, 3, 0] rfl ?_
    exact (l_X2_alike n) a1 a2 (Int32.ofInt 0) h _ _ hs hf
  · rw [if_neg c11] at hf
    refine AW_go okX2_alike 2 ?_
    obtain ⟨rfl, rfl⟩ := am_i2 hf
    exact And.intro ⟨(Nat.le_of_ble_eq_true rfl), (Nat.le_of_ble_eq_true rfl)⟩ (And.intro (Or.inr ⟨rfl, Or.inl rfl⟩) ⟨rfl, rfl⟩)
def g_X4_told : Nat → Nat → Int64 → Int32 → Int32 → Int32 → am_H → Option (Int32 × am_H)
  | 0, _, _, _, _, _, _ => none
  | n + 1, _, a0, x2i, x3i, x4i, h => (if (Int32.ofInt 8) ≤ x4i then some (x2i, h) else am_b2 (f_X4_byteOf a0 x4i h) fun r2 h3 => ((if (Int32.ofInt 126) < r2 then some ((Int32.ofInt (-102)), h3) else am_let (am_b2 ((if r2 = 0 then some (x2i, (Int32.ofInt 1)) else some ((x2i + Int32.ofInt 1), x3i))) fun y9 y10 => (g_X4_told n 0 a0 y9 y10 (x4i + Int32.ofInt 1) h3)) fun b6 => ((if x3i = 0 then b6 else (if r2 = 0 then b6 else some ((Int32.ofInt (-102)), h3)))))))
set_option maxRecDepth 100000 in
set_option maxHeartbeats 4000000 in
theorem m_X4_told (n : Nat) : (∀ (a0 : Int64) (x2i : Int32) (x3i : Int32) (x4i : Int32) (h : am_H) (v : Int32) (h' : am_H), am_stat h → g_X4_told n 0 a0 x2i x3i x4i h = some (v, h') → am_stat h') := by
  induction n with
  | zero => exact fun a0 x2i x3i x4i h v h' hs hf => (by cases hf)
  | succ n ih =>
    skip
    · intro a0 x2i x3i x4i h v h' hs hf
      have hf : ((if (Int32.ofInt 8) ≤ x4i then some (x2i, h) else am_b2 (f_X4_byteOf a0 x4i h) fun r2 h3 => ((if (Int32.ofInt 126) < r2 then some ((Int32.ofInt (-102)), h3) else am_let (am_b2 ((if r2 = 0 then some (x2i, (Int32.ofInt 1)) else some ((x2i + Int32.ofInt 1), x3i))) fun y9 y10 => (g_X4_told n 0 a0 y9 y10 (x4i + Int32.ofInt 1) h3)) fun b6 => ((if x3i = 0 then b6 else (if r2 = 0 then b6 else some ((Int32.ofInt (-102)), h3)))))))) = some (v, h') := hf
      by_cases c1 : (Int32.ofInt 8) ≤ x4i
      · rw [if_pos c1] at hf
        obtain ⟨rfl, rfl⟩ := am_i2 hf
        exact hs
      · rw [if_neg c1] at hf
        obtain ⟨r2, h3, e4, hf⟩ := am_b2_ok hf
        have hs := s_X4_byteOf a0 x4i h hs e4
        by_cases c5 : (Int32.ofInt 126) < r2
        · rw [if_pos c5] at hf
          obtain ⟨rfl, rfl⟩ := am_i2 hf
          exact hs
        · rw [if_neg c5] at hf
          obtain ⟨b6, k7, hf⟩ := am_let_ok hf
          refine am_cut (P := (am_b2 ((if r2 = 0 then some (x2i, (Int32.ofInt 1)) else some ((x2i + Int32.ofInt 1), x3i))) fun y9 y10 => (g_X4_told n 0 a0 y9 y10 (x4i + Int32.ofInt 1) h3)) = some (v, h') → am_stat h') (fun B8 => ?_) ?_
          · skip
            by_cases c9 : x3i = 0
            · rw [if_pos c9] at hf
              exact B8 (k7.symm.trans hf)
            · rw [if_neg c9] at hf
              by_cases c10 : r2 = 0
              · rw [if_pos c10] at hf
                exact B8 (k7.symm.trans hf)
              · rw [if_neg c10] at hf
                obtain ⟨rfl, rfl⟩ := am_i2 hf
                exact hs
          intro hf
          obtain ⟨y11, y12, j13, hf⟩ := am_b2_ok hf
          exact ih a0 y11 y12 (x4i + Int32.ofInt 1) h3 _ _ hs hf
set_option maxRecDepth 100000 in
set_option maxHeartbeats 4000000 in
theorem l_X4_told (n : Nat) : (∀ (a0 : Int64) (x2i : Int32) (x3i : Int32) (x4i : Int32) (h : am_H) (v : Int32) (h' : am_H), am_stat h → g_X4_told n 0 a0 x2i x3i x4i h = some (v, h') → AW mX4_told (rX4_told 0 0) (fun r h2 => r = some (.int v) ∧ h2 = h') 7 [(0, .long a0), (2, .int x2i), (3, .int x3i), (4, .int x4i)] [] h 0 0) := by
  induction n with
  | zero => exact fun a0 x2i x3i x4i h v h' hs hf => (by cases hf)
  | succ n ih =>
    skip
    · intro a0 x2i x3i x4i h v h' hs hf
      have hf : ((if (Int32.ofInt 8) ≤ x4i then some (x2i, h) else am_b2 (f_X4_byteOf a0 x4i h) fun r2 h3 => ((if (Int32.ofInt 126) < r2 then some ((Int32.ofInt (-102)), h3) else am_let (am_b2 ((if r2 = 0 then some (x2i, (Int32.ofInt 1)) else some ((x2i + Int32.ofInt 1), x3i))) fun y9 y10 => (g_X4_told n 0 a0 y9 y10 (x4i + Int32.ofInt 1) h3)) fun b6 => ((if x3i = 0 then b6 else (if r2 = 0 then b6 else some ((Int32.ofInt (-102)), h3)))))))) = some (v, h') := hf
      refine AW_go okX4_told 3 ?_
      refine And.intro (fun c1 => ?_) (fun c1 => ?_)
      · rw [if_pos c1] at hf
        refine AW_go okX4_told 2 ?_
        obtain ⟨rfl, rfl⟩ := am_i2 hf
        exact And.intro ⟨(Nat.le_of_ble_eq_true rfl), (Nat.le_of_ble_eq_true rfl)⟩ (And.intro (Or.inl rfl) ⟨rfl, rfl⟩)
      · rw [if_neg c1] at hf
        refine AW_go okX4_told 2 ?_
        obtain ⟨r2, h3, e4, hf⟩ := am_b2_ok hf
        refine AW_callS (As := [.long a0, .int x4i]) (R' := rX4_byteOf 0 0) (okX4_told.1 17 _ _ rfl) lkX4_byteOf (Or.inl kX4_15) rfl (Nat.le_of_ble_eq_true rfl) ⟨by decide, by decide⟩ ⟨(Nat.le_of_ble_eq_true rfl), (Nat.le_of_ble_eq_true rfl)⟩ (Nat.le_of_ble_eq_true rfl) (c_X4_byteOf a0 x4i h hs e4) (fun r h' hq => ?_)
        obtain ⟨rfl, hq⟩ := hq
        replace hq := hq.symm
        subst hq
        have hs := s_X4_byteOf a0 x4i h hs e4
        refine AW_go okX4_told 4 ?_
        refine And.intro (fun c5 => ?_) (fun c5 => ?_)
        · rw [if_pos c5] at hf
          refine AW_go okX4_told 2 ?_
          obtain ⟨rfl, rfl⟩ := am_i2 hf
          exact And.intro ⟨(Nat.le_of_ble_eq_true rfl), (Nat.le_of_ble_eq_true rfl)⟩ (And.intro (Or.inl rfl) ⟨rfl, rfl⟩)
        · rw [if_neg c5] at hf
          refine AW_go okX4_told 1 ?_
          obtain ⟨b6, k7, hf⟩ := am_let_ok hf
          refine am_cut (P := (am_b2 ((if r2 = 0 then some (x2i, (Int32.ofInt 1)) else some ((x2i + Int32.ofInt 1), x3i))) fun y9 y10 => (g_X4_told n 0 a0 y9 y10 (x4i + Int32.ofInt 1) h3)) = some (v, h') → AW mX4_told (rX4_told 0 0) (fun r h2 => r = some (.int v) ∧ h2 = h') 41 [(5, .int r2), (0, .long a0), (2, .int x2i), (3, .int x3i), (4, .int x4i)] [] h3 0 0) (fun B8 => ?_) ?_
          · skip
            refine AW_go okX4_told 1 ?_
            refine And.intro (fun c9 => ?_) (fun c9 => ?_)
            · rw [if_pos c9] at hf
              exact B8 (k7.symm.trans hf)
            · rw [if_neg c9] at hf
              refine AW_go okX4_told 2 ?_
              refine And.intro (fun c10 => ?_) (fun c10 => ?_)
              · rw [if_pos c10] at hf
                exact B8 (k7.symm.trans hf)
              · rw [if_neg c10] at hf
                refine AW_go okX4_told 2 ?_
                obtain ⟨rfl, rfl⟩ := am_i2 hf
                exact And.intro ⟨(Nat.le_of_ble_eq_true rfl), (Nat.le_of_ble_eq_true rfl)⟩ (And.intro (Or.inl rfl) ⟨rfl, rfl⟩)
          intro hf
          refine AW_go okX4_told 1 ?_
          obtain ⟨y11, y12, j13, hf⟩ := am_b2_ok hf
          refine am_cut (P := AW mX4_told (rX4_told 0 0) (fun r h2 => r = some (.int v) ∧ h2 = h') 54 [(0, .long a0), (2, .int y11), (3, .int y12), (4, .int x4i), (5, .int r2)] [] h3 0 0) (fun hJ13 => ?_) ?_
          · have hs := hs
            refine AW_go okX4_told 1 ?_
            refine And.intro (fun c14 => ?_) (fun c14 => ?_)
            · rw [if_neg c14] at j13
              refine AW_go okX4_told 1 ?_
              obtain ⟨rfl, rfl⟩ := am_i2 j13
              exact AW_pick [2, 0, 3, 4, 1] rfl hJ13
            · rw [if_pos c14] at j13
              refine AW_go okX4_told 3 ?_
              obtain ⟨rfl, rfl⟩ := am_i2 j13
              exact AW_pick [2, 3, 0, 4, 1] rfl hJ13
          refine AW_go okX4_told 2 ?_
          refine AW_pick (lv' := [(0, .long a0), (2, .int y11), (3, .int y12), (4, .int (x4i + Int32.ofInt 1))]) [1, 2, 3, 0] rfl ?_
          exact ih a0 y11 y12 (x4i + Int32.ofInt 1) h3 _ _ hs hf
def f_X4_told (n : Nat) (a0 : Int64) (h : am_H) : Option (Int32 × am_H) := g_X4_told n 0 a0 (Int32.ofInt 0) (Int32.ofInt 0) (Int32.ofInt 0) h
set_option maxRecDepth 100000 in
theorem s_X4_told (n : Nat) (a0 : Int64) (h : am_H) (hs : am_stat h) {v : Int32} {h' : am_H} (hf : f_X4_told n a0 h = some (v, h')) : am_stat h' := by
  unfold f_X4_told at hf
  exact (m_X4_told n) a0 (Int32.ofInt 0) (Int32.ofInt 0) (Int32.ofInt 0) h _ _ hs hf
set_option maxRecDepth 100000 in
theorem c_X4_told (n : Nat) (a0 : Int64) (h : am_H) (hs : am_stat h) {v : Int32} {h' : am_H} (hf : f_X4_told n a0 h = some (v, h')) : AMet mX4_told (rX4_told 0 0) (fun r h2 => r = some (.int v) ∧ h2 = h') [.long a0] h := by
  unfold f_X4_told at hf
  refine AW_go okX4_told 6 ?_
  refine AW_pick (lv' := [(0, .long a0), (2, .int (Int32.ofInt 0)), (3, .int (Int32.ofInt 0)), (4, .int (Int32.ofInt 0))]) [3, 2, 1, 0] rfl ?_
  exact (l_X4_told n) a0 (Int32.ofInt 0) (Int32.ofInt 0) (Int32.ofInt 0) h _ _ hs hf
