def g_X8_withBook : Nat → Nat → Int64 → Int32 → Nat → Int64 → Int32 → am_H → Option ((Int64 × am_H) × Nat × Nat)
  | 0, _, _, _, _, _, _, _ => none
  | n + 1, tag, a1, a3, x4r, x5j, x7i, h => bif Nat.beq tag 0 then (bif am_isO h x4r 0 then ((if (am_I h x4r 0) < x7i then g_X8_withBook n 1 a1 a3 x4r x5j (Int32.ofInt 0) h else (am_A h x4r 1).bind fun q3 => ((am_ln h 0 q3).bind fun n5 => (bif am_vp x7i n5 then (am_b2 (f_X8_with x5j (Int32.toInt64 (am_I h q3 (Int32.toNatClampNeg x7i))) h) fun r8 h9 => (g_X8_withBook n 0 a1 a3 x4r r8 (x7i + Int32.ofInt 1) h9)) else none)))) else none) else (bif am_isO h x4r 0 then ((if (am_I h x4r 0) < x7i then some ((x5j, h), 0, 0) else (am_A h x4r 2).bind fun q3 => ((am_ln h 0 q3).bind fun n5 => (bif am_vp x7i n5 then (am_b2 (f_X8_with x5j (Int32.toInt64 (am_I h q3 (Int32.toNatClampNeg x7i))) h) fun r8 h9 => (g_X8_withBook n 1 a1 a3 x4r r8 (x7i + Int32.ofInt 1) h9)) else none)))) else none)
set_option maxRecDepth 100000 in
set_option maxHeartbeats 4000000 in
theorem m_X8_withBook (n : Nat) : (∀ (a1 : Int64) (a3 : Int32) (x4r : Nat) (x5j : Int64) (x7i : Int32) (h : am_H) (v : Int64) (h' : am_H) (cr sr : Nat), am_stat h → g_X8_withBook n 0 a1 a3 x4r x5j x7i h = some ((v, h'), cr, sr) → am_stat h') ∧ (∀ (a1 : Int64) (a3 : Int32) (x4r : Nat) (x5j : Int64) (x7i : Int32) (h : am_H) (v : Int64) (h' : am_H) (cr sr : Nat), am_stat h → g_X8_withBook n 1 a1 a3 x4r x5j x7i h = some ((v, h'), cr, sr) → am_stat h') := by
  induction n with
  | zero => exact ⟨fun a1 a3 x4r x5j x7i h v h' cr sr hs hf => (by cases hf), fun a1 a3 x4r x5j x7i h v h' cr sr hs hf => (by cases hf)⟩
  | succ n ih =>
    refine ⟨?_, ?_⟩
    · intro a1 a3 x4r x5j x7i h v h' cr sr hs hf
      have hf : (bif am_isO h x4r 0 then ((if (am_I h x4r 0) < x7i then g_X8_withBook n 1 a1 a3 x4r x5j (Int32.ofInt 0) h else (am_A h x4r 1).bind fun q3 => ((am_ln h 0 q3).bind fun n5 => (bif am_vp x7i n5 then (am_b2 (f_X8_with x5j (Int32.toInt64 (am_I h q3 (Int32.toNatClampNeg x7i))) h) fun r8 h9 => (g_X8_withBook n 0 a1 a3 x4r r8 (x7i + Int32.ofInt 1) h9)) else none)))) else none) = some ((v, h'), cr, sr) := hf
      obtain ⟨k1, hf⟩ := am_bis hf
      by_cases c2 : (am_I h x4r 0) < x7i
      · rw [if_pos c2] at hf
        exact ih.2 a1 a3 x4r x5j (Int32.ofInt 0) h _ _ cr sr hs hf
      · rw [if_neg c2] at hf
        obtain ⟨q3, k4, hf⟩ := am_bnd hf
        obtain ⟨n5, k6, hf⟩ := am_bnd hf
        obtain ⟨b7, hf⟩ := am_bis hf
        obtain ⟨r8, h9, e10, hf⟩ := am_b2_ok hf
        have hs := s_X8_with x5j (Int32.toInt64 (am_I h q3 (Int32.toNatClampNeg x7i))) h hs e10
        exact ih.1 a1 a3 x4r r8 (x7i + Int32.ofInt 1) h9 _ _ cr sr hs hf
    · intro a1 a3 x4r x5j x7i h v h' cr sr hs hf
      have hf : (bif am_isO h x4r 0 then ((if (am_I h x4r 0) < x7i then some ((x5j, h), 0, 0) else (am_A h x4r 2).bind fun q3 => ((am_ln h 0 q3).bind fun n5 => (bif am_vp x7i n5 then (am_b2 (f_X8_with x5j (Int32.toInt64 (am_I h q3 (Int32.toNatClampNeg x7i))) h) fun r8 h9 => (g_X8_withBook n 1 a1 a3 x4r r8 (x7i + Int32.ofInt 1) h9)) else none)))) else none) = some ((v, h'), cr, sr) := hf
      obtain ⟨k1, hf⟩ := am_bis hf
      by_cases c2 : (am_I h x4r 0) < x7i
      · rw [if_pos c2] at hf
        obtain ⟨rfl, rfl, rfl, rfl⟩ := am_ic hf
        exact hs
      · rw [if_neg c2] at hf
        obtain ⟨q3, k4, hf⟩ := am_bnd hf
        obtain ⟨n5, k6, hf⟩ := am_bnd hf
        obtain ⟨b7, hf⟩ := am_bis hf
        obtain ⟨r8, h9, e10, hf⟩ := am_b2_ok hf
        have hs := s_X8_with x5j (Int32.toInt64 (am_I h q3 (Int32.toNatClampNeg x7i))) h hs e10
        exact ih.2 a1 a3 x4r r8 (x7i + Int32.ofInt 1) h9 _ _ cr sr hs hf
set_option maxRecDepth 100000 in
set_option maxHeartbeats 4000000 in
theorem l_X8_withBook (n : Nat) : (∀ (a1 : Int64) (a3 : Int32) (x4r : Nat) (x5j : Int64) (x7i : Int32) (h : am_H) (v : Int64) (h' : am_H) (cr sr : Nat) (Cc Ss ac sc : Nat), ac + cr ≤ Cc → sc + sr ≤ Ss → am_stat h → g_X8_withBook n 0 a1 a3 x4r x5j x7i h = some ((v, h'), cr, sr) → AW mX8_withBook (rX8_withBook Cc Ss) (fun r h2 => r = some (.long v) ∧ h2 = h') 61 [(0, .ref 0), (1, .long a1), (3, .int a3), (4, .ref x4r), (5, .long x5j), (7, .int x7i)] [] h ac sc) ∧ (∀ (a1 : Int64) (a3 : Int32) (x4r : Nat) (x5j : Int64) (x7i : Int32) (h : am_H) (v : Int64) (h' : am_H) (cr sr : Nat) (Cc Ss ac sc : Nat), ac + cr ≤ Cc → sc + sr ≤ Ss → am_stat h → g_X8_withBook n 1 a1 a3 x4r x5j x7i h = some ((v, h'), cr, sr) → AW mX8_withBook (rX8_withBook Cc Ss) (fun r h2 => r = some (.long v) ∧ h2 = h') 96 [(0, .ref 0), (1, .long a1), (3, .int a3), (4, .ref x4r), (5, .long x5j), (7, .int x7i)] [] h ac sc) := by
  induction n with
  | zero => exact ⟨fun a1 a3 x4r x5j x7i h v h' cr sr Cc Ss ac sc hC hS hs hf => (by cases hf), fun a1 a3 x4r x5j x7i h v h' cr sr Cc Ss ac sc hC hS hs hf => (by cases hf)⟩
  | succ n ih =>
    refine ⟨?_, ?_⟩
    · intro a1 a3 x4r x5j x7i h v h' cr sr Cc Ss ac sc hC hS hs hf
      have hf : (bif am_isO h x4r 0 then ((if (am_I h x4r 0) < x7i then g_X8_withBook n 1 a1 a3 x4r x5j (Int32.ofInt 0) h else (am_A h x4r 1).bind fun q3 => ((am_ln h 0 q3).bind fun n5 => (bif am_vp x7i n5 then (am_b2 (f_X8_with x5j (Int32.toInt64 (am_I h q3 (Int32.toNatClampNeg x7i))) h) fun r8 h9 => (g_X8_withBook n 0 a1 a3 x4r r8 (x7i + Int32.ofInt 1) h9)) else none)))) else none) = some ((v, h'), cr, sr) := hf
      obtain ⟨k1, hf⟩ := am_bis hf
      refine AW_go okX8_withBook 4 ?_
      refine And.intro (am_isO_ok k1) ?_
      refine And.intro (fun c2 => ?_) (fun c2 => ?_)
      · rw [if_pos c2] at hf
        refine AW_go okX8_withBook 2 ?_
        refine AW_pick (lv' := [(0, .ref 0), (1, .long a1), (3, .int a3), (4, .ref x4r), (5, .long x5j), (7, .int (Int32.ofInt 0))]) [1, 2, 3, 4, 5, 0] rfl ?_
        exact ih.2 a1 a3 x4r x5j (Int32.ofInt 0) h _ _ cr sr Cc Ss ac sc (by omega) (by omega) hs hf
      · rw [if_neg c2] at hf
        obtain ⟨q3, k4, hf⟩ := am_bnd hf
        obtain ⟨n5, k6, hf⟩ := am_bnd hf
        obtain ⟨b7, hf⟩ := am_bis hf
        refine AW_go okX8_withBook 6 ?_
        refine And.intro (am_isO_ok k1) (Exists.intro (some q3) (And.intro k4 ?_))
        refine Exists.intro n5 (And.intro (am_ln_ok k6) (And.intro (am_vp_ok b7) ?_))
        obtain ⟨r8, h9, e10, hf⟩ := am_b2_ok hf
        refine AW_callS (As := [.long x5j, .long (Int32.toInt64 (am_I h q3 (Int32.toNatClampNeg x7i)))]) (R' := rX8_with 0 0) (okX8_withBook.1 82 _ _ rfl) lkX8_with (Or.inl kX8_291) rfl (Nat.le_of_ble_eq_true rfl) ⟨(Nat.le_of_ble_eq_true rfl), (Nat.le_of_ble_eq_true rfl)⟩ ⟨show ac + 0 ≤ Cc by omega, show sc + 0 ≤ Ss by omega⟩ (Nat.le_of_ble_eq_true rfl) (c_X8_with x5j (Int32.toInt64 (am_I h q3 (Int32.toNatClampNeg x7i))) h hs e10) (fun r h' hq => ?_)
        obtain ⟨rfl, hq⟩ := hq
        replace hq := hq.symm
        subst hq
        have hs := s_X8_with x5j (Int32.toInt64 (am_I h q3 (Int32.toNatClampNeg x7i))) h hs e10
        refine AW_go okX8_withBook 3 ?_
        refine AW_pick (lv' := [(0, .ref 0), (1, .long a1), (3, .int a3), (4, .ref x4r), (5, .long r8), (7, .int (x7i + Int32.ofInt 1))]) [2, 3, 4, 5, 1, 0] rfl ?_
        exact ih.1 a1 a3 x4r r8 (x7i + Int32.ofInt 1) h9 _ _ cr sr Cc Ss ac sc (by omega) (by omega) hs hf
    · intro a1 a3 x4r x5j x7i h v h' cr sr Cc Ss ac sc hC hS hs hf
      have hf : (bif am_isO h x4r 0 then ((if (am_I h x4r 0) < x7i then some ((x5j, h), 0, 0) else (am_A h x4r 2).bind fun q3 => ((am_ln h 0 q3).bind fun n5 => (bif am_vp x7i n5 then (am_b2 (f_X8_with x5j (Int32.toInt64 (am_I h q3 (Int32.toNatClampNeg x7i))) h) fun r8 h9 => (g_X8_withBook n 1 a1 a3 x4r r8 (x7i + Int32.ofInt 1) h9)) else none)))) else none) = some ((v, h'), cr, sr) := hf
      obtain ⟨k1, hf⟩ := am_bis hf
      refine AW_go okX8_withBook 4 ?_
      refine And.intro (am_isO_ok k1) ?_
      refine And.intro (fun c2 => ?_) (fun c2 => ?_)
      · rw [if_pos c2] at hf
        refine AW_go okX8_withBook 2 ?_
        obtain ⟨rfl, rfl, rfl, rfl⟩ := am_ic hf
        exact And.intro ⟨show ac ≤ Cc by omega, show sc ≤ Ss by omega⟩ (And.intro rfl ⟨rfl, rfl⟩)
      · rw [if_neg c2] at hf
        obtain ⟨q3, k4, hf⟩ := am_bnd hf
        obtain ⟨n5, k6, hf⟩ := am_bnd hf
        obtain ⟨b7, hf⟩ := am_bis hf
        refine AW_go okX8_withBook 6 ?_
        refine And.intro (am_isO_ok k1) (Exists.intro (some q3) (And.intro k4 ?_))
        refine Exists.intro n5 (And.intro (am_ln_ok k6) (And.intro (am_vp_ok b7) ?_))
        obtain ⟨r8, h9, e10, hf⟩ := am_b2_ok hf
        refine AW_callS (As := [.long x5j, .long (Int32.toInt64 (am_I h q3 (Int32.toNatClampNeg x7i)))]) (R' := rX8_with 0 0) (okX8_withBook.1 117 _ _ rfl) lkX8_with (Or.inl kX8_291) rfl (Nat.le_of_ble_eq_true rfl) ⟨(Nat.le_of_ble_eq_true rfl), (Nat.le_of_ble_eq_true rfl)⟩ ⟨show ac + 0 ≤ Cc by omega, show sc + 0 ≤ Ss by omega⟩ (Nat.le_of_ble_eq_true rfl) (c_X8_with x5j (Int32.toInt64 (am_I h q3 (Int32.toNatClampNeg x7i))) h hs e10) (fun r h' hq => ?_)
        obtain ⟨rfl, hq⟩ := hq
        replace hq := hq.symm
        subst hq
        have hs := s_X8_with x5j (Int32.toInt64 (am_I h q3 (Int32.toNatClampNeg x7i))) h hs e10
        refine AW_go okX8_withBook 3 ?_
        refine AW_pick (lv' := [(0, .ref 0), (1, .long a1), (3, .int a3), (4, .ref x4r), (5, .long r8), (7, .int (x7i + Int32.ofInt 1))]) [2, 3, 4, 5, 1, 0] rfl ?_
        exact ih.2 a1 a3 x4r r8 (x7i + Int32.ofInt 1) h9 _ _ cr sr Cc Ss ac sc (by omega) (by omega) hs hf
def f_X8_withBook (n : Nat) (a1 : Int64) (a3 : Int32) (h : am_H) : Option ((Int64 × am_H) × Nat × Nat) := bif am_vp a3 8 then ((am_A h 25 (Int32.toNatClampNeg a3)).bind fun q2 => (bif am_isO h q2 0 then (am_b2 (f_X8_with a1 (Int32.toInt64 (am_I h q2 0)) h) fun r5 h6 => (bif am_isO h6 q2 0 then ((am_A h6 q2 2).bind fun q9 => ((am_ln h6 0 q9).bind fun n11 => (bif am_vp (Int32.ofInt 0) n11 then (am_b2 (f_X8_with r5 (Int32.toInt64 ((am_I h6 q9 (Int32.toNatClampNeg (Int32.ofInt 0))) &&& (Int32.ofInt 1))) h6) fun r14 h15 => (am_bc (f_X8_machineOf n a3 h15) fun r17 h18 => (bif am_isO h18 r17 3 then (am_b2 (f_X8_with r14 (Int32.toInt64 (am_I h18 r17 0)) h18) fun r26 h27 => (bif am_isO h27 q2 0 then (am_b2 (f_X0_endings n q2 h27) fun r30 h31 => (am_b2 (f_X8_with r26 (Int32.toInt64 r30) h31) fun r33 h34 => (g_X8_withBook n 0 a1 a3 q2 r33 (Int32.ofInt 1) h34))) else none)) else none))) else none))) else none)) else none)) else none
set_option maxRecDepth 100000 in
set_option maxHeartbeats 4000000 in
theorem s_X8_withBook (n : Nat) (a1 : Int64) (a3 : Int32) (h : am_H) (hs : am_stat h) {v : Int64} {h' : am_H} {cr sr : Nat} (hf : f_X8_withBook n a1 a3 h = some ((v, h'), cr, sr)) : am_stat h' := by
  unfold f_X8_withBook at hf
  obtain ⟨b1, hf⟩ := am_bis hf
  obtain ⟨q2, k3, hf⟩ := am_bnd hf
  obtain ⟨k4, hf⟩ := am_bis hf
  obtain ⟨r5, h6, e7, hf⟩ := am_b2_ok hf
  have hs := s_X8_with a1 (Int32.toInt64 (am_I h q2 0)) h hs e7
  obtain ⟨k8, hf⟩ := am_bis hf
  obtain ⟨q9, k10, hf⟩ := am_bnd hf
  obtain ⟨n11, k12, hf⟩ := am_bnd hf
  obtain ⟨b13, hf⟩ := am_bis hf
  obtain ⟨r14, h15, e16, hf⟩ := am_b2_ok hf
  have hs := s_X8_with r5 (Int32.toInt64 ((am_I h6 q9 (Int32.toNatClampNeg (Int32.ofInt 0))) &&& (Int32.ofInt 1))) h6 hs e16
  obtain ⟨r17, h18, c20, s21, c22, s23, e19, hg24, rfl, rfl⟩ := am_bc_ok hf
  have hf := hg24
  have hs := s_X8_machineOf n a3 h15 hs e19
  obtain ⟨k25, hf⟩ := am_bis hf
  obtain ⟨r26, h27, e28, hf⟩ := am_b2_ok hf
  have hs := s_X8_with r14 (Int32.toInt64 (am_I h18 r17 0)) h18 hs e28
  obtain ⟨k29, hf⟩ := am_bis hf
  obtain ⟨r30, h31, e32, hf⟩ := am_b2_ok hf
  have hs := s_X0_endings n q2 h27 hs e32
  obtain ⟨r33, h34, e35, hf⟩ := am_b2_ok hf
  have hs := s_X8_with r26 (Int32.toInt64 r30) h31 hs e35
  exact (m_X8_withBook n).1 a1 a3 q2 r33 (Int32.ofInt 1) h34 _ _ c22 s23 hs hf
set_option maxRecDepth 100000 in
set_option maxHeartbeats 4000000 in
theorem c_X8_withBook (n : Nat) (a1 : Int64) (a3 : Int32) (h : am_H) (hs : am_stat h) {v : Int64} {h' : am_H} {cr sr : Nat} (Cc Ss : Nat) (hC : 0 + cr ≤ Cc) (hS : 0 + sr ≤ Ss) (hf : f_X8_withBook n a1 a3 h = some ((v, h'), cr, sr)) : AMet mX8_withBook (rX8_withBook Cc Ss) (fun r h2 => r = some (.long v) ∧ h2 = h') [.ref 0, .long a1, .int a3] h := by
  unfold f_X8_withBook at hf
  obtain ⟨b1, hf⟩ := am_bis hf
  obtain ⟨q2, k3, hf⟩ := am_bnd hf
  obtain ⟨k4, hf⟩ := am_bis hf
  refine AW_go okX8_withBook 9 ?_
  refine And.intro (sK hs 0) (Exists.intro _ (And.intro (sA hs 0 4) ?_))
  refine Exists.intro 4 (Exists.intro 8 (Exists.intro (some q2) (And.intro (by decide) (And.intro (sK hs 25) (And.intro (am_vp_ok b1) (And.intro k3 ?_))))))
  refine And.intro (am_isO_ok k4) ?_
  obtain ⟨r5, h6, e7, hf⟩ := am_b2_ok hf
  refine AW_callS (As := [.long a1, .long (Int32.toInt64 (am_I h q2 0))]) (R' := rX8_with 0 0) (okX8_withBook.1 15 _ _ rfl) lkX8_with (Or.inl kX8_291) rfl (Nat.le_of_ble_eq_true rfl) ⟨(Nat.le_of_ble_eq_true rfl), (Nat.le_of_ble_eq_true rfl)⟩ ⟨show 0 + 0 ≤ Cc by omega, show 0 + 0 ≤ Ss by omega⟩ (Nat.le_of_ble_eq_true rfl) (c_X8_with a1 (Int32.toInt64 (am_I h q2 0)) h hs e7) (fun r h' hq => ?_)
  obtain ⟨rfl, hq⟩ := hq
  replace hq := hq.symm
  subst hq
  have hs := s_X8_with a1 (Int32.toInt64 (am_I h q2 0)) h hs e7
  obtain ⟨k8, hf⟩ := am_bis hf
  obtain ⟨q9, k10, hf⟩ := am_bnd hf
  obtain ⟨n11, k12, hf⟩ := am_bnd hf
  obtain ⟨b13, hf⟩ := am_bis hf
  refine AW_go okX8_withBook 7 ?_
  refine And.intro (am_isO_ok k8) (Exists.intro (some q9) (And.intro k10 ?_))
  refine Exists.intro n11 (And.intro (am_ln_ok k12) (And.intro (am_vp_ok b13) ?_))
  obtain ⟨r14, h15, e16, hf⟩ := am_b2_ok hf
  refine AW_callS (As := [.long r5, .long (Int32.toInt64 ((am_I h6 q9 (Int32.toNatClampNeg (Int32.ofInt 0))) &&& (Int32.ofInt 1)))]) (R' := rX8_with 0 0) (okX8_withBook.1 28 _ _ rfl) lkX8_with (Or.inl kX8_291) rfl (Nat.le_of_ble_eq_true rfl) ⟨(Nat.le_of_ble_eq_true rfl), (Nat.le_of_ble_eq_true rfl)⟩ ⟨show 0 + 0 ≤ Cc by omega, show 0 + 0 ≤ Ss by omega⟩ (Nat.le_of_ble_eq_true rfl) (c_X8_with r5 (Int32.toInt64 ((am_I h6 q9 (Int32.toNatClampNeg (Int32.ofInt 0))) &&& (Int32.ofInt 1))) h6 hs e16) (fun r h' hq => ?_)
  obtain ⟨rfl, hq⟩ := hq
  replace hq := hq.symm
  subst hq
  have hs := s_X8_with r5 (Int32.toInt64 ((am_I h6 q9 (Int32.toNatClampNeg (Int32.ofInt 0))) &&& (Int32.ofInt 1))) h6 hs e16
  refine AW_go okX8_withBook 4 ?_
  obtain ⟨r17, h18, c20, s21, c22, s23, e19, hg24, rfl, rfl⟩ := am_bc_ok hf
  have hf := hg24
  refine AW_callV (As := [.int a3]) (R' := rX8_machineOf c20 s21) (T := TX8) (N := 18) (ci := 8) (okX8_withBook.1 37 _ _ rfl) lkX8_machineOf kX8_128 rfl (sK hs 0) rfl (Nat.le_of_ble_eq_true rfl) ⟨(Nat.le_of_ble_eq_true rfl), (Nat.le_of_ble_eq_true rfl)⟩ ⟨show 0 + c20 ≤ Cc by omega, show 0 + s21 ≤ Ss by omega⟩ (Nat.le_of_ble_eq_true rfl) (c_X8_machineOf n a3 h15 hs c20 s21 (by omega) (by omega) e19) (fun r h' hq => ?_)
  obtain ⟨rfl, hq⟩ := hq
  replace hq := hq.symm
  subst hq
  have hs := s_X8_machineOf n a3 h15 hs e19
  obtain ⟨k25, hf⟩ := am_bis hf
  refine AW_go okX8_withBook 2 ?_
  refine And.intro (am_isO_ok k25) ?_
  obtain ⟨r26, h27, e28, hf⟩ := am_b2_ok hf
  refine AW_callS (As := [.long r14, .long (Int32.toInt64 (am_I h18 r17 0))]) (R' := rX8_with 0 0) (okX8_withBook.1 44 _ _ rfl) lkX8_with (Or.inl kX8_291) rfl (Nat.le_of_ble_eq_true rfl) ⟨(Nat.le_of_ble_eq_true rfl), (Nat.le_of_ble_eq_true rfl)⟩ ⟨show (0 + c20) + 0 ≤ Cc by omega, show (0 + s21) + 0 ≤ Ss by omega⟩ (Nat.le_of_ble_eq_true rfl) (c_X8_with r14 (Int32.toInt64 (am_I h18 r17 0)) h18 hs e28) (fun r h' hq => ?_)
  obtain ⟨rfl, hq⟩ := hq
  replace hq := hq.symm
  subst hq
  have hs := s_X8_with r14 (Int32.toInt64 (am_I h18 r17 0)) h18 hs e28
  obtain ⟨k29, hf⟩ := am_bis hf
  refine AW_go okX8_withBook 1 ?_
  obtain ⟨r30, h31, e32, hf⟩ := am_b2_ok hf
  refine AW_callV (As := []) (R' := rX0_endings 0 0) (T := TX0) (N := 4) (ci := 0) (okX8_withBook.1 49 _ _ rfl) lkX0_endings kX8_137 rfl (am_isO_ok k29) rfl (Nat.le_of_ble_eq_true rfl) ⟨(Nat.le_of_ble_eq_true rfl), (Nat.le_of_ble_eq_true rfl)⟩ ⟨show (0 + c20) + 0 ≤ Cc by omega, show (0 + s21) + 0 ≤ Ss by omega⟩ (Nat.le_of_ble_eq_true rfl) (c_X0_endings n q2 h27 hs e32) (fun r h' hq => ?_)
  obtain ⟨rfl, hq⟩ := hq
  replace hq := hq.symm
  subst hq
  have hs := s_X0_endings n q2 h27 hs e32
  refine AW_go okX8_withBook 1 ?_
  obtain ⟨r33, h34, e35, hf⟩ := am_b2_ok hf
  refine AW_callS (As := [.long r26, .long (Int32.toInt64 r30)]) (R' := rX8_with 0 0) (okX8_withBook.1 53 _ _ rfl) lkX8_with (Or.inl kX8_291) rfl (Nat.le_of_ble_eq_true rfl) ⟨(Nat.le_of_ble_eq_true rfl), (Nat.le_of_ble_eq_true rfl)⟩ ⟨show (0 + c20) + 0 ≤ Cc by omega, show (0 + s21) + 0 ≤ Ss by omega⟩ (Nat.le_of_ble_eq_true rfl) (c_X8_with r26 (Int32.toInt64 r30) h31 hs e35) (fun r h' hq => ?_)
  obtain ⟨rfl, hq⟩ := hq
  replace hq := hq.symm
  subst hq
  have hs := s_X8_with r26 (Int32.toInt64 r30) h31 hs e35
  refine AW_go okX8_withBook 3 ?_
  refine AW_pick (lv' := [(0, .ref 0), (1, .long a1), (3, .int a3), (4, .ref q2), (5, .long r33), (7, .int (Int32.ofInt 1))]) [3, 4, 5, 2, 1, 0] rfl ?_
  exact (l_X8_withBook n).1 a1 a3 q2 r33 (Int32.ofInt 1) h34 _ _ c22 s23 Cc Ss (0 + c20) (0 + s21) (by omega) (by omega) hs hf
def g_X8_digest : Nat → Nat → Int64 → Int32 → am_H → Option ((Int64 × am_H) × Nat × Nat)
  | 0, _, _, _, _ => none
  | n + 1, tag, x1j, x3i, h => bif Nat.beq tag 0 then ((if (am_I h 0 5) ≤ x3i then g_X8_digest n 1 x1j (Int32.ofInt 0) h else am_bc (f_X8_withBook n x1j x3i h) fun r2 h3 => (g_X8_digest n 0 r2 (x3i + Int32.ofInt 1) h3))) else (bif Nat.beq tag 1 then ((if (Int32.ofInt 3) ≤ x3i then g_X8_digest n 2 x1j (Int32.ofInt 0) h else bif am_vp x3i 3 then (am_b2 (f_X8_with x1j (Int32.toInt64 (am_I h 27 (Int32.toNatClampNeg x3i))) h) fun r3 h4 => (am_b2 (f_X8_at x3i h4) fun r6 h7 => (am_b2 (f_X8_with r3 (Int32.toInt64 r6) h7) fun r9 h10 => (g_X8_digest n 1 r9 (x3i + Int32.ofInt 1) h10)))) else none)) else (bif Nat.beq tag 2 then ((if (Int32.ofInt 6) ≤ x3i then am_b2 (f_X8_with x1j (Int32.toInt64 (am_I h 28 0)) h) fun r2 h3 => (am_b2 (f_X7_list n (am_J h3 0 10) h3) fun r5 h6 => (am_b2 (f_X8_with r2 (Int32.toInt64 r5) h6) fun r8 h9 => (am_bc (f_X8_met n h9) fun r11 h12 => (am_b2 (f_X8_with r8 (Int32.toInt64 r11) h12) fun r19 h20 => (g_X8_digest n 3 r19 (Int32.ofInt 0) h20))))) else am_b2 (f_X8_withPost n x1j x3i h) fun r22 h23 => (g_X8_digest n 2 r22 (x3i + Int32.ofInt 1) h23))) else (bif Nat.beq tag 3 then ((if (am_I h 1 1) ≤ x3i then g_X8_digest n 4 x1j (Int32.ofInt 0) h else bif am_vp x3i 60 then (am_b2 (f_X8_with x1j (Int32.toInt64 (am_I h 2 (Int32.toNatClampNeg x3i))) h) fun r3 h4 => (g_X8_digest n 3 r3 (x3i + Int32.ofInt 1) h4)) else none)) else ((if (Int32.ofInt 5) < x3i then some ((x1j, h), 0, 0) else am_b2 (f_X8_count n x3i h) fun r2 h3 => (am_b2 (f_X8_with x1j (Int32.toInt64 r2) h3) fun r5 h6 => (g_X8_digest n 4 r5 (x3i + Int32.ofInt 1) h6)))))))
set_option maxRecDepth 100000 in
set_option maxHeartbeats 4000000 in
theorem m_X8_digest (n : Nat) : (∀ (x1j : Int64) (x3i : Int32) (h : am_H) (v : Int64) (h' : am_H) (cr sr : Nat), am_stat h → g_X8_digest n 0 x1j x3i h = some ((v, h'), cr, sr) → am_stat h') ∧ (∀ (x1j : Int64) (x3i : Int32) (h : am_H) (v : Int64) (h' : am_H) (cr sr : Nat), am_stat h → g_X8_digest n 1 x1j x3i h = some ((v, h'), cr, sr) → am_stat h') ∧ (∀ (x1j : Int64) (x3i : Int32) (h : am_H) (v : Int64) (h' : am_H) (cr sr : Nat), am_stat h → g_X8_digest n 2 x1j x3i h = some ((v, h'), cr, sr) → am_stat h') ∧ (∀ (x1j : Int64) (x3i : Int32) (h : am_H) (v : Int64) (h' : am_H) (cr sr : Nat), am_stat h → g_X8_digest n 3 x1j x3i h = some ((v, h'), cr, sr) → am_stat h') ∧ (∀ (x1j : Int64) (x3i : Int32) (h : am_H) (v : Int64) (h' : am_H) (cr sr : Nat), am_stat h → g_X8_digest n 4 x1j x3i h = some ((v, h'), cr, sr) → am_stat h') := by
  induction n with
  | zero => exact ⟨fun x1j x3i h v h' cr sr hs hf => (by cases hf), fun x1j x3i h v h' cr sr hs hf => (by cases hf), fun x1j x3i h v h' cr sr hs hf => (by cases hf), fun x1j x3i h v h' cr sr hs hf => (by cases hf), fun x1j x3i h v h' cr sr hs hf => (by cases hf)⟩
  | succ n ih =>
    refine ⟨?_, ?_, ?_, ?_, ?_⟩
    · intro x1j x3i h v h' cr sr hs hf
      have hf : ((if (am_I h 0 5) ≤ x3i then g_X8_digest n 1 x1j (Int32.ofInt 0) h else am_bc (f_X8_withBook n x1j x3i h) fun r2 h3 => (g_X8_digest n 0 r2 (x3i + Int32.ofInt 1) h3))) = some ((v, h'), cr, sr) := hf
      by_cases c1 : (am_I h 0 5) ≤ x3i
      · rw [if_pos c1] at hf
        exact ih.2.1 x1j (Int32.ofInt 0) h _ _ cr sr hs hf
      · rw [if_neg c1] at hf
        obtain ⟨r2, h3, c5, s6, c7, s8, e4, hg9, rfl, rfl⟩ := am_bc_ok hf
        have hf := hg9
        have hs := s_X8_withBook n x1j x3i h hs e4
        exact ih.1 r2 (x3i + Int32.ofInt 1) h3 _ _ c7 s8 hs hf
    · intro x1j x3i h v h' cr sr hs hf
      have hf : ((if (Int32.ofInt 3) ≤ x3i then g_X8_digest n 2 x1j (Int32.ofInt 0) h else bif am_vp x3i 3 then (am_b2 (f_X8_with x1j (Int32.toInt64 (am_I h 27 (Int32.toNatClampNeg x3i))) h) fun r3 h4 => (am_b2 (f_X8_at x3i h4) fun r6 h7 => (am_b2 (f_X8_with r3 (Int32.toInt64 r6) h7) fun r9 h10 => (g_X8_digest n 1 r9 (x3i + Int32.ofInt 1) h10)))) else none)) = some ((v, h'), cr, sr) := hf
      by_cases c1 : (Int32.ofInt 3) ≤ x3i
      · rw [if_pos c1] at hf
        exact ih.2.2.1 x1j (Int32.ofInt 0) h _ _ cr sr hs hf
      · rw [if_neg c1] at hf
        obtain ⟨b2, hf⟩ := am_bis hf
        obtain ⟨r3, h4, e5, hf⟩ := am_b2_ok hf
        have hs := s_X8_with x1j (Int32.toInt64 (am_I h 27 (Int32.toNatClampNeg x3i))) h hs e5
        obtain ⟨r6, h7, e8, hf⟩ := am_b2_ok hf
        have hs := s_X8_at x3i h4 hs e8
        obtain ⟨r9, h10, e11, hf⟩ := am_b2_ok hf
        have hs := s_X8_with r3 (Int32.toInt64 r6) h7 hs e11
        exact ih.2.1 r9 (x3i + Int32.ofInt 1) h10 _ _ cr sr hs hf
    · intro x1j x3i h v h' cr sr hs hf
      have hf : ((if (Int32.ofInt 6) ≤ x3i then am_b2 (f_X8_with x1j (Int32.toInt64 (am_I h 28 0)) h) fun r2 h3 => (am_b2 (f_X7_list n (am_J h3 0 10) h3) fun r5 h6 => (am_b2 (f_X8_with r2 (Int32.toInt64 r5) h6) fun r8 h9 => (am_bc (f_X8_met n h9) fun r11 h12 => (am_b2 (f_X8_with r8 (Int32.toInt64 r11) h12) fun r19 h20 => (g_X8_digest n 3 r19 (Int32.ofInt 0) h20))))) else am_b2 (f_X8_withPost n x1j x3i h) fun r22 h23 => (g_X8_digest n 2 r22 (x3i + Int32.ofInt 1) h23))) = some ((v, h'), cr, sr) := hf
      by_cases c1 : (Int32.ofInt 6) ≤ x3i
      · rw [if_pos c1] at hf
        obtain ⟨r2, h3, e4, hf⟩ := am_b2_ok hf
        have hs := s_X8_with x1j (Int32.toInt64 (am_I h 28 0)) h hs e4
        obtain ⟨r5, h6, e7, hf⟩ := am_b2_ok hf
        have hs := s_X7_list n (am_J h3 0 10) h3 hs e7
        obtain ⟨r8, h9, e10, hf⟩ := am_b2_ok hf
        have hs := s_X8_with r2 (Int32.toInt64 r5) h6 hs e10
        obtain ⟨r11, h12, c14, s15, c16, s17, e13, hg18, rfl, rfl⟩ := am_bc_ok hf
        have hf := hg18
        have hs := s_X8_met n h9 hs e13
        obtain ⟨r19, h20, e21, hf⟩ := am_b2_ok hf
        have hs := s_X8_with r8 (Int32.toInt64 r11) h12 hs e21
        exact ih.2.2.2.1 r19 (Int32.ofInt 0) h20 _ _ c16 s17 hs hf
      · rw [if_neg c1] at hf
        obtain ⟨r22, h23, e24, hf⟩ := am_b2_ok hf
        have hs := s_X8_withPost n x1j x3i h hs e24
        exact ih.2.2.1 r22 (x3i + Int32.ofInt 1) h23 _ _ cr sr hs hf
    · intro x1j x3i h v h' cr sr hs hf
      have hf : ((if (am_I h 1 1) ≤ x3i then g_X8_digest n 4 x1j (Int32.ofInt 0) h else bif am_vp x3i 60 then (am_b2 (f_X8_with x1j (Int32.toInt64 (am_I h 2 (Int32.toNatClampNeg x3i))) h) fun r3 h4 => (g_X8_digest n 3 r3 (x3i + Int32.ofInt 1) h4)) else none)) = some ((v, h'), cr, sr) := hf
      by_cases c1 : (am_I h 1 1) ≤ x3i
      · rw [if_pos c1] at hf
        exact ih.2.2.2.2 x1j (Int32.ofInt 0) h _ _ cr sr hs hf
      · rw [if_neg c1] at hf
        obtain ⟨b2, hf⟩ := am_bis hf
        obtain ⟨r3, h4, e5, hf⟩ := am_b2_ok hf
        have hs := s_X8_with x1j (Int32.toInt64 (am_I h 2 (Int32.toNatClampNeg x3i))) h hs e5
        exact ih.2.2.2.1 r3 (x3i + Int32.ofInt 1) h4 _ _ cr sr hs hf
    · intro x1j x3i h v h' cr sr hs hf
      have hf : ((if (Int32.ofInt 5) < x3i then some ((x1j, h), 0, 0) else am_b2 (f_X8_count n x3i h) fun r2 h3 => (am_b2 (f_X8_with x1j (Int32.toInt64 r2) h3) fun r5 h6 => (g_X8_digest n 4 r5 (x3i + Int32.ofInt 1) h6)))) = some ((v, h'), cr, sr) := hf
      by_cases c1 : (Int32.ofInt 5) < x3i
      · rw [if_pos c1] at hf
        obtain ⟨rfl, rfl, rfl, rfl⟩ := am_ic hf
        exact hs
      · rw [if_neg c1] at hf
        obtain ⟨r2, h3, e4, hf⟩ := am_b2_ok hf
        have hs := s_X8_count n x3i h hs e4
        obtain ⟨r5, h6, e7, hf⟩ := am_b2_ok hf
        have hs := s_X8_with x1j (Int32.toInt64 r2) h3 hs e7
        exact ih.2.2.2.2 r5 (x3i + Int32.ofInt 1) h6 _ _ cr sr hs hf
set_option maxRecDepth 100000 in
set_option maxHeartbeats 4000000 in
theorem l_X8_digest (n : Nat) : (∀ (x1j : Int64) (x3i : Int32) (h : am_H) (v : Int64) (h' : am_H) (cr sr : Nat) (Cc Ss ac sc : Nat), ac + cr ≤ Cc → sc + sr ≤ Ss → am_stat h → g_X8_digest n 0 x1j x3i h = some ((v, h'), cr, sr) → AW mX8_digest (rX8_digest Cc Ss) (fun r h2 => r = some (.long v) ∧ h2 = h') 6 [(0, .ref 0), (1, .long x1j), (3, .int x3i)] [] h ac sc) ∧ (∀ (x1j : Int64) (x3i : Int32) (h : am_H) (v : Int64) (h' : am_H) (cr sr : Nat) (Cc Ss ac sc : Nat), ac + cr ≤ Cc → sc + sr ≤ Ss → am_stat h → g_X8_digest n 1 x1j x3i h = some ((v, h'), cr, sr) → AW mX8_digest (rX8_digest Cc Ss) (fun r h2 => r = some (.long v) ∧ h2 = h') 29 [(0, .ref 0), (1, .long x1j), (3, .int x3i)] [] h ac sc) ∧ (∀ (x1j : Int64) (x3i : Int32) (h : am_H) (v : Int64) (h' : am_H) (cr sr : Nat) (Cc Ss ac sc : Nat), ac + cr ≤ Cc → sc + sr ≤ Ss → am_stat h → g_X8_digest n 2 x1j x3i h = some ((v, h'), cr, sr) → AW mX8_digest (rX8_digest Cc Ss) (fun r h2 => r = some (.long v) ∧ h2 = h') 63 [(0, .ref 0), (1, .long x1j), (3, .int x3i)] [] h ac sc) ∧ (∀ (x1j : Int64) (x3i : Int32) (h : am_H) (v : Int64) (h' : am_H) (cr sr : Nat) (Cc Ss ac sc : Nat), ac + cr ≤ Cc → sc + sr ≤ Ss → am_stat h → g_X8_digest n 3 x1j x3i h = some ((v, h'), cr, sr) → AW mX8_digest (rX8_digest Cc Ss) (fun r h2 => r = some (.long v) ∧ h2 = h') 120 [(0, .ref 0), (1, .long x1j), (3, .int x3i)] [] h ac sc) ∧ (∀ (x1j : Int64) (x3i : Int32) (h : am_H) (v : Int64) (h' : am_H) (cr sr : Nat) (Cc Ss ac sc : Nat), ac + cr ≤ Cc → sc + sr ≤ Ss → am_stat h → g_X8_digest n 4 x1j x3i h = some ((v, h'), cr, sr) → AW mX8_digest (rX8_digest Cc Ss) (fun r h2 => r = some (.long v) ∧ h2 = h') 154 [(0, .ref 0), (1, .long x1j), (3, .int x3i)] [] h ac sc) := by
  induction n with
  | zero => exact ⟨fun x1j x3i h v h' cr sr Cc Ss ac sc hC hS hs hf => (by cases hf), fun x1j x3i h v h' cr sr Cc Ss ac sc hC hS hs hf => (by cases hf), fun x1j x3i h v h' cr sr Cc Ss ac sc hC hS hs hf => (by cases hf), fun x1j x3i h v h' cr sr Cc Ss ac sc hC hS hs hf => (by cases hf), fun x1j x3i h v h' cr sr Cc Ss ac sc hC hS hs hf => (by cases hf)⟩
  | succ n ih =>
    refine ⟨?_, ?_, ?_, ?_, ?_⟩
    · intro x1j x3i h v h' cr sr Cc Ss ac sc hC hS hs hf
      have hf : ((if (am_I h 0 5) ≤ x3i then g_X8_digest n 1 x1j (Int32.ofInt 0) h else am_bc (f_X8_withBook n x1j x3i h) fun r2 h3 => (g_X8_digest n 0 r2 (x3i + Int32.ofInt 1) h3))) = some ((v, h'), cr, sr) := hf
      refine AW_go okX8_digest 4 ?_
      refine And.intro (sK hs 0) ?_
      refine And.intro (fun c1 => ?_) (fun c1 => ?_)
      · rw [if_pos c1] at hf
        refine AW_go okX8_digest 2 ?_
        refine AW_pick (lv' := [(0, .ref 0), (1, .long x1j), (3, .int (Int32.ofInt 0))]) [1, 2, 0] rfl ?_
        exact ih.2.1 x1j (Int32.ofInt 0) h _ _ cr sr Cc Ss ac sc (by omega) (by omega) hs hf
      · rw [if_neg c1] at hf
        refine AW_go okX8_digest 3 ?_
        obtain ⟨r2, h3, c5, s6, c7, s8, e4, hg9, rfl, rfl⟩ := am_bc_ok hf
        have hf := hg9
        refine AW_callV (As := [.long x1j, .int x3i]) (R' := rX8_withBook c5 s6) (T := TX8) (N := 18) (ci := 8) (okX8_digest.1 17 _ _ rfl) lkX8_withBook kX8_287 rfl (sK hs 0) rfl (Nat.le_of_ble_eq_true rfl) ⟨(Nat.le_of_ble_eq_true rfl), (Nat.le_of_ble_eq_true rfl)⟩ ⟨show ac + c5 ≤ Cc by omega, show sc + s6 ≤ Ss by omega⟩ (Nat.le_of_ble_eq_true rfl) (c_X8_withBook n x1j x3i h hs c5 s6 (by omega) (by omega) e4) (fun r h' hq => ?_)
        obtain ⟨rfl, hq⟩ := hq
        replace hq := hq.symm
        subst hq
        have hs := s_X8_withBook n x1j x3i h hs e4
        refine AW_go okX8_digest 3 ?_
        refine AW_pick (lv' := [(0, .ref 0), (1, .long r2), (3, .int (x3i + Int32.ofInt 1))]) [2, 1, 0] rfl ?_
        exact ih.1 r2 (x3i + Int32.ofInt 1) h3 _ _ c7 s8 Cc Ss (ac + c5) (sc + s6) (by omega) (by omega) hs hf
    · intro x1j x3i h v h' cr sr Cc Ss ac sc hC hS hs hf
      have hf : ((if (Int32.ofInt 3) ≤ x3i then g_X8_digest n 2 x1j (Int32.ofInt 0) h else bif am_vp x3i 3 then (am_b2 (f_X8_with x1j (Int32.toInt64 (am_I h 27 (Int32.toNatClampNeg x3i))) h) fun r3 h4 => (am_b2 (f_X8_at x3i h4) fun r6 h7 => (am_b2 (f_X8_with r3 (Int32.toInt64 r6) h7) fun r9 h10 => (g_X8_digest n 1 r9 (x3i + Int32.ofInt 1) h10)))) else none)) = some ((v, h'), cr, sr) := hf
      refine AW_go okX8_digest 3 ?_
      refine And.intro (fun c1 => ?_) (fun c1 => ?_)
      · rw [if_pos c1] at hf
        refine AW_go okX8_digest 2 ?_
        refine AW_pick (lv' := [(0, .ref 0), (1, .long x1j), (3, .int (Int32.ofInt 0))]) [1, 2, 0] rfl ?_
        exact ih.2.2.1 x1j (Int32.ofInt 0) h _ _ cr sr Cc Ss ac sc (by omega) (by omega) hs hf
      · rw [if_neg c1] at hf
        obtain ⟨b2, hf⟩ := am_bis hf
        refine AW_go okX8_digest 6 ?_
        refine And.intro (sK hs 0) (Exists.intro _ (And.intro (sA hs 0 8) ?_))
        refine Exists.intro 3 (And.intro (sK hs 27) (And.intro (am_vp_ok b2) ?_))
        obtain ⟨r3, h4, e5, hf⟩ := am_b2_ok hf
        refine AW_callS (As := [.long x1j, .long (Int32.toInt64 (am_I h 27 (Int32.toNatClampNeg x3i)))]) (R' := rX8_with 0 0) (okX8_digest.1 42 _ _ rfl) lkX8_with (Or.inl kX8_291) rfl (Nat.le_of_ble_eq_true rfl) ⟨(Nat.le_of_ble_eq_true rfl), (Nat.le_of_ble_eq_true rfl)⟩ ⟨show ac + 0 ≤ Cc by omega, show sc + 0 ≤ Ss by omega⟩ (Nat.le_of_ble_eq_true rfl) (c_X8_with x1j (Int32.toInt64 (am_I h 27 (Int32.toNatClampNeg x3i))) h hs e5) (fun r h' hq => ?_)
        obtain ⟨rfl, hq⟩ := hq
        replace hq := hq.symm
        subst hq
        have hs := s_X8_with x1j (Int32.toInt64 (am_I h 27 (Int32.toNatClampNeg x3i))) h hs e5
        refine AW_go okX8_digest 2 ?_
        obtain ⟨r6, h7, e8, hf⟩ := am_b2_ok hf
        refine AW_callV (As := [.int x3i]) (R' := rX8_at 0 0) (T := TX8) (N := 18) (ci := 8) (okX8_digest.1 47 _ _ rfl) lkX8_at kX8_295 rfl (sK hs 0) rfl (Nat.le_of_ble_eq_true rfl) ⟨(Nat.le_of_ble_eq_true rfl), (Nat.le_of_ble_eq_true rfl)⟩ ⟨show ac + 0 ≤ Cc by omega, show sc + 0 ≤ Ss by omega⟩ (Nat.le_of_ble_eq_true rfl) (c_X8_at x3i h4 hs e8) (fun r h' hq => ?_)
        obtain ⟨rfl, hq⟩ := hq
        replace hq := hq.symm
        subst hq
        have hs := s_X8_at x3i h4 hs e8
        refine AW_go okX8_digest 1 ?_
        obtain ⟨r9, h10, e11, hf⟩ := am_b2_ok hf
        refine AW_callS (As := [.long r3, .long (Int32.toInt64 r6)]) (R' := rX8_with 0 0) (okX8_digest.1 51 _ _ rfl) lkX8_with (Or.inl kX8_291) rfl (Nat.le_of_ble_eq_true rfl) ⟨(Nat.le_of_ble_eq_true rfl), (Nat.le_of_ble_eq_true rfl)⟩ ⟨show ac + 0 ≤ Cc by omega, show sc + 0 ≤ Ss by omega⟩ (Nat.le_of_ble_eq_true rfl) (c_X8_with r3 (Int32.toInt64 r6) h7 hs e11) (fun r h' hq => ?_)
        obtain ⟨rfl, hq⟩ := hq
        replace hq := hq.symm
        subst hq
        have hs := s_X8_with r3 (Int32.toInt64 r6) h7 hs e11
        refine AW_go okX8_digest 3 ?_
        refine AW_pick (lv' := [(0, .ref 0), (1, .long r9), (3, .int (x3i + Int32.ofInt 1))]) [2, 1, 0] rfl ?_
        exact ih.2.1 r9 (x3i + Int32.ofInt 1) h10 _ _ cr sr Cc Ss ac sc (by omega) (by omega) hs hf
    · intro x1j x3i h v h' cr sr Cc Ss ac sc hC hS hs hf
      have hf : ((if (Int32.ofInt 6) ≤ x3i then am_b2 (f_X8_with x1j (Int32.toInt64 (am_I h 28 0)) h) fun r2 h3 => (am_b2 (f_X7_list n (am_J h3 0 10) h3) fun r5 h6 => (am_b2 (f_X8_with r2 (Int32.toInt64 r5) h6) fun r8 h9 => (am_bc (f_X8_met n h9) fun r11 h12 => (am_b2 (f_X8_with r8 (Int32.toInt64 r11) h12) fun r19 h20 => (g_X8_digest n 3 r19 (Int32.ofInt 0) h20))))) else am_b2 (f_X8_withPost n x1j x3i h) fun r22 h23 => (g_X8_digest n 2 r22 (x3i + Int32.ofInt 1) h23))) = some ((v, h'), cr, sr) := hf
      refine AW_go okX8_digest 3 ?_
      refine And.intro (fun c1 => ?_) (fun c1 => ?_)
      · rw [if_pos c1] at hf
        refine AW_go okX8_digest 5 ?_
        refine And.intro (sK hs 0) (Exists.intro _ (And.intro (sA hs 0 9) ?_))
        refine And.intro (sK hs 28) ?_
        obtain ⟨r2, h3, e4, hf⟩ := am_b2_ok hf
        refine AW_callS (As := [.long x1j, .long (Int32.toInt64 (am_I h 28 0))]) (R' := rX8_with 0 0) (okX8_digest.1 91 _ _ rfl) lkX8_with (Or.inl kX8_291) rfl (Nat.le_of_ble_eq_true rfl) ⟨(Nat.le_of_ble_eq_true rfl), (Nat.le_of_ble_eq_true rfl)⟩ ⟨show ac + 0 ≤ Cc by omega, show sc + 0 ≤ Ss by omega⟩ (Nat.le_of_ble_eq_true rfl) (c_X8_with x1j (Int32.toInt64 (am_I h 28 0)) h hs e4) (fun r h' hq => ?_)
        obtain ⟨rfl, hq⟩ := hq
        replace hq := hq.symm
        subst hq
        have hs := s_X8_with x1j (Int32.toInt64 (am_I h 28 0)) h hs e4
        refine AW_go okX8_digest 4 ?_
        refine And.intro (sK hs 0) (Exists.intro _ (And.intro (sA hs 0 9) ?_))
        refine And.intro (sK hs 0) ?_
        obtain ⟨r5, h6, e7, hf⟩ := am_b2_ok hf
        refine AW_callV (As := [.long (am_J h3 0 10)]) (R' := rX7_list 0 0) (T := TX7) (N := 10) (ci := 7) (okX8_digest.1 102 _ _ rfl) lkX7_list kX8_216 rfl (sK hs 28) rfl (Nat.le_of_ble_eq_true rfl) ⟨(Nat.le_of_ble_eq_true rfl), (Nat.le_of_ble_eq_true rfl)⟩ ⟨show ac + 0 ≤ Cc by omega, show sc + 0 ≤ Ss by omega⟩ (Nat.le_of_ble_eq_true rfl) (c_X7_list n (am_J h3 0 10) h3 hs e7) (fun r h' hq => ?_)
        obtain ⟨rfl, hq⟩ := hq
        replace hq := hq.symm
        subst hq
        have hs := s_X7_list n (am_J h3 0 10) h3 hs e7
        refine AW_go okX8_digest 1 ?_
        obtain ⟨r8, h9, e10, hf⟩ := am_b2_ok hf
        refine AW_callS (As := [.long r2, .long (Int32.toInt64 r5)]) (R' := rX8_with 0 0) (okX8_digest.1 106 _ _ rfl) lkX8_with (Or.inl kX8_291) rfl (Nat.le_of_ble_eq_true rfl) ⟨(Nat.le_of_ble_eq_true rfl), (Nat.le_of_ble_eq_true rfl)⟩ ⟨show ac + 0 ≤ Cc by omega, show sc + 0 ≤ Ss by omega⟩ (Nat.le_of_ble_eq_true rfl) (c_X8_with r2 (Int32.toInt64 r5) h6 hs e10) (fun r h' hq => ?_)
        obtain ⟨rfl, hq⟩ := hq
        replace hq := hq.symm
        subst hq
        have hs := s_X8_with r2 (Int32.toInt64 r5) h6 hs e10
        refine AW_go okX8_digest 1 ?_
        obtain ⟨r11, h12, c14, s15, c16, s17, e13, hg18, rfl, rfl⟩ := am_bc_ok hf
        have hf := hg18
        refine AW_callV (As := []) (R' := rX8_met c14 s15) (T := TX8) (N := 18) (ci := 8) (okX8_digest.1 110 _ _ rfl) lkX8_met kX8_301 rfl (sK hs 0) rfl (Nat.le_of_ble_eq_true rfl) ⟨(Nat.le_of_ble_eq_true rfl), (Nat.le_of_ble_eq_true rfl)⟩ ⟨show ac + c14 ≤ Cc by omega, show sc + s15 ≤ Ss by omega⟩ (Nat.le_of_ble_eq_true rfl) (c_X8_met n h9 hs c14 s15 (by omega) (by omega) e13) (fun r h' hq => ?_)
        obtain ⟨rfl, hq⟩ := hq
        replace hq := hq.symm
        subst hq
        have hs := s_X8_met n h9 hs e13
        refine AW_go okX8_digest 1 ?_
        obtain ⟨r19, h20, e21, hf⟩ := am_b2_ok hf
        refine AW_callS (As := [.long r8, .long (Int32.toInt64 r11)]) (R' := rX8_with 0 0) (okX8_digest.1 114 _ _ rfl) lkX8_with (Or.inl kX8_291) rfl (Nat.le_of_ble_eq_true rfl) ⟨(Nat.le_of_ble_eq_true rfl), (Nat.le_of_ble_eq_true rfl)⟩ ⟨show (ac + c14) + 0 ≤ Cc by omega, show (sc + s15) + 0 ≤ Ss by omega⟩ (Nat.le_of_ble_eq_true rfl) (c_X8_with r8 (Int32.toInt64 r11) h12 hs e21) (fun r h' hq => ?_)
        obtain ⟨rfl, hq⟩ := hq
        replace hq := hq.symm
        subst hq
        have hs := s_X8_with r8 (Int32.toInt64 r11) h12 hs e21
        refine AW_go okX8_digest 3 ?_
        refine AW_pick (lv' := [(0, .ref 0), (1, .long r19), (3, .int (Int32.ofInt 0))]) [2, 1, 0] rfl ?_
        exact ih.2.2.2.1 r19 (Int32.ofInt 0) h20 _ _ c16 s17 Cc Ss (ac + c14) (sc + s15) (by omega) (by omega) hs hf
      · rw [if_neg c1] at hf
        refine AW_go okX8_digest 3 ?_
        obtain ⟨r22, h23, e24, hf⟩ := am_b2_ok hf
        refine AW_callV (As := [.long x1j, .int x3i]) (R' := rX8_withPost 0 0) (T := TX8) (N := 18) (ci := 8) (okX8_digest.1 72 _ _ rfl) lkX8_withPost kX8_298 rfl (sK hs 0) rfl (Nat.le_of_ble_eq_true rfl) ⟨(Nat.le_of_ble_eq_true rfl), (Nat.le_of_ble_eq_true rfl)⟩ ⟨show ac + 0 ≤ Cc by omega, show sc + 0 ≤ Ss by omega⟩ (Nat.le_of_ble_eq_true rfl) (c_X8_withPost n x1j x3i h hs e24) (fun r h' hq => ?_)
        obtain ⟨rfl, hq⟩ := hq
        replace hq := hq.symm
        subst hq
        have hs := s_X8_withPost n x1j x3i h hs e24
        refine AW_go okX8_digest 3 ?_
        refine AW_pick (lv' := [(0, .ref 0), (1, .long r22), (3, .int (x3i + Int32.ofInt 1))]) [2, 1, 0] rfl ?_
        exact ih.2.2.1 r22 (x3i + Int32.ofInt 1) h23 _ _ cr sr Cc Ss ac sc (by omega) (by omega) hs hf
    · intro x1j x3i h v h' cr sr Cc Ss ac sc hC hS hs hf
      have hf : ((if (am_I h 1 1) ≤ x3i then g_X8_digest n 4 x1j (Int32.ofInt 0) h else bif am_vp x3i 60 then (am_b2 (f_X8_with x1j (Int32.toInt64 (am_I h 2 (Int32.toNatClampNeg x3i))) h) fun r3 h4 => (g_X8_digest n 3 r3 (x3i + Int32.ofInt 1) h4)) else none)) = some ((v, h'), cr, sr) := hf
      refine AW_go okX8_digest 5 ?_
      refine And.intro (sK hs 0) (Exists.intro _ (And.intro (sA hs 0 0) ?_))
      refine And.intro (sK hs 1) ?_
      refine And.intro (fun c1 => ?_) (fun c1 => ?_)
      · rw [if_pos c1] at hf
        refine AW_go okX8_digest 2 ?_
        refine AW_pick (lv' := [(0, .ref 0), (1, .long x1j), (3, .int (Int32.ofInt 0))]) [1, 2, 0] rfl ?_
        exact ih.2.2.2.2 x1j (Int32.ofInt 0) h _ _ cr sr Cc Ss ac sc (by omega) (by omega) hs hf
      · rw [if_neg c1] at hf
        obtain ⟨b2, hf⟩ := am_bis hf
        refine AW_go okX8_digest 7 ?_
        refine And.intro (sK hs 0) (Exists.intro _ (And.intro (sA hs 0 0) ?_))
        refine And.intro (sK hs 1) (Exists.intro _ (And.intro (sA hs 1 0) ?_))
        refine Exists.intro 60 (And.intro (sK hs 2) (And.intro (am_vp_ok b2) ?_))
        obtain ⟨r3, h4, e5, hf⟩ := am_b2_ok hf
        refine AW_callS (As := [.long x1j, .long (Int32.toInt64 (am_I h 2 (Int32.toNatClampNeg x3i)))]) (R' := rX8_with 0 0) (okX8_digest.1 142 _ _ rfl) lkX8_with (Or.inl kX8_291) rfl (Nat.le_of_ble_eq_true rfl) ⟨(Nat.le_of_ble_eq_true rfl), (Nat.le_of_ble_eq_true rfl)⟩ ⟨show ac + 0 ≤ Cc by omega, show sc + 0 ≤ Ss by omega⟩ (Nat.le_of_ble_eq_true rfl) (c_X8_with x1j (Int32.toInt64 (am_I h 2 (Int32.toNatClampNeg x3i))) h hs e5) (fun r h' hq => ?_)
        obtain ⟨rfl, hq⟩ := hq
        replace hq := hq.symm
        subst hq
        have hs := s_X8_with x1j (Int32.toInt64 (am_I h 2 (Int32.toNatClampNeg x3i))) h hs e5
        refine AW_go okX8_digest 3 ?_
        refine AW_pick (lv' := [(0, .ref 0), (1, .long r3), (3, .int (x3i + Int32.ofInt 1))]) [2, 1, 0] rfl ?_
        exact ih.2.2.2.1 r3 (x3i + Int32.ofInt 1) h4 _ _ cr sr Cc Ss ac sc (by omega) (by omega) hs hf
    · intro x1j x3i h v h' cr sr Cc Ss ac sc hC hS hs hf
      have hf : ((if (Int32.ofInt 5) < x3i then some ((x1j, h), 0, 0) else am_b2 (f_X8_count n x3i h) fun r2 h3 => (am_b2 (f_X8_with x1j (Int32.toInt64 r2) h3) fun r5 h6 => (g_X8_digest n 4 r5 (x3i + Int32.ofInt 1) h6)))) = some ((v, h'), cr, sr) := hf
      refine AW_go okX8_digest 3 ?_
      refine And.intro (fun c1 => ?_) (fun c1 => ?_)
      · rw [if_pos c1] at hf
        refine AW_go okX8_digest 2 ?_
        obtain ⟨rfl, rfl, rfl, rfl⟩ := am_ic hf
        exact And.intro ⟨show ac ≤ Cc by omega, show sc ≤ Ss by omega⟩ (And.intro rfl ⟨rfl, rfl⟩)
      · rw [if_neg c1] at hf
        refine AW_go okX8_digest 3 ?_
        obtain ⟨r2, h3, e4, hf⟩ := am_b2_ok hf
        refine AW_callV (As := [.int x3i]) (R' := rX8_count 0 0) (T := TX8) (N := 18) (ci := 8) (okX8_digest.1 162 _ _ rfl) lkX8_count kX8_307 rfl (sK hs 0) rfl (Nat.le_of_ble_eq_true rfl) ⟨(Nat.le_of_ble_eq_true rfl), (Nat.le_of_ble_eq_true rfl)⟩ ⟨show ac + 0 ≤ Cc by omega, show sc + 0 ≤ Ss by omega⟩ (Nat.le_of_ble_eq_true rfl) (c_X8_count n x3i h hs e4) (fun r h' hq => ?_)
        obtain ⟨rfl, hq⟩ := hq
        replace hq := hq.symm
        subst hq
        have hs := s_X8_count n x3i h hs e4
        refine AW_go okX8_digest 1 ?_
        obtain ⟨r5, h6, e7, hf⟩ := am_b2_ok hf
        refine AW_callS (As := [.long x1j, .long (Int32.toInt64 r2)]) (R' := rX8_with 0 0) (okX8_digest.1 166 _ _ rfl) lkX8_with (Or.inl kX8_291) rfl (Nat.le_of_ble_eq_true rfl) ⟨(Nat.le_of_ble_eq_true rfl), (Nat.le_of_ble_eq_true rfl)⟩ ⟨show ac + 0 ≤ Cc by omega, show sc + 0 ≤ Ss by omega⟩ (Nat.le_of_ble_eq_true rfl) (c_X8_with x1j (Int32.toInt64 r2) h3 hs e7) (fun r h' hq => ?_)
        obtain ⟨rfl, hq⟩ := hq
        replace hq := hq.symm
        subst hq
        have hs := s_X8_with x1j (Int32.toInt64 r2) h3 hs e7
        refine AW_go okX8_digest 3 ?_
        refine AW_pick (lv' := [(0, .ref 0), (1, .long r5), (3, .int (x3i + Int32.ofInt 1))]) [2, 1, 0] rfl ?_
        exact ih.2.2.2.2 r5 (x3i + Int32.ofInt 1) h6 _ _ cr sr Cc Ss ac sc (by omega) (by omega) hs hf
def f_X8_digest (n : Nat) (h : am_H) : Option ((Int64 × am_H) × Nat × Nat) := g_X8_digest n 0 (307 : Int64) (Int32.ofInt 0) h
set_option maxRecDepth 100000 in
set_option maxHeartbeats 4000000 in
theorem s_X8_digest (n : Nat) (h : am_H) (hs : am_stat h) {v : Int64} {h' : am_H} {cr sr : Nat} (hf : f_X8_digest n h = some ((v, h'), cr, sr)) : am_stat h' := by
  unfold f_X8_digest at hf
  exact (m_X8_digest n).1 (307 : Int64) (Int32.ofInt 0) h _ _ cr sr hs hf
set_option maxRecDepth 100000 in
set_option maxHeartbeats 4000000 in
theorem c_X8_digest (n : Nat) (h : am_H) (hs : am_stat h) {v : Int64} {h' : am_H} {cr sr : Nat} (Cc Ss : Nat) (hC : 0 + cr ≤ Cc) (hS : 0 + sr ≤ Ss) (hf : f_X8_digest n h = some ((v, h'), cr, sr)) : AMet mX8_digest (rX8_digest Cc Ss) (fun r h2 => r = some (.long v) ∧ h2 = h') [.ref 0] h := by
  unfold f_X8_digest at hf
  refine AW_go okX8_digest 4 ?_
  refine AW_pick (lv' := [(0, .ref 0), (1, .long (307 : Int64)), (3, .int (Int32.ofInt 0))]) [2, 1, 0] rfl ?_
  exact (l_X8_digest n).1 (307 : Int64) (Int32.ofInt 0) h _ _ cr sr Cc Ss 0 0 (by omega) (by omega) hs hf
