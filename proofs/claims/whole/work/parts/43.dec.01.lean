def f_X0_init (o : Nat) (a1 : Int32) (a2 : Nat) (a3 : Nat) (h : am_H) : Option (Unit × am_H) := bif am_isO h o 0 then (bif Nat.ble 87 o then (bif Nat.ble 87 o then (some ((), (am_sA (am_sA (am_sI h o 0 a1) o 1 (some a2)) o 2 (some a3)))) else none) else none) else none
set_option maxRecDepth 100000 in
theorem s_X0_init (o : Nat) (a1 : Int32) (a2 : Nat) (a3 : Nat) (h : am_H) (hs : am_stat h) {v : Unit} {h' : am_H} (hf : f_X0_init o a1 a2 a3 h = some (v, h')) : am_stat h' := by
  unfold f_X0_init at hf
  obtain ⟨k1, hf⟩ := am_bis hf
  obtain ⟨b2, hf⟩ := am_bis hf
  obtain ⟨b3, hf⟩ := am_bis hf
  have hs := am_stA hs o 1 (some a2) (am_n98 b2 1)
  have hs := am_stA hs o 2 (some a3) (am_n98 b3 2)
  obtain ⟨rfl, rfl⟩ := am_i2 hf
  exact hs
set_option maxRecDepth 100000 in
theorem c_X0_init (o : Nat) (a1 : Int32) (a2 : Nat) (a3 : Nat) (h : am_H) (hs : am_stat h) {v : Unit} {h' : am_H} (hf : f_X0_init o a1 a2 a3 h = some (v, h')) : AMet mX0_init (rX0_init 0 0) (fun r h2 => r = none ∧ h2 = h') [.ref o, .int a1, .ref a2, .ref a3] h := by
  unfold f_X0_init at hf
  refine AW_go okX0_init 1 ?_
  refine AW_obj (okX0_init.1 1 _ _ rfl) kX0_1 (Nat.le_of_ble_eq_true rfl) (Nat.le_of_ble_eq_true rfl) ?_
  obtain ⟨k1, hf⟩ := am_bis hf
  obtain ⟨b2, hf⟩ := am_bis hf
  obtain ⟨b3, hf⟩ := am_bis hf
  refine AW_go okX0_init 10 ?_
  refine And.intro (am_isO_ok k1) ?_
  refine And.intro (am_isO_ok k1) ?_
  have hs := am_stA hs o 1 (some a2) (am_n98 b2 1)
  refine And.intro (am_isO_ok k1) ?_
  have hs := am_stA hs o 2 (some a3) (am_n98 b3 2)
  obtain ⟨rfl, rfl⟩ := am_i2 hf
  exact And.intro ⟨(Nat.le_of_ble_eq_true rfl), (Nat.le_of_ble_eq_true rfl)⟩ (And.intro rfl ⟨rfl, rfl⟩)
def g_X0_mirrored : Nat → Nat → Nat → Nat → Int32 → am_H → Option ((Nat × am_H) × Nat × Nat)
  | 0, _, _, _, _, _ => none
  | n + 1, _, o, x1r, x2i, h => bif am_isO h o 0 then ((if (am_I h o 0) < x2i then am_cost 1 4 (bif am_isO (am_new h (.inl 0) (fun _ => 0)) o 0 then ((am_A (am_new h (.inl 0) (fun _ => 0)) o 2).bind fun q7 => (am_b2 (f_X0_init (h).1 (am_I (am_new h (.inl 0) (fun _ => 0)) o 0) x1r q7 (am_new h (.inl 0) (fun _ => 0))) fun r9 h10 => (some (((h).1, h10), 0, 0)))) else none) else (am_A h o 1).bind fun q12 => ((am_ln h 0 q12).bind fun n14 => (bif am_vp x2i n14 then (Option.bind ((if (am_I h q12 (Int32.toNatClampNeg x2i)) < (Int32.ofInt 100) then (am_A h o 1).bind fun q20 => ((am_ln h 0 q20).bind fun n22 => (bif am_vp x2i n22 then (some ((am_I h q20 (Int32.toNatClampNeg x2i)) + (Int32.ofInt 100))) else none)) else (am_A h o 1).bind fun q25 => ((am_ln h 0 q25).bind fun n27 => (bif am_vp x2i n27 then (some ((am_I h q25 (Int32.toNatClampNeg x2i)) - (Int32.ofInt 100))) else none)))) fun y17 => ((am_ln h 0 x1r).bind fun n80 => (bif am_vp x2i n80 then (g_X0_mirrored n 0 o x1r (x2i + Int32.ofInt 1) (am_sI h x1r (Int32.toNatClampNeg x2i) y17)) else none))) else none)))) else none
set_option maxRecDepth 100000 in
set_option maxHeartbeats 4000000 in
theorem m_X0_mirrored (n : Nat) : (∀ (o : Nat) (x1r : Nat) (x2i : Int32) (h : am_H) (v : Nat) (h' : am_H) (cr sr : Nat), am_stat h → g_X0_mirrored n 0 o x1r x2i h = some ((v, h'), cr, sr) → am_stat h') := by
  induction n with
  | zero => exact fun o x1r x2i h v h' cr sr hs hf => (by cases hf)
  | succ n ih =>
    skip
    · intro o x1r x2i h v h' cr sr hs hf
      have hf : (bif am_isO h o 0 then ((if (am_I h o 0) < x2i then am_cost 1 4 (bif am_isO (am_new h (.inl 0) (fun _ => 0)) o 0 then ((am_A (am_new h (.inl 0) (fun _ => 0)) o 2).bind fun q7 => (am_b2 (f_X0_init (h).1 (am_I (am_new h (.inl 0) (fun _ => 0)) o 0) x1r q7 (am_new h (.inl 0) (fun _ => 0))) fun r9 h10 => (some (((h).1, h10), 0, 0)))) else none) else (am_A h o 1).bind fun q12 => ((am_ln h 0 q12).bind fun n14 => (bif am_vp x2i n14 then (Option.bind ((if (am_I h q12 (Int32.toNatClampNeg x2i)) < (Int32.ofInt 100) then (am_A h o 1).bind fun q20 => ((am_ln h 0 q20).bind fun n22 => (bif am_vp x2i n22 then (some ((am_I h q20 (Int32.toNatClampNeg x2i)) + (Int32.ofInt 100))) else none)) else (am_A h o 1).bind fun q25 => ((am_ln h 0 q25).bind fun n27 => (bif am_vp x2i n27 then (some ((am_I h q25 (Int32.toNatClampNeg x2i)) - (Int32.ofInt 100))) else none)))) fun y17 => ((am_ln h 0 x1r).bind fun n80 => (bif am_vp x2i n80 then (g_X0_mirrored n 0 o x1r (x2i + Int32.ofInt 1) (am_sI h x1r (Int32.toNatClampNeg x2i) y17)) else none))) else none)))) else none) = some ((v, h'), cr, sr) := hf
      obtain ⟨k1, hf⟩ := am_bis hf
      by_cases c2 : (am_I h o 0) < x2i
      · rw [if_pos c2] at hf
        obtain ⟨c3, s4, hg5, rfl, rfl⟩ := am_cost_ok hf
        have hf := hg5
        have hs := am_stN hs (.inl 0) (fun _ => 0)
        obtain ⟨k6, hf⟩ := am_bis hf
        obtain ⟨q7, k8, hf⟩ := am_bnd hf
        obtain ⟨r9, h10, e11, hf⟩ := am_b2_ok hf
        have hs := s_X0_init (h).1 (am_I (am_new h (.inl 0) (fun _ => 0)) o 0) x1r q7 (am_new h (.inl 0) (fun _ => 0)) hs e11
        obtain ⟨rfl, rfl, rfl, rfl⟩ := am_ic hf
        exact hs
      · rw [if_neg c2] at hf
        obtain ⟨q12, k13, hf⟩ := am_bnd hf
        obtain ⟨n14, k15, hf⟩ := am_bnd hf
        obtain ⟨b16, hf⟩ := am_bis hf
        obtain ⟨y17, j18, hf⟩ := am_bnd hf
        obtain ⟨n80, k81, hf⟩ := am_bnd hf
        obtain ⟨b82, hf⟩ := am_bis hf
        exact ih o x1r (x2i + Int32.ofInt 1) (am_sI h x1r (Int32.toNatClampNeg x2i) y17) _ _ cr sr hs hf
set_option maxRecDepth 100000 in
set_option maxHeartbeats 4000000 in
theorem l_X0_mirrored (n : Nat) : (∀ (o : Nat) (x1r : Nat) (x2i : Int32) (h : am_H) (v : Nat) (h' : am_H) (cr sr : Nat) (Cc Ss ac sc : Nat), ac + cr ≤ Cc → sc + sr ≤ Ss → am_stat h → g_X0_mirrored n 0 o x1r x2i h = some ((v, h'), cr, sr) → AW mX0_mirrored (rX0_mirrored Cc Ss) (fun r h2 => r = some (.ref v) ∧ h2 = h') 13 [(0, .ref o), (1, .ref x1r), (2, .int x2i)] [] h ac sc) := by
  induction n with
  | zero => exact fun o x1r x2i h v h' cr sr Cc Ss ac sc hC hS hs hf => (by cases hf)
  | succ n ih =>
    skip
    · intro o x1r x2i h v h' cr sr Cc Ss ac sc hC hS hs hf
      have hf : (bif am_isO h o 0 then ((if (am_I h o 0) < x2i then am_cost 1 4 (bif am_isO (am_new h (.inl 0) (fun _ => 0)) o 0 then ((am_A (am_new h (.inl 0) (fun _ => 0)) o 2).bind fun q7 => (am_b2 (f_X0_init (h).1 (am_I (am_new h (.inl 0) (fun _ => 0)) o 0) x1r q7 (am_new h (.inl 0) (fun _ => 0))) fun r9 h10 => (some (((h).1, h10), 0, 0)))) else none) else (am_A h o 1).bind fun q12 => ((am_ln h 0 q12).bind fun n14 => (bif am_vp x2i n14 then (Option.bind ((if (am_I h q12 (Int32.toNatClampNeg x2i)) < (Int32.ofInt 100) then (am_A h o 1).bind fun q20 => ((am_ln h 0 q20).bind fun n22 => (bif am_vp x2i n22 then (some ((am_I h q20 (Int32.toNatClampNeg x2i)) + (Int32.ofInt 100))) else none)) else (am_A h o 1).bind fun q25 => ((am_ln h 0 q25).bind fun n27 => (bif am_vp x2i n27 then (some ((am_I h q25 (Int32.toNatClampNeg x2i)) - (Int32.ofInt 100))) else none)))) fun y17 => ((am_ln h 0 x1r).bind fun n80 => (bif am_vp x2i n80 then (g_X0_mirrored n 0 o x1r (x2i + Int32.ofInt 1) (am_sI h x1r (Int32.toNatClampNeg x2i) y17)) else none))) else none)))) else none) = some ((v, h'), cr, sr) := hf
      obtain ⟨k1, hf⟩ := am_bis hf
      refine AW_go okX0_mirrored 4 ?_
      refine And.intro (am_isO_ok k1) ?_
      refine And.intro (fun c2 => ?_) (fun c2 => ?_)
      · rw [if_pos c2] at hf
        obtain ⟨c3, s4, hg5, rfl, rfl⟩ := am_cost_ok hf
        have hf := hg5
        refine AW_new (okX0_mirrored.1 62 _ _ rfl) (ci := 0) rfl qX0_8 (show ac + 1 ≤ Cc by omega) (show sc + 4 ≤ Ss by omega) ?_
        have hs := am_stN hs (.inl 0) (fun _ => 0)
        obtain ⟨k6, hf⟩ := am_bis hf
        obtain ⟨q7, k8, hf⟩ := am_bnd hf
        refine AW_go okX0_mirrored 6 ?_
        refine And.intro (am_isO_ok k6) ?_
        refine And.intro (am_isO_ok k6) (Exists.intro (some q7) (And.intro k8 ?_))
        obtain ⟨r9, h10, e11, hf⟩ := am_b2_ok hf
        refine AW_callI (As := [.int (am_I (am_new h (.inl 0) (fun _ => 0)) o 0), .ref x1r, .ref q7]) (R' := rX0_init 0 0) (okX0_mirrored.1 75 _ _ rfl) lkX0_init (Or.inl kX0_25) rfl (Nat.le_of_ble_eq_true rfl) ⟨(Nat.le_of_ble_eq_true rfl), (Nat.le_of_ble_eq_true rfl)⟩ ⟨show (ac + 1) + 0 ≤ Cc by omega, show (sc + 4) + 0 ≤ Ss by omega⟩ (Nat.le_of_ble_eq_true rfl) (c_X0_init (h).1 (am_I (am_new h (.inl 0) (fun _ => 0)) o 0) x1r q7 (am_new h (.inl 0) (fun _ => 0)) hs e11) (fun r h' hq => ?_)
        obtain ⟨rfl, hq⟩ := hq
        replace hq := hq.symm
        subst hq
        have hs := s_X0_init (h).1 (am_I (am_new h (.inl 0) (fun _ => 0)) o 0) x1r q7 (am_new h (.inl 0) (fun _ => 0)) hs e11
        refine AW_go okX0_mirrored 1 ?_
        obtain ⟨rfl, rfl, rfl, rfl⟩ := am_ic hf
        exact And.intro ⟨show (ac + 1) ≤ Cc by omega, show (sc + 4) ≤ Ss by omega⟩ (And.intro ⟨_, rfl, rfl⟩ ⟨rfl, rfl⟩)
      · rw [if_neg c2] at hf
        obtain ⟨q12, k13, hf⟩ := am_bnd hf
        obtain ⟨n14, k15, hf⟩ := am_bnd hf
        obtain ⟨b16, hf⟩ := am_bis hf
        refine AW_go okX0_mirrored 7 ?_
        refine And.intro (am_isO_ok k1) (Exists.intro (some q12) (And.intro k13 ?_))
        refine Exists.intro n14 (And.intro (am_ln_ok k15) (And.intro (am_vp_ok b16) ?_))
        obtain ⟨y17, j18, hf⟩ := am_bnd hf
        refine am_cut (P := AW mX0_mirrored (rX0_mirrored Cc Ss) (fun r h2 => r = some (.ref v) ∧ h2 = h') 55 [(0, .ref o), (1, .ref x1r), (2, .int x2i)] [.int y17, .int x2i, .ref x1r] h ac sc) (fun hJ18 => ?_) ?_
        · have hs := hs
          refine AW_go okX0_mirrored 1 ?_
          refine And.intro (fun c19 => ?_) (fun c19 => ?_)
          · rw [if_pos c19] at j18
            obtain ⟨q20, k21, j18⟩ := am_bnd j18
            obtain ⟨n22, k23, j18⟩ := am_bnd j18
            obtain ⟨b24, j18⟩ := am_bis j18
            refine AW_go okX0_mirrored 6 ?_
            refine And.intro (am_isO_ok k1) (Exists.intro (some q20) (And.intro k21 ?_))
            refine Exists.intro n22 (And.intro (am_ln_ok k23) (And.intro (am_vp_ok b24) ?_))
            obtain rfl := am_i1 j18
            exact AW_pick [0, 1, 2] rfl hJ18
          · rw [if_neg c19] at j18
            obtain ⟨q25, k26, j18⟩ := am_bnd j18
            obtain ⟨n27, k28, j18⟩ := am_bnd j18
            obtain ⟨b29, j18⟩ := am_bis j18
            refine AW_go okX0_mirrored 7 ?_
            refine And.intro (am_isO_ok k1) (Exists.intro (some q25) (And.intro k26 ?_))
            refine Exists.intro n27 (And.intro (am_ln_ok k28) (And.intro (am_vp_ok b29) ?_))
            obtain rfl := am_i1 j18
            exact AW_pick [0, 1, 2] rfl hJ18
        obtain ⟨n80, k81, hf⟩ := am_bnd hf
        obtain ⟨b82, hf⟩ := am_bis hf
        refine AW_go okX0_mirrored 3 ?_
        refine Exists.intro n80 (And.intro (am_ln_ok k81) (And.intro (am_vp_ok b82) ?_))
        refine AW_pick (lv' := [(0, .ref o), (1, .ref x1r), (2, .int (x2i + Int32.ofInt 1))]) [1, 2, 0] rfl ?_
        exact ih o x1r (x2i + Int32.ofInt 1) (am_sI h x1r (Int32.toNatClampNeg x2i) y17) _ _ cr sr Cc Ss ac sc (by omega) (by omega) hs hf
def f_X0_mirrored (n : Nat) (o : Nat) (h : am_H) : Option ((Nat × am_H) × Nat × Nat) := bif am_isO h o 0 then ((am_A h o 1).bind fun q2 => ((am_ln h 0 q2).bind fun n4 => (am_cost 1 n4 (g_X0_mirrored n 0 o (h).1 (Int32.ofInt 1) (am_new h (.inr (0, n4)) (am_I h q2)))))) else none
set_option maxRecDepth 100000 in
set_option maxHeartbeats 4000000 in
theorem s_X0_mirrored (n : Nat) (o : Nat) (h : am_H) (hs : am_stat h) {v : Nat} {h' : am_H} {cr sr : Nat} (hf : f_X0_mirrored n o h = some ((v, h'), cr, sr)) : am_stat h' := by
  unfold f_X0_mirrored at hf
  obtain ⟨k1, hf⟩ := am_bis hf
  obtain ⟨q2, k3, hf⟩ := am_bnd hf
  obtain ⟨n4, k5, hf⟩ := am_bnd hf
  obtain ⟨c6, s7, hg8, rfl, rfl⟩ := am_cost_ok hf
  have hf := hg8
  have hs := am_stN hs (.inr (0, n4)) (am_I h q2)
  exact (m_X0_mirrored n) o (h).1 (Int32.ofInt 1) (am_new h (.inr (0, n4)) (am_I h q2)) _ _ c6 s7 hs hf
set_option maxRecDepth 100000 in
set_option maxHeartbeats 4000000 in
theorem c_X0_mirrored (n : Nat) (o : Nat) (h : am_H) (hs : am_stat h) {v : Nat} {h' : am_H} {cr sr : Nat} (Cc Ss : Nat) (hC : 0 + cr ≤ Cc) (hS : 0 + sr ≤ Ss) (hf : f_X0_mirrored n o h = some ((v, h'), cr, sr)) : AMet mX0_mirrored (rX0_mirrored Cc Ss) (fun r h2 => r = some (.ref v) ∧ h2 = h') [.ref o] h := by
  unfold f_X0_mirrored at hf
  obtain ⟨k1, hf⟩ := am_bis hf
  obtain ⟨q2, k3, hf⟩ := am_bnd hf
  obtain ⟨n4, k5, hf⟩ := am_bnd hf
  refine AW_go okX0_mirrored 2 ?_
  refine And.intro (am_isO_ok k1) (Exists.intro (some q2) (And.intro k3 ?_))
  obtain ⟨c6, s7, hg8, rfl, rfl⟩ := am_cost_ok hf
  have hf := hg8
  refine AW_clone (okX0_mirrored.1 4 _ _ rfl) kX0_20 (am_ln_ok k5) (Nat.le_of_ble_eq_true rfl) (Nat.le_of_ble_eq_true rfl) (show 0 + 1 ≤ Cc by omega) (show 0 + n4 ≤ Ss by omega) ?_
  have hs := am_stN hs (.inr (0, n4)) (am_I h q2)
  refine AW_cast (okX0_mirrored.1 7 _ _ rfl) qX0_21 (am_Knew h (.inr (0, n4)) (am_I h q2)).1 ?_
  refine AW_go okX0_mirrored 3 ?_
  refine AW_pick (lv' := [(0, .ref o), (1, .ref (h).1), (2, .int (Int32.ofInt 1))]) [2, 1, 0] rfl ?_
  exact (l_X0_mirrored n) o (h).1 (Int32.ofInt 1) (am_new h (.inr (0, n4)) (am_I h q2)) _ _ c6 s7 Cc Ss (0 + 1) (0 + n4) (by omega) (by omega) hs hf
def f_X1_makeRoom (a1 : Int32) (h : am_H) : Option ((Unit × am_H) × Nat × Nat) := (am_A h 19 6).bind fun q1 => ((am_ln h 0 q1).bind fun n3 => ((if a1 ≤ (Int32.ofNat n3) then some (((), h), 0, 0) else bif am_nn ((Int32.ofInt 2) * a1) then (am_cost 1 (Int32.toNatClampNeg ((Int32.ofInt 2) * a1)) (bif am_nn ((Int32.ofInt 2) * a1) then (am_cost 1 (Int32.toNatClampNeg ((Int32.ofInt 2) * a1)) (bif am_nn ((Int32.ofInt 2) * a1) then (am_cost 1 (Int32.toNatClampNeg ((Int32.ofInt 2) * a1)) (bif am_nn ((Int32.ofInt 2) * a1) then (am_cost 1 (Int32.toNatClampNeg ((Int32.ofInt 2) * a1)) (bif am_nn ((Int32.ofInt 2) * a1) then (am_cost 1 (Int32.toNatClampNeg ((Int32.ofInt 2) * a1)) (some (((), (am_sA (am_new (am_sA (am_new (am_sA (am_new (am_sA (am_new (am_sA (am_new h (.inr (0, (Int32.toNatClampNeg ((Int32.ofInt 2) * a1)))) (fun _ => 0)) 19 6 (some (h).1)) (.inr (0, (Int32.toNatClampNeg ((Int32.ofInt 2) * a1)))) (fun _ => 0)) 19 7 (some ((am_sA (am_new h (.inr (0, (Int32.toNatClampNeg ((Int32.ofInt 2) * a1)))) (fun _ => 0)) 19 6 (some (h).1))).1)) (.inr (0, (Int32.toNatClampNeg ((Int32.ofInt 2) * a1)))) (fun _ => 0)) 19 8 (some ((am_sA (am_new (am_sA (am_new h (.inr (0, (Int32.toNatClampNeg ((Int32.ofInt 2) * a1)))) (fun _ => 0)) 19 6 (some (h).1)) (.inr (0, (Int32.toNatClampNeg ((Int32.ofInt 2) * a1)))) (fun _ => 0)) 19 7 (some ((am_sA (am_new h (.inr (0, (Int32.toNatClampNeg ((Int32.ofInt 2) * a1)))) (fun _ => 0)) 19 6 (some (h).1))).1))).1)) (.inr (0, (Int32.toNatClampNeg ((Int32.ofInt 2) * a1)))) (fun _ => 0)) 19 9 (some ((am_sA (am_new (am_sA (am_new (am_sA (am_new h (.inr (0, (Int32.toNatClampNeg ((Int32.ofInt 2) * a1)))) (fun _ => 0)) 19 6 (some (h).1)) (.inr (0, (Int32.toNatClampNeg ((Int32.ofInt 2) * a1)))) (fun _ => 0)) 19 7 (some ((am_sA (am_new h (.inr (0, (Int32.toNatClampNeg ((Int32.ofInt 2) * a1)))) (fun _ => 0)) 19 6 (some (h).1))).1)) (.inr (0, (Int32.toNatClampNeg ((Int32.ofInt 2) * a1)))) (fun _ => 0)) 19 8 (some ((am_sA (am_new (am_sA (am_new h (.inr (0, (Int32.toNatClampNeg ((Int32.ofInt 2) * a1)))) (fun _ => 0)) 19 6 (some (h).1)) (.inr (0, (Int32.toNatClampNeg ((Int32.ofInt 2) * a1)))) (fun _ => 0)) 19 7 (some ((am_sA (am_new h (.inr (0, (Int32.toNatClampNeg ((Int32.ofInt 2) * a1)))) (fun _ => 0)) 19 6 (some (h).1))).1))).1))).1)) (.inr (0, (Int32.toNatClampNeg ((Int32.ofInt 2) * a1)))) (fun _ => 0)) 19 10 (some ((am_sA (am_new (am_sA (am_new (am_sA (am_new (am_sA (am_new h (.inr (0, (Int32.toNatClampNeg ((Int32.ofInt 2) * a1)))) (fun _ => 0)) 19 6 (some (h).1)) (.inr (0, (Int32.toNatClampNeg ((Int32.ofInt 2) * a1)))) (fun _ => 0)) 19 7 (some ((am_sA (am_new h (.inr (0, (Int32.toNatClampNeg ((Int32.ofInt 2) * a1)))) (fun _ => 0)) 19 6 (some (h).1))).1)) (.inr (0, (Int32.toNatClampNeg ((Int32.ofInt 2) * a1)))) (fun _ => 0)) 19 8 (some ((am_sA (am_new (am_sA (am_new h (.inr (0, (Int32.toNatClampNeg ((Int32.ofInt 2) * a1)))) (fun _ => 0)) 19 6 (some (h).1)) (.inr (0, (Int32.toNatClampNeg ((Int32.ofInt 2) * a1)))) (fun _ => 0)) 19 7 (some ((am_sA (am_new h (.inr (0, (Int32.toNatClampNeg ((Int32.ofInt 2) * a1)))) (fun _ => 0)) 19 6 (some (h).1))).1))).1)) (.inr (0, (Int32.toNatClampNeg ((Int32.ofInt 2) * a1)))) (fun _ => 0)) 19 9 (some ((am_sA (am_new (am_sA (am_new (am_sA (am_new h (.inr (0, (Int32.toNatClampNeg ((Int32.ofInt 2) * a1)))) (fun _ => 0)) 19 6 (some (h).1)) (.inr (0, (Int32.toNatClampNeg ((Int32.ofInt 2) * a1)))) (fun _ => 0)) 19 7 (some ((am_sA (am_new h (.inr (0, (Int32.toNatClampNeg ((Int32.ofInt 2) * a1)))) (fun _ => 0)) 19 6 (some (h).1))).1)) (.inr (0, (Int32.toNatClampNeg ((Int32.ofInt 2) * a1)))) (fun _ => 0)) 19 8 (some ((am_sA (am_new (am_sA (am_new h (.inr (0, (Int32.toNatClampNeg ((Int32.ofInt 2) * a1)))) (fun _ => 0)) 19 6 (some (h).1)) (.inr (0, (Int32.toNatClampNeg ((Int32.ofInt 2) * a1)))) (fun _ => 0)) 19 7 (some ((am_sA (am_new h (.inr (0, (Int32.toNatClampNeg ((Int32.ofInt 2) * a1)))) (fun _ => 0)) 19 6 (some (h).1))).1))).1))).1))).1))), 0, 0))) else none)) else none)) else none)) else none)) else none)))
set_option maxRecDepth 100000 in
set_option maxHeartbeats 4000000 in
theorem s_X1_makeRoom (a1 : Int32) (h : am_H) (hs : am_stat h) {v : Unit} {h' : am_H} {cr sr : Nat} (hf : f_X1_makeRoom a1 h = some ((v, h'), cr, sr)) : am_stat h' := by
  unfold f_X1_makeRoom at hf
  obtain ⟨q1, k2, hf⟩ := am_bnd hf
  obtain ⟨n3, k4, hf⟩ := am_bnd hf
  by_cases c5 : a1 ≤ (Int32.ofNat n3)
  · rw [if_pos c5] at hf
    obtain ⟨rfl, rfl, rfl, rfl⟩ := am_ic hf
    exact hs
  · rw [if_neg c5] at hf
    obtain ⟨b6, hf⟩ := am_bis hf
    obtain ⟨c7, s8, hg9, rfl, rfl⟩ := am_cost_ok hf
    have hf := hg9
    have hs := am_stN hs (.inr (0, (Int32.toNatClampNeg ((Int32.ofInt 2) * a1)))) (fun _ => 0)
    obtain ⟨b10, hf⟩ := am_bis hf
    have hs := am_stA hs 19 6 (some (h).1) rfl
    obtain ⟨c11, s12, hg13, rfl, rfl⟩ := am_cost_ok hf
    have hf := hg13
    have hs := am_stN hs (.inr (0, (Int32.toNatClampNeg ((Int32.ofInt 2) * a1)))) (fun _ => 0)
    obtain ⟨b14, hf⟩ := am_bis hf
    have hs := am_stA hs 19 7 (some ((am_sA (am_new h (.inr (0, (Int32.toNatClampNeg ((Int32.ofInt 2) * a1)))) (fun _ => 0)) 19 6 (some (h).1))).1) rfl
    obtain ⟨c15, s16, hg17, rfl, rfl⟩ := am_cost_ok hf
    have hf := hg17
    have hs := am_stN hs (.inr (0, (Int32.toNatClampNeg ((Int32.ofInt 2) * a1)))) (fun _ => 0)
    obtain ⟨b18, hf⟩ := am_bis hf
    have hs := am_stA hs 19 8 (some ((am_sA (am_new (am_sA (am_new h (.inr (0, (Int32.toNatClampNeg ((Int32.ofInt 2) * a1)))) (fun _ => 0)) 19 6 (some (h).1)) (.inr (0, (Int32.toNatClampNeg ((Int32.ofInt 2) * a1)))) (fun _ => 0)) 19 7 (some ((am_sA (am_new h (.inr (0, (Int32.toNatClampNeg ((Int32.ofInt 2) * a1)))) (fun _ => 0)) 19 6 (some (h).1))).1))).1) rfl
    obtain ⟨c19, s20, hg21, rfl, rfl⟩ := am_cost_ok hf
    have hf := hg21
    have hs := am_stN hs (.inr (0, (Int32.toNatClampNeg ((Int32.ofInt 2) * a1)))) (fun _ => 0)
    obtain ⟨b22, hf⟩ := am_bis hf
    have hs := am_stA hs 19 9 (some ((am_sA (am_new (am_sA (am_new (am_sA (am_new h (.inr (0, (Int32.toNatClampNeg ((Int32.ofInt 2) * a1)))) (fun _ => 0)) 19 6 (some (h).1)) (.inr (0, (Int32.toNatClampNeg ((Int32.ofInt 2) * a1)))) (fun _ => 0)) 19 7 (some ((am_sA (am_new h (.inr (0, (Int32.toNatClampNeg ((Int32.ofInt 2) * a1)))) (fun _ => 0)) 19 6 (some (h).1))).1)) (.inr (0, (Int32.toNatClampNeg ((Int32.ofInt 2) * a1)))) (fun _ => 0)) 19 8 (some ((am_sA (am_new (am_sA (am_new h (.inr (0, (Int32.toNatClampNeg ((Int32.ofInt 2) * a1)))) (fun _ => 0)) 19 6 (some (h).1)) (.inr (0, (Int32.toNatClampNeg ((Int32.ofInt 2) * a1)))) (fun _ => 0)) 19 7 (some ((am_sA (am_new h (.inr (0, (Int32.toNatClampNeg ((Int32.ofInt 2) * a1)))) (fun _ => 0)) 19 6 (some (h).1))).1))).1))).1) rfl
    obtain ⟨c23, s24, hg25, rfl, rfl⟩ := am_cost_ok hf
    have hf := hg25
    have hs := am_stN hs (.inr (0, (Int32.toNatClampNeg ((Int32.ofInt 2) * a1)))) (fun _ => 0)
    have hs := am_stA hs 19 10 (some ((am_sA (am_new (am_sA (am_new (am_sA (am_new (am_sA (am_new h (.inr (0, (Int32.toNatClampNeg ((Int32.ofInt 2) * a1)))) (fun _ => 0)) 19 6 (some (h).1)) (.inr (0, (Int32.toNatClampNeg ((Int32.ofInt 2) * a1)))) (fun _ => 0)) 19 7 (some ((am_sA (am_new h (.inr (0, (Int32.toNatClampNeg ((Int32.ofInt 2) * a1)))) (fun _ => 0)) 19 6 (some (h).1))).1)) (.inr (0, (Int32.toNatClampNeg ((Int32.ofInt 2) * a1)))) (fun _ => 0)) 19 8 (some ((am_sA (am_new (am_sA (am_new h (.inr (0, (Int32.toNatClampNeg ((Int32.ofInt 2) * a1)))) (fun _ => 0)) 19 6 (some (h).1)) (.inr (0, (Int32.toNatClampNeg ((Int32.ofInt 2) * a1)))) (fun _ => 0)) 19 7 (some ((am_sA (am_new h (.inr (0, (Int32.toNatClampNeg ((Int32.ofInt 2) * a1)))) (fun _ => 0)) 19 6 (some (h).1))).1))).1)) (.inr (0, (Int32.toNatClampNeg ((Int32.ofInt 2) * a1)))) (fun _ => 0)) 19 9 (some ((am_sA (am_new (am_sA (am_new (am_sA (am_new h (.inr (0, (Int32.toNatClampNeg ((Int32.ofInt 2) * a1)))) (fun _ => 0)) 19 6 (some (h).1)) (.inr (0, (Int32.toNatClampNeg ((Int32.ofInt 2) * a1)))) (fun _ => 0)) 19 7 (some ((am_sA (am_new h (.inr (0, (Int32.toNatClampNeg ((Int32.ofInt 2) * a1)))) (fun _ => 0)) 19 6 (some (h).1))).1)) (.inr (0, (Int32.toNatClampNeg ((Int32.ofInt 2) * a1)))) (fun _ => 0)) 19 8 (some ((am_sA (am_new (am_sA (am_new h (.inr (0, (Int32.toNatClampNeg ((Int32.ofInt 2) * a1)))) (fun _ => 0)) 19 6 (some (h).1)) (.inr (0, (Int32.toNatClampNeg ((Int32.ofInt 2) * a1)))) (fun _ => 0)) 19 7 (some ((am_sA (am_new h (.inr (0, (Int32.toNatClampNeg ((Int32.ofInt 2) * a1)))) (fun _ => 0)) 19 6 (some (h).1))).1))).1))).1))).1) rfl
    obtain ⟨rfl, rfl, rfl, rfl⟩ := am_ic hf
    exact hs
set_option maxRecDepth 100000 in
set_option maxHeartbeats 4000000 in
theorem c_X1_makeRoom (a1 : Int32) (h : am_H) (hs : am_stat h) {v : Unit} {h' : am_H} {cr sr : Nat} (Cc Ss : Nat) (hC : 0 + cr ≤ Cc) (hS : 0 + sr ≤ Ss) (hf : f_X1_makeRoom a1 h = some ((v, h'), cr, sr)) : AMet mX1_makeRoom (rX1_makeRoom Cc Ss) (fun r h2 => r = none ∧ h2 = h') [.ref 19, .int a1] h := by
  unfold f_X1_makeRoom at hf
  obtain ⟨q1, k2, hf⟩ := am_bnd hf
  obtain ⟨n3, k4, hf⟩ := am_bnd hf
  refine AW_go okX1_makeRoom 5 ?_
  refine And.intro (sK hs 19) (Exists.intro (some q1) (And.intro k2 ?_))
  refine Exists.intro 0 (Exists.intro n3 (And.intro (by decide) (And.intro (am_ln_ok k4) ?_)))
  refine And.intro (fun c5 => ?_) (fun c5 => ?_)
  · rw [if_pos c5] at hf
    refine AW_go okX1_makeRoom 1 ?_
    obtain ⟨rfl, rfl, rfl, rfl⟩ := am_ic hf
    exact And.intro ⟨show 0 ≤ Cc by omega, show 0 ≤ Ss by omega⟩ (And.intro rfl ⟨rfl, rfl⟩)
  · rw [if_neg c5] at hf
    obtain ⟨b6, hf⟩ := am_bis hf
    refine AW_go okX1_makeRoom 4 ?_
    obtain ⟨c7, s8, hg9, rfl, rfl⟩ := am_cost_ok hf
    have hf := hg9
    refine AW_newa (okX1_makeRoom.1 13 _ _ rfl) rfl (by decide) (am_nn_ok b6).1 (am_nn_ok b6).2 (show 0 + 1 ≤ Cc by omega) (show 0 + (Int32.toNatClampNeg ((Int32.ofInt 2) * a1)) ≤ Ss by omega) ?_
    have hs := am_stN hs (.inr (0, (Int32.toNatClampNeg ((Int32.ofInt 2) * a1)))) (fun _ => 0)
    obtain ⟨b10, hf⟩ := am_bis hf
    refine AW_go okX1_makeRoom 5 ?_
    refine And.intro (sK hs 19) ?_
    have hs := am_stA hs 19 6 (some (h).1) rfl
    obtain ⟨c11, s12, hg13, rfl, rfl⟩ := am_cost_ok hf
    have hf := hg13
    refine AW_newa (okX1_makeRoom.1 22 _ _ rfl) rfl (by decide) (am_nn_ok b10).1 (am_nn_ok b10).2 (show (0 + 1) + 1 ≤ Cc by omega) (show (0 + (Int32.toNatClampNeg ((Int32.ofInt 2) * a1))) + (Int32.toNatClampNeg ((Int32.ofInt 2) * a1)) ≤ Ss by omega) ?_
    have hs := am_stN hs (.inr (0, (Int32.toNatClampNeg ((Int32.ofInt 2) * a1)))) (fun _ => 0)
    obtain ⟨b14, hf⟩ := am_bis hf
    refine AW_go okX1_makeRoom 5 ?_
    refine And.intro (sK hs 19) ?_
    have hs := am_stA hs 19 7 (some ((am_sA (am_new h (.inr (0, (Int32.toNatClampNeg ((Int32.ofInt 2) * a1)))) (fun _ => 0)) 19 6 (some (h).1))).1) rfl
    obtain ⟨c15, s16, hg17, rfl, rfl⟩ := am_cost_ok hf
    have hf := hg17
    refine AW_newa (okX1_makeRoom.1 31 _ _ rfl) rfl (by decide) (am_nn_ok b14).1 (am_nn_ok b14).2 (show ((0 + 1) + 1) + 1 ≤ Cc by omega) (show ((0 + (Int32.toNatClampNeg ((Int32.ofInt 2) * a1))) + (Int32.toNatClampNeg ((Int32.ofInt 2) * a1))) + (Int32.toNatClampNeg ((Int32.ofInt 2) * a1)) ≤ Ss by omega) ?_
    have hs := am_stN hs (.inr (0, (Int32.toNatClampNeg ((Int32.ofInt 2) * a1)))) (fun _ => 0)
    obtain ⟨b18, hf⟩ := am_bis hf
    refine AW_go okX1_makeRoom 5 ?_
    refine And.intro (sK hs 19) ?_
    have hs := am_stA hs 19 8 (some ((am_sA (am_new (am_sA (am_new h (.inr (0, (Int32.toNatClampNeg ((Int32.ofInt 2) * a1)))) (fun _ => 0)) 19 6 (some (h).1)) (.inr (0, (Int32.toNatClampNeg ((Int32.ofInt 2) * a1)))) (fun _ => 0)) 19 7 (some ((am_sA (am_new h (.inr (0, (Int32.toNatClampNeg ((Int32.ofInt 2) * a1)))) (fun _ => 0)) 19 6 (some (h).1))).1))).1) rfl
    obtain ⟨c19, s20, hg21, rfl, rfl⟩ := am_cost_ok hf
    have hf := hg21
    refine AW_newa (okX1_makeRoom.1 40 _ _ rfl) rfl (by decide) (am_nn_ok b18).1 (am_nn_ok b18).2 (show (((0 + 1) + 1) + 1) + 1 ≤ Cc by omega) (show (((0 + (Int32.toNatClampNeg ((Int32.ofInt 2) * a1))) + (Int32.toNatClampNeg ((Int32.ofInt 2) * a1))) + (Int32.toNatClampNeg ((Int32.ofInt 2) * a1))) + (Int32.toNatClampNeg ((Int32.ofInt 2) * a1)) ≤ Ss by omega) ?_
    have hs := am_stN hs (.inr (0, (Int32.toNatClampNeg ((Int32.ofInt 2) * a1)))) (fun _ => 0)
    obtain ⟨b22, hf⟩ := am_bis hf
    refine AW_go okX1_makeRoom 5 ?_
    refine And.intro (sK hs 19) ?_
    have hs := am_stA hs 19 9 (some ((am_sA (am_new (am_sA (am_new (am_sA (am_new h (.inr (0, (Int32.toNatClampNeg ((Int32.ofInt 2) * a1)))) (fun _ => 0)) 19 6 (some (h).1)) (.inr (0, (Int32.toNatClampNeg ((Int32.ofInt 2) * a1)))) (fun _ => 0)) 19 7 (some ((am_sA (am_new h (.inr (0, (Int32.toNatClampNeg ((Int32.ofInt 2) * a1)))) (fun _ => 0)) 19 6 (some (h).1))).1)) (.inr (0, (Int32.toNatClampNeg ((Int32.ofInt 2) * a1)))) (fun _ => 0)) 19 8 (some ((am_sA (am_new (am_sA (am_new h (.inr (0, (Int32.toNatClampNeg ((Int32.ofInt 2) * a1)))) (fun _ => 0)) 19 6 (some (h).1)) (.inr (0, (Int32.toNatClampNeg ((Int32.ofInt 2) * a1)))) (fun _ => 0)) 19 7 (some ((am_sA (am_new h (.inr (0, (Int32.toNatClampNeg ((Int32.ofInt 2) * a1)))) (fun _ => 0)) 19 6 (some (h).1))).1))).1))).1) rfl
    obtain ⟨c23, s24, hg25, rfl, rfl⟩ := am_cost_ok hf
    have hf := hg25
    refine AW_newa (okX1_makeRoom.1 49 _ _ rfl) rfl (by decide) (am_nn_ok b22).1 (am_nn_ok b22).2 (show ((((0 + 1) + 1) + 1) + 1) + 1 ≤ Cc by omega) (show ((((0 + (Int32.toNatClampNeg ((Int32.ofInt 2) * a1))) + (Int32.toNatClampNeg ((Int32.ofInt 2) * a1))) + (Int32.toNatClampNeg ((Int32.ofInt 2) * a1))) + (Int32.toNatClampNeg ((Int32.ofInt 2) * a1))) + (Int32.toNatClampNeg ((Int32.ofInt 2) * a1)) ≤ Ss by omega) ?_
    have hs := am_stN hs (.inr (0, (Int32.toNatClampNeg ((Int32.ofInt 2) * a1)))) (fun _ => 0)
    refine AW_go okX1_makeRoom 2 ?_
    refine And.intro (sK hs 19) ?_
    have hs := am_stA hs 19 10 (some ((am_sA (am_new (am_sA (am_new (am_sA (am_new (am_sA (am_new h (.inr (0, (Int32.toNatClampNeg ((Int32.ofInt 2) * a1)))) (fun _ => 0)) 19 6 (some (h).1)) (.inr (0, (Int32.toNatClampNeg ((Int32.ofInt 2) * a1)))) (fun _ => 0)) 19 7 (some ((am_sA (am_new h (.inr (0, (Int32.toNatClampNeg ((Int32.ofInt 2) * a1)))) (fun _ => 0)) 19 6 (some (h).1))).1)) (.inr (0, (Int32.toNatClampNeg ((Int32.ofInt 2) * a1)))) (fun _ => 0)) 19 8 (some ((am_sA (am_new (am_sA (am_new h (.inr (0, (Int32.toNatClampNeg ((Int32.ofInt 2) * a1)))) (fun _ => 0)) 19 6 (some (h).1)) (.inr (0, (Int32.toNatClampNeg ((Int32.ofInt 2) * a1)))) (fun _ => 0)) 19 7 (some ((am_sA (am_new h (.inr (0, (Int32.toNatClampNeg ((Int32.ofInt 2) * a1)))) (fun _ => 0)) 19 6 (some (h).1))).1))).1)) (.inr (0, (Int32.toNatClampNeg ((Int32.ofInt 2) * a1)))) (fun _ => 0)) 19 9 (some ((am_sA (am_new (am_sA (am_new (am_sA (am_new h (.inr (0, (Int32.toNatClampNeg ((Int32.ofInt 2) * a1)))) (fun _ => 0)) 19 6 (some (h).1)) (.inr (0, (Int32.toNatClampNeg ((Int32.ofInt 2) * a1)))) (fun _ => 0)) 19 7 (some ((am_sA (am_new h (.inr (0, (Int32.toNatClampNeg ((Int32.ofInt 2) * a1)))) (fun _ => 0)) 19 6 (some (h).1))).1)) (.inr (0, (Int32.toNatClampNeg ((Int32.ofInt 2) * a1)))) (fun _ => 0)) 19 8 (some ((am_sA (am_new (am_sA (am_new h (.inr (0, (Int32.toNatClampNeg ((Int32.ofInt 2) * a1)))) (fun _ => 0)) 19 6 (some (h).1)) (.inr (0, (Int32.toNatClampNeg ((Int32.ofInt 2) * a1)))) (fun _ => 0)) 19 7 (some ((am_sA (am_new h (.inr (0, (Int32.toNatClampNeg ((Int32.ofInt 2) * a1)))) (fun _ => 0)) 19 6 (some (h).1))).1))).1))).1))).1) rfl
    obtain ⟨rfl, rfl, rfl, rfl⟩ := am_ic hf
    exact And.intro ⟨show (((((0 + 1) + 1) + 1) + 1) + 1) ≤ Cc by omega, show (((((0 + (Int32.toNatClampNeg ((Int32.ofInt 2) * a1))) + (Int32.toNatClampNeg ((Int32.ofInt 2) * a1))) + (Int32.toNatClampNeg ((Int32.ofInt 2) * a1))) + (Int32.toNatClampNeg ((Int32.ofInt 2) * a1))) + (Int32.toNatClampNeg ((Int32.ofInt 2) * a1))) ≤ Ss by omega⟩ (And.intro rfl ⟨rfl, rfl⟩)
def f_X3_init (o : Nat) (a1 : Int32) (a2 : Nat) (a3 : Nat) (h : am_H) : Option (Unit × am_H) := bif am_isO h o 3 then (bif Nat.ble 87 o then (bif Nat.ble 87 o then (some ((), (am_sA (am_sA (am_sI h o 0 a1) o 2 (some a2)) o 1 (some a3)))) else none) else none) else none
set_option maxRecDepth 100000 in
theorem s_X3_init (o : Nat) (a1 : Int32) (a2 : Nat) (a3 : Nat) (h : am_H) (hs : am_stat h) {v : Unit} {h' : am_H} (hf : f_X3_init o a1 a2 a3 h = some (v, h')) : am_stat h' := by
  unfold f_X3_init at hf
  obtain ⟨k1, hf⟩ := am_bis hf
  obtain ⟨b2, hf⟩ := am_bis hf
  obtain ⟨b3, hf⟩ := am_bis hf
  have hs := am_stA hs o 2 (some a2) (am_n98 b2 2)
  have hs := am_stA hs o 1 (some a3) (am_n98 b3 1)
  obtain ⟨rfl, rfl⟩ := am_i2 hf
  exact hs
set_option maxRecDepth 100000 in
theorem c_X3_init (o : Nat) (a1 : Int32) (a2 : Nat) (a3 : Nat) (h : am_H) (hs : am_stat h) {v : Unit} {h' : am_H} (hf : f_X3_init o a1 a2 a3 h = some (v, h')) : AMet mX3_init (rX3_init 0 0) (fun r h2 => r = none ∧ h2 = h') [.ref o, .int a1, .ref a2, .ref a3] h := by
  unfold f_X3_init at hf
  refine AW_go okX3_init 1 ?_
  refine AW_obj (okX3_init.1 1 _ _ rfl) kX3_3 (Nat.le_of_ble_eq_true rfl) (Nat.le_of_ble_eq_true rfl) ?_
  obtain ⟨k1, hf⟩ := am_bis hf
  obtain ⟨b2, hf⟩ := am_bis hf
  obtain ⟨b3, hf⟩ := am_bis hf
  refine AW_go okX3_init 10 ?_
  refine And.intro (am_isO_ok k1) ?_
  refine And.intro (am_isO_ok k1) ?_
  have hs := am_stA hs o 2 (some a2) (am_n98 b2 2)
  refine And.intro (am_isO_ok k1) ?_
  have hs := am_stA hs o 1 (some a3) (am_n98 b3 1)
  obtain ⟨rfl, rfl⟩ := am_i2 hf
  exact And.intro ⟨(Nat.le_of_ble_eq_true rfl), (Nat.le_of_ble_eq_true rfl)⟩ (And.intro rfl ⟨rfl, rfl⟩)
def f_X4_init (o : Nat) (h : am_H) : Option ((Unit × am_H) × Nat × Nat) := bif am_nn (Int32.ofInt 60) then (am_cost 1 (Int32.toNatClampNeg (Int32.ofInt 60)) (bif am_isO (am_new h (.inr (0, (Int32.toNatClampNeg (Int32.ofInt 60)))) (fun _ => 0)) o 4 then (bif Nat.ble 87 o then (some (((), (am_sA (am_new h (.inr (0, (Int32.toNatClampNeg (Int32.ofInt 60)))) (fun _ => 0)) o 0 (some (h).1))), 0, 0)) else none) else none)) else none
set_option maxRecDepth 100000 in
set_option maxHeartbeats 4000000 in
theorem s_X4_init (o : Nat) (h : am_H) (hs : am_stat h) {v : Unit} {h' : am_H} {cr sr : Nat} (hf : f_X4_init o h = some ((v, h'), cr, sr)) : am_stat h' := by
  unfold f_X4_init at hf
  obtain ⟨b1, hf⟩ := am_bis hf
  obtain ⟨c2, s3, hg4, rfl, rfl⟩ := am_cost_ok hf
  have hf := hg4
  have hs := am_stN hs (.inr (0, (Int32.toNatClampNeg (Int32.ofInt 60)))) (fun _ => 0)
  obtain ⟨k5, hf⟩ := am_bis hf
  obtain ⟨b6, hf⟩ := am_bis hf
  have hs := am_stA hs o 0 (some (h).1) (am_n98 b6 0)
  obtain ⟨rfl, rfl, rfl, rfl⟩ := am_ic hf
  exact hs
set_option maxRecDepth 100000 in
set_option maxHeartbeats 4000000 in
theorem c_X4_init (o : Nat) (h : am_H) (hs : am_stat h) {v : Unit} {h' : am_H} {cr sr : Nat} (Cc Ss : Nat) (hC : 0 + cr ≤ Cc) (hS : 0 + sr ≤ Ss) (hf : f_X4_init o h = some ((v, h'), cr, sr)) : AMet mX4_init (rX4_init Cc Ss) (fun r h2 => r = none ∧ h2 = h') [.ref o] h := by
  unfold f_X4_init at hf
  refine AW_go okX4_init 1 ?_
  refine AW_obj (okX4_init.1 1 _ _ rfl) kX4_3 (Nat.le_of_ble_eq_true rfl) (Nat.le_of_ble_eq_true rfl) ?_
  obtain ⟨b1, hf⟩ := am_bis hf
  refine AW_go okX4_init 2 ?_
  obtain ⟨c2, s3, hg4, rfl, rfl⟩ := am_cost_ok hf
  have hf := hg4
  refine AW_newa (okX4_init.1 7 _ _ rfl) rfl (by decide) (am_nn_ok b1).1 (am_nn_ok b1).2 (show 0 + 1 ≤ Cc by omega) (show 0 + (Int32.toNatClampNeg (Int32.ofInt 60)) ≤ Ss by omega) ?_
  have hs := am_stN hs (.inr (0, (Int32.toNatClampNeg (Int32.ofInt 60)))) (fun _ => 0)
  obtain ⟨k5, hf⟩ := am_bis hf
  obtain ⟨b6, hf⟩ := am_bis hf
  refine AW_go okX4_init 2 ?_
  refine And.intro (am_isO_ok k5) ?_
  have hs := am_stA hs o 0 (some (h).1) (am_n98 b6 0)
  obtain ⟨rfl, rfl, rfl, rfl⟩ := am_ic hf
  exact And.intro ⟨show (0 + 1) ≤ Cc by omega, show (0 + (Int32.toNatClampNeg (Int32.ofInt 60))) ≤ Ss by omega⟩ (And.intro rfl ⟨rfl, rfl⟩)
def f_X4_copy (o : Nat) (h : am_H) : Option ((Nat × am_H) × Nat × Nat) := am_cost 1 2 (am_bc (f_X4_init (h).1 (am_new h (.inl 4) (fun _ => 0))) fun r4 h5 => (bif am_isO h5 o 4 then ((am_A h5 o 0).bind fun q13 => (bif am_isO h5 (h).1 4 then ((am_A h5 (h).1 0).bind fun q16 => ((am_ln h5 0 q13).bind fun n18 => ((am_ln h5 0 q16).bind fun n20 => (bif am_cpk (Int32.ofInt 0) (Int32.ofInt 0) (Int32.ofInt 60) n18 n20 then (some (((h).1, (am_sI (am_sR h5 q16 (va_cpy (am_I h5 q13) (am_I h5 q16) (Int32.toNatClampNeg (Int32.ofInt 0)) (Int32.toNatClampNeg (Int32.ofInt 0)) (Int32.toNatClampNeg (Int32.ofInt 60)))) (h).1 1 (am_I (am_sR h5 q16 (va_cpy (am_I h5 q13) (am_I h5 q16) (Int32.toNatClampNeg (Int32.ofInt 0)) (Int32.toNatClampNeg (Int32.ofInt 0)) (Int32.toNatClampNeg (Int32.ofInt 60)))) o 1))), 0, 0)) else none)))) else none)) else none))
set_option maxRecDepth 100000 in
set_option maxHeartbeats 4000000 in
theorem s_X4_copy (o : Nat) (h : am_H) (hs : am_stat h) {v : Nat} {h' : am_H} {cr sr : Nat} (hf : f_X4_copy o h = some ((v, h'), cr, sr)) : am_stat h' := by
  unfold f_X4_copy at hf
  obtain ⟨c1, s2, hg3, rfl, rfl⟩ := am_cost_ok hf
  have hf := hg3
  have hs := am_stN hs (.inl 4) (fun _ => 0)
  obtain ⟨r4, h5, c7, s8, c9, s10, e6, hg11, rfl, rfl⟩ := am_bc_ok hf
  have hf := hg11
  have hs := s_X4_init (h).1 (am_new h (.inl 4) (fun _ => 0)) hs e6
  obtain ⟨k12, hf⟩ := am_bis hf
  obtain ⟨q13, k14, hf⟩ := am_bnd hf
  obtain ⟨k15, hf⟩ := am_bis hf
  obtain ⟨q16, k17, hf⟩ := am_bnd hf
  obtain ⟨n18, k19, hf⟩ := am_bnd hf
  obtain ⟨n20, k21, hf⟩ := am_bnd hf
  obtain ⟨b22, hf⟩ := am_bis hf
  obtain ⟨rfl, rfl, rfl, rfl⟩ := am_ic hf
  exact hs
set_option maxRecDepth 100000 in
set_option maxHeartbeats 4000000 in
theorem c_X4_copy (o : Nat) (h : am_H) (hs : am_stat h) {v : Nat} {h' : am_H} {cr sr : Nat} (Cc Ss : Nat) (hC : 0 + cr ≤ Cc) (hS : 0 + sr ≤ Ss) (hf : f_X4_copy o h = some ((v, h'), cr, sr)) : AMet mX4_copy (rX4_copy Cc Ss) (fun r h2 => r = some (.ref v) ∧ h2 = h') [.ref o] h := by
  unfold f_X4_copy at hf
  obtain ⟨c1, s2, hg3, rfl, rfl⟩ := am_cost_ok hf
  have hf := hg3
  refine AW_new (okX4_copy.1 0 _ _ rfl) (ci := 4) rfl qX4_10 (show 0 + 1 ≤ Cc by omega) (show 0 + 2 ≤ Ss by omega) ?_
  have hs := am_stN hs (.inl 4) (fun _ => 0)
  refine AW_go okX4_copy 1 ?_
  obtain ⟨r4, h5, c7, s8, c9, s10, e6, hg11, rfl, rfl⟩ := am_bc_ok hf
  have hf := hg11
  refine AW_callI (As := []) (R' := rX4_init c7 s8) (okX4_copy.1 4 _ _ rfl) lkX4_init (Or.inl kX4_23) rfl (Nat.le_of_ble_eq_true rfl) ⟨(Nat.le_of_ble_eq_true rfl), (Nat.le_of_ble_eq_true rfl)⟩ ⟨show (0 + 1) + c7 ≤ Cc by omega, show (0 + 2) + s8 ≤ Ss by omega⟩ (Nat.le_of_ble_eq_true rfl) (c_X4_init (h).1 (am_new h (.inl 4) (fun _ => 0)) hs c7 s8 (by omega) (by omega) e6) (fun r h' hq => ?_)
  obtain ⟨rfl, hq⟩ := hq
  replace hq := hq.symm
  subst hq
  have hs := s_X4_init (h).1 (am_new h (.inl 4) (fun _ => 0)) hs e6
  obtain ⟨k12, hf⟩ := am_bis hf
  obtain ⟨q13, k14, hf⟩ := am_bnd hf
  obtain ⟨k15, hf⟩ := am_bis hf
  obtain ⟨q16, k17, hf⟩ := am_bnd hf
  obtain ⟨n18, k19, hf⟩ := am_bnd hf
  obtain ⟨n20, k21, hf⟩ := am_bnd hf
  obtain ⟨b22, hf⟩ := am_bis hf
  refine AW_go okX4_copy 8 ?_
  refine And.intro (am_isO_ok k12) (Exists.intro (some q13) (And.intro k14 ?_))
  refine And.intro (am_isO_ok k15) (Exists.intro (some q16) (And.intro k17 ?_))
  obtain ⟨b221, b222, b223, b224, b225⟩ := am_cpk_ok b22
  refine AW_copy (okX4_copy.1 20 _ _ rfl) kX4_24 (am_ln_ok k19) (am_ln_ok k21) b221 b222 b223 b224 b225 (Nat.le_of_ble_eq_true rfl) (Nat.le_of_ble_eq_true rfl) ?_
  refine AW_go okX4_copy 6 ?_
  refine And.intro (am_isO_ok k12) ?_
  refine And.intro (am_isO_ok k15) ?_
  obtain ⟨rfl, rfl, rfl, rfl⟩ := am_ic hf
  exact And.intro ⟨show ((0 + 1) + c7) ≤ Cc by omega, show ((0 + 2) + s8) ≤ Ss by omega⟩ (And.intro ⟨_, rfl, rfl⟩ ⟨rfl, rfl⟩)
def g_X7_giveN : Nat → Nat → Int32 → Int32 → Int32 → am_H → Option (Unit × am_H)
  | 0, _, _, _, _, _ => none
  | n + 1, _, a1, x3i, x4i, h => (if (Int32.ofInt 16) ≤ x4i then bif am_vp a1 3 then (some ((), (am_sI (am_sI h 33 (Int32.toNatClampNeg a1) (vp_nar (am_at 2) (Int32.ofInt 0))) 36 (Int32.toNatClampNeg a1) (Int32.ofInt 0)))) else none else bif am_vp (x3i + x4i) 48 then (g_X7_giveN n 0 a1 x3i (x4i + Int32.ofInt 1) (am_sI h 34 (Int32.toNatClampNeg (x3i + x4i)) (Int32.ofInt 0))) else none)
set_option maxRecDepth 100000 in
set_option maxHeartbeats 4000000 in
theorem m_X7_giveN (n : Nat) : (∀ (a1 : Int32) (x3i : Int32) (x4i : Int32) (h : am_H) (v : Unit) (h' : am_H), am_stat h → g_X7_giveN n 0 a1 x3i x4i h = some (v, h') → am_stat h') := by
  induction n with
  | zero => exact fun a1 x3i x4i h v h' hs hf => (by cases hf)
  | succ n ih =>
    skip
    · intro a1 x3i x4i h v h' hs hf
      have hf : ((if (Int32.ofInt 16) ≤ x4i then bif am_vp a1 3 then (some ((), (am_sI (am_sI h 33 (Int32.toNatClampNeg a1) (vp_nar (am_at 2) (Int32.ofInt 0))) 36 (Int32.toNatClampNeg a1) (Int32.ofInt 0)))) else none else bif am_vp (x3i + x4i) 48 then (g_X7_giveN n 0 a1 x3i (x4i + Int32.ofInt 1) (am_sI h 34 (Int32.toNatClampNeg (x3i + x4i)) (Int32.ofInt 0))) else none)) = some (v, h') := hf
      by_cases c1 : (Int32.ofInt 16) ≤ x4i
      · rw [if_pos c1] at hf
        obtain ⟨b2, hf⟩ := am_bis hf
        obtain ⟨rfl, rfl⟩ := am_i2 hf
        exact hs
      · rw [if_neg c1] at hf
        obtain ⟨b3, hf⟩ := am_bis hf
        exact ih a1 x3i (x4i + Int32.ofInt 1) (am_sI h 34 (Int32.toNatClampNeg (x3i + x4i)) (Int32.ofInt 0)) _ _ hs hf
set_option maxRecDepth 100000 in
set_option maxHeartbeats 4000000 in
theorem l_X7_giveN (n : Nat) : (∀ (a1 : Int32) (x3i : Int32) (x4i : Int32) (h : am_H) (v : Unit) (h' : am_H), am_stat h → g_X7_giveN n 0 a1 x3i x4i h = some (v, h') → AW mX7_give (rX7_give 0 0) (fun r h2 => r = none ∧ h2 = h') 8 [(0, .ref 28), (1, .int a1), (2, .null ), (3, .int x3i), (4, .int x4i)] [] h 0 0) := by
  induction n with
  | zero => exact fun a1 x3i x4i h v h' hs hf => (by cases hf)
  | succ n ih =>
    skip
    · intro a1 x3i x4i h v h' hs hf
      have hf : ((if (Int32.ofInt 16) ≤ x4i then bif am_vp a1 3 then (some ((), (am_sI (am_sI h 33 (Int32.toNatClampNeg a1) (vp_nar (am_at 2) (Int32.ofInt 0))) 36 (Int32.toNatClampNeg a1) (Int32.ofInt 0)))) else none else bif am_vp (x3i + x4i) 48 then (g_X7_giveN n 0 a1 x3i (x4i + Int32.ofInt 1) (am_sI h 34 (Int32.toNatClampNeg (x3i + x4i)) (Int32.ofInt 0))) else none)) = some (v, h') := hf
      refine AW_go okX7_give 3 ?_
      refine And.intro (fun c1 => ?_) (fun c1 => ?_)
      · rw [if_pos c1] at hf
        obtain ⟨b2, hf⟩ := am_bis hf
        refine AW_go okX7_give 15 ?_
        refine And.intro (sK hs 28) (Exists.intro _ (And.intro (sA hs 28 6) ?_))
        refine Exists.intro 2 (Exists.intro 3 (And.intro (by decide) (And.intro (sK hs 33) (And.intro (am_vp_ok b2) ?_))))
        refine And.intro (sK hs 28) (Exists.intro _ (And.intro (sA hs 28 9) ?_))
        refine Exists.intro 3 (And.intro (sK hs 36) (And.intro (am_vp_ok b2) ?_))
        obtain ⟨rfl, rfl⟩ := am_i2 hf
        exact And.intro ⟨(Nat.le_of_ble_eq_true rfl), (Nat.le_of_ble_eq_true rfl)⟩ (And.intro rfl ⟨rfl, rfl⟩)
      · rw [if_neg c1] at hf
        obtain ⟨b3, hf⟩ := am_bis hf
        refine AW_go okX7_give 9 ?_
        refine And.intro (sK hs 28) (Exists.intro _ (And.intro (sA hs 28 7) ?_))
        refine Exists.intro 48 (And.intro (sK hs 34) (And.intro (am_vp_ok b3) ?_))
        refine AW_pick (lv' := [(0, .ref 28), (1, .int a1), (2, .null ), (3, .int x3i), (4, .int (x4i + Int32.ofInt 1))]) [1, 2, 3, 4, 0] rfl ?_
        exact ih a1 x3i (x4i + Int32.ofInt 1) (am_sI h 34 (Int32.toNatClampNeg (x3i + x4i)) (Int32.ofInt 0)) _ _ hs hf
def f_X7_giveN (n : Nat) (a1 : Int32) (h : am_H) : Option (Unit × am_H) := g_X7_giveN n 0 a1 ((Int32.ofInt 16) * a1) (Int32.ofInt 0) h
set_option maxRecDepth 100000 in
theorem s_X7_giveN (n : Nat) (a1 : Int32) (h : am_H) (hs : am_stat h) {v : Unit} {h' : am_H} (hf : f_X7_giveN n a1 h = some (v, h')) : am_stat h' := by
  unfold f_X7_giveN at hf
  exact (m_X7_giveN n) a1 ((Int32.ofInt 16) * a1) (Int32.ofInt 0) h _ _ hs hf
set_option maxRecDepth 100000 in
theorem c_X7_giveN (n : Nat) (a1 : Int32) (h : am_H) (hs : am_stat h) {v : Unit} {h' : am_H} (hf : f_X7_giveN n a1 h = some (v, h')) : AMet mX7_give (rX7_give 0 0) (fun r h2 => r = none ∧ h2 = h') [.ref 28, .int a1, .null] h := by
  unfold f_X7_giveN at hf
  refine AW_go okX7_give 6 ?_
  refine AW_pick (lv' := [(0, .ref 28), (1, .int a1), (2, .null ), (3, .int ((Int32.ofInt 16) * a1)), (4, .int (Int32.ofInt 0))]) [2, 3, 4, 1, 0] rfl ?_
  exact (l_X7_giveN n) a1 ((Int32.ofInt 16) * a1) (Int32.ofInt 0) h _ _ hs hf
def f_J7_copyOf_59c91 (a0 : Nat) (a1 : Int32) (h : am_H) : Option ((Nat × am_H) × Nat × Nat) := (am_ln h 0 a0).bind fun n1 => ((if a1 = (Int32.ofNat n1) then am_cost 1 n1 (some (((h).1, (am_new h (.inr (0, n1)) (am_I h a0))), 0, 0)) else bif am_nn a1 then (am_cost 1 (Int32.toNatClampNeg a1) ((am_ln (am_new h (.inr (0, (Int32.toNatClampNeg a1))) (fun _ => 0)) 0 a0).bind fun n8 => (bif am_cpk (Int32.ofInt 0) (Int32.ofInt 0) (if a1 < (Int32.ofNat n8) then a1 else (Int32.ofNat n8)) n8 (Int32.toNatClampNeg a1) then (some (((h).1, (am_sR (am_new h (.inr (0, (Int32.toNatClampNeg a1))) (fun _ => 0)) (h).1 (va_cpy (am_I (am_new h (.inr (0, (Int32.toNatClampNeg a1))) (fun _ => 0)) a0) (am_I (am_new h (.inr (0, (Int32.toNatClampNeg a1))) (fun _ => 0)) (h).1) (Int32.toNatClampNeg (Int32.ofInt 0)) (Int32.toNatClampNeg (Int32.ofInt 0)) (Int32.toNatClampNeg (if a1 < (Int32.ofNat n8) then a1 else (Int32.ofNat n8)))))), 0, 0)) else none))) else none))
set_option maxRecDepth 100000 in
set_option maxHeartbeats 4000000 in
theorem s_J7_copyOf_59c91 (a0 : Nat) (a1 : Int32) (h : am_H) (hs : am_stat h) {v : Nat} {h' : am_H} {cr sr : Nat} (hf : f_J7_copyOf_59c91 a0 a1 h = some ((v, h'), cr, sr)) : am_stat h' := by
  unfold f_J7_copyOf_59c91 at hf
  obtain ⟨n1, k2, hf⟩ := am_bnd hf
  by_cases c3 : a1 = (Int32.ofNat n1)
  · rw [if_pos c3] at hf
    obtain ⟨c4, s5, hg6, rfl, rfl⟩ := am_cost_ok hf
    have hf := hg6
    have hs := am_stN hs (.inr (0, n1)) (am_I h a0)
    obtain ⟨rfl, rfl, rfl, rfl⟩ := am_ic hf
    exact hs
  · rw [if_neg c3] at hf
    obtain ⟨b7, hf⟩ := am_bis hf
    obtain ⟨c8, s9, hg10, rfl, rfl⟩ := am_cost_ok hf
    have hf := hg10
    have hs := am_stN hs (.inr (0, (Int32.toNatClampNeg a1))) (fun _ => 0)
    obtain ⟨n11, k12, hf⟩ := am_bnd hf
    obtain ⟨b13, hf⟩ := am_bis hf
    obtain ⟨rfl, rfl, rfl, rfl⟩ := am_ic hf
    exact hs
set_option maxRecDepth 100000 in
set_option maxHeartbeats 4000000 in
theorem c_J7_copyOf_59c91 (a0 : Nat) (a1 : Int32) (h : am_H) (hs : am_stat h) {v : Nat} {h' : am_H} {cr sr : Nat} (Cc Ss : Nat) (hC : 0 + cr ≤ Cc) (hS : 0 + sr ≤ Ss) (hf : f_J7_copyOf_59c91 a0 a1 h = some ((v, h'), cr, sr)) : AMet mJ7_copyOf_59c91 (rJ7_copyOf_59c91 Cc Ss) (fun r h2 => r = some (.ref v) ∧ h2 = h') [.ref a0, .int a1] h := by
  unfold f_J7_copyOf_59c91 at hf
  obtain ⟨n1, k2, hf⟩ := am_bnd hf
  refine AW_go okJ7_copyOf_59c91 4 ?_
  refine Exists.intro 0 (Exists.intro n1 (And.intro (by decide) (And.intro (am_ln_ok k2) ?_)))
  refine And.intro (fun c3 => ?_) (fun c3 => ?_)
  · rw [if_neg c3] at hf
    obtain ⟨b4, hf⟩ := am_bis hf
    refine AW_go okJ7_copyOf_59c91 1 ?_
    obtain ⟨c5, s6, hg7, rfl, rfl⟩ := am_cost_ok hf
    have hf := hg7
    refine AW_newa (okJ7_copyOf_59c91.1 15 _ _ rfl) rfl (by decide) (am_nn_ok b4).1 (am_nn_ok b4).2 (show 0 + 1 ≤ Cc by omega) (show 0 + (Int32.toNatClampNeg a1) ≤ Ss by omega) ?_
    have hs := am_stN hs (.inr (0, (Int32.toNatClampNeg a1))) (fun _ => 0)
    obtain ⟨n8, k9, hf⟩ := am_bnd hf
    refine AW_go okJ7_copyOf_59c91 8 ?_
    refine Exists.intro 0 (Exists.intro n8 (And.intro (by decide) (And.intro (am_ln_ok k9) ?_)))
    refine AW_min (okJ7_copyOf_59c91.1 25 _ _ rfl) kJ7_304 (Nat.le_of_ble_eq_true rfl) (Nat.le_of_ble_eq_true rfl) ⟨show (0 + 1) ≤ Cc by omega, show (0 + (Int32.toNatClampNeg a1)) ≤ Ss by omega⟩ ?_
    obtain ⟨b10, hf⟩ := am_bis hf
    obtain ⟨b101, b102, b103, b104, b105⟩ := am_cpk_ok b10
    refine AW_copy (okJ7_copyOf_59c91.1 28 _ _ rfl) kJ7_150 (am_ln_ok k9) (am_Knew h (.inr (0, (Int32.toNatClampNeg a1))) (fun _ => 0)).1 b101 b102 b103 b104 b105 (Nat.le_of_ble_eq_true rfl) (Nat.le_of_ble_eq_true rfl) ?_
    refine AW_go okJ7_copyOf_59c91 2 ?_
    obtain ⟨rfl, rfl, rfl, rfl⟩ := am_ic hf
    exact And.intro ⟨show (0 + 1) ≤ Cc by omega, show (0 + (Int32.toNatClampNeg a1)) ≤ Ss by omega⟩ (And.intro ⟨_, rfl, rfl⟩ ⟨rfl, rfl⟩)
  · rw [if_pos c3] at hf
    refine AW_go okJ7_copyOf_59c91 1 ?_
    obtain ⟨c11, s12, hg13, rfl, rfl⟩ := am_cost_ok hf
    have hf := hg13
    refine AW_clone (okJ7_copyOf_59c91.1 7 _ _ rfl) kJ7_316 (am_ln_ok k2) (Nat.le_of_ble_eq_true rfl) (Nat.le_of_ble_eq_true rfl) (show 0 + 1 ≤ Cc by omega) (show 0 + n1 ≤ Ss by omega) ?_
    have hs := am_stN hs (.inr (0, n1)) (am_I h a0)
    refine AW_cast (okJ7_copyOf_59c91.1 10 _ _ rfl) qJ7_317 (am_Knew h (.inr (0, n1)) (am_I h a0)).1 ?_
    refine AW_go okJ7_copyOf_59c91 1 ?_
    obtain ⟨rfl, rfl, rfl, rfl⟩ := am_ic hf
    exact And.intro ⟨show (0 + 1) ≤ Cc by omega, show (0 + n1) ≤ Ss by omega⟩ (And.intro ⟨_, rfl, rfl⟩ ⟨rfl, rfl⟩)
def f_X2_grow (h : am_H) : Option ((Unit × am_H) × Nat × Nat) := (am_A h 12 1).bind fun q1 => ((am_ln h 0 q1).bind fun n3 => ((am_A h 12 1).bind fun q5 => (am_bc (f_J7_copyOf_59c91 q5 ((Int32.ofInt 2) * (Int32.ofNat n3)) h) fun r7 h8 => ((am_A (am_sA h8 12 1 (some r7)) 12 2).bind fun q15 => (am_bc (f_J7_copyOf_59c91 q15 (((Int32.ofInt 2) * (Int32.ofNat n3)) * (Int32.ofInt 24)) (am_sA h8 12 1 (some r7))) fun r17 h18 => (bif am_nn ((Int32.ofInt 2) * (Int32.ofNat n3)) then (am_cost 1 (Int32.toNatClampNeg ((Int32.ofInt 2) * (Int32.ofNat n3))) (bif am_nn ((Int32.ofInt 2) * (Int32.ofNat n3)) then (am_cost 1 (Int32.toNatClampNeg ((Int32.ofInt 2) * (Int32.ofNat n3))) (bif am_nn ((Int32.ofInt 2) * (Int32.ofNat n3)) then (am_cost 1 (Int32.toNatClampNeg ((Int32.ofInt 2) * (Int32.ofNat n3))) (some (((), (am_sA (am_new (am_sA (am_new (am_sA (am_new (am_sA h18 12 2 (some r17)) (.inr (0, (Int32.toNatClampNeg ((Int32.ofInt 2) * (Int32.ofNat n3))))) (fun _ => 0)) 12 3 (some ((am_sA h18 12 2 (some r17))).1)) (.inr (0, (Int32.toNatClampNeg ((Int32.ofInt 2) * (Int32.ofNat n3))))) (fun _ => 0)) 12 4 (some ((am_sA (am_new (am_sA h18 12 2 (some r17)) (.inr (0, (Int32.toNatClampNeg ((Int32.ofInt 2) * (Int32.ofNat n3))))) (fun _ => 0)) 12 3 (some ((am_sA h18 12 2 (some r17))).1))).1)) (.inr (0, (Int32.toNatClampNeg ((Int32.ofInt 2) * (Int32.ofNat n3))))) (fun _ => 0)) 12 5 (some ((am_sA (am_new (am_sA (am_new (am_sA h18 12 2 (some r17)) (.inr (0, (Int32.toNatClampNeg ((Int32.ofInt 2) * (Int32.ofNat n3))))) (fun _ => 0)) 12 3 (some ((am_sA h18 12 2 (some r17))).1)) (.inr (0, (Int32.toNatClampNeg ((Int32.ofInt 2) * (Int32.ofNat n3))))) (fun _ => 0)) 12 4 (some ((am_sA (am_new (am_sA h18 12 2 (some r17)) (.inr (0, (Int32.toNatClampNeg ((Int32.ofInt 2) * (Int32.ofNat n3))))) (fun _ => 0)) 12 3 (some ((am_sA h18 12 2 (some r17))).1))).1))).1))), 0, 0))) else none)) else none)) else none))))))
set_option maxRecDepth 100000 in
set_option maxHeartbeats 4000000 in
theorem s_X2_grow (h : am_H) (hs : am_stat h) {v : Unit} {h' : am_H} {cr sr : Nat} (hf : f_X2_grow h = some ((v, h'), cr, sr)) : am_stat h' := by
  unfold f_X2_grow at hf
  obtain ⟨q1, k2, hf⟩ := am_bnd hf
  obtain ⟨n3, k4, hf⟩ := am_bnd hf
  obtain ⟨q5, k6, hf⟩ := am_bnd hf
  obtain ⟨r7, h8, c10, s11, c12, s13, e9, hg14, rfl, rfl⟩ := am_bc_ok hf
  have hf := hg14
  have hs := s_J7_copyOf_59c91 q5 ((Int32.ofInt 2) * (Int32.ofNat n3)) h hs e9
  obtain ⟨q15, k16, hf⟩ := am_bnd hf
  have hs := am_stA hs 12 1 (some r7) rfl
  obtain ⟨r17, h18, c20, s21, c22, s23, e19, hg24, rfl, rfl⟩ := am_bc_ok hf
  have hf := hg24
  have hs := s_J7_copyOf_59c91 q15 (((Int32.ofInt 2) * (Int32.ofNat n3)) * (Int32.ofInt 24)) (am_sA h8 12 1 (some r7)) hs e19
  obtain ⟨b25, hf⟩ := am_bis hf
  have hs := am_stA hs 12 2 (some r17) rfl
  obtain ⟨c26, s27, hg28, rfl, rfl⟩ := am_cost_ok hf
  have hf := hg28
  have hs := am_stN hs (.inr (0, (Int32.toNatClampNeg ((Int32.ofInt 2) * (Int32.ofNat n3))))) (fun _ => 0)
  obtain ⟨b29, hf⟩ := am_bis hf
  have hs := am_stA hs 12 3 (some ((am_sA h18 12 2 (some r17))).1) rfl
  obtain ⟨c30, s31, hg32, rfl, rfl⟩ := am_cost_ok hf
  have hf := hg32
  have hs := am_stN hs (.inr (0, (Int32.toNatClampNeg ((Int32.ofInt 2) * (Int32.ofNat n3))))) (fun _ => 0)
  obtain ⟨b33, hf⟩ := am_bis hf
  have hs := am_stA hs 12 4 (some ((am_sA (am_new (am_sA h18 12 2 (some r17)) (.inr (0, (Int32.toNatClampNeg ((Int32.ofInt 2) * (Int32.ofNat n3))))) (fun _ => 0)) 12 3 (some ((am_sA h18 12 2 (some r17))).1))).1) rfl
  obtain ⟨c34, s35, hg36, rfl, rfl⟩ := am_cost_ok hf
  have hf := hg36
  have hs := am_stN hs (.inr (0, (Int32.toNatClampNeg ((Int32.ofInt 2) * (Int32.ofNat n3))))) (fun _ => 0)
  have hs := am_stA hs 12 5 (some ((am_sA (am_new (am_sA (am_new (am_sA h18 12 2 (some r17)) (.inr (0, (Int32.toNatClampNeg ((Int32.ofInt 2) * (Int32.ofNat n3))))) (fun _ => 0)) 12 3 (some ((am_sA h18 12 2 (some r17))).1)) (.inr (0, (Int32.toNatClampNeg ((Int32.ofInt 2) * (Int32.ofNat n3))))) (fun _ => 0)) 12 4 (some ((am_sA (am_new (am_sA h18 12 2 (some r17)) (.inr (0, (Int32.toNatClampNeg ((Int32.ofInt 2) * (Int32.ofNat n3))))) (fun _ => 0)) 12 3 (some ((am_sA h18 12 2 (some r17))).1))).1))).1) rfl
  obtain ⟨rfl, rfl, rfl, rfl⟩ := am_ic hf
  exact hs
set_option maxRecDepth 100000 in
set_option maxHeartbeats 4000000 in
theorem c_X2_grow (h : am_H) (hs : am_stat h) {v : Unit} {h' : am_H} {cr sr : Nat} (Cc Ss : Nat) (hC : 0 + cr ≤ Cc) (hS : 0 + sr ≤ Ss) (hf : f_X2_grow h = some ((v, h'), cr, sr)) : AMet mX2_grow (rX2_grow Cc Ss) (fun r h2 => r = none ∧ h2 = h') [.ref 12] h := by
  unfold f_X2_grow at hf
  obtain ⟨q1, k2, hf⟩ := am_bnd hf
  obtain ⟨n3, k4, hf⟩ := am_bnd hf
  obtain ⟨q5, k6, hf⟩ := am_bnd hf
  refine AW_go okX2_grow 10 ?_
  refine And.intro (sK hs 12) (Exists.intro (some q1) (And.intro k2 ?_))
  refine Exists.intro 0 (Exists.intro n3 (And.intro (by decide) (And.intro (am_ln_ok k4) ?_)))
  refine And.intro (sK hs 12) (Exists.intro (some q5) (And.intro k6 ?_))
  obtain ⟨r7, h8, c10, s11, c12, s13, e9, hg14, rfl, rfl⟩ := am_bc_ok hf
  have hf := hg14
  refine AW_callS (As := [.ref q5, .int ((Int32.ofInt 2) * (Int32.ofNat n3))]) (R' := rJ7_copyOf_59c91 c10 s11) (okX2_grow.1 14 _ _ rfl) lkJ7_copyOf_59c91 (Or.inl kX2_74) rfl (Nat.le_of_ble_eq_true rfl) ⟨(Nat.le_of_ble_eq_true rfl), (Nat.le_of_ble_eq_true rfl)⟩ ⟨show 0 + c10 ≤ Cc by omega, show 0 + s11 ≤ Ss by omega⟩ (Nat.le_of_ble_eq_true rfl) (c_J7_copyOf_59c91 q5 ((Int32.ofInt 2) * (Int32.ofNat n3)) h hs c10 s11 (by omega) (by omega) e9) (fun r h' hq => ?_)
  obtain ⟨rfl, hq⟩ := hq
  replace hq := hq.symm
  subst hq
  have hs := s_J7_copyOf_59c91 q5 ((Int32.ofInt 2) * (Int32.ofNat n3)) h hs e9
  obtain ⟨q15, k16, hf⟩ := am_bnd hf
  refine AW_go okX2_grow 7 ?_
  refine And.intro (sK hs 12) ?_
  have hs := am_stA hs 12 1 (some r7) rfl
  refine And.intro (sK hs 12) (Exists.intro (some q15) (And.intro k16 ?_))
  obtain ⟨r17, h18, c20, s21, c22, s23, e19, hg24, rfl, rfl⟩ := am_bc_ok hf
  have hf := hg24
  refine AW_callS (As := [.ref q15, .int (((Int32.ofInt 2) * (Int32.ofNat n3)) * (Int32.ofInt 24))]) (R' := rJ7_copyOf_59c91 c20 s21) (okX2_grow.1 29 _ _ rfl) lkJ7_copyOf_59c91 (Or.inl kX2_74) rfl (Nat.le_of_ble_eq_true rfl) ⟨(Nat.le_of_ble_eq_true rfl), (Nat.le_of_ble_eq_true rfl)⟩ ⟨show (0 + c10) + c20 ≤ Cc by omega, show (0 + s11) + s21 ≤ Ss by omega⟩ (Nat.le_of_ble_eq_true rfl) (c_J7_copyOf_59c91 q15 (((Int32.ofInt 2) * (Int32.ofNat n3)) * (Int32.ofInt 24)) (am_sA h8 12 1 (some r7)) hs c20 s21 (by omega) (by omega) e19) (fun r h' hq => ?_)
  obtain ⟨rfl, hq⟩ := hq
  replace hq := hq.symm
  subst hq
  have hs := s_J7_copyOf_59c91 q15 (((Int32.ofInt 2) * (Int32.ofNat n3)) * (Int32.ofInt 24)) (am_sA h8 12 1 (some r7)) hs e19
  obtain ⟨b25, hf⟩ := am_bis hf
  refine AW_go okX2_grow 3 ?_
  refine And.intro (sK hs 12) ?_
  have hs := am_stA hs 12 2 (some r17) rfl
  obtain ⟨c26, s27, hg28, rfl, rfl⟩ := am_cost_ok hf
  have hf := hg28
  refine AW_newa (okX2_grow.1 37 _ _ rfl) rfl (by decide) (am_nn_ok b25).1 (am_nn_ok b25).2 (show ((0 + c10) + c20) + 1 ≤ Cc by omega) (show ((0 + s11) + s21) + (Int32.toNatClampNeg ((Int32.ofInt 2) * (Int32.ofNat n3))) ≤ Ss by omega) ?_
  have hs := am_stN hs (.inr (0, (Int32.toNatClampNeg ((Int32.ofInt 2) * (Int32.ofNat n3))))) (fun _ => 0)
  obtain ⟨b29, hf⟩ := am_bis hf
  refine AW_go okX2_grow 3 ?_
  refine And.intro (sK hs 12) ?_
  have hs := am_stA hs 12 3 (some ((am_sA h18 12 2 (some r17))).1) rfl
  obtain ⟨c30, s31, hg32, rfl, rfl⟩ := am_cost_ok hf
  have hf := hg32
  refine AW_newa (okX2_grow.1 44 _ _ rfl) rfl (by decide) (am_nn_ok b29).1 (am_nn_ok b29).2 (show (((0 + c10) + c20) + 1) + 1 ≤ Cc by omega) (show (((0 + s11) + s21) + (Int32.toNatClampNeg ((Int32.ofInt 2) * (Int32.ofNat n3)))) + (Int32.toNatClampNeg ((Int32.ofInt 2) * (Int32.ofNat n3))) ≤ Ss by omega) ?_
  have hs := am_stN hs (.inr (0, (Int32.toNatClampNeg ((Int32.ofInt 2) * (Int32.ofNat n3))))) (fun _ => 0)
  obtain ⟨b33, hf⟩ := am_bis hf
  refine AW_go okX2_grow 3 ?_
  refine And.intro (sK hs 12) ?_
  have hs := am_stA hs 12 4 (some ((am_sA (am_new (am_sA h18 12 2 (some r17)) (.inr (0, (Int32.toNatClampNeg ((Int32.ofInt 2) * (Int32.ofNat n3))))) (fun _ => 0)) 12 3 (some ((am_sA h18 12 2 (some r17))).1))).1) rfl
  obtain ⟨c34, s35, hg36, rfl, rfl⟩ := am_cost_ok hf
  have hf := hg36
  refine AW_newa (okX2_grow.1 51 _ _ rfl) rfl (by decide) (am_nn_ok b33).1 (am_nn_ok b33).2 (show ((((0 + c10) + c20) + 1) + 1) + 1 ≤ Cc by omega) (show ((((0 + s11) + s21) + (Int32.toNatClampNeg ((Int32.ofInt 2) * (Int32.ofNat n3)))) + (Int32.toNatClampNeg ((Int32.ofInt 2) * (Int32.ofNat n3)))) + (Int32.toNatClampNeg ((Int32.ofInt 2) * (Int32.ofNat n3))) ≤ Ss by omega) ?_
  have hs := am_stN hs (.inr (0, (Int32.toNatClampNeg ((Int32.ofInt 2) * (Int32.ofNat n3))))) (fun _ => 0)
  refine AW_go okX2_grow 2 ?_
  refine And.intro (sK hs 12) ?_
  have hs := am_stA hs 12 5 (some ((am_sA (am_new (am_sA (am_new (am_sA h18 12 2 (some r17)) (.inr (0, (Int32.toNatClampNeg ((Int32.ofInt 2) * (Int32.ofNat n3))))) (fun _ => 0)) 12 3 (some ((am_sA h18 12 2 (some r17))).1)) (.inr (0, (Int32.toNatClampNeg ((Int32.ofInt 2) * (Int32.ofNat n3))))) (fun _ => 0)) 12 4 (some ((am_sA (am_new (am_sA h18 12 2 (some r17)) (.inr (0, (Int32.toNatClampNeg ((Int32.ofInt 2) * (Int32.ofNat n3))))) (fun _ => 0)) 12 3 (some ((am_sA h18 12 2 (some r17))).1))).1))).1) rfl
  obtain ⟨rfl, rfl, rfl, rfl⟩ := am_ic hf
  exact And.intro ⟨show (((((0 + c10) + c20) + 1) + 1) + 1) ≤ Cc by omega, show (((((0 + s11) + s21) + (Int32.toNatClampNeg ((Int32.ofInt 2) * (Int32.ofNat n3)))) + (Int32.toNatClampNeg ((Int32.ofInt 2) * (Int32.ofNat n3)))) + (Int32.toNatClampNeg ((Int32.ofInt 2) * (Int32.ofNat n3)))) ≤ Ss by omega⟩ (And.intro rfl ⟨rfl, rfl⟩)
