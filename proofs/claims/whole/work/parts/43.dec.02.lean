def g_X2_folded : Nat → Nat → Int32 → Int32 → Nat → Nat → Int32 → Int32 → Int32 → am_H → Option ((Nat × am_H) × Nat × Nat)
  | 0, _, _, _, _, _, _, _, _, _ => none
  | n + 1, tag, a1, a2, x3r, x4r, x5i, x6i, x7i, h => bif Nat.beq tag 0 then ((if a1 ≤ x5i then am_cost 1 3 (am_b2 (f_X3_init (h).1 a1 x3r x4r (am_new h (.inl 3) (fun _ => 0))) fun r5 h6 => (some (((h).1, h6), 0, 0))) else (am_A h 12 5).bind fun q8 => ((am_ln h 0 q8).bind fun n10 => (bif am_vp x5i n10 then ((am_A h 12 1).bind fun q13 => ((am_ln h 0 q13).bind fun n15 => (bif am_vp (am_I h q8 (Int32.toNatClampNeg x5i)) n15 then (Option.bind ((if ((am_I h q13 (Int32.toNatClampNeg (am_I h q8 (Int32.toNatClampNeg x5i)))) &&& a2) = 0 then some (Int32.ofInt 0) else some (Int32.ofInt 1))) fun y18 => ((am_ln h 2 x4r).bind fun n71 => (bif am_vp x5i n71 then (g_X2_folded n 1 a1 a2 x3r x4r x5i (am_I h q8 (Int32.toNatClampNeg x5i)) (Int32.ofInt 0) (am_sI h x4r (Int32.toNatClampNeg x5i) (vp_nar (am_at 2) y18))) else none))) else none))) else none)))) else ((if (Int32.ofInt 24) ≤ x7i then g_X2_folded n 0 a1 a2 x3r x4r (x5i + Int32.ofInt 1) 0 0 h else (am_A h 12 2).bind fun q2 => ((am_ln h 0 q2).bind fun n4 => (bif am_vp (((Int32.ofInt 24) * x6i) + x7i) n4 then (am_b2 (f_X2_kinOf (am_I h q2 (Int32.toNatClampNeg (((Int32.ofInt 24) * x6i) + x7i))) h) fun r7 h8 => ((am_ln h8 0 x3r).bind fun n10 => (bif am_vp (((Int32.ofInt 24) * x5i) + x7i) n10 then (g_X2_folded n 1 a1 a2 x3r x4r x5i x6i (x7i + Int32.ofInt 1) (am_sI h8 x3r (Int32.toNatClampNeg (((Int32.ofInt 24) * x5i) + x7i)) r7)) else none))) else none))))
set_option maxRecDepth 100000 in
set_option maxHeartbeats 4000000 in
theorem m_X2_folded (n : Nat) : (∀ (a1 : Int32) (a2 : Int32) (x3r : Nat) (x4r : Nat) (x5i : Int32) (x6i : Int32) (x7i : Int32) (h : am_H) (v : Nat) (h' : am_H) (cr sr : Nat), am_stat h → g_X2_folded n 0 a1 a2 x3r x4r x5i x6i x7i h = some ((v, h'), cr, sr) → am_stat h') ∧ (∀ (a1 : Int32) (a2 : Int32) (x3r : Nat) (x4r : Nat) (x5i : Int32) (x6i : Int32) (x7i : Int32) (h : am_H) (v : Nat) (h' : am_H) (cr sr : Nat), am_stat h → g_X2_folded n 1 a1 a2 x3r x4r x5i x6i x7i h = some ((v, h'), cr, sr) → am_stat h') := by
  induction n with
  | zero => exact ⟨fun a1 a2 x3r x4r x5i x6i x7i h v h' cr sr hs hf => (by cases hf), fun a1 a2 x3r x4r x5i x6i x7i h v h' cr sr hs hf => (by cases hf)⟩
  | succ n ih =>
    refine ⟨?_, ?_⟩
    · intro a1 a2 x3r x4r x5i x6i x7i h v h' cr sr hs hf
      have hf : ((if a1 ≤ x5i then am_cost 1 3 (am_b2 (f_X3_init (h).1 a1 x3r x4r (am_new h (.inl 3) (fun _ => 0))) fun r5 h6 => (some (((h).1, h6), 0, 0))) else (am_A h 12 5).bind fun q8 => ((am_ln h 0 q8).bind fun n10 => (bif am_vp x5i n10 then ((am_A h 12 1).bind fun q13 => ((am_ln h 0 q13).bind fun n15 => (bif am_vp (am_I h q8 (Int32.toNatClampNeg x5i)) n15 then (Option.bind ((if ((am_I h q13 (Int32.toNatClampNeg (am_I h q8 (Int32.toNatClampNeg x5i)))) &&& a2) = 0 then some (Int32.ofInt 0) else some (Int32.ofInt 1))) fun y18 => ((am_ln h 2 x4r).bind fun n71 => (bif am_vp x5i n71 then (g_X2_folded n 1 a1 a2 x3r x4r x5i (am_I h q8 (Int32.toNatClampNeg x5i)) (Int32.ofInt 0) (am_sI h x4r (Int32.toNatClampNeg x5i) (vp_nar (am_at 2) y18))) else none))) else none))) else none)))) = some ((v, h'), cr, sr) := hf
      by_cases c1 : a1 ≤ x5i
      · rw [if_pos c1] at hf
        obtain ⟨c2, s3, hg4, rfl, rfl⟩ := am_cost_ok hf
        have hf := hg4
        have hs := am_stN hs (.inl 3) (fun _ => 0)
        obtain ⟨r5, h6, e7, hf⟩ := am_b2_ok hf
        have hs := s_X3_init (h).1 a1 x3r x4r (am_new h (.inl 3) (fun _ => 0)) hs e7
        obtain ⟨rfl, rfl, rfl, rfl⟩ := am_ic hf
        exact hs
      · rw [if_neg c1] at hf
        obtain ⟨q8, k9, hf⟩ := am_bnd hf
        obtain ⟨n10, k11, hf⟩ := am_bnd hf
        obtain ⟨b12, hf⟩ := am_bis hf
        obtain ⟨q13, k14, hf⟩ := am_bnd hf
        obtain ⟨n15, k16, hf⟩ := am_bnd hf
        obtain ⟨b17, hf⟩ := am_bis hf
        obtain ⟨y18, j19, hf⟩ := am_bnd hf
        obtain ⟨n71, k72, hf⟩ := am_bnd hf
        obtain ⟨b73, hf⟩ := am_bis hf
        exact ih.2 a1 a2 x3r x4r x5i (am_I h q8 (Int32.toNatClampNeg x5i)) (Int32.ofInt 0) (am_sI h x4r (Int32.toNatClampNeg x5i) (vp_nar (am_at 2) y18)) _ _ cr sr hs hf
    · intro a1 a2 x3r x4r x5i x6i x7i h v h' cr sr hs hf
      have hf : ((if (Int32.ofInt 24) ≤ x7i then g_X2_folded n 0 a1 a2 x3r x4r (x5i + Int32.ofInt 1) 0 0 h else (am_A h 12 2).bind fun q2 => ((am_ln h 0 q2).bind fun n4 => (bif am_vp (((Int32.ofInt 24) * x6i) + x7i) n4 then (am_b2 (f_X2_kinOf (am_I h q2 (Int32.toNatClampNeg (((Int32.ofInt 24) * x6i) + x7i))) h) fun r7 h8 => ((am_ln h8 0 x3r).bind fun n10 => (bif am_vp (((Int32.ofInt 24) * x5i) + x7i) n10 then (g_X2_folded n 1 a1 a2 x3r x4r x5i x6i (x7i + Int32.ofInt 1) (am_sI h8 x3r (Int32.toNatClampNeg (((Int32.ofInt 24) * x5i) + x7i)) r7)) else none))) else none)))) = some ((v, h'), cr, sr) := hf
      by_cases c1 : (Int32.ofInt 24) ≤ x7i
      · rw [if_pos c1] at hf
        exact ih.1 a1 a2 x3r x4r (x5i + Int32.ofInt 1) 0 0 h _ _ cr sr hs hf
      · rw [if_neg c1] at hf
        obtain ⟨q2, k3, hf⟩ := am_bnd hf
        obtain ⟨n4, k5, hf⟩ := am_bnd hf
        obtain ⟨b6, hf⟩ := am_bis hf
        obtain ⟨r7, h8, e9, hf⟩ := am_b2_ok hf
        have hs := s_X2_kinOf (am_I h q2 (Int32.toNatClampNeg (((Int32.ofInt 24) * x6i) + x7i))) h hs e9
        obtain ⟨n10, k11, hf⟩ := am_bnd hf
        obtain ⟨b12, hf⟩ := am_bis hf
        exact ih.2 a1 a2 x3r x4r x5i x6i (x7i + Int32.ofInt 1) (am_sI h8 x3r (Int32.toNatClampNeg (((Int32.ofInt 24) * x5i) + x7i)) r7) _ _ cr sr hs hf
set_option maxRecDepth 100000 in
set_option maxHeartbeats 4000000 in
theorem l_X2_folded (n : Nat) : (∀ (a1 : Int32) (a2 : Int32) (x3r : Nat) (x4r : Nat) (x5i : Int32) (x6i : Int32) (x7i : Int32) (h : am_H) (v : Nat) (h' : am_H) (cr sr : Nat) (Cc Ss ac sc : Nat), ac + cr ≤ Cc → sc + sr ≤ Ss → am_stat h → g_X2_folded n 0 a1 a2 x3r x4r x5i x6i x7i h = some ((v, h'), cr, sr) → AW mX2_folded (rX2_folded Cc Ss) (fun r h2 => r = some (.ref v) ∧ h2 = h') 15 [(0, .ref 12), (1, .int a1), (2, .int a2), (3, .ref x3r), (4, .ref x4r), (5, .int x5i)] [] h ac sc) ∧ (∀ (a1 : Int32) (a2 : Int32) (x3r : Nat) (x4r : Nat) (x5i : Int32) (x6i : Int32) (x7i : Int32) (h : am_H) (v : Nat) (h' : am_H) (cr sr : Nat) (Cc Ss ac sc : Nat), ac + cr ≤ Cc → sc + sr ≤ Ss → am_stat h → g_X2_folded n 1 a1 a2 x3r x4r x5i x6i x7i h = some ((v, h'), cr, sr) → AW mX2_folded (rX2_folded Cc Ss) (fun r h2 => r = some (.ref v) ∧ h2 = h') 55 [(0, .ref 12), (1, .int a1), (2, .int a2), (3, .ref x3r), (4, .ref x4r), (5, .int x5i), (6, .int x6i), (7, .int x7i)] [] h ac sc) := by
  induction n with
  | zero => exact ⟨fun a1 a2 x3r x4r x5i x6i x7i h v h' cr sr Cc Ss ac sc hC hS hs hf => (by cases hf), fun a1 a2 x3r x4r x5i x6i x7i h v h' cr sr Cc Ss ac sc hC hS hs hf => (by cases hf)⟩
  | succ n ih =>
    refine ⟨?_, ?_⟩
    · intro a1 a2 x3r x4r x5i x6i x7i h v h' cr sr Cc Ss ac sc hC hS hs hf
      have hf : ((if a1 ≤ x5i then am_cost 1 3 (am_b2 (f_X3_init (h).1 a1 x3r x4r (am_new h (.inl 3) (fun _ => 0))) fun r5 h6 => (some (((h).1, h6), 0, 0))) else (am_A h 12 5).bind fun q8 => ((am_ln h 0 q8).bind fun n10 => (bif am_vp x5i n10 then ((am_A h 12 1).bind fun q13 => ((am_ln h 0 q13).bind fun n15 => (bif am_vp (am_I h q8 (Int32.toNatClampNeg x5i)) n15 then (Option.bind ((if ((am_I h q13 (Int32.toNatClampNeg (am_I h q8 (Int32.toNatClampNeg x5i)))) &&& a2) = 0 then some (Int32.ofInt 0) else some (Int32.ofInt 1))) fun y18 => ((am_ln h 2 x4r).bind fun n71 => (bif am_vp x5i n71 then (g_X2_folded n 1 a1 a2 x3r x4r x5i (am_I h q8 (Int32.toNatClampNeg x5i)) (Int32.ofInt 0) (am_sI h x4r (Int32.toNatClampNeg x5i) (vp_nar (am_at 2) y18))) else none))) else none))) else none)))) = some ((v, h'), cr, sr) := hf
      refine AW_go okX2_folded 3 ?_
      refine And.intro (fun c1 => ?_) (fun c1 => ?_)
      · rw [if_pos c1] at hf
        obtain ⟨c2, s3, hg4, rfl, rfl⟩ := am_cost_ok hf
        have hf := hg4
        refine AW_new (okX2_folded.1 101 _ _ rfl) (ci := 3) rfl qX2_85 (show ac + 1 ≤ Cc by omega) (show sc + 3 ≤ Ss by omega) ?_
        have hs := am_stN hs (.inl 3) (fun _ => 0)
        refine AW_go okX2_folded 4 ?_
        obtain ⟨r5, h6, e7, hf⟩ := am_b2_ok hf
        refine AW_callI (As := [.int a1, .ref x3r, .ref x4r]) (R' := rX3_init 0 0) (okX2_folded.1 109 _ _ rfl) lkX3_init (Or.inl kX2_87) rfl (Nat.le_of_ble_eq_true rfl) ⟨(Nat.le_of_ble_eq_true rfl), (Nat.le_of_ble_eq_true rfl)⟩ ⟨show (ac + 1) + 0 ≤ Cc by omega, show (sc + 3) + 0 ≤ Ss by omega⟩ (Nat.le_of_ble_eq_true rfl) (c_X3_init (h).1 a1 x3r x4r (am_new h (.inl 3) (fun _ => 0)) hs e7) (fun r h' hq => ?_)
        obtain ⟨rfl, hq⟩ := hq
        replace hq := hq.symm
        subst hq
        have hs := s_X3_init (h).1 a1 x3r x4r (am_new h (.inl 3) (fun _ => 0)) hs e7
        refine AW_go okX2_folded 1 ?_
        obtain ⟨rfl, rfl, rfl, rfl⟩ := am_ic hf
        exact And.intro ⟨show (ac + 1) ≤ Cc by omega, show (sc + 3) ≤ Ss by omega⟩ (And.intro ⟨_, rfl, rfl⟩ ⟨rfl, rfl⟩)
      · rw [if_neg c1] at hf
        obtain ⟨q8, k9, hf⟩ := am_bnd hf
        obtain ⟨n10, k11, hf⟩ := am_bnd hf
        obtain ⟨b12, hf⟩ := am_bis hf
        obtain ⟨q13, k14, hf⟩ := am_bnd hf
        obtain ⟨n15, k16, hf⟩ := am_bnd hf
        obtain ⟨b17, hf⟩ := am_bis hf
        refine AW_go okX2_folded 13 ?_
        refine And.intro (sK hs 12) (Exists.intro (some q8) (And.intro k9 ?_))
        refine Exists.intro n10 (And.intro (am_ln_ok k11) (And.intro (am_vp_ok b12) ?_))
        refine And.intro (sK hs 12) (Exists.intro (some q13) (And.intro k14 ?_))
        refine Exists.intro n15 (And.intro (am_ln_ok k16) (And.intro (am_vp_ok b17) ?_))
        obtain ⟨y18, j19, hf⟩ := am_bnd hf
        refine am_cut (P := AW mX2_folded (rX2_folded Cc Ss) (fun r h2 => r = some (.ref v) ∧ h2 = h') 51 [(0, .ref 12), (1, .int a1), (2, .int a2), (3, .ref x3r), (4, .ref x4r), (5, .int x5i), (6, .int (am_I h q8 (Int32.toNatClampNeg x5i)))] [.int y18, .int x5i, .ref x4r] h ac sc) (fun hJ19 => ?_) ?_
        · have hs := hs
          refine AW_go okX2_folded 1 ?_
          refine And.intro (fun c20 => ?_) (fun c20 => ?_)
          · rw [if_pos c20] at j19
            refine AW_go okX2_folded 1 ?_
            obtain rfl := am_i1 j19
            exact AW_pick [1, 2, 3, 4, 5, 6, 0] rfl hJ19
          · rw [if_neg c20] at j19
            refine AW_go okX2_folded 2 ?_
            obtain rfl := am_i1 j19
            exact AW_pick [1, 2, 3, 4, 5, 6, 0] rfl hJ19
        obtain ⟨n71, k72, hf⟩ := am_bnd hf
        obtain ⟨b73, hf⟩ := am_bis hf
        refine AW_go okX2_folded 3 ?_
        refine Exists.intro 2 (Exists.intro n71 (And.intro (by decide) (And.intro (am_ln_ok k72) (And.intro (am_vp_ok b73) ?_))))
        refine AW_pick (lv' := [(0, .ref 12), (1, .int a1), (2, .int a2), (3, .ref x3r), (4, .ref x4r), (5, .int x5i), (6, .int (am_I h q8 (Int32.toNatClampNeg x5i))), (7, .int (Int32.ofInt 0))]) [1, 2, 3, 4, 5, 6, 7, 0] rfl ?_
        exact ih.2 a1 a2 x3r x4r x5i (am_I h q8 (Int32.toNatClampNeg x5i)) (Int32.ofInt 0) (am_sI h x4r (Int32.toNatClampNeg x5i) (vp_nar (am_at 2) y18)) _ _ cr sr Cc Ss ac sc (by omega) (by omega) hs hf
    · intro a1 a2 x3r x4r x5i x6i x7i h v h' cr sr Cc Ss ac sc hC hS hs hf
      have hf : ((if (Int32.ofInt 24) ≤ x7i then g_X2_folded n 0 a1 a2 x3r x4r (x5i + Int32.ofInt 1) 0 0 h else (am_A h 12 2).bind fun q2 => ((am_ln h 0 q2).bind fun n4 => (bif am_vp (((Int32.ofInt 24) * x6i) + x7i) n4 then (am_b2 (f_X2_kinOf (am_I h q2 (Int32.toNatClampNeg (((Int32.ofInt 24) * x6i) + x7i))) h) fun r7 h8 => ((am_ln h8 0 x3r).bind fun n10 => (bif am_vp (((Int32.ofInt 24) * x5i) + x7i) n10 then (g_X2_folded n 1 a1 a2 x3r x4r x5i x6i (x7i + Int32.ofInt 1) (am_sI h8 x3r (Int32.toNatClampNeg (((Int32.ofInt 24) * x5i) + x7i)) r7)) else none))) else none)))) = some ((v, h'), cr, sr) := hf
      refine AW_go okX2_folded 3 ?_
      refine And.intro (fun c1 => ?_) (fun c1 => ?_)
      · rw [if_pos c1] at hf
        refine AW_go okX2_folded 2 ?_
        refine AW_pick (lv' := [(0, .ref 12), (1, .int a1), (2, .int a2), (3, .ref x3r), (4, .ref x4r), (5, .int (x5i + Int32.ofInt 1))]) [1, 2, 3, 4, 5, 0] rfl ?_
        exact ih.1 a1 a2 x3r x4r (x5i + Int32.ofInt 1) 0 0 h _ _ cr sr Cc Ss ac sc (by omega) (by omega) hs hf
      · rw [if_neg c1] at hf
        obtain ⟨q2, k3, hf⟩ := am_bnd hf
        obtain ⟨n4, k5, hf⟩ := am_bnd hf
        obtain ⟨b6, hf⟩ := am_bis hf
        refine AW_go okX2_folded 15 ?_
        refine And.intro (sK hs 12) (Exists.intro (some q2) (And.intro k3 ?_))
        refine Exists.intro n4 (And.intro (am_ln_ok k5) (And.intro (am_vp_ok b6) ?_))
        obtain ⟨r7, h8, e9, hf⟩ := am_b2_ok hf
        refine AW_callV (As := [.int (am_I h q2 (Int32.toNatClampNeg (((Int32.ofInt 24) * x6i) + x7i)))]) (R' := rX2_kinOf 0 0) (T := TX2) (N := 7) (ci := 2) (okX2_folded.1 85 _ _ rfl) lkX2_kinOf kX2_82 rfl (sK hs 12) rfl (Nat.le_of_ble_eq_true rfl) ⟨(Nat.le_of_ble_eq_true rfl), (Nat.le_of_ble_eq_true rfl)⟩ ⟨show ac + 0 ≤ Cc by omega, show sc + 0 ≤ Ss by omega⟩ (Nat.le_of_ble_eq_true rfl) (c_X2_kinOf (am_I h q2 (Int32.toNatClampNeg (((Int32.ofInt 24) * x6i) + x7i))) h hs e9) (fun r h' hq => ?_)
        obtain ⟨rfl, hq⟩ := hq
        replace hq := hq.symm
        subst hq
        have hs := s_X2_kinOf (am_I h q2 (Int32.toNatClampNeg (((Int32.ofInt 24) * x6i) + x7i))) h hs e9
        obtain ⟨n10, k11, hf⟩ := am_bnd hf
        obtain ⟨b12, hf⟩ := am_bis hf
        refine AW_go okX2_folded 3 ?_
        refine Exists.intro n10 (And.intro (am_ln_ok k11) (And.intro (am_vp_ok b12) ?_))
        refine AW_pick (lv' := [(0, .ref 12), (1, .int a1), (2, .int a2), (3, .ref x3r), (4, .ref x4r), (5, .int x5i), (6, .int x6i), (7, .int (x7i + Int32.ofInt 1))]) [1, 2, 3, 4, 5, 6, 7, 0] rfl ?_
        exact ih.2 a1 a2 x3r x4r x5i x6i (x7i + Int32.ofInt 1) (am_sI h8 x3r (Int32.toNatClampNeg (((Int32.ofInt 24) * x5i) + x7i)) r7) _ _ cr sr Cc Ss ac sc (by omega) (by omega) hs hf
def f_X2_folded (n : Nat) (a1 : Int32) (a2 : Int32) (h : am_H) : Option ((Nat × am_H) × Nat × Nat) := bif am_nn (a1 * (Int32.ofInt 24)) then (am_cost 1 (Int32.toNatClampNeg (a1 * (Int32.ofInt 24))) (bif am_nn a1 then (am_cost 1 (Int32.toNatClampNeg a1) (g_X2_folded n 0 a1 a2 (h).1 ((am_new h (.inr (0, (Int32.toNatClampNeg (a1 * (Int32.ofInt 24))))) (fun _ => 0))).1 (Int32.ofInt 0) 0 0 (am_new (am_new h (.inr (0, (Int32.toNatClampNeg (a1 * (Int32.ofInt 24))))) (fun _ => 0)) (.inr (2, (Int32.toNatClampNeg a1))) (fun _ => 0)))) else none)) else none
set_option maxRecDepth 100000 in
set_option maxHeartbeats 4000000 in
theorem s_X2_folded (n : Nat) (a1 : Int32) (a2 : Int32) (h : am_H) (hs : am_stat h) {v : Nat} {h' : am_H} {cr sr : Nat} (hf : f_X2_folded n a1 a2 h = some ((v, h'), cr, sr)) : am_stat h' := by
  unfold f_X2_folded at hf
  obtain ⟨b1, hf⟩ := am_bis hf
  obtain ⟨c2, s3, hg4, rfl, rfl⟩ := am_cost_ok hf
  have hf := hg4
  have hs := am_stN hs (.inr (0, (Int32.toNatClampNeg (a1 * (Int32.ofInt 24))))) (fun _ => 0)
  obtain ⟨b5, hf⟩ := am_bis hf
  obtain ⟨c6, s7, hg8, rfl, rfl⟩ := am_cost_ok hf
  have hf := hg8
  have hs := am_stN hs (.inr (2, (Int32.toNatClampNeg a1))) (fun _ => 0)
  exact (m_X2_folded n).1 a1 a2 (h).1 ((am_new h (.inr (0, (Int32.toNatClampNeg (a1 * (Int32.ofInt 24))))) (fun _ => 0))).1 (Int32.ofInt 0) 0 0 (am_new (am_new h (.inr (0, (Int32.toNatClampNeg (a1 * (Int32.ofInt 24))))) (fun _ => 0)) (.inr (2, (Int32.toNatClampNeg a1))) (fun _ => 0)) _ _ c6 s7 hs hf
set_option maxRecDepth 100000 in
set_option maxHeartbeats 4000000 in
theorem c_X2_folded (n : Nat) (a1 : Int32) (a2 : Int32) (h : am_H) (hs : am_stat h) {v : Nat} {h' : am_H} {cr sr : Nat} (Cc Ss : Nat) (hC : 0 + cr ≤ Cc) (hS : 0 + sr ≤ Ss) (hf : f_X2_folded n a1 a2 h = some ((v, h'), cr, sr)) : AMet mX2_folded (rX2_folded Cc Ss) (fun r h2 => r = some (.ref v) ∧ h2 = h') [.ref 12, .int a1, .int a2] h := by
  unfold f_X2_folded at hf
  obtain ⟨b1, hf⟩ := am_bis hf
  refine AW_go okX2_folded 3 ?_
  obtain ⟨c2, s3, hg4, rfl, rfl⟩ := am_cost_ok hf
  have hf := hg4
  refine AW_newa (okX2_folded.1 4 _ _ rfl) rfl (by decide) (am_nn_ok b1).1 (am_nn_ok b1).2 (show 0 + 1 ≤ Cc by omega) (show 0 + (Int32.toNatClampNeg (a1 * (Int32.ofInt 24))) ≤ Ss by omega) ?_
  have hs := am_stN hs (.inr (0, (Int32.toNatClampNeg (a1 * (Int32.ofInt 24))))) (fun _ => 0)
  obtain ⟨b5, hf⟩ := am_bis hf
  refine AW_go okX2_folded 2 ?_
  obtain ⟨c6, s7, hg8, rfl, rfl⟩ := am_cost_ok hf
  have hf := hg8
  refine AW_newa (okX2_folded.1 8 _ _ rfl) rfl (by decide) (am_nn_ok b5).1 (am_nn_ok b5).2 (show (0 + 1) + 1 ≤ Cc by omega) (show (0 + (Int32.toNatClampNeg (a1 * (Int32.ofInt 24)))) + (Int32.toNatClampNeg a1) ≤ Ss by omega) ?_
  have hs := am_stN hs (.inr (2, (Int32.toNatClampNeg a1))) (fun _ => 0)
  refine AW_go okX2_folded 3 ?_
  refine AW_pick (lv' := [(0, .ref 12), (1, .int a1), (2, .int a2), (3, .ref (h).1), (4, .ref ((am_new h (.inr (0, (Int32.toNatClampNeg (a1 * (Int32.ofInt 24))))) (fun _ => 0))).1), (5, .int (Int32.ofInt 0))]) [3, 4, 5, 2, 1, 0] rfl ?_
  exact (l_X2_folded n).1 a1 a2 (h).1 ((am_new h (.inr (0, (Int32.toNatClampNeg (a1 * (Int32.ofInt 24))))) (fun _ => 0))).1 (Int32.ofInt 0) 0 0 (am_new (am_new h (.inr (0, (Int32.toNatClampNeg (a1 * (Int32.ofInt 24))))) (fun _ => 0)) (.inr (2, (Int32.toNatClampNeg a1))) (fun _ => 0)) _ _ c6 s7 Cc Ss ((0 + 1) + 1) ((0 + (Int32.toNatClampNeg (a1 * (Int32.ofInt 24)))) + (Int32.toNatClampNeg a1)) (by omega) (by omega) hs hf
def f_X5_gathered (h : am_H) : Option ((Nat × am_H) × Nat × Nat) := am_cost 1 4 (am_bc (f_J7_copyOf_59c91 4 ((am_I (am_new h (.inl 0) (fun _ => 0)) 3 3) + (Int32.ofInt 1)) (am_new h (.inl 0) (fun _ => 0))) fun r4 h5 => (am_bc (f_J7_copyOf_59c91 5 ((am_I h5 3 3) + (Int32.ofInt 1)) h5) fun r12 h13 => (bif am_isO h13 (h).1 0 then (am_b2 (f_X0_init (h).1 (am_I (am_new h (.inl 0) (fun _ => 0)) 3 3) r4 r12 h13) fun r21 h22 => (some (((h).1, h22), 0, 0))) else none)))
set_option maxRecDepth 100000 in
set_option maxHeartbeats 4000000 in
theorem s_X5_gathered (h : am_H) (hs : am_stat h) {v : Nat} {h' : am_H} {cr sr : Nat} (hf : f_X5_gathered h = some ((v, h'), cr, sr)) : am_stat h' := by
  unfold f_X5_gathered at hf
  obtain ⟨c1, s2, hg3, rfl, rfl⟩ := am_cost_ok hf
  have hf := hg3
  have hs := am_stN hs (.inl 0) (fun _ => 0)
  obtain ⟨r4, h5, c7, s8, c9, s10, e6, hg11, rfl, rfl⟩ := am_bc_ok hf
  have hf := hg11
  have hs := s_J7_copyOf_59c91 4 ((am_I (am_new h (.inl 0) (fun _ => 0)) 3 3) + (Int32.ofInt 1)) (am_new h (.inl 0) (fun _ => 0)) hs e6
  obtain ⟨r12, h13, c15, s16, c17, s18, e14, hg19, rfl, rfl⟩ := am_bc_ok hf
  have hf := hg19
  have hs := s_J7_copyOf_59c91 5 ((am_I h5 3 3) + (Int32.ofInt 1)) h5 hs e14
  obtain ⟨k20, hf⟩ := am_bis hf
  obtain ⟨r21, h22, e23, hf⟩ := am_b2_ok hf
  have hs := s_X0_init (h).1 (am_I (am_new h (.inl 0) (fun _ => 0)) 3 3) r4 r12 h13 hs e23
  obtain ⟨rfl, rfl, rfl, rfl⟩ := am_ic hf
  exact hs
set_option maxRecDepth 100000 in
set_option maxHeartbeats 4000000 in
theorem c_X5_gathered (h : am_H) (hs : am_stat h) {v : Nat} {h' : am_H} {cr sr : Nat} (Cc Ss : Nat) (hC : 0 + cr ≤ Cc) (hS : 0 + sr ≤ Ss) (hf : f_X5_gathered h = some ((v, h'), cr, sr)) : AMet mX5_gathered (rX5_gathered Cc Ss) (fun r h2 => r = some (.ref v) ∧ h2 = h') [.ref 3] h := by
  unfold f_X5_gathered at hf
  obtain ⟨c1, s2, hg3, rfl, rfl⟩ := am_cost_ok hf
  have hf := hg3
  refine AW_new (okX5_gathered.1 0 _ _ rfl) (ci := 0) rfl qX5_113 (show 0 + 1 ≤ Cc by omega) (show 0 + 4 ≤ Ss by omega) ?_
  have hs := am_stN hs (.inl 0) (fun _ => 0)
  refine AW_go okX5_gathered 9 ?_
  refine And.intro (sK hs 3) ?_
  refine And.intro (sK hs 3) (Exists.intro _ (And.intro (sA hs 3 4) ?_))
  refine And.intro (sK hs 3) ?_
  obtain ⟨r4, h5, c7, s8, c9, s10, e6, hg11, rfl, rfl⟩ := am_bc_ok hf
  have hf := hg11
  refine AW_callS (As := [.ref 4, .int ((am_I (am_new h (.inl 0) (fun _ => 0)) 3 3) + (Int32.ofInt 1))]) (R' := rJ7_copyOf_59c91 c7 s8) (okX5_gathered.1 18 _ _ rfl) lkJ7_copyOf_59c91 (Or.inl kX5_115) rfl (Nat.le_of_ble_eq_true rfl) ⟨(Nat.le_of_ble_eq_true rfl), (Nat.le_of_ble_eq_true rfl)⟩ ⟨show (0 + 1) + c7 ≤ Cc by omega, show (0 + 4) + s8 ≤ Ss by omega⟩ (Nat.le_of_ble_eq_true rfl) (c_J7_copyOf_59c91 4 ((am_I (am_new h (.inl 0) (fun _ => 0)) 3 3) + (Int32.ofInt 1)) (am_new h (.inl 0) (fun _ => 0)) hs c7 s8 (by omega) (by omega) e6) (fun r h' hq => ?_)
  obtain ⟨rfl, hq⟩ := hq
  replace hq := hq.symm
  subst hq
  have hs := s_J7_copyOf_59c91 4 ((am_I (am_new h (.inl 0) (fun _ => 0)) 3 3) + (Int32.ofInt 1)) (am_new h (.inl 0) (fun _ => 0)) hs e6
  refine AW_go okX5_gathered 6 ?_
  refine And.intro (sK hs 3) (Exists.intro _ (And.intro (sA hs 3 5) ?_))
  refine And.intro (sK hs 3) ?_
  obtain ⟨r12, h13, c15, s16, c17, s18, e14, hg19, rfl, rfl⟩ := am_bc_ok hf
  have hf := hg19
  refine AW_callS (As := [.ref 5, .int ((am_I h5 3 3) + (Int32.ofInt 1))]) (R' := rJ7_copyOf_59c91 c15 s16) (okX5_gathered.1 31 _ _ rfl) lkJ7_copyOf_59c91 (Or.inl kX5_115) rfl (Nat.le_of_ble_eq_true rfl) ⟨(Nat.le_of_ble_eq_true rfl), (Nat.le_of_ble_eq_true rfl)⟩ ⟨show ((0 + 1) + c7) + c15 ≤ Cc by omega, show ((0 + 4) + s8) + s16 ≤ Ss by omega⟩ (Nat.le_of_ble_eq_true rfl) (c_J7_copyOf_59c91 5 ((am_I h5 3 3) + (Int32.ofInt 1)) h5 hs c15 s16 (by omega) (by omega) e14) (fun r h' hq => ?_)
  obtain ⟨rfl, hq⟩ := hq
  replace hq := hq.symm
  subst hq
  have hs := s_J7_copyOf_59c91 5 ((am_I h5 3 3) + (Int32.ofInt 1)) h5 hs e14
  obtain ⟨k20, hf⟩ := am_bis hf
  obtain ⟨r21, h22, e23, hf⟩ := am_b2_ok hf
  refine AW_callI (As := [.int (am_I (am_new h (.inl 0) (fun _ => 0)) 3 3), .ref r4, .ref r12]) (R' := rX0_init 0 0) (okX5_gathered.1 34 _ _ rfl) lkX0_init (Or.inl kX5_119) rfl (Nat.le_of_ble_eq_true rfl) ⟨(Nat.le_of_ble_eq_true rfl), (Nat.le_of_ble_eq_true rfl)⟩ ⟨show (((0 + 1) + c7) + c15) + 0 ≤ Cc by omega, show (((0 + 4) + s8) + s16) + 0 ≤ Ss by omega⟩ (Nat.le_of_ble_eq_true rfl) (c_X0_init (h).1 (am_I (am_new h (.inl 0) (fun _ => 0)) 3 3) r4 r12 h13 hs e23) (fun r h' hq => ?_)
  obtain ⟨rfl, hq⟩ := hq
  replace hq := hq.symm
  subst hq
  have hs := s_X0_init (h).1 (am_I (am_new h (.inl 0) (fun _ => 0)) 3 3) r4 r12 h13 hs e23
  refine AW_go okX5_gathered 1 ?_
  obtain ⟨rfl, rfl, rfl, rfl⟩ := am_ic hf
  exact And.intro ⟨show (((0 + 1) + c7) + c15) ≤ Cc by omega, show (((0 + 4) + s8) + s16) ≤ Ss by omega⟩ (And.intro ⟨_, rfl, rfl⟩ ⟨rfl, rfl⟩)
def f_X6_link (o : Nat) (a1 : Int32) (a2 : Int32) (h : am_H) : Option ((Unit × am_H) × Nat × Nat) := (am_A h o 13).bind fun q1 => ((am_ln h 0 q1).bind fun n3 => ((if (am_I h o 12) < (Int32.ofNat n3) then (am_A h o 13).bind fun q6 => ((am_ln h 0 q6).bind fun n8 => (bif am_vp (am_I h o 12) n8 then ((am_A (am_sI h q6 (Int32.toNatClampNeg (am_I h o 12)) a1) o 14).bind fun q11 => (bif am_vp a2 2000 then ((am_ln (am_sI h q6 (Int32.toNatClampNeg (am_I h o 12)) a1) 0 q11).bind fun n14 => (bif am_vp (am_I (am_sI h q6 (Int32.toNatClampNeg (am_I h o 12)) a1) o 12) n14 then (some (((), (am_sI (am_sI (am_sI (am_sI h q6 (Int32.toNatClampNeg (am_I h o 12)) a1) q11 (Int32.toNatClampNeg (am_I (am_sI h q6 (Int32.toNatClampNeg (am_I h o 12)) a1) o 12)) (am_I (am_sI h q6 (Int32.toNatClampNeg (am_I h o 12)) a1) (o + 9) (Int32.toNatClampNeg a2))) (o + 9) (Int32.toNatClampNeg a2) (am_I (am_sI (am_sI h q6 (Int32.toNatClampNeg (am_I h o 12)) a1) q11 (Int32.toNatClampNeg (am_I (am_sI h q6 (Int32.toNatClampNeg (am_I h o 12)) a1) o 12)) (am_I (am_sI h q6 (Int32.toNatClampNeg (am_I h o 12)) a1) (o + 9) (Int32.toNatClampNeg a2))) o 12)) o 12 ((am_I (am_sI (am_sI (am_sI h q6 (Int32.toNatClampNeg (am_I h o 12)) a1) q11 (Int32.toNatClampNeg (am_I (am_sI h q6 (Int32.toNatClampNeg (am_I h o 12)) a1) o 12)) (am_I (am_sI h q6 (Int32.toNatClampNeg (am_I h o 12)) a1) (o + 9) (Int32.toNatClampNeg a2))) (o + 9) (Int32.toNatClampNeg a2) (am_I (am_sI (am_sI h q6 (Int32.toNatClampNeg (am_I h o 12)) a1) q11 (Int32.toNatClampNeg (am_I (am_sI h q6 (Int32.toNatClampNeg (am_I h o 12)) a1) o 12)) (am_I (am_sI h q6 (Int32.toNatClampNeg (am_I h o 12)) a1) (o + 9) (Int32.toNatClampNeg a2))) o 12)) o 12) + (Int32.ofInt 1)))), 0, 0)) else none)) else none)) else none)) else (am_A h o 13).bind fun q17 => (am_bc (f_J7_copyOf_59c91 q17 ((Int32.ofInt 2) * (am_I h o 12)) h) fun r19 h20 => ((am_A (am_sA h20 o 13 (some r19)) o 14).bind fun q27 => (am_bc (f_J7_copyOf_59c91 q27 ((Int32.ofInt 2) * (am_I (am_sA h20 o 13 (some r19)) o 12)) (am_sA h20 o 13 (some r19))) fun r29 h30 => ((am_A (am_sA h30 o 14 (some r29)) o 13).bind fun q37 => ((am_ln (am_sA h30 o 14 (some r29)) 0 q37).bind fun n39 => (bif am_vp (am_I (am_sA h30 o 14 (some r29)) o 12) n39 then ((am_A (am_sI (am_sA h30 o 14 (some r29)) q37 (Int32.toNatClampNeg (am_I (am_sA h30 o 14 (some r29)) o 12)) a1) o 14).bind fun q42 => (bif am_vp a2 2000 then ((am_ln (am_sI (am_sA h30 o 14 (some r29)) q37 (Int32.toNatClampNeg (am_I (am_sA h30 o 14 (some r29)) o 12)) a1) 0 q42).bind fun n45 => (bif am_vp (am_I (am_sI (am_sA h30 o 14 (some r29)) q37 (Int32.toNatClampNeg (am_I (am_sA h30 o 14 (some r29)) o 12)) a1) o 12) n45 then (some (((), (am_sI (am_sI (am_sI (am_sI (am_sA h30 o 14 (some r29)) q37 (Int32.toNatClampNeg (am_I (am_sA h30 o 14 (some r29)) o 12)) a1) q42 (Int32.toNatClampNeg (am_I (am_sI (am_sA h30 o 14 (some r29)) q37 (Int32.toNatClampNeg (am_I (am_sA h30 o 14 (some r29)) o 12)) a1) o 12)) (am_I (am_sI (am_sA h30 o 14 (some r29)) q37 (Int32.toNatClampNeg (am_I (am_sA h30 o 14 (some r29)) o 12)) a1) (o + 9) (Int32.toNatClampNeg a2))) (o + 9) (Int32.toNatClampNeg a2) (am_I (am_sI (am_sI (am_sA h30 o 14 (some r29)) q37 (Int32.toNatClampNeg (am_I (am_sA h30 o 14 (some r29)) o 12)) a1) q42 (Int32.toNatClampNeg (am_I (am_sI (am_sA h30 o 14 (some r29)) q37 (Int32.toNatClampNeg (am_I (am_sA h30 o 14 (some r29)) o 12)) a1) o 12)) (am_I (am_sI (am_sA h30 o 14 (some r29)) q37 (Int32.toNatClampNeg (am_I (am_sA h30 o 14 (some r29)) o 12)) a1) (o + 9) (Int32.toNatClampNeg a2))) o 12)) o 12 ((am_I (am_sI (am_sI (am_sI (am_sA h30 o 14 (some r29)) q37 (Int32.toNatClampNeg (am_I (am_sA h30 o 14 (some r29)) o 12)) a1) q42 (Int32.toNatClampNeg (am_I (am_sI (am_sA h30 o 14 (some r29)) q37 (Int32.toNatClampNeg (am_I (am_sA h30 o 14 (some r29)) o 12)) a1) o 12)) (am_I (am_sI (am_sA h30 o 14 (some r29)) q37 (Int32.toNatClampNeg (am_I (am_sA h30 o 14 (some r29)) o 12)) a1) (o + 9) (Int32.toNatClampNeg a2))) (o + 9) (Int32.toNatClampNeg a2) (am_I (am_sI (am_sI (am_sA h30 o 14 (some r29)) q37 (Int32.toNatClampNeg (am_I (am_sA h30 o 14 (some r29)) o 12)) a1) q42 (Int32.toNatClampNeg (am_I (am_sI (am_sA h30 o 14 (some r29)) q37 (Int32.toNatClampNeg (am_I (am_sA h30 o 14 (some r29)) o 12)) a1) o 12)) (am_I (am_sI (am_sA h30 o 14 (some r29)) q37 (Int32.toNatClampNeg (am_I (am_sA h30 o 14 (some r29)) o 12)) a1) (o + 9) (Int32.toNatClampNeg a2))) o 12)) o 12) + (Int32.ofInt 1)))), 0, 0)) else none)) else none)) else none)))))))))
set_option maxRecDepth 100000 in
set_option maxHeartbeats 4000000 in
theorem s_X6_link (o : Nat) (a1 : Int32) (a2 : Int32) (h : am_H) (ho : o = 37 ∨ o = 37) (hs : am_stat h) {v : Unit} {h' : am_H} {cr sr : Nat} (hf : f_X6_link o a1 a2 h = some ((v, h'), cr, sr)) : am_stat h' := by
  unfold f_X6_link at hf
  obtain ⟨q1, k2, hf⟩ := am_bnd hf
  obtain ⟨n3, k4, hf⟩ := am_bnd hf
  by_cases c5 : (am_I h o 12) < (Int32.ofNat n3)
  · rw [if_pos c5] at hf
    obtain ⟨q6, k7, hf⟩ := am_bnd hf
    obtain ⟨n8, k9, hf⟩ := am_bnd hf
    obtain ⟨b10, hf⟩ := am_bis hf
    obtain ⟨q11, k12, hf⟩ := am_bnd hf
    obtain ⟨b13, hf⟩ := am_bis hf
    obtain ⟨n14, k15, hf⟩ := am_bnd hf
    obtain ⟨b16, hf⟩ := am_bis hf
    obtain ⟨rfl, rfl, rfl, rfl⟩ := am_ic hf
    exact hs
  · rw [if_neg c5] at hf
    obtain ⟨q17, k18, hf⟩ := am_bnd hf
    obtain ⟨r19, h20, c22, s23, c24, s25, e21, hg26, rfl, rfl⟩ := am_bc_ok hf
    have hf := hg26
    have hs := s_J7_copyOf_59c91 q17 ((Int32.ofInt 2) * (am_I h o 12)) h hs e21
    obtain ⟨q27, k28, hf⟩ := am_bnd hf
    have hs := am_stA hs o 13 (some r19) (sv_n ho 13)
    obtain ⟨r29, h30, c32, s33, c34, s35, e31, hg36, rfl, rfl⟩ := am_bc_ok hf
    have hf := hg36
    have hs := s_J7_copyOf_59c91 q27 ((Int32.ofInt 2) * (am_I (am_sA h20 o 13 (some r19)) o 12)) (am_sA h20 o 13 (some r19)) hs e31
    obtain ⟨q37, k38, hf⟩ := am_bnd hf
    obtain ⟨n39, k40, hf⟩ := am_bnd hf
    obtain ⟨b41, hf⟩ := am_bis hf
    obtain ⟨q42, k43, hf⟩ := am_bnd hf
    obtain ⟨b44, hf⟩ := am_bis hf
    obtain ⟨n45, k46, hf⟩ := am_bnd hf
    obtain ⟨b47, hf⟩ := am_bis hf
    have hs := am_stA hs o 14 (some r29) (sv_n ho 14)
    obtain ⟨rfl, rfl, rfl, rfl⟩ := am_ic hf
    exact hs
set_option maxRecDepth 100000 in
set_option maxHeartbeats 4000000 in
theorem c_X6_link (o : Nat) (a1 : Int32) (a2 : Int32) (h : am_H) (ho : o = 37 ∨ o = 37) (hs : am_stat h) {v : Unit} {h' : am_H} {cr sr : Nat} (Cc Ss : Nat) (hC : 0 + cr ≤ Cc) (hS : 0 + sr ≤ Ss) (hf : f_X6_link o a1 a2 h = some ((v, h'), cr, sr)) : AMet mX6_link (rX6_link Cc Ss) (fun r h2 => r = none ∧ h2 = h') [.ref o, .int a1, .int a2] h := by
  unfold f_X6_link at hf
  obtain ⟨q1, k2, hf⟩ := am_bnd hf
  obtain ⟨n3, k4, hf⟩ := am_bnd hf
  refine AW_go okX6_link 6 ?_
  refine And.intro (sv_K0 hs ho) ?_
  refine And.intro (sv_K0 hs ho) (Exists.intro (some q1) (And.intro k2 ?_))
  refine Exists.intro 0 (Exists.intro n3 (And.intro (by decide) (And.intro (am_ln_ok k4) ?_)))
  refine And.intro (fun c5 => ?_) (fun c5 => ?_)
  · rw [if_pos c5] at hf
    obtain ⟨q6, k7, hf⟩ := am_bnd hf
    obtain ⟨n8, k9, hf⟩ := am_bnd hf
    obtain ⟨b10, hf⟩ := am_bis hf
    obtain ⟨q11, k12, hf⟩ := am_bnd hf
    obtain ⟨b13, hf⟩ := am_bis hf
    obtain ⟨n14, k15, hf⟩ := am_bnd hf
    obtain ⟨b16, hf⟩ := am_bis hf
    refine AW_go okX6_link 28 ?_
    refine And.intro (sv_K0 hs ho) (Exists.intro (some q6) (And.intro k7 ?_))
    refine And.intro (sv_K0 hs ho) ?_
    refine Exists.intro n8 (And.intro (am_ln_ok k9) (And.intro (am_vp_ok b10) ?_))
    refine And.intro (sv_K0 hs ho) (Exists.intro (some q11) (And.intro k12 ?_))
    refine And.intro (sv_K0 hs ho) ?_
    refine And.intro (sv_K0 hs ho) (Exists.intro _ (And.intro (sv_A hs ho 11 9) ?_))
    refine Exists.intro 2000 (And.intro (sv_K hs ho 9) (And.intro (am_vp_ok b13) ?_))
    refine Exists.intro n14 (And.intro (am_ln_ok k15) (And.intro (am_vp_ok b16) ?_))
    refine And.intro (sv_K0 hs ho) (Exists.intro _ (And.intro (sv_A hs ho 11 9) ?_))
    refine And.intro (sv_K0 hs ho) ?_
    refine Exists.intro 2000 (And.intro (sv_K hs ho 9) (And.intro (am_vp_ok b13) ?_))
    refine And.intro (sv_K0 hs ho) ?_
    refine And.intro (sv_K0 hs ho) ?_
    obtain ⟨rfl, rfl, rfl, rfl⟩ := am_ic hf
    exact And.intro ⟨show 0 ≤ Cc by omega, show 0 ≤ Ss by omega⟩ (And.intro rfl ⟨rfl, rfl⟩)
  · rw [if_neg c5] at hf
    obtain ⟨q17, k18, hf⟩ := am_bnd hf
    refine AW_go okX6_link 7 ?_
    refine And.intro (sv_K0 hs ho) (Exists.intro (some q17) (And.intro k18 ?_))
    refine And.intro (sv_K0 hs ho) ?_
    obtain ⟨r19, h20, c22, s23, c24, s25, e21, hg26, rfl, rfl⟩ := am_bc_ok hf
    have hf := hg26
    refine AW_callS (As := [.ref q17, .int ((Int32.ofInt 2) * (am_I h o 12))]) (R' := rJ7_copyOf_59c91 c22 s23) (okX6_link.1 23 _ _ rfl) lkJ7_copyOf_59c91 (Or.inl kX6_128) rfl (Nat.le_of_ble_eq_true rfl) ⟨(Nat.le_of_ble_eq_true rfl), (Nat.le_of_ble_eq_true rfl)⟩ ⟨show 0 + c22 ≤ Cc by omega, show 0 + s23 ≤ Ss by omega⟩ (Nat.le_of_ble_eq_true rfl) (c_J7_copyOf_59c91 q17 ((Int32.ofInt 2) * (am_I h o 12)) h hs c22 s23 (by omega) (by omega) e21) (fun r h' hq => ?_)
    obtain ⟨rfl, hq⟩ := hq
    replace hq := hq.symm
    subst hq
    have hs := s_J7_copyOf_59c91 q17 ((Int32.ofInt 2) * (am_I h o 12)) h hs e21
    obtain ⟨q27, k28, hf⟩ := am_bnd hf
    refine AW_go okX6_link 8 ?_
    refine And.intro (sv_K0 hs ho) ?_
    have hs := am_stA hs o 13 (some r19) (sv_n ho 13)
    refine And.intro (sv_K0 hs ho) (Exists.intro (some q27) (And.intro k28 ?_))
    refine And.intro (sv_K0 hs ho) ?_
    obtain ⟨r29, h30, c32, s33, c34, s35, e31, hg36, rfl, rfl⟩ := am_bc_ok hf
    have hf := hg36
    refine AW_callS (As := [.ref q27, .int ((Int32.ofInt 2) * (am_I (am_sA h20 o 13 (some r19)) o 12))]) (R' := rJ7_copyOf_59c91 c32 s33) (okX6_link.1 40 _ _ rfl) lkJ7_copyOf_59c91 (Or.inl kX6_128) rfl (Nat.le_of_ble_eq_true rfl) ⟨(Nat.le_of_ble_eq_true rfl), (Nat.le_of_ble_eq_true rfl)⟩ ⟨show (0 + c22) + c32 ≤ Cc by omega, show (0 + s23) + s33 ≤ Ss by omega⟩ (Nat.le_of_ble_eq_true rfl) (c_J7_copyOf_59c91 q27 ((Int32.ofInt 2) * (am_I (am_sA h20 o 13 (some r19)) o 12)) (am_sA h20 o 13 (some r19)) hs c32 s33 (by omega) (by omega) e31) (fun r h' hq => ?_)
    obtain ⟨rfl, hq⟩ := hq
    replace hq := hq.symm
    subst hq
    have hs := s_J7_copyOf_59c91 q27 ((Int32.ofInt 2) * (am_I (am_sA h20 o 13 (some r19)) o 12)) (am_sA h20 o 13 (some r19)) hs e31
    obtain ⟨q37, k38, hf⟩ := am_bnd hf
    obtain ⟨n39, k40, hf⟩ := am_bnd hf
    obtain ⟨b41, hf⟩ := am_bis hf
    obtain ⟨q42, k43, hf⟩ := am_bnd hf
    obtain ⟨b44, hf⟩ := am_bis hf
    obtain ⟨n45, k46, hf⟩ := am_bnd hf
    obtain ⟨b47, hf⟩ := am_bis hf
    refine AW_go okX6_link 29 ?_
    refine And.intro (sv_K0 hs ho) ?_
    have hs := am_stA hs o 14 (some r29) (sv_n ho 14)
    refine And.intro (sv_K0 hs ho) (Exists.intro (some q37) (And.intro k38 ?_))
    refine And.intro (sv_K0 hs ho) ?_
    refine Exists.intro n39 (And.intro (am_ln_ok k40) (And.intro (am_vp_ok b41) ?_))
    refine And.intro (sv_K0 hs ho) (Exists.intro (some q42) (And.intro k43 ?_))
    refine And.intro (sv_K0 hs ho) ?_
    refine And.intro (sv_K0 hs ho) (Exists.intro _ (And.intro (sv_A hs ho 11 9) ?_))
    refine Exists.intro 2000 (And.intro (sv_K hs ho 9) (And.intro (am_vp_ok b44) ?_))
    refine Exists.intro n45 (And.intro (am_ln_ok k46) (And.intro (am_vp_ok b47) ?_))
    refine And.intro (sv_K0 hs ho) (Exists.intro _ (And.intro (sv_A hs ho 11 9) ?_))
    refine And.intro (sv_K0 hs ho) ?_
    refine Exists.intro 2000 (And.intro (sv_K hs ho 9) (And.intro (am_vp_ok b44) ?_))
    refine And.intro (sv_K0 hs ho) ?_
    refine And.intro (sv_K0 hs ho) ?_
    obtain ⟨rfl, rfl, rfl, rfl⟩ := am_ic hf
    exact And.intro ⟨show ((0 + c22) + c32) ≤ Cc by omega, show ((0 + s23) + s33) ≤ Ss by omega⟩ (And.intro rfl ⟨rfl, rfl⟩)
def g_X7_give : Nat → Nat → Int32 → Nat → Int32 → Int32 → am_H → Option (Unit × am_H)
  | 0, _, _, _, _, _, _ => none
  | n + 1, tag, a1, a2, x3i, x4i, h => bif Nat.beq tag 0 then ((if (Int32.ofInt 16) ≤ x4i then bif am_vp a1 3 then (bif am_isO (am_sI (am_sI h 33 (Int32.toNatClampNeg a1) (vp_nar (am_at 2) (Int32.ofInt 1))) 36 (Int32.toNatClampNeg a1) (Int32.ofInt 0)) a2 0 then ((am_A (am_sI (am_sI h 33 (Int32.toNatClampNeg a1) (vp_nar (am_at 2) (Int32.ofInt 1))) 36 (Int32.toNatClampNeg a1) (Int32.ofInt 0)) a2 2).bind fun q4 => ((am_ln (am_sI (am_sI h 33 (Int32.toNatClampNeg a1) (vp_nar (am_at 2) (Int32.ofInt 1))) 36 (Int32.toNatClampNeg a1) (Int32.ofInt 0)) 0 q4).bind fun n6 => (bif am_cpk (Int32.ofInt 0) x3i ((am_I (am_sI (am_sI h 33 (Int32.toNatClampNeg a1) (vp_nar (am_at 2) (Int32.ofInt 1))) 36 (Int32.toNatClampNeg a1) (Int32.ofInt 0)) a2 0) + (Int32.ofInt 1)) n6 48 then (g_X7_give n 1 a1 a2 x3i (Int32.ofInt 1) (am_sR (am_sI (am_sI h 33 (Int32.toNatClampNeg a1) (vp_nar (am_at 2) (Int32.ofInt 1))) 36 (Int32.toNatClampNeg a1) (Int32.ofInt 0)) 34 (va_cpy (am_I (am_sI (am_sI h 33 (Int32.toNatClampNeg a1) (vp_nar (am_at 2) (Int32.ofInt 1))) 36 (Int32.toNatClampNeg a1) (Int32.ofInt 0)) q4) (am_I (am_sI (am_sI h 33 (Int32.toNatClampNeg a1) (vp_nar (am_at 2) (Int32.ofInt 1))) 36 (Int32.toNatClampNeg a1) (Int32.ofInt 0)) 34) (Int32.toNatClampNeg (Int32.ofInt 0)) (Int32.toNatClampNeg x3i) (Int32.toNatClampNeg ((am_I (am_sI (am_sI h 33 (Int32.toNatClampNeg a1) (vp_nar (am_at 2) (Int32.ofInt 1))) 36 (Int32.toNatClampNeg a1) (Int32.ofInt 0)) a2 0) + (Int32.ofInt 1)))))) else none))) else none) else none else bif am_vp (x3i + x4i) 48 then (g_X7_give n 0 a1 a2 x3i (x4i + Int32.ofInt 1) (am_sI h 34 (Int32.toNatClampNeg (x3i + x4i)) (Int32.ofInt 0))) else none)) else (bif am_isO h a2 0 then ((if (am_I h a2 0) < x4i then some ((), h) else (am_A h a2 1).bind fun q3 => ((am_ln h 0 q3).bind fun n5 => (bif am_vp x4i n5 then (bif am_vp (x3i + x4i) 48 then (am_b2 ((if (am_I h q3 (Int32.toNatClampNeg x4i)) < (Int32.ofInt 100) then am_b2 (f_X8_postOf a1 (((am_I h q3 (Int32.toNatClampNeg x4i)) / (Int32.ofInt 10)) - ((am_I h q3 (Int32.toNatClampNeg x4i)) / (Int32.ofInt 10)) / (Int32.ofInt 10) * (Int32.ofInt 10)) (am_sI h 30 (Int32.toNatClampNeg (x3i + x4i)) ((am_I h q3 (Int32.toNatClampNeg x4i)) - (am_I h q3 (Int32.toNatClampNeg x4i)) / (Int32.ofInt 10) * (Int32.ofInt 10)))) fun r13 h14 => (some (r13, h14)) else am_b2 (f_X8_postOf (((am_I h q3 (Int32.toNatClampNeg x4i)) / (Int32.ofInt 10)) - ((am_I h q3 (Int32.toNatClampNeg x4i)) / (Int32.ofInt 10)) / (Int32.ofInt 10) * (Int32.ofInt 10)) a1 (am_sI h 30 (Int32.toNatClampNeg (x3i + x4i)) ((am_I h q3 (Int32.toNatClampNeg x4i)) - (am_I h q3 (Int32.toNatClampNeg x4i)) / (Int32.ofInt 10) * (Int32.ofInt 10)))) fun r16 h17 => (some (r16, h17)))) fun y9 h10 => (bif am_vp a1 3 then (Option.bind ((if (am_I h q3 (Int32.toNatClampNeg x4i)) < (Int32.ofInt 100) then some (Int32.ofInt 0) else some ((Int32.ofInt 1) <<< (x4i &&& 31)))) fun y70 => (g_X7_give n 1 a1 a2 x3i (x4i + Int32.ofInt 1) (am_sI (am_sI h10 35 (Int32.toNatClampNeg (x3i + x4i)) y9) 36 (Int32.toNatClampNeg a1) ((am_I (am_sI h10 35 (Int32.toNatClampNeg (x3i + x4i)) y9) 36 (Int32.toNatClampNeg a1)) ||| y70)))) else none)) else none) else none)))) else none)
set_option maxRecDepth 100000 in
set_option maxHeartbeats 4000000 in
theorem m_X7_give (n : Nat) : (∀ (a1 : Int32) (a2 : Nat) (x3i : Int32) (x4i : Int32) (h : am_H) (v : Unit) (h' : am_H), am_stat h → g_X7_give n 0 a1 a2 x3i x4i h = some (v, h') → am_stat h') ∧ (∀ (a1 : Int32) (a2 : Nat) (x3i : Int32) (x4i : Int32) (h : am_H) (v : Unit) (h' : am_H), am_stat h → g_X7_give n 1 a1 a2 x3i x4i h = some (v, h') → am_stat h') := by
  induction n with
  | zero => exact ⟨fun a1 a2 x3i x4i h v h' hs hf => (by cases hf), fun a1 a2 x3i x4i h v h' hs hf => (by cases hf)⟩
  | succ n ih =>
    refine ⟨?_, ?_⟩
    · intro a1 a2 x3i x4i h v h' hs hf
      have hf : ((if (Int32.ofInt 16) ≤ x4i then bif am_vp a1 3 then (bif am_isO (am_sI (am_sI h 33 (Int32.toNatClampNeg a1) (vp_nar (am_at 2) (Int32.ofInt 1))) 36 (Int32.toNatClampNeg a1) (Int32.ofInt 0)) a2 0 then ((am_A (am_sI (am_sI h 33 (Int32.toNatClampNeg a1) (vp_nar (am_at 2) (Int32.ofInt 1))) 36 (Int32.toNatClampNeg a1) (Int32.ofInt 0)) a2 2).bind fun q4 => ((am_ln (am_sI (am_sI h 33 (Int32.toNatClampNeg a1) (vp_nar (am_at 2) (Int32.ofInt 1))) 36 (Int32.toNatClampNeg a1) (Int32.ofInt 0)) 0 q4).bind fun n6 => (bif am_cpk (Int32.ofInt 0) x3i ((am_I (am_sI (am_sI h 33 (Int32.toNatClampNeg a1) (vp_nar (am_at 2) (Int32.ofInt 1))) 36 (Int32.toNatClampNeg a1) (Int32.ofInt 0)) a2 0) + (Int32.ofInt 1)) n6 48 then (g_X7_give n 1 a1 a2 x3i (Int32.ofInt 1) (am_sR (am_sI (am_sI h 33 (Int32.toNatClampNeg a1) (vp_nar (am_at 2) (Int32.ofInt 1))) 36 (Int32.toNatClampNeg a1) (Int32.ofInt 0)) 34 (va_cpy (am_I (am_sI (am_sI h 33 (Int32.toNatClampNeg a1) (vp_nar (am_at 2) (Int32.ofInt 1))) 36 (Int32.toNatClampNeg a1) (Int32.ofInt 0)) q4) (am_I (am_sI (am_sI h 33 (Int32.toNatClampNeg a1) (vp_nar (am_at 2) (Int32.ofInt 1))) 36 (Int32.toNatClampNeg a1) (Int32.ofInt 0)) 34) (Int32.toNatClampNeg (Int32.ofInt 0)) (Int32.toNatClampNeg x3i) (Int32.toNatClampNeg ((am_I (am_sI (am_sI h 33 (Int32.toNatClampNeg a1) (vp_nar (am_at 2) (Int32.ofInt 1))) 36 (Int32.toNatClampNeg a1) (Int32.ofInt 0)) a2 0) + (Int32.ofInt 1)))))) else none))) else none) else none else bif am_vp (x3i + x4i) 48 then (g_X7_give n 0 a1 a2 x3i (x4i + Int32.ofInt 1) (am_sI h 34 (Int32.toNatClampNeg (x3i + x4i)) (Int32.ofInt 0))) else none)) = some (v, h') := hf
      by_cases c1 : (Int32.ofInt 16) ≤ x4i
      · rw [if_pos c1] at hf
        obtain ⟨b2, hf⟩ := am_bis hf
        obtain ⟨k3, hf⟩ := am_bis hf
        obtain ⟨q4, k5, hf⟩ := am_bnd hf
        obtain ⟨n6, k7, hf⟩ := am_bnd hf
        obtain ⟨b8, hf⟩ := am_bis hf
        exact ih.2 a1 a2 x3i (Int32.ofInt 1) (am_sR (am_sI (am_sI h 33 (Int32.toNatClampNeg a1) (vp_nar (am_at 2) (Int32.ofInt 1))) 36 (Int32.toNatClampNeg a1) (Int32.ofInt 0)) 34 (va_cpy (am_I (am_sI (am_sI h 33 (Int32.toNatClampNeg a1) (vp_nar (am_at 2) (Int32.ofInt 1))) 36 (Int32.toNatClampNeg a1) (Int32.ofInt 0)) q4) (am_I (am_sI (am_sI h 33 (Int32.toNatClampNeg a1) (vp_nar (am_at 2) (Int32.ofInt 1))) 36 (Int32.toNatClampNeg a1) (Int32.ofInt 0)) 34) (Int32.toNatClampNeg (Int32.ofInt 0)) (Int32.toNatClampNeg x3i) (Int32.toNatClampNeg ((am_I (am_sI (am_sI h 33 (Int32.toNatClampNeg a1) (vp_nar (am_at 2) (Int32.ofInt 1))) 36 (Int32.toNatClampNeg a1) (Int32.ofInt 0)) a2 0) + (Int32.ofInt 1))))) _ _ hs hf
      · rw [if_neg c1] at hf
        obtain ⟨b9, hf⟩ := am_bis hf
        exact ih.1 a1 a2 x3i (x4i + Int32.ofInt 1) (am_sI h 34 (Int32.toNatClampNeg (x3i + x4i)) (Int32.ofInt 0)) _ _ hs hf
    · intro a1 a2 x3i x4i h v h' hs hf
      have hf : (bif am_isO h a2 0 then ((if (am_I h a2 0) < x4i then some ((), h) else (am_A h a2 1).bind fun q3 => ((am_ln h 0 q3).bind fun n5 => (bif am_vp x4i n5 then (bif am_vp (x3i + x4i) 48 then (am_b2 ((if (am_I h q3 (Int32.toNatClampNeg x4i)) < (Int32.ofInt 100) then am_b2 (f_X8_postOf a1 (((am_I h q3 (Int32.toNatClampNeg x4i)) / (Int32.ofInt 10)) - ((am_I h q3 (Int32.toNatClampNeg x4i)) / (Int32.ofInt 10)) / (Int32.ofInt 10) * (Int32.ofInt 10)) (am_sI h 30 (Int32.toNatClampNeg (x3i + x4i)) ((am_I h q3 (Int32.toNatClampNeg x4i)) - (am_I h q3 (Int32.toNatClampNeg x4i)) / (Int32.ofInt 10) * (Int32.ofInt 10)))) fun r13 h14 => (some (r13, h14)) else am_b2 (f_X8_postOf (((am_I h q3 (Int32.toNatClampNeg x4i)) / (Int32.ofInt 10)) - ((am_I h q3 (Int32.toNatClampNeg x4i)) / (Int32.ofInt 10)) / (Int32.ofInt 10) * (Int32.ofInt 10)) a1 (am_sI h 30 (Int32.toNatClampNeg (x3i + x4i)) ((am_I h q3 (Int32.toNatClampNeg x4i)) - (am_I h q3 (Int32.toNatClampNeg x4i)) / (Int32.ofInt 10) * (Int32.ofInt 10)))) fun r16 h17 => (some (r16, h17)))) fun y9 h10 => (bif am_vp a1 3 then (Option.bind ((if (am_I h q3 (Int32.toNatClampNeg x4i)) < (Int32.ofInt 100) then some (Int32.ofInt 0) else some ((Int32.ofInt 1) <<< (x4i &&& 31)))) fun y70 => (g_X7_give n 1 a1 a2 x3i (x4i + Int32.ofInt 1) (am_sI (am_sI h10 35 (Int32.toNatClampNeg (x3i + x4i)) y9) 36 (Int32.toNatClampNeg a1) ((am_I (am_sI h10 35 (Int32.toNatClampNeg (x3i + x4i)) y9) 36 (Int32.toNatClampNeg a1)) ||| y70)))) else none)) else none) else none)))) else none) = some (v, h') := hf
      obtain ⟨k1, hf⟩ := am_bis hf
      by_cases c2 : (am_I h a2 0) < x4i
      · rw [if_pos c2] at hf
        obtain ⟨rfl, rfl⟩ := am_i2 hf
        exact hs
      · rw [if_neg c2] at hf
        obtain ⟨q3, k4, hf⟩ := am_bnd hf
        obtain ⟨n5, k6, hf⟩ := am_bnd hf
        obtain ⟨b7, hf⟩ := am_bis hf
        obtain ⟨b8, hf⟩ := am_bis hf
        obtain ⟨y9, h10, j11, hf⟩ := am_b2_ok hf
        have hs0 := hs
        have hs : am_stat h10 := by
          have hs := hs0
          by_cases c12 : (am_I h q3 (Int32.toNatClampNeg x4i)) < (Int32.ofInt 100)
          · rw [if_pos c12] at j11
            obtain ⟨r13, h14, e15, j11⟩ := am_b2_ok j11
            have hs := s_X8_postOf a1 (((am_I h q3 (Int32.toNatClampNeg x4i)) / (Int32.ofInt 10)) - ((am_I h q3 (Int32.toNatClampNeg x4i)) / (Int32.ofInt 10)) / (Int32.ofInt 10) * (Int32.ofInt 10)) (am_sI h 30 (Int32.toNatClampNeg (x3i + x4i)) ((am_I h q3 (Int32.toNatClampNeg x4i)) - (am_I h q3 (Int32.toNatClampNeg x4i)) / (Int32.ofInt 10) * (Int32.ofInt 10))) hs e15
            obtain ⟨rfl, rfl⟩ := am_i2 j11
            exact hs
          · rw [if_neg c12] at j11
            obtain ⟨r16, h17, e18, j11⟩ := am_b2_ok j11
            have hs := s_X8_postOf (((am_I h q3 (Int32.toNatClampNeg x4i)) / (Int32.ofInt 10)) - ((am_I h q3 (Int32.toNatClampNeg x4i)) / (Int32.ofInt 10)) / (Int32.ofInt 10) * (Int32.ofInt 10)) a1 (am_sI h 30 (Int32.toNatClampNeg (x3i + x4i)) ((am_I h q3 (Int32.toNatClampNeg x4i)) - (am_I h q3 (Int32.toNatClampNeg x4i)) / (Int32.ofInt 10) * (Int32.ofInt 10))) hs e18
            obtain ⟨rfl, rfl⟩ := am_i2 j11
            exact hs
        obtain ⟨b69, hf⟩ := am_bis hf
        obtain ⟨y70, j71, hf⟩ := am_bnd hf
        exact ih.2 a1 a2 x3i (x4i + Int32.ofInt 1) (am_sI (am_sI h10 35 (Int32.toNatClampNeg (x3i + x4i)) y9) 36 (Int32.toNatClampNeg a1) ((am_I (am_sI h10 35 (Int32.toNatClampNeg (x3i + x4i)) y9) 36 (Int32.toNatClampNeg a1)) ||| y70)) _ _ hs hf
set_option maxRecDepth 100000 in
set_option maxHeartbeats 4000000 in
theorem l_X7_give (n : Nat) : (∀ (a1 : Int32) (a2 : Nat) (x3i : Int32) (x4i : Int32) (h : am_H) (v : Unit) (h' : am_H), am_stat h → g_X7_give n 0 a1 a2 x3i x4i h = some (v, h') → AW mX7_give (rX7_give 0 0) (fun r h2 => r = none ∧ h2 = h') 8 [(0, .ref 28), (1, .int a1), (2, .ref a2), (3, .int x3i), (4, .int x4i)] [] h 0 0) ∧ (∀ (a1 : Int32) (a2 : Nat) (x3i : Int32) (x4i : Int32) (h : am_H) (v : Unit) (h' : am_H), am_stat h → g_X7_give n 1 a1 a2 x3i x4i h = some (v, h') → AW mX7_give (rX7_give 0 0) (fun r h2 => r = none ∧ h2 = h') 80 [(0, .ref 28), (1, .int a1), (2, .ref a2), (3, .int x3i), (4, .int x4i)] [] h 0 0) := by
  induction n with
  | zero => exact ⟨fun a1 a2 x3i x4i h v h' hs hf => (by cases hf), fun a1 a2 x3i x4i h v h' hs hf => (by cases hf)⟩
  | succ n ih =>
    refine ⟨?_, ?_⟩
    · intro a1 a2 x3i x4i h v h' hs hf
      have hf : ((if (Int32.ofInt 16) ≤ x4i then bif am_vp a1 3 then (bif am_isO (am_sI (am_sI h 33 (Int32.toNatClampNeg a1) (vp_nar (am_at 2) (Int32.ofInt 1))) 36 (Int32.toNatClampNeg a1) (Int32.ofInt 0)) a2 0 then ((am_A (am_sI (am_sI h 33 (Int32.toNatClampNeg a1) (vp_nar (am_at 2) (Int32.ofInt 1))) 36 (Int32.toNatClampNeg a1) (Int32.ofInt 0)) a2 2).bind fun q4 => ((am_ln (am_sI (am_sI h 33 (Int32.toNatClampNeg a1) (vp_nar (am_at 2) (Int32.ofInt 1))) 36 (Int32.toNatClampNeg a1) (Int32.ofInt 0)) 0 q4).bind fun n6 => (bif am_cpk (Int32.ofInt 0) x3i ((am_I (am_sI (am_sI h 33 (Int32.toNatClampNeg a1) (vp_nar (am_at 2) (Int32.ofInt 1))) 36 (Int32.toNatClampNeg a1) (Int32.ofInt 0)) a2 0) + (Int32.ofInt 1)) n6 48 then (g_X7_give n 1 a1 a2 x3i (Int32.ofInt 1) (am_sR (am_sI (am_sI h 33 (Int32.toNatClampNeg a1) (vp_nar (am_at 2) (Int32.ofInt 1))) 36 (Int32.toNatClampNeg a1) (Int32.ofInt 0)) 34 (va_cpy (am_I (am_sI (am_sI h 33 (Int32.toNatClampNeg a1) (vp_nar (am_at 2) (Int32.ofInt 1))) 36 (Int32.toNatClampNeg a1) (Int32.ofInt 0)) q4) (am_I (am_sI (am_sI h 33 (Int32.toNatClampNeg a1) (vp_nar (am_at 2) (Int32.ofInt 1))) 36 (Int32.toNatClampNeg a1) (Int32.ofInt 0)) 34) (Int32.toNatClampNeg (Int32.ofInt 0)) (Int32.toNatClampNeg x3i) (Int32.toNatClampNeg ((am_I (am_sI (am_sI h 33 (Int32.toNatClampNeg a1) (vp_nar (am_at 2) (Int32.ofInt 1))) 36 (Int32.toNatClampNeg a1) (Int32.ofInt 0)) a2 0) + (Int32.ofInt 1)))))) else none))) else none) else none else bif am_vp (x3i + x4i) 48 then (g_X7_give n 0 a1 a2 x3i (x4i + Int32.ofInt 1) (am_sI h 34 (Int32.toNatClampNeg (x3i + x4i)) (Int32.ofInt 0))) else none)) = some (v, h') := hf
      refine AW_go okX7_give 3 ?_
      refine And.intro (fun c1 => ?_) (fun c1 => ?_)
      · rw [if_pos c1] at hf
        obtain ⟨b2, hf⟩ := am_bis hf
        obtain ⟨k3, hf⟩ := am_bis hf
        obtain ⟨q4, k5, hf⟩ := am_bnd hf
        obtain ⟨n6, k7, hf⟩ := am_bnd hf
        obtain ⟨b8, hf⟩ := am_bis hf
        refine AW_go okX7_give 25 ?_
        refine And.intro (sK hs 28) (Exists.intro _ (And.intro (sA hs 28 6) ?_))
        refine Exists.intro 2 (Exists.intro 3 (And.intro (by decide) (And.intro (sK hs 33) (And.intro (am_vp_ok b2) ?_))))
        refine And.intro (sK hs 28) (Exists.intro _ (And.intro (sA hs 28 9) ?_))
        refine Exists.intro 3 (And.intro (sK hs 36) (And.intro (am_vp_ok b2) ?_))
        refine And.intro (am_isO_ok k3) (Exists.intro (some q4) (And.intro k5 ?_))
        refine And.intro (sK hs 28) (Exists.intro _ (And.intro (sA hs 28 7) ?_))
        refine And.intro (am_isO_ok k3) ?_
        obtain ⟨b81, b82, b83, b84, b85⟩ := am_cpk_ok b8
        refine AW_copy (okX7_give.1 74 _ _ rfl) kX7_48 (am_ln_ok k7) (sK hs 34) b81 b82 b83 b84 b85 (Nat.le_of_ble_eq_true rfl) (Nat.le_of_ble_eq_true rfl) ?_
        refine AW_go okX7_give 2 ?_
        refine AW_pick (lv' := [(0, .ref 28), (1, .int a1), (2, .ref a2), (3, .int x3i), (4, .int (Int32.ofInt 1))]) [1, 2, 3, 4, 0] rfl ?_
        exact ih.2 a1 a2 x3i (Int32.ofInt 1) (am_sR (am_sI (am_sI h 33 (Int32.toNatClampNeg a1) (vp_nar (am_at 2) (Int32.ofInt 1))) 36 (Int32.toNatClampNeg a1) (Int32.ofInt 0)) 34 (va_cpy (am_I (am_sI (am_sI h 33 (Int32.toNatClampNeg a1) (vp_nar (am_at 2) (Int32.ofInt 1))) 36 (Int32.toNatClampNeg a1) (Int32.ofInt 0)) q4) (am_I (am_sI (am_sI h 33 (Int32.toNatClampNeg a1) (vp_nar (am_at 2) (Int32.ofInt 1))) 36 (Int32.toNatClampNeg a1) (Int32.ofInt 0)) 34) (Int32.toNatClampNeg (Int32.ofInt 0)) (Int32.toNatClampNeg x3i) (Int32.toNatClampNeg ((am_I (am_sI (am_sI h 33 (Int32.toNatClampNeg a1) (vp_nar (am_at 2) (Int32.ofInt 1))) 36 (Int32.toNatClampNeg a1) (Int32.ofInt 0)) a2 0) + (Int32.ofInt 1))))) _ _ hs hf
      · rw [if_neg c1] at hf
        obtain ⟨b9, hf⟩ := am_bis hf
        refine AW_go okX7_give 9 ?_
        refine And.intro (sK hs 28) (Exists.intro _ (And.intro (sA hs 28 7) ?_))
        refine Exists.intro 48 (And.intro (sK hs 34) (And.intro (am_vp_ok b9) ?_))
        refine AW_pick (lv' := [(0, .ref 28), (1, .int a1), (2, .ref a2), (3, .int x3i), (4, .int (x4i + Int32.ofInt 1))]) [1, 2, 3, 4, 0] rfl ?_
        exact ih.1 a1 a2 x3i (x4i + Int32.ofInt 1) (am_sI h 34 (Int32.toNatClampNeg (x3i + x4i)) (Int32.ofInt 0)) _ _ hs hf
    · intro a1 a2 x3i x4i h v h' hs hf
      have hf : (bif am_isO h a2 0 then ((if (am_I h a2 0) < x4i then some ((), h) else (am_A h a2 1).bind fun q3 => ((am_ln h 0 q3).bind fun n5 => (bif am_vp x4i n5 then (bif am_vp (x3i + x4i) 48 then (am_b2 ((if (am_I h q3 (Int32.toNatClampNeg x4i)) < (Int32.ofInt 100) then am_b2 (f_X8_postOf a1 (((am_I h q3 (Int32.toNatClampNeg x4i)) / (Int32.ofInt 10)) - ((am_I h q3 (Int32.toNatClampNeg x4i)) / (Int32.ofInt 10)) / (Int32.ofInt 10) * (Int32.ofInt 10)) (am_sI h 30 (Int32.toNatClampNeg (x3i + x4i)) ((am_I h q3 (Int32.toNatClampNeg x4i)) - (am_I h q3 (Int32.toNatClampNeg x4i)) / (Int32.ofInt 10) * (Int32.ofInt 10)))) fun r13 h14 => (some (r13, h14)) else am_b2 (f_X8_postOf (((am_I h q3 (Int32.toNatClampNeg x4i)) / (Int32.ofInt 10)) - ((am_I h q3 (Int32.toNatClampNeg x4i)) / (Int32.ofInt 10)) / (Int32.ofInt 10) * (Int32.ofInt 10)) a1 (am_sI h 30 (Int32.toNatClampNeg (x3i + x4i)) ((am_I h q3 (Int32.toNatClampNeg x4i)) - (am_I h q3 (Int32.toNatClampNeg x4i)) / (Int32.ofInt 10) * (Int32.ofInt 10)))) fun r16 h17 => (some (r16, h17)))) fun y9 h10 => (bif am_vp a1 3 then (Option.bind ((if (am_I h q3 (Int32.toNatClampNeg x4i)) < (Int32.ofInt 100) then some (Int32.ofInt 0) else some ((Int32.ofInt 1) <<< (x4i &&& 31)))) fun y70 => (g_X7_give n 1 a1 a2 x3i (x4i + Int32.ofInt 1) (am_sI (am_sI h10 35 (Int32.toNatClampNeg (x3i + x4i)) y9) 36 (Int32.toNatClampNeg a1) ((am_I (am_sI h10 35 (Int32.toNatClampNeg (x3i + x4i)) y9) 36 (Int32.toNatClampNeg a1)) ||| y70)))) else none)) else none) else none)))) else none) = some (v, h') := hf
      obtain ⟨k1, hf⟩ := am_bis hf
      refine AW_go okX7_give 4 ?_
      refine And.intro (am_isO_ok k1) ?_
      refine And.intro (fun c2 => ?_) (fun c2 => ?_)
      · rw [if_pos c2] at hf
        refine AW_go okX7_give 1 ?_
        obtain ⟨rfl, rfl⟩ := am_i2 hf
        exact And.intro ⟨(Nat.le_of_ble_eq_true rfl), (Nat.le_of_ble_eq_true rfl)⟩ (And.intro rfl ⟨rfl, rfl⟩)
      · rw [if_neg c2] at hf
        obtain ⟨q3, k4, hf⟩ := am_bnd hf
        obtain ⟨n5, k6, hf⟩ := am_bnd hf
        obtain ⟨b7, hf⟩ := am_bis hf
        obtain ⟨b8, hf⟩ := am_bis hf
        refine AW_go okX7_give 27 ?_
        refine And.intro (am_isO_ok k1) (Exists.intro (some q3) (And.intro k4 ?_))
        refine Exists.intro n5 (And.intro (am_ln_ok k6) (And.intro (am_vp_ok b7) ?_))
        refine And.intro (by decide) ?_
        refine And.intro (by decide) ?_
        refine And.intro (sK hs 28) (Exists.intro _ (And.intro (sA hs 28 2) ?_))
        refine And.intro (by decide) ?_
        refine Exists.intro 48 (And.intro (sK hs 30) (And.intro (am_vp_ok b8) ?_))
        refine And.intro (sK hs 28) (Exists.intro _ (And.intro (sA hs 28 8) ?_))
        obtain ⟨y9, h10, j11, hf⟩ := am_b2_ok hf
        have hs0 := hs
        have hs : am_stat h10 := by
          have hs := hs0
          by_cases c12 : (am_I h q3 (Int32.toNatClampNeg x4i)) < (Int32.ofInt 100)
          · rw [if_pos c12] at j11
            obtain ⟨r13, h14, e15, j11⟩ := am_b2_ok j11
            have hs := s_X8_postOf a1 (((am_I h q3 (Int32.toNatClampNeg x4i)) / (Int32.ofInt 10)) - ((am_I h q3 (Int32.toNatClampNeg x4i)) / (Int32.ofInt 10)) / (Int32.ofInt 10) * (Int32.ofInt 10)) (am_sI h 30 (Int32.toNatClampNeg (x3i + x4i)) ((am_I h q3 (Int32.toNatClampNeg x4i)) - (am_I h q3 (Int32.toNatClampNeg x4i)) / (Int32.ofInt 10) * (Int32.ofInt 10))) hs e15
            obtain ⟨rfl, rfl⟩ := am_i2 j11
            exact hs
          · rw [if_neg c12] at j11
            obtain ⟨r16, h17, e18, j11⟩ := am_b2_ok j11
            have hs := s_X8_postOf (((am_I h q3 (Int32.toNatClampNeg x4i)) / (Int32.ofInt 10)) - ((am_I h q3 (Int32.toNatClampNeg x4i)) / (Int32.ofInt 10)) / (Int32.ofInt 10) * (Int32.ofInt 10)) a1 (am_sI h 30 (Int32.toNatClampNeg (x3i + x4i)) ((am_I h q3 (Int32.toNatClampNeg x4i)) - (am_I h q3 (Int32.toNatClampNeg x4i)) / (Int32.ofInt 10) * (Int32.ofInt 10))) hs e18
            obtain ⟨rfl, rfl⟩ := am_i2 j11
            exact hs
        refine am_cut (P := AW mX7_give (rX7_give 0 0) (fun r h2 => r = none ∧ h2 = h') 152 [(0, .ref 28), (1, .int a1), (2, .ref a2), (3, .int x3i), (4, .int x4i), (5, .int (am_I h q3 (Int32.toNatClampNeg x4i))), (6, .int (((am_I h q3 (Int32.toNatClampNeg x4i)) / (Int32.ofInt 10)) - ((am_I h q3 (Int32.toNatClampNeg x4i)) / (Int32.ofInt 10)) / (Int32.ofInt 10) * (Int32.ofInt 10)))] [.int y9, .int (x3i + x4i), .ref 35] h10 0 0) (fun hJ11 => ?_) ?_
        · have hs := hs0
          refine AW_go okX7_give 1 ?_
          refine And.intro (fun c12 => ?_) (fun c12 => ?_)
          · rw [if_pos c12] at j11
            refine AW_go okX7_give 2 ?_
            obtain ⟨r13, h14, e15, j11⟩ := am_b2_ok j11
            refine AW_callS (As := [.int a1, .int (((am_I h q3 (Int32.toNatClampNeg x4i)) / (Int32.ofInt 10)) - ((am_I h q3 (Int32.toNatClampNeg x4i)) / (Int32.ofInt 10)) / (Int32.ofInt 10) * (Int32.ofInt 10))]) (R' := rX8_postOf 0 0) (okX7_give.1 149 _ _ rfl) lkX8_postOf (Or.inr ⟨_, kX7_57⟩) rfl (Nat.le_of_ble_eq_true rfl) ⟨(Nat.le_of_ble_eq_true rfl), (Nat.le_of_ble_eq_true rfl)⟩ ⟨(Nat.le_of_ble_eq_true rfl), (Nat.le_of_ble_eq_true rfl)⟩ (Nat.le_of_ble_eq_true rfl) (c_X8_postOf a1 (((am_I h q3 (Int32.toNatClampNeg x4i)) / (Int32.ofInt 10)) - ((am_I h q3 (Int32.toNatClampNeg x4i)) / (Int32.ofInt 10)) / (Int32.ofInt 10) * (Int32.ofInt 10)) (am_sI h 30 (Int32.toNatClampNeg (x3i + x4i)) ((am_I h q3 (Int32.toNatClampNeg x4i)) - (am_I h q3 (Int32.toNatClampNeg x4i)) / (Int32.ofInt 10) * (Int32.ofInt 10))) hs e15) (fun r h' hq => ?_)
            obtain ⟨rfl, hq⟩ := hq
            replace hq := hq.symm
            subst hq
            have hs := s_X8_postOf a1 (((am_I h q3 (Int32.toNatClampNeg x4i)) / (Int32.ofInt 10)) - ((am_I h q3 (Int32.toNatClampNeg x4i)) / (Int32.ofInt 10)) / (Int32.ofInt 10) * (Int32.ofInt 10)) (am_sI h 30 (Int32.toNatClampNeg (x3i + x4i)) ((am_I h q3 (Int32.toNatClampNeg x4i)) - (am_I h q3 (Int32.toNatClampNeg x4i)) / (Int32.ofInt 10) * (Int32.ofInt 10))) hs e15
            obtain ⟨rfl, rfl⟩ := am_i2 j11
            exact AW_pick [2, 3, 4, 5, 6, 1, 0] rfl hJ11
          · rw [if_neg c12] at j11
            refine AW_go okX7_give 2 ?_
            obtain ⟨r16, h17, e18, j11⟩ := am_b2_ok j11
            refine AW_callS (As := [.int (((am_I h q3 (Int32.toNatClampNeg x4i)) / (Int32.ofInt 10)) - ((am_I h q3 (Int32.toNatClampNeg x4i)) / (Int32.ofInt 10)) / (Int32.ofInt 10) * (Int32.ofInt 10)), .int a1]) (R' := rX8_postOf 0 0) (okX7_give.1 140 _ _ rfl) lkX8_postOf (Or.inr ⟨_, kX7_57⟩) rfl (Nat.le_of_ble_eq_true rfl) ⟨(Nat.le_of_ble_eq_true rfl), (Nat.le_of_ble_eq_true rfl)⟩ ⟨(Nat.le_of_ble_eq_true rfl), (Nat.le_of_ble_eq_true rfl)⟩ (Nat.le_of_ble_eq_true rfl) (c_X8_postOf (((am_I h q3 (Int32.toNatClampNeg x4i)) / (Int32.ofInt 10)) - ((am_I h q3 (Int32.toNatClampNeg x4i)) / (Int32.ofInt 10)) / (Int32.ofInt 10) * (Int32.ofInt 10)) a1 (am_sI h 30 (Int32.toNatClampNeg (x3i + x4i)) ((am_I h q3 (Int32.toNatClampNeg x4i)) - (am_I h q3 (Int32.toNatClampNeg x4i)) / (Int32.ofInt 10) * (Int32.ofInt 10))) hs e18) (fun r h' hq => ?_)
            obtain ⟨rfl, hq⟩ := hq
            replace hq := hq.symm
            subst hq
            have hs := s_X8_postOf (((am_I h q3 (Int32.toNatClampNeg x4i)) / (Int32.ofInt 10)) - ((am_I h q3 (Int32.toNatClampNeg x4i)) / (Int32.ofInt 10)) / (Int32.ofInt 10) * (Int32.ofInt 10)) a1 (am_sI h 30 (Int32.toNatClampNeg (x3i + x4i)) ((am_I h q3 (Int32.toNatClampNeg x4i)) - (am_I h q3 (Int32.toNatClampNeg x4i)) / (Int32.ofInt 10) * (Int32.ofInt 10))) hs e18
            refine AW_go okX7_give 1 ?_
            obtain ⟨rfl, rfl⟩ := am_i2 j11
            exact AW_pick [2, 3, 4, 5, 6, 1, 0] rfl hJ11
        obtain ⟨b69, hf⟩ := am_bis hf
        refine AW_go okX7_give 8 ?_
        refine Exists.intro 48 (And.intro (sK hs 35) (And.intro (am_vp_ok b8) ?_))
        refine And.intro (sK hs 28) (Exists.intro _ (And.intro (sA hs 28 9) ?_))
        refine Exists.intro 3 (And.intro (sK hs 36) (And.intro (am_vp_ok b69) ?_))
        obtain ⟨y70, j71, hf⟩ := am_bnd hf
        refine am_cut (P := AW mX7_give (rX7_give 0 0) (fun r h2 => r = none ∧ h2 = h') 175 [(0, .ref 28), (1, .int a1), (2, .ref a2), (3, .int x3i), (4, .int x4i), (5, .int (am_I h q3 (Int32.toNatClampNeg x4i))), (6, .int (((am_I h q3 (Int32.toNatClampNeg x4i)) / (Int32.ofInt 10)) - ((am_I h q3 (Int32.toNatClampNeg x4i)) / (Int32.ofInt 10)) / (Int32.ofInt 10) * (Int32.ofInt 10)))] [.int y70, .int (am_I (am_sI h10 35 (Int32.toNatClampNeg (x3i + x4i)) y9) 36 (Int32.toNatClampNeg a1)), .int a1, .ref 36] (am_sI h10 35 (Int32.toNatClampNeg (x3i + x4i)) y9) 0 0) (fun hJ71 => ?_) ?_
        · have hs := hs
          refine AW_go okX7_give 1 ?_
          refine And.intro (fun c72 => ?_) (fun c72 => ?_)
          · rw [if_pos c72] at j71
            refine AW_go okX7_give 1 ?_
            obtain rfl := am_i1 j71
            exact AW_pick [0, 1, 2, 3, 4, 5, 6] rfl hJ71
          · rw [if_neg c72] at j71
            refine AW_go okX7_give 4 ?_
            obtain rfl := am_i1 j71
            exact AW_pick [0, 1, 2, 3, 4, 5, 6] rfl hJ71
        refine AW_go okX7_give 4 ?_
        refine Exists.intro 3 (And.intro (sK hs 36) (And.intro (am_vp_ok b69) ?_))
        refine AW_pick (lv' := [(0, .ref 28), (1, .int a1), (2, .ref a2), (3, .int x3i), (4, .int (x4i + Int32.ofInt 1))]) [1, 2, 3, 4, 0] rfl ?_
        exact ih.2 a1 a2 x3i (x4i + Int32.ofInt 1) (am_sI (am_sI h10 35 (Int32.toNatClampNeg (x3i + x4i)) y9) 36 (Int32.toNatClampNeg a1) ((am_I (am_sI h10 35 (Int32.toNatClampNeg (x3i + x4i)) y9) 36 (Int32.toNatClampNeg a1)) ||| y70)) _ _ hs hf
def f_X7_give (n : Nat) (a1 : Int32) (a2 : Nat) (h : am_H) : Option (Unit × am_H) := g_X7_give n 0 a1 a2 ((Int32.ofInt 16) * a1) (Int32.ofInt 0) h
set_option maxRecDepth 100000 in
theorem s_X7_give (n : Nat) (a1 : Int32) (a2 : Nat) (h : am_H) (hs : am_stat h) {v : Unit} {h' : am_H} (hf : f_X7_give n a1 a2 h = some (v, h')) : am_stat h' := by
  unfold f_X7_give at hf
  exact (m_X7_give n).1 a1 a2 ((Int32.ofInt 16) * a1) (Int32.ofInt 0) h _ _ hs hf
set_option maxRecDepth 100000 in
theorem c_X7_give (n : Nat) (a1 : Int32) (a2 : Nat) (h : am_H) (hs : am_stat h) {v : Unit} {h' : am_H} (hf : f_X7_give n a1 a2 h = some (v, h')) : AMet mX7_give (rX7_give 0 0) (fun r h2 => r = none ∧ h2 = h') [.ref 28, .int a1, .ref a2] h := by
  unfold f_X7_give at hf
  refine AW_go okX7_give 6 ?_
  refine AW_pick (lv' := [(0, .ref 28), (1, .int a1), (2, .ref a2), (3, .int ((Int32.ofInt 16) * a1)), (4, .int (Int32.ofInt 0))]) [2, 3, 4, 1, 0] rfl ?_
  exact (l_X7_give n).1 a1 a2 ((Int32.ofInt 16) * a1) (Int32.ofInt 0) h _ _ hs hf
