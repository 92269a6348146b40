def g_X2_numberOf : Nat → Nat → Int32 → Int32 → am_H → Option ((Int32 × am_H) × Nat × Nat)
  | 0, _, _, _, _ => none
  | n + 1, _, a1, x2i, h => (if (am_I h 12 0) ≤ x2i then (am_A h 12 1).bind fun q2 => ((am_ln h 0 q2).bind fun n4 => ((if (am_I h 12 0) < (Int32.ofNat n4) then (am_A h 12 1).bind fun q7 => ((am_ln h 0 q7).bind fun n9 => (bif am_vp (am_I h 12 0) n9 then (some (((am_I (am_sI h q7 (Int32.toNatClampNeg (am_I h 12 0)) a1) 12 0), (am_sI (am_sI h q7 (Int32.toNatClampNeg (am_I h 12 0)) a1) 12 0 ((am_I (am_sI h q7 (Int32.toNatClampNeg (am_I h 12 0)) a1) 12 0) + (Int32.ofInt 1)))), 0, 0)) else none)) else am_bc (f_X2_grow h) fun r12 h13 => ((am_A h13 12 1).bind fun q20 => ((am_ln h13 0 q20).bind fun n22 => (bif am_vp (am_I h13 12 0) n22 then (some (((am_I (am_sI h13 q20 (Int32.toNatClampNeg (am_I h13 12 0)) a1) 12 0), (am_sI (am_sI h13 q20 (Int32.toNatClampNeg (am_I h13 12 0)) a1) 12 0 ((am_I (am_sI h13 q20 (Int32.toNatClampNeg (am_I h13 12 0)) a1) 12 0) + (Int32.ofInt 1)))), 0, 0)) else none)))))) else (am_A h 12 1).bind fun q25 => ((am_ln h 0 q25).bind fun n27 => (bif am_vp x2i n27 then ((if (am_I h q25 (Int32.toNatClampNeg x2i)) = a1 then some ((x2i, h), 0, 0) else g_X2_numberOf n 0 a1 (x2i + Int32.ofInt 1) h)) else none)))
set_option maxRecDepth 100000 in
set_option maxHeartbeats 4000000 in
theorem m_X2_numberOf (n : Nat) : (∀ (a1 : Int32) (x2i : Int32) (h : am_H) (v : Int32) (h' : am_H) (cr sr : Nat), am_stat h → g_X2_numberOf n 0 a1 x2i h = some ((v, h'), cr, sr) → am_stat h') := by
  induction n with
  | zero => exact fun a1 x2i h v h' cr sr hs hf => (by cases hf)
  | succ n ih =>
    skip
    · intro a1 x2i h v h' cr sr hs hf
      have hf : ((if (am_I h 12 0) ≤ x2i then (am_A h 12 1).bind fun q2 => ((am_ln h 0 q2).bind fun n4 => ((if (am_I h 12 0) < (Int32.ofNat n4) then (am_A h 12 1).bind fun q7 => ((am_ln h 0 q7).bind fun n9 => (bif am_vp (am_I h 12 0) n9 then (some (((am_I (am_sI h q7 (Int32.toNatClampNeg (am_I h 12 0)) a1) 12 0), (am_sI (am_sI h q7 (Int32.toNatClampNeg (am_I h 12 0)) a1) 12 0 ((am_I (am_sI h q7 (Int32.toNatClampNeg (am_I h 12 0)) a1) 12 0) + (Int32.ofInt 1)))), 0, 0)) else none)) else am_bc (f_X2_grow h) fun r12 h13 => ((am_A h13 12 1).bind fun q20 => ((am_ln h13 0 q20).bind fun n22 => (bif am_vp (am_I h13 12 0) n22 then (some (((am_I (am_sI h13 q20 (Int32.toNatClampNeg (am_I h13 12 0)) a1) 12 0), (am_sI (am_sI h13 q20 (Int32.toNatClampNeg (am_I h13 12 0)) a1) 12 0 ((am_I (am_sI h13 q20 (Int32.toNatClampNeg (am_I h13 12 0)) a1) 12 0) + (Int32.ofInt 1)))), 0, 0)) else none)))))) else (am_A h 12 1).bind fun q25 => ((am_ln h 0 q25).bind fun n27 => (bif am_vp x2i n27 then ((if (am_I h q25 (Int32.toNatClampNeg x2i)) = a1 then some ((x2i, h), 0, 0) else g_X2_numberOf n 0 a1 (x2i + Int32.ofInt 1) h)) else none)))) = some ((v, h'), cr, sr) := hf
      by_cases c1 : (am_I h 12 0) ≤ x2i
      · rw [if_pos c1] at hf
        obtain ⟨q2, k3, hf⟩ := am_bnd hf
        obtain ⟨n4, k5, hf⟩ := am_bnd hf
        by_cases c6 : (am_I h 12 0) < (Int32.ofNat n4)
        · rw [if_pos c6] at hf
          obtain ⟨q7, k8, hf⟩ := am_bnd hf
          obtain ⟨n9, k10, hf⟩ := am_bnd hf
          obtain ⟨b11, hf⟩ := am_bis hf
          obtain ⟨rfl, rfl, rfl, rfl⟩ := am_ic hf
          exact hs
        · rw [if_neg c6] at hf
          obtain ⟨r12, h13, c15, s16, c17, s18, e14, hg19, rfl, rfl⟩ := am_bc_ok hf
          have hf := hg19
          have hs := s_X2_grow h hs e14
          obtain ⟨q20, k21, hf⟩ := am_bnd hf
          obtain ⟨n22, k23, hf⟩ := am_bnd hf
          obtain ⟨b24, hf⟩ := am_bis hf
          obtain ⟨rfl, rfl, rfl, rfl⟩ := am_ic hf
          exact hs
      · rw [if_neg c1] at hf
        obtain ⟨q25, k26, hf⟩ := am_bnd hf
        obtain ⟨n27, k28, hf⟩ := am_bnd hf
        obtain ⟨b29, hf⟩ := am_bis hf
        by_cases c30 : (am_I h q25 (Int32.toNatClampNeg x2i)) = a1
        · rw [if_pos c30] at hf
          obtain ⟨rfl, rfl, rfl, rfl⟩ := am_ic hf
          exact hs
        · rw [if_neg c30] at hf
          exact ih a1 (x2i + Int32.ofInt 1) h _ _ cr sr hs hf
set_option maxRecDepth 100000 in
set_option maxHeartbeats 4000000 in
theorem l_X2_numberOf (n : Nat) : (∀ (a1 : Int32) (x2i : Int32) (h : am_H) (v : Int32) (h' : am_H) (cr sr : Nat) (Cc Ss ac sc : Nat), ac + cr ≤ Cc → sc + sr ≤ Ss → am_stat h → g_X2_numberOf n 0 a1 x2i h = some ((v, h'), cr, sr) → AW mX2_numberOf (rX2_numberOf Cc Ss) (fun r h2 => r = some (.int v) ∧ h2 = h') 2 [(0, .ref 12), (1, .int a1), (2, .int x2i)] [] h ac sc) := by
  induction n with
  | zero => exact fun a1 x2i h v h' cr sr Cc Ss ac sc hC hS hs hf => (by cases hf)
  | succ n ih =>
    skip
    · intro a1 x2i h v h' cr sr Cc Ss ac sc hC hS hs hf
      have hf : ((if (am_I h 12 0) ≤ x2i then (am_A h 12 1).bind fun q2 => ((am_ln h 0 q2).bind fun n4 => ((if (am_I h 12 0) < (Int32.ofNat n4) then (am_A h 12 1).bind fun q7 => ((am_ln h 0 q7).bind fun n9 => (bif am_vp (am_I h 12 0) n9 then (some (((am_I (am_sI h q7 (Int32.toNatClampNeg (am_I h 12 0)) a1) 12 0), (am_sI (am_sI h q7 (Int32.toNatClampNeg (am_I h 12 0)) a1) 12 0 ((am_I (am_sI h q7 (Int32.toNatClampNeg (am_I h 12 0)) a1) 12 0) + (Int32.ofInt 1)))), 0, 0)) else none)) else am_bc (f_X2_grow h) fun r12 h13 => ((am_A h13 12 1).bind fun q20 => ((am_ln h13 0 q20).bind fun n22 => (bif am_vp (am_I h13 12 0) n22 then (some (((am_I (am_sI h13 q20 (Int32.toNatClampNeg (am_I h13 12 0)) a1) 12 0), (am_sI (am_sI h13 q20 (Int32.toNatClampNeg (am_I h13 12 0)) a1) 12 0 ((am_I (am_sI h13 q20 (Int32.toNatClampNeg (am_I h13 12 0)) a1) 12 0) + (Int32.ofInt 1)))), 0, 0)) else none)))))) else (am_A h 12 1).bind fun q25 => ((am_ln h 0 q25).bind fun n27 => (bif am_vp x2i n27 then ((if (am_I h q25 (Int32.toNatClampNeg x2i)) = a1 then some ((x2i, h), 0, 0) else g_X2_numberOf n 0 a1 (x2i + Int32.ofInt 1) h)) else none)))) = some ((v, h'), cr, sr) := hf
      refine AW_go okX2_numberOf 4 ?_
      refine And.intro (sK hs 12) ?_
      refine And.intro (fun c1 => ?_) (fun c1 => ?_)
      · rw [if_pos c1] at hf
        obtain ⟨q2, k3, hf⟩ := am_bnd hf
        obtain ⟨n4, k5, hf⟩ := am_bnd hf
        refine AW_go okX2_numberOf 6 ?_
        refine And.intro (sK hs 12) ?_
        refine And.intro (sK hs 12) (Exists.intro (some q2) (And.intro k3 ?_))
        refine Exists.intro 0 (Exists.intro n4 (And.intro (by decide) (And.intro (am_ln_ok k5) ?_)))
        refine And.intro (fun c6 => ?_) (fun c6 => ?_)
        · rw [if_pos c6] at hf
          obtain ⟨q7, k8, hf⟩ := am_bnd hf
          obtain ⟨n9, k10, hf⟩ := am_bnd hf
          obtain ⟨b11, hf⟩ := am_bis hf
          refine AW_go okX2_numberOf 14 ?_
          refine And.intro (sK hs 12) (Exists.intro (some q7) (And.intro k8 ?_))
          refine And.intro (sK hs 12) ?_
          refine Exists.intro n9 (And.intro (am_ln_ok k10) (And.intro (am_vp_ok b11) ?_))
          refine And.intro (sK hs 12) ?_
          refine And.intro (sK hs 12) ?_
          obtain ⟨rfl, rfl, rfl, rfl⟩ := am_ic hf
          exact And.intro ⟨show ac ≤ Cc by omega, show sc ≤ Ss by omega⟩ (And.intro (Or.inl rfl) ⟨rfl, rfl⟩)
        · rw [if_neg c6] at hf
          refine AW_go okX2_numberOf 1 ?_
          obtain ⟨r12, h13, c15, s16, c17, s18, e14, hg19, rfl, rfl⟩ := am_bc_ok hf
          have hf := hg19
          refine AW_callV (As := []) (R' := rX2_grow c15 s16) (T := TX2) (N := 7) (ci := 2) (okX2_numberOf.1 41 _ _ rfl) lkX2_grow kX2_71 rfl (sK hs 12) rfl (Nat.le_of_ble_eq_true rfl) ⟨(Nat.le_of_ble_eq_true rfl), (Nat.le_of_ble_eq_true rfl)⟩ ⟨show ac + c15 ≤ Cc by omega, show sc + s16 ≤ Ss by omega⟩ (Nat.le_of_ble_eq_true rfl) (c_X2_grow h hs c15 s16 (by omega) (by omega) e14) (fun r h' hq => ?_)
          obtain ⟨rfl, hq⟩ := hq
          replace hq := hq.symm
          subst hq
          have hs := s_X2_grow h hs e14
          obtain ⟨q20, k21, hf⟩ := am_bnd hf
          obtain ⟨n22, k23, hf⟩ := am_bnd hf
          obtain ⟨b24, hf⟩ := am_bis hf
          refine AW_go okX2_numberOf 14 ?_
          refine And.intro (sK hs 12) (Exists.intro (some q20) (And.intro k21 ?_))
          refine And.intro (sK hs 12) ?_
          refine Exists.intro n22 (And.intro (am_ln_ok k23) (And.intro (am_vp_ok b24) ?_))
          refine And.intro (sK hs 12) ?_
          refine And.intro (sK hs 12) ?_
          obtain ⟨rfl, rfl, rfl, rfl⟩ := am_ic hf
          exact And.intro ⟨show (ac + c15) ≤ Cc by omega, show (sc + s16) ≤ Ss by omega⟩ (And.intro (Or.inl rfl) ⟨rfl, rfl⟩)
      · rw [if_neg c1] at hf
        obtain ⟨q25, k26, hf⟩ := am_bnd hf
        obtain ⟨n27, k28, hf⟩ := am_bnd hf
        obtain ⟨b29, hf⟩ := am_bis hf
        refine AW_go okX2_numberOf 6 ?_
        refine And.intro (sK hs 12) (Exists.intro (some q25) (And.intro k26 ?_))
        refine Exists.intro n27 (And.intro (am_ln_ok k28) (And.intro (am_vp_ok b29) ?_))
        refine And.intro (fun c30 => ?_) (fun c30 => ?_)
        · rw [if_neg c30] at hf
          refine AW_go okX2_numberOf 2 ?_
          refine AW_pick (lv' := [(0, .ref 12), (1, .int a1), (2, .int (x2i + Int32.ofInt 1))]) [1, 2, 0] rfl ?_
          exact ih a1 (x2i + Int32.ofInt 1) h _ _ cr sr Cc Ss ac sc (by omega) (by omega) hs hf
        · rw [if_pos c30] at hf
          refine AW_go okX2_numberOf 2 ?_
          obtain ⟨rfl, rfl, rfl, rfl⟩ := am_ic hf
          exact And.intro ⟨show ac ≤ Cc by omega, show sc ≤ Ss by omega⟩ (And.intro (Or.inl rfl) ⟨rfl, rfl⟩)
def f_X2_numberOf (n : Nat) (a1 : Int32) (h : am_H) : Option ((Int32 × am_H) × Nat × Nat) := g_X2_numberOf n 0 a1 (Int32.ofInt 0) h
set_option maxRecDepth 100000 in
set_option maxHeartbeats 4000000 in
theorem s_X2_numberOf (n : Nat) (a1 : Int32) (h : am_H) (hs : am_stat h) {v : Int32} {h' : am_H} {cr sr : Nat} (hf : f_X2_numberOf n a1 h = some ((v, h'), cr, sr)) : am_stat h' := by
  unfold f_X2_numberOf at hf
  exact (m_X2_numberOf n) a1 (Int32.ofInt 0) h _ _ cr sr hs hf
set_option maxRecDepth 100000 in
set_option maxHeartbeats 4000000 in
theorem c_X2_numberOf (n : Nat) (a1 : Int32) (h : am_H) (hs : am_stat h) {v : Int32} {h' : am_H} {cr sr : Nat} (Cc Ss : Nat) (hC : 0 + cr ≤ Cc) (hS : 0 + sr ≤ Ss) (hf : f_X2_numberOf n a1 h = some ((v, h'), cr, sr)) : AMet mX2_numberOf (rX2_numberOf Cc Ss) (fun r h2 => r = some (.int v) ∧ h2 = h') [.ref 12, .int a1] h := by
  unfold f_X2_numberOf at hf
  refine AW_go okX2_numberOf 2 ?_
  refine AW_pick (lv' := [(0, .ref 12), (1, .int a1), (2, .int (Int32.ofInt 0))]) [1, 2, 0] rfl ?_
  exact (l_X2_numberOf n) a1 (Int32.ofInt 0) h _ _ cr sr Cc Ss 0 0 (by omega) (by omega) hs hf
def g_X2_gatherSets : Nat → Nat → Nat → Int32 → Int32 → Int32 → am_H → Option ((Unit × am_H) × Nat × Nat)
  | 0, _, _, _, _, _, _ => none
  | n + 1, tag, a1, x2i, x3i, x4i, h => bif Nat.beq tag 0 then (bif am_isO h a1 0 then ((if (am_I h a1 0) < x2i then am_bc (f_X2_numberOf n (Int32.ofInt 1) (am_sI h 12 0 (Int32.ofInt 0))) fun r3 h4 => (g_X2_gatherSets n 1 a1 (Int32.ofInt 0) 0 0 h4) else (am_A h a1 1).bind fun q11 => ((am_ln h 0 q11).bind fun n13 => (bif am_vp x2i n13 then (am_b2 (f_X8_sortOf (am_I h q11 (Int32.toNatClampNeg x2i)) h) fun r16 h17 => (bif am_vp r16 24 then (g_X2_gatherSets n 0 a1 (x2i + Int32.ofInt 1) 0 0 (am_sI h17 18 (Int32.toNatClampNeg r16) ((am_I h17 18 (Int32.toNatClampNeg r16)) ||| ((Int32.ofInt 1) <<< (x2i &&& 31))))) else none)) else none)))) else none) else (bif Nat.beq tag 1 then ((if (am_I h 12 0) ≤ x2i then some (((), h), 0, 0) else (if (65536 : Int32) ≤ x2i then some (((), h), 0, 0) else g_X2_gatherSets n 2 a1 x2i (Int32.ofInt 0) (Int32.ofInt 0) h))) else (bif Nat.beq tag 2 then (bif am_isO h a1 0 then ((if (am_I h a1 0) < x4i then g_X2_gatherSets n 3 a1 x2i x3i (Int32.ofInt 0) h else (am_A h 12 1).bind fun q3 => ((am_ln h 0 q3).bind fun n5 => (bif am_vp x2i n5 then (Option.bind ((if (((Int32.toUInt32 (am_I h q3 (Int32.toNatClampNeg x2i)) >>> (Int32.toUInt32 x4i &&& Int32.toUInt32 31)).toInt32) &&& (Int32.ofInt 1)) = 0 then some (Int32.ofInt 0) else (am_A h a1 2).bind fun q11 => ((am_ln h 0 q11).bind fun n13 => (bif am_vp x4i n13 then (some (am_I h q11 (Int32.toNatClampNeg x4i))) else none)))) fun y8 => (g_X2_gatherSets n 2 a1 x2i (x3i ||| y8) (x4i + Int32.ofInt 1) h)) else none)))) else none) else ((if (Int32.ofInt 24) ≤ x4i then g_X2_gatherSets n 1 a1 (x2i + Int32.ofInt 1) 0 0 h else bif am_vp x4i 24 then ((if (x3i &&& (am_I h 18 (Int32.toNatClampNeg x4i))) = 0 then (am_A h 12 2).bind fun q17 => ((am_ln h 0 q17).bind fun n19 => (bif am_vp (((Int32.ofInt 24) * x2i) + x4i) n19 then (g_X2_gatherSets n 3 a1 x2i x3i (x4i + Int32.ofInt 1) (am_sI h q17 (Int32.toNatClampNeg (((Int32.ofInt 24) * x2i) + x4i)) (Int32.ofInt (-1)))) else none)) else am_bc (f_X2_numberOf n (x3i &&& (am_I h 18 (Int32.toNatClampNeg x4i))) h) fun r4 h5 => ((am_A h5 12 2).bind fun q12 => ((am_ln h5 0 q12).bind fun n14 => (bif am_vp (((Int32.ofInt 24) * x2i) + x4i) n14 then (g_X2_gatherSets n 3 a1 x2i x3i (x4i + Int32.ofInt 1) (am_sI h5 q12 (Int32.toNatClampNeg (((Int32.ofInt 24) * x2i) + x4i)) r4)) else none))))) else none))))
set_option maxRecDepth 100000 in
set_option maxHeartbeats 4000000 in
theorem m_X2_gatherSets (n : Nat) : (∀ (a1 : Nat) (x2i : Int32) (x3i : Int32) (x4i : Int32) (h : am_H) (v : Unit) (h' : am_H) (cr sr : Nat), am_stat h → g_X2_gatherSets n 0 a1 x2i x3i x4i h = some ((v, h'), cr, sr) → am_stat h') ∧ (∀ (a1 : Nat) (x2i : Int32) (x3i : Int32) (x4i : Int32) (h : am_H) (v : Unit) (h' : am_H) (cr sr : Nat), am_stat h → g_X2_gatherSets n 1 a1 x2i x3i x4i h = some ((v, h'), cr, sr) → am_stat h') ∧ (∀ (a1 : Nat) (x2i : Int32) (x3i : Int32) (x4i : Int32) (h : am_H) (v : Unit) (h' : am_H) (cr sr : Nat), am_stat h → g_X2_gatherSets n 2 a1 x2i x3i x4i h = some ((v, h'), cr, sr) → am_stat h') ∧ (∀ (a1 : Nat) (x2i : Int32) (x3i : Int32) (x4i : Int32) (h : am_H) (v : Unit) (h' : am_H) (cr sr : Nat), am_stat h → g_X2_gatherSets n 3 a1 x2i x3i x4i h = some ((v, h'), cr, sr) → am_stat h') := by
  induction n with
  | zero => exact ⟨fun a1 x2i x3i x4i h v h' cr sr hs hf => (by cases hf), fun a1 x2i x3i x4i h v h' cr sr hs hf => (by cases hf), fun a1 x2i x3i x4i h v h' cr sr hs hf => (by cases hf), fun a1 x2i x3i x4i h v h' cr sr hs hf => (by cases hf)⟩
  | succ n ih =>
    refine ⟨?_, ?_, ?_, ?_⟩
    · intro a1 x2i x3i x4i h v h' cr sr hs hf
      have hf : (bif am_isO h a1 0 then ((if (am_I h a1 0) < x2i then am_bc (f_X2_numberOf n (Int32.ofInt 1) (am_sI h 12 0 (Int32.ofInt 0))) fun r3 h4 => (g_X2_gatherSets n 1 a1 (Int32.ofInt 0) 0 0 h4) else (am_A h a1 1).bind fun q11 => ((am_ln h 0 q11).bind fun n13 => (bif am_vp x2i n13 then (am_b2 (f_X8_sortOf (am_I h q11 (Int32.toNatClampNeg x2i)) h) fun r16 h17 => (bif am_vp r16 24 then (g_X2_gatherSets n 0 a1 (x2i + Int32.ofInt 1) 0 0 (am_sI h17 18 (Int32.toNatClampNeg r16) ((am_I h17 18 (Int32.toNatClampNeg r16)) ||| ((Int32.ofInt 1) <<< (x2i &&& 31))))) else none)) else none)))) else none) = some ((v, h'), cr, sr) := hf
      obtain ⟨k1, hf⟩ := am_bis hf
      by_cases c2 : (am_I h a1 0) < x2i
      · rw [if_pos c2] at hf
        obtain ⟨r3, h4, c6, s7, c8, s9, e5, hg10, rfl, rfl⟩ := am_bc_ok hf
        have hf := hg10
        have hs := s_X2_numberOf n (Int32.ofInt 1) (am_sI h 12 0 (Int32.ofInt 0)) hs e5
        exact ih.2.1 a1 (Int32.ofInt 0) 0 0 h4 _ _ c8 s9 hs hf
      · rw [if_neg c2] at hf
        obtain ⟨q11, k12, hf⟩ := am_bnd hf
        obtain ⟨n13, k14, hf⟩ := am_bnd hf
        obtain ⟨b15, hf⟩ := am_bis hf
        obtain ⟨r16, h17, e18, hf⟩ := am_b2_ok hf
        have hs := s_X8_sortOf (am_I h q11 (Int32.toNatClampNeg x2i)) h hs e18
        obtain ⟨b19, hf⟩ := am_bis hf
        exact ih.1 a1 (x2i + Int32.ofInt 1) 0 0 (am_sI h17 18 (Int32.toNatClampNeg r16) ((am_I h17 18 (Int32.toNatClampNeg r16)) ||| ((Int32.ofInt 1) <<< (x2i &&& 31)))) _ _ cr sr hs hf
    · intro a1 x2i x3i x4i h v h' cr sr hs hf
      have hf : ((if (am_I h 12 0) ≤ x2i then some (((), h), 0, 0) else (if (65536 : Int32) ≤ x2i then some (((), h), 0, 0) else g_X2_gatherSets n 2 a1 x2i (Int32.ofInt 0) (Int32.ofInt 0) h))) = some ((v, h'), cr, sr) := hf
      by_cases c1 : (am_I h 12 0) ≤ x2i
      · rw [if_pos c1] at hf
        obtain ⟨rfl, rfl, rfl, rfl⟩ := am_ic hf
        exact hs
      · rw [if_neg c1] at hf
        by_cases c2 : (65536 : Int32) ≤ x2i
        · rw [if_pos c2] at hf
          obtain ⟨rfl, rfl, rfl, rfl⟩ := am_ic hf
          exact hs
        · rw [if_neg c2] at hf
          exact ih.2.2.1 a1 x2i (Int32.ofInt 0) (Int32.ofInt 0) h _ _ cr sr hs hf
    · intro a1 x2i x3i x4i h v h' cr sr hs hf
      have hf : (bif am_isO h a1 0 then ((if (am_I h a1 0) < x4i then g_X2_gatherSets n 3 a1 x2i x3i (Int32.ofInt 0) h else (am_A h 12 1).bind fun q3 => ((am_ln h 0 q3).bind fun n5 => (bif am_vp x2i n5 then (Option.bind ((if (((Int32.toUInt32 (am_I h q3 (Int32.toNatClampNeg x2i)) >>> (Int32.toUInt32 x4i &&& Int32.toUInt32 31)).toInt32) &&& (Int32.ofInt 1)) = 0 then some (Int32.ofInt 0) else (am_A h a1 2).bind fun q11 => ((am_ln h 0 q11).bind fun n13 => (bif am_vp x4i n13 then (some (am_I h q11 (Int32.toNatClampNeg x4i))) else none)))) fun y8 => (g_X2_gatherSets n 2 a1 x2i (x3i ||| y8) (x4i + Int32.ofInt 1) h)) else none)))) else none) = some ((v, h'), cr, sr) := hf
      obtain ⟨k1, hf⟩ := am_bis hf
      by_cases c2 : (am_I h a1 0) < x4i
      · rw [if_pos c2] at hf
        exact ih.2.2.2 a1 x2i x3i (Int32.ofInt 0) h _ _ cr sr hs hf
      · rw [if_neg c2] at hf
        obtain ⟨q3, k4, hf⟩ := am_bnd hf
        obtain ⟨n5, k6, hf⟩ := am_bnd hf
        obtain ⟨b7, hf⟩ := am_bis hf
        obtain ⟨y8, j9, hf⟩ := am_bnd hf
        exact ih.2.2.1 a1 x2i (x3i ||| y8) (x4i + Int32.ofInt 1) h _ _ cr sr hs hf
    · intro a1 x2i x3i x4i h v h' cr sr hs hf
      have hf : ((if (Int32.ofInt 24) ≤ x4i then g_X2_gatherSets n 1 a1 (x2i + Int32.ofInt 1) 0 0 h else bif am_vp x4i 24 then ((if (x3i &&& (am_I h 18 (Int32.toNatClampNeg x4i))) = 0 then (am_A h 12 2).bind fun q4 => ((am_ln h 0 q4).bind fun n6 => (bif am_vp (((Int32.ofInt 24) * x2i) + x4i) n6 then (g_X2_gatherSets n 3 a1 x2i x3i (x4i + Int32.ofInt 1) (am_sI h q4 (Int32.toNatClampNeg (((Int32.ofInt 24) * x2i) + x4i)) (Int32.ofInt (-1)))) else none)) else am_bc (f_X2_numberOf n (x3i &&& (am_I h 18 (Int32.toNatClampNeg x4i))) h) fun r9 h10 => ((am_A h10 12 2).bind fun q17 => ((am_ln h10 0 q17).bind fun n19 => (bif am_vp (((Int32.ofInt 24) * x2i) + x4i) n19 then (g_X2_gatherSets n 3 a1 x2i x3i (x4i + Int32.ofInt 1) (am_sI h10 q17 (Int32.toNatClampNeg (((Int32.ofInt 24) * x2i) + x4i)) r9)) else none))))) else none)) = some ((v, h'), cr, sr) := hf
      by_cases c1 : (Int32.ofInt 24) ≤ x4i
      · rw [if_pos c1] at hf
        exact ih.2.1 a1 (x2i + Int32.ofInt 1) 0 0 h _ _ cr sr hs hf
      · rw [if_neg c1] at hf
        obtain ⟨b2, hf⟩ := am_bis hf
        by_cases c3 : (x3i &&& (am_I h 18 (Int32.toNatClampNeg x4i))) = 0
        · rw [if_pos c3] at hf
          obtain ⟨q4, k5, hf⟩ := am_bnd hf
          obtain ⟨n6, k7, hf⟩ := am_bnd hf
          obtain ⟨b8, hf⟩ := am_bis hf
          exact ih.2.2.2 a1 x2i x3i (x4i + Int32.ofInt 1) (am_sI h q4 (Int32.toNatClampNeg (((Int32.ofInt 24) * x2i) + x4i)) (Int32.ofInt (-1))) _ _ cr sr hs hf
        · rw [if_neg c3] at hf
          obtain ⟨r9, h10, c12, s13, c14, s15, e11, hg16, rfl, rfl⟩ := am_bc_ok hf
          have hf := hg16
          have hs := s_X2_numberOf n (x3i &&& (am_I h 18 (Int32.toNatClampNeg x4i))) h hs e11
          obtain ⟨q17, k18, hf⟩ := am_bnd hf
          obtain ⟨n19, k20, hf⟩ := am_bnd hf
          obtain ⟨b21, hf⟩ := am_bis hf
          exact ih.2.2.2 a1 x2i x3i (x4i + Int32.ofInt 1) (am_sI h10 q17 (Int32.toNatClampNeg (((Int32.ofInt 24) * x2i) + x4i)) r9) _ _ c14 s15 hs hf
set_option maxRecDepth 100000 in
set_option maxHeartbeats 4000000 in
theorem l_X2_gatherSets (n : Nat) : (∀ (a1 : Nat) (x2i : Int32) (x3i : Int32) (x4i : Int32) (h : am_H) (v : Unit) (h' : am_H) (cr sr : Nat) (Cc Ss ac sc : Nat), ac + cr ≤ Cc → sc + sr ≤ Ss → am_stat h → g_X2_gatherSets n 0 a1 x2i x3i x4i h = some ((v, h'), cr, sr) → AW mX2_gatherSets (rX2_gatherSets Cc Ss) (fun r h2 => r = none ∧ h2 = h') 10 [(0, .ref 12), (1, .ref a1), (2, .int x2i)] [] h ac sc) ∧ (∀ (a1 : Nat) (x2i : Int32) (x3i : Int32) (x4i : Int32) (h : am_H) (v : Unit) (h' : am_H) (cr sr : Nat) (Cc Ss ac sc : Nat), ac + cr ≤ Cc → sc + sr ≤ Ss → am_stat h → g_X2_gatherSets n 1 a1 x2i x3i x4i h = some ((v, h'), cr, sr) → AW mX2_gatherSets (rX2_gatherSets Cc Ss) (fun r h2 => r = none ∧ h2 = h') 57 [(0, .ref 12), (1, .ref a1), (2, .int x2i)] [] h ac sc) ∧ (∀ (a1 : Nat) (x2i : Int32) (x3i : Int32) (x4i : Int32) (h : am_H) (v : Unit) (h' : am_H) (cr sr : Nat) (Cc Ss ac sc : Nat), ac + cr ≤ Cc → sc + sr ≤ Ss → am_stat h → g_X2_gatherSets n 2 a1 x2i x3i x4i h = some ((v, h'), cr, sr) → AW mX2_gatherSets (rX2_gatherSets Cc Ss) (fun r h2 => r = none ∧ h2 = h') 76 [(0, .ref 12), (1, .ref a1), (2, .int x2i), (3, .int x3i), (4, .int x4i)] [] h ac sc) ∧ (∀ (a1 : Nat) (x2i : Int32) (x3i : Int32) (x4i : Int32) (h : am_H) (v : Unit) (h' : am_H) (cr sr : Nat) (Cc Ss ac sc : Nat), ac + cr ≤ Cc → sc + sr ≤ Ss → am_stat h → g_X2_gatherSets n 3 a1 x2i x3i x4i h = some ((v, h'), cr, sr) → AW mX2_gatherSets (rX2_gatherSets Cc Ss) (fun r h2 => r = none ∧ h2 = h') 122 [(0, .ref 12), (1, .ref a1), (2, .int x2i), (3, .int x3i), (4, .int x4i)] [] h ac sc) := by
  induction n with
  | zero => exact ⟨fun a1 x2i x3i x4i h v h' cr sr Cc Ss ac sc hC hS hs hf => (by cases hf), fun a1 x2i x3i x4i h v h' cr sr Cc Ss ac sc hC hS hs hf => (by cases hf), fun a1 x2i x3i x4i h v h' cr sr Cc Ss ac sc hC hS hs hf => (by cases hf), fun a1 x2i x3i x4i h v h' cr sr Cc Ss ac sc hC hS hs hf => (by cases hf)⟩
  | succ n ih =>
    refine ⟨?_, ?_, ?_, ?_⟩
    · intro a1 x2i x3i x4i h v h' cr sr Cc Ss ac sc hC hS hs hf
      have hf : (bif am_isO h a1 0 then ((if (am_I h a1 0) < x2i then am_bc (f_X2_numberOf n (Int32.ofInt 1) (am_sI h 12 0 (Int32.ofInt 0))) fun r3 h4 => (g_X2_gatherSets n 1 a1 (Int32.ofInt 0) 0 0 h4) else (am_A h a1 1).bind fun q11 => ((am_ln h 0 q11).bind fun n13 => (bif am_vp x2i n13 then (am_b2 (f_X8_sortOf (am_I h q11 (Int32.toNatClampNeg x2i)) h) fun r16 h17 => (bif am_vp r16 24 then (g_X2_gatherSets n 0 a1 (x2i + Int32.ofInt 1) 0 0 (am_sI h17 18 (Int32.toNatClampNeg r16) ((am_I h17 18 (Int32.toNatClampNeg r16)) ||| ((Int32.ofInt 1) <<< (x2i &&& 31))))) else none)) else none)))) else none) = some ((v, h'), cr, sr) := hf
      obtain ⟨k1, hf⟩ := am_bis hf
      refine AW_go okX2_gatherSets 4 ?_
      refine And.intro (am_isO_ok k1) ?_
      refine And.intro (fun c2 => ?_) (fun c2 => ?_)
      · rw [if_pos c2] at hf
        refine AW_go okX2_gatherSets 5 ?_
        refine And.intro (sK hs 12) ?_
        obtain ⟨r3, h4, c6, s7, c8, s9, e5, hg10, rfl, rfl⟩ := am_bc_ok hf
        have hf := hg10
        refine AW_callV (As := [.int (Int32.ofInt 1)]) (R' := rX2_numberOf c6 s7) (T := TX2) (N := 7) (ci := 2) (okX2_gatherSets.1 51 _ _ rfl) lkX2_numberOf kX2_67 rfl (sK hs 12) rfl (Nat.le_of_ble_eq_true rfl) ⟨(Nat.le_of_ble_eq_true rfl), (Nat.le_of_ble_eq_true rfl)⟩ ⟨show ac + c6 ≤ Cc by omega, show sc + s7 ≤ Ss by omega⟩ (Nat.le_of_ble_eq_true rfl) (c_X2_numberOf n (Int32.ofInt 1) (am_sI h 12 0 (Int32.ofInt 0)) hs c6 s7 (by omega) (by omega) e5) (fun r h' hq => ?_)
        obtain ⟨rfl, hq⟩ := hq
        replace hq := hq.symm
        subst hq
        have hs := s_X2_numberOf n (Int32.ofInt 1) (am_sI h 12 0 (Int32.ofInt 0)) hs e5
        refine AW_go okX2_gatherSets 3 ?_
        refine AW_pick (lv' := [(0, .ref 12), (1, .ref a1), (2, .int (Int32.ofInt 0))]) [1, 2, 0] rfl ?_
        exact ih.2.1 a1 (Int32.ofInt 0) 0 0 h4 _ _ c8 s9 Cc Ss (ac + c6) (sc + s7) (by omega) (by omega) hs hf
      · rw [if_neg c2] at hf
        obtain ⟨q11, k12, hf⟩ := am_bnd hf
        obtain ⟨n13, k14, hf⟩ := am_bnd hf
        obtain ⟨b15, hf⟩ := am_bis hf
        refine AW_go okX2_gatherSets 6 ?_
        refine And.intro (sK hs 12) (Exists.intro _ (And.intro (sA hs 12 6) ?_))
        refine And.intro (am_isO_ok k1) (Exists.intro (some q11) (And.intro k12 ?_))
        refine Exists.intro n13 (And.intro (am_ln_ok k14) (And.intro (am_vp_ok b15) ?_))
        obtain ⟨r16, h17, e18, hf⟩ := am_b2_ok hf
        refine AW_callS (As := [.int (am_I h q11 (Int32.toNatClampNeg x2i))]) (R' := rX8_sortOf 0 0) (okX2_gatherSets.1 28 _ _ rfl) lkX8_sortOf (Or.inr ⟨_, kX2_63⟩) rfl (Nat.le_of_ble_eq_true rfl) ⟨(Nat.le_of_ble_eq_true rfl), (Nat.le_of_ble_eq_true rfl)⟩ ⟨show ac + 0 ≤ Cc by omega, show sc + 0 ≤ Ss by omega⟩ (Nat.le_of_ble_eq_true rfl) (c_X8_sortOf (am_I h q11 (Int32.toNatClampNeg x2i)) h hs e18) (fun r h' hq => ?_)
        obtain ⟨rfl, hq⟩ := hq
        replace hq := hq.symm
        subst hq
        have hs := s_X8_sortOf (am_I h q11 (Int32.toNatClampNeg x2i)) h hs e18
        obtain ⟨b19, hf⟩ := am_bis hf
        refine AW_go okX2_gatherSets 9 ?_
        refine Exists.intro 24 (And.intro (sK hs 18) (And.intro (am_vp_ok b19) ?_))
        refine Exists.intro 24 (And.intro (sK hs 18) (And.intro (am_vp_ok b19) ?_))
        refine AW_pick (lv' := [(0, .ref 12), (1, .ref a1), (2, .int (x2i + Int32.ofInt 1))]) [1, 2, 0] rfl ?_
        exact ih.1 a1 (x2i + Int32.ofInt 1) 0 0 (am_sI h17 18 (Int32.toNatClampNeg r16) ((am_I h17 18 (Int32.toNatClampNeg r16)) ||| ((Int32.ofInt 1) <<< (x2i &&& 31)))) _ _ cr sr Cc Ss ac sc (by omega) (by omega) hs hf
    · intro a1 x2i x3i x4i h v h' cr sr Cc Ss ac sc hC hS hs hf
      have hf : ((if (am_I h 12 0) ≤ x2i then some (((), h), 0, 0) else (if (65536 : Int32) ≤ x2i then some (((), h), 0, 0) else g_X2_gatherSets n 2 a1 x2i (Int32.ofInt 0) (Int32.ofInt 0) h))) = some ((v, h'), cr, sr) := hf
      refine AW_go okX2_gatherSets 4 ?_
      refine And.intro (sK hs 12) ?_
      refine And.intro (fun c1 => ?_) (fun c1 => ?_)
      · rw [if_pos c1] at hf
        refine AW_go okX2_gatherSets 1 ?_
        obtain ⟨rfl, rfl, rfl, rfl⟩ := am_ic hf
        exact And.intro ⟨show ac ≤ Cc by omega, show sc ≤ Ss by omega⟩ (And.intro rfl ⟨rfl, rfl⟩)
      · rw [if_neg c1] at hf
        refine AW_go okX2_gatherSets 3 ?_
        refine And.intro (fun c2 => ?_) (fun c2 => ?_)
        · rw [if_pos c2] at hf
          refine AW_go okX2_gatherSets 1 ?_
          obtain ⟨rfl, rfl, rfl, rfl⟩ := am_ic hf
          exact And.intro ⟨show ac ≤ Cc by omega, show sc ≤ Ss by omega⟩ (And.intro rfl ⟨rfl, rfl⟩)
        · rw [if_neg c2] at hf
          refine AW_go okX2_gatherSets 4 ?_
          refine AW_pick (lv' := [(0, .ref 12), (1, .ref a1), (2, .int x2i), (3, .int (Int32.ofInt 0)), (4, .int (Int32.ofInt 0))]) [2, 3, 4, 1, 0] rfl ?_
          exact ih.2.2.1 a1 x2i (Int32.ofInt 0) (Int32.ofInt 0) h _ _ cr sr Cc Ss ac sc (by omega) (by omega) hs hf
    · intro a1 x2i x3i x4i h v h' cr sr Cc Ss ac sc hC hS hs hf
      have hf : (bif am_isO h a1 0 then ((if (am_I h a1 0) < x4i then g_X2_gatherSets n 3 a1 x2i x3i (Int32.ofInt 0) h else (am_A h 12 1).bind fun q3 => ((am_ln h 0 q3).bind fun n5 => (bif am_vp x2i n5 then (Option.bind ((if (((Int32.toUInt32 (am_I h q3 (Int32.toNatClampNeg x2i)) >>> (Int32.toUInt32 x4i &&& Int32.toUInt32 31)).toInt32) &&& (Int32.ofInt 1)) = 0 then some (Int32.ofInt 0) else (am_A h a1 2).bind fun q11 => ((am_ln h 0 q11).bind fun n13 => (bif am_vp x4i n13 then (some (am_I h q11 (Int32.toNatClampNeg x4i))) else none)))) fun y8 => (g_X2_gatherSets n 2 a1 x2i (x3i ||| y8) (x4i + Int32.ofInt 1) h)) else none)))) else none) = some ((v, h'), cr, sr) := hf
      obtain ⟨k1, hf⟩ := am_bis hf
      refine AW_go okX2_gatherSets 4 ?_
      refine And.intro (am_isO_ok k1) ?_
      refine And.intro (fun c2 => ?_) (fun c2 => ?_)
      · rw [if_pos c2] at hf
        refine AW_go okX2_gatherSets 2 ?_
        refine AW_pick (lv' := [(0, .ref 12), (1, .ref a1), (2, .int x2i), (3, .int x3i), (4, .int (Int32.ofInt 0))]) [1, 2, 3, 4, 0] rfl ?_
        exact ih.2.2.2 a1 x2i x3i (Int32.ofInt 0) h _ _ cr sr Cc Ss ac sc (by omega) (by omega) hs hf
      · rw [if_neg c2] at hf
        obtain ⟨q3, k4, hf⟩ := am_bnd hf
        obtain ⟨n5, k6, hf⟩ := am_bnd hf
        obtain ⟨b7, hf⟩ := am_bis hf
        refine AW_go okX2_gatherSets 9 ?_
        refine And.intro (sK hs 12) (Exists.intro (some q3) (And.intro k4 ?_))
        refine Exists.intro n5 (And.intro (am_ln_ok k6) (And.intro (am_vp_ok b7) ?_))
        obtain ⟨y8, j9, hf⟩ := am_bnd hf
        refine am_cut (P := AW mX2_gatherSets (rX2_gatherSets Cc Ss) (fun r h2 => r = none ∧ h2 = h') 111 [(0, .ref 12), (1, .ref a1), (2, .int x2i), (3, .int x3i), (4, .int x4i)] [.int y8, .int x3i] h ac sc) (fun hJ9 => ?_) ?_
        · have hs := hs
          refine AW_go okX2_gatherSets 1 ?_
          refine And.intro (fun c10 => ?_) (fun c10 => ?_)
          · rw [if_pos c10] at j9
            refine AW_go okX2_gatherSets 1 ?_
            obtain rfl := am_i1 j9
            exact AW_pick [0, 1, 2, 3, 4] rfl hJ9
          · rw [if_neg c10] at j9
            obtain ⟨q11, k12, j9⟩ := am_bnd j9
            obtain ⟨n13, k14, j9⟩ := am_bnd j9
            obtain ⟨b15, j9⟩ := am_bis j9
            refine AW_go okX2_gatherSets 5 ?_
            refine And.intro (am_isO_ok k1) (Exists.intro (some q11) (And.intro k12 ?_))
            refine Exists.intro n13 (And.intro (am_ln_ok k14) (And.intro (am_vp_ok b15) ?_))
            obtain rfl := am_i1 j9
            exact AW_pick [0, 1, 2, 3, 4] rfl hJ9
        refine AW_go okX2_gatherSets 4 ?_
        refine AW_pick (lv' := [(0, .ref 12), (1, .ref a1), (2, .int x2i), (3, .int (x3i ||| y8)), (4, .int (x4i + Int32.ofInt 1))]) [2, 3, 4, 1, 0] rfl ?_
        exact ih.2.2.1 a1 x2i (x3i ||| y8) (x4i + Int32.ofInt 1) h _ _ cr sr Cc Ss ac sc (by omega) (by omega) hs hf
    · intro a1 x2i x3i x4i h v h' cr sr Cc Ss ac sc hC hS hs hf
      have hf : ((if (Int32.ofInt 24) ≤ x4i then g_X2_gatherSets n 1 a1 (x2i + Int32.ofInt 1) 0 0 h else bif am_vp x4i 24 then ((if (x3i &&& (am_I h 18 (Int32.toNatClampNeg x4i))) = 0 then (am_A h 12 2).bind fun q17 => ((am_ln h 0 q17).bind fun n19 => (bif am_vp (((Int32.ofInt 24) * x2i) + x4i) n19 then (g_X2_gatherSets n 3 a1 x2i x3i (x4i + Int32.ofInt 1) (am_sI h q17 (Int32.toNatClampNeg (((Int32.ofInt 24) * x2i) + x4i)) (Int32.ofInt (-1)))) else none)) else am_bc (f_X2_numberOf n (x3i &&& (am_I h 18 (Int32.toNatClampNeg x4i))) h) fun r4 h5 => ((am_A h5 12 2).bind fun q12 => ((am_ln h5 0 q12).bind fun n14 => (bif am_vp (((Int32.ofInt 24) * x2i) + x4i) n14 then (g_X2_gatherSets n 3 a1 x2i x3i (x4i + Int32.ofInt 1) (am_sI h5 q12 (Int32.toNatClampNeg (((Int32.ofInt 24) * x2i) + x4i)) r4)) else none))))) else none)) = some ((v, h'), cr, sr) := hf
      refine AW_go okX2_gatherSets 3 ?_
      refine And.intro (fun c1 => ?_) (fun c1 => ?_)
      · rw [if_pos c1] at hf
        refine AW_go okX2_gatherSets 2 ?_
        refine AW_pick (lv' := [(0, .ref 12), (1, .ref a1), (2, .int (x2i + Int32.ofInt 1))]) [1, 2, 0] rfl ?_
        exact ih.2.1 a1 (x2i + Int32.ofInt 1) 0 0 h _ _ cr sr Cc Ss ac sc (by omega) (by omega) hs hf
      · rw [if_neg c1] at hf
        obtain ⟨b2, hf⟩ := am_bis hf
        refine AW_go okX2_gatherSets 9 ?_
        refine And.intro (sK hs 12) (Exists.intro _ (And.intro (sA hs 12 6) ?_))
        refine Exists.intro 24 (And.intro (sK hs 18) (And.intro (am_vp_ok b2) ?_))
        refine And.intro (fun c3 => ?_) (fun c3 => ?_)
        · rw [if_neg c3] at hf
          refine AW_go okX2_gatherSets 2 ?_
          obtain ⟨r4, h5, c7, s8, c9, s10, e6, hg11, rfl, rfl⟩ := am_bc_ok hf
          have hf := hg11
          refine AW_callV (As := [.int (x3i &&& (am_I h 18 (Int32.toNatClampNeg x4i)))]) (R' := rX2_numberOf c7 s8) (T := TX2) (N := 7) (ci := 2) (okX2_gatherSets.1 152 _ _ rfl) lkX2_numberOf kX2_67 rfl (sK hs 12) rfl (Nat.le_of_ble_eq_true rfl) ⟨(Nat.le_of_ble_eq_true rfl), (Nat.le_of_ble_eq_true rfl)⟩ ⟨show ac + c7 ≤ Cc by omega, show sc + s8 ≤ Ss by omega⟩ (Nat.le_of_ble_eq_true rfl) (c_X2_numberOf n (x3i &&& (am_I h 18 (Int32.toNatClampNeg x4i))) h hs c7 s8 (by omega) (by omega) e6) (fun r h' hq => ?_)
          obtain ⟨rfl, hq⟩ := hq
          replace hq := hq.symm
          subst hq
          have hs := s_X2_numberOf n (x3i &&& (am_I h 18 (Int32.toNatClampNeg x4i))) h hs e6
          obtain ⟨q12, k13, hf⟩ := am_bnd hf
          obtain ⟨n14, k15, hf⟩ := am_bnd hf
          obtain ⟨b16, hf⟩ := am_bis hf
          refine AW_go okX2_gatherSets 12 ?_
          refine And.intro (sK hs 12) (Exists.intro (some q12) (And.intro k13 ?_))
          refine Exists.intro n14 (And.intro (am_ln_ok k15) (And.intro (am_vp_ok b16) ?_))
          refine AW_pick (lv' := [(0, .ref 12), (1, .ref a1), (2, .int x2i), (3, .int x3i), (4, .int (x4i + Int32.ofInt 1))]) [3, 4, 5, 6, 0] rfl ?_
          exact ih.2.2.2 a1 x2i x3i (x4i + Int32.ofInt 1) (am_sI h5 q12 (Int32.toNatClampNeg (((Int32.ofInt 24) * x2i) + x4i)) r4) _ _ c9 s10 Cc Ss (ac + c7) (sc + s8) (by omega) (by omega) hs hf
        · rw [if_pos c3] at hf
          obtain ⟨q17, k18, hf⟩ := am_bnd hf
          obtain ⟨n19, k20, hf⟩ := am_bnd hf
          obtain ⟨b21, hf⟩ := am_bis hf
          refine AW_go okX2_gatherSets 14 ?_
          refine And.intro (sK hs 12) (Exists.intro (some q17) (And.intro k18 ?_))
          refine Exists.intro n19 (And.intro (am_ln_ok k20) (And.intro (am_vp_ok b21) ?_))
          refine AW_pick (lv' := [(0, .ref 12), (1, .ref a1), (2, .int x2i), (3, .int x3i), (4, .int (x4i + Int32.ofInt 1))]) [3, 4, 5, 6, 0] rfl ?_
          exact ih.2.2.2 a1 x2i x3i (x4i + Int32.ofInt 1) (am_sI h q17 (Int32.toNatClampNeg (((Int32.ofInt 24) * x2i) + x4i)) (Int32.ofInt (-1))) _ _ cr sr Cc Ss ac sc (by omega) (by omega) hs hf
def f_X2_gatherSets (n : Nat) (a1 : Nat) (h : am_H) : Option ((Unit × am_H) × Nat × Nat) := am_b2 (f_J7_fill_53178 n 18 (Int32.ofInt 0) h) fun r1 h2 => (g_X2_gatherSets n 0 a1 (Int32.ofInt 1) 0 0 h2)
set_option maxRecDepth 100000 in
set_option maxHeartbeats 4000000 in
theorem s_X2_gatherSets (n : Nat) (a1 : Nat) (h : am_H) (hs : am_stat h) {v : Unit} {h' : am_H} {cr sr : Nat} (hf : f_X2_gatherSets n a1 h = some ((v, h'), cr, sr)) : am_stat h' := by
  unfold f_X2_gatherSets at hf
  obtain ⟨r1, h2, e3, hf⟩ := am_b2_ok hf
  have hs := s_J7_fill_53178 n 18 (Int32.ofInt 0) h hs e3
  exact (m_X2_gatherSets n).1 a1 (Int32.ofInt 1) 0 0 h2 _ _ cr sr hs hf
set_option maxRecDepth 100000 in
set_option maxHeartbeats 4000000 in
theorem c_X2_gatherSets (n : Nat) (a1 : Nat) (h : am_H) (hs : am_stat h) {v : Unit} {h' : am_H} {cr sr : Nat} (Cc Ss : Nat) (hC : 0 + cr ≤ Cc) (hS : 0 + sr ≤ Ss) (hf : f_X2_gatherSets n a1 h = some ((v, h'), cr, sr)) : AMet mX2_gatherSets (rX2_gatherSets Cc Ss) (fun r h2 => r = none ∧ h2 = h') [.ref 12, .ref a1] h := by
  unfold f_X2_gatherSets at hf
  refine AW_go okX2_gatherSets 3 ?_
  refine And.intro (sK hs 12) (Exists.intro _ (And.intro (sA hs 12 6) ?_))
  obtain ⟨r1, h2, e3, hf⟩ := am_b2_ok hf
  refine AW_callS (As := [.ref 18, .int (Int32.ofInt 0)]) (R' := rJ7_fill_53178 0 0) (okX2_gatherSets.1 5 _ _ rfl) lkJ7_fill_53178 (Or.inl kX2_54) rfl (Nat.le_of_ble_eq_true rfl) ⟨(Nat.le_of_ble_eq_true rfl), (Nat.le_of_ble_eq_true rfl)⟩ ⟨show 0 + 0 ≤ Cc by omega, show 0 + 0 ≤ Ss by omega⟩ (Nat.le_of_ble_eq_true rfl) (c_J7_fill_53178 n 18 (Int32.ofInt 0) h hs e3) (fun r h' hq => ?_)
  obtain ⟨rfl, hq⟩ := hq
  replace hq := hq.symm
  subst hq
  have hs := s_J7_fill_53178 n 18 (Int32.ofInt 0) h hs e3
  refine AW_go okX2_gatherSets 2 ?_
  refine AW_pick (lv' := [(0, .ref 12), (1, .ref a1), (2, .int (Int32.ofInt 1))]) [1, 2, 0] rfl ?_
  exact (l_X2_gatherSets n).1 a1 (Int32.ofInt 1) 0 0 h2 _ _ cr sr Cc Ss 0 0 (by omega) (by omega) hs hf
def g_X6_explore : Nat → Nat → Nat → Int32 → Int32 → Int32 → Int32 → am_H → Option ((Unit × am_H) × Nat × Nat)
  | 0, _, _, _, _, _, _, _ => none
  | n + 1, tag, o, a2, x3i, x4i, x5i, h => bif Nat.beq tag 0 then ((if (am_I h o 0) ≤ x3i then am_b2 (f_X6_markForever n o h) fun r2 h3 => (g_X6_explore n 2 o a2 (Int32.ofInt 0) 0 0 h3) else (if (Int32.ofInt 2000) ≤ x3i then am_b2 (f_X6_markForever n o h) fun r6 h7 => (g_X6_explore n 2 o a2 (Int32.ofInt 0) 0 0 h7) else bif am_vp x3i 2000 then (am_b2 (f_X7_list n (am_J h (o + 3) (Int32.toNatClampNeg x3i)) h) fun r10 h11 => (am_b2 (f_X7_marks n (am_J h11 (o + 3) (Int32.toNatClampNeg x3i)) r10 h11) fun r13 h14 => ((if a2 = 0 then g_X6_explore n 1 o a2 x3i r10 (Int32.ofInt 0) (am_sI h14 (o + 4) (Int32.toNatClampNeg x3i) r13) else (if ((am_I (am_sI h14 (o + 4) (Int32.toNatClampNeg x3i) r13) (o + 4) (Int32.toNatClampNeg x3i)) &&& (Int32.ofInt 7)) = 0 then g_X6_explore n 1 o a2 x3i r10 (Int32.ofInt 0) (am_sI h14 (o + 4) (Int32.toNatClampNeg x3i) r13) else some (((), (am_sI (am_sI h14 (o + 4) (Int32.toNatClampNeg x3i) r13) o 4 (Int32.ofInt 1))), 0, 0)))))) else none))) else (bif Nat.beq tag 1 then ((if x4i ≤ x5i then g_X6_explore n 0 o a2 (x3i + Int32.ofInt 1) 0 0 h else bif am_vp x5i 90 then (am_b2 (f_X6_meet n o (am_J h 32 (Int32.toNatClampNeg x5i)) x3i (am_I h 31 (Int32.toNatClampNeg x5i)) h) fun r3 h4 => ((if 0 ≤ r3 then am_bc (f_X6_link o x3i r3 h4) fun r7 h8 => (g_X6_explore n 1 o a2 x3i x4i (x5i + Int32.ofInt 1) h8) else some (((), (am_sI h4 o 1 (Int32.ofInt 1))), 0, 0)))) else none)) else ((if (am_I h o 0) ≤ x3i then some (((), h), 0, 0) else am_b2 (f_X6_tell n o x3i h) fun r2 h3 => (g_X6_explore n 2 o a2 (x3i + Int32.ofInt 1) 0 0 h3))))
set_option maxRecDepth 100000 in
set_option maxHeartbeats 4000000 in
theorem m_X6_explore (n : Nat) : (∀ (o : Nat) (a2 : Int32) (x3i : Int32) (x4i : Int32) (x5i : Int32) (h : am_H) (v : Unit) (h' : am_H) (cr sr : Nat), (o = 37 ∨ o = 37) → am_stat h → g_X6_explore n 0 o a2 x3i x4i x5i h = some ((v, h'), cr, sr) → am_stat h') ∧ (∀ (o : Nat) (a2 : Int32) (x3i : Int32) (x4i : Int32) (x5i : Int32) (h : am_H) (v : Unit) (h' : am_H) (cr sr : Nat), (o = 37 ∨ o = 37) → am_stat h → g_X6_explore n 1 o a2 x3i x4i x5i h = some ((v, h'), cr, sr) → am_stat h') ∧ (∀ (o : Nat) (a2 : Int32) (x3i : Int32) (x4i : Int32) (x5i : Int32) (h : am_H) (v : Unit) (h' : am_H) (cr sr : Nat), (o = 37 ∨ o = 37) → am_stat h → g_X6_explore n 2 o a2 x3i x4i x5i h = some ((v, h'), cr, sr) → am_stat h') := by
  induction n with
  | zero => exact ⟨fun o a2 x3i x4i x5i h v h' cr sr ho hs hf => (by cases hf), fun o a2 x3i x4i x5i h v h' cr sr ho hs hf => (by cases hf), fun o a2 x3i x4i x5i h v h' cr sr ho hs hf => (by cases hf)⟩
  | succ n ih =>
    refine ⟨?_, ?_, ?_⟩
    · intro o a2 x3i x4i x5i h v h' cr sr ho hs hf
      have hf : ((if (am_I h o 0) ≤ x3i then am_b2 (f_X6_markForever n o h) fun r2 h3 => (g_X6_explore n 2 o a2 (Int32.ofInt 0) 0 0 h3) else (if (Int32.ofInt 2000) ≤ x3i then am_b2 (f_X6_markForever n o h) fun r6 h7 => (g_X6_explore n 2 o a2 (Int32.ofInt 0) 0 0 h7) else bif am_vp x3i 2000 then (am_b2 (f_X7_list n (am_J h (o + 3) (Int32.toNatClampNeg x3i)) h) fun r10 h11 => (am_b2 (f_X7_marks n (am_J h11 (o + 3) (Int32.toNatClampNeg x3i)) r10 h11) fun r13 h14 => ((if a2 = 0 then g_X6_explore n 1 o a2 x3i r10 (Int32.ofInt 0) (am_sI h14 (o + 4) (Int32.toNatClampNeg x3i) r13) else (if ((am_I (am_sI h14 (o + 4) (Int32.toNatClampNeg x3i) r13) (o + 4) (Int32.toNatClampNeg x3i)) &&& (Int32.ofInt 7)) = 0 then g_X6_explore n 1 o a2 x3i r10 (Int32.ofInt 0) (am_sI h14 (o + 4) (Int32.toNatClampNeg x3i) r13) else some (((), (am_sI (am_sI h14 (o + 4) (Int32.toNatClampNeg x3i) r13) o 4 (Int32.ofInt 1))), 0, 0)))))) else none))) = some ((v, h'), cr, sr) := hf
      by_cases c1 : (am_I h o 0) ≤ x3i
      · rw [if_pos c1] at hf
        obtain ⟨r2, h3, e4, hf⟩ := am_b2_ok hf
        have hs := s_X6_markForever n o h ho hs e4
        exact ih.2.2 o a2 (Int32.ofInt 0) 0 0 h3 _ _ cr sr ho hs hf
      · rw [if_neg c1] at hf
        by_cases c5 : (Int32.ofInt 2000) ≤ x3i
        · rw [if_pos c5] at hf
          obtain ⟨r6, h7, e8, hf⟩ := am_b2_ok hf
          have hs := s_X6_markForever n o h ho hs e8
          exact ih.2.2 o a2 (Int32.ofInt 0) 0 0 h7 _ _ cr sr ho hs hf
        · rw [if_neg c5] at hf
          obtain ⟨b9, hf⟩ := am_bis hf
          obtain ⟨r10, h11, e12, hf⟩ := am_b2_ok hf
          have hs := s_X7_list n (am_J h (o + 3) (Int32.toNatClampNeg x3i)) h hs e12
          obtain ⟨r13, h14, e15, hf⟩ := am_b2_ok hf
          have hs := s_X7_marks n (am_J h11 (o + 3) (Int32.toNatClampNeg x3i)) r10 h11 hs e15
          by_cases c16 : a2 = 0
          · rw [if_pos c16] at hf
            exact ih.2.1 o a2 x3i r10 (Int32.ofInt 0) (am_sI h14 (o + 4) (Int32.toNatClampNeg x3i) r13) _ _ cr sr ho hs hf
          · rw [if_neg c16] at hf
            by_cases c17 : ((am_I (am_sI h14 (o + 4) (Int32.toNatClampNeg x3i) r13) (o + 4) (Int32.toNatClampNeg x3i)) &&& (Int32.ofInt 7)) = 0
            · rw [if_pos c17] at hf
              exact ih.2.1 o a2 x3i r10 (Int32.ofInt 0) (am_sI h14 (o + 4) (Int32.toNatClampNeg x3i) r13) _ _ cr sr ho hs hf
            · rw [if_neg c17] at hf
              obtain ⟨rfl, rfl, rfl, rfl⟩ := am_ic hf
              exact hs
    · intro o a2 x3i x4i x5i h v h' cr sr ho hs hf
      have hf : ((if x4i ≤ x5i then g_X6_explore n 0 o a2 (x3i + Int32.ofInt 1) 0 0 h else bif am_vp x5i 90 then (am_b2 (f_X6_meet n o (am_J h 32 (Int32.toNatClampNeg x5i)) x3i (am_I h 31 (Int32.toNatClampNeg x5i)) h) fun r3 h4 => ((if 0 ≤ r3 then am_bc (f_X6_link o x3i r3 h4) fun r7 h8 => (g_X6_explore n 1 o a2 x3i x4i (x5i + Int32.ofInt 1) h8) else some (((), (am_sI h4 o 1 (Int32.ofInt 1))), 0, 0)))) else none)) = some ((v, h'), cr, sr) := hf
      by_cases c1 : x4i ≤ x5i
      · rw [if_pos c1] at hf
        exact ih.1 o a2 (x3i + Int32.ofInt 1) 0 0 h _ _ cr sr ho hs hf
      · rw [if_neg c1] at hf
        obtain ⟨b2, hf⟩ := am_bis hf
        obtain ⟨r3, h4, e5, hf⟩ := am_b2_ok hf
        have hs := s_X6_meet n o (am_J h 32 (Int32.toNatClampNeg x5i)) x3i (am_I h 31 (Int32.toNatClampNeg x5i)) h ho hs e5
        by_cases c6 : 0 ≤ r3
        · rw [if_pos c6] at hf
          obtain ⟨r7, h8, c10, s11, c12, s13, e9, hg14, rfl, rfl⟩ := am_bc_ok hf
          have hf := hg14
          have hs := s_X6_link o x3i r3 h4 ho hs e9
          exact ih.2.1 o a2 x3i x4i (x5i + Int32.ofInt 1) h8 _ _ c12 s13 ho hs hf
        · rw [if_neg c6] at hf
          obtain ⟨rfl, rfl, rfl, rfl⟩ := am_ic hf
          exact hs
    · intro o a2 x3i x4i x5i h v h' cr sr ho hs hf
      have hf : ((if (am_I h o 0) ≤ x3i then some (((), h), 0, 0) else am_b2 (f_X6_tell n o x3i h) fun r2 h3 => (g_X6_explore n 2 o a2 (x3i + Int32.ofInt 1) 0 0 h3))) = some ((v, h'), cr, sr) := hf
      by_cases c1 : (am_I h o 0) ≤ x3i
      · rw [if_pos c1] at hf
        obtain ⟨rfl, rfl, rfl, rfl⟩ := am_ic hf
        exact hs
      · rw [if_neg c1] at hf
        obtain ⟨r2, h3, e4, hf⟩ := am_b2_ok hf
        have hs := s_X6_tell n o x3i h ho hs e4
        exact ih.2.2 o a2 (x3i + Int32.ofInt 1) 0 0 h3 _ _ cr sr ho hs hf
set_option maxRecDepth 100000 in
set_option maxHeartbeats 4000000 in
theorem l_X6_explore (n : Nat) : (∀ (o : Nat) (a2 : Int32) (x3i : Int32) (x4i : Int32) (x5i : Int32) (h : am_H) (v : Unit) (h' : am_H) (cr sr : Nat) (Cc Ss ac sc : Nat), ac + cr ≤ Cc → sc + sr ≤ Ss → (o = 37 ∨ o = 37) → am_stat h → g_X6_explore n 0 o a2 x3i x4i x5i h = some ((v, h'), cr, sr) → AW mX6_explore (rX6_explore Cc Ss) (fun r h2 => r = none ∧ h2 = h') 14 [(0, .ref o), (1, .ref 28), (2, .int a2), (3, .int x3i)] [] h ac sc) ∧ (∀ (o : Nat) (a2 : Int32) (x3i : Int32) (x4i : Int32) (x5i : Int32) (h : am_H) (v : Unit) (h' : am_H) (cr sr : Nat) (Cc Ss ac sc : Nat), ac + cr ≤ Cc → sc + sr ≤ Ss → (o = 37 ∨ o = 37) → am_stat h → g_X6_explore n 1 o a2 x3i x4i x5i h = some ((v, h'), cr, sr) → AW mX6_explore (rX6_explore Cc Ss) (fun r h2 => r = none ∧ h2 = h') 84 [(0, .ref o), (1, .ref 28), (2, .int a2), (3, .int x3i), (4, .int x4i), (5, .int x5i)] [] h ac sc) ∧ (∀ (o : Nat) (a2 : Int32) (x3i : Int32) (x4i : Int32) (x5i : Int32) (h : am_H) (v : Unit) (h' : am_H) (cr sr : Nat) (Cc Ss ac sc : Nat), ac + cr ≤ Cc → sc + sr ≤ Ss → (o = 37 ∨ o = 37) → am_stat h → g_X6_explore n 2 o a2 x3i x4i x5i h = some ((v, h'), cr, sr) → AW mX6_explore (rX6_explore Cc Ss) (fun r h2 => r = none ∧ h2 = h') 148 [(0, .ref o), (1, .ref 28), (2, .int a2), (3, .int x3i)] [] h ac sc) := by
  induction n with
  | zero => exact ⟨fun o a2 x3i x4i x5i h v h' cr sr Cc Ss ac sc hC hS ho hs hf => (by cases hf), fun o a2 x3i x4i x5i h v h' cr sr Cc Ss ac sc hC hS ho hs hf => (by cases hf), fun o a2 x3i x4i x5i h v h' cr sr Cc Ss ac sc hC hS ho hs hf => (by cases hf)⟩
  | succ n ih =>
    refine ⟨?_, ?_, ?_⟩
    · intro o a2 x3i x4i x5i h v h' cr sr Cc Ss ac sc hC hS ho hs hf
      have hf : ((if (am_I h o 0) ≤ x3i then am_b2 (f_X6_markForever n o h) fun r2 h3 => (g_X6_explore n 2 o a2 (Int32.ofInt 0) 0 0 h3) else (if (Int32.ofInt 2000) ≤ x3i then am_b2 (f_X6_markForever n o h) fun r6 h7 => (g_X6_explore n 2 o a2 (Int32.ofInt 0) 0 0 h7) else bif am_vp x3i 2000 then (am_b2 (f_X7_list n (am_J h (o + 3) (Int32.toNatClampNeg x3i)) h) fun r10 h11 => (am_b2 (f_X7_marks n (am_J h11 (o + 3) (Int32.toNatClampNeg x3i)) r10 h11) fun r13 h14 => ((if a2 = 0 then g_X6_explore n 1 o a2 x3i r10 (Int32.ofInt 0) (am_sI h14 (o + 4) (Int32.toNatClampNeg x3i) r13) else (if ((am_I (am_sI h14 (o + 4) (Int32.toNatClampNeg x3i) r13) (o + 4) (Int32.toNatClampNeg x3i)) &&& (Int32.ofInt 7)) = 0 then g_X6_explore n 1 o a2 x3i r10 (Int32.ofInt 0) (am_sI h14 (o + 4) (Int32.toNatClampNeg x3i) r13) else some (((), (am_sI (am_sI h14 (o + 4) (Int32.toNatClampNeg x3i) r13) o 4 (Int32.ofInt 1))), 0, 0)))))) else none))) = some ((v, h'), cr, sr) := hf
      refine AW_go okX6_explore 4 ?_
      refine And.intro (sv_K0 hs ho) ?_
      refine And.intro (fun c1 => ?_) (fun c1 => ?_)
      · rw [if_pos c1] at hf
        refine AW_go okX6_explore 1 ?_
        obtain ⟨r2, h3, e4, hf⟩ := am_b2_ok hf
        refine AW_callV (As := []) (R' := rX6_markForever 0 0) (T := TX6) (N := 15) (ci := 6) (okX6_explore.1 143 _ _ rfl) lkX6_markForever kX6_84 rfl (sv_K0 hs ho) rfl (Nat.le_of_ble_eq_true rfl) ⟨(Nat.le_of_ble_eq_true rfl), (Nat.le_of_ble_eq_true rfl)⟩ ⟨show ac + 0 ≤ Cc by omega, show sc + 0 ≤ Ss by omega⟩ (Nat.le_of_ble_eq_true rfl) (c_X6_markForever n o h ho hs e4) (fun r h' hq => ?_)
        obtain ⟨rfl, hq⟩ := hq
        replace hq := hq.symm
        subst hq
        have hs := s_X6_markForever n o h ho hs e4
        refine AW_go okX6_explore 2 ?_
        refine AW_pick (lv' := [(0, .ref o), (1, .ref 28), (2, .int a2), (3, .int (Int32.ofInt 0))]) [1, 2, 3, 0] rfl ?_
        exact ih.2.2 o a2 (Int32.ofInt 0) 0 0 h3 _ _ cr sr Cc Ss ac sc (by omega) (by omega) ho hs hf
      · rw [if_neg c1] at hf
        refine AW_go okX6_explore 3 ?_
        refine And.intro (fun c5 => ?_) (fun c5 => ?_)
        · rw [if_pos c5] at hf
          refine AW_go okX6_explore 1 ?_
          obtain ⟨r6, h7, e8, hf⟩ := am_b2_ok hf
          refine AW_callV (As := []) (R' := rX6_markForever 0 0) (T := TX6) (N := 15) (ci := 6) (okX6_explore.1 143 _ _ rfl) lkX6_markForever kX6_84 rfl (sv_K0 hs ho) rfl (Nat.le_of_ble_eq_true rfl) ⟨(Nat.le_of_ble_eq_true rfl), (Nat.le_of_ble_eq_true rfl)⟩ ⟨show ac + 0 ≤ Cc by omega, show sc + 0 ≤ Ss by omega⟩ (Nat.le_of_ble_eq_true rfl) (c_X6_markForever n o h ho hs e8) (fun r h' hq => ?_)
          obtain ⟨rfl, hq⟩ := hq
          replace hq := hq.symm
          subst hq
          have hs := s_X6_markForever n o h ho hs e8
          refine AW_go okX6_explore 2 ?_
          refine AW_pick (lv' := [(0, .ref o), (1, .ref 28), (2, .int a2), (3, .int (Int32.ofInt 0))]) [1, 2, 3, 0] rfl ?_
          exact ih.2.2 o a2 (Int32.ofInt 0) 0 0 h7 _ _ cr sr Cc Ss ac sc (by omega) (by omega) ho hs hf
        · rw [if_neg c5] at hf
          obtain ⟨b9, hf⟩ := am_bis hf
          refine AW_go okX6_explore 5 ?_
          refine And.intro (sv_K0 hs ho) (Exists.intro _ (And.intro (sv_A hs ho 5 3) ?_))
          refine Exists.intro 2000 (And.intro (sv_K hs ho 3) (And.intro (am_vp_ok b9) ?_))
          obtain ⟨r10, h11, e12, hf⟩ := am_b2_ok hf
          refine AW_callV (As := [.long (am_J h (o + 3) (Int32.toNatClampNeg x3i))]) (R' := rX7_list 0 0) (T := TX7) (N := 10) (ci := 7) (okX6_explore.1 36 _ _ rfl) lkX7_list kX6_57 rfl (sK hs 28) rfl (Nat.le_of_ble_eq_true rfl) ⟨(Nat.le_of_ble_eq_true rfl), (Nat.le_of_ble_eq_true rfl)⟩ ⟨show ac + 0 ≤ Cc by omega, show sc + 0 ≤ Ss by omega⟩ (Nat.le_of_ble_eq_true rfl) (c_X7_list n (am_J h (o + 3) (Int32.toNatClampNeg x3i)) h hs e12) (fun r h' hq => ?_)
          obtain ⟨rfl, hq⟩ := hq
          replace hq := hq.symm
          subst hq
          have hs := s_X7_list n (am_J h (o + 3) (Int32.toNatClampNeg x3i)) h hs e12
          refine AW_go okX6_explore 10 ?_
          refine And.intro (sv_K0 hs ho) (Exists.intro _ (And.intro (sv_A hs ho 6 4) ?_))
          refine And.intro (sv_K0 hs ho) (Exists.intro _ (And.intro (sv_A hs ho 5 3) ?_))
          refine Exists.intro 2000 (And.intro (sv_K hs ho 3) (And.intro (am_vp_ok b9) ?_))
          obtain ⟨r13, h14, e15, hf⟩ := am_b2_ok hf
          refine AW_callV (As := [.long (am_J h11 (o + 3) (Int32.toNatClampNeg x3i)), .int r10]) (R' := rX7_marks 0 0) (T := TX7) (N := 10) (ci := 7) (okX6_explore.1 55 _ _ rfl) lkX7_marks kX6_63 rfl (sK hs 28) rfl (Nat.le_of_ble_eq_true rfl) ⟨(Nat.le_of_ble_eq_true rfl), (Nat.le_of_ble_eq_true rfl)⟩ ⟨show ac + 0 ≤ Cc by omega, show sc + 0 ≤ Ss by omega⟩ (Nat.le_of_ble_eq_true rfl) (c_X7_marks n (am_J h11 (o + 3) (Int32.toNatClampNeg x3i)) r10 h11 hs e15) (fun r h' hq => ?_)
          obtain ⟨rfl, hq⟩ := hq
          replace hq := hq.symm
          subst hq
          have hs := s_X7_marks n (am_J h11 (o + 3) (Int32.toNatClampNeg x3i)) r10 h11 hs e15
          refine AW_go okX6_explore 3 ?_
          refine Exists.intro 2000 (And.intro (sv_K hs ho 4) (And.intro (am_vp_ok b9) ?_))
          refine And.intro (fun c16 => ?_) (fun c16 => ?_)
          · rw [if_pos c16] at hf
            refine AW_go okX6_explore 2 ?_
            refine AW_pick (lv' := [(0, .ref o), (1, .ref 28), (2, .int a2), (3, .int x3i), (4, .int r10), (5, .int (Int32.ofInt 0))]) [2, 3, 4, 5, 1, 0] rfl ?_
            exact ih.2.1 o a2 x3i r10 (Int32.ofInt 0) (am_sI h14 (o + 4) (Int32.toNatClampNeg x3i) r13) _ _ cr sr Cc Ss ac sc (by omega) (by omega) ho hs hf
          · rw [if_neg c16] at hf
            refine AW_go okX6_explore 7 ?_
            refine And.intro (sv_K0 hs ho) (Exists.intro _ (And.intro (sv_A hs ho 6 4) ?_))
            refine Exists.intro 2000 (And.intro (sv_K hs ho 4) (And.intro (am_vp_ok b9) ?_))
            refine And.intro (fun c17 => ?_) (fun c17 => ?_)
            · rw [if_pos c17] at hf
              refine AW_go okX6_explore 2 ?_
              refine AW_pick (lv' := [(0, .ref o), (1, .ref 28), (2, .int a2), (3, .int x3i), (4, .int r10), (5, .int (Int32.ofInt 0))]) [2, 3, 4, 5, 1, 0] rfl ?_
              exact ih.2.1 o a2 x3i r10 (Int32.ofInt 0) (am_sI h14 (o + 4) (Int32.toNatClampNeg x3i) r13) _ _ cr sr Cc Ss ac sc (by omega) (by omega) ho hs hf
            · rw [if_neg c17] at hf
              refine AW_go okX6_explore 4 ?_
              refine And.intro (Or.inr rfl) (And.intro (sv_K0 hs ho) ?_)
              obtain ⟨rfl, rfl, rfl, rfl⟩ := am_ic hf
              exact And.intro ⟨show ac ≤ Cc by omega, show sc ≤ Ss by omega⟩ (And.intro rfl ⟨rfl, rfl⟩)
    · intro o a2 x3i x4i x5i h v h' cr sr Cc Ss ac sc hC hS ho hs hf
      have hf : ((if x4i ≤ x5i then g_X6_explore n 0 o a2 (x3i + Int32.ofInt 1) 0 0 h else bif am_vp x5i 90 then (am_b2 (f_X6_meet n o (am_J h 32 (Int32.toNatClampNeg x5i)) x3i (am_I h 31 (Int32.toNatClampNeg x5i)) h) fun r3 h4 => ((if 0 ≤ r3 then am_bc (f_X6_link o x3i r3 h4) fun r7 h8 => (g_X6_explore n 1 o a2 x3i x4i (x5i + Int32.ofInt 1) h8) else some (((), (am_sI h4 o 1 (Int32.ofInt 1))), 0, 0)))) else none)) = some ((v, h'), cr, sr) := hf
      refine AW_go okX6_explore 3 ?_
      refine And.intro (fun c1 => ?_) (fun c1 => ?_)
      · rw [if_pos c1] at hf
        refine AW_go okX6_explore 2 ?_
        refine AW_pick (lv' := [(0, .ref o), (1, .ref 28), (2, .int a2), (3, .int (x3i + Int32.ofInt 1))]) [1, 2, 3, 0] rfl ?_
        exact ih.1 o a2 (x3i + Int32.ofInt 1) 0 0 h _ _ cr sr Cc Ss ac sc (by omega) (by omega) ho hs hf
      · rw [if_neg c1] at hf
        obtain ⟨b2, hf⟩ := am_bis hf
        refine AW_go okX6_explore 10 ?_
        refine And.intro (sK hs 28) (Exists.intro _ (And.intro (sA hs 28 4) ?_))
        refine Exists.intro 90 (And.intro (sK hs 32) (And.intro (am_vp_ok b2) ?_))
        refine And.intro (sK hs 28) (Exists.intro _ (And.intro (sA hs 28 3) ?_))
        refine Exists.intro 90 (And.intro (sK hs 31) (And.intro (am_vp_ok b2) ?_))
        obtain ⟨r3, h4, e5, hf⟩ := am_b2_ok hf
        refine AW_callV (As := [.long (am_J h 32 (Int32.toNatClampNeg x5i)), .int x3i, .int (am_I h 31 (Int32.toNatClampNeg x5i))]) (R' := rX6_meet 0 0) (T := TX6) (N := 15) (ci := 6) (okX6_explore.1 107 _ _ rfl) lkX6_meet kX6_49 rfl (sv_K0 hs ho) rfl (Nat.le_of_ble_eq_true rfl) ⟨(Nat.le_of_ble_eq_true rfl), (Nat.le_of_ble_eq_true rfl)⟩ ⟨show ac + 0 ≤ Cc by omega, show sc + 0 ≤ Ss by omega⟩ (Nat.le_of_ble_eq_true rfl) (c_X6_meet n o (am_J h 32 (Int32.toNatClampNeg x5i)) x3i (am_I h 31 (Int32.toNatClampNeg x5i)) h ho hs e5) (fun r h' hq => ?_)
        obtain ⟨rfl, hq⟩ := hq
        replace hq := hq.symm
        subst hq
        have hs := s_X6_meet n o (am_J h 32 (Int32.toNatClampNeg x5i)) x3i (am_I h 31 (Int32.toNatClampNeg x5i)) h ho hs e5
        refine AW_go okX6_explore 3 ?_
        refine And.intro (fun c6 => ?_) (fun c6 => ?_)
        · rw [if_pos c6] at hf
          refine AW_go okX6_explore 3 ?_
          obtain ⟨r7, h8, c10, s11, c12, s13, e9, hg14, rfl, rfl⟩ := am_bc_ok hf
          have hf := hg14
          refine AW_callV (As := [.int x3i, .int r3]) (R' := rX6_link c10 s11) (T := TX6) (N := 15) (ci := 6) (okX6_explore.1 127 _ _ rfl) lkX6_link kX6_80 rfl (sv_K0 hs ho) rfl (Nat.le_of_ble_eq_true rfl) ⟨(Nat.le_of_ble_eq_true rfl), (Nat.le_of_ble_eq_true rfl)⟩ ⟨show ac + c10 ≤ Cc by omega, show sc + s11 ≤ Ss by omega⟩ (Nat.le_of_ble_eq_true rfl) (c_X6_link o x3i r3 h4 ho hs c10 s11 (by omega) (by omega) e9) (fun r h' hq => ?_)
          obtain ⟨rfl, hq⟩ := hq
          replace hq := hq.symm
          subst hq
          have hs := s_X6_link o x3i r3 h4 ho hs e9
          refine AW_go okX6_explore 2 ?_
          refine AW_pick (lv' := [(0, .ref o), (1, .ref 28), (2, .int a2), (3, .int x3i), (4, .int x4i), (5, .int (x5i + Int32.ofInt 1))]) [2, 3, 4, 5, 6, 0] rfl ?_
          exact ih.2.1 o a2 x3i x4i (x5i + Int32.ofInt 1) h8 _ _ c12 s13 Cc Ss (ac + c10) (sc + s11) (by omega) (by omega) ho hs hf
        · rw [if_neg c6] at hf
          refine AW_go okX6_explore 4 ?_
          refine And.intro (Or.inr rfl) (And.intro (sv_K0 hs ho) ?_)
          obtain ⟨rfl, rfl, rfl, rfl⟩ := am_ic hf
          exact And.intro ⟨show ac ≤ Cc by omega, show sc ≤ Ss by omega⟩ (And.intro rfl ⟨rfl, rfl⟩)
    · intro o a2 x3i x4i x5i h v h' cr sr Cc Ss ac sc hC hS ho hs hf
      have hf : ((if (am_I h o 0) ≤ x3i then some (((), h), 0, 0) else am_b2 (f_X6_tell n o x3i h) fun r2 h3 => (g_X6_explore n 2 o a2 (x3i + Int32.ofInt 1) 0 0 h3))) = some ((v, h'), cr, sr) := hf
      refine AW_go okX6_explore 4 ?_
      refine And.intro (sv_K0 hs ho) ?_
      refine And.intro (fun c1 => ?_) (fun c1 => ?_)
      · rw [if_pos c1] at hf
        refine AW_go okX6_explore 1 ?_
        obtain ⟨rfl, rfl, rfl, rfl⟩ := am_ic hf
        exact And.intro ⟨show ac ≤ Cc by omega, show sc ≤ Ss by omega⟩ (And.intro rfl ⟨rfl, rfl⟩)
      · rw [if_neg c1] at hf
        refine AW_go okX6_explore 2 ?_
        obtain ⟨r2, h3, e4, hf⟩ := am_b2_ok hf
        refine AW_callV (As := [.int x3i]) (R' := rX6_tell 0 0) (T := TX6) (N := 15) (ci := 6) (okX6_explore.1 158 _ _ rfl) lkX6_tell kX6_87 rfl (sv_K0 hs ho) rfl (Nat.le_of_ble_eq_true rfl) ⟨(Nat.le_of_ble_eq_true rfl), (Nat.le_of_ble_eq_true rfl)⟩ ⟨show ac + 0 ≤ Cc by omega, show sc + 0 ≤ Ss by omega⟩ (Nat.le_of_ble_eq_true rfl) (c_X6_tell n o x3i h ho hs e4) (fun r h' hq => ?_)
        obtain ⟨rfl, hq⟩ := hq
        replace hq := hq.symm
        subst hq
        have hs := s_X6_tell n o x3i h ho hs e4
        refine AW_go okX6_explore 2 ?_
        refine AW_pick (lv' := [(0, .ref o), (1, .ref 28), (2, .int a2), (3, .int (x3i + Int32.ofInt 1))]) [1, 2, 3, 0] rfl ?_
        exact ih.2.2 o a2 (x3i + Int32.ofInt 1) 0 0 h3 _ _ cr sr Cc Ss ac sc (by omega) (by omega) ho hs hf
def f_X6_explore (n : Nat) (o : Nat) (a2 : Int32) (h : am_H) : Option ((Unit × am_H) × Nat × Nat) := am_b2 (f_X6_clear n o h) fun r1 h2 => (am_b2 (f_X6_meet n o (Int64.ofNat (0 : Fin 2).val) (Int32.ofInt (-1)) (Int32.ofInt (-1)) h2) fun r4 h5 => (g_X6_explore n 0 o a2 (Int32.ofInt 0) 0 0 h5))
set_option maxRecDepth 100000 in
set_option maxHeartbeats 4000000 in
theorem s_X6_explore (n : Nat) (o : Nat) (a2 : Int32) (h : am_H) (ho : o = 37 ∨ o = 37) (hs : am_stat h) {v : Unit} {h' : am_H} {cr sr : Nat} (hf : f_X6_explore n o a2 h = some ((v, h'), cr, sr)) : am_stat h' := by
  unfold f_X6_explore at hf
  obtain ⟨r1, h2, e3, hf⟩ := am_b2_ok hf
  have hs := s_X6_clear n o h ho hs e3
  obtain ⟨r4, h5, e6, hf⟩ := am_b2_ok hf
  have hs := s_X6_meet n o (Int64.ofNat (0 : Fin 2).val) (Int32.ofInt (-1)) (Int32.ofInt (-1)) h2 ho hs e6
  exact (m_X6_explore n).1 o a2 (Int32.ofInt 0) 0 0 h5 _ _ cr sr ho hs hf
set_option maxRecDepth 100000 in
set_option maxHeartbeats 4000000 in
theorem c_X6_explore (n : Nat) (o : Nat) (a2 : Int32) (h : am_H) (ho : o = 37 ∨ o = 37) (hs : am_stat h) {v : Unit} {h' : am_H} {cr sr : Nat} (Cc Ss : Nat) (hC : 0 + cr ≤ Cc) (hS : 0 + sr ≤ Ss) (hf : f_X6_explore n o a2 h = some ((v, h'), cr, sr)) : AMet mX6_explore (rX6_explore Cc Ss) (fun r h2 => r = none ∧ h2 = h') [.ref o, .ref 28, .int a2] h := by
  unfold f_X6_explore at hf
  refine AW_go okX6_explore 1 ?_
  obtain ⟨r1, h2, e3, hf⟩ := am_b2_ok hf
  refine AW_callV (As := []) (R' := rX6_clear 0 0) (T := TX6) (N := 15) (ci := 6) (okX6_explore.1 1 _ _ rfl) lkX6_clear kX6_46 rfl (sv_K0 hs ho) rfl (Nat.le_of_ble_eq_true rfl) ⟨(Nat.le_of_ble_eq_true rfl), (Nat.le_of_ble_eq_true rfl)⟩ ⟨show 0 + 0 ≤ Cc by omega, show 0 + 0 ≤ Ss by omega⟩ (Nat.le_of_ble_eq_true rfl) (c_X6_clear n o h ho hs e3) (fun r h' hq => ?_)
  obtain ⟨rfl, hq⟩ := hq
  replace hq := hq.symm
  subst hq
  have hs := s_X6_clear n o h ho hs e3
  refine AW_go okX6_explore 4 ?_
  obtain ⟨r4, h5, e6, hf⟩ := am_b2_ok hf
  refine AW_callV (As := [.long (Int64.ofNat (0 : Fin 2).val), .int (Int32.ofInt (-1)), .int (Int32.ofInt (-1))]) (R' := rX6_meet 0 0) (T := TX6) (N := 15) (ci := 6) (okX6_explore.1 8 _ _ rfl) lkX6_meet kX6_49 rfl (sv_K0 hs ho) rfl (Nat.le_of_ble_eq_true rfl) ⟨(Nat.le_of_ble_eq_true rfl), (Nat.le_of_ble_eq_true rfl)⟩ ⟨show 0 + 0 ≤ Cc by omega, show 0 + 0 ≤ Ss by omega⟩ (Nat.le_of_ble_eq_true rfl) (c_X6_meet n o (Int64.ofNat (0 : Fin 2).val) (Int32.ofInt (-1)) (Int32.ofInt (-1)) h2 ho hs e6) (fun r h' hq => ?_)
  obtain ⟨rfl, hq⟩ := hq
  replace hq := hq.symm
  subst hq
  have hs := s_X6_meet n o (Int64.ofNat (0 : Fin 2).val) (Int32.ofInt (-1)) (Int32.ofInt (-1)) h2 ho hs e6
  refine AW_go okX6_explore 3 ?_
  refine AW_pick (lv' := [(0, .ref o), (1, .ref 28), (2, .int a2), (3, .int (Int32.ofInt 0))]) [1, 2, 3, 0] rfl ?_
  exact (l_X6_explore n).1 o a2 (Int32.ofInt 0) 0 0 h5 _ _ cr sr Cc Ss 0 0 (by omega) (by omega) ho hs hf
