def g_X6_markForever : Nat → Nat → Nat → Int32 → Int32 → Int32 → Int32 → am_H → Option (Unit × am_H)
  | 0, _, _, _, _, _, _, _ => none
  | n + 1, tag, o, x1i, x2i, x3i, x4i, h => bif Nat.beq tag 0 then ((if (am_I h o 0) ≤ x2i then g_X6_markForever n 1 o x1i (Int32.ofInt 0) 0 0 h else bif am_vp x2i 2000 then (am_b2 ((if ((am_I h (o + 4) (Int32.toNatClampNeg x2i)) &&& (Int32.ofInt 16)) = 0 then some (x1i, h) else bif am_vp x1i 2000 then (some ((x1i + Int32.ofInt 1), (am_sI (am_sI h (o + 4) (Int32.toNatClampNeg x2i) ((am_I h (o + 4) (Int32.toNatClampNeg x2i)) ||| (Int32.ofInt 32))) (o + 8) (Int32.toNatClampNeg x1i) x2i))) else none)) fun y3 h4 => (g_X6_markForever n 0 o y3 (x2i + Int32.ofInt 1) 0 0 h4)) else none)) else (bif Nat.beq tag 1 then ((if x1i ≤ x2i then some ((), h) else (if (Int32.ofInt 2000) ≤ x2i then some ((), h) else bif am_vp x2i 2000 then (bif am_vp (am_I h (o + 8) (Int32.toNatClampNeg x2i)) 2000 then (g_X6_markForever n 2 o x1i x2i (Int32.ofInt 0) (am_I h (o + 9) (Int32.toNatClampNeg (am_I h (o + 8) (Int32.toNatClampNeg x2i)))) h) else none) else none))) else ((if x4i < 0 then g_X6_markForever n 1 o x1i (x2i + Int32.ofInt 1) 0 0 h else (if (am_I h o 12) ≤ x3i then g_X6_markForever n 1 o x1i (x2i + Int32.ofInt 1) 0 0 h else (am_A h o 13).bind fun q3 => ((am_ln h 0 q3).bind fun n5 => (bif am_vp x4i n5 then (bif am_vp (am_I h q3 (Int32.toNatClampNeg x4i)) 2000 then (am_b2 ((if ((am_I h (o + 4) (Int32.toNatClampNeg (am_I h q3 (Int32.toNatClampNeg x4i)))) &&& (Int32.ofInt 32)) = 0 then bif am_vp x1i 2000 then (some ((x1i + Int32.ofInt 1), (am_sI (am_sI h (o + 4) (Int32.toNatClampNeg (am_I h q3 (Int32.toNatClampNeg x4i))) ((am_I h (o + 4) (Int32.toNatClampNeg (am_I h q3 (Int32.toNatClampNeg x4i)))) ||| (Int32.ofInt 32))) (o + 8) (Int32.toNatClampNeg x1i) (am_I h q3 (Int32.toNatClampNeg x4i))))) else none else some (x1i, h))) fun y9 h10 => ((am_A h10 o 14).bind fun q64 => ((am_ln h10 0 q64).bind fun n66 => (bif am_vp x4i n66 then (g_X6_markForever n 2 o y9 x2i (x3i + Int32.ofInt 1) (am_I h10 q64 (Int32.toNatClampNeg x4i)) h10) else none)))) else none) else none))))))
set_option maxRecDepth 100000 in
set_option maxHeartbeats 4000000 in
theorem m_X6_markForever (n : Nat) : (∀ (o : Nat) (x1i : Int32) (x2i : Int32) (x3i : Int32) (x4i : Int32) (h : am_H) (v : Unit) (h' : am_H), (o = 37 ∨ o = 37) → am_stat h → g_X6_markForever n 0 o x1i x2i x3i x4i h = some (v, h') → am_stat h') ∧ (∀ (o : Nat) (x1i : Int32) (x2i : Int32) (x3i : Int32) (x4i : Int32) (h : am_H) (v : Unit) (h' : am_H), (o = 37 ∨ o = 37) → am_stat h → g_X6_markForever n 1 o x1i x2i x3i x4i h = some (v, h') → am_stat h') ∧ (∀ (o : Nat) (x1i : Int32) (x2i : Int32) (x3i : Int32) (x4i : Int32) (h : am_H) (v : Unit) (h' : am_H), (o = 37 ∨ o = 37) → am_stat h → g_X6_markForever n 2 o x1i x2i x3i x4i h = some (v, h') → am_stat h') := by
  induction n with
  | zero => exact ⟨fun o x1i x2i x3i x4i h v h' ho hs hf => (by cases hf), fun o x1i x2i x3i x4i h v h' ho hs hf => (by cases hf), fun o x1i x2i x3i x4i h v h' ho hs hf => (by cases hf)⟩
  | succ n ih =>
    refine ⟨?_, ?_, ?_⟩
    · intro o x1i x2i x3i x4i h v h' ho hs hf
      have hf : ((if (am_I h o 0) ≤ x2i then g_X6_markForever n 1 o x1i (Int32.ofInt 0) 0 0 h else bif am_vp x2i 2000 then (am_b2 ((if ((am_I h (o + 4) (Int32.toNatClampNeg x2i)) &&& (Int32.ofInt 16)) = 0 then some (x1i, h) else bif am_vp x1i 2000 then (some ((x1i + Int32.ofInt 1), (am_sI (am_sI h (o + 4) (Int32.toNatClampNeg x2i) ((am_I h (o + 4) (Int32.toNatClampNeg x2i)) ||| (Int32.ofInt 32))) (o + 8) (Int32.toNatClampNeg x1i) x2i))) else none)) fun y3 h4 => (g_X6_markForever n 0 o y3 (x2i + Int32.ofInt 1) 0 0 h4)) else none)) = some (v, h') := hf
      by_cases c1 : (am_I h o 0) ≤ x2i
      · rw [if_pos c1] at hf
        exact ih.2.1 o x1i (Int32.ofInt 0) 0 0 h _ _ ho hs hf
      · rw [if_neg c1] at hf
        obtain ⟨b2, hf⟩ := am_bis hf
        obtain ⟨y3, h4, j5, hf⟩ := am_b2_ok hf
        have hs0 := hs
        have hs : am_stat h4 := by
          have hs := hs0
          by_cases c6 : ((am_I h (o + 4) (Int32.toNatClampNeg x2i)) &&& (Int32.ofInt 16)) = 0
          · rw [if_pos c6] at j5
            obtain ⟨rfl, rfl⟩ := am_i2 j5
            exact hs
          · rw [if_neg c6] at j5
            obtain ⟨b7, j5⟩ := am_bis j5
            obtain ⟨rfl, rfl⟩ := am_i2 j5
            exact hs
        exact ih.1 o y3 (x2i + Int32.ofInt 1) 0 0 h4 _ _ ho hs hf
    · intro o x1i x2i x3i x4i h v h' ho hs hf
      have hf : ((if x1i ≤ x2i then some ((), h) else (if (Int32.ofInt 2000) ≤ x2i then some ((), h) else bif am_vp x2i 2000 then (bif am_vp (am_I h (o + 8) (Int32.toNatClampNeg x2i)) 2000 then (g_X6_markForever n 2 o x1i x2i (Int32.ofInt 0) (am_I h (o + 9) (Int32.toNatClampNeg (am_I h (o + 8) (Int32.toNatClampNeg x2i)))) h) else none) else none))) = some (v, h') := hf
      by_cases c1 : x1i ≤ x2i
      · rw [if_pos c1] at hf
        obtain ⟨rfl, rfl⟩ := am_i2 hf
        exact hs
      · rw [if_neg c1] at hf
        by_cases c2 : (Int32.ofInt 2000) ≤ x2i
        · rw [if_pos c2] at hf
          obtain ⟨rfl, rfl⟩ := am_i2 hf
          exact hs
        · rw [if_neg c2] at hf
          obtain ⟨b3, hf⟩ := am_bis hf
          obtain ⟨b4, hf⟩ := am_bis hf
          exact ih.2.2 o x1i x2i (Int32.ofInt 0) (am_I h (o + 9) (Int32.toNatClampNeg (am_I h (o + 8) (Int32.toNatClampNeg x2i)))) h _ _ ho hs hf
    · intro o x1i x2i x3i x4i h v h' ho hs hf
      have hf : ((if x4i < 0 then g_X6_markForever n 1 o x1i (x2i + Int32.ofInt 1) 0 0 h else (if (am_I h o 12) ≤ x3i then g_X6_markForever n 1 o x1i (x2i + Int32.ofInt 1) 0 0 h else (am_A h o 13).bind fun q3 => ((am_ln h 0 q3).bind fun n5 => (bif am_vp x4i n5 then (bif am_vp (am_I h q3 (Int32.toNatClampNeg x4i)) 2000 then (am_b2 ((if ((am_I h (o + 4) (Int32.toNatClampNeg (am_I h q3 (Int32.toNatClampNeg x4i)))) &&& (Int32.ofInt 32)) = 0 then bif am_vp x1i 2000 then (some ((x1i + Int32.ofInt 1), (am_sI (am_sI h (o + 4) (Int32.toNatClampNeg (am_I h q3 (Int32.toNatClampNeg x4i))) ((am_I h (o + 4) (Int32.toNatClampNeg (am_I h q3 (Int32.toNatClampNeg x4i)))) ||| (Int32.ofInt 32))) (o + 8) (Int32.toNatClampNeg x1i) (am_I h q3 (Int32.toNatClampNeg x4i))))) else none else some (x1i, h))) fun y9 h10 => ((am_A h10 o 14).bind fun q64 => ((am_ln h10 0 q64).bind fun n66 => (bif am_vp x4i n66 then (g_X6_markForever n 2 o y9 x2i (x3i + Int32.ofInt 1) (am_I h10 q64 (Int32.toNatClampNeg x4i)) h10) else none)))) else none) else none))))) = some (v, h') := hf
      by_cases c1 : x4i < 0
      · rw [if_pos c1] at hf
        exact ih.2.1 o x1i (x2i + Int32.ofInt 1) 0 0 h _ _ ho hs hf
      · rw [if_neg c1] at hf
        by_cases c2 : (am_I h o 12) ≤ x3i
        · rw [if_pos c2] at hf
          exact ih.2.1 o x1i (x2i + Int32.ofInt 1) 0 0 h _ _ ho hs hf
        · rw [if_neg c2] at hf
          obtain ⟨q3, k4, hf⟩ := am_bnd hf
          obtain ⟨n5, k6, hf⟩ := am_bnd hf
          obtain ⟨b7, hf⟩ := am_bis hf
          obtain ⟨b8, hf⟩ := am_bis hf
          obtain ⟨y9, h10, j11, hf⟩ := am_b2_ok hf
          have hs0 := hs
          have hs : am_stat h10 := by
            have hs := hs0
            by_cases c12 : ((am_I h (o + 4) (Int32.toNatClampNeg (am_I h q3 (Int32.toNatClampNeg x4i)))) &&& (Int32.ofInt 32)) = 0
            · rw [if_pos c12] at j11
              obtain ⟨b13, j11⟩ := am_bis j11
              obtain ⟨rfl, rfl⟩ := am_i2 j11
              exact hs
            · rw [if_neg c12] at j11
              obtain ⟨rfl, rfl⟩ := am_i2 j11
              exact hs
          obtain ⟨q64, k65, hf⟩ := am_bnd hf
          obtain ⟨n66, k67, hf⟩ := am_bnd hf
          obtain ⟨b68, hf⟩ := am_bis hf
          exact ih.2.2 o y9 x2i (x3i + Int32.ofInt 1) (am_I h10 q64 (Int32.toNatClampNeg x4i)) h10 _ _ ho hs hf
set_option maxRecDepth 100000 in
set_option maxHeartbeats 4000000 in
theorem l_X6_markForever (n : Nat) : (∀ (o : Nat) (x1i : Int32) (x2i : Int32) (x3i : Int32) (x4i : Int32) (h : am_H) (v : Unit) (h' : am_H), (o = 37 ∨ o = 37) → am_stat h → g_X6_markForever n 0 o x1i x2i x3i x4i h = some (v, h') → AW mX6_markForever (rX6_markForever 0 0) (fun r h2 => r = none ∧ h2 = h') 4 [(0, .ref o), (1, .int x1i), (2, .int x2i)] [] h 0 0) ∧ (∀ (o : Nat) (x1i : Int32) (x2i : Int32) (x3i : Int32) (x4i : Int32) (h : am_H) (v : Unit) (h' : am_H), (o = 37 ∨ o = 37) → am_stat h → g_X6_markForever n 1 o x1i x2i x3i x4i h = some (v, h') → AW mX6_markForever (rX6_markForever 0 0) (fun r h2 => r = none ∧ h2 = h') 53 [(0, .ref o), (1, .int x1i), (2, .int x2i)] [] h 0 0) ∧ (∀ (o : Nat) (x1i : Int32) (x2i : Int32) (x3i : Int32) (x4i : Int32) (h : am_H) (v : Unit) (h' : am_H), (o = 37 ∨ o = 37) → am_stat h → g_X6_markForever n 2 o x1i x2i x3i x4i h = some (v, h') → AW mX6_markForever (rX6_markForever 0 0) (fun r h2 => r = none ∧ h2 = h') 80 [(0, .ref o), (1, .int x1i), (2, .int x2i), (3, .int x3i), (4, .int x4i)] [] h 0 0) := by
  induction n with
  | zero => exact ⟨fun o x1i x2i x3i x4i h v h' ho hs hf => (by cases hf), fun o x1i x2i x3i x4i h v h' ho hs hf => (by cases hf), fun o x1i x2i x3i x4i h v h' ho hs hf => (by cases hf)⟩
  | succ n ih =>
    refine ⟨?_, ?_, ?_⟩
    · intro o x1i x2i x3i x4i h v h' ho hs hf
      have hf : ((if (am_I h o 0) ≤ x2i then g_X6_markForever n 1 o x1i (Int32.ofInt 0) 0 0 h else bif am_vp x2i 2000 then (am_b2 ((if ((am_I h (o + 4) (Int32.toNatClampNeg x2i)) &&& (Int32.ofInt 16)) = 0 then some (x1i, h) else bif am_vp x1i 2000 then (some ((x1i + Int32.ofInt 1), (am_sI (am_sI h (o + 4) (Int32.toNatClampNeg x2i) ((am_I h (o + 4) (Int32.toNatClampNeg x2i)) ||| (Int32.ofInt 32))) (o + 8) (Int32.toNatClampNeg x1i) x2i))) else none)) fun y3 h4 => (g_X6_markForever n 0 o y3 (x2i + Int32.ofInt 1) 0 0 h4)) else none)) = some (v, h') := hf
      refine AW_go okX6_markForever 4 ?_
      refine And.intro (sv_K0 hs ho) ?_
      refine And.intro (fun c1 => ?_) (fun c1 => ?_)
      · rw [if_pos c1] at hf
        refine AW_go okX6_markForever 2 ?_
        refine AW_pick (lv' := [(0, .ref o), (1, .int x1i), (2, .int (Int32.ofInt 0))]) [1, 2, 0] rfl ?_
        exact ih.2.1 o x1i (Int32.ofInt 0) 0 0 h _ _ ho hs hf
      · rw [if_neg c1] at hf
        obtain ⟨b2, hf⟩ := am_bis hf
        refine AW_go okX6_markForever 6 ?_
        refine And.intro (sv_K0 hs ho) (Exists.intro _ (And.intro (sv_A hs ho 6 4) ?_))
        refine Exists.intro 2000 (And.intro (sv_K hs ho 4) (And.intro (am_vp_ok b2) ?_))
        obtain ⟨y3, h4, j5, hf⟩ := am_b2_ok hf
        have hs0 := hs
        have hs : am_stat h4 := by
          have hs := hs0
          by_cases c6 : ((am_I h (o + 4) (Int32.toNatClampNeg x2i)) &&& (Int32.ofInt 16)) = 0
          · rw [if_pos c6] at j5
            obtain ⟨rfl, rfl⟩ := am_i2 j5
            exact hs
          · rw [if_neg c6] at j5
            obtain ⟨b7, j5⟩ := am_bis j5
            obtain ⟨rfl, rfl⟩ := am_i2 j5
            exact hs
        refine am_cut (P := AW mX6_markForever (rX6_markForever 0 0) (fun r h2 => r = none ∧ h2 = h') 45 [(0, .ref o), (1, .int y3), (2, .int x2i)] [] h4 0 0) (fun hJ5 => ?_) ?_
        · have hs := hs0
          refine AW_go okX6_markForever 1 ?_
          refine And.intro (fun c6 => ?_) (fun c6 => ?_)
          · rw [if_pos c6] at j5
            obtain ⟨rfl, rfl⟩ := am_i2 j5
            exact AW_pick [0, 1, 2] rfl hJ5
          · rw [if_neg c6] at j5
            obtain ⟨b7, j5⟩ := am_bis j5
            refine AW_go okX6_markForever 14 ?_
            refine And.intro (sv_K0 hs ho) (Exists.intro _ (And.intro (sv_A hs ho 6 4) ?_))
            refine Exists.intro 2000 (And.intro (sv_K hs ho 4) (And.intro (am_vp_ok b2) ?_))
            refine Exists.intro 2000 (And.intro (sv_K hs ho 4) (And.intro (am_vp_ok b2) ?_))
            refine And.intro (sv_K0 hs ho) (Exists.intro _ (And.intro (sv_A hs ho 10 8) ?_))
            refine Exists.intro 2000 (And.intro (sv_K hs ho 8) (And.intro (am_vp_ok b7) ?_))
            obtain ⟨rfl, rfl⟩ := am_i2 j5
            exact AW_pick [1, 0, 2] rfl hJ5
        refine AW_go okX6_markForever 2 ?_
        refine AW_pick (lv' := [(0, .ref o), (1, .int y3), (2, .int (x2i + Int32.ofInt 1))]) [1, 2, 0] rfl ?_
        exact ih.1 o y3 (x2i + Int32.ofInt 1) 0 0 h4 _ _ ho hs hf
    · intro o x1i x2i x3i x4i h v h' ho hs hf
      have hf : ((if x1i ≤ x2i then some ((), h) else (if (Int32.ofInt 2000) ≤ x2i then some ((), h) else bif am_vp x2i 2000 then (bif am_vp (am_I h (o + 8) (Int32.toNatClampNeg x2i)) 2000 then (g_X6_markForever n 2 o x1i x2i (Int32.ofInt 0) (am_I h (o + 9) (Int32.toNatClampNeg (am_I h (o + 8) (Int32.toNatClampNeg x2i)))) h) else none) else none))) = some (v, h') := hf
      refine AW_go okX6_markForever 3 ?_
      refine And.intro (fun c1 => ?_) (fun c1 => ?_)
      · rw [if_pos c1] at hf
        refine AW_go okX6_markForever 1 ?_
        obtain ⟨rfl, rfl⟩ := am_i2 hf
        exact And.intro ⟨(Nat.le_of_ble_eq_true rfl), (Nat.le_of_ble_eq_true rfl)⟩ (And.intro rfl ⟨rfl, rfl⟩)
      · rw [if_neg c1] at hf
        refine AW_go okX6_markForever 3 ?_
        refine And.intro (fun c2 => ?_) (fun c2 => ?_)
        · rw [if_pos c2] at hf
          refine AW_go okX6_markForever 1 ?_
          obtain ⟨rfl, rfl⟩ := am_i2 hf
          exact And.intro ⟨(Nat.le_of_ble_eq_true rfl), (Nat.le_of_ble_eq_true rfl)⟩ (And.intro rfl ⟨rfl, rfl⟩)
        · rw [if_neg c2] at hf
          obtain ⟨b3, hf⟩ := am_bis hf
          obtain ⟨b4, hf⟩ := am_bis hf
          refine AW_go okX6_markForever 10 ?_
          refine And.intro (sv_K0 hs ho) (Exists.intro _ (And.intro (sv_A hs ho 11 9) ?_))
          refine And.intro (sv_K0 hs ho) (Exists.intro _ (And.intro (sv_A hs ho 10 8) ?_))
          refine Exists.intro 2000 (And.intro (sv_K hs ho 8) (And.intro (am_vp_ok b3) ?_))
          refine Exists.intro 2000 (And.intro (sv_K hs ho 9) (And.intro (am_vp_ok b4) ?_))
          refine AW_pick (lv' := [(0, .ref o), (1, .int x1i), (2, .int x2i), (3, .int (Int32.ofInt 0)), (4, .int (am_I h (o + 9) (Int32.toNatClampNeg (am_I h (o + 8) (Int32.toNatClampNeg x2i)))))]) [2, 3, 4, 1, 0] rfl ?_
          exact ih.2.2 o x1i x2i (Int32.ofInt 0) (am_I h (o + 9) (Int32.toNatClampNeg (am_I h (o + 8) (Int32.toNatClampNeg x2i)))) h _ _ ho hs hf
    · intro o x1i x2i x3i x4i h v h' ho hs hf
      have hf : ((if x4i < 0 then g_X6_markForever n 1 o x1i (x2i + Int32.ofInt 1) 0 0 h else (if (am_I h o 12) ≤ x3i then g_X6_markForever n 1 o x1i (x2i + Int32.ofInt 1) 0 0 h else (am_A h o 13).bind fun q3 => ((am_ln h 0 q3).bind fun n5 => (bif am_vp x4i n5 then (bif am_vp (am_I h q3 (Int32.toNatClampNeg x4i)) 2000 then (am_b2 ((if ((am_I h (o + 4) (Int32.toNatClampNeg (am_I h q3 (Int32.toNatClampNeg x4i)))) &&& (Int32.ofInt 32)) = 0 then bif am_vp x1i 2000 then (some ((x1i + Int32.ofInt 1), (am_sI (am_sI h (o + 4) (Int32.toNatClampNeg (am_I h q3 (Int32.toNatClampNeg x4i))) ((am_I h (o + 4) (Int32.toNatClampNeg (am_I h q3 (Int32.toNatClampNeg x4i)))) ||| (Int32.ofInt 32))) (o + 8) (Int32.toNatClampNeg x1i) (am_I h q3 (Int32.toNatClampNeg x4i))))) else none else some (x1i, h))) fun y9 h10 => ((am_A h10 o 14).bind fun q64 => ((am_ln h10 0 q64).bind fun n66 => (bif am_vp x4i n66 then (g_X6_markForever n 2 o y9 x2i (x3i + Int32.ofInt 1) (am_I h10 q64 (Int32.toNatClampNeg x4i)) h10) else none)))) else none) else none))))) = some (v, h') := hf
      refine AW_go okX6_markForever 2 ?_
      refine And.intro (fun c1 => ?_) (fun c1 => ?_)
      · rw [if_pos c1] at hf
        refine AW_go okX6_markForever 2 ?_
        refine AW_pick (lv' := [(0, .ref o), (1, .int x1i), (2, .int (x2i + Int32.ofInt 1))]) [1, 2, 0] rfl ?_
        exact ih.2.1 o x1i (x2i + Int32.ofInt 1) 0 0 h _ _ ho hs hf
      · rw [if_neg c1] at hf
        refine AW_go okX6_markForever 4 ?_
        refine And.intro (sv_K0 hs ho) ?_
        refine And.intro (fun c2 => ?_) (fun c2 => ?_)
        · rw [if_pos c2] at hf
          refine AW_go okX6_markForever 2 ?_
          refine AW_pick (lv' := [(0, .ref o), (1, .int x1i), (2, .int (x2i + Int32.ofInt 1))]) [1, 2, 0] rfl ?_
          exact ih.2.1 o x1i (x2i + Int32.ofInt 1) 0 0 h _ _ ho hs hf
        · rw [if_neg c2] at hf
          obtain ⟨q3, k4, hf⟩ := am_bnd hf
          obtain ⟨n5, k6, hf⟩ := am_bnd hf
          obtain ⟨b7, hf⟩ := am_bis hf
          obtain ⟨b8, hf⟩ := am_bis hf
          refine AW_go okX6_markForever 11 ?_
          refine And.intro (sv_K0 hs ho) (Exists.intro (some q3) (And.intro k4 ?_))
          refine Exists.intro n5 (And.intro (am_ln_ok k6) (And.intro (am_vp_ok b7) ?_))
          refine And.intro (sv_K0 hs ho) (Exists.intro _ (And.intro (sv_A hs ho 6 4) ?_))
          refine Exists.intro 2000 (And.intro (sv_K hs ho 4) (And.intro (am_vp_ok b8) ?_))
          obtain ⟨y9, h10, j11, hf⟩ := am_b2_ok hf
          have hs0 := hs
          have hs : am_stat h10 := by
            have hs := hs0
            by_cases c12 : ((am_I h (o + 4) (Int32.toNatClampNeg (am_I h q3 (Int32.toNatClampNeg x4i)))) &&& (Int32.ofInt 32)) = 0
            · rw [if_pos c12] at j11
              obtain ⟨b13, j11⟩ := am_bis j11
              obtain ⟨rfl, rfl⟩ := am_i2 j11
              exact hs
            · rw [if_neg c12] at j11
              obtain ⟨rfl, rfl⟩ := am_i2 j11
              exact hs
          refine am_cut (P := AW mX6_markForever (rX6_markForever 0 0) (fun r h2 => r = none ∧ h2 = h') 138 [(0, .ref o), (1, .int y9), (2, .int x2i), (3, .int x3i), (4, .int x4i), (5, .int (am_I h q3 (Int32.toNatClampNeg x4i)))] [] h10 0 0) (fun hJ11 => ?_) ?_
          · have hs := hs0
            refine AW_go okX6_markForever 1 ?_
            refine And.intro (fun c12 => ?_) (fun c12 => ?_)
            · rw [if_neg c12] at j11
              obtain ⟨rfl, rfl⟩ := am_i2 j11
              exact AW_pick [1, 2, 3, 4, 5, 0] rfl hJ11
            · rw [if_pos c12] at j11
              obtain ⟨b13, j11⟩ := am_bis j11
              refine AW_go okX6_markForever 14 ?_
              refine And.intro (sv_K0 hs ho) (Exists.intro _ (And.intro (sv_A hs ho 6 4) ?_))
              refine Exists.intro 2000 (And.intro (sv_K hs ho 4) (And.intro (am_vp_ok b8) ?_))
              refine Exists.intro 2000 (And.intro (sv_K hs ho 4) (And.intro (am_vp_ok b8) ?_))
              refine And.intro (sv_K0 hs ho) (Exists.intro _ (And.intro (sv_A hs ho 10 8) ?_))
              refine Exists.intro 2000 (And.intro (sv_K hs ho 8) (And.intro (am_vp_ok b13) ?_))
              obtain ⟨rfl, rfl⟩ := am_i2 j11
              exact AW_pick [2, 0, 3, 4, 5, 1] rfl hJ11
          obtain ⟨q64, k65, hf⟩ := am_bnd hf
          obtain ⟨n66, k67, hf⟩ := am_bnd hf
          obtain ⟨b68, hf⟩ := am_bis hf
          refine AW_go okX6_markForever 7 ?_
          refine And.intro (sv_K0 hs ho) (Exists.intro (some q64) (And.intro k65 ?_))
          refine Exists.intro n66 (And.intro (am_ln_ok k67) (And.intro (am_vp_ok b68) ?_))
          refine AW_pick (lv' := [(0, .ref o), (1, .int y9), (2, .int x2i), (3, .int (x3i + Int32.ofInt 1)), (4, .int (am_I h10 q64 (Int32.toNatClampNeg x4i)))]) [2, 3, 4, 1, 0] rfl ?_
          exact ih.2.2 o y9 x2i (x3i + Int32.ofInt 1) (am_I h10 q64 (Int32.toNatClampNeg x4i)) h10 _ _ ho hs hf
def f_X6_markForever (n : Nat) (o : Nat) (h : am_H) : Option (Unit × am_H) := g_X6_markForever n 0 o (Int32.ofInt 0) (Int32.ofInt 0) 0 0 h
set_option maxRecDepth 100000 in
theorem s_X6_markForever (n : Nat) (o : Nat) (h : am_H) (ho : o = 37 ∨ o = 37) (hs : am_stat h) {v : Unit} {h' : am_H} (hf : f_X6_markForever n o h = some (v, h')) : am_stat h' := by
  unfold f_X6_markForever at hf
  exact (m_X6_markForever n).1 o (Int32.ofInt 0) (Int32.ofInt 0) 0 0 h _ _ ho hs hf
set_option maxRecDepth 100000 in
theorem c_X6_markForever (n : Nat) (o : Nat) (h : am_H) (ho : o = 37 ∨ o = 37) (hs : am_stat h) {v : Unit} {h' : am_H} (hf : f_X6_markForever n o h = some (v, h')) : AMet mX6_markForever (rX6_markForever 0 0) (fun r h2 => r = none ∧ h2 = h') [.ref o] h := by
  unfold f_X6_markForever at hf
  refine AW_go okX6_markForever 4 ?_
  refine AW_pick (lv' := [(0, .ref o), (1, .int (Int32.ofInt 0)), (2, .int (Int32.ofInt 0))]) [2, 1, 0] rfl ?_
  exact (l_X6_markForever n).1 o (Int32.ofInt 0) (Int32.ofInt 0) 0 0 h _ _ ho hs hf
def g_X6_tell : Nat → Nat → Nat → Int32 → Int32 → am_H → Option (Unit × am_H)
  | 0, _, _, _, _, _ => none
  | n + 1, _, o, a1, x2i, h => (if (Int32.ofInt 5) ≤ x2i then some ((), h) else bif am_vp a1 2000 then (Option.bind ((if (((Int32.toUInt32 (am_I h (o + 4) (Int32.toNatClampNeg a1)) >>> (Int32.toUInt32 x2i &&& Int32.toUInt32 31)).toInt32) &&& (Int32.ofInt 1)) = 0 then some h else bif am_vp x2i 5 then (Option.bind ((if (am_I h (o + 1) (Int32.toNatClampNeg x2i)) = 0 then some (am_sI h (o + 2) (Int32.toNatClampNeg x2i) a1) else some h)) fun h7 => (some (am_sI h7 (o + 1) (Int32.toNatClampNeg x2i) ((am_I h7 (o + 1) (Int32.toNatClampNeg x2i)) + (Int32.ofInt 1))))) else none)) fun h3 => (g_X6_tell n 0 o a1 (x2i + Int32.ofInt 1) h3)) else none)
set_option maxRecDepth 100000 in
set_option maxHeartbeats 4000000 in
theorem m_X6_tell (n : Nat) : (∀ (o : Nat) (a1 : Int32) (x2i : Int32) (h : am_H) (v : Unit) (h' : am_H), (o = 37 ∨ o = 37) → am_stat h → g_X6_tell n 0 o a1 x2i h = some (v, h') → am_stat h') := by
  induction n with
  | zero => exact fun o a1 x2i h v h' ho hs hf => (by cases hf)
  | succ n ih =>
    skip
    · intro o a1 x2i h v h' ho hs hf
      have hf : ((if (Int32.ofInt 5) ≤ x2i then some ((), h) else bif am_vp a1 2000 then (Option.bind ((if (((Int32.toUInt32 (am_I h (o + 4) (Int32.toNatClampNeg a1)) >>> (Int32.toUInt32 x2i &&& Int32.toUInt32 31)).toInt32) &&& (Int32.ofInt 1)) = 0 then some h else bif am_vp x2i 5 then (Option.bind ((if (am_I h (o + 1) (Int32.toNatClampNeg x2i)) = 0 then some (am_sI h (o + 2) (Int32.toNatClampNeg x2i) a1) else some h)) fun h7 => (some (am_sI h7 (o + 1) (Int32.toNatClampNeg x2i) ((am_I h7 (o + 1) (Int32.toNatClampNeg x2i)) + (Int32.ofInt 1))))) else none)) fun h3 => (g_X6_tell n 0 o a1 (x2i + Int32.ofInt 1) h3)) else none)) = some (v, h') := hf
      by_cases c1 : (Int32.ofInt 5) ≤ x2i
      · rw [if_pos c1] at hf
        obtain ⟨rfl, rfl⟩ := am_i2 hf
        exact hs
      · rw [if_neg c1] at hf
        obtain ⟨b2, hf⟩ := am_bis hf
        obtain ⟨h3, j4, hf⟩ := am_bnd hf
        have hs0 := hs
        have hs : am_stat h3 := by
          have hs := hs0
          by_cases c5 : (((Int32.toUInt32 (am_I h (o + 4) (Int32.toNatClampNeg a1)) >>> (Int32.toUInt32 x2i &&& Int32.toUInt32 31)).toInt32) &&& (Int32.ofInt 1)) = 0
          · rw [if_pos c5] at j4
            obtain rfl := am_i1 j4
            exact hs
          · rw [if_neg c5] at j4
            obtain ⟨b6, j4⟩ := am_bis j4
            obtain ⟨h7, j8, j4⟩ := am_bnd j4
            have hs0 := hs
            have hs : am_stat h7 := by
              have hs := hs0
              by_cases c9 : (am_I h (o + 1) (Int32.toNatClampNeg x2i)) = 0
              · rw [if_pos c9] at j8
                obtain rfl := am_i1 j8
                exact hs
              · rw [if_neg c9] at j8
                obtain rfl := am_i1 j8
                exact hs
            obtain rfl := am_i1 j4
            exact hs
        exact ih o a1 (x2i + Int32.ofInt 1) h3 _ _ ho hs hf
set_option maxRecDepth 100000 in
set_option maxHeartbeats 4000000 in
theorem l_X6_tell (n : Nat) : (∀ (o : Nat) (a1 : Int32) (x2i : Int32) (h : am_H) (v : Unit) (h' : am_H), (o = 37 ∨ o = 37) → am_stat h → g_X6_tell n 0 o a1 x2i h = some (v, h') → AW mX6_tell (rX6_tell 0 0) (fun r h2 => r = none ∧ h2 = h') 25 [(0, .ref o), (1, .int a1), (2, .int x2i)] [] h 0 0) := by
  induction n with
  | zero => exact fun o a1 x2i h v h' ho hs hf => (by cases hf)
  | succ n ih =>
    skip
    · intro o a1 x2i h v h' ho hs hf
      have hf : ((if (Int32.ofInt 5) ≤ x2i then some ((), h) else bif am_vp a1 2000 then (Option.bind ((if (((Int32.toUInt32 (am_I h (o + 4) (Int32.toNatClampNeg a1)) >>> (Int32.toUInt32 x2i &&& Int32.toUInt32 31)).toInt32) &&& (Int32.ofInt 1)) = 0 then some h else bif am_vp x2i 5 then (Option.bind ((if (am_I h (o + 1) (Int32.toNatClampNeg x2i)) = 0 then some (am_sI h (o + 2) (Int32.toNatClampNeg x2i) a1) else some h)) fun h7 => (some (am_sI h7 (o + 1) (Int32.toNatClampNeg x2i) ((am_I h7 (o + 1) (Int32.toNatClampNeg x2i)) + (Int32.ofInt 1))))) else none)) fun h3 => (g_X6_tell n 0 o a1 (x2i + Int32.ofInt 1) h3)) else none)) = some (v, h') := hf
      refine AW_go okX6_tell 3 ?_
      refine And.intro (fun c1 => ?_) (fun c1 => ?_)
      · rw [if_pos c1] at hf
        refine AW_go okX6_tell 1 ?_
        obtain ⟨rfl, rfl⟩ := am_i2 hf
        exact And.intro ⟨(Nat.le_of_ble_eq_true rfl), (Nat.le_of_ble_eq_true rfl)⟩ (And.intro rfl ⟨rfl, rfl⟩)
      · rw [if_neg c1] at hf
        obtain ⟨b2, hf⟩ := am_bis hf
        refine AW_go okX6_tell 8 ?_
        refine And.intro (sv_K0 hs ho) (Exists.intro _ (And.intro (sv_A hs ho 6 4) ?_))
        refine Exists.intro 2000 (And.intro (sv_K hs ho 4) (And.intro (am_vp_ok b2) ?_))
        obtain ⟨h3, j4, hf⟩ := am_bnd hf
        have hs0 := hs
        have hs : am_stat h3 := by
          have hs := hs0
          by_cases c5 : (((Int32.toUInt32 (am_I h (o + 4) (Int32.toNatClampNeg a1)) >>> (Int32.toUInt32 x2i &&& Int32.toUInt32 31)).toInt32) &&& (Int32.ofInt 1)) = 0
          · rw [if_pos c5] at j4
            obtain rfl := am_i1 j4
            exact hs
          · rw [if_neg c5] at j4
            obtain ⟨b6, j4⟩ := am_bis j4
            obtain ⟨h7, j8, j4⟩ := am_bnd j4
            have hs0 := hs
            have hs : am_stat h7 := by
              have hs := hs0
              by_cases c9 : (am_I h (o + 1) (Int32.toNatClampNeg x2i)) = 0
              · rw [if_pos c9] at j8
                obtain rfl := am_i1 j8
                exact hs
              · rw [if_neg c9] at j8
                obtain rfl := am_i1 j8
                exact hs
            obtain rfl := am_i1 j4
            exact hs
        refine am_cut (P := AW mX6_tell (rX6_tell 0 0) (fun r h2 => r = none ∧ h2 = h') 69 [(0, .ref o), (1, .int a1), (2, .int x2i)] [] h3 0 0) (fun hJ4 => ?_) ?_
        · have hs := hs0
          refine AW_go okX6_tell 1 ?_
          refine And.intro (fun c5 => ?_) (fun c5 => ?_)
          · rw [if_pos c5] at j4
            obtain rfl := am_i1 j4
            exact AW_pick [0, 1, 2] rfl hJ4
          · rw [if_neg c5] at j4
            obtain ⟨b6, j4⟩ := am_bis j4
            refine AW_go okX6_tell 4 ?_
            refine And.intro (sv_K0 hs ho) (Exists.intro _ (And.intro (sv_A hs ho 2 1) ?_))
            refine Exists.intro 5 (And.intro (sv_K hs ho 1) (And.intro (am_vp_ok b6) ?_))
            obtain ⟨h7, j8, j4⟩ := am_bnd j4
            have hs0 := hs
            have hs : am_stat h7 := by
              have hs := hs0
              by_cases c9 : (am_I h (o + 1) (Int32.toNatClampNeg x2i)) = 0
              · rw [if_pos c9] at j8
                obtain rfl := am_i1 j8
                exact hs
              · rw [if_neg c9] at j8
                obtain rfl := am_i1 j8
                exact hs
            refine am_cut (P := AW mX6_tell (rX6_tell 0 0) (fun r h2 => r = none ∧ h2 = h') 59 [(0, .ref o), (1, .int a1), (2, .int x2i)] [] h7 0 0) (fun hJ8 => ?_) ?_
            · have hs := hs0
              refine AW_go okX6_tell 1 ?_
              refine And.intro (fun c9 => ?_) (fun c9 => ?_)
              · rw [if_neg c9] at j8
                obtain rfl := am_i1 j8
                exact AW_pick [0, 1, 2] rfl hJ8
              · rw [if_pos c9] at j8
                refine AW_go okX6_tell 5 ?_
                refine And.intro (sv_K0 hs ho) (Exists.intro _ (And.intro (sv_A hs ho 3 2) ?_))
                refine Exists.intro 5 (And.intro (sv_K hs ho 2) (And.intro (am_vp_ok b6) ?_))
                obtain rfl := am_i1 j8
                exact AW_pick [0, 1, 2] rfl hJ8
            refine AW_go okX6_tell 8 ?_
            refine And.intro (sv_K0 hs ho) (Exists.intro _ (And.intro (sv_A hs ho 2 1) ?_))
            refine Exists.intro 5 (And.intro (sv_K hs ho 1) (And.intro (am_vp_ok b6) ?_))
            refine Exists.intro 5 (And.intro (sv_K hs ho 1) (And.intro (am_vp_ok b6) ?_))
            obtain rfl := am_i1 j4
            exact AW_pick [0, 1, 2] rfl hJ4
        refine AW_go okX6_tell 2 ?_
        refine AW_pick (lv' := [(0, .ref o), (1, .int a1), (2, .int (x2i + Int32.ofInt 1))]) [1, 2, 0] rfl ?_
        exact ih o a1 (x2i + Int32.ofInt 1) h3 _ _ ho hs hf
def f_X6_tell (n : Nat) (o : Nat) (a1 : Int32) (h : am_H) : Option (Unit × am_H) := bif am_vp a1 2000 then (Option.bind ((if ((am_I h (o + 4) (Int32.toNatClampNeg a1)) &&& (Int32.ofInt 32)) = 0 then some (am_sI h (o + 4) (Int32.toNatClampNeg a1) ((am_I h (o + 4) (Int32.toNatClampNeg a1)) ||| (Int32.ofInt 8))) else some h)) fun h2 => (g_X6_tell n 0 o a1 (Int32.ofInt 0) h2)) else none
set_option maxRecDepth 100000 in
theorem s_X6_tell (n : Nat) (o : Nat) (a1 : Int32) (h : am_H) (ho : o = 37 ∨ o = 37) (hs : am_stat h) {v : Unit} {h' : am_H} (hf : f_X6_tell n o a1 h = some (v, h')) : am_stat h' := by
  unfold f_X6_tell at hf
  obtain ⟨b1, hf⟩ := am_bis hf
  obtain ⟨h2, j3, hf⟩ := am_bnd hf
  have hs0 := hs
  have hs : am_stat h2 := by
    have hs := hs0
    by_cases c4 : ((am_I h (o + 4) (Int32.toNatClampNeg a1)) &&& (Int32.ofInt 32)) = 0
    · rw [if_pos c4] at j3
      obtain rfl := am_i1 j3
      exact hs
    · rw [if_neg c4] at j3
      obtain rfl := am_i1 j3
      exact hs
  exact (m_X6_tell n) o a1 (Int32.ofInt 0) h2 _ _ ho hs hf
set_option maxRecDepth 100000 in
theorem c_X6_tell (n : Nat) (o : Nat) (a1 : Int32) (h : am_H) (ho : o = 37 ∨ o = 37) (hs : am_stat h) {v : Unit} {h' : am_H} (hf : f_X6_tell n o a1 h = some (v, h')) : AMet mX6_tell (rX6_tell 0 0) (fun r h2 => r = none ∧ h2 = h') [.ref o, .int a1] h := by
  unfold f_X6_tell at hf
  obtain ⟨b1, hf⟩ := am_bis hf
  refine AW_go okX6_tell 6 ?_
  refine And.intro (sv_K0 hs ho) (Exists.intro _ (And.intro (sv_A hs ho 6 4) ?_))
  refine Exists.intro 2000 (And.intro (sv_K hs ho 4) (And.intro (am_vp_ok b1) ?_))
  obtain ⟨h2, j3, hf⟩ := am_bnd hf
  have hs0 := hs
  have hs : am_stat h2 := by
    have hs := hs0
    by_cases c4 : ((am_I h (o + 4) (Int32.toNatClampNeg a1)) &&& (Int32.ofInt 32)) = 0
    · rw [if_pos c4] at j3
      obtain rfl := am_i1 j3
      exact hs
    · rw [if_neg c4] at j3
      obtain rfl := am_i1 j3
      exact hs
  refine am_cut (P := AW mX6_tell (rX6_tell 0 0) (fun r h2 => r = none ∧ h2 = h') 23 [(0, .ref o), (1, .int a1)] [] h2 0 0) (fun hJ3 => ?_) ?_
  · have hs := hs0
    refine AW_go okX6_tell 1 ?_
    refine And.intro (fun c4 => ?_) (fun c4 => ?_)
    · rw [if_neg c4] at j3
      obtain rfl := am_i1 j3
      exact AW_pick [0, 1] rfl hJ3
    · rw [if_pos c4] at j3
      refine AW_go okX6_tell 8 ?_
      refine And.intro (sv_K0 hs ho) (Exists.intro _ (And.intro (sv_A hs ho 6 4) ?_))
      refine Exists.intro 2000 (And.intro (sv_K hs ho 4) (And.intro (am_vp_ok b1) ?_))
      refine Exists.intro 2000 (And.intro (sv_K hs ho 4) (And.intro (am_vp_ok b1) ?_))
      obtain rfl := am_i1 j3
      exact AW_pick [0, 1] rfl hJ3
  refine AW_go okX6_tell 2 ?_
  refine AW_pick (lv' := [(0, .ref o), (1, .int a1), (2, .int (Int32.ofInt 0))]) [1, 2, 0] rfl ?_
  exact (l_X6_tell n) o a1 (Int32.ofInt 0) h2 _ _ ho hs hf
def f_X7_placeIn (a0 : Int64) (a2 : Int32) (h : am_H) : Option (Int32 × am_H) := some (((Int64.toInt32 ((Int64.toUInt64 a0 >>> ((Int32.toInt64 ((Int32.ofInt 4) * a2)).toUInt64 &&& Int64.toUInt64 63)).toInt64)) &&& (Int32.ofInt 15)), h)
set_option maxRecDepth 100000 in
theorem s_X7_placeIn (a0 : Int64) (a2 : Int32) (h : am_H) (hs : am_stat h) {v : Int32} {h' : am_H} (hf : f_X7_placeIn a0 a2 h = some (v, h')) : am_stat h' := by
  unfold f_X7_placeIn at hf
  obtain ⟨rfl, rfl⟩ := am_i2 hf
  exact hs
set_option maxRecDepth 100000 in
theorem c_X7_placeIn (a0 : Int64) (a2 : Int32) (h : am_H) (hs : am_stat h) {v : Int32} {h' : am_H} (hf : f_X7_placeIn a0 a2 h = some (v, h')) : AMet mX7_placeIn (rX7_placeIn 0 0) (fun r h2 => r = some (.int v) ∧ h2 = h') [.long a0, .int a2] h := by
  unfold f_X7_placeIn at hf
  refine AW_go okX7_placeIn 9 ?_
  obtain ⟨rfl, rfl⟩ := am_i2 hf
  exact And.intro ⟨(Nat.le_of_ble_eq_true rfl), (Nat.le_of_ble_eq_true rfl)⟩ (And.intro (Or.inl rfl) ⟨rfl, rfl⟩)
def f_X7_contentIn (a0 : Int64) (a2 : Int32) (h : am_H) : Option (Int32 × am_H) := some (((Int64.toInt32 ((Int64.toUInt64 a0 >>> ((Int32.toInt64 ((Int32.ofInt 12) + ((Int32.ofInt 8) * a2))).toUInt64 &&& Int64.toUInt64 63)).toInt64)) &&& (Int32.ofInt 255)), h)
set_option maxRecDepth 100000 in
theorem s_X7_contentIn (a0 : Int64) (a2 : Int32) (h : am_H) (hs : am_stat h) {v : Int32} {h' : am_H} (hf : f_X7_contentIn a0 a2 h = some (v, h')) : am_stat h' := by
  unfold f_X7_contentIn at hf
  obtain ⟨rfl, rfl⟩ := am_i2 hf
  exact hs
set_option maxRecDepth 100000 in
theorem c_X7_contentIn (a0 : Int64) (a2 : Int32) (h : am_H) (hs : am_stat h) {v : Int32} {h' : am_H} (hf : f_X7_contentIn a0 a2 h = some (v, h')) : AMet mX7_contentIn (rX7_contentIn 0 0) (fun r h2 => r = some (.int v) ∧ h2 = h') [.long a0, .int a2] h := by
  unfold f_X7_contentIn at hf
  refine AW_go okX7_contentIn 11 ?_
  obtain ⟨rfl, rfl⟩ := am_i2 hf
  exact And.intro ⟨(Nat.le_of_ble_eq_true rfl), (Nat.le_of_ble_eq_true rfl)⟩ (And.intro (Or.inl rfl) ⟨rfl, rfl⟩)
def f_X7_withContent (a0 : Int64) (a2 : Int32) (a3 : Int32) (h : am_H) : Option (Int64 × am_H) := some (((a0 &&& (((255 : Int64) <<< (Int32.toInt64 ((Int32.ofInt 12) + ((Int32.ofInt 8) * a2)) &&& 63)) ^^^ (-1 : Int64))) ||| ((Int32.toInt64 a3) <<< (Int32.toInt64 ((Int32.ofInt 12) + ((Int32.ofInt 8) * a2)) &&& 63))), h)
set_option maxRecDepth 100000 in
theorem s_X7_withContent (a0 : Int64) (a2 : Int32) (a3 : Int32) (h : am_H) (hs : am_stat h) {v : Int64} {h' : am_H} (hf : f_X7_withContent a0 a2 a3 h = some (v, h')) : am_stat h' := by
  unfold f_X7_withContent at hf
  obtain ⟨rfl, rfl⟩ := am_i2 hf
  exact hs
set_option maxRecDepth 100000 in
theorem c_X7_withContent (a0 : Int64) (a2 : Int32) (a3 : Int32) (h : am_H) (hs : am_stat h) {v : Int64} {h' : am_H} (hf : f_X7_withContent a0 a2 a3 h = some (v, h')) : AMet mX7_withContent (rX7_withContent 0 0) (fun r h2 => r = some (.long v) ∧ h2 = h') [.long a0, .int a2, .int a3] h := by
  unfold f_X7_withContent at hf
  refine AW_go okX7_withContent 19 ?_
  obtain ⟨rfl, rfl⟩ := am_i2 hf
  exact And.intro ⟨(Nat.le_of_ble_eq_true rfl), (Nat.le_of_ble_eq_true rfl)⟩ (And.intro rfl ⟨rfl, rfl⟩)
def f_X7_load (a0 : Int32) (a1 : Int32) (h : am_H) : Option (Int32 × am_H) := (if a0 = (Int32.ofInt 1) then some (((((a1 &&& (Int32.ofInt 3)) + (((Int32.toUInt32 a1 >>> (Int32.toUInt32 (Int32.ofInt 2) &&& Int32.toUInt32 31)).toInt32) &&& (Int32.ofInt 3))) + (((Int32.toUInt32 a1 >>> (Int32.toUInt32 (Int32.ofInt 4) &&& Int32.toUInt32 31)).toInt32) &&& (Int32.ofInt 3))) + ((Int32.toUInt32 a1 >>> (Int32.toUInt32 (Int32.ofInt 6) &&& Int32.toUInt32 31)).toInt32)), h) else some ((a1 &&& (Int32.ofInt 3)), h))
set_option maxRecDepth 100000 in
theorem s_X7_load (a0 : Int32) (a1 : Int32) (h : am_H) (hs : am_stat h) {v : Int32} {h' : am_H} (hf : f_X7_load a0 a1 h = some (v, h')) : am_stat h' := by
  unfold f_X7_load at hf
  by_cases c1 : a0 = (Int32.ofInt 1)
  · rw [if_pos c1] at hf
    obtain ⟨rfl, rfl⟩ := am_i2 hf
    exact hs
  · rw [if_neg c1] at hf
    obtain ⟨rfl, rfl⟩ := am_i2 hf
    exact hs
set_option maxRecDepth 100000 in
theorem c_X7_load (a0 : Int32) (a1 : Int32) (h : am_H) (hs : am_stat h) {v : Int32} {h' : am_H} (hf : f_X7_load a0 a1 h = some (v, h')) : AMet mX7_load (rX7_load 0 0) (fun r h2 => r = some (.int v) ∧ h2 = h') [.int a0, .int a1] h := by
  unfold f_X7_load at hf
  refine AW_go okX7_load 3 ?_
  refine And.intro (fun c1 => ?_) (fun c1 => ?_)
  · rw [if_pos c1] at hf
    refine AW_go okX7_load 20 ?_
    obtain ⟨rfl, rfl⟩ := am_i2 hf
    exact And.intro ⟨(Nat.le_of_ble_eq_true rfl), (Nat.le_of_ble_eq_true rfl)⟩ (And.intro (Or.inl rfl) ⟨rfl, rfl⟩)
  · rw [if_neg c1] at hf
    refine AW_go okX7_load 4 ?_
    obtain ⟨rfl, rfl⟩ := am_i2 hf
    exact And.intro ⟨(Nat.le_of_ble_eq_true rfl), (Nat.le_of_ble_eq_true rfl)⟩ (And.intro (Or.inl rfl) ⟨rfl, rfl⟩)
def f_X7_canTake (a0 : Int32) (a1 : Int32) (a2 : Int32) (h : am_H) : Option (Int32 × am_H) := (if a0 = (Int32.ofInt 1) then Option.bind ((if (((Int32.toUInt32 a1 >>> (Int32.toUInt32 ((Int32.ofInt 2) * a2) &&& Int32.toUInt32 31)).toInt32) &&& (Int32.ofInt 3)) = 0 then some (Int32.ofInt 0) else some (Int32.ofInt 1))) fun y57 => (bif am_b01 y57 then (some (y57, h)) else none) else Option.bind ((if (a1 &&& (Int32.ofInt 3)) = 0 then some (Int32.ofInt 0) else (if (((Int32.toUInt32 a1 >>> (Int32.toUInt32 (Int32.ofInt 2) &&& Int32.toUInt32 31)).toInt32) &&& (Int32.ofInt 3)) = a2 then some (Int32.ofInt 1) else some (Int32.ofInt 0)))) fun y2 => (bif am_b01 y2 then (some (y2, h)) else none))
set_option maxRecDepth 100000 in
theorem s_X7_canTake (a0 : Int32) (a1 : Int32) (a2 : Int32) (h : am_H) (hs : am_stat h) {v : Int32} {h' : am_H} (hf : f_X7_canTake a0 a1 a2 h = some (v, h')) : am_stat h' := by
  unfold f_X7_canTake at hf
  by_cases c1 : a0 = (Int32.ofInt 1)
  · rw [if_pos c1] at hf
    obtain ⟨y2, j3, hf⟩ := am_bnd hf
    obtain ⟨b55, hf⟩ := am_bis hf
    obtain ⟨rfl, rfl⟩ := am_i2 hf
    exact hs
  · rw [if_neg c1] at hf
    obtain ⟨y56, j57, hf⟩ := am_bnd hf
    obtain ⟨b110, hf⟩ := am_bis hf
    obtain ⟨rfl, rfl⟩ := am_i2 hf
    exact hs
set_option maxRecDepth 100000 in
theorem c_X7_canTake (a0 : Int32) (a1 : Int32) (a2 : Int32) (h : am_H) (hs : am_stat h) {v : Int32} {h' : am_H} (hf : f_X7_canTake a0 a1 a2 h = some (v, h')) : AMet mX7_canTake (rX7_canTake 0 0) (fun r h2 => r = some (.int v) ∧ h2 = h') [.int a0, .int a1, .int a2] h := by
  unfold f_X7_canTake at hf
  refine AW_go okX7_canTake 3 ?_
  refine And.intro (fun c1 => ?_) (fun c1 => ?_)
  · rw [if_neg c1] at hf
    refine AW_go okX7_canTake 3 ?_
    obtain ⟨y2, j3, hf⟩ := am_bnd hf
    refine am_cut (P := AW mX7_canTake (rX7_canTake 0 0) (fun r h2 => r = some (.int v) ∧ h2 = h') 41 [(0, .int a0), (1, .int a1), (2, .int a2)] [.int y2] h 0 0) (fun hJ3 => ?_) ?_
    · have hs := hs
      refine AW_go okX7_canTake 1 ?_
      refine And.intro (fun c4 => ?_) (fun c4 => ?_)
      · rw [if_pos c4] at j3
        refine AW_go okX7_canTake 1 ?_
        obtain rfl := am_i1 j3
        exact AW_pick [0, 1, 2] rfl hJ3
      · rw [if_neg c4] at j3
        refine AW_go okX7_canTake 7 ?_
        refine And.intro (fun c5 => ?_) (fun c5 => ?_)
        · rw [if_neg c5] at j3
          refine AW_go okX7_canTake 1 ?_
          obtain rfl := am_i1 j3
          exact AW_pick [0, 1, 2] rfl hJ3
        · rw [if_pos c5] at j3
          refine AW_go okX7_canTake 2 ?_
          obtain rfl := am_i1 j3
          exact AW_pick [0, 1, 2] rfl hJ3
    obtain ⟨b56, hf⟩ := am_bis hf
    refine AW_go okX7_canTake 1 ?_
    obtain ⟨rfl, rfl⟩ := am_i2 hf
    exact And.intro ⟨(Nat.le_of_ble_eq_true rfl), (Nat.le_of_ble_eq_true rfl)⟩ (And.intro (Or.inr ⟨rfl, am_b01_ok b56⟩) ⟨rfl, rfl⟩)
  · rw [if_pos c1] at hf
    refine AW_go okX7_canTake 7 ?_
    obtain ⟨y57, j58, hf⟩ := am_bnd hf
    refine am_cut (P := AW mX7_canTake (rX7_canTake 0 0) (fun r h2 => r = some (.int v) ∧ h2 = h') 20 [(0, .int a0), (1, .int a1), (2, .int a2)] [.int y57] h 0 0) (fun hJ58 => ?_) ?_
    · have hs := hs
      refine AW_go okX7_canTake 1 ?_
      refine And.intro (fun c59 => ?_) (fun c59 => ?_)
      · rw [if_pos c59] at j58
        refine AW_go okX7_canTake 1 ?_
        obtain rfl := am_i1 j58
        exact AW_pick [0, 1, 2] rfl hJ58
      · rw [if_neg c59] at j58
        refine AW_go okX7_canTake 2 ?_
        obtain rfl := am_i1 j58
        exact AW_pick [0, 1, 2] rfl hJ58
    obtain ⟨b110, hf⟩ := am_bis hf
    refine AW_go okX7_canTake 1 ?_
    obtain ⟨rfl, rfl⟩ := am_i2 hf
    exact And.intro ⟨(Nat.le_of_ble_eq_true rfl), (Nat.le_of_ble_eq_true rfl)⟩ (And.intro (Or.inr ⟨rfl, am_b01_ok b110⟩) ⟨rfl, rfl⟩)
def f_X7_taken (a0 : Int32) (a1 : Int32) (a2 : Int32) (h : am_H) : Option (Int32 × am_H) := Option.bind ((if a0 = (Int32.ofInt 1) then some (a1 - ((Int32.ofInt 1) <<< (((Int32.ofInt 2) * a2) &&& 31))) else some ((((Int32.toUInt32 a1 >>> (Int32.toUInt32 (Int32.ofInt 4) &&& Int32.toUInt32 31)).toInt32) <<< ((Int32.ofInt 2) &&& 31)) ||| ((a1 &&& (Int32.ofInt 3)) - (Int32.ofInt 1))))) fun y1 => (some (y1, h))
set_option maxRecDepth 100000 in
theorem s_X7_taken (a0 : Int32) (a1 : Int32) (a2 : Int32) (h : am_H) (hs : am_stat h) {v : Int32} {h' : am_H} (hf : f_X7_taken a0 a1 a2 h = some (v, h')) : am_stat h' := by
  unfold f_X7_taken at hf
  obtain ⟨y1, j2, hf⟩ := am_bnd hf
  obtain ⟨rfl, rfl⟩ := am_i2 hf
  exact hs
set_option maxRecDepth 100000 in
theorem c_X7_taken (a0 : Int32) (a1 : Int32) (a2 : Int32) (h : am_H) (hs : am_stat h) {v : Int32} {h' : am_H} (hf : f_X7_taken a0 a1 a2 h = some (v, h')) : AMet mX7_taken (rX7_taken 0 0) (fun r h2 => r = some (.int v) ∧ h2 = h') [.int a0, .int a1, .int a2] h := by
  unfold f_X7_taken at hf
  refine AW_go okX7_taken 2 ?_
  obtain ⟨y1, j2, hf⟩ := am_bnd hf
  refine am_cut (P := AW mX7_taken (rX7_taken 0 0) (fun r h2 => r = some (.int v) ∧ h2 = h') 26 [(0, .int a0), (1, .int a1), (2, .int a2)] [.int y1] h 0 0) (fun hJ2 => ?_) ?_
  · have hs := hs
    refine AW_go okX7_taken 1 ?_
    refine And.intro (fun c3 => ?_) (fun c3 => ?_)
    · rw [if_neg c3] at j2
      refine AW_go okX7_taken 11 ?_
      obtain rfl := am_i1 j2
      exact AW_pick [0, 1, 2] rfl hJ2
    · rw [if_pos c3] at j2
      refine AW_go okX7_taken 8 ?_
      obtain rfl := am_i1 j2
      exact AW_pick [0, 1, 2] rfl hJ2
  refine AW_go okX7_taken 1 ?_
  obtain ⟨rfl, rfl⟩ := am_i2 hf
  exact And.intro ⟨(Nat.le_of_ble_eq_true rfl), (Nat.le_of_ble_eq_true rfl)⟩ (And.intro (Or.inl rfl) ⟨rfl, rfl⟩)
def f_X7_put (a0 : Int32) (a1 : Int32) (a2 : Int32) (h : am_H) : Option (Int32 × am_H) := Option.bind ((if a0 = (Int32.ofInt 1) then some (a1 + ((Int32.ofInt 1) <<< (((Int32.ofInt 2) * a2) &&& 31))) else some ((a1 + (Int32.ofInt 1)) + (a2 <<< (((Int32.ofInt 2) + ((Int32.ofInt 2) * (a1 &&& (Int32.ofInt 3)))) &&& 31))))) fun y1 => (some (y1, h))
set_option maxRecDepth 100000 in
theorem s_X7_put (a0 : Int32) (a1 : Int32) (a2 : Int32) (h : am_H) (hs : am_stat h) {v : Int32} {h' : am_H} (hf : f_X7_put a0 a1 a2 h = some (v, h')) : am_stat h' := by
  unfold f_X7_put at hf
  obtain ⟨y1, j2, hf⟩ := am_bnd hf
  obtain ⟨rfl, rfl⟩ := am_i2 hf
  exact hs
set_option maxRecDepth 100000 in
theorem c_X7_put (a0 : Int32) (a1 : Int32) (a2 : Int32) (h : am_H) (hs : am_stat h) {v : Int32} {h' : am_H} (hf : f_X7_put a0 a1 a2 h = some (v, h')) : AMet mX7_put (rX7_put 0 0) (fun r h2 => r = some (.int v) ∧ h2 = h') [.int a0, .int a1, .int a2] h := by
  unfold f_X7_put at hf
  refine AW_go okX7_put 2 ?_
  obtain ⟨y1, j2, hf⟩ := am_bnd hf
  refine am_cut (P := AW mX7_put (rX7_put 0 0) (fun r h2 => r = some (.int v) ∧ h2 = h') 28 [(0, .int a0), (1, .int a1), (2, .int a2)] [.int y1] h 0 0) (fun hJ2 => ?_) ?_
  · have hs := hs
    refine AW_go okX7_put 1 ?_
    refine And.intro (fun c3 => ?_) (fun c3 => ?_)
    · rw [if_neg c3] at j2
      refine AW_go okX7_put 13 ?_
      obtain rfl := am_i1 j2
      exact AW_pick [0, 1, 2] rfl hJ2
    · rw [if_pos c3] at j2
      refine AW_go okX7_put 8 ?_
      obtain rfl := am_i1 j2
      exact AW_pick [0, 1, 2] rfl hJ2
  refine AW_go okX7_put 1 ?_
  obtain ⟨rfl, rfl⟩ := am_i2 hf
  exact And.intro ⟨(Nat.le_of_ble_eq_true rfl), (Nat.le_of_ble_eq_true rfl)⟩ (And.intro (Or.inl rfl) ⟨rfl, rfl⟩)
def f_X7_listStep (a1 : Int32) (a2 : Int64) (h : am_H) : Option (Unit × am_H) := bif am_vp (am_I h 28 5) 90 then (bif am_vp (am_I (am_sI h 31 (Int32.toNatClampNeg (am_I h 28 5)) a1) 28 5) 90 then (some ((), (am_sI (am_sJ (am_sI h 31 (Int32.toNatClampNeg (am_I h 28 5)) a1) 32 (Int32.toNatClampNeg (am_I (am_sI h 31 (Int32.toNatClampNeg (am_I h 28 5)) a1) 28 5)) a2) 28 5 ((am_I (am_sJ (am_sI h 31 (Int32.toNatClampNeg (am_I h 28 5)) a1) 32 (Int32.toNatClampNeg (am_I (am_sI h 31 (Int32.toNatClampNeg (am_I h 28 5)) a1) 28 5)) a2) 28 5) + (Int32.ofInt 1))))) else none) else none
set_option maxRecDepth 100000 in
theorem s_X7_listStep (a1 : Int32) (a2 : Int64) (h : am_H) (hs : am_stat h) {v : Unit} {h' : am_H} (hf : f_X7_listStep a1 a2 h = some (v, h')) : am_stat h' := by
  unfold f_X7_listStep at hf
  obtain ⟨b1, hf⟩ := am_bis hf
  obtain ⟨b2, hf⟩ := am_bis hf
  obtain ⟨rfl, rfl⟩ := am_i2 hf
  exact hs
set_option maxRecDepth 100000 in
theorem c_X7_listStep (a1 : Int32) (a2 : Int64) (h : am_H) (hs : am_stat h) {v : Unit} {h' : am_H} (hf : f_X7_listStep a1 a2 h = some (v, h')) : AMet mX7_listStep (rX7_listStep 0 0) (fun r h2 => r = none ∧ h2 = h') [.ref 28, .int a1, .long a2] h := by
  unfold f_X7_listStep at hf
  obtain ⟨b1, hf⟩ := am_bis hf
  obtain ⟨b2, hf⟩ := am_bis hf
  refine AW_go okX7_listStep 19 ?_
  refine And.intro (sK hs 28) (Exists.intro _ (And.intro (sA hs 28 3) ?_))
  refine And.intro (sK hs 28) ?_
  refine Exists.intro 90 (And.intro (sK hs 31) (And.intro (am_vp_ok b1) ?_))
  refine And.intro (sK hs 28) (Exists.intro _ (And.intro (sA hs 28 4) ?_))
  refine And.intro (sK hs 28) ?_
  refine Exists.intro 90 (And.intro (sK hs 32) (And.intro (am_vp_ok b2) ?_))
  refine And.intro (sK hs 28) ?_
  refine And.intro (sK hs 28) ?_
  obtain ⟨rfl, rfl⟩ := am_i2 hf
  exact And.intro ⟨(Nat.le_of_ble_eq_true rfl), (Nat.le_of_ble_eq_true rfl)⟩ (And.intro rfl ⟨rfl, rfl⟩)
def f_X7_mayAt (a1 : Int64) (a3 : Int32) (h : am_H) : Option (Int32 × am_H) := am_b2 (f_X7_placeIn a1 a3 h) fun r1 h2 => (bif am_vp (((Int32.ofInt 16) * a3) + r1) 48 then (some ((am_I h2 34 (Int32.toNatClampNeg (((Int32.ofInt 16) * a3) + r1))), h2)) else none)
set_option maxRecDepth 100000 in
theorem s_X7_mayAt (a1 : Int64) (a3 : Int32) (h : am_H) (hs : am_stat h) {v : Int32} {h' : am_H} (hf : f_X7_mayAt a1 a3 h = some (v, h')) : am_stat h' := by
  unfold f_X7_mayAt at hf
  obtain ⟨r1, h2, e3, hf⟩ := am_b2_ok hf
  have hs := s_X7_placeIn a1 a3 h hs e3
  obtain ⟨b4, hf⟩ := am_bis hf
  obtain ⟨rfl, rfl⟩ := am_i2 hf
  exact hs
set_option maxRecDepth 100000 in
theorem c_X7_mayAt (a1 : Int64) (a3 : Int32) (h : am_H) (hs : am_stat h) {v : Int32} {h' : am_H} (hf : f_X7_mayAt a1 a3 h = some (v, h')) : AMet mX7_mayAt (rX7_mayAt 0 0) (fun r h2 => r = some (.int v) ∧ h2 = h') [.ref 28, .long a1, .int a3] h := by
  unfold f_X7_mayAt at hf
  refine AW_go okX7_mayAt 7 ?_
  refine And.intro (sK hs 28) (Exists.intro _ (And.intro (sA hs 28 7) ?_))
  obtain ⟨r1, h2, e3, hf⟩ := am_b2_ok hf
  refine AW_callS (As := [.long a1, .int a3]) (R' := rX7_placeIn 0 0) (okX7_mayAt.1 10 _ _ rfl) lkX7_placeIn (Or.inl kX7_110) rfl (Nat.le_of_ble_eq_true rfl) ⟨by decide, by decide⟩ ⟨(Nat.le_of_ble_eq_true rfl), (Nat.le_of_ble_eq_true rfl)⟩ (Nat.le_of_ble_eq_true rfl) (c_X7_placeIn a1 a3 h hs e3) (fun r h' hq => ?_)
  obtain ⟨rfl, hq⟩ := hq
  replace hq := hq.symm
  subst hq
  have hs := s_X7_placeIn a1 a3 h hs e3
  obtain ⟨b4, hf⟩ := am_bis hf
  refine AW_go okX7_mayAt 3 ?_
  refine Exists.intro 48 (And.intro (sK hs 34) (And.intro (am_vp_ok b4) ?_))
  obtain ⟨rfl, rfl⟩ := am_i2 hf
  exact And.intro ⟨(Nat.le_of_ble_eq_true rfl), (Nat.le_of_ble_eq_true rfl)⟩ (And.intro (Or.inl rfl) ⟨rfl, rfl⟩)
def f_X8_blank (h : am_H) : Option (Int32 × am_H) := some ((am_I h 1 1), (am_sI h 1 1 (Int32.ofInt 0)))
set_option maxRecDepth 100000 in
theorem s_X8_blank (h : am_H) (hs : am_stat h) {v : Int32} {h' : am_H} (hf : f_X8_blank h = some (v, h')) : am_stat h' := by
  unfold f_X8_blank at hf
  obtain ⟨rfl, rfl⟩ := am_i2 hf
  exact hs
set_option maxRecDepth 100000 in
theorem c_X8_blank (h : am_H) (hs : am_stat h) {v : Int32} {h' : am_H} (hf : f_X8_blank h = some (v, h')) : AMet mX8_blank (rX8_blank 0 0) (fun r h2 => r = some (.int v) ∧ h2 = h') [.ref 0] h := by
  unfold f_X8_blank at hf
  refine AW_go okX8_blank 10 ?_
  refine And.intro (sK hs 0) (Exists.intro _ (And.intro (sA hs 0 0) ?_))
  refine And.intro (sK hs 1) ?_
  refine And.intro (sK hs 0) (Exists.intro _ (And.intro (sA hs 0 0) ?_))
  refine And.intro (sK hs 1) ?_
  obtain ⟨rfl, rfl⟩ := am_i2 hf
  exact And.intro ⟨(Nat.le_of_ble_eq_true rfl), (Nat.le_of_ble_eq_true rfl)⟩ (And.intro (Or.inl rfl) ⟨rfl, rfl⟩)
def f_X8_with (a0 : Int64) (a2 : Int64) (h : am_H) : Option (Int64 × am_H) := some ((((31 : Int64) * a0) + a2), h)
set_option maxRecDepth 100000 in
theorem s_X8_with (a0 : Int64) (a2 : Int64) (h : am_H) (hs : am_stat h) {v : Int64} {h' : am_H} (hf : f_X8_with a0 a2 h = some (v, h')) : am_stat h' := by
  unfold f_X8_with at hf
  obtain ⟨rfl, rfl⟩ := am_i2 hf
  exact hs
set_option maxRecDepth 100000 in
theorem c_X8_with (a0 : Int64) (a2 : Int64) (h : am_H) (hs : am_stat h) {v : Int64} {h' : am_H} (hf : f_X8_with a0 a2 h = some (v, h')) : AMet mX8_with (rX8_with 0 0) (fun r h2 => r = some (.long v) ∧ h2 = h') [.long a0, .long a2] h := by
  unfold f_X8_with at hf
  refine AW_go okX8_with 6 ?_
  obtain ⟨rfl, rfl⟩ := am_i2 hf
  exact And.intro ⟨(Nat.le_of_ble_eq_true rfl), (Nat.le_of_ble_eq_true rfl)⟩ (And.intro rfl ⟨rfl, rfl⟩)
def f_X8_isBook (a1 : Int32) (h : am_H) : Option (Int32 × am_H) := Option.bind ((if a1 < 0 then some (Int32.ofInt 0) else (if (am_I h 0 5) ≤ a1 then some (Int32.ofInt 0) else some (Int32.ofInt 1)))) fun y1 => (bif am_b01 y1 then (some (y1, h)) else none)
set_option maxRecDepth 100000 in
theorem s_X8_isBook (a1 : Int32) (h : am_H) (hs : am_stat h) {v : Int32} {h' : am_H} (hf : f_X8_isBook a1 h = some (v, h')) : am_stat h' := by
  unfold f_X8_isBook at hf
  obtain ⟨y1, j2, hf⟩ := am_bnd hf
  obtain ⟨b55, hf⟩ := am_bis hf
  obtain ⟨rfl, rfl⟩ := am_i2 hf
  exact hs
set_option maxRecDepth 100000 in
theorem c_X8_isBook (a1 : Int32) (h : am_H) (hs : am_stat h) {v : Int32} {h' : am_H} (hf : f_X8_isBook a1 h = some (v, h')) : AMet mX8_isBook (rX8_isBook 0 0) (fun r h2 => r = some (.int v) ∧ h2 = h') [.ref 0, .int a1] h := by
  unfold f_X8_isBook at hf
  refine AW_go okX8_isBook 1 ?_
  obtain ⟨y1, j2, hf⟩ := am_bnd hf
  refine am_cut (P := AW mX8_isBook (rX8_isBook 0 0) (fun r h2 => r = some (.int v) ∧ h2 = h') 17 [(0, .ref 0), (1, .int a1)] [.int y1] h 0 0) (fun hJ2 => ?_) ?_
  · have hs := hs
    refine AW_go okX8_isBook 1 ?_
    refine And.intro (fun c3 => ?_) (fun c3 => ?_)
    · rw [if_pos c3] at j2
      refine AW_go okX8_isBook 1 ?_
      obtain rfl := am_i1 j2
      exact AW_pick [0, 1] rfl hJ2
    · rw [if_neg c3] at j2
      refine AW_go okX8_isBook 4 ?_
      refine And.intro (sK hs 0) ?_
      refine And.intro (fun c4 => ?_) (fun c4 => ?_)
      · rw [if_pos c4] at j2
        refine AW_go okX8_isBook 1 ?_
        obtain rfl := am_i1 j2
        exact AW_pick [0, 1] rfl hJ2
      · rw [if_neg c4] at j2
        refine AW_go okX8_isBook 2 ?_
        obtain rfl := am_i1 j2
        exact AW_pick [0, 1] rfl hJ2
  obtain ⟨b55, hf⟩ := am_bis hf
  refine AW_go okX8_isBook 1 ?_
  obtain ⟨rfl, rfl⟩ := am_i2 hf
  exact And.intro ⟨(Nat.le_of_ble_eq_true rfl), (Nat.le_of_ble_eq_true rfl)⟩ (And.intro (Or.inr ⟨rfl, am_b01_ok b55⟩) ⟨rfl, rfl⟩)
