def g_X6_firstBad : Nat → Nat → Nat → Int32 → am_H → Option (Int32 × am_H)
  | 0, _, _, _, _ => none
  | n + 1, _, o, x1i, h => (if (am_I h o 0) ≤ x1i then some ((Int32.ofInt (-1)), h) else bif am_vp x1i 2000 then ((if ((am_I h (o + 4) (Int32.toNatClampNeg x1i)) &&& (Int32.ofInt 7)) = 0 then g_X6_firstBad n 0 o (x1i + Int32.ofInt 1) h else some (x1i, h))) else none)
set_option maxRecDepth 100000 in
set_option maxHeartbeats 4000000 in
theorem m_X6_firstBad (n : Nat) : (∀ (o : Nat) (x1i : Int32) (h : am_H) (v : Int32) (h' : am_H), (o = 37 ∨ o = 49) → am_stat h → g_X6_firstBad n 0 o x1i h = some (v, h') → am_stat h') := by
  induction n with
  | zero => exact fun o x1i h v h' ho hs hf => (by cases hf)
  | succ n ih =>
    skip
    · intro o x1i h v h' ho hs hf
      have hf : ((if (am_I h o 0) ≤ x1i then some ((Int32.ofInt (-1)), h) else bif am_vp x1i 2000 then ((if ((am_I h (o + 4) (Int32.toNatClampNeg x1i)) &&& (Int32.ofInt 7)) = 0 then g_X6_firstBad n 0 o (x1i + Int32.ofInt 1) h else some (x1i, h))) else none)) = some (v, h') := hf
      by_cases c1 : (am_I h o 0) ≤ x1i
      · rw [if_pos c1] at hf
        cases hf
        exact hs
      · rw [if_neg c1] at hf
        obtain ⟨b2, hf⟩ := am_bis hf
        by_cases c3 : ((am_I h (o + 4) (Int32.toNatClampNeg x1i)) &&& (Int32.ofInt 7)) = 0
        · rw [if_pos c3] at hf
          exact ih o (x1i + Int32.ofInt 1) h _ _ ho hs hf
        · rw [if_neg c3] at hf
          cases hf
          exact hs
set_option maxRecDepth 100000 in
set_option maxHeartbeats 4000000 in
theorem l_X6_firstBad (n : Nat) : (∀ (o : Nat) (x1i : Int32) (h : am_H) (v : Int32) (h' : am_H), (o = 37 ∨ o = 49) → am_stat h → g_X6_firstBad n 0 o x1i h = some (v, h') → AW mX6_firstBad (rX6_firstBad 0 0) (fun r h2 => r = some (.int v) ∧ h2 = h') 2 [(0, .ref o), (1, .int x1i)] [] h 0 0) := by
  induction n with
  | zero => exact fun o x1i h v h' ho hs hf => (by cases hf)
  | succ n ih =>
    skip
    · intro o x1i h v h' ho hs hf
      have hf : ((if (am_I h o 0) ≤ x1i then some ((Int32.ofInt (-1)), h) else bif am_vp x1i 2000 then ((if ((am_I h (o + 4) (Int32.toNatClampNeg x1i)) &&& (Int32.ofInt 7)) = 0 then g_X6_firstBad n 0 o (x1i + Int32.ofInt 1) h else some (x1i, h))) else none)) = some (v, h') := hf
      refine AW_go okX6_firstBad 4 ?_
      refine And.intro (sv_K0 hs ho) ?_
      refine And.intro (fun c1 => ?_) (fun c1 => ?_)
      · rw [if_pos c1] at hf
        refine AW_go okX6_firstBad 2 ?_
        cases hf
        exact And.intro ⟨(Nat.le_of_ble_eq_true rfl), (Nat.le_of_ble_eq_true rfl)⟩ (And.intro (Or.inl rfl) ⟨rfl, rfl⟩)
      · rw [if_neg c1] at hf
        obtain ⟨b2, hf⟩ := am_bis hf
        refine AW_go okX6_firstBad 7 ?_
        refine And.intro (sv_K0 hs ho) (Exists.intro _ (And.intro (sv_A hs ho 6 4) ?_))
        refine Exists.intro 2000 (And.intro (sv_K hs ho 4) (And.intro (am_vp_ok b2) ?_))
        refine And.intro (fun c3 => ?_) (fun c3 => ?_)
        · rw [if_pos c3] at hf
          refine AW_go okX6_firstBad 2 ?_
          refine AW_pick (lv' := [(0, .ref o), (1, .int (x1i + Int32.ofInt 1))]) [1, 0] rfl ?_
          exact ih o (x1i + Int32.ofInt 1) h _ _ ho hs hf
        · rw [if_neg c3] at hf
          refine AW_go okX6_firstBad 2 ?_
          cases hf
          exact And.intro ⟨(Nat.le_of_ble_eq_true rfl), (Nat.le_of_ble_eq_true rfl)⟩ (And.intro (Or.inl rfl) ⟨rfl, rfl⟩)
def f_X6_firstBad (n : Nat) (o : Nat) (h : am_H) : Option (Int32 × am_H) := g_X6_firstBad n 0 o (Int32.ofInt 0) h
set_option maxRecDepth 100000 in
theorem s_X6_firstBad (n : Nat) (o : Nat) (h : am_H) (ho : o = 37 ∨ o = 49) (hs : am_stat h) {v : Int32} {h' : am_H} (hf : f_X6_firstBad n o h = some (v, h')) : am_stat h' := by
  unfold f_X6_firstBad at hf
  exact (m_X6_firstBad n) o (Int32.ofInt 0) h _ _ ho hs hf
set_option maxRecDepth 100000 in
theorem c_X6_firstBad (n : Nat) (o : Nat) (h : am_H) (ho : o = 37 ∨ o = 49) (hs : am_stat h) {v : Int32} {h' : am_H} (hf : f_X6_firstBad n o h = some (v, h')) : AMet mX6_firstBad (rX6_firstBad 0 0) (fun r h2 => r = some (.int v) ∧ h2 = h') [.ref o] h := by
  unfold f_X6_firstBad at hf
  refine AW_go okX6_firstBad 2 ?_
  refine AW_pick (lv' := [(0, .ref o), (1, .int (Int32.ofInt 0))]) [1, 0] rfl ?_
  exact (l_X6_firstBad n) o (Int32.ofInt 0) h _ _ ho hs hf
def g_X6_slotOf : Nat → Nat → Nat → Int64 → Int32 → Int32 → am_H → Option (Int32 × am_H)
  | 0, _, _, _, _, _, _ => none
  | n + 1, _, o, a1, x3i, x4i, h => (if (Int32.ofInt 4096) ≤ x4i then some (x3i, h) else bif am_vp x3i 4096 then ((if (am_I h (o + 7) (Int32.toNatClampNeg x3i)) = 0 then some (x3i, h) else bif am_vp ((am_I h (o + 7) (Int32.toNatClampNeg x3i)) - (Int32.ofInt 1)) 2000 then ((if (lg_cmp (am_J h (o + 3) (Int32.toNatClampNeg ((am_I h (o + 7) (Int32.toNatClampNeg x3i)) - (Int32.ofInt 1)))) a1) = 0 then some (x3i, h) else g_X6_slotOf n 0 o a1 ((x3i + (Int32.ofInt 1)) &&& (Int32.ofInt 4095)) (x4i + Int32.ofInt 1) h)) else none)) else none)
set_option maxRecDepth 100000 in
set_option maxHeartbeats 4000000 in
theorem m_X6_slotOf (n : Nat) : (∀ (o : Nat) (a1 : Int64) (x3i : Int32) (x4i : Int32) (h : am_H) (v : Int32) (h' : am_H), (o = 37 ∨ o = 49) → am_stat h → g_X6_slotOf n 0 o a1 x3i x4i h = some (v, h') → am_stat h') := by
  induction n with
  | zero => exact fun o a1 x3i x4i h v h' ho hs hf => (by cases hf)
  | succ n ih =>
    skip
    · intro o a1 x3i x4i h v h' ho hs hf
      have hf : ((if (Int32.ofInt 4096) ≤ x4i then some (x3i, h) else bif am_vp x3i 4096 then ((if (am_I h (o + 7) (Int32.toNatClampNeg x3i)) = 0 then some (x3i, h) else bif am_vp ((am_I h (o + 7) (Int32.toNatClampNeg x3i)) - (Int32.ofInt 1)) 2000 then ((if (lg_cmp (am_J h (o + 3) (Int32.toNatClampNeg ((am_I h (o + 7) (Int32.toNatClampNeg x3i)) - (Int32.ofInt 1)))) a1) = 0 then some (x3i, h) else g_X6_slotOf n 0 o a1 ((x3i + (Int32.ofInt 1)) &&& (Int32.ofInt 4095)) (x4i + Int32.ofInt 1) h)) else none)) else none)) = some (v, h') := hf
      by_cases c1 : (Int32.ofInt 4096) ≤ x4i
      · rw [if_pos c1] at hf
        cases hf
        exact hs
      · rw [if_neg c1] at hf
        obtain ⟨b2, hf⟩ := am_bis hf
        by_cases c3 : (am_I h (o + 7) (Int32.toNatClampNeg x3i)) = 0
        · rw [if_pos c3] at hf
          cases hf
          exact hs
        · rw [if_neg c3] at hf
          obtain ⟨b4, hf⟩ := am_bis hf
          by_cases c5 : (lg_cmp (am_J h (o + 3) (Int32.toNatClampNeg ((am_I h (o + 7) (Int32.toNatClampNeg x3i)) - (Int32.ofInt 1)))) a1) = 0
          · rw [if_pos c5] at hf
            cases hf
            exact hs
          · rw [if_neg c5] at hf
            exact ih o a1 ((x3i + (Int32.ofInt 1)) &&& (Int32.ofInt 4095)) (x4i + Int32.ofInt 1) h _ _ ho hs hf
set_option maxRecDepth 100000 in
set_option maxHeartbeats 4000000 in
theorem l_X6_slotOf (n : Nat) : (∀ (o : Nat) (a1 : Int64) (x3i : Int32) (x4i : Int32) (h : am_H) (v : Int32) (h' : am_H), (o = 37 ∨ o = 49) → am_stat h → g_X6_slotOf n 0 o a1 x3i x4i h = some (v, h') → AW mX6_slotOf (rX6_slotOf 0 0) (fun r h2 => r = some (.int v) ∧ h2 = h') 13 [(0, .ref o), (1, .long a1), (3, .int x3i), (4, .int x4i)] [] h 0 0) := by
  induction n with
  | zero => exact fun o a1 x3i x4i h v h' ho hs hf => (by cases hf)
  | succ n ih =>
    skip
    · intro o a1 x3i x4i h v h' ho hs hf
      have hf : ((if (Int32.ofInt 4096) ≤ x4i then some (x3i, h) else bif am_vp x3i 4096 then ((if (am_I h (o + 7) (Int32.toNatClampNeg x3i)) = 0 then some (x3i, h) else bif am_vp ((am_I h (o + 7) (Int32.toNatClampNeg x3i)) - (Int32.ofInt 1)) 2000 then ((if (lg_cmp (am_J h (o + 3) (Int32.toNatClampNeg ((am_I h (o + 7) (Int32.toNatClampNeg x3i)) - (Int32.ofInt 1)))) a1) = 0 then some (x3i, h) else g_X6_slotOf n 0 o a1 ((x3i + (Int32.ofInt 1)) &&& (Int32.ofInt 4095)) (x4i + Int32.ofInt 1) h)) else none)) else none)) = some (v, h') := hf
      refine AW_go okX6_slotOf 3 ?_
      refine And.intro (fun c1 => ?_) (fun c1 => ?_)
      · rw [if_pos c1] at hf
        refine AW_go okX6_slotOf 2 ?_
        cases hf
        exact And.intro ⟨(Nat.le_of_ble_eq_true rfl), (Nat.le_of_ble_eq_true rfl)⟩ (And.intro (Or.inl rfl) ⟨rfl, rfl⟩)
      · rw [if_neg c1] at hf
        obtain ⟨b2, hf⟩ := am_bis hf
        refine AW_go okX6_slotOf 5 ?_
        refine And.intro (sv_K0 hs ho) (Exists.intro _ (And.intro (sv_A hs ho 9 7) ?_))
        refine Exists.intro 4096 (And.intro (sv_K hs ho 7) (And.intro (am_vp_ok b2) ?_))
        refine And.intro (fun c3 => ?_) (fun c3 => ?_)
        · rw [if_pos c3] at hf
          refine AW_go okX6_slotOf 2 ?_
          cases hf
          exact And.intro ⟨(Nat.le_of_ble_eq_true rfl), (Nat.le_of_ble_eq_true rfl)⟩ (And.intro (Or.inl rfl) ⟨rfl, rfl⟩)
        · rw [if_neg c3] at hf
          obtain ⟨b4, hf⟩ := am_bis hf
          refine AW_go okX6_slotOf 12 ?_
          refine And.intro (sv_K0 hs ho) (Exists.intro _ (And.intro (sv_A hs ho 5 3) ?_))
          refine And.intro (sv_K0 hs ho) (Exists.intro _ (And.intro (sv_A hs ho 9 7) ?_))
          refine Exists.intro 4096 (And.intro (sv_K hs ho 7) (And.intro (am_vp_ok b2) ?_))
          refine Exists.intro 2000 (And.intro (sv_K hs ho 3) (And.intro (am_vp_ok b4) ?_))
          refine And.intro (fun c5 => ?_) (fun c5 => ?_)
          · rw [if_neg c5] at hf
            refine AW_go okX6_slotOf 8 ?_
            refine AW_pick (lv' := [(0, .ref o), (1, .long a1), (3, .int ((x3i + (Int32.ofInt 1)) &&& (Int32.ofInt 4095))), (4, .int (x4i + Int32.ofInt 1))]) [2, 3, 1, 0] rfl ?_
            exact ih o a1 ((x3i + (Int32.ofInt 1)) &&& (Int32.ofInt 4095)) (x4i + Int32.ofInt 1) h _ _ ho hs hf
          · rw [if_pos c5] at hf
            refine AW_go okX6_slotOf 2 ?_
            cases hf
            exact And.intro ⟨(Nat.le_of_ble_eq_true rfl), (Nat.le_of_ble_eq_true rfl)⟩ (And.intro (Or.inl rfl) ⟨rfl, rfl⟩)
def f_X6_slotOf (n : Nat) (o : Nat) (a1 : Int64) (h : am_H) : Option (Int32 × am_H) := g_X6_slotOf n 0 o a1 (Int64.toInt32 ((Int64.toUInt64 (a1 * (-7046029254386353131 : Int64)) >>> ((Int32.toInt64 (Int32.ofInt 52)).toUInt64 &&& Int64.toUInt64 63)).toInt64)) (Int32.ofInt 0) h
set_option maxRecDepth 100000 in
theorem s_X6_slotOf (n : Nat) (o : Nat) (a1 : Int64) (h : am_H) (ho : o = 37 ∨ o = 49) (hs : am_stat h) {v : Int32} {h' : am_H} (hf : f_X6_slotOf n o a1 h = some (v, h')) : am_stat h' := by
  unfold f_X6_slotOf at hf
  exact (m_X6_slotOf n) o a1 (Int64.toInt32 ((Int64.toUInt64 (a1 * (-7046029254386353131 : Int64)) >>> ((Int32.toInt64 (Int32.ofInt 52)).toUInt64 &&& Int64.toUInt64 63)).toInt64)) (Int32.ofInt 0) h _ _ ho hs hf
set_option maxRecDepth 100000 in
theorem c_X6_slotOf (n : Nat) (o : Nat) (a1 : Int64) (h : am_H) (ho : o = 37 ∨ o = 49) (hs : am_stat h) {v : Int32} {h' : am_H} (hf : f_X6_slotOf n o a1 h = some (v, h')) : AMet mX6_slotOf (rX6_slotOf 0 0) (fun r h2 => r = some (.int v) ∧ h2 = h') [.ref o, .long a1] h := by
  unfold f_X6_slotOf at hf
  refine AW_go okX6_slotOf 9 ?_
  refine AW_pick (lv' := [(0, .ref o), (1, .long a1), (3, .int (Int64.toInt32 ((Int64.toUInt64 (a1 * (-7046029254386353131 : Int64)) >>> ((Int32.toInt64 (Int32.ofInt 52)).toUInt64 &&& Int64.toUInt64 63)).toInt64))), (4, .int (Int32.ofInt 0))]) [2, 3, 1, 0] rfl ?_
  exact (l_X6_slotOf n) o a1 (Int64.toInt32 ((Int64.toUInt64 (a1 * (-7046029254386353131 : Int64)) >>> ((Int32.toInt64 (Int32.ofInt 52)).toUInt64 &&& Int64.toUInt64 63)).toInt64)) (Int32.ofInt 0) h _ _ ho hs hf
def g_X6_markForever : Nat → Nat → Nat → Int32 → Int32 → Int32 → Int32 → am_H → Option (Unit × am_H)
  | 0, _, _, _, _, _, _, _ => none
  | n + 1, tag, o, x1i, x2i, x3i, x4i, h => bif Nat.beq tag 0 then ((if (am_I h o 0) ≤ x2i then g_X6_markForever n 1 o x1i (Int32.ofInt 0) 0 0 h else bif am_vp x2i 2000 then ((if ((am_I h (o + 4) (Int32.toNatClampNeg x2i)) &&& (Int32.ofInt 16)) = 0 then g_X6_markForever n 0 o x1i (x2i + Int32.ofInt 1) 0 0 h else bif am_vp x1i 2000 then (g_X6_markForever n 0 o (x1i + Int32.ofInt 1) (x2i + Int32.ofInt 1) 0 0 (am_sI (am_sI h (o + 4) (Int32.toNatClampNeg x2i) ((am_I h (o + 4) (Int32.toNatClampNeg x2i)) ||| (Int32.ofInt 32))) (o + 8) (Int32.toNatClampNeg x1i) x2i)) else none)) else none)) else (bif Nat.beq tag 1 then ((if x1i ≤ x2i then some ((), h) else (if (Int32.ofInt 2000) ≤ x2i then some ((), h) else bif am_vp x2i 2000 then (bif am_vp (am_I h (o + 8) (Int32.toNatClampNeg x2i)) 2000 then (g_X6_markForever n 2 o x1i x2i (Int32.ofInt 0) (am_I h (o + 9) (Int32.toNatClampNeg (am_I h (o + 8) (Int32.toNatClampNeg x2i)))) h) else none) else none))) else ((if x4i < 0 then g_X6_markForever n 1 o x1i (x2i + Int32.ofInt 1) 0 0 h else (if (am_I h o 12) ≤ x3i then g_X6_markForever n 1 o x1i (x2i + Int32.ofInt 1) 0 0 h else (am_A h o 13).bind fun q3 => ((am_ln h 0 q3).bind fun n5 => (bif am_vp x4i n5 then (bif am_vp (am_I h q3 (Int32.toNatClampNeg x4i)) 2000 then ((if ((am_I h (o + 4) (Int32.toNatClampNeg (am_I h q3 (Int32.toNatClampNeg x4i)))) &&& (Int32.ofInt 32)) = 0 then bif am_vp x1i 2000 then ((am_A (am_sI (am_sI h (o + 4) (Int32.toNatClampNeg (am_I h q3 (Int32.toNatClampNeg x4i))) ((am_I h (o + 4) (Int32.toNatClampNeg (am_I h q3 (Int32.toNatClampNeg x4i)))) ||| (Int32.ofInt 32))) (o + 8) (Int32.toNatClampNeg x1i) (am_I h q3 (Int32.toNatClampNeg x4i))) o 14).bind fun q16 => ((am_ln (am_sI (am_sI h (o + 4) (Int32.toNatClampNeg (am_I h q3 (Int32.toNatClampNeg x4i))) ((am_I h (o + 4) (Int32.toNatClampNeg (am_I h q3 (Int32.toNatClampNeg x4i)))) ||| (Int32.ofInt 32))) (o + 8) (Int32.toNatClampNeg x1i) (am_I h q3 (Int32.toNatClampNeg x4i))) 0 q16).bind fun n18 => (bif am_vp x4i n18 then (g_X6_markForever n 2 o (x1i + Int32.ofInt 1) x2i (x3i + Int32.ofInt 1) (am_I (am_sI (am_sI h (o + 4) (Int32.toNatClampNeg (am_I h q3 (Int32.toNatClampNeg x4i))) ((am_I h (o + 4) (Int32.toNatClampNeg (am_I h q3 (Int32.toNatClampNeg x4i)))) ||| (Int32.ofInt 32))) (o + 8) (Int32.toNatClampNeg x1i) (am_I h q3 (Int32.toNatClampNeg x4i))) q16 (Int32.toNatClampNeg x4i)) (am_sI (am_sI h (o + 4) (Int32.toNatClampNeg (am_I h q3 (Int32.toNatClampNeg x4i))) ((am_I h (o + 4) (Int32.toNatClampNeg (am_I h q3 (Int32.toNatClampNeg x4i)))) ||| (Int32.ofInt 32))) (o + 8) (Int32.toNatClampNeg x1i) (am_I h q3 (Int32.toNatClampNeg x4i)))) else none))) else none else (am_A h o 14).bind fun q10 => ((am_ln h 0 q10).bind fun n12 => (bif am_vp x4i n12 then (g_X6_markForever n 2 o x1i x2i (x3i + Int32.ofInt 1) (am_I h q10 (Int32.toNatClampNeg x4i)) h) else none)))) else none) else none))))))
set_option maxRecDepth 100000 in
set_option maxHeartbeats 4000000 in
theorem m_X6_markForever (n : Nat) : (∀ (o : Nat) (x1i : Int32) (x2i : Int32) (x3i : Int32) (x4i : Int32) (h : am_H) (v : Unit) (h' : am_H), (o = 37 ∨ o = 49) → am_stat h → g_X6_markForever n 0 o x1i x2i x3i x4i h = some (v, h') → am_stat h') ∧ (∀ (o : Nat) (x1i : Int32) (x2i : Int32) (x3i : Int32) (x4i : Int32) (h : am_H) (v : Unit) (h' : am_H), (o = 37 ∨ o = 49) → am_stat h → g_X6_markForever n 1 o x1i x2i x3i x4i h = some (v, h') → am_stat h') ∧ (∀ (o : Nat) (x1i : Int32) (x2i : Int32) (x3i : Int32) (x4i : Int32) (h : am_H) (v : Unit) (h' : am_H), (o = 37 ∨ o = 49) → am_stat h → g_X6_markForever n 2 o x1i x2i x3i x4i h = some (v, h') → am_stat h') := by
  induction n with
  | zero => exact ⟨fun o x1i x2i x3i x4i h v h' ho hs hf => (by cases hf), fun o x1i x2i x3i x4i h v h' ho hs hf => (by cases hf), fun o x1i x2i x3i x4i h v h' ho hs hf => (by cases hf)⟩
  | succ n ih =>
    refine ⟨?_, ?_, ?_⟩
    · intro o x1i x2i x3i x4i h v h' ho hs hf
      have hf : ((if (am_I h o 0) ≤ x2i then g_X6_markForever n 1 o x1i (Int32.ofInt 0) 0 0 h else bif am_vp x2i 2000 then ((if ((am_I h (o + 4) (Int32.toNatClampNeg x2i)) &&& (Int32.ofInt 16)) = 0 then g_X6_markForever n 0 o x1i (x2i + Int32.ofInt 1) 0 0 h else bif am_vp x1i 2000 then (g_X6_markForever n 0 o (x1i + Int32.ofInt 1) (x2i + Int32.ofInt 1) 0 0 (am_sI (am_sI h (o + 4) (Int32.toNatClampNeg x2i) ((am_I h (o + 4) (Int32.toNatClampNeg x2i)) ||| (Int32.ofInt 32))) (o + 8) (Int32.toNatClampNeg x1i) x2i)) else none)) else none)) = some (v, h') := hf
      by_cases c1 : (am_I h o 0) ≤ x2i
      · rw [if_pos c1] at hf
        exact ih.2.1 o x1i (Int32.ofInt 0) 0 0 h _ _ ho hs hf
      · rw [if_neg c1] at hf
        obtain ⟨b2, hf⟩ := am_bis hf
        by_cases c3 : ((am_I h (o + 4) (Int32.toNatClampNeg x2i)) &&& (Int32.ofInt 16)) = 0
        · rw [if_pos c3] at hf
          exact ih.1 o x1i (x2i + Int32.ofInt 1) 0 0 h _ _ ho hs hf
        · rw [if_neg c3] at hf
          obtain ⟨b4, hf⟩ := am_bis hf
          exact ih.1 o (x1i + Int32.ofInt 1) (x2i + Int32.ofInt 1) 0 0 (am_sI (am_sI h (o + 4) (Int32.toNatClampNeg x2i) ((am_I h (o + 4) (Int32.toNatClampNeg x2i)) ||| (Int32.ofInt 32))) (o + 8) (Int32.toNatClampNeg x1i) x2i) _ _ ho hs hf
    · intro o x1i x2i x3i x4i h v h' ho hs hf
      have hf : ((if x1i ≤ x2i then some ((), h) else (if (Int32.ofInt 2000) ≤ x2i then some ((), h) else bif am_vp x2i 2000 then (bif am_vp (am_I h (o + 8) (Int32.toNatClampNeg x2i)) 2000 then (g_X6_markForever n 2 o x1i x2i (Int32.ofInt 0) (am_I h (o + 9) (Int32.toNatClampNeg (am_I h (o + 8) (Int32.toNatClampNeg x2i)))) h) else none) else none))) = some (v, h') := hf
      by_cases c1 : x1i ≤ x2i
      · rw [if_pos c1] at hf
        cases hf
        exact hs
      · rw [if_neg c1] at hf
        by_cases c2 : (Int32.ofInt 2000) ≤ x2i
        · rw [if_pos c2] at hf
          cases hf
          exact hs
        · rw [if_neg c2] at hf
          obtain ⟨b3, hf⟩ := am_bis hf
          obtain ⟨b4, hf⟩ := am_bis hf
          exact ih.2.2 o x1i x2i (Int32.ofInt 0) (am_I h (o + 9) (Int32.toNatClampNeg (am_I h (o + 8) (Int32.toNatClampNeg x2i)))) h _ _ ho hs hf
    · intro o x1i x2i x3i x4i h v h' ho hs hf
      have hf : ((if x4i < 0 then g_X6_markForever n 1 o x1i (x2i + Int32.ofInt 1) 0 0 h else (if (am_I h o 12) ≤ x3i then g_X6_markForever n 1 o x1i (x2i + Int32.ofInt 1) 0 0 h else (am_A h o 13).bind fun q3 => ((am_ln h 0 q3).bind fun n5 => (bif am_vp x4i n5 then (bif am_vp (am_I h q3 (Int32.toNatClampNeg x4i)) 2000 then ((if ((am_I h (o + 4) (Int32.toNatClampNeg (am_I h q3 (Int32.toNatClampNeg x4i)))) &&& (Int32.ofInt 32)) = 0 then bif am_vp x1i 2000 then ((am_A (am_sI (am_sI h (o + 4) (Int32.toNatClampNeg (am_I h q3 (Int32.toNatClampNeg x4i))) ((am_I h (o + 4) (Int32.toNatClampNeg (am_I h q3 (Int32.toNatClampNeg x4i)))) ||| (Int32.ofInt 32))) (o + 8) (Int32.toNatClampNeg x1i) (am_I h q3 (Int32.toNatClampNeg x4i))) o 14).bind fun q11 => ((am_ln (am_sI (am_sI h (o + 4) (Int32.toNatClampNeg (am_I h q3 (Int32.toNatClampNeg x4i))) ((am_I h (o + 4) (Int32.toNatClampNeg (am_I h q3 (Int32.toNatClampNeg x4i)))) ||| (Int32.ofInt 32))) (o + 8) (Int32.toNatClampNeg x1i) (am_I h q3 (Int32.toNatClampNeg x4i))) 0 q11).bind fun n13 => (bif am_vp x4i n13 then (g_X6_markForever n 2 o (x1i + Int32.ofInt 1) x2i (x3i + Int32.ofInt 1) (am_I (am_sI (am_sI h (o + 4) (Int32.toNatClampNeg (am_I h q3 (Int32.toNatClampNeg x4i))) ((am_I h (o + 4) (Int32.toNatClampNeg (am_I h q3 (Int32.toNatClampNeg x4i)))) ||| (Int32.ofInt 32))) (o + 8) (Int32.toNatClampNeg x1i) (am_I h q3 (Int32.toNatClampNeg x4i))) q11 (Int32.toNatClampNeg x4i)) (am_sI (am_sI h (o + 4) (Int32.toNatClampNeg (am_I h q3 (Int32.toNatClampNeg x4i))) ((am_I h (o + 4) (Int32.toNatClampNeg (am_I h q3 (Int32.toNatClampNeg x4i)))) ||| (Int32.ofInt 32))) (o + 8) (Int32.toNatClampNeg x1i) (am_I h q3 (Int32.toNatClampNeg x4i)))) else none))) else none else (am_A h o 14).bind fun q16 => ((am_ln h 0 q16).bind fun n18 => (bif am_vp x4i n18 then (g_X6_markForever n 2 o x1i x2i (x3i + Int32.ofInt 1) (am_I h q16 (Int32.toNatClampNeg x4i)) h) else none)))) else none) else none))))) = some (v, h') := hf
      by_cases c1 : x4i < 0
      · rw [if_pos c1] at hf
        exact ih.2.1 o x1i (x2i + Int32.ofInt 1) 0 0 h _ _ ho hs hf
      · rw [if_neg c1] at hf
        by_cases c2 : (am_I h o 12) ≤ x3i
        · rw [if_pos c2] at hf
          exact ih.2.1 o x1i (x2i + Int32.ofInt 1) 0 0 h _ _ ho hs hf
        · rw [if_neg c2] at hf
          obtain ⟨q3, k4, hf⟩ := am_bnd hf
          obtain ⟨n5, k6, hf⟩ := am_bnd hf
          obtain ⟨b7, hf⟩ := am_bis hf
          obtain ⟨b8, hf⟩ := am_bis hf
          by_cases c9 : ((am_I h (o + 4) (Int32.toNatClampNeg (am_I h q3 (Int32.toNatClampNeg x4i)))) &&& (Int32.ofInt 32)) = 0
          · rw [if_pos c9] at hf
            obtain ⟨b10, hf⟩ := am_bis hf
            obtain ⟨q11, k12, hf⟩ := am_bnd hf
            obtain ⟨n13, k14, hf⟩ := am_bnd hf
            obtain ⟨b15, hf⟩ := am_bis hf
            exact ih.2.2 o (x1i + Int32.ofInt 1) x2i (x3i + Int32.ofInt 1) (am_I (am_sI (am_sI h (o + 4) (Int32.toNatClampNeg (am_I h q3 (Int32.toNatClampNeg x4i))) ((am_I h (o + 4) (Int32.toNatClampNeg (am_I h q3 (Int32.toNatClampNeg x4i)))) ||| (Int32.ofInt 32))) (o + 8) (Int32.toNatClampNeg x1i) (am_I h q3 (Int32.toNatClampNeg x4i))) q11 (Int32.toNatClampNeg x4i)) (am_sI (am_sI h (o + 4) (Int32.toNatClampNeg (am_I h q3 (Int32.toNatClampNeg x4i))) ((am_I h (o + 4) (Int32.toNatClampNeg (am_I h q3 (Int32.toNatClampNeg x4i)))) ||| (Int32.ofInt 32))) (o + 8) (Int32.toNatClampNeg x1i) (am_I h q3 (Int32.toNatClampNeg x4i))) _ _ ho hs hf
          · rw [if_neg c9] at hf
            obtain ⟨q16, k17, hf⟩ := am_bnd hf
            obtain ⟨n18, k19, hf⟩ := am_bnd hf
            obtain ⟨b20, hf⟩ := am_bis hf
            exact ih.2.2 o x1i x2i (x3i + Int32.ofInt 1) (am_I h q16 (Int32.toNatClampNeg x4i)) h _ _ ho hs hf
set_option maxRecDepth 100000 in
set_option maxHeartbeats 4000000 in
theorem l_X6_markForever (n : Nat) : (∀ (o : Nat) (x1i : Int32) (x2i : Int32) (x3i : Int32) (x4i : Int32) (h : am_H) (v : Unit) (h' : am_H), (o = 37 ∨ o = 49) → am_stat h → g_X6_markForever n 0 o x1i x2i x3i x4i h = some (v, h') → AW mX6_markForever (rX6_markForever 0 0) (fun r h2 => r = none ∧ h2 = h') 4 [(0, .ref o), (1, .int x1i), (2, .int x2i)] [] h 0 0) ∧ (∀ (o : Nat) (x1i : Int32) (x2i : Int32) (x3i : Int32) (x4i : Int32) (h : am_H) (v : Unit) (h' : am_H), (o = 37 ∨ o = 49) → am_stat h → g_X6_markForever n 1 o x1i x2i x3i x4i h = some (v, h') → AW mX6_markForever (rX6_markForever 0 0) (fun r h2 => r = none ∧ h2 = h') 53 [(0, .ref o), (1, .int x1i), (2, .int x2i)] [] h 0 0) ∧ (∀ (o : Nat) (x1i : Int32) (x2i : Int32) (x3i : Int32) (x4i : Int32) (h : am_H) (v : Unit) (h' : am_H), (o = 37 ∨ o = 49) → am_stat h → g_X6_markForever n 2 o x1i x2i x3i x4i h = some (v, h') → AW mX6_markForever (rX6_markForever 0 0) (fun r h2 => r = none ∧ h2 = h') 80 [(0, .ref o), (1, .int x1i), (2, .int x2i), (3, .int x3i), (4, .int x4i)] [] h 0 0) := by
  induction n with
  | zero => exact ⟨fun o x1i x2i x3i x4i h v h' ho hs hf => (by cases hf), fun o x1i x2i x3i x4i h v h' ho hs hf => (by cases hf), fun o x1i x2i x3i x4i h v h' ho hs hf => (by cases hf)⟩
  | succ n ih =>
    refine ⟨?_, ?_, ?_⟩
    · intro o x1i x2i x3i x4i h v h' ho hs hf
      have hf : ((if (am_I h o 0) ≤ x2i then g_X6_markForever n 1 o x1i (Int32.ofInt 0) 0 0 h else bif am_vp x2i 2000 then ((if ((am_I h (o + 4) (Int32.toNatClampNeg x2i)) &&& (Int32.ofInt 16)) = 0 then g_X6_markForever n 0 o x1i (x2i + Int32.ofInt 1) 0 0 h else bif am_vp x1i 2000 then (g_X6_markForever n 0 o (x1i + Int32.ofInt 1) (x2i + Int32.ofInt 1) 0 0 (am_sI (am_sI h (o + 4) (Int32.toNatClampNeg x2i) ((am_I h (o + 4) (Int32.toNatClampNeg x2i)) ||| (Int32.ofInt 32))) (o + 8) (Int32.toNatClampNeg x1i) x2i)) else none)) else none)) = some (v, h') := hf
      refine AW_go okX6_markForever 4 ?_
      refine And.intro (sv_K0 hs ho) ?_
      refine And.intro (fun c1 => ?_) (fun c1 => ?_)
      · rw [if_pos c1] at hf
        refine AW_go okX6_markForever 2 ?_
        refine AW_pick (lv' := [(0, .ref o), (1, .int x1i), (2, .int (Int32.ofInt 0))]) [1, 2, 0] rfl ?_
        exact ih.2.1 o x1i (Int32.ofInt 0) 0 0 h _ _ ho hs hf
      · rw [if_neg c1] at hf
        obtain ⟨b2, hf⟩ := am_bis hf
        refine AW_go okX6_markForever 7 ?_
        refine And.intro (sv_K0 hs ho) (Exists.intro _ (And.intro (sv_A hs ho 6 4) ?_))
        refine Exists.intro 2000 (And.intro (sv_K hs ho 4) (And.intro (am_vp_ok b2) ?_))
        refine And.intro (fun c3 => ?_) (fun c3 => ?_)
        · rw [if_pos c3] at hf
          refine AW_go okX6_markForever 2 ?_
          refine AW_pick (lv' := [(0, .ref o), (1, .int x1i), (2, .int (x2i + Int32.ofInt 1))]) [1, 2, 0] rfl ?_
          exact ih.1 o x1i (x2i + Int32.ofInt 1) 0 0 h _ _ ho hs hf
        · rw [if_neg c3] at hf
          obtain ⟨b4, hf⟩ := am_bis hf
          refine AW_go okX6_markForever 16 ?_
          refine And.intro (sv_K0 hs ho) (Exists.intro _ (And.intro (sv_A hs ho 6 4) ?_))
          refine Exists.intro 2000 (And.intro (sv_K hs ho 4) (And.intro (am_vp_ok b2) ?_))
          refine Exists.intro 2000 (And.intro (sv_K hs ho 4) (And.intro (am_vp_ok b2) ?_))
          refine And.intro (sv_K0 hs ho) (Exists.intro _ (And.intro (sv_A hs ho 10 8) ?_))
          refine Exists.intro 2000 (And.intro (sv_K hs ho 8) (And.intro (am_vp_ok b4) ?_))
          refine AW_pick (lv' := [(0, .ref o), (1, .int (x1i + Int32.ofInt 1)), (2, .int (x2i + Int32.ofInt 1))]) [2, 1, 0] rfl ?_
          exact ih.1 o (x1i + Int32.ofInt 1) (x2i + Int32.ofInt 1) 0 0 (am_sI (am_sI h (o + 4) (Int32.toNatClampNeg x2i) ((am_I h (o + 4) (Int32.toNatClampNeg x2i)) ||| (Int32.ofInt 32))) (o + 8) (Int32.toNatClampNeg x1i) x2i) _ _ ho hs hf
    · intro o x1i x2i x3i x4i h v h' ho hs hf
      have hf : ((if x1i ≤ x2i then some ((), h) else (if (Int32.ofInt 2000) ≤ x2i then some ((), h) else bif am_vp x2i 2000 then (bif am_vp (am_I h (o + 8) (Int32.toNatClampNeg x2i)) 2000 then (g_X6_markForever n 2 o x1i x2i (Int32.ofInt 0) (am_I h (o + 9) (Int32.toNatClampNeg (am_I h (o + 8) (Int32.toNatClampNeg x2i)))) h) else none) else none))) = some (v, h') := hf
      refine AW_go okX6_markForever 3 ?_
      refine And.intro (fun c1 => ?_) (fun c1 => ?_)
      · rw [if_pos c1] at hf
        refine AW_go okX6_markForever 1 ?_
        cases hf
        exact And.intro ⟨(Nat.le_of_ble_eq_true rfl), (Nat.le_of_ble_eq_true rfl)⟩ (And.intro rfl ⟨rfl, rfl⟩)
      · rw [if_neg c1] at hf
        refine AW_go okX6_markForever 3 ?_
        refine And.intro (fun c2 => ?_) (fun c2 => ?_)
        · rw [if_pos c2] at hf
          refine AW_go okX6_markForever 1 ?_
          cases hf
          exact And.intro ⟨(Nat.le_of_ble_eq_true rfl), (Nat.le_of_ble_eq_true rfl)⟩ (And.intro rfl ⟨rfl, rfl⟩)
        · rw [if_neg c2] at hf
          obtain ⟨b3, hf⟩ := am_bis hf
          obtain ⟨b4, hf⟩ := am_bis hf
          refine AW_go okX6_markForever 10 ?_
          refine And.intro (sv_K0 hs ho) (Exists.intro _ (And.intro (sv_A hs ho 11 9) ?_))
          refine And.intro (sv_K0 hs ho) (Exists.intro _ (And.intro (sv_A hs ho 10 8) ?_))
          refine Exists.intro 2000 (And.intro (sv_K hs ho 8) (And.intro (am_vp_ok b3) ?_))
          refine Exists.intro 2000 (And.intro (sv_K hs ho 9) (And.intro (am_vp_ok b4) ?_))
          refine AW_pick (lv' := [(0, .ref o), (1, .int x1i), (2, .int x2i), (3, .int (Int32.ofInt 0)), (4, .int (am_I h (o + 9) (Int32.toNatClampNeg (am_I h (o + 8) (Int32.toNatClampNeg x2i)))))]) [2, 3, 4, 1, 0] rfl ?_
          exact ih.2.2 o x1i x2i (Int32.ofInt 0) (am_I h (o + 9) (Int32.toNatClampNeg (am_I h (o + 8) (Int32.toNatClampNeg x2i)))) h _ _ ho hs hf
    · intro o x1i x2i x3i x4i h v h' ho hs hf
      have hf : ((if x4i < 0 then g_X6_markForever n 1 o x1i (x2i + Int32.ofInt 1) 0 0 h else (if (am_I h o 12) ≤ x3i then g_X6_markForever n 1 o x1i (x2i + Int32.ofInt 1) 0 0 h else (am_A h o 13).bind fun q3 => ((am_ln h 0 q3).bind fun n5 => (bif am_vp x4i n5 then (bif am_vp (am_I h q3 (Int32.toNatClampNeg x4i)) 2000 then ((if ((am_I h (o + 4) (Int32.toNatClampNeg (am_I h q3 (Int32.toNatClampNeg x4i)))) &&& (Int32.ofInt 32)) = 0 then bif am_vp x1i 2000 then ((am_A (am_sI (am_sI h (o + 4) (Int32.toNatClampNeg (am_I h q3 (Int32.toNatClampNeg x4i))) ((am_I h (o + 4) (Int32.toNatClampNeg (am_I h q3 (Int32.toNatClampNeg x4i)))) ||| (Int32.ofInt 32))) (o + 8) (Int32.toNatClampNeg x1i) (am_I h q3 (Int32.toNatClampNeg x4i))) o 14).bind fun q16 => ((am_ln (am_sI (am_sI h (o + 4) (Int32.toNatClampNeg (am_I h q3 (Int32.toNatClampNeg x4i))) ((am_I h (o + 4) (Int32.toNatClampNeg (am_I h q3 (Int32.toNatClampNeg x4i)))) ||| (Int32.ofInt 32))) (o + 8) (Int32.toNatClampNeg x1i) (am_I h q3 (Int32.toNatClampNeg x4i))) 0 q16).bind fun n18 => (bif am_vp x4i n18 then (g_X6_markForever n 2 o (x1i + Int32.ofInt 1) x2i (x3i + Int32.ofInt 1) (am_I (am_sI (am_sI h (o + 4) (Int32.toNatClampNeg (am_I h q3 (Int32.toNatClampNeg x4i))) ((am_I h (o + 4) (Int32.toNatClampNeg (am_I h q3 (Int32.toNatClampNeg x4i)))) ||| (Int32.ofInt 32))) (o + 8) (Int32.toNatClampNeg x1i) (am_I h q3 (Int32.toNatClampNeg x4i))) q16 (Int32.toNatClampNeg x4i)) (am_sI (am_sI h (o + 4) (Int32.toNatClampNeg (am_I h q3 (Int32.toNatClampNeg x4i))) ((am_I h (o + 4) (Int32.toNatClampNeg (am_I h q3 (Int32.toNatClampNeg x4i)))) ||| (Int32.ofInt 32))) (o + 8) (Int32.toNatClampNeg x1i) (am_I h q3 (Int32.toNatClampNeg x4i)))) else none))) else none else (am_A h o 14).bind fun q10 => ((am_ln h 0 q10).bind fun n12 => (bif am_vp x4i n12 then (g_X6_markForever n 2 o x1i x2i (x3i + Int32.ofInt 1) (am_I h q10 (Int32.toNatClampNeg x4i)) h) else none)))) else none) else none))))) = some (v, h') := hf
      refine AW_go okX6_markForever 2 ?_
      refine And.intro (fun c1 => ?_) (fun c1 => ?_)
      · rw [if_pos c1] at hf
        refine AW_go okX6_markForever 2 ?_
        refine AW_pick (lv' := [(0, .ref o), (1, .int x1i), (2, .int (x2i + Int32.ofInt 1))]) [1, 2, 0] rfl ?_
        exact ih.2.1 o x1i (x2i + Int32.ofInt 1) 0 0 h _ _ ho hs hf
      · rw [if_neg c1] at hf
        refine AW_go okX6_markForever 4 ?_
        refine And.intro (sv_K0 hs ho) ?_
        refine And.intro (fun c2 => ?_) (fun c2 => ?_)
        · rw [if_pos c2] at hf
          refine AW_go okX6_markForever 2 ?_
          refine AW_pick (lv' := [(0, .ref o), (1, .int x1i), (2, .int (x2i + Int32.ofInt 1))]) [1, 2, 0] rfl ?_
          exact ih.2.1 o x1i (x2i + Int32.ofInt 1) 0 0 h _ _ ho hs hf
        · rw [if_neg c2] at hf
          obtain ⟨q3, k4, hf⟩ := am_bnd hf
          obtain ⟨n5, k6, hf⟩ := am_bnd hf
          obtain ⟨b7, hf⟩ := am_bis hf
          obtain ⟨b8, hf⟩ := am_bis hf
          refine AW_go okX6_markForever 12 ?_
          refine And.intro (sv_K0 hs ho) (Exists.intro (some q3) (And.intro k4 ?_))
          refine Exists.intro n5 (And.intro (am_ln_ok k6) (And.intro (am_vp_ok b7) ?_))
          refine And.intro (sv_K0 hs ho) (Exists.intro _ (And.intro (sv_A hs ho 6 4) ?_))
          refine Exists.intro 2000 (And.intro (sv_K hs ho 4) (And.intro (am_vp_ok b8) ?_))
          refine And.intro (fun c9 => ?_) (fun c9 => ?_)
          · rw [if_neg c9] at hf
            obtain ⟨q10, k11, hf⟩ := am_bnd hf
            obtain ⟨n12, k13, hf⟩ := am_bnd hf
            obtain ⟨b14, hf⟩ := am_bis hf
            refine AW_go okX6_markForever 7 ?_
            refine And.intro (sv_K0 hs ho) (Exists.intro (some q10) (And.intro k11 ?_))
            refine Exists.intro n12 (And.intro (am_ln_ok k13) (And.intro (am_vp_ok b14) ?_))
            refine AW_pick (lv' := [(0, .ref o), (1, .int x1i), (2, .int x2i), (3, .int (x3i + Int32.ofInt 1)), (4, .int (am_I h q10 (Int32.toNatClampNeg x4i)))]) [3, 4, 5, 1, 0] rfl ?_
            exact ih.2.2 o x1i x2i (x3i + Int32.ofInt 1) (am_I h q10 (Int32.toNatClampNeg x4i)) h _ _ ho hs hf
          · rw [if_pos c9] at hf
            obtain ⟨b15, hf⟩ := am_bis hf
            obtain ⟨q16, k17, hf⟩ := am_bnd hf
            obtain ⟨n18, k19, hf⟩ := am_bnd hf
            obtain ⟨b20, hf⟩ := am_bis hf
            refine AW_go okX6_markForever 21 ?_
            refine And.intro (sv_K0 hs ho) (Exists.intro _ (And.intro (sv_A hs ho 6 4) ?_))
            refine Exists.intro 2000 (And.intro (sv_K hs ho 4) (And.intro (am_vp_ok b8) ?_))
            refine Exists.intro 2000 (And.intro (sv_K hs ho 4) (And.intro (am_vp_ok b8) ?_))
            refine And.intro (sv_K0 hs ho) (Exists.intro _ (And.intro (sv_A hs ho 10 8) ?_))
            refine Exists.intro 2000 (And.intro (sv_K hs ho 8) (And.intro (am_vp_ok b15) ?_))
            refine And.intro (sv_K0 hs ho) (Exists.intro (some q16) (And.intro k17 ?_))
            refine Exists.intro n18 (And.intro (am_ln_ok k19) (And.intro (am_vp_ok b20) ?_))
            refine AW_pick (lv' := [(0, .ref o), (1, .int (x1i + Int32.ofInt 1)), (2, .int x2i), (3, .int (x3i + Int32.ofInt 1)), (4, .int (am_I (am_sI (am_sI h (o + 4) (Int32.toNatClampNeg (am_I h q3 (Int32.toNatClampNeg x4i))) ((am_I h (o + 4) (Int32.toNatClampNeg (am_I h q3 (Int32.toNatClampNeg x4i)))) ||| (Int32.ofInt 32))) (o + 8) (Int32.toNatClampNeg x1i) (am_I h q3 (Int32.toNatClampNeg x4i))) q16 (Int32.toNatClampNeg x4i)))]) [4, 2, 5, 1, 0] rfl ?_
            exact ih.2.2 o (x1i + Int32.ofInt 1) x2i (x3i + Int32.ofInt 1) (am_I (am_sI (am_sI h (o + 4) (Int32.toNatClampNeg (am_I h q3 (Int32.toNatClampNeg x4i))) ((am_I h (o + 4) (Int32.toNatClampNeg (am_I h q3 (Int32.toNatClampNeg x4i)))) ||| (Int32.ofInt 32))) (o + 8) (Int32.toNatClampNeg x1i) (am_I h q3 (Int32.toNatClampNeg x4i))) q16 (Int32.toNatClampNeg x4i)) (am_sI (am_sI h (o + 4) (Int32.toNatClampNeg (am_I h q3 (Int32.toNatClampNeg x4i))) ((am_I h (o + 4) (Int32.toNatClampNeg (am_I h q3 (Int32.toNatClampNeg x4i)))) ||| (Int32.ofInt 32))) (o + 8) (Int32.toNatClampNeg x1i) (am_I h q3 (Int32.toNatClampNeg x4i))) _ _ ho hs hf
def f_X6_markForever (n : Nat) (o : Nat) (h : am_H) : Option (Unit × am_H) := g_X6_markForever n 0 o (Int32.ofInt 0) (Int32.ofInt 0) 0 0 h
set_option maxRecDepth 100000 in
theorem s_X6_markForever (n : Nat) (o : Nat) (h : am_H) (ho : o = 37 ∨ o = 49) (hs : am_stat h) {v : Unit} {h' : am_H} (hf : f_X6_markForever n o h = some (v, h')) : am_stat h' := by
  unfold f_X6_markForever at hf
  exact (m_X6_markForever n).1 o (Int32.ofInt 0) (Int32.ofInt 0) 0 0 h _ _ ho hs hf
set_option maxRecDepth 100000 in
theorem c_X6_markForever (n : Nat) (o : Nat) (h : am_H) (ho : o = 37 ∨ o = 49) (hs : am_stat h) {v : Unit} {h' : am_H} (hf : f_X6_markForever n o h = some (v, h')) : AMet mX6_markForever (rX6_markForever 0 0) (fun r h2 => r = none ∧ h2 = h') [.ref o] h := by
  unfold f_X6_markForever at hf
  refine AW_go okX6_markForever 4 ?_
  refine AW_pick (lv' := [(0, .ref o), (1, .int (Int32.ofInt 0)), (2, .int (Int32.ofInt 0))]) [2, 1, 0] rfl ?_
  exact (l_X6_markForever n).1 o (Int32.ofInt 0) (Int32.ofInt 0) 0 0 h _ _ ho hs hf
def g_X6_tell : Nat → Nat → Nat → Int32 → Int32 → am_H → Option (Unit × am_H)
  | 0, _, _, _, _, _ => none
  | n + 1, _, o, a1, x2i, h => (if (Int32.ofInt 5) ≤ x2i then some ((), h) else bif am_vp a1 2000 then ((if (((Int32.toUInt32 (am_I h (o + 4) (Int32.toNatClampNeg a1)) >>> (Int32.toUInt32 x2i &&& Int32.toUInt32 31)).toInt32) &&& (Int32.ofInt 1)) = 0 then g_X6_tell n 0 o a1 (x2i + Int32.ofInt 1) h else bif am_vp x2i 5 then ((if (am_I h (o + 1) (Int32.toNatClampNeg x2i)) = 0 then g_X6_tell n 0 o a1 (x2i + Int32.ofInt 1) (am_sI (am_sI h (o + 2) (Int32.toNatClampNeg x2i) a1) (o + 1) (Int32.toNatClampNeg x2i) ((am_I (am_sI h (o + 2) (Int32.toNatClampNeg x2i) a1) (o + 1) (Int32.toNatClampNeg x2i)) + (Int32.ofInt 1))) else g_X6_tell n 0 o a1 (x2i + Int32.ofInt 1) (am_sI h (o + 1) (Int32.toNatClampNeg x2i) ((am_I h (o + 1) (Int32.toNatClampNeg x2i)) + (Int32.ofInt 1))))) else none)) else none)
set_option maxRecDepth 100000 in
set_option maxHeartbeats 4000000 in
theorem m_X6_tell (n : Nat) : (∀ (o : Nat) (a1 : Int32) (x2i : Int32) (h : am_H) (v : Unit) (h' : am_H), (o = 37 ∨ o = 49) → am_stat h → g_X6_tell n 0 o a1 x2i h = some (v, h') → am_stat h') := by
  induction n with
  | zero => exact fun o a1 x2i h v h' ho hs hf => (by cases hf)
  | succ n ih =>
    skip
    · intro o a1 x2i h v h' ho hs hf
      have hf : ((if (Int32.ofInt 5) ≤ x2i then some ((), h) else bif am_vp a1 2000 then ((if (((Int32.toUInt32 (am_I h (o + 4) (Int32.toNatClampNeg a1)) >>> (Int32.toUInt32 x2i &&& Int32.toUInt32 31)).toInt32) &&& (Int32.ofInt 1)) = 0 then g_X6_tell n 0 o a1 (x2i + Int32.ofInt 1) h else bif am_vp x2i 5 then ((if (am_I h (o + 1) (Int32.toNatClampNeg x2i)) = 0 then g_X6_tell n 0 o a1 (x2i + Int32.ofInt 1) (am_sI (am_sI h (o + 2) (Int32.toNatClampNeg x2i) a1) (o + 1) (Int32.toNatClampNeg x2i) ((am_I (am_sI h (o + 2) (Int32.toNatClampNeg x2i) a1) (o + 1) (Int32.toNatClampNeg x2i)) + (Int32.ofInt 1))) else g_X6_tell n 0 o a1 (x2i + Int32.ofInt 1) (am_sI h (o + 1) (Int32.toNatClampNeg x2i) ((am_I h (o + 1) (Int32.toNatClampNeg x2i)) + (Int32.ofInt 1))))) else none)) else none)) = some (v, h') := hf
      by_cases c1 : (Int32.ofInt 5) ≤ x2i
      · rw [if_pos c1] at hf
        cases hf
        exact hs
      · rw [if_neg c1] at hf
        obtain ⟨b2, hf⟩ := am_bis hf
        by_cases c3 : (((Int32.toUInt32 (am_I h (o + 4) (Int32.toNatClampNeg a1)) >>> (Int32.toUInt32 x2i &&& Int32.toUInt32 31)).toInt32) &&& (Int32.ofInt 1)) = 0
        · rw [if_pos c3] at hf
          exact ih o a1 (x2i + Int32.ofInt 1) h _ _ ho hs hf
        · rw [if_neg c3] at hf
          obtain ⟨b4, hf⟩ := am_bis hf
          by_cases c5 : (am_I h (o + 1) (Int32.toNatClampNeg x2i)) = 0
          · rw [if_pos c5] at hf
            exact ih o a1 (x2i + Int32.ofInt 1) (am_sI (am_sI h (o + 2) (Int32.toNatClampNeg x2i) a1) (o + 1) (Int32.toNatClampNeg x2i) ((am_I (am_sI h (o + 2) (Int32.toNatClampNeg x2i) a1) (o + 1) (Int32.toNatClampNeg x2i)) + (Int32.ofInt 1))) _ _ ho hs hf
          · rw [if_neg c5] at hf
            exact ih o a1 (x2i + Int32.ofInt 1) (am_sI h (o + 1) (Int32.toNatClampNeg x2i) ((am_I h (o + 1) (Int32.toNatClampNeg x2i)) + (Int32.ofInt 1))) _ _ ho hs hf
set_option maxRecDepth 100000 in
set_option maxHeartbeats 4000000 in
theorem l_X6_tell (n : Nat) : (∀ (o : Nat) (a1 : Int32) (x2i : Int32) (h : am_H) (v : Unit) (h' : am_H), (o = 37 ∨ o = 49) → am_stat h → g_X6_tell n 0 o a1 x2i h = some (v, h') → AW mX6_tell (rX6_tell 0 0) (fun r h2 => r = none ∧ h2 = h') 25 [(0, .ref o), (1, .int a1), (2, .int x2i)] [] h 0 0) := by
  induction n with
  | zero => exact fun o a1 x2i h v h' ho hs hf => (by cases hf)
  | succ n ih =>
    skip
    · intro o a1 x2i h v h' ho hs hf
      have hf : ((if (Int32.ofInt 5) ≤ x2i then some ((), h) else bif am_vp a1 2000 then ((if (((Int32.toUInt32 (am_I h (o + 4) (Int32.toNatClampNeg a1)) >>> (Int32.toUInt32 x2i &&& Int32.toUInt32 31)).toInt32) &&& (Int32.ofInt 1)) = 0 then g_X6_tell n 0 o a1 (x2i + Int32.ofInt 1) h else bif am_vp x2i 5 then ((if (am_I h (o + 1) (Int32.toNatClampNeg x2i)) = 0 then g_X6_tell n 0 o a1 (x2i + Int32.ofInt 1) (am_sI (am_sI h (o + 2) (Int32.toNatClampNeg x2i) a1) (o + 1) (Int32.toNatClampNeg x2i) ((am_I (am_sI h (o + 2) (Int32.toNatClampNeg x2i) a1) (o + 1) (Int32.toNatClampNeg x2i)) + (Int32.ofInt 1))) else g_X6_tell n 0 o a1 (x2i + Int32.ofInt 1) (am_sI h (o + 1) (Int32.toNatClampNeg x2i) ((am_I h (o + 1) (Int32.toNatClampNeg x2i)) + (Int32.ofInt 1))))) else none)) else none)) = some (v, h') := hf
      refine AW_go okX6_tell 3 ?_
      refine And.intro (fun c1 => ?_) (fun c1 => ?_)
      · rw [if_pos c1] at hf
        refine AW_go okX6_tell 1 ?_
        cases hf
        exact And.intro ⟨(Nat.le_of_ble_eq_true rfl), (Nat.le_of_ble_eq_true rfl)⟩ (And.intro rfl ⟨rfl, rfl⟩)
      · rw [if_neg c1] at hf
        obtain ⟨b2, hf⟩ := am_bis hf
        refine AW_go okX6_tell 9 ?_
        refine And.intro (sv_K0 hs ho) (Exists.intro _ (And.intro (sv_A hs ho 6 4) ?_))
        refine Exists.intro 2000 (And.intro (sv_K hs ho 4) (And.intro (am_vp_ok b2) ?_))
        refine And.intro (fun c3 => ?_) (fun c3 => ?_)
        · rw [if_pos c3] at hf
          refine AW_go okX6_tell 2 ?_
          refine AW_pick (lv' := [(0, .ref o), (1, .int a1), (2, .int (x2i + Int32.ofInt 1))]) [1, 2, 0] rfl ?_
          exact ih o a1 (x2i + Int32.ofInt 1) h _ _ ho hs hf
        · rw [if_neg c3] at hf
          obtain ⟨b4, hf⟩ := am_bis hf
          refine AW_go okX6_tell 5 ?_
          refine And.intro (sv_K0 hs ho) (Exists.intro _ (And.intro (sv_A hs ho 2 1) ?_))
          refine Exists.intro 5 (And.intro (sv_K hs ho 1) (And.intro (am_vp_ok b4) ?_))
          refine And.intro (fun c5 => ?_) (fun c5 => ?_)
          · rw [if_neg c5] at hf
            refine AW_go okX6_tell 10 ?_
            refine And.intro (sv_K0 hs ho) (Exists.intro _ (And.intro (sv_A hs ho 2 1) ?_))
            refine Exists.intro 5 (And.intro (sv_K hs ho 1) (And.intro (am_vp_ok b4) ?_))
            refine Exists.intro 5 (And.intro (sv_K hs ho 1) (And.intro (am_vp_ok b4) ?_))
            refine AW_pick (lv' := [(0, .ref o), (1, .int a1), (2, .int (x2i + Int32.ofInt 1))]) [1, 2, 0] rfl ?_
            exact ih o a1 (x2i + Int32.ofInt 1) (am_sI h (o + 1) (Int32.toNatClampNeg x2i) ((am_I h (o + 1) (Int32.toNatClampNeg x2i)) + (Int32.ofInt 1))) _ _ ho hs hf
          · rw [if_pos c5] at hf
            refine AW_go okX6_tell 15 ?_
            refine And.intro (sv_K0 hs ho) (Exists.intro _ (And.intro (sv_A hs ho 3 2) ?_))
            refine Exists.intro 5 (And.intro (sv_K hs ho 2) (And.intro (am_vp_ok b4) ?_))
            refine And.intro (sv_K0 hs ho) (Exists.intro _ (And.intro (sv_A hs ho 2 1) ?_))
            refine Exists.intro 5 (And.intro (sv_K hs ho 1) (And.intro (am_vp_ok b4) ?_))
            refine Exists.intro 5 (And.intro (sv_K hs ho 1) (And.intro (am_vp_ok b4) ?_))
            refine AW_pick (lv' := [(0, .ref o), (1, .int a1), (2, .int (x2i + Int32.ofInt 1))]) [1, 2, 0] rfl ?_
            exact ih o a1 (x2i + Int32.ofInt 1) (am_sI (am_sI h (o + 2) (Int32.toNatClampNeg x2i) a1) (o + 1) (Int32.toNatClampNeg x2i) ((am_I (am_sI h (o + 2) (Int32.toNatClampNeg x2i) a1) (o + 1) (Int32.toNatClampNeg x2i)) + (Int32.ofInt 1))) _ _ ho hs hf
def f_X6_tell (n : Nat) (o : Nat) (a1 : Int32) (h : am_H) : Option (Unit × am_H) := bif am_vp a1 2000 then ((if ((am_I h (o + 4) (Int32.toNatClampNeg a1)) &&& (Int32.ofInt 32)) = 0 then g_X6_tell n 0 o a1 (Int32.ofInt 0) (am_sI h (o + 4) (Int32.toNatClampNeg a1) ((am_I h (o + 4) (Int32.toNatClampNeg a1)) ||| (Int32.ofInt 8))) else g_X6_tell n 0 o a1 (Int32.ofInt 0) h)) else none
set_option maxRecDepth 100000 in
theorem s_X6_tell (n : Nat) (o : Nat) (a1 : Int32) (h : am_H) (ho : o = 37 ∨ o = 49) (hs : am_stat h) {v : Unit} {h' : am_H} (hf : f_X6_tell n o a1 h = some (v, h')) : am_stat h' := by
  unfold f_X6_tell at hf
  obtain ⟨b1, hf⟩ := am_bis hf
  by_cases c2 : ((am_I h (o + 4) (Int32.toNatClampNeg a1)) &&& (Int32.ofInt 32)) = 0
  · rw [if_pos c2] at hf
    exact (m_X6_tell n) o a1 (Int32.ofInt 0) (am_sI h (o + 4) (Int32.toNatClampNeg a1) ((am_I h (o + 4) (Int32.toNatClampNeg a1)) ||| (Int32.ofInt 8))) _ _ ho hs hf
  · rw [if_neg c2] at hf
    exact (m_X6_tell n) o a1 (Int32.ofInt 0) h _ _ ho hs hf
set_option maxRecDepth 100000 in
theorem c_X6_tell (n : Nat) (o : Nat) (a1 : Int32) (h : am_H) (ho : o = 37 ∨ o = 49) (hs : am_stat h) {v : Unit} {h' : am_H} (hf : f_X6_tell n o a1 h = some (v, h')) : AMet mX6_tell (rX6_tell 0 0) (fun r h2 => r = none ∧ h2 = h') [.ref o, .int a1] h := by
  unfold f_X6_tell at hf
  obtain ⟨b1, hf⟩ := am_bis hf
  refine AW_go okX6_tell 7 ?_
  refine And.intro (sv_K0 hs ho) (Exists.intro _ (And.intro (sv_A hs ho 6 4) ?_))
  refine Exists.intro 2000 (And.intro (sv_K hs ho 4) (And.intro (am_vp_ok b1) ?_))
  refine And.intro (fun c2 => ?_) (fun c2 => ?_)
  · rw [if_neg c2] at hf
    refine AW_go okX6_tell 2 ?_
    refine AW_pick (lv' := [(0, .ref o), (1, .int a1), (2, .int (Int32.ofInt 0))]) [1, 2, 0] rfl ?_
    exact (l_X6_tell n) o a1 (Int32.ofInt 0) h _ _ ho hs hf
  · rw [if_pos c2] at hf
    refine AW_go okX6_tell 10 ?_
    refine And.intro (sv_K0 hs ho) (Exists.intro _ (And.intro (sv_A hs ho 6 4) ?_))
    refine Exists.intro 2000 (And.intro (sv_K hs ho 4) (And.intro (am_vp_ok b1) ?_))
    refine Exists.intro 2000 (And.intro (sv_K hs ho 4) (And.intro (am_vp_ok b1) ?_))
    refine AW_pick (lv' := [(0, .ref o), (1, .int a1), (2, .int (Int32.ofInt 0))]) [1, 2, 0] rfl ?_
    exact (l_X6_tell n) o a1 (Int32.ofInt 0) (am_sI h (o + 4) (Int32.toNatClampNeg a1) ((am_I h (o + 4) (Int32.toNatClampNeg a1)) ||| (Int32.ofInt 8))) _ _ ho hs hf
def f_X7_placeIn (a0 : Int64) (a2 : Int32) (h : am_H) : Option (Int32 × am_H) := some (((Int64.toInt32 ((Int64.toUInt64 a0 >>> ((Int32.toInt64 ((Int32.ofInt 4) * a2)).toUInt64 &&& Int64.toUInt64 63)).toInt64)) &&& (Int32.ofInt 15)), h)
set_option maxRecDepth 100000 in
theorem s_X7_placeIn (a0 : Int64) (a2 : Int32) (h : am_H) (hs : am_stat h) {v : Int32} {h' : am_H} (hf : f_X7_placeIn a0 a2 h = some (v, h')) : am_stat h' := by
  unfold f_X7_placeIn at hf
  cases hf
  exact hs
set_option maxRecDepth 100000 in
theorem c_X7_placeIn (a0 : Int64) (a2 : Int32) (h : am_H) (hs : am_stat h) {v : Int32} {h' : am_H} (hf : f_X7_placeIn a0 a2 h = some (v, h')) : AMet mX7_placeIn (rX7_placeIn 0 0) (fun r h2 => r = some (.int v) ∧ h2 = h') [.long a0, .int a2] h := by
  unfold f_X7_placeIn at hf
  refine AW_go okX7_placeIn 9 ?_
  cases hf
  exact And.intro ⟨(Nat.le_of_ble_eq_true rfl), (Nat.le_of_ble_eq_true rfl)⟩ (And.intro (Or.inl rfl) ⟨rfl, rfl⟩)
def f_X7_contentIn (a0 : Int64) (a2 : Int32) (h : am_H) : Option (Int32 × am_H) := some (((Int64.toInt32 ((Int64.toUInt64 a0 >>> ((Int32.toInt64 ((Int32.ofInt 12) + ((Int32.ofInt 8) * a2))).toUInt64 &&& Int64.toUInt64 63)).toInt64)) &&& (Int32.ofInt 255)), h)
set_option maxRecDepth 100000 in
theorem s_X7_contentIn (a0 : Int64) (a2 : Int32) (h : am_H) (hs : am_stat h) {v : Int32} {h' : am_H} (hf : f_X7_contentIn a0 a2 h = some (v, h')) : am_stat h' := by
  unfold f_X7_contentIn at hf
  cases hf
  exact hs
set_option maxRecDepth 100000 in
theorem c_X7_contentIn (a0 : Int64) (a2 : Int32) (h : am_H) (hs : am_stat h) {v : Int32} {h' : am_H} (hf : f_X7_contentIn a0 a2 h = some (v, h')) : AMet mX7_contentIn (rX7_contentIn 0 0) (fun r h2 => r = some (.int v) ∧ h2 = h') [.long a0, .int a2] h := by
  unfold f_X7_contentIn at hf
  refine AW_go okX7_contentIn 11 ?_
  cases hf
  exact And.intro ⟨(Nat.le_of_ble_eq_true rfl), (Nat.le_of_ble_eq_true rfl)⟩ (And.intro (Or.inl rfl) ⟨rfl, rfl⟩)
def f_X7_withContent (a0 : Int64) (a2 : Int32) (a3 : Int32) (h : am_H) : Option (Int64 × am_H) := some (((a0 &&& (((255 : Int64) <<< (Int32.toInt64 ((Int32.ofInt 12) + ((Int32.ofInt 8) * a2)) &&& 63)) ^^^ (-1 : Int64))) ||| ((Int32.toInt64 a3) <<< (Int32.toInt64 ((Int32.ofInt 12) + ((Int32.ofInt 8) * a2)) &&& 63))), h)
set_option maxRecDepth 100000 in
theorem s_X7_withContent (a0 : Int64) (a2 : Int32) (a3 : Int32) (h : am_H) (hs : am_stat h) {v : Int64} {h' : am_H} (hf : f_X7_withContent a0 a2 a3 h = some (v, h')) : am_stat h' := by
  unfold f_X7_withContent at hf
  cases hf
  exact hs
set_option maxRecDepth 100000 in
theorem c_X7_withContent (a0 : Int64) (a2 : Int32) (a3 : Int32) (h : am_H) (hs : am_stat h) {v : Int64} {h' : am_H} (hf : f_X7_withContent a0 a2 a3 h = some (v, h')) : AMet mX7_withContent (rX7_withContent 0 0) (fun r h2 => r = some (.long v) ∧ h2 = h') [.long a0, .int a2, .int a3] h := by
  unfold f_X7_withContent at hf
  refine AW_go okX7_withContent 19 ?_
  cases hf
  exact And.intro ⟨(Nat.le_of_ble_eq_true rfl), (Nat.le_of_ble_eq_true rfl)⟩ (And.intro rfl ⟨rfl, rfl⟩)
def f_X7_load (a0 : Int32) (a1 : Int32) (h : am_H) : Option (Int32 × am_H) := (if a0 = (Int32.ofInt 1) then some (((((a1 &&& (Int32.ofInt 3)) + (((Int32.toUInt32 a1 >>> (Int32.toUInt32 (Int32.ofInt 2) &&& Int32.toUInt32 31)).toInt32) &&& (Int32.ofInt 3))) + (((Int32.toUInt32 a1 >>> (Int32.toUInt32 (Int32.ofInt 4) &&& Int32.toUInt32 31)).toInt32) &&& (Int32.ofInt 3))) + ((Int32.toUInt32 a1 >>> (Int32.toUInt32 (Int32.ofInt 6) &&& Int32.toUInt32 31)).toInt32)), h) else some ((a1 &&& (Int32.ofInt 3)), h))
set_option maxRecDepth 100000 in
theorem s_X7_load (a0 : Int32) (a1 : Int32) (h : am_H) (hs : am_stat h) {v : Int32} {h' : am_H} (hf : f_X7_load a0 a1 h = some (v, h')) : am_stat h' := by
  unfold f_X7_load at hf
  by_cases c1 : a0 = (Int32.ofInt 1)
  · rw [if_pos c1] at hf
    cases hf
    exact hs
  · rw [if_neg c1] at hf
    cases hf
    exact hs
set_option maxRecDepth 100000 in
theorem c_X7_load (a0 : Int32) (a1 : Int32) (h : am_H) (hs : am_stat h) {v : Int32} {h' : am_H} (hf : f_X7_load a0 a1 h = some (v, h')) : AMet mX7_load (rX7_load 0 0) (fun r h2 => r = some (.int v) ∧ h2 = h') [.int a0, .int a1] h := by
  unfold f_X7_load at hf
  refine AW_go okX7_load 3 ?_
  refine And.intro (fun c1 => ?_) (fun c1 => ?_)
  · rw [if_pos c1] at hf
    refine AW_go okX7_load 20 ?_
    cases hf
    exact And.intro ⟨(Nat.le_of_ble_eq_true rfl), (Nat.le_of_ble_eq_true rfl)⟩ (And.intro (Or.inl rfl) ⟨rfl, rfl⟩)
  · rw [if_neg c1] at hf
    refine AW_go okX7_load 4 ?_
    cases hf
    exact And.intro ⟨(Nat.le_of_ble_eq_true rfl), (Nat.le_of_ble_eq_true rfl)⟩ (And.intro (Or.inl rfl) ⟨rfl, rfl⟩)
def f_X7_canTake (a0 : Int32) (a1 : Int32) (a2 : Int32) (h : am_H) : Option (Int32 × am_H) := (if a0 = (Int32.ofInt 1) then (if (((Int32.toUInt32 a1 >>> (Int32.toUInt32 ((Int32.ofInt 2) * a2) &&& Int32.toUInt32 31)).toInt32) &&& (Int32.ofInt 3)) = 0 then some ((Int32.ofInt 0), h) else some ((Int32.ofInt 1), h)) else (if (a1 &&& (Int32.ofInt 3)) = 0 then some ((Int32.ofInt 0), h) else (if (((Int32.toUInt32 a1 >>> (Int32.toUInt32 (Int32.ofInt 2) &&& Int32.toUInt32 31)).toInt32) &&& (Int32.ofInt 3)) = a2 then some ((Int32.ofInt 1), h) else some ((Int32.ofInt 0), h))))
set_option maxRecDepth 100000 in
theorem s_X7_canTake (a0 : Int32) (a1 : Int32) (a2 : Int32) (h : am_H) (hs : am_stat h) {v : Int32} {h' : am_H} (hf : f_X7_canTake a0 a1 a2 h = some (v, h')) : am_stat h' := by
  unfold f_X7_canTake at hf
  by_cases c1 : a0 = (Int32.ofInt 1)
  · rw [if_pos c1] at hf
    by_cases c2 : (((Int32.toUInt32 a1 >>> (Int32.toUInt32 ((Int32.ofInt 2) * a2) &&& Int32.toUInt32 31)).toInt32) &&& (Int32.ofInt 3)) = 0
    · rw [if_pos c2] at hf
      cases hf
      exact hs
    · rw [if_neg c2] at hf
      cases hf
      exact hs
  · rw [if_neg c1] at hf
    by_cases c3 : (a1 &&& (Int32.ofInt 3)) = 0
    · rw [if_pos c3] at hf
      cases hf
      exact hs
    · rw [if_neg c3] at hf
      by_cases c4 : (((Int32.toUInt32 a1 >>> (Int32.toUInt32 (Int32.ofInt 2) &&& Int32.toUInt32 31)).toInt32) &&& (Int32.ofInt 3)) = a2
      · rw [if_pos c4] at hf
        cases hf
        exact hs
      · rw [if_neg c4] at hf
        cases hf
        exact hs
set_option maxRecDepth 100000 in
theorem c_X7_canTake (a0 : Int32) (a1 : Int32) (a2 : Int32) (h : am_H) (hs : am_stat h) {v : Int32} {h' : am_H} (hf : f_X7_canTake a0 a1 a2 h = some (v, h')) : AMet mX7_canTake (rX7_canTake 0 0) (fun r h2 => r = some (.int v) ∧ h2 = h') [.int a0, .int a1, .int a2] h := by
  unfold f_X7_canTake at hf
  refine AW_go okX7_canTake 3 ?_
  refine And.intro (fun c1 => ?_) (fun c1 => ?_)
  · rw [if_neg c1] at hf
    refine AW_go okX7_canTake 4 ?_
    refine And.intro (fun c2 => ?_) (fun c2 => ?_)
    · rw [if_pos c2] at hf
      refine AW_go okX7_canTake 2 ?_
      cases hf
      exact And.intro ⟨(Nat.le_of_ble_eq_true rfl), (Nat.le_of_ble_eq_true rfl)⟩ (And.intro (Or.inr ⟨rfl, Or.inl rfl⟩) ⟨rfl, rfl⟩)
    · rw [if_neg c2] at hf
      refine AW_go okX7_canTake 7 ?_
      refine And.intro (fun c3 => ?_) (fun c3 => ?_)
      · rw [if_neg c3] at hf
        refine AW_go okX7_canTake 2 ?_
        cases hf
        exact And.intro ⟨(Nat.le_of_ble_eq_true rfl), (Nat.le_of_ble_eq_true rfl)⟩ (And.intro (Or.inr ⟨rfl, Or.inl rfl⟩) ⟨rfl, rfl⟩)
      · rw [if_pos c3] at hf
        refine AW_go okX7_canTake 3 ?_
        cases hf
        exact And.intro ⟨(Nat.le_of_ble_eq_true rfl), (Nat.le_of_ble_eq_true rfl)⟩ (And.intro (Or.inr ⟨rfl, Or.inr rfl⟩) ⟨rfl, rfl⟩)
  · rw [if_pos c1] at hf
    refine AW_go okX7_canTake 8 ?_
    refine And.intro (fun c4 => ?_) (fun c4 => ?_)
    · rw [if_pos c4] at hf
      refine AW_go okX7_canTake 2 ?_
      cases hf
      exact And.intro ⟨(Nat.le_of_ble_eq_true rfl), (Nat.le_of_ble_eq_true rfl)⟩ (And.intro (Or.inr ⟨rfl, Or.inl rfl⟩) ⟨rfl, rfl⟩)
    · rw [if_neg c4] at hf
      refine AW_go okX7_canTake 3 ?_
      cases hf
      exact And.intro ⟨(Nat.le_of_ble_eq_true rfl), (Nat.le_of_ble_eq_true rfl)⟩ (And.intro (Or.inr ⟨rfl, Or.inr rfl⟩) ⟨rfl, rfl⟩)
def f_X7_taken (a0 : Int32) (a1 : Int32) (a2 : Int32) (h : am_H) : Option (Int32 × am_H) := (if a0 = (Int32.ofInt 1) then some ((a1 - ((Int32.ofInt 1) <<< (((Int32.ofInt 2) * a2) &&& 31))), h) else some (((((Int32.toUInt32 a1 >>> (Int32.toUInt32 (Int32.ofInt 4) &&& Int32.toUInt32 31)).toInt32) <<< ((Int32.ofInt 2) &&& 31)) ||| ((a1 &&& (Int32.ofInt 3)) - (Int32.ofInt 1))), h))
set_option maxRecDepth 100000 in
theorem s_X7_taken (a0 : Int32) (a1 : Int32) (a2 : Int32) (h : am_H) (hs : am_stat h) {v : Int32} {h' : am_H} (hf : f_X7_taken a0 a1 a2 h = some (v, h')) : am_stat h' := by
  unfold f_X7_taken at hf
  by_cases c1 : a0 = (Int32.ofInt 1)
  · rw [if_pos c1] at hf
    cases hf
    exact hs
  · rw [if_neg c1] at hf
    cases hf
    exact hs
set_option maxRecDepth 100000 in
theorem c_X7_taken (a0 : Int32) (a1 : Int32) (a2 : Int32) (h : am_H) (hs : am_stat h) {v : Int32} {h' : am_H} (hf : f_X7_taken a0 a1 a2 h = some (v, h')) : AMet mX7_taken (rX7_taken 0 0) (fun r h2 => r = some (.int v) ∧ h2 = h') [.int a0, .int a1, .int a2] h := by
  unfold f_X7_taken at hf
  refine AW_go okX7_taken 3 ?_
  refine And.intro (fun c1 => ?_) (fun c1 => ?_)
  · rw [if_neg c1] at hf
    refine AW_go okX7_taken 12 ?_
    cases hf
    exact And.intro ⟨(Nat.le_of_ble_eq_true rfl), (Nat.le_of_ble_eq_true rfl)⟩ (And.intro (Or.inl rfl) ⟨rfl, rfl⟩)
  · rw [if_pos c1] at hf
    refine AW_go okX7_taken 9 ?_
    cases hf
    exact And.intro ⟨(Nat.le_of_ble_eq_true rfl), (Nat.le_of_ble_eq_true rfl)⟩ (And.intro (Or.inl rfl) ⟨rfl, rfl⟩)
def f_X7_put (a0 : Int32) (a1 : Int32) (a2 : Int32) (h : am_H) : Option (Int32 × am_H) := (if a0 = (Int32.ofInt 1) then some ((a1 + ((Int32.ofInt 1) <<< (((Int32.ofInt 2) * a2) &&& 31))), h) else some (((a1 + (Int32.ofInt 1)) + (a2 <<< (((Int32.ofInt 2) + ((Int32.ofInt 2) * (a1 &&& (Int32.ofInt 3)))) &&& 31))), h))
set_option maxRecDepth 100000 in
theorem s_X7_put (a0 : Int32) (a1 : Int32) (a2 : Int32) (h : am_H) (hs : am_stat h) {v : Int32} {h' : am_H} (hf : f_X7_put a0 a1 a2 h = some (v, h')) : am_stat h' := by
  unfold f_X7_put at hf
  by_cases c1 : a0 = (Int32.ofInt 1)
  · rw [if_pos c1] at hf
    cases hf
    exact hs
  · rw [if_neg c1] at hf
    cases hf
    exact hs
set_option maxRecDepth 100000 in
theorem c_X7_put (a0 : Int32) (a1 : Int32) (a2 : Int32) (h : am_H) (hs : am_stat h) {v : Int32} {h' : am_H} (hf : f_X7_put a0 a1 a2 h = some (v, h')) : AMet mX7_put (rX7_put 0 0) (fun r h2 => r = some (.int v) ∧ h2 = h') [.int a0, .int a1, .int a2] h := by
  unfold f_X7_put at hf
  refine AW_go okX7_put 3 ?_
  refine And.intro (fun c1 => ?_) (fun c1 => ?_)
  · rw [if_neg c1] at hf
    refine AW_go okX7_put 14 ?_
    cases hf
    exact And.intro ⟨(Nat.le_of_ble_eq_true rfl), (Nat.le_of_ble_eq_true rfl)⟩ (And.intro (Or.inl rfl) ⟨rfl, rfl⟩)
  · rw [if_pos c1] at hf
    refine AW_go okX7_put 9 ?_
    cases hf
    exact And.intro ⟨(Nat.le_of_ble_eq_true rfl), (Nat.le_of_ble_eq_true rfl)⟩ (And.intro (Or.inl rfl) ⟨rfl, rfl⟩)
def f_X7_listStep (a1 : Int32) (a2 : Int64) (h : am_H) : Option (Unit × am_H) := bif am_vp (am_I h 28 5) 90 then (bif am_vp (am_I (am_sI h 31 (Int32.toNatClampNeg (am_I h 28 5)) a1) 28 5) 90 then (some ((), (am_sI (am_sJ (am_sI h 31 (Int32.toNatClampNeg (am_I h 28 5)) a1) 32 (Int32.toNatClampNeg (am_I (am_sI h 31 (Int32.toNatClampNeg (am_I h 28 5)) a1) 28 5)) a2) 28 5 ((am_I (am_sJ (am_sI h 31 (Int32.toNatClampNeg (am_I h 28 5)) a1) 32 (Int32.toNatClampNeg (am_I (am_sI h 31 (Int32.toNatClampNeg (am_I h 28 5)) a1) 28 5)) a2) 28 5) + (Int32.ofInt 1))))) else none) else none
set_option maxRecDepth 100000 in
theorem s_X7_listStep (a1 : Int32) (a2 : Int64) (h : am_H) (hs : am_stat h) {v : Unit} {h' : am_H} (hf : f_X7_listStep a1 a2 h = some (v, h')) : am_stat h' := by
  unfold f_X7_listStep at hf
  obtain ⟨b1, hf⟩ := am_bis hf
  obtain ⟨b2, hf⟩ := am_bis hf
  cases hf
  exact hs
set_option maxRecDepth 100000 in
theorem c_X7_listStep (a1 : Int32) (a2 : Int64) (h : am_H) (hs : am_stat h) {v : Unit} {h' : am_H} (hf : f_X7_listStep a1 a2 h = some (v, h')) : AMet mX7_listStep (rX7_listStep 0 0) (fun r h2 => r = none ∧ h2 = h') [.ref 28, .int a1, .long a2] h := by
  unfold f_X7_listStep at hf
  obtain ⟨b1, hf⟩ := am_bis hf
  obtain ⟨b2, hf⟩ := am_bis hf
  refine AW_go okX7_listStep 19 ?_
  refine And.intro (sK hs 28) (Exists.intro _ (And.intro (sA hs 28 3) ?_))
  refine And.intro (sK hs 28) ?_
  refine Exists.intro 90 (And.intro (sK hs 31) (And.intro (am_vp_ok b1) ?_))
  refine And.intro (sK hs 28) (Exists.intro _ (And.intro (sA hs 28 4) ?_))
  refine And.intro (sK hs 28) ?_
  refine Exists.intro 90 (And.intro (sK hs 32) (And.intro (am_vp_ok b2) ?_))
  refine And.intro (sK hs 28) ?_
  refine And.intro (sK hs 28) ?_
  cases hf
  exact And.intro ⟨(Nat.le_of_ble_eq_true rfl), (Nat.le_of_ble_eq_true rfl)⟩ (And.intro rfl ⟨rfl, rfl⟩)
def f_X7_mayAt (a1 : Int64) (a3 : Int32) (h : am_H) : Option (Int32 × am_H) := am_b2 (f_X7_placeIn a1 a3 h) fun r1 h2 => (bif am_vp (((Int32.ofInt 16) * a3) + r1) 48 then (some ((am_I h2 34 (Int32.toNatClampNeg (((Int32.ofInt 16) * a3) + r1))), h2)) else none)
set_option maxRecDepth 100000 in
theorem s_X7_mayAt (a1 : Int64) (a3 : Int32) (h : am_H) (hs : am_stat h) {v : Int32} {h' : am_H} (hf : f_X7_mayAt a1 a3 h = some (v, h')) : am_stat h' := by
  unfold f_X7_mayAt at hf
  obtain ⟨r1, h2, e3, hf⟩ := am_b2_ok hf
  have hs := s_X7_placeIn a1 a3 h hs e3
  obtain ⟨b4, hf⟩ := am_bis hf
  cases hf
  exact hs
set_option maxRecDepth 100000 in
theorem c_X7_mayAt (a1 : Int64) (a3 : Int32) (h : am_H) (hs : am_stat h) {v : Int32} {h' : am_H} (hf : f_X7_mayAt a1 a3 h = some (v, h')) : AMet mX7_mayAt (rX7_mayAt 0 0) (fun r h2 => r = some (.int v) ∧ h2 = h') [.ref 28, .long a1, .int a3] h := by
  unfold f_X7_mayAt at hf
  refine AW_go okX7_mayAt 7 ?_
  refine And.intro (sK hs 28) (Exists.intro _ (And.intro (sA hs 28 7) ?_))
  obtain ⟨r1, h2, e3, hf⟩ := am_b2_ok hf
  refine AW_callS (As := [.long a1, .int a3]) (R' := rX7_placeIn 0 0) (okX7_mayAt.1 10 _ _ rfl) lkX7_placeIn (Or.inl kX7_110) rfl (Nat.le_of_ble_eq_true rfl) ⟨by decide, by decide⟩ ⟨(Nat.le_of_ble_eq_true rfl), (Nat.le_of_ble_eq_true rfl)⟩ (Nat.le_of_ble_eq_true rfl) (c_X7_placeIn a1 a3 h hs e3) (fun r h' hq => ?_)
  obtain ⟨rfl, hq⟩ := hq
  replace hq := hq.symm
  subst hq
  have hs := s_X7_placeIn a1 a3 h hs e3
  obtain ⟨b4, hf⟩ := am_bis hf
  refine AW_go okX7_mayAt 3 ?_
  refine Exists.intro 48 (And.intro (sK hs 34) (And.intro (am_vp_ok b4) ?_))
  cases hf
  exact And.intro ⟨(Nat.le_of_ble_eq_true rfl), (Nat.le_of_ble_eq_true rfl)⟩ (And.intro (Or.inl rfl) ⟨rfl, rfl⟩)
def f_X8_blank (h : am_H) : Option (Int32 × am_H) := some ((am_I h 1 1), (am_sI h 1 1 (Int32.ofInt 0)))
set_option maxRecDepth 100000 in
theorem s_X8_blank (h : am_H) (hs : am_stat h) {v : Int32} {h' : am_H} (hf : f_X8_blank h = some (v, h')) : am_stat h' := by
  unfold f_X8_blank at hf
  cases hf
  exact hs
set_option maxRecDepth 100000 in
theorem c_X8_blank (h : am_H) (hs : am_stat h) {v : Int32} {h' : am_H} (hf : f_X8_blank h = some (v, h')) : AMet mX8_blank (rX8_blank 0 0) (fun r h2 => r = some (.int v) ∧ h2 = h') [.ref 0] h := by
  unfold f_X8_blank at hf
  refine AW_go okX8_blank 10 ?_
  refine And.intro (sK hs 0) (Exists.intro _ (And.intro (sA hs 0 0) ?_))
  refine And.intro (sK hs 1) ?_
  refine And.intro (sK hs 0) (Exists.intro _ (And.intro (sA hs 0 0) ?_))
  refine And.intro (sK hs 1) ?_
  cases hf
  exact And.intro ⟨(Nat.le_of_ble_eq_true rfl), (Nat.le_of_ble_eq_true rfl)⟩ (And.intro (Or.inl rfl) ⟨rfl, rfl⟩)
def f_X8_with (a0 : Int64) (a2 : Int64) (h : am_H) : Option (Int64 × am_H) := some ((((31 : Int64) * a0) + a2), h)
set_option maxRecDepth 100000 in
theorem s_X8_with (a0 : Int64) (a2 : Int64) (h : am_H) (hs : am_stat h) {v : Int64} {h' : am_H} (hf : f_X8_with a0 a2 h = some (v, h')) : am_stat h' := by
  unfold f_X8_with at hf
  cases hf
  exact hs
set_option maxRecDepth 100000 in
theorem c_X8_with (a0 : Int64) (a2 : Int64) (h : am_H) (hs : am_stat h) {v : Int64} {h' : am_H} (hf : f_X8_with a0 a2 h = some (v, h')) : AMet mX8_with (rX8_with 0 0) (fun r h2 => r = some (.long v) ∧ h2 = h') [.long a0, .long a2] h := by
  unfold f_X8_with at hf
  refine AW_go okX8_with 6 ?_
  cases hf
  exact And.intro ⟨(Nat.le_of_ble_eq_true rfl), (Nat.le_of_ble_eq_true rfl)⟩ (And.intro rfl ⟨rfl, rfl⟩)
def f_X8_isBook (a1 : Int32) (h : am_H) : Option (Int32 × am_H) := (if a1 < 0 then some ((Int32.ofInt 0), h) else (if (am_I h 0 5) ≤ a1 then some ((Int32.ofInt 0), h) else some ((Int32.ofInt 1), h)))
set_option maxRecDepth 100000 in
theorem s_X8_isBook (a1 : Int32) (h : am_H) (hs : am_stat h) {v : Int32} {h' : am_H} (hf : f_X8_isBook a1 h = some (v, h')) : am_stat h' := by
  unfold f_X8_isBook at hf
  by_cases c1 : a1 < 0
  · rw [if_pos c1] at hf
    cases hf
    exact hs
  · rw [if_neg c1] at hf
    by_cases c2 : (am_I h 0 5) ≤ a1
    · rw [if_pos c2] at hf
      cases hf
      exact hs
    · rw [if_neg c2] at hf
      cases hf
      exact hs
set_option maxRecDepth 100000 in
theorem c_X8_isBook (a1 : Int32) (h : am_H) (hs : am_stat h) {v : Int32} {h' : am_H} (hf : f_X8_isBook a1 h = some (v, h')) : AMet mX8_isBook (rX8_isBook 0 0) (fun r h2 => r = some (.int v) ∧ h2 = h') [.ref 0, .int a1] h := by
  unfold f_X8_isBook at hf
  refine AW_go okX8_isBook 2 ?_
  refine And.intro (fun c1 => ?_) (fun c1 => ?_)
  · rw [if_pos c1] at hf
    refine AW_go okX8_isBook 2 ?_
    cases hf
    exact And.intro ⟨(Nat.le_of_ble_eq_true rfl), (Nat.le_of_ble_eq_true rfl)⟩ (And.intro (Or.inr ⟨rfl, Or.inl rfl⟩) ⟨rfl, rfl⟩)
  · rw [if_neg c1] at hf
    refine AW_go okX8_isBook 4 ?_
    refine And.intro (sK hs 0) ?_
    refine And.intro (fun c2 => ?_) (fun c2 => ?_)
    · rw [if_pos c2] at hf
      refine AW_go okX8_isBook 2 ?_
      cases hf
      exact And.intro ⟨(Nat.le_of_ble_eq_true rfl), (Nat.le_of_ble_eq_true rfl)⟩ (And.intro (Or.inr ⟨rfl, Or.inl rfl⟩) ⟨rfl, rfl⟩)
    · rw [if_neg c2] at hf
      refine AW_go okX8_isBook 3 ?_
      cases hf
      exact And.intro ⟨(Nat.le_of_ble_eq_true rfl), (Nat.le_of_ble_eq_true rfl)⟩ (And.intro (Or.inr ⟨rfl, Or.inr rfl⟩) ⟨rfl, rfl⟩)
