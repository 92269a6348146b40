def g_X9_asState : Nat → Nat → Int64 → Int32 → am_H → Option (Int64 × am_H)
  | 0, _, _, _, _ => none
  | n + 1, tag, x1j, x3i, h => bif Nat.beq tag 0 then ((if (Int32.ofInt 3) ≤ x3i then g_X9_asState n 1 x1j (Int32.ofInt 0) h else bif am_vp x3i 3 then (g_X9_asState n 0 (((16 : Int64) * x1j) + (Int32.toInt64 (am_I h 77 (Int32.toNatClampNeg x3i)))) (x3i + Int32.ofInt 1) h) else none)) else ((if (Int32.ofInt 9) ≤ x3i then some (x1j, h) else Option.bind ((if (x3i - x3i / (Int32.ofInt 4) * (Int32.ofInt 4)) = 0 then some x1j else bif am_vp x3i 9 then (some (((128 : Int64) * x1j) + (Int32.toInt64 (am_I h 78 (Int32.toNatClampNeg x3i))))) else none)) fun y2 => (g_X9_asState n 1 y2 (x3i + Int32.ofInt 1) h)))
set_option maxRecDepth 100000 in
set_option maxHeartbeats 4000000 in
theorem m_X9_asState (n : Nat) : (∀ (x1j : Int64) (x3i : Int32) (h : am_H) (v : Int64) (h' : am_H), am_stat h → g_X9_asState n 0 x1j x3i h = some (v, h') → am_stat h') ∧ (∀ (x1j : Int64) (x3i : Int32) (h : am_H) (v : Int64) (h' : am_H), am_stat h → g_X9_asState n 1 x1j x3i h = some (v, h') → am_stat h') := by
  induction n with
  | zero => exact ⟨fun x1j x3i h v h' hs hf => (by cases hf), fun x1j x3i h v h' hs hf => (by cases hf)⟩
  | succ n ih =>
    refine ⟨?_, ?_⟩
    · intro x1j x3i h v h' hs hf
      have hf : ((if (Int32.ofInt 3) ≤ x3i then g_X9_asState n 1 x1j (Int32.ofInt 0) h else bif am_vp x3i 3 then (g_X9_asState n 0 (((16 : Int64) * x1j) + (Int32.toInt64 (am_I h 77 (Int32.toNatClampNeg x3i)))) (x3i + Int32.ofInt 1) h) else none)) = some (v, h') := hf
      by_cases c1 : (Int32.ofInt 3) ≤ x3i
      · rw [if_pos c1] at hf
        exact ih.2 x1j (Int32.ofInt 0) h _ _ hs hf
      · rw [if_neg c1] at hf
        obtain ⟨b2, hf⟩ := am_bis hf
        exact ih.1 (((16 : Int64) * x1j) + (Int32.toInt64 (am_I h 77 (Int32.toNatClampNeg x3i)))) (x3i + Int32.ofInt 1) h _ _ hs hf
    · intro x1j x3i h v h' hs hf
      have hf : ((if (Int32.ofInt 9) ≤ x3i then some (x1j, h) else Option.bind ((if (x3i - x3i / (Int32.ofInt 4) * (Int32.ofInt 4)) = 0 then some x1j else bif am_vp x3i 9 then (some (((128 : Int64) * x1j) + (Int32.toInt64 (am_I h 78 (Int32.toNatClampNeg x3i))))) else none)) fun y2 => (g_X9_asState n 1 y2 (x3i + Int32.ofInt 1) h))) = some (v, h') := hf
      by_cases c1 : (Int32.ofInt 9) ≤ x3i
      · rw [if_pos c1] at hf
        obtain ⟨rfl, rfl⟩ := am_i2 hf
        exact hs
      · rw [if_neg c1] at hf
        obtain ⟨y2, j3, hf⟩ := am_bnd hf
        exact ih.2 y2 (x3i + Int32.ofInt 1) h _ _ hs hf
set_option maxRecDepth 100000 in
set_option maxHeartbeats 4000000 in
theorem l_X9_asState (n : Nat) : (∀ (x1j : Int64) (x3i : Int32) (h : am_H) (v : Int64) (h' : am_H), am_stat h → g_X9_asState n 0 x1j x3i h = some (v, h') → AW mX9_asState (rX9_asState 0 0) (fun r h2 => r = some (.long v) ∧ h2 = h') 4 [(0, .ref 51), (1, .long x1j), (3, .int x3i)] [] h 0 0) ∧ (∀ (x1j : Int64) (x3i : Int32) (h : am_H) (v : Int64) (h' : am_H), am_stat h → g_X9_asState n 1 x1j x3i h = some (v, h') → AW mX9_asState (rX9_asState 0 0) (fun r h2 => r = some (.long v) ∧ h2 = h') 31 [(0, .ref 51), (1, .long x1j), (3, .int x3i)] [] h 0 0) := by
  induction n with
  | zero => exact ⟨fun x1j x3i h v h' hs hf => (by cases hf), fun x1j x3i h v h' hs hf => (by cases hf)⟩
  | succ n ih =>
    refine ⟨?_, ?_⟩
    · intro x1j x3i h v h' hs hf
      have hf : ((if (Int32.ofInt 3) ≤ x3i then g_X9_asState n 1 x1j (Int32.ofInt 0) h else bif am_vp x3i 3 then (g_X9_asState n 0 (((16 : Int64) * x1j) + (Int32.toInt64 (am_I h 77 (Int32.toNatClampNeg x3i)))) (x3i + Int32.ofInt 1) h) else none)) = some (v, h') := hf
      refine AW_go okX9_asState 3 ?_
      refine And.intro (fun c1 => ?_) (fun c1 => ?_)
      · rw [if_pos c1] at hf
        refine AW_go okX9_asState 2 ?_
        refine AW_pick (lv' := [(0, .ref 51), (1, .long x1j), (3, .int (Int32.ofInt 0))]) [1, 2, 0] rfl ?_
        exact ih.2 x1j (Int32.ofInt 0) h _ _ hs hf
      · rw [if_neg c1] at hf
        obtain ⟨b2, hf⟩ := am_bis hf
        refine AW_go okX9_asState 12 ?_
        refine And.intro (sK hs 51) (Exists.intro _ (And.intro (sA hs 51 38) ?_))
        refine Exists.intro 3 (And.intro (sK hs 77) (And.intro (am_vp_ok b2) ?_))
        refine AW_pick (lv' := [(0, .ref 51), (1, .long (((16 : Int64) * x1j) + (Int32.toInt64 (am_I h 77 (Int32.toNatClampNeg x3i))))), (3, .int (x3i + Int32.ofInt 1))]) [2, 1, 0] rfl ?_
        exact ih.1 (((16 : Int64) * x1j) + (Int32.toInt64 (am_I h 77 (Int32.toNatClampNeg x3i)))) (x3i + Int32.ofInt 1) h _ _ hs hf
    · intro x1j x3i h v h' hs hf
      have hf : ((if (Int32.ofInt 9) ≤ x3i then some (x1j, h) else Option.bind ((if (x3i - x3i / (Int32.ofInt 4) * (Int32.ofInt 4)) = 0 then some x1j else bif am_vp x3i 9 then (some (((128 : Int64) * x1j) + (Int32.toInt64 (am_I h 78 (Int32.toNatClampNeg x3i))))) else none)) fun y2 => (g_X9_asState n 1 y2 (x3i + Int32.ofInt 1) h))) = some (v, h') := hf
      refine AW_go okX9_asState 3 ?_
      refine And.intro (fun c1 => ?_) (fun c1 => ?_)
      · rw [if_pos c1] at hf
        refine AW_go okX9_asState 2 ?_
        obtain ⟨rfl, rfl⟩ := am_i2 hf
        exact And.intro ⟨(Nat.le_of_ble_eq_true rfl), (Nat.le_of_ble_eq_true rfl)⟩ (And.intro rfl ⟨rfl, rfl⟩)
      · rw [if_neg c1] at hf
        refine AW_go okX9_asState 3 ?_
        refine And.intro (by decide) ?_
        obtain ⟨y2, j3, hf⟩ := am_bnd hf
        refine am_cut (P := AW mX9_asState (rX9_asState 0 0) (fun r h2 => r = some (.long v) ∧ h2 = h') 60 [(0, .ref 51), (1, .long x1j), (3, .int x3i)] [.long y2] h 0 0) (fun hJ3 => ?_) ?_
        · have hs := hs
          refine AW_go okX9_asState 1 ?_
          refine And.intro (fun c4 => ?_) (fun c4 => ?_)
          · rw [if_neg c4] at j3
            obtain ⟨b5, j3⟩ := am_bis j3
            refine AW_go okX9_asState 9 ?_
            refine And.intro (sK hs 51) (Exists.intro _ (And.intro (sA hs 51 39) ?_))
            refine Exists.intro 9 (And.intro (sK hs 78) (And.intro (am_vp_ok b5) ?_))
            obtain rfl := am_i1 j3
            exact AW_pick [0, 1, 2] rfl hJ3
          · rw [if_pos c4] at j3
            refine AW_go okX9_asState 2 ?_
            obtain rfl := am_i1 j3
            exact AW_pick [0, 1, 2] rfl hJ3
        refine AW_go okX9_asState 3 ?_
        refine AW_pick (lv' := [(0, .ref 51), (1, .long y2), (3, .int (x3i + Int32.ofInt 1))]) [2, 1, 0] rfl ?_
        exact ih.2 y2 (x3i + Int32.ofInt 1) h _ _ hs hf
def f_X9_asState (n : Nat) (h : am_H) : Option (Int64 × am_H) := g_X9_asState n 0 (Int64.ofNat (0 : Fin 2).val) (Int32.ofInt 0) h
set_option maxRecDepth 100000 in
theorem s_X9_asState (n : Nat) (h : am_H) (hs : am_stat h) {v : Int64} {h' : am_H} (hf : f_X9_asState n h = some (v, h')) : am_stat h' := by
  unfold f_X9_asState at hf
  exact (m_X9_asState n).1 (Int64.ofNat (0 : Fin 2).val) (Int32.ofInt 0) h _ _ hs hf
set_option maxRecDepth 100000 in
theorem c_X9_asState (n : Nat) (h : am_H) (hs : am_stat h) {v : Int64} {h' : am_H} (hf : f_X9_asState n h = some (v, h')) : AMet mX9_asState (rX9_asState 0 0) (fun r h2 => r = some (.long v) ∧ h2 = h') [.ref 51] h := by
  unfold f_X9_asState at hf
  refine AW_go okX9_asState 4 ?_
  refine AW_pick (lv' := [(0, .ref 51), (1, .long (Int64.ofNat (0 : Fin 2).val)), (3, .int (Int32.ofInt 0))]) [2, 1, 0] rfl ?_
  exact (l_X9_asState n).1 (Int64.ofNat (0 : Fin 2).val) (Int32.ofInt 0) h _ _ hs hf
def g_X9_layState : Nat → Nat → Int64 → Int64 → Int32 → am_H → Option (Unit × am_H)
  | 0, _, _, _, _, _ => none
  | n + 1, tag, a1, x3j, x5i, h => bif Nat.beq tag 0 then ((if x5i < 0 then g_X9_layState n 1 a1 x3j (Int32.ofInt 2) h else am_b2 ((if (x5i - x5i / (Int32.ofInt 4) * (Int32.ofInt 4)) = 0 then some (x3j, h) else bif am_vp x5i 9 then (some ((x3j / (128 : Int64)), (am_sI h 78 (Int32.toNatClampNeg x5i) (Int64.toInt32 (x3j - x3j / (128 : Int64) * (128 : Int64)))))) else none)) fun y2 h3 => (g_X9_layState n 0 a1 y2 (x5i + Int32.ofInt (-1)) h3))) else ((if x5i < 0 then some ((), h) else bif am_vp x5i 3 then (g_X9_layState n 1 a1 (x3j / (16 : Int64)) (x5i + Int32.ofInt (-1)) (am_sI h 77 (Int32.toNatClampNeg x5i) (Int64.toInt32 (x3j - x3j / (16 : Int64) * (16 : Int64))))) else none))
set_option maxRecDepth 100000 in
set_option maxHeartbeats 4000000 in
theorem m_X9_layState (n : Nat) : (∀ (a1 : Int64) (x3j : Int64) (x5i : Int32) (h : am_H) (v : Unit) (h' : am_H), am_stat h → g_X9_layState n 0 a1 x3j x5i h = some (v, h') → am_stat h') ∧ (∀ (a1 : Int64) (x3j : Int64) (x5i : Int32) (h : am_H) (v : Unit) (h' : am_H), am_stat h → g_X9_layState n 1 a1 x3j x5i h = some (v, h') → am_stat h') := by
  induction n with
  | zero => exact ⟨fun a1 x3j x5i h v h' hs hf => (by cases hf), fun a1 x3j x5i h v h' hs hf => (by cases hf)⟩
  | succ n ih =>
    refine ⟨?_, ?_⟩
    · intro a1 x3j x5i h v h' hs hf
      have hf : ((if x5i < 0 then g_X9_layState n 1 a1 x3j (Int32.ofInt 2) h else am_b2 ((if (x5i - x5i / (Int32.ofInt 4) * (Int32.ofInt 4)) = 0 then some (x3j, h) else bif am_vp x5i 9 then (some ((x3j / (128 : Int64)), (am_sI h 78 (Int32.toNatClampNeg x5i) (Int64.toInt32 (x3j - x3j / (128 : Int64) * (128 : Int64)))))) else none)) fun y2 h3 => (g_X9_layState n 0 a1 y2 (x5i + Int32.ofInt (-1)) h3))) = some (v, h') := hf
      by_cases c1 : x5i < 0
      · rw [if_pos c1] at hf
        exact ih.2 a1 x3j (Int32.ofInt 2) h _ _ hs hf
      · rw [if_neg c1] at hf
        obtain ⟨y2, h3, j4, hf⟩ := am_b2_ok hf
        have hs0 := hs
        have hs : am_stat h3 := by
          have hs := hs0
          by_cases c5 : (x5i - x5i / (Int32.ofInt 4) * (Int32.ofInt 4)) = 0
          · rw [if_pos c5] at j4
            obtain ⟨rfl, rfl⟩ := am_i2 j4
            exact hs
          · rw [if_neg c5] at j4
            obtain ⟨b6, j4⟩ := am_bis j4
            obtain ⟨rfl, rfl⟩ := am_i2 j4
            exact hs
        exact ih.1 a1 y2 (x5i + Int32.ofInt (-1)) h3 _ _ hs hf
    · intro a1 x3j x5i h v h' hs hf
      have hf : ((if x5i < 0 then some ((), h) else bif am_vp x5i 3 then (g_X9_layState n 1 a1 (x3j / (16 : Int64)) (x5i + Int32.ofInt (-1)) (am_sI h 77 (Int32.toNatClampNeg x5i) (Int64.toInt32 (x3j - x3j / (16 : Int64) * (16 : Int64))))) else none)) = some (v, h') := hf
      by_cases c1 : x5i < 0
      · rw [if_pos c1] at hf
        obtain ⟨rfl, rfl⟩ := am_i2 hf
        exact hs
      · rw [if_neg c1] at hf
        obtain ⟨b2, hf⟩ := am_bis hf
        exact ih.2 a1 (x3j / (16 : Int64)) (x5i + Int32.ofInt (-1)) (am_sI h 77 (Int32.toNatClampNeg x5i) (Int64.toInt32 (x3j - x3j / (16 : Int64) * (16 : Int64)))) _ _ hs hf
set_option maxRecDepth 100000 in
set_option maxHeartbeats 4000000 in
theorem l_X9_layState (n : Nat) : (∀ (a1 : Int64) (x3j : Int64) (x5i : Int32) (h : am_H) (v : Unit) (h' : am_H), am_stat h → g_X9_layState n 0 a1 x3j x5i h = some (v, h') → AW mX9_layState (rX9_layState 0 0) (fun r h2 => r = none ∧ h2 = h') 6 [(0, .ref 51), (1, .long a1), (3, .long x3j), (5, .int x5i)] [] h 0 0) ∧ (∀ (a1 : Int64) (x3j : Int64) (x5i : Int32) (h : am_H) (v : Unit) (h' : am_H), am_stat h → g_X9_layState n 1 a1 x3j x5i h = some (v, h') → AW mX9_layState (rX9_layState 0 0) (fun r h2 => r = none ∧ h2 = h') 46 [(0, .ref 51), (1, .long a1), (3, .long x3j), (5, .int x5i)] [] h 0 0) := by
  induction n with
  | zero => exact ⟨fun a1 x3j x5i h v h' hs hf => (by cases hf), fun a1 x3j x5i h v h' hs hf => (by cases hf)⟩
  | succ n ih =>
    refine ⟨?_, ?_⟩
    · intro a1 x3j x5i h v h' hs hf
      have hf : ((if x5i < 0 then g_X9_layState n 1 a1 x3j (Int32.ofInt 2) h else am_b2 ((if (x5i - x5i / (Int32.ofInt 4) * (Int32.ofInt 4)) = 0 then some (x3j, h) else bif am_vp x5i 9 then (some ((x3j / (128 : Int64)), (am_sI h 78 (Int32.toNatClampNeg x5i) (Int64.toInt32 (x3j - x3j / (128 : Int64) * (128 : Int64)))))) else none)) fun y2 h3 => (g_X9_layState n 0 a1 y2 (x5i + Int32.ofInt (-1)) h3))) = some (v, h') := hf
      refine AW_go okX9_layState 2 ?_
      refine And.intro (fun c1 => ?_) (fun c1 => ?_)
      · rw [if_pos c1] at hf
        refine AW_go okX9_layState 2 ?_
        refine AW_pick (lv' := [(0, .ref 51), (1, .long a1), (3, .long x3j), (5, .int (Int32.ofInt 2))]) [1, 2, 3, 0] rfl ?_
        exact ih.2 a1 x3j (Int32.ofInt 2) h _ _ hs hf
      · rw [if_neg c1] at hf
        refine AW_go okX9_layState 3 ?_
        refine And.intro (by decide) ?_
        obtain ⟨y2, h3, j4, hf⟩ := am_b2_ok hf
        have hs0 := hs
        have hs : am_stat h3 := by
          have hs := hs0
          by_cases c5 : (x5i - x5i / (Int32.ofInt 4) * (Int32.ofInt 4)) = 0
          · rw [if_pos c5] at j4
            obtain ⟨rfl, rfl⟩ := am_i2 j4
            exact hs
          · rw [if_neg c5] at j4
            obtain ⟨b6, j4⟩ := am_bis j4
            obtain ⟨rfl, rfl⟩ := am_i2 j4
            exact hs
        refine am_cut (P := AW mX9_layState (rX9_layState 0 0) (fun r h2 => r = none ∧ h2 = h') 37 [(0, .ref 51), (1, .long a1), (3, .long y2), (5, .int x5i)] [] h3 0 0) (fun hJ4 => ?_) ?_
        · have hs := hs0
          refine AW_go okX9_layState 1 ?_
          refine And.intro (fun c5 => ?_) (fun c5 => ?_)
          · rw [if_pos c5] at j4
            obtain ⟨rfl, rfl⟩ := am_i2 j4
            exact AW_pick [0, 1, 2, 3] rfl hJ4
          · rw [if_neg c5] at j4
            obtain ⟨b6, j4⟩ := am_bis j4
            refine AW_go okX9_layState 12 ?_
            refine And.intro (sK hs 51) (Exists.intro _ (And.intro (sA hs 51 39) ?_))
            refine And.intro (by decide) ?_
            refine Exists.intro 9 (And.intro (sK hs 78) (And.intro (am_vp_ok b6) ?_))
            refine And.intro (by decide) ?_
            obtain ⟨rfl, rfl⟩ := am_i2 j4
            exact AW_pick [1, 2, 0, 3] rfl hJ4
        refine AW_go okX9_layState 2 ?_
        refine AW_pick (lv' := [(0, .ref 51), (1, .long a1), (3, .long y2), (5, .int (x5i + Int32.ofInt (-1)))]) [1, 2, 3, 0] rfl ?_
        exact ih.1 a1 y2 (x5i + Int32.ofInt (-1)) h3 _ _ hs hf
    · intro a1 x3j x5i h v h' hs hf
      have hf : ((if x5i < 0 then some ((), h) else bif am_vp x5i 3 then (g_X9_layState n 1 a1 (x3j / (16 : Int64)) (x5i + Int32.ofInt (-1)) (am_sI h 77 (Int32.toNatClampNeg x5i) (Int64.toInt32 (x3j - x3j / (16 : Int64) * (16 : Int64))))) else none)) = some (v, h') := hf
      refine AW_go okX9_layState 2 ?_
      refine And.intro (fun c1 => ?_) (fun c1 => ?_)
      · rw [if_pos c1] at hf
        refine AW_go okX9_layState 1 ?_
        obtain ⟨rfl, rfl⟩ := am_i2 hf
        exact And.intro ⟨(Nat.le_of_ble_eq_true rfl), (Nat.le_of_ble_eq_true rfl)⟩ (And.intro rfl ⟨rfl, rfl⟩)
      · rw [if_neg c1] at hf
        obtain ⟨b2, hf⟩ := am_bis hf
        refine AW_go okX9_layState 14 ?_
        refine And.intro (sK hs 51) (Exists.intro _ (And.intro (sA hs 51 38) ?_))
        refine And.intro (by decide) ?_
        refine Exists.intro 3 (And.intro (sK hs 77) (And.intro (am_vp_ok b2) ?_))
        refine And.intro (by decide) ?_
        refine AW_pick (lv' := [(0, .ref 51), (1, .long a1), (3, .long (x3j / (16 : Int64))), (5, .int (x5i + Int32.ofInt (-1)))]) [2, 3, 1, 0] rfl ?_
        exact ih.2 a1 (x3j / (16 : Int64)) (x5i + Int32.ofInt (-1)) (am_sI h 77 (Int32.toNatClampNeg x5i) (Int64.toInt32 (x3j - x3j / (16 : Int64) * (16 : Int64)))) _ _ hs hf
def f_X9_layState (n : Nat) (a1 : Int64) (h : am_H) : Option (Unit × am_H) := g_X9_layState n 0 a1 a1 (Int32.ofInt 8) h
set_option maxRecDepth 100000 in
theorem s_X9_layState (n : Nat) (a1 : Int64) (h : am_H) (hs : am_stat h) {v : Unit} {h' : am_H} (hf : f_X9_layState n a1 h = some (v, h')) : am_stat h' := by
  unfold f_X9_layState at hf
  exact (m_X9_layState n).1 a1 a1 (Int32.ofInt 8) h _ _ hs hf
set_option maxRecDepth 100000 in
theorem c_X9_layState (n : Nat) (a1 : Int64) (h : am_H) (hs : am_stat h) {v : Unit} {h' : am_H} (hf : f_X9_layState n a1 h = some (v, h')) : AMet mX9_layState (rX9_layState 0 0) (fun r h2 => r = none ∧ h2 = h') [.ref 51, .long a1] h := by
  unfold f_X9_layState at hf
  refine AW_go okX9_layState 4 ?_
  refine AW_pick (lv' := [(0, .ref 51), (1, .long a1), (3, .long a1), (5, .int (Int32.ofInt 8))]) [2, 3, 1, 0] rfl ?_
  exact (l_X9_layState n).1 a1 a1 (Int32.ofInt 8) h _ _ hs hf
def g_X9_stateNumber : Nat → Nat → Int64 → Int32 → am_H → Option (Int32 × am_H)
  | 0, _, _, _, _ => none
  | n + 1, _, a1, x3i, h => bif am_vp x3i 8192 then ((if (am_I h 84 (Int32.toNatClampNeg x3i)) = 0 then some (x3i, h) else bif am_vp ((am_I h 84 (Int32.toNatClampNeg x3i)) - (Int32.ofInt 1)) 2001 then ((if (lg_cmp (am_J h 80 (Int32.toNatClampNeg ((am_I h 84 (Int32.toNatClampNeg x3i)) - (Int32.ofInt 1)))) a1) = 0 then some (x3i, h) else g_X9_stateNumber n 0 a1 ((x3i + (Int32.ofInt 1)) - (x3i + (Int32.ofInt 1)) / (Int32.ofInt 8192) * (Int32.ofInt 8192)) h)) else none)) else none
set_option maxRecDepth 100000 in
set_option maxHeartbeats 4000000 in
theorem m_X9_stateNumber (n : Nat) : (∀ (a1 : Int64) (x3i : Int32) (h : am_H) (v : Int32) (h' : am_H), am_stat h → g_X9_stateNumber n 0 a1 x3i h = some (v, h') → am_stat h') := by
  induction n with
  | zero => exact fun a1 x3i h v h' hs hf => (by cases hf)
  | succ n ih =>
    skip
    · intro a1 x3i h v h' hs hf
      have hf : (bif am_vp x3i 8192 then ((if (am_I h 84 (Int32.toNatClampNeg x3i)) = 0 then some (x3i, h) else bif am_vp ((am_I h 84 (Int32.toNatClampNeg x3i)) - (Int32.ofInt 1)) 2001 then ((if (lg_cmp (am_J h 80 (Int32.toNatClampNeg ((am_I h 84 (Int32.toNatClampNeg x3i)) - (Int32.ofInt 1)))) a1) = 0 then some (x3i, h) else g_X9_stateNumber n 0 a1 ((x3i + (Int32.ofInt 1)) - (x3i + (Int32.ofInt 1)) / (Int32.ofInt 8192) * (Int32.ofInt 8192)) h)) else none)) else none) = some (v, h') := hf
      obtain ⟨b1, hf⟩ := am_bis hf
      by_cases c2 : (am_I h 84 (Int32.toNatClampNeg x3i)) = 0
      · rw [if_pos c2] at hf
        obtain ⟨rfl, rfl⟩ := am_i2 hf
        exact hs
      · rw [if_neg c2] at hf
        obtain ⟨b3, hf⟩ := am_bis hf
        by_cases c4 : (lg_cmp (am_J h 80 (Int32.toNatClampNeg ((am_I h 84 (Int32.toNatClampNeg x3i)) - (Int32.ofInt 1)))) a1) = 0
        · rw [if_pos c4] at hf
          obtain ⟨rfl, rfl⟩ := am_i2 hf
          exact hs
        · rw [if_neg c4] at hf
          exact ih a1 ((x3i + (Int32.ofInt 1)) - (x3i + (Int32.ofInt 1)) / (Int32.ofInt 8192) * (Int32.ofInt 8192)) h _ _ hs hf
set_option maxRecDepth 100000 in
set_option maxHeartbeats 4000000 in
theorem l_X9_stateNumber (n : Nat) : (∀ (a1 : Int64) (x3i : Int32) (h : am_H) (v : Int32) (h' : am_H), am_stat h → g_X9_stateNumber n 0 a1 x3i h = some (v, h') → AW mX9_stateNumber (rX9_stateNumber 0 0) (fun r h2 => r = some (.int v) ∧ h2 = h') 14 [(0, .ref 51), (1, .long a1), (3, .int x3i)] [] h 0 0) := by
  induction n with
  | zero => exact fun a1 x3i h v h' hs hf => (by cases hf)
  | succ n ih =>
    skip
    · intro a1 x3i h v h' hs hf
      have hf : (bif am_vp x3i 8192 then ((if (am_I h 84 (Int32.toNatClampNeg x3i)) = 0 then some (x3i, h) else bif am_vp ((am_I h 84 (Int32.toNatClampNeg x3i)) - (Int32.ofInt 1)) 2001 then ((if (lg_cmp (am_J h 80 (Int32.toNatClampNeg ((am_I h 84 (Int32.toNatClampNeg x3i)) - (Int32.ofInt 1)))) a1) = 0 then some (x3i, h) else g_X9_stateNumber n 0 a1 ((x3i + (Int32.ofInt 1)) - (x3i + (Int32.ofInt 1)) / (Int32.ofInt 8192) * (Int32.ofInt 8192)) h)) else none)) else none) = some (v, h') := hf
      obtain ⟨b1, hf⟩ := am_bis hf
      refine AW_go okX9_stateNumber 5 ?_
      refine And.intro (sK hs 51) (Exists.intro _ (And.intro (sA hs 51 49) ?_))
      refine Exists.intro 8192 (And.intro (sK hs 84) (And.intro (am_vp_ok b1) ?_))
      refine And.intro (fun c2 => ?_) (fun c2 => ?_)
      · rw [if_pos c2] at hf
        refine AW_go okX9_stateNumber 2 ?_
        obtain ⟨rfl, rfl⟩ := am_i2 hf
        exact And.intro ⟨(Nat.le_of_ble_eq_true rfl), (Nat.le_of_ble_eq_true rfl)⟩ (And.intro (Or.inl rfl) ⟨rfl, rfl⟩)
      · rw [if_neg c2] at hf
        obtain ⟨b3, hf⟩ := am_bis hf
        refine AW_go okX9_stateNumber 12 ?_
        refine And.intro (sK hs 51) (Exists.intro _ (And.intro (sA hs 51 45) ?_))
        refine And.intro (sK hs 51) (Exists.intro _ (And.intro (sA hs 51 49) ?_))
        refine Exists.intro 8192 (And.intro (sK hs 84) (And.intro (am_vp_ok b1) ?_))
        refine Exists.intro 2001 (And.intro (sK hs 80) (And.intro (am_vp_ok b3) ?_))
        refine And.intro (fun c4 => ?_) (fun c4 => ?_)
        · rw [if_pos c4] at hf
          refine AW_go okX9_stateNumber 2 ?_
          obtain ⟨rfl, rfl⟩ := am_i2 hf
          exact And.intro ⟨(Nat.le_of_ble_eq_true rfl), (Nat.le_of_ble_eq_true rfl)⟩ (And.intro (Or.inl rfl) ⟨rfl, rfl⟩)
        · rw [if_neg c4] at hf
          refine AW_go okX9_stateNumber 7 ?_
          refine And.intro (by decide) ?_
          refine AW_pick (lv' := [(0, .ref 51), (1, .long a1), (3, .int ((x3i + (Int32.ofInt 1)) - (x3i + (Int32.ofInt 1)) / (Int32.ofInt 8192) * (Int32.ofInt 8192)))]) [1, 2, 0] rfl ?_
          exact ih a1 ((x3i + (Int32.ofInt 1)) - (x3i + (Int32.ofInt 1)) / (Int32.ofInt 8192) * (Int32.ofInt 8192)) h _ _ hs hf
def f_X9_stateNumber (n : Nat) (a1 : Int64) (h : am_H) : Option (Int32 × am_H) := g_X9_stateNumber n 0 a1 (Int64.toInt32 (((a1 * (6364136223846793005 : Int64)) >>> (Int32.toInt64 (Int32.ofInt 40) &&& 63)) &&& (8191 : Int64))) h
set_option maxRecDepth 100000 in
theorem s_X9_stateNumber (n : Nat) (a1 : Int64) (h : am_H) (hs : am_stat h) {v : Int32} {h' : am_H} (hf : f_X9_stateNumber n a1 h = some (v, h')) : am_stat h' := by
  unfold f_X9_stateNumber at hf
  exact (m_X9_stateNumber n) a1 (Int64.toInt32 (((a1 * (6364136223846793005 : Int64)) >>> (Int32.toInt64 (Int32.ofInt 40) &&& 63)) &&& (8191 : Int64))) h _ _ hs hf
set_option maxRecDepth 100000 in
theorem c_X9_stateNumber (n : Nat) (a1 : Int64) (h : am_H) (hs : am_stat h) {v : Int32} {h' : am_H} (hf : f_X9_stateNumber n a1 h = some (v, h')) : AMet mX9_stateNumber (rX9_stateNumber 0 0) (fun r h2 => r = some (.int v) ∧ h2 = h') [.ref 51, .long a1] h := by
  unfold f_X9_stateNumber at hf
  refine AW_go okX9_stateNumber 9 ?_
  refine AW_pick (lv' := [(0, .ref 51), (1, .long a1), (3, .int (Int64.toInt32 (((a1 * (6364136223846793005 : Int64)) >>> (Int32.toInt64 (Int32.ofInt 40) &&& 63)) &&& (8191 : Int64))))]) [1, 2, 0] rfl ?_
  exact (l_X9_stateNumber n) a1 (Int64.toInt32 (((a1 * (6364136223846793005 : Int64)) >>> (Int32.toInt64 (Int32.ofInt 40) &&& 63)) &&& (8191 : Int64))) h _ _ hs hf
def f_X9_meet (n : Nat) (a1 : Int64) (a3 : Int32) (a4 : Int32) (h : am_H) : Option (Int32 × am_H) := am_b2 (f_X9_stateNumber n a1 h) fun r1 h2 => (bif am_vp r1 8192 then (Option.bind ((if (am_I h2 84 (Int32.toNatClampNeg r1)) = 0 then Option.bind ((if (am_I h2 51 50) = (Int32.ofInt 2000) then some (Int32.ofInt 1) else some (Int32.ofInt 0))) fun y8 => (bif am_b01 y8 then ((if (am_I (am_sI h2 51 51 y8) 51 51) = 0 then bif am_vp (am_I (am_sI h2 51 51 y8) 51 50) 2001 then (bif am_vp (am_I (am_sJ (am_sI h2 51 51 y8) 80 (Int32.toNatClampNeg (am_I (am_sI h2 51 51 y8) 51 50)) a1) 51 50) 2001 then (bif am_vp (am_I (am_sI (am_sJ (am_sI h2 51 51 y8) 80 (Int32.toNatClampNeg (am_I (am_sI h2 51 51 y8) 51 50)) a1) 81 (Int32.toNatClampNeg (am_I (am_sJ (am_sI h2 51 51 y8) 80 (Int32.toNatClampNeg (am_I (am_sI h2 51 51 y8) 51 50)) a1) 51 50)) a3) 51 50) 2001 then (some (am_sI (am_sI (am_sI (am_sI (am_sJ (am_sI h2 51 51 y8) 80 (Int32.toNatClampNeg (am_I (am_sI h2 51 51 y8) 51 50)) a1) 81 (Int32.toNatClampNeg (am_I (am_sJ (am_sI h2 51 51 y8) 80 (Int32.toNatClampNeg (am_I (am_sI h2 51 51 y8) 51 50)) a1) 51 50)) a3) 82 (Int32.toNatClampNeg (am_I (am_sI (am_sJ (am_sI h2 51 51 y8) 80 (Int32.toNatClampNeg (am_I (am_sI h2 51 51 y8) 51 50)) a1) 81 (Int32.toNatClampNeg (am_I (am_sJ (am_sI h2 51 51 y8) 80 (Int32.toNatClampNeg (am_I (am_sI h2 51 51 y8) 51 50)) a1) 51 50)) a3) 51 50)) a4) 51 50 ((am_I (am_sI (am_sI (am_sJ (am_sI h2 51 51 y8) 80 (Int32.toNatClampNeg (am_I (am_sI h2 51 51 y8) 51 50)) a1) 81 (Int32.toNatClampNeg (am_I (am_sJ (am_sI h2 51 51 y8) 80 (Int32.toNatClampNeg (am_I (am_sI h2 51 51 y8) 51 50)) a1) 51 50)) a3) 82 (Int32.toNatClampNeg (am_I (am_sI (am_sJ (am_sI h2 51 51 y8) 80 (Int32.toNatClampNeg (am_I (am_sI h2 51 51 y8) 51 50)) a1) 81 (Int32.toNatClampNeg (am_I (am_sJ (am_sI h2 51 51 y8) 80 (Int32.toNatClampNeg (am_I (am_sI h2 51 51 y8) 51 50)) a1) 51 50)) a3) 51 50)) a4) 51 50) + (Int32.ofInt 1))) 84 (Int32.toNatClampNeg r1) (am_I (am_sI (am_sI (am_sI (am_sJ (am_sI h2 51 51 y8) 80 (Int32.toNatClampNeg (am_I (am_sI h2 51 51 y8) 51 50)) a1) 81 (Int32.toNatClampNeg (am_I (am_sJ (am_sI h2 51 51 y8) 80 (Int32.toNatClampNeg (am_I (am_sI h2 51 51 y8) 51 50)) a1) 51 50)) a3) 82 (Int32.toNatClampNeg (am_I (am_sI (am_sJ (am_sI h2 51 51 y8) 80 (Int32.toNatClampNeg (am_I (am_sI h2 51 51 y8) 51 50)) a1) 81 (Int32.toNatClampNeg (am_I (am_sJ (am_sI h2 51 51 y8) 80 (Int32.toNatClampNeg (am_I (am_sI h2 51 51 y8) 51 50)) a1) 51 50)) a3) 51 50)) a4) 51 50 ((am_I (am_sI (am_sI (am_sJ (am_sI h2 51 51 y8) 80 (Int32.toNatClampNeg (am_I (am_sI h2 51 51 y8) 51 50)) a1) 81 (Int32.toNatClampNeg (am_I (am_sJ (am_sI h2 51 51 y8) 80 (Int32.toNatClampNeg (am_I (am_sI h2 51 51 y8) 51 50)) a1) 51 50)) a3) 82 (Int32.toNatClampNeg (am_I (am_sI (am_sJ (am_sI h2 51 51 y8) 80 (Int32.toNatClampNeg (am_I (am_sI h2 51 51 y8) 51 50)) a1) 81 (Int32.toNatClampNeg (am_I (am_sJ (am_sI h2 51 51 y8) 80 (Int32.toNatClampNeg (am_I (am_sI h2 51 51 y8) 51 50)) a1) 51 50)) a3) 51 50)) a4) 51 50) + (Int32.ofInt 1))) 51 50))) else none) else none) else none else some (am_sI h2 51 51 y8))) else none) else some h2)) fun h5 => (some (((am_I h5 84 (Int32.toNatClampNeg r1)) - (Int32.ofInt 1)), h5))) else none)
set_option maxRecDepth 100000 in
theorem s_X9_meet (n : Nat) (a1 : Int64) (a3 : Int32) (a4 : Int32) (h : am_H) (hs : am_stat h) {v : Int32} {h' : am_H} (hf : f_X9_meet n a1 a3 a4 h = some (v, h')) : am_stat h' := by
  unfold f_X9_meet at hf
  obtain ⟨r1, h2, e3, hf⟩ := am_b2_ok hf
  have hs := s_X9_stateNumber n a1 h hs e3
  obtain ⟨b4, hf⟩ := am_bis hf
  obtain ⟨h5, j6, hf⟩ := am_bnd hf
  have hs0 := hs
  have hs : am_stat h5 := by
    have hs := hs0
    by_cases c7 : (am_I h2 84 (Int32.toNatClampNeg r1)) = 0
    · rw [if_pos c7] at j6
      obtain ⟨y8, j9, j6⟩ := am_bnd j6
      obtain ⟨b61, j6⟩ := am_bis j6
      by_cases c62 : (am_I (am_sI h2 51 51 y8) 51 51) = 0
      · rw [if_pos c62] at j6
        obtain ⟨b63, j6⟩ := am_bis j6
        obtain ⟨b64, j6⟩ := am_bis j6
        obtain ⟨b65, j6⟩ := am_bis j6
        obtain rfl := am_i1 j6
        exact hs
      · rw [if_neg c62] at j6
        obtain rfl := am_i1 j6
        exact hs
    · rw [if_neg c7] at j6
      obtain rfl := am_i1 j6
      exact hs
  obtain ⟨rfl, rfl⟩ := am_i2 hf
  exact hs
set_option maxRecDepth 100000 in
theorem c_X9_meet (n : Nat) (a1 : Int64) (a3 : Int32) (a4 : Int32) (h : am_H) (hs : am_stat h) {v : Int32} {h' : am_H} (hf : f_X9_meet n a1 a3 a4 h = some (v, h')) : AMet mX9_meet (rX9_meet 0 0) (fun r h2 => r = some (.int v) ∧ h2 = h') [.ref 51, .long a1, .int a3, .int a4] h := by
  unfold f_X9_meet at hf
  refine AW_go okX9_meet 2 ?_
  obtain ⟨r1, h2, e3, hf⟩ := am_b2_ok hf
  refine AW_callV (As := [.long a1]) (R' := rX9_stateNumber 0 0) (T := TX9) (N := 58) (ci := 9) (okX9_meet.1 2 _ _ rfl) lkX9_stateNumber kX9_368 rfl (sK hs 51) rfl (Nat.le_of_ble_eq_true rfl) ⟨by decide, by decide⟩ ⟨(Nat.le_of_ble_eq_true rfl), (Nat.le_of_ble_eq_true rfl)⟩ (Nat.le_of_ble_eq_true rfl) (c_X9_stateNumber n a1 h hs e3) (fun r h' hq => ?_)
  obtain ⟨rfl, hq⟩ := hq
  replace hq := hq.symm
  subst hq
  have hs := s_X9_stateNumber n a1 h hs e3
  obtain ⟨b4, hf⟩ := am_bis hf
  refine AW_go okX9_meet 5 ?_
  refine And.intro (sK hs 51) (Exists.intro _ (And.intro (sA hs 51 49) ?_))
  refine Exists.intro 8192 (And.intro (sK hs 84) (And.intro (am_vp_ok b4) ?_))
  obtain ⟨h5, j6, hf⟩ := am_bnd hf
  have hs0 := hs
  have hs : am_stat h5 := by
    have hs := hs0
    by_cases c7 : (am_I h2 84 (Int32.toNatClampNeg r1)) = 0
    · rw [if_pos c7] at j6
      obtain ⟨y8, j9, j6⟩ := am_bnd j6
      obtain ⟨b61, j6⟩ := am_bis j6
      by_cases c62 : (am_I (am_sI h2 51 51 y8) 51 51) = 0
      · rw [if_pos c62] at j6
        obtain ⟨b63, j6⟩ := am_bis j6
        obtain ⟨b64, j6⟩ := am_bis j6
        obtain ⟨b65, j6⟩ := am_bis j6
        obtain rfl := am_i1 j6
        exact hs
      · rw [if_neg c62] at j6
        obtain rfl := am_i1 j6
        exact hs
    · rw [if_neg c7] at j6
      obtain rfl := am_i1 j6
      exact hs
  refine am_cut (P := AW mX9_meet (rX9_meet 0 0) (fun r h2 => r = some (.int v) ∧ h2 = h') 95 [(0, .ref 51), (1, .long a1), (3, .int a3), (4, .int a4), (5, .int r1)] [] h5 0 0) (fun hJ6 => ?_) ?_
  · have hs := hs0
    refine AW_go okX9_meet 1 ?_
    refine And.intro (fun c7 => ?_) (fun c7 => ?_)
    · rw [if_neg c7] at j6
      obtain rfl := am_i1 j6
      exact AW_pick [1, 2, 3, 4, 0] rfl hJ6
    · rw [if_pos c7] at j6
      refine AW_go okX9_meet 4 ?_
      refine And.intro (sK hs 51) ?_
      obtain ⟨y8, j9, j6⟩ := am_bnd j6
      refine am_cut (P := AW mX9_meet (rX9_meet 0 0) (fun r h2 => r = some (.int v) ∧ h2 = h') 33 [(0, .ref 51), (1, .long a1), (3, .int a3), (4, .int a4), (5, .int r1)] [.int y8, .ref 51] h2 0 0) (fun hJ9 => ?_) ?_
      · have hs := hs
        refine AW_go okX9_meet 1 ?_
        refine And.intro (fun c10 => ?_) (fun c10 => ?_)
        · rw [if_neg c10] at j9
          refine AW_go okX9_meet 1 ?_
          obtain rfl := am_i1 j9
          exact AW_pick [1, 2, 3, 4, 0] rfl hJ9
        · rw [if_pos c10] at j9
          refine AW_go okX9_meet 2 ?_
          obtain rfl := am_i1 j9
          exact AW_pick [1, 2, 3, 4, 0] rfl hJ9
      obtain ⟨b61, j6⟩ := am_bis j6
      refine AW_go okX9_meet 4 ?_
      refine And.intro (am_b01_ok b61) (And.intro (sK hs 51) ?_)
      refine And.intro (sK hs 51) ?_
      refine And.intro (fun c62 => ?_) (fun c62 => ?_)
      · rw [if_neg c62] at j6
        obtain rfl := am_i1 j6
        exact AW_pick [0, 1, 2, 3, 4] rfl hJ6
      · rw [if_pos c62] at j6
        obtain ⟨b63, j6⟩ := am_bis j6
        obtain ⟨b64, j6⟩ := am_bis j6
        obtain ⟨b65, j6⟩ := am_bis j6
        refine AW_go okX9_meet 30 ?_
        refine And.intro (sK hs 51) (Exists.intro _ (And.intro (sA hs 51 45) ?_))
        refine And.intro (sK hs 51) ?_
        refine Exists.intro 2001 (And.intro (sK hs 80) (And.intro (am_vp_ok b63) ?_))
        refine And.intro (sK hs 51) (Exists.intro _ (And.intro (sA hs 51 46) ?_))
        refine And.intro (sK hs 51) ?_
        refine Exists.intro 2001 (And.intro (sK hs 81) (And.intro (am_vp_ok b64) ?_))
        refine And.intro (sK hs 51) (Exists.intro _ (And.intro (sA hs 51 47) ?_))
        refine And.intro (sK hs 51) ?_
        refine Exists.intro 2001 (And.intro (sK hs 82) (And.intro (am_vp_ok b65) ?_))
        refine And.intro (sK hs 51) ?_
        refine And.intro (sK hs 51) ?_
        refine And.intro (sK hs 51) (Exists.intro _ (And.intro (sA hs 51 49) ?_))
        refine And.intro (sK hs 51) ?_
        refine Exists.intro 8192 (And.intro (sK hs 84) (And.intro (am_vp_ok b4) ?_))
        obtain rfl := am_i1 j6
        exact AW_pick [0, 1, 2, 3, 4] rfl hJ6
  refine AW_go okX9_meet 7 ?_
  refine And.intro (sK hs 51) (Exists.intro _ (And.intro (sA hs 51 49) ?_))
  refine Exists.intro 8192 (And.intro (sK hs 84) (And.intro (am_vp_ok b4) ?_))
  obtain ⟨rfl, rfl⟩ := am_i2 hf
  exact And.intro ⟨(Nat.le_of_ble_eq_true rfl), (Nat.le_of_ble_eq_true rfl)⟩ (And.intro (Or.inl rfl) ⟨rfl, rfl⟩)
def g_X9_leadsToFine : Nat → Nat → Int32 → Int32 → Int32 → am_H → Option (Int32 × am_H)
  | 0, _, _, _, _, _ => none
  | n + 1, _, a1, x2i, x3i, h => bif am_vp (a1 + (Int32.ofInt 1)) 2002 then ((if (am_I h 85 (Int32.toNatClampNeg (a1 + (Int32.ofInt 1)))) ≤ x3i then bif am_b01 x2i then (some (x2i, h)) else none else (if x2i = 0 then bif am_vp x3i 180090 then (bif am_vp (am_I h 86 (Int32.toNatClampNeg x3i)) 2001 then (g_X9_leadsToFine n 0 a1 (am_I h 83 (Int32.toNatClampNeg (am_I h 86 (Int32.toNatClampNeg x3i)))) (x3i + Int32.ofInt 1) h) else none) else none else bif am_b01 x2i then (some (x2i, h)) else none))) else none
set_option maxRecDepth 100000 in
set_option maxHeartbeats 4000000 in
theorem m_X9_leadsToFine (n : Nat) : (∀ (a1 : Int32) (x2i : Int32) (x3i : Int32) (h : am_H) (v : Int32) (h' : am_H), am_stat h → g_X9_leadsToFine n 0 a1 x2i x3i h = some (v, h') → am_stat h') := by
  induction n with
  | zero => exact fun a1 x2i x3i h v h' hs hf => (by cases hf)
  | succ n ih =>
    skip
    · intro a1 x2i x3i h v h' hs hf
      have hf : (bif am_vp (a1 + (Int32.ofInt 1)) 2002 then ((if (am_I h 85 (Int32.toNatClampNeg (a1 + (Int32.ofInt 1)))) ≤ x3i then bif am_b01 x2i then (some (x2i, h)) else none else (if x2i = 0 then bif am_vp x3i 180090 then (bif am_vp (am_I h 86 (Int32.toNatClampNeg x3i)) 2001 then (g_X9_leadsToFine n 0 a1 (am_I h 83 (Int32.toNatClampNeg (am_I h 86 (Int32.toNatClampNeg x3i)))) (x3i + Int32.ofInt 1) h) else none) else none else bif am_b01 x2i then (some (x2i, h)) else none))) else none) = some (v, h') := hf
      obtain ⟨b1, hf⟩ := am_bis hf
      by_cases c2 : (am_I h 85 (Int32.toNatClampNeg (a1 + (Int32.ofInt 1)))) ≤ x3i
      · rw [if_pos c2] at hf
        obtain ⟨b3, hf⟩ := am_bis hf
        obtain ⟨rfl, rfl⟩ := am_i2 hf
        exact hs
      · rw [if_neg c2] at hf
        by_cases c4 : x2i = 0
        · rw [if_pos c4] at hf
          obtain ⟨b5, hf⟩ := am_bis hf
          obtain ⟨b6, hf⟩ := am_bis hf
          exact ih a1 (am_I h 83 (Int32.toNatClampNeg (am_I h 86 (Int32.toNatClampNeg x3i)))) (x3i + Int32.ofInt 1) h _ _ hs hf
        · rw [if_neg c4] at hf
          obtain ⟨b7, hf⟩ := am_bis hf
          obtain ⟨rfl, rfl⟩ := am_i2 hf
          exact hs
set_option maxRecDepth 100000 in
set_option maxHeartbeats 4000000 in
theorem l_X9_leadsToFine (n : Nat) : (∀ (a1 : Int32) (x2i : Int32) (x3i : Int32) (h : am_H) (v : Int32) (h' : am_H), am_stat h → g_X9_leadsToFine n 0 a1 x2i x3i h = some (v, h') → AW mX9_leadsToFine (rX9_leadsToFine 0 0) (fun r h2 => r = some (.int v) ∧ h2 = h') 9 [(0, .ref 51), (1, .int a1), (2, .int x2i), (3, .int x3i)] [] h 0 0) := by
  induction n with
  | zero => exact fun a1 x2i x3i h v h' hs hf => (by cases hf)
  | succ n ih =>
    skip
    · intro a1 x2i x3i h v h' hs hf
      have hf : (bif am_vp (a1 + (Int32.ofInt 1)) 2002 then ((if (am_I h 85 (Int32.toNatClampNeg (a1 + (Int32.ofInt 1)))) ≤ x3i then bif am_b01 x2i then (some (x2i, h)) else none else (if x2i = 0 then bif am_vp x3i 180090 then (bif am_vp (am_I h 86 (Int32.toNatClampNeg x3i)) 2001 then (g_X9_leadsToFine n 0 a1 (am_I h 83 (Int32.toNatClampNeg (am_I h 86 (Int32.toNatClampNeg x3i)))) (x3i + Int32.ofInt 1) h) else none) else none else bif am_b01 x2i then (some (x2i, h)) else none))) else none) = some (v, h') := hf
      obtain ⟨b1, hf⟩ := am_bis hf
      refine AW_go okX9_leadsToFine 8 ?_
      refine And.intro (sK hs 51) (Exists.intro _ (And.intro (sA hs 51 54) ?_))
      refine Exists.intro 2002 (And.intro (sK hs 85) (And.intro (am_vp_ok b1) ?_))
      refine And.intro (fun c2 => ?_) (fun c2 => ?_)
      · rw [if_pos c2] at hf
        obtain ⟨b3, hf⟩ := am_bis hf
        refine AW_go okX9_leadsToFine 2 ?_
        obtain ⟨rfl, rfl⟩ := am_i2 hf
        exact And.intro ⟨(Nat.le_of_ble_eq_true rfl), (Nat.le_of_ble_eq_true rfl)⟩ (And.intro (Or.inr ⟨rfl, am_b01_ok b3⟩) ⟨rfl, rfl⟩)
      · rw [if_neg c2] at hf
        refine AW_go okX9_leadsToFine 2 ?_
        refine And.intro (fun c4 => ?_) (fun c4 => ?_)
        · rw [if_neg c4] at hf
          obtain ⟨b5, hf⟩ := am_bis hf
          refine AW_go okX9_leadsToFine 2 ?_
          obtain ⟨rfl, rfl⟩ := am_i2 hf
          exact And.intro ⟨(Nat.le_of_ble_eq_true rfl), (Nat.le_of_ble_eq_true rfl)⟩ (And.intro (Or.inr ⟨rfl, am_b01_ok b5⟩) ⟨rfl, rfl⟩)
        · rw [if_pos c4] at hf
          obtain ⟨b6, hf⟩ := am_bis hf
          obtain ⟨b7, hf⟩ := am_bis hf
          refine AW_go okX9_leadsToFine 10 ?_
          refine And.intro (sK hs 51) (Exists.intro _ (And.intro (sA hs 51 48) ?_))
          refine And.intro (sK hs 51) (Exists.intro _ (And.intro (sA hs 51 55) ?_))
          refine Exists.intro 180090 (And.intro (sK hs 86) (And.intro (am_vp_ok b6) ?_))
          refine Exists.intro 2 (Exists.intro 2001 (And.intro (by decide) (And.intro (sK hs 83) (And.intro (am_vp_ok b7) ?_))))
          refine AW_pick (lv' := [(0, .ref 51), (1, .int a1), (2, .int (am_I h 83 (Int32.toNatClampNeg (am_I h 86 (Int32.toNatClampNeg x3i))))), (3, .int (x3i + Int32.ofInt 1))]) [2, 3, 1, 0] rfl ?_
          exact ih a1 (am_I h 83 (Int32.toNatClampNeg (am_I h 86 (Int32.toNatClampNeg x3i)))) (x3i + Int32.ofInt 1) h _ _ hs hf
def f_X9_leadsToFine (n : Nat) (a1 : Int32) (h : am_H) : Option (Int32 × am_H) := bif am_vp a1 2002 then (g_X9_leadsToFine n 0 a1 (Int32.ofInt 0) (am_I h 85 (Int32.toNatClampNeg a1)) h) else none
set_option maxRecDepth 100000 in
theorem s_X9_leadsToFine (n : Nat) (a1 : Int32) (h : am_H) (hs : am_stat h) {v : Int32} {h' : am_H} (hf : f_X9_leadsToFine n a1 h = some (v, h')) : am_stat h' := by
  unfold f_X9_leadsToFine at hf
  obtain ⟨b1, hf⟩ := am_bis hf
  exact (m_X9_leadsToFine n) a1 (Int32.ofInt 0) (am_I h 85 (Int32.toNatClampNeg a1)) h _ _ hs hf
set_option maxRecDepth 100000 in
theorem c_X9_leadsToFine (n : Nat) (a1 : Int32) (h : am_H) (hs : am_stat h) {v : Int32} {h' : am_H} (hf : f_X9_leadsToFine n a1 h = some (v, h')) : AMet mX9_leadsToFine (rX9_leadsToFine 0 0) (fun r h2 => r = some (.int v) ∧ h2 = h') [.ref 51, .int a1] h := by
  unfold f_X9_leadsToFine at hf
  obtain ⟨b1, hf⟩ := am_bis hf
  refine AW_go okX9_leadsToFine 7 ?_
  refine And.intro (sK hs 51) (Exists.intro _ (And.intro (sA hs 51 54) ?_))
  refine Exists.intro 2002 (And.intro (sK hs 85) (And.intro (am_vp_ok b1) ?_))
  refine AW_pick (lv' := [(0, .ref 51), (1, .int a1), (2, .int (Int32.ofInt 0)), (3, .int (am_I h 85 (Int32.toNatClampNeg a1)))]) [2, 3, 1, 0] rfl ?_
  exact (l_X9_leadsToFine n) a1 (Int32.ofInt 0) (am_I h 85 (Int32.toNatClampNeg a1)) h _ _ hs hf
def g_X9_lettersLying : Nat → Nat → Int32 → Int32 → am_H → Option (Int32 × am_H)
  | 0, _, _, _, _ => none
  | n + 1, _, x1i, x2i, h => (if (Int32.ofInt 9) ≤ x2i then some (x1i, h) else bif am_vp x2i 9 then (am_b2 (f_X9_sizeOf (am_I h 78 (Int32.toNatClampNeg x2i)) h) fun r3 h4 => (g_X9_lettersLying n 0 (x1i + r3) (x2i + Int32.ofInt 1) h4)) else none)
set_option maxRecDepth 100000 in
set_option maxHeartbeats 4000000 in
theorem m_X9_lettersLying (n : Nat) : (∀ (x1i : Int32) (x2i : Int32) (h : am_H) (v : Int32) (h' : am_H), am_stat h → g_X9_lettersLying n 0 x1i x2i h = some (v, h') → am_stat h') := by
  induction n with
  | zero => exact fun x1i x2i h v h' hs hf => (by cases hf)
  | succ n ih =>
    skip
    · intro x1i x2i h v h' hs hf
      have hf : ((if (Int32.ofInt 9) ≤ x2i then some (x1i, h) else bif am_vp x2i 9 then (am_b2 (f_X9_sizeOf (am_I h 78 (Int32.toNatClampNeg x2i)) h) fun r3 h4 => (g_X9_lettersLying n 0 (x1i + r3) (x2i + Int32.ofInt 1) h4)) else none)) = some (v, h') := hf
      by_cases c1 : (Int32.ofInt 9) ≤ x2i
      · rw [if_pos c1] at hf
        obtain ⟨rfl, rfl⟩ := am_i2 hf
        exact hs
      · rw [if_neg c1] at hf
        obtain ⟨b2, hf⟩ := am_bis hf
        obtain ⟨r3, h4, e5, hf⟩ := am_b2_ok hf
        have hs := s_X9_sizeOf (am_I h 78 (Int32.toNatClampNeg x2i)) h hs e5
        exact ih (x1i + r3) (x2i + Int32.ofInt 1) h4 _ _ hs hf
set_option maxRecDepth 100000 in
set_option maxHeartbeats 4000000 in
theorem l_X9_lettersLying (n : Nat) : (∀ (x1i : Int32) (x2i : Int32) (h : am_H) (v : Int32) (h' : am_H), am_stat h → g_X9_lettersLying n 0 x1i x2i h = some (v, h') → AW mX9_lettersLying (rX9_lettersLying 0 0) (fun r h2 => r = some (.int v) ∧ h2 = h') 4 [(0, .ref 51), (1, .int x1i), (2, .int x2i)] [] h 0 0) := by
  induction n with
  | zero => exact fun x1i x2i h v h' hs hf => (by cases hf)
  | succ n ih =>
    skip
    · intro x1i x2i h v h' hs hf
      have hf : ((if (Int32.ofInt 9) ≤ x2i then some (x1i, h) else bif am_vp x2i 9 then (am_b2 (f_X9_sizeOf (am_I h 78 (Int32.toNatClampNeg x2i)) h) fun r3 h4 => (g_X9_lettersLying n 0 (x1i + r3) (x2i + Int32.ofInt 1) h4)) else none)) = some (v, h') := hf
      refine AW_go okX9_lettersLying 3 ?_
      refine And.intro (fun c1 => ?_) (fun c1 => ?_)
      · rw [if_pos c1] at hf
        refine AW_go okX9_lettersLying 2 ?_
        obtain ⟨rfl, rfl⟩ := am_i2 hf
        exact And.intro ⟨(Nat.le_of_ble_eq_true rfl), (Nat.le_of_ble_eq_true rfl)⟩ (And.intro (Or.inl rfl) ⟨rfl, rfl⟩)
      · rw [if_neg c1] at hf
        obtain ⟨b2, hf⟩ := am_bis hf
        refine AW_go okX9_lettersLying 5 ?_
        refine And.intro (sK hs 51) (Exists.intro _ (And.intro (sA hs 51 39) ?_))
        refine Exists.intro 9 (And.intro (sK hs 78) (And.intro (am_vp_ok b2) ?_))
        obtain ⟨r3, h4, e5, hf⟩ := am_b2_ok hf
        refine AW_callS (As := [.int (am_I h 78 (Int32.toNatClampNeg x2i))]) (R' := rX9_sizeOf 0 0) (okX9_lettersLying.1 17 _ _ rfl) lkX9_sizeOf (Or.inl kX9_270) rfl (Nat.le_of_ble_eq_true rfl) ⟨by decide, by decide⟩ ⟨(Nat.le_of_ble_eq_true rfl), (Nat.le_of_ble_eq_true rfl)⟩ (Nat.le_of_ble_eq_true rfl) (c_X9_sizeOf (am_I h 78 (Int32.toNatClampNeg x2i)) h hs e5) (fun r h' hq => ?_)
        obtain ⟨rfl, hq⟩ := hq
        replace hq := hq.symm
        subst hq
        have hs := s_X9_sizeOf (am_I h 78 (Int32.toNatClampNeg x2i)) h hs e5
        refine AW_go okX9_lettersLying 4 ?_
        refine AW_pick (lv' := [(0, .ref 51), (1, .int (x1i + r3)), (2, .int (x2i + Int32.ofInt 1))]) [2, 1, 0] rfl ?_
        exact ih (x1i + r3) (x2i + Int32.ofInt 1) h4 _ _ hs hf
def f_X9_lettersLying (n : Nat) (h : am_H) : Option (Int32 × am_H) := g_X9_lettersLying n 0 (Int32.ofInt 0) (Int32.ofInt 0) h
set_option maxRecDepth 100000 in
theorem s_X9_lettersLying (n : Nat) (h : am_H) (hs : am_stat h) {v : Int32} {h' : am_H} (hf : f_X9_lettersLying n h = some (v, h')) : am_stat h' := by
  unfold f_X9_lettersLying at hf
  exact (m_X9_lettersLying n) (Int32.ofInt 0) (Int32.ofInt 0) h _ _ hs hf
set_option maxRecDepth 100000 in
theorem c_X9_lettersLying (n : Nat) (h : am_H) (hs : am_stat h) {v : Int32} {h' : am_H} (hf : f_X9_lettersLying n h = some (v, h')) : AMet mX9_lettersLying (rX9_lettersLying 0 0) (fun r h2 => r = some (.int v) ∧ h2 = h') [.ref 51] h := by
  unfold f_X9_lettersLying at hf
  refine AW_go okX9_lettersLying 4 ?_
  refine AW_pick (lv' := [(0, .ref 51), (1, .int (Int32.ofInt 0)), (2, .int (Int32.ofInt 0))]) [2, 1, 0] rfl ?_
  exact (l_X9_lettersLying n) (Int32.ofInt 0) (Int32.ofInt 0) h _ _ hs hf
def f_X9_howMany (n : Nat) (a1 : Int32) (h : am_H) : Option (Int32 × am_H) := (if a1 = Int32.ofInt 0 then some ((am_I h 51 2), h) else (if a1 = Int32.ofInt 1 then some ((am_I h 51 6), h) else (if a1 = Int32.ofInt 2 then some ((am_I h 51 0), h) else (if a1 = Int32.ofInt 3 then some ((am_I h 51 12), h) else (if a1 = Int32.ofInt 4 then am_b2 (f_X9_lettersLying n h) fun r6 h7 => (some (r6, h7)) else (if a1 = Int32.ofInt 5 then some ((am_I h 51 13), h) else some ((Int32.ofInt (-102)), h)))))))
set_option maxRecDepth 100000 in
theorem s_X9_howMany (n : Nat) (a1 : Int32) (h : am_H) (hs : am_stat h) {v : Int32} {h' : am_H} (hf : f_X9_howMany n a1 h = some (v, h')) : am_stat h' := by
  unfold f_X9_howMany at hf
  by_cases c1 : a1 = Int32.ofInt 0
  · rw [if_pos c1] at hf
    obtain ⟨rfl, rfl⟩ := am_i2 hf
    exact hs
  rw [if_neg c1] at hf
  by_cases c2 : a1 = Int32.ofInt 1
  · rw [if_pos c2] at hf
    obtain ⟨rfl, rfl⟩ := am_i2 hf
    exact hs
  rw [if_neg c2] at hf
  by_cases c3 : a1 = Int32.ofInt 2
  · rw [if_pos c3] at hf
    obtain ⟨rfl, rfl⟩ := am_i2 hf
    exact hs
  rw [if_neg c3] at hf
  by_cases c4 : a1 = Int32.ofInt 3
  · rw [if_pos c4] at hf
    obtain ⟨rfl, rfl⟩ := am_i2 hf
    exact hs
  rw [if_neg c4] at hf
  by_cases c5 : a1 = Int32.ofInt 4
  · rw [if_pos c5] at hf
    obtain ⟨r6, h7, e8, hf⟩ := am_b2_ok hf
    have hs := s_X9_lettersLying n h hs e8
    obtain ⟨rfl, rfl⟩ := am_i2 hf
    exact hs
  rw [if_neg c5] at hf
  by_cases c9 : a1 = Int32.ofInt 5
  · rw [if_pos c9] at hf
    obtain ⟨rfl, rfl⟩ := am_i2 hf
    exact hs
  rw [if_neg c9] at hf
  obtain ⟨rfl, rfl⟩ := am_i2 hf
  exact hs
set_option maxRecDepth 100000 in
theorem c_X9_howMany (n : Nat) (a1 : Int32) (h : am_H) (hs : am_stat h) {v : Int32} {h' : am_H} (hf : f_X9_howMany n a1 h = some (v, h')) : AMet mX9_howMany (rX9_howMany 0 0) (fun r h2 => r = some (.int v) ∧ h2 = h') [.ref 51, .int a1] h := by
  unfold f_X9_howMany at hf
  refine AW_go okX9_howMany 2 ?_
  by_cases c1 : a1 = Int32.ofInt 0
  · rw [if_pos c1] at hf
    refine And.intro (fun q => absurd q (by rw [c1]; decide)) (fun _ _ => Exists.intro 39 (Exists.intro 40 (And.intro (by rw [c1]; rfl) (And.intro rfl ?_))))
    refine AW_go okX9_howMany 3 ?_
    refine And.intro (sK hs 51) ?_
    obtain ⟨rfl, rfl⟩ := am_i2 hf
    exact And.intro ⟨(Nat.le_of_ble_eq_true rfl), (Nat.le_of_ble_eq_true rfl)⟩ (And.intro (Or.inl rfl) ⟨rfl, rfl⟩)
  rw [if_neg c1] at hf
  by_cases c2 : a1 = Int32.ofInt 1
  · rw [if_pos c2] at hf
    refine And.intro (fun q => absurd q (by rw [c2]; decide)) (fun _ _ => Exists.intro 44 (Exists.intro 45 (And.intro (by rw [c2]; rfl) (And.intro rfl ?_))))
    refine AW_go okX9_howMany 3 ?_
    refine And.intro (sK hs 51) ?_
    obtain ⟨rfl, rfl⟩ := am_i2 hf
    exact And.intro ⟨(Nat.le_of_ble_eq_true rfl), (Nat.le_of_ble_eq_true rfl)⟩ (And.intro (Or.inl rfl) ⟨rfl, rfl⟩)
  rw [if_neg c2] at hf
  by_cases c3 : a1 = Int32.ofInt 2
  · rw [if_pos c3] at hf
    refine And.intro (fun q => absurd q (by rw [c3]; decide)) (fun _ _ => Exists.intro 49 (Exists.intro 50 (And.intro (by rw [c3]; rfl) (And.intro rfl ?_))))
    refine AW_go okX9_howMany 3 ?_
    refine And.intro (sK hs 51) ?_
    obtain ⟨rfl, rfl⟩ := am_i2 hf
    exact And.intro ⟨(Nat.le_of_ble_eq_true rfl), (Nat.le_of_ble_eq_true rfl)⟩ (And.intro (Or.inl rfl) ⟨rfl, rfl⟩)
  rw [if_neg c3] at hf
  by_cases c4 : a1 = Int32.ofInt 3
  · rw [if_pos c4] at hf
    refine And.intro (fun q => absurd q (by rw [c4]; decide)) (fun _ _ => Exists.intro 54 (Exists.intro 55 (And.intro (by rw [c4]; rfl) (And.intro rfl ?_))))
    refine AW_go okX9_howMany 3 ?_
    refine And.intro (sK hs 51) ?_
    obtain ⟨rfl, rfl⟩ := am_i2 hf
    exact And.intro ⟨(Nat.le_of_ble_eq_true rfl), (Nat.le_of_ble_eq_true rfl)⟩ (And.intro (Or.inl rfl) ⟨rfl, rfl⟩)
  rw [if_neg c4] at hf
  by_cases c5 : a1 = Int32.ofInt 4
  · rw [if_pos c5] at hf
    refine And.intro (fun q => absurd q (by rw [c5]; decide)) (fun _ _ => Exists.intro 59 (Exists.intro 60 (And.intro (by rw [c5]; rfl) (And.intro rfl ?_))))
    refine AW_go okX9_howMany 1 ?_
    obtain ⟨r6, h7, e8, hf⟩ := am_b2_ok hf
    refine AW_callV (As := []) (R' := rX9_lettersLying 0 0) (T := TX9) (N := 58) (ci := 9) (okX9_howMany.1 61 _ _ rfl) lkX9_lettersLying kX9_393 rfl (sK hs 51) rfl (Nat.le_of_ble_eq_true rfl) ⟨by decide, by decide⟩ ⟨(Nat.le_of_ble_eq_true rfl), (Nat.le_of_ble_eq_true rfl)⟩ (Nat.le_of_ble_eq_true rfl) (c_X9_lettersLying n h hs e8) (fun r h' hq => ?_)
    obtain ⟨rfl, hq⟩ := hq
    replace hq := hq.symm
    subst hq
    have hs := s_X9_lettersLying n h hs e8
    refine AW_go okX9_howMany 1 ?_
    obtain ⟨rfl, rfl⟩ := am_i2 hf
    exact And.intro ⟨(Nat.le_of_ble_eq_true rfl), (Nat.le_of_ble_eq_true rfl)⟩ (And.intro (Or.inl rfl) ⟨rfl, rfl⟩)
  rw [if_neg c5] at hf
  by_cases c9 : a1 = Int32.ofInt 5
  · rw [if_pos c9] at hf
    refine And.intro (fun q => absurd q (by rw [c9]; decide)) (fun _ _ => Exists.intro 64 (Exists.intro 65 (And.intro (by rw [c9]; rfl) (And.intro rfl ?_))))
    refine AW_go okX9_howMany 3 ?_
    refine And.intro (sK hs 51) ?_
    obtain ⟨rfl, rfl⟩ := am_i2 hf
    exact And.intro ⟨(Nat.le_of_ble_eq_true rfl), (Nat.le_of_ble_eq_true rfl)⟩ (And.intro (Or.inl rfl) ⟨rfl, rfl⟩)
  rw [if_neg c9] at hf
  refine And.intro (fun _ => Exists.intro 70 (And.intro rfl ?_)) (fun q1 q2 => absurd (am_sw6 q1 q2 c1 c2 c3 c4 c5 c9) id)
  refine AW_go okX9_howMany 2 ?_
  obtain ⟨rfl, rfl⟩ := am_i2 hf
  exact And.intro ⟨(Nat.le_of_ble_eq_true rfl), (Nat.le_of_ble_eq_true rfl)⟩ (And.intro (Or.inl rfl) ⟨rfl, rfl⟩)
def f_X9_count (n : Nat) (a1 : Int32) (h : am_H) : Option (Int32 × am_H) := am_b2 (f_X9_howMany n a1 h) fun r1 h2 => (some (r1, h2))
set_option maxRecDepth 100000 in
theorem s_X9_count (n : Nat) (a1 : Int32) (h : am_H) (hs : am_stat h) {v : Int32} {h' : am_H} (hf : f_X9_count n a1 h = some (v, h')) : am_stat h' := by
  unfold f_X9_count at hf
  obtain ⟨r1, h2, e3, hf⟩ := am_b2_ok hf
  have hs := s_X9_howMany n a1 h hs e3
  obtain ⟨rfl, rfl⟩ := am_i2 hf
  exact hs
set_option maxRecDepth 100000 in
theorem c_X9_count (n : Nat) (a1 : Int32) (h : am_H) (hs : am_stat h) {v : Int32} {h' : am_H} (hf : f_X9_count n a1 h = some (v, h')) : AMet mX9_count (rX9_count 0 0) (fun r h2 => r = some (.int v) ∧ h2 = h') [.ref 51, .int a1] h := by
  unfold f_X9_count at hf
  refine AW_go okX9_count 2 ?_
  obtain ⟨r1, h2, e3, hf⟩ := am_b2_ok hf
  refine AW_callV (As := [.int a1]) (R' := rX9_howMany 0 0) (T := TX9) (N := 58) (ci := 9) (okX9_count.1 2 _ _ rfl) lkX9_howMany kX9_397 rfl (sK hs 51) rfl (Nat.le_of_ble_eq_true rfl) ⟨by decide, by decide⟩ ⟨(Nat.le_of_ble_eq_true rfl), (Nat.le_of_ble_eq_true rfl)⟩ (Nat.le_of_ble_eq_true rfl) (c_X9_howMany n a1 h hs e3) (fun r h' hq => ?_)
  obtain ⟨rfl, hq⟩ := hq
  replace hq := hq.symm
  subst hq
  have hs := s_X9_howMany n a1 h hs e3
  refine AW_go okX9_count 1 ?_
  obtain ⟨rfl, rfl⟩ := am_i2 hf
  exact And.intro ⟨(Nat.le_of_ble_eq_true rfl), (Nat.le_of_ble_eq_true rfl)⟩ (And.intro (Or.inl rfl) ⟨rfl, rfl⟩)
def f_X9_mix (a1 : Int64) (h : am_H) : Option (Unit × am_H) := some ((), (am_sJ h 51 57 (((31 : Int64) * (am_J h 51 57)) + a1)))
set_option maxRecDepth 100000 in
theorem s_X9_mix (a1 : Int64) (h : am_H) (hs : am_stat h) {v : Unit} {h' : am_H} (hf : f_X9_mix a1 h = some (v, h')) : am_stat h' := by
  unfold f_X9_mix at hf
  obtain ⟨rfl, rfl⟩ := am_i2 hf
  exact hs
set_option maxRecDepth 100000 in
theorem c_X9_mix (a1 : Int64) (h : am_H) (hs : am_stat h) {v : Unit} {h' : am_H} (hf : f_X9_mix a1 h = some (v, h')) : AMet mX9_mix (rX9_mix 0 0) (fun r h2 => r = none ∧ h2 = h') [.ref 51, .long a1] h := by
  unfold f_X9_mix at hf
  refine AW_go okX9_mix 9 ?_
  refine And.intro (sK hs 51) ?_
  refine And.intro (sK hs 51) ?_
  obtain ⟨rfl, rfl⟩ := am_i2 hf
  exact And.intro ⟨(Nat.le_of_ble_eq_true rfl), (Nat.le_of_ble_eq_true rfl)⟩ (And.intro rfl ⟨rfl, rfl⟩)
def g_J7_fill_53178 : Nat → Nat → Nat → Int32 → Int32 → Int32 → am_H → Option (Unit × am_H)
  | 0, _, _, _, _, _, _ => none
  | n + 1, _, a0, a1, x2i, x3i, h => (if x3i ≤ x2i then some ((), h) else (am_ln h 0 a0).bind fun n2 => (bif am_vp x2i n2 then (g_J7_fill_53178 n 0 a0 a1 (x2i + Int32.ofInt 1) x3i (am_sI h a0 (Int32.toNatClampNeg x2i) a1)) else none))
set_option maxRecDepth 100000 in
set_option maxHeartbeats 4000000 in
theorem m_J7_fill_53178 (n : Nat) : (∀ (a0 : Nat) (a1 : Int32) (x2i : Int32) (x3i : Int32) (h : am_H) (v : Unit) (h' : am_H), am_stat h → g_J7_fill_53178 n 0 a0 a1 x2i x3i h = some (v, h') → am_stat h') := by
  induction n with
  | zero => exact fun a0 a1 x2i x3i h v h' hs hf => (by cases hf)
  | succ n ih =>
    skip
    · intro a0 a1 x2i x3i h v h' hs hf
      have hf : ((if x3i ≤ x2i then some ((), h) else (am_ln h 0 a0).bind fun n2 => (bif am_vp x2i n2 then (g_J7_fill_53178 n 0 a0 a1 (x2i + Int32.ofInt 1) x3i (am_sI h a0 (Int32.toNatClampNeg x2i) a1)) else none))) = some (v, h') := hf
      by_cases c1 : x3i ≤ x2i
      · rw [if_pos c1] at hf
        obtain ⟨rfl, rfl⟩ := am_i2 hf
        exact hs
      · rw [if_neg c1] at hf
        obtain ⟨n2, k3, hf⟩ := am_bnd hf
        obtain ⟨b4, hf⟩ := am_bis hf
        exact ih a0 a1 (x2i + Int32.ofInt 1) x3i (am_sI h a0 (Int32.toNatClampNeg x2i) a1) _ _ hs hf
set_option maxRecDepth 100000 in
set_option maxHeartbeats 4000000 in
theorem l_J7_fill_53178 (n : Nat) : (∀ (a0 : Nat) (a1 : Int32) (x2i : Int32) (x3i : Int32) (h : am_H) (v : Unit) (h' : am_H), am_stat h → g_J7_fill_53178 n 0 a0 a1 x2i x3i h = some (v, h') → AW mJ7_fill_53178 (rJ7_fill_53178 0 0) (fun r h2 => r = none ∧ h2 = h') 5 [(0, .ref a0), (1, .int a1), (2, .int x2i), (3, .int x3i)] [] h 0 0) := by
  induction n with
  | zero => exact fun a0 a1 x2i x3i h v h' hs hf => (by cases hf)
  | succ n ih =>
    skip
    · intro a0 a1 x2i x3i h v h' hs hf
      have hf : ((if x3i ≤ x2i then some ((), h) else (am_ln h 0 a0).bind fun n2 => (bif am_vp x2i n2 then (g_J7_fill_53178 n 0 a0 a1 (x2i + Int32.ofInt 1) x3i (am_sI h a0 (Int32.toNatClampNeg x2i) a1)) else none))) = some (v, h') := hf
      refine AW_go okJ7_fill_53178 3 ?_
      refine And.intro (fun c1 => ?_) (fun c1 => ?_)
      · rw [if_pos c1] at hf
        refine AW_go okJ7_fill_53178 1 ?_
        obtain ⟨rfl, rfl⟩ := am_i2 hf
        exact And.intro ⟨(Nat.le_of_ble_eq_true rfl), (Nat.le_of_ble_eq_true rfl)⟩ (And.intro rfl ⟨rfl, rfl⟩)
      · rw [if_neg c1] at hf
        obtain ⟨n2, k3, hf⟩ := am_bnd hf
        obtain ⟨b4, hf⟩ := am_bis hf
        refine AW_go okJ7_fill_53178 6 ?_
        refine Exists.intro n2 (And.intro (am_ln_ok k3) (And.intro (am_vp_ok b4) ?_))
        refine AW_pick (lv' := [(0, .ref a0), (1, .int a1), (2, .int (x2i + Int32.ofInt 1)), (3, .int x3i)]) [1, 2, 0, 3] rfl ?_
        exact ih a0 a1 (x2i + Int32.ofInt 1) x3i (am_sI h a0 (Int32.toNatClampNeg x2i) a1) _ _ hs hf
def f_J7_fill_53178 (n : Nat) (a0 : Nat) (a1 : Int32) (h : am_H) : Option (Unit × am_H) := (am_ln h 0 a0).bind fun n1 => (g_J7_fill_53178 n 0 a0 a1 (Int32.ofInt 0) (Int32.ofNat n1) h)
set_option maxRecDepth 100000 in
theorem s_J7_fill_53178 (n : Nat) (a0 : Nat) (a1 : Int32) (h : am_H) (hs : am_stat h) {v : Unit} {h' : am_H} (hf : f_J7_fill_53178 n a0 a1 h = some (v, h')) : am_stat h' := by
  unfold f_J7_fill_53178 at hf
  obtain ⟨n1, k2, hf⟩ := am_bnd hf
  exact (m_J7_fill_53178 n) a0 a1 (Int32.ofInt 0) (Int32.ofNat n1) h _ _ hs hf
set_option maxRecDepth 100000 in
theorem c_J7_fill_53178 (n : Nat) (a0 : Nat) (a1 : Int32) (h : am_H) (hs : am_stat h) {v : Unit} {h' : am_H} (hf : f_J7_fill_53178 n a0 a1 h = some (v, h')) : AMet mJ7_fill_53178 (rJ7_fill_53178 0 0) (fun r h2 => r = none ∧ h2 = h') [.ref a0, .int a1] h := by
  unfold f_J7_fill_53178 at hf
  obtain ⟨n1, k2, hf⟩ := am_bnd hf
  refine AW_go okJ7_fill_53178 5 ?_
  refine Exists.intro 0 (Exists.intro n1 (And.intro (by decide) (And.intro (am_ln_ok k2) ?_)))
  refine AW_pick (lv' := [(0, .ref a0), (1, .int a1), (2, .int (Int32.ofInt 0)), (3, .int (Int32.ofNat n1))]) [2, 3, 1, 0] rfl ?_
  exact (l_J7_fill_53178 n) a0 a1 (Int32.ofInt 0) (Int32.ofNat n1) h _ _ hs hf
