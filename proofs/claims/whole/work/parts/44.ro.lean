/-! ===== methods that only read: the heap stays (by program) ===== -/
set_option maxRecDepth 100000 in
set_option maxHeartbeats 4000000 in
theorem u_X0_endings (n : Nat) : (∀ (o : Nat) (x1i : Int32) (x2i : Int32) (h : am_H) (v : Int32) (h' : am_H), g_X0_endings n 0 o x1i x2i h = some (v, h') → h' = h) := by
  induction n with
  | zero => exact fun o x1i x2i h v h' hf => (by cases hf)
  | succ n ih =>
    skip
    · intro o x1i x2i h v h' hf
      have hf : (bif am_isO h o 0 then ((if (am_I h o 0) < x2i then some (x1i, h) else (am_A h o 2).bind fun q3 => ((am_ln h 0 q3).bind fun n5 => (bif am_vp x2i n5 then (g_X0_endings n 0 o (x1i + ((am_I h q3 (Int32.toNatClampNeg x2i)) &&& (Int32.ofInt 1))) (x2i + Int32.ofInt 1) h) else none)))) else none) = some (v, h') := hf
      obtain ⟨k1, hf⟩ := am_bis hf
      by_cases c2 : (am_I h o 0) < x2i
      · rw [if_pos c2] at hf
        obtain ⟨rfl, rfl⟩ := am_i2 hf
        exact rfl
      · rw [if_neg c2] at hf
        obtain ⟨q3, k4, hf⟩ := am_bnd hf
        obtain ⟨n5, k6, hf⟩ := am_bnd hf
        obtain ⟨b7, hf⟩ := am_bis hf
        exact ih o (x1i + ((am_I h q3 (Int32.toNatClampNeg x2i)) &&& (Int32.ofInt 1))) (x2i + Int32.ofInt 1) h _ _ hf
set_option maxRecDepth 100000 in
theorem ro_X0_endings (n : Nat) (o : Nat) (h : am_H) {v : Int32} {h' : am_H} (hf : f_X0_endings n o h = some (v, h')) : h' = h := by
  unfold f_X0_endings at hf
  exact (u_X0_endings n) o (Int32.ofInt 0) (Int32.ofInt 0) h _ _ hf
set_option maxRecDepth 100000 in
set_option maxHeartbeats 4000000 in
theorem u_X0_names (n : Nat) : (∀ (o : Nat) (a1 : Int32) (x2i : Int32) (h : am_H) (v : Int32) (h' : am_H), g_X0_names n 0 o a1 x2i h = some (v, h') → h' = h) := by
  induction n with
  | zero => exact fun o a1 x2i h v h' hf => (by cases hf)
  | succ n ih =>
    skip
    · intro o a1 x2i h v h' hf
      have hf : (bif am_isO h o 0 then ((if (am_I h o 0) < x2i then some ((Int32.ofInt 0), h) else (am_A h o 1).bind fun q3 => ((am_ln h 0 q3).bind fun n5 => (bif am_vp x2i n5 then ((if (((am_I h q3 (Int32.toNatClampNeg x2i)) / (Int32.ofInt 10)) - ((am_I h q3 (Int32.toNatClampNeg x2i)) / (Int32.ofInt 10)) / (Int32.ofInt 10) * (Int32.ofInt 10)) = a1 then some ((Int32.ofInt 1), h) else g_X0_names n 0 o a1 (x2i + Int32.ofInt 1) h)) else none)))) else none) = some (v, h') := hf
      obtain ⟨k1, hf⟩ := am_bis hf
      by_cases c2 : (am_I h o 0) < x2i
      · rw [if_pos c2] at hf
        obtain ⟨rfl, rfl⟩ := am_i2 hf
        exact rfl
      · rw [if_neg c2] at hf
        obtain ⟨q3, k4, hf⟩ := am_bnd hf
        obtain ⟨n5, k6, hf⟩ := am_bnd hf
        obtain ⟨b7, hf⟩ := am_bis hf
        by_cases c8 : (((am_I h q3 (Int32.toNatClampNeg x2i)) / (Int32.ofInt 10)) - ((am_I h q3 (Int32.toNatClampNeg x2i)) / (Int32.ofInt 10)) / (Int32.ofInt 10) * (Int32.ofInt 10)) = a1
        · rw [if_pos c8] at hf
          obtain ⟨rfl, rfl⟩ := am_i2 hf
          exact rfl
        · rw [if_neg c8] at hf
          exact ih o a1 (x2i + Int32.ofInt 1) h _ _ hf
set_option maxRecDepth 100000 in
theorem ro_X0_names (n : Nat) (o : Nat) (a1 : Int32) (h : am_H) {v : Int32} {h' : am_H} (hf : f_X0_names n o a1 h = some (v, h')) : h' = h := by
  unfold f_X0_names at hf
  exact (u_X0_names n) o a1 (Int32.ofInt 1) h _ _ hf
set_option maxRecDepth 100000 in
set_option maxHeartbeats 4000000 in
theorem u_X1_length (n : Nat) : (∀ (x1i : Int32) (x2i : Int32) (h : am_H) (v : Int32) (h' : am_H), g_X1_length n 0 x1i x2i h = some (v, h') → h' = h) := by
  induction n with
  | zero => exact fun x1i x2i h v h' hf => (by cases hf)
  | succ n ih =>
    skip
    · intro x1i x2i h v h' hf
      have hf : ((if x2i ≤ 0 then some (x1i, h) else (if (am_I h 19 4) ≤ x1i then some (x1i, h) else (am_A h 19 9).bind fun q3 => ((am_ln h 0 q3).bind fun n5 => (bif am_vp x2i n5 then (g_X1_length n 0 (x1i + Int32.ofInt 1) (am_I h q3 (Int32.toNatClampNeg x2i)) h) else none))))) = some (v, h') := hf
      by_cases c1 : x2i ≤ 0
      · rw [if_pos c1] at hf
        obtain ⟨rfl, rfl⟩ := am_i2 hf
        exact rfl
      · rw [if_neg c1] at hf
        by_cases c2 : (am_I h 19 4) ≤ x1i
        · rw [if_pos c2] at hf
          obtain ⟨rfl, rfl⟩ := am_i2 hf
          exact rfl
        · rw [if_neg c2] at hf
          obtain ⟨q3, k4, hf⟩ := am_bnd hf
          obtain ⟨n5, k6, hf⟩ := am_bnd hf
          obtain ⟨b7, hf⟩ := am_bis hf
          exact ih (x1i + Int32.ofInt 1) (am_I h q3 (Int32.toNatClampNeg x2i)) h _ _ hf
set_option maxRecDepth 100000 in
theorem ro_X1_length (n : Nat) (h : am_H) {v : Int32} {h' : am_H} (hf : f_X1_length n h = some (v, h')) : h' = h := by
  unfold f_X1_length at hf
  exact (u_X1_length n) (Int32.ofInt 0) (am_I h 19 5) h _ _ hf
set_option maxRecDepth 100000 in
theorem ro_X2_kinOf (a1 : Int32) (h : am_H) {v : Int32} {h' : am_H} (hf : f_X2_kinOf a1 h = some (v, h')) : h' = h := by
  unfold f_X2_kinOf at hf
  obtain ⟨y1, j2, hf⟩ := am_bnd hf
  obtain ⟨rfl, rfl⟩ := am_i2 hf
  exact rfl
set_option maxRecDepth 100000 in
theorem ro_X3_behind (o : Nat) (a1 : Int32) (a2 : Int32) (h : am_H) {v : Int32} {h' : am_H} (hf : f_X3_behind o a1 a2 h = some (v, h')) : h' = h := by
  unfold f_X3_behind at hf
  obtain ⟨k1, hf⟩ := am_bis hf
  obtain ⟨q2, k3, hf⟩ := am_bnd hf
  obtain ⟨n4, k5, hf⟩ := am_bnd hf
  obtain ⟨b6, hf⟩ := am_bis hf
  obtain ⟨rfl, rfl⟩ := am_i2 hf
  exact rfl
set_option maxRecDepth 100000 in
theorem ro_X4_byteOf (a0 : Int64) (a2 : Int32) (h : am_H) {v : Int32} {h' : am_H} (hf : f_X4_byteOf a0 a2 h = some (v, h')) : h' = h := by
  unfold f_X4_byteOf at hf
  obtain ⟨rfl, rfl⟩ := am_i2 hf
  exact rfl
set_option maxRecDepth 100000 in
theorem ro_X5_isWhole (h : am_H) {v : Int32} {h' : am_H} (hf : f_X5_isWhole h = some (v, h')) : h' = h := by
  unfold f_X5_isWhole at hf
  obtain ⟨y1, j2, hf⟩ := am_bnd hf
  obtain ⟨b56, hf⟩ := am_bis hf
  obtain ⟨rfl, rfl⟩ := am_i2 hf
  exact rfl
set_option maxRecDepth 100000 in
theorem ro_X5_isMark (a0 : Int32) (h : am_H) {v : Int32} {h' : am_H} (hf : f_X5_isMark a0 h = some (v, h')) : h' = h := by
  unfold f_X5_isMark at hf
  obtain ⟨y1, j2, hf⟩ := am_bnd hf
  obtain ⟨b55, hf⟩ := am_bis hf
  obtain ⟨rfl, rfl⟩ := am_i2 hf
  exact rfl
set_option maxRecDepth 100000 in
theorem ro_X5_isDigit (a0 : Int32) (h : am_H) {v : Int32} {h' : am_H} (hf : f_X5_isDigit a0 h = some (v, h')) : h' = h := by
  unfold f_X5_isDigit at hf
  obtain ⟨y1, j2, hf⟩ := am_bnd hf
  obtain ⟨b55, hf⟩ := am_bis hf
  obtain ⟨rfl, rfl⟩ := am_i2 hf
  exact rfl
set_option maxRecDepth 100000 in
theorem ro_X5_isLetter (a0 : Int32) (h : am_H) {v : Int32} {h' : am_H} (hf : f_X5_isLetter a0 h = some (v, h')) : h' = h := by
  unfold f_X5_isLetter at hf
  obtain ⟨y1, j2, hf⟩ := am_bnd hf
  obtain ⟨b55, hf⟩ := am_bis hf
  obtain ⟨rfl, rfl⟩ := am_i2 hf
  exact rfl
set_option maxRecDepth 100000 in
set_option maxHeartbeats 4000000 in
theorem u_X5_isRowOfActs (n : Nat) : (∀ (a0 : Nat) (x1i : Int32) (h : am_H) (v : Int32) (h' : am_H), g_X5_isRowOfActs n 0 a0 x1i h = some (v, h') → h' = h) := by
  induction n with
  | zero => exact fun a0 x1i h v h' hf => (by cases hf)
  | succ n ih =>
    skip
    · intro a0 x1i h v h' hf
      have hf : (bif am_isO h a0 4 then ((if (am_I h a0 1) ≤ (x1i + (Int32.ofInt 2)) then some ((Int32.ofInt 1), h) else (am_A h a0 0).bind fun q3 => ((am_ln h 0 q3).bind fun n5 => (bif am_vp x1i n5 then (am_b2 (f_X5_isMark (am_I h q3 (Int32.toNatClampNeg x1i)) h) fun r8 h9 => ((if r8 = 0 then some ((Int32.ofInt 0), h9) else bif am_isO h9 a0 4 then ((am_A h9 a0 0).bind fun q13 => ((am_ln h9 0 q13).bind fun n15 => (bif am_vp (x1i + (Int32.ofInt 1)) n15 then (am_b2 (f_X5_isDigit (am_I h9 q13 (Int32.toNatClampNeg (x1i + (Int32.ofInt 1)))) h9) fun r18 h19 => ((if r18 = 0 then some ((Int32.ofInt 0), h19) else bif am_isO h19 a0 4 then ((am_A h19 a0 0).bind fun q23 => ((am_ln h19 0 q23).bind fun n25 => (bif am_vp (x1i + (Int32.ofInt 2)) n25 then (am_b2 (f_X5_isLetter (am_I h19 q23 (Int32.toNatClampNeg (x1i + (Int32.ofInt 2)))) h19) fun r28 h29 => ((if r28 = 0 then some ((Int32.ofInt 0), h29) else g_X5_isRowOfActs n 0 a0 (x1i + Int32.ofInt 3) h29))) else none))) else none))) else none))) else none))) else none)))) else none) = some (v, h') := hf
      obtain ⟨k1, hf⟩ := am_bis hf
      by_cases c2 : (am_I h a0 1) ≤ (x1i + (Int32.ofInt 2))
      · rw [if_pos c2] at hf
        obtain ⟨rfl, rfl⟩ := am_i2 hf
        exact rfl
      · rw [if_neg c2] at hf
        obtain ⟨q3, k4, hf⟩ := am_bnd hf
        obtain ⟨n5, k6, hf⟩ := am_bnd hf
        obtain ⟨b7, hf⟩ := am_bis hf
        obtain ⟨r8, h9, e10, hf⟩ := am_b2_ok hf
        have hro := (ro_X5_isMark (am_I h q3 (Int32.toNatClampNeg x1i)) h e10).symm
        subst hro
        by_cases c11 : r8 = 0
        · rw [if_pos c11] at hf
          obtain ⟨rfl, rfl⟩ := am_i2 hf
          exact rfl
        · rw [if_neg c11] at hf
          obtain ⟨k12, hf⟩ := am_bis hf
          obtain ⟨q13, k14, hf⟩ := am_bnd hf
          obtain ⟨n15, k16, hf⟩ := am_bnd hf
          obtain ⟨b17, hf⟩ := am_bis hf
          obtain ⟨r18, h19, e20, hf⟩ := am_b2_ok hf
          have hro := (ro_X5_isDigit (am_I h q13 (Int32.toNatClampNeg (x1i + (Int32.ofInt 1)))) h e20).symm
          subst hro
          by_cases c21 : r18 = 0
          · rw [if_pos c21] at hf
            obtain ⟨rfl, rfl⟩ := am_i2 hf
            exact rfl
          · rw [if_neg c21] at hf
            obtain ⟨k22, hf⟩ := am_bis hf
            obtain ⟨q23, k24, hf⟩ := am_bnd hf
            obtain ⟨n25, k26, hf⟩ := am_bnd hf
            obtain ⟨b27, hf⟩ := am_bis hf
            obtain ⟨r28, h29, e30, hf⟩ := am_b2_ok hf
            have hro := (ro_X5_isLetter (am_I h q23 (Int32.toNatClampNeg (x1i + (Int32.ofInt 2)))) h e30).symm
            subst hro
            by_cases c31 : r28 = 0
            · rw [if_pos c31] at hf
              obtain ⟨rfl, rfl⟩ := am_i2 hf
              exact rfl
            · rw [if_neg c31] at hf
              exact ih a0 (x1i + Int32.ofInt 3) h _ _ hf
set_option maxRecDepth 100000 in
theorem ro_X5_isRowOfActs (n : Nat) (a0 : Nat) (h : am_H) {v : Int32} {h' : am_H} (hf : f_X5_isRowOfActs n a0 h = some (v, h')) : h' = h := by
  unfold f_X5_isRowOfActs at hf
  obtain ⟨k1, hf⟩ := am_bis hf
  by_cases c2 : ((am_I h a0 1) - (am_I h a0 1) / (Int32.ofInt 3) * (Int32.ofInt 3)) = 0
  · rw [if_pos c2] at hf
    exact (u_X5_isRowOfActs n) a0 (Int32.ofInt 0) h _ _ hf
  · rw [if_neg c2] at hf
    obtain ⟨rfl, rfl⟩ := am_i2 hf
    exact rfl
set_option maxRecDepth 100000 in
theorem ro_X5_bookCode (a0 : Nat) (a1 : Int32) (h : am_H) {v : Int32} {h' : am_H} (hf : f_X5_bookCode a0 a1 h = some (v, h')) : h' = h := by
  unfold f_X5_bookCode at hf
  obtain ⟨k1, hf⟩ := am_bis hf
  obtain ⟨q2, k3, hf⟩ := am_bnd hf
  obtain ⟨n4, k5, hf⟩ := am_bnd hf
  obtain ⟨b6, hf⟩ := am_bis hf
  obtain ⟨y7, j8, hf⟩ := am_bnd hf
  obtain ⟨q60, k61, hf⟩ := am_bnd hf
  obtain ⟨n62, k63, hf⟩ := am_bnd hf
  obtain ⟨b64, hf⟩ := am_bis hf
  obtain ⟨q65, k66, hf⟩ := am_bnd hf
  obtain ⟨n67, k68, hf⟩ := am_bnd hf
  obtain ⟨b69, hf⟩ := am_bis hf
  obtain ⟨rfl, rfl⟩ := am_i2 hf
  exact rfl
set_option maxRecDepth 100000 in
theorem ro_X5_partCode (a0 : Nat) (a1 : Int32) (a2 : Int32) (h : am_H) {v : Int32} {h' : am_H} (hf : f_X5_partCode a0 a1 a2 h = some (v, h')) : h' = h := by
  unfold f_X5_partCode at hf
  obtain ⟨k1, hf⟩ := am_bis hf
  obtain ⟨q2, k3, hf⟩ := am_bnd hf
  obtain ⟨n4, k5, hf⟩ := am_bnd hf
  obtain ⟨b6, hf⟩ := am_bis hf
  obtain ⟨q7, k8, hf⟩ := am_bnd hf
  obtain ⟨n9, k10, hf⟩ := am_bnd hf
  obtain ⟨b11, hf⟩ := am_bis hf
  obtain ⟨q12, k13, hf⟩ := am_bnd hf
  obtain ⟨n14, k15, hf⟩ := am_bnd hf
  obtain ⟨b16, hf⟩ := am_bis hf
  by_cases c17 : a2 = (Int32.ofInt (-1))
  · rw [if_pos c17] at hf
    obtain ⟨rfl, rfl⟩ := am_i2 hf
    exact rfl
  · rw [if_neg c17] at hf
    by_cases c18 : a2 = ((am_I h q2 (Int32.toNatClampNeg a1)) - (Int32.ofInt 48))
    · rw [if_pos c18] at hf
      obtain ⟨rfl, rfl⟩ := am_i2 hf
      exact rfl
    · rw [if_neg c18] at hf
      obtain ⟨y19, j20, hf⟩ := am_bnd hf
      obtain ⟨rfl, rfl⟩ := am_i2 hf
      exact rfl
set_option maxRecDepth 100000 in
theorem ro_X6_isSound (o : Nat) (h : am_H) {v : Int32} {h' : am_H} (hf : f_X6_isSound o h = some (v, h')) : h' = h := by
  unfold f_X6_isSound at hf
  obtain ⟨y1, j2, hf⟩ := am_bnd hf
  obtain ⟨b56, hf⟩ := am_bis hf
  obtain ⟨rfl, rfl⟩ := am_i2 hf
  exact rfl
set_option maxRecDepth 100000 in
set_option maxHeartbeats 4000000 in
theorem u_X6_depthOf (n : Nat) : (∀ (o : Nat) (a1 : Int32) (x2i : Int32) (x3i : Int32) (h : am_H) (v : Int32) (h' : am_H), g_X6_depthOf n 0 o a1 x2i x3i h = some (v, h') → h' = h) := by
  induction n with
  | zero => exact fun o a1 x2i x3i h v h' hf => (by cases hf)
  | succ n ih =>
    skip
    · intro o a1 x2i x3i h v h' hf
      have hf : ((if x3i ≤ 0 then some (x2i, h) else (if (am_I h o 0) ≤ x2i then some (x2i, h) else bif am_vp x3i 2000 then (g_X6_depthOf n 0 o a1 (x2i + Int32.ofInt 1) (am_I h (o + 5) (Int32.toNatClampNeg x3i)) h) else none))) = some (v, h') := hf
      by_cases c1 : x3i ≤ 0
      · rw [if_pos c1] at hf
        obtain ⟨rfl, rfl⟩ := am_i2 hf
        exact rfl
      · rw [if_neg c1] at hf
        by_cases c2 : (am_I h o 0) ≤ x2i
        · rw [if_pos c2] at hf
          obtain ⟨rfl, rfl⟩ := am_i2 hf
          exact rfl
        · rw [if_neg c2] at hf
          obtain ⟨b3, hf⟩ := am_bis hf
          exact ih o a1 (x2i + Int32.ofInt 1) (am_I h (o + 5) (Int32.toNatClampNeg x3i)) h _ _ hf
set_option maxRecDepth 100000 in
theorem ro_X6_depthOf (n : Nat) (o : Nat) (a1 : Int32) (h : am_H) {v : Int32} {h' : am_H} (hf : f_X6_depthOf n o a1 h = some (v, h')) : h' = h := by
  unfold f_X6_depthOf at hf
  exact (u_X6_depthOf n) o a1 (Int32.ofInt 0) a1 h _ _ hf
set_option maxRecDepth 100000 in
set_option maxHeartbeats 4000000 in
theorem u_X6_stepTo (n : Nat) : (∀ (o : Nat) (a1 : Int32) (a2 : Int32) (x3i : Int32) (x4i : Int32) (x5i : Int32) (h : am_H) (v : Int32) (h' : am_H), g_X6_stepTo n 0 o a1 a2 x3i x4i x5i h = some (v, h') → h' = h) := by
  induction n with
  | zero => exact fun o a1 a2 x3i x4i x5i h v h' hf => (by cases hf)
  | succ n ih =>
    skip
    · intro o a1 a2 x3i x4i x5i h v h' hf
      have hf : ((if x3i ≤ x5i then bif am_vp x4i 2000 then (some ((am_I h (o + 6) (Int32.toNatClampNeg x4i)), h)) else none else bif am_vp x4i 2000 then (g_X6_stepTo n 0 o a1 a2 x3i (am_I h (o + 5) (Int32.toNatClampNeg x4i)) (x5i + Int32.ofInt 1) h) else none)) = some (v, h') := hf
      by_cases c1 : x3i ≤ x5i
      · rw [if_pos c1] at hf
        obtain ⟨b2, hf⟩ := am_bis hf
        obtain ⟨rfl, rfl⟩ := am_i2 hf
        exact rfl
      · rw [if_neg c1] at hf
        obtain ⟨b3, hf⟩ := am_bis hf
        exact ih o a1 a2 x3i (am_I h (o + 5) (Int32.toNatClampNeg x4i)) (x5i + Int32.ofInt 1) h _ _ hf
set_option maxRecDepth 100000 in
theorem ro_X6_stepTo (n : Nat) (o : Nat) (a1 : Int32) (a2 : Int32) (h : am_H) {v : Int32} {h' : am_H} (hf : f_X6_stepTo n o a1 a2 h = some (v, h')) : h' = h := by
  unfold f_X6_stepTo at hf
  obtain ⟨r1, h2, e3, hf⟩ := am_b2_ok hf
  have hro := (ro_X6_depthOf n o a1 h e3).symm
  subst hro
  by_cases c4 : 0 ≤ ((r1 - (Int32.ofInt 1)) - a2)
  · rw [if_pos c4] at hf
    exact (u_X6_stepTo n) o a1 a2 ((r1 - (Int32.ofInt 1)) - a2) a1 (Int32.ofInt 0) h _ _ hf
  · rw [if_neg c4] at hf
    obtain ⟨rfl, rfl⟩ := am_i2 hf
    exact rfl
set_option maxRecDepth 100000 in
set_option maxHeartbeats 4000000 in
theorem u_X6_actsOnWay (n : Nat) : (∀ (o : Nat) (a1 : Int32) (a2 : Int32) (x3i : Int32) (x4i : Int32) (x5i : Int32) (h : am_H) (v : Int32) (h' : am_H), g_X6_actsOnWay n 0 o a1 a2 x3i x4i x5i h = some (v, h') → h' = h) := by
  induction n with
  | zero => exact fun o a1 a2 x3i x4i x5i h v h' hf => (by cases hf)
  | succ n ih =>
    skip
    · intro o a1 a2 x3i x4i x5i h v h' hf
      have hf : ((if x5i ≤ 0 then some (x3i, h) else (if (am_I h o 0) ≤ x4i then some (x3i, h) else bif am_vp x5i 2000 then (Option.bind ((if (((am_I h (o + 6) (Int32.toNatClampNeg x5i)) - (am_I h (o + 6) (Int32.toNatClampNeg x5i)) / (Int32.ofInt 1000) * (Int32.ofInt 1000)) / (Int32.ofInt 100)) = a2 then some (x3i ||| ((Int32.ofInt 1) <<< (((am_I h (o + 6) (Int32.toNatClampNeg x5i)) - (am_I h (o + 6) (Int32.toNatClampNeg x5i)) / (Int32.ofInt 100) * (Int32.ofInt 100)) &&& 31))) else some x3i)) fun y4 => (g_X6_actsOnWay n 0 o a1 a2 y4 (x4i + Int32.ofInt 1) (am_I h (o + 5) (Int32.toNatClampNeg x5i)) h)) else none))) = some (v, h') := hf
      by_cases c1 : x5i ≤ 0
      · rw [if_pos c1] at hf
        obtain ⟨rfl, rfl⟩ := am_i2 hf
        exact rfl
      · rw [if_neg c1] at hf
        by_cases c2 : (am_I h o 0) ≤ x4i
        · rw [if_pos c2] at hf
          obtain ⟨rfl, rfl⟩ := am_i2 hf
          exact rfl
        · rw [if_neg c2] at hf
          obtain ⟨b3, hf⟩ := am_bis hf
          obtain ⟨y4, j5, hf⟩ := am_bnd hf
          exact ih o a1 a2 y4 (x4i + Int32.ofInt 1) (am_I h (o + 5) (Int32.toNatClampNeg x5i)) h _ _ hf
set_option maxRecDepth 100000 in
theorem ro_X6_actsOnWay (n : Nat) (o : Nat) (a1 : Int32) (a2 : Int32) (h : am_H) {v : Int32} {h' : am_H} (hf : f_X6_actsOnWay n o a1 a2 h = some (v, h')) : h' = h := by
  unfold f_X6_actsOnWay at hf
  exact (u_X6_actsOnWay n) o a1 a2 (Int32.ofInt 0) (Int32.ofInt 0) a1 h _ _ hf
set_option maxRecDepth 100000 in
set_option maxHeartbeats 4000000 in
theorem u_X6_firstBad (n : Nat) : (∀ (o : Nat) (x1i : Int32) (h : am_H) (v : Int32) (h' : am_H), g_X6_firstBad n 0 o x1i h = some (v, h') → h' = h) := by
  induction n with
  | zero => exact fun o x1i h v h' hf => (by cases hf)
  | succ n ih =>
    skip
    · intro o x1i h v h' hf
      have hf : ((if (am_I h o 0) ≤ x1i then some ((Int32.ofInt (-1)), h) else bif am_vp x1i 2000 then ((if ((am_I h (o + 4) (Int32.toNatClampNeg x1i)) &&& (Int32.ofInt 7)) = 0 then g_X6_firstBad n 0 o (x1i + Int32.ofInt 1) h else some (x1i, h))) else none)) = some (v, h') := hf
      by_cases c1 : (am_I h o 0) ≤ x1i
      · rw [if_pos c1] at hf
        obtain ⟨rfl, rfl⟩ := am_i2 hf
        exact rfl
      · rw [if_neg c1] at hf
        obtain ⟨b2, hf⟩ := am_bis hf
        by_cases c3 : ((am_I h (o + 4) (Int32.toNatClampNeg x1i)) &&& (Int32.ofInt 7)) = 0
        · rw [if_pos c3] at hf
          exact ih o (x1i + Int32.ofInt 1) h _ _ hf
        · rw [if_neg c3] at hf
          obtain ⟨rfl, rfl⟩ := am_i2 hf
          exact rfl
set_option maxRecDepth 100000 in
theorem ro_X6_firstBad (n : Nat) (o : Nat) (h : am_H) {v : Int32} {h' : am_H} (hf : f_X6_firstBad n o h = some (v, h')) : h' = h := by
  unfold f_X6_firstBad at hf
  exact (u_X6_firstBad n) o (Int32.ofInt 0) h _ _ hf
set_option maxRecDepth 100000 in
set_option maxHeartbeats 4000000 in
theorem u_X6_slotOf (n : Nat) : (∀ (o : Nat) (a1 : Int64) (x3i : Int32) (x4i : Int32) (h : am_H) (v : Int32) (h' : am_H), g_X6_slotOf n 0 o a1 x3i x4i h = some (v, h') → h' = h) := by
  induction n with
  | zero => exact fun o a1 x3i x4i h v h' hf => (by cases hf)
  | succ n ih =>
    skip
    · intro o a1 x3i x4i h v h' hf
      have hf : ((if (Int32.ofInt 4096) ≤ x4i then some (x3i, h) else bif am_vp x3i 4096 then ((if (am_I h (o + 7) (Int32.toNatClampNeg x3i)) = 0 then some (x3i, h) else bif am_vp ((am_I h (o + 7) (Int32.toNatClampNeg x3i)) - (Int32.ofInt 1)) 2000 then ((if (lg_cmp (am_J h (o + 3) (Int32.toNatClampNeg ((am_I h (o + 7) (Int32.toNatClampNeg x3i)) - (Int32.ofInt 1)))) a1) = 0 then some (x3i, h) else g_X6_slotOf n 0 o a1 ((x3i + (Int32.ofInt 1)) &&& (Int32.ofInt 4095)) (x4i + Int32.ofInt 1) h)) else none)) else none)) = some (v, h') := hf
      by_cases c1 : (Int32.ofInt 4096) ≤ x4i
      · rw [if_pos c1] at hf
        obtain ⟨rfl, rfl⟩ := am_i2 hf
        exact rfl
      · rw [if_neg c1] at hf
        obtain ⟨b2, hf⟩ := am_bis hf
        by_cases c3 : (am_I h (o + 7) (Int32.toNatClampNeg x3i)) = 0
        · rw [if_pos c3] at hf
          obtain ⟨rfl, rfl⟩ := am_i2 hf
          exact rfl
        · rw [if_neg c3] at hf
          obtain ⟨b4, hf⟩ := am_bis hf
          by_cases c5 : (lg_cmp (am_J h (o + 3) (Int32.toNatClampNeg ((am_I h (o + 7) (Int32.toNatClampNeg x3i)) - (Int32.ofInt 1)))) a1) = 0
          · rw [if_pos c5] at hf
            obtain ⟨rfl, rfl⟩ := am_i2 hf
            exact rfl
          · rw [if_neg c5] at hf
            exact ih o a1 ((x3i + (Int32.ofInt 1)) &&& (Int32.ofInt 4095)) (x4i + Int32.ofInt 1) h _ _ hf
set_option maxRecDepth 100000 in
theorem ro_X6_slotOf (n : Nat) (o : Nat) (a1 : Int64) (h : am_H) {v : Int32} {h' : am_H} (hf : f_X6_slotOf n o a1 h = some (v, h')) : h' = h := by
  unfold f_X6_slotOf at hf
  exact (u_X6_slotOf n) o a1 (Int64.toInt32 ((Int64.toUInt64 (a1 * (-7046029254386353131 : Int64)) >>> ((Int32.toInt64 (Int32.ofInt 52)).toUInt64 &&& Int64.toUInt64 63)).toInt64)) (Int32.ofInt 0) h _ _ hf
set_option maxRecDepth 100000 in
theorem ro_X7_placeIn (a0 : Int64) (a2 : Int32) (h : am_H) {v : Int32} {h' : am_H} (hf : f_X7_placeIn a0 a2 h = some (v, h')) : h' = h := by
  unfold f_X7_placeIn at hf
  obtain ⟨rfl, rfl⟩ := am_i2 hf
  exact rfl
set_option maxRecDepth 100000 in
theorem ro_X7_contentIn (a0 : Int64) (a2 : Int32) (h : am_H) {v : Int32} {h' : am_H} (hf : f_X7_contentIn a0 a2 h = some (v, h')) : h' = h := by
  unfold f_X7_contentIn at hf
  obtain ⟨rfl, rfl⟩ := am_i2 hf
  exact rfl
set_option maxRecDepth 100000 in
theorem ro_X7_withContent (a0 : Int64) (a2 : Int32) (a3 : Int32) (h : am_H) {v : Int64} {h' : am_H} (hf : f_X7_withContent a0 a2 a3 h = some (v, h')) : h' = h := by
  unfold f_X7_withContent at hf
  obtain ⟨rfl, rfl⟩ := am_i2 hf
  exact rfl
set_option maxRecDepth 100000 in
theorem ro_X7_load (a0 : Int32) (a1 : Int32) (h : am_H) {v : Int32} {h' : am_H} (hf : f_X7_load a0 a1 h = some (v, h')) : h' = h := by
  unfold f_X7_load at hf
  by_cases c1 : a0 = (Int32.ofInt 1)
  · rw [if_pos c1] at hf
    obtain ⟨rfl, rfl⟩ := am_i2 hf
    exact rfl
  · rw [if_neg c1] at hf
    obtain ⟨rfl, rfl⟩ := am_i2 hf
    exact rfl
set_option maxRecDepth 100000 in
theorem ro_X7_canTake (a0 : Int32) (a1 : Int32) (a2 : Int32) (h : am_H) {v : Int32} {h' : am_H} (hf : f_X7_canTake a0 a1 a2 h = some (v, h')) : h' = h := by
  unfold f_X7_canTake at hf
  by_cases c1 : a0 = (Int32.ofInt 1)
  · rw [if_pos c1] at hf
    obtain ⟨y2, j3, hf⟩ := am_bnd hf
    obtain ⟨b55, hf⟩ := am_bis hf
    obtain ⟨rfl, rfl⟩ := am_i2 hf
    exact rfl
  · rw [if_neg c1] at hf
    obtain ⟨y56, j57, hf⟩ := am_bnd hf
    obtain ⟨b110, hf⟩ := am_bis hf
    obtain ⟨rfl, rfl⟩ := am_i2 hf
    exact rfl
set_option maxRecDepth 100000 in
theorem ro_X7_taken (a0 : Int32) (a1 : Int32) (a2 : Int32) (h : am_H) {v : Int32} {h' : am_H} (hf : f_X7_taken a0 a1 a2 h = some (v, h')) : h' = h := by
  unfold f_X7_taken at hf
  obtain ⟨y1, j2, hf⟩ := am_bnd hf
  obtain ⟨rfl, rfl⟩ := am_i2 hf
  exact rfl
set_option maxRecDepth 100000 in
theorem ro_X7_put (a0 : Int32) (a1 : Int32) (a2 : Int32) (h : am_H) {v : Int32} {h' : am_H} (hf : f_X7_put a0 a1 a2 h = some (v, h')) : h' = h := by
  unfold f_X7_put at hf
  obtain ⟨y1, j2, hf⟩ := am_bnd hf
  obtain ⟨rfl, rfl⟩ := am_i2 hf
  exact rfl
set_option maxRecDepth 100000 in
theorem ro_X7_mayAt (a1 : Int64) (a3 : Int32) (h : am_H) {v : Int32} {h' : am_H} (hf : f_X7_mayAt a1 a3 h = some (v, h')) : h' = h := by
  unfold f_X7_mayAt at hf
  obtain ⟨r1, h2, e3, hf⟩ := am_b2_ok hf
  have hro := (ro_X7_placeIn a1 a3 h e3).symm
  subst hro
  obtain ⟨b4, hf⟩ := am_bis hf
  obtain ⟨rfl, rfl⟩ := am_i2 hf
  exact rfl
set_option maxRecDepth 100000 in
theorem ro_X8_with (a0 : Int64) (a2 : Int64) (h : am_H) {v : Int64} {h' : am_H} (hf : f_X8_with a0 a2 h = some (v, h')) : h' = h := by
  unfold f_X8_with at hf
  obtain ⟨rfl, rfl⟩ := am_i2 hf
  exact rfl
set_option maxRecDepth 100000 in
theorem ro_X8_isBook (a1 : Int32) (h : am_H) {v : Int32} {h' : am_H} (hf : f_X8_isBook a1 h = some (v, h')) : h' = h := by
  unfold f_X8_isBook at hf
  obtain ⟨y1, j2, hf⟩ := am_bnd hf
  obtain ⟨b55, hf⟩ := am_bis hf
  obtain ⟨rfl, rfl⟩ := am_i2 hf
  exact rfl
set_option maxRecDepth 100000 in
theorem ro_X8_isOffice (a0 : Int32) (h : am_H) {v : Int32} {h' : am_H} (hf : f_X8_isOffice a0 h = some (v, h')) : h' = h := by
  unfold f_X8_isOffice at hf
  obtain ⟨y1, j2, hf⟩ := am_bnd hf
  obtain ⟨b55, hf⟩ := am_bis hf
  obtain ⟨rfl, rfl⟩ := am_i2 hf
  exact rfl
set_option maxRecDepth 100000 in
theorem ro_X8_isPost (a0 : Int32) (a1 : Int32) (h : am_H) {v : Int32} {h' : am_H} (hf : f_X8_isPost a0 a1 h = some (v, h')) : h' = h := by
  unfold f_X8_isPost at hf
  obtain ⟨r1, h2, e3, hf⟩ := am_b2_ok hf
  have hro := (ro_X8_isOffice a0 h e3).symm
  subst hro
  obtain ⟨y4, h5, j6, hf⟩ := am_b2_ok hf
  have hro : h = h5 := by
    by_cases c7 : r1 = 0
    · rw [if_pos c7] at j6
      obtain ⟨rfl, rfl⟩ := am_i2 j6
      exact rfl
    · rw [if_neg c7] at j6
      obtain ⟨r8, h9, e10, j6⟩ := am_b2_ok j6
      have hro := (ro_X8_isOffice a1 h e10).symm
      subst hro
      by_cases c11 : r8 = 0
      · rw [if_pos c11] at j6
        obtain ⟨rfl, rfl⟩ := am_i2 j6
        exact rfl
      · rw [if_neg c11] at j6
        by_cases c12 : a0 = a1
        · rw [if_pos c12] at j6
          obtain ⟨rfl, rfl⟩ := am_i2 j6
          exact rfl
        · rw [if_neg c12] at j6
          obtain ⟨rfl, rfl⟩ := am_i2 j6
          exact rfl
  subst hro
  obtain ⟨b63, hf⟩ := am_bis hf
  obtain ⟨rfl, rfl⟩ := am_i2 hf
  exact rfl
set_option maxRecDepth 100000 in
theorem ro_X8_isItem (a0 : Int32) (h : am_H) {v : Int32} {h' : am_H} (hf : f_X8_isItem a0 h = some (v, h')) : h' = h := by
  unfold f_X8_isItem at hf
  obtain ⟨y1, j2, hf⟩ := am_bnd hf
  obtain ⟨b55, hf⟩ := am_bis hf
  obtain ⟨rfl, rfl⟩ := am_i2 hf
  exact rfl
set_option maxRecDepth 100000 in
theorem ro_X8_isSuch (a0 : Int32) (a1 : Int32) (h : am_H) {v : Int32} {h' : am_H} (hf : f_X8_isSuch a0 a1 h = some (v, h')) : h' = h := by
  unfold f_X8_isSuch at hf
  obtain ⟨y1, j2, hf⟩ := am_bnd hf
  obtain ⟨b57, hf⟩ := am_bis hf
  obtain ⟨rfl, rfl⟩ := am_i2 hf
  exact rfl
set_option maxRecDepth 100000 in
theorem ro_X8_postOf (a0 : Int32) (a1 : Int32) (h : am_H) {v : Int32} {h' : am_H} (hf : f_X8_postOf a0 a1 h = some (v, h')) : h' = h := by
  unfold f_X8_postOf at hf
  obtain ⟨y1, j2, hf⟩ := am_bnd hf
  obtain ⟨rfl, rfl⟩ := am_i2 hf
  exact rfl
set_option maxRecDepth 100000 in
theorem ro_X8_sortOf (a0 : Int32) (h : am_H) {v : Int32} {h' : am_H} (hf : f_X8_sortOf a0 h = some (v, h')) : h' = h := by
  unfold f_X8_sortOf at hf
  obtain ⟨rfl, rfl⟩ := am_i2 hf
  exact rfl
set_option maxRecDepth 100000 in
theorem ro_X8_codeOf (a0 : Int32) (h : am_H) {v : Int32} {h' : am_H} (hf : f_X8_codeOf a0 h = some (v, h')) : h' = h := by
  unfold f_X8_codeOf at hf
  obtain ⟨rfl, rfl⟩ := am_i2 hf
  exact rfl
set_option maxRecDepth 100000 in
theorem ro_X9_within (a0 : Int32) (a1 : Int32) (a2 : Int32) (h : am_H) {v : Int32} {h' : am_H} (hf : f_X9_within a0 a1 a2 h = some (v, h')) : h' = h := by
  unfold f_X9_within at hf
  obtain ⟨y1, j2, hf⟩ := am_bnd hf
  obtain ⟨b55, hf⟩ := am_bis hf
  obtain ⟨rfl, rfl⟩ := am_i2 hf
  exact rfl
set_option maxRecDepth 100000 in
theorem ro_X9_isOfficeSign (a0 : Int32) (h : am_H) {v : Int32} {h' : am_H} (hf : f_X9_isOfficeSign a0 h = some (v, h')) : h' = h := by
  unfold f_X9_isOfficeSign at hf
  obtain ⟨r1, h2, e3, hf⟩ := am_b2_ok hf
  have hro := (ro_X9_within a0 (Int32.ofInt 48) (Int32.ofInt 50) h e3).symm
  subst hro
  obtain ⟨b4, hf⟩ := am_bis hf
  obtain ⟨rfl, rfl⟩ := am_i2 hf
  exact rfl
set_option maxRecDepth 100000 in
theorem ro_X9_isLetterSign (a0 : Int32) (h : am_H) {v : Int32} {h' : am_H} (hf : f_X9_isLetterSign a0 h = some (v, h')) : h' = h := by
  unfold f_X9_isLetterSign at hf
  obtain ⟨r1, h2, e3, hf⟩ := am_b2_ok hf
  have hro := (ro_X9_within a0 (Int32.ofInt 97) (Int32.ofInt 100) h e3).symm
  subst hro
  obtain ⟨b4, hf⟩ := am_bis hf
  obtain ⟨rfl, rfl⟩ := am_i2 hf
  exact rfl
set_option maxRecDepth 100000 in
theorem ro_X9_signAt (a1 : Int32) (a2 : Int32) (h : am_H) {v : Int32} {h' : am_H} (hf : f_X9_signAt a1 a2 h = some (v, h')) : h' = h := by
  unfold f_X9_signAt at hf
  obtain ⟨y1, j2, hf⟩ := am_bnd hf
  obtain ⟨rfl, rfl⟩ := am_i2 hf
  exact rfl
set_option maxRecDepth 100000 in
theorem ro_X9_isOffice (a0 : Int32) (h : am_H) {v : Int32} {h' : am_H} (hf : f_X9_isOffice a0 h = some (v, h')) : h' = h := by
  unfold f_X9_isOffice at hf
  obtain ⟨r1, h2, e3, hf⟩ := am_b2_ok hf
  have hro := (ro_X9_within a0 (Int32.ofInt 0) (Int32.ofInt 2) h e3).symm
  subst hro
  obtain ⟨b4, hf⟩ := am_bis hf
  obtain ⟨rfl, rfl⟩ := am_i2 hf
  exact rfl
set_option maxRecDepth 100000 in
theorem ro_X9_isBook (a1 : Int32) (h : am_H) {v : Int32} {h' : am_H} (hf : f_X9_isBook a1 h = some (v, h')) : h' = h := by
  unfold f_X9_isBook at hf
  obtain ⟨r1, h2, e3, hf⟩ := am_b2_ok hf
  have hro := (ro_X9_within a1 (Int32.ofInt 0) ((am_I h 51 2) - (Int32.ofInt 1)) h e3).symm
  subst hro
  obtain ⟨b4, hf⟩ := am_bis hf
  obtain ⟨rfl, rfl⟩ := am_i2 hf
  exact rfl
set_option maxRecDepth 100000 in
theorem ro_X9_asNumber (a0 : Int32) (h : am_H) {v : Int32} {h' : am_H} (hf : f_X9_asNumber a0 h = some (v, h')) : h' = h := by
  unfold f_X9_asNumber at hf
  obtain ⟨y1, j2, hf⟩ := am_bnd hf
  obtain ⟨rfl, rfl⟩ := am_i2 hf
  exact rfl
set_option maxRecDepth 100000 in
theorem ro_X9_asAct (a0 : Int32) (h : am_H) {v : Int32} {h' : am_H} (hf : f_X9_asAct a0 h = some (v, h')) : h' = h := by
  unfold f_X9_asAct at hf
  obtain ⟨y1, j2, hf⟩ := am_bnd hf
  obtain ⟨rfl, rfl⟩ := am_i2 hf
  exact rfl
set_option maxRecDepth 100000 in
set_option maxHeartbeats 4000000 in
theorem u_X9_nextOf (n : Nat) : (∀ (a1 : Int32) (a2 : Int32) (x3i : Int32) (x4i : Int32) (h : am_H) (v : Int32) (h' : am_H), g_X9_nextOf n 0 a1 a2 x3i x4i h = some (v, h') → h' = h) := by
  induction n with
  | zero => exact fun a1 a2 x3i x4i h v h' hf => (by cases hf)
  | succ n ih =>
    skip
    · intro a1 a2 x3i x4i h v h' hf
      have hf : ((if (Int32.ofInt 16) ≤ x4i then some (x3i, h) else Option.bind ((if ((a2 >>> (x4i &&& 31)) &&& (Int32.ofInt 1)) = (Int32.ofInt 1) then bif am_vp (((Int32.ofInt 16) * a1) + x4i) 128 then (some (am_I h 54 (Int32.toNatClampNeg (((Int32.ofInt 16) * a1) + x4i)))) else none else some (Int32.ofInt 0))) fun y2 => (g_X9_nextOf n 0 a1 a2 (x3i ||| y2) (x4i + Int32.ofInt 1) h))) = some (v, h') := hf
      by_cases c1 : (Int32.ofInt 16) ≤ x4i
      · rw [if_pos c1] at hf
        obtain ⟨rfl, rfl⟩ := am_i2 hf
        exact rfl
      · rw [if_neg c1] at hf
        obtain ⟨y2, j3, hf⟩ := am_bnd hf
        exact ih a1 a2 (x3i ||| y2) (x4i + Int32.ofInt 1) h _ _ hf
set_option maxRecDepth 100000 in
theorem ro_X9_nextOf (n : Nat) (a1 : Int32) (a2 : Int32) (h : am_H) {v : Int32} {h' : am_H} (hf : f_X9_nextOf n a1 a2 h = some (v, h')) : h' = h := by
  unfold f_X9_nextOf at hf
  exact (u_X9_nextOf n) a1 a2 (Int32.ofInt 0) (Int32.ofInt 0) h _ _ hf
set_option maxRecDepth 100000 in
set_option maxHeartbeats 4000000 in
theorem u_X9_lead (n : Nat) : (∀ (a1 : Int32) (a2 : Int32) (a3 : Int32) (x4i : Int32) (x5i : Int32) (x6i : Int32) (h : am_H) (v : Int32) (h' : am_H), g_X9_lead n 0 a1 a2 a3 x4i x5i x6i h = some (v, h') → h' = h) := by
  induction n with
  | zero => exact fun a1 a2 a3 x4i x5i x6i h v h' hf => (by cases hf)
  | succ n ih =>
    skip
    · intro a1 a2 a3 x4i x5i x6i h v h' hf
      have hf : (bif am_vp a1 8 then ((if (am_I h 55 (Int32.toNatClampNeg a1)) < x6i then some (x5i, h) else am_b2 ((if ((x4i >>> (x6i &&& 31)) &&& (Int32.ofInt 1)) = (Int32.ofInt 1) then bif am_vp (((Int32.ofInt 16) * a1) + x6i) 128 then (am_b2 (f_X9_asNumber (am_I h 53 (Int32.toNatClampNeg (((Int32.ofInt 16) * a1) + x6i))) h) fun r8 h9 => ((if r8 = a3 then some (((Int32.ofInt 1) <<< (x6i &&& 31)), h9) else some ((Int32.ofInt 0), h9)))) else none else some ((Int32.ofInt 0), h))) fun y3 h4 => (g_X9_lead n 0 a1 a2 a3 x4i (x5i ||| y3) (x6i + Int32.ofInt 1) h4))) else none) = some (v, h') := hf
      obtain ⟨b1, hf⟩ := am_bis hf
      by_cases c2 : (am_I h 55 (Int32.toNatClampNeg a1)) < x6i
      · rw [if_pos c2] at hf
        obtain ⟨rfl, rfl⟩ := am_i2 hf
        exact rfl
      · rw [if_neg c2] at hf
        obtain ⟨y3, h4, j5, hf⟩ := am_b2_ok hf
        have hro : h = h4 := by
          by_cases c6 : ((x4i >>> (x6i &&& 31)) &&& (Int32.ofInt 1)) = (Int32.ofInt 1)
          · rw [if_pos c6] at j5
            obtain ⟨b7, j5⟩ := am_bis j5
            obtain ⟨r8, h9, e10, j5⟩ := am_b2_ok j5
            have hro := (ro_X9_asNumber (am_I h 53 (Int32.toNatClampNeg (((Int32.ofInt 16) * a1) + x6i))) h e10).symm
            subst hro
            by_cases c11 : r8 = a3
            · rw [if_pos c11] at j5
              obtain ⟨rfl, rfl⟩ := am_i2 j5
              exact rfl
            · rw [if_neg c11] at j5
              obtain ⟨rfl, rfl⟩ := am_i2 j5
              exact rfl
          · rw [if_neg c6] at j5
            obtain ⟨rfl, rfl⟩ := am_i2 j5
            exact rfl
        subst hro
        exact ih a1 a2 a3 x4i (x5i ||| y3) (x6i + Int32.ofInt 1) h _ _ hf
set_option maxRecDepth 100000 in
theorem ro_X9_lead (n : Nat) (a1 : Int32) (a2 : Int32) (a3 : Int32) (h : am_H) {v : Int32} {h' : am_H} (hf : f_X9_lead n a1 a2 a3 h = some (v, h')) : h' = h := by
  unfold f_X9_lead at hf
  obtain ⟨r1, h2, e3, hf⟩ := am_b2_ok hf
  have hro := (ro_X9_nextOf n a1 a2 h e3).symm
  subst hro
  exact (u_X9_lead n) a1 a2 a3 r1 (Int32.ofInt 0) (Int32.ofInt 1) h _ _ hf
set_option maxRecDepth 100000 in
set_option maxHeartbeats 4000000 in
theorem u_X9_areAlike (n : Nat) : (∀ (a1 : Int32) (a2 : Int32) (x3i : Int32) (x4i : Int32) (h : am_H) (v : Int32) (h' : am_H), g_X9_areAlike n 0 a1 a2 x3i x4i h = some (v, h') → h' = h) := by
  induction n with
  | zero => exact fun a1 a2 x3i x4i h v h' hf => (by cases hf)
  | succ n ih =>
    skip
    · intro a1 a2 x3i x4i h v h' hf
      have hf : ((if (Int32.ofInt 24) ≤ x4i then bif am_b01 x3i then (some (x3i, h)) else none else (if x3i = 0 then bif am_b01 x3i then (some (x3i, h)) else none else bif am_vp (((Int32.ofInt 24) * a1) + x4i) 98304 then (bif am_vp (((Int32.ofInt 24) * a2) + x4i) 98304 then (Option.bind ((if (am_I h 68 (Int32.toNatClampNeg (((Int32.ofInt 24) * a1) + x4i))) = (Int32.ofInt (-1)) then some (Int32.ofInt (-1)) else bif am_vp (am_I h 68 (Int32.toNatClampNeg (((Int32.ofInt 24) * a1) + x4i))) 4096 then (some (am_I h 70 (Int32.toNatClampNeg (am_I h 68 (Int32.toNatClampNeg (((Int32.ofInt 24) * a1) + x4i)))))) else none)) fun y7 => (Option.bind ((if (am_I h 68 (Int32.toNatClampNeg (((Int32.ofInt 24) * a2) + x4i))) = (Int32.ofInt (-1)) then some (Int32.ofInt (-1)) else bif am_vp (am_I h 68 (Int32.toNatClampNeg (((Int32.ofInt 24) * a2) + x4i))) 4096 then (some (am_I h 70 (Int32.toNatClampNeg (am_I h 68 (Int32.toNatClampNeg (((Int32.ofInt 24) * a2) + x4i)))))) else none)) fun y61 => (Option.bind ((if y7 = y61 then some (Int32.ofInt 1) else some (Int32.ofInt 0))) fun y115 => (g_X9_areAlike n 0 a1 a2 y115 (x4i + Int32.ofInt 1) h)))) else none) else none))) = some (v, h') := hf
      by_cases c1 : (Int32.ofInt 24) ≤ x4i
      · rw [if_pos c1] at hf
        obtain ⟨b2, hf⟩ := am_bis hf
        obtain ⟨rfl, rfl⟩ := am_i2 hf
        exact rfl
      · rw [if_neg c1] at hf
        by_cases c3 : x3i = 0
        · rw [if_pos c3] at hf
          obtain ⟨b4, hf⟩ := am_bis hf
          obtain ⟨rfl, rfl⟩ := am_i2 hf
          exact rfl
        · rw [if_neg c3] at hf
          obtain ⟨b5, hf⟩ := am_bis hf
          obtain ⟨b6, hf⟩ := am_bis hf
          obtain ⟨y7, j8, hf⟩ := am_bnd hf
          obtain ⟨y61, j62, hf⟩ := am_bnd hf
          obtain ⟨y115, j116, hf⟩ := am_bnd hf
          exact ih a1 a2 y115 (x4i + Int32.ofInt 1) h _ _ hf
set_option maxRecDepth 100000 in
theorem ro_X9_areAlike (n : Nat) (a1 : Int32) (a2 : Int32) (h : am_H) {v : Int32} {h' : am_H} (hf : f_X9_areAlike n a1 a2 h = some (v, h')) : h' = h := by
  unfold f_X9_areAlike at hf
  obtain ⟨b1, hf⟩ := am_bis hf
  obtain ⟨b2, hf⟩ := am_bis hf
  obtain ⟨y3, j4, hf⟩ := am_bnd hf
  exact (u_X9_areAlike n) a1 a2 y3 (Int32.ofInt 0) h _ _ hf
set_option maxRecDepth 100000 in
set_option maxHeartbeats 4000000 in
theorem u_X9_endsOf (n : Nat) : (∀ (a1 : Int32) (x2i : Int32) (x3i : Int32) (h : am_H) (v : Int32) (h' : am_H), g_X9_endsOf n 0 a1 x2i x3i h = some (v, h') → h' = h) := by
  induction n with
  | zero => exact fun a1 x2i x3i h v h' hf => (by cases hf)
  | succ n ih =>
    skip
    · intro a1 x2i x3i h v h' hf
      have hf : (bif am_vp a1 8 then ((if (am_I h 55 (Int32.toNatClampNeg a1)) < x3i then some (x2i, h) else bif am_vp (((Int32.ofInt 16) * a1) + x3i) 128 then (g_X9_endsOf n 0 a1 (x2i + ((am_I h 54 (Int32.toNatClampNeg (((Int32.ofInt 16) * a1) + x3i))) &&& (Int32.ofInt 1))) (x3i + Int32.ofInt 1) h) else none)) else none) = some (v, h') := hf
      obtain ⟨b1, hf⟩ := am_bis hf
      by_cases c2 : (am_I h 55 (Int32.toNatClampNeg a1)) < x3i
      · rw [if_pos c2] at hf
        obtain ⟨rfl, rfl⟩ := am_i2 hf
        exact rfl
      · rw [if_neg c2] at hf
        obtain ⟨b3, hf⟩ := am_bis hf
        exact ih a1 (x2i + ((am_I h 54 (Int32.toNatClampNeg (((Int32.ofInt 16) * a1) + x3i))) &&& (Int32.ofInt 1))) (x3i + Int32.ofInt 1) h _ _ hf
set_option maxRecDepth 100000 in
theorem ro_X9_endsOf (n : Nat) (a1 : Int32) (h : am_H) {v : Int32} {h' : am_H} (hf : f_X9_endsOf n a1 h = some (v, h')) : h' = h := by
  unfold f_X9_endsOf at hf
  exact (u_X9_endsOf n) a1 (Int32.ofInt 0) (Int32.ofInt 0) h _ _ hf
set_option maxRecDepth 100000 in
theorem ro_X9_act (a1 : Int32) (a2 : Int32) (h : am_H) {v : Int32} {h' : am_H} (hf : f_X9_act a1 a2 h = some (v, h')) : h' = h := by
  unfold f_X9_act at hf
  obtain ⟨r1, h2, e3, hf⟩ := am_b2_ok hf
  have hro := (ro_X9_isBook a1 h e3).symm
  subst hro
  obtain ⟨y4, h5, j6, hf⟩ := am_b2_ok hf
  have hro : h = h5 := by
    by_cases c7 : r1 = 0
    · rw [if_pos c7] at j6
      obtain ⟨rfl, rfl⟩ := am_i2 j6
      exact rfl
    · rw [if_neg c7] at j6
      obtain ⟨b8, j6⟩ := am_bis j6
      obtain ⟨r9, h10, e11, j6⟩ := am_b2_ok j6
      have hro := (ro_X9_within a2 (Int32.ofInt 1) (am_I h 55 (Int32.toNatClampNeg a1)) h e11).symm
      subst hro
      by_cases c12 : r9 = 0
      · rw [if_pos c12] at j6
        obtain ⟨rfl, rfl⟩ := am_i2 j6
        exact rfl
      · rw [if_neg c12] at j6
        obtain ⟨b13, j6⟩ := am_bis j6
        obtain ⟨rfl, rfl⟩ := am_i2 j6
        exact rfl
  subst hro
  obtain ⟨rfl, rfl⟩ := am_i2 hf
  exact rfl
set_option maxRecDepth 100000 in
theorem ro_X9_follow (a1 : Int32) (a2 : Int32) (h : am_H) {v : Int32} {h' : am_H} (hf : f_X9_follow a1 a2 h = some (v, h')) : h' = h := by
  unfold f_X9_follow at hf
  obtain ⟨r1, h2, e3, hf⟩ := am_b2_ok hf
  have hro := (ro_X9_isBook a1 h e3).symm
  subst hro
  obtain ⟨y4, h5, j6, hf⟩ := am_b2_ok hf
  have hro : h = h5 := by
    by_cases c7 : r1 = 0
    · rw [if_pos c7] at j6
      obtain ⟨rfl, rfl⟩ := am_i2 j6
      exact rfl
    · rw [if_neg c7] at j6
      obtain ⟨b8, j6⟩ := am_bis j6
      obtain ⟨r9, h10, e11, j6⟩ := am_b2_ok j6
      have hro := (ro_X9_within a2 (Int32.ofInt 0) (am_I h 55 (Int32.toNatClampNeg a1)) h e11).symm
      subst hro
      by_cases c12 : r9 = 0
      · rw [if_pos c12] at j6
        obtain ⟨rfl, rfl⟩ := am_i2 j6
        exact rfl
      · rw [if_neg c12] at j6
        obtain ⟨b13, j6⟩ := am_bis j6
        obtain ⟨rfl, rfl⟩ := am_i2 j6
        exact rfl
  subst hro
  obtain ⟨rfl, rfl⟩ := am_i2 hf
  exact rfl
set_option maxRecDepth 100000 in
theorem ro_X9_ends (n : Nat) (a1 : Int32) (a2 : Int32) (h : am_H) {v : Int32} {h' : am_H} (hf : f_X9_ends n a1 a2 h = some (v, h')) : h' = h := by
  unfold f_X9_ends at hf
  obtain ⟨y1, h2, j3, hf⟩ := am_b2_ok hf
  have hro : h = h2 := by
    by_cases c4 : a2 = 0
    · rw [if_pos c4] at j3
      obtain ⟨rfl, rfl⟩ := am_i2 j3
      exact rfl
    · rw [if_neg c4] at j3
      obtain ⟨r5, h6, e7, j3⟩ := am_b2_ok j3
      have hro := (ro_X9_nextOf n a1 a2 h e7).symm
      subst hro
      by_cases c8 : (r5 &&& (Int32.ofInt 1)) = (Int32.ofInt 1)
      · rw [if_pos c8] at j3
        obtain ⟨rfl, rfl⟩ := am_i2 j3
        exact rfl
      · rw [if_neg c8] at j3
        obtain ⟨rfl, rfl⟩ := am_i2 j3
        exact rfl
  subst hro
  obtain ⟨b59, hf⟩ := am_bis hf
  obtain ⟨rfl, rfl⟩ := am_i2 hf
  exact rfl
set_option maxRecDepth 100000 in
set_option maxHeartbeats 4000000 in
theorem u_X9_watch (n : Nat) : (∀ (a1 : Int32) (x2i : Int32) (x3i : Int32) (x4i : Int32) (x5i : Int32) (x6i : Int32) (h : am_H) (v : Int32) (h' : am_H), g_X9_watch n 0 a1 x2i x3i x4i x5i x6i h = some (v, h') → h' = h) ∧ (∀ (a1 : Int32) (x2i : Int32) (x3i : Int32) (x4i : Int32) (x5i : Int32) (x6i : Int32) (h : am_H) (v : Int32) (h' : am_H), g_X9_watch n 1 a1 x2i x3i x4i x5i x6i h = some (v, h') → h' = h) := by
  induction n with
  | zero => exact ⟨fun a1 x2i x3i x4i x5i x6i h v h' hf => (by cases hf), fun a1 x2i x3i x4i x5i x6i h v h' hf => (by cases hf)⟩
  | succ n ih =>
    refine ⟨?_, ?_⟩
    · intro a1 x2i x3i x4i x5i x6i h v h' hf
      have hf : (am_let ((if x2i = 0 then some ((Int32.ofInt (-103)), h) else g_X9_watch n 1 a1 x2i (Int32.ofInt 1) (Int32.ofInt 0) (Int32.ofInt 1) (Int32.ofInt 0) h)) fun b1 => ((if (am_I h 51 0) ≤ x3i then b1 else (if x2i = 0 then b1 else bif am_vp x3i 60 then (am_b2 (am_let (bif am_vp (x3i + (Int32.ofInt 1)) 60 then (am_b2 (f_X9_isOfficeSign (am_I h 52 (Int32.toNatClampNeg (x3i + (Int32.ofInt 1)))) h) fun r14 h15 => ((if r14 = 0 then some ((Int32.ofInt 0), h15) else bif am_vp (x3i + (Int32.ofInt 2)) 60 then (am_b2 (f_X9_isLetterSign (am_I h15 52 (Int32.toNatClampNeg (x3i + (Int32.ofInt 2)))) h15) fun r19 h20 => ((if r19 = 0 then some ((Int32.ofInt 0), h20) else some ((Int32.ofInt 1), h20)))) else none))) else none) fun b10 => ((if (am_I h 52 (Int32.toNatClampNeg x3i)) = (Int32.ofInt 33) then b10 else (if (am_I h 52 (Int32.toNatClampNeg x3i)) = (Int32.ofInt 63) then b10 else some ((Int32.ofInt 0), h))))) fun y7 h8 => (g_X9_watch n 0 a1 y7 (x3i + Int32.ofInt 3) 0 0 0 h8)) else none)))) = some (v, h') := hf
      obtain ⟨b1, k2, hf⟩ := am_let_ok hf
      refine am_cut (P := ((if x2i = 0 then some ((Int32.ofInt (-103)), h) else g_X9_watch n 1 a1 x2i (Int32.ofInt 1) (Int32.ofInt 0) (Int32.ofInt 1) (Int32.ofInt 0) h)) = some (v, h') → h' = h) (fun B3 => ?_) ?_
      · skip
        by_cases c4 : (am_I h 51 0) ≤ x3i
        · rw [if_pos c4] at hf
          exact B3 (k2.symm.trans hf)
        · rw [if_neg c4] at hf
          by_cases c5 : x2i = 0
          · rw [if_pos c5] at hf
            exact B3 (k2.symm.trans hf)
          · rw [if_neg c5] at hf
            obtain ⟨b6, hf⟩ := am_bis hf
            obtain ⟨y7, h8, j9, hf⟩ := am_b2_ok hf
            have hro : h = h8 := by
              obtain ⟨b10, k11, j9⟩ := am_let_ok j9
              refine am_cut (P := (bif am_vp (x3i + (Int32.ofInt 1)) 60 then (am_b2 (f_X9_isOfficeSign (am_I h 52 (Int32.toNatClampNeg (x3i + (Int32.ofInt 1)))) h) fun r14 h15 => ((if r14 = 0 then some ((Int32.ofInt 0), h15) else bif am_vp (x3i + (Int32.ofInt 2)) 60 then (am_b2 (f_X9_isLetterSign (am_I h15 52 (Int32.toNatClampNeg (x3i + (Int32.ofInt 2)))) h15) fun r19 h20 => ((if r19 = 0 then some ((Int32.ofInt 0), h20) else some ((Int32.ofInt 1), h20)))) else none))) else none) = some (y7, h8) → h = h8) (fun B12 => ?_) ?_
              · skip
                by_cases c13 : (am_I h 52 (Int32.toNatClampNeg x3i)) = (Int32.ofInt 33)
                · rw [if_pos c13] at j9
                  exact B12 (k11.symm.trans j9)
                · rw [if_neg c13] at j9
                  by_cases c14 : (am_I h 52 (Int32.toNatClampNeg x3i)) = (Int32.ofInt 63)
                  · rw [if_pos c14] at j9
                    exact B12 (k11.symm.trans j9)
                  · rw [if_neg c14] at j9
                    obtain ⟨rfl, rfl⟩ := am_i2 j9
                    exact rfl
              intro j9
              obtain ⟨b15, j9⟩ := am_bis j9
              obtain ⟨r16, h17, e18, j9⟩ := am_b2_ok j9
              have hro := (ro_X9_isOfficeSign (am_I h 52 (Int32.toNatClampNeg (x3i + (Int32.ofInt 1)))) h e18).symm
              subst hro
              by_cases c19 : r16 = 0
              · rw [if_pos c19] at j9
                obtain ⟨rfl, rfl⟩ := am_i2 j9
                exact rfl
              · rw [if_neg c19] at j9
                obtain ⟨b20, j9⟩ := am_bis j9
                obtain ⟨r21, h22, e23, j9⟩ := am_b2_ok j9
                have hro := (ro_X9_isLetterSign (am_I h 52 (Int32.toNatClampNeg (x3i + (Int32.ofInt 2)))) h e23).symm
                subst hro
                by_cases c24 : r21 = 0
                · rw [if_pos c24] at j9
                  obtain ⟨rfl, rfl⟩ := am_i2 j9
                  exact rfl
                · rw [if_neg c24] at j9
                  obtain ⟨rfl, rfl⟩ := am_i2 j9
                  exact rfl
            subst hro
            exact ih.1 a1 y7 (x3i + Int32.ofInt 3) 0 0 0 h _ _ hf
      intro hf
      by_cases c75 : x2i = 0
      · rw [if_pos c75] at hf
        obtain ⟨rfl, rfl⟩ := am_i2 hf
        exact rfl
      · rw [if_neg c75] at hf
        exact ih.2 a1 x2i (Int32.ofInt 1) (Int32.ofInt 0) (Int32.ofInt 1) (Int32.ofInt 0) h _ _ hf
    · intro a1 x2i x3i x4i x5i x6i h v h' hf
      have hf : (am_let (am_b2 ((if x5i = 0 then some (x4i, h) else am_b2 (f_X9_ends n a1 x3i h) fun r8 h9 => ((if r8 = 0 then some (x4i, h9) else some (((Int32.ofInt 100) + x4i), h9))))) fun y4 h5 => (some (y4, h5))) fun b1 => ((if (am_I h 51 0) ≤ x6i then b1 else (if x5i = 0 then b1 else bif am_vp x6i 60 then (Option.bind ((if (am_I h 52 (Int32.toNatClampNeg x6i)) = (Int32.ofInt 63) then some (Int32.ofInt 100) else some (Int32.ofInt 0))) fun y7 => (bif am_vp (x6i + (Int32.ofInt 1)) 60 then (bif am_vp (x6i + (Int32.ofInt 2)) 60 then (am_b2 (f_X9_asNumber (((y7 + ((Int32.ofInt 10) * ((am_I h 52 (Int32.toNatClampNeg (x6i + (Int32.ofInt 1)))) - (Int32.ofInt 48)))) + (am_I h 52 (Int32.toNatClampNeg (x6i + (Int32.ofInt 2))))) - (Int32.ofInt 97)) h) fun r62 h63 => (am_b2 (f_X9_lead n a1 x3i r62 h63) fun r65 h66 => (Option.bind ((if r65 = 0 then some (Int32.ofInt 0) else some (Int32.ofInt 1))) fun y68 => (Option.bind ((if y68 = 0 then some x3i else some r65)) fun y121 => (Option.bind ((if y68 = 0 then some (Int32.ofInt 0) else some (Int32.ofInt 1))) fun y174 => (g_X9_watch n 1 a1 x2i y121 (x4i + y174) y68 (x6i + Int32.ofInt 3) h66)))))) else none) else none)) else none)))) = some (v, h') := hf
      obtain ⟨b1, k2, hf⟩ := am_let_ok hf
      refine am_cut (P := (am_b2 ((if x5i = 0 then some (x4i, h) else am_b2 (f_X9_ends n a1 x3i h) fun r8 h9 => ((if r8 = 0 then some (x4i, h9) else some (((Int32.ofInt 100) + x4i), h9))))) fun y4 h5 => (some (y4, h5))) = some (v, h') → h' = h) (fun B3 => ?_) ?_
      · skip
        by_cases c4 : (am_I h 51 0) ≤ x6i
        · rw [if_pos c4] at hf
          exact B3 (k2.symm.trans hf)
        · rw [if_neg c4] at hf
          by_cases c5 : x5i = 0
          · rw [if_pos c5] at hf
            exact B3 (k2.symm.trans hf)
          · rw [if_neg c5] at hf
            obtain ⟨b6, hf⟩ := am_bis hf
            obtain ⟨y7, j8, hf⟩ := am_bnd hf
            obtain ⟨b60, hf⟩ := am_bis hf
            obtain ⟨b61, hf⟩ := am_bis hf
            obtain ⟨r62, h63, e64, hf⟩ := am_b2_ok hf
            have hro := (ro_X9_asNumber (((y7 + ((Int32.ofInt 10) * ((am_I h 52 (Int32.toNatClampNeg (x6i + (Int32.ofInt 1)))) - (Int32.ofInt 48)))) + (am_I h 52 (Int32.toNatClampNeg (x6i + (Int32.ofInt 2))))) - (Int32.ofInt 97)) h e64).symm
            subst hro
            obtain ⟨r65, h66, e67, hf⟩ := am_b2_ok hf
            have hro := (ro_X9_lead n a1 x3i r62 h e67).symm
            subst hro
            obtain ⟨y68, j69, hf⟩ := am_bnd hf
            obtain ⟨y121, j122, hf⟩ := am_bnd hf
            obtain ⟨y174, j175, hf⟩ := am_bnd hf
            exact ih.2 a1 x2i y121 (x4i + y174) y68 (x6i + Int32.ofInt 3) h _ _ hf
      intro hf
      obtain ⟨y227, h228, j229, hf⟩ := am_b2_ok hf
      have hro : h = h228 := by
        by_cases c230 : x5i = 0
        · rw [if_pos c230] at j229
          obtain ⟨rfl, rfl⟩ := am_i2 j229
          exact rfl
        · rw [if_neg c230] at j229
          obtain ⟨r231, h232, e233, j229⟩ := am_b2_ok j229
          have hro := (ro_X9_ends n a1 x3i h e233).symm
          subst hro
          by_cases c234 : r231 = 0
          · rw [if_pos c234] at j229
            obtain ⟨rfl, rfl⟩ := am_i2 j229
            exact rfl
          · rw [if_neg c234] at j229
            obtain ⟨rfl, rfl⟩ := am_i2 j229
            exact rfl
      subst hro
      obtain ⟨rfl, rfl⟩ := am_i2 hf
      exact rfl
set_option maxRecDepth 100000 in
theorem ro_X9_watch (n : Nat) (a1 : Int32) (h : am_H) {v : Int32} {h' : am_H} (hf : f_X9_watch n a1 h = some (v, h')) : h' = h := by
  unfold f_X9_watch at hf
  obtain ⟨r1, h2, e3, hf⟩ := am_b2_ok hf
  have hro := (ro_X9_isBook a1 h e3).symm
  subst hro
  by_cases c4 : r1 = 0
  · rw [if_pos c4] at hf
    obtain ⟨rfl, rfl⟩ := am_i2 hf
    exact rfl
  · rw [if_neg c4] at hf
    obtain ⟨y5, j6, hf⟩ := am_bnd hf
    exact (u_X9_watch n).1 a1 y5 (Int32.ofInt 0) 0 0 0 h _ _ hf
set_option maxRecDepth 100000 in
theorem ro_X9_isPost (a0 : Int32) (a1 : Int32) (h : am_H) {v : Int32} {h' : am_H} (hf : f_X9_isPost a0 a1 h = some (v, h')) : h' = h := by
  unfold f_X9_isPost at hf
  obtain ⟨r1, h2, e3, hf⟩ := am_b2_ok hf
  have hro := (ro_X9_isOffice a0 h e3).symm
  subst hro
  obtain ⟨y4, h5, j6, hf⟩ := am_b2_ok hf
  have hro : h = h5 := by
    by_cases c7 : r1 = 0
    · rw [if_pos c7] at j6
      obtain ⟨rfl, rfl⟩ := am_i2 j6
      exact rfl
    · rw [if_neg c7] at j6
      obtain ⟨r8, h9, e10, j6⟩ := am_b2_ok j6
      have hro := (ro_X9_isOffice a1 h e10).symm
      subst hro
      by_cases c11 : r8 = 0
      · rw [if_pos c11] at j6
        obtain ⟨rfl, rfl⟩ := am_i2 j6
        exact rfl
      · rw [if_neg c11] at j6
        by_cases c12 : a0 = a1
        · rw [if_pos c12] at j6
          obtain ⟨rfl, rfl⟩ := am_i2 j6
          exact rfl
        · rw [if_neg c12] at j6
          obtain ⟨rfl, rfl⟩ := am_i2 j6
          exact rfl
  subst hro
  obtain ⟨b63, hf⟩ := am_bis hf
  obtain ⟨rfl, rfl⟩ := am_i2 hf
  exact rfl
set_option maxRecDepth 100000 in
theorem ro_X9_as (a1 : Int32) (a2 : Int32) (a3 : Int32) (h : am_H) {v : Int32} {h' : am_H} (hf : f_X9_as a1 a2 a3 h = some (v, h')) : h' = h := by
  unfold f_X9_as at hf
  obtain ⟨r1, h2, e3, hf⟩ := am_b2_ok hf
  have hro := (ro_X9_isPost a1 a2 h e3).symm
  subst hro
  by_cases c4 : r1 = 0
  · rw [if_pos c4] at hf
    obtain ⟨rfl, rfl⟩ := am_i2 hf
    exact rfl
  · rw [if_neg c4] at hf
    obtain ⟨r5, h6, e7, hf⟩ := am_b2_ok hf
    have hro := (ro_X9_within a3 (Int32.ofInt 0) (Int32.ofInt 4) h e7).symm
    subst hro
    by_cases c8 : r5 = 0
    · rw [if_pos c8] at hf
      obtain ⟨rfl, rfl⟩ := am_i2 hf
      exact rfl
    · rw [if_neg c8] at hf
      obtain ⟨b9, hf⟩ := am_bis hf
      obtain ⟨y10, j11, hf⟩ := am_bnd hf
      obtain ⟨rfl, rfl⟩ := am_i2 hf
      exact rfl
set_option maxRecDepth 100000 in
theorem ro_X9_sizeOf (a0 : Int32) (h : am_H) {v : Int32} {h' : am_H} (hf : f_X9_sizeOf a0 h = some (v, h')) : h' = h := by
  unfold f_X9_sizeOf at hf
  obtain ⟨y1, j2, hf⟩ := am_bnd hf
  obtain ⟨rfl, rfl⟩ := am_i2 hf
  exact rfl
set_option maxRecDepth 100000 in
theorem ro_X9_letterAt (a0 : Int32) (a1 : Int32) (h : am_H) {v : Int32} {h' : am_H} (hf : f_X9_letterAt a0 a1 h = some (v, h')) : h' = h := by
  unfold f_X9_letterAt at hf
  obtain ⟨y1, j2, hf⟩ := am_bnd hf
  obtain ⟨rfl, rfl⟩ := am_i2 hf
  exact rfl
set_option maxRecDepth 100000 in
set_option maxHeartbeats 4000000 in
theorem u_X9_without (n : Nat) : (∀ (a0 : Int32) (a1 : Int32) (x2i : Int32) (x3i : Int32) (x4i : Int32) (h : am_H) (v : Int32) (h' : am_H), g_X9_without n 0 a0 a1 x2i x3i x4i h = some (v, h') → h' = h) := by
  induction n with
  | zero => exact fun a0 a1 x2i x3i x4i h v h' hf => (by cases hf)
  | succ n ih =>
    skip
    · intro a0 a1 x2i x3i x4i h v h' hf
      have hf : (am_b2 (f_X9_sizeOf a0 h) fun r1 h2 => ((if r1 ≤ x4i then some (x2i, h2) else am_b2 ((if x4i = a1 then some ((Int32.ofInt 0), h2) else am_b2 (f_X9_letterAt a0 x4i h2) fun r9 h10 => (some ((x3i * r9), h10)))) fun y5 h6 => (Option.bind ((if x4i = a1 then some (Int32.ofInt 1) else some (Int32.ofInt 5))) fun y62 => (g_X9_without n 0 a0 a1 (x2i + y5) (x3i * y62) (x4i + Int32.ofInt 1) h6))))) = some (v, h') := hf
      obtain ⟨r1, h2, e3, hf⟩ := am_b2_ok hf
      have hro := (ro_X9_sizeOf a0 h e3).symm
      subst hro
      by_cases c4 : r1 ≤ x4i
      · rw [if_pos c4] at hf
        obtain ⟨rfl, rfl⟩ := am_i2 hf
        exact rfl
      · rw [if_neg c4] at hf
        obtain ⟨y5, h6, j7, hf⟩ := am_b2_ok hf
        have hro : h = h6 := by
          by_cases c8 : x4i = a1
          · rw [if_pos c8] at j7
            obtain ⟨rfl, rfl⟩ := am_i2 j7
            exact rfl
          · rw [if_neg c8] at j7
            obtain ⟨r9, h10, e11, j7⟩ := am_b2_ok j7
            have hro := (ro_X9_letterAt a0 x4i h e11).symm
            subst hro
            obtain ⟨rfl, rfl⟩ := am_i2 j7
            exact rfl
        subst hro
        obtain ⟨y62, j63, hf⟩ := am_bnd hf
        exact ih a0 a1 (x2i + y5) (x3i * y62) (x4i + Int32.ofInt 1) h _ _ hf
set_option maxRecDepth 100000 in
theorem ro_X9_without (n : Nat) (a0 : Int32) (a1 : Int32) (h : am_H) {v : Int32} {h' : am_H} (hf : f_X9_without n a0 a1 h = some (v, h')) : h' = h := by
  unfold f_X9_without at hf
  exact (u_X9_without n) a0 a1 (Int32.ofInt 0) (Int32.ofInt 1) (Int32.ofInt 0) h _ _ hf
set_option maxRecDepth 100000 in
theorem ro_X9_behind (a0 : Int32) (a1 : Int32) (h : am_H) {v : Int32} {h' : am_H} (hf : f_X9_behind a0 a1 h = some (v, h')) : h' = h := by
  unfold f_X9_behind at hf
  obtain ⟨r1, h2, e3, hf⟩ := am_b2_ok hf
  have hro := (ro_X9_sizeOf a0 h e3).symm
  subst hro
  obtain ⟨y4, h5, j6, hf⟩ := am_b2_ok hf
  have hro : h = h5 := by
    by_cases c7 : r1 = 0
    · rw [if_pos c7] at j6
      obtain ⟨rfl, rfl⟩ := am_i2 j6
      exact rfl
    · rw [if_neg c7] at j6
      obtain ⟨r8, h9, e10, j6⟩ := am_b2_ok j6
      have hro := (ro_X9_sizeOf a0 h e10).symm
      subst hro
      by_cases c11 : r8 = (Int32.ofInt 1)
      · rw [if_pos c11] at j6
        obtain ⟨rfl, rfl⟩ := am_i2 j6
        exact rfl
      · rw [if_neg c11] at j6
        obtain ⟨rfl, rfl⟩ := am_i2 j6
        exact rfl
  subst hro
  obtain ⟨rfl, rfl⟩ := am_i2 hf
  exact rfl
set_option maxRecDepth 100000 in
set_option maxHeartbeats 4000000 in
theorem u_X9_among (n : Nat) : (∀ (a0 : Int32) (a1 : Int32) (x2i : Int32) (x3i : Int32) (x4i : Int32) (x5i : Int32) (h : am_H) (v : Int32) (h' : am_H), g_X9_among n 0 a0 a1 x2i x3i x4i x5i h = some (v, h') → h' = h) := by
  induction n with
  | zero => exact fun a0 a1 x2i x3i x4i x5i h v h' hf => (by cases hf)
  | succ n ih =>
    skip
    · intro a0 a1 x2i x3i x4i x5i h v h' hf
      have hf : (am_b2 (f_X9_sizeOf a0 h) fun r1 h2 => ((if r1 ≤ x5i then Option.bind ((if x4i = 0 then some (x2i + (x3i * (a1 + (Int32.ofInt 1)))) else some x2i)) fun y5 => (some (y5, h2)) else am_b4 ((if x4i = 0 then am_b2 (f_X9_letterAt a0 x5i h2) fun r64 h65 => ((if r64 ≤ (a1 + (Int32.ofInt 1)) then some (x2i, x3i, x4i, h65) else some ((x2i + (x3i * (a1 + (Int32.ofInt 1)))), (x3i * (Int32.ofInt 5)), (Int32.ofInt 1), h65))) else some (x2i, x3i, x4i, h2))) fun y58 y59 y60 h61 => (am_b2 (f_X9_letterAt a0 x5i h61) fun r118 h119 => (g_X9_among n 0 a0 a1 (y58 + (y59 * r118)) (y59 * (Int32.ofInt 5)) y60 (x5i + Int32.ofInt 1) h119))))) = some (v, h') := hf
      obtain ⟨r1, h2, e3, hf⟩ := am_b2_ok hf
      have hro := (ro_X9_sizeOf a0 h e3).symm
      subst hro
      by_cases c4 : r1 ≤ x5i
      · rw [if_pos c4] at hf
        obtain ⟨y5, j6, hf⟩ := am_bnd hf
        obtain ⟨rfl, rfl⟩ := am_i2 hf
        exact rfl
      · rw [if_neg c4] at hf
        obtain ⟨y58, y59, y60, h61, j62, hf⟩ := am_b4_ok hf
        have hro : h = h61 := by
          by_cases c63 : x4i = 0
          · rw [if_pos c63] at j62
            obtain ⟨r64, h65, e66, j62⟩ := am_b2_ok j62
            have hro := (ro_X9_letterAt a0 x5i h e66).symm
            subst hro
            by_cases c67 : r64 ≤ (a1 + (Int32.ofInt 1))
            · rw [if_pos c67] at j62
              obtain ⟨rfl, rfl, rfl, rfl⟩ := am_i4 j62
              exact rfl
            · rw [if_neg c67] at j62
              obtain ⟨rfl, rfl, rfl, rfl⟩ := am_i4 j62
              exact rfl
          · rw [if_neg c63] at j62
            obtain ⟨rfl, rfl, rfl, rfl⟩ := am_i4 j62
            exact rfl
        subst hro
        obtain ⟨r118, h119, e120, hf⟩ := am_b2_ok hf
        have hro := (ro_X9_letterAt a0 x5i h e120).symm
        subst hro
        exact ih a0 a1 (y58 + (y59 * r118)) (y59 * (Int32.ofInt 5)) y60 (x5i + Int32.ofInt 1) h _ _ hf
set_option maxRecDepth 100000 in
theorem ro_X9_among (n : Nat) (a0 : Int32) (a1 : Int32) (h : am_H) {v : Int32} {h' : am_H} (hf : f_X9_among n a0 a1 h = some (v, h')) : h' = h := by
  unfold f_X9_among at hf
  exact (u_X9_among n) a0 a1 (Int32.ofInt 0) (Int32.ofInt 1) (Int32.ofInt 0) (Int32.ofInt 0) h _ _ hf
set_option maxRecDepth 100000 in
set_option maxHeartbeats 4000000 in
theorem u_X9_placeOf (n : Nat) : (∀ (a1 : Int32) (a2 : Int32) (x3i : Int32) (x4i : Int32) (h : am_H) (v : Int32) (h' : am_H), g_X9_placeOf n 0 a1 a2 x3i x4i h = some (v, h') → h' = h) := by
  induction n with
  | zero => exact fun a1 a2 x3i x4i h v h' hf => (by cases hf)
  | succ n ih =>
    skip
    · intro a1 a2 x3i x4i h v h' hf
      have hf : (am_b2 (f_X9_sizeOf x3i h) fun r1 h2 => ((if r1 ≤ x4i then some ((Int32.ofInt (-1)), h2) else am_b2 (f_X9_letterAt x3i x4i h2) fun r5 h6 => ((if r5 = (a2 + (Int32.ofInt 1)) then (if x4i = 0 then some (x4i, h6) else bif am_vp a1 9 then ((if (am_I h6 59 (Int32.toNatClampNeg a1)) = (Int32.ofInt 1) then some (x4i, h6) else g_X9_placeOf n 0 a1 a2 x3i (x4i + Int32.ofInt 1) h6)) else none) else g_X9_placeOf n 0 a1 a2 x3i (x4i + Int32.ofInt 1) h6))))) = some (v, h') := hf
      obtain ⟨r1, h2, e3, hf⟩ := am_b2_ok hf
      have hro := (ro_X9_sizeOf x3i h e3).symm
      subst hro
      by_cases c4 : r1 ≤ x4i
      · rw [if_pos c4] at hf
        obtain ⟨rfl, rfl⟩ := am_i2 hf
        exact rfl
      · rw [if_neg c4] at hf
        obtain ⟨r5, h6, e7, hf⟩ := am_b2_ok hf
        have hro := (ro_X9_letterAt x3i x4i h e7).symm
        subst hro
        by_cases c8 : r5 = (a2 + (Int32.ofInt 1))
        · rw [if_pos c8] at hf
          by_cases c9 : x4i = 0
          · rw [if_pos c9] at hf
            obtain ⟨rfl, rfl⟩ := am_i2 hf
            exact rfl
          · rw [if_neg c9] at hf
            obtain ⟨b10, hf⟩ := am_bis hf
            by_cases c11 : (am_I h 59 (Int32.toNatClampNeg a1)) = (Int32.ofInt 1)
            · rw [if_pos c11] at hf
              obtain ⟨rfl, rfl⟩ := am_i2 hf
              exact rfl
            · rw [if_neg c11] at hf
              exact ih a1 a2 x3i (x4i + Int32.ofInt 1) h _ _ hf
        · rw [if_neg c8] at hf
          exact ih a1 a2 x3i (x4i + Int32.ofInt 1) h _ _ hf
set_option maxRecDepth 100000 in
theorem ro_X9_placeOf (n : Nat) (a1 : Int32) (a2 : Int32) (h : am_H) {v : Int32} {h' : am_H} (hf : f_X9_placeOf n a1 a2 h = some (v, h')) : h' = h := by
  unfold f_X9_placeOf at hf
  obtain ⟨b1, hf⟩ := am_bis hf
  exact (u_X9_placeOf n) a1 a2 (am_I h 78 (Int32.toNatClampNeg a1)) (Int32.ofInt 0) h _ _ hf
set_option maxRecDepth 100000 in
theorem ro_X9_actOfSeat (a1 : Int32) (a2 : Int32) (h : am_H) {v : Int32} {h' : am_H} (hf : f_X9_actOfSeat a1 a2 h = some (v, h')) : h' = h := by
  unfold f_X9_actOfSeat at hf
  obtain ⟨b1, hf⟩ := am_bis hf
  obtain ⟨b2, hf⟩ := am_bis hf
  obtain ⟨y3, j4, hf⟩ := am_bnd hf
  obtain ⟨rfl, rfl⟩ := am_i2 hf
  exact rfl
set_option maxRecDepth 100000 in
theorem ro_X9_followNow (a1 : Int32) (h : am_H) {v : Int32} {h' : am_H} (hf : f_X9_followNow a1 h = some (v, h')) : h' = h := by
  unfold f_X9_followNow at hf
  obtain ⟨b1, hf⟩ := am_bis hf
  obtain ⟨y2, j3, hf⟩ := am_bnd hf
  obtain ⟨rfl, rfl⟩ := am_i2 hf
  exact rfl
set_option maxRecDepth 100000 in
theorem ro_X9_at (a1 : Int32) (h : am_H) {v : Int32} {h' : am_H} (hf : f_X9_at a1 h = some (v, h')) : h' = h := by
  unfold f_X9_at at hf
  obtain ⟨r1, h2, e3, hf⟩ := am_b2_ok hf
  have hro := (ro_X9_isOffice a1 h e3).symm
  subst hro
  obtain ⟨y4, j5, hf⟩ := am_bnd hf
  obtain ⟨rfl, rfl⟩ := am_i2 hf
  exact rfl
set_option maxRecDepth 100000 in
theorem ro_X9_lies (a1 : Int32) (a2 : Int32) (a3 : Int32) (h : am_H) {v : Int32} {h' : am_H} (hf : f_X9_lies a1 a2 a3 h = some (v, h')) : h' = h := by
  unfold f_X9_lies at hf
  obtain ⟨r1, h2, e3, hf⟩ := am_b2_ok hf
  have hro := (ro_X9_isPost a1 a2 h e3).symm
  subst hro
  by_cases c4 : r1 = 0
  · rw [if_pos c4] at hf
    obtain ⟨rfl, rfl⟩ := am_i2 hf
    exact rfl
  · rw [if_neg c4] at hf
    obtain ⟨b5, hf⟩ := am_bis hf
    obtain ⟨r6, h7, e8, hf⟩ := am_b2_ok hf
    have hro := (ro_X9_sizeOf (am_I h 78 (Int32.toNatClampNeg (((Int32.ofInt 3) * a1) + a2))) h e8).symm
    subst hro
    obtain ⟨r9, h10, e11, hf⟩ := am_b2_ok hf
    have hro := (ro_X9_within a3 (Int32.ofInt 0) (r6 - (Int32.ofInt 1)) h e11).symm
    subst hro
    obtain ⟨y12, h13, j14, hf⟩ := am_b2_ok hf
    have hro : h = h13 := by
      by_cases c15 : r9 = 0
      · rw [if_pos c15] at j14
        obtain ⟨rfl, rfl⟩ := am_i2 j14
        exact rfl
      · rw [if_neg c15] at j14
        obtain ⟨r16, h17, e18, j14⟩ := am_b2_ok j14
        have hro := (ro_X9_letterAt (am_I h 78 (Int32.toNatClampNeg (((Int32.ofInt 3) * a1) + a2))) a3 h e18).symm
        subst hro
        obtain ⟨rfl, rfl⟩ := am_i2 j14
        exact rfl
    subst hro
    obtain ⟨rfl, rfl⟩ := am_i2 hf
    exact rfl
set_option maxRecDepth 100000 in
set_option maxHeartbeats 4000000 in
theorem u_X9_allAtEnds (n : Nat) : (∀ (x1i : Int32) (x2i : Int32) (h : am_H) (v : Int32) (h' : am_H), g_X9_allAtEnds n 0 x1i x2i h = some (v, h') → h' = h) := by
  induction n with
  | zero => exact fun x1i x2i h v h' hf => (by cases hf)
  | succ n ih =>
    skip
    · intro x1i x2i h v h' hf
      have hf : ((if (Int32.ofInt 3) ≤ x2i then bif am_b01 x1i then (some (x1i, h)) else none else am_b2 ((if x1i = 0 then some ((Int32.ofInt 0), h) else am_b2 (f_X9_followNow x2i h) fun r7 h8 => ((if (r7 &&& (Int32.ofInt 1)) = (Int32.ofInt 1) then some ((Int32.ofInt 1), h8) else some ((Int32.ofInt 0), h8))))) fun y3 h4 => (g_X9_allAtEnds n 0 y3 (x2i + Int32.ofInt 1) h4))) = some (v, h') := hf
      by_cases c1 : (Int32.ofInt 3) ≤ x2i
      · rw [if_pos c1] at hf
        obtain ⟨b2, hf⟩ := am_bis hf
        obtain ⟨rfl, rfl⟩ := am_i2 hf
        exact rfl
      · rw [if_neg c1] at hf
        obtain ⟨y3, h4, j5, hf⟩ := am_b2_ok hf
        have hro : h = h4 := by
          by_cases c6 : x1i = 0
          · rw [if_pos c6] at j5
            obtain ⟨rfl, rfl⟩ := am_i2 j5
            exact rfl
          · rw [if_neg c6] at j5
            obtain ⟨r7, h8, e9, j5⟩ := am_b2_ok j5
            have hro := (ro_X9_followNow x2i h e9).symm
            subst hro
            by_cases c10 : (r7 &&& (Int32.ofInt 1)) = (Int32.ofInt 1)
            · rw [if_pos c10] at j5
              obtain ⟨rfl, rfl⟩ := am_i2 j5
              exact rfl
            · rw [if_neg c10] at j5
              obtain ⟨rfl, rfl⟩ := am_i2 j5
              exact rfl
        subst hro
        exact ih y3 (x2i + Int32.ofInt 1) h _ _ hf
set_option maxRecDepth 100000 in
theorem ro_X9_allAtEnds (n : Nat) (h : am_H) {v : Int32} {h' : am_H} (hf : f_X9_allAtEnds n h = some (v, h')) : h' = h := by
  unfold f_X9_allAtEnds at hf
  exact (u_X9_allAtEnds n) (Int32.ofInt 1) (Int32.ofInt 0) h _ _ hf
set_option maxRecDepth 100000 in
set_option maxHeartbeats 4000000 in
theorem u_X9_postsEmpty (n : Nat) : (∀ (x1i : Int32) (x2i : Int32) (h : am_H) (v : Int32) (h' : am_H), g_X9_postsEmpty n 0 x1i x2i h = some (v, h') → h' = h) := by
  induction n with
  | zero => exact fun x1i x2i h v h' hf => (by cases hf)
  | succ n ih =>
    skip
    · intro x1i x2i h v h' hf
      have hf : ((if (Int32.ofInt 9) ≤ x2i then bif am_b01 x1i then (some (x1i, h)) else none else Option.bind ((if x1i = 0 then some (Int32.ofInt 0) else bif am_vp x2i 9 then ((if (am_I h 78 (Int32.toNatClampNeg x2i)) = 0 then some (Int32.ofInt 1) else some (Int32.ofInt 0))) else none)) fun y3 => (g_X9_postsEmpty n 0 y3 (x2i + Int32.ofInt 1) h))) = some (v, h') := hf
      by_cases c1 : (Int32.ofInt 9) ≤ x2i
      · rw [if_pos c1] at hf
        obtain ⟨b2, hf⟩ := am_bis hf
        obtain ⟨rfl, rfl⟩ := am_i2 hf
        exact rfl
      · rw [if_neg c1] at hf
        obtain ⟨y3, j4, hf⟩ := am_bnd hf
        exact ih y3 (x2i + Int32.ofInt 1) h _ _ hf
set_option maxRecDepth 100000 in
theorem ro_X9_postsEmpty (n : Nat) (h : am_H) {v : Int32} {h' : am_H} (hf : f_X9_postsEmpty n h = some (v, h')) : h' = h := by
  unfold f_X9_postsEmpty at hf
  exact (u_X9_postsEmpty n) (Int32.ofInt 1) (Int32.ofInt 0) h _ _ hf
set_option maxRecDepth 100000 in
set_option maxHeartbeats 4000000 in
theorem u_X9_waitsFor (n : Nat) : (∀ (a1 : Int32) (a2 : Int32) (x3i : Int32) (x4i : Int32) (x5i : Int32) (h : am_H) (v : Int32) (h' : am_H), g_X9_waitsFor n 0 a1 a2 x3i x4i x5i h = some (v, h') → h' = h) := by
  induction n with
  | zero => exact fun a1 a2 x3i x4i x5i h v h' hf => (by cases hf)
  | succ n ih =>
    skip
    · intro a1 a2 x3i x4i x5i h v h' hf
      have hf : ((if (Int32.ofInt 16) ≤ x5i then some (x4i, h) else am_b2 ((if ((x3i >>> (x5i &&& 31)) &&& (Int32.ofInt 1)) = (Int32.ofInt 1) then am_b2 (f_X9_actOfSeat a1 x5i h) fun r6 h7 => (Option.bind ((if r6 < (Int32.ofInt 100) then some (Int32.ofInt 0) else (if ((r6 - r6 / (Int32.ofInt 100) * (Int32.ofInt 100)) / (Int32.ofInt 10)) = a2 then some ((Int32.ofInt 1) <<< ((r6 - r6 / (Int32.ofInt 10) * (Int32.ofInt 10)) &&& 31)) else some (Int32.ofInt 0)))) fun y9 => (some ((x4i ||| y9), h7))) else some (x4i, h))) fun y2 h3 => (g_X9_waitsFor n 0 a1 a2 x3i y2 (x5i + Int32.ofInt 1) h3))) = some (v, h') := hf
      by_cases c1 : (Int32.ofInt 16) ≤ x5i
      · rw [if_pos c1] at hf
        obtain ⟨rfl, rfl⟩ := am_i2 hf
        exact rfl
      · rw [if_neg c1] at hf
        obtain ⟨y2, h3, j4, hf⟩ := am_b2_ok hf
        have hro : h = h3 := by
          by_cases c5 : ((x3i >>> (x5i &&& 31)) &&& (Int32.ofInt 1)) = (Int32.ofInt 1)
          · rw [if_pos c5] at j4
            obtain ⟨r6, h7, e8, j4⟩ := am_b2_ok j4
            have hro := (ro_X9_actOfSeat a1 x5i h e8).symm
            subst hro
            obtain ⟨y9, j10, j4⟩ := am_bnd j4
            obtain ⟨rfl, rfl⟩ := am_i2 j4
            exact rfl
          · rw [if_neg c5] at j4
            obtain ⟨rfl, rfl⟩ := am_i2 j4
            exact rfl
        subst hro
        exact ih a1 a2 x3i y2 (x5i + Int32.ofInt 1) h _ _ hf
set_option maxRecDepth 100000 in
theorem ro_X9_waitsFor (n : Nat) (a1 : Int32) (a2 : Int32) (h : am_H) {v : Int32} {h' : am_H} (hf : f_X9_waitsFor n a1 a2 h = some (v, h')) : h' = h := by
  unfold f_X9_waitsFor at hf
  obtain ⟨r1, h2, e3, hf⟩ := am_b2_ok hf
  have hro := (ro_X9_followNow a1 h e3).symm
  subst hro
  exact (u_X9_waitsFor n) a1 a2 r1 (Int32.ofInt 0) (Int32.ofInt 1) h _ _ hf
set_option maxRecDepth 100000 in
set_option maxHeartbeats 4000000 in
theorem u_X9_onlyWaits (n : Nat) : (∀ (a1 : Int32) (x2i : Int32) (x3i : Int32) (x4i : Int32) (h : am_H) (v : Int32) (h' : am_H), g_X9_onlyWaits n 0 a1 x2i x3i x4i h = some (v, h') → h' = h) := by
  induction n with
  | zero => exact fun a1 x2i x3i x4i h v h' hf => (by cases hf)
  | succ n ih =>
    skip
    · intro a1 x2i x3i x4i h v h' hf
      have hf : ((if (Int32.ofInt 16) ≤ x4i then bif am_b01 x3i then (some (x3i, h)) else none else (if x3i = 0 then bif am_b01 x3i then (some (x3i, h)) else none else am_b2 ((if ((x2i >>> (x4i &&& 31)) &&& (Int32.ofInt 1)) = 0 then some ((Int32.ofInt 1), h) else am_b2 (f_X9_actOfSeat a1 x4i h) fun r9 h10 => ((if r9 < (Int32.ofInt 100) then some ((Int32.ofInt 0), h10) else some ((Int32.ofInt 1), h10))))) fun y5 h6 => (g_X9_onlyWaits n 0 a1 x2i y5 (x4i + Int32.ofInt 1) h6)))) = some (v, h') := hf
      by_cases c1 : (Int32.ofInt 16) ≤ x4i
      · rw [if_pos c1] at hf
        obtain ⟨b2, hf⟩ := am_bis hf
        obtain ⟨rfl, rfl⟩ := am_i2 hf
        exact rfl
      · rw [if_neg c1] at hf
        by_cases c3 : x3i = 0
        · rw [if_pos c3] at hf
          obtain ⟨b4, hf⟩ := am_bis hf
          obtain ⟨rfl, rfl⟩ := am_i2 hf
          exact rfl
        · rw [if_neg c3] at hf
          obtain ⟨y5, h6, j7, hf⟩ := am_b2_ok hf
          have hro : h = h6 := by
            by_cases c8 : ((x2i >>> (x4i &&& 31)) &&& (Int32.ofInt 1)) = 0
            · rw [if_pos c8] at j7
              obtain ⟨rfl, rfl⟩ := am_i2 j7
              exact rfl
            · rw [if_neg c8] at j7
              obtain ⟨r9, h10, e11, j7⟩ := am_b2_ok j7
              have hro := (ro_X9_actOfSeat a1 x4i h e11).symm
              subst hro
              by_cases c12 : r9 < (Int32.ofInt 100)
              · rw [if_pos c12] at j7
                obtain ⟨rfl, rfl⟩ := am_i2 j7
                exact rfl
              · rw [if_neg c12] at j7
                obtain ⟨rfl, rfl⟩ := am_i2 j7
                exact rfl
          subst hro
          exact ih a1 x2i y5 (x4i + Int32.ofInt 1) h _ _ hf
set_option maxRecDepth 100000 in
theorem ro_X9_onlyWaits (n : Nat) (a1 : Int32) (h : am_H) {v : Int32} {h' : am_H} (hf : f_X9_onlyWaits n a1 h = some (v, h')) : h' = h := by
  unfold f_X9_onlyWaits at hf
  obtain ⟨r1, h2, e3, hf⟩ := am_b2_ok hf
  have hro := (ro_X9_followNow a1 h e3).symm
  subst hro
  obtain ⟨y4, j5, hf⟩ := am_bnd hf
  exact (u_X9_onlyWaits n) a1 r1 y4 (Int32.ofInt 1) h _ _ hf
set_option maxRecDepth 100000 in
set_option maxHeartbeats 4000000 in
theorem u_X9_isWrong (n : Nat) : (∀ (a1 : Int32) (x2i : Int32) (x3i : Int32) (x4i : Int32) (x5i : Int32) (x6i : Int32) (h : am_H) (v : Int32) (h' : am_H), g_X9_isWrong n 0 a1 x2i x3i x4i x5i x6i h = some (v, h') → h' = h) ∧ (∀ (a1 : Int32) (x2i : Int32) (x3i : Int32) (x4i : Int32) (x5i : Int32) (x6i : Int32) (h : am_H) (v : Int32) (h' : am_H), g_X9_isWrong n 1 a1 x2i x3i x4i x5i x6i h = some (v, h') → h' = h) := by
  induction n with
  | zero => exact ⟨fun a1 x2i x3i x4i x5i x6i h v h' hf => (by cases hf), fun a1 x2i x3i x4i x5i x6i h v h' hf => (by cases hf)⟩
  | succ n ih =>
    refine ⟨?_, ?_⟩
    · intro a1 x2i x3i x4i x5i x6i h v h' hf
      have hf : ((if (Int32.ofInt 3) ≤ x2i then some ((Int32.ofInt 0), h) else am_b2 (f_X9_waitsFor n a1 x2i h) fun r2 h3 => (g_X9_isWrong n 1 a1 x2i r2 (((Int32.ofInt 3) * x2i) + a1) (Int32.ofInt 0) (Int32.ofInt 0) h3))) = some (v, h') := hf
      by_cases c1 : (Int32.ofInt 3) ≤ x2i
      · rw [if_pos c1] at hf
        obtain ⟨rfl, rfl⟩ := am_i2 hf
        exact rfl
      · rw [if_neg c1] at hf
        obtain ⟨r2, h3, e4, hf⟩ := am_b2_ok hf
        have hro := (ro_X9_waitsFor n a1 x2i h e4).symm
        subst hro
        exact ih.2 a1 x2i r2 (((Int32.ofInt 3) * x2i) + a1) (Int32.ofInt 0) (Int32.ofInt 0) h _ _ hf
    · intro a1 x2i x3i x4i x5i x6i h v h' hf
      have hf : (bif am_vp x4i 9 then (am_b2 (f_X9_sizeOf (am_I h 78 (Int32.toNatClampNeg x4i)) h) fun r2 h3 => ((if r2 ≤ x6i then (if x3i = 0 then g_X9_isWrong n 0 a1 (x2i + Int32.ofInt 1) 0 0 0 0 h3 else (if (am_I h3 78 (Int32.toNatClampNeg x4i)) = 0 then g_X9_isWrong n 0 a1 (x2i + Int32.ofInt 1) 0 0 0 0 h3 else (if x5i = 0 then some ((Int32.ofInt 1), h3) else g_X9_isWrong n 0 a1 (x2i + Int32.ofInt 1) 0 0 0 0 h3))) else am_b2 ((if x5i = 0 then am_let (am_b2 (f_X9_letterAt (am_I h3 78 (Int32.toNatClampNeg x4i)) x6i h3) fun r16 h17 => ((if ((x3i >>> ((r16 - (Int32.ofInt 1)) &&& 31)) &&& (Int32.ofInt 1)) = (Int32.ofInt 1) then some ((Int32.ofInt 1), h17) else some ((Int32.ofInt 0), h17)))) fun b13 => ((if x6i = 0 then b13 else (if (am_I h3 59 (Int32.toNatClampNeg x4i)) = (Int32.ofInt 1) then b13 else some ((Int32.ofInt 0), h3)))) else some ((Int32.ofInt 1), h3))) fun y9 h10 => (g_X9_isWrong n 1 a1 x2i x3i x4i y9 (x6i + Int32.ofInt 1) h10)))) else none) = some (v, h') := hf
      obtain ⟨b1, hf⟩ := am_bis hf
      obtain ⟨r2, h3, e4, hf⟩ := am_b2_ok hf
      have hro := (ro_X9_sizeOf (am_I h 78 (Int32.toNatClampNeg x4i)) h e4).symm
      subst hro
      by_cases c5 : r2 ≤ x6i
      · rw [if_pos c5] at hf
        by_cases c6 : x3i = 0
        · rw [if_pos c6] at hf
          exact ih.1 a1 (x2i + Int32.ofInt 1) 0 0 0 0 h _ _ hf
        · rw [if_neg c6] at hf
          by_cases c7 : (am_I h 78 (Int32.toNatClampNeg x4i)) = 0
          · rw [if_pos c7] at hf
            exact ih.1 a1 (x2i + Int32.ofInt 1) 0 0 0 0 h _ _ hf
          · rw [if_neg c7] at hf
            by_cases c8 : x5i = 0
            · rw [if_pos c8] at hf
              obtain ⟨rfl, rfl⟩ := am_i2 hf
              exact rfl
            · rw [if_neg c8] at hf
              exact ih.1 a1 (x2i + Int32.ofInt 1) 0 0 0 0 h _ _ hf
      · rw [if_neg c5] at hf
        obtain ⟨y9, h10, j11, hf⟩ := am_b2_ok hf
        have hro : h = h10 := by
          by_cases c12 : x5i = 0
          · rw [if_pos c12] at j11
            obtain ⟨b13, k14, j11⟩ := am_let_ok j11
            refine am_cut (P := (am_b2 (f_X9_letterAt (am_I h 78 (Int32.toNatClampNeg x4i)) x6i h) fun r16 h17 => ((if ((x3i >>> ((r16 - (Int32.ofInt 1)) &&& 31)) &&& (Int32.ofInt 1)) = (Int32.ofInt 1) then some ((Int32.ofInt 1), h17) else some ((Int32.ofInt 0), h17)))) = some (y9, h10) → h = h10) (fun B15 => ?_) ?_
            · skip
              by_cases c16 : x6i = 0
              · rw [if_pos c16] at j11
                exact B15 (k14.symm.trans j11)
              · rw [if_neg c16] at j11
                by_cases c17 : (am_I h 59 (Int32.toNatClampNeg x4i)) = (Int32.ofInt 1)
                · rw [if_pos c17] at j11
                  exact B15 (k14.symm.trans j11)
                · rw [if_neg c17] at j11
                  obtain ⟨rfl, rfl⟩ := am_i2 j11
                  exact rfl
            intro j11
            obtain ⟨r18, h19, e20, j11⟩ := am_b2_ok j11
            have hro := (ro_X9_letterAt (am_I h 78 (Int32.toNatClampNeg x4i)) x6i h e20).symm
            subst hro
            by_cases c21 : ((x3i >>> ((r18 - (Int32.ofInt 1)) &&& 31)) &&& (Int32.ofInt 1)) = (Int32.ofInt 1)
            · rw [if_pos c21] at j11
              obtain ⟨rfl, rfl⟩ := am_i2 j11
              exact rfl
            · rw [if_neg c21] at j11
              obtain ⟨rfl, rfl⟩ := am_i2 j11
              exact rfl
          · rw [if_neg c12] at j11
            obtain ⟨rfl, rfl⟩ := am_i2 j11
            exact rfl
        subst hro
        exact ih.2 a1 x2i x3i x4i y9 (x6i + Int32.ofInt 1) h _ _ hf
set_option maxRecDepth 100000 in
theorem ro_X9_isWrong (n : Nat) (a1 : Int32) (h : am_H) {v : Int32} {h' : am_H} (hf : f_X9_isWrong n a1 h = some (v, h')) : h' = h := by
  unfold f_X9_isWrong at hf
  obtain ⟨r1, h2, e3, hf⟩ := am_b2_ok hf
  have hro := (ro_X9_onlyWaits n a1 h e3).symm
  subst hro
  by_cases c4 : r1 = 0
  · rw [if_pos c4] at hf
    obtain ⟨rfl, rfl⟩ := am_i2 hf
    exact rfl
  · rw [if_neg c4] at hf
    exact (u_X9_isWrong n).1 a1 (Int32.ofInt 0) 0 0 0 0 h _ _ hf
set_option maxRecDepth 100000 in
set_option maxHeartbeats 4000000 in
theorem u_X9_asState (n : Nat) : (∀ (x1j : Int64) (x3i : Int32) (h : am_H) (v : Int64) (h' : am_H), g_X9_asState n 0 x1j x3i h = some (v, h') → h' = h) ∧ (∀ (x1j : Int64) (x3i : Int32) (h : am_H) (v : Int64) (h' : am_H), g_X9_asState n 1 x1j x3i h = some (v, h') → h' = h) := by
  induction n with
  | zero => exact ⟨fun x1j x3i h v h' hf => (by cases hf), fun x1j x3i h v h' hf => (by cases hf)⟩
  | succ n ih =>
    refine ⟨?_, ?_⟩
    · intro x1j x3i h v h' hf
      have hf : ((if (Int32.ofInt 3) ≤ x3i then g_X9_asState n 1 x1j (Int32.ofInt 0) h else bif am_vp x3i 3 then (g_X9_asState n 0 (((16 : Int64) * x1j) + (Int32.toInt64 (am_I h 77 (Int32.toNatClampNeg x3i)))) (x3i + Int32.ofInt 1) h) else none)) = some (v, h') := hf
      by_cases c1 : (Int32.ofInt 3) ≤ x3i
      · rw [if_pos c1] at hf
        exact ih.2 x1j (Int32.ofInt 0) h _ _ hf
      · rw [if_neg c1] at hf
        obtain ⟨b2, hf⟩ := am_bis hf
        exact ih.1 (((16 : Int64) * x1j) + (Int32.toInt64 (am_I h 77 (Int32.toNatClampNeg x3i)))) (x3i + Int32.ofInt 1) h _ _ hf
    · intro x1j x3i h v h' hf
      have hf : ((if (Int32.ofInt 9) ≤ x3i then some (x1j, h) else Option.bind ((if (x3i - x3i / (Int32.ofInt 4) * (Int32.ofInt 4)) = 0 then some x1j else bif am_vp x3i 9 then (some (((128 : Int64) * x1j) + (Int32.toInt64 (am_I h 78 (Int32.toNatClampNeg x3i))))) else none)) fun y2 => (g_X9_asState n 1 y2 (x3i + Int32.ofInt 1) h))) = some (v, h') := hf
      by_cases c1 : (Int32.ofInt 9) ≤ x3i
      · rw [if_pos c1] at hf
        obtain ⟨rfl, rfl⟩ := am_i2 hf
        exact rfl
      · rw [if_neg c1] at hf
        obtain ⟨y2, j3, hf⟩ := am_bnd hf
        exact ih.2 y2 (x3i + Int32.ofInt 1) h _ _ hf
set_option maxRecDepth 100000 in
theorem ro_X9_asState (n : Nat) (h : am_H) {v : Int64} {h' : am_H} (hf : f_X9_asState n h = some (v, h')) : h' = h := by
  unfold f_X9_asState at hf
  exact (u_X9_asState n).1 (Int64.ofNat (0 : Fin 2).val) (Int32.ofInt 0) h _ _ hf
set_option maxRecDepth 100000 in
set_option maxHeartbeats 4000000 in
theorem u_X9_stateNumber (n : Nat) : (∀ (a1 : Int64) (x3i : Int32) (h : am_H) (v : Int32) (h' : am_H), g_X9_stateNumber n 0 a1 x3i h = some (v, h') → h' = h) := by
  induction n with
  | zero => exact fun a1 x3i h v h' hf => (by cases hf)
  | succ n ih =>
    skip
    · intro a1 x3i h v h' hf
      have hf : (bif am_vp x3i 8192 then ((if (am_I h 84 (Int32.toNatClampNeg x3i)) = 0 then some (x3i, h) else bif am_vp ((am_I h 84 (Int32.toNatClampNeg x3i)) - (Int32.ofInt 1)) 2001 then ((if (lg_cmp (am_J h 80 (Int32.toNatClampNeg ((am_I h 84 (Int32.toNatClampNeg x3i)) - (Int32.ofInt 1)))) a1) = 0 then some (x3i, h) else g_X9_stateNumber n 0 a1 ((x3i + (Int32.ofInt 1)) - (x3i + (Int32.ofInt 1)) / (Int32.ofInt 8192) * (Int32.ofInt 8192)) h)) else none)) else none) = some (v, h') := hf
      obtain ⟨b1, hf⟩ := am_bis hf
      by_cases c2 : (am_I h 84 (Int32.toNatClampNeg x3i)) = 0
      · rw [if_pos c2] at hf
        obtain ⟨rfl, rfl⟩ := am_i2 hf
        exact rfl
      · rw [if_neg c2] at hf
        obtain ⟨b3, hf⟩ := am_bis hf
        by_cases c4 : (lg_cmp (am_J h 80 (Int32.toNatClampNeg ((am_I h 84 (Int32.toNatClampNeg x3i)) - (Int32.ofInt 1)))) a1) = 0
        · rw [if_pos c4] at hf
          obtain ⟨rfl, rfl⟩ := am_i2 hf
          exact rfl
        · rw [if_neg c4] at hf
          exact ih a1 ((x3i + (Int32.ofInt 1)) - (x3i + (Int32.ofInt 1)) / (Int32.ofInt 8192) * (Int32.ofInt 8192)) h _ _ hf
set_option maxRecDepth 100000 in
theorem ro_X9_stateNumber (n : Nat) (a1 : Int64) (h : am_H) {v : Int32} {h' : am_H} (hf : f_X9_stateNumber n a1 h = some (v, h')) : h' = h := by
  unfold f_X9_stateNumber at hf
  exact (u_X9_stateNumber n) a1 (Int64.toInt32 (((a1 * (6364136223846793005 : Int64)) >>> (Int32.toInt64 (Int32.ofInt 40) &&& 63)) &&& (8191 : Int64))) h _ _ hf
set_option maxRecDepth 100000 in
set_option maxHeartbeats 4000000 in
theorem u_X9_leadsToFine (n : Nat) : (∀ (a1 : Int32) (x2i : Int32) (x3i : Int32) (h : am_H) (v : Int32) (h' : am_H), g_X9_leadsToFine n 0 a1 x2i x3i h = some (v, h') → h' = h) := by
  induction n with
  | zero => exact fun a1 x2i x3i h v h' hf => (by cases hf)
  | succ n ih =>
    skip
    · intro a1 x2i x3i h v h' hf
      have hf : (bif am_vp (a1 + (Int32.ofInt 1)) 2002 then ((if (am_I h 85 (Int32.toNatClampNeg (a1 + (Int32.ofInt 1)))) ≤ x3i then bif am_b01 x2i then (some (x2i, h)) else none else (if x2i = 0 then bif am_vp x3i 180090 then (bif am_vp (am_I h 86 (Int32.toNatClampNeg x3i)) 2001 then (g_X9_leadsToFine n 0 a1 (am_I h 83 (Int32.toNatClampNeg (am_I h 86 (Int32.toNatClampNeg x3i)))) (x3i + Int32.ofInt 1) h) else none) else none else bif am_b01 x2i then (some (x2i, h)) else none))) else none) = some (v, h') := hf
      obtain ⟨b1, hf⟩ := am_bis hf
      by_cases c2 : (am_I h 85 (Int32.toNatClampNeg (a1 + (Int32.ofInt 1)))) ≤ x3i
      · rw [if_pos c2] at hf
        obtain ⟨b3, hf⟩ := am_bis hf
        obtain ⟨rfl, rfl⟩ := am_i2 hf
        exact rfl
      · rw [if_neg c2] at hf
        by_cases c4 : x2i = 0
        · rw [if_pos c4] at hf
          obtain ⟨b5, hf⟩ := am_bis hf
          obtain ⟨b6, hf⟩ := am_bis hf
          exact ih a1 (am_I h 83 (Int32.toNatClampNeg (am_I h 86 (Int32.toNatClampNeg x3i)))) (x3i + Int32.ofInt 1) h _ _ hf
        · rw [if_neg c4] at hf
          obtain ⟨b7, hf⟩ := am_bis hf
          obtain ⟨rfl, rfl⟩ := am_i2 hf
          exact rfl
set_option maxRecDepth 100000 in
theorem ro_X9_leadsToFine (n : Nat) (a1 : Int32) (h : am_H) {v : Int32} {h' : am_H} (hf : f_X9_leadsToFine n a1 h = some (v, h')) : h' = h := by
  unfold f_X9_leadsToFine at hf
  obtain ⟨b1, hf⟩ := am_bis hf
  exact (u_X9_leadsToFine n) a1 (Int32.ofInt 0) (am_I h 85 (Int32.toNatClampNeg a1)) h _ _ hf
set_option maxRecDepth 100000 in
set_option maxHeartbeats 4000000 in
theorem u_X9_lettersLying (n : Nat) : (∀ (x1i : Int32) (x2i : Int32) (h : am_H) (v : Int32) (h' : am_H), g_X9_lettersLying n 0 x1i x2i h = some (v, h') → h' = h) := by
  induction n with
  | zero => exact fun x1i x2i h v h' hf => (by cases hf)
  | succ n ih =>
    skip
    · intro x1i x2i h v h' hf
      have hf : ((if (Int32.ofInt 9) ≤ x2i then some (x1i, h) else bif am_vp x2i 9 then (am_b2 (f_X9_sizeOf (am_I h 78 (Int32.toNatClampNeg x2i)) h) fun r3 h4 => (g_X9_lettersLying n 0 (x1i + r3) (x2i + Int32.ofInt 1) h4)) else none)) = some (v, h') := hf
      by_cases c1 : (Int32.ofInt 9) ≤ x2i
      · rw [if_pos c1] at hf
        obtain ⟨rfl, rfl⟩ := am_i2 hf
        exact rfl
      · rw [if_neg c1] at hf
        obtain ⟨b2, hf⟩ := am_bis hf
        obtain ⟨r3, h4, e5, hf⟩ := am_b2_ok hf
        have hro := (ro_X9_sizeOf (am_I h 78 (Int32.toNatClampNeg x2i)) h e5).symm
        subst hro
        exact ih (x1i + r3) (x2i + Int32.ofInt 1) h _ _ hf
set_option maxRecDepth 100000 in
theorem ro_X9_lettersLying (n : Nat) (h : am_H) {v : Int32} {h' : am_H} (hf : f_X9_lettersLying n h = some (v, h')) : h' = h := by
  unfold f_X9_lettersLying at hf
  exact (u_X9_lettersLying n) (Int32.ofInt 0) (Int32.ofInt 0) h _ _ hf
set_option maxRecDepth 100000 in
theorem ro_X9_howMany (n : Nat) (a1 : Int32) (h : am_H) {v : Int32} {h' : am_H} (hf : f_X9_howMany n a1 h = some (v, h')) : h' = h := by
  unfold f_X9_howMany at hf
  by_cases c1 : a1 = Int32.ofInt 0
  · rw [if_pos c1] at hf
    obtain ⟨rfl, rfl⟩ := am_i2 hf
    exact rfl
  rw [if_neg c1] at hf
  by_cases c2 : a1 = Int32.ofInt 1
  · rw [if_pos c2] at hf
    obtain ⟨rfl, rfl⟩ := am_i2 hf
    exact rfl
  rw [if_neg c2] at hf
  by_cases c3 : a1 = Int32.ofInt 2
  · rw [if_pos c3] at hf
    obtain ⟨rfl, rfl⟩ := am_i2 hf
    exact rfl
  rw [if_neg c3] at hf
  by_cases c4 : a1 = Int32.ofInt 3
  · rw [if_pos c4] at hf
    obtain ⟨rfl, rfl⟩ := am_i2 hf
    exact rfl
  rw [if_neg c4] at hf
  by_cases c5 : a1 = Int32.ofInt 4
  · rw [if_pos c5] at hf
    obtain ⟨r6, h7, e8, hf⟩ := am_b2_ok hf
    have hro := (ro_X9_lettersLying n h e8).symm
    subst hro
    obtain ⟨rfl, rfl⟩ := am_i2 hf
    exact rfl
  rw [if_neg c5] at hf
  by_cases c9 : a1 = Int32.ofInt 5
  · rw [if_pos c9] at hf
    obtain ⟨rfl, rfl⟩ := am_i2 hf
    exact rfl
  rw [if_neg c9] at hf
  obtain ⟨rfl, rfl⟩ := am_i2 hf
  exact rfl
set_option maxRecDepth 100000 in
theorem ro_X9_count (n : Nat) (a1 : Int32) (h : am_H) {v : Int32} {h' : am_H} (hf : f_X9_count n a1 h = some (v, h')) : h' = h := by
  unfold f_X9_count at hf
  obtain ⟨r1, h2, e3, hf⟩ := am_b2_ok hf
  have hro := (ro_X9_howMany n a1 h e3).symm
  subst hro
  obtain ⟨rfl, rfl⟩ := am_i2 hf
  exact rfl
set_option maxRecDepth 100000 in
set_option maxHeartbeats 4000000 in
theorem u_X1_codeAt (n : Nat) : (∀ (a1 : Int32) (x2i : Int32) (x3i : Int32) (x4i : Int32) (h : am_H) (v : Int32) (h' : am_H), g_X1_codeAt n 0 a1 x2i x3i x4i h = some (v, h') → h' = h) := by
  induction n with
  | zero => exact fun a1 x2i x3i x4i h v h' hf => (by cases hf)
  | succ n ih =>
    skip
    · intro a1 x2i x3i x4i h v h' hf
      have hf : ((if x2i ≤ x4i then (am_A h 19 10).bind fun q2 => ((am_ln h 0 q2).bind fun n4 => (bif am_vp x3i n4 then (am_b2 (f_X8_codeOf (am_I h q2 (Int32.toNatClampNeg x3i)) h) fun r7 h8 => (some (r7, h8))) else none)) else (am_A h 19 9).bind fun q10 => ((am_ln h 0 q10).bind fun n12 => (bif am_vp x3i n12 then (g_X1_codeAt n 0 a1 x2i (am_I h q10 (Int32.toNatClampNeg x3i)) (x4i + Int32.ofInt 1) h) else none)))) = some (v, h') := hf
      by_cases c1 : x2i ≤ x4i
      · rw [if_pos c1] at hf
        obtain ⟨q2, k3, hf⟩ := am_bnd hf
        obtain ⟨n4, k5, hf⟩ := am_bnd hf
        obtain ⟨b6, hf⟩ := am_bis hf
        obtain ⟨r7, h8, e9, hf⟩ := am_b2_ok hf
        have hro := (ro_X8_codeOf (am_I h q2 (Int32.toNatClampNeg x3i)) h e9).symm
        subst hro
        obtain ⟨rfl, rfl⟩ := am_i2 hf
        exact rfl
      · rw [if_neg c1] at hf
        obtain ⟨q10, k11, hf⟩ := am_bnd hf
        obtain ⟨n12, k13, hf⟩ := am_bnd hf
        obtain ⟨b14, hf⟩ := am_bis hf
        exact ih a1 x2i (am_I h q10 (Int32.toNatClampNeg x3i)) (x4i + Int32.ofInt 1) h _ _ hf
set_option maxRecDepth 100000 in
theorem ro_X1_codeAt (n : Nat) (a1 : Int32) (h : am_H) {v : Int32} {h' : am_H} (hf : f_X1_codeAt n a1 h = some (v, h')) : h' = h := by
  unfold f_X1_codeAt at hf
  obtain ⟨r1, h2, e3, hf⟩ := am_b2_ok hf
  have hro := (ro_X1_length n h e3).symm
  subst hro
  by_cases c4 : 0 ≤ ((r1 - (Int32.ofInt 1)) - a1)
  · rw [if_pos c4] at hf
    exact (u_X1_codeAt n) a1 ((r1 - (Int32.ofInt 1)) - a1) (am_I h 19 5) (Int32.ofInt 0) h _ _ hf
  · rw [if_neg c4] at hf
    obtain ⟨rfl, rfl⟩ := am_i2 hf
    exact rfl
set_option maxRecDepth 100000 in
theorem ro_X1_leftBehind (a1 : Int32) (a2 : Int32) (h : am_H) {v : Int32} {h' : am_H} (hf : f_X1_leftBehind a1 a2 h = some (v, h')) : h' = h := by
  unfold f_X1_leftBehind at hf
  obtain ⟨y1, h2, j3, hf⟩ := am_b2_ok hf
  have hro : h = h2 := by
    by_cases c4 : a1 = (am_I h 19 3)
    · rw [if_pos c4] at j3
      obtain ⟨rfl, rfl⟩ := am_i2 j3
      exact rfl
    · rw [if_neg c4] at j3
      obtain ⟨q5, k6, j3⟩ := am_bnd j3
      obtain ⟨k7, j3⟩ := am_bis j3
      obtain ⟨r8, h9, e10, j3⟩ := am_b2_ok j3
      have hro := (ro_X3_behind q5 a1 a2 h e10).symm
      subst hro
      obtain ⟨rfl, rfl⟩ := am_i2 j3
      exact rfl
  subst hro
  obtain ⟨y61, j62, hf⟩ := am_bnd hf
  obtain ⟨rfl, rfl⟩ := am_i2 hf
  exact rfl
set_option maxRecDepth 100000 in
theorem ro_X1_rightBehind (a1 : Int32) (a2 : Int32) (h : am_H) {v : Int32} {h' : am_H} (hf : f_X1_rightBehind a1 a2 h = some (v, h')) : h' = h := by
  unfold f_X1_rightBehind at hf
  obtain ⟨y1, h2, j3, hf⟩ := am_b2_ok hf
  have hro : h = h2 := by
    by_cases c4 : a1 = (am_I h 19 3)
    · rw [if_pos c4] at j3
      obtain ⟨rfl, rfl⟩ := am_i2 j3
      exact rfl
    · rw [if_neg c4] at j3
      obtain ⟨q5, k6, j3⟩ := am_bnd j3
      obtain ⟨q7, k8, j3⟩ := am_bnd j3
      obtain ⟨k9, j3⟩ := am_bis j3
      obtain ⟨k10, j3⟩ := am_bis j3
      obtain ⟨r11, h12, e13, j3⟩ := am_b2_ok j3
      have hro := (ro_X3_behind q5 (a1 - (am_I h q7 0)) a2 h e13).symm
      subst hro
      obtain ⟨rfl, rfl⟩ := am_i2 j3
      exact rfl
  subst hro
  obtain ⟨y64, j65, hf⟩ := am_bnd hf
  obtain ⟨rfl, rfl⟩ := am_i2 hf
  exact rfl
set_option maxRecDepth 100000 in
set_option maxHeartbeats 4000000 in
theorem u_X2_alike (n : Nat) : (∀ (a1 : Int32) (a2 : Int32) (x3i : Int32) (h : am_H) (v : Int32) (h' : am_H), g_X2_alike n 0 a1 a2 x3i h = some (v, h') → h' = h) := by
  induction n with
  | zero => exact fun a1 a2 x3i h v h' hf => (by cases hf)
  | succ n ih =>
    skip
    · intro a1 a2 x3i h v h' hf
      have hf : ((if (Int32.ofInt 24) ≤ x3i then some ((Int32.ofInt 1), h) else (am_A h 12 2).bind fun q2 => ((am_ln h 0 q2).bind fun n4 => (bif am_vp (((Int32.ofInt 24) * a1) + x3i) n4 then (am_b2 (f_X2_kinOf (am_I h q2 (Int32.toNatClampNeg (((Int32.ofInt 24) * a1) + x3i))) h) fun r7 h8 => ((am_A h8 12 2).bind fun q10 => ((am_ln h8 0 q10).bind fun n12 => (bif am_vp (((Int32.ofInt 24) * a2) + x3i) n12 then (am_b2 (f_X2_kinOf (am_I h8 q10 (Int32.toNatClampNeg (((Int32.ofInt 24) * a2) + x3i))) h8) fun r15 h16 => ((if r7 = r15 then g_X2_alike n 0 a1 a2 (x3i + Int32.ofInt 1) h16 else some ((Int32.ofInt 0), h16)))) else none)))) else none)))) = some (v, h') := hf
      by_cases c1 : (Int32.ofInt 24) ≤ x3i
      · rw [if_pos c1] at hf
        obtain ⟨rfl, rfl⟩ := am_i2 hf
        exact rfl
      · rw [if_neg c1] at hf
        obtain ⟨q2, k3, hf⟩ := am_bnd hf
        obtain ⟨n4, k5, hf⟩ := am_bnd hf
        obtain ⟨b6, hf⟩ := am_bis hf
        obtain ⟨r7, h8, e9, hf⟩ := am_b2_ok hf
        have hro := (ro_X2_kinOf (am_I h q2 (Int32.toNatClampNeg (((Int32.ofInt 24) * a1) + x3i))) h e9).symm
        subst hro
        obtain ⟨q10, k11, hf⟩ := am_bnd hf
        obtain ⟨n12, k13, hf⟩ := am_bnd hf
        obtain ⟨b14, hf⟩ := am_bis hf
        obtain ⟨r15, h16, e17, hf⟩ := am_b2_ok hf
        have hro := (ro_X2_kinOf (am_I h q10 (Int32.toNatClampNeg (((Int32.ofInt 24) * a2) + x3i))) h e17).symm
        subst hro
        by_cases c18 : r7 = r15
        · rw [if_pos c18] at hf
          exact ih a1 a2 (x3i + Int32.ofInt 1) h _ _ hf
        · rw [if_neg c18] at hf
          obtain ⟨rfl, rfl⟩ := am_i2 hf
          exact rfl
set_option maxRecDepth 100000 in
theorem ro_X2_alike (n : Nat) (a1 : Int32) (a2 : Int32) (h : am_H) {v : Int32} {h' : am_H} (hf : f_X2_alike n a1 a2 h = some (v, h')) : h' = h := by
  unfold f_X2_alike at hf
  obtain ⟨q1, k2, hf⟩ := am_bnd hf
  obtain ⟨n3, k4, hf⟩ := am_bnd hf
  obtain ⟨b5, hf⟩ := am_bis hf
  obtain ⟨q6, k7, hf⟩ := am_bnd hf
  obtain ⟨n8, k9, hf⟩ := am_bnd hf
  obtain ⟨b10, hf⟩ := am_bis hf
  by_cases c11 : (am_I h q1 (Int32.toNatClampNeg a1)) = (am_I h q6 (Int32.toNatClampNeg a2))
  · rw [if_pos c11] at hf
    exact (u_X2_alike n) a1 a2 (Int32.ofInt 0) h _ _ hf
  · rw [if_neg c11] at hf
    obtain ⟨rfl, rfl⟩ := am_i2 hf
    exact rfl
set_option maxRecDepth 100000 in
set_option maxHeartbeats 4000000 in
theorem u_X4_told (n : Nat) : (∀ (a0 : Int64) (x2i : Int32) (x3i : Int32) (x4i : Int32) (h : am_H) (v : Int32) (h' : am_H), g_X4_told n 0 a0 x2i x3i x4i h = some (v, h') → h' = h) := by
  induction n with
  | zero => exact fun a0 x2i x3i x4i h v h' hf => (by cases hf)
  | succ n ih =>
    skip
    · intro a0 x2i x3i x4i h v h' hf
      have hf : ((if (Int32.ofInt 8) ≤ x4i then some (x2i, h) else am_b2 (f_X4_byteOf a0 x4i h) fun r2 h3 => ((if (Int32.ofInt 126) < r2 then some ((Int32.ofInt (-102)), h3) else am_let (am_b2 ((if r2 = 0 then some (x2i, (Int32.ofInt 1)) else some ((x2i + Int32.ofInt 1), x3i))) fun y9 y10 => (g_X4_told n 0 a0 y9 y10 (x4i + Int32.ofInt 1) h3)) fun b6 => ((if x3i = 0 then b6 else (if r2 = 0 then b6 else some ((Int32.ofInt (-102)), h3)))))))) = some (v, h') := hf
      by_cases c1 : (Int32.ofInt 8) ≤ x4i
      · rw [if_pos c1] at hf
        obtain ⟨rfl, rfl⟩ := am_i2 hf
        exact rfl
      · rw [if_neg c1] at hf
        obtain ⟨r2, h3, e4, hf⟩ := am_b2_ok hf
        have hro := (ro_X4_byteOf a0 x4i h e4).symm
        subst hro
        by_cases c5 : (Int32.ofInt 126) < r2
        · rw [if_pos c5] at hf
          obtain ⟨rfl, rfl⟩ := am_i2 hf
          exact rfl
        · rw [if_neg c5] at hf
          obtain ⟨b6, k7, hf⟩ := am_let_ok hf
          refine am_cut (P := (am_b2 ((if r2 = 0 then some (x2i, (Int32.ofInt 1)) else some ((x2i + Int32.ofInt 1), x3i))) fun y9 y10 => (g_X4_told n 0 a0 y9 y10 (x4i + Int32.ofInt 1) h)) = some (v, h') → h' = h) (fun B8 => ?_) ?_
          · skip
            by_cases c9 : x3i = 0
            · rw [if_pos c9] at hf
              exact B8 (k7.symm.trans hf)
            · rw [if_neg c9] at hf
              by_cases c10 : r2 = 0
              · rw [if_pos c10] at hf
                exact B8 (k7.symm.trans hf)
              · rw [if_neg c10] at hf
                obtain ⟨rfl, rfl⟩ := am_i2 hf
                exact rfl
          intro hf
          obtain ⟨y11, y12, j13, hf⟩ := am_b2_ok hf
          exact ih a0 y11 y12 (x4i + Int32.ofInt 1) h _ _ hf
set_option maxRecDepth 100000 in
theorem ro_X4_told (n : Nat) (a0 : Int64) (h : am_H) {v : Int32} {h' : am_H} (hf : f_X4_told n a0 h = some (v, h')) : h' = h := by
  unfold f_X4_told at hf
  exact (u_X4_told n) a0 (Int32.ofInt 0) (Int32.ofInt 0) (Int32.ofInt 0) h _ _ hf
set_option maxRecDepth 100000 in
theorem ro_X5_startsAct (a0 : Int32) (a1 : Int32) (h : am_H) {v : Int32} {h' : am_H} (hf : f_X5_startsAct a0 a1 h = some (v, h')) : h' = h := by
  unfold f_X5_startsAct at hf
  obtain ⟨y1, h2, j3, hf⟩ := am_b2_ok hf
  have hro : h = h2 := by
    by_cases c4 : a1 = 0
    · rw [if_pos c4] at j3
      obtain ⟨r5, h6, e7, j3⟩ := am_b2_ok j3
      have hro := (ro_X5_isMark a0 h e7).symm
      subst hro
      obtain ⟨rfl, rfl⟩ := am_i2 j3
      exact rfl
    · rw [if_neg c4] at j3
      obtain ⟨r8, h9, e10, j3⟩ := am_b2_ok j3
      have hro := (ro_X5_isDigit a0 h e10).symm
      subst hro
      obtain ⟨rfl, rfl⟩ := am_i2 j3
      exact rfl
  subst hro
  obtain ⟨b61, hf⟩ := am_bis hf
  obtain ⟨rfl, rfl⟩ := am_i2 hf
  exact rfl
set_option maxRecDepth 100000 in
theorem ro_X6_marksOf (n : Nat) (o : Nat) (a1 : Int64) (h : am_H) {v : Int32} {h' : am_H} (hf : f_X6_marksOf n o a1 h = some (v, h')) : h' = h := by
  unfold f_X6_marksOf at hf
  obtain ⟨r1, h2, e3, hf⟩ := am_b2_ok hf
  have hro := (ro_X6_slotOf n o a1 h e3).symm
  subst hro
  obtain ⟨b4, hf⟩ := am_bis hf
  obtain ⟨y5, j6, hf⟩ := am_bnd hf
  obtain ⟨rfl, rfl⟩ := am_i2 hf
  exact rfl
set_option maxRecDepth 100000 in
set_option maxHeartbeats 4000000 in
theorem u_X6_worthMending (n : Nat) : (∀ (o : Nat) (a2 : Int32) (x3i : Int32) (x4i : Int32) (x5i : Int32) (h : am_H) (v : Int32) (h' : am_H), g_X6_worthMending n 0 o a2 x3i x4i x5i h = some (v, h') → h' = h) := by
  induction n with
  | zero => exact fun o a2 x3i x4i x5i h v h' hf => (by cases hf)
  | succ n ih =>
    skip
    · intro o a2 x3i x4i x5i h v h' hf
      have hf : ((if (am_I h o 0) ≤ x5i then some (x4i, h) else bif am_vp x5i 2000 then (am_b2 ((if (((Int32.toUInt32 (am_I h (o + 4) (Int32.toNatClampNeg x5i)) >>> (Int32.toUInt32 (Int32.ofInt 3) &&& Int32.toUInt32 31)).toInt32) &&& (Int32.ofInt 1)) = 0 then some (x4i, h) else am_b2 (f_X7_mayAt (am_J h (o + 3) (Int32.toNatClampNeg x5i)) a2 h) fun r7 h8 => (some ((x4i ||| r7), h8)))) fun y3 h4 => (g_X6_worthMending n 0 o a2 x3i y3 (x5i + Int32.ofInt 1) h4)) else none)) = some (v, h') := hf
      by_cases c1 : (am_I h o 0) ≤ x5i
      · rw [if_pos c1] at hf
        obtain ⟨rfl, rfl⟩ := am_i2 hf
        exact rfl
      · rw [if_neg c1] at hf
        obtain ⟨b2, hf⟩ := am_bis hf
        obtain ⟨y3, h4, j5, hf⟩ := am_b2_ok hf
        have hro : h = h4 := by
          by_cases c6 : (((Int32.toUInt32 (am_I h (o + 4) (Int32.toNatClampNeg x5i)) >>> (Int32.toUInt32 (Int32.ofInt 3) &&& Int32.toUInt32 31)).toInt32) &&& (Int32.ofInt 1)) = 0
          · rw [if_pos c6] at j5
            obtain ⟨rfl, rfl⟩ := am_i2 j5
            exact rfl
          · rw [if_neg c6] at j5
            obtain ⟨r7, h8, e9, j5⟩ := am_b2_ok j5
            have hro := (ro_X7_mayAt (am_J h (o + 3) (Int32.toNatClampNeg x5i)) a2 h e9).symm
            subst hro
            obtain ⟨rfl, rfl⟩ := am_i2 j5
            exact rfl
        subst hro
        exact ih o a2 x3i y3 (x5i + Int32.ofInt 1) h _ _ hf
set_option maxRecDepth 100000 in
theorem ro_X6_worthMending (n : Nat) (o : Nat) (a2 : Int32) (h : am_H) {v : Int32} {h' : am_H} (hf : f_X6_worthMending n o a2 h = some (v, h')) : h' = h := by
  unfold f_X6_worthMending at hf
  obtain ⟨r1, h2, e3, hf⟩ := am_b2_ok hf
  have hro := (ro_X6_firstBad n o h e3).symm
  subst hro
  by_cases c4 : r1 < 0
  · rw [if_pos c4] at hf
    obtain ⟨r5, h6, e7, hf⟩ := am_b2_ok hf
    have hro := (ro_X6_actsOnWay n o (am_I h (o + 2) (Int32.toNatClampNeg (Int32.ofInt 3))) a2 h e7).symm
    subst hro
    exact (u_X6_worthMending n) o a2 r1 r5 (Int32.ofInt 0) h _ _ hf
  · rw [if_neg c4] at hf
    obtain ⟨r8, h9, e10, hf⟩ := am_b2_ok hf
    have hro := (ro_X6_actsOnWay n o r1 a2 h e10).symm
    subst hro
    obtain ⟨b11, hf⟩ := am_bis hf
    obtain ⟨r12, h13, e14, hf⟩ := am_b2_ok hf
    have hro := (ro_X7_mayAt (am_J h (o + 3) (Int32.toNatClampNeg r1)) a2 h e14).symm
    subst hro
    obtain ⟨rfl, rfl⟩ := am_i2 hf
    exact rfl
set_option maxRecDepth 100000 in
theorem ro_X7_loadIn (a1 : Int64) (a3 : Int32) (h : am_H) {v : Int32} {h' : am_H} (hf : f_X7_loadIn a1 a3 h = some (v, h')) : h' = h := by
  unfold f_X7_loadIn at hf
  obtain ⟨b1, hf⟩ := am_bis hf
  obtain ⟨r2, h3, e4, hf⟩ := am_b2_ok hf
  have hro := (ro_X7_contentIn a1 a3 h e4).symm
  subst hro
  obtain ⟨r5, h6, e7, hf⟩ := am_b2_ok hf
  have hro := (ro_X7_load (am_I h 29 (Int32.toNatClampNeg a3)) r2 h e7).symm
  subst hro
  obtain ⟨rfl, rfl⟩ := am_i2 hf
  exact rfl
set_option maxRecDepth 100000 in
set_option maxHeartbeats 4000000 in
theorem u_X7_lyingInAll (n : Nat) : (∀ (a1 : Int64) (x3i : Int32) (x4i : Int32) (h : am_H) (v : Int32) (h' : am_H), g_X7_lyingInAll n 0 a1 x3i x4i h = some (v, h') → h' = h) := by
  induction n with
  | zero => exact fun a1 x3i x4i h v h' hf => (by cases hf)
  | succ n ih =>
    skip
    · intro a1 x3i x4i h v h' hf
      have hf : ((if (Int32.ofInt 6) ≤ x4i then some (x3i, h) else am_b2 (f_X7_loadIn a1 x4i h) fun r2 h3 => (g_X7_lyingInAll n 0 a1 (x3i + r2) (x4i + Int32.ofInt 1) h3))) = some (v, h') := hf
      by_cases c1 : (Int32.ofInt 6) ≤ x4i
      · rw [if_pos c1] at hf
        obtain ⟨rfl, rfl⟩ := am_i2 hf
        exact rfl
      · rw [if_neg c1] at hf
        obtain ⟨r2, h3, e4, hf⟩ := am_b2_ok hf
        have hro := (ro_X7_loadIn a1 x4i h e4).symm
        subst hro
        exact ih a1 (x3i + r2) (x4i + Int32.ofInt 1) h _ _ hf
set_option maxRecDepth 100000 in
theorem ro_X7_lyingInAll (n : Nat) (a1 : Int64) (h : am_H) {v : Int32} {h' : am_H} (hf : f_X7_lyingInAll n a1 h = some (v, h')) : h' = h := by
  unfold f_X7_lyingInAll at hf
  exact (u_X7_lyingInAll n) a1 (Int32.ofInt 0) (Int32.ofInt 0) h _ _ hf
set_option maxRecDepth 100000 in
set_option maxHeartbeats 4000000 in
theorem u_X7_lying (n : Nat) : (∀ (a1 : Int64) (a3 : Int32) (a4 : Int32) (x5i : Int32) (x6i : Int32) (x7i : Int32) (x8i : Int32) (h : am_H) (v : Int32) (h' : am_H), g_X7_lying n 0 a1 a3 a4 x5i x6i x7i x8i h = some (v, h') → h' = h) := by
  induction n with
  | zero => exact fun a1 a3 a4 x5i x6i x7i x8i h v h' hf => (by cases hf)
  | succ n ih =>
    skip
    · intro a1 a3 a4 x5i x6i x7i x8i h v h' hf
      have hf : ((if (Int32.ofInt 4) ≤ x8i then some (x7i, h) else (if a4 < x6i then some (x7i, h) else g_X7_lying n 0 a1 a3 a4 x5i (x6i + (((Int32.toUInt32 x5i >>> (Int32.toUInt32 ((Int32.ofInt 2) * x8i) &&& Int32.toUInt32 31)).toInt32) &&& (Int32.ofInt 3))) x8i (x8i + Int32.ofInt 1) h))) = some (v, h') := hf
      by_cases c1 : (Int32.ofInt 4) ≤ x8i
      · rw [if_pos c1] at hf
        obtain ⟨rfl, rfl⟩ := am_i2 hf
        exact rfl
      · rw [if_neg c1] at hf
        by_cases c2 : a4 < x6i
        · rw [if_pos c2] at hf
          obtain ⟨rfl, rfl⟩ := am_i2 hf
          exact rfl
        · rw [if_neg c2] at hf
          exact ih a1 a3 a4 x5i (x6i + (((Int32.toUInt32 x5i >>> (Int32.toUInt32 ((Int32.ofInt 2) * x8i) &&& Int32.toUInt32 31)).toInt32) &&& (Int32.ofInt 3))) x8i (x8i + Int32.ofInt 1) h _ _ hf
set_option maxRecDepth 100000 in
theorem ro_X7_lying (n : Nat) (a1 : Int64) (a3 : Int32) (a4 : Int32) (h : am_H) {v : Int32} {h' : am_H} (hf : f_X7_lying n a1 a3 a4 h = some (v, h')) : h' = h := by
  unfold f_X7_lying at hf
  by_cases c1 : a4 < 0
  · rw [if_pos c1] at hf
    obtain ⟨rfl, rfl⟩ := am_i2 hf
    exact rfl
  · rw [if_neg c1] at hf
    obtain ⟨r2, h3, e4, hf⟩ := am_b2_ok hf
    have hro := (ro_X7_loadIn a1 a3 h e4).symm
    subst hro
    by_cases c5 : a4 < r2
    · rw [if_pos c5] at hf
      obtain ⟨r6, h7, e8, hf⟩ := am_b2_ok hf
      have hro := (ro_X7_contentIn a1 a3 h e8).symm
      subst hro
      obtain ⟨b9, hf⟩ := am_bis hf
      by_cases c10 : (am_I h 29 (Int32.toNatClampNeg a3)) = (Int32.ofInt 1)
      · rw [if_pos c10] at hf
        exact (u_X7_lying n) a1 a3 a4 r6 (Int32.ofInt 0) (Int32.ofInt 0) (Int32.ofInt 0) h _ _ hf
      · rw [if_neg c10] at hf
        obtain ⟨rfl, rfl⟩ := am_i2 hf
        exact rfl
    · rw [if_neg c5] at hf
      obtain ⟨rfl, rfl⟩ := am_i2 hf
      exact rfl
set_option maxRecDepth 100000 in
set_option maxHeartbeats 4000000 in
theorem u_X7_isBarred (n : Nat) : (∀ (a1 : Int64) (a3 : Int32) (a4 : Int32) (a5 : Int32) (x6i : Int32) (x7i : Int32) (x8i : Int32) (x9i : Int32) (h : am_H) (v : Int32) (h' : am_H), g_X7_isBarred n 0 a1 a3 a4 a5 x6i x7i x8i x9i h = some (v, h') → h' = h) := by
  induction n with
  | zero => exact fun a1 a3 a4 a5 x6i x7i x8i x9i h v h' hf => (by cases hf)
  | succ n ih =>
    skip
    · intro a1 a3 a4 a5 x6i x7i x8i x9i h v h' hf
      have hf : ((if (Int32.ofInt 15) < x9i then bif am_b01 x8i then (some (x8i, h)) else none else (if ((Int32.toUInt32 a4 >>> (Int32.toUInt32 x9i &&& Int32.toUInt32 31)).toInt32) = 0 then bif am_b01 x8i then (some (x8i, h)) else none else (if (((Int32.toUInt32 a4 >>> (Int32.toUInt32 x9i &&& Int32.toUInt32 31)).toInt32) &&& (Int32.ofInt 1)) = 0 then g_X7_isBarred n 0 a1 a3 a4 a5 x6i x7i x8i (x9i + Int32.ofInt 1) h else bif am_vp (((Int32.ofInt 16) * a3) + x9i) 48 then ((if (am_I h 35 (Int32.toNatClampNeg (((Int32.ofInt 16) * a3) + x9i))) = x6i then bif am_vp x6i 6 then (am_b2 (f_X7_canTake (am_I h 29 (Int32.toNatClampNeg x6i)) x7i (am_I h 30 (Int32.toNatClampNeg (((Int32.ofInt 16) * a3) + x9i))) h) fun r9 h10 => ((if r9 = 0 then g_X7_isBarred n 0 a1 a3 a4 a5 x6i x7i (Int32.ofInt 1) (x9i + Int32.ofInt 1) h10 else some ((Int32.ofInt 0), h10)))) else none else g_X7_isBarred n 0 a1 a3 a4 a5 x6i x7i x8i (x9i + Int32.ofInt 1) h)) else none)))) = some (v, h') := hf
      by_cases c1 : (Int32.ofInt 15) < x9i
      · rw [if_pos c1] at hf
        obtain ⟨b2, hf⟩ := am_bis hf
        obtain ⟨rfl, rfl⟩ := am_i2 hf
        exact rfl
      · rw [if_neg c1] at hf
        by_cases c3 : ((Int32.toUInt32 a4 >>> (Int32.toUInt32 x9i &&& Int32.toUInt32 31)).toInt32) = 0
        · rw [if_pos c3] at hf
          obtain ⟨b4, hf⟩ := am_bis hf
          obtain ⟨rfl, rfl⟩ := am_i2 hf
          exact rfl
        · rw [if_neg c3] at hf
          by_cases c5 : (((Int32.toUInt32 a4 >>> (Int32.toUInt32 x9i &&& Int32.toUInt32 31)).toInt32) &&& (Int32.ofInt 1)) = 0
          · rw [if_pos c5] at hf
            exact ih a1 a3 a4 a5 x6i x7i x8i (x9i + Int32.ofInt 1) h _ _ hf
          · rw [if_neg c5] at hf
            obtain ⟨b6, hf⟩ := am_bis hf
            by_cases c7 : (am_I h 35 (Int32.toNatClampNeg (((Int32.ofInt 16) * a3) + x9i))) = x6i
            · rw [if_pos c7] at hf
              obtain ⟨b8, hf⟩ := am_bis hf
              obtain ⟨r9, h10, e11, hf⟩ := am_b2_ok hf
              have hro := (ro_X7_canTake (am_I h 29 (Int32.toNatClampNeg x6i)) x7i (am_I h 30 (Int32.toNatClampNeg (((Int32.ofInt 16) * a3) + x9i))) h e11).symm
              subst hro
              by_cases c12 : r9 = 0
              · rw [if_pos c12] at hf
                exact ih a1 a3 a4 a5 x6i x7i (Int32.ofInt 1) (x9i + Int32.ofInt 1) h _ _ hf
              · rw [if_neg c12] at hf
                obtain ⟨rfl, rfl⟩ := am_i2 hf
                exact rfl
            · rw [if_neg c7] at hf
              exact ih a1 a3 a4 a5 x6i x7i x8i (x9i + Int32.ofInt 1) h _ _ hf
set_option maxRecDepth 100000 in
theorem ro_X7_isBarred (n : Nat) (a1 : Int64) (a3 : Int32) (a4 : Int32) (a5 : Int32) (h : am_H) {v : Int32} {h' : am_H} (hf : f_X7_isBarred n a1 a3 a4 a5 h = some (v, h')) : h' = h := by
  unfold f_X7_isBarred at hf
  obtain ⟨r1, h2, e3, hf⟩ := am_b2_ok hf
  have hro := (ro_X8_postOf a5 a3 h e3).symm
  subst hro
  obtain ⟨r4, h5, e6, hf⟩ := am_b2_ok hf
  have hro := (ro_X7_contentIn a1 r1 h e6).symm
  subst hro
  by_cases c7 : r4 = 0
  · rw [if_pos c7] at hf
    obtain ⟨rfl, rfl⟩ := am_i2 hf
    exact rfl
  · rw [if_neg c7] at hf
    exact (u_X7_isBarred n) a1 a3 a4 a5 r1 r4 (Int32.ofInt 0) (Int32.ofInt 1) h _ _ hf
set_option maxRecDepth 100000 in
theorem ro_X8_act (a1 : Int32) (a2 : Int32) (h : am_H) {v : Int32} {h' : am_H} (hf : f_X8_act a1 a2 h = some (v, h')) : h' = h := by
  unfold f_X8_act at hf
  obtain ⟨r1, h2, e3, hf⟩ := am_b2_ok hf
  have hro := (ro_X8_isBook a1 h e3).symm
  subst hro
  by_cases c4 : r1 = 0
  · rw [if_pos c4] at hf
    obtain ⟨rfl, rfl⟩ := am_i2 hf
    exact rfl
  · rw [if_neg c4] at hf
    by_cases c5 : a2 < (Int32.ofInt 1)
    · rw [if_pos c5] at hf
      obtain ⟨rfl, rfl⟩ := am_i2 hf
      exact rfl
    · rw [if_neg c5] at hf
      obtain ⟨b6, hf⟩ := am_bis hf
      obtain ⟨q7, k8, hf⟩ := am_bnd hf
      obtain ⟨k9, hf⟩ := am_bis hf
      by_cases c10 : a2 ≤ (am_I h q7 0)
      · rw [if_pos c10] at hf
        obtain ⟨q11, k12, hf⟩ := am_bnd hf
        obtain ⟨k13, hf⟩ := am_bis hf
        obtain ⟨q14, k15, hf⟩ := am_bnd hf
        obtain ⟨n16, k17, hf⟩ := am_bnd hf
        obtain ⟨b18, hf⟩ := am_bis hf
        obtain ⟨rfl, rfl⟩ := am_i2 hf
        exact rfl
      · rw [if_neg c10] at hf
        obtain ⟨rfl, rfl⟩ := am_i2 hf
        exact rfl
set_option maxRecDepth 100000 in
theorem ro_X8_follow (a1 : Int32) (a2 : Int32) (h : am_H) {v : Int32} {h' : am_H} (hf : f_X8_follow a1 a2 h = some (v, h')) : h' = h := by
  unfold f_X8_follow at hf
  obtain ⟨r1, h2, e3, hf⟩ := am_b2_ok hf
  have hro := (ro_X8_isBook a1 h e3).symm
  subst hro
  by_cases c4 : r1 = 0
  · rw [if_pos c4] at hf
    obtain ⟨rfl, rfl⟩ := am_i2 hf
    exact rfl
  · rw [if_neg c4] at hf
    by_cases c5 : a2 < 0
    · rw [if_pos c5] at hf
      obtain ⟨rfl, rfl⟩ := am_i2 hf
      exact rfl
    · rw [if_neg c5] at hf
      obtain ⟨b6, hf⟩ := am_bis hf
      obtain ⟨q7, k8, hf⟩ := am_bnd hf
      obtain ⟨k9, hf⟩ := am_bis hf
      by_cases c10 : a2 ≤ (am_I h q7 0)
      · rw [if_pos c10] at hf
        obtain ⟨q11, k12, hf⟩ := am_bnd hf
        obtain ⟨k13, hf⟩ := am_bis hf
        obtain ⟨q14, k15, hf⟩ := am_bnd hf
        obtain ⟨n16, k17, hf⟩ := am_bnd hf
        obtain ⟨b18, hf⟩ := am_bis hf
        obtain ⟨rfl, rfl⟩ := am_i2 hf
        exact rfl
      · rw [if_neg c10] at hf
        obtain ⟨rfl, rfl⟩ := am_i2 hf
        exact rfl
set_option maxRecDepth 100000 in
theorem ro_X8_as (a1 : Int32) (a2 : Int32) (a3 : Int32) (h : am_H) {v : Int32} {h' : am_H} (hf : f_X8_as a1 a2 a3 h = some (v, h')) : h' = h := by
  unfold f_X8_as at hf
  obtain ⟨r1, h2, e3, hf⟩ := am_b2_ok hf
  have hro := (ro_X8_isPost a1 a2 h e3).symm
  subst hro
  by_cases c4 : r1 = 0
  · rw [if_pos c4] at hf
    obtain ⟨rfl, rfl⟩ := am_i2 hf
    exact rfl
  · rw [if_neg c4] at hf
    by_cases c5 : a3 < 0
    · rw [if_pos c5] at hf
      obtain ⟨rfl, rfl⟩ := am_i2 hf
      exact rfl
    · rw [if_neg c5] at hf
      by_cases c6 : a3 < (Int32.ofInt 5)
      · rw [if_pos c6] at hf
        obtain ⟨r7, h8, e9, hf⟩ := am_b2_ok hf
        have hro := (ro_X8_postOf a1 a2 h e9).symm
        subst hro
        obtain ⟨b10, hf⟩ := am_bis hf
        obtain ⟨r11, h12, e13, hf⟩ := am_b2_ok hf
        have hro := (ro_X8_isSuch (am_I h 29 (Int32.toNatClampNeg r7)) a3 h e13).symm
        subst hro
        obtain ⟨y14, j15, hf⟩ := am_bnd hf
        obtain ⟨rfl, rfl⟩ := am_i2 hf
        exact rfl
      · rw [if_neg c6] at hf
        obtain ⟨rfl, rfl⟩ := am_i2 hf
        exact rfl
set_option maxRecDepth 100000 in
theorem ro_X8_at (a1 : Int32) (h : am_H) {v : Int32} {h' : am_H} (hf : f_X8_at a1 h = some (v, h')) : h' = h := by
  unfold f_X8_at at hf
  obtain ⟨r1, h2, e3, hf⟩ := am_b2_ok hf
  have hro := (ro_X8_isOffice a1 h e3).symm
  subst hro
  by_cases c4 : r1 = 0
  · rw [if_pos c4] at hf
    obtain ⟨rfl, rfl⟩ := am_i2 hf
    exact rfl
  · rw [if_neg c4] at hf
    obtain ⟨b5, hf⟩ := am_bis hf
    obtain ⟨y6, h7, j8, hf⟩ := am_b2_ok hf
    have hro : h = h7 := by
      by_cases c9 : (am_I h 27 (Int32.toNatClampNeg a1)) = (Int32.ofInt (-1))
      · rw [if_pos c9] at j8
        obtain ⟨rfl, rfl⟩ := am_i2 j8
        exact rfl
      · rw [if_neg c9] at j8
        obtain ⟨r10, h11, e12, j8⟩ := am_b2_ok j8
        have hro := (ro_X7_placeIn (am_J h 0 10) a1 h e12).symm
        subst hro
        obtain ⟨rfl, rfl⟩ := am_i2 j8
        exact rfl
    subst hro
    obtain ⟨rfl, rfl⟩ := am_i2 hf
    exact rfl
set_option maxRecDepth 100000 in
theorem ro_X8_lies (n : Nat) (a1 : Int32) (a2 : Int32) (a3 : Int32) (h : am_H) {v : Int32} {h' : am_H} (hf : f_X8_lies n a1 a2 a3 h = some (v, h')) : h' = h := by
  unfold f_X8_lies at hf
  obtain ⟨r1, h2, e3, hf⟩ := am_b2_ok hf
  have hro := (ro_X8_isPost a1 a2 h e3).symm
  subst hro
  by_cases c4 : r1 = 0
  · rw [if_pos c4] at hf
    obtain ⟨rfl, rfl⟩ := am_i2 hf
    exact rfl
  · rw [if_neg c4] at hf
    obtain ⟨r5, h6, e7, hf⟩ := am_b2_ok hf
    have hro := (ro_X8_postOf a1 a2 h e7).symm
    subst hro
    obtain ⟨r8, h9, e10, hf⟩ := am_b2_ok hf
    have hro := (ro_X7_lying n (am_J h 0 10) r5 a3 h e10).symm
    subst hro
    obtain ⟨rfl, rfl⟩ := am_i2 hf
    exact rfl
set_option maxRecDepth 100000 in
theorem ro_X8_count (n : Nat) (a1 : Int32) (h : am_H) {v : Int32} {h' : am_H} (hf : f_X8_count n a1 h = some (v, h')) : h' = h := by
  unfold f_X8_count at hf
  by_cases c1 : a1 = Int32.ofInt 0
  · rw [if_pos c1] at hf
    obtain ⟨rfl, rfl⟩ := am_i2 hf
    exact rfl
  rw [if_neg c1] at hf
  by_cases c2 : a1 = Int32.ofInt 1
  · rw [if_pos c2] at hf
    obtain ⟨rfl, rfl⟩ := am_i2 hf
    exact rfl
  rw [if_neg c2] at hf
  by_cases c3 : a1 = Int32.ofInt 2
  · rw [if_pos c3] at hf
    obtain ⟨rfl, rfl⟩ := am_i2 hf
    exact rfl
  rw [if_neg c3] at hf
  by_cases c4 : a1 = Int32.ofInt 3
  · rw [if_pos c4] at hf
    obtain ⟨rfl, rfl⟩ := am_i2 hf
    exact rfl
  rw [if_neg c4] at hf
  by_cases c5 : a1 = Int32.ofInt 4
  · rw [if_pos c5] at hf
    obtain ⟨r6, h7, e8, hf⟩ := am_b2_ok hf
    have hro := (ro_X7_lyingInAll n (am_J h 0 10) h e8).symm
    subst hro
    obtain ⟨rfl, rfl⟩ := am_i2 hf
    exact rfl
  rw [if_neg c5] at hf
  by_cases c9 : a1 = Int32.ofInt 5
  · rw [if_pos c9] at hf
    obtain ⟨rfl, rfl⟩ := am_i2 hf
    exact rfl
  rw [if_neg c9] at hf
  obtain ⟨rfl, rfl⟩ := am_i2 hf
  exact rfl
set_option maxRecDepth 100000 in
set_option maxHeartbeats 4000000 in
theorem u_X8_withPost (n : Nat) : (∀ (a1 : Int64) (a3 : Int32) (x4j : Int64) (x6i : Int32) (x7i : Int32) (h : am_H) (v : Int64) (h' : am_H), g_X8_withPost n 0 a1 a3 x4j x6i x7i h = some (v, h') → h' = h) := by
  induction n with
  | zero => exact fun a1 a3 x4j x6i x7i h v h' hf => (by cases hf)
  | succ n ih =>
    skip
    · intro a1 a3 x4j x6i x7i h v h' hf
      have hf : ((if x6i ≤ x7i then some (x4j, h) else am_b2 (f_X7_lying n (am_J h 0 10) a3 x7i h) fun r2 h3 => (am_b2 (f_X8_with x4j (Int32.toInt64 r2) h3) fun r5 h6 => (g_X8_withPost n 0 a1 a3 r5 x6i (x7i + Int32.ofInt 1) h6)))) = some (v, h') := hf
      by_cases c1 : x6i ≤ x7i
      · rw [if_pos c1] at hf
        obtain ⟨rfl, rfl⟩ := am_i2 hf
        exact rfl
      · rw [if_neg c1] at hf
        obtain ⟨r2, h3, e4, hf⟩ := am_b2_ok hf
        have hro := (ro_X7_lying n (am_J h 0 10) a3 x7i h e4).symm
        subst hro
        obtain ⟨r5, h6, e7, hf⟩ := am_b2_ok hf
        have hro := (ro_X8_with x4j (Int32.toInt64 r2) h e7).symm
        subst hro
        exact ih a1 a3 r5 x6i (x7i + Int32.ofInt 1) h _ _ hf
set_option maxRecDepth 100000 in
theorem ro_X8_withPost (n : Nat) (a1 : Int64) (a3 : Int32) (h : am_H) {v : Int64} {h' : am_H} (hf : f_X8_withPost n a1 a3 h = some (v, h')) : h' = h := by
  unfold f_X8_withPost at hf
  obtain ⟨b1, hf⟩ := am_bis hf
  obtain ⟨r2, h3, e4, hf⟩ := am_b2_ok hf
  have hro := (ro_X8_with a1 (Int32.toInt64 (am_I h 29 (Int32.toNatClampNeg a3))) h e4).symm
  subst hro
  obtain ⟨r5, h6, e7, hf⟩ := am_b2_ok hf
  have hro := (ro_X7_loadIn (am_J h 0 10) a3 h e7).symm
  subst hro
  exact (u_X8_withPost n) a1 a3 r2 r5 (Int32.ofInt 0) h _ _ hf
set_option maxRecDepth 100000 in
set_option maxHeartbeats 4000000 in
theorem u_X6_fullest (n : Nat) : (∀ (o : Nat) (a2 : Int32) (x3i : Int32) (x4i : Int32) (h : am_H) (v : Int32) (h' : am_H), g_X6_fullest n 0 o a2 x3i x4i h = some (v, h') → h' = h) := by
  induction n with
  | zero => exact fun o a2 x3i x4i h v h' hf => (by cases hf)
  | succ n ih =>
    skip
    · intro o a2 x3i x4i h v h' hf
      have hf : ((if (am_I h o 0) ≤ x4i then some (x3i, h) else bif am_vp x4i 2000 then (am_b2 (f_X7_loadIn (am_J h (o + 3) (Int32.toNatClampNeg x4i)) a2 h) fun r3 h4 => (g_X6_fullest n 0 o a2 (if x3i < r3 then r3 else x3i) (x4i + Int32.ofInt 1) h4)) else none)) = some (v, h') := hf
      by_cases c1 : (am_I h o 0) ≤ x4i
      · rw [if_pos c1] at hf
        obtain ⟨rfl, rfl⟩ := am_i2 hf
        exact rfl
      · rw [if_neg c1] at hf
        obtain ⟨b2, hf⟩ := am_bis hf
        obtain ⟨r3, h4, e5, hf⟩ := am_b2_ok hf
        have hro := (ro_X7_loadIn (am_J h (o + 3) (Int32.toNatClampNeg x4i)) a2 h e5).symm
        subst hro
        exact ih o a2 (if x3i < r3 then r3 else x3i) (x4i + Int32.ofInt 1) h _ _ hf
set_option maxRecDepth 100000 in
theorem ro_X6_fullest (n : Nat) (o : Nat) (a2 : Int32) (h : am_H) {v : Int32} {h' : am_H} (hf : f_X6_fullest n o a2 h = some (v, h')) : h' = h := by
  unfold f_X6_fullest at hf
  exact (u_X6_fullest n) o a2 (Int32.ofInt 0) (Int32.ofInt 0) h _ _ hf
set_option maxRecDepth 100000 in
set_option maxHeartbeats 4000000 in
theorem u_X7_marks (n : Nat) : (∀ (a1 : Int64) (a3 : Int32) (x4i : Int32) (x5i : Int32) (x6i : Int32) (h : am_H) (v : Int32) (h' : am_H), g_X7_marks n 0 a1 a3 x4i x5i x6i h = some (v, h') → h' = h) := by
  induction n with
  | zero => exact fun a1 a3 x4i x5i x6i h v h' hf => (by cases hf)
  | succ n ih =>
    skip
    · intro a1 a3 x4i x5i x6i h v h' hf
      have hf : ((if (Int32.ofInt 3) ≤ x6i then Option.bind ((if (lg_cmp ((Int64.toUInt64 a1 >>> ((Int32.toInt64 (Int32.ofInt 12)).toUInt64 &&& Int64.toUInt64 63)).toInt64) (Int64.ofNat (0 : Fin 2).val)) = 0 then some (Int32.ofInt 1) else some (Int32.ofInt 0))) fun y2 => (am_let ((if a3 ≤ 0 then Option.bind ((if x4i = 0 then some (Int32.ofInt 1) else some (Int32.ofInt 2))) fun y59 => (some ((x5i ||| y59), h)) else some (x5i, h))) fun b55 => ((if x4i = 0 then b55 else (if y2 = 0 then b55 else some ((x5i ||| (Int32.ofInt 16)), h))))) else bif am_vp x6i 3 then (am_b3 ((if (am_I h 33 (Int32.toNatClampNeg x6i)) = 0 then some (x4i, x5i, h) else am_b2 (f_X7_mayAt a1 x6i h) fun r120 h121 => (Option.bind ((if (r120 &&& ((am_I h121 36 (Int32.toNatClampNeg x6i)) ^^^ (Int32.ofInt (-1)))) = 0 then some (Int32.ofInt 1) else some (Int32.ofInt 0))) fun y123 => (am_b2 ((if y123 = 0 then some ((Int32.ofInt 0), h121) else am_b2 (f_X7_isBarred n a1 x6i r120 ((x6i + (Int32.ofInt 1)) - (x6i + (Int32.ofInt 1)) / (Int32.ofInt 3) * (Int32.ofInt 3)) h121) fun r180 h181 => ((if r180 = 0 then am_b2 (f_X7_isBarred n a1 x6i r120 ((x6i + (Int32.ofInt 2)) - (x6i + (Int32.ofInt 2)) / (Int32.ofInt 3) * (Int32.ofInt 3)) h181) fun r184 h185 => ((if r184 = 0 then some ((Int32.ofInt 0), h185) else some ((Int32.ofInt 1), h185))) else some ((Int32.ofInt 1), h181))))) fun y176 h177 => (Option.bind ((if (r120 &&& (Int32.ofInt 1)) = 0 then some (Int32.ofInt 0) else some (Int32.ofInt 1))) fun y238 => (Option.bind ((if y176 = 0 then some (Int32.ofInt 0) else some (Int32.ofInt 4))) fun y291 => (some ((x4i &&& y238), (x5i ||| y291), h177)))))))) fun y115 y116 h117 => (g_X7_marks n 0 a1 a3 y115 y116 (x6i + Int32.ofInt 1) h117)) else none)) = some (v, h') := hf
      by_cases c1 : (Int32.ofInt 3) ≤ x6i
      · rw [if_pos c1] at hf
        obtain ⟨y2, j3, hf⟩ := am_bnd hf
        obtain ⟨b55, k56, hf⟩ := am_let_ok hf
        refine am_cut (P := ((if a3 ≤ 0 then Option.bind ((if x4i = 0 then some (Int32.ofInt 1) else some (Int32.ofInt 2))) fun y59 => (some ((x5i ||| y59), h)) else some (x5i, h))) = some (v, h') → h' = h) (fun B57 => ?_) ?_
        · skip
          by_cases c58 : x4i = 0
          · rw [if_pos c58] at hf
            exact B57 (k56.symm.trans hf)
          · rw [if_neg c58] at hf
            by_cases c59 : y2 = 0
            · rw [if_pos c59] at hf
              exact B57 (k56.symm.trans hf)
            · rw [if_neg c59] at hf
              obtain ⟨rfl, rfl⟩ := am_i2 hf
              exact rfl
        intro hf
        by_cases c60 : a3 ≤ 0
        · rw [if_pos c60] at hf
          obtain ⟨y61, j62, hf⟩ := am_bnd hf
          obtain ⟨rfl, rfl⟩ := am_i2 hf
          exact rfl
        · rw [if_neg c60] at hf
          obtain ⟨rfl, rfl⟩ := am_i2 hf
          exact rfl
      · rw [if_neg c1] at hf
        obtain ⟨b114, hf⟩ := am_bis hf
        obtain ⟨y115, y116, h117, j118, hf⟩ := am_b3_ok hf
        have hro : h = h117 := by
          by_cases c119 : (am_I h 33 (Int32.toNatClampNeg x6i)) = 0
          · rw [if_pos c119] at j118
            obtain ⟨rfl, rfl, rfl⟩ := am_i3 j118
            exact rfl
          · rw [if_neg c119] at j118
            obtain ⟨r120, h121, e122, j118⟩ := am_b2_ok j118
            have hro := (ro_X7_mayAt a1 x6i h e122).symm
            subst hro
            obtain ⟨y123, j124, j118⟩ := am_bnd j118
            obtain ⟨y176, h177, j178, j118⟩ := am_b2_ok j118
            have hro : h = h177 := by
              by_cases c179 : y123 = 0
              · rw [if_pos c179] at j178
                obtain ⟨rfl, rfl⟩ := am_i2 j178
                exact rfl
              · rw [if_neg c179] at j178
                obtain ⟨r180, h181, e182, j178⟩ := am_b2_ok j178
                have hro := (ro_X7_isBarred n a1 x6i r120 ((x6i + (Int32.ofInt 1)) - (x6i + (Int32.ofInt 1)) / (Int32.ofInt 3) * (Int32.ofInt 3)) h e182).symm
                subst hro
                by_cases c183 : r180 = 0
                · rw [if_pos c183] at j178
                  obtain ⟨r184, h185, e186, j178⟩ := am_b2_ok j178
                  have hro := (ro_X7_isBarred n a1 x6i r120 ((x6i + (Int32.ofInt 2)) - (x6i + (Int32.ofInt 2)) / (Int32.ofInt 3) * (Int32.ofInt 3)) h e186).symm
                  subst hro
                  by_cases c187 : r184 = 0
                  · rw [if_pos c187] at j178
                    obtain ⟨rfl, rfl⟩ := am_i2 j178
                    exact rfl
                  · rw [if_neg c187] at j178
                    obtain ⟨rfl, rfl⟩ := am_i2 j178
                    exact rfl
                · rw [if_neg c183] at j178
                  obtain ⟨rfl, rfl⟩ := am_i2 j178
                  exact rfl
            subst hro
            obtain ⟨y238, j239, j118⟩ := am_bnd j118
            obtain ⟨y291, j292, j118⟩ := am_bnd j118
            obtain ⟨rfl, rfl, rfl⟩ := am_i3 j118
            exact rfl
        subst hro
        exact ih a1 a3 y115 y116 (x6i + Int32.ofInt 1) h _ _ hf
set_option maxRecDepth 100000 in
theorem ro_X7_marks (n : Nat) (a1 : Int64) (a3 : Int32) (h : am_H) {v : Int32} {h' : am_H} (hf : f_X7_marks n a1 a3 h = some (v, h')) : h' = h := by
  unfold f_X7_marks at hf
  exact (u_X7_marks n) a1 a3 (Int32.ofInt 1) (Int32.ofInt 0) (Int32.ofInt 0) h _ _ hf
