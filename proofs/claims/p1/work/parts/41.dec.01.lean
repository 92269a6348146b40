def g_X0_endings : Nat → Nat → Nat → Int32 → Int32 → am_H → Option (Int32 × am_H)
  | 0, _, _, _, _, _ => none
  | n + 1, _, o, x1i, x2i, h => bif am_isO h o 0 then ((if (am_I h o 0) < x2i then some (x1i, h) else (am_A h o 2).bind fun q3 => ((am_ln h 0 q3).bind fun n5 => (bif am_vp x2i n5 then (g_X0_endings n 0 o (x1i + ((am_I h q3 (Int32.toNatClampNeg x2i)) &&& (Int32.ofInt 1))) (x2i + Int32.ofInt 1) h) else none)))) else none
set_option maxRecDepth 100000 in
set_option maxHeartbeats 4000000 in
theorem m_X0_endings (n : Nat) : (∀ (o : Nat) (x1i : Int32) (x2i : Int32) (h : am_H) (v : Int32) (h' : am_H), am_stat h → g_X0_endings n 0 o x1i x2i h = some (v, h') → am_stat h') := by
  induction n with
  | zero => exact fun o x1i x2i h v h' hs hf => (by cases hf)
  | succ n ih =>
    skip
    · intro o x1i x2i h v h' hs hf
      have hf : (bif am_isO h o 0 then ((if (am_I h o 0) < x2i then some (x1i, h) else (am_A h o 2).bind fun q3 => ((am_ln h 0 q3).bind fun n5 => (bif am_vp x2i n5 then (g_X0_endings n 0 o (x1i + ((am_I h q3 (Int32.toNatClampNeg x2i)) &&& (Int32.ofInt 1))) (x2i + Int32.ofInt 1) h) else none)))) else none) = some (v, h') := hf
      obtain ⟨k1, hf⟩ := am_bis hf
      by_cases c2 : (am_I h o 0) < x2i
      · rw [if_pos c2] at hf
        obtain ⟨rfl, rfl⟩ := am_i2 hf
        exact hs
      · rw [if_neg c2] at hf
        obtain ⟨q3, k4, hf⟩ := am_bnd hf
        obtain ⟨n5, k6, hf⟩ := am_bnd hf
        obtain ⟨b7, hf⟩ := am_bis hf
        exact ih o (x1i + ((am_I h q3 (Int32.toNatClampNeg x2i)) &&& (Int32.ofInt 1))) (x2i + Int32.ofInt 1) h _ _ hs hf
set_option maxRecDepth 100000 in
set_option maxHeartbeats 4000000 in
theorem l_X0_endings (n : Nat) : (∀ (o : Nat) (x1i : Int32) (x2i : Int32) (h : am_H) (v : Int32) (h' : am_H), am_stat h → g_X0_endings n 0 o x1i x2i h = some (v, h') → AW mX0_endings (rX0_endings 0 0) (fun r h2 => r = some (.int v) ∧ h2 = h') 4 [(0, .ref o), (1, .int x1i), (2, .int x2i)] [] h 0 0) := by
  induction n with
  | zero => exact fun o x1i x2i h v h' hs hf => (by cases hf)
  | succ n ih =>
    skip
    · intro o x1i x2i h v h' hs hf
      have hf : (bif am_isO h o 0 then ((if (am_I h o 0) < x2i then some (x1i, h) else (am_A h o 2).bind fun q3 => ((am_ln h 0 q3).bind fun n5 => (bif am_vp x2i n5 then (g_X0_endings n 0 o (x1i + ((am_I h q3 (Int32.toNatClampNeg x2i)) &&& (Int32.ofInt 1))) (x2i + Int32.ofInt 1) h) else none)))) else none) = some (v, h') := hf
      obtain ⟨k1, hf⟩ := am_bis hf
      refine AW_go okX0_endings 4 ?_
      refine And.intro (am_isO_ok k1) ?_
      refine And.intro (fun c2 => ?_) (fun c2 => ?_)
      · rw [if_pos c2] at hf
        refine AW_go okX0_endings 2 ?_
        obtain ⟨rfl, rfl⟩ := am_i2 hf
        exact And.intro ⟨(Nat.le_of_ble_eq_true rfl), (Nat.le_of_ble_eq_true rfl)⟩ (And.intro (Or.inl rfl) ⟨rfl, rfl⟩)
      · rw [if_neg c2] at hf
        obtain ⟨q3, k4, hf⟩ := am_bnd hf
        obtain ⟨n5, k6, hf⟩ := am_bnd hf
        obtain ⟨b7, hf⟩ := am_bis hf
        refine AW_go okX0_endings 11 ?_
        refine And.intro (am_isO_ok k1) (Exists.intro (some q3) (And.intro k4 ?_))
        refine Exists.intro n5 (And.intro (am_ln_ok k6) (And.intro (am_vp_ok b7) ?_))
        refine AW_pick (lv' := [(0, .ref o), (1, .int (x1i + ((am_I h q3 (Int32.toNatClampNeg x2i)) &&& (Int32.ofInt 1)))), (2, .int (x2i + Int32.ofInt 1))]) [2, 1, 0] rfl ?_
        exact ih o (x1i + ((am_I h q3 (Int32.toNatClampNeg x2i)) &&& (Int32.ofInt 1))) (x2i + Int32.ofInt 1) h _ _ hs hf
def f_X0_endings (n : Nat) (o : Nat) (h : am_H) : Option (Int32 × am_H) := g_X0_endings n 0 o (Int32.ofInt 0) (Int32.ofInt 0) h
set_option maxRecDepth 100000 in
theorem s_X0_endings (n : Nat) (o : Nat) (h : am_H) (hs : am_stat h) {v : Int32} {h' : am_H} (hf : f_X0_endings n o h = some (v, h')) : am_stat h' := by
  unfold f_X0_endings at hf
  exact (m_X0_endings n) o (Int32.ofInt 0) (Int32.ofInt 0) h _ _ hs hf
set_option maxRecDepth 100000 in
theorem c_X0_endings (n : Nat) (o : Nat) (h : am_H) (hs : am_stat h) {v : Int32} {h' : am_H} (hf : f_X0_endings n o h = some (v, h')) : AMet mX0_endings (rX0_endings 0 0) (fun r h2 => r = some (.int v) ∧ h2 = h') [.ref o] h := by
  unfold f_X0_endings at hf
  refine AW_go okX0_endings 4 ?_
  refine AW_pick (lv' := [(0, .ref o), (1, .int (Int32.ofInt 0)), (2, .int (Int32.ofInt 0))]) [2, 1, 0] rfl ?_
  exact (l_X0_endings n) o (Int32.ofInt 0) (Int32.ofInt 0) h _ _ hs hf
def g_X0_names : Nat → Nat → Nat → Int32 → Int32 → am_H → Option (Int32 × am_H)
  | 0, _, _, _, _, _ => none
  | n + 1, _, o, a1, x2i, h => bif am_isO h o 0 then ((if (am_I h o 0) < x2i then some ((Int32.ofInt 0), h) else (am_A h o 1).bind fun q3 => ((am_ln h 0 q3).bind fun n5 => (bif am_vp x2i n5 then ((if (((am_I h q3 (Int32.toNatClampNeg x2i)) / (Int32.ofInt 10)) - ((am_I h q3 (Int32.toNatClampNeg x2i)) / (Int32.ofInt 10)) / (Int32.ofInt 10) * (Int32.ofInt 10)) = a1 then some ((Int32.ofInt 1), h) else g_X0_names n 0 o a1 (x2i + Int32.ofInt 1) h)) else none)))) else none
set_option maxRecDepth 100000 in
set_option maxHeartbeats 4000000 in
theorem m_X0_names (n : Nat) : (∀ (o : Nat) (a1 : Int32) (x2i : Int32) (h : am_H) (v : Int32) (h' : am_H), am_stat h → g_X0_names n 0 o a1 x2i h = some (v, h') → am_stat h') := by
  induction n with
  | zero => exact fun o a1 x2i h v h' hs hf => (by cases hf)
  | succ n ih =>
    skip
    · intro o a1 x2i h v h' hs hf
      have hf : (bif am_isO h o 0 then ((if (am_I h o 0) < x2i then some ((Int32.ofInt 0), h) else (am_A h o 1).bind fun q3 => ((am_ln h 0 q3).bind fun n5 => (bif am_vp x2i n5 then ((if (((am_I h q3 (Int32.toNatClampNeg x2i)) / (Int32.ofInt 10)) - ((am_I h q3 (Int32.toNatClampNeg x2i)) / (Int32.ofInt 10)) / (Int32.ofInt 10) * (Int32.ofInt 10)) = a1 then some ((Int32.ofInt 1), h) else g_X0_names n 0 o a1 (x2i + Int32.ofInt 1) h)) else none)))) else none) = some (v, h') := hf
      obtain ⟨k1, hf⟩ := am_bis hf
      by_cases c2 : (am_I h o 0) < x2i
      · rw [if_pos c2] at hf
        obtain ⟨rfl, rfl⟩ := am_i2 hf
        exact hs
      · rw [if_neg c2] at hf
        obtain ⟨q3, k4, hf⟩ := am_bnd hf
        obtain ⟨n5, k6, hf⟩ := am_bnd hf
        obtain ⟨b7, hf⟩ := am_bis hf
        by_cases c8 : (((am_I h q3 (Int32.toNatClampNeg x2i)) / (Int32.ofInt 10)) - ((am_I h q3 (Int32.toNatClampNeg x2i)) / (Int32.ofInt 10)) / (Int32.ofInt 10) * (Int32.ofInt 10)) = a1
        · rw [if_pos c8] at hf
          obtain ⟨rfl, rfl⟩ := am_i2 hf
          exact hs
        · rw [if_neg c8] at hf
          exact ih o a1 (x2i + Int32.ofInt 1) h _ _ hs hf
set_option maxRecDepth 100000 in
set_option maxHeartbeats 4000000 in
theorem l_X0_names (n : Nat) : (∀ (o : Nat) (a1 : Int32) (x2i : Int32) (h : am_H) (v : Int32) (h' : am_H), am_stat h → g_X0_names n 0 o a1 x2i h = some (v, h') → AW mX0_names (rX0_names 0 0) (fun r h2 => r = some (.int v) ∧ h2 = h') 2 [(0, .ref o), (1, .int a1), (2, .int x2i)] [] h 0 0) := by
  induction n with
  | zero => exact fun o a1 x2i h v h' hs hf => (by cases hf)
  | succ n ih =>
    skip
    · intro o a1 x2i h v h' hs hf
      have hf : (bif am_isO h o 0 then ((if (am_I h o 0) < x2i then some ((Int32.ofInt 0), h) else (am_A h o 1).bind fun q3 => ((am_ln h 0 q3).bind fun n5 => (bif am_vp x2i n5 then ((if (((am_I h q3 (Int32.toNatClampNeg x2i)) / (Int32.ofInt 10)) - ((am_I h q3 (Int32.toNatClampNeg x2i)) / (Int32.ofInt 10)) / (Int32.ofInt 10) * (Int32.ofInt 10)) = a1 then some ((Int32.ofInt 1), h) else g_X0_names n 0 o a1 (x2i + Int32.ofInt 1) h)) else none)))) else none) = some (v, h') := hf
      obtain ⟨k1, hf⟩ := am_bis hf
      refine AW_go okX0_names 4 ?_
      refine And.intro (am_isO_ok k1) ?_
      refine And.intro (fun c2 => ?_) (fun c2 => ?_)
      · rw [if_pos c2] at hf
        refine AW_go okX0_names 2 ?_
        obtain ⟨rfl, rfl⟩ := am_i2 hf
        exact And.intro ⟨(Nat.le_of_ble_eq_true rfl), (Nat.le_of_ble_eq_true rfl)⟩ (And.intro (Or.inr ⟨rfl, Or.inl rfl⟩) ⟨rfl, rfl⟩)
      · rw [if_neg c2] at hf
        obtain ⟨q3, k4, hf⟩ := am_bnd hf
        obtain ⟨n5, k6, hf⟩ := am_bnd hf
        obtain ⟨b7, hf⟩ := am_bis hf
        refine AW_go okX0_names 10 ?_
        refine And.intro (am_isO_ok k1) (Exists.intro (some q3) (And.intro k4 ?_))
        refine Exists.intro n5 (And.intro (am_ln_ok k6) (And.intro (am_vp_ok b7) ?_))
        refine And.intro (by decide) ?_
        refine And.intro (by decide) ?_
        refine And.intro (fun c8 => ?_) (fun c8 => ?_)
        · rw [if_neg c8] at hf
          refine AW_go okX0_names 2 ?_
          refine AW_pick (lv' := [(0, .ref o), (1, .int a1), (2, .int (x2i + Int32.ofInt 1))]) [1, 2, 0] rfl ?_
          exact ih o a1 (x2i + Int32.ofInt 1) h _ _ hs hf
        · rw [if_pos c8] at hf
          refine AW_go okX0_names 2 ?_
          obtain ⟨rfl, rfl⟩ := am_i2 hf
          exact And.intro ⟨(Nat.le_of_ble_eq_true rfl), (Nat.le_of_ble_eq_true rfl)⟩ (And.intro (Or.inr ⟨rfl, Or.inr rfl⟩) ⟨rfl, rfl⟩)
def f_X0_names (n : Nat) (o : Nat) (a1 : Int32) (h : am_H) : Option (Int32 × am_H) := g_X0_names n 0 o a1 (Int32.ofInt 1) h
set_option maxRecDepth 100000 in
theorem s_X0_names (n : Nat) (o : Nat) (a1 : Int32) (h : am_H) (hs : am_stat h) {v : Int32} {h' : am_H} (hf : f_X0_names n o a1 h = some (v, h')) : am_stat h' := by
  unfold f_X0_names at hf
  exact (m_X0_names n) o a1 (Int32.ofInt 1) h _ _ hs hf
set_option maxRecDepth 100000 in
theorem c_X0_names (n : Nat) (o : Nat) (a1 : Int32) (h : am_H) (hs : am_stat h) {v : Int32} {h' : am_H} (hf : f_X0_names n o a1 h = some (v, h')) : AMet mX0_names (rX0_names 0 0) (fun r h2 => r = some (.int v) ∧ h2 = h') [.ref o, .int a1] h := by
  unfold f_X0_names at hf
  refine AW_go okX0_names 2 ?_
  refine AW_pick (lv' := [(0, .ref o), (1, .int a1), (2, .int (Int32.ofInt 1))]) [1, 2, 0] rfl ?_
  exact (l_X0_names n) o a1 (Int32.ofInt 1) h _ _ hs hf
def g_X1_length : Nat → Nat → Int32 → Int32 → am_H → Option (Int32 × am_H)
  | 0, _, _, _, _ => none
  | n + 1, _, x1i, x2i, h => (if x2i ≤ 0 then some (x1i, h) else (if (am_I h 19 4) ≤ x1i then some (x1i, h) else (am_A h 19 9).bind fun q3 => ((am_ln h 0 q3).bind fun n5 => (bif am_vp x2i n5 then (g_X1_length n 0 (x1i + Int32.ofInt 1) (am_I h q3 (Int32.toNatClampNeg x2i)) h) else none))))
set_option maxRecDepth 100000 in
set_option maxHeartbeats 4000000 in
theorem m_X1_length (n : Nat) : (∀ (x1i : Int32) (x2i : Int32) (h : am_H) (v : Int32) (h' : am_H), am_stat h → g_X1_length n 0 x1i x2i h = some (v, h') → am_stat h') := by
  induction n with
  | zero => exact fun x1i x2i h v h' hs hf => (by cases hf)
  | succ n ih =>
    skip
    · intro x1i x2i h v h' hs hf
      have hf : ((if x2i ≤ 0 then some (x1i, h) else (if (am_I h 19 4) ≤ x1i then some (x1i, h) else (am_A h 19 9).bind fun q3 => ((am_ln h 0 q3).bind fun n5 => (bif am_vp x2i n5 then (g_X1_length n 0 (x1i + Int32.ofInt 1) (am_I h q3 (Int32.toNatClampNeg x2i)) h) else none))))) = some (v, h') := hf
      by_cases c1 : x2i ≤ 0
      · rw [if_pos c1] at hf
        obtain ⟨rfl, rfl⟩ := am_i2 hf
        exact hs
      · rw [if_neg c1] at hf
        by_cases c2 : (am_I h 19 4) ≤ x1i
        · rw [if_pos c2] at hf
          obtain ⟨rfl, rfl⟩ := am_i2 hf
          exact hs
        · rw [if_neg c2] at hf
          obtain ⟨q3, k4, hf⟩ := am_bnd hf
          obtain ⟨n5, k6, hf⟩ := am_bnd hf
          obtain ⟨b7, hf⟩ := am_bis hf
          exact ih (x1i + Int32.ofInt 1) (am_I h q3 (Int32.toNatClampNeg x2i)) h _ _ hs hf
set_option maxRecDepth 100000 in
set_option maxHeartbeats 4000000 in
theorem l_X1_length (n : Nat) : (∀ (x1i : Int32) (x2i : Int32) (h : am_H) (v : Int32) (h' : am_H), am_stat h → g_X1_length n 0 x1i x2i h = some (v, h') → AW mX1_length (rX1_length 0 0) (fun r h2 => r = some (.int v) ∧ h2 = h') 7 [(0, .ref 19), (1, .int x1i), (2, .int x2i)] [] h 0 0) := by
  induction n with
  | zero => exact fun x1i x2i h v h' hs hf => (by cases hf)
  | succ n ih =>
    skip
    · intro x1i x2i h v h' hs hf
      have hf : ((if x2i ≤ 0 then some (x1i, h) else (if (am_I h 19 4) ≤ x1i then some (x1i, h) else (am_A h 19 9).bind fun q3 => ((am_ln h 0 q3).bind fun n5 => (bif am_vp x2i n5 then (g_X1_length n 0 (x1i + Int32.ofInt 1) (am_I h q3 (Int32.toNatClampNeg x2i)) h) else none))))) = some (v, h') := hf
      refine AW_go okX1_length 2 ?_
      refine And.intro (fun c1 => ?_) (fun c1 => ?_)
      · rw [if_pos c1] at hf
        refine AW_go okX1_length 2 ?_
        obtain ⟨rfl, rfl⟩ := am_i2 hf
        exact And.intro ⟨(Nat.le_of_ble_eq_true rfl), (Nat.le_of_ble_eq_true rfl)⟩ (And.intro (Or.inl rfl) ⟨rfl, rfl⟩)
      · rw [if_neg c1] at hf
        refine AW_go okX1_length 4 ?_
        refine And.intro (sK hs 19) ?_
        refine And.intro (fun c2 => ?_) (fun c2 => ?_)
        · rw [if_pos c2] at hf
          refine AW_go okX1_length 2 ?_
          obtain ⟨rfl, rfl⟩ := am_i2 hf
          exact And.intro ⟨(Nat.le_of_ble_eq_true rfl), (Nat.le_of_ble_eq_true rfl)⟩ (And.intro (Or.inl rfl) ⟨rfl, rfl⟩)
        · rw [if_neg c2] at hf
          obtain ⟨q3, k4, hf⟩ := am_bnd hf
          obtain ⟨n5, k6, hf⟩ := am_bnd hf
          obtain ⟨b7, hf⟩ := am_bis hf
          refine AW_go okX1_length 7 ?_
          refine And.intro (sK hs 19) (Exists.intro (some q3) (And.intro k4 ?_))
          refine Exists.intro n5 (And.intro (am_ln_ok k6) (And.intro (am_vp_ok b7) ?_))
          refine AW_pick (lv' := [(0, .ref 19), (1, .int (x1i + Int32.ofInt 1)), (2, .int (am_I h q3 (Int32.toNatClampNeg x2i)))]) [2, 1, 0] rfl ?_
          exact ih (x1i + Int32.ofInt 1) (am_I h q3 (Int32.toNatClampNeg x2i)) h _ _ hs hf
def f_X1_length (n : Nat) (h : am_H) : Option (Int32 × am_H) := g_X1_length n 0 (Int32.ofInt 0) (am_I h 19 5) h
set_option maxRecDepth 100000 in
theorem s_X1_length (n : Nat) (h : am_H) (hs : am_stat h) {v : Int32} {h' : am_H} (hf : f_X1_length n h = some (v, h')) : am_stat h' := by
  unfold f_X1_length at hf
  exact (m_X1_length n) (Int32.ofInt 0) (am_I h 19 5) h _ _ hs hf
set_option maxRecDepth 100000 in
theorem c_X1_length (n : Nat) (h : am_H) (hs : am_stat h) {v : Int32} {h' : am_H} (hf : f_X1_length n h = some (v, h')) : AMet mX1_length (rX1_length 0 0) (fun r h2 => r = some (.int v) ∧ h2 = h') [.ref 19] h := by
  unfold f_X1_length at hf
  refine AW_go okX1_length 5 ?_
  refine And.intro (sK hs 19) ?_
  refine AW_pick (lv' := [(0, .ref 19), (1, .int (Int32.ofInt 0)), (2, .int (am_I h 19 5))]) [2, 1, 0] rfl ?_
  exact (l_X1_length n) (Int32.ofInt 0) (am_I h 19 5) h _ _ hs hf
def g_X1_chiefOf : Nat → Nat → Int32 → Int32 → Int32 → am_H → Option (Int32 × am_H)
  | 0, _, _, _, _, _ => none
  | n + 1, _, a1, x2i, x3i, h => (if (am_I h 19 3) < x3i then some (x2i, h) else (am_A h 19 6).bind fun q2 => ((am_ln h 0 q2).bind fun n4 => (bif am_vp x2i n4 then ((if (am_I h q2 (Int32.toNatClampNeg x2i)) = x2i then some (x2i, h) else (am_A h 19 6).bind fun q8 => ((am_A h 19 6).bind fun q10 => ((am_A h 19 6).bind fun q12 => ((am_ln h 0 q12).bind fun n14 => (bif am_vp x2i n14 then ((am_ln h 0 q10).bind fun n17 => (bif am_vp (am_I h q12 (Int32.toNatClampNeg x2i)) n17 then ((am_ln h 0 q8).bind fun n20 => (bif am_vp x2i n20 then ((am_A (am_sI h q8 (Int32.toNatClampNeg x2i) (am_I h q10 (Int32.toNatClampNeg (am_I h q12 (Int32.toNatClampNeg x2i))))) 19 6).bind fun q23 => ((am_ln (am_sI h q8 (Int32.toNatClampNeg x2i) (am_I h q10 (Int32.toNatClampNeg (am_I h q12 (Int32.toNatClampNeg x2i))))) 0 q23).bind fun n25 => (bif am_vp x2i n25 then (g_X1_chiefOf n 0 a1 (am_I (am_sI h q8 (Int32.toNatClampNeg x2i) (am_I h q10 (Int32.toNatClampNeg (am_I h q12 (Int32.toNatClampNeg x2i))))) q23 (Int32.toNatClampNeg x2i)) (x3i + Int32.ofInt 1) (am_sI h q8 (Int32.toNatClampNeg x2i) (am_I h q10 (Int32.toNatClampNeg (am_I h q12 (Int32.toNatClampNeg x2i)))))) else none))) else none)) else none)) else none)))))) else none)))
set_option maxRecDepth 100000 in
set_option maxHeartbeats 4000000 in
theorem m_X1_chiefOf (n : Nat) : (∀ (a1 : Int32) (x2i : Int32) (x3i : Int32) (h : am_H) (v : Int32) (h' : am_H), am_stat h → g_X1_chiefOf n 0 a1 x2i x3i h = some (v, h') → am_stat h') := by
  induction n with
  | zero => exact fun a1 x2i x3i h v h' hs hf => (by cases hf)
  | succ n ih =>
    skip
    · intro a1 x2i x3i h v h' hs hf
      have hf : ((if (am_I h 19 3) < x3i then some (x2i, h) else (am_A h 19 6).bind fun q2 => ((am_ln h 0 q2).bind fun n4 => (bif am_vp x2i n4 then ((if (am_I h q2 (Int32.toNatClampNeg x2i)) = x2i then some (x2i, h) else (am_A h 19 6).bind fun q8 => ((am_A h 19 6).bind fun q10 => ((am_A h 19 6).bind fun q12 => ((am_ln h 0 q12).bind fun n14 => (bif am_vp x2i n14 then ((am_ln h 0 q10).bind fun n17 => (bif am_vp (am_I h q12 (Int32.toNatClampNeg x2i)) n17 then ((am_ln h 0 q8).bind fun n20 => (bif am_vp x2i n20 then ((am_A (am_sI h q8 (Int32.toNatClampNeg x2i) (am_I h q10 (Int32.toNatClampNeg (am_I h q12 (Int32.toNatClampNeg x2i))))) 19 6).bind fun q23 => ((am_ln (am_sI h q8 (Int32.toNatClampNeg x2i) (am_I h q10 (Int32.toNatClampNeg (am_I h q12 (Int32.toNatClampNeg x2i))))) 0 q23).bind fun n25 => (bif am_vp x2i n25 then (g_X1_chiefOf n 0 a1 (am_I (am_sI h q8 (Int32.toNatClampNeg x2i) (am_I h q10 (Int32.toNatClampNeg (am_I h q12 (Int32.toNatClampNeg x2i))))) q23 (Int32.toNatClampNeg x2i)) (x3i + Int32.ofInt 1) (am_sI h q8 (Int32.toNatClampNeg x2i) (am_I h q10 (Int32.toNatClampNeg (am_I h q12 (Int32.toNatClampNeg x2i)))))) else none))) else none)) else none)) else none)))))) else none)))) = some (v, h') := hf
      by_cases c1 : (am_I h 19 3) < x3i
      · rw [if_pos c1] at hf
        obtain ⟨rfl, rfl⟩ := am_i2 hf
        exact hs
      · rw [if_neg c1] at hf
        obtain ⟨q2, k3, hf⟩ := am_bnd hf
        obtain ⟨n4, k5, hf⟩ := am_bnd hf
        obtain ⟨b6, hf⟩ := am_bis hf
        by_cases c7 : (am_I h q2 (Int32.toNatClampNeg x2i)) = x2i
        · rw [if_pos c7] at hf
          obtain ⟨rfl, rfl⟩ := am_i2 hf
          exact hs
        · rw [if_neg c7] at hf
          obtain ⟨q8, k9, hf⟩ := am_bnd hf
          obtain ⟨q10, k11, hf⟩ := am_bnd hf
          obtain ⟨q12, k13, hf⟩ := am_bnd hf
          obtain ⟨n14, k15, hf⟩ := am_bnd hf
          obtain ⟨b16, hf⟩ := am_bis hf
          obtain ⟨n17, k18, hf⟩ := am_bnd hf
          obtain ⟨b19, hf⟩ := am_bis hf
          obtain ⟨n20, k21, hf⟩ := am_bnd hf
          obtain ⟨b22, hf⟩ := am_bis hf
          obtain ⟨q23, k24, hf⟩ := am_bnd hf
          obtain ⟨n25, k26, hf⟩ := am_bnd hf
          obtain ⟨b27, hf⟩ := am_bis hf
          exact ih a1 (am_I (am_sI h q8 (Int32.toNatClampNeg x2i) (am_I h q10 (Int32.toNatClampNeg (am_I h q12 (Int32.toNatClampNeg x2i))))) q23 (Int32.toNatClampNeg x2i)) (x3i + Int32.ofInt 1) (am_sI h q8 (Int32.toNatClampNeg x2i) (am_I h q10 (Int32.toNatClampNeg (am_I h q12 (Int32.toNatClampNeg x2i))))) _ _ hs hf
set_option maxRecDepth 100000 in
set_option maxHeartbeats 4000000 in
theorem l_X1_chiefOf (n : Nat) : (∀ (a1 : Int32) (x2i : Int32) (x3i : Int32) (h : am_H) (v : Int32) (h' : am_H), am_stat h → g_X1_chiefOf n 0 a1 x2i x3i h = some (v, h') → AW mX1_chiefOf (rX1_chiefOf 0 0) (fun r h2 => r = some (.int v) ∧ h2 = h') 4 [(0, .ref 19), (1, .int a1), (2, .int x2i), (3, .int x3i)] [] h 0 0) := by
  induction n with
  | zero => exact fun a1 x2i x3i h v h' hs hf => (by cases hf)
  | succ n ih =>
    skip
    · intro a1 x2i x3i h v h' hs hf
      have hf : ((if (am_I h 19 3) < x3i then some (x2i, h) else (am_A h 19 6).bind fun q2 => ((am_ln h 0 q2).bind fun n4 => (bif am_vp x2i n4 then ((if (am_I h q2 (Int32.toNatClampNeg x2i)) = x2i then some (x2i, h) else (am_A h 19 6).bind fun q8 => ((am_A h 19 6).bind fun q10 => ((am_A h 19 6).bind fun q12 => ((am_ln h 0 q12).bind fun n14 => (bif am_vp x2i n14 then ((am_ln h 0 q10).bind fun n17 => (bif am_vp (am_I h q12 (Int32.toNatClampNeg x2i)) n17 then ((am_ln h 0 q8).bind fun n20 => (bif am_vp x2i n20 then ((am_A (am_sI h q8 (Int32.toNatClampNeg x2i) (am_I h q10 (Int32.toNatClampNeg (am_I h q12 (Int32.toNatClampNeg x2i))))) 19 6).bind fun q23 => ((am_ln (am_sI h q8 (Int32.toNatClampNeg x2i) (am_I h q10 (Int32.toNatClampNeg (am_I h q12 (Int32.toNatClampNeg x2i))))) 0 q23).bind fun n25 => (bif am_vp x2i n25 then (g_X1_chiefOf n 0 a1 (am_I (am_sI h q8 (Int32.toNatClampNeg x2i) (am_I h q10 (Int32.toNatClampNeg (am_I h q12 (Int32.toNatClampNeg x2i))))) q23 (Int32.toNatClampNeg x2i)) (x3i + Int32.ofInt 1) (am_sI h q8 (Int32.toNatClampNeg x2i) (am_I h q10 (Int32.toNatClampNeg (am_I h q12 (Int32.toNatClampNeg x2i)))))) else none))) else none)) else none)) else none)))))) else none)))) = some (v, h') := hf
      refine AW_go okX1_chiefOf 4 ?_
      refine And.intro (sK hs 19) ?_
      refine And.intro (fun c1 => ?_) (fun c1 => ?_)
      · rw [if_pos c1] at hf
        refine AW_go okX1_chiefOf 2 ?_
        obtain ⟨rfl, rfl⟩ := am_i2 hf
        exact And.intro ⟨(Nat.le_of_ble_eq_true rfl), (Nat.le_of_ble_eq_true rfl)⟩ (And.intro (Or.inl rfl) ⟨rfl, rfl⟩)
      · rw [if_neg c1] at hf
        obtain ⟨q2, k3, hf⟩ := am_bnd hf
        obtain ⟨n4, k5, hf⟩ := am_bnd hf
        obtain ⟨b6, hf⟩ := am_bis hf
        refine AW_go okX1_chiefOf 6 ?_
        refine And.intro (sK hs 19) (Exists.intro (some q2) (And.intro k3 ?_))
        refine Exists.intro n4 (And.intro (am_ln_ok k5) (And.intro (am_vp_ok b6) ?_))
        refine And.intro (fun c7 => ?_) (fun c7 => ?_)
        · rw [if_pos c7] at hf
          refine AW_go okX1_chiefOf 2 ?_
          obtain ⟨rfl, rfl⟩ := am_i2 hf
          exact And.intro ⟨(Nat.le_of_ble_eq_true rfl), (Nat.le_of_ble_eq_true rfl)⟩ (And.intro (Or.inl rfl) ⟨rfl, rfl⟩)
        · rw [if_neg c7] at hf
          obtain ⟨q8, k9, hf⟩ := am_bnd hf
          obtain ⟨q10, k11, hf⟩ := am_bnd hf
          obtain ⟨q12, k13, hf⟩ := am_bnd hf
          obtain ⟨n14, k15, hf⟩ := am_bnd hf
          obtain ⟨b16, hf⟩ := am_bis hf
          obtain ⟨n17, k18, hf⟩ := am_bnd hf
          obtain ⟨b19, hf⟩ := am_bis hf
          obtain ⟨n20, k21, hf⟩ := am_bnd hf
          obtain ⟨b22, hf⟩ := am_bis hf
          obtain ⟨q23, k24, hf⟩ := am_bnd hf
          obtain ⟨n25, k26, hf⟩ := am_bnd hf
          obtain ⟨b27, hf⟩ := am_bis hf
          refine AW_go okX1_chiefOf 18 ?_
          refine And.intro (sK hs 19) (Exists.intro (some q8) (And.intro k9 ?_))
          refine And.intro (sK hs 19) (Exists.intro (some q10) (And.intro k11 ?_))
          refine And.intro (sK hs 19) (Exists.intro (some q12) (And.intro k13 ?_))
          refine Exists.intro n14 (And.intro (am_ln_ok k15) (And.intro (am_vp_ok b16) ?_))
          refine Exists.intro n17 (And.intro (am_ln_ok k18) (And.intro (am_vp_ok b19) ?_))
          refine Exists.intro n20 (And.intro (am_ln_ok k21) (And.intro (am_vp_ok b22) ?_))
          refine And.intro (sK hs 19) (Exists.intro (some q23) (And.intro k24 ?_))
          refine Exists.intro n25 (And.intro (am_ln_ok k26) (And.intro (am_vp_ok b27) ?_))
          refine AW_pick (lv' := [(0, .ref 19), (1, .int a1), (2, .int (am_I (am_sI h q8 (Int32.toNatClampNeg x2i) (am_I h q10 (Int32.toNatClampNeg (am_I h q12 (Int32.toNatClampNeg x2i))))) q23 (Int32.toNatClampNeg x2i))), (3, .int (x3i + Int32.ofInt 1))]) [2, 3, 1, 0] rfl ?_
          exact ih a1 (am_I (am_sI h q8 (Int32.toNatClampNeg x2i) (am_I h q10 (Int32.toNatClampNeg (am_I h q12 (Int32.toNatClampNeg x2i))))) q23 (Int32.toNatClampNeg x2i)) (x3i + Int32.ofInt 1) (am_sI h q8 (Int32.toNatClampNeg x2i) (am_I h q10 (Int32.toNatClampNeg (am_I h q12 (Int32.toNatClampNeg x2i))))) _ _ hs hf
def f_X1_chiefOf (n : Nat) (a1 : Int32) (h : am_H) : Option (Int32 × am_H) := g_X1_chiefOf n 0 a1 a1 (Int32.ofInt 0) h
set_option maxRecDepth 100000 in
theorem s_X1_chiefOf (n : Nat) (a1 : Int32) (h : am_H) (hs : am_stat h) {v : Int32} {h' : am_H} (hf : f_X1_chiefOf n a1 h = some (v, h')) : am_stat h' := by
  unfold f_X1_chiefOf at hf
  exact (m_X1_chiefOf n) a1 a1 (Int32.ofInt 0) h _ _ hs hf
set_option maxRecDepth 100000 in
theorem c_X1_chiefOf (n : Nat) (a1 : Int32) (h : am_H) (hs : am_stat h) {v : Int32} {h' : am_H} (hf : f_X1_chiefOf n a1 h = some (v, h')) : AMet mX1_chiefOf (rX1_chiefOf 0 0) (fun r h2 => r = some (.int v) ∧ h2 = h') [.ref 19, .int a1] h := by
  unfold f_X1_chiefOf at hf
  refine AW_go okX1_chiefOf 4 ?_
  refine AW_pick (lv' := [(0, .ref 19), (1, .int a1), (2, .int a1), (3, .int (Int32.ofInt 0))]) [2, 3, 1, 0] rfl ?_
  exact (l_X1_chiefOf n) a1 a1 (Int32.ofInt 0) h _ _ hs hf
def f_X2_kinOf (a1 : Int32) (h : am_H) : Option (Int32 × am_H) := Option.bind ((if 0 ≤ a1 then (am_A h 12 3).bind fun q4 => ((am_ln h 0 q4).bind fun n6 => (bif am_vp a1 n6 then (some (am_I h q4 (Int32.toNatClampNeg a1))) else none)) else some (Int32.ofInt (-1)))) fun y1 => (some (y1, h))
set_option maxRecDepth 100000 in
theorem s_X2_kinOf (a1 : Int32) (h : am_H) (hs : am_stat h) {v : Int32} {h' : am_H} (hf : f_X2_kinOf a1 h = some (v, h')) : am_stat h' := by
  unfold f_X2_kinOf at hf
  obtain ⟨y1, j2, hf⟩ := am_bnd hf
  obtain ⟨rfl, rfl⟩ := am_i2 hf
  exact hs
set_option maxRecDepth 100000 in
theorem c_X2_kinOf (a1 : Int32) (h : am_H) (hs : am_stat h) {v : Int32} {h' : am_H} (hf : f_X2_kinOf a1 h = some (v, h')) : AMet mX2_kinOf (rX2_kinOf 0 0) (fun r h2 => r = some (.int v) ∧ h2 = h') [.ref 12, .int a1] h := by
  unfold f_X2_kinOf at hf
  refine AW_go okX2_kinOf 1 ?_
  obtain ⟨y1, j2, hf⟩ := am_bnd hf
  refine am_cut (P := AW mX2_kinOf (rX2_kinOf 0 0) (fun r h2 => r = some (.int v) ∧ h2 = h') 14 [(0, .ref 12), (1, .int a1)] [.int y1] h 0 0) (fun hJ2 => ?_) ?_
  · have hs := hs
    refine AW_go okX2_kinOf 1 ?_
    refine And.intro (fun c3 => ?_) (fun c3 => ?_)
    · rw [if_pos c3] at j2
      obtain ⟨q4, k5, j2⟩ := am_bnd j2
      obtain ⟨n6, k7, j2⟩ := am_bnd j2
      obtain ⟨b8, j2⟩ := am_bis j2
      refine AW_go okX2_kinOf 4 ?_
      refine And.intro (sK hs 12) (Exists.intro (some q4) (And.intro k5 ?_))
      refine Exists.intro n6 (And.intro (am_ln_ok k7) (And.intro (am_vp_ok b8) ?_))
      obtain rfl := am_i1 j2
      exact AW_pick [0, 1] rfl hJ2
    · rw [if_neg c3] at j2
      refine AW_go okX2_kinOf 2 ?_
      obtain rfl := am_i1 j2
      exact AW_pick [0, 1] rfl hJ2
  refine AW_go okX2_kinOf 1 ?_
  obtain ⟨rfl, rfl⟩ := am_i2 hf
  exact And.intro ⟨(Nat.le_of_ble_eq_true rfl), (Nat.le_of_ble_eq_true rfl)⟩ (And.intro (Or.inl rfl) ⟨rfl, rfl⟩)
def f_X3_behind (o : Nat) (a1 : Int32) (a2 : Int32) (h : am_H) : Option (Int32 × am_H) := bif am_isO h o 3 then ((am_A h o 2).bind fun q2 => ((am_ln h 0 q2).bind fun n4 => (bif am_vp (((Int32.ofInt 24) * a1) + a2) n4 then (some ((am_I h q2 (Int32.toNatClampNeg (((Int32.ofInt 24) * a1) + a2))), h)) else none))) else none
set_option maxRecDepth 100000 in
theorem s_X3_behind (o : Nat) (a1 : Int32) (a2 : Int32) (h : am_H) (hs : am_stat h) {v : Int32} {h' : am_H} (hf : f_X3_behind o a1 a2 h = some (v, h')) : am_stat h' := by
  unfold f_X3_behind at hf
  obtain ⟨k1, hf⟩ := am_bis hf
  obtain ⟨q2, k3, hf⟩ := am_bnd hf
  obtain ⟨n4, k5, hf⟩ := am_bnd hf
  obtain ⟨b6, hf⟩ := am_bis hf
  obtain ⟨rfl, rfl⟩ := am_i2 hf
  exact hs
set_option maxRecDepth 100000 in
theorem c_X3_behind (o : Nat) (a1 : Int32) (a2 : Int32) (h : am_H) (hs : am_stat h) {v : Int32} {h' : am_H} (hf : f_X3_behind o a1 a2 h = some (v, h')) : AMet mX3_behind (rX3_behind 0 0) (fun r h2 => r = some (.int v) ∧ h2 = h') [.ref o, .int a1, .int a2] h := by
  unfold f_X3_behind at hf
  obtain ⟨k1, hf⟩ := am_bis hf
  obtain ⟨q2, k3, hf⟩ := am_bnd hf
  obtain ⟨n4, k5, hf⟩ := am_bnd hf
  obtain ⟨b6, hf⟩ := am_bis hf
  refine AW_go okX3_behind 9 ?_
  refine And.intro (am_isO_ok k1) (Exists.intro (some q2) (And.intro k3 ?_))
  refine Exists.intro n4 (And.intro (am_ln_ok k5) (And.intro (am_vp_ok b6) ?_))
  obtain ⟨rfl, rfl⟩ := am_i2 hf
  exact And.intro ⟨(Nat.le_of_ble_eq_true rfl), (Nat.le_of_ble_eq_true rfl)⟩ (And.intro (Or.inl rfl) ⟨rfl, rfl⟩)
def f_X4_byteOf (a0 : Int64) (a2 : Int32) (h : am_H) : Option (Int32 × am_H) := some (((Int64.toInt32 ((Int64.toUInt64 a0 >>> ((Int32.toInt64 ((Int32.ofInt 8) * a2)).toUInt64 &&& Int64.toUInt64 63)).toInt64)) &&& (Int32.ofInt 255)), h)
set_option maxRecDepth 100000 in
theorem s_X4_byteOf (a0 : Int64) (a2 : Int32) (h : am_H) (hs : am_stat h) {v : Int32} {h' : am_H} (hf : f_X4_byteOf a0 a2 h = some (v, h')) : am_stat h' := by
  unfold f_X4_byteOf at hf
  obtain ⟨rfl, rfl⟩ := am_i2 hf
  exact hs
set_option maxRecDepth 100000 in
theorem c_X4_byteOf (a0 : Int64) (a2 : Int32) (h : am_H) (hs : am_stat h) {v : Int32} {h' : am_H} (hf : f_X4_byteOf a0 a2 h = some (v, h')) : AMet mX4_byteOf (rX4_byteOf 0 0) (fun r h2 => r = some (.int v) ∧ h2 = h') [.long a0, .int a2] h := by
  unfold f_X4_byteOf at hf
  refine AW_go okX4_byteOf 9 ?_
  obtain ⟨rfl, rfl⟩ := am_i2 hf
  exact And.intro ⟨(Nat.le_of_ble_eq_true rfl), (Nat.le_of_ble_eq_true rfl)⟩ (And.intro (Or.inl rfl) ⟨rfl, rfl⟩)
def g_X4_append : Nat → Nat → Nat → Int64 → Int32 → Int32 → am_H → Option (Unit × am_H)
  | 0, _, _, _, _, _, _ => none
  | n + 1, _, o, a1, a3, x4i, h => (if a3 ≤ x4i then some ((), h) else bif am_isO h o 4 then ((if (Int32.ofInt 60) ≤ (am_I h o 1) then some ((), h) else (am_A h o 0).bind fun q4 => (am_b2 (f_X4_byteOf a1 x4i h) fun r6 h7 => ((am_ln h7 0 q4).bind fun n9 => (bif am_vp (am_I h o 1) n9 then (bif am_isO (am_sI h7 q4 (Int32.toNatClampNeg (am_I h o 1)) r6) o 4 then (g_X4_append n 0 o a1 a3 (x4i + Int32.ofInt 1) (am_sI (am_sI h7 q4 (Int32.toNatClampNeg (am_I h o 1)) r6) o 1 ((am_I (am_sI h7 q4 (Int32.toNatClampNeg (am_I h o 1)) r6) o 1) + (Int32.ofInt 1)))) else none) else none))))) else none)
set_option maxRecDepth 100000 in
set_option maxHeartbeats 4000000 in
theorem m_X4_append (n : Nat) : (∀ (o : Nat) (a1 : Int64) (a3 : Int32) (x4i : Int32) (h : am_H) (v : Unit) (h' : am_H), am_stat h → g_X4_append n 0 o a1 a3 x4i h = some (v, h') → am_stat h') := by
  induction n with
  | zero => exact fun o a1 a3 x4i h v h' hs hf => (by cases hf)
  | succ n ih =>
    skip
    · intro o a1 a3 x4i h v h' hs hf
      have hf : ((if a3 ≤ x4i then some ((), h) else bif am_isO h o 4 then ((if (Int32.ofInt 60) ≤ (am_I h o 1) then some ((), h) else (am_A h o 0).bind fun q4 => (am_b2 (f_X4_byteOf a1 x4i h) fun r6 h7 => ((am_ln h7 0 q4).bind fun n9 => (bif am_vp (am_I h o 1) n9 then (bif am_isO (am_sI h7 q4 (Int32.toNatClampNeg (am_I h o 1)) r6) o 4 then (g_X4_append n 0 o a1 a3 (x4i + Int32.ofInt 1) (am_sI (am_sI h7 q4 (Int32.toNatClampNeg (am_I h o 1)) r6) o 1 ((am_I (am_sI h7 q4 (Int32.toNatClampNeg (am_I h o 1)) r6) o 1) + (Int32.ofInt 1)))) else none) else none))))) else none)) = some (v, h') := hf
      by_cases c1 : a3 ≤ x4i
      · rw [if_pos c1] at hf
        obtain ⟨rfl, rfl⟩ := am_i2 hf
        exact hs
      · rw [if_neg c1] at hf
        obtain ⟨k2, hf⟩ := am_bis hf
        by_cases c3 : (Int32.ofInt 60) ≤ (am_I h o 1)
        · rw [if_pos c3] at hf
          obtain ⟨rfl, rfl⟩ := am_i2 hf
          exact hs
        · rw [if_neg c3] at hf
          obtain ⟨q4, k5, hf⟩ := am_bnd hf
          obtain ⟨r6, h7, e8, hf⟩ := am_b2_ok hf
          have hs := s_X4_byteOf a1 x4i h hs e8
          obtain ⟨n9, k10, hf⟩ := am_bnd hf
          obtain ⟨b11, hf⟩ := am_bis hf
          obtain ⟨k12, hf⟩ := am_bis hf
          exact ih o a1 a3 (x4i + Int32.ofInt 1) (am_sI (am_sI h7 q4 (Int32.toNatClampNeg (am_I h o 1)) r6) o 1 ((am_I (am_sI h7 q4 (Int32.toNatClampNeg (am_I h o 1)) r6) o 1) + (Int32.ofInt 1))) _ _ hs hf
set_option maxRecDepth 100000 in
set_option maxHeartbeats 4000000 in
theorem l_X4_append (n : Nat) : (∀ (o : Nat) (a1 : Int64) (a3 : Int32) (x4i : Int32) (h : am_H) (v : Unit) (h' : am_H), am_stat h → g_X4_append n 0 o a1 a3 x4i h = some (v, h') → AW mX4_append (rX4_append 0 0) (fun r h2 => r = none ∧ h2 = h') 3 [(0, .ref o), (1, .long a1), (3, .int a3), (4, .int x4i)] [] h 0 0) := by
  induction n with
  | zero => exact fun o a1 a3 x4i h v h' hs hf => (by cases hf)
  | succ n ih =>
    skip
    · intro o a1 a3 x4i h v h' hs hf
      have hf : ((if a3 ≤ x4i then some ((), h) else bif am_isO h o 4 then ((if (Int32.ofInt 60) ≤ (am_I h o 1) then some ((), h) else (am_A h o 0).bind fun q4 => (am_b2 (f_X4_byteOf a1 x4i h) fun r6 h7 => ((am_ln h7 0 q4).bind fun n9 => (bif am_vp (am_I h o 1) n9 then (bif am_isO (am_sI h7 q4 (Int32.toNatClampNeg (am_I h o 1)) r6) o 4 then (g_X4_append n 0 o a1 a3 (x4i + Int32.ofInt 1) (am_sI (am_sI h7 q4 (Int32.toNatClampNeg (am_I h o 1)) r6) o 1 ((am_I (am_sI h7 q4 (Int32.toNatClampNeg (am_I h o 1)) r6) o 1) + (Int32.ofInt 1)))) else none) else none))))) else none)) = some (v, h') := hf
      refine AW_go okX4_append 3 ?_
      refine And.intro (fun c1 => ?_) (fun c1 => ?_)
      · rw [if_pos c1] at hf
        refine AW_go okX4_append 1 ?_
        obtain ⟨rfl, rfl⟩ := am_i2 hf
        exact And.intro ⟨(Nat.le_of_ble_eq_true rfl), (Nat.le_of_ble_eq_true rfl)⟩ (And.intro rfl ⟨rfl, rfl⟩)
      · rw [if_neg c1] at hf
        obtain ⟨k2, hf⟩ := am_bis hf
        refine AW_go okX4_append 4 ?_
        refine And.intro (am_isO_ok k2) ?_
        refine And.intro (fun c3 => ?_) (fun c3 => ?_)
        · rw [if_pos c3] at hf
          refine AW_go okX4_append 1 ?_
          obtain ⟨rfl, rfl⟩ := am_i2 hf
          exact And.intro ⟨(Nat.le_of_ble_eq_true rfl), (Nat.le_of_ble_eq_true rfl)⟩ (And.intro rfl ⟨rfl, rfl⟩)
        · rw [if_neg c3] at hf
          obtain ⟨q4, k5, hf⟩ := am_bnd hf
          refine AW_go okX4_append 6 ?_
          refine And.intro (am_isO_ok k2) (Exists.intro (some q4) (And.intro k5 ?_))
          refine And.intro (am_isO_ok k2) ?_
          obtain ⟨r6, h7, e8, hf⟩ := am_b2_ok hf
          refine AW_callS (As := [.long a1, .int x4i]) (R' := rX4_byteOf 0 0) (okX4_append.1 29 _ _ rfl) lkX4_byteOf (Or.inl kX4_15) rfl (Nat.le_of_ble_eq_true rfl) ⟨by decide, by decide⟩ ⟨(Nat.le_of_ble_eq_true rfl), (Nat.le_of_ble_eq_true rfl)⟩ (Nat.le_of_ble_eq_true rfl) (c_X4_byteOf a1 x4i h hs e8) (fun r h' hq => ?_)
          obtain ⟨rfl, hq⟩ := hq
          replace hq := hq.symm
          subst hq
          have hs := s_X4_byteOf a1 x4i h hs e8
          obtain ⟨n9, k10, hf⟩ := am_bnd hf
          obtain ⟨b11, hf⟩ := am_bis hf
          obtain ⟨k12, hf⟩ := am_bis hf
          refine AW_go okX4_append 9 ?_
          refine Exists.intro n9 (And.intro (am_ln_ok k10) (And.intro (am_vp_ok b11) ?_))
          refine And.intro (am_isO_ok k12) ?_
          refine And.intro (am_isO_ok k12) ?_
          refine AW_pick (lv' := [(0, .ref o), (1, .long a1), (3, .int a3), (4, .int (x4i + Int32.ofInt 1))]) [1, 2, 3, 0] rfl ?_
          exact ih o a1 a3 (x4i + Int32.ofInt 1) (am_sI (am_sI h7 q4 (Int32.toNatClampNeg (am_I h o 1)) r6) o 1 ((am_I (am_sI h7 q4 (Int32.toNatClampNeg (am_I h o 1)) r6) o 1) + (Int32.ofInt 1))) _ _ hs hf
def f_X4_append (n : Nat) (o : Nat) (a1 : Int64) (a3 : Int32) (h : am_H) : Option (Unit × am_H) := g_X4_append n 0 o a1 a3 (Int32.ofInt 0) h
set_option maxRecDepth 100000 in
theorem s_X4_append (n : Nat) (o : Nat) (a1 : Int64) (a3 : Int32) (h : am_H) (hs : am_stat h) {v : Unit} {h' : am_H} (hf : f_X4_append n o a1 a3 h = some (v, h')) : am_stat h' := by
  unfold f_X4_append at hf
  exact (m_X4_append n) o a1 a3 (Int32.ofInt 0) h _ _ hs hf
set_option maxRecDepth 100000 in
theorem c_X4_append (n : Nat) (o : Nat) (a1 : Int64) (a3 : Int32) (h : am_H) (hs : am_stat h) {v : Unit} {h' : am_H} (hf : f_X4_append n o a1 a3 h = some (v, h')) : AMet mX4_append (rX4_append 0 0) (fun r h2 => r = none ∧ h2 = h') [.ref o, .long a1, .int a3] h := by
  unfold f_X4_append at hf
  refine AW_go okX4_append 2 ?_
  refine AW_pick (lv' := [(0, .ref o), (1, .long a1), (3, .int a3), (4, .int (Int32.ofInt 0))]) [1, 2, 3, 0] rfl ?_
  exact (l_X4_append n) o a1 a3 (Int32.ofInt 0) h _ _ hs hf
def f_X5_isWhole (h : am_H) : Option (Int32 × am_H) := Option.bind ((if (am_I h 3 2) = 0 then (if (am_I h 3 1) = (Int32.ofInt 3) then some (Int32.ofInt 1) else (if (am_I h 3 1) = (Int32.ofInt 4) then some (Int32.ofInt 1) else some (Int32.ofInt 0))) else some (Int32.ofInt 0))) fun y1 => (bif am_b01 y1 then (some (y1, h)) else none)
set_option maxRecDepth 100000 in
theorem s_X5_isWhole (h : am_H) (hs : am_stat h) {v : Int32} {h' : am_H} (hf : f_X5_isWhole h = some (v, h')) : am_stat h' := by
  unfold f_X5_isWhole at hf
  obtain ⟨y1, j2, hf⟩ := am_bnd hf
  obtain ⟨b56, hf⟩ := am_bis hf
  obtain ⟨rfl, rfl⟩ := am_i2 hf
  exact hs
set_option maxRecDepth 100000 in
theorem c_X5_isWhole (h : am_H) (hs : am_stat h) {v : Int32} {h' : am_H} (hf : f_X5_isWhole h = some (v, h')) : AMet mX5_isWhole (rX5_isWhole 0 0) (fun r h2 => r = some (.int v) ∧ h2 = h') [.ref 3] h := by
  unfold f_X5_isWhole at hf
  refine AW_go okX5_isWhole 2 ?_
  refine And.intro (sK hs 3) ?_
  obtain ⟨y1, j2, hf⟩ := am_bnd hf
  refine am_cut (P := AW mX5_isWhole (rX5_isWhole 0 0) (fun r h2 => r = some (.int v) ∧ h2 = h') 28 [(0, .ref 3)] [.int y1] h 0 0) (fun hJ2 => ?_) ?_
  · have hs := hs
    refine AW_go okX5_isWhole 1 ?_
    refine And.intro (fun c3 => ?_) (fun c3 => ?_)
    · rw [if_neg c3] at j2
      refine AW_go okX5_isWhole 1 ?_
      obtain rfl := am_i1 j2
      exact AW_pick [0] rfl hJ2
    · rw [if_pos c3] at j2
      refine AW_go okX5_isWhole 4 ?_
      refine And.intro (sK hs 3) ?_
      refine And.intro (fun c4 => ?_) (fun c4 => ?_)
      · rw [if_pos c4] at j2
        refine AW_go okX5_isWhole 2 ?_
        obtain rfl := am_i1 j2
        exact AW_pick [0] rfl hJ2
      · rw [if_neg c4] at j2
        refine AW_go okX5_isWhole 4 ?_
        refine And.intro (sK hs 3) ?_
        refine And.intro (fun c5 => ?_) (fun c5 => ?_)
        · rw [if_neg c5] at j2
          refine AW_go okX5_isWhole 1 ?_
          obtain rfl := am_i1 j2
          exact AW_pick [0] rfl hJ2
        · rw [if_pos c5] at j2
          refine AW_go okX5_isWhole 2 ?_
          obtain rfl := am_i1 j2
          exact AW_pick [0] rfl hJ2
  obtain ⟨b56, hf⟩ := am_bis hf
  refine AW_go okX5_isWhole 1 ?_
  obtain ⟨rfl, rfl⟩ := am_i2 hf
  exact And.intro ⟨(Nat.le_of_ble_eq_true rfl), (Nat.le_of_ble_eq_true rfl)⟩ (And.intro (Or.inr ⟨rfl, am_b01_ok b56⟩) ⟨rfl, rfl⟩)
def f_X5_phaseBehindItem (a1 : Int32) (h : am_H) : Option (Int32 × am_H) := (if a1 = (Int32.ofInt 59) then some ((Int32.ofInt 0), h) else am_let ((if (am_I h 3 2) ≤ 0 then some ((Int32.ofInt 5), h) else (if a1 = (Int32.ofInt 125) then some ((Int32.ofInt 4), (am_sI h 3 2 ((am_I h 3 2) - (Int32.ofInt 1)))) else some ((Int32.ofInt 5), h)))) fun b2 => ((if (am_I h 3 2) ≤ 0 then b2 else (if a1 = (Int32.ofInt 43) then some ((Int32.ofInt 0), h) else b2))))
set_option maxRecDepth 100000 in
theorem s_X5_phaseBehindItem (a1 : Int32) (h : am_H) (hs : am_stat h) {v : Int32} {h' : am_H} (hf : f_X5_phaseBehindItem a1 h = some (v, h')) : am_stat h' := by
  unfold f_X5_phaseBehindItem at hf
  by_cases c1 : a1 = (Int32.ofInt 59)
  · rw [if_pos c1] at hf
    obtain ⟨rfl, rfl⟩ := am_i2 hf
    exact hs
  · rw [if_neg c1] at hf
    obtain ⟨b2, k3, hf⟩ := am_let_ok hf
    refine am_cut (P := ((if (am_I h 3 2) ≤ 0 then some ((Int32.ofInt 5), h) else (if a1 = (Int32.ofInt 125) then some ((Int32.ofInt 4), (am_sI h 3 2 ((am_I h 3 2) - (Int32.ofInt 1)))) else some ((Int32.ofInt 5), h)))) = some (v, h') → am_stat h') (fun B4 => ?_) ?_
    · skip
      by_cases c5 : (am_I h 3 2) ≤ 0
      · rw [if_pos c5] at hf
        exact B4 (k3.symm.trans hf)
      · rw [if_neg c5] at hf
        by_cases c6 : a1 = (Int32.ofInt 43)
        · rw [if_pos c6] at hf
          obtain ⟨rfl, rfl⟩ := am_i2 hf
          exact hs
        · rw [if_neg c6] at hf
          exact B4 (k3.symm.trans hf)
    intro hf
    by_cases c7 : (am_I h 3 2) ≤ 0
    · rw [if_pos c7] at hf
      obtain ⟨rfl, rfl⟩ := am_i2 hf
      exact hs
    · rw [if_neg c7] at hf
      by_cases c8 : a1 = (Int32.ofInt 125)
      · rw [if_pos c8] at hf
        obtain ⟨rfl, rfl⟩ := am_i2 hf
        exact hs
      · rw [if_neg c8] at hf
        obtain ⟨rfl, rfl⟩ := am_i2 hf
        exact hs
set_option maxRecDepth 100000 in
theorem c_X5_phaseBehindItem (a1 : Int32) (h : am_H) (hs : am_stat h) {v : Int32} {h' : am_H} (hf : f_X5_phaseBehindItem a1 h = some (v, h')) : AMet mX5_phaseBehindItem (rX5_phaseBehindItem 0 0) (fun r h2 => r = some (.int v) ∧ h2 = h') [.ref 3, .int a1] h := by
  unfold f_X5_phaseBehindItem at hf
  refine AW_go okX5_phaseBehindItem 3 ?_
  refine And.intro (fun c1 => ?_) (fun c1 => ?_)
  · rw [if_neg c1] at hf
    refine AW_go okX5_phaseBehindItem 2 ?_
    refine And.intro (sK hs 3) ?_
    obtain ⟨b2, k3, hf⟩ := am_let_ok hf
    refine am_cut (P := ((if (am_I h 3 2) ≤ 0 then some ((Int32.ofInt 5), h) else (if a1 = (Int32.ofInt 125) then some ((Int32.ofInt 4), (am_sI h 3 2 ((am_I h 3 2) - (Int32.ofInt 1)))) else some ((Int32.ofInt 5), h)))) = some (v, h') → AW mX5_phaseBehindItem (rX5_phaseBehindItem 0 0) (fun r h2 => r = some (.int v) ∧ h2 = h') 23 [(0, .ref 3), (1, .int a1)] [] h 0 0) (fun B4 => ?_) ?_
    · skip
      refine AW_go okX5_phaseBehindItem 1 ?_
      refine And.intro (fun c5 => ?_) (fun c5 => ?_)
      · rw [if_pos c5] at hf
        exact B4 (k3.symm.trans hf)
      · rw [if_neg c5] at hf
        refine AW_go okX5_phaseBehindItem 3 ?_
        refine And.intro (fun c6 => ?_) (fun c6 => ?_)
        · rw [if_neg c6] at hf
          exact B4 (k3.symm.trans hf)
        · rw [if_pos c6] at hf
          refine AW_go okX5_phaseBehindItem 2 ?_
          obtain ⟨rfl, rfl⟩ := am_i2 hf
          exact And.intro ⟨(Nat.le_of_ble_eq_true rfl), (Nat.le_of_ble_eq_true rfl)⟩ (And.intro (Or.inl rfl) ⟨rfl, rfl⟩)
    intro hf
    refine AW_go okX5_phaseBehindItem 3 ?_
    refine And.intro (sK hs 3) ?_
    refine And.intro (fun c7 => ?_) (fun c7 => ?_)
    · rw [if_pos c7] at hf
      refine AW_go okX5_phaseBehindItem 2 ?_
      obtain ⟨rfl, rfl⟩ := am_i2 hf
      exact And.intro ⟨(Nat.le_of_ble_eq_true rfl), (Nat.le_of_ble_eq_true rfl)⟩ (And.intro (Or.inl rfl) ⟨rfl, rfl⟩)
    · rw [if_neg c7] at hf
      refine AW_go okX5_phaseBehindItem 3 ?_
      refine And.intro (fun c8 => ?_) (fun c8 => ?_)
      · rw [if_neg c8] at hf
        refine AW_go okX5_phaseBehindItem 2 ?_
        obtain ⟨rfl, rfl⟩ := am_i2 hf
        exact And.intro ⟨(Nat.le_of_ble_eq_true rfl), (Nat.le_of_ble_eq_true rfl)⟩ (And.intro (Or.inl rfl) ⟨rfl, rfl⟩)
      · rw [if_pos c8] at hf
        refine AW_go okX5_phaseBehindItem 8 ?_
        refine And.intro (sK hs 3) ?_
        refine And.intro (sK hs 3) ?_
        obtain ⟨rfl, rfl⟩ := am_i2 hf
        exact And.intro ⟨(Nat.le_of_ble_eq_true rfl), (Nat.le_of_ble_eq_true rfl)⟩ (And.intro (Or.inl rfl) ⟨rfl, rfl⟩)
  · rw [if_pos c1] at hf
    refine AW_go okX5_phaseBehindItem 2 ?_
    obtain ⟨rfl, rfl⟩ := am_i2 hf
    exact And.intro ⟨(Nat.le_of_ble_eq_true rfl), (Nat.le_of_ble_eq_true rfl)⟩ (And.intro (Or.inl rfl) ⟨rfl, rfl⟩)
def f_X5_isMark (a0 : Int32) (h : am_H) : Option (Int32 × am_H) := Option.bind ((if a0 = (Int32.ofInt 33) then some (Int32.ofInt 1) else (if a0 = (Int32.ofInt 63) then some (Int32.ofInt 1) else some (Int32.ofInt 0)))) fun y1 => (bif am_b01 y1 then (some (y1, h)) else none)
set_option maxRecDepth 100000 in
theorem s_X5_isMark (a0 : Int32) (h : am_H) (hs : am_stat h) {v : Int32} {h' : am_H} (hf : f_X5_isMark a0 h = some (v, h')) : am_stat h' := by
  unfold f_X5_isMark at hf
  obtain ⟨y1, j2, hf⟩ := am_bnd hf
  obtain ⟨b55, hf⟩ := am_bis hf
  obtain ⟨rfl, rfl⟩ := am_i2 hf
  exact hs
set_option maxRecDepth 100000 in
theorem c_X5_isMark (a0 : Int32) (h : am_H) (hs : am_stat h) {v : Int32} {h' : am_H} (hf : f_X5_isMark a0 h = some (v, h')) : AMet mX5_isMark (rX5_isMark 0 0) (fun r h2 => r = some (.int v) ∧ h2 = h') [.int a0] h := by
  unfold f_X5_isMark at hf
  refine AW_go okX5_isMark 2 ?_
  obtain ⟨y1, j2, hf⟩ := am_bnd hf
  refine am_cut (P := AW mX5_isMark (rX5_isMark 0 0) (fun r h2 => r = some (.int v) ∧ h2 = h') 17 [(0, .int a0)] [.int y1] h 0 0) (fun hJ2 => ?_) ?_
  · have hs := hs
    refine AW_go okX5_isMark 1 ?_
    refine And.intro (fun c3 => ?_) (fun c3 => ?_)
    · rw [if_pos c3] at j2
      refine AW_go okX5_isMark 2 ?_
      obtain rfl := am_i1 j2
      exact AW_pick [0] rfl hJ2
    · rw [if_neg c3] at j2
      refine AW_go okX5_isMark 3 ?_
      refine And.intro (fun c4 => ?_) (fun c4 => ?_)
      · rw [if_neg c4] at j2
        refine AW_go okX5_isMark 1 ?_
        obtain rfl := am_i1 j2
        exact AW_pick [0] rfl hJ2
      · rw [if_pos c4] at j2
        refine AW_go okX5_isMark 2 ?_
        obtain rfl := am_i1 j2
        exact AW_pick [0] rfl hJ2
  obtain ⟨b55, hf⟩ := am_bis hf
  refine AW_go okX5_isMark 1 ?_
  obtain ⟨rfl, rfl⟩ := am_i2 hf
  exact And.intro ⟨(Nat.le_of_ble_eq_true rfl), (Nat.le_of_ble_eq_true rfl)⟩ (And.intro (Or.inr ⟨rfl, am_b01_ok b55⟩) ⟨rfl, rfl⟩)
def f_X5_isDigit (a0 : Int32) (h : am_H) : Option (Int32 × am_H) := Option.bind ((if a0 < (Int32.ofInt 48) then some (Int32.ofInt 0) else (if (Int32.ofInt 50) < a0 then some (Int32.ofInt 0) else some (Int32.ofInt 1)))) fun y1 => (bif am_b01 y1 then (some (y1, h)) else none)
set_option maxRecDepth 100000 in
theorem s_X5_isDigit (a0 : Int32) (h : am_H) (hs : am_stat h) {v : Int32} {h' : am_H} (hf : f_X5_isDigit a0 h = some (v, h')) : am_stat h' := by
  unfold f_X5_isDigit at hf
  obtain ⟨y1, j2, hf⟩ := am_bnd hf
  obtain ⟨b55, hf⟩ := am_bis hf
  obtain ⟨rfl, rfl⟩ := am_i2 hf
  exact hs
set_option maxRecDepth 100000 in
theorem c_X5_isDigit (a0 : Int32) (h : am_H) (hs : am_stat h) {v : Int32} {h' : am_H} (hf : f_X5_isDigit a0 h = some (v, h')) : AMet mX5_isDigit (rX5_isDigit 0 0) (fun r h2 => r = some (.int v) ∧ h2 = h') [.int a0] h := by
  unfold f_X5_isDigit at hf
  refine AW_go okX5_isDigit 2 ?_
  obtain ⟨y1, j2, hf⟩ := am_bnd hf
  refine am_cut (P := AW mX5_isDigit (rX5_isDigit 0 0) (fun r h2 => r = some (.int v) ∧ h2 = h') 17 [(0, .int a0)] [.int y1] h 0 0) (fun hJ2 => ?_) ?_
  · have hs := hs
    refine AW_go okX5_isDigit 1 ?_
    refine And.intro (fun c3 => ?_) (fun c3 => ?_)
    · rw [if_pos c3] at j2
      refine AW_go okX5_isDigit 1 ?_
      obtain rfl := am_i1 j2
      exact AW_pick [0] rfl hJ2
    · rw [if_neg c3] at j2
      refine AW_go okX5_isDigit 3 ?_
      refine And.intro (fun c4 => ?_) (fun c4 => ?_)
      · rw [if_pos c4] at j2
        refine AW_go okX5_isDigit 1 ?_
        obtain rfl := am_i1 j2
        exact AW_pick [0] rfl hJ2
      · rw [if_neg c4] at j2
        refine AW_go okX5_isDigit 2 ?_
        obtain rfl := am_i1 j2
        exact AW_pick [0] rfl hJ2
  obtain ⟨b55, hf⟩ := am_bis hf
  refine AW_go okX5_isDigit 1 ?_
  obtain ⟨rfl, rfl⟩ := am_i2 hf
  exact And.intro ⟨(Nat.le_of_ble_eq_true rfl), (Nat.le_of_ble_eq_true rfl)⟩ (And.intro (Or.inr ⟨rfl, am_b01_ok b55⟩) ⟨rfl, rfl⟩)
def f_X5_isLetter (a0 : Int32) (h : am_H) : Option (Int32 × am_H) := Option.bind ((if a0 < (Int32.ofInt 97) then some (Int32.ofInt 0) else (if (Int32.ofInt 100) < a0 then some (Int32.ofInt 0) else some (Int32.ofInt 1)))) fun y1 => (bif am_b01 y1 then (some (y1, h)) else none)
set_option maxRecDepth 100000 in
theorem s_X5_isLetter (a0 : Int32) (h : am_H) (hs : am_stat h) {v : Int32} {h' : am_H} (hf : f_X5_isLetter a0 h = some (v, h')) : am_stat h' := by
  unfold f_X5_isLetter at hf
  obtain ⟨y1, j2, hf⟩ := am_bnd hf
  obtain ⟨b55, hf⟩ := am_bis hf
  obtain ⟨rfl, rfl⟩ := am_i2 hf
  exact hs
set_option maxRecDepth 100000 in
theorem c_X5_isLetter (a0 : Int32) (h : am_H) (hs : am_stat h) {v : Int32} {h' : am_H} (hf : f_X5_isLetter a0 h = some (v, h')) : AMet mX5_isLetter (rX5_isLetter 0 0) (fun r h2 => r = some (.int v) ∧ h2 = h') [.int a0] h := by
  unfold f_X5_isLetter at hf
  refine AW_go okX5_isLetter 2 ?_
  obtain ⟨y1, j2, hf⟩ := am_bnd hf
  refine am_cut (P := AW mX5_isLetter (rX5_isLetter 0 0) (fun r h2 => r = some (.int v) ∧ h2 = h') 17 [(0, .int a0)] [.int y1] h 0 0) (fun hJ2 => ?_) ?_
  · have hs := hs
    refine AW_go okX5_isLetter 1 ?_
    refine And.intro (fun c3 => ?_) (fun c3 => ?_)
    · rw [if_pos c3] at j2
      refine AW_go okX5_isLetter 1 ?_
      obtain rfl := am_i1 j2
      exact AW_pick [0] rfl hJ2
    · rw [if_neg c3] at j2
      refine AW_go okX5_isLetter 3 ?_
      refine And.intro (fun c4 => ?_) (fun c4 => ?_)
      · rw [if_pos c4] at j2
        refine AW_go okX5_isLetter 1 ?_
        obtain rfl := am_i1 j2
        exact AW_pick [0] rfl hJ2
      · rw [if_neg c4] at j2
        refine AW_go okX5_isLetter 2 ?_
        obtain rfl := am_i1 j2
        exact AW_pick [0] rfl hJ2
  obtain ⟨b55, hf⟩ := am_bis hf
  refine AW_go okX5_isLetter 1 ?_
  obtain ⟨rfl, rfl⟩ := am_i2 hf
  exact And.intro ⟨(Nat.le_of_ble_eq_true rfl), (Nat.le_of_ble_eq_true rfl)⟩ (And.intro (Or.inr ⟨rfl, am_b01_ok b55⟩) ⟨rfl, rfl⟩)
def g_X5_isRowOfActs : Nat → Nat → Nat → Int32 → am_H → Option (Int32 × am_H)
  | 0, _, _, _, _ => none
  | n + 1, _, a0, x1i, h => bif am_isO h a0 4 then ((if (am_I h a0 1) ≤ (x1i + (Int32.ofInt 2)) then some ((Int32.ofInt 1), h) else (am_A h a0 0).bind fun q3 => ((am_ln h 0 q3).bind fun n5 => (bif am_vp x1i n5 then (am_b2 (f_X5_isMark (am_I h q3 (Int32.toNatClampNeg x1i)) h) fun r8 h9 => ((if r8 = 0 then some ((Int32.ofInt 0), h9) else bif am_isO h9 a0 4 then ((am_A h9 a0 0).bind fun q13 => ((am_ln h9 0 q13).bind fun n15 => (bif am_vp (x1i + (Int32.ofInt 1)) n15 then (am_b2 (f_X5_isDigit (am_I h9 q13 (Int32.toNatClampNeg (x1i + (Int32.ofInt 1)))) h9) fun r18 h19 => ((if r18 = 0 then some ((Int32.ofInt 0), h19) else bif am_isO h19 a0 4 then ((am_A h19 a0 0).bind fun q23 => ((am_ln h19 0 q23).bind fun n25 => (bif am_vp (x1i + (Int32.ofInt 2)) n25 then (am_b2 (f_X5_isLetter (am_I h19 q23 (Int32.toNatClampNeg (x1i + (Int32.ofInt 2)))) h19) fun r28 h29 => ((if r28 = 0 then some ((Int32.ofInt 0), h29) else g_X5_isRowOfActs n 0 a0 (x1i + Int32.ofInt 3) h29))) else none))) else none))) else none))) else none))) else none)))) else none
set_option maxRecDepth 100000 in
set_option maxHeartbeats 4000000 in
theorem m_X5_isRowOfActs (n : Nat) : (∀ (a0 : Nat) (x1i : Int32) (h : am_H) (v : Int32) (h' : am_H), am_stat h → g_X5_isRowOfActs n 0 a0 x1i h = some (v, h') → am_stat h') := by
  induction n with
  | zero => exact fun a0 x1i h v h' hs hf => (by cases hf)
  | succ n ih =>
    skip
    · intro a0 x1i h v h' hs hf
      have hf : (bif am_isO h a0 4 then ((if (am_I h a0 1) ≤ (x1i + (Int32.ofInt 2)) then some ((Int32.ofInt 1), h) else (am_A h a0 0).bind fun q3 => ((am_ln h 0 q3).bind fun n5 => (bif am_vp x1i n5 then (am_b2 (f_X5_isMark (am_I h q3 (Int32.toNatClampNeg x1i)) h) fun r8 h9 => ((if r8 = 0 then some ((Int32.ofInt 0), h9) else bif am_isO h9 a0 4 then ((am_A h9 a0 0).bind fun q13 => ((am_ln h9 0 q13).bind fun n15 => (bif am_vp (x1i + (Int32.ofInt 1)) n15 then (am_b2 (f_X5_isDigit (am_I h9 q13 (Int32.toNatClampNeg (x1i + (Int32.ofInt 1)))) h9) fun r18 h19 => ((if r18 = 0 then some ((Int32.ofInt 0), h19) else bif am_isO h19 a0 4 then ((am_A h19 a0 0).bind fun q23 => ((am_ln h19 0 q23).bind fun n25 => (bif am_vp (x1i + (Int32.ofInt 2)) n25 then (am_b2 (f_X5_isLetter (am_I h19 q23 (Int32.toNatClampNeg (x1i + (Int32.ofInt 2)))) h19) fun r28 h29 => ((if r28 = 0 then some ((Int32.ofInt 0), h29) else g_X5_isRowOfActs n 0 a0 (x1i + Int32.ofInt 3) h29))) else none))) else none))) else none))) else none))) else none)))) else none) = some (v, h') := hf
      obtain ⟨k1, hf⟩ := am_bis hf
      by_cases c2 : (am_I h a0 1) ≤ (x1i + (Int32.ofInt 2))
      · rw [if_pos c2] at hf
        obtain ⟨rfl, rfl⟩ := am_i2 hf
        exact hs
      · rw [if_neg c2] at hf
        obtain ⟨q3, k4, hf⟩ := am_bnd hf
        obtain ⟨n5, k6, hf⟩ := am_bnd hf
        obtain ⟨b7, hf⟩ := am_bis hf
        obtain ⟨r8, h9, e10, hf⟩ := am_b2_ok hf
        have hs := s_X5_isMark (am_I h q3 (Int32.toNatClampNeg x1i)) h hs e10
        by_cases c11 : r8 = 0
        · rw [if_pos c11] at hf
          obtain ⟨rfl, rfl⟩ := am_i2 hf
          exact hs
        · rw [if_neg c11] at hf
          obtain ⟨k12, hf⟩ := am_bis hf
          obtain ⟨q13, k14, hf⟩ := am_bnd hf
          obtain ⟨n15, k16, hf⟩ := am_bnd hf
          obtain ⟨b17, hf⟩ := am_bis hf
          obtain ⟨r18, h19, e20, hf⟩ := am_b2_ok hf
          have hs := s_X5_isDigit (am_I h9 q13 (Int32.toNatClampNeg (x1i + (Int32.ofInt 1)))) h9 hs e20
          by_cases c21 : r18 = 0
          · rw [if_pos c21] at hf
            obtain ⟨rfl, rfl⟩ := am_i2 hf
            exact hs
          · rw [if_neg c21] at hf
            obtain ⟨k22, hf⟩ := am_bis hf
            obtain ⟨q23, k24, hf⟩ := am_bnd hf
            obtain ⟨n25, k26, hf⟩ := am_bnd hf
            obtain ⟨b27, hf⟩ := am_bis hf
            obtain ⟨r28, h29, e30, hf⟩ := am_b2_ok hf
            have hs := s_X5_isLetter (am_I h19 q23 (Int32.toNatClampNeg (x1i + (Int32.ofInt 2)))) h19 hs e30
            by_cases c31 : r28 = 0
            · rw [if_pos c31] at hf
              obtain ⟨rfl, rfl⟩ := am_i2 hf
              exact hs
            · rw [if_neg c31] at hf
              exact ih a0 (x1i + Int32.ofInt 3) h29 _ _ hs hf
set_option maxRecDepth 100000 in
set_option maxHeartbeats 4000000 in
theorem l_X5_isRowOfActs (n : Nat) : (∀ (a0 : Nat) (x1i : Int32) (h : am_H) (v : Int32) (h' : am_H), am_stat h → g_X5_isRowOfActs n 0 a0 x1i h = some (v, h') → AW mX5_isRowOfActs (rX5_isRowOfActs 0 0) (fun r h2 => r = some (.int v) ∧ h2 = h') 13 [(0, .ref a0), (1, .int x1i)] [] h 0 0) := by
  induction n with
  | zero => exact fun a0 x1i h v h' hs hf => (by cases hf)
  | succ n ih =>
    skip
    · intro a0 x1i h v h' hs hf
      have hf : (bif am_isO h a0 4 then ((if (am_I h a0 1) ≤ (x1i + (Int32.ofInt 2)) then some ((Int32.ofInt 1), h) else (am_A h a0 0).bind fun q3 => ((am_ln h 0 q3).bind fun n5 => (bif am_vp x1i n5 then (am_b2 (f_X5_isMark (am_I h q3 (Int32.toNatClampNeg x1i)) h) fun r8 h9 => ((if r8 = 0 then some ((Int32.ofInt 0), h9) else bif am_isO h9 a0 4 then ((am_A h9 a0 0).bind fun q13 => ((am_ln h9 0 q13).bind fun n15 => (bif am_vp (x1i + (Int32.ofInt 1)) n15 then (am_b2 (f_X5_isDigit (am_I h9 q13 (Int32.toNatClampNeg (x1i + (Int32.ofInt 1)))) h9) fun r18 h19 => ((if r18 = 0 then some ((Int32.ofInt 0), h19) else bif am_isO h19 a0 4 then ((am_A h19 a0 0).bind fun q23 => ((am_ln h19 0 q23).bind fun n25 => (bif am_vp (x1i + (Int32.ofInt 2)) n25 then (am_b2 (f_X5_isLetter (am_I h19 q23 (Int32.toNatClampNeg (x1i + (Int32.ofInt 2)))) h19) fun r28 h29 => ((if r28 = 0 then some ((Int32.ofInt 0), h29) else g_X5_isRowOfActs n 0 a0 (x1i + Int32.ofInt 3) h29))) else none))) else none))) else none))) else none))) else none)))) else none) = some (v, h') := hf
      obtain ⟨k1, hf⟩ := am_bis hf
      refine AW_go okX5_isRowOfActs 6 ?_
      refine And.intro (am_isO_ok k1) ?_
      refine And.intro (fun c2 => ?_) (fun c2 => ?_)
      · rw [if_pos c2] at hf
        refine AW_go okX5_isRowOfActs 2 ?_
        obtain ⟨rfl, rfl⟩ := am_i2 hf
        exact And.intro ⟨(Nat.le_of_ble_eq_true rfl), (Nat.le_of_ble_eq_true rfl)⟩ (And.intro (Or.inr ⟨rfl, Or.inr rfl⟩) ⟨rfl, rfl⟩)
      · rw [if_neg c2] at hf
        obtain ⟨q3, k4, hf⟩ := am_bnd hf
        obtain ⟨n5, k6, hf⟩ := am_bnd hf
        obtain ⟨b7, hf⟩ := am_bis hf
        refine AW_go okX5_isRowOfActs 4 ?_
        refine And.intro (am_isO_ok k1) (Exists.intro (some q3) (And.intro k4 ?_))
        refine Exists.intro n5 (And.intro (am_ln_ok k6) (And.intro (am_vp_ok b7) ?_))
        obtain ⟨r8, h9, e10, hf⟩ := am_b2_ok hf
        refine AW_callS (As := [.int (am_I h q3 (Int32.toNatClampNeg x1i))]) (R' := rX5_isMark 0 0) (okX5_isRowOfActs.1 29 _ _ rfl) lkX5_isMark (Or.inl kX5_71) rfl (Nat.le_of_ble_eq_true rfl) ⟨by decide, by decide⟩ ⟨(Nat.le_of_ble_eq_true rfl), (Nat.le_of_ble_eq_true rfl)⟩ (Nat.le_of_ble_eq_true rfl) (c_X5_isMark (am_I h q3 (Int32.toNatClampNeg x1i)) h hs e10) (fun r h' hq => ?_)
        obtain ⟨rfl, hq⟩ := hq
        replace hq := hq.symm
        subst hq
        have hs := s_X5_isMark (am_I h q3 (Int32.toNatClampNeg x1i)) h hs e10
        refine AW_go okX5_isRowOfActs 1 ?_
        refine And.intro (fun c11 => ?_) (fun c11 => ?_)
        · rw [if_pos c11] at hf
          refine AW_go okX5_isRowOfActs 2 ?_
          obtain ⟨rfl, rfl⟩ := am_i2 hf
          exact And.intro ⟨(Nat.le_of_ble_eq_true rfl), (Nat.le_of_ble_eq_true rfl)⟩ (And.intro (Or.inr ⟨rfl, Or.inl rfl⟩) ⟨rfl, rfl⟩)
        · rw [if_neg c11] at hf
          obtain ⟨k12, hf⟩ := am_bis hf
          obtain ⟨q13, k14, hf⟩ := am_bnd hf
          obtain ⟨n15, k16, hf⟩ := am_bnd hf
          obtain ⟨b17, hf⟩ := am_bis hf
          refine AW_go okX5_isRowOfActs 6 ?_
          refine And.intro (am_isO_ok k12) (Exists.intro (some q13) (And.intro k14 ?_))
          refine Exists.intro n15 (And.intro (am_ln_ok k16) (And.intro (am_vp_ok b17) ?_))
          obtain ⟨r18, h19, e20, hf⟩ := am_b2_ok hf
          refine AW_callS (As := [.int (am_I h9 q13 (Int32.toNatClampNeg (x1i + (Int32.ofInt 1))))]) (R' := rX5_isDigit 0 0) (okX5_isRowOfActs.1 43 _ _ rfl) lkX5_isDigit (Or.inl kX5_60) rfl (Nat.le_of_ble_eq_true rfl) ⟨by decide, by decide⟩ ⟨(Nat.le_of_ble_eq_true rfl), (Nat.le_of_ble_eq_true rfl)⟩ (Nat.le_of_ble_eq_true rfl) (c_X5_isDigit (am_I h9 q13 (Int32.toNatClampNeg (x1i + (Int32.ofInt 1)))) h9 hs e20) (fun r h' hq => ?_)
          obtain ⟨rfl, hq⟩ := hq
          replace hq := hq.symm
          subst hq
          have hs := s_X5_isDigit (am_I h9 q13 (Int32.toNatClampNeg (x1i + (Int32.ofInt 1)))) h9 hs e20
          refine AW_go okX5_isRowOfActs 1 ?_
          refine And.intro (fun c21 => ?_) (fun c21 => ?_)
          · rw [if_pos c21] at hf
            refine AW_go okX5_isRowOfActs 2 ?_
            obtain ⟨rfl, rfl⟩ := am_i2 hf
            exact And.intro ⟨(Nat.le_of_ble_eq_true rfl), (Nat.le_of_ble_eq_true rfl)⟩ (And.intro (Or.inr ⟨rfl, Or.inl rfl⟩) ⟨rfl, rfl⟩)
          · rw [if_neg c21] at hf
            obtain ⟨k22, hf⟩ := am_bis hf
            obtain ⟨q23, k24, hf⟩ := am_bnd hf
            obtain ⟨n25, k26, hf⟩ := am_bnd hf
            obtain ⟨b27, hf⟩ := am_bis hf
            refine AW_go okX5_isRowOfActs 6 ?_
            refine And.intro (am_isO_ok k22) (Exists.intro (some q23) (And.intro k24 ?_))
            refine Exists.intro n25 (And.intro (am_ln_ok k26) (And.intro (am_vp_ok b27) ?_))
            obtain ⟨r28, h29, e30, hf⟩ := am_b2_ok hf
            refine AW_callS (As := [.int (am_I h19 q23 (Int32.toNatClampNeg (x1i + (Int32.ofInt 2))))]) (R' := rX5_isLetter 0 0) (okX5_isRowOfActs.1 57 _ _ rfl) lkX5_isLetter (Or.inl kX5_64) rfl (Nat.le_of_ble_eq_true rfl) ⟨by decide, by decide⟩ ⟨(Nat.le_of_ble_eq_true rfl), (Nat.le_of_ble_eq_true rfl)⟩ (Nat.le_of_ble_eq_true rfl) (c_X5_isLetter (am_I h19 q23 (Int32.toNatClampNeg (x1i + (Int32.ofInt 2)))) h19 hs e30) (fun r h' hq => ?_)
            obtain ⟨rfl, hq⟩ := hq
            replace hq := hq.symm
            subst hq
            have hs := s_X5_isLetter (am_I h19 q23 (Int32.toNatClampNeg (x1i + (Int32.ofInt 2)))) h19 hs e30
            refine AW_go okX5_isRowOfActs 1 ?_
            refine And.intro (fun c31 => ?_) (fun c31 => ?_)
            · rw [if_neg c31] at hf
              refine AW_go okX5_isRowOfActs 2 ?_
              refine AW_pick (lv' := [(0, .ref a0), (1, .int (x1i + Int32.ofInt 3))]) [1, 0] rfl ?_
              exact ih a0 (x1i + Int32.ofInt 3) h29 _ _ hs hf
            · rw [if_pos c31] at hf
              refine AW_go okX5_isRowOfActs 2 ?_
              obtain ⟨rfl, rfl⟩ := am_i2 hf
              exact And.intro ⟨(Nat.le_of_ble_eq_true rfl), (Nat.le_of_ble_eq_true rfl)⟩ (And.intro (Or.inr ⟨rfl, Or.inl rfl⟩) ⟨rfl, rfl⟩)
def f_X5_isRowOfActs (n : Nat) (a0 : Nat) (h : am_H) : Option (Int32 × am_H) := bif am_isO h a0 4 then ((if ((am_I h a0 1) - (am_I h a0 1) / (Int32.ofInt 3) * (Int32.ofInt 3)) = 0 then g_X5_isRowOfActs n 0 a0 (Int32.ofInt 0) h else some ((Int32.ofInt 0), h))) else none
set_option maxRecDepth 100000 in
theorem s_X5_isRowOfActs (n : Nat) (a0 : Nat) (h : am_H) (hs : am_stat h) {v : Int32} {h' : am_H} (hf : f_X5_isRowOfActs n a0 h = some (v, h')) : am_stat h' := by
  unfold f_X5_isRowOfActs at hf
  obtain ⟨k1, hf⟩ := am_bis hf
  by_cases c2 : ((am_I h a0 1) - (am_I h a0 1) / (Int32.ofInt 3) * (Int32.ofInt 3)) = 0
  · rw [if_pos c2] at hf
    exact (m_X5_isRowOfActs n) a0 (Int32.ofInt 0) h _ _ hs hf
  · rw [if_neg c2] at hf
    obtain ⟨rfl, rfl⟩ := am_i2 hf
    exact hs
set_option maxRecDepth 100000 in
theorem c_X5_isRowOfActs (n : Nat) (a0 : Nat) (h : am_H) (hs : am_stat h) {v : Int32} {h' : am_H} (hf : f_X5_isRowOfActs n a0 h = some (v, h')) : AMet mX5_isRowOfActs (rX5_isRowOfActs 0 0) (fun r h2 => r = some (.int v) ∧ h2 = h') [.ref a0] h := by
  unfold f_X5_isRowOfActs at hf
  obtain ⟨k1, hf⟩ := am_bis hf
  refine AW_go okX5_isRowOfActs 5 ?_
  refine And.intro (am_isO_ok k1) ?_
  refine And.intro (by decide) ?_
  refine And.intro (fun c2 => ?_) (fun c2 => ?_)
  · rw [if_pos c2] at hf
    refine AW_go okX5_isRowOfActs 2 ?_
    refine AW_pick (lv' := [(0, .ref a0), (1, .int (Int32.ofInt 0))]) [1, 0] rfl ?_
    exact (l_X5_isRowOfActs n) a0 (Int32.ofInt 0) h _ _ hs hf
  · rw [if_neg c2] at hf
    refine AW_go okX5_isRowOfActs 2 ?_
    obtain ⟨rfl, rfl⟩ := am_i2 hf
    exact And.intro ⟨(Nat.le_of_ble_eq_true rfl), (Nat.le_of_ble_eq_true rfl)⟩ (And.intro (Or.inr ⟨rfl, Or.inl rfl⟩) ⟨rfl, rfl⟩)
