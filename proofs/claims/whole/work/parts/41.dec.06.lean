def g_X9_one : Nat → Nat → Int32 → am_H → Option (Int32 × am_H)
  | 0, _, _, _ => none
  | n + 1, _, x1i, h => (if (am_I h 51 0) ≤ x1i then bif am_vp (am_I h 51 6) 3 then (some (((am_I (am_sI (am_sI (am_sI h 57 (Int32.toNatClampNeg (am_I h 51 6)) (am_I h 51 0)) 51 6 ((am_I (am_sI h 57 (Int32.toNatClampNeg (am_I h 51 6)) (am_I h 51 0)) 51 6) + (Int32.ofInt 1))) 51 0 (Int32.ofInt 0)) 51 6) - (Int32.ofInt 1)), (am_sI (am_sI (am_sI h 57 (Int32.toNatClampNeg (am_I h 51 6)) (am_I h 51 0)) 51 6 ((am_I (am_sI h 57 (Int32.toNatClampNeg (am_I h 51 6)) (am_I h 51 0)) 51 6) + (Int32.ofInt 1))) 51 0 (Int32.ofInt 0)))) else none else bif am_vp x1i 60 then (bif am_vp (((Int32.ofInt 60) * (am_I h 51 6)) + x1i) 180 then (g_X9_one n 0 (x1i + Int32.ofInt 1) (am_sI h 56 (Int32.toNatClampNeg (((Int32.ofInt 60) * (am_I h 51 6)) + x1i)) (vp_nar (am_at 1) (am_I h 52 (Int32.toNatClampNeg x1i))))) else none) else none)
set_option maxRecDepth 100000 in
set_option maxHeartbeats 4000000 in
theorem m_X9_one (n : Nat) : (∀ (x1i : Int32) (h : am_H) (v : Int32) (h' : am_H), am_stat h → g_X9_one n 0 x1i h = some (v, h') → am_stat h') := by
  induction n with
  | zero => exact fun x1i h v h' hs hf => (by cases hf)
  | succ n ih =>
    skip
    · intro x1i h v h' hs hf
      have hf : ((if (am_I h 51 0) ≤ x1i then bif am_vp (am_I h 51 6) 3 then (some (((am_I (am_sI (am_sI (am_sI h 57 (Int32.toNatClampNeg (am_I h 51 6)) (am_I h 51 0)) 51 6 ((am_I (am_sI h 57 (Int32.toNatClampNeg (am_I h 51 6)) (am_I h 51 0)) 51 6) + (Int32.ofInt 1))) 51 0 (Int32.ofInt 0)) 51 6) - (Int32.ofInt 1)), (am_sI (am_sI (am_sI h 57 (Int32.toNatClampNeg (am_I h 51 6)) (am_I h 51 0)) 51 6 ((am_I (am_sI h 57 (Int32.toNatClampNeg (am_I h 51 6)) (am_I h 51 0)) 51 6) + (Int32.ofInt 1))) 51 0 (Int32.ofInt 0)))) else none else bif am_vp x1i 60 then (bif am_vp (((Int32.ofInt 60) * (am_I h 51 6)) + x1i) 180 then (g_X9_one n 0 (x1i + Int32.ofInt 1) (am_sI h 56 (Int32.toNatClampNeg (((Int32.ofInt 60) * (am_I h 51 6)) + x1i)) (vp_nar (am_at 1) (am_I h 52 (Int32.toNatClampNeg x1i))))) else none) else none)) = some (v, h') := hf
      by_cases c1 : (am_I h 51 0) ≤ x1i
      · rw [if_pos c1] at hf
        obtain ⟨b2, hf⟩ := am_bis hf
        obtain ⟨rfl, rfl⟩ := am_i2 hf
        exact hs
      · rw [if_neg c1] at hf
        obtain ⟨b3, hf⟩ := am_bis hf
        obtain ⟨b4, hf⟩ := am_bis hf
        exact ih (x1i + Int32.ofInt 1) (am_sI h 56 (Int32.toNatClampNeg (((Int32.ofInt 60) * (am_I h 51 6)) + x1i)) (vp_nar (am_at 1) (am_I h 52 (Int32.toNatClampNeg x1i)))) _ _ hs hf
set_option maxRecDepth 100000 in
set_option maxHeartbeats 4000000 in
theorem l_X9_one (n : Nat) : (∀ (x1i : Int32) (h : am_H) (v : Int32) (h' : am_H), am_stat h → g_X9_one n 0 x1i h = some (v, h') → AW mX9_one (rX9_one 0 0) (fun r h2 => r = some (.int v) ∧ h2 = h') 43 [(0, .ref 51), (1, .int x1i)] [] h 0 0) := by
  induction n with
  | zero => exact fun x1i h v h' hs hf => (by cases hf)
  | succ n ih =>
    skip
    · intro x1i h v h' hs hf
      have hf : ((if (am_I h 51 0) ≤ x1i then bif am_vp (am_I h 51 6) 3 then (some (((am_I (am_sI (am_sI (am_sI h 57 (Int32.toNatClampNeg (am_I h 51 6)) (am_I h 51 0)) 51 6 ((am_I (am_sI h 57 (Int32.toNatClampNeg (am_I h 51 6)) (am_I h 51 0)) 51 6) + (Int32.ofInt 1))) 51 0 (Int32.ofInt 0)) 51 6) - (Int32.ofInt 1)), (am_sI (am_sI (am_sI h 57 (Int32.toNatClampNeg (am_I h 51 6)) (am_I h 51 0)) 51 6 ((am_I (am_sI h 57 (Int32.toNatClampNeg (am_I h 51 6)) (am_I h 51 0)) 51 6) + (Int32.ofInt 1))) 51 0 (Int32.ofInt 0)))) else none else bif am_vp x1i 60 then (bif am_vp (((Int32.ofInt 60) * (am_I h 51 6)) + x1i) 180 then (g_X9_one n 0 (x1i + Int32.ofInt 1) (am_sI h 56 (Int32.toNatClampNeg (((Int32.ofInt 60) * (am_I h 51 6)) + x1i)) (vp_nar (am_at 1) (am_I h 52 (Int32.toNatClampNeg x1i))))) else none) else none)) = some (v, h') := hf
      refine AW_go okX9_one 4 ?_
      refine And.intro (sK hs 51) ?_
      refine And.intro (fun c1 => ?_) (fun c1 => ?_)
      · rw [if_pos c1] at hf
        obtain ⟨b2, hf⟩ := am_bis hf
        refine AW_go okX9_one 21 ?_
        refine And.intro (sK hs 51) (Exists.intro _ (And.intro (sA hs 51 8) ?_))
        refine And.intro (sK hs 51) ?_
        refine And.intro (sK hs 51) ?_
        refine Exists.intro 3 (And.intro (sK hs 57) (And.intro (am_vp_ok b2) ?_))
        refine And.intro (sK hs 51) ?_
        refine And.intro (sK hs 51) ?_
        refine And.intro (sK hs 51) ?_
        refine And.intro (sK hs 51) ?_
        obtain ⟨rfl, rfl⟩ := am_i2 hf
        exact And.intro ⟨(Nat.le_of_ble_eq_true rfl), (Nat.le_of_ble_eq_true rfl)⟩ (And.intro (Or.inl rfl) ⟨rfl, rfl⟩)
      · rw [if_neg c1] at hf
        obtain ⟨b3, hf⟩ := am_bis hf
        obtain ⟨b4, hf⟩ := am_bis hf
        refine AW_go okX9_one 15 ?_
        refine And.intro (sK hs 51) (Exists.intro _ (And.intro (sA hs 51 7) ?_))
        refine And.intro (sK hs 51) ?_
        refine And.intro (sK hs 51) (Exists.intro _ (And.intro (sA hs 51 1) ?_))
        refine Exists.intro 1 (Exists.intro 60 (And.intro (by decide) (And.intro (sK hs 52) (And.intro (am_vp_ok b3) ?_))))
        refine Exists.intro 1 (Exists.intro 180 (And.intro (by decide) (And.intro (sK hs 56) (And.intro (am_vp_ok b4) ?_))))
        refine AW_pick (lv' := [(0, .ref 51), (1, .int (x1i + Int32.ofInt 1))]) [1, 0] rfl ?_
        exact ih (x1i + Int32.ofInt 1) (am_sI h 56 (Int32.toNatClampNeg (((Int32.ofInt 60) * (am_I h 51 6)) + x1i)) (vp_nar (am_at 1) (am_I h 52 (Int32.toNatClampNeg x1i)))) _ _ hs hf
def f_X9_one (n : Nat) (h : am_H) : Option (Int32 × am_H) := am_b2 (f_X9_readPage n (Int32.ofInt 1) h) fun r1 h2 => ((if (am_I h2 51 15) = 0 then some ((Int32.ofInt (-103)), h2) else am_b2 (f_X9_layIdle n (Int32.ofInt 1) h2) fun r5 h6 => ((if (am_I h6 51 23) = 0 then (if (am_I h6 51 6) = (Int32.ofInt 3) then some ((Int32.ofInt (-104)), h6) else g_X9_one n 0 (Int32.ofInt 0) h6) else some ((Int32.ofInt (-103)), h6)))))
set_option maxRecDepth 100000 in
theorem s_X9_one (n : Nat) (h : am_H) (hs : am_stat h) {v : Int32} {h' : am_H} (hf : f_X9_one n h = some (v, h')) : am_stat h' := by
  unfold f_X9_one at hf
  obtain ⟨r1, h2, e3, hf⟩ := am_b2_ok hf
  have hs := s_X9_readPage n (Int32.ofInt 1) h hs e3
  by_cases c4 : (am_I h2 51 15) = 0
  · rw [if_pos c4] at hf
    obtain ⟨rfl, rfl⟩ := am_i2 hf
    exact hs
  · rw [if_neg c4] at hf
    obtain ⟨r5, h6, e7, hf⟩ := am_b2_ok hf
    have hs := s_X9_layIdle n (Int32.ofInt 1) h2 hs e7
    by_cases c8 : (am_I h6 51 23) = 0
    · rw [if_pos c8] at hf
      by_cases c9 : (am_I h6 51 6) = (Int32.ofInt 3)
      · rw [if_pos c9] at hf
        obtain ⟨rfl, rfl⟩ := am_i2 hf
        exact hs
      · rw [if_neg c9] at hf
        exact (m_X9_one n) (Int32.ofInt 0) h6 _ _ hs hf
    · rw [if_neg c8] at hf
      obtain ⟨rfl, rfl⟩ := am_i2 hf
      exact hs
set_option maxRecDepth 100000 in
theorem c_X9_one (n : Nat) (h : am_H) (hs : am_stat h) {v : Int32} {h' : am_H} (hf : f_X9_one n h = some (v, h')) : AMet mX9_one (rX9_one 0 0) (fun r h2 => r = some (.int v) ∧ h2 = h') [.ref 51] h := by
  unfold f_X9_one at hf
  refine AW_go okX9_one 2 ?_
  obtain ⟨r1, h2, e3, hf⟩ := am_b2_ok hf
  refine AW_callV (As := [.int (Int32.ofInt 1)]) (R' := rX9_readPage 0 0) (T := TX9) (N := 58) (ci := 9) (okX9_one.1 2 _ _ rfl) lkX9_readPage kX9_152 rfl (sK hs 51) rfl (Nat.le_of_ble_eq_true rfl) ⟨by decide, by decide⟩ ⟨(Nat.le_of_ble_eq_true rfl), (Nat.le_of_ble_eq_true rfl)⟩ (Nat.le_of_ble_eq_true rfl) (c_X9_readPage n (Int32.ofInt 1) h hs e3) (fun r h' hq => ?_)
  obtain ⟨rfl, hq⟩ := hq
  replace hq := hq.symm
  subst hq
  have hs := s_X9_readPage n (Int32.ofInt 1) h hs e3
  refine AW_go okX9_one 3 ?_
  refine And.intro (sK hs 51) ?_
  refine And.intro (fun c4 => ?_) (fun c4 => ?_)
  · rw [if_neg c4] at hf
    refine AW_go okX9_one 2 ?_
    obtain ⟨r5, h6, e7, hf⟩ := am_b2_ok hf
    refine AW_callV (As := [.int (Int32.ofInt 1)]) (R' := rX9_layIdle 0 0) (T := TX9) (N := 58) (ci := 9) (okX9_one.1 17 _ _ rfl) lkX9_layIdle kX9_190 rfl (sK hs 51) rfl (Nat.le_of_ble_eq_true rfl) ⟨by decide, by decide⟩ ⟨(Nat.le_of_ble_eq_true rfl), (Nat.le_of_ble_eq_true rfl)⟩ (Nat.le_of_ble_eq_true rfl) (c_X9_layIdle n (Int32.ofInt 1) h2 hs e7) (fun r h' hq => ?_)
    obtain ⟨rfl, hq⟩ := hq
    replace hq := hq.symm
    subst hq
    have hs := s_X9_layIdle n (Int32.ofInt 1) h2 hs e7
    refine AW_go okX9_one 3 ?_
    refine And.intro (sK hs 51) ?_
    refine And.intro (fun c8 => ?_) (fun c8 => ?_)
    · rw [if_pos c8] at hf
      refine AW_go okX9_one 4 ?_
      refine And.intro (sK hs 51) ?_
      refine And.intro (fun c9 => ?_) (fun c9 => ?_)
      · rw [if_neg c9] at hf
        refine AW_go okX9_one 2 ?_
        refine AW_pick (lv' := [(0, .ref 51), (1, .int (Int32.ofInt 0))]) [1, 0] rfl ?_
        exact (l_X9_one n) (Int32.ofInt 0) h6 _ _ hs hf
      · rw [if_pos c9] at hf
        refine AW_go okX9_one 2 ?_
        obtain ⟨rfl, rfl⟩ := am_i2 hf
        exact And.intro ⟨(Nat.le_of_ble_eq_true rfl), (Nat.le_of_ble_eq_true rfl)⟩ (And.intro (Or.inl rfl) ⟨rfl, rfl⟩)
    · rw [if_neg c8] at hf
      refine AW_go okX9_one 2 ?_
      obtain ⟨rfl, rfl⟩ := am_i2 hf
      exact And.intro ⟨(Nat.le_of_ble_eq_true rfl), (Nat.le_of_ble_eq_true rfl)⟩ (And.intro (Or.inl rfl) ⟨rfl, rfl⟩)
  · rw [if_pos c4] at hf
    refine AW_go okX9_one 2 ?_
    obtain ⟨rfl, rfl⟩ := am_i2 hf
    exact And.intro ⟨(Nat.le_of_ble_eq_true rfl), (Nat.le_of_ble_eq_true rfl)⟩ (And.intro (Or.inl rfl) ⟨rfl, rfl⟩)
def f_X9_isOffice (a0 : Int32) (h : am_H) : Option (Int32 × am_H) := am_b2 (f_X9_within a0 (Int32.ofInt 0) (Int32.ofInt 2) h) fun r1 h2 => (bif am_b01 r1 then (some (r1, h2)) else none)
set_option maxRecDepth 100000 in
theorem s_X9_isOffice (a0 : Int32) (h : am_H) (hs : am_stat h) {v : Int32} {h' : am_H} (hf : f_X9_isOffice a0 h = some (v, h')) : am_stat h' := by
  unfold f_X9_isOffice at hf
  obtain ⟨r1, h2, e3, hf⟩ := am_b2_ok hf
  have hs := s_X9_within a0 (Int32.ofInt 0) (Int32.ofInt 2) h hs e3
  obtain ⟨b4, hf⟩ := am_bis hf
  obtain ⟨rfl, rfl⟩ := am_i2 hf
  exact hs
set_option maxRecDepth 100000 in
theorem c_X9_isOffice (a0 : Int32) (h : am_H) (hs : am_stat h) {v : Int32} {h' : am_H} (hf : f_X9_isOffice a0 h = some (v, h')) : AMet mX9_isOffice (rX9_isOffice 0 0) (fun r h2 => r = some (.int v) ∧ h2 = h') [.int a0] h := by
  unfold f_X9_isOffice at hf
  refine AW_go okX9_isOffice 3 ?_
  obtain ⟨r1, h2, e3, hf⟩ := am_b2_ok hf
  refine AW_callS (As := [.int a0, .int (Int32.ofInt 0), .int (Int32.ofInt 2)]) (R' := rX9_within 0 0) (okX9_isOffice.1 3 _ _ rfl) lkX9_within (Or.inl kX9_134) rfl (Nat.le_of_ble_eq_true rfl) ⟨by decide, by decide⟩ ⟨(Nat.le_of_ble_eq_true rfl), (Nat.le_of_ble_eq_true rfl)⟩ (Nat.le_of_ble_eq_true rfl) (c_X9_within a0 (Int32.ofInt 0) (Int32.ofInt 2) h hs e3) (fun r h' hq => ?_)
  obtain ⟨rfl, hq⟩ := hq
  replace hq := hq.symm
  subst hq
  have hs := s_X9_within a0 (Int32.ofInt 0) (Int32.ofInt 2) h hs e3
  obtain ⟨b4, hf⟩ := am_bis hf
  refine AW_go okX9_isOffice 1 ?_
  obtain ⟨rfl, rfl⟩ := am_i2 hf
  exact And.intro ⟨(Nat.le_of_ble_eq_true rfl), (Nat.le_of_ble_eq_true rfl)⟩ (And.intro (Or.inr ⟨rfl, am_b01_ok b4⟩) ⟨rfl, rfl⟩)
def f_X9_isBook (a1 : Int32) (h : am_H) : Option (Int32 × am_H) := am_b2 (f_X9_within a1 (Int32.ofInt 0) ((am_I h 51 2) - (Int32.ofInt 1)) h) fun r1 h2 => (bif am_b01 r1 then (some (r1, h2)) else none)
set_option maxRecDepth 100000 in
theorem s_X9_isBook (a1 : Int32) (h : am_H) (hs : am_stat h) {v : Int32} {h' : am_H} (hf : f_X9_isBook a1 h = some (v, h')) : am_stat h' := by
  unfold f_X9_isBook at hf
  obtain ⟨r1, h2, e3, hf⟩ := am_b2_ok hf
  have hs := s_X9_within a1 (Int32.ofInt 0) ((am_I h 51 2) - (Int32.ofInt 1)) h hs e3
  obtain ⟨b4, hf⟩ := am_bis hf
  obtain ⟨rfl, rfl⟩ := am_i2 hf
  exact hs
set_option maxRecDepth 100000 in
theorem c_X9_isBook (a1 : Int32) (h : am_H) (hs : am_stat h) {v : Int32} {h' : am_H} (hf : f_X9_isBook a1 h = some (v, h')) : AMet mX9_isBook (rX9_isBook 0 0) (fun r h2 => r = some (.int v) ∧ h2 = h') [.ref 51, .int a1] h := by
  unfold f_X9_isBook at hf
  refine AW_go okX9_isBook 6 ?_
  refine And.intro (sK hs 51) ?_
  obtain ⟨r1, h2, e3, hf⟩ := am_b2_ok hf
  refine AW_callS (As := [.int a1, .int (Int32.ofInt 0), .int ((am_I h 51 2) - (Int32.ofInt 1))]) (R' := rX9_within 0 0) (okX9_isBook.1 8 _ _ rfl) lkX9_within (Or.inl kX9_134) rfl (Nat.le_of_ble_eq_true rfl) ⟨by decide, by decide⟩ ⟨(Nat.le_of_ble_eq_true rfl), (Nat.le_of_ble_eq_true rfl)⟩ (Nat.le_of_ble_eq_true rfl) (c_X9_within a1 (Int32.ofInt 0) ((am_I h 51 2) - (Int32.ofInt 1)) h hs e3) (fun r h' hq => ?_)
  obtain ⟨rfl, hq⟩ := hq
  replace hq := hq.symm
  subst hq
  have hs := s_X9_within a1 (Int32.ofInt 0) ((am_I h 51 2) - (Int32.ofInt 1)) h hs e3
  obtain ⟨b4, hf⟩ := am_bis hf
  refine AW_go okX9_isBook 1 ?_
  obtain ⟨rfl, rfl⟩ := am_i2 hf
  exact And.intro ⟨(Nat.le_of_ble_eq_true rfl), (Nat.le_of_ble_eq_true rfl)⟩ (And.intro (Or.inr ⟨rfl, am_b01_ok b4⟩) ⟨rfl, rfl⟩)
def g_X9_twin : Nat → Nat → Int32 → Int32 → am_H → Option (Int32 × am_H)
  | 0, _, _, _, _ => none
  | n + 1, _, a1, x2i, h => (if (Int32.ofInt 16) ≤ x2i then some (((am_I (am_sI h 51 2 ((am_I h 51 2) + (Int32.ofInt 1))) 51 2) - (Int32.ofInt 1)), (am_sI h 51 2 ((am_I h 51 2) + (Int32.ofInt 1)))) else bif am_vp (((Int32.ofInt 16) * a1) + x2i) 128 then (Option.bind ((if (am_I h 53 (Int32.toNatClampNeg (((Int32.ofInt 16) * a1) + x2i))) < (Int32.ofInt 100) then some ((am_I h 53 (Int32.toNatClampNeg (((Int32.ofInt 16) * a1) + x2i))) + (Int32.ofInt 100)) else some ((am_I h 53 (Int32.toNatClampNeg (((Int32.ofInt 16) * a1) + x2i))) - (Int32.ofInt 100)))) fun y3 => (bif am_vp (((Int32.ofInt 16) * (am_I h 51 2)) + x2i) 128 then (bif am_vp (((Int32.ofInt 16) * (am_I (am_sI h 53 (Int32.toNatClampNeg (((Int32.ofInt 16) * (am_I h 51 2)) + x2i)) y3) 51 2)) + x2i) 128 then (g_X9_twin n 0 a1 (x2i + Int32.ofInt 1) (am_sI (am_sI h 53 (Int32.toNatClampNeg (((Int32.ofInt 16) * (am_I h 51 2)) + x2i)) y3) 54 (Int32.toNatClampNeg (((Int32.ofInt 16) * (am_I (am_sI h 53 (Int32.toNatClampNeg (((Int32.ofInt 16) * (am_I h 51 2)) + x2i)) y3) 51 2)) + x2i)) (am_I (am_sI h 53 (Int32.toNatClampNeg (((Int32.ofInt 16) * (am_I h 51 2)) + x2i)) y3) 54 (Int32.toNatClampNeg (((Int32.ofInt 16) * a1) + x2i))))) else none) else none)) else none)
set_option maxRecDepth 100000 in
set_option maxHeartbeats 4000000 in
theorem m_X9_twin (n : Nat) : (∀ (a1 : Int32) (x2i : Int32) (h : am_H) (v : Int32) (h' : am_H), am_stat h → g_X9_twin n 0 a1 x2i h = some (v, h') → am_stat h') := by
  induction n with
  | zero => exact fun a1 x2i h v h' hs hf => (by cases hf)
  | succ n ih =>
    skip
    · intro a1 x2i h v h' hs hf
      have hf : ((if (Int32.ofInt 16) ≤ x2i then some (((am_I (am_sI h 51 2 ((am_I h 51 2) + (Int32.ofInt 1))) 51 2) - (Int32.ofInt 1)), (am_sI h 51 2 ((am_I h 51 2) + (Int32.ofInt 1)))) else bif am_vp (((Int32.ofInt 16) * a1) + x2i) 128 then (Option.bind ((if (am_I h 53 (Int32.toNatClampNeg (((Int32.ofInt 16) * a1) + x2i))) < (Int32.ofInt 100) then some ((am_I h 53 (Int32.toNatClampNeg (((Int32.ofInt 16) * a1) + x2i))) + (Int32.ofInt 100)) else some ((am_I h 53 (Int32.toNatClampNeg (((Int32.ofInt 16) * a1) + x2i))) - (Int32.ofInt 100)))) fun y3 => (bif am_vp (((Int32.ofInt 16) * (am_I h 51 2)) + x2i) 128 then (bif am_vp (((Int32.ofInt 16) * (am_I (am_sI h 53 (Int32.toNatClampNeg (((Int32.ofInt 16) * (am_I h 51 2)) + x2i)) y3) 51 2)) + x2i) 128 then (g_X9_twin n 0 a1 (x2i + Int32.ofInt 1) (am_sI (am_sI h 53 (Int32.toNatClampNeg (((Int32.ofInt 16) * (am_I h 51 2)) + x2i)) y3) 54 (Int32.toNatClampNeg (((Int32.ofInt 16) * (am_I (am_sI h 53 (Int32.toNatClampNeg (((Int32.ofInt 16) * (am_I h 51 2)) + x2i)) y3) 51 2)) + x2i)) (am_I (am_sI h 53 (Int32.toNatClampNeg (((Int32.ofInt 16) * (am_I h 51 2)) + x2i)) y3) 54 (Int32.toNatClampNeg (((Int32.ofInt 16) * a1) + x2i))))) else none) else none)) else none)) = some (v, h') := hf
      by_cases c1 : (Int32.ofInt 16) ≤ x2i
      · rw [if_pos c1] at hf
        obtain ⟨rfl, rfl⟩ := am_i2 hf
        exact hs
      · rw [if_neg c1] at hf
        obtain ⟨b2, hf⟩ := am_bis hf
        obtain ⟨y3, j4, hf⟩ := am_bnd hf
        obtain ⟨b56, hf⟩ := am_bis hf
        obtain ⟨b57, hf⟩ := am_bis hf
        exact ih a1 (x2i + Int32.ofInt 1) (am_sI (am_sI h 53 (Int32.toNatClampNeg (((Int32.ofInt 16) * (am_I h 51 2)) + x2i)) y3) 54 (Int32.toNatClampNeg (((Int32.ofInt 16) * (am_I (am_sI h 53 (Int32.toNatClampNeg (((Int32.ofInt 16) * (am_I h 51 2)) + x2i)) y3) 51 2)) + x2i)) (am_I (am_sI h 53 (Int32.toNatClampNeg (((Int32.ofInt 16) * (am_I h 51 2)) + x2i)) y3) 54 (Int32.toNatClampNeg (((Int32.ofInt 16) * a1) + x2i)))) _ _ hs hf
set_option maxRecDepth 100000 in
set_option maxHeartbeats 4000000 in
theorem l_X9_twin (n : Nat) : (∀ (a1 : Int32) (x2i : Int32) (h : am_H) (v : Int32) (h' : am_H), am_stat h → g_X9_twin n 0 a1 x2i h = some (v, h') → AW mX9_twin (rX9_twin 0 0) (fun r h2 => r = some (.int v) ∧ h2 = h') 40 [(0, .ref 51), (1, .int a1), (2, .int x2i)] [] h 0 0) := by
  induction n with
  | zero => exact fun a1 x2i h v h' hs hf => (by cases hf)
  | succ n ih =>
    skip
    · intro a1 x2i h v h' hs hf
      have hf : ((if (Int32.ofInt 16) ≤ x2i then some (((am_I (am_sI h 51 2 ((am_I h 51 2) + (Int32.ofInt 1))) 51 2) - (Int32.ofInt 1)), (am_sI h 51 2 ((am_I h 51 2) + (Int32.ofInt 1)))) else bif am_vp (((Int32.ofInt 16) * a1) + x2i) 128 then (Option.bind ((if (am_I h 53 (Int32.toNatClampNeg (((Int32.ofInt 16) * a1) + x2i))) < (Int32.ofInt 100) then some ((am_I h 53 (Int32.toNatClampNeg (((Int32.ofInt 16) * a1) + x2i))) + (Int32.ofInt 100)) else some ((am_I h 53 (Int32.toNatClampNeg (((Int32.ofInt 16) * a1) + x2i))) - (Int32.ofInt 100)))) fun y3 => (bif am_vp (((Int32.ofInt 16) * (am_I h 51 2)) + x2i) 128 then (bif am_vp (((Int32.ofInt 16) * (am_I (am_sI h 53 (Int32.toNatClampNeg (((Int32.ofInt 16) * (am_I h 51 2)) + x2i)) y3) 51 2)) + x2i) 128 then (g_X9_twin n 0 a1 (x2i + Int32.ofInt 1) (am_sI (am_sI h 53 (Int32.toNatClampNeg (((Int32.ofInt 16) * (am_I h 51 2)) + x2i)) y3) 54 (Int32.toNatClampNeg (((Int32.ofInt 16) * (am_I (am_sI h 53 (Int32.toNatClampNeg (((Int32.ofInt 16) * (am_I h 51 2)) + x2i)) y3) 51 2)) + x2i)) (am_I (am_sI h 53 (Int32.toNatClampNeg (((Int32.ofInt 16) * (am_I h 51 2)) + x2i)) y3) 54 (Int32.toNatClampNeg (((Int32.ofInt 16) * a1) + x2i))))) else none) else none)) else none)) = some (v, h') := hf
      refine AW_go okX9_twin 3 ?_
      refine And.intro (fun c1 => ?_) (fun c1 => ?_)
      · rw [if_pos c1] at hf
        refine AW_go okX9_twin 11 ?_
        refine And.intro (sK hs 51) ?_
        refine And.intro (sK hs 51) ?_
        refine And.intro (sK hs 51) ?_
        obtain ⟨rfl, rfl⟩ := am_i2 hf
        exact And.intro ⟨(Nat.le_of_ble_eq_true rfl), (Nat.le_of_ble_eq_true rfl)⟩ (And.intro (Or.inl rfl) ⟨rfl, rfl⟩)
      · rw [if_neg c1] at hf
        obtain ⟨b2, hf⟩ := am_bis hf
        refine AW_go okX9_twin 19 ?_
        refine And.intro (sK hs 51) (Exists.intro _ (And.intro (sA hs 51 3) ?_))
        refine Exists.intro 128 (And.intro (sK hs 53) (And.intro (am_vp_ok b2) ?_))
        refine And.intro (sK hs 51) (Exists.intro _ (And.intro (sA hs 51 3) ?_))
        refine And.intro (sK hs 51) ?_
        obtain ⟨y3, j4, hf⟩ := am_bnd hf
        refine am_cut (P := AW mX9_twin (rX9_twin 0 0) (fun r h2 => r = some (.int v) ∧ h2 = h') 88 [(0, .ref 51), (1, .int a1), (2, .int x2i), (3, .int (am_I h 53 (Int32.toNatClampNeg (((Int32.ofInt 16) * a1) + x2i))))] [.int y3, .int (((Int32.ofInt 16) * (am_I h 51 2)) + x2i), .ref 53] h 0 0) (fun hJ4 => ?_) ?_
        · have hs := hs
          refine AW_go okX9_twin 1 ?_
          refine And.intro (fun c5 => ?_) (fun c5 => ?_)
          · rw [if_pos c5] at j4
            refine AW_go okX9_twin 3 ?_
            obtain rfl := am_i1 j4
            exact AW_pick [1, 2, 3, 0] rfl hJ4
          · rw [if_neg c5] at j4
            refine AW_go okX9_twin 4 ?_
            obtain rfl := am_i1 j4
            exact AW_pick [1, 2, 3, 0] rfl hJ4
        obtain ⟨b56, hf⟩ := am_bis hf
        obtain ⟨b57, hf⟩ := am_bis hf
        refine AW_go okX9_twin 20 ?_
        refine Exists.intro 128 (And.intro (sK hs 53) (And.intro (am_vp_ok b56) ?_))
        refine And.intro (sK hs 51) (Exists.intro _ (And.intro (sA hs 51 4) ?_))
        refine And.intro (sK hs 51) ?_
        refine And.intro (sK hs 51) (Exists.intro _ (And.intro (sA hs 51 4) ?_))
        refine Exists.intro 128 (And.intro (sK hs 54) (And.intro (am_vp_ok b2) ?_))
        refine Exists.intro 128 (And.intro (sK hs 54) (And.intro (am_vp_ok b57) ?_))
        refine AW_pick (lv' := [(0, .ref 51), (1, .int a1), (2, .int (x2i + Int32.ofInt 1))]) [1, 2, 0] rfl ?_
        exact ih a1 (x2i + Int32.ofInt 1) (am_sI (am_sI h 53 (Int32.toNatClampNeg (((Int32.ofInt 16) * (am_I h 51 2)) + x2i)) y3) 54 (Int32.toNatClampNeg (((Int32.ofInt 16) * (am_I (am_sI h 53 (Int32.toNatClampNeg (((Int32.ofInt 16) * (am_I h 51 2)) + x2i)) y3) 51 2)) + x2i)) (am_I (am_sI h 53 (Int32.toNatClampNeg (((Int32.ofInt 16) * (am_I h 51 2)) + x2i)) y3) 54 (Int32.toNatClampNeg (((Int32.ofInt 16) * a1) + x2i)))) _ _ hs hf
def f_X9_twin (n : Nat) (a1 : Int32) (h : am_H) : Option (Int32 × am_H) := am_b2 (f_X9_isBook a1 h) fun r1 h2 => ((if r1 = 0 then some ((Int32.ofInt (-101)), h2) else (if (am_I h2 51 2) = (Int32.ofInt 8) then some ((Int32.ofInt (-104)), h2) else bif am_vp a1 8 then (bif am_vp (am_I h2 51 2) 8 then (g_X9_twin n 0 a1 (Int32.ofInt 0) (am_sI h2 55 (Int32.toNatClampNeg (am_I h2 51 2)) (am_I h2 55 (Int32.toNatClampNeg a1)))) else none) else none)))
set_option maxRecDepth 100000 in
theorem s_X9_twin (n : Nat) (a1 : Int32) (h : am_H) (hs : am_stat h) {v : Int32} {h' : am_H} (hf : f_X9_twin n a1 h = some (v, h')) : am_stat h' := by
  unfold f_X9_twin at hf
  obtain ⟨r1, h2, e3, hf⟩ := am_b2_ok hf
  have hs := s_X9_isBook a1 h hs e3
  by_cases c4 : r1 = 0
  · rw [if_pos c4] at hf
    obtain ⟨rfl, rfl⟩ := am_i2 hf
    exact hs
  · rw [if_neg c4] at hf
    by_cases c5 : (am_I h2 51 2) = (Int32.ofInt 8)
    · rw [if_pos c5] at hf
      obtain ⟨rfl, rfl⟩ := am_i2 hf
      exact hs
    · rw [if_neg c5] at hf
      obtain ⟨b6, hf⟩ := am_bis hf
      obtain ⟨b7, hf⟩ := am_bis hf
      exact (m_X9_twin n) a1 (Int32.ofInt 0) (am_sI h2 55 (Int32.toNatClampNeg (am_I h2 51 2)) (am_I h2 55 (Int32.toNatClampNeg a1))) _ _ hs hf
set_option maxRecDepth 100000 in
theorem c_X9_twin (n : Nat) (a1 : Int32) (h : am_H) (hs : am_stat h) {v : Int32} {h' : am_H} (hf : f_X9_twin n a1 h = some (v, h')) : AMet mX9_twin (rX9_twin 0 0) (fun r h2 => r = some (.int v) ∧ h2 = h') [.ref 51, .int a1] h := by
  unfold f_X9_twin at hf
  refine AW_go okX9_twin 2 ?_
  obtain ⟨r1, h2, e3, hf⟩ := am_b2_ok hf
  refine AW_callV (As := [.int a1]) (R' := rX9_isBook 0 0) (T := TX9) (N := 58) (ci := 9) (okX9_twin.1 2 _ _ rfl) lkX9_isBook kX9_203 rfl (sK hs 51) rfl (Nat.le_of_ble_eq_true rfl) ⟨by decide, by decide⟩ ⟨(Nat.le_of_ble_eq_true rfl), (Nat.le_of_ble_eq_true rfl)⟩ (Nat.le_of_ble_eq_true rfl) (c_X9_isBook a1 h hs e3) (fun r h' hq => ?_)
  obtain ⟨rfl, hq⟩ := hq
  replace hq := hq.symm
  subst hq
  have hs := s_X9_isBook a1 h hs e3
  refine AW_go okX9_twin 1 ?_
  refine And.intro (fun c4 => ?_) (fun c4 => ?_)
  · rw [if_neg c4] at hf
    refine AW_go okX9_twin 4 ?_
    refine And.intro (sK hs 51) ?_
    refine And.intro (fun c5 => ?_) (fun c5 => ?_)
    · rw [if_neg c5] at hf
      obtain ⟨b6, hf⟩ := am_bis hf
      obtain ⟨b7, hf⟩ := am_bis hf
      refine AW_go okX9_twin 11 ?_
      refine And.intro (sK hs 51) (Exists.intro _ (And.intro (sA hs 51 5) ?_))
      refine And.intro (sK hs 51) ?_
      refine And.intro (sK hs 51) (Exists.intro _ (And.intro (sA hs 51 5) ?_))
      refine Exists.intro 8 (And.intro (sK hs 55) (And.intro (am_vp_ok b6) ?_))
      refine Exists.intro 8 (And.intro (sK hs 55) (And.intro (am_vp_ok b7) ?_))
      refine AW_pick (lv' := [(0, .ref 51), (1, .int a1), (2, .int (Int32.ofInt 0))]) [1, 2, 0] rfl ?_
      exact (l_X9_twin n) a1 (Int32.ofInt 0) (am_sI h2 55 (Int32.toNatClampNeg (am_I h2 51 2)) (am_I h2 55 (Int32.toNatClampNeg a1))) _ _ hs hf
    · rw [if_pos c5] at hf
      refine AW_go okX9_twin 2 ?_
      obtain ⟨rfl, rfl⟩ := am_i2 hf
      exact And.intro ⟨(Nat.le_of_ble_eq_true rfl), (Nat.le_of_ble_eq_true rfl)⟩ (And.intro (Or.inl rfl) ⟨rfl, rfl⟩)
  · rw [if_pos c4] at hf
    refine AW_go okX9_twin 2 ?_
    obtain ⟨rfl, rfl⟩ := am_i2 hf
    exact And.intro ⟨(Nat.le_of_ble_eq_true rfl), (Nat.le_of_ble_eq_true rfl)⟩ (And.intro (Or.inl rfl) ⟨rfl, rfl⟩)
def f_X9_asNumber (a0 : Int32) (h : am_H) : Option (Int32 × am_H) := Option.bind ((if a0 < (Int32.ofInt 100) then some (Int32.ofInt 0) else some (Int32.ofInt 12))) fun y1 => (some (((y1 + (((a0 - a0 / (Int32.ofInt 100) * (Int32.ofInt 100)) / (Int32.ofInt 10)) * (Int32.ofInt 4))) + (a0 - a0 / (Int32.ofInt 10) * (Int32.ofInt 10))), h))
set_option maxRecDepth 100000 in
theorem s_X9_asNumber (a0 : Int32) (h : am_H) (hs : am_stat h) {v : Int32} {h' : am_H} (hf : f_X9_asNumber a0 h = some (v, h')) : am_stat h' := by
  unfold f_X9_asNumber at hf
  obtain ⟨y1, j2, hf⟩ := am_bnd hf
  obtain ⟨rfl, rfl⟩ := am_i2 hf
  exact hs
set_option maxRecDepth 100000 in
theorem c_X9_asNumber (a0 : Int32) (h : am_H) (hs : am_stat h) {v : Int32} {h' : am_H} (hf : f_X9_asNumber a0 h = some (v, h')) : AMet mX9_asNumber (rX9_asNumber 0 0) (fun r h2 => r = some (.int v) ∧ h2 = h') [.int a0] h := by
  unfold f_X9_asNumber at hf
  refine AW_go okX9_asNumber 2 ?_
  obtain ⟨y1, j2, hf⟩ := am_bnd hf
  refine am_cut (P := AW mX9_asNumber (rX9_asNumber 0 0) (fun r h2 => r = some (.int v) ∧ h2 = h') 12 [(0, .int a0)] [.int y1] h 0 0) (fun hJ2 => ?_) ?_
  · have hs := hs
    refine AW_go okX9_asNumber 1 ?_
    refine And.intro (fun c3 => ?_) (fun c3 => ?_)
    · rw [if_pos c3] at j2
      refine AW_go okX9_asNumber 1 ?_
      obtain rfl := am_i1 j2
      exact AW_pick [0] rfl hJ2
    · rw [if_neg c3] at j2
      refine AW_go okX9_asNumber 2 ?_
      obtain rfl := am_i1 j2
      exact AW_pick [0] rfl hJ2
  refine AW_go okX9_asNumber 13 ?_
  refine And.intro (by decide) ?_
  refine And.intro (by decide) ?_
  refine And.intro (by decide) ?_
  obtain ⟨rfl, rfl⟩ := am_i2 hf
  exact And.intro ⟨(Nat.le_of_ble_eq_true rfl), (Nat.le_of_ble_eq_true rfl)⟩ (And.intro (Or.inl rfl) ⟨rfl, rfl⟩)
def f_X9_asAct (a0 : Int32) (h : am_H) : Option (Int32 × am_H) := Option.bind ((if a0 < (Int32.ofInt 12) then some (Int32.ofInt 0) else some (Int32.ofInt 100))) fun y1 => (some (((y1 + (((a0 - a0 / (Int32.ofInt 12) * (Int32.ofInt 12)) / (Int32.ofInt 4)) * (Int32.ofInt 10))) + (a0 - a0 / (Int32.ofInt 4) * (Int32.ofInt 4))), h))
set_option maxRecDepth 100000 in
theorem s_X9_asAct (a0 : Int32) (h : am_H) (hs : am_stat h) {v : Int32} {h' : am_H} (hf : f_X9_asAct a0 h = some (v, h')) : am_stat h' := by
  unfold f_X9_asAct at hf
  obtain ⟨y1, j2, hf⟩ := am_bnd hf
  obtain ⟨rfl, rfl⟩ := am_i2 hf
  exact hs
set_option maxRecDepth 100000 in
theorem c_X9_asAct (a0 : Int32) (h : am_H) (hs : am_stat h) {v : Int32} {h' : am_H} (hf : f_X9_asAct a0 h = some (v, h')) : AMet mX9_asAct (rX9_asAct 0 0) (fun r h2 => r = some (.int v) ∧ h2 = h') [.int a0] h := by
  unfold f_X9_asAct at hf
  refine AW_go okX9_asAct 2 ?_
  obtain ⟨y1, j2, hf⟩ := am_bnd hf
  refine am_cut (P := AW mX9_asAct (rX9_asAct 0 0) (fun r h2 => r = some (.int v) ∧ h2 = h') 12 [(0, .int a0)] [.int y1] h 0 0) (fun hJ2 => ?_) ?_
  · have hs := hs
    refine AW_go okX9_asAct 1 ?_
    refine And.intro (fun c3 => ?_) (fun c3 => ?_)
    · rw [if_pos c3] at j2
      refine AW_go okX9_asAct 1 ?_
      obtain rfl := am_i1 j2
      exact AW_pick [0] rfl hJ2
    · rw [if_neg c3] at j2
      refine AW_go okX9_asAct 2 ?_
      obtain rfl := am_i1 j2
      exact AW_pick [0] rfl hJ2
  refine AW_go okX9_asAct 13 ?_
  refine And.intro (by decide) ?_
  refine And.intro (by decide) ?_
  refine And.intro (by decide) ?_
  obtain ⟨rfl, rfl⟩ := am_i2 hf
  exact And.intro ⟨(Nat.le_of_ble_eq_true rfl), (Nat.le_of_ble_eq_true rfl)⟩ (And.intro (Or.inl rfl) ⟨rfl, rfl⟩)
def g_X9_nextOf : Nat → Nat → Int32 → Int32 → Int32 → Int32 → am_H → Option (Int32 × am_H)
  | 0, _, _, _, _, _, _ => none
  | n + 1, _, a1, a2, x3i, x4i, h => (if (Int32.ofInt 16) ≤ x4i then some (x3i, h) else Option.bind ((if ((a2 >>> (x4i &&& 31)) &&& (Int32.ofInt 1)) = (Int32.ofInt 1) then bif am_vp (((Int32.ofInt 16) * a1) + x4i) 128 then (some (am_I h 54 (Int32.toNatClampNeg (((Int32.ofInt 16) * a1) + x4i)))) else none else some (Int32.ofInt 0))) fun y2 => (g_X9_nextOf n 0 a1 a2 (x3i ||| y2) (x4i + Int32.ofInt 1) h))
set_option maxRecDepth 100000 in
set_option maxHeartbeats 4000000 in
theorem m_X9_nextOf (n : Nat) : (∀ (a1 : Int32) (a2 : Int32) (x3i : Int32) (x4i : Int32) (h : am_H) (v : Int32) (h' : am_H), am_stat h → g_X9_nextOf n 0 a1 a2 x3i x4i h = some (v, h') → am_stat h') := by
  induction n with
  | zero => exact fun a1 a2 x3i x4i h v h' hs hf => (by cases hf)
  | succ n ih =>
    skip
    · intro a1 a2 x3i x4i h v h' hs hf
      have hf : ((if (Int32.ofInt 16) ≤ x4i then some (x3i, h) else Option.bind ((if ((a2 >>> (x4i &&& 31)) &&& (Int32.ofInt 1)) = (Int32.ofInt 1) then bif am_vp (((Int32.ofInt 16) * a1) + x4i) 128 then (some (am_I h 54 (Int32.toNatClampNeg (((Int32.ofInt 16) * a1) + x4i)))) else none else some (Int32.ofInt 0))) fun y2 => (g_X9_nextOf n 0 a1 a2 (x3i ||| y2) (x4i + Int32.ofInt 1) h))) = some (v, h') := hf
      by_cases c1 : (Int32.ofInt 16) ≤ x4i
      · rw [if_pos c1] at hf
        obtain ⟨rfl, rfl⟩ := am_i2 hf
        exact hs
      · rw [if_neg c1] at hf
        obtain ⟨y2, j3, hf⟩ := am_bnd hf
        exact ih a1 a2 (x3i ||| y2) (x4i + Int32.ofInt 1) h _ _ hs hf
set_option maxRecDepth 100000 in
set_option maxHeartbeats 4000000 in
theorem l_X9_nextOf (n : Nat) : (∀ (a1 : Int32) (a2 : Int32) (x3i : Int32) (x4i : Int32) (h : am_H) (v : Int32) (h' : am_H), am_stat h → g_X9_nextOf n 0 a1 a2 x3i x4i h = some (v, h') → AW mX9_nextOf (rX9_nextOf 0 0) (fun r h2 => r = some (.int v) ∧ h2 = h') 5 [(0, .ref 51), (1, .int a1), (2, .int a2), (3, .int x3i), (4, .int x4i)] [] h 0 0) := by
  induction n with
  | zero => exact fun a1 a2 x3i x4i h v h' hs hf => (by cases hf)
  | succ n ih =>
    skip
    · intro a1 a2 x3i x4i h v h' hs hf
      have hf : ((if (Int32.ofInt 16) ≤ x4i then some (x3i, h) else Option.bind ((if ((a2 >>> (x4i &&& 31)) &&& (Int32.ofInt 1)) = (Int32.ofInt 1) then bif am_vp (((Int32.ofInt 16) * a1) + x4i) 128 then (some (am_I h 54 (Int32.toNatClampNeg (((Int32.ofInt 16) * a1) + x4i)))) else none else some (Int32.ofInt 0))) fun y2 => (g_X9_nextOf n 0 a1 a2 (x3i ||| y2) (x4i + Int32.ofInt 1) h))) = some (v, h') := hf
      refine AW_go okX9_nextOf 3 ?_
      refine And.intro (fun c1 => ?_) (fun c1 => ?_)
      · rw [if_pos c1] at hf
        refine AW_go okX9_nextOf 2 ?_
        obtain ⟨rfl, rfl⟩ := am_i2 hf
        exact And.intro ⟨(Nat.le_of_ble_eq_true rfl), (Nat.le_of_ble_eq_true rfl)⟩ (And.intro (Or.inl rfl) ⟨rfl, rfl⟩)
      · rw [if_neg c1] at hf
        refine AW_go okX9_nextOf 7 ?_
        obtain ⟨y2, j3, hf⟩ := am_bnd hf
        refine am_cut (P := AW mX9_nextOf (rX9_nextOf 0 0) (fun r h2 => r = some (.int v) ∧ h2 = h') 39 [(0, .ref 51), (1, .int a1), (2, .int a2), (3, .int x3i), (4, .int x4i)] [.int y2, .int x3i] h 0 0) (fun hJ3 => ?_) ?_
        · have hs := hs
          refine AW_go okX9_nextOf 1 ?_
          refine And.intro (fun c4 => ?_) (fun c4 => ?_)
          · rw [if_neg c4] at j3
            refine AW_go okX9_nextOf 1 ?_
            obtain rfl := am_i1 j3
            exact AW_pick [0, 1, 2, 3, 4] rfl hJ3
          · rw [if_pos c4] at j3
            obtain ⟨b5, j3⟩ := am_bis j3
            refine AW_go okX9_nextOf 9 ?_
            refine And.intro (sK hs 51) (Exists.intro _ (And.intro (sA hs 51 4) ?_))
            refine Exists.intro 128 (And.intro (sK hs 54) (And.intro (am_vp_ok b5) ?_))
            obtain rfl := am_i1 j3
            exact AW_pick [0, 1, 2, 3, 4] rfl hJ3
        refine AW_go okX9_nextOf 4 ?_
        refine AW_pick (lv' := [(0, .ref 51), (1, .int a1), (2, .int a2), (3, .int (x3i ||| y2)), (4, .int (x4i + Int32.ofInt 1))]) [2, 3, 4, 1, 0] rfl ?_
        exact ih a1 a2 (x3i ||| y2) (x4i + Int32.ofInt 1) h _ _ hs hf
def f_X9_nextOf (n : Nat) (a1 : Int32) (a2 : Int32) (h : am_H) : Option (Int32 × am_H) := g_X9_nextOf n 0 a1 a2 (Int32.ofInt 0) (Int32.ofInt 0) h
set_option maxRecDepth 100000 in
theorem s_X9_nextOf (n : Nat) (a1 : Int32) (a2 : Int32) (h : am_H) (hs : am_stat h) {v : Int32} {h' : am_H} (hf : f_X9_nextOf n a1 a2 h = some (v, h')) : am_stat h' := by
  unfold f_X9_nextOf at hf
  exact (m_X9_nextOf n) a1 a2 (Int32.ofInt 0) (Int32.ofInt 0) h _ _ hs hf
set_option maxRecDepth 100000 in
theorem c_X9_nextOf (n : Nat) (a1 : Int32) (a2 : Int32) (h : am_H) (hs : am_stat h) {v : Int32} {h' : am_H} (hf : f_X9_nextOf n a1 a2 h = some (v, h')) : AMet mX9_nextOf (rX9_nextOf 0 0) (fun r h2 => r = some (.int v) ∧ h2 = h') [.ref 51, .int a1, .int a2] h := by
  unfold f_X9_nextOf at hf
  refine AW_go okX9_nextOf 4 ?_
  refine AW_pick (lv' := [(0, .ref 51), (1, .int a1), (2, .int a2), (3, .int (Int32.ofInt 0)), (4, .int (Int32.ofInt 0))]) [2, 3, 4, 1, 0] rfl ?_
  exact (l_X9_nextOf n) a1 a2 (Int32.ofInt 0) (Int32.ofInt 0) h _ _ hs hf
def g_X9_lead : Nat → Nat → Int32 → Int32 → Int32 → Int32 → Int32 → Int32 → am_H → Option (Int32 × am_H)
  | 0, _, _, _, _, _, _, _, _ => none
  | n + 1, _, a1, a2, a3, x4i, x5i, x6i, h => bif am_vp a1 8 then ((if (am_I h 55 (Int32.toNatClampNeg a1)) < x6i then some (x5i, h) else am_b2 ((if ((x4i >>> (x6i &&& 31)) &&& (Int32.ofInt 1)) = (Int32.ofInt 1) then bif am_vp (((Int32.ofInt 16) * a1) + x6i) 128 then (am_b2 (f_X9_asNumber (am_I h 53 (Int32.toNatClampNeg (((Int32.ofInt 16) * a1) + x6i))) h) fun r8 h9 => ((if r8 = a3 then some (((Int32.ofInt 1) <<< (x6i &&& 31)), h9) else some ((Int32.ofInt 0), h9)))) else none else some ((Int32.ofInt 0), h))) fun y3 h4 => (g_X9_lead n 0 a1 a2 a3 x4i (x5i ||| y3) (x6i + Int32.ofInt 1) h4))) else none
set_option maxRecDepth 100000 in
set_option maxHeartbeats 4000000 in
theorem m_X9_lead (n : Nat) : (∀ (a1 : Int32) (a2 : Int32) (a3 : Int32) (x4i : Int32) (x5i : Int32) (x6i : Int32) (h : am_H) (v : Int32) (h' : am_H), am_stat h → g_X9_lead n 0 a1 a2 a3 x4i x5i x6i h = some (v, h') → am_stat h') := by
  induction n with
  | zero => exact fun a1 a2 a3 x4i x5i x6i h v h' hs hf => (by cases hf)
  | succ n ih =>
    skip
    · intro a1 a2 a3 x4i x5i x6i h v h' hs hf
      have hf : (bif am_vp a1 8 then ((if (am_I h 55 (Int32.toNatClampNeg a1)) < x6i then some (x5i, h) else am_b2 ((if ((x4i >>> (x6i &&& 31)) &&& (Int32.ofInt 1)) = (Int32.ofInt 1) then bif am_vp (((Int32.ofInt 16) * a1) + x6i) 128 then (am_b2 (f_X9_asNumber (am_I h 53 (Int32.toNatClampNeg (((Int32.ofInt 16) * a1) + x6i))) h) fun r8 h9 => ((if r8 = a3 then some (((Int32.ofInt 1) <<< (x6i &&& 31)), h9) else some ((Int32.ofInt 0), h9)))) else none else some ((Int32.ofInt 0), h))) fun y3 h4 => (g_X9_lead n 0 a1 a2 a3 x4i (x5i ||| y3) (x6i + Int32.ofInt 1) h4))) else none) = some (v, h') := hf
      obtain ⟨b1, hf⟩ := am_bis hf
      by_cases c2 : (am_I h 55 (Int32.toNatClampNeg a1)) < x6i
      · rw [if_pos c2] at hf
        obtain ⟨rfl, rfl⟩ := am_i2 hf
        exact hs
      · rw [if_neg c2] at hf
        obtain ⟨y3, h4, j5, hf⟩ := am_b2_ok hf
        have hs0 := hs
        have hs : am_stat h4 := by
          have hs := hs0
          by_cases c6 : ((x4i >>> (x6i &&& 31)) &&& (Int32.ofInt 1)) = (Int32.ofInt 1)
          · rw [if_pos c6] at j5
            obtain ⟨b7, j5⟩ := am_bis j5
            obtain ⟨r8, h9, e10, j5⟩ := am_b2_ok j5
            have hs := s_X9_asNumber (am_I h 53 (Int32.toNatClampNeg (((Int32.ofInt 16) * a1) + x6i))) h hs e10
            by_cases c11 : r8 = a3
            · rw [if_pos c11] at j5
              obtain ⟨rfl, rfl⟩ := am_i2 j5
              exact hs
            · rw [if_neg c11] at j5
              obtain ⟨rfl, rfl⟩ := am_i2 j5
              exact hs
          · rw [if_neg c6] at j5
            obtain ⟨rfl, rfl⟩ := am_i2 j5
            exact hs
        exact ih a1 a2 a3 x4i (x5i ||| y3) (x6i + Int32.ofInt 1) h4 _ _ hs hf
set_option maxRecDepth 100000 in
set_option maxHeartbeats 4000000 in
theorem l_X9_lead (n : Nat) : (∀ (a1 : Int32) (a2 : Int32) (a3 : Int32) (x4i : Int32) (x5i : Int32) (x6i : Int32) (h : am_H) (v : Int32) (h' : am_H), am_stat h → g_X9_lead n 0 a1 a2 a3 x4i x5i x6i h = some (v, h') → AW mX9_lead (rX9_lead 0 0) (fun r h2 => r = some (.int v) ∧ h2 = h') 14 [(0, .ref 51), (1, .int a1), (2, .int a2), (3, .int a3), (4, .int x4i), (5, .int x5i), (6, .int x6i)] [] h 0 0) := by
  induction n with
  | zero => exact fun a1 a2 a3 x4i x5i x6i h v h' hs hf => (by cases hf)
  | succ n ih =>
    skip
    · intro a1 a2 a3 x4i x5i x6i h v h' hs hf
      have hf : (bif am_vp a1 8 then ((if (am_I h 55 (Int32.toNatClampNeg a1)) < x6i then some (x5i, h) else am_b2 ((if ((x4i >>> (x6i &&& 31)) &&& (Int32.ofInt 1)) = (Int32.ofInt 1) then bif am_vp (((Int32.ofInt 16) * a1) + x6i) 128 then (am_b2 (f_X9_asNumber (am_I h 53 (Int32.toNatClampNeg (((Int32.ofInt 16) * a1) + x6i))) h) fun r8 h9 => ((if r8 = a3 then some (((Int32.ofInt 1) <<< (x6i &&& 31)), h9) else some ((Int32.ofInt 0), h9)))) else none else some ((Int32.ofInt 0), h))) fun y3 h4 => (g_X9_lead n 0 a1 a2 a3 x4i (x5i ||| y3) (x6i + Int32.ofInt 1) h4))) else none) = some (v, h') := hf
      obtain ⟨b1, hf⟩ := am_bis hf
      refine AW_go okX9_lead 6 ?_
      refine And.intro (sK hs 51) (Exists.intro _ (And.intro (sA hs 51 5) ?_))
      refine Exists.intro 8 (And.intro (sK hs 55) (And.intro (am_vp_ok b1) ?_))
      refine And.intro (fun c2 => ?_) (fun c2 => ?_)
      · rw [if_pos c2] at hf
        refine AW_go okX9_lead 2 ?_
        obtain ⟨rfl, rfl⟩ := am_i2 hf
        exact And.intro ⟨(Nat.le_of_ble_eq_true rfl), (Nat.le_of_ble_eq_true rfl)⟩ (And.intro (Or.inl rfl) ⟨rfl, rfl⟩)
      · rw [if_neg c2] at hf
        refine AW_go okX9_lead 7 ?_
        obtain ⟨y3, h4, j5, hf⟩ := am_b2_ok hf
        have hs0 := hs
        have hs : am_stat h4 := by
          have hs := hs0
          by_cases c6 : ((x4i >>> (x6i &&& 31)) &&& (Int32.ofInt 1)) = (Int32.ofInt 1)
          · rw [if_pos c6] at j5
            obtain ⟨b7, j5⟩ := am_bis j5
            obtain ⟨r8, h9, e10, j5⟩ := am_b2_ok j5
            have hs := s_X9_asNumber (am_I h 53 (Int32.toNatClampNeg (((Int32.ofInt 16) * a1) + x6i))) h hs e10
            by_cases c11 : r8 = a3
            · rw [if_pos c11] at j5
              obtain ⟨rfl, rfl⟩ := am_i2 j5
              exact hs
            · rw [if_neg c11] at j5
              obtain ⟨rfl, rfl⟩ := am_i2 j5
              exact hs
          · rw [if_neg c6] at j5
            obtain ⟨rfl, rfl⟩ := am_i2 j5
            exact hs
        refine am_cut (P := AW mX9_lead (rX9_lead 0 0) (fun r h2 => r = some (.int v) ∧ h2 = h') 65 [(0, .ref 51), (1, .int a1), (2, .int a2), (3, .int a3), (4, .int x4i), (5, .int x5i), (6, .int x6i)] [.int y3, .int x5i] h4 0 0) (fun hJ5 => ?_) ?_
        · have hs := hs0
          refine AW_go okX9_lead 1 ?_
          refine And.intro (fun c6 => ?_) (fun c6 => ?_)
          · rw [if_neg c6] at j5
            refine AW_go okX9_lead 1 ?_
            obtain ⟨rfl, rfl⟩ := am_i2 j5
            exact AW_pick [0, 1, 2, 3, 4, 5, 6] rfl hJ5
          · rw [if_pos c6] at j5
            obtain ⟨b7, j5⟩ := am_bis j5
            refine AW_go okX9_lead 8 ?_
            refine And.intro (sK hs 51) (Exists.intro _ (And.intro (sA hs 51 3) ?_))
            refine Exists.intro 128 (And.intro (sK hs 53) (And.intro (am_vp_ok b7) ?_))
            obtain ⟨r8, h9, e10, j5⟩ := am_b2_ok j5
            refine AW_callS (As := [.int (am_I h 53 (Int32.toNatClampNeg (((Int32.ofInt 16) * a1) + x6i)))]) (R' := rX9_asNumber 0 0) (okX9_lead.1 50 _ _ rfl) lkX9_asNumber (Or.inl kX9_209) rfl (Nat.le_of_ble_eq_true rfl) ⟨by decide, by decide⟩ ⟨(Nat.le_of_ble_eq_true rfl), (Nat.le_of_ble_eq_true rfl)⟩ (Nat.le_of_ble_eq_true rfl) (c_X9_asNumber (am_I h 53 (Int32.toNatClampNeg (((Int32.ofInt 16) * a1) + x6i))) h hs e10) (fun r h' hq => ?_)
            obtain ⟨rfl, hq⟩ := hq
            replace hq := hq.symm
            subst hq
            have hs := s_X9_asNumber (am_I h 53 (Int32.toNatClampNeg (((Int32.ofInt 16) * a1) + x6i))) h hs e10
            refine AW_go okX9_lead 2 ?_
            refine And.intro (fun c11 => ?_) (fun c11 => ?_)
            · rw [if_neg c11] at j5
              refine AW_go okX9_lead 1 ?_
              obtain ⟨rfl, rfl⟩ := am_i2 j5
              exact AW_pick [0, 1, 2, 3, 4, 5, 6] rfl hJ5
            · rw [if_pos c11] at j5
              refine AW_go okX9_lead 4 ?_
              obtain ⟨rfl, rfl⟩ := am_i2 j5
              exact AW_pick [0, 1, 2, 3, 4, 5, 6] rfl hJ5
        refine AW_go okX9_lead 4 ?_
        refine AW_pick (lv' := [(0, .ref 51), (1, .int a1), (2, .int a2), (3, .int a3), (4, .int x4i), (5, .int (x5i ||| y3)), (6, .int (x6i + Int32.ofInt 1))]) [2, 3, 4, 5, 6, 1, 0] rfl ?_
        exact ih a1 a2 a3 x4i (x5i ||| y3) (x6i + Int32.ofInt 1) h4 _ _ hs hf
def f_X9_lead (n : Nat) (a1 : Int32) (a2 : Int32) (a3 : Int32) (h : am_H) : Option (Int32 × am_H) := am_b2 (f_X9_nextOf n a1 a2 h) fun r1 h2 => (g_X9_lead n 0 a1 a2 a3 r1 (Int32.ofInt 0) (Int32.ofInt 1) h2)
set_option maxRecDepth 100000 in
theorem s_X9_lead (n : Nat) (a1 : Int32) (a2 : Int32) (a3 : Int32) (h : am_H) (hs : am_stat h) {v : Int32} {h' : am_H} (hf : f_X9_lead n a1 a2 a3 h = some (v, h')) : am_stat h' := by
  unfold f_X9_lead at hf
  obtain ⟨r1, h2, e3, hf⟩ := am_b2_ok hf
  have hs := s_X9_nextOf n a1 a2 h hs e3
  exact (m_X9_lead n) a1 a2 a3 r1 (Int32.ofInt 0) (Int32.ofInt 1) h2 _ _ hs hf
set_option maxRecDepth 100000 in
theorem c_X9_lead (n : Nat) (a1 : Int32) (a2 : Int32) (a3 : Int32) (h : am_H) (hs : am_stat h) {v : Int32} {h' : am_H} (hf : f_X9_lead n a1 a2 a3 h = some (v, h')) : AMet mX9_lead (rX9_lead 0 0) (fun r h2 => r = some (.int v) ∧ h2 = h') [.ref 51, .int a1, .int a2, .int a3] h := by
  unfold f_X9_lead at hf
  refine AW_go okX9_lead 3 ?_
  obtain ⟨r1, h2, e3, hf⟩ := am_b2_ok hf
  refine AW_callV (As := [.int a1, .int a2]) (R' := rX9_nextOf 0 0) (T := TX9) (N := 58) (ci := 9) (okX9_lead.1 3 _ _ rfl) lkX9_nextOf kX9_206 rfl (sK hs 51) rfl (Nat.le_of_ble_eq_true rfl) ⟨by decide, by decide⟩ ⟨(Nat.le_of_ble_eq_true rfl), (Nat.le_of_ble_eq_true rfl)⟩ (Nat.le_of_ble_eq_true rfl) (c_X9_nextOf n a1 a2 h hs e3) (fun r h' hq => ?_)
  obtain ⟨rfl, hq⟩ := hq
  replace hq := hq.symm
  subst hq
  have hs := s_X9_nextOf n a1 a2 h hs e3
  refine AW_go okX9_lead 5 ?_
  refine AW_pick (lv' := [(0, .ref 51), (1, .int a1), (2, .int a2), (3, .int a3), (4, .int r1), (5, .int (Int32.ofInt 0)), (6, .int (Int32.ofInt 1))]) [3, 4, 5, 6, 2, 1, 0] rfl ?_
  exact (l_X9_lead n) a1 a2 a3 r1 (Int32.ofInt 0) (Int32.ofInt 1) h2 _ _ hs hf
def g_X9_meetSets : Nat → Nat → Int32 → Int32 → Int32 → am_H → Option (Unit × am_H)
  | 0, _, _, _, _, _ => none
  | n + 1, tag, a1, x2i, x3i, h => bif Nat.beq tag 0 then ((if (65536 : Int32) ≤ x2i then g_X9_meetSets n 1 a1 (Int32.ofInt 0) 0 (am_sI (am_sI (am_sI h 51 26 (Int32.ofInt 1)) 66 (Int32.toNatClampNeg (Int32.ofInt 0)) (Int32.ofInt 1)) 67 (Int32.toNatClampNeg (Int32.ofInt 1)) (Int32.ofInt 0)) else bif am_vp x2i 65536 then (g_X9_meetSets n 0 a1 (x2i + Int32.ofInt 1) 0 (am_sI h 67 (Int32.toNatClampNeg x2i) (Int32.ofInt (-1)))) else none)) else (bif Nat.beq tag 1 then ((if (am_I h 51 26) ≤ x2i then some ((), h) else bif am_vp x2i 4096 then (am_b2 (f_X9_nextOf n a1 (am_I h 66 (Int32.toNatClampNeg x2i)) h) fun r3 h4 => (Option.bind ((if (r3 &&& (Int32.ofInt 1)) = (Int32.ofInt 1) then some (Int32.ofInt 1) else some (Int32.ofInt 0))) fun y6 => (g_X9_meetSets n 2 a1 x2i (Int32.ofInt 0) (am_sI h4 69 (Int32.toNatClampNeg x2i) (vp_nar (am_at 2) y6))))) else none)) else ((if (Int32.ofInt 24) ≤ x3i then g_X9_meetSets n 1 a1 (x2i + Int32.ofInt 1) 0 h else bif am_vp x2i 4096 then (am_b2 (f_X9_lead n a1 (am_I h 66 (Int32.toNatClampNeg x2i)) x3i h) fun r3 h4 => (Option.bind ((if r3 = 0 then some h4 else bif am_vp r3 65536 then ((if (am_I h4 67 (Int32.toNatClampNeg r3)) = (Int32.ofInt (-1)) then bif am_vp (am_I (am_sI h4 67 (Int32.toNatClampNeg r3) (am_I h4 51 26)) 51 26) 4096 then (some (am_sI (am_sI (am_sI h4 67 (Int32.toNatClampNeg r3) (am_I h4 51 26)) 66 (Int32.toNatClampNeg (am_I (am_sI h4 67 (Int32.toNatClampNeg r3) (am_I h4 51 26)) 51 26)) r3) 51 26 ((am_I (am_sI (am_sI h4 67 (Int32.toNatClampNeg r3) (am_I h4 51 26)) 66 (Int32.toNatClampNeg (am_I (am_sI h4 67 (Int32.toNatClampNeg r3) (am_I h4 51 26)) 51 26)) r3) 51 26) + (Int32.ofInt 1)))) else none else some h4)) else none)) fun h6 => (Option.bind ((if r3 = 0 then some (Int32.ofInt (-1)) else bif am_vp r3 65536 then (some (am_I h6 67 (Int32.toNatClampNeg r3))) else none)) fun y62 => (bif am_vp (((Int32.ofInt 24) * x2i) + x3i) 98304 then (g_X9_meetSets n 2 a1 x2i (x3i + Int32.ofInt 1) (am_sI h6 68 (Int32.toNatClampNeg (((Int32.ofInt 24) * x2i) + x3i)) y62)) else none)))) else none)))
set_option maxRecDepth 100000 in
set_option maxHeartbeats 4000000 in
theorem m_X9_meetSets (n : Nat) : (∀ (a1 : Int32) (x2i : Int32) (x3i : Int32) (h : am_H) (v : Unit) (h' : am_H), am_stat h → g_X9_meetSets n 0 a1 x2i x3i h = some (v, h') → am_stat h') ∧ (∀ (a1 : Int32) (x2i : Int32) (x3i : Int32) (h : am_H) (v : Unit) (h' : am_H), am_stat h → g_X9_meetSets n 1 a1 x2i x3i h = some (v, h') → am_stat h') ∧ (∀ (a1 : Int32) (x2i : Int32) (x3i : Int32) (h : am_H) (v : Unit) (h' : am_H), am_stat h → g_X9_meetSets n 2 a1 x2i x3i h = some (v, h') → am_stat h') := by
  induction n with
  | zero => exact ⟨fun a1 x2i x3i h v h' hs hf => (by cases hf), fun a1 x2i x3i h v h' hs hf => (by cases hf), fun a1 x2i x3i h v h' hs hf => (by cases hf)⟩
  | succ n ih =>
    refine ⟨?_, ?_, ?_⟩
    · intro a1 x2i x3i h v h' hs hf
      have hf : ((if (65536 : Int32) ≤ x2i then g_X9_meetSets n 1 a1 (Int32.ofInt 0) 0 (am_sI (am_sI (am_sI h 51 26 (Int32.ofInt 1)) 66 (Int32.toNatClampNeg (Int32.ofInt 0)) (Int32.ofInt 1)) 67 (Int32.toNatClampNeg (Int32.ofInt 1)) (Int32.ofInt 0)) else bif am_vp x2i 65536 then (g_X9_meetSets n 0 a1 (x2i + Int32.ofInt 1) 0 (am_sI h 67 (Int32.toNatClampNeg x2i) (Int32.ofInt (-1)))) else none)) = some (v, h') := hf
      by_cases c1 : (65536 : Int32) ≤ x2i
      · rw [if_pos c1] at hf
        exact ih.2.1 a1 (Int32.ofInt 0) 0 (am_sI (am_sI (am_sI h 51 26 (Int32.ofInt 1)) 66 (Int32.toNatClampNeg (Int32.ofInt 0)) (Int32.ofInt 1)) 67 (Int32.toNatClampNeg (Int32.ofInt 1)) (Int32.ofInt 0)) _ _ hs hf
      · rw [if_neg c1] at hf
        obtain ⟨b2, hf⟩ := am_bis hf
        exact ih.1 a1 (x2i + Int32.ofInt 1) 0 (am_sI h 67 (Int32.toNatClampNeg x2i) (Int32.ofInt (-1))) _ _ hs hf
    · intro a1 x2i x3i h v h' hs hf
      have hf : ((if (am_I h 51 26) ≤ x2i then some ((), h) else bif am_vp x2i 4096 then (am_b2 (f_X9_nextOf n a1 (am_I h 66 (Int32.toNatClampNeg x2i)) h) fun r3 h4 => (Option.bind ((if (r3 &&& (Int32.ofInt 1)) = (Int32.ofInt 1) then some (Int32.ofInt 1) else some (Int32.ofInt 0))) fun y6 => (g_X9_meetSets n 2 a1 x2i (Int32.ofInt 0) (am_sI h4 69 (Int32.toNatClampNeg x2i) (vp_nar (am_at 2) y6))))) else none)) = some (v, h') := hf
      by_cases c1 : (am_I h 51 26) ≤ x2i
      · rw [if_pos c1] at hf
        obtain ⟨rfl, rfl⟩ := am_i2 hf
        exact hs
      · rw [if_neg c1] at hf
        obtain ⟨b2, hf⟩ := am_bis hf
        obtain ⟨r3, h4, e5, hf⟩ := am_b2_ok hf
        have hs := s_X9_nextOf n a1 (am_I h 66 (Int32.toNatClampNeg x2i)) h hs e5
        obtain ⟨y6, j7, hf⟩ := am_bnd hf
        exact ih.2.2 a1 x2i (Int32.ofInt 0) (am_sI h4 69 (Int32.toNatClampNeg x2i) (vp_nar (am_at 2) y6)) _ _ hs hf
    · intro a1 x2i x3i h v h' hs hf
      have hf : ((if (Int32.ofInt 24) ≤ x3i then g_X9_meetSets n 1 a1 (x2i + Int32.ofInt 1) 0 h else bif am_vp x2i 4096 then (am_b2 (f_X9_lead n a1 (am_I h 66 (Int32.toNatClampNeg x2i)) x3i h) fun r3 h4 => (Option.bind ((if r3 = 0 then some h4 else bif am_vp r3 65536 then ((if (am_I h4 67 (Int32.toNatClampNeg r3)) = (Int32.ofInt (-1)) then bif am_vp (am_I (am_sI h4 67 (Int32.toNatClampNeg r3) (am_I h4 51 26)) 51 26) 4096 then (some (am_sI (am_sI (am_sI h4 67 (Int32.toNatClampNeg r3) (am_I h4 51 26)) 66 (Int32.toNatClampNeg (am_I (am_sI h4 67 (Int32.toNatClampNeg r3) (am_I h4 51 26)) 51 26)) r3) 51 26 ((am_I (am_sI (am_sI h4 67 (Int32.toNatClampNeg r3) (am_I h4 51 26)) 66 (Int32.toNatClampNeg (am_I (am_sI h4 67 (Int32.toNatClampNeg r3) (am_I h4 51 26)) 51 26)) r3) 51 26) + (Int32.ofInt 1)))) else none else some h4)) else none)) fun h6 => (Option.bind ((if r3 = 0 then some (Int32.ofInt (-1)) else bif am_vp r3 65536 then (some (am_I h6 67 (Int32.toNatClampNeg r3))) else none)) fun y62 => (bif am_vp (((Int32.ofInt 24) * x2i) + x3i) 98304 then (g_X9_meetSets n 2 a1 x2i (x3i + Int32.ofInt 1) (am_sI h6 68 (Int32.toNatClampNeg (((Int32.ofInt 24) * x2i) + x3i)) y62)) else none)))) else none)) = some (v, h') := hf
      by_cases c1 : (Int32.ofInt 24) ≤ x3i
      · rw [if_pos c1] at hf
        exact ih.2.1 a1 (x2i + Int32.ofInt 1) 0 h _ _ hs hf
      · rw [if_neg c1] at hf
        obtain ⟨b2, hf⟩ := am_bis hf
        obtain ⟨r3, h4, e5, hf⟩ := am_b2_ok hf
        have hs := s_X9_lead n a1 (am_I h 66 (Int32.toNatClampNeg x2i)) x3i h hs e5
        obtain ⟨h6, j7, hf⟩ := am_bnd hf
        have hs0 := hs
        have hs : am_stat h6 := by
          have hs := hs0
          by_cases c8 : r3 = 0
          · rw [if_pos c8] at j7
            obtain rfl := am_i1 j7
            exact hs
          · rw [if_neg c8] at j7
            obtain ⟨b9, j7⟩ := am_bis j7
            by_cases c10 : (am_I h4 67 (Int32.toNatClampNeg r3)) = (Int32.ofInt (-1))
            · rw [if_pos c10] at j7
              obtain ⟨b11, j7⟩ := am_bis j7
              obtain rfl := am_i1 j7
              exact hs
            · rw [if_neg c10] at j7
              obtain rfl := am_i1 j7
              exact hs
        obtain ⟨y62, j63, hf⟩ := am_bnd hf
        obtain ⟨b116, hf⟩ := am_bis hf
        exact ih.2.2 a1 x2i (x3i + Int32.ofInt 1) (am_sI h6 68 (Int32.toNatClampNeg (((Int32.ofInt 24) * x2i) + x3i)) y62) _ _ hs hf
set_option maxRecDepth 100000 in
set_option maxHeartbeats 4000000 in
theorem l_X9_meetSets (n : Nat) : (∀ (a1 : Int32) (x2i : Int32) (x3i : Int32) (h : am_H) (v : Unit) (h' : am_H), am_stat h → g_X9_meetSets n 0 a1 x2i x3i h = some (v, h') → AW mX9_meetSets (rX9_meetSets 0 0) (fun r h2 => r = none ∧ h2 = h') 2 [(0, .ref 51), (1, .int a1), (2, .int x2i)] [] h 0 0) ∧ (∀ (a1 : Int32) (x2i : Int32) (x3i : Int32) (h : am_H) (v : Unit) (h' : am_H), am_stat h → g_X9_meetSets n 1 a1 x2i x3i h = some (v, h') → AW mX9_meetSets (rX9_meetSets 0 0) (fun r h2 => r = none ∧ h2 = h') 42 [(0, .ref 51), (1, .int a1), (2, .int x2i)] [] h 0 0) ∧ (∀ (a1 : Int32) (x2i : Int32) (x3i : Int32) (h : am_H) (v : Unit) (h' : am_H), am_stat h → g_X9_meetSets n 2 a1 x2i x3i h = some (v, h') → AW mX9_meetSets (rX9_meetSets 0 0) (fun r h2 => r = none ∧ h2 = h') 80 [(0, .ref 51), (1, .int a1), (2, .int x2i), (3, .int x3i)] [] h 0 0) := by
  induction n with
  | zero => exact ⟨fun a1 x2i x3i h v h' hs hf => (by cases hf), fun a1 x2i x3i h v h' hs hf => (by cases hf), fun a1 x2i x3i h v h' hs hf => (by cases hf)⟩
  | succ n ih =>
    refine ⟨?_, ?_, ?_⟩
    · intro a1 x2i x3i h v h' hs hf
      have hf : ((if (65536 : Int32) ≤ x2i then g_X9_meetSets n 1 a1 (Int32.ofInt 0) 0 (am_sI (am_sI (am_sI h 51 26 (Int32.ofInt 1)) 66 (Int32.toNatClampNeg (Int32.ofInt 0)) (Int32.ofInt 1)) 67 (Int32.toNatClampNeg (Int32.ofInt 1)) (Int32.ofInt 0)) else bif am_vp x2i 65536 then (g_X9_meetSets n 0 a1 (x2i + Int32.ofInt 1) 0 (am_sI h 67 (Int32.toNatClampNeg x2i) (Int32.ofInt (-1)))) else none)) = some (v, h') := hf
      refine AW_go okX9_meetSets 3 ?_
      refine And.intro (fun c1 => ?_) (fun c1 => ?_)
      · rw [if_pos c1] at hf
        refine AW_go okX9_meetSets 15 ?_
        refine And.intro (sK hs 51) ?_
        refine And.intro (sK hs 51) (Exists.intro _ (And.intro (sA hs 51 24) ?_))
        refine Exists.intro 4096 (And.intro (sK hs 66) (And.intro (by unfold vp_in; decide) ?_))
        refine And.intro (sK hs 51) (Exists.intro _ (And.intro (sA hs 51 25) ?_))
        refine Exists.intro 65536 (And.intro (sK hs 67) (And.intro (by unfold vp_in; decide) ?_))
        refine AW_pick (lv' := [(0, .ref 51), (1, .int a1), (2, .int (Int32.ofInt 0))]) [1, 2, 0] rfl ?_
        exact ih.2.1 a1 (Int32.ofInt 0) 0 (am_sI (am_sI (am_sI h 51 26 (Int32.ofInt 1)) 66 (Int32.toNatClampNeg (Int32.ofInt 0)) (Int32.ofInt 1)) 67 (Int32.toNatClampNeg (Int32.ofInt 1)) (Int32.ofInt 0)) _ _ hs hf
      · rw [if_neg c1] at hf
        obtain ⟨b2, hf⟩ := am_bis hf
        refine AW_go okX9_meetSets 7 ?_
        refine And.intro (sK hs 51) (Exists.intro _ (And.intro (sA hs 51 25) ?_))
        refine Exists.intro 65536 (And.intro (sK hs 67) (And.intro (am_vp_ok b2) ?_))
        refine AW_pick (lv' := [(0, .ref 51), (1, .int a1), (2, .int (x2i + Int32.ofInt 1))]) [1, 2, 0] rfl ?_
        exact ih.1 a1 (x2i + Int32.ofInt 1) 0 (am_sI h 67 (Int32.toNatClampNeg x2i) (Int32.ofInt (-1))) _ _ hs hf
    · intro a1 x2i x3i h v h' hs hf
      have hf : ((if (am_I h 51 26) ≤ x2i then some ((), h) else bif am_vp x2i 4096 then (am_b2 (f_X9_nextOf n a1 (am_I h 66 (Int32.toNatClampNeg x2i)) h) fun r3 h4 => (Option.bind ((if (r3 &&& (Int32.ofInt 1)) = (Int32.ofInt 1) then some (Int32.ofInt 1) else some (Int32.ofInt 0))) fun y6 => (g_X9_meetSets n 2 a1 x2i (Int32.ofInt 0) (am_sI h4 69 (Int32.toNatClampNeg x2i) (vp_nar (am_at 2) y6))))) else none)) = some (v, h') := hf
      refine AW_go okX9_meetSets 4 ?_
      refine And.intro (sK hs 51) ?_
      refine And.intro (fun c1 => ?_) (fun c1 => ?_)
      · rw [if_pos c1] at hf
        refine AW_go okX9_meetSets 1 ?_
        obtain ⟨rfl, rfl⟩ := am_i2 hf
        exact And.intro ⟨(Nat.le_of_ble_eq_true rfl), (Nat.le_of_ble_eq_true rfl)⟩ (And.intro rfl ⟨rfl, rfl⟩)
      · rw [if_neg c1] at hf
        obtain ⟨b2, hf⟩ := am_bis hf
        refine AW_go okX9_meetSets 9 ?_
        refine And.intro (sK hs 51) (Exists.intro _ (And.intro (sA hs 51 28) ?_))
        refine And.intro (sK hs 51) (Exists.intro _ (And.intro (sA hs 51 24) ?_))
        refine Exists.intro 4096 (And.intro (sK hs 66) (And.intro (am_vp_ok b2) ?_))
        obtain ⟨r3, h4, e5, hf⟩ := am_b2_ok hf
        refine AW_callV (As := [.int a1, .int (am_I h 66 (Int32.toNatClampNeg x2i))]) (R' := rX9_nextOf 0 0) (T := TX9) (N := 58) (ci := 9) (okX9_meetSets.1 63 _ _ rfl) lkX9_nextOf kX9_206 rfl (sK hs 51) rfl (Nat.le_of_ble_eq_true rfl) ⟨by decide, by decide⟩ ⟨(Nat.le_of_ble_eq_true rfl), (Nat.le_of_ble_eq_true rfl)⟩ (Nat.le_of_ble_eq_true rfl) (c_X9_nextOf n a1 (am_I h 66 (Int32.toNatClampNeg x2i)) h hs e5) (fun r h' hq => ?_)
        obtain ⟨rfl, hq⟩ := hq
        replace hq := hq.symm
        subst hq
        have hs := s_X9_nextOf n a1 (am_I h 66 (Int32.toNatClampNeg x2i)) h hs e5
        refine AW_go okX9_meetSets 3 ?_
        obtain ⟨y6, j7, hf⟩ := am_bnd hf
        refine am_cut (P := AW mX9_meetSets (rX9_meetSets 0 0) (fun r h2 => r = none ∧ h2 = h') 77 [(0, .ref 51), (1, .int a1), (2, .int x2i)] [.int y6, .int x2i, .ref 69] h4 0 0) (fun hJ7 => ?_) ?_
        · have hs := hs
          refine AW_go okX9_meetSets 1 ?_
          refine And.intro (fun c8 => ?_) (fun c8 => ?_)
          · rw [if_neg c8] at j7
            refine AW_go okX9_meetSets 1 ?_
            obtain rfl := am_i1 j7
            exact AW_pick [0, 1, 2] rfl hJ7
          · rw [if_pos c8] at j7
            refine AW_go okX9_meetSets 2 ?_
            obtain rfl := am_i1 j7
            exact AW_pick [0, 1, 2] rfl hJ7
        refine AW_go okX9_meetSets 3 ?_
        refine Exists.intro 2 (Exists.intro 4096 (And.intro (by decide) (And.intro (sK hs 69) (And.intro (am_vp_ok b2) ?_))))
        refine AW_pick (lv' := [(0, .ref 51), (1, .int a1), (2, .int x2i), (3, .int (Int32.ofInt 0))]) [1, 2, 3, 0] rfl ?_
        exact ih.2.2 a1 x2i (Int32.ofInt 0) (am_sI h4 69 (Int32.toNatClampNeg x2i) (vp_nar (am_at 2) y6)) _ _ hs hf
    · intro a1 x2i x3i h v h' hs hf
      have hf : ((if (Int32.ofInt 24) ≤ x3i then g_X9_meetSets n 1 a1 (x2i + Int32.ofInt 1) 0 h else bif am_vp x2i 4096 then (am_b2 (f_X9_lead n a1 (am_I h 66 (Int32.toNatClampNeg x2i)) x3i h) fun r3 h4 => (Option.bind ((if r3 = 0 then some h4 else bif am_vp r3 65536 then ((if (am_I h4 67 (Int32.toNatClampNeg r3)) = (Int32.ofInt (-1)) then bif am_vp (am_I (am_sI h4 67 (Int32.toNatClampNeg r3) (am_I h4 51 26)) 51 26) 4096 then (some (am_sI (am_sI (am_sI h4 67 (Int32.toNatClampNeg r3) (am_I h4 51 26)) 66 (Int32.toNatClampNeg (am_I (am_sI h4 67 (Int32.toNatClampNeg r3) (am_I h4 51 26)) 51 26)) r3) 51 26 ((am_I (am_sI (am_sI h4 67 (Int32.toNatClampNeg r3) (am_I h4 51 26)) 66 (Int32.toNatClampNeg (am_I (am_sI h4 67 (Int32.toNatClampNeg r3) (am_I h4 51 26)) 51 26)) r3) 51 26) + (Int32.ofInt 1)))) else none else some h4)) else none)) fun h6 => (Option.bind ((if r3 = 0 then some (Int32.ofInt (-1)) else bif am_vp r3 65536 then (some (am_I h6 67 (Int32.toNatClampNeg r3))) else none)) fun y62 => (bif am_vp (((Int32.ofInt 24) * x2i) + x3i) 98304 then (g_X9_meetSets n 2 a1 x2i (x3i + Int32.ofInt 1) (am_sI h6 68 (Int32.toNatClampNeg (((Int32.ofInt 24) * x2i) + x3i)) y62)) else none)))) else none)) = some (v, h') := hf
      refine AW_go okX9_meetSets 3 ?_
      refine And.intro (fun c1 => ?_) (fun c1 => ?_)
      · rw [if_pos c1] at hf
        refine AW_go okX9_meetSets 2 ?_
        refine AW_pick (lv' := [(0, .ref 51), (1, .int a1), (2, .int (x2i + Int32.ofInt 1))]) [1, 2, 0] rfl ?_
        exact ih.2.1 a1 (x2i + Int32.ofInt 1) 0 h _ _ hs hf
      · rw [if_neg c1] at hf
        obtain ⟨b2, hf⟩ := am_bis hf
        refine AW_go okX9_meetSets 7 ?_
        refine And.intro (sK hs 51) (Exists.intro _ (And.intro (sA hs 51 24) ?_))
        refine Exists.intro 4096 (And.intro (sK hs 66) (And.intro (am_vp_ok b2) ?_))
        obtain ⟨r3, h4, e5, hf⟩ := am_b2_ok hf
        refine AW_callV (As := [.int a1, .int (am_I h 66 (Int32.toNatClampNeg x2i)), .int x3i]) (R' := rX9_lead 0 0) (T := TX9) (N := 58) (ci := 9) (okX9_meetSets.1 95 _ _ rfl) lkX9_lead kX9_216 rfl (sK hs 51) rfl (Nat.le_of_ble_eq_true rfl) ⟨by decide, by decide⟩ ⟨(Nat.le_of_ble_eq_true rfl), (Nat.le_of_ble_eq_true rfl)⟩ (Nat.le_of_ble_eq_true rfl) (c_X9_lead n a1 (am_I h 66 (Int32.toNatClampNeg x2i)) x3i h hs e5) (fun r h' hq => ?_)
        obtain ⟨rfl, hq⟩ := hq
        replace hq := hq.symm
        subst hq
        have hs := s_X9_lead n a1 (am_I h 66 (Int32.toNatClampNeg x2i)) x3i h hs e5
        refine AW_go okX9_meetSets 2 ?_
        obtain ⟨h6, j7, hf⟩ := am_bnd hf
        have hs0 := hs
        have hs : am_stat h6 := by
          have hs := hs0
          by_cases c8 : r3 = 0
          · rw [if_pos c8] at j7
            obtain rfl := am_i1 j7
            exact hs
          · rw [if_neg c8] at j7
            obtain ⟨b9, j7⟩ := am_bis j7
            by_cases c10 : (am_I h4 67 (Int32.toNatClampNeg r3)) = (Int32.ofInt (-1))
            · rw [if_pos c10] at j7
              obtain ⟨b11, j7⟩ := am_bis j7
              obtain rfl := am_i1 j7
              exact hs
            · rw [if_neg c10] at j7
              obtain rfl := am_i1 j7
              exact hs
        refine am_cut (P := AW mX9_meetSets (rX9_meetSets 0 0) (fun r h2 => r = none ∧ h2 = h') 148 [(0, .ref 51), (1, .int a1), (2, .int x2i), (3, .int x3i), (4, .int r3)] [] h6 0 0) (fun hJ7 => ?_) ?_
        · have hs := hs0
          refine AW_go okX9_meetSets 1 ?_
          refine And.intro (fun c8 => ?_) (fun c8 => ?_)
          · rw [if_pos c8] at j7
            obtain rfl := am_i1 j7
            exact AW_pick [1, 2, 3, 4, 0] rfl hJ7
          · rw [if_neg c8] at j7
            obtain ⟨b9, j7⟩ := am_bis j7
            refine AW_go okX9_meetSets 6 ?_
            refine And.intro (sK hs 51) (Exists.intro _ (And.intro (sA hs 51 25) ?_))
            refine Exists.intro 65536 (And.intro (sK hs 67) (And.intro (am_vp_ok b9) ?_))
            refine And.intro (fun c10 => ?_) (fun c10 => ?_)
            · rw [if_neg c10] at j7
              obtain rfl := am_i1 j7
              exact AW_pick [1, 2, 3, 4, 0] rfl hJ7
            · rw [if_pos c10] at j7
              obtain ⟨b11, j7⟩ := am_bis j7
              refine AW_go okX9_meetSets 18 ?_
              refine And.intro (sK hs 51) (Exists.intro _ (And.intro (sA hs 51 25) ?_))
              refine And.intro (sK hs 51) ?_
              refine Exists.intro 65536 (And.intro (sK hs 67) (And.intro (am_vp_ok b9) ?_))
              refine And.intro (sK hs 51) (Exists.intro _ (And.intro (sA hs 51 24) ?_))
              refine And.intro (sK hs 51) ?_
              refine Exists.intro 4096 (And.intro (sK hs 66) (And.intro (am_vp_ok b11) ?_))
              refine And.intro (sK hs 51) ?_
              refine And.intro (sK hs 51) ?_
              obtain rfl := am_i1 j7
              exact AW_pick [1, 2, 3, 4, 0] rfl hJ7
        refine AW_go okX9_meetSets 8 ?_
        refine And.intro (sK hs 51) (Exists.intro _ (And.intro (sA hs 51 27) ?_))
        obtain ⟨y62, j63, hf⟩ := am_bnd hf
        refine am_cut (P := AW mX9_meetSets (rX9_meetSets 0 0) (fun r h2 => r = none ∧ h2 = h') 174 [(0, .ref 51), (1, .int a1), (2, .int x2i), (3, .int x3i), (4, .int r3)] [.int y62, .int (((Int32.ofInt 24) * x2i) + x3i), .ref 68] h6 0 0) (fun hJ63 => ?_) ?_
        · have hs := hs
          refine AW_go okX9_meetSets 1 ?_
          refine And.intro (fun c64 => ?_) (fun c64 => ?_)
          · rw [if_neg c64] at j63
            obtain ⟨b65, j63⟩ := am_bis j63
            refine AW_go okX9_meetSets 4 ?_
            refine And.intro (sK hs 51) (Exists.intro _ (And.intro (sA hs 51 25) ?_))
            refine Exists.intro 65536 (And.intro (sK hs 67) (And.intro (am_vp_ok b65) ?_))
            obtain rfl := am_i1 j63
            exact AW_pick [0, 1, 2, 3, 4] rfl hJ63
          · rw [if_pos c64] at j63
            refine AW_go okX9_meetSets 2 ?_
            obtain rfl := am_i1 j63
            exact AW_pick [0, 1, 2, 3, 4] rfl hJ63
        obtain ⟨b116, hf⟩ := am_bis hf
        refine AW_go okX9_meetSets 3 ?_
        refine Exists.intro 98304 (And.intro (sK hs 68) (And.intro (am_vp_ok b116) ?_))
        refine AW_pick (lv' := [(0, .ref 51), (1, .int a1), (2, .int x2i), (3, .int (x3i + Int32.ofInt 1))]) [1, 2, 3, 0] rfl ?_
        exact ih.2.2 a1 x2i (x3i + Int32.ofInt 1) (am_sI h6 68 (Int32.toNatClampNeg (((Int32.ofInt 24) * x2i) + x3i)) y62) _ _ hs hf
def f_X9_meetSets (n : Nat) (a1 : Int32) (h : am_H) : Option (Unit × am_H) := g_X9_meetSets n 0 a1 (Int32.ofInt 0) 0 h
set_option maxRecDepth 100000 in
theorem s_X9_meetSets (n : Nat) (a1 : Int32) (h : am_H) (hs : am_stat h) {v : Unit} {h' : am_H} (hf : f_X9_meetSets n a1 h = some (v, h')) : am_stat h' := by
  unfold f_X9_meetSets at hf
  exact (m_X9_meetSets n).1 a1 (Int32.ofInt 0) 0 h _ _ hs hf
set_option maxRecDepth 100000 in
theorem c_X9_meetSets (n : Nat) (a1 : Int32) (h : am_H) (hs : am_stat h) {v : Unit} {h' : am_H} (hf : f_X9_meetSets n a1 h = some (v, h')) : AMet mX9_meetSets (rX9_meetSets 0 0) (fun r h2 => r = none ∧ h2 = h') [.ref 51, .int a1] h := by
  unfold f_X9_meetSets at hf
  refine AW_go okX9_meetSets 2 ?_
  refine AW_pick (lv' := [(0, .ref 51), (1, .int a1), (2, .int (Int32.ofInt 0))]) [1, 2, 0] rfl ?_
  exact (l_X9_meetSets n).1 a1 (Int32.ofInt 0) 0 h _ _ hs hf
