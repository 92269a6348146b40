def f_X9_follow (a1 : Int32) (a2 : Int32) (h : am_H) : Option (Int32 × am_H) := am_b2 (f_X9_isBook a1 h) fun r1 h2 => (am_b2 ((if r1 = 0 then some ((Int32.ofInt (-101)), h2) else bif am_vp a1 8 then (am_b2 (f_X9_within a2 (Int32.ofInt 0) (am_I h2 55 (Int32.toNatClampNeg a1)) h2) fun r9 h10 => ((if r9 = 0 then some ((Int32.ofInt (-101)), h10) else bif am_vp (((Int32.ofInt 16) * a1) + a2) 128 then (some ((am_I h10 54 (Int32.toNatClampNeg (((Int32.ofInt 16) * a1) + a2))), h10)) else none))) else none)) fun y4 h5 => (some (y4, h5)))
set_option maxRecDepth 100000 in
theorem s_X9_follow (a1 : Int32) (a2 : Int32) (h : am_H) (hs : am_stat h) {v : Int32} {h' : am_H} (hf : f_X9_follow a1 a2 h = some (v, h')) : am_stat h' := by
  unfold f_X9_follow at hf
  obtain ⟨r1, h2, e3, hf⟩ := am_b2_ok hf
  have hs := s_X9_isBook a1 h hs e3
  obtain ⟨y4, h5, j6, hf⟩ := am_b2_ok hf
  have hs0 := hs
  have hs : am_stat h5 := by
    have hs := hs0
    by_cases c7 : r1 = 0
    · rw [if_pos c7] at j6
      obtain ⟨rfl, rfl⟩ := am_i2 j6
      exact hs
    · rw [if_neg c7] at j6
      obtain ⟨b8, j6⟩ := am_bis j6
      obtain ⟨r9, h10, e11, j6⟩ := am_b2_ok j6
      have hs := s_X9_within a2 (Int32.ofInt 0) (am_I h2 55 (Int32.toNatClampNeg a1)) h2 hs e11
      by_cases c12 : r9 = 0
      · rw [if_pos c12] at j6
        obtain ⟨rfl, rfl⟩ := am_i2 j6
        exact hs
      · rw [if_neg c12] at j6
        obtain ⟨b13, j6⟩ := am_bis j6
        obtain ⟨rfl, rfl⟩ := am_i2 j6
        exact hs
  obtain ⟨rfl, rfl⟩ := am_i2 hf
  exact hs
set_option maxRecDepth 100000 in
theorem c_X9_follow (a1 : Int32) (a2 : Int32) (h : am_H) (hs : am_stat h) {v : Int32} {h' : am_H} (hf : f_X9_follow a1 a2 h = some (v, h')) : AMet mX9_follow (rX9_follow 0 0) (fun r h2 => r = some (.int v) ∧ h2 = h') [.ref 51, .int a1, .int a2] h := by
  unfold f_X9_follow at hf
  refine AW_go okX9_follow 2 ?_
  obtain ⟨r1, h2, e3, hf⟩ := am_b2_ok hf
  refine AW_callV (As := [.int a1]) (R' := rX9_isBook 0 0) (T := TX9) (N := 58) (ci := 9) (okX9_follow.1 2 _ _ rfl) lkX9_isBook kX9_203 rfl (sK hs 51) rfl (Nat.le_of_ble_eq_true rfl) ⟨by decide, by decide⟩ ⟨(Nat.le_of_ble_eq_true rfl), (Nat.le_of_ble_eq_true rfl)⟩ (Nat.le_of_ble_eq_true rfl) (c_X9_isBook a1 h hs e3) (fun r h' hq => ?_)
  obtain ⟨rfl, hq⟩ := hq
  replace hq := hq.symm
  subst hq
  have hs := s_X9_isBook a1 h hs e3
  obtain ⟨y4, h5, j6, hf⟩ := am_b2_ok hf
  have hs0 := hs
  have hs : am_stat h5 := by
    have hs := hs0
    by_cases c7 : r1 = 0
    · rw [if_pos c7] at j6
      obtain ⟨rfl, rfl⟩ := am_i2 j6
      exact hs
    · rw [if_neg c7] at j6
      obtain ⟨b8, j6⟩ := am_bis j6
      obtain ⟨r9, h10, e11, j6⟩ := am_b2_ok j6
      have hs := s_X9_within a2 (Int32.ofInt 0) (am_I h2 55 (Int32.toNatClampNeg a1)) h2 hs e11
      by_cases c12 : r9 = 0
      · rw [if_pos c12] at j6
        obtain ⟨rfl, rfl⟩ := am_i2 j6
        exact hs
      · rw [if_neg c12] at j6
        obtain ⟨b13, j6⟩ := am_bis j6
        obtain ⟨rfl, rfl⟩ := am_i2 j6
        exact hs
  refine am_cut (P := AW mX9_follow (rX9_follow 0 0) (fun r h2 => r = some (.int v) ∧ h2 = h') 38 [(0, .ref 51), (1, .int a1), (2, .int a2)] [.int y4] h5 0 0) (fun hJ6 => ?_) ?_
  · have hs := hs0
    refine AW_go okX9_follow 1 ?_
    refine And.intro (fun c7 => ?_) (fun c7 => ?_)
    · rw [if_pos c7] at j6
      refine AW_go okX9_follow 1 ?_
      obtain ⟨rfl, rfl⟩ := am_i2 j6
      exact AW_pick [0, 1, 2] rfl hJ6
    · rw [if_neg c7] at j6
      obtain ⟨b8, j6⟩ := am_bis j6
      refine AW_go okX9_follow 6 ?_
      refine And.intro (sK hs 51) (Exists.intro _ (And.intro (sA hs 51 5) ?_))
      refine Exists.intro 8 (And.intro (sK hs 55) (And.intro (am_vp_ok b8) ?_))
      obtain ⟨r9, h10, e11, j6⟩ := am_b2_ok j6
      refine AW_callS (As := [.int a2, .int (Int32.ofInt 0), .int (am_I h2 55 (Int32.toNatClampNeg a1))]) (R' := rX9_within 0 0) (okX9_follow.1 16 _ _ rfl) lkX9_within (Or.inl kX9_134) rfl (Nat.le_of_ble_eq_true rfl) ⟨by decide, by decide⟩ ⟨(Nat.le_of_ble_eq_true rfl), (Nat.le_of_ble_eq_true rfl)⟩ (Nat.le_of_ble_eq_true rfl) (c_X9_within a2 (Int32.ofInt 0) (am_I h2 55 (Int32.toNatClampNeg a1)) h2 hs e11) (fun r h' hq => ?_)
      obtain ⟨rfl, hq⟩ := hq
      replace hq := hq.symm
      subst hq
      have hs := s_X9_within a2 (Int32.ofInt 0) (am_I h2 55 (Int32.toNatClampNeg a1)) h2 hs e11
      refine AW_go okX9_follow 1 ?_
      refine And.intro (fun c12 => ?_) (fun c12 => ?_)
      · rw [if_pos c12] at j6
        refine AW_go okX9_follow 1 ?_
        obtain ⟨rfl, rfl⟩ := am_i2 j6
        exact AW_pick [0, 1, 2] rfl hJ6
      · rw [if_neg c12] at j6
        obtain ⟨b13, j6⟩ := am_bis j6
        refine AW_go okX9_follow 9 ?_
        refine And.intro (sK hs 51) (Exists.intro _ (And.intro (sA hs 51 4) ?_))
        refine Exists.intro 128 (And.intro (sK hs 54) (And.intro (am_vp_ok b13) ?_))
        obtain ⟨rfl, rfl⟩ := am_i2 j6
        exact AW_pick [0, 1, 2] rfl hJ6
  refine AW_go okX9_follow 1 ?_
  obtain ⟨rfl, rfl⟩ := am_i2 hf
  exact And.intro ⟨(Nat.le_of_ble_eq_true rfl), (Nat.le_of_ble_eq_true rfl)⟩ (And.intro (Or.inl rfl) ⟨rfl, rfl⟩)
def g_X9_meetPair : Nat → Nat → Int32 → Int32 → Int32 → Int32 → Int32 → am_H → Option (Int32 × am_H)
  | 0, _, _, _, _, _, _, _ => none
  | n + 1, _, a1, a2, a3, a4, x5i, h => bif am_vp x5i 131072 then ((if (am_I h 76 (Int32.toNatClampNeg x5i)) = 0 then bif am_vp (am_I h 51 36) 65536 then (bif am_vp (am_I (am_sI h 72 (Int32.toNatClampNeg (am_I h 51 36)) a1) 51 36) 65536 then (bif am_vp (am_I (am_sI (am_sI h 72 (Int32.toNatClampNeg (am_I h 51 36)) a1) 73 (Int32.toNatClampNeg (am_I (am_sI h 72 (Int32.toNatClampNeg (am_I h 51 36)) a1) 51 36)) a2) 51 36) 65536 then (bif am_vp (am_I (am_sI (am_sI (am_sI h 72 (Int32.toNatClampNeg (am_I h 51 36)) a1) 73 (Int32.toNatClampNeg (am_I (am_sI h 72 (Int32.toNatClampNeg (am_I h 51 36)) a1) 51 36)) a2) 74 (Int32.toNatClampNeg (am_I (am_sI (am_sI h 72 (Int32.toNatClampNeg (am_I h 51 36)) a1) 73 (Int32.toNatClampNeg (am_I (am_sI h 72 (Int32.toNatClampNeg (am_I h 51 36)) a1) 51 36)) a2) 51 36)) a3) 51 36) 65536 then (some ((Int32.ofInt 1), (am_sI (am_sI (am_sI (am_sI (am_sI (am_sI h 72 (Int32.toNatClampNeg (am_I h 51 36)) a1) 73 (Int32.toNatClampNeg (am_I (am_sI h 72 (Int32.toNatClampNeg (am_I h 51 36)) a1) 51 36)) a2) 74 (Int32.toNatClampNeg (am_I (am_sI (am_sI h 72 (Int32.toNatClampNeg (am_I h 51 36)) a1) 73 (Int32.toNatClampNeg (am_I (am_sI h 72 (Int32.toNatClampNeg (am_I h 51 36)) a1) 51 36)) a2) 51 36)) a3) 75 (Int32.toNatClampNeg (am_I (am_sI (am_sI (am_sI h 72 (Int32.toNatClampNeg (am_I h 51 36)) a1) 73 (Int32.toNatClampNeg (am_I (am_sI h 72 (Int32.toNatClampNeg (am_I h 51 36)) a1) 51 36)) a2) 74 (Int32.toNatClampNeg (am_I (am_sI (am_sI h 72 (Int32.toNatClampNeg (am_I h 51 36)) a1) 73 (Int32.toNatClampNeg (am_I (am_sI h 72 (Int32.toNatClampNeg (am_I h 51 36)) a1) 51 36)) a2) 51 36)) a3) 51 36)) a4) 51 36 ((am_I (am_sI (am_sI (am_sI (am_sI h 72 (Int32.toNatClampNeg (am_I h 51 36)) a1) 73 (Int32.toNatClampNeg (am_I (am_sI h 72 (Int32.toNatClampNeg (am_I h 51 36)) a1) 51 36)) a2) 74 (Int32.toNatClampNeg (am_I (am_sI (am_sI h 72 (Int32.toNatClampNeg (am_I h 51 36)) a1) 73 (Int32.toNatClampNeg (am_I (am_sI h 72 (Int32.toNatClampNeg (am_I h 51 36)) a1) 51 36)) a2) 51 36)) a3) 75 (Int32.toNatClampNeg (am_I (am_sI (am_sI (am_sI h 72 (Int32.toNatClampNeg (am_I h 51 36)) a1) 73 (Int32.toNatClampNeg (am_I (am_sI h 72 (Int32.toNatClampNeg (am_I h 51 36)) a1) 51 36)) a2) 74 (Int32.toNatClampNeg (am_I (am_sI (am_sI h 72 (Int32.toNatClampNeg (am_I h 51 36)) a1) 73 (Int32.toNatClampNeg (am_I (am_sI h 72 (Int32.toNatClampNeg (am_I h 51 36)) a1) 51 36)) a2) 51 36)) a3) 51 36)) a4) 51 36) + (Int32.ofInt 1))) 76 (Int32.toNatClampNeg x5i) (am_I (am_sI (am_sI (am_sI (am_sI (am_sI h 72 (Int32.toNatClampNeg (am_I h 51 36)) a1) 73 (Int32.toNatClampNeg (am_I (am_sI h 72 (Int32.toNatClampNeg (am_I h 51 36)) a1) 51 36)) a2) 74 (Int32.toNatClampNeg (am_I (am_sI (am_sI h 72 (Int32.toNatClampNeg (am_I h 51 36)) a1) 73 (Int32.toNatClampNeg (am_I (am_sI h 72 (Int32.toNatClampNeg (am_I h 51 36)) a1) 51 36)) a2) 51 36)) a3) 75 (Int32.toNatClampNeg (am_I (am_sI (am_sI (am_sI h 72 (Int32.toNatClampNeg (am_I h 51 36)) a1) 73 (Int32.toNatClampNeg (am_I (am_sI h 72 (Int32.toNatClampNeg (am_I h 51 36)) a1) 51 36)) a2) 74 (Int32.toNatClampNeg (am_I (am_sI (am_sI h 72 (Int32.toNatClampNeg (am_I h 51 36)) a1) 73 (Int32.toNatClampNeg (am_I (am_sI h 72 (Int32.toNatClampNeg (am_I h 51 36)) a1) 51 36)) a2) 51 36)) a3) 51 36)) a4) 51 36 ((am_I (am_sI (am_sI (am_sI (am_sI h 72 (Int32.toNatClampNeg (am_I h 51 36)) a1) 73 (Int32.toNatClampNeg (am_I (am_sI h 72 (Int32.toNatClampNeg (am_I h 51 36)) a1) 51 36)) a2) 74 (Int32.toNatClampNeg (am_I (am_sI (am_sI h 72 (Int32.toNatClampNeg (am_I h 51 36)) a1) 73 (Int32.toNatClampNeg (am_I (am_sI h 72 (Int32.toNatClampNeg (am_I h 51 36)) a1) 51 36)) a2) 51 36)) a3) 75 (Int32.toNatClampNeg (am_I (am_sI (am_sI (am_sI h 72 (Int32.toNatClampNeg (am_I h 51 36)) a1) 73 (Int32.toNatClampNeg (am_I (am_sI h 72 (Int32.toNatClampNeg (am_I h 51 36)) a1) 51 36)) a2) 74 (Int32.toNatClampNeg (am_I (am_sI (am_sI h 72 (Int32.toNatClampNeg (am_I h 51 36)) a1) 73 (Int32.toNatClampNeg (am_I (am_sI h 72 (Int32.toNatClampNeg (am_I h 51 36)) a1) 51 36)) a2) 51 36)) a3) 51 36)) a4) 51 36) + (Int32.ofInt 1))) 51 36)))) else none) else none) else none) else none else bif am_vp ((am_I h 76 (Int32.toNatClampNeg x5i)) - (Int32.ofInt 1)) 65536 then ((if (am_I h 72 (Int32.toNatClampNeg ((am_I h 76 (Int32.toNatClampNeg x5i)) - (Int32.ofInt 1)))) = a1 then (if (am_I h 73 (Int32.toNatClampNeg ((am_I h 76 (Int32.toNatClampNeg x5i)) - (Int32.ofInt 1)))) = a2 then some ((Int32.ofInt 0), h) else g_X9_meetPair n 0 a1 a2 a3 a4 ((x5i + (Int32.ofInt 1)) - (x5i + (Int32.ofInt 1)) / (131072 : Int32) * (131072 : Int32)) h) else g_X9_meetPair n 0 a1 a2 a3 a4 ((x5i + (Int32.ofInt 1)) - (x5i + (Int32.ofInt 1)) / (131072 : Int32) * (131072 : Int32)) h)) else none)) else none
set_option maxRecDepth 100000 in
set_option maxHeartbeats 4000000 in
theorem m_X9_meetPair (n : Nat) : (∀ (a1 : Int32) (a2 : Int32) (a3 : Int32) (a4 : Int32) (x5i : Int32) (h : am_H) (v : Int32) (h' : am_H), am_stat h → g_X9_meetPair n 0 a1 a2 a3 a4 x5i h = some (v, h') → am_stat h') := by
  induction n with
  | zero => exact fun a1 a2 a3 a4 x5i h v h' hs hf => (by cases hf)
  | succ n ih =>
    skip
    · intro a1 a2 a3 a4 x5i h v h' hs hf
      have hf : (bif am_vp x5i 131072 then ((if (am_I h 76 (Int32.toNatClampNeg x5i)) = 0 then bif am_vp (am_I h 51 36) 65536 then (bif am_vp (am_I (am_sI h 72 (Int32.toNatClampNeg (am_I h 51 36)) a1) 51 36) 65536 then (bif am_vp (am_I (am_sI (am_sI h 72 (Int32.toNatClampNeg (am_I h 51 36)) a1) 73 (Int32.toNatClampNeg (am_I (am_sI h 72 (Int32.toNatClampNeg (am_I h 51 36)) a1) 51 36)) a2) 51 36) 65536 then (bif am_vp (am_I (am_sI (am_sI (am_sI h 72 (Int32.toNatClampNeg (am_I h 51 36)) a1) 73 (Int32.toNatClampNeg (am_I (am_sI h 72 (Int32.toNatClampNeg (am_I h 51 36)) a1) 51 36)) a2) 74 (Int32.toNatClampNeg (am_I (am_sI (am_sI h 72 (Int32.toNatClampNeg (am_I h 51 36)) a1) 73 (Int32.toNatClampNeg (am_I (am_sI h 72 (Int32.toNatClampNeg (am_I h 51 36)) a1) 51 36)) a2) 51 36)) a3) 51 36) 65536 then (some ((Int32.ofInt 1), (am_sI (am_sI (am_sI (am_sI (am_sI (am_sI h 72 (Int32.toNatClampNeg (am_I h 51 36)) a1) 73 (Int32.toNatClampNeg (am_I (am_sI h 72 (Int32.toNatClampNeg (am_I h 51 36)) a1) 51 36)) a2) 74 (Int32.toNatClampNeg (am_I (am_sI (am_sI h 72 (Int32.toNatClampNeg (am_I h 51 36)) a1) 73 (Int32.toNatClampNeg (am_I (am_sI h 72 (Int32.toNatClampNeg (am_I h 51 36)) a1) 51 36)) a2) 51 36)) a3) 75 (Int32.toNatClampNeg (am_I (am_sI (am_sI (am_sI h 72 (Int32.toNatClampNeg (am_I h 51 36)) a1) 73 (Int32.toNatClampNeg (am_I (am_sI h 72 (Int32.toNatClampNeg (am_I h 51 36)) a1) 51 36)) a2) 74 (Int32.toNatClampNeg (am_I (am_sI (am_sI h 72 (Int32.toNatClampNeg (am_I h 51 36)) a1) 73 (Int32.toNatClampNeg (am_I (am_sI h 72 (Int32.toNatClampNeg (am_I h 51 36)) a1) 51 36)) a2) 51 36)) a3) 51 36)) a4) 51 36 ((am_I (am_sI (am_sI (am_sI (am_sI h 72 (Int32.toNatClampNeg (am_I h 51 36)) a1) 73 (Int32.toNatClampNeg (am_I (am_sI h 72 (Int32.toNatClampNeg (am_I h 51 36)) a1) 51 36)) a2) 74 (Int32.toNatClampNeg (am_I (am_sI (am_sI h 72 (Int32.toNatClampNeg (am_I h 51 36)) a1) 73 (Int32.toNatClampNeg (am_I (am_sI h 72 (Int32.toNatClampNeg (am_I h 51 36)) a1) 51 36)) a2) 51 36)) a3) 75 (Int32.toNatClampNeg (am_I (am_sI (am_sI (am_sI h 72 (Int32.toNatClampNeg (am_I h 51 36)) a1) 73 (Int32.toNatClampNeg (am_I (am_sI h 72 (Int32.toNatClampNeg (am_I h 51 36)) a1) 51 36)) a2) 74 (Int32.toNatClampNeg (am_I (am_sI (am_sI h 72 (Int32.toNatClampNeg (am_I h 51 36)) a1) 73 (Int32.toNatClampNeg (am_I (am_sI h 72 (Int32.toNatClampNeg (am_I h 51 36)) a1) 51 36)) a2) 51 36)) a3) 51 36)) a4) 51 36) + (Int32.ofInt 1))) 76 (Int32.toNatClampNeg x5i) (am_I (am_sI (am_sI (am_sI (am_sI (am_sI h 72 (Int32.toNatClampNeg (am_I h 51 36)) a1) 73 (Int32.toNatClampNeg (am_I (am_sI h 72 (Int32.toNatClampNeg (am_I h 51 36)) a1) 51 36)) a2) 74 (Int32.toNatClampNeg (am_I (am_sI (am_sI h 72 (Int32.toNatClampNeg (am_I h 51 36)) a1) 73 (Int32.toNatClampNeg (am_I (am_sI h 72 (Int32.toNatClampNeg (am_I h 51 36)) a1) 51 36)) a2) 51 36)) a3) 75 (Int32.toNatClampNeg (am_I (am_sI (am_sI (am_sI h 72 (Int32.toNatClampNeg (am_I h 51 36)) a1) 73 (Int32.toNatClampNeg (am_I (am_sI h 72 (Int32.toNatClampNeg (am_I h 51 36)) a1) 51 36)) a2) 74 (Int32.toNatClampNeg (am_I (am_sI (am_sI h 72 (Int32.toNatClampNeg (am_I h 51 36)) a1) 73 (Int32.toNatClampNeg (am_I (am_sI h 72 (Int32.toNatClampNeg (am_I h 51 36)) a1) 51 36)) a2) 51 36)) a3) 51 36)) a4) 51 36 ((am_I (am_sI (am_sI (am_sI (am_sI h 72 (Int32.toNatClampNeg (am_I h 51 36)) a1) 73 (Int32.toNatClampNeg (am_I (am_sI h 72 (Int32.toNatClampNeg (am_I h 51 36)) a1) 51 36)) a2) 74 (Int32.toNatClampNeg (am_I (am_sI (am_sI h 72 (Int32.toNatClampNeg (am_I h 51 36)) a1) 73 (Int32.toNatClampNeg (am_I (am_sI h 72 (Int32.toNatClampNeg (am_I h 51 36)) a1) 51 36)) a2) 51 36)) a3) 75 (Int32.toNatClampNeg (am_I (am_sI (am_sI (am_sI h 72 (Int32.toNatClampNeg (am_I h 51 36)) a1) 73 (Int32.toNatClampNeg (am_I (am_sI h 72 (Int32.toNatClampNeg (am_I h 51 36)) a1) 51 36)) a2) 74 (Int32.toNatClampNeg (am_I (am_sI (am_sI h 72 (Int32.toNatClampNeg (am_I h 51 36)) a1) 73 (Int32.toNatClampNeg (am_I (am_sI h 72 (Int32.toNatClampNeg (am_I h 51 36)) a1) 51 36)) a2) 51 36)) a3) 51 36)) a4) 51 36) + (Int32.ofInt 1))) 51 36)))) else none) else none) else none) else none else bif am_vp ((am_I h 76 (Int32.toNatClampNeg x5i)) - (Int32.ofInt 1)) 65536 then ((if (am_I h 72 (Int32.toNatClampNeg ((am_I h 76 (Int32.toNatClampNeg x5i)) - (Int32.ofInt 1)))) = a1 then (if (am_I h 73 (Int32.toNatClampNeg ((am_I h 76 (Int32.toNatClampNeg x5i)) - (Int32.ofInt 1)))) = a2 then some ((Int32.ofInt 0), h) else g_X9_meetPair n 0 a1 a2 a3 a4 ((x5i + (Int32.ofInt 1)) - (x5i + (Int32.ofInt 1)) / (131072 : Int32) * (131072 : Int32)) h) else g_X9_meetPair n 0 a1 a2 a3 a4 ((x5i + (Int32.ofInt 1)) - (x5i + (Int32.ofInt 1)) / (131072 : Int32) * (131072 : Int32)) h)) else none)) else none) = some (v, h') := hf
      obtain ⟨b1, hf⟩ := am_bis hf
      by_cases c2 : (am_I h 76 (Int32.toNatClampNeg x5i)) = 0
      · rw [if_pos c2] at hf
        obtain ⟨b3, hf⟩ := am_bis hf
        obtain ⟨b4, hf⟩ := am_bis hf
        obtain ⟨b5, hf⟩ := am_bis hf
        obtain ⟨b6, hf⟩ := am_bis hf
        obtain ⟨rfl, rfl⟩ := am_i2 hf
        exact hs
      · rw [if_neg c2] at hf
        obtain ⟨b7, hf⟩ := am_bis hf
        by_cases c8 : (am_I h 72 (Int32.toNatClampNeg ((am_I h 76 (Int32.toNatClampNeg x5i)) - (Int32.ofInt 1)))) = a1
        · rw [if_pos c8] at hf
          by_cases c9 : (am_I h 73 (Int32.toNatClampNeg ((am_I h 76 (Int32.toNatClampNeg x5i)) - (Int32.ofInt 1)))) = a2
          · rw [if_pos c9] at hf
            obtain ⟨rfl, rfl⟩ := am_i2 hf
            exact hs
          · rw [if_neg c9] at hf
            exact ih a1 a2 a3 a4 ((x5i + (Int32.ofInt 1)) - (x5i + (Int32.ofInt 1)) / (131072 : Int32) * (131072 : Int32)) h _ _ hs hf
        · rw [if_neg c8] at hf
          exact ih a1 a2 a3 a4 ((x5i + (Int32.ofInt 1)) - (x5i + (Int32.ofInt 1)) / (131072 : Int32) * (131072 : Int32)) h _ _ hs hf
set_option maxRecDepth 100000 in
set_option maxHeartbeats 4000000 in
theorem l_X9_meetPair (n : Nat) : (∀ (a1 : Int32) (a2 : Int32) (a3 : Int32) (a4 : Int32) (x5i : Int32) (h : am_H) (v : Int32) (h' : am_H), am_stat h → g_X9_meetPair n 0 a1 a2 a3 a4 x5i h = some (v, h') → AW mX9_meetPair (rX9_meetPair 0 0) (fun r h2 => r = some (.int v) ∧ h2 = h') 18 [(0, .ref 51), (1, .int a1), (2, .int a2), (3, .int a3), (4, .int a4), (5, .int x5i)] [] h 0 0) := by
  induction n with
  | zero => exact fun a1 a2 a3 a4 x5i h v h' hs hf => (by cases hf)
  | succ n ih =>
    skip
    · intro a1 a2 a3 a4 x5i h v h' hs hf
      have hf : (bif am_vp x5i 131072 then ((if (am_I h 76 (Int32.toNatClampNeg x5i)) = 0 then bif am_vp (am_I h 51 36) 65536 then (bif am_vp (am_I (am_sI h 72 (Int32.toNatClampNeg (am_I h 51 36)) a1) 51 36) 65536 then (bif am_vp (am_I (am_sI (am_sI h 72 (Int32.toNatClampNeg (am_I h 51 36)) a1) 73 (Int32.toNatClampNeg (am_I (am_sI h 72 (Int32.toNatClampNeg (am_I h 51 36)) a1) 51 36)) a2) 51 36) 65536 then (bif am_vp (am_I (am_sI (am_sI (am_sI h 72 (Int32.toNatClampNeg (am_I h 51 36)) a1) 73 (Int32.toNatClampNeg (am_I (am_sI h 72 (Int32.toNatClampNeg (am_I h 51 36)) a1) 51 36)) a2) 74 (Int32.toNatClampNeg (am_I (am_sI (am_sI h 72 (Int32.toNatClampNeg (am_I h 51 36)) a1) 73 (Int32.toNatClampNeg (am_I (am_sI h 72 (Int32.toNatClampNeg (am_I h 51 36)) a1) 51 36)) a2) 51 36)) a3) 51 36) 65536 then (some ((Int32.ofInt 1), (am_sI (am_sI (am_sI (am_sI (am_sI (am_sI h 72 (Int32.toNatClampNeg (am_I h 51 36)) a1) 73 (Int32.toNatClampNeg (am_I (am_sI h 72 (Int32.toNatClampNeg (am_I h 51 36)) a1) 51 36)) a2) 74 (Int32.toNatClampNeg (am_I (am_sI (am_sI h 72 (Int32.toNatClampNeg (am_I h 51 36)) a1) 73 (Int32.toNatClampNeg (am_I (am_sI h 72 (Int32.toNatClampNeg (am_I h 51 36)) a1) 51 36)) a2) 51 36)) a3) 75 (Int32.toNatClampNeg (am_I (am_sI (am_sI (am_sI h 72 (Int32.toNatClampNeg (am_I h 51 36)) a1) 73 (Int32.toNatClampNeg (am_I (am_sI h 72 (Int32.toNatClampNeg (am_I h 51 36)) a1) 51 36)) a2) 74 (Int32.toNatClampNeg (am_I (am_sI (am_sI h 72 (Int32.toNatClampNeg (am_I h 51 36)) a1) 73 (Int32.toNatClampNeg (am_I (am_sI h 72 (Int32.toNatClampNeg (am_I h 51 36)) a1) 51 36)) a2) 51 36)) a3) 51 36)) a4) 51 36 ((am_I (am_sI (am_sI (am_sI (am_sI h 72 (Int32.toNatClampNeg (am_I h 51 36)) a1) 73 (Int32.toNatClampNeg (am_I (am_sI h 72 (Int32.toNatClampNeg (am_I h 51 36)) a1) 51 36)) a2) 74 (Int32.toNatClampNeg (am_I (am_sI (am_sI h 72 (Int32.toNatClampNeg (am_I h 51 36)) a1) 73 (Int32.toNatClampNeg (am_I (am_sI h 72 (Int32.toNatClampNeg (am_I h 51 36)) a1) 51 36)) a2) 51 36)) a3) 75 (Int32.toNatClampNeg (am_I (am_sI (am_sI (am_sI h 72 (Int32.toNatClampNeg (am_I h 51 36)) a1) 73 (Int32.toNatClampNeg (am_I (am_sI h 72 (Int32.toNatClampNeg (am_I h 51 36)) a1) 51 36)) a2) 74 (Int32.toNatClampNeg (am_I (am_sI (am_sI h 72 (Int32.toNatClampNeg (am_I h 51 36)) a1) 73 (Int32.toNatClampNeg (am_I (am_sI h 72 (Int32.toNatClampNeg (am_I h 51 36)) a1) 51 36)) a2) 51 36)) a3) 51 36)) a4) 51 36) + (Int32.ofInt 1))) 76 (Int32.toNatClampNeg x5i) (am_I (am_sI (am_sI (am_sI (am_sI (am_sI h 72 (Int32.toNatClampNeg (am_I h 51 36)) a1) 73 (Int32.toNatClampNeg (am_I (am_sI h 72 (Int32.toNatClampNeg (am_I h 51 36)) a1) 51 36)) a2) 74 (Int32.toNatClampNeg (am_I (am_sI (am_sI h 72 (Int32.toNatClampNeg (am_I h 51 36)) a1) 73 (Int32.toNatClampNeg (am_I (am_sI h 72 (Int32.toNatClampNeg (am_I h 51 36)) a1) 51 36)) a2) 51 36)) a3) 75 (Int32.toNatClampNeg (am_I (am_sI (am_sI (am_sI h 72 (Int32.toNatClampNeg (am_I h 51 36)) a1) 73 (Int32.toNatClampNeg (am_I (am_sI h 72 (Int32.toNatClampNeg (am_I h 51 36)) a1) 51 36)) a2) 74 (Int32.toNatClampNeg (am_I (am_sI (am_sI h 72 (Int32.toNatClampNeg (am_I h 51 36)) a1) 73 (Int32.toNatClampNeg (am_I (am_sI h 72 (Int32.toNatClampNeg (am_I h 51 36)) a1) 51 36)) a2) 51 36)) a3) 51 36)) a4) 51 36 ((am_I (am_sI (am_sI (am_sI (am_sI h 72 (Int32.toNatClampNeg (am_I h 51 36)) a1) 73 (Int32.toNatClampNeg (am_I (am_sI h 72 (Int32.toNatClampNeg (am_I h 51 36)) a1) 51 36)) a2) 74 (Int32.toNatClampNeg (am_I (am_sI (am_sI h 72 (Int32.toNatClampNeg (am_I h 51 36)) a1) 73 (Int32.toNatClampNeg (am_I (am_sI h 72 (Int32.toNatClampNeg (am_I h 51 36)) a1) 51 36)) a2) 51 36)) a3) 75 (Int32.toNatClampNeg (am_I (am_sI (am_sI (am_sI h 72 (Int32.toNatClampNeg (am_I h 51 36)) a1) 73 (Int32.toNatClampNeg (am_I (am_sI h 72 (Int32.toNatClampNeg (am_I h 51 36)) a1) 51 36)) a2) 74 (Int32.toNatClampNeg (am_I (am_sI (am_sI h 72 (Int32.toNatClampNeg (am_I h 51 36)) a1) 73 (Int32.toNatClampNeg (am_I (am_sI h 72 (Int32.toNatClampNeg (am_I h 51 36)) a1) 51 36)) a2) 51 36)) a3) 51 36)) a4) 51 36) + (Int32.ofInt 1))) 51 36)))) else none) else none) else none) else none else bif am_vp ((am_I h 76 (Int32.toNatClampNeg x5i)) - (Int32.ofInt 1)) 65536 then ((if (am_I h 72 (Int32.toNatClampNeg ((am_I h 76 (Int32.toNatClampNeg x5i)) - (Int32.ofInt 1)))) = a1 then (if (am_I h 73 (Int32.toNatClampNeg ((am_I h 76 (Int32.toNatClampNeg x5i)) - (Int32.ofInt 1)))) = a2 then some ((Int32.ofInt 0), h) else g_X9_meetPair n 0 a1 a2 a3 a4 ((x5i + (Int32.ofInt 1)) - (x5i + (Int32.ofInt 1)) / (131072 : Int32) * (131072 : Int32)) h) else g_X9_meetPair n 0 a1 a2 a3 a4 ((x5i + (Int32.ofInt 1)) - (x5i + (Int32.ofInt 1)) / (131072 : Int32) * (131072 : Int32)) h)) else none)) else none) = some (v, h') := hf
      obtain ⟨b1, hf⟩ := am_bis hf
      refine AW_go okX9_meetPair 5 ?_
      refine And.intro (sK hs 51) (Exists.intro _ (And.intro (sA hs 51 35) ?_))
      refine Exists.intro 131072 (And.intro (sK hs 76) (And.intro (am_vp_ok b1) ?_))
      refine And.intro (fun c2 => ?_) (fun c2 => ?_)
      · rw [if_pos c2] at hf
        obtain ⟨b3, hf⟩ := am_bis hf
        obtain ⟨b4, hf⟩ := am_bis hf
        obtain ⟨b5, hf⟩ := am_bis hf
        obtain ⟨b6, hf⟩ := am_bis hf
        refine AW_go okX9_meetPair 38 ?_
        refine And.intro (sK hs 51) (Exists.intro _ (And.intro (sA hs 51 31) ?_))
        refine And.intro (sK hs 51) ?_
        refine Exists.intro 65536 (And.intro (sK hs 72) (And.intro (am_vp_ok b3) ?_))
        refine And.intro (sK hs 51) (Exists.intro _ (And.intro (sA hs 51 32) ?_))
        refine And.intro (sK hs 51) ?_
        refine Exists.intro 65536 (And.intro (sK hs 73) (And.intro (am_vp_ok b4) ?_))
        refine And.intro (sK hs 51) (Exists.intro _ (And.intro (sA hs 51 33) ?_))
        refine And.intro (sK hs 51) ?_
        refine Exists.intro 65536 (And.intro (sK hs 74) (And.intro (am_vp_ok b5) ?_))
        refine And.intro (sK hs 51) (Exists.intro _ (And.intro (sA hs 51 34) ?_))
        refine And.intro (sK hs 51) ?_
        refine Exists.intro 65536 (And.intro (sK hs 75) (And.intro (am_vp_ok b6) ?_))
        refine And.intro (sK hs 51) ?_
        refine And.intro (sK hs 51) ?_
        refine And.intro (sK hs 51) (Exists.intro _ (And.intro (sA hs 51 35) ?_))
        refine And.intro (sK hs 51) ?_
        refine Exists.intro 131072 (And.intro (sK hs 76) (And.intro (am_vp_ok b1) ?_))
        obtain ⟨rfl, rfl⟩ := am_i2 hf
        exact And.intro ⟨(Nat.le_of_ble_eq_true rfl), (Nat.le_of_ble_eq_true rfl)⟩ (And.intro (Or.inr ⟨rfl, Or.inr rfl⟩) ⟨rfl, rfl⟩)
      · rw [if_neg c2] at hf
        obtain ⟨b7, hf⟩ := am_bis hf
        refine AW_go okX9_meetPair 13 ?_
        refine And.intro (sK hs 51) (Exists.intro _ (And.intro (sA hs 51 35) ?_))
        refine Exists.intro 131072 (And.intro (sK hs 76) (And.intro (am_vp_ok b1) ?_))
        refine And.intro (sK hs 51) (Exists.intro _ (And.intro (sA hs 51 31) ?_))
        refine Exists.intro 65536 (And.intro (sK hs 72) (And.intro (am_vp_ok b7) ?_))
        refine And.intro (fun c8 => ?_) (fun c8 => ?_)
        · rw [if_neg c8] at hf
          refine AW_go okX9_meetPair 7 ?_
          refine And.intro (by decide) ?_
          refine AW_pick (lv' := [(0, .ref 51), (1, .int a1), (2, .int a2), (3, .int a3), (4, .int a4), (5, .int ((x5i + (Int32.ofInt 1)) - (x5i + (Int32.ofInt 1)) / (131072 : Int32) * (131072 : Int32)))]) [2, 3, 4, 5, 6, 0] rfl ?_
          exact ih a1 a2 a3 a4 ((x5i + (Int32.ofInt 1)) - (x5i + (Int32.ofInt 1)) / (131072 : Int32) * (131072 : Int32)) h _ _ hs hf
        · rw [if_pos c8] at hf
          refine AW_go okX9_meetPair 6 ?_
          refine And.intro (sK hs 51) (Exists.intro _ (And.intro (sA hs 51 32) ?_))
          refine Exists.intro 65536 (And.intro (sK hs 73) (And.intro (am_vp_ok b7) ?_))
          refine And.intro (fun c9 => ?_) (fun c9 => ?_)
          · rw [if_neg c9] at hf
            refine AW_go okX9_meetPair 7 ?_
            refine And.intro (by decide) ?_
            refine AW_pick (lv' := [(0, .ref 51), (1, .int a1), (2, .int a2), (3, .int a3), (4, .int a4), (5, .int ((x5i + (Int32.ofInt 1)) - (x5i + (Int32.ofInt 1)) / (131072 : Int32) * (131072 : Int32)))]) [2, 3, 4, 5, 6, 0] rfl ?_
            exact ih a1 a2 a3 a4 ((x5i + (Int32.ofInt 1)) - (x5i + (Int32.ofInt 1)) / (131072 : Int32) * (131072 : Int32)) h _ _ hs hf
          · rw [if_pos c9] at hf
            refine AW_go okX9_meetPair 2 ?_
            obtain ⟨rfl, rfl⟩ := am_i2 hf
            exact And.intro ⟨(Nat.le_of_ble_eq_true rfl), (Nat.le_of_ble_eq_true rfl)⟩ (And.intro (Or.inr ⟨rfl, Or.inl rfl⟩) ⟨rfl, rfl⟩)
def f_X9_meetPair (n : Nat) (a1 : Int32) (a2 : Int32) (a3 : Int32) (a4 : Int32) (h : am_H) : Option (Int32 × am_H) := g_X9_meetPair n 0 a1 a2 a3 a4 ((((a1 * (40503 : Int32)) + (a2 * (Int32.ofInt 30011))) &&& (2147483647 : Int32)) - (((a1 * (40503 : Int32)) + (a2 * (Int32.ofInt 30011))) &&& (2147483647 : Int32)) / (131072 : Int32) * (131072 : Int32)) h
set_option maxRecDepth 100000 in
theorem s_X9_meetPair (n : Nat) (a1 : Int32) (a2 : Int32) (a3 : Int32) (a4 : Int32) (h : am_H) (hs : am_stat h) {v : Int32} {h' : am_H} (hf : f_X9_meetPair n a1 a2 a3 a4 h = some (v, h')) : am_stat h' := by
  unfold f_X9_meetPair at hf
  exact (m_X9_meetPair n) a1 a2 a3 a4 ((((a1 * (40503 : Int32)) + (a2 * (Int32.ofInt 30011))) &&& (2147483647 : Int32)) - (((a1 * (40503 : Int32)) + (a2 * (Int32.ofInt 30011))) &&& (2147483647 : Int32)) / (131072 : Int32) * (131072 : Int32)) h _ _ hs hf
set_option maxRecDepth 100000 in
theorem c_X9_meetPair (n : Nat) (a1 : Int32) (a2 : Int32) (a3 : Int32) (a4 : Int32) (h : am_H) (hs : am_stat h) {v : Int32} {h' : am_H} (hf : f_X9_meetPair n a1 a2 a3 a4 h = some (v, h')) : AMet mX9_meetPair (rX9_meetPair 0 0) (fun r h2 => r = some (.int v) ∧ h2 = h') [.ref 51, .int a1, .int a2, .int a3, .int a4] h := by
  unfold f_X9_meetPair at hf
  refine AW_go okX9_meetPair 12 ?_
  refine And.intro (by decide) ?_
  refine AW_pick (lv' := [(0, .ref 51), (1, .int a1), (2, .int a2), (3, .int a3), (4, .int a4), (5, .int ((((a1 * (40503 : Int32)) + (a2 * (Int32.ofInt 30011))) &&& (2147483647 : Int32)) - (((a1 * (40503 : Int32)) + (a2 * (Int32.ofInt 30011))) &&& (2147483647 : Int32)) / (131072 : Int32) * (131072 : Int32)))]) [1, 2, 3, 4, 5, 0] rfl ?_
  exact (l_X9_meetPair n) a1 a2 a3 a4 ((((a1 * (40503 : Int32)) + (a2 * (Int32.ofInt 30011))) &&& (2147483647 : Int32)) - (((a1 * (40503 : Int32)) + (a2 * (Int32.ofInt 30011))) &&& (2147483647 : Int32)) / (131072 : Int32) * (131072 : Int32)) h _ _ hs hf
def f_X9_ends (n : Nat) (a1 : Int32) (a2 : Int32) (h : am_H) : Option (Int32 × am_H) := am_b2 ((if a2 = 0 then some ((Int32.ofInt 0), h) else am_b2 (f_X9_nextOf n a1 a2 h) fun r5 h6 => ((if (r5 &&& (Int32.ofInt 1)) = (Int32.ofInt 1) then some ((Int32.ofInt 1), h6) else some ((Int32.ofInt 0), h6))))) fun y1 h2 => (bif am_b01 y1 then (some (y1, h2)) else none)
set_option maxRecDepth 100000 in
theorem s_X9_ends (n : Nat) (a1 : Int32) (a2 : Int32) (h : am_H) (hs : am_stat h) {v : Int32} {h' : am_H} (hf : f_X9_ends n a1 a2 h = some (v, h')) : am_stat h' := by
  unfold f_X9_ends at hf
  obtain ⟨y1, h2, j3, hf⟩ := am_b2_ok hf
  have hs0 := hs
  have hs : am_stat h2 := by
    have hs := hs0
    by_cases c4 : a2 = 0
    · rw [if_pos c4] at j3
      obtain ⟨rfl, rfl⟩ := am_i2 j3
      exact hs
    · rw [if_neg c4] at j3
      obtain ⟨r5, h6, e7, j3⟩ := am_b2_ok j3
      have hs := s_X9_nextOf n a1 a2 h hs e7
      by_cases c8 : (r5 &&& (Int32.ofInt 1)) = (Int32.ofInt 1)
      · rw [if_pos c8] at j3
        obtain ⟨rfl, rfl⟩ := am_i2 j3
        exact hs
      · rw [if_neg c8] at j3
        obtain ⟨rfl, rfl⟩ := am_i2 j3
        exact hs
  obtain ⟨b59, hf⟩ := am_bis hf
  obtain ⟨rfl, rfl⟩ := am_i2 hf
  exact hs
set_option maxRecDepth 100000 in
theorem c_X9_ends (n : Nat) (a1 : Int32) (a2 : Int32) (h : am_H) (hs : am_stat h) {v : Int32} {h' : am_H} (hf : f_X9_ends n a1 a2 h = some (v, h')) : AMet mX9_ends (rX9_ends 0 0) (fun r h2 => r = some (.int v) ∧ h2 = h') [.ref 51, .int a1, .int a2] h := by
  unfold f_X9_ends at hf
  refine AW_go okX9_ends 1 ?_
  obtain ⟨y1, h2, j3, hf⟩ := am_b2_ok hf
  have hs0 := hs
  have hs : am_stat h2 := by
    have hs := hs0
    by_cases c4 : a2 = 0
    · rw [if_pos c4] at j3
      obtain ⟨rfl, rfl⟩ := am_i2 j3
      exact hs
    · rw [if_neg c4] at j3
      obtain ⟨r5, h6, e7, j3⟩ := am_b2_ok j3
      have hs := s_X9_nextOf n a1 a2 h hs e7
      by_cases c8 : (r5 &&& (Int32.ofInt 1)) = (Int32.ofInt 1)
      · rw [if_pos c8] at j3
        obtain ⟨rfl, rfl⟩ := am_i2 j3
        exact hs
      · rw [if_neg c8] at j3
        obtain ⟨rfl, rfl⟩ := am_i2 j3
        exact hs
  refine am_cut (P := AW mX9_ends (rX9_ends 0 0) (fun r h2 => r = some (.int v) ∧ h2 = h') 21 [(0, .ref 51), (1, .int a1), (2, .int a2)] [.int y1] h2 0 0) (fun hJ3 => ?_) ?_
  · have hs := hs0
    refine AW_go okX9_ends 1 ?_
    refine And.intro (fun c4 => ?_) (fun c4 => ?_)
    · rw [if_pos c4] at j3
      refine AW_go okX9_ends 1 ?_
      obtain ⟨rfl, rfl⟩ := am_i2 j3
      exact AW_pick [0, 1, 2] rfl hJ3
    · rw [if_neg c4] at j3
      refine AW_go okX9_ends 3 ?_
      obtain ⟨r5, h6, e7, j3⟩ := am_b2_ok j3
      refine AW_callV (As := [.int a1, .int a2]) (R' := rX9_nextOf 0 0) (T := TX9) (N := 58) (ci := 9) (okX9_ends.1 7 _ _ rfl) lkX9_nextOf kX9_206 rfl (sK hs 51) rfl (Nat.le_of_ble_eq_true rfl) ⟨by decide, by decide⟩ ⟨(Nat.le_of_ble_eq_true rfl), (Nat.le_of_ble_eq_true rfl)⟩ (Nat.le_of_ble_eq_true rfl) (c_X9_nextOf n a1 a2 h hs e7) (fun r h' hq => ?_)
      obtain ⟨rfl, hq⟩ := hq
      replace hq := hq.symm
      subst hq
      have hs := s_X9_nextOf n a1 a2 h hs e7
      refine AW_go okX9_ends 4 ?_
      refine And.intro (fun c8 => ?_) (fun c8 => ?_)
      · rw [if_neg c8] at j3
        refine AW_go okX9_ends 1 ?_
        obtain ⟨rfl, rfl⟩ := am_i2 j3
        exact AW_pick [0, 1, 2] rfl hJ3
      · rw [if_pos c8] at j3
        refine AW_go okX9_ends 2 ?_
        obtain ⟨rfl, rfl⟩ := am_i2 j3
        exact AW_pick [0, 1, 2] rfl hJ3
  obtain ⟨b59, hf⟩ := am_bis hf
  refine AW_go okX9_ends 1 ?_
  obtain ⟨rfl, rfl⟩ := am_i2 hf
  exact And.intro ⟨(Nat.le_of_ble_eq_true rfl), (Nat.le_of_ble_eq_true rfl)⟩ (And.intro (Or.inr ⟨rfl, am_b01_ok b59⟩) ⟨rfl, rfl⟩)
def g_X9_seekApart : Nat → Nat → Int32 → Int32 → Int32 → Int32 → am_H → Option (Unit × am_H)
  | 0, _, _, _, _, _, _ => none
  | n + 1, tag, a1, a2, x3i, x4i, h => bif Nat.beq tag 0 then ((if (131072 : Int32) ≤ x3i then am_b2 (f_X9_meetPair n (Int32.ofInt 1) (Int32.ofInt 1) (Int32.ofInt (-1)) (Int32.ofInt (-1)) (am_sI (am_sI h 51 36 (Int32.ofInt 0)) 51 37 (Int32.ofInt (-1)))) fun r2 h3 => (g_X9_seekApart n 1 a1 a2 (Int32.ofInt 0) 0 h3) else bif am_vp x3i 131072 then (g_X9_seekApart n 0 a1 a2 (x3i + Int32.ofInt 1) 0 (am_sI h 76 (Int32.toNatClampNeg x3i) (Int32.ofInt 0))) else none)) else (bif Nat.beq tag 1 then ((if (am_I h 51 36) ≤ x3i then some ((), h) else (if (am_I h 51 37) = (Int32.ofInt (-1)) then bif am_vp x3i 65536 then (am_b2 (f_X9_ends n a1 (am_I h 72 (Int32.toNatClampNeg x3i)) h) fun r4 h5 => (am_b2 (f_X9_ends n a2 (am_I h5 73 (Int32.toNatClampNeg x3i)) h5) fun r7 h8 => (Option.bind ((if r4 = r7 then some h8 else some (am_sI h8 51 37 x3i))) fun h10 => (g_X9_seekApart n 2 a1 a2 x3i (Int32.ofInt 0) h10)))) else none else some ((), h)))) else ((if (Int32.ofInt 24) ≤ x4i then g_X9_seekApart n 1 a1 a2 (x3i + Int32.ofInt 1) 0 h else (if (am_I h 51 37) = (Int32.ofInt (-1)) then bif am_vp x3i 65536 then (am_b2 (f_X9_lead n a1 (am_I h 72 (Int32.toNatClampNeg x3i)) x4i h) fun r4 h5 => (am_b2 (f_X9_lead n a2 (am_I h5 73 (Int32.toNatClampNeg x3i)) x4i h5) fun r7 h8 => (Option.bind ((if r4 = 0 then (if r7 = 0 then some h8 else am_b2 (f_X9_meetPair n r4 r7 x3i x4i h8) fun r17 h18 => (some h18)) else am_b2 (f_X9_meetPair n r4 r7 x3i x4i h8) fun r13 h14 => (some h14))) fun h10 => (g_X9_seekApart n 2 a1 a2 x3i (x4i + Int32.ofInt 1) h10)))) else none else g_X9_seekApart n 1 a1 a2 (x3i + Int32.ofInt 1) 0 h))))
set_option maxRecDepth 100000 in
set_option maxHeartbeats 4000000 in
theorem m_X9_seekApart (n : Nat) : (∀ (a1 : Int32) (a2 : Int32) (x3i : Int32) (x4i : Int32) (h : am_H) (v : Unit) (h' : am_H), am_stat h → g_X9_seekApart n 0 a1 a2 x3i x4i h = some (v, h') → am_stat h') ∧ (∀ (a1 : Int32) (a2 : Int32) (x3i : Int32) (x4i : Int32) (h : am_H) (v : Unit) (h' : am_H), am_stat h → g_X9_seekApart n 1 a1 a2 x3i x4i h = some (v, h') → am_stat h') ∧ (∀ (a1 : Int32) (a2 : Int32) (x3i : Int32) (x4i : Int32) (h : am_H) (v : Unit) (h' : am_H), am_stat h → g_X9_seekApart n 2 a1 a2 x3i x4i h = some (v, h') → am_stat h') := by
  induction n with
  | zero => exact ⟨fun a1 a2 x3i x4i h v h' hs hf => (by cases hf), fun a1 a2 x3i x4i h v h' hs hf => (by cases hf), fun a1 a2 x3i x4i h v h' hs hf => (by cases hf)⟩
  | succ n ih =>
    refine ⟨?_, ?_, ?_⟩
    · intro a1 a2 x3i x4i h v h' hs hf
      have hf : ((if (131072 : Int32) ≤ x3i then am_b2 (f_X9_meetPair n (Int32.ofInt 1) (Int32.ofInt 1) (Int32.ofInt (-1)) (Int32.ofInt (-1)) (am_sI (am_sI h 51 36 (Int32.ofInt 0)) 51 37 (Int32.ofInt (-1)))) fun r2 h3 => (g_X9_seekApart n 1 a1 a2 (Int32.ofInt 0) 0 h3) else bif am_vp x3i 131072 then (g_X9_seekApart n 0 a1 a2 (x3i + Int32.ofInt 1) 0 (am_sI h 76 (Int32.toNatClampNeg x3i) (Int32.ofInt 0))) else none)) = some (v, h') := hf
      by_cases c1 : (131072 : Int32) ≤ x3i
      · rw [if_pos c1] at hf
        obtain ⟨r2, h3, e4, hf⟩ := am_b2_ok hf
        have hs := s_X9_meetPair n (Int32.ofInt 1) (Int32.ofInt 1) (Int32.ofInt (-1)) (Int32.ofInt (-1)) (am_sI (am_sI h 51 36 (Int32.ofInt 0)) 51 37 (Int32.ofInt (-1))) hs e4
        exact ih.2.1 a1 a2 (Int32.ofInt 0) 0 h3 _ _ hs hf
      · rw [if_neg c1] at hf
        obtain ⟨b5, hf⟩ := am_bis hf
        exact ih.1 a1 a2 (x3i + Int32.ofInt 1) 0 (am_sI h 76 (Int32.toNatClampNeg x3i) (Int32.ofInt 0)) _ _ hs hf
    · intro a1 a2 x3i x4i h v h' hs hf
      have hf : ((if (am_I h 51 36) ≤ x3i then some ((), h) else (if (am_I h 51 37) = (Int32.ofInt (-1)) then bif am_vp x3i 65536 then (am_b2 (f_X9_ends n a1 (am_I h 72 (Int32.toNatClampNeg x3i)) h) fun r4 h5 => (am_b2 (f_X9_ends n a2 (am_I h5 73 (Int32.toNatClampNeg x3i)) h5) fun r7 h8 => (Option.bind ((if r4 = r7 then some h8 else some (am_sI h8 51 37 x3i))) fun h10 => (g_X9_seekApart n 2 a1 a2 x3i (Int32.ofInt 0) h10)))) else none else some ((), h)))) = some (v, h') := hf
      by_cases c1 : (am_I h 51 36) ≤ x3i
      · rw [if_pos c1] at hf
        obtain ⟨rfl, rfl⟩ := am_i2 hf
        exact hs
      · rw [if_neg c1] at hf
        by_cases c2 : (am_I h 51 37) = (Int32.ofInt (-1))
        · rw [if_pos c2] at hf
          obtain ⟨b3, hf⟩ := am_bis hf
          obtain ⟨r4, h5, e6, hf⟩ := am_b2_ok hf
          have hs := s_X9_ends n a1 (am_I h 72 (Int32.toNatClampNeg x3i)) h hs e6
          obtain ⟨r7, h8, e9, hf⟩ := am_b2_ok hf
          have hs := s_X9_ends n a2 (am_I h5 73 (Int32.toNatClampNeg x3i)) h5 hs e9
          obtain ⟨h10, j11, hf⟩ := am_bnd hf
          have hs0 := hs
          have hs : am_stat h10 := by
            have hs := hs0
            by_cases c12 : r4 = r7
            · rw [if_pos c12] at j11
              obtain rfl := am_i1 j11
              exact hs
            · rw [if_neg c12] at j11
              obtain rfl := am_i1 j11
              exact hs
          exact ih.2.2 a1 a2 x3i (Int32.ofInt 0) h10 _ _ hs hf
        · rw [if_neg c2] at hf
          obtain ⟨rfl, rfl⟩ := am_i2 hf
          exact hs
    · intro a1 a2 x3i x4i h v h' hs hf
      have hf : ((if (Int32.ofInt 24) ≤ x4i then g_X9_seekApart n 1 a1 a2 (x3i + Int32.ofInt 1) 0 h else (if (am_I h 51 37) = (Int32.ofInt (-1)) then bif am_vp x3i 65536 then (am_b2 (f_X9_lead n a1 (am_I h 72 (Int32.toNatClampNeg x3i)) x4i h) fun r4 h5 => (am_b2 (f_X9_lead n a2 (am_I h5 73 (Int32.toNatClampNeg x3i)) x4i h5) fun r7 h8 => (Option.bind ((if r4 = 0 then (if r7 = 0 then some h8 else am_b2 (f_X9_meetPair n r4 r7 x3i x4i h8) fun r14 h15 => (some h15)) else am_b2 (f_X9_meetPair n r4 r7 x3i x4i h8) fun r17 h18 => (some h18))) fun h10 => (g_X9_seekApart n 2 a1 a2 x3i (x4i + Int32.ofInt 1) h10)))) else none else g_X9_seekApart n 1 a1 a2 (x3i + Int32.ofInt 1) 0 h))) = some (v, h') := hf
      by_cases c1 : (Int32.ofInt 24) ≤ x4i
      · rw [if_pos c1] at hf
        exact ih.2.1 a1 a2 (x3i + Int32.ofInt 1) 0 h _ _ hs hf
      · rw [if_neg c1] at hf
        by_cases c2 : (am_I h 51 37) = (Int32.ofInt (-1))
        · rw [if_pos c2] at hf
          obtain ⟨b3, hf⟩ := am_bis hf
          obtain ⟨r4, h5, e6, hf⟩ := am_b2_ok hf
          have hs := s_X9_lead n a1 (am_I h 72 (Int32.toNatClampNeg x3i)) x4i h hs e6
          obtain ⟨r7, h8, e9, hf⟩ := am_b2_ok hf
          have hs := s_X9_lead n a2 (am_I h5 73 (Int32.toNatClampNeg x3i)) x4i h5 hs e9
          obtain ⟨h10, j11, hf⟩ := am_bnd hf
          have hs0 := hs
          have hs : am_stat h10 := by
            have hs := hs0
            by_cases c12 : r4 = 0
            · rw [if_pos c12] at j11
              by_cases c13 : r7 = 0
              · rw [if_pos c13] at j11
                obtain rfl := am_i1 j11
                exact hs
              · rw [if_neg c13] at j11
                obtain ⟨r14, h15, e16, j11⟩ := am_b2_ok j11
                have hs := s_X9_meetPair n r4 r7 x3i x4i h8 hs e16
                obtain rfl := am_i1 j11
                exact hs
            · rw [if_neg c12] at j11
              obtain ⟨r17, h18, e19, j11⟩ := am_b2_ok j11
              have hs := s_X9_meetPair n r4 r7 x3i x4i h8 hs e19
              obtain rfl := am_i1 j11
              exact hs
          exact ih.2.2 a1 a2 x3i (x4i + Int32.ofInt 1) h10 _ _ hs hf
        · rw [if_neg c2] at hf
          exact ih.2.1 a1 a2 (x3i + Int32.ofInt 1) 0 h _ _ hs hf
set_option maxRecDepth 100000 in
set_option maxHeartbeats 4000000 in
theorem l_X9_seekApart (n : Nat) : (∀ (a1 : Int32) (a2 : Int32) (x3i : Int32) (x4i : Int32) (h : am_H) (v : Unit) (h' : am_H), am_stat h → g_X9_seekApart n 0 a1 a2 x3i x4i h = some (v, h') → AW mX9_seekApart (rX9_seekApart 0 0) (fun r h2 => r = none ∧ h2 = h') 2 [(0, .ref 51), (1, .int a1), (2, .int a2), (3, .int x3i)] [] h 0 0) ∧ (∀ (a1 : Int32) (a2 : Int32) (x3i : Int32) (x4i : Int32) (h : am_H) (v : Unit) (h' : am_H), am_stat h → g_X9_seekApart n 1 a1 a2 x3i x4i h = some (v, h') → AW mX9_seekApart (rX9_seekApart 0 0) (fun r h2 => r = none ∧ h2 = h') 42 [(0, .ref 51), (1, .int a1), (2, .int a2), (3, .int x3i)] [] h 0 0) ∧ (∀ (a1 : Int32) (a2 : Int32) (x3i : Int32) (x4i : Int32) (h : am_H) (v : Unit) (h' : am_H), am_stat h → g_X9_seekApart n 2 a1 a2 x3i x4i h = some (v, h') → AW mX9_seekApart (rX9_seekApart 0 0) (fun r h2 => r = none ∧ h2 = h') 91 [(0, .ref 51), (1, .int a1), (2, .int a2), (3, .int x3i), (4, .int x4i)] [] h 0 0) := by
  induction n with
  | zero => exact ⟨fun a1 a2 x3i x4i h v h' hs hf => (by cases hf), fun a1 a2 x3i x4i h v h' hs hf => (by cases hf), fun a1 a2 x3i x4i h v h' hs hf => (by cases hf)⟩
  | succ n ih =>
    refine ⟨?_, ?_, ?_⟩
    · intro a1 a2 x3i x4i h v h' hs hf
      have hf : ((if (131072 : Int32) ≤ x3i then am_b2 (f_X9_meetPair n (Int32.ofInt 1) (Int32.ofInt 1) (Int32.ofInt (-1)) (Int32.ofInt (-1)) (am_sI (am_sI h 51 36 (Int32.ofInt 0)) 51 37 (Int32.ofInt (-1)))) fun r2 h3 => (g_X9_seekApart n 1 a1 a2 (Int32.ofInt 0) 0 h3) else bif am_vp x3i 131072 then (g_X9_seekApart n 0 a1 a2 (x3i + Int32.ofInt 1) 0 (am_sI h 76 (Int32.toNatClampNeg x3i) (Int32.ofInt 0))) else none)) = some (v, h') := hf
      refine AW_go okX9_seekApart 3 ?_
      refine And.intro (fun c1 => ?_) (fun c1 => ?_)
      · rw [if_pos c1] at hf
        refine AW_go okX9_seekApart 11 ?_
        refine And.intro (sK hs 51) ?_
        refine And.intro (sK hs 51) ?_
        obtain ⟨r2, h3, e4, hf⟩ := am_b2_ok hf
        refine AW_callV (As := [.int (Int32.ofInt 1), .int (Int32.ofInt 1), .int (Int32.ofInt (-1)), .int (Int32.ofInt (-1))]) (R' := rX9_meetPair 0 0) (T := TX9) (N := 58) (ci := 9) (okX9_seekApart.1 36 _ _ rfl) lkX9_meetPair kX9_244 rfl (sK hs 51) rfl (Nat.le_of_ble_eq_true rfl) ⟨by decide, by decide⟩ ⟨(Nat.le_of_ble_eq_true rfl), (Nat.le_of_ble_eq_true rfl)⟩ (Nat.le_of_ble_eq_true rfl) (c_X9_meetPair n (Int32.ofInt 1) (Int32.ofInt 1) (Int32.ofInt (-1)) (Int32.ofInt (-1)) (am_sI (am_sI h 51 36 (Int32.ofInt 0)) 51 37 (Int32.ofInt (-1))) hs e4) (fun r h' hq => ?_)
        obtain ⟨rfl, hq⟩ := hq
        replace hq := hq.symm
        subst hq
        have hs := s_X9_meetPair n (Int32.ofInt 1) (Int32.ofInt 1) (Int32.ofInt (-1)) (Int32.ofInt (-1)) (am_sI (am_sI h 51 36 (Int32.ofInt 0)) 51 37 (Int32.ofInt (-1))) hs e4
        refine AW_go okX9_seekApart 3 ?_
        refine AW_pick (lv' := [(0, .ref 51), (1, .int a1), (2, .int a2), (3, .int (Int32.ofInt 0))]) [1, 2, 3, 0] rfl ?_
        exact ih.2.1 a1 a2 (Int32.ofInt 0) 0 h3 _ _ hs hf
      · rw [if_neg c1] at hf
        obtain ⟨b5, hf⟩ := am_bis hf
        refine AW_go okX9_seekApart 7 ?_
        refine And.intro (sK hs 51) (Exists.intro _ (And.intro (sA hs 51 35) ?_))
        refine Exists.intro 131072 (And.intro (sK hs 76) (And.intro (am_vp_ok b5) ?_))
        refine AW_pick (lv' := [(0, .ref 51), (1, .int a1), (2, .int a2), (3, .int (x3i + Int32.ofInt 1))]) [1, 2, 3, 0] rfl ?_
        exact ih.1 a1 a2 (x3i + Int32.ofInt 1) 0 (am_sI h 76 (Int32.toNatClampNeg x3i) (Int32.ofInt 0)) _ _ hs hf
    · intro a1 a2 x3i x4i h v h' hs hf
      have hf : ((if (am_I h 51 36) ≤ x3i then some ((), h) else (if (am_I h 51 37) = (Int32.ofInt (-1)) then bif am_vp x3i 65536 then (am_b2 (f_X9_ends n a1 (am_I h 72 (Int32.toNatClampNeg x3i)) h) fun r4 h5 => (am_b2 (f_X9_ends n a2 (am_I h5 73 (Int32.toNatClampNeg x3i)) h5) fun r7 h8 => (Option.bind ((if r4 = r7 then some h8 else some (am_sI h8 51 37 x3i))) fun h10 => (g_X9_seekApart n 2 a1 a2 x3i (Int32.ofInt 0) h10)))) else none else some ((), h)))) = some (v, h') := hf
      refine AW_go okX9_seekApart 4 ?_
      refine And.intro (sK hs 51) ?_
      refine And.intro (fun c1 => ?_) (fun c1 => ?_)
      · rw [if_pos c1] at hf
        refine AW_go okX9_seekApart 1 ?_
        obtain ⟨rfl, rfl⟩ := am_i2 hf
        exact And.intro ⟨(Nat.le_of_ble_eq_true rfl), (Nat.le_of_ble_eq_true rfl)⟩ (And.intro rfl ⟨rfl, rfl⟩)
      · rw [if_neg c1] at hf
        refine AW_go okX9_seekApart 4 ?_
        refine And.intro (sK hs 51) ?_
        refine And.intro (fun c2 => ?_) (fun c2 => ?_)
        · rw [if_neg c2] at hf
          refine AW_go okX9_seekApart 1 ?_
          obtain ⟨rfl, rfl⟩ := am_i2 hf
          exact And.intro ⟨(Nat.le_of_ble_eq_true rfl), (Nat.le_of_ble_eq_true rfl)⟩ (And.intro rfl ⟨rfl, rfl⟩)
        · rw [if_pos c2] at hf
          obtain ⟨b3, hf⟩ := am_bis hf
          refine AW_go okX9_seekApart 6 ?_
          refine And.intro (sK hs 51) (Exists.intro _ (And.intro (sA hs 51 31) ?_))
          refine Exists.intro 65536 (And.intro (sK hs 72) (And.intro (am_vp_ok b3) ?_))
          obtain ⟨r4, h5, e6, hf⟩ := am_b2_ok hf
          refine AW_callV (As := [.int a1, .int (am_I h 72 (Int32.toNatClampNeg x3i))]) (R' := rX9_ends 0 0) (T := TX9) (N := 58) (ci := 9) (okX9_seekApart.1 66 _ _ rfl) lkX9_ends kX9_248 rfl (sK hs 51) rfl (Nat.le_of_ble_eq_true rfl) ⟨by decide, by decide⟩ ⟨(Nat.le_of_ble_eq_true rfl), (Nat.le_of_ble_eq_true rfl)⟩ (Nat.le_of_ble_eq_true rfl) (c_X9_ends n a1 (am_I h 72 (Int32.toNatClampNeg x3i)) h hs e6) (fun r h' hq => ?_)
          obtain ⟨rfl, hq⟩ := hq
          replace hq := hq.symm
          subst hq
          have hs := s_X9_ends n a1 (am_I h 72 (Int32.toNatClampNeg x3i)) h hs e6
          refine AW_go okX9_seekApart 6 ?_
          refine And.intro (sK hs 51) (Exists.intro _ (And.intro (sA hs 51 32) ?_))
          refine Exists.intro 65536 (And.intro (sK hs 73) (And.intro (am_vp_ok b3) ?_))
          obtain ⟨r7, h8, e9, hf⟩ := am_b2_ok hf
          refine AW_callV (As := [.int a2, .int (am_I h5 73 (Int32.toNatClampNeg x3i))]) (R' := rX9_ends 0 0) (T := TX9) (N := 58) (ci := 9) (okX9_seekApart.1 77 _ _ rfl) lkX9_ends kX9_248 rfl (sK hs 51) rfl (Nat.le_of_ble_eq_true rfl) ⟨by decide, by decide⟩ ⟨(Nat.le_of_ble_eq_true rfl), (Nat.le_of_ble_eq_true rfl)⟩ (Nat.le_of_ble_eq_true rfl) (c_X9_ends n a2 (am_I h5 73 (Int32.toNatClampNeg x3i)) h5 hs e9) (fun r h' hq => ?_)
          obtain ⟨rfl, hq⟩ := hq
          replace hq := hq.symm
          subst hq
          have hs := s_X9_ends n a2 (am_I h5 73 (Int32.toNatClampNeg x3i)) h5 hs e9
          obtain ⟨h10, j11, hf⟩ := am_bnd hf
          have hs0 := hs
          have hs : am_stat h10 := by
            have hs := hs0
            by_cases c12 : r4 = r7
            · rw [if_pos c12] at j11
              obtain rfl := am_i1 j11
              exact hs
            · rw [if_neg c12] at j11
              obtain rfl := am_i1 j11
              exact hs
          refine am_cut (P := AW mX9_seekApart (rX9_seekApart 0 0) (fun r h2 => r = none ∧ h2 = h') 88 [(0, .ref 51), (1, .int a1), (2, .int a2), (3, .int x3i)] [] h10 0 0) (fun hJ11 => ?_) ?_
          · have hs := hs0
            refine AW_go okX9_seekApart 1 ?_
            refine And.intro (fun c12 => ?_) (fun c12 => ?_)
            · rw [if_pos c12] at j11
              obtain rfl := am_i1 j11
              exact AW_pick [0, 1, 2, 3] rfl hJ11
            · rw [if_neg c12] at j11
              refine AW_go okX9_seekApart 3 ?_
              refine And.intro (sK hs 51) ?_
              obtain rfl := am_i1 j11
              exact AW_pick [0, 1, 2, 3] rfl hJ11
          refine AW_go okX9_seekApart 2 ?_
          refine AW_pick (lv' := [(0, .ref 51), (1, .int a1), (2, .int a2), (3, .int x3i), (4, .int (Int32.ofInt 0))]) [1, 2, 3, 4, 0] rfl ?_
          exact ih.2.2 a1 a2 x3i (Int32.ofInt 0) h10 _ _ hs hf
    · intro a1 a2 x3i x4i h v h' hs hf
      have hf : ((if (Int32.ofInt 24) ≤ x4i then g_X9_seekApart n 1 a1 a2 (x3i + Int32.ofInt 1) 0 h else (if (am_I h 51 37) = (Int32.ofInt (-1)) then bif am_vp x3i 65536 then (am_b2 (f_X9_lead n a1 (am_I h 72 (Int32.toNatClampNeg x3i)) x4i h) fun r4 h5 => (am_b2 (f_X9_lead n a2 (am_I h5 73 (Int32.toNatClampNeg x3i)) x4i h5) fun r7 h8 => (Option.bind ((if r4 = 0 then (if r7 = 0 then some h8 else am_b2 (f_X9_meetPair n r4 r7 x3i x4i h8) fun r17 h18 => (some h18)) else am_b2 (f_X9_meetPair n r4 r7 x3i x4i h8) fun r13 h14 => (some h14))) fun h10 => (g_X9_seekApart n 2 a1 a2 x3i (x4i + Int32.ofInt 1) h10)))) else none else g_X9_seekApart n 1 a1 a2 (x3i + Int32.ofInt 1) 0 h))) = some (v, h') := hf
      refine AW_go okX9_seekApart 3 ?_
      refine And.intro (fun c1 => ?_) (fun c1 => ?_)
      · rw [if_pos c1] at hf
        refine AW_go okX9_seekApart 2 ?_
        refine AW_pick (lv' := [(0, .ref 51), (1, .int a1), (2, .int a2), (3, .int (x3i + Int32.ofInt 1))]) [1, 2, 3, 0] rfl ?_
        exact ih.2.1 a1 a2 (x3i + Int32.ofInt 1) 0 h _ _ hs hf
      · rw [if_neg c1] at hf
        refine AW_go okX9_seekApart 4 ?_
        refine And.intro (sK hs 51) ?_
        refine And.intro (fun c2 => ?_) (fun c2 => ?_)
        · rw [if_neg c2] at hf
          refine AW_go okX9_seekApart 2 ?_
          refine AW_pick (lv' := [(0, .ref 51), (1, .int a1), (2, .int a2), (3, .int (x3i + Int32.ofInt 1))]) [1, 2, 3, 0] rfl ?_
          exact ih.2.1 a1 a2 (x3i + Int32.ofInt 1) 0 h _ _ hs hf
        · rw [if_pos c2] at hf
          obtain ⟨b3, hf⟩ := am_bis hf
          refine AW_go okX9_seekApart 7 ?_
          refine And.intro (sK hs 51) (Exists.intro _ (And.intro (sA hs 51 31) ?_))
          refine Exists.intro 65536 (And.intro (sK hs 72) (And.intro (am_vp_ok b3) ?_))
          obtain ⟨r4, h5, e6, hf⟩ := am_b2_ok hf
          refine AW_callV (As := [.int a1, .int (am_I h 72 (Int32.toNatClampNeg x3i)), .int x4i]) (R' := rX9_lead 0 0) (T := TX9) (N := 58) (ci := 9) (okX9_seekApart.1 116 _ _ rfl) lkX9_lead kX9_216 rfl (sK hs 51) rfl (Nat.le_of_ble_eq_true rfl) ⟨by decide, by decide⟩ ⟨(Nat.le_of_ble_eq_true rfl), (Nat.le_of_ble_eq_true rfl)⟩ (Nat.le_of_ble_eq_true rfl) (c_X9_lead n a1 (am_I h 72 (Int32.toNatClampNeg x3i)) x4i h hs e6) (fun r h' hq => ?_)
          obtain ⟨rfl, hq⟩ := hq
          replace hq := hq.symm
          subst hq
          have hs := s_X9_lead n a1 (am_I h 72 (Int32.toNatClampNeg x3i)) x4i h hs e6
          refine AW_go okX9_seekApart 8 ?_
          refine And.intro (sK hs 51) (Exists.intro _ (And.intro (sA hs 51 32) ?_))
          refine Exists.intro 65536 (And.intro (sK hs 73) (And.intro (am_vp_ok b3) ?_))
          obtain ⟨r7, h8, e9, hf⟩ := am_b2_ok hf
          refine AW_callV (As := [.int a2, .int (am_I h5 73 (Int32.toNatClampNeg x3i)), .int x4i]) (R' := rX9_lead 0 0) (T := TX9) (N := 58) (ci := 9) (okX9_seekApart.1 131 _ _ rfl) lkX9_lead kX9_216 rfl (sK hs 51) rfl (Nat.le_of_ble_eq_true rfl) ⟨by decide, by decide⟩ ⟨(Nat.le_of_ble_eq_true rfl), (Nat.le_of_ble_eq_true rfl)⟩ (Nat.le_of_ble_eq_true rfl) (c_X9_lead n a2 (am_I h5 73 (Int32.toNatClampNeg x3i)) x4i h5 hs e9) (fun r h' hq => ?_)
          obtain ⟨rfl, hq⟩ := hq
          replace hq := hq.symm
          subst hq
          have hs := s_X9_lead n a2 (am_I h5 73 (Int32.toNatClampNeg x3i)) x4i h5 hs e9
          refine AW_go okX9_seekApart 2 ?_
          obtain ⟨h10, j11, hf⟩ := am_bnd hf
          have hs0 := hs
          have hs : am_stat h10 := by
            have hs := hs0
            by_cases c12 : r4 = 0
            · rw [if_pos c12] at j11
              by_cases c13 : r7 = 0
              · rw [if_pos c13] at j11
                obtain rfl := am_i1 j11
                exact hs
              · rw [if_neg c13] at j11
                obtain ⟨r14, h15, e16, j11⟩ := am_b2_ok j11
                have hs := s_X9_meetPair n r4 r7 x3i x4i h8 hs e16
                obtain rfl := am_i1 j11
                exact hs
            · rw [if_neg c12] at j11
              obtain ⟨r17, h18, e19, j11⟩ := am_b2_ok j11
              have hs := s_X9_meetPair n r4 r7 x3i x4i h8 hs e19
              obtain rfl := am_i1 j11
              exact hs
          refine am_cut (P := AW mX9_seekApart (rX9_seekApart 0 0) (fun r h2 => r = none ∧ h2 = h') 158 [(0, .ref 51), (1, .int a1), (2, .int a2), (3, .int x3i), (4, .int x4i), (5, .int r4), (6, .int r7)] [] h10 0 0) (fun hJ11 => ?_) ?_
          · have hs := hs0
            refine AW_go okX9_seekApart 1 ?_
            refine And.intro (fun c12 => ?_) (fun c12 => ?_)
            · rw [if_neg c12] at j11
              refine AW_go okX9_seekApart 5 ?_
              obtain ⟨r13, h14, e15, j11⟩ := am_b2_ok j11
              refine AW_callV (As := [.int r4, .int r7, .int x3i, .int x4i]) (R' := rX9_meetPair 0 0) (T := TX9) (N := 58) (ci := 9) (okX9_seekApart.1 154 _ _ rfl) lkX9_meetPair kX9_244 rfl (sK hs 51) rfl (Nat.le_of_ble_eq_true rfl) ⟨by decide, by decide⟩ ⟨(Nat.le_of_ble_eq_true rfl), (Nat.le_of_ble_eq_true rfl)⟩ (Nat.le_of_ble_eq_true rfl) (c_X9_meetPair n r4 r7 x3i x4i h8 hs e15) (fun r h' hq => ?_)
              obtain ⟨rfl, hq⟩ := hq
              replace hq := hq.symm
              subst hq
              have hs := s_X9_meetPair n r4 r7 x3i x4i h8 hs e15
              refine AW_go okX9_seekApart 1 ?_
              obtain rfl := am_i1 j11
              exact AW_pick [2, 3, 4, 5, 6, 1, 0] rfl hJ11
            · rw [if_pos c12] at j11
              refine AW_go okX9_seekApart 2 ?_
              refine And.intro (fun c16 => ?_) (fun c16 => ?_)
              · rw [if_pos c16] at j11
                obtain rfl := am_i1 j11
                exact AW_pick [2, 3, 4, 5, 6, 1, 0] rfl hJ11
              · rw [if_neg c16] at j11
                refine AW_go okX9_seekApart 5 ?_
                obtain ⟨r17, h18, e19, j11⟩ := am_b2_ok j11
                refine AW_callV (As := [.int r4, .int r7, .int x3i, .int x4i]) (R' := rX9_meetPair 0 0) (T := TX9) (N := 58) (ci := 9) (okX9_seekApart.1 154 _ _ rfl) lkX9_meetPair kX9_244 rfl (sK hs 51) rfl (Nat.le_of_ble_eq_true rfl) ⟨by decide, by decide⟩ ⟨(Nat.le_of_ble_eq_true rfl), (Nat.le_of_ble_eq_true rfl)⟩ (Nat.le_of_ble_eq_true rfl) (c_X9_meetPair n r4 r7 x3i x4i h8 hs e19) (fun r h' hq => ?_)
                obtain ⟨rfl, hq⟩ := hq
                replace hq := hq.symm
                subst hq
                have hs := s_X9_meetPair n r4 r7 x3i x4i h8 hs e19
                refine AW_go okX9_seekApart 1 ?_
                obtain rfl := am_i1 j11
                exact AW_pick [2, 3, 4, 5, 6, 1, 0] rfl hJ11
          refine AW_go okX9_seekApart 2 ?_
          refine AW_pick (lv' := [(0, .ref 51), (1, .int a1), (2, .int a2), (3, .int x3i), (4, .int (x4i + Int32.ofInt 1))]) [1, 2, 3, 4, 0] rfl ?_
          exact ih.2.2 a1 a2 x3i (x4i + Int32.ofInt 1) h10 _ _ hs hf
def f_X9_seekApart (n : Nat) (a1 : Int32) (a2 : Int32) (h : am_H) : Option (Unit × am_H) := g_X9_seekApart n 0 a1 a2 (Int32.ofInt 0) 0 h
set_option maxRecDepth 100000 in
theorem s_X9_seekApart (n : Nat) (a1 : Int32) (a2 : Int32) (h : am_H) (hs : am_stat h) {v : Unit} {h' : am_H} (hf : f_X9_seekApart n a1 a2 h = some (v, h')) : am_stat h' := by
  unfold f_X9_seekApart at hf
  exact (m_X9_seekApart n).1 a1 a2 (Int32.ofInt 0) 0 h _ _ hs hf
set_option maxRecDepth 100000 in
theorem c_X9_seekApart (n : Nat) (a1 : Int32) (a2 : Int32) (h : am_H) (hs : am_stat h) {v : Unit} {h' : am_H} (hf : f_X9_seekApart n a1 a2 h = some (v, h')) : AMet mX9_seekApart (rX9_seekApart 0 0) (fun r h2 => r = none ∧ h2 = h') [.ref 51, .int a1, .int a2] h := by
  unfold f_X9_seekApart at hf
  refine AW_go okX9_seekApart 2 ?_
  refine AW_pick (lv' := [(0, .ref 51), (1, .int a1), (2, .int a2), (3, .int (Int32.ofInt 0))]) [1, 2, 3, 0] rfl ?_
  exact (l_X9_seekApart n).1 a1 a2 (Int32.ofInt 0) 0 h _ _ hs hf
def f_X9_same (n : Nat) (a1 : Int32) (a2 : Int32) (h : am_H) : Option (Int32 × am_H) := am_b2 (f_X9_isBook a1 h) fun r1 h2 => ((if r1 = 0 then some ((Int32.ofInt (-101)), h2) else am_b2 (f_X9_isBook a2 h2) fun r5 h6 => ((if r5 = 0 then some ((Int32.ofInt (-101)), h6) else am_b2 (f_X9_seekApart n a1 a2 h6) fun r9 h10 => (Option.bind ((if (am_I h10 51 37) = (Int32.ofInt (-1)) then some (Int32.ofInt 1) else some (Int32.ofInt 0))) fun y12 => (some (y12, h10)))))))
set_option maxRecDepth 100000 in
theorem s_X9_same (n : Nat) (a1 : Int32) (a2 : Int32) (h : am_H) (hs : am_stat h) {v : Int32} {h' : am_H} (hf : f_X9_same n a1 a2 h = some (v, h')) : am_stat h' := by
  unfold f_X9_same at hf
  obtain ⟨r1, h2, e3, hf⟩ := am_b2_ok hf
  have hs := s_X9_isBook a1 h hs e3
  by_cases c4 : r1 = 0
  · rw [if_pos c4] at hf
    obtain ⟨rfl, rfl⟩ := am_i2 hf
    exact hs
  · rw [if_neg c4] at hf
    obtain ⟨r5, h6, e7, hf⟩ := am_b2_ok hf
    have hs := s_X9_isBook a2 h2 hs e7
    by_cases c8 : r5 = 0
    · rw [if_pos c8] at hf
      obtain ⟨rfl, rfl⟩ := am_i2 hf
      exact hs
    · rw [if_neg c8] at hf
      obtain ⟨r9, h10, e11, hf⟩ := am_b2_ok hf
      have hs := s_X9_seekApart n a1 a2 h6 hs e11
      obtain ⟨y12, j13, hf⟩ := am_bnd hf
      obtain ⟨rfl, rfl⟩ := am_i2 hf
      exact hs
set_option maxRecDepth 100000 in
theorem c_X9_same (n : Nat) (a1 : Int32) (a2 : Int32) (h : am_H) (hs : am_stat h) {v : Int32} {h' : am_H} (hf : f_X9_same n a1 a2 h = some (v, h')) : AMet mX9_same (rX9_same 0 0) (fun r h2 => r = some (.int v) ∧ h2 = h') [.ref 51, .int a1, .int a2] h := by
  unfold f_X9_same at hf
  refine AW_go okX9_same 2 ?_
  obtain ⟨r1, h2, e3, hf⟩ := am_b2_ok hf
  refine AW_callV (As := [.int a1]) (R' := rX9_isBook 0 0) (T := TX9) (N := 58) (ci := 9) (okX9_same.1 2 _ _ rfl) lkX9_isBook kX9_203 rfl (sK hs 51) rfl (Nat.le_of_ble_eq_true rfl) ⟨by decide, by decide⟩ ⟨(Nat.le_of_ble_eq_true rfl), (Nat.le_of_ble_eq_true rfl)⟩ (Nat.le_of_ble_eq_true rfl) (c_X9_isBook a1 h hs e3) (fun r h' hq => ?_)
  obtain ⟨rfl, hq⟩ := hq
  replace hq := hq.symm
  subst hq
  have hs := s_X9_isBook a1 h hs e3
  refine AW_go okX9_same 1 ?_
  refine And.intro (fun c4 => ?_) (fun c4 => ?_)
  · rw [if_pos c4] at hf
    refine AW_go okX9_same 2 ?_
    obtain ⟨rfl, rfl⟩ := am_i2 hf
    exact And.intro ⟨(Nat.le_of_ble_eq_true rfl), (Nat.le_of_ble_eq_true rfl)⟩ (And.intro (Or.inl rfl) ⟨rfl, rfl⟩)
  · rw [if_neg c4] at hf
    refine AW_go okX9_same 2 ?_
    obtain ⟨r5, h6, e7, hf⟩ := am_b2_ok hf
    refine AW_callV (As := [.int a2]) (R' := rX9_isBook 0 0) (T := TX9) (N := 58) (ci := 9) (okX9_same.1 10 _ _ rfl) lkX9_isBook kX9_203 rfl (sK hs 51) rfl (Nat.le_of_ble_eq_true rfl) ⟨by decide, by decide⟩ ⟨(Nat.le_of_ble_eq_true rfl), (Nat.le_of_ble_eq_true rfl)⟩ (Nat.le_of_ble_eq_true rfl) (c_X9_isBook a2 h2 hs e7) (fun r h' hq => ?_)
    obtain ⟨rfl, hq⟩ := hq
    replace hq := hq.symm
    subst hq
    have hs := s_X9_isBook a2 h2 hs e7
    refine AW_go okX9_same 1 ?_
    refine And.intro (fun c8 => ?_) (fun c8 => ?_)
    · rw [if_neg c8] at hf
      refine AW_go okX9_same 3 ?_
      obtain ⟨r9, h10, e11, hf⟩ := am_b2_ok hf
      refine AW_callV (As := [.int a1, .int a2]) (R' := rX9_seekApart 0 0) (T := TX9) (N := 58) (ci := 9) (okX9_same.1 22 _ _ rfl) lkX9_seekApart kX9_251 rfl (sK hs 51) rfl (Nat.le_of_ble_eq_true rfl) ⟨by decide, by decide⟩ ⟨(Nat.le_of_ble_eq_true rfl), (Nat.le_of_ble_eq_true rfl)⟩ (Nat.le_of_ble_eq_true rfl) (c_X9_seekApart n a1 a2 h6 hs e11) (fun r h' hq => ?_)
      obtain ⟨rfl, hq⟩ := hq
      replace hq := hq.symm
      subst hq
      have hs := s_X9_seekApart n a1 a2 h6 hs e11
      refine AW_go okX9_same 3 ?_
      refine And.intro (sK hs 51) ?_
      obtain ⟨y12, j13, hf⟩ := am_bnd hf
      refine am_cut (P := AW mX9_same (rX9_same 0 0) (fun r h2 => r = some (.int v) ∧ h2 = h') 38 [(0, .ref 51), (1, .int a1), (2, .int a2)] [.int y12] h10 0 0) (fun hJ13 => ?_) ?_
      · have hs := hs
        refine AW_go okX9_same 1 ?_
        refine And.intro (fun c14 => ?_) (fun c14 => ?_)
        · rw [if_neg c14] at j13
          refine AW_go okX9_same 1 ?_
          obtain rfl := am_i1 j13
          exact AW_pick [0, 1, 2] rfl hJ13
        · rw [if_pos c14] at j13
          refine AW_go okX9_same 2 ?_
          obtain rfl := am_i1 j13
          exact AW_pick [0, 1, 2] rfl hJ13
      refine AW_go okX9_same 1 ?_
      obtain ⟨rfl, rfl⟩ := am_i2 hf
      exact And.intro ⟨(Nat.le_of_ble_eq_true rfl), (Nat.le_of_ble_eq_true rfl)⟩ (And.intro (Or.inl rfl) ⟨rfl, rfl⟩)
    · rw [if_pos c8] at hf
      refine AW_go okX9_same 2 ?_
      obtain ⟨rfl, rfl⟩ := am_i2 hf
      exact And.intro ⟨(Nat.le_of_ble_eq_true rfl), (Nat.le_of_ble_eq_true rfl)⟩ (And.intro (Or.inl rfl) ⟨rfl, rfl⟩)
def g_X9_apart : Nat → Nat → Int32 → Int32 → Int32 → Int32 → Int32 → Int32 → am_H → Option (Int32 × am_H)
  | 0, _, _, _, _, _, _, _, _ => none
  | n + 1, tag, a1, a2, a3, x4i, x5i, x6i, h => bif Nat.beq tag 0 then (bif am_vp x5i 65536 then ((if (am_I h 74 (Int32.toNatClampNeg x5i)) = (Int32.ofInt (-1)) then (if (Int32.ofInt 2) ≤ a3 then g_X9_apart n 1 a1 a2 a3 x4i (am_I h 51 37) (x4i - (Int32.ofInt 1)) h else am_b2 ((if a3 = 0 then some (x4i, h) else bif am_vp (am_I h 51 37) 65536 then (am_b2 (f_X9_ends n a1 (am_I h 72 (Int32.toNatClampNeg (am_I h 51 37))) h) fun r9 h10 => ((if r9 = 0 then some ((Int32.ofInt 0), h10) else some ((Int32.ofInt 1), h10)))) else none)) fun y4 h5 => (some (y4, h5))) else g_X9_apart n 0 a1 a2 a3 (x4i + Int32.ofInt 1) (am_I h 74 (Int32.toNatClampNeg x5i)) 0 h)) else none) else ((if x6i ≤ (a3 - (Int32.ofInt 10)) then am_b2 ((if x4i ≤ (a3 - (Int32.ofInt 10)) then some ((Int32.ofInt (-1)), h) else bif am_vp x5i 65536 then (am_b2 (f_X9_asAct (am_I h 75 (Int32.toNatClampNeg x5i)) h) fun r7 h8 => (some (r7, h8))) else none)) fun y2 h3 => (some (y2, h3)) else bif am_vp x5i 65536 then (g_X9_apart n 1 a1 a2 a3 x4i (am_I h 74 (Int32.toNatClampNeg x5i)) (x6i + Int32.ofInt (-1)) h) else none))
set_option maxRecDepth 100000 in
set_option maxHeartbeats 4000000 in
theorem m_X9_apart (n : Nat) : (∀ (a1 : Int32) (a2 : Int32) (a3 : Int32) (x4i : Int32) (x5i : Int32) (x6i : Int32) (h : am_H) (v : Int32) (h' : am_H), am_stat h → g_X9_apart n 0 a1 a2 a3 x4i x5i x6i h = some (v, h') → am_stat h') ∧ (∀ (a1 : Int32) (a2 : Int32) (a3 : Int32) (x4i : Int32) (x5i : Int32) (x6i : Int32) (h : am_H) (v : Int32) (h' : am_H), am_stat h → g_X9_apart n 1 a1 a2 a3 x4i x5i x6i h = some (v, h') → am_stat h') := by
  induction n with
  | zero => exact ⟨fun a1 a2 a3 x4i x5i x6i h v h' hs hf => (by cases hf), fun a1 a2 a3 x4i x5i x6i h v h' hs hf => (by cases hf)⟩
  | succ n ih =>
    refine ⟨?_, ?_⟩
    · intro a1 a2 a3 x4i x5i x6i h v h' hs hf
      have hf : (bif am_vp x5i 65536 then ((if (am_I h 74 (Int32.toNatClampNeg x5i)) = (Int32.ofInt (-1)) then (if (Int32.ofInt 2) ≤ a3 then g_X9_apart n 1 a1 a2 a3 x4i (am_I h 51 37) (x4i - (Int32.ofInt 1)) h else am_b2 ((if a3 = 0 then some (x4i, h) else bif am_vp (am_I h 51 37) 65536 then (am_b2 (f_X9_ends n a1 (am_I h 72 (Int32.toNatClampNeg (am_I h 51 37))) h) fun r9 h10 => ((if r9 = 0 then some ((Int32.ofInt 0), h10) else some ((Int32.ofInt 1), h10)))) else none)) fun y4 h5 => (some (y4, h5))) else g_X9_apart n 0 a1 a2 a3 (x4i + Int32.ofInt 1) (am_I h 74 (Int32.toNatClampNeg x5i)) 0 h)) else none) = some (v, h') := hf
      obtain ⟨b1, hf⟩ := am_bis hf
      by_cases c2 : (am_I h 74 (Int32.toNatClampNeg x5i)) = (Int32.ofInt (-1))
      · rw [if_pos c2] at hf
        by_cases c3 : (Int32.ofInt 2) ≤ a3
        · rw [if_pos c3] at hf
          exact ih.2 a1 a2 a3 x4i (am_I h 51 37) (x4i - (Int32.ofInt 1)) h _ _ hs hf
        · rw [if_neg c3] at hf
          obtain ⟨y4, h5, j6, hf⟩ := am_b2_ok hf
          have hs0 := hs
          have hs : am_stat h5 := by
            have hs := hs0
            by_cases c7 : a3 = 0
            · rw [if_pos c7] at j6
              obtain ⟨rfl, rfl⟩ := am_i2 j6
              exact hs
            · rw [if_neg c7] at j6
              obtain ⟨b8, j6⟩ := am_bis j6
              obtain ⟨r9, h10, e11, j6⟩ := am_b2_ok j6
              have hs := s_X9_ends n a1 (am_I h 72 (Int32.toNatClampNeg (am_I h 51 37))) h hs e11
              by_cases c12 : r9 = 0
              · rw [if_pos c12] at j6
                obtain ⟨rfl, rfl⟩ := am_i2 j6
                exact hs
              · rw [if_neg c12] at j6
                obtain ⟨rfl, rfl⟩ := am_i2 j6
                exact hs
          obtain ⟨rfl, rfl⟩ := am_i2 hf
          exact hs
      · rw [if_neg c2] at hf
        exact ih.1 a1 a2 a3 (x4i + Int32.ofInt 1) (am_I h 74 (Int32.toNatClampNeg x5i)) 0 h _ _ hs hf
    · intro a1 a2 a3 x4i x5i x6i h v h' hs hf
      have hf : ((if x6i ≤ (a3 - (Int32.ofInt 10)) then am_b2 ((if x4i ≤ (a3 - (Int32.ofInt 10)) then some ((Int32.ofInt (-1)), h) else bif am_vp x5i 65536 then (am_b2 (f_X9_asAct (am_I h 75 (Int32.toNatClampNeg x5i)) h) fun r7 h8 => (some (r7, h8))) else none)) fun y2 h3 => (some (y2, h3)) else bif am_vp x5i 65536 then (g_X9_apart n 1 a1 a2 a3 x4i (am_I h 74 (Int32.toNatClampNeg x5i)) (x6i + Int32.ofInt (-1)) h) else none)) = some (v, h') := hf
      by_cases c1 : x6i ≤ (a3 - (Int32.ofInt 10))
      · rw [if_pos c1] at hf
        obtain ⟨y2, h3, j4, hf⟩ := am_b2_ok hf
        have hs0 := hs
        have hs : am_stat h3 := by
          have hs := hs0
          by_cases c5 : x4i ≤ (a3 - (Int32.ofInt 10))
          · rw [if_pos c5] at j4
            obtain ⟨rfl, rfl⟩ := am_i2 j4
            exact hs
          · rw [if_neg c5] at j4
            obtain ⟨b6, j4⟩ := am_bis j4
            obtain ⟨r7, h8, e9, j4⟩ := am_b2_ok j4
            have hs := s_X9_asAct (am_I h 75 (Int32.toNatClampNeg x5i)) h hs e9
            obtain ⟨rfl, rfl⟩ := am_i2 j4
            exact hs
        obtain ⟨rfl, rfl⟩ := am_i2 hf
        exact hs
      · rw [if_neg c1] at hf
        obtain ⟨b60, hf⟩ := am_bis hf
        exact ih.2 a1 a2 a3 x4i (am_I h 74 (Int32.toNatClampNeg x5i)) (x6i + Int32.ofInt (-1)) h _ _ hs hf
set_option maxRecDepth 100000 in
set_option maxHeartbeats 4000000 in
theorem l_X9_apart (n : Nat) : (∀ (a1 : Int32) (a2 : Int32) (a3 : Int32) (x4i : Int32) (x5i : Int32) (x6i : Int32) (h : am_H) (v : Int32) (h' : am_H), am_stat h → g_X9_apart n 0 a1 a2 a3 x4i x5i x6i h = some (v, h') → AW mX9_apart (rX9_apart 0 0) (fun r h2 => r = some (.int v) ∧ h2 = h') 67 [(0, .ref 51), (1, .int a1), (2, .int a2), (3, .int a3), (4, .int x4i), (5, .int x5i)] [] h 0 0) ∧ (∀ (a1 : Int32) (a2 : Int32) (a3 : Int32) (x4i : Int32) (x5i : Int32) (x6i : Int32) (h : am_H) (v : Int32) (h' : am_H), am_stat h → g_X9_apart n 1 a1 a2 a3 x4i x5i x6i h = some (v, h') → AW mX9_apart (rX9_apart 0 0) (fun r h2 => r = some (.int v) ∧ h2 = h') 142 [(0, .ref 51), (1, .int a1), (2, .int a2), (3, .int a3), (4, .int x4i), (5, .int x5i), (6, .int x6i)] [] h 0 0) := by
  induction n with
  | zero => exact ⟨fun a1 a2 a3 x4i x5i x6i h v h' hs hf => (by cases hf), fun a1 a2 a3 x4i x5i x6i h v h' hs hf => (by cases hf)⟩
  | succ n ih =>
    refine ⟨?_, ?_⟩
    · intro a1 a2 a3 x4i x5i x6i h v h' hs hf
      have hf : (bif am_vp x5i 65536 then ((if (am_I h 74 (Int32.toNatClampNeg x5i)) = (Int32.ofInt (-1)) then (if (Int32.ofInt 2) ≤ a3 then g_X9_apart n 1 a1 a2 a3 x4i (am_I h 51 37) (x4i - (Int32.ofInt 1)) h else am_b2 ((if a3 = 0 then some (x4i, h) else bif am_vp (am_I h 51 37) 65536 then (am_b2 (f_X9_ends n a1 (am_I h 72 (Int32.toNatClampNeg (am_I h 51 37))) h) fun r9 h10 => ((if r9 = 0 then some ((Int32.ofInt 0), h10) else some ((Int32.ofInt 1), h10)))) else none)) fun y4 h5 => (some (y4, h5))) else g_X9_apart n 0 a1 a2 a3 (x4i + Int32.ofInt 1) (am_I h 74 (Int32.toNatClampNeg x5i)) 0 h)) else none) = some (v, h') := hf
      obtain ⟨b1, hf⟩ := am_bis hf
      refine AW_go okX9_apart 6 ?_
      refine And.intro (sK hs 51) (Exists.intro _ (And.intro (sA hs 51 33) ?_))
      refine Exists.intro 65536 (And.intro (sK hs 74) (And.intro (am_vp_ok b1) ?_))
      refine And.intro (fun c2 => ?_) (fun c2 => ?_)
      · rw [if_pos c2] at hf
        refine AW_go okX9_apart 3 ?_
        refine And.intro (fun c3 => ?_) (fun c3 => ?_)
        · rw [if_pos c3] at hf
          refine AW_go okX9_apart 7 ?_
          refine And.intro (sK hs 51) ?_
          refine AW_pick (lv' := [(0, .ref 51), (1, .int a1), (2, .int a2), (3, .int a3), (4, .int x4i), (5, .int (am_I h 51 37)), (6, .int (x4i - (Int32.ofInt 1)))]) [2, 3, 4, 5, 6, 1, 0] rfl ?_
          exact ih.2 a1 a2 a3 x4i (am_I h 51 37) (x4i - (Int32.ofInt 1)) h _ _ hs hf
        · rw [if_neg c3] at hf
          refine AW_go okX9_apart 1 ?_
          obtain ⟨y4, h5, j6, hf⟩ := am_b2_ok hf
          have hs0 := hs
          have hs : am_stat h5 := by
            have hs := hs0
            by_cases c7 : a3 = 0
            · rw [if_pos c7] at j6
              obtain ⟨rfl, rfl⟩ := am_i2 j6
              exact hs
            · rw [if_neg c7] at j6
              obtain ⟨b8, j6⟩ := am_bis j6
              obtain ⟨r9, h10, e11, j6⟩ := am_b2_ok j6
              have hs := s_X9_ends n a1 (am_I h 72 (Int32.toNatClampNeg (am_I h 51 37))) h hs e11
              by_cases c12 : r9 = 0
              · rw [if_pos c12] at j6
                obtain ⟨rfl, rfl⟩ := am_i2 j6
                exact hs
              · rw [if_neg c12] at j6
                obtain ⟨rfl, rfl⟩ := am_i2 j6
                exact hs
          refine am_cut (P := AW mX9_apart (rX9_apart 0 0) (fun r h2 => r = some (.int v) ∧ h2 = h') 129 [(0, .ref 51), (1, .int a1), (2, .int a2), (3, .int a3), (4, .int x4i), (5, .int x5i)] [.int y4] h5 0 0) (fun hJ6 => ?_) ?_
          · have hs := hs0
            refine AW_go okX9_apart 1 ?_
            refine And.intro (fun c7 => ?_) (fun c7 => ?_)
            · rw [if_neg c7] at j6
              obtain ⟨b8, j6⟩ := am_bis j6
              refine AW_go okX9_apart 7 ?_
              refine And.intro (sK hs 51) (Exists.intro _ (And.intro (sA hs 51 31) ?_))
              refine And.intro (sK hs 51) ?_
              refine Exists.intro 65536 (And.intro (sK hs 72) (And.intro (am_vp_ok b8) ?_))
              obtain ⟨r9, h10, e11, j6⟩ := am_b2_ok j6
              refine AW_callV (As := [.int a1, .int (am_I h 72 (Int32.toNatClampNeg (am_I h 51 37)))]) (R' := rX9_ends 0 0) (T := TX9) (N := 58) (ci := 9) (okX9_apart.1 118 _ _ rfl) lkX9_ends kX9_248 rfl (sK hs 51) rfl (Nat.le_of_ble_eq_true rfl) ⟨by decide, by decide⟩ ⟨(Nat.le_of_ble_eq_true rfl), (Nat.le_of_ble_eq_true rfl)⟩ (Nat.le_of_ble_eq_true rfl) (c_X9_ends n a1 (am_I h 72 (Int32.toNatClampNeg (am_I h 51 37))) h hs e11) (fun r h' hq => ?_)
              obtain ⟨rfl, hq⟩ := hq
              replace hq := hq.symm
              subst hq
              have hs := s_X9_ends n a1 (am_I h 72 (Int32.toNatClampNeg (am_I h 51 37))) h hs e11
              refine AW_go okX9_apart 1 ?_
              refine And.intro (fun c12 => ?_) (fun c12 => ?_)
              · rw [if_pos c12] at j6
                refine AW_go okX9_apart 1 ?_
                obtain ⟨rfl, rfl⟩ := am_i2 j6
                exact AW_pick [0, 1, 2, 3, 4, 5] rfl hJ6
              · rw [if_neg c12] at j6
                refine AW_go okX9_apart 2 ?_
                obtain ⟨rfl, rfl⟩ := am_i2 j6
                exact AW_pick [0, 1, 2, 3, 4, 5] rfl hJ6
            · rw [if_pos c7] at j6
              refine AW_go okX9_apart 2 ?_
              obtain ⟨rfl, rfl⟩ := am_i2 j6
              exact AW_pick [0, 1, 2, 3, 4, 5] rfl hJ6
          refine AW_go okX9_apart 1 ?_
          obtain ⟨rfl, rfl⟩ := am_i2 hf
          exact And.intro ⟨(Nat.le_of_ble_eq_true rfl), (Nat.le_of_ble_eq_true rfl)⟩ (And.intro (Or.inl rfl) ⟨rfl, rfl⟩)
      · rw [if_neg c2] at hf
        refine AW_go okX9_apart 7 ?_
        refine And.intro (sK hs 51) (Exists.intro _ (And.intro (sA hs 51 33) ?_))
        refine Exists.intro 65536 (And.intro (sK hs 74) (And.intro (am_vp_ok b1) ?_))
        refine AW_pick (lv' := [(0, .ref 51), (1, .int a1), (2, .int a2), (3, .int a3), (4, .int (x4i + Int32.ofInt 1)), (5, .int (am_I h 74 (Int32.toNatClampNeg x5i)))]) [2, 3, 4, 5, 1, 0] rfl ?_
        exact ih.1 a1 a2 a3 (x4i + Int32.ofInt 1) (am_I h 74 (Int32.toNatClampNeg x5i)) 0 h _ _ hs hf
    · intro a1 a2 a3 x4i x5i x6i h v h' hs hf
      have hf : ((if x6i ≤ (a3 - (Int32.ofInt 10)) then am_b2 ((if x4i ≤ (a3 - (Int32.ofInt 10)) then some ((Int32.ofInt (-1)), h) else bif am_vp x5i 65536 then (am_b2 (f_X9_asAct (am_I h 75 (Int32.toNatClampNeg x5i)) h) fun r7 h8 => (some (r7, h8))) else none)) fun y2 h3 => (some (y2, h3)) else bif am_vp x5i 65536 then (g_X9_apart n 1 a1 a2 a3 x4i (am_I h 74 (Int32.toNatClampNeg x5i)) (x6i + Int32.ofInt (-1)) h) else none)) = some (v, h') := hf
      refine AW_go okX9_apart 5 ?_
      refine And.intro (fun c1 => ?_) (fun c1 => ?_)
      · rw [if_pos c1] at hf
        refine AW_go okX9_apart 4 ?_
        obtain ⟨y2, h3, j4, hf⟩ := am_b2_ok hf
        have hs0 := hs
        have hs : am_stat h3 := by
          have hs := hs0
          by_cases c5 : x4i ≤ (a3 - (Int32.ofInt 10))
          · rw [if_pos c5] at j4
            obtain ⟨rfl, rfl⟩ := am_i2 j4
            exact hs
          · rw [if_neg c5] at j4
            obtain ⟨b6, j4⟩ := am_bis j4
            obtain ⟨r7, h8, e9, j4⟩ := am_b2_ok j4
            have hs := s_X9_asAct (am_I h 75 (Int32.toNatClampNeg x5i)) h hs e9
            obtain ⟨rfl, rfl⟩ := am_i2 j4
            exact hs
        refine am_cut (P := AW mX9_apart (rX9_apart 0 0) (fun r h2 => r = some (.int v) ∧ h2 = h') 189 [(0, .ref 51), (1, .int a1), (2, .int a2), (3, .int a3), (4, .int x4i), (5, .int x5i), (6, .int x6i)] [.int y2] h3 0 0) (fun hJ4 => ?_) ?_
        · have hs := hs0
          refine AW_go okX9_apart 1 ?_
          refine And.intro (fun c5 => ?_) (fun c5 => ?_)
          · rw [if_pos c5] at j4
            refine AW_go okX9_apart 1 ?_
            obtain ⟨rfl, rfl⟩ := am_i2 j4
            exact AW_pick [0, 1, 2, 3, 4, 5, 6] rfl hJ4
          · rw [if_neg c5] at j4
            obtain ⟨b6, j4⟩ := am_bis j4
            refine AW_go okX9_apart 4 ?_
            refine And.intro (sK hs 51) (Exists.intro _ (And.intro (sA hs 51 34) ?_))
            refine Exists.intro 65536 (And.intro (sK hs 75) (And.intro (am_vp_ok b6) ?_))
            obtain ⟨r7, h8, e9, j4⟩ := am_b2_ok j4
            refine AW_callS (As := [.int (am_I h 75 (Int32.toNatClampNeg x5i))]) (R' := rX9_asAct 0 0) (okX9_apart.1 182 _ _ rfl) lkX9_asAct (Or.inl kX9_255) rfl (Nat.le_of_ble_eq_true rfl) ⟨by decide, by decide⟩ ⟨(Nat.le_of_ble_eq_true rfl), (Nat.le_of_ble_eq_true rfl)⟩ (Nat.le_of_ble_eq_true rfl) (c_X9_asAct (am_I h 75 (Int32.toNatClampNeg x5i)) h hs e9) (fun r h' hq => ?_)
            obtain ⟨rfl, hq⟩ := hq
            replace hq := hq.symm
            subst hq
            have hs := s_X9_asAct (am_I h 75 (Int32.toNatClampNeg x5i)) h hs e9
            refine AW_go okX9_apart 1 ?_
            obtain ⟨rfl, rfl⟩ := am_i2 j4
            exact AW_pick [0, 1, 2, 3, 4, 5, 6] rfl hJ4
        refine AW_go okX9_apart 1 ?_
        obtain ⟨rfl, rfl⟩ := am_i2 hf
        exact And.intro ⟨(Nat.le_of_ble_eq_true rfl), (Nat.le_of_ble_eq_true rfl)⟩ (And.intro (Or.inl rfl) ⟨rfl, rfl⟩)
      · rw [if_neg c1] at hf
        obtain ⟨b60, hf⟩ := am_bis hf
        refine AW_go okX9_apart 7 ?_
        refine And.intro (sK hs 51) (Exists.intro _ (And.intro (sA hs 51 33) ?_))
        refine Exists.intro 65536 (And.intro (sK hs 74) (And.intro (am_vp_ok b60) ?_))
        refine AW_pick (lv' := [(0, .ref 51), (1, .int a1), (2, .int a2), (3, .int a3), (4, .int x4i), (5, .int (am_I h 74 (Int32.toNatClampNeg x5i))), (6, .int (x6i + Int32.ofInt (-1)))]) [2, 3, 4, 5, 6, 1, 0] rfl ?_
        exact ih.2 a1 a2 a3 x4i (am_I h 74 (Int32.toNatClampNeg x5i)) (x6i + Int32.ofInt (-1)) h _ _ hs hf
def f_X9_apart (n : Nat) (a1 : Int32) (a2 : Int32) (a3 : Int32) (h : am_H) : Option (Int32 × am_H) := am_b2 (f_X9_isBook a1 h) fun r1 h2 => ((if r1 = 0 then some ((Int32.ofInt (-101)), h2) else am_b2 (f_X9_isBook a2 h2) fun r5 h6 => ((if r5 = 0 then some ((Int32.ofInt (-101)), h6) else am_b2 (f_X9_within a3 (Int32.ofInt 0) (Int32.ofInt 1) h6) fun r9 h10 => ((if r9 = 0 then am_b2 (f_X9_within a3 (Int32.ofInt 10) (Int32.ofInt 99) h10) fun r17 h18 => ((if r17 = 0 then some ((Int32.ofInt (-102)), h18) else am_b2 (f_X9_seekApart n a1 a2 h18) fun r21 h22 => ((if (am_I h22 51 37) = (Int32.ofInt (-1)) then some ((Int32.ofInt (-1)), h22) else g_X9_apart n 0 a1 a2 a3 (Int32.ofInt 0) (am_I h22 51 37) 0 h22)))) else am_b2 (f_X9_seekApart n a1 a2 h10) fun r13 h14 => ((if (am_I h14 51 37) = (Int32.ofInt (-1)) then some ((Int32.ofInt (-1)), h14) else g_X9_apart n 0 a1 a2 a3 (Int32.ofInt 0) (am_I h14 51 37) 0 h14))))))))
set_option maxRecDepth 100000 in
theorem s_X9_apart (n : Nat) (a1 : Int32) (a2 : Int32) (a3 : Int32) (h : am_H) (hs : am_stat h) {v : Int32} {h' : am_H} (hf : f_X9_apart n a1 a2 a3 h = some (v, h')) : am_stat h' := by
  unfold f_X9_apart at hf
  obtain ⟨r1, h2, e3, hf⟩ := am_b2_ok hf
  have hs := s_X9_isBook a1 h hs e3
  by_cases c4 : r1 = 0
  · rw [if_pos c4] at hf
    obtain ⟨rfl, rfl⟩ := am_i2 hf
    exact hs
  · rw [if_neg c4] at hf
    obtain ⟨r5, h6, e7, hf⟩ := am_b2_ok hf
    have hs := s_X9_isBook a2 h2 hs e7
    by_cases c8 : r5 = 0
    · rw [if_pos c8] at hf
      obtain ⟨rfl, rfl⟩ := am_i2 hf
      exact hs
    · rw [if_neg c8] at hf
      obtain ⟨r9, h10, e11, hf⟩ := am_b2_ok hf
      have hs := s_X9_within a3 (Int32.ofInt 0) (Int32.ofInt 1) h6 hs e11
      by_cases c12 : r9 = 0
      · rw [if_pos c12] at hf
        obtain ⟨r13, h14, e15, hf⟩ := am_b2_ok hf
        have hs := s_X9_within a3 (Int32.ofInt 10) (Int32.ofInt 99) h10 hs e15
        by_cases c16 : r13 = 0
        · rw [if_pos c16] at hf
          obtain ⟨rfl, rfl⟩ := am_i2 hf
          exact hs
        · rw [if_neg c16] at hf
          obtain ⟨r17, h18, e19, hf⟩ := am_b2_ok hf
          have hs := s_X9_seekApart n a1 a2 h14 hs e19
          by_cases c20 : (am_I h18 51 37) = (Int32.ofInt (-1))
          · rw [if_pos c20] at hf
            obtain ⟨rfl, rfl⟩ := am_i2 hf
            exact hs
          · rw [if_neg c20] at hf
            exact (m_X9_apart n).1 a1 a2 a3 (Int32.ofInt 0) (am_I h18 51 37) 0 h18 _ _ hs hf
      · rw [if_neg c12] at hf
        obtain ⟨r21, h22, e23, hf⟩ := am_b2_ok hf
        have hs := s_X9_seekApart n a1 a2 h10 hs e23
        by_cases c24 : (am_I h22 51 37) = (Int32.ofInt (-1))
        · rw [if_pos c24] at hf
          obtain ⟨rfl, rfl⟩ := am_i2 hf
          exact hs
        · rw [if_neg c24] at hf
          exact (m_X9_apart n).1 a1 a2 a3 (Int32.ofInt 0) (am_I h22 51 37) 0 h22 _ _ hs hf
set_option maxRecDepth 100000 in
theorem c_X9_apart (n : Nat) (a1 : Int32) (a2 : Int32) (a3 : Int32) (h : am_H) (hs : am_stat h) {v : Int32} {h' : am_H} (hf : f_X9_apart n a1 a2 a3 h = some (v, h')) : AMet mX9_apart (rX9_apart 0 0) (fun r h2 => r = some (.int v) ∧ h2 = h') [.ref 51, .int a1, .int a2, .int a3] h := by
  unfold f_X9_apart at hf
  refine AW_go okX9_apart 2 ?_
  obtain ⟨r1, h2, e3, hf⟩ := am_b2_ok hf
  refine AW_callV (As := [.int a1]) (R' := rX9_isBook 0 0) (T := TX9) (N := 58) (ci := 9) (okX9_apart.1 2 _ _ rfl) lkX9_isBook kX9_203 rfl (sK hs 51) rfl (Nat.le_of_ble_eq_true rfl) ⟨by decide, by decide⟩ ⟨(Nat.le_of_ble_eq_true rfl), (Nat.le_of_ble_eq_true rfl)⟩ (Nat.le_of_ble_eq_true rfl) (c_X9_isBook a1 h hs e3) (fun r h' hq => ?_)
  obtain ⟨rfl, hq⟩ := hq
  replace hq := hq.symm
  subst hq
  have hs := s_X9_isBook a1 h hs e3
  refine AW_go okX9_apart 1 ?_
  refine And.intro (fun c4 => ?_) (fun c4 => ?_)
  · rw [if_pos c4] at hf
    refine AW_go okX9_apart 2 ?_
    obtain ⟨rfl, rfl⟩ := am_i2 hf
    exact And.intro ⟨(Nat.le_of_ble_eq_true rfl), (Nat.le_of_ble_eq_true rfl)⟩ (And.intro (Or.inl rfl) ⟨rfl, rfl⟩)
  · rw [if_neg c4] at hf
    refine AW_go okX9_apart 2 ?_
    obtain ⟨r5, h6, e7, hf⟩ := am_b2_ok hf
    refine AW_callV (As := [.int a2]) (R' := rX9_isBook 0 0) (T := TX9) (N := 58) (ci := 9) (okX9_apart.1 10 _ _ rfl) lkX9_isBook kX9_203 rfl (sK hs 51) rfl (Nat.le_of_ble_eq_true rfl) ⟨by decide, by decide⟩ ⟨(Nat.le_of_ble_eq_true rfl), (Nat.le_of_ble_eq_true rfl)⟩ (Nat.le_of_ble_eq_true rfl) (c_X9_isBook a2 h2 hs e7) (fun r h' hq => ?_)
    obtain ⟨rfl, hq⟩ := hq
    replace hq := hq.symm
    subst hq
    have hs := s_X9_isBook a2 h2 hs e7
    refine AW_go okX9_apart 1 ?_
    refine And.intro (fun c8 => ?_) (fun c8 => ?_)
    · rw [if_neg c8] at hf
      refine AW_go okX9_apart 3 ?_
      obtain ⟨r9, h10, e11, hf⟩ := am_b2_ok hf
      refine AW_callS (As := [.int a3, .int (Int32.ofInt 0), .int (Int32.ofInt 1)]) (R' := rX9_within 0 0) (okX9_apart.1 22 _ _ rfl) lkX9_within (Or.inl kX9_134) rfl (Nat.le_of_ble_eq_true rfl) ⟨by decide, by decide⟩ ⟨(Nat.le_of_ble_eq_true rfl), (Nat.le_of_ble_eq_true rfl)⟩ (Nat.le_of_ble_eq_true rfl) (c_X9_within a3 (Int32.ofInt 0) (Int32.ofInt 1) h6 hs e11) (fun r h' hq => ?_)
      obtain ⟨rfl, hq⟩ := hq
      replace hq := hq.symm
      subst hq
      have hs := s_X9_within a3 (Int32.ofInt 0) (Int32.ofInt 1) h6 hs e11
      refine AW_go okX9_apart 1 ?_
      refine And.intro (fun c12 => ?_) (fun c12 => ?_)
      · rw [if_neg c12] at hf
        refine AW_go okX9_apart 3 ?_
        obtain ⟨r13, h14, e15, hf⟩ := am_b2_ok hf
        refine AW_callV (As := [.int a1, .int a2]) (R' := rX9_seekApart 0 0) (T := TX9) (N := 58) (ci := 9) (okX9_apart.1 45 _ _ rfl) lkX9_seekApart kX9_251 rfl (sK hs 51) rfl (Nat.le_of_ble_eq_true rfl) ⟨by decide, by decide⟩ ⟨(Nat.le_of_ble_eq_true rfl), (Nat.le_of_ble_eq_true rfl)⟩ (Nat.le_of_ble_eq_true rfl) (c_X9_seekApart n a1 a2 h10 hs e15) (fun r h' hq => ?_)
        obtain ⟨rfl, hq⟩ := hq
        replace hq := hq.symm
        subst hq
        have hs := s_X9_seekApart n a1 a2 h10 hs e15
        refine AW_go okX9_apart 4 ?_
        refine And.intro (sK hs 51) ?_
        refine And.intro (fun c16 => ?_) (fun c16 => ?_)
        · rw [if_neg c16] at hf
          refine AW_go okX9_apart 5 ?_
          refine And.intro (sK hs 51) ?_
          refine AW_pick (lv' := [(0, .ref 51), (1, .int a1), (2, .int a2), (3, .int a3), (4, .int (Int32.ofInt 0)), (5, .int (am_I h14 51 37))]) [2, 3, 4, 5, 1, 0] rfl ?_
          exact (l_X9_apart n).1 a1 a2 a3 (Int32.ofInt 0) (am_I h14 51 37) 0 h14 _ _ hs hf
        · rw [if_pos c16] at hf
          refine AW_go okX9_apart 2 ?_
          obtain ⟨rfl, rfl⟩ := am_i2 hf
          exact And.intro ⟨(Nat.le_of_ble_eq_true rfl), (Nat.le_of_ble_eq_true rfl)⟩ (And.intro (Or.inl rfl) ⟨rfl, rfl⟩)
      · rw [if_pos c12] at hf
        refine AW_go okX9_apart 3 ?_
        obtain ⟨r17, h18, e19, hf⟩ := am_b2_ok hf
        refine AW_callS (As := [.int a3, .int (Int32.ofInt 10), .int (Int32.ofInt 99)]) (R' := rX9_within 0 0) (okX9_apart.1 33 _ _ rfl) lkX9_within (Or.inl kX9_134) rfl (Nat.le_of_ble_eq_true rfl) ⟨by decide, by decide⟩ ⟨(Nat.le_of_ble_eq_true rfl), (Nat.le_of_ble_eq_true rfl)⟩ (Nat.le_of_ble_eq_true rfl) (c_X9_within a3 (Int32.ofInt 10) (Int32.ofInt 99) h10 hs e19) (fun r h' hq => ?_)
        obtain ⟨rfl, hq⟩ := hq
        replace hq := hq.symm
        subst hq
        have hs := s_X9_within a3 (Int32.ofInt 10) (Int32.ofInt 99) h10 hs e19
        refine AW_go okX9_apart 1 ?_
        refine And.intro (fun c20 => ?_) (fun c20 => ?_)
        · rw [if_neg c20] at hf
          refine AW_go okX9_apart 3 ?_
          obtain ⟨r21, h22, e23, hf⟩ := am_b2_ok hf
          refine AW_callV (As := [.int a1, .int a2]) (R' := rX9_seekApart 0 0) (T := TX9) (N := 58) (ci := 9) (okX9_apart.1 45 _ _ rfl) lkX9_seekApart kX9_251 rfl (sK hs 51) rfl (Nat.le_of_ble_eq_true rfl) ⟨by decide, by decide⟩ ⟨(Nat.le_of_ble_eq_true rfl), (Nat.le_of_ble_eq_true rfl)⟩ (Nat.le_of_ble_eq_true rfl) (c_X9_seekApart n a1 a2 h18 hs e23) (fun r h' hq => ?_)
          obtain ⟨rfl, hq⟩ := hq
          replace hq := hq.symm
          subst hq
          have hs := s_X9_seekApart n a1 a2 h18 hs e23
          refine AW_go okX9_apart 4 ?_
          refine And.intro (sK hs 51) ?_
          refine And.intro (fun c24 => ?_) (fun c24 => ?_)
          · rw [if_neg c24] at hf
            refine AW_go okX9_apart 5 ?_
            refine And.intro (sK hs 51) ?_
            refine AW_pick (lv' := [(0, .ref 51), (1, .int a1), (2, .int a2), (3, .int a3), (4, .int (Int32.ofInt 0)), (5, .int (am_I h22 51 37))]) [2, 3, 4, 5, 1, 0] rfl ?_
            exact (l_X9_apart n).1 a1 a2 a3 (Int32.ofInt 0) (am_I h22 51 37) 0 h22 _ _ hs hf
          · rw [if_pos c24] at hf
            refine AW_go okX9_apart 2 ?_
            obtain ⟨rfl, rfl⟩ := am_i2 hf
            exact And.intro ⟨(Nat.le_of_ble_eq_true rfl), (Nat.le_of_ble_eq_true rfl)⟩ (And.intro (Or.inl rfl) ⟨rfl, rfl⟩)
        · rw [if_pos c20] at hf
          refine AW_go okX9_apart 2 ?_
          obtain ⟨rfl, rfl⟩ := am_i2 hf
          exact And.intro ⟨(Nat.le_of_ble_eq_true rfl), (Nat.le_of_ble_eq_true rfl)⟩ (And.intro (Or.inl rfl) ⟨rfl, rfl⟩)
    · rw [if_pos c8] at hf
      refine AW_go okX9_apart 2 ?_
      obtain ⟨rfl, rfl⟩ := am_i2 hf
      exact And.intro ⟨(Nat.le_of_ble_eq_true rfl), (Nat.le_of_ble_eq_true rfl)⟩ (And.intro (Or.inl rfl) ⟨rfl, rfl⟩)
