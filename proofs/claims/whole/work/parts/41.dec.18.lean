def f_X9_book (n : Nat) (h : am_H) : Option (Int32 × am_H) := am_b2 (f_X9_readPage n (Int32.ofInt 0) h) fun r1 h2 => ((if (am_I h2 51 15) = 0 then some ((Int32.ofInt (-103)), h2) else (if (am_I h2 51 2) = (Int32.ofInt 8) then am_b2 (f_X9_layIdle n (Int32.ofInt 0) h2) fun r10 h11 => (Option.bind ((if (am_I h11 51 23) = 0 then some (Int32.ofInt (-104)) else some (Int32.ofInt (-103)))) fun y13 => (some (y13, h11))) else am_b2 (f_X9_lay n (am_I h2 51 2) (Int32.ofInt (-1)) (am_I h2 51 0) (Int32.ofInt (-1)) h2) fun r6 h7 => ((if (am_I h7 51 23) = 0 then some (((am_I (am_sI (am_sI h7 51 2 ((am_I h7 51 2) + (Int32.ofInt 1))) 51 0 (Int32.ofInt 0)) 51 2) - (Int32.ofInt 1)), (am_sI (am_sI h7 51 2 ((am_I h7 51 2) + (Int32.ofInt 1))) 51 0 (Int32.ofInt 0))) else some ((Int32.ofInt (-103)), h7))))))
set_option maxRecDepth 100000 in
theorem s_X9_book (n : Nat) (h : am_H) (hs : am_stat h) {v : Int32} {h' : am_H} (hf : f_X9_book n h = some (v, h')) : am_stat h' := by
  unfold f_X9_book at hf
  obtain ⟨r1, h2, e3, hf⟩ := am_b2_ok hf
  have hs := s_X9_readPage n (Int32.ofInt 0) h hs e3
  by_cases c4 : (am_I h2 51 15) = 0
  · rw [if_pos c4] at hf
    obtain ⟨rfl, rfl⟩ := am_i2 hf
    exact hs
  · rw [if_neg c4] at hf
    by_cases c5 : (am_I h2 51 2) = (Int32.ofInt 8)
    · rw [if_pos c5] at hf
      obtain ⟨r6, h7, e8, hf⟩ := am_b2_ok hf
      have hs := s_X9_layIdle n (Int32.ofInt 0) h2 hs e8
      obtain ⟨y9, j10, hf⟩ := am_bnd hf
      obtain ⟨rfl, rfl⟩ := am_i2 hf
      exact hs
    · rw [if_neg c5] at hf
      obtain ⟨r62, h63, e64, hf⟩ := am_b2_ok hf
      have hs := s_X9_lay n (am_I h2 51 2) (Int32.ofInt (-1)) (am_I h2 51 0) (Int32.ofInt (-1)) h2 hs e64
      by_cases c65 : (am_I h63 51 23) = 0
      · rw [if_pos c65] at hf
        obtain ⟨rfl, rfl⟩ := am_i2 hf
        exact hs
      · rw [if_neg c65] at hf
        obtain ⟨rfl, rfl⟩ := am_i2 hf
        exact hs
set_option maxRecDepth 100000 in
theorem c_X9_book (n : Nat) (h : am_H) (hs : am_stat h) {v : Int32} {h' : am_H} (hf : f_X9_book n h = some (v, h')) : AMet mX9_book (rX9_book 0 0) (fun r h2 => r = some (.int v) ∧ h2 = h') [.ref 51] h := by
  unfold f_X9_book at hf
  refine AW_go okX9_book 2 ?_
  obtain ⟨r1, h2, e3, hf⟩ := am_b2_ok hf
  refine AW_callV (As := [.int (Int32.ofInt 0)]) (R' := rX9_readPage 0 0) (T := TX9) (N := 58) (ci := 9) (okX9_book.1 2 _ _ rfl) lkX9_readPage kX9_152 rfl (sK hs 51) rfl (Nat.le_of_ble_eq_true rfl) ⟨by decide, by decide⟩ ⟨(Nat.le_of_ble_eq_true rfl), (Nat.le_of_ble_eq_true rfl)⟩ (Nat.le_of_ble_eq_true rfl) (c_X9_readPage n (Int32.ofInt 0) h hs e3) (fun r h' hq => ?_)
  obtain ⟨rfl, hq⟩ := hq
  replace hq := hq.symm
  subst hq
  have hs := s_X9_readPage n (Int32.ofInt 0) h hs e3
  refine AW_go okX9_book 3 ?_
  refine And.intro (sK hs 51) ?_
  refine And.intro (fun c4 => ?_) (fun c4 => ?_)
  · rw [if_neg c4] at hf
    refine AW_go okX9_book 4 ?_
    refine And.intro (sK hs 51) ?_
    refine And.intro (fun c5 => ?_) (fun c5 => ?_)
    · rw [if_neg c5] at hf
      refine AW_go okX9_book 7 ?_
      refine And.intro (sK hs 51) ?_
      refine And.intro (sK hs 51) ?_
      obtain ⟨r6, h7, e8, hf⟩ := am_b2_ok hf
      refine AW_callV (As := [.int (am_I h2 51 2), .int (Int32.ofInt (-1)), .int (am_I h2 51 0), .int (Int32.ofInt (-1))]) (R' := rX9_lay 0 0) (T := TX9) (N := 58) (ci := 9) (okX9_book.1 55 _ _ rfl) lkX9_lay kX9_193 rfl (sK hs 51) rfl (Nat.le_of_ble_eq_true rfl) ⟨by decide, by decide⟩ ⟨(Nat.le_of_ble_eq_true rfl), (Nat.le_of_ble_eq_true rfl)⟩ (Nat.le_of_ble_eq_true rfl) (c_X9_lay n (am_I h2 51 2) (Int32.ofInt (-1)) (am_I h2 51 0) (Int32.ofInt (-1)) h2 hs e8) (fun r h' hq => ?_)
      obtain ⟨rfl, hq⟩ := hq
      replace hq := hq.symm
      subst hq
      have hs := s_X9_lay n (am_I h2 51 2) (Int32.ofInt (-1)) (am_I h2 51 0) (Int32.ofInt (-1)) h2 hs e8
      refine AW_go okX9_book 3 ?_
      refine And.intro (sK hs 51) ?_
      refine And.intro (fun c9 => ?_) (fun c9 => ?_)
      · rw [if_pos c9] at hf
        refine AW_go okX9_book 14 ?_
        refine And.intro (sK hs 51) ?_
        refine And.intro (sK hs 51) ?_
        refine And.intro (sK hs 51) ?_
        refine And.intro (sK hs 51) ?_
        obtain ⟨rfl, rfl⟩ := am_i2 hf
        exact And.intro ⟨(Nat.le_of_ble_eq_true rfl), (Nat.le_of_ble_eq_true rfl)⟩ (And.intro (Or.inl rfl) ⟨rfl, rfl⟩)
      · rw [if_neg c9] at hf
        refine AW_go okX9_book 2 ?_
        obtain ⟨rfl, rfl⟩ := am_i2 hf
        exact And.intro ⟨(Nat.le_of_ble_eq_true rfl), (Nat.le_of_ble_eq_true rfl)⟩ (And.intro (Or.inl rfl) ⟨rfl, rfl⟩)
    · rw [if_pos c5] at hf
      refine AW_go okX9_book 2 ?_
      obtain ⟨r10, h11, e12, hf⟩ := am_b2_ok hf
      refine AW_callV (As := [.int (Int32.ofInt 0)]) (R' := rX9_layIdle 0 0) (T := TX9) (N := 58) (ci := 9) (okX9_book.1 26 _ _ rfl) lkX9_layIdle kX9_190 rfl (sK hs 51) rfl (Nat.le_of_ble_eq_true rfl) ⟨by decide, by decide⟩ ⟨(Nat.le_of_ble_eq_true rfl), (Nat.le_of_ble_eq_true rfl)⟩ (Nat.le_of_ble_eq_true rfl) (c_X9_layIdle n (Int32.ofInt 0) h2 hs e12) (fun r h' hq => ?_)
      obtain ⟨rfl, hq⟩ := hq
      replace hq := hq.symm
      subst hq
      have hs := s_X9_layIdle n (Int32.ofInt 0) h2 hs e12
      refine AW_go okX9_book 2 ?_
      refine And.intro (sK hs 51) ?_
      obtain ⟨y13, j14, hf⟩ := am_bnd hf
      refine am_cut (P := AW mX9_book (rX9_book 0 0) (fun r h2 => r = some (.int v) ∧ h2 = h') 43 [(0, .ref 51)] [.int y13] h11 0 0) (fun hJ14 => ?_) ?_
      · have hs := hs
        refine AW_go okX9_book 1 ?_
        refine And.intro (fun c15 => ?_) (fun c15 => ?_)
        · rw [if_pos c15] at j14
          refine AW_go okX9_book 1 ?_
          obtain rfl := am_i1 j14
          exact AW_pick [0] rfl hJ14
        · rw [if_neg c15] at j14
          refine AW_go okX9_book 2 ?_
          obtain rfl := am_i1 j14
          exact AW_pick [0] rfl hJ14
      refine AW_go okX9_book 1 ?_
      obtain ⟨rfl, rfl⟩ := am_i2 hf
      exact And.intro ⟨(Nat.le_of_ble_eq_true rfl), (Nat.le_of_ble_eq_true rfl)⟩ (And.intro (Or.inl rfl) ⟨rfl, rfl⟩)
  · rw [if_pos c4] at hf
    refine AW_go okX9_book 2 ?_
    obtain ⟨rfl, rfl⟩ := am_i2 hf
    exact And.intro ⟨(Nat.le_of_ble_eq_true rfl), (Nat.le_of_ble_eq_true rfl)⟩ (And.intro (Or.inl rfl) ⟨rfl, rfl⟩)
def f_X9_own (n : Nat) (a1 : Int32) (a2 : Int32) (h : am_H) : Option (Int32 × am_H) := am_b2 (f_X9_within a1 (Int32.ofInt 0) ((am_I h 51 6) - (Int32.ofInt 1)) h) fun r1 h2 => ((if r1 = 0 then some ((Int32.ofInt (-101)), h2) else am_b2 (f_X9_isOffice a2 h2) fun r5 h6 => ((if r5 = 0 then some ((Int32.ofInt (-101)), h6) else (if (am_I h6 51 2) = (Int32.ofInt 8) then some ((Int32.ofInt (-104)), h6) else bif am_vp a1 3 then (am_b2 (f_X9_lay n (am_I h6 51 2) a1 (am_I h6 57 (Int32.toNatClampNeg a1)) a2 h6) fun r11 h12 => (some (((am_I (am_sI h12 51 2 ((am_I h12 51 2) + (Int32.ofInt 1))) 51 2) - (Int32.ofInt 1)), (am_sI h12 51 2 ((am_I h12 51 2) + (Int32.ofInt 1)))))) else none)))))
set_option maxRecDepth 100000 in
theorem s_X9_own (n : Nat) (a1 : Int32) (a2 : Int32) (h : am_H) (hs : am_stat h) {v : Int32} {h' : am_H} (hf : f_X9_own n a1 a2 h = some (v, h')) : am_stat h' := by
  unfold f_X9_own at hf
  obtain ⟨r1, h2, e3, hf⟩ := am_b2_ok hf
  have hs := s_X9_within a1 (Int32.ofInt 0) ((am_I h 51 6) - (Int32.ofInt 1)) h hs e3
  by_cases c4 : r1 = 0
  · rw [if_pos c4] at hf
    obtain ⟨rfl, rfl⟩ := am_i2 hf
    exact hs
  · rw [if_neg c4] at hf
    obtain ⟨r5, h6, e7, hf⟩ := am_b2_ok hf
    have hs := s_X9_isOffice a2 h2 hs e7
    by_cases c8 : r5 = 0
    · rw [if_pos c8] at hf
      obtain ⟨rfl, rfl⟩ := am_i2 hf
      exact hs
    · rw [if_neg c8] at hf
      by_cases c9 : (am_I h6 51 2) = (Int32.ofInt 8)
      · rw [if_pos c9] at hf
        obtain ⟨rfl, rfl⟩ := am_i2 hf
        exact hs
      · rw [if_neg c9] at hf
        obtain ⟨b10, hf⟩ := am_bis hf
        obtain ⟨r11, h12, e13, hf⟩ := am_b2_ok hf
        have hs := s_X9_lay n (am_I h6 51 2) a1 (am_I h6 57 (Int32.toNatClampNeg a1)) a2 h6 hs e13
        obtain ⟨rfl, rfl⟩ := am_i2 hf
        exact hs
set_option maxRecDepth 100000 in
theorem c_X9_own (n : Nat) (a1 : Int32) (a2 : Int32) (h : am_H) (hs : am_stat h) {v : Int32} {h' : am_H} (hf : f_X9_own n a1 a2 h = some (v, h')) : AMet mX9_own (rX9_own 0 0) (fun r h2 => r = some (.int v) ∧ h2 = h') [.ref 51, .int a1, .int a2] h := by
  unfold f_X9_own at hf
  refine AW_go okX9_own 6 ?_
  refine And.intro (sK hs 51) ?_
  obtain ⟨r1, h2, e3, hf⟩ := am_b2_ok hf
  refine AW_callS (As := [.int a1, .int (Int32.ofInt 0), .int ((am_I h 51 6) - (Int32.ofInt 1))]) (R' := rX9_within 0 0) (okX9_own.1 8 _ _ rfl) lkX9_within (Or.inl kX9_134) rfl (Nat.le_of_ble_eq_true rfl) ⟨by decide, by decide⟩ ⟨(Nat.le_of_ble_eq_true rfl), (Nat.le_of_ble_eq_true rfl)⟩ (Nat.le_of_ble_eq_true rfl) (c_X9_within a1 (Int32.ofInt 0) ((am_I h 51 6) - (Int32.ofInt 1)) h hs e3) (fun r h' hq => ?_)
  obtain ⟨rfl, hq⟩ := hq
  replace hq := hq.symm
  subst hq
  have hs := s_X9_within a1 (Int32.ofInt 0) ((am_I h 51 6) - (Int32.ofInt 1)) h hs e3
  refine AW_go okX9_own 1 ?_
  refine And.intro (fun c4 => ?_) (fun c4 => ?_)
  · rw [if_pos c4] at hf
    refine AW_go okX9_own 2 ?_
    obtain ⟨rfl, rfl⟩ := am_i2 hf
    exact And.intro ⟨(Nat.le_of_ble_eq_true rfl), (Nat.le_of_ble_eq_true rfl)⟩ (And.intro (Or.inl rfl) ⟨rfl, rfl⟩)
  · rw [if_neg c4] at hf
    refine AW_go okX9_own 1 ?_
    obtain ⟨r5, h6, e7, hf⟩ := am_b2_ok hf
    refine AW_callS (As := [.int a2]) (R' := rX9_isOffice 0 0) (okX9_own.1 15 _ _ rfl) lkX9_isOffice (Or.inl kX9_200) rfl (Nat.le_of_ble_eq_true rfl) ⟨by decide, by decide⟩ ⟨(Nat.le_of_ble_eq_true rfl), (Nat.le_of_ble_eq_true rfl)⟩ (Nat.le_of_ble_eq_true rfl) (c_X9_isOffice a2 h2 hs e7) (fun r h' hq => ?_)
    obtain ⟨rfl, hq⟩ := hq
    replace hq := hq.symm
    subst hq
    have hs := s_X9_isOffice a2 h2 hs e7
    refine AW_go okX9_own 1 ?_
    refine And.intro (fun c8 => ?_) (fun c8 => ?_)
    · rw [if_neg c8] at hf
      refine AW_go okX9_own 4 ?_
      refine And.intro (sK hs 51) ?_
      refine And.intro (fun c9 => ?_) (fun c9 => ?_)
      · rw [if_neg c9] at hf
        obtain ⟨b10, hf⟩ := am_bis hf
        refine AW_go okX9_own 9 ?_
        refine And.intro (sK hs 51) ?_
        refine And.intro (sK hs 51) (Exists.intro _ (And.intro (sA hs 51 8) ?_))
        refine Exists.intro 3 (And.intro (sK hs 57) (And.intro (am_vp_ok b10) ?_))
        obtain ⟨r11, h12, e13, hf⟩ := am_b2_ok hf
        refine AW_callV (As := [.int (am_I h6 51 2), .int a1, .int (am_I h6 57 (Int32.toNatClampNeg a1)), .int a2]) (R' := rX9_lay 0 0) (T := TX9) (N := 58) (ci := 9) (okX9_own.1 49 _ _ rfl) lkX9_lay kX9_193 rfl (sK hs 51) rfl (Nat.le_of_ble_eq_true rfl) ⟨by decide, by decide⟩ ⟨(Nat.le_of_ble_eq_true rfl), (Nat.le_of_ble_eq_true rfl)⟩ (Nat.le_of_ble_eq_true rfl) (c_X9_lay n (am_I h6 51 2) a1 (am_I h6 57 (Int32.toNatClampNeg a1)) a2 h6 hs e13) (fun r h' hq => ?_)
        obtain ⟨rfl, hq⟩ := hq
        replace hq := hq.symm
        subst hq
        have hs := s_X9_lay n (am_I h6 51 2) a1 (am_I h6 57 (Int32.toNatClampNeg a1)) a2 h6 hs e13
        refine AW_go okX9_own 11 ?_
        refine And.intro (sK hs 51) ?_
        refine And.intro (sK hs 51) ?_
        refine And.intro (sK hs 51) ?_
        obtain ⟨rfl, rfl⟩ := am_i2 hf
        exact And.intro ⟨(Nat.le_of_ble_eq_true rfl), (Nat.le_of_ble_eq_true rfl)⟩ (And.intro (Or.inl rfl) ⟨rfl, rfl⟩)
      · rw [if_pos c9] at hf
        refine AW_go okX9_own 2 ?_
        obtain ⟨rfl, rfl⟩ := am_i2 hf
        exact And.intro ⟨(Nat.le_of_ble_eq_true rfl), (Nat.le_of_ble_eq_true rfl)⟩ (And.intro (Or.inl rfl) ⟨rfl, rfl⟩)
    · rw [if_pos c8] at hf
      refine AW_go okX9_own 2 ?_
      obtain ⟨rfl, rfl⟩ := am_i2 hf
      exact And.intro ⟨(Nat.le_of_ble_eq_true rfl), (Nat.le_of_ble_eq_true rfl)⟩ (And.intro (Or.inl rfl) ⟨rfl, rfl⟩)
def g_X9_laySteps : Nat → Nat → Int32 → Int32 → Int32 → am_H → Option (Unit × am_H)
  | 0, _, _, _, _, _ => none
  | n + 1, tag, x1i, x2i, x3i, h => bif Nat.beq tag 0 then ((if (Int32.ofInt 3) ≤ x1i then some ((), h) else am_b2 (f_X9_followNow x1i h) fun r2 h3 => (g_X9_laySteps n 1 x1i r2 (Int32.ofInt 1) h3))) else ((if (Int32.ofInt 16) ≤ x3i then g_X9_laySteps n 0 (x1i + Int32.ofInt 1) 0 0 h else Option.bind ((if ((x2i >>> (x3i &&& 31)) &&& (Int32.ofInt 1)) = (Int32.ofInt 1) then am_b2 (f_X9_layStep n x1i x3i h) fun r5 h6 => (some h6) else some h)) fun h2 => (g_X9_laySteps n 1 x1i x2i (x3i + Int32.ofInt 1) h2)))
set_option maxRecDepth 100000 in
set_option maxHeartbeats 4000000 in
theorem m_X9_laySteps (n : Nat) : (∀ (x1i : Int32) (x2i : Int32) (x3i : Int32) (h : am_H) (v : Unit) (h' : am_H), am_stat h → g_X9_laySteps n 0 x1i x2i x3i h = some (v, h') → am_stat h') ∧ (∀ (x1i : Int32) (x2i : Int32) (x3i : Int32) (h : am_H) (v : Unit) (h' : am_H), am_stat h → g_X9_laySteps n 1 x1i x2i x3i h = some (v, h') → am_stat h') := by
  induction n with
  | zero => exact ⟨fun x1i x2i x3i h v h' hs hf => (by cases hf), fun x1i x2i x3i h v h' hs hf => (by cases hf)⟩
  | succ n ih =>
    refine ⟨?_, ?_⟩
    · intro x1i x2i x3i h v h' hs hf
      have hf : ((if (Int32.ofInt 3) ≤ x1i then some ((), h) else am_b2 (f_X9_followNow x1i h) fun r2 h3 => (g_X9_laySteps n 1 x1i r2 (Int32.ofInt 1) h3))) = some (v, h') := hf
      by_cases c1 : (Int32.ofInt 3) ≤ x1i
      · rw [if_pos c1] at hf
        obtain ⟨rfl, rfl⟩ := am_i2 hf
        exact hs
      · rw [if_neg c1] at hf
        obtain ⟨r2, h3, e4, hf⟩ := am_b2_ok hf
        have hs := s_X9_followNow x1i h hs e4
        exact ih.2 x1i r2 (Int32.ofInt 1) h3 _ _ hs hf
    · intro x1i x2i x3i h v h' hs hf
      have hf : ((if (Int32.ofInt 16) ≤ x3i then g_X9_laySteps n 0 (x1i + Int32.ofInt 1) 0 0 h else Option.bind ((if ((x2i >>> (x3i &&& 31)) &&& (Int32.ofInt 1)) = (Int32.ofInt 1) then am_b2 (f_X9_layStep n x1i x3i h) fun r5 h6 => (some h6) else some h)) fun h2 => (g_X9_laySteps n 1 x1i x2i (x3i + Int32.ofInt 1) h2))) = some (v, h') := hf
      by_cases c1 : (Int32.ofInt 16) ≤ x3i
      · rw [if_pos c1] at hf
        exact ih.1 (x1i + Int32.ofInt 1) 0 0 h _ _ hs hf
      · rw [if_neg c1] at hf
        obtain ⟨h2, j3, hf⟩ := am_bnd hf
        have hs0 := hs
        have hs : am_stat h2 := by
          have hs := hs0
          by_cases c4 : ((x2i >>> (x3i &&& 31)) &&& (Int32.ofInt 1)) = (Int32.ofInt 1)
          · rw [if_pos c4] at j3
            obtain ⟨r5, h6, e7, j3⟩ := am_b2_ok j3
            have hs := s_X9_layStep n x1i x3i h hs e7
            obtain rfl := am_i1 j3
            exact hs
          · rw [if_neg c4] at j3
            obtain rfl := am_i1 j3
            exact hs
        exact ih.2 x1i x2i (x3i + Int32.ofInt 1) h2 _ _ hs hf
set_option maxRecDepth 100000 in
set_option maxHeartbeats 4000000 in
theorem l_X9_laySteps (n : Nat) : (∀ (x1i : Int32) (x2i : Int32) (x3i : Int32) (h : am_H) (v : Unit) (h' : am_H), am_stat h → g_X9_laySteps n 0 x1i x2i x3i h = some (v, h') → AW mX9_laySteps (rX9_laySteps 0 0) (fun r h2 => r = none ∧ h2 = h') 7 [(0, .ref 51), (1, .int x1i)] [] h 0 0) ∧ (∀ (x1i : Int32) (x2i : Int32) (x3i : Int32) (h : am_H) (v : Unit) (h' : am_H), am_stat h → g_X9_laySteps n 1 x1i x2i x3i h = some (v, h') → AW mX9_laySteps (rX9_laySteps 0 0) (fun r h2 => r = none ∧ h2 = h') 20 [(0, .ref 51), (1, .int x1i), (2, .int x2i), (3, .int x3i)] [] h 0 0) := by
  induction n with
  | zero => exact ⟨fun x1i x2i x3i h v h' hs hf => (by cases hf), fun x1i x2i x3i h v h' hs hf => (by cases hf)⟩
  | succ n ih =>
    refine ⟨?_, ?_⟩
    · intro x1i x2i x3i h v h' hs hf
      have hf : ((if (Int32.ofInt 3) ≤ x1i then some ((), h) else am_b2 (f_X9_followNow x1i h) fun r2 h3 => (g_X9_laySteps n 1 x1i r2 (Int32.ofInt 1) h3))) = some (v, h') := hf
      refine AW_go okX9_laySteps 3 ?_
      refine And.intro (fun c1 => ?_) (fun c1 => ?_)
      · rw [if_pos c1] at hf
        refine AW_go okX9_laySteps 1 ?_
        obtain ⟨rfl, rfl⟩ := am_i2 hf
        exact And.intro ⟨(Nat.le_of_ble_eq_true rfl), (Nat.le_of_ble_eq_true rfl)⟩ (And.intro rfl ⟨rfl, rfl⟩)
      · rw [if_neg c1] at hf
        refine AW_go okX9_laySteps 2 ?_
        obtain ⟨r2, h3, e4, hf⟩ := am_b2_ok hf
        refine AW_callV (As := [.int x1i]) (R' := rX9_followNow 0 0) (T := TX9) (N := 58) (ci := 9) (okX9_laySteps.1 14 _ _ rfl) lkX9_followNow kX9_285 rfl (sK hs 51) rfl (Nat.le_of_ble_eq_true rfl) ⟨by decide, by decide⟩ ⟨(Nat.le_of_ble_eq_true rfl), (Nat.le_of_ble_eq_true rfl)⟩ (Nat.le_of_ble_eq_true rfl) (c_X9_followNow x1i h hs e4) (fun r h' hq => ?_)
        obtain ⟨rfl, hq⟩ := hq
        replace hq := hq.symm
        subst hq
        have hs := s_X9_followNow x1i h hs e4
        refine AW_go okX9_laySteps 3 ?_
        refine AW_pick (lv' := [(0, .ref 51), (1, .int x1i), (2, .int r2), (3, .int (Int32.ofInt 1))]) [2, 3, 1, 0] rfl ?_
        exact ih.2 x1i r2 (Int32.ofInt 1) h3 _ _ hs hf
    · intro x1i x2i x3i h v h' hs hf
      have hf : ((if (Int32.ofInt 16) ≤ x3i then g_X9_laySteps n 0 (x1i + Int32.ofInt 1) 0 0 h else Option.bind ((if ((x2i >>> (x3i &&& 31)) &&& (Int32.ofInt 1)) = (Int32.ofInt 1) then am_b2 (f_X9_layStep n x1i x3i h) fun r5 h6 => (some h6) else some h)) fun h2 => (g_X9_laySteps n 1 x1i x2i (x3i + Int32.ofInt 1) h2))) = some (v, h') := hf
      refine AW_go okX9_laySteps 3 ?_
      refine And.intro (fun c1 => ?_) (fun c1 => ?_)
      · rw [if_pos c1] at hf
        refine AW_go okX9_laySteps 2 ?_
        refine AW_pick (lv' := [(0, .ref 51), (1, .int (x1i + Int32.ofInt 1))]) [1, 0] rfl ?_
        exact ih.1 (x1i + Int32.ofInt 1) 0 0 h _ _ hs hf
      · rw [if_neg c1] at hf
        refine AW_go okX9_laySteps 6 ?_
        obtain ⟨h2, j3, hf⟩ := am_bnd hf
        have hs0 := hs
        have hs : am_stat h2 := by
          have hs := hs0
          by_cases c4 : ((x2i >>> (x3i &&& 31)) &&& (Int32.ofInt 1)) = (Int32.ofInt 1)
          · rw [if_pos c4] at j3
            obtain ⟨r5, h6, e7, j3⟩ := am_b2_ok j3
            have hs := s_X9_layStep n x1i x3i h hs e7
            obtain rfl := am_i1 j3
            exact hs
          · rw [if_neg c4] at j3
            obtain rfl := am_i1 j3
            exact hs
        refine am_cut (P := AW mX9_laySteps (rX9_laySteps 0 0) (fun r h2 => r = none ∧ h2 = h') 41 [(0, .ref 51), (1, .int x1i), (2, .int x2i), (3, .int x3i)] [] h2 0 0) (fun hJ3 => ?_) ?_
        · have hs := hs0
          refine AW_go okX9_laySteps 1 ?_
          refine And.intro (fun c4 => ?_) (fun c4 => ?_)
          · rw [if_neg c4] at j3
            obtain rfl := am_i1 j3
            exact AW_pick [0, 1, 2, 3] rfl hJ3
          · rw [if_pos c4] at j3
            refine AW_go okX9_laySteps 3 ?_
            obtain ⟨r5, h6, e7, j3⟩ := am_b2_ok j3
            refine AW_callV (As := [.int x1i, .int x3i]) (R' := rX9_layStep 0 0) (T := TX9) (N := 58) (ci := 9) (okX9_laySteps.1 38 _ _ rfl) lkX9_layStep kX9_288 rfl (sK hs 51) rfl (Nat.le_of_ble_eq_true rfl) ⟨by decide, by decide⟩ ⟨(Nat.le_of_ble_eq_true rfl), (Nat.le_of_ble_eq_true rfl)⟩ (Nat.le_of_ble_eq_true rfl) (c_X9_layStep n x1i x3i h hs e7) (fun r h' hq => ?_)
            obtain ⟨rfl, hq⟩ := hq
            replace hq := hq.symm
            subst hq
            have hs := s_X9_layStep n x1i x3i h hs e7
            obtain rfl := am_i1 j3
            exact AW_pick [0, 1, 2, 3] rfl hJ3
        refine AW_go okX9_laySteps 2 ?_
        refine AW_pick (lv' := [(0, .ref 51), (1, .int x1i), (2, .int x2i), (3, .int (x3i + Int32.ofInt 1))]) [1, 2, 3, 0] rfl ?_
        exact ih.2 x1i x2i (x3i + Int32.ofInt 1) h2 _ _ hs hf
def f_X9_laySteps (n : Nat) (h : am_H) : Option (Unit × am_H) := g_X9_laySteps n 0 (Int32.ofInt 0) 0 0 (am_sI h 51 44 (Int32.ofInt 0))
set_option maxRecDepth 100000 in
theorem s_X9_laySteps (n : Nat) (h : am_H) (hs : am_stat h) {v : Unit} {h' : am_H} (hf : f_X9_laySteps n h = some (v, h')) : am_stat h' := by
  unfold f_X9_laySteps at hf
  exact (m_X9_laySteps n).1 (Int32.ofInt 0) 0 0 (am_sI h 51 44 (Int32.ofInt 0)) _ _ hs hf
set_option maxRecDepth 100000 in
theorem c_X9_laySteps (n : Nat) (h : am_H) (hs : am_stat h) {v : Unit} {h' : am_H} (hf : f_X9_laySteps n h = some (v, h')) : AMet mX9_laySteps (rX9_laySteps 0 0) (fun r h2 => r = none ∧ h2 = h') [.ref 51] h := by
  unfold f_X9_laySteps at hf
  refine AW_go okX9_laySteps 5 ?_
  refine And.intro (sK hs 51) ?_
  refine AW_pick (lv' := [(0, .ref 51), (1, .int (Int32.ofInt 0))]) [1, 0] rfl ?_
  exact (l_X9_laySteps n).1 (Int32.ofInt 0) 0 0 (am_sI h 51 44 (Int32.ofInt 0)) _ _ hs hf
def f_X9_steps (n : Nat) (h : am_H) : Option (Int32 × am_H) := am_b2 (f_X9_laySteps n h) fun r1 h2 => (some ((am_I h2 51 44), h2))
set_option maxRecDepth 100000 in
theorem s_X9_steps (n : Nat) (h : am_H) (hs : am_stat h) {v : Int32} {h' : am_H} (hf : f_X9_steps n h = some (v, h')) : am_stat h' := by
  unfold f_X9_steps at hf
  obtain ⟨r1, h2, e3, hf⟩ := am_b2_ok hf
  have hs := s_X9_laySteps n h hs e3
  obtain ⟨rfl, rfl⟩ := am_i2 hf
  exact hs
set_option maxRecDepth 100000 in
theorem c_X9_steps (n : Nat) (h : am_H) (hs : am_stat h) {v : Int32} {h' : am_H} (hf : f_X9_steps n h = some (v, h')) : AMet mX9_steps (rX9_steps 0 0) (fun r h2 => r = some (.int v) ∧ h2 = h') [.ref 51] h := by
  unfold f_X9_steps at hf
  refine AW_go okX9_steps 1 ?_
  obtain ⟨r1, h2, e3, hf⟩ := am_b2_ok hf
  refine AW_callV (As := []) (R' := rX9_laySteps 0 0) (T := TX9) (N := 58) (ci := 9) (okX9_steps.1 1 _ _ rfl) lkX9_laySteps kX9_306 rfl (sK hs 51) rfl (Nat.le_of_ble_eq_true rfl) ⟨by decide, by decide⟩ ⟨(Nat.le_of_ble_eq_true rfl), (Nat.le_of_ble_eq_true rfl)⟩ (Nat.le_of_ble_eq_true rfl) (c_X9_laySteps n h hs e3) (fun r h' hq => ?_)
  obtain ⟨rfl, hq⟩ := hq
  replace hq := hq.symm
  subst hq
  have hs := s_X9_laySteps n h hs e3
  refine AW_go okX9_steps 3 ?_
  refine And.intro (sK hs 51) ?_
  obtain ⟨rfl, rfl⟩ := am_i2 hf
  exact And.intro ⟨(Nat.le_of_ble_eq_true rfl), (Nat.le_of_ble_eq_true rfl)⟩ (And.intro (Or.inl rfl) ⟨rfl, rfl⟩)
def f_X9_step (n : Nat) (a1 : Int32) (h : am_H) : Option (Int32 × am_H) := am_b2 (f_X9_laySteps n h) fun r1 h2 => (am_b2 (f_X9_within a1 (Int32.ofInt 0) ((am_I h2 51 44) - (Int32.ofInt 1)) h2) fun r4 h5 => (Option.bind ((if r4 = 0 then some (Int32.ofInt (-1)) else bif am_vp a1 96 then (some (am_I h5 79 (Int32.toNatClampNeg a1))) else none)) fun y7 => (some (y7, h5))))
set_option maxRecDepth 100000 in
theorem s_X9_step (n : Nat) (a1 : Int32) (h : am_H) (hs : am_stat h) {v : Int32} {h' : am_H} (hf : f_X9_step n a1 h = some (v, h')) : am_stat h' := by
  unfold f_X9_step at hf
  obtain ⟨r1, h2, e3, hf⟩ := am_b2_ok hf
  have hs := s_X9_laySteps n h hs e3
  obtain ⟨r4, h5, e6, hf⟩ := am_b2_ok hf
  have hs := s_X9_within a1 (Int32.ofInt 0) ((am_I h2 51 44) - (Int32.ofInt 1)) h2 hs e6
  obtain ⟨y7, j8, hf⟩ := am_bnd hf
  obtain ⟨rfl, rfl⟩ := am_i2 hf
  exact hs
set_option maxRecDepth 100000 in
theorem c_X9_step (n : Nat) (a1 : Int32) (h : am_H) (hs : am_stat h) {v : Int32} {h' : am_H} (hf : f_X9_step n a1 h = some (v, h')) : AMet mX9_step (rX9_step 0 0) (fun r h2 => r = some (.int v) ∧ h2 = h') [.ref 51, .int a1] h := by
  unfold f_X9_step at hf
  refine AW_go okX9_step 1 ?_
  obtain ⟨r1, h2, e3, hf⟩ := am_b2_ok hf
  refine AW_callV (As := []) (R' := rX9_laySteps 0 0) (T := TX9) (N := 58) (ci := 9) (okX9_step.1 1 _ _ rfl) lkX9_laySteps kX9_306 rfl (sK hs 51) rfl (Nat.le_of_ble_eq_true rfl) ⟨by decide, by decide⟩ ⟨(Nat.le_of_ble_eq_true rfl), (Nat.le_of_ble_eq_true rfl)⟩ (Nat.le_of_ble_eq_true rfl) (c_X9_laySteps n h hs e3) (fun r h' hq => ?_)
  obtain ⟨rfl, hq⟩ := hq
  replace hq := hq.symm
  subst hq
  have hs := s_X9_laySteps n h hs e3
  refine AW_go okX9_step 6 ?_
  refine And.intro (sK hs 51) ?_
  obtain ⟨r4, h5, e6, hf⟩ := am_b2_ok hf
  refine AW_callS (As := [.int a1, .int (Int32.ofInt 0), .int ((am_I h2 51 44) - (Int32.ofInt 1))]) (R' := rX9_within 0 0) (okX9_step.1 12 _ _ rfl) lkX9_within (Or.inl kX9_134) rfl (Nat.le_of_ble_eq_true rfl) ⟨by decide, by decide⟩ ⟨(Nat.le_of_ble_eq_true rfl), (Nat.le_of_ble_eq_true rfl)⟩ (Nat.le_of_ble_eq_true rfl) (c_X9_within a1 (Int32.ofInt 0) ((am_I h2 51 44) - (Int32.ofInt 1)) h2 hs e6) (fun r h' hq => ?_)
  obtain ⟨rfl, hq⟩ := hq
  replace hq := hq.symm
  subst hq
  have hs := s_X9_within a1 (Int32.ofInt 0) ((am_I h2 51 44) - (Int32.ofInt 1)) h2 hs e6
  obtain ⟨y7, j8, hf⟩ := am_bnd hf
  refine am_cut (P := AW mX9_step (rX9_step 0 0) (fun r h2 => r = some (.int v) ∧ h2 = h') 28 [(0, .ref 51), (1, .int a1)] [.int y7] h5 0 0) (fun hJ8 => ?_) ?_
  · have hs := hs
    refine AW_go okX9_step 1 ?_
    refine And.intro (fun c9 => ?_) (fun c9 => ?_)
    · rw [if_pos c9] at j8
      refine AW_go okX9_step 1 ?_
      obtain rfl := am_i1 j8
      exact AW_pick [0, 1] rfl hJ8
    · rw [if_neg c9] at j8
      obtain ⟨b10, j8⟩ := am_bis j8
      refine AW_go okX9_step 5 ?_
      refine And.intro (sK hs 51) (Exists.intro _ (And.intro (sA hs 51 43) ?_))
      refine Exists.intro 96 (And.intro (sK hs 79) (And.intro (am_vp_ok b10) ?_))
      obtain rfl := am_i1 j8
      exact AW_pick [0, 1] rfl hJ8
  refine AW_go okX9_step 1 ?_
  obtain ⟨rfl, rfl⟩ := am_i2 hf
  exact And.intro ⟨(Nat.le_of_ble_eq_true rfl), (Nat.le_of_ble_eq_true rfl)⟩ (And.intro (Or.inl rfl) ⟨rfl, rfl⟩)
def f_X9_go (n : Nat) (a1 : Int32) (h : am_H) : Option (Int32 × am_H) := am_b2 (f_X9_laySteps n h) fun r1 h2 => (am_b2 (f_X9_within a1 (Int32.ofInt 0) ((am_I h2 51 44) - (Int32.ofInt 1)) h2) fun r4 h5 => ((if r4 = 0 then some ((Int32.ofInt (-103)), h5) else bif am_vp a1 96 then (am_b2 (f_X9_doStep n (am_I h5 79 (Int32.toNatClampNeg a1)) h5) fun r9 h10 => (some ((am_I h5 79 (Int32.toNatClampNeg a1)), (am_sI h10 51 12 ((am_I h10 51 12) + (Int32.ofInt 1)))))) else none)))
set_option maxRecDepth 100000 in
theorem s_X9_go (n : Nat) (a1 : Int32) (h : am_H) (hs : am_stat h) {v : Int32} {h' : am_H} (hf : f_X9_go n a1 h = some (v, h')) : am_stat h' := by
  unfold f_X9_go at hf
  obtain ⟨r1, h2, e3, hf⟩ := am_b2_ok hf
  have hs := s_X9_laySteps n h hs e3
  obtain ⟨r4, h5, e6, hf⟩ := am_b2_ok hf
  have hs := s_X9_within a1 (Int32.ofInt 0) ((am_I h2 51 44) - (Int32.ofInt 1)) h2 hs e6
  by_cases c7 : r4 = 0
  · rw [if_pos c7] at hf
    obtain ⟨rfl, rfl⟩ := am_i2 hf
    exact hs
  · rw [if_neg c7] at hf
    obtain ⟨b8, hf⟩ := am_bis hf
    obtain ⟨r9, h10, e11, hf⟩ := am_b2_ok hf
    have hs := s_X9_doStep n (am_I h5 79 (Int32.toNatClampNeg a1)) h5 hs e11
    obtain ⟨rfl, rfl⟩ := am_i2 hf
    exact hs
set_option maxRecDepth 100000 in
theorem c_X9_go (n : Nat) (a1 : Int32) (h : am_H) (hs : am_stat h) {v : Int32} {h' : am_H} (hf : f_X9_go n a1 h = some (v, h')) : AMet mX9_go (rX9_go 0 0) (fun r h2 => r = some (.int v) ∧ h2 = h') [.ref 51, .int a1] h := by
  unfold f_X9_go at hf
  refine AW_go okX9_go 1 ?_
  obtain ⟨r1, h2, e3, hf⟩ := am_b2_ok hf
  refine AW_callV (As := []) (R' := rX9_laySteps 0 0) (T := TX9) (N := 58) (ci := 9) (okX9_go.1 1 _ _ rfl) lkX9_laySteps kX9_306 rfl (sK hs 51) rfl (Nat.le_of_ble_eq_true rfl) ⟨by decide, by decide⟩ ⟨(Nat.le_of_ble_eq_true rfl), (Nat.le_of_ble_eq_true rfl)⟩ (Nat.le_of_ble_eq_true rfl) (c_X9_laySteps n h hs e3) (fun r h' hq => ?_)
  obtain ⟨rfl, hq⟩ := hq
  replace hq := hq.symm
  subst hq
  have hs := s_X9_laySteps n h hs e3
  refine AW_go okX9_go 6 ?_
  refine And.intro (sK hs 51) ?_
  obtain ⟨r4, h5, e6, hf⟩ := am_b2_ok hf
  refine AW_callS (As := [.int a1, .int (Int32.ofInt 0), .int ((am_I h2 51 44) - (Int32.ofInt 1))]) (R' := rX9_within 0 0) (okX9_go.1 12 _ _ rfl) lkX9_within (Or.inl kX9_134) rfl (Nat.le_of_ble_eq_true rfl) ⟨by decide, by decide⟩ ⟨(Nat.le_of_ble_eq_true rfl), (Nat.le_of_ble_eq_true rfl)⟩ (Nat.le_of_ble_eq_true rfl) (c_X9_within a1 (Int32.ofInt 0) ((am_I h2 51 44) - (Int32.ofInt 1)) h2 hs e6) (fun r h' hq => ?_)
  obtain ⟨rfl, hq⟩ := hq
  replace hq := hq.symm
  subst hq
  have hs := s_X9_within a1 (Int32.ofInt 0) ((am_I h2 51 44) - (Int32.ofInt 1)) h2 hs e6
  refine AW_go okX9_go 1 ?_
  refine And.intro (fun c7 => ?_) (fun c7 => ?_)
  · rw [if_neg c7] at hf
    obtain ⟨b8, hf⟩ := am_bis hf
    refine AW_go okX9_go 7 ?_
    refine And.intro (sK hs 51) (Exists.intro _ (And.intro (sA hs 51 43) ?_))
    refine Exists.intro 96 (And.intro (sK hs 79) (And.intro (am_vp_ok b8) ?_))
    obtain ⟨r9, h10, e11, hf⟩ := am_b2_ok hf
    refine AW_callV (As := [.int (am_I h5 79 (Int32.toNatClampNeg a1))]) (R' := rX9_doStep 0 0) (T := TX9) (N := 58) (ci := 9) (okX9_go.1 30 _ _ rfl) lkX9_doStep kX9_309 rfl (sK hs 51) rfl (Nat.le_of_ble_eq_true rfl) ⟨by decide, by decide⟩ ⟨(Nat.le_of_ble_eq_true rfl), (Nat.le_of_ble_eq_true rfl)⟩ (Nat.le_of_ble_eq_true rfl) (c_X9_doStep n (am_I h5 79 (Int32.toNatClampNeg a1)) h5 hs e11) (fun r h' hq => ?_)
    obtain ⟨rfl, hq⟩ := hq
    replace hq := hq.symm
    subst hq
    have hs := s_X9_doStep n (am_I h5 79 (Int32.toNatClampNeg a1)) h5 hs e11
    refine AW_go okX9_go 8 ?_
    refine And.intro (sK hs 51) ?_
    refine And.intro (sK hs 51) ?_
    obtain ⟨rfl, rfl⟩ := am_i2 hf
    exact And.intro ⟨(Nat.le_of_ble_eq_true rfl), (Nat.le_of_ble_eq_true rfl)⟩ (And.intro (Or.inl rfl) ⟨rfl, rfl⟩)
  · rw [if_pos c7] at hf
    refine AW_go okX9_go 2 ?_
    obtain ⟨rfl, rfl⟩ := am_i2 hf
    exact And.intro ⟨(Nat.le_of_ble_eq_true rfl), (Nat.le_of_ble_eq_true rfl)⟩ (And.intro (Or.inl rfl) ⟨rfl, rfl⟩)
def g_X9_run : Nat → Nat → Int32 → Int32 → Int64 → Int32 → am_H → Option (Int32 × am_H)
  | 0, _, _, _, _, _, _ => none
  | n + 1, _, a1, a2, x3j, x5i, h => (if a2 ≤ x5i then some (x5i, h) else (if (am_I h 51 44) ≤ 0 then some (x5i, h) else bif am_nzJ (Int32.toInt64 (am_I h 51 44)) then (bif am_vp (Int64.toInt32 ((((((1103515245 : Int64) * x3j) + (12345 : Int64)) &&& (2147483647 : Int64)) / (65536 : Int64)) - (((((1103515245 : Int64) * x3j) + (12345 : Int64)) &&& (2147483647 : Int64)) / (65536 : Int64)) / (Int32.toInt64 (am_I h 51 44)) * (Int32.toInt64 (am_I h 51 44)))) 96 then (am_b2 (f_X9_doStep n (am_I h 79 (Int32.toNatClampNeg (Int64.toInt32 ((((((1103515245 : Int64) * x3j) + (12345 : Int64)) &&& (2147483647 : Int64)) / (65536 : Int64)) - (((((1103515245 : Int64) * x3j) + (12345 : Int64)) &&& (2147483647 : Int64)) / (65536 : Int64)) / (Int32.toInt64 (am_I h 51 44)) * (Int32.toInt64 (am_I h 51 44)))))) h) fun r5 h6 => (am_b2 (f_X9_laySteps n (am_sI h6 51 12 ((am_I h6 51 12) + (Int32.ofInt 1)))) fun r8 h9 => (g_X9_run n 0 a1 a2 ((((1103515245 : Int64) * x3j) + (12345 : Int64)) &&& (2147483647 : Int64)) (x5i + Int32.ofInt 1) h9))) else none) else none))
set_option maxRecDepth 100000 in
set_option maxHeartbeats 4000000 in
theorem m_X9_run (n : Nat) : (∀ (a1 : Int32) (a2 : Int32) (x3j : Int64) (x5i : Int32) (h : am_H) (v : Int32) (h' : am_H), am_stat h → g_X9_run n 0 a1 a2 x3j x5i h = some (v, h') → am_stat h') := by
  induction n with
  | zero => exact fun a1 a2 x3j x5i h v h' hs hf => (by cases hf)
  | succ n ih =>
    skip
    · intro a1 a2 x3j x5i h v h' hs hf
      have hf : ((if a2 ≤ x5i then some (x5i, h) else (if (am_I h 51 44) ≤ 0 then some (x5i, h) else bif am_nzJ (Int32.toInt64 (am_I h 51 44)) then (bif am_vp (Int64.toInt32 ((((((1103515245 : Int64) * x3j) + (12345 : Int64)) &&& (2147483647 : Int64)) / (65536 : Int64)) - (((((1103515245 : Int64) * x3j) + (12345 : Int64)) &&& (2147483647 : Int64)) / (65536 : Int64)) / (Int32.toInt64 (am_I h 51 44)) * (Int32.toInt64 (am_I h 51 44)))) 96 then (am_b2 (f_X9_doStep n (am_I h 79 (Int32.toNatClampNeg (Int64.toInt32 ((((((1103515245 : Int64) * x3j) + (12345 : Int64)) &&& (2147483647 : Int64)) / (65536 : Int64)) - (((((1103515245 : Int64) * x3j) + (12345 : Int64)) &&& (2147483647 : Int64)) / (65536 : Int64)) / (Int32.toInt64 (am_I h 51 44)) * (Int32.toInt64 (am_I h 51 44)))))) h) fun r5 h6 => (am_b2 (f_X9_laySteps n (am_sI h6 51 12 ((am_I h6 51 12) + (Int32.ofInt 1)))) fun r8 h9 => (g_X9_run n 0 a1 a2 ((((1103515245 : Int64) * x3j) + (12345 : Int64)) &&& (2147483647 : Int64)) (x5i + Int32.ofInt 1) h9))) else none) else none))) = some (v, h') := hf
      by_cases c1 : a2 ≤ x5i
      · rw [if_pos c1] at hf
        obtain ⟨rfl, rfl⟩ := am_i2 hf
        exact hs
      · rw [if_neg c1] at hf
        by_cases c2 : (am_I h 51 44) ≤ 0
        · rw [if_pos c2] at hf
          obtain ⟨rfl, rfl⟩ := am_i2 hf
          exact hs
        · rw [if_neg c2] at hf
          obtain ⟨z3, hf⟩ := am_bis hf
          obtain ⟨b4, hf⟩ := am_bis hf
          obtain ⟨r5, h6, e7, hf⟩ := am_b2_ok hf
          have hs := s_X9_doStep n (am_I h 79 (Int32.toNatClampNeg (Int64.toInt32 ((((((1103515245 : Int64) * x3j) + (12345 : Int64)) &&& (2147483647 : Int64)) / (65536 : Int64)) - (((((1103515245 : Int64) * x3j) + (12345 : Int64)) &&& (2147483647 : Int64)) / (65536 : Int64)) / (Int32.toInt64 (am_I h 51 44)) * (Int32.toInt64 (am_I h 51 44)))))) h hs e7
          obtain ⟨r8, h9, e10, hf⟩ := am_b2_ok hf
          have hs := s_X9_laySteps n (am_sI h6 51 12 ((am_I h6 51 12) + (Int32.ofInt 1))) hs e10
          exact ih a1 a2 ((((1103515245 : Int64) * x3j) + (12345 : Int64)) &&& (2147483647 : Int64)) (x5i + Int32.ofInt 1) h9 _ _ hs hf
set_option maxRecDepth 100000 in
set_option maxHeartbeats 4000000 in
theorem l_X9_run (n : Nat) : (∀ (a1 : Int32) (a2 : Int32) (x3j : Int64) (x5i : Int32) (h : am_H) (v : Int32) (h' : am_H), am_stat h → g_X9_run n 0 a1 a2 x3j x5i h = some (v, h') → AW mX9_run (rX9_run 0 0) (fun r h2 => r = some (.int v) ∧ h2 = h') 28 [(0, .ref 51), (1, .int a1), (2, .int a2), (3, .long x3j), (5, .int x5i)] [] h 0 0) := by
  induction n with
  | zero => exact fun a1 a2 x3j x5i h v h' hs hf => (by cases hf)
  | succ n ih =>
    skip
    · intro a1 a2 x3j x5i h v h' hs hf
      have hf : ((if a2 ≤ x5i then some (x5i, h) else (if (am_I h 51 44) ≤ 0 then some (x5i, h) else bif am_nzJ (Int32.toInt64 (am_I h 51 44)) then (bif am_vp (Int64.toInt32 ((((((1103515245 : Int64) * x3j) + (12345 : Int64)) &&& (2147483647 : Int64)) / (65536 : Int64)) - (((((1103515245 : Int64) * x3j) + (12345 : Int64)) &&& (2147483647 : Int64)) / (65536 : Int64)) / (Int32.toInt64 (am_I h 51 44)) * (Int32.toInt64 (am_I h 51 44)))) 96 then (am_b2 (f_X9_doStep n (am_I h 79 (Int32.toNatClampNeg (Int64.toInt32 ((((((1103515245 : Int64) * x3j) + (12345 : Int64)) &&& (2147483647 : Int64)) / (65536 : Int64)) - (((((1103515245 : Int64) * x3j) + (12345 : Int64)) &&& (2147483647 : Int64)) / (65536 : Int64)) / (Int32.toInt64 (am_I h 51 44)) * (Int32.toInt64 (am_I h 51 44)))))) h) fun r5 h6 => (am_b2 (f_X9_laySteps n (am_sI h6 51 12 ((am_I h6 51 12) + (Int32.ofInt 1)))) fun r8 h9 => (g_X9_run n 0 a1 a2 ((((1103515245 : Int64) * x3j) + (12345 : Int64)) &&& (2147483647 : Int64)) (x5i + Int32.ofInt 1) h9))) else none) else none))) = some (v, h') := hf
      refine AW_go okX9_run 3 ?_
      refine And.intro (fun c1 => ?_) (fun c1 => ?_)
      · rw [if_pos c1] at hf
        refine AW_go okX9_run 2 ?_
        obtain ⟨rfl, rfl⟩ := am_i2 hf
        exact And.intro ⟨(Nat.le_of_ble_eq_true rfl), (Nat.le_of_ble_eq_true rfl)⟩ (And.intro (Or.inl rfl) ⟨rfl, rfl⟩)
      · rw [if_neg c1] at hf
        refine AW_go okX9_run 3 ?_
        refine And.intro (sK hs 51) ?_
        refine And.intro (fun c2 => ?_) (fun c2 => ?_)
        · rw [if_pos c2] at hf
          refine AW_go okX9_run 2 ?_
          obtain ⟨rfl, rfl⟩ := am_i2 hf
          exact And.intro ⟨(Nat.le_of_ble_eq_true rfl), (Nat.le_of_ble_eq_true rfl)⟩ (And.intro (Or.inl rfl) ⟨rfl, rfl⟩)
        · rw [if_neg c2] at hf
          obtain ⟨z3, hf⟩ := am_bis hf
          obtain ⟨b4, hf⟩ := am_bis hf
          refine AW_go okX9_run 20 ?_
          refine And.intro (sK hs 51) (Exists.intro _ (And.intro (sA hs 51 43) ?_))
          refine And.intro (by decide) ?_
          refine And.intro (sK hs 51) ?_
          refine And.intro (am_nzJ_ok z3) ?_
          refine Exists.intro 96 (And.intro (sK hs 79) (And.intro (am_vp_ok b4) ?_))
          obtain ⟨r5, h6, e7, hf⟩ := am_b2_ok hf
          refine AW_callV (As := [.int (am_I h 79 (Int32.toNatClampNeg (Int64.toInt32 ((((((1103515245 : Int64) * x3j) + (12345 : Int64)) &&& (2147483647 : Int64)) / (65536 : Int64)) - (((((1103515245 : Int64) * x3j) + (12345 : Int64)) &&& (2147483647 : Int64)) / (65536 : Int64)) / (Int32.toInt64 (am_I h 51 44)) * (Int32.toInt64 (am_I h 51 44))))))]) (R' := rX9_doStep 0 0) (T := TX9) (N := 58) (ci := 9) (okX9_run.1 73 _ _ rfl) lkX9_doStep kX9_309 rfl (sK hs 51) rfl (Nat.le_of_ble_eq_true rfl) ⟨by decide, by decide⟩ ⟨(Nat.le_of_ble_eq_true rfl), (Nat.le_of_ble_eq_true rfl)⟩ (Nat.le_of_ble_eq_true rfl) (c_X9_doStep n (am_I h 79 (Int32.toNatClampNeg (Int64.toInt32 ((((((1103515245 : Int64) * x3j) + (12345 : Int64)) &&& (2147483647 : Int64)) / (65536 : Int64)) - (((((1103515245 : Int64) * x3j) + (12345 : Int64)) &&& (2147483647 : Int64)) / (65536 : Int64)) / (Int32.toInt64 (am_I h 51 44)) * (Int32.toInt64 (am_I h 51 44)))))) h hs e7) (fun r h' hq => ?_)
          obtain ⟨rfl, hq⟩ := hq
          replace hq := hq.symm
          subst hq
          have hs := s_X9_doStep n (am_I h 79 (Int32.toNatClampNeg (Int64.toInt32 ((((((1103515245 : Int64) * x3j) + (12345 : Int64)) &&& (2147483647 : Int64)) / (65536 : Int64)) - (((((1103515245 : Int64) * x3j) + (12345 : Int64)) &&& (2147483647 : Int64)) / (65536 : Int64)) / (Int32.toInt64 (am_I h 51 44)) * (Int32.toInt64 (am_I h 51 44)))))) h hs e7
          refine AW_go okX9_run 8 ?_
          refine And.intro (sK hs 51) ?_
          refine And.intro (sK hs 51) ?_
          obtain ⟨r8, h9, e10, hf⟩ := am_b2_ok hf
          refine AW_callV (As := []) (R' := rX9_laySteps 0 0) (T := TX9) (N := 58) (ci := 9) (okX9_run.1 90 _ _ rfl) lkX9_laySteps kX9_306 rfl (sK hs 51) rfl (Nat.le_of_ble_eq_true rfl) ⟨by decide, by decide⟩ ⟨(Nat.le_of_ble_eq_true rfl), (Nat.le_of_ble_eq_true rfl)⟩ (Nat.le_of_ble_eq_true rfl) (c_X9_laySteps n (am_sI h6 51 12 ((am_I h6 51 12) + (Int32.ofInt 1))) hs e10) (fun r h' hq => ?_)
          obtain ⟨rfl, hq⟩ := hq
          replace hq := hq.symm
          subst hq
          have hs := s_X9_laySteps n (am_sI h6 51 12 ((am_I h6 51 12) + (Int32.ofInt 1))) hs e10
          refine AW_go okX9_run 1 ?_
          refine AW_pick (lv' := [(0, .ref 51), (1, .int a1), (2, .int a2), (3, .long ((((1103515245 : Int64) * x3j) + (12345 : Int64)) &&& (2147483647 : Int64))), (5, .int (x5i + Int32.ofInt 1))]) [2, 3, 4, 1, 0] rfl ?_
          exact ih a1 a2 ((((1103515245 : Int64) * x3j) + (12345 : Int64)) &&& (2147483647 : Int64)) (x5i + Int32.ofInt 1) h9 _ _ hs hf
def f_X9_run (n : Nat) (a1 : Int32) (a2 : Int32) (h : am_H) : Option (Int32 × am_H) := (if a1 < 0 then some ((Int32.ofInt (-102)), h) else am_b2 (f_X9_within a2 (Int32.ofInt 1) (Int32.ofInt 200) h) fun r2 h3 => ((if r2 = 0 then some ((Int32.ofInt (-102)), h3) else am_b2 (f_X9_laySteps n h3) fun r6 h7 => (g_X9_run n 0 a1 a2 (Int32.toInt64 a1) (Int32.ofInt 0) h7))))
set_option maxRecDepth 100000 in
theorem s_X9_run (n : Nat) (a1 : Int32) (a2 : Int32) (h : am_H) (hs : am_stat h) {v : Int32} {h' : am_H} (hf : f_X9_run n a1 a2 h = some (v, h')) : am_stat h' := by
  unfold f_X9_run at hf
  by_cases c1 : a1 < 0
  · rw [if_pos c1] at hf
    obtain ⟨rfl, rfl⟩ := am_i2 hf
    exact hs
  · rw [if_neg c1] at hf
    obtain ⟨r2, h3, e4, hf⟩ := am_b2_ok hf
    have hs := s_X9_within a2 (Int32.ofInt 1) (Int32.ofInt 200) h hs e4
    by_cases c5 : r2 = 0
    · rw [if_pos c5] at hf
      obtain ⟨rfl, rfl⟩ := am_i2 hf
      exact hs
    · rw [if_neg c5] at hf
      obtain ⟨r6, h7, e8, hf⟩ := am_b2_ok hf
      have hs := s_X9_laySteps n h3 hs e8
      exact (m_X9_run n) a1 a2 (Int32.toInt64 a1) (Int32.ofInt 0) h7 _ _ hs hf
set_option maxRecDepth 100000 in
theorem c_X9_run (n : Nat) (a1 : Int32) (a2 : Int32) (h : am_H) (hs : am_stat h) {v : Int32} {h' : am_H} (hf : f_X9_run n a1 a2 h = some (v, h')) : AMet mX9_run (rX9_run 0 0) (fun r h2 => r = some (.int v) ∧ h2 = h') [.ref 51, .int a1, .int a2] h := by
  unfold f_X9_run at hf
  refine AW_go okX9_run 2 ?_
  refine And.intro (fun c1 => ?_) (fun c1 => ?_)
  · rw [if_pos c1] at hf
    refine AW_go okX9_run 2 ?_
    obtain ⟨rfl, rfl⟩ := am_i2 hf
    exact And.intro ⟨(Nat.le_of_ble_eq_true rfl), (Nat.le_of_ble_eq_true rfl)⟩ (And.intro (Or.inl rfl) ⟨rfl, rfl⟩)
  · rw [if_neg c1] at hf
    refine AW_go okX9_run 3 ?_
    obtain ⟨r2, h3, e4, hf⟩ := am_b2_ok hf
    refine AW_callS (As := [.int a2, .int (Int32.ofInt 1), .int (Int32.ofInt 200)]) (R' := rX9_within 0 0) (okX9_run.1 9 _ _ rfl) lkX9_within (Or.inl kX9_134) rfl (Nat.le_of_ble_eq_true rfl) ⟨by decide, by decide⟩ ⟨(Nat.le_of_ble_eq_true rfl), (Nat.le_of_ble_eq_true rfl)⟩ (Nat.le_of_ble_eq_true rfl) (c_X9_within a2 (Int32.ofInt 1) (Int32.ofInt 200) h hs e4) (fun r h' hq => ?_)
    obtain ⟨rfl, hq⟩ := hq
    replace hq := hq.symm
    subst hq
    have hs := s_X9_within a2 (Int32.ofInt 1) (Int32.ofInt 200) h hs e4
    refine AW_go okX9_run 1 ?_
    refine And.intro (fun c5 => ?_) (fun c5 => ?_)
    · rw [if_neg c5] at hf
      refine AW_go okX9_run 6 ?_
      obtain ⟨r6, h7, e8, hf⟩ := am_b2_ok hf
      refine AW_callV (As := []) (R' := rX9_laySteps 0 0) (T := TX9) (N := 58) (ci := 9) (okX9_run.1 25 _ _ rfl) lkX9_laySteps kX9_306 rfl (sK hs 51) rfl (Nat.le_of_ble_eq_true rfl) ⟨by decide, by decide⟩ ⟨(Nat.le_of_ble_eq_true rfl), (Nat.le_of_ble_eq_true rfl)⟩ (Nat.le_of_ble_eq_true rfl) (c_X9_laySteps n h3 hs e8) (fun r h' hq => ?_)
      obtain ⟨rfl, hq⟩ := hq
      replace hq := hq.symm
      subst hq
      have hs := s_X9_laySteps n h3 hs e8
      refine AW_pick (lv' := [(0, .ref 51), (1, .int a1), (2, .int a2), (3, .long (Int32.toInt64 a1)), (5, .int (Int32.ofInt 0))]) [2, 3, 4, 1, 0] rfl ?_
      exact (l_X9_run n) a1 a2 (Int32.toInt64 a1) (Int32.ofInt 0) h7 _ _ hs hf
    · rw [if_pos c5] at hf
      refine AW_go okX9_run 2 ?_
      obtain ⟨rfl, rfl⟩ := am_i2 hf
      exact And.intro ⟨(Nat.le_of_ble_eq_true rfl), (Nat.le_of_ble_eq_true rfl)⟩ (And.intro (Or.inl rfl) ⟨rfl, rfl⟩)
def f_X9_isSo (n : Nat) (a1 : Int32) (h : am_H) : Option (Int32 × am_H) := am_b2 (f_X9_laySteps n h) fun r1 h2 => ((if a1 = Int32.ofInt 0 then am_b2 ((if (am_I h2 51 44) = 0 then am_b2 (f_X9_allAtEnds n h2) fun r9 h10 => ((if r9 = 0 then some ((Int32.ofInt 1), h10) else some ((Int32.ofInt 0), h10))) else some ((Int32.ofInt 0), h2))) fun y5 h6 => (bif am_b01 y5 then (some (y5, h6)) else none) else (if a1 = Int32.ofInt 1 then am_b2 ((if (am_I h2 51 44) = 0 then am_b2 (f_X9_allAtEnds n h2) fun r69 h70 => ((if r69 = 0 then some ((Int32.ofInt 0), h70) else am_b2 (f_X9_postsEmpty n h70) fun r73 h74 => ((if r73 = 0 then some ((Int32.ofInt 1), h74) else some ((Int32.ofInt 0), h74))))) else some ((Int32.ofInt 0), h2))) fun y65 h66 => (bif am_b01 y65 then (some (y65, h66)) else none) else (if a1 = Int32.ofInt 2 then am_b2 (f_X9_isWrong n (Int32.ofInt 0) h2) fun r129 h130 => (am_b2 ((if r129 = 0 then am_b2 (f_X9_isWrong n (Int32.ofInt 1) h130) fun r136 h137 => ((if r136 = 0 then am_b2 (f_X9_isWrong n (Int32.ofInt 2) h137) fun r140 h141 => ((if r140 = 0 then some ((Int32.ofInt 0), h141) else some ((Int32.ofInt 1), h141))) else some ((Int32.ofInt 1), h137))) else some ((Int32.ofInt 1), h130))) fun y132 h133 => (bif am_b01 y132 then (some (y132, h133)) else none)) else am_b2 (f_X9_allAtEnds n h2) fun r195 h196 => (am_b2 ((if r195 = 0 then some ((Int32.ofInt 0), h196) else am_b2 (f_X9_postsEmpty n h196) fun r202 h203 => ((if r202 = 0 then some ((Int32.ofInt 0), h203) else some ((Int32.ofInt 1), h203))))) fun y198 h199 => (bif am_b01 y198 then (some (y198, h199)) else none))))))
set_option maxRecDepth 100000 in
theorem s_X9_isSo (n : Nat) (a1 : Int32) (h : am_H) (hs : am_stat h) {v : Int32} {h' : am_H} (hf : f_X9_isSo n a1 h = some (v, h')) : am_stat h' := by
  unfold f_X9_isSo at hf
  obtain ⟨r1, h2, e3, hf⟩ := am_b2_ok hf
  have hs := s_X9_laySteps n h hs e3
  by_cases c4 : a1 = Int32.ofInt 0
  · rw [if_pos c4] at hf
    obtain ⟨y5, h6, j7, hf⟩ := am_b2_ok hf
    have hs0 := hs
    have hs : am_stat h6 := by
      have hs := hs0
      by_cases c8 : (am_I h2 51 44) = 0
      · rw [if_pos c8] at j7
        obtain ⟨r9, h10, e11, j7⟩ := am_b2_ok j7
        have hs := s_X9_allAtEnds n h2 hs e11
        by_cases c12 : r9 = 0
        · rw [if_pos c12] at j7
          obtain ⟨rfl, rfl⟩ := am_i2 j7
          exact hs
        · rw [if_neg c12] at j7
          obtain ⟨rfl, rfl⟩ := am_i2 j7
          exact hs
      · rw [if_neg c8] at j7
        obtain ⟨rfl, rfl⟩ := am_i2 j7
        exact hs
    obtain ⟨b63, hf⟩ := am_bis hf
    obtain ⟨rfl, rfl⟩ := am_i2 hf
    exact hs
  rw [if_neg c4] at hf
  by_cases c64 : a1 = Int32.ofInt 1
  · rw [if_pos c64] at hf
    obtain ⟨y65, h66, j67, hf⟩ := am_b2_ok hf
    have hs0 := hs
    have hs : am_stat h66 := by
      have hs := hs0
      by_cases c68 : (am_I h2 51 44) = 0
      · rw [if_pos c68] at j67
        obtain ⟨r69, h70, e71, j67⟩ := am_b2_ok j67
        have hs := s_X9_allAtEnds n h2 hs e71
        by_cases c72 : r69 = 0
        · rw [if_pos c72] at j67
          obtain ⟨rfl, rfl⟩ := am_i2 j67
          exact hs
        · rw [if_neg c72] at j67
          obtain ⟨r73, h74, e75, j67⟩ := am_b2_ok j67
          have hs := s_X9_postsEmpty n h70 hs e75
          by_cases c76 : r73 = 0
          · rw [if_pos c76] at j67
            obtain ⟨rfl, rfl⟩ := am_i2 j67
            exact hs
          · rw [if_neg c76] at j67
            obtain ⟨rfl, rfl⟩ := am_i2 j67
            exact hs
      · rw [if_neg c68] at j67
        obtain ⟨rfl, rfl⟩ := am_i2 j67
        exact hs
    obtain ⟨b127, hf⟩ := am_bis hf
    obtain ⟨rfl, rfl⟩ := am_i2 hf
    exact hs
  rw [if_neg c64] at hf
  by_cases c128 : a1 = Int32.ofInt 2
  · rw [if_pos c128] at hf
    obtain ⟨r129, h130, e131, hf⟩ := am_b2_ok hf
    have hs := s_X9_isWrong n (Int32.ofInt 0) h2 hs e131
    obtain ⟨y132, h133, j134, hf⟩ := am_b2_ok hf
    have hs0 := hs
    have hs : am_stat h133 := by
      have hs := hs0
      by_cases c135 : r129 = 0
      · rw [if_pos c135] at j134
        obtain ⟨r136, h137, e138, j134⟩ := am_b2_ok j134
        have hs := s_X9_isWrong n (Int32.ofInt 1) h130 hs e138
        by_cases c139 : r136 = 0
        · rw [if_pos c139] at j134
          obtain ⟨r140, h141, e142, j134⟩ := am_b2_ok j134
          have hs := s_X9_isWrong n (Int32.ofInt 2) h137 hs e142
          by_cases c143 : r140 = 0
          · rw [if_pos c143] at j134
            obtain ⟨rfl, rfl⟩ := am_i2 j134
            exact hs
          · rw [if_neg c143] at j134
            obtain ⟨rfl, rfl⟩ := am_i2 j134
            exact hs
        · rw [if_neg c139] at j134
          obtain ⟨rfl, rfl⟩ := am_i2 j134
          exact hs
      · rw [if_neg c135] at j134
        obtain ⟨rfl, rfl⟩ := am_i2 j134
        exact hs
    obtain ⟨b194, hf⟩ := am_bis hf
    obtain ⟨rfl, rfl⟩ := am_i2 hf
    exact hs
  rw [if_neg c128] at hf
  obtain ⟨r195, h196, e197, hf⟩ := am_b2_ok hf
  have hs := s_X9_allAtEnds n h2 hs e197
  obtain ⟨y198, h199, j200, hf⟩ := am_b2_ok hf
  have hs0 := hs
  have hs : am_stat h199 := by
    have hs := hs0
    by_cases c201 : r195 = 0
    · rw [if_pos c201] at j200
      obtain ⟨rfl, rfl⟩ := am_i2 j200
      exact hs
    · rw [if_neg c201] at j200
      obtain ⟨r202, h203, e204, j200⟩ := am_b2_ok j200
      have hs := s_X9_postsEmpty n h196 hs e204
      by_cases c205 : r202 = 0
      · rw [if_pos c205] at j200
        obtain ⟨rfl, rfl⟩ := am_i2 j200
        exact hs
      · rw [if_neg c205] at j200
        obtain ⟨rfl, rfl⟩ := am_i2 j200
        exact hs
  obtain ⟨b256, hf⟩ := am_bis hf
  obtain ⟨rfl, rfl⟩ := am_i2 hf
  exact hs
set_option maxRecDepth 100000 in
theorem c_X9_isSo (n : Nat) (a1 : Int32) (h : am_H) (hs : am_stat h) {v : Int32} {h' : am_H} (hf : f_X9_isSo n a1 h = some (v, h')) : AMet mX9_isSo (rX9_isSo 0 0) (fun r h2 => r = some (.int v) ∧ h2 = h') [.ref 51, .int a1] h := by
  unfold f_X9_isSo at hf
  refine AW_go okX9_isSo 1 ?_
  obtain ⟨r1, h2, e3, hf⟩ := am_b2_ok hf
  refine AW_callV (As := []) (R' := rX9_laySteps 0 0) (T := TX9) (N := 58) (ci := 9) (okX9_isSo.1 1 _ _ rfl) lkX9_laySteps kX9_306 rfl (sK hs 51) rfl (Nat.le_of_ble_eq_true rfl) ⟨by decide, by decide⟩ ⟨(Nat.le_of_ble_eq_true rfl), (Nat.le_of_ble_eq_true rfl)⟩ (Nat.le_of_ble_eq_true rfl) (c_X9_laySteps n h hs e3) (fun r h' hq => ?_)
  obtain ⟨rfl, hq⟩ := hq
  replace hq := hq.symm
  subst hq
  have hs := s_X9_laySteps n h hs e3
  refine AW_go okX9_isSo 2 ?_
  by_cases c4 : a1 = Int32.ofInt 0
  · rw [if_pos c4] at hf
    refine And.intro (fun q => absurd q (by rw [c4]; decide)) (fun _ _ => Exists.intro 27 (Exists.intro 32 (And.intro (by rw [c4]; rfl) (And.intro rfl ?_))))
    refine AW_go okX9_isSo 2 ?_
    refine And.intro (sK hs 51) ?_
    obtain ⟨y5, h6, j7, hf⟩ := am_b2_ok hf
    have hs0 := hs
    have hs : am_stat h6 := by
      have hs := hs0
      by_cases c8 : (am_I h2 51 44) = 0
      · rw [if_pos c8] at j7
        obtain ⟨r9, h10, e11, j7⟩ := am_b2_ok j7
        have hs := s_X9_allAtEnds n h2 hs e11
        by_cases c12 : r9 = 0
        · rw [if_pos c12] at j7
          obtain ⟨rfl, rfl⟩ := am_i2 j7
          exact hs
        · rw [if_neg c12] at j7
          obtain ⟨rfl, rfl⟩ := am_i2 j7
          exact hs
      · rw [if_neg c8] at j7
        obtain ⟨rfl, rfl⟩ := am_i2 j7
        exact hs
    refine am_cut (P := AW mX9_isSo (rX9_isSo 0 0) (fun r h2 => r = some (.int v) ∧ h2 = h') 51 [(0, .ref 51), (1, .int a1)] [.int y5] h6 0 0) (fun hJ7 => ?_) ?_
    · have hs := hs0
      refine AW_go okX9_isSo 1 ?_
      refine And.intro (fun c8 => ?_) (fun c8 => ?_)
      · rw [if_neg c8] at j7
        refine AW_go okX9_isSo 1 ?_
        obtain ⟨rfl, rfl⟩ := am_i2 j7
        exact AW_pick [0, 1] rfl hJ7
      · rw [if_pos c8] at j7
        refine AW_go okX9_isSo 1 ?_
        obtain ⟨r9, h10, e11, j7⟩ := am_b2_ok j7
        refine AW_callV (As := []) (R' := rX9_allAtEnds 0 0) (T := TX9) (N := 58) (ci := 9) (okX9_isSo.1 40 _ _ rfl) lkX9_allAtEnds kX9_326 rfl (sK hs 51) rfl (Nat.le_of_ble_eq_true rfl) ⟨by decide, by decide⟩ ⟨(Nat.le_of_ble_eq_true rfl), (Nat.le_of_ble_eq_true rfl)⟩ (Nat.le_of_ble_eq_true rfl) (c_X9_allAtEnds n h2 hs e11) (fun r h' hq => ?_)
        obtain ⟨rfl, hq⟩ := hq
        replace hq := hq.symm
        subst hq
        have hs := s_X9_allAtEnds n h2 hs e11
        refine AW_go okX9_isSo 1 ?_
        refine And.intro (fun c12 => ?_) (fun c12 => ?_)
        · rw [if_neg c12] at j7
          refine AW_go okX9_isSo 1 ?_
          obtain ⟨rfl, rfl⟩ := am_i2 j7
          exact AW_pick [0, 1] rfl hJ7
        · rw [if_pos c12] at j7
          refine AW_go okX9_isSo 2 ?_
          obtain ⟨rfl, rfl⟩ := am_i2 j7
          exact AW_pick [0, 1] rfl hJ7
    obtain ⟨b63, hf⟩ := am_bis hf
    refine AW_go okX9_isSo 1 ?_
    obtain ⟨rfl, rfl⟩ := am_i2 hf
    exact And.intro ⟨(Nat.le_of_ble_eq_true rfl), (Nat.le_of_ble_eq_true rfl)⟩ (And.intro (Or.inr ⟨rfl, am_b01_ok b63⟩) ⟨rfl, rfl⟩)
  rw [if_neg c4] at hf
  by_cases c64 : a1 = Int32.ofInt 1
  · rw [if_pos c64] at hf
    refine And.intro (fun q => absurd q (by rw [c64]; decide)) (fun _ _ => Exists.intro 47 (Exists.intro 52 (And.intro (by rw [c64]; rfl) (And.intro rfl ?_))))
    refine AW_go okX9_isSo 2 ?_
    refine And.intro (sK hs 51) ?_
    obtain ⟨y65, h66, j67, hf⟩ := am_b2_ok hf
    have hs0 := hs
    have hs : am_stat h66 := by
      have hs := hs0
      by_cases c68 : (am_I h2 51 44) = 0
      · rw [if_pos c68] at j67
        obtain ⟨r69, h70, e71, j67⟩ := am_b2_ok j67
        have hs := s_X9_allAtEnds n h2 hs e71
        by_cases c72 : r69 = 0
        · rw [if_pos c72] at j67
          obtain ⟨rfl, rfl⟩ := am_i2 j67
          exact hs
        · rw [if_neg c72] at j67
          obtain ⟨r73, h74, e75, j67⟩ := am_b2_ok j67
          have hs := s_X9_postsEmpty n h70 hs e75
          by_cases c76 : r73 = 0
          · rw [if_pos c76] at j67
            obtain ⟨rfl, rfl⟩ := am_i2 j67
            exact hs
          · rw [if_neg c76] at j67
            obtain ⟨rfl, rfl⟩ := am_i2 j67
            exact hs
      · rw [if_neg c68] at j67
        obtain ⟨rfl, rfl⟩ := am_i2 j67
        exact hs
    refine am_cut (P := AW mX9_isSo (rX9_isSo 0 0) (fun r h2 => r = some (.int v) ∧ h2 = h') 78 [(0, .ref 51), (1, .int a1)] [.int y65] h66 0 0) (fun hJ67 => ?_) ?_
    · have hs := hs0
      refine AW_go okX9_isSo 1 ?_
      refine And.intro (fun c68 => ?_) (fun c68 => ?_)
      · rw [if_neg c68] at j67
        refine AW_go okX9_isSo 1 ?_
        obtain ⟨rfl, rfl⟩ := am_i2 j67
        exact AW_pick [0, 1] rfl hJ67
      · rw [if_pos c68] at j67
        refine AW_go okX9_isSo 1 ?_
        obtain ⟨r69, h70, e71, j67⟩ := am_b2_ok j67
        refine AW_callV (As := []) (R' := rX9_allAtEnds 0 0) (T := TX9) (N := 58) (ci := 9) (okX9_isSo.1 60 _ _ rfl) lkX9_allAtEnds kX9_326 rfl (sK hs 51) rfl (Nat.le_of_ble_eq_true rfl) ⟨by decide, by decide⟩ ⟨(Nat.le_of_ble_eq_true rfl), (Nat.le_of_ble_eq_true rfl)⟩ (Nat.le_of_ble_eq_true rfl) (c_X9_allAtEnds n h2 hs e71) (fun r h' hq => ?_)
        obtain ⟨rfl, hq⟩ := hq
        replace hq := hq.symm
        subst hq
        have hs := s_X9_allAtEnds n h2 hs e71
        refine AW_go okX9_isSo 1 ?_
        refine And.intro (fun c72 => ?_) (fun c72 => ?_)
        · rw [if_pos c72] at j67
          refine AW_go okX9_isSo 1 ?_
          obtain ⟨rfl, rfl⟩ := am_i2 j67
          exact AW_pick [0, 1] rfl hJ67
        · rw [if_neg c72] at j67
          refine AW_go okX9_isSo 1 ?_
          obtain ⟨r73, h74, e75, j67⟩ := am_b2_ok j67
          refine AW_callV (As := []) (R' := rX9_postsEmpty 0 0) (T := TX9) (N := 58) (ci := 9) (okX9_isSo.1 67 _ _ rfl) lkX9_postsEmpty kX9_330 rfl (sK hs 51) rfl (Nat.le_of_ble_eq_true rfl) ⟨by decide, by decide⟩ ⟨(Nat.le_of_ble_eq_true rfl), (Nat.le_of_ble_eq_true rfl)⟩ (Nat.le_of_ble_eq_true rfl) (c_X9_postsEmpty n h70 hs e75) (fun r h' hq => ?_)
          obtain ⟨rfl, hq⟩ := hq
          replace hq := hq.symm
          subst hq
          have hs := s_X9_postsEmpty n h70 hs e75
          refine AW_go okX9_isSo 1 ?_
          refine And.intro (fun c76 => ?_) (fun c76 => ?_)
          · rw [if_neg c76] at j67
            refine AW_go okX9_isSo 1 ?_
            obtain ⟨rfl, rfl⟩ := am_i2 j67
            exact AW_pick [0, 1] rfl hJ67
          · rw [if_pos c76] at j67
            refine AW_go okX9_isSo 2 ?_
            obtain ⟨rfl, rfl⟩ := am_i2 j67
            exact AW_pick [0, 1] rfl hJ67
    obtain ⟨b127, hf⟩ := am_bis hf
    refine AW_go okX9_isSo 1 ?_
    obtain ⟨rfl, rfl⟩ := am_i2 hf
    exact And.intro ⟨(Nat.le_of_ble_eq_true rfl), (Nat.le_of_ble_eq_true rfl)⟩ (And.intro (Or.inr ⟨rfl, am_b01_ok b127⟩) ⟨rfl, rfl⟩)
  rw [if_neg c64] at hf
  by_cases c128 : a1 = Int32.ofInt 2
  · rw [if_pos c128] at hf
    refine And.intro (fun q => absurd q (by rw [c128]; decide)) (fun _ _ => Exists.intro 74 (Exists.intro 79 (And.intro (by rw [c128]; rfl) (And.intro rfl ?_))))
    refine AW_go okX9_isSo 2 ?_
    obtain ⟨r129, h130, e131, hf⟩ := am_b2_ok hf
    refine AW_callV (As := [.int (Int32.ofInt 0)]) (R' := rX9_isWrong 0 0) (T := TX9) (N := 58) (ci := 9) (okX9_isSo.1 81 _ _ rfl) lkX9_isWrong kX9_333 rfl (sK hs 51) rfl (Nat.le_of_ble_eq_true rfl) ⟨by decide, by decide⟩ ⟨(Nat.le_of_ble_eq_true rfl), (Nat.le_of_ble_eq_true rfl)⟩ (Nat.le_of_ble_eq_true rfl) (c_X9_isWrong n (Int32.ofInt 0) h2 hs e131) (fun r h' hq => ?_)
    obtain ⟨rfl, hq⟩ := hq
    replace hq := hq.symm
    subst hq
    have hs := s_X9_isWrong n (Int32.ofInt 0) h2 hs e131
    obtain ⟨y132, h133, j134, hf⟩ := am_b2_ok hf
    have hs0 := hs
    have hs : am_stat h133 := by
      have hs := hs0
      by_cases c135 : r129 = 0
      · rw [if_pos c135] at j134
        obtain ⟨r136, h137, e138, j134⟩ := am_b2_ok j134
        have hs := s_X9_isWrong n (Int32.ofInt 1) h130 hs e138
        by_cases c139 : r136 = 0
        · rw [if_pos c139] at j134
          obtain ⟨r140, h141, e142, j134⟩ := am_b2_ok j134
          have hs := s_X9_isWrong n (Int32.ofInt 2) h137 hs e142
          by_cases c143 : r140 = 0
          · rw [if_pos c143] at j134
            obtain ⟨rfl, rfl⟩ := am_i2 j134
            exact hs
          · rw [if_neg c143] at j134
            obtain ⟨rfl, rfl⟩ := am_i2 j134
            exact hs
        · rw [if_neg c139] at j134
          obtain ⟨rfl, rfl⟩ := am_i2 j134
          exact hs
      · rw [if_neg c135] at j134
        obtain ⟨rfl, rfl⟩ := am_i2 j134
        exact hs
    refine am_cut (P := AW mX9_isSo (rX9_isSo 0 0) (fun r h2 => r = some (.int v) ∧ h2 = h') 108 [(0, .ref 51), (1, .int a1)] [.int y132] h133 0 0) (fun hJ134 => ?_) ?_
    · have hs := hs0
      refine AW_go okX9_isSo 1 ?_
      refine And.intro (fun c135 => ?_) (fun c135 => ?_)
      · rw [if_neg c135] at j134
        refine AW_go okX9_isSo 2 ?_
        obtain ⟨rfl, rfl⟩ := am_i2 j134
        exact AW_pick [0, 1] rfl hJ134
      · rw [if_pos c135] at j134
        refine AW_go okX9_isSo 2 ?_
        obtain ⟨r136, h137, e138, j134⟩ := am_b2_ok j134
        refine AW_callV (As := [.int (Int32.ofInt 1)]) (R' := rX9_isWrong 0 0) (T := TX9) (N := 58) (ci := 9) (okX9_isSo.1 89 _ _ rfl) lkX9_isWrong kX9_333 rfl (sK hs 51) rfl (Nat.le_of_ble_eq_true rfl) ⟨by decide, by decide⟩ ⟨(Nat.le_of_ble_eq_true rfl), (Nat.le_of_ble_eq_true rfl)⟩ (Nat.le_of_ble_eq_true rfl) (c_X9_isWrong n (Int32.ofInt 1) h130 hs e138) (fun r h' hq => ?_)
        obtain ⟨rfl, hq⟩ := hq
        replace hq := hq.symm
        subst hq
        have hs := s_X9_isWrong n (Int32.ofInt 1) h130 hs e138
        refine AW_go okX9_isSo 1 ?_
        refine And.intro (fun c139 => ?_) (fun c139 => ?_)
        · rw [if_neg c139] at j134
          refine AW_go okX9_isSo 2 ?_
          obtain ⟨rfl, rfl⟩ := am_i2 j134
          exact AW_pick [0, 1] rfl hJ134
        · rw [if_pos c139] at j134
          refine AW_go okX9_isSo 2 ?_
          obtain ⟨r140, h141, e142, j134⟩ := am_b2_ok j134
          refine AW_callV (As := [.int (Int32.ofInt 2)]) (R' := rX9_isWrong 0 0) (T := TX9) (N := 58) (ci := 9) (okX9_isSo.1 97 _ _ rfl) lkX9_isWrong kX9_333 rfl (sK hs 51) rfl (Nat.le_of_ble_eq_true rfl) ⟨by decide, by decide⟩ ⟨(Nat.le_of_ble_eq_true rfl), (Nat.le_of_ble_eq_true rfl)⟩ (Nat.le_of_ble_eq_true rfl) (c_X9_isWrong n (Int32.ofInt 2) h137 hs e142) (fun r h' hq => ?_)
          obtain ⟨rfl, hq⟩ := hq
          replace hq := hq.symm
          subst hq
          have hs := s_X9_isWrong n (Int32.ofInt 2) h137 hs e142
          refine AW_go okX9_isSo 1 ?_
          refine And.intro (fun c143 => ?_) (fun c143 => ?_)
          · rw [if_pos c143] at j134
            refine AW_go okX9_isSo 1 ?_
            obtain ⟨rfl, rfl⟩ := am_i2 j134
            exact AW_pick [0, 1] rfl hJ134
          · rw [if_neg c143] at j134
            refine AW_go okX9_isSo 2 ?_
            obtain ⟨rfl, rfl⟩ := am_i2 j134
            exact AW_pick [0, 1] rfl hJ134
    obtain ⟨b194, hf⟩ := am_bis hf
    refine AW_go okX9_isSo 1 ?_
    obtain ⟨rfl, rfl⟩ := am_i2 hf
    exact And.intro ⟨(Nat.le_of_ble_eq_true rfl), (Nat.le_of_ble_eq_true rfl)⟩ (And.intro (Or.inr ⟨rfl, am_b01_ok b194⟩) ⟨rfl, rfl⟩)
  rw [if_neg c128] at hf
  refine And.intro (fun _ => Exists.intro 109 (And.intro rfl ?_)) (fun q1 q2 => absurd (am_sw3 q1 q2 c4 c64 c128) id)
  refine AW_go okX9_isSo 1 ?_
  obtain ⟨r195, h196, e197, hf⟩ := am_b2_ok hf
  refine AW_callV (As := []) (R' := rX9_allAtEnds 0 0) (T := TX9) (N := 58) (ci := 9) (okX9_isSo.1 110 _ _ rfl) lkX9_allAtEnds kX9_326 rfl (sK hs 51) rfl (Nat.le_of_ble_eq_true rfl) ⟨by decide, by decide⟩ ⟨(Nat.le_of_ble_eq_true rfl), (Nat.le_of_ble_eq_true rfl)⟩ (Nat.le_of_ble_eq_true rfl) (c_X9_allAtEnds n h2 hs e197) (fun r h' hq => ?_)
  obtain ⟨rfl, hq⟩ := hq
  replace hq := hq.symm
  subst hq
  have hs := s_X9_allAtEnds n h2 hs e197
  obtain ⟨y198, h199, j200, hf⟩ := am_b2_ok hf
  have hs0 := hs
  have hs : am_stat h199 := by
    have hs := hs0
    by_cases c201 : r195 = 0
    · rw [if_pos c201] at j200
      obtain ⟨rfl, rfl⟩ := am_i2 j200
      exact hs
    · rw [if_neg c201] at j200
      obtain ⟨r202, h203, e204, j200⟩ := am_b2_ok j200
      have hs := s_X9_postsEmpty n h196 hs e204
      by_cases c205 : r202 = 0
      · rw [if_pos c205] at j200
        obtain ⟨rfl, rfl⟩ := am_i2 j200
        exact hs
      · rw [if_neg c205] at j200
        obtain ⟨rfl, rfl⟩ := am_i2 j200
        exact hs
  refine am_cut (P := AW mX9_isSo (rX9_isSo 0 0) (fun r h2 => r = some (.int v) ∧ h2 = h') 128 [(0, .ref 51), (1, .int a1)] [.int y198] h199 0 0) (fun hJ200 => ?_) ?_
  · have hs := hs0
    refine AW_go okX9_isSo 1 ?_
    refine And.intro (fun c201 => ?_) (fun c201 => ?_)
    · rw [if_pos c201] at j200
      refine AW_go okX9_isSo 1 ?_
      obtain ⟨rfl, rfl⟩ := am_i2 j200
      exact AW_pick [0, 1] rfl hJ200
    · rw [if_neg c201] at j200
      refine AW_go okX9_isSo 1 ?_
      obtain ⟨r202, h203, e204, j200⟩ := am_b2_ok j200
      refine AW_callV (As := []) (R' := rX9_postsEmpty 0 0) (T := TX9) (N := 58) (ci := 9) (okX9_isSo.1 117 _ _ rfl) lkX9_postsEmpty kX9_330 rfl (sK hs 51) rfl (Nat.le_of_ble_eq_true rfl) ⟨by decide, by decide⟩ ⟨(Nat.le_of_ble_eq_true rfl), (Nat.le_of_ble_eq_true rfl)⟩ (Nat.le_of_ble_eq_true rfl) (c_X9_postsEmpty n h196 hs e204) (fun r h' hq => ?_)
      obtain ⟨rfl, hq⟩ := hq
      replace hq := hq.symm
      subst hq
      have hs := s_X9_postsEmpty n h196 hs e204
      refine AW_go okX9_isSo 1 ?_
      refine And.intro (fun c205 => ?_) (fun c205 => ?_)
      · rw [if_pos c205] at j200
        refine AW_go okX9_isSo 1 ?_
        obtain ⟨rfl, rfl⟩ := am_i2 j200
        exact AW_pick [0, 1] rfl hJ200
      · rw [if_neg c205] at j200
        refine AW_go okX9_isSo 2 ?_
        obtain ⟨rfl, rfl⟩ := am_i2 j200
        exact AW_pick [0, 1] rfl hJ200
  obtain ⟨b256, hf⟩ := am_bis hf
  refine AW_go okX9_isSo 1 ?_
  obtain ⟨rfl, rfl⟩ := am_i2 hf
  exact And.intro ⟨(Nat.le_of_ble_eq_true rfl), (Nat.le_of_ble_eq_true rfl)⟩ (And.intro (Or.inr ⟨rfl, am_b01_ok b256⟩) ⟨rfl, rfl⟩)
