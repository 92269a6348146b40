def g_X7_list : Nat → Nat → Int64 → Int32 → Int32 → Int32 → am_H → Option (Int32 × am_H)
  | 0, _, _, _, _, _, _ => none
  | n + 1, tag, a1, x3i, x4i, x5i, h => bif Nat.beq tag 0 then ((if (Int32.ofInt 3) ≤ x3i then some ((am_I h 28 5), h) else am_b2 (f_X7_mayAt a1 x3i h) fun r2 h3 => (g_X7_list n 1 a1 x3i r2 (Int32.ofInt 1) h3))) else ((if (Int32.ofInt 15) < x5i then g_X7_list n 0 a1 (x3i + Int32.ofInt 1) 0 0 h else (if ((Int32.toUInt32 x4i >>> (Int32.toUInt32 x5i &&& Int32.toUInt32 31)).toInt32) = 0 then g_X7_list n 0 a1 (x3i + Int32.ofInt 1) 0 0 h else Option.bind ((if (((Int32.toUInt32 x4i >>> (Int32.toUInt32 x5i &&& Int32.toUInt32 31)).toInt32) &&& (Int32.ofInt 1)) = 0 then some h else am_b2 (f_X7_listAct a1 x3i x5i h) fun r6 h7 => (some h7))) fun h3 => (g_X7_list n 1 a1 x3i x4i (x5i + Int32.ofInt 1) h3))))
set_option maxRecDepth 100000 in
set_option maxHeartbeats 4000000 in
theorem m_X7_list (n : Nat) : (∀ (a1 : Int64) (x3i : Int32) (x4i : Int32) (x5i : Int32) (h : am_H) (v : Int32) (h' : am_H), am_stat h → g_X7_list n 0 a1 x3i x4i x5i h = some (v, h') → am_stat h') ∧ (∀ (a1 : Int64) (x3i : Int32) (x4i : Int32) (x5i : Int32) (h : am_H) (v : Int32) (h' : am_H), am_stat h → g_X7_list n 1 a1 x3i x4i x5i h = some (v, h') → am_stat h') := by
  induction n with
  | zero => exact ⟨fun a1 x3i x4i x5i h v h' hs hf => (by cases hf), fun a1 x3i x4i x5i h v h' hs hf => (by cases hf)⟩
  | succ n ih =>
    refine ⟨?_, ?_⟩
    · intro a1 x3i x4i x5i h v h' hs hf
      have hf : ((if (Int32.ofInt 3) ≤ x3i then some ((am_I h 28 5), h) else am_b2 (f_X7_mayAt a1 x3i h) fun r2 h3 => (g_X7_list n 1 a1 x3i r2 (Int32.ofInt 1) h3))) = some (v, h') := hf
      by_cases c1 : (Int32.ofInt 3) ≤ x3i
      · rw [if_pos c1] at hf
        obtain ⟨rfl, rfl⟩ := am_i2 hf
        exact hs
      · rw [if_neg c1] at hf
        obtain ⟨r2, h3, e4, hf⟩ := am_b2_ok hf
        have hs := s_X7_mayAt a1 x3i h hs e4
        exact ih.2 a1 x3i r2 (Int32.ofInt 1) h3 _ _ hs hf
    · intro a1 x3i x4i x5i h v h' hs hf
      have hf : ((if (Int32.ofInt 15) < x5i then g_X7_list n 0 a1 (x3i + Int32.ofInt 1) 0 0 h else (if ((Int32.toUInt32 x4i >>> (Int32.toUInt32 x5i &&& Int32.toUInt32 31)).toInt32) = 0 then g_X7_list n 0 a1 (x3i + Int32.ofInt 1) 0 0 h else Option.bind ((if (((Int32.toUInt32 x4i >>> (Int32.toUInt32 x5i &&& Int32.toUInt32 31)).toInt32) &&& (Int32.ofInt 1)) = 0 then some h else am_b2 (f_X7_listAct a1 x3i x5i h) fun r6 h7 => (some h7))) fun h3 => (g_X7_list n 1 a1 x3i x4i (x5i + Int32.ofInt 1) h3)))) = some (v, h') := hf
      by_cases c1 : (Int32.ofInt 15) < x5i
      · rw [if_pos c1] at hf
        exact ih.1 a1 (x3i + Int32.ofInt 1) 0 0 h _ _ hs hf
      · rw [if_neg c1] at hf
        by_cases c2 : ((Int32.toUInt32 x4i >>> (Int32.toUInt32 x5i &&& Int32.toUInt32 31)).toInt32) = 0
        · rw [if_pos c2] at hf
          exact ih.1 a1 (x3i + Int32.ofInt 1) 0 0 h _ _ hs hf
        · rw [if_neg c2] at hf
          obtain ⟨h3, j4, hf⟩ := am_bnd hf
          have hs0 := hs
          have hs : am_stat h3 := by
            have hs := hs0
            by_cases c5 : (((Int32.toUInt32 x4i >>> (Int32.toUInt32 x5i &&& Int32.toUInt32 31)).toInt32) &&& (Int32.ofInt 1)) = 0
            · rw [if_pos c5] at j4
              obtain rfl := am_i1 j4
              exact hs
            · rw [if_neg c5] at j4
              obtain ⟨r6, h7, e8, j4⟩ := am_b2_ok j4
              have hs := s_X7_listAct a1 x3i x5i h hs e8
              obtain rfl := am_i1 j4
              exact hs
          exact ih.2 a1 x3i x4i (x5i + Int32.ofInt 1) h3 _ _ hs hf
set_option maxRecDepth 100000 in
set_option maxHeartbeats 4000000 in
theorem l_X7_list (n : Nat) : (∀ (a1 : Int64) (x3i : Int32) (x4i : Int32) (x5i : Int32) (h : am_H) (v : Int32) (h' : am_H), am_stat h → g_X7_list n 0 a1 x3i x4i x5i h = some (v, h') → AW mX7_list (rX7_list 0 0) (fun r h2 => r = some (.int v) ∧ h2 = h') 7 [(0, .ref 28), (1, .long a1), (3, .int x3i)] [] h 0 0) ∧ (∀ (a1 : Int64) (x3i : Int32) (x4i : Int32) (x5i : Int32) (h : am_H) (v : Int32) (h' : am_H), am_stat h → g_X7_list n 1 a1 x3i x4i x5i h = some (v, h') → AW mX7_list (rX7_list 0 0) (fun r h2 => r = some (.int v) ∧ h2 = h') 23 [(0, .ref 28), (1, .long a1), (3, .int x3i), (4, .int x4i), (5, .int x5i)] [] h 0 0) := by
  induction n with
  | zero => exact ⟨fun a1 x3i x4i x5i h v h' hs hf => (by cases hf), fun a1 x3i x4i x5i h v h' hs hf => (by cases hf)⟩
  | succ n ih =>
    refine ⟨?_, ?_⟩
    · intro a1 x3i x4i x5i h v h' hs hf
      have hf : ((if (Int32.ofInt 3) ≤ x3i then some ((am_I h 28 5), h) else am_b2 (f_X7_mayAt a1 x3i h) fun r2 h3 => (g_X7_list n 1 a1 x3i r2 (Int32.ofInt 1) h3))) = some (v, h') := hf
      refine AW_go okX7_list 3 ?_
      refine And.intro (fun c1 => ?_) (fun c1 => ?_)
      · rw [if_pos c1] at hf
        refine AW_go okX7_list 3 ?_
        refine And.intro (sK hs 28) ?_
        obtain ⟨rfl, rfl⟩ := am_i2 hf
        exact And.intro ⟨(Nat.le_of_ble_eq_true rfl), (Nat.le_of_ble_eq_true rfl)⟩ (And.intro (Or.inl rfl) ⟨rfl, rfl⟩)
      · rw [if_neg c1] at hf
        refine AW_go okX7_list 3 ?_
        obtain ⟨r2, h3, e4, hf⟩ := am_b2_ok hf
        refine AW_callV (As := [.long a1, .int x3i]) (R' := rX7_mayAt 0 0) (T := TX7) (N := 10) (ci := 7) (okX7_list.1 15 _ _ rfl) lkX7_mayAt kX7_78 rfl (sK hs 28) rfl (Nat.le_of_ble_eq_true rfl) ⟨by decide, by decide⟩ ⟨(Nat.le_of_ble_eq_true rfl), (Nat.le_of_ble_eq_true rfl)⟩ (Nat.le_of_ble_eq_true rfl) (c_X7_mayAt a1 x3i h hs e4) (fun r h' hq => ?_)
        obtain ⟨rfl, hq⟩ := hq
        replace hq := hq.symm
        subst hq
        have hs := s_X7_mayAt a1 x3i h hs e4
        refine AW_go okX7_list 3 ?_
        refine AW_pick (lv' := [(0, .ref 28), (1, .long a1), (3, .int x3i), (4, .int r2), (5, .int (Int32.ofInt 1))]) [2, 3, 4, 1, 0] rfl ?_
        exact ih.2 a1 x3i r2 (Int32.ofInt 1) h3 _ _ hs hf
    · intro a1 x3i x4i x5i h v h' hs hf
      have hf : ((if (Int32.ofInt 15) < x5i then g_X7_list n 0 a1 (x3i + Int32.ofInt 1) 0 0 h else (if ((Int32.toUInt32 x4i >>> (Int32.toUInt32 x5i &&& Int32.toUInt32 31)).toInt32) = 0 then g_X7_list n 0 a1 (x3i + Int32.ofInt 1) 0 0 h else Option.bind ((if (((Int32.toUInt32 x4i >>> (Int32.toUInt32 x5i &&& Int32.toUInt32 31)).toInt32) &&& (Int32.ofInt 1)) = 0 then some h else am_b2 (f_X7_listAct a1 x3i x5i h) fun r6 h7 => (some h7))) fun h3 => (g_X7_list n 1 a1 x3i x4i (x5i + Int32.ofInt 1) h3)))) = some (v, h') := hf
      refine AW_go okX7_list 3 ?_
      refine And.intro (fun c1 => ?_) (fun c1 => ?_)
      · rw [if_pos c1] at hf
        refine AW_go okX7_list 2 ?_
        refine AW_pick (lv' := [(0, .ref 28), (1, .long a1), (3, .int (x3i + Int32.ofInt 1))]) [1, 2, 0] rfl ?_
        exact ih.1 a1 (x3i + Int32.ofInt 1) 0 0 h _ _ hs hf
      · rw [if_neg c1] at hf
        refine AW_go okX7_list 4 ?_
        refine And.intro (fun c2 => ?_) (fun c2 => ?_)
        · rw [if_pos c2] at hf
          refine AW_go okX7_list 2 ?_
          refine AW_pick (lv' := [(0, .ref 28), (1, .long a1), (3, .int (x3i + Int32.ofInt 1))]) [1, 2, 0] rfl ?_
          exact ih.1 a1 (x3i + Int32.ofInt 1) 0 0 h _ _ hs hf
        · rw [if_neg c2] at hf
          refine AW_go okX7_list 5 ?_
          obtain ⟨h3, j4, hf⟩ := am_bnd hf
          have hs0 := hs
          have hs : am_stat h3 := by
            have hs := hs0
            by_cases c5 : (((Int32.toUInt32 x4i >>> (Int32.toUInt32 x5i &&& Int32.toUInt32 31)).toInt32) &&& (Int32.ofInt 1)) = 0
            · rw [if_pos c5] at j4
              obtain rfl := am_i1 j4
              exact hs
            · rw [if_neg c5] at j4
              obtain ⟨r6, h7, e8, j4⟩ := am_b2_ok j4
              have hs := s_X7_listAct a1 x3i x5i h hs e8
              obtain rfl := am_i1 j4
              exact hs
          refine am_cut (P := AW mX7_list (rX7_list 0 0) (fun r h2 => r = some (.int v) ∧ h2 = h') 56 [(0, .ref 28), (1, .long a1), (3, .int x3i), (4, .int x4i), (5, .int x5i)] [] h3 0 0) (fun hJ4 => ?_) ?_
          · have hs := hs0
            refine AW_go okX7_list 1 ?_
            refine And.intro (fun c5 => ?_) (fun c5 => ?_)
            · rw [if_pos c5] at j4
              obtain rfl := am_i1 j4
              exact AW_pick [0, 1, 2, 3, 4] rfl hJ4
            · rw [if_neg c5] at j4
              refine AW_go okX7_list 4 ?_
              obtain ⟨r6, h7, e8, j4⟩ := am_b2_ok j4
              refine AW_callV (As := [.long a1, .int x3i, .int x5i]) (R' := rX7_listAct 0 0) (T := TX7) (N := 10) (ci := 7) (okX7_list.1 53 _ _ rfl) lkX7_listAct kX7_81 rfl (sK hs 28) rfl (Nat.le_of_ble_eq_true rfl) ⟨by decide, by decide⟩ ⟨(Nat.le_of_ble_eq_true rfl), (Nat.le_of_ble_eq_true rfl)⟩ (Nat.le_of_ble_eq_true rfl) (c_X7_listAct a1 x3i x5i h hs e8) (fun r h' hq => ?_)
              obtain ⟨rfl, hq⟩ := hq
              replace hq := hq.symm
              subst hq
              have hs := s_X7_listAct a1 x3i x5i h hs e8
              obtain rfl := am_i1 j4
              exact AW_pick [0, 1, 2, 3, 4] rfl hJ4
          refine AW_go okX7_list 2 ?_
          refine AW_pick (lv' := [(0, .ref 28), (1, .long a1), (3, .int x3i), (4, .int x4i), (5, .int (x5i + Int32.ofInt 1))]) [1, 2, 3, 4, 0] rfl ?_
          exact ih.2 a1 x3i x4i (x5i + Int32.ofInt 1) h3 _ _ hs hf
def f_X7_list (n : Nat) (a1 : Int64) (h : am_H) : Option (Int32 × am_H) := g_X7_list n 0 a1 (Int32.ofInt 0) 0 0 (am_sI h 28 5 (Int32.ofInt 0))
set_option maxRecDepth 100000 in
theorem s_X7_list (n : Nat) (a1 : Int64) (h : am_H) (hs : am_stat h) {v : Int32} {h' : am_H} (hf : f_X7_list n a1 h = some (v, h')) : am_stat h' := by
  unfold f_X7_list at hf
  exact (m_X7_list n).1 a1 (Int32.ofInt 0) 0 0 (am_sI h 28 5 (Int32.ofInt 0)) _ _ hs hf
set_option maxRecDepth 100000 in
theorem c_X7_list (n : Nat) (a1 : Int64) (h : am_H) (hs : am_stat h) {v : Int32} {h' : am_H} (hf : f_X7_list n a1 h = some (v, h')) : AMet mX7_list (rX7_list 0 0) (fun r h2 => r = some (.int v) ∧ h2 = h') [.ref 28, .long a1] h := by
  unfold f_X7_list at hf
  refine AW_go okX7_list 5 ?_
  refine And.intro (sK hs 28) ?_
  refine AW_pick (lv' := [(0, .ref 28), (1, .long a1), (3, .int (Int32.ofInt 0))]) [1, 2, 0] rfl ?_
  exact (l_X7_list n).1 a1 (Int32.ofInt 0) 0 0 (am_sI h 28 5 (Int32.ofInt 0)) _ _ hs hf
def g_X7_marks : Nat → Nat → Int64 → Int32 → Int32 → Int32 → Int32 → am_H → Option (Int32 × am_H)
  | 0, _, _, _, _, _, _, _ => none
  | n + 1, _, a1, a3, x4i, x5i, x6i, h => (if (Int32.ofInt 3) ≤ x6i then Option.bind ((if (lg_cmp ((Int64.toUInt64 a1 >>> ((Int32.toInt64 (Int32.ofInt 12)).toUInt64 &&& Int64.toUInt64 63)).toInt64) (Int64.ofNat (0 : Fin 2).val)) = 0 then some (Int32.ofInt 1) else some (Int32.ofInt 0))) fun y2 => (am_let ((if a3 ≤ 0 then Option.bind ((if x4i = 0 then some (Int32.ofInt 1) else some (Int32.ofInt 2))) fun y59 => (some ((x5i ||| y59), h)) else some (x5i, h))) fun b55 => ((if x4i = 0 then b55 else (if y2 = 0 then b55 else some ((x5i ||| (Int32.ofInt 16)), h))))) else bif am_vp x6i 3 then (am_b3 ((if (am_I h 33 (Int32.toNatClampNeg x6i)) = 0 then some (x4i, x5i, h) else am_b2 (f_X7_mayAt a1 x6i h) fun r120 h121 => (Option.bind ((if (r120 &&& ((am_I h121 36 (Int32.toNatClampNeg x6i)) ^^^ (Int32.ofInt (-1)))) = 0 then some (Int32.ofInt 1) else some (Int32.ofInt 0))) fun y123 => (am_b2 ((if y123 = 0 then some ((Int32.ofInt 0), h121) else am_b2 (f_X7_isBarred n a1 x6i r120 ((x6i + (Int32.ofInt 1)) - (x6i + (Int32.ofInt 1)) / (Int32.ofInt 3) * (Int32.ofInt 3)) h121) fun r180 h181 => ((if r180 = 0 then am_b2 (f_X7_isBarred n a1 x6i r120 ((x6i + (Int32.ofInt 2)) - (x6i + (Int32.ofInt 2)) / (Int32.ofInt 3) * (Int32.ofInt 3)) h181) fun r184 h185 => ((if r184 = 0 then some ((Int32.ofInt 0), h185) else some ((Int32.ofInt 1), h185))) else some ((Int32.ofInt 1), h181))))) fun y176 h177 => (Option.bind ((if (r120 &&& (Int32.ofInt 1)) = 0 then some (Int32.ofInt 0) else some (Int32.ofInt 1))) fun y238 => (Option.bind ((if y176 = 0 then some (Int32.ofInt 0) else some (Int32.ofInt 4))) fun y291 => (some ((x4i &&& y238), (x5i ||| y291), h177)))))))) fun y115 y116 h117 => (g_X7_marks n 0 a1 a3 y115 y116 (x6i + Int32.ofInt 1) h117)) else none)
set_option maxRecDepth 100000 in
set_option maxHeartbeats 4000000 in
theorem m_X7_marks (n : Nat) : (∀ (a1 : Int64) (a3 : Int32) (x4i : Int32) (x5i : Int32) (x6i : Int32) (h : am_H) (v : Int32) (h' : am_H), am_stat h → g_X7_marks n 0 a1 a3 x4i x5i x6i h = some (v, h') → am_stat h') := by
  induction n with
  | zero => exact fun a1 a3 x4i x5i x6i h v h' hs hf => (by cases hf)
  | succ n ih =>
    skip
    · intro a1 a3 x4i x5i x6i h v h' hs hf
      have hf : ((if (Int32.ofInt 3) ≤ x6i then Option.bind ((if (lg_cmp ((Int64.toUInt64 a1 >>> ((Int32.toInt64 (Int32.ofInt 12)).toUInt64 &&& Int64.toUInt64 63)).toInt64) (Int64.ofNat (0 : Fin 2).val)) = 0 then some (Int32.ofInt 1) else some (Int32.ofInt 0))) fun y2 => (am_let ((if a3 ≤ 0 then Option.bind ((if x4i = 0 then some (Int32.ofInt 1) else some (Int32.ofInt 2))) fun y59 => (some ((x5i ||| y59), h)) else some (x5i, h))) fun b55 => ((if x4i = 0 then b55 else (if y2 = 0 then b55 else some ((x5i ||| (Int32.ofInt 16)), h))))) else bif am_vp x6i 3 then (am_b3 ((if (am_I h 33 (Int32.toNatClampNeg x6i)) = 0 then some (x4i, x5i, h) else am_b2 (f_X7_mayAt a1 x6i h) fun r120 h121 => (Option.bind ((if (r120 &&& ((am_I h121 36 (Int32.toNatClampNeg x6i)) ^^^ (Int32.ofInt (-1)))) = 0 then some (Int32.ofInt 1) else some (Int32.ofInt 0))) fun y123 => (am_b2 ((if y123 = 0 then some ((Int32.ofInt 0), h121) else am_b2 (f_X7_isBarred n a1 x6i r120 ((x6i + (Int32.ofInt 1)) - (x6i + (Int32.ofInt 1)) / (Int32.ofInt 3) * (Int32.ofInt 3)) h121) fun r180 h181 => ((if r180 = 0 then am_b2 (f_X7_isBarred n a1 x6i r120 ((x6i + (Int32.ofInt 2)) - (x6i + (Int32.ofInt 2)) / (Int32.ofInt 3) * (Int32.ofInt 3)) h181) fun r184 h185 => ((if r184 = 0 then some ((Int32.ofInt 0), h185) else some ((Int32.ofInt 1), h185))) else some ((Int32.ofInt 1), h181))))) fun y176 h177 => (Option.bind ((if (r120 &&& (Int32.ofInt 1)) = 0 then some (Int32.ofInt 0) else some (Int32.ofInt 1))) fun y238 => (Option.bind ((if y176 = 0 then some (Int32.ofInt 0) else some (Int32.ofInt 4))) fun y291 => (some ((x4i &&& y238), (x5i ||| y291), h177)))))))) fun y115 y116 h117 => (g_X7_marks n 0 a1 a3 y115 y116 (x6i + Int32.ofInt 1) h117)) else none)) = some (v, h') := hf
      by_cases c1 : (Int32.ofInt 3) ≤ x6i
      · rw [if_pos c1] at hf
        obtain ⟨y2, j3, hf⟩ := am_bnd hf
        obtain ⟨b55, k56, hf⟩ := am_let_ok hf
        refine am_cut (P := ((if a3 ≤ 0 then Option.bind ((if x4i = 0 then some (Int32.ofInt 1) else some (Int32.ofInt 2))) fun y59 => (some ((x5i ||| y59), h)) else some (x5i, h))) = some (v, h') → am_stat h') (fun B57 => ?_) ?_
        · skip
          by_cases c58 : x4i = 0
          · rw [if_pos c58] at hf
            exact B57 (k56.symm.trans hf)
          · rw [if_neg c58] at hf
            by_cases c59 : y2 = 0
            · rw [if_pos c59] at hf
              exact B57 (k56.symm.trans hf)
            · rw [if_neg c59] at hf
              obtain ⟨rfl, rfl⟩ := am_i2 hf
              exact hs
        intro hf
        by_cases c60 : a3 ≤ 0
        · rw [if_pos c60] at hf
          obtain ⟨y61, j62, hf⟩ := am_bnd hf
          obtain ⟨rfl, rfl⟩ := am_i2 hf
          exact hs
        · rw [if_neg c60] at hf
          obtain ⟨rfl, rfl⟩ := am_i2 hf
          exact hs
      · rw [if_neg c1] at hf
        obtain ⟨b114, hf⟩ := am_bis hf
        obtain ⟨y115, y116, h117, j118, hf⟩ := am_b3_ok hf
        have hs0 := hs
        have hs : am_stat h117 := by
          have hs := hs0
          by_cases c119 : (am_I h 33 (Int32.toNatClampNeg x6i)) = 0
          · rw [if_pos c119] at j118
            obtain ⟨rfl, rfl, rfl⟩ := am_i3 j118
            exact hs
          · rw [if_neg c119] at j118
            obtain ⟨r120, h121, e122, j118⟩ := am_b2_ok j118
            have hs := s_X7_mayAt a1 x6i h hs e122
            obtain ⟨y123, j124, j118⟩ := am_bnd j118
            obtain ⟨y176, h177, j178, j118⟩ := am_b2_ok j118
            have hs0 := hs
            have hs : am_stat h177 := by
              have hs := hs0
              by_cases c179 : y123 = 0
              · rw [if_pos c179] at j178
                obtain ⟨rfl, rfl⟩ := am_i2 j178
                exact hs
              · rw [if_neg c179] at j178
                obtain ⟨r180, h181, e182, j178⟩ := am_b2_ok j178
                have hs := s_X7_isBarred n a1 x6i r120 ((x6i + (Int32.ofInt 1)) - (x6i + (Int32.ofInt 1)) / (Int32.ofInt 3) * (Int32.ofInt 3)) h121 hs e182
                by_cases c183 : r180 = 0
                · rw [if_pos c183] at j178
                  obtain ⟨r184, h185, e186, j178⟩ := am_b2_ok j178
                  have hs := s_X7_isBarred n a1 x6i r120 ((x6i + (Int32.ofInt 2)) - (x6i + (Int32.ofInt 2)) / (Int32.ofInt 3) * (Int32.ofInt 3)) h181 hs e186
                  by_cases c187 : r184 = 0
                  · rw [if_pos c187] at j178
                    obtain ⟨rfl, rfl⟩ := am_i2 j178
                    exact hs
                  · rw [if_neg c187] at j178
                    obtain ⟨rfl, rfl⟩ := am_i2 j178
                    exact hs
                · rw [if_neg c183] at j178
                  obtain ⟨rfl, rfl⟩ := am_i2 j178
                  exact hs
            obtain ⟨y238, j239, j118⟩ := am_bnd j118
            obtain ⟨y291, j292, j118⟩ := am_bnd j118
            obtain ⟨rfl, rfl, rfl⟩ := am_i3 j118
            exact hs
        exact ih a1 a3 y115 y116 (x6i + Int32.ofInt 1) h117 _ _ hs hf
set_option maxRecDepth 100000 in
set_option maxHeartbeats 4000000 in
theorem l_X7_marks (n : Nat) : (∀ (a1 : Int64) (a3 : Int32) (x4i : Int32) (x5i : Int32) (x6i : Int32) (h : am_H) (v : Int32) (h' : am_H), am_stat h → g_X7_marks n 0 a1 a3 x4i x5i x6i h = some (v, h') → AW mX7_marks (rX7_marks 0 0) (fun r h2 => r = some (.int v) ∧ h2 = h') 9 [(0, .ref 28), (1, .long a1), (3, .int a3), (4, .int x4i), (5, .int x5i), (6, .int x6i)] [] h 0 0) := by
  induction n with
  | zero => exact fun a1 a3 x4i x5i x6i h v h' hs hf => (by cases hf)
  | succ n ih =>
    skip
    · intro a1 a3 x4i x5i x6i h v h' hs hf
      have hf : ((if (Int32.ofInt 3) ≤ x6i then Option.bind ((if (lg_cmp ((Int64.toUInt64 a1 >>> ((Int32.toInt64 (Int32.ofInt 12)).toUInt64 &&& Int64.toUInt64 63)).toInt64) (Int64.ofNat (0 : Fin 2).val)) = 0 then some (Int32.ofInt 1) else some (Int32.ofInt 0))) fun y2 => (am_let ((if a3 ≤ 0 then Option.bind ((if x4i = 0 then some (Int32.ofInt 1) else some (Int32.ofInt 2))) fun y59 => (some ((x5i ||| y59), h)) else some (x5i, h))) fun b55 => ((if x4i = 0 then b55 else (if y2 = 0 then b55 else some ((x5i ||| (Int32.ofInt 16)), h))))) else bif am_vp x6i 3 then (am_b3 ((if (am_I h 33 (Int32.toNatClampNeg x6i)) = 0 then some (x4i, x5i, h) else am_b2 (f_X7_mayAt a1 x6i h) fun r120 h121 => (Option.bind ((if (r120 &&& ((am_I h121 36 (Int32.toNatClampNeg x6i)) ^^^ (Int32.ofInt (-1)))) = 0 then some (Int32.ofInt 1) else some (Int32.ofInt 0))) fun y123 => (am_b2 ((if y123 = 0 then some ((Int32.ofInt 0), h121) else am_b2 (f_X7_isBarred n a1 x6i r120 ((x6i + (Int32.ofInt 1)) - (x6i + (Int32.ofInt 1)) / (Int32.ofInt 3) * (Int32.ofInt 3)) h121) fun r180 h181 => ((if r180 = 0 then am_b2 (f_X7_isBarred n a1 x6i r120 ((x6i + (Int32.ofInt 2)) - (x6i + (Int32.ofInt 2)) / (Int32.ofInt 3) * (Int32.ofInt 3)) h181) fun r184 h185 => ((if r184 = 0 then some ((Int32.ofInt 0), h185) else some ((Int32.ofInt 1), h185))) else some ((Int32.ofInt 1), h181))))) fun y176 h177 => (Option.bind ((if (r120 &&& (Int32.ofInt 1)) = 0 then some (Int32.ofInt 0) else some (Int32.ofInt 1))) fun y238 => (Option.bind ((if y176 = 0 then some (Int32.ofInt 0) else some (Int32.ofInt 4))) fun y291 => (some ((x4i &&& y238), (x5i ||| y291), h177)))))))) fun y115 y116 h117 => (g_X7_marks n 0 a1 a3 y115 y116 (x6i + Int32.ofInt 1) h117)) else none)) = some (v, h') := hf
      refine AW_go okX7_marks 3 ?_
      refine And.intro (fun c1 => ?_) (fun c1 => ?_)
      · rw [if_pos c1] at hf
        refine AW_go okX7_marks 5 ?_
        obtain ⟨y2, j3, hf⟩ := am_bnd hf
        refine am_cut (P := AW mX7_marks (rX7_marks 0 0) (fun r h2 => r = some (.int v) ∧ h2 = h') 156 [(0, .ref 28), (1, .long a1), (3, .int a3), (4, .int x4i), (5, .int x5i), (6, .int x6i)] [.int y2] h 0 0) (fun hJ3 => ?_) ?_
        · have hs := hs
          refine AW_go okX7_marks 1 ?_
          refine And.intro (fun c4 => ?_) (fun c4 => ?_)
          · rw [if_neg c4] at j3
            refine AW_go okX7_marks 1 ?_
            obtain rfl := am_i1 j3
            exact AW_pick [0, 1, 2, 3, 4, 5] rfl hJ3
          · rw [if_pos c4] at j3
            refine AW_go okX7_marks 2 ?_
            obtain rfl := am_i1 j3
            exact AW_pick [0, 1, 2, 3, 4, 5] rfl hJ3
        refine AW_go okX7_marks 2 ?_
        obtain ⟨b55, k56, hf⟩ := am_let_ok hf
        refine am_cut (P := ((if a3 ≤ 0 then Option.bind ((if x4i = 0 then some (Int32.ofInt 1) else some (Int32.ofInt 2))) fun y59 => (some ((x5i ||| y59), h)) else some (x5i, h))) = some (v, h') → AW mX7_marks (rX7_marks 0 0) (fun r h2 => r = some (.int v) ∧ h2 = h') 174 [(6, .int y2), (0, .ref 28), (1, .long a1), (3, .int a3), (4, .int x4i), (5, .int x5i)] [] h 0 0) (fun B57 => ?_) ?_
        · skip
          refine AW_go okX7_marks 1 ?_
          refine And.intro (fun c58 => ?_) (fun c58 => ?_)
          · rw [if_pos c58] at hf
            exact B57 (k56.symm.trans hf)
          · rw [if_neg c58] at hf
            refine AW_go okX7_marks 2 ?_
            refine And.intro (fun c59 => ?_) (fun c59 => ?_)
            · rw [if_pos c59] at hf
              exact B57 (k56.symm.trans hf)
            · rw [if_neg c59] at hf
              refine AW_go okX7_marks 4 ?_
              obtain ⟨rfl, rfl⟩ := am_i2 hf
              exact And.intro ⟨(Nat.le_of_ble_eq_true rfl), (Nat.le_of_ble_eq_true rfl)⟩ (And.intro (Or.inl rfl) ⟨rfl, rfl⟩)
        intro hf
        refine AW_go okX7_marks 2 ?_
        refine And.intro (fun c60 => ?_) (fun c60 => ?_)
        · rw [if_pos c60] at hf
          refine AW_go okX7_marks 2 ?_
          obtain ⟨y61, j62, hf⟩ := am_bnd hf
          refine am_cut (P := AW mX7_marks (rX7_marks 0 0) (fun r h2 => r = some (.int v) ∧ h2 = h') 193 [(0, .ref 28), (1, .long a1), (3, .int a3), (4, .int x4i), (5, .int x5i), (6, .int y2)] [.int y61, .int x5i] h 0 0) (fun hJ62 => ?_) ?_
          · have hs := hs
            refine AW_go okX7_marks 1 ?_
            refine And.intro (fun c63 => ?_) (fun c63 => ?_)
            · rw [if_pos c63] at j62
              refine AW_go okX7_marks 1 ?_
              obtain rfl := am_i1 j62
              exact AW_pick [1, 2, 3, 4, 5, 0] rfl hJ62
            · rw [if_neg c63] at j62
              refine AW_go okX7_marks 2 ?_
              obtain rfl := am_i1 j62
              exact AW_pick [1, 2, 3, 4, 5, 0] rfl hJ62
          refine AW_go okX7_marks 2 ?_
          obtain ⟨rfl, rfl⟩ := am_i2 hf
          exact And.intro ⟨(Nat.le_of_ble_eq_true rfl), (Nat.le_of_ble_eq_true rfl)⟩ (And.intro (Or.inl rfl) ⟨rfl, rfl⟩)
        · rw [if_neg c60] at hf
          refine AW_go okX7_marks 2 ?_
          obtain ⟨rfl, rfl⟩ := am_i2 hf
          exact And.intro ⟨(Nat.le_of_ble_eq_true rfl), (Nat.le_of_ble_eq_true rfl)⟩ (And.intro (Or.inl rfl) ⟨rfl, rfl⟩)
      · rw [if_neg c1] at hf
        obtain ⟨b114, hf⟩ := am_bis hf
        refine AW_go okX7_marks 4 ?_
        refine And.intro (sK hs 28) (Exists.intro _ (And.intro (sA hs 28 6) ?_))
        refine Exists.intro 2 (Exists.intro 3 (And.intro (by decide) (And.intro (sK hs 33) (And.intro (am_vp_ok b114) ?_))))
        obtain ⟨y115, y116, h117, j118, hf⟩ := am_b3_ok hf
        have hs0 := hs
        have hs : am_stat h117 := by
          have hs := hs0
          by_cases c119 : (am_I h 33 (Int32.toNatClampNeg x6i)) = 0
          · rw [if_pos c119] at j118
            obtain ⟨rfl, rfl, rfl⟩ := am_i3 j118
            exact hs
          · rw [if_neg c119] at j118
            obtain ⟨r120, h121, e122, j118⟩ := am_b2_ok j118
            have hs := s_X7_mayAt a1 x6i h hs e122
            obtain ⟨y123, j124, j118⟩ := am_bnd j118
            obtain ⟨y176, h177, j178, j118⟩ := am_b2_ok j118
            have hs0 := hs
            have hs : am_stat h177 := by
              have hs := hs0
              by_cases c179 : y123 = 0
              · rw [if_pos c179] at j178
                obtain ⟨rfl, rfl⟩ := am_i2 j178
                exact hs
              · rw [if_neg c179] at j178
                obtain ⟨r180, h181, e182, j178⟩ := am_b2_ok j178
                have hs := s_X7_isBarred n a1 x6i r120 ((x6i + (Int32.ofInt 1)) - (x6i + (Int32.ofInt 1)) / (Int32.ofInt 3) * (Int32.ofInt 3)) h121 hs e182
                by_cases c183 : r180 = 0
                · rw [if_pos c183] at j178
                  obtain ⟨r184, h185, e186, j178⟩ := am_b2_ok j178
                  have hs := s_X7_isBarred n a1 x6i r120 ((x6i + (Int32.ofInt 2)) - (x6i + (Int32.ofInt 2)) / (Int32.ofInt 3) * (Int32.ofInt 3)) h181 hs e186
                  by_cases c187 : r184 = 0
                  · rw [if_pos c187] at j178
                    obtain ⟨rfl, rfl⟩ := am_i2 j178
                    exact hs
                  · rw [if_neg c187] at j178
                    obtain ⟨rfl, rfl⟩ := am_i2 j178
                    exact hs
                · rw [if_neg c183] at j178
                  obtain ⟨rfl, rfl⟩ := am_i2 j178
                  exact hs
            obtain ⟨y238, j239, j118⟩ := am_bnd j118
            obtain ⟨y291, j292, j118⟩ := am_bnd j118
            obtain ⟨rfl, rfl, rfl⟩ := am_i3 j118
            exact hs
        refine am_cut (P := AW mX7_marks (rX7_marks 0 0) (fun r h2 => r = some (.int v) ∧ h2 = h') 136 [(0, .ref 28), (1, .long a1), (3, .int a3), (4, .int y115), (5, .int y116), (6, .int x6i)] [] h117 0 0) (fun hJ118 => ?_) ?_
        · have hs := hs0
          refine AW_go okX7_marks 1 ?_
          refine And.intro (fun c119 => ?_) (fun c119 => ?_)
          · rw [if_pos c119] at j118
            obtain ⟨rfl, rfl, rfl⟩ := am_i3 j118
            exact AW_pick [0, 1, 2, 3, 4, 5] rfl hJ118
          · rw [if_neg c119] at j118
            refine AW_go okX7_marks 3 ?_
            obtain ⟨r120, h121, e122, j118⟩ := am_b2_ok j118
            refine AW_callV (As := [.long a1, .int x6i]) (R' := rX7_mayAt 0 0) (T := TX7) (N := 10) (ci := 7) (okX7_marks.1 29 _ _ rfl) lkX7_mayAt kX7_78 rfl (sK hs 28) rfl (Nat.le_of_ble_eq_true rfl) ⟨by decide, by decide⟩ ⟨(Nat.le_of_ble_eq_true rfl), (Nat.le_of_ble_eq_true rfl)⟩ (Nat.le_of_ble_eq_true rfl) (c_X7_mayAt a1 x6i h hs e122) (fun r h' hq => ?_)
            obtain ⟨rfl, hq⟩ := hq
            replace hq := hq.symm
            subst hq
            have hs := s_X7_mayAt a1 x6i h hs e122
            refine AW_go okX7_marks 9 ?_
            refine And.intro (sK hs 28) (Exists.intro _ (And.intro (sA hs 28 9) ?_))
            refine Exists.intro 3 (And.intro (sK hs 36) (And.intro (am_vp_ok b114) ?_))
            obtain ⟨y123, j124, j118⟩ := am_bnd j118
            refine am_cut (P := AW mX7_marks (rX7_marks 0 0) (fun r h2 => r = some (.int v) ∧ h2 = h') 54 [(0, .ref 28), (1, .long a1), (3, .int a3), (4, .int x4i), (5, .int x5i), (6, .int x6i), (7, .int r120)] [.int y123] h121 0 0) (fun hJ124 => ?_) ?_
            · have hs := hs
              refine AW_go okX7_marks 1 ?_
              refine And.intro (fun c125 => ?_) (fun c125 => ?_)
              · rw [if_neg c125] at j124
                refine AW_go okX7_marks 1 ?_
                obtain rfl := am_i1 j124
                exact AW_pick [1, 2, 3, 4, 5, 6, 0] rfl hJ124
              · rw [if_pos c125] at j124
                refine AW_go okX7_marks 2 ?_
                obtain rfl := am_i1 j124
                exact AW_pick [1, 2, 3, 4, 5, 6, 0] rfl hJ124
            refine AW_go okX7_marks 2 ?_
            obtain ⟨y176, h177, j178, j118⟩ := am_b2_ok j118
            have hs0 := hs
            have hs : am_stat h177 := by
              have hs := hs0
              by_cases c179 : y123 = 0
              · rw [if_pos c179] at j178
                obtain ⟨rfl, rfl⟩ := am_i2 j178
                exact hs
              · rw [if_neg c179] at j178
                obtain ⟨r180, h181, e182, j178⟩ := am_b2_ok j178
                have hs := s_X7_isBarred n a1 x6i r120 ((x6i + (Int32.ofInt 1)) - (x6i + (Int32.ofInt 1)) / (Int32.ofInt 3) * (Int32.ofInt 3)) h121 hs e182
                by_cases c183 : r180 = 0
                · rw [if_pos c183] at j178
                  obtain ⟨r184, h185, e186, j178⟩ := am_b2_ok j178
                  have hs := s_X7_isBarred n a1 x6i r120 ((x6i + (Int32.ofInt 2)) - (x6i + (Int32.ofInt 2)) / (Int32.ofInt 3) * (Int32.ofInt 3)) h181 hs e186
                  by_cases c187 : r184 = 0
                  · rw [if_pos c187] at j178
                    obtain ⟨rfl, rfl⟩ := am_i2 j178
                    exact hs
                  · rw [if_neg c187] at j178
                    obtain ⟨rfl, rfl⟩ := am_i2 j178
                    exact hs
                · rw [if_neg c183] at j178
                  obtain ⟨rfl, rfl⟩ := am_i2 j178
                  exact hs
            refine am_cut (P := AW mX7_marks (rX7_marks 0 0) (fun r h2 => r = some (.int v) ∧ h2 = h') 102 [(0, .ref 28), (1, .long a1), (3, .int a3), (4, .int x4i), (5, .int x5i), (6, .int x6i), (7, .int r120), (8, .int y123)] [.int y176] h177 0 0) (fun hJ178 => ?_) ?_
            · have hs := hs0
              refine AW_go okX7_marks 1 ?_
              refine And.intro (fun c179 => ?_) (fun c179 => ?_)
              · rw [if_pos c179] at j178
                refine AW_go okX7_marks 1 ?_
                obtain ⟨rfl, rfl⟩ := am_i2 j178
                exact AW_pick [1, 2, 3, 4, 5, 6, 7, 0] rfl hJ178
              · rw [if_neg c179] at j178
                refine AW_go okX7_marks 9 ?_
                refine And.intro (by decide) ?_
                obtain ⟨r180, h181, e182, j178⟩ := am_b2_ok j178
                refine AW_callV (As := [.long a1, .int x6i, .int r120, .int ((x6i + (Int32.ofInt 1)) - (x6i + (Int32.ofInt 1)) / (Int32.ofInt 3) * (Int32.ofInt 3))]) (R' := rX7_isBarred 0 0) (T := TX7) (N := 10) (ci := 7) (okX7_marks.1 73 _ _ rfl) lkX7_isBarred kX7_106 rfl (sK hs 28) rfl (Nat.le_of_ble_eq_true rfl) ⟨by decide, by decide⟩ ⟨(Nat.le_of_ble_eq_true rfl), (Nat.le_of_ble_eq_true rfl)⟩ (Nat.le_of_ble_eq_true rfl) (c_X7_isBarred n a1 x6i r120 ((x6i + (Int32.ofInt 1)) - (x6i + (Int32.ofInt 1)) / (Int32.ofInt 3) * (Int32.ofInt 3)) h121 hs e182) (fun r h' hq => ?_)
                obtain ⟨rfl, hq⟩ := hq
                replace hq := hq.symm
                subst hq
                have hs := s_X7_isBarred n a1 x6i r120 ((x6i + (Int32.ofInt 1)) - (x6i + (Int32.ofInt 1)) / (Int32.ofInt 3) * (Int32.ofInt 3)) h121 hs e182
                refine AW_go okX7_marks 1 ?_
                refine And.intro (fun c183 => ?_) (fun c183 => ?_)
                · rw [if_neg c183] at j178
                  refine AW_go okX7_marks 2 ?_
                  obtain ⟨rfl, rfl⟩ := am_i2 j178
                  exact AW_pick [1, 2, 3, 4, 5, 6, 7, 0] rfl hJ178
                · rw [if_pos c183] at j178
                  refine AW_go okX7_marks 9 ?_
                  refine And.intro (by decide) ?_
                  obtain ⟨r184, h185, e186, j178⟩ := am_b2_ok j178
                  refine AW_callV (As := [.long a1, .int x6i, .int r120, .int ((x6i + (Int32.ofInt 2)) - (x6i + (Int32.ofInt 2)) / (Int32.ofInt 3) * (Int32.ofInt 3))]) (R' := rX7_isBarred 0 0) (T := TX7) (N := 10) (ci := 7) (okX7_marks.1 91 _ _ rfl) lkX7_isBarred kX7_106 rfl (sK hs 28) rfl (Nat.le_of_ble_eq_true rfl) ⟨by decide, by decide⟩ ⟨(Nat.le_of_ble_eq_true rfl), (Nat.le_of_ble_eq_true rfl)⟩ (Nat.le_of_ble_eq_true rfl) (c_X7_isBarred n a1 x6i r120 ((x6i + (Int32.ofInt 2)) - (x6i + (Int32.ofInt 2)) / (Int32.ofInt 3) * (Int32.ofInt 3)) h181 hs e186) (fun r h' hq => ?_)
                  obtain ⟨rfl, hq⟩ := hq
                  replace hq := hq.symm
                  subst hq
                  have hs := s_X7_isBarred n a1 x6i r120 ((x6i + (Int32.ofInt 2)) - (x6i + (Int32.ofInt 2)) / (Int32.ofInt 3) * (Int32.ofInt 3)) h181 hs e186
                  refine AW_go okX7_marks 1 ?_
                  refine And.intro (fun c187 => ?_) (fun c187 => ?_)
                  · rw [if_pos c187] at j178
                    refine AW_go okX7_marks 1 ?_
                    obtain ⟨rfl, rfl⟩ := am_i2 j178
                    exact AW_pick [1, 2, 3, 4, 5, 6, 7, 0] rfl hJ178
                  · rw [if_neg c187] at j178
                    refine AW_go okX7_marks 2 ?_
                    obtain ⟨rfl, rfl⟩ := am_i2 j178
                    exact AW_pick [1, 2, 3, 4, 5, 6, 7, 0] rfl hJ178
            refine AW_go okX7_marks 5 ?_
            obtain ⟨y238, j239, j118⟩ := am_bnd j118
            refine am_cut (P := AW mX7_marks (rX7_marks 0 0) (fun r h2 => r = some (.int v) ∧ h2 = h') 118 [(0, .ref 28), (1, .long a1), (3, .int a3), (4, .int x4i), (5, .int x5i), (6, .int x6i), (7, .int r120), (8, .int y123), (9, .int y176)] [.int y238, .int x4i] h177 0 0) (fun hJ239 => ?_) ?_
            · have hs := hs
              refine AW_go okX7_marks 1 ?_
              refine And.intro (fun c240 => ?_) (fun c240 => ?_)
              · rw [if_pos c240] at j239
                refine AW_go okX7_marks 1 ?_
                obtain rfl := am_i1 j239
                exact AW_pick [1, 2, 3, 4, 5, 6, 7, 8, 0] rfl hJ239
              · rw [if_neg c240] at j239
                refine AW_go okX7_marks 2 ?_
                obtain rfl := am_i1 j239
                exact AW_pick [1, 2, 3, 4, 5, 6, 7, 8, 0] rfl hJ239
            refine AW_go okX7_marks 4 ?_
            obtain ⟨y291, j292, j118⟩ := am_bnd j118
            refine am_cut (P := AW mX7_marks (rX7_marks 0 0) (fun r h2 => r = some (.int v) ∧ h2 = h') 133 [(0, .ref 28), (1, .long a1), (3, .int a3), (4, .int (x4i &&& y238)), (5, .int x5i), (6, .int x6i), (7, .int r120), (8, .int y123), (9, .int y176)] [.int y291, .int x5i] h177 0 0) (fun hJ292 => ?_) ?_
            · have hs := hs
              refine AW_go okX7_marks 1 ?_
              refine And.intro (fun c293 => ?_) (fun c293 => ?_)
              · rw [if_pos c293] at j292
                refine AW_go okX7_marks 1 ?_
                obtain rfl := am_i1 j292
                exact AW_pick [1, 2, 3, 0, 4, 5, 6, 7, 8] rfl hJ292
              · rw [if_neg c293] at j292
                refine AW_go okX7_marks 2 ?_
                obtain rfl := am_i1 j292
                exact AW_pick [1, 2, 3, 0, 4, 5, 6, 7, 8] rfl hJ292
            refine AW_go okX7_marks 2 ?_
            obtain ⟨rfl, rfl, rfl⟩ := am_i3 j118
            exact AW_pick [1, 2, 3, 4, 0, 5] rfl hJ118
        refine AW_go okX7_marks 2 ?_
        refine AW_pick (lv' := [(0, .ref 28), (1, .long a1), (3, .int a3), (4, .int y115), (5, .int y116), (6, .int (x6i + Int32.ofInt 1))]) [1, 2, 3, 4, 5, 0] rfl ?_
        exact ih a1 a3 y115 y116 (x6i + Int32.ofInt 1) h117 _ _ hs hf
def f_X7_marks (n : Nat) (a1 : Int64) (a3 : Int32) (h : am_H) : Option (Int32 × am_H) := g_X7_marks n 0 a1 a3 (Int32.ofInt 1) (Int32.ofInt 0) (Int32.ofInt 0) h
set_option maxRecDepth 100000 in
theorem s_X7_marks (n : Nat) (a1 : Int64) (a3 : Int32) (h : am_H) (hs : am_stat h) {v : Int32} {h' : am_H} (hf : f_X7_marks n a1 a3 h = some (v, h')) : am_stat h' := by
  unfold f_X7_marks at hf
  exact (m_X7_marks n) a1 a3 (Int32.ofInt 1) (Int32.ofInt 0) (Int32.ofInt 0) h _ _ hs hf
set_option maxRecDepth 100000 in
theorem c_X7_marks (n : Nat) (a1 : Int64) (a3 : Int32) (h : am_H) (hs : am_stat h) {v : Int32} {h' : am_H} (hf : f_X7_marks n a1 a3 h = some (v, h')) : AMet mX7_marks (rX7_marks 0 0) (fun r h2 => r = some (.int v) ∧ h2 = h') [.ref 28, .long a1, .int a3] h := by
  unfold f_X7_marks at hf
  refine AW_go okX7_marks 6 ?_
  refine AW_pick (lv' := [(0, .ref 28), (1, .long a1), (3, .int a3), (4, .int (Int32.ofInt 1)), (5, .int (Int32.ofInt 0)), (6, .int (Int32.ofInt 0))]) [3, 4, 5, 2, 1, 0] rfl ?_
  exact (l_X7_marks n) a1 a3 (Int32.ofInt 1) (Int32.ofInt 0) (Int32.ofInt 0) h _ _ hs hf
def f_X8_steps (n : Nat) (h : am_H) : Option (Int32 × am_H) := am_b2 (f_X7_list n (am_J h 0 10) h) fun r1 h2 => (some (r1, h2))
set_option maxRecDepth 100000 in
theorem s_X8_steps (n : Nat) (h : am_H) (hs : am_stat h) {v : Int32} {h' : am_H} (hf : f_X8_steps n h = some (v, h')) : am_stat h' := by
  unfold f_X8_steps at hf
  obtain ⟨r1, h2, e3, hf⟩ := am_b2_ok hf
  have hs := s_X7_list n (am_J h 0 10) h hs e3
  obtain ⟨rfl, rfl⟩ := am_i2 hf
  exact hs
set_option maxRecDepth 100000 in
theorem c_X8_steps (n : Nat) (h : am_H) (hs : am_stat h) {v : Int32} {h' : am_H} (hf : f_X8_steps n h = some (v, h')) : AMet mX8_steps (rX8_steps 0 0) (fun r h2 => r = some (.int v) ∧ h2 = h') [.ref 0] h := by
  unfold f_X8_steps at hf
  refine AW_go okX8_steps 4 ?_
  refine And.intro (sK hs 0) (Exists.intro _ (And.intro (sA hs 0 9) ?_))
  refine And.intro (sK hs 0) ?_
  obtain ⟨r1, h2, e3, hf⟩ := am_b2_ok hf
  refine AW_callV (As := [.long (am_J h 0 10)]) (R' := rX7_list 0 0) (T := TX7) (N := 10) (ci := 7) (okX8_steps.1 8 _ _ rfl) lkX7_list kX8_216 rfl (sK hs 28) rfl (Nat.le_of_ble_eq_true rfl) ⟨by decide, by decide⟩ ⟨(Nat.le_of_ble_eq_true rfl), (Nat.le_of_ble_eq_true rfl)⟩ (Nat.le_of_ble_eq_true rfl) (c_X7_list n (am_J h 0 10) h hs e3) (fun r h' hq => ?_)
  obtain ⟨rfl, hq⟩ := hq
  replace hq := hq.symm
  subst hq
  have hs := s_X7_list n (am_J h 0 10) h hs e3
  refine AW_go okX8_steps 1 ?_
  obtain ⟨rfl, rfl⟩ := am_i2 hf
  exact And.intro ⟨(Nat.le_of_ble_eq_true rfl), (Nat.le_of_ble_eq_true rfl)⟩ (And.intro (Or.inl rfl) ⟨rfl, rfl⟩)
def f_X8_step (n : Nat) (a1 : Int32) (h : am_H) : Option (Int32 × am_H) := am_b2 (f_X7_list n (am_J h 0 10) h) fun r1 h2 => (Option.bind ((if a1 < 0 then some (Int32.ofInt (-1)) else (if a1 < r1 then bif am_vp a1 90 then (some (am_I h2 31 (Int32.toNatClampNeg a1))) else none else some (Int32.ofInt (-1))))) fun y4 => (some (y4, h2)))
set_option maxRecDepth 100000 in
theorem s_X8_step (n : Nat) (a1 : Int32) (h : am_H) (hs : am_stat h) {v : Int32} {h' : am_H} (hf : f_X8_step n a1 h = some (v, h')) : am_stat h' := by
  unfold f_X8_step at hf
  obtain ⟨r1, h2, e3, hf⟩ := am_b2_ok hf
  have hs := s_X7_list n (am_J h 0 10) h hs e3
  obtain ⟨y4, j5, hf⟩ := am_bnd hf
  obtain ⟨rfl, rfl⟩ := am_i2 hf
  exact hs
set_option maxRecDepth 100000 in
theorem c_X8_step (n : Nat) (a1 : Int32) (h : am_H) (hs : am_stat h) {v : Int32} {h' : am_H} (hf : f_X8_step n a1 h = some (v, h')) : AMet mX8_step (rX8_step 0 0) (fun r h2 => r = some (.int v) ∧ h2 = h') [.ref 0, .int a1] h := by
  unfold f_X8_step at hf
  refine AW_go okX8_step 4 ?_
  refine And.intro (sK hs 0) (Exists.intro _ (And.intro (sA hs 0 9) ?_))
  refine And.intro (sK hs 0) ?_
  obtain ⟨r1, h2, e3, hf⟩ := am_b2_ok hf
  refine AW_callV (As := [.long (am_J h 0 10)]) (R' := rX7_list 0 0) (T := TX7) (N := 10) (ci := 7) (okX8_step.1 8 _ _ rfl) lkX7_list kX8_216 rfl (sK hs 28) rfl (Nat.le_of_ble_eq_true rfl) ⟨by decide, by decide⟩ ⟨(Nat.le_of_ble_eq_true rfl), (Nat.le_of_ble_eq_true rfl)⟩ (Nat.le_of_ble_eq_true rfl) (c_X7_list n (am_J h 0 10) h hs e3) (fun r h' hq => ?_)
  obtain ⟨rfl, hq⟩ := hq
  replace hq := hq.symm
  subst hq
  have hs := s_X7_list n (am_J h 0 10) h hs e3
  refine AW_go okX8_step 2 ?_
  obtain ⟨y4, j5, hf⟩ := am_bnd hf
  refine am_cut (P := AW mX8_step (rX8_step 0 0) (fun r h2 => r = some (.int v) ∧ h2 = h') 34 [(0, .ref 0), (1, .int a1), (2, .int r1)] [.int y4] h2 0 0) (fun hJ5 => ?_) ?_
  · have hs := hs
    refine AW_go okX8_step 1 ?_
    refine And.intro (fun c6 => ?_) (fun c6 => ?_)
    · rw [if_pos c6] at j5
      refine AW_go okX8_step 2 ?_
      obtain rfl := am_i1 j5
      exact AW_pick [1, 2, 0] rfl hJ5
    · rw [if_neg c6] at j5
      refine AW_go okX8_step 3 ?_
      refine And.intro (fun c7 => ?_) (fun c7 => ?_)
      · rw [if_pos c7] at j5
        obtain ⟨b8, j5⟩ := am_bis j5
        refine AW_go okX8_step 5 ?_
        refine And.intro (sK hs 0) (Exists.intro _ (And.intro (sA hs 0 9) ?_))
        refine And.intro (sK hs 28) (Exists.intro _ (And.intro (sA hs 28 3) ?_))
        refine Exists.intro 90 (And.intro (sK hs 31) (And.intro (am_vp_ok b8) ?_))
        obtain rfl := am_i1 j5
        exact AW_pick [1, 2, 0] rfl hJ5
      · rw [if_neg c7] at j5
        refine AW_go okX8_step 2 ?_
        obtain rfl := am_i1 j5
        exact AW_pick [1, 2, 0] rfl hJ5
  refine AW_go okX8_step 1 ?_
  obtain ⟨rfl, rfl⟩ := am_i2 hf
  exact And.intro ⟨(Nat.le_of_ble_eq_true rfl), (Nat.le_of_ble_eq_true rfl)⟩ (And.intro (Or.inl rfl) ⟨rfl, rfl⟩)
def f_X8_go (n : Nat) (a1 : Int32) (h : am_H) : Option (Int32 × am_H) := am_b2 (f_X7_list n (am_J h 0 10) h) fun r1 h2 => ((if a1 < 0 then some ((Int32.ofInt (-103)), h2) else (if a1 < r1 then am_b2 (f_X8_doListed a1 h2) fun r6 h7 => (bif am_vp a1 90 then (some ((am_I h7 31 (Int32.toNatClampNeg a1)), h7)) else none) else some ((Int32.ofInt (-103)), h2))))
set_option maxRecDepth 100000 in
theorem s_X8_go (n : Nat) (a1 : Int32) (h : am_H) (hs : am_stat h) {v : Int32} {h' : am_H} (hf : f_X8_go n a1 h = some (v, h')) : am_stat h' := by
  unfold f_X8_go at hf
  obtain ⟨r1, h2, e3, hf⟩ := am_b2_ok hf
  have hs := s_X7_list n (am_J h 0 10) h hs e3
  by_cases c4 : a1 < 0
  · rw [if_pos c4] at hf
    obtain ⟨rfl, rfl⟩ := am_i2 hf
    exact hs
  · rw [if_neg c4] at hf
    by_cases c5 : a1 < r1
    · rw [if_pos c5] at hf
      obtain ⟨r6, h7, e8, hf⟩ := am_b2_ok hf
      have hs := s_X8_doListed a1 h2 hs e8
      obtain ⟨b9, hf⟩ := am_bis hf
      obtain ⟨rfl, rfl⟩ := am_i2 hf
      exact hs
    · rw [if_neg c5] at hf
      obtain ⟨rfl, rfl⟩ := am_i2 hf
      exact hs
set_option maxRecDepth 100000 in
theorem c_X8_go (n : Nat) (a1 : Int32) (h : am_H) (hs : am_stat h) {v : Int32} {h' : am_H} (hf : f_X8_go n a1 h = some (v, h')) : AMet mX8_go (rX8_go 0 0) (fun r h2 => r = some (.int v) ∧ h2 = h') [.ref 0, .int a1] h := by
  unfold f_X8_go at hf
  refine AW_go okX8_go 4 ?_
  refine And.intro (sK hs 0) (Exists.intro _ (And.intro (sA hs 0 9) ?_))
  refine And.intro (sK hs 0) ?_
  obtain ⟨r1, h2, e3, hf⟩ := am_b2_ok hf
  refine AW_callV (As := [.long (am_J h 0 10)]) (R' := rX7_list 0 0) (T := TX7) (N := 10) (ci := 7) (okX8_go.1 8 _ _ rfl) lkX7_list kX8_216 rfl (sK hs 28) rfl (Nat.le_of_ble_eq_true rfl) ⟨by decide, by decide⟩ ⟨(Nat.le_of_ble_eq_true rfl), (Nat.le_of_ble_eq_true rfl)⟩ (Nat.le_of_ble_eq_true rfl) (c_X7_list n (am_J h 0 10) h hs e3) (fun r h' hq => ?_)
  obtain ⟨rfl, hq⟩ := hq
  replace hq := hq.symm
  subst hq
  have hs := s_X7_list n (am_J h 0 10) h hs e3
  refine AW_go okX8_go 3 ?_
  refine And.intro (fun c4 => ?_) (fun c4 => ?_)
  · rw [if_pos c4] at hf
    refine AW_go okX8_go 2 ?_
    obtain ⟨rfl, rfl⟩ := am_i2 hf
    exact And.intro ⟨(Nat.le_of_ble_eq_true rfl), (Nat.le_of_ble_eq_true rfl)⟩ (And.intro (Or.inl rfl) ⟨rfl, rfl⟩)
  · rw [if_neg c4] at hf
    refine AW_go okX8_go 3 ?_
    refine And.intro (fun c5 => ?_) (fun c5 => ?_)
    · rw [if_pos c5] at hf
      refine AW_go okX8_go 2 ?_
      obtain ⟨r6, h7, e8, hf⟩ := am_b2_ok hf
      refine AW_callV (As := [.int a1]) (R' := rX8_doListed 0 0) (T := TX8) (N := 18) (ci := 8) (okX8_go.1 26 _ _ rfl) lkX8_doListed kX8_221 rfl (sK hs 0) rfl (Nat.le_of_ble_eq_true rfl) ⟨by decide, by decide⟩ ⟨(Nat.le_of_ble_eq_true rfl), (Nat.le_of_ble_eq_true rfl)⟩ (Nat.le_of_ble_eq_true rfl) (c_X8_doListed a1 h2 hs e8) (fun r h' hq => ?_)
      obtain ⟨rfl, hq⟩ := hq
      replace hq := hq.symm
      subst hq
      have hs := s_X8_doListed a1 h2 hs e8
      obtain ⟨b9, hf⟩ := am_bis hf
      refine AW_go okX8_go 6 ?_
      refine And.intro (sK hs 0) (Exists.intro _ (And.intro (sA hs 0 9) ?_))
      refine And.intro (sK hs 28) (Exists.intro _ (And.intro (sA hs 28 3) ?_))
      refine Exists.intro 90 (And.intro (sK hs 31) (And.intro (am_vp_ok b9) ?_))
      obtain ⟨rfl, rfl⟩ := am_i2 hf
      exact And.intro ⟨(Nat.le_of_ble_eq_true rfl), (Nat.le_of_ble_eq_true rfl)⟩ (And.intro (Or.inl rfl) ⟨rfl, rfl⟩)
    · rw [if_neg c5] at hf
      refine AW_go okX8_go 2 ?_
      obtain ⟨rfl, rfl⟩ := am_i2 hf
      exact And.intro ⟨(Nat.le_of_ble_eq_true rfl), (Nat.le_of_ble_eq_true rfl)⟩ (And.intro (Or.inl rfl) ⟨rfl, rfl⟩)
def g_X8_run : Nat → Nat → Int32 → Int32 → Int64 → Int32 → am_H → Option (Int32 × am_H)
  | 0, _, _, _, _, _, _ => none
  | n + 1, _, a1, a2, x3j, x5i, h => (if a2 ≤ x5i then some (a2, h) else am_b2 (f_X7_list n (am_J h 0 10) h) fun r2 h3 => ((if 0 < r2 then bif am_nzJ (Int32.toInt64 r2) then (am_b2 (f_X8_doListed (Int64.toInt32 (((Int64.toUInt64 ((((1103515245 : Int64) * x3j) + (12345 : Int64)) &&& (2147483647 : Int64)) >>> ((Int32.toInt64 (Int32.ofInt 16)).toUInt64 &&& Int64.toUInt64 63)).toInt64) - ((Int64.toUInt64 ((((1103515245 : Int64) * x3j) + (12345 : Int64)) &&& (2147483647 : Int64)) >>> ((Int32.toInt64 (Int32.ofInt 16)).toUInt64 &&& Int64.toUInt64 63)).toInt64) / (Int32.toInt64 r2) * (Int32.toInt64 r2))) h3) fun r7 h8 => (g_X8_run n 0 a1 a2 ((((1103515245 : Int64) * x3j) + (12345 : Int64)) &&& (2147483647 : Int64)) (x5i + Int32.ofInt 1) h8)) else none else some (x5i, h3))))
set_option maxRecDepth 100000 in
set_option maxHeartbeats 4000000 in
theorem m_X8_run (n : Nat) : (∀ (a1 : Int32) (a2 : Int32) (x3j : Int64) (x5i : Int32) (h : am_H) (v : Int32) (h' : am_H), am_stat h → g_X8_run n 0 a1 a2 x3j x5i h = some (v, h') → am_stat h') := by
  induction n with
  | zero => exact fun a1 a2 x3j x5i h v h' hs hf => (by cases hf)
  | succ n ih =>
    skip
    · intro a1 a2 x3j x5i h v h' hs hf
      have hf : ((if a2 ≤ x5i then some (a2, h) else am_b2 (f_X7_list n (am_J h 0 10) h) fun r2 h3 => ((if 0 < r2 then bif am_nzJ (Int32.toInt64 r2) then (am_b2 (f_X8_doListed (Int64.toInt32 (((Int64.toUInt64 ((((1103515245 : Int64) * x3j) + (12345 : Int64)) &&& (2147483647 : Int64)) >>> ((Int32.toInt64 (Int32.ofInt 16)).toUInt64 &&& Int64.toUInt64 63)).toInt64) - ((Int64.toUInt64 ((((1103515245 : Int64) * x3j) + (12345 : Int64)) &&& (2147483647 : Int64)) >>> ((Int32.toInt64 (Int32.ofInt 16)).toUInt64 &&& Int64.toUInt64 63)).toInt64) / (Int32.toInt64 r2) * (Int32.toInt64 r2))) h3) fun r7 h8 => (g_X8_run n 0 a1 a2 ((((1103515245 : Int64) * x3j) + (12345 : Int64)) &&& (2147483647 : Int64)) (x5i + Int32.ofInt 1) h8)) else none else some (x5i, h3))))) = some (v, h') := hf
      by_cases c1 : a2 ≤ x5i
      · rw [if_pos c1] at hf
        obtain ⟨rfl, rfl⟩ := am_i2 hf
        exact hs
      · rw [if_neg c1] at hf
        obtain ⟨r2, h3, e4, hf⟩ := am_b2_ok hf
        have hs := s_X7_list n (am_J h 0 10) h hs e4
        by_cases c5 : 0 < r2
        · rw [if_pos c5] at hf
          obtain ⟨z6, hf⟩ := am_bis hf
          obtain ⟨r7, h8, e9, hf⟩ := am_b2_ok hf
          have hs := s_X8_doListed (Int64.toInt32 (((Int64.toUInt64 ((((1103515245 : Int64) * x3j) + (12345 : Int64)) &&& (2147483647 : Int64)) >>> ((Int32.toInt64 (Int32.ofInt 16)).toUInt64 &&& Int64.toUInt64 63)).toInt64) - ((Int64.toUInt64 ((((1103515245 : Int64) * x3j) + (12345 : Int64)) &&& (2147483647 : Int64)) >>> ((Int32.toInt64 (Int32.ofInt 16)).toUInt64 &&& Int64.toUInt64 63)).toInt64) / (Int32.toInt64 r2) * (Int32.toInt64 r2))) h3 hs e9
          exact ih a1 a2 ((((1103515245 : Int64) * x3j) + (12345 : Int64)) &&& (2147483647 : Int64)) (x5i + Int32.ofInt 1) h8 _ _ hs hf
        · rw [if_neg c5] at hf
          obtain ⟨rfl, rfl⟩ := am_i2 hf
          exact hs
set_option maxRecDepth 100000 in
set_option maxHeartbeats 4000000 in
theorem l_X8_run (n : Nat) : (∀ (a1 : Int32) (a2 : Int32) (x3j : Int64) (x5i : Int32) (h : am_H) (v : Int32) (h' : am_H), am_stat h → g_X8_run n 0 a1 a2 x3j x5i h = some (v, h') → AW mX8_run (rX8_run 0 0) (fun r h2 => r = some (.int v) ∧ h2 = h') 25 [(0, .ref 0), (1, .int a1), (2, .int a2), (3, .long x3j), (5, .int x5i)] [] h 0 0) := by
  induction n with
  | zero => exact fun a1 a2 x3j x5i h v h' hs hf => (by cases hf)
  | succ n ih =>
    skip
    · intro a1 a2 x3j x5i h v h' hs hf
      have hf : ((if a2 ≤ x5i then some (a2, h) else am_b2 (f_X7_list n (am_J h 0 10) h) fun r2 h3 => ((if 0 < r2 then bif am_nzJ (Int32.toInt64 r2) then (am_b2 (f_X8_doListed (Int64.toInt32 (((Int64.toUInt64 ((((1103515245 : Int64) * x3j) + (12345 : Int64)) &&& (2147483647 : Int64)) >>> ((Int32.toInt64 (Int32.ofInt 16)).toUInt64 &&& Int64.toUInt64 63)).toInt64) - ((Int64.toUInt64 ((((1103515245 : Int64) * x3j) + (12345 : Int64)) &&& (2147483647 : Int64)) >>> ((Int32.toInt64 (Int32.ofInt 16)).toUInt64 &&& Int64.toUInt64 63)).toInt64) / (Int32.toInt64 r2) * (Int32.toInt64 r2))) h3) fun r7 h8 => (g_X8_run n 0 a1 a2 ((((1103515245 : Int64) * x3j) + (12345 : Int64)) &&& (2147483647 : Int64)) (x5i + Int32.ofInt 1) h8)) else none else some (x5i, h3))))) = some (v, h') := hf
      refine AW_go okX8_run 3 ?_
      refine And.intro (fun c1 => ?_) (fun c1 => ?_)
      · rw [if_pos c1] at hf
        refine AW_go okX8_run 2 ?_
        obtain ⟨rfl, rfl⟩ := am_i2 hf
        exact And.intro ⟨(Nat.le_of_ble_eq_true rfl), (Nat.le_of_ble_eq_true rfl)⟩ (And.intro (Or.inl rfl) ⟨rfl, rfl⟩)
      · rw [if_neg c1] at hf
        refine AW_go okX8_run 4 ?_
        refine And.intro (sK hs 0) (Exists.intro _ (And.intro (sA hs 0 9) ?_))
        refine And.intro (sK hs 0) ?_
        obtain ⟨r2, h3, e4, hf⟩ := am_b2_ok hf
        refine AW_callV (As := [.long (am_J h 0 10)]) (R' := rX7_list 0 0) (T := TX7) (N := 10) (ci := 7) (okX8_run.1 39 _ _ rfl) lkX7_list kX8_216 rfl (sK hs 28) rfl (Nat.le_of_ble_eq_true rfl) ⟨by decide, by decide⟩ ⟨(Nat.le_of_ble_eq_true rfl), (Nat.le_of_ble_eq_true rfl)⟩ (Nat.le_of_ble_eq_true rfl) (c_X7_list n (am_J h 0 10) h hs e4) (fun r h' hq => ?_)
        obtain ⟨rfl, hq⟩ := hq
        replace hq := hq.symm
        subst hq
        have hs := s_X7_list n (am_J h 0 10) h hs e4
        refine AW_go okX8_run 3 ?_
        refine And.intro (fun c5 => ?_) (fun c5 => ?_)
        · rw [if_pos c5] at hf
          obtain ⟨z6, hf⟩ := am_bis hf
          refine AW_go okX8_run 16 ?_
          refine And.intro (am_nzJ_ok z6) ?_
          obtain ⟨r7, h8, e9, hf⟩ := am_b2_ok hf
          refine AW_callV (As := [.int (Int64.toInt32 (((Int64.toUInt64 ((((1103515245 : Int64) * x3j) + (12345 : Int64)) &&& (2147483647 : Int64)) >>> ((Int32.toInt64 (Int32.ofInt 16)).toUInt64 &&& Int64.toUInt64 63)).toInt64) - ((Int64.toUInt64 ((((1103515245 : Int64) * x3j) + (12345 : Int64)) &&& (2147483647 : Int64)) >>> ((Int32.toInt64 (Int32.ofInt 16)).toUInt64 &&& Int64.toUInt64 63)).toInt64) / (Int32.toInt64 r2) * (Int32.toInt64 r2)))]) (R' := rX8_doListed 0 0) (T := TX8) (N := 18) (ci := 8) (okX8_run.1 76 _ _ rfl) lkX8_doListed kX8_221 rfl (sK hs 0) rfl (Nat.le_of_ble_eq_true rfl) ⟨by decide, by decide⟩ ⟨(Nat.le_of_ble_eq_true rfl), (Nat.le_of_ble_eq_true rfl)⟩ (Nat.le_of_ble_eq_true rfl) (c_X8_doListed (Int64.toInt32 (((Int64.toUInt64 ((((1103515245 : Int64) * x3j) + (12345 : Int64)) &&& (2147483647 : Int64)) >>> ((Int32.toInt64 (Int32.ofInt 16)).toUInt64 &&& Int64.toUInt64 63)).toInt64) - ((Int64.toUInt64 ((((1103515245 : Int64) * x3j) + (12345 : Int64)) &&& (2147483647 : Int64)) >>> ((Int32.toInt64 (Int32.ofInt 16)).toUInt64 &&& Int64.toUInt64 63)).toInt64) / (Int32.toInt64 r2) * (Int32.toInt64 r2))) h3 hs e9) (fun r h' hq => ?_)
          obtain ⟨rfl, hq⟩ := hq
          replace hq := hq.symm
          subst hq
          have hs := s_X8_doListed (Int64.toInt32 (((Int64.toUInt64 ((((1103515245 : Int64) * x3j) + (12345 : Int64)) &&& (2147483647 : Int64)) >>> ((Int32.toInt64 (Int32.ofInt 16)).toUInt64 &&& Int64.toUInt64 63)).toInt64) - ((Int64.toUInt64 ((((1103515245 : Int64) * x3j) + (12345 : Int64)) &&& (2147483647 : Int64)) >>> ((Int32.toInt64 (Int32.ofInt 16)).toUInt64 &&& Int64.toUInt64 63)).toInt64) / (Int32.toInt64 r2) * (Int32.toInt64 r2))) h3 hs e9
          refine AW_go okX8_run 2 ?_
          refine AW_pick (lv' := [(0, .ref 0), (1, .int a1), (2, .int a2), (3, .long ((((1103515245 : Int64) * x3j) + (12345 : Int64)) &&& (2147483647 : Int64))), (5, .int (x5i + Int32.ofInt 1))]) [3, 4, 5, 1, 0] rfl ?_
          exact ih a1 a2 ((((1103515245 : Int64) * x3j) + (12345 : Int64)) &&& (2147483647 : Int64)) (x5i + Int32.ofInt 1) h8 _ _ hs hf
        · rw [if_neg c5] at hf
          refine AW_go okX8_run 2 ?_
          obtain ⟨rfl, rfl⟩ := am_i2 hf
          exact And.intro ⟨(Nat.le_of_ble_eq_true rfl), (Nat.le_of_ble_eq_true rfl)⟩ (And.intro (Or.inl rfl) ⟨rfl, rfl⟩)
def f_X8_run (n : Nat) (a1 : Int32) (a2 : Int32) (h : am_H) : Option (Int32 × am_H) := (if a1 < 0 then some ((Int32.ofInt (-102)), h) else (if a2 < (Int32.ofInt 1) then some ((Int32.ofInt (-102)), h) else (if a2 ≤ (Int32.ofInt 200) then g_X8_run n 0 a1 a2 (Int32.toInt64 a1) (Int32.ofInt 0) h else some ((Int32.ofInt (-102)), h))))
set_option maxRecDepth 100000 in
theorem s_X8_run (n : Nat) (a1 : Int32) (a2 : Int32) (h : am_H) (hs : am_stat h) {v : Int32} {h' : am_H} (hf : f_X8_run n a1 a2 h = some (v, h')) : am_stat h' := by
  unfold f_X8_run at hf
  by_cases c1 : a1 < 0
  · rw [if_pos c1] at hf
    obtain ⟨rfl, rfl⟩ := am_i2 hf
    exact hs
  · rw [if_neg c1] at hf
    by_cases c2 : a2 < (Int32.ofInt 1)
    · rw [if_pos c2] at hf
      obtain ⟨rfl, rfl⟩ := am_i2 hf
      exact hs
    · rw [if_neg c2] at hf
      by_cases c3 : a2 ≤ (Int32.ofInt 200)
      · rw [if_pos c3] at hf
        exact (m_X8_run n) a1 a2 (Int32.toInt64 a1) (Int32.ofInt 0) h _ _ hs hf
      · rw [if_neg c3] at hf
        obtain ⟨rfl, rfl⟩ := am_i2 hf
        exact hs
set_option maxRecDepth 100000 in
theorem c_X8_run (n : Nat) (a1 : Int32) (a2 : Int32) (h : am_H) (hs : am_stat h) {v : Int32} {h' : am_H} (hf : f_X8_run n a1 a2 h = some (v, h')) : AMet mX8_run (rX8_run 0 0) (fun r h2 => r = some (.int v) ∧ h2 = h') [.ref 0, .int a1, .int a2] h := by
  unfold f_X8_run at hf
  refine AW_go okX8_run 2 ?_
  refine And.intro (fun c1 => ?_) (fun c1 => ?_)
  · rw [if_pos c1] at hf
    refine AW_go okX8_run 2 ?_
    obtain ⟨rfl, rfl⟩ := am_i2 hf
    exact And.intro ⟨(Nat.le_of_ble_eq_true rfl), (Nat.le_of_ble_eq_true rfl)⟩ (And.intro (Or.inl rfl) ⟨rfl, rfl⟩)
  · rw [if_neg c1] at hf
    refine AW_go okX8_run 3 ?_
    refine And.intro (fun c2 => ?_) (fun c2 => ?_)
    · rw [if_pos c2] at hf
      refine AW_go okX8_run 2 ?_
      obtain ⟨rfl, rfl⟩ := am_i2 hf
      exact And.intro ⟨(Nat.le_of_ble_eq_true rfl), (Nat.le_of_ble_eq_true rfl)⟩ (And.intro (Or.inl rfl) ⟨rfl, rfl⟩)
    · rw [if_neg c2] at hf
      refine AW_go okX8_run 3 ?_
      refine And.intro (fun c3 => ?_) (fun c3 => ?_)
      · rw [if_pos c3] at hf
        refine AW_go okX8_run 5 ?_
        refine AW_pick (lv' := [(0, .ref 0), (1, .int a1), (2, .int a2), (3, .long (Int32.toInt64 a1)), (5, .int (Int32.ofInt 0))]) [2, 3, 4, 1, 0] rfl ?_
        exact (l_X8_run n) a1 a2 (Int32.toInt64 a1) (Int32.ofInt 0) h _ _ hs hf
      · rw [if_neg c3] at hf
        refine AW_go okX8_run 2 ?_
        obtain ⟨rfl, rfl⟩ := am_i2 hf
        exact And.intro ⟨(Nat.le_of_ble_eq_true rfl), (Nat.le_of_ble_eq_true rfl)⟩ (And.intro (Or.inl rfl) ⟨rfl, rfl⟩)
