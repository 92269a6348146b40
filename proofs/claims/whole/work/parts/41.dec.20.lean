def f_X9_met (n : Nat) (h : am_H) : Option (Int32 × am_H) := am_b2 (f_X9_meetAll n h) fun r1 h2 => (Option.bind ((if (am_I h2 51 51) = 0 then some (am_I h2 51 50) else some (Int32.ofInt (-2)))) fun y4 => (some (y4, h2)))
set_option maxRecDepth 100000 in
theorem s_X9_met (n : Nat) (h : am_H) (hs : am_stat h) {v : Int32} {h' : am_H} (hf : f_X9_met n h = some (v, h')) : am_stat h' := by
  unfold f_X9_met at hf
  obtain ⟨r1, h2, e3, hf⟩ := am_b2_ok hf
  have hs := s_X9_meetAll n h hs e3
  obtain ⟨y4, j5, hf⟩ := am_bnd hf
  obtain ⟨rfl, rfl⟩ := am_i2 hf
  exact hs
set_option maxRecDepth 100000 in
theorem c_X9_met (n : Nat) (h : am_H) (hs : am_stat h) {v : Int32} {h' : am_H} (hf : f_X9_met n h = some (v, h')) : AMet mX9_met (rX9_met 0 0) (fun r h2 => r = some (.int v) ∧ h2 = h') [.ref 51] h := by
  unfold f_X9_met at hf
  refine AW_go okX9_met 1 ?_
  obtain ⟨r1, h2, e3, hf⟩ := am_b2_ok hf
  refine AW_callV (As := []) (R' := rX9_meetAll 0 0) (T := TX9) (N := 58) (ci := 9) (okX9_met.1 1 _ _ rfl) lkX9_meetAll kX9_378 rfl (sK hs 51) rfl (Nat.le_of_ble_eq_true rfl) ⟨by decide, by decide⟩ ⟨(Nat.le_of_ble_eq_true rfl), (Nat.le_of_ble_eq_true rfl)⟩ (Nat.le_of_ble_eq_true rfl) (c_X9_meetAll n h hs e3) (fun r h' hq => ?_)
  obtain ⟨rfl, hq⟩ := hq
  replace hq := hq.symm
  subst hq
  have hs := s_X9_meetAll n h hs e3
  refine AW_go okX9_met 2 ?_
  refine And.intro (sK hs 51) ?_
  obtain ⟨y4, j5, hf⟩ := am_bnd hf
  refine am_cut (P := AW mX9_met (rX9_met 0 0) (fun r h2 => r = some (.int v) ∧ h2 = h') 20 [(0, .ref 51)] [.int y4] h2 0 0) (fun hJ5 => ?_) ?_
  · have hs := hs
    refine AW_go okX9_met 1 ?_
    refine And.intro (fun c6 => ?_) (fun c6 => ?_)
    · rw [if_pos c6] at j5
      refine AW_go okX9_met 2 ?_
      refine And.intro (sK hs 51) ?_
      obtain rfl := am_i1 j5
      exact AW_pick [0] rfl hJ5
    · rw [if_neg c6] at j5
      refine AW_go okX9_met 2 ?_
      obtain rfl := am_i1 j5
      exact AW_pick [0] rfl hJ5
  refine AW_go okX9_met 1 ?_
  obtain ⟨rfl, rfl⟩ := am_i2 hf
  exact And.intro ⟨(Nat.le_of_ble_eq_true rfl), (Nat.le_of_ble_eq_true rfl)⟩ (And.intro (Or.inl rfl) ⟨rfl, rfl⟩)
def g_X9_find : Nat → Nat → Int32 → Int32 → Int64 → Int32 → Int32 → Int32 → Int32 → Int32 → am_H → Option (Int32 × am_H)
  | 0, _, _, _, _, _, _, _, _, _, _ => none
  | n + 1, tag, a1, a2, x3j, x5i, x6i, x7i, x8i, x9i, h => bif Nat.beq tag 0 then ((if (am_I h 51 50) ≤ x7i then am_b2 (f_X9_layState n x3j h) fun r2 h3 => ((if a2 = 0 then Option.bind ((if a2 = 0 then some x5i else some (Int32.ofInt (-1)))) fun y6 => (some (y6, h3)) else (if x6i = (Int32.ofInt (-1)) then Option.bind ((if a2 = 0 then some x5i else some (Int32.ofInt (-1)))) fun y60 => (some (y60, h3)) else g_X9_find n 1 a1 a2 x3j x5i x6i (Int32.ofInt 0) x6i 0 h3))) else am_b2 (f_X9_isStateSo n x7i a1 h) fun r113 h114 => (am_b2 ((if r113 = 0 then some (x5i, x6i) else Option.bind ((if x6i = (Int32.ofInt (-1)) then some x7i else some x6i)) fun y120 => (some ((x5i + Int32.ofInt 1), y120)))) fun y116 y117 => (g_X9_find n 0 a1 a2 x3j y116 y117 (x7i + Int32.ofInt 1) 0 0 h114)))) else (bif Nat.beq tag 1 then (bif am_vp x8i 2001 then ((if (am_I h 81 (Int32.toNatClampNeg x8i)) = (Int32.ofInt (-1)) then (if a2 = (Int32.ofInt 1) then some (x7i, h) else g_X9_find n 2 a1 a2 x3j x5i x6i x7i x6i (x7i - (Int32.ofInt 1)) h) else g_X9_find n 1 a1 a2 x3j x5i x6i (x7i + Int32.ofInt 1) (am_I h 81 (Int32.toNatClampNeg x8i)) 0 h)) else none) else ((if x9i ≤ (a2 - (Int32.ofInt 10)) then Option.bind ((if x7i ≤ (a2 - (Int32.ofInt 10)) then some (Int32.ofInt (-1)) else bif am_vp x8i 2001 then (some (am_I h 82 (Int32.toNatClampNeg x8i))) else none)) fun y2 => (some (y2, h)) else bif am_vp x8i 2001 then (g_X9_find n 2 a1 a2 x3j x5i x6i x7i (am_I h 81 (Int32.toNatClampNeg x8i)) (x9i + Int32.ofInt (-1)) h) else none)))
set_option maxRecDepth 100000 in
set_option maxHeartbeats 4000000 in
theorem m_X9_find (n : Nat) : (∀ (a1 : Int32) (a2 : Int32) (x3j : Int64) (x5i : Int32) (x6i : Int32) (x7i : Int32) (x8i : Int32) (x9i : Int32) (h : am_H) (v : Int32) (h' : am_H), am_stat h → g_X9_find n 0 a1 a2 x3j x5i x6i x7i x8i x9i h = some (v, h') → am_stat h') ∧ (∀ (a1 : Int32) (a2 : Int32) (x3j : Int64) (x5i : Int32) (x6i : Int32) (x7i : Int32) (x8i : Int32) (x9i : Int32) (h : am_H) (v : Int32) (h' : am_H), am_stat h → g_X9_find n 1 a1 a2 x3j x5i x6i x7i x8i x9i h = some (v, h') → am_stat h') ∧ (∀ (a1 : Int32) (a2 : Int32) (x3j : Int64) (x5i : Int32) (x6i : Int32) (x7i : Int32) (x8i : Int32) (x9i : Int32) (h : am_H) (v : Int32) (h' : am_H), am_stat h → g_X9_find n 2 a1 a2 x3j x5i x6i x7i x8i x9i h = some (v, h') → am_stat h') := by
  induction n with
  | zero => exact ⟨fun a1 a2 x3j x5i x6i x7i x8i x9i h v h' hs hf => (by cases hf), fun a1 a2 x3j x5i x6i x7i x8i x9i h v h' hs hf => (by cases hf), fun a1 a2 x3j x5i x6i x7i x8i x9i h v h' hs hf => (by cases hf)⟩
  | succ n ih =>
    refine ⟨?_, ?_, ?_⟩
    · intro a1 a2 x3j x5i x6i x7i x8i x9i h v h' hs hf
      have hf : ((if (am_I h 51 50) ≤ x7i then am_b2 (f_X9_layState n x3j h) fun r2 h3 => ((if a2 = 0 then Option.bind ((if a2 = 0 then some x5i else some (Int32.ofInt (-1)))) fun y6 => (some (y6, h3)) else (if x6i = (Int32.ofInt (-1)) then Option.bind ((if a2 = 0 then some x5i else some (Int32.ofInt (-1)))) fun y60 => (some (y60, h3)) else g_X9_find n 1 a1 a2 x3j x5i x6i (Int32.ofInt 0) x6i 0 h3))) else am_b2 (f_X9_isStateSo n x7i a1 h) fun r113 h114 => (am_b2 ((if r113 = 0 then some (x5i, x6i) else Option.bind ((if x6i = (Int32.ofInt (-1)) then some x7i else some x6i)) fun y120 => (some ((x5i + Int32.ofInt 1), y120)))) fun y116 y117 => (g_X9_find n 0 a1 a2 x3j y116 y117 (x7i + Int32.ofInt 1) 0 0 h114)))) = some (v, h') := hf
      by_cases c1 : (am_I h 51 50) ≤ x7i
      · rw [if_pos c1] at hf
        obtain ⟨r2, h3, e4, hf⟩ := am_b2_ok hf
        have hs := s_X9_layState n x3j h hs e4
        by_cases c5 : a2 = 0
        · rw [if_pos c5] at hf
          obtain ⟨y6, j7, hf⟩ := am_bnd hf
          obtain ⟨rfl, rfl⟩ := am_i2 hf
          exact hs
        · rw [if_neg c5] at hf
          by_cases c59 : x6i = (Int32.ofInt (-1))
          · rw [if_pos c59] at hf
            obtain ⟨y60, j61, hf⟩ := am_bnd hf
            obtain ⟨rfl, rfl⟩ := am_i2 hf
            exact hs
          · rw [if_neg c59] at hf
            exact ih.2.1 a1 a2 x3j x5i x6i (Int32.ofInt 0) x6i 0 h3 _ _ hs hf
      · rw [if_neg c1] at hf
        obtain ⟨r113, h114, e115, hf⟩ := am_b2_ok hf
        have hs := s_X9_isStateSo n x7i a1 h hs e115
        obtain ⟨y116, y117, j118, hf⟩ := am_b2_ok hf
        exact ih.1 a1 a2 x3j y116 y117 (x7i + Int32.ofInt 1) 0 0 h114 _ _ hs hf
    · intro a1 a2 x3j x5i x6i x7i x8i x9i h v h' hs hf
      have hf : (bif am_vp x8i 2001 then ((if (am_I h 81 (Int32.toNatClampNeg x8i)) = (Int32.ofInt (-1)) then (if a2 = (Int32.ofInt 1) then some (x7i, h) else g_X9_find n 2 a1 a2 x3j x5i x6i x7i x6i (x7i - (Int32.ofInt 1)) h) else g_X9_find n 1 a1 a2 x3j x5i x6i (x7i + Int32.ofInt 1) (am_I h 81 (Int32.toNatClampNeg x8i)) 0 h)) else none) = some (v, h') := hf
      obtain ⟨b1, hf⟩ := am_bis hf
      by_cases c2 : (am_I h 81 (Int32.toNatClampNeg x8i)) = (Int32.ofInt (-1))
      · rw [if_pos c2] at hf
        by_cases c3 : a2 = (Int32.ofInt 1)
        · rw [if_pos c3] at hf
          obtain ⟨rfl, rfl⟩ := am_i2 hf
          exact hs
        · rw [if_neg c3] at hf
          exact ih.2.2 a1 a2 x3j x5i x6i x7i x6i (x7i - (Int32.ofInt 1)) h _ _ hs hf
      · rw [if_neg c2] at hf
        exact ih.2.1 a1 a2 x3j x5i x6i (x7i + Int32.ofInt 1) (am_I h 81 (Int32.toNatClampNeg x8i)) 0 h _ _ hs hf
    · intro a1 a2 x3j x5i x6i x7i x8i x9i h v h' hs hf
      have hf : ((if x9i ≤ (a2 - (Int32.ofInt 10)) then Option.bind ((if x7i ≤ (a2 - (Int32.ofInt 10)) then some (Int32.ofInt (-1)) else bif am_vp x8i 2001 then (some (am_I h 82 (Int32.toNatClampNeg x8i))) else none)) fun y2 => (some (y2, h)) else bif am_vp x8i 2001 then (g_X9_find n 2 a1 a2 x3j x5i x6i x7i (am_I h 81 (Int32.toNatClampNeg x8i)) (x9i + Int32.ofInt (-1)) h) else none)) = some (v, h') := hf
      by_cases c1 : x9i ≤ (a2 - (Int32.ofInt 10))
      · rw [if_pos c1] at hf
        obtain ⟨y2, j3, hf⟩ := am_bnd hf
        obtain ⟨rfl, rfl⟩ := am_i2 hf
        exact hs
      · rw [if_neg c1] at hf
        obtain ⟨b56, hf⟩ := am_bis hf
        exact ih.2.2 a1 a2 x3j x5i x6i x7i (am_I h 81 (Int32.toNatClampNeg x8i)) (x9i + Int32.ofInt (-1)) h _ _ hs hf
set_option maxRecDepth 100000 in
set_option maxHeartbeats 4000000 in
theorem l_X9_find (n : Nat) : (∀ (a1 : Int32) (a2 : Int32) (x3j : Int64) (x5i : Int32) (x6i : Int32) (x7i : Int32) (x8i : Int32) (x9i : Int32) (h : am_H) (v : Int32) (h' : am_H), am_stat h → g_X9_find n 0 a1 a2 x3j x5i x6i x7i x8i x9i h = some (v, h') → AW mX9_find (rX9_find 0 0) (fun r h2 => r = some (.int v) ∧ h2 = h') 64 [(0, .ref 51), (1, .int a1), (2, .int a2), (3, .long x3j), (5, .int x5i), (6, .int x6i), (7, .int x7i)] [] h 0 0) ∧ (∀ (a1 : Int32) (a2 : Int32) (x3j : Int64) (x5i : Int32) (x6i : Int32) (x7i : Int32) (x8i : Int32) (x9i : Int32) (h : am_H) (v : Int32) (h' : am_H), am_stat h → g_X9_find n 1 a1 a2 x3j x5i x6i x7i x8i x9i h = some (v, h') → AW mX9_find (rX9_find 0 0) (fun r h2 => r = some (.int v) ∧ h2 = h') 140 [(0, .ref 51), (1, .int a1), (2, .int a2), (3, .long x3j), (5, .int x5i), (6, .int x6i), (7, .int x7i), (8, .int x8i)] [] h 0 0) ∧ (∀ (a1 : Int32) (a2 : Int32) (x3j : Int64) (x5i : Int32) (x6i : Int32) (x7i : Int32) (x8i : Int32) (x9i : Int32) (h : am_H) (v : Int32) (h' : am_H), am_stat h → g_X9_find n 2 a1 a2 x3j x5i x6i x7i x8i x9i h = some (v, h') → AW mX9_find (rX9_find 0 0) (fun r h2 => r = some (.int v) ∧ h2 = h') 184 [(0, .ref 51), (1, .int a1), (2, .int a2), (3, .long x3j), (5, .int x5i), (6, .int x6i), (7, .int x7i), (8, .int x8i), (9, .int x9i)] [] h 0 0) := by
  induction n with
  | zero => exact ⟨fun a1 a2 x3j x5i x6i x7i x8i x9i h v h' hs hf => (by cases hf), fun a1 a2 x3j x5i x6i x7i x8i x9i h v h' hs hf => (by cases hf), fun a1 a2 x3j x5i x6i x7i x8i x9i h v h' hs hf => (by cases hf)⟩
  | succ n ih =>
    refine ⟨?_, ?_, ?_⟩
    · intro a1 a2 x3j x5i x6i x7i x8i x9i h v h' hs hf
      have hf : ((if (am_I h 51 50) ≤ x7i then am_b2 (f_X9_layState n x3j h) fun r2 h3 => ((if a2 = 0 then Option.bind ((if a2 = 0 then some x5i else some (Int32.ofInt (-1)))) fun y6 => (some (y6, h3)) else (if x6i = (Int32.ofInt (-1)) then Option.bind ((if a2 = 0 then some x5i else some (Int32.ofInt (-1)))) fun y60 => (some (y60, h3)) else g_X9_find n 1 a1 a2 x3j x5i x6i (Int32.ofInt 0) x6i 0 h3))) else am_b2 (f_X9_isStateSo n x7i a1 h) fun r113 h114 => (am_b2 ((if r113 = 0 then some (x5i, x6i) else Option.bind ((if x6i = (Int32.ofInt (-1)) then some x7i else some x6i)) fun y120 => (some ((x5i + Int32.ofInt 1), y120)))) fun y116 y117 => (g_X9_find n 0 a1 a2 x3j y116 y117 (x7i + Int32.ofInt 1) 0 0 h114)))) = some (v, h') := hf
      refine AW_go okX9_find 4 ?_
      refine And.intro (sK hs 51) ?_
      refine And.intro (fun c1 => ?_) (fun c1 => ?_)
      · rw [if_pos c1] at hf
        refine AW_go okX9_find 2 ?_
        obtain ⟨r2, h3, e4, hf⟩ := am_b2_ok hf
        refine AW_callV (As := [.long x3j]) (R' := rX9_layState 0 0) (T := TX9) (N := 58) (ci := 9) (okX9_find.1 109 _ _ rfl) lkX9_layState kX9_364 rfl (sK hs 51) rfl (Nat.le_of_ble_eq_true rfl) ⟨by decide, by decide⟩ ⟨(Nat.le_of_ble_eq_true rfl), (Nat.le_of_ble_eq_true rfl)⟩ (Nat.le_of_ble_eq_true rfl) (c_X9_layState n x3j h hs e4) (fun r h' hq => ?_)
        obtain ⟨rfl, hq⟩ := hq
        replace hq := hq.symm
        subst hq
        have hs := s_X9_layState n x3j h hs e4
        refine AW_go okX9_find 2 ?_
        refine And.intro (fun c5 => ?_) (fun c5 => ?_)
        · rw [if_pos c5] at hf
          refine AW_go okX9_find 1 ?_
          obtain ⟨y6, j7, hf⟩ := am_bnd hf
          refine am_cut (P := AW mX9_find (rX9_find 0 0) (fun r h2 => r = some (.int v) ∧ h2 = h') 132 [(0, .ref 51), (1, .int a1), (2, .int a2), (3, .long x3j), (5, .int x5i), (6, .int x6i), (7, .int x7i)] [.int y6] h3 0 0) (fun hJ7 => ?_) ?_
          · have hs := hs
            refine AW_go okX9_find 1 ?_
            refine And.intro (fun c8 => ?_) (fun c8 => ?_)
            · rw [if_neg c8] at j7
              refine AW_go okX9_find 1 ?_
              obtain rfl := am_i1 j7
              exact AW_pick [0, 1, 2, 3, 4, 5, 6] rfl hJ7
            · rw [if_pos c8] at j7
              refine AW_go okX9_find 2 ?_
              obtain rfl := am_i1 j7
              exact AW_pick [0, 1, 2, 3, 4, 5, 6] rfl hJ7
          refine AW_go okX9_find 1 ?_
          obtain ⟨rfl, rfl⟩ := am_i2 hf
          exact And.intro ⟨(Nat.le_of_ble_eq_true rfl), (Nat.le_of_ble_eq_true rfl)⟩ (And.intro (Or.inl rfl) ⟨rfl, rfl⟩)
        · rw [if_neg c5] at hf
          refine AW_go okX9_find 3 ?_
          refine And.intro (fun c59 => ?_) (fun c59 => ?_)
          · rw [if_neg c59] at hf
            refine AW_go okX9_find 4 ?_
            refine AW_pick (lv' := [(0, .ref 51), (1, .int a1), (2, .int a2), (3, .long x3j), (5, .int x5i), (6, .int x6i), (7, .int (Int32.ofInt 0)), (8, .int x6i)]) [2, 3, 4, 5, 6, 7, 1, 0] rfl ?_
            exact ih.2.1 a1 a2 x3j x5i x6i (Int32.ofInt 0) x6i 0 h3 _ _ hs hf
          · rw [if_pos c59] at hf
            refine AW_go okX9_find 1 ?_
            obtain ⟨y60, j61, hf⟩ := am_bnd hf
            refine am_cut (P := AW mX9_find (rX9_find 0 0) (fun r h2 => r = some (.int v) ∧ h2 = h') 132 [(0, .ref 51), (1, .int a1), (2, .int a2), (3, .long x3j), (5, .int x5i), (6, .int x6i), (7, .int x7i)] [.int y60] h3 0 0) (fun hJ61 => ?_) ?_
            · have hs := hs
              refine AW_go okX9_find 1 ?_
              refine And.intro (fun c62 => ?_) (fun c62 => ?_)
              · rw [if_neg c62] at j61
                refine AW_go okX9_find 1 ?_
                obtain rfl := am_i1 j61
                exact AW_pick [0, 1, 2, 3, 4, 5, 6] rfl hJ61
              · rw [if_pos c62] at j61
                refine AW_go okX9_find 2 ?_
                obtain rfl := am_i1 j61
                exact AW_pick [0, 1, 2, 3, 4, 5, 6] rfl hJ61
            refine AW_go okX9_find 1 ?_
            obtain ⟨rfl, rfl⟩ := am_i2 hf
            exact And.intro ⟨(Nat.le_of_ble_eq_true rfl), (Nat.le_of_ble_eq_true rfl)⟩ (And.intro (Or.inl rfl) ⟨rfl, rfl⟩)
      · rw [if_neg c1] at hf
        refine AW_go okX9_find 3 ?_
        obtain ⟨r113, h114, e115, hf⟩ := am_b2_ok hf
        refine AW_callV (As := [.int x7i, .int a1]) (R' := rX9_isStateSo 0 0) (T := TX9) (N := 58) (ci := 9) (okX9_find.1 77 _ _ rfl) lkX9_isStateSo kX9_384 rfl (sK hs 51) rfl (Nat.le_of_ble_eq_true rfl) ⟨by decide, by decide⟩ ⟨(Nat.le_of_ble_eq_true rfl), (Nat.le_of_ble_eq_true rfl)⟩ (Nat.le_of_ble_eq_true rfl) (c_X9_isStateSo n x7i a1 h hs e115) (fun r h' hq => ?_)
        obtain ⟨rfl, hq⟩ := hq
        replace hq := hq.symm
        subst hq
        have hs := s_X9_isStateSo n x7i a1 h hs e115
        obtain ⟨y116, y117, j118, hf⟩ := am_b2_ok hf
        refine am_cut (P := AW mX9_find (rX9_find 0 0) (fun r h2 => r = some (.int v) ∧ h2 = h') 101 [(0, .ref 51), (1, .int a1), (2, .int a2), (3, .long x3j), (5, .int y116), (6, .int y117), (7, .int x7i)] [] h114 0 0) (fun hJ118 => ?_) ?_
        · have hs := hs
          refine AW_go okX9_find 1 ?_
          refine And.intro (fun c119 => ?_) (fun c119 => ?_)
          · rw [if_pos c119] at j118
            obtain ⟨rfl, rfl⟩ := am_i2 j118
            exact AW_pick [0, 1, 2, 3, 4, 5, 6] rfl hJ118
          · rw [if_neg c119] at j118
            refine AW_go okX9_find 2 ?_
            obtain ⟨y120, j121, j118⟩ := am_bnd j118
            refine am_cut (P := AW mX9_find (rX9_find 0 0) (fun r h2 => r = some (.int v) ∧ h2 = h') 96 [(0, .ref 51), (1, .int a1), (2, .int a2), (3, .long x3j), (5, .int x5i), (6, .int x6i), (7, .int x7i)] [.int y120] h114 0 0) (fun hJ121 => ?_) ?_
            · have hs := hs
              refine AW_go okX9_find 1 ?_
              refine And.intro (fun c122 => ?_) (fun c122 => ?_)
              · rw [if_neg c122] at j121
                refine AW_go okX9_find 1 ?_
                obtain rfl := am_i1 j121
                exact AW_pick [0, 1, 2, 3, 4, 5, 6] rfl hJ121
              · rw [if_pos c122] at j121
                refine AW_go okX9_find 2 ?_
                obtain rfl := am_i1 j121
                exact AW_pick [0, 1, 2, 3, 4, 5, 6] rfl hJ121
            refine AW_go okX9_find 2 ?_
            obtain ⟨rfl, rfl⟩ := am_i2 j118
            exact AW_pick [2, 3, 4, 5, 0, 1, 6] rfl hJ118
        refine AW_go okX9_find 2 ?_
        refine AW_pick (lv' := [(0, .ref 51), (1, .int a1), (2, .int a2), (3, .long x3j), (5, .int y116), (6, .int y117), (7, .int (x7i + Int32.ofInt 1))]) [1, 2, 3, 4, 5, 6, 0] rfl ?_
        exact ih.1 a1 a2 x3j y116 y117 (x7i + Int32.ofInt 1) 0 0 h114 _ _ hs hf
    · intro a1 a2 x3j x5i x6i x7i x8i x9i h v h' hs hf
      have hf : (bif am_vp x8i 2001 then ((if (am_I h 81 (Int32.toNatClampNeg x8i)) = (Int32.ofInt (-1)) then (if a2 = (Int32.ofInt 1) then some (x7i, h) else g_X9_find n 2 a1 a2 x3j x5i x6i x7i x6i (x7i - (Int32.ofInt 1)) h) else g_X9_find n 1 a1 a2 x3j x5i x6i (x7i + Int32.ofInt 1) (am_I h 81 (Int32.toNatClampNeg x8i)) 0 h)) else none) = some (v, h') := hf
      obtain ⟨b1, hf⟩ := am_bis hf
      refine AW_go okX9_find 6 ?_
      refine And.intro (sK hs 51) (Exists.intro _ (And.intro (sA hs 51 46) ?_))
      refine Exists.intro 2001 (And.intro (sK hs 81) (And.intro (am_vp_ok b1) ?_))
      refine And.intro (fun c2 => ?_) (fun c2 => ?_)
      · rw [if_pos c2] at hf
        refine AW_go okX9_find 3 ?_
        refine And.intro (fun c3 => ?_) (fun c3 => ?_)
        · rw [if_neg c3] at hf
          refine AW_go okX9_find 6 ?_
          refine AW_pick (lv' := [(0, .ref 51), (1, .int a1), (2, .int a2), (3, .long x3j), (5, .int x5i), (6, .int x6i), (7, .int x7i), (8, .int x6i), (9, .int (x7i - (Int32.ofInt 1)))]) [2, 3, 4, 5, 6, 7, 8, 1, 0] rfl ?_
          exact ih.2.2 a1 a2 x3j x5i x6i x7i x6i (x7i - (Int32.ofInt 1)) h _ _ hs hf
        · rw [if_pos c3] at hf
          refine AW_go okX9_find 2 ?_
          obtain ⟨rfl, rfl⟩ := am_i2 hf
          exact And.intro ⟨(Nat.le_of_ble_eq_true rfl), (Nat.le_of_ble_eq_true rfl)⟩ (And.intro (Or.inl rfl) ⟨rfl, rfl⟩)
      · rw [if_neg c2] at hf
        refine AW_go okX9_find 7 ?_
        refine And.intro (sK hs 51) (Exists.intro _ (And.intro (sA hs 51 46) ?_))
        refine Exists.intro 2001 (And.intro (sK hs 81) (And.intro (am_vp_ok b1) ?_))
        refine AW_pick (lv' := [(0, .ref 51), (1, .int a1), (2, .int a2), (3, .long x3j), (5, .int x5i), (6, .int x6i), (7, .int (x7i + Int32.ofInt 1)), (8, .int (am_I h 81 (Int32.toNatClampNeg x8i)))]) [2, 3, 4, 5, 6, 7, 1, 0] rfl ?_
        exact ih.2.1 a1 a2 x3j x5i x6i (x7i + Int32.ofInt 1) (am_I h 81 (Int32.toNatClampNeg x8i)) 0 h _ _ hs hf
    · intro a1 a2 x3j x5i x6i x7i x8i x9i h v h' hs hf
      have hf : ((if x9i ≤ (a2 - (Int32.ofInt 10)) then Option.bind ((if x7i ≤ (a2 - (Int32.ofInt 10)) then some (Int32.ofInt (-1)) else bif am_vp x8i 2001 then (some (am_I h 82 (Int32.toNatClampNeg x8i))) else none)) fun y2 => (some (y2, h)) else bif am_vp x8i 2001 then (g_X9_find n 2 a1 a2 x3j x5i x6i x7i (am_I h 81 (Int32.toNatClampNeg x8i)) (x9i + Int32.ofInt (-1)) h) else none)) = some (v, h') := hf
      refine AW_go okX9_find 5 ?_
      refine And.intro (fun c1 => ?_) (fun c1 => ?_)
      · rw [if_pos c1] at hf
        refine AW_go okX9_find 4 ?_
        obtain ⟨y2, j3, hf⟩ := am_bnd hf
        refine am_cut (P := AW mX9_find (rX9_find 0 0) (fun r h2 => r = some (.int v) ∧ h2 = h') 228 [(0, .ref 51), (1, .int a1), (2, .int a2), (3, .long x3j), (5, .int x5i), (6, .int x6i), (7, .int x7i), (8, .int x8i), (9, .int x9i)] [.int y2] h 0 0) (fun hJ3 => ?_) ?_
        · have hs := hs
          refine AW_go okX9_find 1 ?_
          refine And.intro (fun c4 => ?_) (fun c4 => ?_)
          · rw [if_pos c4] at j3
            refine AW_go okX9_find 1 ?_
            obtain rfl := am_i1 j3
            exact AW_pick [0, 1, 2, 3, 4, 5, 6, 7, 8] rfl hJ3
          · rw [if_neg c4] at j3
            obtain ⟨b5, j3⟩ := am_bis j3
            refine AW_go okX9_find 5 ?_
            refine And.intro (sK hs 51) (Exists.intro _ (And.intro (sA hs 51 47) ?_))
            refine Exists.intro 2001 (And.intro (sK hs 82) (And.intro (am_vp_ok b5) ?_))
            obtain rfl := am_i1 j3
            exact AW_pick [0, 1, 2, 3, 4, 5, 6, 7, 8] rfl hJ3
        refine AW_go okX9_find 1 ?_
        obtain ⟨rfl, rfl⟩ := am_i2 hf
        exact And.intro ⟨(Nat.le_of_ble_eq_true rfl), (Nat.le_of_ble_eq_true rfl)⟩ (And.intro (Or.inl rfl) ⟨rfl, rfl⟩)
      · rw [if_neg c1] at hf
        obtain ⟨b56, hf⟩ := am_bis hf
        refine AW_go okX9_find 7 ?_
        refine And.intro (sK hs 51) (Exists.intro _ (And.intro (sA hs 51 46) ?_))
        refine Exists.intro 2001 (And.intro (sK hs 81) (And.intro (am_vp_ok b56) ?_))
        refine AW_pick (lv' := [(0, .ref 51), (1, .int a1), (2, .int a2), (3, .long x3j), (5, .int x5i), (6, .int x6i), (7, .int x7i), (8, .int (am_I h 81 (Int32.toNatClampNeg x8i))), (9, .int (x9i + Int32.ofInt (-1)))]) [2, 3, 4, 5, 6, 7, 8, 1, 0] rfl ?_
        exact ih.2.2 a1 a2 x3j x5i x6i x7i (am_I h 81 (Int32.toNatClampNeg x8i)) (x9i + Int32.ofInt (-1)) h _ _ hs hf
def f_X9_find (n : Nat) (a1 : Int32) (a2 : Int32) (h : am_H) : Option (Int32 × am_H) := am_b2 (f_X9_within a1 (Int32.ofInt 0) (Int32.ofInt 4) h) fun r1 h2 => ((if r1 = 0 then some ((Int32.ofInt (-102)), h2) else am_b2 (f_X9_within a2 (Int32.ofInt 0) (Int32.ofInt 1) h2) fun r5 h6 => ((if r5 = 0 then am_b2 (f_X9_within a2 (Int32.ofInt 10) (Int32.ofInt 99) h6) fun r19 h20 => ((if r19 = 0 then some ((Int32.ofInt (-102)), h20) else am_b2 (f_X9_meetAll n h20) fun r23 h24 => ((if (am_I h24 51 51) = 0 then am_b2 (f_X9_layFine n h24) fun r27 h28 => (am_b2 (f_X9_asState n h28) fun r30 h31 => (g_X9_find n 0 a1 a2 r30 (Int32.ofInt 0) (Int32.ofInt (-1)) (Int32.ofInt 0) 0 0 h31)) else some ((Int32.ofInt (-2)), h24))))) else am_b2 (f_X9_meetAll n h6) fun r9 h10 => ((if (am_I h10 51 51) = 0 then am_b2 (f_X9_layFine n h10) fun r13 h14 => (am_b2 (f_X9_asState n h14) fun r16 h17 => (g_X9_find n 0 a1 a2 r16 (Int32.ofInt 0) (Int32.ofInt (-1)) (Int32.ofInt 0) 0 0 h17)) else some ((Int32.ofInt (-2)), h10)))))))
set_option maxRecDepth 100000 in
theorem s_X9_find (n : Nat) (a1 : Int32) (a2 : Int32) (h : am_H) (hs : am_stat h) {v : Int32} {h' : am_H} (hf : f_X9_find n a1 a2 h = some (v, h')) : am_stat h' := by
  unfold f_X9_find at hf
  obtain ⟨r1, h2, e3, hf⟩ := am_b2_ok hf
  have hs := s_X9_within a1 (Int32.ofInt 0) (Int32.ofInt 4) h hs e3
  by_cases c4 : r1 = 0
  · rw [if_pos c4] at hf
    obtain ⟨rfl, rfl⟩ := am_i2 hf
    exact hs
  · rw [if_neg c4] at hf
    obtain ⟨r5, h6, e7, hf⟩ := am_b2_ok hf
    have hs := s_X9_within a2 (Int32.ofInt 0) (Int32.ofInt 1) h2 hs e7
    by_cases c8 : r5 = 0
    · rw [if_pos c8] at hf
      obtain ⟨r9, h10, e11, hf⟩ := am_b2_ok hf
      have hs := s_X9_within a2 (Int32.ofInt 10) (Int32.ofInt 99) h6 hs e11
      by_cases c12 : r9 = 0
      · rw [if_pos c12] at hf
        obtain ⟨rfl, rfl⟩ := am_i2 hf
        exact hs
      · rw [if_neg c12] at hf
        obtain ⟨r13, h14, e15, hf⟩ := am_b2_ok hf
        have hs := s_X9_meetAll n h10 hs e15
        by_cases c16 : (am_I h14 51 51) = 0
        · rw [if_pos c16] at hf
          obtain ⟨r17, h18, e19, hf⟩ := am_b2_ok hf
          have hs := s_X9_layFine n h14 hs e19
          obtain ⟨r20, h21, e22, hf⟩ := am_b2_ok hf
          have hs := s_X9_asState n h18 hs e22
          exact (m_X9_find n).1 a1 a2 r20 (Int32.ofInt 0) (Int32.ofInt (-1)) (Int32.ofInt 0) 0 0 h21 _ _ hs hf
        · rw [if_neg c16] at hf
          obtain ⟨rfl, rfl⟩ := am_i2 hf
          exact hs
    · rw [if_neg c8] at hf
      obtain ⟨r23, h24, e25, hf⟩ := am_b2_ok hf
      have hs := s_X9_meetAll n h6 hs e25
      by_cases c26 : (am_I h24 51 51) = 0
      · rw [if_pos c26] at hf
        obtain ⟨r27, h28, e29, hf⟩ := am_b2_ok hf
        have hs := s_X9_layFine n h24 hs e29
        obtain ⟨r30, h31, e32, hf⟩ := am_b2_ok hf
        have hs := s_X9_asState n h28 hs e32
        exact (m_X9_find n).1 a1 a2 r30 (Int32.ofInt 0) (Int32.ofInt (-1)) (Int32.ofInt 0) 0 0 h31 _ _ hs hf
      · rw [if_neg c26] at hf
        obtain ⟨rfl, rfl⟩ := am_i2 hf
        exact hs
set_option maxRecDepth 100000 in
theorem c_X9_find (n : Nat) (a1 : Int32) (a2 : Int32) (h : am_H) (hs : am_stat h) {v : Int32} {h' : am_H} (hf : f_X9_find n a1 a2 h = some (v, h')) : AMet mX9_find (rX9_find 0 0) (fun r h2 => r = some (.int v) ∧ h2 = h') [.ref 51, .int a1, .int a2] h := by
  unfold f_X9_find at hf
  refine AW_go okX9_find 3 ?_
  obtain ⟨r1, h2, e3, hf⟩ := am_b2_ok hf
  refine AW_callS (As := [.int a1, .int (Int32.ofInt 0), .int (Int32.ofInt 4)]) (R' := rX9_within 0 0) (okX9_find.1 3 _ _ rfl) lkX9_within (Or.inl kX9_134) rfl (Nat.le_of_ble_eq_true rfl) ⟨by decide, by decide⟩ ⟨(Nat.le_of_ble_eq_true rfl), (Nat.le_of_ble_eq_true rfl)⟩ (Nat.le_of_ble_eq_true rfl) (c_X9_within a1 (Int32.ofInt 0) (Int32.ofInt 4) h hs e3) (fun r h' hq => ?_)
  obtain ⟨rfl, hq⟩ := hq
  replace hq := hq.symm
  subst hq
  have hs := s_X9_within a1 (Int32.ofInt 0) (Int32.ofInt 4) h hs e3
  refine AW_go okX9_find 1 ?_
  refine And.intro (fun c4 => ?_) (fun c4 => ?_)
  · rw [if_pos c4] at hf
    refine AW_go okX9_find 2 ?_
    obtain ⟨rfl, rfl⟩ := am_i2 hf
    exact And.intro ⟨(Nat.le_of_ble_eq_true rfl), (Nat.le_of_ble_eq_true rfl)⟩ (And.intro (Or.inl rfl) ⟨rfl, rfl⟩)
  · rw [if_neg c4] at hf
    refine AW_go okX9_find 3 ?_
    obtain ⟨r5, h6, e7, hf⟩ := am_b2_ok hf
    refine AW_callS (As := [.int a2, .int (Int32.ofInt 0), .int (Int32.ofInt 1)]) (R' := rX9_within 0 0) (okX9_find.1 12 _ _ rfl) lkX9_within (Or.inl kX9_134) rfl (Nat.le_of_ble_eq_true rfl) ⟨by decide, by decide⟩ ⟨(Nat.le_of_ble_eq_true rfl), (Nat.le_of_ble_eq_true rfl)⟩ (Nat.le_of_ble_eq_true rfl) (c_X9_within a2 (Int32.ofInt 0) (Int32.ofInt 1) h2 hs e7) (fun r h' hq => ?_)
    obtain ⟨rfl, hq⟩ := hq
    replace hq := hq.symm
    subst hq
    have hs := s_X9_within a2 (Int32.ofInt 0) (Int32.ofInt 1) h2 hs e7
    refine AW_go okX9_find 1 ?_
    refine And.intro (fun c8 => ?_) (fun c8 => ?_)
    · rw [if_neg c8] at hf
      refine AW_go okX9_find 1 ?_
      obtain ⟨r9, h10, e11, hf⟩ := am_b2_ok hf
      refine AW_callV (As := []) (R' := rX9_meetAll 0 0) (T := TX9) (N := 58) (ci := 9) (okX9_find.1 33 _ _ rfl) lkX9_meetAll kX9_378 rfl (sK hs 51) rfl (Nat.le_of_ble_eq_true rfl) ⟨by decide, by decide⟩ ⟨(Nat.le_of_ble_eq_true rfl), (Nat.le_of_ble_eq_true rfl)⟩ (Nat.le_of_ble_eq_true rfl) (c_X9_meetAll n h6 hs e11) (fun r h' hq => ?_)
      obtain ⟨rfl, hq⟩ := hq
      replace hq := hq.symm
      subst hq
      have hs := s_X9_meetAll n h6 hs e11
      refine AW_go okX9_find 3 ?_
      refine And.intro (sK hs 51) ?_
      refine And.intro (fun c12 => ?_) (fun c12 => ?_)
      · rw [if_pos c12] at hf
        refine AW_go okX9_find 1 ?_
        obtain ⟨r13, h14, e15, hf⟩ := am_b2_ok hf
        refine AW_callV (As := []) (R' := rX9_layFine 0 0) (T := TX9) (N := 58) (ci := 9) (okX9_find.1 47 _ _ rfl) lkX9_layFine kX9_381 rfl (sK hs 51) rfl (Nat.le_of_ble_eq_true rfl) ⟨by decide, by decide⟩ ⟨(Nat.le_of_ble_eq_true rfl), (Nat.le_of_ble_eq_true rfl)⟩ (Nat.le_of_ble_eq_true rfl) (c_X9_layFine n h10 hs e15) (fun r h' hq => ?_)
        obtain ⟨rfl, hq⟩ := hq
        replace hq := hq.symm
        subst hq
        have hs := s_X9_layFine n h10 hs e15
        refine AW_go okX9_find 1 ?_
        obtain ⟨r16, h17, e18, hf⟩ := am_b2_ok hf
        refine AW_callV (As := []) (R' := rX9_asState 0 0) (T := TX9) (N := 58) (ci := 9) (okX9_find.1 51 _ _ rfl) lkX9_asState kX9_350 rfl (sK hs 51) rfl (Nat.le_of_ble_eq_true rfl) ⟨by decide, by decide⟩ ⟨(Nat.le_of_ble_eq_true rfl), (Nat.le_of_ble_eq_true rfl)⟩ (Nat.le_of_ble_eq_true rfl) (c_X9_asState n h14 hs e18) (fun r h' hq => ?_)
        obtain ⟨rfl, hq⟩ := hq
        replace hq := hq.symm
        subst hq
        have hs := s_X9_asState n h14 hs e18
        refine AW_go okX9_find 7 ?_
        refine AW_pick (lv' := [(0, .ref 51), (1, .int a1), (2, .int a2), (3, .long r16), (5, .int (Int32.ofInt 0)), (6, .int (Int32.ofInt (-1))), (7, .int (Int32.ofInt 0))]) [4, 5, 6, 3, 2, 1, 0] rfl ?_
        exact (l_X9_find n).1 a1 a2 r16 (Int32.ofInt 0) (Int32.ofInt (-1)) (Int32.ofInt 0) 0 0 h17 _ _ hs hf
      · rw [if_neg c12] at hf
        refine AW_go okX9_find 2 ?_
        obtain ⟨rfl, rfl⟩ := am_i2 hf
        exact And.intro ⟨(Nat.le_of_ble_eq_true rfl), (Nat.le_of_ble_eq_true rfl)⟩ (And.intro (Or.inl rfl) ⟨rfl, rfl⟩)
    · rw [if_pos c8] at hf
      refine AW_go okX9_find 3 ?_
      obtain ⟨r19, h20, e21, hf⟩ := am_b2_ok hf
      refine AW_callS (As := [.int a2, .int (Int32.ofInt 10), .int (Int32.ofInt 99)]) (R' := rX9_within 0 0) (okX9_find.1 23 _ _ rfl) lkX9_within (Or.inl kX9_134) rfl (Nat.le_of_ble_eq_true rfl) ⟨by decide, by decide⟩ ⟨(Nat.le_of_ble_eq_true rfl), (Nat.le_of_ble_eq_true rfl)⟩ (Nat.le_of_ble_eq_true rfl) (c_X9_within a2 (Int32.ofInt 10) (Int32.ofInt 99) h6 hs e21) (fun r h' hq => ?_)
      obtain ⟨rfl, hq⟩ := hq
      replace hq := hq.symm
      subst hq
      have hs := s_X9_within a2 (Int32.ofInt 10) (Int32.ofInt 99) h6 hs e21
      refine AW_go okX9_find 1 ?_
      refine And.intro (fun c22 => ?_) (fun c22 => ?_)
      · rw [if_neg c22] at hf
        refine AW_go okX9_find 1 ?_
        obtain ⟨r23, h24, e25, hf⟩ := am_b2_ok hf
        refine AW_callV (As := []) (R' := rX9_meetAll 0 0) (T := TX9) (N := 58) (ci := 9) (okX9_find.1 33 _ _ rfl) lkX9_meetAll kX9_378 rfl (sK hs 51) rfl (Nat.le_of_ble_eq_true rfl) ⟨by decide, by decide⟩ ⟨(Nat.le_of_ble_eq_true rfl), (Nat.le_of_ble_eq_true rfl)⟩ (Nat.le_of_ble_eq_true rfl) (c_X9_meetAll n h20 hs e25) (fun r h' hq => ?_)
        obtain ⟨rfl, hq⟩ := hq
        replace hq := hq.symm
        subst hq
        have hs := s_X9_meetAll n h20 hs e25
        refine AW_go okX9_find 3 ?_
        refine And.intro (sK hs 51) ?_
        refine And.intro (fun c26 => ?_) (fun c26 => ?_)
        · rw [if_pos c26] at hf
          refine AW_go okX9_find 1 ?_
          obtain ⟨r27, h28, e29, hf⟩ := am_b2_ok hf
          refine AW_callV (As := []) (R' := rX9_layFine 0 0) (T := TX9) (N := 58) (ci := 9) (okX9_find.1 47 _ _ rfl) lkX9_layFine kX9_381 rfl (sK hs 51) rfl (Nat.le_of_ble_eq_true rfl) ⟨by decide, by decide⟩ ⟨(Nat.le_of_ble_eq_true rfl), (Nat.le_of_ble_eq_true rfl)⟩ (Nat.le_of_ble_eq_true rfl) (c_X9_layFine n h24 hs e29) (fun r h' hq => ?_)
          obtain ⟨rfl, hq⟩ := hq
          replace hq := hq.symm
          subst hq
          have hs := s_X9_layFine n h24 hs e29
          refine AW_go okX9_find 1 ?_
          obtain ⟨r30, h31, e32, hf⟩ := am_b2_ok hf
          refine AW_callV (As := []) (R' := rX9_asState 0 0) (T := TX9) (N := 58) (ci := 9) (okX9_find.1 51 _ _ rfl) lkX9_asState kX9_350 rfl (sK hs 51) rfl (Nat.le_of_ble_eq_true rfl) ⟨by decide, by decide⟩ ⟨(Nat.le_of_ble_eq_true rfl), (Nat.le_of_ble_eq_true rfl)⟩ (Nat.le_of_ble_eq_true rfl) (c_X9_asState n h28 hs e32) (fun r h' hq => ?_)
          obtain ⟨rfl, hq⟩ := hq
          replace hq := hq.symm
          subst hq
          have hs := s_X9_asState n h28 hs e32
          refine AW_go okX9_find 7 ?_
          refine AW_pick (lv' := [(0, .ref 51), (1, .int a1), (2, .int a2), (3, .long r30), (5, .int (Int32.ofInt 0)), (6, .int (Int32.ofInt (-1))), (7, .int (Int32.ofInt 0))]) [4, 5, 6, 3, 2, 1, 0] rfl ?_
          exact (l_X9_find n).1 a1 a2 r30 (Int32.ofInt 0) (Int32.ofInt (-1)) (Int32.ofInt 0) 0 0 h31 _ _ hs hf
        · rw [if_neg c26] at hf
          refine AW_go okX9_find 2 ?_
          obtain ⟨rfl, rfl⟩ := am_i2 hf
          exact And.intro ⟨(Nat.le_of_ble_eq_true rfl), (Nat.le_of_ble_eq_true rfl)⟩ (And.intro (Or.inl rfl) ⟨rfl, rfl⟩)
      · rw [if_pos c22] at hf
        refine AW_go okX9_find 2 ?_
        obtain ⟨rfl, rfl⟩ := am_i2 hf
        exact And.intro ⟨(Nat.le_of_ble_eq_true rfl), (Nat.le_of_ble_eq_true rfl)⟩ (And.intro (Or.inl rfl) ⟨rfl, rfl⟩)
def g_X9_most : Nat → Nat → Int32 → Int32 → Int64 → Int32 → Int32 → am_H → Option (Int32 × am_H)
  | 0, _, _, _, _, _, _, _ => none
  | n + 1, _, a1, a2, x3j, x5i, x6i, h => (if (am_I h 51 50) ≤ x6i then am_b2 (f_X9_layState n x3j h) fun r2 h3 => (some (x5i, h3)) else bif am_vp x6i 2001 then (am_b2 (f_X9_layState n (am_J h 80 (Int32.toNatClampNeg x6i)) h) fun r6 h7 => (bif am_vp (((Int32.ofInt 3) * a1) + a2) 9 then (am_b2 (f_X9_sizeOf (am_I h7 78 (Int32.toNatClampNeg (((Int32.ofInt 3) * a1) + a2))) h7) fun r10 h11 => (Option.bind ((if r10 ≤ x5i then some x5i else some r10)) fun y13 => (g_X9_most n 0 a1 a2 x3j y13 (x6i + Int32.ofInt 1) h11))) else none)) else none)
set_option maxRecDepth 100000 in
set_option maxHeartbeats 4000000 in
theorem m_X9_most (n : Nat) : (∀ (a1 : Int32) (a2 : Int32) (x3j : Int64) (x5i : Int32) (x6i : Int32) (h : am_H) (v : Int32) (h' : am_H), am_stat h → g_X9_most n 0 a1 a2 x3j x5i x6i h = some (v, h') → am_stat h') := by
  induction n with
  | zero => exact fun a1 a2 x3j x5i x6i h v h' hs hf => (by cases hf)
  | succ n ih =>
    skip
    · intro a1 a2 x3j x5i x6i h v h' hs hf
      have hf : ((if (am_I h 51 50) ≤ x6i then am_b2 (f_X9_layState n x3j h) fun r2 h3 => (some (x5i, h3)) else bif am_vp x6i 2001 then (am_b2 (f_X9_layState n (am_J h 80 (Int32.toNatClampNeg x6i)) h) fun r6 h7 => (bif am_vp (((Int32.ofInt 3) * a1) + a2) 9 then (am_b2 (f_X9_sizeOf (am_I h7 78 (Int32.toNatClampNeg (((Int32.ofInt 3) * a1) + a2))) h7) fun r10 h11 => (Option.bind ((if r10 ≤ x5i then some x5i else some r10)) fun y13 => (g_X9_most n 0 a1 a2 x3j y13 (x6i + Int32.ofInt 1) h11))) else none)) else none)) = some (v, h') := hf
      by_cases c1 : (am_I h 51 50) ≤ x6i
      · rw [if_pos c1] at hf
        obtain ⟨r2, h3, e4, hf⟩ := am_b2_ok hf
        have hs := s_X9_layState n x3j h hs e4
        obtain ⟨rfl, rfl⟩ := am_i2 hf
        exact hs
      · rw [if_neg c1] at hf
        obtain ⟨b5, hf⟩ := am_bis hf
        obtain ⟨r6, h7, e8, hf⟩ := am_b2_ok hf
        have hs := s_X9_layState n (am_J h 80 (Int32.toNatClampNeg x6i)) h hs e8
        obtain ⟨b9, hf⟩ := am_bis hf
        obtain ⟨r10, h11, e12, hf⟩ := am_b2_ok hf
        have hs := s_X9_sizeOf (am_I h7 78 (Int32.toNatClampNeg (((Int32.ofInt 3) * a1) + a2))) h7 hs e12
        obtain ⟨y13, j14, hf⟩ := am_bnd hf
        exact ih a1 a2 x3j y13 (x6i + Int32.ofInt 1) h11 _ _ hs hf
set_option maxRecDepth 100000 in
set_option maxHeartbeats 4000000 in
theorem l_X9_most (n : Nat) : (∀ (a1 : Int32) (a2 : Int32) (x3j : Int64) (x5i : Int32) (x6i : Int32) (h : am_H) (v : Int32) (h' : am_H), am_stat h → g_X9_most n 0 a1 a2 x3j x5i x6i h = some (v, h') → AW mX9_most (rX9_most 0 0) (fun r h2 => r = some (.int v) ∧ h2 = h') 36 [(0, .ref 51), (1, .int a1), (2, .int a2), (3, .long x3j), (5, .int x5i), (6, .int x6i)] [] h 0 0) := by
  induction n with
  | zero => exact fun a1 a2 x3j x5i x6i h v h' hs hf => (by cases hf)
  | succ n ih =>
    skip
    · intro a1 a2 x3j x5i x6i h v h' hs hf
      have hf : ((if (am_I h 51 50) ≤ x6i then am_b2 (f_X9_layState n x3j h) fun r2 h3 => (some (x5i, h3)) else bif am_vp x6i 2001 then (am_b2 (f_X9_layState n (am_J h 80 (Int32.toNatClampNeg x6i)) h) fun r6 h7 => (bif am_vp (((Int32.ofInt 3) * a1) + a2) 9 then (am_b2 (f_X9_sizeOf (am_I h7 78 (Int32.toNatClampNeg (((Int32.ofInt 3) * a1) + a2))) h7) fun r10 h11 => (Option.bind ((if r10 ≤ x5i then some x5i else some r10)) fun y13 => (g_X9_most n 0 a1 a2 x3j y13 (x6i + Int32.ofInt 1) h11))) else none)) else none)) = some (v, h') := hf
      refine AW_go okX9_most 4 ?_
      refine And.intro (sK hs 51) ?_
      refine And.intro (fun c1 => ?_) (fun c1 => ?_)
      · rw [if_pos c1] at hf
        refine AW_go okX9_most 2 ?_
        obtain ⟨r2, h3, e4, hf⟩ := am_b2_ok hf
        refine AW_callV (As := [.long x3j]) (R' := rX9_layState 0 0) (T := TX9) (N := 58) (ci := 9) (okX9_most.1 95 _ _ rfl) lkX9_layState kX9_364 rfl (sK hs 51) rfl (Nat.le_of_ble_eq_true rfl) ⟨by decide, by decide⟩ ⟨(Nat.le_of_ble_eq_true rfl), (Nat.le_of_ble_eq_true rfl)⟩ (Nat.le_of_ble_eq_true rfl) (c_X9_layState n x3j h hs e4) (fun r h' hq => ?_)
        obtain ⟨rfl, hq⟩ := hq
        replace hq := hq.symm
        subst hq
        have hs := s_X9_layState n x3j h hs e4
        refine AW_go okX9_most 2 ?_
        obtain ⟨rfl, rfl⟩ := am_i2 hf
        exact And.intro ⟨(Nat.le_of_ble_eq_true rfl), (Nat.le_of_ble_eq_true rfl)⟩ (And.intro (Or.inl rfl) ⟨rfl, rfl⟩)
      · rw [if_neg c1] at hf
        obtain ⟨b5, hf⟩ := am_bis hf
        refine AW_go okX9_most 5 ?_
        refine And.intro (sK hs 51) (Exists.intro _ (And.intro (sA hs 51 45) ?_))
        refine Exists.intro 2001 (And.intro (sK hs 80) (And.intro (am_vp_ok b5) ?_))
        obtain ⟨r6, h7, e8, hf⟩ := am_b2_ok hf
        refine AW_callV (As := [.long (am_J h 80 (Int32.toNatClampNeg x6i))]) (R' := rX9_layState 0 0) (T := TX9) (N := 58) (ci := 9) (okX9_most.1 53 _ _ rfl) lkX9_layState kX9_364 rfl (sK hs 51) rfl (Nat.le_of_ble_eq_true rfl) ⟨by decide, by decide⟩ ⟨(Nat.le_of_ble_eq_true rfl), (Nat.le_of_ble_eq_true rfl)⟩ (Nat.le_of_ble_eq_true rfl) (c_X9_layState n (am_J h 80 (Int32.toNatClampNeg x6i)) h hs e8) (fun r h' hq => ?_)
        obtain ⟨rfl, hq⟩ := hq
        replace hq := hq.symm
        subst hq
        have hs := s_X9_layState n (am_J h 80 (Int32.toNatClampNeg x6i)) h hs e8
        obtain ⟨b9, hf⟩ := am_bis hf
        refine AW_go okX9_most 8 ?_
        refine And.intro (sK hs 51) (Exists.intro _ (And.intro (sA hs 51 39) ?_))
        refine Exists.intro 9 (And.intro (sK hs 78) (And.intro (am_vp_ok b9) ?_))
        obtain ⟨r10, h11, e12, hf⟩ := am_b2_ok hf
        refine AW_callS (As := [.int (am_I h7 78 (Int32.toNatClampNeg (((Int32.ofInt 3) * a1) + a2)))]) (R' := rX9_sizeOf 0 0) (okX9_most.1 66 _ _ rfl) lkX9_sizeOf (Or.inl kX9_270) rfl (Nat.le_of_ble_eq_true rfl) ⟨by decide, by decide⟩ ⟨(Nat.le_of_ble_eq_true rfl), (Nat.le_of_ble_eq_true rfl)⟩ (Nat.le_of_ble_eq_true rfl) (c_X9_sizeOf (am_I h7 78 (Int32.toNatClampNeg (((Int32.ofInt 3) * a1) + a2))) h7 hs e12) (fun r h' hq => ?_)
        obtain ⟨rfl, hq⟩ := hq
        replace hq := hq.symm
        subst hq
        have hs := s_X9_sizeOf (am_I h7 78 (Int32.toNatClampNeg (((Int32.ofInt 3) * a1) + a2))) h7 hs e12
        refine AW_go okX9_most 3 ?_
        obtain ⟨y13, j14, hf⟩ := am_bnd hf
        refine am_cut (P := AW mX9_most (rX9_most 0 0) (fun r h2 => r = some (.int v) ∧ h2 = h') 85 [(0, .ref 51), (1, .int a1), (2, .int a2), (3, .long x3j), (5, .int x5i), (6, .int x6i), (7, .int r10)] [.int y13] h11 0 0) (fun hJ14 => ?_) ?_
        · have hs := hs
          refine AW_go okX9_most 1 ?_
          refine And.intro (fun c15 => ?_) (fun c15 => ?_)
          · rw [if_pos c15] at j14
            refine AW_go okX9_most 1 ?_
            obtain rfl := am_i1 j14
            exact AW_pick [1, 2, 3, 4, 5, 6, 0] rfl hJ14
          · rw [if_neg c15] at j14
            refine AW_go okX9_most 2 ?_
            obtain rfl := am_i1 j14
            exact AW_pick [1, 2, 3, 4, 5, 6, 0] rfl hJ14
        refine AW_go okX9_most 3 ?_
        refine AW_pick (lv' := [(0, .ref 51), (1, .int a1), (2, .int a2), (3, .long x3j), (5, .int y13), (6, .int (x6i + Int32.ofInt 1))]) [2, 3, 4, 5, 1, 0] rfl ?_
        exact ih a1 a2 x3j y13 (x6i + Int32.ofInt 1) h11 _ _ hs hf
def f_X9_most (n : Nat) (a1 : Int32) (a2 : Int32) (h : am_H) : Option (Int32 × am_H) := am_b2 (f_X9_isPost a1 a2 h) fun r1 h2 => ((if r1 = 0 then some ((Int32.ofInt (-101)), h2) else am_b2 (f_X9_meetAll n h2) fun r5 h6 => ((if (am_I h6 51 51) = 0 then am_b2 (f_X9_asState n h6) fun r9 h10 => (g_X9_most n 0 a1 a2 r9 (Int32.ofInt 0) (Int32.ofInt 0) h10) else some ((Int32.ofInt (-2)), h6)))))
set_option maxRecDepth 100000 in
theorem s_X9_most (n : Nat) (a1 : Int32) (a2 : Int32) (h : am_H) (hs : am_stat h) {v : Int32} {h' : am_H} (hf : f_X9_most n a1 a2 h = some (v, h')) : am_stat h' := by
  unfold f_X9_most at hf
  obtain ⟨r1, h2, e3, hf⟩ := am_b2_ok hf
  have hs := s_X9_isPost a1 a2 h hs e3
  by_cases c4 : r1 = 0
  · rw [if_pos c4] at hf
    obtain ⟨rfl, rfl⟩ := am_i2 hf
    exact hs
  · rw [if_neg c4] at hf
    obtain ⟨r5, h6, e7, hf⟩ := am_b2_ok hf
    have hs := s_X9_meetAll n h2 hs e7
    by_cases c8 : (am_I h6 51 51) = 0
    · rw [if_pos c8] at hf
      obtain ⟨r9, h10, e11, hf⟩ := am_b2_ok hf
      have hs := s_X9_asState n h6 hs e11
      exact (m_X9_most n) a1 a2 r9 (Int32.ofInt 0) (Int32.ofInt 0) h10 _ _ hs hf
    · rw [if_neg c8] at hf
      obtain ⟨rfl, rfl⟩ := am_i2 hf
      exact hs
set_option maxRecDepth 100000 in
theorem c_X9_most (n : Nat) (a1 : Int32) (a2 : Int32) (h : am_H) (hs : am_stat h) {v : Int32} {h' : am_H} (hf : f_X9_most n a1 a2 h = some (v, h')) : AMet mX9_most (rX9_most 0 0) (fun r h2 => r = some (.int v) ∧ h2 = h') [.ref 51, .int a1, .int a2] h := by
  unfold f_X9_most at hf
  refine AW_go okX9_most 2 ?_
  obtain ⟨r1, h2, e3, hf⟩ := am_b2_ok hf
  refine AW_callS (As := [.int a1, .int a2]) (R' := rX9_isPost 0 0) (okX9_most.1 2 _ _ rfl) lkX9_isPost (Or.inl kX9_267) rfl (Nat.le_of_ble_eq_true rfl) ⟨by decide, by decide⟩ ⟨(Nat.le_of_ble_eq_true rfl), (Nat.le_of_ble_eq_true rfl)⟩ (Nat.le_of_ble_eq_true rfl) (c_X9_isPost a1 a2 h hs e3) (fun r h' hq => ?_)
  obtain ⟨rfl, hq⟩ := hq
  replace hq := hq.symm
  subst hq
  have hs := s_X9_isPost a1 a2 h hs e3
  refine AW_go okX9_most 1 ?_
  refine And.intro (fun c4 => ?_) (fun c4 => ?_)
  · rw [if_neg c4] at hf
    refine AW_go okX9_most 1 ?_
    obtain ⟨r5, h6, e7, hf⟩ := am_b2_ok hf
    refine AW_callV (As := []) (R' := rX9_meetAll 0 0) (T := TX9) (N := 58) (ci := 9) (okX9_most.1 12 _ _ rfl) lkX9_meetAll kX9_378 rfl (sK hs 51) rfl (Nat.le_of_ble_eq_true rfl) ⟨by decide, by decide⟩ ⟨(Nat.le_of_ble_eq_true rfl), (Nat.le_of_ble_eq_true rfl)⟩ (Nat.le_of_ble_eq_true rfl) (c_X9_meetAll n h2 hs e7) (fun r h' hq => ?_)
    obtain ⟨rfl, hq⟩ := hq
    replace hq := hq.symm
    subst hq
    have hs := s_X9_meetAll n h2 hs e7
    refine AW_go okX9_most 3 ?_
    refine And.intro (sK hs 51) ?_
    refine And.intro (fun c8 => ?_) (fun c8 => ?_)
    · rw [if_pos c8] at hf
      refine AW_go okX9_most 1 ?_
      obtain ⟨r9, h10, e11, hf⟩ := am_b2_ok hf
      refine AW_callV (As := []) (R' := rX9_asState 0 0) (T := TX9) (N := 58) (ci := 9) (okX9_most.1 26 _ _ rfl) lkX9_asState kX9_350 rfl (sK hs 51) rfl (Nat.le_of_ble_eq_true rfl) ⟨by decide, by decide⟩ ⟨(Nat.le_of_ble_eq_true rfl), (Nat.le_of_ble_eq_true rfl)⟩ (Nat.le_of_ble_eq_true rfl) (c_X9_asState n h6 hs e11) (fun r h' hq => ?_)
      obtain ⟨rfl, hq⟩ := hq
      replace hq := hq.symm
      subst hq
      have hs := s_X9_asState n h6 hs e11
      refine AW_go okX9_most 5 ?_
      refine AW_pick (lv' := [(0, .ref 51), (1, .int a1), (2, .int a2), (3, .long r9), (5, .int (Int32.ofInt 0)), (6, .int (Int32.ofInt 0))]) [3, 4, 5, 2, 1, 0] rfl ?_
      exact (l_X9_most n) a1 a2 r9 (Int32.ofInt 0) (Int32.ofInt 0) h10 _ _ hs hf
    · rw [if_neg c8] at hf
      refine AW_go okX9_most 2 ?_
      obtain ⟨rfl, rfl⟩ := am_i2 hf
      exact And.intro ⟨(Nat.le_of_ble_eq_true rfl), (Nat.le_of_ble_eq_true rfl)⟩ (And.intro (Or.inl rfl) ⟨rfl, rfl⟩)
  · rw [if_pos c4] at hf
    refine AW_go okX9_most 2 ?_
    obtain ⟨rfl, rfl⟩ := am_i2 hf
    exact And.intro ⟨(Nat.le_of_ble_eq_true rfl), (Nat.le_of_ble_eq_true rfl)⟩ (And.intro (Or.inl rfl) ⟨rfl, rfl⟩)
def g_X9_isWell : Nat → Nat → Int64 → Int32 → Int32 → am_H → Option (Int32 × am_H)
  | 0, _, _, _, _, _ => none
  | n + 1, _, x1j, x3i, x4i, h => (if (am_I h 51 50) ≤ x4i then am_b2 (f_X9_layState n x1j h) fun r2 h3 => (bif am_b01 x3i then (some (x3i, h3)) else none) else (if x3i = 0 then am_b2 (f_X9_layState n x1j h) fun r7 h8 => (bif am_b01 x3i then (some (x3i, h8)) else none) else bif am_vp x4i 2001 then (am_b2 ((if (am_I h 83 (Int32.toNatClampNeg x4i)) = 0 then some ((Int32.ofInt 0), h) else am_b2 (f_X9_isStateSo n x4i (Int32.ofInt 0) h) fun r16 h17 => ((if r16 = 0 then am_b2 (f_X9_isStateSo n x4i (Int32.ofInt 1) h17) fun r20 h21 => ((if r20 = 0 then am_b2 (f_X9_isStateSo n x4i (Int32.ofInt 2) h21) fun r24 h25 => ((if r24 = 0 then some ((Int32.ofInt 1), h25) else some ((Int32.ofInt 0), h25))) else some ((Int32.ofInt 0), h21))) else some ((Int32.ofInt 0), h17))))) fun y12 h13 => (g_X9_isWell n 0 x1j y12 (x4i + Int32.ofInt 1) h13)) else none))
set_option maxRecDepth 100000 in
set_option maxHeartbeats 4000000 in
theorem m_X9_isWell (n : Nat) : (∀ (x1j : Int64) (x3i : Int32) (x4i : Int32) (h : am_H) (v : Int32) (h' : am_H), am_stat h → g_X9_isWell n 0 x1j x3i x4i h = some (v, h') → am_stat h') := by
  induction n with
  | zero => exact fun x1j x3i x4i h v h' hs hf => (by cases hf)
  | succ n ih =>
    skip
    · intro x1j x3i x4i h v h' hs hf
      have hf : ((if (am_I h 51 50) ≤ x4i then am_b2 (f_X9_layState n x1j h) fun r2 h3 => (bif am_b01 x3i then (some (x3i, h3)) else none) else (if x3i = 0 then am_b2 (f_X9_layState n x1j h) fun r7 h8 => (bif am_b01 x3i then (some (x3i, h8)) else none) else bif am_vp x4i 2001 then (am_b2 ((if (am_I h 83 (Int32.toNatClampNeg x4i)) = 0 then some ((Int32.ofInt 0), h) else am_b2 (f_X9_isStateSo n x4i (Int32.ofInt 0) h) fun r16 h17 => ((if r16 = 0 then am_b2 (f_X9_isStateSo n x4i (Int32.ofInt 1) h17) fun r20 h21 => ((if r20 = 0 then am_b2 (f_X9_isStateSo n x4i (Int32.ofInt 2) h21) fun r24 h25 => ((if r24 = 0 then some ((Int32.ofInt 1), h25) else some ((Int32.ofInt 0), h25))) else some ((Int32.ofInt 0), h21))) else some ((Int32.ofInt 0), h17))))) fun y12 h13 => (g_X9_isWell n 0 x1j y12 (x4i + Int32.ofInt 1) h13)) else none))) = some (v, h') := hf
      by_cases c1 : (am_I h 51 50) ≤ x4i
      · rw [if_pos c1] at hf
        obtain ⟨r2, h3, e4, hf⟩ := am_b2_ok hf
        have hs := s_X9_layState n x1j h hs e4
        obtain ⟨b5, hf⟩ := am_bis hf
        obtain ⟨rfl, rfl⟩ := am_i2 hf
        exact hs
      · rw [if_neg c1] at hf
        by_cases c6 : x3i = 0
        · rw [if_pos c6] at hf
          obtain ⟨r7, h8, e9, hf⟩ := am_b2_ok hf
          have hs := s_X9_layState n x1j h hs e9
          obtain ⟨b10, hf⟩ := am_bis hf
          obtain ⟨rfl, rfl⟩ := am_i2 hf
          exact hs
        · rw [if_neg c6] at hf
          obtain ⟨b11, hf⟩ := am_bis hf
          obtain ⟨y12, h13, j14, hf⟩ := am_b2_ok hf
          have hs0 := hs
          have hs : am_stat h13 := by
            have hs := hs0
            by_cases c15 : (am_I h 83 (Int32.toNatClampNeg x4i)) = 0
            · rw [if_pos c15] at j14
              obtain ⟨rfl, rfl⟩ := am_i2 j14
              exact hs
            · rw [if_neg c15] at j14
              obtain ⟨r16, h17, e18, j14⟩ := am_b2_ok j14
              have hs := s_X9_isStateSo n x4i (Int32.ofInt 0) h hs e18
              by_cases c19 : r16 = 0
              · rw [if_pos c19] at j14
                obtain ⟨r20, h21, e22, j14⟩ := am_b2_ok j14
                have hs := s_X9_isStateSo n x4i (Int32.ofInt 1) h17 hs e22
                by_cases c23 : r20 = 0
                · rw [if_pos c23] at j14
                  obtain ⟨r24, h25, e26, j14⟩ := am_b2_ok j14
                  have hs := s_X9_isStateSo n x4i (Int32.ofInt 2) h21 hs e26
                  by_cases c27 : r24 = 0
                  · rw [if_pos c27] at j14
                    obtain ⟨rfl, rfl⟩ := am_i2 j14
                    exact hs
                  · rw [if_neg c27] at j14
                    obtain ⟨rfl, rfl⟩ := am_i2 j14
                    exact hs
                · rw [if_neg c23] at j14
                  obtain ⟨rfl, rfl⟩ := am_i2 j14
                  exact hs
              · rw [if_neg c19] at j14
                obtain ⟨rfl, rfl⟩ := am_i2 j14
                exact hs
          exact ih x1j y12 (x4i + Int32.ofInt 1) h13 _ _ hs hf
set_option maxRecDepth 100000 in
set_option maxHeartbeats 4000000 in
theorem l_X9_isWell (n : Nat) : (∀ (x1j : Int64) (x3i : Int32) (x4i : Int32) (h : am_H) (v : Int32) (h' : am_H), am_stat h → g_X9_isWell n 0 x1j x3i x4i h = some (v, h') → AW mX9_isWell (rX9_isWell 0 0) (fun r h2 => r = some (.int v) ∧ h2 = h') 27 [(0, .ref 51), (1, .long x1j), (3, .int x3i), (4, .int x4i)] [] h 0 0) := by
  induction n with
  | zero => exact fun x1j x3i x4i h v h' hs hf => (by cases hf)
  | succ n ih =>
    skip
    · intro x1j x3i x4i h v h' hs hf
      have hf : ((if (am_I h 51 50) ≤ x4i then am_b2 (f_X9_layState n x1j h) fun r2 h3 => (bif am_b01 x3i then (some (x3i, h3)) else none) else (if x3i = 0 then am_b2 (f_X9_layState n x1j h) fun r7 h8 => (bif am_b01 x3i then (some (x3i, h8)) else none) else bif am_vp x4i 2001 then (am_b2 ((if (am_I h 83 (Int32.toNatClampNeg x4i)) = 0 then some ((Int32.ofInt 0), h) else am_b2 (f_X9_isStateSo n x4i (Int32.ofInt 0) h) fun r16 h17 => ((if r16 = 0 then am_b2 (f_X9_isStateSo n x4i (Int32.ofInt 1) h17) fun r20 h21 => ((if r20 = 0 then am_b2 (f_X9_isStateSo n x4i (Int32.ofInt 2) h21) fun r24 h25 => ((if r24 = 0 then some ((Int32.ofInt 1), h25) else some ((Int32.ofInt 0), h25))) else some ((Int32.ofInt 0), h21))) else some ((Int32.ofInt 0), h17))))) fun y12 h13 => (g_X9_isWell n 0 x1j y12 (x4i + Int32.ofInt 1) h13)) else none))) = some (v, h') := hf
      refine AW_go okX9_isWell 4 ?_
      refine And.intro (sK hs 51) ?_
      refine And.intro (fun c1 => ?_) (fun c1 => ?_)
      · rw [if_pos c1] at hf
        refine AW_go okX9_isWell 2 ?_
        obtain ⟨r2, h3, e4, hf⟩ := am_b2_ok hf
        refine AW_callV (As := [.long x1j]) (R' := rX9_layState 0 0) (T := TX9) (N := 58) (ci := 9) (okX9_isWell.1 94 _ _ rfl) lkX9_layState kX9_364 rfl (sK hs 51) rfl (Nat.le_of_ble_eq_true rfl) ⟨by decide, by decide⟩ ⟨(Nat.le_of_ble_eq_true rfl), (Nat.le_of_ble_eq_true rfl)⟩ (Nat.le_of_ble_eq_true rfl) (c_X9_layState n x1j h hs e4) (fun r h' hq => ?_)
        obtain ⟨rfl, hq⟩ := hq
        replace hq := hq.symm
        subst hq
        have hs := s_X9_layState n x1j h hs e4
        obtain ⟨b5, hf⟩ := am_bis hf
        refine AW_go okX9_isWell 2 ?_
        obtain ⟨rfl, rfl⟩ := am_i2 hf
        exact And.intro ⟨(Nat.le_of_ble_eq_true rfl), (Nat.le_of_ble_eq_true rfl)⟩ (And.intro (Or.inr ⟨rfl, am_b01_ok b5⟩) ⟨rfl, rfl⟩)
      · rw [if_neg c1] at hf
        refine AW_go okX9_isWell 2 ?_
        refine And.intro (fun c6 => ?_) (fun c6 => ?_)
        · rw [if_pos c6] at hf
          refine AW_go okX9_isWell 2 ?_
          obtain ⟨r7, h8, e9, hf⟩ := am_b2_ok hf
          refine AW_callV (As := [.long x1j]) (R' := rX9_layState 0 0) (T := TX9) (N := 58) (ci := 9) (okX9_isWell.1 94 _ _ rfl) lkX9_layState kX9_364 rfl (sK hs 51) rfl (Nat.le_of_ble_eq_true rfl) ⟨by decide, by decide⟩ ⟨(Nat.le_of_ble_eq_true rfl), (Nat.le_of_ble_eq_true rfl)⟩ (Nat.le_of_ble_eq_true rfl) (c_X9_layState n x1j h hs e9) (fun r h' hq => ?_)
          obtain ⟨rfl, hq⟩ := hq
          replace hq := hq.symm
          subst hq
          have hs := s_X9_layState n x1j h hs e9
          obtain ⟨b10, hf⟩ := am_bis hf
          refine AW_go okX9_isWell 2 ?_
          obtain ⟨rfl, rfl⟩ := am_i2 hf
          exact And.intro ⟨(Nat.le_of_ble_eq_true rfl), (Nat.le_of_ble_eq_true rfl)⟩ (And.intro (Or.inr ⟨rfl, am_b01_ok b10⟩) ⟨rfl, rfl⟩)
        · rw [if_neg c6] at hf
          obtain ⟨b11, hf⟩ := am_bis hf
          refine AW_go okX9_isWell 4 ?_
          refine And.intro (sK hs 51) (Exists.intro _ (And.intro (sA hs 51 48) ?_))
          refine Exists.intro 2 (Exists.intro 2001 (And.intro (by decide) (And.intro (sK hs 83) (And.intro (am_vp_ok b11) ?_))))
          obtain ⟨y12, h13, j14, hf⟩ := am_b2_ok hf
          have hs0 := hs
          have hs : am_stat h13 := by
            have hs := hs0
            by_cases c15 : (am_I h 83 (Int32.toNatClampNeg x4i)) = 0
            · rw [if_pos c15] at j14
              obtain ⟨rfl, rfl⟩ := am_i2 j14
              exact hs
            · rw [if_neg c15] at j14
              obtain ⟨r16, h17, e18, j14⟩ := am_b2_ok j14
              have hs := s_X9_isStateSo n x4i (Int32.ofInt 0) h hs e18
              by_cases c19 : r16 = 0
              · rw [if_pos c19] at j14
                obtain ⟨r20, h21, e22, j14⟩ := am_b2_ok j14
                have hs := s_X9_isStateSo n x4i (Int32.ofInt 1) h17 hs e22
                by_cases c23 : r20 = 0
                · rw [if_pos c23] at j14
                  obtain ⟨r24, h25, e26, j14⟩ := am_b2_ok j14
                  have hs := s_X9_isStateSo n x4i (Int32.ofInt 2) h21 hs e26
                  by_cases c27 : r24 = 0
                  · rw [if_pos c27] at j14
                    obtain ⟨rfl, rfl⟩ := am_i2 j14
                    exact hs
                  · rw [if_neg c27] at j14
                    obtain ⟨rfl, rfl⟩ := am_i2 j14
                    exact hs
                · rw [if_neg c23] at j14
                  obtain ⟨rfl, rfl⟩ := am_i2 j14
                  exact hs
              · rw [if_neg c19] at j14
                obtain ⟨rfl, rfl⟩ := am_i2 j14
                exact hs
          refine am_cut (P := AW mX9_isWell (rX9_isWell 0 0) (fun r h2 => r = some (.int v) ∧ h2 = h') 85 [(0, .ref 51), (1, .long x1j), (3, .int x3i), (4, .int x4i)] [.int y12] h13 0 0) (fun hJ14 => ?_) ?_
          · have hs := hs0
            refine AW_go okX9_isWell 1 ?_
            refine And.intro (fun c15 => ?_) (fun c15 => ?_)
            · rw [if_pos c15] at j14
              refine AW_go okX9_isWell 1 ?_
              obtain ⟨rfl, rfl⟩ := am_i2 j14
              exact AW_pick [0, 1, 2, 3] rfl hJ14
            · rw [if_neg c15] at j14
              refine AW_go okX9_isWell 3 ?_
              obtain ⟨r16, h17, e18, j14⟩ := am_b2_ok j14
              refine AW_callV (As := [.int x4i, .int (Int32.ofInt 0)]) (R' := rX9_isStateSo 0 0) (T := TX9) (N := 58) (ci := 9) (okX9_isWell.1 54 _ _ rfl) lkX9_isStateSo kX9_384 rfl (sK hs 51) rfl (Nat.le_of_ble_eq_true rfl) ⟨by decide, by decide⟩ ⟨(Nat.le_of_ble_eq_true rfl), (Nat.le_of_ble_eq_true rfl)⟩ (Nat.le_of_ble_eq_true rfl) (c_X9_isStateSo n x4i (Int32.ofInt 0) h hs e18) (fun r h' hq => ?_)
              obtain ⟨rfl, hq⟩ := hq
              replace hq := hq.symm
              subst hq
              have hs := s_X9_isStateSo n x4i (Int32.ofInt 0) h hs e18
              refine AW_go okX9_isWell 1 ?_
              refine And.intro (fun c19 => ?_) (fun c19 => ?_)
              · rw [if_neg c19] at j14
                refine AW_go okX9_isWell 1 ?_
                obtain ⟨rfl, rfl⟩ := am_i2 j14
                exact AW_pick [0, 1, 2, 3] rfl hJ14
              · rw [if_pos c19] at j14
                refine AW_go okX9_isWell 3 ?_
                obtain ⟨r20, h21, e22, j14⟩ := am_b2_ok j14
                refine AW_callV (As := [.int x4i, .int (Int32.ofInt 1)]) (R' := rX9_isStateSo 0 0) (T := TX9) (N := 58) (ci := 9) (okX9_isWell.1 64 _ _ rfl) lkX9_isStateSo kX9_384 rfl (sK hs 51) rfl (Nat.le_of_ble_eq_true rfl) ⟨by decide, by decide⟩ ⟨(Nat.le_of_ble_eq_true rfl), (Nat.le_of_ble_eq_true rfl)⟩ (Nat.le_of_ble_eq_true rfl) (c_X9_isStateSo n x4i (Int32.ofInt 1) h17 hs e22) (fun r h' hq => ?_)
                obtain ⟨rfl, hq⟩ := hq
                replace hq := hq.symm
                subst hq
                have hs := s_X9_isStateSo n x4i (Int32.ofInt 1) h17 hs e22
                refine AW_go okX9_isWell 1 ?_
                refine And.intro (fun c23 => ?_) (fun c23 => ?_)
                · rw [if_neg c23] at j14
                  refine AW_go okX9_isWell 1 ?_
                  obtain ⟨rfl, rfl⟩ := am_i2 j14
                  exact AW_pick [0, 1, 2, 3] rfl hJ14
                · rw [if_pos c23] at j14
                  refine AW_go okX9_isWell 3 ?_
                  obtain ⟨r24, h25, e26, j14⟩ := am_b2_ok j14
                  refine AW_callV (As := [.int x4i, .int (Int32.ofInt 2)]) (R' := rX9_isStateSo 0 0) (T := TX9) (N := 58) (ci := 9) (okX9_isWell.1 74 _ _ rfl) lkX9_isStateSo kX9_384 rfl (sK hs 51) rfl (Nat.le_of_ble_eq_true rfl) ⟨by decide, by decide⟩ ⟨(Nat.le_of_ble_eq_true rfl), (Nat.le_of_ble_eq_true rfl)⟩ (Nat.le_of_ble_eq_true rfl) (c_X9_isStateSo n x4i (Int32.ofInt 2) h21 hs e26) (fun r h' hq => ?_)
                  obtain ⟨rfl, hq⟩ := hq
                  replace hq := hq.symm
                  subst hq
                  have hs := s_X9_isStateSo n x4i (Int32.ofInt 2) h21 hs e26
                  refine AW_go okX9_isWell 1 ?_
                  refine And.intro (fun c27 => ?_) (fun c27 => ?_)
                  · rw [if_neg c27] at j14
                    refine AW_go okX9_isWell 1 ?_
                    obtain ⟨rfl, rfl⟩ := am_i2 j14
                    exact AW_pick [0, 1, 2, 3] rfl hJ14
                  · rw [if_pos c27] at j14
                    refine AW_go okX9_isWell 2 ?_
                    obtain ⟨rfl, rfl⟩ := am_i2 j14
                    exact AW_pick [0, 1, 2, 3] rfl hJ14
          refine AW_go okX9_isWell 3 ?_
          refine AW_pick (lv' := [(0, .ref 51), (1, .long x1j), (3, .int y12), (4, .int (x4i + Int32.ofInt 1))]) [2, 3, 1, 0] rfl ?_
          exact ih x1j y12 (x4i + Int32.ofInt 1) h13 _ _ hs hf
def f_X9_isWell (n : Nat) (h : am_H) : Option (Int32 × am_H) := am_b2 (f_X9_meetAll n h) fun r1 h2 => ((if (am_I h2 51 51) = 0 then am_b2 (f_X9_asState n h2) fun r5 h6 => (am_b2 (f_X9_layFine n h6) fun r8 h9 => (g_X9_isWell n 0 r5 (Int32.ofInt 1) (Int32.ofInt 0) h9)) else some ((Int32.ofInt 0), h2)))
set_option maxRecDepth 100000 in
theorem s_X9_isWell (n : Nat) (h : am_H) (hs : am_stat h) {v : Int32} {h' : am_H} (hf : f_X9_isWell n h = some (v, h')) : am_stat h' := by
  unfold f_X9_isWell at hf
  obtain ⟨r1, h2, e3, hf⟩ := am_b2_ok hf
  have hs := s_X9_meetAll n h hs e3
  by_cases c4 : (am_I h2 51 51) = 0
  · rw [if_pos c4] at hf
    obtain ⟨r5, h6, e7, hf⟩ := am_b2_ok hf
    have hs := s_X9_asState n h2 hs e7
    obtain ⟨r8, h9, e10, hf⟩ := am_b2_ok hf
    have hs := s_X9_layFine n h6 hs e10
    exact (m_X9_isWell n) r5 (Int32.ofInt 1) (Int32.ofInt 0) h9 _ _ hs hf
  · rw [if_neg c4] at hf
    obtain ⟨rfl, rfl⟩ := am_i2 hf
    exact hs
set_option maxRecDepth 100000 in
theorem c_X9_isWell (n : Nat) (h : am_H) (hs : am_stat h) {v : Int32} {h' : am_H} (hf : f_X9_isWell n h = some (v, h')) : AMet mX9_isWell (rX9_isWell 0 0) (fun r h2 => r = some (.int v) ∧ h2 = h') [.ref 51] h := by
  unfold f_X9_isWell at hf
  refine AW_go okX9_isWell 1 ?_
  obtain ⟨r1, h2, e3, hf⟩ := am_b2_ok hf
  refine AW_callV (As := []) (R' := rX9_meetAll 0 0) (T := TX9) (N := 58) (ci := 9) (okX9_isWell.1 1 _ _ rfl) lkX9_meetAll kX9_378 rfl (sK hs 51) rfl (Nat.le_of_ble_eq_true rfl) ⟨by decide, by decide⟩ ⟨(Nat.le_of_ble_eq_true rfl), (Nat.le_of_ble_eq_true rfl)⟩ (Nat.le_of_ble_eq_true rfl) (c_X9_meetAll n h hs e3) (fun r h' hq => ?_)
  obtain ⟨rfl, hq⟩ := hq
  replace hq := hq.symm
  subst hq
  have hs := s_X9_meetAll n h hs e3
  refine AW_go okX9_isWell 3 ?_
  refine And.intro (sK hs 51) ?_
  refine And.intro (fun c4 => ?_) (fun c4 => ?_)
  · rw [if_pos c4] at hf
    refine AW_go okX9_isWell 1 ?_
    obtain ⟨r5, h6, e7, hf⟩ := am_b2_ok hf
    refine AW_callV (As := []) (R' := rX9_asState 0 0) (T := TX9) (N := 58) (ci := 9) (okX9_isWell.1 14 _ _ rfl) lkX9_asState kX9_350 rfl (sK hs 51) rfl (Nat.le_of_ble_eq_true rfl) ⟨by decide, by decide⟩ ⟨(Nat.le_of_ble_eq_true rfl), (Nat.le_of_ble_eq_true rfl)⟩ (Nat.le_of_ble_eq_true rfl) (c_X9_asState n h2 hs e7) (fun r h' hq => ?_)
    obtain ⟨rfl, hq⟩ := hq
    replace hq := hq.symm
    subst hq
    have hs := s_X9_asState n h2 hs e7
    refine AW_go okX9_isWell 2 ?_
    obtain ⟨r8, h9, e10, hf⟩ := am_b2_ok hf
    refine AW_callV (As := []) (R' := rX9_layFine 0 0) (T := TX9) (N := 58) (ci := 9) (okX9_isWell.1 19 _ _ rfl) lkX9_layFine kX9_381 rfl (sK hs 51) rfl (Nat.le_of_ble_eq_true rfl) ⟨by decide, by decide⟩ ⟨(Nat.le_of_ble_eq_true rfl), (Nat.le_of_ble_eq_true rfl)⟩ (Nat.le_of_ble_eq_true rfl) (c_X9_layFine n h6 hs e10) (fun r h' hq => ?_)
    obtain ⟨rfl, hq⟩ := hq
    replace hq := hq.symm
    subst hq
    have hs := s_X9_layFine n h6 hs e10
    refine AW_go okX9_isWell 4 ?_
    refine AW_pick (lv' := [(0, .ref 51), (1, .long r5), (3, .int (Int32.ofInt 1)), (4, .int (Int32.ofInt 0))]) [3, 2, 1, 0] rfl ?_
    exact (l_X9_isWell n) r5 (Int32.ofInt 1) (Int32.ofInt 0) h9 _ _ hs hf
  · rw [if_neg c4] at hf
    refine AW_go okX9_isWell 2 ?_
    obtain ⟨rfl, rfl⟩ := am_i2 hf
    exact And.intro ⟨(Nat.le_of_ble_eq_true rfl), (Nat.le_of_ble_eq_true rfl)⟩ (And.intro (Or.inr ⟨rfl, Or.inl rfl⟩) ⟨rfl, rfl⟩)
