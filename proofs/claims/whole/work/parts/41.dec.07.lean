def g_X9_areAlike : Nat → Nat → Int32 → Int32 → Int32 → Int32 → am_H → Option (Int32 × am_H)
  | 0, _, _, _, _, _, _ => none
  | n + 1, _, a1, a2, x3i, x4i, h => (if (Int32.ofInt 24) ≤ x4i then bif am_b01 x3i then (some (x3i, h)) else none else (if x3i = 0 then bif am_b01 x3i then (some (x3i, h)) else none else bif am_vp (((Int32.ofInt 24) * a1) + x4i) 98304 then (bif am_vp (((Int32.ofInt 24) * a2) + x4i) 98304 then (Option.bind ((if (am_I h 68 (Int32.toNatClampNeg (((Int32.ofInt 24) * a1) + x4i))) = (Int32.ofInt (-1)) then some (Int32.ofInt (-1)) else bif am_vp (am_I h 68 (Int32.toNatClampNeg (((Int32.ofInt 24) * a1) + x4i))) 4096 then (some (am_I h 70 (Int32.toNatClampNeg (am_I h 68 (Int32.toNatClampNeg (((Int32.ofInt 24) * a1) + x4i)))))) else none)) fun y7 => (Option.bind ((if (am_I h 68 (Int32.toNatClampNeg (((Int32.ofInt 24) * a2) + x4i))) = (Int32.ofInt (-1)) then some (Int32.ofInt (-1)) else bif am_vp (am_I h 68 (Int32.toNatClampNeg (((Int32.ofInt 24) * a2) + x4i))) 4096 then (some (am_I h 70 (Int32.toNatClampNeg (am_I h 68 (Int32.toNatClampNeg (((Int32.ofInt 24) * a2) + x4i)))))) else none)) fun y61 => (Option.bind ((if y7 = y61 then some (Int32.ofInt 1) else some (Int32.ofInt 0))) fun y115 => (g_X9_areAlike n 0 a1 a2 y115 (x4i + Int32.ofInt 1) h)))) else none) else none))
set_option maxRecDepth 100000 in
set_option maxHeartbeats 4000000 in
theorem m_X9_areAlike (n : Nat) : (∀ (a1 : Int32) (a2 : Int32) (x3i : Int32) (x4i : Int32) (h : am_H) (v : Int32) (h' : am_H), am_stat h → g_X9_areAlike n 0 a1 a2 x3i x4i h = some (v, h') → am_stat h') := by
  induction n with
  | zero => exact fun a1 a2 x3i x4i h v h' hs hf => (by cases hf)
  | succ n ih =>
    skip
    · intro a1 a2 x3i x4i h v h' hs hf
      have hf : ((if (Int32.ofInt 24) ≤ x4i then bif am_b01 x3i then (some (x3i, h)) else none else (if x3i = 0 then bif am_b01 x3i then (some (x3i, h)) else none else bif am_vp (((Int32.ofInt 24) * a1) + x4i) 98304 then (bif am_vp (((Int32.ofInt 24) * a2) + x4i) 98304 then (Option.bind ((if (am_I h 68 (Int32.toNatClampNeg (((Int32.ofInt 24) * a1) + x4i))) = (Int32.ofInt (-1)) then some (Int32.ofInt (-1)) else bif am_vp (am_I h 68 (Int32.toNatClampNeg (((Int32.ofInt 24) * a1) + x4i))) 4096 then (some (am_I h 70 (Int32.toNatClampNeg (am_I h 68 (Int32.toNatClampNeg (((Int32.ofInt 24) * a1) + x4i)))))) else none)) fun y7 => (Option.bind ((if (am_I h 68 (Int32.toNatClampNeg (((Int32.ofInt 24) * a2) + x4i))) = (Int32.ofInt (-1)) then some (Int32.ofInt (-1)) else bif am_vp (am_I h 68 (Int32.toNatClampNeg (((Int32.ofInt 24) * a2) + x4i))) 4096 then (some (am_I h 70 (Int32.toNatClampNeg (am_I h 68 (Int32.toNatClampNeg (((Int32.ofInt 24) * a2) + x4i)))))) else none)) fun y61 => (Option.bind ((if y7 = y61 then some (Int32.ofInt 1) else some (Int32.ofInt 0))) fun y115 => (g_X9_areAlike n 0 a1 a2 y115 (x4i + Int32.ofInt 1) h)))) else none) else none))) = some (v, h') := hf
      by_cases c1 : (Int32.ofInt 24) ≤ x4i
      · rw [if_pos c1] at hf
        obtain ⟨b2, hf⟩ := am_bis hf
        obtain ⟨rfl, rfl⟩ := am_i2 hf
        exact hs
      · rw [if_neg c1] at hf
        by_cases c3 : x3i = 0
        · rw [if_pos c3] at hf
          obtain ⟨b4, hf⟩ := am_bis hf
          obtain ⟨rfl, rfl⟩ := am_i2 hf
          exact hs
        · rw [if_neg c3] at hf
          obtain ⟨b5, hf⟩ := am_bis hf
          obtain ⟨b6, hf⟩ := am_bis hf
          obtain ⟨y7, j8, hf⟩ := am_bnd hf
          obtain ⟨y61, j62, hf⟩ := am_bnd hf
          obtain ⟨y115, j116, hf⟩ := am_bnd hf
          exact ih a1 a2 y115 (x4i + Int32.ofInt 1) h _ _ hs hf
set_option maxRecDepth 100000 in
set_option maxHeartbeats 4000000 in
theorem l_X9_areAlike (n : Nat) : (∀ (a1 : Int32) (a2 : Int32) (x3i : Int32) (x4i : Int32) (h : am_H) (v : Int32) (h' : am_H), am_stat h → g_X9_areAlike n 0 a1 a2 x3i x4i h = some (v, h') → AW mX9_areAlike (rX9_areAlike 0 0) (fun r h2 => r = some (.int v) ∧ h2 = h') 24 [(0, .ref 51), (1, .int a1), (2, .int a2), (3, .int x3i), (4, .int x4i)] [] h 0 0) := by
  induction n with
  | zero => exact fun a1 a2 x3i x4i h v h' hs hf => (by cases hf)
  | succ n ih =>
    skip
    · intro a1 a2 x3i x4i h v h' hs hf
      have hf : ((if (Int32.ofInt 24) ≤ x4i then bif am_b01 x3i then (some (x3i, h)) else none else (if x3i = 0 then bif am_b01 x3i then (some (x3i, h)) else none else bif am_vp (((Int32.ofInt 24) * a1) + x4i) 98304 then (bif am_vp (((Int32.ofInt 24) * a2) + x4i) 98304 then (Option.bind ((if (am_I h 68 (Int32.toNatClampNeg (((Int32.ofInt 24) * a1) + x4i))) = (Int32.ofInt (-1)) then some (Int32.ofInt (-1)) else bif am_vp (am_I h 68 (Int32.toNatClampNeg (((Int32.ofInt 24) * a1) + x4i))) 4096 then (some (am_I h 70 (Int32.toNatClampNeg (am_I h 68 (Int32.toNatClampNeg (((Int32.ofInt 24) * a1) + x4i)))))) else none)) fun y7 => (Option.bind ((if (am_I h 68 (Int32.toNatClampNeg (((Int32.ofInt 24) * a2) + x4i))) = (Int32.ofInt (-1)) then some (Int32.ofInt (-1)) else bif am_vp (am_I h 68 (Int32.toNatClampNeg (((Int32.ofInt 24) * a2) + x4i))) 4096 then (some (am_I h 70 (Int32.toNatClampNeg (am_I h 68 (Int32.toNatClampNeg (((Int32.ofInt 24) * a2) + x4i)))))) else none)) fun y61 => (Option.bind ((if y7 = y61 then some (Int32.ofInt 1) else some (Int32.ofInt 0))) fun y115 => (g_X9_areAlike n 0 a1 a2 y115 (x4i + Int32.ofInt 1) h)))) else none) else none))) = some (v, h') := hf
      refine AW_go okX9_areAlike 3 ?_
      refine And.intro (fun c1 => ?_) (fun c1 => ?_)
      · rw [if_pos c1] at hf
        obtain ⟨b2, hf⟩ := am_bis hf
        refine AW_go okX9_areAlike 2 ?_
        obtain ⟨rfl, rfl⟩ := am_i2 hf
        exact And.intro ⟨(Nat.le_of_ble_eq_true rfl), (Nat.le_of_ble_eq_true rfl)⟩ (And.intro (Or.inr ⟨rfl, am_b01_ok b2⟩) ⟨rfl, rfl⟩)
      · rw [if_neg c1] at hf
        refine AW_go okX9_areAlike 2 ?_
        refine And.intro (fun c3 => ?_) (fun c3 => ?_)
        · rw [if_pos c3] at hf
          obtain ⟨b4, hf⟩ := am_bis hf
          refine AW_go okX9_areAlike 2 ?_
          obtain ⟨rfl, rfl⟩ := am_i2 hf
          exact And.intro ⟨(Nat.le_of_ble_eq_true rfl), (Nat.le_of_ble_eq_true rfl)⟩ (And.intro (Or.inr ⟨rfl, am_b01_ok b4⟩) ⟨rfl, rfl⟩)
        · rw [if_neg c3] at hf
          obtain ⟨b5, hf⟩ := am_bis hf
          obtain ⟨b6, hf⟩ := am_bis hf
          refine AW_go okX9_areAlike 20 ?_
          refine And.intro (sK hs 51) (Exists.intro _ (And.intro (sA hs 51 27) ?_))
          refine Exists.intro 98304 (And.intro (sK hs 68) (And.intro (am_vp_ok b5) ?_))
          refine And.intro (sK hs 51) (Exists.intro _ (And.intro (sA hs 51 27) ?_))
          refine Exists.intro 98304 (And.intro (sK hs 68) (And.intro (am_vp_ok b6) ?_))
          obtain ⟨y7, j8, hf⟩ := am_bnd hf
          refine am_cut (P := AW mX9_areAlike (rX9_areAlike 0 0) (fun r h2 => r = some (.int v) ∧ h2 = h') 80 [(0, .ref 51), (1, .int a1), (2, .int a2), (3, .int x3i), (4, .int x4i), (5, .int (am_I h 68 (Int32.toNatClampNeg (((Int32.ofInt 24) * a1) + x4i)))), (6, .int (am_I h 68 (Int32.toNatClampNeg (((Int32.ofInt 24) * a2) + x4i))))] [.int y7] h 0 0) (fun hJ8 => ?_) ?_
          · have hs := hs
            refine AW_go okX9_areAlike 1 ?_
            refine And.intro (fun c9 => ?_) (fun c9 => ?_)
            · rw [if_neg c9] at j8
              obtain ⟨b10, j8⟩ := am_bis j8
              refine AW_go okX9_areAlike 4 ?_
              refine And.intro (sK hs 51) (Exists.intro _ (And.intro (sA hs 51 29) ?_))
              refine Exists.intro 4096 (And.intro (sK hs 70) (And.intro (am_vp_ok b10) ?_))
              obtain rfl := am_i1 j8
              exact AW_pick [2, 3, 4, 5, 6, 1, 0] rfl hJ8
            · rw [if_pos c9] at j8
              refine AW_go okX9_areAlike 2 ?_
              obtain rfl := am_i1 j8
              exact AW_pick [2, 3, 4, 5, 6, 1, 0] rfl hJ8
          refine AW_go okX9_areAlike 2 ?_
          obtain ⟨y61, j62, hf⟩ := am_bnd hf
          refine am_cut (P := AW mX9_areAlike (rX9_areAlike 0 0) (fun r h2 => r = some (.int v) ∧ h2 = h') 97 [(0, .ref 51), (1, .int a1), (2, .int a2), (3, .int x3i), (4, .int x4i), (5, .int (am_I h 68 (Int32.toNatClampNeg (((Int32.ofInt 24) * a1) + x4i)))), (6, .int (am_I h 68 (Int32.toNatClampNeg (((Int32.ofInt 24) * a2) + x4i))))] [.int y61, .int y7] h 0 0) (fun hJ62 => ?_) ?_
          · have hs := hs
            refine AW_go okX9_areAlike 1 ?_
            refine And.intro (fun c63 => ?_) (fun c63 => ?_)
            · rw [if_neg c63] at j62
              obtain ⟨b64, j62⟩ := am_bis j62
              refine AW_go okX9_areAlike 4 ?_
              refine And.intro (sK hs 51) (Exists.intro _ (And.intro (sA hs 51 29) ?_))
              refine Exists.intro 4096 (And.intro (sK hs 70) (And.intro (am_vp_ok b64) ?_))
              obtain rfl := am_i1 j62
              exact AW_pick [0, 1, 2, 3, 4, 5, 6] rfl hJ62
            · rw [if_pos c63] at j62
              refine AW_go okX9_areAlike 2 ?_
              obtain rfl := am_i1 j62
              exact AW_pick [0, 1, 2, 3, 4, 5, 6] rfl hJ62
          obtain ⟨y115, j116, hf⟩ := am_bnd hf
          refine am_cut (P := AW mX9_areAlike (rX9_areAlike 0 0) (fun r h2 => r = some (.int v) ∧ h2 = h') 105 [(0, .ref 51), (1, .int a1), (2, .int a2), (3, .int x3i), (4, .int x4i), (5, .int (am_I h 68 (Int32.toNatClampNeg (((Int32.ofInt 24) * a1) + x4i)))), (6, .int (am_I h 68 (Int32.toNatClampNeg (((Int32.ofInt 24) * a2) + x4i))))] [.int y115] h 0 0) (fun hJ116 => ?_) ?_
          · have hs := hs
            refine AW_go okX9_areAlike 1 ?_
            refine And.intro (fun c117 => ?_) (fun c117 => ?_)
            · rw [if_neg c117] at j116
              refine AW_go okX9_areAlike 1 ?_
              obtain rfl := am_i1 j116
              exact AW_pick [0, 1, 2, 3, 4, 5, 6] rfl hJ116
            · rw [if_pos c117] at j116
              refine AW_go okX9_areAlike 2 ?_
              obtain rfl := am_i1 j116
              exact AW_pick [0, 1, 2, 3, 4, 5, 6] rfl hJ116
          refine AW_go okX9_areAlike 3 ?_
          refine AW_pick (lv' := [(0, .ref 51), (1, .int a1), (2, .int a2), (3, .int y115), (4, .int (x4i + Int32.ofInt 1))]) [2, 3, 4, 1, 0] rfl ?_
          exact ih a1 a2 y115 (x4i + Int32.ofInt 1) h _ _ hs hf
def f_X9_areAlike (n : Nat) (a1 : Int32) (a2 : Int32) (h : am_H) : Option (Int32 × am_H) := bif am_vp a1 4096 then (bif am_vp a2 4096 then (Option.bind ((if (am_I h 70 (Int32.toNatClampNeg a1)) = (am_I h 70 (Int32.toNatClampNeg a2)) then some (Int32.ofInt 1) else some (Int32.ofInt 0))) fun y3 => (g_X9_areAlike n 0 a1 a2 y3 (Int32.ofInt 0) h)) else none) else none
set_option maxRecDepth 100000 in
theorem s_X9_areAlike (n : Nat) (a1 : Int32) (a2 : Int32) (h : am_H) (hs : am_stat h) {v : Int32} {h' : am_H} (hf : f_X9_areAlike n a1 a2 h = some (v, h')) : am_stat h' := by
  unfold f_X9_areAlike at hf
  obtain ⟨b1, hf⟩ := am_bis hf
  obtain ⟨b2, hf⟩ := am_bis hf
  obtain ⟨y3, j4, hf⟩ := am_bnd hf
  exact (m_X9_areAlike n) a1 a2 y3 (Int32.ofInt 0) h _ _ hs hf
set_option maxRecDepth 100000 in
theorem c_X9_areAlike (n : Nat) (a1 : Int32) (a2 : Int32) (h : am_H) (hs : am_stat h) {v : Int32} {h' : am_H} (hf : f_X9_areAlike n a1 a2 h = some (v, h')) : AMet mX9_areAlike (rX9_areAlike 0 0) (fun r h2 => r = some (.int v) ∧ h2 = h') [.ref 51, .int a1, .int a2] h := by
  unfold f_X9_areAlike at hf
  obtain ⟨b1, hf⟩ := am_bis hf
  obtain ⟨b2, hf⟩ := am_bis hf
  refine AW_go okX9_areAlike 8 ?_
  refine And.intro (sK hs 51) (Exists.intro _ (And.intro (sA hs 51 29) ?_))
  refine Exists.intro 4096 (And.intro (sK hs 70) (And.intro (am_vp_ok b1) ?_))
  refine And.intro (sK hs 51) (Exists.intro _ (And.intro (sA hs 51 29) ?_))
  refine Exists.intro 4096 (And.intro (sK hs 70) (And.intro (am_vp_ok b2) ?_))
  obtain ⟨y3, j4, hf⟩ := am_bnd hf
  refine am_cut (P := AW mX9_areAlike (rX9_areAlike 0 0) (fun r h2 => r = some (.int v) ∧ h2 = h') 20 [(0, .ref 51), (1, .int a1), (2, .int a2)] [.int y3] h 0 0) (fun hJ4 => ?_) ?_
  · have hs := hs
    refine AW_go okX9_areAlike 1 ?_
    refine And.intro (fun c5 => ?_) (fun c5 => ?_)
    · rw [if_neg c5] at j4
      refine AW_go okX9_areAlike 1 ?_
      obtain rfl := am_i1 j4
      exact AW_pick [0, 1, 2] rfl hJ4
    · rw [if_pos c5] at j4
      refine AW_go okX9_areAlike 2 ?_
      obtain rfl := am_i1 j4
      exact AW_pick [0, 1, 2] rfl hJ4
  refine AW_go okX9_areAlike 3 ?_
  refine AW_pick (lv' := [(0, .ref 51), (1, .int a1), (2, .int a2), (3, .int y3), (4, .int (Int32.ofInt 0))]) [2, 3, 4, 1, 0] rfl ?_
  exact (l_X9_areAlike n) a1 a2 y3 (Int32.ofInt 0) h _ _ hs hf
def g_X9_fewest : Nat → Nat → Int32 → Int32 → Int32 → Int32 → Int32 → am_H → Option (Int32 × am_H)
  | 0, _, _, _, _, _, _, _ => none
  | n + 1, tag, a1, x2i, x3i, x4i, x5i, h => bif Nat.beq tag 0 then ((if (am_I h 51 26) ≤ x3i then g_X9_fewest n 1 a1 x2i (Int32.ofInt (-1)) 0 0 h else bif am_vp x3i 4096 then (Option.bind ((if (am_I h 69 (Int32.toNatClampNeg x3i)) = 0 then some (Int32.ofInt 0) else some (Int32.ofInt 1))) fun y3 => (g_X9_fewest n 0 a1 x2i (x3i + Int32.ofInt 1) 0 0 (am_sI h 70 (Int32.toNatClampNeg x3i) y3))) else none)) else (bif Nat.beq tag 1 then ((if x3i = x2i then some (x2i, h) else g_X9_fewest n 2 a1 (Int32.ofInt 0) x2i (Int32.ofInt 0) 0 h)) else (bif Nat.beq tag 2 then ((if (am_I h 51 26) ≤ x4i then g_X9_fewest n 4 a1 x2i x3i (Int32.ofInt 0) 0 h else g_X9_fewest n 3 a1 x2i x3i x4i (Int32.ofInt 0) h)) else (bif Nat.beq tag 3 then ((if x4i ≤ x5i then Option.bind ((if x4i ≤ x5i then some x2i else bif am_vp x5i 4096 then (some (am_I h 71 (Int32.toNatClampNeg x5i))) else none)) fun y2 => (bif am_vp x4i 4096 then (Option.bind ((if x4i ≤ x5i then some (Int32.ofInt 1) else some (Int32.ofInt 0))) fun y57 => (g_X9_fewest n 2 a1 (x2i + y57) x3i (x4i + Int32.ofInt 1) 0 (am_sI h 71 (Int32.toNatClampNeg x4i) y2))) else none) else am_b2 (f_X9_areAlike n x5i x4i h) fun r110 h111 => ((if r110 = 0 then g_X9_fewest n 3 a1 x2i x3i x4i (x5i + Int32.ofInt 1) h111 else Option.bind ((if x4i ≤ x5i then some x2i else bif am_vp x5i 4096 then (some (am_I h111 71 (Int32.toNatClampNeg x5i))) else none)) fun y114 => (bif am_vp x4i 4096 then (Option.bind ((if x4i ≤ x5i then some (Int32.ofInt 1) else some (Int32.ofInt 0))) fun y169 => (g_X9_fewest n 2 a1 (x2i + y169) x3i (x4i + Int32.ofInt 1) 0 (am_sI h111 71 (Int32.toNatClampNeg x4i) y114))) else none))))) else ((if (am_I h 51 26) ≤ x4i then g_X9_fewest n 1 a1 x2i x3i 0 0 h else bif am_vp x4i 4096 then (g_X9_fewest n 4 a1 x2i x3i (x4i + Int32.ofInt 1) 0 (am_sI h 70 (Int32.toNatClampNeg x4i) (am_I h 71 (Int32.toNatClampNeg x4i)))) else none)))))
set_option maxRecDepth 100000 in
set_option maxHeartbeats 4000000 in
theorem m_X9_fewest (n : Nat) : (∀ (a1 : Int32) (x2i : Int32) (x3i : Int32) (x4i : Int32) (x5i : Int32) (h : am_H) (v : Int32) (h' : am_H), am_stat h → g_X9_fewest n 0 a1 x2i x3i x4i x5i h = some (v, h') → am_stat h') ∧ (∀ (a1 : Int32) (x2i : Int32) (x3i : Int32) (x4i : Int32) (x5i : Int32) (h : am_H) (v : Int32) (h' : am_H), am_stat h → g_X9_fewest n 1 a1 x2i x3i x4i x5i h = some (v, h') → am_stat h') ∧ (∀ (a1 : Int32) (x2i : Int32) (x3i : Int32) (x4i : Int32) (x5i : Int32) (h : am_H) (v : Int32) (h' : am_H), am_stat h → g_X9_fewest n 2 a1 x2i x3i x4i x5i h = some (v, h') → am_stat h') ∧ (∀ (a1 : Int32) (x2i : Int32) (x3i : Int32) (x4i : Int32) (x5i : Int32) (h : am_H) (v : Int32) (h' : am_H), am_stat h → g_X9_fewest n 3 a1 x2i x3i x4i x5i h = some (v, h') → am_stat h') ∧ (∀ (a1 : Int32) (x2i : Int32) (x3i : Int32) (x4i : Int32) (x5i : Int32) (h : am_H) (v : Int32) (h' : am_H), am_stat h → g_X9_fewest n 4 a1 x2i x3i x4i x5i h = some (v, h') → am_stat h') := by
  induction n with
  | zero => exact ⟨fun a1 x2i x3i x4i x5i h v h' hs hf => (by cases hf), fun a1 x2i x3i x4i x5i h v h' hs hf => (by cases hf), fun a1 x2i x3i x4i x5i h v h' hs hf => (by cases hf), fun a1 x2i x3i x4i x5i h v h' hs hf => (by cases hf), fun a1 x2i x3i x4i x5i h v h' hs hf => (by cases hf)⟩
  | succ n ih =>
    refine ⟨?_, ?_, ?_, ?_, ?_⟩
    · intro a1 x2i x3i x4i x5i h v h' hs hf
      have hf : ((if (am_I h 51 26) ≤ x3i then g_X9_fewest n 1 a1 x2i (Int32.ofInt (-1)) 0 0 h else bif am_vp x3i 4096 then (Option.bind ((if (am_I h 69 (Int32.toNatClampNeg x3i)) = 0 then some (Int32.ofInt 0) else some (Int32.ofInt 1))) fun y3 => (g_X9_fewest n 0 a1 x2i (x3i + Int32.ofInt 1) 0 0 (am_sI h 70 (Int32.toNatClampNeg x3i) y3))) else none)) = some (v, h') := hf
      by_cases c1 : (am_I h 51 26) ≤ x3i
      · rw [if_pos c1] at hf
        exact ih.2.1 a1 x2i (Int32.ofInt (-1)) 0 0 h _ _ hs hf
      · rw [if_neg c1] at hf
        obtain ⟨b2, hf⟩ := am_bis hf
        obtain ⟨y3, j4, hf⟩ := am_bnd hf
        exact ih.1 a1 x2i (x3i + Int32.ofInt 1) 0 0 (am_sI h 70 (Int32.toNatClampNeg x3i) y3) _ _ hs hf
    · intro a1 x2i x3i x4i x5i h v h' hs hf
      have hf : ((if x3i = x2i then some (x2i, h) else g_X9_fewest n 2 a1 (Int32.ofInt 0) x2i (Int32.ofInt 0) 0 h)) = some (v, h') := hf
      by_cases c1 : x3i = x2i
      · rw [if_pos c1] at hf
        obtain ⟨rfl, rfl⟩ := am_i2 hf
        exact hs
      · rw [if_neg c1] at hf
        exact ih.2.2.1 a1 (Int32.ofInt 0) x2i (Int32.ofInt 0) 0 h _ _ hs hf
    · intro a1 x2i x3i x4i x5i h v h' hs hf
      have hf : ((if (am_I h 51 26) ≤ x4i then g_X9_fewest n 4 a1 x2i x3i (Int32.ofInt 0) 0 h else g_X9_fewest n 3 a1 x2i x3i x4i (Int32.ofInt 0) h)) = some (v, h') := hf
      by_cases c1 : (am_I h 51 26) ≤ x4i
      · rw [if_pos c1] at hf
        exact ih.2.2.2.2 a1 x2i x3i (Int32.ofInt 0) 0 h _ _ hs hf
      · rw [if_neg c1] at hf
        exact ih.2.2.2.1 a1 x2i x3i x4i (Int32.ofInt 0) h _ _ hs hf
    · intro a1 x2i x3i x4i x5i h v h' hs hf
      have hf : ((if x4i ≤ x5i then Option.bind ((if x4i ≤ x5i then some x2i else bif am_vp x5i 4096 then (some (am_I h 71 (Int32.toNatClampNeg x5i))) else none)) fun y2 => (bif am_vp x4i 4096 then (Option.bind ((if x4i ≤ x5i then some (Int32.ofInt 1) else some (Int32.ofInt 0))) fun y57 => (g_X9_fewest n 2 a1 (x2i + y57) x3i (x4i + Int32.ofInt 1) 0 (am_sI h 71 (Int32.toNatClampNeg x4i) y2))) else none) else am_b2 (f_X9_areAlike n x5i x4i h) fun r110 h111 => ((if r110 = 0 then g_X9_fewest n 3 a1 x2i x3i x4i (x5i + Int32.ofInt 1) h111 else Option.bind ((if x4i ≤ x5i then some x2i else bif am_vp x5i 4096 then (some (am_I h111 71 (Int32.toNatClampNeg x5i))) else none)) fun y114 => (bif am_vp x4i 4096 then (Option.bind ((if x4i ≤ x5i then some (Int32.ofInt 1) else some (Int32.ofInt 0))) fun y169 => (g_X9_fewest n 2 a1 (x2i + y169) x3i (x4i + Int32.ofInt 1) 0 (am_sI h111 71 (Int32.toNatClampNeg x4i) y114))) else none))))) = some (v, h') := hf
      by_cases c1 : x4i ≤ x5i
      · rw [if_pos c1] at hf
        obtain ⟨y2, j3, hf⟩ := am_bnd hf
        obtain ⟨b56, hf⟩ := am_bis hf
        obtain ⟨y57, j58, hf⟩ := am_bnd hf
        exact ih.2.2.1 a1 (x2i + y57) x3i (x4i + Int32.ofInt 1) 0 (am_sI h 71 (Int32.toNatClampNeg x4i) y2) _ _ hs hf
      · rw [if_neg c1] at hf
        obtain ⟨r110, h111, e112, hf⟩ := am_b2_ok hf
        have hs := s_X9_areAlike n x5i x4i h hs e112
        by_cases c113 : r110 = 0
        · rw [if_pos c113] at hf
          exact ih.2.2.2.1 a1 x2i x3i x4i (x5i + Int32.ofInt 1) h111 _ _ hs hf
        · rw [if_neg c113] at hf
          obtain ⟨y114, j115, hf⟩ := am_bnd hf
          obtain ⟨b168, hf⟩ := am_bis hf
          obtain ⟨y169, j170, hf⟩ := am_bnd hf
          exact ih.2.2.1 a1 (x2i + y169) x3i (x4i + Int32.ofInt 1) 0 (am_sI h111 71 (Int32.toNatClampNeg x4i) y114) _ _ hs hf
    · intro a1 x2i x3i x4i x5i h v h' hs hf
      have hf : ((if (am_I h 51 26) ≤ x4i then g_X9_fewest n 1 a1 x2i x3i 0 0 h else bif am_vp x4i 4096 then (g_X9_fewest n 4 a1 x2i x3i (x4i + Int32.ofInt 1) 0 (am_sI h 70 (Int32.toNatClampNeg x4i) (am_I h 71 (Int32.toNatClampNeg x4i)))) else none)) = some (v, h') := hf
      by_cases c1 : (am_I h 51 26) ≤ x4i
      · rw [if_pos c1] at hf
        exact ih.2.1 a1 x2i x3i 0 0 h _ _ hs hf
      · rw [if_neg c1] at hf
        obtain ⟨b2, hf⟩ := am_bis hf
        exact ih.2.2.2.2 a1 x2i x3i (x4i + Int32.ofInt 1) 0 (am_sI h 70 (Int32.toNatClampNeg x4i) (am_I h 71 (Int32.toNatClampNeg x4i))) _ _ hs hf
set_option maxRecDepth 100000 in
set_option maxHeartbeats 4000000 in
theorem l_X9_fewest (n : Nat) : (∀ (a1 : Int32) (x2i : Int32) (x3i : Int32) (x4i : Int32) (x5i : Int32) (h : am_H) (v : Int32) (h' : am_H), am_stat h → g_X9_fewest n 0 a1 x2i x3i x4i x5i h = some (v, h') → AW mX9_fewest (rX9_fewest 0 0) (fun r h2 => r = some (.int v) ∧ h2 = h') 9 [(0, .ref 51), (1, .int a1), (2, .int x2i), (3, .int x3i)] [] h 0 0) ∧ (∀ (a1 : Int32) (x2i : Int32) (x3i : Int32) (x4i : Int32) (x5i : Int32) (h : am_H) (v : Int32) (h' : am_H), am_stat h → g_X9_fewest n 1 a1 x2i x3i x4i x5i h = some (v, h') → AW mX9_fewest (rX9_fewest 0 0) (fun r h2 => r = some (.int v) ∧ h2 = h') 45 [(0, .ref 51), (1, .int a1), (2, .int x2i), (3, .int x3i)] [] h 0 0) ∧ (∀ (a1 : Int32) (x2i : Int32) (x3i : Int32) (x4i : Int32) (x5i : Int32) (h : am_H) (v : Int32) (h' : am_H), am_stat h → g_X9_fewest n 2 a1 x2i x3i x4i x5i h = some (v, h') → AW mX9_fewest (rX9_fewest 0 0) (fun r h2 => r = some (.int v) ∧ h2 = h') 57 [(0, .ref 51), (1, .int a1), (2, .int x2i), (3, .int x3i), (4, .int x4i)] [] h 0 0) ∧ (∀ (a1 : Int32) (x2i : Int32) (x3i : Int32) (x4i : Int32) (x5i : Int32) (h : am_H) (v : Int32) (h' : am_H), am_stat h → g_X9_fewest n 3 a1 x2i x3i x4i x5i h = some (v, h') → AW mX9_fewest (rX9_fewest 0 0) (fun r h2 => r = some (.int v) ∧ h2 = h') 69 [(0, .ref 51), (1, .int a1), (2, .int x2i), (3, .int x3i), (4, .int x4i), (5, .int x5i)] [] h 0 0) ∧ (∀ (a1 : Int32) (x2i : Int32) (x3i : Int32) (x4i : Int32) (x5i : Int32) (h : am_H) (v : Int32) (h' : am_H), am_stat h → g_X9_fewest n 4 a1 x2i x3i x4i x5i h = some (v, h') → AW mX9_fewest (rX9_fewest 0 0) (fun r h2 => r = some (.int v) ∧ h2 = h') 142 [(0, .ref 51), (1, .int a1), (2, .int x2i), (3, .int x3i), (4, .int x4i)] [] h 0 0) := by
  induction n with
  | zero => exact ⟨fun a1 x2i x3i x4i x5i h v h' hs hf => (by cases hf), fun a1 x2i x3i x4i x5i h v h' hs hf => (by cases hf), fun a1 x2i x3i x4i x5i h v h' hs hf => (by cases hf), fun a1 x2i x3i x4i x5i h v h' hs hf => (by cases hf), fun a1 x2i x3i x4i x5i h v h' hs hf => (by cases hf)⟩
  | succ n ih =>
    refine ⟨?_, ?_, ?_, ?_, ?_⟩
    · intro a1 x2i x3i x4i x5i h v h' hs hf
      have hf : ((if (am_I h 51 26) ≤ x3i then g_X9_fewest n 1 a1 x2i (Int32.ofInt (-1)) 0 0 h else bif am_vp x3i 4096 then (Option.bind ((if (am_I h 69 (Int32.toNatClampNeg x3i)) = 0 then some (Int32.ofInt 0) else some (Int32.ofInt 1))) fun y3 => (g_X9_fewest n 0 a1 x2i (x3i + Int32.ofInt 1) 0 0 (am_sI h 70 (Int32.toNatClampNeg x3i) y3))) else none)) = some (v, h') := hf
      refine AW_go okX9_fewest 4 ?_
      refine And.intro (sK hs 51) ?_
      refine And.intro (fun c1 => ?_) (fun c1 => ?_)
      · rw [if_pos c1] at hf
        refine AW_go okX9_fewest 2 ?_
        refine AW_pick (lv' := [(0, .ref 51), (1, .int a1), (2, .int x2i), (3, .int (Int32.ofInt (-1)))]) [1, 2, 3, 0] rfl ?_
        exact ih.2.1 a1 x2i (Int32.ofInt (-1)) 0 0 h _ _ hs hf
      · rw [if_neg c1] at hf
        obtain ⟨b2, hf⟩ := am_bis hf
        refine AW_go okX9_fewest 7 ?_
        refine And.intro (sK hs 51) (Exists.intro _ (And.intro (sA hs 51 29) ?_))
        refine And.intro (sK hs 51) (Exists.intro _ (And.intro (sA hs 51 28) ?_))
        refine Exists.intro 2 (Exists.intro 4096 (And.intro (by decide) (And.intro (sK hs 69) (And.intro (am_vp_ok b2) ?_))))
        obtain ⟨y3, j4, hf⟩ := am_bnd hf
        refine am_cut (P := AW mX9_fewest (rX9_fewest 0 0) (fun r h2 => r = some (.int v) ∧ h2 = h') 36 [(0, .ref 51), (1, .int a1), (2, .int x2i), (3, .int x3i)] [.int y3, .int x3i, .ref 70] h 0 0) (fun hJ4 => ?_) ?_
        · have hs := hs
          refine AW_go okX9_fewest 1 ?_
          refine And.intro (fun c5 => ?_) (fun c5 => ?_)
          · rw [if_pos c5] at j4
            refine AW_go okX9_fewest 1 ?_
            obtain rfl := am_i1 j4
            exact AW_pick [0, 1, 2, 3] rfl hJ4
          · rw [if_neg c5] at j4
            refine AW_go okX9_fewest 2 ?_
            obtain rfl := am_i1 j4
            exact AW_pick [0, 1, 2, 3] rfl hJ4
        refine AW_go okX9_fewest 3 ?_
        refine Exists.intro 4096 (And.intro (sK hs 70) (And.intro (am_vp_ok b2) ?_))
        refine AW_pick (lv' := [(0, .ref 51), (1, .int a1), (2, .int x2i), (3, .int (x3i + Int32.ofInt 1))]) [1, 2, 3, 0] rfl ?_
        exact ih.1 a1 x2i (x3i + Int32.ofInt 1) 0 0 (am_sI h 70 (Int32.toNatClampNeg x3i) y3) _ _ hs hf
    · intro a1 x2i x3i x4i x5i h v h' hs hf
      have hf : ((if x3i = x2i then some (x2i, h) else g_X9_fewest n 2 a1 (Int32.ofInt 0) x2i (Int32.ofInt 0) 0 h)) = some (v, h') := hf
      refine AW_go okX9_fewest 3 ?_
      refine And.intro (fun c1 => ?_) (fun c1 => ?_)
      · rw [if_pos c1] at hf
        refine AW_go okX9_fewest 2 ?_
        obtain ⟨rfl, rfl⟩ := am_i2 hf
        exact And.intro ⟨(Nat.le_of_ble_eq_true rfl), (Nat.le_of_ble_eq_true rfl)⟩ (And.intro (Or.inl rfl) ⟨rfl, rfl⟩)
      · rw [if_neg c1] at hf
        refine AW_go okX9_fewest 6 ?_
        refine AW_pick (lv' := [(0, .ref 51), (1, .int a1), (2, .int (Int32.ofInt 0)), (3, .int x2i), (4, .int (Int32.ofInt 0))]) [3, 4, 1, 2, 0] rfl ?_
        exact ih.2.2.1 a1 (Int32.ofInt 0) x2i (Int32.ofInt 0) 0 h _ _ hs hf
    · intro a1 x2i x3i x4i x5i h v h' hs hf
      have hf : ((if (am_I h 51 26) ≤ x4i then g_X9_fewest n 4 a1 x2i x3i (Int32.ofInt 0) 0 h else g_X9_fewest n 3 a1 x2i x3i x4i (Int32.ofInt 0) h)) = some (v, h') := hf
      refine AW_go okX9_fewest 4 ?_
      refine And.intro (sK hs 51) ?_
      refine And.intro (fun c1 => ?_) (fun c1 => ?_)
      · rw [if_pos c1] at hf
        refine AW_go okX9_fewest 2 ?_
        refine AW_pick (lv' := [(0, .ref 51), (1, .int a1), (2, .int x2i), (3, .int x3i), (4, .int (Int32.ofInt 0))]) [1, 2, 3, 4, 0] rfl ?_
        exact ih.2.2.2.2 a1 x2i x3i (Int32.ofInt 0) 0 h _ _ hs hf
      · rw [if_neg c1] at hf
        refine AW_go okX9_fewest 2 ?_
        refine AW_pick (lv' := [(0, .ref 51), (1, .int a1), (2, .int x2i), (3, .int x3i), (4, .int x4i), (5, .int (Int32.ofInt 0))]) [1, 2, 3, 4, 5, 0] rfl ?_
        exact ih.2.2.2.1 a1 x2i x3i x4i (Int32.ofInt 0) h _ _ hs hf
    · intro a1 x2i x3i x4i x5i h v h' hs hf
      have hf : ((if x4i ≤ x5i then Option.bind ((if x4i ≤ x5i then some x2i else bif am_vp x5i 4096 then (some (am_I h 71 (Int32.toNatClampNeg x5i))) else none)) fun y2 => (bif am_vp x4i 4096 then (Option.bind ((if x4i ≤ x5i then some (Int32.ofInt 1) else some (Int32.ofInt 0))) fun y57 => (g_X9_fewest n 2 a1 (x2i + y57) x3i (x4i + Int32.ofInt 1) 0 (am_sI h 71 (Int32.toNatClampNeg x4i) y2))) else none) else am_b2 (f_X9_areAlike n x5i x4i h) fun r110 h111 => ((if r110 = 0 then g_X9_fewest n 3 a1 x2i x3i x4i (x5i + Int32.ofInt 1) h111 else Option.bind ((if x4i ≤ x5i then some x2i else bif am_vp x5i 4096 then (some (am_I h111 71 (Int32.toNatClampNeg x5i))) else none)) fun y114 => (bif am_vp x4i 4096 then (Option.bind ((if x4i ≤ x5i then some (Int32.ofInt 1) else some (Int32.ofInt 0))) fun y169 => (g_X9_fewest n 2 a1 (x2i + y169) x3i (x4i + Int32.ofInt 1) 0 (am_sI h111 71 (Int32.toNatClampNeg x4i) y114))) else none))))) = some (v, h') := hf
      refine AW_go okX9_fewest 3 ?_
      refine And.intro (fun c1 => ?_) (fun c1 => ?_)
      · rw [if_pos c1] at hf
        refine AW_go okX9_fewest 5 ?_
        refine And.intro (sK hs 51) (Exists.intro _ (And.intro (sA hs 51 30) ?_))
        obtain ⟨y2, j3, hf⟩ := am_bnd hf
        refine am_cut (P := AW mX9_fewest (rX9_fewest 0 0) (fun r h2 => r = some (.int v) ∧ h2 = h') 117 [(0, .ref 51), (1, .int a1), (2, .int x2i), (3, .int x3i), (4, .int x4i), (5, .int x5i)] [.int y2, .int x4i, .ref 71] h 0 0) (fun hJ3 => ?_) ?_
        · have hs := hs
          refine AW_go okX9_fewest 1 ?_
          refine And.intro (fun c4 => ?_) (fun c4 => ?_)
          · rw [if_pos c4] at j3
            refine AW_go okX9_fewest 1 ?_
            obtain rfl := am_i1 j3
            exact AW_pick [0, 1, 2, 3, 4, 5] rfl hJ3
          · rw [if_neg c4] at j3
            obtain ⟨b5, j3⟩ := am_bis j3
            refine AW_go okX9_fewest 5 ?_
            refine And.intro (sK hs 51) (Exists.intro _ (And.intro (sA hs 51 30) ?_))
            refine Exists.intro 4096 (And.intro (sK hs 71) (And.intro (am_vp_ok b5) ?_))
            obtain rfl := am_i1 j3
            exact AW_pick [0, 1, 2, 3, 4, 5] rfl hJ3
        obtain ⟨b56, hf⟩ := am_bis hf
        refine AW_go okX9_fewest 4 ?_
        refine Exists.intro 4096 (And.intro (sK hs 71) (And.intro (am_vp_ok b56) ?_))
        obtain ⟨y57, j58, hf⟩ := am_bnd hf
        refine am_cut (P := AW mX9_fewest (rX9_fewest 0 0) (fun r h2 => r = some (.int v) ∧ h2 = h') 131 [(0, .ref 51), (1, .int a1), (2, .int x2i), (3, .int x3i), (4, .int x4i), (5, .int x5i)] [.int y57, .int x2i] (am_sI h 71 (Int32.toNatClampNeg x4i) y2) 0 0) (fun hJ58 => ?_) ?_
        · have hs := hs
          refine AW_go okX9_fewest 1 ?_
          refine And.intro (fun c59 => ?_) (fun c59 => ?_)
          · rw [if_pos c59] at j58
            refine AW_go okX9_fewest 1 ?_
            obtain rfl := am_i1 j58
            exact AW_pick [0, 1, 2, 3, 4, 5] rfl hJ58
          · rw [if_neg c59] at j58
            refine AW_go okX9_fewest 2 ?_
            obtain rfl := am_i1 j58
            exact AW_pick [0, 1, 2, 3, 4, 5] rfl hJ58
        refine AW_go okX9_fewest 4 ?_
        refine AW_pick (lv' := [(0, .ref 51), (1, .int a1), (2, .int (x2i + y57)), (3, .int x3i), (4, .int (x4i + Int32.ofInt 1))]) [2, 3, 1, 4, 0] rfl ?_
        exact ih.2.2.1 a1 (x2i + y57) x3i (x4i + Int32.ofInt 1) 0 (am_sI h 71 (Int32.toNatClampNeg x4i) y2) _ _ hs hf
      · rw [if_neg c1] at hf
        refine AW_go okX9_fewest 3 ?_
        obtain ⟨r110, h111, e112, hf⟩ := am_b2_ok hf
        refine AW_callV (As := [.int x5i, .int x4i]) (R' := rX9_areAlike 0 0) (T := TX9) (N := 58) (ci := 9) (okX9_fewest.1 81 _ _ rfl) lkX9_areAlike kX9_223 rfl (sK hs 51) rfl (Nat.le_of_ble_eq_true rfl) ⟨by decide, by decide⟩ ⟨(Nat.le_of_ble_eq_true rfl), (Nat.le_of_ble_eq_true rfl)⟩ (Nat.le_of_ble_eq_true rfl) (c_X9_areAlike n x5i x4i h hs e112) (fun r h' hq => ?_)
        obtain ⟨rfl, hq⟩ := hq
        replace hq := hq.symm
        subst hq
        have hs := s_X9_areAlike n x5i x4i h hs e112
        refine AW_go okX9_fewest 1 ?_
        refine And.intro (fun c113 => ?_) (fun c113 => ?_)
        · rw [if_neg c113] at hf
          refine AW_go okX9_fewest 5 ?_
          refine And.intro (sK hs 51) (Exists.intro _ (And.intro (sA hs 51 30) ?_))
          obtain ⟨y114, j115, hf⟩ := am_bnd hf
          refine am_cut (P := AW mX9_fewest (rX9_fewest 0 0) (fun r h2 => r = some (.int v) ∧ h2 = h') 117 [(0, .ref 51), (1, .int a1), (2, .int x2i), (3, .int x3i), (4, .int x4i), (5, .int x5i)] [.int y114, .int x4i, .ref 71] h111 0 0) (fun hJ115 => ?_) ?_
          · have hs := hs
            refine AW_go okX9_fewest 1 ?_
            refine And.intro (fun c116 => ?_) (fun c116 => ?_)
            · rw [if_pos c116] at j115
              refine AW_go okX9_fewest 1 ?_
              obtain rfl := am_i1 j115
              exact AW_pick [0, 1, 2, 3, 4, 5] rfl hJ115
            · rw [if_neg c116] at j115
              obtain ⟨b117, j115⟩ := am_bis j115
              refine AW_go okX9_fewest 5 ?_
              refine And.intro (sK hs 51) (Exists.intro _ (And.intro (sA hs 51 30) ?_))
              refine Exists.intro 4096 (And.intro (sK hs 71) (And.intro (am_vp_ok b117) ?_))
              obtain rfl := am_i1 j115
              exact AW_pick [0, 1, 2, 3, 4, 5] rfl hJ115
          obtain ⟨b168, hf⟩ := am_bis hf
          refine AW_go okX9_fewest 4 ?_
          refine Exists.intro 4096 (And.intro (sK hs 71) (And.intro (am_vp_ok b168) ?_))
          obtain ⟨y169, j170, hf⟩ := am_bnd hf
          refine am_cut (P := AW mX9_fewest (rX9_fewest 0 0) (fun r h2 => r = some (.int v) ∧ h2 = h') 131 [(0, .ref 51), (1, .int a1), (2, .int x2i), (3, .int x3i), (4, .int x4i), (5, .int x5i)] [.int y169, .int x2i] (am_sI h111 71 (Int32.toNatClampNeg x4i) y114) 0 0) (fun hJ170 => ?_) ?_
          · have hs := hs
            refine AW_go okX9_fewest 1 ?_
            refine And.intro (fun c171 => ?_) (fun c171 => ?_)
            · rw [if_pos c171] at j170
              refine AW_go okX9_fewest 1 ?_
              obtain rfl := am_i1 j170
              exact AW_pick [0, 1, 2, 3, 4, 5] rfl hJ170
            · rw [if_neg c171] at j170
              refine AW_go okX9_fewest 2 ?_
              obtain rfl := am_i1 j170
              exact AW_pick [0, 1, 2, 3, 4, 5] rfl hJ170
          refine AW_go okX9_fewest 4 ?_
          refine AW_pick (lv' := [(0, .ref 51), (1, .int a1), (2, .int (x2i + y169)), (3, .int x3i), (4, .int (x4i + Int32.ofInt 1))]) [2, 3, 1, 4, 0] rfl ?_
          exact ih.2.2.1 a1 (x2i + y169) x3i (x4i + Int32.ofInt 1) 0 (am_sI h111 71 (Int32.toNatClampNeg x4i) y114) _ _ hs hf
        · rw [if_pos c113] at hf
          refine AW_go okX9_fewest 2 ?_
          refine AW_pick (lv' := [(0, .ref 51), (1, .int a1), (2, .int x2i), (3, .int x3i), (4, .int x4i), (5, .int (x5i + Int32.ofInt 1))]) [1, 2, 3, 4, 5, 0] rfl ?_
          exact ih.2.2.2.1 a1 x2i x3i x4i (x5i + Int32.ofInt 1) h111 _ _ hs hf
    · intro a1 x2i x3i x4i x5i h v h' hs hf
      have hf : ((if (am_I h 51 26) ≤ x4i then g_X9_fewest n 1 a1 x2i x3i 0 0 h else bif am_vp x4i 4096 then (g_X9_fewest n 4 a1 x2i x3i (x4i + Int32.ofInt 1) 0 (am_sI h 70 (Int32.toNatClampNeg x4i) (am_I h 71 (Int32.toNatClampNeg x4i)))) else none)) = some (v, h') := hf
      refine AW_go okX9_fewest 4 ?_
      refine And.intro (sK hs 51) ?_
      refine And.intro (fun c1 => ?_) (fun c1 => ?_)
      · rw [if_pos c1] at hf
        refine AW_go okX9_fewest 1 ?_
        refine AW_pick (lv' := [(0, .ref 51), (1, .int a1), (2, .int x2i), (3, .int x3i)]) [0, 1, 2, 3] rfl ?_
        exact ih.2.1 a1 x2i x3i 0 0 h _ _ hs hf
      · rw [if_neg c1] at hf
        obtain ⟨b2, hf⟩ := am_bis hf
        refine AW_go okX9_fewest 10 ?_
        refine And.intro (sK hs 51) (Exists.intro _ (And.intro (sA hs 51 29) ?_))
        refine And.intro (sK hs 51) (Exists.intro _ (And.intro (sA hs 51 30) ?_))
        refine Exists.intro 4096 (And.intro (sK hs 71) (And.intro (am_vp_ok b2) ?_))
        refine Exists.intro 4096 (And.intro (sK hs 70) (And.intro (am_vp_ok b2) ?_))
        refine AW_pick (lv' := [(0, .ref 51), (1, .int a1), (2, .int x2i), (3, .int x3i), (4, .int (x4i + Int32.ofInt 1))]) [1, 2, 3, 4, 0] rfl ?_
        exact ih.2.2.2.2 a1 x2i x3i (x4i + Int32.ofInt 1) 0 (am_sI h 70 (Int32.toNatClampNeg x4i) (am_I h 71 (Int32.toNatClampNeg x4i))) _ _ hs hf
def f_X9_fewest (n : Nat) (a1 : Int32) (h : am_H) : Option (Int32 × am_H) := am_b2 (f_X9_meetSets n a1 h) fun r1 h2 => (g_X9_fewest n 0 a1 (Int32.ofInt 0) (Int32.ofInt 0) 0 0 h2)
set_option maxRecDepth 100000 in
theorem s_X9_fewest (n : Nat) (a1 : Int32) (h : am_H) (hs : am_stat h) {v : Int32} {h' : am_H} (hf : f_X9_fewest n a1 h = some (v, h')) : am_stat h' := by
  unfold f_X9_fewest at hf
  obtain ⟨r1, h2, e3, hf⟩ := am_b2_ok hf
  have hs := s_X9_meetSets n a1 h hs e3
  exact (m_X9_fewest n).1 a1 (Int32.ofInt 0) (Int32.ofInt 0) 0 0 h2 _ _ hs hf
set_option maxRecDepth 100000 in
theorem c_X9_fewest (n : Nat) (a1 : Int32) (h : am_H) (hs : am_stat h) {v : Int32} {h' : am_H} (hf : f_X9_fewest n a1 h = some (v, h')) : AMet mX9_fewest (rX9_fewest 0 0) (fun r h2 => r = some (.int v) ∧ h2 = h') [.ref 51, .int a1] h := by
  unfold f_X9_fewest at hf
  refine AW_go okX9_fewest 2 ?_
  obtain ⟨r1, h2, e3, hf⟩ := am_b2_ok hf
  refine AW_callV (As := [.int a1]) (R' := rX9_meetSets 0 0) (T := TX9) (N := 58) (ci := 9) (okX9_fewest.1 2 _ _ rfl) lkX9_meetSets kX9_220 rfl (sK hs 51) rfl (Nat.le_of_ble_eq_true rfl) ⟨by decide, by decide⟩ ⟨(Nat.le_of_ble_eq_true rfl), (Nat.le_of_ble_eq_true rfl)⟩ (Nat.le_of_ble_eq_true rfl) (c_X9_meetSets n a1 h hs e3) (fun r h' hq => ?_)
  obtain ⟨rfl, hq⟩ := hq
  replace hq := hq.symm
  subst hq
  have hs := s_X9_meetSets n a1 h hs e3
  refine AW_go okX9_fewest 4 ?_
  refine AW_pick (lv' := [(0, .ref 51), (1, .int a1), (2, .int (Int32.ofInt 0)), (3, .int (Int32.ofInt 0))]) [2, 3, 1, 0] rfl ?_
  exact (l_X9_fewest n).1 a1 (Int32.ofInt 0) (Int32.ofInt 0) 0 0 h2 _ _ hs hf
def g_X9_endsOf : Nat → Nat → Int32 → Int32 → Int32 → am_H → Option (Int32 × am_H)
  | 0, _, _, _, _, _ => none
  | n + 1, _, a1, x2i, x3i, h => bif am_vp a1 8 then ((if (am_I h 55 (Int32.toNatClampNeg a1)) < x3i then some (x2i, h) else bif am_vp (((Int32.ofInt 16) * a1) + x3i) 128 then (g_X9_endsOf n 0 a1 (x2i + ((am_I h 54 (Int32.toNatClampNeg (((Int32.ofInt 16) * a1) + x3i))) &&& (Int32.ofInt 1))) (x3i + Int32.ofInt 1) h) else none)) else none
set_option maxRecDepth 100000 in
set_option maxHeartbeats 4000000 in
theorem m_X9_endsOf (n : Nat) : (∀ (a1 : Int32) (x2i : Int32) (x3i : Int32) (h : am_H) (v : Int32) (h' : am_H), am_stat h → g_X9_endsOf n 0 a1 x2i x3i h = some (v, h') → am_stat h') := by
  induction n with
  | zero => exact fun a1 x2i x3i h v h' hs hf => (by cases hf)
  | succ n ih =>
    skip
    · intro a1 x2i x3i h v h' hs hf
      have hf : (bif am_vp a1 8 then ((if (am_I h 55 (Int32.toNatClampNeg a1)) < x3i then some (x2i, h) else bif am_vp (((Int32.ofInt 16) * a1) + x3i) 128 then (g_X9_endsOf n 0 a1 (x2i + ((am_I h 54 (Int32.toNatClampNeg (((Int32.ofInt 16) * a1) + x3i))) &&& (Int32.ofInt 1))) (x3i + Int32.ofInt 1) h) else none)) else none) = some (v, h') := hf
      obtain ⟨b1, hf⟩ := am_bis hf
      by_cases c2 : (am_I h 55 (Int32.toNatClampNeg a1)) < x3i
      · rw [if_pos c2] at hf
        obtain ⟨rfl, rfl⟩ := am_i2 hf
        exact hs
      · rw [if_neg c2] at hf
        obtain ⟨b3, hf⟩ := am_bis hf
        exact ih a1 (x2i + ((am_I h 54 (Int32.toNatClampNeg (((Int32.ofInt 16) * a1) + x3i))) &&& (Int32.ofInt 1))) (x3i + Int32.ofInt 1) h _ _ hs hf
set_option maxRecDepth 100000 in
set_option maxHeartbeats 4000000 in
theorem l_X9_endsOf (n : Nat) : (∀ (a1 : Int32) (x2i : Int32) (x3i : Int32) (h : am_H) (v : Int32) (h' : am_H), am_stat h → g_X9_endsOf n 0 a1 x2i x3i h = some (v, h') → AW mX9_endsOf (rX9_endsOf 0 0) (fun r h2 => r = some (.int v) ∧ h2 = h') 4 [(0, .ref 51), (1, .int a1), (2, .int x2i), (3, .int x3i)] [] h 0 0) := by
  induction n with
  | zero => exact fun a1 x2i x3i h v h' hs hf => (by cases hf)
  | succ n ih =>
    skip
    · intro a1 x2i x3i h v h' hs hf
      have hf : (bif am_vp a1 8 then ((if (am_I h 55 (Int32.toNatClampNeg a1)) < x3i then some (x2i, h) else bif am_vp (((Int32.ofInt 16) * a1) + x3i) 128 then (g_X9_endsOf n 0 a1 (x2i + ((am_I h 54 (Int32.toNatClampNeg (((Int32.ofInt 16) * a1) + x3i))) &&& (Int32.ofInt 1))) (x3i + Int32.ofInt 1) h) else none)) else none) = some (v, h') := hf
      obtain ⟨b1, hf⟩ := am_bis hf
      refine AW_go okX9_endsOf 6 ?_
      refine And.intro (sK hs 51) (Exists.intro _ (And.intro (sA hs 51 5) ?_))
      refine Exists.intro 8 (And.intro (sK hs 55) (And.intro (am_vp_ok b1) ?_))
      refine And.intro (fun c2 => ?_) (fun c2 => ?_)
      · rw [if_pos c2] at hf
        refine AW_go okX9_endsOf 2 ?_
        obtain ⟨rfl, rfl⟩ := am_i2 hf
        exact And.intro ⟨(Nat.le_of_ble_eq_true rfl), (Nat.le_of_ble_eq_true rfl)⟩ (And.intro (Or.inl rfl) ⟨rfl, rfl⟩)
      · rw [if_neg c2] at hf
        obtain ⟨b3, hf⟩ := am_bis hf
        refine AW_go okX9_endsOf 15 ?_
        refine And.intro (sK hs 51) (Exists.intro _ (And.intro (sA hs 51 4) ?_))
        refine Exists.intro 128 (And.intro (sK hs 54) (And.intro (am_vp_ok b3) ?_))
        refine AW_pick (lv' := [(0, .ref 51), (1, .int a1), (2, .int (x2i + ((am_I h 54 (Int32.toNatClampNeg (((Int32.ofInt 16) * a1) + x3i))) &&& (Int32.ofInt 1)))), (3, .int (x3i + Int32.ofInt 1))]) [2, 3, 1, 0] rfl ?_
        exact ih a1 (x2i + ((am_I h 54 (Int32.toNatClampNeg (((Int32.ofInt 16) * a1) + x3i))) &&& (Int32.ofInt 1))) (x3i + Int32.ofInt 1) h _ _ hs hf
def f_X9_endsOf (n : Nat) (a1 : Int32) (h : am_H) : Option (Int32 × am_H) := g_X9_endsOf n 0 a1 (Int32.ofInt 0) (Int32.ofInt 0) h
set_option maxRecDepth 100000 in
theorem s_X9_endsOf (n : Nat) (a1 : Int32) (h : am_H) (hs : am_stat h) {v : Int32} {h' : am_H} (hf : f_X9_endsOf n a1 h = some (v, h')) : am_stat h' := by
  unfold f_X9_endsOf at hf
  exact (m_X9_endsOf n) a1 (Int32.ofInt 0) (Int32.ofInt 0) h _ _ hs hf
set_option maxRecDepth 100000 in
theorem c_X9_endsOf (n : Nat) (a1 : Int32) (h : am_H) (hs : am_stat h) {v : Int32} {h' : am_H} (hf : f_X9_endsOf n a1 h = some (v, h')) : AMet mX9_endsOf (rX9_endsOf 0 0) (fun r h2 => r = some (.int v) ∧ h2 = h') [.ref 51, .int a1] h := by
  unfold f_X9_endsOf at hf
  refine AW_go okX9_endsOf 4 ?_
  refine AW_pick (lv' := [(0, .ref 51), (1, .int a1), (2, .int (Int32.ofInt 0)), (3, .int (Int32.ofInt 0))]) [2, 3, 1, 0] rfl ?_
  exact (l_X9_endsOf n) a1 (Int32.ofInt 0) (Int32.ofInt 0) h _ _ hs hf
def f_X9_aboutOf (n : Nat) (a1 : Int32) (a2 : Int32) (h : am_H) : Option (Int32 × am_H) := am_b2 ((if a2 = 0 then bif am_vp a1 8 then (some ((am_I h 55 (Int32.toNatClampNeg a1)), h)) else none else (if a2 = (Int32.ofInt 1) then bif am_vp ((Int32.ofInt 16) * a1) 128 then (some (((am_I h 54 (Int32.toNatClampNeg ((Int32.ofInt 16) * a1))) &&& (Int32.ofInt 1)), h)) else none else (if a2 = (Int32.ofInt 2) then am_b2 (f_X9_fewest n a1 h) fun r10 h11 => (some (r10, h11)) else am_b2 (f_X9_endsOf n a1 h) fun r7 h8 => (some (r7, h8)))))) fun y1 h2 => (some (y1, h2))
set_option maxRecDepth 100000 in
theorem s_X9_aboutOf (n : Nat) (a1 : Int32) (a2 : Int32) (h : am_H) (hs : am_stat h) {v : Int32} {h' : am_H} (hf : f_X9_aboutOf n a1 a2 h = some (v, h')) : am_stat h' := by
  unfold f_X9_aboutOf at hf
  obtain ⟨y1, h2, j3, hf⟩ := am_b2_ok hf
  have hs0 := hs
  have hs : am_stat h2 := by
    have hs := hs0
    by_cases c4 : a2 = 0
    · rw [if_pos c4] at j3
      obtain ⟨b5, j3⟩ := am_bis j3
      obtain ⟨rfl, rfl⟩ := am_i2 j3
      exact hs
    · rw [if_neg c4] at j3
      by_cases c6 : a2 = (Int32.ofInt 1)
      · rw [if_pos c6] at j3
        obtain ⟨b7, j3⟩ := am_bis j3
        obtain ⟨rfl, rfl⟩ := am_i2 j3
        exact hs
      · rw [if_neg c6] at j3
        by_cases c8 : a2 = (Int32.ofInt 2)
        · rw [if_pos c8] at j3
          obtain ⟨r9, h10, e11, j3⟩ := am_b2_ok j3
          have hs := s_X9_fewest n a1 h hs e11
          obtain ⟨rfl, rfl⟩ := am_i2 j3
          exact hs
        · rw [if_neg c8] at j3
          obtain ⟨r12, h13, e14, j3⟩ := am_b2_ok j3
          have hs := s_X9_endsOf n a1 h hs e14
          obtain ⟨rfl, rfl⟩ := am_i2 j3
          exact hs
  obtain ⟨rfl, rfl⟩ := am_i2 hf
  exact hs
set_option maxRecDepth 100000 in
theorem c_X9_aboutOf (n : Nat) (a1 : Int32) (a2 : Int32) (h : am_H) (hs : am_stat h) {v : Int32} {h' : am_H} (hf : f_X9_aboutOf n a1 a2 h = some (v, h')) : AMet mX9_aboutOf (rX9_aboutOf 0 0) (fun r h2 => r = some (.int v) ∧ h2 = h') [.ref 51, .int a1, .int a2] h := by
  unfold f_X9_aboutOf at hf
  refine AW_go okX9_aboutOf 1 ?_
  obtain ⟨y1, h2, j3, hf⟩ := am_b2_ok hf
  have hs0 := hs
  have hs : am_stat h2 := by
    have hs := hs0
    by_cases c4 : a2 = 0
    · rw [if_pos c4] at j3
      obtain ⟨b5, j3⟩ := am_bis j3
      obtain ⟨rfl, rfl⟩ := am_i2 j3
      exact hs
    · rw [if_neg c4] at j3
      by_cases c6 : a2 = (Int32.ofInt 1)
      · rw [if_pos c6] at j3
        obtain ⟨b7, j3⟩ := am_bis j3
        obtain ⟨rfl, rfl⟩ := am_i2 j3
        exact hs
      · rw [if_neg c6] at j3
        by_cases c8 : a2 = (Int32.ofInt 2)
        · rw [if_pos c8] at j3
          obtain ⟨r9, h10, e11, j3⟩ := am_b2_ok j3
          have hs := s_X9_fewest n a1 h hs e11
          obtain ⟨rfl, rfl⟩ := am_i2 j3
          exact hs
        · rw [if_neg c8] at j3
          obtain ⟨r12, h13, e14, j3⟩ := am_b2_ok j3
          have hs := s_X9_endsOf n a1 h hs e14
          obtain ⟨rfl, rfl⟩ := am_i2 j3
          exact hs
  refine am_cut (P := AW mX9_aboutOf (rX9_aboutOf 0 0) (fun r h2 => r = some (.int v) ∧ h2 = h') 50 [(0, .ref 51), (1, .int a1), (2, .int a2)] [.int y1] h2 0 0) (fun hJ3 => ?_) ?_
  · have hs := hs0
    refine AW_go okX9_aboutOf 1 ?_
    refine And.intro (fun c4 => ?_) (fun c4 => ?_)
    · rw [if_neg c4] at j3
      refine AW_go okX9_aboutOf 3 ?_
      refine And.intro (fun c5 => ?_) (fun c5 => ?_)
      · rw [if_neg c5] at j3
        refine AW_go okX9_aboutOf 3 ?_
        refine And.intro (fun c6 => ?_) (fun c6 => ?_)
        · rw [if_neg c6] at j3
          refine AW_go okX9_aboutOf 2 ?_
          obtain ⟨r7, h8, e9, j3⟩ := am_b2_ok j3
          refine AW_callV (As := [.int a1]) (R' := rX9_endsOf 0 0) (T := TX9) (N := 58) (ci := 9) (okX9_aboutOf.1 47 _ _ rfl) lkX9_endsOf kX9_230 rfl (sK hs 51) rfl (Nat.le_of_ble_eq_true rfl) ⟨by decide, by decide⟩ ⟨(Nat.le_of_ble_eq_true rfl), (Nat.le_of_ble_eq_true rfl)⟩ (Nat.le_of_ble_eq_true rfl) (c_X9_endsOf n a1 h hs e9) (fun r h' hq => ?_)
          obtain ⟨rfl, hq⟩ := hq
          replace hq := hq.symm
          subst hq
          have hs := s_X9_endsOf n a1 h hs e9
          obtain ⟨rfl, rfl⟩ := am_i2 j3
          exact AW_pick [0, 1, 2] rfl hJ3
        · rw [if_pos c6] at j3
          refine AW_go okX9_aboutOf 2 ?_
          obtain ⟨r10, h11, e12, j3⟩ := am_b2_ok j3
          refine AW_callV (As := [.int a1]) (R' := rX9_fewest 0 0) (T := TX9) (N := 58) (ci := 9) (okX9_aboutOf.1 39 _ _ rfl) lkX9_fewest kX9_227 rfl (sK hs 51) rfl (Nat.le_of_ble_eq_true rfl) ⟨by decide, by decide⟩ ⟨(Nat.le_of_ble_eq_true rfl), (Nat.le_of_ble_eq_true rfl)⟩ (Nat.le_of_ble_eq_true rfl) (c_X9_fewest n a1 h hs e12) (fun r h' hq => ?_)
          obtain ⟨rfl, hq⟩ := hq
          replace hq := hq.symm
          subst hq
          have hs := s_X9_fewest n a1 h hs e12
          refine AW_go okX9_aboutOf 1 ?_
          obtain ⟨rfl, rfl⟩ := am_i2 j3
          exact AW_pick [0, 1, 2] rfl hJ3
      · rw [if_pos c5] at j3
        obtain ⟨b13, j3⟩ := am_bis j3
        refine AW_go okX9_aboutOf 9 ?_
        refine And.intro (sK hs 51) (Exists.intro _ (And.intro (sA hs 51 4) ?_))
        refine Exists.intro 128 (And.intro (sK hs 54) (And.intro (am_vp_ok b13) ?_))
        obtain ⟨rfl, rfl⟩ := am_i2 j3
        exact AW_pick [0, 1, 2] rfl hJ3
    · rw [if_pos c4] at j3
      obtain ⟨b14, j3⟩ := am_bis j3
      refine AW_go okX9_aboutOf 5 ?_
      refine And.intro (sK hs 51) (Exists.intro _ (And.intro (sA hs 51 5) ?_))
      refine Exists.intro 8 (And.intro (sK hs 55) (And.intro (am_vp_ok b14) ?_))
      obtain ⟨rfl, rfl⟩ := am_i2 j3
      exact AW_pick [0, 1, 2] rfl hJ3
  refine AW_go okX9_aboutOf 1 ?_
  obtain ⟨rfl, rfl⟩ := am_i2 hf
  exact And.intro ⟨(Nat.le_of_ble_eq_true rfl), (Nat.le_of_ble_eq_true rfl)⟩ (And.intro (Or.inl rfl) ⟨rfl, rfl⟩)
def f_X9_about (n : Nat) (a1 : Int32) (a2 : Int32) (h : am_H) : Option (Int32 × am_H) := am_b2 (f_X9_isBook a1 h) fun r1 h2 => (am_b2 ((if r1 = 0 then some ((Int32.ofInt (-101)), h2) else am_b2 (f_X9_within a2 (Int32.ofInt 0) (Int32.ofInt 3) h2) fun r8 h9 => ((if r8 = 0 then some ((Int32.ofInt (-102)), h9) else am_b2 (f_X9_aboutOf n a1 a2 h9) fun r12 h13 => (some (r12, h13)))))) fun y4 h5 => (some (y4, h5)))
set_option maxRecDepth 100000 in
theorem s_X9_about (n : Nat) (a1 : Int32) (a2 : Int32) (h : am_H) (hs : am_stat h) {v : Int32} {h' : am_H} (hf : f_X9_about n a1 a2 h = some (v, h')) : am_stat h' := by
  unfold f_X9_about at hf
  obtain ⟨r1, h2, e3, hf⟩ := am_b2_ok hf
  have hs := s_X9_isBook a1 h hs e3
  obtain ⟨y4, h5, j6, hf⟩ := am_b2_ok hf
  have hs0 := hs
  have hs : am_stat h5 := by
    have hs := hs0
    by_cases c7 : r1 = 0
    · rw [if_pos c7] at j6
      obtain ⟨rfl, rfl⟩ := am_i2 j6
      exact hs
    · rw [if_neg c7] at j6
      obtain ⟨r8, h9, e10, j6⟩ := am_b2_ok j6
      have hs := s_X9_within a2 (Int32.ofInt 0) (Int32.ofInt 3) h2 hs e10
      by_cases c11 : r8 = 0
      · rw [if_pos c11] at j6
        obtain ⟨rfl, rfl⟩ := am_i2 j6
        exact hs
      · rw [if_neg c11] at j6
        obtain ⟨r12, h13, e14, j6⟩ := am_b2_ok j6
        have hs := s_X9_aboutOf n a1 a2 h9 hs e14
        obtain ⟨rfl, rfl⟩ := am_i2 j6
        exact hs
  obtain ⟨rfl, rfl⟩ := am_i2 hf
  exact hs
set_option maxRecDepth 100000 in
theorem c_X9_about (n : Nat) (a1 : Int32) (a2 : Int32) (h : am_H) (hs : am_stat h) {v : Int32} {h' : am_H} (hf : f_X9_about n a1 a2 h = some (v, h')) : AMet mX9_about (rX9_about 0 0) (fun r h2 => r = some (.int v) ∧ h2 = h') [.ref 51, .int a1, .int a2] h := by
  unfold f_X9_about at hf
  refine AW_go okX9_about 2 ?_
  obtain ⟨r1, h2, e3, hf⟩ := am_b2_ok hf
  refine AW_callV (As := [.int a1]) (R' := rX9_isBook 0 0) (T := TX9) (N := 58) (ci := 9) (okX9_about.1 2 _ _ rfl) lkX9_isBook kX9_203 rfl (sK hs 51) rfl (Nat.le_of_ble_eq_true rfl) ⟨by decide, by decide⟩ ⟨(Nat.le_of_ble_eq_true rfl), (Nat.le_of_ble_eq_true rfl)⟩ (Nat.le_of_ble_eq_true rfl) (c_X9_isBook a1 h hs e3) (fun r h' hq => ?_)
  obtain ⟨rfl, hq⟩ := hq
  replace hq := hq.symm
  subst hq
  have hs := s_X9_isBook a1 h hs e3
  obtain ⟨y4, h5, j6, hf⟩ := am_b2_ok hf
  have hs0 := hs
  have hs : am_stat h5 := by
    have hs := hs0
    by_cases c7 : r1 = 0
    · rw [if_pos c7] at j6
      obtain ⟨rfl, rfl⟩ := am_i2 j6
      exact hs
    · rw [if_neg c7] at j6
      obtain ⟨r8, h9, e10, j6⟩ := am_b2_ok j6
      have hs := s_X9_within a2 (Int32.ofInt 0) (Int32.ofInt 3) h2 hs e10
      by_cases c11 : r8 = 0
      · rw [if_pos c11] at j6
        obtain ⟨rfl, rfl⟩ := am_i2 j6
        exact hs
      · rw [if_neg c11] at j6
        obtain ⟨r12, h13, e14, j6⟩ := am_b2_ok j6
        have hs := s_X9_aboutOf n a1 a2 h9 hs e14
        obtain ⟨rfl, rfl⟩ := am_i2 j6
        exact hs
  refine am_cut (P := AW mX9_about (rX9_about 0 0) (fun r h2 => r = some (.int v) ∧ h2 = h') 33 [(0, .ref 51), (1, .int a1), (2, .int a2)] [.int y4] h5 0 0) (fun hJ6 => ?_) ?_
  · have hs := hs0
    refine AW_go okX9_about 1 ?_
    refine And.intro (fun c7 => ?_) (fun c7 => ?_)
    · rw [if_neg c7] at j6
      refine AW_go okX9_about 3 ?_
      obtain ⟨r8, h9, e10, j6⟩ := am_b2_ok j6
      refine AW_callS (As := [.int a2, .int (Int32.ofInt 0), .int (Int32.ofInt 3)]) (R' := rX9_within 0 0) (okX9_about.1 16 _ _ rfl) lkX9_within (Or.inl kX9_134) rfl (Nat.le_of_ble_eq_true rfl) ⟨by decide, by decide⟩ ⟨(Nat.le_of_ble_eq_true rfl), (Nat.le_of_ble_eq_true rfl)⟩ (Nat.le_of_ble_eq_true rfl) (c_X9_within a2 (Int32.ofInt 0) (Int32.ofInt 3) h2 hs e10) (fun r h' hq => ?_)
      obtain ⟨rfl, hq⟩ := hq
      replace hq := hq.symm
      subst hq
      have hs := s_X9_within a2 (Int32.ofInt 0) (Int32.ofInt 3) h2 hs e10
      refine AW_go okX9_about 1 ?_
      refine And.intro (fun c11 => ?_) (fun c11 => ?_)
      · rw [if_pos c11] at j6
        refine AW_go okX9_about 1 ?_
        obtain ⟨rfl, rfl⟩ := am_i2 j6
        exact AW_pick [0, 1, 2] rfl hJ6
      · rw [if_neg c11] at j6
        refine AW_go okX9_about 3 ?_
        obtain ⟨r12, h13, e14, j6⟩ := am_b2_ok j6
        refine AW_callV (As := [.int a1, .int a2]) (R' := rX9_aboutOf 0 0) (T := TX9) (N := 58) (ci := 9) (okX9_about.1 25 _ _ rfl) lkX9_aboutOf kX9_233 rfl (sK hs 51) rfl (Nat.le_of_ble_eq_true rfl) ⟨by decide, by decide⟩ ⟨(Nat.le_of_ble_eq_true rfl), (Nat.le_of_ble_eq_true rfl)⟩ (Nat.le_of_ble_eq_true rfl) (c_X9_aboutOf n a1 a2 h9 hs e14) (fun r h' hq => ?_)
        obtain ⟨rfl, hq⟩ := hq
        replace hq := hq.symm
        subst hq
        have hs := s_X9_aboutOf n a1 a2 h9 hs e14
        refine AW_go okX9_about 1 ?_
        obtain ⟨rfl, rfl⟩ := am_i2 j6
        exact AW_pick [0, 1, 2] rfl hJ6
    · rw [if_pos c7] at j6
      refine AW_go okX9_about 2 ?_
      obtain ⟨rfl, rfl⟩ := am_i2 j6
      exact AW_pick [0, 1, 2] rfl hJ6
  refine AW_go okX9_about 1 ?_
  obtain ⟨rfl, rfl⟩ := am_i2 hf
  exact And.intro ⟨(Nat.le_of_ble_eq_true rfl), (Nat.le_of_ble_eq_true rfl)⟩ (And.intro (Or.inl rfl) ⟨rfl, rfl⟩)
def f_X9_act (a1 : Int32) (a2 : Int32) (h : am_H) : Option (Int32 × am_H) := am_b2 (f_X9_isBook a1 h) fun r1 h2 => (am_b2 ((if r1 = 0 then some ((Int32.ofInt (-101)), h2) else bif am_vp a1 8 then (am_b2 (f_X9_within a2 (Int32.ofInt 1) (am_I h2 55 (Int32.toNatClampNeg a1)) h2) fun r9 h10 => ((if r9 = 0 then some ((Int32.ofInt (-101)), h10) else bif am_vp (((Int32.ofInt 16) * a1) + a2) 128 then (some ((am_I h10 53 (Int32.toNatClampNeg (((Int32.ofInt 16) * a1) + a2))), h10)) else none))) else none)) fun y4 h5 => (some (y4, h5)))
set_option maxRecDepth 100000 in
theorem s_X9_act (a1 : Int32) (a2 : Int32) (h : am_H) (hs : am_stat h) {v : Int32} {h' : am_H} (hf : f_X9_act a1 a2 h = some (v, h')) : am_stat h' := by
  unfold f_X9_act at hf
  obtain ⟨r1, h2, e3, hf⟩ := am_b2_ok hf
  have hs := s_X9_isBook a1 h hs e3
  obtain ⟨y4, h5, j6, hf⟩ := am_b2_ok hf
  have hs0 := hs
  have hs : am_stat h5 := by
    have hs := hs0
    by_cases c7 : r1 = 0
    · rw [if_pos c7] at j6
      obtain ⟨rfl, rfl⟩ := am_i2 j6
      exact hs
    · rw [if_neg c7] at j6
      obtain ⟨b8, j6⟩ := am_bis j6
      obtain ⟨r9, h10, e11, j6⟩ := am_b2_ok j6
      have hs := s_X9_within a2 (Int32.ofInt 1) (am_I h2 55 (Int32.toNatClampNeg a1)) h2 hs e11
      by_cases c12 : r9 = 0
      · rw [if_pos c12] at j6
        obtain ⟨rfl, rfl⟩ := am_i2 j6
        exact hs
      · rw [if_neg c12] at j6
        obtain ⟨b13, j6⟩ := am_bis j6
        obtain ⟨rfl, rfl⟩ := am_i2 j6
        exact hs
  obtain ⟨rfl, rfl⟩ := am_i2 hf
  exact hs
set_option maxRecDepth 100000 in
theorem c_X9_act (a1 : Int32) (a2 : Int32) (h : am_H) (hs : am_stat h) {v : Int32} {h' : am_H} (hf : f_X9_act a1 a2 h = some (v, h')) : AMet mX9_act (rX9_act 0 0) (fun r h2 => r = some (.int v) ∧ h2 = h') [.ref 51, .int a1, .int a2] h := by
  unfold f_X9_act at hf
  refine AW_go okX9_act 2 ?_
  obtain ⟨r1, h2, e3, hf⟩ := am_b2_ok hf
  refine AW_callV (As := [.int a1]) (R' := rX9_isBook 0 0) (T := TX9) (N := 58) (ci := 9) (okX9_act.1 2 _ _ rfl) lkX9_isBook kX9_203 rfl (sK hs 51) rfl (Nat.le_of_ble_eq_true rfl) ⟨by decide, by decide⟩ ⟨(Nat.le_of_ble_eq_true rfl), (Nat.le_of_ble_eq_true rfl)⟩ (Nat.le_of_ble_eq_true rfl) (c_X9_isBook a1 h hs e3) (fun r h' hq => ?_)
  obtain ⟨rfl, hq⟩ := hq
  replace hq := hq.symm
  subst hq
  have hs := s_X9_isBook a1 h hs e3
  obtain ⟨y4, h5, j6, hf⟩ := am_b2_ok hf
  have hs0 := hs
  have hs : am_stat h5 := by
    have hs := hs0
    by_cases c7 : r1 = 0
    · rw [if_pos c7] at j6
      obtain ⟨rfl, rfl⟩ := am_i2 j6
      exact hs
    · rw [if_neg c7] at j6
      obtain ⟨b8, j6⟩ := am_bis j6
      obtain ⟨r9, h10, e11, j6⟩ := am_b2_ok j6
      have hs := s_X9_within a2 (Int32.ofInt 1) (am_I h2 55 (Int32.toNatClampNeg a1)) h2 hs e11
      by_cases c12 : r9 = 0
      · rw [if_pos c12] at j6
        obtain ⟨rfl, rfl⟩ := am_i2 j6
        exact hs
      · rw [if_neg c12] at j6
        obtain ⟨b13, j6⟩ := am_bis j6
        obtain ⟨rfl, rfl⟩ := am_i2 j6
        exact hs
  refine am_cut (P := AW mX9_act (rX9_act 0 0) (fun r h2 => r = some (.int v) ∧ h2 = h') 38 [(0, .ref 51), (1, .int a1), (2, .int a2)] [.int y4] h5 0 0) (fun hJ6 => ?_) ?_
  · have hs := hs0
    refine AW_go okX9_act 1 ?_
    refine And.intro (fun c7 => ?_) (fun c7 => ?_)
    · rw [if_pos c7] at j6
      refine AW_go okX9_act 1 ?_
      obtain ⟨rfl, rfl⟩ := am_i2 j6
      exact AW_pick [0, 1, 2] rfl hJ6
    · rw [if_neg c7] at j6
      obtain ⟨b8, j6⟩ := am_bis j6
      refine AW_go okX9_act 6 ?_
      refine And.intro (sK hs 51) (Exists.intro _ (And.intro (sA hs 51 5) ?_))
      refine Exists.intro 8 (And.intro (sK hs 55) (And.intro (am_vp_ok b8) ?_))
      obtain ⟨r9, h10, e11, j6⟩ := am_b2_ok j6
      refine AW_callS (As := [.int a2, .int (Int32.ofInt 1), .int (am_I h2 55 (Int32.toNatClampNeg a1))]) (R' := rX9_within 0 0) (okX9_act.1 16 _ _ rfl) lkX9_within (Or.inl kX9_134) rfl (Nat.le_of_ble_eq_true rfl) ⟨by decide, by decide⟩ ⟨(Nat.le_of_ble_eq_true rfl), (Nat.le_of_ble_eq_true rfl)⟩ (Nat.le_of_ble_eq_true rfl) (c_X9_within a2 (Int32.ofInt 1) (am_I h2 55 (Int32.toNatClampNeg a1)) h2 hs e11) (fun r h' hq => ?_)
      obtain ⟨rfl, hq⟩ := hq
      replace hq := hq.symm
      subst hq
      have hs := s_X9_within a2 (Int32.ofInt 1) (am_I h2 55 (Int32.toNatClampNeg a1)) h2 hs e11
      refine AW_go okX9_act 1 ?_
      refine And.intro (fun c12 => ?_) (fun c12 => ?_)
      · rw [if_pos c12] at j6
        refine AW_go okX9_act 1 ?_
        obtain ⟨rfl, rfl⟩ := am_i2 j6
        exact AW_pick [0, 1, 2] rfl hJ6
      · rw [if_neg c12] at j6
        obtain ⟨b13, j6⟩ := am_bis j6
        refine AW_go okX9_act 9 ?_
        refine And.intro (sK hs 51) (Exists.intro _ (And.intro (sA hs 51 3) ?_))
        refine Exists.intro 128 (And.intro (sK hs 53) (And.intro (am_vp_ok b13) ?_))
        obtain ⟨rfl, rfl⟩ := am_i2 j6
        exact AW_pick [0, 1, 2] rfl hJ6
  refine AW_go okX9_act 1 ?_
  obtain ⟨rfl, rfl⟩ := am_i2 hf
  exact And.intro ⟨(Nat.le_of_ble_eq_true rfl), (Nat.le_of_ble_eq_true rfl)⟩ (And.intro (Or.inl rfl) ⟨rfl, rfl⟩)
