def g_X9_allAtEnds : Nat → Nat → Int32 → Int32 → am_H → Option (Int32 × am_H)
  | 0, _, _, _, _ => none
  | n + 1, _, x1i, x2i, h => (if (Int32.ofInt 3) ≤ x2i then bif am_b01 x1i then (some (x1i, h)) else none else am_b2 ((if x1i = 0 then some ((Int32.ofInt 0), h) else am_b2 (f_X9_followNow x2i h) fun r7 h8 => ((if (r7 &&& (Int32.ofInt 1)) = (Int32.ofInt 1) then some ((Int32.ofInt 1), h8) else some ((Int32.ofInt 0), h8))))) fun y3 h4 => (g_X9_allAtEnds n 0 y3 (x2i + Int32.ofInt 1) h4))
set_option maxRecDepth 100000 in
set_option maxHeartbeats 4000000 in
theorem m_X9_allAtEnds (n : Nat) : (∀ (x1i : Int32) (x2i : Int32) (h : am_H) (v : Int32) (h' : am_H), am_stat h → g_X9_allAtEnds n 0 x1i x2i h = some (v, h') → am_stat h') := by
  induction n with
  | zero => exact fun x1i x2i h v h' hs hf => (by cases hf)
  | succ n ih =>
    skip
    · intro x1i x2i h v h' hs hf
      have hf : ((if (Int32.ofInt 3) ≤ x2i then bif am_b01 x1i then (some (x1i, h)) else none else am_b2 ((if x1i = 0 then some ((Int32.ofInt 0), h) else am_b2 (f_X9_followNow x2i h) fun r7 h8 => ((if (r7 &&& (Int32.ofInt 1)) = (Int32.ofInt 1) then some ((Int32.ofInt 1), h8) else some ((Int32.ofInt 0), h8))))) fun y3 h4 => (g_X9_allAtEnds n 0 y3 (x2i + Int32.ofInt 1) h4))) = some (v, h') := hf
      by_cases c1 : (Int32.ofInt 3) ≤ x2i
      · rw [if_pos c1] at hf
        obtain ⟨b2, hf⟩ := am_bis hf
        obtain ⟨rfl, rfl⟩ := am_i2 hf
        exact hs
      · rw [if_neg c1] at hf
        obtain ⟨y3, h4, j5, hf⟩ := am_b2_ok hf
        have hs0 := hs
        have hs : am_stat h4 := by
          have hs := hs0
          by_cases c6 : x1i = 0
          · rw [if_pos c6] at j5
            obtain ⟨rfl, rfl⟩ := am_i2 j5
            exact hs
          · rw [if_neg c6] at j5
            obtain ⟨r7, h8, e9, j5⟩ := am_b2_ok j5
            have hs := s_X9_followNow x2i h hs e9
            by_cases c10 : (r7 &&& (Int32.ofInt 1)) = (Int32.ofInt 1)
            · rw [if_pos c10] at j5
              obtain ⟨rfl, rfl⟩ := am_i2 j5
              exact hs
            · rw [if_neg c10] at j5
              obtain ⟨rfl, rfl⟩ := am_i2 j5
              exact hs
        exact ih y3 (x2i + Int32.ofInt 1) h4 _ _ hs hf
set_option maxRecDepth 100000 in
set_option maxHeartbeats 4000000 in
theorem l_X9_allAtEnds (n : Nat) : (∀ (x1i : Int32) (x2i : Int32) (h : am_H) (v : Int32) (h' : am_H), am_stat h → g_X9_allAtEnds n 0 x1i x2i h = some (v, h') → AW mX9_allAtEnds (rX9_allAtEnds 0 0) (fun r h2 => r = some (.int v) ∧ h2 = h') 4 [(0, .ref 51), (1, .int x1i), (2, .int x2i)] [] h 0 0) := by
  induction n with
  | zero => exact fun x1i x2i h v h' hs hf => (by cases hf)
  | succ n ih =>
    skip
    · intro x1i x2i h v h' hs hf
      have hf : ((if (Int32.ofInt 3) ≤ x2i then bif am_b01 x1i then (some (x1i, h)) else none else am_b2 ((if x1i = 0 then some ((Int32.ofInt 0), h) else am_b2 (f_X9_followNow x2i h) fun r7 h8 => ((if (r7 &&& (Int32.ofInt 1)) = (Int32.ofInt 1) then some ((Int32.ofInt 1), h8) else some ((Int32.ofInt 0), h8))))) fun y3 h4 => (g_X9_allAtEnds n 0 y3 (x2i + Int32.ofInt 1) h4))) = some (v, h') := hf
      refine AW_go okX9_allAtEnds 3 ?_
      refine And.intro (fun c1 => ?_) (fun c1 => ?_)
      · rw [if_pos c1] at hf
        obtain ⟨b2, hf⟩ := am_bis hf
        refine AW_go okX9_allAtEnds 2 ?_
        obtain ⟨rfl, rfl⟩ := am_i2 hf
        exact And.intro ⟨(Nat.le_of_ble_eq_true rfl), (Nat.le_of_ble_eq_true rfl)⟩ (And.intro (Or.inr ⟨rfl, am_b01_ok b2⟩) ⟨rfl, rfl⟩)
      · rw [if_neg c1] at hf
        refine AW_go okX9_allAtEnds 1 ?_
        obtain ⟨y3, h4, j5, hf⟩ := am_b2_ok hf
        have hs0 := hs
        have hs : am_stat h4 := by
          have hs := hs0
          by_cases c6 : x1i = 0
          · rw [if_pos c6] at j5
            obtain ⟨rfl, rfl⟩ := am_i2 j5
            exact hs
          · rw [if_neg c6] at j5
            obtain ⟨r7, h8, e9, j5⟩ := am_b2_ok j5
            have hs := s_X9_followNow x2i h hs e9
            by_cases c10 : (r7 &&& (Int32.ofInt 1)) = (Int32.ofInt 1)
            · rw [if_pos c10] at j5
              obtain ⟨rfl, rfl⟩ := am_i2 j5
              exact hs
            · rw [if_neg c10] at j5
              obtain ⟨rfl, rfl⟩ := am_i2 j5
              exact hs
        refine am_cut (P := AW mX9_allAtEnds (rX9_allAtEnds 0 0) (fun r h2 => r = some (.int v) ∧ h2 = h') 29 [(0, .ref 51), (1, .int x1i), (2, .int x2i)] [.int y3] h4 0 0) (fun hJ5 => ?_) ?_
        · have hs := hs0
          refine AW_go okX9_allAtEnds 1 ?_
          refine And.intro (fun c6 => ?_) (fun c6 => ?_)
          · rw [if_pos c6] at j5
            refine AW_go okX9_allAtEnds 1 ?_
            obtain ⟨rfl, rfl⟩ := am_i2 j5
            exact AW_pick [0, 1, 2] rfl hJ5
          · rw [if_neg c6] at j5
            refine AW_go okX9_allAtEnds 2 ?_
            obtain ⟨r7, h8, e9, j5⟩ := am_b2_ok j5
            refine AW_callV (As := [.int x2i]) (R' := rX9_followNow 0 0) (T := TX9) (N := 58) (ci := 9) (okX9_allAtEnds.1 15 _ _ rfl) lkX9_followNow kX9_285 rfl (sK hs 51) rfl (Nat.le_of_ble_eq_true rfl) ⟨by decide, by decide⟩ ⟨(Nat.le_of_ble_eq_true rfl), (Nat.le_of_ble_eq_true rfl)⟩ (Nat.le_of_ble_eq_true rfl) (c_X9_followNow x2i h hs e9) (fun r h' hq => ?_)
            obtain ⟨rfl, hq⟩ := hq
            replace hq := hq.symm
            subst hq
            have hs := s_X9_followNow x2i h hs e9
            refine AW_go okX9_allAtEnds 4 ?_
            refine And.intro (fun c10 => ?_) (fun c10 => ?_)
            · rw [if_neg c10] at j5
              refine AW_go okX9_allAtEnds 1 ?_
              obtain ⟨rfl, rfl⟩ := am_i2 j5
              exact AW_pick [0, 1, 2] rfl hJ5
            · rw [if_pos c10] at j5
              refine AW_go okX9_allAtEnds 2 ?_
              obtain ⟨rfl, rfl⟩ := am_i2 j5
              exact AW_pick [0, 1, 2] rfl hJ5
        refine AW_go okX9_allAtEnds 3 ?_
        refine AW_pick (lv' := [(0, .ref 51), (1, .int y3), (2, .int (x2i + Int32.ofInt 1))]) [2, 1, 0] rfl ?_
        exact ih y3 (x2i + Int32.ofInt 1) h4 _ _ hs hf
def f_X9_allAtEnds (n : Nat) (h : am_H) : Option (Int32 × am_H) := g_X9_allAtEnds n 0 (Int32.ofInt 1) (Int32.ofInt 0) h
set_option maxRecDepth 100000 in
theorem s_X9_allAtEnds (n : Nat) (h : am_H) (hs : am_stat h) {v : Int32} {h' : am_H} (hf : f_X9_allAtEnds n h = some (v, h')) : am_stat h' := by
  unfold f_X9_allAtEnds at hf
  exact (m_X9_allAtEnds n) (Int32.ofInt 1) (Int32.ofInt 0) h _ _ hs hf
set_option maxRecDepth 100000 in
theorem c_X9_allAtEnds (n : Nat) (h : am_H) (hs : am_stat h) {v : Int32} {h' : am_H} (hf : f_X9_allAtEnds n h = some (v, h')) : AMet mX9_allAtEnds (rX9_allAtEnds 0 0) (fun r h2 => r = some (.int v) ∧ h2 = h') [.ref 51] h := by
  unfold f_X9_allAtEnds at hf
  refine AW_go okX9_allAtEnds 4 ?_
  refine AW_pick (lv' := [(0, .ref 51), (1, .int (Int32.ofInt 1)), (2, .int (Int32.ofInt 0))]) [2, 1, 0] rfl ?_
  exact (l_X9_allAtEnds n) (Int32.ofInt 1) (Int32.ofInt 0) h _ _ hs hf
def g_X9_postsEmpty : Nat → Nat → Int32 → Int32 → am_H → Option (Int32 × am_H)
  | 0, _, _, _, _ => none
  | n + 1, _, x1i, x2i, h => (if (Int32.ofInt 9) ≤ x2i then bif am_b01 x1i then (some (x1i, h)) else none else Option.bind ((if x1i = 0 then some (Int32.ofInt 0) else bif am_vp x2i 9 then ((if (am_I h 78 (Int32.toNatClampNeg x2i)) = 0 then some (Int32.ofInt 1) else some (Int32.ofInt 0))) else none)) fun y3 => (g_X9_postsEmpty n 0 y3 (x2i + Int32.ofInt 1) h))
set_option maxRecDepth 100000 in
set_option maxHeartbeats 4000000 in
theorem m_X9_postsEmpty (n : Nat) : (∀ (x1i : Int32) (x2i : Int32) (h : am_H) (v : Int32) (h' : am_H), am_stat h → g_X9_postsEmpty n 0 x1i x2i h = some (v, h') → am_stat h') := by
  induction n with
  | zero => exact fun x1i x2i h v h' hs hf => (by cases hf)
  | succ n ih =>
    skip
    · intro x1i x2i h v h' hs hf
      have hf : ((if (Int32.ofInt 9) ≤ x2i then bif am_b01 x1i then (some (x1i, h)) else none else Option.bind ((if x1i = 0 then some (Int32.ofInt 0) else bif am_vp x2i 9 then ((if (am_I h 78 (Int32.toNatClampNeg x2i)) = 0 then some (Int32.ofInt 1) else some (Int32.ofInt 0))) else none)) fun y3 => (g_X9_postsEmpty n 0 y3 (x2i + Int32.ofInt 1) h))) = some (v, h') := hf
      by_cases c1 : (Int32.ofInt 9) ≤ x2i
      · rw [if_pos c1] at hf
        obtain ⟨b2, hf⟩ := am_bis hf
        obtain ⟨rfl, rfl⟩ := am_i2 hf
        exact hs
      · rw [if_neg c1] at hf
        obtain ⟨y3, j4, hf⟩ := am_bnd hf
        exact ih y3 (x2i + Int32.ofInt 1) h _ _ hs hf
set_option maxRecDepth 100000 in
set_option maxHeartbeats 4000000 in
theorem l_X9_postsEmpty (n : Nat) : (∀ (x1i : Int32) (x2i : Int32) (h : am_H) (v : Int32) (h' : am_H), am_stat h → g_X9_postsEmpty n 0 x1i x2i h = some (v, h') → AW mX9_postsEmpty (rX9_postsEmpty 0 0) (fun r h2 => r = some (.int v) ∧ h2 = h') 4 [(0, .ref 51), (1, .int x1i), (2, .int x2i)] [] h 0 0) := by
  induction n with
  | zero => exact fun x1i x2i h v h' hs hf => (by cases hf)
  | succ n ih =>
    skip
    · intro x1i x2i h v h' hs hf
      have hf : ((if (Int32.ofInt 9) ≤ x2i then bif am_b01 x1i then (some (x1i, h)) else none else Option.bind ((if x1i = 0 then some (Int32.ofInt 0) else bif am_vp x2i 9 then ((if (am_I h 78 (Int32.toNatClampNeg x2i)) = 0 then some (Int32.ofInt 1) else some (Int32.ofInt 0))) else none)) fun y3 => (g_X9_postsEmpty n 0 y3 (x2i + Int32.ofInt 1) h))) = some (v, h') := hf
      refine AW_go okX9_postsEmpty 3 ?_
      refine And.intro (fun c1 => ?_) (fun c1 => ?_)
      · rw [if_pos c1] at hf
        obtain ⟨b2, hf⟩ := am_bis hf
        refine AW_go okX9_postsEmpty 2 ?_
        obtain ⟨rfl, rfl⟩ := am_i2 hf
        exact And.intro ⟨(Nat.le_of_ble_eq_true rfl), (Nat.le_of_ble_eq_true rfl)⟩ (And.intro (Or.inr ⟨rfl, am_b01_ok b2⟩) ⟨rfl, rfl⟩)
      · rw [if_neg c1] at hf
        refine AW_go okX9_postsEmpty 1 ?_
        obtain ⟨y3, j4, hf⟩ := am_bnd hf
        refine am_cut (P := AW mX9_postsEmpty (rX9_postsEmpty 0 0) (fun r h2 => r = some (.int v) ∧ h2 = h') 28 [(0, .ref 51), (1, .int x1i), (2, .int x2i)] [.int y3] h 0 0) (fun hJ4 => ?_) ?_
        · have hs := hs
          refine AW_go okX9_postsEmpty 1 ?_
          refine And.intro (fun c5 => ?_) (fun c5 => ?_)
          · rw [if_pos c5] at j4
            refine AW_go okX9_postsEmpty 1 ?_
            obtain rfl := am_i1 j4
            exact AW_pick [0, 1, 2] rfl hJ4
          · rw [if_neg c5] at j4
            obtain ⟨b6, j4⟩ := am_bis j4
            refine AW_go okX9_postsEmpty 5 ?_
            refine And.intro (sK hs 51) (Exists.intro _ (And.intro (sA hs 51 39) ?_))
            refine Exists.intro 9 (And.intro (sK hs 78) (And.intro (am_vp_ok b6) ?_))
            refine And.intro (fun c7 => ?_) (fun c7 => ?_)
            · rw [if_neg c7] at j4
              refine AW_go okX9_postsEmpty 1 ?_
              obtain rfl := am_i1 j4
              exact AW_pick [0, 1, 2] rfl hJ4
            · rw [if_pos c7] at j4
              refine AW_go okX9_postsEmpty 2 ?_
              obtain rfl := am_i1 j4
              exact AW_pick [0, 1, 2] rfl hJ4
        refine AW_go okX9_postsEmpty 3 ?_
        refine AW_pick (lv' := [(0, .ref 51), (1, .int y3), (2, .int (x2i + Int32.ofInt 1))]) [2, 1, 0] rfl ?_
        exact ih y3 (x2i + Int32.ofInt 1) h _ _ hs hf
def f_X9_postsEmpty (n : Nat) (h : am_H) : Option (Int32 × am_H) := g_X9_postsEmpty n 0 (Int32.ofInt 1) (Int32.ofInt 0) h
set_option maxRecDepth 100000 in
theorem s_X9_postsEmpty (n : Nat) (h : am_H) (hs : am_stat h) {v : Int32} {h' : am_H} (hf : f_X9_postsEmpty n h = some (v, h')) : am_stat h' := by
  unfold f_X9_postsEmpty at hf
  exact (m_X9_postsEmpty n) (Int32.ofInt 1) (Int32.ofInt 0) h _ _ hs hf
set_option maxRecDepth 100000 in
theorem c_X9_postsEmpty (n : Nat) (h : am_H) (hs : am_stat h) {v : Int32} {h' : am_H} (hf : f_X9_postsEmpty n h = some (v, h')) : AMet mX9_postsEmpty (rX9_postsEmpty 0 0) (fun r h2 => r = some (.int v) ∧ h2 = h') [.ref 51] h := by
  unfold f_X9_postsEmpty at hf
  refine AW_go okX9_postsEmpty 4 ?_
  refine AW_pick (lv' := [(0, .ref 51), (1, .int (Int32.ofInt 1)), (2, .int (Int32.ofInt 0))]) [2, 1, 0] rfl ?_
  exact (l_X9_postsEmpty n) (Int32.ofInt 1) (Int32.ofInt 0) h _ _ hs hf
def g_X9_waitsFor : Nat → Nat → Int32 → Int32 → Int32 → Int32 → Int32 → am_H → Option (Int32 × am_H)
  | 0, _, _, _, _, _, _, _ => none
  | n + 1, _, a1, a2, x3i, x4i, x5i, h => (if (Int32.ofInt 16) ≤ x5i then some (x4i, h) else am_b2 ((if ((x3i >>> (x5i &&& 31)) &&& (Int32.ofInt 1)) = (Int32.ofInt 1) then am_b2 (f_X9_actOfSeat a1 x5i h) fun r6 h7 => (Option.bind ((if r6 < (Int32.ofInt 100) then some (Int32.ofInt 0) else (if ((r6 - r6 / (Int32.ofInt 100) * (Int32.ofInt 100)) / (Int32.ofInt 10)) = a2 then some ((Int32.ofInt 1) <<< ((r6 - r6 / (Int32.ofInt 10) * (Int32.ofInt 10)) &&& 31)) else some (Int32.ofInt 0)))) fun y9 => (some ((x4i ||| y9), h7))) else some (x4i, h))) fun y2 h3 => (g_X9_waitsFor n 0 a1 a2 x3i y2 (x5i + Int32.ofInt 1) h3))
set_option maxRecDepth 100000 in
set_option maxHeartbeats 4000000 in
theorem m_X9_waitsFor (n : Nat) : (∀ (a1 : Int32) (a2 : Int32) (x3i : Int32) (x4i : Int32) (x5i : Int32) (h : am_H) (v : Int32) (h' : am_H), am_stat h → g_X9_waitsFor n 0 a1 a2 x3i x4i x5i h = some (v, h') → am_stat h') := by
  induction n with
  | zero => exact fun a1 a2 x3i x4i x5i h v h' hs hf => (by cases hf)
  | succ n ih =>
    skip
    · intro a1 a2 x3i x4i x5i h v h' hs hf
      have hf : ((if (Int32.ofInt 16) ≤ x5i then some (x4i, h) else am_b2 ((if ((x3i >>> (x5i &&& 31)) &&& (Int32.ofInt 1)) = (Int32.ofInt 1) then am_b2 (f_X9_actOfSeat a1 x5i h) fun r6 h7 => (Option.bind ((if r6 < (Int32.ofInt 100) then some (Int32.ofInt 0) else (if ((r6 - r6 / (Int32.ofInt 100) * (Int32.ofInt 100)) / (Int32.ofInt 10)) = a2 then some ((Int32.ofInt 1) <<< ((r6 - r6 / (Int32.ofInt 10) * (Int32.ofInt 10)) &&& 31)) else some (Int32.ofInt 0)))) fun y9 => (some ((x4i ||| y9), h7))) else some (x4i, h))) fun y2 h3 => (g_X9_waitsFor n 0 a1 a2 x3i y2 (x5i + Int32.ofInt 1) h3))) = some (v, h') := hf
      by_cases c1 : (Int32.ofInt 16) ≤ x5i
      · rw [if_pos c1] at hf
        obtain ⟨rfl, rfl⟩ := am_i2 hf
        exact hs
      · rw [if_neg c1] at hf
        obtain ⟨y2, h3, j4, hf⟩ := am_b2_ok hf
        have hs0 := hs
        have hs : am_stat h3 := by
          have hs := hs0
          by_cases c5 : ((x3i >>> (x5i &&& 31)) &&& (Int32.ofInt 1)) = (Int32.ofInt 1)
          · rw [if_pos c5] at j4
            obtain ⟨r6, h7, e8, j4⟩ := am_b2_ok j4
            have hs := s_X9_actOfSeat a1 x5i h hs e8
            obtain ⟨y9, j10, j4⟩ := am_bnd j4
            obtain ⟨rfl, rfl⟩ := am_i2 j4
            exact hs
          · rw [if_neg c5] at j4
            obtain ⟨rfl, rfl⟩ := am_i2 j4
            exact hs
        exact ih a1 a2 x3i y2 (x5i + Int32.ofInt 1) h3 _ _ hs hf
set_option maxRecDepth 100000 in
set_option maxHeartbeats 4000000 in
theorem l_X9_waitsFor (n : Nat) : (∀ (a1 : Int32) (a2 : Int32) (x3i : Int32) (x4i : Int32) (x5i : Int32) (h : am_H) (v : Int32) (h' : am_H), am_stat h → g_X9_waitsFor n 0 a1 a2 x3i x4i x5i h = some (v, h') → AW mX9_waitsFor (rX9_waitsFor 0 0) (fun r h2 => r = some (.int v) ∧ h2 = h') 12 [(0, .ref 51), (1, .int a1), (2, .int a2), (3, .int x3i), (4, .int x4i), (5, .int x5i)] [] h 0 0) := by
  induction n with
  | zero => exact fun a1 a2 x3i x4i x5i h v h' hs hf => (by cases hf)
  | succ n ih =>
    skip
    · intro a1 a2 x3i x4i x5i h v h' hs hf
      have hf : ((if (Int32.ofInt 16) ≤ x5i then some (x4i, h) else am_b2 ((if ((x3i >>> (x5i &&& 31)) &&& (Int32.ofInt 1)) = (Int32.ofInt 1) then am_b2 (f_X9_actOfSeat a1 x5i h) fun r6 h7 => (Option.bind ((if r6 < (Int32.ofInt 100) then some (Int32.ofInt 0) else (if ((r6 - r6 / (Int32.ofInt 100) * (Int32.ofInt 100)) / (Int32.ofInt 10)) = a2 then some ((Int32.ofInt 1) <<< ((r6 - r6 / (Int32.ofInt 10) * (Int32.ofInt 10)) &&& 31)) else some (Int32.ofInt 0)))) fun y9 => (some ((x4i ||| y9), h7))) else some (x4i, h))) fun y2 h3 => (g_X9_waitsFor n 0 a1 a2 x3i y2 (x5i + Int32.ofInt 1) h3))) = some (v, h') := hf
      refine AW_go okX9_waitsFor 3 ?_
      refine And.intro (fun c1 => ?_) (fun c1 => ?_)
      · rw [if_pos c1] at hf
        refine AW_go okX9_waitsFor 2 ?_
        obtain ⟨rfl, rfl⟩ := am_i2 hf
        exact And.intro ⟨(Nat.le_of_ble_eq_true rfl), (Nat.le_of_ble_eq_true rfl)⟩ (And.intro (Or.inl rfl) ⟨rfl, rfl⟩)
      · rw [if_neg c1] at hf
        refine AW_go okX9_waitsFor 6 ?_
        obtain ⟨y2, h3, j4, hf⟩ := am_b2_ok hf
        have hs0 := hs
        have hs : am_stat h3 := by
          have hs := hs0
          by_cases c5 : ((x3i >>> (x5i &&& 31)) &&& (Int32.ofInt 1)) = (Int32.ofInt 1)
          · rw [if_pos c5] at j4
            obtain ⟨r6, h7, e8, j4⟩ := am_b2_ok j4
            have hs := s_X9_actOfSeat a1 x5i h hs e8
            obtain ⟨y9, j10, j4⟩ := am_bnd j4
            obtain ⟨rfl, rfl⟩ := am_i2 j4
            exact hs
          · rw [if_neg c5] at j4
            obtain ⟨rfl, rfl⟩ := am_i2 j4
            exact hs
        refine am_cut (P := AW mX9_waitsFor (rX9_waitsFor 0 0) (fun r h2 => r = some (.int v) ∧ h2 = h') 73 [(0, .ref 51), (1, .int a1), (2, .int a2), (3, .int x3i), (4, .int y2), (5, .int x5i)] [] h3 0 0) (fun hJ4 => ?_) ?_
        · have hs := hs0
          refine AW_go okX9_waitsFor 1 ?_
          refine And.intro (fun c5 => ?_) (fun c5 => ?_)
          · rw [if_neg c5] at j4
            obtain ⟨rfl, rfl⟩ := am_i2 j4
            exact AW_pick [0, 1, 2, 3, 4, 5] rfl hJ4
          · rw [if_pos c5] at j4
            refine AW_go okX9_waitsFor 3 ?_
            obtain ⟨r6, h7, e8, j4⟩ := am_b2_ok j4
            refine AW_callV (As := [.int a1, .int x5i]) (R' := rX9_actOfSeat 0 0) (T := TX9) (N := 58) (ci := 9) (okX9_waitsFor.1 33 _ _ rfl) lkX9_actOfSeat kX9_291 rfl (sK hs 51) rfl (Nat.le_of_ble_eq_true rfl) ⟨by decide, by decide⟩ ⟨(Nat.le_of_ble_eq_true rfl), (Nat.le_of_ble_eq_true rfl)⟩ (Nat.le_of_ble_eq_true rfl) (c_X9_actOfSeat a1 x5i h hs e8) (fun r h' hq => ?_)
            obtain ⟨rfl, hq⟩ := hq
            replace hq := hq.symm
            subst hq
            have hs := s_X9_actOfSeat a1 x5i h hs e8
            refine AW_go okX9_waitsFor 4 ?_
            obtain ⟨y9, j10, j4⟩ := am_bnd j4
            refine am_cut (P := AW mX9_waitsFor (rX9_waitsFor 0 0) (fun r h2 => r = some (.int v) ∧ h2 = h') 70 [(0, .ref 51), (1, .int a1), (2, .int a2), (3, .int x3i), (4, .int x4i), (5, .int x5i), (6, .int r6)] [.int y9, .int x4i] h7 0 0) (fun hJ10 => ?_) ?_
            · have hs := hs
              refine AW_go okX9_waitsFor 1 ?_
              refine And.intro (fun c11 => ?_) (fun c11 => ?_)
              · rw [if_pos c11] at j10
                refine AW_go okX9_waitsFor 1 ?_
                obtain rfl := am_i1 j10
                exact AW_pick [1, 2, 3, 4, 5, 6, 0] rfl hJ10
              · rw [if_neg c11] at j10
                refine AW_go okX9_waitsFor 7 ?_
                refine And.intro (by decide) ?_
                refine And.intro (by decide) ?_
                refine And.intro (fun c12 => ?_) (fun c12 => ?_)
                · rw [if_neg c12] at j10
                  refine AW_go okX9_waitsFor 1 ?_
                  obtain rfl := am_i1 j10
                  exact AW_pick [1, 2, 3, 4, 5, 6, 0] rfl hJ10
                · rw [if_pos c12] at j10
                  refine AW_go okX9_waitsFor 6 ?_
                  refine And.intro (by decide) ?_
                  obtain rfl := am_i1 j10
                  exact AW_pick [1, 2, 3, 4, 5, 6, 0] rfl hJ10
            refine AW_go okX9_waitsFor 2 ?_
            obtain ⟨rfl, rfl⟩ := am_i2 j4
            exact AW_pick [1, 2, 3, 4, 0, 5] rfl hJ4
        refine AW_go okX9_waitsFor 2 ?_
        refine AW_pick (lv' := [(0, .ref 51), (1, .int a1), (2, .int a2), (3, .int x3i), (4, .int y2), (5, .int (x5i + Int32.ofInt 1))]) [1, 2, 3, 4, 5, 0] rfl ?_
        exact ih a1 a2 x3i y2 (x5i + Int32.ofInt 1) h3 _ _ hs hf
def f_X9_waitsFor (n : Nat) (a1 : Int32) (a2 : Int32) (h : am_H) : Option (Int32 × am_H) := am_b2 (f_X9_followNow a1 h) fun r1 h2 => (g_X9_waitsFor n 0 a1 a2 r1 (Int32.ofInt 0) (Int32.ofInt 1) h2)
set_option maxRecDepth 100000 in
theorem s_X9_waitsFor (n : Nat) (a1 : Int32) (a2 : Int32) (h : am_H) (hs : am_stat h) {v : Int32} {h' : am_H} (hf : f_X9_waitsFor n a1 a2 h = some (v, h')) : am_stat h' := by
  unfold f_X9_waitsFor at hf
  obtain ⟨r1, h2, e3, hf⟩ := am_b2_ok hf
  have hs := s_X9_followNow a1 h hs e3
  exact (m_X9_waitsFor n) a1 a2 r1 (Int32.ofInt 0) (Int32.ofInt 1) h2 _ _ hs hf
set_option maxRecDepth 100000 in
theorem c_X9_waitsFor (n : Nat) (a1 : Int32) (a2 : Int32) (h : am_H) (hs : am_stat h) {v : Int32} {h' : am_H} (hf : f_X9_waitsFor n a1 a2 h = some (v, h')) : AMet mX9_waitsFor (rX9_waitsFor 0 0) (fun r h2 => r = some (.int v) ∧ h2 = h') [.ref 51, .int a1, .int a2] h := by
  unfold f_X9_waitsFor at hf
  refine AW_go okX9_waitsFor 2 ?_
  obtain ⟨r1, h2, e3, hf⟩ := am_b2_ok hf
  refine AW_callV (As := [.int a1]) (R' := rX9_followNow 0 0) (T := TX9) (N := 58) (ci := 9) (okX9_waitsFor.1 2 _ _ rfl) lkX9_followNow kX9_285 rfl (sK hs 51) rfl (Nat.le_of_ble_eq_true rfl) ⟨by decide, by decide⟩ ⟨(Nat.le_of_ble_eq_true rfl), (Nat.le_of_ble_eq_true rfl)⟩ (Nat.le_of_ble_eq_true rfl) (c_X9_followNow a1 h hs e3) (fun r h' hq => ?_)
  obtain ⟨rfl, hq⟩ := hq
  replace hq := hq.symm
  subst hq
  have hs := s_X9_followNow a1 h hs e3
  refine AW_go okX9_waitsFor 5 ?_
  refine AW_pick (lv' := [(0, .ref 51), (1, .int a1), (2, .int a2), (3, .int r1), (4, .int (Int32.ofInt 0)), (5, .int (Int32.ofInt 1))]) [3, 4, 5, 2, 1, 0] rfl ?_
  exact (l_X9_waitsFor n) a1 a2 r1 (Int32.ofInt 0) (Int32.ofInt 1) h2 _ _ hs hf
def g_X9_onlyWaits : Nat → Nat → Int32 → Int32 → Int32 → Int32 → am_H → Option (Int32 × am_H)
  | 0, _, _, _, _, _, _ => none
  | n + 1, _, a1, x2i, x3i, x4i, h => (if (Int32.ofInt 16) ≤ x4i then bif am_b01 x3i then (some (x3i, h)) else none else (if x3i = 0 then bif am_b01 x3i then (some (x3i, h)) else none else am_b2 ((if ((x2i >>> (x4i &&& 31)) &&& (Int32.ofInt 1)) = 0 then some ((Int32.ofInt 1), h) else am_b2 (f_X9_actOfSeat a1 x4i h) fun r9 h10 => ((if r9 < (Int32.ofInt 100) then some ((Int32.ofInt 0), h10) else some ((Int32.ofInt 1), h10))))) fun y5 h6 => (g_X9_onlyWaits n 0 a1 x2i y5 (x4i + Int32.ofInt 1) h6)))
set_option maxRecDepth 100000 in
set_option maxHeartbeats 4000000 in
theorem m_X9_onlyWaits (n : Nat) : (∀ (a1 : Int32) (x2i : Int32) (x3i : Int32) (x4i : Int32) (h : am_H) (v : Int32) (h' : am_H), am_stat h → g_X9_onlyWaits n 0 a1 x2i x3i x4i h = some (v, h') → am_stat h') := by
  induction n with
  | zero => exact fun a1 x2i x3i x4i h v h' hs hf => (by cases hf)
  | succ n ih =>
    skip
    · intro a1 x2i x3i x4i h v h' hs hf
      have hf : ((if (Int32.ofInt 16) ≤ x4i then bif am_b01 x3i then (some (x3i, h)) else none else (if x3i = 0 then bif am_b01 x3i then (some (x3i, h)) else none else am_b2 ((if ((x2i >>> (x4i &&& 31)) &&& (Int32.ofInt 1)) = 0 then some ((Int32.ofInt 1), h) else am_b2 (f_X9_actOfSeat a1 x4i h) fun r9 h10 => ((if r9 < (Int32.ofInt 100) then some ((Int32.ofInt 0), h10) else some ((Int32.ofInt 1), h10))))) fun y5 h6 => (g_X9_onlyWaits n 0 a1 x2i y5 (x4i + Int32.ofInt 1) h6)))) = some (v, h') := hf
      by_cases c1 : (Int32.ofInt 16) ≤ x4i
      · rw [if_pos c1] at hf
        obtain ⟨b2, hf⟩ := am_bis hf
        obtain ⟨rfl, rfl⟩ := am_i2 hf
        exact hs
      · rw [if_neg c1] at hf
        by_cases c3 : x3i = 0
        · rw [if_pos c3] at hf
          obtain ⟨b4, hf⟩ := am_bis hf
          obtain ⟨rfl, rfl⟩ := am_i2 hf
          exact hs
        · rw [if_neg c3] at hf
          obtain ⟨y5, h6, j7, hf⟩ := am_b2_ok hf
          have hs0 := hs
          have hs : am_stat h6 := by
            have hs := hs0
            by_cases c8 : ((x2i >>> (x4i &&& 31)) &&& (Int32.ofInt 1)) = 0
            · rw [if_pos c8] at j7
              obtain ⟨rfl, rfl⟩ := am_i2 j7
              exact hs
            · rw [if_neg c8] at j7
              obtain ⟨r9, h10, e11, j7⟩ := am_b2_ok j7
              have hs := s_X9_actOfSeat a1 x4i h hs e11
              by_cases c12 : r9 < (Int32.ofInt 100)
              · rw [if_pos c12] at j7
                obtain ⟨rfl, rfl⟩ := am_i2 j7
                exact hs
              · rw [if_neg c12] at j7
                obtain ⟨rfl, rfl⟩ := am_i2 j7
                exact hs
          exact ih a1 x2i y5 (x4i + Int32.ofInt 1) h6 _ _ hs hf
set_option maxRecDepth 100000 in
set_option maxHeartbeats 4000000 in
theorem l_X9_onlyWaits (n : Nat) : (∀ (a1 : Int32) (x2i : Int32) (x3i : Int32) (x4i : Int32) (h : am_H) (v : Int32) (h' : am_H), am_stat h → g_X9_onlyWaits n 0 a1 x2i x3i x4i h = some (v, h') → AW mX9_onlyWaits (rX9_onlyWaits 0 0) (fun r h2 => r = some (.int v) ∧ h2 = h') 26 [(0, .ref 51), (1, .int a1), (2, .int x2i), (3, .int x3i), (4, .int x4i)] [] h 0 0) := by
  induction n with
  | zero => exact fun a1 x2i x3i x4i h v h' hs hf => (by cases hf)
  | succ n ih =>
    skip
    · intro a1 x2i x3i x4i h v h' hs hf
      have hf : ((if (Int32.ofInt 16) ≤ x4i then bif am_b01 x3i then (some (x3i, h)) else none else (if x3i = 0 then bif am_b01 x3i then (some (x3i, h)) else none else am_b2 ((if ((x2i >>> (x4i &&& 31)) &&& (Int32.ofInt 1)) = 0 then some ((Int32.ofInt 1), h) else am_b2 (f_X9_actOfSeat a1 x4i h) fun r9 h10 => ((if r9 < (Int32.ofInt 100) then some ((Int32.ofInt 0), h10) else some ((Int32.ofInt 1), h10))))) fun y5 h6 => (g_X9_onlyWaits n 0 a1 x2i y5 (x4i + Int32.ofInt 1) h6)))) = some (v, h') := hf
      refine AW_go okX9_onlyWaits 3 ?_
      refine And.intro (fun c1 => ?_) (fun c1 => ?_)
      · rw [if_pos c1] at hf
        obtain ⟨b2, hf⟩ := am_bis hf
        refine AW_go okX9_onlyWaits 2 ?_
        obtain ⟨rfl, rfl⟩ := am_i2 hf
        exact And.intro ⟨(Nat.le_of_ble_eq_true rfl), (Nat.le_of_ble_eq_true rfl)⟩ (And.intro (Or.inr ⟨rfl, am_b01_ok b2⟩) ⟨rfl, rfl⟩)
      · rw [if_neg c1] at hf
        refine AW_go okX9_onlyWaits 2 ?_
        refine And.intro (fun c3 => ?_) (fun c3 => ?_)
        · rw [if_pos c3] at hf
          obtain ⟨b4, hf⟩ := am_bis hf
          refine AW_go okX9_onlyWaits 2 ?_
          obtain ⟨rfl, rfl⟩ := am_i2 hf
          exact And.intro ⟨(Nat.le_of_ble_eq_true rfl), (Nat.le_of_ble_eq_true rfl)⟩ (And.intro (Or.inr ⟨rfl, am_b01_ok b4⟩) ⟨rfl, rfl⟩)
        · rw [if_neg c3] at hf
          refine AW_go okX9_onlyWaits 5 ?_
          obtain ⟨y5, h6, j7, hf⟩ := am_b2_ok hf
          have hs0 := hs
          have hs : am_stat h6 := by
            have hs := hs0
            by_cases c8 : ((x2i >>> (x4i &&& 31)) &&& (Int32.ofInt 1)) = 0
            · rw [if_pos c8] at j7
              obtain ⟨rfl, rfl⟩ := am_i2 j7
              exact hs
            · rw [if_neg c8] at j7
              obtain ⟨r9, h10, e11, j7⟩ := am_b2_ok j7
              have hs := s_X9_actOfSeat a1 x4i h hs e11
              by_cases c12 : r9 < (Int32.ofInt 100)
              · rw [if_pos c12] at j7
                obtain ⟨rfl, rfl⟩ := am_i2 j7
                exact hs
              · rw [if_neg c12] at j7
                obtain ⟨rfl, rfl⟩ := am_i2 j7
                exact hs
          refine am_cut (P := AW mX9_onlyWaits (rX9_onlyWaits 0 0) (fun r h2 => r = some (.int v) ∧ h2 = h') 63 [(0, .ref 51), (1, .int a1), (2, .int x2i), (3, .int x3i), (4, .int x4i)] [.int y5] h6 0 0) (fun hJ7 => ?_) ?_
          · have hs := hs0
            refine AW_go okX9_onlyWaits 1 ?_
            refine And.intro (fun c8 => ?_) (fun c8 => ?_)
            · rw [if_pos c8] at j7
              refine AW_go okX9_onlyWaits 2 ?_
              obtain ⟨rfl, rfl⟩ := am_i2 j7
              exact AW_pick [0, 1, 2, 3, 4] rfl hJ7
            · rw [if_neg c8] at j7
              refine AW_go okX9_onlyWaits 3 ?_
              obtain ⟨r9, h10, e11, j7⟩ := am_b2_ok j7
              refine AW_callV (As := [.int a1, .int x4i]) (R' := rX9_actOfSeat 0 0) (T := TX9) (N := 58) (ci := 9) (okX9_onlyWaits.1 50 _ _ rfl) lkX9_actOfSeat kX9_291 rfl (sK hs 51) rfl (Nat.le_of_ble_eq_true rfl) ⟨by decide, by decide⟩ ⟨(Nat.le_of_ble_eq_true rfl), (Nat.le_of_ble_eq_true rfl)⟩ (Nat.le_of_ble_eq_true rfl) (c_X9_actOfSeat a1 x4i h hs e11) (fun r h' hq => ?_)
              obtain ⟨rfl, hq⟩ := hq
              replace hq := hq.symm
              subst hq
              have hs := s_X9_actOfSeat a1 x4i h hs e11
              refine AW_go okX9_onlyWaits 2 ?_
              refine And.intro (fun c12 => ?_) (fun c12 => ?_)
              · rw [if_pos c12] at j7
                refine AW_go okX9_onlyWaits 1 ?_
                obtain ⟨rfl, rfl⟩ := am_i2 j7
                exact AW_pick [0, 1, 2, 3, 4] rfl hJ7
              · rw [if_neg c12] at j7
                refine AW_go okX9_onlyWaits 2 ?_
                obtain ⟨rfl, rfl⟩ := am_i2 j7
                exact AW_pick [0, 1, 2, 3, 4] rfl hJ7
          refine AW_go okX9_onlyWaits 3 ?_
          refine AW_pick (lv' := [(0, .ref 51), (1, .int a1), (2, .int x2i), (3, .int y5), (4, .int (x4i + Int32.ofInt 1))]) [2, 3, 4, 1, 0] rfl ?_
          exact ih a1 x2i y5 (x4i + Int32.ofInt 1) h6 _ _ hs hf
def f_X9_onlyWaits (n : Nat) (a1 : Int32) (h : am_H) : Option (Int32 × am_H) := am_b2 (f_X9_followNow a1 h) fun r1 h2 => (Option.bind ((if r1 ≤ (Int32.ofInt 1) then some (Int32.ofInt 0) else (if (r1 &&& (Int32.ofInt 1)) = 0 then some (Int32.ofInt 1) else some (Int32.ofInt 0)))) fun y4 => (g_X9_onlyWaits n 0 a1 r1 y4 (Int32.ofInt 1) h2))
set_option maxRecDepth 100000 in
theorem s_X9_onlyWaits (n : Nat) (a1 : Int32) (h : am_H) (hs : am_stat h) {v : Int32} {h' : am_H} (hf : f_X9_onlyWaits n a1 h = some (v, h')) : am_stat h' := by
  unfold f_X9_onlyWaits at hf
  obtain ⟨r1, h2, e3, hf⟩ := am_b2_ok hf
  have hs := s_X9_followNow a1 h hs e3
  obtain ⟨y4, j5, hf⟩ := am_bnd hf
  exact (m_X9_onlyWaits n) a1 r1 y4 (Int32.ofInt 1) h2 _ _ hs hf
set_option maxRecDepth 100000 in
theorem c_X9_onlyWaits (n : Nat) (a1 : Int32) (h : am_H) (hs : am_stat h) {v : Int32} {h' : am_H} (hf : f_X9_onlyWaits n a1 h = some (v, h')) : AMet mX9_onlyWaits (rX9_onlyWaits 0 0) (fun r h2 => r = some (.int v) ∧ h2 = h') [.ref 51, .int a1] h := by
  unfold f_X9_onlyWaits at hf
  refine AW_go okX9_onlyWaits 2 ?_
  obtain ⟨r1, h2, e3, hf⟩ := am_b2_ok hf
  refine AW_callV (As := [.int a1]) (R' := rX9_followNow 0 0) (T := TX9) (N := 58) (ci := 9) (okX9_onlyWaits.1 2 _ _ rfl) lkX9_followNow kX9_285 rfl (sK hs 51) rfl (Nat.le_of_ble_eq_true rfl) ⟨by decide, by decide⟩ ⟨(Nat.le_of_ble_eq_true rfl), (Nat.le_of_ble_eq_true rfl)⟩ (Nat.le_of_ble_eq_true rfl) (c_X9_followNow a1 h hs e3) (fun r h' hq => ?_)
  obtain ⟨rfl, hq⟩ := hq
  replace hq := hq.symm
  subst hq
  have hs := s_X9_followNow a1 h hs e3
  refine AW_go okX9_onlyWaits 3 ?_
  obtain ⟨y4, j5, hf⟩ := am_bnd hf
  refine am_cut (P := AW mX9_onlyWaits (rX9_onlyWaits 0 0) (fun r h2 => r = some (.int v) ∧ h2 = h') 22 [(0, .ref 51), (1, .int a1), (2, .int r1)] [.int y4] h2 0 0) (fun hJ5 => ?_) ?_
  · have hs := hs
    refine AW_go okX9_onlyWaits 1 ?_
    refine And.intro (fun c6 => ?_) (fun c6 => ?_)
    · rw [if_pos c6] at j5
      refine AW_go okX9_onlyWaits 1 ?_
      obtain rfl := am_i1 j5
      exact AW_pick [1, 2, 0] rfl hJ5
    · rw [if_neg c6] at j5
      refine AW_go okX9_onlyWaits 4 ?_
      refine And.intro (fun c7 => ?_) (fun c7 => ?_)
      · rw [if_neg c7] at j5
        refine AW_go okX9_onlyWaits 1 ?_
        obtain rfl := am_i1 j5
        exact AW_pick [1, 2, 0] rfl hJ5
      · rw [if_pos c7] at j5
        refine AW_go okX9_onlyWaits 2 ?_
        obtain rfl := am_i1 j5
        exact AW_pick [1, 2, 0] rfl hJ5
  refine AW_go okX9_onlyWaits 3 ?_
  refine AW_pick (lv' := [(0, .ref 51), (1, .int a1), (2, .int r1), (3, .int y4), (4, .int (Int32.ofInt 1))]) [2, 3, 4, 1, 0] rfl ?_
  exact (l_X9_onlyWaits n) a1 r1 y4 (Int32.ofInt 1) h2 _ _ hs hf
def g_X9_isWrong : Nat → Nat → Int32 → Int32 → Int32 → Int32 → Int32 → Int32 → am_H → Option (Int32 × am_H)
  | 0, _, _, _, _, _, _, _, _ => none
  | n + 1, tag, a1, x2i, x3i, x4i, x5i, x6i, h => bif Nat.beq tag 0 then ((if (Int32.ofInt 3) ≤ x2i then some ((Int32.ofInt 0), h) else am_b2 (f_X9_waitsFor n a1 x2i h) fun r2 h3 => (g_X9_isWrong n 1 a1 x2i r2 (((Int32.ofInt 3) * x2i) + a1) (Int32.ofInt 0) (Int32.ofInt 0) h3))) else (bif am_vp x4i 9 then (am_b2 (f_X9_sizeOf (am_I h 78 (Int32.toNatClampNeg x4i)) h) fun r2 h3 => ((if r2 ≤ x6i then (if x3i = 0 then g_X9_isWrong n 0 a1 (x2i + Int32.ofInt 1) 0 0 0 0 h3 else (if (am_I h3 78 (Int32.toNatClampNeg x4i)) = 0 then g_X9_isWrong n 0 a1 (x2i + Int32.ofInt 1) 0 0 0 0 h3 else (if x5i = 0 then some ((Int32.ofInt 1), h3) else g_X9_isWrong n 0 a1 (x2i + Int32.ofInt 1) 0 0 0 0 h3))) else am_b2 ((if x5i = 0 then am_let (am_b2 (f_X9_letterAt (am_I h3 78 (Int32.toNatClampNeg x4i)) x6i h3) fun r16 h17 => ((if ((x3i >>> ((r16 - (Int32.ofInt 1)) &&& 31)) &&& (Int32.ofInt 1)) = (Int32.ofInt 1) then some ((Int32.ofInt 1), h17) else some ((Int32.ofInt 0), h17)))) fun b13 => ((if x6i = 0 then b13 else (if (am_I h3 59 (Int32.toNatClampNeg x4i)) = (Int32.ofInt 1) then b13 else some ((Int32.ofInt 0), h3)))) else some ((Int32.ofInt 1), h3))) fun y9 h10 => (g_X9_isWrong n 1 a1 x2i x3i x4i y9 (x6i + Int32.ofInt 1) h10)))) else none)
set_option maxRecDepth 100000 in
set_option maxHeartbeats 4000000 in
theorem m_X9_isWrong (n : Nat) : (∀ (a1 : Int32) (x2i : Int32) (x3i : Int32) (x4i : Int32) (x5i : Int32) (x6i : Int32) (h : am_H) (v : Int32) (h' : am_H), am_stat h → g_X9_isWrong n 0 a1 x2i x3i x4i x5i x6i h = some (v, h') → am_stat h') ∧ (∀ (a1 : Int32) (x2i : Int32) (x3i : Int32) (x4i : Int32) (x5i : Int32) (x6i : Int32) (h : am_H) (v : Int32) (h' : am_H), am_stat h → g_X9_isWrong n 1 a1 x2i x3i x4i x5i x6i h = some (v, h') → am_stat h') := by
  induction n with
  | zero => exact ⟨fun a1 x2i x3i x4i x5i x6i h v h' hs hf => (by cases hf), fun a1 x2i x3i x4i x5i x6i h v h' hs hf => (by cases hf)⟩
  | succ n ih =>
    refine ⟨?_, ?_⟩
    · intro a1 x2i x3i x4i x5i x6i h v h' hs hf
      have hf : ((if (Int32.ofInt 3) ≤ x2i then some ((Int32.ofInt 0), h) else am_b2 (f_X9_waitsFor n a1 x2i h) fun r2 h3 => (g_X9_isWrong n 1 a1 x2i r2 (((Int32.ofInt 3) * x2i) + a1) (Int32.ofInt 0) (Int32.ofInt 0) h3))) = some (v, h') := hf
      by_cases c1 : (Int32.ofInt 3) ≤ x2i
      · rw [if_pos c1] at hf
        obtain ⟨rfl, rfl⟩ := am_i2 hf
        exact hs
      · rw [if_neg c1] at hf
        obtain ⟨r2, h3, e4, hf⟩ := am_b2_ok hf
        have hs := s_X9_waitsFor n a1 x2i h hs e4
        exact ih.2 a1 x2i r2 (((Int32.ofInt 3) * x2i) + a1) (Int32.ofInt 0) (Int32.ofInt 0) h3 _ _ hs hf
    · intro a1 x2i x3i x4i x5i x6i h v h' hs hf
      have hf : (bif am_vp x4i 9 then (am_b2 (f_X9_sizeOf (am_I h 78 (Int32.toNatClampNeg x4i)) h) fun r2 h3 => ((if r2 ≤ x6i then (if x3i = 0 then g_X9_isWrong n 0 a1 (x2i + Int32.ofInt 1) 0 0 0 0 h3 else (if (am_I h3 78 (Int32.toNatClampNeg x4i)) = 0 then g_X9_isWrong n 0 a1 (x2i + Int32.ofInt 1) 0 0 0 0 h3 else (if x5i = 0 then some ((Int32.ofInt 1), h3) else g_X9_isWrong n 0 a1 (x2i + Int32.ofInt 1) 0 0 0 0 h3))) else am_b2 ((if x5i = 0 then am_let (am_b2 (f_X9_letterAt (am_I h3 78 (Int32.toNatClampNeg x4i)) x6i h3) fun r16 h17 => ((if ((x3i >>> ((r16 - (Int32.ofInt 1)) &&& 31)) &&& (Int32.ofInt 1)) = (Int32.ofInt 1) then some ((Int32.ofInt 1), h17) else some ((Int32.ofInt 0), h17)))) fun b13 => ((if x6i = 0 then b13 else (if (am_I h3 59 (Int32.toNatClampNeg x4i)) = (Int32.ofInt 1) then b13 else some ((Int32.ofInt 0), h3)))) else some ((Int32.ofInt 1), h3))) fun y9 h10 => (g_X9_isWrong n 1 a1 x2i x3i x4i y9 (x6i + Int32.ofInt 1) h10)))) else none) = some (v, h') := hf
      obtain ⟨b1, hf⟩ := am_bis hf
      obtain ⟨r2, h3, e4, hf⟩ := am_b2_ok hf
      have hs := s_X9_sizeOf (am_I h 78 (Int32.toNatClampNeg x4i)) h hs e4
      by_cases c5 : r2 ≤ x6i
      · rw [if_pos c5] at hf
        by_cases c6 : x3i = 0
        · rw [if_pos c6] at hf
          exact ih.1 a1 (x2i + Int32.ofInt 1) 0 0 0 0 h3 _ _ hs hf
        · rw [if_neg c6] at hf
          by_cases c7 : (am_I h3 78 (Int32.toNatClampNeg x4i)) = 0
          · rw [if_pos c7] at hf
            exact ih.1 a1 (x2i + Int32.ofInt 1) 0 0 0 0 h3 _ _ hs hf
          · rw [if_neg c7] at hf
            by_cases c8 : x5i = 0
            · rw [if_pos c8] at hf
              obtain ⟨rfl, rfl⟩ := am_i2 hf
              exact hs
            · rw [if_neg c8] at hf
              exact ih.1 a1 (x2i + Int32.ofInt 1) 0 0 0 0 h3 _ _ hs hf
      · rw [if_neg c5] at hf
        obtain ⟨y9, h10, j11, hf⟩ := am_b2_ok hf
        have hs0 := hs
        have hs : am_stat h10 := by
          have hs := hs0
          by_cases c12 : x5i = 0
          · rw [if_pos c12] at j11
            obtain ⟨b13, k14, j11⟩ := am_let_ok j11
            refine am_cut (P := (am_b2 (f_X9_letterAt (am_I h3 78 (Int32.toNatClampNeg x4i)) x6i h3) fun r16 h17 => ((if ((x3i >>> ((r16 - (Int32.ofInt 1)) &&& 31)) &&& (Int32.ofInt 1)) = (Int32.ofInt 1) then some ((Int32.ofInt 1), h17) else some ((Int32.ofInt 0), h17)))) = some (y9, h10) → am_stat h10) (fun B15 => ?_) ?_
            · skip
              by_cases c16 : x6i = 0
              · rw [if_pos c16] at j11
                exact B15 (k14.symm.trans j11)
              · rw [if_neg c16] at j11
                by_cases c17 : (am_I h3 59 (Int32.toNatClampNeg x4i)) = (Int32.ofInt 1)
                · rw [if_pos c17] at j11
                  exact B15 (k14.symm.trans j11)
                · rw [if_neg c17] at j11
                  obtain ⟨rfl, rfl⟩ := am_i2 j11
                  exact hs
            intro j11
            obtain ⟨r18, h19, e20, j11⟩ := am_b2_ok j11
            have hs := s_X9_letterAt (am_I h3 78 (Int32.toNatClampNeg x4i)) x6i h3 hs e20
            by_cases c21 : ((x3i >>> ((r18 - (Int32.ofInt 1)) &&& 31)) &&& (Int32.ofInt 1)) = (Int32.ofInt 1)
            · rw [if_pos c21] at j11
              obtain ⟨rfl, rfl⟩ := am_i2 j11
              exact hs
            · rw [if_neg c21] at j11
              obtain ⟨rfl, rfl⟩ := am_i2 j11
              exact hs
          · rw [if_neg c12] at j11
            obtain ⟨rfl, rfl⟩ := am_i2 j11
            exact hs
        exact ih.2 a1 x2i x3i x4i y9 (x6i + Int32.ofInt 1) h10 _ _ hs hf
set_option maxRecDepth 100000 in
set_option maxHeartbeats 4000000 in
theorem l_X9_isWrong (n : Nat) : (∀ (a1 : Int32) (x2i : Int32) (x3i : Int32) (x4i : Int32) (x5i : Int32) (x6i : Int32) (h : am_H) (v : Int32) (h' : am_H), am_stat h → g_X9_isWrong n 0 a1 x2i x3i x4i x5i x6i h = some (v, h') → AW mX9_isWrong (rX9_isWrong 0 0) (fun r h2 => r = some (.int v) ∧ h2 = h') 12 [(0, .ref 51), (1, .int a1), (2, .int x2i)] [] h 0 0) ∧ (∀ (a1 : Int32) (x2i : Int32) (x3i : Int32) (x4i : Int32) (x5i : Int32) (x6i : Int32) (h : am_H) (v : Int32) (h' : am_H), am_stat h → g_X9_isWrong n 1 a1 x2i x3i x4i x5i x6i h = some (v, h') → AW mX9_isWrong (rX9_isWrong 0 0) (fun r h2 => r = some (.int v) ∧ h2 = h') 37 [(0, .ref 51), (1, .int a1), (2, .int x2i), (3, .int x3i), (4, .int x4i), (5, .int x5i), (6, .int x6i)] [] h 0 0) := by
  induction n with
  | zero => exact ⟨fun a1 x2i x3i x4i x5i x6i h v h' hs hf => (by cases hf), fun a1 x2i x3i x4i x5i x6i h v h' hs hf => (by cases hf)⟩
  | succ n ih =>
    refine ⟨?_, ?_⟩
    · intro a1 x2i x3i x4i x5i x6i h v h' hs hf
      have hf : ((if (Int32.ofInt 3) ≤ x2i then some ((Int32.ofInt 0), h) else am_b2 (f_X9_waitsFor n a1 x2i h) fun r2 h3 => (g_X9_isWrong n 1 a1 x2i r2 (((Int32.ofInt 3) * x2i) + a1) (Int32.ofInt 0) (Int32.ofInt 0) h3))) = some (v, h') := hf
      refine AW_go okX9_isWrong 3 ?_
      refine And.intro (fun c1 => ?_) (fun c1 => ?_)
      · rw [if_pos c1] at hf
        refine AW_go okX9_isWrong 2 ?_
        obtain ⟨rfl, rfl⟩ := am_i2 hf
        exact And.intro ⟨(Nat.le_of_ble_eq_true rfl), (Nat.le_of_ble_eq_true rfl)⟩ (And.intro (Or.inr ⟨rfl, Or.inl rfl⟩) ⟨rfl, rfl⟩)
      · rw [if_neg c1] at hf
        refine AW_go okX9_isWrong 3 ?_
        obtain ⟨r2, h3, e4, hf⟩ := am_b2_ok hf
        refine AW_callV (As := [.int a1, .int x2i]) (R' := rX9_waitsFor 0 0) (T := TX9) (N := 58) (ci := 9) (okX9_isWrong.1 20 _ _ rfl) lkX9_waitsFor kX9_323 rfl (sK hs 51) rfl (Nat.le_of_ble_eq_true rfl) ⟨by decide, by decide⟩ ⟨(Nat.le_of_ble_eq_true rfl), (Nat.le_of_ble_eq_true rfl)⟩ (Nat.le_of_ble_eq_true rfl) (c_X9_waitsFor n a1 x2i h hs e4) (fun r h' hq => ?_)
        obtain ⟨rfl, hq⟩ := hq
        replace hq := hq.symm
        subst hq
        have hs := s_X9_waitsFor n a1 x2i h hs e4
        refine AW_go okX9_isWrong 11 ?_
        refine AW_pick (lv' := [(0, .ref 51), (1, .int a1), (2, .int x2i), (3, .int r2), (4, .int (((Int32.ofInt 3) * x2i) + a1)), (5, .int (Int32.ofInt 0)), (6, .int (Int32.ofInt 0))]) [4, 5, 6, 3, 2, 1, 0] rfl ?_
        exact ih.2 a1 x2i r2 (((Int32.ofInt 3) * x2i) + a1) (Int32.ofInt 0) (Int32.ofInt 0) h3 _ _ hs hf
    · intro a1 x2i x3i x4i x5i x6i h v h' hs hf
      have hf : (bif am_vp x4i 9 then (am_b2 (f_X9_sizeOf (am_I h 78 (Int32.toNatClampNeg x4i)) h) fun r2 h3 => ((if r2 ≤ x6i then (if x3i = 0 then g_X9_isWrong n 0 a1 (x2i + Int32.ofInt 1) 0 0 0 0 h3 else (if (am_I h3 78 (Int32.toNatClampNeg x4i)) = 0 then g_X9_isWrong n 0 a1 (x2i + Int32.ofInt 1) 0 0 0 0 h3 else (if x5i = 0 then some ((Int32.ofInt 1), h3) else g_X9_isWrong n 0 a1 (x2i + Int32.ofInt 1) 0 0 0 0 h3))) else am_b2 ((if x5i = 0 then am_let (am_b2 (f_X9_letterAt (am_I h3 78 (Int32.toNatClampNeg x4i)) x6i h3) fun r16 h17 => ((if ((x3i >>> ((r16 - (Int32.ofInt 1)) &&& 31)) &&& (Int32.ofInt 1)) = (Int32.ofInt 1) then some ((Int32.ofInt 1), h17) else some ((Int32.ofInt 0), h17)))) fun b13 => ((if x6i = 0 then b13 else (if (am_I h3 59 (Int32.toNatClampNeg x4i)) = (Int32.ofInt 1) then b13 else some ((Int32.ofInt 0), h3)))) else some ((Int32.ofInt 1), h3))) fun y9 h10 => (g_X9_isWrong n 1 a1 x2i x3i x4i y9 (x6i + Int32.ofInt 1) h10)))) else none) = some (v, h') := hf
      obtain ⟨b1, hf⟩ := am_bis hf
      refine AW_go okX9_isWrong 5 ?_
      refine And.intro (sK hs 51) (Exists.intro _ (And.intro (sA hs 51 39) ?_))
      refine Exists.intro 9 (And.intro (sK hs 78) (And.intro (am_vp_ok b1) ?_))
      obtain ⟨r2, h3, e4, hf⟩ := am_b2_ok hf
      refine AW_callS (As := [.int (am_I h 78 (Int32.toNatClampNeg x4i))]) (R' := rX9_sizeOf 0 0) (okX9_isWrong.1 46 _ _ rfl) lkX9_sizeOf (Or.inl kX9_270) rfl (Nat.le_of_ble_eq_true rfl) ⟨by decide, by decide⟩ ⟨(Nat.le_of_ble_eq_true rfl), (Nat.le_of_ble_eq_true rfl)⟩ (Nat.le_of_ble_eq_true rfl) (c_X9_sizeOf (am_I h 78 (Int32.toNatClampNeg x4i)) h hs e4) (fun r h' hq => ?_)
      obtain ⟨rfl, hq⟩ := hq
      replace hq := hq.symm
      subst hq
      have hs := s_X9_sizeOf (am_I h 78 (Int32.toNatClampNeg x4i)) h hs e4
      refine AW_go okX9_isWrong 1 ?_
      refine And.intro (fun c5 => ?_) (fun c5 => ?_)
      · rw [if_pos c5] at hf
        refine AW_go okX9_isWrong 2 ?_
        refine And.intro (fun c6 => ?_) (fun c6 => ?_)
        · rw [if_pos c6] at hf
          refine AW_go okX9_isWrong 2 ?_
          refine AW_pick (lv' := [(0, .ref 51), (1, .int a1), (2, .int (x2i + Int32.ofInt 1))]) [1, 2, 0] rfl ?_
          exact ih.1 a1 (x2i + Int32.ofInt 1) 0 0 0 0 h3 _ _ hs hf
        · rw [if_neg c6] at hf
          refine AW_go okX9_isWrong 5 ?_
          refine And.intro (sK hs 51) (Exists.intro _ (And.intro (sA hs 51 39) ?_))
          refine Exists.intro 9 (And.intro (sK hs 78) (And.intro (am_vp_ok b1) ?_))
          refine And.intro (fun c7 => ?_) (fun c7 => ?_)
          · rw [if_pos c7] at hf
            refine AW_go okX9_isWrong 2 ?_
            refine AW_pick (lv' := [(0, .ref 51), (1, .int a1), (2, .int (x2i + Int32.ofInt 1))]) [1, 2, 0] rfl ?_
            exact ih.1 a1 (x2i + Int32.ofInt 1) 0 0 0 0 h3 _ _ hs hf
          · rw [if_neg c7] at hf
            refine AW_go okX9_isWrong 2 ?_
            refine And.intro (fun c8 => ?_) (fun c8 => ?_)
            · rw [if_neg c8] at hf
              refine AW_go okX9_isWrong 2 ?_
              refine AW_pick (lv' := [(0, .ref 51), (1, .int a1), (2, .int (x2i + Int32.ofInt 1))]) [1, 2, 0] rfl ?_
              exact ih.1 a1 (x2i + Int32.ofInt 1) 0 0 0 0 h3 _ _ hs hf
            · rw [if_pos c8] at hf
              refine AW_go okX9_isWrong 2 ?_
              obtain ⟨rfl, rfl⟩ := am_i2 hf
              exact And.intro ⟨(Nat.le_of_ble_eq_true rfl), (Nat.le_of_ble_eq_true rfl)⟩ (And.intro (Or.inr ⟨rfl, Or.inr rfl⟩) ⟨rfl, rfl⟩)
      · rw [if_neg c5] at hf
        refine AW_go okX9_isWrong 1 ?_
        obtain ⟨y9, h10, j11, hf⟩ := am_b2_ok hf
        have hs0 := hs
        have hs : am_stat h10 := by
          have hs := hs0
          by_cases c12 : x5i = 0
          · rw [if_pos c12] at j11
            obtain ⟨b13, k14, j11⟩ := am_let_ok j11
            refine am_cut (P := (am_b2 (f_X9_letterAt (am_I h3 78 (Int32.toNatClampNeg x4i)) x6i h3) fun r16 h17 => ((if ((x3i >>> ((r16 - (Int32.ofInt 1)) &&& 31)) &&& (Int32.ofInt 1)) = (Int32.ofInt 1) then some ((Int32.ofInt 1), h17) else some ((Int32.ofInt 0), h17)))) = some (y9, h10) → am_stat h10) (fun B15 => ?_) ?_
            · skip
              by_cases c16 : x6i = 0
              · rw [if_pos c16] at j11
                exact B15 (k14.symm.trans j11)
              · rw [if_neg c16] at j11
                by_cases c17 : (am_I h3 59 (Int32.toNatClampNeg x4i)) = (Int32.ofInt 1)
                · rw [if_pos c17] at j11
                  exact B15 (k14.symm.trans j11)
                · rw [if_neg c17] at j11
                  obtain ⟨rfl, rfl⟩ := am_i2 j11
                  exact hs
            intro j11
            obtain ⟨r18, h19, e20, j11⟩ := am_b2_ok j11
            have hs := s_X9_letterAt (am_I h3 78 (Int32.toNatClampNeg x4i)) x6i h3 hs e20
            by_cases c21 : ((x3i >>> ((r18 - (Int32.ofInt 1)) &&& 31)) &&& (Int32.ofInt 1)) = (Int32.ofInt 1)
            · rw [if_pos c21] at j11
              obtain ⟨rfl, rfl⟩ := am_i2 j11
              exact hs
            · rw [if_neg c21] at j11
              obtain ⟨rfl, rfl⟩ := am_i2 j11
              exact hs
          · rw [if_neg c12] at j11
            obtain ⟨rfl, rfl⟩ := am_i2 j11
            exact hs
        refine am_cut (P := AW mX9_isWrong (rX9_isWrong 0 0) (fun r h2 => r = some (.int v) ∧ h2 = h') 100 [(0, .ref 51), (1, .int a1), (2, .int x2i), (3, .int x3i), (4, .int x4i), (5, .int x5i), (6, .int x6i)] [.int y9] h10 0 0) (fun hJ11 => ?_) ?_
        · have hs := hs0
          refine AW_go okX9_isWrong 1 ?_
          refine And.intro (fun c12 => ?_) (fun c12 => ?_)
          · rw [if_neg c12] at j11
            refine AW_go okX9_isWrong 2 ?_
            obtain ⟨rfl, rfl⟩ := am_i2 j11
            exact AW_pick [0, 1, 2, 3, 4, 5, 6] rfl hJ11
          · rw [if_pos c12] at j11
            refine AW_go okX9_isWrong 1 ?_
            obtain ⟨b13, k14, j11⟩ := am_let_ok j11
            refine am_cut (P := (am_b2 (f_X9_letterAt (am_I h3 78 (Int32.toNatClampNeg x4i)) x6i h3) fun r16 h17 => ((if ((x3i >>> ((r16 - (Int32.ofInt 1)) &&& 31)) &&& (Int32.ofInt 1)) = (Int32.ofInt 1) then some ((Int32.ofInt 1), h17) else some ((Int32.ofInt 0), h17)))) = some (y9, h10) → AW mX9_isWrong (rX9_isWrong 0 0) (fun r h2 => r = some (.int v) ∧ h2 = h') 73 [(0, .ref 51), (1, .int a1), (2, .int x2i), (3, .int x3i), (4, .int x4i), (5, .int x5i), (6, .int x6i)] [] h3 0 0) (fun B15 => ?_) ?_
            · skip
              refine AW_go okX9_isWrong 1 ?_
              refine And.intro (fun c16 => ?_) (fun c16 => ?_)
              · rw [if_pos c16] at j11
                exact B15 (k14.symm.trans j11)
              · rw [if_neg c16] at j11
                refine AW_go okX9_isWrong 6 ?_
                refine And.intro (sK hs 51) (Exists.intro _ (And.intro (sA hs 51 10) ?_))
                refine Exists.intro 9 (And.intro (sK hs 59) (And.intro (am_vp_ok b1) ?_))
                refine And.intro (fun c17 => ?_) (fun c17 => ?_)
                · rw [if_neg c17] at j11
                  refine AW_go okX9_isWrong 1 ?_
                  obtain ⟨rfl, rfl⟩ := am_i2 j11
                  exact AW_pick [0, 1, 2, 3, 4, 5, 6] rfl hJ11
                · rw [if_pos c17] at j11
                  exact B15 (k14.symm.trans j11)
            intro j11
            refine AW_go okX9_isWrong 6 ?_
            refine And.intro (sK hs 51) (Exists.intro _ (And.intro (sA hs 51 39) ?_))
            refine Exists.intro 9 (And.intro (sK hs 78) (And.intro (am_vp_ok b1) ?_))
            obtain ⟨r18, h19, e20, j11⟩ := am_b2_ok j11
            refine AW_callS (As := [.int (am_I h3 78 (Int32.toNatClampNeg x4i)), .int x6i]) (R' := rX9_letterAt 0 0) (okX9_isWrong.1 83 _ _ rfl) lkX9_letterAt (Or.inl kX9_273) rfl (Nat.le_of_ble_eq_true rfl) ⟨by decide, by decide⟩ ⟨(Nat.le_of_ble_eq_true rfl), (Nat.le_of_ble_eq_true rfl)⟩ (Nat.le_of_ble_eq_true rfl) (c_X9_letterAt (am_I h3 78 (Int32.toNatClampNeg x4i)) x6i h3 hs e20) (fun r h' hq => ?_)
            obtain ⟨rfl, hq⟩ := hq
            replace hq := hq.symm
            subst hq
            have hs := s_X9_letterAt (am_I h3 78 (Int32.toNatClampNeg x4i)) x6i h3 hs e20
            refine AW_go okX9_isWrong 7 ?_
            refine And.intro (fun c21 => ?_) (fun c21 => ?_)
            · rw [if_neg c21] at j11
              refine AW_go okX9_isWrong 1 ?_
              obtain ⟨rfl, rfl⟩ := am_i2 j11
              exact AW_pick [0, 1, 2, 3, 4, 5, 6] rfl hJ11
            · rw [if_pos c21] at j11
              refine AW_go okX9_isWrong 2 ?_
              obtain ⟨rfl, rfl⟩ := am_i2 j11
              exact AW_pick [0, 1, 2, 3, 4, 5, 6] rfl hJ11
        refine AW_go okX9_isWrong 3 ?_
        refine AW_pick (lv' := [(0, .ref 51), (1, .int a1), (2, .int x2i), (3, .int x3i), (4, .int x4i), (5, .int y9), (6, .int (x6i + Int32.ofInt 1))]) [2, 3, 4, 5, 6, 1, 0] rfl ?_
        exact ih.2 a1 x2i x3i x4i y9 (x6i + Int32.ofInt 1) h10 _ _ hs hf
def f_X9_isWrong (n : Nat) (a1 : Int32) (h : am_H) : Option (Int32 × am_H) := am_b2 (f_X9_onlyWaits n a1 h) fun r1 h2 => ((if r1 = 0 then some ((Int32.ofInt 0), h2) else g_X9_isWrong n 0 a1 (Int32.ofInt 0) 0 0 0 0 h2))
set_option maxRecDepth 100000 in
theorem s_X9_isWrong (n : Nat) (a1 : Int32) (h : am_H) (hs : am_stat h) {v : Int32} {h' : am_H} (hf : f_X9_isWrong n a1 h = some (v, h')) : am_stat h' := by
  unfold f_X9_isWrong at hf
  obtain ⟨r1, h2, e3, hf⟩ := am_b2_ok hf
  have hs := s_X9_onlyWaits n a1 h hs e3
  by_cases c4 : r1 = 0
  · rw [if_pos c4] at hf
    obtain ⟨rfl, rfl⟩ := am_i2 hf
    exact hs
  · rw [if_neg c4] at hf
    exact (m_X9_isWrong n).1 a1 (Int32.ofInt 0) 0 0 0 0 h2 _ _ hs hf
set_option maxRecDepth 100000 in
theorem c_X9_isWrong (n : Nat) (a1 : Int32) (h : am_H) (hs : am_stat h) {v : Int32} {h' : am_H} (hf : f_X9_isWrong n a1 h = some (v, h')) : AMet mX9_isWrong (rX9_isWrong 0 0) (fun r h2 => r = some (.int v) ∧ h2 = h') [.ref 51, .int a1] h := by
  unfold f_X9_isWrong at hf
  refine AW_go okX9_isWrong 2 ?_
  obtain ⟨r1, h2, e3, hf⟩ := am_b2_ok hf
  refine AW_callV (As := [.int a1]) (R' := rX9_onlyWaits 0 0) (T := TX9) (N := 58) (ci := 9) (okX9_isWrong.1 2 _ _ rfl) lkX9_onlyWaits kX9_320 rfl (sK hs 51) rfl (Nat.le_of_ble_eq_true rfl) ⟨by decide, by decide⟩ ⟨(Nat.le_of_ble_eq_true rfl), (Nat.le_of_ble_eq_true rfl)⟩ (Nat.le_of_ble_eq_true rfl) (c_X9_onlyWaits n a1 h hs e3) (fun r h' hq => ?_)
  obtain ⟨rfl, hq⟩ := hq
  replace hq := hq.symm
  subst hq
  have hs := s_X9_onlyWaits n a1 h hs e3
  refine AW_go okX9_isWrong 1 ?_
  refine And.intro (fun c4 => ?_) (fun c4 => ?_)
  · rw [if_neg c4] at hf
    refine AW_go okX9_isWrong 2 ?_
    refine AW_pick (lv' := [(0, .ref 51), (1, .int a1), (2, .int (Int32.ofInt 0))]) [1, 2, 0] rfl ?_
    exact (l_X9_isWrong n).1 a1 (Int32.ofInt 0) 0 0 0 0 h2 _ _ hs hf
  · rw [if_pos c4] at hf
    refine AW_go okX9_isWrong 2 ?_
    obtain ⟨rfl, rfl⟩ := am_i2 hf
    exact And.intro ⟨(Nat.le_of_ble_eq_true rfl), (Nat.le_of_ble_eq_true rfl)⟩ (And.intro (Or.inr ⟨rfl, Or.inl rfl⟩) ⟨rfl, rfl⟩)
