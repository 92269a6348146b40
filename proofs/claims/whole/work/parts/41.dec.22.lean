def g_X2_refine : Nat → Nat → Int32 → Int32 → Int32 → am_H → Option (Int32 × am_H)
  | 0, _, _, _, _, _ => none
  | n + 1, tag, x1i, x2i, x3i, h => bif Nat.beq tag 0 then ((if (am_I h 12 0) ≤ x2i then (am_A h 12 3).bind fun q2 => ((am_A h 12 4).bind fun q4 => (some (x1i, (am_sA (am_sA h 12 3 (some q4)) 12 4 (some q2))))) else g_X2_refine n 1 x1i x2i (Int32.ofInt 0) h)) else ((if x1i ≤ x3i then am_b2 ((if x3i = x1i then (am_A h 12 5).bind fun q6 => ((am_ln h 0 q6).bind fun n8 => (bif am_vp x1i n8 then (some ((x1i + Int32.ofInt 1), (am_sI h q6 (Int32.toNatClampNeg x1i) x2i))) else none)) else some (x1i, h))) fun y2 h3 => ((am_A h3 12 4).bind fun q61 => ((am_ln h3 0 q61).bind fun n63 => (bif am_vp x2i n63 then (g_X2_refine n 0 y2 (x2i + Int32.ofInt 1) 0 (am_sI h3 q61 (Int32.toNatClampNeg x2i) x3i)) else none))) else (am_A h 12 5).bind fun q66 => ((am_ln h 0 q66).bind fun n68 => (bif am_vp x3i n68 then (am_b2 (f_X2_alike n x2i (am_I h q66 (Int32.toNatClampNeg x3i)) h) fun r71 h72 => ((if r71 = 0 then g_X2_refine n 1 x1i x2i (x3i + Int32.ofInt 1) h72 else am_b2 ((if x3i = x1i then (am_A h72 12 5).bind fun q79 => ((am_ln h72 0 q79).bind fun n81 => (bif am_vp x1i n81 then (some ((x1i + Int32.ofInt 1), (am_sI h72 q79 (Int32.toNatClampNeg x1i) x2i))) else none)) else some (x1i, h72))) fun y75 h76 => ((am_A h76 12 4).bind fun q134 => ((am_ln h76 0 q134).bind fun n136 => (bif am_vp x2i n136 then (g_X2_refine n 0 y75 (x2i + Int32.ofInt 1) 0 (am_sI h76 q134 (Int32.toNatClampNeg x2i) x3i)) else none)))))) else none))))
set_option maxRecDepth 100000 in
set_option maxHeartbeats 4000000 in
theorem m_X2_refine (n : Nat) : (∀ (x1i : Int32) (x2i : Int32) (x3i : Int32) (h : am_H) (v : Int32) (h' : am_H), am_stat h → g_X2_refine n 0 x1i x2i x3i h = some (v, h') → am_stat h') ∧ (∀ (x1i : Int32) (x2i : Int32) (x3i : Int32) (h : am_H) (v : Int32) (h' : am_H), am_stat h → g_X2_refine n 1 x1i x2i x3i h = some (v, h') → am_stat h') := by
  induction n with
  | zero => exact ⟨fun x1i x2i x3i h v h' hs hf => (by cases hf), fun x1i x2i x3i h v h' hs hf => (by cases hf)⟩
  | succ n ih =>
    refine ⟨?_, ?_⟩
    · intro x1i x2i x3i h v h' hs hf
      have hf : ((if (am_I h 12 0) ≤ x2i then (am_A h 12 3).bind fun q2 => ((am_A h 12 4).bind fun q4 => (some (x1i, (am_sA (am_sA h 12 3 (some q4)) 12 4 (some q2))))) else g_X2_refine n 1 x1i x2i (Int32.ofInt 0) h)) = some (v, h') := hf
      by_cases c1 : (am_I h 12 0) ≤ x2i
      · rw [if_pos c1] at hf
        obtain ⟨q2, k3, hf⟩ := am_bnd hf
        obtain ⟨q4, k5, hf⟩ := am_bnd hf
        have hs := am_stA hs 12 3 (some q4) rfl
        have hs := am_stA hs 12 4 (some q2) rfl
        obtain ⟨rfl, rfl⟩ := am_i2 hf
        exact hs
      · rw [if_neg c1] at hf
        exact ih.2 x1i x2i (Int32.ofInt 0) h _ _ hs hf
    · intro x1i x2i x3i h v h' hs hf
      have hf : ((if x1i ≤ x3i then am_b2 ((if x3i = x1i then (am_A h 12 5).bind fun q6 => ((am_ln h 0 q6).bind fun n8 => (bif am_vp x1i n8 then (some ((x1i + Int32.ofInt 1), (am_sI h q6 (Int32.toNatClampNeg x1i) x2i))) else none)) else some (x1i, h))) fun y2 h3 => ((am_A h3 12 4).bind fun q61 => ((am_ln h3 0 q61).bind fun n63 => (bif am_vp x2i n63 then (g_X2_refine n 0 y2 (x2i + Int32.ofInt 1) 0 (am_sI h3 q61 (Int32.toNatClampNeg x2i) x3i)) else none))) else (am_A h 12 5).bind fun q66 => ((am_ln h 0 q66).bind fun n68 => (bif am_vp x3i n68 then (am_b2 (f_X2_alike n x2i (am_I h q66 (Int32.toNatClampNeg x3i)) h) fun r71 h72 => ((if r71 = 0 then g_X2_refine n 1 x1i x2i (x3i + Int32.ofInt 1) h72 else am_b2 ((if x3i = x1i then (am_A h72 12 5).bind fun q79 => ((am_ln h72 0 q79).bind fun n81 => (bif am_vp x1i n81 then (some ((x1i + Int32.ofInt 1), (am_sI h72 q79 (Int32.toNatClampNeg x1i) x2i))) else none)) else some (x1i, h72))) fun y75 h76 => ((am_A h76 12 4).bind fun q134 => ((am_ln h76 0 q134).bind fun n136 => (bif am_vp x2i n136 then (g_X2_refine n 0 y75 (x2i + Int32.ofInt 1) 0 (am_sI h76 q134 (Int32.toNatClampNeg x2i) x3i)) else none)))))) else none)))) = some (v, h') := hf
      by_cases c1 : x1i ≤ x3i
      · rw [if_pos c1] at hf
        obtain ⟨y2, h3, j4, hf⟩ := am_b2_ok hf
        have hs0 := hs
        have hs : am_stat h3 := by
          have hs := hs0
          by_cases c5 : x3i = x1i
          · rw [if_pos c5] at j4
            obtain ⟨q6, k7, j4⟩ := am_bnd j4
            obtain ⟨n8, k9, j4⟩ := am_bnd j4
            obtain ⟨b10, j4⟩ := am_bis j4
            obtain ⟨rfl, rfl⟩ := am_i2 j4
            exact hs
          · rw [if_neg c5] at j4
            obtain ⟨rfl, rfl⟩ := am_i2 j4
            exact hs
        obtain ⟨q61, k62, hf⟩ := am_bnd hf
        obtain ⟨n63, k64, hf⟩ := am_bnd hf
        obtain ⟨b65, hf⟩ := am_bis hf
        exact ih.1 y2 (x2i + Int32.ofInt 1) 0 (am_sI h3 q61 (Int32.toNatClampNeg x2i) x3i) _ _ hs hf
      · rw [if_neg c1] at hf
        obtain ⟨q66, k67, hf⟩ := am_bnd hf
        obtain ⟨n68, k69, hf⟩ := am_bnd hf
        obtain ⟨b70, hf⟩ := am_bis hf
        obtain ⟨r71, h72, e73, hf⟩ := am_b2_ok hf
        have hs := s_X2_alike n x2i (am_I h q66 (Int32.toNatClampNeg x3i)) h hs e73
        by_cases c74 : r71 = 0
        · rw [if_pos c74] at hf
          exact ih.2 x1i x2i (x3i + Int32.ofInt 1) h72 _ _ hs hf
        · rw [if_neg c74] at hf
          obtain ⟨y75, h76, j77, hf⟩ := am_b2_ok hf
          have hs0 := hs
          have hs : am_stat h76 := by
            have hs := hs0
            by_cases c78 : x3i = x1i
            · rw [if_pos c78] at j77
              obtain ⟨q79, k80, j77⟩ := am_bnd j77
              obtain ⟨n81, k82, j77⟩ := am_bnd j77
              obtain ⟨b83, j77⟩ := am_bis j77
              obtain ⟨rfl, rfl⟩ := am_i2 j77
              exact hs
            · rw [if_neg c78] at j77
              obtain ⟨rfl, rfl⟩ := am_i2 j77
              exact hs
          obtain ⟨q134, k135, hf⟩ := am_bnd hf
          obtain ⟨n136, k137, hf⟩ := am_bnd hf
          obtain ⟨b138, hf⟩ := am_bis hf
          exact ih.1 y75 (x2i + Int32.ofInt 1) 0 (am_sI h76 q134 (Int32.toNatClampNeg x2i) x3i) _ _ hs hf
set_option maxRecDepth 100000 in
set_option maxHeartbeats 4000000 in
theorem l_X2_refine (n : Nat) : (∀ (x1i : Int32) (x2i : Int32) (x3i : Int32) (h : am_H) (v : Int32) (h' : am_H), am_stat h → g_X2_refine n 0 x1i x2i x3i h = some (v, h') → AW mX2_refine (rX2_refine 0 0) (fun r h2 => r = some (.int v) ∧ h2 = h') 4 [(0, .ref 12), (1, .int x1i), (2, .int x2i)] [] h 0 0) ∧ (∀ (x1i : Int32) (x2i : Int32) (x3i : Int32) (h : am_H) (v : Int32) (h' : am_H), am_stat h → g_X2_refine n 1 x1i x2i x3i h = some (v, h') → AW mX2_refine (rX2_refine 0 0) (fun r h2 => r = some (.int v) ∧ h2 = h') 14 [(0, .ref 12), (1, .int x1i), (2, .int x2i), (3, .int x3i)] [] h 0 0) := by
  induction n with
  | zero => exact ⟨fun x1i x2i x3i h v h' hs hf => (by cases hf), fun x1i x2i x3i h v h' hs hf => (by cases hf)⟩
  | succ n ih =>
    refine ⟨?_, ?_⟩
    · intro x1i x2i x3i h v h' hs hf
      have hf : ((if (am_I h 12 0) ≤ x2i then (am_A h 12 3).bind fun q2 => ((am_A h 12 4).bind fun q4 => (some (x1i, (am_sA (am_sA h 12 3 (some q4)) 12 4 (some q2))))) else g_X2_refine n 1 x1i x2i (Int32.ofInt 0) h)) = some (v, h') := hf
      refine AW_go okX2_refine 4 ?_
      refine And.intro (sK hs 12) ?_
      refine And.intro (fun c1 => ?_) (fun c1 => ?_)
      · rw [if_pos c1] at hf
        obtain ⟨q2, k3, hf⟩ := am_bnd hf
        obtain ⟨q4, k5, hf⟩ := am_bnd hf
        refine AW_go okX2_refine 12 ?_
        refine And.intro (sK hs 12) (Exists.intro (some q2) (And.intro k3 ?_))
        refine And.intro (sK hs 12) (Exists.intro (some q4) (And.intro k5 ?_))
        refine And.intro (sK hs 12) ?_
        have hs := am_stA hs 12 3 (some q4) rfl
        refine And.intro (sK hs 12) ?_
        have hs := am_stA hs 12 4 (some q2) rfl
        obtain ⟨rfl, rfl⟩ := am_i2 hf
        exact And.intro ⟨(Nat.le_of_ble_eq_true rfl), (Nat.le_of_ble_eq_true rfl)⟩ (And.intro (Or.inl rfl) ⟨rfl, rfl⟩)
      · rw [if_neg c1] at hf
        refine AW_go okX2_refine 2 ?_
        refine AW_pick (lv' := [(0, .ref 12), (1, .int x1i), (2, .int x2i), (3, .int (Int32.ofInt 0))]) [1, 2, 3, 0] rfl ?_
        exact ih.2 x1i x2i (Int32.ofInt 0) h _ _ hs hf
    · intro x1i x2i x3i h v h' hs hf
      have hf : ((if x1i ≤ x3i then am_b2 ((if x3i = x1i then (am_A h 12 5).bind fun q6 => ((am_ln h 0 q6).bind fun n8 => (bif am_vp x1i n8 then (some ((x1i + Int32.ofInt 1), (am_sI h q6 (Int32.toNatClampNeg x1i) x2i))) else none)) else some (x1i, h))) fun y2 h3 => ((am_A h3 12 4).bind fun q61 => ((am_ln h3 0 q61).bind fun n63 => (bif am_vp x2i n63 then (g_X2_refine n 0 y2 (x2i + Int32.ofInt 1) 0 (am_sI h3 q61 (Int32.toNatClampNeg x2i) x3i)) else none))) else (am_A h 12 5).bind fun q66 => ((am_ln h 0 q66).bind fun n68 => (bif am_vp x3i n68 then (am_b2 (f_X2_alike n x2i (am_I h q66 (Int32.toNatClampNeg x3i)) h) fun r71 h72 => ((if r71 = 0 then g_X2_refine n 1 x1i x2i (x3i + Int32.ofInt 1) h72 else am_b2 ((if x3i = x1i then (am_A h72 12 5).bind fun q79 => ((am_ln h72 0 q79).bind fun n81 => (bif am_vp x1i n81 then (some ((x1i + Int32.ofInt 1), (am_sI h72 q79 (Int32.toNatClampNeg x1i) x2i))) else none)) else some (x1i, h72))) fun y75 h76 => ((am_A h76 12 4).bind fun q134 => ((am_ln h76 0 q134).bind fun n136 => (bif am_vp x2i n136 then (g_X2_refine n 0 y75 (x2i + Int32.ofInt 1) 0 (am_sI h76 q134 (Int32.toNatClampNeg x2i) x3i)) else none)))))) else none)))) = some (v, h') := hf
      refine AW_go okX2_refine 3 ?_
      refine And.intro (fun c1 => ?_) (fun c1 => ?_)
      · rw [if_pos c1] at hf
        refine AW_go okX2_refine 2 ?_
        obtain ⟨y2, h3, j4, hf⟩ := am_b2_ok hf
        have hs0 := hs
        have hs : am_stat h3 := by
          have hs := hs0
          by_cases c5 : x3i = x1i
          · rw [if_pos c5] at j4
            obtain ⟨q6, k7, j4⟩ := am_bnd j4
            obtain ⟨n8, k9, j4⟩ := am_bnd j4
            obtain ⟨b10, j4⟩ := am_bis j4
            obtain ⟨rfl, rfl⟩ := am_i2 j4
            exact hs
          · rw [if_neg c5] at j4
            obtain ⟨rfl, rfl⟩ := am_i2 j4
            exact hs
        refine am_cut (P := AW mX2_refine (rX2_refine 0 0) (fun r h2 => r = some (.int v) ∧ h2 = h') 54 [(0, .ref 12), (1, .int y2), (2, .int x2i), (3, .int x3i)] [] h3 0 0) (fun hJ4 => ?_) ?_
        · have hs := hs0
          refine AW_go okX2_refine 1 ?_
          refine And.intro (fun c5 => ?_) (fun c5 => ?_)
          · rw [if_neg c5] at j4
            obtain ⟨rfl, rfl⟩ := am_i2 j4
            exact AW_pick [0, 1, 2, 3] rfl hJ4
          · rw [if_pos c5] at j4
            obtain ⟨q6, k7, j4⟩ := am_bnd j4
            obtain ⟨n8, k9, j4⟩ := am_bnd j4
            obtain ⟨b10, j4⟩ := am_bis j4
            refine AW_go okX2_refine 6 ?_
            refine And.intro (sK hs 12) (Exists.intro (some q6) (And.intro k7 ?_))
            refine Exists.intro n8 (And.intro (am_ln_ok k9) (And.intro (am_vp_ok b10) ?_))
            obtain ⟨rfl, rfl⟩ := am_i2 j4
            exact AW_pick [1, 0, 2, 3] rfl hJ4
        obtain ⟨q61, k62, hf⟩ := am_bnd hf
        obtain ⟨n63, k64, hf⟩ := am_bnd hf
        obtain ⟨b65, hf⟩ := am_bis hf
        refine AW_go okX2_refine 7 ?_
        refine And.intro (sK hs 12) (Exists.intro (some q61) (And.intro k62 ?_))
        refine Exists.intro n63 (And.intro (am_ln_ok k64) (And.intro (am_vp_ok b65) ?_))
        refine AW_pick (lv' := [(0, .ref 12), (1, .int y2), (2, .int (x2i + Int32.ofInt 1))]) [1, 2, 0] rfl ?_
        exact ih.1 y2 (x2i + Int32.ofInt 1) 0 (am_sI h3 q61 (Int32.toNatClampNeg x2i) x3i) _ _ hs hf
      · rw [if_neg c1] at hf
        obtain ⟨q66, k67, hf⟩ := am_bnd hf
        obtain ⟨n68, k69, hf⟩ := am_bnd hf
        obtain ⟨b70, hf⟩ := am_bis hf
        refine AW_go okX2_refine 6 ?_
        refine And.intro (sK hs 12) (Exists.intro (some q66) (And.intro k67 ?_))
        refine Exists.intro n68 (And.intro (am_ln_ok k69) (And.intro (am_vp_ok b70) ?_))
        obtain ⟨r71, h72, e73, hf⟩ := am_b2_ok hf
        refine AW_callV (As := [.int x2i, .int (am_I h q66 (Int32.toNatClampNeg x3i))]) (R' := rX2_alike 0 0) (T := TX2) (N := 7) (ci := 2) (okX2_refine.1 27 _ _ rfl) lkX2_alike kX2_78 rfl (sK hs 12) rfl (Nat.le_of_ble_eq_true rfl) ⟨by decide, by decide⟩ ⟨(Nat.le_of_ble_eq_true rfl), (Nat.le_of_ble_eq_true rfl)⟩ (Nat.le_of_ble_eq_true rfl) (c_X2_alike n x2i (am_I h q66 (Int32.toNatClampNeg x3i)) h hs e73) (fun r h' hq => ?_)
        obtain ⟨rfl, hq⟩ := hq
        replace hq := hq.symm
        subst hq
        have hs := s_X2_alike n x2i (am_I h q66 (Int32.toNatClampNeg x3i)) h hs e73
        refine AW_go okX2_refine 1 ?_
        refine And.intro (fun c74 => ?_) (fun c74 => ?_)
        · rw [if_neg c74] at hf
          refine AW_go okX2_refine 2 ?_
          obtain ⟨y75, h76, j77, hf⟩ := am_b2_ok hf
          have hs0 := hs
          have hs : am_stat h76 := by
            have hs := hs0
            by_cases c78 : x3i = x1i
            · rw [if_pos c78] at j77
              obtain ⟨q79, k80, j77⟩ := am_bnd j77
              obtain ⟨n81, k82, j77⟩ := am_bnd j77
              obtain ⟨b83, j77⟩ := am_bis j77
              obtain ⟨rfl, rfl⟩ := am_i2 j77
              exact hs
            · rw [if_neg c78] at j77
              obtain ⟨rfl, rfl⟩ := am_i2 j77
              exact hs
          refine am_cut (P := AW mX2_refine (rX2_refine 0 0) (fun r h2 => r = some (.int v) ∧ h2 = h') 54 [(0, .ref 12), (1, .int y75), (2, .int x2i), (3, .int x3i)] [] h76 0 0) (fun hJ77 => ?_) ?_
          · have hs := hs0
            refine AW_go okX2_refine 1 ?_
            refine And.intro (fun c78 => ?_) (fun c78 => ?_)
            · rw [if_neg c78] at j77
              obtain ⟨rfl, rfl⟩ := am_i2 j77
              exact AW_pick [0, 1, 2, 3] rfl hJ77
            · rw [if_pos c78] at j77
              obtain ⟨q79, k80, j77⟩ := am_bnd j77
              obtain ⟨n81, k82, j77⟩ := am_bnd j77
              obtain ⟨b83, j77⟩ := am_bis j77
              refine AW_go okX2_refine 6 ?_
              refine And.intro (sK hs 12) (Exists.intro (some q79) (And.intro k80 ?_))
              refine Exists.intro n81 (And.intro (am_ln_ok k82) (And.intro (am_vp_ok b83) ?_))
              obtain ⟨rfl, rfl⟩ := am_i2 j77
              exact AW_pick [1, 0, 2, 3] rfl hJ77
          obtain ⟨q134, k135, hf⟩ := am_bnd hf
          obtain ⟨n136, k137, hf⟩ := am_bnd hf
          obtain ⟨b138, hf⟩ := am_bis hf
          refine AW_go okX2_refine 7 ?_
          refine And.intro (sK hs 12) (Exists.intro (some q134) (And.intro k135 ?_))
          refine Exists.intro n136 (And.intro (am_ln_ok k137) (And.intro (am_vp_ok b138) ?_))
          refine AW_pick (lv' := [(0, .ref 12), (1, .int y75), (2, .int (x2i + Int32.ofInt 1))]) [1, 2, 0] rfl ?_
          exact ih.1 y75 (x2i + Int32.ofInt 1) 0 (am_sI h76 q134 (Int32.toNatClampNeg x2i) x3i) _ _ hs hf
        · rw [if_pos c74] at hf
          refine AW_go okX2_refine 2 ?_
          refine AW_pick (lv' := [(0, .ref 12), (1, .int x1i), (2, .int x2i), (3, .int (x3i + Int32.ofInt 1))]) [1, 2, 3, 0] rfl ?_
          exact ih.2 x1i x2i (x3i + Int32.ofInt 1) h72 _ _ hs hf
def f_X2_refine (n : Nat) (h : am_H) : Option (Int32 × am_H) := g_X2_refine n 0 (Int32.ofInt 0) (Int32.ofInt 0) 0 h
set_option maxRecDepth 100000 in
theorem s_X2_refine (n : Nat) (h : am_H) (hs : am_stat h) {v : Int32} {h' : am_H} (hf : f_X2_refine n h = some (v, h')) : am_stat h' := by
  unfold f_X2_refine at hf
  exact (m_X2_refine n).1 (Int32.ofInt 0) (Int32.ofInt 0) 0 h _ _ hs hf
set_option maxRecDepth 100000 in
theorem c_X2_refine (n : Nat) (h : am_H) (hs : am_stat h) {v : Int32} {h' : am_H} (hf : f_X2_refine n h = some (v, h')) : AMet mX2_refine (rX2_refine 0 0) (fun r h2 => r = some (.int v) ∧ h2 = h') [.ref 12] h := by
  unfold f_X2_refine at hf
  refine AW_go okX2_refine 4 ?_
  refine AW_pick (lv' := [(0, .ref 12), (1, .int (Int32.ofInt 0)), (2, .int (Int32.ofInt 0))]) [2, 1, 0] rfl ?_
  exact (l_X2_refine n).1 (Int32.ofInt 0) (Int32.ofInt 0) 0 h _ _ hs hf
def f_X5_phaseBehind (a1 : Int32) (a2 : Int32) (a3 : Int32) (h : am_H) : Option (Int32 × am_H) := (if (am_I h 3 1) = Int32.ofInt 0 then (if a1 = (Int32.ofInt 123) then some ((Int32.ofInt 0), (am_sI h 3 2 ((am_I h 3 2) + (Int32.ofInt 1)))) else am_b2 (f_X5_startsAct a1 a3 h) fun r3 h4 => (Option.bind ((if r3 = 0 then some (Int32.ofInt 5) else some (Int32.ofInt 1))) fun y6 => (some (y6, h4)))) else (if (am_I h 3 1) = Int32.ofInt 1 then am_b2 (f_X5_isDigit a1 h) fun r60 h61 => (Option.bind ((if r60 = 0 then some (Int32.ofInt 5) else (if a3 = 0 then some (Int32.ofInt 2) else (if a1 = a2 then some (Int32.ofInt 5) else some (Int32.ofInt 2))))) fun y63 => (some (y63, h61))) else (if (am_I h 3 1) = Int32.ofInt 2 then am_b2 (f_X5_isLetter a1 h) fun r119 h120 => (Option.bind ((if r119 = 0 then some (Int32.ofInt 5) else some (Int32.ofInt 3))) fun y122 => (some (y122, h120))) else (if (am_I h 3 1) = Int32.ofInt 3 then am_b2 (f_X5_phaseBehindItem a1 h) fun r176 h177 => (some (r176, h177)) else (if (am_I h 3 1) = Int32.ofInt 4 then am_b2 ((if a1 = (Int32.ofInt 42) then some ((Int32.ofInt 3), h) else am_b2 (f_X5_phaseBehindItem a1 h) fun r184 h185 => (some (r184, h185)))) fun y180 h181 => (some (y180, h181)) else am_b2 (f_X5_phaseBehindItem a1 h) fun r237 h238 => (some (r237, h238)))))))
set_option maxRecDepth 100000 in
theorem s_X5_phaseBehind (a1 : Int32) (a2 : Int32) (a3 : Int32) (h : am_H) (hs : am_stat h) {v : Int32} {h' : am_H} (hf : f_X5_phaseBehind a1 a2 a3 h = some (v, h')) : am_stat h' := by
  unfold f_X5_phaseBehind at hf
  by_cases c1 : (am_I h 3 1) = Int32.ofInt 0
  · rw [if_pos c1] at hf
    by_cases c2 : a1 = (Int32.ofInt 123)
    · rw [if_pos c2] at hf
      obtain ⟨rfl, rfl⟩ := am_i2 hf
      exact hs
    · rw [if_neg c2] at hf
      obtain ⟨r3, h4, e5, hf⟩ := am_b2_ok hf
      have hs := s_X5_startsAct a1 a3 h hs e5
      obtain ⟨y6, j7, hf⟩ := am_bnd hf
      obtain ⟨rfl, rfl⟩ := am_i2 hf
      exact hs
  rw [if_neg c1] at hf
  by_cases c59 : (am_I h 3 1) = Int32.ofInt 1
  · rw [if_pos c59] at hf
    obtain ⟨r60, h61, e62, hf⟩ := am_b2_ok hf
    have hs := s_X5_isDigit a1 h hs e62
    obtain ⟨y63, j64, hf⟩ := am_bnd hf
    obtain ⟨rfl, rfl⟩ := am_i2 hf
    exact hs
  rw [if_neg c59] at hf
  by_cases c118 : (am_I h 3 1) = Int32.ofInt 2
  · rw [if_pos c118] at hf
    obtain ⟨r119, h120, e121, hf⟩ := am_b2_ok hf
    have hs := s_X5_isLetter a1 h hs e121
    obtain ⟨y122, j123, hf⟩ := am_bnd hf
    obtain ⟨rfl, rfl⟩ := am_i2 hf
    exact hs
  rw [if_neg c118] at hf
  by_cases c175 : (am_I h 3 1) = Int32.ofInt 3
  · rw [if_pos c175] at hf
    obtain ⟨r176, h177, e178, hf⟩ := am_b2_ok hf
    have hs := s_X5_phaseBehindItem a1 h hs e178
    obtain ⟨rfl, rfl⟩ := am_i2 hf
    exact hs
  rw [if_neg c175] at hf
  by_cases c179 : (am_I h 3 1) = Int32.ofInt 4
  · rw [if_pos c179] at hf
    obtain ⟨y180, h181, j182, hf⟩ := am_b2_ok hf
    have hs0 := hs
    have hs : am_stat h181 := by
      have hs := hs0
      by_cases c183 : a1 = (Int32.ofInt 42)
      · rw [if_pos c183] at j182
        obtain ⟨rfl, rfl⟩ := am_i2 j182
        exact hs
      · rw [if_neg c183] at j182
        obtain ⟨r184, h185, e186, j182⟩ := am_b2_ok j182
        have hs := s_X5_phaseBehindItem a1 h hs e186
        obtain ⟨rfl, rfl⟩ := am_i2 j182
        exact hs
    obtain ⟨rfl, rfl⟩ := am_i2 hf
    exact hs
  rw [if_neg c179] at hf
  obtain ⟨r237, h238, e239, hf⟩ := am_b2_ok hf
  have hs := s_X5_phaseBehindItem a1 h hs e239
  obtain ⟨rfl, rfl⟩ := am_i2 hf
  exact hs
set_option maxRecDepth 100000 in
theorem c_X5_phaseBehind (a1 : Int32) (a2 : Int32) (a3 : Int32) (h : am_H) (hs : am_stat h) {v : Int32} {h' : am_H} (hf : f_X5_phaseBehind a1 a2 a3 h = some (v, h')) : AMet mX5_phaseBehind (rX5_phaseBehind 0 0) (fun r h2 => r = some (.int v) ∧ h2 = h') [.ref 3, .int a1, .int a2, .int a3] h := by
  unfold f_X5_phaseBehind at hf
  refine AW_go okX5_phaseBehind 3 ?_
  refine And.intro (sK hs 3) ?_
  by_cases c1 : (am_I h 3 1) = Int32.ofInt 0
  · rw [if_pos c1] at hf
    refine And.intro (fun q => absurd q (by rw [c1]; decide)) (fun _ _ => Exists.intro 36 (Exists.intro 40 (And.intro (by rw [c1]; rfl) (And.intro rfl ?_))))
    refine AW_go okX5_phaseBehind 3 ?_
    refine And.intro (fun c2 => ?_) (fun c2 => ?_)
    · rw [if_neg c2] at hf
      refine AW_go okX5_phaseBehind 2 ?_
      obtain ⟨r3, h4, e5, hf⟩ := am_b2_ok hf
      refine AW_callS (As := [.int a1, .int a3]) (R' := rX5_startsAct 0 0) (okX5_phaseBehind.1 60 _ _ rfl) lkX5_startsAct (Or.inl kX5_56) rfl (Nat.le_of_ble_eq_true rfl) ⟨by decide, by decide⟩ ⟨(Nat.le_of_ble_eq_true rfl), (Nat.le_of_ble_eq_true rfl)⟩ (Nat.le_of_ble_eq_true rfl) (c_X5_startsAct a1 a3 h hs e5) (fun r h' hq => ?_)
      obtain ⟨rfl, hq⟩ := hq
      replace hq := hq.symm
      subst hq
      have hs := s_X5_startsAct a1 a3 h hs e5
      obtain ⟨y6, j7, hf⟩ := am_bnd hf
      refine am_cut (P := AW mX5_phaseBehind (rX5_phaseBehind 0 0) (fun r h2 => r = some (.int v) ∧ h2 = h') 71 [(0, .ref 3), (1, .int a1), (2, .int a2), (3, .int a3)] [.int y6] h4 0 0) (fun hJ7 => ?_) ?_
      · have hs := hs
        refine AW_go okX5_phaseBehind 1 ?_
        refine And.intro (fun c8 => ?_) (fun c8 => ?_)
        · rw [if_pos c8] at j7
          refine AW_go okX5_phaseBehind 1 ?_
          obtain rfl := am_i1 j7
          exact AW_pick [0, 1, 2, 3] rfl hJ7
        · rw [if_neg c8] at j7
          refine AW_go okX5_phaseBehind 2 ?_
          obtain rfl := am_i1 j7
          exact AW_pick [0, 1, 2, 3] rfl hJ7
      refine AW_go okX5_phaseBehind 1 ?_
      obtain ⟨rfl, rfl⟩ := am_i2 hf
      exact And.intro ⟨(Nat.le_of_ble_eq_true rfl), (Nat.le_of_ble_eq_true rfl)⟩ (And.intro (Or.inl rfl) ⟨rfl, rfl⟩)
    · rw [if_pos c2] at hf
      refine AW_go okX5_phaseBehind 8 ?_
      refine And.intro (sK hs 3) ?_
      refine And.intro (sK hs 3) ?_
      obtain ⟨rfl, rfl⟩ := am_i2 hf
      exact And.intro ⟨(Nat.le_of_ble_eq_true rfl), (Nat.le_of_ble_eq_true rfl)⟩ (And.intro (Or.inl rfl) ⟨rfl, rfl⟩)
  rw [if_neg c1] at hf
  by_cases c59 : (am_I h 3 1) = Int32.ofInt 1
  · rw [if_pos c59] at hf
    refine And.intro (fun q => absurd q (by rw [c59]; decide)) (fun _ _ => Exists.intro 68 (Exists.intro 72 (And.intro (by rw [c59]; rfl) (And.intro rfl ?_))))
    refine AW_go okX5_phaseBehind 1 ?_
    obtain ⟨r60, h61, e62, hf⟩ := am_b2_ok hf
    refine AW_callS (As := [.int a1]) (R' := rX5_isDigit 0 0) (okX5_phaseBehind.1 73 _ _ rfl) lkX5_isDigit (Or.inl kX5_60) rfl (Nat.le_of_ble_eq_true rfl) ⟨by decide, by decide⟩ ⟨(Nat.le_of_ble_eq_true rfl), (Nat.le_of_ble_eq_true rfl)⟩ (Nat.le_of_ble_eq_true rfl) (c_X5_isDigit a1 h hs e62) (fun r h' hq => ?_)
    obtain ⟨rfl, hq⟩ := hq
    replace hq := hq.symm
    subst hq
    have hs := s_X5_isDigit a1 h hs e62
    obtain ⟨y63, j64, hf⟩ := am_bnd hf
    refine am_cut (P := AW mX5_phaseBehind (rX5_phaseBehind 0 0) (fun r h2 => r = some (.int v) ∧ h2 = h') 93 [(0, .ref 3), (1, .int a1), (2, .int a2), (3, .int a3)] [.int y63] h61 0 0) (fun hJ64 => ?_) ?_
    · have hs := hs
      refine AW_go okX5_phaseBehind 1 ?_
      refine And.intro (fun c65 => ?_) (fun c65 => ?_)
      · rw [if_pos c65] at j64
        refine AW_go okX5_phaseBehind 1 ?_
        obtain rfl := am_i1 j64
        exact AW_pick [0, 1, 2, 3] rfl hJ64
      · rw [if_neg c65] at j64
        refine AW_go okX5_phaseBehind 2 ?_
        refine And.intro (fun c66 => ?_) (fun c66 => ?_)
        · rw [if_pos c66] at j64
          refine AW_go okX5_phaseBehind 2 ?_
          obtain rfl := am_i1 j64
          exact AW_pick [0, 1, 2, 3] rfl hJ64
        · rw [if_neg c66] at j64
          refine AW_go okX5_phaseBehind 3 ?_
          refine And.intro (fun c67 => ?_) (fun c67 => ?_)
          · rw [if_pos c67] at j64
            refine AW_go okX5_phaseBehind 1 ?_
            obtain rfl := am_i1 j64
            exact AW_pick [0, 1, 2, 3] rfl hJ64
          · rw [if_neg c67] at j64
            refine AW_go okX5_phaseBehind 2 ?_
            obtain rfl := am_i1 j64
            exact AW_pick [0, 1, 2, 3] rfl hJ64
    refine AW_go okX5_phaseBehind 1 ?_
    obtain ⟨rfl, rfl⟩ := am_i2 hf
    exact And.intro ⟨(Nat.le_of_ble_eq_true rfl), (Nat.le_of_ble_eq_true rfl)⟩ (And.intro (Or.inl rfl) ⟨rfl, rfl⟩)
  rw [if_neg c59] at hf
  by_cases c118 : (am_I h 3 1) = Int32.ofInt 2
  · rw [if_pos c118] at hf
    refine And.intro (fun q => absurd q (by rw [c118]; decide)) (fun _ _ => Exists.intro 90 (Exists.intro 94 (And.intro (by rw [c118]; rfl) (And.intro rfl ?_))))
    refine AW_go okX5_phaseBehind 1 ?_
    obtain ⟨r119, h120, e121, hf⟩ := am_b2_ok hf
    refine AW_callS (As := [.int a1]) (R' := rX5_isLetter 0 0) (okX5_phaseBehind.1 95 _ _ rfl) lkX5_isLetter (Or.inl kX5_64) rfl (Nat.le_of_ble_eq_true rfl) ⟨by decide, by decide⟩ ⟨(Nat.le_of_ble_eq_true rfl), (Nat.le_of_ble_eq_true rfl)⟩ (Nat.le_of_ble_eq_true rfl) (c_X5_isLetter a1 h hs e121) (fun r h' hq => ?_)
    obtain ⟨rfl, hq⟩ := hq
    replace hq := hq.symm
    subst hq
    have hs := s_X5_isLetter a1 h hs e121
    obtain ⟨y122, j123, hf⟩ := am_bnd hf
    refine am_cut (P := AW mX5_phaseBehind (rX5_phaseBehind 0 0) (fun r h2 => r = some (.int v) ∧ h2 = h') 106 [(0, .ref 3), (1, .int a1), (2, .int a2), (3, .int a3)] [.int y122] h120 0 0) (fun hJ123 => ?_) ?_
    · have hs := hs
      refine AW_go okX5_phaseBehind 1 ?_
      refine And.intro (fun c124 => ?_) (fun c124 => ?_)
      · rw [if_pos c124] at j123
        refine AW_go okX5_phaseBehind 1 ?_
        obtain rfl := am_i1 j123
        exact AW_pick [0, 1, 2, 3] rfl hJ123
      · rw [if_neg c124] at j123
        refine AW_go okX5_phaseBehind 2 ?_
        obtain rfl := am_i1 j123
        exact AW_pick [0, 1, 2, 3] rfl hJ123
    refine AW_go okX5_phaseBehind 1 ?_
    obtain ⟨rfl, rfl⟩ := am_i2 hf
    exact And.intro ⟨(Nat.le_of_ble_eq_true rfl), (Nat.le_of_ble_eq_true rfl)⟩ (And.intro (Or.inl rfl) ⟨rfl, rfl⟩)
  rw [if_neg c118] at hf
  by_cases c175 : (am_I h 3 1) = Int32.ofInt 3
  · rw [if_pos c175] at hf
    refine And.intro (fun q => absurd q (by rw [c175]; decide)) (fun _ _ => Exists.intro 119 (Exists.intro 123 (And.intro (by rw [c175]; rfl) (And.intro rfl ?_))))
    refine AW_go okX5_phaseBehind 2 ?_
    obtain ⟨r176, h177, e178, hf⟩ := am_b2_ok hf
    refine AW_callV (As := [.int a1]) (R' := rX5_phaseBehindItem 0 0) (T := TX5) (N := 12) (ci := 5) (okX5_phaseBehind.1 125 _ _ rfl) lkX5_phaseBehindItem kX5_67 rfl (sK hs 3) rfl (Nat.le_of_ble_eq_true rfl) ⟨by decide, by decide⟩ ⟨(Nat.le_of_ble_eq_true rfl), (Nat.le_of_ble_eq_true rfl)⟩ (Nat.le_of_ble_eq_true rfl) (c_X5_phaseBehindItem a1 h hs e178) (fun r h' hq => ?_)
    obtain ⟨rfl, hq⟩ := hq
    replace hq := hq.symm
    subst hq
    have hs := s_X5_phaseBehindItem a1 h hs e178
    refine AW_go okX5_phaseBehind 1 ?_
    obtain ⟨rfl, rfl⟩ := am_i2 hf
    exact And.intro ⟨(Nat.le_of_ble_eq_true rfl), (Nat.le_of_ble_eq_true rfl)⟩ (And.intro (Or.inl rfl) ⟨rfl, rfl⟩)
  rw [if_neg c175] at hf
  by_cases c179 : (am_I h 3 1) = Int32.ofInt 4
  · rw [if_pos c179] at hf
    refine And.intro (fun q => absurd q (by rw [c179]; decide)) (fun _ _ => Exists.intro 103 (Exists.intro 107 (And.intro (by rw [c179]; rfl) (And.intro rfl ?_))))
    refine AW_go okX5_phaseBehind 2 ?_
    obtain ⟨y180, h181, j182, hf⟩ := am_b2_ok hf
    have hs0 := hs
    have hs : am_stat h181 := by
      have hs := hs0
      by_cases c183 : a1 = (Int32.ofInt 42)
      · rw [if_pos c183] at j182
        obtain ⟨rfl, rfl⟩ := am_i2 j182
        exact hs
      · rw [if_neg c183] at j182
        obtain ⟨r184, h185, e186, j182⟩ := am_b2_ok j182
        have hs := s_X5_phaseBehindItem a1 h hs e186
        obtain ⟨rfl, rfl⟩ := am_i2 j182
        exact hs
    refine am_cut (P := AW mX5_phaseBehind (rX5_phaseBehind 0 0) (fun r h2 => r = some (.int v) ∧ h2 = h') 122 [(0, .ref 3), (1, .int a1), (2, .int a2), (3, .int a3)] [.int y180] h181 0 0) (fun hJ182 => ?_) ?_
    · have hs := hs0
      refine AW_go okX5_phaseBehind 1 ?_
      refine And.intro (fun c183 => ?_) (fun c183 => ?_)
      · rw [if_neg c183] at j182
        refine AW_go okX5_phaseBehind 2 ?_
        obtain ⟨r184, h185, e186, j182⟩ := am_b2_ok j182
        refine AW_callV (As := [.int a1]) (R' := rX5_phaseBehindItem 0 0) (T := TX5) (N := 12) (ci := 5) (okX5_phaseBehind.1 119 _ _ rfl) lkX5_phaseBehindItem kX5_67 rfl (sK hs 3) rfl (Nat.le_of_ble_eq_true rfl) ⟨by decide, by decide⟩ ⟨(Nat.le_of_ble_eq_true rfl), (Nat.le_of_ble_eq_true rfl)⟩ (Nat.le_of_ble_eq_true rfl) (c_X5_phaseBehindItem a1 h hs e186) (fun r h' hq => ?_)
        obtain ⟨rfl, hq⟩ := hq
        replace hq := hq.symm
        subst hq
        have hs := s_X5_phaseBehindItem a1 h hs e186
        obtain ⟨rfl, rfl⟩ := am_i2 j182
        exact AW_pick [0, 1, 2, 3] rfl hJ182
      · rw [if_pos c183] at j182
        refine AW_go okX5_phaseBehind 2 ?_
        obtain ⟨rfl, rfl⟩ := am_i2 j182
        exact AW_pick [0, 1, 2, 3] rfl hJ182
    refine AW_go okX5_phaseBehind 1 ?_
    obtain ⟨rfl, rfl⟩ := am_i2 hf
    exact And.intro ⟨(Nat.le_of_ble_eq_true rfl), (Nat.le_of_ble_eq_true rfl)⟩ (And.intro (Or.inl rfl) ⟨rfl, rfl⟩)
  rw [if_neg c179] at hf
  refine And.intro (fun _ => Exists.intro 123 (And.intro rfl ?_)) (fun q1 q2 => absurd (am_sw5 q1 q2 c1 c59 c118 c175 c179) id)
  refine AW_go okX5_phaseBehind 2 ?_
  obtain ⟨r237, h238, e239, hf⟩ := am_b2_ok hf
  refine AW_callV (As := [.int a1]) (R' := rX5_phaseBehindItem 0 0) (T := TX5) (N := 12) (ci := 5) (okX5_phaseBehind.1 125 _ _ rfl) lkX5_phaseBehindItem kX5_67 rfl (sK hs 3) rfl (Nat.le_of_ble_eq_true rfl) ⟨by decide, by decide⟩ ⟨(Nat.le_of_ble_eq_true rfl), (Nat.le_of_ble_eq_true rfl)⟩ (Nat.le_of_ble_eq_true rfl) (c_X5_phaseBehindItem a1 h hs e239) (fun r h' hq => ?_)
  obtain ⟨rfl, hq⟩ := hq
  replace hq := hq.symm
  subst hq
  have hs := s_X5_phaseBehindItem a1 h hs e239
  refine AW_go okX5_phaseBehind 1 ?_
  obtain ⟨rfl, rfl⟩ := am_i2 hf
  exact And.intro ⟨(Nat.le_of_ble_eq_true rfl), (Nat.le_of_ble_eq_true rfl)⟩ (And.intro (Or.inl rfl) ⟨rfl, rfl⟩)
def f_X5_closeBraces (n : Nat) (a1 : Int32) (h : am_H) : Option (Unit × am_H) := am_b2 (f_X5_endRow h) fun r1 h2 => (bif am_vp (am_I h2 3 2) 61 then (Option.bind ((if a1 = 0 then some (am_sI h2 3 2 ((am_I h2 3 2) - (Int32.ofInt 1))) else bif am_b01 ((am_I (am_sI h2 3 2 ((am_I h2 3 2) - (Int32.ofInt 1))) 3 0) ||| (am_I h2 11 (Int32.toNatClampNeg (am_I h2 3 2)))) then (am_b2 (f_X5_followUp n (am_I h2 10 (Int32.toNatClampNeg (am_I h2 3 2))) (am_I h2 9 (Int32.toNatClampNeg (am_I h2 3 2))) (am_sI (am_sI h2 3 2 ((am_I h2 3 2) - (Int32.ofInt 1))) 3 0 ((am_I (am_sI h2 3 2 ((am_I h2 3 2) - (Int32.ofInt 1))) 3 0) ||| (am_I h2 11 (Int32.toNatClampNeg (am_I h2 3 2)))))) fun r9 h10 => (some h10)) else none)) fun h5 => (Option.bind ((if (am_I h2 11 (Int32.toNatClampNeg (am_I h2 3 2))) = 0 then (if a1 = 0 then some (Int32.ofInt 0) else some (Int32.ofInt 1)) else some (Int32.ofInt 1))) fun y62 => (am_b2 (f_X5_addItem n (am_I h2 9 (Int32.toNatClampNeg (am_I h2 3 2))) (am_I h2 10 (Int32.toNatClampNeg (am_I h2 3 2))) y62 h5) fun r116 h117 => (some ((), h117))))) else none)
set_option maxRecDepth 100000 in
theorem s_X5_closeBraces (n : Nat) (a1 : Int32) (h : am_H) (hs : am_stat h) {v : Unit} {h' : am_H} (hf : f_X5_closeBraces n a1 h = some (v, h')) : am_stat h' := by
  unfold f_X5_closeBraces at hf
  obtain ⟨r1, h2, e3, hf⟩ := am_b2_ok hf
  have hs := s_X5_endRow h hs e3
  obtain ⟨b4, hf⟩ := am_bis hf
  obtain ⟨h5, j6, hf⟩ := am_bnd hf
  have hs0 := hs
  have hs : am_stat h5 := by
    have hs := hs0
    by_cases c7 : a1 = 0
    · rw [if_pos c7] at j6
      obtain rfl := am_i1 j6
      exact hs
    · rw [if_neg c7] at j6
      obtain ⟨b8, j6⟩ := am_bis j6
      obtain ⟨r9, h10, e11, j6⟩ := am_b2_ok j6
      have hs := s_X5_followUp n (am_I h2 10 (Int32.toNatClampNeg (am_I h2 3 2))) (am_I h2 9 (Int32.toNatClampNeg (am_I h2 3 2))) (am_sI (am_sI h2 3 2 ((am_I h2 3 2) - (Int32.ofInt 1))) 3 0 ((am_I (am_sI h2 3 2 ((am_I h2 3 2) - (Int32.ofInt 1))) 3 0) ||| (am_I h2 11 (Int32.toNatClampNeg (am_I h2 3 2))))) hs e11
      obtain rfl := am_i1 j6
      exact hs
  obtain ⟨y62, j63, hf⟩ := am_bnd hf
  obtain ⟨r116, h117, e118, hf⟩ := am_b2_ok hf
  have hs := s_X5_addItem n (am_I h2 9 (Int32.toNatClampNeg (am_I h2 3 2))) (am_I h2 10 (Int32.toNatClampNeg (am_I h2 3 2))) y62 h5 hs e118
  obtain ⟨rfl, rfl⟩ := am_i2 hf
  exact hs
set_option maxRecDepth 100000 in
theorem c_X5_closeBraces (n : Nat) (a1 : Int32) (h : am_H) (hs : am_stat h) {v : Unit} {h' : am_H} (hf : f_X5_closeBraces n a1 h = some (v, h')) : AMet mX5_closeBraces (rX5_closeBraces 0 0) (fun r h2 => r = none ∧ h2 = h') [.ref 3, .int a1] h := by
  unfold f_X5_closeBraces at hf
  refine AW_go okX5_closeBraces 1 ?_
  obtain ⟨r1, h2, e3, hf⟩ := am_b2_ok hf
  refine AW_callV (As := []) (R' := rX5_endRow 0 0) (T := TX5) (N := 12) (ci := 5) (okX5_closeBraces.1 1 _ _ rfl) lkX5_endRow kX5_102 rfl (sK hs 3) rfl (Nat.le_of_ble_eq_true rfl) ⟨by decide, by decide⟩ ⟨(Nat.le_of_ble_eq_true rfl), (Nat.le_of_ble_eq_true rfl)⟩ (Nat.le_of_ble_eq_true rfl) (c_X5_endRow h hs e3) (fun r h' hq => ?_)
  obtain ⟨rfl, hq⟩ := hq
  replace hq := hq.symm
  subst hq
  have hs := s_X5_endRow h hs e3
  obtain ⟨b4, hf⟩ := am_bis hf
  refine AW_go okX5_closeBraces 25 ?_
  refine And.intro (sK hs 3) (Exists.intro _ (And.intro (sA hs 3 9) ?_))
  refine And.intro (sK hs 3) ?_
  refine Exists.intro 61 (And.intro (sK hs 9) (And.intro (am_vp_ok b4) ?_))
  refine And.intro (sK hs 3) (Exists.intro _ (And.intro (sA hs 3 10) ?_))
  refine And.intro (sK hs 3) ?_
  refine Exists.intro 61 (And.intro (sK hs 10) (And.intro (am_vp_ok b4) ?_))
  refine And.intro (sK hs 3) (Exists.intro _ (And.intro (sA hs 3 11) ?_))
  refine And.intro (sK hs 3) ?_
  refine Exists.intro 2 (Exists.intro 61 (And.intro (by decide) (And.intro (sK hs 11) (And.intro (am_vp_ok b4) ?_))))
  refine And.intro (sK hs 3) ?_
  refine And.intro (sK hs 3) ?_
  obtain ⟨h5, j6, hf⟩ := am_bnd hf
  have hs0 := hs
  have hs : am_stat h5 := by
    have hs := hs0
    by_cases c7 : a1 = 0
    · rw [if_pos c7] at j6
      obtain rfl := am_i1 j6
      exact hs
    · rw [if_neg c7] at j6
      obtain ⟨b8, j6⟩ := am_bis j6
      obtain ⟨r9, h10, e11, j6⟩ := am_b2_ok j6
      have hs := s_X5_followUp n (am_I h2 10 (Int32.toNatClampNeg (am_I h2 3 2))) (am_I h2 9 (Int32.toNatClampNeg (am_I h2 3 2))) (am_sI (am_sI h2 3 2 ((am_I h2 3 2) - (Int32.ofInt 1))) 3 0 ((am_I (am_sI h2 3 2 ((am_I h2 3 2) - (Int32.ofInt 1))) 3 0) ||| (am_I h2 11 (Int32.toNatClampNeg (am_I h2 3 2))))) hs e11
      obtain rfl := am_i1 j6
      exact hs
  refine am_cut (P := AW mX5_closeBraces (rX5_closeBraces 0 0) (fun r h2 => r = none ∧ h2 = h') 66 [(0, .ref 3), (1, .int a1), (2, .int (am_I h2 9 (Int32.toNatClampNeg (am_I h2 3 2)))), (3, .int (am_I h2 10 (Int32.toNatClampNeg (am_I h2 3 2)))), (4, .int (am_I h2 11 (Int32.toNatClampNeg (am_I h2 3 2))))] [] h5 0 0) (fun hJ6 => ?_) ?_
  · have hs := hs0
    refine AW_go okX5_closeBraces 1 ?_
    refine And.intro (fun c7 => ?_) (fun c7 => ?_)
    · rw [if_pos c7] at j6
      obtain rfl := am_i1 j6
      exact AW_pick [3, 4, 2, 1, 0] rfl hJ6
    · rw [if_neg c7] at j6
      obtain ⟨b8, j6⟩ := am_bis j6
      refine AW_go okX5_closeBraces 9 ?_
      refine And.intro (sK hs 3) ?_
      refine And.intro (am_b01_ok b8) (And.intro (sK hs 3) ?_)
      obtain ⟨r9, h10, e11, j6⟩ := am_b2_ok j6
      refine AW_callV (As := [.int (am_I h2 10 (Int32.toNatClampNeg (am_I h2 3 2))), .int (am_I h2 9 (Int32.toNatClampNeg (am_I h2 3 2)))]) (R' := rX5_followUp 0 0) (T := TX5) (N := 12) (ci := 5) (okX5_closeBraces.1 63 _ _ rfl) lkX5_followUp kX5_109 rfl (sK hs 3) rfl (Nat.le_of_ble_eq_true rfl) ⟨by decide, by decide⟩ ⟨(Nat.le_of_ble_eq_true rfl), (Nat.le_of_ble_eq_true rfl)⟩ (Nat.le_of_ble_eq_true rfl) (c_X5_followUp n (am_I h2 10 (Int32.toNatClampNeg (am_I h2 3 2))) (am_I h2 9 (Int32.toNatClampNeg (am_I h2 3 2))) (am_sI (am_sI h2 3 2 ((am_I h2 3 2) - (Int32.ofInt 1))) 3 0 ((am_I (am_sI h2 3 2 ((am_I h2 3 2) - (Int32.ofInt 1))) 3 0) ||| (am_I h2 11 (Int32.toNatClampNeg (am_I h2 3 2))))) hs e11) (fun r h' hq => ?_)
      obtain ⟨rfl, hq⟩ := hq
      replace hq := hq.symm
      subst hq
      have hs := s_X5_followUp n (am_I h2 10 (Int32.toNatClampNeg (am_I h2 3 2))) (am_I h2 9 (Int32.toNatClampNeg (am_I h2 3 2))) (am_sI (am_sI h2 3 2 ((am_I h2 3 2) - (Int32.ofInt 1))) 3 0 ((am_I (am_sI h2 3 2 ((am_I h2 3 2) - (Int32.ofInt 1))) 3 0) ||| (am_I h2 11 (Int32.toNatClampNeg (am_I h2 3 2))))) hs e11
      obtain rfl := am_i1 j6
      exact AW_pick [3, 4, 2, 1, 0] rfl hJ6
  refine AW_go okX5_closeBraces 4 ?_
  obtain ⟨y62, j63, hf⟩ := am_bnd hf
  refine am_cut (P := AW mX5_closeBraces (rX5_closeBraces 0 0) (fun r h2 => r = none ∧ h2 = h') 83 [(0, .ref 3), (1, .int a1), (2, .int (am_I h2 9 (Int32.toNatClampNeg (am_I h2 3 2)))), (3, .int (am_I h2 10 (Int32.toNatClampNeg (am_I h2 3 2)))), (4, .int (am_I h2 11 (Int32.toNatClampNeg (am_I h2 3 2))))] [.int y62, .int (am_I h2 10 (Int32.toNatClampNeg (am_I h2 3 2))), .int (am_I h2 9 (Int32.toNatClampNeg (am_I h2 3 2))), .ref 3] h5 0 0) (fun hJ63 => ?_) ?_
  · have hs := hs
    refine AW_go okX5_closeBraces 1 ?_
    refine And.intro (fun c64 => ?_) (fun c64 => ?_)
    · rw [if_neg c64] at j63
      refine AW_go okX5_closeBraces 2 ?_
      obtain rfl := am_i1 j63
      exact AW_pick [0, 1, 2, 3, 4] rfl hJ63
    · rw [if_pos c64] at j63
      refine AW_go okX5_closeBraces 2 ?_
      refine And.intro (fun c65 => ?_) (fun c65 => ?_)
      · rw [if_pos c65] at j63
        refine AW_go okX5_closeBraces 1 ?_
        obtain rfl := am_i1 j63
        exact AW_pick [0, 1, 2, 3, 4] rfl hJ63
      · rw [if_neg c65] at j63
        refine AW_go okX5_closeBraces 2 ?_
        obtain rfl := am_i1 j63
        exact AW_pick [0, 1, 2, 3, 4] rfl hJ63
  obtain ⟨r116, h117, e118, hf⟩ := am_b2_ok hf
  refine AW_callV (As := [.int (am_I h2 9 (Int32.toNatClampNeg (am_I h2 3 2))), .int (am_I h2 10 (Int32.toNatClampNeg (am_I h2 3 2))), .int y62]) (R' := rX5_addItem 0 0) (T := TX5) (N := 12) (ci := 5) (okX5_closeBraces.1 83 _ _ rfl) lkX5_addItem kX5_125 rfl (sK hs 3) rfl (Nat.le_of_ble_eq_true rfl) ⟨by decide, by decide⟩ ⟨(Nat.le_of_ble_eq_true rfl), (Nat.le_of_ble_eq_true rfl)⟩ (Nat.le_of_ble_eq_true rfl) (c_X5_addItem n (am_I h2 9 (Int32.toNatClampNeg (am_I h2 3 2))) (am_I h2 10 (Int32.toNatClampNeg (am_I h2 3 2))) y62 h5 hs e118) (fun r h' hq => ?_)
  obtain ⟨rfl, hq⟩ := hq
  replace hq := hq.symm
  subst hq
  have hs := s_X5_addItem n (am_I h2 9 (Int32.toNatClampNeg (am_I h2 3 2))) (am_I h2 10 (Int32.toNatClampNeg (am_I h2 3 2))) y62 h5 hs e118
  refine AW_go okX5_closeBraces 1 ?_
  obtain ⟨rfl, rfl⟩ := am_i2 hf
  exact And.intro ⟨(Nat.le_of_ble_eq_true rfl), (Nat.le_of_ble_eq_true rfl)⟩ (And.intro rfl ⟨rfl, rfl⟩)
def f_X5_addAct (n : Nat) (a1 : Int32) (h : am_H) : Option (Unit × am_H) := Option.bind ((if a1 = (Int32.ofInt (-1)) then some h else (if (Int32.ofInt 15) ≤ (am_I h 3 3) then some h else bif am_vp (am_I (am_sI h 3 3 ((am_I h 3 3) + (Int32.ofInt 1))) 3 3) 16 then (am_b2 (f_X5_addItem n ((Int32.ofInt 1) <<< ((am_I (am_sI (am_sI h 3 3 ((am_I h 3 3) + (Int32.ofInt 1))) 4 (Int32.toNatClampNeg (am_I (am_sI h 3 3 ((am_I h 3 3) + (Int32.ofInt 1))) 3 3)) a1) 3 3) &&& 31)) ((Int32.ofInt 1) <<< ((am_I (am_sI (am_sI h 3 3 ((am_I h 3 3) + (Int32.ofInt 1))) 4 (Int32.toNatClampNeg (am_I (am_sI h 3 3 ((am_I h 3 3) + (Int32.ofInt 1))) 3 3)) a1) 3 3) &&& 31)) (Int32.ofInt 0) (am_sI (am_sI h 3 3 ((am_I h 3 3) + (Int32.ofInt 1))) 4 (Int32.toNatClampNeg (am_I (am_sI h 3 3 ((am_I h 3 3) + (Int32.ofInt 1))) 3 3)) a1)) fun r6 h7 => (some h7)) else none))) fun h1 => (some ((), h1))
set_option maxRecDepth 100000 in
theorem s_X5_addAct (n : Nat) (a1 : Int32) (h : am_H) (hs : am_stat h) {v : Unit} {h' : am_H} (hf : f_X5_addAct n a1 h = some (v, h')) : am_stat h' := by
  unfold f_X5_addAct at hf
  obtain ⟨h1, j2, hf⟩ := am_bnd hf
  have hs0 := hs
  have hs : am_stat h1 := by
    have hs := hs0
    by_cases c3 : a1 = (Int32.ofInt (-1))
    · rw [if_pos c3] at j2
      obtain rfl := am_i1 j2
      exact hs
    · rw [if_neg c3] at j2
      by_cases c4 : (Int32.ofInt 15) ≤ (am_I h 3 3)
      · rw [if_pos c4] at j2
        obtain rfl := am_i1 j2
        exact hs
      · rw [if_neg c4] at j2
        obtain ⟨b5, j2⟩ := am_bis j2
        obtain ⟨r6, h7, e8, j2⟩ := am_b2_ok j2
        have hs := s_X5_addItem n ((Int32.ofInt 1) <<< ((am_I (am_sI (am_sI h 3 3 ((am_I h 3 3) + (Int32.ofInt 1))) 4 (Int32.toNatClampNeg (am_I (am_sI h 3 3 ((am_I h 3 3) + (Int32.ofInt 1))) 3 3)) a1) 3 3) &&& 31)) ((Int32.ofInt 1) <<< ((am_I (am_sI (am_sI h 3 3 ((am_I h 3 3) + (Int32.ofInt 1))) 4 (Int32.toNatClampNeg (am_I (am_sI h 3 3 ((am_I h 3 3) + (Int32.ofInt 1))) 3 3)) a1) 3 3) &&& 31)) (Int32.ofInt 0) (am_sI (am_sI h 3 3 ((am_I h 3 3) + (Int32.ofInt 1))) 4 (Int32.toNatClampNeg (am_I (am_sI h 3 3 ((am_I h 3 3) + (Int32.ofInt 1))) 3 3)) a1) hs e8
        obtain rfl := am_i1 j2
        exact hs
  obtain ⟨rfl, rfl⟩ := am_i2 hf
  exact hs
set_option maxRecDepth 100000 in
theorem c_X5_addAct (n : Nat) (a1 : Int32) (h : am_H) (hs : am_stat h) {v : Unit} {h' : am_H} (hf : f_X5_addAct n a1 h = some (v, h')) : AMet mX5_addAct (rX5_addAct 0 0) (fun r h2 => r = none ∧ h2 = h') [.ref 3, .int a1] h := by
  unfold f_X5_addAct at hf
  refine AW_go okX5_addAct 2 ?_
  obtain ⟨h1, j2, hf⟩ := am_bnd hf
  have hs0 := hs
  have hs : am_stat h1 := by
    have hs := hs0
    by_cases c3 : a1 = (Int32.ofInt (-1))
    · rw [if_pos c3] at j2
      obtain rfl := am_i1 j2
      exact hs
    · rw [if_neg c3] at j2
      by_cases c4 : (Int32.ofInt 15) ≤ (am_I h 3 3)
      · rw [if_pos c4] at j2
        obtain rfl := am_i1 j2
        exact hs
      · rw [if_neg c4] at j2
        obtain ⟨b5, j2⟩ := am_bis j2
        obtain ⟨r6, h7, e8, j2⟩ := am_b2_ok j2
        have hs := s_X5_addItem n ((Int32.ofInt 1) <<< ((am_I (am_sI (am_sI h 3 3 ((am_I h 3 3) + (Int32.ofInt 1))) 4 (Int32.toNatClampNeg (am_I (am_sI h 3 3 ((am_I h 3 3) + (Int32.ofInt 1))) 3 3)) a1) 3 3) &&& 31)) ((Int32.ofInt 1) <<< ((am_I (am_sI (am_sI h 3 3 ((am_I h 3 3) + (Int32.ofInt 1))) 4 (Int32.toNatClampNeg (am_I (am_sI h 3 3 ((am_I h 3 3) + (Int32.ofInt 1))) 3 3)) a1) 3 3) &&& 31)) (Int32.ofInt 0) (am_sI (am_sI h 3 3 ((am_I h 3 3) + (Int32.ofInt 1))) 4 (Int32.toNatClampNeg (am_I (am_sI h 3 3 ((am_I h 3 3) + (Int32.ofInt 1))) 3 3)) a1) hs e8
        obtain rfl := am_i1 j2
        exact hs
  refine am_cut (P := AW mX5_addAct (rX5_addAct 0 0) (fun r h2 => r = none ∧ h2 = h') 51 [(0, .ref 3), (1, .int a1)] [] h1 0 0) (fun hJ2 => ?_) ?_
  · have hs := hs0
    refine AW_go okX5_addAct 1 ?_
    refine And.intro (fun c3 => ?_) (fun c3 => ?_)
    · rw [if_pos c3] at j2
      obtain rfl := am_i1 j2
      exact AW_pick [0, 1] rfl hJ2
    · rw [if_neg c3] at j2
      refine AW_go okX5_addAct 4 ?_
      refine And.intro (sK hs 3) ?_
      refine And.intro (fun c4 => ?_) (fun c4 => ?_)
      · rw [if_pos c4] at j2
        obtain rfl := am_i1 j2
        exact AW_pick [0, 1] rfl hJ2
      · rw [if_neg c4] at j2
        obtain ⟨b5, j2⟩ := am_bis j2
        refine AW_go okX5_addAct 22 ?_
        refine And.intro (sK hs 3) ?_
        refine And.intro (sK hs 3) ?_
        refine And.intro (sK hs 3) (Exists.intro _ (And.intro (sA hs 3 4) ?_))
        refine And.intro (sK hs 3) ?_
        refine Exists.intro 16 (And.intro (sK hs 4) (And.intro (am_vp_ok b5) ?_))
        refine And.intro (sK hs 3) ?_
        refine And.intro (sK hs 3) ?_
        obtain ⟨r6, h7, e8, j2⟩ := am_b2_ok j2
        refine AW_callV (As := [.int ((Int32.ofInt 1) <<< ((am_I (am_sI (am_sI h 3 3 ((am_I h 3 3) + (Int32.ofInt 1))) 4 (Int32.toNatClampNeg (am_I (am_sI h 3 3 ((am_I h 3 3) + (Int32.ofInt 1))) 3 3)) a1) 3 3) &&& 31)), .int ((Int32.ofInt 1) <<< ((am_I (am_sI (am_sI h 3 3 ((am_I h 3 3) + (Int32.ofInt 1))) 4 (Int32.toNatClampNeg (am_I (am_sI h 3 3 ((am_I h 3 3) + (Int32.ofInt 1))) 3 3)) a1) 3 3) &&& 31)), .int (Int32.ofInt 0)]) (R' := rX5_addItem 0 0) (T := TX5) (N := 12) (ci := 5) (okX5_addAct.1 48 _ _ rfl) lkX5_addItem kX5_125 rfl (sK hs 3) rfl (Nat.le_of_ble_eq_true rfl) ⟨by decide, by decide⟩ ⟨(Nat.le_of_ble_eq_true rfl), (Nat.le_of_ble_eq_true rfl)⟩ (Nat.le_of_ble_eq_true rfl) (c_X5_addItem n ((Int32.ofInt 1) <<< ((am_I (am_sI (am_sI h 3 3 ((am_I h 3 3) + (Int32.ofInt 1))) 4 (Int32.toNatClampNeg (am_I (am_sI h 3 3 ((am_I h 3 3) + (Int32.ofInt 1))) 3 3)) a1) 3 3) &&& 31)) ((Int32.ofInt 1) <<< ((am_I (am_sI (am_sI h 3 3 ((am_I h 3 3) + (Int32.ofInt 1))) 4 (Int32.toNatClampNeg (am_I (am_sI h 3 3 ((am_I h 3 3) + (Int32.ofInt 1))) 3 3)) a1) 3 3) &&& 31)) (Int32.ofInt 0) (am_sI (am_sI h 3 3 ((am_I h 3 3) + (Int32.ofInt 1))) 4 (Int32.toNatClampNeg (am_I (am_sI h 3 3 ((am_I h 3 3) + (Int32.ofInt 1))) 3 3)) a1) hs e8) (fun r h' hq => ?_)
        obtain ⟨rfl, hq⟩ := hq
        replace hq := hq.symm
        subst hq
        have hs := s_X5_addItem n ((Int32.ofInt 1) <<< ((am_I (am_sI (am_sI h 3 3 ((am_I h 3 3) + (Int32.ofInt 1))) 4 (Int32.toNatClampNeg (am_I (am_sI h 3 3 ((am_I h 3 3) + (Int32.ofInt 1))) 3 3)) a1) 3 3) &&& 31)) ((Int32.ofInt 1) <<< ((am_I (am_sI (am_sI h 3 3 ((am_I h 3 3) + (Int32.ofInt 1))) 4 (Int32.toNatClampNeg (am_I (am_sI h 3 3 ((am_I h 3 3) + (Int32.ofInt 1))) 3 3)) a1) 3 3) &&& 31)) (Int32.ofInt 0) (am_sI (am_sI h 3 3 ((am_I h 3 3) + (Int32.ofInt 1))) 4 (Int32.toNatClampNeg (am_I (am_sI h 3 3 ((am_I h 3 3) + (Int32.ofInt 1))) 3 3)) a1) hs e8
        obtain rfl := am_i1 j2
        exact AW_pick [0, 1] rfl hJ2
  refine AW_go okX5_addAct 1 ?_
  obtain ⟨rfl, rfl⟩ := am_i2 hf
  exact And.intro ⟨(Nat.le_of_ble_eq_true rfl), (Nat.le_of_ble_eq_true rfl)⟩ (And.intro rfl ⟨rfl, rfl⟩)
def g_X6_fullest : Nat → Nat → Nat → Int32 → Int32 → Int32 → am_H → Option (Int32 × am_H)
  | 0, _, _, _, _, _, _ => none
  | n + 1, _, o, a2, x3i, x4i, h => (if (am_I h o 0) ≤ x4i then some (x3i, h) else bif am_vp x4i 2000 then (am_b2 (f_X7_loadIn (am_J h (o + 3) (Int32.toNatClampNeg x4i)) a2 h) fun r3 h4 => (g_X6_fullest n 0 o a2 (if x3i < r3 then r3 else x3i) (x4i + Int32.ofInt 1) h4)) else none)
set_option maxRecDepth 100000 in
set_option maxHeartbeats 4000000 in
theorem m_X6_fullest (n : Nat) : (∀ (o : Nat) (a2 : Int32) (x3i : Int32) (x4i : Int32) (h : am_H) (v : Int32) (h' : am_H), (o = 37 ∨ o = 37) → am_stat h → g_X6_fullest n 0 o a2 x3i x4i h = some (v, h') → am_stat h') := by
  induction n with
  | zero => exact fun o a2 x3i x4i h v h' ho hs hf => (by cases hf)
  | succ n ih =>
    skip
    · intro o a2 x3i x4i h v h' ho hs hf
      have hf : ((if (am_I h o 0) ≤ x4i then some (x3i, h) else bif am_vp x4i 2000 then (am_b2 (f_X7_loadIn (am_J h (o + 3) (Int32.toNatClampNeg x4i)) a2 h) fun r3 h4 => (g_X6_fullest n 0 o a2 (if x3i < r3 then r3 else x3i) (x4i + Int32.ofInt 1) h4)) else none)) = some (v, h') := hf
      by_cases c1 : (am_I h o 0) ≤ x4i
      · rw [if_pos c1] at hf
        obtain ⟨rfl, rfl⟩ := am_i2 hf
        exact hs
      · rw [if_neg c1] at hf
        obtain ⟨b2, hf⟩ := am_bis hf
        obtain ⟨r3, h4, e5, hf⟩ := am_b2_ok hf
        have hs := s_X7_loadIn (am_J h (o + 3) (Int32.toNatClampNeg x4i)) a2 h hs e5
        exact ih o a2 (if x3i < r3 then r3 else x3i) (x4i + Int32.ofInt 1) h4 _ _ ho hs hf
set_option maxRecDepth 100000 in
set_option maxHeartbeats 4000000 in
theorem l_X6_fullest (n : Nat) : (∀ (o : Nat) (a2 : Int32) (x3i : Int32) (x4i : Int32) (h : am_H) (v : Int32) (h' : am_H), (o = 37 ∨ o = 37) → am_stat h → g_X6_fullest n 0 o a2 x3i x4i h = some (v, h') → AW mX6_fullest (rX6_fullest 0 0) (fun r h2 => r = some (.int v) ∧ h2 = h') 5 [(0, .ref o), (1, .ref 28), (2, .int a2), (3, .int x3i), (4, .int x4i)] [] h 0 0) := by
  induction n with
  | zero => exact fun o a2 x3i x4i h v h' ho hs hf => (by cases hf)
  | succ n ih =>
    skip
    · intro o a2 x3i x4i h v h' ho hs hf
      have hf : ((if (am_I h o 0) ≤ x4i then some (x3i, h) else bif am_vp x4i 2000 then (am_b2 (f_X7_loadIn (am_J h (o + 3) (Int32.toNatClampNeg x4i)) a2 h) fun r3 h4 => (g_X6_fullest n 0 o a2 (if x3i < r3 then r3 else x3i) (x4i + Int32.ofInt 1) h4)) else none)) = some (v, h') := hf
      refine AW_go okX6_fullest 4 ?_
      refine And.intro (sv_K0 hs ho) ?_
      refine And.intro (fun c1 => ?_) (fun c1 => ?_)
      · rw [if_pos c1] at hf
        refine AW_go okX6_fullest 2 ?_
        obtain ⟨rfl, rfl⟩ := am_i2 hf
        exact And.intro ⟨(Nat.le_of_ble_eq_true rfl), (Nat.le_of_ble_eq_true rfl)⟩ (And.intro (Or.inl rfl) ⟨rfl, rfl⟩)
      · rw [if_neg c1] at hf
        obtain ⟨b2, hf⟩ := am_bis hf
        refine AW_go okX6_fullest 7 ?_
        refine And.intro (sv_K0 hs ho) (Exists.intro _ (And.intro (sv_A hs ho 5 3) ?_))
        refine Exists.intro 2000 (And.intro (sv_K hs ho 3) (And.intro (am_vp_ok b2) ?_))
        obtain ⟨r3, h4, e5, hf⟩ := am_b2_ok hf
        refine AW_callV (As := [.long (am_J h (o + 3) (Int32.toNatClampNeg x4i)), .int a2]) (R' := rX7_loadIn 0 0) (T := TX7) (N := 10) (ci := 7) (okX6_fullest.1 24 _ _ rfl) lkX7_loadIn kX6_98 rfl (sK hs 28) rfl (Nat.le_of_ble_eq_true rfl) ⟨by decide, by decide⟩ ⟨(Nat.le_of_ble_eq_true rfl), (Nat.le_of_ble_eq_true rfl)⟩ (Nat.le_of_ble_eq_true rfl) (c_X7_loadIn (am_J h (o + 3) (Int32.toNatClampNeg x4i)) a2 h hs e5) (fun r h' hq => ?_)
        obtain ⟨rfl, hq⟩ := hq
        replace hq := hq.symm
        subst hq
        have hs := s_X7_loadIn (am_J h (o + 3) (Int32.toNatClampNeg x4i)) a2 h hs e5
        refine AW_max (okX6_fullest.1 27 _ _ rfl) kX6_101 (by decide) (Nat.le_of_ble_eq_true rfl) ⟨(Nat.le_of_ble_eq_true rfl), (Nat.le_of_ble_eq_true rfl)⟩ ?_
        refine AW_go okX6_fullest 3 ?_
        refine AW_pick (lv' := [(0, .ref o), (1, .ref 28), (2, .int a2), (3, .int (if x3i < r3 then r3 else x3i)), (4, .int (x4i + Int32.ofInt 1))]) [2, 3, 4, 1, 0] rfl ?_
        exact ih o a2 (if x3i < r3 then r3 else x3i) (x4i + Int32.ofInt 1) h4 _ _ ho hs hf
def f_X6_fullest (n : Nat) (o : Nat) (a2 : Int32) (h : am_H) : Option (Int32 × am_H) := g_X6_fullest n 0 o a2 (Int32.ofInt 0) (Int32.ofInt 0) h
set_option maxRecDepth 100000 in
theorem s_X6_fullest (n : Nat) (o : Nat) (a2 : Int32) (h : am_H) (ho : o = 37 ∨ o = 37) (hs : am_stat h) {v : Int32} {h' : am_H} (hf : f_X6_fullest n o a2 h = some (v, h')) : am_stat h' := by
  unfold f_X6_fullest at hf
  exact (m_X6_fullest n) o a2 (Int32.ofInt 0) (Int32.ofInt 0) h _ _ ho hs hf
set_option maxRecDepth 100000 in
theorem c_X6_fullest (n : Nat) (o : Nat) (a2 : Int32) (h : am_H) (ho : o = 37 ∨ o = 37) (hs : am_stat h) {v : Int32} {h' : am_H} (hf : f_X6_fullest n o a2 h = some (v, h')) : AMet mX6_fullest (rX6_fullest 0 0) (fun r h2 => r = some (.int v) ∧ h2 = h') [.ref o, .ref 28, .int a2] h := by
  unfold f_X6_fullest at hf
  refine AW_go okX6_fullest 4 ?_
  refine AW_pick (lv' := [(0, .ref o), (1, .ref 28), (2, .int a2), (3, .int (Int32.ofInt 0)), (4, .int (Int32.ofInt 0))]) [2, 3, 4, 1, 0] rfl ?_
  exact (l_X6_fullest n) o a2 (Int32.ofInt 0) (Int32.ofInt 0) h _ _ ho hs hf
