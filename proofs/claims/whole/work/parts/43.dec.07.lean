def f_X8_most (n : Nat) (a1 : Int32) (a2 : Int32) (h : am_H) : Option ((Int32 × am_H) × Nat × Nat) := am_b2 (f_X8_isPost a1 a2 h) fun r1 h2 => ((if r1 = 0 then some (((Int32.ofInt (-101)), h2), 0, 0) else am_bc (f_X8_surveyNow n h2) fun r5 h6 => (bif Nat.beq r5 37 then (am_b2 ((if (am_I h6 37 1) = 0 then am_b2 (f_X8_postOf a1 a2 h6) fun r19 h20 => (am_b2 (f_X6_fullest n 37 r19 h20) fun r22 h23 => (some (r22, h23))) else some ((Int32.ofInt (-2)), h6))) fun y15 h16 => (some ((y15, h16), 0, 0))) else none)))
set_option maxRecDepth 100000 in
set_option maxHeartbeats 4000000 in
theorem s_X8_most (n : Nat) (a1 : Int32) (a2 : Int32) (h : am_H) (hs : am_stat h) {v : Int32} {h' : am_H} {cr sr : Nat} (hf : f_X8_most n a1 a2 h = some ((v, h'), cr, sr)) : am_stat h' := by
  unfold f_X8_most at hf
  obtain ⟨r1, h2, e3, hf⟩ := am_b2_ok hf
  have hs := s_X8_isPost a1 a2 h hs e3
  by_cases c4 : r1 = 0
  · rw [if_pos c4] at hf
    obtain ⟨rfl, rfl, rfl, rfl⟩ := am_ic hf
    exact hs
  · rw [if_neg c4] at hf
    obtain ⟨r5, h6, c8, s9, c10, s11, e7, hg12, rfl, rfl⟩ := am_bc_ok hf
    have hf := hg12
    have hs := s_X8_surveyNow n h2 hs e7
    obtain ⟨k13, hg14⟩ := am_bis hf
    obtain rfl := Nat.eq_of_beq_eq_true k13
    have hf := hg14
    obtain ⟨y15, h16, j17, hf⟩ := am_b2_ok hf
    have hs0 := hs
    have hs : am_stat h16 := by
      have hs := hs0
      by_cases c18 : (am_I h6 37 1) = 0
      · rw [if_pos c18] at j17
        obtain ⟨r19, h20, e21, j17⟩ := am_b2_ok j17
        have hs := s_X8_postOf a1 a2 h6 hs e21
        obtain ⟨r22, h23, e24, j17⟩ := am_b2_ok j17
        have hs := s_X6_fullest n 37 r19 h20 (Or.inl rfl) hs e24
        obtain ⟨rfl, rfl⟩ := am_i2 j17
        exact hs
      · rw [if_neg c18] at j17
        obtain ⟨rfl, rfl⟩ := am_i2 j17
        exact hs
    obtain ⟨rfl, rfl, rfl, rfl⟩ := am_ic hf
    exact hs
set_option maxRecDepth 100000 in
set_option maxHeartbeats 4000000 in
theorem c_X8_most (n : Nat) (a1 : Int32) (a2 : Int32) (h : am_H) (hs : am_stat h) {v : Int32} {h' : am_H} {cr sr : Nat} (Cc Ss : Nat) (hC : 0 + cr ≤ Cc) (hS : 0 + sr ≤ Ss) (hf : f_X8_most n a1 a2 h = some ((v, h'), cr, sr)) : AMet mX8_most (rX8_most Cc Ss) (fun r h2 => r = some (.int v) ∧ h2 = h') [.ref 0, .int a1, .int a2] h := by
  unfold f_X8_most at hf
  refine AW_go okX8_most 2 ?_
  obtain ⟨r1, h2, e3, hf⟩ := am_b2_ok hf
  refine AW_callS (As := [.int a1, .int a2]) (R' := rX8_isPost 0 0) (okX8_most.1 2 _ _ rfl) lkX8_isPost (Or.inl kX8_190) rfl (Nat.le_of_ble_eq_true rfl) ⟨(Nat.le_of_ble_eq_true rfl), (Nat.le_of_ble_eq_true rfl)⟩ ⟨show 0 + 0 ≤ Cc by omega, show 0 + 0 ≤ Ss by omega⟩ (Nat.le_of_ble_eq_true rfl) (c_X8_isPost a1 a2 h hs e3) (fun r h' hq => ?_)
  obtain ⟨rfl, hq⟩ := hq
  replace hq := hq.symm
  subst hq
  have hs := s_X8_isPost a1 a2 h hs e3
  refine AW_go okX8_most 1 ?_
  refine And.intro (fun c4 => ?_) (fun c4 => ?_)
  · rw [if_neg c4] at hf
    refine AW_go okX8_most 1 ?_
    obtain ⟨r5, h6, c8, s9, c10, s11, e7, hg12, rfl, rfl⟩ := am_bc_ok hf
    have hf := hg12
    refine AW_callV (As := []) (R' := rX8_surveyNow c8 s9) (T := TX8) (N := 18) (ci := 8) (okX8_most.1 12 _ _ rfl) lkX8_surveyNow kX8_242 rfl (sK hs 0) rfl (Nat.le_of_ble_eq_true rfl) ⟨(Nat.le_of_ble_eq_true rfl), (Nat.le_of_ble_eq_true rfl)⟩ ⟨show 0 + c8 ≤ Cc by omega, show 0 + s9 ≤ Ss by omega⟩ (Nat.le_of_ble_eq_true rfl) (c_X8_surveyNow n h2 hs c8 s9 (by omega) (by omega) e7) (fun r h' hq => ?_)
    obtain ⟨rfl, hq⟩ := hq
    replace hq := hq.symm
    subst hq
    have hs := s_X8_surveyNow n h2 hs e7
    obtain ⟨k13, hg14⟩ := am_bis hf
    obtain rfl := Nat.eq_of_beq_eq_true k13
    have hf := hg14
    refine AW_go okX8_most 3 ?_
    refine And.intro (sK hs 37) ?_
    obtain ⟨y15, h16, j17, hf⟩ := am_b2_ok hf
    have hs0 := hs
    have hs : am_stat h16 := by
      have hs := hs0
      by_cases c18 : (am_I h6 37 1) = 0
      · rw [if_pos c18] at j17
        obtain ⟨r19, h20, e21, j17⟩ := am_b2_ok j17
        have hs := s_X8_postOf a1 a2 h6 hs e21
        obtain ⟨r22, h23, e24, j17⟩ := am_b2_ok j17
        have hs := s_X6_fullest n 37 r19 h20 (Or.inl rfl) hs e24
        obtain ⟨rfl, rfl⟩ := am_i2 j17
        exact hs
      · rw [if_neg c18] at j17
        obtain ⟨rfl, rfl⟩ := am_i2 j17
        exact hs
    refine am_cut (P := AW mX8_most (rX8_most Cc Ss) (fun r h2 => r = some (.int v) ∧ h2 = h') 41 [(0, .ref 0), (1, .int a1), (2, .int a2), (3, .ref 37)] [.int y15] h16 (0 + c8) (0 + s9)) (fun hJ17 => ?_) ?_
    · have hs := hs0
      refine AW_go okX8_most 1 ?_
      refine And.intro (fun c18 => ?_) (fun c18 => ?_)
      · rw [if_pos c18] at j17
        refine AW_go okX8_most 5 ?_
        refine And.intro (sK hs 0) (Exists.intro _ (And.intro (sA hs 0 9) ?_))
        obtain ⟨r19, h20, e21, j17⟩ := am_b2_ok j17
        refine AW_callS (As := [.int a1, .int a2]) (R' := rX8_postOf 0 0) (okX8_most.1 35 _ _ rfl) lkX8_postOf (Or.inl kX8_194) rfl (Nat.le_of_ble_eq_true rfl) ⟨(Nat.le_of_ble_eq_true rfl), (Nat.le_of_ble_eq_true rfl)⟩ ⟨show (0 + c8) + 0 ≤ Cc by omega, show (0 + s9) + 0 ≤ Ss by omega⟩ (Nat.le_of_ble_eq_true rfl) (c_X8_postOf a1 a2 h6 hs e21) (fun r h' hq => ?_)
        obtain ⟨rfl, hq⟩ := hq
        replace hq := hq.symm
        subst hq
        have hs := s_X8_postOf a1 a2 h6 hs e21
        obtain ⟨r22, h23, e24, j17⟩ := am_b2_ok j17
        refine AW_callV (As := [.ref 28, .int r19]) (R' := rX6_fullest 0 0) (T := TX6) (N := 15) (ci := 6) (okX8_most.1 38 _ _ rfl) lkX6_fullest kX8_265 rfl (sK hs 37) rfl (Nat.le_of_ble_eq_true rfl) ⟨(Nat.le_of_ble_eq_true rfl), (Nat.le_of_ble_eq_true rfl)⟩ ⟨show (0 + c8) + 0 ≤ Cc by omega, show (0 + s9) + 0 ≤ Ss by omega⟩ (Nat.le_of_ble_eq_true rfl) (c_X6_fullest n 37 r19 h20 (Or.inl rfl) hs e24) (fun r h' hq => ?_)
        obtain ⟨rfl, hq⟩ := hq
        replace hq := hq.symm
        subst hq
        have hs := s_X6_fullest n 37 r19 h20 (Or.inl rfl) hs e24
        obtain ⟨rfl, rfl⟩ := am_i2 j17
        exact AW_pick [1, 2, 3, 0] rfl hJ17
      · rw [if_neg c18] at j17
        refine AW_go okX8_most 2 ?_
        obtain ⟨rfl, rfl⟩ := am_i2 j17
        exact AW_pick [1, 2, 3, 0] rfl hJ17
    refine AW_go okX8_most 1 ?_
    obtain ⟨rfl, rfl, rfl, rfl⟩ := am_ic hf
    exact And.intro ⟨show (0 + c8) ≤ Cc by omega, show (0 + s9) ≤ Ss by omega⟩ (And.intro (Or.inl rfl) ⟨rfl, rfl⟩)
  · rw [if_pos c4] at hf
    refine AW_go okX8_most 2 ?_
    obtain ⟨rfl, rfl, rfl, rfl⟩ := am_ic hf
    exact And.intro ⟨show 0 ≤ Cc by omega, show 0 ≤ Ss by omega⟩ (And.intro (Or.inl rfl) ⟨rfl, rfl⟩)
def f_X8_machineOf (n : Nat) (a1 : Int32) (h : am_H) : Option ((Nat × am_H) × Nat × Nat) := bif am_vp a1 8 then ((am_A h 25 (Int32.toNatClampNeg a1)).bind fun q2 => (bif am_isO h q2 0 then ((match (am_A h q2 3) with | none => (am_A h 25 (Int32.toNatClampNeg a1)).bind fun q7 => ((am_A h 25 (Int32.toNatClampNeg a1)).bind fun q9 => (am_bc (f_X2_fold n q9 h) fun r11 h12 => (bif am_isO h12 q7 0 then (bif Nat.ble 87 q7 then ((am_A (am_sA h12 q7 3 (some r11)) 25 (Int32.toNatClampNeg a1)).bind fun q21 => (bif am_isO (am_sA h12 q7 3 (some r11)) q21 0 then ((am_A (am_sA h12 q7 3 (some r11)) q21 3).bind fun q24 => (some ((q24, (am_sA h12 q7 3 (some r11))), 0, 0))) else none)) else none) else none))) | some q5 => (am_A h 25 (Int32.toNatClampNeg a1)).bind fun q26 => (bif am_isO h q26 0 then ((am_A h q26 3).bind fun q29 => (some ((q29, h), 0, 0))) else none))) else none)) else none
set_option maxRecDepth 100000 in
set_option maxHeartbeats 4000000 in
theorem s_X8_machineOf (n : Nat) (a1 : Int32) (h : am_H) (hs : am_stat h) {v : Nat} {h' : am_H} {cr sr : Nat} (hf : f_X8_machineOf n a1 h = some ((v, h'), cr, sr)) : am_stat h' := by
  unfold f_X8_machineOf at hf
  obtain ⟨b1, hf⟩ := am_bis hf
  obtain ⟨q2, k3, hf⟩ := am_bnd hf
  obtain ⟨k4, hf⟩ := am_bis hf
  cases k6 : (am_A h q2 3) with
  | none =>
    rw [k6] at hf
    obtain ⟨q7, k8, hf⟩ := am_bnd hf
    obtain ⟨q9, k10, hf⟩ := am_bnd hf
    obtain ⟨r11, h12, c14, s15, c16, s17, e13, hg18, rfl, rfl⟩ := am_bc_ok hf
    have hf := hg18
    have hs := s_X2_fold n q9 h hs e13
    obtain ⟨k19, hf⟩ := am_bis hf
    obtain ⟨b20, hf⟩ := am_bis hf
    obtain ⟨q21, k22, hf⟩ := am_bnd hf
    obtain ⟨k23, hf⟩ := am_bis hf
    obtain ⟨q24, k25, hf⟩ := am_bnd hf
    have hs := am_stA hs q7 3 (some r11) (am_n98 b20 3)
    obtain ⟨rfl, rfl, rfl, rfl⟩ := am_ic hf
    exact hs
  | some q5 =>
    rw [k6] at hf
    obtain ⟨q26, k27, hf⟩ := am_bnd hf
    obtain ⟨k28, hf⟩ := am_bis hf
    obtain ⟨q29, k30, hf⟩ := am_bnd hf
    obtain ⟨rfl, rfl, rfl, rfl⟩ := am_ic hf
    exact hs
set_option maxRecDepth 100000 in
set_option maxHeartbeats 4000000 in
theorem c_X8_machineOf (n : Nat) (a1 : Int32) (h : am_H) (hs : am_stat h) {v : Nat} {h' : am_H} {cr sr : Nat} (Cc Ss : Nat) (hC : 0 + cr ≤ Cc) (hS : 0 + sr ≤ Ss) (hf : f_X8_machineOf n a1 h = some ((v, h'), cr, sr)) : AMet mX8_machineOf (rX8_machineOf Cc Ss) (fun r h2 => r = some (.ref v) ∧ h2 = h') [.ref 0, .int a1] h := by
  unfold f_X8_machineOf at hf
  obtain ⟨b1, hf⟩ := am_bis hf
  obtain ⟨q2, k3, hf⟩ := am_bnd hf
  obtain ⟨k4, hf⟩ := am_bis hf
  cases k6 : (am_A h q2 3) with
  | none =>
    rw [k6] at hf
    refine AW_go okX8_machineOf 6 ?_
    refine And.intro (sK hs 0) (Exists.intro _ (And.intro (sA hs 0 4) ?_))
    refine Exists.intro 4 (Exists.intro 8 (Exists.intro (some q2) (And.intro (by decide) (And.intro (sK hs 25) (And.intro (am_vp_ok b1) (And.intro k3 ?_))))))
    refine And.intro (am_isO_ok k4) (Exists.intro none (And.intro k6 ?_))
    obtain ⟨q7, k8, hf⟩ := am_bnd hf
    obtain ⟨q9, k10, hf⟩ := am_bnd hf
    refine AW_go okX8_machineOf 10 ?_
    refine And.intro (sK hs 0) (Exists.intro _ (And.intro (sA hs 0 4) ?_))
    refine Exists.intro 4 (Exists.intro 8 (Exists.intro (some q7) (And.intro (by decide) (And.intro (sK hs 25) (And.intro (am_vp_ok b1) (And.intro k8 ?_))))))
    refine And.intro (sK hs 0) (Exists.intro _ (And.intro (sA hs 0 2) ?_))
    refine And.intro (sK hs 0) (Exists.intro _ (And.intro (sA hs 0 4) ?_))
    refine Exists.intro 4 (Exists.intro 8 (Exists.intro (some q9) (And.intro (by decide) (And.intro (sK hs 25) (And.intro (am_vp_ok b1) (And.intro k10 ?_))))))
    obtain ⟨r11, h12, c14, s15, c16, s17, e13, hg18, rfl, rfl⟩ := am_bc_ok hf
    have hf := hg18
    refine AW_callV (As := [.ref q9]) (R' := rX2_fold c14 s15) (T := TX2) (N := 7) (ci := 2) (okX8_machineOf.1 28 _ _ rfl) lkX2_fold kX8_325 rfl (sK hs 12) rfl (Nat.le_of_ble_eq_true rfl) ⟨(Nat.le_of_ble_eq_true rfl), (Nat.le_of_ble_eq_true rfl)⟩ ⟨show 0 + c14 ≤ Cc by omega, show 0 + s15 ≤ Ss by omega⟩ (Nat.le_of_ble_eq_true rfl) (c_X2_fold n q9 h hs c14 s15 (by omega) (by omega) e13) (fun r h' hq => ?_)
    obtain ⟨rfl, hq⟩ := hq
    replace hq := hq.symm
    subst hq
    have hs := s_X2_fold n q9 h hs e13
    obtain ⟨k19, hf⟩ := am_bis hf
    obtain ⟨b20, hf⟩ := am_bis hf
    obtain ⟨q21, k22, hf⟩ := am_bnd hf
    obtain ⟨k23, hf⟩ := am_bis hf
    obtain ⟨q24, k25, hf⟩ := am_bnd hf
    refine AW_go okX8_machineOf 7 ?_
    refine And.intro (am_isO_ok k19) ?_
    have hs := am_stA hs q7 3 (some r11) (am_n98 b20 3)
    refine And.intro (sK hs 0) (Exists.intro _ (And.intro (sA hs 0 4) ?_))
    refine Exists.intro 4 (Exists.intro 8 (Exists.intro (some q21) (And.intro (by decide) (And.intro (sK hs 25) (And.intro (am_vp_ok b1) (And.intro k22 ?_))))))
    refine And.intro (am_isO_ok k23) (Exists.intro (some q24) (And.intro k25 ?_))
    obtain ⟨rfl, rfl, rfl, rfl⟩ := am_ic hf
    exact And.intro ⟨show (0 + c14) ≤ Cc by omega, show (0 + s15) ≤ Ss by omega⟩ (And.intro ⟨_, rfl, rfl⟩ ⟨rfl, rfl⟩)
  | some q5 =>
    rw [k6] at hf
    refine AW_go okX8_machineOf 6 ?_
    refine And.intro (sK hs 0) (Exists.intro _ (And.intro (sA hs 0 4) ?_))
    refine Exists.intro 4 (Exists.intro 8 (Exists.intro (some q2) (And.intro (by decide) (And.intro (sK hs 25) (And.intro (am_vp_ok b1) (And.intro k3 ?_))))))
    refine And.intro (am_isO_ok k4) (Exists.intro (some q5) (And.intro k6 ?_))
    obtain ⟨q26, k27, hf⟩ := am_bnd hf
    obtain ⟨k28, hf⟩ := am_bis hf
    obtain ⟨q29, k30, hf⟩ := am_bnd hf
    refine AW_go okX8_machineOf 6 ?_
    refine And.intro (sK hs 0) (Exists.intro _ (And.intro (sA hs 0 4) ?_))
    refine Exists.intro 4 (Exists.intro 8 (Exists.intro (some q26) (And.intro (by decide) (And.intro (sK hs 25) (And.intro (am_vp_ok b1) (And.intro k27 ?_))))))
    refine And.intro (am_isO_ok k28) (Exists.intro (some q29) (And.intro k30 ?_))
    obtain ⟨rfl, rfl, rfl, rfl⟩ := am_ic hf
    exact And.intro ⟨show 0 ≤ Cc by omega, show 0 ≤ Ss by omega⟩ (And.intro ⟨_, rfl, rfl⟩ ⟨rfl, rfl⟩)
def g_X8_seekMend : Nat → Nat → Int32 → Int32 → am_H → Option ((Unit × am_H) × Nat × Nat)
  | 0, _, _, _, _ => none
  | n + 1, tag, x1i, x2i, h => bif Nat.beq tag 0 then ((if (Int32.ofInt 3) ≤ x1i then g_X8_seekMend n 1 (Int32.ofInt 0) 0 (am_sI h 0 13 (Int32.ofInt 0)) else am_b2 (f_X6_worthMending n 37 x1i h) fun r2 h3 => (bif am_vp x1i 3 then (g_X8_seekMend n 0 (x1i + Int32.ofInt 1) 0 (am_sI h3 50 (Int32.toNatClampNeg x1i) r2)) else none))) else (bif Nat.beq tag 1 then ((if (Int32.ofInt 3) ≤ x1i then some (((), h), 0, 0) else g_X8_seekMend n 2 x1i (Int32.ofInt 1) h)) else ((if (Int32.ofInt 15) < x2i then g_X8_seekMend n 1 (x1i + Int32.ofInt 1) 0 h else bif am_vp x1i 3 then ((if (((Int32.toUInt32 (am_I h 50 (Int32.toNatClampNeg x1i)) >>> (Int32.toUInt32 x2i &&& Int32.toUInt32 31)).toInt32) &&& (Int32.ofInt 1)) = 0 then g_X8_seekMend n 2 x1i (x2i + Int32.ofInt 1) h else am_bc (f_X8_mendsAct n x1i x2i h) fun r4 h5 => ((if r4 = 0 then g_X8_seekMend n 2 x1i (x2i + Int32.ofInt 1) h5 else some (((), h5), 0, 0))))) else none)))
set_option maxRecDepth 100000 in
set_option maxHeartbeats 4000000 in
theorem m_X8_seekMend (n : Nat) : (∀ (x1i : Int32) (x2i : Int32) (h : am_H) (v : Unit) (h' : am_H) (cr sr : Nat), am_stat h → g_X8_seekMend n 0 x1i x2i h = some ((v, h'), cr, sr) → am_stat h') ∧ (∀ (x1i : Int32) (x2i : Int32) (h : am_H) (v : Unit) (h' : am_H) (cr sr : Nat), am_stat h → g_X8_seekMend n 1 x1i x2i h = some ((v, h'), cr, sr) → am_stat h') ∧ (∀ (x1i : Int32) (x2i : Int32) (h : am_H) (v : Unit) (h' : am_H) (cr sr : Nat), am_stat h → g_X8_seekMend n 2 x1i x2i h = some ((v, h'), cr, sr) → am_stat h') := by
  induction n with
  | zero => exact ⟨fun x1i x2i h v h' cr sr hs hf => (by cases hf), fun x1i x2i h v h' cr sr hs hf => (by cases hf), fun x1i x2i h v h' cr sr hs hf => (by cases hf)⟩
  | succ n ih =>
    refine ⟨?_, ?_, ?_⟩
    · intro x1i x2i h v h' cr sr hs hf
      have hf : ((if (Int32.ofInt 3) ≤ x1i then g_X8_seekMend n 1 (Int32.ofInt 0) 0 (am_sI h 0 13 (Int32.ofInt 0)) else am_b2 (f_X6_worthMending n 37 x1i h) fun r2 h3 => (bif am_vp x1i 3 then (g_X8_seekMend n 0 (x1i + Int32.ofInt 1) 0 (am_sI h3 50 (Int32.toNatClampNeg x1i) r2)) else none))) = some ((v, h'), cr, sr) := hf
      by_cases c1 : (Int32.ofInt 3) ≤ x1i
      · rw [if_pos c1] at hf
        exact ih.2.1 (Int32.ofInt 0) 0 (am_sI h 0 13 (Int32.ofInt 0)) _ _ cr sr hs hf
      · rw [if_neg c1] at hf
        obtain ⟨r2, h3, e4, hf⟩ := am_b2_ok hf
        have hs := s_X6_worthMending n 37 x1i h (Or.inl rfl) hs e4
        obtain ⟨b5, hf⟩ := am_bis hf
        exact ih.1 (x1i + Int32.ofInt 1) 0 (am_sI h3 50 (Int32.toNatClampNeg x1i) r2) _ _ cr sr hs hf
    · intro x1i x2i h v h' cr sr hs hf
      have hf : ((if (Int32.ofInt 3) ≤ x1i then some (((), h), 0, 0) else g_X8_seekMend n 2 x1i (Int32.ofInt 1) h)) = some ((v, h'), cr, sr) := hf
      by_cases c1 : (Int32.ofInt 3) ≤ x1i
      · rw [if_pos c1] at hf
        obtain ⟨rfl, rfl, rfl, rfl⟩ := am_ic hf
        exact hs
      · rw [if_neg c1] at hf
        exact ih.2.2 x1i (Int32.ofInt 1) h _ _ cr sr hs hf
    · intro x1i x2i h v h' cr sr hs hf
      have hf : ((if (Int32.ofInt 15) < x2i then g_X8_seekMend n 1 (x1i + Int32.ofInt 1) 0 h else bif am_vp x1i 3 then ((if (((Int32.toUInt32 (am_I h 50 (Int32.toNatClampNeg x1i)) >>> (Int32.toUInt32 x2i &&& Int32.toUInt32 31)).toInt32) &&& (Int32.ofInt 1)) = 0 then g_X8_seekMend n 2 x1i (x2i + Int32.ofInt 1) h else am_bc (f_X8_mendsAct n x1i x2i h) fun r4 h5 => ((if r4 = 0 then g_X8_seekMend n 2 x1i (x2i + Int32.ofInt 1) h5 else some (((), h5), 0, 0))))) else none)) = some ((v, h'), cr, sr) := hf
      by_cases c1 : (Int32.ofInt 15) < x2i
      · rw [if_pos c1] at hf
        exact ih.2.1 (x1i + Int32.ofInt 1) 0 h _ _ cr sr hs hf
      · rw [if_neg c1] at hf
        obtain ⟨b2, hf⟩ := am_bis hf
        by_cases c3 : (((Int32.toUInt32 (am_I h 50 (Int32.toNatClampNeg x1i)) >>> (Int32.toUInt32 x2i &&& Int32.toUInt32 31)).toInt32) &&& (Int32.ofInt 1)) = 0
        · rw [if_pos c3] at hf
          exact ih.2.2 x1i (x2i + Int32.ofInt 1) h _ _ cr sr hs hf
        · rw [if_neg c3] at hf
          obtain ⟨r4, h5, c7, s8, c9, s10, e6, hg11, rfl, rfl⟩ := am_bc_ok hf
          have hf := hg11
          have hs := s_X8_mendsAct n x1i x2i h hs e6
          by_cases c12 : r4 = 0
          · rw [if_pos c12] at hf
            exact ih.2.2 x1i (x2i + Int32.ofInt 1) h5 _ _ c9 s10 hs hf
          · rw [if_neg c12] at hf
            obtain ⟨rfl, rfl, rfl, rfl⟩ := am_ic hf
            exact hs
set_option maxRecDepth 100000 in
set_option maxHeartbeats 4000000 in
theorem l_X8_seekMend (n : Nat) : (∀ (x1i : Int32) (x2i : Int32) (h : am_H) (v : Unit) (h' : am_H) (cr sr : Nat) (Cc Ss ac sc : Nat), ac + cr ≤ Cc → sc + sr ≤ Ss → am_stat h → g_X8_seekMend n 0 x1i x2i h = some ((v, h'), cr, sr) → AW mX8_seekMend (rX8_seekMend Cc Ss) (fun r h2 => r = none ∧ h2 = h') 10 [(0, .ref 0), (1, .int x1i)] [] h ac sc) ∧ (∀ (x1i : Int32) (x2i : Int32) (h : am_H) (v : Unit) (h' : am_H) (cr sr : Nat) (Cc Ss ac sc : Nat), ac + cr ≤ Cc → sc + sr ≤ Ss → am_stat h → g_X8_seekMend n 1 x1i x2i h = some ((v, h'), cr, sr) → AW mX8_seekMend (rX8_seekMend Cc Ss) (fun r h2 => r = none ∧ h2 = h') 46 [(0, .ref 0), (1, .int x1i)] [] h ac sc) ∧ (∀ (x1i : Int32) (x2i : Int32) (h : am_H) (v : Unit) (h' : am_H) (cr sr : Nat) (Cc Ss ac sc : Nat), ac + cr ≤ Cc → sc + sr ≤ Ss → am_stat h → g_X8_seekMend n 2 x1i x2i h = some ((v, h'), cr, sr) → AW mX8_seekMend (rX8_seekMend Cc Ss) (fun r h2 => r = none ∧ h2 = h') 53 [(0, .ref 0), (1, .int x1i), (2, .int x2i)] [] h ac sc) := by
  induction n with
  | zero => exact ⟨fun x1i x2i h v h' cr sr Cc Ss ac sc hC hS hs hf => (by cases hf), fun x1i x2i h v h' cr sr Cc Ss ac sc hC hS hs hf => (by cases hf), fun x1i x2i h v h' cr sr Cc Ss ac sc hC hS hs hf => (by cases hf)⟩
  | succ n ih =>
    refine ⟨?_, ?_, ?_⟩
    · intro x1i x2i h v h' cr sr Cc Ss ac sc hC hS hs hf
      have hf : ((if (Int32.ofInt 3) ≤ x1i then g_X8_seekMend n 1 (Int32.ofInt 0) 0 (am_sI h 0 13 (Int32.ofInt 0)) else am_b2 (f_X6_worthMending n 37 x1i h) fun r2 h3 => (bif am_vp x1i 3 then (g_X8_seekMend n 0 (x1i + Int32.ofInt 1) 0 (am_sI h3 50 (Int32.toNatClampNeg x1i) r2)) else none))) = some ((v, h'), cr, sr) := hf
      refine AW_go okX8_seekMend 3 ?_
      refine And.intro (fun c1 => ?_) (fun c1 => ?_)
      · rw [if_pos c1] at hf
        refine AW_go okX8_seekMend 5 ?_
        refine And.intro (Or.inl rfl) (And.intro (sK hs 0) ?_)
        refine AW_pick (lv' := [(0, .ref 0), (1, .int (Int32.ofInt 0))]) [1, 0] rfl ?_
        exact ih.2.1 (Int32.ofInt 0) 0 (am_sI h 0 13 (Int32.ofInt 0)) _ _ cr sr Cc Ss ac sc (by omega) (by omega) hs hf
      · rw [if_neg c1] at hf
        refine AW_go okX8_seekMend 8 ?_
        refine And.intro (sK hs 0) (Exists.intro _ (And.intro (sA hs 0 16) ?_))
        refine And.intro (sK hs 0) (Exists.intro _ (And.intro (sA hs 0 12) ?_))
        refine And.intro (sK hs 0) (Exists.intro _ (And.intro (sA hs 0 9) ?_))
        obtain ⟨r2, h3, e4, hf⟩ := am_b2_ok hf
        refine AW_callV (As := [.ref 28, .int x1i]) (R' := rX6_worthMending 0 0) (T := TX6) (N := 15) (ci := 6) (okX8_seekMend.1 29 _ _ rfl) lkX6_worthMending kX8_346 rfl (sK hs 37) rfl (Nat.le_of_ble_eq_true rfl) ⟨(Nat.le_of_ble_eq_true rfl), (Nat.le_of_ble_eq_true rfl)⟩ ⟨show ac + 0 ≤ Cc by omega, show sc + 0 ≤ Ss by omega⟩ (Nat.le_of_ble_eq_true rfl) (c_X6_worthMending n 37 x1i h (Or.inl rfl) hs e4) (fun r h' hq => ?_)
        obtain ⟨rfl, hq⟩ := hq
        replace hq := hq.symm
        subst hq
        have hs := s_X6_worthMending n 37 x1i h (Or.inl rfl) hs e4
        obtain ⟨b5, hf⟩ := am_bis hf
        refine AW_go okX8_seekMend 3 ?_
        refine Exists.intro 3 (And.intro (sK hs 50) (And.intro (am_vp_ok b5) ?_))
        refine AW_pick (lv' := [(0, .ref 0), (1, .int (x1i + Int32.ofInt 1))]) [1, 0] rfl ?_
        exact ih.1 (x1i + Int32.ofInt 1) 0 (am_sI h3 50 (Int32.toNatClampNeg x1i) r2) _ _ cr sr Cc Ss ac sc (by omega) (by omega) hs hf
    · intro x1i x2i h v h' cr sr Cc Ss ac sc hC hS hs hf
      have hf : ((if (Int32.ofInt 3) ≤ x1i then some (((), h), 0, 0) else g_X8_seekMend n 2 x1i (Int32.ofInt 1) h)) = some ((v, h'), cr, sr) := hf
      refine AW_go okX8_seekMend 3 ?_
      refine And.intro (fun c1 => ?_) (fun c1 => ?_)
      · rw [if_pos c1] at hf
        refine AW_go okX8_seekMend 1 ?_
        obtain ⟨rfl, rfl, rfl, rfl⟩ := am_ic hf
        exact And.intro ⟨show ac ≤ Cc by omega, show sc ≤ Ss by omega⟩ (And.intro rfl ⟨rfl, rfl⟩)
      · rw [if_neg c1] at hf
        refine AW_go okX8_seekMend 2 ?_
        refine AW_pick (lv' := [(0, .ref 0), (1, .int x1i), (2, .int (Int32.ofInt 1))]) [1, 2, 0] rfl ?_
        exact ih.2.2 x1i (Int32.ofInt 1) h _ _ cr sr Cc Ss ac sc (by omega) (by omega) hs hf
    · intro x1i x2i h v h' cr sr Cc Ss ac sc hC hS hs hf
      have hf : ((if (Int32.ofInt 15) < x2i then g_X8_seekMend n 1 (x1i + Int32.ofInt 1) 0 h else bif am_vp x1i 3 then ((if (((Int32.toUInt32 (am_I h 50 (Int32.toNatClampNeg x1i)) >>> (Int32.toUInt32 x2i &&& Int32.toUInt32 31)).toInt32) &&& (Int32.ofInt 1)) = 0 then g_X8_seekMend n 2 x1i (x2i + Int32.ofInt 1) h else am_bc (f_X8_mendsAct n x1i x2i h) fun r4 h5 => ((if r4 = 0 then g_X8_seekMend n 2 x1i (x2i + Int32.ofInt 1) h5 else some (((), h5), 0, 0))))) else none)) = some ((v, h'), cr, sr) := hf
      refine AW_go okX8_seekMend 3 ?_
      refine And.intro (fun c1 => ?_) (fun c1 => ?_)
      · rw [if_pos c1] at hf
        refine AW_go okX8_seekMend 2 ?_
        refine AW_pick (lv' := [(0, .ref 0), (1, .int (x1i + Int32.ofInt 1))]) [1, 0] rfl ?_
        exact ih.2.1 (x1i + Int32.ofInt 1) 0 h _ _ cr sr Cc Ss ac sc (by omega) (by omega) hs hf
      · rw [if_neg c1] at hf
        obtain ⟨b2, hf⟩ := am_bis hf
        refine AW_go okX8_seekMend 9 ?_
        refine And.intro (sK hs 0) (Exists.intro _ (And.intro (sA hs 0 16) ?_))
        refine Exists.intro 3 (And.intro (sK hs 50) (And.intro (am_vp_ok b2) ?_))
        refine And.intro (fun c3 => ?_) (fun c3 => ?_)
        · rw [if_pos c3] at hf
          refine AW_go okX8_seekMend 2 ?_
          refine AW_pick (lv' := [(0, .ref 0), (1, .int x1i), (2, .int (x2i + Int32.ofInt 1))]) [1, 2, 0] rfl ?_
          exact ih.2.2 x1i (x2i + Int32.ofInt 1) h _ _ cr sr Cc Ss ac sc (by omega) (by omega) hs hf
        · rw [if_neg c3] at hf
          refine AW_go okX8_seekMend 3 ?_
          obtain ⟨r4, h5, c7, s8, c9, s10, e6, hg11, rfl, rfl⟩ := am_bc_ok hf
          have hf := hg11
          refine AW_callV (As := [.int x1i, .int x2i]) (R' := rX8_mendsAct c7 s8) (T := TX8) (N := 18) (ci := 8) (okX8_seekMend.1 75 _ _ rfl) lkX8_mendsAct kX8_349 rfl (sK hs 0) rfl (Nat.le_of_ble_eq_true rfl) ⟨(Nat.le_of_ble_eq_true rfl), (Nat.le_of_ble_eq_true rfl)⟩ ⟨show ac + c7 ≤ Cc by omega, show sc + s8 ≤ Ss by omega⟩ (Nat.le_of_ble_eq_true rfl) (c_X8_mendsAct n x1i x2i h hs c7 s8 (by omega) (by omega) e6) (fun r h' hq => ?_)
          obtain ⟨rfl, hq⟩ := hq
          replace hq := hq.symm
          subst hq
          have hs := s_X8_mendsAct n x1i x2i h hs e6
          refine AW_go okX8_seekMend 1 ?_
          refine And.intro (fun c12 => ?_) (fun c12 => ?_)
          · rw [if_pos c12] at hf
            refine AW_go okX8_seekMend 2 ?_
            refine AW_pick (lv' := [(0, .ref 0), (1, .int x1i), (2, .int (x2i + Int32.ofInt 1))]) [1, 2, 0] rfl ?_
            exact ih.2.2 x1i (x2i + Int32.ofInt 1) h5 _ _ c9 s10 Cc Ss (ac + c7) (sc + s8) (by omega) (by omega) hs hf
          · rw [if_neg c12] at hf
            refine AW_go okX8_seekMend 1 ?_
            obtain ⟨rfl, rfl, rfl, rfl⟩ := am_ic hf
            exact And.intro ⟨show (ac + c7) ≤ Cc by omega, show (sc + s8) ≤ Ss by omega⟩ (And.intro rfl ⟨rfl, rfl⟩)
def f_X8_seekMend (n : Nat) (h : am_H) : Option ((Unit × am_H) × Nat × Nat) := am_b2 (f_J7_fill_53178 n 49 (Int32.ofInt (-1)) h) fun r1 h2 => (g_X8_seekMend n 0 (Int32.ofInt 0) 0 h2)
set_option maxRecDepth 100000 in
set_option maxHeartbeats 4000000 in
theorem s_X8_seekMend (n : Nat) (h : am_H) (hs : am_stat h) {v : Unit} {h' : am_H} {cr sr : Nat} (hf : f_X8_seekMend n h = some ((v, h'), cr, sr)) : am_stat h' := by
  unfold f_X8_seekMend at hf
  obtain ⟨r1, h2, e3, hf⟩ := am_b2_ok hf
  have hs := s_J7_fill_53178 n 49 (Int32.ofInt (-1)) h hs e3
  exact (m_X8_seekMend n).1 (Int32.ofInt 0) 0 h2 _ _ cr sr hs hf
set_option maxRecDepth 100000 in
set_option maxHeartbeats 4000000 in
theorem c_X8_seekMend (n : Nat) (h : am_H) (hs : am_stat h) {v : Unit} {h' : am_H} {cr sr : Nat} (Cc Ss : Nat) (hC : 0 + cr ≤ Cc) (hS : 0 + sr ≤ Ss) (hf : f_X8_seekMend n h = some ((v, h'), cr, sr)) : AMet mX8_seekMend (rX8_seekMend Cc Ss) (fun r h2 => r = none ∧ h2 = h') [.ref 0] h := by
  unfold f_X8_seekMend at hf
  refine AW_go okX8_seekMend 3 ?_
  refine And.intro (sK hs 0) (Exists.intro _ (And.intro (sA hs 0 15) ?_))
  obtain ⟨r1, h2, e3, hf⟩ := am_b2_ok hf
  refine AW_callS (As := [.ref 49, .int (Int32.ofInt (-1))]) (R' := rJ7_fill_53178 0 0) (okX8_seekMend.1 5 _ _ rfl) lkJ7_fill_53178 (Or.inl kX8_340) rfl (Nat.le_of_ble_eq_true rfl) ⟨(Nat.le_of_ble_eq_true rfl), (Nat.le_of_ble_eq_true rfl)⟩ ⟨show 0 + 0 ≤ Cc by omega, show 0 + 0 ≤ Ss by omega⟩ (Nat.le_of_ble_eq_true rfl) (c_J7_fill_53178 n 49 (Int32.ofInt (-1)) h hs e3) (fun r h' hq => ?_)
  obtain ⟨rfl, hq⟩ := hq
  replace hq := hq.symm
  subst hq
  have hs := s_J7_fill_53178 n 49 (Int32.ofInt (-1)) h hs e3
  refine AW_go okX8_seekMend 2 ?_
  refine AW_pick (lv' := [(0, .ref 0), (1, .int (Int32.ofInt 0))]) [1, 0] rfl ?_
  exact (l_X8_seekMend n).1 (Int32.ofInt 0) 0 h2 _ _ cr sr Cc Ss 0 0 (by omega) (by omega) hs hf
def f_X8_about (n : Nat) (a1 : Int32) (a2 : Int32) (h : am_H) : Option ((Int32 × am_H) × Nat × Nat) := am_b2 (f_X8_isBook a1 h) fun r1 h2 => ((if r1 = 0 then some (((Int32.ofInt (-101)), h2), 0, 0) else (if a2 = Int32.ofInt 0 then bif am_vp a1 8 then ((am_A h2 25 (Int32.toNatClampNeg a1)).bind fun q7 => (bif am_isO h2 q7 0 then (some (((am_I h2 q7 0), h2), 0, 0)) else none)) else none else (if a2 = Int32.ofInt 1 then bif am_vp a1 8 then ((am_A h2 25 (Int32.toNatClampNeg a1)).bind fun q12 => (bif am_isO h2 q12 0 then ((am_A h2 q12 2).bind fun q15 => ((am_ln h2 0 q15).bind fun n17 => (bif am_vp (Int32.ofInt 0) n17 then (some ((((am_I h2 q15 (Int32.toNatClampNeg (Int32.ofInt 0))) &&& (Int32.ofInt 1)), h2), 0, 0)) else none))) else none)) else none else (if a2 = Int32.ofInt 2 then am_bc (f_X8_machineOf n a1 h2) fun r21 h22 => (bif am_isO h22 r21 3 then (some (((am_I h22 r21 0), h22), 0, 0)) else none) else (if a2 = Int32.ofInt 3 then bif am_vp a1 8 then ((am_A h2 25 (Int32.toNatClampNeg a1)).bind fun q32 => (bif am_isO h2 q32 0 then (am_b2 (f_X0_endings n q32 h2) fun r35 h36 => (some ((r35, h36), 0, 0))) else none)) else none else some (((Int32.ofInt (-102)), h2), 0, 0)))))))
set_option maxRecDepth 100000 in
set_option maxHeartbeats 4000000 in
theorem s_X8_about (n : Nat) (a1 : Int32) (a2 : Int32) (h : am_H) (hs : am_stat h) {v : Int32} {h' : am_H} {cr sr : Nat} (hf : f_X8_about n a1 a2 h = some ((v, h'), cr, sr)) : am_stat h' := by
  unfold f_X8_about at hf
  obtain ⟨r1, h2, e3, hf⟩ := am_b2_ok hf
  have hs := s_X8_isBook a1 h hs e3
  by_cases c4 : r1 = 0
  · rw [if_pos c4] at hf
    obtain ⟨rfl, rfl, rfl, rfl⟩ := am_ic hf
    exact hs
  · rw [if_neg c4] at hf
    by_cases c5 : a2 = Int32.ofInt 0
    · rw [if_pos c5] at hf
      obtain ⟨b6, hf⟩ := am_bis hf
      obtain ⟨q7, k8, hf⟩ := am_bnd hf
      obtain ⟨k9, hf⟩ := am_bis hf
      obtain ⟨rfl, rfl, rfl, rfl⟩ := am_ic hf
      exact hs
    rw [if_neg c5] at hf
    by_cases c10 : a2 = Int32.ofInt 1
    · rw [if_pos c10] at hf
      obtain ⟨b11, hf⟩ := am_bis hf
      obtain ⟨q12, k13, hf⟩ := am_bnd hf
      obtain ⟨k14, hf⟩ := am_bis hf
      obtain ⟨q15, k16, hf⟩ := am_bnd hf
      obtain ⟨n17, k18, hf⟩ := am_bnd hf
      obtain ⟨b19, hf⟩ := am_bis hf
      obtain ⟨rfl, rfl, rfl, rfl⟩ := am_ic hf
      exact hs
    rw [if_neg c10] at hf
    by_cases c20 : a2 = Int32.ofInt 2
    · rw [if_pos c20] at hf
      obtain ⟨r21, h22, c24, s25, c26, s27, e23, hg28, rfl, rfl⟩ := am_bc_ok hf
      have hf := hg28
      have hs := s_X8_machineOf n a1 h2 hs e23
      obtain ⟨k29, hf⟩ := am_bis hf
      obtain ⟨rfl, rfl, rfl, rfl⟩ := am_ic hf
      exact hs
    rw [if_neg c20] at hf
    by_cases c30 : a2 = Int32.ofInt 3
    · rw [if_pos c30] at hf
      obtain ⟨b31, hf⟩ := am_bis hf
      obtain ⟨q32, k33, hf⟩ := am_bnd hf
      obtain ⟨k34, hf⟩ := am_bis hf
      obtain ⟨r35, h36, e37, hf⟩ := am_b2_ok hf
      have hs := s_X0_endings n q32 h2 hs e37
      obtain ⟨rfl, rfl, rfl, rfl⟩ := am_ic hf
      exact hs
    rw [if_neg c30] at hf
    obtain ⟨rfl, rfl, rfl, rfl⟩ := am_ic hf
    exact hs
set_option maxRecDepth 100000 in
set_option maxHeartbeats 4000000 in
theorem c_X8_about (n : Nat) (a1 : Int32) (a2 : Int32) (h : am_H) (hs : am_stat h) {v : Int32} {h' : am_H} {cr sr : Nat} (Cc Ss : Nat) (hC : 0 + cr ≤ Cc) (hS : 0 + sr ≤ Ss) (hf : f_X8_about n a1 a2 h = some ((v, h'), cr, sr)) : AMet mX8_about (rX8_about Cc Ss) (fun r h2 => r = some (.int v) ∧ h2 = h') [.ref 0, .int a1, .int a2] h := by
  unfold f_X8_about at hf
  refine AW_go okX8_about 2 ?_
  obtain ⟨r1, h2, e3, hf⟩ := am_b2_ok hf
  refine AW_callV (As := [.int a1]) (R' := rX8_isBook 0 0) (T := TX8) (N := 18) (ci := 8) (okX8_about.1 2 _ _ rfl) lkX8_isBook kX8_116 rfl (sK hs 0) rfl (Nat.le_of_ble_eq_true rfl) ⟨(Nat.le_of_ble_eq_true rfl), (Nat.le_of_ble_eq_true rfl)⟩ ⟨show 0 + 0 ≤ Cc by omega, show 0 + 0 ≤ Ss by omega⟩ (Nat.le_of_ble_eq_true rfl) (c_X8_isBook a1 h hs e3) (fun r h' hq => ?_)
  obtain ⟨rfl, hq⟩ := hq
  replace hq := hq.symm
  subst hq
  have hs := s_X8_isBook a1 h hs e3
  refine AW_go okX8_about 1 ?_
  refine And.intro (fun c4 => ?_) (fun c4 => ?_)
  · rw [if_neg c4] at hf
    refine AW_go okX8_about 2 ?_
    by_cases c5 : a2 = Int32.ofInt 0
    · rw [if_pos c5] at hf
      refine And.intro (fun q => absurd q (by rw [c5]; decide)) (fun _ _ => Exists.intro 32 (Exists.intro 44 (And.intro (by rw [c5]; rfl) (And.intro rfl ?_))))
      obtain ⟨b6, hf⟩ := am_bis hf
      obtain ⟨q7, k8, hf⟩ := am_bnd hf
      obtain ⟨k9, hf⟩ := am_bis hf
      refine AW_go okX8_about 6 ?_
      refine And.intro (sK hs 0) (Exists.intro _ (And.intro (sA hs 0 4) ?_))
      refine Exists.intro 4 (Exists.intro 8 (Exists.intro (some q7) (And.intro (by decide) (And.intro (sK hs 25) (And.intro (am_vp_ok b6) (And.intro k8 ?_))))))
      refine And.intro (am_isO_ok k9) ?_
      obtain ⟨rfl, rfl, rfl, rfl⟩ := am_ic hf
      exact And.intro ⟨show 0 ≤ Cc by omega, show 0 ≤ Ss by omega⟩ (And.intro (Or.inl rfl) ⟨rfl, rfl⟩)
    rw [if_neg c5] at hf
    by_cases c10 : a2 = Int32.ofInt 1
    · rw [if_pos c10] at hf
      refine And.intro (fun q => absurd q (by rw [c10]; decide)) (fun _ _ => Exists.intro 42 (Exists.intro 54 (And.intro (by rw [c10]; rfl) (And.intro rfl ?_))))
      obtain ⟨b11, hf⟩ := am_bis hf
      obtain ⟨q12, k13, hf⟩ := am_bnd hf
      obtain ⟨k14, hf⟩ := am_bis hf
      obtain ⟨q15, k16, hf⟩ := am_bnd hf
      obtain ⟨n17, k18, hf⟩ := am_bnd hf
      obtain ⟨b19, hf⟩ := am_bis hf
      refine AW_go okX8_about 10 ?_
      refine And.intro (sK hs 0) (Exists.intro _ (And.intro (sA hs 0 4) ?_))
      refine Exists.intro 4 (Exists.intro 8 (Exists.intro (some q12) (And.intro (by decide) (And.intro (sK hs 25) (And.intro (am_vp_ok b11) (And.intro k13 ?_))))))
      refine And.intro (am_isO_ok k14) (Exists.intro (some q15) (And.intro k16 ?_))
      refine Exists.intro n17 (And.intro (am_ln_ok k18) (And.intro (am_vp_ok b19) ?_))
      obtain ⟨rfl, rfl, rfl, rfl⟩ := am_ic hf
      exact And.intro ⟨show 0 ≤ Cc by omega, show 0 ≤ Ss by omega⟩ (And.intro (Or.inl rfl) ⟨rfl, rfl⟩)
    rw [if_neg c10] at hf
    by_cases c20 : a2 = Int32.ofInt 2
    · rw [if_pos c20] at hf
      refine And.intro (fun q => absurd q (by rw [c20]; decide)) (fun _ _ => Exists.intro 56 (Exists.intro 68 (And.intro (by rw [c20]; rfl) (And.intro rfl ?_))))
      refine AW_go okX8_about 2 ?_
      obtain ⟨r21, h22, c24, s25, c26, s27, e23, hg28, rfl, rfl⟩ := am_bc_ok hf
      have hf := hg28
      refine AW_callV (As := [.int a1]) (R' := rX8_machineOf c24 s25) (T := TX8) (N := 18) (ci := 8) (okX8_about.1 70 _ _ rfl) lkX8_machineOf kX8_128 rfl (sK hs 0) rfl (Nat.le_of_ble_eq_true rfl) ⟨(Nat.le_of_ble_eq_true rfl), (Nat.le_of_ble_eq_true rfl)⟩ ⟨show 0 + c24 ≤ Cc by omega, show 0 + s25 ≤ Ss by omega⟩ (Nat.le_of_ble_eq_true rfl) (c_X8_machineOf n a1 h2 hs c24 s25 (by omega) (by omega) e23) (fun r h' hq => ?_)
      obtain ⟨rfl, hq⟩ := hq
      replace hq := hq.symm
      subst hq
      have hs := s_X8_machineOf n a1 h2 hs e23
      obtain ⟨k29, hf⟩ := am_bis hf
      refine AW_go okX8_about 2 ?_
      refine And.intro (am_isO_ok k29) ?_
      obtain ⟨rfl, rfl, rfl, rfl⟩ := am_ic hf
      exact And.intro ⟨show (0 + c24) ≤ Cc by omega, show (0 + s25) ≤ Ss by omega⟩ (And.intro (Or.inl rfl) ⟨rfl, rfl⟩)
    rw [if_neg c20] at hf
    by_cases c30 : a2 = Int32.ofInt 3
    · rw [if_pos c30] at hf
      refine And.intro (fun q => absurd q (by rw [c30]; decide)) (fun _ _ => Exists.intro 65 (Exists.intro 77 (And.intro (by rw [c30]; rfl) (And.intro rfl ?_))))
      obtain ⟨b31, hf⟩ := am_bis hf
      obtain ⟨q32, k33, hf⟩ := am_bnd hf
      obtain ⟨k34, hf⟩ := am_bis hf
      refine AW_go okX8_about 4 ?_
      refine And.intro (sK hs 0) (Exists.intro _ (And.intro (sA hs 0 4) ?_))
      refine Exists.intro 4 (Exists.intro 8 (Exists.intro (some q32) (And.intro (by decide) (And.intro (sK hs 25) (And.intro (am_vp_ok b31) (And.intro k33 ?_))))))
      obtain ⟨r35, h36, e37, hf⟩ := am_b2_ok hf
      refine AW_callV (As := []) (R' := rX0_endings 0 0) (T := TX0) (N := 4) (ci := 0) (okX8_about.1 83 _ _ rfl) lkX0_endings kX8_137 rfl (am_isO_ok k34) rfl (Nat.le_of_ble_eq_true rfl) ⟨(Nat.le_of_ble_eq_true rfl), (Nat.le_of_ble_eq_true rfl)⟩ ⟨show 0 + 0 ≤ Cc by omega, show 0 + 0 ≤ Ss by omega⟩ (Nat.le_of_ble_eq_true rfl) (c_X0_endings n q32 h2 hs e37) (fun r h' hq => ?_)
      obtain ⟨rfl, hq⟩ := hq
      replace hq := hq.symm
      subst hq
      have hs := s_X0_endings n q32 h2 hs e37
      refine AW_go okX8_about 1 ?_
      obtain ⟨rfl, rfl, rfl, rfl⟩ := am_ic hf
      exact And.intro ⟨show 0 ≤ Cc by omega, show 0 ≤ Ss by omega⟩ (And.intro (Or.inl rfl) ⟨rfl, rfl⟩)
    rw [if_neg c30] at hf
    refine And.intro (fun _ => Exists.intro 87 (And.intro rfl ?_)) (fun q1 q2 => absurd (am_sw4 q1 q2 c5 c10 c20 c30) id)
    refine AW_go okX8_about 2 ?_
    obtain ⟨rfl, rfl, rfl, rfl⟩ := am_ic hf
    exact And.intro ⟨show 0 ≤ Cc by omega, show 0 ≤ Ss by omega⟩ (And.intro (Or.inl rfl) ⟨rfl, rfl⟩)
  · rw [if_pos c4] at hf
    refine AW_go okX8_about 2 ?_
    obtain ⟨rfl, rfl, rfl, rfl⟩ := am_ic hf
    exact And.intro ⟨show 0 ≤ Cc by omega, show 0 ≤ Ss by omega⟩ (And.intro (Or.inl rfl) ⟨rfl, rfl⟩)
def f_X8_same (n : Nat) (a1 : Int32) (a2 : Int32) (h : am_H) : Option ((Int32 × am_H) × Nat × Nat) := am_b2 (f_X8_isBook a1 h) fun r1 h2 => ((if r1 = 0 then some (((Int32.ofInt (-101)), h2), 0, 0) else am_b2 (f_X8_isBook a2 h2) fun r5 h6 => ((if r5 = 0 then some (((Int32.ofInt (-101)), h6), 0, 0) else am_bc (f_X8_machineOf n a1 h6) fun r9 h10 => (am_bc (f_X8_machineOf n a2 h10) fun r17 h18 => (am_bc (f_X1_tells n r9 r17 h18) fun r25 h26 => (Option.bind ((if r25 = 0 then some (Int32.ofInt 1) else some (Int32.ofInt 0))) fun y33 => (some ((y33, h26), 0, 0)))))))))
set_option maxRecDepth 100000 in
set_option maxHeartbeats 4000000 in
theorem s_X8_same (n : Nat) (a1 : Int32) (a2 : Int32) (h : am_H) (hs : am_stat h) {v : Int32} {h' : am_H} {cr sr : Nat} (hf : f_X8_same n a1 a2 h = some ((v, h'), cr, sr)) : am_stat h' := by
  unfold f_X8_same at hf
  obtain ⟨r1, h2, e3, hf⟩ := am_b2_ok hf
  have hs := s_X8_isBook a1 h hs e3
  by_cases c4 : r1 = 0
  · rw [if_pos c4] at hf
    obtain ⟨rfl, rfl, rfl, rfl⟩ := am_ic hf
    exact hs
  · rw [if_neg c4] at hf
    obtain ⟨r5, h6, e7, hf⟩ := am_b2_ok hf
    have hs := s_X8_isBook a2 h2 hs e7
    by_cases c8 : r5 = 0
    · rw [if_pos c8] at hf
      obtain ⟨rfl, rfl, rfl, rfl⟩ := am_ic hf
      exact hs
    · rw [if_neg c8] at hf
      obtain ⟨r9, h10, c12, s13, c14, s15, e11, hg16, rfl, rfl⟩ := am_bc_ok hf
      have hf := hg16
      have hs := s_X8_machineOf n a1 h6 hs e11
      obtain ⟨r17, h18, c20, s21, c22, s23, e19, hg24, rfl, rfl⟩ := am_bc_ok hf
      have hf := hg24
      have hs := s_X8_machineOf n a2 h10 hs e19
      obtain ⟨r25, h26, c28, s29, c30, s31, e27, hg32, rfl, rfl⟩ := am_bc_ok hf
      have hf := hg32
      have hs := s_X1_tells n r9 r17 h18 hs e27
      obtain ⟨y33, j34, hf⟩ := am_bnd hf
      obtain ⟨rfl, rfl, rfl, rfl⟩ := am_ic hf
      exact hs
set_option maxRecDepth 100000 in
set_option maxHeartbeats 4000000 in
theorem c_X8_same (n : Nat) (a1 : Int32) (a2 : Int32) (h : am_H) (hs : am_stat h) {v : Int32} {h' : am_H} {cr sr : Nat} (Cc Ss : Nat) (hC : 0 + cr ≤ Cc) (hS : 0 + sr ≤ Ss) (hf : f_X8_same n a1 a2 h = some ((v, h'), cr, sr)) : AMet mX8_same (rX8_same Cc Ss) (fun r h2 => r = some (.int v) ∧ h2 = h') [.ref 0, .int a1, .int a2] h := by
  unfold f_X8_same at hf
  refine AW_go okX8_same 2 ?_
  obtain ⟨r1, h2, e3, hf⟩ := am_b2_ok hf
  refine AW_callV (As := [.int a1]) (R' := rX8_isBook 0 0) (T := TX8) (N := 18) (ci := 8) (okX8_same.1 2 _ _ rfl) lkX8_isBook kX8_116 rfl (sK hs 0) rfl (Nat.le_of_ble_eq_true rfl) ⟨(Nat.le_of_ble_eq_true rfl), (Nat.le_of_ble_eq_true rfl)⟩ ⟨show 0 + 0 ≤ Cc by omega, show 0 + 0 ≤ Ss by omega⟩ (Nat.le_of_ble_eq_true rfl) (c_X8_isBook a1 h hs e3) (fun r h' hq => ?_)
  obtain ⟨rfl, hq⟩ := hq
  replace hq := hq.symm
  subst hq
  have hs := s_X8_isBook a1 h hs e3
  refine AW_go okX8_same 1 ?_
  refine And.intro (fun c4 => ?_) (fun c4 => ?_)
  · rw [if_pos c4] at hf
    refine AW_go okX8_same 2 ?_
    obtain ⟨rfl, rfl, rfl, rfl⟩ := am_ic hf
    exact And.intro ⟨show 0 ≤ Cc by omega, show 0 ≤ Ss by omega⟩ (And.intro (Or.inl rfl) ⟨rfl, rfl⟩)
  · rw [if_neg c4] at hf
    refine AW_go okX8_same 2 ?_
    obtain ⟨r5, h6, e7, hf⟩ := am_b2_ok hf
    refine AW_callV (As := [.int a2]) (R' := rX8_isBook 0 0) (T := TX8) (N := 18) (ci := 8) (okX8_same.1 10 _ _ rfl) lkX8_isBook kX8_116 rfl (sK hs 0) rfl (Nat.le_of_ble_eq_true rfl) ⟨(Nat.le_of_ble_eq_true rfl), (Nat.le_of_ble_eq_true rfl)⟩ ⟨show 0 + 0 ≤ Cc by omega, show 0 + 0 ≤ Ss by omega⟩ (Nat.le_of_ble_eq_true rfl) (c_X8_isBook a2 h2 hs e7) (fun r h' hq => ?_)
    obtain ⟨rfl, hq⟩ := hq
    replace hq := hq.symm
    subst hq
    have hs := s_X8_isBook a2 h2 hs e7
    refine AW_go okX8_same 1 ?_
    refine And.intro (fun c8 => ?_) (fun c8 => ?_)
    · rw [if_neg c8] at hf
      refine AW_go okX8_same 4 ?_
      refine And.intro (sK hs 0) (Exists.intro _ (And.intro (sA hs 0 3) ?_))
      obtain ⟨r9, h10, c12, s13, c14, s15, e11, hg16, rfl, rfl⟩ := am_bc_ok hf
      have hf := hg16
      refine AW_callV (As := [.int a1]) (R' := rX8_machineOf c12 s13) (T := TX8) (N := 18) (ci := 8) (okX8_same.1 25 _ _ rfl) lkX8_machineOf kX8_128 rfl (sK hs 0) rfl (Nat.le_of_ble_eq_true rfl) ⟨(Nat.le_of_ble_eq_true rfl), (Nat.le_of_ble_eq_true rfl)⟩ ⟨show 0 + c12 ≤ Cc by omega, show 0 + s13 ≤ Ss by omega⟩ (Nat.le_of_ble_eq_true rfl) (c_X8_machineOf n a1 h6 hs c12 s13 (by omega) (by omega) e11) (fun r h' hq => ?_)
      obtain ⟨rfl, hq⟩ := hq
      replace hq := hq.symm
      subst hq
      have hs := s_X8_machineOf n a1 h6 hs e11
      refine AW_go okX8_same 2 ?_
      obtain ⟨r17, h18, c20, s21, c22, s23, e19, hg24, rfl, rfl⟩ := am_bc_ok hf
      have hf := hg24
      refine AW_callV (As := [.int a2]) (R' := rX8_machineOf c20 s21) (T := TX8) (N := 18) (ci := 8) (okX8_same.1 30 _ _ rfl) lkX8_machineOf kX8_128 rfl (sK hs 0) rfl (Nat.le_of_ble_eq_true rfl) ⟨(Nat.le_of_ble_eq_true rfl), (Nat.le_of_ble_eq_true rfl)⟩ ⟨show (0 + c12) + c20 ≤ Cc by omega, show (0 + s13) + s21 ≤ Ss by omega⟩ (Nat.le_of_ble_eq_true rfl) (c_X8_machineOf n a2 h10 hs c20 s21 (by omega) (by omega) e19) (fun r h' hq => ?_)
      obtain ⟨rfl, hq⟩ := hq
      replace hq := hq.symm
      subst hq
      have hs := s_X8_machineOf n a2 h10 hs e19
      obtain ⟨r25, h26, c28, s29, c30, s31, e27, hg32, rfl, rfl⟩ := am_bc_ok hf
      have hf := hg32
      refine AW_callV (As := [.ref r9, .ref r17]) (R' := rX1_tells c28 s29) (T := TX1) (N := 11) (ci := 1) (okX8_same.1 33 _ _ rfl) lkX1_tells kX8_144 rfl (sK hs 19) rfl (Nat.le_of_ble_eq_true rfl) ⟨(Nat.le_of_ble_eq_true rfl), (Nat.le_of_ble_eq_true rfl)⟩ ⟨show ((0 + c12) + c20) + c28 ≤ Cc by omega, show ((0 + s13) + s21) + s29 ≤ Ss by omega⟩ (Nat.le_of_ble_eq_true rfl) (c_X1_tells n r9 r17 h18 hs c28 s29 (by omega) (by omega) e27) (fun r h' hq => ?_)
      obtain ⟨rfl, hq⟩ := hq
      replace hq := hq.symm
      subst hq
      have hs := s_X1_tells n r9 r17 h18 hs e27
      obtain ⟨y33, j34, hf⟩ := am_bnd hf
      refine am_cut (P := AW mX8_same (rX8_same Cc Ss) (fun r h2 => r = some (.int v) ∧ h2 = h') 44 [(0, .ref 0), (1, .int a1), (2, .int a2)] [.int y33] h26 (((0 + c12) + c20) + c28) (((0 + s13) + s21) + s29)) (fun hJ34 => ?_) ?_
      · have hs := hs
        refine AW_go okX8_same 1 ?_
        refine And.intro (fun c35 => ?_) (fun c35 => ?_)
        · rw [if_pos c35] at j34
          refine AW_go okX8_same 1 ?_
          obtain rfl := am_i1 j34
          exact AW_pick [0, 1, 2] rfl hJ34
        · rw [if_neg c35] at j34
          refine AW_go okX8_same 2 ?_
          obtain rfl := am_i1 j34
          exact AW_pick [0, 1, 2] rfl hJ34
      refine AW_go okX8_same 1 ?_
      obtain ⟨rfl, rfl, rfl, rfl⟩ := am_ic hf
      exact And.intro ⟨show (((0 + c12) + c20) + c28) ≤ Cc by omega, show (((0 + s13) + s21) + s29) ≤ Ss by omega⟩ (And.intro (Or.inl rfl) ⟨rfl, rfl⟩)
    · rw [if_pos c8] at hf
      refine AW_go okX8_same 2 ?_
      obtain ⟨rfl, rfl, rfl, rfl⟩ := am_ic hf
      exact And.intro ⟨show 0 ≤ Cc by omega, show 0 ≤ Ss by omega⟩ (And.intro (Or.inl rfl) ⟨rfl, rfl⟩)
