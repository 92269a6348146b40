def f_X8_apart (n : Nat) (a1 : Int32) (a2 : Int32) (a3 : Int32) (h : am_H) : Option ((Int32 × am_H) × Nat × Nat) := am_b2 (f_X8_isBook a1 h) fun r1 h2 => ((if r1 = 0 then some (((Int32.ofInt (-101)), h2), 0, 0) else am_b2 (f_X8_isBook a2 h2) fun r5 h6 => ((if r5 = 0 then some (((Int32.ofInt (-101)), h6), 0, 0) else am_let (am_bc (f_X8_machineOf n a1 h6) fun r12 h13 => (am_bc (f_X8_machineOf n a2 h13) fun r20 h21 => (am_bc (f_X1_tells n r12 r20 h21) fun r28 h29 => ((if r28 = 0 then some (((Int32.ofInt (-1)), h29), 0, 0) else (if a3 = 0 then am_b2 (f_X1_length n h29) fun r95 h96 => (some ((r95, h96), 0, 0)) else (if a3 = (Int32.ofInt 1) then Option.bind ((if (am_I h29 19 0) = 0 then some (Int32.ofInt 0) else some (Int32.ofInt 1))) fun y42 => (some ((y42, h29), 0, 0)) else am_b2 (f_X1_codeAt n (a3 - (Int32.ofInt 10)) h29) fun r39 h40 => (some ((r39, h40), 0, 0))))))))) fun b9 => ((if a3 = 0 then b9 else (if a3 = (Int32.ofInt 1) then b9 else am_b2 (f_X8_isItem a3 h6) fun r14 h15 => ((if r14 = 0 then some (((Int32.ofInt (-102)), h15), 0, 0) else am_bc (f_X8_machineOf n a1 h15) fun r18 h19 => (am_bc (f_X8_machineOf n a2 h19) fun r26 h27 => (am_bc (f_X1_tells n r18 r26 h27) fun r34 h35 => ((if r34 = 0 then some (((Int32.ofInt (-1)), h35), 0, 0) else (if a3 = 0 then am_b2 (f_X1_length n h35) fun r101 h102 => (some ((r101, h102), 0, 0)) else (if a3 = (Int32.ofInt 1) then Option.bind ((if (am_I h35 19 0) = 0 then some (Int32.ofInt 0) else some (Int32.ofInt 1))) fun y48 => (some ((y48, h35), 0, 0)) else am_b2 (f_X1_codeAt n (a3 - (Int32.ofInt 10)) h35) fun r45 h46 => (some ((r45, h46), 0, 0)))))))))))))))))
set_option maxRecDepth 100000 in
set_option maxHeartbeats 4000000 in
theorem s_X8_apart (n : Nat) (a1 : Int32) (a2 : Int32) (a3 : Int32) (h : am_H) (hs : am_stat h) {v : Int32} {h' : am_H} {cr sr : Nat} (hf : f_X8_apart n a1 a2 a3 h = some ((v, h'), cr, sr)) : am_stat h' := by
  unfold f_X8_apart at hf
  obtain ⟨r1, h2, e3, hf⟩ := am_b2_ok hf
  have hs := s_X8_isBook a1 h hs e3
  by_cases c4 : r1 = 0
  · rw [if_pos c4] at hf
    obtain ⟨rfl, rfl, rfl, rfl⟩ := am_ic hf
    exact hs
  · rw [if_neg c4] at hf
    obtain ⟨r5, h6, e7, hf⟩ := am_b2_ok hf
    have hs := s_X8_isBook a2 h2 hs e7
    by_cases c8 : r5 = 0
    · rw [if_pos c8] at hf
      obtain ⟨rfl, rfl, rfl, rfl⟩ := am_ic hf
      exact hs
    · rw [if_neg c8] at hf
      obtain ⟨b9, k10, hf⟩ := am_let_ok hf
      refine am_cut (P := (am_bc (f_X8_machineOf n a1 h6) fun r12 h13 => (am_bc (f_X8_machineOf n a2 h13) fun r20 h21 => (am_bc (f_X1_tells n r12 r20 h21) fun r28 h29 => ((if r28 = 0 then some (((Int32.ofInt (-1)), h29), 0, 0) else (if a3 = 0 then am_b2 (f_X1_length n h29) fun r38 h39 => (some ((r38, h39), 0, 0)) else (if a3 = (Int32.ofInt 1) then Option.bind ((if (am_I h29 19 0) = 0 then some (Int32.ofInt 0) else some (Int32.ofInt 1))) fun y42 => (some ((y42, h29), 0, 0)) else am_b2 (f_X1_codeAt n (a3 - (Int32.ofInt 10)) h29) fun r95 h96 => (some ((r95, h96), 0, 0))))))))) = some ((v, h'), cr, sr) → am_stat h') (fun B11 => ?_) ?_
      · skip
        by_cases c12 : a3 = 0
        · rw [if_pos c12] at hf
          exact B11 (k10.symm.trans hf)
        · rw [if_neg c12] at hf
          by_cases c13 : a3 = (Int32.ofInt 1)
          · rw [if_pos c13] at hf
            exact B11 (k10.symm.trans hf)
          · rw [if_neg c13] at hf
            obtain ⟨r14, h15, e16, hf⟩ := am_b2_ok hf
            have hs := s_X8_isItem a3 h6 hs e16
            by_cases c17 : r14 = 0
            · rw [if_pos c17] at hf
              obtain ⟨rfl, rfl, rfl, rfl⟩ := am_ic hf
              exact hs
            · rw [if_neg c17] at hf
              obtain ⟨r18, h19, c21, s22, c23, s24, e20, hg25, rfl, rfl⟩ := am_bc_ok hf
              have hf := hg25
              have hs := s_X8_machineOf n a1 h15 hs e20
              obtain ⟨r26, h27, c29, s30, c31, s32, e28, hg33, rfl, rfl⟩ := am_bc_ok hf
              have hf := hg33
              have hs := s_X8_machineOf n a2 h19 hs e28
              obtain ⟨r34, h35, c37, s38, c39, s40, e36, hg41, rfl, rfl⟩ := am_bc_ok hf
              have hf := hg41
              have hs := s_X1_tells n r18 r26 h27 hs e36
              by_cases c42 : r34 = 0
              · rw [if_pos c42] at hf
                obtain ⟨rfl, rfl, rfl, rfl⟩ := am_ic hf
                exact hs
              · rw [if_neg c42] at hf
                by_cases c43 : a3 = 0
                · rw [if_pos c43] at hf
                  obtain ⟨r44, h45, e46, hf⟩ := am_b2_ok hf
                  have hs := s_X1_length n h35 hs e46
                  obtain ⟨rfl, rfl, rfl, rfl⟩ := am_ic hf
                  exact hs
                · rw [if_neg c43] at hf
                  by_cases c47 : a3 = (Int32.ofInt 1)
                  · rw [if_pos c47] at hf
                    obtain ⟨y48, j49, hf⟩ := am_bnd hf
                    obtain ⟨rfl, rfl, rfl, rfl⟩ := am_ic hf
                    exact hs
                  · rw [if_neg c47] at hf
                    obtain ⟨r101, h102, e103, hf⟩ := am_b2_ok hf
                    have hs := s_X1_codeAt n (a3 - (Int32.ofInt 10)) h35 hs e103
                    obtain ⟨rfl, rfl, rfl, rfl⟩ := am_ic hf
                    exact hs
      intro hf
      obtain ⟨r104, h105, c107, s108, c109, s110, e106, hg111, rfl, rfl⟩ := am_bc_ok hf
      have hf := hg111
      have hs := s_X8_machineOf n a1 h6 hs e106
      obtain ⟨r112, h113, c115, s116, c117, s118, e114, hg119, rfl, rfl⟩ := am_bc_ok hf
      have hf := hg119
      have hs := s_X8_machineOf n a2 h105 hs e114
      obtain ⟨r120, h121, c123, s124, c125, s126, e122, hg127, rfl, rfl⟩ := am_bc_ok hf
      have hf := hg127
      have hs := s_X1_tells n r104 r112 h113 hs e122
      by_cases c128 : r120 = 0
      · rw [if_pos c128] at hf
        obtain ⟨rfl, rfl, rfl, rfl⟩ := am_ic hf
        exact hs
      · rw [if_neg c128] at hf
        by_cases c129 : a3 = 0
        · rw [if_pos c129] at hf
          obtain ⟨r130, h131, e132, hf⟩ := am_b2_ok hf
          have hs := s_X1_length n h121 hs e132
          obtain ⟨rfl, rfl, rfl, rfl⟩ := am_ic hf
          exact hs
        · rw [if_neg c129] at hf
          by_cases c133 : a3 = (Int32.ofInt 1)
          · rw [if_pos c133] at hf
            obtain ⟨y134, j135, hf⟩ := am_bnd hf
            obtain ⟨rfl, rfl, rfl, rfl⟩ := am_ic hf
            exact hs
          · rw [if_neg c133] at hf
            obtain ⟨r187, h188, e189, hf⟩ := am_b2_ok hf
            have hs := s_X1_codeAt n (a3 - (Int32.ofInt 10)) h121 hs e189
            obtain ⟨rfl, rfl, rfl, rfl⟩ := am_ic hf
            exact hs
set_option maxRecDepth 100000 in
set_option maxHeartbeats 4000000 in
theorem c_X8_apart (n : Nat) (a1 : Int32) (a2 : Int32) (a3 : Int32) (h : am_H) (hs : am_stat h) {v : Int32} {h' : am_H} {cr sr : Nat} (Cc Ss : Nat) (hC : 0 + cr ≤ Cc) (hS : 0 + sr ≤ Ss) (hf : f_X8_apart n a1 a2 a3 h = some ((v, h'), cr, sr)) : AMet mX8_apart (rX8_apart Cc Ss) (fun r h2 => r = some (.int v) ∧ h2 = h') [.ref 0, .int a1, .int a2, .int a3] h := by
  unfold f_X8_apart at hf
  refine AW_go okX8_apart 2 ?_
  obtain ⟨r1, h2, e3, hf⟩ := am_b2_ok hf
  refine AW_callV (As := [.int a1]) (R' := rX8_isBook 0 0) (T := TX8) (N := 18) (ci := 8) (okX8_apart.1 2 _ _ rfl) lkX8_isBook kX8_116 rfl (sK hs 0) rfl (Nat.le_of_ble_eq_true rfl) ⟨(Nat.le_of_ble_eq_true rfl), (Nat.le_of_ble_eq_true rfl)⟩ ⟨show 0 + 0 ≤ Cc by omega, show 0 + 0 ≤ Ss by omega⟩ (Nat.le_of_ble_eq_true rfl) (c_X8_isBook a1 h hs e3) (fun r h' hq => ?_)
  obtain ⟨rfl, hq⟩ := hq
  replace hq := hq.symm
  subst hq
  have hs := s_X8_isBook a1 h hs e3
  refine AW_go okX8_apart 1 ?_
  refine And.intro (fun c4 => ?_) (fun c4 => ?_)
  · rw [if_pos c4] at hf
    refine AW_go okX8_apart 2 ?_
    obtain ⟨rfl, rfl, rfl, rfl⟩ := am_ic hf
    exact And.intro ⟨show 0 ≤ Cc by omega, show 0 ≤ Ss by omega⟩ (And.intro (Or.inl rfl) ⟨rfl, rfl⟩)
  · rw [if_neg c4] at hf
    refine AW_go okX8_apart 2 ?_
    obtain ⟨r5, h6, e7, hf⟩ := am_b2_ok hf
    refine AW_callV (As := [.int a2]) (R' := rX8_isBook 0 0) (T := TX8) (N := 18) (ci := 8) (okX8_apart.1 10 _ _ rfl) lkX8_isBook kX8_116 rfl (sK hs 0) rfl (Nat.le_of_ble_eq_true rfl) ⟨(Nat.le_of_ble_eq_true rfl), (Nat.le_of_ble_eq_true rfl)⟩ ⟨show 0 + 0 ≤ Cc by omega, show 0 + 0 ≤ Ss by omega⟩ (Nat.le_of_ble_eq_true rfl) (c_X8_isBook a2 h2 hs e7) (fun r h' hq => ?_)
    obtain ⟨rfl, hq⟩ := hq
    replace hq := hq.symm
    subst hq
    have hs := s_X8_isBook a2 h2 hs e7
    refine AW_go okX8_apart 1 ?_
    refine And.intro (fun c8 => ?_) (fun c8 => ?_)
    · rw [if_neg c8] at hf
      refine AW_go okX8_apart 1 ?_
      obtain ⟨b9, k10, hf⟩ := am_let_ok hf
      refine am_cut (P := (am_bc (f_X8_machineOf n a1 h6) fun r12 h13 => (am_bc (f_X8_machineOf n a2 h13) fun r20 h21 => (am_bc (f_X1_tells n r12 r20 h21) fun r28 h29 => ((if r28 = 0 then some (((Int32.ofInt (-1)), h29), 0, 0) else (if a3 = 0 then am_b2 (f_X1_length n h29) fun r95 h96 => (some ((r95, h96), 0, 0)) else (if a3 = (Int32.ofInt 1) then Option.bind ((if (am_I h29 19 0) = 0 then some (Int32.ofInt 0) else some (Int32.ofInt 1))) fun y42 => (some ((y42, h29), 0, 0)) else am_b2 (f_X1_codeAt n (a3 - (Int32.ofInt 10)) h29) fun r39 h40 => (some ((r39, h40), 0, 0))))))))) = some ((v, h'), cr, sr) → AW mX8_apart (rX8_apart Cc Ss) (fun r h2 => r = some (.int v) ∧ h2 = h') 38 [(0, .ref 0), (1, .int a1), (2, .int a2), (3, .int a3)] [] h6 0 0) (fun B11 => ?_) ?_
      · skip
        refine AW_go okX8_apart 1 ?_
        refine And.intro (fun c12 => ?_) (fun c12 => ?_)
        · rw [if_pos c12] at hf
          exact B11 (k10.symm.trans hf)
        · rw [if_neg c12] at hf
          refine AW_go okX8_apart 3 ?_
          refine And.intro (fun c13 => ?_) (fun c13 => ?_)
          · rw [if_pos c13] at hf
            exact B11 (k10.symm.trans hf)
          · rw [if_neg c13] at hf
            refine AW_go okX8_apart 1 ?_
            obtain ⟨r14, h15, e16, hf⟩ := am_b2_ok hf
            refine AW_callS (As := [.int a3]) (R' := rX8_isItem 0 0) (okX8_apart.1 29 _ _ rfl) lkX8_isItem (Or.inl kX8_148) rfl (Nat.le_of_ble_eq_true rfl) ⟨(Nat.le_of_ble_eq_true rfl), (Nat.le_of_ble_eq_true rfl)⟩ ⟨show 0 + 0 ≤ Cc by omega, show 0 + 0 ≤ Ss by omega⟩ (Nat.le_of_ble_eq_true rfl) (c_X8_isItem a3 h6 hs e16) (fun r h' hq => ?_)
            obtain ⟨rfl, hq⟩ := hq
            replace hq := hq.symm
            subst hq
            have hs := s_X8_isItem a3 h6 hs e16
            refine AW_go okX8_apart 1 ?_
            refine And.intro (fun c17 => ?_) (fun c17 => ?_)
            · rw [if_neg c17] at hf
              refine AW_go okX8_apart 4 ?_
              refine And.intro (sK hs 0) (Exists.intro _ (And.intro (sA hs 0 3) ?_))
              obtain ⟨r18, h19, c21, s22, c23, s24, e20, hg25, rfl, rfl⟩ := am_bc_ok hf
              have hf := hg25
              refine AW_callV (As := [.int a1]) (R' := rX8_machineOf c21 s22) (T := TX8) (N := 18) (ci := 8) (okX8_apart.1 44 _ _ rfl) lkX8_machineOf kX8_128 rfl (sK hs 0) rfl (Nat.le_of_ble_eq_true rfl) ⟨(Nat.le_of_ble_eq_true rfl), (Nat.le_of_ble_eq_true rfl)⟩ ⟨show 0 + c21 ≤ Cc by omega, show 0 + s22 ≤ Ss by omega⟩ (Nat.le_of_ble_eq_true rfl) (c_X8_machineOf n a1 h15 hs c21 s22 (by omega) (by omega) e20) (fun r h' hq => ?_)
              obtain ⟨rfl, hq⟩ := hq
              replace hq := hq.symm
              subst hq
              have hs := s_X8_machineOf n a1 h15 hs e20
              refine AW_go okX8_apart 2 ?_
              obtain ⟨r26, h27, c29, s30, c31, s32, e28, hg33, rfl, rfl⟩ := am_bc_ok hf
              have hf := hg33
              refine AW_callV (As := [.int a2]) (R' := rX8_machineOf c29 s30) (T := TX8) (N := 18) (ci := 8) (okX8_apart.1 49 _ _ rfl) lkX8_machineOf kX8_128 rfl (sK hs 0) rfl (Nat.le_of_ble_eq_true rfl) ⟨(Nat.le_of_ble_eq_true rfl), (Nat.le_of_ble_eq_true rfl)⟩ ⟨show (0 + c21) + c29 ≤ Cc by omega, show (0 + s22) + s30 ≤ Ss by omega⟩ (Nat.le_of_ble_eq_true rfl) (c_X8_machineOf n a2 h19 hs c29 s30 (by omega) (by omega) e28) (fun r h' hq => ?_)
              obtain ⟨rfl, hq⟩ := hq
              replace hq := hq.symm
              subst hq
              have hs := s_X8_machineOf n a2 h19 hs e28
              obtain ⟨r34, h35, c37, s38, c39, s40, e36, hg41, rfl, rfl⟩ := am_bc_ok hf
              have hf := hg41
              refine AW_callV (As := [.ref r18, .ref r26]) (R' := rX1_tells c37 s38) (T := TX1) (N := 11) (ci := 1) (okX8_apart.1 52 _ _ rfl) lkX1_tells kX8_144 rfl (sK hs 19) rfl (Nat.le_of_ble_eq_true rfl) ⟨(Nat.le_of_ble_eq_true rfl), (Nat.le_of_ble_eq_true rfl)⟩ ⟨show ((0 + c21) + c29) + c37 ≤ Cc by omega, show ((0 + s22) + s30) + s38 ≤ Ss by omega⟩ (Nat.le_of_ble_eq_true rfl) (c_X1_tells n r18 r26 h27 hs c37 s38 (by omega) (by omega) e36) (fun r h' hq => ?_)
              obtain ⟨rfl, hq⟩ := hq
              replace hq := hq.symm
              subst hq
              have hs := s_X1_tells n r18 r26 h27 hs e36
              refine AW_go okX8_apart 1 ?_
              refine And.intro (fun c42 => ?_) (fun c42 => ?_)
              · rw [if_neg c42] at hf
                refine AW_go okX8_apart 2 ?_
                refine And.intro (fun c43 => ?_) (fun c43 => ?_)
                · rw [if_neg c43] at hf
                  refine AW_go okX8_apart 3 ?_
                  refine And.intro (fun c44 => ?_) (fun c44 => ?_)
                  · rw [if_neg c44] at hf
                    refine AW_go okX8_apart 5 ?_
                    refine And.intro (sK hs 0) (Exists.intro _ (And.intro (sA hs 0 3) ?_))
                    obtain ⟨r45, h46, e47, hf⟩ := am_b2_ok hf
                    refine AW_callV (As := [.int (a3 - (Int32.ofInt 10))]) (R' := rX1_codeAt 0 0) (T := TX1) (N := 11) (ci := 1) (okX8_apart.1 101 _ _ rfl) lkX1_codeAt kX8_158 rfl (sK hs 19) rfl (Nat.le_of_ble_eq_true rfl) ⟨(Nat.le_of_ble_eq_true rfl), (Nat.le_of_ble_eq_true rfl)⟩ ⟨show (((0 + c21) + c29) + c37) + 0 ≤ Cc by omega, show (((0 + s22) + s30) + s38) + 0 ≤ Ss by omega⟩ (Nat.le_of_ble_eq_true rfl) (c_X1_codeAt n (a3 - (Int32.ofInt 10)) h35 hs e47) (fun r h' hq => ?_)
                    obtain ⟨rfl, hq⟩ := hq
                    replace hq := hq.symm
                    subst hq
                    have hs := s_X1_codeAt n (a3 - (Int32.ofInt 10)) h35 hs e47
                    refine AW_go okX8_apart 1 ?_
                    obtain ⟨rfl, rfl, rfl, rfl⟩ := am_ic hf
                    exact And.intro ⟨show (((0 + c21) + c29) + c37) ≤ Cc by omega, show (((0 + s22) + s30) + s38) ≤ Ss by omega⟩ (And.intro (Or.inl rfl) ⟨rfl, rfl⟩)
                  · rw [if_pos c44] at hf
                    refine AW_go okX8_apart 3 ?_
                    refine And.intro (sK hs 0) (Exists.intro _ (And.intro (sA hs 0 3) ?_))
                    refine And.intro (sK hs 19) ?_
                    obtain ⟨y48, j49, hf⟩ := am_bnd hf
                    refine am_cut (P := AW mX8_apart (rX8_apart Cc Ss) (fun r h2 => r = some (.int v) ∧ h2 = h') 92 [(0, .ref 0), (1, .int a1), (2, .int a2), (3, .int a3)] [.int y48] h35 (((0 + c21) + c29) + c37) (((0 + s22) + s30) + s38)) (fun hJ49 => ?_) ?_
                    · have hs := hs
                      refine AW_go okX8_apart 1 ?_
                      refine And.intro (fun c50 => ?_) (fun c50 => ?_)
                      · rw [if_pos c50] at j49
                        refine AW_go okX8_apart 1 ?_
                        obtain rfl := am_i1 j49
                        exact AW_pick [0, 1, 2, 3] rfl hJ49
                      · rw [if_neg c50] at j49
                        refine AW_go okX8_apart 2 ?_
                        obtain rfl := am_i1 j49
                        exact AW_pick [0, 1, 2, 3] rfl hJ49
                    refine AW_go okX8_apart 1 ?_
                    obtain ⟨rfl, rfl, rfl, rfl⟩ := am_ic hf
                    exact And.intro ⟨show (((0 + c21) + c29) + c37) ≤ Cc by omega, show (((0 + s22) + s30) + s38) ≤ Ss by omega⟩ (And.intro (Or.inl rfl) ⟨rfl, rfl⟩)
                · rw [if_pos c43] at hf
                  refine AW_go okX8_apart 2 ?_
                  refine And.intro (sK hs 0) (Exists.intro _ (And.intro (sA hs 0 3) ?_))
                  obtain ⟨r101, h102, e103, hf⟩ := am_b2_ok hf
                  refine AW_callV (As := []) (R' := rX1_length 0 0) (T := TX1) (N := 11) (ci := 1) (okX8_apart.1 68 _ _ rfl) lkX1_length kX8_151 rfl (sK hs 19) rfl (Nat.le_of_ble_eq_true rfl) ⟨(Nat.le_of_ble_eq_true rfl), (Nat.le_of_ble_eq_true rfl)⟩ ⟨show (((0 + c21) + c29) + c37) + 0 ≤ Cc by omega, show (((0 + s22) + s30) + s38) + 0 ≤ Ss by omega⟩ (Nat.le_of_ble_eq_true rfl) (c_X1_length n h35 hs e103) (fun r h' hq => ?_)
                  obtain ⟨rfl, hq⟩ := hq
                  replace hq := hq.symm
                  subst hq
                  have hs := s_X1_length n h35 hs e103
                  refine AW_go okX8_apart 1 ?_
                  obtain ⟨rfl, rfl, rfl, rfl⟩ := am_ic hf
                  exact And.intro ⟨show (((0 + c21) + c29) + c37) ≤ Cc by omega, show (((0 + s22) + s30) + s38) ≤ Ss by omega⟩ (And.intro (Or.inl rfl) ⟨rfl, rfl⟩)
              · rw [if_pos c42] at hf
                refine AW_go okX8_apart 2 ?_
                obtain ⟨rfl, rfl, rfl, rfl⟩ := am_ic hf
                exact And.intro ⟨show (((0 + c21) + c29) + c37) ≤ Cc by omega, show (((0 + s22) + s30) + s38) ≤ Ss by omega⟩ (And.intro (Or.inl rfl) ⟨rfl, rfl⟩)
            · rw [if_pos c17] at hf
              refine AW_go okX8_apart 2 ?_
              obtain ⟨rfl, rfl, rfl, rfl⟩ := am_ic hf
              exact And.intro ⟨show 0 ≤ Cc by omega, show 0 ≤ Ss by omega⟩ (And.intro (Or.inl rfl) ⟨rfl, rfl⟩)
      intro hf
      refine AW_go okX8_apart 4 ?_
      refine And.intro (sK hs 0) (Exists.intro _ (And.intro (sA hs 0 3) ?_))
      obtain ⟨r104, h105, c107, s108, c109, s110, e106, hg111, rfl, rfl⟩ := am_bc_ok hf
      have hf := hg111
      refine AW_callV (As := [.int a1]) (R' := rX8_machineOf c107 s108) (T := TX8) (N := 18) (ci := 8) (okX8_apart.1 44 _ _ rfl) lkX8_machineOf kX8_128 rfl (sK hs 0) rfl (Nat.le_of_ble_eq_true rfl) ⟨(Nat.le_of_ble_eq_true rfl), (Nat.le_of_ble_eq_true rfl)⟩ ⟨show 0 + c107 ≤ Cc by omega, show 0 + s108 ≤ Ss by omega⟩ (Nat.le_of_ble_eq_true rfl) (c_X8_machineOf n a1 h6 hs c107 s108 (by omega) (by omega) e106) (fun r h' hq => ?_)
      obtain ⟨rfl, hq⟩ := hq
      replace hq := hq.symm
      subst hq
      have hs := s_X8_machineOf n a1 h6 hs e106
      refine AW_go okX8_apart 2 ?_
      obtain ⟨r112, h113, c115, s116, c117, s118, e114, hg119, rfl, rfl⟩ := am_bc_ok hf
      have hf := hg119
      refine AW_callV (As := [.int a2]) (R' := rX8_machineOf c115 s116) (T := TX8) (N := 18) (ci := 8) (okX8_apart.1 49 _ _ rfl) lkX8_machineOf kX8_128 rfl (sK hs 0) rfl (Nat.le_of_ble_eq_true rfl) ⟨(Nat.le_of_ble_eq_true rfl), (Nat.le_of_ble_eq_true rfl)⟩ ⟨show (0 + c107) + c115 ≤ Cc by omega, show (0 + s108) + s116 ≤ Ss by omega⟩ (Nat.le_of_ble_eq_true rfl) (c_X8_machineOf n a2 h105 hs c115 s116 (by omega) (by omega) e114) (fun r h' hq => ?_)
      obtain ⟨rfl, hq⟩ := hq
      replace hq := hq.symm
      subst hq
      have hs := s_X8_machineOf n a2 h105 hs e114
      obtain ⟨r120, h121, c123, s124, c125, s126, e122, hg127, rfl, rfl⟩ := am_bc_ok hf
      have hf := hg127
      refine AW_callV (As := [.ref r104, .ref r112]) (R' := rX1_tells c123 s124) (T := TX1) (N := 11) (ci := 1) (okX8_apart.1 52 _ _ rfl) lkX1_tells kX8_144 rfl (sK hs 19) rfl (Nat.le_of_ble_eq_true rfl) ⟨(Nat.le_of_ble_eq_true rfl), (Nat.le_of_ble_eq_true rfl)⟩ ⟨show ((0 + c107) + c115) + c123 ≤ Cc by omega, show ((0 + s108) + s116) + s124 ≤ Ss by omega⟩ (Nat.le_of_ble_eq_true rfl) (c_X1_tells n r104 r112 h113 hs c123 s124 (by omega) (by omega) e122) (fun r h' hq => ?_)
      obtain ⟨rfl, hq⟩ := hq
      replace hq := hq.symm
      subst hq
      have hs := s_X1_tells n r104 r112 h113 hs e122
      refine AW_go okX8_apart 1 ?_
      refine And.intro (fun c128 => ?_) (fun c128 => ?_)
      · rw [if_neg c128] at hf
        refine AW_go okX8_apart 2 ?_
        refine And.intro (fun c129 => ?_) (fun c129 => ?_)
        · rw [if_neg c129] at hf
          refine AW_go okX8_apart 3 ?_
          refine And.intro (fun c130 => ?_) (fun c130 => ?_)
          · rw [if_neg c130] at hf
            refine AW_go okX8_apart 5 ?_
            refine And.intro (sK hs 0) (Exists.intro _ (And.intro (sA hs 0 3) ?_))
            obtain ⟨r131, h132, e133, hf⟩ := am_b2_ok hf
            refine AW_callV (As := [.int (a3 - (Int32.ofInt 10))]) (R' := rX1_codeAt 0 0) (T := TX1) (N := 11) (ci := 1) (okX8_apart.1 101 _ _ rfl) lkX1_codeAt kX8_158 rfl (sK hs 19) rfl (Nat.le_of_ble_eq_true rfl) ⟨(Nat.le_of_ble_eq_true rfl), (Nat.le_of_ble_eq_true rfl)⟩ ⟨show (((0 + c107) + c115) + c123) + 0 ≤ Cc by omega, show (((0 + s108) + s116) + s124) + 0 ≤ Ss by omega⟩ (Nat.le_of_ble_eq_true rfl) (c_X1_codeAt n (a3 - (Int32.ofInt 10)) h121 hs e133) (fun r h' hq => ?_)
            obtain ⟨rfl, hq⟩ := hq
            replace hq := hq.symm
            subst hq
            have hs := s_X1_codeAt n (a3 - (Int32.ofInt 10)) h121 hs e133
            refine AW_go okX8_apart 1 ?_
            obtain ⟨rfl, rfl, rfl, rfl⟩ := am_ic hf
            exact And.intro ⟨show (((0 + c107) + c115) + c123) ≤ Cc by omega, show (((0 + s108) + s116) + s124) ≤ Ss by omega⟩ (And.intro (Or.inl rfl) ⟨rfl, rfl⟩)
          · rw [if_pos c130] at hf
            refine AW_go okX8_apart 3 ?_
            refine And.intro (sK hs 0) (Exists.intro _ (And.intro (sA hs 0 3) ?_))
            refine And.intro (sK hs 19) ?_
            obtain ⟨y134, j135, hf⟩ := am_bnd hf
            refine am_cut (P := AW mX8_apart (rX8_apart Cc Ss) (fun r h2 => r = some (.int v) ∧ h2 = h') 92 [(0, .ref 0), (1, .int a1), (2, .int a2), (3, .int a3)] [.int y134] h121 (((0 + c107) + c115) + c123) (((0 + s108) + s116) + s124)) (fun hJ135 => ?_) ?_
            · have hs := hs
              refine AW_go okX8_apart 1 ?_
              refine And.intro (fun c136 => ?_) (fun c136 => ?_)
              · rw [if_pos c136] at j135
                refine AW_go okX8_apart 1 ?_
                obtain rfl := am_i1 j135
                exact AW_pick [0, 1, 2, 3] rfl hJ135
              · rw [if_neg c136] at j135
                refine AW_go okX8_apart 2 ?_
                obtain rfl := am_i1 j135
                exact AW_pick [0, 1, 2, 3] rfl hJ135
            refine AW_go okX8_apart 1 ?_
            obtain ⟨rfl, rfl, rfl, rfl⟩ := am_ic hf
            exact And.intro ⟨show (((0 + c107) + c115) + c123) ≤ Cc by omega, show (((0 + s108) + s116) + s124) ≤ Ss by omega⟩ (And.intro (Or.inl rfl) ⟨rfl, rfl⟩)
        · rw [if_pos c129] at hf
          refine AW_go okX8_apart 2 ?_
          refine And.intro (sK hs 0) (Exists.intro _ (And.intro (sA hs 0 3) ?_))
          obtain ⟨r187, h188, e189, hf⟩ := am_b2_ok hf
          refine AW_callV (As := []) (R' := rX1_length 0 0) (T := TX1) (N := 11) (ci := 1) (okX8_apart.1 68 _ _ rfl) lkX1_length kX8_151 rfl (sK hs 19) rfl (Nat.le_of_ble_eq_true rfl) ⟨(Nat.le_of_ble_eq_true rfl), (Nat.le_of_ble_eq_true rfl)⟩ ⟨show (((0 + c107) + c115) + c123) + 0 ≤ Cc by omega, show (((0 + s108) + s116) + s124) + 0 ≤ Ss by omega⟩ (Nat.le_of_ble_eq_true rfl) (c_X1_length n h121 hs e189) (fun r h' hq => ?_)
          obtain ⟨rfl, hq⟩ := hq
          replace hq := hq.symm
          subst hq
          have hs := s_X1_length n h121 hs e189
          refine AW_go okX8_apart 1 ?_
          obtain ⟨rfl, rfl, rfl, rfl⟩ := am_ic hf
          exact And.intro ⟨show (((0 + c107) + c115) + c123) ≤ Cc by omega, show (((0 + s108) + s116) + s124) ≤ Ss by omega⟩ (And.intro (Or.inl rfl) ⟨rfl, rfl⟩)
      · rw [if_pos c128] at hf
        refine AW_go okX8_apart 2 ?_
        obtain ⟨rfl, rfl, rfl, rfl⟩ := am_ic hf
        exact And.intro ⟨show (((0 + c107) + c115) + c123) ≤ Cc by omega, show (((0 + s108) + s116) + s124) ≤ Ss by omega⟩ (And.intro (Or.inl rfl) ⟨rfl, rfl⟩)
    · rw [if_pos c8] at hf
      refine AW_go okX8_apart 2 ?_
      obtain ⟨rfl, rfl, rfl, rfl⟩ := am_ic hf
      exact And.intro ⟨show 0 ≤ Cc by omega, show 0 ≤ Ss by omega⟩ (And.intro (Or.inl rfl) ⟨rfl, rfl⟩)
def g_X8_watch : Nat → Nat → Int32 → Nat → Int32 → Int32 → Int32 → am_H → Option ((Int32 × am_H) × Nat × Nat)
  | 0, _, _, _, _, _, _, _ => none
  | n + 1, _, a1, x2r, x3i, x4i, x5i, h => (if x3i ≤ x5i then bif am_isO h x2r 3 then ((am_A h x2r 1).bind fun q3 => ((am_ln h 2 q3).bind fun n5 => (bif am_vp x4i n5 then (Option.bind ((if (am_I h q3 (Int32.toNatClampNeg x4i)) = 0 then some x3i else some (x3i + (Int32.ofInt 100)))) fun y8 => (some ((y8, h), 0, 0))) else none))) else none else am_b2 (f_X5_bookCode 1 ((Int32.ofInt 3) * x5i) h) fun r61 h62 => (am_b2 (f_X8_sortOf r61 h62) fun r64 h65 => (bif am_isO h65 x2r 3 then (am_b2 (f_X3_behind x2r x4i r64 h65) fun r68 h69 => ((if 0 ≤ r68 then g_X8_watch n 0 a1 x2r x3i r68 (x5i + Int32.ofInt 1) h69 else some ((x5i, h69), 0, 0)))) else none)))
set_option maxRecDepth 100000 in
set_option maxHeartbeats 4000000 in
theorem m_X8_watch (n : Nat) : (∀ (a1 : Int32) (x2r : Nat) (x3i : Int32) (x4i : Int32) (x5i : Int32) (h : am_H) (v : Int32) (h' : am_H) (cr sr : Nat), am_stat h → g_X8_watch n 0 a1 x2r x3i x4i x5i h = some ((v, h'), cr, sr) → am_stat h') := by
  induction n with
  | zero => exact fun a1 x2r x3i x4i x5i h v h' cr sr hs hf => (by cases hf)
  | succ n ih =>
    skip
    · intro a1 x2r x3i x4i x5i h v h' cr sr hs hf
      have hf : ((if x3i ≤ x5i then bif am_isO h x2r 3 then ((am_A h x2r 1).bind fun q3 => ((am_ln h 2 q3).bind fun n5 => (bif am_vp x4i n5 then (Option.bind ((if (am_I h q3 (Int32.toNatClampNeg x4i)) = 0 then some x3i else some (x3i + (Int32.ofInt 100)))) fun y8 => (some ((y8, h), 0, 0))) else none))) else none else am_b2 (f_X5_bookCode 1 ((Int32.ofInt 3) * x5i) h) fun r61 h62 => (am_b2 (f_X8_sortOf r61 h62) fun r64 h65 => (bif am_isO h65 x2r 3 then (am_b2 (f_X3_behind x2r x4i r64 h65) fun r68 h69 => ((if 0 ≤ r68 then g_X8_watch n 0 a1 x2r x3i r68 (x5i + Int32.ofInt 1) h69 else some ((x5i, h69), 0, 0)))) else none)))) = some ((v, h'), cr, sr) := hf
      by_cases c1 : x3i ≤ x5i
      · rw [if_pos c1] at hf
        obtain ⟨k2, hf⟩ := am_bis hf
        obtain ⟨q3, k4, hf⟩ := am_bnd hf
        obtain ⟨n5, k6, hf⟩ := am_bnd hf
        obtain ⟨b7, hf⟩ := am_bis hf
        obtain ⟨y8, j9, hf⟩ := am_bnd hf
        obtain ⟨rfl, rfl, rfl, rfl⟩ := am_ic hf
        exact hs
      · rw [if_neg c1] at hf
        obtain ⟨r61, h62, e63, hf⟩ := am_b2_ok hf
        have hs := s_X5_bookCode 1 ((Int32.ofInt 3) * x5i) h hs e63
        obtain ⟨r64, h65, e66, hf⟩ := am_b2_ok hf
        have hs := s_X8_sortOf r61 h62 hs e66
        obtain ⟨k67, hf⟩ := am_bis hf
        obtain ⟨r68, h69, e70, hf⟩ := am_b2_ok hf
        have hs := s_X3_behind x2r x4i r64 h65 hs e70
        by_cases c71 : 0 ≤ r68
        · rw [if_pos c71] at hf
          exact ih a1 x2r x3i r68 (x5i + Int32.ofInt 1) h69 _ _ cr sr hs hf
        · rw [if_neg c71] at hf
          obtain ⟨rfl, rfl, rfl, rfl⟩ := am_ic hf
          exact hs
set_option maxRecDepth 100000 in
set_option maxHeartbeats 4000000 in
theorem l_X8_watch (n : Nat) : (∀ (a1 : Int32) (x2r : Nat) (x3i : Int32) (x4i : Int32) (x5i : Int32) (h : am_H) (v : Int32) (h' : am_H) (cr sr : Nat) (Cc Ss ac sc : Nat), ac + cr ≤ Cc → sc + sr ≤ Ss → am_stat h → g_X8_watch n 0 a1 x2r x3i x4i x5i h = some ((v, h'), cr, sr) → AW mX8_watch (rX8_watch Cc Ss) (fun r h2 => r = some (.int v) ∧ h2 = h') 46 [(0, .ref 0), (1, .int a1), (2, .ref x2r), (3, .int x3i), (4, .int x4i), (5, .int x5i)] [] h ac sc) := by
  induction n with
  | zero => exact fun a1 x2r x3i x4i x5i h v h' cr sr Cc Ss ac sc hC hS hs hf => (by cases hf)
  | succ n ih =>
    skip
    · intro a1 x2r x3i x4i x5i h v h' cr sr Cc Ss ac sc hC hS hs hf
      have hf : ((if x3i ≤ x5i then bif am_isO h x2r 3 then ((am_A h x2r 1).bind fun q3 => ((am_ln h 2 q3).bind fun n5 => (bif am_vp x4i n5 then (Option.bind ((if (am_I h q3 (Int32.toNatClampNeg x4i)) = 0 then some x3i else some (x3i + (Int32.ofInt 100)))) fun y8 => (some ((y8, h), 0, 0))) else none))) else none else am_b2 (f_X5_bookCode 1 ((Int32.ofInt 3) * x5i) h) fun r61 h62 => (am_b2 (f_X8_sortOf r61 h62) fun r64 h65 => (bif am_isO h65 x2r 3 then (am_b2 (f_X3_behind x2r x4i r64 h65) fun r68 h69 => ((if 0 ≤ r68 then g_X8_watch n 0 a1 x2r x3i r68 (x5i + Int32.ofInt 1) h69 else some ((x5i, h69), 0, 0)))) else none)))) = some ((v, h'), cr, sr) := hf
      refine AW_go okX8_watch 3 ?_
      refine And.intro (fun c1 => ?_) (fun c1 => ?_)
      · rw [if_pos c1] at hf
        obtain ⟨k2, hf⟩ := am_bis hf
        obtain ⟨q3, k4, hf⟩ := am_bnd hf
        obtain ⟨n5, k6, hf⟩ := am_bnd hf
        obtain ⟨b7, hf⟩ := am_bis hf
        refine AW_go okX8_watch 4 ?_
        refine And.intro (am_isO_ok k2) (Exists.intro (some q3) (And.intro k4 ?_))
        refine Exists.intro 2 (Exists.intro n5 (And.intro (by decide) (And.intro (am_ln_ok k6) (And.intro (am_vp_ok b7) ?_))))
        obtain ⟨y8, j9, hf⟩ := am_bnd hf
        refine am_cut (P := AW mX8_watch (rX8_watch Cc Ss) (fun r h2 => r = some (.int v) ∧ h2 = h') 106 [(0, .ref 0), (1, .int a1), (2, .ref x2r), (3, .int x3i), (4, .int x4i), (5, .int x5i)] [.int y8] h ac sc) (fun hJ9 => ?_) ?_
        · have hs := hs
          refine AW_go okX8_watch 1 ?_
          refine And.intro (fun c10 => ?_) (fun c10 => ?_)
          · rw [if_pos c10] at j9
            refine AW_go okX8_watch 1 ?_
            obtain rfl := am_i1 j9
            exact AW_pick [0, 1, 2, 3, 4, 5] rfl hJ9
          · rw [if_neg c10] at j9
            refine AW_go okX8_watch 4 ?_
            obtain rfl := am_i1 j9
            exact AW_pick [0, 1, 2, 3, 4, 5] rfl hJ9
        refine AW_go okX8_watch 1 ?_
        obtain ⟨rfl, rfl, rfl, rfl⟩ := am_ic hf
        exact And.intro ⟨show ac ≤ Cc by omega, show sc ≤ Ss by omega⟩ (And.intro (Or.inl rfl) ⟨rfl, rfl⟩)
      · rw [if_neg c1] at hf
        refine AW_go okX8_watch 7 ?_
        refine And.intro (sK hs 0) (Exists.intro _ (And.intro (sA hs 0 0) ?_))
        obtain ⟨r61, h62, e63, hf⟩ := am_b2_ok hf
        refine AW_callS (As := [.ref 1, .int ((Int32.ofInt 3) * x5i)]) (R' := rX5_bookCode 0 0) (okX8_watch.1 63 _ _ rfl) lkX5_bookCode (Or.inl kX8_166) rfl (Nat.le_of_ble_eq_true rfl) ⟨(Nat.le_of_ble_eq_true rfl), (Nat.le_of_ble_eq_true rfl)⟩ ⟨show ac + 0 ≤ Cc by omega, show sc + 0 ≤ Ss by omega⟩ (Nat.le_of_ble_eq_true rfl) (c_X5_bookCode 1 ((Int32.ofInt 3) * x5i) h hs e63) (fun r h' hq => ?_)
        obtain ⟨rfl, hq⟩ := hq
        replace hq := hq.symm
        subst hq
        have hs := s_X5_bookCode 1 ((Int32.ofInt 3) * x5i) h hs e63
        obtain ⟨r64, h65, e66, hf⟩ := am_b2_ok hf
        refine AW_callS (As := [.int r61]) (R' := rX8_sortOf 0 0) (okX8_watch.1 66 _ _ rfl) lkX8_sortOf (Or.inl kX8_169) rfl (Nat.le_of_ble_eq_true rfl) ⟨(Nat.le_of_ble_eq_true rfl), (Nat.le_of_ble_eq_true rfl)⟩ ⟨show ac + 0 ≤ Cc by omega, show sc + 0 ≤ Ss by omega⟩ (Nat.le_of_ble_eq_true rfl) (c_X8_sortOf r61 h62 hs e66) (fun r h' hq => ?_)
        obtain ⟨rfl, hq⟩ := hq
        replace hq := hq.symm
        subst hq
        have hs := s_X8_sortOf r61 h62 hs e66
        obtain ⟨k67, hf⟩ := am_bis hf
        obtain ⟨r68, h69, e70, hf⟩ := am_b2_ok hf
        refine AW_callV (As := [.int x4i, .int r64]) (R' := rX3_behind 0 0) (T := TX3) (N := 3) (ci := 3) (okX8_watch.1 69 _ _ rfl) lkX3_behind kX8_172 rfl (am_isO_ok k67) rfl (Nat.le_of_ble_eq_true rfl) ⟨(Nat.le_of_ble_eq_true rfl), (Nat.le_of_ble_eq_true rfl)⟩ ⟨show ac + 0 ≤ Cc by omega, show sc + 0 ≤ Ss by omega⟩ (Nat.le_of_ble_eq_true rfl) (c_X3_behind x2r x4i r64 h65 hs e70) (fun r h' hq => ?_)
        obtain ⟨rfl, hq⟩ := hq
        replace hq := hq.symm
        subst hq
        have hs := s_X3_behind x2r x4i r64 h65 hs e70
        refine AW_go okX8_watch 3 ?_
        refine And.intro (fun c71 => ?_) (fun c71 => ?_)
        · rw [if_pos c71] at hf
          refine AW_go okX8_watch 2 ?_
          refine AW_pick (lv' := [(0, .ref 0), (1, .int a1), (2, .ref x2r), (3, .int x3i), (4, .int r68), (5, .int (x5i + Int32.ofInt 1))]) [2, 3, 4, 5, 1, 0] rfl ?_
          exact ih a1 x2r x3i r68 (x5i + Int32.ofInt 1) h69 _ _ cr sr Cc Ss ac sc (by omega) (by omega) hs hf
        · rw [if_neg c71] at hf
          refine AW_go okX8_watch 2 ?_
          obtain ⟨rfl, rfl, rfl, rfl⟩ := am_ic hf
          exact And.intro ⟨show ac ≤ Cc by omega, show sc ≤ Ss by omega⟩ (And.intro (Or.inl rfl) ⟨rfl, rfl⟩)
def f_X8_watch (n : Nat) (a1 : Int32) (h : am_H) : Option ((Int32 × am_H) × Nat × Nat) := am_b2 (f_X8_isBook a1 h) fun r1 h2 => ((if r1 = 0 then some (((Int32.ofInt (-101)), h2), 0, 0) else am_b2 (f_X5_isRowOfActs n 1 h2) fun r5 h6 => ((if r5 = 0 then some (((Int32.ofInt (-103)), h6), 0, 0) else am_bc (f_X8_machineOf n a1 h6) fun r9 h10 => (g_X8_watch n 0 a1 r9 ((am_I h10 1 1) / (Int32.ofInt 3)) (Int32.ofInt 0) (Int32.ofInt 0) h10)))))
set_option maxRecDepth 100000 in
set_option maxHeartbeats 4000000 in
theorem s_X8_watch (n : Nat) (a1 : Int32) (h : am_H) (hs : am_stat h) {v : Int32} {h' : am_H} {cr sr : Nat} (hf : f_X8_watch n a1 h = some ((v, h'), cr, sr)) : am_stat h' := by
  unfold f_X8_watch at hf
  obtain ⟨r1, h2, e3, hf⟩ := am_b2_ok hf
  have hs := s_X8_isBook a1 h hs e3
  by_cases c4 : r1 = 0
  · rw [if_pos c4] at hf
    obtain ⟨rfl, rfl, rfl, rfl⟩ := am_ic hf
    exact hs
  · rw [if_neg c4] at hf
    obtain ⟨r5, h6, e7, hf⟩ := am_b2_ok hf
    have hs := s_X5_isRowOfActs n 1 h2 hs e7
    by_cases c8 : r5 = 0
    · rw [if_pos c8] at hf
      obtain ⟨rfl, rfl, rfl, rfl⟩ := am_ic hf
      exact hs
    · rw [if_neg c8] at hf
      obtain ⟨r9, h10, c12, s13, c14, s15, e11, hg16, rfl, rfl⟩ := am_bc_ok hf
      have hf := hg16
      have hs := s_X8_machineOf n a1 h6 hs e11
      exact (m_X8_watch n) a1 r9 ((am_I h10 1 1) / (Int32.ofInt 3)) (Int32.ofInt 0) (Int32.ofInt 0) h10 _ _ c14 s15 hs hf
set_option maxRecDepth 100000 in
set_option maxHeartbeats 4000000 in
theorem c_X8_watch (n : Nat) (a1 : Int32) (h : am_H) (hs : am_stat h) {v : Int32} {h' : am_H} {cr sr : Nat} (Cc Ss : Nat) (hC : 0 + cr ≤ Cc) (hS : 0 + sr ≤ Ss) (hf : f_X8_watch n a1 h = some ((v, h'), cr, sr)) : AMet mX8_watch (rX8_watch Cc Ss) (fun r h2 => r = some (.int v) ∧ h2 = h') [.ref 0, .int a1] h := by
  unfold f_X8_watch at hf
  refine AW_go okX8_watch 2 ?_
  obtain ⟨r1, h2, e3, hf⟩ := am_b2_ok hf
  refine AW_callV (As := [.int a1]) (R' := rX8_isBook 0 0) (T := TX8) (N := 18) (ci := 8) (okX8_watch.1 2 _ _ rfl) lkX8_isBook kX8_116 rfl (sK hs 0) rfl (Nat.le_of_ble_eq_true rfl) ⟨(Nat.le_of_ble_eq_true rfl), (Nat.le_of_ble_eq_true rfl)⟩ ⟨show 0 + 0 ≤ Cc by omega, show 0 + 0 ≤ Ss by omega⟩ (Nat.le_of_ble_eq_true rfl) (c_X8_isBook a1 h hs e3) (fun r h' hq => ?_)
  obtain ⟨rfl, hq⟩ := hq
  replace hq := hq.symm
  subst hq
  have hs := s_X8_isBook a1 h hs e3
  refine AW_go okX8_watch 1 ?_
  refine And.intro (fun c4 => ?_) (fun c4 => ?_)
  · rw [if_neg c4] at hf
    refine AW_go okX8_watch 2 ?_
    refine And.intro (sK hs 0) (Exists.intro _ (And.intro (sA hs 0 0) ?_))
    obtain ⟨r5, h6, e7, hf⟩ := am_b2_ok hf
    refine AW_callS (As := [.ref 1]) (R' := rX5_isRowOfActs 0 0) (okX8_watch.1 15 _ _ rfl) lkX5_isRowOfActs (Or.inl kX8_162) rfl (Nat.le_of_ble_eq_true rfl) ⟨(Nat.le_of_ble_eq_true rfl), (Nat.le_of_ble_eq_true rfl)⟩ ⟨show 0 + 0 ≤ Cc by omega, show 0 + 0 ≤ Ss by omega⟩ (Nat.le_of_ble_eq_true rfl) (c_X5_isRowOfActs n 1 h2 hs e7) (fun r h' hq => ?_)
    obtain ⟨rfl, hq⟩ := hq
    replace hq := hq.symm
    subst hq
    have hs := s_X5_isRowOfActs n 1 h2 hs e7
    refine AW_go okX8_watch 1 ?_
    refine And.intro (fun c8 => ?_) (fun c8 => ?_)
    · rw [if_neg c8] at hf
      refine AW_go okX8_watch 2 ?_
      obtain ⟨r9, h10, c12, s13, c14, s15, e11, hg16, rfl, rfl⟩ := am_bc_ok hf
      have hf := hg16
      refine AW_callV (As := [.int a1]) (R' := rX8_machineOf c12 s13) (T := TX8) (N := 18) (ci := 8) (okX8_watch.1 26 _ _ rfl) lkX8_machineOf kX8_128 rfl (sK hs 0) rfl (Nat.le_of_ble_eq_true rfl) ⟨(Nat.le_of_ble_eq_true rfl), (Nat.le_of_ble_eq_true rfl)⟩ ⟨show 0 + c12 ≤ Cc by omega, show 0 + s13 ≤ Ss by omega⟩ (Nat.le_of_ble_eq_true rfl) (c_X8_machineOf n a1 h6 hs c12 s13 (by omega) (by omega) e11) (fun r h' hq => ?_)
      obtain ⟨rfl, hq⟩ := hq
      replace hq := hq.symm
      subst hq
      have hs := s_X8_machineOf n a1 h6 hs e11
      refine AW_go okX8_watch 11 ?_
      refine And.intro (sK hs 0) (Exists.intro _ (And.intro (sA hs 0 0) ?_))
      refine And.intro (sK hs 1) ?_
      refine And.intro (by decide) ?_
      refine AW_pick (lv' := [(0, .ref 0), (1, .int a1), (2, .ref r9), (3, .int ((am_I h10 1 1) / (Int32.ofInt 3))), (4, .int (Int32.ofInt 0)), (5, .int (Int32.ofInt 0))]) [4, 5, 3, 2, 1, 0] rfl ?_
      exact (l_X8_watch n) a1 r9 ((am_I h10 1 1) / (Int32.ofInt 3)) (Int32.ofInt 0) (Int32.ofInt 0) h10 _ _ c14 s15 Cc Ss (0 + c12) (0 + s13) (by omega) (by omega) hs hf
    · rw [if_pos c8] at hf
      refine AW_go okX8_watch 2 ?_
      obtain ⟨rfl, rfl, rfl, rfl⟩ := am_ic hf
      exact And.intro ⟨show 0 ≤ Cc by omega, show 0 ≤ Ss by omega⟩ (And.intro (Or.inl rfl) ⟨rfl, rfl⟩)
  · rw [if_pos c4] at hf
    refine AW_go okX8_watch 2 ?_
    obtain ⟨rfl, rfl, rfl, rfl⟩ := am_ic hf
    exact And.intro ⟨show 0 ≤ Cc by omega, show 0 ≤ Ss by omega⟩ (And.intro (Or.inl rfl) ⟨rfl, rfl⟩)
def f_X8_mend (n : Nat) (a1 : Int32) (h : am_H) : Option ((Int32 × am_H) × Nat × Nat) := (if a1 < 0 then some (((Int32.ofInt (-102)), h), 0, 0) else (if a1 ≤ (Int32.ofInt 2) then (if (am_I h 0 17) < (Int32.ofInt 6) then am_bc (f_X8_surveyNow n (am_sI h 0 17 ((am_I h 0 17) + (Int32.ofInt 1)))) fun r4 h5 => (bif Nat.beq r4 37 then ((if (am_I h5 37 1) = 0 then am_b2 (f_X6_isSound 37 h5) fun r15 h16 => ((if r15 = 0 then (if (am_I h16 0 14) = 0 then am_bc (f_X8_seekMend n h16) fun r21 h22 => (bif am_vp a1 3 then (some (((am_I (am_sI h22 0 14 (Int32.ofInt 1)) 49 (Int32.toNatClampNeg a1)), (am_sI h22 0 14 (Int32.ofInt 1))), 0, 0)) else none) else bif am_vp a1 3 then (some (((am_I h16 49 (Int32.toNatClampNeg a1)), h16), 0, 0)) else none) else some (((Int32.ofInt (-3)), h16), 0, 0))) else some (((Int32.ofInt (-2)), h5), 0, 0))) else none) else some (((Int32.ofInt (-103)), h), 0, 0)) else some (((Int32.ofInt (-102)), h), 0, 0)))
set_option maxRecDepth 100000 in
set_option maxHeartbeats 4000000 in
theorem s_X8_mend (n : Nat) (a1 : Int32) (h : am_H) (hs : am_stat h) {v : Int32} {h' : am_H} {cr sr : Nat} (hf : f_X8_mend n a1 h = some ((v, h'), cr, sr)) : am_stat h' := by
  unfold f_X8_mend at hf
  by_cases c1 : a1 < 0
  · rw [if_pos c1] at hf
    obtain ⟨rfl, rfl, rfl, rfl⟩ := am_ic hf
    exact hs
  · rw [if_neg c1] at hf
    by_cases c2 : a1 ≤ (Int32.ofInt 2)
    · rw [if_pos c2] at hf
      by_cases c3 : (am_I h 0 17) < (Int32.ofInt 6)
      · rw [if_pos c3] at hf
        obtain ⟨r4, h5, c7, s8, c9, s10, e6, hg11, rfl, rfl⟩ := am_bc_ok hf
        have hf := hg11
        have hs := s_X8_surveyNow n (am_sI h 0 17 ((am_I h 0 17) + (Int32.ofInt 1))) hs e6
        obtain ⟨k12, hg13⟩ := am_bis hf
        obtain rfl := Nat.eq_of_beq_eq_true k12
        have hf := hg13
        by_cases c14 : (am_I h5 37 1) = 0
        · rw [if_pos c14] at hf
          obtain ⟨r15, h16, e17, hf⟩ := am_b2_ok hf
          have hs := s_X6_isSound 37 h5 (Or.inl rfl) hs e17
          by_cases c18 : r15 = 0
          · rw [if_pos c18] at hf
            by_cases c19 : (am_I h16 0 14) = 0
            · rw [if_pos c19] at hf
              obtain ⟨r20, h21, c23, s24, c25, s26, e22, hg27, rfl, rfl⟩ := am_bc_ok hf
              have hf := hg27
              have hs := s_X8_seekMend n h16 hs e22
              obtain ⟨b28, hf⟩ := am_bis hf
              obtain ⟨rfl, rfl, rfl, rfl⟩ := am_ic hf
              exact hs
            · rw [if_neg c19] at hf
              obtain ⟨b29, hf⟩ := am_bis hf
              obtain ⟨rfl, rfl, rfl, rfl⟩ := am_ic hf
              exact hs
          · rw [if_neg c18] at hf
            obtain ⟨rfl, rfl, rfl, rfl⟩ := am_ic hf
            exact hs
        · rw [if_neg c14] at hf
          obtain ⟨rfl, rfl, rfl, rfl⟩ := am_ic hf
          exact hs
      · rw [if_neg c3] at hf
        obtain ⟨rfl, rfl, rfl, rfl⟩ := am_ic hf
        exact hs
    · rw [if_neg c2] at hf
      obtain ⟨rfl, rfl, rfl, rfl⟩ := am_ic hf
      exact hs
set_option maxRecDepth 100000 in
set_option maxHeartbeats 4000000 in
theorem c_X8_mend (n : Nat) (a1 : Int32) (h : am_H) (hs : am_stat h) {v : Int32} {h' : am_H} {cr sr : Nat} (Cc Ss : Nat) (hC : 0 + cr ≤ Cc) (hS : 0 + sr ≤ Ss) (hf : f_X8_mend n a1 h = some ((v, h'), cr, sr)) : AMet mX8_mend (rX8_mend Cc Ss) (fun r h2 => r = some (.int v) ∧ h2 = h') [.ref 0, .int a1] h := by
  unfold f_X8_mend at hf
  refine AW_go okX8_mend 2 ?_
  refine And.intro (fun c1 => ?_) (fun c1 => ?_)
  · rw [if_pos c1] at hf
    refine AW_go okX8_mend 2 ?_
    obtain ⟨rfl, rfl, rfl, rfl⟩ := am_ic hf
    exact And.intro ⟨show 0 ≤ Cc by omega, show 0 ≤ Ss by omega⟩ (And.intro (Or.inl rfl) ⟨rfl, rfl⟩)
  · rw [if_neg c1] at hf
    refine AW_go okX8_mend 3 ?_
    refine And.intro (fun c2 => ?_) (fun c2 => ?_)
    · rw [if_pos c2] at hf
      refine AW_go okX8_mend 4 ?_
      refine And.intro (sK hs 0) ?_
      refine And.intro (fun c3 => ?_) (fun c3 => ?_)
      · rw [if_pos c3] at hf
        refine AW_go okX8_mend 7 ?_
        refine And.intro (sK hs 0) ?_
        refine And.intro (sK hs 0) ?_
        obtain ⟨r4, h5, c7, s8, c9, s10, e6, hg11, rfl, rfl⟩ := am_bc_ok hf
        have hf := hg11
        refine AW_callV (As := []) (R' := rX8_surveyNow c7 s8) (T := TX8) (N := 18) (ci := 8) (okX8_mend.1 35 _ _ rfl) lkX8_surveyNow kX8_242 rfl (sK hs 0) rfl (Nat.le_of_ble_eq_true rfl) ⟨(Nat.le_of_ble_eq_true rfl), (Nat.le_of_ble_eq_true rfl)⟩ ⟨show 0 + c7 ≤ Cc by omega, show 0 + s8 ≤ Ss by omega⟩ (Nat.le_of_ble_eq_true rfl) (c_X8_surveyNow n (am_sI h 0 17 ((am_I h 0 17) + (Int32.ofInt 1))) hs c7 s8 (by omega) (by omega) e6) (fun r h' hq => ?_)
        obtain ⟨rfl, hq⟩ := hq
        replace hq := hq.symm
        subst hq
        have hs := s_X8_surveyNow n (am_sI h 0 17 ((am_I h 0 17) + (Int32.ofInt 1))) hs e6
        obtain ⟨k12, hg13⟩ := am_bis hf
        obtain rfl := Nat.eq_of_beq_eq_true k12
        have hf := hg13
        refine AW_go okX8_mend 4 ?_
        refine And.intro (sK hs 37) ?_
        refine And.intro (fun c14 => ?_) (fun c14 => ?_)
        · rw [if_pos c14] at hf
          refine AW_go okX8_mend 1 ?_
          obtain ⟨r15, h16, e17, hf⟩ := am_b2_ok hf
          refine AW_callV (As := []) (R' := rX6_isSound 0 0) (T := TX6) (N := 15) (ci := 6) (okX8_mend.1 50 _ _ rfl) lkX6_isSound kX8_272 rfl (sK hs 37) rfl (Nat.le_of_ble_eq_true rfl) ⟨(Nat.le_of_ble_eq_true rfl), (Nat.le_of_ble_eq_true rfl)⟩ ⟨show (0 + c7) + 0 ≤ Cc by omega, show (0 + s8) + 0 ≤ Ss by omega⟩ (Nat.le_of_ble_eq_true rfl) (c_X6_isSound 37 h5 (Or.inl rfl) hs e17) (fun r h' hq => ?_)
          obtain ⟨rfl, hq⟩ := hq
          replace hq := hq.symm
          subst hq
          have hs := s_X6_isSound 37 h5 (Or.inl rfl) hs e17
          refine AW_go okX8_mend 1 ?_
          refine And.intro (fun c18 => ?_) (fun c18 => ?_)
          · rw [if_pos c18] at hf
            refine AW_go okX8_mend 3 ?_
            refine And.intro (sK hs 0) ?_
            refine And.intro (fun c19 => ?_) (fun c19 => ?_)
            · rw [if_neg c19] at hf
              obtain ⟨b20, hf⟩ := am_bis hf
              refine AW_go okX8_mend 5 ?_
              refine And.intro (sK hs 0) (Exists.intro _ (And.intro (sA hs 0 15) ?_))
              refine Exists.intro 3 (And.intro (sK hs 49) (And.intro (am_vp_ok b20) ?_))
              obtain ⟨rfl, rfl, rfl, rfl⟩ := am_ic hf
              exact And.intro ⟨show (0 + c7) ≤ Cc by omega, show (0 + s8) ≤ Ss by omega⟩ (And.intro (Or.inl rfl) ⟨rfl, rfl⟩)
            · rw [if_pos c19] at hf
              refine AW_go okX8_mend 1 ?_
              obtain ⟨r21, h22, c24, s25, c26, s27, e23, hg28, rfl, rfl⟩ := am_bc_ok hf
              have hf := hg28
              refine AW_callV (As := []) (R' := rX8_seekMend c24 s25) (T := TX8) (N := 18) (ci := 8) (okX8_mend.1 67 _ _ rfl) lkX8_seekMend kX8_279 rfl (sK hs 0) rfl (Nat.le_of_ble_eq_true rfl) ⟨(Nat.le_of_ble_eq_true rfl), (Nat.le_of_ble_eq_true rfl)⟩ ⟨show (0 + c7) + c24 ≤ Cc by omega, show (0 + s8) + s25 ≤ Ss by omega⟩ (Nat.le_of_ble_eq_true rfl) (c_X8_seekMend n h16 hs c24 s25 (by omega) (by omega) e23) (fun r h' hq => ?_)
              obtain ⟨rfl, hq⟩ := hq
              replace hq := hq.symm
              subst hq
              have hs := s_X8_seekMend n h16 hs e23
              obtain ⟨b29, hf⟩ := am_bis hf
              refine AW_go okX8_mend 8 ?_
              refine And.intro (Or.inr rfl) (And.intro (sK hs 0) ?_)
              refine And.intro (sK hs 0) (Exists.intro _ (And.intro (sA hs 0 15) ?_))
              refine Exists.intro 3 (And.intro (sK hs 49) (And.intro (am_vp_ok b29) ?_))
              obtain ⟨rfl, rfl, rfl, rfl⟩ := am_ic hf
              exact And.intro ⟨show ((0 + c7) + c24) ≤ Cc by omega, show ((0 + s8) + s25) ≤ Ss by omega⟩ (And.intro (Or.inl rfl) ⟨rfl, rfl⟩)
          · rw [if_neg c18] at hf
            refine AW_go okX8_mend 2 ?_
            obtain ⟨rfl, rfl, rfl, rfl⟩ := am_ic hf
            exact And.intro ⟨show (0 + c7) ≤ Cc by omega, show (0 + s8) ≤ Ss by omega⟩ (And.intro (Or.inl rfl) ⟨rfl, rfl⟩)
        · rw [if_neg c14] at hf
          refine AW_go okX8_mend 2 ?_
          obtain ⟨rfl, rfl, rfl, rfl⟩ := am_ic hf
          exact And.intro ⟨show (0 + c7) ≤ Cc by omega, show (0 + s8) ≤ Ss by omega⟩ (And.intro (Or.inl rfl) ⟨rfl, rfl⟩)
      · rw [if_neg c3] at hf
        refine AW_go okX8_mend 2 ?_
        obtain ⟨rfl, rfl, rfl, rfl⟩ := am_ic hf
        exact And.intro ⟨show 0 ≤ Cc by omega, show 0 ≤ Ss by omega⟩ (And.intro (Or.inl rfl) ⟨rfl, rfl⟩)
    · rw [if_neg c2] at hf
      refine AW_go okX8_mend 2 ?_
      obtain ⟨rfl, rfl, rfl, rfl⟩ := am_ic hf
      exact And.intro ⟨show 0 ≤ Cc by omega, show 0 ≤ Ss by omega⟩ (And.intro (Or.inl rfl) ⟨rfl, rfl⟩)
