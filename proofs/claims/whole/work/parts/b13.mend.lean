/-! ===== mend: both ===== -/
theorem X8_15 {h : am_H} {S : PS} {c sl : Nat} (x : X8 h S c sl) : am_I h 0 14 = nI 0 ∨ (am_I h 0 14 = nI 1 ∧ MD h (mdO S.r S.sd S.na 3)) := by
  obtain ⟨w, ba, cf, qf, cc, qc, c3, a3, b3, st, t, bk, on, tk, rw8, sv, co⟩ := x
  exact sv.2
theorem cl_28 (a1 : Int32) {h : am_H} {c sl : Nat} (J : JJ h c sl) : am_stat h ∧ po_28 a1 JJ h c sl := by
  obtain ⟨S, ok, x8, x9⟩ := J
  obtain ⟨F, hF⟩ := big_F
  refine ⟨X8_st x8, ?_⟩
  rcases in_89 a1 (n := 3) (by decide) with ⟨w, hw, rfl, c1, c2, c3, wi⟩ | ⟨cc, wi⟩
  · have wi : ∀ h, f_X9_within (nI w) (Int32.ofInt 0) (Int32.ofInt 2) h = some (bI true, h) := wi
    have le2 : nI w ≤ Int32.ofInt 2 := nI_le (b := 2) (by omega) (by decide)
    have e17 : am_I h 0 17 = nI S.mc := (X8_tk x8).2.2.2.2
    have e13r : am_I h 51 13 = nI S.mc := x9.2.2.1.2.2.2.2
    have m6 : S.mc ≤ 6 := ok.2.2.2.2.2.2.2.2.2.1
    by_cases cm : S.mc < 6
    · have ok' : PSok (S.md (S.mc + 1)) := PSok_md ok (by omega)
      have x80 := X8_md x8 (S.mc + 1)
      obtain ⟨h1, cc1, z1, cap, qs, qn, e1, x81, d1, s1⟩ := X8_Q (h' := h) x80 F (by omega) ok'
      have lt6 : nI S.mc < Int32.ofInt 6 := (nI_ltI (a := S.mc) (b := 6) (by omega) (by decide)).mpr cm
      have ne6 : ¬ nI S.mc = Int32.ofInt 6 := fun e => by have := (nI_inj (a := S.mc) (b := 6) (by omega) (by decide)).mp e; omega
      have hd8 : ∀ X, am_cost cc1 z1 (if (am_I h1 37 1) = 0 then am_b2 (f_X6_isSound 37 h1) fun r15 h16 => ((if r15 = 0 then (if (am_I h16 0 14) = 0 then am_bc (f_X8_seekMend F h16) fun r21 h22 => (bif am_vp (nI w) 3 then (some (((am_I (am_sI h22 0 14 (Int32.ofInt 1)) 49 (Int32.toNatClampNeg (nI w))), (am_sI h22 0 14 (Int32.ofInt 1))), 0, 0)) else none) else bif am_vp (nI w) 3 then (some (((am_I h16 49 (Int32.toNatClampNeg (nI w))), h16), 0, 0)) else none) else some (((Int32.ofInt (-3)), h16), 0, 0))) else some (((Int32.ofInt (-2)), h1), 0, 0)) = X → f_X8_mend F (nI w) h = X := by
        intro X hX
        unfold f_X8_mend
        rw [if_neg c1, if_pos le2, e17, if_pos lt6, hp_1, e1, bcs, q37, cond_true]
        exact hX
      rw [D8m_1 d1] at hd8
      have vw : am_vp (nI w) 3 = true := hp_vp hw (by decide)
      have cw : Int32.toNatClampNeg (nI w) = w := nI_clamp (by omega)
      -- the reference, from any heap that the class leaves
      have ref : ∀ g, X9p g S → ∃ v g', f_X9_mend F (nI w) g = some (v, g') ∧ X9p g' (S.md (S.mc + 1)) ∧ same8 g g' ∧ v = (bif (svAll S.r).sp then Int32.ofInt (-2) else bif uD (wellT S.r S.sd) then Int32.ofInt (-3) else tripI (mdO S.r S.sd S.na 3) w) := by
        intro g xg
        have xg1 := K9_md xg (S.mc + 1)
        obtain ⟨g2, e2, u2, m2, f2⟩ := we_9 (PS_all ok') (X9_U ok' xg1) xg1.2.2.2 F (by omega)
        have xg2 := X9_A xg1 f2 u2 m2
        have sg2 : same8 g g2 := same8_t (same8_62 _ _ _) (same8_A f2)
        have hd : ∀ X, (if (am_I g2 51 51) = 0 then (if bI (uD (wellT S.r S.sd)) = 0 then am_b2 (f_X9_asState F g2) fun r11 h12 => (g_X9_mend F 0 (nI w) (bI (uD (wellT S.r S.sd))) r11 (Int32.ofInt (-1)) (Int32.ofInt 0) 0 0 h12) else some ((Int32.ofInt (-3)), g2)) else some ((Int32.ofInt (-2)), g2)) = X → f_X9_mend F (nI w) g = X := by
          intro X hX
          have e2 : f_X9_isWell F (am_sI g 51 13 (nI (S.mc + 1))) = some (bI (uD (wellT S.r S.sd)), g2) := e2
          unfold f_X9_mend
          rw [wi, b2s, if_neg (show ¬ bI true = 0 by decide), xg.2.2.1.2.2.2.2, if_neg ne6, hp_1, e2, b2s]
          exact hX
        have m51 : am_I g2 51 51 = bI (svAll S.r).sp := C9m_51 m2
        rw [m51] at hd
        rcases sp_cases S.r with sp | sp
        · rw [sp] at hd ⊢
          exact ⟨Int32.ofInt (-2), g2, hd _ (by rw [if_neg (show ¬ bI true = 0 by decide)]), xg2, sg2, rfl⟩
        · rw [sp] at hd ⊢
          cases hwl : uD (wellT S.r S.sd) with
          | true =>
            rw [hwl] at hd
            exact ⟨Int32.ofInt (-3), g2, hd _ (by rw [if_pos (show bI false = 0 from rfl), if_neg (show ¬ bI true = 0 by decide)]), xg2, sg2, rfl⟩
          | false =>
            rw [hwl] at hd
            have p2 := K9_P ok' xg2.2.1 xg2.2.2.1
            have a2 := as_st (F - 20) (T9_W u2.1) (sk_w u2.2.2.2)
            rw [show F - 20 + 20 = F from by omega] at a2
            obtain ⟨g3, e3, u3, e40, e52, -, f3⟩ := md0_9 (PS_all ok') hw (bI false) 3 (Nat.le_refl _) g2 F (by omega) p2
            exact ⟨_, g3, hd _ (by rw [if_pos (show bI false = 0 from rfl), if_pos (show bI false = 0 from rfl), a2, b2s]; exact e3), X9_M xg2 f3 u3 e40 e52, same8_t sg2 (same8_M f3), rfl⟩
      -- the class
      have cls : ∃ v h2 c2 z2, f_X8_mend F (nI w) h = some ((v, h2), c2, z2) ∧ X8 h2 (S.md (S.mc + 1)) (c + c2) (sl + z2) ∧ same9 h h2 ∧ v = (bif (svAll S.r).sp then Int32.ofInt (-2) else bif uD (wellT S.r S.sd) then Int32.ofInt (-3) else tripI (mdO S.r S.sd S.na 3) w) := by
        have s01 : same9 h h1 := same9_t (fun p a b => ⟨hp_I' _ _ _ (by omega), rfl⟩) s1
        have hd8 : ∀ X, am_cost cc1 z1 (if bI (svAll S.r).sp = 0 then am_b2 (f_X6_isSound 37 h1) fun r15 h16 => ((if r15 = 0 then (if (am_I h16 0 14) = 0 then am_bc (f_X8_seekMend F h16) fun r21 h22 => (bif am_vp (nI w) 3 then (some (((am_I (am_sI h22 0 14 (Int32.ofInt 1)) 49 (Int32.toNatClampNeg (nI w))), (am_sI h22 0 14 (Int32.ofInt 1))), 0, 0)) else none) else bif am_vp (nI w) 3 then (some (((am_I h16 49 (Int32.toNatClampNeg (nI w))), h16), 0, 0)) else none) else some (((Int32.ofInt (-3)), h16), 0, 0))) else some (((Int32.ofInt (-2)), h1), 0, 0)) = X → f_X8_mend F (nI w) h = X := hd8
        rcases sp_cases S.r with sp | sp
        · rw [sp] at hd8 ⊢
          exact ⟨Int32.ofInt (-2), h1, cc1 + 0, z1 + 0, hd8 _ (by rw [if_neg (show ¬ bI true = 0 by decide), cts]), x81, s01, rfl⟩
        · have so : f_X6_isSound 37 h1 = some (bI (uD (wellT S.r S.sd)), h1) := so_8 (PS_all ok') (D8m_x d1 sp) sp
          rw [sp, so] at hd8
          rw [sp]
          cases hwl : uD (wellT S.r S.sd) with
          | true =>
            rw [hwl] at hd8
            exact ⟨Int32.ofInt (-3), h1, cc1 + 0, z1 + 0, hd8 _ (by rw [if_pos (show bI false = 0 from rfl), b2s, if_neg (show ¬ bI true = 0 by decide), cts]), x81, s01, rfl⟩
          | false =>
            rw [hwl] at hd8
            have nwl : ¬ wellT S.r S.sd := fun q => by rw [uD_i q] at hwl; cases hwl
            rcases X8_15 x81 with z15 | ⟨o15, md⟩
            · obtain ⟨h2, c2, z2, e2, x82, md2, s2⟩ := sm_8m ok' x81 sp nwl d1.1 F (by omega)
              have md2 : MD h2 (mdO S.r S.sd S.na 3) := md2
              refine ⟨tripI (mdO S.r S.sd S.na 3) w, am_sI h2 0 14 (Int32.ofInt 1), cc1 + (c2 + 0), z1 + (z2 + 0), hd8 _ ?_, ?_, same9_t s01 s2, rfl⟩
              · rw [if_pos (show bI false = 0 from rfl), b2s, if_pos (show bI false = 0 from rfl), if_pos (show am_I h1 0 14 = 0 from z15), e2, bcs, vw, cond_true, cw, hp_I' _ _ _ (by decide), md2 w hw, cts, cts]
              · show X8 _ _ (c + (cc1 + c2)) (sl + (z1 + z2))
                rw [← Nat.add_assoc, ← Nat.add_assoc]; exact x82
            · have md : MD h1 (mdO S.r S.sd S.na 3) := md
              refine ⟨tripI (mdO S.r S.sd S.na 3) w, h1, cc1 + 0, z1 + 0, hd8 _ ?_, x81, s01, rfl⟩
              rw [if_pos (show bI false = 0 from rfl), b2s, if_pos (show bI false = 0 from rfl), if_neg (show ¬ am_I h1 0 14 = 0 by rw [o15]; decide), vw, cond_true, cw, md w hw, cts]
      obtain ⟨v, h2, c2, z2, e8, x82, s9, ev⟩ := cls
      obtain ⟨v', h3, e9, x93, s8, ev'⟩ := ref h2 (X9_loc x9 (X8_st x82) s9)
      rw [ev', ← ev] at e9
      exact ⟨F, F, v, h2, h3, c2, z2, e8, e9, JJ_of ok' x82 s8 x93⟩
    · have m6' : S.mc = 6 := by omega
      refine ⟨0, 0, Int32.ofInt (-103), h, h, 0, 0, ?_, ?_, JJ_ro ok x8 x9⟩
      · unfold f_X8_mend
        rw [if_neg c1, if_pos le2, e17, m6', if_neg (show ¬ nI 6 < Int32.ofInt 6 by decide)]
      · unfold f_X9_mend
        rw [wi, b2s, if_neg (show ¬ bI true = 0 by decide), e13r, m6', if_pos (show nI 6 = Int32.ofInt 6 from rfl)]
  · have wi : f_X9_within a1 (Int32.ofInt 0) (Int32.ofInt 2) h = some (bI false, h) := wi h
    refine ⟨0, 0, Int32.ofInt (-102), h, h, 0, 0, ?_, ?_, JJ_ro ok x8 x9⟩
    · unfold f_X8_mend
      rcases cc with cc | ⟨c1, c2, c3⟩
      · rw [if_pos cc]
      · rw [if_neg c1, if_neg (show ¬ a1 ≤ Int32.ofInt 2 from fun q => c2 (Int32.lt_of_le_of_lt q (show Int32.ofInt 2 < nI 3 by decide)))]
    · unfold f_X9_mend
      rw [wi, b2s, if_pos (show bI false = 0 from rfl)]
