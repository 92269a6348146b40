/-! ===== calls about all states ===== -/
theorem frQ_9 {h h' : am_H} {cap qs qn qs' qn' : Nat} (g : GR h 37 cap qs qn) (f : frQ qs qn qs' qn' h h') : same9 h h' := by
  obtain ⟨ga, gb, la, lb, h98⟩ := gr_at g
  intro p a b
  exact ⟨f.2.2.2.2.1 p (by omega) (by omega) (by omega) (by omega) (by omega) (by omega) (by omega), f.2.1 p (by omega) (by omega) (by omega)⟩
theorem fill_eq {w : Nat → Nat} {n t p : Nat} (h : p < n) : (fun q => if q < n then w q else t) p = w p := if_pos h
/-- all states have been gone through -/
theorem X8_Q {h h' : am_H} {S : PS} {c sl : Nat} (x : X8 h S c sl) (F : Nat) (hF : 500000000 ≤ F) (ok : PSok S) : ∃ h' c1 z1 cap qs qn, f_X8_surveyNow F h = some ((37, h'), c1, z1) ∧ X8 h' S (c + c1) (sl + z1) ∧ D8m h' S.r S.sd cap qs qn ∧ same9 h h' := by
  obtain ⟨w, ba, cf, qf, cc, qc, c3, a3, b3, st, t, bk, on, tk, rw8, sv, co⟩ := x
  obtain ⟨h1, cap, qs, qn, c1, z1, e1, u1, g1, d1, f1, w1, w2, w3⟩ := sn_8 (PS_all ok) st tk.1 sv.1 F hF
  have st1 := s_X8_surveyNow F h st e1
  have g3 := sv.1.1
  obtain ⟨ga, gb, la, lb, h98⟩ := gr_at g3
  have f1' := f1
  obtain ⟨⟨x1, xk⟩, x2, x3, x4, x5, x6, x7, x8, x9⟩ := f1
  obtain ⟨⟨r1, r2, r3⟩, ⟨r4, r5, r6⟩, ⟨r7, r8, r9⟩, r13⟩ := rw8
  have fz : frFz w (fun q => if q < h.1 then w q else 3) h h1 := ⟨x1, fun p z => by
    have p1 := z.1
    have p2 := z.2.1
    have p3 := z.2.2
    exact ⟨by rw [fill_eq p2]; exact p3, xk p p2, x5 p p2 (by omega) (by omega) (by omega) (by omega) (fun e => by rw [e, r8] at p3; cases p3) (fun e => by rw [e, r9] at p3; cases p3), x3 p p2 (by omega)⟩⟩
  have i : ∀ p, p ≠ 0 → p < 37 → p ≠ 28 → p ≠ 31 → am_I h1 p = am_I h p := fun p a b d e => x5 p (by omega) a (by omega) d e (by omega) (by omega)
  obtain ⟨bk', gm⟩ := BK8_f fz bk (x6 5 (by decide)) (x3 25 (by omega) (by decide))
  obtain ⟨k0, k1, k2, k3, k4⟩ := tk
  refine ⟨h1, c1, z1, cap, qs, qn, e1, ⟨(fun q => if q < h.1 then w q else 3), ba, cf, qf, cc, qc, cap, qs, qn, st1, tx8_c t (xk 1 (by omega)) (xk 2 (by omega)) (i 1 (by decide) (by decide) (by decide) (by decide)) (i 2 (by decide) (by decide) (by decide) (by decide)) (x3 1 (by omega) (by decide)), bk', ON8_f fz on (x6 7 (by decide)) (x3 26 (by omega) (by decide)), ⟨u1, by rw [i 27 (by decide) (by decide) (by decide) (by decide)]; exact k1, by rw [i 30 (by decide) (by decide) (by decide) (by decide)]; exact k2, by rw [x6 11 (by decide)]; exact k3, by rw [x6 17 (by decide)]; exact k4⟩, ⟨⟨FR_g r1 x1 xk (x3 12 (by omega) (by decide)), r2, fun k a b => ?_⟩, ⟨CR_g r4 x1 xk (x3 19 (by omega) (by decide)), r5, fun k a b => ?_⟩, ⟨g1, ?_, ?_⟩, fun p hp => ?_⟩, ⟨⟨g1, Or.inr d1⟩, ?_⟩, ?_⟩, d1, frQ_9 g3 f1'⟩
  · rw [fill_eq (r1.1 k a b).2.1]; exact r3 k a b
  · rw [fill_eq (r4.1 k a b).2.1]; exact r6 k a b
  · rcases x8 with e | e
    · rw [e, fill_eq la]; exact r8
    · exact if_neg (by omega)
  · rcases x9 with e | e
    · rw [e, fill_eq lb]; exact r9
    · exact if_neg (by omega)
  · rw [fill_eq (show p < h.1 by omega)]; exact r13 p hp
  · rw [x6 14 (by decide)]
    rcases sv.2 with m | ⟨m1, m2⟩
    · exact Or.inl m
    · exact Or.inr ⟨m1, fun v hv => by rw [x5 49 (by omega) (by decide) (by omega) (by decide) (by decide) (by omega) (by omega)]; exact m2 v hv⟩
  · rw [gm]
    obtain ⟨o1, o2⟩ := co
    exact ⟨by omega, by omega⟩
/-- both sides behind a call that may make cells -/
theorem JJ_ofc {h1 h2 : am_H} {S : PS} {c sl : Nat} (ok : PSok S) (x8 : X8 h1 S c sl) (f : same8 h1 h2) (x9 : X9p h2 S) : c ≤ 600000 ∧ sl ≤ 7302250 ∧ JJ h2 c sl := JJ_of ok x8 f x9
/-- enough -/
theorem big_F : ∃ F : Nat, 1000000000000 ≤ F := ⟨_, Nat.le_refl _⟩
theorem cl_25 {h : am_H} {c sl : Nat} (J : JJ h c sl) : am_stat h ∧ po_25 JJ h c sl := by
  obtain ⟨S, ok, x8, x9⟩ := J
  obtain ⟨F, hF⟩ := big_F
  obtain ⟨h1, c1, z1, cap, qs, qn, e1, x81, d1, s1⟩ := X8_Q (h' := h) x8 F (by omega) ok
  have x91 := X9_loc x9 (X8_st x81) s1
  obtain ⟨h2, e2, u2, m2, f2⟩ := me_9 (PS_all ok) (X9_U ok x91) x91.2.2.2 F (by omega)
  refine ⟨X8_st x8, F, F, _, h1, h2, c1, z1, ?_, e2, JJ_of ok x81 (same8_A f2) (X9_A x91 f2 u2 m2)⟩
  unfold f_X8_met
  rw [e1, bcs, q37, cond_true, me_8 d1, cts]
  rfl
theorem cl_24 (a1 : Int32) {h : am_H} {c sl : Nat} (J : JJ h c sl) : am_stat h ∧ po_24 a1 JJ h c sl := by
  obtain ⟨S, ok, x8, x9⟩ := J
  obtain ⟨F, hF⟩ := big_F
  refine ⟨X8_st x8, ?_⟩
  rcases in_89 a1 (n := 5) (by decide) with ⟨w, hw, rfl, c1, c2, c3, wi⟩ | ⟨cc, wi⟩
  · have wi : ∀ h, f_X9_within (nI w) (Int32.ofInt 0) (Int32.ofInt 4) h = some (bI true, h) := wi
    by_cases w3 : w = 3
    · subst w3
      obtain ⟨h1, c1', z1, cap, qs, qn, e1, x81, d1, s1⟩ := X8_Q (h' := h) x8 F (by omega) ok
      have x91 := X9_loc x9 (X8_st x81) s1
      have rc := ok.2.2.2.2.2.2.2.2.1
      obtain ⟨h2, e2, u2, m2, f2⟩ := nw_9 (PS_all ok) (X9_U ok x91) x91.2.2.2 rc F (by omega)
      refine ⟨F, F, nwV S.r S.sd S.s, h1, h2, c1', z1, ?_, e2, JJ_of ok x81 (same8_A f2) (X9_A x91 f2 u2 m2)⟩
      unfold f_X8_now
      rw [if_neg c1, if_pos (show nI 3 < Int32.ofInt 5 from c2), if_pos (show nI 3 = Int32.ofInt 3 from rfl), e1, bcs, q37, cond_true, nw_8 (PS_all ok) (X8_tk x81).1 d1 rc F (by omega), cts]
      rfl
    · have n3 : ¬ nI w = Int32.ofInt 3 := fun e => w3 ((nI_inj (a := w) (b := 3) (by omega) (by decide)).mp e)
      obtain ⟨h1, e1, l1, x81, f1, len⟩ := li_8F ok x8 F (by omega)
      have x91 := X9_loc x9 (X8_st x81) (frY_9 f1)
      have sk := (PS_sk ok).1
      have mk := mk_8 (F - 19) (PS_all ok).1 (X8_tk x81).1.1 sk (X8_tk x81).1.2.1 (fun p hp => (PS_all ok).2.2 p _ hp (sk.1 p hp)) len
      rw [show F - 19 + 19 = F from by omega] at mk
      obtain ⟨h2, e2, -, f2⟩ := is_9 (PS_all ok).1 sk (X9_U ok x91).1 (X9_U ok x91).2.1 (X9_U ok x91).2.2.1 (fun p hp => (PS_all ok).2.2 p _ hp (sk.1 p hp)) hw w3 F (by omega)
      refine ⟨F, F, bI (tIs S.r S.sd S.s w), h1, h2, 0, 0, ?_, ?_, JJ_of ok x81 (same8_S f2) (X9_S x91 f2)⟩
      · unfold f_X8_now
        have eJ : am_J h 0 10 = lL (S.r.N S.s) := (X8_tk x8).1.2.2
        rw [if_neg c1, if_pos (show nI w < Int32.ofInt 5 from c2), if_neg n3, e1, b2s, eJ, mk, b2s, mk_bits S.r S.sd S.s hw w3]
      · unfold f_X9_now
        rw [wi, b2s, if_neg (show ¬ bI true = 0 by decide), if_neg n3, e2, b2s]
        cases tIs S.r S.sd S.s w <;> rfl
  · have wi : f_X9_within a1 (Int32.ofInt 0) (Int32.ofInt 4) h = some (bI false, h) := wi h
    refine ⟨0, 0, Int32.ofInt (-102), h, h, 0, 0, ?_, ?_, JJ_ro ok x8 x9⟩
    · unfold f_X8_now
      rcases cc with cc | ⟨c1, c2, c3⟩
      · rw [if_pos cc]
      · rw [if_neg c1, if_neg (show ¬ a1 < Int32.ofInt 5 from c2)]
    · unfold f_X9_now
      rw [wi, b2s, if_pos (show bI false = 0 from rfl)]
theorem cl_27 (a1 a2 : Int32) {h : am_H} {c sl : Nat} (J : JJ h c sl) : am_stat h ∧ po_27 a1 a2 JJ h c sl := by
  obtain ⟨S, ok, x8, x9⟩ := J
  obtain ⟨F, hF⟩ := big_F
  refine ⟨X8_st x8, ?_⟩
  rcases po_89 a1 a2 with ⟨f, t, hf, ht, ne, rfl, rfl, e⟩ | e
  · obtain ⟨h1, c1, z1, cap, qs, qn, e1, x81, d1, s1⟩ := X8_Q (h' := h) x8 F (by omega) ok
    have x91 := X9_loc x9 (X8_st x81) s1
    obtain ⟨h2, e2, u2, m2, f2⟩ := mo_9b (PS_all ok) (X9_U ok x91) x91.2.2.2 hf ht ne F (by omega)
    refine ⟨F, F, moV S.r (pn f t), h1, h2, c1, z1, ?_, ?_, JJ_of ok x81 (same8_A f2) (X9_A x91 f2 u2 m2)⟩
    · unfold f_X8_most
      rw [(e h).1, b2s, if_neg (show ¬ bI true = 0 by decide), e1, bcs, q37, cond_true, D8m_1 d1]
      unfold moV
      rcases sp_cases S.r with sp | sp
      · rw [sp, if_neg (show ¬ bI true = 0 by decide), b2s, cts]; rfl
      · rw [sp, if_pos (show bI false = 0 from rfl), pn_8 hf ht ne, b2s, mo_8 (PS_all ok) (pn_lt hf ht ne) (X8_tk x81).1 d1 sp F (by omega), b2s, b2s, cts]; rfl
    · unfold f_X9_most
      rw [(e h1).2, b2s, if_neg (show ¬ bI true = 0 by decide)]
      exact e2
  · refine ⟨0, 0, Int32.ofInt (-101), h, h, 0, 0, ?_, ?_, JJ_ro ok x8 x9⟩
    · unfold f_X8_most
      rw [(e h).1, b2s, if_pos (show bI false = 0 from rfl)]
    · unfold f_X9_most
      rw [(e h).2, b2s, if_pos (show bI false = 0 from rfl)]
