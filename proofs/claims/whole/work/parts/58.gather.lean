/-! ===== gathering: items, acts, braces of the class ===== -/
theorem fr8_R {h h1 : am_H} (a : fr8 h h1) {o : Nat} (f : Nat → Int32) (h3 : 3 ≤ o) (h11 : o ≤ 11) : fr8 h (am_sR h1 o f) := ⟨a.1, a.2.1, a.2.2.1, a.2.2.2.1, fun q hq => by rw [hp_IR' _ _ (by omega)]; exact a.2.2.2.2 q hq⟩
theorem g8_join {h : am_H} {s : GS} (g : G8 h s) (hn : s.n ≤ 15) (F : Nat) (hF : 20 ≤ F) (a1 a2 : Int32) : ∃ h', f_X5_followUp F a1 a2 h = some ((), h') ∧ G8 h' (gJoin a1 a2 s) ∧ fr8 h h' := by
  obtain ⟨g3, g2, g0, gc, gf, gr⟩ := g
  have e := g8_fu a1 a2 (F - s.n - 1) s.n hn s.n 1 h g3 (by omega)
  rw [show F - s.n - 1 + s.n + 1 = F from by omega] at e
  refine ⟨_, e, ⟨?_, ?_, ?_, ?_, ?_, ?_⟩, fr8_R (fr8_r h) _ (by decide) (by decide)⟩
  · rw [hp_IR' _ _ (by decide)]; exact g3
  · rw [hp_IR' _ _ (by decide)]; exact g2
  · rw [hp_IR' _ _ (by decide)]; exact g0
  · intro j a b
    rw [hp_IR' _ _ (by decide)]; exact gc j a b
  · intro j a
    rw [hp_IR]
    show (if 1 ≤ j ∧ j ≤ s.n ∧ bt a1 j = true then am_I h 5 j ||| a2 else am_I h 5 j) = (if 1 ≤ j ∧ j ≤ s.n ∧ bt a1 j = true then s.fol j ||| a2 else s.fol j)
    rw [gf j a]
  · intro j a
    obtain ⟨r6, r7, r8, r9, r10, r11⟩ := gr j a
    rw [hp_IR' _ _ (by decide), hp_IR' _ _ (by decide), hp_IR' _ _ (by decide), hp_IR' _ _ (by decide), hp_IR' _ _ (by decide), hp_IR' _ _ (by decide)]
    exact ⟨r6, r7, r8, r9, r10, r11⟩
theorem g8_item {h : am_H} {s : GS} (g : G8 h s) (hn : s.n ≤ 15) (hd : s.d ≤ 60) (F : Nat) (hF : 20 ≤ F) (f l : Int32) (i : Bool) : ∃ h', f_X5_addItem F f l (bI i) h = some ((), h') ∧ G8 h' (gItem f l i s) ∧ fr8 h h' := by
  have v : am_vp (nI s.d) 61 = true := hp_vp (by omega) (by decide)
  have c : Int32.toNatClampNeg (nI s.d) = s.d := nI_clamp (by omega)
  have q2 := g.2.1
  have q7 := (g.2.2.2.2.2 s.d (Nat.le_refl _)).2.1
  obtain ⟨h3, e3, G3, F3⟩ := g8_join g hn F hF (s.rL s.d) f
  obtain ⟨g3, g2, g0, gc, gf, gr⟩ := G3
  have g2 : am_I h3 3 2 = nI s.d := g2
  obtain ⟨p6, p7, p8, p9, p10, p11⟩ := gr s.d (Nat.le_refl _)
  have p6 : am_I h3 6 s.d = s.rF s.d := p6
  have p7 : am_I h3 7 s.d = s.rL s.d := p7
  have p8 : am_I h3 8 s.d = bI (s.rN s.d) := p8
  unfold f_X5_addItem
  simp only [q2, v, c, q7, cond_true, e3, b2s, g2, p8]
  cases hr : s.rN s.d
  · simp only [bI_f, o00, if_true, b_some, g2, v, c, cond_true, p7, p8, hr]
    refine ⟨am_sI (am_sI h3 7 s.d (bif i then s.rL s.d ||| l else l)) 8 s.d (bI (false && i)), ?_, ⟨?_, ?_, ?_, ?_, ?_, ?_⟩, fr8_s (fr8_s F3 _ _ (by decide) (by decide)) _ _ (by decide) (by decide)⟩
    · have p8' : am_I h3 8 s.d = bI false := by rw [p8, hr]
      cases i
      · simp only [bI_f, o00, if_true, b_some, hp_I', ne_eq, Nat.reduceEqDiff, not_false_eq_true, g2, v, c, cond_true, cond_false, p8']
        rw [show Int32.ofInt 0 = bI false from rfl, bI_and, nar2]
      · simp only [bI_t, o10, if_false, b_some, hp_I', ne_eq, Nat.reduceEqDiff, not_false_eq_true, g2, v, c, cond_true, p8']
        rw [show Int32.ofInt 1 = bI true from rfl, bI_and, nar2]
    · simp only [hp_I', ne_eq, Nat.reduceEqDiff, not_false_eq_true]; exact g3
    · simp only [hp_I', ne_eq, Nat.reduceEqDiff, not_false_eq_true]; exact g2
    · simp only [hp_I', ne_eq, Nat.reduceEqDiff, not_false_eq_true]; exact g0
    · intro j a b
      simp only [hp_I', ne_eq, Nat.reduceEqDiff, not_false_eq_true]; exact gc j a b
    · intro j a
      simp only [hp_I', ne_eq, Nat.reduceEqDiff, not_false_eq_true]; exact gf j a
    · intro j a
      obtain ⟨r6, r7, r8, r9, r10, r11⟩ := gr j a
      simp only [hp_I, hp_I', ne_eq, Nat.reduceEqDiff, not_false_eq_true]
      refine ⟨?_, updc r7, ?_, r9, r10, r11⟩
      · show _ = (bif s.rN s.d then upd s.rF s.d (s.rF s.d ||| f) else s.rF) j
        rw [hr]; exact r6
      · show _ = bI (updB s.rN s.d (s.rN s.d && i) j)
        rw [hr]; exact updBc r8
  · simp only [bI_t, o10, if_false, b_some, hp_I', ne_eq, Nat.reduceEqDiff, not_false_eq_true, g2, v, c, cond_true, p7, p6]
    refine ⟨am_sI (am_sI (am_sI h3 6 s.d (s.rF s.d ||| f)) 7 s.d (bif i then s.rL s.d ||| l else l)) 8 s.d (bI (true && i)), ?_, ⟨?_, ?_, ?_, ?_, ?_, ?_⟩, fr8_s (fr8_s (fr8_s F3 _ _ (by decide) (by decide)) _ _ (by decide) (by decide)) _ _ (by decide) (by decide)⟩
    · have p8' : am_I h3 8 s.d = bI true := by rw [p8, hr]
      cases i
      · simp only [bI_f, o00, if_true, b_some, hp_I', ne_eq, Nat.reduceEqDiff, not_false_eq_true, g2, v, c, cond_true, cond_false, p8']
        rw [show Int32.ofInt 0 = bI false from rfl, bI_and, nar2]
      · simp only [bI_t, o10, if_false, b_some, hp_I', ne_eq, Nat.reduceEqDiff, not_false_eq_true, g2, v, c, cond_true, p8']
        rw [show Int32.ofInt 1 = bI true from rfl, bI_and, nar2]
    · simp only [hp_I', ne_eq, Nat.reduceEqDiff, not_false_eq_true]; exact g3
    · simp only [hp_I', ne_eq, Nat.reduceEqDiff, not_false_eq_true]; exact g2
    · simp only [hp_I', ne_eq, Nat.reduceEqDiff, not_false_eq_true]; exact g0
    · intro j a b
      simp only [hp_I', ne_eq, Nat.reduceEqDiff, not_false_eq_true]; exact gc j a b
    · intro j a
      simp only [hp_I', ne_eq, Nat.reduceEqDiff, not_false_eq_true]; exact gf j a
    · intro j a
      obtain ⟨r6, r7, r8, r9, r10, r11⟩ := gr j a
      simp only [hp_I, hp_I', ne_eq, Nat.reduceEqDiff, not_false_eq_true]
      refine ⟨?_, updc r7, ?_, r9, r10, r11⟩
      · show _ = (bif s.rN s.d then upd s.rF s.d (s.rF s.d ||| f) else s.rF) j
        rw [hr]; exact updc r6
      · show _ = bI (updB s.rN s.d (s.rN s.d && i) j)
        rw [hr]; exact updBc r8
theorem g8_act {h : am_H} {s : GS} (g : G8 h s) (hn : s.n < 15) (hd : s.d ≤ 60) (F : Nat) (hF : 20 ≤ F) (x : Int32) (hx : ¬ x = Int32.ofInt (-1)) : ∃ h', f_X5_addAct F x h = some ((), h') ∧ G8 h' (gAct x s) ∧ fr8 h h' := by
  obtain ⟨g3, g2, g0, gc, gf, gr⟩ := g
  have fr : fr8 h (am_sI (am_sI h 3 3 (nI (s.n + 1))) 4 (s.n + 1) x) := fr8_s (fr8_s (fr8_r h) _ _ (by decide) (by decide)) _ _ (by decide) (by decide)
  have u3 : upd (am_I h 3) 3 (nI (s.n + 1)) 3 = nI (s.n + 1) := rfl
  have k : G8 (am_sI (am_sI h 3 3 (nI (s.n + 1))) 4 (s.n + 1) x) (gNew x s) := by
    refine ⟨?_, ?_, ?_, ?_, ?_, ?_⟩
    · simp only [hp_I, hp_I', ne_eq, Nat.reduceEqDiff, not_false_eq_true]; exact u3
    · simp only [hp_I, hp_I', ne_eq, Nat.reduceEqDiff, not_false_eq_true]; exact g2
    · simp only [hp_I, hp_I', ne_eq, Nat.reduceEqDiff, not_false_eq_true]; exact g0
    · intro j a b
      simp only [hp_I, hp_I', ne_eq, Nat.reduceEqDiff, not_false_eq_true]
      show _ = upd s.code (s.n + 1) x j
      unfold upd
      by_cases e : j = s.n + 1
      · rw [if_pos e, if_pos e]
      · rw [if_neg e, if_neg e]
        have b : j ≤ s.n + 1 := b
        exact gc j a (by omega)
    · intro j a
      simp only [hp_I', ne_eq, Nat.reduceEqDiff, not_false_eq_true]; exact gf j a
    · intro j a
      obtain ⟨r6, r7, r8, r9, r10, r11⟩ := gr j a
      simp only [hp_I', ne_eq, Nat.reduceEqDiff, not_false_eq_true]
      exact ⟨r6, r7, r8, r9, r10, r11⟩
  obtain ⟨h', e, g', f'⟩ := g8_item k (show s.n + 1 ≤ 15 from hn) hd F hF (gBit (s.n + 1)) (gBit (s.n + 1)) false
  refine ⟨h', ?_, g', fr8_t fr f'⟩
  unfold f_X5_addAct
  rw [if_neg hx, g3, if_neg (show ¬ Int32.ofInt 15 ≤ nI s.n from nI_ge (a := s.n) (b := 15) hn (by decide)), hp_1]
  simp only [hp_I, hp_I', ne_eq, Nat.reduceEqDiff, not_false_eq_true]
  rw [show upd (am_I h 3) 3 (nI (s.n + 1)) 3 = nI (s.n + 1) from u3, hp_vp (by omega) (by decide), cond_true, nI_clamp (by omega)]
  rw [show f_X5_addItem F (Int32.ofInt 1 <<< (nI (s.n + 1) &&& 31)) (Int32.ofInt 1 <<< (nI (s.n + 1) &&& 31)) (Int32.ofInt 0) (am_sI (am_sI h 3 3 (nI (s.n + 1))) 4 (s.n + 1) x) = _ from e]
  rfl
