/-! ===== gathering: begin and end of the class's ===== -/
def g00 : GS := gMk 0 0 false (fun _ => Int32.ofInt 0) (fun _ => Int32.ofInt 0) (fun _ => Int32.ofInt 0) (fun _ => Int32.ofInt 0) (fun _ => true) (fun _ => Int32.ofInt 0) (fun _ => Int32.ofInt 0) (fun _ => false)
def gFol0 (s : GS) : GS := gMk s.n s.d s.idle s.code (upd s.fol 0 (s.aF 0 ||| bI (s.aN 0))) s.rF s.rL s.rN s.aF s.aL s.aN
def gFin (s : GS) : GS := gJoin ((gEnd s).aL 0) (Int32.ofInt 1) (gFol0 (gEnd s))
theorem g8_begin (h : am_H) (K5 : am_K h 5 = .inr (0, 16)) (F : Nat) (hF : 20 ≤ F) : ∃ h', (am_b2 (f_J7_fill_53178 F 5 (Int32.ofInt 0) (am_sI (am_sI (am_sI h 3 0 (Int32.ofInt 0)) 3 2 (Int32.ofInt 0)) 3 3 (Int32.ofInt 0))) fun _ h2 => f_X5_openBraces h2) = some ((), h') ∧ G8 h' g00 ∧ fr8 h h' := by
  have e := pf_fillF (q := 5) (N := 16) (x := Int32.ofInt 0) (by decide) (F - 17) (am_sI (am_sI (am_sI h 3 0 (Int32.ofInt 0)) 3 2 (Int32.ofInt 0)) 3 3 (Int32.ofInt 0)) K5
  rw [show F - 17 + 16 + 1 = F from by omega] at e
  rw [e, b2s]
  have fr : fr8 h (am_sR (am_sI (am_sI (am_sI h 3 0 (Int32.ofInt 0)) 3 2 (Int32.ofInt 0)) 3 3 (Int32.ofInt 0)) 5 (hp_fl (am_I (am_sI (am_sI (am_sI h 3 0 (Int32.ofInt 0)) 3 2 (Int32.ofInt 0)) 3 3 (Int32.ofInt 0)) 5) 0 16 (Int32.ofInt 0))) := fr8_R (fr8_s (fr8_s (fr8_s (fr8_r h) _ _ (by decide) (by decide)) _ _ (by decide) (by decide)) _ _ (by decide) (by decide)) _ (by decide) (by decide)
  generalize hh : am_sR (am_sI (am_sI (am_sI h 3 0 (Int32.ofInt 0)) 3 2 (Int32.ofInt 0)) 3 3 (Int32.ofInt 0)) 5 (hp_fl (am_I (am_sI (am_sI (am_sI h 3 0 (Int32.ofInt 0)) 3 2 (Int32.ofInt 0)) 3 3 (Int32.ofInt 0)) 5) 0 16 (Int32.ofInt 0)) = h1 at fr
  have i3 : am_I h1 3 = upd (upd (upd (am_I h 3) 0 (Int32.ofInt 0)) 2 (Int32.ofInt 0)) 3 (Int32.ofInt 0) := by
    rw [← hh, hp_IR' _ _ (by decide), hp_I, hp_I, hp_I]
  have i33 : am_I h1 3 3 = nI 0 := by rw [i3]; rfl
  have i32 : am_I h1 3 2 = nI 0 := by rw [i3]; rfl
  have i30 : am_I h1 3 0 = bI false := by rw [i3]; rfl
  have i5 : ∀ j, j < 16 → am_I h1 5 j = Int32.ofInt 0 := by
    intro j hj
    rw [← hh, hp_IR]
    unfold hp_fl
    rw [if_pos ⟨Nat.zero_le _, hj⟩]
  have v : am_vp (nI 0) 61 = true := by decide
  have c : Int32.toNatClampNeg (nI 0) = 0 := by decide
  refine ⟨am_sI (am_sI (am_sI (am_sI (am_sI (am_sI h1 9 0 (Int32.ofInt 0)) 10 0 (Int32.ofInt 0)) 11 0 (bI false)) 6 0 (Int32.ofInt 0)) 7 0 (Int32.ofInt 0)) 8 0 (bI true), ?_, ⟨?_, ?_, ?_, ?_, ?_, ?_⟩, ?_⟩
  · unfold f_X5_openBraces f_X5_startRow
    simp only [hp_I', ne_eq, Nat.reduceEqDiff, not_false_eq_true, i32, v, c, cond_true]
    rfl
  · simp only [hp_I', ne_eq, Nat.reduceEqDiff, not_false_eq_true]; exact i33
  · simp only [hp_I', ne_eq, Nat.reduceEqDiff, not_false_eq_true]; exact i32
  · simp only [hp_I', ne_eq, Nat.reduceEqDiff, not_false_eq_true]; exact i30
  · intro j a b
    have b : j ≤ 0 := b
    omega
  · intro j a
    simp only [hp_I', ne_eq, Nat.reduceEqDiff, not_false_eq_true]; exact i5 j a
  · intro j a
    have a : j ≤ 0 := a
    have : j = 0 := by omega
    subst this
    simp only [hp_I, hp_I', ne_eq, Nat.reduceEqDiff, not_false_eq_true]
    exact ⟨rfl, rfl, rfl, rfl, rfl, rfl⟩
  · exact fr8_s (fr8_s (fr8_s (fr8_s (fr8_s (fr8_s fr _ _ (by decide) (by decide)) _ _ (by decide) (by decide)) _ _ (by decide) (by decide)) _ _ (by decide) (by decide)) _ _ (by decide) (by decide)) _ _ (by decide) (by decide)
theorem g8_gather {h : am_H} {a q m : Nat} {r : Nat → Int32} (t : tx8 h a q m r) (K5 : am_K h 5 = .inr (0, 16)) (sort o : Int32) (F : Nat) (hF : 100 ≤ F) (h0 : (gRun sort o r m m 0 g00).d = 0) (hn : (gRun sort o r m m 0 g00).n ≤ 15) : ∃ h', f_X5_gather F a sort o h = some ((), h') ∧ G8 h' (gFin (gRun sort o r m m 0 g00)) ∧ fr8 h h' := by
  obtain ⟨h1, e1, g1, f1⟩ := g8_begin h K5 F (by omega)
  have t1 := tx8_fr t f1
  have hm : m ≤ 60 := t.2.2.2.2.2.2.2
  obtain ⟨h2, e2, g2, f2⟩ := g8_loop sort o a q m r (F - m - 1) (by omega) m 0 h1 g00 t1 (by omega) g1 (by decide) (by decide)
  rw [show F - m - 1 + m + 1 = F from by omega] at e2
  generalize gRun sort o r m m 0 g00 = s at h0 hn g2
  have t2 := tx8_fr t1 f2
  obtain ⟨h3, e3, g3, f3⟩ := g8_end g2 (by omega)
  have d0 : (gEnd s).d = 0 := h0
  obtain ⟨k3, k2, k0, kc, kf, kr⟩ := g3
  obtain ⟨p6, p7, p8, p9, p10, p11⟩ := kr 0 (Nat.zero_le _)
  have G : G8 (am_sI h3 5 0 ((gEnd s).aF 0 ||| bI ((gEnd s).aN 0))) (gFol0 (gEnd s)) := by
    refine ⟨?_, ?_, ?_, ?_, ?_, ?_⟩
    · simp only [hp_I', ne_eq, Nat.reduceEqDiff, not_false_eq_true]; exact k3
    · simp only [hp_I', ne_eq, Nat.reduceEqDiff, not_false_eq_true]; exact k2
    · simp only [hp_I', ne_eq, Nat.reduceEqDiff, not_false_eq_true]; exact k0
    · intro j a b
      simp only [hp_I', ne_eq, Nat.reduceEqDiff, not_false_eq_true]; exact kc j a b
    · intro j a
      rw [hp_I]
      exact updc (kf j a)
    · intro j a
      simp only [hp_I', ne_eq, Nat.reduceEqDiff, not_false_eq_true]
      exact kr j a
  obtain ⟨h4, e4, g4, f4⟩ := g8_join G (show s.n ≤ 15 from hn) (F - m - 1) (by omega) ((gEnd s).aL 0) (Int32.ofInt 1)
  refine ⟨h4, ?_, g4, fr8_t (fr8_t (fr8_t f1 f2) (fr8_s f3 0 _ (by decide) (by decide))) f4⟩
  unfold f_X5_gather
  obtain ⟨u1, w1, x1, y1⟩ := am_b2_ok e1
  rw [x1, b2s, y1, b2s, show g_X5_gather F 0 a sort o (Int32.ofInt 0) h1 = _ from e2, g_X5_gather]
  simp only [hp_isO t2.1, t2.2.2.2.1, cond_true, if_pos (Int32.le_refl (nI m)), e3, b2s]
  have c0 : Int32.toNatClampNeg (Int32.ofInt 0) = 0 := by decide
  simp only [c0, p11]
  have y : (if bI ((gEnd s).aN 0) = 0 then some (Int32.ofInt 0) else some (Int32.ofInt 1)) = some (bI ((gEnd s).aN 0)) := by
    cases (gEnd s).aN 0
    · rfl
    · rfl
  rw [y, b_some, p9, hp_I' _ _ _ (by decide), p10, e4, b2s]
