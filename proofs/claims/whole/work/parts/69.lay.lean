/-! ===== gathering: the reference's lay, whole ===== -/
theorem q20 : Nat.beq 2 0 = false := rfl
theorem q21 : Nat.beq 2 1 = false := rfl
theorem q00 : Nat.beq 0 0 = true := rfl
theorem fr9_Rb {b : Nat} {h h1 : am_H} (a : fr9 b h h1) {o : Nat} (ho : o = 53 ∨ o = 54) (f : Nat → Int32) (hf : ∀ k, k < 16 * b → f k = am_I h1 o k) : fr9 b h (am_sR h1 o f) := by
  refine fr9_t a ⟨⟨rfl, rfl, rfl, rfl⟩, fun q a c d e f => hp_IR' _ _ (by omega), fun j _ _ => by rw [hp_IR' _ _ (by omega)], fun j hj => ?_, fun k _ => by rw [hp_IR' _ _ (by omega)]⟩
  rcases ho with rfl | rfl
  · exact ⟨by rw [hp_IR]; exact hf j hj, by rw [hp_IR' _ _ (by decide)]⟩
  · exact ⟨by rw [hp_IR' _ _ (by decide)], by rw [hp_IR]; exact hf j hj⟩
theorem g9_z (b : Nat) (hb : b < 8) (src mm o : Int32) (n : Nat) : ∀ (k p : Nat) (h : am_H), p + k = 16 → ∃ h', g_X9_lay (n + k + 1) 0 (nI b) src mm o (nI p) 0 h = g_X9_lay (n + 1) 0 (nI b) src mm o (nI 16) 0 h' ∧ fr9 b h h' ∧ (∀ j, am_I h' 54 j = if 16 * b + p ≤ j ∧ j < 16 * b + 16 then Int32.ofInt 0 else am_I h 54 j) ∧ (∀ q, q ≠ 54 → am_I h' q = am_I h q) := by
  intro k
  induction k with
  | zero =>
    intro p h hp
    have : p = 16 := by omega
    subst this
    exact ⟨h, rfl, fr9_r b h, fun j => by rw [if_neg (by omega)], fun _ _ => rfl⟩
  | succ k ih =>
    intro p h hp
    obtain ⟨h', e, f, g, i⟩ := ih (p + 1) (am_sI h 54 (16 * b + p) (Int32.ofInt 0)) (by omega)
    refine ⟨h', ?_, fr9_t (fr9_b (fr9_r b h) _ (Or.inr rfl) (by omega)) f, fun j => ?_, fun q hq => by rw [i q hq, hp_I' _ _ _ hq]⟩
    · rw [show n + (k + 1) + 1 = (n + k + 1) + 1 from rfl, g_X9_lay]
      simp only [q00, cond_true, if_neg (show ¬ Int32.ofInt 16 ≤ nI p from nI_ge (a := p) (b := 16) (by omega) (by decide)), g9_ix, hp_vp (show 16 * b + p < 128 by omega) (by decide), nI_clamp (show 16 * b + p < 2 ^ 31 by omega), hp_1]
      exact e
    · rw [g j, hp_I]
      by_cases c : j = 16 * b + p
      · subst c; rw [if_neg (by omega), upd_at, if_pos (by omega)]
      · rw [upd_ne c]
        by_cases d : 16 * b + (p + 1) ≤ j ∧ j < 16 * b + 16
        · rw [if_pos d, if_pos (by omega)]
        · rw [if_neg d, if_neg (by omega)]
theorem g9_e (b : Nat) (hb : b < 8) (src mm o x : Int32) (n : Nat) : ∀ (k p : Nat) (h : am_H), p + k = 16 → ∃ h', g_X9_lay (n + k + 1) 2 (nI b) src mm o x (nI p) h = some ((), h') ∧ fr9 b h h' ∧ (∀ j, am_I h' 54 j = if 16 * b + p ≤ j ∧ j < 16 * b + 16 then am_I h 54 j ||| bI (bt (am_I h 61 0) (j - 16 * b)) else am_I h 54 j) ∧ (∀ q, q ≠ 54 → am_I h' q = am_I h q) := by
  intro k
  induction k with
  | zero =>
    intro p h hp
    have : p = 16 := by omega
    subst this
    refine ⟨h, ?_, fr9_r b h, fun j => by rw [if_neg (by omega)], fun _ _ => rfl⟩
    rw [show n + 0 + 1 = n + 1 from rfl, g_X9_lay]
    simp only [q20, q21, cond_false, if_pos (show Int32.ofInt 16 ≤ nI 16 by decide)]
  | succ k ih =>
    intro p h hp
    obtain ⟨h', e, f, g, i⟩ := ih (p + 1) (am_sI h 54 (16 * b + p) (am_I h 54 (16 * b + p) ||| bI (bt (am_I h 61 0) p))) (by omega)
    refine ⟨h', ?_, fr9_t (fr9_b (fr9_r b h) _ (Or.inr rfl) (by omega)) f, fun j => ?_, fun q hq => by rw [i q hq, hp_I' _ _ _ hq]⟩
    · rw [show n + (k + 1) + 1 = (n + k + 1) + 1 from rfl, g_X9_lay]
      simp only [q20, q21, cond_false, cond_true, if_neg (show ¬ Int32.ofInt 16 ≤ nI p from nI_ge (a := p) (b := 16) (by omega) (by decide)), g9_ix, hp_vp (show 16 * b + p < 128 by omega) (by decide), nI_clamp (show 16 * b + p < 2 ^ 31 by omega), hp_1, show Int32.toNatClampNeg (Int32.ofInt 0) = 0 from by decide, bt_9 (am_I h 61 0) (show p < 32 by omega)]
      exact e
    · rw [g j, hp_I, hp_I' _ _ _ (by decide)]
      by_cases c : j = 16 * b + p
      · subst c; rw [if_neg (by omega), upd_at, if_pos (by omega), show 16 * b + p - 16 * b = p from by omega]
      · rw [upd_ne c]
        by_cases d : 16 * b + (p + 1) ≤ j ∧ j < 16 * b + 16
        · rw [if_pos d, if_pos (by omega)]
        · rw [if_neg d, if_neg (by omega)]
/-- the reference's lay of a valid text -/
theorem g9_layT {b : Nat} (hb : b < 8) (sort o src : Int32) {m : Nat} {r : Nat → Int32} (ho : ¬ sort = 0 → ¬ o = Int32.ofInt (-1)) {h : am_H} (t : tx9 h src m r) (hv : vl sort r m 0 0 0) (F : Nat) (hF : 200 ≤ F) :
    ∃ h', f_X9_lay F (nI b) src (nI m) o h = some ((), h') ∧ fr9 b h h' ∧ am_I h' 55 b = nI (gRun sort o r m m 0 g00).n ∧ am_I h' 51 23 = bI (gRun sort o r m m 0 g00).idle ∧ (∀ j, 1 ≤ j → j ≤ (gRun sort o r m m 0 g00).n → am_I h' 53 (16 * b + j) = (gRun sort o r m m 0 g00).code j) ∧ (∀ j, j < 16 → am_I h' 54 (16 * b + j) = (gFin (gRun sort o r m m 0 g00)).fol j) ∧ (gRun sort o r m m 0 g00).n ≤ 15 ∧ (gRun sort o r m m 0 g00).d = 0 := by
  have hm := t.1
  have vb : am_vp (nI b) 8 = true := hp_vp hb (by decide)
  have cb : Int32.toNatClampNeg (nI b) = b := nI_clamp (by omega)
  have f0 : fr9 b h (am_sI h 55 b (Int32.ofInt 0)) := fr9_n (fr9_r b h) _
  obtain ⟨h1, e1, f1, z1, i1⟩ := g9_z b hb src (nI m) o (F - 17) 16 0 (am_sI h 55 b (Int32.ofInt 0)) (by omega)
  rw [show F - 17 + 16 + 1 = F from by omega] at e1
  -- the first group
  have u2 : ∀ x : am_H, am_I (am_sI (am_sI x 51 23 (Int32.ofInt 0)) 51 22 (Int32.ofInt (-1))) 51 22 = Int32.ofInt (-1) := fun x => by rw [hp_I, upd_at]
  have m1 : Int32.ofInt (-1) + Int32.ofInt 1 = nI 0 := by decide
  have v0 : am_vp (nI 0) 61 = true := by decide
  have c0 : Int32.toNatClampNeg (nI 0) = 0 := by decide
  have op : ∃ h2, f_X9_openGroup (am_sI (am_sI h1 51 23 (Int32.ofInt 0)) 51 22 (Int32.ofInt (-1))) = some ((), h2) ∧ G9 b h2 g00 ∧ fr9 b h1 h2 := by
    refine ⟨am_sI (am_sI (am_sI (am_sI (am_sI (am_sI (am_sI (am_sI (am_sI h1 51 23 (Int32.ofInt 0)) 51 22 (Int32.ofInt (-1))) 51 22 (nI 0)) 63 0 (Int32.ofInt 0)) 64 0 (Int32.ofInt 0)) 65 0 (bI false)) 60 0 (Int32.ofInt 0)) 61 0 (Int32.ofInt 0)) 62 0 (bI true), ?_, ⟨?_, ?_, ?_, ?_, ?_, ?_⟩, ?_⟩
    · unfold f_X9_openGroup f_X9_newRow
      simp only [u2, m1, hp_I', ne_eq, Nat.reduceEqDiff, not_false_eq_true, hp_I, upd_at, v0, c0, cond_true]
      rfl
    · simp only [hp_I', ne_eq, Nat.reduceEqDiff, not_false_eq_true]
      rw [i1 55 (by decide), hp_I, upd_at]; rfl
    · simp only [hp_I, hp_I', ne_eq, Nat.reduceEqDiff, not_false_eq_true, upd_at]; rfl
    · simp only [hp_I, hp_I', ne_eq, Nat.reduceEqDiff, not_false_eq_true]
      rw [upd_ne (by decide), upd_ne (by decide), upd_at]; rfl
    · intro j a c
      have c : j ≤ 0 := c
      omega
    · intro j a
      simp only [hp_I', ne_eq, Nat.reduceEqDiff, not_false_eq_true]
      rw [z1, if_pos (by omega)]; rfl
    · intro j a
      have a : j ≤ 0 := a
      have : j = 0 := by omega
      subst this
      simp only [hp_I, hp_I', ne_eq, Nat.reduceEqDiff, not_false_eq_true, upd_at]
      exact ⟨rfl, rfl, rfl, rfl, rfl, rfl⟩
    · exact fr9_s (fr9_s (fr9_s (fr9_s (fr9_s (fr9_s (fr9_f (fr9_f (fr9_f (fr9_r b h1) _ (Or.inr rfl)) _ (Or.inl rfl)) _ (Or.inl rfl)) _ _ (by decide) (by decide)) _ _ (by decide) (by decide)) _ _ (by decide) (by decide)) _ _ (by decide) (by decide)) _ _ (by decide) (by decide)) _ _ (by decide) (by decide)
  obtain ⟨h2, e2, g2, f2⟩ := op
  have t2 : tx9 h2 src m r := tx9_fr (tx9_fr (tx9_fr t f0) f1) f2
  obtain ⟨F', h3, hF', e3, g3, f3, d3, n3, gi3⟩ := g9_loop hb sort o src m r ho m m (Nat.le_refl _) (F - 17 - m - 1) 0 0 h2 g00 (by omega) t2 (by omega) (Or.inl rfl) hv (by decide) (by decide) GI_0 g2
  rw [show F - 17 - m - 1 + m + 1 = F - 17 from by omega] at e3
  have tp := run_top (o := o) (m := m) m 0 0 g00 hv (by decide) (by decide) (by omega) ⟨rfl, rfl, rfl⟩
  generalize hs : gRun sort o r m m 0 g00 = s at g3 d3 n3 gi3 tp
  obtain ⟨k3, k2, k0, kc, kf, kr⟩ := g3
  obtain ⟨r6, r7, r8, -, -, -⟩ := kr 0 (Nat.zero_le _)
  obtain ⟨h4, e4, f4, z4, i4⟩ := g9_e b hb src (nI m) o (nI m) (F' - 16) 15 1 (am_sI h3 54 (16 * b) (s.rF 0 ||| bI (s.rN 0))) (by omega)
  rw [show F' - 16 + 15 + 1 = F' from by omega] at e4
  refine ⟨h4, ?_, fr9_t (fr9_t (fr9_t (fr9_t f0 f1) f2) f3) (fr9_t (fr9_b (fr9_r b h3) _ (Or.inr rfl) (Nat.le_refl _)) f4), ?_, ?_, ?_, ?_, n3, d3⟩
  · unfold f_X9_lay
    rw [vb, cond_true, cb, show g_X9_lay F 0 (nI b) src (nI m) o (Int32.ofInt 0) 0 (am_sI h 55 b (Int32.ofInt 0)) = _ from e1, g_X9_lay]
    simp only [q00, cond_true, if_pos (show Int32.ofInt 16 ≤ nI 16 by decide), e2, b2s]
    rw [show g_X9_lay (F - 17) 1 (nI b) src (nI m) o (Int32.ofInt 0) 0 h2 = _ from e3, g_X9_lay]
    simp only [q10, q11, cond_true, cond_false, if_pos (Int32.le_refl (nI m)), show Int32.toNatClampNeg (Int32.ofInt 0) = 0 from by decide, r8, r6]
    have y : (if bI (s.rN 0) = 0 then some (Int32.ofInt 0) else some (Int32.ofInt 1)) = some (bI (s.rN 0)) := by cases s.rN 0 <;> rfl
    have x16 : (Int32.ofInt 16) * nI b = nI (16 * b) := by rw [show Int32.ofInt 16 = nI 16 from rfl, nI_mul]
    rw [y, b_some, x16, hp_vp (show 16 * b < 128 by omega) (by decide), cond_true, nI_clamp (show 16 * b < 2 ^ 31 by omega)]
    exact e4
  · rw [i4 55 (by decide), hp_I' _ _ _ (by decide)]; exact k3
  · rw [i4 51 (by decide), hp_I' _ _ _ (by decide)]; exact k0
  · intro j a c
    rw [i4 53 (by decide), hp_I' _ _ _ (by decide)]; exact kc j a c
  · intro j a
    rw [z4, hp_I, hp_I' _ _ _ (by decide), r7]
    by_cases c : j = 0
    · subst c
      rw [if_neg (by omega), show 16 * b + 0 = 16 * b from rfl, upd_at, gFin_0 tp.1 tp.2]
    · rw [if_pos (by omega), upd_ne (by omega), kf j a, show 16 * b + j - 16 * b = j from by omega, gFin_p tp.1 tp.2 gi3 (by omega)]
