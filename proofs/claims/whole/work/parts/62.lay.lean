/-! ===== gathering: the reference's steps ===== -/
def G9 (b : Nat) (h : am_H) (s : GS) : Prop := am_I h 55 b = nI s.n ∧ am_I h 51 22 = nI s.d ∧ am_I h 51 23 = bI s.idle ∧ (∀ j, 1 ≤ j → j ≤ s.n → am_I h 53 (16 * b + j) = s.code j) ∧ (∀ j, j < 16 → am_I h 54 (16 * b + j) = s.fol j) ∧ (∀ j, j ≤ s.d → am_I h 60 j = s.rF j ∧ am_I h 61 j = s.rL j ∧ am_I h 62 j = bI (s.rN j) ∧ am_I h 63 j = s.aF j ∧ am_I h 64 j = s.aL j ∧ am_I h 65 j = bI (s.aN j))
def fr9 (b : Nat) (h h' : am_H) : Prop := (h'.1 = h.1 ∧ am_K h' = am_K h ∧ am_J h' = am_J h ∧ am_A h' = am_A h) ∧ (∀ o, o ≠ 51 → o ≠ 53 → o ≠ 54 → o ≠ 55 → (o < 60 ∨ 65 < o) → am_I h' o = am_I h o) ∧ (∀ k, k ≠ 22 → k ≠ 23 → am_I h' 51 k = am_I h 51 k) ∧ (∀ k, k < 16 * b → am_I h' 53 k = am_I h 53 k ∧ am_I h' 54 k = am_I h 54 k) ∧ (∀ k, k < b → am_I h' 55 k = am_I h 55 k)
theorem fr9_r (b : Nat) (h : am_H) : fr9 b h h := ⟨⟨rfl, rfl, rfl, rfl⟩, fun _ _ _ _ _ _ => rfl, fun _ _ _ => rfl, fun _ _ => ⟨rfl, rfl⟩, fun _ _ => rfl⟩
theorem fr9_t {b : Nat} {h h1 h2 : am_H} (x : fr9 b h h1) (y : fr9 b h1 h2) : fr9 b h h2 := by
  obtain ⟨⟨x1, x2, x3, x4⟩, x5, x6, x7, x8⟩ := x
  obtain ⟨⟨y1, y2, y3, y4⟩, y5, y6, y7, y8⟩ := y
  exact ⟨⟨y1.trans x1, y2.trans x2, y3.trans x3, y4.trans x4⟩, fun o a c d e f => (y5 o a c d e f).trans (x5 o a c d e f), fun k a c => (y6 k a c).trans (x6 k a c), fun k a => ⟨(y7 k a).1.trans (x7 k a).1, (y7 k a).2.trans (x7 k a).2⟩, fun k a => (y8 k a).trans (x8 k a)⟩
theorem fr9_s {b : Nat} {h h1 : am_H} (a : fr9 b h h1) {o : Nat} (j : Nat) (x : Int32) (h3 : 60 ≤ o) (h11 : o ≤ 65) : fr9 b h (am_sI h1 o j x) := by
  refine fr9_t a ⟨⟨rfl, rfl, rfl, rfl⟩, fun q a c d e f => hp_I' _ _ _ (by omega), fun k _ _ => by rw [hp_I' _ _ _ (by omega)], fun k _ => ⟨by rw [hp_I' _ _ _ (by omega)], by rw [hp_I' _ _ _ (by omega)]⟩, fun k _ => by rw [hp_I' _ _ _ (by omega)]⟩
theorem fr9_f {b : Nat} {h h1 : am_H} (a : fr9 b h h1) {k : Nat} (x : Int32) (hk : k = 22 ∨ k = 23) : fr9 b h (am_sI h1 51 k x) := by
  refine fr9_t a ⟨⟨rfl, rfl, rfl, rfl⟩, fun q a c d e f => hp_I' _ _ _ a, fun j h1 h2 => ?_, fun k _ => ⟨by rw [hp_I' _ _ _ (by omega)], by rw [hp_I' _ _ _ (by omega)]⟩, fun k _ => by rw [hp_I' _ _ _ (by omega)]⟩
  rw [hp_I]; unfold upd; rw [if_neg (by omega)]
theorem fr9_b {b : Nat} {h h1 : am_H} (a : fr9 b h h1) {o k : Nat} (x : Int32) (ho : o = 53 ∨ o = 54) (hk : 16 * b ≤ k) : fr9 b h (am_sI h1 o k x) := by
  refine fr9_t a ⟨⟨rfl, rfl, rfl, rfl⟩, fun q a c d e f => hp_I' _ _ _ (by omega), fun j _ _ => by rw [hp_I' _ _ _ (by omega)], fun j hj => ?_, fun k _ => by rw [hp_I' _ _ _ (by omega)]⟩
  rcases ho with rfl | rfl
  · exact ⟨by rw [hp_I]; unfold upd; rw [if_neg (by omega)], by rw [hp_I' _ _ _ (by decide)]⟩
  · exact ⟨by rw [hp_I' _ _ _ (by decide)], by rw [hp_I]; unfold upd; rw [if_neg (by omega)]⟩
theorem fr9_n {b : Nat} {h h1 : am_H} (a : fr9 b h h1) (x : Int32) : fr9 b h (am_sI h1 55 b x) := by
  refine fr9_t a ⟨⟨rfl, rfl, rfl, rfl⟩, fun q a c d e f => hp_I' _ _ _ e, fun j _ _ => by rw [hp_I' _ _ _ (by omega)], fun j hj => ⟨by rw [hp_I' _ _ _ (by omega)], by rw [hp_I' _ _ _ (by omega)]⟩, fun k hk => ?_⟩
  rw [hp_I]; unfold upd; rw [if_neg (by omega)]
theorem g9_new {b : Nat} {h : am_H} {s : GS} (g : G9 b h s) (hd : s.d ≤ 60) : ∃ h', f_X9_newRow h = some ((), h') ∧ G9 b h' (gStart s) ∧ fr9 b h h' := by
  obtain ⟨g3, g2, g0, gc, gf, gr⟩ := g
  have v : am_vp (nI s.d) 61 = true := hp_vp (by omega) (by decide)
  have c : Int32.toNatClampNeg (nI s.d) = s.d := nI_clamp (by omega)
  refine ⟨am_sI (am_sI (am_sI h 60 s.d (Int32.ofInt 0)) 61 s.d (Int32.ofInt 0)) 62 s.d (Int32.ofInt 1), ?_, ⟨?_, ?_, ?_, ?_, ?_, ?_⟩, fr9_s (fr9_s (fr9_s (fr9_r b h) _ _ (by decide) (by decide)) _ _ (by decide) (by decide)) _ _ (by decide) (by decide)⟩
  · unfold f_X9_newRow
    simp only [hp_I', ne_eq, Nat.reduceEqDiff, not_false_eq_true, g2, v, c, cond_true]
    rfl
  · simp only [hp_I', ne_eq, Nat.reduceEqDiff, not_false_eq_true, g3]; rfl
  · simp only [hp_I', ne_eq, Nat.reduceEqDiff, not_false_eq_true, g2]; rfl
  · simp only [hp_I', ne_eq, Nat.reduceEqDiff, not_false_eq_true, g0]; rfl
  · intro j a b
    simp only [hp_I', ne_eq, Nat.reduceEqDiff, not_false_eq_true]; exact gc j a b
  · intro j a
    simp only [hp_I', ne_eq, Nat.reduceEqDiff, not_false_eq_true]; exact gf j a
  · intro j a
    obtain ⟨r6, r7, r8, r9, r10, r11⟩ := gr j a
    simp only [hp_I, hp_I', ne_eq, Nat.reduceEqDiff, not_false_eq_true]
    exact ⟨updc r6, updc r7, updBc (b := true) r8, r9, r10, r11⟩
theorem g9_end0 {b : Nat} {h : am_H} {s : GS} (g : G9 b h s) (hd : s.d ≤ 60) : ∃ h', f_X9_endRow h = some ((), h') ∧ G9 b h' (gEnd0 s) ∧ fr9 b h h' := by
  obtain ⟨g3, g2, g0, gc, gf, gr⟩ := g
  have v : am_vp (nI s.d) 61 = true := hp_vp (by omega) (by decide)
  have c : Int32.toNatClampNeg (nI s.d) = s.d := nI_clamp (by omega)
  obtain ⟨q6, q7, q8, q9, q10, q11⟩ := gr s.d (Nat.le_refl _)
  refine ⟨am_sI (am_sI (am_sI h 63 s.d (s.aF s.d ||| s.rF s.d)) 64 s.d (s.aL s.d ||| s.rL s.d)) 65 s.d (bI (s.aN s.d || s.rN s.d)), ?_, ⟨?_, ?_, ?_, ?_, ?_, ?_⟩, fr9_s (fr9_s (fr9_s (fr9_r b h) _ _ (by decide) (by decide)) _ _ (by decide) (by decide)) _ _ (by decide) (by decide)⟩
  · unfold f_X9_endRow
    simp only [hp_I', ne_eq, Nat.reduceEqDiff, not_false_eq_true, g2, v, c, cond_true, q6, q7, q8, q9, q10, q11]
    cases s.aN s.d <;> cases s.rN s.d <;> rfl
  · simp only [hp_I', ne_eq, Nat.reduceEqDiff, not_false_eq_true, g3]; rfl
  · simp only [hp_I', ne_eq, Nat.reduceEqDiff, not_false_eq_true, g2]; rfl
  · simp only [hp_I', ne_eq, Nat.reduceEqDiff, not_false_eq_true, g0]; rfl
  · intro j a b
    simp only [hp_I', ne_eq, Nat.reduceEqDiff, not_false_eq_true]; exact gc j a b
  · intro j a
    simp only [hp_I', ne_eq, Nat.reduceEqDiff, not_false_eq_true]; exact gf j a
  · intro j a
    obtain ⟨r6, r7, r8, r9, r10, r11⟩ := gr j a
    simp only [hp_I, hp_I', ne_eq, Nat.reduceEqDiff, not_false_eq_true]
    exact ⟨r6, r7, r8, updc r9, updc r10, updBc r11⟩
