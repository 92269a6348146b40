/-! ===== gathering: the class's steps ===== -/
theorem updc {f g : Nat → Int32} {d j : Nat} {x : Int32} (h : f j = g j) : upd f d x j = upd g d x j := by
  unfold upd; split
  · rfl
  · exact h
theorem updBc {f : Nat → Int32} {g : Nat → Bool} {d j : Nat} {b : Bool} (h : f j = bI (g j)) : upd f d (bI b) j = bI (updB g d b j) := by
  unfold upd updB; split
  · rfl
  · exact h
theorem g8_start {h : am_H} {s : GS} (g : G8 h s) (hd : s.d ≤ 60) : ∃ h', f_X5_startRow h = some ((), h') ∧ G8 h' (gStart s) ∧ fr8 h h' := by
  obtain ⟨g3, g2, g0, gc, gf, gr⟩ := g
  have v : am_vp (nI s.d) 61 = true := hp_vp (by omega) (by decide)
  have c : Int32.toNatClampNeg (nI s.d) = s.d := nI_clamp (by omega)
  refine ⟨am_sI (am_sI (am_sI h 6 s.d (Int32.ofInt 0)) 7 s.d (Int32.ofInt 0)) 8 s.d (Int32.ofInt 1), ?_, ⟨?_, ?_, ?_, ?_, ?_, ?_⟩, fr8_s (fr8_s (fr8_s (fr8_r h) _ _ (by decide) (by decide)) _ _ (by decide) (by decide)) _ _ (by decide) (by decide)⟩
  · unfold f_X5_startRow
    simp only [hp_I', ne_eq, Nat.reduceEqDiff, not_false_eq_true, g2, v, c, cond_true]
    rfl
  · simp only [hp_I', ne_eq, Nat.reduceEqDiff, not_false_eq_true, g3]; rfl
  · simp only [hp_I', ne_eq, Nat.reduceEqDiff, not_false_eq_true, g2]; rfl
  · simp only [hp_I', ne_eq, Nat.reduceEqDiff, not_false_eq_true, g0]; rfl
  · intro j a b
    simp only [hp_I', ne_eq, Nat.reduceEqDiff, not_false_eq_true]; exact gc j a b
  · intro j a
    simp only [hp_I', ne_eq, Nat.reduceEqDiff, not_false_eq_true]; exact gf j a
  · intro j a
    obtain ⟨r6, r7, r8, r9, r10, r11⟩ := gr j a
    simp only [hp_I, hp_I', ne_eq, Nat.reduceEqDiff, not_false_eq_true]
    exact ⟨updc r6, updc r7, updBc (b := true) r8, r9, r10, r11⟩
theorem g8_openB {h : am_H} {s : GS} (g : G8 h s) (hd : s.d ≤ 60) : ∃ h', f_X5_openBraces h = some ((), h') ∧ G8 h' (gOpenB s) ∧ fr8 h h' := by
  obtain ⟨g3, g2, g0, gc, gf, gr⟩ := g
  have v : am_vp (nI s.d) 61 = true := hp_vp (by omega) (by decide)
  have c : Int32.toNatClampNeg (nI s.d) = s.d := nI_clamp (by omega)
  have fr : fr8 h (am_sI (am_sI (am_sI h 9 s.d (Int32.ofInt 0)) 10 s.d (Int32.ofInt 0)) 11 s.d (Int32.ofInt 0)) := fr8_s (fr8_s (fr8_s (fr8_r h) _ _ (by decide) (by decide)) _ _ (by decide) (by decide)) _ _ (by decide) (by decide)
  have k : G8 (am_sI (am_sI (am_sI h 9 s.d (Int32.ofInt 0)) 10 s.d (Int32.ofInt 0)) 11 s.d (Int32.ofInt 0)) (gMk s.n s.d s.idle s.code s.fol s.rF s.rL s.rN (upd s.aF s.d (Int32.ofInt 0)) (upd s.aL s.d (Int32.ofInt 0)) (updB s.aN s.d false)) := by
    refine ⟨?_, ?_, ?_, ?_, ?_, ?_⟩
    · simp only [hp_I', ne_eq, Nat.reduceEqDiff, not_false_eq_true, g3]; rfl
    · simp only [hp_I', ne_eq, Nat.reduceEqDiff, not_false_eq_true, g2]; rfl
    · simp only [hp_I', ne_eq, Nat.reduceEqDiff, not_false_eq_true, g0]; rfl
    · intro j a b
      simp only [hp_I', ne_eq, Nat.reduceEqDiff, not_false_eq_true]; exact gc j a b
    · intro j a
      simp only [hp_I', ne_eq, Nat.reduceEqDiff, not_false_eq_true]; exact gf j a
    · intro j a
      obtain ⟨r6, r7, r8, r9, r10, r11⟩ := gr j a
      simp only [hp_I, hp_I', ne_eq, Nat.reduceEqDiff, not_false_eq_true]
      exact ⟨r6, r7, r8, updc r9, updc r10, updBc (b := false) r11⟩
  obtain ⟨h', e, g', f'⟩ := g8_start k hd
  refine ⟨h', ?_, g', fr8_t fr f'⟩
  unfold f_X5_openBraces
  simp only [hp_I', ne_eq, Nat.reduceEqDiff, not_false_eq_true, g2, v, c, cond_true]
  rw [show vp_nar (am_at 2) (Int32.ofInt 0) = Int32.ofInt 0 from nar2 false, e, b2s]
theorem g8_end {h : am_H} {s : GS} (g : G8 h s) (hd : s.d ≤ 60) : ∃ h', f_X5_endRow h = some ((), h') ∧ G8 h' (gEnd s) ∧ fr8 h h' := by
  obtain ⟨g3, g2, g0, gc, gf, gr⟩ := g
  have v : am_vp (nI s.d) 61 = true := hp_vp (by omega) (by decide)
  have c : Int32.toNatClampNeg (nI s.d) = s.d := nI_clamp (by omega)
  obtain ⟨q6, q7, q8, q9, q10, q11⟩ := gr s.d (Nat.le_refl _)
  have fr : fr8 h (am_sI (am_sI (am_sI h 9 s.d (s.aF s.d ||| s.rF s.d)) 10 s.d (s.aL s.d ||| s.rL s.d)) 11 s.d (bI (s.aN s.d || s.rN s.d))) := fr8_s (fr8_s (fr8_s (fr8_r h) _ _ (by decide) (by decide)) _ _ (by decide) (by decide)) _ _ (by decide) (by decide)
  have k : G8 (am_sI (am_sI (am_sI h 9 s.d (s.aF s.d ||| s.rF s.d)) 10 s.d (s.aL s.d ||| s.rL s.d)) 11 s.d (bI (s.aN s.d || s.rN s.d))) (gEnd0 s) := by
    refine ⟨?_, ?_, ?_, ?_, ?_, ?_⟩
    · simp only [hp_I', ne_eq, Nat.reduceEqDiff, not_false_eq_true, g3]; rfl
    · simp only [hp_I', ne_eq, Nat.reduceEqDiff, not_false_eq_true, g2]; rfl
    · simp only [hp_I', ne_eq, Nat.reduceEqDiff, not_false_eq_true, g0]; rfl
    · intro j a b
      simp only [hp_I', ne_eq, Nat.reduceEqDiff, not_false_eq_true]; exact gc j a b
    · intro j a
      simp only [hp_I', ne_eq, Nat.reduceEqDiff, not_false_eq_true]; exact gf j a
    · intro j a
      obtain ⟨r6, r7, r8, r9, r10, r11⟩ := gr j a
      simp only [hp_I, hp_I', ne_eq, Nat.reduceEqDiff, not_false_eq_true]
      exact ⟨r6, r7, r8, updc r9, updc r10, updBc r11⟩
  obtain ⟨h', e, g', f'⟩ := g8_start k hd
  refine ⟨h', ?_, g', fr8_t fr f'⟩
  unfold f_X5_endRow
  simp only [hp_I', ne_eq, Nat.reduceEqDiff, not_false_eq_true, g2, v, c, cond_true, q6, q7, q8, q9, q10, q11, bI_or, nar2]
  rw [e, b2s]
theorem g8_fu (a1 a2 : Int32) (n N : Nat) (hN : N ≤ 15) : ∀ (k p : Nat) (h : am_H), am_I h 3 3 = nI N → p + k = N + 1 → g_X5_followUp (n + k + 1) 0 a1 a2 (nI p) h = some ((), am_sR h 5 (fun j => if p ≤ j ∧ j ≤ N ∧ bt a1 j = true then am_I h 5 j ||| a2 else am_I h 5 j)) := by
  intro k
  induction k with
  | zero =>
    intro p h h3 hp
    show (if am_I h 3 3 < nI p then _ else _) = _
    rw [h3, if_pos (nI_lt (by omega) (by omega))]
    have : (fun j => if p ≤ j ∧ j ≤ N ∧ bt a1 j = true then am_I h 5 j ||| a2 else am_I h 5 j) = am_I h 5 := by
      funext j; rw [if_neg (by omega)]
    rw [this, hp_sR_id]
  | succ k ih =>
    intro p h h3 hp
    show (if am_I h 3 3 < nI p then _ else Option.bind (if (((Int32.toUInt32 a1 >>> (Int32.toUInt32 (nI p) &&& Int32.toUInt32 31)).toInt32) &&& (Int32.ofInt 1)) = 0 then some h else bif am_vp (nI p) 16 then (some (am_sI h 5 (Int32.toNatClampNeg (nI p)) ((am_I h 5 (Int32.toNatClampNeg (nI p))) ||| a2))) else none) fun h2 => (g_X5_followUp (n + k + 1) 0 a1 a2 (nI p + Int32.ofInt 1) h2)) = _
    rw [h3, if_neg (nI_nlt (by omega) (by omega)), bt_8 a1 (by omega), hp_1, hp_vp (by omega) (by decide), cond_true, nI_clamp (by omega)]
    cases hb : bt a1 p
    · rw [if_pos (by decide), b_some, ih (p + 1) h h3 (by omega)]
      congr 3
      funext j
      by_cases hj : j = p
      · subst hj; rw [if_neg (by omega), if_neg (by rw [hb]; simp)]
      · by_cases h1 : p + 1 ≤ j ∧ j ≤ N ∧ bt a1 j = true
        · rw [if_pos h1, if_pos ⟨by omega, h1.2⟩]
        · rw [if_neg h1, if_neg (fun q => h1 ⟨by omega, q.2⟩)]
    · rw [if_neg (by decide), b_some, ih (p + 1) _ (by rw [hp_I' _ _ _ (by decide)]; exact h3) (by omega), hp_I, hp_sR_sI]
      congr 3
      funext j
      by_cases hj : j = p
      · subst hj; rw [if_neg (by omega), if_pos ⟨Nat.le_refl _, by omega, hb⟩]; unfold upd; rw [if_pos rfl]
      · have hu : upd (am_I h 5) p (am_I h 5 p ||| a2) j = am_I h 5 j := by unfold upd; rw [if_neg hj]
        rw [hu]
        by_cases h1 : p + 1 ≤ j ∧ j ≤ N ∧ bt a1 j = true
        · rw [if_pos h1, if_pos ⟨by omega, h1.2⟩]
        · rw [if_neg h1, if_neg (fun q => h1 ⟨by omega, q.2⟩)]
