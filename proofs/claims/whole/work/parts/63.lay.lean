/-! ===== gathering: the reference's joins, items, acts ===== -/
theorem nI_mul (a b : Nat) : nI a * nI b = nI (a * b) := (Int32.ofNat_mul a b).symm
theorem g9_ix (b p : Nat) : ((Int32.ofInt 16) * nI b) + nI p = nI (16 * b + p) := by
  rw [show Int32.ofInt 16 = nI 16 from rfl, nI_mul, nI_add]
theorem or_0 (x : Int32) : x ||| Int32.ofInt 0 = x := by
  apply Int32.toBitVec.inj
  show x.toBitVec ||| 0#32 = x.toBitVec
  simp
theorem g9_jl (a1 a2 : Int32) (n b : Nat) (hb : b < 8) : ∀ (k p : Nat) (h : am_H), p + k = 16 → g_X9_join (n + k + 1) 0 (nI b) a1 a2 (nI p) h = some ((), am_sR h 54 (fun j => if 16 * b + p ≤ j ∧ j < 16 * b + 16 ∧ bt a1 (j - 16 * b) = true then am_I h 54 j ||| a2 else am_I h 54 j)) := by
  intro k
  induction k with
  | zero =>
    intro p h hp
    have : p = 16 := by omega
    subst this
    have l : Int32.ofInt 16 ≤ nI 16 := by decide
    generalize nI 16 = x at l
    show (if Int32.ofInt 16 ≤ x then _ else _) = _
    rw [if_pos l]
    have : (fun j => if 16 * b + 16 ≤ j ∧ j < 16 * b + 16 ∧ bt a1 (j - 16 * b) = true then am_I h 54 j ||| a2 else am_I h 54 j) = am_I h 54 := by
      funext j; rw [if_neg (by omega)]
    rw [this, hp_sR_id]
  | succ k ih =>
    intro p h hp
    show (if Int32.ofInt 16 ≤ nI p then _ else bif am_vp (((Int32.ofInt 16) * nI b) + nI p) 128 then (Option.bind (if ((a1 >>> (nI p &&& 31)) &&& (Int32.ofInt 1)) = (Int32.ofInt 1) then some a2 else some (Int32.ofInt 0)) fun y3 => (g_X9_join (n + k + 1) 0 (nI b) a1 a2 (nI p + Int32.ofInt 1) (am_sI h 54 (Int32.toNatClampNeg (((Int32.ofInt 16) * nI b) + nI p)) ((am_I h 54 (Int32.toNatClampNeg (((Int32.ofInt 16) * nI b) + nI p))) ||| y3)))) else none) = _
    rw [if_neg (show ¬ Int32.ofInt 16 ≤ nI p from nI_ge (a := p) (b := 16) (by omega) (by decide)), g9_ix, bt_9 a1 (by omega), hp_1, hp_vp (by omega) (by decide), cond_true, nI_clamp (by omega)]
    have hu : ∀ y j, j ≠ 16 * b + p → upd (am_I h 54) (16 * b + p) y j = am_I h 54 j := fun y j hj => by unfold upd; rw [if_neg hj]
    have hv : ∀ y, upd (am_I h 54) (16 * b + p) y (16 * b + p) = y := fun y => by unfold upd; rw [if_pos rfl]
    have step : ∀ y, y = (if bt a1 p = true then am_I h 54 (16 * b + p) ||| a2 else am_I h 54 (16 * b + p)) → g_X9_join (n + k + 1) 0 (nI b) a1 a2 (nI (p + 1)) (am_sI h 54 (16 * b + p) y) = some ((), am_sR h 54 (fun j => if 16 * b + p ≤ j ∧ j < 16 * b + 16 ∧ bt a1 (j - 16 * b) = true then am_I h 54 j ||| a2 else am_I h 54 j)) := by
      intro y hy
      rw [ih (p + 1) _ (by omega), hp_I, hp_sR_sI]
      congr 3
      funext j
      by_cases hj : j = 16 * b + p
      · subst hj
        rw [if_neg (by omega), hv, hy, show 16 * b + p - 16 * b = p from by omega]
        by_cases hb2 : bt a1 p = true
        · rw [if_pos hb2, if_pos ⟨Nat.le_refl _, by omega, hb2⟩]
        · rw [if_neg hb2, if_neg (fun q => hb2 q.2.2)]
      · rw [hu y j hj]
        by_cases h1 : 16 * b + (p + 1) ≤ j ∧ j < 16 * b + 16 ∧ bt a1 (j - 16 * b) = true
        · rw [if_pos h1, if_pos ⟨by omega, h1.2⟩]
        · rw [if_neg h1, if_neg (fun q => h1 ⟨by omega, q.2⟩)]
    cases hb2 : bt a1 p
    · rw [if_neg (by decide), b_some, or_0]
      exact step _ (by rw [hb2]; rfl)
    · rw [if_pos (by decide), b_some]
      exact step _ (by rw [hb2]; rfl)
theorem fr9_R {b : Nat} {h h1 : am_H} (a : fr9 b h h1) (f : Nat → Int32) (hf : ∀ k, k < 16 * b → f k = am_I h1 54 k) : fr9 b h (am_sR h1 54 f) := by
  refine fr9_t a ⟨⟨rfl, rfl, rfl, rfl⟩, fun q a c d e f => hp_IR' _ _ (by omega), fun j _ _ => by rw [hp_IR' _ _ (by omega)], fun j hj => ⟨by rw [hp_IR' _ _ (by omega)], by rw [hp_IR]; exact hf j hj⟩, fun k _ => by rw [hp_IR' _ _ (by omega)]⟩
theorem g9_join {b : Nat} (hb : b < 8) {h : am_H} {s : GS} (g : G9 b h s) (F : Nat) (hF : 20 ≤ F) (a1 a2 : Int32) (hm : ∀ p, p < 16 → bt a1 p = true → p ≤ s.n) : ∃ h', f_X9_join F (nI b) a1 a2 h = some ((), h') ∧ G9 b h' (gJoin a1 a2 s) ∧ fr9 b h h' := by
  obtain ⟨g3, g2, g0, gc, gf, gr⟩ := g
  have e := g9_jl a1 a2 (F - 16) b hb 15 1 h (by omega)
  rw [show F - 16 + 15 + 1 = F from by omega] at e
  refine ⟨_, e, ⟨?_, ?_, ?_, ?_, ?_, ?_⟩, fr9_R (fr9_r b h) _ (fun k hk => by rw [if_neg (by omega)])⟩
  · rw [hp_IR' _ _ (by decide)]; exact g3
  · rw [hp_IR' _ _ (by decide)]; exact g2
  · rw [hp_IR' _ _ (by decide)]; exact g0
  · intro j a b
    rw [hp_IR' _ _ (by decide)]; exact gc j a b
  · intro j a
    rw [hp_IR]
    show (if 16 * b + 1 ≤ 16 * b + j ∧ 16 * b + j < 16 * b + 16 ∧ bt a1 (16 * b + j - 16 * b) = true then am_I h 54 (16 * b + j) ||| a2 else am_I h 54 (16 * b + j)) = (if 1 ≤ j ∧ j ≤ s.n ∧ bt a1 j = true then s.fol j ||| a2 else s.fol j)
    rw [gf j a, show 16 * b + j - 16 * b = j from by omega]
    by_cases h1 : 1 ≤ j ∧ j ≤ s.n ∧ bt a1 j = true
    · rw [if_pos h1, if_pos ⟨by omega, by omega, h1.2.2⟩]
    · rw [if_neg h1, if_neg (fun q => h1 ⟨by omega, hm j a q.2.2, q.2.2⟩)]
  · intro j a
    obtain ⟨r6, r7, r8, r9, r10, r11⟩ := gr j a
    rw [hp_IR' _ _ (by decide), hp_IR' _ _ (by decide), hp_IR' _ _ (by decide), hp_IR' _ _ (by decide), hp_IR' _ _ (by decide), hp_IR' _ _ (by decide)]
    exact ⟨r6, r7, r8, r9, r10, r11⟩
theorem g9_item {b : Nat} (hb : b < 8) {h : am_H} {s : GS} (g : G9 b h s) (hd : s.d ≤ 60) (F : Nat) (hF : 20 ≤ F) (f l : Int32) (i : Bool) (hm : ∀ p, p < 16 → bt (s.rL s.d) p = true → p ≤ s.n) : ∃ h', f_X9_item F (nI b) f l (bI i) h = some ((), h') ∧ G9 b h' (gItem f l i s) ∧ fr9 b h h' := by
  have v : am_vp (nI s.d) 61 = true := hp_vp (by omega) (by decide)
  have c : Int32.toNatClampNeg (nI s.d) = s.d := nI_clamp (by omega)
  have q2 := g.2.1
  have q7 := (g.2.2.2.2.2 s.d (Nat.le_refl _)).2.1
  obtain ⟨h3, e3, G3, F3⟩ := g9_join hb g F hF (s.rL s.d) f hm
  obtain ⟨g3, g2, g0, gc, gf, gr⟩ := G3
  have g2 : am_I h3 51 22 = nI s.d := g2
  obtain ⟨p6, p7, p8, p9, p10, p11⟩ := gr s.d (Nat.le_refl _)
  have p6 : am_I h3 60 s.d = s.rF s.d := p6
  have p7 : am_I h3 61 s.d = s.rL s.d := p7
  have p8 : am_I h3 62 s.d = bI (s.rN s.d) := p8
  refine ⟨am_sI (am_sI (am_sI h3 60 s.d (bif s.rN s.d then s.rF s.d ||| f else s.rF s.d)) 61 s.d (bif i then s.rL s.d ||| l else l)) 62 s.d (bI (s.rN s.d && i)), ?_, ⟨?_, ?_, ?_, ?_, ?_, ?_⟩, fr9_s (fr9_s (fr9_s F3 _ _ (by decide) (by decide)) _ _ (by decide) (by decide)) _ _ (by decide) (by decide)⟩
  · unfold f_X9_item
    simp only [q2, v, c, q7, cond_true, e3, b2s, g2, p6, p7, p8, hp_I', ne_eq, Nat.reduceEqDiff, not_false_eq_true]
    cases s.rN s.d <;> cases i
    · simp only [bI_f, o00, if_true, b_some, or_0, cond_false, Bool.and_self]; rfl
    · simp only [bI_f, bI_t, o00, o10, if_true, if_false, b_some, or_0, cond_false, cond_true, Bool.and_true]; rfl
    · simp only [bI_f, bI_t, o00, o10, if_true, if_false, b_some, cond_false, cond_true, Bool.and_false]; rfl
    · simp only [bI_t, o10, if_false, b_some, cond_true, Bool.and_self]; rfl
  · simp only [hp_I', ne_eq, Nat.reduceEqDiff, not_false_eq_true]; exact g3
  · simp only [hp_I', ne_eq, Nat.reduceEqDiff, not_false_eq_true]; exact g2
  · simp only [hp_I', ne_eq, Nat.reduceEqDiff, not_false_eq_true]; exact g0
  · intro j a b
    simp only [hp_I', ne_eq, Nat.reduceEqDiff, not_false_eq_true]; exact gc j a b
  · intro j a
    simp only [hp_I', ne_eq, Nat.reduceEqDiff, not_false_eq_true]; exact gf j a
  · intro j a
    obtain ⟨r6, r7, r8, r9, r10, r11⟩ := gr j a
    have r6 : am_I h3 60 j = s.rF j := r6
    simp only [hp_I, hp_I', ne_eq, Nat.reduceEqDiff, not_false_eq_true]
    refine ⟨?_, updc r7, updBc r8, r9, r10, r11⟩
    show _ = (bif s.rN s.d then upd s.rF s.d (s.rF s.d ||| f) else s.rF) j
    cases s.rN s.d
    · show upd (am_I h3 60) s.d (s.rF s.d) j = s.rF j
      unfold upd
      by_cases e : j = s.d
      · rw [if_pos e, e]
      · rw [if_neg e]; exact r6
    · exact updc r6
