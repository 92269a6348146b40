/-! ===== reading: the reference's step ===== -/
theorem b4s {α β γ δ ε : Type} (a : α) (b : β) (c : γ) (d : δ) (f : α → β → γ → δ → Option ε) : am_b4 (some (a, b, c, d)) f = f a b c d := rfl
theorem o10 : (Int32.ofInt 1 = 0) = False := eq_false (by decide)
theorem o00 : (Int32.ofInt 0 = 0) = True := eq_true (by decide)
theorem rd_beg (sort c : Int32) (h : am_H) : (if sort = 0 then (if c = (Int32.ofInt 33) then some ((Int32.ofInt 1), h) else (if c = (Int32.ofInt 63) then some ((Int32.ofInt 1), h) else some ((Int32.ofInt 0), h))) else am_b2 (f_X9_isOfficeSign c h) fun r11 h12 => (some (r11, h12))) = some (bI (rd_st sort c), h) := by
  unfold rd_st
  by_cases h1 : sort = 0
  · rw [if_pos h1, decide_eq_true h1]
    unfold rd_mark
    by_cases h2 : c = Int32.ofInt 33
    · rw [if_pos h2, decide_eq_true h2]; rfl
    · rw [if_neg h2, decide_eq_false h2]
      by_cases h3 : c = Int32.ofInt 63
      · rw [if_pos h3, decide_eq_true h3]; rfl
      · rw [if_neg h3, decide_eq_false h3]; rfl
  · rw [if_neg h1, decide_eq_false h1, rd_d9, b2s]; rfl
def rd_next (n : Nat) (sort : Int32) (ph d i : Nat) (h : am_H) : Option (Nat × Nat) → Option (Unit × am_H)
  | none => g_X9_readPage n 0 sort (nI ph) (nI d) (nI i) (Int32.ofInt 0) h
  | some (p, e) => g_X9_readPage n 0 sort (nI p) (nI e) (nI (i + 1)) (Int32.ofInt 1) h
theorem rd_9 (n : Nat) (sort : Int32) {ph d i m : Nat} {h : am_H} (hm : am_I h 51 0 = nI m) (hi : i < m) (h60 : m ≤ 60) (hp : ph ≤ 4) (h1 : ph = 1 → 1 ≤ i) (hd : d + 1 < 2 ^ 31) :
    g_X9_readPage (n + 1) 0 sort (nI ph) (nI d) (nI i) (Int32.ofInt 1) h = rd_next n sort ph d i h (rd_step sort (am_I h 52 (i - 1)) (am_I h 52 i) ph d) := by
  rw [g_X9_readPage]
  have hc : Int32.toNatClampNeg (nI i) = i := nI_clamp (by omega)
  have q1 : ¬ nI m ≤ nI i := nI_ge hi (by omega)
  have q2 : ¬ Int32.ofInt 1 = 0 := by decide
  have q3 : am_vp (nI i) 60 = true := hp_vp (by omega) (by decide)
  have k0 : nI i + Int32.ofInt 0 = nI i := lt_add0 i
  have k1 : nI i + Int32.ofInt 1 = nI (i + 1) := hp_1 i
  have dd : (nI d ≤ 0) ↔ d = 0 := nI_le0 (by omega)
  have d1 : nI d + Int32.ofInt 1 = nI (d + 1) := hp_1 d
  simp only [am_let, hc, hm, if_neg q1, if_neg q2, q3, cond_true, rd_beg, b2s]
  generalize am_I h 52 i = c
  match ph, hp, h1 with
  | 0, _, _ =>
    have z0 : (nI 0 = 0) = True := eq_true (by decide)
    have z1 : (nI 0 = Int32.ofInt 1) = False := eq_false (by decide)
    have z2 : (nI 0 = Int32.ofInt 2) = False := eq_false (by decide)
    have z4 : (nI 0 = Int32.ofInt 4) = False := eq_false (by decide)
    have zl : (nI 0 ≤ Int32.ofInt 2) = True := eq_true (by decide)
    simp only [z0, z1, z2, z4, zl, if_true, if_false, b2s, d1]
    show _ = rd_next n sort 0 d i h (if c = Int32.ofInt 123 then some (0, d + 1) else bif rd_st sort c then some (1, d) else none)
    cases hs : rd_st sort c
    · simp only [bI_f, if_true, o00]
      by_cases a : c = Int32.ofInt 123
      · simp only [if_pos a, b4s, if_neg q2, b_some, k1]; rfl
      · simp only [if_neg a, b4s, if_true, o00, b_some, k0]; rfl
    · have a : ¬ c = Int32.ofInt 123 := by
        intro e; subst e
        have : ∀ s : Bool, (bif s then rd_mark (Int32.ofInt 123) else rd_dig (Int32.ofInt 123)) = false := by decide
        unfold rd_st at hs
        rw [this] at hs; cases hs
      simp only [bI_t, if_neg q2, b4s, b_some, k1, if_neg a]; rfl
  | 1, _, h1 =>
    have z0 : (nI 1 = 0) = False := eq_false (by decide)
    have z1 : (nI 1 = Int32.ofInt 1) = True := eq_true (by decide)
    have z2 : (nI 1 = Int32.ofInt 2) = False := eq_false (by decide)
    have z4 : (nI 1 = Int32.ofInt 4) = False := eq_false (by decide)
    have zl : (nI 1 ≤ Int32.ofInt 2) = True := eq_true (by decide)
    have i1 : 1 ≤ i := h1 rfl
    have ii : nI i - Int32.ofInt 1 = nI (i - 1) := nI_m1 (by omega)
    have iv : am_vp (nI (i - 1)) 60 = true := hp_vp (by omega) (by decide)
    have ic : Int32.toNatClampNeg (nI (i - 1)) = i - 1 := nI_clamp (by omega)
    simp only [z0, z1, z2, z4, zl, if_true, if_false, b2s, rd_d9, ii, iv, ic, cond_true]
    show _ = rd_next n sort 1 d i h (bif rd_dig c then (if sort = 0 then some (2, d) else if c = am_I h 52 (i - 1) then none else some (2, d)) else none)
    cases hs : rd_dig c
    · simp only [bI_f, if_true, o00, b2s, b4s, b_some, k0]; rfl
    · simp only [bI_t, if_neg q2]
      by_cases a : sort = 0
      · simp only [if_pos a, b2s, if_neg q2, b4s, b_some, k1]; rfl
      · simp only [if_neg a]
        by_cases a2 : c = am_I h 52 (i - 1)
        · simp only [if_pos a2, o10, o00, if_true, if_false, b2s, b4s, b_some, k0]; rfl
        · simp only [if_neg a2, b2s, if_neg q2, b4s, b_some, k1]; rfl
  | 2, _, _ =>
    have z0 : (nI 2 = 0) = False := eq_false (by decide)
    have z1 : (nI 2 = Int32.ofInt 1) = False := eq_false (by decide)
    have z2 : (nI 2 = Int32.ofInt 2) = True := eq_true (by decide)
    have z4 : (nI 2 = Int32.ofInt 4) = False := eq_false (by decide)
    have zl : (nI 2 ≤ Int32.ofInt 2) = True := eq_true (by decide)
    simp only [z0, z1, z2, z4, zl, if_true, if_false, b2s, rd_l9]
    show _ = rd_next n sort 2 d i h (bif rd_let c then some (3, d) else none)
    cases hs : rd_let c
    · simp only [bI_f, if_true, o00, b2s, b4s, b_some, k0]; rfl
    · simp only [bI_t, o10, if_false, b2s, b4s, b_some, k1]; rfl
  | 3, _, _ =>
    have z0 : (nI 3 = 0) = False := eq_false (by decide)
    have z1 : (nI 3 = Int32.ofInt 1) = False := eq_false (by decide)
    have z2 : (nI 3 = Int32.ofInt 2) = False := eq_false (by decide)
    have z4 : (nI 3 = Int32.ofInt 4) = False := eq_false (by decide)
    have zl : (nI 3 ≤ Int32.ofInt 2) = False := eq_false (by decide)
    simp only [z0, z1, z2, z4, zl, if_true, if_false, b2s]
    show _ = rd_next n sort 3 d i h (rd_it c d)
    unfold rd_it
    by_cases a1 : c = Int32.ofInt 59
    · simp only [if_pos a1, b4s, if_neg q2, b_some, k1]; rfl
    · simp only [if_neg a1]
      by_cases a2 : d = 0
      · simp only [if_pos a2, if_pos (dd.mpr a2), ite_self, b4s, if_true, o00, b_some, k0]; rfl
      · simp only [if_neg a2, if_neg (fun q => a2 (dd.mp q)), nI_p1 a2]
        by_cases a3 : c = Int32.ofInt 43
        · simp only [if_pos a3, b4s, if_neg q2, b_some, k1]; rfl
        · simp only [if_neg a3]
          by_cases a4 : c = Int32.ofInt 125
          · simp only [if_pos a4, b4s, if_neg q2, b_some, k1]; rfl
          · simp only [if_neg a4, b4s, if_true, o00, b_some, k0]; rfl
  | 4, _, _ =>
    have z0 : (nI 4 = 0) = False := eq_false (by decide)
    have z1 : (nI 4 = Int32.ofInt 1) = False := eq_false (by decide)
    have z2 : (nI 4 = Int32.ofInt 2) = False := eq_false (by decide)
    have z4 : (nI 4 = Int32.ofInt 4) = True := eq_true (by decide)
    have zl : (nI 4 ≤ Int32.ofInt 2) = False := eq_false (by decide)
    simp only [z0, z1, z2, z4, zl, if_true, if_false, b2s]
    show _ = rd_next n sort 4 d i h (if c = Int32.ofInt 42 then some (3, d) else rd_it c d)
    unfold rd_it
    by_cases a0 : c = Int32.ofInt 42
    · subst a0
      have b1 : (Int32.ofInt 42 = Int32.ofInt 59) = False := eq_false (by decide)
      have b2 : (Int32.ofInt 42 = Int32.ofInt 43) = False := eq_false (by decide)
      have b3 : (Int32.ofInt 42 = Int32.ofInt 125) = False := eq_false (by decide)
      simp only [b1, b2, b3, if_false, if_true, b4s, if_neg q2, b_some, k1]; rfl
    · simp only [if_neg a0]
      by_cases a1 : c = Int32.ofInt 59
      · simp only [if_pos a1, b4s, if_neg q2, b_some, k1]; rfl
      · simp only [if_neg a1]
        by_cases a2 : d = 0
        · simp only [if_pos a2, if_pos (dd.mpr a2), ite_self, b4s, if_true, o00, b_some, k0]; rfl
        · simp only [if_neg a2, if_neg (fun q => a2 (dd.mp q)), nI_p1 a2]
          by_cases a3 : c = Int32.ofInt 43
          · simp only [if_pos a3, b4s, if_neg q2, b_some, k1]; rfl
          · simp only [if_neg a3]
            by_cases a4 : c = Int32.ofInt 125
            · simp only [if_pos a4, b4s, if_neg q2, b_some, k1]; rfl
            · simp only [if_neg a4, b4s, if_true, o00, b_some, k0]; rfl
