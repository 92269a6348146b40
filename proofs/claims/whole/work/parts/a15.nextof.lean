/-! ===== sets of places: numbers, and what the reference makes of them ===== -/
theorem bt_nI (v q : Nat) : bt (nI v) q = (decide (q < 32) && v.testBit q) := by
  show (BitVec.ofNat 32 v).getLsbD q = _
  rw [BitVec.getLsbD_ofNat]
theorem uMk_lt (S : Nat → Prop) : uMk S < 2 ^ 16 := by
  apply Nat.lt_pow_two_of_testBit
  intro i hi
  cases e : (uMk S).testBit i with
  | false => rfl
  | true => have := ((uMk_t S i).mp e).1; omega
theorem bt_uMk (S : Nat → Prop) (q : Nat) : bt (nI (uMk S)) q = true ↔ q < 16 ∧ S q := by
  rw [bt_nI, Bool.and_eq_true, decide_eq_true_eq, uMk_t]
  exact ⟨fun h => h.2, fun h => ⟨by omega, h⟩⟩
theorem bt_ext {x y : Int32} (h : ∀ q, bt x q = true ↔ bt y q = true) : x = y := by
  apply Int32.toBitVec.inj
  apply BitVec.eq_of_getLsbD_eq
  intro i _
  exact Bool.eq_iff_iff.mpr (h i)
theorem uMk_of {x : Int32} {S : Nat → Prop} (h : ∀ q, bt x q = true ↔ q < 16 ∧ S q) : x = nI (uMk S) := bt_ext (fun q => (h q).trans (bt_uMk S q).symm)
theorem uMk_id {v : Nat} (hv : v < 2 ^ 16) : uMk (fun q => v.testBit q = true) = v := by
  apply Nat.eq_of_testBit_eq
  intro q
  rw [Bool.eq_iff_iff, uMk_t]
  constructor
  · exact fun h => h.2
  · intro h
    refine ⟨?_, h⟩
    apply Classical.byContradiction
    intro hq
    rw [Nat.testBit_lt_two_pow (Nat.lt_of_lt_of_le hv (Nat.pow_le_pow_right (by decide) (by omega)))] at h
    cases h
theorem bI_eq1 (b : Bool) : (bI b = Int32.ofInt 1) ↔ b = true := by cases b <;> decide
/-- a book of the reference: n acts, sorts, what follows -/
def B9 (h : am_H) (b n : Nat) (so : Nat → Nat) (fo : Nat → Nat → Prop) : Prop := b < 8 ∧ n ≤ 15 ∧ am_I h 55 b = nI n ∧ (∀ i, 1 ≤ i → i ≤ n → ∀ h', f_X9_asNumber (am_I h 53 (16 * b + i)) h' = some (nI (so i), h')) ∧ (∀ i, i < 16 → ∀ q, bt (am_I h 54 (16 * b + i)) q = true ↔ fo i q)
/-- what may come next of a set -/
def bNx (fo : Nat → Nat → Prop) (X : Nat) (q : Nat) : Prop := ∃ p, p < 16 ∧ X.testBit p = true ∧ fo p q
theorem nx9_loop {h : am_H} {b n : Nat} {so : Nat → Nat} {fo : Nat → Nat → Prop} (hb : B9 h b n so fo) (X : Nat) (N : Nat) : ∀ (k i : Nat) (x : Int32), i + k = 16 → (∀ q, bt x q = true ↔ ∃ p, p < i ∧ X.testBit p = true ∧ fo p q) → ∃ y, g_X9_nextOf (N + k + 1) 0 (nI b) (nI X) x (nI i) h = some (y, h) ∧ ∀ q, bt y q = true ↔ bNx fo X q := by
  intro k
  induction k with
  | zero =>
    intro i x hi hx
    have : i = 16 := by omega
    subst this
    exact ⟨x, rfl, hx⟩
  | succ k ih =>
    intro i x hi hx
    obtain ⟨b8, n15, -, -, h65⟩ := hb
    have mm : ¬ Int32.ofInt 16 ≤ nI i := nI_ge (a := i) (b := 16) (by omega) (by omega)
    have a1 : nI i + Int32.ofInt 1 = nI (i + 1) := hp_1 i
    have ix : (Int32.ofInt 16) * nI b + nI i = nI (16 * b + i) := by rw [show Int32.ofInt 16 = nI 16 from rfl, nI_mul, nI_add]
    have v : am_vp (nI (16 * b + i)) 128 = true := hp_vp (by omega) (by decide)
    have c : Int32.toNatClampNeg (nI (16 * b + i)) = 16 * b + i := nI_clamp (by omega)
    rw [show N + (k + 1) + 1 = (N + k + 1) + 1 from rfl, g_X9_nextOf, if_neg mm, bt_9 _ (by omega), a1, ix, v, c, cond_true]
    have hX : bt (nI X) i = X.testBit i := by rw [bt_nI, decide_eq_true (by omega), Bool.true_and]
    rw [hX]
    cases ht : X.testBit i with
    | true =>
      rw [if_pos ((bI_eq1 true).mpr rfl), b_some]
      apply ih (i + 1) _ (by omega)
      intro q
      rw [bt_or, or_t, hx q, h65 i (by omega) q]
      constructor
      · rintro (⟨p, a, b, c⟩ | c)
        · exact ⟨p, by omega, b, c⟩
        · exact ⟨i, by omega, ht, c⟩
      · rintro ⟨p, a, b, c⟩
        by_cases e : p = i
        · rw [e] at c; exact Or.inr c
        · exact Or.inl ⟨p, by omega, b, c⟩
    | false =>
      rw [if_neg (fun h => by have := (bI_eq1 false).mp h; cases this), b_some]
      apply ih (i + 1) _ (by omega)
      intro q
      rw [bt_or, or_t, hx q, bt_0]
      constructor
      · rintro (⟨p, a, b, c⟩ | c)
        · exact ⟨p, by omega, b, c⟩
        · cases c
      · rintro ⟨p, a, b, c⟩
        by_cases e : p = i
        · subst e; rw [ht] at b; cases b
        · exact Or.inl ⟨p, by omega, b, c⟩
theorem nx_9 {h : am_H} {b n : Nat} {so : Nat → Nat} {fo : Nat → Nat → Prop} (hb : B9 h b n so fo) (X : Nat) {F : Nat} (hF : 17 ≤ F) : ∃ y, f_X9_nextOf F (nI b) (nI X) h = some (y, h) ∧ ∀ q, bt y q = true ↔ bNx fo X q := by
  obtain ⟨y, e, hy⟩ := nx9_loop hb X (F - 17) 16 0 (Int32.ofInt 0) rfl (fun q => by rw [bt_0]; exact ⟨(fun h => nomatch h), fun ⟨p, hp, _⟩ => by omega⟩)
  rw [show F - 17 + 16 + 1 = F from by omega] at e
  exact ⟨y, e, hy⟩
/-- the set that a set leads to -/
noncomputable def bLd (n : Nat) (so : Nat → Nat) (fo : Nat → Nat → Prop) (X a : Nat) : Nat := uMk (fun q => 1 ≤ q ∧ q ≤ n ∧ so q = a ∧ bNx fo X q)
theorem ld9_loop {h : am_H} {b n : Nat} {so : Nat → Nat} {fo : Nat → Nat → Prop} (hb : B9 h b n so fo) (hso : ∀ i, so i < 24) (X a : Nat) (ha : a < 24) {y : Int32} (hy : ∀ q, bt y q = true ↔ bNx fo X q) (N : Nat) : ∀ (k i : Nat) (x : Int32), i + k = n + 1 → 1 ≤ i → (∀ q, bt x q = true ↔ q < i ∧ 1 ≤ q ∧ q ≤ n ∧ so q = a ∧ bNx fo X q) → g_X9_lead (N + k + 1) 0 (nI b) (nI X) (nI a) y x (nI i) h = some (nI (bLd n so fo X a), h) := by
  intro k
  induction k with
  | zero =>
    intro i x hi h1 hx
    obtain ⟨b8, n15, h66, -, -⟩ := hb
    have vb : am_vp (nI b) 8 = true := hp_vp b8 (by decide)
    have cb : Int32.toNatClampNeg (nI b) = b := nI_clamp (by omega)
    rw [g_X9_lead, vb, cond_true, cb, h66, if_pos (by rw [nI_ltI (by omega) (by omega)]; omega)]
    have : x = nI (bLd n so fo X a) := uMk_of (fun q => (hx q).trans ⟨fun h => ⟨by omega, h.2⟩, fun h => ⟨by have := h.2.2.1; omega, h.2⟩⟩)
    rw [this]
  | succ k ih =>
    intro i x hi h1 hx
    have hb' := hb
    obtain ⟨b8, n15, h66, h64, -⟩ := hb'
    have vb : am_vp (nI b) 8 = true := hp_vp b8 (by decide)
    have cb : Int32.toNatClampNeg (nI b) = b := nI_clamp (by omega)
    have a1 : nI i + Int32.ofInt 1 = nI (i + 1) := hp_1 i
    have ix : (Int32.ofInt 16) * nI b + nI i = nI (16 * b + i) := by rw [show Int32.ofInt 16 = nI 16 from rfl, nI_mul, nI_add]
    have v : am_vp (nI (16 * b + i)) 128 = true := hp_vp (by omega) (by decide)
    have c : Int32.toNatClampNeg (nI (16 * b + i)) = 16 * b + i := nI_clamp (by omega)
    rw [show N + (k + 1) + 1 = (N + k + 1) + 1 from rfl, g_X9_lead, vb, cond_true, cb, h66, if_neg (by rw [nI_ltI (by omega) (by omega)]; omega), bt_9 _ (by omega), a1, ix, v, c, cond_true, h64 i h1 (by omega), b2s]
    have se : nI (so i) = nI a ↔ so i = a := ⟨fun h => by
      have h' := congrArg Int32.toNatClampNeg h
      rw [nI_clamp (by have := hso i; omega), nI_clamp (by omega)] at h'
      exact h', fun h => by rw [h]⟩
    cases ht : bt y i with
    | true =>
      rw [if_pos ((bI_eq1 true).mpr rfl)]
      by_cases e : so i = a
      · rw [if_pos (se.mpr e), b2s]
        apply ih (i + 1) _ (by omega) (by omega)
        intro q
        rw [bt_or, or_t, hx q, show (Int32.ofInt 1 <<< (nI i &&& 31)) = gBit i from rfl, bt_B (by omega)]
        constructor
        · rintro (⟨p, h⟩ | rfl)
          · exact ⟨by omega, h⟩
          · exact ⟨by omega, h1, by omega, e, (hy q).mp ht⟩
        · rintro ⟨p, h⟩
          by_cases eq : q = i
          · exact Or.inr eq
          · exact Or.inl ⟨by omega, h⟩
      · rw [if_neg (fun h => e (se.mp h)), b2s]
        apply ih (i + 1) _ (by omega) (by omega)
        intro q
        rw [bt_or, or_t, hx q, bt_0]
        constructor
        · rintro (⟨p, h⟩ | h)
          · exact ⟨by omega, h⟩
          · cases h
        · rintro ⟨p, h⟩
          by_cases eq : q = i
          · subst eq; exact absurd h.2.2.1 e
          · exact Or.inl ⟨by omega, h⟩
    | false =>
      rw [if_neg (fun h => by have := (bI_eq1 false).mp h; cases this), b2s]
      apply ih (i + 1) _ (by omega) (by omega)
      intro q
      rw [bt_or, or_t, hx q, bt_0]
      constructor
      · rintro (⟨p, h⟩ | h)
        · exact ⟨by omega, h⟩
        · cases h
      · rintro ⟨p, h⟩
        by_cases eq : q = i
        · subst eq; rw [(hy q).mpr h.2.2.2] at ht; cases ht
        · exact Or.inl ⟨by omega, h⟩
theorem ld_9 {h : am_H} {b n : Nat} {so : Nat → Nat} {fo : Nat → Nat → Prop} (hb : B9 h b n so fo) (hso : ∀ i, so i < 24) (X a : Nat) (ha : a < 24) {F : Nat} (hF : 20 ≤ F) : f_X9_lead F (nI b) (nI X) (nI a) h = some (nI (bLd n so fo X a), h) := by
  obtain ⟨y, e, hy⟩ := nx_9 hb X (F := F) (by omega)
  unfold f_X9_lead
  have n15 := hb.2.1
  rw [e, b2s, show F = (F - n - 1) + n + 1 from by omega]
  exact ld9_loop hb hso X a ha hy (F - n - 1) n 1 (Int32.ofInt 0) (by omega) (Nat.le_refl _) (fun q => by rw [bt_0]; exact ⟨(fun h => nomatch h), fun h => by omega⟩)
