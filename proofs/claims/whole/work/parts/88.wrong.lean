/-! ===== wrong letters: both say the same ===== -/
theorem fold_iff (P : Nat → Bool) (g : Nat → Bool) (h0 : g 0 = false) (hs : ∀ k, g (k + 1) = (P (15 - k) || g k)) : ∀ k, k ≤ 15 → (g k = true ↔ ∃ i, 15 - k < i ∧ i ≤ 15 ∧ P i = true) := by
  intro k
  induction k with
  | zero =>
    intro _
    rw [h0]
    constructor
    · intro h; cases h
    · rintro ⟨i, a, b, -⟩; omega
  | succ k ih =>
    intro hk
    rw [hs, Bool.or_eq_true, ih (by omega)]
    constructor
    · rintro (h | ⟨i, a, b, c⟩)
      · exact ⟨15 - k, by omega, by omega, h⟩
      · exact ⟨i, by omega, b, c⟩
    · rintro ⟨i, a, b, c⟩
      by_cases e : i = 15 - k
      · subst e; exact Or.inl c
      · exact Or.inr ⟨i, by omega, b, c⟩
theorem bAny_iff (r : TR) (s : TS) (o p : Nat) : bAny r s o p 15 = true ↔ ∃ i, 0 < i ∧ i ≤ 15 ∧ bt (r.fo o (s.1 o)) i = true ∧ r.ap o i = p := by
  rw [fold_iff (fun i => bt (r.fo o (s.1 o)) i && Nat.beq (r.ap o i) p) (bAny r s o p) rfl (fun _ => rfl) 15 (by decide)]
  constructor
  · rintro ⟨i, a, b, c⟩
    rw [Bool.and_eq_true] at c
    exact ⟨i, by omega, b, c.1, Nat.eq_of_beq_eq_true c.2⟩
  · rintro ⟨i, a, b, c, d⟩
    exact ⟨i, by omega, b, by rw [Bool.and_eq_true]; exact ⟨c, beq_t d⟩⟩
theorem bTak_iff (r : TR) (s : TS) (o p : Nat) : bTak r s o p 15 = true ↔ ∃ i, 0 < i ∧ i ≤ 15 ∧ bt (r.fo o (s.1 o)) i = true ∧ r.ap o i = p ∧ ps_pl (r.k p) (s.2 p) (r.al o i) < 3 := by
  rw [fold_iff (fun i => bt (r.fo o (s.1 o)) i && (Nat.beq (r.ap o i) p && Nat.blt (ps_pl (r.k p) (s.2 p) (r.al o i)) 3)) (bTak r s o p) rfl (fun _ => rfl) 15 (by decide)]
  constructor
  · rintro ⟨i, a, b, c⟩
    simp only [Bool.and_eq_true] at c
    exact ⟨i, by omega, b, c.1, Nat.eq_of_beq_eq_true c.2.1, Nat.le_of_ble_eq_true c.2.2⟩
  · rintro ⟨i, a, b, c, d, e⟩
    exact ⟨i, by omega, b, by simp only [Bool.and_eq_true]; exact ⟨c, beq_t d, blt_t e⟩⟩
theorem wB_iff (r : TR) (s : TS) (o f l : Nat) : wB r s o f l 15 = true ↔ ∃ i, 0 < i ∧ i ≤ 15 ∧ bt (r.fo o (s.1 o)) i = true ∧ r.aw o i = 1 ∧ r.aq o i = f ∧ r.al o i = l := by
  rw [fold_iff (fun i => bt (r.fo o (s.1 o)) i && (Nat.beq (r.aw o i) 1 && (Nat.beq (r.aq o i) f && Nat.beq (r.al o i) l))) (wB r s o f l) rfl (fun _ => rfl) 15 (by decide)]
  constructor
  · rintro ⟨i, a, b, c⟩
    simp only [Bool.and_eq_true] at c
    exact ⟨i, by omega, b, c.1, Nat.eq_of_beq_eq_true c.2.1, Nat.eq_of_beq_eq_true c.2.2.1, Nat.eq_of_beq_eq_true c.2.2.2⟩
  · rintro ⟨i, a, b, c, d, e, f'⟩
    exact ⟨i, by omega, b, by simp only [Bool.and_eq_true]; exact ⟨c, beq_t d, beq_t e, beq_t f'⟩⟩
theorem I32_ne0 {W : Int32} : W ≠ 0 ↔ ∃ l, l < 32 ∧ bt W l = true := by
  constructor
  · intro h
    by_cases q : ∃ l, l < 32 ∧ bt W l = true
    · exact q
    · exfalso
      apply h
      apply Int32.toBitVec.inj
      apply BitVec.eq_of_getLsbD_eq
      intro i hi
      have : bt W i = false := by
        cases e : bt W i
        · rfl
        · exact absurd ⟨i, hi, e⟩ q
      show bt W i = (0#32).getLsbD i
      rw [this]; simp
  · rintro ⟨l, -, e⟩ h
    subst h
    rw [show bt (0 : Int32) l = bt (Int32.ofInt 0) l from rfl, bt_0] at e
    cases e
theorem pl_iff {k c a : Nat} : ps_pl k c a < 3 ↔ ∃ j, j < ps_sz c ∧ (j = 0 ∨ k = 1) ∧ ps_lt c j = a + 1 := by
  have h3 := sz_le c
  unfold ps_pl
  constructor
  · intro h
    split at h
    · next q => exact ⟨0, by omega, Or.inl rfl, q.2⟩
    · split at h
      · next q => exact ⟨1, by omega, Or.inr q.1, q.2.2⟩
      · split at h
        · next q => exact ⟨2, by omega, Or.inr q.1, q.2.2⟩
        · omega
  · rintro ⟨j, a1, a2, a3⟩
    split
    · omega
    · next n0 =>
      split
      · omega
      · next n1 =>
        split
        · omega
        · next n2 =>
          exfalso
          have : j = 0 ∨ j = 1 ∨ j = 2 := by omega
          rcases this with rfl | rfl | rfl
          · exact n0 ⟨by omega, a3⟩
          · exact n1 ⟨by omega, by omega, a3⟩
          · exact n2 ⟨by omega, by omega, a3⟩
theorem tk_iff {k c : Nat} {W : Int32} : tkW k c W = true ↔ ∃ j, j < ps_sz c ∧ (j = 0 ∨ k = 1) ∧ bt W (ps_lt c j - 1) = true := by
  have h3 := sz_le c
  have one : ∀ j, (Nat.blt j (ps_sz c) && tkj k c W j) = true ↔ j < ps_sz c ∧ (j = 0 ∨ k = 1) ∧ bt W (ps_lt c j - 1) = true := by
    intro j
    unfold tkj
    simp only [Bool.and_eq_true, Bool.or_eq_true]
    constructor
    · rintro ⟨a, b, d⟩
      exact ⟨Nat.le_of_ble_eq_true a, b.imp Nat.eq_of_beq_eq_true Nat.eq_of_beq_eq_true, d⟩
    · rintro ⟨a, b, d⟩
      exact ⟨blt_t a, b.imp beq_t beq_t, d⟩
  unfold tkW
  rw [Bool.or_eq_true, Bool.or_eq_true, one, one, one]
  constructor
  · rintro (h | h | h)
    · exact ⟨0, h⟩
    · exact ⟨1, h⟩
    · exact ⟨2, h⟩
  · rintro ⟨j, h⟩
    have : j = 0 ∨ j = 1 ∨ j = 2 := by omega
    rcases this with rfl | rfl | rfl
    · exact Or.inl h
    · exact Or.inr (Or.inl h)
    · exact Or.inr (Or.inr h)
/-- of an office that only waits -/
theorem bar_eq {r : TR} (hr : r.ok) {s : TS} (hs : r.sk s) {o f : Nat} (ho : o < 3) (hf : f < 3) (hfo : f ≠ o) (hw : ∀ i, 0 < i → i ≤ 15 → bt (r.fo o (s.1 o)) i = true → r.aw o i = 1) {W : Int32} (hW : ∀ l, l < 32 → bt W l = wB r s o f l 15) : (W ≠ 0 ∧ s.2 (pn f o) ≠ 0 ∧ tkW (r.k (pn f o)) (s.2 (pn f o)) W = false) ↔ tBar r s o f = true := by
  have hp := pn_lt hf ho hfo
  have hk := hr.1 _ hp
  have hok := hs.2 _ hp
  have act : ∀ i, 0 < i → i ≤ 15 → bt (r.fo o (s.1 o)) i = true → (r.aw o i = 1 ∧ r.al o i < 4 ∧ (r.ap o i = pn f o ↔ r.aq o i = f)) := by
    intro i a b c
    have w := hw i a b c
    obtain ⟨aq3, aqo, al4, -⟩ := hr.2.2.2 o i ho (by omega) ⟨s.1 o, hs.1 o ho, c⟩ a
    refine ⟨w, al4, ?_⟩
    unfold TR.ap
    rw [if_pos w, pn_inj _ aq3 _ ho aqo _ hf _ ho hfo]
    omega
  have eA : W ≠ 0 ↔ bAny r s o (pn f o) 15 = true := by
    rw [I32_ne0, bAny_iff]
    constructor
    · rintro ⟨l, hl, e⟩
      rw [hW l hl, wB_iff] at e
      obtain ⟨i, a, b, c, d, q, -⟩ := e
      exact ⟨i, a, b, c, (act i a b c).2.2.mpr q⟩
    · rintro ⟨i, a, b, c, d⟩
      obtain ⟨w, al4, e⟩ := act i a b c
      exact ⟨r.al o i, by omega, by rw [hW _ (by omega), wB_iff]; exact ⟨i, a, b, c, w, e.mp d, rfl⟩⟩
  have eT : tkW (r.k (pn f o)) (s.2 (pn f o)) W = true ↔ bTak r s o (pn f o) 15 = true := by
    rw [tk_iff, bTak_iff]
    constructor
    · rintro ⟨j, a1, a2, a3⟩
      obtain ⟨l1, l4⟩ := ps_d hk hok a1
      rw [hW _ (by omega), wB_iff] at a3
      obtain ⟨i, a, b, c, d, q, z⟩ := a3
      exact ⟨i, a, b, c, (act i a b c).2.2.mpr q, pl_iff.mpr ⟨j, a1, a2, by omega⟩⟩
    · rintro ⟨i, a, b, c, d, z⟩
      obtain ⟨w, al4, e⟩ := act i a b c
      obtain ⟨j, a1, a2, a3⟩ := pl_iff.mp z
      exact ⟨j, a1, a2, by rw [a3, hW _ (by omega), wB_iff]; exact ⟨i, a, b, c, w, e.mp d, by omega⟩⟩
  unfold tBar
  rw [Bool.and_eq_true, Bool.and_eq_true, eA]
  constructor
  · rintro ⟨a, b, c⟩
    refine ⟨by rw [beq_f b]; rfl, a, ?_⟩
    cases q : bTak r s o (pn f o) 15
    · rfl
    · rw [eT.mpr q] at c; cases c
  · rintro ⟨a, b, c⟩
    refine ⟨b, ?_, ?_⟩
    · intro e; rw [beq_t e] at a; cases a
    · cases q : tkW (r.k (pn f o)) (s.2 (pn f o)) W
      · rfl
      · rw [eT.mp q] at c; cases c
