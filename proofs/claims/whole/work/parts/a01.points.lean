/-! ===== the bound: points of a text, that is sets of places that stand ahead of a place ===== -/
/-- n places, depth d; P y q: q follows y; Q i q: q begins the group at depth i; R i y: y ends the row at hand in depth i; A i y: y ends an earlier row; N i: that row may be empty; labels of places and of the point at hand -/
def PTa (n d : Nat) (P Q R A : Nat → Nat → Prop) (N : Nat → Prop) (lb cp : Nat → Nat) (B : Nat) : Prop :=
  (∀ y q, P y q → 1 ≤ q ∧ q ≤ n) ∧
  (∀ i, i ≤ d → ∀ q, Q i q → 1 ≤ q ∧ q ≤ n) ∧
  (∀ i, i ≤ d → ∀ q, R i q ∨ A i q → 1 ≤ q ∧ q ≤ n) ∧
  (∀ q, 1 ≤ q → q ≤ n → lb q = 0 → (∀ y y', P y q → P y' q → y = y') ∧ ∀ i, i ≤ d → ¬ Q i q) ∧
  (∀ q q', 1 ≤ q → q ≤ n → 1 ≤ q' → q' ≤ n → 1 ≤ lb q → lb q ≤ B → lb q = lb q' → (∀ y, P y q → P y q') ∧ ∀ i, i ≤ d → Q i q → Q i q') ∧
  (∀ q, 1 ≤ q → q ≤ n → B < lb q → ∃ i, i ≤ d ∧ lb q = 100 + i ∧ (∀ y, ¬ P y q) ∧ Q i q ∧ ∀ j, j ≤ d → j ≠ i → ¬ Q j q) ∧
  (∀ i, i ≤ d → (cp i = 0 ∧ ¬ N i ∧ ∀ y y', R i y → R i y' → y = y') ∨ (1 ≤ cp i ∧ cp i ≤ B ∧ ∀ q, 1 ≤ q → q ≤ n → lb q = cp i → (∀ y, P y q ↔ R i y) ∧ (Q i q ↔ N i) ∧ ∀ j, j ≤ d → j ≠ i → ¬ Q j q) ∨ (cp i = 100 + i ∧ (∀ y, ¬ R i y) ∧ N i)) ∧
  (∀ i j, i ≤ d → j ≤ d → i ≠ j → cp i = cp j → cp i = 0) ∧ B ≤ 60
theorem PT_act {n d : Nat} {P Q R A P' Q' R' A' : Nat → Nat → Prop} {N N' : Nat → Prop} {lb cp : Nat → Nat} {B : Nat} (h : PTa n d P Q R A N lb cp B)
    (hP : ∀ y q, P' y q ↔ P y q ∨ (R d y ∧ q = n + 1)) (hQ : ∀ i, i ≤ d → ∀ q, (Q' i q ↔ Q i q ∨ (i = d ∧ N d ∧ q = n + 1)))
    (hR : ∀ i, i ≤ d → i ≠ d → ∀ y, (R' i y ↔ R i y)) (hRd : ∀ y, R' d y ↔ y = n + 1) (hA : ∀ i, i ≤ d → ∀ y, (A' i y ↔ A i y))
    (hN : ∀ i, i ≤ d → i ≠ d → (N' i ↔ N i)) (hNd : ¬ N' d) :
    PTa (n + 1) d P' Q' R' A' N' (fun q => if q = n + 1 then cp d else lb q) (fun i => if i = d then 0 else cp i) B := by
  obtain ⟨h1, h2, h3, h4, h5, h6, h7, h8, h9⟩ := h
  have oP : ∀ y q, q ≤ n → (P' y q ↔ P y q) := fun y q hq => by rw [hP]; exact ⟨fun h => h.elim id (fun ⟨_, e⟩ => by omega), Or.inl⟩
  have oQ : ∀ i, i ≤ d → ∀ q, q ≤ n → (Q' i q ↔ Q i q) := fun i hi q hq => by rw [hQ i hi]; exact ⟨fun h => h.elim id (fun ⟨_, _, e⟩ => by omega), Or.inl⟩
  have nP : ∀ y, P' y (n + 1) ↔ R d y := fun y => by rw [hP]; exact ⟨fun h => h.elim (fun h => by have := h1 _ _ h; omega) (fun h => h.1), fun h => Or.inr ⟨h, rfl⟩⟩
  have nQ : ∀ i, i ≤ d → (Q' i (n + 1) ↔ i = d ∧ N d) := fun i hi => by rw [hQ i hi]; exact ⟨fun h => h.elim (fun h => by have := h2 i hi _ h; omega) (fun h => ⟨h.1, h.2.1⟩), fun h => Or.inr ⟨h.1, h.2, rfl⟩⟩
  have hcd := h7 d (Nat.le_refl _)
  refine ⟨?_, ?_, ?_, ?_, ?_, ?_, ?_, ?_, h9⟩
  · intro y q h
    rcases (hP y q).mp h with h | ⟨_, h⟩
    · have := h1 y q h; omega
    · omega
  · intro i hi q h
    rcases (hQ i hi q).mp h with h | ⟨_, _, h⟩
    · have := h2 i hi q h; omega
    · omega
  · intro i hi q h
    by_cases e : i = d
    · subst e
      rcases h with h | h
      · have := (hRd q).mp h; omega
      · have := h3 i hi q (Or.inr ((hA i hi q).mp h)); omega
    · rcases h with h | h
      · have := h3 i hi q (Or.inl ((hR i hi e q).mp h)); omega
      · have := h3 i hi q (Or.inr ((hA i hi q).mp h)); omega
  · intro q q1 qn hl
    by_cases e : q = n + 1
    · subst e
      have hl : cp d = 0 := by simpa using hl
      rcases hcd with ⟨_, hN0, hs⟩ | ⟨c1, _⟩ | ⟨c1, _⟩
      · exact ⟨fun y y' a b => hs y y' ((nP y).mp a) ((nP y').mp b), fun i hi hq => hN0 ((nQ i hi).mp hq).2⟩
      · omega
      · omega
    · have hl : lb q = 0 := by simpa [e] using hl
      have qn' : q ≤ n := by omega
      obtain ⟨a, b⟩ := h4 q q1 qn' hl
      exact ⟨fun y y' u v => a y y' ((oP y q qn').mp u) ((oP y' q qn').mp v), fun i hi hq => b i hi ((oQ i hi q qn').mp hq)⟩
  · intro q q' q1 qn q1' qn' l1 lB e
    by_cases e1 : q = n + 1
    · by_cases e2 : q' = n + 1
      · subst e1; subst e2; exact ⟨fun y h => h, fun i _ h => h⟩
      · subst e1
        have e : cp d = lb q' := by simpa [e2] using e
        have l1 : 1 ≤ cp d := by simpa using l1
        have lB : cp d ≤ B := by simpa using lB
        have q2 : q' ≤ n := by omega
        rcases hcd with ⟨c0, _⟩ | ⟨_, _, hq⟩ | ⟨c1, _⟩
        · omega
        · obtain ⟨a, b, c⟩ := hq q' q1' q2 e.symm
          refine ⟨fun y h => (oP y q' q2).mpr ((a y).mpr ((nP y).mp h)), fun i hi h => ?_⟩
          obtain ⟨rfl, hn⟩ := (nQ i hi).mp h
          exact (oQ i hi q' q2).mpr (b.mpr hn)
        · omega
    · by_cases e2 : q' = n + 1
      · subst e2
        have e : lb q = cp d := by simpa [e1] using e
        have l1 : 1 ≤ lb q := by simpa [e1] using l1
        have lB : lb q ≤ B := by simpa [e1] using lB
        have q2 : q ≤ n := by omega
        rcases hcd with ⟨c0, _⟩ | ⟨_, _, hq⟩ | ⟨c1, _⟩
        · omega
        · obtain ⟨a, b, c⟩ := hq q q1 q2 e
          refine ⟨fun y h => (nP y).mpr ((a y).mp ((oP y q q2).mp h)), fun i hi h => ?_⟩
          have hQq := (oQ i hi q q2).mp h
          by_cases ei : i = d
          · subst ei
            exact (nQ i hi).mpr ⟨rfl, b.mp hQq⟩
          · exact absurd hQq (c i hi ei)
        · omega
      · have e : lb q = lb q' := by simpa [e1, e2] using e
        have l1 : 1 ≤ lb q := by simpa [e1] using l1
        have lB : lb q ≤ B := by simpa [e1] using lB
        have q2 : q ≤ n := by omega
        have q2' : q' ≤ n := by omega
        obtain ⟨a, b⟩ := h5 q q' q1 q2 q1' q2' l1 lB e
        exact ⟨fun y h => (oP y q' q2').mpr (a y ((oP y q q2).mp h)), fun i hi h => (oQ i hi q' q2').mpr (b i hi ((oQ i hi q q2).mp h))⟩
  · intro q q1 qn hB
    by_cases e : q = n + 1
    · subst e
      have hB : B < cp d := by simpa using hB
      rcases hcd with ⟨c0, _⟩ | ⟨_, c1, _⟩ | ⟨c1, hr, hn⟩
      · omega
      · omega
      · refine ⟨d, Nat.le_refl _, by simpa using c1, fun y h => hr y ((nP y).mp h), (nQ d (Nat.le_refl _)).mpr ⟨rfl, hn⟩, fun j hj hne h => hne ((nQ j hj).mp h).1⟩
    · have hB : B < lb q := by simpa [e] using hB
      have q2 : q ≤ n := by omega
      obtain ⟨i, hi, hl, a, b, c⟩ := h6 q q1 q2 hB
      exact ⟨i, hi, by simpa [e] using hl, fun y h => a y ((oP y q q2).mp h), (oQ i hi q q2).mpr b, fun j hj hne h => c j hj hne ((oQ j hj q q2).mp h)⟩
  · intro i hi
    by_cases e : i = d
    · subst e
      refine Or.inl ⟨by simp, hNd, fun y y' a b => ?_⟩
      rw [(hRd y).mp a, (hRd y').mp b]
    · rcases h7 i hi with ⟨c0, hn, hs⟩ | ⟨c1, cB, hq⟩ | ⟨c1, hr, hn⟩
      · exact Or.inl ⟨by simpa [e] using c0, fun h => hn ((hN i hi e).mp h), fun y y' a b => hs y y' ((hR i hi e y).mp a) ((hR i hi e y').mp b)⟩
      · refine Or.inr (Or.inl ⟨by simpa [e] using c1, by simpa [e] using cB, ?_⟩)
        intro q q1 qn hl
        by_cases eq : q = n + 1
        · subst eq
          have hl : cp d = cp i := by simpa [e] using hl
          have := h8 i d hi (Nat.le_refl _) e hl.symm
          omega
        · have hl : lb q = cp i := by simpa [e, eq] using hl
          have q2 : q ≤ n := by omega
          obtain ⟨a, b, c⟩ := hq q q1 q2 hl
          exact ⟨fun y => ((oP y q q2).trans (a y)).trans (hR i hi e y).symm, ((oQ i hi q q2).trans b).trans (hN i hi e).symm, fun j hj hne h => c j hj hne ((oQ j hj q q2).mp h)⟩
      · exact Or.inr (Or.inr ⟨by simpa [e] using c1, fun y h => hr y ((hR i hi e y).mp h), (hN i hi e).mpr hn⟩)
  · intro i j hi hj hne e
    by_cases e1 : i = d
    · simp [e1]
    · by_cases e2 : j = d
      · simpa [e1, e2] using e
      · have e : cp i = cp j := by simpa [e1, e2] using e
        simpa [e1] using h8 i j hi hj hne e
