/-- a group ends, as a star -/
theorem PT_star {n d : Nat} {P Q R A P' Q' R' A' : Nat → Nat → Prop} {N N' : Nat → Prop} {lb cp : Nat → Nat} {B : Nat} (h : PTa n (d + 1) P Q R A N lb cp B) (hB60 : B < 60) {l : Nat → Prop} (hl : ∀ y, l y → R (d + 1) y ∨ A (d + 1) y)
    (hP : ∀ y q, P' y q ↔ P y q ∨ ((l y ∨ R d y) ∧ Q (d + 1) q)) (hQ : ∀ i, i ≤ d → ∀ q, (Q' i q ↔ Q i q ∨ (i = d ∧ N d ∧ Q (d + 1) q)))
    (hR : ∀ i, i ≤ d → i ≠ d → ∀ y, (R' i y ↔ R i y)) (hRd : ∀ y, R' d y ↔ l y ∨ R d y) (hA : ∀ i, i ≤ d → ∀ y, (A' i y ↔ A i y))
    (hN : ∀ i, i ≤ d → (N' i ↔ N i)) :
    PTa n d P' Q' R' A' N' (fun q => if lb q = 100 + (d + 1) then B + 1 else lb q) (fun i => if i = d then B + 1 else cp i) (B + 1) := by
  have hcp := fun i hi => PT_cp h (i := i) hi
  have hlb := fun q q1 qn => PT_lb h (q := q) q1 qn
  obtain ⟨h1, h2, h3, h4, h5, h6, h7, h8, h9⟩ := h
  have up : ∀ i, i ≤ d → i ≤ d + 1 := by omega
  have dd : d + 1 ≤ d + 1 := Nat.le_refl _
  -- places that are not at the group's begin stay
  have oP : ∀ y q, ¬ Q (d + 1) q → (P' y q ↔ P y q) := fun y q hq => by rw [hP]; exact ⟨fun h => h.elim id (fun ⟨_, e⟩ => absurd e hq), Or.inl⟩
  have oQ : ∀ i, i ≤ d → ∀ q, ¬ Q (d + 1) q → (Q' i q ↔ Q i q) := fun i hi q hq => by rw [hQ i hi]; exact ⟨fun h => h.elim id (fun ⟨_, _, e⟩ => absurd e hq), Or.inl⟩
  -- those of the group's own begin
  have st : ∀ q, 1 ≤ q → q ≤ n → lb q = 100 + (d + 1) → (∀ y, P' y q ↔ l y ∨ R d y) ∧ (∀ i, i ≤ d → (Q' i q ↔ i = d ∧ N d)) := by
    intro q q1 qn e
    obtain ⟨i, hi, hl', a, b, c⟩ := h6 q q1 qn (by omega)
    have : i = d + 1 := by omega
    subst this
    refine ⟨fun y => ?_, fun i hi => ?_⟩
    · rw [hP]; exact ⟨fun h => h.elim (fun h => absurd h (a y)) (fun h => h.1), fun h => Or.inr ⟨h, b⟩⟩
    · rw [hQ i hi]; exact ⟨fun h => h.elim (fun h => absurd h (c i (up i hi) (by omega))) (fun h => ⟨h.1, h.2.1⟩), fun h => Or.inr ⟨h.1, h.2, b⟩⟩
  refine ⟨?_, ?_, ?_, ?_, ?_, ?_, ?_, ?_, by omega⟩
  · intro y q h
    rcases (hP y q).mp h with h | ⟨_, h⟩
    · exact h1 y q h
    · exact h2 _ dd q h
  · intro i hi q h
    rcases (hQ i hi q).mp h with h | ⟨_, _, h⟩
    · exact h2 i (up i hi) q h
    · exact h2 _ dd q h
  · intro i hi q h
    rcases h with h | h
    · by_cases e : i = d
      · subst e
        rcases (hRd q).mp h with h | h
        · exact h3 _ dd q (hl q h)
        · exact h3 i (up i hi) q (Or.inl h)
      · exact h3 i (up i hi) q (Or.inl ((hR i hi e q).mp h))
    · exact h3 i (up i hi) q (Or.inr ((hA i hi q).mp h))
  · intro q q1 qn hl0
    by_cases e : lb q = 100 + (d + 1)
    · simp [e] at hl0
    · have hl0 : lb q = 0 := by simpa [e] using hl0
      obtain ⟨a, b⟩ := h4 q q1 qn hl0
      have nq := b (d + 1) dd
      exact ⟨fun y y' u v => a y y' ((oP y q nq).mp u) ((oP y' q nq).mp v), fun i hi hq => b i (up i hi) ((oQ i hi q nq).mp hq)⟩
  · intro q q' q1 qn q1' qn' l1 lB e
    by_cases e1 : lb q = 100 + (d + 1)
    · by_cases e2 : lb q' = 100 + (d + 1)
      · obtain ⟨a, b⟩ := st q q1 qn e1
        obtain ⟨a', b'⟩ := st q' q1' qn' e2
        exact ⟨fun y h => (a' y).mpr ((a y).mp h), fun i hi h => (b' i hi).mpr ((b i hi).mp h)⟩
      · have e : B + 1 = lb q' := by simpa [e1, e2] using e
        rcases hlb q' q1' qn' with h | ⟨i, _, h⟩ <;> omega
    · by_cases e2 : lb q' = 100 + (d + 1)
      · have e : lb q = B + 1 := by simpa [e1, e2] using e
        rcases hlb q q1 qn with h | ⟨i, _, h⟩ <;> omega
      · have e : lb q = lb q' := by simpa [e1, e2] using e
        have l1 : 1 ≤ lb q := by simpa [e1] using l1
        have lB : lb q ≤ B + 1 := by simpa [e1] using lB
        have lB : lb q ≤ B := by rcases hlb q q1 qn with h | ⟨i, _, h⟩ <;> omega
        obtain ⟨a, b⟩ := h5 q q' q1 qn q1' qn' l1 lB e
        refine ⟨fun y h => ?_, fun i hi h => ?_⟩
        · rcases (hP y q).mp h with h | ⟨h, g⟩
          · exact (hP y q').mpr (Or.inl (a y h))
          · exact (hP y q').mpr (Or.inr ⟨h, b _ dd g⟩)
        · rcases (hQ i hi q).mp h with h | ⟨h, k, g⟩
          · exact (hQ i hi q').mpr (Or.inl (b i (up i hi) h))
          · exact (hQ i hi q').mpr (Or.inr ⟨h, k, b _ dd g⟩)
  · intro q q1 qn hB
    by_cases e : lb q = 100 + (d + 1)
    · simp [e] at hB
    · have hB : B + 1 < lb q := by simpa [e] using hB
      obtain ⟨i, hi, hl', a, b, c⟩ := h6 q q1 qn (by omega)
      have hid : i ≤ d := by omega
      have nq := c (d + 1) dd (by omega)
      exact ⟨i, hid, by simpa [e] using hl', fun y h => a y ((oP y q nq).mp h), (oQ i hid q nq).mpr b, fun j hj hne h => c j (up j hj) hne ((oQ j hj q nq).mp h)⟩
  · intro i hi
    by_cases e : i = d
    · subst e
      refine Or.inr (Or.inl ⟨by simp, by simp, ?_⟩)
      intro q q1 qn hq
      have hq : (if lb q = 100 + (i + 1) then B + 1 else lb q) = B + 1 := by simpa using hq
      have e1 : lb q = 100 + (i + 1) := by
        apply Classical.byContradiction
        intro e1
        rw [if_neg e1] at hq
        rcases hlb q q1 qn with h | ⟨j, _, h⟩ <;> omega
      obtain ⟨a, b⟩ := st q q1 qn e1
      refine ⟨fun y => (a y).trans (hRd y).symm, ?_, fun j hj hne h => hne ((b j hj).mp h).1⟩
      rw [b i hi, hN i hi]
      exact ⟨fun h => h.2, fun h => ⟨rfl, h⟩⟩
    · rcases h7 i (up i hi) with ⟨c0, hn, hs⟩ | ⟨c1, cB, hq⟩ | ⟨c1, hr, hn⟩
      · exact Or.inl ⟨by simpa [e] using c0, fun h => hn ((hN i hi).mp h), fun y y' a b => hs y y' ((hR i hi e y).mp a) ((hR i hi e y').mp b)⟩
      · refine Or.inr (Or.inl ⟨by simpa [e] using c1, by simp only [e, if_false]; omega, ?_⟩)
        intro q q1 qn hl'
        have hl' : (if lb q = 100 + (d + 1) then B + 1 else lb q) = cp i := by simpa [e] using hl'
        have e1 : ¬ lb q = 100 + (d + 1) := by
          intro e1
          rw [if_pos e1] at hl'
          omega
        rw [if_neg e1] at hl'
        obtain ⟨a, b, c⟩ := hq q q1 qn hl'
        have nq := c (d + 1) dd (by omega)
        exact ⟨fun y => ((oP y q nq).trans (a y)).trans (hR i hi e y).symm, ((oQ i hi q nq).trans b).trans (hN i hi).symm, fun j hj hne h => c j (up j hj) hne ((oQ j hj q nq).mp h)⟩
      · exact Or.inr (Or.inr ⟨by simpa [e] using c1, fun y h => hr y ((hR i hi e y).mp h), (hN i hi).mpr hn⟩)
  · intro i j hi hj hne e
    by_cases e1 : i = d
    · have e2 : j ≠ d := by omega
      have e : B + 1 = cp j := by simpa [e1, e2] using e
      have := hcp j (up j hj)
      omega
    · by_cases e2 : j = d
      · have e : cp i = B + 1 := by simpa [e1, e2] using e
        have := hcp i (up i hi)
        omega
      · have e : cp i = cp j := by simpa [e1, e2] using e
        simpa [e1] using h8 i j (up i hi) (up j hj) hne e
/-- a group ends, plain -/
theorem PT_plain {n d : Nat} {P Q R A P' Q' R' A' : Nat → Nat → Prop} {N N' : Nat → Prop} {lb cp : Nat → Nat} {B : Nat} (h : PTa n (d + 1) P Q R A N lb cp B) (hB60 : B < 60) {l : Nat → Prop} (hl : ∀ y, l y → R (d + 1) y ∨ A (d + 1) y)
    (hP : ∀ y q, P' y q ↔ P y q ∨ (R d y ∧ Q (d + 1) q)) (hQ : ∀ i, i ≤ d → ∀ q, (Q' i q ↔ Q i q ∨ (i = d ∧ N d ∧ Q (d + 1) q)))
    (hR : ∀ i, i ≤ d → i ≠ d → ∀ y, (R' i y ↔ R i y)) (hRd : ∀ y, R' d y → l y ∨ R d y) (hA : ∀ i, i ≤ d → ∀ y, (A' i y ↔ A i y))
    (hN : ∀ i, i ≤ d → i ≠ d → (N' i ↔ N i)) :
    PTa n d P' Q' R' A' N' (fun q => if lb q = 100 + (d + 1) then cp d else lb q) (fun i => if i = d then B + 1 else cp i) (B + 1) := by
  have hcp := fun i hi => PT_cp h (i := i) hi
  have hlb := fun q q1 qn => PT_lb h (q := q) q1 qn
  obtain ⟨h1, h2, h3, h4, h5, h6, h7, h8, h9⟩ := h
  have up : ∀ i, i ≤ d → i ≤ d + 1 := by omega
  have dd : d + 1 ≤ d + 1 := Nat.le_refl _
  have oP : ∀ y q, ¬ Q (d + 1) q → (P' y q ↔ P y q) := fun y q hq => by rw [hP]; exact ⟨fun h => h.elim id (fun ⟨_, e⟩ => absurd e hq), Or.inl⟩
  have oQ : ∀ i, i ≤ d → ∀ q, ¬ Q (d + 1) q → (Q' i q ↔ Q i q) := fun i hi q hq => by rw [hQ i hi]; exact ⟨fun h => h.elim id (fun ⟨_, _, e⟩ => absurd e hq), Or.inl⟩
  have st : ∀ q, 1 ≤ q → q ≤ n → lb q = 100 + (d + 1) → (∀ y, P' y q ↔ R d y) ∧ (∀ i, i ≤ d → (Q' i q ↔ i = d ∧ N d)) := by
    intro q q1 qn e
    obtain ⟨i, hi, hl', a, b, c⟩ := h6 q q1 qn (by omega)
    have : i = d + 1 := by omega
    subst this
    refine ⟨fun y => ?_, fun i hi => ?_⟩
    · rw [hP]; exact ⟨fun h => h.elim (fun h => absurd h (a y)) (fun h => h.1), fun h => Or.inr ⟨h, b⟩⟩
    · rw [hQ i hi]; exact ⟨fun h => h.elim (fun h => absurd h (c i (up i hi) (by omega))) (fun h => ⟨h.1, h.2.1⟩), fun h => Or.inr ⟨h.1, h.2, b⟩⟩
  have hcd := h7 d (up d (Nat.le_refl _))
  -- a place that shares the label of the point at hand
  have sh : ∀ q, 1 ≤ q → q ≤ n → 1 ≤ cp d → cp d ≤ B → lb q = cp d → ¬ Q (d + 1) q ∧ (∀ y, P' y q ↔ R d y) ∧ (∀ i, i ≤ d → (Q' i q ↔ i = d ∧ N d)) := by
    intro q q1 qn c1 cB e
    rcases hcd with ⟨c0, _⟩ | ⟨_, _, hq⟩ | ⟨c2, _⟩
    · omega
    · obtain ⟨a, b, c⟩ := hq q q1 qn e
      have nq := c (d + 1) dd (by omega)
      refine ⟨nq, fun y => (oP y q nq).trans (a y), fun i hi => (oQ i hi q nq).trans ?_⟩
      by_cases ei : i = d
      · subst ei; exact ⟨fun h => ⟨rfl, b.mp h⟩, fun h => b.mpr h.2⟩
      · exact ⟨fun h => absurd h (c i (up i hi) ei), fun h => absurd h.1 ei⟩
    · omega
  refine ⟨?_, ?_, ?_, ?_, ?_, ?_, ?_, ?_, by omega⟩
  · intro y q h
    rcases (hP y q).mp h with h | ⟨_, h⟩
    · exact h1 y q h
    · exact h2 _ dd q h
  · intro i hi q h
    rcases (hQ i hi q).mp h with h | ⟨_, _, h⟩
    · exact h2 i (up i hi) q h
    · exact h2 _ dd q h
  · intro i hi q h
    rcases h with h | h
    · by_cases e : i = d
      · subst e
        rcases hRd q h with h | h
        · exact h3 _ dd q (hl q h)
        · exact h3 i (up i hi) q (Or.inl h)
      · exact h3 i (up i hi) q (Or.inl ((hR i hi e q).mp h))
    · exact h3 i (up i hi) q (Or.inr ((hA i hi q).mp h))
  · intro q q1 qn hl0
    by_cases e : lb q = 100 + (d + 1)
    · have c0 : cp d = 0 := by simpa [e] using hl0
      obtain ⟨a, b⟩ := st q q1 qn e
      rcases hcd with ⟨_, hn, hs⟩ | ⟨c1, _⟩ | ⟨c2, _⟩
      · exact ⟨fun y y' u v => hs y y' ((a y).mp u) ((a y').mp v), fun i hi h => hn ((b i hi).mp h).2⟩
      · omega
      · omega
    · have hl0 : lb q = 0 := by simpa [e] using hl0
      obtain ⟨a, b⟩ := h4 q q1 qn hl0
      have nq := b (d + 1) dd
      exact ⟨fun y y' u v => a y y' ((oP y q nq).mp u) ((oP y' q nq).mp v), fun i hi hq => b i (up i hi) ((oQ i hi q nq).mp hq)⟩
  · intro q q' q1 qn q1' qn' l1 lB e
    by_cases e1 : lb q = 100 + (d + 1)
    · obtain ⟨a, b⟩ := st q q1 qn e1
      by_cases e2 : lb q' = 100 + (d + 1)
      · obtain ⟨a', b'⟩ := st q' q1' qn' e2
        exact ⟨fun y h => (a' y).mpr ((a y).mp h), fun i hi h => (b' i hi).mpr ((b i hi).mp h)⟩
      · have e : cp d = lb q' := by simpa [e1, e2] using e
        have l1 : 1 ≤ cp d := by simpa [e1] using l1
        have lB : cp d ≤ B + 1 := by simpa [e1] using lB
        have lB : cp d ≤ B := by rcases hcp d (up d (Nat.le_refl _)) with h | h <;> omega
        obtain ⟨_, a', b'⟩ := sh q' q1' qn' l1 lB e.symm
        exact ⟨fun y h => (a' y).mpr ((a y).mp h), fun i hi h => (b' i hi).mpr ((b i hi).mp h)⟩
    · by_cases e2 : lb q' = 100 + (d + 1)
      · obtain ⟨a', b'⟩ := st q' q1' qn' e2
        have e : lb q = cp d := by simpa [e1, e2] using e
        have l1 : 1 ≤ lb q := by simpa [e1] using l1
        have lB : lb q ≤ B + 1 := by simpa [e1] using lB
        have lB : cp d ≤ B := by rcases hcp d (up d (Nat.le_refl _)) with h | h <;> omega
        obtain ⟨_, a, b⟩ := sh q q1 qn (by omega) lB e
        exact ⟨fun y h => (a' y).mpr ((a y).mp h), fun i hi h => (b' i hi).mpr ((b i hi).mp h)⟩
      · have e : lb q = lb q' := by simpa [e1, e2] using e
        have l1 : 1 ≤ lb q := by simpa [e1] using l1
        have lB : lb q ≤ B + 1 := by simpa [e1] using lB
        have lB : lb q ≤ B := by rcases hlb q q1 qn with h | ⟨i, _, h⟩ <;> omega
        obtain ⟨a, b⟩ := h5 q q' q1 qn q1' qn' l1 lB e
        refine ⟨fun y h => ?_, fun i hi h => ?_⟩
        · rcases (hP y q).mp h with h | ⟨h, g⟩
          · exact (hP y q').mpr (Or.inl (a y h))
          · exact (hP y q').mpr (Or.inr ⟨h, b _ dd g⟩)
        · rcases (hQ i hi q).mp h with h | ⟨h, k, g⟩
          · exact (hQ i hi q').mpr (Or.inl (b i (up i hi) h))
          · exact (hQ i hi q').mpr (Or.inr ⟨h, k, b _ dd g⟩)
  · intro q q1 qn hB
    by_cases e : lb q = 100 + (d + 1)
    · have hB : B + 1 < cp d := by simpa [e] using hB
      obtain ⟨a, b⟩ := st q q1 qn e
      rcases hcd with ⟨c0, _⟩ | ⟨_, c1, _⟩ | ⟨c2, hr, hn⟩
      · omega
      · omega
      · exact ⟨d, Nat.le_refl _, by simpa [e] using c2, fun y h => hr y ((a y).mp h), (b d (Nat.le_refl _)).mpr ⟨rfl, hn⟩, fun j hj hne h => hne ((b j hj).mp h).1⟩
    · have hB : B + 1 < lb q := by simpa [e] using hB
      obtain ⟨i, hi, hl', a, b, c⟩ := h6 q q1 qn (by omega)
      have hid : i ≤ d := by omega
      have nq := c (d + 1) dd (by omega)
      exact ⟨i, hid, by simpa [e] using hl', fun y h => a y ((oP y q nq).mp h), (oQ i hid q nq).mpr b, fun j hj hne h => c j (up j hj) hne ((oQ j hj q nq).mp h)⟩
  · intro i hi
    by_cases e : i = d
    · subst e
      refine Or.inr (Or.inl ⟨by simp, by simp, ?_⟩)
      intro q q1 qn hq
      have hq : (if lb q = 100 + (i + 1) then cp i else lb q) = B + 1 := by simpa using hq
      exfalso
      by_cases e1 : lb q = 100 + (i + 1)
      · rw [if_pos e1] at hq
        rcases hcp i (up i hi) with h | h <;> omega
      · rw [if_neg e1] at hq
        rcases hlb q q1 qn with h | ⟨j, _, h⟩ <;> omega
    · rcases h7 i (up i hi) with ⟨c0, hn, hs⟩ | ⟨c1, cB, hq⟩ | ⟨c1, hr, hn⟩
      · exact Or.inl ⟨by simpa [e] using c0, fun h => hn ((hN i hi e).mp h), fun y y' a b => hs y y' ((hR i hi e y).mp a) ((hR i hi e y').mp b)⟩
      · refine Or.inr (Or.inl ⟨by simpa [e] using c1, by simp only [e, if_false]; omega, ?_⟩)
        intro q q1 qn hl'
        have hl' : (if lb q = 100 + (d + 1) then cp d else lb q) = cp i := by simpa [e] using hl'
        have e1 : ¬ lb q = 100 + (d + 1) := by
          intro e1
          rw [if_pos e1] at hl'
          have := h8 i d (up i hi) (up d (Nat.le_refl _)) e hl'.symm
          omega
        rw [if_neg e1] at hl'
        obtain ⟨a, b, c⟩ := hq q q1 qn hl'
        have nq := c (d + 1) dd (by omega)
        exact ⟨fun y => ((oP y q nq).trans (a y)).trans (hR i hi e y).symm, ((oQ i hi q nq).trans b).trans (hN i hi e).symm, fun j hj hne h => c j (up j hj) hne ((oQ j hj q nq).mp h)⟩
      · exact Or.inr (Or.inr ⟨by simpa [e] using c1, fun y h => hr y ((hR i hi e y).mp h), (hN i hi e).mpr hn⟩)
  · intro i j hi hj hne e
    by_cases e1 : i = d
    · have e2 : j ≠ d := by omega
      have e : B + 1 = cp j := by simpa [e1, e2] using e
      have := hcp j (up j hj)
      omega
    · by_cases e2 : j = d
      · have e : cp i = B + 1 := by simpa [e1, e2] using e
        have := hcp i (up i hi)
        omega
      · have e : cp i = cp j := by simpa [e1, e2] using e
        simpa [e1] using h8 i j (up i hi) (up j hj) hne e
