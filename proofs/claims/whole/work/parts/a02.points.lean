theorem PT_cp {n d : Nat} {P Q R A : Nat → Nat → Prop} {N : Nat → Prop} {lb cp : Nat → Nat} {B : Nat} (h : PTa n d P Q R A N lb cp B) {i : Nat} (hi : i ≤ d) : cp i ≤ B ∨ cp i = 100 + i := by
  rcases h.2.2.2.2.2.2.1 i hi with ⟨c, _⟩ | ⟨_, c, _⟩ | ⟨c, _⟩
  · exact Or.inl (by omega)
  · exact Or.inl c
  · exact Or.inr c
theorem PT_lb {n d : Nat} {P Q R A : Nat → Nat → Prop} {N : Nat → Prop} {lb cp : Nat → Nat} {B : Nat} (h : PTa n d P Q R A N lb cp B) {q : Nat} (q1 : 1 ≤ q) (qn : q ≤ n) : lb q ≤ B ∨ ∃ i, i ≤ d ∧ lb q = 100 + i := by
  by_cases hB : lb q ≤ B
  · exact Or.inl hB
  · obtain ⟨i, hi, hl, _⟩ := h.2.2.2.2.2.1 q q1 qn (by omega)
    exact Or.inr ⟨i, hi, hl⟩
theorem PT_new {n d : Nat} {P Q R A P' Q' R' A' : Nat → Nat → Prop} {N N' : Nat → Prop} {lb cp : Nat → Nat} {B : Nat} (h : PTa n d P Q R A N lb cp B)
    (hP : ∀ y q, P' y q ↔ P y q) (hQ : ∀ i, i ≤ d → ∀ q, (Q' i q ↔ Q i q)) (hQd : ∀ q, ¬ Q' (d + 1) q)
    (hR : ∀ i, i ≤ d → ∀ y, (R' i y ↔ R i y)) (hRd : ∀ y, ¬ R' (d + 1) y) (hA : ∀ i, i ≤ d → ∀ y, (A' i y ↔ A i y)) (hAd : ∀ y, ¬ A' (d + 1) y)
    (hN : ∀ i, i ≤ d → (N' i ↔ N i)) (hNd : N' (d + 1)) :
    PTa n (d + 1) P' Q' R' A' N' lb (fun i => if i = d + 1 then 100 + (d + 1) else cp i) B := by
  have hcp := fun i hi => PT_cp h (i := i) hi
  obtain ⟨h1, h2, h3, h4, h5, h6, h7, h8, h9⟩ := h
  have sp : ∀ i, i ≤ d + 1 → i = d + 1 ∨ i ≤ d := by omega
  refine ⟨?_, ?_, ?_, ?_, ?_, ?_, ?_, ?_, h9⟩
  · exact fun y q h => h1 y q ((hP y q).mp h)
  · intro i hi q h
    rcases sp i hi with rfl | hi
    · exact absurd h (hQd q)
    · exact h2 i hi q ((hQ i hi q).mp h)
  · intro i hi q h
    rcases sp i hi with rfl | hi
    · exact h.elim (fun h => absurd h (hRd q)) (fun h => absurd h (hAd q))
    · exact h3 i hi q (h.imp (hR i hi q).mp (hA i hi q).mp)
  · intro q q1 qn hl
    obtain ⟨a, b⟩ := h4 q q1 qn hl
    refine ⟨fun y y' u v => a y y' ((hP y q).mp u) ((hP y' q).mp v), fun i hi hq => ?_⟩
    rcases sp i hi with rfl | hi
    · exact hQd q hq
    · exact b i hi ((hQ i hi q).mp hq)
  · intro q q' q1 qn q1' qn' l1 lB e
    obtain ⟨a, b⟩ := h5 q q' q1 qn q1' qn' l1 lB e
    refine ⟨fun y h => (hP y q').mpr (a y ((hP y q).mp h)), fun i hi h => ?_⟩
    rcases sp i hi with rfl | hi
    · exact absurd h (hQd q)
    · exact (hQ i hi q').mpr (b i hi ((hQ i hi q).mp h))
  · intro q q1 qn hB
    obtain ⟨i, hi, hl, a, b, c⟩ := h6 q q1 qn hB
    refine ⟨i, by omega, hl, fun y h => a y ((hP y q).mp h), (hQ i hi q).mpr b, fun j hj hne h => ?_⟩
    rcases sp j hj with rfl | hj
    · exact hQd q h
    · exact c j hj hne ((hQ j hj q).mp h)
  · intro i hi
    rcases sp i hi with rfl | hi
    · exact Or.inr (Or.inr ⟨by simp, hRd, hNd⟩)
    · have e : i ≠ d + 1 := by omega
      rcases h7 i hi with ⟨c0, hn, hs⟩ | ⟨c1, cB, hq⟩ | ⟨c1, hr, hn⟩
      · exact Or.inl ⟨by simpa [e] using c0, fun h => hn ((hN i hi).mp h), fun y y' a b => hs y y' ((hR i hi y).mp a) ((hR i hi y').mp b)⟩
      · refine Or.inr (Or.inl ⟨by simpa [e] using c1, by simpa [e] using cB, ?_⟩)
        intro q q1 qn hl
        have hl : lb q = cp i := by simpa [e] using hl
        obtain ⟨a, b, c⟩ := hq q q1 qn hl
        refine ⟨fun y => ((hP y q).trans (a y)).trans (hR i hi y).symm, ((hQ i hi q).trans b).trans (hN i hi).symm, fun j hj hne h => ?_⟩
        rcases sp j hj with rfl | hj
        · exact hQd q h
        · exact c j hj hne ((hQ j hj q).mp h)
      · exact Or.inr (Or.inr ⟨by simpa [e] using c1, fun y h => hr y ((hR i hi y).mp h), (hN i hi).mpr hn⟩)
  · intro i j hi hj hne e
    rcases sp i hi with rfl | hi
    · rcases sp j hj with rfl | hj
      · exact absurd rfl hne
      · have e' : j ≠ d + 1 := by omega
        have e : 100 + (d + 1) = cp j := by simpa [e'] using e
        have := hcp j hj
        omega
    · have e' : i ≠ d + 1 := by omega
      rcases sp j hj with rfl | hj
      · have e : cp i = 100 + (d + 1) := by simpa [e'] using e
        have := hcp i hi
        omega
      · have e'' : j ≠ d + 1 := by omega
        have e : cp i = cp j := by simpa [e', e''] using e
        simpa [e'] using h8 i j hi hj hne e
theorem PT_row {n d : Nat} {P Q R A P' Q' R' A' : Nat → Nat → Prop} {N N' : Nat → Prop} {lb cp : Nat → Nat} {B : Nat} (h : PTa n d P Q R A N lb cp B)
    (hP : ∀ y q, P' y q ↔ P y q) (hQ : ∀ i, i ≤ d → ∀ q, (Q' i q ↔ Q i q))
    (hR : ∀ i, i ≤ d → i ≠ d → ∀ y, (R' i y ↔ R i y)) (hRd : ∀ y, ¬ R' d y) (hA : ∀ i, i ≤ d → ∀ y, (A' i y → A i y ∨ R i y))
    (hN : ∀ i, i ≤ d → i ≠ d → (N' i ↔ N i)) (hNd : N' d) :
    PTa n d P' Q' R' A' N' lb (fun i => if i = d then 100 + d else cp i) B := by
  have hcp := fun i hi => PT_cp h (i := i) hi
  obtain ⟨h1, h2, h3, h4, h5, h6, h7, h8, h9⟩ := h
  refine ⟨?_, ?_, ?_, ?_, ?_, ?_, ?_, ?_, h9⟩
  · exact fun y q h => h1 y q ((hP y q).mp h)
  · exact fun i hi q h => h2 i hi q ((hQ i hi q).mp h)
  · intro i hi q h
    rcases h with h | h
    · by_cases e : i = d
      · subst e; exact absurd h (hRd q)
      · exact h3 i hi q (Or.inl ((hR i hi e q).mp h))
    · exact h3 i hi q (hA i hi q h).symm
  · intro q q1 qn hl
    obtain ⟨a, b⟩ := h4 q q1 qn hl
    exact ⟨fun y y' u v => a y y' ((hP y q).mp u) ((hP y' q).mp v), fun i hi hq => b i hi ((hQ i hi q).mp hq)⟩
  · intro q q' q1 qn q1' qn' l1 lB e
    obtain ⟨a, b⟩ := h5 q q' q1 qn q1' qn' l1 lB e
    exact ⟨fun y h => (hP y q').mpr (a y ((hP y q).mp h)), fun i hi h => (hQ i hi q').mpr (b i hi ((hQ i hi q).mp h))⟩
  · intro q q1 qn hB
    obtain ⟨i, hi, hl, a, b, c⟩ := h6 q q1 qn hB
    exact ⟨i, hi, hl, fun y h => a y ((hP y q).mp h), (hQ i hi q).mpr b, fun j hj hne h => c j hj hne ((hQ j hj q).mp h)⟩
  · intro i hi
    by_cases e : i = d
    · subst e
      exact Or.inr (Or.inr ⟨by simp, hRd, hNd⟩)
    · rcases h7 i hi with ⟨c0, hn, hs⟩ | ⟨c1, cB, hq⟩ | ⟨c1, hr, hn⟩
      · exact Or.inl ⟨by simpa [e] using c0, fun h => hn ((hN i hi e).mp h), fun y y' a b => hs y y' ((hR i hi e y).mp a) ((hR i hi e y').mp b)⟩
      · refine Or.inr (Or.inl ⟨by simpa [e] using c1, by simpa [e] using cB, ?_⟩)
        intro q q1 qn hl
        have hl : lb q = cp i := by simpa [e] using hl
        obtain ⟨a, b, c⟩ := hq q q1 qn hl
        exact ⟨fun y => ((hP y q).trans (a y)).trans (hR i hi e y).symm, ((hQ i hi q).trans b).trans (hN i hi e).symm, fun j hj hne h => c j hj hne ((hQ j hj q).mp h)⟩
      · exact Or.inr (Or.inr ⟨by simpa [e] using c1, fun y h => hr y ((hR i hi e y).mp h), (hN i hi e).mpr hn⟩)
  · intro i j hi hj hne e
    by_cases e1 : i = d
    · have e2 : j ≠ d := by omega
      have e : 100 + d = cp j := by simpa [e1, e2] using e
      have := hcp j hj
      omega
    · by_cases e2 : j = d
      · have e : cp i = 100 + d := by simpa [e1, e2] using e
        have := hcp i hi
        omega
      · have e : cp i = cp j := by simpa [e1, e2] using e
        simpa [e1] using h8 i j hi hj hne e
