/-! ===== the bound: stars, that is steps back ===== -/
def STa (d : Nat) (P Q R : Nat → Nat → Prop) (σ : Nat) : Prop :=
  (∀ i j, i < j → j ≤ d → ∀ y q, R i y → Q j q → y < q) ∧
  (σ = 0 → ∀ y q, P y q → y < q) ∧
  (σ = 1 → ∃ l f : Nat → Prop, (∀ y q, P y q → y < q ∨ (l y ∧ f q)) ∧ ∀ y q, l y → f q → P y q)
theorem ST_act {n d σ : Nat} {P Q R P' Q' R' : Nat → Nat → Prop} {N : Nat → Prop} (h : STa d P Q R σ) (hn : ∀ i, i ≤ d → ∀ y, R i y → y ≤ n)
    (hP : ∀ y q, P' y q ↔ P y q ∨ (R d y ∧ q = n + 1)) (hQ : ∀ i, i ≤ d → ∀ q, (Q' i q ↔ Q i q ∨ (i = d ∧ N d ∧ q = n + 1)))
    (hR : ∀ i, i ≤ d → i ≠ d → ∀ y, (R' i y ↔ R i y)) : STa d P' Q' R' σ := by
  obtain ⟨h1, h2, h3⟩ := h
  refine ⟨?_, ?_, ?_⟩
  · intro i j hij hj y q hr hq
    have hr := (hR i (by omega) (by omega) y).mp hr
    rcases (hQ j hj q).mp hq with hq | ⟨_, _, e⟩
    · exact h1 i j hij hj y q hr hq
    · have := hn i (by omega) y hr; omega
  · intro e y q h
    rcases (hP y q).mp h with h | ⟨h, e⟩
    · exact h2 e y q h
    · have := hn d (Nat.le_refl _) y h; omega
  · intro e
    obtain ⟨l, f, a, b⟩ := h3 e
    refine ⟨l, f, fun y q h => ?_, fun y q u v => (hP y q).mpr (Or.inl (b y q u v))⟩
    rcases (hP y q).mp h with h | ⟨h, e⟩
    · exact a y q h
    · have := hn d (Nat.le_refl _) y h; exact Or.inl (by omega)
theorem ST_new {d σ : Nat} {P Q R P' Q' R' : Nat → Nat → Prop} (h : STa d P Q R σ) (hP : ∀ y q, P' y q ↔ P y q) (hQ : ∀ i, i ≤ d → ∀ q, (Q' i q ↔ Q i q)) (hQd : ∀ q, ¬ Q' (d + 1) q)
    (hR : ∀ i, i ≤ d → ∀ y, (R' i y ↔ R i y)) : STa (d + 1) P' Q' R' σ := by
  obtain ⟨h1, h2, h3⟩ := h
  refine ⟨?_, ?_, ?_⟩
  · intro i j hij hj y q hr hq
    by_cases e : j = d + 1
    · subst e; exact absurd hq (hQd q)
    · exact h1 i j hij (by omega) y q ((hR i (by omega) y).mp hr) ((hQ j (by omega) q).mp hq)
  · exact fun e y q h => h2 e y q ((hP y q).mp h)
  · intro e
    obtain ⟨l, f, a, b⟩ := h3 e
    exact ⟨l, f, fun y q h => a y q ((hP y q).mp h), fun y q u v => (hP y q).mpr (b y q u v)⟩
theorem ST_row {d σ : Nat} {P Q R P' Q' R' : Nat → Nat → Prop} (h : STa d P Q R σ) (hP : ∀ y q, P' y q ↔ P y q) (hQ : ∀ i, i ≤ d → ∀ q, (Q' i q ↔ Q i q))
    (hR : ∀ i, i ≤ d → i ≠ d → ∀ y, (R' i y ↔ R i y)) : STa d P' Q' R' σ := by
  obtain ⟨h1, h2, h3⟩ := h
  refine ⟨?_, ?_, ?_⟩
  · intro i j hij hj y q hr hq
    exact h1 i j hij hj y q ((hR i (by omega) (by omega) y).mp hr) ((hQ j hj q).mp hq)
  · exact fun e y q h => h2 e y q ((hP y q).mp h)
  · intro e
    obtain ⟨l, f, a, b⟩ := h3 e
    exact ⟨l, f, fun y q h => a y q ((hP y q).mp h), fun y q u v => (hP y q).mpr (b y q u v)⟩
theorem ST_plain {d σ : Nat} {P Q R P' Q' R' : Nat → Nat → Prop} {N : Nat → Prop} (h : STa (d + 1) P Q R σ)
    (hP : ∀ y q, P' y q ↔ P y q ∨ (R d y ∧ Q (d + 1) q)) (hQ : ∀ i, i ≤ d → ∀ q, (Q' i q ↔ Q i q ∨ (i = d ∧ N d ∧ Q (d + 1) q)))
    (hR : ∀ i, i ≤ d → i ≠ d → ∀ y, (R' i y ↔ R i y)) : STa d P' Q' R' σ := by
  obtain ⟨h1, h2, h3⟩ := h
  have fw : ∀ y q, R d y → Q (d + 1) q → y < q := fun y q a b => h1 d (d + 1) (by omega) (Nat.le_refl _) y q a b
  refine ⟨?_, ?_, ?_⟩
  · intro i j hij hj y q hr hq
    have hr := (hR i (by omega) (by omega) y).mp hr
    rcases (hQ j hj q).mp hq with hq | ⟨_, _, hq⟩
    · exact h1 i j hij (by omega) y q hr hq
    · exact h1 i (d + 1) (by omega) (Nat.le_refl _) y q hr hq
  · intro e y q h
    rcases (hP y q).mp h with h | ⟨h, k⟩
    · exact h2 e y q h
    · exact fw y q h k
  · intro e
    obtain ⟨l, f, a, b⟩ := h3 e
    refine ⟨l, f, fun y q h => ?_, fun y q u v => (hP y q).mpr (Or.inl (b y q u v))⟩
    rcases (hP y q).mp h with h | ⟨h, k⟩
    · exact a y q h
    · exact Or.inl (fw y q h k)
theorem ST_star {d σ : Nat} {P Q R P' Q' R' : Nat → Nat → Prop} {N : Nat → Prop} (h : STa (d + 1) P Q R σ) {l : Nat → Prop}
    (hP : ∀ y q, P' y q ↔ P y q ∨ ((l y ∨ R d y) ∧ Q (d + 1) q)) (hQ : ∀ i, i ≤ d → ∀ q, (Q' i q ↔ Q i q ∨ (i = d ∧ N d ∧ Q (d + 1) q)))
    (hR : ∀ i, i ≤ d → i ≠ d → ∀ y, (R' i y ↔ R i y)) : STa d P' Q' R' (σ + 1) := by
  obtain ⟨h1, h2, h3⟩ := h
  have fw : ∀ y q, R d y → Q (d + 1) q → y < q := fun y q a b => h1 d (d + 1) (by omega) (Nat.le_refl _) y q a b
  refine ⟨?_, ?_, ?_⟩
  · intro i j hij hj y q hr hq
    have hr := (hR i (by omega) (by omega) y).mp hr
    rcases (hQ j hj q).mp hq with hq | ⟨_, _, hq⟩
    · exact h1 i j hij (by omega) y q hr hq
    · exact h1 i (d + 1) (by omega) (Nat.le_refl _) y q hr hq
  · intro e; omega
  · intro e
    have e : σ = 0 := by omega
    refine ⟨l, Q (d + 1), fun y q h => ?_, fun y q u v => (hP y q).mpr (Or.inr ⟨Or.inl u, v⟩)⟩
    rcases (hP y q).mp h with h | ⟨h | h, k⟩
    · exact Or.inl (h2 e y q h)
    · exact Or.inr ⟨h, k⟩
    · exact Or.inl (fw y q h k)
