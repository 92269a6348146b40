/-! ===== sets of places met one by one: the pure one ===== -/
/-- the first place below N where t stands, or N -/
def sbIx (S : Nat → Nat) (t : Nat) : Nat → Nat
  | 0 => 0
  | N + 1 => if sbIx S t N < N then sbIx S t N else if S N = t then N else N + 1
theorem sbIx_le (S : Nat → Nat) (t N : Nat) : sbIx S t N ≤ N := by
  induction N with
  | zero => exact Nat.le_refl _
  | succ N ih => unfold sbIx; split; omega; split <;> omega
theorem sbIx_lt {S : Nat → Nat} {t N : Nat} (h : sbIx S t N < N) : S (sbIx S t N) = t := by
  induction N with
  | zero => omega
  | succ N ih =>
    unfold sbIx at h ⊢
    split
    · next h1 => exact ih h1
    · next h1 =>
      split
      · next h2 => exact h2
      · next h2 => rw [if_neg h1, if_neg h2] at h; omega
theorem sbIx_no {S : Nat → Nat} {t N : Nat} {i : Nat} (hi : i < sbIx S t N) : S i ≠ t := by
  induction N with
  | zero => exact absurd hi (Nat.not_lt_zero _)
  | succ N ih =>
    unfold sbIx at hi
    by_cases h1 : sbIx S t N < N
    · rw [if_pos h1] at hi; exact ih hi
    · rw [if_neg h1] at hi
      have e : sbIx S t N = N := by have := sbIx_le S t N; omega
      by_cases h2 : S N = t
      · rw [if_pos h2] at hi; exact ih (by omega)
      · rw [if_neg h2] at hi
        by_cases h3 : i = N
        · rw [h3]; exact h2
        · exact ih (by omega)
theorem sbIx_of {S : Nat → Nat} {t N i : Nat} (hi : i < N) (e : S i = t) (hno : ∀ k, k < i → S k ≠ t) : sbIx S t N = i := by
  have h1 : sbIx S t N ≤ i := by
    apply Classical.byContradiction
    intro h
    exact sbIx_no (N := N) (i := i) (by omega) e
  have h2 := sbIx_lt (S := S) (t := t) (N := N) (by omega)
  apply Classical.byContradiction
  intro h
  exact hno _ (by omega) h2
def sbS (ld : Nat → Nat → Nat) : Nat → Nat × (Nat → Nat)
  | 0 => (1, fun _ => 1)
  | j + 1 => if j / 24 < (sbS ld j).1 ∧ ld ((sbS ld j).2 (j / 24)) (j % 24) ≠ 0 ∧ sbIx (sbS ld j).2 (ld ((sbS ld j).2 (j / 24)) (j % 24)) (sbS ld j).1 = (sbS ld j).1 then ((sbS ld j).1 + 1, fun i => if i = (sbS ld j).1 then ld ((sbS ld j).2 (j / 24)) (j % 24) else (sbS ld j).2 i) else sbS ld j
def sbN (ld : Nat → Nat → Nat) (j : Nat) : Nat := (sbS ld j).1
def sbV (ld : Nat → Nat → Nat) (j : Nat) : Nat → Nat := (sbS ld j).2
/-- what the step at j leads to -/
def sbT (ld : Nat → Nat → Nat) (j : Nat) : Nat := ld (sbV ld j (j / 24)) (j % 24)
def sbX (ld : Nat → Nat → Nat) (j : Nat) : Int32 := if sbT ld j = 0 then Int32.ofInt (-1) else nI (sbIx (sbV ld j) (sbT ld j) (sbN ld j))
theorem sb_new {ld : Nat → Nat → Nat} {j : Nat} (h1 : j / 24 < sbN ld j) (h2 : sbT ld j ≠ 0) (h3 : sbIx (sbV ld j) (sbT ld j) (sbN ld j) = sbN ld j) : sbN ld (j + 1) = sbN ld j + 1 ∧ sbV ld (j + 1) = fun i => if i = sbN ld j then sbT ld j else sbV ld j i := by
  have : sbS ld (j + 1) = (sbN ld j + 1, fun i => if i = sbN ld j then sbT ld j else sbV ld j i) := if_pos ⟨h1, h2, h3⟩
  unfold sbN sbV at *
  rw [this]
  exact ⟨rfl, rfl⟩
theorem sb_old {ld : Nat → Nat → Nat} {j : Nat} (h : ¬ (j / 24 < sbN ld j ∧ sbT ld j ≠ 0 ∧ sbIx (sbV ld j) (sbT ld j) (sbN ld j) = sbN ld j)) : sbN ld (j + 1) = sbN ld j ∧ sbV ld (j + 1) = sbV ld j := by
  have : sbS ld (j + 1) = sbS ld j := if_neg h
  unfold sbN sbV
  rw [this]
  exact ⟨rfl, rfl⟩
theorem sb_1 (ld : Nat → Nat → Nat) (j : Nat) : (sbN ld (j + 1) = sbN ld j ∧ sbV ld (j + 1) = sbV ld j) ∨ ((j / 24 < sbN ld j ∧ sbT ld j ≠ 0 ∧ sbIx (sbV ld j) (sbT ld j) (sbN ld j) = sbN ld j) ∧ sbN ld (j + 1) = sbN ld j + 1 ∧ sbV ld (j + 1) = fun i => if i = sbN ld j then sbT ld j else sbV ld j i) := by
  by_cases h : j / 24 < sbN ld j ∧ sbT ld j ≠ 0 ∧ sbIx (sbV ld j) (sbT ld j) (sbN ld j) = sbN ld j
  · exact Or.inr ⟨h, sb_new h.1 h.2.1 h.2.2⟩
  · exact Or.inl (sb_old h)
theorem sb_ge (ld : Nat → Nat → Nat) (j : Nat) : ∀ d, sbN ld j ≤ sbN ld (j + d) ∧ ∀ i, i < sbN ld j → sbV ld (j + d) i = sbV ld j i
  | 0 => ⟨Nat.le_refl _, fun _ _ => rfl⟩
  | d + 1 => by
    obtain ⟨h1, h2⟩ := sb_ge ld j d
    rcases sb_1 ld (j + d) with ⟨a, b⟩ | ⟨_, a, b⟩
    · rw [show j + (d + 1) = (j + d) + 1 from rfl, a, b]; exact ⟨h1, h2⟩
    · rw [show j + (d + 1) = (j + d) + 1 from rfl, a, b]
      refine ⟨by omega, fun i hi => ?_⟩
      show (if i = sbN ld (j + d) then _ else _) = _
      rw [if_neg (by omega)]
      exact h2 i hi
theorem sb_pos (ld : Nat → Nat → Nat) (j : Nat) : 1 ≤ sbN ld j ∧ sbV ld j 0 = 1 := by
  have := sb_ge ld 0 j
  rw [Nat.zero_add] at this
  exact ⟨this.1, this.2 0 Nat.one_pos⟩
theorem sb_inj (ld : Nat → Nat → Nat) : ∀ j i i', i < sbN ld j → i' < sbN ld j → sbV ld j i = sbV ld j i' → i = i'
  | 0, i, i', hi, hi', _ => by
    have hi : i < 1 := hi
    have hi' : i' < 1 := hi'
    omega
  | j + 1, i, i', hi, hi', e => by
    rcases sb_1 ld j with ⟨a, b⟩ | ⟨⟨_, _, hx⟩, a, b⟩
    · rw [a] at hi hi'; rw [b] at e
      exact sb_inj ld j i i' hi hi' e
    · rw [a] at hi hi'; rw [b] at e
      have no : ∀ k, k < sbN ld j → sbV ld j k ≠ sbT ld j := fun k hk => sbIx_no (by rw [hx]; exact hk)
      by_cases c1 : i = sbN ld j
      · by_cases c2 : i' = sbN ld j
        · omega
        · simp only [c1, c2, if_true, if_false] at e
          exact absurd e.symm (no i' (by omega))
      · by_cases c2 : i' = sbN ld j
        · simp only [c1, c2, if_true, if_false] at e
          exact absurd e (no i (by omega))
        · simp only [c1, c2, if_false] at e
          exact sb_inj ld j i i' (by omega) (by omega) e
theorem sb_all {ld : Nat → Nat → Nat} {P : Nat → Prop} (h1 : P 1) (hs : ∀ X a, P X → a < 24 → ld X a ≠ 0 → P (ld X a)) : ∀ j i, i < sbN ld j → P (sbV ld j i)
  | 0, i, _ => h1
  | j + 1, i, hi => by
    rcases sb_1 ld j with ⟨a, b⟩ | ⟨⟨hk, h0, _⟩, a, b⟩
    · rw [a] at hi; rw [b]; exact sb_all h1 hs j i hi
    · rw [a] at hi; rw [b]
      by_cases c : i = sbN ld j
      · simp only [c, if_true]
        exact hs _ _ (sb_all h1 hs j _ hk) (Nat.mod_lt _ (by decide)) h0
      · simp only [c, if_false]
        exact sb_all h1 hs j i (by omega)
/-- where the row ends -/
theorem sb_end {ld : Nat → Nat → Nat} {M : Nat} (hM : ∀ j, sbN ld j ≤ M) : ∃ K, sbN ld (24 * K) = K ∧ K ≤ M ∧ ∀ k, k < K → k < sbN ld (24 * k) := by
  obtain ⟨K, hK, hm⟩ := u_least (P := fun k => sbN ld (24 * k) ≤ k) (n := M) (hM _)
  have hlt : ∀ k, k < K → k < sbN ld (24 * k) := fun k hk => by have := hm k hk; omega
  refine ⟨K, ?_, ?_, hlt⟩
  · apply Nat.le_antisymm hK
    cases K with
    | zero => exact Nat.zero_le _
    | succ K =>
      have h1 := hlt K (by omega)
      have h2 := (sb_ge ld (24 * K) 24).1
      rw [show 24 * (K + 1) = 24 * K + 24 from by omega]
      omega
  · apply Classical.byContradiction
    intro h
    have := hlt M (by omega)
    have := hM (24 * M)
    omega
/-- of a book's sets -/
theorem sb_book {n : Nat} (hn : n ≤ 15) {so : Nat → Nat} {fo : Nat → Nat → Prop} (hso : ∀ q, so q < 24) {lb : Nat → Nat} {B σ : Nat} (hb : bOk n fo lb B σ) : (∀ j i, i < sbN (bLd n so fo) j → sbV (bLd n so fo) j i ≠ 0 ∧ ∃ w, sbV (bLd n so fo) j i = uMk (bSet n so fo w)) ∧ ∀ j, sbN (bLd n so fo) j ≤ 4096 := by
  have key : ∀ j i, i < sbN (bLd n so fo) j → sbV (bLd n so fo) j i ≠ 0 ∧ ∃ w, sbV (bLd n so fo) j i = uMk (bSet n so fo w) := by
    apply sb_all (P := fun X => X ≠ 0 ∧ ∃ w, X = uMk (bSet n so fo w))
    · refine ⟨by decide, [], ?_⟩
      apply Nat.eq_of_testBit_eq
      intro q
      rw [Bool.eq_iff_iff, uMk_t, show (1 : Nat) = 2 ^ 0 from rfl, Nat.testBit_two_pow]
      show decide (0 = q) = true ↔ q < 16 ∧ q = 0
      rw [decide_eq_true_eq]
      exact ⟨fun h => ⟨by omega, h.symm⟩, fun h => h.2.symm⟩
    · rintro X a ⟨_, w, rfl⟩ _ h0
      refine ⟨h0, a :: w, ?_⟩
      apply uMk_eq
      intro q _
      constructor
      · rintro ⟨q1, q2, q3, p, hp, ht, hf⟩
        have hw := ((uMk_t _ p).mp ht).2
        have hpn : p ≤ n := by
          cases w with
          | nil => have : p = 0 := hw; omega
          | cons c w => exact (bSet_rg hw).2.1
        exact ⟨q1, q2, q3, p, hpn, hw, hf⟩
      · rintro ⟨q1, q2, q3, p, hp, hw, hf⟩
        exact ⟨q1, q2, q3, p, by omega, (uMk_t _ p).mpr ⟨by omega, hw⟩, hf⟩
  refine ⟨key, fun j => ?_⟩
  have hl : ((List.range (sbN (bLd n so fo) j)).map (sbV (bLd n so fo) j)).length ≤ 4096 := by
    apply b_sets hn hb hso
    · refine List.pairwise_map.mpr (List.Pairwise.imp_of_mem ?_ List.nodup_range)
      intro x y hx hy hne e
      exact hne (sb_inj _ j x y (List.mem_range.mp hx) (List.mem_range.mp hy) e)
    · intro x hx
      obtain ⟨i, hi, rfl⟩ := List.mem_map.mp hx
      exact key j i (List.mem_range.mp hi)
  rwa [List.length_map, List.length_range] at hl
