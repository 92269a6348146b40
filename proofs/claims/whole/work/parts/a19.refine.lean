/-! ===== sets that cannot be told apart: the pure one ===== -/
def rfA (O : Nat → Option Nat) (κ : Nat → Nat) (a b : Nat) : Prop := κ a = κ b ∧ ∀ s, s < 24 → (O (24 * a + s)).map κ = (O (24 * b + s)).map κ
theorem rfA_r (O : Nat → Option Nat) (κ : Nat → Nat) (a : Nat) : rfA O κ a a := ⟨rfl, fun _ _ => rfl⟩
theorem rfA_s {O : Nat → Option Nat} {κ : Nat → Nat} {a b : Nat} (h : rfA O κ a b) : rfA O κ b a := ⟨h.1.symm, fun s hs => (h.2 s hs).symm⟩
theorem rfA_t {O : Nat → Option Nat} {κ : Nat → Nat} {a b c : Nat} (h : rfA O κ a b) (k : rfA O κ b c) : rfA O κ a c := ⟨h.1.trans k.1, fun s hs => (h.2 s hs).trans (k.2 s hs)⟩
/-- the first of the first i that is like k, or i -/
noncomputable def rfL (O : Nat → Option Nat) (κ : Nat → Nat) (k : Nat) : Nat → Nat
  | 0 => 0
  | i + 1 => if rfL O κ k i < i then rfL O κ k i else bif uD (rfA O κ i k) then i else i + 1
theorem rfL_le (O : Nat → Option Nat) (κ : Nat → Nat) (k i : Nat) : rfL O κ k i ≤ i := by
  induction i with
  | zero => exact Nat.le_refl _
  | succ i ih =>
    unfold rfL
    split
    · omega
    · cases uD (rfA O κ i k)
      · show i + 1 ≤ _; omega
      · show i ≤ _; omega
theorem rfL_lt {O : Nat → Option Nat} {κ : Nat → Nat} {k i : Nat} (h : rfL O κ k i < i) : rfA O κ (rfL O κ k i) k := by
  induction i with
  | zero => omega
  | succ i ih =>
    unfold rfL at h ⊢
    split
    · next h1 => exact ih h1
    · next h1 =>
      rw [if_neg h1] at h
      cases hb : uD (rfA O κ i k) with
      | false => rw [hb] at h; have h : i + 1 < i + 1 := h; omega
      | true => exact uD_e hb
theorem rfL_no {O : Nat → Option Nat} {κ : Nat → Nat} {k i m : Nat} (h : m < rfL O κ k i) : ¬ rfA O κ m k := by
  induction i with
  | zero => exact absurd h (Nat.not_lt_zero _)
  | succ i ih =>
    unfold rfL at h
    by_cases h1 : rfL O κ k i < i
    · rw [if_pos h1] at h; exact ih h
    · rw [if_neg h1] at h
      have e : rfL O κ k i = i := by have := rfL_le O κ k i; omega
      cases hb : uD (rfA O κ i k) with
      | true => rw [hb] at h; have h : m < i := h; exact ih (by omega)
      | false =>
        rw [hb] at h
        have h : m < i + 1 := h
        by_cases c : m = i
        · rw [c]; intro hh; rw [uD_i hh] at hb; cases hb
        · exact ih (by omega)
noncomputable def rfS (O : Nat → Option Nat) (κ : Nat → Nat) : Nat → Nat × (Nat → Nat)
  | 0 => (0, fun _ => 0)
  | k + 1 => if rfL O κ k k < k then ((rfS O κ k).1, fun i => if i = k then (rfS O κ k).2 (rfL O κ k k) else (rfS O κ k).2 i) else ((rfS O κ k).1 + 1, fun i => if i = k then (rfS O κ k).1 else (rfS O κ k).2 i)
theorem rfS_o {O : Nat → Option Nat} {κ : Nat → Nat} {k : Nat} (h : rfL O κ k k < k) : rfS O κ (k + 1) = ((rfS O κ k).1, fun i => if i = k then (rfS O κ k).2 (rfL O κ k k) else (rfS O κ k).2 i) := if_pos h
theorem rfS_n {O : Nat → Option Nat} {κ : Nat → Nat} {k : Nat} (h : ¬ rfL O κ k k < k) : rfS O κ (k + 1) = ((rfS O κ k).1 + 1, fun i => if i = k then (rfS O κ k).1 else (rfS O κ k).2 i) := if_neg h
theorem rfS_p (O : Nat → Option Nat) (κ : Nat → Nat) : ∀ k, (∀ i, i < k → (rfS O κ k).2 i < (rfS O κ k).1) ∧ (∀ v, v < (rfS O κ k).1 → ∃ i, i < k ∧ (rfS O κ k).2 i = v) ∧ (∀ i i', i < k → i' < k → ((rfS O κ k).2 i = (rfS O κ k).2 i' ↔ rfA O κ i i')) ∧ (rfS O κ k).1 ≤ k
  | 0 => ⟨(fun i h => by omega), (fun v h => absurd h (Nat.not_lt_zero _)), (fun i i' h => by omega), Nat.le_refl _⟩
  | k + 1 => by
    obtain ⟨h1, h2, h3, h4⟩ := rfS_p O κ k
    by_cases hl : rfL O κ k k < k
    · rw [rfS_o hl]
      have ha := rfL_lt hl
      refine ⟨?_, ?_, ?_, by show (rfS O κ k).1 ≤ k + 1; omega⟩
      · intro i hi
        show (if i = k then _ else _) < (rfS O κ k).1
        by_cases c : i = k
        · rw [if_pos c]; exact h1 _ hl
        · rw [if_neg c]; exact h1 i (by omega)
      · intro v hv
        obtain ⟨i, hi, e⟩ := h2 v hv
        refine ⟨i, by omega, ?_⟩
        show (if i = k then _ else _) = v
        rw [if_neg (by omega)]; exact e
      · intro i i' hi hi'
        show (if i = k then _ else _) = (if i' = k then _ else _) ↔ _
        by_cases c : i = k
        · by_cases c' : i' = k
          · rw [if_pos c, if_pos c', c, c']; exact ⟨fun _ => rfA_r O κ k, fun _ => rfl⟩
          · rw [if_pos c, if_neg c', c, h3 _ i' hl (by omega)]
            exact ⟨fun h => rfA_t (rfA_s ha) h, fun h => rfA_t ha h⟩
        · by_cases c' : i' = k
          · rw [if_neg c, if_pos c', c', h3 i _ (by omega) hl]
            exact ⟨fun h => rfA_t h ha, fun h => rfA_t h (rfA_s ha)⟩
          · rw [if_neg c, if_neg c']; exact h3 i i' (by omega) (by omega)
    · rw [rfS_n hl]
      have e : rfL O κ k k = k := by have := rfL_le O κ k k; omega
      have no : ∀ i, i < k → ¬ rfA O κ i k := fun i hi => rfL_no (by rw [e]; exact hi)
      refine ⟨?_, ?_, ?_, by show (rfS O κ k).1 + 1 ≤ k + 1; omega⟩
      · intro i hi
        show (if i = k then _ else _) < (rfS O κ k).1 + 1
        by_cases c : i = k
        · rw [if_pos c]; omega
        · rw [if_neg c]; have := h1 i (by omega); omega
      · intro v hv
        have hv : v < (rfS O κ k).1 + 1 := hv
        by_cases c : v = (rfS O κ k).1
        · refine ⟨k, by omega, ?_⟩
          show (if k = k then _ else _) = v
          rw [if_pos rfl, c]
        · obtain ⟨i, hi, e⟩ := h2 v (by omega)
          refine ⟨i, by omega, ?_⟩
          show (if i = k then _ else _) = v
          rw [if_neg (by omega)]; exact e
      · intro i i' hi hi'
        show (if i = k then _ else _) = (if i' = k then _ else _) ↔ _
        by_cases c : i = k
        · by_cases c' : i' = k
          · rw [if_pos c, if_pos c', c, c']; exact ⟨fun _ => rfA_r O κ k, fun _ => rfl⟩
          · rw [if_pos c, if_neg c', c]
            constructor
            · intro h; have := h1 i' (by omega); omega
            · intro h; exact absurd (rfA_s h) (no i' (by omega))
        · by_cases c' : i' = k
          · rw [if_neg c, if_pos c', c']
            constructor
            · intro h; have := h1 i (by omega); omega
            · intro h; exact absurd h (no i (by omega))
          · rw [if_neg c, if_neg c']; exact h3 i i' (by omega) (by omega)
theorem rfS_keep (O : Nat → Option Nat) (κ : Nat → Nat) (k : Nat) : ∀ d i, i < k → (rfS O κ (k + d)).2 i = (rfS O κ k).2 i
  | 0, _, _ => rfl
  | d + 1, i, hi => by
    have ih := rfS_keep O κ k d i hi
    rw [show k + (d + 1) = (k + d) + 1 from rfl]
    by_cases hl : rfL O κ (k + d) (k + d) < k + d
    · rw [rfS_o hl]
      show (if i = k + d then _ else _) = _
      rw [if_neg (by omega)]; exact ih
    · rw [rfS_n hl]
      show (if i = k + d then _ else _) = _
      rw [if_neg (by omega)]; exact ih
/-- the kinds round by round: K 0 tells ends -/
noncomputable def rfK (O : Nat → Option Nat) (κ : Nat → Nat) (N : Nat) : Nat → Nat × (Nat → Nat)
  | 0 => (0, κ)
  | r + 1 => rfS O (rfK O κ N r).2 N
theorem rfK_le (O : Nat → Option Nat) (κ : Nat → Nat) (N r : Nat) : (rfK O κ N r).1 ≤ N := by
  cases r with
  | zero => exact Nat.zero_le _
  | succ r => exact (rfS_p O _ N).2.2.2
/-- the kinds grow finer -/
theorem rfK_fine (O : Nat → Option Nat) (κ : Nat → Nat) (N r : Nat) {i i' : Nat} (hi : i < N) (hi' : i' < N) (h : (rfK O κ N (r + 1)).2 i = (rfK O κ N (r + 1)).2 i') : (rfK O κ N r).2 i = (rfK O κ N r).2 i' := (((rfS_p O (rfK O κ N r).2 N).2.2.1 i i' hi hi').mp h).1
theorem rfK_mono (O : Nat → Option Nat) (κ : Nat → Nat) (N r : Nat) : (rfK O κ N r).1 ≤ (rfK O κ N (r + 1)).1 := by
  cases r with
  | zero => exact Nat.zero_le _
  | succ r =>
    obtain ⟨_, h2, _, _⟩ := rfS_p O (rfK O κ N r).2 N
    obtain ⟨g1, _, _, _⟩ := rfS_p O (rfK O κ N (r + 1)).2 N
    have h2 : ∀ v, v < (rfK O κ N (r + 1)).1 → ∃ i, i < N ∧ (rfK O κ N (r + 1)).2 i = v := h2
    have ch : ∀ v, ∃ i, v < (rfK O κ N (r + 1)).1 → i < N ∧ (rfK O κ N (r + 1)).2 i = v := by
      intro v
      by_cases hv : v < (rfK O κ N (r + 1)).1
      · obtain ⟨i, h⟩ := h2 v hv; exact ⟨i, fun _ => h⟩
      · exact ⟨0, fun h => absurd h hv⟩
    obtain ⟨φ, hφ⟩ : ∃ φ : Nat → Nat, ∀ v, v < (rfK O κ N (r + 1)).1 → φ v < N ∧ (rfK O κ N (r + 1)).2 (φ v) = v := ⟨fun v => Classical.choose (ch v), fun v => Classical.choose_spec (ch v)⟩
    have hn : ((List.range (rfK O κ N (r + 1)).1).map (fun v => (rfK O κ N (r + 2)).2 (φ v))).Nodup := by
      refine List.pairwise_map.mpr (List.Pairwise.imp_of_mem ?_ List.nodup_range)
      intro x y hx hy hne e
      obtain ⟨x1, x2⟩ := hφ x (List.mem_range.mp hx)
      obtain ⟨y1, y2⟩ := hφ y (List.mem_range.mp hy)
      have := rfK_fine O κ N (r + 1) x1 y1 e
      rw [x2, y2] at this
      exact hne this
    have hs : ((List.range (rfK O κ N (r + 1)).1).map (fun v => (rfK O κ N (r + 2)).2 (φ v))) ⊆ List.range (rfK O κ N (r + 2)).1 := by
      intro x hx
      obtain ⟨v, hv, rfl⟩ := List.mem_map.mp hx
      exact List.mem_range.mpr (g1 _ (hφ v (List.mem_range.mp hv)).1)
    have := List.Nodup.length_le_of_subset hn hs
    rwa [List.length_map, List.length_range, List.length_range] at this
/-- the round in which nothing is parted any more -/
theorem rfK_stop (O : Nat → Option Nat) (κ : Nat → Nat) (N : Nat) (hN : 1 ≤ N) : ∃ R, 1 ≤ R ∧ R ≤ N ∧ (rfK O κ N (R + 1)).1 = (rfK O κ N R).1 ∧ ∀ r, r < R → (rfK O κ N (r + 1)).1 ≠ (rfK O κ N r).1 := by
  have ex : ∃ r, (rfK O κ N (r + 1)).1 = (rfK O κ N r).1 := by
    apply Classical.byContradiction
    intro hno
    have : ∀ r, r ≤ (rfK O κ N r).1 := by
      intro r
      induction r with
      | zero => exact Nat.zero_le _
      | succ r ih =>
        have a := rfK_mono O κ N r
        have b : (rfK O κ N (r + 1)).1 ≠ (rfK O κ N r).1 := fun h => hno ⟨r, h⟩
        omega
    have a := this (N + 1)
    have b := rfK_le O κ N (N + 1)
    omega
  obtain ⟨r0, h0⟩ := ex
  obtain ⟨R, hR, hm⟩ := u_least (P := fun r => (rfK O κ N (r + 1)).1 = (rfK O κ N r).1) h0
  have grow : ∀ r, r ≤ R → r ≤ (rfK O κ N r).1 := by
    intro r
    induction r with
    | zero => intro _; exact Nat.zero_le _
    | succ r ih =>
      intro h
      have a := rfK_mono O κ N r
      have b := hm r (by omega)
      have := ih (by omega)
      omega
  refine ⟨R, ?_, ?_, hR, hm⟩
  · apply Classical.byContradiction
    intro h
    have : R = 0 := by omega
    subst this
    have h1 : (rfK O κ N 1).1 = 0 := hR
    have := (rfS_p O κ N).1 0 (by omega)
    have h1 : (rfS O κ N).1 = 0 := h1
    omega
  · have := grow R (Nat.le_refl _)
    have := rfK_le O κ N R
    omega
