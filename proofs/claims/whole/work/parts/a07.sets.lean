/-! ===== the bound: sets of places as numbers, unions, words ===== -/
noncomputable def uMk (S : Nat → Prop) : Nat := ((List.range 16).filter (fun q => uD (S q))).foldl (fun a q => a ||| 2 ^ q) 0
theorem uMk_fold (l : List Nat) (x q : Nat) : (l.foldl (fun a q => a ||| 2 ^ q) x).testBit q = (x.testBit q || decide (q ∈ l)) := by
  induction l generalizing x with
  | nil => simp
  | cons a l ih =>
    rw [List.foldl_cons, ih, Nat.testBit_or, Nat.testBit_two_pow]
    by_cases h : a = q
    · subst h; simp
    · have h' : ¬ q = a := fun e => h e.symm
      simp [h, h']
theorem uMk_t (S : Nat → Prop) (q : Nat) : (uMk S).testBit q = true ↔ q < 16 ∧ S q := by
  unfold uMk
  rw [uMk_fold]
  simp only [Nat.zero_testBit, Bool.false_or, decide_eq_true_eq, List.mem_filter, List.mem_range]
  exact ⟨fun h => ⟨h.1, uD_e h.2⟩, fun h => ⟨h.1, uD_i h.2⟩⟩
theorem uMk_eq {S S' : Nat → Prop} (h : ∀ q, q < 16 → (S q ↔ S' q)) : uMk S = uMk S' := by
  apply Nat.eq_of_testBit_eq
  intro q
  rw [Bool.eq_iff_iff, uMk_t, uMk_t]
  exact ⟨fun k => ⟨k.1, (h q k.1).mp k.2⟩, fun k => ⟨k.1, (h q k.1).mpr k.2⟩⟩
theorem uMk_inj {S S' : Nat → Prop} (h : uMk S = uMk S') {q : Nat} (hq : q < 16) : S q ↔ S' q := by
  have a := uMk_t S q
  have b := uMk_t S' q
  rw [h] at a
  exact ⟨fun k => (b.mp (a.mpr ⟨hq, k⟩)).2, fun k => (a.mp (b.mpr ⟨hq, k⟩)).2⟩
/-- all unions of some sets, the empty one first -/
def uUn : List (Nat → Prop) → List (Nat → Prop)
  | [] => [fun _ => False]
  | g :: gs => uUn gs ++ (uUn gs).map (fun S q => g q ∨ S q)
theorem uUn_len (G : List (Nat → Prop)) : (uUn G).length = 2 ^ G.length := by
  induction G with
  | nil => rfl
  | cons g gs ih =>
    show (uUn gs ++ (uUn gs).map _).length = _
    rw [List.length_append, List.length_map, ih, List.length_cons, Nat.pow_succ]; omega
theorem uUn_hd (G : List (Nat → Prop)) : ∃ tl, uUn G = (fun _ => False) :: tl := by
  induction G with
  | nil => exact ⟨[], rfl⟩
  | cons g gs ih =>
    obtain ⟨tl, e⟩ := ih
    refine ⟨tl ++ (uUn gs).map (fun S q => g q ∨ S q), ?_⟩
    show uUn gs ++ (uUn gs).map _ = _
    rw [e]; rfl
theorem uUn_mem {α : Type} (Ls : List α) (gen : α → Nat → Prop) (sel : α → Prop) : ∃ S, S ∈ uUn (Ls.map gen) ∧ ∀ q, (S q ↔ ∃ x, x ∈ Ls ∧ sel x ∧ gen x q) := by
  induction Ls with
  | nil => exact ⟨fun _ => False, List.mem_singleton.mpr rfl, fun q => ⟨False.elim, fun ⟨x, h, _⟩ => nomatch h⟩⟩
  | cons a Ls ih =>
    obtain ⟨S, hS, hq⟩ := ih
    by_cases ha : sel a
    · refine ⟨fun q => gen a q ∨ S q, List.mem_append.mpr (Or.inr (List.mem_map.mpr ⟨S, hS, rfl⟩)), fun q => ?_⟩
      constructor
      · rintro (h | h)
        · exact ⟨a, List.mem_cons_self .., ha, h⟩
        · obtain ⟨x, hx, h1, h2⟩ := (hq q).mp h
          exact ⟨x, List.mem_cons_of_mem _ hx, h1, h2⟩
      · rintro ⟨x, hx, h1, h2⟩
        rcases List.mem_cons.mp hx with rfl | hx
        · exact Or.inl h2
        · exact Or.inr ((hq q).mpr ⟨x, hx, h1, h2⟩)
    · refine ⟨S, List.mem_append.mpr (Or.inl hS), fun q => ?_⟩
      rw [hq q]
      constructor
      · rintro ⟨x, hx, h1, h2⟩
        exact ⟨x, List.mem_cons_of_mem _ hx, h1, h2⟩
      · rintro ⟨x, hx, h1, h2⟩
        rcases List.mem_cons.mp hx with rfl | hx
        · exact absurd h1 ha
        · exact ⟨x, hx, h1, h2⟩
/-- pairs of unions, but for the empty pair -/
theorem uPairs (G H : List (Nat → Prop)) : ∃ R : List ((Nat → Prop) × (Nat → Prop)), R.length + 1 = 2 ^ (G.length + H.length) ∧ ∀ S T, S ∈ uUn G → T ∈ uUn H → ((∃ q, S q) ∨ ∃ q, T q) → (S, T) ∈ R := by
  obtain ⟨g, eg⟩ := uUn_hd G
  obtain ⟨h, eh⟩ := uUn_hd H
  have lg := uUn_len G
  have lh := uUn_len H
  have lg' : g.length + 1 = 2 ^ G.length := by rw [← lg, eg]; rfl
  have lh' : h.length + 1 = 2 ^ H.length := by rw [← lh, eh]; rfl
  refine ⟨h.map (fun T => ((fun _ => False), T)) ++ g.flatMap (fun S => (uUn H).map (fun T => (S, T))), ?_, ?_⟩
  · have lf : (g.flatMap (fun S => (uUn H).map (fun T => (S, T)))).length = g.length * 2 ^ H.length := by
      clear eg lg lg'
      induction g with
      | nil => simp
      | cons a g ih => rw [List.flatMap_cons, List.length_append, ih, List.length_map, lh, List.length_cons, Nat.succ_mul]; omega
    rw [List.length_append, List.length_map, lf, Nat.pow_add, ← lg', Nat.succ_mul]
    omega
  · intro S T hS hT hne
    rw [eg] at hS
    rw [List.mem_append]
    rcases List.mem_cons.mp hS with rfl | hS
    · left
      rw [eh] at hT
      rcases List.mem_cons.mp hT with rfl | hT
      · exact absurd hne (by rintro (⟨_, h⟩ | ⟨_, h⟩) <;> exact h)
      · exact List.mem_map.mpr ⟨T, hT, rfl⟩
    · right
      exact List.mem_flatMap.mpr ⟨S, hS, List.mem_map.mpr ⟨T, hT, rfl⟩⟩
/-- what a set of places leads to by a sort of act -/
def bStp (n : Nat) (so : Nat → Nat) (fo : Nat → Nat → Prop) (X : Nat → Prop) (a : Nat) : Nat → Prop := fun q => 1 ≤ q ∧ q ≤ n ∧ so q = a ∧ ∃ p, p ≤ n ∧ X p ∧ fo p q
/-- the set behind a word, its last letter first -/
def bSet (n : Nat) (so : Nat → Nat) (fo : Nat → Nat → Prop) : List Nat → Nat → Prop
  | [] => fun q => q = 0
  | a :: w => bStp n so fo (bSet n so fo w) a
/-- what is known of a book's places -/
def bOk (n : Nat) (fo : Nat → Nat → Prop) (lb : Nat → Nat) (B σ : Nat) : Prop :=
  4 * n + 2 * B + σ ≤ 61 ∧
  (∀ q, 1 ≤ q → q ≤ n → lb q = 0 → ∀ y y', 1 ≤ y → y ≤ n → 1 ≤ y' → y' ≤ n → fo y q → fo y' q → y = y') ∧
  (∀ q q', 1 ≤ q → q ≤ n → 1 ≤ q' → q' ≤ n → 1 ≤ lb q → lb q ≤ B → lb q = lb q' → ∀ y, 1 ≤ y → y ≤ n → fo y q → fo y q') ∧
  (∀ q, 1 ≤ q → q ≤ n → B < lb q → ∀ y, 1 ≤ y → y ≤ n → ¬ fo y q) ∧
  (σ = 0 → ∀ y q, 1 ≤ y → y ≤ n → 1 ≤ q → q ≤ n → fo y q → y < q) ∧
  (σ = 1 → ∃ l f : Nat → Prop, (∀ y q, 1 ≤ y → y ≤ n → 1 ≤ q → q ≤ n → fo y q → y < q ∨ (l y ∧ f q)) ∧ ∀ y q, 1 ≤ y → y ≤ n → 1 ≤ q → q ≤ n → l y → f q → fo y q)
theorem bSet_rg {n : Nat} {so : Nat → Nat} {fo : Nat → Nat → Prop} {a : Nat} {w : List Nat} {q : Nat} (h : bSet n so fo (a :: w) q) : 1 ≤ q ∧ q ≤ n ∧ so q = a := ⟨h.1, h.2.1, h.2.2.1⟩
/-- the places of a sort, the others, those of the sort that have one of it ahead -/
noncomputable def bK (n : Nat) (so : Nat → Nat) (a : Nat) : List Nat := (List.range 16).filter (fun q => uD (1 ≤ q ∧ q ≤ n ∧ so q = a))
noncomputable def bO (n : Nat) (so : Nat → Nat) (a : Nat) : List Nat := (List.range 16).filter (fun q => uD (1 ≤ q ∧ q ≤ n ∧ so q ≠ a))
noncomputable def bV (n : Nat) (so : Nat → Nat) (fo : Nat → Nat → Prop) (a : Nat) : List Nat := (List.range 16).filter (fun q => uD ((1 ≤ q ∧ q ≤ n ∧ so q = a) ∧ ∃ y, (1 ≤ y ∧ y ≤ n ∧ so y = a) ∧ fo y q))
theorem bL_mem {P : Nat → Prop} (hP : ∀ q, P q → q < 16) {q : Nat} : q ∈ (List.range 16).filter (fun q => uD (P q)) ↔ P q := by
  rw [List.mem_filter, List.mem_range]
  exact ⟨fun h => uD_e h.2, fun h => ⟨hP q h, uD_i h⟩⟩
theorem bK_mem {n : Nat} (hn : n ≤ 15) {so : Nat → Nat} {a q : Nat} : q ∈ bK n so a ↔ 1 ≤ q ∧ q ≤ n ∧ so q = a := bL_mem (fun q h => by omega)
theorem bO_mem {n : Nat} (hn : n ≤ 15) {so : Nat → Nat} {a q : Nat} : q ∈ bO n so a ↔ 1 ≤ q ∧ q ≤ n ∧ so q ≠ a := bL_mem (fun q h => by omega)
theorem bV_mem {n : Nat} (hn : n ≤ 15) {so : Nat → Nat} {fo : Nat → Nat → Prop} {a q : Nat} : q ∈ bV n so fo a ↔ (1 ≤ q ∧ q ≤ n ∧ so q = a) ∧ ∃ y, (1 ≤ y ∧ y ≤ n ∧ so y = a) ∧ fo y q := bL_mem (fun q h => by omega)
theorem bL_nd (P : Nat → Prop) : ((List.range 16).filter (fun q => uD (P q))).Nodup := List.Pairwise.filter _ List.nodup_range
theorem bKO {n : Nat} (hn : n ≤ 15) (so : Nat → Nat) (a : Nat) : (bK n so a).length + (bO n so a).length = n := by
  have key : ∀ N, ((List.range N).filter (fun q => uD (1 ≤ q ∧ q ≤ n ∧ so q = a))).length + ((List.range N).filter (fun q => uD (1 ≤ q ∧ q ≤ n ∧ so q ≠ a))).length = min n (N - 1) := by
    intro N
    induction N with
    | zero => simp
    | succ N ih =>
      rw [List.range_succ, List.filter_append, List.filter_append, List.length_append, List.length_append]
      by_cases h : 1 ≤ N ∧ N ≤ n
      · by_cases e : so N = a
        · have h1 : uD (1 ≤ N ∧ N ≤ n ∧ so N = a) = true := uD_i ⟨h.1, h.2, e⟩
          have h2 : uD (1 ≤ N ∧ N ≤ n ∧ so N ≠ a) = false := uD_n (fun k => k.2.2 e)
          simp only [List.filter_cons, List.filter_nil, h1, h2, if_true, Bool.false_eq_true, if_false, List.length_cons, List.length_nil]; omega
        · have h1 : uD (1 ≤ N ∧ N ≤ n ∧ so N = a) = false := uD_n (fun k => e k.2.2)
          have h2 : uD (1 ≤ N ∧ N ≤ n ∧ so N ≠ a) = true := uD_i ⟨h.1, h.2, e⟩
          simp only [List.filter_cons, List.filter_nil, h1, h2, if_true, Bool.false_eq_true, if_false, List.length_cons, List.length_nil]; omega
      · have h1 : uD (1 ≤ N ∧ N ≤ n ∧ so N = a) = false := uD_n (fun k => h ⟨k.1, k.2.1⟩)
        have h2 : uD (1 ≤ N ∧ N ≤ n ∧ so N ≠ a) = false := uD_n (fun k => h ⟨k.1, k.2.1⟩)
        simp only [List.filter_cons, List.filter_nil, h1, h2, if_true, Bool.false_eq_true, if_false, List.length_cons, List.length_nil]; omega
  have := key 16
  unfold bK bO
  omega
