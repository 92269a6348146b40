/-! ===== the bound: pairs and sets, whole ===== -/
theorem bKsum {n : Nat} (hn : n ≤ 15) (so : Nat → Nat) (N : Nat) : ((List.range N).map (fun a => (bK n so a).length)).sum ≤ n := by
  have key : ((List.range N).map (fun a => (bK n so a).length)).sum ≤ ((List.range 16).filter (fun q => uD (1 ≤ q ∧ q ≤ n ∧ so q < N))).length := by
    induction N with
    | zero => exact Nat.zero_le _
    | succ N ih =>
      rw [List.range_succ, List.map_append, List.sum_append]
      have h := u_split ((List.range 16).filter (fun q => uD (1 ≤ q ∧ q ≤ n ∧ so q < N + 1))) (fun q => so q = N)
      have e1 : (bK n so N).length ≤ (((List.range 16).filter (fun q => uD (1 ≤ q ∧ q ≤ n ∧ so q < N + 1))).filter (fun q => uD (so q = N))).length := by
        apply List.Nodup.length_le_of_subset (bL_nd _)
        intro q hq
        have := (bK_mem hn).mp hq
        exact List.mem_filter.mpr ⟨List.mem_filter.mpr ⟨List.mem_range.mpr (by omega), uD_i ⟨this.1, this.2.1, by omega⟩⟩, uD_i this.2.2⟩
      have e2 : ((List.range 16).filter (fun q => uD (1 ≤ q ∧ q ≤ n ∧ so q < N))).length ≤ (((List.range 16).filter (fun q => uD (1 ≤ q ∧ q ≤ n ∧ so q < N + 1))).filter (fun q => uD (¬ so q = N))).length := by
        apply List.Nodup.length_le_of_subset (bL_nd _)
        intro q hq
        obtain ⟨a, b⟩ := List.mem_filter.mp hq
        have b := uD_e b
        exact List.mem_filter.mpr ⟨List.mem_filter.mpr ⟨a, uD_i ⟨b.1, b.2.1, by omega⟩⟩, uD_i (by omega)⟩
      simp only [List.map_cons, List.map_nil, List.sum_cons, List.sum_nil]
      omega
  refine Nat.le_trans key ?_
  have h : ((List.range 16).filter (fun q => uD (1 ≤ q ∧ q ≤ n ∧ so q < N))).length ≤ ((List.range n).map (fun i => i + 1)).length := by
    apply List.Nodup.length_le_of_subset (bL_nd _)
    intro q hq
    have b := uD_e (List.mem_filter.mp hq).2
    exact List.mem_map.mpr ⟨q - 1, List.mem_range.mpr (by omega), by omega⟩
  rwa [List.length_map, List.length_range] at h
theorem b_small {M : Nat} (hM : ∀ s, s ≤ M → M * (2 ^ s - 1) ≤ (2 ^ M - 1) * s) {n1 n2 : Nat} (h1 : n1 ≤ 15) (h2 : n2 ≤ 15) {fo1 fo2 : Nat → Nat → Prop} {so1 so2 : Nat → Nat} (s1 : ∀ q, so1 q < 24) (s2 : ∀ q, so2 q < 24)
    (hs : ∀ a, (bK n1 so1 a).length + (bK n2 so2 a).length ≤ M) {PL : List (Nat × Nat)} (hN : PL.Nodup) (hPL : ∀ x, x ∈ PL → x ≠ (0, 0) ∧ ∃ w, x = (uMk (bSet n1 so1 fo1 w), uMk (bSet n2 so2 fo2 w))) : M * PL.length ≤ (2 ^ M - 1) * (n1 + n2) + M := by
  have hR := fun a => uPairs ((bK n1 so1 a).map (fun y q => q = y)) ((bK n2 so2 a).map (fun y q => q = y))
  obtain ⟨R, r⟩ : ∃ R : Nat → List ((Nat → Prop) × (Nat → Prop)), ∀ a, (R a).length + 1 = 2 ^ (((bK n1 so1 a).map (fun (y q : Nat) => q = y)).length + ((bK n2 so2 a).map (fun (y q : Nat) => q = y)).length) ∧ ∀ S T, S ∈ uUn ((bK n1 so1 a).map (fun y q => q = y)) → T ∈ uUn ((bK n2 so2 a).map (fun y q => q = y)) → ((∃ q, S q) ∨ ∃ q, T q) → (S, T) ∈ R a := ⟨fun a => Classical.choose (hR a), fun a => Classical.choose_spec (hR a)⟩
  let mk2 : (Nat → Prop) × (Nat → Prop) → Nat × Nat := fun x => (uMk x.1, uMk x.2)
  let C := (uMk (fun q => q = 0), uMk (fun q => q = 0)) :: (List.range 24).flatMap (fun a => (R a).map mk2)
  have hlen : ∀ N, M * ((List.range N).flatMap (fun a => (R a).map mk2)).length ≤ (2 ^ M - 1) * (((List.range N).map (fun a => (bK n1 so1 a).length)).sum + ((List.range N).map (fun a => (bK n2 so2 a).length)).sum) := by
    intro N
    induction N with
    | zero => simp
    | succ N ih =>
      rw [List.range_succ, List.flatMap_append, List.length_append, List.map_append, List.sum_append, List.map_append, List.sum_append]
      simp only [List.flatMap_cons, List.flatMap_nil, List.append_nil, List.length_map, List.map_cons, List.map_nil, List.sum_cons, List.sum_nil, Nat.add_zero]
      have e := (r N).1
      rw [List.length_map, List.length_map] at e
      have k := hM _ (hs N)
      rw [← e, Nat.add_sub_cancel] at k
      have d1 := Nat.mul_add M ((List.range N).flatMap (fun a => (R a).map mk2)).length (R N).length
      have d2 := Nat.mul_add (2 ^ M - 1) (((List.range N).map (fun a => (bK n1 so1 a).length)).sum + ((List.range N).map (fun a => (bK n2 so2 a).length)).sum) ((bK n1 so1 N).length + (bK n2 so2 N).length)
      have d3 : ((List.range N).map (fun a => (bK n1 so1 a).length)).sum + (bK n1 so1 N).length + (((List.range N).map (fun a => (bK n2 so2 a).length)).sum + (bK n2 so2 N).length) = (((List.range N).map (fun a => (bK n1 so1 a).length)).sum + ((List.range N).map (fun a => (bK n2 so2 a).length)).sum) + ((bK n1 so1 N).length + (bK n2 so2 N).length) := by omega
      rw [d1, d3, d2]
      omega
  have hsub : PL ⊆ C := by
    intro x hx
    obtain ⟨hne, w, rfl⟩ := hPL x hx
    have hne := uMk_ne hne
    cases w with
    | nil => exact List.mem_cons_self ..
    | cons c v =>
      obtain ⟨S, hS, eS⟩ := uSub (bK n1 so1 c) (bSet n1 so1 fo1 (c :: v)) (fun q hq => (bK_mem h1).mpr (bSet_rg hq))
      obtain ⟨T, hT, eT⟩ := uSub (bK n2 so2 c) (bSet n2 so2 fo2 (c :: v)) (fun q hq => (bK_mem h2).mpr (bSet_rg hq))
      have hc : c < 24 := by
        rcases hne with ⟨q, h⟩ | ⟨q, h⟩
        · rw [← (bSet_rg h).2.2]; exact s1 q
        · rw [← (bSet_rg h).2.2]; exact s2 q
      refine List.mem_cons_of_mem _ (List.mem_flatMap.mpr ⟨c, List.mem_range.mpr hc, List.mem_map.mpr ⟨(S, T), (r c).2 S T hS hT (hne.imp (fun ⟨q, h⟩ => ⟨q, (eS q).mpr h⟩) (fun ⟨q, h⟩ => ⟨q, (eT q).mpr h⟩)), ?_⟩⟩)
      show (uMk S, uMk T) = _
      rw [uMk_eq (fun q _ => eS q), uMk_eq (fun q _ => eT q)]
  have hl := List.Nodup.length_le_of_subset hN hsub
  have hC : C.length = ((List.range 24).flatMap (fun a => (R a).map mk2)).length + 1 := rfl
  have h24 := hlen 24
  have q1 := bKsum h1 so1 24
  have q2 := bKsum h2 so2 24
  have m1 := Nat.mul_le_mul_left M hl
  rw [hC, Nat.mul_add, Nat.mul_one] at m1
  have m2 := Nat.mul_le_mul_left (2 ^ M - 1) (Nat.add_le_add q1 q2)
  omega
theorem b_pairs {n1 n2 : Nat} (h1 : n1 ≤ 15) (h2 : n2 ≤ 15) {fo1 fo2 : Nat → Nat → Prop} {lb1 lb2 : Nat → Nat} {B1 B2 σ1 σ2 : Nat} (k1 : bOk n1 fo1 lb1 B1 σ1) (k2 : bOk n2 fo2 lb2 B2 σ2) {so1 so2 : Nat → Nat} (s1 : ∀ q, so1 q < 24) (s2 : ∀ q, so2 q < 24)
    {PL : List (Nat × Nat)} (hN : PL.Nodup) (hPL : ∀ x, x ∈ PL → x ≠ (0, 0) ∧ ∃ w, x = (uMk (bSet n1 so1 fo1 w), uMk (bSet n2 so2 fo2 w))) : PL.length ≤ 65536 := by
  by_cases h : ∃ a, 16 ≤ (bK n1 so1 a).length + (bK n2 so2 a).length
  · obtain ⟨a, ha⟩ := h
    exact b_large h1 h2 k1 k2 so1 so2 a ha hN hPL
  · have := b_small (M := 15) (by decide) h1 h2 s1 s2 (fun a => by
      apply Classical.byContradiction
      intro hh
      exact h ⟨a, by omega⟩) hN hPL
    omega
theorem bn_one : ((List.range 16).all fun p => (bnBest p true).all (fun x => Nat.ble (x.1 + x.2) 400) && (bnBest p false).all (fun x => Nat.ble (x.1 + x.2) 400)) = true := by decide +kernel
theorem b_sets {n : Nat} (h1 : n ≤ 15) {fo : Nat → Nat → Prop} {lb : Nat → Nat} {B σ : Nat} (k1 : bOk n fo lb B σ) {so : Nat → Nat} (s1 : ∀ q, so q < 24)
    {XL : List Nat} (hN : XL.Nodup) (hXL : ∀ x, x ∈ XL → x ≠ 0 ∧ ∃ w, x = uMk (bSet n so fo w)) : XL.length ≤ 4096 := by
  -- beside it a book without acts
  have k2 : bOk 0 (fun _ _ => False) (fun _ => 0) 0 0 := ⟨by decide, fun _ _ _ _ _ _ _ _ _ _ h => h.elim, fun _ _ _ _ _ _ _ _ _ _ _ _ h => h, fun _ _ _ _ _ _ _ h => h, fun _ _ _ _ _ _ _ h => h.elim, fun h => nomatch h⟩
  obtain ⟨φ, hφ⟩ : ∃ φ : Nat → List Nat, ∀ x, x ∈ XL → x = uMk (bSet n so fo (φ x)) := by
    have : ∀ x, ∃ w, x ∈ XL → x = uMk (bSet n so fo w) := by
      intro x
      by_cases hx : x ∈ XL
      · obtain ⟨_, w, e⟩ := hXL x hx
        exact ⟨w, fun _ => e⟩
      · exact ⟨[], fun h => absurd h hx⟩
    exact ⟨fun x => Classical.choose (this x), fun x => Classical.choose_spec (this x)⟩
  let PL : List (Nat × Nat) := XL.map (fun x => (x, uMk (bSet 0 (fun _ => 0) (fun _ _ => False) (φ x))))
  have hPN : PL.Nodup := by
    refine List.pairwise_map.mpr (List.Pairwise.imp ?_ hN)
    intro x y hne e
    exact hne (congrArg Prod.fst e)
  have hPL : ∀ x, x ∈ PL → x ≠ (0, 0) ∧ ∃ w, x = (uMk (bSet n so fo w), uMk (bSet 0 (fun _ => 0) (fun _ _ => False) w)) := by
    intro x hx
    obtain ⟨y, hy, rfl⟩ := List.mem_map.mp hx
    exact ⟨fun e => (hXL y hy).1 (congrArg Prod.fst e), φ y, by rw [← hφ y hy]⟩
  have hl : PL.length = XL.length := List.length_map _
  rw [← hl]
  have z : ∀ a, (bK 0 (fun _ => 0) a).length = 0 := fun a => by
    have := bKO (n := 0) (by decide) (fun _ => 0) a
    omega
  by_cases h : ∃ a, 12 ≤ (bK n so a).length
  · obtain ⟨a, ha⟩ := h
    obtain ⟨g1, g2, L1, t1, L2, t2, ⟨a1, a2, a3⟩, ⟨b1, b2, b3⟩, c1, c2, hc⟩ := b_count h1 (by decide) k1 k2 so (fun _ => 0) a
    obtain ⟨e1, e2⟩ := hc PL hPN hPL
    have q1 := bKO h1 so a
    have q2 := bKO (n := 0) (by decide) (fun _ => 0) a
    have v1 := bKV h1 so fo a
    have v2 := bKV (n := 0) (by decide) (fun _ => 0) (fun _ _ => False) a
    generalize (bK n so a).length = kk1 at *
    generalize (bK 0 (fun _ => 0) a).length = kk2 at *
    generalize (bO n so a).length = m1 at *
    generalize (bO 0 (fun _ => 0) a).length = m2 at *
    generalize (bV n so fo a).length = p1 at *
    generalize (bV 0 (fun _ => 0) (fun _ _ => False) a).length = p2 at *
    have p20 : p2 = 0 := by omega
    subst p20
    obtain ⟨rfl, rfl⟩ : L2 = 1 ∧ t2 = 0 := by
      rcases c2 with h | ⟨c, d, u, ds, c0, _, _, _, h, _⟩
      · exact h
      · omega
    have z1 : 2 ^ (m1 + m2) ≤ 2 ^ 3 := Nat.pow_le_pow_right (by decide) (by omega)
    have z2 : 2 ^ (g1 + g2) ≤ 2 ^ 3 := Nat.pow_le_pow_right (by decide) (by omega)
    obtain ⟨r1, hr1, w1, w2⟩ := bn_prof (o := false) (fun h => nomatch h) (show p1 ≤ 15 by omega) c1
    have hb := List.all_eq_true.mp bn_one p1 (List.mem_range.mpr (by omega))
    rw [Bool.and_eq_true] at hb
    have hb := Nat.le_of_ble_eq_true (List.all_eq_true.mp hb.2 r1 hr1)
    rw [Nat.lcm_one_right] at e1
    have z3 : 2 ^ (g1 + g2) * (max t1 0 + L1) ≤ 2 ^ 3 * 400 := Nat.mul_le_mul z2 (by omega)
    omega
  · have := b_small (M := 11) (by decide) h1 (by decide) s1 (fun _ => by decide) (fun a => by
      apply Classical.byContradiction
      intro hh
      exact h ⟨a, by have := z a; omega⟩) hPN hPL
    omega
