/-! ===== the bound: pairs of sets that two books come to by one word ===== -/
theorem uMk_0 {S : Nat → Prop} (h : ∀ q, ¬ S q) : uMk S = 0 := by
  apply Nat.eq_of_testBit_eq
  intro q
  rw [Nat.zero_testBit]
  cases e : (uMk S).testBit q with
  | false => rfl
  | true => exact absurd ((uMk_t S q).mp e).2 (h q)
theorem uMk_ne {S T : Nat → Prop} (h : (uMk S, uMk T) ≠ (0, 0)) : (∃ q, S q) ∨ ∃ q, T q := by
  apply Classical.byContradiction
  intro hno
  apply h
  rw [uMk_0 (fun q hq => hno (Or.inl ⟨q, hq⟩)), uMk_0 (fun q hq => hno (Or.inr ⟨q, hq⟩))]
theorem uSub (Ls : List Nat) (X : Nat → Prop) (h : ∀ q, X q → q ∈ Ls) : ∃ S, S ∈ uUn (Ls.map (fun y q => q = y)) ∧ ∀ q, (S q ↔ X q) := by
  obtain ⟨S, hS, hq⟩ := uUn_mem Ls (fun y q => q = y) X
  exact ⟨S, hS, fun q => (hq q).trans ⟨fun ⟨y, _, hy, e⟩ => by rw [e]; exact hy, fun hX => ⟨q, h q hX, hX, rfl⟩⟩⟩
theorem bStp_eq {n : Nat} {so : Nat → Nat} {fo : Nat → Nat → Prop} {X X' : Nat → Prop} (h : ∀ q, X q ↔ X' q) (a q : Nat) : bStp n so fo X a q ↔ bStp n so fo X' a q :=
  ⟨fun ⟨q1, q2, q3, p, hp, hx, hf⟩ => ⟨q1, q2, q3, p, hp, (h p).mp hx, hf⟩, fun ⟨q1, q2, q3, p, hp, hx, hf⟩ => ⟨q1, q2, q3, p, hp, (h p).mpr hx, hf⟩⟩
theorem b_other {n : Nat} (hn : n ≤ 15) {so : Nat → Nat} {fo : Nat → Nat → Prop} {a c : Nat} (hc : c ≠ a) {w : List Nat} {q : Nat} (h : bSet n so fo (c :: w) q) : q ∈ bO n so a := by
  obtain ⟨q1, q2, q3⟩ := bSet_rg h
  exact (bO_mem hn).mpr ⟨q1, q2, fun e => hc (q3.symm.trans e)⟩
theorem u_flat {α β : Type} (l : List Nat) (FP : List α) (f : Nat → α → β) : (l.flatMap (fun i => FP.map (f i))).length = FP.length * l.length := by
  induction l with
  | nil => simp
  | cons x l ih => rw [List.flatMap_cons, List.length_append, ih, List.length_map, List.length_cons, Nat.mul_succ]; omega
theorem b_count {n1 n2 : Nat} (h1 : n1 ≤ 15) (h2 : n2 ≤ 15) {fo1 fo2 : Nat → Nat → Prop} {lb1 lb2 : Nat → Nat} {B1 B2 σ1 σ2 : Nat} (k1 : bOk n1 fo1 lb1 B1 σ1) (k2 : bOk n2 fo2 lb2 B2 σ2) (so1 so2 : Nat → Nat) (a : Nat) :
    ∃ g1 g2 L1 t1 L2 t2, (g1 ≤ (bO n1 so1 a).length ∧ g1 ≤ (bK n1 so1 a).length ∧ g1 + (bV n1 so1 fo1 a).length ≤ B1 + (bK n1 so1 a).length) ∧ (g2 ≤ (bO n2 so2 a).length ∧ g2 ≤ (bK n2 so2 a).length ∧ g2 + (bV n2 so2 fo2 a).length ≤ B2 + (bK n2 so2 a).length) ∧
      uProf (σ1 ≤ 1) (bV n1 so1 fo1 a).length L1 t1 ∧ uProf (σ2 ≤ 1) (bV n2 so2 fo2 a).length L2 t2 ∧
      ∀ PL : List (Nat × Nat), PL.Nodup → (∀ x, x ∈ PL → x ≠ (0, 0) ∧ ∃ w, x = (uMk (bSet n1 so1 fo1 w), uMk (bSet n2 so2 fo2 w))) →
        PL.length ≤ 2 ^ ((bO n1 so1 a).length + (bO n2 so2 a).length) + 2 ^ (g1 + g2) + 2 ^ (g1 + g2) * (max t1 t2 + Nat.lcm L1 L2) ∧
        PL.length ≤ 2 ^ ((bO n1 so1 a).length + (bO n2 so2 a).length) + 2 ^ (g1 + g2) + 2 ^ ((bV n1 so1 fo1 a).length + (bV n2 so2 fo2 a).length) := by
  obtain ⟨G1, a1, a3⟩ := bGen h1 k1 so1 a
  obtain ⟨G2, b1, b3⟩ := bGen h2 k2 so2 a
  obtain ⟨L1, t1, c0, c1, c2⟩ := b_main h1 k1 so1 a
  obtain ⟨L2, t2, d0, d1, d2⟩ := b_main h2 k2 so2 a
  refine ⟨G1.length, G2.length, L1, t1, L2, t2, a1, b1, c1, d1, ?_⟩
  intro PL hN hPL
  obtain ⟨RO, ro1, ro2⟩ := uPairs ((bO n1 so1 a).map (fun y q => q = y)) ((bO n2 so2 a).map (fun y q => q = y))
  obtain ⟨RV, rv1, rv2⟩ := uPairs ((bV n1 so1 fo1 a).map (fun y q => q = y)) ((bV n2 so2 fo2 a).map (fun y q => q = y))
  obtain ⟨RG, rg1, rg2⟩ := uPairs G1 G2
  simp only [List.length_map] at ro1 rv1
  -- behind an a that follows another sort, or the begin
  let FP := (bSet n1 so1 fo1 [a], bSet n2 so2 fo2 [a]) :: RG
  let mk2 : (Nat → Prop) × (Nat → Prop) → Nat × Nat := fun x => (uMk x.1, uMk x.2)
  let rnd : Nat → (Nat → Prop) × (Nat → Prop) → Nat × Nat := fun i x => (uMk (fun q => ∃ u, bStp n1 so1 fo1 x.1 a u ∧ uW (bF n1 so1 fo1 a) i u q), uMk (fun q => ∃ u, bStp n2 so2 fo2 x.2 a u ∧ uW (bF n2 so2 fo2 a) i u q))
  let C1 := (uMk (fun q => q = 0), uMk (fun q => q = 0)) :: RO.map mk2
  let C2 := FP.map mk2
  let C3 := (List.range (max t1 t2 + Nat.lcm L1 L2)).flatMap (fun i => FP.map (rnd i))
  let C4 := RV.map mk2
  have hC1 : C1.length = 2 ^ ((bO n1 so1 a).length + (bO n2 so2 a).length) := by
    show (RO.map mk2).length + 1 = _
    rw [List.length_map]; exact ro1
  have hFP : FP.length = 2 ^ (G1.length + G2.length) := rg1
  have hC2 : C2.length = 2 ^ (G1.length + G2.length) := by
    show (FP.map mk2).length = _
    rw [List.length_map]; exact hFP
  have hC3 : C3.length = 2 ^ (G1.length + G2.length) * (max t1 t2 + Nat.lcm L1 L2) := by
    show (List.flatMap _ _).length = _
    rw [u_flat, hFP, List.length_range]
  have hC4 : C4.length ≤ 2 ^ ((bV n1 so1 fo1 a).length + (bV n2 so2 fo2 a).length) := by
    show (RV.map mk2).length ≤ _
    rw [List.length_map]; omega
  -- the pair behind an a is one of FP
  have hfp : ∀ v, (v = [] ∨ ∃ b v', b ≠ a ∧ v = b :: v') → ((∃ q, bSet n1 so1 fo1 (a :: v) q) ∨ ∃ q, bSet n2 so2 fo2 (a :: v) q) → ∃ x, x ∈ FP ∧ (∀ q, x.1 q ↔ bSet n1 so1 fo1 (a :: v) q) ∧ ∀ q, x.2 q ↔ bSet n2 so2 fo2 (a :: v) q := by
    rintro v (rfl | ⟨b, v', hb, rfl⟩) hne
    · exact ⟨_, List.mem_cons_self .., fun q => Iff.rfl, fun q => Iff.rfl⟩
    · obtain ⟨S, hS, eS⟩ := a3 (bSet n1 so1 fo1 (b :: v')) (fun y hy => b_other h1 hb hy)
      obtain ⟨T, hT, eT⟩ := b3 (bSet n2 so2 fo2 (b :: v')) (fun y hy => b_other h2 hb hy)
      refine ⟨(S, T), List.mem_cons_of_mem _ (rg2 S T hS hT ?_), eS, eT⟩
      exact hne.imp (fun ⟨q, h⟩ => ⟨q, (eS q).mpr h⟩) (fun ⟨q, h⟩ => ⟨q, (eT q).mpr h⟩)
  have hmem : ∀ x, x ∈ PL → x ∈ C1 ∨ x ∈ C2 ∨ (x ∈ C3 ∧ x ∈ C4) := by
    intro x hx
    obtain ⟨hne, w, rfl⟩ := hPL x hx
    have hne := uMk_ne hne
    rcases w_split a w with rfl | ⟨c, v, hc, rfl⟩ | ⟨v, hv, rfl | ⟨i, rfl⟩⟩
    · exact Or.inl (List.mem_cons_self ..)
    · left
      obtain ⟨S, hS, eS⟩ := uSub (bO n1 so1 a) (bSet n1 so1 fo1 (c :: v)) (fun q hq => b_other h1 hc hq)
      obtain ⟨T, hT, eT⟩ := uSub (bO n2 so2 a) (bSet n2 so2 fo2 (c :: v)) (fun q hq => b_other h2 hc hq)
      refine List.mem_cons_of_mem _ (List.mem_map.mpr ⟨(S, T), ro2 S T hS hT (hne.imp (fun ⟨q, h⟩ => ⟨q, (eS q).mpr h⟩) (fun ⟨q, h⟩ => ⟨q, (eT q).mpr h⟩)), ?_⟩)
      show (uMk S, uMk T) = _
      rw [uMk_eq (fun q _ => eS q), uMk_eq (fun q _ => eT q)]
    · right; left
      obtain ⟨x, hx, e1, e2⟩ := hfp v hv hne
      refine List.mem_map.mpr ⟨x, hx, ?_⟩
      show (uMk x.1, uMk x.2) = _
      rw [uMk_eq (fun q _ => e1 q), uMk_eq (fun q _ => e2 q)]
    · right; right
      have w1 := b_words h1 so1 fo1 a v i
      have w2 := b_words h2 so2 fo2 a v i
      have in1 : ∀ u, bSet n1 so1 fo1 (a :: a :: v) u → u ∈ bV n1 so1 fo1 a := by
        rintro u ⟨u1, u2, u3, p, hp, hx, hf⟩
        exact (bV_mem h1).mpr ⟨⟨u1, u2, u3⟩, p, bSet_rg hx, hf⟩
      have in2 : ∀ u, bSet n2 so2 fo2 (a :: a :: v) u → u ∈ bV n2 so2 fo2 a := by
        rintro u ⟨u1, u2, u3, p, hp, hx, hf⟩
        exact (bV_mem h2).mpr ⟨⟨u1, u2, u3⟩, p, bSet_rg hx, hf⟩
      constructor
      · have hne' : (∃ q, bSet n1 so1 fo1 (a :: v) q) ∨ ∃ q, bSet n2 so2 fo2 (a :: v) q := by
          rcases hne with ⟨q, h⟩ | ⟨q, h⟩
          · obtain ⟨u, ⟨_, _, _, p, _, hp, _⟩, _⟩ := (w1 q).mp h
            exact Or.inl ⟨p, hp⟩
          · obtain ⟨u, ⟨_, _, _, p, _, hp, _⟩, _⟩ := (w2 q).mp h
            exact Or.inr ⟨p, hp⟩
        obtain ⟨x, hx, e1, e2⟩ := hfp v hv hne'
        have hL : 0 < Nat.lcm L1 L2 := Nat.lcm_pos c0 d0
        obtain ⟨i', hi', hP⟩ := u_round (max t1 t2) (Nat.lcm L1 L2) hL i
        refine List.mem_flatMap.mpr ⟨i', List.mem_range.mpr hi', List.mem_map.mpr ⟨x, hx, ?_⟩⟩
        have r1 : ∀ u q, u ∈ bV n1 so1 fo1 a → (uW (bF n1 so1 fo1 a) i u q ↔ uW (bF n1 so1 fo1 a) i' u q) := fun u q hu =>
          hP (fun j => uW (bF n1 so1 fo1 a) j u q) (fun j hj => uEq_dvd (c2 u hu j (by omega)) (Nat.dvd_lcm_left _ _) q)
        have r2 : ∀ u q, u ∈ bV n2 so2 fo2 a → (uW (bF n2 so2 fo2 a) i u q ↔ uW (bF n2 so2 fo2 a) i' u q) := fun u q hu =>
          hP (fun j => uW (bF n2 so2 fo2 a) j u q) (fun j hj => uEq_dvd (d2 u hu j (by omega)) (Nat.dvd_lcm_right _ _) q)
        refine Prod.ext (uMk_eq ?_) (uMk_eq ?_)
        · intro q _
          refine Iff.trans ?_ (w1 q).symm
          constructor
          · rintro ⟨u, hu, hw⟩
            have hu' : bSet n1 so1 fo1 (a :: a :: v) u := (bStp_eq e1 a u).mp hu
            exact ⟨u, hu', (r1 u q (in1 u hu')).mpr hw⟩
          · rintro ⟨u, hu, hw⟩
            exact ⟨u, (bStp_eq e1 a u).mpr hu, (r1 u q (in1 u hu)).mp hw⟩
        · intro q _
          refine Iff.trans ?_ (w2 q).symm
          constructor
          · rintro ⟨u, hu, hw⟩
            have hu' : bSet n2 so2 fo2 (a :: a :: v) u := (bStp_eq e2 a u).mp hu
            exact ⟨u, hu', (r2 u q (in2 u hu')).mpr hw⟩
          · rintro ⟨u, hu, hw⟩
            exact ⟨u, (bStp_eq e2 a u).mpr hu, (r2 u q (in2 u hu)).mp hw⟩
      · obtain ⟨S, hS, eS⟩ := uSub (bV n1 so1 fo1 a) (bSet n1 so1 fo1 (List.replicate i a ++ a :: a :: v)) (fun q hq => by
          obtain ⟨u, hu, hw⟩ := (w1 q).mp hq
          exact uW_in (bF_in n1 so1 fo1 a) (in1 u hu) hw)
        obtain ⟨T, hT, eT⟩ := uSub (bV n2 so2 fo2 a) (bSet n2 so2 fo2 (List.replicate i a ++ a :: a :: v)) (fun q hq => by
          obtain ⟨u, hu, hw⟩ := (w2 q).mp hq
          exact uW_in (bF_in n2 so2 fo2 a) (in2 u hu) hw)
        refine List.mem_map.mpr ⟨(S, T), rv2 S T hS hT (hne.imp (fun ⟨q, h⟩ => ⟨q, (eS q).mpr h⟩) (fun ⟨q, h⟩ => ⟨q, (eT q).mpr h⟩)), ?_⟩
        show (uMk S, uMk T) = _
        rw [uMk_eq (fun q _ => eS q), uMk_eq (fun q _ => eT q)]
  constructor
  · have hsub : PL ⊆ C1 ++ C2 ++ C3 := by
      intro x hx
      rcases hmem x hx with h | h | ⟨h, _⟩
      · exact List.mem_append.mpr (Or.inl (List.mem_append.mpr (Or.inl h)))
      · exact List.mem_append.mpr (Or.inl (List.mem_append.mpr (Or.inr h)))
      · exact List.mem_append.mpr (Or.inr h)
    have := List.Nodup.length_le_of_subset hN hsub
    rw [List.length_append, List.length_append, hC1, hC2, hC3] at this
    exact this
  · have hsub : PL ⊆ C1 ++ C2 ++ C4 := by
      intro x hx
      rcases hmem x hx with h | h | ⟨_, h⟩
      · exact List.mem_append.mpr (Or.inl (List.mem_append.mpr (Or.inl h)))
      · exact List.mem_append.mpr (Or.inl (List.mem_append.mpr (Or.inr h)))
      · exact List.mem_append.mpr (Or.inr h)
    have := List.Nodup.length_le_of_subset hN hsub
    rw [List.length_append, List.length_append, hC1, hC2] at this
    omega
