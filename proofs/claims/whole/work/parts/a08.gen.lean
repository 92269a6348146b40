/-! ===== the bound: what follows the others is made of few sets ===== -/
def bHas (n : Nat) (so : Nat → Nat) (fo : Nat → Nat → Prop) (a q : Nat) : Prop := ∃ y, (1 ≤ y ∧ y ≤ n ∧ so y = a) ∧ fo y q
theorem bKV {n : Nat} (hn : n ≤ 15) (so : Nat → Nat) (fo : Nat → Nat → Prop) (a : Nat) : (bV n so fo a).length + ((bK n so a).filter (fun q => uD (¬ bHas n so fo a q))).length = (bK n so a).length := by
  have h := u_split (bK n so a) (bHas n so fo a)
  have e : ((bK n so a).filter (fun q => uD (bHas n so fo a q))).length = (bV n so fo a).length := by
    apply Nat.le_antisymm
    · apply List.Nodup.length_le_of_subset (List.Pairwise.filter _ (bL_nd _))
      intro q hq
      obtain ⟨h1, h2⟩ := List.mem_filter.mp hq
      exact (bV_mem hn).mpr ⟨(bK_mem hn).mp h1, uD_e h2⟩
    · apply List.Nodup.length_le_of_subset (bL_nd _)
      intro q hq
      obtain ⟨h1, h2⟩ := (bV_mem hn).mp hq
      exact List.mem_filter.mpr ⟨(bK_mem hn).mpr h1, uD_i h2⟩
  omega
theorem bGen {n : Nat} (hn : n ≤ 15) {fo : Nat → Nat → Prop} {lb : Nat → Nat} {B σ : Nat} (hb : bOk n fo lb B σ) (so : Nat → Nat) (a : Nat) :
    ∃ G : List (Nat → Prop), (G.length ≤ (bO n so a).length ∧ G.length ≤ (bK n so a).length ∧ G.length + (bV n so fo a).length ≤ B + (bK n so a).length) ∧ ∀ Y : Nat → Prop, (∀ y, Y y → y ∈ bO n so a) → ∃ S, S ∈ uUn G ∧ ∀ q, (S q ↔ bStp n so fo Y a q) := by
  obtain ⟨-, h1, h2, h3, -, -⟩ := hb
  let G1 : List (Nat → Prop) := (bO n so a).map (fun y q => (1 ≤ q ∧ q ≤ n ∧ so q = a) ∧ fo y q)
  have g1 : ∀ Y : Nat → Prop, (∀ y, Y y → y ∈ bO n so a) → ∃ S, S ∈ uUn G1 ∧ ∀ q, (S q ↔ bStp n so fo Y a q) := by
    intro Y hY
    obtain ⟨S, hS, hq⟩ := uUn_mem (bO n so a) (fun y q => (1 ≤ q ∧ q ≤ n ∧ so q = a) ∧ fo y q) Y
    refine ⟨S, hS, fun q => (hq q).trans ?_⟩
    constructor
    · rintro ⟨y, hy, h, k, f⟩
      exact ⟨k.1, k.2.1, k.2.2, y, ((bO_mem hn).mp hy).2.1, h, f⟩
    · rintro ⟨q1, q2, q3, y, hy, h, f⟩
      exact ⟨y, hY y h, h, ⟨q1, q2, q3⟩, f⟩
  -- others that a place of the sort follows, and no other place does
  let E := (bO n so a).filter (fun y => uD (∃ q, (1 ≤ q ∧ q ≤ n ∧ so q = a) ∧ lb q = 0 ∧ fo y q))
  have hE : ∀ y, y ∈ E ↔ y ∈ bO n so a ∧ ∃ q, (1 ≤ q ∧ q ≤ n ∧ so q = a) ∧ lb q = 0 ∧ fo y q := fun y => by
    rw [List.mem_filter]; exact ⟨fun h => ⟨h.1, uD_e h.2⟩, fun h => ⟨h.1, uD_i h.2⟩⟩
  have hEl : E.length + (bV n so fo a).length ≤ (bK n so a).length := by
    have kv := bKV hn so fo a
    have : E.length ≤ ((bK n so a).filter (fun q => uD (¬ bHas n so fo a q))).length := by
      have ch : ∀ y, ∃ q, y ∈ E → (1 ≤ q ∧ q ≤ n ∧ so q = a) ∧ lb q = 0 ∧ fo y q := by
        intro y
        by_cases hy : y ∈ E
        · obtain ⟨_, q, h⟩ := (hE y).mp hy
          exact ⟨q, fun _ => h⟩
        · exact ⟨0, fun h => absurd h hy⟩
      obtain ⟨φ, hφ⟩ : ∃ φ : Nat → Nat, ∀ y, y ∈ E → (1 ≤ φ y ∧ φ y ≤ n ∧ so (φ y) = a) ∧ lb (φ y) = 0 ∧ fo y (φ y) := ⟨fun y => Classical.choose (ch y), fun y => Classical.choose_spec (ch y)⟩
      have hnd : (E.map φ).Nodup := by
        refine List.pairwise_map.mpr (List.Pairwise.imp_of_mem ?_ (List.Pairwise.filter _ (bL_nd _)))
        intro x y hx hy hne e
        obtain ⟨a1, a2, a3⟩ := hφ x hx
        obtain ⟨b1, b2, b3⟩ := hφ y hy
        have ox := (bO_mem hn).mp ((hE x).mp hx).1
        have oy := (bO_mem hn).mp ((hE y).mp hy).1
        rw [← e] at b3
        exact hne (h1 (φ x) a1.1 a1.2.1 a2 x y ox.1 ox.2.1 oy.1 oy.2.1 a3 b3)
      have hsub : E.map φ ⊆ (bK n so a).filter (fun q => uD (¬ bHas n so fo a q)) := by
        intro q hq
        obtain ⟨y, hy, rfl⟩ := List.mem_map.mp hq
        obtain ⟨a1, a2, a3⟩ := hφ y hy
        refine List.mem_filter.mpr ⟨(bK_mem hn).mpr a1, uD_i ?_⟩
        rintro ⟨z, hz, hf⟩
        have oy := (bO_mem hn).mp ((hE y).mp hy).1
        have := h1 (φ y) a1.1 a1.2.1 a2 y z oy.1 oy.2.1 hz.1 hz.2.1 a3 hf
        subst this
        exact oy.2.2 hz.2.2
      have := List.Nodup.length_le_of_subset hnd hsub
      rwa [List.length_map] at this
    omega
  let Ls : List (Bool × Nat) := (List.range B).map (fun g => (true, g)) ++ E.map (fun y => (false, y))
  let gen : Bool × Nat → Nat → Prop := fun x q => (1 ≤ q ∧ q ≤ n ∧ so q = a) ∧ (x.1 = true → lb q = x.2 + 1) ∧ (x.1 = false → lb q = 0 ∧ fo x.2 q)
  have g2 : ∀ Y : Nat → Prop, (∀ y, Y y → y ∈ bO n so a) → ∃ S, S ∈ uUn (Ls.map gen) ∧ ∀ q, (S q ↔ bStp n so fo Y a q) := by
    intro Y hY
    obtain ⟨S, hS, hq⟩ := uUn_mem Ls gen (fun x => (x.1 = true → ∃ q, (1 ≤ q ∧ q ≤ n ∧ so q = a) ∧ lb q = x.2 + 1 ∧ ∃ y, Y y ∧ fo y q) ∧ (x.1 = false → Y x.2))
    refine ⟨S, hS, fun q => (hq q).trans ?_⟩
    constructor
    · rintro ⟨⟨b, x⟩, hx, ⟨s1, s2⟩, hK, t1, t2⟩
      cases b with
      | true =>
        obtain ⟨q0, k0, l0, y, hy, hf⟩ := s1 rfl
        have lq : lb q = x + 1 := t1 rfl
        have l0 : lb q0 = x + 1 := l0
        have oy := (bO_mem hn).mp (hY y hy)
        have hxB : x < B := by
          rcases List.mem_append.mp hx with h | h
          · obtain ⟨g, hg, e⟩ := List.mem_map.mp h
            have e : g = x := congrArg Prod.snd e
            subst e; exact List.mem_range.mp hg
          · obtain ⟨g, hg, e⟩ := List.mem_map.mp h
            have e : false = true := congrArg Prod.fst e
            cases e
        have := h2 q0 q k0.1 k0.2.1 hK.1 hK.2.1 (by omega) (by omega) (by omega) y oy.1 oy.2.1 hf
        exact ⟨hK.1, hK.2.1, hK.2.2, y, oy.2.1, hy, this⟩
      | false =>
        have hy : Y x := s2 rfl
        have oy := (bO_mem hn).mp (hY x hy)
        exact ⟨hK.1, hK.2.1, hK.2.2, x, oy.2.1, hy, (t2 rfl).2⟩
    · rintro ⟨q1, q2, q3, y, hyn, hy, hf⟩
      have oy := (bO_mem hn).mp (hY y hy)
      by_cases l0 : lb q = 0
      · have hyE : y ∈ E := (hE y).mpr ⟨hY y hy, q, ⟨q1, q2, q3⟩, l0, hf⟩
        exact ⟨(false, y), List.mem_append.mpr (Or.inr (List.mem_map.mpr ⟨y, hyE, rfl⟩)), ⟨(fun h => nomatch h), fun _ => hy⟩, ⟨q1, q2, q3⟩, (fun h => nomatch h), fun _ => ⟨l0, hf⟩⟩
      · by_cases lB : lb q ≤ B
        · refine ⟨(true, lb q - 1), List.mem_append.mpr (Or.inl (List.mem_map.mpr ⟨lb q - 1, List.mem_range.mpr (by omega), rfl⟩)), ⟨fun _ => ⟨q, ⟨q1, q2, q3⟩, ?_, y, hy, hf⟩, (fun h => nomatch h)⟩, ⟨q1, q2, q3⟩, fun _ => ?_, (fun h => nomatch h)⟩
          · show lb q = lb q - 1 + 1; omega
          · show lb q = lb q - 1 + 1; omega
        · exact absurd hf (h3 q q1 q2 (by omega) y oy.1 oy.2.1)
  have l1 : G1.length = (bO n so a).length := List.length_map _
  have l2 : (Ls.map gen).length = B + E.length := by
    rw [List.length_map]
    show (List.append _ _).length = _
    rw [List.append_eq, List.length_append, List.length_map, List.length_map, List.length_range]
  have g3 : ∀ Y : Nat → Prop, (∀ y, Y y → y ∈ bO n so a) → ∃ S, S ∈ uUn ((bK n so a).map (fun y q => q = y)) ∧ ∀ q, (S q ↔ bStp n so fo Y a q) := by
    intro Y hY
    obtain ⟨S, hS, hq⟩ := uUn_mem (bK n so a) (fun y q => q = y) (bStp n so fo Y a)
    refine ⟨S, hS, fun q => (hq q).trans ⟨fun ⟨y, _, hy, e⟩ => by rw [e]; exact hy, fun h => ⟨q, (bK_mem hn).mpr ⟨h.1, h.2.1, h.2.2.1⟩, h, rfl⟩⟩⟩
  have l3 : ((bK n so a).map (fun (y q : Nat) => q = y)).length = (bK n so a).length := List.length_map _
  by_cases hlt : G1.length ≤ (Ls.map gen).length
  · by_cases hk : G1.length ≤ (bK n so a).length
    · exact ⟨G1, ⟨by omega, by omega, by omega⟩, g1⟩
    · exact ⟨_, ⟨by omega, by omega, by omega⟩, g3⟩
  · by_cases hk : (Ls.map gen).length ≤ (bK n so a).length
    · exact ⟨Ls.map gen, ⟨by omega, by omega, by omega⟩, g2⟩
    · exact ⟨_, ⟨by omega, by omega, by omega⟩, g3⟩
