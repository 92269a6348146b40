/-! ===== the bound: one letter again and again ===== -/
def bF (n : Nat) (so : Nat → Nat) (fo : Nat → Nat → Prop) (a : Nat) (y q : Nat) : Prop := y ∈ bV n so fo a ∧ q ∈ bV n so fo a ∧ fo y q
theorem bF_in (n : Nat) (so : Nat → Nat) (fo : Nat → Nat → Prop) (a : Nat) : uIn (bF n so fo a) (bV n so fo a) := fun _ _ h => ⟨h.1, h.2.1⟩
theorem u_back {F : Nat → Nat → Prop} {l q : Nat} (h0 : 0 < l) (h : uW F l q q) : ∃ y z, F y z ∧ z ≤ y ∧ (∃ i, uW F i q y) ∧ ∃ j, uW F j z q := by
  obtain ⟨v, v0, vl, hs⟩ := uW_path h
  apply Classical.byContradiction
  intro hno
  have hup : ∀ s, s ≤ l → v 0 + s ≤ v s := by
    intro s
    induction s with
    | zero => intro _; exact Nat.le_refl _
    | succ s ih =>
      intro hsl
      have ih := ih (by omega)
      have : v s < v (s + 1) := by
        apply Classical.byContradiction
        intro hle
        have a := uW_seg hs 0 s (by omega)
        have b := uW_seg hs (s + 1) (l - (s + 1)) (by omega)
        rw [v0, Nat.zero_add] at a
        rw [show s + 1 + (l - (s + 1)) = l from by omega, vl] at b
        exact hno ⟨v s, v (s + 1), hs s (by omega), by omega, ⟨s, a⟩, ⟨_, b⟩⟩
      omega
  have := hup l (Nat.le_refl _)
  omega
theorem b_mut {n : Nat} (hn : n ≤ 15) {fo : Nat → Nat → Prop} {lb : Nat → Nat} {B σ : Nat} (hb : bOk n fo lb B σ) (so : Nat → Nat) (a : Nat) (hσ : σ ≤ 1) : ∀ q r, uCyc (bF n so fo a) q → uCyc (bF n so fo a) r → uMut (bF n so fo a) q r := by
  obtain ⟨-, -, -, -, h0, h1⟩ := hb
  rintro q r ⟨l, l0, hq⟩ ⟨l', l0', hr⟩
  obtain ⟨y, z, hyz, hle, ⟨i, hi⟩, ⟨j, hj⟩⟩ := u_back l0 hq
  obtain ⟨y', z', hyz', hle', ⟨i', hi'⟩, ⟨j', hj'⟩⟩ := u_back l0' hr
  have vy := ((bV_mem hn).mp hyz.1).1
  have vz := ((bV_mem hn).mp hyz.2.1).1
  have vy' := ((bV_mem hn).mp hyz'.1).1
  have vz' := ((bV_mem hn).mp hyz'.2.1).1
  rcases Nat.lt_or_ge σ 1 with e | e
  · have := h0 (by omega) y z vy.1 vy.2.1 vz.1 vz.2.1 hyz.2.2
    omega
  · obtain ⟨ll, ff, c1, c2⟩ := h1 (by omega)
    have k : ll y ∧ ff z := (c1 y z vy.1 vy.2.1 vz.1 vz.2.1 hyz.2.2).elim (fun h => by omega) id
    have k' : ll y' ∧ ff z' := (c1 y' z' vy'.1 vy'.2.1 vz'.1 vz'.2.1 hyz'.2.2).elim (fun h => by omega) id
    have e1 : bF n so fo a y z' := ⟨hyz.1, hyz'.2.1, c2 y z' vy.1 vy.2.1 vz'.1 vz'.2.1 k.1 k'.2⟩
    have e2 : bF n so fo a y' z := ⟨hyz'.1, hyz.2.1, c2 y' z vy'.1 vy'.2.1 vz.1 vz.2.1 k'.1 k.2⟩
    exact ⟨⟨(i + 1) + j', uW_add.mpr ⟨z', ⟨y, hi, e1⟩, hj'⟩⟩, ⟨(i' + 1) + j, uW_add.mpr ⟨z, ⟨y', hi', e2⟩, hj⟩⟩⟩
theorem b_main {n : Nat} (hn : n ≤ 15) {fo : Nat → Nat → Prop} {lb : Nat → Nat} {B σ : Nat} (hb : bOk n fo lb B σ) (so : Nat → Nat) (a : Nat) : ∃ L t, 0 < L ∧ uProf (σ ≤ 1) (bV n so fo a).length L t ∧ ∀ q, q ∈ bV n so fo a → ∀ j, t ≤ j → uEq (bF n so fo a) q j L := by
  obtain ⟨L, t, h0, hp, hq⟩ := u_main (bF_in n so fo a) (bL_nd _)
  refine ⟨L, t, h0, ?_, hq⟩
  rcases hp with h | ⟨c, d, u, ds, a1, a2, a3, a4, a5, a6, a7, a8⟩
  · exact Or.inl h
  · exact Or.inr ⟨c, d, u, ds, a1, a2, a3, a4, a5, a6, a7, fun hσ => a8 (b_mut hn hb so a hσ)⟩
theorem b_words {n : Nat} (hn : n ≤ 15) (so : Nat → Nat) (fo : Nat → Nat → Prop) (a : Nat) (v : List Nat) : ∀ i q, bSet n so fo (List.replicate i a ++ a :: a :: v) q ↔ ∃ u, bSet n so fo (a :: a :: v) u ∧ uW (bF n so fo a) i u q := by
  have base : ∀ u, bSet n so fo (a :: a :: v) u → u ∈ bV n so fo a := by
    rintro u ⟨u1, u2, u3, p, hp, hx, hf⟩
    exact (bV_mem hn).mpr ⟨⟨u1, u2, u3⟩, p, bSet_rg hx, hf⟩
  intro i
  induction i with
  | zero =>
    intro q
    exact ⟨fun h => ⟨q, h, rfl⟩, fun ⟨u, h, e⟩ => by cases e; exact h⟩
  | succ i ih =>
    intro q
    show bStp n so fo (bSet n so fo (List.replicate i a ++ a :: a :: v)) a q ↔ _
    constructor
    · rintro ⟨q1, q2, q3, p, hp, hx, hf⟩
      obtain ⟨u, hu, hw⟩ := (ih p).mp hx
      have hpV : p ∈ bV n so fo a := uW_in (bF_in n so fo a) (base u hu) hw
      exact ⟨u, hu, p, hw, hpV, (bV_mem hn).mpr ⟨⟨q1, q2, q3⟩, p, ((bV_mem hn).mp hpV).1, hf⟩, hf⟩
    · rintro ⟨u, hu, p, hw, hpV, hqV, hf⟩
      have k := ((bV_mem hn).mp hqV).1
      exact ⟨k.1, k.2.1, k.2.2, p, ((bV_mem hn).mp hpV).1.2.1, (ih p).mpr ⟨u, hu, hw⟩, hf⟩
theorem w_split (a : Nat) : ∀ w : List Nat, w = [] ∨ (∃ c v, c ≠ a ∧ w = c :: v) ∨ ∃ v, (v = [] ∨ ∃ b v', b ≠ a ∧ v = b :: v') ∧ (w = a :: v ∨ ∃ i, w = List.replicate i a ++ a :: a :: v)
  | [] => Or.inl rfl
  | c :: w => by
    by_cases e : c = a
    · subst e
      right; right
      rcases w_split c w with rfl | ⟨b, v, hb, rfl⟩ | ⟨v, hv, rfl | ⟨i, rfl⟩⟩
      · exact ⟨[], Or.inl rfl, Or.inl rfl⟩
      · exact ⟨b :: v, Or.inr ⟨b, v, hb, rfl⟩, Or.inl rfl⟩
      · exact ⟨v, hv, Or.inr ⟨0, rfl⟩⟩
      · exact ⟨v, hv, Or.inr ⟨i + 1, rfl⟩⟩
    · exact Or.inr (Or.inl ⟨c, w, e, rfl⟩)
/-- a number of rounds below t + L does the same -/
theorem u_round (t L : Nat) (h0 : 0 < L) (i : Nat) : ∃ i', i' < t + L ∧ ∀ (P : Nat → Prop), (∀ j, t ≤ j → (P (j + L) ↔ P j)) → (P i ↔ P i') := by
  induction i using Nat.strongRecOn with
  | ind i ih =>
    by_cases h : i < t + L
    · exact ⟨i, h, fun _ _ => Iff.rfl⟩
    · obtain ⟨i', hi', hP⟩ := ih (i - L) (by omega)
      refine ⟨i', hi', fun P hp => ?_⟩
      have := hp (i - L) (by omega)
      rw [show i - L + L = i from by omega] at this
      exact this.trans (hP P hp)
