/-! ===== sets of places met one by one: the class ===== -/
theorem cost_0 {α : Type} (o : Option (α × Nat × Nat)) : am_cost 0 0 o = o := by
  cases o with
  | none => rfl
  | some x => obtain ⟨x, c, s⟩ := x; show some (x, 0 + c, 0 + s) = _; rw [Nat.zero_add, Nat.zero_add]
theorem cost_t {α : Type} (a b c d : Nat) (o : Option (α × Nat × Nat)) : am_cost a b (am_cost c d o) = am_cost (a + c) (b + d) o := by
  cases o with
  | none => rfl
  | some x => obtain ⟨x, e, f⟩ := x; show some (x, a + (c + e), b + (d + f)) = some (x, a + c + e, b + d + f); rw [Nat.add_assoc, Nat.add_assoc]
/-- a book of the class -/
def B8 (h : am_H) (a qc qf n : Nat) (so : Nat → Nat) (fo : Nat → Nat → Prop) : Prop := am_K h a = .inl 0 ∧ am_I h a 0 = nI n ∧ n ≤ 15 ∧ am_A h a 1 = some qc ∧ am_A h a 2 = some qf ∧ (∃ l, n < l ∧ l ≤ 100 ∧ am_K h qc = .inr (0, l)) ∧ (∃ l, n < l ∧ l ≤ 100 ∧ am_K h qf = .inr (0, l)) ∧
  (∀ i, 1 ≤ i → i ≤ n → ∀ h', f_X8_sortOf (am_I h qc i) h' = some (nI (so i), h')) ∧ (∀ i, i ≤ n → ∀ p, bt (am_I h qf i) p = true ↔ fo i p)
def sepF (h : am_H) (q : Nat → Nat) (o : Nat) : Prop := o < h.1 ∧ o ≠ 12 ∧ o ≠ 18 ∧ ∀ k, 1 ≤ k → k ≤ 5 → o ≠ q k
theorem sepF_fr {q q' : Nat → Nat} {h h' : am_H} (f : frF q q' h h') {o : Nat} (s : sepF h q o) : sepF h' q' o := by
  obtain ⟨s1, s2, s3, s4⟩ := s
  refine ⟨Nat.lt_of_lt_of_le s1 f.1, s2, s3, fun k k1 k5 e => ?_⟩
  rcases f.2.2.2.2.2 k k1 k5 with c | ⟨i, i1, i5, c⟩
  · omega
  · exact s4 i i1 i5 (e.trans c)
theorem B8_fr {q q' : Nat → Nat} {h h' : am_H} {a qc qf n : Nat} {so : Nat → Nat} {fo : Nat → Nat → Prop} (hb : B8 h a qc qf n so fo) (f : frF q q' h h') (sa : sepF h q a) (sc : sepF h q qc) (sf : sepF h q qf) : B8 h' a qc qf n so fo := by
  obtain ⟨b1, b2, b3, b4, b5, b6, b7, b8, b9⟩ := hb
  obtain ⟨f1, f2, f3, f4, f5, f6⟩ := f
  refine ⟨?_, ?_, b3, ?_, ?_, ?_, ?_, ?_, ?_⟩
  · rw [(f2 a sa.1).1]; exact b1
  · rw [f4 a sa.1 sa.2.1 sa.2.2.1 sa.2.2.2]; exact b2
  · rw [f3 a sa.1 sa.2.1]; exact b4
  · rw [f3 a sa.1 sa.2.1]; exact b5
  · rw [(f2 qc sc.1).1]; exact b6
  · rw [(f2 qf sf.1).1]; exact b7
  · rw [f4 qc sc.1 sc.2.1 sc.2.2.1 sc.2.2.2]; exact b8
  · rw [f4 qf sf.1 sf.2.1 sf.2.2.1 sf.2.2.2]; exact b9
/-- the places of each sort -/
theorem os8 {a qc qf n : Nat} {so : Nat → Nat} {fo : Nat → Nat → Prop} (hso : ∀ i, so i < 24) {q : Nat → Nat} {cap : Nat} (F : Nat) : ∀ (d i : Nat) (h : am_H), i + d = n + 1 → 1 ≤ i → FR h cap q → B8 h a qc qf n so fo → sepF h q a → sepF h q qc → sepF h q qf → (∀ s, s < 24 → ∀ p, bt (am_I h 18 s) p = true ↔ 1 ≤ p ∧ p < i ∧ so p = s) →
    ∃ h', g_X2_gatherSets (F + d + 1) 0 a (nI i) 0 0 h = am_bc (f_X2_numberOf F (Int32.ofInt 1) (am_sI h' 12 0 (Int32.ofInt 0))) (fun _ h4 => g_X2_gatherSets F 1 a (Int32.ofInt 0) 0 0 h4) ∧ FR h' cap q ∧ frF q q h h' ∧ (∀ s, s < 24 → ∀ p, bt (am_I h' 18 s) p = true ↔ 1 ≤ p ∧ p ≤ n ∧ so p = s) := by
  intro d
  induction d with
  | zero =>
    intro i h hi h1 fr hb sa sc sf h18
    have hb' := hb
    obtain ⟨b1, b2, b3, b4, b5, ⟨lc, c1, c2, c3⟩, b7, b8, b9⟩ := hb'
    refine ⟨h, ?_, fr, frF_r q h, ?_⟩
    · rw [show F + 0 + 1 = F + 1 from rfl, g_X2_gatherSets]
      simp only [show Nat.beq 0 0 = true from rfl, cond_true]
      rw [hp_isO b1, cond_true, b2, if_pos (by rw [nI_ltI (by omega) (by omega)]; omega)]
    · intro s hs p
      rw [h18 s hs p]
      exact ⟨fun x => ⟨x.1, by omega, x.2.2⟩, fun x => ⟨x.1, by omega, x.2.2⟩⟩
  | succ d ih =>
    intro i h hi h1 fr hb sa sc sf h18
    have hb' := hb
    obtain ⟨b1, b2, b3, b4, b5, ⟨lc, c1, c2, c3⟩, b7, b8, b9⟩ := hb'
    have vi : am_vp (nI i) lc = true := hp_vp (by omega) (by omega)
    have ci : Int32.toNatClampNeg (nI i) = i := nI_clamp (by omega)
    have s24 := hso i
    have vs : am_vp (nI (so i)) 24 = true := hp_vp s24 (by decide)
    have cs : Int32.toNatClampNeg (nI (so i)) = so i := nI_clamp (by omega)
    have f1 := frF_18 q h (so i) (am_I h 18 (so i) ||| (Int32.ofInt 1) <<< (nI i &&& 31))
    obtain ⟨h', st, fr', f', g'⟩ := ih (i + 1) (am_sI h 18 (so i) (am_I h 18 (so i) ||| (Int32.ofInt 1) <<< (nI i &&& 31))) (by omega) (by omega) fr (B8_fr hb f1 sa sc sf) (sepF_fr f1 sa) (sepF_fr f1 sc) (sepF_fr f1 sf) (by
      intro s hs p
      rw [hp_I]
      by_cases e : s = so i
      · rw [e, upd_at, bt_or, or_t, h18 _ s24 p, show (Int32.ofInt 1 <<< (nI i &&& 31)) = gBit i from rfl, bt_B (by omega)]
        constructor
        · rintro (⟨x, y, z⟩ | rfl)
          · exact ⟨x, by omega, z⟩
          · exact ⟨h1, by omega, rfl⟩
        · rintro ⟨x, y, z⟩
          by_cases ep : p = i
          · exact Or.inr ep
          · exact Or.inl ⟨x, by omega, z⟩
      · rw [upd_ne e, h18 s hs p]
        constructor
        · rintro ⟨x, y, z⟩; exact ⟨x, by omega, z⟩
        · rintro ⟨x, y, z⟩
          refine ⟨x, ?_, z⟩
          apply Classical.byContradiction
          intro hp
          have : p = i := by omega
          rw [this] at z
          exact e z.symm)
    refine ⟨h', ?_, fr', frF_t f1 f', g'⟩
    rw [show F + (d + 1) + 1 = (F + d + 1) + 1 from rfl, g_X2_gatherSets]
    simp only [show Nat.beq 0 0 = true from rfl, cond_true]
    rw [hp_isO b1, cond_true, b2, if_neg (by rw [nI_ltI (by omega) (by omega)]; omega), b4, b_some, hp_ln c3, b_some, vi, cond_true, ci, b8 i h1 (by omega), b2s, vs, cond_true, cs, hp_1]
    exact st
/-- what may follow a set -/
theorem my8 {a qc qf n : Nat} {so : Nat → Nat} {fo : Nat → Nat → Prop} {h : am_H} (hb : B8 h a qc qf n so fo) {q1 l1 k X : Nat} (hA : am_A h 12 1 = some q1) (hK : am_K h q1 = .inr (0, l1)) (hl : l1 < 2 ^ 31) (hk : k < l1) (hX : am_I h q1 k = nI X) (F : Nat) : ∀ (d i : Nat) (x : Int32), i + d = n + 1 → (∀ p, bt x p = true ↔ ∃ r, r < i ∧ X.testBit r = true ∧ fo r p) →
    ∃ y, g_X2_gatherSets (F + d + 1) 2 a (nI k) x (nI i) h = g_X2_gatherSets F 3 a (nI k) y (nI 0) h ∧ (∀ p, bt y p = true ↔ ∃ r, r ≤ n ∧ X.testBit r = true ∧ fo r p) := by
  obtain ⟨b1, b2, b3, b4, b5, b6, ⟨lf, c1, c2, c3⟩, b8, b9⟩ := hb
  have vk : am_vp (nI k) l1 = true := hp_vp hk hl
  have ck : Int32.toNatClampNeg (nI k) = k := nI_clamp (by omega)
  intro d
  induction d with
  | zero =>
    intro i x hi hx
    refine ⟨x, ?_, fun p => (hx p).trans ⟨fun ⟨r, hr, z⟩ => ⟨r, by omega, z⟩, fun ⟨r, hr, z⟩ => ⟨r, by omega, z⟩⟩⟩
    rw [show F + 0 + 1 = F + 1 from rfl, g_X2_gatherSets]
    simp only [show Nat.beq 2 0 = false from rfl, show Nat.beq 2 1 = false from rfl, show Nat.beq 2 2 = true from rfl, cond_false, cond_true]
    rw [hp_isO b1, cond_true, b2, if_pos (by rw [nI_ltI (by omega) (by omega)]; omega)]
    rfl
  | succ d ih =>
    intro i x hi hx
    have vi : am_vp (nI i) lf = true := hp_vp (by omega) (by omega)
    have ci : Int32.toNatClampNeg (nI i) = i := nI_clamp (by omega)
    have hbX : bt (nI X) i = X.testBit i := by rw [bt_nI, decide_eq_true (by omega), Bool.true_and]
    cases ht : X.testBit i with
    | true =>
      obtain ⟨y, st, hy⟩ := ih (i + 1) (x ||| am_I h qf i) (by omega) (by
        intro p
        rw [bt_or, or_t, hx p, b9 i (by omega) p]
        constructor
        · rintro (⟨r, u, v, w⟩ | w)
          · exact ⟨r, by omega, v, w⟩
          · exact ⟨i, by omega, ht, w⟩
        · rintro ⟨r, u, v, w⟩
          by_cases e : r = i
          · rw [e] at w; exact Or.inr w
          · exact Or.inl ⟨r, by omega, v, w⟩)
      refine ⟨y, ?_, hy⟩
      rw [show F + (d + 1) + 1 = (F + d + 1) + 1 from rfl, g_X2_gatherSets]
      simp only [show Nat.beq 2 0 = false from rfl, show Nat.beq 2 1 = false from rfl, show Nat.beq 2 2 = true from rfl, cond_false, cond_true]
      rw [hp_isO b1, cond_true, b2, if_neg (by rw [nI_ltI (by omega) (by omega)]; omega), hA, b_some, hp_ln hK, b_some, vk, cond_true, ck, hX, bt_8 _ (by omega), hbX, ht, if_neg (fun h => by have := (bI_0 true).mp h; cases this), b5, b_some, hp_ln c3, b_some, vi, cond_true, ci, b_some, hp_1]
      exact st
    | false =>
      obtain ⟨y, st, hy⟩ := ih (i + 1) (x ||| Int32.ofInt 0) (by omega) (by
        intro p
        rw [bt_or, or_t, hx p, bt_0]
        constructor
        · rintro (⟨r, u, v, w⟩ | w)
          · exact ⟨r, by omega, v, w⟩
          · cases w
        · rintro ⟨r, u, v, w⟩
          by_cases e : r = i
          · rw [e, ht] at v; cases v
          · exact Or.inl ⟨r, by omega, v, w⟩)
      refine ⟨y, ?_, hy⟩
      rw [show F + (d + 1) + 1 = (F + d + 1) + 1 from rfl, g_X2_gatherSets]
      simp only [show Nat.beq 2 0 = false from rfl, show Nat.beq 2 1 = false from rfl, show Nat.beq 2 2 = true from rfl, cond_false, cond_true]
      rw [hp_isO b1, cond_true, b2, if_neg (by rw [nI_ltI (by omega) (by omega)]; omega), hA, b_some, hp_ln hK, b_some, vk, cond_true, ck, hX, bt_8 _ (by omega), hbX, ht, if_pos ((bI_0 false).mpr rfl), b_some, hp_1]
      exact st
