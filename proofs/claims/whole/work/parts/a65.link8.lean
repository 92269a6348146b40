/-! ===== the class's survey: link, with growth; what stays ===== -/
theorem bcs {α β γ : Type} (a : α) (b : β) (c s : Nat) (f : α → β → Option (γ × Nat × Nat)) : am_bc (some ((a, b), c, s)) f = am_cost c s (f a b) := rfl
theorem cts {α : Type} (a b c s : Nat) (x : α) : am_cost a b (some (x, c, s)) = some (x, a + c, b + s) := rfl
/-- what a link leaves as it was -/
def frK (o qs qn qs' qn' : Nat) (h h' : am_H) : Prop := (h.1 ≤ h'.1 ∧ ∀ p, p < h.1 → am_K h' p = am_K h p ∧ am_J h' p = am_J h p) ∧ (∀ p, p < h.1 → p ≠ o → am_A h' p = am_A h p) ∧ (∀ k, k ≠ 13 → k ≠ 14 → am_A h' o k = am_A h o k) ∧ (∀ p, p < h.1 → p ≠ o → p ≠ o + 9 → p ≠ qs → p ≠ qn → am_I h' p = am_I h p) ∧ (∀ k, k ≠ 12 → am_I h' o k = am_I h o k) ∧ (qs' = qs ∨ h.1 ≤ qs') ∧ (qn' = qn ∨ h.1 ≤ qn')
/-- what the class's going through all states leaves as it was -/
def frE (o qs qn qs' qn' : Nat) (h h' : am_H) : Prop := (h.1 ≤ h'.1 ∧ ∀ p, p < h.1 → am_K h' p = am_K h p) ∧ (∀ p, p < h.1 → p ≠ o + 3 → p ≠ 32 → am_J h' p = am_J h p) ∧ (∀ p, p < h.1 → p ≠ o → am_A h' p = am_A h p) ∧ (∀ k, k ≠ 13 → k ≠ 14 → am_A h' o k = am_A h o k) ∧ (∀ p, p < h.1 → (p < o ∨ o + 9 < p) → p ≠ 28 → p ≠ 31 → p ≠ qs → p ≠ qn → am_I h' p = am_I h p) ∧ (∀ k, k ≠ 5 → am_I h' 28 k = am_I h 28 k) ∧ (qs' = qs ∨ h.1 ≤ qs') ∧ (qn' = qn ∨ h.1 ≤ qn')
theorem frE_r (o qs qn : Nat) (h : am_H) : frE o qs qn qs qn h h := ⟨⟨Nat.le_refl _, fun _ _ => rfl⟩, fun _ _ _ _ => rfl, fun _ _ _ => rfl, fun _ _ _ => rfl, fun _ _ _ _ _ _ _ => rfl, fun _ _ => rfl, Or.inl rfl, Or.inl rfl⟩
theorem frE_t {o a b a1 b1 a2 b2 : Nat} {h h1 h2 : am_H} (x : frE o a b a1 b1 h h1) (y : frE o a1 b1 a2 b2 h1 h2) : frE o a b a2 b2 h h2 := by
  obtain ⟨⟨x1, xk⟩, x2, x3, x4, x5, x6, x7, x8⟩ := x
  obtain ⟨⟨y1, yk⟩, y2, y3, y4, y5, y6, y7, y8⟩ := y
  refine ⟨⟨by omega, fun p hp => (yk p (by omega)).trans (xk p hp)⟩, fun p hp c d => (y2 p (by omega) c d).trans (x2 p hp c d), fun p hp c => (y3 p (by omega) c).trans (x3 p hp c), fun k c d => (y4 k c d).trans (x4 k c d), fun p hp c d e f g => (y5 p (by omega) c d e (by omega) (by omega)).trans (x5 p hp c d e f g), fun k c => (y6 k c).trans (x6 k c), by omega, by omega⟩
theorem frE_K {o a b a1 b1 : Nat} (ho : o = 37 ∨ o = 37) {h h' : am_H} (h98 : 87 ≤ h.1) (sa : a = o + 10 ∨ 87 ≤ a) (sb : b = o + 11 ∨ 87 ≤ b) (x : frK o a b a1 b1 h h') : frE o a b a1 b1 h h' := by
  obtain ⟨⟨x1, xk⟩, x2, x3, x4, x5, x7, x8⟩ := x
  exact ⟨⟨x1, fun p hp => (xk p hp).1⟩, fun p hp _ _ => (xk p hp).2, x2, x3, fun p hp c _ _ f g => x4 p hp (by omega) (by omega) f g, fun k _ => by rw [x4 28 (by omega) (by omega) (by omega) (by omega) (by omega)], x7, x8⟩
theorem frE_T {o a b : Nat} (ho : o = 37 ∨ o = 37) {h h' : am_H} (f : frT h h') : frE o a b a b h h' := ⟨⟨Nat.le_of_eq f.1.symm, fun p _ => by rw [f.2.1]⟩, fun p _ _ d => f.2.2.2.1 p d, fun p _ _ => by rw [f.2.2.1], fun k _ _ => by rw [f.2.2.1], fun p _ _ d e _ _ => f.2.2.2.2.1 p d e, f.2.2.2.2.2, Or.inl rfl, Or.inl rfl⟩
theorem frE_V {o a b : Nat} (ho : o = 37 ∨ o = 37) {h h' : am_H} (f : frV o h h') : frE o a b a b h h' := ⟨⟨Nat.le_of_eq f.1.symm, fun p _ => by rw [f.2.1]⟩, fun p _ d _ => f.2.2.2.1 p d, fun p _ _ => by rw [f.2.2.1], fun k _ _ => by rw [f.2.2.1], fun p _ c _ _ _ _ => f.2.2.2.2.1 p (by omega) (by omega) (by omega) (by omega) (by omega), fun k _ => by rw [f.2.2.2.2.1 28 (by omega) (by omega) (by omega) (by omega) (by omega)], Or.inl rfl, Or.inl rfl⟩
/-- a cell of the survey's own is written -/
theorem frE_s {o a b : Nat} (ho : o = 37 ∨ o = 37) (h : am_H) {d : Nat} (hd : d < 10) (j : Nat) (x : Int32) : frE o a b a b h (am_sI h (o + d) j x) := ⟨⟨Nat.le_refl _, fun _ _ => rfl⟩, fun _ _ _ _ => rfl, fun _ _ _ => rfl, fun _ _ _ => rfl, fun p _ c _ _ _ _ => hp_I' _ _ _ (by omega), fun k _ => by rw [hp_I' _ _ _ (by omega)], Or.inl rfl, Or.inl rfl⟩
theorem frE_R {o a b : Nat} (ho : o = 37 ∨ o = 37) (h : am_H) {d : Nat} (hd : d < 10) (f : Nat → Int32) : frE o a b a b h (am_sR h (o + d) f) := ⟨⟨Nat.le_refl _, fun _ _ => rfl⟩, fun _ _ _ _ => rfl, fun _ _ _ => rfl, fun _ _ _ => rfl, fun p _ c _ _ _ _ => hp_IR' _ _ (by omega), fun k _ => by rw [hp_IR' _ _ (by omega)], Or.inl rfl, Or.inl rfl⟩
theorem lkH_fr {h : am_H} {o qs qn m k t : Nat} (ho : o = 37 ∨ o = 37) (os : o ≠ qs) (on : o ≠ qn) : frK o qs qn qs qn h (lkHeap h o qs qn m k t) := by
  refine ⟨⟨Nat.le_refl _, fun _ _ => ⟨rfl, rfl⟩⟩, fun _ _ _ => rfl, fun _ _ _ => rfl, fun p _ c d e f => ?_, fun j hj => ?_, Or.inl rfl, Or.inl rfl⟩
  · unfold lkHeap; rw [hp_I' _ _ _ c, hp_I' _ _ _ d, hp_I' _ _ _ f, hp_I' _ _ _ e]
  · unfold lkHeap
    rw [hp_I, upd_ne hj, hp_I' _ _ _ (by omega), hp_I' _ _ _ on, hp_I' _ _ _ os]
theorem lk_8 {h : am_H} {o cap qs qn m n t : Nat} {es et : Nat → Nat} (ho : o = 37 ∨ o = 37) (L : LK h o cap qs qn m n es et) (hn : n ≤ 2000) (ht : t < n) (hm : m < 180000) (k : Nat) :
    ∃ h' cap' qs' qn' c z, f_X6_link o (nI k) (nI t) h = some (((), h'), c, z) ∧ LK h' o cap' qs' qn' (m + 1) n (updN es m k) (updN et m t) ∧ frK o qs qn qs' qn' h h' ∧ cap ≤ cap' ∧ 2048 * c ≤ cap' - cap ∧ z ≤ 4 * (cap' - cap) := by
  have L0 := L
  obtain ⟨g, h12, hmc, hr, hc⟩ := L
  have g0 := g
  obtain ⟨⟨a13, a14, ks, kn⟩, ⟨ne, ls, ln, h98⟩, os, on, c1, c2⟩ := g
  have os0 : o ≠ qs := sv_ne ho os (j := 0) (by decide) (by decide)
  have on0 : o ≠ qn := sv_ne ho on (j := 0) (by decide) (by decide)
  by_cases hlt : m < cap
  · refine ⟨lkHeap h o qs qn m k t, cap, qs, qn, 0, 0, ?_, lkH_LK ho L0 hlt ht, lkH_fr ho os0 on0, Nat.le_refl _, Nat.zero_le _, Nat.zero_le _⟩
    have e := lkT (k := k) ho g0 h12 hlt (show t < 2000 by omega)
    unfold f_X6_link
    rw [a13, b_some, hp_ln ks, b_some, h12, if_pos (show nI m < Int32.ofNat cap from (nI_ltI (by omega) (by omega)).mpr hlt)]
    unfold lkTail at e
    rw [a13, h12] at e
    exact e
  · have em : m = cap := by omega
    subst em
    obtain ⟨f1, e1, p1⟩ := cpy_8 ks (show qs ≠ h.1 by omega) (show m < 2 * m by omega) (by omega)
    have two : Int32.ofInt 2 * nI m = nI (2 * m) := nI_mul 2 m
    generalize hH1 : am_sA (am_new h (.inr (0, 2 * m)) f1) o 13 (some h.1) = H1
    have x1 : H1.1 = h.1 + 1 := by rw [← hH1]; rfl
    have K1 : ∀ p, p ≠ h.1 → am_K H1 p = am_K h p := fun p hp => by rw [← hH1]; exact nw_K h (.inr (0, 2 * m)) f1 hp
    have K1' : am_K H1 h.1 = .inr (0, 2 * m) := by rw [← hH1]; exact nw_K0 h (.inr (0, 2 * m)) f1
    have I1 : ∀ p, p ≠ h.1 → am_I H1 p = am_I h p := fun p hp => by rw [← hH1]; exact nw_I h (.inr (0, 2 * m)) f1 hp
    have I1' : am_I H1 h.1 = f1 := by rw [← hH1]; exact nw_I0 h (.inr (0, 2 * m)) f1
    have J1 : ∀ p, p ≠ h.1 → am_J H1 p = am_J h p := fun p hp => by rw [← hH1]; exact nw_J h (.inr (0, 2 * m)) f1 hp
    have A1 : ∀ p, p ≠ h.1 → p ≠ o → am_A H1 p = am_A h p := fun p hp c => by rw [← hH1, sA_o _ _ _ c]; exact nw_A h (.inr (0, 2 * m)) f1 hp
    have A1o : ∀ j, j ≠ 13 → am_A H1 o j = am_A h o j := fun j hj => by rw [← hH1, sA_ne _ _ _ hj, nw_A h _ _ (show o ≠ h.1 by omega)]
    have A13 : am_A H1 o 13 = some h.1 := by rw [← hH1]; exact sA_at _ _ _ _
    obtain ⟨f2, e2, p2⟩ := cpy_8 (h := H1) (q := qn) (n := m) (m := 2 * m) (by rw [K1 _ (by omega)]; exact kn) (by omega) (by omega) (by omega)
    generalize hH2 : am_sA (am_new H1 (.inr (0, 2 * m)) f2) o 14 (some H1.1) = H2
    have x2 : H2.1 = h.1 + 2 := by rw [← hH2]; show H1.1 + 1 = _; omega
    have K2 : ∀ p, p ≠ H1.1 → am_K H2 p = am_K H1 p := fun p hp => by rw [← hH2]; exact nw_K H1 (.inr (0, 2 * m)) f2 hp
    have K2' : am_K H2 H1.1 = .inr (0, 2 * m) := by rw [← hH2]; exact nw_K0 H1 (.inr (0, 2 * m)) f2
    have I2 : ∀ p, p ≠ H1.1 → am_I H2 p = am_I H1 p := fun p hp => by rw [← hH2]; exact nw_I H1 (.inr (0, 2 * m)) f2 hp
    have I2' : am_I H2 H1.1 = f2 := by rw [← hH2]; exact nw_I0 H1 (.inr (0, 2 * m)) f2
    have J2 : ∀ p, p ≠ H1.1 → am_J H2 p = am_J H1 p := fun p hp => by rw [← hH2]; exact nw_J H1 (.inr (0, 2 * m)) f2 hp
    have A2 : ∀ p, p ≠ H1.1 → p ≠ o → am_A H2 p = am_A H1 p := fun p hp c => by rw [← hH2, sA_o _ _ _ c]; exact nw_A H1 (.inr (0, 2 * m)) f2 hp
    have A2o : ∀ j, j ≠ 14 → am_A H2 o j = am_A H1 o j := fun j hj => by rw [← hH2, sA_ne _ _ _ hj, nw_A H1 _ _ (show o ≠ H1.1 by omega)]
    have A14 : am_A H2 o 14 = some H1.1 := by rw [← hH2]; exact sA_at _ _ _ _
    have g2 : GR H2 o (2 * m) h.1 H1.1 := ⟨⟨by rw [A2o 13 (by decide)]; exact A13, A14, by rw [K2 _ (by omega)]; exact K1', K2'⟩, ⟨by omega, by omega, by omega, by omega⟩, Or.inr h98, Or.inr (by omega), by omega, by omega⟩
    have i12 : am_I H2 o 12 = nI m := by rw [I2 o (by omega), I1 o (by omega)]; exact h12
    have L2 : LK H2 o (2 * m) h.1 H1.1 m n es et := by
      refine ⟨g2, i12, by omega, fun j hj => ?_, fun i hi => by rw [I2 (o + 9) (by omega), I1 (o + 9) (by omega)]; exact hc i hi⟩
      rw [I2 h.1 (by omega), I1', I2', p1 j hj, p2 j hj, I1 qn (by omega)]
      exact hr j hj
    have e := lkT (k := k) ho g2 i12 (show m < 2 * m by omega) (show t < 2000 by omega)
    have ff := lkH_fr (h := H2) (o := o) (qs := h.1) (qn := H1.1) (m := m) (k := k) (t := t) ho (by omega) (by omega)
    refine ⟨lkHeap H2 o h.1 H1.1 m k t, 2 * m, h.1, H1.1, 2, 2 * m + 2 * m, ?_, lkH_LK ho L2 (by omega) ht, ?_, by omega, by omega, by omega⟩
    · unfold f_X6_link
      have i12' : am_I H1 o 12 = nI m := by rw [I1 o (by omega)]; exact h12
      rw [a13, b_some, hp_ln ks, b_some, h12, if_neg (show ¬ nI m < Int32.ofNat m from fun q => by have := (nI_ltI (a := m) (b := m) (by omega) (by omega)).mp q; omega), b_some, two, e1, bcs, hH1, A1o 14 (by decide), a14, b_some, i12', two, e2, bcs, hH2]
      show am_cost 1 (2 * m) (am_cost 1 (2 * m) (lkTail o (nI k) (nI t) H2)) = _
      rw [e, cts, cts]; rfl
    · obtain ⟨⟨y1, yk⟩, y2, y3, y4, y5, y6, y7⟩ := ff
      refine ⟨⟨by omega, fun p hp => ⟨by rw [(yk p (by omega)).1, K2 p (by omega), K1 p (by omega)], by rw [(yk p (by omega)).2, J2 p (by omega), J1 p (by omega)]⟩⟩, fun p hp c => by rw [y2 p (by omega) c, A2 p (by omega) c, A1 p (by omega) c], fun j c d => by rw [y3 j c d, A2o j d, A1o j c], fun p hp c d _ _ => by rw [y4 p (by omega) c d (by omega) (by omega), I2 p (by omega), I1 p (by omega)], fun j c => by rw [y5 j c, I2 o (by omega), I1 o (by omega)], Or.inr (Nat.le_refl _), Or.inr (by omega)⟩
