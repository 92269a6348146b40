/-- the folder's row of sets and its row of steps -/
def FS (h : am_H) (cap : Nat) (q : Nat → Nat) (N : Nat) (S : Nat → Nat) (J : Nat) (X : Nat → Int32) : Prop := FR h cap q ∧ am_I h 12 0 = nI N ∧ (N ≤ cap ∧ 1 ≤ cap ∧ cap ≤ 8192 ∧ N ≤ 4096 ∧ J ≤ 24 * cap) ∧ (∀ i, i < N → am_I h (q 1) i = nI (S i)) ∧ (∀ j, j < J → am_I h (q 2) j = X j)
theorem nb8_new {h : am_H} {cap : Nat} {q : Nat → Nat} {N : Nat} {S : Nat → Nat} {J : Nat} {X : Nat → Int32} (g : FS h cap q N S J X) (hN : N < 4096) {t : Nat} (ht : sbIx S t N = N) (F : Nat) :
    ∃ h' q' cap' c s, g_X2_numberOf (F + 1) 0 (nI t) (nI N) h = some ((nI N, h'), c, s) ∧ FS h' cap' q' (N + 1) (fun i => if i = N then t else S i) J X ∧ frF q q' h h' ∧ am_I h' 18 = am_I h 18 ∧ cap ≤ cap' ∧ c ≤ 5 * (cap' - cap) ∧ s = 56 * (cap' - cap) := by
  obtain ⟨f, g0, ⟨b1, b2, b3, b4, b5⟩, g1, g2⟩ := g
  have f' := f
  obtain ⟨fr, inj, h98⟩ := f'
  obtain ⟨a1, l1, n1, m1, K1⟩ := fr 1 (by decide) (by decide)
  have K1 : am_K h (q 1) = .inr (0, cap) := K1
  have N1 : nI N + Int32.ofInt 1 = nI (N + 1) := hp_1 N
  have cN : Int32.toNatClampNeg (nI N) = N := nI_clamp (by omega)
  have q12 : ∀ q : Nat → Nat, (∀ i j, 1 ≤ i → i ≤ 5 → 1 ≤ j → j ≤ 5 → q i = q j → i = j) → q 2 ≠ q 1 := fun q inj e => by have := inj 2 1 (by decide) (by decide) (by decide) (by decide) e; omega
  by_cases hc : N < cap
  · have vN : am_vp (nI N) cap = true := hp_vp hc (by omega)
    refine ⟨am_sI (am_sI h (q 1) N (nI t)) 12 0 (nI (N + 1)), q, cap, 0, 0, ?_, ⟨f, ?_, ⟨by omega, b2, b3, by omega, b5⟩, ?_, ?_⟩, frF_t (frF_s (by decide) (by decide) _ _) (frF_12 _ _ _ _), ?_, Nat.le_refl _, by omega, by omega⟩
    · rw [g_X2_numberOf, g0, if_pos (Int32.le_refl _), a1, b_some, hp_ln K1, b_some, show Int32.ofNat cap = nI cap from rfl, if_pos (by rw [nI_ltI (by omega) (by omega)]; exact hc), b_some, hp_ln K1, b_some, vN, cond_true, cN, hp_I' _ _ _ (fun e => n1 e.symm), g0, N1]
    · rw [hp_I, upd_at]
    · intro i hi
      rw [hp_I' _ _ _ n1, hp_I]
      by_cases c : i = N
      · rw [c, upd_at]; simp
      · rw [upd_ne c]
        show _ = nI (if i = N then t else S i)
        rw [if_neg c]; exact g1 i (by omega)
    · intro j hj
      rw [hp_I' _ _ _ (fr 2 (by decide) (by decide)).2.2.1, hp_I' _ _ _ (q12 q inj)]; exact g2 j hj
    · rw [hp_I' _ _ _ (by decide), hp_I' _ _ _ (fun e => m1 e.symm)]
  · have hcN : cap = N := by omega
    obtain ⟨h1, q', e1, f1, fr1, i12, i18, r1, r2⟩ := grow_8 f b2 (by omega)
    have f1' := f1
    obtain ⟨fr', inj', h98'⟩ := f1'
    obtain ⟨a1', l1', n1', m1', K1'⟩ := fr' 1 (by decide) (by decide)
    have K1' : am_K h1 (q' 1) = .inr (0, 2 * cap) := K1'
    have vN : am_vp (nI N) (2 * cap) = true := hp_vp (by omega) (by omega)
    have g0' : am_I h1 12 0 = nI N := by rw [i12]; exact g0
    refine ⟨am_sI (am_sI h1 (q' 1) N (nI t)) 12 0 (nI (N + 1)), q', 2 * cap, 5, 56 * cap, ?_, ⟨f1, ?_, ⟨by omega, by omega, by omega, by omega, by omega⟩, ?_, ?_⟩, frF_t fr1 (frF_t (frF_s (by decide) (by decide) _ _) (frF_12 _ _ _ _)), ?_, by omega, by omega, by rw [show 2 * cap - cap = cap from by omega]⟩
    · rw [g_X2_numberOf, g0, if_pos (Int32.le_refl _), a1, b_some, hp_ln K1, b_some, show Int32.ofNat cap = nI cap from rfl, if_neg (by rw [nI_ltI (by omega) (by omega)]; omega), e1]
      show am_cost 5 (56 * cap) ((am_A h1 12 1).bind fun q20 => _) = _
      rw [a1', b_some, hp_ln K1', b_some, g0', vN, cond_true, cN, hp_I' _ _ _ (fun e => n1' e.symm), g0', N1]
      rfl
    · rw [hp_I, upd_at]
    · intro i hi
      rw [hp_I' _ _ _ n1', hp_I]
      by_cases c : i = N
      · rw [c, upd_at]; simp
      · rw [upd_ne c]
        show _ = nI (if i = N then t else S i)
        rw [if_neg c, r1 i (by omega)]; exact g1 i (by omega)
    · intro j hj
      rw [hp_I' _ _ _ (fr' 2 (by decide) (by decide)).2.2.1, hp_I' _ _ _ (q12 q' inj'), r2 j (by omega)]; exact g2 j hj
    · rw [hp_I' _ _ _ (by decide), hp_I' _ _ _ (fun e => m1' e.symm), i18]
theorem nb8_loop {h : am_H} {cap : Nat} {q : Nat → Nat} {N : Nat} {S : Nat → Nat} {J : Nat} {X : Nat → Int32} (g : FS h cap q N S J X) {t : Nat} (hv : ∀ i, i < N → S i < 65536) (ht : t < 65536) (hN : sbIx S t N = N → N < 4096) (F : Nat) : ∀ (d i : Nat), i + d = N → (∀ m, m < i → S m ≠ t) →
    ∃ h' q' cap' c s, g_X2_numberOf (F + d + 1) 0 (nI t) (nI i) h = some ((nI (sbIx S t N), h'), c, s) ∧ FS h' cap' q' (if sbIx S t N = N then N + 1 else N) (fun i => if i = N then (if sbIx S t N = N then t else S i) else S i) J X ∧ frF q q' h h' ∧ am_I h' 18 = am_I h 18 ∧ cap ≤ cap' ∧ c ≤ 5 * (cap' - cap) ∧ s = 56 * (cap' - cap) := by
  intro d
  induction d with
  | zero =>
    intro i hi hno
    have : i = N := by omega
    subst this
    have e : sbIx S t i = i := by
      apply Nat.le_antisymm (sbIx_le S t i)
      apply Classical.byContradiction
      intro hh
      exact hno _ (show sbIx S t i < i by omega) (sbIx_lt (by omega))
    rw [e, if_pos rfl]
    simp only [if_true]
    exact nb8_new g (hN e) e F
  | succ d ih =>
    intro i hi hno
    have g' := g
    obtain ⟨⟨fr, inj, h98⟩, g0, ⟨b1, b2, b3, b4, b5⟩, g1, g2⟩ := g'
    obtain ⟨a1, l1, n1, m1, K1⟩ := fr 1 (by decide) (by decide)
    have K1 : am_K h (q 1) = .inr (0, cap) := K1
    have mm : ¬ nI N ≤ nI i := nI_ge (a := i) (b := N) (by omega) (by omega)
    have vi : am_vp (nI i) cap = true := hp_vp (by omega) (by omega)
    have ci : Int32.toNatClampNeg (nI i) = i := nI_clamp (by omega)
    by_cases e : S i = t
    · have ex : sbIx S t N = i := sbIx_of (by omega) e hno
      have ne : ¬ sbIx S t N = N := by omega
      refine ⟨h, q, cap, 0, 0, ?_, ?_, frF_r q h, rfl, Nat.le_refl _, by omega, by omega⟩
      · rw [show F + (d + 1) + 1 = (F + d + 1) + 1 from rfl, g_X2_numberOf, g0, if_neg mm, a1, b_some, hp_ln K1, b_some, vi, cond_true, ci, g1 i (by omega), if_pos (by rw [e]), ex]
      · rw [if_neg ne]
        simp only [if_neg ne, ite_self]
        exact g
    · obtain ⟨h', q', cap', c, s, st, rest⟩ := ih (i + 1) (by omega) (fun m hm => by
        by_cases em : m = i
        · rw [em]; exact e
        · exact hno m (by omega))
      refine ⟨h', q', cap', c, s, ?_, rest⟩
      rw [show F + (d + 1) + 1 = (F + d + 1) + 1 from rfl, g_X2_numberOf, g0, if_neg mm, a1, b_some, hp_ln K1, b_some, vi, cond_true, ci, g1 i (by omega), if_neg (fun h => e ((nI_inj (by have := hv i (by omega); omega) (by omega)).mp h)), hp_1]
      exact st
theorem nb_8 {h : am_H} {cap : Nat} {q : Nat → Nat} {N : Nat} {S : Nat → Nat} {J : Nat} {X : Nat → Int32} (g : FS h cap q N S J X) {t : Nat} (hv : ∀ i, i < N → S i < 65536) (ht : t < 65536) (hN : sbIx S t N = N → N < 4096) {F : Nat} (hF : N + 1 ≤ F) :
    ∃ h' q' cap' c s, f_X2_numberOf F (nI t) h = some ((nI (sbIx S t N), h'), c, s) ∧ FS h' cap' q' (if sbIx S t N = N then N + 1 else N) (fun i => if i = N then (if sbIx S t N = N then t else S i) else S i) J X ∧ frF q q' h h' ∧ am_I h' 18 = am_I h 18 ∧ cap ≤ cap' ∧ c ≤ 5 * (cap' - cap) ∧ s = 56 * (cap' - cap) := by
  have := nb8_loop g hv ht hN (F - N - 1) N 0 (by omega) (fun m hm => by omega)
  rw [show F - N - 1 + N + 1 = F from by omega] at this
  exact this
