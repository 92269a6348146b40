theorem W8_s {O : Nat → Option Nat} {N : Nat} {κ : Nat → Nat} {h : am_H} {cap : Nat} {q : Nat → Nat} (w : W8r O N κ h cap q) {k : Nat} (k4 : k = 4 ∨ k = 5) (j : Nat) (x : Int32) : W8r O N κ (am_sI h (q k) j x) cap q := by
  obtain ⟨f, w0, b, w2, w3, w4⟩ := w
  have f' := f
  obtain ⟨fr, inj, h98⟩ := f'
  have ne : ∀ i, 1 ≤ i → i ≤ 3 → q i ≠ q k := fun i i1 i3 e => by have := inj i k i1 (by omega) (by omega) (by omega) e; omega
  refine ⟨f, ?_, b, ?_, w3, ?_⟩
  · rw [hp_I' _ _ _ (fun e => (fr k (by omega) (by omega)).2.2.1 e.symm)]; exact w0
  · rw [hp_I' _ _ _ (ne 2 (by decide) (by decide))]; exact w2
  · rw [hp_I' _ _ _ (ne 3 (by decide) (by decide))]; exact w4
theorem rf8_in {O : Nat → Option Nat} {N : Nat} {κ : Nat → Nat} {s : Nat} {la : Nat → Nat} {h : am_H} {cap : Nat} {q : Nat → Nat} (t : T8r O N κ s la h cap q) (hs : s < N) : ∀ (d k : Nat), k + d = rfV O κ s →
    ∃ la' h', (∀ F, 30 ≤ F → g_X2_refine (F + d + 1) 1 (nI (rfS O κ s).1) (nI s) (nI k) h = g_X2_refine F 0 (nI (rfS O κ (s + 1)).1) (nI (s + 1)) 0 h') ∧ T8r O N κ (s + 1) la' h' cap q ∧ frF q q h h' ∧ am_I h' (q 1) = am_I h (q 1) := by
  obtain ⟨w, tl, tf⟩ := t
  have w' := w
  obtain ⟨⟨fr, inj, h98⟩, w0, ⟨b1, b2, b3⟩, w2, w3, w4⟩ := w'
  obtain ⟨a5, l5, n5, m5, K5⟩ := fr 5 (by decide) (by decide)
  obtain ⟨a4, l4, n4, m4, K4⟩ := fr 4 (by decide) (by decide)
  have K5 : am_K h (q 5) = .inr (0, cap) := K5
  have K4 : am_K h (q 4) = .inr (0, cap) := K4
  have n14 : q 1 ≠ q 4 := fun e => by have := inj 1 4 (by decide) (by decide) (by decide) (by decide) e; omega
  have n15 : q 1 ≠ q 5 := fun e => by have := inj 1 5 (by decide) (by decide) (by decide) (by decide) e; omega
  have n45 : q 4 ≠ q 5 := fun e => by have := inj 4 5 (by decide) (by decide) (by decide) (by decide) e; omega
  have vs : am_vp (nI s) cap = true := hp_vp (by omega) (by omega)
  have cs : Int32.toNatClampNeg (nI s) = s := nI_clamp (by omega)
  have pc := (rfS_p O κ s).2.2.2
  have hVle := rfV_le O κ s
  intro d
  induction d with
  | zero =>
    intro k hk
    have hk : k = rfV O κ s := by omega
    by_cases hn : k < (rfS O κ s).1
    · -- one like it was met
      have mm : ¬ nI (rfS O κ s).1 ≤ nI k := nI_ge (a := k) (b := (rfS O κ s).1) (by omega) (by omega)
      have ne : ¬ nI k = nI (rfS O κ s).1 := fun e => by have := (nI_inj (by omega) (by omega)).mp e; omega
      obtain ⟨x1, x2, x3⟩ := tl k hn
      have hal : rfA O κ s (la k) := rf_isl x2 (by omega) (x3.trans hk)
      have vk : am_vp (nI k) cap = true := hp_vp (by omega) (by omega)
      have ck : Int32.toNatClampNeg (nI k) = k := nI_clamp (by omega)
      have e1 : (rfS O κ (s + 1)).1 = (rfS O κ s).1 := by rw [rf_n1, if_pos (by omega)]
      have e2 := rfV_2 O κ s
      refine ⟨la, am_sI h (q 4) s (nI k), ?_, ⟨W8_s w (Or.inl rfl) _ _, ?_, ?_⟩, frF_s (by decide) (by decide) _ _, hp_I' _ _ _ n14⟩
      · intro F hF
        rw [show F + 0 + 1 = F + 1 from rfl, g_X2_refine]
        simp only [show Nat.beq 1 0 = false from rfl, cond_false]
        rw [if_neg mm, a5, b_some, hp_ln K5, b_some, vk, cond_true, ck, x1, al_8 w hs (by omega) (show 25 ≤ F by omega), b2s, uD_i hal, if_neg (fun h => by have := (bI_0 true).mp h; cases this), if_neg ne, b2s, a4, b_some, hp_ln K4, b_some, vs, cond_true, cs, hp_1, e1]
      · intro v hv
        rw [e1] at hv
        obtain ⟨y1, y2, y3⟩ := tl v hv
        refine ⟨by rw [hp_I' _ _ _ (fun e => n45 e.symm)]; exact y1, by omega, ?_⟩
        rw [e2]
        show (if la v = s then _ else _) = v
        rw [if_neg (by omega)]; exact y3
      · intro i hi
        rw [hp_I, e2]
        by_cases c : i = s
        · rw [c, upd_at, hk]; simp
        · rw [upd_ne c]
          show _ = nI (if i = s then _ else _)
          rw [if_neg c]; exact tf i (by omega)
    · -- a new kind
      have hkc : k = (rfS O κ s).1 := by omega
      have vk : am_vp (nI k) cap = true := hp_vp (by omega) (by omega)
      have ck : Int32.toNatClampNeg (nI k) = k := nI_clamp (by omega)
      have e1 : (rfS O κ (s + 1)).1 = (rfS O κ s).1 + 1 := by rw [rf_n1, if_neg (by omega)]
      have e2 := rfV_2 O κ s
      have f1 := frF_s (q := q) (h := h) (k := 5) (by decide) (by decide) k (nI s)
      refine ⟨fun v => if v = k then s else la v, am_sI (am_sI h (q 5) k (nI s)) (q 4) s (nI k), ?_, ⟨W8_s (W8_s w (Or.inr rfl) _ _) (Or.inl rfl) _ _, ?_, ?_⟩, frF_t f1 (frF_s (by decide) (by decide) _ _), by rw [hp_I' _ _ _ n14, hp_I' _ _ _ n15]⟩
      · intro F hF
        rw [show F + 0 + 1 = F + 1 from rfl, g_X2_refine]
        simp only [show Nat.beq 1 0 = false from rfl, cond_false]
        rw [← hkc, if_pos (Int32.le_refl _), if_pos rfl, a5, b_some, hp_ln K5, b_some, vk, cond_true, ck, b2s]
        have a4' : am_A (am_sI h (q 5) k (nI s)) 12 4 = some (q 4) := a4
        have K4' : am_K (am_sI h (q 5) k (nI s)) (q 4) = .inr (0, cap) := K4
        rw [a4', b_some, hp_ln K4', b_some, vs, cond_true, cs, hp_1, hp_1, e1, ← hkc]
      · intro v hv
        rw [e1] at hv
        rw [hp_I' _ _ _ (fun e => n45 e.symm), hp_I]
        by_cases c : v = k
        · have hla : (fun v => if v = k then s else la v) k = s := if_pos rfl
          rw [c, upd_at, hla]
          refine ⟨rfl, by omega, ?_⟩
          rw [e2]
          show (if s = s then _ else _) = k
          rw [if_pos rfl, hk]
        · obtain ⟨y1, y2, y3⟩ := tl v (by omega)
          have hla : (fun v => if v = k then s else la v) v = la v := if_neg c
          rw [upd_ne c, hla]
          refine ⟨y1, by omega, ?_⟩
          rw [e2]
          show (if la v = s then _ else _) = v
          rw [if_neg (by omega)]; exact y3
      · intro i hi
        rw [hp_I, e2]
        by_cases c : i = s
        · rw [c, upd_at, hk]; simp
        · rw [upd_ne c, hp_I' _ _ _ n45]
          show _ = nI (if i = s then _ else _)
          rw [if_neg c]; exact tf i (by omega)
  | succ d ih =>
    intro k hk
    obtain ⟨la', h', st, t', f'⟩ := ih (k + 1) (by omega)
    refine ⟨la', h', ?_, t', f'⟩
    intro F hF
    have mm : ¬ nI (rfS O κ s).1 ≤ nI k := nI_ge (a := k) (b := (rfS O κ s).1) (by omega) (by omega)
    obtain ⟨x1, x2, x3⟩ := tl k (by omega)
    have hal : ¬ rfA O κ s (la k) := fun hh => by have := rf_like x2 x3 hh; omega
    have vk : am_vp (nI k) cap = true := hp_vp (by omega) (by omega)
    have ck : Int32.toNatClampNeg (nI k) = k := nI_clamp (by omega)
    rw [show F + (d + 1) + 1 = (F + d + 1) + 1 from rfl, g_X2_refine]
    simp only [show Nat.beq 1 0 = false from rfl, cond_false]
    rw [if_neg mm, a5, b_some, hp_ln K5, b_some, vk, cond_true, ck, x1, al_8 w hs (by omega) (show 25 ≤ F + d + 1 by omega), b2s, uD_n hal, if_pos ((bI_0 false).mpr rfl), hp_1]
    exact st F hF
def qsw (q : Nat → Nat) : Nat → Nat := fun k => if k = 3 then q 4 else if k = 4 then q 3 else q k
theorem rf8_out {O : Nat → Option Nat} {N : Nat} {κ : Nat → Nat} {cap : Nat} {q : Nat → Nat} : ∀ (d s : Nat) (la : Nat → Nat) (h : am_H), s + d = N → T8r O N κ s la h cap q →
    ∃ c la' h', c ≤ d * (N + 2) + 1 ∧ (∀ F, 30 ≤ F → g_X2_refine (F + c) 0 (nI (rfS O κ s).1) (nI s) 0 h = some (nI (rfS O κ N).1, am_sA (am_sA h' 12 3 (some (q 4))) 12 4 (some (q 3)))) ∧ T8r O N κ N la' h' cap q ∧ frF q q h h' ∧ am_I h' (q 1) = am_I h (q 1) := by
  intro d
  induction d with
  | zero =>
    intro s la h hs t
    have : s = N := by omega
    subst this
    have t' := t
    obtain ⟨⟨⟨fr, inj, h98⟩, w0, ⟨b1, b2, b3⟩, w2, w3, w4⟩, tl, tf⟩ := t'
    refine ⟨1, la, h, by omega, ?_, t, frF_r q h, rfl⟩
    intro F hF
    rw [g_X2_refine]
    simp only [show Nat.beq 0 0 = true from rfl, cond_true]
    rw [w0, if_pos (Int32.le_refl _), (fr 3 (by decide) (by decide)).1, b_some, (fr 4 (by decide) (by decide)).1, b_some]
  | succ d ih =>
    intro s la h hs t
    have w0 := t.1.2.1
    have b3 := t.1.2.2.1.2.2
    obtain ⟨la1, h1, s1, t1, f1, i1⟩ := rf8_in t (by omega) (rfV O κ s) 0 (by omega)
    obtain ⟨c2, la2, h2, b2, s2, t2, f2, i2⟩ := ih (s + 1) la1 h1 (by omega) t1
    have hV := rfV_le O κ s
    have pc := (rfS_p O κ s).2.2.2
    refine ⟨c2 + (rfV O κ s) + 2, la2, h2, by rw [Nat.succ_mul]; omega, ?_, t2, frF_t f1 f2, i2.trans i1⟩
    intro F hF
    have mm : ¬ nI N ≤ nI s := nI_ge (a := s) (b := N) (by omega) (by omega)
    rw [show F + (c2 + rfV O κ s + 2) = (F + c2 + rfV O κ s + 1) + 1 from by omega, g_X2_refine]
    simp only [show Nat.beq 0 0 = true from rfl, cond_true]
    rw [w0, if_neg mm]
    exact (show g_X2_refine (F + c2 + rfV O κ s + 1) 1 (nI (rfS O κ s).1) (nI s) (nI 0) h = _ from s1 (F + c2) (by omega)).trans (s2 F hF)
/-- a refinement of the class -/
theorem rf_8 {O : Nat → Option Nat} {N : Nat} {κ : Nat → Nat} {h : am_H} {cap : Nat} {q : Nat → Nat} (w : W8r O N κ h cap q) :
    ∃ (la : Nat → Nat) (h' : am_H), (∀ F, N * (N + 2) + 40 ≤ F → f_X2_refine F h = some (nI (rfS O κ N).1, h')) ∧ W8r O N (rfS O κ N).2 h' cap (qsw q) ∧ (∀ v, v < (rfS O κ N).1 → am_I h' (qsw q 5) v = nI (la v) ∧ la v < N ∧ (rfS O κ N).2 (la v) = v) ∧ frF q (qsw q) h h' ∧ am_I h' (q 1) = am_I h (q 1) := by
  obtain ⟨c, la, h1, hc, st, t1, f1, i1⟩ := rf8_out N 0 (fun _ => 0) h (by omega) (show T8r O N κ 0 (fun _ => 0) h cap q from ⟨w, fun v hv => absurd hv (Nat.not_lt_zero _), fun i hi => by omega⟩)
  obtain ⟨⟨⟨fr, inj, h98⟩, w0, ⟨b1, b2, b3⟩, w2, w3, w4⟩, tl, tf⟩ := t1
  have p1 := (rfS_p O κ N).1
  have p4 := (rfS_p O κ N).2.2.2
  have A3 : am_A (am_sA (am_sA h1 12 3 (some (q 4))) 12 4 (some (q 3))) 12 3 = some (q 4) := (sA_ne _ _ _ (by decide)).trans (sA_at _ _ _ _)
  have A4 : am_A (am_sA (am_sA h1 12 3 (some (q 4))) 12 4 (some (q 3))) 12 4 = some (q 3) := sA_at _ _ _ _
  have Ak : ∀ k, k ≠ 3 → k ≠ 4 → am_A (am_sA (am_sA h1 12 3 (some (q 4))) 12 4 (some (q 3))) 12 k = am_A h1 12 k := fun k k3 k4 => (sA_ne _ _ _ k4).trans (sA_ne _ _ _ k3)
  have f2 : frF q (qsw q) h1 (am_sA (am_sA h1 12 3 (some (q 4))) 12 4 (some (q 3))) := by
    refine ⟨Nat.le_refl _, fun _ _ => ⟨rfl, rfl⟩, fun o _ h12 => (sA_o _ _ _ h12).trans (sA_o _ _ _ h12), fun o _ _ _ _ => rfl, fun k hk => Ak k (by omega) (by omega), fun k k1 k5 => ?_⟩
    unfold qsw
    by_cases c3 : k = 3
    · rw [if_pos c3]; exact Or.inr ⟨4, by decide, by decide, rfl⟩
    · rw [if_neg c3]
      by_cases c4 : k = 4
      · rw [if_pos c4]; exact Or.inr ⟨3, by decide, by decide, rfl⟩
      · rw [if_neg c4]; exact Or.inr ⟨k, k1, k5, rfl⟩
  refine ⟨la, am_sA (am_sA h1 12 3 (some (q 4))) 12 4 (some (q 3)), ?_, ⟨⟨?_, ?_, h98⟩, w0, ⟨b1, b2, b3⟩, ?_, w3, ?_⟩, ?_, frF_t f1 f2, ?_⟩
  · intro F hF
    unfold f_X2_refine
    have := st (F - c) (by omega)
    rw [show F - c + c = F from by omega] at this
    exact this
  · intro k k1 k5
    unfold qsw
    by_cases c3 : k = 3
    · subst c3
      obtain ⟨x1, x2, x3, x4, x5⟩ := fr 4 (by decide) (by decide)
      exact ⟨A3, x2, x3, x4, x5⟩
    · rw [if_neg c3]
      by_cases c4 : k = 4
      · subst c4
        obtain ⟨x1, x2, x3, x4, x5⟩ := fr 3 (by decide) (by decide)
        exact ⟨A4, x2, x3, x4, x5⟩
      · rw [if_neg c4]
        obtain ⟨x1, x2, x3, x4, x5⟩ := fr k k1 k5
        exact ⟨(Ak k c3 c4).trans x1, x2, x3, x4, x5⟩
  · intro i j i1 i5 j1 j5 e
    unfold qsw at e
    have hs : ∀ k, 1 ≤ k → k ≤ 5 → ∃ k', 1 ≤ k' ∧ k' ≤ 5 ∧ (if k = 3 then q 4 else if k = 4 then q 3 else q k) = q k' ∧ (k' = if k = 3 then 4 else if k = 4 then 3 else k) := by
      intro k k1 k5
      by_cases c3 : k = 3
      · exact ⟨4, by decide, by decide, by rw [if_pos c3], by rw [if_pos c3]⟩
      · by_cases c4 : k = 4
        · exact ⟨3, by decide, by decide, by rw [if_neg c3, if_pos c4], by rw [if_neg c3, if_pos c4]⟩
        · exact ⟨k, k1, k5, by rw [if_neg c3, if_neg c4], by rw [if_neg c3, if_neg c4]⟩
    obtain ⟨i', a1, a2, a3, a4⟩ := hs i i1 i5
    obtain ⟨j', c1, c2, c3, c4⟩ := hs j j1 j5
    rw [a3, c3] at e
    have := inj i' j' a1 a2 c1 c2 e
    subst this
    rw [a4] at c4
    split at c4 <;> split at c4 <;> (try split at c4) <;> (try split at c4) <;> omega
  · exact w2
  · intro i hi
    refine ⟨tf i hi, ?_⟩
    have := p1 i hi
    omega
  · exact tl
  · exact i1
