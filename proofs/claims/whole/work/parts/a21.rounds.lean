theorem rd9 {O : Nat → Option Nat} {N : Nat} {κ : Nat → Nat} (b : Int32) (was : Int32) : ∀ (d k : Nat) (h : am_H), k + d = N → T9r O N κ k h →
    ∃ c h', c ≤ d * (N + 2) + 1 ∧ (∀ F, 30 ≤ F → g_X9_fewest (F + c) 2 b (nI (rfS O κ k).1) was (nI k) 0 h = g_X9_fewest F 4 b (nI (rfS O κ N).1) was (nI 0) 0 h') ∧ T9r O N κ N h' ∧ frM h h' := by
  intro d
  induction d with
  | zero =>
    intro k h hk w
    have : k = N := by omega
    subst this
    refine ⟨1, h, by omega, fun F hF => ?_, w, frM_r h⟩
    rw [g_X9_fewest]
    simp only [show Nat.beq 2 0 = false from rfl, show Nat.beq 2 1 = false from rfl, show Nat.beq 2 2 = true from rfl, cond_false, cond_true, w.1.2.1]
    rw [if_pos (Int32.le_refl _)]
    rfl
  | succ d ih =>
    intro k h hk w
    have w0 := w.1.1
    obtain ⟨c1, h1, b1, s1, t1, f1⟩ := lk9 w (by omega) b was k 0 (by omega) (fun m hm => by omega)
    obtain ⟨c2, h2, b2, s2, t2, f2⟩ := ih (k + 1) h1 (by omega) t1
    refine ⟨c2 + c1 + 1, h2, ?_, fun F hF => ?_, t2, frM_t f1 f2⟩
    · rw [Nat.succ_mul]; omega
    · have mm : ¬ nI N ≤ nI k := nI_ge (a := k) (b := N) (by omega) (by omega)
      rw [show F + (c2 + c1 + 1) = (F + c2 + c1) + 1 from by omega, g_X9_fewest]
      simp only [show Nat.beq 2 0 = false from rfl, show Nat.beq 2 1 = false from rfl, show Nat.beq 2 2 = true from rfl, cond_false, cond_true, w.1.2.1, if_neg mm]
      have := s1 (F + c2) (by omega)
      rw [show Int32.ofInt 0 = nI 0 from rfl, this]
      exact s2 F hF
/-- the new kinds are laid into the row -/
theorem cp9 {O : Nat → Option Nat} {N : Nat} {κ κ' : Nat → Nat} (hκ : ∀ i, i < N → κ' i < 2 ^ 31) (b x was : Int32) : ∀ (d k : Nat) (h : am_H), k + d = N → W9r O N (fun i => if i < k then κ' i else κ i) h → (∀ i, i < N → am_I h 71 i = nI (κ' i)) →
    ∃ h', (∀ F, g_X9_fewest (F + (d + 1)) 4 b x was (nI k) 0 h = g_X9_fewest F 1 b x was 0 0 h') ∧ W9r O N κ' h' ∧ frM h h' := by
  intro d
  induction d with
  | zero =>
    intro k h hk w h82
    have : k = N := by omega
    subst this
    refine ⟨h, fun F => ?_, ?_, frM_r h⟩
    · rw [show F + (0 + 1) = F + 1 from rfl, g_X9_fewest]
      simp only [show Nat.beq 4 0 = false from rfl, show Nat.beq 4 1 = false from rfl, show Nat.beq 4 2 = false from rfl, show Nat.beq 4 3 = false from rfl, cond_false, w.2.1]
      rw [if_pos (Int32.le_refl _)]
    · obtain ⟨a1, a2, a3, a4, a5⟩ := w
      refine ⟨a1, a2, a3, a4, fun i hi => ?_⟩
      have := a5 i hi
      simp only [if_pos hi] at this
      exact this
  | succ d ih =>
    intro k h hk w h82
    obtain ⟨a1, a2, a3, a4, a5⟩ := w
    have mm : ¬ nI N ≤ nI k := nI_ge (a := k) (b := N) (by omega) (by omega)
    have vk : am_vp (nI k) 4096 = true := hp_vp (by omega) (by decide)
    have ck : Int32.toNatClampNeg (nI k) = k := nI_clamp (by omega)
    obtain ⟨h', st, w', f'⟩ := ih (k + 1) (am_sI h 70 k (nI (κ' k))) (by omega) ⟨a1, by rw [hp_I' _ _ _ (by decide)]; exact a2, by rw [hp_I' _ _ _ (by decide)]; exact a3, a4, by
      intro i hi
      rw [hp_I]
      by_cases c : i = k
      · rw [c, upd_at]
        simp only [show k < k + 1 from by omega, if_true]
        exact ⟨trivial, hκ k (by omega)⟩
      · rw [upd_ne c]
        have := a5 i hi
        by_cases c2 : i < k
        · simp only [if_pos c2] at this; simp only [show i < k + 1 from by omega, if_true]; exact this
        · simp only [if_neg c2] at this; simp only [show ¬ i < k + 1 from by omega, if_false]; exact this⟩ (by rw [hp_I' _ _ _ (by decide)]; exact h82)
    refine ⟨h', fun F => ?_, w', frM_t (frM_s (frM_r h) _ _ (by decide) (by decide)) f'⟩
    rw [← Nat.add_assoc F (d + 1) 1, g_X9_fewest]
    simp only [show Nat.beq 4 0 = false from rfl, show Nat.beq 4 1 = false from rfl, show Nat.beq 4 2 = false from rfl, show Nat.beq 4 3 = false from rfl, cond_false]
    rw [a2, if_neg mm, vk, cond_true, ck, h82 k (by omega), hp_1]
    exact st F
/-- a whole round -/
theorem rn9 {O : Nat → Option Nat} {N : Nat} {κ : Nat → Nat} {h : am_H} (w : W9r O N κ h) (b was : Int32) :
    ∃ c h', c ≤ N * (N + 2) + N + 3 ∧ (∀ F, 30 ≤ F → g_X9_fewest (F + c) 2 b (nI 0) was (nI 0) 0 h = g_X9_fewest F 1 b (nI (rfS O κ N).1) was 0 0 h') ∧ W9r O N (rfS O κ N).2 h' ∧ frM h h' := by
  have w0 := w.1
  obtain ⟨c, h1, b1, s1, t1, f1⟩ := rd9 b was N 0 h (by omega) ⟨w, fun i hi => by omega⟩
  obtain ⟨p1, p2, p3, p4⟩ := rfS_p O κ N
  have hk : ∀ i, i < N → (rfS O κ N).2 i < 2 ^ 31 := fun i hi => by have := p1 i hi; omega
  obtain ⟨h2, s2, w2, f2⟩ := cp9 (κ := κ) (κ' := (rfS O κ N).2) hk b (nI (rfS O κ N).1) was N 0 h1 (by omega) (by
    obtain ⟨a1, a2, a3, a4, a5⟩ := t1.1
    exact ⟨a1, a2, a3, a4, fun i hi => by simp only [show ¬ i < 0 from by omega, if_false]; exact a5 i hi⟩) t1.2
  refine ⟨c + (N + 1), h2, by omega, fun F hF => ?_, w2, frM_t f1 f2⟩
  have := s1 (F + (N + 1)) (by omega)
  rw [show F + (c + (N + 1)) = F + (N + 1) + c from by omega]
  exact this.trans (s2 F)
/-- rounds until nothing is parted -/
theorem fw9 {O : Nat → Option Nat} {N : Nat} {κ : Nat → Nat} {R : Nat} (hR : (rfK O κ N (R + 1)).1 = (rfK O κ N R).1) (hno : ∀ r, r < R → (rfK O κ N (r + 1)).1 ≠ (rfK O κ N r).1) (b : Int32) : ∀ (d r : Nat) (h : am_H), r + d = R → W9r O N (rfK O κ N (r + 1)).2 h →
    ∃ c h', c ≤ d * (N * (N + 2) + N + 4) + 1 ∧ (∀ F, 30 ≤ F → g_X9_fewest (F + c) 1 b (nI (rfK O κ N (r + 1)).1) (nI (rfK O κ N r).1) 0 0 h = some (nI (rfK O κ N (R + 1)).1, h')) ∧ W9r O N (rfK O κ N (R + 1)).2 h' ∧ frM h h' := by
  intro d
  induction d with
  | zero =>
    intro r h hr w
    have : r = R := by omega
    subst this
    refine ⟨1, h, by omega, fun F hF => ?_, w, frM_r h⟩
    rw [g_X9_fewest]
    simp only [show Nat.beq 1 0 = false from rfl, show Nat.beq 1 1 = true from rfl, cond_false, cond_true]
    rw [if_pos (by rw [hR])]
  | succ d ih =>
    intro r h hr w
    have w0 := w.1
    have l1 := rfK_le O κ N r
    have l2 := rfK_le O κ N (r + 1)
    obtain ⟨c1, h1, b1, s1, t1, f1⟩ := rn9 w b (nI (rfK O κ N (r + 1)).1)
    obtain ⟨c2, h2, b2, s2, t2, f2⟩ := ih (r + 1) h1 (by omega) t1
    refine ⟨c2 + c1 + 1, h2, ?_, fun F hF => ?_, t2, frM_t f1 f2⟩
    · rw [Nat.succ_mul]; omega
    · have ne : ¬ nI (rfK O κ N r).1 = nI (rfK O κ N (r + 1)).1 := fun e => hno r (by omega) ((nI_inj (by omega) (by omega)).mp e).symm
      rw [show F + (c2 + c1 + 1) = (F + c2 + c1) + 1 from by omega, g_X9_fewest]
      simp only [show Nat.beq 1 0 = false from rfl, show Nat.beq 1 1 = true from rfl, cond_false, cond_true, if_neg ne]
      have := s1 (F + c2) (by omega)
      rw [show Int32.ofInt 0 = nI 0 from rfl, this]
      exact s2 F hF
