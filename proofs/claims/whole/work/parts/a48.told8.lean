/-! ===== the row that was found, told: class and reference ===== -/
/-- the word of the i-th, back by back -/
theorem bw_nx {N : Nat} {pw : Nat → List Nat} {pf pa : Nat → Nat} (hw : BW N pw pf pa) {i : Nat} (hi : i < N) (h0 : i ≠ 0) : pf i < i ∧ pa i < 24 ∧ pw i = pa i :: pw (pf i) := hw.2.2.1 i (by omega) hi
theorem bw_len {N : Nat} {pw : Nat → List Nat} {pf pa : Nat → Nat} (hw : BW N pw pf pa) : ∀ i, i < N → (pw i).length ≤ i := by
  intro i
  induction i using Nat.strongRecOn with
  | ind i ih =>
    intro hi
    by_cases h0 : i = 0
    · rw [h0, hw.2.1]; exact Nat.le_refl _
    · obtain ⟨x, y, z⟩ := bw_nx hw hi h0
      rw [z, List.length_cons]
      have := ih _ x (by omega)
      omega
/-- the node that is k steps back -/
def bwUp (pf : Nat → Nat) : Nat → Nat → Nat
  | 0, i => i
  | k + 1, i => bwUp pf k (pf i)
theorem bwUp_w {N : Nat} {pw : Nat → List Nat} {pf pa : Nat → Nat} (hw : BW N pw pf pa) : ∀ k i, i < N → k ≤ (pw i).length → bwUp pf k i < N ∧ pw (bwUp pf k i) = (pw i).drop k
  | 0, i, hi, _ => ⟨hi, rfl⟩
  | k + 1, i, hi, hk => by
    have h0 : i ≠ 0 := by
      intro e
      rw [e, hw.2.1] at hk
      exact absurd hk (Nat.not_succ_le_zero k)
    obtain ⟨x, y, z⟩ := bw_nx hw hi h0
    rw [z, List.length_cons] at hk
    have := bwUp_w hw k (pf i) (by omega) (by omega)
    refine ⟨this.1, ?_⟩
    rw [z, List.drop_succ_cons]
    exact this.2
theorem nI_le00 : (nI 0 ≤ (0 : Int32)) := by decide
theorem nI_nle0 {i : Nat} (h0 : i ≠ 0) (h : i < 2 ^ 31) : ¬ nI i ≤ 0 := by
  rw [nI_le0 h]; exact h0
section
variable {P1 P2 : Nat} {nx1 nx2 : Nat → Option Nat} {en1 en2 : Nat → Bool}
theorem ln8_loop {h : am_H} {cap : Nat} {q : Nat → Nat} {N : Nat} {pw : Nat → List Nat} {pf pa χ : Nat → Nat} (c : C8 P1 P2 nx1 nx2 h cap q N pw (frI pf) (frI pa) χ) (hw : BW N pw pf pa) (hN : N ≤ cap) (hc2 : cap ≤ 100000) : ∀ i a F, i < N → a + i < N → g_X1_length (F + i + 1) 0 (nI a) (nI i) h = some (nI (a + (pw i).length), h) := by
  obtain ⟨cr, c4, crow, _⟩ := c
  obtain ⟨A9, l9, n9, K9⟩ := cr.1 9 (by decide) (by decide)
  intro i
  induction i using Nat.strongRecOn with
  | ind i ih =>
    intro a F hi ha
    by_cases h0 : i = 0
    · subst h0
      rw [show F + 0 + 1 = F + 1 from rfl, g_X1_length, if_pos nI_le00, hw.2.1]; rfl
    · obtain ⟨x, y, z⟩ := bw_nx hw hi h0
      have r9 := (crow i hi).2.2.1
      have mm : ¬ nI N ≤ nI a := nI_ge (a := a) (b := N) (by omega) (by omega)
      rw [g_X1_length, if_neg (nI_nle0 h0 (by omega)), c4, if_neg mm, A9, b_some, hp_ln K9, b_some, hp_vp (by omega) (by omega), cond_true, nI_clamp (by omega), r9, show frI pf i = nI (pf i) from if_neg h0, hp_1]
      have := ih (pf i) x (a + 1) (F + (i - 1 - pf i)) (by omega) (by omega)
      rw [show F + (i - 1 - pf i) + pf i + 1 = F + i from by omega] at this
      rw [this, z, List.length_cons]
      congr 3
      omega
theorem ln_8 {h : am_H} {cap : Nat} {q : Nat → Nat} {N : Nat} {pw : Nat → List Nat} {pf pa : Nat → Nat} {f : Nat} (t : TF P1 P2 nx1 nx2 en1 en2 h cap q N pw pf pa f) (hN : N ≤ cap) (hc2 : cap ≤ 100000) {F : Nat} (hF : 100001 ≤ F) : f_X1_length F h = some (nI (pw f).length, h) := by
  obtain ⟨⟨χ, c⟩, _, hw, hf, h5, _, _⟩ := t
  unfold f_X1_length
  rw [h5]
  have := ln8_loop c hw hN hc2 f 0 (F - f - 1) hf (by omega)
  rw [show F - f - 1 + f + 1 = F from by omega, Nat.zero_add] at this
  exact this
/-- the act of a sort -/
def cdOf (s : Nat) : Nat := s / 12 * 100 + s % 12 / 4 * 10 + s % 4
theorem cdo_8 : ∀ s, s < 24 → ∀ h, f_X8_codeOf (nI s) h = some (nI (cdOf s), h) := by
  intro s hs h
  have : ∀ s, s < 24 → ((nI s / Int32.ofInt 12 * Int32.ofInt 100 + (nI s - nI s / Int32.ofInt 12 * Int32.ofInt 12) / Int32.ofInt 4 * Int32.ofInt 10) + (nI s - nI s / Int32.ofInt 4 * Int32.ofInt 4)) = nI (cdOf s) := by decide
  unfold f_X8_codeOf
  rw [this s hs]
theorem cdo9_a : ∀ s, s < 24 → (if nI s < Int32.ofInt 12 then some (Int32.ofInt 0) else some (Int32.ofInt 100)) = some (nI (s / 12 * 100)) ∧ ((nI (s / 12 * 100) + ((nI s - nI s / Int32.ofInt 12 * Int32.ofInt 12) / Int32.ofInt 4) * Int32.ofInt 10) + (nI s - nI s / Int32.ofInt 4 * Int32.ofInt 4)) = nI (cdOf s) := by decide
theorem cdo_9 : ∀ s, s < 24 → ∀ h, f_X9_asAct (nI s) h = some (nI (cdOf s), h) := by
  intro s hs h
  obtain ⟨e1, e2⟩ := cdo9_a s hs
  unfold f_X9_asAct
  rw [e1, b_some, e2]
/-- going back in the class's rows -/
theorem ca8_loop {h : am_H} {cap : Nat} {q : Nat → Nat} {N : Nat} {pw : Nat → List Nat} {pf pa χ : Nat → Nat} (c : C8 P1 P2 nx1 nx2 h cap q N pw (frI pf) (frI pa) χ) (hw : BW N pw pf pa) (hN : N ≤ cap) (hc2 : cap ≤ 100000) (a1 : Int32) {B : Nat} (hB : B < 100000) (F : Nat) : ∀ (d k i : Nat), k + d = B → i < N → d + 1 ≤ (pw i).length → g_X1_codeAt (F + d + 1) 0 a1 (nI B) (nI i) (nI k) h = some (nI (cdOf (pa (bwUp pf d i))), h) := by
  obtain ⟨cr, c4, crow, _⟩ := c
  obtain ⟨A9, l9, n9, K9⟩ := cr.1 9 (by decide) (by decide)
  obtain ⟨A10, l10, n10, K10⟩ := cr.1 10 (by decide) (by decide)
  intro d
  induction d with
  | zero =>
    intro k i hk hi hd
    have h0 : i ≠ 0 := by
      intro e
      rw [e, hw.2.1] at hd
      exact absurd hd (by decide)
    obtain ⟨x, y, z⟩ := bw_nx hw hi h0
    have r10 := (crow i hi).2.2.2
    rw [show F + 0 + 1 = F + 1 from rfl, g_X1_codeAt, if_pos (by rw [nI_leI (by omega) (by omega)]; omega), A10, b_some, hp_ln K10, b_some, hp_vp (by omega) (by omega), cond_true, nI_clamp (by omega), r10, show frI pa i = nI (pa i) from if_neg h0, cdo_8 _ y, b2s]
    rfl
  | succ d ih =>
    intro k i hk hi hd
    have h0 : i ≠ 0 := by
      intro e
      rw [e, hw.2.1] at hd
      exact absurd hd (Nat.not_succ_le_zero _)
    obtain ⟨x, y, z⟩ := bw_nx hw hi h0
    have r9 := (crow i hi).2.2.1
    rw [z, List.length_cons] at hd
    rw [show F + (d + 1) + 1 = (F + d + 1) + 1 from rfl, g_X1_codeAt, if_neg (by rw [nI_leI (by omega) (by omega)]; omega), A9, b_some, hp_ln K9, b_some, hp_vp (by omega) (by omega), cond_true, nI_clamp (by omega), r9, show frI pf i = nI (pf i) from if_neg h0, hp_1, ih (k + 1) (pf i) (by omega) (by omega) (by omega)]
    rfl
/-- the i-th letter of a word whose last letter stands first -/
def wAt (w : List Nat) (i : Nat) : Nat := w.getD (w.length - 1 - i) 0
theorem wAt_up {N : Nat} {pw : Nat → List Nat} {pf pa : Nat → Nat} (hw : BW N pw pf pa) {f i : Nat} (hf : f < N) (hi : i < (pw f).length) : pa (bwUp pf ((pw f).length - 1 - i) f) = wAt (pw f) i := by
  obtain ⟨u1, u2⟩ := bwUp_w hw ((pw f).length - 1 - i) f hf (by omega)
  have h0 : bwUp pf ((pw f).length - 1 - i) f ≠ 0 := by
    intro e
    rw [e, hw.2.1] at u2
    have := congrArg List.length u2
    rw [List.length_drop, List.length_nil] at this
    omega
  obtain ⟨x, y, z⟩ := bw_nx hw u1 h0
  unfold wAt
  rw [z] at u2
  have h3 : ((pw f).drop ((pw f).length - 1 - i))[0]? = some (pa (bwUp pf ((pw f).length - 1 - i) f)) := by rw [← u2]; rfl
  rw [List.getElem?_drop, Nat.add_zero] at h3
  rw [List.getD_eq_getElem?_getD, h3]; rfl
theorem ca_8 {h : am_H} {cap : Nat} {q : Nat → Nat} {N : Nat} {pw : Nat → List Nat} {pf pa : Nat → Nat} {f : Nat} (t : TF P1 P2 nx1 nx2 en1 en2 h cap q N pw pf pa f) (hN : N ≤ cap) (hc2 : cap ≤ 100000) {i : Nat} (hi : i < 1000) {F : Nat} (hF : 200001 ≤ F) : f_X1_codeAt F (nI i) h = some (if i < (pw f).length then nI (cdOf (wAt (pw f) i)) else Int32.ofInt (-1), h) := by
  have e := ln_8 t hN hc2 (F := F) (by omega)
  obtain ⟨⟨χ, c⟩, _, hw, hf, h5, _, _⟩ := t
  have hl := bw_len hw f hf
  unfold f_X1_codeAt
  rw [e, b2s]
  by_cases hi' : i < (pw f).length
  · have s1 : nI (pw f).length - Int32.ofInt 1 - nI i = nI ((pw f).length - 1 - i) := by
      rw [show Int32.ofInt 1 = nI 1 from rfl, nI_subN (by omega), nI_subN (by omega)]
    rw [s1, if_pos (by rw [show (0 : Int32) = nI 0 from rfl, nI_leI (by decide) (by omega)]; omega), if_pos hi', h5]
    have := ca8_loop c hw hN hc2 (nI i) (B := (pw f).length - 1 - i) (by omega) (F - ((pw f).length - 1 - i) - 1) ((pw f).length - 1 - i) 0 f (by omega) hf (by omega)
    rw [show F - ((pw f).length - 1 - i) - 1 + ((pw f).length - 1 - i) + 1 = F from by omega, wAt_up hw hf hi'] at this
    exact this
  · rw [if_neg hi']
    have neg : ¬ (0 : Int32) ≤ nI (pw f).length - Int32.ofInt 1 - nI i := by
      have hlt : (nI (pw f).length - Int32.ofInt 1 - nI i).toInt < 0 := by
        have e1 : nI (pw f).length - Int32.ofInt 1 - nI i = Int32.ofInt (((pw f).length : Int) - 1 - i) := by
          rw [show nI (pw f).length = Int32.ofInt (pw f).length from rfl, show nI i = Int32.ofInt i from rfl, ← Int32.ofInt_sub, ← Int32.ofInt_sub]
        rw [e1, Int32.toInt_ofInt_of_le (by omega) (by omega)]
        omega
      intro h
      have := Int32.le_iff_toInt_le.mp h
      rw [show (0 : Int32).toInt = 0 from rfl] at this
      omega
    rw [if_neg neg]
end
