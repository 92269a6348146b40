/-! ===== sets that cannot be told apart: the class ===== -/
def W8r (O : Nat → Option Nat) (N : Nat) (κ : Nat → Nat) (h : am_H) (cap : Nat) (q : Nat → Nat) : Prop := FR h cap q ∧ am_I h 12 0 = nI N ∧ (N ≤ cap ∧ cap ≤ 8192 ∧ N ≤ 4096) ∧ (∀ j, j < 24 * N → am_I h (q 2) j = oI (O j)) ∧ (∀ j, j < 24 * N → ∀ i, O j = some i → i < N) ∧ (∀ i, i < N → am_I h (q 3) i = nI (κ i) ∧ κ i < 2 ^ 31)
theorem kn8 {O : Nat → Option Nat} {N : Nat} {κ : Nat → Nat} {h : am_H} {cap : Nat} {q : Nat → Nat} (w : W8r O N κ h cap q) {j : Nat} (hj : j < 24 * N) : f_X2_kinOf (oI (O j)) h = some (oI ((O j).map κ), h) := by
  obtain ⟨⟨fr, inj, h98⟩, w0, ⟨b1, b2, b3⟩, w2, w3, w4⟩ := w
  obtain ⟨a3, l3, n3, m3, K3⟩ := fr 3 (by decide) (by decide)
  have K3 : am_K h (q 3) = .inr (0, cap) := K3
  unfold f_X2_kinOf
  cases ho : O j with
  | none =>
    rw [if_neg (show ¬ 0 ≤ oI none by decide), b_some]; rfl
  | some i =>
    have hi := w3 j hj i ho
    have p0 : (0 : Int32) ≤ oI (some i) := by
      show nI 0 ≤ nI i
      rw [nI_leI (by decide) (by omega)]; omega
    rw [if_pos p0, a3, b_some, hp_ln K3, b_some, show oI (some i) = nI i from rfl, hp_vp (by omega) (by omega), cond_true, nI_clamp (by omega), b_some, (w4 i hi).1]; rfl
theorem al8_loop {O : Nat → Option Nat} {N : Nat} {κ : Nat → Nat} {h : am_H} {cap : Nat} {q : Nat → Nat} (w : W8r O N κ h cap q) {a b : Nat} (ha : a < N) (hb : b < N) (hκ : κ a = κ b) (F : Nat) : ∀ (d s : Nat), s + d = 24 → (∀ t, t < s → (O (24 * a + t)).map κ = (O (24 * b + t)).map κ) → g_X2_alike (F + d + 1) 0 (nI a) (nI b) (nI s) h = some (bI (uD (rfA O κ a b)), h) := by
  intro d
  induction d with
  | zero =>
    intro s hs hp
    have : s = 24 := by omega
    subst this
    rw [show F + 0 + 1 = F + 1 from rfl, g_X2_alike, if_pos (by decide), uD_i (show rfA O κ a b from ⟨hκ, hp⟩)]; rfl
  | succ d ih =>
    intro s hs hp
    have w' := w
    obtain ⟨⟨fr, inj, h98⟩, w0, ⟨b1, b2, b3⟩, w2, w3, w4⟩ := w'
    obtain ⟨a2, l2, n2, m2, K2⟩ := fr 2 (by decide) (by decide)
    have K2 : am_K h (q 2) = .inr (0, 24 * cap) := K2
    have mm : ¬ Int32.ofInt 24 ≤ nI s := nI_ge (a := s) (b := 24) (by omega) (by omega)
    have ix : ∀ x, (Int32.ofInt 24) * nI x + nI s = nI (24 * x + s) := fun x => by rw [show Int32.ofInt 24 = nI 24 from rfl, nI_mul, nI_add]
    have vx : ∀ x, x < N → am_vp (nI (24 * x + s)) (24 * cap) = true := fun x hx => hp_vp (by omega) (by omega)
    have cx : ∀ x, x < N → Int32.toNatClampNeg (nI (24 * x + s)) = 24 * x + s := fun x hx => nI_clamp (by omega)
    have mp : ∀ x, x < N → ∀ i, (O (24 * x + s)).map κ = some i → i < 2 ^ 31 := by
      intro x hx i hi
      cases ho : O (24 * x + s) with
      | none => rw [ho] at hi; cases hi
      | some y =>
        rw [ho] at hi
        have : κ y = i := by cases hi; rfl
        rw [← this]
        exact (w4 y (w3 _ (by omega) y ho)).2
    rw [show F + (d + 1) + 1 = (F + d + 1) + 1 from rfl, g_X2_alike, if_neg mm, a2, b_some, hp_ln K2, b_some, ix, vx a ha, cond_true, cx a ha, w2 _ (by omega), kn8 w (by omega), b2s, a2, b_some, hp_ln K2, b_some, ix, vx b hb, cond_true, cx b hb, w2 _ (by omega), kn8 w (by omega), b2s, hp_1]
    by_cases e : (O (24 * a + s)).map κ = (O (24 * b + s)).map κ
    · rw [if_pos ((oI_inj (mp a ha) (mp b hb)).mpr e)]
      apply ih (s + 1) (by omega)
      intro t ht
      by_cases c : t = s
      · rw [c]; exact e
      · exact hp t (by omega)
    · rw [if_neg (fun h => e ((oI_inj (mp a ha) (mp b hb)).mp h)), uD_n (show ¬ rfA O κ a b from fun h => e (h.2 s (by omega)))]; rfl
theorem al_8 {O : Nat → Option Nat} {N : Nat} {κ : Nat → Nat} {h : am_H} {cap : Nat} {q : Nat → Nat} (w : W8r O N κ h cap q) {a b : Nat} (ha : a < N) (hb : b < N) {F : Nat} (hF : 25 ≤ F) : f_X2_alike F (nI a) (nI b) h = some (bI (uD (rfA O κ a b)), h) := by
  have w' := w
  obtain ⟨⟨fr, inj, h98⟩, w0, ⟨b1, b2, b3⟩, w2, w3, w4⟩ := w'
  obtain ⟨a3, l3, n3, m3, K3⟩ := fr 3 (by decide) (by decide)
  have K3 : am_K h (q 3) = .inr (0, cap) := K3
  unfold f_X2_alike
  rw [a3, b_some, hp_ln K3, b_some, hp_vp (by omega) (by omega), cond_true, b_some, hp_ln K3, b_some, hp_vp (by omega) (by omega), cond_true, nI_clamp (by omega), nI_clamp (by omega), (w4 a ha).1, (w4 b hb).1]
  by_cases e : κ a = κ b
  · rw [if_pos (by rw [e]), show F = (F - 25) + 24 + 1 from by omega]
    exact al8_loop w ha hb e (F - 25) 24 0 rfl (fun t ht => by omega)
  · rw [if_neg (fun h => e ((nI_inj (w4 a ha).2 (w4 b hb).2).mp h)), uD_n (show ¬ rfA O κ a b from fun h => e h.1)]; rfl
/-- the number that set k gets -/
noncomputable def rfV (O : Nat → Option Nat) (κ : Nat → Nat) (k : Nat) : Nat := if rfL O κ k k < k then (rfS O κ k).2 (rfL O κ k k) else (rfS O κ k).1
theorem rfV_2 (O : Nat → Option Nat) (κ : Nat → Nat) (k : Nat) : (rfS O κ (k + 1)).2 = fun i => if i = k then rfV O κ k else (rfS O κ k).2 i := by
  unfold rfV
  by_cases h : rfL O κ k k < k
  · rw [rfS_o h, if_pos h]
  · rw [rfS_n h, if_neg h]
theorem rfV_le (O : Nat → Option Nat) (κ : Nat → Nat) (k : Nat) : rfV O κ k ≤ (rfS O κ k).1 := by
  unfold rfV
  by_cases h : rfL O κ k k < k
  · rw [if_pos h]; exact Nat.le_of_lt ((rfS_p O κ k).1 _ h)
  · rw [if_neg h]; exact Nat.le_refl _
/-- one refinement at set s, leads la -/
def T8r (O : Nat → Option Nat) (N : Nat) (κ : Nat → Nat) (s : Nat) (la : Nat → Nat) (h : am_H) (cap : Nat) (q : Nat → Nat) : Prop := W8r O N κ h cap q ∧ (∀ v, v < (rfS O κ s).1 → am_I h (q 5) v = nI (la v) ∧ la v < s ∧ (rfS O κ s).2 (la v) = v) ∧ ∀ i, i < s → am_I h (q 4) i = nI ((rfS O κ s).2 i)
theorem rf_like {O : Nat → Option Nat} {κ : Nat → Nat} {s k x : Nat} (hx : x < s) (hk : (rfS O κ s).2 x = k) (h : rfA O κ s x) : rfV O κ s = k := by
  have hl : rfL O κ s s < s := by
    apply Classical.byContradiction
    intro hh
    have e : rfL O κ s s = s := by have := rfL_le O κ s s; omega
    exact rfL_no (O := O) (κ := κ) (k := s) (i := s) (m := x) (by omega) (rfA_s h)
  unfold rfV
  rw [if_pos hl, ← hk]
  exact ((rfS_p O κ s).2.2.1 _ x hl hx).mpr (rfA_t (rfL_lt hl) h)
theorem rf_isl {O : Nat → Option Nat} {κ : Nat → Nat} {s x : Nat} (hx : x < s) (hv : rfV O κ s < (rfS O κ s).1) (hk : (rfS O κ s).2 x = rfV O κ s) : rfA O κ s x := by
  unfold rfV at hv hk
  by_cases hl : rfL O κ s s < s
  · rw [if_pos hl] at hk
    exact rfA_t (rfA_s (rfL_lt hl)) (rfA_s (((rfS_p O κ s).2.2.1 x _ hx hl).mp hk))
  · rw [if_neg hl] at hv; omega
theorem rf_n1 {O : Nat → Option Nat} {κ : Nat → Nat} {s : Nat} : (rfS O κ (s + 1)).1 = if rfV O κ s < (rfS O κ s).1 then (rfS O κ s).1 else (rfS O κ s).1 + 1 := by
  by_cases hl : rfL O κ s s < s
  · have : rfV O κ s < (rfS O κ s).1 := by unfold rfV; rw [if_pos hl]; exact (rfS_p O κ s).1 _ hl
    rw [rfS_o hl, if_pos this]
  · have : ¬ rfV O κ s < (rfS O κ s).1 := by unfold rfV; rw [if_neg hl]; omega
    rw [rfS_n hl, if_neg this]
