/-! ===== sets that cannot be told apart: the reference ===== -/
def oI : Option Nat → Int32
  | none => Int32.ofInt (-1)
  | some i => nI i
theorem oI_m1 {o : Option Nat} (h : ∀ i, o = some i → i < 2 ^ 31) : (oI o = Int32.ofInt (-1)) ↔ o = none := by
  cases o with
  | none => exact ⟨fun _ => rfl, fun _ => rfl⟩
  | some i => exact ⟨fun e => absurd e (nI_m1ne (h i rfl)), fun e => nomatch e⟩
theorem nI_inj {a b : Nat} (ha : a < 2 ^ 31) (hb : b < 2 ^ 31) : (nI a = nI b) ↔ a = b := by
  constructor
  · intro e
    have h := congrArg Int32.toNatClampNeg e
    rwa [nI_clamp ha, nI_clamp hb] at h
  · intro e; rw [e]
def W9r (O : Nat → Option Nat) (N : Nat) (κ : Nat → Nat) (h : am_H) : Prop := N ≤ 4096 ∧ am_I h 51 26 = nI N ∧ (∀ j, j < 24 * N → am_I h 68 j = oI (O j)) ∧ (∀ j, j < 24 * N → ∀ i, O j = some i → i < N) ∧ (∀ i, i < N → am_I h 70 i = nI (κ i) ∧ κ i < 2 ^ 31)
theorem oI_map {O : Nat → Option Nat} {N : Nat} {κ : Nat → Nat} {h : am_H} (w : W9r O N κ h) {j : Nat} (hj : j < 24 * N) : (if am_I h 68 j = Int32.ofInt (-1) then some (Int32.ofInt (-1)) else bif am_vp (am_I h 68 j) 4096 then (some (am_I h 70 (Int32.toNatClampNeg (am_I h 68 j)))) else none) = some (oI ((O j).map κ)) := by
  obtain ⟨w0, w1, w2, w3, w4⟩ := w
  rw [w2 j hj]
  cases ho : O j with
  | none => rfl
  | some i =>
    have hi := w3 j hj i ho
    rw [show oI (some i) = nI i from rfl, if_neg (nI_m1ne (by omega)), hp_vp (by omega) (by decide), cond_true, nI_clamp (by omega), (w4 i hi).1]
    rfl
theorem oI_inj {a b : Option Nat} (ha : ∀ i, a = some i → i < 2 ^ 31) (hb : ∀ i, b = some i → i < 2 ^ 31) : (oI a = oI b) ↔ a = b := by
  cases a with
  | none =>
    cases b with
    | none => exact ⟨fun _ => rfl, fun _ => rfl⟩
    | some j => exact ⟨fun e => absurd e.symm (nI_m1ne (hb j rfl)), fun e => nomatch e⟩
  | some i =>
    cases b with
    | none => exact ⟨fun e => absurd e (nI_m1ne (ha i rfl)), fun e => nomatch e⟩
    | some j =>
      constructor
      · intro e
        have := (nI_inj (ha i rfl) (hb j rfl)).mp e
        rw [this]
      · intro e; cases e; rfl
theorem al9_loop {O : Nat → Option Nat} {N : Nat} {κ : Nat → Nat} {h : am_H} (w : W9r O N κ h) {a b : Nat} (ha : a < N) (hb : b < N) (F : Nat) : ∀ (d s : Nat) (p : Bool), s + d = 24 → (p = true ↔ κ a = κ b ∧ ∀ t, t < s → (O (24 * a + t)).map κ = (O (24 * b + t)).map κ) → g_X9_areAlike (F + d + 1) 0 (nI a) (nI b) (bI p) (nI s) h = some (bI (uD (rfA O κ a b)), h) := by
  intro d
  induction d with
  | zero =>
    intro s p hs hp
    have : s = 24 := by omega
    subst this
    rw [show F + 0 + 1 = F + 1 from rfl, g_X9_areAlike, if_pos (by decide), b01_bI, cond_true]
    have : p = uD (rfA O κ a b) := by
      rw [Bool.eq_iff_iff, hp]
      exact ⟨fun h => uD_i h, fun h => uD_e h⟩
    rw [this]
  | succ d ih =>
    intro s p hs hp
    have w' := w
    obtain ⟨w0, w1, w2, w3, w4⟩ := w'
    have mm : ¬ Int32.ofInt 24 ≤ nI s := nI_ge (a := s) (b := 24) (by omega) (by omega)
    rw [show F + (d + 1) + 1 = (F + d + 1) + 1 from rfl, g_X9_areAlike, if_neg mm]
    cases p with
    | false =>
      rw [if_pos ((bI_0 false).mpr rfl), b01_bI, cond_true]
      have : uD (rfA O κ a b) = false := by
        apply uD_n
        intro hh
        have := hp.mpr ⟨hh.1, fun t ht => hh.2 t (by omega)⟩
        cases this
      rw [this]
    | true =>
      have ix : ∀ x, (Int32.ofInt 24) * nI x + nI s = nI (24 * x + s) := fun x => by rw [show Int32.ofInt 24 = nI 24 from rfl, nI_mul, nI_add]
      have vx : ∀ x, x < N → am_vp (nI (24 * x + s)) 98304 = true := fun x hx => hp_vp (by omega) (by decide)
      have cx : ∀ x, x < N → Int32.toNatClampNeg (nI (24 * x + s)) = 24 * x + s := fun x hx => nI_clamp (by omega)
      have mp : ∀ x, x < N → ∀ i, (O (24 * x + s)).map κ = some i → i < 2 ^ 31 := by
        intro x hx i hi
        cases ho : O (24 * x + s) with
        | none => rw [ho] at hi; cases hi
        | some y =>
          rw [ho] at hi
          have : κ y = i := by cases hi; rfl
          rw [← this]
          exact (w4 y (w3 _ (by omega) y ho)).2
      rw [if_neg (fun h => by have := (bI_0 true).mp h; cases this), ix, ix, vx a ha, vx b hb, cond_true, cond_true, cx a ha, cx b hb, oI_map w (by omega), b_some, oI_map w (by omega), b_some, hp_1]
      by_cases e : (O (24 * a + s)).map κ = (O (24 * b + s)).map κ
      · rw [if_pos ((oI_inj (mp a ha) (mp b hb)).mpr e), b_some]
        apply ih (s + 1) true (by omega)
        have h1 := hp.mp rfl
        refine ⟨fun _ => ⟨h1.1, fun t ht => ?_⟩, fun _ => rfl⟩
        by_cases c : t = s
        · rw [c]; exact e
        · exact h1.2 t (by omega)
      · rw [if_neg (fun h => e ((oI_inj (mp a ha) (mp b hb)).mp h)), b_some]
        apply ih (s + 1) false (by omega)
        exact ⟨(fun h => nomatch h), fun h => absurd (h.2 s (by omega)) e⟩
theorem al_9 {O : Nat → Option Nat} {N : Nat} {κ : Nat → Nat} {h : am_H} (w : W9r O N κ h) {a b : Nat} (ha : a < N) (hb : b < N) {F : Nat} (hF : 25 ≤ F) : f_X9_areAlike F (nI a) (nI b) h = some (bI (uD (rfA O κ a b)), h) := by
  have w0 := w.1
  unfold f_X9_areAlike
  rw [hp_vp (by omega) (by decide), hp_vp (by omega) (by decide), cond_true, cond_true, nI_clamp (by omega), nI_clamp (by omega), (w.2.2.2.2 a ha).1, (w.2.2.2.2 b hb).1]
  have e : (if nI (κ a) = nI (κ b) then some (Int32.ofInt 1) else some (Int32.ofInt 0)) = some (bI (decide (κ a = κ b))) := by
    by_cases c : κ a = κ b
    · rw [if_pos (by rw [c]), decide_eq_true c]; rfl
    · rw [if_neg (fun h => c ((nI_inj (w.2.2.2.2 a ha).2 (w.2.2.2.2 b hb).2).mp h)), decide_eq_false c]; rfl
  rw [e, b_some, show F = (F - 25) + 24 + 1 from by omega]
  exact al9_loop w ha hb (F - 25) 24 0 _ rfl (by rw [decide_eq_true_eq]; exact ⟨fun h => ⟨h, fun t ht => by omega⟩, fun h => h.1⟩)
/-- one round at set k: the rows so far -/
def T9r (O : Nat → Option Nat) (N : Nat) (κ : Nat → Nat) (k : Nat) (h : am_H) : Prop := W9r O N κ h ∧ ∀ i, i < k → am_I h 71 i = nI ((rfS O κ k).2 i)
theorem lk9 {O : Nat → Option Nat} {N : Nat} {κ : Nat → Nat} {h : am_H} {k : Nat} (w : T9r O N κ k h) (hk : k < N) (b : Int32) (was : Int32) : ∀ (d i : Nat), i + d = k → (∀ m, m < i → ¬ rfA O κ m k) →
    ∃ c h', c ≤ d + 1 ∧ (∀ F, 30 ≤ F → g_X9_fewest (F + c) 3 b (nI (rfS O κ k).1) was (nI k) (nI i) h = g_X9_fewest F 2 b (nI (rfS O κ (k + 1)).1) was (nI (k + 1)) 0 h') ∧ T9r O N κ (k + 1) h' ∧ frM h h' := by
  obtain ⟨w, w82⟩ := w
  have w0 := w.1
  have w' := w
  obtain ⟨-, v1, v2, v3, v4⟩ := w'
  have vk : am_vp (nI k) 4096 = true := hp_vp (by omega) (by decide)
  have ck : Int32.toNatClampNeg (nI k) = k := nI_clamp (by omega)
  have fin : ∀ x, (∀ i, i < k → (rfS O κ (k + 1)).2 i = (rfS O κ k).2 i) → (rfS O κ (k + 1)).2 k = x → T9r O N κ (k + 1) (am_sI h 71 k (nI x)) := by
    intro x hk1 hx
    refine ⟨⟨w0, ?_, ?_, v3, ?_⟩, ?_⟩
    · rw [hp_I' _ _ _ (by decide)]; exact v1
    · rw [hp_I' _ _ _ (by decide)]; exact v2
    · rw [hp_I' _ _ _ (by decide)]; exact v4
    · intro i hi
      rw [hp_I]
      by_cases c : i = k
      · rw [c, upd_at, hx]
      · rw [upd_ne c, w82 i (by omega), hk1 i (by omega)]
  intro d
  induction d with
  | zero =>
    intro i hi hno
    have : i = k := by omega
    subst this
    have e : rfL O κ i i = i := by
      apply Nat.le_antisymm (rfL_le O κ i i)
      apply Classical.byContradiction
      intro hh
      exact hno _ (show rfL O κ i i < i by omega) (rfL_lt (by omega))
    have hn := rfS_n (O := O) (κ := κ) (k := i) (by omega)
    refine ⟨1, am_sI h 71 i (nI (rfS O κ i).1), by omega, ?_, fin _ ?_ ?_, frM_s (frM_r h) _ _ (by decide) (by decide)⟩
    · intro F hF
      rw [g_X9_fewest]
      simp only [show Nat.beq 3 0 = false from rfl, show Nat.beq 3 1 = false from rfl, show Nat.beq 3 2 = false from rfl, show Nat.beq 3 3 = true from rfl, cond_false, cond_true, vk, ck, hp_1]
      rw [if_pos (Int32.le_refl _), if_pos (Int32.le_refl _), b_some, if_pos (Int32.le_refl _), b_some, hn, hp_1]
    · intro m hm
      rw [hn]
      show (if m = i then _ else _) = _
      rw [if_neg (by omega)]
    · rw [hn]
      show (if i = i then _ else _) = _
      rw [if_pos rfl]
  | succ d ih =>
    intro i hi hno
    have mm : ¬ nI k ≤ nI i := nI_ge (a := i) (b := k) (by omega) (by omega)
    have vi : am_vp (nI i) 4096 = true := hp_vp (by omega) (by decide)
    have ci : Int32.toNatClampNeg (nI i) = i := nI_clamp (by omega)
    by_cases ha : rfA O κ i k
    · have e : rfL O κ k k = i := by
        apply Nat.le_antisymm
        · apply Classical.byContradiction
          intro hh
          exact rfL_no (O := O) (κ := κ) (k := k) (i := k) (m := i) (by omega) ha
        · apply Classical.byContradiction
          intro hh
          exact hno _ (show rfL O κ k k < i by omega) (rfL_lt (by omega))
      have ho := rfS_o (O := O) (κ := κ) (k := k) (by omega)
      rw [e] at ho
      refine ⟨1, am_sI h 71 k (nI ((rfS O κ k).2 i)), by omega, ?_, fin _ ?_ ?_, frM_s (frM_r h) _ _ (by decide) (by decide)⟩
      · intro F hF
        rw [g_X9_fewest]
        simp only [show Nat.beq 3 0 = false from rfl, show Nat.beq 3 1 = false from rfl, show Nat.beq 3 2 = false from rfl, show Nat.beq 3 3 = true from rfl, cond_false, cond_true, vk, ck, hp_1, if_neg mm, al_9 w (show i < N by omega) hk (show 25 ≤ F by omega), b2s, uD_i ha]
        rw [if_neg (fun h => by have := (bI_0 true).mp h; cases this)]
        simp only [vi, ci, cond_true, w82 i (by omega), b_some]
        rw [ho]
        show g_X9_fewest F 2 b (nI (rfS O κ k).1 + Int32.ofInt 0) was _ 0 _ = _
        rw [show nI (rfS O κ k).1 + Int32.ofInt 0 = nI ((rfS O κ k).1 + 0) from nI_add _ 0, Nat.add_zero]
      · intro m hm
        rw [ho]
        show (if m = k then _ else _) = _
        rw [if_neg (by omega)]
      · rw [ho]
        show (if k = k then _ else _) = _
        rw [if_pos rfl]
    · obtain ⟨c, h', hc, st, t', f'⟩ := ih (i + 1) (by omega) (fun m hm => by
        by_cases e : m = i
        · rw [e]; exact ha
        · exact hno m (by omega))
      refine ⟨c + 1, h', by omega, ?_, t', f'⟩
      intro F hF
      rw [show F + (c + 1) = (F + c) + 1 from rfl, g_X9_fewest]
      simp only [show Nat.beq 3 0 = false from rfl, show Nat.beq 3 1 = false from rfl, show Nat.beq 3 2 = false from rfl, show Nat.beq 3 3 = true from rfl, cond_false, cond_true, if_neg mm, al_9 w (show i < N by omega) hk (show 25 ≤ F + c by omega), b2s, uD_n ha]
      rw [if_pos ((bI_0 false).mpr rfl), hp_1]
      exact st F hF
