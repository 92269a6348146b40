/-! ===== the first row that tells two machines apart: nodes, chiefs of the class ===== -/
def mRun (nx : Nat → Option Nat) (v : Nat) : List Nat → Option Nat
  | [] => some v
  | a :: x => (mRun nx v x).bind fun u => nx (24 * u + a)
theorem mPl_app (nx : Nat → Option Nat) (u : List Nat) : ∀ x : List Nat, mPl nx (x ++ u) = (mPl nx u).bind fun v => mRun nx v x
  | [] => by
    show mPl nx u = _
    cases mPl nx u <;> rfl
  | a :: x => by
    show (mPl nx (x ++ u)).bind _ = _
    rw [mPl_app nx u x]
    cases mPl nx u with
    | none => rfl
    | some v => rfl
section
variable (P1 P2 : Nat) (nx1 nx2 : Nat → Option Nat) (en1 en2 : Nat → Bool)
def nLN (w : List Nat) : Nat := match mPl nx1 w with
  | some v => v
  | none => P1 + P2
def nRN (w : List Nat) : Nat := match mPl nx2 w with
  | some v => P1 + v
  | none => P1 + P2
def nE (nx : Nat → Option Nat) (en : Nat → Bool) (w : List Nat) : Bool := match mPl nx w with
  | some v => en v
  | none => false
/-- what a node takes -/
def nA (z : Nat) (x : List Nat) : Prop := if z < P1 then (∃ v, mRun nx1 z x = some v ∧ en1 v = true) else if z < P1 + P2 then (∃ v, mRun nx2 (z - P1) x = some v ∧ en2 v = true) else False
def nD (w : List Nat) : Prop := nE nx1 en1 w ≠ nE nx2 en2 w
/-- like, but for what a kept pair tells apart -/
def nEq (N : Nat) (pw : Nat → List Nat) (l r : Nat) : Prop := ∀ x, (∀ b, b ∈ x → b < 24) → (nA P1 P2 nx1 nx2 en1 en2 l x ↔ nA P1 P2 nx1 nx2 en1 en2 r x) ∨ ∃ i, i < N ∧ nD nx1 nx2 en1 en2 (x ++ pw i)
end
section
variable {P1 P2 : Nat} {nx1 nx2 : Nat → Option Nat} {en1 en2 : Nat → Bool}
theorem nEq_v (N : Nat) (pw : Nat → List Nat) : Eqv (nEq P1 P2 nx1 nx2 en1 en2 N pw) := by
  refine ⟨fun a x _ => Or.inl Iff.rfl, fun a b h x hx => (h x hx).imp Iff.symm id, fun a b c h k x hx => ?_⟩
  rcases h x hx with h | h
  · rcases k x hx with k | k
    · exact Or.inl (h.trans k)
    · exact Or.inr k
  · exact Or.inr h
theorem nA_L (h1 : ∀ w v, (∀ b, b ∈ w → b < 24) → mPl nx1 w = some v → v < P1) {u : List Nat} (hu : ∀ b, b ∈ u → b < 24) (x : List Nat) : nA P1 P2 nx1 nx2 en1 en2 (nLN P1 P2 nx1 u) x ↔ nE nx1 en1 (x ++ u) = true := by
  unfold nLN nE
  rw [mPl_app]
  cases hm : mPl nx1 u with
  | none =>
    show nA P1 P2 nx1 nx2 en1 en2 (P1 + P2) x ↔ false = true
    unfold nA
    rw [if_neg (by omega), if_neg (by omega)]
    exact ⟨False.elim, fun h => nomatch h⟩
  | some v =>
    have hv := h1 u v hu hm
    show nA P1 P2 nx1 nx2 en1 en2 v x ↔ (match mRun nx1 v x with | some v => en1 v | none => false) = true
    unfold nA
    rw [if_pos hv]
    cases hr : mRun nx1 v x with
    | none => exact ⟨(fun ⟨_, h, _⟩ => nomatch h), (fun h => nomatch h)⟩
    | some y => exact ⟨fun ⟨z, h, e⟩ => by cases h; exact e, fun h => ⟨y, rfl, h⟩⟩
theorem nA_R (h2 : ∀ w v, (∀ b, b ∈ w → b < 24) → mPl nx2 w = some v → v < P2) {u : List Nat} (hu : ∀ b, b ∈ u → b < 24) (x : List Nat) : nA P1 P2 nx1 nx2 en1 en2 (nRN P1 P2 nx2 u) x ↔ nE nx2 en2 (x ++ u) = true := by
  unfold nRN nE
  rw [mPl_app]
  cases hm : mPl nx2 u with
  | none =>
    show nA P1 P2 nx1 nx2 en1 en2 (P1 + P2) x ↔ false = true
    unfold nA
    rw [if_neg (by omega), if_neg (by omega)]
    exact ⟨False.elim, fun h => nomatch h⟩
  | some v =>
    have hv := h2 u v hu hm
    show nA P1 P2 nx1 nx2 en1 en2 (P1 + v) x ↔ (match mRun nx2 v x with | some v => en2 v | none => false) = true
    unfold nA
    rw [if_neg (by omega), if_pos (by omega), Nat.add_sub_cancel_left]
    cases hr : mRun nx2 v x with
    | none => exact ⟨(fun ⟨_, h, _⟩ => nomatch h), (fun h => nomatch h)⟩
    | some y => exact ⟨fun ⟨z, h, e⟩ => by cases h; exact e, fun h => ⟨y, rfl, h⟩⟩
end
/-- the contest's five rows -/
def CR (h : am_H) (cap : Nat) (q : Nat → Nat) : Prop := (∀ k, 6 ≤ k → k ≤ 10 → am_A h 19 k = some (q k) ∧ q k < h.1 ∧ q k ≠ 19 ∧ am_K h (q k) = .inr (0, cap)) ∧ (∀ i j, 6 ≤ i → i ≤ 10 → 6 ≤ j → j ≤ 10 → q i = q j → i = j) ∧ 87 ≤ h.1
/-- only the contest's rows and numbers have changed -/
def frC (q : Nat → Nat) (h h' : am_H) : Prop := h'.1 = h.1 ∧ am_K h' = am_K h ∧ am_J h' = am_J h ∧ am_A h' = am_A h ∧ (∀ o, o ≠ 19 → (∀ k, 6 ≤ k → k ≤ 10 → o ≠ q k) → am_I h' o = am_I h o) ∧ (∀ k, k ≠ 0 → k ≠ 4 → k ≠ 5 → am_I h' 19 k = am_I h 19 k)
theorem frC_r (q : Nat → Nat) (h : am_H) : frC q h h := ⟨rfl, rfl, rfl, rfl, fun _ _ _ => rfl, fun _ _ _ _ => rfl⟩
theorem frC_t {q : Nat → Nat} {h h1 h2 : am_H} (a : frC q h h1) (b : frC q h1 h2) : frC q h h2 := ⟨b.1.trans a.1, b.2.1.trans a.2.1, b.2.2.1.trans a.2.2.1, b.2.2.2.1.trans a.2.2.2.1, fun o ho hq => (b.2.2.2.2.1 o ho hq).trans (a.2.2.2.2.1 o ho hq), fun k h0 h4 h5 => (b.2.2.2.2.2 k h0 h4 h5).trans (a.2.2.2.2.2 k h0 h4 h5)⟩
theorem CR_fr {h h' : am_H} {cap : Nat} {q : Nat → Nat} (c : CR h cap q) (f : frC q h h') : CR h' cap q := by
  obtain ⟨c1, c2, c3⟩ := c
  refine ⟨fun k k6 k10 => ?_, c2, by rw [f.1]; exact c3⟩
  rw [f.2.2.2.1, f.1, f.2.1]; exact c1 k k6 k10
theorem frC_s {h : am_H} {cap : Nat} {q : Nat → Nat} (c : CR h cap q) {k : Nat} (k6 : 6 ≤ k) (k10 : k ≤ 10) (j : Nat) (x : Int32) : frC q h (am_sI h (q k) j x) := ⟨rfl, rfl, rfl, rfl, fun o _ hq => hp_I' _ _ _ (hq k k6 k10), fun k' _ _ _ => by rw [hp_I' _ _ _ (fun e => (c.1 k k6 k10).2.2.1 e.symm)]⟩
theorem frC_n (q : Nat → Nat) (h : am_H) {j : Nat} (hj : j = 0 ∨ j = 4 ∨ j = 5) (x : Int32) : frC q h (am_sI h 19 j x) := ⟨rfl, rfl, rfl, rfl, fun o h19 _ => hp_I' _ _ _ h19, fun k h0 h4 h5 => by rw [hp_I, upd_ne (by omega)]⟩
/-- the chief of a node -/
theorem ch8_loop {cap : Nat} {q : Nat → Nat} {W N : Nat} {ρ : Nat → Nat} {E : Nat → Nat → Prop} (hE : Eqv E) (hN : N ≤ W) (hcap : W + 1 ≤ cap) (hc2 : cap ≤ 100000) (z : Nat) (a1 : Int32) : ∀ (d top hops : Nat) (χ : Nat → Nat) (h : am_H), N ≤ ρ top + d → hops ≤ ρ top → top ≤ W → CR h cap q → am_I h 19 3 = nI W → UF W χ ρ N E → (∀ y, y ≤ W → am_I h (q 6) y = nI (χ y)) → E z top →
    ∃ χ' t h', (∀ F, g_X1_chiefOf (F + d + 1) 0 a1 (nI top) (nI hops) h = some (nI t, h')) ∧ UF W χ' ρ N E ∧ χ' t = t ∧ t ≤ W ∧ E z t ∧ (∀ y, y ≤ W → am_I h' (q 6) y = nI (χ' y)) ∧ frC q h h' ∧ (∀ o, o ≠ q 6 → am_I h' o = am_I h o) ∧ (∀ y, χ y = y → χ' y = y) := by
  intro d
  induction d with
  | zero =>
    intro top hops χ h hd hh ht c h3 u x e
    have rt := u.2.2.1 top ht
    obtain ⟨a6, l6, n6, K6⟩ := c.1 6 (by decide) (by decide)
    have mm : ¬ nI W < nI hops := by rw [nI_ltI (by omega) (by omega)]; omega
    have vt : am_vp (nI top) cap = true := hp_vp (by omega) (by omega)
    have ct : Int32.toNatClampNeg (nI top) = top := nI_clamp (by omega)
    have root : χ top = top := by
      apply Classical.byContradiction
      intro hne
      have := u.2.1 top ht hne
      have := u.2.2.1 (χ top) (u.1 top ht)
      omega
    refine ⟨χ, top, h, fun F => ?_, u, root, ht, e, x, frC_r q h, fun _ _ => rfl, fun _ h => h⟩
    rw [show F + 0 + 1 = F + 1 from rfl, g_X1_chiefOf, h3, if_neg mm, a6, b_some, hp_ln K6, b_some, vt, cond_true, ct, x top ht, root, if_pos rfl]
  | succ d ih =>
    intro top hops χ h hd hh ht c h3 u x e
    have rt := u.2.2.1 top ht
    obtain ⟨a6, l6, n6, K6⟩ := c.1 6 (by decide) (by decide)
    have mm : ¬ nI W < nI hops := by rw [nI_ltI (by omega) (by omega)]; omega
    have vt : am_vp (nI top) cap = true := hp_vp (by omega) (by omega)
    have ct : Int32.toNatClampNeg (nI top) = top := nI_clamp (by omega)
    by_cases root : χ top = top
    · refine ⟨χ, top, h, fun F => ?_, u, root, ht, e, x, frC_r q h, fun _ _ => rfl, fun _ h => h⟩
      rw [show F + (d + 1) + 1 = (F + d + 1) + 1 from rfl, g_X1_chiefOf, h3, if_neg mm, a6, b_some, hp_ln K6, b_some, vt, cond_true, ct, x top ht, root, if_pos rfl]
    · have c1 := u.1 top ht
      have c2 := u.1 _ c1
      have r1 := u.2.1 top ht root
      have r2 : ρ (χ top) ≤ ρ (χ (χ top)) := by
        by_cases cc : χ (χ top) = χ top
        · rw [cc]; exact Nat.le_refl _
        · exact Nat.le_of_lt (u.2.1 _ c1 cc)
      have vx : am_vp (nI (χ top)) cap = true := hp_vp (by omega) (by omega)
      have cx : Int32.toNatClampNeg (nI (χ top)) = χ top := nI_clamp (by omega)
      have ne : ¬ nI (χ top) = nI top := fun e => root ((nI_inj (by omega) (by omega)).mp e)
      have f1 := frC_s c (k := 6) (by decide) (by decide) top (nI (χ (χ top)))
      obtain ⟨χ', t, h', st, u', rt', tW, et, x', f', o', ro'⟩ := ih (χ (χ top)) (hops + 1) (updN χ top (χ (χ top))) (am_sI h (q 6) top (nI (χ (χ top)))) (by omega) (by omega) c2 (CR_fr c f1) (by rw [hp_I' _ _ _ (fun e => n6 e.symm)]; exact h3) (UF_half hE u ht root) (by
        intro y hy
        rw [hp_I]
        by_cases cy : y = top
        · rw [cy, upd_at, updN_at]
        · rw [upd_ne cy, updN_ne cy]; exact x y hy) (hE.2.2 _ _ _ e (hE.2.2 _ _ _ (u.2.2.2.2 top ht) (u.2.2.2.2 _ c1)))
      refine ⟨χ', t, h', fun F => ?_, u', rt', tW, et, x', frC_t f1 f', fun o ho => (o' o ho).trans (hp_I' _ _ _ ho), fun y hy => ro' y (by rw [updN_ne (fun e => root (by rw [← e]; exact hy))]; exact hy)⟩
      have a6' : am_A (am_sI h (q 6) top (nI (χ (χ top)))) 19 6 = some (q 6) := a6
      have K6' : am_K (am_sI h (q 6) top (nI (χ (χ top)))) (q 6) = .inr (0, cap) := K6
      rw [show F + (d + 1) + 1 = (F + d + 1) + 1 from rfl, g_X1_chiefOf, h3, if_neg mm]
      simp only [a6, b_some, hp_ln K6, vt, cond_true, ct, x top ht, if_neg ne, vx, cx, x _ c1, a6', hp_ln K6', hp_I, upd_at, hp_1]
      exact st F
theorem ch_8 {cap : Nat} {q : Nat → Nat} {W N : Nat} {χ ρ : Nat → Nat} {E : Nat → Nat → Prop} (hE : Eqv E) (hN : N ≤ W) (hcap : W + 1 ≤ cap) (hc2 : cap ≤ 100000) {z : Nat} (hz : z ≤ W) {h : am_H} (c : CR h cap q) (h3 : am_I h 19 3 = nI W) (u : UF W χ ρ N E) (x : ∀ y, y ≤ W → am_I h (q 6) y = nI (χ y)) :
    ∃ χ' t h', (∀ F, N + 1 ≤ F → f_X1_chiefOf F (nI z) h = some (nI t, h')) ∧ UF W χ' ρ N E ∧ χ' t = t ∧ t ≤ W ∧ E z t ∧ (∀ y, y ≤ W → am_I h' (q 6) y = nI (χ' y)) ∧ frC q h h' ∧ (∀ o, o ≠ q 6 → am_I h' o = am_I h o) ∧ (∀ y, χ y = y → χ' y = y) := by
  obtain ⟨χ', t, h', st, rest⟩ := ch8_loop hE hN hcap hc2 z (nI z) N z 0 χ h (by omega) (Nat.zero_le _) hz c h3 u x (hE.1 z)
  refine ⟨χ', t, h', fun F hF => ?_, rest⟩
  have := st (F - N - 1)
  rw [show F - N - 1 + N + 1 = F from by omega] at this
  exact this
