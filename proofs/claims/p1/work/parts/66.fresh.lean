/-! ===== p1: find ===== -/
def sv8 (n : Nat) (a1 a2 : Int32) (h13 : am_H) : Option ((Int32 × am_H) × Nat × Nat) := ((if (am_I h13 37 1) = 0 then (if a2 = 0 then bif am_vp a1 5 then (some (((am_I h13 38 (Int32.toNatClampNeg a1)), h13), 0, 0)) else none else bif am_vp a1 5 then ((if 0 ≤ (am_I h13 39 (Int32.toNatClampNeg a1)) then am_b2 ((if a2 = (Int32.ofInt 1) then am_b2 (f_X6_depthOf n 37 (am_I h13 39 (Int32.toNatClampNeg a1)) h13) fun r33 h34 => (some (r33, h34)) else am_b2 (f_X6_stepTo n 37 (am_I h13 39 (Int32.toNatClampNeg a1)) (a2 - (Int32.ofInt 10)) h13) fun r30 h31 => (some (r30, h31)))) fun y26 h27 => (some ((y26, h27), 0, 0)) else some (((Int32.ofInt (-1)), h13), 0, 0))) else none) else some (((Int32.ofInt (-2)), h13), 0, 0)))
theorem fnd8 (n : Nat) (a1 a2 : Int32) (h : am_H) (g1 : ¬ a1 < 0) (g2 : ¬ Int32.ofInt 5 ≤ a1) (k0 : ¬ a2 = 0) (k1 : ¬ a2 = Int32.ofInt 1) (k2 : ¬ a2 < Int32.ofInt 10) (k3 : ¬ Int32.ofInt 99 < a2) : f_X8_find n a1 a2 h = am_bc (f_X8_surveyNow n h) fun r12 h13 => (bif Nat.beq r12 37 then sv8 n a1 a2 h13 else none) := by
  unfold f_X8_find
  rw [if_neg g1, if_neg g2]
  show (if a2 = 0 then _ else (if a2 = (Int32.ofInt 1) then _ else am_b2 (f_X8_isItem a2 h) _)) = _
  rw [if_neg k0, if_neg k1]
  unfold f_X8_isItem
  rw [if_neg k2, if_neg k3]
  rfl
theorem fnd8n (n : Nat) (a1 a2 : Int32) (h : am_H) (k0 : ¬ a2 = 0) (k1 : ¬ a2 = Int32.ofInt 1) (k2 : a2 < Int32.ofInt 10 ∨ Int32.ofInt 99 < a2) : f_X8_find n a1 a2 h = some ((Int32.ofInt (-102), h), 0, 0) := by
  unfold f_X8_find
  by_cases g1 : a1 < 0
  · rw [if_pos g1]
  rw [if_neg g1]
  by_cases g2 : Int32.ofInt 5 ≤ a1
  · rw [if_pos g2]
  rw [if_neg g2]
  show (if a2 = 0 then _ else (if a2 = (Int32.ofInt 1) then _ else am_b2 (f_X8_isItem a2 h) _)) = _
  rw [if_neg k0, if_neg k1]
  unfold f_X8_isItem
  by_cases k : a2 < Int32.ofInt 10
  · rw [if_pos k]; rfl
  · rw [if_neg k, if_pos (k2.resolve_left k)]; rfl
theorem sv8_ok (n j k : Nat) (h : am_H) (hj : j < 5) (hk : 10 ≤ k) (hk2 : k ≤ 99) (e1 : am_I h 37 1 = 0) (e2 : am_I h 39 j = Int32.ofInt (-1) ∨ am_I h 39 j = 0 ∧ f_X6_depthOf n 37 0 h = some (0, h)) : sv8 n (nI j) (nI k) h = some ((Int32.ofInt (-1), h), 0, 0) := by
  unfold sv8
  rw [if_pos e1, if_neg (nI_ne0 (by omega) (by omega)), hp_vp hj (by decide), nI_clamp (by omega)]
  show (if 0 ≤ am_I h 39 j then _ else _) = _
  rcases e2 with e2 | ⟨e2, e3⟩
  · rw [e2, if_neg (by decide)]
  · rw [e2, if_pos (Int32.le_refl _), if_neg (show ¬ nI k = Int32.ofInt 1 from fun e => by have := (nI_eq (a := k) (b := 1) (by omega) (by decide)).mp e; omega)]
    unfold f_X6_stepTo
    have this : ∀ k, k < 100 → 10 ≤ k → ¬ 0 ≤ (((0 : Int32) - (Int32.ofInt 1)) - (nI k - Int32.ofInt 10)) := by decide +kernel
    rw [e3, b2s, if_neg (this k (by omega) hk)]
    rfl
theorem fnd9 (j k : Nat) (hj : j < 5) (hk : 10 ≤ k) (hk2 : k ≤ 99) (n : Nat) (h hA hB hC hD hE : am_H) (r : Int64) (b : Int32) (e1 : f_X9_meetAll (n + 4) h = some ((), hA)) (e2 : am_I hA 62 51 = 0) (e3 : f_X9_layFine (n + 4) hA = some ((), hB)) (e4 : f_X9_asState (n + 4) hB = some (r, hC)) (e5 : am_I hC 62 50 = Int32.ofInt 1) (e6 : f_X9_isStateSo (n + 3) (Int32.ofInt 0) (nI j) hC = some (b, hD)) (e7 : am_I hD 62 50 = Int32.ofInt 1) (e8 : f_X9_layState (n + 2) r hD = some ((), hE)) (e9 : b = 0 ∨ am_I hE 92 0 = Int32.ofInt (-1)) : f_X9_find (n + 4) (nI j) (nI k) h = some (Int32.ofInt (-1), hE) := by
  have k0 : ¬ nI k = 0 := nI_ne0 (by omega) (by omega)
  have k1 : ¬ nI k = Int32.ofInt 1 := fun e => by have := (nI_eq (a := k) (b := 1) (by omega) (by decide)).mp e; omega
  unfold f_X9_find
  rw [p9_w1 h (show ¬ nI j < Int32.ofInt 0 from nI_nlt (a := j) (b := 0) (by omega) (by omega)) (show ¬ Int32.ofInt 4 < nI j from nI_nlt (a := 4) (b := j) (by omega) (by decide)), b2s, if_neg (by decide), p9_w0 h (Or.inr (show Int32.ofInt 1 < nI k from nI_lt (a := 1) (b := k) (by omega) (by omega))), b2s, if_pos (by decide), p9_w1 h (show ¬ nI k < Int32.ofInt 10 from nI_nlt (a := k) (b := 10) (by omega) (by omega)) (show ¬ Int32.ofInt 99 < nI k from nI_nlt (a := 99) (b := k) (by omega) (by decide)), b2s, if_neg (by decide), e1, b2s, if_pos e2, e3, b2s, e4, b2s]
  show (if am_I hC 62 50 ≤ Int32.ofInt 0 then _ else am_b2 (f_X9_isStateSo (n + 3) (Int32.ofInt 0) (nI j) hC) fun r113 h114 => (am_b2 (if r113 = 0 then some (Int32.ofInt 0, Int32.ofInt (-1)) else Option.bind (if Int32.ofInt (-1) = Int32.ofInt (-1) then some (Int32.ofInt 0) else some (Int32.ofInt (-1))) fun y120 => some (Int32.ofInt 0 + Int32.ofInt 1, y120)) fun y116 y117 => g_X9_find (n + 3) 0 (nI j) (nI k) r y116 y117 (Int32.ofInt 0 + Int32.ofInt 1) 0 0 h114)) = _
  rw [e5, if_neg (by decide), e6, b2s]
  by_cases hb : b = 0
  · rw [if_pos hb, b2s]
    show (if am_I hD 62 50 ≤ Int32.ofInt 0 + Int32.ofInt 1 then am_b2 (f_X9_layState (n + 2) r hD) fun r2 h3 => (if nI k = 0 then _ else (if Int32.ofInt (-1) = Int32.ofInt (-1) then Option.bind ((if nI k = 0 then some _ else some (Int32.ofInt (-1)))) fun y60 => (some (y60, h3)) else _)) else _) = _
    rw [e7, if_pos (by decide), e8, b2s, if_neg k0, if_pos rfl, if_neg k0]
    rfl
  · rw [if_neg hb, if_pos rfl, b_some, b2s]
    show (if am_I hD 62 50 ≤ Int32.ofInt 0 + Int32.ofInt 1 then am_b2 (f_X9_layState (n + 2) r hD) fun r2 h3 => (if nI k = 0 then _ else (if Int32.ofInt 0 = Int32.ofInt (-1) then _ else g_X9_find (n + 2) 1 (nI j) (nI k) r (Int32.ofInt 0 + Int32.ofInt 1) (Int32.ofInt 0) (Int32.ofInt 0) (Int32.ofInt 0) 0 h3)) else _) = _
    rw [e7, if_pos (by decide), e8, b2s, if_neg k0, if_neg (by decide)]
    show (if am_I hE 92 0 = Int32.ofInt (-1) then (if nI k = Int32.ofInt 1 then _ else g_X9_find (n + 1) 2 (nI j) (nI k) r (Int32.ofInt 0 + Int32.ofInt 1) (Int32.ofInt 0) (Int32.ofInt 0) (Int32.ofInt 0) (Int32.ofInt 0 - Int32.ofInt 1) hE) else _) = _
    rw [if_pos (e9.resolve_left hb), if_neg k1]
    have t1 : ∀ k, k < 100 → 10 ≤ k → Int32.ofInt 0 - Int32.ofInt 1 ≤ nI k - Int32.ofInt 10 ∧ Int32.ofInt 0 ≤ nI k - Int32.ofInt 10 := by decide +kernel
    show (if Int32.ofInt 0 - Int32.ofInt 1 ≤ nI k - Int32.ofInt 10 then Option.bind (if Int32.ofInt 0 ≤ nI k - Int32.ofInt 10 then some (Int32.ofInt (-1)) else _) fun y2 => some (y2, hE) else _) = _
    rw [if_pos (t1 k (by omega) hk).1, if_pos (t1 k (by omega) hk).2]
    rfl
def ck26 (n j : Nat) (h : am_H) : Bool := match f_X9_meetAll (n + 4) h with
  | none => false
  | some (_, hA) => decide (am_I hA 62 51 = 0) && match f_X9_layFine (n + 4) hA with
    | none => false
    | some (_, hB) => match f_X9_asState (n + 4) hB with
      | none => false
      | some (r, hC) => decide (am_I hC 62 50 = Int32.ofInt 1) && match f_X9_isStateSo (n + 3) (Int32.ofInt 0) (nI j) hC with
        | none => false
        | some (b, hD) => decide (am_I hD 62 50 = Int32.ofInt 1) && match f_X9_layState (n + 2) r hD with
          | none => false
          | some (_, hE) => decide (b = 0) || decide (am_I hE 92 0 = Int32.ofInt (-1))
theorem ck26_ok (n j k : Nat) (hj : j < 5) (hk : 10 ≤ k) (hk2 : k ≤ 99) (h : am_H) (hc : ck26 n j h = true) : ∃ hE, f_X9_find (n + 4) (nI j) (nI k) h = some (Int32.ofInt (-1), hE) := by
  unfold ck26 at hc
  cases e1 : f_X9_meetAll (n + 4) h with
  | none => rw [e1] at hc; cases hc
  | some p =>
    obtain ⟨u, hA⟩ := p
    rw [e1] at hc
    simp only [Bool.and_eq_true, decide_eq_true_eq] at hc
    obtain ⟨c1, hc⟩ := hc
    cases e3 : f_X9_layFine (n + 4) hA with
    | none => rw [e3] at hc; cases hc
    | some p =>
      obtain ⟨u3, hB⟩ := p
      rw [e3] at hc
      simp only [] at hc
      cases e4 : f_X9_asState (n + 4) hB with
      | none => rw [e4] at hc; cases hc
      | some p =>
        obtain ⟨r, hC⟩ := p
        rw [e4] at hc
        simp only [Bool.and_eq_true, decide_eq_true_eq] at hc
        obtain ⟨c2, hc⟩ := hc
        cases e6 : f_X9_isStateSo (n + 3) (Int32.ofInt 0) (nI j) hC with
        | none => rw [e6] at hc; cases hc
        | some p =>
          obtain ⟨b, hD⟩ := p
          rw [e6] at hc
          simp only [Bool.and_eq_true, decide_eq_true_eq] at hc
          obtain ⟨c3, hc⟩ := hc
          cases e8 : f_X9_layState (n + 2) r hD with
          | none => rw [e8] at hc; cases hc
          | some p =>
            obtain ⟨u8, hE⟩ := p
            rw [e8] at hc
            simp only [Bool.or_eq_true, decide_eq_true_eq] at hc
            exact ⟨hE, fnd9 j k hj hk hk2 n h hA hB hC hD hE r b e1 c1 e3 e4 c2 e6 c3 e8 hc⟩
