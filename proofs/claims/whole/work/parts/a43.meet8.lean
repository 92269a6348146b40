/-! ===== the first row that tells two machines apart: a meeting of two nodes ===== -/
section
variable {P1 P2 : Nat} {nx1 nx2 : Nat → Option Nat} {en1 en2 : Nat → Bool}
/-- the contest's two machines -/
def CM (h : am_H) (m1 e1 r1 m2 e2 r2 P1 P2 : Nat) (nx1 nx2 : Nat → Option Nat) (en1 en2 : Nat → Bool) : Prop := am_A h 19 1 = some m1 ∧ am_A h 19 2 = some m2 ∧ M8 h m1 e1 r1 P1 nx1 en1 ∧ M8 h m2 e2 r2 P2 nx2 en2 ∧ am_I h 19 3 = nI (P1 + P2) ∧ (1 ≤ P1 ∧ P1 ≤ 4096 ∧ 1 ≤ P2 ∧ P2 ≤ 4096) ∧ (∀ j, j < 24 * P1 → ∀ i, nx1 j = some i → i < P1) ∧ (∀ j, j < 24 * P2 → ∀ i, nx2 j = some i → i < P2)
def sepC (q : Nat → Nat) (o : Nat) : Prop := o ≠ 19 ∧ ∀ k, 6 ≤ k → k ≤ 10 → o ≠ q k
theorem M8_frC {q : Nat → Nat} {h h' : am_H} {m e r P : Nat} {nx : Nat → Option Nat} {en : Nat → Bool} (a : M8 h m e r P nx en) (f : frC q h h') (sm : sepC q m) (se : sepC q e) (sr : sepC q r) : M8 h' m e r P nx en := by
  obtain ⟨a1, a2, a3, a4, a5, a6, a7, a8⟩ := a
  obtain ⟨f1, f2, f3, f4, f5, f6⟩ := f
  refine ⟨by rw [f2]; exact a1, by rw [f5 m sm.1 sm.2]; exact a2, by rw [f4]; exact a3, by rw [f4]; exact a4, by rw [f2]; exact a5, by rw [f2]; exact a6, by rw [f5 e se.1 se.2]; exact a7, by rw [f5 r sr.1 sr.2]; exact a8⟩
def sep6 (q : Nat → Nat) (m1 e1 r1 m2 e2 r2 : Nat) : Prop := sepC q m1 ∧ sepC q e1 ∧ sepC q r1 ∧ sepC q m2 ∧ sepC q e2 ∧ sepC q r2
theorem CM_fr {q : Nat → Nat} {h h' : am_H} {m1 e1 r1 m2 e2 r2 : Nat} (a : CM h m1 e1 r1 m2 e2 r2 P1 P2 nx1 nx2 en1 en2) (f : frC q h h') (s : sep6 q m1 e1 r1 m2 e2 r2) : CM h' m1 e1 r1 m2 e2 r2 P1 P2 nx1 nx2 en1 en2 := by
  obtain ⟨a1, a2, a3, a4, a5, a6, a7, a8⟩ := a
  obtain ⟨s1, s2, s3, s4, s5, s6⟩ := s
  refine ⟨by rw [f.2.2.2.1]; exact a1, by rw [f.2.2.2.1]; exact a2, M8_frC a3 f s1 s2 s3, M8_frC a4 f s4 s5 s6, by rw [f.2.2.2.2.2 3 (by decide) (by decide) (by decide)]; exact a5, a6, a7, a8⟩
theorem mPl_lt {P : Nat} {nx : Nat → Option Nat} (hP : 1 ≤ P) (hn : ∀ j, j < 24 * P → ∀ i, nx j = some i → i < P) : ∀ w v, (∀ b, b ∈ w → b < 24) → mPl nx w = some v → v < P
  | [], v, _, h => by
    have : 0 = v := Option.some.inj h
    omega
  | a :: w, v, h24, h => by
    cases hm : mPl nx w with
    | none => rw [show mPl nx (a :: w) = (mPl nx w).bind _ from rfl, hm] at h; cases h
    | some u =>
      rw [show mPl nx (a :: w) = (mPl nx w).bind _ from rfl, hm] at h
      have hu := mPl_lt hP hn w u (fun b hb => h24 b (List.mem_cons_of_mem _ hb)) hm
      have ha := h24 a (List.mem_cons_self ..)
      exact hn (24 * u + a) (by omega) v h
theorem oI_nn {i : Nat} (h : i < 2 ^ 31) : (0 : Int32) ≤ oI (some i) := by
  show nI 0 ≤ nI i
  rw [nI_leI (by decide) h]; omega
theorem lb_8 {h : am_H} {m1 e1 r1 m2 e2 r2 : Nat} (c : CM h m1 e1 r1 m2 e2 r2 P1 P2 nx1 nx2 en1 en2) {w : List Nat} (hw : ∀ b, b ∈ w → b < 24) {a : Nat} (ha : a < 24) : f_X1_leftBehind (nI (nLN P1 P2 nx1 w)) (nI a) h = some (nI (nLN P1 P2 nx1 (a :: w)), h) := by
  obtain ⟨a1, a2, ⟨k1, k2, k3, k4, k5, k6, k7, k8⟩, _, a5, ⟨b1, b2, b3, b4⟩, a7, a8⟩ := c
  unfold f_X1_leftBehind nLN
  rw [show mPl nx1 (a :: w) = (mPl nx1 w).bind (fun v => nx1 (24 * v + a)) from rfl]
  cases hm : mPl nx1 w with
  | none =>
    show am_b2 (if nI (P1 + P2) = am_I h 19 3 then _ else _) _ = some (nI (P1 + P2), h)
    rw [a5, if_pos rfl, b2s, if_neg (by decide), b_some, a5]
  | some v =>
    have hv := mPl_lt b1 a7 w v hw hm
    show am_b2 (if nI v = am_I h 19 3 then _ else _) _ = some (nI (match nx1 (24 * v + a) with | some v => v | none => P1 + P2), h)
    have ix : (Int32.ofInt 24) * nI v + nI a = nI (24 * v + a) := by rw [show Int32.ofInt 24 = nI 24 from rfl, nI_mul, nI_add]
    have be : f_X3_behind m1 (nI v) (nI a) h = some (oI (nx1 (24 * v + a)), h) := by
      unfold f_X3_behind
      rw [hp_isO k1, cond_true, k4, b_some, hp_ln k6, b_some, ix, hp_vp (by omega) (by omega), cond_true, nI_clamp (by omega), k8 _ (by omega)]
    rw [a5, if_neg (fun e => by have := (nI_inj (by omega) (by omega)).mp e; omega), a1, b_some, hp_isO k1, cond_true, be, b2s, b2s]
    cases hx : nx1 (24 * v + a) with
    | none => rw [if_neg (show ¬ 0 ≤ oI none by decide), a5, b_some]
    | some i =>
      have := a7 _ (by omega) i hx
      rw [if_pos (oI_nn (by omega)), b_some]; rfl
theorem rb_8 {h : am_H} {m1 e1 r1 m2 e2 r2 : Nat} (c : CM h m1 e1 r1 m2 e2 r2 P1 P2 nx1 nx2 en1 en2) {w : List Nat} (hw : ∀ b, b ∈ w → b < 24) {a : Nat} (ha : a < 24) : f_X1_rightBehind (nI (nRN P1 P2 nx2 w)) (nI a) h = some (nI (nRN P1 P2 nx2 (a :: w)), h) := by
  obtain ⟨a1, a2, ⟨l1, l2, l3, l4, l5, l6, l7, l8⟩, ⟨k1, k2, k3, k4, k5, k6, k7, k8⟩, a5, ⟨b1, b2, b3, b4⟩, a7, a8⟩ := c
  unfold f_X1_rightBehind nRN
  rw [show mPl nx2 (a :: w) = (mPl nx2 w).bind (fun v => nx2 (24 * v + a)) from rfl]
  cases hm : mPl nx2 w with
  | none =>
    show am_b2 (if nI (P1 + P2) = am_I h 19 3 then _ else _) _ = some (nI (P1 + P2), h)
    rw [a5, if_pos rfl, b2s, if_neg (by decide), b_some, a5]
  | some v =>
    have hv := mPl_lt b3 a8 w v hw hm
    show am_b2 (if nI (P1 + v) = am_I h 19 3 then _ else _) _ = some (nI (match nx2 (24 * v + a) with | some v => P1 + v | none => P1 + P2), h)
    have ix : (Int32.ofInt 24) * nI v + nI a = nI (24 * v + a) := by rw [show Int32.ofInt 24 = nI 24 from rfl, nI_mul, nI_add]
    have sb : nI (P1 + v) - nI P1 = nI v := by rw [nI_subN (by omega)]; congr 1; omega
    have be : f_X3_behind m2 (nI v) (nI a) h = some (oI (nx2 (24 * v + a)), h) := by
      unfold f_X3_behind
      rw [hp_isO k1, cond_true, k4, b_some, hp_ln k6, b_some, ix, hp_vp (by omega) (by omega), cond_true, nI_clamp (by omega), k8 _ (by omega)]
    rw [a5, if_neg (fun e => by have := (nI_inj (by omega) (by omega)).mp e; omega), a2, b_some, a1, b_some, hp_isO l1, cond_true, hp_isO k1, cond_true, l2, sb, be, b2s, b2s]
    cases hx : nx2 (24 * v + a) with
    | none => rw [if_neg (show ¬ 0 ≤ oI none by decide), a5, b_some]
    | some i =>
      have := a8 _ (by omega) i hx
      rw [if_pos (oI_nn (by omega)), a1, b_some, hp_isO l1, cond_true, l2, b_some, show oI (some i) = nI i from rfl, nI_add]
/-- the contest's rows hold the kept pairs -/
def C8 (P1 P2 : Nat) (nx1 nx2 : Nat → Option Nat) (h : am_H) (cap : Nat) (q : Nat → Nat) (N : Nat) (pw : Nat → List Nat) (fr sb : Nat → Int32) (χ : Nat → Nat) : Prop := CR h cap q ∧ am_I h 19 4 = nI N ∧ (∀ i, i < N → am_I h (q 7) i = nI (nLN P1 P2 nx1 (pw i)) ∧ am_I h (q 8) i = nI (nRN P1 P2 nx2 (pw i)) ∧ am_I h (q 9) i = fr i ∧ am_I h (q 10) i = sb i) ∧ (∀ y, y ≤ P1 + P2 → am_I h (q 6) y = nI (χ y))
end
