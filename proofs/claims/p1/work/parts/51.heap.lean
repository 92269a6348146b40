/-! ===== the heap's algebra ===== -/
theorem hp_upd_id (f : Nat → Int32) (j : Nat) : upd f j (f j) = f := by
  funext k
  by_cases h : k = j <;> simp [upd, h]
theorem hp_up_id {α : Type} (f : Nat → α) (k : Nat) : va_up f k (f k) = f := by
  funext j
  by_cases h : j = k <;> simp [va_up, h]
theorem hp_up_up {α : Type} (f : Nat → α) (k : Nat) (a b : α) : va_up (va_up f k a) k b = va_up f k b := by
  funext j
  by_cases h : j = k <;> simp [va_up, h]
theorem hp_I (h : am_H) (o j : Nat) (x : Int32) : am_I (am_sI h o j x) o = upd (am_I h o) j x := by
  simp [am_sI, am_I, va_up]
theorem hp_I' (h : am_H) {o q : Nat} (j : Nat) (x : Int32) (hq : q ≠ o) : am_I (am_sI h o j x) q = am_I h q := by
  simp [am_sI, am_I, va_up, hq]
theorem hp_IR (h : am_H) (o : Nat) (f : Nat → Int32) : am_I (am_sR h o f) o = f := by
  simp [am_sR, am_I, va_up]
theorem hp_IR' (h : am_H) {o q : Nat} (f : Nat → Int32) (hq : q ≠ o) : am_I (am_sR h o f) q = am_I h q := by
  simp [am_sR, am_I, va_up, hq]
theorem hp_J (h : am_H) (o j : Nat) (x : Int64) : am_J (am_sJ h o j x) o = vp_updL (am_J h o) j x := by
  simp [am_sJ, am_J, va_up]
theorem hp_J' (h : am_H) {o q : Nat} (j : Nat) (x : Int64) (hq : q ≠ o) : am_J (am_sJ h o j x) q = am_J h q := by
  simp [am_sJ, am_J, va_up, hq]
theorem hp_sI_id (h : am_H) (o j : Nat) : am_sI h o j (am_I h o j) = h := by
  unfold am_sI am_I
  rw [hp_upd_id, hp_up_id]
theorem hp_sR_id (h : am_H) (o : Nat) : am_sR h o (am_I h o) = h := by
  unfold am_sR am_I
  rw [hp_up_id]
theorem hp_sR_sI (h : am_H) (o j : Nat) (x : Int32) (f : Nat → Int32) : am_sR (am_sI h o j x) o f = am_sR h o f := by
  unfold am_sR am_sI
  rw [hp_up_up]
theorem hp_sR_sR (h : am_H) (o : Nat) (f g : Nat → Int32) : am_sR (am_sR h o f) o g = am_sR h o g := by
  unfold am_sR
  rw [hp_up_up]
theorem hp_sI_R (h : am_H) (o j : Nat) (x : Int32) : am_sI h o j x = am_sR h o (upd (am_I h o) j x) := rfl
/-- a row filled from a to b -/
def hp_fl (r : Nat → Int32) (a b : Nat) (x : Int32) : Nat → Int32 := fun j => if a ≤ j ∧ j < b then x else r j
theorem fl_nil (r : Nat → Int32) (a : Nat) (x : Int32) : hp_fl r a a x = r := by
  funext j
  unfold hp_fl
  rw [if_neg (by omega)]
theorem fl_step (r : Nat → Int32) {a b : Nat} (x : Int32) (h : a < b) : hp_fl (upd r a x) (a + 1) b x = hp_fl r a b x := by
  funext j
  unfold hp_fl upd
  by_cases h1 : j = a
  · subst h1
    rw [if_neg (by omega), if_pos rfl, if_pos (by omega)]
  · by_cases h2 : a + 1 ≤ j ∧ j < b
    · rw [if_pos h2, if_pos (by omega)]
    · rw [if_neg h2, if_neg h1, if_neg (by omega)]
theorem fl_id {r : Nat → Int32} {a b : Nat} {x : Int32} (h : ∀ j, a ≤ j → j < b → r j = x) : hp_fl r a b x = r := by
  funext j
  unfold hp_fl
  by_cases h2 : a ≤ j ∧ j < b
  · rw [if_pos h2, h j h2.1 h2.2]
  · rw [if_neg h2]
theorem hp_vp {k n : Nat} (h : k < n) (hn : n < 2 ^ 31) : am_vp (nI k) n = true := by
  unfold am_vp
  rw [nI_clamp (by omega)]
  simp only [Bool.and_eq_true, Bool.not_eq_true', decide_eq_false_iff_not]
  exact ⟨nI_pos (by omega), Nat.ble_eq_true_of_le h⟩
theorem hp_1 (k : Nat) : nI k + Int32.ofInt 1 = nI (k + 1) := nI_add k 1
theorem hp_ln {h : am_H} {t q n : Nat} (e : am_K h q = .inr (t, n)) : am_ln h t q = some n := by
  unfold am_ln
  rw [e]
  simp
theorem hp_isO {h : am_H} {o ci : Nat} (e : am_K h o = .inl ci) : am_isO h o ci = true := by
  unfold am_isO
  rw [e]
  simp
/-- Arrays.fill -/
theorem pf_fill {q N : Nat} {x : Int32} (hN : N < 2 ^ 31) : ∀ (d i n : Nat) (h : am_H), am_K h q = .inr (0, N) → i + d = N → g_J7_fill_53178 (n + d + 1) 0 q x (nI i) (nI N) h = some ((), am_sR h q (hp_fl (am_I h q) i N x)) := by
  intro d
  induction d with
  | zero =>
    intro i n h hK hi
    have : i = N := by omega
    subst this
    show (if nI i ≤ nI i then _ else _) = _
    rw [if_pos (nI_le (Nat.le_refl _) hN), fl_nil, hp_sR_id]
  | succ d ih =>
    intro i n h hK hi
    show (if nI N ≤ nI i then _ else _) = _
    rw [if_neg (nI_ge (by omega) hN), hp_ln hK]
    show (bif am_vp (nI i) N then _ else _) = _
    rw [hp_vp (by omega) hN]
    show g_J7_fill_53178 (n + d + 1) 0 q x (nI i + Int32.ofInt 1) (nI N) (am_sI h q (nI i).toNatClampNeg x) = _
    rw [hp_1, nI_clamp (by omega), ih (i + 1) n (am_sI h q i x) hK (by omega), hp_I, fl_step _ _ (by omega), hp_sR_sI]
theorem pf_fillF {q N : Nat} {x : Int32} (hN : N < 2 ^ 31) (n : Nat) (h : am_H) (hK : am_K h q = .inr (0, N)) : f_J7_fill_53178 (n + N + 1) q x h = some ((), am_sR h q (hp_fl (am_I h q) 0 N x)) := by
  unfold f_J7_fill_53178
  rw [hp_ln hK]
  exact pf_fill hN N 0 n h hK (by omega)
