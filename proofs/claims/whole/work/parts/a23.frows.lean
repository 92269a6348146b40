/-! ===== the folder's rows: new cells, copies, growth ===== -/
theorem nw_K (h : am_H) (kd : Nat ⊕ (Nat × Nat)) (f : Nat → Int32) {o : Nat} (ho : o ≠ h.1) : am_K (am_new h kd f) o = am_K h o := by
  show va_up h.2.1 h.1 kd o = _
  unfold va_up; rw [if_neg ho]; rfl
theorem nw_K0 (h : am_H) (kd : Nat ⊕ (Nat × Nat)) (f : Nat → Int32) : am_K (am_new h kd f) h.1 = kd := by
  show va_up h.2.1 h.1 kd h.1 = _
  unfold va_up; rw [if_pos rfl]
theorem nw_I (h : am_H) (kd : Nat ⊕ (Nat × Nat)) (f : Nat → Int32) {o : Nat} (ho : o ≠ h.1) : am_I (am_new h kd f) o = am_I h o := by
  show va_up h.2.2.1 h.1 f o = _
  unfold va_up; rw [if_neg ho]; rfl
theorem nw_I0 (h : am_H) (kd : Nat ⊕ (Nat × Nat)) (f : Nat → Int32) : am_I (am_new h kd f) h.1 = f := by
  show va_up h.2.2.1 h.1 f h.1 = _
  unfold va_up; rw [if_pos rfl]
theorem nw_J (h : am_H) (kd : Nat ⊕ (Nat × Nat)) (f : Nat → Int32) {o : Nat} (ho : o ≠ h.1) : am_J (am_new h kd f) o = am_J h o := by
  show va_up h.2.2.2.1 h.1 _ o = _
  unfold va_up; rw [if_neg ho]; rfl
theorem nw_A (h : am_H) (kd : Nat ⊕ (Nat × Nat)) (f : Nat → Int32) {o : Nat} (ho : o ≠ h.1) : am_A (am_new h kd f) o = am_A h o := by
  show va_up h.2.2.2.2 h.1 _ o = _
  unfold va_up; rw [if_neg ho]; rfl
theorem sA_at (h : am_H) (o j : Nat) (r : Option Nat) : am_A (am_sA h o j r) o j = r := by
  show va_up h.2.2.2.2 o (va_up (h.2.2.2.2 o) j r) o j = r
  unfold va_up; rw [if_pos rfl, if_pos rfl]
theorem sA_ne (h : am_H) (o : Nat) {j k : Nat} (r : Option Nat) (hk : k ≠ j) : am_A (am_sA h o j r) o k = am_A h o k := by
  show va_up h.2.2.2.2 o (va_up (h.2.2.2.2 o) j r) o k = _
  unfold va_up; rw [if_pos rfl, if_neg hk]; rfl
theorem sA_o (h : am_H) {o q : Nat} (j : Nat) (r : Option Nat) (hq : q ≠ o) : am_A (am_sA h o j r) q = am_A h q := by
  show va_up h.2.2.2.2 o (va_up (h.2.2.2.2 o) j r) q = _
  unfold va_up; rw [if_neg hq]; rfl
theorem sA_I (h : am_H) (o j : Nat) (r : Option Nat) : am_I (am_sA h o j r) = am_I h := rfl
theorem sA_K (h : am_H) (o j : Nat) (r : Option Nat) : am_K (am_sA h o j r) = am_K h := rfl
theorem sA_J (h : am_H) (o j : Nat) (r : Option Nat) : am_J (am_sA h o j r) = am_J h := rfl
theorem nI_nneg {v : Nat} (h : v < 2 ^ 31) : ¬ nI v < 0 := by
  rw [show (0 : Int32) = nI 0 from rfl, nI_ltI h (by decide)]; omega
theorem nn_ok {m : Nat} (h : m ≤ 1000000) : am_nn (nI m) = true := by
  unfold am_nn
  rw [nI_clamp (by omega), decide_eq_false (nI_nneg (by omega)), Nat.ble_eq_true_of_le h]; rfl
/-- a copy into a longer row -/
theorem cpy_8 {h : am_H} {q n m : Nat} (hK : am_K h q = .inr (0, n)) (hq : q ≠ h.1) (hnm : n < m) (hm : m ≤ 1000000) : ∃ f, f_J7_copyOf_59c91 q (nI m) h = some ((h.1, am_new h (.inr (0, m)) f), 1, m) ∧ ∀ j, j < n → f j = am_I h q j := by
  have cm : Int32.toNatClampNeg (nI m) = m := nI_clamp (by omega)
  have c0 : Int32.toNatClampNeg (Int32.ofInt 0) = 0 := rfl
  have cn : Int32.toNatClampNeg (nI n) = n := nI_clamp (by omega)
  refine ⟨va_cpy (am_I (am_new h (.inr (0, m)) (fun _ => 0)) q) (am_I (am_new h (.inr (0, m)) (fun _ => 0)) h.1) 0 0 n, ?_, ?_⟩
  · unfold f_J7_copyOf_59c91
    have ne : ¬ nI m = nI n := fun e => by have := (nI_inj (by omega) (by omega)).mp e; omega
    have lt : ¬ nI m < nI n := by rw [nI_ltI (by omega) (by omega)]; omega
    rw [hp_ln hK]
    show (if nI m = nI n then _ else bif am_nn (nI m) then _ else none) = _
    rw [if_neg ne, nn_ok hm, cond_true, cm, hp_ln (n := n) (by rw [nw_K _ _ _ hq]; exact hK)]
    have eif : (if nI m < Int32.ofNat n then nI m else Int32.ofNat n) = nI n := if_neg lt
    show am_cost 1 m (bif am_cpk (Int32.ofInt 0) (Int32.ofInt 0) (if nI m < Int32.ofNat n then nI m else Int32.ofNat n) n m then _ else none) = _
    rw [eif]
    have ck : am_cpk (Int32.ofInt 0) (Int32.ofInt 0) (nI n) n m = true := by
      unfold am_cpk
      rw [c0, cn, decide_eq_false (nI_nneg (v := n) (by omega)), Nat.ble_eq_true_of_le (by omega), Nat.ble_eq_true_of_le (by omega)]; rfl
    rw [ck, cond_true, c0, cn]
    show some ((h.1, am_sR (am_new h (.inr (0, m)) (fun _ => 0)) h.1 _), 1 + 0, m + 0) = _
    rw [Nat.add_zero, Nat.add_zero]
    congr 3
    show (h.1 + 1, _, va_up (va_up h.2.2.1 h.1 _) h.1 _, _, _) = (h.1 + 1, _, va_up h.2.2.1 h.1 _, _, _)
    rw [hp_up_up]
    rfl
  · intro j hj
    show (if 0 ≤ j ∧ j < 0 + n then _ else _) = _
    rw [if_pos ⟨Nat.zero_le _, by omega⟩, nw_I _ _ _ hq]
    congr 1
    omega
/-- the folder's five rows: sets, next, kin, finer, lead -/
def FR (h : am_H) (cap : Nat) (q : Nat → Nat) : Prop := (∀ k, 1 ≤ k → k ≤ 5 → am_A h 12 k = some (q k) ∧ q k < h.1 ∧ q k ≠ 12 ∧ q k ≠ 18 ∧ am_K h (q k) = .inr (0, if k = 2 then 24 * cap else cap)) ∧ (∀ i j, 1 ≤ i → i ≤ 5 → 1 ≤ j → j ≤ 5 → q i = q j → i = j) ∧ 87 ≤ h.1
/-- what stays when the folder works -/
def frF (q q' : Nat → Nat) (h h' : am_H) : Prop := h.1 ≤ h'.1 ∧ (∀ o, o < h.1 → am_K h' o = am_K h o ∧ am_J h' o = am_J h o) ∧ (∀ o, o < h.1 → o ≠ 12 → am_A h' o = am_A h o) ∧ (∀ o, o < h.1 → o ≠ 12 → o ≠ 18 → (∀ k, 1 ≤ k → k ≤ 5 → o ≠ q k) → am_I h' o = am_I h o) ∧ (∀ k, (k < 1 ∨ 5 < k) → am_A h' 12 k = am_A h 12 k) ∧ (∀ k, 1 ≤ k → k ≤ 5 → h.1 ≤ q' k ∨ ∃ i, 1 ≤ i ∧ i ≤ 5 ∧ q' k = q i)
theorem frF_r (q : Nat → Nat) (h : am_H) : frF q q h h := ⟨Nat.le_refl _, fun _ _ => ⟨rfl, rfl⟩, fun _ _ _ => rfl, fun _ _ _ _ _ => rfl, fun _ _ => rfl, fun k h1 h5 => Or.inr ⟨k, h1, h5, rfl⟩⟩
theorem frF_t {q q1 q2 : Nat → Nat} {h h1 h2 : am_H} (a : frF q q1 h h1) (b : frF q1 q2 h1 h2) : frF q q2 h h2 := by
  obtain ⟨a1, a2, a3, a4, a5, a6⟩ := a
  obtain ⟨b1, b2, b3, b4, b5, b6⟩ := b
  refine ⟨by omega, fun o ho => ⟨(b2 o (by omega)).1.trans (a2 o ho).1, (b2 o (by omega)).2.trans (a2 o ho).2⟩, fun o ho h12 => (b3 o (by omega) h12).trans (a3 o ho h12), ?_, fun k hk => (b5 k hk).trans (a5 k hk), ?_⟩
  · intro o ho h12 h18 hq
    refine (b4 o (by omega) h12 h18 ?_).trans (a4 o ho h12 h18 hq)
    intro k k1 k5 e
    rcases a6 k k1 k5 with c | ⟨i, i1, i5, c⟩
    · omega
    · exact hq i i1 i5 (e.trans c)
  · intro k k1 k5
    rcases b6 k k1 k5 with c | ⟨i, i1, i5, c⟩
    · exact Or.inl (by omega)
    · rcases a6 i i1 i5 with c2 | ⟨j, j1, j5, c2⟩
      · exact Or.inl (by omega)
      · exact Or.inr ⟨j, j1, j5, c.trans c2⟩
/-- one of the rows is written -/
theorem frF_s {q : Nat → Nat} {h : am_H} {k : Nat} (k1 : 1 ≤ k) (k5 : k ≤ 5) (j : Nat) (x : Int32) : frF q q h (am_sI h (q k) j x) := ⟨Nat.le_refl _, fun _ _ => ⟨rfl, rfl⟩, fun _ _ _ => rfl, fun o _ _ _ hq => hp_I' _ _ _ (hq k k1 k5), fun _ _ => rfl, fun k h1 h5 => Or.inr ⟨k, h1, h5, rfl⟩⟩
theorem frF_12 (q : Nat → Nat) (h : am_H) (j : Nat) (x : Int32) : frF q q h (am_sI h 12 j x) := ⟨Nat.le_refl _, fun _ _ => ⟨rfl, rfl⟩, fun _ _ _ => rfl, fun o _ h12 _ _ => hp_I' _ _ _ h12, fun _ _ => rfl, fun k h1 h5 => Or.inr ⟨k, h1, h5, rfl⟩⟩
theorem frF_18 (q : Nat → Nat) (h : am_H) (j : Nat) (x : Int32) : frF q q h (am_sI h 18 j x) := ⟨Nat.le_refl _, fun _ _ => ⟨rfl, rfl⟩, fun _ _ _ => rfl, fun o _ _ h18 _ => hp_I' _ _ _ h18, fun _ _ => rfl, fun k h1 h5 => Or.inr ⟨k, h1, h5, rfl⟩⟩
theorem FR_s {h : am_H} {cap : Nat} {q : Nat → Nat} (f : FR h cap q) (o j : Nat) (x : Int32) : FR (am_sI h o j x) cap q := f
