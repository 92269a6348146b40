/-! ===== marks of a state: the class ===== -/
/-- the class's rows of seats -/
def S8 (h : am_H) (sd : Nat → Bool) : Prop := ∀ o, o < 3 → am_I h 33 o = bI (sd o) ∧ bt (am_I h 36 o) 0 = false
theorem and_not0 {x y : Int32} : (x &&& (y ^^^ Int32.ofInt (-1))) = 0 ↔ ∀ i, i < 32 → bt x i = true → bt y i = true := by
  have bits : ∀ i, i < 32 → bt (x &&& (y ^^^ Int32.ofInt (-1))) i = (bt x i && !bt y i) := by
    intro i hi
    show (x.toBitVec &&& (y.toBitVec ^^^ BitVec.allOnes 32)).getLsbD i = _
    rw [BitVec.getLsbD_and, BitVec.getLsbD_xor, BitVec.getLsbD_allOnes]
    simp [hi, bt]
  constructor
  · intro e i hi h
    have := bits i hi
    rw [e, show bt (0 : Int32) i = bt (Int32.ofInt 0) i from rfl, bt_0, h] at this
    cases q : bt y i
    · rw [q] at this; cases this
    · rfl
  · intro H
    by_cases q : (x &&& (y ^^^ Int32.ofInt (-1))) = 0
    · exact q
    · obtain ⟨i, hi, e⟩ := I32_ne0.mp q
      rw [bits i hi, Bool.and_eq_true] at e
      rw [H i hi e.1] at e
      exact absurd e.2 (by decide)
theorem oAll_t {r : TR} {s : TS} {o : Nat} (h : ∀ i, 0 < i → i ≤ 15 → bt (r.fo o (s.1 o)) i = true → r.aw o i = 1) : oAll r s o 15 = true := by
  have g : ∀ k, k ≤ 15 → oAll r s o k = true := by
    intro k
    induction k with
    | zero => intro _; rfl
    | succ k ih =>
      intro hk
      show ((!bt (r.fo o (s.1 o)) (15 - k) || Nat.beq (r.aw o (15 - k)) 1) && oAll r s o k) = true
      rw [ih (by omega), Bool.and_true]
      cases q : bt (r.fo o (s.1 o)) (15 - k)
      · rfl
      · rw [beq_t (h (15 - k) (by omega) (by omega) q)]; rfl
  exact g 15 (by decide)
/-- whether an office only waits, as the class finds it -/
theorem wt_8 {h : am_H} {r : TR} (t : T8 h r) {s : TS} (hs : r.sk s) {sd : Nat → Bool} (s8 : S8 h sd) {o : Nat} (ho : o < 3) (hv : ∃ v, v < 65536 ∧ r.fo o (s.1 o) = nI v) : ((r.fo o (s.1 o) &&& ((am_I h 36 o) ^^^ (Int32.ofInt (-1)))) = 0) ↔ (!bt (r.fo o (s.1 o)) 0 && oAll r s o 15) = true := by
  obtain ⟨v, hv1, hv2⟩ := hv
  have hi16 : ∀ i, 16 ≤ i → bt (r.fo o (s.1 o)) i = false := by
    intro i hi
    rw [hv2]
    show (BitVec.ofNat 32 v).getLsbD i = false
    have p16 : (2 : Nat) ^ 16 ≤ 2 ^ i := Nat.pow_le_pow_right (by decide) hi
    have lt : v < 2 ^ i := Nat.lt_of_lt_of_le (show v < 2 ^ 16 from hv1) p16
    rw [BitVec.getLsbD_ofNat, Nat.testBit_lt_two_pow lt, Bool.and_false]
  have hp := hs.1 o ho
  rw [and_not0, Bool.and_eq_true]
  constructor
  · intro H
    refine ⟨?_, oAll_t (fun i a b c => ?_)⟩
    · cases q : bt (r.fo o (s.1 o)) 0
      · rfl
      · have := H 0 (by decide) q
        rw [(s8 o ho).2] at this; cases this
    · have := H i (by omega) c
      rw [(t.2.2.2 o i ho (by omega) a ⟨s.1 o, hp, c⟩).2.2] at this
      exact of_decide_eq_true this
  · rintro ⟨a, b⟩ i hi c
    by_cases z : i = 0
    · subst z; rw [c] at a; cases a
    · by_cases z2 : i ≤ 15
      · rw [(t.2.2.2 o i ho (by omega) (by omega) ⟨s.1 o, hp, c⟩).2.2]
        exact decide_eq_true (oAll_w b i (by omega) z2 c)
      · rw [hi16 i (by omega)] at c; cases c
