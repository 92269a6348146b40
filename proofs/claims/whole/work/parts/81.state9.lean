/-! ===== the reference's states as numbers ===== -/
theorem lL_add (a b : Nat) : lL a + lL b = lL (a + b) := (Int64.ofNat_add a b).symm
theorem lL_mul (a b : Nat) : lL a * lL b = lL (a * b) := (Int64.ofNat_mul a b).symm
theorem lL_toInt {a : Nat} (h : a < 2 ^ 63) : (lL a).toInt = a := Int64.toInt_ofNat_of_lt h
theorem lL_div {a b : Nat} (ha : a < 2 ^ 63) (hb : 0 < b) (hb2 : b < 2 ^ 63) : lL a / lL b = lL (a / b) := by
  apply Int64.toInt_inj.mp
  have n1 : lL b ≠ -1 := by
    intro e
    have := congrArg Int64.toInt e
    rw [lL_toInt hb2] at this
    have q : (-1 : Int64).toInt = -1 := by decide
    omega
  have le : a / b ≤ a := Nat.div_le_self a b
  rw [Int64.toInt_div_of_ne_right _ _ n1, lL_toInt ha, lL_toInt hb2, lL_toInt (by omega)]
  exact Int.ofNat_tdiv a b
theorem lL_32 (n : Nat) : Int64.toInt32 (lL n) = nI n := by
  apply Int32.toBitVec.inj
  apply BitVec.eq_of_getLsbD_eq
  intro i hi
  show ((BitVec.ofNat 64 n).signExtend 32).getLsbD i = (BitVec.ofNat 32 n).getLsbD i
  rw [BitVec.getLsbD_signExtend, BitVec.getLsbD_ofNat, BitVec.getLsbD_ofNat, if_pos (show i < 64 by omega)]
  have h64 : i < 64 := by omega
  simp [hi, h64]
theorem lL_mod {a b : Nat} (ha : a < 2 ^ 63) (hb : 0 < b) (hb2 : b < 2 ^ 31) : Int64.toInt32 (lL a - lL a / lL b * lL b) = nI (a % b) := by
  rw [lL_div ha hb (by omega), lL_mul]
  have e : lL a = lL (a % b) + lL (a / b * b) := by rw [lL_add, Nat.mod_add_div']
  rw [e, show lL (a % b) + lL (a / b * b) - lL (a / b * b) = lL (a % b) from Int64.add_sub_cancel _ _]
  exact lL_32 _
theorem lL_inj {a b : Nat} (ha : a < 2 ^ 63) (hb : b < 2 ^ 63) (h : lL a = lL b) : a = b := by
  have := congrArg Int64.toInt h
  rw [lL_toInt ha, lL_toInt hb] at this
  omega
theorem lL_n {x : Nat} (hx : x < 2 ^ 31) : Int32.toInt64 (nI x) = lL x := nI_l hx
/-- the rows of a state -/
def W9 (h : am_H) (s : TS) : Prop := (∀ o, o < 3 → am_I h 77 o = nI (s.1 o)) ∧ am_I h 78 1 = nI (s.2 0) ∧ am_I h 78 2 = nI (s.2 1) ∧ am_I h 78 3 = nI (s.2 2) ∧ am_I h 78 5 = nI (s.2 3) ∧ am_I h 78 6 = nI (s.2 4) ∧ am_I h 78 7 = nI (s.2 5)
def w0 (s : TS) : Nat := 16 * 0 + s.1 0
def w1 (s : TS) : Nat := 16 * w0 s + s.1 1
def w2 (s : TS) : Nat := 16 * w1 s + s.1 2
def w3 (s : TS) : Nat := 128 * w2 s + s.2 0
def w4 (s : TS) : Nat := 128 * w3 s + s.2 1
def w5 (s : TS) : Nat := 128 * w4 s + s.2 2
def w6 (s : TS) : Nat := 128 * w5 s + s.2 3
def w7 (s : TS) : Nat := 128 * w6 s + s.2 4
def wN (s : TS) : Nat := 128 * w7 s + s.2 5
def wOk (s : TS) : Prop := (∀ o, o < 3 → s.1 o < 16) ∧ ∀ p, p < 6 → s.2 p < 128
theorem w_lt {s : TS} (h : wOk s) : w0 s < 16 ∧ w1 s < 256 ∧ w2 s < 4096 ∧ w3 s < 524288 ∧ w4 s < 67108864 ∧ w5 s < 8589934592 ∧ w6 s < 1099511627776 ∧ w7 s < 140737488355328 ∧ wN s < 18014398509481984 := by
  have := h.1 0 (by decide); have := h.1 1 (by decide); have := h.1 2 (by decide)
  have := h.2 0 (by decide); have := h.2 1 (by decide); have := h.2 2 (by decide); have := h.2 3 (by decide); have := h.2 4 (by decide); have := h.2 5 (by decide)
  have a0 : w0 s < 16 := by unfold w0; omega
  have a1 : w1 s < 256 := by unfold w1; omega
  have a2 : w2 s < 4096 := by unfold w2; omega
  have a3 : w3 s < 524288 := by unfold w3; omega
  have a4 : w4 s < 67108864 := by unfold w4; omega
  have a5 : w5 s < 8589934592 := by unfold w5; omega
  have a6 : w6 s < 1099511627776 := by unfold w6; omega
  have a7 : w7 s < 140737488355328 := by unfold w7; omega
  have a8 : wN s < 18014398509481984 := by unfold wN; omega
  exact ⟨a0, a1, a2, a3, a4, a5, a6, a7, a8⟩
theorem sk_w {r : TR} {s : TS} (h : r.sk s) : wOk s := ⟨h.1, fun p hp => Nat.lt_of_lt_of_le (ps_lt125 (h.2 p hp)) (by decide)⟩
theorem T9_W {h : am_H} {r : TR} {s : TS} (t : T9 h r s) : W9 h s := ⟨t.2.2.1, (t.2.1 0 1 (by decide) (by decide) (by decide)).2, (t.2.1 0 2 (by decide) (by decide) (by decide)).2, (t.2.1 1 0 (by decide) (by decide) (by decide)).2, (t.2.1 1 2 (by decide) (by decide) (by decide)).2, (t.2.1 2 0 (by decide) (by decide) (by decide)).2, (t.2.1 2 1 (by decide) (by decide) (by decide)).2⟩
