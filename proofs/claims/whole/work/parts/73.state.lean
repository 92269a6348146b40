/-! ===== a state of a talk as one number: fields of it ===== -/
def lL (N : Nat) : Int64 := Int64.ofNat N
theorem m_15 : ∀ i, i < 32 → (15#32).getLsbD i = decide (i < 4) := by decide
theorem m_255 : ∀ i, i < 32 → (255#32).getLsbD i = decide (i < 8) := by decide
theorem M_15 : ∀ i, i < 64 → (15#64).getLsbD i = decide (i < 4) := by decide
theorem M_255 : ∀ i, i < 64 → (255#64).getLsbD i = decide (i < 8) := by decide
theorem fd_get (N k w : Nat) (M : BitVec 32) (hM : ∀ i, i < 32 → M.getLsbD i = decide (i < w)) (hk : k + w ≤ 64) (hw : w ≤ 16) : ((BitVec.ofNat 64 N >>> k).signExtend 32 &&& M) = BitVec.ofNat 32 (N / 2 ^ k % 2 ^ w) := by
  apply BitVec.eq_of_getLsbD_eq
  intro i hi
  rw [BitVec.getLsbD_and, BitVec.getLsbD_signExtend, BitVec.getLsbD_ushiftRight, BitVec.getLsbD_ofNat, BitVec.getLsbD_ofNat, hM i hi, Nat.testBit_mod_two_pow, Nat.testBit_div_two_pow]
  by_cases h : i < w
  · have h1 : k + i < 64 := by omega
    have h2 : i < 64 := by omega
    simp [h, hi, h1, h2, Nat.add_comm]
  · simp [h]
theorem fd_put (hi f lo x k w : Nat) (M : BitVec 64) (hM : ∀ i, i < 64 → M.getLsbD i = decide (i < w)) (hl : lo < 2 ^ k) (hf : f < 2 ^ w) (hx : x < 2 ^ w) (hk : k + w ≤ 64) : (BitVec.ofNat 64 (2 ^ k * (2 ^ w * hi + f) + lo) &&& ((M <<< k) ^^^ BitVec.allOnes 64)) ||| (BitVec.ofNat 64 x <<< k) = BitVec.ofNat 64 (2 ^ k * (2 ^ w * hi + x) + lo) := by
  apply BitVec.eq_of_getLsbD_eq
  intro j hj
  have t : ∀ y, y < 2 ^ w → (2 ^ k * (2 ^ w * hi + y) + lo).testBit j = if j < k then lo.testBit j else if j - k < w then y.testBit (j - k) else hi.testBit (j - k - w) := by
    intro y hy
    rw [Nat.testBit_two_pow_mul_add _ hl]
    split
    · rfl
    · rw [Nat.testBit_two_pow_mul_add _ hy]
  rw [BitVec.getLsbD_or, BitVec.getLsbD_and, BitVec.getLsbD_xor, BitVec.getLsbD_shiftLeft, BitVec.getLsbD_shiftLeft, BitVec.getLsbD_ofNat, BitVec.getLsbD_ofNat, BitVec.getLsbD_ofNat, t f hf, t x hx, BitVec.getLsbD_allOnes]
  by_cases h1 : j < k
  · simp [h1, hj]
  · have hm := hM (j - k) (by omega)
    rw [hm]
    by_cases h2 : j - k < w
    · have : j - k < 64 := by omega
      simp [h1, h2, hj, this]
    · have hxb : x.testBit (j - k) = false := by
        apply Nat.testBit_lt_two_pow
        exact Nat.lt_of_lt_of_le hx (Nat.pow_le_pow_right (by decide) (by omega))
      simp [h1, h2, hj, hxb]
theorem sh_p8 : ∀ o, o < 3 → (((Int32.toInt64 ((Int32.ofInt 4) * nI o)).toUInt64 &&& Int64.toUInt64 63).toBitVec % 64#64).toNat = 4 * o ∧ ((Int32.toInt64 ((Int32.ofInt 4) * nI o) &&& 63).toBitVec.smod 64#64).toNat = 4 * o := by decide
theorem sh_c8 : ∀ p, p < 6 → (((Int32.toInt64 ((Int32.ofInt 12) + ((Int32.ofInt 8) * nI p))).toUInt64 &&& Int64.toUInt64 63).toBitVec % 64#64).toNat = 12 + 8 * p ∧ ((Int32.toInt64 ((Int32.ofInt 12) + ((Int32.ofInt 8) * nI p)) &&& 63).toBitVec.smod 64#64).toNat = 12 + 8 * p := by decide
theorem pl8_get (N : Nat) {o : Nat} (ho : o < 3) (h : am_H) : f_X7_placeIn (lL N) (nI o) h = some (nI (N / 2 ^ (4 * o) % 16), h) := by
  unfold f_X7_placeIn
  congr 2
  apply Int32.toBitVec.inj
  show ((BitVec.ofNat 64 N >>> ((((Int32.toInt64 ((Int32.ofInt 4) * nI o)).toUInt64 &&& Int64.toUInt64 63).toBitVec % 64#64).toNat)).signExtend 32 &&& 15#32) = BitVec.ofNat 32 (N / 2 ^ (4 * o) % 2 ^ 4)
  rw [(sh_p8 o ho).1]
  exact fd_get N (4 * o) 4 _ m_15 (by omega) (by omega)
theorem ct8_get (N : Nat) {p : Nat} (hp : p < 6) (h : am_H) : f_X7_contentIn (lL N) (nI p) h = some (nI (N / 2 ^ (12 + 8 * p) % 256), h) := by
  unfold f_X7_contentIn
  congr 2
  apply Int32.toBitVec.inj
  show ((BitVec.ofNat 64 N >>> ((((Int32.toInt64 ((Int32.ofInt 12) + ((Int32.ofInt 8) * nI p))).toUInt64 &&& Int64.toUInt64 63).toBitVec % 64#64).toNat)).signExtend 32 &&& 255#32) = BitVec.ofNat 32 (N / 2 ^ (12 + 8 * p) % 2 ^ 8)
  rw [(sh_c8 p hp).1]
  exact fd_get N (12 + 8 * p) 8 _ m_255 (by omega) (by omega)
theorem pl8_put (hi f lo x : Nat) {o : Nat} (ho : o < 3) (hl : lo < 2 ^ (4 * o)) (hf : f < 16) (hx : x < 16) : ((lL (2 ^ (4 * o) * (16 * hi + f) + lo) &&& (((15 : Int64) <<< (Int32.toInt64 ((Int32.ofInt 4) * nI o) &&& 63)) ^^^ (-1 : Int64))) ||| ((Int32.toInt64 (nI x)) <<< (Int32.toInt64 ((Int32.ofInt 4) * nI o) &&& 63))) = lL (2 ^ (4 * o) * (16 * hi + x) + lo) := by
  have ex : Int32.toInt64 (nI x) = Int64.ofNat x := nI_l (by omega)
  rw [ex]
  apply Int64.toBitVec.inj
  show (BitVec.ofNat 64 (2 ^ (4 * o) * (2 ^ 4 * hi + f) + lo) &&& ((15#64 <<< (((Int32.toInt64 ((Int32.ofInt 4) * nI o) &&& 63).toBitVec.smod 64#64).toNat)) ^^^ BitVec.allOnes 64)) ||| (BitVec.ofNat 64 x <<< (((Int32.toInt64 ((Int32.ofInt 4) * nI o) &&& 63).toBitVec.smod 64#64).toNat)) = BitVec.ofNat 64 (2 ^ (4 * o) * (2 ^ 4 * hi + x) + lo)
  rw [(sh_p8 o ho).2]
  exact fd_put hi f lo x (4 * o) 4 _ M_15 hl hf hx (by omega)
theorem ct8_put (hi f lo x : Nat) {p : Nat} (hp : p < 6) (hl : lo < 2 ^ (12 + 8 * p)) (hf : f < 256) (hx : x < 256) (h : am_H) : f_X7_withContent (lL (2 ^ (12 + 8 * p) * (256 * hi + f) + lo)) (nI p) (nI x) h = some (lL (2 ^ (12 + 8 * p) * (256 * hi + x) + lo), h) := by
  unfold f_X7_withContent
  congr 2
  have ex : Int32.toInt64 (nI x) = Int64.ofNat x := nI_l (by omega)
  rw [ex]
  apply Int64.toBitVec.inj
  show (BitVec.ofNat 64 (2 ^ (12 + 8 * p) * (2 ^ 8 * hi + f) + lo) &&& ((255#64 <<< (((Int32.toInt64 ((Int32.ofInt 12) + ((Int32.ofInt 8) * nI p)) &&& 63).toBitVec.smod 64#64).toNat)) ^^^ BitVec.allOnes 64)) ||| (BitVec.ofNat 64 x <<< (((Int32.toInt64 ((Int32.ofInt 12) + ((Int32.ofInt 8) * nI p)) &&& 63).toBitVec.smod 64#64).toNat)) = BitVec.ofNat 64 (2 ^ (12 + 8 * p) * (2 ^ 8 * hi + x) + lo)
  rw [(sh_c8 p hp).2]
  exact fd_put hi f lo x (12 + 8 * p) 8 _ M_255 hl hf hx (by omega)
