/-! ===== marks of a state: the class's method ===== -/
theorem lg0 (x : Int64) : (lg_cmp x 0 = 0) ↔ x = 0 := by
  unfold lg_cmp
  constructor
  · intro h
    split at h
    · exact absurd h (by decide)
    · split at h
      · assumption
      · exact absurd h (by decide)
  · intro h
    subst h
    rw [if_neg (by decide), if_pos rfl]
theorem sh12 {N : Nat} (hN : N < 2 ^ 60) : ((Int64.toUInt64 (lL N) >>> ((Int32.toInt64 (Int32.ofInt 12)).toUInt64 &&& Int64.toUInt64 63)).toInt64) = lL (N / 4096) := by
  apply Int64.toBitVec.inj
  show BitVec.ofNat 64 N >>> ((((Int32.toInt64 (Int32.ofInt 12)).toUInt64 &&& Int64.toUInt64 63).toBitVec % 64#64).toNat) = BitVec.ofNat 64 (N / 2 ^ 12)
  rw [show (((Int32.toInt64 (Int32.ofInt 12)).toUInt64 &&& Int64.toUInt64 63).toBitVec % 64#64).toNat = 12 from by decide]
  apply BitVec.eq_of_getLsbD_eq
  intro i hi
  rw [BitVec.getLsbD_ushiftRight, BitVec.getLsbD_ofNat, BitVec.getLsbD_ofNat, Nat.testBit_div_two_pow, Nat.add_comm i 12]
  by_cases h : 12 + i < 64
  · simp [h, hi]
  · have lt : N < 2 ^ (12 + i) := Nat.lt_of_lt_of_le hN (Nat.pow_le_pow_right (by decide) (by omega))
    rw [Nat.testBit_lt_two_pow lt, Bool.and_false, Bool.and_false]
theorem emp_iff {r : TR} (hr : r.ok) {s : TS} (hs : r.sk s) : (r.N s / 4096 = 0) ↔ tEmp s = true := by
  have eo := sk_en hr hs
  have p0 := eo.1 0 (by decide); have p1 := eo.1 1 (by decide); have p2 := eo.1 2 (by decide)
  have z : ∀ p, p < 6 → (r.b s p = 0 ↔ s.2 p = 0) := fun p hp => (ps_v (hr.1 p hp) (hs.2 p hp)).2.2
  have z0 := z 0 (by decide); have z1 := z 1 (by decide); have z2 := z 2 (by decide); have z3 := z 3 (by decide); have z4 := z 4 (by decide); have z5 := z 5 (by decide)
  have e : tEmp s = true ↔ (s.2 0 = 0 ∧ s.2 1 = 0 ∧ s.2 2 = 0 ∧ s.2 3 = 0 ∧ s.2 4 = 0 ∧ s.2 5 = 0) := by
    unfold tEmp
    simp only [Bool.and_eq_true]
    constructor
    · rintro ⟨a, b, c, d, e, f⟩
      exact ⟨Nat.eq_of_beq_eq_true a, Nat.eq_of_beq_eq_true b, Nat.eq_of_beq_eq_true c, Nat.eq_of_beq_eq_true d, Nat.eq_of_beq_eq_true e, Nat.eq_of_beq_eq_true f⟩
    · rintro ⟨a, b, c, d, e, f⟩
      exact ⟨beq_t a, beq_t b, beq_t c, beq_t d, beq_t e, beq_t f⟩
  rw [e, ← z0, ← z1, ← z2, ← z3, ← z4, ← z5]
  unfold TR.N enN
  generalize r.b s 0 = b0; generalize r.b s 1 = b1; generalize r.b s 2 = b2; generalize r.b s 3 = b3; generalize r.b s 4 = b4; generalize r.b s 5 = b5
  omega
/-- what can be seen of a state -/
def tMark (r : TR) (sd : Nat → Bool) (s : TS) : Int32 := w4I (tWr r sd s 0 || (tWr r sd s 1 || tWr r sd s 2)) ||| (bif tEnd r sd s && tEmp s then Int32.ofInt 16 else bif Nat.beq (ts_all r s).length 0 then (bif tEnd r sd s then Int32.ofInt 2 else Int32.ofInt 1) else Int32.ofInt 0)
theorem mk_8 (n : Nat) {h : am_H} {r : TR} (hr : r.ok) (t : T8 h r) {s : TS} (hs : r.sk s) {sd : Nat → Bool} (s8 : S8 h sd) (hv : ∀ o, o < 3 → ∃ v, v < 65536 ∧ r.fo o (s.1 o) = nI v) (hl : (ts_all r s).length ≤ 90) : f_X7_marks (n + 19) (lL (r.N s)) (nI (ts_all r s).length) h = some (tMark r sd s, h) := by
  have e : f_X7_marks (n + 19) (lL (r.N s)) (nI (ts_all r s).length) h = g_X7_marks (n + 2 + 16 + 1) 0 (lL (r.N s)) (nI (ts_all r s).length) (bI true) (w4I false) (nI 0) h := rfl
  have s0 := mk_s (n + 2) hr t hs s8 (o := 0) (by decide) (hv 0 (by decide)) (nI (ts_all r s).length) true false
  have s1 := mk_s (n + 1) hr t hs s8 (o := 1) (by decide) (hv 1 (by decide)) (nI (ts_all r s).length) (true && tE r sd s 0) (false || tWr r sd s 0)
  have s2 := mk_s n hr t hs s8 (o := 2) (by decide) (hv 2 (by decide)) (nI (ts_all r s).length) (true && tE r sd s 0 && tE r sd s 1) (false || tWr r sd s 0 || tWr r sd s 1)
  rw [e, s0, show n + 2 + 16 = n + 1 + 16 + 1 from by omega, s1, show n + 1 + 16 = n + 16 + 1 from by omega, s2, show n + 16 = (n + 15) + 1 from rfl, g_X7_marks, if_pos (show Int32.ofInt 3 ≤ nI (2 + 1) by decide), sh12 (show r.N s < 2 ^ 60 from en_lt (sk_en hr hs))]
  have em : (lg_cmp (lL (enN s.1 (r.b s) / 4096)) (Int64.ofNat (0 : Fin 2).val) = 0) ↔ tEmp s = true := by
    rw [show (Int64.ofNat (0 : Fin 2).val) = 0 from rfl, lg0, ← emp_iff hr hs]
    have lt : r.N s < 2 ^ 60 := en_lt (sk_en hr hs)
    constructor
    · intro q
      exact lL_inj (b := 0) (Nat.lt_of_le_of_lt (Nat.div_le_self _ _) (by omega)) (by decide) q
    · intro q
      have q : enN s.1 (r.b s) / 4096 = 0 := q
      rw [q]; rfl
  have y : (if lg_cmp (lL (enN s.1 (r.b s) / 4096)) (Int64.ofNat (0 : Fin 2).val) = 0 then some (Int32.ofInt 1) else some (Int32.ofInt 0)) = some (bI (tEmp s)) := by
    cases q : tEmp s
    · rw [if_neg (fun x => by rw [em.mp x] at q; cases q)]; rfl
    · rw [if_pos (em.mpr q)]; rfl
  rw [show lL (r.N s / 4096) = lL (enN s.1 (r.b s) / 4096) from rfl, y, b_some]
  unfold am_let tMark
  have c0 : (nI (ts_all r s).length ≤ 0) ↔ (ts_all r s).length = 0 := nI_le0 (by omega)
  have ee : (true && tE r sd s 0 && tE r sd s 1 && tE r sd s 2) = tEnd r sd s := by unfold tEnd; rw [Bool.true_and, Bool.and_assoc]
  have ew : (false || tWr r sd s 0 || tWr r sd s 1 || tWr r sd s 2) = (tWr r sd s 0 || (tWr r sd s 1 || tWr r sd s 2)) := by rw [Bool.false_or, Bool.or_assoc]
  rw [ee, ew]
  generalize (tWr r sd s 0 || (tWr r sd s 1 || tWr r sd s 2)) = w
  by_cases z : (ts_all r s).length = 0
  · simp only [if_pos (c0.mpr z), beq_t z]
    cases tEnd r sd s <;> cases tEmp s <;> cases w <;> rfl
  · simp only [if_neg (fun x => z (c0.mp x)), beq_f z]
    cases tEnd r sd s <;> cases tEmp s <;> cases w <;> rfl
