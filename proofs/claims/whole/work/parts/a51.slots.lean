/-! ===== states in slots: where a state stands, class and reference ===== -/
theorem lg_eq (x y : Int64) : (lg_cmp x y = 0) ↔ x = y := by
  unfold lg_cmp
  constructor
  · intro h
    split at h
    · exact absurd h (by decide)
    · split at h
      · assumption
      · exact absurd h (by decide)
  · intro h
    subst h
    rw [if_neg (fun h => Int64.lt_irrefl h), if_pos rfl]
theorem hs8_bv (b : BitVec 64) : ∃ v, v < 4096 ∧ (b >>> 52).signExtend 32 = BitVec.ofNat 32 v := by
  refine ⟨(b >>> 52).toNat, ?_, ?_⟩
  · rw [BitVec.toNat_ushiftRight, Nat.shiftRight_eq_div_pow]
    have := b.isLt
    omega
  · apply BitVec.eq_of_getLsbD_eq
    intro i hi
    rw [BitVec.getLsbD_signExtend, BitVec.getLsbD_ofNat, BitVec.testBit_toNat]
    simp [hi, show i < 64 from by omega]
theorem hs9_bv (b : BitVec 64) : ∃ v, v < 8192 ∧ (b &&& 8191#64).signExtend 32 = BitVec.ofNat 32 v := by
  refine ⟨(b &&& 8191#64).toNat, ?_, ?_⟩
  · rw [BitVec.toNat_and]
    exact Nat.lt_of_le_of_lt Nat.and_le_right (by decide)
  · apply BitVec.eq_of_getLsbD_eq
    intro i hi
    rw [BitVec.getLsbD_signExtend, BitVec.getLsbD_ofNat, BitVec.testBit_toNat]
    simp [hi, show i < 64 from by omega]
def hs8z (x : Int64) : Int32 := Int64.toInt32 ((Int64.toUInt64 (x * (-7046029254386353131 : Int64)) >>> ((Int32.toInt64 (Int32.ofInt 52)).toUInt64 &&& Int64.toUInt64 63)).toInt64)
def hs8 (x : Int64) : Nat := Int32.toNatClampNeg (hs8z x)
theorem hs8_i (x : Int64) : hs8z x = nI (hs8 x) ∧ hs8 x < 4096 := by
  obtain ⟨v, hv, e⟩ := hs8_bv (x * (-7046029254386353131 : Int64)).toBitVec
  have e1 : hs8z x = nI v := by
    apply Int32.toBitVec.inj
    exact e
  unfold hs8
  rw [e1, nI_clamp (by omega)]
  exact ⟨rfl, hv⟩
def hs9z (x : Int64) : Int32 := Int64.toInt32 (((x * (6364136223846793005 : Int64)) >>> (Int32.toInt64 (Int32.ofInt 40) &&& 63)) &&& (8191 : Int64))
def hs9 (x : Int64) : Nat := Int32.toNatClampNeg (hs9z x)
theorem hs9_i (x : Int64) : hs9z x = nI (hs9 x) ∧ hs9 x < 8192 := by
  obtain ⟨v, hv, e⟩ := hs9_bv ((x * (6364136223846793005 : Int64)) >>> (Int32.toInt64 (Int32.ofInt 40) &&& 63)).toBitVec
  have e1 : hs9z x = nI v := by
    apply Int32.toBitVec.inj
    exact e
  unfold hs9
  rw [e1, nI_clamp (by omega)]
  exact ⟨rfl, hv⟩
/-- the class's survey: states, from where, by which step, slots -/
def V8 (h : am_H) (o N : Nat) (key : Nat → Int64) (pf pb : Nat → Int32) (T : Nat → Nat) : Prop := am_I h o 0 = nI N ∧ N ≤ 2000 ∧ (∀ i, i < N → am_J h (o + 3) i = key i ∧ am_I h (o + 5) i = pf i ∧ am_I h (o + 6) i = pb i) ∧ (∀ s, s < 4096 → am_I h (o + 7) s = nI (T s)) ∧ OA 4096 N T key hs8
theorem and4095 : ∀ v, v < 4096 → (nI v + Int32.ofInt 1) &&& Int32.ofInt 4095 = nI ((v + 1) % 4096) := by
  intro v hv
  rw [hp_1]
  apply bt_ext
  intro q
  rw [bt_and, bt_nI, show Int32.ofInt 4095 = nI 4095 from rfl, bt_nI, bt_nI]
  have : (v + 1) % 4096 = (v + 1) &&& 4095 := by
    have := Nat.and_two_pow_sub_one_eq_mod (v + 1) 12
    exact this.symm
  rw [this, Nat.testBit_and]
  simp only [Bool.and_eq_true]
  exact ⟨fun ⟨⟨a, b⟩, ⟨_, c⟩⟩ => ⟨a, b, c⟩, fun ⟨a, b, c⟩ => ⟨⟨a, b⟩, ⟨a, c⟩⟩⟩
theorem sl8_loop {h : am_H} {o N : Nat} {key : Nat → Int64} {pf pb : Nat → Int32} {T : Nat → Nat} (v : V8 h o N key pf pb T) {x : Int64} {D : Nat} (hDM : D < 4096) (hD : oaAt 4096 T key hs8 x D) (F : Nat) : ∀ (e d : Nat), d + e = D → g_X6_slotOf (F + e + 1) 0 o x (nI ((hs8 x + d) % 4096)) (nI d) h = some (nI ((hs8 x + D) % 4096), h) := by
  obtain ⟨v1, v2, v3, v4, v5⟩ := v
  intro e
  induction e with
  | zero =>
    intro d hd
    have : d = D := by omega
    subst this
    have hs : (hs8 x + d) % 4096 < 4096 := Nat.mod_lt _ (by decide)
    have mm : ¬ Int32.ofInt 4096 ≤ nI d := nI_ge (a := d) (b := 4096) (by omega) (by omega)
    rw [show F + 0 + 1 = F + 1 from rfl, g_X6_slotOf, if_neg mm, hp_vp hs (by decide), cond_true, nI_clamp (by omega), v4 _ hs]
    by_cases t0 : T ((hs8 x + d) % 4096) = 0
    · rw [if_pos ((nI_0e (by omega)).mpr t0)]
    · have hk : key (T ((hs8 x + d) % 4096) - 1) = x := hD.1.resolve_left t0
      have hT := v5.2.1 _ hs
      rw [if_neg (fun e => t0 ((nI_0e (by omega)).mp e)), nI_m1 t0, hp_vp (by omega) (by decide), cond_true, nI_clamp (by omega), (v3 _ (by omega)).1, hk, if_pos ((lg_eq x x).mpr rfl)]
  | succ e ih =>
    intro d hd
    obtain ⟨t0, tk⟩ := hD.2 d (by omega)
    have hs : (hs8 x + d) % 4096 < 4096 := Nat.mod_lt _ (by decide)
    have hT := v5.2.1 _ hs
    have mm : ¬ Int32.ofInt 4096 ≤ nI d := nI_ge (a := d) (b := 4096) (by omega) (by omega)
    have nx : (nI ((hs8 x + d) % 4096) + Int32.ofInt 1) &&& Int32.ofInt 4095 = nI ((hs8 x + (d + 1)) % 4096) := by
      rw [and4095 _ hs, Nat.mod_add_mod]; rfl
    rw [show F + (e + 1) + 1 = (F + e + 1) + 1 from rfl, g_X6_slotOf, if_neg mm, hp_vp hs (by decide), cond_true, nI_clamp (by omega), v4 _ hs, if_neg (fun e => t0 ((nI_0e (by omega)).mp e)), nI_m1 t0, hp_vp (by omega) (by decide), cond_true, nI_clamp (by omega), (v3 _ (by omega)).1, if_neg (fun e => tk ((lg_eq _ _).mp e)), nx, hp_1]
    exact ih (d + 1) (by omega)
theorem sl_8 {h : am_H} {o N : Nat} {key : Nat → Int64} {pf pb : Nat → Int32} {T : Nat → Nat} (v : V8 h o N key pf pb T) (x : Int64) : ∃ D, D < 4096 ∧ oaAt 4096 T key hs8 x D ∧ ∀ F, 4097 ≤ F → f_X6_slotOf F o x h = some (nI ((hs8 x + D) % 4096), h) := by
  obtain ⟨D, hDM, hD⟩ := oa_find v.2.2.2.2 x
  refine ⟨D, hDM, hD, fun F hF => ?_⟩
  have := sl8_loop v hDM hD (F - D - 1) D 0 (by omega)
  rw [show F - D - 1 + D + 1 = F from by omega, Nat.add_zero, Nat.mod_eq_of_lt (hs8_i x).2, ← (hs8_i x).1] at this
  exact this
/-- the reference's states -/
def V9 (h : am_H) (N : Nat) (key : Nat → Int64) (pf pb : Nat → Int32) (T : Nat → Nat) : Prop := am_I h 51 50 = nI N ∧ N ≤ 2000 ∧ (∀ i, i < N → am_J h 80 i = key i ∧ am_I h 81 i = pf i ∧ am_I h 82 i = pb i) ∧ (∀ s, s < 8192 → am_I h 84 s = nI (T s)) ∧ OA 8192 N T key hs9
theorem sl9_loop {h : am_H} {N : Nat} {key : Nat → Int64} {pf pb : Nat → Int32} {T : Nat → Nat} (v : V9 h N key pf pb T) {x : Int64} {D : Nat} (hD : oaAt 8192 T key hs9 x D) (F : Nat) : ∀ (e d : Nat), d + e = D → g_X9_stateNumber (F + e + 1) 0 x (nI ((hs9 x + d) % 8192)) h = some (nI ((hs9 x + D) % 8192), h) := by
  obtain ⟨v1, v2, v3, v4, v5⟩ := v
  intro e
  induction e with
  | zero =>
    intro d hd
    have : d = D := by omega
    subst this
    have hs : (hs9 x + d) % 8192 < 8192 := Nat.mod_lt _ (by decide)
    rw [show F + 0 + 1 = F + 1 from rfl, g_X9_stateNumber, hp_vp hs (by decide), cond_true, nI_clamp (by omega), v4 _ hs]
    by_cases t0 : T ((hs9 x + d) % 8192) = 0
    · rw [if_pos ((nI_0e (by omega)).mpr t0)]
    · have hk : key (T ((hs9 x + d) % 8192) - 1) = x := hD.1.resolve_left t0
      have hT := v5.2.1 _ hs
      rw [if_neg (fun e => t0 ((nI_0e (by omega)).mp e)), nI_m1 t0, hp_vp (by omega) (by decide), cond_true, nI_clamp (by omega), (v3 _ (by omega)).1, hk, if_pos ((lg_eq x x).mpr rfl)]
  | succ e ih =>
    intro d hd
    obtain ⟨t0, tk⟩ := hD.2 d (by omega)
    have hs : (hs9 x + d) % 8192 < 8192 := Nat.mod_lt _ (by decide)
    have hT := v5.2.1 _ hs
    have nx : nI ((hs9 x + d) % 8192) + Int32.ofInt 1 - (nI ((hs9 x + d) % 8192) + Int32.ofInt 1) / Int32.ofInt 8192 * Int32.ofInt 8192 = nI ((hs9 x + (d + 1)) % 8192) := by
      rw [hp_1, show Int32.ofInt 8192 = nI 8192 from rfl, nI_mod (by omega) (by decide), Nat.mod_add_mod]; rfl
    rw [show F + (e + 1) + 1 = (F + e + 1) + 1 from rfl, g_X9_stateNumber, hp_vp hs (by decide), cond_true, nI_clamp (by omega), v4 _ hs, if_neg (fun e => t0 ((nI_0e (by omega)).mp e)), nI_m1 t0, hp_vp (by omega) (by decide), cond_true, nI_clamp (by omega), (v3 _ (by omega)).1, if_neg (fun e => tk ((lg_eq _ _).mp e)), nx]
    exact ih (d + 1) (by omega)
theorem sl_9 {h : am_H} {N : Nat} {key : Nat → Int64} {pf pb : Nat → Int32} {T : Nat → Nat} (v : V9 h N key pf pb T) (x : Int64) : ∃ D, D < 8192 ∧ oaAt 8192 T key hs9 x D ∧ ∀ F, 8193 ≤ F → f_X9_stateNumber F x h = some (nI ((hs9 x + D) % 8192), h) := by
  obtain ⟨D, hDM, hD⟩ := oa_find v.2.2.2.2 x
  refine ⟨D, hDM, hD, fun F hF => ?_⟩
  have := sl9_loop v hD (F - D - 1) D 0 (by omega)
  rw [show F - D - 1 + D + 1 = F from by omega, Nat.add_zero, Nat.mod_eq_of_lt (hs9_i x).2, ← (hs9_i x).1] at this
  exact this
