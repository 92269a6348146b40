/-! ===== run ===== -/
def sdN (x : Int64) : Int64 := ((1103515245 : Int64) * x + (12345 : Int64)) &&& (2147483647 : Int64)
def sdV (x : Int64) : Nat := (sdN x).toBitVec.toNat
theorem sdV_lt (x : Int64) : sdV x < 2 ^ 31 := by
  show ((((1103515245 : Int64) * x + (12345 : Int64)).toBitVec) &&& (2147483647#64)).toNat < 2 ^ 31
  rw [BitVec.toNat_and]
  exact Nat.lt_of_le_of_lt Nat.and_le_right (by decide)
theorem sd_l (x : Int64) : sdN x = lL (sdV x) := by
  apply Int64.toBitVec.inj
  show (sdN x).toBitVec = BitVec.ofNat 64 (sdN x).toBitVec.toNat
  rw [BitVec.ofNat_toNat, BitVec.setWidth_eq]
theorem sh16 {N : Nat} (hN : N < 2 ^ 60) : ((Int64.toUInt64 (lL N) >>> ((Int32.toInt64 (Int32.ofInt 16)).toUInt64 &&& Int64.toUInt64 63)).toInt64) = lL (N / 65536) := by
  apply Int64.toBitVec.inj
  show BitVec.ofNat 64 N >>> ((((Int32.toInt64 (Int32.ofInt 16)).toUInt64 &&& Int64.toUInt64 63).toBitVec % 64#64).toNat) = BitVec.ofNat 64 (N / 2 ^ 16)
  rw [show (((Int32.toInt64 (Int32.ofInt 16)).toUInt64 &&& Int64.toUInt64 63).toBitVec % 64#64).toNat = 16 from by decide]
  apply BitVec.eq_of_getLsbD_eq
  intro i hi
  rw [BitVec.getLsbD_ushiftRight, BitVec.getLsbD_ofNat, BitVec.getLsbD_ofNat, Nat.testBit_div_two_pow, Nat.add_comm i 16]
  by_cases h : 16 + i < 64
  · simp [h, hi]
  · have lt : N < 2 ^ (16 + i) := Nat.lt_of_lt_of_le hN (Nat.pow_le_pow_right (by decide) (by omega))
    rw [Nat.testBit_lt_two_pow lt, Bool.and_false, Bool.and_false]
/-- steps by a seed -/
def runP : Nat → Nat → Int64 → PS → Int32 × PS
  | 0, i, _, S => (nI i, S)
  | d + 1, i, x, S => match (ts_all S.r S.s)[sdV x / 65536 % (ts_all S.r S.s).length]? with
    | none => (nI i, S)
    | some e => runP d (i + 1) (sdN x) (S.sg e.2 (S.sc + Int32.ofInt 1))
theorem runP_0 {d i : Nat} {x : Int64} {S : PS} (h : (ts_all S.r S.s).length = 0) : runP (d + 1) i x S = (nI i, S) := by
  show (match (ts_all S.r S.s)[sdV x / 65536 % (ts_all S.r S.s).length]? with | none => (nI i, S) | some e => runP d (i + 1) (sdN x) (S.sg e.2 (S.sc + Int32.ofInt 1))) = _
  rw [List.getElem?_eq_none (by omega)]
theorem runP_s {d i : Nat} {x : Int64} {S : PS} {e : Nat × TS} (h : (ts_all S.r S.s)[sdV x / 65536 % (ts_all S.r S.s).length]? = some e) : runP (d + 1) i x S = runP d (i + 1) (sdN x) (S.sg e.2 (S.sc + Int32.ofInt 1)) := by
  show (match (ts_all S.r S.s)[sdV x / 65536 % (ts_all S.r S.s).length]? with | none => (nI i, S) | some e => runP d (i + 1) (sdN x) (S.sg e.2 (S.sc + Int32.ofInt 1))) = _
  rw [h]
theorem runP_ok : ∀ (d i : Nat) (x : Int64) (S : PS), PSok S → PSok (runP d i x S).2
  | 0, _, _, _, ok => ok
  | d + 1, i, x, S, ok => by
    cases hx : (ts_all S.r S.s)[sdV x / 65536 % (ts_all S.r S.s).length]? with
    | none =>
      have : runP (d + 1) i x S = (nI i, S) := by
        show (match (ts_all S.r S.s)[sdV x / 65536 % (ts_all S.r S.s).length]? with | none => (nI i, S) | some e => runP d (i + 1) (sdN x) (S.sg e.2 (S.sc + Int32.ofInt 1))) = _
        rw [hx]
      rw [this]; exact ok
    | some e =>
      rw [runP_s hx]
      exact runP_ok d (i + 1) (sdN x) _ (PSok_sg ok (reach_s ok.2.2.2.2.2.2.2.2.1 (List.mem_of_getElem? hx)) _)
theorem li_8F {h : am_H} {S : PS} {c sl : Nat} (ok : PSok S) (x8 : X8 h S c sl) (F : Nat) (hF : 60 ≤ F) : ∃ h', f_X7_list F (am_J h 0 10) h = some (nI (ts_all S.r S.s).length, h') ∧ L8 h' S.r (ts_all S.r S.s) ∧ X8 h' S c sl ∧ frY h h' ∧ (ts_all S.r S.s).length ≤ 90 := by
  have tk := X8_tk x8
  obtain ⟨h', e, l, f, len⟩ := l8_list (PS_all ok).1 tk.1.1 (PS_sk ok).1 F hF
  refine ⟨h', by rw [tk.1.2.2]; exact e, l, X8_Y x8 (frY_T f), frY_T f, len⟩
theorem nzJ {n : Nat} (h0 : 0 < n) (hn : n < 2 ^ 31) : am_nzJ (lL n) = true := by
  unfold am_nzJ
  rw [decide_eq_false (fun e => by have := lL_inj (a := n) (b := 0) (by omega) (by decide) e; omega)]; rfl
theorem rn_8 {N : Nat} (hN : N ≤ 200) (a1 : Int32) {c sl : Nat} : ∀ (d i : Nat) (x : Int64) (S : PS) (h : am_H), i + d = N → PSok S → X8 h S c sl → ∃ h', g_X8_run (d + 201) 0 a1 (nI N) x (nI i) h = some ((runP d i x S).1, h') ∧ X8 h' (runP d i x S).2 c sl ∧ same9 h h' := by
  intro d
  induction d with
  | zero =>
    intro i x S h hi ok x8
    have : i = N := by omega
    subst this
    refine ⟨h, ?_, x8, same9_r h⟩
    rw [show 0 + 201 = 200 + 1 from rfl, g_X8_run, if_pos (Int32.le_refl _)]; rfl
  | succ d ih =>
    intro i x S h hi ok x8
    obtain ⟨h1, e1, l1, x81, f1, len⟩ := li_8F ok x8 (d + 201) (by omega)
    by_cases z : (ts_all S.r S.s).length = 0
    · rw [runP_0 z]
      refine ⟨h1, ?_, x81, frY_9 f1⟩
      rw [show d + 1 + 201 = (d + 201) + 1 from by omega, g_X8_run, if_neg (nI_ge (show i < N by omega) (by omega)), e1, b2s, z, if_neg (show ¬ (0 : Int32) < nI 0 by decide)]
    · have hk : sdV x / 65536 % (ts_all S.r S.s).length < (ts_all S.r S.s).length := Nat.mod_lt _ (by omega)
      obtain ⟨e, he⟩ : ∃ e, (ts_all S.r S.s)[sdV x / 65536 % (ts_all S.r S.s).length]? = some e := ⟨_, List.getElem?_eq_getElem hk⟩
      rw [runP_s he]
      obtain ⟨h2, e2, x82, -, s2⟩ := dl_8 x81 l1 (show sdV x / 65536 % (ts_all S.r S.s).length < 90 by omega) he
      obtain ⟨h3, e3, x83, s3⟩ := ih (i + 1) (sdN x) _ h2 (by omega) (PSok_sg ok (reach_s ok.2.2.2.2.2.2.2.2.1 (List.mem_of_getElem? he)) _) x82
      refine ⟨h3, ?_, x83, same9_t (frY_9 f1) (same9_t s2 s3)⟩
      have vlt := sdV_lt x
      have sn : ((1103515245 : Int64) * x + (12345 : Int64)) &&& (2147483647 : Int64) = lL (sdV x) := sd_l x
      have md := lL_mod (a := sdV x / 65536) (b := (ts_all S.r S.s).length) (by omega) (by omega) (by omega)
      rw [show d + 1 + 201 = (d + 201) + 1 from by omega, g_X8_run, if_neg (nI_ge (show i < N by omega) (by omega)), e1, b2s, if_pos (show (0 : Int32) < nI (ts_all S.r S.s).length from (nI_ltI (a := 0) (b := (ts_all S.r S.s).length) (by decide) (by omega)).mpr (by omega)), lL_n (by omega), nzJ (by omega) (by omega), cond_true, sn, sh16 (by omega), md, e2, b2s, hp_1, ← sd_l x]
      exact e3
theorem rn_9 {N : Nat} (hN : N ≤ 200) (a1 : Int32) : ∀ (d i : Nat) (x : Int64) (S : PS) (h : am_H), i + d = N → PSok S → X9p h S → L9 h (ts_all S.r S.s) → ∃ h', g_X9_run (d + 201) 0 a1 (nI N) x (nI i) h = some ((runP d i x S).1, h') ∧ X9p h' (runP d i x S).2 ∧ same8 h h' := by
  intro d
  induction d with
  | zero =>
    intro i x S h hi ok x9 l
    have : i = N := by omega
    subst this
    refine ⟨h, ?_, x9, same8_r h⟩
    rw [show 0 + 201 = 200 + 1 from rfl, g_X9_run, if_pos (Int32.le_refl _)]; rfl
  | succ d ih =>
    intro i x S h hi ok x9 l
    have len := ts_len S.r S.s
    by_cases z : (ts_all S.r S.s).length = 0
    · rw [runP_0 z]
      refine ⟨h, ?_, x9, same8_r h⟩
      rw [show d + 1 + 201 = (d + 201) + 1 from by omega, g_X9_run, if_neg (nI_ge (show i < N by omega) (by omega)), l.1, z, if_pos (show nI 0 ≤ (0 : Int32) by decide)]
    · have hk : sdV x / 65536 % (ts_all S.r S.s).length < (ts_all S.r S.s).length := Nat.mod_lt _ (by omega)
      obtain ⟨e, he⟩ : ∃ e, (ts_all S.r S.s)[sdV x / 65536 % (ts_all S.r S.s).length]? = some e := ⟨_, List.getElem?_eq_getElem hk⟩
      rw [runP_s he]
      have hm := List.mem_of_getElem? he
      obtain ⟨h1, e1, i1, x91, s1⟩ := dl_9 ok x9 hm (d + 201) (by omega)
      have ok' := PSok_sg ok (reach_s ok.2.2.2.2.2.2.2.2.1 hm) (S.sc + Int32.ofInt 1)
      obtain ⟨h2, e2, l2, x92, s2⟩ := li_9 ok' x91 (d + 201) (by omega)
      obtain ⟨h3, e3, x93, s3⟩ := ih (i + 1) (sdN x) _ h2 (by omega) ok' x92 l2
      refine ⟨h3, ?_, x93, same8_t s1 (same8_t s2 s3)⟩
      have vlt := sdV_lt x
      have sn : ((1103515245 : Int64) * x + (12345 : Int64)) &&& (2147483647 : Int64) = lL (sdV x) := sd_l x
      have dv : lL (sdV x) / (65536 : Int64) = lL (sdV x / 65536) := lL_div (a := sdV x) (b := 65536) (by omega) (by decide) (by decide)
      have md := lL_mod (a := sdV x / 65536) (b := (ts_all S.r S.s).length) (by omega) (by omega) (by omega)
      rw [show d + 1 + 201 = (d + 201) + 1 from by omega, g_X9_run, if_neg (nI_ge (show i < N by omega) (by omega)), l.1, if_neg (nI_nle0 z (by omega)), lL_n (by omega), nzJ (by omega) (by omega), cond_true, sn, dv, md, hp_vp (show sdV x / 65536 % (ts_all S.r S.s).length < 96 by omega) (by decide), cond_true, nI_clamp (show sdV x / 65536 % (ts_all S.r S.s).length < 2 ^ 31 by omega), l.2 _ e he, e1, b2s, i1, e2, b2s, hp_1, ← sd_l x]
      exact e3
theorem cl_21 (a1 a2 : Int32) {h : am_H} {c sl : Nat} (J : JJ h c sl) : am_stat h ∧ po_21 a1 a2 JJ h c sl := by
  obtain ⟨S, ok, x8, x9⟩ := J
  refine ⟨X8_st x8, ?_⟩
  have out : (∀ n, f_X8_run n a1 a2 h = some (Int32.ofInt (-102), h)) → (∀ n, f_X9_run n a1 a2 h = some (Int32.ofInt (-102), h)) → po_21 a1 a2 JJ h c sl := fun e1 e2 => ⟨0, 0, Int32.ofInt (-102), h, h, e1 0, e2 0, JJ_ro ok x8 x9⟩
  by_cases c1 : a1 < 0
  · refine out (fun n => ?_) (fun n => ?_)
    · unfold f_X8_run; rw [if_pos c1]
    · unfold f_X9_run; rw [if_pos c1]
  · by_cases c2 : a2 < Int32.ofInt 1
    · refine out (fun n => ?_) (fun n => ?_)
      · unfold f_X8_run; rw [if_neg c1, if_pos c2]
      · unfold f_X9_run; rw [if_neg c1, wi_f (Or.inl c2), b2s, if_pos (show bI false = 0 from rfl)]
    · have nn : ¬ a2 < 0 := fun q => c2 (Int32.lt_trans q (by decide))
      obtain ⟨N, hN31, rfl⟩ := i32_nn nn
      by_cases c3 : N ≤ 200
      · have le : nI N ≤ Int32.ofInt 200 := nI_le (b := 200) c3 (by decide)
        have ng : ¬ Int32.ofInt 200 < nI N := fun q => by have := (nI_ltI (a := 200) (b := N) (by decide) hN31).mp q; omega
        obtain ⟨h1, e1, x81, s1⟩ := rn_8 c3 a1 N 0 (Int32.toInt64 a1) S h (by omega) ok x8
        have x91 := X9_loc x9 (X8_st x81) s1
        obtain ⟨h2, e2, l2, x92, s2⟩ := li_9 ok x91 (N + 201) (by omega)
        obtain ⟨h3, e3, x93, s3⟩ := rn_9 c3 a1 N 0 (Int32.toInt64 a1) S h2 (by omega) ok x92 l2
        refine ⟨N + 201, N + 201, (runP N 0 (Int32.toInt64 a1) S).1, h1, h3, ?_, ?_, JJ_of (runP_ok N 0 _ S ok) x81 (same8_t s2 s3) x93⟩
        · unfold f_X8_run; rw [if_neg c1, if_neg c2, if_pos le]; exact e1
        · unfold f_X9_run; rw [if_neg c1, wi_t c2 ng, b2s, if_neg (show ¬ bI true = 0 by decide), e2, b2s]; exact e3
      · have nle : ¬ nI N ≤ Int32.ofInt 200 := nI_ge (a := 200) (b := N) (by omega) hN31
        refine out (fun n => ?_) (fun n => ?_)
        · unfold f_X8_run; rw [if_neg c1, if_neg c2, if_neg nle]
        · unfold f_X9_run; rw [if_neg c1, wi_f (Or.inr (show Int32.ofInt 200 < nI N from (nI_ltI (a := 200) (b := N) (by decide) hN31).mpr (by omega))), b2s, if_pos (show bI false = 0 from rfl)]
