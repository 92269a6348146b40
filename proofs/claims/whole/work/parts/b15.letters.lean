/-! ===== letters, fault ===== -/
theorem lt_low (w : Int64) (n : Nat) : ∀ (d i c : Nat) (s : Int32) (h : am_H), i + d = 8 → (∃ j, i ≤ j ∧ j < 8 ∧ Int32.ofInt 126 < lt_b w (nI j)) → g_X4_told (n + d + 1) 0 w (nI c) s (nI i) h = some (Int32.ofInt (-102), h) := by
  intro d
  induction d with
  | zero => intro i c s h hi ⟨j, a, b, _⟩; omega
  | succ d ih =>
    intro i c s h hi hj
    have h8 : ¬ Int32.ofInt 8 ≤ nI i := nI_ge (a := i) (b := 8) (by omega) (by decide)
    have t1 : g_X4_told (n + (d + 1) + 1) 0 w (nI c) s (nI i) h = (if Int32.ofInt 126 < lt_b w (nI i) then some (Int32.ofInt (-102), h) else if s = 0 then (if lt_b w (nI i) = 0 then g_X4_told (n + d + 1) 0 w (nI c) (Int32.ofInt 1) (nI (i + 1)) h else g_X4_told (n + d + 1) 0 w (nI (c + 1)) s (nI (i + 1)) h) else if lt_b w (nI i) = 0 then g_X4_told (n + d + 1) 0 w (nI c) (Int32.ofInt 1) (nI (i + 1)) h else some (Int32.ofInt (-102), h)) := by
      show (if Int32.ofInt 8 ≤ nI i then _ else (if Int32.ofInt 126 < lt_b w (nI i) then _ else if s = 0 then am_b2 (if lt_b w (nI i) = 0 then _ else _) _ else if lt_b w (nI i) = 0 then am_b2 (if lt_b w (nI i) = 0 then _ else _) _ else _)) = _
      rw [if_neg h8, hp_1, hp_1]
      by_cases hb : lt_b w (nI i) = 0
      · simp only [if_pos hb, b2s]; rfl
      · simp only [if_neg hb, b2s]; rfl
    rw [t1]
    by_cases h126 : Int32.ofInt 126 < lt_b w (nI i)
    · rw [if_pos h126]
    · rw [if_neg h126]
      have hj' : ∃ j, i + 1 ≤ j ∧ j < 8 ∧ Int32.ofInt 126 < lt_b w (nI j) := by
        obtain ⟨j, a, b, e⟩ := hj
        refine ⟨j, ?_, b, e⟩
        have : j ≠ i := fun q => h126 (by rw [← q]; exact e)
        omega
      have I := fun c s => ih (i + 1) c s h (by omega) hj'
      by_cases hz : s = 0
      · rw [if_pos hz]
        by_cases hb : lt_b w (nI i) = 0
        · rw [if_pos hb]; exact I _ _
        · rw [if_neg hb]; exact I _ _
      · rw [if_neg hz]
        by_cases hb : lt_b w (nI i) = 0
        · rw [if_pos hb]; exact I _ _
        · rw [if_neg hb]
theorem lt_nn : ∀ n, n < 256 → ¬ Int32.ofInt 126 < Int32.ofBitVec ((BitVec.ofNat 8 n).setWidth 32) → (BitVec.ofNat 8 n).signExtend 32 = (BitVec.ofNat 8 n).setWidth 32 := by decide +kernel
theorem lt_s8 (y : BitVec 64) : ((y.signExtend 32).signExtend 8) = y.setWidth 8 := by
  rw [BitVec.signExtend_eq_setWidth_of_le _ (by decide), BitVec.signExtend_eq_setWidth_of_le _ (by decide), BitVec.setWidth_setWidth_of_le _ (by decide)]
theorem lt_s32 (z : BitVec 8) : ((z.signExtend 32).signExtend 8) = z := by
  rw [BitVec.signExtend_eq_setWidth_of_le _ (by decide)]
  apply BitVec.eq_of_getLsbD_eq
  intro i hi
  have h32 : i < 32 := by omega
  simp only [BitVec.getLsbD_signExtend, BitVec.getLsbD_setWidth, if_pos hi, decide_eq_true hi, decide_eq_true h32, Bool.true_and]
theorem lt_a8 (y : BitVec 64) : (y &&& 255#64).signExtend 32 = (y.setWidth 8).setWidth 32 := by
  rw [BitVec.signExtend_eq_setWidth_of_le _ (by decide)]
  apply BitVec.eq_of_getLsbD_eq
  intro i hi
  simp only [BitVec.getLsbD_setWidth, BitVec.getLsbD_and, decide_eq_true hi, Bool.true_and]
  by_cases h8 : i < 8
  · rw [(lt_255 i h8).1, decide_eq_true h8, Bool.and_true, Bool.true_and]
  · rw [(lt_256 i hi (by omega)).1, decide_eq_false h8, Bool.and_false, Bool.false_and]
theorem lt_89 (w : Int64) {i : Nat} (hi : i < 8) (hb : ¬ Int32.ofInt 126 < lt_b w (nI i)) : lt_b9 w (nI i) = lt_b w (nI i) := by
  have e := lt_eq w hi
  unfold lt_b9
  rw [show am_at 1 = .byte from rfl, vp_nar_byte]
  generalize hy : w >>> (Int32.toInt64 ((Int32.ofInt 8) * nI i) &&& 63) = y at e
  have e2 : (lt_b w (nI i)).toBitVec = (y.toBitVec.setWidth 8).setWidth 32 := by rw [← e, ← lt_a8]; rfl
  apply Int32.toBitVec.inj
  rw [e2]
  show ((((y.toBitVec.signExtend 32).signExtend 8).signExtend 32).signExtend 8).signExtend 32 = _
  rw [lt_s32, lt_s8]
  obtain ⟨v, hv⟩ : ∃ v : BitVec 8, v = y.toBitVec.setWidth 8 := ⟨_, rfl⟩
  rw [← hv] at e2 ⊢
  have hn := lt_nn v.toNat v.isLt
  rw [BitVec.ofNat_toNat, BitVec.setWidth_eq] at hn
  refine hn ?_
  rw [show Int32.ofBitVec (v.setWidth 32) = lt_b w (nI i) from by apply Int32.toBitVec.inj; rw [e2]; rfl]
  exact hb
/-- scratch cells of the reference: reader, machines -/
def frKx (h h' : am_H) : Prop := (h'.1 = h.1 ∧ am_K h' = am_K h ∧ am_A h' = am_A h) ∧ am_J h' = am_J h ∧ (∀ q, q ≠ 51 → (q < 60 ∨ 76 < q) → am_I h' q = am_I h q) ∧ ∀ k, k ≤ 13 ∨ 40 ≤ k → am_I h' 51 k = am_I h 51 k
theorem frKx_r (h : am_H) : frKx h h := ⟨⟨rfl, rfl, rfl⟩, rfl, fun _ _ _ => rfl, fun _ _ => rfl⟩
theorem frKx_t {a b c : am_H} (f : frKx a b) (g : frKx b c) : frKx a c := ⟨⟨g.1.1.trans f.1.1, g.1.2.1.trans f.1.2.1, g.1.2.2.trans f.1.2.2⟩, g.2.1.trans f.2.1, fun q x y => (g.2.2.1 q x y).trans (f.2.2.1 q x y), fun k x => (g.2.2.2 k x).trans (f.2.2.2 k x)⟩
theorem frKx_62 {a b : am_H} (f : frKx a b) {k : Nat} (x : Int32) (h1 : 13 < k) (h2 : k < 40) : frKx a (am_sI b 51 k x) := ⟨f.1, f.2.1, fun q hq c => by rw [hp_I' _ _ _ hq]; exact f.2.2.1 q hq c, fun j hj => by rw [hp_I, upd_ne (by omega)]; exact f.2.2.2 j hj⟩
theorem same8_K {h h' : am_H} (f : frKx h h') : same8 h h' := ⟨f.1.1, f.1.2.1, f.1.2.2, fun p hp => ⟨f.2.2.1 p (by omega) (by omega), by rw [f.2.1]⟩⟩
theorem X9_K {h h' : am_H} {S : PS} (x : X9p h S) (f : frKx h h') : X9p h' S := by
  obtain ⟨st, y, k, c⟩ := x
  exact ⟨stat_8 st (same8_K f), Y9_c y (fun j hj => f.2.2.2 j (by omega)) (fun q a b => f.2.2.1 q (by omega) (by omega)), K9_c k (fun j hj => f.2.2.2 j (by omega)) (fun q hq => f.2.2.1 q (by omega) (by omega)), C9_c c (fun j a b => f.2.2.2 j (by omega)) (fun q a b => f.2.2.1 q (by omega) (by omega)) (by rw [f.2.1])⟩
theorem rd_run_c {sort : Int32} {r r' : Nat → Int32} : ∀ (k i ph d : Nat), (∀ j, j < i + k → r j = r' j) → rd_run sort r k i ph d = rd_run sort r' k i ph d := by
  intro k
  induction k with
  | zero => intro i ph d _; rfl
  | succ k ih =>
    intro i ph d e
    unfold rd_run
    rw [e (i - 1) (by omega), e i (by omega)]
    cases rd_step sort (r' (i - 1)) (r' i) ph d with
    | none => rfl
    | some x => exact ih (i + 1) x.1 x.2 (fun j hj => e j (by omega))
/-- the class reads the page -/
theorem fi_8 {h : am_H} {m : Nat} {tx : Nat → Int32} (st : am_stat h) (t : tx8 h 1 2 m tx) (sort : Int32) (F : Nat) (hF : 100 ≤ F) : ∃ h', f_X5_faultIn F 1 sort h = some (nI (rd_run sort tx m 0 0 0).1, h') ∧ fr8 h h' ∧ ∀ p q, (rd_run sort tx m 0 0 0).2 = some (p, q) → am_I h' 3 1 = nI p ∧ am_I h' 3 2 = nI q ∧ p ≤ 4 ∧ q ≤ m := by
  obtain ⟨-, -, -, t1, t2, -, -, m60⟩ := t
  generalize hh0 : am_sI (am_sI h 3 1 (Int32.ofInt 0)) 3 2 (Int32.ofInt 0) = h0
  have f0 : fr8 h h0 := by rw [← hh0]; exact fr8_s (fr8_s (fr8_r h) 1 _ (by decide) (by decide)) 2 _ (by decide) (by decide)
  have st0 : am_stat h0 := by rw [← hh0]; exact st
  have i2 : am_I h0 2 = am_I h 2 := f0.2.2.2.2 2 (by omega)
  have rc : rd_run sort (am_I h0 2) m 0 0 0 = rd_run sort tx m 0 0 0 := rd_run_c _ _ _ _ (fun j hj => by rw [i2]; exact t2 j (by omega))
  obtain ⟨x, e, g1, g2, g3⟩ := rd_8l sort (F - m - 1) m m60 m 0 0 0 (Int32.ofInt 0) h0 st0 (by rw [f0.2.2.2.2 1 (by omega)]; exact t1) (by omega) (by rw [← hh0, hp_I, upd_ne (by decide), hp_I, upd_at]; rfl) (by omega) (by rw [← hh0, hp_I, upd_at]; rfl) (by omega) (fun q => by omega) (fun _ => rfl)
  rw [show F - m - 1 + m + 1 = F from by omega] at g1
  rw [rc] at g1 g3
  refine ⟨am_sI (am_sI h0 3 1 x) 3 2 (nI e), ?_, fr8_s (fr8_s f0 1 _ (by decide) (by decide)) 2 _ (by decide) (by decide), fun p q c => ?_⟩
  · unfold f_X5_faultIn; rw [hh0]; exact g1
  · obtain ⟨rfl, rfl, p4, q4⟩ := g3 p q c
    exact ⟨by rw [hp_I, upd_ne (by decide), hp_I, upd_at], by rw [hp_I, upd_at], p4, q4⟩
/-- the reference reads the page -/
theorem rp_9 {h : am_H} {m : Nat} {tx : Nat → Int32} (e0 : am_I h 51 0 = nI m) (e : ∀ j, j < 60 → am_I h 52 j = tx j) (m60 : m ≤ 60) (sort : Int32) (F : Nat) (hF : 100 ≤ F) : ∃ h', f_X9_readPage F sort h = some ((), h') ∧ am_I h' 51 14 = nI (rd_run sort tx m 0 0 0).1 ∧ am_I h' 51 15 = bI (rd_whole (rd_run sort tx m 0 0 0).2) ∧ frKx h h' := by
  have g := rd_9l sort (F - m - 2) m m60 h e0 m 0 0 0 (by omega) (by omega) (by omega) (fun _ => rfl)
  rw [show F - m - 2 + m + 2 = F from by omega, rd_run_c (r' := tx) _ _ _ _ (fun j hj => e j (by omega))] at g
  exact ⟨_, g, by rw [hp_I, upd_ne (by decide), hp_I, upd_at], by rw [hp_I, upd_at], frKx_62 (frKx_62 (frKx_r h) _ (by decide) (by decide)) _ (by decide) (by decide)⟩
theorem cl_2 (a1 : Int32) {h : am_H} {c sl : Nat} (J : JJ h c sl) : am_stat h ∧ po_2 a1 JJ h c sl := by
  obtain ⟨S, ok, x8, x9⟩ := J
  refine ⟨X8_st x8, 100, 100, ?_⟩
  obtain ⟨h1, e1, f1, -⟩ := fi_8 (X8_st x8) (X8_tx x8) a1 100 (by decide)
  have x81 := X8_Y x8 (frY_8 f1)
  have x91 := X9_loc x9 (X8_st x81) (frY_9 (frY_8 f1))
  obtain ⟨h2, e2, i14, -, f2⟩ := rp_9 x91.2.1.1.1 x91.2.1.1.2 ok.1 a1 100 (by decide)
  have x92 := X9_K x91 f2
  have fin : f_X8_fault 100 a1 h = some (nI (rd_run a1 S.tx S.m 0 0 0).1, h1) → f_X9_within a1 (Int32.ofInt 0) (Int32.ofInt 1) h1 = some (bI true, h1) → ∃ (v : Int32) (h1 h2 : am_H), f_X8_fault 100 a1 h = some (v, h1) ∧ f_X9_fault 100 a1 h1 = some (v, h2) ∧ c ≤ 600000 ∧ sl ≤ 7302250 ∧ JJ h2 c sl := fun q w => by
    refine ⟨_, h1, h2, q, ?_, JJ_of ok x81 (same8_K f2) x92⟩
    unfold f_X9_fault
    rw [w, b2s, if_neg (show ¬ bI true = 0 by decide), e2, b2s, i14]
  by_cases c0 : a1 = 0
  · refine fin ?_ ?_
    · unfold f_X8_fault; rw [if_pos c0, e1, b2s, b2s]
    · rw [c0]; exact wi_t (by decide) (by decide) h1
  · by_cases c1 : a1 = Int32.ofInt 1
    · refine fin ?_ ?_
      · unfold f_X8_fault; rw [if_neg c0, if_pos c1, e1, b2s, b2s]
      · rw [c1]; exact wi_t (by decide) (by decide) h1
    · refine ⟨Int32.ofInt (-102), h, h, ?_, ?_, JJ_ro ok x8 x9⟩
      · unfold f_X8_fault; rw [if_neg c0, if_neg c1, b2s]
      · have w : f_X9_within a1 (Int32.ofInt 0) (Int32.ofInt 1) h = some (bI false, h) := by
          refine wi_f ?_ h
          by_cases n : a1 < Int32.ofInt 0
          · exact Or.inl n
          · obtain ⟨v, hv, rfl⟩ := i32_nn n
            refine Or.inr ((nI_ltI (a := 1) (b := v) (by decide) hv).mpr ?_)
            have z0 : v ≠ 0 := fun q => c0 (by rw [q]; rfl)
            have z1 : v ≠ 1 := fun q => c1 (by rw [q]; rfl)
            omega
        unfold f_X9_fault
        rw [w, b2s, if_pos (show bI false = 0 from rfl)]
theorem cl_0 (w : Int64) {h : am_H} {c sl : Nat} (J : JJ h c sl) : am_stat h ∧ po_0 w JJ h c sl := by
  obtain ⟨S, ok, x8, x9⟩ := J
  have t := X8_tx x8
  refine ⟨X8_st x8, 100, 100, ?_⟩
  rcases lt_ok w S.m h (X8_st x8) t.2.2.2.1 x9.2.1.1.1 ok.1 with ⟨v, e1, e2⟩ | ⟨n, n8, n60, e1, e2⟩
  · exact ⟨v, h, h, e1, e2, JJ_ro ok x8 x9⟩
  · have lo : ∀ j, j < 8 → ¬ Int32.ofInt 126 < lt_b w (nI j) := by
      intro j hj q
      have z := lt_low w 91 8 0 0 (Int32.ofInt 0) h (by omega) ⟨j, Nat.zero_le _, hj, q⟩
      have : f_X8_letters 100 w h = some (Int32.ofInt (-102), h) := by
        unfold f_X8_letters f_X4_told
        rw [show g_X4_told 100 0 w (Int32.ofInt 0) (Int32.ofInt 0) (Int32.ofInt 0) h = _ from z, b2s, if_neg (by decide)]
      rw [e1] at this
      injection this with this
      have := congrArg Prod.fst this
      have this : nI (S.m + n) = Int32.ofInt (-102) := this
      have p := nI_pos (n := S.m + n) (by omega)
      rw [this] at p
      exact p (by decide)
    generalize hh1 : am_sI (am_sR h 2 (lt_row (fun j => lt_b w (nI j)) (am_I h 2) S.m 0 n)) 1 1 (nI (S.m + n)) = h1 at e1
    have eI : ∀ p, p ≠ 1 → p ≠ 2 → am_I h1 p = am_I h p := fun p a b => by rw [← hh1, hp_I' _ _ _ a, hp_IR' _ _ b]
    have s0 : h1.1 = h.1 ∧ am_K h1 = am_K h ∧ am_A h1 = am_A h := by rw [← hh1]; exact ⟨rfl, rfl, rfl⟩
    have eJ : am_J h1 = am_J h := by rw [← hh1]; rfl
    have row : ∀ (b : Nat → Int32) (r : Nat → Int32), (∀ j, j < n → b j = lt_b w (nI j)) → (∀ j, j < 60 → r j = S.tx j) → ∀ j, j < 60 → lt_row b r S.m 0 n j = lt_row (fun j => lt_b w (nI j)) S.tx S.m 0 n j := by
      intro b r eb er j hj
      unfold lt_row
      by_cases q : S.m ≤ j ∧ j < S.m + n
      · rw [if_pos q, if_pos q]; exact eb _ (by omega)
      · rw [if_neg q, if_neg q]; exact er j hj
    have x81 : X8 h1 (S.pg (S.m + n) (lt_row (fun j => lt_b w (nI j)) S.tx S.m 0 n)) c sl := by
      refine X8_pg x8 s0 eJ eI ⟨by rw [s0.2.1]; exact t.1, by rw [s0.2.2]; exact t.2.1, by rw [s0.2.1]; exact t.2.2.1, by rw [← hh1, hp_I, upd_at], fun j hj => ?_, t.2.2.2.2.2.1, t.2.2.2.2.2.2.1, n60⟩
      rw [← hh1, hp_I' _ _ _ (by decide), hp_IR]
      exact row _ _ (fun _ _ => rfl) t.2.2.2.2.1 j hj
    have x91 : X9p h1 S := X9_loc x9 (X8_st x81) (fun p a b => ⟨eI p (by omega) (by omega), by rw [eJ]⟩)
    have ok' : PSok (S.pg (S.m + n) (lt_row (fun j => lt_b w (nI j)) S.tx S.m 0 n)) := ⟨n60, ok.2⟩
    have e3 := e2 h1 x91.2.1.1.1
    generalize hh2 : am_sI (am_sR h1 52 (lt_row (fun j => lt_b9 w (nI j)) (am_I h1 52) S.m 0 n)) 51 0 (nI (S.m + n)) = h2 at e3
    have i62 : ∀ k, k ≠ 0 → am_I h2 51 k = am_I h1 51 k := fun k hk => by rw [← hh2, hp_I, upd_ne hk, hp_IR' _ _ (by decide)]
    have i0 : ∀ q, q ≠ 51 → q ≠ 52 → am_I h2 q = am_I h1 q := fun q a b => by rw [← hh2, hp_I' _ _ _ a, hp_IR' _ _ b]
    have f2 : same8 h1 h2 := by rw [← hh2]; exact ⟨rfl, rfl, rfl, fun p hp => ⟨by rw [hp_I' _ _ _ (by omega), hp_IR' _ _ (by omega)], rfl⟩⟩
    refine ⟨_, h1, h2, e1, e3, JJ_of ok' x81 f2 ?_⟩
    obtain ⟨st, y, k, c9⟩ := x91
    refine ⟨stat_8 st f2, ⟨⟨by rw [← hh2, hp_I, upd_at]; rfl, fun j hj => ?_⟩, ⟨by rw [i62 2 (by decide)]; exact y.2.1.1, by rw [i0 53 (by decide) (by decide), i0 54 (by decide) (by decide), i0 55 (by decide) (by decide)]; exact y.2.1.2⟩, ⟨by rw [i62 6 (by decide)]; exact y.2.2.1, by rw [i0 56 (by decide) (by decide), i0 57 (by decide) (by decide)]; exact y.2.2.2⟩⟩, K9_c k (fun j hj => i62 j (by omega)) (fun q hq => i0 q (by omega) (by omega)), C9_c c9 (fun j a b => i62 j (by omega)) (fun q a b => i0 q (by omega) (by omega)) (by rw [← hh2]; rfl)⟩
    rw [← hh2, hp_I' _ _ _ (by decide), hp_IR]
    exact row _ _ (fun i hi => lt_89 w (by omega) (lo i (by omega))) y.1.2 j hj
