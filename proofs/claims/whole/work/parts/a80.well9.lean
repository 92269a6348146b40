/-! ===== the reference: forever now, the most that lies, whether all is well ===== -/
noncomputable def nwV (r : TR) (sd : Nat → Bool) (s : TS) : Int32 := bif (svAll r).sp then Int32.ofInt (-2) else bI (!svH r sd (svIx (svAll r) s))
theorem svP_n {r : TR} {sd : Nat → Bool} {w i : Nat} (h : w ≠ 3) : svP r sd w i = tIs r sd ((svAll r).s i) w := if_neg h
theorem sp_cases (r : TR) : (svAll r).sp = true ∨ (svAll r).sp = false := by
  cases (svAll r).sp
  · exact Or.inr rfl
  · exact Or.inl rfl
/-- where a reached state stands -/
theorem ix_in {r : TR} (hr : r.all) (sp : (svAll r).sp = false) {s : TS} (rc : reach r s) : svIx (svAll r) s < (svAll r).n ∧ (svAll r).s (svIx (svAll r) s) = s := by
  have okA : svOk r (svAll r) := svRow_ok hr.1 hr.2.1 2000
  obtain ⟨t, ht⟩ := rc
  obtain ⟨i, hi, e⟩ := reach_in hr.1 hr.2.1 sp t s ht
  have := svIx_of okA (reach_sk hr.1 hr.2.1 ⟨t, ht⟩).1 hi (by rw [e]; exact tsE_r s)
  rw [this]; exact ⟨hi, e⟩
theorem nw_9 {h : am_H} {r : TR} (hr : r.all) {sd : Nat → Bool} {s : TS} (u : U9 h r sd s) (c : C9 h r sd) (rc : reach r s) (F : Nat) (hF : 6000000 ≤ F) : ∃ h', f_X9_now F (nI 3) h = some (nwV r sd s, h') ∧ U9 h' r sd s ∧ C9m h' r sd ∧ frA9 h h' := by
  obtain ⟨h1, e1, u1, c1, f1⟩ := ma_all hr u c F (by omega)
  have hd : ∀ X, ((if (am_I h1 51 51) = 0 then am_b2 (f_X9_layFine F h1) fun r10 h11 => (am_b2 (f_X9_asState F h11) fun r13 h14 => (am_b2 (f_X9_stateNumber F r13 h14) fun r16 h17 => (bif am_vp r16 8192 then (bif am_vp ((am_I h17 84 (Int32.toNatClampNeg r16)) - (Int32.ofInt 1)) 2001 then (Option.bind ((if (am_I h17 83 (Int32.toNatClampNeg ((am_I h17 84 (Int32.toNatClampNeg r16)) - (Int32.ofInt 1)))) = 0 then some (Int32.ofInt 1) else some (Int32.ofInt 0))) fun y21 => (some (y21, h17))) else none) else none))) else some ((Int32.ofInt (-2)), h1))) = X → f_X9_now F (nI 3) h = X := by
    intro X hX
    have w : f_X9_within (nI 3) (Int32.ofInt 0) (Int32.ofInt 4) h = some (bI true, h) := rfl
    unfold f_X9_now
    rw [w, b2s, if_neg (show ¬ bI true = 0 by decide), if_pos (show nI 3 = Int32.ofInt 3 from rfl), e1, b2s]
    exact hX
  rw [C9m_51 c1] at hd
  unfold nwV
  rcases sp_cases r with sp | sp
  · rw [sp] at hd ⊢
    exact ⟨h1, hd _ (by rw [if_neg (show ¬ bI true = 0 by decide)]; rfl), u1, c1, f1⟩
  · have okA : svOk r (svAll r) := svRow_ok hr.1 hr.2.1 2000
    have n2 := okA.1.2
    obtain ⟨h2, e2, u2, q2, e51, e52, e53, x2, f2⟩ := fl_9 hr u1 c1 sp F (by omega)
    have a2 := as_st (F - 20) (T9_W u2.1) (sk_w u2.2.2.2)
    rw [show F - 20 + 20 = F from by omega] at a2
    obtain ⟨⟨T, V⟩, -⟩ := q2.2.2.2.1
    obtain ⟨D, hDM, hD, st⟩ := sl_9 V (lL (wN s))
    obtain ⟨hi, ei⟩ := ix_in hr sp rc
    have hk : k9 (svAll r) (svIx (svAll r) s) = lL (wN s) := by unfold k9; rw [ei]
    rw [← hk] at hD
    have hT := oa_old V.2.2.2.2 hi hD
    have hs : (hs9 (lL (wN s)) + D) % 8192 < 8192 := Nat.mod_lt _ (by decide)
    have r95 := V.2.2.2.1 _ hs
    rw [hk] at hT
    rw [hT] at r95
    refine ⟨h2, hd _ ?_, u2, C9m_of q2 sp e52 e53 x2, frA9_t f1 f2⟩
    rw [sp, if_pos (show bI false = 0 from rfl), e2, b2s, a2, b2s, st F (by omega), b2s, hp_vp hs (by decide), cond_true, nI_clamp (by omega), r95, nI_m1 (Nat.succ_ne_zero _), Nat.succ_sub_one, hp_vp (show svIx (svAll r) s < 2001 by omega) (by decide), cond_true, nI_clamp (show svIx (svAll r) s < 2 ^ 31 by omega), x2 _ hi]
    cases svH r sd (svIx (svAll r) s) <;> rfl
def mxN (g : Nat → Nat) : Nat → Nat
  | 0 => 0
  | n + 1 => if mxN g n < g n then g n else mxN g n
theorem mxN_le {g : Nat → Nat} {B : Nat} (h : ∀ i, g i ≤ B) : ∀ n, mxN g n ≤ B
  | 0 => Nat.zero_le _
  | n + 1 => by
    show (if mxN g n < g n then g n else mxN g n) ≤ B
    split
    · exact h n
    · exact mxN_le h n
def moG (r : TR) (p i : Nat) : Nat := ps_sz (((svAll r).s i).2 p)
theorem moG_le (r : TR) (p i : Nat) : moG r p i ≤ 3 := sz_le _
def moV (r : TR) (p : Nat) : Int32 := bif (svAll r).sp then Int32.ofInt (-2) else nI (mxN (moG r p) (svAll r).n)
theorem mo_9l {r : TR} (hr : r.all) {sd : Nat → Bool} {s : TS} (hs : r.sk s) {f t : Nat} (hf : f < 3) (ht : t < 3) (ne : f ≠ t) (F : Nat) (hF : 300 ≤ F) : ∀ (d k : Nat) (h : am_H), k + d = (svAll r).n → R9 h r sd → ∃ h', g_X9_most (F + d + 1) 0 (nI f) (nI t) (lL (wN s)) (nI (mxN (moG r (pn f t)) k)) (nI k) h = some (nI (mxN (moG r (pn f t)) (svAll r).n), h') ∧ R9 h' r sd ∧ T9 h' r s ∧ frB h h' ∧ am_I h' 83 = am_I h 83 := by
  have okA : svOk r (svAll r) := svRow_ok hr.1 hr.2.1 2000
  have n2 := okA.1.2
  intro d
  induction d with
  | zero =>
    intro k h hk q
    have hk' : k = (svAll r).n := by omega
    obtain ⟨s0, t0⟩ := q.2.2.1
    obtain ⟨h2, e2, t2, f2⟩ := ly_9 t0 hs (F - 20)
    rw [show F - 20 + 20 = F from by omega] at e2
    refine ⟨h2, ?_, R9_Z q f2 t2, t2, frB_Z f2, f2.1.2 83 (by decide) (by decide)⟩
    rw [show F + 0 + 1 = F + 1 from rfl, g_X9_most, q.2.2.2.1.1.choose_spec.1, hk', if_pos (Int32.le_refl _), e2, b2s]
  | succ d ih =>
    intro k h hk q
    have kn : k < (svAll r).n := by omega
    obtain ⟨eJ, h1, e1, t1, q1, f1, x1⟩ := lk_9 hr.1 hr.2.1 q kn (F + d + 1) (by omega)
    obtain ⟨h', e, q', t', f', x'⟩ := ih (k + 1) h1 (by omega) q1
    refine ⟨h', ?_, q', t', frB_t f1 f', x'.trans x1⟩
    have i9 : ((Int32.ofInt 3) * nI f) + nI t = nI (3 * f + t) := by rw [show Int32.ofInt 3 = nI 3 from rfl, nI_mul, nI_add]
    have c125 := ps_lt125 ((okA.2.1 k kn).2 (pn f t) (pn_lt hf ht ne))
    have e89 := (t1.2.1 f t hf ht ne).2
    have m3 : mxN (moG r (pn f t)) k ≤ 3 := mxN_le (fun i => moG_le r (pn f t) i) k
    have g3 : moG r (pn f t) k ≤ 3 := moG_le r (pn f t) k
    have sz := sz9 (h := h1) c125
    rw [show F + (d + 1) + 1 = (F + d + 1) + 1 from rfl, g_X9_most, q.2.2.2.1.1.choose_spec.1, if_neg (nI_ge kn (by omega)), hp_vp (show k < 2001 by omega) (by decide), cond_true, nI_clamp (show k < 2 ^ 31 by omega), eJ, e1, b2s, i9, hp_vp (show 3 * f + t < 9 by omega) (by decide), cond_true, nI_clamp (show 3 * f + t < 2 ^ 31 by omega), e89, sz, b2s, hp_1]
    have ee : (if nI (ps_sz (((svAll r).s k).2 (pn f t))) ≤ nI (mxN (moG r (pn f t)) k) then some (nI (mxN (moG r (pn f t)) k)) else some (nI (ps_sz (((svAll r).s k).2 (pn f t))))) = some (nI (mxN (moG r (pn f t)) (k + 1))) := by
      show (if nI (moG r (pn f t) k) ≤ nI (mxN (moG r (pn f t)) k) then some (nI (mxN (moG r (pn f t)) k)) else some (nI (moG r (pn f t) k))) = some (nI (if mxN (moG r (pn f t)) k < moG r (pn f t) k then moG r (pn f t) k else mxN (moG r (pn f t)) k))
      by_cases c : mxN (moG r (pn f t)) k < moG r (pn f t) k
      · rw [if_neg (nI_ge c (by omega)), if_pos c]
      · rw [if_pos (nI_le (by omega) (by omega)), if_neg c]
    rw [ee, b_some]
    exact e
theorem mo_9b {h : am_H} {r : TR} (hr : r.all) {sd : Nat → Bool} {s : TS} (u : U9 h r sd s) (c : C9 h r sd) {f t : Nat} (hf : f < 3) (ht : t < 3) (ne : f ≠ t) (F : Nat) (hF : 6000000 ≤ F) : ∃ h', (am_b2 (f_X9_meetAll F h) fun r5 h6 => ((if (am_I h6 51 51) = 0 then am_b2 (f_X9_asState F h6) fun r9 h10 => (g_X9_most F 0 (nI f) (nI t) r9 (Int32.ofInt 0) (Int32.ofInt 0) h10) else some ((Int32.ofInt (-2)), h6)))) = some (moV r (pn f t), h') ∧ U9 h' r sd s ∧ C9m h' r sd ∧ frA9 h h' := by
  obtain ⟨h1, e1, u1, c1, f1⟩ := ma_all hr u c F (by omega)
  rw [e1, b2s, C9m_51 c1]
  unfold moV
  rcases sp_cases r with sp | sp
  · rw [sp]
    exact ⟨h1, by rw [if_neg (show ¬ bI true = 0 by decide)]; rfl, u1, c1, f1⟩
  · have okA : svOk r (svAll r) := svRow_ok hr.1 hr.2.1 2000
    have n2 := okA.1.2
    obtain ⟨e52, c1'⟩ := c1
    rcases c1' with ⟨sp', -⟩ | ⟨-, q, e96, c53⟩
    · rw [sp] at sp'; cases sp'
    have q1 : R9 h1 r sd := ⟨u1.2.1, u1.2.2.1, ⟨s, u1.1⟩, q, e96⟩
    have a1 := as_st (F - 20) (T9_W u1.1) (sk_w u1.2.2.2)
    rw [show F - 20 + 20 = F from by omega] at a1
    obtain ⟨h2, e2, q2, t2, f2, x2⟩ := mo_9l hr u1.2.2.2 hf ht ne (F - (svAll r).n - 1) (by omega) (svAll r).n 0 h1 (by omega) q1
    rw [show F - (svAll r).n - 1 + (svAll r).n + 1 = F from by omega] at e2
    refine ⟨h2, ?_, ⟨t2, q2.1, q2.2.1, u1.2.2.2⟩, ⟨by rw [f2.2.1]; exact e52, Or.inr ⟨sp, q2.2.2.2.1, q2.2.2.2.2, ?_⟩⟩, frA9_t f1 f2.1⟩
    · rw [sp, if_pos (show bI false = 0 from rfl), a1, b2s]; exact e2
    · rw [f2.2.2]
      rcases c53 with a | ⟨a, b⟩
      · exact Or.inl a
      · exact Or.inr ⟨a, fun i hi => by rw [x2]; exact b i hi⟩
theorem bad_is (r : TR) (sd : Nat → Bool) (s : TS) : tBad r sd s ↔ (tIs r sd s 0 || (tIs r sd s 1 || tIs r sd s 2)) = true := by
  unfold tBad tMark tIs
  rw [if_pos rfl, if_neg (show ¬ (1 : Nat) = 0 by decide), if_pos rfl, if_neg (show ¬ (2 : Nat) = 0 by decide), if_neg (show ¬ (2 : Nat) = 1 by decide), if_pos rfl]
  generalize (tWr r sd s 0 || (tWr r sd s 1 || tWr r sd s 2)) = x
  generalize tEnd r sd s = a
  generalize tEmp s = b
  generalize Nat.beq (ts_all r s).length 0 = c
  cases x <;> cases a <;> cases b <;> cases c <;> decide
/-- whether the first k states are well -/
noncomputable def weK (r : TR) (sd : Nat → Bool) : Nat → Bool
  | 0 => true
  | k + 1 => weK r sd k && (svH r sd k && !(tIs r sd ((svAll r).s k) 0 || (tIs r sd ((svAll r).s k) 1 || tIs r sd ((svAll r).s k) 2)))
theorem weK_iff (r : TR) (sd : Nat → Bool) : ∀ n, weK r sd n = true ↔ ∀ k, k < n → svH r sd k = true ∧ ¬ tBad r sd ((svAll r).s k)
  | 0 => ⟨fun _ k hk => absurd hk (Nat.not_lt_zero _), fun _ => rfl⟩
  | n + 1 => by
    show (weK r sd n && (svH r sd n && !(tIs r sd ((svAll r).s n) 0 || (tIs r sd ((svAll r).s n) 1 || tIs r sd ((svAll r).s n) 2)))) = true ↔ _
    rw [Bool.and_eq_true, Bool.and_eq_true, weK_iff r sd n]
    constructor
    · intro ⟨a, b, c⟩ k hk
      by_cases ck : k = n
      · rw [ck]
        refine ⟨b, fun q => ?_⟩
        rw [(bad_is r sd _).mp q] at c
        cases c
      · exact a k (by omega)
    · intro a
      refine ⟨fun k hk => a k (by omega), (a n (by omega)).1, ?_⟩
      cases q : (tIs r sd ((svAll r).s n) 0 || (tIs r sd ((svAll r).s n) 1 || tIs r sd ((svAll r).s n) 2)) with
      | false => rfl
      | true => exact absurd ((bad_is r sd _).mpr q) (a n (by omega)).2
theorem we_9l {r : TR} (hr : r.all) {sd : Nat → Bool} {s : TS} (hs : r.sk s) (F : Nat) (hF : 300 ≤ F) : ∀ (d k : Nat) (h : am_H), k + d = (svAll r).n → R9 h r sd → X9 h (svAll r).n (svH r sd) → ∃ h', g_X9_isWell (F + d + 1) 0 (lL (wN s)) (bI (weK r sd k)) (nI k) h = some (bI (weK r sd (svAll r).n), h') ∧ R9 h' r sd ∧ T9 h' r s ∧ frB h h' ∧ X9 h' (svAll r).n (svH r sd) := by
  have okA : svOk r (svAll r) := svRow_ok hr.1 hr.2.1 2000
  have n2 := okA.1.2
  have fin : ∀ (h : am_H) (G : Nat) (b : Bool), 100 ≤ G → R9 h r sd → X9 h (svAll r).n (svH r sd) → ∃ h', (am_b2 (f_X9_layState G (lL (wN s)) h) fun _ h3 => (bif am_b01 (bI b) then (some (bI b, h3)) else none)) = some (bI b, h') ∧ R9 h' r sd ∧ T9 h' r s ∧ frB h h' ∧ X9 h' (svAll r).n (svH r sd) := by
    intro h G b hG q x
    obtain ⟨s0, t0⟩ := q.2.2.1
    obtain ⟨h2, e2, t2, f2⟩ := ly_9 t0 hs (G - 20)
    rw [show G - 20 + 20 = G from by omega] at e2
    refine ⟨h2, by rw [e2, b2s, b01_bI, cond_true], R9_Z q f2 t2, t2, frB_Z f2, fun i hi => by rw [f2.1.2 83 (by decide) (by decide)]; exact x i hi⟩
  have wf : ∀ d k, k + d = (svAll r).n → weK r sd k = false → weK r sd (svAll r).n = false := by
    intro d k hk hw
    cases q : weK r sd (svAll r).n with
    | false => rfl
    | true =>
      have a := (weK_iff r sd _).mp q
      have : weK r sd k = true := (weK_iff r sd k).mpr (fun i hi => a i (by omega))
      rw [hw] at this; cases this
  intro d
  induction d with
  | zero =>
    intro k h hk q x
    have hk' : k = (svAll r).n := by omega
    obtain ⟨h', e, r1, r2, r3, r4⟩ := fin h F (weK r sd k) (by omega) q x
    refine ⟨h', ?_, r1, r2, r3, r4⟩
    rw [show F + 0 + 1 = F + 1 from rfl, g_X9_isWell, q.2.2.2.1.1.choose_spec.1, if_pos (by rw [hk']; exact Int32.le_refl _), e, hk']
  | succ d ih =>
    intro k h hk q x
    have kn : k < (svAll r).n := by omega
    cases hw : weK r sd k with
    | false =>
      obtain ⟨h', e, r1, r2, r3, r4⟩ := fin h (F + (d + 1)) false (by omega) q x
      refine ⟨h', ?_, r1, r2, r3, r4⟩
      rw [show F + (d + 1) + 1 = (F + (d + 1)) + 1 from rfl, g_X9_isWell, q.2.2.2.1.1.choose_spec.1, if_neg (nI_ge kn (by omega)), if_pos (show bI false = 0 from rfl), e, wf (d + 1) k hk hw]
    | true =>
      have key : ∃ h2, (if am_I h 83 k = 0 then some ((Int32.ofInt 0), h) else am_b2 (f_X9_isStateSo (F + (d + 1)) (nI k) (Int32.ofInt 0) h) fun r16 h17 => ((if r16 = 0 then am_b2 (f_X9_isStateSo (F + (d + 1)) (nI k) (Int32.ofInt 1) h17) fun r20 h21 => ((if r20 = 0 then am_b2 (f_X9_isStateSo (F + (d + 1)) (nI k) (Int32.ofInt 2) h21) fun r24 h25 => ((if r24 = 0 then some ((Int32.ofInt 1), h25) else some ((Int32.ofInt 0), h25))) else some ((Int32.ofInt 0), h21))) else some ((Int32.ofInt 0), h17)))) = some (bI (weK r sd (k + 1)), h2) ∧ R9 h2 r sd ∧ frB h h2 ∧ X9 h2 (svAll r).n (svH r sd) := by
        have ew : weK r sd (k + 1) = (svH r sd k && !(tIs r sd ((svAll r).s k) 0 || (tIs r sd ((svAll r).s k) 1 || tIs r sd ((svAll r).s k) 2))) := by
          show (weK r sd k && _) = _
          rw [hw, Bool.true_and]
        rw [x k kn, ew]
        cases hh : svH r sd k with
        | false => exact ⟨h, by rw [if_pos (show bI false = 0 from rfl)]; rfl, q, frB_r h, x⟩
        | true =>
          rw [if_neg (show ¬ bI true = 0 by decide)]
          obtain ⟨h1, e1, q1, f1, x1⟩ := iss_all hr q x kn (w := 0) (by decide) (F + (d + 1)) (by omega)
          have e1 : f_X9_isStateSo (F + (d + 1)) (nI k) (Int32.ofInt 0) h = some (bI (svP r sd 0 k), h1) := e1
          rw [e1, b2s, svP_n (by decide)]
          cases h0 : tIs r sd ((svAll r).s k) 0 with
          | true => exact ⟨h1, by rw [if_neg (show ¬ bI true = 0 by decide)]; rfl, q1, f1, x1⟩
          | false =>
            rw [if_pos (show bI false = 0 from rfl)]
            obtain ⟨h2, e2, q2, f2, x2⟩ := iss_all hr q1 x1 kn (w := 1) (by decide) (F + (d + 1)) (by omega)
            have e2 : f_X9_isStateSo (F + (d + 1)) (nI k) (Int32.ofInt 1) h1 = some (bI (svP r sd 1 k), h2) := e2
            rw [e2, b2s, svP_n (by decide)]
            cases h1' : tIs r sd ((svAll r).s k) 1 with
            | true => exact ⟨h2, by rw [if_neg (show ¬ bI true = 0 by decide)]; rfl, q2, frB_t f1 f2, x2⟩
            | false =>
              rw [if_pos (show bI false = 0 from rfl)]
              obtain ⟨h3, e3, q3, f3, x3⟩ := iss_all hr q2 x2 kn (w := 2) (by decide) (F + (d + 1)) (by omega)
              have e3 : f_X9_isStateSo (F + (d + 1)) (nI k) (Int32.ofInt 2) h2 = some (bI (svP r sd 2 k), h3) := e3
              rw [e3, b2s, svP_n (by decide)]
              cases h2' : tIs r sd ((svAll r).s k) 2 with
              | true => exact ⟨h3, by rw [if_neg (show ¬ bI true = 0 by decide)]; rfl, q3, frB_t f1 (frB_t f2 f3), x3⟩
              | false => exact ⟨h3, by rw [if_pos (show bI false = 0 from rfl)]; rfl, q3, frB_t f1 (frB_t f2 f3), x3⟩
      obtain ⟨h2, e2, q2, f2, x2⟩ := key
      obtain ⟨h', e, r1, r2, r3, r4⟩ := ih (k + 1) h2 (by omega) q2 x2
      refine ⟨h', ?_, r1, r2, frB_t f2 r3, r4⟩
      rw [show F + (d + 1) + 1 = (F + (d + 1)) + 1 from rfl, g_X9_isWell, q.2.2.2.1.1.choose_spec.1, if_neg (nI_ge kn (by omega)), if_neg (show ¬ bI true = 0 by decide), hp_vp (show k < 2001 by omega) (by decide), cond_true, nI_clamp (show k < 2 ^ 31 by omega), e2, b2s, hp_1]
      exact e
theorem we_9 {h : am_H} {r : TR} (hr : r.all) {sd : Nat → Bool} {s : TS} (u : U9 h r sd s) (c : C9 h r sd) (F : Nat) (hF : 6000000 ≤ F) : ∃ h', f_X9_isWell F h = some (bI (uD (wellT r sd)), h') ∧ U9 h' r sd s ∧ C9m h' r sd ∧ frA9 h h' := by
  obtain ⟨h1, e1, u1, c1, f1⟩ := ma_all hr u c F (by omega)
  unfold f_X9_isWell
  rw [e1, b2s, C9m_51 c1]
  rcases sp_cases r with sp | sp
  · have nw : uD (wellT r sd) = false := uD_n (fun q => by have := q.1; rw [sp] at this; cases this)
    rw [sp, nw]
    exact ⟨h1, by rw [if_neg (show ¬ bI true = 0 by decide)]; rfl, u1, c1, f1⟩
  · have okA : svOk r (svAll r) := svRow_ok hr.1 hr.2.1 2000
    have n2 := okA.1.2
    have a1 := as_st (F - 20) (T9_W u1.1) (sk_w u1.2.2.2)
    rw [show F - 20 + 20 = F from by omega] at a1
    obtain ⟨h2, e2, u2, q2, e51, e52, e53, x2, f2⟩ := fl_9 hr u1 c1 sp F (by omega)
    obtain ⟨h3, e3, q3, t3, f3, x3⟩ := we_9l hr u1.2.2.2 (F - (svAll r).n - 1) (by omega) (svAll r).n 0 h2 (by omega) q2 x2
    rw [show F - (svAll r).n - 1 + (svAll r).n + 1 = F from by omega] at e3
    have ew : weK r sd (svAll r).n = uD (wellT r sd) := by
      rw [Bool.eq_iff_iff, weK_iff]
      exact ⟨fun a => uD_i ⟨sp, a⟩, fun a => (uD_e a).2⟩
    rw [ew] at e3
    refine ⟨h3, ?_, ⟨t3, q3.1, q3.2.1, u1.2.2.2⟩, C9m_of q3 sp (by rw [f3.2.1]; exact e52) (by rw [f3.2.2]; exact e53) x3, frA9_t f1 (frA9_t f2 f3.1)⟩
    rw [sp, if_pos (show bI false = 0 from rfl), a1, b2s, e2, b2s]
    exact e3
