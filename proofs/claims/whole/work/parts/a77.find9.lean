/-! ===== the reference's find ===== -/
theorem iss_all {h : am_H} {r : TR} (hr : r.all) {sd : Nat → Bool} (q : R9 h r sd) (x9 : X9 h (svAll r).n (svH r sd)) {k : Nat} (hk : k < (svAll r).n) {w : Nat} (hw : w < 5) (F : Nat) (hF : 200 ≤ F) : ∃ h', f_X9_isStateSo F (nI k) (nI w) h = some (bI (svP r sd w k), h') ∧ R9 h' r sd ∧ frB h h' ∧ X9 h' (svAll r).n (svH r sd) := by
  by_cases c : w = 3
  · subst c
    have ok : svOk r (svAll r) := svRow_ok hr.1 hr.2.1 2000
    have n2 := ok.1.2
    refine ⟨h, ?_, q, frB_r h, x9⟩
    unfold f_X9_isStateSo svP
    rw [if_pos (show nI 3 = Int32.ofInt 3 from rfl), hp_vp (show k < 2001 by omega) (by decide), cond_true, nI_clamp (show k < 2 ^ 31 by omega), x9 k hk, if_pos rfl]
    cases svH r sd k <;> rfl
  · obtain ⟨h', e, q', f', x'⟩ := iss_9 hr.1 hr.2.1 hr.2.2 q hk hw c F hF
    refine ⟨h', ?_, q', f', fun i hi => by rw [x']; exact x9 i hi⟩
    rw [e]; unfold svP; rw [if_neg c]
theorem cF_m1 {P : Nat → Bool} {n : Nat} (hn : n < 2 ^ 31) : (cF P n = Int32.ofInt (-1)) ↔ cN P n = 0 := by
  constructor
  · intro e
    by_cases c : cN P n = 0
    · exact c
    · obtain ⟨i, hi, e2, -⟩ := cF_ex n c
      rw [e2] at e
      exact absurd e (nI_m1ne (by omega))
  · exact cF_0
theorem fd0_9 {r : TR} (hr : r.all) {sd : Nat → Bool} {w : Nat} (hw : w < 5) (a2 : Int32) (x3 : Int64) (F : Nat) (hF : 300 ≤ F) : ∀ (d k : Nat) (h : am_H), k + d = (svAll r).n → R9 h r sd → X9 h (svAll r).n (svH r sd) → ∃ h', g_X9_find (F + d) 0 (nI w) a2 x3 (nI (cN (svP r sd w) k)) (cF (svP r sd w) k) (nI k) 0 0 h = g_X9_find F 0 (nI w) a2 x3 (nI (cN (svP r sd w) (svAll r).n)) (cF (svP r sd w) (svAll r).n) (nI (svAll r).n) 0 0 h' ∧ R9 h' r sd ∧ X9 h' (svAll r).n (svH r sd) ∧ frB h h' := by
  have ok : svOk r (svAll r) := svRow_ok hr.1 hr.2.1 2000
  have n2 := ok.1.2
  intro d
  induction d with
  | zero =>
    intro k h hk q x9
    have hk' : k = (svAll r).n := by omega
    exact ⟨h, by rw [Nat.add_zero, hk'], q, x9, frB_r h⟩
  | succ d ih =>
    intro k h hk q x9
    have kn : k < (svAll r).n := by omega
    obtain ⟨h1, e1, q1, f1, x1⟩ := iss_all hr q x9 kn hw (F + d) (by omega)
    obtain ⟨h', e, q', x', f'⟩ := ih (k + 1) h1 (by omega) q1 x1
    refine ⟨h', ?_, q', x', frB_t f1 f'⟩
    rw [show F + (d + 1) = (F + d) + 1 from rfl, g_X9_find, q00, cond_true, q.2.2.2.1.1.choose_spec.1, if_neg (nI_ge kn (by omega)), e1, b2s]
    cases hp : svP r sd w k with
    | false =>
      rw [if_pos (show bI false = 0 from rfl), b2s, hp_1]
      rw [cN_f hp, cF_f hp] at e
      exact e
    | true =>
      rw [if_neg (show ¬ bI true = 0 by decide)]
      rw [cN_t hp] at e
      by_cases c : cN (svP r sd w) k = 0
      · rw [if_pos ((cF_m1 (by omega)).mpr c), b_some, b2s, hp_1, hp_1]
        rw [cF_t0 hp c] at e
        exact e
      · rw [if_neg (fun x => c ((cF_m1 (by omega)).mp x)), b_some, b2s, hp_1, hp_1]
        rw [cF_t1 c] at e
        exact e
theorem fd1_9 {h : am_H} {n : Nat} {f : Nat → Nat} (hf : earl f n) (hn : n ≤ 2000) (e92 : ∀ i, i < n → am_I h 81 i = frI f i) (a1 a2 : Int32) (x3 : Int64) (x5 x6 : Int32) : ∀ i a F, i < n → ∃ G, F ≤ G ∧ g_X9_find (F + i + 1) 1 a1 a2 x3 x5 x6 (nI a) (nI i) 0 h = g_X9_find (G + 1) 1 a1 a2 x3 x5 x6 (nI (a + dpI f i)) (nI 0) 0 h := by
  intro i
  induction i using Nat.strongRecOn with
  | ind i ih =>
    intro a F hi
    by_cases c : i = 0
    · subst c
      exact ⟨F, Nat.le_refl _, rfl⟩
    · have h1 := hf i (by omega) hi
      obtain ⟨G, hG, e⟩ := ih (f i) h1 (a + 1) (F + (i - 1 - f i)) (by omega)
      rw [show F + (i - 1 - f i) + f i + 1 = F + i from by omega] at e
      refine ⟨G, by omega, ?_⟩
      rw [g_X9_find, q10, cond_false, q11, cond_true, hp_vp (show i < 2001 by omega) (by decide), cond_true, nI_clamp (show i < 2 ^ 31 by omega), e92 i hi, frI_at (by omega), if_neg (nI_m1ne (by omega)), hp_1, e, dpI_s hf (by omega) hi, show a + 1 + dpI f (f i) = a + (dpI f (f i) + 1) from by omega]
theorem fd2_9 {h : am_H} {n : Nat} {f b : Nat → Nat} (hf : earl f n) (hn : n ≤ 2000) (e92 : ∀ i, i < n → am_I h 81 i = frI f i ∧ am_I h 82 i = frI b i) (a1 : Int32) (x3 : Int64) (x5 x6 : Int32) {it L : Nat} (hit : it < 1000) (hL : it < L) (hL2 : L ≤ 70000) (F : Nat) : ∀ (d i : Nat), i < n → d + 1 ≤ dpI f i → it + d + 1 ≤ L → g_X9_find (F + d + 1) 2 a1 (nI (it + 10)) x3 x5 x6 (nI L) (nI i) (nI (it + d)) h = some (nI (b (bwUp f d i)), h) := by
  have sub : nI (it + 10) - Int32.ofInt 10 = nI it := by rw [show Int32.ofInt 10 = nI 10 from rfl, nI_subN (by omega), Nat.add_sub_cancel]
  intro d
  induction d with
  | zero =>
    intro i hi hd hl
    have i1 := dpI_pos hf hi (by omega)
    rw [show F + 0 + 1 = F + 1 from rfl, g_X9_find, q20, cond_false, q21, cond_false, sub, if_pos (by rw [nI_leI (by omega) (by omega)]; omega), if_neg (by rw [nI_leI (by omega) (by omega)]; omega), hp_vp (show i < 2001 by omega) (by decide), cond_true, nI_clamp (show i < 2 ^ 31 by omega), (e92 i hi).2, frI_at i1, b_some]
    rfl
  | succ d ih =>
    intro i hi hd hl
    have i1 := dpI_pos hf hi (by omega)
    have h1 := hf i i1 hi
    rw [dpI_s hf i1 hi] at hd
    have m1 : nI (it + (d + 1)) + Int32.ofInt (-1) = nI (it + d) := by rw [nI_p1 (by omega)]; rfl
    rw [show F + (d + 1) + 1 = (F + d + 1) + 1 from rfl, g_X9_find, q20, cond_false, q21, cond_false, sub, if_neg (by rw [nI_leI (by omega) (by omega)]; omega), hp_vp (show i < 2001 by omega) (by decide), cond_true, nI_clamp (show i < 2 ^ 31 by omega), (e92 i hi).1, frI_at i1, m1, ih (f i) (by omega) (by omega) (by omega)]
    rfl
/-- find, behind the loop over all states -/
theorem fde_9 {r : TR} (hr : r.all) {sd : Nat → Bool} {w it : Nat} (hw : w < 5) (hit : it = 0 ∨ it = 1 ∨ (10 ≤ it ∧ it ≤ 99)) {s : TS} (hs : r.sk s) {h : am_H} (q : R9 h r sd) (x9 : X9 h (svAll r).n (svH r sd)) (F : Nat) (hF : 10000 ≤ F) : ∃ h', g_X9_find F 0 (nI w) (nI it) (lL (wN s)) (nI (cN (svP r sd w) (svAll r).n)) (cF (svP r sd w) (svAll r).n) (nI (svAll r).n) 0 0 h = some (fdV r sd w it, h') ∧ R9 h' r sd ∧ T9 h' r s ∧ X9 h' (svAll r).n (svH r sd) ∧ frB h h' := by
  have ok : svOk r (svAll r) := svRow_ok hr.1 hr.2.1 2000
  have n2 := ok.1.2
  obtain ⟨s0, t⟩ := q.2.2.1
  obtain ⟨h2, e2, t2, f2⟩ := ly_9 t hs (F - 1 - 20)
  rw [show F - 1 - 20 + 20 = F - 1 from by omega] at e2
  have q2 := R9_Z q f2 t2
  refine ⟨h2, ?_, q2, t2, fun i hi => by rw [f2.1.2 83 (by decide) (by decide)]; exact x9 i hi, frB_Z f2⟩
  have V := q2.2.2.2.1.1.choose_spec.2.2.1
  have hf : earl (svAll r).f (svAll r).n := ok.2.2.2.2.1
  rw [show F = (F - 1) + 1 from by omega, g_X9_find, q00, cond_true, q.2.2.2.1.1.choose_spec.1, if_pos (Int32.le_refl _), e2, b2s]
  unfold fdV
  by_cases c0 : it = 0
  · subst c0
    rw [if_pos (show nI 0 = 0 from rfl), if_pos (show nI 0 = 0 from rfl), b_some, if_pos rfl]
  · have c0' : ¬ nI it = 0 := fun e => c0 ((nI_0e (by omega)).mp e)
    rw [if_neg c0', if_neg c0, if_neg c0']
    by_cases cz : cN (svP r sd w) (svAll r).n = 0
    · rw [if_pos (cF_0 cz), b_some, if_pos cz]
    · rw [if_neg (fun e => cz ((cF_m1 (by omega)).mp e)), if_neg cz]
      obtain ⟨i, hi, ei, -, -⟩ := cF_ex _ cz
      rw [ei, nI_clamp (show i < 2 ^ 31 by omega)]
      have hl := dpI_le hf i hi
      obtain ⟨G, hG, e⟩ := fd1_9 hf n2 (fun i hi => (V i hi).2.1) (nI w) (nI it) (lL (wN s)) (nI (cN (svP r sd w) (svAll r).n)) (nI i) i 0 (F - 1 - i - 1) hi
      rw [show F - 1 - i - 1 + i + 1 = F - 1 from by omega, Nat.zero_add] at e
      have e : g_X9_find (F - 1) 1 (nI w) (nI it) (lL (wN s)) (nI (cN (svP r sd w) (svAll r).n)) (nI i) (Int32.ofInt 0) (nI i) 0 h2 = _ := e
      rw [e, g_X9_find, q10, cond_false, q11, cond_true, show am_vp (nI 0) 2001 = true from by decide, cond_true, show Int32.toNatClampNeg (nI 0) = 0 from rfl, show am_I h2 81 0 = Int32.ofInt (-1) from (V 0 (by have := ok.1.1; omega)).2.1, if_pos rfl]
      by_cases c1 : it = 1
      · rw [if_pos (show nI it = Int32.ofInt 1 by rw [c1]; rfl), if_pos c1]
      · have c1' : ¬ nI it = Int32.ofInt 1 := fun e => c1 ((nI_inj (a := it) (b := 1) (by omega) (by decide)).mp e)
        rw [if_neg c1', if_neg c1]
        have h10 : 10 ≤ it ∧ it ≤ 99 := by omega
        obtain ⟨jt, hjt⟩ : ∃ jt, it = jt + 10 := ⟨it - 10, by omega⟩
        subst hjt
        rw [show jt + 10 - 10 = jt from by omega]
        unfold wyI
        by_cases hlt : jt < dpI (svAll r).f i
        · have m1 : nI (dpI (svAll r).f i) - Int32.ofInt 1 = nI (jt + (dpI (svAll r).f i - 1 - jt)) := by rw [nI_m1 (by omega)]; exact congrArg nI (by omega)
          rw [if_pos hlt, m1]
          have := fd2_9 hf n2 (fun i hi => (V i hi).2) (nI w) (lL (wN s)) (nI (cN (svP r sd w) (svAll r).n)) (nI i) (it := jt) (L := dpI (svAll r).f i) (by omega) hlt (by omega) (G - (dpI (svAll r).f i - 1 - jt) - 1) (dpI (svAll r).f i - 1 - jt) i hi (by omega) (by omega)
          rw [show G - (dpI (svAll r).f i - 1 - jt) - 1 + (dpI (svAll r).f i - 1 - jt) + 1 = G from by omega] at this
          exact this
        · rw [if_neg hlt, show G = (G - 1) + 1 from by omega, g_X9_find, q20, cond_false, q21, cond_false]
          have sub : nI (jt + 10) - Int32.ofInt 10 = nI jt := by rw [show Int32.ofInt 10 = nI 10 from rfl, nI_subN (by omega), Nat.add_sub_cancel]
          have le1 : nI (dpI (svAll r).f i) - Int32.ofInt 1 ≤ nI jt := by
            have e1 : nI (dpI (svAll r).f i) - Int32.ofInt 1 = Int32.ofInt ((dpI (svAll r).f i : Int) - 1) := by
              rw [show nI (dpI (svAll r).f i) = Int32.ofInt (dpI (svAll r).f i) from rfl, ← Int32.ofInt_sub]
            rw [e1]
            apply Int32.le_iff_toInt_le.mpr
            rw [Int32.toInt_ofInt_of_le (by omega) (by omega), nI_toInt (by omega)]
            omega
          rw [sub, if_pos le1, if_pos (by rw [nI_leI (by omega) (by omega)]; omega), b_some]
/-- find, where what is asked for stands within its bounds -/
theorem fd_9 {r : TR} (hr : r.all) {sd : Nat → Bool} {w it : Nat} (hw : w < 5) (hit : it = 0 ∨ it = 1 ∨ (10 ≤ it ∧ it ≤ 99)) {s : TS} {h : am_H} (u : U9 h r sd s) (c : C9m h r sd) (sp : (svAll r).sp = false) (F : Nat) (hF : 6000000 ≤ F) : ∃ h', (am_b2 (f_X9_layFine F h) fun _ h14 => (am_b2 (f_X9_asState F h14) fun r16 h17 => (g_X9_find F 0 (nI w) (nI it) r16 (Int32.ofInt 0) (Int32.ofInt (-1)) (Int32.ofInt 0) 0 0 h17))) = some (fdV r sd w it, h') ∧ U9 h' r sd s ∧ C9m h' r sd ∧ frA9 h h' := by
  have ok : svOk r (svAll r) := svRow_ok hr.1 hr.2.1 2000
  have n2 := ok.1.2
  obtain ⟨h1, e1, u1, q1, e51, e52, e53, x1, f1⟩ := fl_9 hr u c sp F (by omega)
  have sk := u.2.2.2
  have a1 := as_st (F - 20) (T9_W u1.1) (sk_w sk)
  rw [show F - 20 + 20 = F from by omega] at a1
  obtain ⟨h2, e2, q2, x2, f2⟩ := fd0_9 hr hw (nI it) (lL (wN s)) (F - (svAll r).n) (by omega) (svAll r).n 0 h1 (by omega) q1 x1
  rw [show F - (svAll r).n + (svAll r).n = F from by omega] at e2
  obtain ⟨h3, e3, q3, t3, x3, f3⟩ := fde_9 hr hw hit sk q2 x2 (F - (svAll r).n) (by omega)
  have fB := frB_t f2 f3
  refine ⟨h3, ?_, ⟨t3, q3.1, q3.2.1, sk⟩, C9m_of q3 sp (by rw [fB.2.1]; exact e52) (by rw [fB.2.2]; exact e53) x3, frA9_t f1 fB.1⟩
  rw [e1, b2s, a1, b2s]
  exact e2.trans e3
