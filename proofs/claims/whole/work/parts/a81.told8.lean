/-! ===== the class tells of all states ===== -/
/-- what the class knows of all states, once it has gone through them -/
def D8m (h : am_H) (r : TR) (sd : Nat → Bool) (cap qs qn : Nat) : Prop := am_I h 0 13 = nI 1 ∧ (((svAll r).sp = true ∧ am_I h 37 1 = nI 1) ∨ ((svAll r).sp = false ∧ EX8 h 37 cap qs qn r sd))
def D8s (h : am_H) (r : TR) (sd : Nat → Bool) (cap qs qn : Nat) : Prop := GR h 37 cap qs qn ∧ (am_I h 0 13 = nI 0 ∨ D8m h r sd cap qs qn)
/-- the talk as the class holds it -/
def U8 (h : am_H) (r : TR) (sd : Nat → Bool) (s : TS) : Prop := T8 h r ∧ S8 h sd ∧ am_J h 0 10 = lL (r.N s)
/-- what stays when the class has gone through all states -/
def frQ (qs qn qs' qn' : Nat) (h h' : am_H) : Prop := (h.1 ≤ h'.1 ∧ ∀ p, p < h.1 → am_K h' p = am_K h p) ∧ (∀ p, p < h.1 → p ≠ 40 → p ≠ 32 → am_J h' p = am_J h p) ∧ (∀ p, p < h.1 → p ≠ 37 → am_A h' p = am_A h p) ∧ (∀ k, k ≠ 13 → k ≠ 14 → am_A h' 37 k = am_A h 37 k) ∧ (∀ p, p < h.1 → p ≠ 0 → (p < 37 ∨ 46 < p) → p ≠ 28 → p ≠ 31 → p ≠ qs → p ≠ qn → am_I h' p = am_I h p) ∧ (∀ k, k ≠ 13 → am_I h' 0 k = am_I h 0 k) ∧ (∀ k, k ≠ 5 → am_I h' 28 k = am_I h 28 k) ∧ (qs' = qs ∨ h.1 ≤ qs') ∧ (qn' = qn ∨ h.1 ≤ qn')
theorem frQ_r (qs qn : Nat) (h : am_H) : frQ qs qn qs qn h h := ⟨⟨Nat.le_refl _, fun _ _ => rfl⟩, fun _ _ _ _ => rfl, fun _ _ _ => rfl, fun _ _ _ => rfl, fun _ _ _ _ _ _ _ _ => rfl, fun _ _ => rfl, fun _ _ => rfl, Or.inl rfl, Or.inl rfl⟩
theorem EX8_0 {h : am_H} {cap qs qn : Nat} {r : TR} {sd : Nat → Bool} (x : EX8 h 37 cap qs qn r sd) (j : Nat) (y : Int32) : EX8 (am_sI h 0 j y) 37 cap qs qn r sd := by
  obtain ⟨q, m, t⟩ := x
  have q' := q
  obtain ⟨-, ⟨g, -⟩, -⟩ := q'
  obtain ⟨-, ⟨ne, ls, ln, h98⟩, os, on, -, -⟩ := g
  have e : ∀ p, p ≠ 0 → am_I (am_sI h 0 j y) p = am_I h p := fun p hp => hp_I' _ _ _ hp
  refine ⟨?_, by rw [e _ (by decide)]; exact m, fun w hw => by rw [e _ (by decide), e _ (by decide)]; exact t w hw⟩
  obtain ⟨⟨T, V⟩, ⟨g, l12, lmc, lr, lc⟩, q1, q4⟩ := q
  refine ⟨⟨T, V8_fr V (by rw [e 37 (by decide)]) rfl (e _ (by decide)) (e _ (by decide)) (e _ (by decide))⟩, ⟨g, by rw [e 37 (by decide)]; exact l12, lmc, by rw [e qs (by omega), e qn (by omega)]; exact lr, by rw [e (37 + 9) (by decide)]; exact lc⟩, by rw [e 37 (by decide)]; exact q1, by rw [e 37 (by decide)]; exact q4⟩
theorem U8_E {h h' : am_H} {r : TR} {sd : Nat → Bool} {s : TS} {o cap qs qn qs' qn' : Nat} (ho : o = 37 ∨ o = 37) (g : GR h o cap qs qn) (f : frE o qs qn qs' qn' h h') (u : U8 h r sd s) : U8 h' r sd s := by
  refine ⟨T8_E ho g f u.1, S8_E ho g f u.2.1, ?_⟩
  have h98 := g.2.1.2.2.2
  rw [f.2.1 0 (by omega) (by omega) (by omega)]; exact u.2.2
theorem U8_0 {h : am_H} {r : TR} {sd : Nat → Bool} {s : TS} (u : U8 h r sd s) (j : Nat) (y : Int32) : U8 (am_sI h 0 j y) r sd s := by
  obtain ⟨t, s8, e⟩ := u
  have i : ∀ p, p ≠ 0 → am_I (am_sI h 0 j y) p = am_I h p := fun p hp => hp_I' _ _ _ hp
  refine ⟨?_, ?_, e⟩
  · unfold T8; rw [i 28 (by decide), i 29 (by decide), i 34 (by decide), i 35 (by decide), i 30 (by decide), i 36 (by decide)]; exact t
  · unfold S8; rw [i 33 (by decide), i 36 (by decide)]; exact s8
theorem sn_8 {h : am_H} {r : TR} (hr : r.all) {sd : Nat → Bool} {s : TS} {cap qs qn : Nat} (st : am_stat h) (u : U8 h r sd s) (d : D8s h r sd cap qs qn) (F : Nat) (hF : 500000000 ≤ F) : ∃ h' cap' qs' qn' c z, f_X8_surveyNow F h = some ((37, h'), c, z) ∧ U8 h' r sd s ∧ GR h' 37 cap' qs' qn' ∧ D8m h' r sd cap' qs' qn' ∧ frQ qs qn qs' qn' h h' ∧ (cap ≤ cap' ∧ 2048 * c ≤ cap' - cap ∧ z ≤ 4 * (cap' - cap)) := by
  obtain ⟨g, d⟩ := d
  rcases d with d | d
  · obtain ⟨h1, cap1, qs1, qn1, c1, z1, e1, f1, w1, g1, alt⟩ := ex_8 hr.1 hr.2.1 hr.2.2 (Or.inl rfl) st g u.1 u.2.1 (Int32.ofInt 0) F hF
    have g0 := g
    obtain ⟨-, ⟨ne, ls, ln, h98⟩, os, on, -, -⟩ := g0
    have i0 : am_I h1 0 = am_I h 0 := f1.2.2.2.2.1 0 (by omega) (by omega) (by omega) (by omega) (by omega) (by omega)
    refine ⟨am_sI h1 0 13 (Int32.ofInt 1), cap1, qs1, qn1, c1, z1, ?_, U8_0 (U8_E (Or.inl rfl) g f1 u) _ _, g1, ⟨by rw [hp_I, upd_at]; rfl, ?_⟩, ?_, w1⟩
    · unfold f_X8_surveyNow
      rw [if_pos (show am_I h 0 13 = 0 from d), e1, bcs, cts]; rfl
    · rcases alt with ⟨sp, x, -⟩ | ⟨sp, e⟩ | ⟨a0, -⟩
      · exact Or.inr ⟨sp, EX8_0 x _ _⟩
      · exact Or.inl ⟨sp, by rw [hp_I' _ _ _ (by decide)]; exact e⟩
      · exact absurd rfl a0
    · obtain ⟨x1, x2, x3, x4, x5, x6, x7, x8⟩ := f1
      exact ⟨x1, x2, x3, x4, fun p hp p0 a b c d e => by rw [hp_I' _ _ _ p0]; exact x5 p hp a b c d e, fun k hk => by rw [hp_I, upd_ne hk, i0], fun k hk => by rw [hp_I' _ _ _ (by decide)]; exact x6 k hk, x7, x8⟩
  · refine ⟨h, cap, qs, qn, 0, 0, ?_, u, g, d, frQ_r _ _ _, Nat.le_refl _, Nat.zero_le _, Nat.zero_le _⟩
    unfold f_X8_surveyNow
    rw [if_neg (show ¬ am_I h 0 13 = 0 by rw [d.1]; decide)]
theorem D8m_1 {h : am_H} {r : TR} {sd : Nat → Bool} {cap qs qn : Nat} (d : D8m h r sd cap qs qn) : am_I h 37 1 = bI (svAll r).sp := by
  rcases d.2 with ⟨sp, e⟩ | ⟨sp, x⟩
  · rw [sp]; exact e
  · rw [sp]; exact x.1.2.2.1
theorem D8m_x {h : am_H} {r : TR} {sd : Nat → Bool} {cap qs qn : Nat} (d : D8m h r sd cap qs qn) (sp : (svAll r).sp = false) : EX8 h 37 cap qs qn r sd := by
  rcases d.2 with ⟨sp', e⟩ | ⟨-, x⟩
  · rw [sp] at sp'; cases sp'
  · exact x
theorem q37 : Nat.beq 37 37 = true := rfl
/-- met() -/
theorem me_8 {h : am_H} {r : TR} {sd : Nat → Bool} {cap qs qn : Nat} (d : D8m h r sd cap qs qn) : (Option.bind ((if (am_I h 37 1) = 0 then some (am_I h 37 0) else some (Int32.ofInt (-2)))) fun y11 => (some ((y11, h), 0, 0))) = some ((bif (svAll r).sp then Int32.ofInt (-2) else nI (svAll r).n, h), 0, 0) := by
  rw [D8m_1 d]
  rcases sp_cases r with sp | sp
  · rw [sp, if_neg (show ¬ bI true = 0 by decide)]; rfl
  · rw [sp, if_pos (show bI false = 0 from rfl), (D8m_x d sp).1.1.choose_spec.1]; rfl
/-- now(FOREVER) -/
theorem nw_8 {h : am_H} {r : TR} (hr : r.all) {sd : Nat → Bool} {s : TS} {cap qs qn : Nat} (u : U8 h r sd s) (d : D8m h r sd cap qs qn) (rc : reach r s) (F : Nat) (hF : 5000 ≤ F) : (am_b2 ((if (am_I h 37 1) = 0 then am_b2 (f_X6_marksOf F 37 (am_J h 0 10) h) fun r18 h19 => (some ((((Int32.toUInt32 r18 >>> (Int32.toUInt32 (Int32.ofInt 3) &&& Int32.toUInt32 31)).toInt32) &&& (Int32.ofInt 1)), h19)) else some ((Int32.ofInt (-2)), h))) fun y14 h15 => (some ((y14, h15), 0, 0))) = some ((nwV r sd s, h), 0, 0) := by
  rw [D8m_1 d]
  unfold nwV
  rcases sp_cases r with sp | sp
  · rw [sp, if_neg (show ¬ bI true = 0 by decide)]; rfl
  · have okA : svOk r (svAll r) := svRow_ok hr.1 hr.2.1 2000
    have n2 := okA.1.2
    have x := D8m_x d sp
    obtain ⟨T, V⟩ := x.1.1
    obtain ⟨D, hDM, hD, st⟩ := sl_8 V (lL (r.N s))
    obtain ⟨hi, ei⟩ := ix_in hr sp rc
    have hk : k8 r (svAll r) (svIx (svAll r) s) = lL (r.N s) := by unfold k8; rw [ei]
    rw [← hk] at hD
    have hT := oa_old V.2.2.2.2 hi hD
    have hs : (hs8 (lL (r.N s)) + D) % 4096 < 4096 := Nat.mod_lt _ (by decide)
    have r7 := V.2.2.2.1 _ hs
    rw [hk] at hT
    rw [hT] at r7
    have mo : f_X6_marksOf F 37 (lL (r.N s)) h = some (svM r sd (svIx (svAll r) s), h) := by
      unfold f_X6_marksOf
      rw [st F (by omega), b2s, hp_vp hs (by decide), cond_true, nI_clamp (by omega), r7, nI_m1 (Nat.succ_ne_zero _), Nat.succ_sub_one, if_pos (nI_nge0 (by omega)), hp_vp (show svIx (svAll r) s < 2000 by omega) (by decide), cond_true, nI_clamp (show svIx (svAll r) s < 2 ^ 31 by omega), x.2.1 _ hi, b_some]
    have bb := bt_8 (svM r sd (svIx (svAll r) s)) (j := 3) (by decide)
    rw [svM_b r sd _ (by decide)] at bb
    rw [sp, if_pos (show bI false = 0 from rfl), u.2.2, mo, b2s, show Int32.ofInt 3 = nI 3 from rfl, bb, b2s]
    rfl
/-- find -/
theorem fnd_8 {h : am_H} {r : TR} (hr : r.all) {sd : Nat → Bool} {cap qs qn w it : Nat} (hw : w < 5) (hit : it = 0 ∨ it = 1 ∨ (10 ≤ it ∧ it ≤ 99)) (d : D8m h r sd cap qs qn) (F : Nat) (hF : 6000 ≤ F) : (if (am_I h 37 1) = 0 then (if nI it = 0 then bif am_vp (nI w) 5 then (some (((am_I h 38 (Int32.toNatClampNeg (nI w))), h), 0, 0)) else none else bif am_vp (nI w) 5 then ((if 0 ≤ (am_I h 39 (Int32.toNatClampNeg (nI w))) then am_b2 ((if nI it = (Int32.ofInt 1) then am_b2 (f_X6_depthOf F 37 (am_I h 39 (Int32.toNatClampNeg (nI w))) h) fun r27 h28 => (some (r27, h28)) else am_b2 (f_X6_stepTo F 37 (am_I h 39 (Int32.toNatClampNeg (nI w))) (nI it - (Int32.ofInt 10)) h) fun r24 h25 => (some (r24, h25)))) fun y20 h21 => (some ((y20, h21), 0, 0)) else some (((Int32.ofInt (-1)), h), 0, 0))) else none) else some (((Int32.ofInt (-2)), h), 0, 0)) = (some ((bif (svAll r).sp then Int32.ofInt (-2) else fdV r sd w it, h), 0, 0) : Option ((Int32 × am_H) × Nat × Nat)) := by
  rw [D8m_1 d]
  rcases sp_cases r with sp | sp
  · rw [sp, if_neg (show ¬ bI true = 0 by decide)]; rfl
  · have okA : svOk r (svAll r) := svRow_ok hr.1 hr.2.1 2000
    have n2 := okA.1.2
    have hf : earl (svAll r).f (svAll r).n := okA.2.2.2.2.1
    have x := D8m_x d sp
    obtain ⟨T, V⟩ := x.1.1
    obtain ⟨t1, t2⟩ := x.2.2 w hw
    have t1 : am_I h 38 w = nI (cN (svP r sd w) (svAll r).n) := t1
    have t2 : am_I h 39 w = cF (svP r sd w) (svAll r).n := t2
    have cw : Int32.toNatClampNeg (nI w) = w := nI_clamp (by omega)
    have vw : am_vp (nI w) 5 = true := hp_vp hw (by decide)
    rw [sp, if_pos (show bI false = 0 from rfl), vw, cond_true, cw, cond_true, t1, t2]
    unfold fdV
    by_cases c0 : it = 0
    · rw [if_pos (show nI it = 0 by rw [c0]; rfl), if_pos c0]; rfl
    · rw [if_neg (fun e => c0 ((nI_0e (by omega)).mp e)), if_neg c0]
      by_cases cz : cN (svP r sd w) (svAll r).n = 0
      · rw [cF_0 cz, if_neg (show ¬ (0 : Int32) ≤ Int32.ofInt (-1) by decide), if_pos cz]; rfl
      · obtain ⟨i, hi, ei, -, -⟩ := cF_ex _ cz
        rw [ei, if_pos (nI_nge0 (show i < 2 ^ 31 by omega)), if_neg cz, nI_clamp (show i < 2 ^ 31 by omega)]
        by_cases c1 : it = 1
        · rw [if_pos (show nI it = Int32.ofInt 1 by rw [c1]; rfl), if_pos c1, dp_8 hf n2 V.1 (fun i hi => (V.2.2.1 i hi).2.1) hi F (by omega), b2s, b2s]; rfl
        · rw [if_neg (show ¬ nI it = Int32.ofInt 1 from fun e => c1 ((nI_inj (a := it) (b := 1) (by omega) (by decide)).mp e)), if_neg c1]
          have sub : nI it - Int32.ofInt 10 = nI (it - 10) := by rw [show Int32.ofInt 10 = nI 10 from rfl, nI_subN (by omega)]
          rw [sub, st_8 hf n2 V.1 (fun i hi => (V.2.2.1 i hi).2) hi (show it - 10 < 90 by omega) F hF, b2s, b2s]; rfl
theorem mo_8l {h : am_H} {r : TR} (hr : r.all) {cap qs qn p : Nat} (hp : p < 6) (t : T8 h r) (x : Q8 h 37 cap qs qn r (svAll r)) (F : Nat) : ∀ (d k : Nat), k + d = (svAll r).n → g_X6_fullest (F + d + 1) 0 37 (nI p) (nI (mxN (moG r p) k)) (nI k) h = some (nI (mxN (moG r p) (svAll r).n), h) := by
  have okA : svOk r (svAll r) := svRow_ok hr.1 hr.2.1 2000
  have n2 := okA.1.2
  obtain ⟨T, V⟩ := x.1
  intro d
  induction d with
  | zero =>
    intro k hk
    have hk' : k = (svAll r).n := by omega
    rw [show F + 0 + 1 = F + 1 from rfl, g_X6_fullest, V.1, hk', if_pos (Int32.le_refl _)]
  | succ d ih =>
    intro k hk
    have kn : k < (svAll r).n := by omega
    have eJ : am_J h (37 + 3) k = lL (r.N ((svAll r).s k)) := (V.2.2.1 k kn).1
    have m3 : mxN (moG r p) k ≤ 3 := mxN_le (fun i => moG_le r p i) k
    have g3 : moG r p k ≤ 3 := moG_le r p k
    have li := li_8 hr.1 t (okA.2.1 k kn) hp
    have li : f_X7_loadIn (lL (r.N ((svAll r).s k))) (nI p) h = some (nI (moG r p k), h) := li
    have ee : (if nI (mxN (moG r p) k) < nI (moG r p k) then nI (moG r p k) else nI (mxN (moG r p) k)) = nI (mxN (moG r p) (k + 1)) := by
      show _ = nI (if mxN (moG r p) k < moG r p k then moG r p k else mxN (moG r p) k)
      by_cases c : mxN (moG r p) k < moG r p k
      · rw [if_pos ((nI_ltI (by omega) (by omega)).mpr c), if_pos c]
      · rw [if_neg (fun q => c ((nI_ltI (by omega) (by omega)).mp q)), if_neg c]
    rw [show F + (d + 1) + 1 = (F + d + 1) + 1 from rfl, g_X6_fullest, V.1, if_neg (nI_ge kn (by omega)), hp_vp (show k < 2000 by omega) (by decide), cond_true, nI_clamp (show k < 2 ^ 31 by omega), eJ, li, b2s, ee, hp_1]
    exact ih (k + 1) (by omega)
theorem mo_8 {h : am_H} {r : TR} (hr : r.all) {sd : Nat → Bool} {s : TS} {cap qs qn p : Nat} (hp : p < 6) (u : U8 h r sd s) (d : D8m h r sd cap qs qn) (sp : (svAll r).sp = false) (F : Nat) (hF : 3000 ≤ F) : f_X6_fullest F 37 (nI p) h = some (nI (mxN (moG r p) (svAll r).n), h) := by
  have okA : svOk r (svAll r) := svRow_ok hr.1 hr.2.1 2000
  have n2 := okA.1.2
  have := mo_8l hr hp u.1 (D8m_x d sp).1 (F - (svAll r).n - 1) (svAll r).n 0 (by omega)
  rw [show F - (svAll r).n - 1 + (svAll r).n + 1 = F from by omega] at this
  exact this
/-- isSound of a survey that was gone through -/
theorem so_8 {h : am_H} {r : TR} (hr : r.all) {sd : Nat → Bool} {o cap qs qn : Nat} (x : EX8 h o cap qs qn r sd) (sp : (svAll r).sp = false) : f_X6_isSound o h = some (bI (uD (wellT r sd)), h) := by
  have okA : svOk r (svAll r) := svRow_ok hr.1 hr.2.1 2000
  have n2 := okA.1.2
  obtain ⟨q, -, t⟩ := x
  have t0 := (t 0 (by decide)).1
  have t1 := (t 1 (by decide)).1
  have t2 := (t 2 (by decide)).1
  have t3 := (t 3 (by decide)).1
  have l0 := cN_le (svP r sd 0) (svAll r).n
  have l1 := cN_le (svP r sd 1) (svAll r).n
  have l2 := cN_le (svP r sd 2) (svAll r).n
  have l3 := cN_le (svP r sd 3) (svAll r).n
  have z : ∀ (P : Nat → Bool) n, cN P n = 0 ↔ ∀ k, k < n → P k = false := by
    intro P n
    induction n with
    | zero => exact ⟨fun _ k hk => absurd hk (Nat.not_lt_zero _), fun _ => rfl⟩
    | succ n ih =>
      cases hp : P n with
      | true =>
        rw [cN_t hp]
        exact ⟨fun e => absurd e (Nat.succ_ne_zero _), fun a => by rw [a n (by omega)] at hp; cases hp⟩
      | false =>
        rw [cN_f hp, ih]
        exact ⟨fun a k hk => by
          by_cases c : k = n
          · rw [c]; exact hp
          · exact a k (by omega), fun a k hk => a k (by omega)⟩
  have key : (cN (svP r sd 0) (svAll r).n + cN (svP r sd 1) (svAll r).n + cN (svP r sd 2) (svAll r).n + cN (svP r sd 3) (svAll r).n = 0) ↔ wellT r sd := by
    constructor
    · intro e
      refine ⟨sp, fun k hk => ?_⟩
      have a0 := (z _ _).mp (show cN (svP r sd 0) (svAll r).n = 0 by omega) k hk
      have a1 := (z _ _).mp (show cN (svP r sd 1) (svAll r).n = 0 by omega) k hk
      have a2 := (z _ _).mp (show cN (svP r sd 2) (svAll r).n = 0 by omega) k hk
      have a3 := (z _ _).mp (show cN (svP r sd 3) (svAll r).n = 0 by omega) k hk
      rw [svP_n (by decide)] at a0 a1 a2
      refine ⟨?_, fun q => ?_⟩
      · unfold svP at a3
        rw [if_pos rfl] at a3
        cases q : svH r sd k with
        | true => rfl
        | false => rw [q] at a3; cases a3
      · have := (bad_is r sd _).mp q
        rw [a0, a1, a2] at this; cases this
    · intro ⟨_, w⟩
      have b : ∀ k, k < (svAll r).n → tIs r sd ((svAll r).s k) 0 = false ∧ tIs r sd ((svAll r).s k) 1 = false ∧ tIs r sd ((svAll r).s k) 2 = false := by
        intro k hk
        have nb := fun q => (w k hk).2 ((bad_is r sd _).mpr q)
        cases a : tIs r sd ((svAll r).s k) 0 <;> cases b : tIs r sd ((svAll r).s k) 1 <;> cases c : tIs r sd ((svAll r).s k) 2 <;> first | exact ⟨rfl, rfl, rfl⟩ | (rw [a, b, c] at nb; exact absurd rfl nb)
      have a0 := (z (svP r sd 0) (svAll r).n).mpr (fun k hk => by rw [svP_n (by decide)]; exact (b k hk).1)
      have a1 := (z (svP r sd 1) (svAll r).n).mpr (fun k hk => by rw [svP_n (by decide)]; exact (b k hk).2.1)
      have a2 := (z (svP r sd 2) (svAll r).n).mpr (fun k hk => by rw [svP_n (by decide)]; exact (b k hk).2.2)
      have a3 := (z (svP r sd 3) (svAll r).n).mpr (fun k hk => by unfold svP; rw [if_pos rfl, (w k hk).1]; rfl)
      omega
  unfold f_X6_isSound
  have c0 : Int32.toNatClampNeg (Int32.ofInt 0) = 0 := rfl
  have c1 : Int32.toNatClampNeg (Int32.ofInt 1) = 1 := rfl
  have c2 : Int32.toNatClampNeg (Int32.ofInt 2) = 2 := rfl
  have c3 : Int32.toNatClampNeg (Int32.ofInt 3) = 3 := rfl
  rw [if_pos (show am_I h o 1 = 0 from q.2.2.1), if_pos (show am_I h o 4 = 0 from q.2.2.2), c0, c1, c2, c3, t0, t1, t2, t3, nI_add, nI_add, nI_add]
  by_cases w : wellT r sd
  · rw [if_pos ((nI_0e (by omega)).mpr (key.mpr w)), uD_i w]; rfl
  · rw [if_neg (fun e => w (key.mp ((nI_0e (by omega)).mp e))), uD_n w]; rfl
