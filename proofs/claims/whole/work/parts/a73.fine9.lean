/-! ===== the reference lays which states can still come to an end ===== -/
theorem svRow_sp1 {r : TR} {k : Nat} (h : (svRow r (k + 1)).sp = false) : (svRow r k).sp = false := by
  cases q : (svRow r k).sp with
  | false => rfl
  | true =>
    have e := svRow_e (r := r) (k := k) (Or.inl q) 1
    rw [e, q] at h; cases h
theorem svRow_spd {r : TR} {k : Nat} : ∀ d, (svRow r (k + d)).sp = false → (svRow r k).sp = false
  | 0, h => h
  | d + 1, h => svRow_spd d (svRow_sp1 h)
theorem svStep_es {k : Nat} {v : SV} {x : Nat × TS} (hs : v.sp = false) (h : (svStep k v x).sp = false) : (svStep k v x).es v.m = k := by
  by_cases c1 : svIx v x.2 < v.n
  · rw [svStep_1 hs c1]; exact updN_at _ _ _
  · by_cases c2 : v.n < 2000
    · rw [svStep_2 hs c1 c2]; exact updN_at _ _ _
    · rw [svStep_3 hs c1 c2] at h
      exact absurd (show (true : Bool) = false from h) (by decide)
theorem svList_es {k : Nat} : ∀ (L : List (Nat × TS)) (v : SV), v.sp = false → (svList k v L).sp = false → ∀ j, v.m ≤ j → j < (svList k v L).m → (svList k v L).es j = k
  | [], v, _, _, j, a, b => absurd b (by have : j < v.m := b; omega)
  | x :: L, v, h, h2, j, a, b => by
    rw [svList_c] at h2 b ⊢
    cases c : (svStep k v x).sp with
    | true => rw [svList_sp L _ c, c] at h2; cases h2
    | false =>
      obtain ⟨m1, m2⟩ := svStep_m h c
      by_cases cj : j = v.m
      · subst cj
        rw [((svList_m L _ c h2).2 v.m (by omega)).2]
        exact svStep_es h c
      · exact svList_es L _ c h2 j (by omega) b
/-- the leads of the states, one behind the other -/
theorem svRow_es {r : TR} : ∀ k, (svRow r k).sp = false → ∀ j, j < (svRow r k).m → (svRow r k).es j < k ∧ (svRow r ((svRow r k).es j)).m ≤ j ∧ j < (svRow r ((svRow r k).es j + 1)).m
  | 0, _, j, hj => absurd hj (Nat.not_lt_zero _)
  | k + 1, h, j, hj => by
    have hk := svRow_sp1 h
    by_cases c : (svRow r k).n ≤ k
    · have e := svRow_e (r := r) (k := k) (Or.inr c) 1
      rw [e] at hj ⊢
      obtain ⟨a, b⟩ := svRow_es k hk j hj
      exact ⟨by omega, b⟩
    · have e := svRow_s hk (show k < (svRow r k).n by omega)
      have h' := h
      rw [e] at h'
      by_cases cj : j < (svRow r k).m
      · have es : (svRow r (k + 1)).es j = (svRow r k).es j := by rw [e]; exact ((svList_m _ _ hk h').2 j cj).2
        obtain ⟨a, b⟩ := svRow_es k hk j cj
        rw [es]; exact ⟨by omega, b⟩
      · have es : (svRow r (k + 1)).es j = k := by
          rw [e] at hj ⊢
          exact svList_es _ _ hk h' j (by omega) hj
        rw [es]; exact ⟨by omega, by omega, hj⟩
theorem svRow_mm1 {r : TR} {k : Nat} (h : (svRow r (k + 1)).sp = false) : (svRow r k).m ≤ (svRow r (k + 1)).m := by
  have hk := svRow_sp1 h
  by_cases c : (svRow r k).n ≤ k
  · have e := svRow_e (r := r) (k := k) (Or.inr c) 1
    rw [e]; exact Nat.le_refl _
  · have e := svRow_s hk (show k < (svRow r k).n by omega)
    rw [e] at h ⊢
    have := (svList_m _ _ hk h).1
    omega
theorem svRow_mm {r : TR} {k : Nat} : ∀ d, (svRow r (k + d)).sp = false → (svRow r k).m ≤ (svRow r (k + d)).m
  | 0, _ => Nat.le_refl _
  | d + 1, h => Nat.le_trans (svRow_mm d (svRow_sp1 h)) (svRow_mm1 h)
/-- the leads from the k-th state -/
theorem svAll_es {r : TR} (sp : (svAll r).sp = false) {k j : Nat} (hk : k < 2000) : ((svRow r k).m ≤ j ∧ j < (svRow r (k + 1)).m) ↔ (j < (svAll r).m ∧ (svAll r).es j = k) := by
  have spk : ∀ i, i ≤ 2000 → (svRow r i).sp = false := fun i hi => svRow_spd (2000 - i) (by rw [show i + (2000 - i) = 2000 from by omega]; exact sp)
  have mono : ∀ a b, a ≤ b → b ≤ 2000 → (svRow r a).m ≤ (svRow r b).m := fun a b hab hb => by
    have := svRow_mm (r := r) (k := a) (b - a) (by rw [show a + (b - a) = b from by omega]; exact spk b hb)
    rw [show a + (b - a) = b from by omega] at this
    exact this
  constructor
  · intro ⟨a, b⟩
    have jm : j < (svAll r).m := Nat.lt_of_lt_of_le b (mono (k + 1) 2000 (by omega) (Nat.le_refl _))
    refine ⟨jm, ?_⟩
    obtain ⟨c1, c2, c3⟩ := svRow_es 2000 sp j jm
    have c1 : (svAll r).es j < 2000 := c1
    have c2 : (svRow r ((svAll r).es j)).m ≤ j := c2
    have c3 : j < (svRow r ((svAll r).es j + 1)).m := c3
    rcases Nat.lt_trichotomy ((svAll r).es j) k with q | q | q
    · have := mono ((svAll r).es j + 1) k (by omega) (by omega); omega
    · exact q
    · have := mono (k + 1) ((svAll r).es j) (by omega) (by omega); omega
  · intro ⟨jm, e⟩
    obtain ⟨c1, c2, c3⟩ := svRow_es 2000 sp j jm
    have c2 : (svRow r ((svAll r).es j)).m ≤ j := c2
    have c3 : j < (svRow r ((svAll r).es j + 1)).m := c3
    rw [e] at c2 c3
    exact ⟨c2, c3⟩
theorem cN_mono {P Q : Nat → Bool} : ∀ n, (∀ i, i < n → P i = true → Q i = true) → cN P n ≤ cN Q n
  | 0, _ => Nat.le_refl _
  | n + 1, h => by
    have ih := cN_mono n (fun i hi => h i (by omega))
    cases p : P n with
    | false =>
      rw [cN_f p]
      cases q : Q n with
      | false => rw [cN_f q]; exact ih
      | true => rw [cN_t q]; omega
    | true => rw [cN_t p, cN_t (h n (by omega) p)]; omega
theorem cN_lt {P Q : Nat → Bool} : ∀ n, (∀ i, i < n → P i = true → Q i = true) → (∃ i, i < n ∧ P i = false ∧ Q i = true) → cN P n < cN Q n
  | 0, _, ⟨i, hi, _⟩ => absurd hi (Nat.not_lt_zero _)
  | n + 1, h, ⟨i, hi, p, q⟩ => by
    by_cases c : i = n
    · subst c
      rw [cN_f p, cN_t q]
      have := cN_mono i (fun i hi => h i (by omega)); omega
    · have ih := cN_lt n (fun i hi => h i (by omega)) ⟨i, by omega, p, q⟩
      cases p : P n with
      | false =>
        rw [cN_f p]
        cases q : Q n with
        | false => rw [cN_f q]; exact ih
        | true => rw [cN_t q]; omega
      | true => rw [cN_t p, cN_t (h n (by omega) p)]; omega
/-- all that the reference holds of all states -/
def R9 (h : am_H) (r : TR) (sd : Nat → Bool) : Prop := Z9 h ∧ sd9 h sd ∧ (∃ s0, T9 h r s0) ∧ Q9 h (svAll r) ∧ ∀ j, j ≤ (svAll r).n → am_I h 85 j = nI (svRow r j).m
/-- what stays: all but states, and neither what is met nor what is laid -/
def frB (h h' : am_H) : Prop := frA9 h h' ∧ am_I h' 51 52 = am_I h 51 52 ∧ am_I h' 51 53 = am_I h 51 53
theorem frB_r (h : am_H) : frB h h := ⟨frA9_r h, rfl, rfl⟩
theorem frB_t {a b c : am_H} (x : frB a b) (y : frB b c) : frB a c := ⟨frA9_t x.1 y.1, y.2.1.trans x.2.1, y.2.2.trans x.2.2⟩
theorem frB_Z {h h' : am_H} (f : frZ h h') : frB h h' := ⟨frA9_M (frML_Z f), by rw [f.1.2 51 (by decide) (by decide)], by rw [f.1.2 51 (by decide) (by decide)]⟩
theorem frB_S {h h' : am_H} (f : frS h h') : frB h h' := ⟨frA9_M (frML_S f), f.2.2 52 (by decide), f.2.2 53 (by decide)⟩
theorem frB_94 (h : am_H) (j : Nat) (x : Int32) : frB h (am_sI h 83 j x) := ⟨⟨⟨rfl, rfl, rfl⟩, fun _ _ => rfl, fun q _ b => hp_I' _ _ _ (by omega), fun k _ _ _ _ _ _ => by rw [hp_I' _ _ _ (by decide)], fun z => by unfold Z9; rw [hp_I' _ _ _ (by decide)]; exact z⟩, by rw [hp_I' _ _ _ (by decide)], by rw [hp_I' _ _ _ (by decide)]⟩
theorem R9_Z {h h' : am_H} {r : TR} {sd : Nat → Bool} (q : R9 h r sd) (f : frZ h h') {s1 : TS} (t : T9 h' r s1) : R9 h' r sd := by
  obtain ⟨z, d, -, q9, e96⟩ := q
  exact ⟨frZ_z f z, fun o ho => by rw [f.1.2 58 (by decide) (by decide)]; exact d o ho, ⟨s1, t⟩, Q9_Z q9 f, by rw [f.1.2 85 (by decide) (by decide)]; exact e96⟩
theorem R9_S {h h' : am_H} {r : TR} {sd : Nat → Bool} (q : R9 h r sd) (f : frS h h') : R9 h' r sd := by
  obtain ⟨z, d, ⟨s1, t⟩, q9, e96⟩ := q
  exact ⟨(frB_S f).1.2.2.2.2 z, fun o ho => by rw [f.2.1 58 (by decide) (by decide)]; exact d o ho, ⟨s1, T9_fr t f⟩, Q9_S q9 f, by rw [f.2.1 85 (by decide) (by decide)]; exact e96⟩
theorem R9_94 {h : am_H} {r : TR} {sd : Nat → Bool} (q : R9 h r sd) (j : Nat) (x : Int32) : R9 (am_sI h 83 j x) r sd := by
  obtain ⟨z, d, ⟨s1, t⟩, q9, e96⟩ := q
  have e : ∀ p, p ≠ 83 → am_I (am_sI h 83 j x) p = am_I h p := fun p hp => hp_I' _ _ _ hp
  exact ⟨by unfold Z9; rw [e 78 (by decide)]; exact z, fun o ho => by rw [e 58 (by decide)]; exact d o ho, ⟨s1, T9_c t (fun k _ => by rw [e 51 (by decide)]) (fun p hp => e p (by omega))⟩, Q9_c q9 rfl (fun k _ => by rw [e 51 (by decide)]) (fun p hp => e p (by omega)), by rw [e 85 (by decide)]; exact e96⟩
/-- the k-th state is laid -/
theorem lk_9 {h : am_H} {r : TR} (hr : r.ok) (h0 : r.sk s00) {sd : Nat → Bool} (q : R9 h r sd) {k : Nat} (hk : k < (svAll r).n) (F : Nat) (hF : 200 ≤ F) : am_J h 80 k = lL (wN ((svAll r).s k)) ∧ ∃ h', f_X9_layState F (lL (wN ((svAll r).s k))) h = some ((), h') ∧ T9 h' r ((svAll r).s k) ∧ R9 h' r sd ∧ frB h h' ∧ am_I h' 83 = am_I h 83 := by
  have ok : svOk r (svAll r) := svRow_ok hr h0 2000
  obtain ⟨s0, t⟩ := q.2.2.1
  refine ⟨(q.2.2.2.1.1.choose_spec.2.2.1 k hk).1, ?_⟩
  obtain ⟨h', e, t', f⟩ := ly_9 t (ok.2.1 k hk) (F - 20)
  rw [show F - 20 + 20 = F from by omega] at e
  exact ⟨h', e, t', R9_Z q f t', frB_Z f, f.1.2 83 (by decide) (by decide)⟩
/-- what the k-th state is -/
theorem so_9 {h : am_H} {r : TR} (hr : r.ok) (h0 : r.sk s00) (hfv : r.fv) {sd : Nat → Bool} (q : R9 h r sd) {k : Nat} (hk : k < (svAll r).n) {w : Nat} (hw : w < 5) (h3 : w ≠ 3) (F : Nat) (hF : 200 ≤ F) : ∃ h1 h', am_J h 80 k = lL (wN ((svAll r).s k)) ∧ f_X9_layState F (lL (wN ((svAll r).s k))) h = some ((), h1) ∧ f_X9_isSo F (nI w) h1 = some (bI (tIs r sd ((svAll r).s k) w), h') ∧ R9 h' r sd ∧ frB h h' ∧ am_I h' 83 = am_I h 83 := by
  have ok : svOk r (svAll r) := svRow_ok hr h0 2000
  have sk := ok.2.1 k hk
  obtain ⟨eJ, h1, e1, t1, q1, f1, x1⟩ := lk_9 hr h0 q hk F hF
  obtain ⟨h2, e2, -, f2⟩ := is_9 hr sk t1 q1.1 q1.2.1 (fun p hp => hfv p _ hp (sk.1 p hp)) hw h3 F (by omega)
  exact ⟨h1, h2, eJ, e1, e2, R9_S q1 f2, frB_t f1 (frB_S f2), by rw [f2.2.1 83 (by decide) (by decide)]; exact x1⟩
theorem iss_9 {h : am_H} {r : TR} (hr : r.ok) (h0 : r.sk s00) (hfv : r.fv) {sd : Nat → Bool} (q : R9 h r sd) {k : Nat} (hk : k < (svAll r).n) {w : Nat} (hw : w < 5) (h3 : w ≠ 3) (F : Nat) (hF : 200 ≤ F) : ∃ h', f_X9_isStateSo F (nI k) (nI w) h = some (bI (tIs r sd ((svAll r).s k) w), h') ∧ R9 h' r sd ∧ frB h h' ∧ am_I h' 83 = am_I h 83 := by
  have ok : svOk r (svAll r) := svRow_ok hr h0 2000
  have n2 := ok.1.2
  obtain ⟨h1, h', eJ, e1, e2, q', f', x'⟩ := so_9 hr h0 hfv q hk hw h3 F hF
  refine ⟨h', ?_, q', f', x'⟩
  unfold f_X9_isStateSo
  rw [if_neg (show ¬ nI w = Int32.ofInt 3 from fun e => h3 ((nI_inj (a := w) (b := 3) (by omega) (by decide)).mp e)), hp_vp (show k < 2001 by omega) (by decide), cond_true, nI_clamp (show k < 2 ^ 31 by omega), eJ, e1, b2s, e2, b2s, b01_bI, cond_true]
