/-! ===== which acts are worth mending: the class ===== -/
theorem svM_bad (r : TR) (sd : Nat → Bool) (i : Nat) : (svM r sd i &&& Int32.ofInt 7 = 0) ↔ ¬ tBad r sd ((svAll r).s i) := by
  show ((bif svH r sd i then tMark r sd ((svAll r).s i) ||| Int32.ofInt 32 else tMark r sd ((svAll r).s i) ||| Int32.ofInt 8) &&& Int32.ofInt 7 = 0) ↔ ¬ (¬ tMark r sd ((svAll r).s i) &&& Int32.ofInt 7 = 0)
  unfold tMark
  generalize (tWr r sd ((svAll r).s i) 0 || (tWr r sd ((svAll r).s i) 1 || tWr r sd ((svAll r).s i) 2)) = x
  generalize tEnd r sd ((svAll r).s i) = a
  generalize tEmp ((svAll r).s i) = b
  generalize Nat.beq (ts_all r ((svAll r).s i)).length 0 = c
  generalize svH r sd i = d
  cases x <;> cases a <;> cases b <;> cases c <;> cases d <;> decide
theorem fb_l {h : am_H} {r : TR} (hr : r.all) {sd : Nat → Bool} {o cap qs qn : Nat} (x : EX8 h o cap qs qn r sd) (F : Nat) : ∀ (d k : Nat), k + d = (svAll r).n → (∀ i, i < k → ¬ tBad r sd ((svAll r).s i)) → (g_X6_firstBad (F + d + 1) 0 o (nI k) h = some (Int32.ofInt (-1), h) ∧ ∀ i, i < (svAll r).n → ¬ tBad r sd ((svAll r).s i)) ∨ ∃ b, b < (svAll r).n ∧ tBad r sd ((svAll r).s b) ∧ g_X6_firstBad (F + d + 1) 0 o (nI k) h = some (nI b, h) := by
  have okA : svOk r (svAll r) := svRow_ok hr.1 hr.2.1 2000
  have n2 := okA.1.2
  have e0 : am_I h o 0 = nI (svAll r).n := x.1.1.choose_spec.1
  intro d
  induction d with
  | zero =>
    intro k hk hb
    have hk' : k = (svAll r).n := by omega
    refine Or.inl ⟨?_, fun i hi => hb i (by omega)⟩
    rw [show F + 0 + 1 = F + 1 from rfl, g_X6_firstBad, e0, hk', if_pos (Int32.le_refl _)]
  | succ d ih =>
    intro k hk hb
    have kn : k < (svAll r).n := by omega
    have hd : g_X6_firstBad (F + (d + 1) + 1) 0 o (nI k) h = (if svM r sd k &&& Int32.ofInt 7 = 0 then g_X6_firstBad (F + d + 1) 0 o (nI (k + 1)) h else some (nI k, h)) := by
      rw [show F + (d + 1) + 1 = (F + d + 1) + 1 from rfl, g_X6_firstBad, e0, if_neg (nI_ge kn (by omega)), hp_vp (show k < 2000 by omega) (by decide), cond_true, nI_clamp (show k < 2 ^ 31 by omega), x.2.1 k kn, hp_1]
    rw [hd]
    by_cases c : tBad r sd ((svAll r).s k)
    · exact Or.inr ⟨k, kn, c, by rw [if_neg (fun q => (svM_bad r sd k).mp q c)]⟩
    · rw [if_pos ((svM_bad r sd k).mpr c)]
      exact ih (k + 1) (by omega) (fun i hi => by
        by_cases ci : i = k
        · rw [ci]; exact c
        · exact hb i (by omega))
theorem bt_o1 (i q : Nat) (hi : i < 32) : bt ((Int32.ofInt 1) <<< (nI i &&& 31)) q = true ↔ q = i := by
  have e : ∀ i, i < 32 → (Int32.ofInt 1) <<< (nI i &&& 31) = nI (2 ^ i) := by decide
  rw [e i hi, bt_nI, Bool.and_eq_true, decide_eq_true_eq, Nat.testBit_two_pow, decide_eq_true_eq]
  omega
/-- told codes of steps -/
def cdOk (v : SV) (n : Nat) : Prop := ∀ t, 1 ≤ t → t < n → v.b t < 2000 ∧ v.b t % 100 < 16
theorem svAll_cd {r : TR} {v : SV} (g : svG r v) : cdOk v v.n := by
  intro t t1 tn
  obtain ⟨o, i, ho, i1, i16, hb, hm⟩ := ts_in (g.2.1 t t1 tn)
  have := ts_code ho i16 hm
  have e2 : v.b t % 100 = i := this.2
  refine ⟨?_, by omega⟩
  rcases ts_x hm with ⟨-, -, e | e⟩ | ⟨-, -, e | e⟩
  · have := congrArg Prod.fst e
    have : v.b t = 100 * o + i := this
    omega
  · have := congrArg Prod.fst e
    have : v.b t = 1000 + (100 * o + i) := this
    omega
  · have := congrArg Prod.fst e
    have : v.b t = 100 * o + i := this
    omega
  · have := congrArg Prod.fst e
    have : v.b t = 1000 + (100 * o + i) := this
    omega
theorem ao_l {h : am_H} {o n p : Nat} {v : SV} (hf : earl v.f n) (hc : cdOk v n) (hn : n ≤ 2000) (hp : p < 3) (e0 : am_I h o 0 = nI n) (e5 : ∀ i, i < n → am_I h (o + 5) i = frI v.f i ∧ am_I h (o + 6) i = frI v.b i) (a1 : Int32) : ∀ t a F x, t < n → a + t < n → ∃ y, g_X6_actsOnWay (F + t + 1) 0 o a1 (nI p) x (nI a) (nI t) h = some (y, h) ∧ ∀ i, i < 16 → (bt y i = true ↔ bt x i = true ∨ onWay v p i t) := by
  intro t
  induction t using Nat.strongRecOn with
  | ind t ih =>
    intro a F x ht ha
    by_cases c : t = 0
    · subst c
      refine ⟨x, ?_, fun i _ => ⟨fun q => Or.inl q, fun q => ?_⟩⟩
      · rw [show F + 0 + 1 = F + 1 from rfl, g_X6_actsOnWay, if_pos nI_le00]
      · rcases q with q | ⟨d, hd, _⟩
        · exact q
        · rw [dpI_0] at hd; exact absurd hd (Nat.not_lt_zero _)
    · have h1 := hf t (by omega) ht
      obtain ⟨c1, c2⟩ := hc t (by omega) ht
      have m1 : nI (v.b t) - nI (v.b t) / Int32.ofInt 1000 * Int32.ofInt 1000 = nI (v.b t % 1000) := by rw [show Int32.ofInt 1000 = nI 1000 from rfl, nI_mod (by omega) (by decide)]
      have m2 : nI (v.b t) - nI (v.b t) / Int32.ofInt 100 * Int32.ofInt 100 = nI (v.b t % 100) := by rw [show Int32.ofInt 100 = nI 100 from rfl, nI_mod (by omega) (by decide)]
      have m3 : nI (v.b t % 1000) / Int32.ofInt 100 = nI (v.b t % 1000 / 100) := by rw [show Int32.ofInt 100 = nI 100 from rfl, nI_div (by omega) (by decide)]
      have hd : ∀ X, (Option.bind ((if nI (v.b t % 1000 / 100) = nI p then some (x ||| ((Int32.ofInt 1) <<< (nI (v.b t % 100) &&& 31))) else some x)) fun y4 => (g_X6_actsOnWay (F + t) 0 o a1 (nI p) y4 (nI (a + 1)) (nI (v.f t)) h)) = X → g_X6_actsOnWay (F + t + 1) 0 o a1 (nI p) x (nI a) (nI t) h = X := by
        intro X hX
        rw [g_X6_actsOnWay, if_neg (nI_nle0 c (by omega)), e0, if_neg (nI_ge (show a < n by omega) (by omega)), hp_vp (show t < 2000 by omega) (by decide), cond_true, nI_clamp (show t < 2 ^ 31 by omega), (e5 t ht).2, (e5 t ht).1, frI_at (by omega), frI_at (by omega), m1, m2, m3, hp_1 a]
        exact hX
      by_cases ce : v.b t % 1000 / 100 = p
      · obtain ⟨y, e, iy⟩ := ih (v.f t) h1 (a + 1) (F + (t - 1 - v.f t)) (x ||| ((Int32.ofInt 1) <<< (nI (v.b t % 100) &&& 31))) (by omega) (by omega)
        rw [show F + (t - 1 - v.f t) + v.f t + 1 = F + t from by omega] at e
        refine ⟨y, hd _ (by rw [if_pos (by rw [ce]), b_some]; exact e), fun i hi => ?_⟩
        rw [iy i hi, bt_or, Bool.or_eq_true, bt_o1 (v.b t % 100) i (by omega), onWay_s hf (by omega) ht]
        constructor
        · rintro ((q | q) | q)
          · exact Or.inl q
          · exact Or.inr (Or.inl ⟨ce, q.symm⟩)
          · exact Or.inr (Or.inr q)
        · rintro (q | ⟨-, q⟩ | q)
          · exact Or.inl (Or.inl q)
          · exact Or.inl (Or.inr q.symm)
          · exact Or.inr q
      · obtain ⟨y, e, iy⟩ := ih (v.f t) h1 (a + 1) (F + (t - 1 - v.f t)) x (by omega) (by omega)
        rw [show F + (t - 1 - v.f t) + v.f t + 1 = F + t from by omega] at e
        refine ⟨y, hd _ (by rw [if_neg (fun q => ce ((nI_inj (by omega) (by omega)).mp q)), b_some]; exact e), fun i hi => ?_⟩
        rw [iy i hi, onWay_s hf (by omega) ht]
        constructor
        · rintro (q | q)
          · exact Or.inl q
          · exact Or.inr (Or.inr q)
        · rintro (q | ⟨q, -⟩ | q)
          · exact Or.inl q
          · exact absurd q ce
          · exact Or.inr q
theorem bt_zero (i : Nat) : bt (Int32.ofInt 0) i = false := bt_0 i
theorem ao_8 {h : am_H} {r : TR} (hr : r.all) {sd : Nat → Bool} {o cap qs qn p : Nat} (x : EX8 h o cap qs qn r sd) (hp : p < 3) {t : Nat} (ht : t < (svAll r).n) (F : Nat) (hF : 3000 ≤ F) : ∃ y, f_X6_actsOnWay F o (nI t) (nI p) h = some (y, h) ∧ ∀ i, i < 16 → (bt y i = true ↔ onWay (svAll r) p i t) := by
  have okA : svOk r (svAll r) := svRow_ok hr.1 hr.2.1 2000
  have gA : svG r (svAll r) := svRow_g hr.1 hr.2.1 2000
  have n2 := okA.1.2
  obtain ⟨T, V⟩ := x.1.1
  obtain ⟨y, e, iy⟩ := ao_l okA.2.2.2.2.1 (svAll_cd gA) n2 hp V.1 (fun i hi => (V.2.2.1 i hi).2) (nI t) t 0 (F - t - 1) (Int32.ofInt 0) ht (by omega)
  rw [show F - t - 1 + t + 1 = F from by omega] at e
  refine ⟨y, e, fun i hi => ?_⟩
  rw [iy i hi, bt_zero]
  exact ⟨fun q => q.resolve_left (by decide), fun q => Or.inr q⟩
theorem wo_l {h : am_H} {r : TR} (hr : r.all) {sd : Nat → Bool} {o cap qs qn p : Nat} (x : EX8 h o cap qs qn r sd) (t8 : T8 h r) (hp : p < 3) (x3 : Int32) (F : Nat) : ∀ (d k : Nat) (y : Int32), k + d = (svAll r).n → ∃ z, g_X6_worthMending (F + d + 1) 0 o (nI p) x3 y (nI k) h = some (z, h) ∧ (∀ i, bt z i = false → bt y i = false ∧ ∀ j, k ≤ j → j < (svAll r).n → svH r sd j = false → bt (r.fo p (((svAll r).s j).1 p)) i = false) ∧ ∀ i, bt z i = true → bt y i = true ∨ ∃ j, j < (svAll r).n ∧ bt (r.fo p (((svAll r).s j).1 p)) i = true := by
  have okA : svOk r (svAll r) := svRow_ok hr.1 hr.2.1 2000
  have n2 := okA.1.2
  obtain ⟨T, V⟩ := x.1.1
  intro d
  induction d with
  | zero =>
    intro k y hk
    have hk' : k = (svAll r).n := by omega
    refine ⟨y, ?_, (fun i hi => ⟨hi, fun j a b => absurd b (by omega)⟩), fun i hi => Or.inl hi⟩
    rw [show F + 0 + 1 = F + 1 from rfl, g_X6_worthMending, V.1, hk', if_pos (Int32.le_refl _)]
  | succ d ih =>
    intro k y hk
    have kn : k < (svAll r).n := by omega
    have bb := bt_8 (svM r sd k) (j := 3) (by decide)
    rw [svM_b r sd k (by decide)] at bb
    have bb : (((Int32.toUInt32 (svM r sd k) >>> (Int32.toUInt32 (Int32.ofInt 3) &&& Int32.toUInt32 31)).toInt32) &&& (Int32.ofInt 1)) = bI (svP r sd 3 k) := bb
    have e3 : svP r sd 3 k = !svH r sd k := if_pos rfl
    have eJ : am_J h (o + 3) k = lL (r.N ((svAll r).s k)) := (V.2.2.1 k kn).1
    have ma := l8_may hr.1 t8 (okA.2.1 k kn) hp
    have hd : ∀ X, (am_b2 ((if bI (!svH r sd k) = 0 then some (y, h) else some (y ||| r.fo p (((svAll r).s k).1 p), h))) fun y3 h4 => (g_X6_worthMending (F + d + 1) 0 o (nI p) x3 y3 (nI (k + 1)) h4)) = X → g_X6_worthMending (F + (d + 1) + 1) 0 o (nI p) x3 y (nI k) h = X := by
      intro X hX
      rw [show F + (d + 1) + 1 = (F + d + 1) + 1 from rfl, g_X6_worthMending, V.1, if_neg (nI_ge kn (by omega)), hp_vp (show k < 2000 by omega) (by decide), cond_true, nI_clamp (show k < 2 ^ 31 by omega), x.2.1 k kn, bb, e3, eJ, ma, b2s, hp_1]
      exact hX
    cases hh : svH r sd k with
    | true =>
      obtain ⟨z, e, iz, jz⟩ := ih (k + 1) y (by omega)
      refine ⟨z, hd _ (by rw [hh]; exact e), (fun i hi => ⟨(iz i hi).1, fun j a b c => ?_⟩), jz⟩
      by_cases cj : j = k
      · rw [cj, hh] at c; cases c
      · exact (iz i hi).2 j (by omega) b c
    | false =>
      obtain ⟨z, e, iz, jz⟩ := ih (k + 1) (y ||| r.fo p (((svAll r).s k).1 p)) (by omega)
      refine ⟨z, hd _ (by rw [hh]; exact e), fun i hi => ?_, fun i hi => ?_⟩
      · obtain ⟨i1, i2⟩ := iz i hi
        rw [bt_or, Bool.or_eq_false_iff] at i1
        refine ⟨i1.1, fun j a b c => ?_⟩
        by_cases cj : j = k
        · rw [cj]; exact i1.2
        · exact i2 j (by omega) b c
      · rcases jz i hi with q | q
        · rw [bt_or, Bool.or_eq_true] at q
          rcases q with q | q
          · exact Or.inl q
          · exact Or.inr ⟨k, kn, q⟩
        · exact Or.inr q
/-- an act on the way may come -/
theorem onWay_av {r : TR} {v : SV} (ok : svOk r v) (g : svG r v) {p i : Nat} : ∀ t, t < v.n → onWay v p i t → r.av p i := by
  intro t
  induction t using Nat.strongRecOn with
  | ind t ih =>
    intro ht w
    by_cases c : t = 0
    · obtain ⟨d, hd, _⟩ := w
      rw [c, dpI_0] at hd; exact absurd hd (Nat.not_lt_zero _)
    · have h1 := ok.2.2.2.2.1 t (by omega) ht
      rcases (onWay_s ok.2.2.2.2.1 (by omega) ht).mp w with ⟨w1, w2⟩ | w
      · obtain ⟨o, i', ho, i1, i16, hb, hm⟩ := ts_in (g.2.1 t (by omega) ht)
        obtain ⟨z1, z2⟩ := ts_code ho i16 hm
        have z1 : v.b t % 1000 / 100 = o := z1
        have z2 : v.b t % 100 = i' := z2
        have eo : o = p := by omega
        have ei : i' = i := by omega
        subst eo
        subst ei
        exact ⟨_, (ok.2.1 (v.f t) (by omega)).1 o ho, hb⟩
      · exact ih (v.f t) h1 (by omega) w
/-- an act that is not worth it mends nothing -/
theorem wo_8 {h : am_H} {r : TR} (hr : r.all) {sd : Nat → Bool} {o cap qs qn p : Nat} (x : EX8 h o cap qs qn r sd) (sp : (svAll r).sp = false) (nw : ¬ wellT r sd) (t8 : T8 h r) (hp : p < 3) (F : Nat) (hF : 6000 ≤ F) : ∃ y, f_X6_worthMending F o (nI p) h = some (y, h) ∧ (∀ i l, i < 16 → l < 4 → bt y i = false → ¬ wellT (r.lt p i l) sd) ∧ ∀ i, i < 16 → bt y i = true → r.av p i := by
  have okA : svOk r (svAll r) := svRow_ok hr.1 hr.2.1 2000
  have n2 := okA.1.2
  have gA : svG r (svAll r) := svRow_g hr.1 hr.2.1 2000
  have av : ∀ i j, j < (svAll r).n → bt (r.fo p (((svAll r).s j).1 p)) i = true → r.av p i := fun i j hj q => ⟨_, (okA.2.1 j hj).1 p hp, q⟩
  have bfy : ∀ (y : Int32) i, bt y i = false → ¬ bt y i = true := fun y i e q => by rw [e] at q; cases q
  rcases fb_l hr x (F - (svAll r).n - 1) (svAll r).n 0 (by omega) (fun i hi => absurd hi (Nat.not_lt_zero _)) with ⟨e, nb⟩ | ⟨b, hb, bb, e⟩
  · rw [show F - (svAll r).n - 1 + (svAll r).n + 1 = F from by omega] at e
    have e : f_X6_firstBad F o h = some (Int32.ofInt (-1), h) := e
    -- some state is forever
    have cz : cN (svP r sd 3) (svAll r).n ≠ 0 := by
      intro q
      apply nw
      refine ⟨sp, fun k hk => ⟨?_, nb k hk⟩⟩
      cases hh : svH r sd k with
      | true => rfl
      | false =>
        have : ∀ m, cN (svP r sd 3) m = 0 → ∀ j, j < m → svP r sd 3 j = false := by
          intro m
          induction m with
          | zero => intro _ j hj; exact absurd hj (Nat.not_lt_zero _)
          | succ m ih =>
            intro e j hj
            cases pm : svP r sd 3 m with
            | true => rw [cN_t pm] at e; exact absurd e (Nat.succ_ne_zero _)
            | false =>
              rw [cN_f pm] at e
              by_cases cj : j = m
              · rw [cj]; exact pm
              · exact ih e j (by omega)
        have := this _ q k hk
        have e3 : svP r sd 3 k = !svH r sd k := if_pos rfl
        rw [e3, hh] at this; cases this
    obtain ⟨f0, hf0, ef, pf, -⟩ := cF_ex _ cz
    have t3 := (x.2.2 3 (by decide)).2
    rw [ef] at t3
    have fh : svH r sd f0 = false := by
      have e3 : svP r sd 3 f0 = !svH r sd f0 := if_pos rfl
      rw [e3] at pf
      cases q : svH r sd f0 with
      | false => rfl
      | true => rw [q] at pf; cases pf
    obtain ⟨y, e2, iy⟩ := ao_8 hr x hp hf0 F (by omega)
    obtain ⟨z, e4, iz, jz⟩ := wo_l hr x t8 hp (Int32.ofInt (-1)) (F - (svAll r).n - 1) (svAll r).n 0 y (by omega)
    rw [show F - (svAll r).n - 1 + (svAll r).n + 1 = F from by omega] at e4
    refine ⟨z, ?_, fun i l hi hl hz => ?_, fun i hi hz => ?_⟩
    · unfold f_X6_worthMending
      rw [e, b2s, if_pos (show Int32.ofInt (-1) < 0 by decide), show Int32.toNatClampNeg (Int32.ofInt 3) = 3 from rfl, t3, e2, b2s]
      exact e4
    · obtain ⟨z1, z2⟩ := iz i hz
      exact lt_for hr hl sp hf0 fh (fun q => bfy y i z1 ((iy i hi).mpr q)) (fun k hk hh => z2 k (Nat.zero_le _) hk hh)
    · rcases jz i hz with q | ⟨j, hj, q⟩
      · exact onWay_av okA gA f0 hf0 ((iy i hi).mp q)
      · exact av i j hj q
  · rw [show F - (svAll r).n - 1 + (svAll r).n + 1 = F from by omega] at e
    have e : f_X6_firstBad F o h = some (nI b, h) := e
    obtain ⟨y, e2, iy⟩ := ao_8 hr x hp hb F (by omega)
    have eJ : am_J h (o + 3) b = lL (r.N ((svAll r).s b)) := (x.1.1.choose_spec.2.2.1 b hb).1
    have ma := l8_may hr.1 t8 (okA.2.1 b hb) hp
    refine ⟨y ||| r.fo p (((svAll r).s b).1 p), ?_, fun i l hi hl hz => ?_, fun i hi hz => ?_⟩
    · unfold f_X6_worthMending
      rw [e, b2s, if_neg (nI_nneg (show b < 2 ^ 31 by omega)), e2, b2s, hp_vp (show b < 2000 by omega) (by decide), cond_true, nI_clamp (show b < 2 ^ 31 by omega), eJ, ma, b2s]
    · rw [bt_or, Bool.or_eq_false_iff] at hz
      exact lt_bad hr hl hb bb (fun q => bfy y i hz.1 ((iy i hi).mpr q)) hz.2
    · rw [bt_or, Bool.or_eq_true] at hz
      rcases hz with q | q
      · exact onWay_av okA gA b hb ((iy i hi).mp q)
      · exact av i b hb q
