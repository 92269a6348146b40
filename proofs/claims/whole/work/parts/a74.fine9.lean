/-! ===== the reference lays which states can still come to an end: its loops ===== -/
theorem nar_bI (b : Bool) : vp_nar (am_at 2) (bI b) = bI b := by cases b <;> rfl
/-- the row of what is fine -/
def X9 (h : am_H) (n : Nat) (X : Nat → Bool) : Prop := ∀ i, i < n → am_I h 83 i = bI (X i)
theorem lf_l {h : am_H} {r : TR} {sd : Nat → Bool} (hr : r.ok) (h0 : r.sk s00) (sp : (svAll r).sp = false) (q : R9 h r sd) {X : Nat → Bool} (x9 : X9 h (svAll r).n X) {k : Nat} (hk : k < (svAll r).n) (F : Nat) : ∀ (d j : Nat), j + d = (svRow r (k + 1)).m → (svRow r k).m ≤ j → ∃ b, g_X9_leadsToFine (F + d + 1) 0 (nI k) (bI false) (nI j) h = some (bI b, h) ∧ (b = true ↔ ∃ j', j ≤ j' ∧ j' < (svRow r (k + 1)).m ∧ X ((svAll r).et j') = true) := by
  have ok : svOk r (svAll r) := svRow_ok hr h0 2000
  have n2 := ok.1.2
  have e96 := q.2.2.2.2 (k + 1) (by omega)
  have v2 : am_vp (nI k + Int32.ofInt 1) 2002 = true := by rw [hp_1]; exact hp_vp (by omega) (by decide)
  have c2 : Int32.toNatClampNeg (nI k + Int32.ofInt 1) = k + 1 := by rw [hp_1]; exact nI_clamp (by omega)
  have mA : (svAll r).m ≤ 180000 := svRow_m r 2000 sp
  intro d
  induction d with
  | zero =>
    intro j hj hm
    refine ⟨false, ?_, ⟨fun q => Bool.noConfusion q, fun ⟨j', a, b, _⟩ => absurd b (by omega)⟩⟩
    rw [show F + 0 + 1 = F + 1 from rfl, g_X9_leadsToFine, v2, cond_true, c2, e96, show j = (svRow r (k + 1)).m from by omega, if_pos (Int32.le_refl _), b01_bI, cond_true]
  | succ d ih =>
    intro j hj hm
    have ej := (svAll_es sp (k := k) (j := j) (by omega)).mp ⟨hm, by omega⟩
    have ge : ¬ nI (svRow r (k + 1)).m ≤ nI j := by
      have : (svRow r (k + 1)).m ≤ 180090 := by
        have := svRow_mm (r := r) (k := k + 1) (2000 - (k + 1)) (by rw [show k + 1 + (2000 - (k + 1)) = 2000 from by omega]; exact sp)
        rw [show k + 1 + (2000 - (k + 1)) = 2000 from by omega] at this
        have t : (svRow r 2000).m ≤ 180000 := mA
        omega
      exact nI_ge (by omega) (by omega)
    have et := (ok.2.2.2.2.2 j ej.1).2
    have e97 := q.2.2.2.1.2.2.2 j ej.1
    have hd : g_X9_leadsToFine (F + (d + 1) + 1) 0 (nI k) (bI false) (nI j) h = g_X9_leadsToFine (F + d + 1) 0 (nI k) (bI (X ((svAll r).et j))) (nI (j + 1)) h := by
      rw [show F + (d + 1) + 1 = (F + d + 1) + 1 from rfl, g_X9_leadsToFine, v2, cond_true, c2, e96, if_neg ge, if_pos (show bI false = 0 from rfl), hp_vp (show j < 180090 by omega) (by decide), cond_true, nI_clamp (show j < 2 ^ 31 by omega), e97, hp_vp (show (svAll r).et j < 2001 by omega) (by decide), cond_true, nI_clamp (show (svAll r).et j < 2 ^ 31 by omega), x9 _ et, hp_1 j]
    rw [hd]
    cases hX : X ((svAll r).et j) with
    | false =>
      obtain ⟨b, e, i⟩ := ih (j + 1) (by omega) (by omega)
      refine ⟨b, e, i.trans ⟨fun ⟨j', a, b, c⟩ => ⟨j', by omega, b, c⟩, fun ⟨j', a, b, c⟩ => ?_⟩⟩
      by_cases cj : j' = j
      · rw [cj, hX] at c; cases c
      · exact ⟨j', by omega, b, c⟩
    | true =>
      refine ⟨true, ?_, ⟨fun _ => ⟨j, Nat.le_refl _, by omega, hX⟩, fun _ => rfl⟩⟩
      rw [g_X9_leadsToFine, v2, cond_true, c2, e96]
      by_cases c : nI (svRow r (k + 1)).m ≤ nI (j + 1)
      · rw [if_pos c, b01_bI, cond_true]
      · rw [if_neg c, if_neg (show ¬ bI true = 0 by decide), b01_bI, cond_true]
theorem lf_9 {h : am_H} {r : TR} {sd : Nat → Bool} (hr : r.ok) (h0 : r.sk s00) (sp : (svAll r).sp = false) (q : R9 h r sd) {X : Nat → Bool} (x9 : X9 h (svAll r).n X) {k : Nat} (hk : k < (svAll r).n) (F : Nat) (hF : 200000 ≤ F) : ∃ b, f_X9_leadsToFine F (nI k) h = some (bI b, h) ∧ (b = true ↔ ∃ j, j < (svAll r).m ∧ (svAll r).es j = k ∧ X ((svAll r).et j) = true) := by
  have ok : svOk r (svAll r) := svRow_ok hr h0 2000
  have n2 := ok.1.2
  have mA : (svAll r).m ≤ 180000 := svRow_m r 2000 sp
  have m1 : (svRow r k).m ≤ (svRow r (k + 1)).m := by
    apply svRow_mm1
    have := svRow_spd (r := r) (k := k + 1) (2000 - (k + 1)) (by rw [show k + 1 + (2000 - (k + 1)) = 2000 from by omega]; exact sp)
    exact this
  have m2 : (svRow r (k + 1)).m ≤ 180000 := by
    have := svRow_mm (r := r) (k := k + 1) (2000 - (k + 1)) (by rw [show k + 1 + (2000 - (k + 1)) = 2000 from by omega]; exact sp)
    rw [show k + 1 + (2000 - (k + 1)) = 2000 from by omega] at this
    have t : (svRow r 2000).m ≤ 180000 := mA
    omega
  obtain ⟨b, e, i⟩ := lf_l hr h0 sp q x9 hk (F - ((svRow r (k + 1)).m - (svRow r k).m) - 1) ((svRow r (k + 1)).m - (svRow r k).m) (svRow r k).m (by omega) (Nat.le_refl _)
  rw [show F - ((svRow r (k + 1)).m - (svRow r k).m) - 1 + ((svRow r (k + 1)).m - (svRow r k).m) + 1 = F from by omega] at e
  refine ⟨b, ?_, i.trans ⟨fun ⟨j, a, b, c⟩ => ?_, fun ⟨j, a, b, c⟩ => ?_⟩⟩
  · unfold f_X9_leadsToFine
    rw [hp_vp (show k < 2002 by omega) (by decide), cond_true, nI_clamp (show k < 2 ^ 31 by omega), q.2.2.2.2 k (by omega)]
    exact e
  · have := (svAll_es sp (k := k) (j := j) (by omega)).mp ⟨a, b⟩
    exact ⟨j, this.1, this.2, c⟩
  · have := (svAll_es sp (k := k) (j := j) (by omega)).mpr ⟨a, b⟩
    exact ⟨j, this.1, this.2, c⟩
theorem X9_94 {h : am_H} {n : Nat} {X : Nat → Bool} (x : X9 h n X) (k : Nat) : X9 (am_sI h 83 k (bI true)) n (updT X k) := by
  intro i hi
  rw [hp_I]
  by_cases c : i = k
  · rw [c, upd_at, updT_at]
  · rw [upd_ne c, updT_ne c]; exact x i hi
/-- the states that are not fine -/
def notB (X : Nat → Bool) : Nat → Bool := fun i => !X i
theorem notB_m {X Y : Nat → Bool} (h : ∀ i, X i = true → Y i = true) {i : Nat} (e : notB Y i = true) : notB X i = true := by
  unfold notB at *
  cases q : X i with
  | false => rfl
  | true => rw [h i q] at e; cases e
theorem pm1 {k : Nat} (h : 1 ≤ k) : nI k - Int32.ofInt 1 = nI (k - 1) := nI_m1 (by omega)
theorem pm2 (k : Nat) : nI k + Int32.ofInt (-1) = nI k - Int32.ofInt 1 := by
  rw [Int32.sub_eq_add_neg]; rfl
/-- one pass, from the last state to the first -/
theorem ps_9 {r : TR} {sd : Nat → Bool} (hr : r.ok) (h0 : r.sk s00) (sp : (svAll r).sp = false) (D : Nat → Bool) (x1 : Int64) (F : Nat) (hF : 200000 ≤ F) : ∀ (k : Nat) (h : am_H) (X : Nat → Bool) (ch : Bool), k ≤ (svAll r).n → R9 h r sd → X9 h (svAll r).n X → (∀ i, X i = true → hope D (svAll r).es (svAll r).et (svAll r).m i) →
    ∃ h' X' ch', g_X9_layFine (F + k + 1) 2 x1 (bI ch) (nI k - Int32.ofInt 1) h = g_X9_layFine F 1 x1 (bI ch') 0 h' ∧ R9 h' r sd ∧ X9 h' (svAll r).n X' ∧ frB h h' ∧ (∀ i, X i = true → X' i = true) ∧ (∀ i, X' i = true → hope D (svAll r).es (svAll r).et (svAll r).m i) ∧ (ch' = false → ch = false ∧ (∀ i, X' i = X i) ∧ ∀ j, j < (svAll r).m → (svAll r).es j < k → X ((svAll r).et j) = true → X ((svAll r).es j) = true) ∧ (ch' = true → ch = true ∨ cN (notB X') (svAll r).n < cN (notB X) (svAll r).n) := by
  have ok : svOk r (svAll r) := svRow_ok hr h0 2000
  have n2 := ok.1.2
  intro k
  induction k with
  | zero =>
    intro h X ch hk q x9 so
    refine ⟨h, X, ch, ?_, q, x9, frB_r h, fun _ a => a, so, fun c => ⟨c, fun _ => rfl, fun j _ a => absurd a (Nat.not_lt_zero _)⟩, fun c => Or.inl c⟩
    rw [show F + 0 + 1 = F + 1 from rfl, g_X9_layFine, q20, cond_false, q21, cond_false, if_pos (show nI 0 - Int32.ofInt 1 < 0 by decide)]
  | succ k ih =>
    intro h X ch hk q x9 so
    have kn : k < (svAll r).n := by omega
    have e1 : nI (k + 1) - Int32.ofInt 1 = nI k := pm1 (by omega)
    have hd : g_X9_layFine (F + (k + 1) + 1) 2 x1 (bI ch) (nI (k + 1) - Int32.ofInt 1) h = am_b2 ((if bI (X k) = 0 then am_b2 (f_X9_leadsToFine (F + k + 1) (nI k) h) fun r7 h8 => ((if r7 = 0 then some (bI ch, h8) else some ((Int32.ofInt 1), (am_sI h8 83 k (vp_nar (am_at 2) (Int32.ofInt 1)))))) else some (bI ch, h))) fun y3 h4 => (g_X9_layFine (F + k + 1) 2 x1 y3 (nI k - Int32.ofInt 1) h4) := by
      rw [e1, show F + (k + 1) + 1 = (F + k + 1) + 1 from rfl, g_X9_layFine, q20, cond_false, q21, cond_false, if_neg (nI_nneg (show k < 2 ^ 31 by omega)), hp_vp (show k < 2001 by omega) (by decide), cond_true, nI_clamp (show k < 2 ^ 31 by omega), x9 k kn, pm2]
    rw [hd]
    cases hX : X k with
    | true =>
      rw [if_neg (show ¬ bI true = 0 by decide), b2s]
      obtain ⟨h', X', ch', e, r1, r2, r3, r4, r5, r6, r7⟩ := ih h X ch (by omega) q x9 so
      refine ⟨h', X', ch', e, r1, r2, r3, r4, r5, fun c => ?_, r7⟩
      obtain ⟨a, b, d⟩ := r6 c
      refine ⟨a, b, fun j hj hl hx => ?_⟩
      by_cases cj : (svAll r).es j = k
      · rw [cj]; exact hX
      · exact d j hj (by omega) hx
    | false =>
      obtain ⟨b, eb, ib⟩ := lf_9 hr h0 sp q x9 kn (F + k + 1) (by omega)
      rw [if_pos (show bI false = 0 from rfl), eb, b2s]
      cases hb : b with
      | false =>
        rw [if_pos (show bI false = 0 from rfl), b2s]
        obtain ⟨h', X', ch', e, r1, r2, r3, r4, r5, r6, r7⟩ := ih h X ch (by omega) q x9 so
        refine ⟨h', X', ch', e, r1, r2, r3, r4, r5, fun c => ?_, r7⟩
        obtain ⟨a, b', d⟩ := r6 c
        refine ⟨a, b', fun j hj hl hx => ?_⟩
        by_cases cj : (svAll r).es j = k
        · have := ib.mpr ⟨j, hj, cj, hx⟩
          rw [hb] at this; cases this
        · exact d j hj (by omega) hx
      | true =>
        obtain ⟨j, jm, je, jx⟩ := ib.mp hb
        rw [if_neg (show ¬ bI true = 0 by decide), b2s, show Int32.ofInt 1 = bI true from rfl, nar_bI]
        have lt : cN (notB (updT X k)) (svAll r).n < cN (notB X) (svAll r).n := cN_lt _ (fun i _ e => notB_m (fun i a => updT_le a) e) ⟨k, kn, by unfold notB; rw [updT_at]; rfl, by unfold notB; rw [hX]; rfl⟩
        obtain ⟨h', X', ch', e, r1, r2, r3, r4, r5, r6, r7⟩ := ih (am_sI h 83 k (bI true)) (updT X k) true (by omega) (R9_94 q k _) (X9_94 x9 k) (fun i a => by
          rcases updT_or a with c | c
          · rw [c, ← je]; exact hope_s jm (so _ jx)
          · exact so i c)
        refine ⟨h', X', ch', e, r1, r2, frB_t (frB_94 h k _) r3, fun i a => r4 i (updT_le a), r5, fun c => absurd (r6 c).1 (by decide), fun _ => Or.inr ?_⟩
        exact Nat.lt_of_le_of_lt (cN_mono _ (fun i _ e => notB_m r4 e)) lt
/-- passes until nothing changes -/
theorem pa_9 {r : TR} {sd : Nat → Bool} (hr : r.ok) (h0 : r.sk s00) (sp : (svAll r).sp = false) (D : Nat → Bool) {sn : TS} (hn : r.sk sn) : ∀ (u F : Nat) (h : am_H) (X : Nat → Bool) (ch : Bool), 200000 ≤ F → cN (notB X) (svAll r).n ≤ u → R9 h r sd → X9 h (svAll r).n X → (∀ i, X i = true → hope D (svAll r).es (svAll r).et (svAll r).m i) → (ch = false → ∀ j, j < (svAll r).m → X ((svAll r).et j) = true → X ((svAll r).es j) = true) →
    ∃ h' X', g_X9_layFine (F + 2003 * (u + 1) + 1) 1 (lL (wN sn)) (bI ch) 0 h = some ((), h') ∧ R9 h' r sd ∧ T9 h' r sn ∧ X9 h' (svAll r).n X' ∧ frB h h' ∧ (∀ i, X i = true → X' i = true) ∧ (∀ i, X' i = true → hope D (svAll r).es (svAll r).et (svAll r).m i) ∧ ∀ j, j < (svAll r).m → X' ((svAll r).et j) = true → X' ((svAll r).es j) = true := by
  have ok : svOk r (svAll r) := svRow_ok hr h0 2000
  have n2 := ok.1.2
  have fin : ∀ (h : am_H) (X : Nat → Bool) (G : Nat), 100 ≤ G → R9 h r sd → X9 h (svAll r).n X → ∃ h', g_X9_layFine (G + 1) 1 (lL (wN sn)) (bI false) 0 h = some ((), h') ∧ R9 h' r sd ∧ T9 h' r sn ∧ X9 h' (svAll r).n X ∧ frB h h' := by
    intro h X G hG q x9
    obtain ⟨s0, t⟩ := q.2.2.1
    obtain ⟨h', e, t', f⟩ := ly_9 t hn (G - 20)
    rw [show G - 20 + 20 = G from by omega] at e
    refine ⟨h', ?_, R9_Z q f t', t', fun i hi => by rw [f.1.2 83 (by decide) (by decide)]; exact x9 i hi, frB_Z f⟩
    rw [g_X9_layFine, q10, cond_false, q11, cond_true, if_pos (show bI false = 0 from rfl), e, b2s]
  intro u
  induction u with
  | zero =>
    intro F h X ch hF hu q x9 so cl
    cases ch with
    | false =>
      obtain ⟨h', e, r1, r2, r3, r4⟩ := fin h X (F + 2003 * (0 + 1)) (by omega) q x9
      exact ⟨h', X, e, r1, r2, r3, r4, fun _ a => a, so, cl rfl⟩
    | true =>
      obtain ⟨h1, X1, ch1, e1, q1, x1, f1, s1, so1, c1, d1⟩ := ps_9 hr h0 sp D (lL (wN sn)) (F + 2003 * (0 + 1) - (svAll r).n - 1) (by omega) (svAll r).n h X false (Nat.le_refl _) q x9 so
      have e50 : am_I h 51 50 = nI (svAll r).n := q.2.2.2.1.1.choose_spec.1
      have st : g_X9_layFine (F + 2003 * (0 + 1) + 1) 1 (lL (wN sn)) (bI true) 0 h = g_X9_layFine (F + 2003 * (0 + 1) - (svAll r).n - 1) 1 (lL (wN sn)) (bI ch1) 0 h1 := by
        rw [← e1, g_X9_layFine, q10, cond_false, q11, cond_true, if_neg (show ¬ bI true = 0 by decide), e50, show F + 2003 * (0 + 1) - (svAll r).n - 1 + (svAll r).n + 1 = F + 2003 * (0 + 1) from by omega]; rfl
      cases hc : ch1 with
      | true =>
        rcases d1 hc with a | a
        · cases a
        · omega
      | false =>
        obtain ⟨-, ex, cx⟩ := c1 hc
        obtain ⟨h', e, r1, r2, r3, r4⟩ := fin h1 X1 (F + 2003 * (0 + 1) - (svAll r).n - 2) (by omega) q1 x1
        rw [show F + 2003 * (0 + 1) - (svAll r).n - 2 + 1 = F + 2003 * (0 + 1) - (svAll r).n - 1 from by omega] at e
        refine ⟨h', X1, by rw [st, hc]; exact e, r1, r2, r3, frB_t f1 r4, s1, so1, fun j hj hx => ?_⟩
        rw [ex] at hx ⊢
        exact cx j hj (ok.2.2.2.2.2 j hj).1 hx
  | succ u ih =>
    intro F h X ch hF hu q x9 so cl
    cases ch with
    | false =>
      obtain ⟨h', e, r1, r2, r3, r4⟩ := fin h X (F + 2003 * (u + 1 + 1)) (by omega) q x9
      exact ⟨h', X, e, r1, r2, r3, r4, fun _ a => a, so, cl rfl⟩
    | true =>
      obtain ⟨h1, X1, ch1, e1, q1, x1, f1, s1, so1, c1, d1⟩ := ps_9 hr h0 sp D (lL (wN sn)) (F + 2003 * (u + 1 + 1) - (svAll r).n - 1) (by omega) (svAll r).n h X false (Nat.le_refl _) q x9 so
      have e50 : am_I h 51 50 = nI (svAll r).n := q.2.2.2.1.1.choose_spec.1
      have st : g_X9_layFine (F + 2003 * (u + 1 + 1) + 1) 1 (lL (wN sn)) (bI true) 0 h = g_X9_layFine (F + 2003 * (u + 1 + 1) - (svAll r).n - 1) 1 (lL (wN sn)) (bI ch1) 0 h1 := by
        rw [← e1, g_X9_layFine, q10, cond_false, q11, cond_true, if_neg (show ¬ bI true = 0 by decide), e50, show F + 2003 * (u + 1 + 1) - (svAll r).n - 1 + (svAll r).n + 1 = F + 2003 * (u + 1 + 1) from by omega]; rfl
      cases hc : ch1 with
      | true =>
        rcases d1 hc with a | a
        · cases a
        · obtain ⟨h', X', e, r1, r2, r3, r4, r5, r6, r7⟩ := ih (F + 2003 - (svAll r).n - 2) h1 X1 true (by omega) (by omega) q1 x1 so1 (fun a => Bool.noConfusion a)
          rw [show F + 2003 - (svAll r).n - 2 + 2003 * (u + 1) + 1 = F + 2003 * (u + 1 + 1) - (svAll r).n - 1 from by omega] at e
          exact ⟨h', X', by rw [st, hc]; exact e, r1, r2, r3, frB_t f1 r4, fun i a => r5 i (s1 i a), r6, r7⟩
      | false =>
        obtain ⟨-, ex, cx⟩ := c1 hc
        obtain ⟨h', e, r1, r2, r3, r4⟩ := fin h1 X1 (F + 2003 * (u + 1 + 1) - (svAll r).n - 2) (by omega) q1 x1
        rw [show F + 2003 * (u + 1 + 1) - (svAll r).n - 2 + 1 = F + 2003 * (u + 1 + 1) - (svAll r).n - 1 from by omega] at e
        refine ⟨h', X1, by rw [st, hc]; exact e, r1, r2, r3, frB_t f1 r4, s1, so1, fun j hj hx => ?_⟩
        rw [ex] at hx ⊢
        exact cx j hj (ok.2.2.2.2.2 j hj).1 hx
