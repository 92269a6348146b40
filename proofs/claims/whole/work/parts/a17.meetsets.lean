/-! ===== sets of places met one by one: the reference ===== -/
/-- only the reference's rows of sets have changed -/
def frM (h h' : am_H) : Prop := h'.1 = h.1 ∧ am_K h' = am_K h ∧ am_J h' = am_J h ∧ am_A h' = am_A h ∧ (∀ o, (o < 66 ∨ 71 < o) → o ≠ 51 → am_I h' o = am_I h o) ∧ ∀ k, k ≠ 26 → am_I h' 51 k = am_I h 51 k
theorem frM_r (h : am_H) : frM h h := ⟨rfl, rfl, rfl, rfl, fun _ _ _ => rfl, fun _ _ => rfl⟩
theorem frM_t {h h1 h2 : am_H} (a : frM h h1) (b : frM h1 h2) : frM h h2 := ⟨b.1.trans a.1, b.2.1.trans a.2.1, b.2.2.1.trans a.2.2.1, b.2.2.2.1.trans a.2.2.2.1, fun o ho h6 => (b.2.2.2.2.1 o ho h6).trans (a.2.2.2.2.1 o ho h6), fun k hk => (b.2.2.2.2.2 k hk).trans (a.2.2.2.2.2 k hk)⟩
theorem frM_s {h h1 : am_H} (a : frM h h1) {o : Nat} (j : Nat) (x : Int32) (h3 : 66 ≤ o) (h8 : o ≤ 71) : frM h (am_sI h1 o j x) := ⟨a.1, a.2.1, a.2.2.1, a.2.2.2.1, fun q hq h6 => by rw [hp_I' _ _ _ (by omega)]; exact a.2.2.2.2.1 q hq h6, fun k hk => by rw [hp_I' _ _ _ (by omega)]; exact a.2.2.2.2.2 k hk⟩
theorem frM_n {h h1 : am_H} (a : frM h h1) (x : Int32) : frM h (am_sI h1 51 26 x) := ⟨a.1, a.2.1, a.2.2.1, a.2.2.2.1, fun q hq h6 => by rw [hp_I' _ _ _ h6]; exact a.2.2.2.2.1 q hq h6, fun k hk => by rw [hp_I, upd_ne hk]; exact a.2.2.2.2.2 k hk⟩
theorem B9_fr {h h' : am_H} {b n : Nat} {so : Nat → Nat} {fo : Nat → Nat → Prop} (hb : B9 h b n so fo) (f : frM h h') : B9 h' b n so fo := by
  obtain ⟨a1, a2, a3, a4, a5⟩ := hb
  refine ⟨a1, a2, ?_, ?_, ?_⟩
  · rw [f.2.2.2.2.1 55 (by decide) (by decide)]; exact a3
  · rw [f.2.2.2.2.1 53 (by decide) (by decide)]; exact a4
  · rw [f.2.2.2.2.1 54 (by decide) (by decide)]; exact a5
noncomputable def bEn (fo : Nat → Nat → Prop) (X : Nat) : Bool := uD (bNx fo X 0)
def M9 (ld : Nat → Nat → Nat) (en : Nat → Bool) (h : am_H) (j e : Nat) : Prop :=
  am_I h 51 26 = nI (sbN ld j) ∧ (∀ i, i < sbN ld j → am_I h 66 i = nI (sbV ld j i)) ∧ (∀ i, i < sbN ld j → am_I h 67 (sbV ld j i) = nI i) ∧
  (∀ v, v < 65536 → (∀ i, i < sbN ld j → sbV ld j i ≠ v) → am_I h 67 v = Int32.ofInt (-1)) ∧ (∀ i, i < j → am_I h 68 i = sbX ld i) ∧ (∀ i, i < e → am_I h 69 i = bI (en (sbV ld j i)))
theorem nI_m1ne {v : Nat} (h : v < 2 ^ 31) : ¬ nI v = Int32.ofInt (-1) := by
  intro e
  have h' := congrArg Int32.toInt e
  rw [nI_toInt h] at h'
  have : (Int32.ofInt (-1)).toInt = -1 := by decide
  omega
theorem nI_0e {v : Nat} (h : v < 2 ^ 31) : nI v = 0 ↔ v = 0 := by
  constructor
  · intro e
    have h' := congrArg Int32.toNatClampNeg e
    rw [nI_clamp h] at h'
    exact h'
  · rintro rfl; rfl
theorem ms9_step {h : am_H} {b n : Nat} {so : Nat → Nat} {fo : Nat → Nat → Prop} (hb : B9 h b n so fo) (hso : ∀ i, so i < 24) {en : Nat → Bool} {k a e : Nat} (ha : a < 24) (hM : ∀ j, sbN (bLd n so fo) j ≤ 4096) (hk : k < sbN (bLd n so fo) (24 * k + a)) (he : e ≤ sbN (bLd n so fo) (24 * k + a)) (hv : ∀ i, i < sbN (bLd n so fo) (24 * k + a) → sbV (bLd n so fo) (24 * k + a) i < 65536)
    (g : M9 (bLd n so fo) en h (24 * k + a) e) {F : Nat} (hF : 20 ≤ F) :
    ∃ h', g_X9_meetSets (F + 1) 2 (nI b) (nI k) (nI a) h = g_X9_meetSets F 2 (nI b) (nI k) (nI (a + 1)) h' ∧ M9 (bLd n so fo) en h' (24 * k + a + 1) e ∧ frM h h' := by
  have j1 : (24 * k + a) / 24 = k := by omega
  have j2 : (24 * k + a) % 24 = a := by omega
  have hM1 := hM (24 * k + a)
  have hM2 := hM (24 * k + a + 1)
  obtain ⟨g1, g2, g3, g4, g5, g6⟩ := g
  have mm : ¬ Int32.ofInt 24 ≤ nI a := nI_ge (a := a) (b := 24) (by omega) (by omega)
  have vk : am_vp (nI k) 4096 = true := hp_vp (by omega) (by decide)
  have ck : Int32.toNatClampNeg (nI k) = k := nI_clamp (by omega)
  have hT : sbT (bLd n so fo) (24 * k + a) = bLd n so fo (sbV (bLd n so fo) (24 * k + a) k) a := by unfold sbT; rw [j1, j2]
  have hl := ld_9 hb hso (sbV (bLd n so fo) (24 * k + a) k) a ha hF
  rw [← hT] at hl
  have ht : sbT (bLd n so fo) (24 * k + a) < 65536 := by rw [hT]; exact uMk_lt _
  have ix : (Int32.ofInt 24) * nI k + nI a = nI (24 * k + a) := by rw [show Int32.ofInt 24 = nI 24 from rfl, nI_mul, nI_add]
  have vi : am_vp (nI (24 * k + a)) 98304 = true := hp_vp (by omega) (by decide)
  have ci : Int32.toNatClampNeg (nI (24 * k + a)) = 24 * k + a := nI_clamp (by omega)
  have a1 : nI a + Int32.ofInt 1 = nI (a + 1) := hp_1 a
  have hX : sbX (bLd n so fo) (24 * k + a) = if sbT (bLd n so fo) (24 * k + a) = 0 then Int32.ofInt (-1) else nI (sbIx (sbV (bLd n so fo) (24 * k + a)) (sbT (bLd n so fo) (24 * k + a)) (sbN (bLd n so fo) (24 * k + a))) := rfl
  rw [g_X9_meetSets]
  simp only [show Nat.beq 2 0 = false from rfl, show Nat.beq 2 1 = false from rfl, cond_false, if_neg mm, vk, ck, cond_true, g2 k hk, hl, b2s, ix, vi, ci, a1]
  by_cases t0 : sbT (bLd n so fo) (24 * k + a) = 0
  · have z : nI (sbT (bLd n so fo) (24 * k + a)) = 0 := (nI_0e (by omega)).mpr t0
    obtain ⟨o1, o2⟩ := sb_old (ld := bLd n so fo) (j := 24 * k + a) (fun h => h.2.1 t0)
    rw [if_pos t0] at hX
    simp only [if_pos z, b_some]
    refine ⟨_, rfl, ⟨?_, ?_, ?_, ?_, ?_, ?_⟩, frM_s (frM_r h) _ _ (by decide) (by decide)⟩
    · rw [hp_I' _ _ _ (by decide), o1]; exact g1
    · rw [hp_I' _ _ _ (by decide), o1, o2]; exact g2
    · rw [hp_I' _ _ _ (by decide), o1, o2]; exact g3
    · rw [hp_I' _ _ _ (by decide), o1, o2]; exact g4
    · intro i hi
      rw [hp_I]
      by_cases c : i = 24 * k + a
      · rw [c, upd_at, hX]
      · rw [upd_ne c]; exact g5 i (by omega)
    · rw [hp_I' _ _ _ (by decide), o2]; exact g6
  · have z : ¬ nI (sbT (bLd n so fo) (24 * k + a)) = 0 := fun h => t0 ((nI_0e (by omega)).mp h)
    rw [if_neg t0] at hX
    have vt : am_vp (nI (sbT (bLd n so fo) (24 * k + a))) 65536 = true := hp_vp (by omega) (by decide)
    have ct : Int32.toNatClampNeg (nI (sbT (bLd n so fo) (24 * k + a))) = sbT (bLd n so fo) (24 * k + a) := nI_clamp (by omega)
    simp only [if_neg z, vt, ct, cond_true]
    by_cases hin : sbIx (sbV (bLd n so fo) (24 * k + a)) (sbT (bLd n so fo) (24 * k + a)) (sbN (bLd n so fo) (24 * k + a)) = sbN (bLd n so fo) (24 * k + a)
    · -- a new set
      obtain ⟨o1, o2⟩ := sb_new (ld := bLd n so fo) (j := 24 * k + a) (by rw [j1]; exact hk) t0 hin
      have no : ∀ i, i < sbN (bLd n so fo) (24 * k + a) → sbV (bLd n so fo) (24 * k + a) i ≠ sbT (bLd n so fo) (24 * k + a) := fun i hi => sbIx_no (by rw [hin]; exact hi)
      rw [hin] at hX
      have m1 : am_I h 67 (sbT (bLd n so fo) (24 * k + a)) = Int32.ofInt (-1) := g4 _ ht no
      rw [o1] at hM2
      generalize sbT (bLd n so fo) (24 * k + a) = t at *
      generalize hN : sbN (bLd n so fo) (24 * k + a) = N at *
      generalize hS : sbV (bLd n so fo) (24 * k + a) = S at *
      have vN : am_vp (nI N) 4096 = true := hp_vp (by omega) (by decide)
      have cN : Int32.toNatClampNeg (nI N) = N := nI_clamp (by omega)
      have N1 : nI N + Int32.ofInt 1 = nI (N + 1) := hp_1 N
      simp only [m1, if_true, hp_I', ne_eq, Nat.reduceEqDiff, not_false_eq_true, g1, vN, cN, N1, cond_true, b_some, hp_I, upd_at]
      refine ⟨_, rfl, ⟨?_, ?_, ?_, ?_, ?_, ?_⟩, frM_s (frM_n (frM_s (frM_s (frM_r h) _ _ (by decide) (by decide)) _ _ (by decide) (by decide)) _) _ _ (by decide) (by decide)⟩
      · simp only [hp_I', ne_eq, Nat.reduceEqDiff, not_false_eq_true, hp_I, upd_at]; rw [o1]
      · intro i hi
        rw [o1] at hi
        simp only [hp_I', ne_eq, Nat.reduceEqDiff, not_false_eq_true, hp_I]
        rw [o2]
        by_cases c : i = N
        · rw [c, upd_at]; simp
        · rw [upd_ne c]
          show _ = nI (if i = N then t else S i)
          rw [if_neg c]; exact g2 i (by omega)
      · intro i hi
        rw [o1] at hi
        simp only [hp_I', ne_eq, Nat.reduceEqDiff, not_false_eq_true, hp_I]
        rw [o2]
        by_cases c : i = N
        · show upd _ t _ (if i = N then t else S i) = _
          rw [if_pos c, upd_at, c]
        · show upd _ t _ (if i = N then t else S i) = _
          rw [if_neg c, upd_ne (no i (by omega))]; exact g3 i (by omega)
      · intro v hv hno
        simp only [hp_I', ne_eq, Nat.reduceEqDiff, not_false_eq_true, hp_I]
        have h1 : v ≠ t := by
          intro e
          apply hno N (by rw [o1]; omega)
          rw [o2]
          show (if N = N then t else S N) = v
          rw [if_pos rfl, e]
        rw [upd_ne h1]
        refine g4 v hv (fun i hi e => hno i (by rw [o1]; omega) ?_)
        rw [o2]
        show (if i = N then t else S i) = v
        rw [if_neg (by omega)]; exact e
      · intro i hi
        simp only [hp_I', ne_eq, Nat.reduceEqDiff, not_false_eq_true, hp_I]
        by_cases c : i = 24 * k + a
        · rw [c, upd_at, hX]
        · rw [upd_ne c]; exact g5 i (by omega)
      · intro i hi
        simp only [hp_I', ne_eq, Nat.reduceEqDiff, not_false_eq_true]
        rw [o2]
        show _ = bI (en (if i = N then t else S i))
        rw [if_neg (by omega)]; exact g6 i hi
    · -- a set that was met
      obtain ⟨o1, o2⟩ := sb_old (ld := bLd n so fo) (j := 24 * k + a) (fun h => hin h.2.2)
      have hlt : sbIx (sbV (bLd n so fo) (24 * k + a)) (sbT (bLd n so fo) (24 * k + a)) (sbN (bLd n so fo) (24 * k + a)) < sbN (bLd n so fo) (24 * k + a) := by
        have := sbIx_le (sbV (bLd n so fo) (24 * k + a)) (sbT (bLd n so fo) (24 * k + a)) (sbN (bLd n so fo) (24 * k + a))
        omega
      have q := g3 _ hlt
      rw [sbIx_lt hlt] at q
      rw [← hX] at q
      have ne : ¬ sbX (bLd n so fo) (24 * k + a) = Int32.ofInt (-1) := by rw [hX]; exact nI_m1ne (by omega)
      simp only [q, if_neg ne, b_some]
      refine ⟨_, rfl, ⟨?_, ?_, ?_, ?_, ?_, ?_⟩, frM_s (frM_r h) _ _ (by decide) (by decide)⟩
      · rw [hp_I' _ _ _ (by decide), o1]; exact g1
      · rw [hp_I' _ _ _ (by decide), o1, o2]; exact g2
      · rw [hp_I' _ _ _ (by decide), o1, o2]; exact g3
      · rw [hp_I' _ _ _ (by decide), o1, o2]; exact g4
      · intro i hi
        rw [hp_I]
        by_cases c : i = 24 * k + a
        · rw [c, upd_at]
        · rw [upd_ne c]; exact g5 i (by omega)
      · rw [hp_I' _ _ _ (by decide), o2]; exact g6
