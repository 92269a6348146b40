theorem FS_c {h : am_H} {cap : Nat} {q : Nat → Nat} {N N' : Nat} {S S' : Nat → Nat} {J : Nat} {X : Nat → Int32} (g : FS h cap q N S J X) (hN : N' = N) (hS : ∀ i, i < N → S' i = S i) : FS h cap q N' S' J X := by
  subst hN
  obtain ⟨f, g0, b, g1, g2⟩ := g
  exact ⟨f, g0, b, fun i hi => by rw [hS i hi]; exact g1 i hi, g2⟩
theorem FS_w {h : am_H} {cap : Nat} {q : Nat → Nat} {N : Nat} {S : Nat → Nat} {J : Nat} {X : Nat → Int32} (g : FS h cap q N S J X) (hJ : J < 24 * cap) : FS (am_sI h (q 2) J (X J)) cap q N S (J + 1) X := by
  obtain ⟨f, g0, ⟨b1, b2, b3, b4, b5⟩, g1, g2⟩ := g
  have f' := f
  obtain ⟨fr, inj, h98⟩ := f'
  refine ⟨f, ?_, ⟨b1, b2, b3, b4, by omega⟩, ?_, ?_⟩
  · rw [hp_I' _ _ _ (fun e => (fr 2 (by decide) (by decide)).2.2.1 e.symm)]; exact g0
  · rw [hp_I' _ _ _ (fun e => by have := inj 1 2 (by decide) (by decide) (by decide) (by decide) e; omega)]; exact g1
  · intro j hj
    rw [hp_I]
    by_cases c : j = J
    · rw [c, upd_at]
    · rw [upd_ne c]; exact g2 j (by omega)
theorem bt_and (x y : Int32) (q : Nat) : bt (x &&& y) q = true ↔ bt x q = true ∧ bt y q = true := by
  show (x.toBitVec &&& y.toBitVec).getLsbD q = true ↔ _
  rw [BitVec.getLsbD_and, Bool.and_eq_true]; rfl
/-- a step: set k, sort s -/
theorem gs8_step {a n : Nat} {so : Nat → Nat} {fo : Nat → Nat → Prop} {h : am_H} {cap : Nat} {q : Nat → Nat} {k s : Nat} (hs : s < 24) (hM : ∀ j, sbN (bLd n so fo) j ≤ 4096) (hk : k < sbN (bLd n so fo) (24 * k + s)) (hv : ∀ j i, i < sbN (bLd n so fo) j → sbV (bLd n so fo) j i < 65536)
    (g : FS h cap q (sbN (bLd n so fo) (24 * k + s)) (sbV (bLd n so fo) (24 * k + s)) (24 * k + s) (sbX (bLd n so fo))) {y : Int32} (hy : y &&& am_I h 18 s = nI (sbT (bLd n so fo) (24 * k + s))) (hT : sbT (bLd n so fo) (24 * k + s) < 65536) {F : Nat} (hF : 5000 ≤ F) :
    ∃ h' q' cap' c z, g_X2_gatherSets (F + 1) 3 a (nI k) y (nI s) h = am_cost c z (g_X2_gatherSets F 3 a (nI k) y (nI (s + 1)) h') ∧ FS h' cap' q' (sbN (bLd n so fo) (24 * k + s + 1)) (sbV (bLd n so fo) (24 * k + s + 1)) (24 * k + s + 1) (sbX (bLd n so fo)) ∧ frF q q' h h' ∧ am_I h' 18 = am_I h 18 ∧ cap ≤ cap' ∧ c ≤ 5 * (cap' - cap) ∧ z = 56 * (cap' - cap) := by
  have j1 : (24 * k + s) / 24 = k := by omega
  have mm : ¬ Int32.ofInt 24 ≤ nI s := nI_ge (a := s) (b := 24) (by omega) (by omega)
  have vs : am_vp (nI s) 24 = true := hp_vp hs (by decide)
  have cs : Int32.toNatClampNeg (nI s) = s := nI_clamp (by omega)
  have ix : (Int32.ofInt 24) * nI k + nI s = nI (24 * k + s) := by rw [show Int32.ofInt 24 = nI 24 from rfl, nI_mul, nI_add]
  have hM1 := hM (24 * k + s)
  have hM2 := hM (24 * k + s + 1)
  have g' := g
  obtain ⟨⟨fr, inj, h98⟩, g0, ⟨b1, b2, b3, b4, b5⟩, g1, g2⟩ := g'
  by_cases t0 : sbT (bLd n so fo) (24 * k + s) = 0
  · obtain ⟨o1, o2⟩ := sb_old (ld := bLd n so fo) (j := 24 * k + s) (fun h => h.2.1 t0)
    have hX : sbX (bLd n so fo) (24 * k + s) = Int32.ofInt (-1) := if_pos t0
    obtain ⟨a2, l2, n2, m2, K2⟩ := fr 2 (by decide) (by decide)
    have K2 : am_K h (q 2) = .inr (0, 24 * cap) := K2
    have vi : am_vp (nI (24 * k + s)) (24 * cap) = true := hp_vp (by omega) (by omega)
    have ci : Int32.toNatClampNeg (nI (24 * k + s)) = 24 * k + s := nI_clamp (by omega)
    refine ⟨am_sI h (q 2) (24 * k + s) (sbX (bLd n so fo) (24 * k + s)), q, cap, 0, 0, ?_, ?_, frF_s (by decide) (by decide) _ _, ?_, Nat.le_refl _, by omega, by omega⟩
    · rw [cost_0, g_X2_gatherSets]
      simp only [show Nat.beq 3 0 = false from rfl, show Nat.beq 3 1 = false from rfl, show Nat.beq 3 2 = false from rfl, cond_false]
      rw [if_neg mm, vs, cond_true, cs, hy, if_pos ((nI_0e (by omega)).mpr t0), a2, b_some, hp_ln K2, b_some, ix, vi, cond_true, ci, hp_1, hX]
    · exact FS_c (FS_w g (by omega)) o1 (fun i _ => by rw [o2])
    · rw [hp_I' _ _ _ (fun e => m2 e.symm)]
  · have z : ¬ nI (sbT (bLd n so fo) (24 * k + s)) = 0 := fun e => t0 ((nI_0e (by omega)).mp e)
    have hX : sbX (bLd n so fo) (24 * k + s) = nI (sbIx (sbV (bLd n so fo) (24 * k + s)) (sbT (bLd n so fo) (24 * k + s)) (sbN (bLd n so fo) (24 * k + s))) := if_neg t0
    obtain ⟨h1, q1, cap1, c, zz, e1, G1, f1, i18, cc, hc, hz⟩ := nb_8 g (hv _) hT (fun e => by
      have := (sb_new (ld := bLd n so fo) (j := 24 * k + s) (by rw [j1]; exact hk) t0 e).1
      omega) (F := F) (by omega)
    have G2 : FS h1 cap1 q1 (sbN (bLd n so fo) (24 * k + s + 1)) (sbV (bLd n so fo) (24 * k + s + 1)) (24 * k + s) (sbX (bLd n so fo)) := by
      by_cases hin : sbIx (sbV (bLd n so fo) (24 * k + s)) (sbT (bLd n so fo) (24 * k + s)) (sbN (bLd n so fo) (24 * k + s)) = sbN (bLd n so fo) (24 * k + s)
      · obtain ⟨o1, o2⟩ := sb_new (ld := bLd n so fo) (j := 24 * k + s) (by rw [j1]; exact hk) t0 hin
        refine FS_c G1 (by rw [if_pos hin]; exact o1) (fun i _ => ?_)
        rw [o2]
        simp only [if_pos hin]
      · obtain ⟨o1, o2⟩ := sb_old (ld := bLd n so fo) (j := 24 * k + s) (fun h => hin h.2.2)
        refine FS_c G1 (by rw [if_neg hin]; exact o1) (fun i _ => ?_)
        rw [o2]
        simp only [if_neg hin, ite_self]
    have G2' := G2
    obtain ⟨⟨fr1, inj1, _⟩, _, ⟨d1, d2, d3, d4, d5⟩, _, _⟩ := G2'
    obtain ⟨a2, l2, n2, m2, K2⟩ := fr1 2 (by decide) (by decide)
    have K2 : am_K h1 (q1 2) = .inr (0, 24 * cap1) := K2
    have mono := (sb_ge (bLd n so fo) (24 * k + s) 1).1
    have vi : am_vp (nI (24 * k + s)) (24 * cap1) = true := hp_vp (by omega) (by omega)
    have ci : Int32.toNatClampNeg (nI (24 * k + s)) = 24 * k + s := nI_clamp (by omega)
    refine ⟨am_sI h1 (q1 2) (24 * k + s) (sbX (bLd n so fo) (24 * k + s)), q1, cap1, c, zz, ?_, FS_w G2 (by omega), frF_t f1 (frF_s (by decide) (by decide) _ _), ?_, cc, hc, hz⟩
    · rw [g_X2_gatherSets]
      simp only [show Nat.beq 3 0 = false from rfl, show Nat.beq 3 1 = false from rfl, show Nat.beq 3 2 = false from rfl, cond_false]
      rw [if_neg mm, vs, cond_true, cs, hy, if_neg z, e1]
      show am_cost c zz ((am_A h1 12 2).bind fun q12 => _) = _
      rw [a2, b_some, hp_ln K2, b_some, ix, vi, cond_true, ci, hp_1, hX]
    · rw [hp_I' _ _ _ (fun e => m2 e.symm), i18]
theorem gs8_in {a n : Nat} {so : Nat → Nat} {fo : Nat → Nat → Prop} {k : Nat} (hM : ∀ j, sbN (bLd n so fo) j ≤ 4096) (hk : k < sbN (bLd n so fo) (24 * k)) (hv : ∀ j i, i < sbN (bLd n so fo) j → sbV (bLd n so fo) j i < 65536) {y : Int32} {r18 : Nat → Int32} (hy : ∀ s, s < 24 → y &&& r18 s = nI (sbT (bLd n so fo) (24 * k + s))) {F : Nat} (hF : 5000 ≤ F) :
    ∀ (d s : Nat) (h : am_H) (cap : Nat) (q : Nat → Nat), s + d = 24 → am_I h 18 = r18 → FS h cap q (sbN (bLd n so fo) (24 * k + s)) (sbV (bLd n so fo) (24 * k + s)) (24 * k + s) (sbX (bLd n so fo)) →
    ∃ h' q' cap' c z, g_X2_gatherSets (F + d + 1) 3 a (nI k) y (nI s) h = am_cost c z (g_X2_gatherSets F 1 a (nI (k + 1)) 0 0 h') ∧ FS h' cap' q' (sbN (bLd n so fo) (24 * (k + 1))) (sbV (bLd n so fo) (24 * (k + 1))) (24 * (k + 1)) (sbX (bLd n so fo)) ∧ frF q q' h h' ∧ am_I h' 18 = r18 ∧ cap ≤ cap' ∧ c ≤ 5 * (cap' - cap) ∧ z = 56 * (cap' - cap) := by
  intro d
  induction d with
  | zero =>
    intro s h cap q hs h18 g
    have : s = 24 := by omega
    subst this
    refine ⟨h, q, cap, 0, 0, ?_, ?_, frF_r q h, h18, Nat.le_refl _, by omega, by omega⟩
    · rw [cost_0, show F + 0 + 1 = F + 1 from rfl, g_X2_gatherSets]
      simp only [show Nat.beq 3 0 = false from rfl, show Nat.beq 3 1 = false from rfl, show Nat.beq 3 2 = false from rfl, cond_false]
      rw [if_pos (by decide), hp_1]
    · rw [show 24 * (k + 1) = 24 * k + 24 from by omega]; exact g
  | succ d ih =>
    intro s h cap q hs h18 g
    have hk' : k < sbN (bLd n so fo) (24 * k + s) := Nat.lt_of_lt_of_le hk (sb_ge _ (24 * k) s).1
    have hT : sbT (bLd n so fo) (24 * k + s) < 65536 := by unfold sbT; exact uMk_lt _
    obtain ⟨h1, q1, cap1, c1, z1, e1, G1, f1, i1, l1, b1, w1⟩ := gs8_step (a := a) (s := s) (by omega) hM hk' hv g (by rw [h18]; exact hy s (by omega)) hT (F := F + d + 1) (by omega)
    obtain ⟨h2, q2, cap2, c2, z2, e2, G2, f2, i2, l2, b2, w2⟩ := ih (s + 1) h1 cap1 q1 (by omega) (i1.trans h18) G1
    refine ⟨h2, q2, cap2, c1 + c2, z1 + z2, ?_, G2, frF_t f1 f2, i2, by omega, by omega, by omega⟩
    rw [show F + (d + 1) + 1 = (F + d + 1) + 1 from rfl, e1, e2, cost_t]
