theorem gs8_out {a qc qf n : Nat} {so : Nat → Nat} {fo : Nat → Nat → Prop} (hM : ∀ j, sbN (bLd n so fo) j ≤ 4096) (hs1 : ∀ j i, i < sbN (bLd n so fo) j → sbV (bLd n so fo) j i ≠ 0 ∧ ∃ w, sbV (bLd n so fo) j i = uMk (bSet n so fo w)) {K : Nat} (hK : sbEnd (bLd n so fo) K) {F : Nat} (hF : 5000 ≤ F) :
    ∀ (d k : Nat) (h : am_H) (cap : Nat) (q : Nat → Nat), k + d = K → B8 h a qc qf n so fo → sepF h q a → sepF h q qc → sepF h q qf → (∀ s, s < 24 → ∀ p, bt (am_I h 18 s) p = true ↔ 1 ≤ p ∧ p ≤ n ∧ so p = s) → FS h cap q (sbN (bLd n so fo) (24 * k)) (sbV (bLd n so fo) (24 * k)) (24 * k) (sbX (bLd n so fo)) →
    ∃ h' q' cap' c z, g_X2_gatherSets (F + d * (n + 28) + 1) 1 a (nI k) 0 0 h = some (((), h'), c, z) ∧ FS h' cap' q' K (sbV (bLd n so fo) (24 * K)) (24 * K) (sbX (bLd n so fo)) ∧ frF q q' h h' ∧ cap ≤ cap' ∧ c ≤ 5 * (cap' - cap) ∧ z = 56 * (cap' - cap) := by
  have hv : ∀ j i, i < sbN (bLd n so fo) j → sbV (bLd n so fo) j i < 65536 := by
    intro j i hi
    obtain ⟨_, w, e⟩ := hs1 j i hi
    rw [e]; exact uMk_lt _
  have K4 : K ≤ 4096 := by rw [← hK.1]; exact hM _
  intro d
  induction d with
  | zero =>
    intro k h cap q hk hb sa sc sf h18 g
    have : k = K := by omega
    subst this
    have g0 := g.2.1
    rw [hK.1] at g g0
    refine ⟨h, q, cap, 0, 0, ?_, g, frF_r q h, Nat.le_refl _, by omega, by omega⟩
    rw [Nat.zero_mul, Nat.add_zero, g_X2_gatherSets]
    simp only [show Nat.beq 1 0 = false from rfl, show Nat.beq 1 1 = true from rfl, cond_false, cond_true]
    rw [g0, if_pos (Int32.le_refl _)]
  | succ d ih =>
    intro k h cap q hk hb sa sc sf h18 g
    have hkN : k < sbN (bLd n so fo) (24 * k) := hK.2 k (by omega)
    have hM1 := hM (24 * k)
    have g' := g
    obtain ⟨⟨fr, inj, h98⟩, g0, ⟨b1, b2, b3, b4, b5⟩, g1, g2⟩ := g'
    obtain ⟨a1, l1, n1, m1, K1⟩ := fr 1 (by decide) (by decide)
    have K1 : am_K h (q 1) = .inr (0, cap) := K1
    have n15 := hb.2.2.1
    obtain ⟨y, e1, hy⟩ := my8 hb a1 K1 (by omega) (by omega) (g1 k hkN) (F + d * (n + 28) + 1 + 24 + 1) (n + 1) 0 (Int32.ofInt 0) (by omega) (fun p => by rw [bt_0]; exact ⟨(fun h => nomatch h), fun ⟨r, hr, _⟩ => by omega⟩)
    have hyT : ∀ s, s < 24 → y &&& am_I h 18 s = nI (sbT (bLd n so fo) (24 * k + s)) := by
      intro s hs
      have hkj : sbV (bLd n so fo) (24 * k + s) k = sbV (bLd n so fo) (24 * k) k := (sb_ge _ (24 * k) s).2 k hkN
      have hT : sbT (bLd n so fo) (24 * k + s) = bLd n so fo (sbV (bLd n so fo) (24 * k) k) s := by
        unfold sbT
        rw [show (24 * k + s) / 24 = k from by omega, show (24 * k + s) % 24 = s from by omega, hkj]
      rw [hT]
      apply uMk_of
      intro p
      rw [bt_and, hy p, h18 s hs p]
      constructor
      · rintro ⟨⟨r, hr, ht, hf⟩, p1, pn, ps⟩
        exact ⟨by omega, p1, pn, ps, r, by omega, ht, hf⟩
      · rintro ⟨_, p1, pn, ps, r, hr, ht, hf⟩
        obtain ⟨_, w, ew⟩ := hs1 (24 * k) k hkN
        rw [ew] at ht
        have hw := ((uMk_t _ r).mp ht).2
        have hrn : r ≤ n := by
          cases w with
          | nil => have : r = 0 := hw; omega
          | cons c w => exact (bSet_rg hw).2.1
        exact ⟨⟨r, hrn, by rw [ew]; exact ht, hf⟩, p1, pn, ps⟩
    obtain ⟨h1, q1, cap1, c1, z1, e2, G1, f1, i1, l1', b1', w1⟩ := gs8_in (a := a) hM hkN hv hyT (F := F + d * (n + 28) + 1) (by omega) 24 0 h cap q rfl rfl g
    obtain ⟨h2, q2, cap2, c2, z2, e3, G2, f2, l2', b2', w2⟩ := ih (k + 1) h1 cap1 q1 (by omega) (B8_fr hb f1 sa sc sf) (sepF_fr f1 sa) (sepF_fr f1 sc) (sepF_fr f1 sf) (by rw [i1]; exact h18) G1
    refine ⟨h2, q2, cap2, c1 + c2, z1 + z2, ?_, G2, frF_t f1 f2, by omega, by omega, by omega⟩
    have mm : ¬ nI (sbN (bLd n so fo) (24 * k)) ≤ nI k := nI_ge (a := k) (b := sbN (bLd n so fo) (24 * k)) (by omega) (by omega)
    have m2 : ¬ (65536 : Int32) ≤ nI k := nI_ge (a := k) (b := 65536) (by omega) (by omega)
    rw [show F + (d + 1) * (n + 28) + 1 = (F + d * (n + 28) + 1 + 24 + 1 + (n + 1) + 1) + 1 from by rw [Nat.succ_mul]; omega, g_X2_gatherSets]
    simp only [show Nat.beq 1 0 = false from rfl, show Nat.beq 1 1 = true from rfl, cond_false, cond_true]
    rw [g0, if_neg mm, if_neg m2]
    refine (show g_X2_gatherSets (F + d * (n + 28) + 1 + 24 + 1 + (n + 1) + 1) 2 a (nI k) (Int32.ofInt 0) (nI 0) h = _ from e1).trans ?_
    rw [e2, e3]
    rfl
theorem gs_8 {h : am_H} {a qc qf n : Nat} {so : Nat → Nat} {fo : Nat → Nat → Prop} {cap : Nat} {q : Nat → Nat} (hb : B8 h a qc qf n so fo) (hso : ∀ i, so i < 24) {lb : Nat → Nat} {B σ : Nat} (hk : bOk n fo lb B σ) (fr : FR h cap q) (hc : 1 ≤ cap) (hc' : cap ≤ 8192) (K18 : am_K h 18 = .inr (0, 24)) (sa : sepF h q a) (sc : sepF h q qc) (sf : sepF h q qf) {F : Nat} (hF : 200000 ≤ F) :
    ∃ K h' q' cap' c z, f_X2_gatherSets F a h = some (((), h'), c, z) ∧ sbEnd (bLd n so fo) K ∧ K ≤ 4096 ∧ FS h' cap' q' K (sbV (bLd n so fo) (24 * K)) (24 * K) (sbX (bLd n so fo)) ∧ frF q q' h h' ∧ cap ≤ cap' ∧ c ≤ 5 * (cap' - cap) ∧ z = 56 * (cap' - cap) := by
  have n15 := hb.2.2.1
  obtain ⟨s1, s2⟩ := sb_book n15 hso hk
  obtain ⟨K, k1, k2, k3⟩ := sb_end s2
  -- the sorts' row
  have e0 := pf_fillF (q := 18) (N := 24) (x := Int32.ofInt 0) (by decide) (F - 25) h K18
  rw [show F - 25 + 24 + 1 = F from by omega] at e0
  have f0 : frF q q h (am_sR h 18 (hp_fl (am_I h 18) 0 24 (Int32.ofInt 0))) := ⟨Nat.le_refl _, fun _ _ => ⟨rfl, rfl⟩, fun _ _ _ => rfl, fun o _ _ h18 _ => hp_IR' _ _ h18, fun _ _ => rfl, fun k h1 h5 => Or.inr ⟨k, h1, h5, rfl⟩⟩
  obtain ⟨h1, e1, fr1, f1, p18⟩ := os8 (a := a) (qc := qc) (qf := qf) hso (q := q) (cap := cap) (F - (n + 1)) n 1 _ (by omega) (Nat.le_refl _) (show FR (am_sR h 18 (hp_fl (am_I h 18) 0 24 (Int32.ofInt 0))) cap q from fr) (B8_fr hb f0 sa sc sf) (sepF_fr f0 sa) (sepF_fr f0 sc) (sepF_fr f0 sf) (by
    intro s hs p
    rw [hp_IR]
    unfold hp_fl
    rw [if_pos ⟨Nat.zero_le _, hs⟩, bt_0]
    exact ⟨(fun h => nomatch h), fun h => by omega⟩)
  rw [show F - (n + 1) + n + 1 = F from by omega] at e1
  have f2 := frF_12 q h1 0 (Int32.ofInt 0)
  have G0 : FS (am_sI h1 12 0 (Int32.ofInt 0)) cap q 0 (fun _ => 0) 0 (sbX (bLd n so fo)) := ⟨fr1, by rw [hp_I, upd_at]; rfl, ⟨by omega, hc, hc', by omega, by omega⟩, fun i hi => by omega, fun j hj => by omega⟩
  obtain ⟨h3, q3, cap3, c3, z3, e3, G3, f3, i3, l3, b3, w3⟩ := nb_8 G0 (t := 1) (fun i hi => by omega) (by decide) (fun _ => by decide) (F := F - (n + 1)) (by omega)
  have G3' : FS h3 cap3 q3 (sbN (bLd n so fo) (24 * 0)) (sbV (bLd n so fo) (24 * 0)) (24 * 0) (sbX (bLd n so fo)) := FS_c G3 rfl (fun i hi => by
    have hi : i < 1 := hi
    have : i = 0 := by omega
    subst this; rfl)
  have ft := frF_t f0 (frF_t f1 (frF_t f2 f3))
  obtain ⟨h4, q4, cap4, c4, z4, e4, G4, f4, l4, b4, w4⟩ := gs8_out (a := a) (qc := qc) (qf := qf) s2 s1 ⟨k1, k3⟩ (F := F - (n + 1) - K * (n + 28) - 1) (by
    have : K * (n + 28) ≤ 4096 * 43 := Nat.mul_le_mul k2 (by omega)
    omega) K 0 h3 cap3 q3 (by omega) (B8_fr hb ft sa sc sf) (sepF_fr ft sa) (sepF_fr ft sc) (sepF_fr ft sf) (by
      rw [i3, hp_I' _ _ _ (by decide)]; exact p18) G3'
  have hKn : K * (n + 28) ≤ 4096 * 43 := Nat.mul_le_mul k2 (by omega)
  rw [show F - (n + 1) - K * (n + 28) - 1 + K * (n + 28) + 1 = F - (n + 1) from by omega] at e4
  refine ⟨K, h4, q4, cap4, c3 + c4, z3 + z4, ?_, ⟨k1, k3⟩, k2, G4, frF_t ft f4, by omega, by omega, by omega⟩
  unfold f_X2_gatherSets
  rw [e0, b2s]
  refine (show g_X2_gatherSets F 0 a (nI 1) 0 0 _ = _ from e1).trans ?_
  rw [show f_X2_numberOf (F - (n + 1)) (Int32.ofInt 1) (am_sI h1 12 0 (Int32.ofInt 0)) = _ from e3]
  show am_cost c3 z3 (g_X2_gatherSets (F - (n + 1)) 1 a (nI 0) 0 0 h3) = _
  rw [e4]
  rfl
