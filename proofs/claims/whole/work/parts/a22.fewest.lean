def sbO (ld : Nat → Nat → Nat) (j : Nat) : Option Nat := if sbT ld j = 0 then none else some (sbIx (sbV ld j) (sbT ld j) (sbN ld j))
theorem sbX_O (ld : Nat → Nat → Nat) (j : Nat) : sbX ld j = oI (sbO ld j) := by
  unfold sbX sbO
  split <;> rfl
/-- the row of sets is whole at K -/
def sbEnd (ld : Nat → Nat → Nat) (K : Nat) : Prop := sbN ld (24 * K) = K ∧ ∀ i, i < K → i < sbN ld (24 * i)
theorem sbEnd_u {ld : Nat → Nat → Nat} {K K' : Nat} (h : sbEnd ld K) (h' : sbEnd ld K') : K = K' := by
  apply Classical.byContradiction
  intro hne
  rcases Nat.lt_or_gt_of_ne hne with c | c
  · have := h'.2 K c; have := h.1; omega
  · have := h.2 K' c; have := h'.1; omega
theorem sbO_lt {ld : Nat → Nat → Nat} {K : Nat} (h : sbEnd ld K) {j i : Nat} (hj : j < 24 * K) (e : sbO ld j = some i) : i < K := by
  unfold sbO at e
  by_cases t0 : sbT ld j = 0
  · rw [if_pos t0] at e; cases e
  · rw [if_neg t0] at e
    have e : sbIx (sbV ld j) (sbT ld j) (sbN ld j) = i := by cases e; rfl
    have hle := sbIx_le (sbV ld j) (sbT ld j) (sbN ld j)
    have m1 := (sb_ge ld (24 * (j / 24)) (j - 24 * (j / 24))).1
    rw [show 24 * (j / 24) + (j - 24 * (j / 24)) = j from by omega] at m1
    have k1 := h.2 (j / 24) (by omega)
    have m2 := (sb_ge ld (j + 1) (24 * K - (j + 1))).1
    rw [show j + 1 + (24 * K - (j + 1)) = 24 * K from by omega, h.1] at m2
    by_cases c : sbIx (sbV ld j) (sbT ld j) (sbN ld j) = sbN ld j
    · have := (sb_new (by omega) t0 c).1
      omega
    · have := (sb_ge ld j 1).1
      omega
/-- the fewest places of a book -/
def bFew (n : Nat) (so : Nat → Nat) (fo : Nat → Nat → Prop) (K R c : Nat) : Prop := sbEnd (bLd n so fo) K ∧ (1 ≤ K ∧ K ≤ 4096) ∧ (1 ≤ R ∧ R ≤ K) ∧
  (rfK (sbO (bLd n so fo)) (fun i => bif bEn fo (sbV (bLd n so fo) (24 * K) i) then 1 else 0) K (R + 1)).1 = (rfK (sbO (bLd n so fo)) (fun i => bif bEn fo (sbV (bLd n so fo) (24 * K) i) then 1 else 0) K R).1 ∧
  (∀ r, r < R → (rfK (sbO (bLd n so fo)) (fun i => bif bEn fo (sbV (bLd n so fo) (24 * K) i) then 1 else 0) K (r + 1)).1 ≠ (rfK (sbO (bLd n so fo)) (fun i => bif bEn fo (sbV (bLd n so fo) (24 * K) i) then 1 else 0) K r).1) ∧
  c = (rfK (sbO (bLd n so fo)) (fun i => bif bEn fo (sbV (bLd n so fo) (24 * K) i) then 1 else 0) K (R + 1)).1
theorem bFew_u {n : Nat} {so : Nat → Nat} {fo : Nat → Nat → Prop} {K R c K' R' c' : Nat} (h : bFew n so fo K R c) (h' : bFew n so fo K' R' c') : K = K' ∧ R = R' ∧ c = c' := by
  obtain ⟨a1, a2, a3, a4, a5, a6⟩ := h
  obtain ⟨b1, b2, b3, b4, b5, b6⟩ := h'
  have e := sbEnd_u a1 b1
  subst e
  have e : R = R' := by
    apply Classical.byContradiction
    intro hne
    rcases Nat.lt_or_gt_of_ne hne with c | c
    · exact b5 R c a4
    · exact a5 R' c b4
  subst e
  exact ⟨rfl, rfl, a6.trans b6.symm⟩
theorem bFew_ex {n : Nat} (hn : n ≤ 15) {so : Nat → Nat} {fo : Nat → Nat → Prop} (hso : ∀ q, so q < 24) {lb : Nat → Nat} {B σ : Nat} (hb : bOk n fo lb B σ) : ∃ K R c, bFew n so fo K R c := by
  obtain ⟨s1, s2⟩ := sb_book hn hso hb
  obtain ⟨K, k1, k2, k3⟩ := sb_end s2
  have K1 : 1 ≤ K := by have := (sb_pos (bLd n so fo) (24 * K)).1; omega
  obtain ⟨R, r1, r2, r3, r4⟩ := rfK_stop (sbO (bLd n so fo)) (fun i => bif bEn fo (sbV (bLd n so fo) (24 * K) i) then 1 else 0) K K1
  exact ⟨K, R, _, ⟨k1, k3⟩, ⟨K1, k2⟩, ⟨r1, r2⟩, r3, r4, rfl⟩
/-- the first kinds: ends -/
theorem en9 {O : Nat → Option Nat} {N : Nat} {e : Nat → Bool} (b : Int32) : ∀ (d k : Nat) (h : am_H), k + d = N → N ≤ 4096 → am_I h 51 26 = nI N → (∀ i, i < N → am_I h 69 i = bI (e i)) → (∀ i, i < k → am_I h 70 i = nI (bif e i then 1 else 0)) →
    ∃ h', (∀ F, g_X9_fewest (F + (d + 1)) 0 b (nI 0) (nI k) 0 0 h = g_X9_fewest F 1 b (nI 0) (Int32.ofInt (-1)) 0 0 h') ∧ (∀ i, i < N → am_I h' 70 i = nI (bif e i then 1 else 0)) ∧ frM h h' ∧ am_I h' 68 = am_I h 68 ∧ am_I h' 51 26 = nI N := by
  intro d
  induction d with
  | zero =>
    intro k h hk hN h26 h80 h81
    have : k = N := by omega
    subst this
    refine ⟨h, fun F => ?_, h81, frM_r h, rfl, h26⟩
    rw [show F + (0 + 1) = F + 1 from rfl, g_X9_fewest]
    simp only [show Nat.beq 0 0 = true from rfl, cond_true]
    rw [h26, if_pos (Int32.le_refl _)]
  | succ d ih =>
    intro k h hk hN h26 h80 h81
    have mm : ¬ nI N ≤ nI k := nI_ge (a := k) (b := N) (by omega) (by omega)
    have vk : am_vp (nI k) 4096 = true := hp_vp (by omega) (by decide)
    have ck : Int32.toNatClampNeg (nI k) = k := nI_clamp (by omega)
    have y : (if bI (e k) = 0 then some (Int32.ofInt 0) else some (Int32.ofInt 1)) = some (nI (bif e k then 1 else 0)) := by cases e k <;> rfl
    obtain ⟨h', st, a, f, a79, a26⟩ := ih (k + 1) (am_sI h 70 k (nI (bif e k then 1 else 0))) (by omega) hN (by rw [hp_I' _ _ _ (by decide)]; exact h26) (by rw [hp_I' _ _ _ (by decide)]; exact h80) (by
      intro i hi
      rw [hp_I]
      by_cases c : i = k
      · rw [c, upd_at]
      · rw [upd_ne c]; exact h81 i (by omega))
    refine ⟨h', fun F => ?_, a, frM_t (frM_s (frM_r h) _ _ (by decide) (by decide)) f, by rw [a79, hp_I' _ _ _ (by decide)], a26⟩
    rw [← Nat.add_assoc F (d + 1) 1, g_X9_fewest]
    simp only [show Nat.beq 0 0 = true from rfl, cond_true]
    rw [h26, if_neg mm, vk, cond_true, ck, h80 k (by omega), y, b_some, hp_1]
    exact st F
theorem few_9 {h : am_H} {b n : Nat} {so : Nat → Nat} {fo : Nat → Nat → Prop} (hb : B9 h b n so fo) (hso : ∀ i, so i < 24) {lb : Nat → Nat} {B σ : Nat} (hk : bOk n fo lb B σ) {F : Nat} (hF : 100000000000 ≤ F) :
    ∃ K R c h', f_X9_fewest F (nI b) h = some (nI c, h') ∧ bFew n so fo K R c ∧ frM h h' := by
  obtain ⟨K, h1, e1, k1, k2, g, f1⟩ := ms_9 hb hso hk (F := F) (by omega)
  obtain ⟨s1, s2⟩ := sb_book hb.2.1 hso hk
  have K4 : K ≤ 4096 := by rw [← k1]; exact s2 _
  have K1 : 1 ≤ K := by have := (sb_pos (bLd n so fo) (24 * K)).1; omega
  obtain ⟨R, r1, r2, r3, r4⟩ := rfK_stop (sbO (bLd n so fo)) (fun i => bif bEn fo (sbV (bLd n so fo) (24 * K) i) then 1 else 0) K K1
  obtain ⟨g1, g2, g3, g4, g5, g6⟩ := g
  rw [k1] at g1
  obtain ⟨h2, st2, a81, f2, a79, a26⟩ := en9 (O := sbO (bLd n so fo)) (N := K) (e := fun i => bEn fo (sbV (bLd n so fo) (24 * K) i)) (nI b) K 0 h1 (by omega) K4 g1 g6 (fun i hi => by omega)
  have w : W9r (sbO (bLd n so fo)) K (fun i => bif bEn fo (sbV (bLd n so fo) (24 * K) i) then 1 else 0) h2 := by
    refine ⟨K4, a26, ?_, fun j hj i => sbO_lt ⟨k1, k2⟩ hj, fun i hi => ⟨a81 i hi, ?_⟩⟩
    · intro j hj
      rw [a79, g5 j hj, sbX_O]
    · show (bif bEn fo (sbV (bLd n so fo) (24 * K) i) then 1 else 0) < 2 ^ 31
      cases bEn fo (sbV (bLd n so fo) (24 * K) i)
      · exact (by decide : 0 < 2 ^ 31)
      · exact (by decide : 1 < 2 ^ 31)
  obtain ⟨c3, h3, b3, st3, w3, f3⟩ := rn9 w (nI b) (nI 0)
  obtain ⟨c4, h4, b4, st4, w4, f4⟩ := fw9 r3 r4 (nI b) R 0 h3 (by omega) w3
  refine ⟨K, R, _, h4, ?_, ⟨⟨k1, k2⟩, ⟨K1, K4⟩, ⟨r1, r2⟩, r3, r4, rfl⟩, frM_t (frM_t f1 f2) (frM_t f3 f4)⟩
  have q1 : K * (K + 2) ≤ 4096 * 4098 := Nat.mul_le_mul K4 (by omega)
  have q2 : R * (K * (K + 2) + K + 4) ≤ 4096 * (4096 * 4098 + 4096 + 4) := Nat.mul_le_mul (by omega) (by omega)
  unfold f_X9_fewest
  rw [e1, b2s]
  have x2 := st2 (F - (K + 1))
  rw [show F - (K + 1) + (K + 1) = F from by omega] at x2
  refine (show g_X9_fewest F 0 (nI b) (nI 0) (nI 0) 0 0 h1 = _ from x2).trans ?_
  have x3 := st3 (F - (K + 1) - 1 - c3) (by omega)
  rw [show F - (K + 1) - 1 - c3 + c3 = F - (K + 1) - 1 from by omega] at x3
  have x4 := st4 (F - (K + 1) - 1 - c3 - c4) (by omega)
  rw [show F - (K + 1) - 1 - c3 - c4 + c4 = F - (K + 1) - 1 - c3 from by omega] at x4
  rw [show F - (K + 1) = (F - (K + 1) - 1) + 1 from by omega, g_X9_fewest]
  simp only [show Nat.beq 1 0 = false from rfl, show Nat.beq 1 1 = true from rfl, cond_false, cond_true]
  rw [if_neg (fun e => nI_m1ne (v := 0) (by decide) e.symm)]
  exact x3.trans x4
