theorem bt_and1 (x : Int32) : x &&& Int32.ofInt 1 = bI (bt x 0) := by
  have := bt_9 x (j := 0) (by decide)
  rw [← this]
  congr 1
  apply Int32.toBitVec.inj
  apply BitVec.eq_of_getLsbD_eq
  intro i hi
  show _ = (x.toBitVec.sshiftRight (((nI 0 &&& 31).toBitVec.smod 32#32).toNat)).getLsbD i
  rw [bt_e2 0 (by decide), BitVec.getLsbD_sshiftRight]
  simp [hi]
theorem bI_if (x : Bool) : (if bI x = Int32.ofInt 1 then some (Int32.ofInt 1) else some (Int32.ofInt 0)) = some (bI x) := by cases x <;> rfl
theorem ms9_in {b n : Nat} {so : Nat → Nat} {fo : Nat → Nat → Prop} (hso : ∀ i, so i < 24) {en : Nat → Bool} {k : Nat} (hM : ∀ j, sbN (bLd n so fo) j ≤ 4096) (hv : ∀ j i, i < sbN (bLd n so fo) j → sbV (bLd n so fo) j i < 65536) {F : Nat} (hF : 20 ≤ F) (hk : k < sbN (bLd n so fo) (24 * k)) :
    ∀ (d a : Nat) (h : am_H), a + d = 24 → B9 h b n so fo → M9 (bLd n so fo) en h (24 * k + a) (k + 1) → ∃ h', g_X9_meetSets (F + d + 1) 2 (nI b) (nI k) (nI a) h = g_X9_meetSets F 1 (nI b) (nI (k + 1)) 0 h' ∧ M9 (bLd n so fo) en h' (24 * (k + 1)) (k + 1) ∧ frM h h' := by
  intro d
  induction d with
  | zero =>
    intro a h hd hb g
    have : a = 24 := by omega
    subst this
    refine ⟨h, ?_, ?_, frM_r h⟩
    · rw [show F + 0 + 1 = F + 1 from rfl, g_X9_meetSets]
      simp only [show Nat.beq 2 0 = false from rfl, show Nat.beq 2 1 = false from rfl, cond_false]
      rw [if_pos (by decide), hp_1]
    · rw [show 24 * (k + 1) = 24 * k + 24 from by omega]; exact g
  | succ d ih =>
    intro a h hd hb g
    have hk' : k < sbN (bLd n so fo) (24 * k + a) := Nat.lt_of_lt_of_le hk (sb_ge _ (24 * k) a).1
    obtain ⟨h1, e1, g1, f1⟩ := ms9_step hb hso (F := F + d + 1) (by omega) hM hk' (by omega) (hv _) g (by omega)
    obtain ⟨h2, e2, g2, f2⟩ := ih (a + 1) h1 (by omega) (B9_fr hb f1) g1
    exact ⟨h2, by rw [show F + (d + 1) + 1 = (F + d + 1) + 1 from rfl, e1, e2], g2, frM_t f1 f2⟩
theorem ms9_out {b n : Nat} {so : Nat → Nat} {fo : Nat → Nat → Prop} (hso : ∀ i, so i < 24) (hM : ∀ j, sbN (bLd n so fo) j ≤ 4096) (hv : ∀ j i, i < sbN (bLd n so fo) j → sbV (bLd n so fo) j i < 65536) {F : Nat} (hF : 20 ≤ F) :
    ∀ (d k : Nat) (h : am_H), k + d = 4096 → B9 h b n so fo → M9 (bLd n so fo) (bEn fo) h (24 * k) k → (∀ i, i < k → i < sbN (bLd n so fo) (24 * i)) → ∃ K h', g_X9_meetSets (F + 26 * d + 1) 1 (nI b) (nI k) 0 h = some ((), h') ∧ sbN (bLd n so fo) (24 * K) = K ∧ (∀ i, i < K → i < sbN (bLd n so fo) (24 * i)) ∧ M9 (bLd n so fo) (bEn fo) h' (24 * K) K ∧ frM h h' := by
  intro d
  induction d with
  | zero =>
    intro k h hd hb g hlt
    have hN := hM (24 * k)
    refine ⟨k, h, ?_, ?_, hlt, g, frM_r h⟩
    · rw [g_X9_meetSets]
      simp only [show Nat.beq 1 0 = false from rfl, show Nat.beq 1 1 = true from rfl, cond_false, cond_true, g.1]
      rw [if_pos (by rw [nI_leI (by omega) (by omega)]; omega)]
    · apply Nat.le_antisymm (by omega)
      cases k with
      | zero => exact Nat.zero_le _
      | succ k =>
        have h1 := hlt k (by omega)
        have h2 := (sb_ge (bLd n so fo) (24 * k) 24).1
        rw [show 24 * (k + 1) = 24 * k + 24 from by omega]
        omega
  | succ d ih =>
    intro k h hd hb g hlt
    have hN := hM (24 * k)
    by_cases hk : sbN (bLd n so fo) (24 * k) ≤ k
    · refine ⟨k, h, ?_, ?_, hlt, g, frM_r h⟩
      · rw [g_X9_meetSets]
        simp only [show Nat.beq 1 0 = false from rfl, show Nat.beq 1 1 = true from rfl, cond_false, cond_true, g.1]
        rw [if_pos (by rw [nI_leI (by omega) (by omega)]; omega)]
      · apply Nat.le_antisymm hk
        cases k with
        | zero => exact Nat.zero_le _
        | succ k =>
          have h1 := hlt k (by omega)
          have h2 := (sb_ge (bLd n so fo) (24 * k) 24).1
          rw [show 24 * (k + 1) = 24 * k + 24 from by omega]
          omega
    · have hk : k < sbN (bLd n so fo) (24 * k) := by omega
      obtain ⟨y, ey, hy⟩ := nx_9 hb (sbV (bLd n so fo) (24 * k) k) (F := F + 26 * d + 26) (by omega)
      have vk : am_vp (nI k) 4096 = true := hp_vp (by omega) (by decide)
      have ck : Int32.toNatClampNeg (nI k) = k := nI_clamp (by omega)
      have yb : bt y 0 = bEn fo (sbV (bLd n so fo) (24 * k) k) := by
        rw [Bool.eq_iff_iff, hy 0]
        exact ⟨fun h => uD_i h, fun h => uD_e h⟩
      obtain ⟨g1, g2, g3, g4, g5, g6⟩ := g
      have st : g_X9_meetSets (F + 26 * (d + 1) + 1) 1 (nI b) (nI k) 0 h = g_X9_meetSets (F + 26 * d + 26) 2 (nI b) (nI k) (nI 0) (am_sI h 69 k (bI (bEn fo (sbV (bLd n so fo) (24 * k) k)))) := by
        rw [show F + 26 * (d + 1) + 1 = (F + 26 * d + 26) + 1 from by omega, g_X9_meetSets]
        simp only [show Nat.beq 1 0 = false from rfl, show Nat.beq 1 1 = true from rfl, cond_false, cond_true, g1, vk, ck, g2 k hk, ey, b2s, bt_and1, yb]
        rw [if_neg (by rw [nI_leI (by omega) (by omega)]; omega)]
        rw [bI_if, b_some, nar2]
        rfl
      have f0 : frM h (am_sI h 69 k (bI (bEn fo (sbV (bLd n so fo) (24 * k) k)))) := frM_s (frM_r h) _ _ (by decide) (by decide)
      have G : M9 (bLd n so fo) (bEn fo) (am_sI h 69 k (bI (bEn fo (sbV (bLd n so fo) (24 * k) k)))) (24 * k + 0) (k + 1) := by
        refine ⟨?_, ?_, ?_, ?_, ?_, ?_⟩
        · rw [hp_I' _ _ _ (by decide)]; exact g1
        · rw [hp_I' _ _ _ (by decide)]; exact g2
        · rw [hp_I' _ _ _ (by decide)]; exact g3
        · rw [hp_I' _ _ _ (by decide)]; exact g4
        · rw [hp_I' _ _ _ (by decide)]; exact g5
        · intro i hi
          rw [hp_I]
          by_cases c : i = k
          · rw [c, upd_at]; rfl
          · rw [upd_ne c]; exact g6 i (by omega)
      obtain ⟨h1, e1, G1, f1⟩ := ms9_in hso hM hv (F := F + 26 * d + 1) (by omega) hk 24 0 _ rfl (B9_fr hb f0) G
      obtain ⟨K, h2, e2, hK1, hK2, G2, f2⟩ := ih (k + 1) h1 (by omega) (B9_fr hb (frM_t f0 f1)) G1 (by
        intro i hi
        by_cases c : i = k
        · rw [c]; exact hk
        · exact hlt i (by omega))
      refine ⟨K, h2, ?_, hK1, hK2, G2, frM_t (frM_t f0 f1) f2⟩
      rw [st, show F + 26 * d + 26 = (F + 26 * d + 1) + 24 + 1 from by omega, e1, e2]
theorem ms9_fill {b : Nat} (N : Nat) : ∀ (d i : Nat) (h : am_H), i + d = 65536 → (∀ v, v < i → am_I h 67 v = Int32.ofInt (-1)) → ∃ h', g_X9_meetSets (N + d + 1) 0 (nI b) (nI i) 0 h = g_X9_meetSets N 1 (nI b) (nI 0) 0 (am_sI (am_sI (am_sI h' 51 26 (nI 1)) 66 0 (nI 1)) 67 1 (nI 0)) ∧ (∀ v, v < 65536 → am_I h' 67 v = Int32.ofInt (-1)) ∧ frM h h' := by
  intro d
  induction d with
  | zero =>
    intro i h hd hv
    have : i = 65536 := by omega
    subst this
    refine ⟨h, ?_, hv, frM_r h⟩
    rw [g_X9_meetSets]
    simp only [show Nat.beq 0 0 = true from rfl, cond_true]
    rw [if_pos (by decide)]
    rfl
  | succ d ih =>
    intro i h hd hv
    have mm : ¬ (65536 : Int32) ≤ nI i := nI_ge (a := i) (b := 65536) (by omega) (by omega)
    have vi : am_vp (nI i) 65536 = true := hp_vp (by omega) (by decide)
    have ci : Int32.toNatClampNeg (nI i) = i := nI_clamp (by omega)
    obtain ⟨h', e, a, f⟩ := ih (i + 1) (am_sI h 67 i (Int32.ofInt (-1))) (by omega) (by
      intro v hvi
      rw [hp_I]
      by_cases c : v = i
      · rw [c, upd_at]
      · rw [upd_ne c]; exact hv v (by omega))
    refine ⟨h', ?_, a, frM_t (frM_s (frM_r h) _ _ (by decide) (by decide)) f⟩
    rw [show N + (d + 1) + 1 = (N + d + 1) + 1 from rfl, g_X9_meetSets]
    simp only [show Nat.beq 0 0 = true from rfl, cond_true, if_neg mm, vi, ci, hp_1]
    exact e
theorem ms_9 {h : am_H} {b n : Nat} {so : Nat → Nat} {fo : Nat → Nat → Prop} (hb : B9 h b n so fo) (hso : ∀ i, so i < 24) {lb : Nat → Nat} {B σ : Nat} (hk : bOk n fo lb B σ) {F : Nat} (hF : 200000 ≤ F) :
    ∃ K h', f_X9_meetSets F (nI b) h = some ((), h') ∧ sbN (bLd n so fo) (24 * K) = K ∧ (∀ i, i < K → i < sbN (bLd n so fo) (24 * i)) ∧ M9 (bLd n so fo) (bEn fo) h' (24 * K) K ∧ frM h h' := by
  obtain ⟨s1, s2⟩ := sb_book hb.2.1 hso hk
  have hv : ∀ j i, i < sbN (bLd n so fo) j → sbV (bLd n so fo) j i < 65536 := by
    intro j i hi
    obtain ⟨_, w, e⟩ := s1 j i hi
    rw [e]; exact uMk_lt _
  obtain ⟨h1, e1, a1, f1⟩ := ms9_fill (b := b) (F - 65537) 65536 0 h (by omega) (fun v hv => by omega)
  rw [show F - 65537 + 65536 + 1 = F from by omega] at e1
  have G : M9 (bLd n so fo) (bEn fo) (am_sI (am_sI (am_sI h1 51 26 (nI 1)) 66 0 (nI 1)) 67 1 (nI 0)) (24 * 0) 0 := by
    refine ⟨?_, ?_, ?_, ?_, ?_, ?_⟩
    · simp only [hp_I, hp_I', ne_eq, Nat.reduceEqDiff, not_false_eq_true, upd_at]; rfl
    · intro i hi
      have hi : i < 1 := hi
      have : i = 0 := by omega
      subst this
      simp only [hp_I, hp_I', ne_eq, Nat.reduceEqDiff, not_false_eq_true, upd_at]; rfl
    · intro i hi
      have hi : i < 1 := hi
      have : i = 0 := by omega
      subst this
      show am_I _ 67 1 = _
      simp only [hp_I, upd_at]
    · intro v hv hno
      have : v ≠ 1 := fun e => hno 0 (show 0 < 1 by decide) e.symm
      simp only [hp_I, hp_I', ne_eq, Nat.reduceEqDiff, not_false_eq_true, upd_ne this]
      exact a1 v hv
    · intro i hi; omega
    · intro i hi; omega
  have f2 : frM h (am_sI (am_sI (am_sI h1 51 26 (nI 1)) 66 0 (nI 1)) 67 1 (nI 0)) := frM_s (frM_s (frM_n f1 _) _ _ (by decide) (by decide)) _ _ (by decide) (by decide)
  obtain ⟨K, h3, e3, k1, k2, g3, f3⟩ := ms9_out hso s2 hv (F := F - 65537 - 26 * 4096 - 1) (by omega) 4096 0 _ rfl (B9_fr hb f2) G (fun i hi => by omega)
  refine ⟨K, h3, ?_, k1, k2, g3, frM_t f2 f3⟩
  unfold f_X9_meetSets
  rw [show F - 65537 - 26 * 4096 - 1 + 26 * 4096 + 1 = F - 65537 from by omega] at e3
  exact e1.trans e3
