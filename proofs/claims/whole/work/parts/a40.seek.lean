section
variable {n1 n2 : Nat} {so1 so2 : Nat → Nat} {fo1 fo2 : Nat → Nat → Prop}
/-- what the reference has found -/
def SF (n1 n2 : Nat) (so1 so2 : Nat → Nat) (fo1 fo2 : Nat → Nat → Prop) (h : am_H) (N : Nat) (pw : Nat → List Nat) (pf pa : Nat → Nat) : Prop := (∃ T, P9 h N (fun i => KY n1 n2 so1 so2 fo1 fo2 (pw i)) (frI pf) (frI pa) T) ∧ BW N pw pf pa ∧ ((am_I h 51 37 = Int32.ofInt (-1) ∧ ∀ u, (∀ a, a ∈ u → a < 24) → ¬ bDis n1 n2 so1 so2 fo1 fo2 u) ∨ ∃ k, k < N ∧ am_I h 51 37 = nI k ∧ wFirst (bDis n1 n2 so1 so2 fo1 fo2) (pw k))
theorem ky_key (hn1 : n1 ≤ 15) (hn2 : n2 ≤ 15) : ∀ a u v, KY n1 n2 so1 so2 fo1 fo2 u = KY n1 n2 so1 so2 fo1 fo2 v → KY n1 n2 so1 so2 fo1 fo2 (a :: u) = KY n1 n2 so1 so2 fo1 fo2 (a :: v) := fun a u v e => Prod.ext (uMk_st hn1 (congrArg Prod.fst e) a) (uMk_st hn2 (congrArg Prod.snd e) a)
theorem ky_z (hn1 : n1 ≤ 15) (hn2 : n2 ≤ 15) : ∀ a u, KY n1 n2 so1 so2 fo1 fo2 u = (0, 0) → KY n1 n2 so1 so2 fo1 fo2 (a :: u) = (0, 0) := fun a u e => Prod.ext (uMk_z hn1 (congrArg Prod.fst e) a) (uMk_z hn2 (congrArg Prod.snd e) a)
theorem ky_d (hn1 : n1 ≤ 15) (hn2 : n2 ≤ 15) : ∀ u v, KY n1 n2 so1 so2 fo1 fo2 u = KY n1 n2 so1 so2 fo1 fo2 v → bDis n1 n2 so1 so2 fo1 fo2 u → bDis n1 n2 so1 so2 fo1 fo2 v := by
  intro u v e hd
  have e1 : uMk (bSet n1 so1 fo1 u) = uMk (bSet n1 so1 fo1 v) := congrArg Prod.fst e
  have e2 : uMk (bSet n2 so2 fo2 u) = uMk (bSet n2 so2 fo2 v) := congrArg Prod.snd e
  unfold bDis at *
  rw [bAcc_k hn1, bAcc_k hn2] at *
  rw [← e1, ← e2]
  exact hd
theorem ky_dz (hn1 : n1 ≤ 15) (hn2 : n2 ≤ 15) : ∀ u, KY n1 n2 so1 so2 fo1 fo2 u = (0, 0) → ¬ bDis n1 n2 so1 so2 fo1 fo2 u := by
  intro u e hd
  have e1 : uMk (bSet n1 so1 fo1 u) = 0 := congrArg Prod.fst e
  have e2 : uMk (bSet n2 so2 fo2 u) = 0 := congrArg Prod.snd e
  unfold bDis at hd
  rw [bAcc_k hn1, bAcc_k hn2, e1, e2] at hd
  exact hd ⟨fun h => absurd h bNx_0, fun h => absurd h bNx_0⟩
theorem sk9_out {b1 b2 : Nat} {lb1 lb2 : Nat → Nat} {B1 B2 σ1 σ2 : Nat} (k1 : bOk n1 fo1 lb1 B1 σ1) (k2 : bOk n2 fo2 lb2 B2 σ2) (s1 : ∀ q, so1 q < 24) (s2 : ∀ q, so2 q < 24) {F : Nat} (hF : 131073 ≤ F) : ∀ (d k : Nat) (h : am_H) (N : Nat) (pw : Nat → List Nat) (pf pa : Nat → Nat), k + d = 65536 → k ≤ N → B9 h b1 n1 so1 fo1 → B9 h b2 n2 so2 fo2 → SA n1 n2 so1 so2 fo1 fo2 h N pw pf pa k 0 → (∀ i, i < k → ¬ bDis n1 n2 so1 so2 fo1 fo2 (pw i)) →
    ∃ h' N' pw' pf' pa', g_X9_seekApart (F + 26 * d + 1) 1 (nI b1) (nI b2) (nI k) 0 h = some ((), h') ∧ SF n1 n2 so1 so2 fo1 fo2 h' N' pw' pf' pa' ∧ frP h h' := by
  intro d
  -- the end of the row
  have fin : ∀ (k : Nat) (h : am_H) (N : Nat) (pw : Nat → List Nat) (pf pa : Nat → Nat) (F : Nat), N ≤ k → k ≤ N → n1 ≤ 15 → n2 ≤ 15 → SA n1 n2 so1 so2 fo1 fo2 h N pw pf pa k 0 → (∀ i, i < k → ¬ bDis n1 n2 so1 so2 fo1 fo2 (pw i)) → ∃ h' N' pw' pf' pa', g_X9_seekApart (F + 1) 1 (nI b1) (nI b2) (nI k) 0 h = some ((), h') ∧ SF n1 n2 so1 so2 fo1 fo2 h' N' pw' pf' pa' ∧ frP h h' := by
    intro k h N pw pf pa F hle hle' hn1 hn2 g hno
    have : k = N := by omega
    subst this
    obtain ⟨⟨T, p⟩, hp, hc, hz, hf⟩ := g
    refine ⟨h, k, pw, pf, pa, ?_, ⟨⟨T, p⟩, hp.1, Or.inl ⟨hf, bc_none hp.1 hc (ky_key hn1 hn2) (ky_z hn1 hn2) (ky_d hn1 hn2) (ky_dz hn1 hn2) hno⟩⟩, frP_r h⟩
    rw [g_X9_seekApart]
    simp only [show Nat.beq 1 0 = false from rfl, show Nat.beq 1 1 = true from rfl, cond_false, cond_true]
    rw [p.1, if_pos (Int32.le_refl _)]
  induction d with
  | zero =>
    intro k h N pw pf pa hk hkN hb1 hb2 g hno
    have p2 := g.1.choose_spec.2.1
    exact fin k h N pw pf pa F (by omega) hkN hb1.2.1 hb2.2.1 g hno
  | succ d ih =>
    intro k h N pw pf pa hk hkN hb1 hb2 g hno
    by_cases hle : N ≤ k
    · have := fin k h N pw pf pa (F + 26 * (d + 1)) hle hkN hb1.2.1 hb2.2.1 g hno
      exact this
    · have hk' : k < N := by omega
      have hn1 := hb1.2.1
      have hn2 := hb2.2.1
      have g' := g
      obtain ⟨⟨T, p⟩, hp, hc, hz, hf⟩ := g'
      obtain ⟨p1, p2, p3, p4, p5⟩ := p
      obtain ⟨q1, q2, q3, q4, _, _⟩ := p3 k hk'
      have q1 : am_I h 72 k = nI (uMk (bSet n1 so1 fo1 (pw k))) := q1
      have q2 : am_I h 73 k = nI (uMk (bSet n2 so2 fo2 (pw k))) := q2
      have mm : ¬ nI N ≤ nI k := nI_ge (a := k) (b := N) (by omega) (by omega)
      have vk : am_vp (nI k) 65536 = true := hp_vp (by omega) (by decide)
      have ck : Int32.toNatClampNeg (nI k) = k := nI_clamp (by omega)
      have e1 := en_9 hb1 (uMk_lt (bSet n1 so1 fo1 (pw k))) (F := F + 26 * d + 26) (by omega)
      have e2 := en_9 hb2 (uMk_lt (bSet n2 so2 fo2 (pw k))) (F := F + 26 * d + 26) (by omega)
      have un : g_X9_seekApart (F + 26 * (d + 1) + 1) 1 (nI b1) (nI b2) (nI k) 0 h = Option.bind (if bI (uD (bNx fo1 (uMk (bSet n1 so1 fo1 (pw k))) 0)) = bI (uD (bNx fo2 (uMk (bSet n2 so2 fo2 (pw k))) 0)) then some h else some (am_sI h 51 37 (nI k))) fun h10 => g_X9_seekApart (F + 26 * d + 26) 2 (nI b1) (nI b2) (nI k) (nI 0) h10 := by
        rw [show F + 26 * (d + 1) + 1 = (F + 26 * d + 26) + 1 from by omega, g_X9_seekApart]
        simp only [show Nat.beq 1 0 = false from rfl, show Nat.beq 1 1 = true from rfl, cond_false, cond_true]
        rw [p1, if_neg mm, hf, if_pos rfl, vk, cond_true, ck, q1, e1, b2s, q2, e2, b2s]
        rfl
      have deq : bI (uD (bNx fo1 (uMk (bSet n1 so1 fo1 (pw k))) 0)) = bI (uD (bNx fo2 (uMk (bSet n2 so2 fo2 (pw k))) 0)) ↔ ¬ bDis n1 n2 so1 so2 fo1 fo2 (pw k) := by
        unfold bDis
        rw [bAcc_k hn1, bAcc_k hn2]
        by_cases c1 : bNx fo1 (uMk (bSet n1 so1 fo1 (pw k))) 0
        · by_cases c2 : bNx fo2 (uMk (bSet n2 so2 fo2 (pw k))) 0
          · rw [uD_i c1, uD_i c2]; exact ⟨fun _ h => h ⟨fun _ => c2, fun _ => c1⟩, fun _ => rfl⟩
          · rw [uD_i c1, uD_n c2]
            refine ⟨fun h => absurd h (by decide), fun h => ?_⟩
            exact absurd (fun hi : (_ ↔ _) => c2 (hi.mp c1)) h
        · by_cases c2 : bNx fo2 (uMk (bSet n2 so2 fo2 (pw k))) 0
          · rw [uD_n c1, uD_i c2]
            refine ⟨fun h => absurd h (by decide), fun h => ?_⟩
            exact absurd (fun hi : (_ ↔ _) => c1 (hi.mpr c2)) h
          · rw [uD_n c1, uD_n c2]; exact ⟨fun _ h => h ⟨fun x => absurd x c1, fun x => absurd x c2⟩, fun _ => rfl⟩
      by_cases hd : bDis n1 n2 so1 so2 fo1 fo2 (pw k)
      · -- found
        have fst := bc_first hk' hp.1 hc (ky_key hn1 hn2) (ky_z hn1 hn2) (ky_d hn1 hn2) (ky_dz hn1 hn2) hno hd
        have ne : ¬ nI k = Int32.ofInt (-1) := nI_m1ne (by omega)
        refine ⟨am_sI h 51 37 (nI k), N, pw, pf, pa, ?_, ⟨⟨T, ?_⟩, hp.1, Or.inr ⟨k, hk', by rw [hp_I, upd_at], fst⟩⟩, frP_n (frP_r h) (Or.inr rfl) _⟩
        · rw [un, if_neg (fun h => (deq.mp h) hd), b_some, show F + 26 * d + 26 = (F + 26 * d + 25) + 1 from rfl, g_X9_seekApart]
          simp only [show Nat.beq 2 0 = false from rfl, show Nat.beq 2 1 = false from rfl, cond_false]
          rw [if_neg (by decide), hp_I, upd_at, if_neg ne, hp_1, show F + 26 * d + 25 = (F + 26 * d + 24) + 1 from rfl, g_X9_seekApart]
          simp only [show Nat.beq 1 0 = false from rfl, show Nat.beq 1 1 = true from rfl, cond_false, cond_true]
          rw [hp_I, upd_at, if_neg ne]
          split <;> rfl
        · refine ⟨?_, p2, ?_, ?_, p5⟩
          · rw [hp_I, upd_ne (by decide)]; exact p1
          · intro i hi
            rw [hp_I' _ _ _ (by decide), hp_I' _ _ _ (by decide), hp_I' _ _ _ (by decide), hp_I' _ _ _ (by decide)]
            exact p3 i hi
          · rw [hp_I' _ _ _ (by decide)]; exact p4
      · obtain ⟨h1, N1, pw1, pf1, pa1, e3, g1, f1, l1, w1⟩ := sk9_in (b1 := b1) (b2 := b2) k1 k2 s1 s2 (F := F + 26 * d + 1) (by omega) 24 0 h N pw pf pa rfl hk' hb1 hb2 g
        obtain ⟨h2, N2, pw2, pf2, pa2, e4, g2, f2⟩ := ih (k + 1) h1 N1 pw1 pf1 pa1 (by omega) (by omega) (B9_frP hb1 f1) (B9_frP hb2 f1) g1 (by
          intro i hi
          by_cases c : i = k
          · rw [c, w1 k hk']; exact hd
          · rw [w1 i (by omega)]; exact hno i (by omega))
        refine ⟨h2, N2, pw2, pf2, pa2, ?_, g2, frP_t f1 f2⟩
        rw [un, if_pos (deq.mpr hd), b_some, show F + 26 * d + 26 = (F + 26 * d + 1) + 24 + 1 from rfl, e3, e4]
theorem sk9_fill {b1 b2 : Nat} (N : Nat) : ∀ (d i : Nat) (h : am_H), i + d = 131072 → (∀ v, v < i → am_I h 76 v = nI 0) → ∃ h', g_X9_seekApart (N + d + 1) 0 (nI b1) (nI b2) (nI i) 0 h = am_b2 (f_X9_meetPair N (nI 1) (nI 1) (Int32.ofInt (-1)) (Int32.ofInt (-1)) (am_sI (am_sI h' 51 36 (nI 0)) 51 37 (Int32.ofInt (-1)))) (fun _ h3 => g_X9_seekApart N 1 (nI b1) (nI b2) (nI 0) 0 h3) ∧ (∀ v, v < 131072 → am_I h' 76 v = nI 0) ∧ frP h h' := by
  intro d
  induction d with
  | zero =>
    intro i h hd hv
    have : i = 131072 := by omega
    subst this
    refine ⟨h, ?_, hv, frP_r h⟩
    rw [show N + 0 + 1 = N + 1 from rfl, g_X9_seekApart]
    simp only [show Nat.beq 0 0 = true from rfl, cond_true]
    rw [if_pos (by decide)]
    rfl
  | succ d ih =>
    intro i h hd hv
    have mm : ¬ (131072 : Int32) ≤ nI i := nI_ge (a := i) (b := 131072) (by omega) (by omega)
    have vi : am_vp (nI i) 131072 = true := hp_vp (by omega) (by decide)
    have ci : Int32.toNatClampNeg (nI i) = i := nI_clamp (by omega)
    obtain ⟨h', e, a, f⟩ := ih (i + 1) (am_sI h 76 i (nI 0)) (by omega) (by
      intro v hvi
      rw [hp_I]
      by_cases c : v = i
      · rw [c, upd_at]
      · rw [upd_ne c]; exact hv v (by omega))
    refine ⟨h', ?_, a, frP_t (frP_s (frP_r h) _ _ (by decide) (by decide)) f⟩
    rw [show N + (d + 1) + 1 = (N + d + 1) + 1 from rfl, g_X9_seekApart]
    simp only [show Nat.beq 0 0 = true from rfl, cond_true]
    rw [if_neg mm, vi, cond_true, ci, hp_1]
    exact e
theorem sk_9 {h : am_H} {b1 b2 : Nat} (hb1 : B9 h b1 n1 so1 fo1) (hb2 : B9 h b2 n2 so2 fo2) {lb1 lb2 : Nat → Nat} {B1 B2 σ1 σ2 : Nat} (k1 : bOk n1 fo1 lb1 B1 σ1) (k2 : bOk n2 fo2 lb2 B2 σ2) (s1 : ∀ q, so1 q < 24) (s2 : ∀ q, so2 q < 24) {F : Nat} (hF : 100000000000 ≤ F) :
    ∃ h' N pw pf pa, f_X9_seekApart F (nI b1) (nI b2) h = some ((), h') ∧ SF n1 n2 so1 so2 fo1 fo2 h' N pw pf pa ∧ frP h h' := by
  obtain ⟨h1, e1, a1, f1⟩ := sk9_fill (b1 := b1) (b2 := b2) (F - 131073) 131072 0 h (by omega) (fun v hv => by omega)
  rw [show F - 131073 + 131072 + 1 = F from by omega] at e1
  let H := am_sI (am_sI h1 51 36 (nI 0)) 51 37 (Int32.ofInt (-1))
  have fH : frP h H := frP_n (frP_n f1 (Or.inl rfl) _) (Or.inr rfl) _
  have p0 : P9 H 0 (fun _ => (0, 0)) (fun _ => 0) (fun _ => 0) (fun _ => 0) := by
    refine ⟨?_, by decide, fun i hi => absurd hi (Nat.not_lt_zero _), ?_, oa_0 131072 (by decide) _ _ _ (fun _ _ => rfl)⟩
    · show am_I (am_sI (am_sI h1 51 36 (nI 0)) 51 37 _) 51 36 = _
      rw [hp_I, upd_ne (by decide), hp_I, upd_at]
    · intro s hs
      show am_I (am_sI (am_sI h1 51 36 (nI 0)) 51 37 _) 76 s = _
      rw [hp_I' _ _ _ (by decide), hp_I' _ _ _ (by decide)]; exact a1 s hs
  obtain ⟨_, m2⟩ := mp_9 p0 (x := (1, 1)) (by decide) (by decide) (Int32.ofInt (-1)) (Int32.ofInt (-1)) (F := F - 131073) (by omega)
  obtain ⟨h2, T2, e2, p2, f2, i2⟩ := m2 (fun k hk => absurd hk (Nat.not_lt_zero _)) (by decide)
  have g : SA n1 n2 so1 so2 fo1 fo2 h2 1 (fun _ => []) (fun _ => 0) (fun _ => 0) 0 0 := by
    have kk : KY n1 n2 so1 so2 fo1 fo2 [] = (1, 1) := Prod.ext uMk_1 uMk_1
    refine ⟨⟨T2, P9_c p2 ?_ ?_ ?_⟩, ⟨⟨by decide, rfl, fun i i1 iN => by omega, fun i j hij hj => by omega⟩, fun i i1 iN => by omega⟩, fun k' a' hlt _ => by omega, ?_, ?_⟩
    · intro i hi
      have : i = 0 := by omega
      subst this; exact kk
    · intro i hi
      have : i = 0 := by omega
      subst this; rfl
    · intro i hi
      have : i = 0 := by omega
      subst this; rfl
    · intro i hi
      show KY n1 n2 so1 so2 fo1 fo2 [] ≠ _
      rw [kk]; decide
    · rw [i2]
      show am_I (am_sI _ 51 37 _) 51 37 = _
      rw [hp_I, upd_at]
  have ft := frP_t fH f2
  obtain ⟨h3, N3, pw3, pf3, pa3, e3, g3, f3⟩ := sk9_out (b1 := b1) (b2 := b2) k1 k2 s1 s2 (F := F - 131073 - 26 * 65536 - 1) (by omega) 65536 0 h2 1 (fun _ => []) (fun _ => 0) (fun _ => 0) (by omega) (by omega) (B9_frP hb1 ft) (B9_frP hb2 ft) g (fun i hi => by omega)
  rw [show F - 131073 - 26 * 65536 - 1 + 26 * 65536 + 1 = F - 131073 from by omega] at e3
  refine ⟨h3, N3, pw3, pf3, pa3, ?_, g3, frP_t ft f3⟩
  unfold f_X9_seekApart
  refine (show g_X9_seekApart F 0 (nI b1) (nI b2) (nI 0) 0 h = _ from e1).trans ?_
  rw [show f_X9_meetPair (F - 131073) (nI 1) (nI 1) (Int32.ofInt (-1)) (Int32.ofInt (-1)) (am_sI (am_sI h1 51 36 (nI 0)) 51 37 (Int32.ofInt (-1))) = _ from e2, b2s]
  exact e3
end
