def grT (H : am_H) (kd : Nat ⊕ (Nat × Nat)) (k : Nat) : am_H := am_sA (am_new H kd (fun _ => 0)) 19 k (some H.1)
/-- what stays when the contest makes room -/
def frR (h h' : am_H) : Prop := h.1 ≤ h'.1 ∧ (∀ o, o < h.1 → am_K h' o = am_K h o ∧ am_J h' o = am_J h o ∧ am_I h' o = am_I h o) ∧ (∀ o, o < h.1 → o ≠ 19 → am_A h' o = am_A h o) ∧ ∀ k, (k < 6 ∨ 10 < k) → am_A h' 19 k = am_A h 19 k
theorem frR_r (h : am_H) : frR h h := ⟨Nat.le_refl _, fun _ _ => ⟨rfl, rfl, rfl⟩, fun _ _ _ => rfl, fun _ _ => rfl⟩
theorem frR_t {h h1 h2 : am_H} (a : frR h h1) (b : frR h1 h2) : frR h h2 := ⟨Nat.le_trans a.1 b.1, fun o ho => by
  obtain ⟨x1, x2, x3⟩ := a.2.1 o ho
  obtain ⟨y1, y2, y3⟩ := b.2.1 o (Nat.lt_of_lt_of_le ho a.1)
  exact ⟨y1.trans x1, y2.trans x2, y3.trans x3⟩, fun o ho h19 => (b.2.2.1 o (Nat.lt_of_lt_of_le ho a.1) h19).trans (a.2.2.1 o ho h19), fun k hk => (b.2.2.2 k hk).trans (a.2.2.2 k hk)⟩
theorem frR_g (H : am_H) (hH : 19 < H.1) (kd : Nat ⊕ (Nat × Nat)) {k : Nat} (k6 : 6 ≤ k) (k10 : k ≤ 10) : frR H (grT H kd k) := ⟨Nat.le_succ _, fun o ho => ⟨nw_K H kd (fun _ => 0) (by omega), nw_J H kd (fun _ => 0) (by omega), nw_I H kd (fun _ => 0) (by omega)⟩, fun o ho h19 => (sA_o _ _ _ h19).trans (nw_A H kd (fun _ => 0) (by omega)), fun j hj => (sA_ne _ _ _ (by omega)).trans (by rw [nw_A H kd (fun _ => 0) (show 19 ≠ H.1 by omega)])⟩
theorem grT_a (H : am_H) (kd : Nat ⊕ (Nat × Nat)) (k : Nat) : am_A (grT H kd k) 19 k = some H.1 := sA_at _ _ _ _
theorem grT_b {H : am_H} (hH : 19 < H.1) (kd : Nat ⊕ (Nat × Nat)) {k j : Nat} (hj : j ≠ k) : am_A (grT H kd k) 19 j = am_A H 19 j := (sA_ne _ _ _ hj).trans (by rw [nw_A H kd (fun _ => 0) (show 19 ≠ H.1 by omega)])
theorem grT_K (H : am_H) (kd : Nat ⊕ (Nat × Nat)) (k : Nat) : am_K (grT H kd k) H.1 = kd := nw_K0 H kd (fun _ => 0)
theorem mr_8 {h : am_H} {cap : Nat} {q : Nat → Nat} (cr : CR h cap q) {n : Nat} (hn : n ≤ 50000) (hc : cap ≤ 100000) : ∃ h' q' cap' c s, f_X1_makeRoom (nI n) h = some (((), h'), c, s) ∧ CR h' cap' q' ∧ n ≤ cap' ∧ cap ≤ cap' ∧ cap' ≤ 100000 ∧ frR h h' ∧ (∀ k, 6 ≤ k → k ≤ 10 → h.1 ≤ q' k ∨ q' k = q k) ∧ c ≤ 5 * (cap' - cap) ∧ s ≤ 10 * (cap' - cap) := by
  obtain ⟨A6, l6, n6, K6⟩ := cr.1 6 (by decide) (by decide)
  have h98 := cr.2.2
  by_cases hle : n ≤ cap
  · refine ⟨h, q, cap, 0, 0, ?_, cr, hle, Nat.le_refl _, hc, frR_r h, fun k _ _ => Or.inr rfl, by omega, by omega⟩
    unfold f_X1_makeRoom
    rw [A6, b_some, hp_ln K6, b_some, show Int32.ofNat cap = nI cap from rfl, if_pos (by rw [nI_leI (by omega) (by omega)]; exact hle)]
  · let kd : Nat ⊕ (Nat × Nat) := .inr (0, 2 * n)
    let H1 := grT h kd 6
    let H2 := grT H1 kd 7
    let H3 := grT H2 kd 8
    let H4 := grT H3 kd 9
    let H5 := grT H4 kd 10
    have x1 : H1.1 = h.1 + 1 := rfl
    have x2 : H2.1 = h.1 + 2 := rfl
    have x3 : H3.1 = h.1 + 3 := rfl
    have x4 : H4.1 = h.1 + 4 := rfl
    have x5 : H5.1 = h.1 + 5 := rfl
    have r1 : frR h H1 := frR_g h (by omega) kd (by decide) (by decide)
    have r2 : frR H1 H2 := frR_g H1 (by omega) kd (by decide) (by decide)
    have r3 : frR H2 H3 := frR_g H2 (by omega) kd (by decide) (by decide)
    have r4 : frR H3 H4 := frR_g H3 (by omega) kd (by decide) (by decide)
    have r5 : frR H4 H5 := frR_g H4 (by omega) kd (by decide) (by decide)
    have r25 := frR_t r2 (frR_t r3 (frR_t r4 r5))
    have r35 := frR_t r3 (frR_t r4 r5)
    have r45 := frR_t r4 r5
    have a6 : am_A H5 19 6 = some h.1 := by
      rw [show am_A H5 19 6 = am_A H4 19 6 from grT_b (by omega) _ (by decide), show am_A H4 19 6 = am_A H3 19 6 from grT_b (by omega) _ (by decide), show am_A H3 19 6 = am_A H2 19 6 from grT_b (by omega) _ (by decide), show am_A H2 19 6 = am_A H1 19 6 from grT_b (by omega) _ (by decide)]; exact grT_a _ _ _
    have a7 : am_A H5 19 7 = some H1.1 := by
      rw [show am_A H5 19 7 = am_A H4 19 7 from grT_b (by omega) _ (by decide), show am_A H4 19 7 = am_A H3 19 7 from grT_b (by omega) _ (by decide), show am_A H3 19 7 = am_A H2 19 7 from grT_b (by omega) _ (by decide)]; exact grT_a _ _ _
    have a8 : am_A H5 19 8 = some H2.1 := by
      rw [show am_A H5 19 8 = am_A H4 19 8 from grT_b (by omega) _ (by decide), show am_A H4 19 8 = am_A H3 19 8 from grT_b (by omega) _ (by decide)]; exact grT_a _ _ _
    have a9 : am_A H5 19 9 = some H3.1 := by
      rw [show am_A H5 19 9 = am_A H4 19 9 from grT_b (by omega) _ (by decide)]; exact grT_a _ _ _
    have a10 : am_A H5 19 10 = some H4.1 := grT_a _ _ _
    have k6 : am_K H5 h.1 = kd := ((r25.2.1 h.1 (by omega)).1).trans (grT_K _ _ _)
    have k7 : am_K H5 H1.1 = kd := ((r35.2.1 H1.1 (by omega)).1).trans (grT_K _ _ _)
    have k8 : am_K H5 H2.1 = kd := ((r45.2.1 H2.1 (by omega)).1).trans (grT_K _ _ _)
    have k9 : am_K H5 H3.1 = kd := ((r5.2.1 H3.1 (by omega)).1).trans (grT_K _ _ _)
    have k10 : am_K H5 H4.1 = kd := grT_K _ _ _
    have two : Int32.ofInt 2 * nI n = nI (2 * n) := by rw [show Int32.ofInt 2 = nI 2 from rfl, nI_mul]
    have cc : Int32.toNatClampNeg (nI (2 * n)) = 2 * n := nI_clamp (by omega)
    have nn : am_nn (nI (2 * n)) = true := nn_ok (by omega)
    refine ⟨H5, fun k => h.1 + (k - 6), 2 * n, 5, 10 * n, ?_, ⟨?_, ?_, by omega⟩, by omega, by omega, by omega, frR_t r1 r25, fun k k6 _ => Or.inl (by show h.1 ≤ h.1 + (k - 6); omega), by omega, by omega⟩
    · unfold f_X1_makeRoom
      rw [A6, b_some, hp_ln K6, b_some, show Int32.ofNat cap = nI cap from rfl, if_neg (by rw [nI_leI (by omega) (by omega)]; omega)]
      simp only [two, nn, cond_true, cc]
      show some (((), H5), 1 + (1 + (1 + (1 + (1 + 0)))), 2 * n + (2 * n + (2 * n + (2 * n + (2 * n + 0))))) = _
      rw [show 2 * n + (2 * n + (2 * n + (2 * n + (2 * n + 0)))) = 10 * n from by omega]
    · intro k k6' k10'
      have hk : k = 6 ∨ k = 7 ∨ k = 8 ∨ k = 9 ∨ k = 10 := by omega
      rcases hk with rfl | rfl | rfl | rfl | rfl
      · exact ⟨a6, by show h.1 + 0 < _; omega, by show h.1 + 0 ≠ _; omega, k6⟩
      · exact ⟨a7, by show h.1 + 1 < _; omega, by show h.1 + 1 ≠ _; omega, k7⟩
      · exact ⟨a8, by show h.1 + 2 < _; omega, by show h.1 + 2 ≠ _; omega, k8⟩
      · exact ⟨a9, by show h.1 + 3 < _; omega, by show h.1 + 3 ≠ _; omega, k9⟩
      · exact ⟨a10, by show h.1 + 4 < _; omega, by show h.1 + 4 ≠ _; omega, k10⟩
    · intro i j i1 i5 j1 j5 e
      have e : h.1 + (i - 6) = h.1 + (j - 6) := e
      omega
/-- all nodes are their own chiefs -/
theorem in8 {cap : Nat} {q : Nat → Nat} {W : Nat} (hcap : W + 1 ≤ cap) (hc2 : cap ≤ 100000) (x y : Nat) {P : Nat} : ∀ (d i : Nat) (h : am_H), i + d = W + 1 → CR h cap q → am_I h 19 3 = nI W → am_K h x = .inl 3 → am_I h x 0 = nI P → x ≠ 19 → (∀ k, 6 ≤ k → k ≤ 10 → x ≠ q k) → (∀ z, z < i → am_I h (q 6) z = nI z) →
    ∃ h', (∀ F, g_X1_tells (F + d + 1) 0 x y (nI i) 0 h = am_b2 (f_X1_meet F (nI 0) (nI P) (Int32.ofInt (-1)) (Int32.ofInt (-1)) (am_sI (am_sI h' 19 4 (nI 0)) 19 5 (Int32.ofInt (-1)))) fun _ h4 => g_X1_tells F 1 x y (nI 0) 0 h4) ∧ frC q h h' ∧ (∀ z, z ≤ W → am_I h' (q 6) z = nI z) := by
  intro d
  induction d with
  | zero =>
    intro i h hi cr h3 hx hP x19 xq hz
    refine ⟨h, fun F => ?_, frC_r q h, fun z hz' => hz z (by omega)⟩
    rw [show F + 0 + 1 = F + 1 from rfl, g_X1_tells]
    simp only [show Nat.beq 0 0 = true from rfl, cond_true]
    have hO : am_isO (am_sI (am_sI h 19 4 (Int32.ofInt 0)) 19 5 (Int32.ofInt (-1))) x 3 = true := hp_isO hx
    rw [h3, if_pos (by rw [nI_ltI (by omega) (by omega)]; omega), hO, cond_true, hp_I' _ _ _ x19, hp_I' _ _ _ x19, hP]
    rfl
  | succ d ih =>
    intro i h hi cr h3 hx hP x19 xq hz
    obtain ⟨A6, l6, n6, K6⟩ := cr.1 6 (by decide) (by decide)
    have f1 := frC_s cr (k := 6) (by decide) (by decide) i (nI i)
    obtain ⟨h', st, f', hz'⟩ := ih (i + 1) (am_sI h (q 6) i (nI i)) (by omega) (CR_fr cr f1) (by rw [hp_I' _ _ _ (fun e => n6 e.symm)]; exact h3) hx (by rw [hp_I' _ _ _ (xq 6 (by decide) (by decide))]; exact hP) x19 xq (by
      intro z hzi
      rw [hp_I]
      by_cases c : z = i
      · rw [c, upd_at]
      · rw [upd_ne c]; exact hz z (by omega))
    refine ⟨h', fun F => ?_, frC_t f1 f', hz'⟩
    rw [show F + (d + 1) + 1 = (F + d + 1) + 1 from rfl, g_X1_tells]
    simp only [show Nat.beq 0 0 = true from rfl, cond_true]
    rw [h3, if_neg (by rw [nI_ltI (by omega) (by omega)]; omega), A6, b_some, hp_ln K6, b_some, hp_vp (by omega) (by omega), cond_true, nI_clamp (by omega), hp_1]
    exact st F
