/-! ===== twin ===== -/
def flC (c : Nat) : Nat := if c < 100 then c + 100 else c - 100
def flI (x : Int32) : Int32 := if x < Int32.ofInt 100 then x + Int32.ofInt 100 else x - Int32.ofInt 100
theorem flI_n {c : Nat} (h : c < 200) : flI (nI c) = nI (flC c) := by
  unfold flI flC
  rw [show Int32.ofInt 100 = nI 100 from rfl]
  by_cases q : c < 100
  · rw [if_pos ((nI_ltI (a := c) (b := 100) (by omega) (by decide)).mpr q), if_pos q, nI_add]
  · rw [if_neg (fun e => q ((nI_ltI (a := c) (b := 100) (by omega) (by decide)).mp e)), if_neg q, nI_subN (by omega)]
theorem flC_g {c : Nat} (h : cdG c) : cdG (flC c) := by
  obtain ⟨a, b, d⟩ := h
  unfold flC
  split
  · exact ⟨by omega, by omega, by omega⟩
  · exact ⟨by omega, by omega, by omega⟩
theorem bkOk_fl {n : Nat} {c : Nat → Nat} {f : Nat → Int32} (b : bkOk n c f) : bkOk n (fun i => flC (c i)) f := by
  obtain ⟨b1, b2, b3, b4, b5, b6⟩ := b
  exact ⟨b1, fun i a d => flC_g (b2 i a d), b3, b4, b5, b6⟩
/-- the class mirrors the codes -/
theorem mi_l {h : am_H} {a n qc qf lc : Nat} {cd : Nat → Nat} (la : a < h.1) (lq : qc < h.1) (n15 : n ≤ 15) (k1 : am_K h a = .inl 0) (k2 : am_I h a 0 = nI n) (k3 : am_A h a 1 = some qc) (k4 : am_A h a 2 = some qf) (k5 : am_K h qc = .inr (0, lc)) (hl : n < lc) (l100 : lc ≤ 100) (hc : ∀ i, 1 ≤ i → i ≤ n → am_I h qc i = nI (cd i) ∧ cd i < 200) (h98 : 87 ≤ h.1) (F : Nat) : ∀ (d i : Nat) (H : am_H), 1 ≤ i → i + d = n + 1 → ext h H → H.1 = h.1 + 1 → am_K H h.1 = .inr (0, lc) → (∀ j, 1 ≤ j → j < i → am_I H h.1 j = nI (flC (cd j))) →
    ∃ H', g_X0_mirrored (F + d + 1) 0 a h.1 (nI i) H = some ((h.1 + 1, H'), 1, 4) ∧ ext h H' ∧ H'.1 = h.1 + 2 ∧ (am_K H' (h.1 + 1) = .inl 0 ∧ am_I H' (h.1 + 1) 0 = nI n ∧ am_A H' (h.1 + 1) 1 = some h.1 ∧ am_A H' (h.1 + 1) 2 = some qf ∧ am_A H' (h.1 + 1) 3 = none) ∧ am_K H' h.1 = .inr (0, lc) ∧ ∀ j, 1 ≤ j → j ≤ n → am_I H' h.1 j = nI (flC (cd j)) := by
  intro d
  induction d with
  | zero =>
    intro i H i1 hi x nH kH rH
    have : i = n + 1 := by omega
    subst this
    generalize hh1 : am_new H (.inl 0) (fun _ => 0) = H1
    have x1 : ext H H1 := by rw [← hh1]; exact ext_n _ _ _
    have n1 : H1.1 = h.1 + 2 := by rw [← hh1]; show H.1 + 1 = _; omega
    have kn : am_K H1 (h.1 + 1) = .inl 0 := by rw [← hh1, show h.1 + 1 = H.1 from nH.symm, nw_K0]
    have An : am_A H1 (h.1 + 1) 3 = none := by
      rw [← hh1, show h.1 + 1 = H.1 from nH.symm]
      show va_up H.2.2.2.2 H.1 (fun _ => none) H.1 3 = none
      unfold va_up; rw [if_pos rfl]
    have ka : am_K H1 a = .inl 0 := by rw [(x1.2 a (by omega)).1, (x.2 a la).1]; exact k1
    have ia : am_I H1 a 0 = nI n := by rw [(x1.2 a (by omega)).2.1, (x.2 a la).2.1]; exact k2
    have aa : am_A H1 a 2 = some qf := by rw [(x1.2 a (by omega)).2.2.2, (x.2 a la).2.2.2]; exact k4
    generalize hh2 : am_sA (am_sA (am_sI H1 (h.1 + 1) 0 (nI n)) (h.1 + 1) 1 (some h.1)) (h.1 + 1) 2 (some qf) = H2
    have x2 : ext H H2 := by rw [← hh2]; exact ext_a (ext_a (ext_s x1 (by omega) 0 _) (by omega) 1 _) (by omega) 2 _
    refine ⟨H2, ?_, ext_t x x2, by rw [← hh2]; exact n1, ⟨by rw [← hh2]; exact kn, by rw [← hh2, sA_I, sA_I, hp_I, upd_at], by rw [← hh2, sA_ne _ _ _ (by decide), sA_at], by rw [← hh2, sA_at], by rw [← hh2, sA_ne _ _ _ (by decide), sA_ne _ _ _ (by decide)]; exact An⟩, by rw [(x2.2 h.1 (by omega)).1]; exact kH, fun j a b => by rw [(x2.2 h.1 (by omega)).2.1]; exact rH j a (by omega)⟩
    rw [g_X0_mirrored, hp_isO (show am_K H a = .inl 0 by rw [(x.2 a la).1]; exact k1), cond_true, (x.2 a la).2.1, k2, if_pos ((nI_ltI (a := n) (b := n + 1) (by omega) (by omega)).mpr (by omega)), hh1, hp_isO ka, cond_true, aa, b_some, ia, nH]
    unfold f_X0_init
    rw [hp_isO kn, cond_true, Nat.ble_eq_true_of_le (show 87 ≤ h.1 + 1 by omega), cond_true, cond_true, hh2, b2s, cts]
  | succ d ih =>
    intro i H i1 hi x nH kH rH
    obtain ⟨ci, c200⟩ := hc i i1 (by omega)
    have ka : am_K H a = .inl 0 := by rw [(x.2 a la).1]; exact k1
    have a1 : am_A H a 1 = some qc := by rw [(x.2 a la).2.2.2]; exact k3
    have kq : am_K H qc = .inr (0, lc) := by rw [(x.2 qc lq).1]; exact k5
    have iq : am_I H qc i = nI (cd i) := by rw [(x.2 qc lq).2.1]; exact ci
    obtain ⟨H', e', r'⟩ := ih (i + 1) (am_sI H h.1 i (nI (flC (cd i)))) (by omega) (by omega) (ext_s x (Nat.le_refl _) i _) nH kH (fun j j1 j2 => by
      rw [hp_I]
      by_cases q : j = i
      · subst q; rw [upd_at]
      · rw [upd_ne q]; exact rH j j1 (by omega))
    refine ⟨H', ?_, r'⟩
    rw [show F + (d + 1) + 1 = (F + d + 1) + 1 from rfl, g_X0_mirrored, hp_isO ka, cond_true, (x.2 a la).2.1, k2, if_neg (fun e => by have := (nI_ltI (a := n) (b := i) (by omega) (by omega)).mp e; omega), a1, b_some, hp_ln kq, b_some, hp_vp (show i < lc by omega) (by omega), cond_true, nI_clamp (show i < 2 ^ 31 by omega), iq]
    simp only [a1, b_some, hp_ln kq, hp_vp (show i < lc by omega) (by omega : lc < 2 ^ 31), cond_true, iq]
    have y : (if nI (cd i) < Int32.ofInt 100 then some (nI (cd i) + Int32.ofInt 100) else some (nI (cd i) - Int32.ofInt 100)) = some (nI (flC (cd i))) := by
      rw [← flI_n c200]; unfold flI; split <;> rfl
    rw [y, b_some, hp_ln kH, b_some, hp_vp (show i < lc by omega) (by omega), cond_true, hp_1]
    exact e'
theorem mi8x {h : am_H} {a n qc qf lc : Nat} {cd : Nat → Nat} (la : a < h.1) (lq : qc < h.1) (n15 : n ≤ 15) (k1 : am_K h a = .inl 0) (k2 : am_I h a 0 = nI n) (k3 : am_A h a 1 = some qc) (k4 : am_A h a 2 = some qf) (k5 : am_K h qc = .inr (0, lc)) (hl : n < lc) (l100 : lc ≤ 100) (hc : ∀ i, 1 ≤ i → i ≤ n → am_I h qc i = nI (cd i) ∧ cd i < 200) (h98 : 87 ≤ h.1) (F : Nat) (hF : 20 ≤ F) : ∃ H', f_X0_mirrored F a h = some ((h.1 + 1, H'), 2, lc + 4) ∧ ext h H' ∧ H'.1 = h.1 + 2 ∧ (am_K H' (h.1 + 1) = .inl 0 ∧ am_I H' (h.1 + 1) 0 = nI n ∧ am_A H' (h.1 + 1) 1 = some h.1 ∧ am_A H' (h.1 + 1) 2 = some qf ∧ am_A H' (h.1 + 1) 3 = none) ∧ am_K H' h.1 = .inr (0, lc) ∧ ∀ j, 1 ≤ j → j ≤ n → am_I H' h.1 j = nI (flC (cd j)) := by
  obtain ⟨H', e', r'⟩ := mi_l la lq n15 k1 k2 k3 k4 k5 hl l100 hc h98 (F - n - 1) n 1 (am_new h (.inr (0, lc)) (am_I h qc)) (Nat.le_refl _) (by omega) (ext_n _ _ _) rfl (nw_K0 _ _ _) (fun j a b => by omega)
  rw [show F - n - 1 + n + 1 = F from by omega] at e'
  have e2 : g_X0_mirrored F 0 a h.1 (Int32.ofInt 1) (am_new h (.inr (0, lc)) (am_I h qc)) = some ((h.1 + 1, H'), 1, 4) := e'
  refine ⟨H', ?_, r'⟩
  unfold f_X0_mirrored
  rw [hp_isO k1, cond_true, k3, b_some, hp_ln k5, b_some, e2, cts]
/-- the reference mirrors a book -/
theorem tw9 {b k : Nat} (hb : b < k) (k8 : k < 8) (n : Nat) {h : am_H} : ∀ (d i : Nat) (H : am_H), i + d = 16 → fr9 k h H → am_I H 51 2 = nI k → am_I H 55 = upd (am_I h 55) k (am_I h 55 b) → (∀ j, j < i → am_I H 53 (16 * k + j) = flI (am_I h 53 (16 * b + j)) ∧ am_I H 54 (16 * k + j) = am_I h 54 (16 * b + j)) →
    ∃ H', g_X9_twin (n + d + 1) 0 (nI b) (nI i) H = some (nI k, am_sI H' 51 2 (nI (k + 1))) ∧ fr9 k h H' ∧ am_I H' 55 = upd (am_I h 55) k (am_I h 55 b) ∧ (∀ j, j < 16 → am_I H' 53 (16 * k + j) = flI (am_I h 53 (16 * b + j)) ∧ am_I H' 54 (16 * k + j) = am_I h 54 (16 * b + j)) := by
  intro d
  induction d with
  | zero =>
    intro i H hi f e2 e66 r
    have : i = 16 := by omega
    subst this
    refine ⟨H, ?_, f, e66, r⟩
    rw [g_X9_twin, if_pos (by decide), e2, hp_1, hp_I, upd_at, nI_m1 (by omega)]
    rfl
  | succ d ih =>
    intro i H hi f e2 e66 r
    obtain ⟨f3a, f3b⟩ := f.2.2.2.1 (16 * b + i) (by omega)
    have ix : ∀ q, ((Int32.ofInt 16) * nI q) + nI i = nI (16 * q + i) := fun q => g9_ix q i
    generalize hy : flI (am_I h 53 (16 * b + i)) = y
    have yy : (if am_I h 53 (16 * b + i) < Int32.ofInt 100 then some (am_I h 53 (16 * b + i) + Int32.ofInt 100) else some (am_I h 53 (16 * b + i) - Int32.ofInt 100)) = some y := by
      rw [← hy]; unfold flI; split <;> rfl
    have i62 : am_I (am_sI H 53 (16 * k + i) y) 51 = am_I H 51 := hp_I' _ _ _ (by decide)
    have i65 : am_I (am_sI H 53 (16 * k + i) y) 54 = am_I H 54 := hp_I' _ _ _ (by decide)
    obtain ⟨H', e', r'⟩ := ih (i + 1) (am_sI (am_sI H 53 (16 * k + i) y) 54 (16 * k + i) (am_I h 54 (16 * b + i))) (by omega) (fr9_b (fr9_b f _ (Or.inl rfl) (by omega)) _ (Or.inr rfl) (by omega)) (by rw [hp_I' _ _ _ (by decide), i62]; exact e2) (by rw [hp_I' _ _ _ (by decide), hp_I' _ _ _ (by decide)]; exact e66) (fun j hj => by
      rw [hp_I' _ _ _ (show (53 : Nat) ≠ 54 by decide), hp_I, hp_I, i65]
      by_cases q : j = i
      · subst q; rw [upd_at, upd_at, hy]; exact ⟨rfl, rfl⟩
      · rw [upd_ne (by omega), upd_ne (by omega)]; exact r j (by omega))
    refine ⟨H', ?_, r'⟩
    rw [show n + (d + 1) + 1 = (n + d + 1) + 1 from rfl, g_X9_twin, if_neg (show ¬ Int32.ofInt 16 ≤ nI i from nI_ge (a := i) (b := 16) (by omega) (by decide)), ix, hp_vp (show 16 * b + i < 128 by omega) (by decide), cond_true, nI_clamp (show 16 * b + i < 2 ^ 31 by omega), f3a, yy, b_some, e2, ix, hp_vp (show 16 * k + i < 128 by omega) (by decide), cond_true, nI_clamp (show 16 * k + i < 2 ^ 31 by omega), i62, e2, ix, hp_vp (show 16 * k + i < 128 by omega) (by decide), cond_true, nI_clamp (show 16 * k + i < 2 ^ 31 by omega), i65, f3b, hp_1]
    exact e'
theorem cl_6 (a1 : Int32) {h : am_H} {c sl : Nat} (J : JJ h c sl) : am_stat h ∧ po_6 a1 JJ h c sl := by
  obtain ⟨S, ok, x8, x9⟩ := J
  have st := X8_st x8
  refine ⟨st, 100, 100, ?_⟩
  have n5 := (X8_n x8).1
  have n2 := x9.2.1.2.1.1
  have out : ∀ v, f_X8_twin 100 a1 h = some ((v, h), 0, 0) → f_X9_twin 100 a1 h = some (v, h) → ∃ (v : Int32) (h1 h2 : am_H) (c1 s1 : Nat), f_X8_twin 100 a1 h = some ((v, h1), c1, s1) ∧ f_X9_twin 100 a1 h1 = some (v, h2) ∧ c + c1 ≤ 600000 ∧ sl + s1 ≤ 7302250 ∧ JJ h2 (c + c1) (sl + s1) := fun v e1 e2 => ⟨v, h, h, 0, 0, e1, e2, JJ_ro ok x8 x9⟩
  rcases bk_89 a1 ok.2.1 with ⟨b, hb, rfl, e⟩ | e
  · by_cases c8 : S.nb = 8
    · refine out (Int32.ofInt (-104)) ?_ ?_
      · unfold f_X8_twin
        rw [(e h).1 n5, b2s, if_neg (show ¬ bI true = 0 by decide), n5, if_neg (fun q => by have := (nI_8 ok.2.1).1.mp q; omega)]
      · unfold f_X9_twin
        rw [(e h).2 n2, b2s, if_neg (show ¬ bI true = 0 by decide), n2, if_pos ((nI_8 ok.2.1).2.mpr c8)]
    · have nb8 : S.nb < 8 := by have := ok.2.1; omega
      have bkb := ok.2.2.1 b hb
      have b8 : b < 8 := by omega
      have bb : ∃ a qc qf lc lf, am_A h 25 b = some a ∧ a < h.1 ∧ qc < h.1 ∧ qf < h.1 ∧ am_K h a = .inl 0 ∧ am_I h a 0 = nI (S.bn b) ∧ am_A h a 1 = some qc ∧ am_A h a 2 = some qf ∧ (S.bn b < lc ∧ lc ≤ 100 ∧ am_K h qc = .inr (0, lc)) ∧ (S.bn b < lf ∧ lf ≤ 100 ∧ am_K h qf = .inr (0, lf)) ∧ (∀ i, 1 ≤ i → i ≤ S.bn b → am_I h qc i = nI (S.bc b i)) ∧ ∀ j, j ≤ S.bn b → am_I h qf j = S.bf b j := by
        obtain ⟨w, ba, cf, qf0, cc, qc0, c3, a3, b3, st, t, bk, on, tk, rw8, sv, co⟩ := x8
        obtain ⟨y1, qc, qf, z1, z2, z3, ⟨y2, y3, y4, y5⟩, ⟨lc, y6⟩, ⟨lf, y7⟩, y8, y9, -⟩ := bk.2.1 b hb
        exact ⟨ba b, qc, qf, lc, lf, y1, z1.2.1, z2.2.1, z3.2.1, y2, y3, y4, y5, y6, y7, y8, y9⟩
      obtain ⟨a, qc, qf, lc, lf, ea, la, lqc, lqf, k1, k2, k3, k4, ⟨l1, l2, l3⟩, ⟨m1, m2, m3⟩, r1, r2⟩ := bb
      have c200 : ∀ i, 1 ≤ i → i ≤ S.bn b → S.bc b i < 200 := fun i p q => by have := (bkb.2.1 i p q).1; omega
      have h98 : 87 ≤ h.1 := st.1
      obtain ⟨hm, e1, x1, nm, j1, j2, j3⟩ := mi8x la lqc bkb.1 k1 k2 k3 k4 l3 l1 l2 (fun i p q => ⟨r1 i p q, c200 i p q⟩) h98 100 (by decide)
      have sm := s_X0_mirrored 100 a h st e1
      have i5 : am_I hm 0 5 = nI S.nb := by rw [(x1.2 0 (by omega)).2.1]; exact n5
      have kp := kp_8 nb8 i5 j1.1
      have skp : am_stat (kpH hm S.nb (h.1 + 1)) := s_X8_keep (h.1 + 1) hm sm kp
      have x81 := X8_ab (n := S.bn b) (cd := fun i => flC (S.bc b i)) (f := S.bf b) (c1 := 2) (z1 := lc + 4) ok x8 x1 skp (by omega) (by omega) (qc := h.1) (qf := qf) (by omega) (by omega) (Or.inr ⟨b, a, hb, ea, k4⟩) j1 ⟨lc, l1, l2, j2⟩ ⟨lf, m1, m2, by rw [(x1.2 qf lqf).1]; exact m3⟩ j3 (fun j hj => by rw [(x1.2 qf lqf).2.1]; exact r2 j hj) (by omega) (by omega)
      have s12 : same9 h (kpH hm S.nb (h.1 + 1)) := fun p p1 p2 => ⟨by unfold kpH; rw [hp_I' _ _ _ (by omega), sA_I]; exact (x1.2 p (by omega)).2.1, (x1.2 p (by omega)).2.2.1⟩
      have x91 := X9_loc x9 (X8_st x81) s12
      generalize hh1 : kpH hm S.nb (h.1 + 1) = h1 at x81 x91 s12
      obtain ⟨y1, y2, y3⟩ := x91.2.1.2.1.2 b hb
      have n21 : am_I h1 51 2 = nI S.nb := x91.2.1.2.1.1
      obtain ⟨h2, e2, f2, i66, r9⟩ := tw9 (h := h1) hb nb8 83 16 0 (am_sI h1 55 S.nb (am_I h1 55 b)) (by omega) (fr9_n (fr9_r _ _) _) (by rw [hp_I' _ _ _ (by decide)]; exact n21) (hp_I _ _ _ _) (fun j hj => by omega)
      obtain ⟨x92, s2⟩ := X9_ab (n := S.bn b) (cd := fun i => flC (S.bc b i)) (f := S.bf b) ok x91 f2 (by rw [i66, upd_at]; exact y1) (fun i p q => by
        have n15 := bkb.1
        rw [(r9 i (by omega)).1, y2 i p q, flI_n (c200 i p q)]) (fun j hj => by rw [(r9 j hj).2]; exact y3 j hj)
      refine ⟨nI S.nb, h1, am_sI h2 51 2 (nI (S.nb + 1)), 2, lc + 4, ?_, ?_, JJ_of (PSok_ab ok nb8 (bkOk_fl bkb)) x81 s2 x92⟩
      · unfold f_X8_twin
        rw [(e h).1 n5, b2s, if_neg (show ¬ bI true = 0 by decide), n5, if_pos ((nI_8 ok.2.1).1.mpr nb8), hp_vp b8 (by decide), cond_true, nI_clamp (show b < 2 ^ 31 by omega), ea, b_some, hp_isO k1, cond_true, e1, bcs, kp, b2s, cts, hh1]
      · unfold f_X9_twin
        rw [(e h1).2 n21, b2s, if_neg (show ¬ bI true = 0 by decide), n21, if_neg (fun q => c8 ((nI_8 ok.2.1).2.mp q)), hp_vp b8 (by decide), cond_true, hp_vp nb8 (by decide), cond_true, nI_clamp (show S.nb < 2 ^ 31 by omega), nI_clamp (show b < 2 ^ 31 by omega)]
        exact e2
  · refine out (Int32.ofInt (-101)) ?_ ?_
    · unfold f_X8_twin
      rw [(e h).1 n5, b2s, if_pos (show bI false = 0 from rfl)]
    · unfold f_X9_twin
      rw [(e h).2 n2, b2s, if_pos (show bI false = 0 from rfl)]
