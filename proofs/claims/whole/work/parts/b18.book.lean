/-! ===== book ===== -/
theorem iw_8 {h : am_H} {p q : Nat} (e1 : am_I h 3 1 = nI p) (e2 : am_I h 3 2 = nI q) (p4 : p ≤ 4) (q60 : q ≤ 60) : f_X5_isWhole h = some (bI (rd_whole (some (p, q))), h) := by
  unfold f_X5_isWhole
  rw [e1, e2]
  show _ = some (bI (Nat.blt 2 p && Nat.beq q 0), h)
  by_cases c : q = 0
  · rw [if_pos (show nI q = 0 by rw [c]; rfl), beq_t c]
    by_cases c3 : p = 3
    · rw [if_pos (show nI p = Int32.ofInt 3 by rw [c3]; rfl), c3]; rfl
    · rw [if_neg (show ¬ nI p = Int32.ofInt 3 from fun e => c3 ((nI_inj (a := p) (b := 3) (by omega) (by decide)).mp e))]
      by_cases c4 : p = 4
      · rw [if_pos (show nI p = Int32.ofInt 4 by rw [c4]; rfl), c4]; rfl
      · rw [if_neg (show ¬ nI p = Int32.ofInt 4 from fun e => c4 ((nI_inj (a := p) (b := 4) (by omega) (by decide)).mp e)), blt_f (show ¬ 2 < p by omega)]; rfl
  · rw [if_neg (show ¬ nI q = 0 from fun e => c ((nI_inj (a := q) (b := 0) (by omega) (by decide)).mp e)), beq_f c, Bool.and_false]; rfl
/-- the class reads the page whole -/
theorem rw_8 {h : am_H} {m : Nat} {tx : Nat → Int32} (st : am_stat h) (t : tx8 h 1 2 m tx) (sort : Int32) (F : Nat) (hF : 100 ≤ F) : (rd_whole (rd_run sort tx m 0 0 0).2 = false → ∃ h', f_X8_readWhole F sort h = some (bI false, h') ∧ fr8 h h') ∧ (vl sort tx m 0 0 0 → ∃ h', f_X8_readWhole F sort h = some (bI (!(gRun sort (Int32.ofInt (-1)) tx m m 0 g00).idle), h') ∧ fr8 h h' ∧ G8 h' (gFin (gRun sort (Int32.ofInt (-1)) tx m m 0 g00))) := by
  obtain ⟨h1, e1, f1, g1⟩ := fi_8 st t sort F hF
  have m60 : m ≤ 60 := t.2.2.2.2.2.2.2
  have t1 := tx8_fr t f1
  have st1 : am_stat h1 := by unfold am_stat; rw [f1.1, f1.2.1, f1.2.2.2.1]; exact st
  obtain ⟨l1, l2, l3⟩ := rd_run_le (sort := sort) (r := tx) m 0 0 0
  cases er : (rd_run sort tx m 0 0 0).2 with
  | none =>
    refine ⟨fun _ => ⟨h1, ?_, f1⟩, fun v => by unfold vl at v; rw [er] at v; cases v⟩
    unfold f_X8_readWhole
    rw [e1, b2s, t1.2.2.2.1, if_pos ((nI_ltI (by omega) (by omega)).mpr (by have := l2 er; omega))]
    rfl
  | some x =>
    obtain ⟨p, q⟩ := x
    obtain ⟨a1, a2, p4, qm⟩ := g1 p q er
    have rm : (rd_run sort tx m 0 0 0).1 = m := by have := l3 _ er; omega
    have iw := iw_8 a1 a2 p4 (by omega)
    refine ⟨fun w => ⟨h1, ?_, f1⟩, fun v => ?_⟩
    · unfold f_X8_readWhole
      rw [e1, b2s, t1.2.2.2.1, rm, if_neg Int32.lt_irrefl, iw, w, b2s, if_pos (show bI false = 0 from rfl)]
      rfl
    · have w : rd_whole (some (p, q)) = true := by unfold vl at v; rw [er] at v; exact v
      obtain ⟨-, -, d0⟩ := bk_whole (o := Int32.ofInt (-1)) m60 v
      obtain ⟨h2, e2, g2, f2⟩ := g8_gather t1 (sK st1 5) sort (Int32.ofInt (-1)) F hF d0 (gRun_b sort _ tx m m 0 g00 (by decide) (by decide))
      refine ⟨h2, ?_, fr8_t f1 f2, g2⟩
      unfold f_X8_readWhole
      rw [e1, b2s, t1.2.2.2.1, rm, if_neg Int32.lt_irrefl, iw, w, b2s, if_neg (show ¬ bI true = 0 by decide), e2, b2s, g2.2.2.1]
      have ei : (gFin (gRun sort (Int32.ofInt (-1)) tx m m 0 g00)).idle = (gRun sort (Int32.ofInt (-1)) tx m m 0 g00).idle := rfl
      rw [ei]
      cases (gRun sort (Int32.ofInt (-1)) tx m m 0 g00).idle <;> rfl
/-- the reference looks whether the page is idle -/
theorem li9 {h : am_H} {m : Nat} {tx : Nat → Int32} (e0 : am_I h 51 0 = nI m) (e : ∀ j, j < 60 → am_I h 52 j = tx j) (m60 : m ≤ 60) {sort : Int32} (hs : sort = 0 ∨ sort = Int32.ofInt 1) (hv : vl sort tx m 0 0 0) (F : Nat) (hF : 100 ≤ F) : ∃ h', f_X9_layIdle F sort h = some ((), h') ∧ fr9 8 h h' ∧ am_I h' 51 23 = bI (gRun sort (Int32.ofInt (-1)) tx m m 0 g00).idle := by
  generalize hh0 : am_sI (am_sI h 51 23 (Int32.ofInt 0)) 51 22 (Int32.ofInt (-1)) = h0
  have f0 : fr9 8 h h0 := by rw [← hh0]; exact fr9_f (fr9_f (fr9_r 8 h) _ (Or.inr rfl)) _ (Or.inl rfl)
  have e22 : am_I h0 51 22 + Int32.ofInt 1 = nI 0 := by rw [← hh0, hp_I, upd_at]; decide
  have e23 : am_I h0 51 23 = bI false := by rw [← hh0, hp_I, upd_ne (by decide), hp_I, upd_at]; rfl
  have op := x9_open (d := 0) (by decide) e22
  generalize hh1 : am_sI (am_sI (am_sI (am_sI (am_sI (am_sI (am_sI h0 51 22 (nI 0)) 63 0 (Int32.ofInt 0)) 64 0 (Int32.ofInt 0)) 65 0 (bI false)) 60 0 (Int32.ofInt 0)) 61 0 (Int32.ofInt 0)) 62 0 (bI true) = h1 at op
  have f1 : fr9 8 h0 h1 := by
    rw [← hh1]
    exact fr9_s (fr9_s (fr9_s (fr9_s (fr9_s (fr9_s (fr9_f (fr9_r 8 h0) _ (Or.inl rfl)) _ _ (by decide) (by decide)) _ _ (by decide) (by decide)) _ _ (by decide) (by decide)) _ _ (by decide) (by decide)) _ _ (by decide) (by decide)) _ _ (by decide) (by decide)
  have f01 := fr9_t f0 f1
  have g : H9 0 h1 g00 := by
    refine ⟨?_, ?_, fun j hj => ?_⟩
    · rw [← hh1, hp_I' _ _ _ (by decide), hp_I' _ _ _ (by decide), hp_I' _ _ _ (by decide), hp_I' _ _ _ (by decide), hp_I' _ _ _ (by decide), hp_I' _ _ _ (by decide), hp_I, upd_at]; rfl
    · rw [← hh1, hp_I' _ _ _ (by decide), hp_I' _ _ _ (by decide), hp_I' _ _ _ (by decide), hp_I' _ _ _ (by decide), hp_I' _ _ _ (by decide), hp_I' _ _ _ (by decide), hp_I, upd_ne (by decide)]; exact e23
    · have hj : j ≤ 0 := hj
      have : j = 0 := by omega
      subst this
      refine ⟨?_, ?_⟩
      · rw [← hh1, hp_I, upd_at]; rfl
      · rw [← hh1, hp_I' _ _ _ (by decide), hp_I' _ _ _ (by decide), hp_I' _ _ _ (by decide), hp_I, upd_at]; rfl
  obtain ⟨h2, e2, f2, i2⟩ := h9_loop sort hs m tx m60 (F - m - 1) m 0 0 h1 g00 (by rw [fr_62 f01 (by decide) (by decide)]; exact e0) (fun j hj => by rw [fr_63 f01]; exact e j (by omega)) (by omega) (by decide) hv (fun q => by omega) (fun q => by omega) (by decide) (by decide) g
  rw [show F - m - 1 + m + 1 = F from by omega] at e2
  refine ⟨h2, ?_, fr9_t f01 f2, i2⟩
  unfold f_X9_layIdle
  rw [hh0, op, b2s]
  exact e2
/-- books and ones stay -/
theorem X9_f9 {h h1 : am_H} {S : PS} (ok : PSok S) {b : Nat} (hb : S.nb ≤ b) (x : X9p h S) (fr : fr9 b h h1) : X9p h1 S ∧ same8 h h1 := by
  obtain ⟨⟨s1, s2, s3, s4⟩, f1, f2, f3, f4⟩ := fr
  obtain ⟨st, y, k, c9⟩ := x
  have ii : ∀ q, q ≠ 51 → q ≠ 53 → q ≠ 54 → q ≠ 55 → (q < 60 ∨ 65 < q) → am_I h1 q = am_I h q := f1
  have sm : same8 h h1 := ⟨s1, s2, s4, fun p hp => ⟨ii p (by omega) (by omega) (by omega) (by omega) (by omega), congrFun s3 p⟩⟩
  refine ⟨⟨stat_8 st sm, ⟨⟨by rw [f2 0 (by decide) (by decide)]; exact y.1.1, by rw [ii 52 (by decide) (by decide) (by decide) (by decide) (by decide)]; exact y.1.2⟩, ⟨by rw [f2 2 (by decide) (by decide)]; exact y.2.1.1, fun k hk => ?_⟩, ⟨by rw [f2 6 (by decide) (by decide)]; exact y.2.2.1, by rw [ii 56 (by decide) (by decide) (by decide) (by decide) (by decide), ii 57 (by decide) (by decide) (by decide) (by decide) (by decide)]; exact y.2.2.2⟩⟩, K9_c k (fun j hj => f2 j (by omega) (by omega)) (fun q hq => ii q (by omega) (by omega) (by omega) (by omega) (by omega)), C9_c c9 (fun j a b => f2 j (by omega) (by omega)) (fun q a b => ii q (by omega) (by omega) (by omega) (by omega) (by omega)) (congrFun s3 80)⟩, sm⟩
  obtain ⟨y1, y2, y3⟩ := y.2.1.2 k hk
  have n15 := (ok.2.2.1 k hk).1
  exact ⟨by rw [f4 k (by omega)]; exact y1, fun i a d => by rw [(f3 (16 * k + i) (by omega)).1]; exact y2 i a d, fun j hj => by rw [(f3 (16 * k + j) (by omega)).2]; exact y3 j hj⟩
theorem nI_8 {n : Nat} (h : n ≤ 8) : (nI n < Int32.ofInt 8 ↔ n < 8) ∧ (nI n = Int32.ofInt 8 ↔ n = 8) := ⟨nI_ltI (a := n) (b := 8) (by omega) (by decide), nI_inj (a := n) (b := 8) (by omega) (by decide)⟩
/-- the class keeps what it has gathered -/
theorem kg_8 {h : am_H} {S : PS} {c sl : Nat} (ok : PSok S) (x8 : X8 h S c sl) (nb8 : S.nb < 8) {s : GS} (g : G8 h (gFin s)) (n15 : s.n ≤ 15) (co : ∀ i, 1 ≤ i → i ≤ s.n → s.code i = nI (gCo s i)) : ∃ h' c1 z1, (am_bc (f_X5_gathered h) fun r6 h7 => (am_b2 (f_X8_keep r6 h7) fun r14 h15 => (some ((r14, h15), 0, 0)))) = some ((nI S.nb, h'), c1, z1) ∧ X8 h' (S.ab s.n (gCo s) (gFin s).fol) (c + c1) (sl + z1) ∧ same9 h h' := by
  have st := X8_st x8
  have h98 : 87 ≤ h.1 := st.1
  obtain ⟨hm, e1, x1, n1, k1, k2, k3, k4, k5⟩ := gt_8 st n15 g.1
  have i5 : am_I hm 0 5 = nI S.nb := by rw [(x1.2 0 (by omega)).2.1]; exact (X8_n x8).1
  have kp := kp_8 nb8 i5 k1.1
  have sm : am_stat hm := s_X5_gathered h st e1
  have skp : am_stat (kpH hm S.nb h.1) := s_X8_keep h.1 hm sm kp
  refine ⟨kpH hm S.nb h.1, 3, 4 + ((s.n + 1) + (s.n + 1)), ?_, X8_ab ok x8 x1 skp (Nat.le_refl _) (by omega) (qc := h.1 + 1) (qf := h.1 + 2) (by omega) (by omega) (Or.inl ⟨by omega, by omega⟩) k1 ⟨s.n + 1, by omega, by omega, k2⟩ ⟨s.n + 1, by omega, by omega, k3⟩ (fun i a b => ?_) (fun j hj => ?_) (by omega) (by omega), fun p a b => ⟨?_, (x1.2 p (by omega)).2.2.1⟩⟩
  · rw [e1, bcs, kp, b2s, cts]
    rfl
  · rw [k4 i b]; exact (g.2.2.2.1 i a b).trans (co i a b)
  · rw [k5 j hj]; exact g.2.2.2.2.1 j (by omega)
  · unfold kpH; rw [hp_I' _ _ _ (by omega), sA_I]; exact (x1.2 p (by omega)).2.1
theorem cl_3 {h : am_H} {c sl : Nat} (J : JJ h c sl) : am_stat h ∧ po_3 JJ h c sl := by
  obtain ⟨S, ok, x8, x9⟩ := J
  refine ⟨X8_st x8, 200, 200, ?_⟩
  have m60 := ok.1
  obtain ⟨w0, w1⟩ := rw_8 (X8_st x8) (X8_tx x8) (Int32.ofInt 0) 200 (by decide)
  cases wh : rd_whole (rd_run (Int32.ofInt 0) S.tx S.m 0 0 0).2 with
  | false =>
    obtain ⟨h1, e1, f1⟩ := w0 wh
    have x81 := X8_Y x8 (frY_8 f1)
    have x91 := X9_loc x9 (X8_st x81) (frY_9 (frY_8 f1))
    obtain ⟨h2, e2, -, i15, f2⟩ := rp_9 x91.2.1.1.1 x91.2.1.1.2 m60 (Int32.ofInt 0) 200 (by decide)
    refine ⟨Int32.ofInt (-103), h1, h2, 0, 0, ?_, ?_, JJ_of ok x81 (same8_K f2) (X9_K x91 f2)⟩
    · unfold f_X8_book; rw [e1, b2s, if_pos (show bI false = 0 from rfl)]
    · unfold f_X9_book; rw [e2, b2s, i15, wh, if_pos (show bI false = 0 from rfl)]
  | true =>
    have hv : vl (Int32.ofInt 0) S.tx S.m 0 0 0 := wh
    obtain ⟨h1, e1, f1, g1⟩ := w1 hv
    have x81 := X8_Y x8 (frY_8 f1)
    have x91 := X9_loc x9 (X8_st x81) (frY_9 (frY_8 f1))
    obtain ⟨bkk, co, d0⟩ := bk_whole (o := Int32.ofInt (-1)) m60 hv
    cases idl : (gRun (Int32.ofInt 0) (Int32.ofInt (-1)) S.tx S.m S.m 0 g00).idle with
    | true =>
      rw [idl] at e1
      obtain ⟨h2, e2, -, i15, f2⟩ := rp_9 x91.2.1.1.1 x91.2.1.1.2 m60 (Int32.ofInt 0) 200 (by decide)
      have x92 := X9_K x91 f2
      have b2 : am_I h2 51 2 = nI S.nb := x92.2.1.2.1.1
      have e8 : f_X8_book 200 h = some ((Int32.ofInt (-103), h1), 0, 0) := by
        unfold f_X8_book; rw [e1, b2s, if_pos (show bI (!true) = 0 from rfl)]
      by_cases c8 : S.nb = 8
      · obtain ⟨h3, e3, f3, i23⟩ := li9 (sort := Int32.ofInt 0) x92.2.1.1.1 x92.2.1.1.2 m60 (Or.inl rfl) hv 200 (by decide)
        obtain ⟨x93, s3⟩ := X9_f9 ok ok.2.1 x92 f3
        refine ⟨Int32.ofInt (-103), h1, h3, 0, 0, e8, ?_, JJ_of ok x81 (same8_t (same8_K f2) s3) x93⟩
        unfold f_X9_book
        rw [e2, b2s, i15, wh, if_neg (show ¬ bI true = 0 by decide), b2, if_pos ((nI_8 ok.2.1).2.mpr c8), e3, b2s, i23, idl, if_neg (show ¬ bI true = 0 by decide), b_some]
      · have nb8 : S.nb < 8 := by have := ok.2.1; omega
        obtain ⟨h3, e3, f3, -, i23, -⟩ := g9_layT nb8 (Int32.ofInt 0) (Int32.ofInt (-1)) (Int32.ofInt (-1)) (fun q => absurd rfl q) (h := h2) (m := S.m) (r := S.tx) ⟨m60, Or.inl ⟨rfl, fun j hj => x92.2.1.1.2 j (by omega)⟩⟩ hv 200 (by decide)
        obtain ⟨x93, s3⟩ := X9_f9 ok (Nat.le_refl _) x92 f3
        refine ⟨Int32.ofInt (-103), h1, h3, 0, 0, e8, ?_, JJ_of ok x81 (same8_t (same8_K f2) s3) x93⟩
        unfold f_X9_book
        rw [e2, b2s, i15, wh, if_neg (show ¬ bI true = 0 by decide), b2, if_neg (fun q => c8 ((nI_8 ok.2.1).2.mp q)), x92.2.1.1.1, e3, b2s, i23, idl, if_neg (show ¬ bI true = 0 by decide)]
    | false =>
      rw [idl] at e1
      by_cases c8 : S.nb = 8
      · obtain ⟨h2, e2, -, i15, f2⟩ := rp_9 x91.2.1.1.1 x91.2.1.1.2 m60 (Int32.ofInt 0) 200 (by decide)
        have x92 := X9_K x91 f2
        have b2 : am_I h2 51 2 = nI S.nb := x92.2.1.2.1.1
        obtain ⟨h3, e3, f3, i23⟩ := li9 (sort := Int32.ofInt 0) x92.2.1.1.1 x92.2.1.1.2 m60 (Or.inl rfl) hv 200 (by decide)
        obtain ⟨x93, s3⟩ := X9_f9 ok ok.2.1 x92 f3
        refine ⟨Int32.ofInt (-104), h1, h3, 0, 0, ?_, ?_, JJ_of ok x81 (same8_t (same8_K f2) s3) x93⟩
        · unfold f_X8_book
          rw [e1, b2s, if_neg (show ¬ bI (!false) = 0 by decide), (X8_n x81).1, if_neg (fun q => by have := (nI_8 ok.2.1).1.mp q; omega)]
        · unfold f_X9_book
          rw [e2, b2s, i15, wh, if_neg (show ¬ bI true = 0 by decide), b2, if_pos ((nI_8 ok.2.1).2.mpr c8), e3, b2s, i23, idl, if_pos (show bI false = 0 from rfl), b_some]
      · have nb8 : S.nb < 8 := by have := ok.2.1; omega
        have okp : PSok (S.pg 0 S.tx) := ⟨Nat.zero_le _, ok.2⟩
        have x8b := X8_bl x81
        have g1b : G8 (am_sI h1 1 1 (Int32.ofInt 0)) (gFin (gRun (Int32.ofInt 0) (Int32.ofInt (-1)) S.tx S.m S.m 0 g00)) := by
          unfold G8
          simp only [hp_I' h1 (o := 1) 1 (Int32.ofInt 0) (show (3 : Nat) ≠ 1 by decide), hp_I' h1 (o := 1) 1 (Int32.ofInt 0) (show (4 : Nat) ≠ 1 by decide), hp_I' h1 (o := 1) 1 (Int32.ofInt 0) (show (5 : Nat) ≠ 1 by decide), hp_I' h1 (o := 1) 1 (Int32.ofInt 0) (show (6 : Nat) ≠ 1 by decide), hp_I' h1 (o := 1) 1 (Int32.ofInt 0) (show (7 : Nat) ≠ 1 by decide), hp_I' h1 (o := 1) 1 (Int32.ofInt 0) (show (8 : Nat) ≠ 1 by decide), hp_I' h1 (o := 1) 1 (Int32.ofInt 0) (show (9 : Nat) ≠ 1 by decide), hp_I' h1 (o := 1) 1 (Int32.ofInt 0) (show (10 : Nat) ≠ 1 by decide), hp_I' h1 (o := 1) 1 (Int32.ofInt 0) (show (11 : Nat) ≠ 1 by decide)]
          exact g1
        obtain ⟨h2, c1, z1, e2, x82, s2⟩ := kg_8 okp x8b nb8 g1b bkk.1 co
        have s12 : same9 h1 h2 := same9_t (fun p a b => ⟨hp_I' _ _ _ (by omega), rfl⟩) s2
        have x92 := X9_loc x91 (X8_st x82) s12
        obtain ⟨h3, e3, -, i15, f3⟩ := rp_9 x92.2.1.1.1 x92.2.1.1.2 m60 (Int32.ofInt 0) 200 (by decide)
        have x93 := X9_K x92 f3
        have b3 : am_I h3 51 2 = nI S.nb := x93.2.1.2.1.1
        obtain ⟨h4, e4, f4, i66, i23, i64, i65, -, -⟩ := g9_layT nb8 (Int32.ofInt 0) (Int32.ofInt (-1)) (Int32.ofInt (-1)) (fun q => absurd rfl q) (h := h3) (m := S.m) (r := S.tx) ⟨m60, Or.inl ⟨rfl, fun j hj => x93.2.1.1.2 j (by omega)⟩⟩ hv 200 (by decide)
        obtain ⟨x94, s4⟩ := X9_ab ok x93 f4 i66 (fun i a b => (i64 i a b).trans (co i a b)) i65
        have ok' := PSok_ab okp nb8 bkk
        have b4 : am_I h4 51 2 = nI S.nb := by rw [f4.2.2.1 2 (by decide) (by decide)]; exact b3
        refine ⟨nI S.nb, h2, am_sI (am_sI h4 51 2 (nI (S.nb + 1))) 51 0 (Int32.ofInt 0), c1, z1, ?_, ?_, JJ_of ok' x82 (same8_t (same8_K f3) (same8_t s4 (same8_62 _ _ _))) (X9_bl x94)⟩
        · unfold f_X8_book
          rw [e1, b2s, if_neg (show ¬ bI (!false) = 0 by decide), (X8_n x81).1, if_pos ((nI_8 ok.2.1).1.mpr nb8)]
          exact e2
        · unfold f_X9_book
          rw [e3, b2s, i15, wh, if_neg (show ¬ bI true = 0 by decide), b3, if_neg (fun q => c8 ((nI_8 ok.2.1).2.mp q)), x93.2.1.1.1, e4, b2s, i23, idl, if_pos (show bI false = 0 from rfl), b4, hp_1, hp_I _ 51 0, upd_ne (show (2 : Nat) ≠ 0 by decide), hp_I _ 51 2, upd_at]
          rw [show nI (S.nb + 1) - Int32.ofInt 1 = nI S.nb from by rw [nI_m1 (by omega)]; rfl]
