/-! ===== about, same, apart ===== -/
def eN (f : Nat → Int32) : Nat → Int32
  | 0 => Int32.ofInt 0
  | k + 1 => eN f k + (f k &&& Int32.ofInt 1)
theorem ed_8 {h : am_H} {a n qf lf : Nat} {f : Nat → Int32} (k1 : am_K h a = .inl 0) (k2 : am_I h a 0 = nI n) (n15 : n ≤ 15) (k4 : am_A h a 2 = some qf) (l1 : n < lf) (l2 : lf ≤ 100) (l3 : am_K h qf = .inr (0, lf)) (r : ∀ j, j ≤ n → am_I h qf j = f j) (F : Nat) : ∀ (d i : Nat), i + d = n + 1 → g_X0_endings (F + d + 1) 0 a (eN f i) (nI i) h = some (eN f (n + 1), h) := by
  intro d
  induction d with
  | zero =>
    intro i hi
    have : i = n + 1 := by omega
    subst this
    rw [g_X0_endings, hp_isO k1, cond_true, k2, if_pos ((nI_ltI (a := n) (b := n + 1) (by omega) (by omega)).mpr (by omega))]
  | succ d ih =>
    intro i hi
    rw [show F + (d + 1) + 1 = (F + d + 1) + 1 from rfl, g_X0_endings, hp_isO k1, cond_true, k2, if_neg (fun e => by have := (nI_ltI (a := n) (b := i) (by omega) (by omega)).mp e; omega), k4, b_some, hp_ln l3, b_some, hp_vp (show i < lf by omega) (by omega), cond_true, nI_clamp (show i < 2 ^ 31 by omega), r i (by omega), hp_1]
    exact ih (i + 1) (by omega)
theorem ed_9 {h : am_H} {b n : Nat} {f : Nat → Int32} (b8 : b < 8) (e66 : am_I h 55 b = nI n) (n15 : n ≤ 15) (r : ∀ j, j < 16 → am_I h 54 (16 * b + j) = f j) (F : Nat) : ∀ (d i : Nat), i + d = n + 1 → g_X9_endsOf (F + d + 1) 0 (nI b) (eN f i) (nI i) h = some (eN f (n + 1), h) := by
  intro d
  induction d with
  | zero =>
    intro i hi
    have : i = n + 1 := by omega
    subst this
    rw [g_X9_endsOf, hp_vp b8 (by decide), cond_true, nI_clamp (show b < 2 ^ 31 by omega), e66, if_pos ((nI_ltI (a := n) (b := n + 1) (by omega) (by omega)).mpr (by omega))]
  | succ d ih =>
    intro i hi
    rw [show F + (d + 1) + 1 = (F + d + 1) + 1 from rfl, g_X9_endsOf, hp_vp b8 (by decide), cond_true, nI_clamp (show b < 2 ^ 31 by omega), e66, if_neg (fun e => by have := (nI_ltI (a := n) (b := i) (by omega) (by omega)).mp e; omega), g9_ix, hp_vp (show 16 * b + i < 128 by omega) (by decide), cond_true, nI_clamp (show 16 * b + i < 2 ^ 31 by omega), r i (by omega), hp_1]
    exact ih (i + 1) (by omega)
noncomputable def fewN (n : Nat) (so : Nat → Nat) (fo : Nat → Nat → Prop) : Nat := Classical.epsilon (fun c => ∃ K R, bFew n so fo K R c)
theorem few_n {n : Nat} {so : Nat → Nat} {fo : Nat → Nat → Prop} {K R c : Nat} (h : bFew n so fo K R c) : fewN n so fo = c := by
  obtain ⟨K', R', h'⟩ := Classical.epsilon_spec (p := fun c => ∃ K R, bFew n so fo K R c) ⟨c, K, R, h⟩
  exact (bFew_u h' h).2.2
/-- what about() tells -/
noncomputable def abV (S : PS) (b : Nat) (w : Nat) : Int32 := if w = 0 then nI (S.bn b) else if w = 1 then S.bf b 0 &&& Int32.ofInt 1 else if w = 2 then nI (fewN (S.bn b) (S.so b) (S.fo b)) else eN (S.bf b) (S.bn b + 1)
theorem frKx_M {h h' : am_H} (f : frM h h') : frKx h h' := ⟨⟨f.1, f.2.1, f.2.2.2.1⟩, f.2.2.1, fun q a b => f.2.2.2.2.1 q (by omega) a, fun k hk => f.2.2.2.2.2 k (by omega)⟩
theorem frKx_P {h h' : am_H} (f : frP h h') : frKx h h' := ⟨⟨f.1, f.2.1, f.2.2.2.1⟩, f.2.2.1, fun q a b => f.2.2.2.2.1 q (by omega) a, fun k hk => f.2.2.2.2.2 k (by omega) (by omega)⟩
/-- the reference tells about a book -/
theorem abo_9 {h : am_H} {S : PS} (ok : PSok S) (x9 : X9p h S) {b : Nat} (hb : b < S.nb) {w : Nat} (hw : w < 4) (F : Nat) (hF : 100000000000 ≤ F) : ∃ h', f_X9_aboutOf F (nI b) (nI w) h = some (abV S b w, h') ∧ frKx h h' := by
  obtain ⟨y1, y2, y3⟩ := x9.2.1.2.1.2 b hb
  have bkb := ok.2.2.1 b hb
  have b8 : b < 8 := by have := ok.2.1; omega
  have ww : w = 0 ∨ w = 1 ∨ w = 2 ∨ w = 3 := by omega
  unfold f_X9_aboutOf abV
  rcases ww with rfl | rfl | rfl | rfl
  · refine ⟨h, ?_, frKx_r h⟩
    rw [if_pos (show nI 0 = 0 from rfl), hp_vp b8 (by decide), cond_true, nI_clamp (show b < 2 ^ 31 by omega), y1, b2s, if_pos rfl]
  · refine ⟨h, ?_, frKx_r h⟩
    have x16 : (Int32.ofInt 16) * nI b = nI (16 * b) := by rw [show Int32.ofInt 16 = nI 16 from rfl, nI_mul]
    rw [if_neg (show ¬ nI 1 = 0 by decide), if_pos (show nI 1 = Int32.ofInt 1 from rfl), x16, hp_vp (show 16 * b < 128 by omega) (by decide), cond_true, nI_clamp (show 16 * b < 2 ^ 31 by omega), show am_I h 54 (16 * b) = S.bf b 0 from y3 0 (by decide), b2s, if_neg (by decide), if_pos rfl]
  · obtain ⟨lb, B, σ, bo⟩ := bkb.2.2.2.2.2
    obtain ⟨K, R, c, h', e, fw, fr⟩ := few_9 (B9_of ok x9.2.1 hb) (so_24 S b) bo hF
    refine ⟨h', ?_, frKx_M fr⟩
    rw [if_neg (show ¬ nI 2 = 0 by decide), if_neg (show ¬ nI 2 = Int32.ofInt 1 by decide), if_pos (show nI 2 = Int32.ofInt 2 from rfl), e, b2s, b2s, if_neg (by decide), if_neg (by decide), if_pos rfl, few_n fw]
  · refine ⟨h, ?_, frKx_r h⟩
    have e := ed_9 b8 y1 bkb.1 y3 (F - (S.bn b + 1) - 1) (S.bn b + 1) 0 (by omega)
    rw [show F - (S.bn b + 1) - 1 + (S.bn b + 1) + 1 = F from by have := bkb.1; omega] at e
    unfold f_X9_endsOf
    rw [if_neg (show ¬ nI 3 = 0 by decide), if_neg (show ¬ nI 3 = Int32.ofInt 1 by decide), if_neg (show ¬ nI 3 = Int32.ofInt 2 by decide), show g_X9_endsOf F 0 (nI b) (Int32.ofInt 0) (Int32.ofInt 0) h = _ from e, b2s, b2s, if_neg (by decide), if_neg (by decide), if_neg (by decide)]
/-- the class's fewest places -/
theorem pl_8x {h : am_H} {S : PS} {c sl : Nat} (ok : PSok S) (x : X8 h S c sl) {b : Nat} (hb : b < S.nb) (F : Nat) (hF : 100000000000 ≤ F) : ∃ h' c1 z1 m, f_X8_machineOf F (nI b) h = some ((m, h'), c1, z1) ∧ X8 h' S (c + c1) (sl + z1) ∧ same9 h h' ∧ am_K h' m = .inl 3 ∧ am_I h' m 0 = nI (fewN (S.bn b) (S.so b) (S.fo b)) ∧ am_A h' 25 = am_A h 25 := by
  obtain ⟨h', c1, z1, m, e, x', s, mo, -, -, -, a25⟩ := X8_mo ok x hb F hF
  obtain ⟨e', r, K, R, P, la, M, fd⟩ := X8_mc x' hb mo
  exact ⟨h', c1, z1, m, e, x', s, M.1, by rw [few_n fd.1]; exact M.2.1, a25⟩
theorem cl_7 (a1 a2 : Int32) {h : am_H} {c sl : Nat} (J : JJ h c sl) : am_stat h ∧ po_7 a1 a2 JJ h c sl := by
  obtain ⟨S, ok, x8, x9⟩ := J
  obtain ⟨F, hF⟩ := big_F
  refine ⟨X8_st x8, F, F, ?_⟩
  have n5 := (X8_n x8).1
  have n2 := x9.2.1.2.1.1
  rcases bk_89 a1 ok.2.1 with ⟨b, hb, rfl, e⟩ | e
  · have b8 : b < 8 := by have := ok.2.1; omega
    have n15 := (ok.2.2.1 b hb).1
    have vb : am_vp (nI b) 8 = true := hp_vp b8 (by decide)
    have cb : Int32.toNatClampNeg (nI b) = b := nI_clamp (by omega)
    obtain ⟨a, qc, qf, lc, lf, y1, y2, y3, y4, y5, -, ⟨l1, l2, l3⟩, -, y9⟩ := X8_bk x8 hb
    rcases in_89 a2 (n := 4) (by decide) with ⟨w, hw, rfl, c1, c2, c3, wi⟩ | ⟨cc, wi⟩
    · have wi : ∀ h, f_X9_within (nI w) (Int32.ofInt 0) (Int32.ofInt 3) h = some (bI true, h) := wi
      have ref : ∀ {g : am_H}, X9p g S → ∃ g', f_X9_about F (nI b) (nI w) g = some (abV S b w, g') ∧ X9p g' S ∧ same8 g g' := by
        intro g xg
        obtain ⟨g', eg, fg⟩ := abo_9 ok xg hb hw F (by omega)
        refine ⟨g', ?_, X9_K xg fg, same8_K fg⟩
        unfold f_X9_about
        rw [(e g).2 xg.2.1.2.1.1, b2s, if_neg (show ¬ bI true = 0 by decide), wi, b2s, if_neg (show ¬ bI true = 0 by decide), eg, b2s, b2s]
      by_cases w2 : w = 2
      · subst w2
        obtain ⟨h1, c1', z1, m, e1, x81, s1, km, im, -⟩ := pl_8x ok x8 hb F (by omega)
        obtain ⟨h2, e2, x92, s2⟩ := ref (X9_loc x9 (X8_st x81) s1)
        refine ⟨abV S b 2, h1, h2, c1', z1, ?_, e2, JJ_of ok x81 s2 x92⟩
        unfold f_X8_about
        rw [(e h).1 n5, b2s, if_neg (show ¬ bI true = 0 by decide), if_neg (show ¬ nI 2 = Int32.ofInt 0 by decide), if_neg (show ¬ nI 2 = Int32.ofInt 1 by decide), if_pos (show nI 2 = Int32.ofInt 2 from rfl), e1, bcs, hp_isO km, cond_true, im, cts]
        rfl
      · obtain ⟨h2, e2, x92, s2⟩ := ref x9
        refine ⟨abV S b w, h, h2, 0, 0, ?_, e2, JJ_of ok x8 s2 x92⟩
        have ww : w = 0 ∨ w = 1 ∨ w = 3 := by omega
        unfold f_X8_about
        rcases ww with rfl | rfl | rfl
        · rw [(e h).1 n5, b2s, if_neg (show ¬ bI true = 0 by decide), if_pos (show nI 0 = Int32.ofInt 0 from rfl), vb, cond_true, cb, y1, b_some, hp_isO y2, cond_true, y3]
          rfl
        · rw [(e h).1 n5, b2s, if_neg (show ¬ bI true = 0 by decide), if_neg (show ¬ nI 1 = Int32.ofInt 0 by decide), if_pos (show nI 1 = Int32.ofInt 1 from rfl), vb, cond_true, cb, y1, b_some, hp_isO y2, cond_true, y5, b_some, hp_ln l3, b_some, show am_vp (Int32.ofInt 0) lf = true from hp_vp (k := 0) (by omega) (by omega), cond_true, show Int32.toNatClampNeg (Int32.ofInt 0) = 0 from rfl, y9 0 (by omega)]
          rfl
        · have ed := ed_8 y2 y3 n15 y5 l1 l2 l3 y9 (F - (S.bn b + 1) - 1) (S.bn b + 1) 0 (by omega)
          rw [show F - (S.bn b + 1) - 1 + (S.bn b + 1) + 1 = F from by omega] at ed
          unfold f_X0_endings
          rw [(e h).1 n5, b2s, if_neg (show ¬ bI true = 0 by decide), if_neg (show ¬ nI 3 = Int32.ofInt 0 by decide), if_neg (show ¬ nI 3 = Int32.ofInt 1 by decide), if_neg (show ¬ nI 3 = Int32.ofInt 2 by decide), if_pos (show nI 3 = Int32.ofInt 3 from rfl), vb, cond_true, cb, y1, b_some, hp_isO y2, cond_true, show g_X0_endings F 0 a (Int32.ofInt 0) (Int32.ofInt 0) h = _ from ed, b2s]
          rfl
    · have wi : f_X9_within a2 (Int32.ofInt 0) (Int32.ofInt 3) h = some (bI false, h) := wi h
      refine ⟨Int32.ofInt (-102), h, h, 0, 0, ?_, ?_, JJ_ro ok x8 x9⟩
      · have nw : ∀ k, k < 4 → ¬ a2 = nI k := by
          intro k hk q
          rcases cc with cc | ⟨c1, c2, c3⟩
          · rw [q] at cc; exact nI_pos (by omega) cc
          · rw [q] at c2; exact c2 ((nI_ltI (a := k) (b := 4) (by omega) (by decide)).mpr hk)
        unfold f_X8_about
        rw [(e h).1 n5, b2s, if_neg (show ¬ bI true = 0 by decide), if_neg (show ¬ a2 = Int32.ofInt 0 from nw 0 (by decide)), if_neg (show ¬ a2 = Int32.ofInt 1 from nw 1 (by decide)), if_neg (show ¬ a2 = Int32.ofInt 2 from nw 2 (by decide)), if_neg (show ¬ a2 = Int32.ofInt 3 from nw 3 (by decide))]
      · unfold f_X9_about
        rw [(e h).2 n2, b2s, if_neg (show ¬ bI true = 0 by decide), wi, b2s, if_pos (show bI false = 0 from rfl), b2s]
  · refine ⟨Int32.ofInt (-101), h, h, 0, 0, ?_, ?_, JJ_ro ok x8 x9⟩
    · unfold f_X8_about
      rw [(e h).1 n5, b2s, if_pos (show bI false = 0 from rfl)]
    · unfold f_X9_about
      rw [(e h).2 n2, b2s, if_pos (show bI false = 0 from rfl), b2s]
/-- the class sets two books against one another; the reference does -/
theorem tp_89 {h : am_H} {S : PS} {c sl : Nat} (ok : PSok S) (x8 : X8 h S c sl) (x9 : X9p h S) {b1 b2 : Nat} (hb1 : b1 < S.nb) (hb2 : b2 < S.nb) (F : Nat) (hF : 100000000000 ≤ F) : ∃ h1 c1 z1 b h2, (∀ (k : Int32 → am_H → Option ((Int32 × am_H) × Nat × Nat)), (am_bc (f_X8_machineOf F (nI b1) h) fun r9 h10 => (am_bc (f_X8_machineOf F (nI b2) h10) fun r17 h18 => (am_bc (f_X1_tells F r9 r17 h18) k))) = am_cost c1 z1 (k (bI b) h1)) ∧ X8 h1 S (c + c1) (sl + z1) ∧ X9p h1 S ∧ f_X9_seekApart F (nI b1) (nI b2) h1 = some ((), h2) ∧ X9p h2 S ∧ same8 h1 h2 ∧ ((b = false ∧ am_I h2 51 37 = Int32.ofInt (-1)) ∨ (b = true ∧ ∃ (k : Nat) (w : List Nat), k < 65536 ∧ am_I h2 51 37 = nI k ∧ (f_X1_length F h1 = some (nI w.length, h1) ∧ am_I h1 19 0 = bI (uD (bAcc (S.bn b1) (S.so b1) (S.fo b1) w)) ∧ ∀ i, i < 90 → f_X1_codeAt F (nI i) h1 = some (if i < w.length then nI (cdOf (wAt w i)) else Int32.ofInt (-1), h1)) ∧ (g_X9_apart F 0 (nI b1) (nI b2) (nI 0) (nI 0) (nI k) 0 h2 = some (nI w.length, h2) ∧ g_X9_apart F 0 (nI b1) (nI b2) (nI 1) (nI 0) (nI k) 0 h2 = some (bI (uD (bAcc (S.bn b1) (S.so b1) (S.fo b1) w)), h2) ∧ ∀ i, i < 90 → g_X9_apart F 0 (nI b1) (nI b2) (nI (i + 10)) (nI 0) (nI k) 0 h2 = some (if i < w.length then nI (cdOf (wAt w i)) else Int32.ofInt (-1), h2)))) := by
  have bk1 := ok.2.2.1 b1 hb1
  have bk2 := ok.2.2.1 b2 hb2
  obtain ⟨lb1, B1, σ1, bo1⟩ := bk1.2.2.2.2.2
  obtain ⟨lb2, B2, σ2, bo2⟩ := bk2.2.2.2.2.2
  obtain ⟨ha, ca, za, m1, e1, xa, sa, mo1, -⟩ := X8_mo ok x8 hb1 F hF
  obtain ⟨hb, cb, zb, m2, e2, xb, sb, mo2, keep, -⟩ := X8_mo ok xa hb2 F hF
  obtain ⟨h1, cc, zc, b, cap, q, K1, R1, P1, la1, K2, R2, P2, la2, e3, xc, sc, fd1, fd2, tr, lP, lc⟩ := X8_tl ok xb hb1 hb2 (keep b1 m1 hb1 mo1) mo2 F (by omega)
  have x91 := X9_loc x9 (X8_st xc) (same9_t sa (same9_t sb sc))
  obtain ⟨h2, N, pw, pf, pa, e4, sf, fp⟩ := sk_9 (B9_of ok x91.2.1 hb1) (B9_of ok x91.2.1 hb2) bo1 bo2 (so_24 S b1) (so_24 S b2) hF
  have x92 := X9_K x91 (frKx_P fp)
  refine ⟨h1, ca + cb + cc, za + zb + zc, b, h2, fun k => ?_, ?_, x91, e4, x92, same8_K (frKx_P fp), ?_⟩
  · rw [e1, bcs, e2, bcs, e3, bcs, cst_cst, cst_cst]
  · rw [show c + (ca + cb + cc) = c + ca + cb + cc from by omega, show sl + (za + zb + zc) = sl + za + zb + zc from by omega]; exact xc
  · rcases ct_eq bk1.1 bk2.1 fd1 fd2 tr sf with ⟨q1, q2⟩ | ⟨q1, k, w, hk, q2, q3, q4, N', pw', pf', pa', f, tf, q5⟩
    · exact Or.inl ⟨q1, q2⟩
    · refine Or.inr ⟨q1, k, w, ?_, q2, ⟨?_, ?_, fun i hi => ?_⟩, ?_⟩
      · obtain ⟨⟨T, p9⟩, -⟩ := sf
        have := p9.2.1
        omega
      · rw [ln_8 tf (by have := tf.2.1; omega) lc (by omega), q5]
      · rw [tf.2.2.2.2.2.1, q5, nE_u bk1.1 fd1 q4]
      · rw [ca_8 tf (by have := tf.2.1; omega) lc (by omega) (by omega), q5]
      · obtain ⟨⟨T, p9⟩, bw, -⟩ := sf
        have z := ap_9 (b2 := b2) (B9_of ok x92.2.1 hb1) p9 bw hk q2 (F := F) (by omega)
        rw [q3] at z
        exact z
theorem cl_10 (a1 a2 : Int32) {h : am_H} {c sl : Nat} (J : JJ h c sl) : am_stat h ∧ po_10 a1 a2 JJ h c sl := by
  obtain ⟨S, ok, x8, x9⟩ := J
  obtain ⟨F, hF⟩ := big_F
  refine ⟨X8_st x8, F, F, ?_⟩
  have n5 := (X8_n x8).1
  have n2 := x9.2.1.2.1.1
  rcases bk_89 a1 ok.2.1 with ⟨b1, hb1, rfl, e⟩ | e
  · rcases bk_89 a2 ok.2.1 with ⟨b2, hb2, rfl, e'⟩ | e'
    · obtain ⟨h1, c1, z1, b, h2, ek, x81, x91, e9, x92, s2, res⟩ := tp_89 ok x8 x9 hb1 hb2 F (by omega)
      have n21 : am_I h1 51 2 = nI S.nb := x91.2.1.2.1.1
      refine ⟨bI (!b), h1, h2, c1, z1, ?_, ?_, JJ_of ok x81 s2 x92⟩
      · unfold f_X8_same
        rw [(e h).1 n5, b2s, if_neg (show ¬ bI true = 0 by decide), (e' h).1 n5, b2s, if_neg (show ¬ bI true = 0 by decide), ek]
        cases b <;> rfl
      · unfold f_X9_same
        rw [(e h1).2 n21, b2s, if_neg (show ¬ bI true = 0 by decide), (e' h1).2 n21, b2s, if_neg (show ¬ bI true = 0 by decide), e9, b2s]
        rcases res with ⟨q1, q2⟩ | ⟨q1, k, w, k6, q2, -⟩
        · rw [q2, if_pos rfl, q1]; rfl
        · rw [q2, if_neg (nI_m1ne (by omega)), q1]; rfl
    · refine ⟨Int32.ofInt (-101), h, h, 0, 0, ?_, ?_, JJ_ro ok x8 x9⟩
      · unfold f_X8_same
        rw [(e h).1 n5, b2s, if_neg (show ¬ bI true = 0 by decide), (e' h).1 n5, b2s, if_pos (show bI false = 0 from rfl)]
      · unfold f_X9_same
        rw [(e h).2 n2, b2s, if_neg (show ¬ bI true = 0 by decide), (e' h).2 n2, b2s, if_pos (show bI false = 0 from rfl)]
  · refine ⟨Int32.ofInt (-101), h, h, 0, 0, ?_, ?_, JJ_ro ok x8 x9⟩
    · unfold f_X8_same
      rw [(e h).1 n5, b2s, if_pos (show bI false = 0 from rfl)]
    · unfold f_X9_same
      rw [(e h).2 n2, b2s, if_pos (show bI false = 0 from rfl)]
theorem it_89x (a : Int32) : (∃ i, i < 90 ∧ a = nI (i + 10) ∧ ∀ h, f_X8_isItem a h = some (bI true, h) ∧ f_X9_within a (Int32.ofInt 10) (Int32.ofInt 99) h = some (bI true, h)) ∨ (∀ h, f_X8_isItem a h = some (bI false, h) ∧ f_X9_within a (Int32.ofInt 10) (Int32.ofInt 99) h = some (bI false, h)) := by
  by_cases c1 : a < Int32.ofInt 10
  · refine Or.inr (fun h => ⟨?_, wi_f (Or.inl c1) h⟩)
    unfold f_X8_isItem; rw [if_pos c1]; rfl
  · by_cases c2 : Int32.ofInt 99 < a
    · refine Or.inr (fun h => ⟨?_, wi_f (Or.inr c2) h⟩)
      unfold f_X8_isItem; rw [if_neg c1, if_pos c2]; rfl
    · have nn : ¬ a < 0 := fun q => c1 (Int32.lt_trans q (by decide))
      obtain ⟨v, hv, rfl⟩ := i32_nn nn
      have v1 : 10 ≤ v := Classical.byContradiction (fun q => c1 ((nI_ltI (a := v) (b := 10) hv (by decide)).mpr (by omega)))
      have v2 : v ≤ 99 := Classical.byContradiction (fun q => c2 ((nI_ltI (a := 99) (b := v) (by decide) hv).mpr (by omega)))
      refine Or.inl ⟨v - 10, by omega, by rw [show v - 10 + 10 = v from by omega], fun h => ⟨?_, wi_t c1 c2 h⟩⟩
      unfold f_X8_isItem; rw [if_neg c1, if_neg c2]; rfl
theorem cl_11 (a1 a2 a3 : Int32) {h : am_H} {c sl : Nat} (J : JJ h c sl) : am_stat h ∧ po_11 a1 a2 a3 JJ h c sl := by
  obtain ⟨S, ok, x8, x9⟩ := J
  obtain ⟨F, hF⟩ := big_F
  refine ⟨X8_st x8, F, F, ?_⟩
  have n5 := (X8_n x8).1
  have n2 := x9.2.1.2.1.1
  rcases bk_89 a1 ok.2.1 with ⟨b1, hb1, rfl, e⟩ | e
  · rcases bk_89 a2 ok.2.1 with ⟨b2, hb2, rfl, e'⟩ | e'
    · obtain ⟨h1, c1, z1, b, h2, ek, x81, x91, e9, x92, s2, res⟩ := tp_89 ok x8 x9 hb1 hb2 F (by omega)
      have n21 : am_I h1 51 2 = nI S.nb := x91.2.1.2.1.1
      have in8 : ∀ X : Option ((Int32 × am_H) × Nat × Nat), (f_X8_apart F (nI b1) (nI b2) a3 h = X ↔ (am_let (am_bc (f_X8_machineOf F (nI b1) h) fun r12 h13 => (am_bc (f_X8_machineOf F (nI b2) h13) fun r20 h21 => (am_bc (f_X1_tells F r12 r20 h21) fun r28 h29 => ((if r28 = 0 then some (((Int32.ofInt (-1)), h29), 0, 0) else (if a3 = 0 then am_b2 (f_X1_length F h29) fun r95 h96 => (some ((r95, h96), 0, 0)) else (if a3 = (Int32.ofInt 1) then Option.bind ((if (am_I h29 19 0) = 0 then some (Int32.ofInt 0) else some (Int32.ofInt 1))) fun y42 => (some ((y42, h29), 0, 0)) else am_b2 (f_X1_codeAt F (a3 - (Int32.ofInt 10)) h29) fun r39 h40 => (some ((r39, h40), 0, 0))))))))) fun b9 => ((if a3 = 0 then b9 else (if a3 = (Int32.ofInt 1) then b9 else am_b2 (f_X8_isItem a3 h) fun r14 h15 => ((if r14 = 0 then some (((Int32.ofInt (-102)), h15), 0, 0) else am_bc (f_X8_machineOf F (nI b1) h15) fun r18 h19 => (am_bc (f_X8_machineOf F (nI b2) h19) fun r26 h27 => (am_bc (f_X1_tells F r18 r26 h27) fun r34 h35 => ((if r34 = 0 then some (((Int32.ofInt (-1)), h35), 0, 0) else (if a3 = 0 then am_b2 (f_X1_length F h35) fun r101 h102 => (some ((r101, h102), 0, 0)) else (if a3 = (Int32.ofInt 1) then Option.bind ((if (am_I h35 19 0) = 0 then some (Int32.ofInt 0) else some (Int32.ofInt 1))) fun y48 => (some ((y48, h35), 0, 0)) else am_b2 (f_X1_codeAt F (a3 - (Int32.ofInt 10)) h35) fun r45 h46 => (some ((r45, h46), 0, 0)))))))))))))) = X) := by
        intro X
        unfold f_X8_apart
        rw [(e h).1 n5, b2s, if_neg (show ¬ bI true = 0 by decide), (e' h).1 n5, b2s, if_neg (show ¬ bI true = 0 by decide)]
      have w01 : ∀ g, (a3 = 0 ∨ a3 = Int32.ofInt 1) → f_X9_within a3 (Int32.ofInt 0) (Int32.ofInt 1) g = some (bI true, g) := by
        intro g q
        rcases q with q | q
        · rw [q]; exact wi_t (by decide) (by decide) g
        · rw [q]; exact wi_t (by decide) (by decide) g
      have n01 : ∀ g, ¬ a3 = 0 → ¬ a3 = Int32.ofInt 1 → f_X9_within a3 (Int32.ofInt 0) (Int32.ofInt 1) g = some (bI false, g) := by
        intro g q0 q1
        refine wi_f ?_ g
        by_cases n : a3 < Int32.ofInt 0
        · exact Or.inl n
        · obtain ⟨v, hv, rfl⟩ := i32_nn n
          refine Or.inr ((nI_ltI (a := 1) (b := v) (by decide) hv).mpr ?_)
          have z0 : v ≠ 0 := fun q => q0 (by rw [q]; rfl)
          have z1 : v ≠ 1 := fun q => q1 (by rw [q]; rfl)
          omega
      -- both, where the row is sought
      have go : (a3 = 0 ∨ a3 = Int32.ofInt 1 ∨ ∃ i, i < 90 ∧ a3 = nI (i + 10)) → ∃ v, (if bI b = 0 then some (((Int32.ofInt (-1)), h1), 0, 0) else (if a3 = 0 then am_b2 (f_X1_length F h1) fun r95 h96 => (some ((r95, h96), 0, 0)) else (if a3 = (Int32.ofInt 1) then Option.bind ((if (am_I h1 19 0) = 0 then some (Int32.ofInt 0) else some (Int32.ofInt 1))) fun y42 => (some ((y42, h1), 0, 0)) else am_b2 (f_X1_codeAt F (a3 - (Int32.ofInt 10)) h1) fun r39 h40 => (some ((r39, h40), 0, 0))))) = some ((v, h1), 0, 0) ∧ (if (am_I h2 51 37) = (Int32.ofInt (-1)) then some ((Int32.ofInt (-1)), h2) else g_X9_apart F 0 (nI b1) (nI b2) a3 (Int32.ofInt 0) (am_I h2 51 37) 0 h2) = some (v, h2) := by
        intro ha
        rcases res with ⟨q1, q2⟩ | ⟨q1, k, w, k6, q2, ⟨p1, p2, p3⟩, p4, p5, p6⟩
        · exact ⟨Int32.ofInt (-1), by rw [q1, if_pos (show bI false = 0 from rfl)], by rw [q2, if_pos rfl]⟩
        · rw [q1, q2, if_neg (show ¬ bI true = 0 by decide), if_neg (nI_m1ne (by omega))]
          rcases ha with ha | ha | ⟨i, hi, ha⟩
          · refine ⟨nI w.length, by rw [if_pos ha, p1, b2s], ?_⟩
            rw [ha]; exact p4
          · refine ⟨bI (uD (bAcc (S.bn b1) (S.so b1) (S.fo b1) w)), ?_, ?_⟩
            · rw [ha, if_neg (show ¬ Int32.ofInt 1 = 0 by decide), if_pos rfl, p2]
              cases uD (bAcc (S.bn b1) (S.so b1) (S.fo b1) w) <;> rfl
            · rw [ha]; exact p5
          · refine ⟨if i < w.length then nI (cdOf (wAt w i)) else Int32.ofInt (-1), ?_, ?_⟩
            · rw [ha, if_neg (show ¬ nI (i + 10) = 0 from fun q => by have := (nI_inj (a := i + 10) (b := 0) (by omega) (by decide)).mp q; omega), if_neg (show ¬ nI (i + 10) = Int32.ofInt 1 from fun q => by have := (nI_inj (a := i + 10) (b := 1) (by omega) (by decide)).mp q; omega), show nI (i + 10) - Int32.ofInt 10 = nI i from by rw [show Int32.ofInt 10 = nI 10 from rfl, nI_subN (by omega), show i + 10 - 10 = i from by omega], p3 i hi, b2s]
            · rw [ha]; exact p6 i hi
      have r9 : ∀ v, (if (am_I h2 51 37) = (Int32.ofInt (-1)) then some ((Int32.ofInt (-1)), h2) else g_X9_apart F 0 (nI b1) (nI b2) a3 (Int32.ofInt 0) (am_I h2 51 37) 0 h2) = some (v, h2) → ((a3 = 0 ∨ a3 = Int32.ofInt 1) ∨ ((¬ a3 = 0 ∧ ¬ a3 = Int32.ofInt 1) ∧ f_X9_within a3 (Int32.ofInt 10) (Int32.ofInt 99) h1 = some (bI true, h1))) → f_X9_apart F (nI b1) (nI b2) a3 h1 = some (v, h2) := by
        intro v ev q
        unfold f_X9_apart
        rw [(e h1).2 n21, b2s, if_neg (show ¬ bI true = 0 by decide), (e' h1).2 n21, b2s, if_neg (show ¬ bI true = 0 by decide)]
        rcases q with q | ⟨⟨q0, q1⟩, q⟩
        · rw [w01 h1 q, b2s, if_neg (show ¬ bI true = 0 by decide), e9, b2s]; exact ev
        · rw [n01 h1 q0 q1, b2s, if_pos (show bI false = 0 from rfl), q, b2s, if_neg (show ¬ bI true = 0 by decide), e9, b2s]; exact ev
      by_cases q0 : a3 = 0
      · obtain ⟨v, g1, g2⟩ := go (Or.inl q0)
        refine ⟨v, h1, h2, c1, z1, (in8 _).mpr ?_, r9 v g2 (Or.inl (Or.inl q0)), JJ_of ok x81 s2 x92⟩
        show (if a3 = 0 then _ else _) = _
        rw [if_pos q0, ek, g1, cts]; rfl
      · by_cases q1 : a3 = Int32.ofInt 1
        · obtain ⟨v, g1, g2⟩ := go (Or.inr (Or.inl q1))
          refine ⟨v, h1, h2, c1, z1, (in8 _).mpr ?_, r9 v g2 (Or.inl (Or.inr q1)), JJ_of ok x81 s2 x92⟩
          show (if a3 = 0 then _ else _) = _
          rw [if_neg q0, if_pos q1, ek, g1, cts]; rfl
        · rcases it_89x a3 with ⟨i, hi, ea, w⟩ | w
          · obtain ⟨v, g1, g2⟩ := go (Or.inr (Or.inr ⟨i, hi, ea⟩))
            refine ⟨v, h1, h2, c1, z1, (in8 _).mpr ?_, r9 v g2 (Or.inr ⟨⟨q0, q1⟩, (w h1).2⟩), JJ_of ok x81 s2 x92⟩
            show (if a3 = 0 then _ else _) = _
            rw [if_neg q0, if_neg q1, (w h).1, b2s, if_neg (show ¬ bI true = 0 by decide), ek, g1, cts]; rfl
          · refine ⟨Int32.ofInt (-102), h, h, 0, 0, (in8 _).mpr ?_, ?_, JJ_ro ok x8 x9⟩
            · show (if a3 = 0 then _ else _) = _
              rw [if_neg q0, if_neg q1, (w h).1, b2s, if_pos (show bI false = 0 from rfl)]
            · unfold f_X9_apart
              rw [(e h).2 n2, b2s, if_neg (show ¬ bI true = 0 by decide), (e' h).2 n2, b2s, if_neg (show ¬ bI true = 0 by decide), n01 h q0 q1, b2s, if_pos (show bI false = 0 from rfl), (w h).2, b2s, if_pos (show bI false = 0 from rfl)]
    · refine ⟨Int32.ofInt (-101), h, h, 0, 0, ?_, ?_, JJ_ro ok x8 x9⟩
      · unfold f_X8_apart
        rw [(e h).1 n5, b2s, if_neg (show ¬ bI true = 0 by decide), (e' h).1 n5, b2s, if_pos (show bI false = 0 from rfl)]
      · unfold f_X9_apart
        rw [(e h).2 n2, b2s, if_neg (show ¬ bI true = 0 by decide), (e' h).2 n2, b2s, if_pos (show bI false = 0 from rfl)]
  · refine ⟨Int32.ofInt (-101), h, h, 0, 0, ?_, ?_, JJ_ro ok x8 x9⟩
    · unfold f_X8_apart
      rw [(e h).1 n5, b2s, if_pos (show bI false = 0 from rfl)]
    · unfold f_X9_apart
      rw [(e h).2 n2, b2s, if_pos (show bI false = 0 from rfl)]
