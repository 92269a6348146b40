/-! ===== digest: the class, both ===== -/
theorem wth (z v : Int64) (h : am_H) : f_X8_with z v h = some ((((31 : Int64) * z) + v), h) := rfl
/-- codes, then what follows -/
theorem wb_f {h : am_H} {a n qf lf : Nat} {f : Nat → Int32} (k1 : am_K h a = .inl 0) (k2 : am_I h a 0 = nI n) (n15 : n ≤ 15) (k4 : am_A h a 2 = some qf) (l1 : n < lf) (l2 : lf ≤ 100) (l3 : am_K h qf = .inr (0, lf)) (r : ∀ j, j ≤ n → am_I h qf j = f j) (a1 : Int64) (a3 : Int32) (F : Nat) : ∀ (k i : Nat) (z : Int64), i + k = n + 1 → g_X8_withBook (F + k + 1) 1 a1 a3 a z (nI i) h = some ((mxF f k i z, h), 0, 0) := by
  intro k
  induction k with
  | zero =>
    intro i z hi
    rw [g_X8_withBook, q10, cond_false, hp_isO k1, cond_true, k2, if_pos ((nI_ltI (a := n) (b := i) (by omega) (by omega)).mpr (by omega))]
    rfl
  | succ k ih =>
    intro i z hi
    rw [show F + (k + 1) + 1 = (F + k + 1) + 1 from rfl, g_X8_withBook, q10, cond_false, hp_isO k1, cond_true, k2, if_neg (fun e => by have := (nI_ltI (a := n) (b := i) (by omega) (by omega)).mp e; omega), k4, b_some, hp_ln l3, b_some, hp_vp (show i < lf by omega) (by omega), cond_true, nI_clamp (show i < 2 ^ 31 by omega), r i (by omega), wth, b2s, hp_1]
    exact ih (i + 1) _ (by omega)
theorem wb_c {h : am_H} {a n qc lc : Nat} {cd : Nat → Nat} (k1 : am_K h a = .inl 0) (k2 : am_I h a 0 = nI n) (n15 : n ≤ 15) (k3 : am_A h a 1 = some qc) (l1 : n < lc) (l2 : lc ≤ 100) (l3 : am_K h qc = .inr (0, lc)) (r : ∀ i, 1 ≤ i → i ≤ n → am_I h qc i = nI (cd i)) (a1 : Int64) (a3 : Int32) (F : Nat) : ∀ (k i : Nat) (z : Int64), 1 ≤ i → i + k = n + 1 → g_X8_withBook (F + k + 1) 0 a1 a3 a z (nI i) h = g_X8_withBook F 1 a1 a3 a (mxF (fun i => nI (cd i)) k i z) (Int32.ofInt 0) h := by
  intro k
  induction k with
  | zero =>
    intro i z i1 hi
    rw [g_X8_withBook, q00, cond_true, hp_isO k1, cond_true, k2, if_pos ((nI_ltI (a := n) (b := i) (by omega) (by omega)).mpr (by omega))]
    rfl
  | succ k ih =>
    intro i z i1 hi
    rw [show F + (k + 1) + 1 = (F + k + 1) + 1 from rfl, g_X8_withBook, q00, cond_true, hp_isO k1, cond_true, k2, if_neg (fun e => by have := (nI_ltI (a := n) (b := i) (by omega) (by omega)).mp e; omega), k3, b_some, hp_ln l3, b_some, hp_vp (show i < lc by omega) (by omega), cond_true, nI_clamp (show i < 2 ^ 31 by omega), r i i1 (by omega), wth, b2s, hp_1]
    exact ih (i + 1) _ (by omega) (by omega)
theorem wb_8 {h : am_H} {S : PS} {c sl : Nat} (ok : PSok S) (x8 : X8 h S c sl) {b : Nat} (hb : b < S.nb) (z : Int64) (F : Nat) (hF : 100000000000 ≤ F) : ∃ h' c1 z1, f_X8_withBook F z (nI b) h = some ((dBook S b z, h'), c1, z1) ∧ X8 h' S (c + c1) (sl + z1) ∧ same9 h h' := by
  have b8 : b < 8 := by have := ok.2.1; omega
  have n15 := (ok.2.2.1 b hb).1
  obtain ⟨a, qc, qf, lc, lf, y1, y2, y3, y4, y5, ⟨l1, l2, l3⟩, ⟨m1, m2, m3⟩, y8, y9⟩ := X8_bk x8 hb
  obtain ⟨h1, c1, z1, m, e1, x81, s1, km, im, a25⟩ := pl_8x ok x8 hb F hF
  obtain ⟨a', qc', qf', lc', lf', w1, w2, w3, w4, w5, ⟨p1, p2, p3⟩, ⟨r1, r2, r3⟩, w8, w9⟩ := X8_bk x81 hb
  have ea : a' = a := by rw [a25, y1] at w1; exact (Option.some.inj w1).symm
  subst ea
  refine ⟨h1, c1, z1, ?_, x81, s1⟩
  have ed := ed_8 w2 w3 n15 w5 r1 r2 r3 w9 (F - (S.bn b + 1) - 1) (S.bn b + 1) 0 (by omega)
  rw [show F - (S.bn b + 1) - 1 + (S.bn b + 1) + 1 = F from by omega] at ed
  have ed : f_X0_endings F a' h1 = some (eN (S.bf b) (S.bn b + 1), h1) := ed
  have wc := wb_c w2 w3 n15 w4 p1 p2 p3 w8 z (nI b) (F - S.bn b - 1) (S.bn b) 1 (mxF (abV S b) 4 0 z) (by omega) (by omega)
  rw [show F - S.bn b - 1 + S.bn b + 1 = F from by omega] at wc
  have wf := wb_f w2 w3 n15 w5 r1 r2 r3 w9 z (nI b) (F - S.bn b - 1 - (S.bn b + 1) - 1) (S.bn b + 1) 0 (mxF (fun i => nI (S.bc b i)) (S.bn b) 1 (mxF (abV S b) 4 0 z)) (by omega)
  rw [show F - S.bn b - 1 - (S.bn b + 1) - 1 + (S.bn b + 1) + 1 = F - S.bn b - 1 from by omega] at wf
  unfold f_X8_withBook
  rw [hp_vp b8 (by decide), cond_true, nI_clamp (show b < 2 ^ 31 by omega), y1, b_some, hp_isO y2, cond_true, y3, wth, b2s, hp_isO y2, cond_true, y5, b_some, hp_ln m3, b_some, show am_vp (Int32.ofInt 0) lf = true from hp_vp (k := 0) (by omega) (by omega), cond_true, show Int32.toNatClampNeg (Int32.ofInt 0) = 0 from rfl, y9 0 (by omega), wth, b2s, e1, bcs, hp_isO km, cond_true, im, wth, b2s, hp_isO w2, cond_true, ed, b2s, wth, b2s]
  have wc' : g_X8_withBook F 0 z (nI b) a' (((31 : Int64) * (((31 : Int64) * (((31 : Int64) * (((31 : Int64) * z) + Int32.toInt64 (nI (S.bn b)))) + Int32.toInt64 (S.bf b 0 &&& Int32.ofInt 1))) + Int32.toInt64 (nI (fewN (S.bn b) (S.so b) (S.fo b))))) + Int32.toInt64 (eN (S.bf b) (S.bn b + 1))) (Int32.ofInt 1) h1 = some ((dBook S b z, h1), 0, 0) := wc.trans wf
  rw [wc', cts]
  rfl
theorem dg8_b {S : PS} (ok : PSok S) : ∀ (k b F c sl : Nat) (h : am_H) (z : Int64), b + k = S.nb → 100000001000 + k ≤ F → X8 h S c sl → ∃ F' h' c1 z1, F ≤ F' + k + 1 ∧ g_X8_digest F 0 z (nI b) h = am_cost c1 z1 (g_X8_digest F' 1 (dBooks S k b z) (Int32.ofInt 0) h') ∧ X8 h' S (c + c1) (sl + z1) ∧ same9 h h' := by
  have nb8 := ok.2.1
  intro k
  induction k with
  | zero =>
    intro b F c sl h z hb hF x
    obtain ⟨G, rfl⟩ := fuel_s (F := F) (by omega)
    refine ⟨G, h, 0, 0, by omega, ?_, x, same9_r h⟩
    rw [g_X8_digest, q00, cond_true, (X8_n x).1, if_pos (nI_le (by omega) (by omega)), cst_0]
    rfl
  | succ k ih =>
    intro b F c sl h z hb hF x
    obtain ⟨G, rfl⟩ := fuel_s (F := F) (by omega)
    obtain ⟨h1, c1, z1, e1, x1, s1⟩ := wb_8 ok x (b := b) (by omega) z G (by omega)
    obtain ⟨F', h', c2, z2, l, e2, x2, s2⟩ := ih (b + 1) G (c + c1) (sl + z1) h1 (dBook S b z) (by omega) (by omega) x1
    refine ⟨F', h', c1 + c2, z1 + z2, by omega, ?_, by rw [← Nat.add_assoc, ← Nat.add_assoc]; exact x2, same9_t s1 s2⟩
    rw [g_X8_digest, q00, cond_true, (X8_n x).1, if_neg (nI_ge (a := b) (b := S.nb) (by omega) (by omega)), e1, bcs, hp_1, e2, cst_cst]
    rfl
theorem at_8v {h : am_H} {S : PS} {c sl : Nat} (ok : PSok S) (x8 : X8 h S c sl) {o : Nat} (o3 : o < 3) : f_X8_at (nI o) h = some (atV S o, h) := by
  obtain ⟨e27, pl⟩ := at_8 ok x8 o3
  have io : f_X8_isOffice (nI o) h = some (bI true, h) := by
    unfold f_X8_isOffice
    rw [if_neg (nI_pos (show o < 2 ^ 31 by omega)), if_neg (show ¬ Int32.ofInt 3 ≤ nI o from nI_ge (a := o) (b := 3) o3 (by decide))]; rfl
  unfold f_X8_at atV
  rw [io, b2s, if_neg (show ¬ bI true = 0 by decide), hp_vp o3 (by decide), cond_true, nI_clamp (show o < 2 ^ 31 by omega), e27]
  rcases ok.2.2.2.2.2.1 o o3 with q | ⟨b, hb, q, -⟩
  · rw [q, if_pos (show stI none = Int32.ofInt (-1) from rfl), b2s]
  · have := ok.2.1
    rw [q, if_neg (show ¬ stI (some b) = Int32.ofInt (-1) from nI_m1ne (by omega)), pl, b2s, b2s]
theorem dg8_s {S : PS} (ok : PSok S) {h : am_H} {c sl : Nat} (x : X8 h S c sl) : ∀ (k o F : Nat) (z : Int64), o + k = 3 → 100 + k ≤ F → ∃ F', F ≤ F' + k + 1 ∧ g_X8_digest F 1 z (nI o) h = g_X8_digest F' 2 (dSeats S k o z) (Int32.ofInt 0) h := by
  intro k
  induction k with
  | zero =>
    intro o F z ho hF
    obtain ⟨G, rfl⟩ := fuel_s (F := F) (by omega)
    refine ⟨G, by omega, ?_⟩
    have : o = 3 := by omega
    subst this
    rw [g_X8_digest, q10, q11, cond_false, cond_true, if_pos (show Int32.ofInt 3 ≤ nI 3 by decide)]
    rfl
  | succ k ih =>
    intro o F z ho hF
    obtain ⟨G, rfl⟩ := fuel_s (F := F) (by omega)
    have o3 : o < 3 := by omega
    obtain ⟨F', l, e⟩ := ih (o + 1) G (mxz (mxz z (stI (S.st o))) (atV S o)) (by omega) (by omega)
    refine ⟨F', by omega, ?_⟩
    rw [g_X8_digest, q10, q11, cond_false, cond_true, if_neg (show ¬ Int32.ofInt 3 ≤ nI o from nI_ge (a := o) (b := 3) (by omega) (by decide)), hp_vp o3 (by decide), cond_true, nI_clamp (show o < 2 ^ 31 by omega), (X8_tk x).2.1 o o3, wth, b2s, at_8v ok x o3, b2s, wth, b2s, hp_1]
    exact e
theorem wp_l {S : PS} (ok : PSok S) {h : am_H} {c sl : Nat} (x : X8 h S c sl) {p : Nat} (hp : p < 6) (a1 : Int64) (F : Nat) (hF : 5 ≤ F) : ∀ (k i : Nat) (z : Int64), i + k = ps_sz (S.s.2 p) → g_X8_withPost (F + k + 1) 0 a1 (nI p) z (nI (ps_sz (S.s.2 p))) (nI i) h = some (mxF (fun i => tLy S.s p (nI i)) k i z, h) := by
  have z3 := sz_3 (S.s.2 p)
  intro k
  induction k with
  | zero =>
    intro i z hi
    rw [g_X8_withPost, if_pos (nI_le (by omega) (by omega))]
    rfl
  | succ k ih =>
    intro i z hi
    have lg := lg_8 (F + k + 1 - 5) (PS_all ok).1 (X8_tk x).1.1 (PS_sk ok).1 hp (nI i)
    rw [show F + k + 1 - 5 + 5 = F + k + 1 from by omega] at lg
    rw [show F + (k + 1) + 1 = (F + k + 1) + 1 from rfl, g_X8_withPost, if_neg (nI_ge (a := i) (b := ps_sz (S.s.2 p)) (by omega) (by omega)), (X8_tk x).1.2.2, lg, b2s, wth, b2s, hp_1]
    exact ih (i + 1) _ (by omega)
theorem wp_8 {S : PS} (ok : PSok S) {h : am_H} {c sl : Nat} (x : X8 h S c sl) {p : Nat} (hp : p < 6) (z : Int64) (F : Nat) (hF : 20 ≤ F) : f_X8_withPost F z (nI p) h = some (dPost S p z, h) := by
  have z3 := sz_3 (S.s.2 p)
  have w := wp_l ok x hp z (F - ps_sz (S.s.2 p) - 1) (by omega) (ps_sz (S.s.2 p)) 0 (mxz z (nI (S.k p))) (by omega)
  rw [show F - ps_sz (S.s.2 p) - 1 + ps_sz (S.s.2 p) + 1 = F from by omega] at w
  unfold f_X8_withPost
  rw [hp_vp hp (by decide), cond_true, nI_clamp (show p < 2 ^ 31 by omega), show am_I h 29 p = nI (S.k p) from (X8_tk x).1.1.2.1 p hp, wth, b2s, (X8_tk x).1.2.2, li_8 (PS_all ok).1 (X8_tk x).1.1 (PS_sk ok).1 hp, b2s]
  exact w
theorem dg8_p {S : PS} (ok : PSok S) {h : am_H} {c sl : Nat} (x : X8 h S c sl) : ∀ (k p F : Nat) (z : Int64), p + k = 6 → 100 + k ≤ F → ∃ F', F ≤ F' + k ∧ g_X8_digest F 2 z (nI p) h = g_X8_digest F' 2 (dPosts S k p z) (nI 6) h := by
  intro k
  induction k with
  | zero =>
    intro p F z hp hF
    have : p = 6 := by omega
    subst this
    exact ⟨F, by omega, rfl⟩
  | succ k ih =>
    intro p F z hp hF
    obtain ⟨G, rfl⟩ := fuel_s (F := F) (by omega)
    obtain ⟨F', l, e⟩ := ih (p + 1) G (dPost S p z) (by omega) (by omega)
    refine ⟨F', by omega, ?_⟩
    rw [g_X8_digest, q20, q21, q22, cond_false, cond_false, cond_true, if_neg (show ¬ Int32.ofInt 6 ≤ nI p from nI_ge (a := p) (b := 6) (by omega) (by decide)), wp_8 ok x (by omega) z G (by omega), b2s, hp_1]
    exact e
theorem dg8_m {S : PS} (ok : PSok S) {h : am_H} {c sl : Nat} (x : X8 h S c sl) (F : Nat) (z : Int64) (hF : 500000100 ≤ F) : ∃ F' h' c1 z1, F ≤ F' + 1 ∧ g_X8_digest F 2 z (nI 6) h = am_cost c1 z1 (g_X8_digest F' 3 (dMid S z) (Int32.ofInt 0) h') ∧ X8 h' S (c + c1) (sl + z1) ∧ same9 h h' := by
  obtain ⟨G, rfl⟩ := fuel_s (F := F) (by omega)
  obtain ⟨h1, e1, l1, x1, f1, len⟩ := li_8F ok x G (by omega)
  obtain ⟨h2, c1, z1, cap, qs, qn, e2, x2, d2, s2⟩ := X8_Q (h' := h1) x1 G (by omega) ok
  have em : f_X8_met G h1 = some ((metV S, h2), c1, z1) := by
    unfold f_X8_met
    rw [e2, bcs, q37, cond_true, me_8 d2, cts]
    rfl
  refine ⟨G, h2, c1, z1, by omega, ?_, x2, same9_t (frY_9 f1) s2⟩
  rw [g_X8_digest, q20, q21, q22, cond_false, cond_false, cond_true, if_pos (show Int32.ofInt 6 ≤ nI 6 by decide), show am_I h 28 0 = nI S.rm from (X8_tk x).1.1.1, wth, b2s, e1, b2s, wth, b2s, em, bcs, wth, b2s]
  rfl
theorem dg8_t {S : PS} (ok : PSok S) {h : am_H} {c sl : Nat} (x : X8 h S c sl) : ∀ (k i F : Nat) (z : Int64), i + k = S.m → 100 + k ≤ F → ∃ F', F ≤ F' + k + 1 ∧ g_X8_digest F 3 z (nI i) h = g_X8_digest F' 4 (mxF S.tx k i z) (Int32.ofInt 0) h := by
  have m60 := ok.1
  have t := X8_tx x
  intro k
  induction k with
  | zero =>
    intro i F z hi hF
    obtain ⟨G, rfl⟩ := fuel_s (F := F) (by omega)
    refine ⟨G, by omega, ?_⟩
    rw [g_X8_digest, q30, q31, q32, q33, cond_false, cond_false, cond_false, cond_true, t.2.2.2.1, if_pos (nI_le (by omega) (by omega))]
    rfl
  | succ k ih =>
    intro i F z hi hF
    obtain ⟨G, rfl⟩ := fuel_s (F := F) (by omega)
    obtain ⟨F', l, e⟩ := ih (i + 1) G (mxz z (S.tx i)) (by omega) (by omega)
    refine ⟨F', by omega, ?_⟩
    rw [g_X8_digest, q30, q31, q32, q33, cond_false, cond_false, cond_false, cond_true, t.2.2.2.1, if_neg (nI_ge (a := i) (b := S.m) (by omega) (by omega)), hp_vp (show i < 60 by omega) (by decide), cond_true, nI_clamp (show i < 2 ^ 31 by omega), t.2.2.2.2.1 i (by omega), wth, b2s, hp_1]
    exact e
theorem dg8_n {S : PS} (ok : PSok S) {h : am_H} {c sl : Nat} (x : X8 h S c sl) : ∀ (k i F : Nat) (z : Int64), i + k = 6 → 100 + k ≤ F → g_X8_digest F 4 z (nI i) h = some ((mxF (fun i => ctV S (nI i)) k i z, h), 0, 0) := by
  intro k
  induction k with
  | zero =>
    intro i F z hi hF
    obtain ⟨G, rfl⟩ := fuel_s (F := F) (by omega)
    have : i = 6 := by omega
    subst this
    rw [g_X8_digest, q40, q41, q42, q43, cond_false, cond_false, cond_false, cond_false, if_pos (show Int32.ofInt 5 < nI 6 by decide)]
    rfl
  | succ k ih =>
    intro i F z hi hF
    obtain ⟨G, rfl⟩ := fuel_s (F := F) (by omega)
    have c8 := ct_8 ok x (nI i) (G - 7)
    rw [show G - 7 + 7 = G from by omega] at c8
    rw [g_X8_digest, q40, q41, q42, q43, cond_false, cond_false, cond_false, cond_false, if_neg (show ¬ Int32.ofInt 5 < nI i from fun e => by have := (nI_ltI (a := 5) (b := i) (by decide) (by omega)).mp e; omega), c8, b2s, wth, b2s, hp_1]
    exact ih (i + 1) G _ (by omega) (by omega)
theorem dg_8 {S : PS} (ok : PSok S) {h : am_H} {c sl : Nat} (x : X8 h S c sl) (F : Nat) (hF : 100000010000 ≤ F) : ∃ h' c1 z1, f_X8_digest F h = some ((dAll S, h'), c1, z1) ∧ X8 h' S (c + c1) (sl + z1) ∧ same9 h h' := by
  have nb8 := ok.2.1
  have m60 := ok.1
  obtain ⟨F1, h1, c1, z1, l1, e1, x1, s1⟩ := dg8_b ok S.nb 0 F c sl h (307 : Int64) (by omega) (by omega) x
  obtain ⟨F2, l2, e2⟩ := dg8_s ok x1 3 0 F1 (dBooks S S.nb 0 (307 : Int64)) (by omega) (by omega)
  obtain ⟨F3, l3, e3⟩ := dg8_p ok x1 6 0 F2 (dSeats S 3 0 (dBooks S S.nb 0 (307 : Int64))) (by omega) (by omega)
  obtain ⟨F4, h4, c4, z4, l4, e4, x4, s4⟩ := dg8_m ok x1 F3 (dPosts S 6 0 (dSeats S 3 0 (dBooks S S.nb 0 (307 : Int64)))) (by omega)
  obtain ⟨F5, l5, e5⟩ := dg8_t ok x4 S.m 0 F4 (dMid S (dPosts S 6 0 (dSeats S 3 0 (dBooks S S.nb 0 (307 : Int64))))) (by omega) (by omega)
  have e6 := dg8_n ok x4 6 0 F5 (mxF S.tx S.m 0 (dMid S (dPosts S 6 0 (dSeats S 3 0 (dBooks S S.nb 0 (307 : Int64)))))) (by omega) (by omega)
  refine ⟨h4, c1 + c4, z1 + z4, ?_, by rw [← Nat.add_assoc, ← Nat.add_assoc]; exact x4, same9_t s1 s4⟩
  have e23 : g_X8_digest F1 1 (dBooks S S.nb 0 (307 : Int64)) (Int32.ofInt 0) h1 = am_cost c4 z4 (some ((dAll S, h4), 0, 0)) := by
    refine e2.trans (e3.trans (e4.trans ?_))
    rw [show g_X8_digest F4 3 (dMid S (dPosts S 6 0 (dSeats S 3 0 (dBooks S S.nb 0 (307 : Int64))))) (Int32.ofInt 0) h4 = some ((dAll S, h4), 0, 0) from e5.trans e6]
  refine (show f_X8_digest F h = _ from e1).trans ?_
  rw [e23, cst_cst, cts]
  rfl
theorem cl_30 {h : am_H} {c sl : Nat} (J : JJ h c sl) : am_stat h ∧ po_30 JJ h c sl := by
  obtain ⟨S, ok, x8, x9⟩ := J
  obtain ⟨F, hF⟩ := big_F
  obtain ⟨h1, c1, z1, e1, x81, s1⟩ := dg_8 ok x8 F (by omega)
  have x91 := X9_loc x9 (X8_st x81) s1
  obtain ⟨h2, e2, x92, s2⟩ := dg_9 ok x91 F (by omega)
  exact ⟨X8_st x8, F, F, dAll S, h1, h2, c1, z1, e1, e2, JJ_of ok x81 s2 x92⟩
