/-! ===== digest: the reference ===== -/
def mxz (z : Int64) (v : Int32) : Int64 := ((31 : Int64) * z) + Int32.toInt64 v
def mxF (f : Nat → Int32) : Nat → Nat → Int64 → Int64
  | 0, _, z => z
  | k + 1, i, z => mxF f k (i + 1) (mxz z (f i))
noncomputable def dBook (S : PS) (b : Nat) (z : Int64) : Int64 := mxF (S.bf b) (S.bn b + 1) 0 (mxF (fun i => nI (S.bc b i)) (S.bn b) 1 (mxF (abV S b) 4 0 z))
noncomputable def dBooks (S : PS) : Nat → Nat → Int64 → Int64
  | 0, _, z => z
  | k + 1, b, z => dBooks S k (b + 1) (dBook S b z)
def atV (S : PS) (o : Nat) : Int32 := match S.st o with
  | some _ => nI (S.s.1 o)
  | none => Int32.ofInt (-1)
def dSeats (S : PS) : Nat → Nat → Int64 → Int64
  | 0, _, z => z
  | k + 1, o, z => dSeats S k (o + 1) (mxz (mxz z (stI (S.st o))) (atV S o))
def dPost (S : PS) (p : Nat) (z : Int64) : Int64 := mxF (fun i => tLy S.s p (nI i)) (ps_sz (S.s.2 p)) 0 (mxz z (nI (S.k p)))
def dPosts (S : PS) : Nat → Nat → Int64 → Int64
  | 0, _, z => z
  | k + 1, p, z => dPosts S k (p + 1) (dPost S p z)
noncomputable def metV (S : PS) : Int32 := bif (svAll S.r).sp then Int32.ofInt (-2) else nI (svAll S.r).n
noncomputable def dMid (S : PS) (z : Int64) : Int64 := mxz (mxz (mxz z (nI S.rm)) (nI (ts_all S.r S.s).length)) (metV S)
noncomputable def dEnd (S : PS) (z : Int64) : Int64 := mxF (fun i => ctV S (nI i)) 6 0 (mxF S.tx S.m 0 z)
noncomputable def dAll (S : PS) : Int64 := dEnd S (dMid S (dPosts S 6 0 (dSeats S 3 0 (dBooks S S.nb 0 (307 : Int64)))))
/-- the reference has mixed up to z -/
def DR (S : PS) (h0 h : am_H) (z : Int64) : Prop := X9p h S ∧ am_J h 51 57 = z ∧ same8 h0 h
theorem X9_mix {h : am_H} {S : PS} (x : X9p h S) (z : Int64) : X9p (am_sJ h 51 57 z) S ∧ same8 h (am_sJ h 51 57 z) := by
  obtain ⟨st, y, k, c⟩ := x
  have sm : same8 h (am_sJ h 51 57 z) := ⟨rfl, rfl, rfl, fun p hp => ⟨rfl, hp_J' _ _ _ (by omega)⟩⟩
  exact ⟨⟨stat_8 st sm, Y9_c y (fun _ _ => rfl) (fun _ _ _ => rfl), K9_c k (fun _ _ => rfl) (fun _ _ => rfl), C9_c c (fun _ _ _ => rfl) (fun _ _ _ => rfl) (hp_J' _ _ _ (by decide))⟩, sm⟩
theorem DR_mix {S : PS} {h0 h : am_H} {z : Int64} (d : DR S h0 h z) (v : Int64) : ∃ h', f_X9_mix v h = some ((), h') ∧ DR S h0 h' (((31 : Int64) * z) + v) ∧ am_I h' = am_I h := by
  obtain ⟨x, j, s⟩ := d
  obtain ⟨x', s'⟩ := X9_mix x (((31 : Int64) * z) + v)
  refine ⟨am_sJ h 51 57 (((31 : Int64) * z) + v), ?_, ⟨x', by rw [hp_J, updL_at], same8_t s s'⟩, rfl⟩
  unfold f_X9_mix; rw [j]
theorem DR_K {S : PS} {h0 h h' : am_H} {z : Int64} (d : DR S h0 h z) (f : frKx h h') : DR S h0 h' z := ⟨X9_K d.1 f, by rw [f.2.1]; exact d.2.1, same8_t d.2.2 (same8_K f)⟩
theorem fuel_s {F : Nat} (h : 1 ≤ F) : ∃ G, F = G + 1 := ⟨F - 1, by omega⟩
/-- about a book -/
theorem dg9_a {S : PS} (ok : PSok S) {h0 : am_H} {b : Nat} (hb : b < S.nb) : ∀ (k i F : Nat) (h : am_H) (z : Int64), i + k = 4 → 100000000100 + k ≤ F → DR S h0 h z → ∃ F' h', F ≤ F' + 5 - i ∧ g_X9_digest F 1 (nI b) (nI i) h = g_X9_digest F' 2 (nI b) (Int32.ofInt 1) h' ∧ DR S h0 h' (mxF (abV S b) k i z) := by
  intro k
  induction k with
  | zero =>
    intro i F h z hi hF d
    obtain ⟨G, rfl⟩ := fuel_s (F := F) (by omega)
    refine ⟨G, h, by omega, ?_, d⟩
    have : i = 4 := by omega
    subst this
    rw [g_X9_digest, q10, q11, cond_false, cond_true, if_pos (show Int32.ofInt 4 ≤ nI 4 by decide)]
  | succ k ih =>
    intro i F h z hi hF d
    obtain ⟨G, rfl⟩ := fuel_s (F := F) (by omega)
    obtain ⟨h1, e1, f1⟩ := abo_9 ok d.1 hb (w := i) (by omega) G (by omega)
    obtain ⟨h2, e2, d2, -⟩ := DR_mix (DR_K d f1) (Int32.toInt64 (abV S b i))
    obtain ⟨F', h', l, e3, d3⟩ := ih (i + 1) G h2 _ (by omega) (by omega) d2
    refine ⟨F', h', by omega, ?_, d3⟩
    rw [g_X9_digest, q10, q11, cond_false, cond_true, if_neg (show ¬ Int32.ofInt 4 ≤ nI i from nI_ge (a := i) (b := 4) (by omega) (by decide)), e1, b2s, e2, b2s, hp_1]
    exact e3
theorem q22 : Nat.beq 2 2 = true := rfl
theorem q30 : Nat.beq 3 0 = false := rfl
theorem q31 : Nat.beq 3 1 = false := rfl
theorem q32 : Nat.beq 3 2 = false := rfl
theorem q33 : Nat.beq 3 3 = true := rfl
/-- codes of a book -/
theorem dg9_c {S : PS} (ok : PSok S) {h0 : am_H} {b : Nat} (hb : b < S.nb) : ∀ (k i F : Nat) (h : am_H) (z : Int64), 1 ≤ i → i + k = S.bn b + 1 → 100 + k ≤ F → DR S h0 h z → ∃ F' h', F ≤ F' + k + 1 ∧ g_X9_digest F 2 (nI b) (nI i) h = g_X9_digest F' 3 (nI b) (Int32.ofInt 0) h' ∧ DR S h0 h' (mxF (fun i => nI (S.bc b i)) k i z) := by
  have b8 : b < 8 := by have := ok.2.1; omega
  have n15 := (ok.2.2.1 b hb).1
  intro k
  induction k with
  | zero =>
    intro i F h z i1 hi hF d
    obtain ⟨G, rfl⟩ := fuel_s (F := F) (by omega)
    refine ⟨G, h, by omega, ?_, d⟩
    obtain ⟨y1, y2, y3⟩ := d.1.2.1.2.1.2 b hb
    rw [g_X9_digest, q20, q21, q22, cond_false, cond_false, cond_true, hp_vp b8 (by decide), cond_true, nI_clamp (show b < 2 ^ 31 by omega), y1, if_pos ((nI_ltI (a := S.bn b) (b := i) (by omega) (by omega)).mpr (by omega))]
  | succ k ih =>
    intro i F h z i1 hi hF d
    obtain ⟨G, rfl⟩ := fuel_s (F := F) (by omega)
    obtain ⟨y1, y2, y3⟩ := d.1.2.1.2.1.2 b hb
    obtain ⟨h2, e2, d2, -⟩ := DR_mix d (Int32.toInt64 (nI (S.bc b i)))
    obtain ⟨F', h', l, e3, d3⟩ := ih (i + 1) G h2 _ (by omega) (by omega) (by omega) d2
    refine ⟨F', h', by omega, ?_, d3⟩
    rw [g_X9_digest, q20, q21, q22, cond_false, cond_false, cond_true, hp_vp b8 (by decide), cond_true, nI_clamp (show b < 2 ^ 31 by omega), y1, if_neg (fun e => by have := (nI_ltI (a := S.bn b) (b := i) (by omega) (by omega)).mp e; omega), g9_ix, hp_vp (show 16 * b + i < 128 by omega) (by decide), cond_true, nI_clamp (show 16 * b + i < 2 ^ 31 by omega), y2 i i1 (by omega), e2, b2s, hp_1]
    exact e3
/-- what follows in a book -/
theorem dg9_f {S : PS} (ok : PSok S) {h0 : am_H} {b : Nat} (hb : b < S.nb) : ∀ (k i F : Nat) (h : am_H) (z : Int64), i + k = S.bn b + 1 → 100 + k ≤ F → DR S h0 h z → ∃ F' h', F ≤ F' + k + 1 ∧ g_X9_digest F 3 (nI b) (nI i) h = g_X9_digest F' 0 (nI (b + 1)) 0 h' ∧ DR S h0 h' (mxF (S.bf b) k i z) := by
  have b8 : b < 8 := by have := ok.2.1; omega
  have n15 := (ok.2.2.1 b hb).1
  intro k
  induction k with
  | zero =>
    intro i F h z hi hF d
    obtain ⟨G, rfl⟩ := fuel_s (F := F) (by omega)
    refine ⟨G, h, by omega, ?_, d⟩
    obtain ⟨y1, y2, y3⟩ := d.1.2.1.2.1.2 b hb
    rw [g_X9_digest, q30, q31, q32, q33, cond_false, cond_false, cond_false, cond_true, hp_vp b8 (by decide), cond_true, nI_clamp (show b < 2 ^ 31 by omega), y1, if_pos ((nI_ltI (a := S.bn b) (b := i) (by omega) (by omega)).mpr (by omega)), hp_1]
  | succ k ih =>
    intro i F h z hi hF d
    obtain ⟨G, rfl⟩ := fuel_s (F := F) (by omega)
    obtain ⟨y1, y2, y3⟩ := d.1.2.1.2.1.2 b hb
    obtain ⟨h2, e2, d2, -⟩ := DR_mix d (Int32.toInt64 (S.bf b i))
    obtain ⟨F', h', l, e3, d3⟩ := ih (i + 1) G h2 _ (by omega) (by omega) d2
    refine ⟨F', h', by omega, ?_, d3⟩
    rw [g_X9_digest, q30, q31, q32, q33, cond_false, cond_false, cond_false, cond_true, hp_vp b8 (by decide), cond_true, nI_clamp (show b < 2 ^ 31 by omega), y1, if_neg (fun e => by have := (nI_ltI (a := S.bn b) (b := i) (by omega) (by omega)).mp e; omega), g9_ix, hp_vp (show 16 * b + i < 128 by omega) (by decide), cond_true, nI_clamp (show 16 * b + i < 2 ^ 31 by omega), y3 i (by omega), e2, b2s, hp_1]
    exact e3
theorem dg9_b {S : PS} (ok : PSok S) {h0 : am_H} : ∀ (k b F : Nat) (h : am_H) (z : Int64), b + k = S.nb → 100000001000 + 50 * k ≤ F → DR S h0 h z → ∃ F' h', F ≤ F' + 50 * k + 1 ∧ g_X9_digest F 0 (nI b) 0 h = g_X9_digest F' 4 (Int32.ofInt 0) 0 h' ∧ DR S h0 h' (dBooks S k b z) := by
  have nb8 := ok.2.1
  intro k
  induction k with
  | zero =>
    intro b F h z hb hF d
    obtain ⟨G, rfl⟩ := fuel_s (F := F) (by omega)
    refine ⟨G, h, by omega, ?_, d⟩
    rw [g_X9_digest, q00, cond_true, d.1.2.1.2.1.1, if_pos (nI_le (by omega) (by omega))]
  | succ k ih =>
    intro b F h z hb hF d
    obtain ⟨G, rfl⟩ := fuel_s (F := F) (by omega)
    have bl : b < S.nb := by omega
    have n15 := (ok.2.2.1 b bl).1
    obtain ⟨F1, h1, l1, e1, d1⟩ := dg9_a ok bl 4 0 G h z (by omega) (by omega) d
    obtain ⟨F2, h2, l2, e2, d2⟩ := dg9_c ok bl (S.bn b) 1 F1 h1 _ (by omega) (by omega) (by omega) d1
    obtain ⟨F3, h3, l3, e3, d3⟩ := dg9_f ok bl (S.bn b + 1) 0 F2 h2 _ (by omega) (by omega) d2
    obtain ⟨F4, h4, l4, e4, d4⟩ := ih (b + 1) F3 h3 _ (by omega) (by omega) d3
    refine ⟨F4, h4, by omega, ?_, d4⟩
    rw [g_X9_digest, q00, cond_true, d.1.2.1.2.1.1, if_neg (nI_ge (a := b) (b := S.nb) (by omega) (by omega))]
    exact e1.trans (e2.trans (e3.trans e4))
theorem q40 : Nat.beq 4 0 = false := rfl
theorem q41 : Nat.beq 4 1 = false := rfl
theorem q42 : Nat.beq 4 2 = false := rfl
theorem q43 : Nat.beq 4 3 = false := rfl
theorem q44 : Nat.beq 4 4 = true := rfl
theorem dg9_s {S : PS} (ok : PSok S) {h0 : am_H} : ∀ (k o F : Nat) (h : am_H) (z : Int64), o + k = 3 → 100 + k ≤ F → DR S h0 h z → ∃ F' h', F ≤ F' + k + 1 ∧ g_X9_digest F 4 (nI o) 0 h = g_X9_digest F' 5 (Int32.ofInt 0) 0 h' ∧ DR S h0 h' (dSeats S k o z) := by
  intro k
  induction k with
  | zero =>
    intro o F h z ho hF d
    obtain ⟨G, rfl⟩ := fuel_s (F := F) (by omega)
    refine ⟨G, h, by omega, ?_, d⟩
    have : o = 3 := by omega
    subst this
    rw [g_X9_digest, q40, q41, q42, q43, q44, cond_false, cond_false, cond_false, cond_false, cond_true, if_pos (show Int32.ofInt 3 ≤ nI 3 by decide)]
  | succ k ih =>
    intro o F h z ho hF d
    obtain ⟨G, rfl⟩ := fuel_s (F := F) (by omega)
    have o3 : o < 3 := by omega
    have e69 := d.1.2.2.1.1.2.2.2 o o3
    have e88 := d.1.2.2.1.1.2.2.1 o o3
    obtain ⟨h1, e1, d1, i1⟩ := DR_mix d (Int32.toInt64 (stI (S.st o)))
    obtain ⟨h2, e2, d2, -⟩ := DR_mix d1 (Int32.toInt64 (atV S o))
    obtain ⟨F', h', l, e3, d3⟩ := ih (o + 1) G h2 _ (by omega) (by omega) d2
    refine ⟨F', h', by omega, ?_, d3⟩
    have y : (if stI (S.st o) = Int32.ofInt (-1) then some (-1 : Int64) else some (Int32.toInt64 (nI (S.s.1 o)))) = some (Int32.toInt64 (atV S o)) := by
      unfold atV
      rcases ok.2.2.2.2.2.1 o o3 with q | ⟨b, hb, q, -⟩
      · rw [q, if_pos (show stI none = Int32.ofInt (-1) from rfl)]; rfl
      · have := ok.2.1
        rw [q, if_neg (show ¬ stI (some b) = Int32.ofInt (-1) from nI_m1ne (by omega))]
    rw [g_X9_digest, q40, q41, q42, q43, q44, cond_false, cond_false, cond_false, cond_false, cond_true, if_neg (show ¬ Int32.ofInt 3 ≤ nI o from nI_ge (a := o) (b := 3) (by omega) (by decide)), hp_vp o3 (by decide), cond_true, nI_clamp (show o < 2 ^ 31 by omega), e69, e1, b2s, i1, e69, e88, y, b_some, e2, b2s, hp_1]
    exact e3
theorem q50 : Nat.beq 5 0 = false := rfl
theorem q51 : Nat.beq 5 1 = false := rfl
theorem q52 : Nat.beq 5 2 = false := rfl
theorem q53 : Nat.beq 5 3 = false := rfl
theorem q54 : Nat.beq 5 4 = false := rfl
theorem q55 : Nat.beq 5 5 = true := rfl
theorem q60 : Nat.beq 6 0 = false := rfl
theorem q61 : Nat.beq 6 1 = false := rfl
theorem q62 : Nat.beq 6 2 = false := rfl
theorem q63 : Nat.beq 6 3 = false := rfl
theorem q64 : Nat.beq 6 4 = false := rfl
theorem q65 : Nat.beq 6 5 = false := rfl
theorem q66 : Nat.beq 6 6 = true := rfl
theorem dg9_skip {q : Nat} (hq : q = 0 ∨ q = 4 ∨ q = 8) (G : Nat) (h : am_H) : g_X9_digest (G + 1) 5 (nI q) 0 h = g_X9_digest G 5 (nI (q + 1)) 0 h := by
  rw [g_X9_digest, q50, q51, q52, q53, q54, q55, cond_false, cond_false, cond_false, cond_false, cond_false, cond_true]
  have a : ¬ Int32.ofInt 9 ≤ nI q := nI_ge (a := q) (b := 9) (by omega) (by decide)
  have b : (nI q - nI q / (Int32.ofInt 4) * (Int32.ofInt 4)) = 0 := by rcases hq with rfl | rfl | rfl <;> decide
  rw [if_neg a, if_pos b, hp_1]
theorem lt_tLy {h : am_H} {S : PS} (ok : PSok S) (x : X9p h S) {f t : Nat} (hf : f < 3) (ht : t < 3) (ne : f ≠ t) {i : Nat} (hi : i < ps_sz (S.s.2 (pn f t))) : nI (ps_lt (S.s.2 (pn f t)) i) - Int32.ofInt 1 = tLy S.s (pn f t) (nI i) := by
  have z3 := sz_3 (S.s.2 (pn f t))
  have c125 : S.s.2 (pn f t) < 125 := ps_lt125 ((PS_sk ok).1.2 _ (pn_lt hf ht ne))
  have z := lg_9 (PS_all ok).1 (PS_sk ok).1 (X9_U ok x).1 hf ht ne (nI i)
  rw [ix_9, hp_vp (show 3 * f + t < 9 by omega) (by decide), cond_true, nI_clamp (show 3 * f + t < 2 ^ 31 by omega), (x.2.2.1.1.2.1 f t hf ht ne).2, sz9 c125, b2s, wi_t (show ¬ nI i < Int32.ofInt 0 from nI_pos (by omega)) (by rw [nI_m1 (by omega), nI_ltI (by omega) (by omega)]; omega), b2s, if_neg (show ¬ bI true = 0 by decide), lt9 c125 (by omega), b2s, b2s] at z
  exact congrArg Prod.fst (Option.some.inj z)
theorem dg9_l {S : PS} (ok : PSok S) {h0 : am_H} {f t : Nat} (hf : f < 3) (ht : t < 3) (ne : f ≠ t) : ∀ (k i F : Nat) (h : am_H) (z : Int64), i + k = ps_sz (S.s.2 (pn f t)) → 100 + k ≤ F → DR S h0 h z → ∃ F' h', F ≤ F' + k + 1 ∧ g_X9_digest F 6 (nI (3 * f + t)) (nI i) h = g_X9_digest F' 5 (nI (3 * f + t + 1)) 0 h' ∧ DR S h0 h' (mxF (fun i => tLy S.s (pn f t) (nI i)) k i z) := by
  have z3 := sz_3 (S.s.2 (pn f t))
  have c125 : S.s.2 (pn f t) < 125 := ps_lt125 ((PS_sk ok).1.2 _ (pn_lt hf ht ne))
  intro k
  induction k with
  | zero =>
    intro i F h z hi hF d
    obtain ⟨G, rfl⟩ := fuel_s (F := F) (by omega)
    refine ⟨G, h, by omega, ?_, d⟩
    rw [g_X9_digest, q60, q61, q62, q63, q64, q65, q66, cond_false, cond_false, cond_false, cond_false, cond_false, cond_false, cond_true, hp_vp (show 3 * f + t < 9 by omega) (by decide), cond_true, nI_clamp (show 3 * f + t < 2 ^ 31 by omega), (d.1.2.2.1.1.2.1 f t hf ht ne).2, sz9 c125, b2s, if_pos (nI_le (by omega) (by omega)), hp_1]
  | succ k ih =>
    intro i F h z hi hF d
    obtain ⟨G, rfl⟩ := fuel_s (F := F) (by omega)
    have et := lt_tLy ok d.1 hf ht ne (i := i) (by omega)
    obtain ⟨h2, e2, d2, -⟩ := DR_mix d (Int32.toInt64 (tLy S.s (pn f t) (nI i)))
    obtain ⟨F', h', l, e3, d3⟩ := ih (i + 1) G h2 _ (by omega) (by omega) d2
    refine ⟨F', h', by omega, ?_, d3⟩
    rw [g_X9_digest, q60, q61, q62, q63, q64, q65, q66, cond_false, cond_false, cond_false, cond_false, cond_false, cond_false, cond_true, hp_vp (show 3 * f + t < 9 by omega) (by decide), cond_true, nI_clamp (show 3 * f + t < 2 ^ 31 by omega), (d.1.2.2.1.1.2.1 f t hf ht ne).2, sz9 c125, b2s, if_neg (nI_ge (a := i) (b := ps_sz (S.s.2 (pn f t))) (by omega) (by omega)), (d.1.2.2.1.1.2.1 f t hf ht ne).2, lt9 c125 (by omega), b2s, et, e2, b2s, hp_1]
    exact e3
theorem dg9_p {S : PS} (ok : PSok S) {h0 : am_H} {f t : Nat} (hf : f < 3) (ht : t < 3) (ne : f ≠ t) (F : Nat) (h : am_H) (z : Int64) (hF : 200 ≤ F) (d : DR S h0 h z) : ∃ F' h', F ≤ F' + 5 ∧ g_X9_digest F 5 (nI (3 * f + t)) 0 h = g_X9_digest F' 5 (nI (3 * f + t + 1)) 0 h' ∧ DR S h0 h' (dPost S (pn f t) z) := by
  obtain ⟨G, rfl⟩ := fuel_s (F := F) (by omega)
  have z3 := sz_3 (S.s.2 (pn f t))
  obtain ⟨h2, e2, d2, -⟩ := DR_mix d (Int32.toInt64 (nI (S.k (pn f t))))
  obtain ⟨F', h', l, e3, d3⟩ := dg9_l ok hf ht ne (ps_sz (S.s.2 (pn f t))) 0 G h2 _ (by omega) (by omega) d2
  refine ⟨F', h', by omega, ?_, d3⟩
  have b : ¬ (nI (3 * f + t) - nI (3 * f + t) / (Int32.ofInt 4) * (Int32.ofInt 4)) = 0 := by
    have cc : (f = 0 ∧ t = 1) ∨ (f = 0 ∧ t = 2) ∨ (f = 1 ∧ t = 0) ∨ (f = 1 ∧ t = 2) ∨ (f = 2 ∧ t = 0) ∨ (f = 2 ∧ t = 1) := by omega
    rcases cc with ⟨rfl, rfl⟩ | ⟨rfl, rfl⟩ | ⟨rfl, rfl⟩ | ⟨rfl, rfl⟩ | ⟨rfl, rfl⟩ | ⟨rfl, rfl⟩ <;> decide
  rw [g_X9_digest, q50, q51, q52, q53, q54, q55, cond_false, cond_false, cond_false, cond_false, cond_false, cond_true, if_neg (show ¬ Int32.ofInt 9 ≤ nI (3 * f + t) from nI_ge (a := 3 * f + t) (b := 9) (by omega) (by decide)), if_neg b, hp_vp (show 3 * f + t < 9 by omega) (by decide), cond_true, nI_clamp (show 3 * f + t < 2 ^ 31 by omega), (d.1.2.2.1.1.2.1 f t hf ht ne).1, e2, b2s]
  exact e3
theorem dg9_ps {S : PS} (ok : PSok S) {h0 : am_H} (F : Nat) (h : am_H) (z : Int64) (hF : 1000 ≤ F) (d : DR S h0 h z) : ∃ F' h', F ≤ F' + 40 ∧ g_X9_digest F 5 (Int32.ofInt 0) 0 h = g_X9_digest F' 5 (nI 9) 0 h' ∧ DR S h0 h' (dPosts S 6 0 z) := by
  obtain ⟨G, rfl⟩ := fuel_s (F := F) (by omega)
  obtain ⟨F1, h1, l1, e1, d1⟩ := dg9_p ok (f := 0) (t := 1) (by decide) (by decide) (by decide) G h z (by omega) d
  obtain ⟨F2, h2, l2, e2, d2⟩ := dg9_p ok (f := 0) (t := 2) (by decide) (by decide) (by decide) F1 h1 _ (by omega) d1
  obtain ⟨F3, h3, l3, e3, d3⟩ := dg9_p ok (f := 1) (t := 0) (by decide) (by decide) (by decide) F2 h2 _ (by omega) d2
  obtain ⟨G3, g3⟩ := fuel_s (F := F3) (by omega)
  subst g3
  obtain ⟨F4, h4, l4, e4, d4⟩ := dg9_p ok (f := 1) (t := 2) (by decide) (by decide) (by decide) G3 h3 _ (by omega) d3
  obtain ⟨F5, h5, l5, e5, d5⟩ := dg9_p ok (f := 2) (t := 0) (by decide) (by decide) (by decide) F4 h4 _ (by omega) d4
  obtain ⟨F6, h6, l6, e6, d6⟩ := dg9_p ok (f := 2) (t := 1) (by decide) (by decide) (by decide) F5 h5 _ (by omega) d5
  obtain ⟨G6, g6⟩ := fuel_s (F := F6) (by omega)
  subst g6
  refine ⟨G6, h6, by omega, ?_, d6⟩
  have s0 := dg9_skip (q := 0) (by decide) G h
  have s4 := dg9_skip (q := 4) (by decide) G3 h3
  have s8 := dg9_skip (q := 8) (by decide) G6 h6
  exact s0.trans (e1.trans (e2.trans (e3.trans (s4.trans (e4.trans (e5.trans (e6.trans s8)))))))
theorem dg9_m {S : PS} (ok : PSok S) {h0 : am_H} (F : Nat) (h : am_H) (z : Int64) (hF : 1000000 ≤ F) (d : DR S h0 h z) : ∃ F' h', F ≤ F' + 1 ∧ g_X9_digest F 5 (nI 9) 0 h = g_X9_digest F' 7 (Int32.ofInt 0) 0 h' ∧ DR S h0 h' (dMid S z) := by
  obtain ⟨G, rfl⟩ := fuel_s (F := F) (by omega)
  obtain ⟨h1, e1, d1, -⟩ := DR_mix d (Int32.toInt64 (nI S.rm))
  obtain ⟨h2, e2, l2, f2⟩ := l9_list (PS_all ok).1 (PS_sk ok).1 (X9_U ok d1.1).1 G (by omega)
  have d2 : DR S h0 h2 (((31 : Int64) * z) + Int32.toInt64 (nI S.rm)) := ⟨X9_S d1.1 f2, by rw [f2.1.2.2.2]; exact d1.2.1, same8_t d1.2.2 (same8_S f2)⟩
  obtain ⟨h3, e3, d3, -⟩ := DR_mix d2 (Int32.toInt64 (nI (ts_all S.r S.s).length))
  obtain ⟨h4, e4, u4, c4, f4⟩ := ma_all (PS_all ok) (X9_U ok d3.1) d3.1.2.2.2 G (by omega)
  have d4 : DR S h0 h4 (((31 : Int64) * (((31 : Int64) * z) + Int32.toInt64 (nI S.rm))) + Int32.toInt64 (nI (ts_all S.r S.s).length)) := ⟨X9_A d3.1 f4 u4 c4, by rw [f4.2.1 51 (by decide)]; exact d3.2.1, same8_t d3.2.2 (same8_A f4)⟩
  obtain ⟨h5, e5, d5, -⟩ := DR_mix d4 (Int32.toInt64 (metV S))
  have y : (if (am_I h4 51 51) = 0 then some (Int32.toInt64 (am_I h4 51 50)) else some (-2 : Int64)) = some (Int32.toInt64 (metV S)) := by
    unfold metV
    rcases c4.2 with ⟨sp, q⟩ | ⟨sp, q, -⟩
    · rw [q, if_neg (show ¬ nI 1 = 0 by decide), sp]; rfl
    · have q51 : am_I h4 51 51 = nI 0 := by
        exact q.2.1
      have q50 : am_I h4 51 50 = nI (svAll S.r).n := q.1.choose_spec.1
      rw [q51, if_pos (show nI 0 = 0 from rfl), q50, sp]; rfl
  refine ⟨G, h5, by omega, ?_, d5⟩
  rw [g_X9_digest, q50, q51, q52, q53, q54, q55, cond_false, cond_false, cond_false, cond_false, cond_false, cond_true, if_pos (show Int32.ofInt 9 ≤ nI 9 by decide), d.1.2.2.1.1.1, e1, b2s, e2, b2s, l2.1, e3, b2s, e4, b2s, y, b_some, e5, b2s]
theorem q70 : Nat.beq 7 0 = false := rfl
theorem q71 : Nat.beq 7 1 = false := rfl
theorem q72 : Nat.beq 7 2 = false := rfl
theorem q73 : Nat.beq 7 3 = false := rfl
theorem q74 : Nat.beq 7 4 = false := rfl
theorem q75 : Nat.beq 7 5 = false := rfl
theorem q76 : Nat.beq 7 6 = false := rfl
theorem q77 : Nat.beq 7 7 = true := rfl
theorem dg9_t {S : PS} (ok : PSok S) {h0 : am_H} : ∀ (k i F : Nat) (h : am_H) (z : Int64), i + k = S.m → 100 + k ≤ F → DR S h0 h z → ∃ F' h', F ≤ F' + k + 1 ∧ g_X9_digest F 7 (nI i) 0 h = g_X9_digest F' 8 (Int32.ofInt 0) 0 h' ∧ DR S h0 h' (mxF S.tx k i z) := by
  have m60 := ok.1
  intro k
  induction k with
  | zero =>
    intro i F h z hi hF d
    obtain ⟨G, rfl⟩ := fuel_s (F := F) (by omega)
    refine ⟨G, h, by omega, ?_, d⟩
    rw [g_X9_digest, q70, q71, q72, q73, q74, q75, q76, q77, cond_false, cond_false, cond_false, cond_false, cond_false, cond_false, cond_false, cond_true, d.1.2.1.1.1, if_pos (nI_le (by omega) (by omega))]
  | succ k ih =>
    intro i F h z hi hF d
    obtain ⟨G, rfl⟩ := fuel_s (F := F) (by omega)
    obtain ⟨h2, e2, d2, -⟩ := DR_mix d (Int32.toInt64 (S.tx i))
    obtain ⟨F', h', l, e3, d3⟩ := ih (i + 1) G h2 _ (by omega) (by omega) d2
    refine ⟨F', h', by omega, ?_, d3⟩
    rw [g_X9_digest, q70, q71, q72, q73, q74, q75, q76, q77, cond_false, cond_false, cond_false, cond_false, cond_false, cond_false, cond_false, cond_true, d.1.2.1.1.1, if_neg (nI_ge (a := i) (b := S.m) (by omega) (by omega)), hp_vp (show i < 60 by omega) (by decide), cond_true, nI_clamp (show i < 2 ^ 31 by omega), d.1.2.1.1.2 i (by omega), e2, b2s, hp_1]
    exact e3
theorem q80 : Nat.beq 8 0 = false := rfl
theorem q81 : Nat.beq 8 1 = false := rfl
theorem q82 : Nat.beq 8 2 = false := rfl
theorem q83 : Nat.beq 8 3 = false := rfl
theorem q84 : Nat.beq 8 4 = false := rfl
theorem q85 : Nat.beq 8 5 = false := rfl
theorem q86 : Nat.beq 8 6 = false := rfl
theorem q87 : Nat.beq 8 7 = false := rfl
theorem dg9_n {S : PS} (ok : PSok S) {h0 : am_H} : ∀ (k i F : Nat) (h : am_H) (z : Int64), i + k = 6 → 100 + k ≤ F → DR S h0 h z → ∃ h', g_X9_digest F 8 (nI i) 0 h = some (mxF (fun i => ctV S (nI i)) k i z, h') ∧ DR S h0 h' (mxF (fun i => ctV S (nI i)) k i z) := by
  intro k
  induction k with
  | zero =>
    intro i F h z hi hF d
    obtain ⟨G, rfl⟩ := fuel_s (F := F) (by omega)
    refine ⟨h, ?_, d⟩
    have : i = 6 := by omega
    subst this
    rw [g_X9_digest, q80, q81, q82, q83, q84, q85, q86, q87, cond_false, cond_false, cond_false, cond_false, cond_false, cond_false, cond_false, cond_false, if_pos (show Int32.ofInt 6 ≤ nI 6 by decide), d.2.1]
    rfl
  | succ k ih =>
    intro i F h z hi hF d
    obtain ⟨G, rfl⟩ := fuel_s (F := F) (by omega)
    have c9 := ct_9 ok d.1 (nI i) (G - 10)
    rw [show G - 10 + 10 = G from by omega] at c9
    obtain ⟨h2, e2, d2, -⟩ := DR_mix d (Int32.toInt64 (ctV S (nI i)))
    obtain ⟨h', e3, d3⟩ := ih (i + 1) G h2 _ (by omega) (by omega) d2
    refine ⟨h', ?_, d3⟩
    rw [g_X9_digest, q80, q81, q82, q83, q84, q85, q86, q87, cond_false, cond_false, cond_false, cond_false, cond_false, cond_false, cond_false, cond_false, if_neg (show ¬ Int32.ofInt 6 ≤ nI i from nI_ge (a := i) (b := 6) (by omega) (by decide)), c9, b2s, e2, b2s, hp_1]
    exact e3
theorem dg_9 {S : PS} (ok : PSok S) {h : am_H} (x : X9p h S) (F : Nat) (hF : 100000010000 ≤ F) : ∃ h', f_X9_digest F h = some (dAll S, h') ∧ X9p h' S ∧ same8 h h' := by
  obtain ⟨x0, s0⟩ := X9_mix x (307 : Int64)
  have d0 : DR S h (am_sJ h 51 57 (307 : Int64)) (307 : Int64) := ⟨x0, by rw [hp_J, updL_at], s0⟩
  have nb8 := ok.2.1
  have m60 := ok.1
  obtain ⟨F1, h1, l1, e1, d1⟩ := dg9_b ok S.nb 0 F _ _ (by omega) (by omega) d0
  obtain ⟨F2, h2, l2, e2, d2⟩ := dg9_s ok 3 0 F1 h1 _ (by omega) (by omega) d1
  obtain ⟨F3, h3, l3, e3, d3⟩ := dg9_ps ok F2 h2 _ (by omega) d2
  obtain ⟨F4, h4, l4, e4, d4⟩ := dg9_m ok F3 h3 _ (by omega) d3
  obtain ⟨F5, h5, l5, e5, d5⟩ := dg9_t ok S.m 0 F4 h4 _ (by omega) (by omega) d4
  obtain ⟨h6, e6, d6⟩ := dg9_n ok 6 0 F5 h5 _ (by omega) (by omega) d5
  exact ⟨h6, e1.trans (e2.trans (e3.trans (e4.trans (e5.trans e6)))), d6.1, d6.2.2⟩
