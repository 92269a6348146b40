/-! ===== act, follow ===== -/
/-- a book's rows, of the class -/
theorem X8_bk {h : am_H} {S : PS} {c sl : Nat} (x : X8 h S c sl) {b : Nat} (hb : b < S.nb) : ∃ a qc qf lc lf, am_A h 25 b = some a ∧ am_K h a = .inl 0 ∧ am_I h a 0 = nI (S.bn b) ∧ am_A h a 1 = some qc ∧ am_A h a 2 = some qf ∧ (S.bn b < lc ∧ lc ≤ 100 ∧ am_K h qc = .inr (0, lc)) ∧ (S.bn b < lf ∧ lf ≤ 100 ∧ am_K h qf = .inr (0, lf)) ∧ (∀ i, 1 ≤ i → i ≤ S.bn b → am_I h qc i = nI (S.bc b i)) ∧ ∀ j, j ≤ S.bn b → am_I h qf j = S.bf b j := by
  obtain ⟨w, ba, cf, qf0, cc, qc0, c3, a3, b3, st, t, bk, on, tk, rw8, sv, co⟩ := x
  obtain ⟨y1, qc, qf, z1, z2, z3, ⟨y2, y3, y4, y5⟩, ⟨lc, y6⟩, ⟨lf, y7⟩, y8, y9, -⟩ := bk.2.1 b hb
  exact ⟨ba b, qc, qf, lc, lf, y1, y2, y3, y4, y5, y6, y7, y8, y9⟩
theorem cl_8 (a1 a2 : Int32) {h : am_H} {c sl : Nat} (J : JJ h c sl) : am_stat h ∧ po_8 a1 a2 JJ h c sl := by
  obtain ⟨S, ok, x8, x9⟩ := J
  refine ⟨X8_st x8, ?_⟩
  have out : ∀ v, f_X8_act a1 a2 h = some (v, h) → f_X9_act a1 a2 h = some (v, h) → po_8 a1 a2 JJ h c sl := fun v e1 e2 => ⟨v, h, h, e1, e2, JJ_ro ok x8 x9⟩
  have n5 := (X8_n x8).1
  have n2 := x9.2.1.2.1.1
  rcases bk_89 a1 ok.2.1 with ⟨b, hb, rfl, e⟩ | e
  · obtain ⟨a, qc, qf, lc, lf, y1, y2, y3, y4, y5, ⟨l1, l2, l3⟩, -, y8, -⟩ := X8_bk x8 hb
    obtain ⟨z1, z2, -⟩ := x9.2.1.2.1.2 b hb
    have b8 : b < 8 := by have := ok.2.1; omega
    have n15 := (ok.2.2.1 b hb).1
    have vb : am_vp (nI b) 8 = true := hp_vp b8 (by decide)
    have cb : Int32.toNatClampNeg (nI b) = b := nI_clamp (by omega)
    by_cases c1 : a2 < Int32.ofInt 1
    · refine out (Int32.ofInt (-101)) ?_ ?_
      · unfold f_X8_act
        rw [(e h).1 n5, b2s, if_neg (show ¬ bI true = 0 by decide), if_pos c1]
      · unfold f_X9_act
        rw [(e h).2 n2, b2s, if_neg (show ¬ bI true = 0 by decide), vb, cond_true, wi_f (Or.inl c1), b2s, if_pos (show bI false = 0 from rfl), b2s]
    · have nn : ¬ a2 < 0 := fun q => c1 (Int32.lt_trans q (by decide))
      obtain ⟨i, hi31, rfl⟩ := i32_nn nn
      have i1 : 1 ≤ i := Classical.byContradiction (fun q => c1 ((nI_ltI (a := i) (b := 1) hi31 (by decide)).mpr (by omega)))
      by_cases c2 : i ≤ S.bn b
      · refine out (nI (S.bc b i)) ?_ ?_
        · unfold f_X8_act
          rw [(e h).1 n5, b2s, if_neg (show ¬ bI true = 0 by decide), if_neg c1, vb, cond_true, cb, y1, b_some, hp_isO y2, cond_true, y3, if_pos (nI_le c2 (by omega)), b_some, hp_isO y2, cond_true, y4, b_some, hp_ln l3, b_some, hp_vp (show i < lc by omega) (by omega), cond_true, nI_clamp (show i < 2 ^ 31 by omega), y8 i i1 c2]
        · unfold f_X9_act
          rw [(e h).2 n2, b2s, if_neg (show ¬ bI true = 0 by decide), vb, cond_true, cb, z1, wi_t c1 (fun q => by have := (nI_ltI (a := S.bn b) (b := i) (by omega) hi31).mp q; omega), b2s, if_neg (show ¬ bI true = 0 by decide), g9_ix, hp_vp (show 16 * b + i < 128 by omega) (by decide), cond_true, nI_clamp (show 16 * b + i < 2 ^ 31 by omega), z2 i i1 c2, b2s]
      · refine out (Int32.ofInt (-101)) ?_ ?_
        · unfold f_X8_act
          rw [(e h).1 n5, b2s, if_neg (show ¬ bI true = 0 by decide), if_neg c1, vb, cond_true, cb, y1, b_some, hp_isO y2, cond_true, y3, if_neg (nI_ge (a := S.bn b) (b := i) (by omega) hi31)]
        · unfold f_X9_act
          rw [(e h).2 n2, b2s, if_neg (show ¬ bI true = 0 by decide), vb, cond_true, cb, z1, wi_f (Or.inr ((nI_ltI (a := S.bn b) (b := i) (by omega) hi31).mpr (by omega))), b2s, if_pos (show bI false = 0 from rfl), b2s]
  · refine out (Int32.ofInt (-101)) ?_ ?_
    · unfold f_X8_act
      rw [(e h).1 n5, b2s, if_pos (show bI false = 0 from rfl)]
    · unfold f_X9_act
      rw [(e h).2 n2, b2s, if_pos (show bI false = 0 from rfl), b2s]
theorem cl_9 (a1 a2 : Int32) {h : am_H} {c sl : Nat} (J : JJ h c sl) : am_stat h ∧ po_9 a1 a2 JJ h c sl := by
  obtain ⟨S, ok, x8, x9⟩ := J
  refine ⟨X8_st x8, ?_⟩
  have out : ∀ v, f_X8_follow a1 a2 h = some (v, h) → f_X9_follow a1 a2 h = some (v, h) → po_9 a1 a2 JJ h c sl := fun v e1 e2 => ⟨v, h, h, e1, e2, JJ_ro ok x8 x9⟩
  have n5 := (X8_n x8).1
  have n2 := x9.2.1.2.1.1
  rcases bk_89 a1 ok.2.1 with ⟨b, hb, rfl, e⟩ | e
  · obtain ⟨a, qc, qf, lc, lf, y1, y2, y3, y4, y5, -, ⟨l1, l2, l3⟩, -, y9⟩ := X8_bk x8 hb
    obtain ⟨z1, -, z3⟩ := x9.2.1.2.1.2 b hb
    have b8 : b < 8 := by have := ok.2.1; omega
    have n15 := (ok.2.2.1 b hb).1
    have vb : am_vp (nI b) 8 = true := hp_vp b8 (by decide)
    have cb : Int32.toNatClampNeg (nI b) = b := nI_clamp (by omega)
    by_cases c1 : a2 < 0
    · refine out (Int32.ofInt (-101)) ?_ ?_
      · unfold f_X8_follow
        rw [(e h).1 n5, b2s, if_neg (show ¬ bI true = 0 by decide), if_pos c1]
      · unfold f_X9_follow
        rw [(e h).2 n2, b2s, if_neg (show ¬ bI true = 0 by decide), vb, cond_true, wi_f (Or.inl (show a2 < Int32.ofInt 0 from c1)), b2s, if_pos (show bI false = 0 from rfl), b2s]
    · obtain ⟨i, hi31, rfl⟩ := i32_nn c1
      by_cases c2 : i ≤ S.bn b
      · refine out (S.bf b i) ?_ ?_
        · unfold f_X8_follow
          rw [(e h).1 n5, b2s, if_neg (show ¬ bI true = 0 by decide), if_neg c1, vb, cond_true, cb, y1, b_some, hp_isO y2, cond_true, y3, if_pos (nI_le c2 (by omega)), b_some, hp_isO y2, cond_true, y5, b_some, hp_ln l3, b_some, hp_vp (show i < lf by omega) (by omega), cond_true, nI_clamp (show i < 2 ^ 31 by omega), y9 i c2]
        · unfold f_X9_follow
          rw [(e h).2 n2, b2s, if_neg (show ¬ bI true = 0 by decide), vb, cond_true, cb, z1, wi_t (show ¬ nI i < Int32.ofInt 0 from c1) (fun q => by have := (nI_ltI (a := S.bn b) (b := i) (by omega) hi31).mp q; omega), b2s, if_neg (show ¬ bI true = 0 by decide), g9_ix, hp_vp (show 16 * b + i < 128 by omega) (by decide), cond_true, nI_clamp (show 16 * b + i < 2 ^ 31 by omega), z3 i (by omega), b2s]
      · refine out (Int32.ofInt (-101)) ?_ ?_
        · unfold f_X8_follow
          rw [(e h).1 n5, b2s, if_neg (show ¬ bI true = 0 by decide), if_neg c1, vb, cond_true, cb, y1, b_some, hp_isO y2, cond_true, y3, if_neg (nI_ge (a := S.bn b) (b := i) (by omega) hi31)]
        · unfold f_X9_follow
          rw [(e h).2 n2, b2s, if_neg (show ¬ bI true = 0 by decide), vb, cond_true, cb, z1, wi_f (Or.inr ((nI_ltI (a := S.bn b) (b := i) (by omega) hi31).mpr (by omega))), b2s, if_pos (show bI false = 0 from rfl), b2s]
  · refine out (Int32.ofInt (-101)) ?_ ?_
    · unfold f_X8_follow
      rw [(e h).1 n5, b2s, if_pos (show bI false = 0 from rfl)]
    · unfold f_X9_follow
      rw [(e h).2 n2, b2s, if_pos (show bI false = 0 from rfl), b2s]
