/-! ===== seat: both ===== -/
def stU (S : PS) (o : Nat) (x : Option Nat) : Nat → Option Nat := fun q => if q = o then x else S.st q
theorem stU_ne {S : PS} {o q : Nat} {x : Option Nat} (h : q ≠ o) (k : Nat → Nat) (rm : Nat) : (S.ru (stU S o x) k rm).fol q = S.fol q ∧ (S.ru (stU S o x) k rm).cd q = S.cd q ∧ (S.ru (stU S o x) k rm).na q = S.na q ∧ (S.ru (stU S o x) k rm).sd q = S.sd q := by
  have e : (S.ru (stU S o x) k rm).st q = S.st q := if_neg h
  refine ⟨?_, ?_, ?_, ?_⟩
  · funext j
    show (match (S.ru (stU S o x) k rm).st q with | some b => if j ≤ S.bn b then S.bf b j else Int32.ofInt 0 | none => Int32.ofInt 0) = (match S.st q with | some b => if j ≤ S.bn b then S.bf b j else Int32.ofInt 0 | none => Int32.ofInt 0)
    rw [e]
  · funext i
    show (match (S.ru (stU S o x) k rm).st q with | some b => S.bc b i | none => 0) = (match S.st q with | some b => S.bc b i | none => 0)
    rw [e]
  · show (match (S.ru (stU S o x) k rm).st q with | some b => S.bn b | none => 0) = (match S.st q with | some b => S.bn b | none => 0)
    rw [e]
  · show ((S.ru (stU S o x) k rm).st q).isSome = (S.st q).isSome
    rw [e]
theorem stU_at (S : PS) (o : Nat) (x : Option Nat) (k : Nat → Nat) (rm : Nat) : (S.ru (stU S o x) k rm).st o = x := if_pos rfl
theorem TK8_seat {h h1 : am_H} {S : PS} {o n : Nat} {x : Option Nat} {cd : Nat → Nat} {f : Nat → Int32} (o3 : o < 3) (tk : TK8 h S) (ok' : PSok (S.ru (stU S o x) S.k S.rm)) (g : GVE o n cd f x.isSome (am_sI h 27 o (stI x)) h1) (hx : ∀ b, x = some b → n = S.bn b ∧ (∀ i, cd i = S.bc b i) ∧ ∀ j, f j = S.bf b j) : TK8 (chH h1) (S.ru (stU S o x) S.k S.rm) := by
  obtain ⟨⟨-, sJ, gI, gq, gk⟩, g33, g34, gR, gB⟩ := g
  obtain ⟨⟨⟨t1, t2, t3, t4⟩, u2, u3⟩, k1, k2, k3, k4⟩ := tk
  have i : ∀ p, p ≠ 0 → p ≠ 27 → p ≠ 30 → p ≠ 33 → p ≠ 34 → p ≠ 35 → p ≠ 36 → am_I (chH h1) p = am_I h p := fun p a0 a1 a2 a3 a4 a5 a6 => by rw [chH_I _ a0, gI p a2 a3 a4 a5 a6, hp_I' _ _ _ a1]
  have e : ∀ p, p ≠ 0 → am_I (chH h1) p = am_I h1 p := fun p a0 => chH_I _ a0
  have h27 : ∀ p, p ≠ 27 → am_I (am_sI h 27 o (stI x)) p = am_I h p := fun p hp => hp_I' _ _ _ hp
  have out : ∀ q i, q ≠ o → i < 16 → ¬ (16 * o ≤ 16 * q + i ∧ 16 * q + i < 16 * o + 16) := by omega
  have na_o : ∀ b, x = some b → (S.ru (stU S o x) S.k S.rm).na o = S.bn b := fun b hb => na_some (S := S.ru (stU S o x) S.k S.rm) ((stU_at S o x S.k S.rm).trans hb)
  have cd_o : ∀ b i, x = some b → (S.ru (stU S o x) S.k S.rm).cd o i = S.bc b i := fun b i hb => cd_some (S := S.ru (stU S o x) S.k S.rm) ((stU_at S o x S.k S.rm).trans hb) i
  -- an act of the new seat
  have act : ∀ i, 1 ≤ i → i ≤ (S.ru (stU S o x) S.k S.rm).na o → x.isSome = true ∧ i ≤ n ∧ cd i = (S.ru (stU S o x) S.k S.rm).cd o i := by
    intro i i1 hi
    cases hxx : x with
    | none =>
      have z : (S.ru (stU S o x) S.k S.rm).na o = 0 := na_none (S := S.ru (stU S o x) S.k S.rm) ((stU_at S o x S.k S.rm).trans hxx)
      omega
    | some b =>
      obtain ⟨x1, x2, x3⟩ := hx b hxx
      have z := na_o b hxx
      have w := cd_o b i hxx
      rw [← hxx]
      exact ⟨by rw [hxx]; rfl, by omega, by rw [w]; exact x2 i⟩
  refine ⟨⟨⟨?_, ?_, fun q j hq hj => ?_, fun q i hq hi i1 hv => ?_⟩, fun q hq => ?_, ?_⟩, fun q hq => ?_, fun q i hq i1 hi => ?_, (chH_11 h1).1, ?_⟩
  · show am_I (chH h1) 28 0 = nI S.rm
    rw [i 28 (by decide) (by decide) (by decide) (by decide) (by decide) (by decide) (by decide)]; exact t1
  · show ∀ p, p < 6 → am_I (chH h1) 29 p = nI (S.k p)
    rw [i 29 (by decide) (by decide) (by decide) (by decide) (by decide) (by decide) (by decide)]; exact t2
  · show am_I (chH h1) 34 (16 * q + j) = (S.ru (stU S o x) S.k S.rm).fol q j
    rw [e 34 (by decide)]
    by_cases c : q = o
    · subst c
      rw [g34 j hj]
      cases hxx : x with
      | none => rw [fol_none (S := S.ru (stU S q none) S.k S.rm) (stU_at S q none S.k S.rm), if_neg (fun z => by cases z.1)]
      | some b =>
        obtain ⟨x1, x2, x3⟩ := hx b hxx
        rw [fol_some (S := S.ru (stU S q (some b)) S.k S.rm) (stU_at S q (some b) S.k S.rm), x1, x3 j]
        show (if true = true ∧ j ≤ S.bn b then _ else _) = (if j ≤ S.bn b then _ else _)
        by_cases cj : j ≤ S.bn b
        · rw [if_pos ⟨rfl, cj⟩, if_pos cj]; rfl
        · rw [if_neg (fun z => cj z.2), if_neg cj]
    · rw [(gk _ (out q j c hj)).2.1, h27 34 (by decide), (stU_ne c S.k S.rm).1]
      exact t3 q j hq hj
  · have hv0 := hv
    by_cases c : q = o
    · subst c
      obtain ⟨b, hb, sb, hin⟩ := PS_av ok' hq i1 hv
      have xb : x = some b := (stU_at S q x S.k S.rm).symm.trans sb
      have z := na_o b xb
      have hin : i ≤ S.bn b := hin
      obtain ⟨a1, a2, a3⟩ := act i i1 (by omega)
      obtain ⟨r1, r2⟩ := gR i i1 a2 a1
      have cg := ((ok'.2.2.1 b hb).2.1 i i1 hin)
      have cg : cdG (S.bc b i) := cg
      have ce := cd_o b i xb
      refine ⟨?_, ?_, ?_⟩
      · show am_I (chH h1) 35 (16 * q + i) = nI (if (S.ru (stU S q x) S.k S.rm).cd q i / 100 = 1 then pn ((S.ru (stU S q x) S.k S.rm).cd q i / 10 % 10) q else pn q ((S.ru (stU S q x) S.k S.rm).cd q i / 10 % 10))
        rw [e 35 (by decide), r2, a3]; rfl
      · show am_I (chH h1) 30 (16 * q + i) = nI ((S.ru (stU S q x) S.k S.rm).cd q i % 10)
        rw [e 30 (by decide), r1, a3]
      · show bt (am_I (chH h1) 36 q) i = decide ((S.ru (stU S q x) S.k S.rm).cd q i / 100 = 1)
        rw [e 36 (by decide), gB, Bool.eq_iff_iff, decide_eq_true_eq, decide_eq_true_eq, ← a3]
        have c2 := cdG_200 cg
        rw [← ce, ← a3] at c2
        exact ⟨fun w => by omega, fun w => ⟨a1, i1, a2, by omega⟩⟩
    · obtain ⟨f1, f2, f3, f4⟩ := stU_ne (S := S) (o := o) (x := x) c S.k S.rm
      have hv' : S.r.av q i := by
        obtain ⟨j, hj, bj⟩ := hv
        refine ⟨j, hj, ?_⟩
        have bj : bt ((S.ru (stU S o x) S.k S.rm).fol q j) i = true := bj
        rw [f1] at bj
        exact bj
      obtain ⟨w1, w2, w3⟩ := t4 q i hq hi i1 hv'
      refine ⟨?_, ?_, ?_⟩
      · show am_I (chH h1) 35 (16 * q + i) = nI (if (S.ru (stU S o x) S.k S.rm).cd q i / 100 = 1 then pn ((S.ru (stU S o x) S.k S.rm).cd q i / 10 % 10) q else pn q ((S.ru (stU S o x) S.k S.rm).cd q i / 10 % 10))
        rw [e 35 (by decide), (gk _ (out q i c hi)).2.2, h27 35 (by decide), f2]; exact w1
      · show am_I (chH h1) 30 (16 * q + i) = nI ((S.ru (stU S o x) S.k S.rm).cd q i % 10)
        rw [e 30 (by decide), (gk _ (out q i c hi)).1, h27 30 (by decide), f2]; exact w2
      · show bt (am_I (chH h1) 36 q) i = decide ((S.ru (stU S o x) S.k S.rm).cd q i / 100 = 1)
        rw [e 36 (by decide), (gq q c).2, h27 36 (by decide), f2]; exact w3
  · rw [e 33 (by decide), e 36 (by decide)]
    by_cases c : q = o
    · subst c
      refine ⟨?_, by rw [gB, decide_eq_false (by omega)]⟩
      show am_I h1 33 q = bI ((S.ru (stU S q x) S.k S.rm).st q).isSome
      rw [stU_at]; exact g33
    · rw [(gq q c).1, (gq q c).2, h27 33 (by decide), h27 36 (by decide), (stU_ne (S := S) (o := o) (x := x) c S.k S.rm).2.2.2]
      exact u2 q hq
  · show am_J (chH h1) 0 10 = lL ((S.ru (stU S o x) S.k S.rm).r.N s00)
    rw [N0_ru ok', chH_10]
  · show am_I (chH h1) 27 q = stI (stU S o x q)
    rw [e 27 (by decide), gI 27 (by decide) (by decide) (by decide) (by decide) (by decide), hp_I]
    unfold stU
    by_cases c : q = o
    · rw [c, upd_at, if_pos rfl]
    · rw [upd_ne c, if_neg c]; exact k1 q hq
  · show am_I (chH h1) 30 (16 * q + i) = nI ((S.ru (stU S o x) S.k S.rm).cd q i % 10)
    rw [e 30 (by decide)]
    by_cases c : q = o
    · subst c
      obtain ⟨a1, a2, a3⟩ := act i i1 hi
      rw [(gR i i1 a2 a1).1, a3]
    · obtain ⟨f1, f2, f3, f4⟩ := stU_ne (S := S) (o := o) (x := x) c S.k S.rm
      rw [f3] at hi
      have i16 : i < 16 := by
        have : S.na q ≤ 15 := by
          rcases ok'.2.2.2.2.2.1 q hq with z | ⟨b, hb, z, -⟩
          · have z : S.st q = none := (if_neg c).symm.trans z
            rw [na_none z]; omega
          · have z : S.st q = some b := (if_neg c).symm.trans z
            rw [na_some z]; exact (ok'.2.2.1 b hb).1
        omega
      rw [(gk _ (out q i c i16)).1, h27 30 (by decide), f2]; exact k2 q i hq i1 hi
  · rw [chH_0 _ (by decide) (by decide) (by decide), gI 0 (by decide) (by decide) (by decide) (by decide) (by decide), h27 0 (by decide)]; exact k4
theorem X8_seat {h h1 : am_H} {S : PS} {c sl o n : Nat} {x : Option Nat} {cd : Nat → Nat} {f : Nat → Int32} (o3 : o < 3) (x8 : X8 h S c sl) (ok' : PSok (S.ru (stU S o x) S.k S.rm)) (g : GVE o n cd f x.isSome (am_sI h 27 o (stI x)) h1) (hx : ∀ b, x = some b → n = S.bn b ∧ (∀ i, cd i = S.bc b i) ∧ ∀ j, f j = S.bf b j) : X8 (chH h1) (S.ru (stU S o x) S.k S.rm) c sl ∧ same9 h (chH h1) := by
  have tk' := TK8_seat o3 (X8_tk x8) ok' g hx
  obtain ⟨⟨s0, sJ, gI, gq, gk⟩, -⟩ := g
  refine ⟨X8_ru x8 ⟨s0.1, s0.2.1, s0.2.2⟩ (fun p a b => ?_) (fun k a b d => ?_) (chH_11 _).2.1 (chH_11 _).2.2 tk', fun p a b => ⟨?_, ?_⟩⟩
  · rw [chH_I _ a, gI p (by omega) (by omega) (by omega) (by omega) (by omega), hp_I' _ _ _ (by omega)]
  · rw [chH_0 _ a b d, gI 0 (by decide) (by decide) (by decide) (by decide) (by decide), hp_I' _ _ _ (by decide)]
  · rw [chH_I _ (by omega), gI p (by omega) (by omega) (by omega) (by omega) (by omega), hp_I' _ _ _ (by omega)]
  · rw [chH_J _ (by omega), sJ]; rfl
theorem X9_seat {h : am_H} {S : PS} (x9 : X9p h S) {o : Nat} (o3 : o < 3) (x : Option Nat) (F : Nat) (hF : 20 ≤ F) : ∃ h', f_X9_beginAnew F (am_sI (am_sI h 58 o (stI x)) 51 52 (Int32.ofInt 0)) = some ((), h') ∧ X9p h' (S.ru (stU S o x) S.k S.rm) ∧ same8 h h' := by
  refine X9_ru (st := stU S o x) (k := S.k) (rm := S.rm) (hm := am_sI (am_sI h 58 o (stI x)) 51 52 (Int32.ofInt 0)) x9 ⟨rfl, rfl, rfl⟩ rfl (fun q a b _ => by rw [hp_I' _ _ _ a, hp_I' _ _ _ b]) (fun j a b => by rw [hp_I, upd_ne b, hp_I' _ _ _ (by decide)]) (by rw [hp_I, upd_ne (by decide), hp_I' _ _ _ (by decide)]; exact x9.2.2.1.1.1) (by rw [hp_I, upd_at]; rfl) (fun f t hf ht ne => by rw [hp_I' _ _ _ (by decide), hp_I' _ _ _ (by decide)]; exact (x9.2.2.1.1.2.1 f t hf ht ne).1) (fun q hq => ?_) F hF
  rw [hp_I' _ _ _ (by decide), hp_I]
  unfold stU
  by_cases c : q = o
  · rw [c, upd_at, if_pos rfl]
  · rw [upd_ne c, if_neg c]; exact x9.2.2.1.1.2.2.2 q hq
theorem cl_13 (a1 a2 : Int32) {h : am_H} {c sl : Nat} (J : JJ h c sl) : am_stat h ∧ po_13 a1 a2 JJ h c sl := by
  obtain ⟨S, ok, x8, x9⟩ := J
  refine ⟨X8_st x8, 200, 200, ?_⟩
  have n5 := (X8_n x8).1
  have n2 := x9.2.1.2.1.1
  have out : ∀ v, f_X8_seat 200 a1 a2 h = some (v, h) → f_X9_seat 200 a1 a2 h = some (v, h) → ∃ (v : Int32) (h1 h2 : am_H), f_X8_seat 200 a1 a2 h = some (v, h1) ∧ f_X9_seat 200 a1 a2 h1 = some (v, h2) ∧ c ≤ 600000 ∧ sl ≤ 7302250 ∧ JJ h2 c sl := fun v e1 e2 => ⟨v, h, h, e1, e2, JJ_ro ok x8 x9⟩
  rcases of_89 a1 with ⟨o, ho, rfl, e⟩ | e
  · have e27 := (X8_tk x8).2.1 o ho
    have vo : am_vp (nI o) 3 = true := hp_vp ho (by decide)
    have co : Int32.toNatClampNeg (nI o) = o := nI_clamp (by omega)
    have oks : ∀ x, (x = none ∨ ∃ b, b < S.nb ∧ x = some b ∧ ∀ i, 1 ≤ i → i ≤ S.bn b → S.bc b i / 10 % 10 ≠ o) → PSok (S.ru (stU S o x) S.k S.rm) := by
      intro x hx
      refine PSok_ru ok (fun q hq => ?_) ok.2.2.2.2.2.2.1 ok.2.2.2.2.2.2.2.1 (fun q hq => ?_)
      · unfold stU
        by_cases z : q = o
        · rw [if_pos z, z]; exact hx
        · rw [if_neg z]; exact ok.2.2.2.2.2.1 q hq
      · unfold stU
        rw [if_neg (by omega)]; exact ok.2.2.2.2.2.2.2.2.2.2 q hq
    by_cases q : a2 = Int32.ofInt (-1)
    · obtain ⟨h1, e1, g1⟩ := gvN_8 (h := am_sI h 27 o a2) ho 0 (fun _ => 0) (fun _ => 0) 200 (by decide)
      have g1' : GVE o 0 (fun _ => 0) (fun _ => 0) (none : Option Nat).isSome (am_sI h 27 o (stI none)) h1 := by
        rw [q] at g1; exact g1
      have ok' := oks none (Or.inl rfl)
      obtain ⟨x81, s1⟩ := X8_seat ho x8 ok' g1' (fun b hb => by cases hb)
      have x91 := X9_loc x9 (X8_st x81) s1
      have e69 := x91.2.2.1.1.2.2.2 o ho
      obtain ⟨h2, e2, x92, s2⟩ := X9_seat x91 ho none 199 (by decide)
      have e2 : f_X9_beginAnew 199 (am_sI (am_sI (chH h1) 58 o a2) 51 52 (Int32.ofInt 0)) = some ((), h2) := by rw [q]; exact e2
      refine ⟨stI (S.st o), chH h1, h2, ?_, ?_, JJ_of ok' x81 s2 x92⟩
      · unfold f_X8_seat
        rw [(e h).1, b2s, if_neg (show ¬ bI true = 0 by decide), if_pos q, if_pos q, vo, cond_true, if_pos q, co, e1, b2s, ch_f, b2s, e27]
      · unfold f_X9_seat
        rw [(e _).2, b2s, if_neg (show ¬ bI true = 0 by decide), if_pos q, se_9n ho 199 q, e2, b2s, e69]
    · rcases bk_89 a2 ok.2.1 with ⟨b, hb, rfl, eb⟩ | eb
      · have bb : ∃ a qc qf lc lf, am_A h 25 b = some a ∧ 87 ≤ a ∧ 87 ≤ qc ∧ 87 ≤ qf ∧ am_K h a = .inl 0 ∧ am_I h a 0 = nI (S.bn b) ∧ am_A h a 1 = some qc ∧ am_A h a 2 = some qf ∧ (S.bn b < lc ∧ lc ≤ 100 ∧ am_K h qc = .inr (0, lc)) ∧ (S.bn b < lf ∧ lf ≤ 100 ∧ am_K h qf = .inr (0, lf)) ∧ (∀ i, 1 ≤ i → i ≤ S.bn b → am_I h qc i = nI (S.bc b i)) ∧ ∀ j, j ≤ S.bn b → am_I h qf j = S.bf b j := by
          obtain ⟨w, ba, cf, qf0, cc, qc0, c3, a3, b3, st, t, bk, on, tk, rw8, sv, co⟩ := x8
          obtain ⟨y1, qc, qf, z1, z2, z3, ⟨y2, y3, y4, y5⟩, ⟨lc, y6⟩, ⟨lf, y7⟩, y8, y9, -⟩ := bk.2.1 b hb
          exact ⟨ba b, qc, qf, lc, lf, y1, z1.1, z2.1, z3.1, y2, y3, y4, y5, y6, y7, y8, y9⟩
        obtain ⟨a, qc, qf, lc, lf, ea, a98, q98, p98, k1, k2, k3, k4, ⟨l1, l2, l3⟩, ⟨m1, m2, m3⟩, r1, r2⟩ := bb
        have bkb := ok.2.2.1 b hb
        have b8 : b < 8 := by have := ok.2.1; omega
        have vb : am_vp (nI b) 8 = true := hp_vp b8 (by decide)
        have cb : Int32.toNatClampNeg (nI b) = b := nI_clamp (by omega)
        have n15 := bkb.1
        have nm := nm_8 k1 k2 n15 k3 l1 l2 l3 (fun i i1 i2 => ⟨r1 i i1 i2, cdG_200 (bkb.2.1 i i1 i2)⟩) ho (200 - S.bn b - 1) (S.bn b) 1 (by omega) (by omega)
        rw [show 200 - S.bn b - 1 + S.bn b + 1 = 200 from by omega] at nm
        have nm : f_X0_names 200 a (nI o) h = some (bI (nmB (S.bc b) o (S.bn b) 1), h) := nm
        have se : ∀ {g : am_H}, X9p g S → f_X9_seat 200 (nI o) (nI b) g = (bif nmB (S.bc b) o (S.bn b) 1 then some (Int32.ofInt (-103), g) else (am_b2 (f_X9_beginAnew (200 - S.bn b - 1) (am_sI (am_sI g 58 o (nI b)) 51 52 (Int32.ofInt 0))) fun r5 h6 => (some ((am_I g 58 o), h6)))) := by
          intro g xg
          obtain ⟨y1, y2, y3⟩ := xg.2.1.2.1.2 b hb
          have z := se_9 b8 ho n15 y1 (fun i i1 i2 => ⟨y2 i i1 i2, cdG_200 (bkb.2.1 i i1 i2)⟩) (200 - S.bn b - 1) (S.bn b) 1 (by omega) (by omega)
          rw [show 200 - S.bn b - 1 + S.bn b + 1 = 200 from by omega] at z
          unfold f_X9_seat
          rw [(e g).2, b2s, if_neg (show ¬ bI true = 0 by decide), if_neg q, (eb g).2 xg.2.1.2.1.1, b2s, if_neg (show ¬ bI true = 0 by decide)]
          exact z
        cases hn : nmB (S.bc b) o (S.bn b) 1 with
        | true =>
          have z := se x9
          rw [hn] at nm z
          refine out (Int32.ofInt (-103)) ?_ z
          unfold f_X8_seat
          rw [(e h).1, b2s, if_neg (show ¬ bI true = 0 by decide), if_neg q, (eb h).1 n5, b2s, if_neg (show ¬ bI true = 0 by decide), if_neg q, vb, cond_true, cb, ea, b_some, hp_isO k1, cond_true, nm, b2s, if_neg (show ¬ bI true = 0 by decide)]
        | false =>
          rw [hn] at nm
          have hno := nmB_f (S.bn b) 1 hn
          have i27 : ∀ p, p ≠ 27 → am_I (am_sI h 27 o (nI b)) p = am_I h p := fun p hp => hp_I' _ _ _ hp
          obtain ⟨h1, e1, g1⟩ := gv_8 (h := am_sI h 27 o (nI b)) (cd := S.bc b) (f := S.bf b) ho a98 q98 p98 k1 (by rw [i27 a (by omega)]; exact k2) n15 k3 k4 l1 l2 l3 m1 m2 m3 (fun i i1 i2 => by rw [i27 qc (by omega)]; exact ⟨r1 i i1 i2, bkb.2.1 i i1 i2, hno i i1 (by omega)⟩) (fun j hj => by rw [i27 qf (by omega)]; exact r2 j hj) 200 (by decide)
          have ok' := oks (some b) (Or.inr ⟨b, hb, rfl, fun i i1 i2 => hno i i1 (by omega)⟩)
          obtain ⟨x81, s1⟩ := X8_seat (x := some b) ho x8 ok' g1 (fun b' hb' => by
            have : b = b' := Option.some.inj hb'
            rw [← this]
            exact ⟨rfl, fun _ => rfl, fun _ => rfl⟩)
          have x91 := X9_loc x9 (X8_st x81) s1
          have e69 := x91.2.2.1.1.2.2.2 o ho
          obtain ⟨h2, e2, x92, s2⟩ := X9_seat x91 ho (some b) (200 - S.bn b - 1) (by omega)
          have z := se x91
          rw [hn] at z
          refine ⟨stI (S.st o), chH h1, h2, ?_, ?_, JJ_of ok' x81 s2 x92⟩
          · unfold f_X8_seat
            rw [(e h).1, b2s, if_neg (show ¬ bI true = 0 by decide), if_neg q, (eb h).1 n5, b2s, if_neg (show ¬ bI true = 0 by decide), if_neg q, vb, cond_true, cb, ea, b_some, hp_isO k1, cond_true, nm, b2s, if_pos (show bI false = 0 from rfl), vo, cond_true, if_neg q, co, show am_A (am_sI h 27 o (nI b)) 25 b = some a from ea, b_some, e1, b2s, ch_f, b2s, e27]
          · rw [z]
            show am_b2 (f_X9_beginAnew (200 - S.bn b - 1) (am_sI (am_sI (chH h1) 58 o (nI b)) 51 52 (Int32.ofInt 0))) _ = _
            rw [show f_X9_beginAnew (200 - S.bn b - 1) (am_sI (am_sI (chH h1) 58 o (nI b)) 51 52 (Int32.ofInt 0)) = some ((), h2) from e2, b2s, e69]
      · refine out (Int32.ofInt (-101)) ?_ ?_
        · unfold f_X8_seat
          rw [(e h).1, b2s, if_neg (show ¬ bI true = 0 by decide), if_neg q, (eb h).1 n5, b2s, if_pos (show bI false = 0 from rfl)]
        · unfold f_X9_seat
          rw [(e h).2, b2s, if_neg (show ¬ bI true = 0 by decide), if_neg q, (eb h).2 n2, b2s, if_pos (show bI false = 0 from rfl)]
  · refine out (Int32.ofInt (-101)) ?_ ?_
    · unfold f_X8_seat
      rw [(e h).1, b2s, if_pos (show bI false = 0 from rfl)]
    · unfold f_X9_seat
      rw [(e h).2, b2s, if_pos (show bI false = 0 from rfl)]
