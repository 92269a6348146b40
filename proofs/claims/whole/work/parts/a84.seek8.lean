/-! ===== the smallest mend: the class seeks it ===== -/
/-- rows of the two surveys lie apart -/
def sep4 (qs qn a b : Nat) : Prop := qs ≠ a ∧ qs ≠ b ∧ qn ≠ a ∧ qn ≠ b
theorem EX8_W {h h' : am_H} {cap qs qn a b a' b' : Nat} {r : TR} {sd : Nat → Bool} (x : EX8 h 37 cap qs qn r sd) (f : frW a b a' b' h h') (sa : a = 59 ∨ 98 ≤ a) (sb : b = 60 ∨ 98 ≤ b) (se : sep4 qs qn a b) : EX8 h' 37 cap qs qn r sd := by
  obtain ⟨⟨f1, fk⟩, f2, f3, f4, f5, f6, f7, f8⟩ := f
  obtain ⟨s1, s2, s3, s4⟩ := se
  obtain ⟨⟨⟨T, V⟩, ⟨g, l12, lmc, lr, lc⟩, q1, q4⟩, m, t⟩ := x
  have g0 := g
  obtain ⟨⟨a13, a14, ks, kn⟩, ⟨ne, ls, ln, h98⟩, os, on, c1, c2⟩ := g
  have e : ∀ p, 37 ≤ p → p ≤ 46 → am_I h' p = am_I h p := fun p x y => f5 p (by omega) (by omega) (by omega) (by omega) (by omega) (by omega) (by omega) (by omega)
  have eS : am_I h' qs = am_I h qs := f5 qs ls (by omega) (by omega) (by omega) (by omega) (by omega) s1 s2
  have eN : am_I h' qn = am_I h qn := f5 qn ln (by omega) (by omega) (by omega) (by omega) (by omega) s3 s4
  have eA : am_A h' 37 = am_A h 37 := f3 37 (by omega) (by omega)
  refine ⟨⟨⟨T, V8_fr V (by rw [e 37 (by decide) (by decide)]) (f2 _ (by omega) (by decide) (by decide)) (e _ (by decide) (by decide)) (e _ (by decide) (by decide)) (e _ (by decide) (by decide))⟩, ⟨⟨⟨by rw [eA]; exact a13, by rw [eA]; exact a14, by rw [fk qs ls]; exact ks, by rw [fk qn ln]; exact kn⟩, ⟨ne, by omega, by omega, by omega⟩, os, on, c1, c2⟩, by rw [e 37 (by decide) (by decide)]; exact l12, lmc, by rw [eS, eN]; exact lr, by rw [e (37 + 9) (by decide) (by decide)]; exact lc⟩, by rw [e 37 (by decide) (by decide)]; exact q1, by rw [e 37 (by decide) (by decide)]; exact q4⟩, by rw [e (37 + 4) (by decide) (by decide)]; exact m, fun w hw => by rw [e (37 + 1) (by decide) (by decide), e (37 + 2) (by decide) (by decide)]; exact t w hw⟩
/-- all that a mend's seeking rests on -/
def SK (h : am_H) (r : TR) (sd : Nat → Bool) (na : Nat → Nat) (cap qs qn a b : Nat) (R : Nat → Int32) : Prop := ((∀ o, o < 3 → na o ≤ 15 ∧ ((am_I h 27 o = Int32.ofInt (-1) ∧ na o = 0) ∨ ∃ k q, k < 8 ∧ am_I h 27 o = nI k ∧ am_A h 25 k = some q ∧ am_K h q = .inl 0 ∧ am_I h q 0 = nI (na o) ∧ 98 ≤ q ∧ q < h.1 ∧ q ≠ a ∧ q ≠ b)) ∧ (am_I h 30 = R ∧ ∀ o i, o < 3 → 1 ≤ i → i ≤ na o → R (16 * o + i) = nI (r.al o i) ∧ r.al o i < 4)) ∧ T8 h r ∧ S8 h sd ∧ EX8 h 37 cap qs qn r sd ∧ am_stat h ∧ sep4 qs qn a b ∧ MD h none
theorem SK_W {h h' : am_H} {r : TR} {sd : Nat → Bool} {na : Nat → Nat} {cap qs qn a b a' b' cap2 cap3 : Nat} {R : Nat → Int32} (k : SK h r sd na cap qs qn a b R) (g : GR h 49 cap2 a b) (g' : GR h' 49 cap3 a' b') (f : frW a b a' b' h h') (e30 : am_I h' 30 = R) (st : am_stat h') (md : MD h' none) : SK h' r sd na cap qs qn a' b' R := by
  obtain ⟨⟨k1, k2, k3⟩, t, s8, x, -, se, -⟩ := k
  have g0 := g
  obtain ⟨-, ⟨ne, la, lb, h98⟩, oa, ob, -, -⟩ := g0
  have gx := x.1.2.1.1
  obtain ⟨-, ⟨ne', ls, ln, -⟩, os, on, -, -⟩ := gx
  have x' := EX8_W x f (by omega) (by omega) se
  obtain ⟨⟨f1, fk⟩, f2, f3, f4, f5, f6, f7, f8⟩ := f
  have e : ∀ p, p < 37 → p ≠ 28 → p ≠ 31 → p ≠ 30 → am_I h' p = am_I h p := fun p x y z w => f5 p (by omega) (by omega) y z w (by omega) (by omega) (by omega)
  refine ⟨⟨fun o ho => ⟨(k1 o ho).1, ?_⟩, e30, k3⟩, ?_, ?_, x', st, ?_, md⟩
  · rcases (k1 o ho).2 with ⟨p1, p2⟩ | ⟨kk, q, p1, p2, p3, p4, p5, p6, p7, p8, p9⟩
    · exact Or.inl ⟨by rw [e 27 (by decide) (by decide) (by decide) (by decide)]; exact p1, p2⟩
    · refine Or.inr ⟨kk, q, p1, by rw [e 27 (by decide) (by decide) (by decide) (by decide)]; exact p2, by rw [f3 25 (by omega) (by decide)]; exact p3, by rw [fk q p7]; exact p4, by rw [f5 q p7 (by omega) (by omega) (by omega) (by omega) (by omega) p8 p9]; exact p5, p6, by omega, by omega, by omega⟩
  · unfold T8
    rw [f6 0 (by decide), e 29 (by decide) (by decide) (by decide) (by decide), e 34 (by decide) (by decide) (by decide) (by decide), e 35 (by decide) (by decide) (by decide) (by decide), e 36 (by decide) (by decide) (by decide) (by decide), e30, ← k2]
    exact t
  · unfold S8
    rw [e 33 (by decide) (by decide) (by decide) (by decide), e 36 (by decide) (by decide) (by decide) (by decide)]
    exact s8
  · obtain ⟨s1, s2, s3, s4⟩ := se
    exact ⟨by omega, by omega, by omega, by omega⟩
theorem mdA_s (r : TR) (sd : Nat → Bool) (o n k : Nat) : mdA r sd o n (k + 1) = (match mdL r sd o (n - k) 4 with | some l => some (n - k, l) | none => mdA r sd o n k) := rfl
/-- the acts of one office -/
theorem sk_l {r : TR} (hr : r.all) {sd : Nat → Bool} {na : Nat → Nat} {cap qs qn o : Nat} (ho : o < 3) {R : Nat → Int32} {y : Int32} (hy : ∀ i l, i < 16 → l < 4 → bt y i = false → ¬ wellT (r.lt o i l) sd) (hn : na o ≤ 15) : ∀ (k : Nat), k ≤ na o → ∀ (h : am_H) (c2 a b F : Nat), 500000100 ≤ F → SK h r sd na cap qs qn a b R → GR h 49 c2 a b →
    ∃ h' c2' a' b' c z, GR h' 49 c2' a' b' ∧ frW a b a' b' h h' ∧ am_I h' 30 = R ∧ am_stat h' ∧ (c2 ≤ c2' ∧ 2048 * c ≤ c2' - c2 ∧ z ≤ 4 * (c2' - c2)) ∧
      ((∃ x, mdA r sd o (na o) k = some x ∧ g_X8_seekMend (F + k + 1) 1 (nI o) (nI (na o)) y (nI (na o + 1 - k)) h = some (((), h'), c, z) ∧ MD h' (some (o, x.1, x.2))) ∨
       (mdA r sd o (na o) k = none ∧ SK h' r sd na cap qs qn a' b' R ∧ ∃ F', F ≤ F' ∧ g_X8_seekMend (F + k + 1) 1 (nI o) (nI (na o)) y (nI (na o + 1 - k)) h = am_cost c z (g_X8_seekMend F' 0 (nI (o + 1)) 0 0 0 h'))) := by
  intro k
  induction k with
  | zero =>
    intro _ h c2 a b F hF sk g
    refine ⟨h, c2, a, b, 0, 0, g, frW_r _ _ _, sk.1.2.1, sk.2.2.2.2.1, ⟨Nat.le_refl _, Nat.zero_le _, Nat.zero_le _⟩, Or.inr ⟨rfl, sk, F, Nat.le_refl _, ?_⟩⟩
    rw [cst_0, show F + 0 + 1 = F + 1 from rfl, g_X8_seekMend, q10, cond_false, if_pos (show nI (na o) < nI (na o + 1 - 0) from (nI_ltI (by omega) (by omega)).mpr (by omega)), hp_1]
  | succ k ih =>
    intro hk h c2 a b F hF sk g
    have ei : na o + 1 - (k + 1) = na o - k := by omega
    have i1 : 1 ≤ na o - k := by omega
    have i2 : na o - k ≤ na o := by omega
    have nlt : ¬ nI (na o) < nI (na o - k) := fun q => by have := (nI_ltI (by omega) (by omega)).mp q; omega
    have nx : nI (na o - k) + Int32.ofInt 1 = nI (na o + 1 - k) := by rw [hp_1, show na o - k + 1 = na o + 1 - k from by omega]
    rw [ei, mdA_s]
    have hd : ∀ X, (if bI (bt y (na o - k)) = 0 then g_X8_seekMend (F + k + 1) 1 (nI o) (nI (na o)) y (nI (na o + 1 - k)) h else am_bc (f_X8_mendsAct (F + k + 1) (nI o) (nI (na o - k)) h) fun r3 h4 => ((if r3 = 0 then g_X8_seekMend (F + k + 1) 1 (nI o) (nI (na o)) y (nI (na o + 1 - k)) h4 else some (((), h4), 0, 0)))) = X → g_X8_seekMend (F + (k + 1) + 1) 1 (nI o) (nI (na o)) y (nI (na o - k)) h = X := by
      intro X hX
      rw [show F + (k + 1) + 1 = (F + k + 1) + 1 from rfl, g_X8_seekMend, q10, cond_false, if_neg nlt, bt_8 _ (show na o - k < 32 by omega), nx]
      exact hX
    cases hb : bt y (na o - k) with
    | false =>
      rw [mdL_no (fun l hl => hy (na o - k) l (by omega) hl hb) 4 (Nat.le_refl _)]
      obtain ⟨h', c2', a', b', c, z, r1, r2, r3, r4, r5, alt⟩ := ih (by omega) h c2 a b F hF sk g
      refine ⟨h', c2', a', b', c, z, r1, r2, r3, r4, r5, ?_⟩
      rcases alt with ⟨x, m, e, d⟩ | ⟨m, s, F', hF', e⟩
      · exact Or.inl ⟨x, m, hd _ (by rw [hb, if_pos (show bI false = 0 from rfl)]; exact e), d⟩
      · exact Or.inr ⟨m, s, F', hF', hd _ (by rw [hb, if_pos (show bI false = 0 from rfl)]; exact e)⟩
    | true =>
      obtain ⟨hR, hal⟩ := sk.1.2.2 o (na o - k) ho i1 i2
      have t8 : T8 (am_sR h 30 R) r := by
        rw [← sk.1.2.1, hp_sR_id]; exact sk.2.1
      obtain ⟨h1, c1', a1, b1, c1, z1, e1, m30, g1, st1, f1, md1, w1, w2, w3⟩ := ma_l hr (sd := sd) ho (show na o - k < 16 by omega) hR hal 4 (Nat.le_refl _) h c2 a b (F + k + 1 - 5) (by omega) ⟨R (16 * o + (na o - k)), by rw [hp_upd_id]; exact sk.1.2.1⟩ t8 sk.2.2.1 g sk.2.2.2.2.1 sk.2.2.2.2.2.2
      rw [show F + k + 1 - 5 + 4 + 1 = F + k + 1 from by omega] at e1
      have em : f_X8_mendsAct (F + k + 1) (nI o) (nI (na o - k)) h = some ((bI (mdL r sd o (na o - k) 4).isSome, h1), c1, z1) := by
        unfold f_X8_mendsAct
        rw [g9_ix, hp_vp (show 16 * o + (na o - k) < 48 by omega) (by decide), cond_true, nI_clamp (show 16 * o + (na o - k) < 2 ^ 31 by omega), sk.1.2.1, hR]
        exact e1
      cases hm : mdL r sd o (na o - k) 4 with
      | some l =>
        rw [hm] at em md1
        refine ⟨h1, c1', a1, b1, c1, z1, g1, f1, m30, st1, ⟨w1, w2, w3⟩, Or.inl ⟨(na o - k, l), rfl, hd _ ?_, md1⟩⟩
        rw [hb, if_neg (show ¬ bI true = 0 by decide), em, bcs, if_neg (show ¬ bI (some l).isSome = 0 from (show ¬ bI true = 0 by decide)), cts]; rfl
      | none =>
        rw [hm] at em md1
        have sk1 := SK_W sk g g1 f1 m30 st1 md1
        obtain ⟨h', c2', a', b', c, z, r1, r2, r3, r4, ⟨r5, r6, r7⟩, alt⟩ := ih (by omega) h1 c1' a1 b1 F hF sk1 g1
        refine ⟨h', c2', a', b', c1 + c, z1 + z, r1, frW_t f1 r2, r3, r4, ⟨by omega, by omega, by omega⟩, ?_⟩
        rcases alt with ⟨x, m, e, d⟩ | ⟨m, s, F', hF', e⟩
        · exact Or.inl ⟨x, m, hd _ (by rw [hb, if_neg (show ¬ bI true = 0 by decide), em, bcs, if_pos (show bI (none : Option Nat).isSome = 0 from rfl), e, cts]), d⟩
        · exact Or.inr ⟨m, s, F', hF', hd _ (by rw [hb, if_neg (show ¬ bI true = 0 by decide), em, bcs, if_pos (show bI (none : Option Nat).isSome = 0 from rfl), e, cst_cst])⟩
theorem mdO_s (r : TR) (sd : Nat → Bool) (na : Nat → Nat) (k : Nat) : mdO r sd na (k + 1) = (match mdA r sd (2 - k) (na (2 - k)) (na (2 - k)) with | some x => some (2 - k, x.1, x.2) | none => mdO r sd na k) := rfl
theorem nx23 {k : Nat} (h : k ≤ 2) : 2 - k + 1 = 3 - k := by omega
/-- all offices -/
theorem sk_o {r : TR} (hr : r.all) {sd : Nat → Bool} {na : Nat → Nat} {cap qs qn : Nat} (sp : (svAll r).sp = false) (nw : ¬ wellT r sd) {R : Nat → Int32} : ∀ (k : Nat), k ≤ 3 → ∀ (h : am_H) (c2 a b F : Nat), 500000200 + 20 * k ≤ F → SK h r sd na cap qs qn a b R → GR h 49 c2 a b →
    ∃ h' c2' a' b' c z, GR h' 49 c2' a' b' ∧ frW a b a' b' h h' ∧ am_I h' 30 = R ∧ am_stat h' ∧ (c2 ≤ c2' ∧ 2048 * c ≤ c2' - c2 ∧ z ≤ 4 * (c2' - c2)) ∧ g_X8_seekMend F 0 (nI (3 - k)) 0 0 0 h = some (((), h'), c, z) ∧ MD h' (mdO r sd na k) := by
  intro k
  induction k with
  | zero =>
    intro _ h c2 a b F hF sk g
    refine ⟨h, c2, a, b, 0, 0, g, frW_r _ _ _, sk.1.2.1, sk.2.2.2.2.1, ⟨Nat.le_refl _, Nat.zero_le _, Nat.zero_le _⟩, ?_, sk.2.2.2.2.2.2⟩
    rw [show F = (F - 1) + 1 from by omega, g_X8_seekMend, q00, cond_true, if_pos (show Int32.ofInt 3 ≤ nI (3 - 0) by decide)]
  | succ k ih =>
    intro hk h c2 a b F hF sk g
    have eo : 3 - (k + 1) = 2 - k := by omega
    have ho : 2 - k < 3 := by omega
    obtain ⟨hn, seat⟩ := sk.1.1 (2 - k) ho
    have hs : ((if (am_I h 27 (2 - k)) = (Int32.ofInt (-1)) then some (Int32.ofInt 0) else bif am_vp (am_I h 27 (2 - k)) 8 then ((am_A h 25 (Int32.toNatClampNeg (am_I h 27 (2 - k)))).bind fun q7 => (bif am_isO h q7 0 then (some (am_I h q7 0)) else none)) else none)) = some (nI (na (2 - k))) := by
      rcases seat with ⟨p1, p2⟩ | ⟨kk, q, p1, p2, p3, p4, p5, -⟩
      · rw [p1, p2, if_pos rfl]; rfl
      · rw [p2, if_neg (nI_m1ne (by omega)), hp_vp p1 (by decide), cond_true, nI_clamp (show kk < 2 ^ 31 by omega), p3, b_some, hp_isO p4, cond_true, p5]
    obtain ⟨y, ey, hy⟩ : ∃ y, (if nI (na (2 - k)) = 0 then some ((Int32.ofInt 0), h) else am_b2 (f_X6_worthMending (F - 1) 37 (nI (2 - k)) h) fun r64 h65 => (some (r64, h65))) = some (y, h) ∧ (na (2 - k) ≠ 0 → ∀ i l, i < 16 → l < 4 → bt y i = false → ¬ wellT (r.lt (2 - k) i l) sd) := by
      by_cases c : na (2 - k) = 0
      · exact ⟨Int32.ofInt 0, by rw [c, if_pos (show nI 0 = 0 from rfl)], fun q => absurd c q⟩
      · obtain ⟨y, e, hy⟩ := wo_8 hr sk.2.2.2.1 sp nw sk.2.1 ho (F - 1) (by omega)
        exact ⟨y, by rw [if_neg (fun q => c ((nI_0e (by omega)).mp q)), e, b2s], fun _ => hy⟩
    have hd : ∀ X, g_X8_seekMend (F - 1) 1 (nI (2 - k)) (nI (na (2 - k))) y (nI 1) h = X → g_X8_seekMend F 0 (nI (3 - (k + 1))) 0 0 0 h = X := by
      intro X hX
      rw [eo, show F = (F - 1) + 1 from by omega, g_X8_seekMend, q00, cond_true, if_neg (show ¬ Int32.ofInt 3 ≤ nI (2 - k) from nI_ge (a := 2 - k) (b := 3) ho (by decide)), hp_vp ho (by decide), cond_true, nI_clamp (show 2 - k < 2 ^ 31 by omega), hs, b_some, ey, b2s]
      exact hX
    rw [mdO_s]
    have nx : 2 - k + 1 = 3 - k := nx23 (Nat.le_of_succ_le_succ hk)
    by_cases c : na (2 - k) = 0
    · have em : mdA r sd (2 - k) (na (2 - k)) (na (2 - k)) = none := by rw [c]; rfl
      rw [em]
      obtain ⟨h', c2', a', b', c', z', r1, r2, r3, r4, r5, e, d⟩ := ih (by omega) h c2 a b (F - 2) (by omega) sk g
      refine ⟨h', c2', a', b', c', z', r1, r2, r3, r4, r5, hd _ ?_, d⟩
      rw [c, show F - 1 = (F - 2) + 1 from by omega, g_X8_seekMend, q10, cond_false, if_pos (show nI 0 < nI 1 by decide), hp_1, nx]
      exact e
    · obtain ⟨h1, c1, a1, b1, cc, zz, r1, r2, r3, r4, ⟨r5, r6, r7⟩, alt⟩ := sk_l hr ho (hy c) hn (na (2 - k)) (Nat.le_refl _) h c2 a b (F - 1 - na (2 - k) - 1) (by omega) sk g
      rw [show F - 1 - na (2 - k) - 1 + na (2 - k) + 1 = F - 1 from by omega, show na (2 - k) + 1 - na (2 - k) = 1 from by omega] at alt
      rcases alt with ⟨x, m, e, d⟩ | ⟨m, s, F', hF', e⟩
      · rw [m]
        exact ⟨h1, c1, a1, b1, cc, zz, r1, r2, r3, r4, ⟨r5, r6, r7⟩, hd _ e, d⟩
      · rw [m]
        obtain ⟨h', c2', a', b', c', z', u1, u2, u3, u4, ⟨u5, u6, u7⟩, e', d⟩ := ih (by omega) h1 c1 a1 b1 F' (by omega) s r1
        refine ⟨h', c2', a', b', cc + c', zz + z', u1, frW_t r2 u2, u3, u4, ⟨by omega, by omega, by omega⟩, hd _ ?_, d⟩
        rw [e, nx, e', cts]
