/-! ===== the smallest mend: the class seeks it ===== -/
/-- all that a mend's seeking rests on -/
def SK (h : am_H) (r : TR) (sd : Nat → Bool) (na : Nat → Nat) (R Y : Nat → Int32) : Prop := (am_I h 30 = R ∧ ∀ o i, o < 3 → 1 ≤ i → i ≤ na o → R (16 * o + i) = nI (r.al o i) ∧ r.al o i < 4) ∧ T8 h r ∧ S8 h sd ∧ am_stat h ∧ MD h none ∧ ∀ o, o < 3 → am_I h 50 o = Y o
theorem SK_W {h h' : am_H} {r : TR} {sd : Nat → Bool} {na : Nat → Nat} {a b a' b' cap2 : Nat} {R Y : Nat → Int32} (k : SK h r sd na R Y) (g : GR h 37 cap2 a b) (f : frW a b a' b' h h') (e30 : am_I h' 30 = R) (st : am_stat h') (md : MD h' none) : SK h' r sd na R Y := by
  obtain ⟨⟨k2, k3⟩, t, s8, -, -, kY⟩ := k
  obtain ⟨-, ⟨ne, la, lb, h98⟩, oa, ob, -, -⟩ := g
  obtain ⟨⟨f1, fk⟩, f2, f3, f4, f5, f6, f7, f8⟩ := f
  have e : ∀ p, p < 37 ∨ p = 50 → p ≠ 28 → p ≠ 31 → p ≠ 30 → am_I h' p = am_I h p := fun p x y z w => f5 p (by omega) (by omega) y z w (by omega) (by omega) (by omega)
  refine ⟨⟨e30, k3⟩, ?_, ?_, st, md, fun o ho => by rw [e 50 (by omega) (by decide) (by decide) (by decide)]; exact kY o ho⟩
  · unfold T8
    rw [f6 0 (by decide), e 29 (by omega) (by decide) (by decide) (by decide), e 34 (by omega) (by decide) (by decide) (by decide), e 35 (by omega) (by decide) (by decide) (by decide), e 36 (by omega) (by decide) (by decide) (by decide), e30, ← k2]
    exact t
  · unfold S8
    rw [e 33 (by omega) (by decide) (by decide) (by decide), e 36 (by omega) (by decide) (by decide) (by decide)]
    exact s8
theorem mdA_s (r : TR) (sd : Nat → Bool) (o n k : Nat) : mdA r sd o n (k + 1) = (match mdL r sd o (n - k) 4 with | some l => some (n - k, l) | none => mdA r sd o n k) := rfl
theorem n15_16 : Int32.ofInt 15 < nI (16 - 0) := by decide
/-- acts that are not worth it are passed over -/
theorem sk_z {o : Nat} (ho : o < 3) {h : am_H} {y : Int32} (hy : am_I h 50 o = y) : ∀ (d F : Nat), d ≤ 15 → (∀ i, 16 - d ≤ i → i < 16 → bt y i = false) → g_X8_seekMend (F + d + 1) 2 (nI o) (nI (16 - d)) h = g_X8_seekMend F 1 (nI (o + 1)) 0 h := by
  intro d
  induction d with
  | zero =>
    intro F _ _
    rw [show F + 0 + 1 = F + 1 from rfl, g_X8_seekMend, q20, cond_false, q21, cond_false, if_pos n15_16, hp_1]
  | succ d ih =>
    intro F hd hb
    have nlt : ¬ Int32.ofInt 15 < nI (16 - (d + 1)) := fun q => by have := (nI_ltI (a := 15) (b := 16 - (d + 1)) (by decide) (by omega)).mp q; omega
    have nx : nI (16 - (d + 1)) + Int32.ofInt 1 = nI (16 - d) := by rw [hp_1, show 16 - (d + 1) + 1 = 16 - d from by omega]
    rw [show F + (d + 1) + 1 = (F + d + 1) + 1 from rfl, g_X8_seekMend, q20, cond_false, q21, cond_false, if_neg nlt, hp_vp ho (by decide), cond_true, nI_clamp (show o < 2 ^ 31 by omega), hy, bt_8 _ (show 16 - (d + 1) < 32 by omega), hb _ (Nat.le_refl _) (by omega), if_pos (show bI false = 0 from rfl), nx]
    exact ih F (by omega) (fun i a b => hb i (by omega) b)
/-- the acts of one office -/
theorem sk_l {r : TR} (hr : r.all) {sd : Nat → Bool} {na : Nat → Nat} {o : Nat} (ho : o < 3) {R Y : Nat → Int32} (hy : ∀ i l, i < 16 → l < 4 → bt (Y o) i = false → ¬ wellT (r.lt o i l) sd) (hz : ∀ i, i < 16 → 1 ≤ i → bt (Y o) i = true → i ≤ na o) (hn : na o ≤ 15) : ∀ (k : Nat), k ≤ na o → ∀ (h : am_H) (c2 a b F : Nat), 500000100 ≤ F → SK h r sd na R Y → GR h 37 c2 a b →
    ∃ h' c2' a' b' c z, GR h' 37 c2' a' b' ∧ frW a b a' b' h h' ∧ am_I h' 30 = R ∧ am_stat h' ∧ (c2 ≤ c2' ∧ 2048 * c ≤ c2' - c2 ∧ z ≤ 4 * (c2' - c2)) ∧
      ((∃ x, mdA r sd o (na o) k = some x ∧ g_X8_seekMend (F + k + 1) 2 (nI o) (nI (na o + 1 - k)) h = some (((), h'), c, z) ∧ MD h' (some (o, x.1, x.2))) ∨
       (mdA r sd o (na o) k = none ∧ SK h' r sd na R Y ∧ ∃ F', F ≤ F' + 15 ∧ g_X8_seekMend (F + k + 1) 2 (nI o) (nI (na o + 1 - k)) h = am_cost c z (g_X8_seekMend F' 1 (nI (o + 1)) 0 h'))) := by
  intro k
  induction k with
  | zero =>
    intro _ h c2 a b F hF sk g
    have bz : ∀ i, 16 - (15 - na o) ≤ i → i < 16 → bt (Y o) i = false := fun i a b => by
      cases q : bt (Y o) i with
      | false => rfl
      | true => exact absurd (hz i b (by omega) q) (by omega)
    have e := sk_z ho (sk.2.2.2.2.2 o ho) (15 - na o) (F - (15 - na o)) (by omega) bz
    rw [show F - (15 - na o) + (15 - na o) + 1 = F + 0 + 1 from by omega, show 16 - (15 - na o) = na o + 1 - 0 from by omega] at e
    exact ⟨h, c2, a, b, 0, 0, g, frW_r _ _ _, sk.1.1, sk.2.2.2.1, ⟨Nat.le_refl _, Nat.zero_le _, Nat.zero_le _⟩, Or.inr ⟨rfl, sk, F - (15 - na o), by omega, by rw [cst_0]; exact e⟩⟩
  | succ k ih =>
    intro hk h c2 a b F hF sk g
    have ei : na o + 1 - (k + 1) = na o - k := by omega
    have i1 : 1 ≤ na o - k := by omega
    have i2 : na o - k ≤ na o := by omega
    have nlt : ¬ Int32.ofInt 15 < nI (na o - k) := fun q => by have := (nI_ltI (a := 15) (b := na o - k) (by decide) (by omega)).mp q; omega
    have nx : nI (na o - k) + Int32.ofInt 1 = nI (na o + 1 - k) := by rw [hp_1, show na o - k + 1 = na o + 1 - k from by omega]
    have hY := sk.2.2.2.2.2 o ho
    rw [ei, mdA_s]
    have hd : ∀ X, (if bI (bt (Y o) (na o - k)) = 0 then g_X8_seekMend (F + k + 1) 2 (nI o) (nI (na o + 1 - k)) h else am_bc (f_X8_mendsAct (F + k + 1) (nI o) (nI (na o - k)) h) fun r4 h5 => ((if r4 = 0 then g_X8_seekMend (F + k + 1) 2 (nI o) (nI (na o + 1 - k)) h5 else some (((), h5), 0, 0)))) = X → g_X8_seekMend (F + (k + 1) + 1) 2 (nI o) (nI (na o - k)) h = X := by
      intro X hX
      rw [show F + (k + 1) + 1 = (F + k + 1) + 1 from rfl, g_X8_seekMend, q20, cond_false, q21, cond_false, if_neg nlt, hp_vp ho (by decide), cond_true, nI_clamp (show o < 2 ^ 31 by omega), hY, bt_8 _ (show na o - k < 32 by omega), nx]
      exact hX
    cases hb : bt (Y o) (na o - k) with
    | false =>
      rw [mdL_no (fun l hl => hy (na o - k) l (by omega) hl hb) 4 (Nat.le_refl _)]
      obtain ⟨h', c2', a', b', c, z, r1, r2, r3, r4, r5, alt⟩ := ih (by omega) h c2 a b F hF sk g
      refine ⟨h', c2', a', b', c, z, r1, r2, r3, r4, r5, ?_⟩
      rcases alt with ⟨x, m, e, d⟩ | ⟨m, s, F', hF', e⟩
      · exact Or.inl ⟨x, m, hd _ (by rw [hb, if_pos (show bI false = 0 from rfl)]; exact e), d⟩
      · exact Or.inr ⟨m, s, F', hF', hd _ (by rw [hb, if_pos (show bI false = 0 from rfl)]; exact e)⟩
    | true =>
      obtain ⟨hR, hal⟩ := sk.1.2 o (na o - k) ho i1 i2
      have t8 : T8 (am_sR h 30 R) r := by
        rw [← sk.1.1, hp_sR_id]; exact sk.2.1
      obtain ⟨h1, c1', a1, b1, c1, z1, e1, m30, g1, st1, f1, md1, w1, w2, w3⟩ := ma_l hr (sd := sd) ho (show na o - k < 16 by omega) hR hal 4 (Nat.le_refl _) h c2 a b (F + k + 1 - 5) (by omega) ⟨R (16 * o + (na o - k)), by rw [hp_upd_id]; exact sk.1.1⟩ t8 sk.2.2.1 g sk.2.2.2.1 sk.2.2.2.2.1
      rw [show F + k + 1 - 5 + 4 + 1 = F + k + 1 from by omega] at e1
      have em : f_X8_mendsAct (F + k + 1) (nI o) (nI (na o - k)) h = some ((bI (mdL r sd o (na o - k) 4).isSome, h1), c1, z1) := by
        unfold f_X8_mendsAct
        rw [g9_ix, hp_vp (show 16 * o + (na o - k) < 48 by omega) (by decide), cond_true, nI_clamp (show 16 * o + (na o - k) < 2 ^ 31 by omega), sk.1.1, hR]
        exact e1
      cases hm : mdL r sd o (na o - k) 4 with
      | some l =>
        rw [hm] at em md1
        refine ⟨h1, c1', a1, b1, c1, z1, g1, f1, m30, st1, ⟨w1, w2, w3⟩, Or.inl ⟨(na o - k, l), rfl, hd _ ?_, md1⟩⟩
        rw [hb, if_neg (show ¬ bI true = 0 by decide), em, bcs, if_neg (show ¬ bI (some l).isSome = 0 from (show ¬ bI true = 0 by decide)), cts]; rfl
      | none =>
        rw [hm] at em md1
        have sk1 := SK_W sk g f1 m30 st1 md1
        obtain ⟨h', c2', a', b', c, z, r1, r2, r3, r4, ⟨r5, r6, r7⟩, alt⟩ := ih (by omega) h1 c1' a1 b1 F hF sk1 g1
        refine ⟨h', c2', a', b', c1 + c, z1 + z, r1, frW_t f1 r2, r3, r4, ⟨by omega, by omega, by omega⟩, ?_⟩
        rcases alt with ⟨x, m, e, d⟩ | ⟨m, s, F', hF', e⟩
        · exact Or.inl ⟨x, m, hd _ (by rw [hb, if_neg (show ¬ bI true = 0 by decide), em, bcs, if_pos (show bI (none : Option Nat).isSome = 0 from rfl), e, cts]), d⟩
        · exact Or.inr ⟨m, s, F', hF', hd _ (by rw [hb, if_neg (show ¬ bI true = 0 by decide), em, bcs, if_pos (show bI (none : Option Nat).isSome = 0 from rfl), e, cst_cst])⟩
theorem mdO_s (r : TR) (sd : Nat → Bool) (na : Nat → Nat) (k : Nat) : mdO r sd na (k + 1) = (match mdA r sd (2 - k) (na (2 - k)) (na (2 - k)) with | some x => some (2 - k, x.1, x.2) | none => mdO r sd na k) := rfl
theorem nx23 {k : Nat} (h : k ≤ 2) : 2 - k + 1 = 3 - k := by omega
/-- all offices -/
theorem sk_o {r : TR} (hr : r.all) {sd : Nat → Bool} {na : Nat → Nat} {R Y : Nat → Int32} (hy : ∀ o, o < 3 → ∀ i l, i < 16 → l < 4 → bt (Y o) i = false → ¬ wellT (r.lt o i l) sd) (hz : ∀ o, o < 3 → ∀ i, i < 16 → 1 ≤ i → bt (Y o) i = true → i ≤ na o) (hn : ∀ o, o < 3 → na o ≤ 15) : ∀ (k : Nat), k ≤ 3 → ∀ (h : am_H) (c2 a b F : Nat), 500000200 + 40 * k ≤ F → SK h r sd na R Y → GR h 37 c2 a b →
    ∃ h' c2' a' b' c z, GR h' 37 c2' a' b' ∧ frW a b a' b' h h' ∧ am_I h' 30 = R ∧ am_stat h' ∧ (c2 ≤ c2' ∧ 2048 * c ≤ c2' - c2 ∧ z ≤ 4 * (c2' - c2)) ∧ g_X8_seekMend F 1 (nI (3 - k)) 0 h = some (((), h'), c, z) ∧ MD h' (mdO r sd na k) := by
  intro k
  induction k with
  | zero =>
    intro _ h c2 a b F hF sk g
    refine ⟨h, c2, a, b, 0, 0, g, frW_r _ _ _, sk.1.1, sk.2.2.2.1, ⟨Nat.le_refl _, Nat.zero_le _, Nat.zero_le _⟩, ?_, sk.2.2.2.2.1⟩
    rw [show F = (F - 1) + 1 from by omega, g_X8_seekMend, q10, cond_false, q11, cond_true, if_pos (show Int32.ofInt 3 ≤ nI (3 - 0) by decide)]
  | succ k ih =>
    intro hk h c2 a b F hF sk g
    have eo : 3 - (k + 1) = 2 - k := by omega
    have ho : 2 - k < 3 := by omega
    have n15 := hn (2 - k) ho
    have hd : ∀ X, g_X8_seekMend (F - 1) 2 (nI (2 - k)) (nI 1) h = X → g_X8_seekMend F 1 (nI (3 - (k + 1))) 0 h = X := by
      intro X hX
      rw [eo, show F = (F - 1) + 1 from by omega, g_X8_seekMend, q10, cond_false, q11, cond_true, if_neg (show ¬ Int32.ofInt 3 ≤ nI (2 - k) from nI_ge (a := 2 - k) (b := 3) ho (by decide))]
      exact hX
    rw [mdO_s]
    have nx : 2 - k + 1 = 3 - k := nx23 (Nat.le_of_succ_le_succ hk)
    obtain ⟨h1, c1, a1, b1, cc, zz, r1, r2, r3, r4, ⟨r5, r6, r7⟩, alt⟩ := sk_l hr ho (hy _ ho) (hz _ ho) n15 (na (2 - k)) (Nat.le_refl _) h c2 a b (F - 1 - na (2 - k) - 1) (by omega) sk g
    rw [show F - 1 - na (2 - k) - 1 + na (2 - k) + 1 = F - 1 from by omega, show na (2 - k) + 1 - na (2 - k) = 1 from by omega] at alt
    rcases alt with ⟨x, m, e, d⟩ | ⟨m, s, F', hF', e⟩
    · rw [m]
      exact ⟨h1, c1, a1, b1, cc, zz, r1, r2, r3, r4, ⟨r5, r6, r7⟩, hd _ e, d⟩
    · rw [m]
      obtain ⟨h', c2', a', b', c', z', u1, u2, u3, u4, ⟨u5, u6, u7⟩, e', d⟩ := ih (by omega) h1 c1 a1 b1 F' (by omega) s r1
      refine ⟨h', c2', a', b', cc + c', zz + z', u1, frW_t r2 u2, u3, u4, ⟨by omega, by omega, by omega⟩, hd _ ?_, d⟩
      rw [e, nx, e', cts]
/-- what is worth it is asked ahead of all -/
theorem EX8_50 {h : am_H} {cap qs qn : Nat} {r : TR} {sd : Nat → Bool} (x : EX8 h 37 cap qs qn r sd) (j : Nat) (y : Int32) : EX8 (am_sI h 50 j y) 37 cap qs qn r sd := by
  obtain ⟨q, m, t⟩ := x
  have q' := q
  obtain ⟨-, ⟨g, -⟩, -⟩ := q'
  obtain ⟨-, ⟨ne, ls, ln, h98⟩, os, on, -, -⟩ := g
  have e : ∀ p, p ≠ 50 → am_I (am_sI h 50 j y) p = am_I h p := fun p hp => hp_I' _ _ _ hp
  refine ⟨?_, by rw [e _ (by decide)]; exact m, fun w hw => by rw [e _ (by decide), e _ (by decide)]; exact t w hw⟩
  obtain ⟨⟨T, V⟩, ⟨g, l12, lmc, lr, lc⟩, q1, q4⟩ := q
  refine ⟨⟨T, V8_fr V (by rw [e 37 (by decide)]) rfl (e _ (by decide)) (e _ (by decide)) (e _ (by decide))⟩, ⟨g, by rw [e 37 (by decide)]; exact l12, lmc, by rw [e qs (by omega), e qn (by omega)]; exact lr, by rw [e (37 + 9) (by decide)]; exact lc⟩, by rw [e 37 (by decide)]; exact q1, by rw [e 37 (by decide)]; exact q4⟩
theorem T8_50 {h : am_H} {r : TR} (t : T8 h r) (j : Nat) (y : Int32) : T8 (am_sI h 50 j y) r := by
  have i : ∀ p, p ≠ 50 → am_I (am_sI h 50 j y) p = am_I h p := fun p hp => hp_I' _ _ _ hp
  unfold T8; rw [i 28 (by decide), i 29 (by decide), i 34 (by decide), i 35 (by decide), i 30 (by decide), i 36 (by decide)]; exact t
theorem sw_1 {r : TR} (hr : r.all) {sd : Nat → Bool} {cap qs qn : Nat} (sp : (svAll r).sp = false) (nw : ¬ wellT r sd) {h : am_H} (x : EX8 h 37 cap qs qn r sd) (t : T8 h r) {o : Nat} (ho : o < 3) (F : Nat) (hF : 6000 ≤ F) : ∃ y, g_X8_seekMend (F + 1) 0 (nI o) 0 h = g_X8_seekMend F 0 (nI (o + 1)) 0 (am_sI h 50 o y) ∧ (∀ i l, i < 16 → l < 4 → bt y i = false → ¬ wellT (r.lt o i l) sd) ∧ ∀ i, i < 16 → bt y i = true → r.av o i := by
  obtain ⟨y, e, f1, f2⟩ := wo_8 hr x sp nw t ho F hF
  refine ⟨y, ?_, f1, f2⟩
  rw [g_X8_seekMend, q00, cond_true, if_neg (show ¬ Int32.ofInt 3 ≤ nI o from nI_ge (a := o) (b := 3) ho (by decide)), e, b2s, hp_vp ho (by decide), cond_true, nI_clamp (show o < 2 ^ 31 by omega), hp_1]
theorem sw_3 {r : TR} (hr : r.all) {sd : Nat → Bool} {cap qs qn : Nat} (sp : (svAll r).sp = false) (nw : ¬ wellT r sd) {h : am_H} (x : EX8 h 37 cap qs qn r sd) (t : T8 h r) (F : Nat) (hF : 6010 ≤ F) : ∃ Y : Nat → Int32, g_X8_seekMend F 0 (Int32.ofInt 0) 0 h = g_X8_seekMend (F - 4) 1 (nI (3 - 3)) 0 (am_sI (am_sI (am_sI (am_sI h 50 0 (Y 0)) 50 1 (Y 1)) 50 2 (Y 2)) 0 13 (Int32.ofInt 0)) ∧ (∀ o, o < 3 → ∀ i l, i < 16 → l < 4 → bt (Y o) i = false → ¬ wellT (r.lt o i l) sd) ∧ ∀ o, o < 3 → ∀ i, i < 16 → bt (Y o) i = true → r.av o i := by
  obtain ⟨y0, e0, a0, b0⟩ := sw_1 hr sp nw x t (o := 0) (by decide) (F - 1) (by omega)
  obtain ⟨y1, e1, a1, b1⟩ := sw_1 hr sp nw (EX8_50 x 0 y0) (T8_50 t 0 y0) (o := 1) (by decide) (F - 2) (by omega)
  obtain ⟨y2, e2, a2, b2⟩ := sw_1 hr sp nw (EX8_50 (EX8_50 x 0 y0) 1 y1) (T8_50 (T8_50 t 0 y0) 1 y1) (o := 2) (by decide) (F - 3) (by omega)
  rw [show F - 1 + 1 = F from by omega] at e0
  rw [show F - 2 + 1 = F - 1 from by omega] at e1
  rw [show F - 3 + 1 = F - 2 from by omega] at e2
  refine ⟨fun o => if o = 0 then y0 else if o = 1 then y1 else y2, ?_, fun o ho => ?_, fun o ho => ?_⟩
  · have e3 : g_X8_seekMend (F - 3) 0 (nI (2 + 1)) 0 (am_sI (am_sI (am_sI h 50 0 y0) 50 1 y1) 50 2 y2) = g_X8_seekMend (F - 4) 1 (Int32.ofInt 0) 0 (am_sI (am_sI (am_sI (am_sI h 50 0 y0) 50 1 y1) 50 2 y2) 0 13 (Int32.ofInt 0)) := by
      rw [show F - 3 = (F - 4) + 1 from by omega, g_X8_seekMend, q00, cond_true, if_pos (show Int32.ofInt 3 ≤ nI (2 + 1) by decide)]
    exact e0.trans (e1.trans (e2.trans e3))
  · rcases (by omega : o = 0 ∨ o = 1 ∨ o = 2) with rfl | rfl | rfl
    · exact a0
    · exact a1
    · exact a2
  · rcases (by omega : o = 0 ∨ o = 1 ∨ o = 2) with rfl | rfl | rfl
    · exact b0
    · exact b1
    · exact b2
