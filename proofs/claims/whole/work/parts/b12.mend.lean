/-! ===== mend ===== -/
theorem frW_R (a b : Nat) (h : am_H) (f : Nat → Int32) : frW a b a b h (am_sR h 61 f) := ⟨⟨Nat.le_refl _, fun _ _ => rfl⟩, fun _ _ _ _ => rfl, fun _ _ _ => rfl, fun _ _ _ => rfl, fun p _ _ _ _ _ d _ _ => hp_IR' _ _ d, fun k _ => by rw [hp_IR' _ _ (by decide)], Or.inl rfl, Or.inl rfl⟩
theorem X8_md {h : am_H} {S : PS} {c sl : Nat} (x : X8 h S c sl) (m : Nat) : X8 (am_sI h 0 17 (nI m)) (S.md m) c sl := by
  have x0 := x
  obtain ⟨w, ba, cf, qf, cc, qc, c3, a3, b3, c4, a4, b4, st, t, bk, on, tk, rw8, sv, co⟩ := x
  have eI : ∀ p, p ≠ 0 → am_I (am_sI h 0 17 (nI m)) p = am_I h p := fun p hp => hp_I' _ _ _ hp
  have e0 : ∀ k, k ≠ 17 → am_I (am_sI h 0 17 (nI m)) 0 k = am_I h 0 k := fun k hk => by rw [hp_I, upd_ne hk]
  obtain ⟨k0, k1, k2, k3, k4⟩ := tk
  have tk' : TK8 (am_sI h 0 17 (nI m)) (S.md m) := ⟨U8_0 k0 17 _, by rw [eI 27 (by decide)]; exact k1, by rw [eI 30 (by decide)]; exact k2, by rw [e0 11 (by decide)]; exact k3, by rw [hp_I, upd_at]; rfl⟩
  exact X8_na x0 ⟨rfl, rfl, rfl⟩ rfl rfl (fun p hp => eI p (by omega)) (fun k hk => e0 k (by omega)) (tx8_c t rfl rfl (eI 1 (by decide)) (eI 2 (by decide)) rfl) tk' (SV8_i ⟨rfl, rfl, rfl⟩ (fun p a b d => eI p (by omega)) rfl (fun k hk => e0 k (by omega)) rfl rfl rfl)
theorem PSok_md {S : PS} (ok : PSok S) {m : Nat} (hm : m ≤ 6) : PSok (S.md m) := by
  obtain ⟨a1, a2, a3, a4, a5, a6, a7, a8, a9, a10⟩ := ok
  exact ⟨a1, a2, a3, a4, a5, a6, a7, a8, a9, hm, a10.2⟩
/-- the class seeks the smallest mend -/
theorem sm_8m {h : am_H} {S : PS} {c sl : Nat} (ok : PSok S) (x : X8 h S c sl) (sp : (svAll S.r).sp = false) (nw : ¬ wellT S.r S.sd) (e13 : am_I h 0 13 = nI 1) (F : Nat) (hF : 1000000000 ≤ F) : ∃ h' c1 z1, f_X8_seekMend F h = some (((), h'), c1, z1) ∧ X8 (am_sI h' 0 15 (Int32.ofInt 1)) S (c + c1) (sl + z1) ∧ MD h' (mdO S.r S.sd S.na 3) ∧ same9 h (am_sI h' 0 15 (Int32.ofInt 1)) := by
  obtain ⟨w, ba, cf, qf, cc, qc, c3, a3, b3, c4, a4, b4, st, t, bk, on, tk, rw8, sv, co⟩ := x
  have dm : D8m h S.r S.sd c3 a3 b3 := by
    rcases sv.1.2 with q | q
    · rw [e13] at q; exact absurd q (by decide)
    · exact q
  have ex := D8m_x dm sp
  obtain ⟨⟨r1, r2, r3⟩, ⟨r4, r5, r6⟩, ⟨r7, r8, r9⟩, ⟨r10, r11, r12⟩, r13⟩ := rw8
  obtain ⟨ga, gb, la, lb, h98⟩ := gr_at r7
  obtain ⟨ha, hb, ma, mb, -⟩ := gr_at r10
  have se : sep4 a3 b3 a4 b4 := ⟨(fun e => by rw [e, r11] at r8; cases r8), (fun e => by rw [e, r12] at r8; cases r8), (fun e => by rw [e, r11] at r9; cases r9), (fun e => by rw [e, r12] at r9; cases r9)⟩
  have e61 := pf_fillF (q := 61) (N := 3) (x := Int32.ofInt (-1)) (by decide) (F - 4) h (sK st 61)
  rw [show F - 4 + 3 + 1 = F from by omega] at e61
  generalize hh2 : am_sR h 61 (hp_fl (am_I h 61) 0 3 (Int32.ofInt (-1))) = h2 at e61
  have i2 : ∀ p, p ≠ 61 → am_I h2 p = am_I h p := fun p hp => by rw [← hh2, hp_IR' _ _ hp]
  have s2 : h2.1 = h.1 ∧ am_K h2 = am_K h ∧ am_A h2 = am_A h ∧ am_J h2 = am_J h := by rw [← hh2]; exact ⟨rfl, rfl, rfl, rfl⟩
  have fw2 : frW a4 b4 a4 b4 h h2 := by rw [← hh2]; exact frW_R a4 b4 h _
  have md2 : MD h2 none := fun v hv => by
    rw [← hh2, hp_IR]; unfold hp_fl; rw [if_pos ⟨by omega, hv⟩]; rfl
  obtain ⟨k0, k1, k2, k3, k4⟩ := tk
  have st2 : am_stat h2 := by unfold am_stat; rw [s2.1, s2.2.1, s2.2.2.1]; exact st
  have sk : SK h2 S.r S.sd S.na c3 a3 b3 a4 b4 (am_I h2 30) := by
    refine ⟨⟨fun o ho => ?_, rfl, fun o i ho i1 hi => ?_⟩, ?_, ?_, ?_, st2, se, md2⟩
    · rcases ok.2.2.2.2.2.1 o ho with q | ⟨b, hb', q, -⟩
      · exact ⟨by rw [na_none q]; omega, Or.inl ⟨by rw [i2 27 (by decide), k1 o ho, q]; rfl, na_none q⟩⟩
      · obtain ⟨y1, qc', qf', z1, -, -, ⟨y2, y3, -⟩, -⟩ := bk.2.1 b hb'
        have p1 := z1.1
        have p2 := z1.2.1
        have p3 := z1.2.2
        refine ⟨by rw [na_some q]; exact (ok.2.2.1 b hb').1, Or.inr ⟨b, ba b, by have := ok.2.1; omega, by rw [i2 27 (by decide), k1 o ho, q]; rfl, by rw [s2.2.2.1]; exact y1, by rw [s2.2.1]; exact y2, by rw [i2 _ (by omega), na_some q]; exact y3, p1, by rw [s2.1]; exact p2, (fun e => by rw [e, r11] at p3; cases p3), (fun e => by rw [e, r12] at p3; cases p3)⟩⟩
    · rw [i2 30 (by decide)]
      refine ⟨k2 o i ho i1 hi, ?_⟩
      show S.cd o i % 10 < 4
      rcases ok.2.2.2.2.2.1 o ho with q | ⟨b, hb', q, -⟩
      · rw [na_none q] at hi; omega
      · rw [na_some q] at hi
        rw [cd_some q]
        exact ((ok.2.2.1 b hb').2.1 i i1 hi).2.2
    · have := k0.1
      unfold T8; rw [i2 28 (by decide), i2 29 (by decide), i2 34 (by decide), i2 35 (by decide), i2 30 (by decide), i2 36 (by decide)]; exact this
    · have := k0.2.1
      unfold S8; rw [i2 33 (by decide), i2 36 (by decide)]; exact this
    · exact EX8_W ex fw2 (by omega) (by omega) se
  have g2 : GR h2 49 c4 a4 b4 := GR_E s2.1 s2.2.1 s2.2.2.1 r10
  obtain ⟨h3, c4', a4', b4', c1, z1, g3, f3, m30, st3, ⟨w1, w2, w3⟩, e3, md3⟩ := sk_o (PS_all ok) sp nw 3 (Nat.le_refl _) h2 c4 a4 b4 F (by omega) sk g2
  have fW := frW_t fw2 f3
  have ex3 := EX8_W ex fW (by omega) (by omega) se
  obtain ⟨⟨x1, xk⟩, x2, x3, x4, x5, x6, x7, x8⟩ := fW
  have i3 : ∀ p, p < 37 → p ≠ 28 → p ≠ 31 → p ≠ 30 → am_I h3 p = am_I h p := fun p a b d e => x5 p (by omega) (by omega) b d e (by omega) (by omega) (by omega)
  have m30' : am_I h3 30 = am_I h 30 := by rw [m30, i2 30 (by decide)]
  have j : ∀ p, p ≠ 0 → am_I (am_sI h3 0 15 (Int32.ofInt 1)) p = am_I h3 p := fun p hp => hp_I' _ _ _ hp
  have j0 : ∀ k, k ≠ 15 → am_I (am_sI h3 0 15 (Int32.ofInt 1)) 0 k = am_I h 0 k := fun k hk => by rw [hp_I, upd_ne hk, i3 0 (by decide) (by decide) (by decide) (by decide)]
  have fz : frFz w (fun q => if q < h.1 then w q else 4) h (am_sI h3 0 15 (Int32.ofInt 1)) := ⟨x1, fun p z => by
    have p1 := z.1
    have p2 := z.2.1
    have p3 := z.2.2
    exact ⟨by rw [fill_eq p2]; exact p3, xk p p2, by rw [j p (by omega)]; exact x5 p p2 (by omega) (by omega) (by omega) (by omega) (by omega) (fun e => by rw [e, r11] at p3; cases p3) (fun e => by rw [e, r12] at p3; cases p3), x3 p p2 (by omega)⟩⟩
  obtain ⟨bk', gm⟩ := BK8_f fz bk (j0 5 (by decide)) (x3 25 (by omega) (by decide))
  have hs : ∀ p, p = 27 ∨ p = 29 ∨ p = 30 ∨ p = 33 ∨ p = 34 ∨ p = 35 ∨ p = 36 → am_I (am_sI h3 0 15 (Int32.ofInt 1)) p = am_I h p := fun p hp => by
    rw [j p (by omega)]
    by_cases q : p = 30
    · rw [q]; exact m30'
    · exact i3 p (by omega) (by omega) (by omega) q
  refine ⟨h3, c1, z1, ?_, ⟨(fun q => if q < h.1 then w q else 4), ba, cf, qf, cc, qc, c3, a3, b3, c4', a4', b4', st3, tx8_c t (xk 1 (by omega)) (xk 2 (by omega)) (by rw [j 1 (by decide)]; exact i3 1 (by decide) (by decide) (by decide) (by decide)) (by rw [j 2 (by decide)]; exact i3 2 (by decide) (by decide) (by decide) (by decide)) (x3 1 (by omega) (by decide)), bk', ON8_f fz on (j0 7 (by decide)) (x3 26 (by omega) (by decide)), TK8_g ⟨k0, k1, k2, k3, k4⟩ (by rw [j 28 (by decide)]; exact x6 0 (by decide)) hs (by show am_J h3 0 10 = am_J h 0 10; rw [x2 0 (by omega) (by decide) (by decide)]) (fun k hk => j0 k (by omega)), ⟨⟨FR_g r1 x1 xk (x3 12 (by omega) (by decide)), r2, fun k a b => ?_⟩, ⟨CR_g r4 x1 xk (x3 19 (by omega) (by decide)), r5, fun k a b => ?_⟩, ⟨GR_g r7 x1 xk (x3 37 (by omega) (by decide)), ?_, ?_⟩, ⟨g3, ?_, ?_⟩, fun p hp => ?_⟩, ⟨⟨GR_g r7 x1 xk (x3 37 (by omega) (by decide)), Or.inr ⟨by rw [j0 13 (by decide)]; exact e13, Or.inr ⟨sp, EX8_0 ex3 _ _⟩⟩⟩, Or.inr ⟨by rw [hp_I, upd_at]; rfl, fun v hv => by rw [j 61 (by decide)]; exact md3 v hv⟩⟩, ?_⟩, md3, fun p a b => ⟨by rw [j p (by omega)]; exact x5 p (by omega) (by omega) (by omega) (by omega) (by omega) (by omega) (by omega) (by omega), x2 p (by omega) (by omega) (by omega)⟩⟩
  · unfold f_X8_seekMend
    rw [e61, b2s]; exact e3
  · rw [fill_eq (r1.1 k a b).2.1]; exact r3 k a b
  · rw [fill_eq (r4.1 k a b).2.1]; exact r6 k a b
  · rw [fill_eq la]; exact r8
  · rw [fill_eq lb]; exact r9
  · rcases x7 with e | e
    · rw [e, fill_eq ma]; exact r11
    · exact if_neg (by omega)
  · rcases x8 with e | e
    · rw [e, fill_eq mb]; exact r12
    · exact if_neg (by omega)
  · rw [fill_eq (show p < h.1 by omega)]; exact r13 p hp
  · rw [gm]
    obtain ⟨o1, o2⟩ := co
    exact ⟨by omega, by omega⟩
theorem K9_md {h : am_H} {S : PS} (x : X9p h S) (m : Nat) : X9p (am_sI h 62 13 (nI m)) (S.md m) := by
  obtain ⟨st, y, ⟨⟨k1, k2, k3, k4⟩, z, k5, k6, k7⟩, c9⟩ := x
  have e0 : ∀ q, q ≠ 62 → am_I (am_sI h 62 13 (nI m)) q = am_I h q := fun q hq => hp_I' _ _ _ hq
  have e62 : ∀ k, k ≠ 13 → am_I (am_sI h 62 13 (nI m)) 62 k = am_I h 62 k := fun k hk => by rw [hp_I, upd_ne hk]
  exact ⟨st, Y9_c y (fun j hj => e62 j (by omega)) (fun q a b => e0 q (by omega)), ⟨⟨by rw [e62 11 (by decide)]; exact k1, by rw [e0 70 (by decide), e0 89 (by decide)]; exact k2, by rw [e0 88 (by decide)]; exact k3, by rw [e0 69 (by decide)]; exact k4⟩, by unfold Z9; rw [e0 89 (by decide)]; exact z, by rw [e62 40 (by decide)]; exact k5, by rw [e62 12 (by decide)]; exact k6, by rw [hp_I, upd_at]; rfl⟩, C9_c c9 (fun j a b => e62 j (by omega)) (fun q a b => e0 q (by omega)) rfl⟩
theorem X9_M {h h' : am_H} {S : PS} (x : X9p h S) (f : frM9 h h') (u : U9 h' S.r S.sd S.s) (e40 : am_I h' 62 40 = Int32.ofInt (-1)) (e52 : am_I h' 62 52 = nI 0) : X9p h' S := by
  obtain ⟨st, y, k, -⟩ := x
  refine ⟨stat_8 st (same8_M f), Y9_c y (fun j hj => f.2.2.2 j (by omega)) (fun q a b => f.2.2.1 q (by omega) (by omega)), ?_, Or.inl e52⟩
  obtain ⟨⟨k1, k2, k3, k4⟩, z, k5, k6, k7⟩ := k
  exact ⟨⟨by rw [f.2.2.2 11 (by omega)]; exact k1, u.1.2.1, u.1.2.2.1, by rw [f.2.2.1 69 (by decide) (by decide)]; exact k4⟩, u.2.1, e40, by rw [f.2.2.2 12 (by omega)]; exact k6, by rw [f.2.2.2 13 (by omega)]; exact k7⟩
