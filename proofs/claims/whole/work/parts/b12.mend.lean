/-! ===== mend ===== -/
theorem X8_md {h : am_H} {S : PS} {c sl : Nat} (x : X8 h S c sl) (m : Nat) : X8 (am_sI h 0 17 (nI m)) (S.md m) c sl := by
  have x0 := x
  obtain ⟨w, ba, cf, qf, cc, qc, c3, a3, b3, st, t, bk, on, tk, rw8, sv, co⟩ := x
  have eI : ∀ p, p ≠ 0 → am_I (am_sI h 0 17 (nI m)) p = am_I h p := fun p hp => hp_I' _ _ _ hp
  have e0 : ∀ k, k ≠ 17 → am_I (am_sI h 0 17 (nI m)) 0 k = am_I h 0 k := fun k hk => by rw [hp_I, upd_ne hk]
  obtain ⟨k0, k1, k2, k3, k4⟩ := tk
  have tk' : TK8 (am_sI h 0 17 (nI m)) (S.md m) := ⟨U8_0 k0 17 _, by rw [eI 27 (by decide)]; exact k1, by rw [eI 30 (by decide)]; exact k2, by rw [e0 11 (by decide)]; exact k3, by rw [hp_I, upd_at]; rfl⟩
  exact X8_na x0 ⟨rfl, rfl, rfl⟩ rfl rfl (fun p hp => eI p (by omega)) (fun k hk => e0 k (by omega)) (tx8_c t rfl rfl (eI 1 (by decide)) (eI 2 (by decide)) rfl) tk' (SV8_i ⟨rfl, rfl, rfl⟩ (fun p a b d => eI p (by omega)) rfl (fun k hk => e0 k (by omega)) rfl rfl rfl)
theorem PSok_md {S : PS} (ok : PSok S) {m : Nat} (hm : m ≤ 6) : PSok (S.md m) := by
  obtain ⟨a1, a2, a3, a4, a5, a6, a7, a8, a9, a10⟩ := ok
  exact ⟨a1, a2, a3, a4, a5, a6, a7, a8, a9, hm, a10.2⟩
/-- the class seeks the smallest mend -/
theorem sm_8m {h : am_H} {S : PS} {c sl : Nat} (ok : PSok S) (x : X8 h S c sl) (sp : (svAll S.r).sp = false) (nw : ¬ wellT S.r S.sd) (e13 : am_I h 0 13 = nI 1) (F : Nat) (hF : 1000000000 ≤ F) : ∃ h' c1 z1, f_X8_seekMend F h = some (((), h'), c1, z1) ∧ X8 (am_sI h' 0 14 (Int32.ofInt 1)) S (c + c1) (sl + z1) ∧ MD h' (mdO S.r S.sd S.na 3) ∧ same9 h (am_sI h' 0 14 (Int32.ofInt 1)) := by
  obtain ⟨w, ba, cf, qf, cc, qc, c3, a3, b3, st, t, bk, on, tk, rw8, sv, co⟩ := x
  have dm : D8m h S.r S.sd c3 a3 b3 := by
    rcases sv.1.2 with q | q
    · rw [e13] at q; exact absurd q (by decide)
    · exact q
  have ex := D8m_x dm sp
  obtain ⟨⟨r1, r2, r3⟩, ⟨r4, r5, r6⟩, ⟨r7, r8, r9⟩, r13⟩ := rw8
  obtain ⟨ga, gb, la, lb, h98⟩ := gr_at r7
  have e61 := pf_fillF (q := 49) (N := 3) (x := Int32.ofInt (-1)) (by decide) (F - 4) h (sK st 49)
  rw [show F - 4 + 3 + 1 = F from by omega] at e61
  generalize hh2 : am_sR h 49 (hp_fl (am_I h 49) 0 3 (Int32.ofInt (-1))) = h2 at e61
  have i2 : ∀ p, p ≠ 49 → am_I h2 p = am_I h p := fun p hp => by rw [← hh2, hp_IR' _ _ hp]
  have s2 : h2.1 = h.1 ∧ am_K h2 = am_K h ∧ am_A h2 = am_A h ∧ am_J h2 = am_J h := by rw [← hh2]; exact ⟨rfl, rfl, rfl, rfl⟩
  have md2 : MD h2 none := fun v hv => by
    rw [← hh2, hp_IR]; unfold hp_fl; rw [if_pos ⟨by omega, hv⟩]; rfl
  obtain ⟨k0, k1, k2, k3, k4⟩ := tk
  have t2 : T8 h2 S.r := by
    have := k0.1
    unfold T8; rw [i2 28 (by decide), i2 29 (by decide), i2 34 (by decide), i2 35 (by decide), i2 30 (by decide), i2 36 (by decide)]; exact this
  have ex2 : EX8 h2 37 c3 a3 b3 S.r S.sd := EX8_g ex (Nat.le_of_eq s2.1.symm) (fun p _ => by rw [s2.2.1]) (by rw [s2.2.2.2]) (by rw [s2.2.2.1]) (fun p a b => i2 p (by omega)) (i2 a3 (by omega)) (i2 b3 (by omega))
  obtain ⟨Y, e3, hY, hZ⟩ := sw_3 (PS_all ok) sp nw ex2 t2 F (by omega)
  generalize hh5 : am_sI (am_sI (am_sI (am_sI h2 50 0 (Y 0)) 50 1 (Y 1)) 50 2 (Y 2)) 0 13 (Int32.ofInt 0) = h5 at e3
  have s5 : h5.1 = h.1 ∧ am_K h5 = am_K h ∧ am_A h5 = am_A h ∧ am_J h5 = am_J h := by rw [← hh5, ← hh2]; exact ⟨rfl, rfl, rfl, rfl⟩
  have j5 : ∀ p, p ≠ 50 → p ≠ 0 → am_I h5 p = am_I h2 p := fun p a b => by rw [← hh5, hp_I' _ _ _ b, hp_I' _ _ _ a, hp_I' _ _ _ a, hp_I' _ _ _ a]
  have i5 : ∀ p, p ≠ 49 → p ≠ 50 → p ≠ 0 → am_I h5 p = am_I h p := fun p a b d => by rw [j5 p b d, i2 p a]
  have i0 : ∀ k, k ≠ 13 → am_I h5 0 k = am_I h 0 k := fun k hk => by rw [← hh5, hp_I, upd_ne hk, hp_I' _ _ _ (by decide), hp_I' _ _ _ (by decide), hp_I' _ _ _ (by decide), i2 0 (by decide)]
  have i13 : am_I h5 0 13 = nI 0 := by rw [← hh5, hp_I, upd_at]; rfl
  have iY : ∀ o, o < 3 → am_I h5 50 o = Y o := fun o ho => by
    rw [← hh5, hp_I' _ _ _ (by decide), hp_I, hp_I, hp_I]
    rcases (by omega : o = 0 ∨ o = 1 ∨ o = 2) with rfl | rfl | rfl
    · rw [upd_ne (by decide), upd_ne (by decide), upd_at]
    · rw [upd_ne (by decide), upd_at]
    · rw [upd_at]
  have md5 : MD h5 none := fun v hv => by rw [j5 49 (by decide) (by decide)]; exact md2 v hv
  have st5 : am_stat h5 := by unfold am_stat; rw [s5.1, s5.2.1, s5.2.2.1]; exact st
  have sk : SK h5 S.r S.sd S.na (am_I h5 30) Y := by
    refine ⟨⟨rfl, fun o i ho i1 hi => ?_⟩, ?_, ?_, st5, md5, iY⟩
    · rw [i5 30 (by decide) (by decide) (by decide)]
      refine ⟨k2 o i ho i1 hi, ?_⟩
      show S.cd o i % 10 < 4
      rcases ok.2.2.2.2.2.1 o ho with q | ⟨b, hb', q, -⟩
      · rw [na_none q] at hi; omega
      · rw [na_some q] at hi
        rw [cd_some q]
        exact ((ok.2.2.1 b hb').2.1 i i1 hi).2.2
    · unfold T8; rw [j5 28 (by decide) (by decide), j5 29 (by decide) (by decide), j5 34 (by decide) (by decide), j5 35 (by decide) (by decide), j5 30 (by decide) (by decide), j5 36 (by decide) (by decide)]; exact t2
    · have := k0.2.1
      unfold S8; rw [i5 33 (by decide) (by decide) (by decide), i5 36 (by decide) (by decide) (by decide)]; exact this
  have g5 : GR h5 37 c3 a3 b3 := GR_E s5.1 s5.2.1 s5.2.2.1 r7
  have hN : ∀ o, o < 3 → S.na o ≤ 15 := fun o ho => by
    rcases ok.2.2.2.2.2.1 o ho with q | ⟨b, hb', q, -⟩
    · rw [na_none q]; omega
    · rw [na_some q]; exact (ok.2.2.1 b hb').1
  have hA : ∀ o, o < 3 → ∀ i, i < 16 → 1 ≤ i → bt (Y o) i = true → i ≤ S.na o := fun o ho i i16 i1 q => by
    obtain ⟨b, hb, es, hin⟩ := PS_av ok ho i1 (hZ o ho i i16 q)
    rw [na_some es]; exact hin
  obtain ⟨h3, c3', a3', b3', c1, z1, g3, f3, m30, st3, ⟨w1, w2, w3⟩, e4, md3⟩ := sk_o (PS_all ok) hY hA hN 3 (Nat.le_refl _) h5 c3 a3 b3 (F - 4) (by omega) sk g5
  obtain ⟨⟨x1, xk⟩, x2, x3, x4, x5, x6, x7, x8⟩ := f3
  rw [s5.1] at x1 xk x2 x3 x5 x7 x8
  rw [s5.2.1] at xk
  rw [s5.2.2.2] at x2
  rw [s5.2.2.1] at x3 x4
  have y5 : ∀ p, p < h.1 → (p < 37 ∨ 46 < p) → p ≠ 28 → p ≠ 31 → p ≠ 30 → p ≠ 49 → p ≠ 50 → p ≠ 0 → p ≠ a3 → p ≠ b3 → am_I h3 p = am_I h p := fun p q1 q2 q3 q4 q5 q6 q7 q8 q9 q10 => by rw [x5 p q1 q2 q3 q4 q5 q6 q9 q10, i5 p q6 q7 q8]
  have i3 : ∀ p, p < 37 → p ≠ 0 → p ≠ 28 → p ≠ 31 → p ≠ 30 → am_I h3 p = am_I h p := fun p a a0 b d e => y5 p (by omega) (by omega) b d e (by omega) (by omega) a0 (by omega) (by omega)
  have i30 : am_I h3 0 = am_I h5 0 := x5 0 (by omega) (by omega) (by decide) (by decide) (by decide) (by decide) (by omega) (by omega)
  have m30' : am_I h3 30 = am_I h 30 := by rw [m30, i5 30 (by decide) (by decide) (by decide)]
  have j : ∀ p, p ≠ 0 → am_I (am_sI h3 0 14 (Int32.ofInt 1)) p = am_I h3 p := fun p hp => hp_I' _ _ _ hp
  have j0 : ∀ k, k ≠ 13 → k ≠ 14 → am_I (am_sI h3 0 14 (Int32.ofInt 1)) 0 k = am_I h 0 k := fun k h13 hk => by rw [hp_I, upd_ne hk, i30, i0 k h13]
  have j13 : am_I (am_sI h3 0 14 (Int32.ofInt 1)) 0 13 = nI 0 := by rw [hp_I, upd_ne (by decide), i30, i13]
  have fz : frFz w (fun q => if q < h.1 then w q else 3) h (am_sI h3 0 14 (Int32.ofInt 1)) := ⟨x1, fun p z => by
    have p1 := z.1
    have p2 := z.2.1
    have p3 := z.2.2
    exact ⟨by rw [fill_eq p2]; exact p3, xk p p2, by rw [j p (by omega)]; exact y5 p p2 (by omega) (by omega) (by omega) (by omega) (by omega) (by omega) (by omega) (fun e => by rw [e, r8] at p3; cases p3) (fun e => by rw [e, r9] at p3; cases p3), x3 p p2 (by omega)⟩⟩
  obtain ⟨bk', gm⟩ := BK8_f fz bk (j0 5 (by decide) (by decide)) (x3 25 (by omega) (by decide))
  have hs : ∀ p, p = 27 ∨ p = 29 ∨ p = 30 ∨ p = 33 ∨ p = 34 ∨ p = 35 ∨ p = 36 → am_I (am_sI h3 0 14 (Int32.ofInt 1)) p = am_I h p := fun p hp => by
    rw [j p (by omega)]
    by_cases q : p = 30
    · rw [q]; exact m30'
    · exact i3 p (by omega) (by omega) (by omega) (by omega) q
  have e28 : am_I h3 28 0 = am_I h 28 0 := by rw [x6 0 (by decide), i5 28 (by decide) (by decide) (by decide)]
  refine ⟨h3, c1, z1, ?_, ⟨(fun q => if q < h.1 then w q else 3), ba, cf, qf, cc, qc, c3', a3', b3', st3, tx8_c t (xk 1 (by omega)) (xk 2 (by omega)) (by rw [j 1 (by decide)]; exact i3 1 (by decide) (by decide) (by decide) (by decide) (by decide)) (by rw [j 2 (by decide)]; exact i3 2 (by decide) (by decide) (by decide) (by decide) (by decide)) (x3 1 (by omega) (by decide)), bk', ON8_f fz on (j0 7 (by decide) (by decide)) (x3 26 (by omega) (by decide)), TK8_g ⟨k0, k1, k2, k3, k4⟩ (by rw [j 28 (by decide)]; exact e28) hs (by show am_J h3 0 10 = am_J h 0 10; rw [x2 0 (by omega) (by decide) (by decide)]) (fun k hk => j0 k (by omega) (by omega)), ⟨⟨FR_g r1 x1 xk (x3 12 (by omega) (by decide)), r2, fun k a b => ?_⟩, ⟨CR_g r4 x1 xk (x3 19 (by omega) (by decide)), r5, fun k a b => ?_⟩, ⟨g3, ?_, ?_⟩, fun p hp => ?_⟩, ⟨⟨g3, Or.inl j13⟩, Or.inr ⟨by rw [hp_I, upd_at]; rfl, fun v hv => by rw [j 49 (by decide)]; exact md3 v hv⟩⟩, ?_⟩, md3, fun p a b => ⟨by rw [j p (by omega)]; exact y5 p (by omega) (by omega) (by omega) (by omega) (by omega) (by omega) (by omega) (by omega) (by omega) (by omega), x2 p (by omega) (by omega) (by omega)⟩⟩
  · unfold f_X8_seekMend
    rw [e61, b2s]; exact e3.trans e4
  · rw [fill_eq (r1.1 k a b).2.1]; exact r3 k a b
  · rw [fill_eq (r4.1 k a b).2.1]; exact r6 k a b
  · rcases x7 with e | e
    · rw [e, fill_eq la]; exact r8
    · exact if_neg (by omega)
  · rcases x8 with e | e
    · rw [e, fill_eq lb]; exact r9
    · exact if_neg (by omega)
  · rw [fill_eq (show p < h.1 by omega)]; exact r13 p hp
  · rw [gm]
    obtain ⟨o1, o2⟩ := co
    exact ⟨by omega, by omega⟩
theorem K9_md {h : am_H} {S : PS} (x : X9p h S) (m : Nat) : X9p (am_sI h 51 13 (nI m)) (S.md m) := by
  obtain ⟨st, y, ⟨⟨k1, k2, k3, k4⟩, z, k5, k6, k7⟩, c9⟩ := x
  have e0 : ∀ q, q ≠ 51 → am_I (am_sI h 51 13 (nI m)) q = am_I h q := fun q hq => hp_I' _ _ _ hq
  have e62 : ∀ k, k ≠ 13 → am_I (am_sI h 51 13 (nI m)) 51 k = am_I h 51 k := fun k hk => by rw [hp_I, upd_ne hk]
  exact ⟨st, Y9_c y (fun j hj => e62 j (by omega)) (fun q a b => e0 q (by omega)), ⟨⟨by rw [e62 11 (by decide)]; exact k1, by rw [e0 59 (by decide), e0 78 (by decide)]; exact k2, by rw [e0 77 (by decide)]; exact k3, by rw [e0 58 (by decide)]; exact k4⟩, by unfold Z9; rw [e0 78 (by decide)]; exact z, by rw [e62 40 (by decide)]; exact k5, by rw [e62 12 (by decide)]; exact k6, by rw [hp_I, upd_at]; rfl⟩, C9_c c9 (fun j a b => e62 j (by omega)) (fun q a b => e0 q (by omega)) rfl⟩
theorem X9_M {h h' : am_H} {S : PS} (x : X9p h S) (f : frM9 h h') (u : U9 h' S.r S.sd S.s) (e40 : am_I h' 51 40 = Int32.ofInt (-1)) (e52 : am_I h' 51 52 = nI 0) : X9p h' S := by
  obtain ⟨st, y, k, -⟩ := x
  refine ⟨stat_8 st (same8_M f), Y9_c y (fun j hj => f.2.2.2 j (by omega)) (fun q a b => f.2.2.1 q (by omega) (by omega)), ?_, Or.inl e52⟩
  obtain ⟨⟨k1, k2, k3, k4⟩, z, k5, k6, k7⟩ := k
  exact ⟨⟨by rw [f.2.2.2 11 (by omega)]; exact k1, u.1.2.1, u.1.2.2.1, by rw [f.2.2.1 58 (by decide) (by decide)]; exact k4⟩, u.2.1, e40, by rw [f.2.2.2 12 (by omega)]; exact k6, by rw [f.2.2.2 13 (by omega)]; exact k7⟩
