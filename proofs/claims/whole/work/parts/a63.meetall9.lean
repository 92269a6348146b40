/-! ===== the reference meets all states: whole ===== -/
theorem mc_9 (n : Nat) (x1 : Int64) : ∀ (d k : Nat) (h : am_H), k + d = 8192 → g_X9_meetAll (n + d) 0 x1 (nI k) 0 0 h = g_X9_meetAll n 0 x1 (nI 8192) 0 0 (am_sR h 84 (hp_fl (am_I h 84) k 8192 (nI 0))) := by
  intro d
  induction d with
  | zero =>
    intro k h hk
    have : k = 8192 := by omega
    subst this
    rw [fl_nil, hp_sR_id]; rfl
  | succ d ih =>
    intro k h hk
    rw [show n + (d + 1) = (n + d) + 1 from rfl, g_X9_meetAll, q00, cond_true, if_neg (show ¬ Int32.ofInt 8192 ≤ nI k from nI_ge (a := k) (b := 8192) (by omega) (by decide)), hp_vp (show k < 8192 by omega) (by decide), cond_true, nI_clamp (show k < 2 ^ 31 by omega), hp_1, show Int32.ofInt 0 = nI 0 from rfl, ih (k + 1) _ (by omega), hp_I, fl_step _ _ (by omega), hp_sR_sI]
/-- what the reference's calls about all states leave as it was -/
def frA9 (h h' : am_H) : Prop := (h'.1 = h.1 ∧ am_K h' = am_K h ∧ am_A h' = am_A h) ∧ (∀ q, q ≠ 80 → am_J h' q = am_J h q) ∧ (∀ q, q ≠ 51 → (q < 77 ∨ 86 < q) → am_I h' q = am_I h q) ∧ (∀ k, k ≠ 44 → k ≠ 50 → k ≠ 51 → k ≠ 52 → k ≠ 53 → k ≠ 56 → am_I h' 51 k = am_I h 51 k) ∧ (Z9 h → Z9 h')
theorem frA9_r (h : am_H) : frA9 h h := ⟨⟨rfl, rfl, rfl⟩, fun _ _ => rfl, fun _ _ _ => rfl, fun _ _ _ _ _ _ _ => rfl, id⟩
theorem frA9_t {a b c : am_H} (f : frA9 a b) (g : frA9 b c) : frA9 a c := by
  obtain ⟨⟨f1, f2, f3⟩, f4, f5, f6, f7⟩ := f
  obtain ⟨⟨g1, g2, g3⟩, g4, g5, g6, g7⟩ := g
  exact ⟨⟨g1.trans f1, g2.trans f2, g3.trans f3⟩, fun q q1 => (g4 q q1).trans (f4 q q1), fun q a1 a2 => (g5 q a1 a2).trans (f5 q a1 a2), fun k b1 b2 b3 b4 b5 b6 => (g6 k b1 b2 b3 b4 b5 b6).trans (f6 k b1 b2 b3 b4 b5 b6), fun z => g7 (f7 z)⟩
theorem frA9_M {h h' : am_H} (f : frML h h') : frA9 h h' := by
  obtain ⟨f1, f4, f5, f6, f7, f8, f9⟩ := f
  exact ⟨f1, f4, fun q a b => f5 q a (by omega) (by omega) (by omega) (by omega) (by omega) (by omega) (by omega) (by omega), fun k a b c _ _ d => f6 k a b c d, fun z => ⟨f7.trans z.1, f8.trans z.2.1, f9.trans z.2.2⟩⟩
/-- what is met, when it is -/
def MA9 (h : am_H) (r : TR) : Prop := ((svAll r).sp = false ∧ Q9 h (svAll r) ∧ ∀ j, j ≤ (svAll r).n → am_I h 85 j = nI (svRow r j).m) ∨ ((svAll r).sp = true ∧ am_I h 51 51 = nI 1)
theorem ma_9 {h : am_H} {r : TR} (hr : r.ok) (h0 : r.sk s00) {sn : TS} (hn : r.sk sn) (t : T9 h r sn) (c : am_I h 51 52 = nI 0) (F : Nat) (hF : 220000 ≤ F) : ∃ h', f_X9_meetAll F h = some ((), h') ∧ frA9 h h' ∧ T9 h' r sn ∧ am_I h' 51 52 = nI 1 ∧ am_I h' 51 53 = nI 0 ∧ MA9 h' r := by
  have w := T9_W t
  generalize hh1 : am_sI (am_sI (am_sI h 51 52 (Int32.ofInt 1)) 51 53 (Int32.ofInt 0)) 51 56 (Int32.ofInt 0) = h1
  have i1 : ∀ q, q ≠ 51 → am_I h1 q = am_I h q := fun q hq => by rw [← hh1, hp_I' _ _ _ hq, hp_I' _ _ _ hq, hp_I' _ _ _ hq]
  have i62 : ∀ k, am_I h1 51 k = upd (upd (upd (am_I h 51) 52 (Int32.ofInt 1)) 53 (Int32.ofInt 0)) 56 (Int32.ofInt 0) k := fun k => by rw [← hh1, hp_I, hp_I, hp_I]
  have j1 : am_J h1 = am_J h := by rw [← hh1]; rfl
  have s1 : h1.1 = h.1 ∧ am_K h1 = am_K h ∧ am_A h1 = am_A h := by rw [← hh1]; exact ⟨rfl, rfl, rfl⟩
  have t1 : T9 h1 r sn := T9_c t (fun k hk => by rw [i62, upd_ne (by omega), upd_ne (by omega), upd_ne (by omega)]) (fun q hq => i1 q (by omega))
  have a1 := as_st (F - 20) (T9_W t1) (sk_w hn)
  rw [show F - 20 + 20 = F from by omega] at a1
  generalize hh2 : am_sR h1 84 (hp_fl (am_I h1 84) 0 8192 (nI 0)) = h2
  have i2 : ∀ q, q ≠ 84 → am_I h2 q = am_I h1 q := fun q hq => by rw [← hh2, hp_IR' _ _ hq]
  have j2 : am_J h2 = am_J h1 := by rw [← hh2]; rfl
  have s2 : h2.1 = h1.1 ∧ am_K h2 = am_K h1 ∧ am_A h2 = am_A h1 := by rw [← hh2]; exact ⟨rfl, rfl, rfl⟩
  have e95 : ∀ s, s < 8192 → am_I h2 84 s = nI 0 := fun s hs => by rw [← hh2, hp_IR]; unfold hp_fl; rw [if_pos ⟨by omega, hs⟩]
  have t2 : T9 h2 r sn := T9_c t1 (fun k hk => by rw [i2 51 (by decide)]) (fun q hq => i2 q (by omega))
  obtain ⟨n, hn'⟩ : ∃ n, F = n + 8192 + 1 := ⟨F - 8193, by omega⟩
  obtain ⟨h3, e3, w3, z3, e12, ⟨x1, x2, x3, x4⟩, y1, y2⟩ := bg_9 (n - 20) h2
  rw [show n - 20 + 20 = n from by omega] at e3
  generalize hh4 : am_sI (am_sI (am_sI h3 51 12 (am_I h2 51 12)) 51 50 (Int32.ofInt 0)) 51 51 (Int32.ofInt 0) = h4
  have i4 : ∀ q, q ≠ 51 → am_I h4 q = am_I h3 q := fun q hq => by rw [← hh4, hp_I' _ _ _ hq, hp_I' _ _ _ hq, hp_I' _ _ _ hq]
  have i462 : ∀ k, am_I h4 51 k = upd (upd (upd (am_I h3 51) 12 (am_I h2 51 12)) 50 (Int32.ofInt 0)) 51 (Int32.ofInt 0) k := fun k => by rw [← hh4, hp_I, hp_I, hp_I]
  have j4 : am_J h4 = am_J h3 := by rw [← hh4]; rfl
  have s4 : h4.1 = h3.1 ∧ am_K h4 = am_K h3 ∧ am_A h4 = am_A h3 := by rw [← hh4]; exact ⟨rfl, rfl, rfl⟩
  have i42 : ∀ k, k ≠ 50 → k ≠ 51 → am_I h4 51 k = am_I h2 51 k := by
    intro k k1 k2
    rw [i462, upd_ne k2, upd_ne k1]
    by_cases c12 : k = 12
    · rw [c12, upd_at]
    · rw [upd_ne c12, y2 k c12]
  have w4 : W9 h4 s00 := by
    unfold W9; rw [i4 77 (by decide), i4 78 (by decide)]; exact w3
  have t4 : T9 h4 r s00 := by
    have := T9_lay (s' := s00) t2 (h' := am_sR (am_sR h2 77 (am_I h4 77)) 78 (am_I h4 78)) ⟨⟨rfl, rfl, rfl, rfl⟩, fun o a b => by rw [hp_IR' _ _ b, hp_IR' _ _ a]⟩ (by unfold W9; rw [hp_IR, hp_IR' _ _ (by decide), hp_IR]; exact w4)
    refine T9_c this (fun k hk => ?_) (fun q hq => ?_)
    · rw [hp_IR' _ _ (by decide), hp_IR' _ _ (by decide)]; exact i42 k (by omega) (by omega)
    · by_cases c89 : q = 78
      · rw [c89, hp_IR]
      · by_cases c88 : q = 77
        · rw [c88, hp_IR' _ _ (by decide), hp_IR]
        · rw [hp_IR' _ _ c89, hp_IR' _ _ c88, i4 q (by omega), y1 q (by omega) c88 c89]
  have a4 := as_st (n - 20) w4 (sk_w h0)
  rw [show n - 20 + 20 = n from by omega] at a4
  have V0 : V9 h4 0 (fun _ => 0) (fun _ => 0) (fun _ => 0) (fun _ => 0) := by
    refine ⟨by rw [i462, upd_ne (by decide), upd_at]; rfl, by decide, fun i hi => absurd hi (Nat.not_lt_zero _), fun s hs => ?_, oa_0 8192 (by decide) _ _ _ (fun _ _ => rfl)⟩
    rw [i4 84 (by decide), y1 84 (by decide) (by decide) (by decide)]
    exact e95 s hs
  obtain ⟨D, hDM, hD, st⟩ := mv9_b V0 (x := lL (wN s00)) (fun k hk => absurd hk (Nat.not_lt_zero _)) (by decide) (Int32.ofInt (-1)) (Int32.ofInt (-1))
  obtain ⟨V5, e51, f5⟩ := mv9_d V0 (x := lL (wN s00)) (fun k hk => absurd hk (Nat.not_lt_zero _)) (by decide) (Int32.ofInt (-1)) (Int32.ofInt (-1)) hDM hD rfl
  have st := st n (by omega)
  revert V5 e51 f5 st
  generalize am_sI (am_sI (am_sI (am_sI (am_sJ (am_sI h4 51 51 (Int32.ofInt 0)) 80 0 (lL (wN s00))) 81 0 (Int32.ofInt (-1))) 82 0 (Int32.ofInt (-1))) 51 50 (nI (0 + 1))) 84 ((hs9 (lL (wN s00)) + D) % 8192) (nI (0 + 1)) = h5
  intro V5 e51 f5 st
  have q5 : Q9 h5 (svRow r 0) := by
    refine ⟨⟨_, V9_c V5 (fun i hi => ?_) (fun i hi => ?_) (fun i hi => ?_)⟩, e51, ?_, fun j hj => absurd hj (Nat.not_lt_zero _)⟩
    · have : i = 0 := by have hi : i < 1 := hi; omega
      subst this; rfl
    · have : i = 0 := by have hi : i < 1 := hi; omega
      subst this; rfl
    · have : i = 0 := by have hi : i < 1 := hi; omega
      subst this; rfl
    · rw [f5.2.2.2.2.2 56 (by decide) (by decide), i42 56 (by decide) (by decide), i2 51 (by decide), i62, upd_at]; rfl
  have t5 : T9 h5 r s00 := T9_c t4 (fun k hk => f5.2.2.2.2.2 k (by omega) (by omega)) (fun q hq => f5.2.2.2.2.1 q (by omega) (by omega) (by omega) (by omega))
  obtain ⟨h6, e6, f6, t6, alt⟩ := mt_9 hr h0 hn (am_I h2 51 12) 2000 0 h5 (n - 186001) (by omega) (by omega) rfl (Nat.zero_le _) q5 ⟨s00, t5⟩ (fun j _ h => absurd h (by decide))
  rw [show n - 186001 + 93 * 2000 + 1 = n from by omega] at e6
  have e52 : am_I h6 51 52 = nI 1 ∧ am_I h6 51 53 = nI 0 := by
    constructor
    · rw [f6.2.2.2.1 52 (by decide) (by decide) (by decide) (by decide), f5.2.2.2.2.2 52 (by decide) (by decide), i42 52 (by decide) (by decide), i2 51 (by decide), i62, upd_ne (by decide), upd_ne (by decide), upd_at]; rfl
    · rw [f6.2.2.2.1 53 (by decide) (by decide) (by decide) (by decide), f5.2.2.2.2.2 53 (by decide) (by decide), i42 53 (by decide) (by decide), i2 51 (by decide), i62, upd_ne (by decide), upd_at]; rfl
  refine ⟨h6, ?_, ?_, t6, e52.1, e52.2, alt⟩
  · unfold f_X9_meetAll
    have m := mc_9 (n + 1) (lL (wN sn)) 8192 0 h1 (by omega)
    rw [if_pos (show am_I h 51 52 = 0 from c), hh1, a1, b2s, hn', show n + 8192 + 1 = n + 1 + 8192 from by omega]
    refine m.trans ?_
    rw [hh2, g_X9_meetAll, q00, cond_true, if_pos (show Int32.ofInt 8192 ≤ nI 8192 by decide), e3, b2s, hh4, a4, b2s, st, b2s]
    exact e6
  · have fA : frA9 h5 h6 := frA9_M f6
    have fB : frA9 h4 h5 := frA9_M (frML_V f5)
    refine frA9_t ?_ (frA9_t fB fA)
    refine ⟨⟨s4.1.trans (x1.trans (s2.1.trans s1.1)), s4.2.1.trans (x2.trans (s2.2.1.trans s1.2.1)), s4.2.2.trans (x3.trans (s2.2.2.trans s1.2.2))⟩, fun q _ => by rw [j4, x4, j2, j1], fun q a b => by rw [i4 q a, y1 q a (by omega) (by omega), i2 q (by omega), i1 q a], fun k a b c d e f => by rw [i42 k b c, i2 51 (by decide), i62, upd_ne f, upd_ne e, upd_ne d], fun _ => ?_⟩
    unfold Z9; rw [i4 78 (by decide)]; exact z3
