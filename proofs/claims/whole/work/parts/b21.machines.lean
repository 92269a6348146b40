/-! ===== machines are made, and set against one another ===== -/
theorem so8_d : ∀ c, c < 200 → c / 10 % 10 < 3 → c % 10 < 4 → ((((nI c / (Int32.ofInt 100)) * (Int32.ofInt 12)) + (((nI c / (Int32.ofInt 10)) - (nI c / (Int32.ofInt 10)) / (Int32.ofInt 10) * (Int32.ofInt 10)) * (Int32.ofInt 4))) + (nI c - nI c / (Int32.ofInt 10) * (Int32.ofInt 10))) = nI (soC c) := by decide +kernel
theorem so9_d : ∀ c, c < 200 → c / 10 % 10 < 3 → c % 10 < 4 → (if nI c < (Int32.ofInt 100) then some (Int32.ofInt 0) else some (Int32.ofInt 12)) = some (nI (c / 100 * 12)) ∧ ((nI (c / 100 * 12) + (((nI c - nI c / (Int32.ofInt 100) * (Int32.ofInt 100)) / (Int32.ofInt 10)) * (Int32.ofInt 4))) + (nI c - nI c / (Int32.ofInt 10) * (Int32.ofInt 10))) = nI (soC c) := by decide +kernel
theorem cdG_200 {c : Nat} (g : cdG c) : c < 200 := by have := g.1; omega
theorem so_8x {c : Nat} (g : cdG c) (h : am_H) : f_X8_sortOf (nI c) h = some (nI (soC c), h) := by
  unfold f_X8_sortOf; rw [so8_d c (cdG_200 g) g.2.1 g.2.2]
theorem so_9x {c : Nat} (g : cdG c) (h : am_H) : f_X9_asNumber (nI c) h = some (nI (soC c), h) := by
  obtain ⟨a, b⟩ := so9_d c (cdG_200 g) g.2.1 g.2.2
  unfold f_X9_asNumber; rw [a, b_some, b]
/-- the sorts of a book, what follows -/
def PS.so (S : PS) (b : Nat) : Nat → Nat := fun i => soC (S.bc b i)
def PS.fo (S : PS) (b : Nat) : Nat → Nat → Prop := foB (S.bf b)
theorem so_24 (S : PS) (b i : Nat) : S.so b i < 24 := soC_lt _
theorem B9_of {h : am_H} {S : PS} (ok : PSok S) (y : Y9 h S) {b : Nat} (hb : b < S.nb) : B9 h b (S.bn b) (S.so b) (S.fo b) := by
  obtain ⟨y1, y2, y3⟩ := y.2.1.2 b hb
  have bk := ok.2.2.1 b hb
  have := ok.2.1
  exact ⟨by omega, bk.1, y1, fun i i1 i2 h' => by rw [y2 i i1 i2]; exact so_9x (bk.2.1 i i1 i2) h', fun i hi q => by rw [y3 i hi]; exact Iff.rfl⟩
def MO (h : am_H) (b m : Nat) : Prop := ∃ a, am_A h 25 b = some a ∧ am_A h a 3 = some m
theorem cN_one {P Q : Nat → Bool} {b : Nat} (h1 : P b = false) (h2 : Q b = true) : ∀ n, b < n → (∀ k, k < n → k ≠ b → P k = Q k) → cN Q n = cN P n + 1 := by
  intro n
  induction n with
  | zero => intro h; omega
  | succ n ih =>
    intro hb h3
    by_cases c : b = n
    · subst c
      rw [cN_t h2, cN_f h1, cN_c b (fun k hk => h3 k (by omega) (by omega))]
    · show cN Q n + (bif Q n then 1 else 0) = cN P n + (bif P n then 1 else 0) + 1
      rw [ih (by omega) (fun k hk => h3 k (by omega)), h3 n (by omega) (by omega)]; omega
theorem BK1_sA {h : am_H} {w : Nat → Nat} {a n p : Nat} {c : Nat → Nat} {f : Nat → Int32} (r : Option Nat) (x : BK1 h w a n c f) (hp : am_K h p = .inl 0) (ne : a ≠ p) : BK1 (am_sA h p 3 r) w a n c f := by
  obtain ⟨qc, qf, z1, z2, z3, ⟨x1, x2, x3, x4⟩, x5, x6, x7, x8, x9⟩ := x
  have ea : am_A (am_sA h p 3 r) a = am_A h a := sA_o _ _ _ ne
  refine ⟨qc, qf, z1, z2, z3, ⟨x1, x2, by rw [ea]; exact x3, by rw [ea]; exact x4⟩, x5, x6, x7, x8, ?_⟩
  rw [ea]
  rcases x9 with q | ⟨m, q, e, r', K, R, P, la, u1, u2, u3, M, fd⟩
  · exact Or.inl q
  · refine Or.inr ⟨m, q, e, r', K, R, P, la, u1, u2, u3, M8_c M rfl rfl rfl rfl rfl rfl (sA_o _ _ _ (fun e => ?_)), fd⟩
    have k3 := M.1
    rw [e, hp] at k3
    cases k3
/-- the machine of a book -/
theorem X8_mo {h : am_H} {S : PS} {c sl : Nat} (ok : PSok S) (x : X8 h S c sl) {b : Nat} (hb : b < S.nb) (F : Nat) (hF : 100000000000 ≤ F) : ∃ h' c1 z1 m, f_X8_machineOf F (nI b) h = some ((m, h'), c1, z1) ∧ X8 h' S (c + c1) (sl + z1) ∧ same9 h h' ∧ MO h' b m ∧ (∀ b' m', b' < S.nb → MO h b' m' → MO h' b' m') ∧ am_I h' 1 = am_I h 1 ∧ am_I h' 2 = am_I h 2 ∧ am_A h' 25 = am_A h 25 := by
  have x0 := x
  obtain ⟨w, ba, cf, qf0, cc, qc0, c3, a3, b3, st, t, bk, on, tk, rw8, sv, co⟩ := x
  have b8 : b < 8 := by have := ok.2.1; omega
  have vb : am_vp (nI b) 8 = true := hp_vp b8 (by decide)
  have cb : Int32.toNatClampNeg (nI b) = b := nI_clamp (by omega)
  have bkb := ok.2.2.1 b hb
  obtain ⟨y1, qc, qf, z1, z2, z3, ⟨y2, y3, y4, y5⟩, y6, y7, y8, y9, ym⟩ := bk.2.1 b hb
  rcases ym with ym | ⟨m, ym, mc⟩
  · obtain ⟨lb, B, σ, bo⟩ := bkb.2.2.2.2.2
    have hb8 : B8 h (ba b) qc qf (S.bn b) (S.so b) (S.fo b) := ⟨y2, y3, bkb.1, y4, y5, y6, y7, fun i i1 i2 h' => by rw [y8 i i1 i2]; exact so_8x (bkb.2.1 i i1 i2) h', fun i hi p => by rw [y9 i hi]; exact Iff.rfl⟩
    have rw0 := rw8
    obtain ⟨⟨r1, r2, r3⟩, ⟨r4, r5, r6⟩, ⟨r7, r8, r9⟩, r13⟩ := rw8
    have nq : ∀ p, w p ≠ 1 → ∀ k, 1 ≤ k → k ≤ 5 → p ≠ qf0 k := fun p hp k k1 k5 e => hp (by rw [e]; exact r3 k k1 k5)
    have w9 : ∀ p, p < 87 → (p < 13 ∨ 17 < p) → w p ≠ 1 := fun p hp hq => by
      rcases r13 p hp with e | ⟨_, _, e⟩ | ⟨_, _, e⟩ | ⟨_, _, e⟩ <;> omega
    have sf : ∀ p, frz h w p → sepF h qf0 p := fun p z => ⟨z.2.1, by have := z.1; omega, by have := z.1; omega, nq p (by rw [z.2.2]; decide)⟩
    obtain ⟨K, R, P, la, m, h1, q', cap', c1, z1', e1, fd, m8, fr1, fF, lm, n1, sm, lc, lc', hc1, hz1⟩ := fold_8 hb8 (so_24 S b) bo r1 r2.1 r2.2 (sK st 18) (sf _ z1) (sf _ z2) (sf _ z3) hF
    obtain ⟨g1, g2, g3, g4, g5, g6⟩ := fF
    have h98 : 87 ≤ h.1 := st.1
    have ba98 := z1.1
    have bal := z1.2.1
    generalize hh2 : am_sA h1 (ba b) 3 (some (m + 2)) = h2
    have iI : ∀ p, p < h.1 → w p ≠ 1 → p ≠ 12 → p ≠ 18 → am_I h2 p = am_I h p := fun p a1 a2 a3 a4 => by rw [← hh2, sA_I]; exact g4 p a1 a3 a4 (nq p a2)
    have iI9 : ∀ p, p < 87 → (p < 12 ∨ 18 < p) → am_I h2 p = am_I h p := fun p a1 a2 => iI p (by omega) (w9 p a1 (by omega)) (by omega) (by omega)
    have iK : ∀ p, p < h.1 → am_K h2 p = am_K h p := fun p hp => by rw [← hh2]; exact (g2 p hp).1
    have iJ : ∀ p, p < h.1 → am_J h2 p = am_J h p := fun p hp => by rw [← hh2]; exact (g2 p hp).2
    have iA : ∀ p, p < h.1 → p ≠ 12 → p ≠ ba b → am_A h2 p = am_A h p := fun p a1 a2 a3 => by rw [← hh2, sA_o _ _ _ a3]; exact g3 p a1 a2
    have iAb3 : am_A h2 (ba b) 3 = some (m + 2) := by rw [← hh2, sA_at]
    have l2 : h.1 ≤ h2.1 := by rw [← hh2]; exact g1
    have n2 : h2.1 = m + 3 := by rw [← hh2]; exact n1
    have kb1 : am_K h1 (ba b) = .inl 0 := by rw [(g2 _ bal).1]; exact y2
    have kb2 : am_K h2 (ba b) = .inl 0 := by rw [iK _ bal]; exact y2
    have a25 : am_A h2 25 = am_A h 25 := iA 25 (by omega) (by decide) (by omega)
    have e2 : f_X8_machineOf F (nI b) h = some ((m + 2, h2), c1, z1') := by
      unfold f_X8_machineOf
      rw [vb, cond_true, cb, y1, b_some, hp_isO y2, cond_true]
      simp only [ym, b_some]
      rw [e1, bcs, hp_isO kb1, cond_true, Nat.ble_eq_true_of_le ba98, cond_true, hh2, a25, y1, b_some, hp_isO kb2, cond_true, iAb3, b_some, cts]
      rfl
    have st2 := s_X8_machineOf F (nI b) h st e2
    have wd : ∀ p, p < h.1 → (fun p => if p < h.1 then w p else if m ≤ p then 0 else 1) p = w p := fun p hp => if_pos hp
    have wm : ∀ p, m ≤ p → (fun p => if p < h.1 then w p else if m ≤ p then 0 else 1) p = 0 := fun p hp => by
      show (if p < h.1 then w p else if m ≤ p then 0 else 1) = 0
      rw [if_neg (by omega), if_pos hp]
    have wr : ∀ p, h.1 ≤ p → p < m → (fun p => if p < h.1 then w p else if m ≤ p then 0 else 1) p = 1 := fun p a1 a2 => by
      show (if p < h.1 then w p else if m ≤ p then 0 else 1) = 1
      rw [if_neg (by omega), if_neg (by omega)]
    have fz1 : frFz w (fun p => if p < h.1 then w p else if m ≤ p then 0 else 1) h h1 := ⟨g1, fun p z => by
      have p1 := z.1
      have p2 := z.2.1
      exact ⟨by rw [wd p p2]; exact z.2.2, (g2 p p2).1, g4 p p2 (by omega) (by omega) (nq p (by rw [z.2.2]; decide)), g3 p p2 (by omega)⟩⟩
    have nba : ∀ k, k < S.nb → k ≠ b → ba k ≠ ba b := fun k hk hn e => hn (bk.2.2 k b hk hb e)
    have bk1 : BK8 h2 (fun p => if p < h.1 then w p else if m ≤ p then 0 else 1) S ba := by
      refine ⟨by rw [iI9 0 (by decide) (by decide)]; exact bk.1, fun k hk => ⟨by rw [a25]; exact (bk.2.1 k hk).1, ?_⟩, bk.2.2⟩
      by_cases q : k = b
      · subst q
        obtain ⟨qc', qf', u1, u2, u3, ⟨v1, v2, v3, v4⟩, v5, v6, v7, v8, -⟩ := BK1_f fz1 (bk.2.1 k hk).2
        have eI : am_I h2 = am_I h1 := by rw [← hh2]; rfl
        have eK : am_K h2 = am_K h1 := by rw [← hh2]; rfl
        have e1' : h2.1 = h1.1 := by rw [← hh2]; rfl
        have zz : ∀ p, frz h1 (fun p => if p < h.1 then w p else if m ≤ p then 0 else 1) p → frz h2 (fun p => if p < h.1 then w p else if m ≤ p then 0 else 1) p := fun p z => ⟨z.1, by rw [e1']; exact z.2.1, z.2.2⟩
        have mm : ∀ p, m ≤ p → p < m + 3 → frz h2 (fun p => if p < h.1 then w p else if m ≤ p then 0 else 1) p := fun p a1 a2 => ⟨by omega, by omega, wm p a1⟩
        refine ⟨qc', qf', zz _ u1, zz _ u2, zz _ u3, ⟨by rw [eK]; exact v1, by rw [eI]; exact v2, by rw [← hh2, sA_ne _ _ _ (by decide)]; exact v3, by rw [← hh2, sA_ne _ _ _ (by decide)]; exact v4⟩, by rw [eK]; exact v5, by rw [eK]; exact v6, by rw [eI]; exact v7, by rw [eI]; exact v8, Or.inr ⟨m + 2, iAb3, m + 1, m, K, R, P, la, mm _ (by omega) (by omega), mm _ (by omega) (by omega), mm _ (by omega) (by omega), M8_c m8 (by rw [eK]) (by rw [eK]) (by rw [eK]) (by rw [eI]) (by rw [eI]) (by rw [eI]) (by rw [← hh2, sA_o _ _ _ (by omega)]), fd⟩⟩
      · have z := BK1_sA (some (m + 2)) (BK1_f fz1 (bk.2.1 k hk).2) kb1 (nba k hk q)
        rw [hh2] at z
        exact z
    have on1 : ON8 h2 (fun p => if p < h.1 then w p else if m ≤ p then 0 else 1) S := by
      refine ⟨by rw [iI9 0 (by decide) (by decide)]; exact on.1, fun k hk => ?_⟩
      obtain ⟨a, q, u1, u2, u3, u4⟩ := on.2 k hk
      have ne : a ≠ ba b := fun e => by have k4 := u4.1; rw [e, y2] at k4; cases k4
      have za := u2.1
      have zq := u3.1
      have fa : ∀ p, frz h w p → frz h2 (fun p => if p < h.1 then w p else if m ≤ p then 0 else 1) p := fun p z => ⟨z.1, Nat.lt_of_lt_of_le z.2.1 l2, by rw [wd p z.2.1]; exact z.2.2⟩
      exact ⟨a, q, by rw [iA 26 (by omega) (by decide) (by omega)]; exact u1, fa _ u2, fa _ u3, tx8_c u4 (iK a u2.2.1) (iK q u3.2.1) (iI a u2.2.1 (by rw [u2.2.2]; decide) (by omega) (by omega)) (iI q u3.2.1 (by rw [u3.2.2]; decide) (by omega) (by omega)) (iA a u2.2.1 (by omega) ne)⟩
    have i1 : am_I h2 1 = am_I h 1 := iI9 1 (by decide) (by decide)
    have i2 : am_I h2 2 = am_I h 2 := iI9 2 (by decide) (by decide)
    refine ⟨h2, c1, z1', m + 2, e2, ⟨(fun p => if p < h.1 then w p else if m ≤ p then 0 else 1), ba, cap', q', cc, qc0, c3, a3, b3, st2, tx8_c t (iK 1 (by omega)) (iK 2 (by omega)) i1 i2 (iA 1 (by omega) (by decide) (by omega)), bk1, on1, TK8_g tk (by rw [iI9 28 (by decide) (by decide)]) (fun p hp => iI9 p (by omega) (by omega)) (by rw [iJ 0 (by omega)]) (fun k _ => by rw [iI9 0 (by decide) (by decide)]), ?_, ?_, ?_⟩, fun p p1 p2 => ⟨iI9 p p2 (by omega), iJ p (by omega)⟩, ⟨ba b, by rw [a25]; exact y1, iAb3⟩, fun b' m' hb' mo => ?_, i1, i2, a25⟩
    · refine ⟨⟨⟨fun k k1 k5 => ?_, fr1.2.1, by omega⟩, ⟨by omega, lc'⟩, fun k k1 k5 => ?_⟩, ⟨CR_g r4 l2 iK (iA 19 (by omega) (by decide) (by omega)), r5, fun k k6 k10 => ?_⟩, ⟨GR_g r7 l2 iK (iA 37 (by omega) (by decide) (by omega)), ?_, ?_⟩, fun p hp => ?_⟩
      · obtain ⟨v1, v2, v3, v4, v5⟩ := fr1.1 k k1 k5
        refine ⟨by rw [← hh2, sA_o _ _ _ (by omega)]; exact v1, by rw [n2]; omega, v3, v4, by rw [← hh2]; exact v5⟩
      · obtain ⟨v1, v2, v3, v4, v5⟩ := fr1.1 k k1 k5
        rcases g6 k k1 k5 with q | ⟨i, i1, i5, q⟩
        · refine wr _ q ?_
          apply Classical.byContradiction
          intro c
          exact (sm (q' k) (by omega) (by omega)).2.2.2 k k1 k5 rfl
        · rw [q, wd _ (r1.1 i i1 i5).2.1]; exact r3 i i1 i5
      · rw [wd _ (r4.1 k k6 k10).2.1]; exact r6 k k6 k10
      · rw [wd _ (gr_at r7).2.2.1]; exact r8
      · rw [wd _ (gr_at r7).2.2.2.1]; exact r9
      · rw [wd _ (show p < h.1 by omega)]; exact r13 p hp
    · obtain ⟨ga, gb, la', lb', -⟩ := gr_at r7
      exact SV8_g sv l2 iK (iJ 40 (by omega)) (iA 37 (by omega) (by decide) (by omega)) (fun p a b => iI9 p (by omega) (by omega)) (iI a3 la' (by rw [r8]; decide) (by omega) (by omega)) (iI b3 lb' (by rw [r9]; decide) (by omega) (by omega)) (fun k _ => by rw [iI9 0 (by decide) (by decide)]) (iI9 49 (by decide) (by decide))
    · have gm : gM h2 S ba = gM h S ba + 1 := by
        refine cN_one (b := b) (P := fun k => (am_A h (ba k) 3).isSome) (Q := fun k => (am_A h2 (ba k) 3).isSome) (by show (am_A h (ba b) 3).isSome = false; rw [ym]; rfl) (by show (am_A h2 (ba b) 3).isSome = true; rw [iAb3]; rfl) S.nb hb (fun k hk hn => ?_)
        obtain ⟨-, qc', qf', u1, -⟩ := bk.2.1 k hk
        show (am_A h (ba k) 3).isSome = (am_A h2 (ba k) 3).isSome
        rw [iA _ u1.2.1 (by have := u1.1; omega) (nba k hk hn)]
      rw [gm]
      have P4 := (fd_rg fd).1.2
      obtain ⟨o1, o2⟩ := co
      exact ⟨by omega, by omega⟩
    · obtain ⟨a, q1, q2⟩ := mo
      have ea : a = ba b' := by have := (bk.2.1 b' hb').1; rw [q1] at this; exact Option.some.inj this
      by_cases q : b' = b
      · rw [ea, q, ym] at q2; cases q2
      · obtain ⟨-, qc', qf', u1, -⟩ := bk.2.1 b' hb'
        refine ⟨a, by rw [a25]; exact q1, ?_⟩
        rw [ea, iA _ u1.2.1 (by have := u1.1; omega) (nba b' hb' q), ← ea]; exact q2
  · refine ⟨h, 0, 0, m, ?_, x0, same9_r h, ⟨ba b, y1, ym⟩, fun _ _ _ q => q, rfl, rfl, rfl⟩
    unfold f_X8_machineOf
    rw [vb, cond_true, cb, y1, b_some, hp_isO y2, cond_true]
    simp only [ym, b_some]
    rw [hp_isO y2, cond_true]
/-- what a machine says -/
theorem X8_mc {h : am_H} {S : PS} {c sl : Nat} (x : X8 h S c sl) {b m : Nat} (hb : b < S.nb) (mo : MO h b m) : ∃ e r K R P la, M8 h m e r P (bMx (S.bn b) (S.so b) (S.fo b) K R la) (bMe (S.bn b) (S.so b) (S.fo b) K la) ∧ fdOk (S.bn b) (S.so b) (S.fo b) K R P la := by
  obtain ⟨w, ba, cf, qf0, cc, qc0, c3, a3, b3, st, t, bk, on, tk, rw8, sv, co⟩ := x
  obtain ⟨a, q1, q2⟩ := mo
  obtain ⟨y1, qc, qf, z1, z2, z3, -, -, -, -, -, ym⟩ := bk.2.1 b hb
  have ea : a = ba b := by rw [q1] at y1; exact Option.some.inj y1
  rw [← ea] at ym
  rcases ym with ym | ⟨m', ym, e, r, K, R, P, la, u1, u2, u3, M, fd⟩
  · rw [q2] at ym; cases ym
  · have em : m' = m := by rw [q2] at ym; exact (Option.some.inj ym).symm
    rw [em] at M
    exact ⟨e, r, K, R, P, la, M, fd⟩
/-- two machines are set against one another -/
theorem X8_tl {h : am_H} {S : PS} {c sl : Nat} (ok : PSok S) (x : X8 h S c sl) {b1 b2 m1 m2 : Nat} (hb1 : b1 < S.nb) (hb2 : b2 < S.nb) (mo1 : MO h b1 m1) (mo2 : MO h b2 m2) (F : Nat) (hF : 1000000 ≤ F) : ∃ h' c1 z1 b cap q K1 R1 P1 la1 K2 R2 P2 la2, f_X1_tells F m1 m2 h = some ((bI b, h'), c1, z1) ∧ X8 h' S (c + c1) (sl + z1) ∧ same9 h h' ∧ fdOk (S.bn b1) (S.so b1) (S.fo b1) K1 R1 P1 la1 ∧ fdOk (S.bn b2) (S.so b2) (S.fo b2) K2 R2 P2 la2 ∧ TR8 P1 P2 (bMx (S.bn b1) (S.so b1) (S.fo b1) K1 R1 la1) (bMx (S.bn b2) (S.so b2) (S.fo b2) K2 R2 la2) (bMe (S.bn b1) (S.so b1) (S.fo b1) K1 la1) (bMe (S.bn b2) (S.so b2) (S.fo b2) K2 la2) h' cap q b ∧ P1 + P2 + 1 ≤ cap ∧ cap ≤ 100000 := by
  obtain ⟨w, ba, cf, qf0, cc, qc0, c3, a3, b3, st, t, bk, on, tk, rw8, sv, co⟩ := x
  have get : ∀ b m, b < S.nb → MO h b m → MC8 h w (S.bn b) (S.so b) (S.fo b) m := by
    intro b m hb mo
    obtain ⟨a, q1, q2⟩ := mo
    obtain ⟨y1, qc, qf, z1, z2, z3, -, -, -, -, -, ym⟩ := bk.2.1 b hb
    have ea : a = ba b := by rw [q1] at y1; exact Option.some.inj y1
    rw [← ea] at ym
    rcases ym with ym | ⟨m', ym, mc⟩
    · rw [q2] at ym; cases ym
    · have em : m' = m := by rw [q2] at ym; exact (Option.some.inj ym).symm
      rw [em] at mc
      exact mc
  obtain ⟨e1, r1', K1, R1, P1, la1, u1, u2, u3, M1, fd1⟩ := get b1 m1 hb1 mo1
  obtain ⟨e2, r2', K2, R2, P2, la2, v1, v2, v3, M2, fd2⟩ := get b2 m2 hb2 mo2
  obtain ⟨⟨r1, r2, r3⟩, ⟨r4, r5, r6⟩, ⟨r7, r8, r9⟩, r13⟩ := rw8
  have nq : ∀ p, w p ≠ 2 → ∀ k, 6 ≤ k → k ≤ 10 → p ≠ qc0 k := fun p hp k k1 k5 e => hp (by rw [e]; exact r6 k k1 k5)
  have w9 : ∀ p, p < 87 → (p < 20 ∨ 24 < p) → w p ≠ 2 := fun p hp hq => by
    rcases r13 p hp with e | ⟨_, _, e⟩ | ⟨_, _, e⟩ | ⟨_, _, e⟩ <;> omega
  have sc : ∀ p, frz h w p → sepC qc0 p := fun p z => ⟨by have := z.1; omega, nq p (by rw [z.2.2]; decide)⟩
  have rg1 := fd_rg fd1
  have rg2 := fd_rg fd2
  obtain ⟨h1, q', cap', bb, c1, z1, ef, cr1, ⟨lc, lP⟩, lc', tr, fT, hc1, hz1⟩ := tl_8 M1 M2 ⟨rg1.1.1, rg1.1.2, rg2.1.1, rg2.1.2⟩ rg1.2 rg2.2 r4 r5 ⟨sc _ u1, sc _ u2, sc _ u3, sc _ v1, sc _ v2, sc _ v3⟩ ⟨u1.2.1, u2.2.1, u3.2.1, v1.2.1, v2.2.1, v3.2.1⟩ hF
  obtain ⟨g1, g2, g3, g4, g5⟩ := fT
  have h98 : 87 ≤ h.1 := st.1
  have iI : ∀ p, p < h.1 → w p ≠ 2 → p ≠ 19 → am_I h1 p = am_I h p := fun p a1 a2 a3 => g4 p a1 a3 (nq p a2)
  have iI9 : ∀ p, p < 87 → (p < 19 ∨ 24 < p) → am_I h1 p = am_I h p := fun p a1 a2 => iI p (by omega) (w9 p a1 (by omega)) (by omega)
  have iK : ∀ p, p < h.1 → am_K h1 p = am_K h p := fun p hp => (g2 p hp).1
  have iJ : ∀ p, p < h.1 → am_J h1 p = am_J h p := fun p hp => (g2 p hp).2
  have iA : ∀ p, p < h.1 → p ≠ 19 → am_A h1 p = am_A h p := g3
  have st1 : am_stat h1 := s_X1_tells F m1 m2 h st ef
  have fz : frFz w (fun q => if q < h.1 then w q else 2) h h1 := ⟨g1, fun p z => by
    have p1 := z.1
    have p2 := z.2.1
    exact ⟨by rw [fill_eq p2]; exact z.2.2, iK p p2, iI p p2 (by rw [z.2.2]; decide) (by omega), iA p p2 (by omega)⟩⟩
  obtain ⟨bk', gm⟩ := BK8_f fz bk (by rw [iI9 0 (by decide) (by decide)]) (iA 25 (by omega) (by decide))
  refine ⟨h1, c1, z1, bb, cap', q', K1, R1, P1, la1, K2, R2, P2, la2, ef, ⟨(fun q => if q < h.1 then w q else 2), ba, cf, qf0, cap', q', c3, a3, b3, st1, tx8_c t (iK 1 (by omega)) (iK 2 (by omega)) (iI9 1 (by decide) (by decide)) (iI9 2 (by decide) (by decide)) (iA 1 (by omega) (by decide)), bk', ON8_f fz on (by rw [iI9 0 (by decide) (by decide)]) (iA 26 (by omega) (by decide)), TK8_g tk (by rw [iI9 28 (by decide) (by decide)]) (fun p hp => iI9 p (by omega) (by omega)) (by rw [iJ 0 (by omega)]) (fun k _ => by rw [iI9 0 (by decide) (by decide)]), ?_, ?_, ?_⟩, fun p p1 p2 => ⟨iI9 p p2 (by omega), iJ p (by omega)⟩, fd1, fd2, tr, lP, lc'⟩
  · refine ⟨⟨FR_g r1 g1 iK (iA 12 (by omega) (by decide)), r2, fun k k1 k5 => ?_⟩, ⟨cr1, lc', fun k k6 k10 => ?_⟩, ⟨GR_g r7 g1 iK (iA 37 (by omega) (by decide)), ?_, ?_⟩, fun p hp => ?_⟩
    · rw [fill_eq (r1.1 k k1 k5).2.1]; exact r3 k k1 k5
    · rcases g5 k k6 k10 with q | q
      · exact if_neg (by omega)
      · rw [q, fill_eq (r4.1 k k6 k10).2.1]; exact r6 k k6 k10
    · rw [fill_eq (gr_at r7).2.2.1]; exact r8
    · rw [fill_eq (gr_at r7).2.2.2.1]; exact r9
    · rw [fill_eq (show p < h.1 by omega)]; exact r13 p hp
  · obtain ⟨ga, gb, la', lb', -⟩ := gr_at r7
    exact SV8_g sv g1 iK (iJ 40 (by omega)) (iA 37 (by omega) (by decide)) (fun p a b => iI9 p (by omega) (by omega)) (iI a3 la' (by rw [r8]; decide) (by omega)) (iI b3 lb' (by rw [r9]; decide) (by omega)) (fun k _ => by rw [iI9 0 (by decide) (by decide)]) (iI9 49 (by decide) (by decide))
  · rw [gm]
    obtain ⟨o1, o2⟩ := co
    exact ⟨by omega, by omega⟩
