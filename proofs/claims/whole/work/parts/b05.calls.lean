/-! ===== calls that make nothing: the class's side after them ===== -/
theorem BK8_eq {h : am_H} {w ba : Nat → Nat} {S S' : PS} (hb : S'.2.1 = S.2.1) (x : BK8 h w S ba) : BK8 h w S' ba := by
  unfold BK8 PS.nb PS.bn PS.bc PS.bf at *
  rw [hb]; exact x
theorem ON8_eq {h : am_H} {w : Nat → Nat} {S S' : PS} (hb : S'.2.2.1 = S.2.2.1) (x : ON8 h w S) : ON8 h w S' := by
  unfold ON8 PS.no PS.om PS.ox at *
  rw [hb]; exact x
theorem X8_na {h h' : am_H} {S S' : PS} {c sl : Nat} (x : X8 h S c sl) (s0 : h'.1 = h.1 ∧ am_K h' = am_K h ∧ am_A h' = am_A h) (hb : S'.2.1 = S.2.1) (ho : S'.2.2.1 = S.2.2.1) (eI : ∀ p, 86 < p → am_I h' p = am_I h p) (e0 : ∀ k, k = 5 ∨ k = 7 → am_I h' 0 k = am_I h 0 k) (t' : tx8 h' 1 2 S'.m S'.tx) (tk' : TK8 h' S') (sv' : ∀ c3 a3 b3, GR h 37 c3 a3 b3 → SV8 h S c3 a3 b3 → SV8 h' S' c3 a3 b3) : X8 h' S' c sl := by
  obtain ⟨w, ba, cf, qf, cc, qc, c3, a3, b3, st, t, bk, on, tk, rw8, sv, co⟩ := x
  have h1 : h.1 ≤ h'.1 := Nat.le_of_eq s0.1.symm
  have eK : ∀ p, p < h.1 → am_K h' p = am_K h p := fun p _ => by rw [s0.2.1]
  have eA : ∀ p, am_A h' p = am_A h p := fun p => by rw [s0.2.2]
  have fz : frFz w w h h' := ⟨h1, fun p z => ⟨z.2.2, by rw [s0.2.1], eI p (by have := z.1; omega), eA p⟩⟩
  obtain ⟨bk', gm⟩ := BK8_f fz bk (e0 5 (by decide)) (eA 25)
  refine ⟨w, ba, cf, qf, cc, qc, c3, a3, b3, ?_, t', BK8_eq hb bk', ON8_eq ho (ON8_f fz on (e0 7 (by decide)) (eA 26)), tk', RW8_g rw8 h1 eK (fun p _ => eA p), sv' c3 a3 b3 sv.1.1 sv, ?_⟩
  · unfold am_stat; rw [s0.1, s0.2.1, s0.2.2]; exact st
  · have e1 : S'.nb = S.nb := by unfold PS.nb; rw [hb]
    have e2 : S'.no = S.no := by unfold PS.no; rw [ho]
    have e3 : gM h' S' ba = gM h S ba := by
      rw [← gm]; unfold gM; rw [e1]
    rw [e1, e2, e3]; exact co
/-- scratch cells of the class: reader, told steps -/
def frY (h h' : am_H) : Prop := (h'.1 = h.1 ∧ am_K h' = am_K h ∧ am_A h' = am_A h) ∧ (∀ p, p ≠ 32 → am_J h' p = am_J h p) ∧ (∀ p, (p < 3 ∨ 11 < p) → p ≠ 28 → p ≠ 31 → am_I h' p = am_I h p) ∧ ∀ k, k ≠ 5 → am_I h' 28 k = am_I h 28 k
theorem frY_r (h : am_H) : frY h h := ⟨⟨rfl, rfl, rfl⟩, fun _ _ => rfl, fun _ _ _ _ => rfl, fun _ _ => rfl⟩
theorem frY_T {h h' : am_H} (f : frT h h') : frY h h' := ⟨⟨f.1, f.2.1, f.2.2.1⟩, f.2.2.2.1, fun p _ a b => f.2.2.2.2.1 p a b, f.2.2.2.2.2⟩
theorem frY_8 {h h' : am_H} (f : fr8 h h') : frY h h' := ⟨⟨f.1, f.2.1, f.2.2.2.1⟩, fun p _ => by rw [f.2.2.1], fun p a _ _ => f.2.2.2.2 p a, fun k _ => by rw [f.2.2.2.2 28 (by omega)]⟩
theorem frY_t {a b c : am_H} (f : frY a b) (g : frY b c) : frY a c := ⟨⟨g.1.1.trans f.1.1, g.1.2.1.trans f.1.2.1, g.1.2.2.trans f.1.2.2⟩, fun p q => (g.2.1 p q).trans (f.2.1 p q), fun p x y z => (g.2.2.1 p x y z).trans (f.2.2.1 p x y z), fun k q => (g.2.2.2 k q).trans (f.2.2.2 k q)⟩
theorem SV8_i {h h' : am_H} {S S' : PS} (s0 : h'.1 = h.1 ∧ am_K h' = am_K h ∧ am_A h' = am_A h) (eI : ∀ p, 12 ≤ p → (p < 27 ∨ 36 < p) → (p < 51 ∨ 86 < p) → am_I h' p = am_I h p) (eJ : am_J h' 40 = am_J h 40) (e0 : ∀ k, k = 13 ∨ k = 14 → am_I h' 0 k = am_I h 0 k) (er : S'.r = S.r) (esd : S'.sd = S.sd) (ena : S'.na = S.na) (c3 a3 b3 : Nat) (g : GR h 37 c3 a3 b3) (x : SV8 h S c3 a3 b3) : SV8 h' S' c3 a3 b3 := by
  obtain ⟨ga, gb, -⟩ := gr_at g
  have y := SV8_g x (Nat.le_of_eq s0.1.symm) (fun p _ => by rw [s0.2.1]) eJ (by rw [s0.2.2]) (fun p a b => eI p (by omega) (by omega) (by omega)) (eI a3 (by omega) (by omega) (by omega)) (eI b3 (by omega) (by omega) (by omega)) e0 (eI 49 (by omega) (by omega) (by omega))
  unfold SV8 at *
  rw [er, esd, ena]; exact y
theorem frY_9 {h h' : am_H} (f : frY h h') : same9 h h' := fun p a b => ⟨f.2.2.1 p (by omega) (by omega) (by omega), f.2.1 p (by omega)⟩
/-- only scratch cells have changed -/
theorem X8_Y {h h' : am_H} {S : PS} {c sl : Nat} (x : X8 h S c sl) (f : frY h h') : X8 h' S c sl := by
  have x0 := x
  obtain ⟨w, ba, cf, qf, cc, qc, c3, a3, b3, st, t, bk, on, tk, rw8, sv, co⟩ := x
  have e : ∀ p, (p < 3 ∨ 11 < p) → p ≠ 28 → p ≠ 31 → am_I h' p = am_I h p := f.2.2.1
  refine X8_na x0 f.1 rfl rfl (fun p hp => e p (by omega) (by omega) (by omega)) (fun k _ => by rw [e 0 (by omega) (by omega) (by omega)]) (tx8_c t (by rw [f.1.2.1]) (by rw [f.1.2.1]) (e 1 (by omega) (by omega) (by omega)) (e 2 (by omega) (by omega) (by omega)) (by rw [f.1.2.2])) (TK8_g tk (f.2.2.2 0 (by decide)) (fun p hp => e p (by omega) (by omega) (by omega)) (by rw [f.2.1 0 (by decide)]) (fun k _ => by rw [e 0 (by omega) (by omega) (by omega)])) (SV8_i f.1 (fun p a b d => e p (by omega) (by omega) (by omega)) (f.2.1 40 (by decide)) (fun k _ => by rw [e 0 (by omega) (by omega) (by omega)]) rfl rfl rfl)
/-- the page has changed -/
theorem X8_pg {h h' : am_H} {S : PS} {c sl m : Nat} {t0 : Nat → Int32} (x : X8 h S c sl) (s0 : h'.1 = h.1 ∧ am_K h' = am_K h ∧ am_A h' = am_A h) (eJ : am_J h' = am_J h) (eI : ∀ p, p ≠ 1 → p ≠ 2 → am_I h' p = am_I h p) (t' : tx8 h' 1 2 m t0) : X8 h' (S.pg m t0) c sl := by
  have x0 := x
  obtain ⟨w, ba, cf, qf, cc, qc, c3, a3, b3, st, t, bk, on, tk, rw8, sv, co⟩ := x
  have tk' : TK8 h' S := TK8_g tk (by rw [eI 28 (by decide) (by decide)]) (fun p hp => eI p (by omega) (by omega)) (by rw [eJ]) (fun k _ => by rw [eI 0 (by decide) (by decide)])
  exact X8_na x0 s0 rfl rfl (fun p hp => eI p (by omega) (by omega)) (fun k _ => by rw [eI 0 (by decide) (by decide)]) t' tk' (SV8_i s0 (fun p a b d => eI p (by omega) (by omega)) (by rw [eJ]) (fun k _ => by rw [eI 0 (by decide) (by decide)]) rfl rfl rfl)
/-- a step is done, or the talk begins anew -/
theorem X8_sg {h h' : am_H} {S : PS} {c sl : Nat} {s : TS} {v : Int32} (x : X8 h S c sl) (s0 : h'.1 = h.1 ∧ am_K h' = am_K h ∧ am_A h' = am_A h) (eJ : ∀ p, p ≠ 0 → am_J h' p = am_J h p) (eI : ∀ p, p ≠ 0 → am_I h' p = am_I h p) (e0 : ∀ k, k ≠ 11 → am_I h' 0 k = am_I h 0 k) (e11 : am_I h' 0 11 = v) (ej : am_J h' 0 10 = lL (S.r.N s)) : X8 h' (S.sg s v) c sl := by
  have x0 := x
  obtain ⟨w, ba, cf, qf, cc, qc, c3, a3, b3, st, t, bk, on, tk, rw8, sv, co⟩ := x
  obtain ⟨⟨u1, u2, u3⟩, k1, k2, k3, k4⟩ := tk
  have tk' : TK8 h' (S.sg s v) := by
    refine ⟨⟨?_, ?_, ej⟩, by rw [eI 27 (by decide)]; exact k1, by rw [eI 30 (by decide)]; exact k2, e11, by rw [e0 17 (by decide)]; exact k4⟩
    · unfold T8; rw [eI 28 (by decide), eI 29 (by decide), eI 34 (by decide), eI 35 (by decide), eI 30 (by decide), eI 36 (by decide)]; exact u1
    · unfold S8; rw [eI 33 (by decide), eI 36 (by decide)]; exact u2
  exact X8_na x0 s0 rfl rfl (fun p hp => eI p (by omega)) (fun k hk => e0 k (by omega)) (tx8_c t (by rw [s0.2.1]) (by rw [s0.2.1]) (eI 1 (by decide)) (eI 2 (by decide)) (by rw [s0.2.2])) tk' (SV8_i s0 (fun p a b d => eI p (by omega)) (eJ 40 (by decide)) (fun k hk => e0 k (by omega)) rfl rfl rfl)
theorem X8_tk {h : am_H} {S : PS} {c sl : Nat} (x : X8 h S c sl) : TK8 h S := by
  obtain ⟨w, ba, cf, qf, cc, qc, c3, a3, b3, st, t, bk, on, tk, rw8, sv, co⟩ := x
  exact tk
theorem X8_tx {h : am_H} {S : PS} {c sl : Nat} (x : X8 h S c sl) : tx8 h 1 2 S.m S.tx := by
  obtain ⟨w, ba, cf, qf, cc, qc, c3, a3, b3, st, t, bk, on, tk, rw8, sv, co⟩ := x
  exact t
theorem X8_n {h : am_H} {S : PS} {c sl : Nat} (x : X8 h S c sl) : am_I h 0 5 = nI S.nb ∧ am_I h 0 7 = nI S.no := by
  obtain ⟨w, ba, cf, qf, cc, qc, c3, a3, b3, st, t, bk, on, tk, rw8, sv, co⟩ := x
  exact ⟨bk.1, on.1⟩
/-- both sides behind a call that makes nothing -/
theorem JJ_of {h1 h2 : am_H} {S : PS} {c sl : Nat} (ok : PSok S) (x8 : X8 h1 S c sl) (f : same8 h1 h2) (x9 : X9p h2 S) : c ≤ 600000 ∧ sl ≤ 7302250 ∧ JJ h2 c sl := ⟨(X8_fit ok x8).1, (X8_fit ok x8).2, S, ok, X8_loc x8 f, x9⟩
