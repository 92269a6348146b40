/-! ===== what each side holds stays where its cells stay ===== -/
theorem EX8_g {h h' : am_H} {cap qs qn : Nat} {r : TR} {sd : Nat → Bool} (x : EX8 h 37 cap qs qn r sd) (h1 : h.1 ≤ h'.1) (eK : ∀ p, p < h.1 → am_K h' p = am_K h p) (eJ : am_J h' 40 = am_J h 40) (eA : am_A h' 37 = am_A h 37) (e : ∀ p, 37 ≤ p → p ≤ 46 → am_I h' p = am_I h p) (eS : am_I h' qs = am_I h qs) (eN : am_I h' qn = am_I h qn) : EX8 h' 37 cap qs qn r sd := by
  obtain ⟨⟨⟨T, V⟩, ⟨g, l12, lmc, lr, lc⟩, q1, q4⟩, m, t⟩ := x
  obtain ⟨⟨a13, a14, ks, kn⟩, ⟨ne, ls, ln, h98⟩, os, on, c1, c2⟩ := g
  refine ⟨⟨⟨T, V8_fr V (by rw [e 37 (by decide) (by decide)]) eJ (e _ (by decide) (by decide)) (e _ (by decide) (by decide)) (e _ (by decide) (by decide))⟩, ⟨⟨⟨by rw [eA]; exact a13, by rw [eA]; exact a14, by rw [eK qs ls]; exact ks, by rw [eK qn ln]; exact kn⟩, ⟨ne, by omega, by omega, by omega⟩, os, on, c1, c2⟩, by rw [e 37 (by decide) (by decide)]; exact l12, lmc, by rw [eS, eN]; exact lr, by rw [e (37 + 9) (by decide) (by decide)]; exact lc⟩, by rw [e 37 (by decide) (by decide)]; exact q1, by rw [e 37 (by decide) (by decide)]; exact q4⟩, by rw [e (37 + 4) (by decide) (by decide)]; exact m, fun w hw => by rw [e (37 + 1) (by decide) (by decide), e (37 + 2) (by decide) (by decide)]; exact t w hw⟩
theorem GR_g {h h' : am_H} {o cap qs qn : Nat} (g : GR h o cap qs qn) (h1 : h.1 ≤ h'.1) (eK : ∀ p, p < h.1 → am_K h' p = am_K h p) (eA : am_A h' o = am_A h o) : GR h' o cap qs qn := by
  obtain ⟨⟨a13, a14, ks, kn⟩, ⟨ne, ls, ln, h98⟩, os, on, c1, c2⟩ := g
  exact ⟨⟨by rw [eA]; exact a13, by rw [eA]; exact a14, by rw [eK qs ls]; exact ks, by rw [eK qn ln]; exact kn⟩, ⟨ne, by omega, by omega, by omega⟩, os, on, c1, c2⟩
theorem FR_g {h h' : am_H} {cap : Nat} {q : Nat → Nat} (f : FR h cap q) (h1 : h.1 ≤ h'.1) (eK : ∀ p, p < h.1 → am_K h' p = am_K h p) (eA : am_A h' 12 = am_A h 12) : FR h' cap q := by
  obtain ⟨f1, f2, f3⟩ := f
  refine ⟨fun k a b => ?_, f2, by omega⟩
  obtain ⟨x1, x2, x3, x4, x5⟩ := f1 k a b
  exact ⟨by rw [eA]; exact x1, by omega, x3, x4, by rw [eK _ x2]; exact x5⟩
theorem CR_g {h h' : am_H} {cap : Nat} {q : Nat → Nat} (f : CR h cap q) (h1 : h.1 ≤ h'.1) (eK : ∀ p, p < h.1 → am_K h' p = am_K h p) (eA : am_A h' 19 = am_A h 19) : CR h' cap q := by
  obtain ⟨f1, f2, f3⟩ := f
  refine ⟨fun k a b => ?_, f2, by omega⟩
  obtain ⟨x1, x2, x3, x5⟩ := f1 k a b
  exact ⟨by rw [eA]; exact x1, by omega, x3, by rw [eK _ x2]; exact x5⟩
theorem U8_g {h h' : am_H} {r : TR} {sd : Nat → Bool} {s : TS} (u : U8 h r sd s) (e28 : am_I h' 28 0 = am_I h 28 0) (e : ∀ p, p = 29 ∨ p = 30 ∨ p = 33 ∨ p = 34 ∨ p = 35 ∨ p = 36 → am_I h' p = am_I h p) (eJ : am_J h' 0 10 = am_J h 0 10) : U8 h' r sd s := by
  obtain ⟨t, s8, j⟩ := u
  refine ⟨?_, ?_, by rw [eJ]; exact j⟩
  · unfold T8; rw [e28, e 29 (by decide), e 34 (by decide), e 35 (by decide), e 30 (by decide), e 36 (by decide)]; exact t
  · unfold S8; rw [e 33 (by decide), e 36 (by decide)]; exact s8
theorem TK8_g {h h' : am_H} {S : PS} (x : TK8 h S) (e28 : am_I h' 28 0 = am_I h 28 0) (e : ∀ p, p = 27 ∨ p = 29 ∨ p = 30 ∨ p = 33 ∨ p = 34 ∨ p = 35 ∨ p = 36 → am_I h' p = am_I h p) (eJ : am_J h' 0 10 = am_J h 0 10) (e0 : ∀ k, k = 11 ∨ k = 17 → am_I h' 0 k = am_I h 0 k) : TK8 h' S := by
  obtain ⟨u, x1, x2, x3, x4⟩ := x
  exact ⟨U8_g u e28 (fun p hp => e p (by omega)) eJ, by rw [e 27 (by decide)]; exact x1, by rw [e 30 (by decide)]; exact x2, by rw [e0 11 (by decide)]; exact x3, by rw [e0 17 (by decide)]; exact x4⟩
/-- rows of folder, contest and surveys, where none of them grows -/
theorem RW8_g {h h' : am_H} {w : Nat → Nat} {cf : Nat} {qf : Nat → Nat} {cc : Nat} {qc : Nat → Nat} {c3 a3 b3 : Nat} (x : RW8 h w cf qf cc qc c3 a3 b3) (h1 : h.1 ≤ h'.1) (eK : ∀ p, p < h.1 → am_K h' p = am_K h p) (eA : ∀ p, p = 12 ∨ p = 19 ∨ p = 37 → am_A h' p = am_A h p) : RW8 h' w cf qf cc qc c3 a3 b3 := by
  obtain ⟨⟨x1, x2, x3⟩, ⟨y1, y2, y3⟩, ⟨z1, z2⟩, v⟩ := x
  exact ⟨⟨FR_g x1 h1 eK (eA 12 (by decide)), x2, x3⟩, ⟨CR_g y1 h1 eK (eA 19 (by decide)), y2, y3⟩, ⟨GR_g z1 h1 eK (eA 37 (by decide)), z2⟩, v⟩
theorem SV8_g {h h' : am_H} {S : PS} {c3 a3 b3 : Nat} (x : SV8 h S c3 a3 b3) (h1 : h.1 ≤ h'.1) (eK : ∀ p, p < h.1 → am_K h' p = am_K h p) (eJ : am_J h' 40 = am_J h 40) (eA : am_A h' 37 = am_A h 37) (e : ∀ p, 37 ≤ p → p ≤ 46 → am_I h' p = am_I h p) (eS : am_I h' a3 = am_I h a3) (eN : am_I h' b3 = am_I h b3) (e0 : ∀ k, k = 13 ∨ k = 14 → am_I h' 0 k = am_I h 0 k) (e61 : am_I h' 49 = am_I h 49) : SV8 h' S c3 a3 b3 := by
  obtain ⟨⟨g, d⟩, m⟩ := x
  refine ⟨⟨GR_g g h1 eK eA, ?_⟩, ?_⟩
  · rcases d with d | ⟨d1, d2⟩
    · exact Or.inl (by rw [e0 13 (by decide)]; exact d)
    · refine Or.inr ⟨by rw [e0 13 (by decide)]; exact d1, ?_⟩
      rcases d2 with ⟨sp, y⟩ | ⟨sp, y⟩
      · exact Or.inl ⟨sp, by rw [e 37 (by decide) (by decide)]; exact y⟩
      · exact Or.inr ⟨sp, EX8_g y h1 eK eJ eA e eS eN⟩
  · rw [e0 14 (by decide)]
    rcases m with m | ⟨m1, m2⟩
    · exact Or.inl m
    · exact Or.inr ⟨m1, fun w hw => by rw [e61]; exact m2 w hw⟩
/-- where the surveys' rows lie -/
theorem gr_at {h : am_H} {o cap qs qn : Nat} (g : GR h o cap qs qn) : (qs = o + 10 ∨ 87 ≤ qs) ∧ (qn = o + 11 ∨ 87 ≤ qn) ∧ qs < h.1 ∧ qn < h.1 ∧ 87 ≤ h.1 := ⟨g.2.2.1, g.2.2.2.1, g.2.1.2.1, g.2.1.2.2.1, g.2.1.2.2.2⟩
/-- the reference has worked -/
theorem X8_loc {h h' : am_H} {S : PS} {c sl : Nat} (x : X8 h S c sl) (f : same8 h h') : X8 h' S c sl := by
  obtain ⟨w, ba, cf, qf, cc, qc, c3, a3, b3, st, t, bk, on, tk, rw8, sv, co⟩ := x
  have eI : ∀ p, p < 51 ∨ 86 < p → am_I h' p = am_I h p := fun p hp => (f.2.2.2 p hp).1
  have eJ : ∀ p, p < 51 ∨ 86 < p → am_J h' p = am_J h p := fun p hp => (f.2.2.2 p hp).2
  have h1 : h.1 ≤ h'.1 := Nat.le_of_eq f.1.symm
  have eK : ∀ p, p < h.1 → am_K h' p = am_K h p := fun p _ => by rw [f.2.1]
  have eA : ∀ p, am_A h' p = am_A h p := fun p => by rw [f.2.2.1]
  obtain ⟨ga, gb, -⟩ := gr_at sv.1.1
  obtain ⟨bk', gm⟩ := BK8_f (frFz_8 (w := w) f) bk (by rw [eI 0 (by omega)]) (eA 25)
  refine ⟨w, ba, cf, qf, cc, qc, c3, a3, b3, stat_8 st f, tx8_c t (by rw [f.2.1]) (by rw [f.2.1]) (eI 1 (by omega)) (eI 2 (by omega)) (eA 1), bk', ON8_f (frFz_8 (w := w) f) on (by rw [eI 0 (by omega)]) (eA 26), TK8_g tk (by rw [eI 28 (by omega)]) (fun p hp => eI p (by omega)) (by rw [eJ 0 (by omega)]) (fun k _ => by rw [eI 0 (by omega)]), RW8_g rw8 h1 eK (fun p _ => eA p), SV8_g sv h1 eK (eJ 40 (by omega)) (eA 37) (fun p a b => eI p (by omega)) (eI a3 (by omega)) (eI b3 (by omega)) (fun k _ => by rw [eI 0 (by omega)]) (eI 49 (by omega)), ?_⟩
  rw [gm]; exact co
theorem Q9_9 {h h' : am_H} {v : SV} (q : Q9 h v) (f : same9 h h') : Q9 h' v := Q9_c q (f 80 (by decide) (by decide)).2 (fun k _ => by rw [(f 51 (by decide) (by decide)).1]) (fun p hp => (f p (by omega) (by omega)).1)
theorem C9_9 {h h' : am_H} {r : TR} {sd : Nat → Bool} (c : C9 h r sd) (f : same9 h h') : C9 h' r sd := by
  have e62 := (f 51 (by decide) (by decide)).1
  rcases c with c | ⟨c1, c2⟩
  · exact Or.inl (by rw [e62]; exact c)
  · refine Or.inr ⟨by rw [e62]; exact c1, ?_⟩
    rcases c2 with ⟨sp, y⟩ | ⟨sp, q, e96, y⟩
    · exact Or.inl ⟨sp, by rw [e62]; exact y⟩
    · refine Or.inr ⟨sp, Q9_9 q f, by rw [(f 85 (by decide) (by decide)).1]; exact e96, ?_⟩
      rw [e62]
      rcases y with y | ⟨y1, y2⟩
      · exact Or.inl y
      · exact Or.inr ⟨y1, fun i hi => by rw [(f 83 (by decide) (by decide)).1]; exact y2 i hi⟩
/-- the class has worked -/
theorem X9_loc {h h' : am_H} {S : PS} (x : X9p h S) (st : am_stat h') (f : same9 h h') : X9p h' S := by
  obtain ⟨-, y, k, c⟩ := x
  have e : ∀ p, 51 ≤ p → p < 87 → am_I h' p = am_I h p := fun p a b => (f p a b).1
  refine ⟨st, ?_, ?_, C9_9 c f⟩
  · unfold Y9
    rw [e 51 (by decide) (by decide), e 52 (by decide) (by decide), e 53 (by decide) (by decide), e 54 (by decide) (by decide), e 55 (by decide) (by decide), e 56 (by decide) (by decide), e 57 (by decide) (by decide)]
    exact y
  · unfold K9 Z9
    rw [e 51 (by decide) (by decide), e 58 (by decide) (by decide), e 59 (by decide) (by decide), e 77 (by decide) (by decide), e 78 (by decide) (by decide)]
    exact k
/-- both -/
def JJ (h : am_H) (c sl : Nat) : Prop := ∃ S, PSok S ∧ X8 h S c sl ∧ X9p h S
/-- the room is never spent -/
theorem CO_fit {c sl cf cc c3 nb no g : Nat} (x : CO c sl cf cc c3 nb no g) (h1 : cf ≤ 8192) (h2 : cc ≤ 100000) (h3 : c3 ≤ 360000) (h5 : nb ≤ 8) (h6 : no ≤ 3) (h7 : g ≤ 8) : c ≤ 600000 ∧ sl ≤ 7302250 := by
  obtain ⟨a, b⟩ := x
  constructor <;> omega
theorem X8_fit {h : am_H} {S : PS} {c sl : Nat} (ok : PSok S) (x : X8 h S c sl) : c ≤ 600000 ∧ sl ≤ 7302250 := by
  obtain ⟨w, ba, cf, qf, cc, qc, c3, a3, b3, st, t, bk, on, tk, rw8, sv, co⟩ := x
  have hg : gM h S ba ≤ 8 := Nat.le_trans (cN_le _ _) ok.2.1
  exact CO_fit co rw8.1.2.1.2 rw8.2.1.2.1 rw8.2.2.1.1.2.2.2.2.2 ok.2.1 ok.2.2.2.1 hg
theorem X8_st {h : am_H} {S : PS} {c sl : Nat} (x : X8 h S c sl) : am_stat h := by
  obtain ⟨w, ba, cf, qf, cc, qc, c3, a3, b3, st, -⟩ := x
  exact st
