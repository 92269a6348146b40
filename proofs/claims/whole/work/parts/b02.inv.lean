/-! ===== what both hold of the whole state ===== -/
/-- how many machines have been made -/
def gM (h : am_H) (S : PS) (ba : Nat → Nat) : Nat := cN (fun k => (am_A h (ba k) 3).isSome) S.nb
/-- what has been allocated -/
def CO (c sl cf cc c3 nb no g : Nat) : Prop := 2048 * c ≤ 2048 * (87 + 5 * cf + 5 * cc + 3 * nb + 2 * no + 3 * g) + c3 ∧ sl ≤ 800102 + 56 * cf + 10 * cc + 4 * c3 + 200 * nb + 200 * no + 102500 * g
/-- the class's side -/
def X8 (h : am_H) (S : PS) (c sl : Nat) : Prop := ∃ (w ba : Nat → Nat) (cf : Nat) (qf : Nat → Nat) (cc : Nat) (qc : Nat → Nat) (c3 a3 b3 : Nat), am_stat h ∧ tx8 h 1 2 S.m S.tx ∧ BK8 h w S ba ∧ ON8 h w S ∧ TK8 h S ∧ RW8 h w cf qf cc qc c3 a3 b3 ∧ SV8 h S c3 a3 b3 ∧ CO c sl cf cc c3 S.nb S.no (gM h S ba)
/-- the reference's side: page, books, ones -/
def Y9 (h : am_H) (S : PS) : Prop := (am_I h 51 0 = nI S.m ∧ ∀ j, j < 60 → am_I h 52 j = S.tx j) ∧ (am_I h 51 2 = nI S.nb ∧ ∀ k, k < S.nb → am_I h 55 k = nI (S.bn k) ∧ (∀ i, 1 ≤ i → i ≤ S.bn k → am_I h 53 (16 * k + i) = nI (S.bc k i)) ∧ ∀ j, j < 16 → am_I h 54 (16 * k + j) = S.bf k j) ∧ (am_I h 51 6 = nI S.no ∧ ∀ k, k < S.no → am_I h 57 k = nI (S.om k) ∧ ∀ j, j < S.om k → am_I h 56 (60 * k + j) = S.ox k j)
/-- the reference's side: seats, kinds, room, places, posts, counts -/
def K9 (h : am_H) (S : PS) : Prop := (am_I h 51 11 = nI S.rm ∧ (∀ f t, f < 3 → t < 3 → f ≠ t → am_I h 59 (3 * f + t) = nI (S.k (pn f t)) ∧ am_I h 78 (3 * f + t) = nI (S.s.2 (pn f t))) ∧ (∀ o, o < 3 → am_I h 77 o = nI (S.s.1 o)) ∧ (∀ o, o < 3 → am_I h 58 o = stI (S.st o))) ∧ Z9 h ∧ am_I h 51 40 = Int32.ofInt (-1) ∧ am_I h 51 12 = S.sc ∧ am_I h 51 13 = nI S.mc
def X9p (h : am_H) (S : PS) : Prop := am_stat h ∧ Y9 h S ∧ K9 h S ∧ C9 h S.r S.sd
theorem K9_P {h : am_H} {S : PS} (ok : PSok S) (y : Y9 h S) (k : K9 h S) : P9m h S.r S.sd S.na S.s := by
  have ok0 := ok
  obtain ⟨-, -, ob, -, -, os, hk, hrm, -⟩ := ok
  obtain ⟨⟨k1, k2, k3, k4⟩, z, -⟩ := k
  refine ⟨⟨k1, k2, k3, fun o ho => ?_⟩, z, fun o ho => ?_, (PS_sk ok0).1⟩
  · rcases os o ho with q | ⟨b, hb, q, -⟩
    · refine ⟨by rw [na_none q]; omega, Or.inl ⟨by rw [k4 o ho, q]; rfl, na_none q, fun i j _ => ?_⟩⟩
      show bt (S.fol o j) i = false
      rw [fol_none q]; exact bt_zero i
    · obtain ⟨b15, bcd, -, bits, bz, -⟩ := ob b hb
      obtain ⟨y1, y2, y3⟩ := y.2.1.2 b hb
      have hb8 : b < 8 := by have := ok0.2.1; omega
      refine ⟨by rw [na_some q]; exact b15, Or.inr ⟨b, hb8, by rw [k4 o ho, q]; rfl, by rw [na_some q]; exact y1, fun j hj => ?_, fun i i1 hi => ?_, fun i hi i1 hv => ?_⟩⟩
      · show am_I h 54 (16 * b + j) = S.fol o j
        rw [y3 j hj, fol_some q]
        by_cases c : j ≤ S.bn b
        · rw [if_pos c]
        · rw [if_neg c, bz j (by omega) hj]
      · rw [na_some q] at hi
        obtain ⟨c1, c2, c3⟩ := bcd i i1 hi
        show am_I h 53 (16 * b + i) = nI (100 * (S.cd o i / 100) + 10 * (S.cd o i / 10 % 10) + S.cd o i % 10) ∧ S.cd o i / 100 < 2 ∧ S.cd o i / 10 % 10 < 3 ∧ S.cd o i % 10 < 4
        rw [cd_some q, y2 i i1 hi]
        refine ⟨congrArg nI (by omega), c1, c2, c3⟩
      · obtain ⟨b', hb', q', hin⟩ := PS_av ok0 ho i1 hv
        rw [q] at q'
        injection q' with q'
        rw [na_some q, q']; exact hin
  · show (S.st o).isSome = _
    rw [k4 o ho]
    rcases os o ho with q | ⟨b, hb, q, -⟩
    · rw [q, decide_eq_true (show stI none = Int32.ofInt (-1) from rfl)]; rfl
    · have hb8 : b < 8 := by have := ok0.2.1; omega
      rw [q, decide_eq_false (show ¬ stI (some b) = Int32.ofInt (-1) from nI_m1ne (by omega))]; rfl
theorem X9_U {h : am_H} {S : PS} (ok : PSok S) (x : X9p h S) : U9 h S.r S.sd S.s := by
  have p := K9_P ok x.2.1 x.2.2.1
  exact ⟨N9_T p.1 x.2.2.1.2.2.1, p.2.1, p.2.2.1, p.2.2.2⟩
/-- the reference has worked: the class's cells stay -/
def same8 (h h' : am_H) : Prop := h'.1 = h.1 ∧ am_K h' = am_K h ∧ am_A h' = am_A h ∧ (∀ p, p < 51 ∨ 86 < p → am_I h' p = am_I h p ∧ am_J h' p = am_J h p)
/-- the class has worked: the reference's cells stay -/
def same9 (h h' : am_H) : Prop := ∀ p, 51 ≤ p → p < 87 → am_I h' p = am_I h p ∧ am_J h' p = am_J h p
theorem same8_r (h : am_H) : same8 h h := ⟨rfl, rfl, rfl, fun _ _ => ⟨rfl, rfl⟩⟩
theorem same9_r (h : am_H) : same9 h h := fun _ _ _ => ⟨rfl, rfl⟩
theorem same9_t {a b c : am_H} (x : same9 a b) (y : same9 b c) : same9 a c := fun p h1 h2 => ⟨(y p h1 h2).1.trans (x p h1 h2).1, (y p h1 h2).2.trans (x p h1 h2).2⟩
theorem same8_t {a b c : am_H} (x : same8 a b) (y : same8 b c) : same8 a c := ⟨y.1.trans x.1, y.2.1.trans x.2.1, y.2.2.1.trans x.2.2.1, fun p h1 => ⟨(y.2.2.2 p h1).1.trans (x.2.2.2 p h1).1, (y.2.2.2 p h1).2.trans (x.2.2.2 p h1).2⟩⟩
theorem same8_A {h h' : am_H} (f : frA9 h h') : same8 h h' := ⟨f.1.1, f.1.2.1, f.1.2.2, fun p hp => ⟨f.2.2.1 p (by omega) (by omega), f.2.1 p (by omega)⟩⟩
theorem same8_M {h h' : am_H} (f : frM9 h h') : same8 h h' := ⟨f.1.1, f.1.2.1, f.1.2.2, fun p hp => ⟨f.2.2.1 p (by omega) (by omega), f.2.1 p (by omega)⟩⟩
theorem same8_S {h h' : am_H} (f : frS h h') : same8 h h' := ⟨f.1.1, f.1.2.1, f.1.2.2.1, fun p hp => ⟨f.2.1 p (by omega) (by omega), by rw [f.1.2.2.2]⟩⟩
theorem same8_62 (h : am_H) (k : Nat) (x : Int32) : same8 h (am_sI h 51 k x) := ⟨rfl, rfl, rfl, fun p hp => ⟨hp_I' _ _ _ (by omega), rfl⟩⟩
theorem stat_8 {h h' : am_H} (s : am_stat h) (f : same8 h h') : am_stat h' := by
  unfold am_stat; rw [f.1, f.2.1, f.2.2.1]; exact s
theorem M8_c {h h' : am_H} {m e r P : Nat} {nx : Nat → Option Nat} {en : Nat → Bool} (x : M8 h m e r P nx en) (k1 : am_K h' m = am_K h m) (k2 : am_K h' e = am_K h e) (k3 : am_K h' r = am_K h r) (i1 : am_I h' m = am_I h m) (i2 : am_I h' e = am_I h e) (i3 : am_I h' r = am_I h r) (a : am_A h' m = am_A h m) : M8 h' m e r P nx en := by
  unfold M8; rw [k1, k2, k3, i1, i2, i3, a]; exact x
theorem tx8_c {h h' : am_H} {a q m : Nat} {r : Nat → Int32} (x : tx8 h a q m r) (k1 : am_K h' a = am_K h a) (k2 : am_K h' q = am_K h q) (i1 : am_I h' a = am_I h a) (i2 : am_I h' q = am_I h q) (aa : am_A h' a = am_A h a) : tx8 h' a q m r := by
  unfold tx8; rw [k1, k2, i1, i2, aa]; exact x
/-- frozen cells stay -/
def frFz (w w' : Nat → Nat) (h h' : am_H) : Prop := h.1 ≤ h'.1 ∧ ∀ p, frz h w p → w' p = 0 ∧ am_K h' p = am_K h p ∧ am_I h' p = am_I h p ∧ am_A h' p = am_A h p
theorem frz_f {w w' : Nat → Nat} {h h' : am_H} (f : frFz w w' h h') {p : Nat} (z : frz h w p) : frz h' w' p := ⟨z.1, Nat.lt_of_lt_of_le z.2.1 f.1, (f.2 p z).1⟩
theorem MC8_f {w w' : Nat → Nat} {h h' : am_H} (f : frFz w w' h h') {n : Nat} {so : Nat → Nat} {fo : Nat → Nat → Prop} {m : Nat} (x : MC8 h w n so fo m) : MC8 h' w' n so fo m := by
  obtain ⟨e, r, K, R, P, la, z1, z2, z3, M, fd⟩ := x
  obtain ⟨-, a1, a2, a3⟩ := f.2 _ z1
  obtain ⟨-, b1, b2, b3⟩ := f.2 _ z2
  obtain ⟨-, c1, c2, c3⟩ := f.2 _ z3
  exact ⟨e, r, K, R, P, la, frz_f f z1, frz_f f z2, frz_f f z3, M8_c M a1 b1 c1 a2 b2 c2 a3, fd⟩
theorem BK1_f {w w' : Nat → Nat} {h h' : am_H} (f : frFz w w' h h') {a n : Nat} {c : Nat → Nat} {fm : Nat → Int32} (x : BK1 h w a n c fm) : BK1 h' w' a n c fm := by
  obtain ⟨qc, qf, z1, z2, z3, ⟨x1, x2, x3, x4⟩, x5, x6, x7, x8, x9⟩ := x
  obtain ⟨-, a1, a2, a3⟩ := f.2 _ z1
  obtain ⟨-, b1, b2, b3⟩ := f.2 _ z2
  obtain ⟨-, c1, c2, c3⟩ := f.2 _ z3
  refine ⟨qc, qf, frz_f f z1, frz_f f z2, frz_f f z3, ⟨by rw [a1]; exact x1, by rw [a2]; exact x2, by rw [a3]; exact x3, by rw [a3]; exact x4⟩, by rw [b1]; exact x5, by rw [c1]; exact x6, by rw [b2]; exact x7, by rw [c2]; exact x8, ?_⟩
  rw [a3]
  rcases x9 with q | ⟨m, q, mm⟩
  · exact Or.inl q
  · exact Or.inr ⟨m, q, MC8_f f mm⟩
theorem BK8_f {w w' : Nat → Nat} {h h' : am_H} (f : frFz w w' h h') {S : PS} {ba : Nat → Nat} (x : BK8 h w S ba) (e5 : am_I h' 0 5 = am_I h 0 5) (e25 : am_A h' 25 = am_A h 25) : BK8 h' w' S ba ∧ gM h' S ba = gM h S ba := by
  obtain ⟨x1, x2, x3⟩ := x
  refine ⟨⟨by rw [e5]; exact x1, fun k hk => ⟨by rw [e25]; exact (x2 k hk).1, BK1_f f (x2 k hk).2⟩, x3⟩, ?_⟩
  unfold gM
  have : ∀ n, n ≤ S.nb → cN (fun k => (am_A h' (ba k) 3).isSome) n = cN (fun k => (am_A h (ba k) 3).isSome) n := by
    intro n
    induction n with
    | zero => intro _; rfl
    | succ n ih =>
      intro hn
      obtain ⟨qc, qf, z1, -⟩ := (x2 n (by omega)).2
      have e := (f.2 _ z1).2.2.2
      show cN _ n + (bif (am_A h' (ba n) 3).isSome then 1 else 0) = cN _ n + (bif (am_A h (ba n) 3).isSome then 1 else 0)
      rw [ih (by omega), e]
  exact this _ (Nat.le_refl _)
theorem ON8_f {w w' : Nat → Nat} {h h' : am_H} (f : frFz w w' h h') {S : PS} (x : ON8 h w S) (e7 : am_I h' 0 7 = am_I h 0 7) (e26 : am_A h' 26 = am_A h 26) : ON8 h' w' S := by
  obtain ⟨x1, x2⟩ := x
  refine ⟨by rw [e7]; exact x1, fun k hk => ?_⟩
  obtain ⟨a, q, y1, y2, y3, y4⟩ := x2 k hk
  obtain ⟨-, a1, a2, a3⟩ := f.2 _ y2
  obtain ⟨-, b1, b2, b3⟩ := f.2 _ y3
  exact ⟨a, q, by rw [e26]; exact y1, frz_f f y2, frz_f f y3, tx8_c y4 a1 b1 a2 b2 a3⟩
theorem frFz_8 {w : Nat → Nat} {h h' : am_H} (f : same8 h h') : frFz w w h h' := ⟨Nat.le_of_eq f.1.symm, fun p z => ⟨z.2.2, by rw [f.2.1], (f.2.2.2 p (Or.inr (by have := z.1; omega))).1, by rw [f.2.2.1]⟩⟩
