/-! ===== a book more, a one more: both sides ===== -/
theorem ab_in {S : PS} (ok : PSok S) (o : Nat) : S.st o = none ∨ ∃ b, b < S.nb ∧ S.st o = some b := by
  by_cases h : o < 3
  · rcases ok.2.2.2.2.2.1 o h with q | ⟨b, hb, q, -⟩
    · exact Or.inl q
    · exact Or.inr ⟨b, hb, q⟩
  · exact Or.inl (ok.2.2.2.2.2.2.2.2.2.2 o (by omega))
theorem ab_bn (S : PS) (n : Nat) (cd : Nat → Nat) (f : Nat → Int32) {k : Nat} (hk : k < S.nb) : (S.ab n cd f).bn k = S.bn k ∧ (S.ab n cd f).bc k = S.bc k ∧ (S.ab n cd f).bf k = S.bf k := by
  have ne : k ≠ S.nb := by omega
  refine ⟨?_, ?_, ?_⟩
  · show updN S.bn S.nb n k = _
    unfold updN; rw [if_neg ne]
  · show (if k = S.nb then cd else S.bc k) = _
    rw [if_neg ne]
  · show (if k = S.nb then f else S.bf k) = _
    rw [if_neg ne]
theorem ab_bn0 (S : PS) (n : Nat) (cd : Nat → Nat) (f : Nat → Int32) : (S.ab n cd f).bn S.nb = n ∧ (S.ab n cd f).bc S.nb = cd ∧ (S.ab n cd f).bf S.nb = f := by
  refine ⟨?_, ?_, ?_⟩
  · show updN S.bn S.nb n S.nb = _
    unfold updN; rw [if_pos rfl]
  · show (if S.nb = S.nb then cd else S.bc S.nb) = _
    rw [if_pos rfl]
  · show (if S.nb = S.nb then f else S.bf S.nb) = _
    rw [if_pos rfl]
theorem ab_cd {S : PS} (ok : PSok S) (n : Nat) (cd : Nat → Nat) (f : Nat → Int32) : (S.ab n cd f).cd = S.cd ∧ (S.ab n cd f).na = S.na ∧ (S.ab n cd f).fol = S.fol := by
  refine ⟨?_, ?_, ?_⟩
  · funext o i
    rcases ab_in ok o with q | ⟨b, hb, q⟩
    · unfold PS.cd; rw [show (S.ab n cd f).st o = none from q, q]
    · rw [cd_some (show (S.ab n cd f).st o = some b from q), cd_some q, (ab_bn S n cd f hb).2.1]
  · funext o
    rcases ab_in ok o with q | ⟨b, hb, q⟩
    · rw [na_none (show (S.ab n cd f).st o = none from q), na_none q]
    · rw [na_some (show (S.ab n cd f).st o = some b from q), na_some q, (ab_bn S n cd f hb).1]
  · funext o j
    rcases ab_in ok o with q | ⟨b, hb, q⟩
    · rw [fol_none (show (S.ab n cd f).st o = none from q), fol_none q]
    · rw [fol_some (show (S.ab n cd f).st o = some b from q), fol_some q, (ab_bn S n cd f hb).1, (ab_bn S n cd f hb).2.2]
theorem ab_r {S : PS} (ok : PSok S) (n : Nat) (cd : Nat → Nat) (f : Nat → Int32) : (S.ab n cd f).r = S.r := by
  show (S.k, S.rm, (S.ab n cd f).fol, (fun o i => (S.ab n cd f).cd o i / 100), (fun o i => (S.ab n cd f).cd o i / 10 % 10), (fun o i => (S.ab n cd f).cd o i % 10)) = _
  rw [(ab_cd ok n cd f).1, (ab_cd ok n cd f).2.2]; rfl
theorem PSok_ab {S : PS} (ok : PSok S) (nb8 : S.nb < 8) {n : Nat} {cd : Nat → Nat} {f : Nat → Int32} (bk : bkOk n cd f) : PSok (S.ab n cd f) := by
  have er := ab_r ok n cd f
  obtain ⟨a1, a2, a3, a4, a5, a6, a7, a8, a9, a10⟩ := ok
  refine ⟨a1, nb8, fun k hk => ?_, a4, a5, fun o ho => ?_, a7, a8, by rw [er]; exact a9, a10⟩
  · have hk : k < S.nb + 1 := hk
    by_cases e : k = S.nb
    · rw [e, (ab_bn0 S n cd f).1, (ab_bn0 S n cd f).2.1, (ab_bn0 S n cd f).2.2]; exact bk
    · have hb : k < S.nb := by omega
      rw [(ab_bn S n cd f hb).1, (ab_bn S n cd f hb).2.1, (ab_bn S n cd f hb).2.2]; exact a3 k hb
  · rcases a6 o ho with q | ⟨b, hb, q, x⟩
    · exact Or.inl q
    · refine Or.inr ⟨b, Nat.lt_succ_of_lt hb, q, ?_⟩
      rw [(ab_bn S n cd f hb).1, (ab_bn S n cd f hb).2.1]; exact x
theorem cN_c {P Q : Nat → Bool} : ∀ n, (∀ k, k < n → P k = Q k) → cN P n = cN Q n := by
  intro n
  induction n with
  | zero => intro _; rfl
  | succ n ih =>
    intro e
    show cN P n + (bif P n then 1 else 0) = cN Q n + (bif Q n then 1 else 0)
    rw [ih (fun k hk => e k (by omega)), e n (by omega)]
/-- rows that grow keep their marks where cells are added at the end -/
theorem RW8_x {h h' : am_H} {w : Nat → Nat} {cf : Nat} {qf : Nat → Nat} {cc : Nat} {qc : Nat → Nat} {c3 a3 b3 : Nat} (x : RW8 h w cf qf cc qc c3 a3 b3) (t : Nat) (h1 : h.1 ≤ h'.1) (h98 : 87 ≤ h.1) (eK : ∀ p, p < h.1 → am_K h' p = am_K h p) (eA : ∀ p, p = 12 ∨ p = 19 ∨ p = 37 → am_A h' p = am_A h p) : RW8 h' (fun q => if q < h.1 then w q else t) cf qf cc qc c3 a3 b3 := by
  have y := RW8_g x h1 eK eA
  obtain ⟨⟨x1, x2, x3⟩, ⟨y1, y2, y3⟩, ⟨z1, z2, z3⟩, v⟩ := x
  obtain ⟨⟨x1', -, -⟩, ⟨y1', -, -⟩, ⟨z1', -⟩, -⟩ := y
  refine ⟨⟨x1', x2, fun k a b => ?_⟩, ⟨y1', y2, fun k a b => ?_⟩, ⟨z1', ?_, ?_⟩, fun p hp => ?_⟩
  · rw [fill_eq (x1.1 k a b).2.1]; exact x3 k a b
  · rw [fill_eq (y1.1 k a b).2.1]; exact y3 k a b
  · rw [fill_eq (gr_at z1).2.2.1]; exact z2
  · rw [fill_eq (gr_at z1).2.2.2.1]; exact z3
  · rw [fill_eq (show p < h.1 by omega)]; exact v p hp
/-- the class keeps a book -/
def kpH (h : am_H) (k a : Nat) : am_H := am_sI (am_sA h 25 k (some a)) 0 5 (nI (k + 1))
theorem kp_8 {h : am_H} {k a : Nat} (k8 : k < 8) (e : am_I h 0 5 = nI k) (ka : am_K h a = .inl 0) : f_X8_keep a h = some (nI k, kpH h k a) := by
  unfold f_X8_keep
  rw [hp_isO ka, cond_true, e, hp_vp k8 (by decide), cond_true, nI_clamp (show k < 2 ^ 31 by omega), sA_I, e, hp_1]
  rfl
theorem X8_ab {h hm : am_H} {S : PS} {c sl c1 z1 a : Nat} (ok : PSok S) (x : X8 h S c sl) {n : Nat} {cd : Nat → Nat} {f : Nat → Int32} (e : ext h hm) (sm : am_stat (kpH hm S.nb a)) {qc qf : Nat} (ha : h.1 ≤ a) (ham : a < hm.1) (hc : h.1 ≤ qc) (hcm : qc < hm.1) (hf : (h.1 ≤ qf ∧ qf < hm.1) ∨ ∃ k a', k < S.nb ∧ am_A h 25 k = some a' ∧ am_A h a' 2 = some qf) (k1 : am_K hm a = .inl 0 ∧ am_I hm a 0 = nI n ∧ am_A hm a 1 = some qc ∧ am_A hm a 2 = some qf ∧ am_A hm a 3 = none) (k2 : ∃ l, n < l ∧ l ≤ 100 ∧ am_K hm qc = .inr (0, l)) (k3 : ∃ l, n < l ∧ l ≤ 100 ∧ am_K hm qf = .inr (0, l)) (k4 : ∀ i, 1 ≤ i → i ≤ n → am_I hm qc i = nI (cd i)) (k5 : ∀ j, j ≤ n → am_I hm qf j = f j) (c3 : c1 ≤ 3) (z3 : z1 ≤ 200) : X8 (kpH hm S.nb a) (S.ab n cd f) (c + c1) (sl + z1) := by
  obtain ⟨w, ba, cf, qf0, cc, qc0, c3', a3, b3, st, t, bk, on, tk, rw8, sv, co⟩ := x
  have h98 : 87 ≤ h.1 := st.1
  have iI : ∀ p, p < h.1 → p ≠ 0 → am_I (kpH hm S.nb a) p = am_I h p := fun p hp p0 => by
    unfold kpH; rw [hp_I' _ _ _ p0, sA_I]; exact (e.2 p hp).2.1
  have i0 : ∀ k, k ≠ 5 → am_I (kpH hm S.nb a) 0 k = am_I h 0 k := fun k hk => by
    unfold kpH; rw [hp_I, upd_ne hk, sA_I, (e.2 0 (by omega)).2.1]
  have iA : ∀ p, p ≠ 25 → am_A (kpH hm S.nb a) p = am_A hm p := fun p hp => sA_o _ _ _ hp
  have iA0 : ∀ p, p < h.1 → p ≠ 25 → am_A (kpH hm S.nb a) p = am_A h p := fun p hp h25 => (iA p h25).trans (e.2 p hp).2.2.2
  have i25 : ∀ k, k ≠ S.nb → am_A (kpH hm S.nb a) 25 k = am_A h 25 k := fun k hk => by
    show am_A (am_sA hm 25 S.nb (some a)) 25 k = _
    rw [sA_ne _ _ _ hk, (e.2 25 (by omega)).2.2.2]
  have iK0 : am_K (kpH hm S.nb a) = am_K hm := rfl
  have iK : ∀ p, p < h.1 → am_K (kpH hm S.nb a) p = am_K h p := fun p hp => (e.2 p hp).1
  have iJ : ∀ p, p < h.1 → am_J (kpH hm S.nb a) p = am_J h p := fun p hp => (e.2 p hp).2.2.1
  have iIm : ∀ p, p ≠ 0 → am_I (kpH hm S.nb a) p = am_I hm p := fun p p0 => by unfold kpH; rw [hp_I' _ _ _ p0, sA_I]
  have h1 : h.1 ≤ (kpH hm S.nb a).1 := e.1
  have fz : frFz w (fun q => if q < h.1 then w q else 0) h (kpH hm S.nb a) := ⟨h1, fun p z => by
    have p1 := z.1
    have p2 := z.2.1
    exact ⟨by rw [fill_eq p2]; exact z.2.2, iK p p2, iI p p2 (by omega), iA0 p p2 (by omega)⟩⟩
  have nz : ∀ p, h.1 ≤ p → p < hm.1 → frz (kpH hm S.nb a) (fun q => if q < h.1 then w q else 0) p := fun p a1 a2 => ⟨by omega, a2, if_neg (by omega)⟩
  have fqf : frz (kpH hm S.nb a) (fun q => if q < h.1 then w q else 0) qf := by
    rcases hf with ⟨q1, q2⟩ | ⟨k, a', hk, q1, q2⟩
    · exact nz qf q1 q2
    · obtain ⟨r1, qc', qf', -, -, z3', ⟨-, -, -, r2⟩, -⟩ := bk.2.1 k hk
      rw [q1] at r1
      injection r1 with r1
      rw [r1, r2] at q2
      injection q2 with q2
      rw [← q2]; exact frz_f fz z3'
  have nba : ∀ k, k < S.nb → ba k < h.1 := fun k hk => by
    obtain ⟨-, qc', qf', z1', -⟩ := bk.2.1 k hk
    exact z1'.2.1
  have er := ab_r ok n cd f
  have ena := (ab_cd ok n cd f).2.1
  have ecd := (ab_cd ok n cd f).1
  have nba' : ∀ k, k < S.nb → (fun k => if k = S.nb then a else ba k) k = ba k := fun k hk => if_neg (by omega)
  have nba0 : (fun k => if k = S.nb then a else ba k) S.nb = a := if_pos rfl
  refine ⟨(fun q => if q < h.1 then w q else 0), (fun k => if k = S.nb then a else ba k), cf, qf0, cc, qc0, c3', a3, b3, sm, tx8_c t (iK 1 (by omega)) (iK 2 (by omega)) (iI 1 (by omega) (by decide)) (iI 2 (by omega) (by decide)) (iA0 1 (by omega) (by decide)), ⟨?_, fun k hk => ?_, fun i j hi hj q => ?_⟩, ON8_eq (S := S) rfl (ON8_f fz on (i0 7 (by decide)) (iA0 26 (by omega) (by decide))), ?_, RW8_x rw8 0 h1 h98 iK (fun p hp => iA0 p (by omega) (by omega)), ?_, ?_⟩
  · show am_I (kpH hm S.nb a) 0 5 = nI (S.nb + 1)
    unfold kpH; rw [hp_I, upd_at]
  · have hk : k < S.nb + 1 := hk
    by_cases q : k = S.nb
    · subst q
      rw [nba0, (ab_bn0 S n cd f).1, (ab_bn0 S n cd f).2.1, (ab_bn0 S n cd f).2.2]
      refine ⟨sA_at hm 25 S.nb (some a), qc, qf, nz a ha ham, nz qc hc hcm, fqf, ⟨k1.1, ?_, ?_, ?_⟩, k2, k3, ?_, ?_, Or.inl ?_⟩
      · rw [iIm a (by omega)]; exact k1.2.1
      · rw [iA a (by omega)]; exact k1.2.2.1
      · rw [iA a (by omega)]; exact k1.2.2.2.1
      · rw [iIm qc (by omega)]; exact k4
      · rw [iIm qf (by have := fqf.1; omega)]; exact k5
      · rw [iA a (by omega)]; exact k1.2.2.2.2
    · have hb : k < S.nb := by omega
      rw [nba' k hb, (ab_bn S n cd f hb).1, (ab_bn S n cd f hb).2.1, (ab_bn S n cd f hb).2.2, i25 k q]
      exact ⟨(bk.2.1 k hb).1, BK1_f fz (bk.2.1 k hb).2⟩
  · have hi : i < S.nb + 1 := hi
    have hj : j < S.nb + 1 := hj
    by_cases qi : i = S.nb
    · by_cases qj : j = S.nb
      · rw [qi, qj]
      · have := nba j (by omega)
        rw [qi, nba0, nba' j (by omega)] at q
        omega
    · by_cases qj : j = S.nb
      · have := nba i (by omega)
        rw [qj, nba0, nba' i (by omega)] at q
        omega
      · rw [nba' i (by omega), nba' j (by omega)] at q
        exact bk.2.2 i j (by omega) (by omega) q
  · have y := TK8_g tk (by rw [iI 28 (by omega) (by decide)]) (fun p hp => iI p (by omega) (by omega)) (by rw [iJ 0 (by omega)]) (fun k hk => i0 k (by omega))
    obtain ⟨y1, y2, y3, y4, y5⟩ := y
    refine ⟨?_, y2, ?_, y4, y5⟩
    · rw [er]; exact y1
    · rw [ena, ecd]; exact y3
  · obtain ⟨ga, gb, la, lb, -⟩ := gr_at sv.1.1
    have y := SV8_g sv h1 iK (iJ 40 (by omega)) (iA0 37 (by omega) (by decide)) (fun p a b => iI p (by omega) (by omega)) (iI a3 la (by omega)) (iI b3 lb (by omega)) (fun k hk => i0 k (by omega)) (iI 49 (by omega) (by decide))
    unfold SV8 at *
    rw [er, ena]; exact y
  · have gm : gM (kpH hm S.nb a) (S.ab n cd f) (fun k => if k = S.nb then a else ba k) = gM h S ba := by
      unfold gM
      show cN _ (S.nb + 1) = _
      have l0 : (am_A (kpH hm S.nb a) ((fun k => if k = S.nb then a else ba k) S.nb) 3).isSome = false := by
        rw [nba0, iA a (by omega), k1.2.2.2.2]; rfl
      rw [cN_f l0]
      exact cN_c _ (fun k hk => by
        obtain ⟨-, qc', qf', z1', -⟩ := bk.2.1 k hk
        show (am_A (kpH hm S.nb a) ((fun k => if k = S.nb then a else ba k) k) 3).isSome = _
        rw [nba' k hk, (fz.2 _ z1').2.2.2])
    rw [gm]
    obtain ⟨o1, o2⟩ := co
    show CO (c + c1) (sl + z1) cf cc c3' (S.nb + 1) S.no (gM h S ba)
    exact ⟨by omega, by omega⟩
/-- the reference keeps a book -/
theorem X9_ab {h h1 : am_H} {S : PS} (ok : PSok S) (x : X9p h S) (fr : fr9 S.nb h h1) {n : Nat} {cd : Nat → Nat} {f : Nat → Int32} (e66 : am_I h1 55 S.nb = nI n) (e64 : ∀ i, 1 ≤ i → i ≤ n → am_I h1 53 (16 * S.nb + i) = nI (cd i)) (e65 : ∀ j, j < 16 → am_I h1 54 (16 * S.nb + j) = f j) : X9p (am_sI h1 51 2 (nI (S.nb + 1))) (S.ab n cd f) ∧ same8 h (am_sI h1 51 2 (nI (S.nb + 1))) := by
  obtain ⟨⟨s1, s2, s3, s4⟩, f1, f2, f3, f4⟩ := fr
  obtain ⟨st, y, k, c9⟩ := x
  generalize hh2 : am_sI h1 51 2 (nI (S.nb + 1)) = h2
  have i0 : ∀ q, q ≠ 51 → am_I h2 q = am_I h1 q := fun q hq => by rw [← hh2]; exact hp_I' _ _ _ hq
  have i62 : ∀ j, j ≠ 2 → j ≠ 22 → j ≠ 23 → am_I h2 51 j = am_I h 51 j := fun j a b d => by rw [← hh2, hp_I, upd_ne a]; exact f2 j b d
  have i2 : am_I h2 51 2 = nI (S.nb + 1) := by rw [← hh2, hp_I, upd_at]
  have ii : ∀ q, q ≠ 51 → q ≠ 53 → q ≠ 54 → q ≠ 55 → (q < 60 ∨ 65 < q) → am_I h2 q = am_I h q := fun q a b d e g => by rw [i0 q a]; exact f1 q a b d e g
  have sm : same8 h h2 := by
    refine ⟨by rw [← hh2]; exact s1, by rw [← hh2]; exact s2, by rw [← hh2]; exact s4, fun p hp => ⟨ii p (by omega) (by omega) (by omega) (by omega) (by omega), ?_⟩⟩
    rw [← hh2]; exact congrFun s3 p
  refine ⟨⟨stat_8 st sm, ⟨⟨by rw [i62 0 (by decide) (by decide) (by decide)]; exact y.1.1, by rw [ii 52 (by decide) (by decide) (by decide) (by decide) (by decide)]; exact y.1.2⟩, ⟨i2, fun b hb => ?_⟩, ⟨by rw [i62 6 (by decide) (by decide) (by decide)]; exact y.2.2.1, by rw [ii 56 (by decide) (by decide) (by decide) (by decide) (by decide), ii 57 (by decide) (by decide) (by decide) (by decide) (by decide)]; exact y.2.2.2⟩⟩, ?_, ?_⟩, sm⟩
  · have hb : b < S.nb + 1 := hb
    rw [i0 53 (by decide), i0 54 (by decide), i0 55 (by decide)]
    by_cases q : b = S.nb
    · subst q
      rw [(ab_bn0 S n cd f).1, (ab_bn0 S n cd f).2.1, (ab_bn0 S n cd f).2.2]
      exact ⟨e66, e64, e65⟩
    · have hb' : b < S.nb := by omega
      rw [(ab_bn S n cd f hb').1, (ab_bn S n cd f hb').2.1, (ab_bn S n cd f hb').2.2]
      obtain ⟨y1, y2, y3⟩ := y.2.1.2 b hb'
      have n15 := (ok.2.2.1 b hb').1
      exact ⟨by rw [f4 b hb']; exact y1, fun i a d => by rw [(f3 (16 * b + i) (by omega)).1]; exact y2 i a d, fun j hj => by rw [(f3 (16 * b + j) (by omega)).2]; exact y3 j hj⟩
  · have := K9_c k (fun j hj => i62 j (by omega) (by omega) (by omega)) (fun q hq => ii q (by omega) (by omega) (by omega) (by omega) (by omega))
    exact this
  · rw [ab_r ok n cd f]
    exact C9_c c9 (fun j a b => i62 j (by omega) (by omega) (by omega)) (fun q a b => ii q (by omega) (by omega) (by omega) (by omega) (by omega)) (by rw [← hh2]; exact congrFun s3 80)
/-- the page is blank -/
theorem X8_bl {h : am_H} {S : PS} {c sl : Nat} (x8 : X8 h S c sl) : X8 (am_sI h 1 1 (Int32.ofInt 0)) (S.pg 0 S.tx) c sl := by
  have t := X8_tx x8
  exact X8_pg x8 ⟨rfl, rfl, rfl⟩ rfl (fun p a _ => hp_I' _ _ _ a) ⟨t.1, t.2.1, t.2.2.1, by rw [hp_I, upd_at]; rfl, by rw [hp_I' _ _ _ (by decide)]; exact t.2.2.2.2.1, t.2.2.2.2.2.1, t.2.2.2.2.2.2.1, by omega⟩
theorem X9_bl {h : am_H} {S : PS} (x : X9p h S) : X9p (am_sI h 51 0 (Int32.ofInt 0)) (S.pg 0 S.tx) := by
  obtain ⟨st, y, k, c9⟩ := x
  have i62 : ∀ k, k ≠ 0 → am_I (am_sI h 51 0 (Int32.ofInt 0)) 51 k = am_I h 51 k := fun k hk => by rw [hp_I _ 51, upd_ne hk]
  have i0 : ∀ q, q ≠ 51 → am_I (am_sI h 51 0 (Int32.ofInt 0)) q = am_I h q := fun q hq => hp_I' _ _ _ hq
  exact ⟨st, ⟨⟨by rw [hp_I _ 51, upd_at]; rfl, by rw [i0 52 (by decide)]; exact y.1.2⟩, ⟨by rw [i62 2 (by decide)]; exact y.2.1.1, by rw [i0 53 (by decide), i0 54 (by decide), i0 55 (by decide)]; exact y.2.1.2⟩, ⟨by rw [i62 6 (by decide)]; exact y.2.2.1, by rw [i0 56 (by decide), i0 57 (by decide)]; exact y.2.2.2⟩⟩, K9_c k (fun j hj => i62 j (by omega)) (fun q hq => i0 q (by omega)), C9_c c9 (fun j a b => i62 j (by omega)) (fun q a b => i0 q (by omega)) rfl⟩
/-- a row copied, shorter or as long -/
theorem cpy_s {h : am_H} {q N n : Nat} (hK : am_K h q = .inr (0, N)) (hq : q ≠ h.1) (hn : n ≤ N) (hN : N ≤ 1000) : ∃ f, f_J7_copyOf_59c91 q (nI n) h = some ((h.1, am_new h (.inr (0, n)) f), 1, n) ∧ ∀ j, j < n → f j = am_I h q j := by
  by_cases e : n = N
  · subst e
    refine ⟨am_I h q, ?_, fun _ _ => rfl⟩
    unfold f_J7_copyOf_59c91
    rw [hp_ln hK, b_some, if_pos (show nI n = Int32.ofNat n from rfl)]
    rfl
  · have cm : Int32.toNatClampNeg (nI n) = n := nI_clamp (by omega)
    have c0 : Int32.toNatClampNeg (Int32.ofInt 0) = 0 := rfl
    refine ⟨va_cpy (am_I (am_new h (.inr (0, n)) (fun _ => 0)) q) (am_I (am_new h (.inr (0, n)) (fun _ => 0)) h.1) 0 0 n, ?_, ?_⟩
    · unfold f_J7_copyOf_59c91
      have ne : ¬ nI n = nI N := fun e' => e ((nI_inj (by omega) (by omega)).mp e')
      have lt : nI n < nI N := by rw [nI_ltI (by omega) (by omega)]; omega
      rw [hp_ln hK]
      show (if nI n = nI N then _ else bif am_nn (nI n) then _ else none) = _
      rw [if_neg ne, nn_ok (by omega), cond_true, cm, hp_ln (n := N) (by rw [nw_K _ _ _ hq]; exact hK)]
      have eif : (if nI n < Int32.ofNat N then nI n else Int32.ofNat N) = nI n := if_pos lt
      show am_cost 1 n (bif am_cpk (Int32.ofInt 0) (Int32.ofInt 0) (if nI n < Int32.ofNat N then nI n else Int32.ofNat N) N n then _ else none) = _
      rw [eif]
      have ck : am_cpk (Int32.ofInt 0) (Int32.ofInt 0) (nI n) N n = true := by
        unfold am_cpk
        rw [c0, cm, decide_eq_false (nI_nneg (v := n) (by omega)), Nat.ble_eq_true_of_le (by omega), Nat.ble_eq_true_of_le (by omega)]; rfl
      rw [ck, cond_true, c0, cm]
      show some ((h.1, am_sR (am_new h (.inr (0, n)) (fun _ => 0)) h.1 _), 1 + 0, n + 0) = _
      rw [Nat.add_zero, Nat.add_zero]
      congr 3
      show (h.1 + 1, _, va_up (va_up h.2.2.1 h.1 _) h.1 _, _, _) = (h.1 + 1, _, va_up h.2.2.1 h.1 _, _, _)
      rw [hp_up_up]
      rfl
    · intro j hj
      show (if 0 ≤ j ∧ j < 0 + n then _ else _) = _
      rw [if_pos ⟨Nat.zero_le _, by omega⟩, nw_I _ _ _ hq]
      congr 1
      omega
/-- the class makes a book of what it has gathered -/
theorem gt_8 {h : am_H} (st : am_stat h) {n : Nat} (n15 : n ≤ 15) (e3 : am_I h 3 3 = nI n) : ∃ hm, f_X5_gathered h = some ((h.1, hm), 3, 4 + ((n + 1) + (n + 1))) ∧ ext h hm ∧ hm.1 = h.1 + 3 ∧ (am_K hm h.1 = .inl 0 ∧ am_I hm h.1 0 = nI n ∧ am_A hm h.1 1 = some (h.1 + 1) ∧ am_A hm h.1 2 = some (h.1 + 2) ∧ am_A hm h.1 3 = none) ∧ am_K hm (h.1 + 1) = .inr (0, n + 1) ∧ am_K hm (h.1 + 2) = .inr (0, n + 1) ∧ (∀ j, j ≤ n → am_I hm (h.1 + 1) j = am_I h 4 j) ∧ (∀ j, j ≤ n → am_I hm (h.1 + 2) j = am_I h 5 j) := by
  have h98 : 87 ≤ h.1 := st.1
  have K4 : am_K h 4 = .inr (0, 16) := sK st 4
  have K5 : am_K h 5 = .inr (0, 16) := sK st 5
  generalize hh1 : am_new h (.inl 0) (fun _ => 0) = h1
  have x1 : ext h h1 := by rw [← hh1]; exact ext_n _ _ _
  have n1 : h1.1 = h.1 + 1 := by rw [← hh1]; rfl
  have i3 : am_I h1 3 3 = nI n := by rw [(x1.2 3 (by omega)).2.1]; exact e3
  obtain ⟨fc, ec, gc⟩ := cpy_s (h := h1) (q := 4) (N := 16) (n := n + 1) (by rw [(x1.2 4 (by omega)).1]; exact K4) (by omega) (by omega) (by decide)
  generalize hh2 : am_new h1 (.inr (0, n + 1)) fc = h2 at ec
  have x2 : ext h1 h2 := by rw [← hh2]; exact ext_n _ _ _
  have n2 : h2.1 = h.1 + 2 := by rw [← hh2]; show h1.1 + 1 = _; omega
  have x12 := ext_t x1 x2
  obtain ⟨ff, ef, gf⟩ := cpy_s (h := h2) (q := 5) (N := 16) (n := n + 1) (by rw [(x12.2 5 (by omega)).1]; exact K5) (by omega) (by omega) (by decide)
  generalize hh3 : am_new h2 (.inr (0, n + 1)) ff = h3 at ef
  have x3 : ext h2 h3 := by rw [← hh3]; exact ext_n _ _ _
  have n3 : h3.1 = h.1 + 3 := by rw [← hh3]; show h2.1 + 1 = _; omega
  have x13 := ext_t x1 (ext_t x2 x3)
  have k0 : am_K h3 h.1 = .inl 0 := by
    rw [(x3.2 h.1 (by omega)).1, (x2.2 h.1 (by omega)).1, ← hh1, nw_K0]
  have A0 : am_A h3 h.1 3 = none := by
    rw [(x3.2 h.1 (by omega)).2.2.2, (x2.2 h.1 (by omega)).2.2.2, ← hh1]
    show va_up h.2.2.2.2 h.1 (fun _ => none) h.1 3 = none
    unfold va_up; rw [if_pos rfl]
  generalize hh4 : am_sA (am_sA (am_sI h3 h.1 0 (nI n)) h.1 1 (some (h.1 + 1))) h.1 2 (some (h.1 + 2)) = h4
  have x4 : ext h h4 := by rw [← hh4]; exact ext_a (ext_a (ext_s x13 (Nat.le_refl _) 0 _) (Nat.le_refl _) 1 _) (Nat.le_refl _) 2 _
  have i4 : ∀ p, p ≠ h.1 → am_I h4 p = am_I h3 p := fun p hp => by rw [← hh4, sA_I, sA_I, hp_I' _ _ _ hp]
  have kk4 : am_K h4 = am_K h3 := by rw [← hh4]; rfl
  have k1' : am_K h3 (h.1 + 1) = .inr (0, n + 1) := by
    rw [(x3.2 (h.1 + 1) (by omega)).1, ← hh2, show h.1 + 1 = h1.1 from n1.symm, nw_K0]
  have k2' : am_K h3 (h.1 + 2) = .inr (0, n + 1) := by
    rw [← hh3, show h.1 + 2 = h2.1 from n2.symm, nw_K0]
  refine ⟨h4, ?_, x4, by rw [← hh4]; exact n3, ⟨by rw [kk4]; exact k0, by rw [← hh4, sA_I, sA_I, hp_I, upd_at], by rw [← hh4, sA_ne _ _ _ (by decide), sA_at], by rw [← hh4, sA_at], by rw [← hh4, sA_ne _ _ _ (by decide), sA_ne _ _ _ (by decide)]; exact A0⟩, by rw [kk4]; exact k1', by rw [kk4]; exact k2', fun j hj => ?_, fun j hj => ?_⟩
  · unfold f_X5_gathered
    rw [hh1, i3, hp_1, ec, bcs, show am_I h2 3 3 = nI n from by rw [(x12.2 3 (by omega)).2.1]; exact e3, hp_1, ef, bcs, hp_isO k0, cond_true]
    unfold f_X0_init
    rw [hp_isO k0, cond_true, Nat.ble_eq_true_of_le h98, cond_true, cond_true, n1, n2, hh4, b2s, cts, cts, cts]
  · rw [i4 _ (by omega), (x3.2 (h.1 + 1) (by omega)).2.1, ← hh2, show h.1 + 1 = h1.1 from n1.symm, nw_I0, gc j (by omega), (x1.2 4 (by omega)).2.1]
  · rw [i4 _ (by omega), ← hh3, show h.1 + 2 = h2.1 from n2.symm, nw_I0, gf j (by omega), (x12.2 5 (by omega)).2.1]
