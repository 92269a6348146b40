/-! ===== the class goes through all states: whole ===== -/
/-- whether the i-th state can still come to one that is done -/
noncomputable def svH (r : TR) (sd : Nat → Bool) (i : Nat) : Bool := uD (hope (fun i => tIs r sd ((svAll r).s i) 4) (svAll r).es (svAll r).et (svAll r).m i)
/-- what the i-th state is -/
noncomputable def svP (r : TR) (sd : Nat → Bool) (w i : Nat) : Bool := if w = 3 then !svH r sd i else tIs r sd ((svAll r).s i) w
noncomputable def svM (r : TR) (sd : Nat → Bool) (i : Nat) : Int32 := mkF (fun i => tMark r sd ((svAll r).s i)) (svH r sd) i
theorem svM_b (r : TR) (sd : Nat → Bool) (i : Nat) {w : Nat} (hw : w < 5) : bt (svM r sd i) w = svP r sd w i := by
  show bt (bif svH r sd i then tMark r sd ((svAll r).s i) ||| Int32.ofInt 32 else tMark r sd ((svAll r).s i) ||| Int32.ofInt 8) w = svP r sd w i
  unfold svP tMark tIs
  generalize (tWr r sd ((svAll r).s i) 0 || (tWr r sd ((svAll r).s i) 1 || tWr r sd ((svAll r).s i) 2)) = x
  generalize tEnd r sd ((svAll r).s i) = a
  generalize tEmp ((svAll r).s i) = b
  generalize Nat.beq (ts_all r ((svAll r).s i)).length 0 = c
  generalize svH r sd i = d
  match w, hw with
  | 0, _ => cases x <;> cases a <;> cases b <;> cases c <;> cases d <;> decide
  | 1, _ => cases x <;> cases a <;> cases b <;> cases c <;> cases d <;> decide
  | 2, _ => cases x <;> cases a <;> cases b <;> cases c <;> cases d <;> decide
  | 3, _ => cases x <;> cases a <;> cases b <;> cases c <;> cases d <;> decide
  | 4, _ => cases x <;> cases a <;> cases b <;> cases c <;> cases d <;> decide
/-- all states, as the class holds them at the end -/
def EX8 (h : am_H) (o cap qs qn : Nat) (r : TR) (sd : Nat → Bool) : Prop := Q8 h o cap qs qn r (svAll r) ∧ (∀ i, i < (svAll r).n → am_I h (o + 4) i = svM r sd i) ∧ TL h o (svP r sd) (fun _ => (svAll r).n)
theorem Q8_H {h h' : am_H} {o cap qs qn : Nat} {r : TR} {v : SV} (ho : o = 37 ∨ o = 37) (q : Q8 h o cap qs qn r v) (f : frH o h h') : Q8 h' o cap qs qn r v := by
  obtain ⟨⟨T, V⟩, lk, q1, q4⟩ := q
  exact ⟨⟨T, V8_fr V (by rw [f.2 o (by omega) (by omega)]) (by rw [f.1.2.2.2]) (f.2 _ (by omega) (by omega)) (f.2 _ (by omega) (by omega)) (f.2 _ (by omega) (by omega))⟩, LK_H ho lk f, by rw [f.2 o (by omega) (by omega)]; exact q1, by rw [f.2 o (by omega) (by omega)]; exact q4⟩
theorem Q8_U {h h' : am_H} {o cap qs qn : Nat} {r : TR} {v : SV} (ho : o = 37 ∨ o = 37) (q : Q8 h o cap qs qn r v) (f : frU o h h') : Q8 h' o cap qs qn r v := by
  obtain ⟨⟨T, V⟩, lk, q1, q4⟩ := q
  obtain ⟨g, l12, lmc, lr, lc⟩ := lk
  have g0 := g
  obtain ⟨-, ⟨ne, ls, ln, h98⟩, os, on, -, -⟩ := g0
  obtain ⟨⟨f1, f2, f3, f4⟩, f5⟩ := f
  exact ⟨⟨T, V8_fr V (by rw [f5 o (by omega) (by omega) (by omega)]) (by rw [f4]) (f5 _ (by omega) (by omega) (by omega)) (f5 _ (by omega) (by omega) (by omega)) (f5 _ (by omega) (by omega) (by omega))⟩, ⟨by unfold GR; rw [f1, f2, f3]; exact g, by rw [f5 o (by omega) (by omega) (by omega)]; exact l12, lmc, by rw [f5 qs (by omega) (by omega) (by omega), f5 qn (by omega) (by omega) (by omega)]; exact lr, by rw [f5 (o + 9) (by omega) (by omega) (by omega)]; exact lc⟩, by rw [f5 o (by omega) (by omega) (by omega)]; exact q1, by rw [f5 o (by omega) (by omega) (by omega)]; exact q4⟩
theorem frE_H {o a b : Nat} (ho : o = 37 ∨ o = 37) {h h' : am_H} (f : frH o h h') : frE o a b a b h h' := ⟨⟨Nat.le_of_eq f.1.1.symm, fun p _ => by rw [f.1.2.1]⟩, fun p _ _ _ => by rw [f.1.2.2.2], fun p _ _ => by rw [f.1.2.2.1], fun k _ _ => by rw [f.1.2.2.1], fun p _ c _ _ _ _ => f.2 p (by omega) (by omega), fun k _ => by rw [f.2 28 (by omega) (by omega)], Or.inl rfl, Or.inl rfl⟩
theorem frE_U {o a b : Nat} (ho : o = 37 ∨ o = 37) {h h' : am_H} (f : frU o h h') : frE o a b a b h h' := ⟨⟨Nat.le_of_eq f.1.1.symm, fun p _ => by rw [f.1.2.1]⟩, fun p _ _ _ => by rw [f.1.2.2.2], fun p _ _ => by rw [f.1.2.2.1], fun k _ _ => by rw [f.1.2.2.1], fun p _ c _ _ _ _ => f.2 p (by omega) (by omega) (by omega), fun k _ => by rw [f.2 28 (by omega) (by omega) (by omega)], Or.inl rfl, Or.inl rfl⟩
/-- behind the loop: hope, tally, first -/
theorem ef_8 {h : am_H} {r : TR} (hr : r.ok) (h0 : r.sk s00) {sd : Nat → Bool} {o cap qs qn : Nat} (ho : o = 37 ∨ o = 37) (sp : (svAll r).sp = false) (q : Q8 h o cap qs qn r (svAll r)) (hm : ∀ i, i < (svAll r).n → am_I h (o + 4) i = tMark r sd ((svAll r).s i)) (hT : ∀ w, w < 5 → am_I h (o + 1) w = nI 0 ∧ am_I h (o + 2) w = Int32.ofInt (-1)) (a2 : Int32) (F : Nat) (hF : 400000000 ≤ F) : ∃ h', (am_b2 (f_X6_markForever F o h) fun _ h3 => g_X6_explore F 2 o a2 (Int32.ofInt 0) 0 0 h3) = some (((), h'), 0, 0) ∧ EX8 h' o cap qs qn r sd ∧ frE o qs qn qs qn h h' := by
  have ok : svOk r (svAll r) := svRow_ok hr h0 2000
  have n2 := ok.1.2
  have m2 : (svAll r).m ≤ 180000 := svRow_m r 2000 sp
  have V := q.1.choose_spec
  have lk := q.2.1
  have g := lk.1
  have c360 := g.2.2.2.2.2
  have c1 := fun j => tMark_c r sd ((svAll r).s j)
  have hmk : ∀ j, ((fun i => tMark r sd ((svAll r).s i)) j &&& Int32.ofInt 32 = 0) ∧ ¬ ((fun i => tMark r sd ((svAll r).s i)) j ||| Int32.ofInt 32) &&& Int32.ofInt 32 = 0 := fun j => ⟨(c1 j).1, (c1 j).2.1⟩
  have M0 : MF h o (svAll r).n (fun i => tMark r sd ((svAll r).s i)) (fun _ => false) 0 (fun _ => 0) := ⟨fun j hj => hm j hj, fun p hp => absurd hp (Nat.not_lt_zero _), fun p _ hp => absurd hp (Nat.not_lt_zero _), fun j hj => nomatch hj⟩
  have pm : ((svAll r).m + 2) * (svAll r).n ≤ 180002 * 2000 := Nat.mul_le_mul (by omega) n2
  obtain ⟨h1, X1, w1, qf1, e1, L1, M1, f1, x1⟩ := mf_0 (D := fun i => tIs r sd ((svAll r).s i) 4) ho n2 (fun j _ => (c1 j).2.2) (F - (svAll r).n - 1) (svAll r).n 0 h (fun _ => false) 0 (fun _ => 0) (by omega) V.1 lk M0 (fun j => ⟨fun q => Bool.noConfusion q, fun q => absurd q.1 (Nat.not_lt_zero _)⟩)
  rw [show F - (svAll r).n - 1 + (svAll r).n + 1 = F from by omega] at e1
  obtain ⟨h2, X2, w2, qf2, e2, L2, M2, f2, s2, cl2, so2⟩ := mf_1 (D := fun i => tIs r sd ((svAll r).s i) 4) ho n2 (show (svAll r).m ≤ 360000 by omega) hmk ok.2.2.2.2.2 (svAll r).n 0 h1 X1 w1 qf1 (F - (svAll r).n - 1 - ((svAll r).m + 2) * (svAll r).n - 1) (by omega) (Nat.zero_le _) L1 M1 (fun p hp => absurd hp (Nat.not_lt_zero _)) (fun j hj => hope_0 ((x1 j).mp hj).2)
  rw [show F - (svAll r).n - 1 - ((svAll r).m + 2) * (svAll r).n - 1 + ((svAll r).m + 2) * (svAll r).n + 1 = F - (svAll r).n - 1 from by omega] at e2
  have hX : ∀ i, i < (svAll r).n → X2 i = svH r sd i := by
    intro i hi
    have u := hope_u (fun j hj => (ok.2.2.2.2.2 j hj).2) (fun i hi hD => s2 i ((x1 i).mpr ⟨hi, hD⟩)) cl2 so2 hi
    unfold svH
    cases q : X2 i with
    | true => rw [uD_i (u.mp q)]
    | false => rw [uD_n (fun y => by rw [u.mpr y] at q; cases q)]
  have f12 := frH_t f1 f2
  have q2 := Q8_H ho q f12
  have V2 := q2.1.choose_spec
  have mx : ∀ i, i < (svAll r).n → mkF (fun i => tMark r sd ((svAll r).s i)) X2 i = svM r sd i := by
    intro i hi; unfold svM mkF; rw [hX i hi]
  obtain ⟨h3, e3, mm, tt, f3⟩ := tl_out (P := svP r sd) ho n2 hmk (X := X2) (fun i w hi hw => by rw [mx i hi]; exact svM_b r sd i hw) a2 (F - (svAll r).n - 1) (by omega) (svAll r).n 0 h2 (by omega) V2.1 (fun j hj => by rw [if_neg (Nat.not_lt_zero _)]; exact M2.1 j hj) (fun w hw => by
    rw [f12.2 _ (by omega) (by omega), f12.2 _ (by omega) (by omega)]; exact hT w hw)
  rw [show F - (svAll r).n - 1 + (svAll r).n + 1 = F from by omega] at e3
  refine ⟨h3, ?_, ⟨Q8_U ho q2 f3, fun i hi => by rw [mm i hi, mx i hi], tt⟩, frE_t (frE_H ho f12) (frE_U ho f3)⟩
  have e1' : f_X6_markForever F o h = some ((), h2) := e1.trans e2
  rw [e1', b2s]
  exact e3
theorem N00 {r : TR} (hr : r.ok) (h0 : r.sk s00) : r.N s00 = 0 := by
  have z : ∀ p, p < 6 → r.b s00 p = 0 := fun p hp => (ps_v (hr.1 p hp) (h0.2 p hp)).2.2.mpr rfl
  unfold TR.N enN
  rw [z 0 (by decide), z 1 (by decide), z 2 (by decide), z 3 (by decide), z 4 (by decide), z 5 (by decide)]
  rfl
theorem GR_E {h h' : am_H} {o cap qs qn : Nat} (e1 : h'.1 = h.1) (e2 : am_K h' = am_K h) (e3 : am_A h' = am_A h) (g : GR h o cap qs qn) : GR h' o cap qs qn := by
  unfold GR; rw [e1, e2, e3]; exact g
/-- the class begins to go through all states -/
theorem eb_8 {h : am_H} {r : TR} (hr : r.ok) (h0 : r.sk s00) {o cap qs qn : Nat} (ho : o = 37 ∨ o = 37) (st : am_stat h) (g : GR h o cap qs qn) (F : Nat) (hF : 10000 ≤ F) : ∃ h2 h5 x, f_X6_clear F o h = some ((), h2) ∧ f_X6_meet F o (Int64.ofNat (0 : Fin 2).val) (Int32.ofInt (-1)) (Int32.ofInt (-1)) h2 = some (x, h5) ∧ Q8 h5 o cap qs qn r (svRow r 0) ∧ (∀ w, w < 5 → am_I h5 (o + 1) w = nI 0 ∧ am_I h5 (o + 2) w = Int32.ofInt (-1)) ∧ frE o qs qn qs qn h h5 := by
  have K7 : am_K h (o + 7) = .inr (0, 4096) := by rcases ho with rfl | rfl <;> exact sK st _
  have K1 : am_K h (o + 1) = .inr (0, 5) := by rcases ho with rfl | rfl <;> exact sK st _
  have K2 : am_K h (o + 2) = .inr (0, 5) := by rcases ho with rfl | rfl <;> exact sK st _
  generalize hh1 : am_sI (am_sI (am_sI (am_sI h o 0 (Int32.ofInt 0)) o 12 (Int32.ofInt 0)) o 1 (Int32.ofInt 0)) o 4 (Int32.ofInt 0) = h1
  have s1 : h1.1 = h.1 ∧ am_K h1 = am_K h ∧ am_A h1 = am_A h ∧ am_J h1 = am_J h := by rw [← hh1]; exact ⟨rfl, rfl, rfl, rfl⟩
  have i1 : ∀ q, q ≠ o → am_I h1 q = am_I h q := fun q hq => by rw [← hh1, hp_I' _ _ _ hq, hp_I' _ _ _ hq, hp_I' _ _ _ hq, hp_I' _ _ _ hq]
  have i1o : ∀ k, am_I h1 o k = upd (upd (upd (upd (am_I h o) 0 (Int32.ofInt 0)) 12 (Int32.ofInt 0)) 1 (Int32.ofInt 0)) 4 (Int32.ofInt 0) k := fun k => by rw [← hh1, hp_I, hp_I, hp_I, hp_I]
  have e7 := pf_fillF (q := o + 7) (N := 4096) (x := Int32.ofInt 0) (by decide) (F - 4097) h1 (by rw [s1.2.1]; exact K7)
  rw [show F - 4097 + 4096 + 1 = F from by omega] at e7
  generalize hh2 : am_sR h1 (o + 7) (hp_fl (am_I h1 (o + 7)) 0 4096 (Int32.ofInt 0)) = h2 at e7
  have s2 : h2.1 = h1.1 ∧ am_K h2 = am_K h1 ∧ am_A h2 = am_A h1 ∧ am_J h2 = am_J h1 := by rw [← hh2]; exact ⟨rfl, rfl, rfl, rfl⟩
  have i2 : ∀ q, q ≠ o + 7 → am_I h2 q = am_I h1 q := fun q hq => by rw [← hh2, hp_IR' _ _ hq]
  have i27 : ∀ s, s < 4096 → am_I h2 (o + 7) s = nI 0 := fun s hs => by rw [← hh2, hp_IR]; unfold hp_fl; rw [if_pos ⟨by omega, hs⟩]; rfl
  have e1 := pf_fillF (q := o + 1) (N := 5) (x := Int32.ofInt 0) (by decide) (F - 6) h2 (by rw [s2.2.1, s1.2.1]; exact K1)
  rw [show F - 6 + 5 + 1 = F from by omega] at e1
  generalize hh3 : am_sR h2 (o + 1) (hp_fl (am_I h2 (o + 1)) 0 5 (Int32.ofInt 0)) = h3 at e1
  have s3 : h3.1 = h2.1 ∧ am_K h3 = am_K h2 ∧ am_A h3 = am_A h2 ∧ am_J h3 = am_J h2 := by rw [← hh3]; exact ⟨rfl, rfl, rfl, rfl⟩
  have i3 : ∀ q, q ≠ o + 1 → am_I h3 q = am_I h2 q := fun q hq => by rw [← hh3, hp_IR' _ _ hq]
  have i31 : ∀ s, s < 5 → am_I h3 (o + 1) s = nI 0 := fun s hs => by rw [← hh3, hp_IR]; unfold hp_fl; rw [if_pos ⟨by omega, hs⟩]; rfl
  have e2 := pf_fillF (q := o + 2) (N := 5) (x := Int32.ofInt (-1)) (by decide) (F - 6) h3 (by rw [s3.2.1, s2.2.1, s1.2.1]; exact K2)
  rw [show F - 6 + 5 + 1 = F from by omega] at e2
  generalize hh4 : am_sR h3 (o + 2) (hp_fl (am_I h3 (o + 2)) 0 5 (Int32.ofInt (-1))) = h4 at e2
  have s4 : h4.1 = h3.1 ∧ am_K h4 = am_K h3 ∧ am_A h4 = am_A h3 ∧ am_J h4 = am_J h3 := by rw [← hh4]; exact ⟨rfl, rfl, rfl, rfl⟩
  have i4 : ∀ q, q ≠ o + 2 → am_I h4 q = am_I h3 q := fun q hq => by rw [← hh4, hp_IR' _ _ hq]
  have i42 : ∀ s, s < 5 → am_I h4 (o + 2) s = Int32.ofInt (-1) := fun s hs => by rw [← hh4, hp_IR]; unfold hp_fl; rw [if_pos ⟨by omega, hs⟩]
  have S : h4.1 = h.1 ∧ am_K h4 = am_K h ∧ am_A h4 = am_A h ∧ am_J h4 = am_J h := ⟨by rw [s4.1, s3.1, s2.1, s1.1], by rw [s4.2.1, s3.2.1, s2.2.1, s1.2.1], by rw [s4.2.2.1, s3.2.2.1, s2.2.2.1, s1.2.2.1], by rw [s4.2.2.2, s3.2.2.2, s2.2.2.2, s1.2.2.2]⟩
  have I : ∀ q, q ≠ o → q ≠ o + 1 → q ≠ o + 2 → q ≠ o + 7 → am_I h4 q = am_I h q := fun q a b c d => by rw [i4 q c, i3 q b, i2 q d, i1 q a]
  have Io : ∀ k, am_I h4 o k = am_I h1 o k := fun k => by rw [i4 o (by omega), i3 o (by omega), i2 o (by omega)]
  have g4 : GR h4 o cap qs qn := GR_E S.1 S.2.1 S.2.2.1 g
  have g0 := g
  obtain ⟨-, ⟨ne, ls, ln, h98⟩, os, on, -, -⟩ := g0
  have V0 : V8 h4 o 0 (fun _ => 0) (fun _ => 0) (fun _ => 0) (fun _ => 0) := by
    refine ⟨by rw [Io, i1o, upd_ne (by decide), upd_ne (by decide), upd_ne (by decide), upd_at]; rfl, by decide, fun i hi => absurd hi (Nat.not_lt_zero _), fun s hs => ?_, oa_0 4096 (by decide) _ _ _ (fun _ _ => rfl)⟩
    rw [i4 _ (by omega), i3 _ (by omega)]; exact i27 s hs
  obtain ⟨-, mv, -⟩ := mv_8 V0 (lL (r.N s00)) (Int32.ofInt (-1)) (Int32.ofInt (-1))
  obtain ⟨h5, T5, m5, V5, e9, f5⟩ := mv (fun k hk => absurd hk (Nat.not_lt_zero _)) (by decide)
  have fE4 : frE o qs qn qs qn h h4 := ⟨⟨Nat.le_of_eq S.1.symm, fun p _ => by rw [S.2.1]⟩, fun p _ _ _ => by rw [S.2.2.2], fun p _ _ => by rw [S.2.2.1], fun k _ _ => by rw [S.2.2.1], fun p _ c _ _ _ _ => I p (by omega) (by omega) (by omega) (by omega), fun k _ => by rw [I 28 (by omega) (by omega) (by omega) (by omega)], Or.inl rfl, Or.inl rfl⟩
  refine ⟨h4, h5, nI 0, ?_, ?_, ⟨⟨T5, V8_c V5 (fun i hi => ?_) (fun i hi => ?_) (fun i hi => ?_)⟩, ⟨GR_V g4 f5, ?_, Nat.zero_le _, fun j hj => absurd hj (Nat.not_lt_zero _), fun i hi => ?_⟩, ?_, ?_⟩, fun w hw => ?_, frE_t fE4 (frE_V ho f5)⟩
  · unfold f_X6_clear
    rw [hh1, e7, b2s, e1, b2s, e2, b2s]
  · have := m5 F (by omega)
    rw [N00 hr h0] at this
    exact this
  · have : i = 0 := by have hi : i < 1 := hi; omega
    subst this; rfl
  · have : i = 0 := by have hi : i < 1 := hi; omega
    subst this; rfl
  · have : i = 0 := by have hi : i < 1 := hi; omega
    subst this; rfl
  · rw [f5.2.2.2.2.2 12 (by decide), Io, i1o, upd_ne (by decide), upd_ne (by decide), upd_at]; rfl
  · have : i = 0 := by have hi : i < 1 := hi; omega
    subst this
    rw [e9, upd_at]; rfl
  · rw [f5.2.2.2.2.2 1 (by decide), Io, i1o, upd_ne (by decide), upd_at]; rfl
  · rw [f5.2.2.2.2.2 4 (by decide), Io, i1o, upd_at]; rfl
  · rw [f5.2.2.2.2.1 _ (by omega) (by omega) (by omega) (by omega) (by omega), f5.2.2.2.2.1 _ (by omega) (by omega) (by omega) (by omega) (by omega), i4 _ (by omega)]
    exact ⟨i31 w hw, i42 w hw⟩
/-- all states gone through -/
theorem ex_8 {h : am_H} {r : TR} (hr : r.ok) (h0 : r.sk s00) (hfv : r.fv) {sd : Nat → Bool} {o cap qs qn : Nat} (ho : o = 37 ∨ o = 37) (st : am_stat h) (g : GR h o cap qs qn) (t : T8 h r) (s8 : S8 h sd) (a2 : Int32) (F : Nat) (hF : 500000000 ≤ F) :
    ∃ h' cap' qs' qn' c z, f_X6_explore F o a2 h = some (((), h'), c, z) ∧ frE o qs qn qs' qn' h h' ∧ (cap ≤ cap' ∧ 2048 * c ≤ cap' - cap ∧ z ≤ 4 * (cap' - cap)) ∧ GR h' o cap' qs' qn' ∧
      (((svAll r).sp = false ∧ EX8 h' o cap' qs' qn' r sd ∧ (¬ a2 = 0 → ∀ i, i < (svAll r).n → ¬ tBad r sd ((svAll r).s i))) ∨
       ((svAll r).sp = true ∧ am_I h' o 1 = nI 1) ∨
       (¬ a2 = 0 ∧ (∃ i, i < (svAll r).n ∧ tBad r sd ((svAll r).s i)) ∧ am_I h' o 1 = nI 0 ∧ am_I h' o 4 = nI 1)) := by
  obtain ⟨h2, h5, x, e2, e5, q5, T5, f5⟩ := eb_8 hr h0 ho st g F (by omega)
  obtain ⟨h6, cap6, qs6, qn6, c6, z6, f6, w1, w2, w3, alt⟩ := mt8_l hr h0 hfv (sd := sd) ho a2 2000 0 h5 (F - 186001) cap qs qn (by omega) (by omega) rfl (Nat.zero_le _) q5 (T8_E ho g f5 t) (S8_E ho g f5 s8) (fun i hi => absurd hi (Nat.not_lt_zero _)) (fun _ i hi => absurd hi (Nat.not_lt_zero _))
  rw [show F - 186001 + 93 * 2000 + 1 = F from by omega] at alt
  have key : ∀ X, g_X6_explore F 0 o a2 (nI 0) 0 0 h5 = X → f_X6_explore F o a2 h = X := by
    intro X hX
    unfold f_X6_explore
    rw [e2, b2s, e5, b2s]; exact hX
  rcases alt with ⟨F', hF', sp, e, q, m, nb, r1, r2⟩ | ⟨sp, e, g', i1⟩ | ⟨a0, bad, e, g', i1, i4⟩
  · obtain ⟨h7, e7, x7, f7⟩ := ef_8 hr h0 ho sp q m (fun w hw => by rw [r1, r2]; exact T5 w hw) a2 F' (by omega)
    exact ⟨h7, cap6, qs6, qn6, c6, z6, key _ (by rw [e, e7, cts]; rfl), frE_t f5 (frE_t f6 f7), ⟨w1, w2, w3⟩, x7.1.2.1.1, Or.inl ⟨sp, x7, nb⟩⟩
  · exact ⟨h6, cap6, qs6, qn6, c6, z6, key _ e, frE_t f5 f6, ⟨w1, w2, w3⟩, g', Or.inr (Or.inl ⟨sp, i1⟩)⟩
  · exact ⟨h6, cap6, qs6, qn6, c6, z6, key _ e, frE_t f5 f6, ⟨w1, w2, w3⟩, g', Or.inr (Or.inr ⟨a0, bad, i1, i4⟩)⟩
