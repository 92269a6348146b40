/-! ===== the reference lays which states can still come to an end: whole; what is met ===== -/
theorem f0_9 {r : TR} {sd : Nat → Bool} (hr : r.ok) (h0 : r.sk s00) (hfv : r.fv) (x1 : Int64) (F : Nat) (hF : 300 ≤ F) : ∀ (d k : Nat) (h : am_H), k + d = (svAll r).n → R9 h r sd → (∀ i, i < k → am_I h 83 i = bI (tIs r sd ((svAll r).s i) 4)) →
    ∃ h', g_X9_layFine (F + d + 1) 0 x1 (nI k) 0 h = g_X9_layFine F 1 x1 (bI true) 0 h' ∧ R9 h' r sd ∧ frB h h' ∧ X9 h' (svAll r).n (fun i => tIs r sd ((svAll r).s i) 4) := by
  have ok : svOk r (svAll r) := svRow_ok hr h0 2000
  have n2 := ok.1.2
  intro d
  induction d with
  | zero =>
    intro k h hk q hX
    have hk' : k = (svAll r).n := by omega
    refine ⟨h, ?_, q, frB_r h, fun i hi => hX i (by omega)⟩
    rw [show F + 0 + 1 = F + 1 from rfl, g_X9_layFine, q00, cond_true, q.2.2.2.1.1.choose_spec.1, hk', if_pos (Int32.le_refl _), show bI true = Int32.ofInt 1 from rfl]
  | succ d ih =>
    intro k h hk q hX
    have kn : k < (svAll r).n := by omega
    obtain ⟨h1, h2, eJ, e1, e2, q2, f2, x2⟩ := so_9 hr h0 hfv q kn (w := 4) (by decide) (by decide) (F + d + 1) (by omega)
    obtain ⟨h', e, r1, r2, r3⟩ := ih (k + 1) (am_sI h2 83 k (bI (tIs r sd ((svAll r).s k) 4))) (by omega) (R9_94 q2 k _) (fun i hi => by
      rw [hp_I]
      by_cases c : i = k
      · rw [c, upd_at]
      · rw [upd_ne c, x2]; exact hX i (by omega))
    refine ⟨h', ?_, r1, frB_t f2 (frB_t (frB_94 h2 k _) r2), r3⟩
    rw [show F + (d + 1) + 1 = (F + d + 1) + 1 from rfl, g_X9_layFine, q00, cond_true, q.2.2.2.1.1.choose_spec.1, if_neg (nI_ge kn (by omega)), hp_vp (show k < 2001 by omega) (by decide), cond_true, nI_clamp (show k < 2 ^ 31 by omega), eJ, e1, b2s, show Int32.ofInt 4 = nI 4 from rfl, e2, b2s, nar_bI, hp_1]
    exact e
/-- what the reference knows of all states, once they are met -/
def C9m (h : am_H) (r : TR) (sd : Nat → Bool) : Prop := am_I h 51 52 = nI 1 ∧ (((svAll r).sp = true ∧ am_I h 51 51 = nI 1) ∨ ((svAll r).sp = false ∧ Q9 h (svAll r) ∧ (∀ j, j ≤ (svAll r).n → am_I h 85 j = nI (svRow r j).m) ∧ (am_I h 51 53 = nI 0 ∨ (am_I h 51 53 = nI 1 ∧ X9 h (svAll r).n (svH r sd)))))
def C9 (h : am_H) (r : TR) (sd : Nat → Bool) : Prop := am_I h 51 52 = nI 0 ∨ C9m h r sd
/-- the talk as the reference holds it -/
def U9 (h : am_H) (r : TR) (sd : Nat → Bool) (s : TS) : Prop := T9 h r s ∧ Z9 h ∧ sd9 h sd ∧ r.sk s
/-- rules that both keep -/
def TR.all (r : TR) : Prop := r.ok ∧ r.sk s00 ∧ r.fv
theorem sd9_A {h h' : am_H} {sd : Nat → Bool} (d : sd9 h sd) (f : frA9 h h') : sd9 h' sd := fun o ho => by rw [f.2.2.1 58 (by decide) (by decide)]; exact d o ho
theorem ma_all {h : am_H} {r : TR} (hr : r.all) {sd : Nat → Bool} {s : TS} (u : U9 h r sd s) (c : C9 h r sd) (F : Nat) (hF : 220000 ≤ F) : ∃ h', f_X9_meetAll F h = some ((), h') ∧ U9 h' r sd s ∧ C9m h' r sd ∧ frA9 h h' := by
  obtain ⟨t, z, d, sk⟩ := u
  rcases c with c | c
  · obtain ⟨h', e, f, t', e52, e53, m⟩ := ma_9 hr.1 hr.2.1 sk t c F hF
    refine ⟨h', e, ⟨t', f.2.2.2.2 z, sd9_A d f, sk⟩, ⟨e52, ?_⟩, f⟩
    rcases m with ⟨sp, q, e96⟩ | ⟨sp, e51⟩
    · exact Or.inr ⟨sp, q, e96, Or.inl e53⟩
    · exact Or.inl ⟨sp, e51⟩
  · refine ⟨h, ?_, ⟨t, z, d, sk⟩, c, frA9_r h⟩
    unfold f_X9_meetAll
    rw [if_neg (show ¬ am_I h 51 52 = 0 by rw [c.1]; decide)]
theorem fl_9 {h : am_H} {r : TR} (hr : r.all) {sd : Nat → Bool} {s : TS} (u : U9 h r sd s) (c : C9m h r sd) (sp : (svAll r).sp = false) (F : Nat) (hF : 5000000 ≤ F) : ∃ h', f_X9_layFine F h = some ((), h') ∧ U9 h' r sd s ∧ R9 h' r sd ∧ am_I h' 51 51 = nI 0 ∧ am_I h' 51 52 = nI 1 ∧ am_I h' 51 53 = nI 1 ∧ X9 h' (svAll r).n (svH r sd) ∧ frA9 h h' := by
  obtain ⟨t, z, d, sk⟩ := u
  obtain ⟨e52, c⟩ := c
  rcases c with ⟨sp', -⟩ | ⟨-, q, e96, c⟩
  · rw [sp] at sp'; cases sp'
  have ok : svOk r (svAll r) := svRow_ok hr.1 hr.2.1 2000
  have n2 := ok.1.2
  rcases c with e53 | ⟨e53, x9⟩
  · have i62 : ∀ k, k ≠ 53 → am_I (am_sI h 51 53 (Int32.ofInt 1)) 51 k = am_I h 51 k := fun k hk => by rw [hp_I, upd_ne hk]
    have i0 : ∀ q, q ≠ 51 → am_I (am_sI h 51 53 (Int32.ofInt 1)) q = am_I h q := fun q hq => hp_I' _ _ _ hq
    have t1 : T9 (am_sI h 51 53 (Int32.ofInt 1)) r s := T9_c t (fun k hk => i62 k (by omega)) (fun q hq => i0 q (by omega))
    have q1 : R9 (am_sI h 51 53 (Int32.ofInt 1)) r sd := ⟨by unfold Z9; rw [i0 78 (by decide)]; exact z, fun o ho => by rw [i0 58 (by decide)]; exact d o ho, ⟨s, t1⟩, Q9_c q rfl (fun k hk => i62 k (by omega)) (fun q hq => i0 q (by omega)), by rw [i0 85 (by decide)]; exact e96⟩
    have a1 := as_st (F - 20) (T9_W t1) (sk_w sk)
    rw [show F - 20 + 20 = F from by omega] at a1
    obtain ⟨h2, e2, q2, f2, x2⟩ := f0_9 hr.1 hr.2.1 hr.2.2 (lL (wN s)) (F - (svAll r).n - 1) (by omega) (svAll r).n 0 _ (by omega) q1 (fun i hi => absurd hi (Nat.not_lt_zero _))
    rw [show F - (svAll r).n - 1 + (svAll r).n + 1 = F from by omega] at e2
    have cn : cN (notB (fun i => tIs r sd ((svAll r).s i) 4)) (svAll r).n ≤ 2000 := Nat.le_trans (cN_le _ _) n2
    obtain ⟨h3, X, e3, q3, t3, x3, f3, s3, so3, cl3⟩ := pa_9 hr.1 hr.2.1 sp (fun i => tIs r sd ((svAll r).s i) 4) sk 2000 (F - (svAll r).n - 1 - 2003 * (2000 + 1) - 1) h2 (fun i => tIs r sd ((svAll r).s i) 4) true (by omega) cn q2 x2 (fun i hi => hope_0 hi) (fun a => Bool.noConfusion a)
    rw [show F - (svAll r).n - 1 - 2003 * (2000 + 1) - 1 + 2003 * (2000 + 1) + 1 = F - (svAll r).n - 1 from by omega] at e3
    have fB := frB_t f2 f3
    have f1 : frA9 h (am_sI h 51 53 (Int32.ofInt 1)) := ⟨⟨rfl, rfl, rfl⟩, fun _ _ => rfl, fun q a _ => i0 q a, fun k _ _ _ _ a _ => i62 k a, fun z => by unfold Z9; rw [i0 78 (by decide)]; exact z⟩
    refine ⟨h3, ?_, ⟨t3, q3.1, q3.2.1, sk⟩, q3, q3.2.2.2.1.2.1, ?_, ?_, fun i hi => ?_, frA9_t f1 fB.1⟩
    · unfold f_X9_layFine
      rw [if_pos (show am_I h 51 53 = 0 from e53), a1, b2s]
      exact e2.trans e3
    · rw [fB.2.1, i62 52 (by decide)]; exact e52
    · rw [fB.2.2, hp_I, upd_at]; rfl
    · rw [x3 i hi]
      have w := hope_u (fun j hj => (ok.2.2.2.2.2 j hj).2) (fun i hi hD => s3 i hD) cl3 so3 hi
      have ex : X i = svH r sd i := by
        unfold svH
        cases q : X i with
        | true => rw [uD_i (w.mp q)]
        | false => rw [uD_n (fun y => by rw [w.mpr y] at q; cases q)]
      rw [ex]
  · refine ⟨h, ?_, ⟨t, z, d, sk⟩, ⟨z, d, ⟨s, t⟩, q, e96⟩, q.2.1, e52, e53, x9, frA9_r h⟩
    unfold f_X9_layFine
    rw [if_neg (show ¬ am_I h 51 53 = 0 by rw [e53]; decide)]
theorem C9m_of {h : am_H} {r : TR} {sd : Nat → Bool} (q : R9 h r sd) (sp : (svAll r).sp = false) (e52 : am_I h 51 52 = nI 1) (e53 : am_I h 51 53 = nI 1) (x : X9 h (svAll r).n (svH r sd)) : C9m h r sd := ⟨e52, Or.inr ⟨sp, q.2.2.2.1, q.2.2.2.2, Or.inr ⟨e53, x⟩⟩⟩
theorem C9m_51 {h : am_H} {r : TR} {sd : Nat → Bool} (c : C9m h r sd) : am_I h 51 51 = bI (svAll r).sp := by
  rcases c.2 with ⟨sp, e⟩ | ⟨sp, q, -⟩
  · rw [sp]; exact e
  · rw [sp]; exact q.2.1
/-- met() -/
theorem me_9 {h : am_H} {r : TR} (hr : r.all) {sd : Nat → Bool} {s : TS} (u : U9 h r sd s) (c : C9 h r sd) (F : Nat) (hF : 220000 ≤ F) : ∃ h', f_X9_met F h = some (bif (svAll r).sp then Int32.ofInt (-2) else nI (svAll r).n, h') ∧ U9 h' r sd s ∧ C9m h' r sd ∧ frA9 h h' := by
  obtain ⟨h', e, u', c', f'⟩ := ma_all hr u c F hF
  refine ⟨h', ?_, u', c', f'⟩
  unfold f_X9_met
  rw [e, b2s, C9m_51 c']
  rcases c'.2 with ⟨sp, -⟩ | ⟨sp, q, -⟩
  · rw [sp, if_neg (show ¬ bI true = 0 by decide)]; rfl
  · rw [sp, if_pos (show bI false = 0 from rfl), q.1.choose_spec.1]; rfl
