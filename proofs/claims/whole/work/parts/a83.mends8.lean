/-! ===== the smallest mend: sought purely; the class tries one act ===== -/
noncomputable def mdL (r : TR) (sd : Nat → Bool) (o i : Nat) : Nat → Option Nat
  | 0 => none
  | k + 1 => bif uD (wellT (r.lt o i (3 - k)) sd) && !Nat.beq (3 - k) (r.al o i) then some (3 - k) else mdL r sd o i k
noncomputable def mdA (r : TR) (sd : Nat → Bool) (o n : Nat) : Nat → Option (Nat × Nat)
  | 0 => none
  | k + 1 => match mdL r sd o (n - k) 4 with
    | some l => some (n - k, l)
    | none => mdA r sd o n k
noncomputable def mdO (r : TR) (sd : Nat → Bool) (na : Nat → Nat) : Nat → Option (Nat × Nat × Nat)
  | 0 => none
  | k + 1 => match mdA r sd (2 - k) (na (2 - k)) (na (2 - k)) with
    | some x => some (2 - k, x.1, x.2)
    | none => mdO r sd na k
def tripI (x : Option (Nat × Nat × Nat)) (w : Nat) : Int32 := match x with
  | none => Int32.ofInt (-1)
  | some y => if w = 0 then nI y.1 else if w = 1 then nI y.2.1 else nI y.2.2
theorem mdL_no {r : TR} {sd : Nat → Bool} {o i : Nat} (h : ∀ l, l < 4 → ¬ wellT (r.lt o i l) sd) : ∀ k, k ≤ 4 → mdL r sd o i k = none
  | 0, _ => rfl
  | k + 1, hk => by
    show (bif uD (wellT (r.lt o i (3 - k)) sd) && !Nat.beq (3 - k) (r.al o i) then some (3 - k) else mdL r sd o i k) = none
    rw [uD_n (h (3 - k) (by omega)), Bool.false_and]
    exact mdL_no h k (by omega)
/-- what stays while mends are tried -/
def frW (a b a' b' : Nat) (h h' : am_H) : Prop := (h.1 ≤ h'.1 ∧ ∀ p, p < h.1 → am_K h' p = am_K h p) ∧ (∀ p, p < h.1 → p ≠ 40 → p ≠ 32 → am_J h' p = am_J h p) ∧ (∀ p, p < h.1 → p ≠ 37 → am_A h' p = am_A h p) ∧ (∀ k, k ≠ 13 → k ≠ 14 → am_A h' 37 k = am_A h 37 k) ∧ (∀ p, p < h.1 → (p < 37 ∨ 46 < p) → p ≠ 28 → p ≠ 31 → p ≠ 30 → p ≠ 49 → p ≠ a → p ≠ b → am_I h' p = am_I h p) ∧ (∀ k, k ≠ 5 → am_I h' 28 k = am_I h 28 k) ∧ (a' = a ∨ h.1 ≤ a') ∧ (b' = b ∨ h.1 ≤ b')
theorem frW_r (a b : Nat) (h : am_H) : frW a b a b h h := ⟨⟨Nat.le_refl _, fun _ _ => rfl⟩, fun _ _ _ _ => rfl, fun _ _ _ => rfl, fun _ _ _ => rfl, fun _ _ _ _ _ _ _ _ _ => rfl, fun _ _ => rfl, Or.inl rfl, Or.inl rfl⟩
theorem frW_t {a b a1 b1 a2 b2 : Nat} {h h1 h2 : am_H} (x : frW a b a1 b1 h h1) (y : frW a1 b1 a2 b2 h1 h2) : frW a b a2 b2 h h2 := by
  obtain ⟨⟨x1, xk⟩, x2, x3, x4, x5, x6, x7, x8⟩ := x
  obtain ⟨⟨y1, yk⟩, y2, y3, y4, y5, y6, y7, y8⟩ := y
  exact ⟨⟨by omega, fun p hp => (yk p (by omega)).trans (xk p hp)⟩, fun p hp c d => (y2 p (by omega) c d).trans (x2 p hp c d), fun p hp c => (y3 p (by omega) c).trans (x3 p hp c), fun k c d => (y4 k c d).trans (x4 k c d), fun p hp c d e f g i j => (y5 p (by omega) c d e f g (by omega) (by omega)).trans (x5 p hp c d e f g i j), fun k c => (y6 k c).trans (x6 k c), by omega, by omega⟩
theorem frW_E {a b a1 b1 : Nat} {h h' : am_H} (f : frE 37 a b a1 b1 h h') : frW a b a1 b1 h h' := ⟨f.1, f.2.1, f.2.2.1, f.2.2.2.1, fun p hp c d e _ _ i j => f.2.2.2.2.1 p hp c d e i j, f.2.2.2.2.2.1, f.2.2.2.2.2.2.1, f.2.2.2.2.2.2.2⟩
theorem frW_s (a b : Nat) (h : am_H) {q : Nat} (hq : q = 30 ∨ q = 49) (j : Nat) (x : Int32) : frW a b a b h (am_sI h q j x) := ⟨⟨Nat.le_refl _, fun _ _ => rfl⟩, fun _ _ _ _ => rfl, fun _ _ _ => rfl, fun _ _ _ => rfl, fun p _ _ _ _ c d _ _ => hp_I' _ _ _ (by omega), fun k _ => by rw [hp_I' _ _ _ (by omega)], Or.inl rfl, Or.inl rfl⟩
theorem upd_upd (f : Nat → Int32) (j : Nat) (x y : Int32) : upd (upd f j x) j y = upd f j y := by
  funext k
  by_cases c : k = j
  · rw [c, upd_at, upd_at]
  · rw [upd_ne c, upd_ne c, upd_ne c]
/-- the rules with another letter, as the class tries them -/
theorem T8_lt {h : am_H} {r : TR} {o i l : Nat} (hi : i < 16) {R : Nat → Int32} (eR : ∃ y, am_I h 30 = upd R (16 * o + i) y) (t : T8 (am_sR h 30 R) r) : T8 (am_sI h 30 (16 * o + i) (nI l)) (r.lt o i l) := by
  obtain ⟨t1, t2, t3, t4⟩ := t
  obtain ⟨y, ey⟩ := eR
  have e : ∀ p, p ≠ 30 → am_I (am_sI h 30 (16 * o + i) (nI l)) p = am_I (am_sR h 30 R) p := fun p hp => by rw [hp_I' _ _ _ hp, hp_IR' _ _ hp]
  refine ⟨by rw [e 28 (by decide)]; exact t1, by rw [e 29 (by decide)]; exact t2, by rw [e 34 (by decide)]; exact t3, fun o' i' ho hi' h1 hv => ?_⟩
  obtain ⟨a, b, c⟩ := t4 o' i' ho hi' h1 hv
  refine ⟨by rw [e 35 (by decide)]; exact a, ?_, by rw [e 36 (by decide)]; exact c⟩
  rw [hp_IR] at b
  rw [hp_I, ey, upd_upd]
  show _ = nI (if o' = o ∧ i' = i then l else r.al o' i')
  by_cases q : o' = o ∧ i' = i
  · rw [if_pos q, q.1, q.2, upd_at]
  · rw [if_neg q, upd_ne (by omega)]; exact b
theorem ex_so {h : am_H} {r : TR} (hr : r.all) {sd : Nat → Bool} {cap qs qn : Nat} (alt : ((svAll r).sp = false ∧ EX8 h 37 cap qs qn r sd ∧ (¬ Int32.ofInt 1 = 0 → ∀ i, i < (svAll r).n → ¬ tBad r sd ((svAll r).s i))) ∨ ((svAll r).sp = true ∧ am_I h 37 1 = nI 1) ∨ (¬ Int32.ofInt 1 = 0 ∧ (∃ i, i < (svAll r).n ∧ tBad r sd ((svAll r).s i)) ∧ am_I h 37 1 = nI 0 ∧ am_I h 37 4 = nI 1)) : f_X6_isSound 37 h = some (bI (uD (wellT r sd)), h) := by
  rcases alt with ⟨sp, x, -⟩ | ⟨sp, e⟩ | ⟨-, ⟨i, hi, b⟩, e1, e4⟩
  · exact so_8 hr x sp
  · have nw : uD (wellT r sd) = false := uD_n (fun q => by have := q.1; rw [sp] at this; cases this)
    unfold f_X6_isSound
    rw [nw, if_neg (show ¬ am_I h 37 1 = 0 by rw [e]; decide)]; rfl
  · have nw : uD (wellT r sd) = false := uD_n (fun q => (q.2 i hi).2 b)
    unfold f_X6_isSound
    rw [nw, if_pos (show am_I h 37 1 = 0 from e1), if_neg (show ¬ am_I h 37 4 = 0 by rw [e4]; decide)]; rfl
/-- the mended row -/
def MD (h : am_H) (x : Option (Nat × Nat × Nat)) : Prop := ∀ w, w < 3 → am_I h 49 w = tripI x w
theorem ma_l {r : TR} (hr : r.all) {sd : Nat → Bool} {o i : Nat} (ho : o < 3) (hi : i < 16) {R : Nat → Int32} (hR : R (16 * o + i) = nI (r.al o i)) (hal : r.al o i < 4) : ∀ (k : Nat), k ≤ 4 → ∀ (h : am_H) (cap qs qn F : Nat), 500000000 ≤ F → (∃ y, am_I h 30 = upd R (16 * o + i) y) → T8 (am_sR h 30 R) r → S8 h sd → GR h 37 cap qs qn → am_stat h → MD h none →
    ∃ h' cap' qs' qn' c z, g_X8_mendsAct (F + k + 1) 0 (nI o) (nI i) (nI (16 * o + i)) (nI (r.al o i)) (bI false) (nI (4 - k)) h = some ((bI (mdL r sd o i k).isSome, h'), c, z) ∧ am_I h' 30 = R ∧ GR h' 37 cap' qs' qn' ∧ am_stat h' ∧ frW qs qn qs' qn' h h' ∧ MD h' (match mdL r sd o i k with | some l => some (o, i, l) | none => none) ∧ cap ≤ cap' ∧ 2048 * c ≤ cap' - cap ∧ z ≤ 4 * (cap' - cap) := by
  have sp48 : 16 * o + i < 48 := by omega
  have v48 : am_vp (nI (16 * o + i)) 48 = true := hp_vp sp48 (by decide)
  have c48 : Int32.toNatClampNeg (nI (16 * o + i)) = 16 * o + i := nI_clamp (by omega)
  have back : ∀ (h : am_H), (∃ y, am_I h 30 = upd R (16 * o + i) y) → am_I (am_sI h 30 (16 * o + i) (nI (r.al o i))) 30 = R := by
    intro h ⟨y, ey⟩
    rw [hp_I, ey, upd_upd, ← hR, hp_upd_id]
  intro k
  induction k with
  | zero =>
    intro _ h cap qs qn F hF eR t s8 g st md
    refine ⟨am_sI h 30 (16 * o + i) (nI (r.al o i)), cap, qs, qn, 0, 0, ?_, back h eR, g, st, frW_s _ _ _ (Or.inl rfl) _ _, fun w hw => by rw [hp_I' _ _ _ (by decide)]; exact md w hw, Nat.le_refl _, Nat.zero_le _, Nat.zero_le _⟩
    rw [show F + 0 + 1 = F + 1 from rfl, g_X8_mendsAct]
    dsimp only [am_let]
    rw [if_pos (show Int32.ofInt 4 ≤ nI (4 - 0) by decide), v48, cond_true, b01_bI, cond_true, c48]
    rfl
  | succ k ih =>
    intro hk h cap qs qn F hF eR t s8 g st md
    have n4 : ¬ Int32.ofInt 4 ≤ nI (4 - (k + 1)) := nI_ge (a := 4 - (k + 1)) (b := 4) (by omega) (by decide)
    have e3 : 4 - (k + 1) = 3 - k := by omega
    have nx : nI (3 - k) + Int32.ofInt 1 = nI (4 - k) := by rw [hp_1, show 3 - k + 1 = 4 - k from by omega]
    by_cases cl : 3 - k = r.al o i
    · obtain ⟨h', cap', qs', qn', c, z, e, rest⟩ := ih (by omega) h cap qs qn F hF eR t s8 g st md
      have em : mdL r sd o i (k + 1) = mdL r sd o i k := by
        show (bif uD (wellT (r.lt o i (3 - k)) sd) && !Nat.beq (3 - k) (r.al o i) then some (3 - k) else mdL r sd o i k) = _
        rw [beq_t cl, Bool.not_true, Bool.and_false]; rfl
      rw [em]
      refine ⟨h', cap', qs', qn', c, z, ?_, rest⟩
      rw [show F + (k + 1) + 1 = (F + k + 1) + 1 from rfl, g_X8_mendsAct]
      dsimp only [am_let]
      rw [if_neg n4, if_pos (show bI false = 0 from rfl), e3, if_pos (by rw [cl]), nx]
      exact e
    · have hr' := lt_all4 hr (o := o) (i := i) (l := 3 - k) (by omega)
      have t1 := T8_lt (l := 3 - k) hi eR t
      have s1 : S8 (am_sI h 30 (16 * o + i) (nI (3 - k))) sd := by
        unfold S8; rw [hp_I' _ _ _ (by decide), hp_I' _ _ _ (by decide)]; exact s8
      obtain ⟨h9, cap9, qs9, qn9, c9, z9, e9, f9, ⟨w1, w2, w3⟩, g9, alt⟩ := ex_8 hr'.1 hr'.2.1 hr'.2.2 (o := 37) (Or.inl rfl) (show am_stat (am_sI h 30 (16 * o + i) (nI (3 - k))) from st) (show GR (am_sI h 30 (16 * o + i) (nI (3 - k))) 37 cap qs qn from g) t1 s1 (Int32.ofInt 1) (F + k + 1) (by omega)
      have st9 := s_X6_explore (F + k + 1) 37 (Int32.ofInt 1) _ (Or.inl rfl) (show am_stat (am_sI h 30 (16 * o + i) (nI (3 - k))) from st) e9
      have so := ex_so hr' alt
      have g0 := g
      obtain ⟨-, ⟨ne, ls, ln, h98⟩, os, on, -, -⟩ := g0
      have iX : ∀ p, p < 37 ∨ p = 49 → p ≠ 28 → p ≠ 31 → am_I h9 p = am_I (am_sI h 30 (16 * o + i) (nI (3 - k))) p := fun p hp a b => f9.2.2.2.2.1 p (by show p < h.1; omega) (by omega) a b (by omega) (by omega)
      obtain ⟨y0, ey0⟩ := eR
      have r9 : am_I h9 30 = upd R (16 * o + i) (nI (3 - k)) := by
        rw [iX 30 (by omega) (by decide) (by decide), hp_I, ey0, upd_upd]
      have t9 : T8 (am_sR h9 30 R) r := by
        obtain ⟨x1, x2, x3, x4⟩ := t
        have e : ∀ p, p = 29 ∨ p = 34 ∨ p = 35 ∨ p = 36 → am_I (am_sR h9 30 R) p = am_I (am_sR h 30 R) p := fun p hp => by rw [hp_IR' _ _ (by omega), hp_IR' _ _ (by omega), iX p (by omega) (by omega) (by omega), hp_I' _ _ _ (by omega)]
        have e28 : am_I (am_sR h9 30 R) 28 0 = am_I (am_sR h 30 R) 28 0 := by
          rw [hp_IR' _ _ (by decide), hp_IR' _ _ (by decide), f9.2.2.2.2.2.1 0 (by decide), hp_I' _ _ _ (by decide)]
        have e30 : am_I (am_sR h9 30 R) 30 = am_I (am_sR h 30 R) 30 := by rw [hp_IR, hp_IR]
        unfold T8
        rw [e28, e 29 (by decide), e 34 (by decide), e 35 (by decide), e 36 (by decide), e30]
        exact ⟨x1, x2, x3, x4⟩
      have s9 : S8 h9 sd := by
        unfold S8; rw [iX 33 (by omega) (by decide) (by decide), iX 36 (by omega) (by decide) (by decide)]; exact s1
      have md9 : MD h9 none := fun w hw => by rw [iX 49 (by omega) (by decide) (by decide), hp_I' _ _ _ (by decide)]; exact md w hw
      have fW : frW qs qn qs9 qn9 h h9 := frW_t (frW_s qs qn h (Or.inl rfl) (16 * o + i) (nI (3 - k))) (frW_E f9)
      have hd : ∀ X, (am_cost c9 z9 (am_b2 ((if bI (uD (wellT (r.lt o i (3 - k)) sd)) = 0 then some (bI false, h9) else some ((Int32.ofInt 1), (am_sI (am_sI (am_sI h9 49 0 (nI o)) 49 1 (nI i)) 49 2 (nI (3 - k)))))) fun y19 h20 => (g_X8_mendsAct (F + k + 1) 0 (nI o) (nI i) (nI (16 * o + i)) (nI (r.al o i)) y19 (nI (4 - k)) h20))) = X → g_X8_mendsAct (F + (k + 1) + 1) 0 (nI o) (nI i) (nI (16 * o + i)) (nI (r.al o i)) (bI false) (nI (4 - (k + 1))) h = X := by
        intro X hX
        rw [show F + (k + 1) + 1 = (F + k + 1) + 1 from rfl, g_X8_mendsAct]
        dsimp only [am_let]
        rw [if_neg n4, if_pos (show bI false = 0 from rfl), e3, if_neg (fun q => cl ((nI_inj (by omega) (by omega)).mp q)), v48, cond_true, c48, e9, bcs, so, b2s, nx]
        exact hX
      cases hw : uD (wellT (r.lt o i (3 - k)) sd) with
      | false =>
        have em : mdL r sd o i (k + 1) = mdL r sd o i k := by
          show (bif uD (wellT (r.lt o i (3 - k)) sd) && !Nat.beq (3 - k) (r.al o i) then some (3 - k) else mdL r sd o i k) = _
          rw [hw, Bool.false_and]; rfl
        rw [em]
        obtain ⟨h', cap', qs', qn', c, z, e, r1, r2, r3, r4, r5, u1, u2, u3⟩ := ih (by omega) h9 cap9 qs9 qn9 F hF ⟨_, r9⟩ t9 s9 g9 st9 md9
        refine ⟨h', cap', qs', qn', c9 + c, z9 + z, hd _ ?_, r1, r2, r3, frW_t fW r4, r5, by omega, by omega, by omega⟩
        rw [hw, if_pos (show bI false = 0 from rfl), b2s, e, cts]
      | true =>
        have em : mdL r sd o i (k + 1) = some (3 - k) := by
          show (bif uD (wellT (r.lt o i (3 - k)) sd) && !Nat.beq (3 - k) (r.al o i) then some (3 - k) else mdL r sd o i k) = _
          rw [hw, beq_f cl]; rfl
        rw [em]
        have h61 : am_I (am_sI (am_sI (am_sI h9 49 0 (nI o)) 49 1 (nI i)) 49 2 (nI (3 - k))) 30 = am_I h9 30 := by rw [hp_I' _ _ _ (by decide), hp_I' _ _ _ (by decide), hp_I' _ _ _ (by decide)]
        refine ⟨am_sI (am_sI (am_sI (am_sI h9 49 0 (nI o)) 49 1 (nI i)) 49 2 (nI (3 - k))) 30 (16 * o + i) (nI (r.al o i)), cap9, qs9, qn9, c9 + 0, z9 + 0, hd _ ?_, back _ ⟨_, by rw [h61]; exact r9⟩, g9, st9, frW_t fW (frW_t (frW_s _ _ _ (Or.inr rfl) _ _) (frW_t (frW_s _ _ _ (Or.inr rfl) _ _) (frW_t (frW_s _ _ _ (Or.inr rfl) _ _) (frW_s _ _ _ (Or.inl rfl) _ _)))), fun w hw => ?_, w1, by omega, by omega⟩
        · rw [hw, if_neg (show ¬ bI true = 0 by decide), b2s, g_X8_mendsAct]
          dsimp only [am_let]
          rw [v48, cond_true, c48]
          have b1 : (bif am_b01 (Int32.ofInt 1) then (some (((Int32.ofInt 1), (am_sI (am_sI (am_sI (am_sI h9 49 0 (nI o)) 49 1 (nI i)) 49 2 (nI (3 - k))) 30 (16 * o + i) (nI (r.al o i)))), 0, 0)) else none) = some ((bI true, (am_sI (am_sI (am_sI (am_sI h9 49 0 (nI o)) 49 1 (nI i)) 49 2 (nI (3 - k))) 30 (16 * o + i) (nI (r.al o i)))), 0, 0) := rfl
          rw [b1]
          by_cases q : Int32.ofInt 4 ≤ nI (4 - k)
          · rw [if_pos q, cts]; rfl
          · rw [if_neg q, if_neg (show ¬ Int32.ofInt 1 = 0 by decide), cts]; rfl
        · rw [hp_I' _ _ _ (by decide), hp_I, hp_I, hp_I]
          have c : w = 0 ∨ w = 1 ∨ w = 2 := by omega
          rcases c with rfl | rfl | rfl
          · rw [upd_ne (by decide), upd_ne (by decide), upd_at]; rfl
          · rw [upd_ne (by decide), upd_at]; rfl
          · rw [upd_at]; rfl
