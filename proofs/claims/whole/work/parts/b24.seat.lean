/-! ===== seat ===== -/
theorem lt100 {c : Nat} (h : c < 2 ^ 31) : nI c < Int32.ofInt 100 ↔ c < 100 := nI_ltI (a := c) (b := 100) h (by decide)
def nmB (cd : Nat → Nat) (o : Nat) : Nat → Nat → Bool
  | 0, _ => false
  | k + 1, i => decide (cd i / 10 % 10 = o) || nmB cd o k (i + 1)
theorem nmB_f {cd : Nat → Nat} {o : Nat} : ∀ k i, nmB cd o k i = false → ∀ j, i ≤ j → j < i + k → cd j / 10 % 10 ≠ o := by
  intro k
  induction k with
  | zero => intro i _ j a b; omega
  | succ k ih =>
    intro i h j a b
    have h : (decide (cd i / 10 % 10 = o) || nmB cd o k (i + 1)) = false := h
    rw [Bool.or_eq_false_iff] at h
    by_cases c : j = i
    · subst c; exact of_decide_eq_false h.1
    · exact ih (i + 1) h.2 j (by omega) (by omega)
theorem c10_d : ∀ c, c < 200 → ((nI c / Int32.ofInt 10) - (nI c / Int32.ofInt 10) / Int32.ofInt 10 * Int32.ofInt 10) = nI (c / 10 % 10) ∧ ((nI c - nI c / Int32.ofInt 100 * Int32.ofInt 100) / Int32.ofInt 10) = nI (c / 10 % 10) ∧ (nI c - nI c / Int32.ofInt 10 * Int32.ofInt 10) = nI (c % 10) := by decide +kernel
theorem nm_8 {h : am_H} {a n qc lc o : Nat} {cd : Nat → Nat} (k1 : am_K h a = .inl 0) (k2 : am_I h a 0 = nI n) (n15 : n ≤ 15) (k3 : am_A h a 1 = some qc) (l1 : n < lc) (l2 : lc ≤ 100) (l3 : am_K h qc = .inr (0, lc)) (r : ∀ i, 1 ≤ i → i ≤ n → am_I h qc i = nI (cd i) ∧ cd i < 200) (o3 : o < 3) (F : Nat) : ∀ (d i : Nat), 1 ≤ i → i + d = n + 1 → g_X0_names (F + d + 1) 0 a (nI o) (nI i) h = some (bI (nmB cd o d i), h) := by
  intro d
  induction d with
  | zero =>
    intro i i1 hi
    have : i = n + 1 := by omega
    subst this
    rw [g_X0_names, hp_isO k1, cond_true, k2, if_pos ((nI_ltI (a := n) (b := n + 1) (by omega) (by omega)).mpr (by omega))]
    rfl
  | succ d ih =>
    intro i i1 hi
    obtain ⟨ri, c2⟩ := r i i1 (by omega)
    rw [show F + (d + 1) + 1 = (F + d + 1) + 1 from rfl, g_X0_names, hp_isO k1, cond_true, k2, if_neg (fun e => by have := (nI_ltI (a := n) (b := i) (by omega) (by omega)).mp e; omega), k3, b_some, hp_ln l3, b_some, hp_vp (show i < lc by omega) (by omega), cond_true, nI_clamp (show i < 2 ^ 31 by omega), ri, (c10_d _ c2).1]
    show _ = some (bI (decide (cd i / 10 % 10 = o) || nmB cd o d (i + 1)), h)
    by_cases c : cd i / 10 % 10 = o
    · rw [if_pos (by rw [c]), decide_eq_true c]; rfl
    · rw [if_neg (fun q => c ((nI_inj (by omega) (by omega)).mp q)), decide_eq_false c, hp_1, ih (i + 1) (by omega) (by omega)]; rfl
theorem se_9 {h : am_H} {b n o : Nat} {cd : Nat → Nat} (b8 : b < 8) (o3 : o < 3) (n15 : n ≤ 15) (e66 : am_I h 55 b = nI n) (r : ∀ i, 1 ≤ i → i ≤ n → am_I h 53 (16 * b + i) = nI (cd i) ∧ cd i < 200) (F : Nat) : ∀ (d i : Nat), 1 ≤ i → i + d = n + 1 → g_X9_seat (F + d + 1) 0 (nI o) (nI b) (nI i) h = (bif nmB cd o d i then some (Int32.ofInt (-103), h) else (am_b2 (f_X9_beginAnew F (am_sI (am_sI h 58 o (nI b)) 51 52 (Int32.ofInt 0))) fun r5 h6 => (some ((am_I h 58 o), h6)))) := by
  intro d
  induction d with
  | zero =>
    intro i i1 hi
    have : i = n + 1 := by omega
    subst this
    rw [g_X9_seat]
    show (if nI b = Int32.ofInt (-1) then _ else _) = _
    rw [if_neg (nI_m1ne (by omega)), hp_vp b8 (by decide), cond_true, nI_clamp (show b < 2 ^ 31 by omega), e66, if_pos ((nI_ltI (a := n) (b := n + 1) (by omega) (by omega)).mpr (by omega)), hp_vp o3 (by decide), cond_true, nI_clamp (show o < 2 ^ 31 by omega)]
    rfl
  | succ d ih =>
    intro i i1 hi
    obtain ⟨ri, c2⟩ := r i i1 (by omega)
    rw [show F + (d + 1) + 1 = (F + d + 1) + 1 from rfl, g_X9_seat]
    show (if nI b = Int32.ofInt (-1) then _ else _) = _
    rw [if_neg (nI_m1ne (by omega)), hp_vp b8 (by decide), cond_true, nI_clamp (show b < 2 ^ 31 by omega), e66, if_neg (fun e => by have := (nI_ltI (a := n) (b := i) (by omega) (by omega)).mp e; omega), g9_ix, hp_vp (show 16 * b + i < 128 by omega) (by decide), cond_true, nI_clamp (show 16 * b + i < 2 ^ 31 by omega), ri, (c10_d _ c2).2.1]
    show _ = (bif decide (cd i / 10 % 10 = o) || nmB cd o d (i + 1) then _ else _)
    by_cases c : cd i / 10 % 10 = o
    · rw [if_pos (by rw [c]), decide_eq_true c]; rfl
    · rw [if_neg (fun q => c ((nI_inj (by omega) (by omega)).mp q)), decide_eq_false c, hp_1, Bool.false_or]
      exact ih (i + 1) (by omega) (by omega)
theorem se_9n {h : am_H} {o : Nat} (o3 : o < 3) (F : Nat) {a2 : Int32} (ha : a2 = Int32.ofInt (-1)) : g_X9_seat (F + 1) 0 (nI o) a2 (Int32.ofInt 1) h = (am_b2 (f_X9_beginAnew F (am_sI (am_sI h 58 o a2) 51 52 (Int32.ofInt 0))) fun r5 h6 => (some ((am_I h 58 o), h6))) := by
  rw [g_X9_seat]
  show (if a2 = Int32.ofInt (-1) then _ else _) = _
  rw [if_pos ha, hp_vp o3 (by decide), cond_true, nI_clamp (show o < 2 ^ 31 by omega)]
/-- rows of the talk that a seat changes -/
def frG (o : Nat) (h h' : am_H) : Prop := (h'.1 = h.1 ∧ am_K h' = am_K h ∧ am_A h' = am_A h) ∧ am_J h' = am_J h ∧ (∀ p, p ≠ 30 → p ≠ 33 → p ≠ 34 → p ≠ 35 → p ≠ 36 → am_I h' p = am_I h p) ∧ (∀ q, q ≠ o → am_I h' 33 q = am_I h 33 q ∧ am_I h' 36 q = am_I h 36 q) ∧ ∀ k, ¬ (16 * o ≤ k ∧ k < 16 * o + 16) → am_I h' 30 k = am_I h 30 k ∧ am_I h' 34 k = am_I h 34 k ∧ am_I h' 35 k = am_I h 35 k
theorem x16o (o i : Nat) : ((Int32.ofInt 16) * nI o) + nI i = nI (16 * o + i) := g9_ix o i
theorem x16 (o : Nat) : (Int32.ofInt 16) * nI o = nI (16 * o) := by rw [show Int32.ofInt 16 = nI 16 from rfl, nI_mul]
theorem gvN_z {o : Nat} (o3 : o < 3) (F : Nat) : ∀ (d i : Nat) (h : am_H), i + d = 16 → g_X7_giveN (F + d + 1) 0 (nI o) (nI (16 * o)) (nI i) h = some ((), am_sI (am_sI (am_sR h 34 (hp_fl (am_I h 34) (16 * o + i) (16 * o + 16) (Int32.ofInt 0))) 33 o (Int32.ofInt 0)) 36 o (Int32.ofInt 0)) := by
  intro d
  induction d with
  | zero =>
    intro i h hi
    have : i = 16 := by omega
    subst this
    rw [g_X7_giveN, if_pos (by decide), hp_vp o3 (by decide), cond_true, nI_clamp (show o < 2 ^ 31 by omega), fl_nil, hp_sR_id]
    rfl
  | succ d ih =>
    intro i h hi
    rw [show F + (d + 1) + 1 = (F + d + 1) + 1 from rfl, g_X7_giveN, if_neg (show ¬ Int32.ofInt 16 ≤ nI i from nI_ge (a := i) (b := 16) (by omega) (by decide)), nI_add, hp_vp (show 16 * o + i < 48 by omega) (by decide), cond_true, nI_clamp (show 16 * o + i < 2 ^ 31 by omega), hp_1, ih (i + 1) _ (by omega), hp_I, hp_sR_sI, show 16 * o + (i + 1) = 16 * o + i + 1 from by omega, fl_step _ _ (by omega)]
theorem gv_z {o a : Nat} (o3 : o < 3) (F : Nat) : ∀ (d i : Nat) (h : am_H), i + d = 16 → g_X7_give (F + d + 1) 0 (nI o) a (nI (16 * o)) (nI i) h = g_X7_give (F + 1) 0 (nI o) a (nI (16 * o)) (nI 16) (am_sR h 34 (hp_fl (am_I h 34) (16 * o + i) (16 * o + 16) (Int32.ofInt 0))) := by
  intro d
  induction d with
  | zero =>
    intro i h hi
    have : i = 16 := by omega
    subst this
    rw [fl_nil, hp_sR_id]
  | succ d ih =>
    intro i h hi
    rw [show F + (d + 1) + 1 = (F + d + 1) + 1 from rfl, g_X7_give, q00, cond_true, if_neg (show ¬ Int32.ofInt 16 ≤ nI i from nI_ge (a := i) (b := 16) (by omega) (by decide)), nI_add, hp_vp (show 16 * o + i < 48 by omega) (by decide), cond_true, nI_clamp (show 16 * o + i < 2 ^ 31 by omega), hp_1, ih (i + 1) _ (by omega), hp_I, hp_sR_sI, show 16 * o + (i + 1) = 16 * o + i + 1 from by omega, fl_step _ _ (by omega)]
/-- the post of an act -/
def ppC (o c : Nat) : Nat := if c / 100 = 1 then pn (c / 10 % 10) o else pn o (c / 10 % 10)
/-- acts up to i have been given -/
def GV (o : Nat) (cd : Nat → Nat) (h H : am_H) (i : Nat) : Prop := (H.1 = h.1 ∧ am_K H = am_K h ∧ am_A H = am_A h) ∧ am_J H = am_J h ∧ (∀ p, p ≠ 30 → p ≠ 35 → p ≠ 36 → am_I H p = am_I h p) ∧ (∀ q, q ≠ o → am_I H 36 q = am_I h 36 q) ∧ (∀ k, ¬ (16 * o ≤ k ∧ k < 16 * o + 16) → am_I H 30 k = am_I h 30 k ∧ am_I H 35 k = am_I h 35 k) ∧ (∀ j, 1 ≤ j → j < i → am_I H 30 (16 * o + j) = nI (cd j % 10) ∧ am_I H 35 (16 * o + j) = nI (ppC o (cd j))) ∧ ∀ q, bt (am_I H 36 o) q = decide (1 ≤ q ∧ q < i ∧ 100 ≤ cd q)
theorem gv_l {h : am_H} {o a n qc lc : Nat} {cd : Nat → Nat} (o3 : o < 3) (a98 : 87 ≤ a) (q98 : 87 ≤ qc) (k1 : am_K h a = .inl 0) (k2 : am_I h a 0 = nI n) (n15 : n ≤ 15) (k3 : am_A h a 1 = some qc) (l1 : n < lc) (l2 : lc ≤ 100) (l3 : am_K h qc = .inr (0, lc)) (r : ∀ i, 1 ≤ i → i ≤ n → am_I h qc i = nI (cd i) ∧ cdG (cd i) ∧ cd i / 10 % 10 ≠ o) (F : Nat) : ∀ (d i : Nat) (H : am_H), 1 ≤ i → i + d = n + 1 → GV o cd h H i → ∃ H', g_X7_give (F + d + 1) 1 (nI o) a (nI (16 * o)) (nI i) H = some ((), H') ∧ GV o cd h H' (n + 1) := by
  intro d
  induction d with
  | zero =>
    intro i H i1 hi g
    have : i = n + 1 := by omega
    subst this
    refine ⟨H, ?_, g⟩
    have kH : am_K H a = .inl 0 := by rw [g.1.2.1]; exact k1
    rw [g_X7_give, q10, cond_false, hp_isO kH, cond_true, g.2.2.1 a (by omega) (by omega) (by omega), k2, if_pos ((nI_ltI (a := n) (b := n + 1) (by omega) (by omega)).mpr (by omega))]
  | succ d ih =>
    intro i H i1 hi g
    have g0 := g
    obtain ⟨⟨s1, s2, s3⟩, sJ, gI, g36, gO, gR, gB⟩ := g
    obtain ⟨ri, rg, rn⟩ := r i i1 (by omega)
    have c2 := cdG_200 rg
    obtain ⟨d1, d2, d3⟩ := c10_d _ c2
    have kH : am_K H a = .inl 0 := by rw [s2]; exact k1
    have kq : am_K H qc = .inr (0, lc) := by rw [s2]; exact l3
    have iq : am_I H qc i = nI (cd i) := by rw [gI qc (by omega) (by omega) (by omega)]; exact ri
    have A1 : am_A H a 1 = some qc := by rw [s3]; exact k3
    have i16 : i < 16 := by omega
    generalize hH1 : am_sI H 30 (16 * o + i) (nI (cd i % 10)) = H1
    have post : am_b2 (if nI (cd i) < Int32.ofInt 100 then am_b2 (f_X8_postOf (nI o) (nI (cd i / 10 % 10)) H1) fun r13 h14 => (some (r13, h14)) else am_b2 (f_X8_postOf (nI (cd i / 10 % 10)) (nI o) H1) fun r16 h17 => (some (r16, h17))) = fun (K : Int32 → am_H → Option (Unit × am_H)) => K (nI (ppC o (cd i))) H1 := by
      funext K
      unfold ppC
      by_cases c : cd i < 100
      · rw [if_pos ((lt100 (c := cd i) (by omega)).mpr c), pn_8 o3 rg.2.1 (Ne.symm rn), b2s, b2s, if_neg (by omega)]
      · rw [if_neg (fun q => c ((lt100 (c := cd i) (by omega)).mp q)), pn_8 rg.2.1 o3 rn, b2s, b2s, if_pos (by have := rg.1; omega)]
    generalize hy : (if nI (cd i) < Int32.ofInt 100 then Int32.ofInt 0 else (Int32.ofInt 1) <<< (nI i &&& 31)) = y
    have yy : (if nI (cd i) < Int32.ofInt 100 then some (Int32.ofInt 0) else some ((Int32.ofInt 1) <<< (nI i &&& 31))) = some y := by
      rw [← hy]; split <;> rfl
    have yb : ∀ q, bt y q = decide (q = i ∧ 100 ≤ cd i) := by
      intro q
      rw [← hy]
      by_cases c : cd i < 100
      · rw [if_pos ((lt100 (c := cd i) (by omega)).mpr c), bt_0, decide_eq_false (by omega)]
      · rw [if_neg (fun q => c ((lt100 (c := cd i) (by omega)).mp q))]
        by_cases q32 : q < 32
        · rw [bt_one i i16 q q32]
          by_cases e : q = i
          · rw [decide_eq_true e, decide_eq_true ⟨e, by omega⟩]
          · rw [decide_eq_false e, decide_eq_false (fun z => e z.1)]
        · rw [bt_hi _ (by omega), decide_eq_false (by omega)]
    generalize hH3 : am_sI (am_sI H1 35 (16 * o + i) (nI (ppC o (cd i)))) 36 o ((am_I (am_sI H1 35 (16 * o + i) (nI (ppC o (cd i)))) 36 o) ||| y) = H3
    have j30 : am_I H3 30 = upd (am_I H 30) (16 * o + i) (nI (cd i % 10)) := by rw [← hH3, hp_I' _ _ _ (by decide), hp_I' _ _ _ (by decide), ← hH1, hp_I]
    have j35 : am_I H3 35 = upd (am_I H 35) (16 * o + i) (nI (ppC o (cd i))) := by rw [← hH3, hp_I' _ _ _ (by decide), hp_I, ← hH1, hp_I' _ _ _ (by decide)]
    have j36 : am_I H3 36 = upd (am_I H 36) o (am_I H 36 o ||| y) := by rw [← hH3, hp_I, hp_I' _ _ _ (by decide), ← hH1, hp_I' _ _ _ (by decide)]
    have gg : GV o cd h H3 (i + 1) := by
      refine ⟨⟨by rw [← hH3, ← hH1]; exact s1, by rw [← hH3, ← hH1]; exact s2, by rw [← hH3, ← hH1]; exact s3⟩, by rw [← hH3, ← hH1]; exact sJ, fun p a1 a2 a3 => ?_, fun q hq => by rw [j36, upd_ne hq]; exact g36 q hq, fun k hk => ?_, fun j j1 j2 => ?_, fun q => ?_⟩
      · rw [← hH3, hp_I' _ _ _ a3, hp_I' _ _ _ a2, ← hH1, hp_I' _ _ _ a1]; exact gI p a1 a2 a3
      · rw [j30, j35, upd_ne (by omega), upd_ne (by omega)]; exact gO k hk
      · rw [j30, j35]
        by_cases e : j = i
        · subst e; rw [upd_at, upd_at]; exact ⟨rfl, rfl⟩
        · rw [upd_ne (by omega), upd_ne (by omega)]; exact gR j j1 (by omega)
      · rw [j36, upd_at, bt_or, gB, yb, Bool.eq_iff_iff, Bool.or_eq_true, decide_eq_true_eq, decide_eq_true_eq, decide_eq_true_eq]
        constructor
        · rintro (⟨x1, x2, x3⟩ | ⟨x1, x2⟩)
          · exact ⟨x1, by omega, x3⟩
          · subst x1; exact ⟨i1, by omega, x2⟩
        · rintro ⟨x1, x2, x3⟩
          by_cases e : q = i
          · subst e; exact Or.inr ⟨rfl, x3⟩
          · exact Or.inl ⟨x1, by omega, x3⟩
    obtain ⟨H', e', g'⟩ := ih (i + 1) H3 (by omega) (by omega) gg
    refine ⟨H', ?_, g'⟩
    rw [show F + (d + 1) + 1 = (F + d + 1) + 1 from rfl, g_X7_give, q10, cond_false, hp_isO kH, cond_true, gI a (by omega) (by omega) (by omega), k2, if_neg (fun e => by have := (nI_ltI (a := n) (b := i) (by omega) (by omega)).mp e; omega), A1, b_some, hp_ln kq, b_some, hp_vp (show i < lc by omega) (by omega), cond_true, nI_add, hp_vp (show 16 * o + i < 48 by omega) (by decide), cond_true, nI_clamp (show i < 2 ^ 31 by omega), nI_clamp (show 16 * o + i < 2 ^ 31 by omega), iq, d1, d3, hH1, post]
    show (bif am_vp (nI o) 3 then _ else _) = _
    rw [hp_vp o3 (by decide), cond_true, yy, b_some, nI_clamp (show o < 2 ^ 31 by omega), hH3, hp_1]
    exact e'
/-- what a seat has got: its rows -/
def GVE (o : Nat) (n : Nat) (cd : Nat → Nat) (f : Nat → Int32) (s : Bool) (h h' : am_H) : Prop := frG o h h' ∧ am_I h' 33 o = bI s ∧ (∀ j, j < 16 → am_I h' 34 (16 * o + j) = if s = true ∧ j ≤ n then f j else Int32.ofInt 0) ∧ (∀ i, 1 ≤ i → i ≤ n → s = true → am_I h' 30 (16 * o + i) = nI (cd i % 10) ∧ am_I h' 35 (16 * o + i) = nI (ppC o (cd i))) ∧ ∀ q, bt (am_I h' 36 o) q = decide (s = true ∧ 1 ≤ q ∧ q ≤ n ∧ 100 ≤ cd q)
theorem gvN_8 {h : am_H} {o : Nat} (o3 : o < 3) (n : Nat) (cd : Nat → Nat) (f : Nat → Int32) (F : Nat) (hF : 40 ≤ F) : ∃ h', f_X7_giveN F (nI o) h = some ((), h') ∧ GVE o n cd f false h h' := by
  have e := gvN_z o3 (F - 17) 16 0 h (by omega)
  rw [show F - 17 + 16 + 1 = F from by omega] at e
  generalize hh : am_sI (am_sI (am_sR h 34 (hp_fl (am_I h 34) (16 * o + 0) (16 * o + 16) (Int32.ofInt 0))) 33 o (Int32.ofInt 0)) 36 o (Int32.ofInt 0) = h' at e
  refine ⟨h', by unfold f_X7_giveN; rw [x16]; exact e, ⟨by rw [← hh]; exact ⟨rfl, rfl, rfl⟩, by rw [← hh]; rfl, fun p a1 a2 a3 a4 a5 => by rw [← hh, hp_I' _ _ _ a5, hp_I' _ _ _ a2, hp_IR' _ _ a3], fun q hq => ⟨by rw [← hh, hp_I' _ _ _ (by decide), hp_I, upd_ne hq, hp_IR' _ _ (by decide)], by rw [← hh, hp_I, upd_ne hq, hp_I' _ _ _ (by decide), hp_IR' _ _ (by decide)]⟩, fun k hk => ⟨by rw [← hh, hp_I' _ _ _ (by decide), hp_I' _ _ _ (by decide), hp_IR' _ _ (by decide)], ?_, by rw [← hh, hp_I' _ _ _ (by decide), hp_I' _ _ _ (by decide), hp_IR' _ _ (by decide)]⟩⟩, ?_, fun j hj => ?_, fun i _ _ q => (by cases q), fun q => ?_⟩
  · rw [← hh, hp_I' _ _ _ (by decide), hp_I' _ _ _ (by decide), hp_IR]
    unfold hp_fl
    rw [if_neg (by omega)]
  · rw [← hh, hp_I' _ _ _ (by decide), hp_I, upd_at]; rfl
  · rw [← hh, hp_I' _ _ _ (by decide), hp_I' _ _ _ (by decide), hp_IR, if_neg (fun q => by cases q.1)]
    unfold hp_fl
    rw [if_pos (by omega)]
  · rw [← hh, hp_I, upd_at, bt_0, decide_eq_false (fun q => by cases q.1)]
theorem gv_8 {h : am_H} {o a n qc lc qf lf : Nat} {cd : Nat → Nat} {f : Nat → Int32} (o3 : o < 3) (a98 : 87 ≤ a) (q98 : 87 ≤ qc) (p98 : 87 ≤ qf) (k1 : am_K h a = .inl 0) (k2 : am_I h a 0 = nI n) (n15 : n ≤ 15) (k3 : am_A h a 1 = some qc) (k4 : am_A h a 2 = some qf) (l1 : n < lc) (l2 : lc ≤ 100) (l3 : am_K h qc = .inr (0, lc)) (m1 : n < lf) (m2 : lf ≤ 100) (m3 : am_K h qf = .inr (0, lf)) (r : ∀ i, 1 ≤ i → i ≤ n → am_I h qc i = nI (cd i) ∧ cdG (cd i) ∧ cd i / 10 % 10 ≠ o) (rf : ∀ j, j ≤ n → am_I h qf j = f j) (F : Nat) (hF : 100 ≤ F) : ∃ h', f_X7_give F (nI o) a h = some ((), h') ∧ GVE o n cd f true h h' := by
  have e := gv_z (a := a) o3 (F - 17) 16 0 h (by omega)
  rw [show F - 17 + 16 + 1 = F from by omega] at e
  generalize hh1 : am_sR h 34 (hp_fl (am_I h 34) (16 * o + 0) (16 * o + 16) (Int32.ofInt 0)) = h1 at e
  generalize hh2 : am_sI (am_sI h1 33 o (Int32.ofInt 1)) 36 o (Int32.ofInt 0) = h2
  have i2 : ∀ p, p ≠ 33 → p ≠ 34 → p ≠ 36 → am_I h2 p = am_I h p := fun p a1 a2 a3 => by rw [← hh2, hp_I' _ _ _ a3, hp_I' _ _ _ a1, ← hh1, hp_IR' _ _ a2]
  have i34 : am_I h2 34 = hp_fl (am_I h 34) (16 * o + 0) (16 * o + 16) (Int32.ofInt 0) := by rw [← hh2, hp_I' _ _ _ (by decide), hp_I' _ _ _ (by decide), ← hh1, hp_IR]
  have iK : am_K h2 = am_K h := by rw [← hh2, ← hh1]; rfl
  have iA : am_A h2 = am_A h := by rw [← hh2, ← hh1]; rfl
  generalize hh3 : am_sR h2 34 (va_cpy (am_I h2 qf) (am_I h2 34) 0 (16 * o) (n + 1)) = h3
  have i3 : ∀ p, p ≠ 34 → am_I h3 p = am_I h2 p := fun p hp => by rw [← hh3, hp_IR' _ _ hp]
  have j34 : ∀ k, am_I h3 34 k = if 16 * o ≤ k ∧ k < 16 * o + (n + 1) then f (k - 16 * o) else hp_fl (am_I h 34) (16 * o + 0) (16 * o + 16) (Int32.ofInt 0) k := by
    intro k
    rw [← hh3, hp_IR]
    show (if 16 * o ≤ k ∧ k < 16 * o + (n + 1) then am_I h2 qf (0 + (k - 16 * o)) else am_I h2 34 k) = _
    rw [i34]
    by_cases c : 16 * o ≤ k ∧ k < 16 * o + (n + 1)
    · rw [if_pos c, if_pos c, i2 qf (by omega) (by omega) (by omega), Nat.zero_add]; exact rf _ (by omega)
    · rw [if_neg c, if_neg c]
  have g0 : GV o cd h3 h3 1 := ⟨⟨rfl, rfl, rfl⟩, rfl, fun _ _ _ _ => rfl, fun _ _ => rfl, fun _ _ => ⟨rfl, rfl⟩, fun j a b => by omega, fun q => by
    rw [i3 36 (by decide), ← hh2, hp_I, upd_at, bt_0, decide_eq_false (by omega)]⟩
  have k1' : am_K h3 a = .inl 0 := by rw [← hh3]; show am_K h2 a = _; rw [iK]; exact k1
  have k2' : am_I h3 a 0 = nI n := by rw [i3 a (by omega), i2 a (by omega) (by omega) (by omega)]; exact k2
  have k3' : am_A h3 a 1 = some qc := by rw [← hh3]; show am_A h2 a 1 = _; rw [iA]; exact k3
  have l3' : am_K h3 qc = .inr (0, lc) := by rw [← hh3]; show am_K h2 qc = _; rw [iK]; exact l3
  obtain ⟨h4, e4, ⟨s1, s2, s3⟩, sJ, gI, g36, gO, gR, gB⟩ := gv_l (h := h3) o3 a98 q98 k1' k2' n15 k3' l1 l2 l3' (fun i a b => by rw [i3 qc (by omega), i2 qc (by omega) (by omega) (by omega)]; exact r i a b) (F - 17 - n - 1) n 1 h3 (by omega) (by omega) g0
  rw [show F - 17 - n - 1 + n + 1 = F - 17 from by omega] at e4
  refine ⟨h4, ?_, ⟨⟨by rw [s1, ← hh3, ← hh2, ← hh1]; rfl, by rw [s2, ← hh3]; exact iK, by rw [s3, ← hh3]; exact iA⟩, by rw [sJ, ← hh3, ← hh2, ← hh1]; rfl, fun p a1 a2 a3 a4 a5 => by rw [gI p a1 a4 a5, i3 p a3, i2 p a2 a3 a5], fun q hq => ⟨by rw [gI 33 (by decide) (by decide) (by decide), i3 33 (by decide), ← hh2, hp_I' _ _ _ (by decide), hp_I, upd_ne hq, ← hh1, hp_IR' _ _ (by decide)], by rw [g36 q hq, i3 36 (by decide), ← hh2, hp_I, upd_ne hq, hp_I' _ _ _ (by decide), ← hh1, hp_IR' _ _ (by decide)]⟩, fun k hk => ⟨?_, ?_, ?_⟩⟩, ?_, fun j hj => ?_, fun i a b _ => gR i a (by omega), fun q => ?_⟩
  · unfold f_X7_give
    rw [x16, show g_X7_give F 0 (nI o) a (nI (16 * o)) (Int32.ofInt 0) h = _ from e, g_X7_give, q00, cond_true, if_pos (show Int32.ofInt 16 ≤ nI 16 by decide), hp_vp o3 (by decide), cond_true, nI_clamp (show o < 2 ^ 31 by omega), show vp_nar (am_at 2) (Int32.ofInt 1) = Int32.ofInt 1 from by decide, hh2, hp_isO (show am_K h2 a = .inl 0 by rw [iK]; exact k1), cond_true, iA, k4, b_some, hp_ln (show am_K h2 qf = .inr (0, lf) by rw [iK]; exact m3), b_some, i2 a (by omega) (by omega) (by omega), k2, hp_1]
    have ck : am_cpk (Int32.ofInt 0) (nI (16 * o)) (nI (n + 1)) lf 48 = true := by
      unfold am_cpk
      rw [show Int32.toNatClampNeg (Int32.ofInt 0) = 0 from rfl, nI_clamp (show 16 * o < 2 ^ 31 by omega), nI_clamp (show n + 1 < 2 ^ 31 by omega), decide_eq_false (nI_nneg (v := 16 * o) (by omega)), decide_eq_false (nI_nneg (v := n + 1) (by omega)), Nat.ble_eq_true_of_le (by omega), Nat.ble_eq_true_of_le (by omega)]; rfl
    rw [ck, cond_true, show Int32.toNatClampNeg (Int32.ofInt 0) = 0 from rfl, nI_clamp (show 16 * o < 2 ^ 31 by omega), nI_clamp (show n + 1 < 2 ^ 31 by omega), hh3]
    exact e4
  · rw [(gO k hk).1, i3 30 (by decide), i2 30 (by decide) (by decide) (by decide)]
  · rw [gI 34 (by decide) (by decide) (by decide), j34, if_neg (by omega)]
    unfold hp_fl
    rw [if_neg (by omega)]
  · rw [(gO k hk).2, i3 35 (by decide), i2 35 (by decide) (by decide) (by decide)]
  · rw [gI 33 (by decide) (by decide) (by decide), i3 33 (by decide), ← hh2, hp_I' _ _ _ (by decide), hp_I, upd_at]; rfl
  · rw [gI 34 (by decide) (by decide) (by decide), j34]
    by_cases c : j ≤ n
    · rw [if_pos (by omega), if_pos ⟨rfl, c⟩, show 16 * o + j - 16 * o = j from by omega]
    · rw [if_neg (by omega), if_neg (fun q => c q.2)]
      unfold hp_fl
      rw [if_pos (by omega)]
  · rw [gB, Bool.eq_iff_iff, decide_eq_true_eq, decide_eq_true_eq]
    exact ⟨fun z => ⟨rfl, z.1, by omega, z.2.2⟩, fun z => ⟨z.2.1, by omega, z.2.2.2⟩⟩
