/-! ===== the class tells of each sight how many states, and the first ===== -/
def cN (P : Nat → Bool) : Nat → Nat
  | 0 => 0
  | n + 1 => cN P n + (bif P n then 1 else 0)
def cF (P : Nat → Bool) : Nat → Int32
  | 0 => Int32.ofInt (-1)
  | n + 1 => if cN P n = 0 then (bif P n then nI n else Int32.ofInt (-1)) else cF P n
theorem cN_le (P : Nat → Bool) : ∀ n, cN P n ≤ n
  | 0 => Nat.le_refl _
  | n + 1 => by
    show cN P n + (bif P n then 1 else 0) ≤ n + 1
    have := cN_le P n
    cases P n <;> simp only [cond_true, cond_false] <;> omega
theorem cF_0 {P : Nat → Bool} : ∀ {n}, cN P n = 0 → cF P n = Int32.ofInt (-1)
  | 0, _ => rfl
  | n + 1, h => by
    have h : cN P n + (bif P n then 1 else 0) = 0 := h
    show (if cN P n = 0 then (bif P n then nI n else Int32.ofInt (-1)) else cF P n) = _
    rw [if_pos (by omega)]
    cases q : P n with
    | false => rfl
    | true => rw [q] at h; simp only [cond_true] at h; omega
theorem cN_t {P : Nat → Bool} {n : Nat} (h : P n = true) : cN P (n + 1) = cN P n + 1 := by
  show cN P n + (bif P n then 1 else 0) = _
  rw [h]; rfl
theorem cN_f {P : Nat → Bool} {n : Nat} (h : P n = false) : cN P (n + 1) = cN P n := by
  show cN P n + (bif P n then 1 else 0) = _
  rw [h]; rfl
theorem cF_f {P : Nat → Bool} {n : Nat} (h : P n = false) : cF P (n + 1) = cF P n := by
  show (if cN P n = 0 then (bif P n then nI n else Int32.ofInt (-1)) else cF P n) = _
  by_cases c : cN P n = 0
  · rw [if_pos c, h, cF_0 c]; rfl
  · rw [if_neg c]
theorem cF_t0 {P : Nat → Bool} {n : Nat} (h : P n = true) (c : cN P n = 0) : cF P (n + 1) = nI n := by
  show (if cN P n = 0 then (bif P n then nI n else Int32.ofInt (-1)) else cF P n) = _
  rw [if_pos c, h]; rfl
theorem cF_t1 {P : Nat → Bool} {n : Nat} (c : ¬ cN P n = 0) : cF P (n + 1) = cF P n := if_neg c
/-- tally and first -/
def TL (h : am_H) (o : Nat) (P : Nat → Nat → Bool) (at' : Nat → Nat) : Prop := ∀ w, w < 5 → am_I h (o + 1) w = nI (cN (P w) (at' w)) ∧ am_I h (o + 2) w = cF (P w) (at' w)
/-- only tally, first and marks have changed -/
def frU (o : Nat) (h h' : am_H) : Prop := (h'.1 = h.1 ∧ am_K h' = am_K h ∧ am_A h' = am_A h ∧ am_J h' = am_J h) ∧ ∀ p, p ≠ o + 1 → p ≠ o + 2 → p ≠ o + 4 → am_I h' p = am_I h p
theorem frU_r (o : Nat) (h : am_H) : frU o h h := ⟨⟨rfl, rfl, rfl, rfl⟩, fun _ _ _ _ => rfl⟩
theorem frU_t {o : Nat} {a b c : am_H} (f : frU o a b) (g : frU o b c) : frU o a c := ⟨⟨g.1.1.trans f.1.1, g.1.2.1.trans f.1.2.1, g.1.2.2.1.trans f.1.2.2.1, g.1.2.2.2.trans f.1.2.2.2⟩, fun p c d e => (g.2 p c d e).trans (f.2 p c d e)⟩
theorem frU_s (o : Nat) (h : am_H) {d : Nat} (hd : d = 1 ∨ d = 2 ∨ d = 4) (j : Nat) (x : Int32) : frU o h (am_sI h (o + d) j x) := ⟨⟨rfl, rfl, rfl, rfl⟩, fun p a b c => hp_I' _ _ _ (by omega)⟩
theorem bI_0e (b : Bool) : (bI b = 0) ↔ b = false := by cases b <;> decide
theorem tl_in {o i : Nat} (ho : o = 37 ∨ o = 37) (hi : i < 2000) {P : Nat → Nat → Bool} {fin : Int32} (hP : ∀ w, w < 5 → bt fin w = P w i) (F : Nat) : ∀ (d w : Nat) (h : am_H), w + d = 5 → am_I h (o + 4) i = fin → TL h o P (fun w' => if w' < w then i + 1 else i) → ∃ h', g_X6_tell (F + d + 1) 0 o (nI i) (nI w) h = some ((), h') ∧ TL h' o P (fun _ => i + 1) ∧ frU o h h' ∧ am_I h' (o + 4) = am_I h (o + 4) := by
  intro d
  induction d with
  | zero =>
    intro w h hw h4 t
    have : w = 5 := by omega
    subst this
    refine ⟨h, ?_, fun w' hw' => ?_, frU_r _ _, rfl⟩
    · rw [show F + 0 + 1 = F + 1 from rfl, g_X6_tell, if_pos (show Int32.ofInt 5 ≤ nI 5 by decide)]
    · have := t w' hw'
      simp only [if_pos hw'] at this
      exact this
  | succ d ih =>
    intro w h hw h4 t
    have w5 : w < 5 := by omega
    have ci : Int32.toNatClampNeg (nI i) = i := nI_clamp (by omega)
    have cw : Int32.toNatClampNeg (nI w) = w := nI_clamp (by omega)
    obtain ⟨t1, t2⟩ := t w w5
    simp only [if_neg (Nat.lt_irrefl w)] at t1 t2
    have hd : ∀ X, (Option.bind ((if bI (P w i) = 0 then some h else bif am_vp (nI w) 5 then (Option.bind ((if am_I h (o + 1) w = 0 then some (am_sI h (o + 2) w (nI i)) else some h)) fun h7 => (some (am_sI h7 (o + 1) w (am_I h7 (o + 1) w + (Int32.ofInt 1))))) else none)) fun h3 => (g_X6_tell (F + d + 1) 0 o (nI i) (nI (w + 1)) h3)) = X → g_X6_tell (F + (d + 1) + 1) 0 o (nI i) (nI w) h = X := by
      intro X hX
      rw [show F + (d + 1) + 1 = (F + d + 1) + 1 from rfl, g_X6_tell, if_neg (show ¬ Int32.ofInt 5 ≤ nI w from nI_ge (a := w) (b := 5) w5 (by decide)), hp_vp hi (by decide), cond_true, ci, h4, bt_8 _ (show w < 32 by omega), hP w w5, cw, hp_1 w]
      exact hX
    cases hp : P w i with
    | false =>
      obtain ⟨h', e, T', f', m'⟩ := ih (w + 1) h (by omega) h4 (fun w' hw' => by
        obtain ⟨a, b⟩ := t w' hw'
        by_cases c : w' = w
        · subst c
          simp only [if_pos (Nat.lt_succ_self w'), cN_f hp, cF_f hp]; exact ⟨t1, t2⟩
        · by_cases c2 : w' < w
          · simp only [if_pos c2] at a b
            simp only [if_pos (show w' < w + 1 by omega)]; exact ⟨a, b⟩
          · simp only [if_neg c2] at a b
            simp only [if_neg (show ¬ w' < w + 1 by omega)]; exact ⟨a, b⟩)
      exact ⟨h', hd _ (by rw [hp, if_pos (show bI false = 0 from rfl), b_some]; exact e), T', f', m'⟩
    | true =>
      have cle := cN_le (P w) i
      have x0 : (am_I h (o + 1) w = 0) ↔ cN (P w) i = 0 := by rw [t1]; exact nI_0e (by omega)
      have key : ∃ h7, (if am_I h (o + 1) w = 0 then some (am_sI h (o + 2) w (nI i)) else some h) = some h7 ∧ am_I h7 (o + 1) = am_I h (o + 1) ∧ (∀ w', w' ≠ w → am_I h7 (o + 2) w' = am_I h (o + 2) w') ∧ am_I h7 (o + 2) w = cF (P w) (i + 1) ∧ frU o h h7 ∧ am_I h7 (o + 4) = am_I h (o + 4) := by
        by_cases c : cN (P w) i = 0
        · refine ⟨_, if_pos (x0.mpr c), hp_I' _ _ _ (by omega), fun w' hw' => by rw [hp_I, upd_ne hw'], by rw [hp_I, upd_at, cF_t0 hp c], ⟨⟨rfl, rfl, rfl, rfl⟩, fun p _ b _ => hp_I' _ _ _ b⟩, hp_I' _ _ _ (by omega)⟩
        · exact ⟨h, if_neg (fun q => c (x0.mp q)), rfl, fun _ _ => rfl, by rw [t2, cF_t1 c], frU_r _ _, rfl⟩
      obtain ⟨h7, e7, a1, a2, a3, a4, a5⟩ := key
      obtain ⟨h', e, T', f', m'⟩ := ih (w + 1) (am_sI h7 (o + 1) w (nI (cN (P w) (i + 1)))) (by omega) (by rw [hp_I' _ _ _ (by omega), a5]; exact h4) (fun w' hw' => by
        obtain ⟨a, b⟩ := t w' hw'
        rw [hp_I, hp_I' _ _ _ (show o + 2 ≠ o + 1 by omega), a1]
        by_cases c : w' = w
        · subst c
          rw [upd_at, a3]
          simp only [if_pos (Nat.lt_succ_self w')]; exact ⟨trivial, trivial⟩
        · rw [upd_ne c, a2 w' c]
          by_cases c2 : w' < w
          · simp only [if_pos c2] at a b
            simp only [if_pos (show w' < w + 1 by omega)]; exact ⟨a, b⟩
          · simp only [if_neg c2] at a b
            simp only [if_neg (show ¬ w' < w + 1 by omega)]; exact ⟨a, b⟩)
      refine ⟨h', hd _ ?_, T', frU_t a4 (frU_t (frU_s o h7 (d := 1) (by decide) w _) f'), by rw [m', hp_I' _ _ _ (by omega), a5]⟩
      rw [hp, if_neg (show ¬ bI true = 0 by decide), hp_vp w5 (by decide), cond_true, e7, b_some, b_some, a1, t1, hp_1, ← cN_t hp]
      exact e
/-- the mark at the end -/
def mkF (mk : Nat → Int32) (X : Nat → Bool) (i : Nat) : Int32 := bif X i then mk i ||| Int32.ofInt 32 else mk i ||| Int32.ofInt 8
theorem tl_out {o n : Nat} (ho : o = 37 ∨ o = 37) (hn : n ≤ 2000) {mk : Nat → Int32} {X : Nat → Bool} (hmk : ∀ j, (mk j &&& Int32.ofInt 32 = 0) ∧ ¬ (mk j ||| Int32.ofInt 32) &&& Int32.ofInt 32 = 0) {P : Nat → Nat → Bool} (hP : ∀ i w, i < n → w < 5 → bt (mkF mk X i) w = P w i) (a2 : Int32) (F : Nat) (hF : 6 ≤ F) : ∀ (d k : Nat) (h : am_H), k + d = n → am_I h o 0 = nI n → (∀ j, j < n → am_I h (o + 4) j = if j < k then mkF mk X j else mkX mk X j) → TL h o P (fun _ => k) → ∃ h', g_X6_explore (F + d + 1) 2 o a2 (nI k) 0 0 h = some (((), h'), 0, 0) ∧ (∀ j, j < n → am_I h' (o + 4) j = mkF mk X j) ∧ TL h' o P (fun _ => n) ∧ frU o h h' := by
  intro d
  induction d with
  | zero =>
    intro k h hk h0 hm t
    have : k = n := by omega
    subst this
    refine ⟨h, ?_, fun j hj => by rw [hm j hj, if_pos hj], t, frU_r _ _⟩
    rw [show F + 0 + 1 = F + 1 from rfl, g_X6_explore, q20, cond_false, q21, cond_false, h0, if_pos (Int32.le_refl _)]
  | succ d ih =>
    intro k h hk h0 hm t
    have kn : k < n := by omega
    have ck : Int32.toNatClampNeg (nI k) = k := nI_clamp (by omega)
    have m0 := hm k kn
    rw [if_neg (Nat.lt_irrefl k)] at m0
    have key : ∃ h2, (if (am_I h (o + 4) k &&& (Int32.ofInt 32)) = 0 then some (am_sI h (o + 4) k (am_I h (o + 4) k ||| (Int32.ofInt 8))) else some h) = some h2 ∧ frU o h h2 ∧ am_I h2 (o + 4) = upd (am_I h (o + 4)) k (mkF mk X k) ∧ am_I h2 (o + 1) = am_I h (o + 1) ∧ am_I h2 (o + 2) = am_I h (o + 2) := by
      rw [m0]
      unfold mkX mkF
      cases hX : X k with
      | true =>
        refine ⟨h, by rw [cond_true, if_neg (hmk k).2], frU_r _ _, ?_, rfl, rfl⟩
        rw [cond_true]
        unfold mkX at m0
        rw [hX, cond_true] at m0
        rw [← m0, hp_upd_id]
      | false =>
        refine ⟨am_sI h (o + 4) k (mk k ||| Int32.ofInt 8), by rw [cond_false, if_pos (hmk k).1], frU_s o h (d := 4) (by decide) k _, ?_, hp_I' _ _ _ (by omega), hp_I' _ _ _ (by omega)⟩
        rw [hp_I]; rfl
    obtain ⟨h2, e2, f2, m2, r1, r2⟩ := key
    obtain ⟨h3, e3, t3, f3, m3⟩ := tl_in ho (show k < 2000 by omega) (fun w hw => hP k w kn hw) (F + d + 1 - 6) 5 0 h2 (by omega) (by rw [m2, upd_at]) (fun w hw => by
      simp only [if_neg (Nat.not_lt_zero w)]
      rw [r1, r2]; exact t w hw)
    rw [show F + d + 1 - 6 + 5 + 1 = F + d + 1 from by omega] at e3
    have f23 := frU_t f2 f3
    obtain ⟨h', e, mm, tt, ff⟩ := ih (k + 1) h3 (by omega) (by rw [f23.2 o (by omega) (by omega) (by omega)]; exact h0) (fun j hj => by
      rw [m3, m2]
      by_cases c : j = k
      · rw [c, upd_at, if_pos (Nat.lt_succ_self k)]
      · rw [upd_ne c, hm j hj]
        by_cases c2 : j < k
        · rw [if_pos c2, if_pos (by omega)]
        · rw [if_neg c2, if_neg (by omega)]) t3
    refine ⟨h', ?_, mm, tt, frU_t f23 ff⟩
    rw [show F + (d + 1) + 1 = (F + d + 1) + 1 from rfl, g_X6_explore, q20, cond_false, q21, cond_false, h0, if_neg (nI_ge kn (by omega))]
    unfold f_X6_tell
    rw [hp_vp (show k < 2000 by omega) (by decide), cond_true, ck, e2, b_some, show Int32.ofInt 0 = nI 0 from rfl, e3, b2s, hp_1]
    exact e
