/-! ===== the bound: points and stars of a gatherer's run ===== -/
def gP (s : GS) (y q : Nat) : Prop := 1 ≤ y ∧ y ≤ s.n ∧ bt (s.fol y) q = true
def gQ (s : GS) (i q : Nat) : Prop := bt (s.rF i) q = true ∨ bt (s.aF i) q = true
def gR (s : GS) (i y : Nat) : Prop := bt (s.rL i) y = true
def gA (s : GS) (i y : Nat) : Prop := bt (s.aL i) y = true
def gN (s : GS) (i : Nat) : Prop := s.rN i = true
def PG (s : GS) (lb cp : Nat → Nat) (B σ : Nat) : Prop := PTa s.n s.d (gP s) (gQ s) (gR s) (gA s) (gN s) lb cp B ∧ STa s.d (gP s) (gQ s) (gR s) σ ∧ ∀ y q, s.n < y → bt (s.fol y) q = false
theorem bt_B {n j : Nat} (hn : n < 16) : bt (gBit n) j = true ↔ j = n := by
  constructor
  · exact bt_bit hn
  · rintro rfl
    unfold gBit
    rw [bt_one j hn j (by omega)]
    exact decide_eq_true rfl
theorem updB_at (f : Nat → Bool) (d : Nat) (x : Bool) : updB f d x d = x := by unfold updB; rw [if_pos rfl]
theorem updB_ne {f : Nat → Bool} {d j : Nat} {x : Bool} (h : j ≠ d) : updB f d x j = f j := by unfold updB; rw [if_neg h]
theorem or_t {a b : Bool} : (a || b) = true ↔ a = true ∨ b = true := by cases a <;> cases b <;> simp
theorem gJoinF_bt (n : Nat) (fol : Nat → Int32) (b m : Int32) (y q : Nat) : bt (gJoinF n fol b m y) q = true ↔ bt (fol y) q = true ∨ (1 ≤ y ∧ y ≤ n ∧ bt b y = true ∧ bt m q = true) := by
  unfold gJoinF
  by_cases h : 1 ≤ y ∧ y ≤ n ∧ bt b y = true
  · rw [if_pos h, bt_or, or_t]
    exact ⟨fun k => k.imp id (fun k => ⟨h.1, h.2.1, h.2.2, k⟩), fun k => k.imp id (fun k => k.2.2.2)⟩
  · rw [if_neg h]
    exact ⟨Or.inl, fun k => k.elim id (fun k => absurd ⟨k.1, k.2.1, k.2.2.1⟩ h)⟩
theorem PG_act {s : GS} {lb cp : Nat → Nat} {B σ : Nat} (h : PG s lb cp B σ) (c : Int32) (hn : s.n < 15) : ∃ lb' cp', PG (gAct c s) lb' cp' B σ := by
  obtain ⟨hp, hs, hz⟩ := h
  have h3 := hp.2.2.1
  have ef : (gAct c s).fol = gJoinF (s.n + 1) s.fol (s.rL s.d) (gBit (s.n + 1)) := rfl
  have erF : (gAct c s).rF = (bif s.rN s.d then upd s.rF s.d (s.rF s.d ||| gBit (s.n + 1)) else s.rF) := rfl
  have erL : (gAct c s).rL = upd s.rL s.d (gBit (s.n + 1)) := rfl
  have erN : (gAct c s).rN = updB s.rN s.d (s.rN s.d && false) := rfl
  have aP : ∀ y q, gP (gAct c s) y q ↔ gP s y q ∨ (gR s s.d y ∧ q = s.n + 1) := by
    intro y q
    show 1 ≤ y ∧ y ≤ s.n + 1 ∧ bt ((gAct c s).fol y) q = true ↔ _
    rw [ef, gJoinF_bt, bt_B (by omega)]
    constructor
    · rintro ⟨a, b, h | ⟨_, _, h, k⟩⟩
      · refine Or.inl ⟨a, ?_, h⟩
        apply Classical.byContradiction
        intro hy
        rw [hz y q (by omega)] at h
        cases h
      · exact Or.inr ⟨h, k⟩
    · rintro (⟨a, b, h⟩ | ⟨h, k⟩)
      · exact ⟨a, by omega, Or.inl h⟩
      · have := h3 s.d (Nat.le_refl _) y (Or.inl h)
        exact ⟨this.1, by omega, Or.inr ⟨this.1, by omega, h, k⟩⟩
  have aQ : ∀ i, i ≤ s.d → ∀ q, (gQ (gAct c s) i q ↔ gQ s i q ∨ (i = s.d ∧ gN s s.d ∧ q = s.n + 1)) := by
    intro i hi q
    show bt ((gAct c s).rF i) q = true ∨ bt (s.aF i) q = true ↔ (bt (s.rF i) q = true ∨ bt (s.aF i) q = true) ∨ _ ∧ s.rN s.d = true ∧ _
    rw [erF]
    cases hN : s.rN s.d with
    | false => simp
    | true =>
      by_cases e : i = s.d
      · subst e
        simp only [cond_true, upd_at, bt_or, or_t, bt_B (show s.n + 1 < 16 by omega), true_and]
        constructor
        · rintro ((h | h) | h)
          · exact Or.inl (Or.inl h)
          · exact Or.inr h
          · exact Or.inl (Or.inr h)
        · rintro ((h | h) | h)
          · exact Or.inl (Or.inl h)
          · exact Or.inr h
          · exact Or.inl (Or.inr h)
      · simp only [cond_true, upd_ne e, e, false_and, or_false]
  have aR : ∀ i, i ≤ s.d → i ≠ s.d → ∀ y, (gR (gAct c s) i y ↔ gR s i y) := by
    intro i _ e y
    show bt ((gAct c s).rL i) y = true ↔ bt (s.rL i) y = true
    rw [erL, upd_ne e]
  refine ⟨_, _, PT_act hp aP aQ aR ?_ (fun i _ y => Iff.rfl) ?_ ?_, ST_act hs (fun i hi y hr => (h3 i hi y (Or.inl hr)).2) aP aQ aR, ?_⟩
  · intro y
    show bt ((gAct c s).rL s.d) y = true ↔ _
    rw [erL, upd_at, bt_B (by omega)]
  · intro i _ e
    have e : i ≠ s.d := e
    show (gAct c s).rN i = true ↔ s.rN i = true
    rw [erN, updB_ne e]
  · show ¬ (gAct c s).rN s.d = true
    rw [erN, updB_at, Bool.and_false]; exact Bool.false_ne_true
  · intro y q hy
    have hy : s.n + 1 < y := hy
    rw [ef]
    cases hb : bt (gJoinF (s.n + 1) s.fol (s.rL s.d) (gBit (s.n + 1)) y) q with
    | false => rfl
    | true =>
      rcases (gJoinF_bt _ _ _ _ _ _).mp hb with h | ⟨_, h, _⟩
      · rw [hz y q (by omega)] at h; cases h
      · omega
theorem PG_new {s : GS} {lb cp : Nat → Nat} {B σ : Nat} (h : PG s lb cp B σ) : ∃ lb' cp', PG (gOpen s) lb' cp' B σ := by
  obtain ⟨hp, hs, hz⟩ := h
  have e1 : ∀ i, i ≤ s.d → i ≠ s.d + 1 := by omega
  have aQ : ∀ i, i ≤ s.d → ∀ q, (gQ (gOpen s) i q ↔ gQ s i q) := by
    intro i hi q
    show bt (upd s.rF (s.d + 1) _ i) q = true ∨ bt (upd s.aF (s.d + 1) _ i) q = true ↔ _
    rw [upd_ne (e1 i hi), upd_ne (e1 i hi)]; exact Iff.rfl
  have aQd : ∀ q, ¬ gQ (gOpen s) (s.d + 1) q := by
    intro q
    show ¬ (bt (upd s.rF (s.d + 1) _ (s.d + 1)) q = true ∨ bt (upd s.aF (s.d + 1) _ (s.d + 1)) q = true)
    rw [upd_at, upd_at, bt_0]
    simp
  have aR : ∀ i, i ≤ s.d → ∀ y, (gR (gOpen s) i y ↔ gR s i y) := by
    intro i hi y
    show bt (upd s.rL (s.d + 1) _ i) y = true ↔ _
    rw [upd_ne (e1 i hi)]; exact Iff.rfl
  refine ⟨_, _, PT_new hp (fun y q => Iff.rfl) aQ aQd aR ?_ ?_ ?_ ?_ ?_, ST_new hs (fun y q => Iff.rfl) aQ aQd aR, hz⟩
  · intro y
    show ¬ bt (upd s.rL (s.d + 1) _ (s.d + 1)) y = true
    rw [upd_at, bt_0]; exact Bool.false_ne_true
  · intro i hi y
    show bt (upd s.aL (s.d + 1) _ i) y = true ↔ _
    rw [upd_ne (e1 i hi)]; exact Iff.rfl
  · intro y
    show ¬ bt (upd s.aL (s.d + 1) _ (s.d + 1)) y = true
    rw [upd_at, bt_0]; exact Bool.false_ne_true
  · intro i hi
    show updB s.rN (s.d + 1) _ i = true ↔ _
    rw [updB_ne (e1 i hi)]; exact Iff.rfl
  · show updB s.rN (s.d + 1) _ (s.d + 1) = true
    rw [updB_at]
theorem PG_row {s : GS} {lb cp : Nat → Nat} {B σ : Nat} (h : PG s lb cp B σ) : ∃ lb' cp', PG (gEnd s) lb' cp' B σ := by
  obtain ⟨hp, hs, hz⟩ := h
  have aQ : ∀ i, i ≤ s.d → ∀ q, (gQ (gEnd s) i q ↔ gQ s i q) := by
    intro i hi q
    show bt (upd s.rF s.d _ i) q = true ∨ bt (upd s.aF s.d _ i) q = true ↔ bt (s.rF i) q = true ∨ bt (s.aF i) q = true
    by_cases e : i = s.d
    · subst e
      rw [upd_at, upd_at, bt_0, bt_or, or_t]
      simp only [Bool.false_eq_true, false_or]
      exact ⟨Or.symm, Or.symm⟩
    · rw [upd_ne e, upd_ne e]
  have aR : ∀ i, i ≤ s.d → i ≠ s.d → ∀ y, (gR (gEnd s) i y ↔ gR s i y) := by
    intro i _ e y
    show bt (upd s.rL s.d _ i) y = true ↔ _
    rw [upd_ne e]; exact Iff.rfl
  refine ⟨_, _, PT_row hp (fun y q => Iff.rfl) aQ aR ?_ ?_ ?_ ?_, ST_row hs (fun y q => Iff.rfl) aQ aR, hz⟩
  · intro y
    show ¬ bt (upd s.rL s.d _ s.d) y = true
    rw [upd_at, bt_0]; exact Bool.false_ne_true
  · intro i hi y h
    have h : bt (upd s.aL s.d (s.aL s.d ||| s.rL s.d) i) y = true := h
    by_cases e : i = s.d
    · subst e
      rw [upd_at, bt_or, or_t] at h
      exact h
    · rw [upd_ne e] at h; exact Or.inl h
  · intro i _ e
    have e : i ≠ s.d := e
    show updB s.rN s.d _ i = true ↔ _
    rw [updB_ne e]; exact Iff.rfl
  · show updB s.rN s.d _ s.d = true
    rw [updB_at]
theorem PG_close {s : GS} {lb cp : Nat → Nat} {B σ : Nat} (h : PG s lb cp B σ) (h0 : s.d ≠ 0) (hB : B < 60) (star : Bool) : ∃ lb' cp', PG (gClose star s) lb' cp' (B + 1) (σ + (bif star then 1 else 0)) := by
  obtain ⟨e, he⟩ := Nat.exists_eq_succ_of_ne_zero h0
  obtain ⟨hp, hs, hz⟩ := h
  have h3 := hp.2.2.1
  have ed : (gClose star s).d = e := by cases star <;> (show s.d - 1 = e; omega)
  have en : (gClose star s).n = s.n := by cases star <;> rfl
  have ne : ∀ i, i ≤ e → i ≠ s.d := by omega
  have le : ∀ i, i ≤ e → i ≤ s.d := by omega
  have em : s.d - 1 = e := by omega
  -- first and last places of the group
  let f := s.aF s.d ||| s.rF s.d
  let l := s.aL s.d ||| s.rL s.d
  have hf : ∀ q, bt f q = true ↔ gQ s s.d q := by
    intro q
    show bt (s.aF s.d ||| s.rF s.d) q = true ↔ bt (s.rF s.d) q = true ∨ bt (s.aF s.d) q = true
    rw [bt_or, or_t]; exact ⟨Or.symm, Or.symm⟩
  have hl : ∀ q, bt l q = true ↔ gR s s.d q ∨ gA s s.d q := by
    intro q
    show bt (s.aL s.d ||| s.rL s.d) q = true ↔ bt (s.rL s.d) q = true ∨ bt (s.aL s.d) q = true
    rw [bt_or, or_t]; exact ⟨Or.symm, Or.symm⟩
  have ff : (gEnd s).aF s.d = f := by show upd s.aF s.d _ s.d = _; rw [upd_at]
  have ll : (gEnd s).aL s.d = l := by show upd s.aL s.d _ s.d = _; rw [upd_at]
  have rLe : ∀ i, i ≤ e → (gEnd s).rL i = s.rL i := fun i hi => by show upd s.rL s.d _ i = _; rw [upd_ne (ne i hi)]
  have rFe : ∀ i, i ≤ e → (gEnd s).rF i = s.rF i := fun i hi => by show upd s.rF s.d _ i = _; rw [upd_ne (ne i hi)]
  have rNe : ∀ i, i ≤ e → (gEnd s).rN i = s.rN i := fun i hi => by show updB s.rN s.d _ i = _; rw [updB_ne (ne i hi)]
  have aFe : ∀ i, i ≤ e → (gClose star s).aF i = s.aF i := fun i hi => by cases star <;> (show upd s.aF s.d _ i = _; rw [upd_ne (ne i hi)])
  have aLe : ∀ i, i ≤ e → (gClose star s).aL i = s.aL i := fun i hi => by cases star <;> (show upd s.aL s.d _ i = _; rw [upd_ne (ne i hi)])
  have efol : (gClose star s).fol = gJoinF s.n (bif star then gJoinF s.n s.fol l f else s.fol) (s.rL e) f := by
    rw [← ff, ← ll, ← rLe e (Nat.le_refl _), ← em]; cases star <;> rfl
  have erF : (gClose star s).rF = (bif s.rN e then upd (gEnd s).rF e ((gEnd s).rF e ||| f) else (gEnd s).rF) := by
    rw [← rNe e (Nat.le_refl _), ← ff, ← em]; cases star <;> rfl
  have erL : (gClose star s).rL = upd (gEnd s).rL e (bif ((gEnd s).aN s.d || star) then (gEnd s).rL e ||| l else l) := by
    rw [← ll, ← em]; cases star <;> rfl
  have erN : (gClose star s).rN = updB (gEnd s).rN e ((gEnd s).rN e && ((gEnd s).aN s.d || star)) := by
    rw [← em]; cases star <;> rfl
  have zz : ∀ y q, s.n < y → bt ((gClose star s).fol y) q = false := by
    intro y q hy
    cases hb : bt ((gClose star s).fol y) q with
    | false => rfl
    | true =>
      rw [efol] at hb
      rcases (gJoinF_bt _ _ _ _ _ _).mp hb with h | ⟨_, h, _⟩
      · cases star with
        | false =>
          have h : bt (s.fol y) q = true := h
          rw [hz y q hy] at h; cases h
        | true =>
          have h : bt (gJoinF s.n s.fol l f y) q = true := h
          rcases (gJoinF_bt _ _ _ _ _ _).mp h with h | ⟨_, h, _⟩
          · rw [hz y q hy] at h; cases h
          · omega
      · omega
  have aQ : ∀ i, i ≤ e → ∀ q, (gQ (gClose star s) i q ↔ gQ s i q ∨ (i = e ∧ gN s e ∧ gQ s (e + 1) q)) := by
    intro i hi q
    have hf' : bt f q = true ↔ gQ s (e + 1) q := by rw [hf, he]
    show bt ((gClose star s).rF i) q = true ∨ bt ((gClose star s).aF i) q = true ↔ (bt (s.rF i) q = true ∨ bt (s.aF i) q = true) ∨ (_ ∧ s.rN e = true ∧ _)
    rw [aFe i hi, erF]
    cases hN : s.rN e with
    | false =>
      rw [show (bif false then upd (gEnd s).rF e ((gEnd s).rF e ||| f) else (gEnd s).rF) = (gEnd s).rF from rfl, rFe i hi]
      simp
    | true =>
      rw [show (bif true then upd (gEnd s).rF e ((gEnd s).rF e ||| f) else (gEnd s).rF) = upd (gEnd s).rF e ((gEnd s).rF e ||| f) from rfl]
      by_cases ei : i = e
      · subst ei
        rw [upd_at, bt_or, or_t, rFe i hi, hf']
        constructor
        · rintro ((h | h) | h)
          · exact Or.inl (Or.inl h)
          · exact Or.inr ⟨rfl, rfl, h⟩
          · exact Or.inl (Or.inr h)
        · rintro ((h | h) | ⟨_, _, h⟩)
          · exact Or.inl (Or.inl h)
          · exact Or.inr h
          · exact Or.inl (Or.inr h)
      · rw [upd_ne ei, rFe i hi]
        simp only [ei, false_and, or_false]
  have aR : ∀ i, i ≤ e → i ≠ e → ∀ y, (gR (gClose star s) i y ↔ gR s i y) := by
    intro i hi ei y
    show bt ((gClose star s).rL i) y = true ↔ bt (s.rL i) y = true
    rw [erL, upd_ne ei, rLe i hi]
  have aA : ∀ i, i ≤ e → ∀ y, (gA (gClose star s) i y ↔ gA s i y) := by
    intro i hi y
    show bt ((gClose star s).aL i) y = true ↔ bt (s.aL i) y = true
    rw [aLe i hi]
  have hl1 : ∀ y, bt l y = true → gR s (e + 1) y ∨ gA s (e + 1) y := fun y h => by have := (hl y).mp h; rwa [he] at this
  have rg : ∀ y, bt l y = true ∨ gR s e y → 1 ≤ y ∧ y ≤ s.n := by
    intro y h
    rcases h with h | h
    · exact h3 s.d (Nat.le_refl _) y ((hl y).mp h)
    · exact h3 e (by omega) y (Or.inl h)
  rw [he] at hp hs
  unfold PG
  rw [ed, en]
  cases star with
  | true =>
    have aP : ∀ y q, gP (gClose true s) y q ↔ gP s y q ∨ ((bt l y = true ∨ gR s e y) ∧ gQ s (e + 1) q) := by
      intro y q
      have hf' : bt f q = true ↔ gQ s (e + 1) q := by rw [hf, he]
      show 1 ≤ y ∧ y ≤ (gClose true s).n ∧ bt ((gClose true s).fol y) q = true ↔ _
      rw [en, efol, gJoinF_bt, show (bif true then gJoinF s.n s.fol l f else s.fol) = gJoinF s.n s.fol l f from rfl, gJoinF_bt, hf']
      constructor
      · rintro ⟨a, b, (h | ⟨_, _, h, k⟩) | ⟨_, _, h, k⟩⟩
        · exact Or.inl ⟨a, b, h⟩
        · exact Or.inr ⟨Or.inl h, k⟩
        · exact Or.inr ⟨Or.inr h, k⟩
      · rintro (⟨a, b, h⟩ | ⟨h, k⟩)
        · exact ⟨a, b, Or.inl (Or.inl h)⟩
        · obtain ⟨a, b⟩ := rg y h
          rcases h with h | h
          · exact ⟨a, b, Or.inl (Or.inr ⟨a, b, h, k⟩)⟩
          · exact ⟨a, b, Or.inr ⟨a, b, h, k⟩⟩
    refine ⟨_, _, PT_star hp hB hl1 aP aQ aR ?_ aA ?_, ST_star hs aP aQ aR, zz⟩
    · intro y
      show bt ((gClose true s).rL e) y = true ↔ _
      rw [erL, upd_at, Bool.or_true, cond_true, bt_or, or_t, rLe e (Nat.le_refl _)]
      exact ⟨Or.symm, Or.symm⟩
    · intro i hi
      show (gClose true s).rN i = true ↔ s.rN i = true
      rw [erN]
      by_cases ei : i = e
      · subst ei
        rw [updB_at, Bool.or_true, Bool.and_true, rNe i hi]
      · rw [updB_ne ei, rNe i hi]
  | false =>
    have aP : ∀ y q, gP (gClose false s) y q ↔ gP s y q ∨ (gR s e y ∧ gQ s (e + 1) q) := by
      intro y q
      have hf' : bt f q = true ↔ gQ s (e + 1) q := by rw [hf, he]
      show 1 ≤ y ∧ y ≤ (gClose false s).n ∧ bt ((gClose false s).fol y) q = true ↔ _
      rw [en, efol, gJoinF_bt, show (bif false then gJoinF s.n s.fol l f else s.fol) = s.fol from rfl, hf']
      constructor
      · rintro ⟨a, b, h | ⟨_, _, h, k⟩⟩
        · exact Or.inl ⟨a, b, h⟩
        · exact Or.inr ⟨h, k⟩
      · rintro (⟨a, b, h⟩ | ⟨h, k⟩)
        · exact ⟨a, b, Or.inl h⟩
        · obtain ⟨a, b⟩ := rg y (Or.inr h)
          exact ⟨a, b, Or.inr ⟨a, b, h, k⟩⟩
    refine ⟨_, _, PT_plain hp hB hl1 aP aQ aR ?_ aA ?_, ST_plain hs aP aQ aR, zz⟩
    · intro y h
      have h : bt ((gClose false s).rL e) y = true := h
      rw [erL, upd_at] at h
      cases hh : ((gEnd s).aN s.d || false) with
      | true =>
        rw [hh, cond_true, bt_or, or_t, rLe e (Nat.le_refl _)] at h
        exact h.symm
      | false =>
        rw [hh, cond_false] at h
        exact Or.inl h
    · intro i hi ei
      show (gClose false s).rN i = true ↔ s.rN i = true
      rw [erN, updB_ne ei, rNe i hi]
