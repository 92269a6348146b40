/-! ===== p1: the first call on two fresh objects ===== -/
def pJ : am_H → Nat → Nat → Prop := fun _ c sl => c ≤ 600000 ∧ sl ≤ 7302250
def ckI (o : Option (Int32 × am_H)) (g : am_H → Option (Int32 × am_H)) : Bool := match o with
  | some (v, h1) => (match g h1 with
    | some (v2, _) => decide (v = v2)
    | none => false)
  | none => false
theorem ckI_ok {o : Option (Int32 × am_H)} {g : am_H → Option (Int32 × am_H)} (h : ckI o g = true) : ∃ (v : Int32) (h1 h2 : am_H), o = some (v, h1) ∧ g h1 = some (v, h2) := by
  cases o with
  | none => cases h
  | some p =>
    obtain ⟨v, h1⟩ := p
    have h : (match g h1 with | some (v2, _) => decide (v = v2) | none => false) = true := h
    cases hg : g h1 with
    | none => rw [hg] at h; cases h
    | some q =>
      obtain ⟨v2, h2⟩ := q
      rw [hg] at h
      have e : v = v2 := of_decide_eq_true h
      subst e
      exact ⟨v, h1, h2, rfl, hg⟩
def ckC (o : Option ((Int32 × am_H) × Nat × Nat)) (g : am_H → Option (Int32 × am_H)) : Bool := match o with
  | some ((v, h1), c, s) => (match g h1 with
    | some (v2, _) => decide (v = v2) && (Nat.ble c 500000 && Nat.ble s 6000000)
    | none => false)
  | none => false
theorem ckC_ok {o : Option ((Int32 × am_H) × Nat × Nat)} {g : am_H → Option (Int32 × am_H)} (h : ckC o g = true) : ∃ (v : Int32) (h1 h2 : am_H) (c s : Nat), o = some ((v, h1), c, s) ∧ g h1 = some (v, h2) ∧ c ≤ 500000 ∧ s ≤ 6000000 := by
  cases o with
  | none => cases h
  | some p =>
    obtain ⟨⟨v, h1⟩, c, s⟩ := p
    have h : (match g h1 with | some (v2, _) => decide (v = v2) && (Nat.ble c 500000 && Nat.ble s 6000000) | none => false) = true := h
    cases hg : g h1 with
    | none => rw [hg] at h; cases h
    | some q =>
      obtain ⟨v2, h2⟩ := q
      rw [hg] at h
      simp only [Bool.and_eq_true] at h
      have e : v = v2 := of_decide_eq_true h.1
      subst e
      exact ⟨v, h1, h2, c, s, rfl, hg, Nat.le_of_ble_eq_true h.2.1, Nat.le_of_ble_eq_true h.2.2⟩
def ckL (o : Option ((Int64 × am_H) × Nat × Nat)) (g : am_H → Option (Int64 × am_H)) : Bool := match o with
  | some ((v, h1), c, s) => (match g h1 with
    | some (v2, _) => decide (v = v2) && (Nat.ble c 500000 && Nat.ble s 6000000)
    | none => false)
  | none => false
theorem ckL_ok {o : Option ((Int64 × am_H) × Nat × Nat)} {g : am_H → Option (Int64 × am_H)} (h : ckL o g = true) : ∃ (v : Int64) (h1 h2 : am_H) (c s : Nat), o = some ((v, h1), c, s) ∧ g h1 = some (v, h2) ∧ c ≤ 500000 ∧ s ≤ 6000000 := by
  cases o with
  | none => cases h
  | some p =>
    obtain ⟨⟨v, h1⟩, c, s⟩ := p
    have h : (match g h1 with | some (v2, _) => decide (v = v2) && (Nat.ble c 500000 && Nat.ble s 6000000) | none => false) = true := h
    cases hg : g h1 with
    | none => rw [hg] at h; cases h
    | some q =>
      obtain ⟨v2, h2⟩ := q
      rw [hg] at h
      simp only [Bool.and_eq_true] at h
      have e : v = v2 := of_decide_eq_true h.1
      subst e
      exact ⟨v, h1, h2, c, s, rfl, hg, Nat.le_of_ble_eq_true h.2.1, Nat.le_of_ble_eq_true h.2.2⟩
theorem fI {n1 n2 : Nat} : (98 ≤ 600000 ∧ 824412 ≤ 7302250 ∧ pJ hF 98 824412) ∧ n1 = n1 ∧ n2 = n2 := ⟨⟨by decide, by decide, by decide, by decide⟩, rfl, rfl⟩
theorem fJ (h : am_H) : 98 ≤ 600000 ∧ 824412 ≤ 7302250 ∧ pJ h 98 824412 := ⟨by decide, by decide, by decide, by decide⟩
theorem fC (h : am_H) {c s : Nat} (hc : c ≤ 500000) (hs : s ≤ 6000000) : 98 + c ≤ 600000 ∧ 824412 + s ≤ 7302250 ∧ pJ h (98 + c) (824412 + s) := ⟨by omega, by omega, by omega, by omega⟩
theorem z05 : am_I hF 0 5 = 0 := by decide +kernel
theorem z07 : am_I hF 0 7 = 0 := by decide +kernel
theorem z62_2 : am_I hF 62 2 = 0 := by decide +kernel
theorem z62_6 : am_I hF 62 6 = 0 := by decide +kernel
theorem i_m1 {a : Int32} (h : ¬ a < 0) : (0 : Int32) - Int32.ofInt 1 < a := by
  have h := Int32.not_lt.mp h
  rw [Int32.le_iff_toInt_le] at h
  rw [Int32.lt_iff_toInt_lt]
  have e : ((0 : Int32) - Int32.ofInt 1).toInt = -1 := by decide
  have e0 : (0 : Int32).toInt = 0 := by decide
  omega
theorem p9_w0 {a lo hi : Int32} (h : am_H) (q : a < lo ∨ hi < a) : f_X9_within a lo hi h = some (Int32.ofInt 0, h) := by
  unfold f_X9_within
  by_cases h1 : a < lo
  · rw [if_pos h1]; rfl
  · rw [if_neg h1, if_pos (q.resolve_left h1)]; rfl
theorem p9_w1 {a lo hi : Int32} (h : am_H) (q1 : ¬ a < lo) (q2 : ¬ hi < a) : f_X9_within a lo hi h = some (Int32.ofInt 1, h) := by
  unfold f_X9_within
  rw [if_neg q1, if_neg q2]; rfl
theorem p8_isBook (a : Int32) : f_X8_isBook a hF = some (Int32.ofInt 0, hF) := by
  unfold f_X8_isBook
  rw [z05]
  by_cases h : a < 0
  · rw [if_pos h]; rfl
  · rw [if_neg h, if_pos (Int32.not_lt.mp h)]; rfl
theorem p9_isBook (a : Int32) : f_X9_isBook a hF = some (Int32.ofInt 0, hF) := by
  unfold f_X9_isBook
  rw [z62_2, p9_w0 hF (by
    by_cases h : a < 0
    · exact Or.inl h
    · exact Or.inr (i_m1 h))]
  rfl
theorem q_1 : po_1 pJ hF 98 824412 := by
  obtain ⟨v, h1, h2, e1, e2⟩ := ckI_ok (o := f_X8_blank hF) (g := f_X9_blank) (by decide +kernel)
  exact ⟨v, h1, h2, e1, e2, fJ h2⟩
theorem q_3 : po_3 pJ hF 98 824412 := by
  obtain ⟨v, h1, h2, c, s, e1, e2, hc, hs⟩ := ckC_ok (o := f_X8_book 100 hF) (g := f_X9_book 100) (by decide +kernel)
  exact ⟨_, _, v, h1, h2, c, s, e1, e2, fC h2 hc hs⟩
theorem q_4 : po_4 pJ hF 98 824412 := by
  obtain ⟨v, h1, h2, c, s, e1, e2, hc, hs⟩ := ckC_ok (o := f_X8_one 100 hF) (g := f_X9_one 100) (by decide +kernel)
  exact ⟨_, _, v, h1, h2, c, s, e1, e2, fC h2 hc hs⟩
theorem q_17 : po_17 pJ hF 98 824412 := by
  obtain ⟨v, h1, h2, e1, e2⟩ := ckI_ok (o := f_X8_begin hF) (g := f_X9_begin 100) (by decide +kernel)
  exact ⟨_, v, h1, h2, e1, e2, fJ h2⟩
theorem q_18 : po_18 pJ hF 98 824412 := by
  obtain ⟨v, h1, h2, e1, e2⟩ := ckI_ok (o := f_X8_steps 100 hF) (g := f_X9_steps 100) (by decide +kernel)
  exact ⟨_, _, v, h1, h2, e1, e2, fJ h2⟩
theorem q_6 (a1 : Int32) : po_6 a1 pJ hF 98 824412 :=
  ⟨0, 0, Int32.ofInt (-101), hF, hF, 0, 0, by unfold f_X8_twin; rw [p8_isBook]; rfl, by unfold f_X9_twin; rw [p9_isBook]; rfl, fC hF (Nat.zero_le _) (Nat.zero_le _)⟩
theorem q_7 (a1 a2 : Int32) : po_7 a1 a2 pJ hF 98 824412 :=
  ⟨0, 0, Int32.ofInt (-101), hF, hF, 0, 0, by unfold f_X8_about; rw [p8_isBook]; rfl, by unfold f_X9_about; rw [p9_isBook]; rfl, fC hF (Nat.zero_le _) (Nat.zero_le _)⟩
