/-! ===== checks and costs of the functions that allocate ===== -/
def am_cost {α : Type} (a b : Nat) (o : Option (α × Nat × Nat)) : Option (α × Nat × Nat) := match o with
  | some (x, c, s) => some (x, a + c, b + s)
  | none => none
theorem am_cost_ok {α : Type} {a b : Nat} {o : Option (α × Nat × Nat)} {x : α} {c s : Nat} (h : am_cost a b o = some (x, c, s)) : ∃ c2 s2, o = some (x, c2, s2) ∧ c = a + c2 ∧ s = b + s2 := by
  cases o with
  | none => cases h
  | some y =>
    obtain ⟨y, c2, s2⟩ := y
    obtain ⟨rfl, rfl, rfl⟩ := am_i3 h
    exact ⟨c2, s2, rfl, rfl, rfl⟩
def am_bc {α β γ : Type} (o : Option ((α × β) × Nat × Nat)) (f : α → β → Option (γ × Nat × Nat)) : Option (γ × Nat × Nat) := match o with
  | some ((a, b), c, s) => am_cost c s (f a b)
  | none => none
theorem am_bc_ok {α β γ : Type} {o : Option ((α × β) × Nat × Nat)} {f : α → β → Option (γ × Nat × Nat)} {x : γ} {c s : Nat} (h : am_bc o f = some (x, c, s)) : ∃ a b c1 s1 c2 s2, o = some ((a, b), c1, s1) ∧ f a b = some (x, c2, s2) ∧ c = c1 + c2 ∧ s = s1 + s2 := by
  cases o with
  | none => cases h
  | some y =>
    obtain ⟨⟨a, b⟩, c1, s1⟩ := y
    obtain ⟨c2, s2, h1, h2, h3⟩ := am_cost_ok h
    exact ⟨a, b, c1, s1, c2, s2, rfl, h1, h2, h3⟩
theorem am_ic {α β : Type} {a a' : α} {b b' : β} {c c' s s' : Nat} (h : some ((a, b), c, s) = some ((a', b'), c', s')) : a = a' ∧ b = b' ∧ c = c' ∧ s = s' := by
  obtain ⟨h1, h2, h3⟩ := am_i3 h
  exact ⟨congrArg Prod.fst h1, congrArg Prod.snd h1, h2, h3⟩
theorem am_stN {h : am_H} (hs : am_stat h) (kd : Nat ⊕ (Nat × Nat)) (f : Nat → Int32) : am_stat (am_new h kd f) := by
  refine ⟨Nat.le_succ_of_le hs.1, fun i hi => ?_, fun i k q hk hq => ?_⟩
  · have hn : i ≠ h.1 := Nat.ne_of_lt (Nat.lt_of_lt_of_le hi hs.1)
    rw [← hs.2.1 i hi]
    simp [am_new, am_K, va_up, hn]
  · have hi : i < 87 := by
      apply Classical.byContradiction
      intro q'
      have : st_R (64 * i + k) = none := st_R_none _ (by omega)
      unfold st_A at hq
      rw [this] at hq
      cases hq
    have hn : i ≠ h.1 := Nat.ne_of_lt (Nat.lt_of_lt_of_le hi hs.1)
    rw [← hs.2.2 i k q hk hq]
    simp [am_new, am_A, va_up, hn]
def am_nn (x : Int32) : Bool := !decide (x < 0) && Nat.ble x.toNatClampNeg 1000000
theorem am_nn_ok {x : Int32} (h : am_nn x = true) : ¬ x < 0 ∧ x.toNatClampNeg ≤ 1000000 := by
  unfold am_nn at h
  simp only [Bool.and_eq_true, Bool.not_eq_true', decide_eq_false_iff_not] at h
  exact ⟨h.1, Nat.le_of_ble_eq_true h.2⟩
def am_cpk (sp dp n : Int32) (a b : Nat) : Bool := !decide (sp < 0) && (!decide (dp < 0) && (!decide (n < 0) && (Nat.ble (sp.toNatClampNeg + n.toNatClampNeg) a && Nat.ble (dp.toNatClampNeg + n.toNatClampNeg) b)))
theorem am_cpk_ok {sp dp n : Int32} {a b : Nat} (h : am_cpk sp dp n a b = true) : ¬ sp < 0 ∧ ¬ dp < 0 ∧ ¬ n < 0 ∧ sp.toNatClampNeg + n.toNatClampNeg ≤ a ∧ dp.toNatClampNeg + n.toNatClampNeg ≤ b := by
  unfold am_cpk at h
  simp only [Bool.and_eq_true, Bool.not_eq_true', decide_eq_false_iff_not] at h
  exact ⟨h.1, h.2.1, h.2.2.1, Nat.le_of_ble_eq_true h.2.2.2.1, Nat.le_of_ble_eq_true h.2.2.2.2⟩
theorem am_n98 {o : Nat} (h : Nat.ble 87 o = true) (k : Nat) : st_A o k = none := by
  have := Nat.le_of_ble_eq_true h
  unfold st_A
  exact st_R_none _ (by omega)
theorem sv_n {o : Nat} (ho : o = 37 ∨ o = 37) (k : Nat) (h1 : st_A 37 k = none := by rfl) (h2 : st_A 37 k = none := by rfl) : st_A o k = none := by
  rcases ho with rfl | rfl
  · exact h1
  · exact h2
