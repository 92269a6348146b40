/-! ===== a method's tables, checked by program ===== -/
def am_chk (bs : ByteArray) (nL pc : Nat) (i : Instr) (t : Nat) : Bool := match decode bs pc with
  | .ok (j, len) => decide (j = i) && (match i with
    | .tableswitch _ _ _ _ => true
    | .goto off | .ifCond _ off | .if_icmp _ off | .ifnull off | .ifnonnull off => Nat.beq len 3 && decide ((pc : Int) + off = (t : Int))
    | .bipush n => Nat.beq len 2 && decide ((Int8.ofInt n).toInt32 = Int32.ofInt n)
    | .sipush n => Nat.beq len 3 && decide ((Int16.ofInt n).toInt32 = Int32.ofInt n)
    | .istore_n k | .astore_n k => Nat.beq len 1 && Nat.blt k.val nL
    | .lstore_n k => Nat.beq len 1 && Nat.blt (k.val + 1) nL
    | .istore k | .astore k => Nat.beq len 2 && Nat.blt k nL
    | .lstore k => Nat.beq len 2 && Nat.blt (k + 1) nL
    | .iinc k _ => Nat.beq len 3 && Nat.blt k nL
    | _ => Nat.beq len (am_len i))
  | .error _ => false
set_option maxHeartbeats 4000000 in
theorem am_chk_ok {bs : ByteArray} {nL pc : Nat} {i : Instr} {t : Nat} (h : am_chk bs nL pc i t = true) : am_dec bs nL pc i t := by
  unfold am_chk at h
  cases hd : decode bs pc with
  | error _ => rw [hd] at h; cases h
  | ok q =>
    obtain ⟨j, len⟩ := q
    rw [hd] at h
    simp only [Bool.and_eq_true, decide_eq_true_eq] at h
    obtain ⟨rfl, h⟩ := h
    have hb : ∀ a b : Nat, Nat.beq a b = true → a = b := fun a b q => Nat.eq_of_beq_eq_true q
    have hl : ∀ a b : Nat, Nat.blt a b = true → a < b := fun a b q => Nat.lt_of_lt_of_le (Nat.lt_succ_self _) (Nat.le_of_ble_eq_true q)
    cases j <;> first
      | (have e := hb _ _ h; subst e; exact hd)
      | (simp only [Bool.and_eq_true, decide_eq_true_eq] at h; have e := hb _ _ h.1; subst e; exact ⟨hd, h.2⟩)
      | (simp only [Bool.and_eq_true] at h; have e := hb _ _ h.1; subst e; exact ⟨hd, hl _ _ h.2⟩)
      | exact ⟨_, hd⟩
theorem am_tab_ok {bs : ByteArray} {nL : Nat} (sz : Nat) (f : Nat → Option (Instr × Nat)) (hz : ∀ pc, sz ≤ pc → f pc = none) (h : (List.range sz).all (fun pc => match f pc with
    | some (i, t) => am_chk bs nL pc i t
    | none => true) = true) : ∀ pc i t, f pc = some (i, t) → am_dec bs nL pc i t := by
  intro pc i t hf
  by_cases hp : pc < sz
  · have h1 := List.all_eq_true.mp h pc (List.mem_range.mpr hp)
    rw [hf] at h1
    exact am_chk_ok h1
  · rw [hz pc (by omega)] at hf
    cases hf
def am_chkF (own : String) (idx ci k kd : Nat) : Bool := match vwCl[ci]? with
  | some (_, T, N) => Nat.blt k N && Nat.beq kd (am_kd (am_ft ci k)) && decide (Cond.fieldLink own idx (T k).1 (T k).2.1 (T k).2.2.1 ∈ lw_tbl)
  | none => false
theorem am_chkF_ok {own : String} {idx ci k kd : Nat} (h : am_chkF own idx ci k kd = true) : am_FL own idx ci k kd := by
  unfold am_chkF at h
  split at h
  · rename_i C T N hc
    simp only [Bool.and_eq_true, decide_eq_true_eq] at h
    exact ⟨C, T, N, hc, Nat.lt_of_lt_of_le (Nat.lt_succ_self _) (Nat.le_of_ble_eq_true h.1.1), Nat.eq_of_beq_eq_true h.1.2, am_in h.2 rfl⟩
  · cases h
theorem am_fld_ok {own : String} (sz : Nat) (f : Nat → Option (Nat × Nat × Nat)) (hz : ∀ i, sz ≤ i → f i = none) (h : (List.range sz).all (fun i => match f i with
    | some (ci, k, kd) => am_chkF own i ci k kd
    | none => true) = true) : ∀ idx ci k kd, f idx = some (ci, k, kd) → am_FL own idx ci k kd := by
  intro i ci k kd hf
  by_cases hp : i < sz
  · have h1 := List.all_eq_true.mp h i (List.mem_range.mpr hp)
    rw [hf] at h1
    exact am_chkF_ok h1
  · rw [hz i (by omega)] at hf
    cases hf
def am_chkP (y : MethodName) (ci k : Nat) : Bool := match vwCl[ci]? with
  | some (_, T, _) => !(T k).2.2.2 || (decide (y.name = "<init>") && decide ((T k).1 = y.cls))
  | none => false
theorem am_chkP_ok {y : MethodName} {ci k : Nat} (h : am_chkP y ci k = true) : am_PF y ci k := by
  unfold am_chkP at h
  split at h
  · rename_i C T N hc
    refine ⟨C, T, N, hc, ?_⟩
    cases hb : (T k).2.2.2 with
    | false => exact Or.inl rfl
    | true =>
      rw [hb] at h
      simp at h
      exact Or.inr ⟨rfl, h⟩
  · cases h
theorem am_put_ok {y : MethodName} (sz : Nat) (f : Nat → Option (Instr × Nat)) (g : Nat → Option (Nat × Nat × Nat)) (hz : ∀ pc, sz ≤ pc → f pc = none) (h : (List.range sz).all (fun pc => match f pc with
    | some (.putfield i, _) => (match g i with
      | some (ci, k, _) => am_chkP y ci k
      | none => true)
    | _ => true) = true) : ∀ pc idx t ci k kd, f pc = some (.putfield idx, t) → g idx = some (ci, k, kd) → am_PF y ci k := by
  intro pc idx t ci k kd hf hg
  by_cases hp : pc < sz
  · have h1 := List.all_eq_true.mp h pc (List.mem_range.mpr hp)
    rw [hf] at h1
    simp only [hg] at h1
    exact am_chkP_ok h1
  · rw [hz pc (by omega)] at hf
    cases hf
theorem am_lc_ok {own : String} (sz : Nat) (f : Nat → Option Int32) (hz : ∀ i, sz ≤ i → f i = none) (h : (List.range sz).all (fun i => match f i with
    | some v => decide (Cond.constant own i v ∈ lw_tbl)
    | none => true) = true) : ∀ idx v, f idx = some v → Cond.constant own idx v ∈ am_Ts := by
  intro i v hf
  by_cases hp : i < sz
  · have h1 := List.all_eq_true.mp h i (List.mem_range.mpr hp)
    rw [hf] at h1
    exact am_in (of_decide_eq_true h1) rfl
  · rw [hz i (by omega)] at hf
    cases hf
theorem am_ll_ok {own : String} (sz : Nat) (f : Nat → Option Int64) (hz : ∀ i, sz ≤ i → f i = none) (h : (List.range sz).all (fun i => match f i with
    | some v => decide (Cond.constantLong own i v ∈ lw_tbl)
    | none => true) = true) : ∀ idx v, f idx = some v → Cond.constantLong own idx v ∈ am_Ts := by
  intro i v hf
  by_cases hp : i < sz
  · have h1 := List.all_eq_true.mp h i (List.mem_range.mpr hp)
    rw [hf] at h1
    exact am_in (of_decide_eq_true h1) rfl
  · rw [hz i (by omega)] at hf
    cases hf
theorem am_bz {α : Type} {sz pc : Nat} {x : Option α} (h : sz ≤ pc) : (bif Nat.ble sz pc then none else x) = none := by
  rw [Nat.ble_eq_true_of_le h]; rfl
