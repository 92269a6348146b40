/-! ===== the tables' words that a callee may be given; what is said of the classes ===== -/
def am_Ts : List Cond := lw_tbl.filter goodWord
theorem am_in {w : Cond} (h : w ∈ lw_tbl) (g : goodWord w = true) : w ∈ am_Ts := List.mem_filter.mpr ⟨h, g⟩
theorem am_goodIn {ws : List Cond} (h : ∀ w ∈ ws, w ∈ am_Ts) : GoodIn am_Ts ws := fun w hw => ⟨h w hw, good_of_word (List.mem_filter.mp (h w hw)).2⟩
def am_cw (C : String) (T : u_T) (N : Nat) : List Cond := .instantiable C N :: .initialized C :: u_ws C T N
theorem am_inl (C : String) (T : u_T) (N : Nat) (h : ∀ w ∈ am_cw C T N, w ∈ lw_tbl) (g : ∀ w ∈ am_cw C T N, goodWord w = true) : (∀ w ∈ u_ws C T N, w ∈ am_Ts) ∧ Cond.instantiable C N ∈ am_Ts ∧ Cond.initialized C ∈ am_Ts :=
  ⟨fun w hw => am_in (h w (List.mem_cons_of_mem _ (List.mem_cons_of_mem _ hw))) (g w (List.mem_cons_of_mem _ (List.mem_cons_of_mem _ hw))), am_in (h _ List.mem_cons_self) (g _ List.mem_cons_self), am_in (h _ (List.mem_cons_of_mem _ List.mem_cons_self)) (g _ (List.mem_cons_of_mem _ List.mem_cons_self))⟩
theorem am_in0 : (∀ w ∈ u_ws RX0 TX0 4, w ∈ am_Ts) ∧ Cond.instantiable RX0 4 ∈ am_Ts ∧ Cond.initialized RX0 ∈ am_Ts := am_inl RX0 TX0 4 (by decide +kernel) (by decide +kernel)
theorem am_in1 : (∀ w ∈ u_ws RX1 TX1 11, w ∈ am_Ts) ∧ Cond.instantiable RX1 11 ∈ am_Ts ∧ Cond.initialized RX1 ∈ am_Ts := am_inl RX1 TX1 11 (by decide +kernel) (by decide +kernel)
theorem am_in2 : (∀ w ∈ u_ws RX2 TX2 7, w ∈ am_Ts) ∧ Cond.instantiable RX2 7 ∈ am_Ts ∧ Cond.initialized RX2 ∈ am_Ts := am_inl RX2 TX2 7 (by decide +kernel) (by decide +kernel)
theorem am_in3 : (∀ w ∈ u_ws RX3 TX3 3, w ∈ am_Ts) ∧ Cond.instantiable RX3 3 ∈ am_Ts ∧ Cond.initialized RX3 ∈ am_Ts := am_inl RX3 TX3 3 (by decide +kernel) (by decide +kernel)
theorem am_in4 : (∀ w ∈ u_ws RX4 TX4 2, w ∈ am_Ts) ∧ Cond.instantiable RX4 2 ∈ am_Ts ∧ Cond.initialized RX4 ∈ am_Ts := am_inl RX4 TX4 2 (by decide +kernel) (by decide +kernel)
theorem am_in5 : (∀ w ∈ u_ws RX5 TX5 12, w ∈ am_Ts) ∧ Cond.instantiable RX5 12 ∈ am_Ts ∧ Cond.initialized RX5 ∈ am_Ts := am_inl RX5 TX5 12 (by decide +kernel) (by decide +kernel)
theorem am_in6 : (∀ w ∈ u_ws RX6 TX6 15, w ∈ am_Ts) ∧ Cond.instantiable RX6 15 ∈ am_Ts ∧ Cond.initialized RX6 ∈ am_Ts := am_inl RX6 TX6 15 (by decide +kernel) (by decide +kernel)
theorem am_in7 : (∀ w ∈ u_ws RX7 TX7 10, w ∈ am_Ts) ∧ Cond.instantiable RX7 10 ∈ am_Ts ∧ Cond.initialized RX7 ∈ am_Ts := am_inl RX7 TX7 10 (by decide +kernel) (by decide +kernel)
theorem am_in8 : (∀ w ∈ u_ws RX8 TX8 18, w ∈ am_Ts) ∧ Cond.instantiable RX8 18 ∈ am_Ts ∧ Cond.initialized RX8 ∈ am_Ts := am_inl RX8 TX8 18 (by decide +kernel) (by decide +kernel)
theorem am_in9 : (∀ w ∈ u_ws RX9 TX9 58, w ∈ am_Ts) ∧ Cond.instantiable RX9 58 ∈ am_Ts ∧ Cond.initialized RX9 ∈ am_Ts := am_inl RX9 TX9 58 (by decide +kernel) (by decide +kernel)
theorem am_cls {ci N : Nat} {C : String} {T : u_T} (h : vwCl[ci]? = some (C, T, N)) : ((∀ w ∈ u_ws C T N, w ∈ am_Ts) ∧ Cond.instantiable C N ∈ am_Ts ∧ Cond.initialized C ∈ am_Ts) ∧ (∀ k, k < N → parseFieldDescriptor (T k).2.2.1 = some (am_ft ci k)) ∧ (∀ a, a < N → ∀ b, b < N → a ≠ b → (T a).2.1 ≠ (T b).2.1) ∧ am_nf ci = N := by
  match ci, h with
  | 0, h => cases h; exact ⟨am_in0, tyX0_ok, nmX0, rfl⟩
  | 1, h => cases h; exact ⟨am_in1, tyX1_ok, nmX1, rfl⟩
  | 2, h => cases h; exact ⟨am_in2, tyX2_ok, nmX2, rfl⟩
  | 3, h => cases h; exact ⟨am_in3, tyX3_ok, nmX3, rfl⟩
  | 4, h => cases h; exact ⟨am_in4, tyX4_ok, nmX4, rfl⟩
  | 5, h => cases h; exact ⟨am_in5, tyX5_ok, nmX5, rfl⟩
  | 6, h => cases h; exact ⟨am_in6, tyX6_ok, nmX6, rfl⟩
  | 7, h => cases h; exact ⟨am_in7, tyX7_ok, nmX7, rfl⟩
  | 8, h => cases h; exact ⟨am_in8, tyX8_ok, nmX8, rfl⟩
  | 9, h => cases h; exact ⟨am_in9, tyX9_ok, nmX9, rfl⟩
  | n + 10, h => simp at h
