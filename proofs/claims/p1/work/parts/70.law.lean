/-! ===== p1: the law ===== -/
def pJk : Nat → am_H → Nat → Nat → Prop
  | 0 => fun h c sl => h = hF ∧ c = 98 ∧ sl = 824412
  | _ + 1 => pJ
theorem p_all : po_all pJ hF 98 824412 := ⟨q_0, q_1, q_2, q_3, q_4, q_5, q_6, q_7, q_8, q_9, q_10, q_11, q_12, q_13, q_14, q_15, q_16, q_17, q_18, q_19, q_20, q_21, q_22, q_23, q_24, q_25, q_26, q_27, q_28, q_29, q_30, (fJ hF).2.2⟩
theorem law_holds (L : Nat) (xs : Nat → Int32) (hL : L ≤ 4) : LW L xs 0 [(0, .retAddr 0)] [] am_h0 0 0 := by
  refine law_start hL pJk ?_ ?_ ⟨rfl, rfl, rfl⟩
  · intro k h c sl hJ
    cases k with
    | zero => obtain ⟨rfl, rfl, rfl⟩ := hJ; exact ⟨Nat.le_of_ble_eq_true rfl, Nat.le_of_ble_eq_true rfl⟩
    | succ k => exact hJ
  · intro k hk
    have : k = 0 := by omega
    subst this
    refine po_ops ?_
    intro h c sl hJ
    obtain ⟨rfl, rfl, rfl⟩ := hJ
    exact ⟨hF_stat, p_all⟩
