/-! ===== the law, call by call (by program) ===== -/
/-- two methods, one behind the other, answer alike: what J holds before, J' holds behind them -/
def am_pair (mX mY : am_M) (av : List Value) (J J' : am_H → Nat → Nat → Prop) : Prop := ∀ h c sl, J h c sl → ∃ (R1 : Room) (Q1 : Option Value → am_H → Prop), AMet mX R1 Q1 (.ref 0 :: av) h ∧ am_K h 0 = .inl 8 ∧ am_rm mX R1 room_1 ∧ (c + R1.cells ≤ room_1.cells ∧ sl + R1.slots ≤ room_1.slots) ∧ ∀ r h1, Q1 r h1 → ∃ v : Int32, r = some (.int v) ∧ ∃ (R2 : Room) (Q2 : Option Value → am_H → Prop), AMet mY R2 Q2 (.ref 51 :: av) h1 ∧ am_K h1 51 = .inl 9 ∧ am_rm mY R2 room_1 ∧ (c + R1.cells + R2.cells ≤ room_1.cells ∧ sl + R1.slots + R2.slots ≤ room_1.slots) ∧ ∀ r2 h2, Q2 r2 h2 → r2 = some (.int v) ∧ J' h2 (c + R1.cells + R2.cells) (sl + R1.slots + R2.slots)
def am_pairL (mX mY : am_M) (av : List Value) (J J' : am_H → Nat → Nat → Prop) : Prop := ∀ h c sl, J h c sl → ∃ (R1 : Room) (Q1 : Option Value → am_H → Prop), AMet mX R1 Q1 (.ref 0 :: av) h ∧ am_K h 0 = .inl 8 ∧ am_rm mX R1 room_1 ∧ (c + R1.cells ≤ room_1.cells ∧ sl + R1.slots ≤ room_1.slots) ∧ ∀ r h1, Q1 r h1 → ∃ v : Int64, r = some (.long v) ∧ ∃ (R2 : Room) (Q2 : Option Value → am_H → Prop), AMet mY R2 Q2 (.ref 51 :: av) h1 ∧ am_K h1 51 = .inl 9 ∧ am_rm mY R2 room_1 ∧ (c + R1.cells + R2.cells ≤ room_1.cells ∧ sl + R1.slots + R2.slots ≤ room_1.slots) ∧ ∀ r2 h2, Q2 r2 h2 → r2 = some (.long v) ∧ J' h2 (c + R1.cells + R2.cells) (sl + R1.slots + R2.slots)
set_option maxRecDepth 100000 in
theorem lwc_0 {L : Nat} {xs : Nat → Int32} {iv : Int32} {h : am_H} {c sl : Nat} {J J' : am_H → Nat → Nat → Prop} (hi : ∀ j : Int, (1 ≤ j ∧ j ≤ 3) → vp_in (iv + Int32.ofInt j) L) (hp : ∀ w : Int64, am_pair mX8_letters mX9_letters [.long w] J J') (hJ : J h c sl) (kk : ∀ h2 c2 sl2, J' h2 c2 sl2 → LW L xs 1016 [(3, .int iv), (2, .ref 51), (1, .ref 0), (0, .retAddr 0)] [] h2 c2 sl2) : LW L xs 172 [(3, .int iv), (2, .ref 51), (1, .ref 0), (0, .retAddr 0)] [] h c sl := by
  obtain ⟨R1, Q1, hM1, hK1, hrm1, hf1, kk1⟩ := hp (((xs (iv + Int32.ofInt 1).toNatClampNeg).toInt64 <<< ((Int32.ofInt 32).toInt64 &&& 63)) ||| ((xs (iv + Int32.ofInt 2).toNatClampNeg).toInt64 &&& 4294967295)) h c sl hJ
  refine LW_go 18 ?_
  refine And.intro (hi 1 (by decide)) ?_
  refine And.intro (hi 2 (by decide)) ?_
  refine LW_callV (As := [.long (((xs (iv + Int32.ofInt 1).toNatClampNeg).toInt64 <<< ((Int32.ofInt 32).toInt64 &&& 63)) ||| ((xs (iv + Int32.ofInt 2).toNatClampNeg).toInt64 &&& 4294967295))]) (T := TX8) (N := 18) (ci := 8) (okL_law.1 193 _ _ rfl) lkX8_letters kL_15 rfl hK1 rfl (Nat.le_of_ble_eq_true rfl) hrm1 hf1 (Nat.le_of_ble_eq_true rfl) hM1 (fun r h1 hq => ?_)
  obtain ⟨v, rfl, R2, Q2, hM2, hK2, hrm2, hf2, kk2⟩ := kk1 r h1 hq
  refine LW_go 18 ?_
  refine And.intro (hi 1 (by decide)) ?_
  refine And.intro (hi 2 (by decide)) ?_
  refine LW_callV (As := [.long (((xs (iv + Int32.ofInt 1).toNatClampNeg).toInt64 <<< ((Int32.ofInt 32).toInt64 &&& 63)) ||| ((xs (iv + Int32.ofInt 2).toNatClampNeg).toInt64 &&& 4294967295))]) (T := TX9) (N := 58) (ci := 9) (okL_law.1 217 _ _ rfl) lkX9_letters kL_19 rfl hK2 rfl (Nat.le_of_ble_eq_true rfl) hrm2 hf2 (Nat.le_of_ble_eq_true rfl) hM2 (fun r2 h2 hq2 => ?_)
  obtain ⟨rfl, hJ2⟩ := kk2 r2 h2 hq2
  refine LW_go 1 ?_
  refine And.intro (fun _ => kk _ _ _ hJ2) (fun hne => absurd rfl hne)
set_option maxRecDepth 100000 in
theorem lwc_1 {L : Nat} {xs : Nat → Int32} {iv : Int32} {h : am_H} {c sl : Nat} {J J' : am_H → Nat → Nat → Prop} (hi : ∀ j : Int, (1 ≤ j ∧ j ≤ 3) → vp_in (iv + Int32.ofInt j) L) (hp : am_pair mX8_blank mX9_blank [] J J') (hJ : J h c sl) (kk : ∀ h2 c2 sl2, J' h2 c2 sl2 → LW L xs 1016 [(3, .int iv), (2, .ref 51), (1, .ref 0), (0, .retAddr 0)] [] h2 c2 sl2) : LW L xs 225 [(3, .int iv), (2, .ref 51), (1, .ref 0), (0, .retAddr 0)] [] h c sl := by
  obtain ⟨R1, Q1, hM1, hK1, hrm1, hf1, kk1⟩ := hp h c sl hJ
  refine LW_go 1 ?_
  refine LW_callV (As := []) (T := TX8) (N := 18) (ci := 8) (okL_law.1 226 _ _ rfl) lkX8_blank kL_20 rfl hK1 rfl (Nat.le_of_ble_eq_true rfl) hrm1 hf1 (Nat.le_of_ble_eq_true rfl) hM1 (fun r h1 hq => ?_)
  obtain ⟨v, rfl, R2, Q2, hM2, hK2, hrm2, hf2, kk2⟩ := kk1 r h1 hq
  refine LW_go 1 ?_
  refine LW_callV (As := []) (T := TX9) (N := 58) (ci := 9) (okL_law.1 230 _ _ rfl) lkX9_blank kL_24 rfl hK2 rfl (Nat.le_of_ble_eq_true rfl) hrm2 hf2 (Nat.le_of_ble_eq_true rfl) hM2 (fun r2 h2 hq2 => ?_)
  obtain ⟨rfl, hJ2⟩ := kk2 r2 h2 hq2
  refine LW_go 1 ?_
  refine And.intro (fun _ => kk _ _ _ hJ2) (fun hne => absurd rfl hne)
set_option maxRecDepth 100000 in
theorem lwc_2 {L : Nat} {xs : Nat → Int32} {iv : Int32} {h : am_H} {c sl : Nat} {J J' : am_H → Nat → Nat → Prop} (hi : ∀ j : Int, (1 ≤ j ∧ j ≤ 3) → vp_in (iv + Int32.ofInt j) L) (hp : ∀ a1 : Int32, am_pair mX8_fault mX9_fault [.int a1] J J') (hJ : J h c sl) (kk : ∀ h2 c2 sl2, J' h2 c2 sl2 → LW L xs 1016 [(3, .int iv), (2, .ref 51), (1, .ref 0), (0, .retAddr 0)] [] h2 c2 sl2) : LW L xs 238 [(3, .int iv), (2, .ref 51), (1, .ref 0), (0, .retAddr 0)] [] h c sl := by
  obtain ⟨R1, Q1, hM1, hK1, hrm1, hf1, kk1⟩ := hp (xs (iv + Int32.ofInt 1).toNatClampNeg) h c sl hJ
  refine LW_go 6 ?_
  refine And.intro (hi 1 (by decide)) ?_
  refine LW_callV (As := [.int (xs (iv + Int32.ofInt 1).toNatClampNeg)]) (T := TX8) (N := 18) (ci := 8) (okL_law.1 244 _ _ rfl) lkX8_fault kL_25 rfl hK1 rfl (Nat.le_of_ble_eq_true rfl) hrm1 hf1 (Nat.le_of_ble_eq_true rfl) hM1 (fun r h1 hq => ?_)
  obtain ⟨v, rfl, R2, Q2, hM2, hK2, hrm2, hf2, kk2⟩ := kk1 r h1 hq
  refine LW_go 6 ?_
  refine And.intro (hi 1 (by decide)) ?_
  refine LW_callV (As := [.int (xs (iv + Int32.ofInt 1).toNatClampNeg)]) (T := TX9) (N := 58) (ci := 9) (okL_law.1 253 _ _ rfl) lkX9_fault kL_29 rfl hK2 rfl (Nat.le_of_ble_eq_true rfl) hrm2 hf2 (Nat.le_of_ble_eq_true rfl) hM2 (fun r2 h2 hq2 => ?_)
  obtain ⟨rfl, hJ2⟩ := kk2 r2 h2 hq2
  refine LW_go 1 ?_
  refine And.intro (fun _ => kk _ _ _ hJ2) (fun hne => absurd rfl hne)
set_option maxRecDepth 100000 in
theorem lwc_3 {L : Nat} {xs : Nat → Int32} {iv : Int32} {h : am_H} {c sl : Nat} {J J' : am_H → Nat → Nat → Prop} (hi : ∀ j : Int, (1 ≤ j ∧ j ≤ 3) → vp_in (iv + Int32.ofInt j) L) (hp : am_pair mX8_book mX9_book [] J J') (hJ : J h c sl) (kk : ∀ h2 c2 sl2, J' h2 c2 sl2 → LW L xs 1016 [(3, .int iv), (2, .ref 51), (1, .ref 0), (0, .retAddr 0)] [] h2 c2 sl2) : LW L xs 261 [(3, .int iv), (2, .ref 51), (1, .ref 0), (0, .retAddr 0)] [] h c sl := by
  obtain ⟨R1, Q1, hM1, hK1, hrm1, hf1, kk1⟩ := hp h c sl hJ
  refine LW_go 1 ?_
  refine LW_callV (As := []) (T := TX8) (N := 18) (ci := 8) (okL_law.1 262 _ _ rfl) lkX8_book kL_30 rfl hK1 rfl (Nat.le_of_ble_eq_true rfl) hrm1 hf1 (Nat.le_of_ble_eq_true rfl) hM1 (fun r h1 hq => ?_)
  obtain ⟨v, rfl, R2, Q2, hM2, hK2, hrm2, hf2, kk2⟩ := kk1 r h1 hq
  refine LW_go 1 ?_
  refine LW_callV (As := []) (T := TX9) (N := 58) (ci := 9) (okL_law.1 266 _ _ rfl) lkX9_book kL_33 rfl hK2 rfl (Nat.le_of_ble_eq_true rfl) hrm2 hf2 (Nat.le_of_ble_eq_true rfl) hM2 (fun r2 h2 hq2 => ?_)
  obtain ⟨rfl, hJ2⟩ := kk2 r2 h2 hq2
  refine LW_go 1 ?_
  refine And.intro (fun _ => kk _ _ _ hJ2) (fun hne => absurd rfl hne)
set_option maxRecDepth 100000 in
theorem lwc_4 {L : Nat} {xs : Nat → Int32} {iv : Int32} {h : am_H} {c sl : Nat} {J J' : am_H → Nat → Nat → Prop} (hi : ∀ j : Int, (1 ≤ j ∧ j ≤ 3) → vp_in (iv + Int32.ofInt j) L) (hp : am_pair mX8_one mX9_one [] J J') (hJ : J h c sl) (kk : ∀ h2 c2 sl2, J' h2 c2 sl2 → LW L xs 1016 [(3, .int iv), (2, .ref 51), (1, .ref 0), (0, .retAddr 0)] [] h2 c2 sl2) : LW L xs 274 [(3, .int iv), (2, .ref 51), (1, .ref 0), (0, .retAddr 0)] [] h c sl := by
  obtain ⟨R1, Q1, hM1, hK1, hrm1, hf1, kk1⟩ := hp h c sl hJ
  refine LW_go 1 ?_
  refine LW_callV (As := []) (T := TX8) (N := 18) (ci := 8) (okL_law.1 275 _ _ rfl) lkX8_one kL_34 rfl hK1 rfl (Nat.le_of_ble_eq_true rfl) hrm1 hf1 (Nat.le_of_ble_eq_true rfl) hM1 (fun r h1 hq => ?_)
  obtain ⟨v, rfl, R2, Q2, hM2, hK2, hrm2, hf2, kk2⟩ := kk1 r h1 hq
  refine LW_go 1 ?_
  refine LW_callV (As := []) (T := TX9) (N := 58) (ci := 9) (okL_law.1 279 _ _ rfl) lkX9_one kL_37 rfl hK2 rfl (Nat.le_of_ble_eq_true rfl) hrm2 hf2 (Nat.le_of_ble_eq_true rfl) hM2 (fun r2 h2 hq2 => ?_)
  obtain ⟨rfl, hJ2⟩ := kk2 r2 h2 hq2
  refine LW_go 1 ?_
  refine And.intro (fun _ => kk _ _ _ hJ2) (fun hne => absurd rfl hne)
set_option maxRecDepth 100000 in
theorem lwc_5 {L : Nat} {xs : Nat → Int32} {iv : Int32} {h : am_H} {c sl : Nat} {J J' : am_H → Nat → Nat → Prop} (hi : ∀ j : Int, (1 ≤ j ∧ j ≤ 3) → vp_in (iv + Int32.ofInt j) L) (hp : ∀ a1 a2 : Int32, am_pair mX8_own mX9_own [.int a1, .int a2] J J') (hJ : J h c sl) (kk : ∀ h2 c2 sl2, J' h2 c2 sl2 → LW L xs 1016 [(3, .int iv), (2, .ref 51), (1, .ref 0), (0, .retAddr 0)] [] h2 c2 sl2) : LW L xs 287 [(3, .int iv), (2, .ref 51), (1, .ref 0), (0, .retAddr 0)] [] h c sl := by
  obtain ⟨R1, Q1, hM1, hK1, hrm1, hf1, kk1⟩ := hp (xs (iv + Int32.ofInt 1).toNatClampNeg) (xs (iv + Int32.ofInt 2).toNatClampNeg) h c sl hJ
  refine LW_go 11 ?_
  refine And.intro (hi 1 (by decide)) ?_
  refine And.intro (hi 2 (by decide)) ?_
  refine LW_callV (As := [.int (xs (iv + Int32.ofInt 1).toNatClampNeg), .int (xs (iv + Int32.ofInt 2).toNatClampNeg)]) (T := TX8) (N := 18) (ci := 8) (okL_law.1 298 _ _ rfl) lkX8_own kL_38 rfl hK1 rfl (Nat.le_of_ble_eq_true rfl) hrm1 hf1 (Nat.le_of_ble_eq_true rfl) hM1 (fun r h1 hq => ?_)
  obtain ⟨v, rfl, R2, Q2, hM2, hK2, hrm2, hf2, kk2⟩ := kk1 r h1 hq
  refine LW_go 11 ?_
  refine And.intro (hi 1 (by decide)) ?_
  refine And.intro (hi 2 (by decide)) ?_
  refine LW_callV (As := [.int (xs (iv + Int32.ofInt 1).toNatClampNeg), .int (xs (iv + Int32.ofInt 2).toNatClampNeg)]) (T := TX9) (N := 58) (ci := 9) (okL_law.1 312 _ _ rfl) lkX9_own kL_42 rfl hK2 rfl (Nat.le_of_ble_eq_true rfl) hrm2 hf2 (Nat.le_of_ble_eq_true rfl) hM2 (fun r2 h2 hq2 => ?_)
  obtain ⟨rfl, hJ2⟩ := kk2 r2 h2 hq2
  refine LW_go 1 ?_
  refine And.intro (fun _ => kk _ _ _ hJ2) (fun hne => absurd rfl hne)
set_option maxRecDepth 100000 in
theorem lwc_6 {L : Nat} {xs : Nat → Int32} {iv : Int32} {h : am_H} {c sl : Nat} {J J' : am_H → Nat → Nat → Prop} (hi : ∀ j : Int, (1 ≤ j ∧ j ≤ 3) → vp_in (iv + Int32.ofInt j) L) (hp : ∀ a1 : Int32, am_pair mX8_twin mX9_twin [.int a1] J J') (hJ : J h c sl) (kk : ∀ h2 c2 sl2, J' h2 c2 sl2 → LW L xs 1016 [(3, .int iv), (2, .ref 51), (1, .ref 0), (0, .retAddr 0)] [] h2 c2 sl2) : LW L xs 320 [(3, .int iv), (2, .ref 51), (1, .ref 0), (0, .retAddr 0)] [] h c sl := by
  obtain ⟨R1, Q1, hM1, hK1, hrm1, hf1, kk1⟩ := hp (xs (iv + Int32.ofInt 1).toNatClampNeg) h c sl hJ
  refine LW_go 6 ?_
  refine And.intro (hi 1 (by decide)) ?_
  refine LW_callV (As := [.int (xs (iv + Int32.ofInt 1).toNatClampNeg)]) (T := TX8) (N := 18) (ci := 8) (okL_law.1 326 _ _ rfl) lkX8_twin kL_43 rfl hK1 rfl (Nat.le_of_ble_eq_true rfl) hrm1 hf1 (Nat.le_of_ble_eq_true rfl) hM1 (fun r h1 hq => ?_)
  obtain ⟨v, rfl, R2, Q2, hM2, hK2, hrm2, hf2, kk2⟩ := kk1 r h1 hq
  refine LW_go 6 ?_
  refine And.intro (hi 1 (by decide)) ?_
  refine LW_callV (As := [.int (xs (iv + Int32.ofInt 1).toNatClampNeg)]) (T := TX9) (N := 58) (ci := 9) (okL_law.1 335 _ _ rfl) lkX9_twin kL_46 rfl hK2 rfl (Nat.le_of_ble_eq_true rfl) hrm2 hf2 (Nat.le_of_ble_eq_true rfl) hM2 (fun r2 h2 hq2 => ?_)
  obtain ⟨rfl, hJ2⟩ := kk2 r2 h2 hq2
  refine LW_go 1 ?_
  refine And.intro (fun _ => kk _ _ _ hJ2) (fun hne => absurd rfl hne)
set_option maxRecDepth 100000 in
theorem lwc_7 {L : Nat} {xs : Nat → Int32} {iv : Int32} {h : am_H} {c sl : Nat} {J J' : am_H → Nat → Nat → Prop} (hi : ∀ j : Int, (1 ≤ j ∧ j ≤ 3) → vp_in (iv + Int32.ofInt j) L) (hp : ∀ a1 a2 : Int32, am_pair mX8_about mX9_about [.int a1, .int a2] J J') (hJ : J h c sl) (kk : ∀ h2 c2 sl2, J' h2 c2 sl2 → LW L xs 1016 [(3, .int iv), (2, .ref 51), (1, .ref 0), (0, .retAddr 0)] [] h2 c2 sl2) : LW L xs 343 [(3, .int iv), (2, .ref 51), (1, .ref 0), (0, .retAddr 0)] [] h c sl := by
  obtain ⟨R1, Q1, hM1, hK1, hrm1, hf1, kk1⟩ := hp (xs (iv + Int32.ofInt 1).toNatClampNeg) (xs (iv + Int32.ofInt 2).toNatClampNeg) h c sl hJ
  refine LW_go 11 ?_
  refine And.intro (hi 1 (by decide)) ?_
  refine And.intro (hi 2 (by decide)) ?_
  refine LW_callV (As := [.int (xs (iv + Int32.ofInt 1).toNatClampNeg), .int (xs (iv + Int32.ofInt 2).toNatClampNeg)]) (T := TX8) (N := 18) (ci := 8) (okL_law.1 354 _ _ rfl) lkX8_about kL_47 rfl hK1 rfl (Nat.le_of_ble_eq_true rfl) hrm1 hf1 (Nat.le_of_ble_eq_true rfl) hM1 (fun r h1 hq => ?_)
  obtain ⟨v, rfl, R2, Q2, hM2, hK2, hrm2, hf2, kk2⟩ := kk1 r h1 hq
  refine LW_go 11 ?_
  refine And.intro (hi 1 (by decide)) ?_
  refine And.intro (hi 2 (by decide)) ?_
  refine LW_callV (As := [.int (xs (iv + Int32.ofInt 1).toNatClampNeg), .int (xs (iv + Int32.ofInt 2).toNatClampNeg)]) (T := TX9) (N := 58) (ci := 9) (okL_law.1 368 _ _ rfl) lkX9_about kL_50 rfl hK2 rfl (Nat.le_of_ble_eq_true rfl) hrm2 hf2 (Nat.le_of_ble_eq_true rfl) hM2 (fun r2 h2 hq2 => ?_)
  obtain ⟨rfl, hJ2⟩ := kk2 r2 h2 hq2
  refine LW_go 1 ?_
  refine And.intro (fun _ => kk _ _ _ hJ2) (fun hne => absurd rfl hne)
set_option maxRecDepth 100000 in
theorem lwc_8 {L : Nat} {xs : Nat → Int32} {iv : Int32} {h : am_H} {c sl : Nat} {J J' : am_H → Nat → Nat → Prop} (hi : ∀ j : Int, (1 ≤ j ∧ j ≤ 3) → vp_in (iv + Int32.ofInt j) L) (hp : ∀ a1 a2 : Int32, am_pair mX8_act mX9_act [.int a1, .int a2] J J') (hJ : J h c sl) (kk : ∀ h2 c2 sl2, J' h2 c2 sl2 → LW L xs 1016 [(3, .int iv), (2, .ref 51), (1, .ref 0), (0, .retAddr 0)] [] h2 c2 sl2) : LW L xs 376 [(3, .int iv), (2, .ref 51), (1, .ref 0), (0, .retAddr 0)] [] h c sl := by
  obtain ⟨R1, Q1, hM1, hK1, hrm1, hf1, kk1⟩ := hp (xs (iv + Int32.ofInt 1).toNatClampNeg) (xs (iv + Int32.ofInt 2).toNatClampNeg) h c sl hJ
  refine LW_go 11 ?_
  refine And.intro (hi 1 (by decide)) ?_
  refine And.intro (hi 2 (by decide)) ?_
  refine LW_callV (As := [.int (xs (iv + Int32.ofInt 1).toNatClampNeg), .int (xs (iv + Int32.ofInt 2).toNatClampNeg)]) (T := TX8) (N := 18) (ci := 8) (okL_law.1 387 _ _ rfl) lkX8_act kL_51 rfl hK1 rfl (Nat.le_of_ble_eq_true rfl) hrm1 hf1 (Nat.le_of_ble_eq_true rfl) hM1 (fun r h1 hq => ?_)
  obtain ⟨v, rfl, R2, Q2, hM2, hK2, hrm2, hf2, kk2⟩ := kk1 r h1 hq
  refine LW_go 11 ?_
  refine And.intro (hi 1 (by decide)) ?_
  refine And.intro (hi 2 (by decide)) ?_
  refine LW_callV (As := [.int (xs (iv + Int32.ofInt 1).toNatClampNeg), .int (xs (iv + Int32.ofInt 2).toNatClampNeg)]) (T := TX9) (N := 58) (ci := 9) (okL_law.1 401 _ _ rfl) lkX9_act kL_54 rfl hK2 rfl (Nat.le_of_ble_eq_true rfl) hrm2 hf2 (Nat.le_of_ble_eq_true rfl) hM2 (fun r2 h2 hq2 => ?_)
  obtain ⟨rfl, hJ2⟩ := kk2 r2 h2 hq2
  refine LW_go 1 ?_
  refine And.intro (fun _ => kk _ _ _ hJ2) (fun hne => absurd rfl hne)
set_option maxRecDepth 100000 in
theorem lwc_9 {L : Nat} {xs : Nat → Int32} {iv : Int32} {h : am_H} {c sl : Nat} {J J' : am_H → Nat → Nat → Prop} (hi : ∀ j : Int, (1 ≤ j ∧ j ≤ 3) → vp_in (iv + Int32.ofInt j) L) (hp : ∀ a1 a2 : Int32, am_pair mX8_follow mX9_follow [.int a1, .int a2] J J') (hJ : J h c sl) (kk : ∀ h2 c2 sl2, J' h2 c2 sl2 → LW L xs 1016 [(3, .int iv), (2, .ref 51), (1, .ref 0), (0, .retAddr 0)] [] h2 c2 sl2) : LW L xs 409 [(3, .int iv), (2, .ref 51), (1, .ref 0), (0, .retAddr 0)] [] h c sl := by
  obtain ⟨R1, Q1, hM1, hK1, hrm1, hf1, kk1⟩ := hp (xs (iv + Int32.ofInt 1).toNatClampNeg) (xs (iv + Int32.ofInt 2).toNatClampNeg) h c sl hJ
  refine LW_go 11 ?_
  refine And.intro (hi 1 (by decide)) ?_
  refine And.intro (hi 2 (by decide)) ?_
  refine LW_callV (As := [.int (xs (iv + Int32.ofInt 1).toNatClampNeg), .int (xs (iv + Int32.ofInt 2).toNatClampNeg)]) (T := TX8) (N := 18) (ci := 8) (okL_law.1 420 _ _ rfl) lkX8_follow kL_55 rfl hK1 rfl (Nat.le_of_ble_eq_true rfl) hrm1 hf1 (Nat.le_of_ble_eq_true rfl) hM1 (fun r h1 hq => ?_)
  obtain ⟨v, rfl, R2, Q2, hM2, hK2, hrm2, hf2, kk2⟩ := kk1 r h1 hq
  refine LW_go 11 ?_
  refine And.intro (hi 1 (by decide)) ?_
  refine And.intro (hi 2 (by decide)) ?_
  refine LW_callV (As := [.int (xs (iv + Int32.ofInt 1).toNatClampNeg), .int (xs (iv + Int32.ofInt 2).toNatClampNeg)]) (T := TX9) (N := 58) (ci := 9) (okL_law.1 434 _ _ rfl) lkX9_follow kL_58 rfl hK2 rfl (Nat.le_of_ble_eq_true rfl) hrm2 hf2 (Nat.le_of_ble_eq_true rfl) hM2 (fun r2 h2 hq2 => ?_)
  obtain ⟨rfl, hJ2⟩ := kk2 r2 h2 hq2
  refine LW_go 1 ?_
  refine And.intro (fun _ => kk _ _ _ hJ2) (fun hne => absurd rfl hne)
set_option maxRecDepth 100000 in
theorem lwc_10 {L : Nat} {xs : Nat → Int32} {iv : Int32} {h : am_H} {c sl : Nat} {J J' : am_H → Nat → Nat → Prop} (hi : ∀ j : Int, (1 ≤ j ∧ j ≤ 3) → vp_in (iv + Int32.ofInt j) L) (hp : ∀ a1 a2 : Int32, am_pair mX8_same mX9_same [.int a1, .int a2] J J') (hJ : J h c sl) (kk : ∀ h2 c2 sl2, J' h2 c2 sl2 → LW L xs 1016 [(3, .int iv), (2, .ref 51), (1, .ref 0), (0, .retAddr 0)] [] h2 c2 sl2) : LW L xs 442 [(3, .int iv), (2, .ref 51), (1, .ref 0), (0, .retAddr 0)] [] h c sl := by
  obtain ⟨R1, Q1, hM1, hK1, hrm1, hf1, kk1⟩ := hp (xs (iv + Int32.ofInt 1).toNatClampNeg) (xs (iv + Int32.ofInt 2).toNatClampNeg) h c sl hJ
  refine LW_go 11 ?_
  refine And.intro (hi 1 (by decide)) ?_
  refine And.intro (hi 2 (by decide)) ?_
  refine LW_callV (As := [.int (xs (iv + Int32.ofInt 1).toNatClampNeg), .int (xs (iv + Int32.ofInt 2).toNatClampNeg)]) (T := TX8) (N := 18) (ci := 8) (okL_law.1 453 _ _ rfl) lkX8_same kL_59 rfl hK1 rfl (Nat.le_of_ble_eq_true rfl) hrm1 hf1 (Nat.le_of_ble_eq_true rfl) hM1 (fun r h1 hq => ?_)
  obtain ⟨v, rfl, R2, Q2, hM2, hK2, hrm2, hf2, kk2⟩ := kk1 r h1 hq
  refine LW_go 11 ?_
  refine And.intro (hi 1 (by decide)) ?_
  refine And.intro (hi 2 (by decide)) ?_
  refine LW_callV (As := [.int (xs (iv + Int32.ofInt 1).toNatClampNeg), .int (xs (iv + Int32.ofInt 2).toNatClampNeg)]) (T := TX9) (N := 58) (ci := 9) (okL_law.1 467 _ _ rfl) lkX9_same kL_62 rfl hK2 rfl (Nat.le_of_ble_eq_true rfl) hrm2 hf2 (Nat.le_of_ble_eq_true rfl) hM2 (fun r2 h2 hq2 => ?_)
  obtain ⟨rfl, hJ2⟩ := kk2 r2 h2 hq2
  refine LW_go 1 ?_
  refine And.intro (fun _ => kk _ _ _ hJ2) (fun hne => absurd rfl hne)
set_option maxRecDepth 100000 in
theorem lwc_11 {L : Nat} {xs : Nat → Int32} {iv : Int32} {h : am_H} {c sl : Nat} {J J' : am_H → Nat → Nat → Prop} (hi : ∀ j : Int, (1 ≤ j ∧ j ≤ 3) → vp_in (iv + Int32.ofInt j) L) (hp : ∀ a1 a2 a3 : Int32, am_pair mX8_apart mX9_apart [.int a1, .int a2, .int a3] J J') (hJ : J h c sl) (kk : ∀ h2 c2 sl2, J' h2 c2 sl2 → LW L xs 1016 [(3, .int iv), (2, .ref 51), (1, .ref 0), (0, .retAddr 0)] [] h2 c2 sl2) : LW L xs 475 [(3, .int iv), (2, .ref 51), (1, .ref 0), (0, .retAddr 0)] [] h c sl := by
  obtain ⟨R1, Q1, hM1, hK1, hrm1, hf1, kk1⟩ := hp (xs (iv + Int32.ofInt 1).toNatClampNeg) (xs (iv + Int32.ofInt 2).toNatClampNeg) (xs (iv + Int32.ofInt 3).toNatClampNeg) h c sl hJ
  refine LW_go 16 ?_
  refine And.intro (hi 1 (by decide)) ?_
  refine And.intro (hi 2 (by decide)) ?_
  refine And.intro (hi 3 (by decide)) ?_
  refine LW_callV (As := [.int (xs (iv + Int32.ofInt 1).toNatClampNeg), .int (xs (iv + Int32.ofInt 2).toNatClampNeg), .int (xs (iv + Int32.ofInt 3).toNatClampNeg)]) (T := TX8) (N := 18) (ci := 8) (okL_law.1 491 _ _ rfl) lkX8_apart kL_63 rfl hK1 rfl (Nat.le_of_ble_eq_true rfl) hrm1 hf1 (Nat.le_of_ble_eq_true rfl) hM1 (fun r h1 hq => ?_)
  obtain ⟨v, rfl, R2, Q2, hM2, hK2, hrm2, hf2, kk2⟩ := kk1 r h1 hq
  refine LW_go 16 ?_
  refine And.intro (hi 1 (by decide)) ?_
  refine And.intro (hi 2 (by decide)) ?_
  refine And.intro (hi 3 (by decide)) ?_
  refine LW_callV (As := [.int (xs (iv + Int32.ofInt 1).toNatClampNeg), .int (xs (iv + Int32.ofInt 2).toNatClampNeg), .int (xs (iv + Int32.ofInt 3).toNatClampNeg)]) (T := TX9) (N := 58) (ci := 9) (okL_law.1 510 _ _ rfl) lkX9_apart kL_67 rfl hK2 rfl (Nat.le_of_ble_eq_true rfl) hrm2 hf2 (Nat.le_of_ble_eq_true rfl) hM2 (fun r2 h2 hq2 => ?_)
  obtain ⟨rfl, hJ2⟩ := kk2 r2 h2 hq2
  refine LW_go 1 ?_
  refine And.intro (fun _ => kk _ _ _ hJ2) (fun hne => absurd rfl hne)
set_option maxRecDepth 100000 in
theorem lwc_12 {L : Nat} {xs : Nat → Int32} {iv : Int32} {h : am_H} {c sl : Nat} {J J' : am_H → Nat → Nat → Prop} (hi : ∀ j : Int, (1 ≤ j ∧ j ≤ 3) → vp_in (iv + Int32.ofInt j) L) (hp : ∀ a1 : Int32, am_pair mX8_watch mX9_watch [.int a1] J J') (hJ : J h c sl) (kk : ∀ h2 c2 sl2, J' h2 c2 sl2 → LW L xs 1016 [(3, .int iv), (2, .ref 51), (1, .ref 0), (0, .retAddr 0)] [] h2 c2 sl2) : LW L xs 518 [(3, .int iv), (2, .ref 51), (1, .ref 0), (0, .retAddr 0)] [] h c sl := by
  obtain ⟨R1, Q1, hM1, hK1, hrm1, hf1, kk1⟩ := hp (xs (iv + Int32.ofInt 1).toNatClampNeg) h c sl hJ
  refine LW_go 6 ?_
  refine And.intro (hi 1 (by decide)) ?_
  refine LW_callV (As := [.int (xs (iv + Int32.ofInt 1).toNatClampNeg)]) (T := TX8) (N := 18) (ci := 8) (okL_law.1 524 _ _ rfl) lkX8_watch kL_68 rfl hK1 rfl (Nat.le_of_ble_eq_true rfl) hrm1 hf1 (Nat.le_of_ble_eq_true rfl) hM1 (fun r h1 hq => ?_)
  obtain ⟨v, rfl, R2, Q2, hM2, hK2, hrm2, hf2, kk2⟩ := kk1 r h1 hq
  refine LW_go 6 ?_
  refine And.intro (hi 1 (by decide)) ?_
  refine LW_callV (As := [.int (xs (iv + Int32.ofInt 1).toNatClampNeg)]) (T := TX9) (N := 58) (ci := 9) (okL_law.1 533 _ _ rfl) lkX9_watch kL_71 rfl hK2 rfl (Nat.le_of_ble_eq_true rfl) hrm2 hf2 (Nat.le_of_ble_eq_true rfl) hM2 (fun r2 h2 hq2 => ?_)
  obtain ⟨rfl, hJ2⟩ := kk2 r2 h2 hq2
  refine LW_go 1 ?_
  refine And.intro (fun _ => kk _ _ _ hJ2) (fun hne => absurd rfl hne)
set_option maxRecDepth 100000 in
theorem lwc_13 {L : Nat} {xs : Nat → Int32} {iv : Int32} {h : am_H} {c sl : Nat} {J J' : am_H → Nat → Nat → Prop} (hi : ∀ j : Int, (1 ≤ j ∧ j ≤ 3) → vp_in (iv + Int32.ofInt j) L) (hp : ∀ a1 a2 : Int32, am_pair mX8_seat mX9_seat [.int a1, .int a2] J J') (hJ : J h c sl) (kk : ∀ h2 c2 sl2, J' h2 c2 sl2 → LW L xs 1016 [(3, .int iv), (2, .ref 51), (1, .ref 0), (0, .retAddr 0)] [] h2 c2 sl2) : LW L xs 541 [(3, .int iv), (2, .ref 51), (1, .ref 0), (0, .retAddr 0)] [] h c sl := by
  obtain ⟨R1, Q1, hM1, hK1, hrm1, hf1, kk1⟩ := hp (xs (iv + Int32.ofInt 1).toNatClampNeg) (xs (iv + Int32.ofInt 2).toNatClampNeg) h c sl hJ
  refine LW_go 11 ?_
  refine And.intro (hi 1 (by decide)) ?_
  refine And.intro (hi 2 (by decide)) ?_
  refine LW_callV (As := [.int (xs (iv + Int32.ofInt 1).toNatClampNeg), .int (xs (iv + Int32.ofInt 2).toNatClampNeg)]) (T := TX8) (N := 18) (ci := 8) (okL_law.1 552 _ _ rfl) lkX8_seat kL_72 rfl hK1 rfl (Nat.le_of_ble_eq_true rfl) hrm1 hf1 (Nat.le_of_ble_eq_true rfl) hM1 (fun r h1 hq => ?_)
  obtain ⟨v, rfl, R2, Q2, hM2, hK2, hrm2, hf2, kk2⟩ := kk1 r h1 hq
  refine LW_go 11 ?_
  refine And.intro (hi 1 (by decide)) ?_
  refine And.intro (hi 2 (by decide)) ?_
  refine LW_callV (As := [.int (xs (iv + Int32.ofInt 1).toNatClampNeg), .int (xs (iv + Int32.ofInt 2).toNatClampNeg)]) (T := TX9) (N := 58) (ci := 9) (okL_law.1 566 _ _ rfl) lkX9_seat kL_75 rfl hK2 rfl (Nat.le_of_ble_eq_true rfl) hrm2 hf2 (Nat.le_of_ble_eq_true rfl) hM2 (fun r2 h2 hq2 => ?_)
  obtain ⟨rfl, hJ2⟩ := kk2 r2 h2 hq2
  refine LW_go 1 ?_
  refine And.intro (fun _ => kk _ _ _ hJ2) (fun hne => absurd rfl hne)
set_option maxRecDepth 100000 in
theorem lwc_14 {L : Nat} {xs : Nat → Int32} {iv : Int32} {h : am_H} {c sl : Nat} {J J' : am_H → Nat → Nat → Prop} (hi : ∀ j : Int, (1 ≤ j ∧ j ≤ 3) → vp_in (iv + Int32.ofInt j) L) (hp : ∀ a1 a2 a3 : Int32, am_pair mX8_post mX9_post [.int a1, .int a2, .int a3] J J') (hJ : J h c sl) (kk : ∀ h2 c2 sl2, J' h2 c2 sl2 → LW L xs 1016 [(3, .int iv), (2, .ref 51), (1, .ref 0), (0, .retAddr 0)] [] h2 c2 sl2) : LW L xs 574 [(3, .int iv), (2, .ref 51), (1, .ref 0), (0, .retAddr 0)] [] h c sl := by
  obtain ⟨R1, Q1, hM1, hK1, hrm1, hf1, kk1⟩ := hp (xs (iv + Int32.ofInt 1).toNatClampNeg) (xs (iv + Int32.ofInt 2).toNatClampNeg) (xs (iv + Int32.ofInt 3).toNatClampNeg) h c sl hJ
  refine LW_go 16 ?_
  refine And.intro (hi 1 (by decide)) ?_
  refine And.intro (hi 2 (by decide)) ?_
  refine And.intro (hi 3 (by decide)) ?_
  refine LW_callV (As := [.int (xs (iv + Int32.ofInt 1).toNatClampNeg), .int (xs (iv + Int32.ofInt 2).toNatClampNeg), .int (xs (iv + Int32.ofInt 3).toNatClampNeg)]) (T := TX8) (N := 18) (ci := 8) (okL_law.1 590 _ _ rfl) lkX8_post kL_76 rfl hK1 rfl (Nat.le_of_ble_eq_true rfl) hrm1 hf1 (Nat.le_of_ble_eq_true rfl) hM1 (fun r h1 hq => ?_)
  obtain ⟨v, rfl, R2, Q2, hM2, hK2, hrm2, hf2, kk2⟩ := kk1 r h1 hq
  refine LW_go 16 ?_
  refine And.intro (hi 1 (by decide)) ?_
  refine And.intro (hi 2 (by decide)) ?_
  refine And.intro (hi 3 (by decide)) ?_
  refine LW_callV (As := [.int (xs (iv + Int32.ofInt 1).toNatClampNeg), .int (xs (iv + Int32.ofInt 2).toNatClampNeg), .int (xs (iv + Int32.ofInt 3).toNatClampNeg)]) (T := TX9) (N := 58) (ci := 9) (okL_law.1 609 _ _ rfl) lkX9_post kL_79 rfl hK2 rfl (Nat.le_of_ble_eq_true rfl) hrm2 hf2 (Nat.le_of_ble_eq_true rfl) hM2 (fun r2 h2 hq2 => ?_)
  obtain ⟨rfl, hJ2⟩ := kk2 r2 h2 hq2
  refine LW_go 1 ?_
  refine And.intro (fun _ => kk _ _ _ hJ2) (fun hne => absurd rfl hne)
set_option maxRecDepth 100000 in
theorem lwc_15 {L : Nat} {xs : Nat → Int32} {iv : Int32} {h : am_H} {c sl : Nat} {J J' : am_H → Nat → Nat → Prop} (hi : ∀ j : Int, (1 ≤ j ∧ j ≤ 3) → vp_in (iv + Int32.ofInt j) L) (hp : ∀ a1 a2 a3 : Int32, am_pair mX8_as mX9_as [.int a1, .int a2, .int a3] J J') (hJ : J h c sl) (kk : ∀ h2 c2 sl2, J' h2 c2 sl2 → LW L xs 1016 [(3, .int iv), (2, .ref 51), (1, .ref 0), (0, .retAddr 0)] [] h2 c2 sl2) : LW L xs 617 [(3, .int iv), (2, .ref 51), (1, .ref 0), (0, .retAddr 0)] [] h c sl := by
  obtain ⟨R1, Q1, hM1, hK1, hrm1, hf1, kk1⟩ := hp (xs (iv + Int32.ofInt 1).toNatClampNeg) (xs (iv + Int32.ofInt 2).toNatClampNeg) (xs (iv + Int32.ofInt 3).toNatClampNeg) h c sl hJ
  refine LW_go 16 ?_
  refine And.intro (hi 1 (by decide)) ?_
  refine And.intro (hi 2 (by decide)) ?_
  refine And.intro (hi 3 (by decide)) ?_
  refine LW_callV (As := [.int (xs (iv + Int32.ofInt 1).toNatClampNeg), .int (xs (iv + Int32.ofInt 2).toNatClampNeg), .int (xs (iv + Int32.ofInt 3).toNatClampNeg)]) (T := TX8) (N := 18) (ci := 8) (okL_law.1 633 _ _ rfl) lkX8_as kL_80 rfl hK1 rfl (Nat.le_of_ble_eq_true rfl) hrm1 hf1 (Nat.le_of_ble_eq_true rfl) hM1 (fun r h1 hq => ?_)
  obtain ⟨v, rfl, R2, Q2, hM2, hK2, hrm2, hf2, kk2⟩ := kk1 r h1 hq
  refine LW_go 16 ?_
  refine And.intro (hi 1 (by decide)) ?_
  refine And.intro (hi 2 (by decide)) ?_
  refine And.intro (hi 3 (by decide)) ?_
  refine LW_callV (As := [.int (xs (iv + Int32.ofInt 1).toNatClampNeg), .int (xs (iv + Int32.ofInt 2).toNatClampNeg), .int (xs (iv + Int32.ofInt 3).toNatClampNeg)]) (T := TX9) (N := 58) (ci := 9) (okL_law.1 652 _ _ rfl) lkX9_as kL_83 rfl hK2 rfl (Nat.le_of_ble_eq_true rfl) hrm2 hf2 (Nat.le_of_ble_eq_true rfl) hM2 (fun r2 h2 hq2 => ?_)
  obtain ⟨rfl, hJ2⟩ := kk2 r2 h2 hq2
  refine LW_go 1 ?_
  refine And.intro (fun _ => kk _ _ _ hJ2) (fun hne => absurd rfl hne)
set_option maxRecDepth 100000 in
theorem lwc_16 {L : Nat} {xs : Nat → Int32} {iv : Int32} {h : am_H} {c sl : Nat} {J J' : am_H → Nat → Nat → Prop} (hi : ∀ j : Int, (1 ≤ j ∧ j ≤ 3) → vp_in (iv + Int32.ofInt j) L) (hp : ∀ a1 : Int32, am_pair mX8_room mX9_room [.int a1] J J') (hJ : J h c sl) (kk : ∀ h2 c2 sl2, J' h2 c2 sl2 → LW L xs 1016 [(3, .int iv), (2, .ref 51), (1, .ref 0), (0, .retAddr 0)] [] h2 c2 sl2) : LW L xs 660 [(3, .int iv), (2, .ref 51), (1, .ref 0), (0, .retAddr 0)] [] h c sl := by
  obtain ⟨R1, Q1, hM1, hK1, hrm1, hf1, kk1⟩ := hp (xs (iv + Int32.ofInt 1).toNatClampNeg) h c sl hJ
  refine LW_go 6 ?_
  refine And.intro (hi 1 (by decide)) ?_
  refine LW_callV (As := [.int (xs (iv + Int32.ofInt 1).toNatClampNeg)]) (T := TX8) (N := 18) (ci := 8) (okL_law.1 666 _ _ rfl) lkX8_room kL_84 rfl hK1 rfl (Nat.le_of_ble_eq_true rfl) hrm1 hf1 (Nat.le_of_ble_eq_true rfl) hM1 (fun r h1 hq => ?_)
  obtain ⟨v, rfl, R2, Q2, hM2, hK2, hrm2, hf2, kk2⟩ := kk1 r h1 hq
  refine LW_go 6 ?_
  refine And.intro (hi 1 (by decide)) ?_
  refine LW_callV (As := [.int (xs (iv + Int32.ofInt 1).toNatClampNeg)]) (T := TX9) (N := 58) (ci := 9) (okL_law.1 675 _ _ rfl) lkX9_room kL_87 rfl hK2 rfl (Nat.le_of_ble_eq_true rfl) hrm2 hf2 (Nat.le_of_ble_eq_true rfl) hM2 (fun r2 h2 hq2 => ?_)
  obtain ⟨rfl, hJ2⟩ := kk2 r2 h2 hq2
  refine LW_go 1 ?_
  refine And.intro (fun _ => kk _ _ _ hJ2) (fun hne => absurd rfl hne)
set_option maxRecDepth 100000 in
theorem lwc_17 {L : Nat} {xs : Nat → Int32} {iv : Int32} {h : am_H} {c sl : Nat} {J J' : am_H → Nat → Nat → Prop} (hi : ∀ j : Int, (1 ≤ j ∧ j ≤ 3) → vp_in (iv + Int32.ofInt j) L) (hp : am_pair mX8_begin mX9_begin [] J J') (hJ : J h c sl) (kk : ∀ h2 c2 sl2, J' h2 c2 sl2 → LW L xs 1016 [(3, .int iv), (2, .ref 51), (1, .ref 0), (0, .retAddr 0)] [] h2 c2 sl2) : LW L xs 683 [(3, .int iv), (2, .ref 51), (1, .ref 0), (0, .retAddr 0)] [] h c sl := by
  obtain ⟨R1, Q1, hM1, hK1, hrm1, hf1, kk1⟩ := hp h c sl hJ
  refine LW_go 1 ?_
  refine LW_callV (As := []) (T := TX8) (N := 18) (ci := 8) (okL_law.1 684 _ _ rfl) lkX8_begin kL_88 rfl hK1 rfl (Nat.le_of_ble_eq_true rfl) hrm1 hf1 (Nat.le_of_ble_eq_true rfl) hM1 (fun r h1 hq => ?_)
  obtain ⟨v, rfl, R2, Q2, hM2, hK2, hrm2, hf2, kk2⟩ := kk1 r h1 hq
  refine LW_go 1 ?_
  refine LW_callV (As := []) (T := TX9) (N := 58) (ci := 9) (okL_law.1 688 _ _ rfl) lkX9_begin kL_91 rfl hK2 rfl (Nat.le_of_ble_eq_true rfl) hrm2 hf2 (Nat.le_of_ble_eq_true rfl) hM2 (fun r2 h2 hq2 => ?_)
  obtain ⟨rfl, hJ2⟩ := kk2 r2 h2 hq2
  refine LW_go 1 ?_
  refine And.intro (fun _ => kk _ _ _ hJ2) (fun hne => absurd rfl hne)
set_option maxRecDepth 100000 in
theorem lwc_18 {L : Nat} {xs : Nat → Int32} {iv : Int32} {h : am_H} {c sl : Nat} {J J' : am_H → Nat → Nat → Prop} (hi : ∀ j : Int, (1 ≤ j ∧ j ≤ 3) → vp_in (iv + Int32.ofInt j) L) (hp : am_pair mX8_steps mX9_steps [] J J') (hJ : J h c sl) (kk : ∀ h2 c2 sl2, J' h2 c2 sl2 → LW L xs 1016 [(3, .int iv), (2, .ref 51), (1, .ref 0), (0, .retAddr 0)] [] h2 c2 sl2) : LW L xs 696 [(3, .int iv), (2, .ref 51), (1, .ref 0), (0, .retAddr 0)] [] h c sl := by
  obtain ⟨R1, Q1, hM1, hK1, hrm1, hf1, kk1⟩ := hp h c sl hJ
  refine LW_go 1 ?_
  refine LW_callV (As := []) (T := TX8) (N := 18) (ci := 8) (okL_law.1 697 _ _ rfl) lkX8_steps kL_92 rfl hK1 rfl (Nat.le_of_ble_eq_true rfl) hrm1 hf1 (Nat.le_of_ble_eq_true rfl) hM1 (fun r h1 hq => ?_)
  obtain ⟨v, rfl, R2, Q2, hM2, hK2, hrm2, hf2, kk2⟩ := kk1 r h1 hq
  refine LW_go 1 ?_
  refine LW_callV (As := []) (T := TX9) (N := 58) (ci := 9) (okL_law.1 701 _ _ rfl) lkX9_steps kL_95 rfl hK2 rfl (Nat.le_of_ble_eq_true rfl) hrm2 hf2 (Nat.le_of_ble_eq_true rfl) hM2 (fun r2 h2 hq2 => ?_)
  obtain ⟨rfl, hJ2⟩ := kk2 r2 h2 hq2
  refine LW_go 1 ?_
  refine And.intro (fun _ => kk _ _ _ hJ2) (fun hne => absurd rfl hne)
set_option maxRecDepth 100000 in
theorem lwc_19 {L : Nat} {xs : Nat → Int32} {iv : Int32} {h : am_H} {c sl : Nat} {J J' : am_H → Nat → Nat → Prop} (hi : ∀ j : Int, (1 ≤ j ∧ j ≤ 3) → vp_in (iv + Int32.ofInt j) L) (hp : ∀ a1 : Int32, am_pair mX8_step mX9_step [.int a1] J J') (hJ : J h c sl) (kk : ∀ h2 c2 sl2, J' h2 c2 sl2 → LW L xs 1016 [(3, .int iv), (2, .ref 51), (1, .ref 0), (0, .retAddr 0)] [] h2 c2 sl2) : LW L xs 709 [(3, .int iv), (2, .ref 51), (1, .ref 0), (0, .retAddr 0)] [] h c sl := by
  obtain ⟨R1, Q1, hM1, hK1, hrm1, hf1, kk1⟩ := hp (xs (iv + Int32.ofInt 1).toNatClampNeg) h c sl hJ
  refine LW_go 6 ?_
  refine And.intro (hi 1 (by decide)) ?_
  refine LW_callV (As := [.int (xs (iv + Int32.ofInt 1).toNatClampNeg)]) (T := TX8) (N := 18) (ci := 8) (okL_law.1 715 _ _ rfl) lkX8_step kL_96 rfl hK1 rfl (Nat.le_of_ble_eq_true rfl) hrm1 hf1 (Nat.le_of_ble_eq_true rfl) hM1 (fun r h1 hq => ?_)
  obtain ⟨v, rfl, R2, Q2, hM2, hK2, hrm2, hf2, kk2⟩ := kk1 r h1 hq
  refine LW_go 6 ?_
  refine And.intro (hi 1 (by decide)) ?_
  refine LW_callV (As := [.int (xs (iv + Int32.ofInt 1).toNatClampNeg)]) (T := TX9) (N := 58) (ci := 9) (okL_law.1 724 _ _ rfl) lkX9_step kL_99 rfl hK2 rfl (Nat.le_of_ble_eq_true rfl) hrm2 hf2 (Nat.le_of_ble_eq_true rfl) hM2 (fun r2 h2 hq2 => ?_)
  obtain ⟨rfl, hJ2⟩ := kk2 r2 h2 hq2
  refine LW_go 1 ?_
  refine And.intro (fun _ => kk _ _ _ hJ2) (fun hne => absurd rfl hne)
set_option maxRecDepth 100000 in
theorem lwc_20 {L : Nat} {xs : Nat → Int32} {iv : Int32} {h : am_H} {c sl : Nat} {J J' : am_H → Nat → Nat → Prop} (hi : ∀ j : Int, (1 ≤ j ∧ j ≤ 3) → vp_in (iv + Int32.ofInt j) L) (hp : ∀ a1 : Int32, am_pair mX8_go mX9_go [.int a1] J J') (hJ : J h c sl) (kk : ∀ h2 c2 sl2, J' h2 c2 sl2 → LW L xs 1016 [(3, .int iv), (2, .ref 51), (1, .ref 0), (0, .retAddr 0)] [] h2 c2 sl2) : LW L xs 732 [(3, .int iv), (2, .ref 51), (1, .ref 0), (0, .retAddr 0)] [] h c sl := by
  obtain ⟨R1, Q1, hM1, hK1, hrm1, hf1, kk1⟩ := hp (xs (iv + Int32.ofInt 1).toNatClampNeg) h c sl hJ
  refine LW_go 6 ?_
  refine And.intro (hi 1 (by decide)) ?_
  refine LW_callV (As := [.int (xs (iv + Int32.ofInt 1).toNatClampNeg)]) (T := TX8) (N := 18) (ci := 8) (okL_law.1 738 _ _ rfl) lkX8_go kL_100 rfl hK1 rfl (Nat.le_of_ble_eq_true rfl) hrm1 hf1 (Nat.le_of_ble_eq_true rfl) hM1 (fun r h1 hq => ?_)
  obtain ⟨v, rfl, R2, Q2, hM2, hK2, hrm2, hf2, kk2⟩ := kk1 r h1 hq
  refine LW_go 6 ?_
  refine And.intro (hi 1 (by decide)) ?_
  refine LW_callV (As := [.int (xs (iv + Int32.ofInt 1).toNatClampNeg)]) (T := TX9) (N := 58) (ci := 9) (okL_law.1 747 _ _ rfl) lkX9_go kL_103 rfl hK2 rfl (Nat.le_of_ble_eq_true rfl) hrm2 hf2 (Nat.le_of_ble_eq_true rfl) hM2 (fun r2 h2 hq2 => ?_)
  obtain ⟨rfl, hJ2⟩ := kk2 r2 h2 hq2
  refine LW_go 1 ?_
  refine And.intro (fun _ => kk _ _ _ hJ2) (fun hne => absurd rfl hne)
set_option maxRecDepth 100000 in
theorem lwc_21 {L : Nat} {xs : Nat → Int32} {iv : Int32} {h : am_H} {c sl : Nat} {J J' : am_H → Nat → Nat → Prop} (hi : ∀ j : Int, (1 ≤ j ∧ j ≤ 3) → vp_in (iv + Int32.ofInt j) L) (hp : ∀ a1 a2 : Int32, am_pair mX8_run mX9_run [.int a1, .int a2] J J') (hJ : J h c sl) (kk : ∀ h2 c2 sl2, J' h2 c2 sl2 → LW L xs 1016 [(3, .int iv), (2, .ref 51), (1, .ref 0), (0, .retAddr 0)] [] h2 c2 sl2) : LW L xs 755 [(3, .int iv), (2, .ref 51), (1, .ref 0), (0, .retAddr 0)] [] h c sl := by
  obtain ⟨R1, Q1, hM1, hK1, hrm1, hf1, kk1⟩ := hp (xs (iv + Int32.ofInt 1).toNatClampNeg) (xs (iv + Int32.ofInt 2).toNatClampNeg) h c sl hJ
  refine LW_go 11 ?_
  refine And.intro (hi 1 (by decide)) ?_
  refine And.intro (hi 2 (by decide)) ?_
  refine LW_callV (As := [.int (xs (iv + Int32.ofInt 1).toNatClampNeg), .int (xs (iv + Int32.ofInt 2).toNatClampNeg)]) (T := TX8) (N := 18) (ci := 8) (okL_law.1 766 _ _ rfl) lkX8_run kL_104 rfl hK1 rfl (Nat.le_of_ble_eq_true rfl) hrm1 hf1 (Nat.le_of_ble_eq_true rfl) hM1 (fun r h1 hq => ?_)
  obtain ⟨v, rfl, R2, Q2, hM2, hK2, hrm2, hf2, kk2⟩ := kk1 r h1 hq
  refine LW_go 11 ?_
  refine And.intro (hi 1 (by decide)) ?_
  refine And.intro (hi 2 (by decide)) ?_
  refine LW_callV (As := [.int (xs (iv + Int32.ofInt 1).toNatClampNeg), .int (xs (iv + Int32.ofInt 2).toNatClampNeg)]) (T := TX9) (N := 58) (ci := 9) (okL_law.1 780 _ _ rfl) lkX9_run kL_107 rfl hK2 rfl (Nat.le_of_ble_eq_true rfl) hrm2 hf2 (Nat.le_of_ble_eq_true rfl) hM2 (fun r2 h2 hq2 => ?_)
  obtain ⟨rfl, hJ2⟩ := kk2 r2 h2 hq2
  refine LW_go 1 ?_
  refine And.intro (fun _ => kk _ _ _ hJ2) (fun hne => absurd rfl hne)
set_option maxRecDepth 100000 in
theorem lwc_22 {L : Nat} {xs : Nat → Int32} {iv : Int32} {h : am_H} {c sl : Nat} {J J' : am_H → Nat → Nat → Prop} (hi : ∀ j : Int, (1 ≤ j ∧ j ≤ 3) → vp_in (iv + Int32.ofInt j) L) (hp : ∀ a1 : Int32, am_pair mX8_at mX9_at [.int a1] J J') (hJ : J h c sl) (kk : ∀ h2 c2 sl2, J' h2 c2 sl2 → LW L xs 1016 [(3, .int iv), (2, .ref 51), (1, .ref 0), (0, .retAddr 0)] [] h2 c2 sl2) : LW L xs 788 [(3, .int iv), (2, .ref 51), (1, .ref 0), (0, .retAddr 0)] [] h c sl := by
  obtain ⟨R1, Q1, hM1, hK1, hrm1, hf1, kk1⟩ := hp (xs (iv + Int32.ofInt 1).toNatClampNeg) h c sl hJ
  refine LW_go 6 ?_
  refine And.intro (hi 1 (by decide)) ?_
  refine LW_callV (As := [.int (xs (iv + Int32.ofInt 1).toNatClampNeg)]) (T := TX8) (N := 18) (ci := 8) (okL_law.1 794 _ _ rfl) lkX8_at kL_108 rfl hK1 rfl (Nat.le_of_ble_eq_true rfl) hrm1 hf1 (Nat.le_of_ble_eq_true rfl) hM1 (fun r h1 hq => ?_)
  obtain ⟨v, rfl, R2, Q2, hM2, hK2, hrm2, hf2, kk2⟩ := kk1 r h1 hq
  refine LW_go 6 ?_
  refine And.intro (hi 1 (by decide)) ?_
  refine LW_callV (As := [.int (xs (iv + Int32.ofInt 1).toNatClampNeg)]) (T := TX9) (N := 58) (ci := 9) (okL_law.1 803 _ _ rfl) lkX9_at kL_111 rfl hK2 rfl (Nat.le_of_ble_eq_true rfl) hrm2 hf2 (Nat.le_of_ble_eq_true rfl) hM2 (fun r2 h2 hq2 => ?_)
  obtain ⟨rfl, hJ2⟩ := kk2 r2 h2 hq2
  refine LW_go 1 ?_
  refine And.intro (fun _ => kk _ _ _ hJ2) (fun hne => absurd rfl hne)
set_option maxRecDepth 100000 in
theorem lwc_23 {L : Nat} {xs : Nat → Int32} {iv : Int32} {h : am_H} {c sl : Nat} {J J' : am_H → Nat → Nat → Prop} (hi : ∀ j : Int, (1 ≤ j ∧ j ≤ 3) → vp_in (iv + Int32.ofInt j) L) (hp : ∀ a1 a2 a3 : Int32, am_pair mX8_lies mX9_lies [.int a1, .int a2, .int a3] J J') (hJ : J h c sl) (kk : ∀ h2 c2 sl2, J' h2 c2 sl2 → LW L xs 1016 [(3, .int iv), (2, .ref 51), (1, .ref 0), (0, .retAddr 0)] [] h2 c2 sl2) : LW L xs 811 [(3, .int iv), (2, .ref 51), (1, .ref 0), (0, .retAddr 0)] [] h c sl := by
  obtain ⟨R1, Q1, hM1, hK1, hrm1, hf1, kk1⟩ := hp (xs (iv + Int32.ofInt 1).toNatClampNeg) (xs (iv + Int32.ofInt 2).toNatClampNeg) (xs (iv + Int32.ofInt 3).toNatClampNeg) h c sl hJ
  refine LW_go 16 ?_
  refine And.intro (hi 1 (by decide)) ?_
  refine And.intro (hi 2 (by decide)) ?_
  refine And.intro (hi 3 (by decide)) ?_
  refine LW_callV (As := [.int (xs (iv + Int32.ofInt 1).toNatClampNeg), .int (xs (iv + Int32.ofInt 2).toNatClampNeg), .int (xs (iv + Int32.ofInt 3).toNatClampNeg)]) (T := TX8) (N := 18) (ci := 8) (okL_law.1 827 _ _ rfl) lkX8_lies kL_112 rfl hK1 rfl (Nat.le_of_ble_eq_true rfl) hrm1 hf1 (Nat.le_of_ble_eq_true rfl) hM1 (fun r h1 hq => ?_)
  obtain ⟨v, rfl, R2, Q2, hM2, hK2, hrm2, hf2, kk2⟩ := kk1 r h1 hq
  refine LW_go 16 ?_
  refine And.intro (hi 1 (by decide)) ?_
  refine And.intro (hi 2 (by decide)) ?_
  refine And.intro (hi 3 (by decide)) ?_
  refine LW_callV (As := [.int (xs (iv + Int32.ofInt 1).toNatClampNeg), .int (xs (iv + Int32.ofInt 2).toNatClampNeg), .int (xs (iv + Int32.ofInt 3).toNatClampNeg)]) (T := TX9) (N := 58) (ci := 9) (okL_law.1 846 _ _ rfl) lkX9_lies kL_115 rfl hK2 rfl (Nat.le_of_ble_eq_true rfl) hrm2 hf2 (Nat.le_of_ble_eq_true rfl) hM2 (fun r2 h2 hq2 => ?_)
  obtain ⟨rfl, hJ2⟩ := kk2 r2 h2 hq2
  refine LW_go 1 ?_
  refine And.intro (fun _ => kk _ _ _ hJ2) (fun hne => absurd rfl hne)
set_option maxRecDepth 100000 in
theorem lwc_24 {L : Nat} {xs : Nat → Int32} {iv : Int32} {h : am_H} {c sl : Nat} {J J' : am_H → Nat → Nat → Prop} (hi : ∀ j : Int, (1 ≤ j ∧ j ≤ 3) → vp_in (iv + Int32.ofInt j) L) (hp : ∀ a1 : Int32, am_pair mX8_now mX9_now [.int a1] J J') (hJ : J h c sl) (kk : ∀ h2 c2 sl2, J' h2 c2 sl2 → LW L xs 1016 [(3, .int iv), (2, .ref 51), (1, .ref 0), (0, .retAddr 0)] [] h2 c2 sl2) : LW L xs 854 [(3, .int iv), (2, .ref 51), (1, .ref 0), (0, .retAddr 0)] [] h c sl := by
  obtain ⟨R1, Q1, hM1, hK1, hrm1, hf1, kk1⟩ := hp (xs (iv + Int32.ofInt 1).toNatClampNeg) h c sl hJ
  refine LW_go 6 ?_
  refine And.intro (hi 1 (by decide)) ?_
  refine LW_callV (As := [.int (xs (iv + Int32.ofInt 1).toNatClampNeg)]) (T := TX8) (N := 18) (ci := 8) (okL_law.1 860 _ _ rfl) lkX8_now kL_116 rfl hK1 rfl (Nat.le_of_ble_eq_true rfl) hrm1 hf1 (Nat.le_of_ble_eq_true rfl) hM1 (fun r h1 hq => ?_)
  obtain ⟨v, rfl, R2, Q2, hM2, hK2, hrm2, hf2, kk2⟩ := kk1 r h1 hq
  refine LW_go 6 ?_
  refine And.intro (hi 1 (by decide)) ?_
  refine LW_callV (As := [.int (xs (iv + Int32.ofInt 1).toNatClampNeg)]) (T := TX9) (N := 58) (ci := 9) (okL_law.1 869 _ _ rfl) lkX9_now kL_119 rfl hK2 rfl (Nat.le_of_ble_eq_true rfl) hrm2 hf2 (Nat.le_of_ble_eq_true rfl) hM2 (fun r2 h2 hq2 => ?_)
  obtain ⟨rfl, hJ2⟩ := kk2 r2 h2 hq2
  refine LW_go 1 ?_
  refine And.intro (fun _ => kk _ _ _ hJ2) (fun hne => absurd rfl hne)
set_option maxRecDepth 100000 in
theorem lwc_25 {L : Nat} {xs : Nat → Int32} {iv : Int32} {h : am_H} {c sl : Nat} {J J' : am_H → Nat → Nat → Prop} (hi : ∀ j : Int, (1 ≤ j ∧ j ≤ 3) → vp_in (iv + Int32.ofInt j) L) (hp : am_pair mX8_met mX9_met [] J J') (hJ : J h c sl) (kk : ∀ h2 c2 sl2, J' h2 c2 sl2 → LW L xs 1016 [(3, .int iv), (2, .ref 51), (1, .ref 0), (0, .retAddr 0)] [] h2 c2 sl2) : LW L xs 877 [(3, .int iv), (2, .ref 51), (1, .ref 0), (0, .retAddr 0)] [] h c sl := by
  obtain ⟨R1, Q1, hM1, hK1, hrm1, hf1, kk1⟩ := hp h c sl hJ
  refine LW_go 1 ?_
  refine LW_callV (As := []) (T := TX8) (N := 18) (ci := 8) (okL_law.1 878 _ _ rfl) lkX8_met kL_120 rfl hK1 rfl (Nat.le_of_ble_eq_true rfl) hrm1 hf1 (Nat.le_of_ble_eq_true rfl) hM1 (fun r h1 hq => ?_)
  obtain ⟨v, rfl, R2, Q2, hM2, hK2, hrm2, hf2, kk2⟩ := kk1 r h1 hq
  refine LW_go 1 ?_
  refine LW_callV (As := []) (T := TX9) (N := 58) (ci := 9) (okL_law.1 882 _ _ rfl) lkX9_met kL_123 rfl hK2 rfl (Nat.le_of_ble_eq_true rfl) hrm2 hf2 (Nat.le_of_ble_eq_true rfl) hM2 (fun r2 h2 hq2 => ?_)
  obtain ⟨rfl, hJ2⟩ := kk2 r2 h2 hq2
  refine LW_go 1 ?_
  refine And.intro (fun _ => kk _ _ _ hJ2) (fun hne => absurd rfl hne)
set_option maxRecDepth 100000 in
theorem lwc_26 {L : Nat} {xs : Nat → Int32} {iv : Int32} {h : am_H} {c sl : Nat} {J J' : am_H → Nat → Nat → Prop} (hi : ∀ j : Int, (1 ≤ j ∧ j ≤ 3) → vp_in (iv + Int32.ofInt j) L) (hp : ∀ a1 a2 : Int32, am_pair mX8_find mX9_find [.int a1, .int a2] J J') (hJ : J h c sl) (kk : ∀ h2 c2 sl2, J' h2 c2 sl2 → LW L xs 1016 [(3, .int iv), (2, .ref 51), (1, .ref 0), (0, .retAddr 0)] [] h2 c2 sl2) : LW L xs 890 [(3, .int iv), (2, .ref 51), (1, .ref 0), (0, .retAddr 0)] [] h c sl := by
  obtain ⟨R1, Q1, hM1, hK1, hrm1, hf1, kk1⟩ := hp (xs (iv + Int32.ofInt 1).toNatClampNeg) (xs (iv + Int32.ofInt 2).toNatClampNeg) h c sl hJ
  refine LW_go 11 ?_
  refine And.intro (hi 1 (by decide)) ?_
  refine And.intro (hi 2 (by decide)) ?_
  refine LW_callV (As := [.int (xs (iv + Int32.ofInt 1).toNatClampNeg), .int (xs (iv + Int32.ofInt 2).toNatClampNeg)]) (T := TX8) (N := 18) (ci := 8) (okL_law.1 901 _ _ rfl) lkX8_find kL_124 rfl hK1 rfl (Nat.le_of_ble_eq_true rfl) hrm1 hf1 (Nat.le_of_ble_eq_true rfl) hM1 (fun r h1 hq => ?_)
  obtain ⟨v, rfl, R2, Q2, hM2, hK2, hrm2, hf2, kk2⟩ := kk1 r h1 hq
  refine LW_go 11 ?_
  refine And.intro (hi 1 (by decide)) ?_
  refine And.intro (hi 2 (by decide)) ?_
  refine LW_callV (As := [.int (xs (iv + Int32.ofInt 1).toNatClampNeg), .int (xs (iv + Int32.ofInt 2).toNatClampNeg)]) (T := TX9) (N := 58) (ci := 9) (okL_law.1 915 _ _ rfl) lkX9_find kL_127 rfl hK2 rfl (Nat.le_of_ble_eq_true rfl) hrm2 hf2 (Nat.le_of_ble_eq_true rfl) hM2 (fun r2 h2 hq2 => ?_)
  obtain ⟨rfl, hJ2⟩ := kk2 r2 h2 hq2
  refine LW_go 1 ?_
  refine And.intro (fun _ => kk _ _ _ hJ2) (fun hne => absurd rfl hne)
set_option maxRecDepth 100000 in
theorem lwc_27 {L : Nat} {xs : Nat → Int32} {iv : Int32} {h : am_H} {c sl : Nat} {J J' : am_H → Nat → Nat → Prop} (hi : ∀ j : Int, (1 ≤ j ∧ j ≤ 3) → vp_in (iv + Int32.ofInt j) L) (hp : ∀ a1 a2 : Int32, am_pair mX8_most mX9_most [.int a1, .int a2] J J') (hJ : J h c sl) (kk : ∀ h2 c2 sl2, J' h2 c2 sl2 → LW L xs 1016 [(3, .int iv), (2, .ref 51), (1, .ref 0), (0, .retAddr 0)] [] h2 c2 sl2) : LW L xs 923 [(3, .int iv), (2, .ref 51), (1, .ref 0), (0, .retAddr 0)] [] h c sl := by
  obtain ⟨R1, Q1, hM1, hK1, hrm1, hf1, kk1⟩ := hp (xs (iv + Int32.ofInt 1).toNatClampNeg) (xs (iv + Int32.ofInt 2).toNatClampNeg) h c sl hJ
  refine LW_go 11 ?_
  refine And.intro (hi 1 (by decide)) ?_
  refine And.intro (hi 2 (by decide)) ?_
  refine LW_callV (As := [.int (xs (iv + Int32.ofInt 1).toNatClampNeg), .int (xs (iv + Int32.ofInt 2).toNatClampNeg)]) (T := TX8) (N := 18) (ci := 8) (okL_law.1 934 _ _ rfl) lkX8_most kL_128 rfl hK1 rfl (Nat.le_of_ble_eq_true rfl) hrm1 hf1 (Nat.le_of_ble_eq_true rfl) hM1 (fun r h1 hq => ?_)
  obtain ⟨v, rfl, R2, Q2, hM2, hK2, hrm2, hf2, kk2⟩ := kk1 r h1 hq
  refine LW_go 11 ?_
  refine And.intro (hi 1 (by decide)) ?_
  refine And.intro (hi 2 (by decide)) ?_
  refine LW_callV (As := [.int (xs (iv + Int32.ofInt 1).toNatClampNeg), .int (xs (iv + Int32.ofInt 2).toNatClampNeg)]) (T := TX9) (N := 58) (ci := 9) (okL_law.1 948 _ _ rfl) lkX9_most kL_131 rfl hK2 rfl (Nat.le_of_ble_eq_true rfl) hrm2 hf2 (Nat.le_of_ble_eq_true rfl) hM2 (fun r2 h2 hq2 => ?_)
  obtain ⟨rfl, hJ2⟩ := kk2 r2 h2 hq2
  refine LW_go 1 ?_
  refine And.intro (fun _ => kk _ _ _ hJ2) (fun hne => absurd rfl hne)
set_option maxRecDepth 100000 in
theorem lwc_28 {L : Nat} {xs : Nat → Int32} {iv : Int32} {h : am_H} {c sl : Nat} {J J' : am_H → Nat → Nat → Prop} (hi : ∀ j : Int, (1 ≤ j ∧ j ≤ 3) → vp_in (iv + Int32.ofInt j) L) (hp : ∀ a1 : Int32, am_pair mX8_mend mX9_mend [.int a1] J J') (hJ : J h c sl) (kk : ∀ h2 c2 sl2, J' h2 c2 sl2 → LW L xs 1016 [(3, .int iv), (2, .ref 51), (1, .ref 0), (0, .retAddr 0)] [] h2 c2 sl2) : LW L xs 956 [(3, .int iv), (2, .ref 51), (1, .ref 0), (0, .retAddr 0)] [] h c sl := by
  obtain ⟨R1, Q1, hM1, hK1, hrm1, hf1, kk1⟩ := hp (xs (iv + Int32.ofInt 1).toNatClampNeg) h c sl hJ
  refine LW_go 6 ?_
  refine And.intro (hi 1 (by decide)) ?_
  refine LW_callV (As := [.int (xs (iv + Int32.ofInt 1).toNatClampNeg)]) (T := TX8) (N := 18) (ci := 8) (okL_law.1 962 _ _ rfl) lkX8_mend kL_132 rfl hK1 rfl (Nat.le_of_ble_eq_true rfl) hrm1 hf1 (Nat.le_of_ble_eq_true rfl) hM1 (fun r h1 hq => ?_)
  obtain ⟨v, rfl, R2, Q2, hM2, hK2, hrm2, hf2, kk2⟩ := kk1 r h1 hq
  refine LW_go 6 ?_
  refine And.intro (hi 1 (by decide)) ?_
  refine LW_callV (As := [.int (xs (iv + Int32.ofInt 1).toNatClampNeg)]) (T := TX9) (N := 58) (ci := 9) (okL_law.1 971 _ _ rfl) lkX9_mend kL_135 rfl hK2 rfl (Nat.le_of_ble_eq_true rfl) hrm2 hf2 (Nat.le_of_ble_eq_true rfl) hM2 (fun r2 h2 hq2 => ?_)
  obtain ⟨rfl, hJ2⟩ := kk2 r2 h2 hq2
  refine LW_go 1 ?_
  refine And.intro (fun _ => kk _ _ _ hJ2) (fun hne => absurd rfl hne)
set_option maxRecDepth 100000 in
theorem lwc_29 {L : Nat} {xs : Nat → Int32} {iv : Int32} {h : am_H} {c sl : Nat} {J J' : am_H → Nat → Nat → Prop} (hi : ∀ j : Int, (1 ≤ j ∧ j ≤ 3) → vp_in (iv + Int32.ofInt j) L) (hp : ∀ a1 : Int32, am_pair mX8_count mX9_count [.int a1] J J') (hJ : J h c sl) (kk : ∀ h2 c2 sl2, J' h2 c2 sl2 → LW L xs 1016 [(3, .int iv), (2, .ref 51), (1, .ref 0), (0, .retAddr 0)] [] h2 c2 sl2) : LW L xs 979 [(3, .int iv), (2, .ref 51), (1, .ref 0), (0, .retAddr 0)] [] h c sl := by
  obtain ⟨R1, Q1, hM1, hK1, hrm1, hf1, kk1⟩ := hp (xs (iv + Int32.ofInt 1).toNatClampNeg) h c sl hJ
  refine LW_go 6 ?_
  refine And.intro (hi 1 (by decide)) ?_
  refine LW_callV (As := [.int (xs (iv + Int32.ofInt 1).toNatClampNeg)]) (T := TX8) (N := 18) (ci := 8) (okL_law.1 985 _ _ rfl) lkX8_count kL_136 rfl hK1 rfl (Nat.le_of_ble_eq_true rfl) hrm1 hf1 (Nat.le_of_ble_eq_true rfl) hM1 (fun r h1 hq => ?_)
  obtain ⟨v, rfl, R2, Q2, hM2, hK2, hrm2, hf2, kk2⟩ := kk1 r h1 hq
  refine LW_go 6 ?_
  refine And.intro (hi 1 (by decide)) ?_
  refine LW_callV (As := [.int (xs (iv + Int32.ofInt 1).toNatClampNeg)]) (T := TX9) (N := 58) (ci := 9) (okL_law.1 994 _ _ rfl) lkX9_count kL_139 rfl hK2 rfl (Nat.le_of_ble_eq_true rfl) hrm2 hf2 (Nat.le_of_ble_eq_true rfl) hM2 (fun r2 h2 hq2 => ?_)
  obtain ⟨rfl, hJ2⟩ := kk2 r2 h2 hq2
  refine LW_go 1 ?_
  refine And.intro (fun _ => kk _ _ _ hJ2) (fun hne => absurd rfl hne)
set_option maxRecDepth 100000 in
theorem lwc_30 {L : Nat} {xs : Nat → Int32} {iv : Int32} {h : am_H} {c sl : Nat} {J J' : am_H → Nat → Nat → Prop} (hi : ∀ j : Int, (1 ≤ j ∧ j ≤ 3) → vp_in (iv + Int32.ofInt j) L) (hp : am_pairL mX8_digest mX9_digest [] J J') (hJ : J h c sl) (kk : ∀ h2 c2 sl2, J' h2 c2 sl2 → LW L xs 1016 [(3, .int iv), (2, .ref 51), (1, .ref 0), (0, .retAddr 0)] [] h2 c2 sl2) : LW L xs 1002 [(3, .int iv), (2, .ref 51), (1, .ref 0), (0, .retAddr 0)] [] h c sl := by
  obtain ⟨R1, Q1, hM1, hK1, hrm1, hf1, kk1⟩ := hp h c sl hJ
  refine LW_go 1 ?_
  refine LW_callV (As := []) (T := TX8) (N := 18) (ci := 8) (okL_law.1 1003 _ _ rfl) lkX8_digest kL_140 rfl hK1 rfl (Nat.le_of_ble_eq_true rfl) hrm1 hf1 (Nat.le_of_ble_eq_true rfl) hM1 (fun r h1 hq => ?_)
  obtain ⟨v, rfl, R2, Q2, hM2, hK2, hrm2, hf2, kk2⟩ := kk1 r h1 hq
  refine LW_go 1 ?_
  refine LW_callV (As := []) (T := TX9) (N := 58) (ci := 9) (okL_law.1 1007 _ _ rfl) lkX9_digest kL_144 rfl hK2 rfl (Nat.le_of_ble_eq_true rfl) hrm2 hf2 (Nat.le_of_ble_eq_true rfl) hM2 (fun r2 h2 hq2 => ?_)
  obtain ⟨rfl, hJ2⟩ := kk2 r2 h2 hq2
  refine LW_go 2 ?_
  refine And.intro (fun _ => kk _ _ _ hJ2) (fun hne => absurd (show lg_cmp v v = 0 by simp [lg_cmp]) hne)
/-- all the calls keep what J says; so does a round without one -/
def am_ops (J J' : am_H → Nat → Nat → Prop) : Prop := (∀ w : Int64, am_pair mX8_letters mX9_letters [.long w] J J') ∧ (am_pair mX8_blank mX9_blank [] J J') ∧ (∀ a1 : Int32, am_pair mX8_fault mX9_fault [.int a1] J J') ∧ (am_pair mX8_book mX9_book [] J J') ∧ (am_pair mX8_one mX9_one [] J J') ∧ (∀ a1 a2 : Int32, am_pair mX8_own mX9_own [.int a1, .int a2] J J') ∧ (∀ a1 : Int32, am_pair mX8_twin mX9_twin [.int a1] J J') ∧ (∀ a1 a2 : Int32, am_pair mX8_about mX9_about [.int a1, .int a2] J J') ∧ (∀ a1 a2 : Int32, am_pair mX8_act mX9_act [.int a1, .int a2] J J') ∧ (∀ a1 a2 : Int32, am_pair mX8_follow mX9_follow [.int a1, .int a2] J J') ∧ (∀ a1 a2 : Int32, am_pair mX8_same mX9_same [.int a1, .int a2] J J') ∧ (∀ a1 a2 a3 : Int32, am_pair mX8_apart mX9_apart [.int a1, .int a2, .int a3] J J') ∧ (∀ a1 : Int32, am_pair mX8_watch mX9_watch [.int a1] J J') ∧ (∀ a1 a2 : Int32, am_pair mX8_seat mX9_seat [.int a1, .int a2] J J') ∧ (∀ a1 a2 a3 : Int32, am_pair mX8_post mX9_post [.int a1, .int a2, .int a3] J J') ∧ (∀ a1 a2 a3 : Int32, am_pair mX8_as mX9_as [.int a1, .int a2, .int a3] J J') ∧ (∀ a1 : Int32, am_pair mX8_room mX9_room [.int a1] J J') ∧ (am_pair mX8_begin mX9_begin [] J J') ∧ (am_pair mX8_steps mX9_steps [] J J') ∧ (∀ a1 : Int32, am_pair mX8_step mX9_step [.int a1] J J') ∧ (∀ a1 : Int32, am_pair mX8_go mX9_go [.int a1] J J') ∧ (∀ a1 a2 : Int32, am_pair mX8_run mX9_run [.int a1, .int a2] J J') ∧ (∀ a1 : Int32, am_pair mX8_at mX9_at [.int a1] J J') ∧ (∀ a1 a2 a3 : Int32, am_pair mX8_lies mX9_lies [.int a1, .int a2, .int a3] J J') ∧ (∀ a1 : Int32, am_pair mX8_now mX9_now [.int a1] J J') ∧ (am_pair mX8_met mX9_met [] J J') ∧ (∀ a1 a2 : Int32, am_pair mX8_find mX9_find [.int a1, .int a2] J J') ∧ (∀ a1 a2 : Int32, am_pair mX8_most mX9_most [.int a1, .int a2] J J') ∧ (∀ a1 : Int32, am_pair mX8_mend mX9_mend [.int a1] J J') ∧ (∀ a1 : Int32, am_pair mX8_count mX9_count [.int a1] J J') ∧ (am_pairL mX8_digest mX9_digest [] J J') ∧ ∀ h c sl, J h c sl → J' h c sl
theorem lw_iv {k L : Nat} (h : 4 * k + 4 ≤ L) (hL : L ≤ 2048) : (∀ j : Int, (1 ≤ j ∧ j ≤ 3) → vp_in (nI (4 * k) + Int32.ofInt j) L) ∧ vp_in (nI (4 * k)) L := by
  refine ⟨fun j hj => ?_, vp_in_nI (by omega) (by omega)⟩
  rcases (by omega : j = 1 ∨ j = 2 ∨ j = 3) with rfl | rfl | rfl
  · rw [show Int32.ofInt 1 = nI 1 from rfl, nI_add]; exact vp_in_nI (by omega) (by omega)
  · rw [show Int32.ofInt 2 = nI 2 from rfl, nI_add]; exact vp_in_nI (by omega) (by omega)
  · rw [show Int32.ofInt 3 = nI 3 from rfl, nI_add]; exact vp_in_nI (by omega) (by omega)
set_option maxRecDepth 100000 in
set_option maxHeartbeats 4000000 in
theorem law_loop {L : Nat} {xs : Nat → Int32} (hL : L ≤ 2048) (J : Nat → am_H → Nat → Nat → Prop) (hb : ∀ k h c sl, J k h c sl → c ≤ room_1.cells ∧ sl ≤ room_1.slots) (hops : ∀ k, 4 * k + 4 ≤ L → am_ops (J k) (J (k + 1))) :
    ∀ (d k : Nat) (h : am_H) (c sl : Nat), 4 * k ≤ L + 4 → L < 4 * k + 4 * d + 4 → J k h c sl → LW L xs 18 [(3, .int (nI (4 * k))), (2, .ref 51), (1, .ref 0), (0, .retAddr 0)] [] h c sl := by
  intro d
  induction d with
  | zero =>
    intro k h c sl hkL hd hJ
    refine LW_go 9 ?_
    have key : Int32.ofNat L - Int32.ofInt 4 < nI (4 * k) := by
      show nI L - nI 4 < nI (4 * k)
      rw [Int32.lt_iff_toInt_lt, pk_sub_toInt (by omega) (by omega)]
      by_cases hk : 4 * k < 2 ^ 31
      · rw [nI_toInt hk]; omega
      · exfalso; exact hk (by omega)
    refine And.intro (fun _ => ?_) (fun hn => absurd key hn)
    exact And.intro rfl (hb k h c sl hJ)
  | succ d ih =>
    intro k h c sl hkL hd hJ
    by_cases hlast : L < 4 * k + 4
    · exact ih k h c sl hkL (by omega) hJ
    · have hk4 : 4 * k + 4 ≤ L := by omega
      obtain ⟨hi, hi0⟩ := lw_iv hk4 hL
      have ho := hops k hk4
      have nkey : ¬ Int32.ofNat L - Int32.ofInt 4 < nI (4 * k) := by
        show ¬ nI L - nI 4 < nI (4 * k)
        rw [Int32.lt_iff_toInt_lt, pk_sub_toInt (by omega) (by omega), nI_toInt (by omega)]
        omega
      have fin : ∀ h2 c2 sl2, J (k + 1) h2 c2 sl2 → LW L xs 1016 [(3, .int (nI (4 * k))), (2, .ref 51), (1, .ref 0), (0, .retAddr 0)] [] h2 c2 sl2 := by
        intro h2 c2 sl2 hJ2
        refine LW_go 2 ?_
        have g := ih (k + 1) h2 c2 sl2 (by omega) (by omega) hJ2
        rw [show nI (4 * (k + 1)) = nI (4 * k) + Int32.ofInt 4 by rw [show Int32.ofInt 4 = nI 4 from rfl, nI_add]; rfl] at g
        exact g
      refine LW_go 6 ?_
      refine And.intro (fun hp => absurd hp nkey) (fun _ => ?_)
      refine LW_go 5 ?_
      refine And.intro hi0 ?_
      obtain ⟨j, hj, hje⟩ := pk_andE (xs (nI (4 * k)).toNatClampNeg) (m := Int32.ofInt 31) 5 (by decide)
      show LW L xs 32 [(3, .int (nI (4 * k))), (2, .ref 51), (1, .ref 0), (0, .retAddr 0)] [.int (xs (nI (4 * k)).toNatClampNeg &&& Int32.ofInt 31)] h c sl
      rw [hje]
      have hj : j < 32 := hj
      refine LW_go 1 ?_
      rcases (by omega : j = 0 ∨ j = 1 ∨ j = 2 ∨ j = 3 ∨ j = 4 ∨ j = 5 ∨ j = 6 ∨ j = 7 ∨ j = 8 ∨ j = 9 ∨ j = 10 ∨ j = 11 ∨ j = 12 ∨ j = 13 ∨ j = 14 ∨ j = 15 ∨ j = 16 ∨ j = 17 ∨ j = 18 ∨ j = 19 ∨ j = 20 ∨ j = 21 ∨ j = 22 ∨ j = 23 ∨ j = 24 ∨ j = 25 ∨ j = 26 ∨ j = 27 ∨ j = 28 ∨ j = 29 ∨ j = 30 ∨ j = 31) with rfl | rfl | rfl | rfl | rfl | rfl | rfl | rfl | rfl | rfl | rfl | rfl | rfl | rfl | rfl | rfl | rfl | rfl | rfl | rfl | rfl | rfl | rfl | rfl | rfl | rfl | rfl | rfl | rfl | rfl | rfl | rfl
      · exact And.intro (fun hq => absurd hq (by decide)) (fun _ _ => ⟨140, 172, rfl, rfl, lwc_0 hi ho.1 hJ fin⟩)
      · exact And.intro (fun hq => absurd hq (by decide)) (fun _ _ => ⟨193, 225, rfl, rfl, lwc_1 hi ho.2.1 hJ fin⟩)
      · exact And.intro (fun hq => absurd hq (by decide)) (fun _ _ => ⟨206, 238, rfl, rfl, lwc_2 hi ho.2.2.1 hJ fin⟩)
      · exact And.intro (fun hq => absurd hq (by decide)) (fun _ _ => ⟨229, 261, rfl, rfl, lwc_3 hi ho.2.2.2.1 hJ fin⟩)
      · exact And.intro (fun hq => absurd hq (by decide)) (fun _ _ => ⟨242, 274, rfl, rfl, lwc_4 hi ho.2.2.2.2.1 hJ fin⟩)
      · exact And.intro (fun hq => absurd hq (by decide)) (fun _ _ => ⟨255, 287, rfl, rfl, lwc_5 hi ho.2.2.2.2.2.1 hJ fin⟩)
      · exact And.intro (fun hq => absurd hq (by decide)) (fun _ _ => ⟨288, 320, rfl, rfl, lwc_6 hi ho.2.2.2.2.2.2.1 hJ fin⟩)
      · exact And.intro (fun hq => absurd hq (by decide)) (fun _ _ => ⟨311, 343, rfl, rfl, lwc_7 hi ho.2.2.2.2.2.2.2.1 hJ fin⟩)
      · exact And.intro (fun hq => absurd hq (by decide)) (fun _ _ => ⟨344, 376, rfl, rfl, lwc_8 hi ho.2.2.2.2.2.2.2.2.1 hJ fin⟩)
      · exact And.intro (fun hq => absurd hq (by decide)) (fun _ _ => ⟨377, 409, rfl, rfl, lwc_9 hi ho.2.2.2.2.2.2.2.2.2.1 hJ fin⟩)
      · exact And.intro (fun hq => absurd hq (by decide)) (fun _ _ => ⟨410, 442, rfl, rfl, lwc_10 hi ho.2.2.2.2.2.2.2.2.2.2.1 hJ fin⟩)
      · exact And.intro (fun hq => absurd hq (by decide)) (fun _ _ => ⟨443, 475, rfl, rfl, lwc_11 hi ho.2.2.2.2.2.2.2.2.2.2.2.1 hJ fin⟩)
      · exact And.intro (fun hq => absurd hq (by decide)) (fun _ _ => ⟨486, 518, rfl, rfl, lwc_12 hi ho.2.2.2.2.2.2.2.2.2.2.2.2.1 hJ fin⟩)
      · exact And.intro (fun hq => absurd hq (by decide)) (fun _ _ => ⟨509, 541, rfl, rfl, lwc_13 hi ho.2.2.2.2.2.2.2.2.2.2.2.2.2.1 hJ fin⟩)
      · exact And.intro (fun hq => absurd hq (by decide)) (fun _ _ => ⟨542, 574, rfl, rfl, lwc_14 hi ho.2.2.2.2.2.2.2.2.2.2.2.2.2.2.1 hJ fin⟩)
      · exact And.intro (fun hq => absurd hq (by decide)) (fun _ _ => ⟨585, 617, rfl, rfl, lwc_15 hi ho.2.2.2.2.2.2.2.2.2.2.2.2.2.2.2.1 hJ fin⟩)
      · exact And.intro (fun hq => absurd hq (by decide)) (fun _ _ => ⟨628, 660, rfl, rfl, lwc_16 hi ho.2.2.2.2.2.2.2.2.2.2.2.2.2.2.2.2.1 hJ fin⟩)
      · exact And.intro (fun hq => absurd hq (by decide)) (fun _ _ => ⟨651, 683, rfl, rfl, lwc_17 hi ho.2.2.2.2.2.2.2.2.2.2.2.2.2.2.2.2.2.1 hJ fin⟩)
      · exact And.intro (fun hq => absurd hq (by decide)) (fun _ _ => ⟨664, 696, rfl, rfl, lwc_18 hi ho.2.2.2.2.2.2.2.2.2.2.2.2.2.2.2.2.2.2.1 hJ fin⟩)
      · exact And.intro (fun hq => absurd hq (by decide)) (fun _ _ => ⟨677, 709, rfl, rfl, lwc_19 hi ho.2.2.2.2.2.2.2.2.2.2.2.2.2.2.2.2.2.2.2.1 hJ fin⟩)
      · exact And.intro (fun hq => absurd hq (by decide)) (fun _ _ => ⟨700, 732, rfl, rfl, lwc_20 hi ho.2.2.2.2.2.2.2.2.2.2.2.2.2.2.2.2.2.2.2.2.1 hJ fin⟩)
      · exact And.intro (fun hq => absurd hq (by decide)) (fun _ _ => ⟨723, 755, rfl, rfl, lwc_21 hi ho.2.2.2.2.2.2.2.2.2.2.2.2.2.2.2.2.2.2.2.2.2.1 hJ fin⟩)
      · exact And.intro (fun hq => absurd hq (by decide)) (fun _ _ => ⟨756, 788, rfl, rfl, lwc_22 hi ho.2.2.2.2.2.2.2.2.2.2.2.2.2.2.2.2.2.2.2.2.2.2.1 hJ fin⟩)
      · exact And.intro (fun hq => absurd hq (by decide)) (fun _ _ => ⟨779, 811, rfl, rfl, lwc_23 hi ho.2.2.2.2.2.2.2.2.2.2.2.2.2.2.2.2.2.2.2.2.2.2.2.1 hJ fin⟩)
      · exact And.intro (fun hq => absurd hq (by decide)) (fun _ _ => ⟨822, 854, rfl, rfl, lwc_24 hi ho.2.2.2.2.2.2.2.2.2.2.2.2.2.2.2.2.2.2.2.2.2.2.2.2.1 hJ fin⟩)
      · exact And.intro (fun hq => absurd hq (by decide)) (fun _ _ => ⟨845, 877, rfl, rfl, lwc_25 hi ho.2.2.2.2.2.2.2.2.2.2.2.2.2.2.2.2.2.2.2.2.2.2.2.2.2.1 hJ fin⟩)
      · exact And.intro (fun hq => absurd hq (by decide)) (fun _ _ => ⟨858, 890, rfl, rfl, lwc_26 hi ho.2.2.2.2.2.2.2.2.2.2.2.2.2.2.2.2.2.2.2.2.2.2.2.2.2.2.1 hJ fin⟩)
      · exact And.intro (fun hq => absurd hq (by decide)) (fun _ _ => ⟨891, 923, rfl, rfl, lwc_27 hi ho.2.2.2.2.2.2.2.2.2.2.2.2.2.2.2.2.2.2.2.2.2.2.2.2.2.2.2.1 hJ fin⟩)
      · exact And.intro (fun hq => absurd hq (by decide)) (fun _ _ => ⟨924, 956, rfl, rfl, lwc_28 hi ho.2.2.2.2.2.2.2.2.2.2.2.2.2.2.2.2.2.2.2.2.2.2.2.2.2.2.2.2.1 hJ fin⟩)
      · exact And.intro (fun hq => absurd hq (by decide)) (fun _ _ => ⟨947, 979, rfl, rfl, lwc_29 hi ho.2.2.2.2.2.2.2.2.2.2.2.2.2.2.2.2.2.2.2.2.2.2.2.2.2.2.2.2.2.1 hJ fin⟩)
      · exact And.intro (fun hq => absurd hq (by decide)) (fun _ _ => ⟨970, 1002, rfl, rfl, lwc_30 hi ho.2.2.2.2.2.2.2.2.2.2.2.2.2.2.2.2.2.2.2.2.2.2.2.2.2.2.2.2.2.2.1 hJ fin⟩)
      · exact And.intro (fun _ => ⟨1016, rfl, fin h c sl (ho.2.2.2.2.2.2.2.2.2.2.2.2.2.2.2.2.2.2.2.2.2.2.2.2.2.2.2.2.2.2.2 h c sl hJ)⟩) (fun _ hq => absurd (by decide) hq)
/-- the law out of an invariant: it holds of the two fresh objects, and each call keeps it -/
theorem law_start {L : Nat} {xs : Nat → Int32} (hL : L ≤ 2048) (J : Nat → am_H → Nat → Nat → Prop) (hb : ∀ k h c sl, J k h c sl → c ≤ room_1.cells ∧ sl ≤ room_1.slots) (hops : ∀ k, 4 * k + 4 ≤ L → am_ops (J k) (J (k + 1))) (h0 : J 0 hF 87 800102) : LW L xs 0 [(0, .retAddr 0)] [] am_h0 0 0 := by
  refine LW_newN (n := 0) (okL_law.1 0 _ _ rfl) (ci := 8) rfl qL_7 (Nat.le_of_ble_eq_true rfl) (Nat.le_of_ble_eq_true rfl) rfl (fun h1 w1 => ?_)
  obtain ⟨hn, hKq, -, -, e1⟩ := w1
  refine LW_go 1 ?_
  refine LW_callI (As := []) (R' := rX8_init 50 27305) (okL_law.1 4 _ _ rfl) lkX8_init (Or.inl kL_9) rfl (Nat.le_of_ble_eq_true rfl) ⟨by decide, by decide⟩ ⟨Nat.le_of_ble_eq_true rfl, Nat.le_of_ble_eq_true rfl⟩ (Nat.le_of_ble_eq_true rfl) (c_LT_init h1 hn hKq) (fun r h2 hq => ?_)
  obtain ⟨rfl, e2⟩ := hq
  have e2 : h2 = hF1 := by rw [e2, e1]; rfl
  subst e2
  refine LW_go 1 ?_
  refine LW_newN (n := 51) (okL_law.1 8 _ _ rfl) (ci := 9) rfl qL_10 (Nat.le_of_ble_eq_true rfl) (Nat.le_of_ble_eq_true rfl) (by decide +kernel) (fun h3 w3 => ?_)
  obtain ⟨hn3, hKq3, -, -, e3⟩ := w3
  refine LW_go 1 ?_
  refine LW_callI (As := []) (R' := rX9_init 35 772721) (okL_law.1 12 _ _ rfl) lkX9_init (Or.inl kL_12) rfl (Nat.le_of_ble_eq_true rfl) ⟨by decide, by decide⟩ ⟨Nat.le_of_ble_eq_true rfl, Nat.le_of_ble_eq_true rfl⟩ (Nat.le_of_ble_eq_true rfl) (c_Mo_init h3 hn3 hKq3) (fun r h4 hq => ?_)
  obtain ⟨rfl, e4⟩ := hq
  have e4 : h4 = hF := by rw [e4, e3]; rfl
  subst e4
  refine LW_go 3 ?_
  exact law_loop hL J hb hops (L + 1) 0 hF 87 800102 (by omega) (by omega) h0
