/-! ===== the two fresh objects ===== -/
def S0 : PS := ((0, fun _ => Int32.ofInt 0), (0, (fun _ => 0), (fun _ _ => 0), (fun _ _ => Int32.ofInt 0)), (0, (fun _ => 0), (fun _ _ => Int32.ofInt 0)), ((fun _ => none), (fun _ => 0), 2), s00, Int32.ofInt 0, 0)
theorem PSok_0 : PSok S0 := ⟨by decide, by decide, fun k hk => absurd hk (Nat.not_lt_zero _), by decide, fun k hk => absurd hk (Nat.not_lt_zero _), fun _ _ => Or.inl rfl, fun _ _ => (by decide : 0 < 5), ⟨by decide, by decide⟩, reach_0 _, by decide, fun _ _ => rfl⟩
/-- numbers of the fresh heap -/
def fI (h : am_H) : Prop := (am_I h 1 1 = nI 0 ∧ am_I h 0 5 = nI 0 ∧ am_I h 0 7 = nI 0 ∧ am_I h 28 0 = nI 2 ∧ am_I h 0 11 = Int32.ofInt 0 ∧ am_I h 0 17 = nI 0 ∧ am_I h 0 13 = nI 0 ∧ am_I h 0 14 = nI 0 ∧ am_J h 0 10 = lL 0) ∧ (∀ j, j < 60 → am_I h 2 j = Int32.ofInt 0 ∧ am_I h 52 j = Int32.ofInt 0) ∧ (∀ p, p < 6 → am_I h 29 p = nI 0) ∧ (∀ p, p < 48 → am_I h 34 p = Int32.ofInt 0) ∧ (∀ o, o < 3 → am_I h 33 o = bI false ∧ am_I h 36 o = Int32.ofInt 0 ∧ am_I h 27 o = Int32.ofInt (-1) ∧ am_I h 77 o = nI 0 ∧ am_I h 58 o = Int32.ofInt (-1)) ∧ (∀ p, p < 9 → am_I h 59 p = nI 0 ∧ am_I h 78 p = nI 0) ∧ (am_I h 51 0 = nI 0 ∧ am_I h 51 2 = nI 0 ∧ am_I h 51 6 = nI 0 ∧ am_I h 51 11 = nI 2 ∧ am_I h 51 12 = Int32.ofInt 0 ∧ am_I h 51 13 = nI 0 ∧ am_I h 51 40 = Int32.ofInt (-1) ∧ am_I h 51 52 = nI 0)
/-- rows of the fresh heap -/
def fA (h : am_H) : Prop := h.1 = 87 ∧ (∀ k, k < 6 → 1 ≤ k → am_A h 12 k = some (12 + k) ∧ am_K h (12 + k) = .inr (0, if k = 2 then 1536 else 64)) ∧ (∀ k, k < 11 → 6 ≤ k → am_A h 19 k = some (14 + k) ∧ am_K h (14 + k) = .inr (0, 64)) ∧ (am_A h 37 13 = some 47 ∧ am_A h 37 14 = some 48 ∧ am_K h 47 = .inr (0, 4096) ∧ am_K h 48 = .inr (0, 4096))
set_option maxRecDepth 100000 in
theorem hF_I1 : am_I hF 1 1 = nI 0 ∧ am_I hF 0 5 = nI 0 ∧ am_I hF 0 7 = nI 0 ∧ am_I hF 28 0 = nI 2 ∧ am_I hF 0 11 = Int32.ofInt 0 ∧ am_I hF 0 17 = nI 0 ∧ am_I hF 0 13 = nI 0 ∧ am_I hF 0 14 = nI 0 ∧ am_J hF 0 10 = lL 0 := by decide +kernel
set_option maxRecDepth 100000 in
theorem hF_I2 : ∀ j, j < 60 → am_I hF 2 j = Int32.ofInt 0 ∧ am_I hF 52 j = Int32.ofInt 0 := by decide +kernel
set_option maxRecDepth 100000 in
theorem hF_I3 : ∀ p, p < 6 → am_I hF 29 p = nI 0 := by decide +kernel
set_option maxRecDepth 100000 in
theorem hF_I4 : ∀ p, p < 48 → am_I hF 34 p = Int32.ofInt 0 := by decide +kernel
set_option maxRecDepth 100000 in
theorem hF_I5 : ∀ o, o < 3 → am_I hF 33 o = bI false ∧ am_I hF 36 o = Int32.ofInt 0 ∧ am_I hF 27 o = Int32.ofInt (-1) ∧ am_I hF 77 o = nI 0 ∧ am_I hF 58 o = Int32.ofInt (-1) := by decide +kernel
set_option maxRecDepth 100000 in
theorem hF_I6 : ∀ p, p < 9 → am_I hF 59 p = nI 0 ∧ am_I hF 78 p = nI 0 := by decide +kernel
set_option maxRecDepth 100000 in
theorem hF_I7 : am_I hF 51 0 = nI 0 ∧ am_I hF 51 2 = nI 0 ∧ am_I hF 51 6 = nI 0 ∧ am_I hF 51 11 = nI 2 ∧ am_I hF 51 12 = Int32.ofInt 0 ∧ am_I hF 51 13 = nI 0 ∧ am_I hF 51 40 = Int32.ofInt (-1) ∧ am_I hF 51 52 = nI 0 := by decide +kernel
set_option maxRecDepth 100000 in
theorem hF_A1 : ∀ k, k < 6 → 1 ≤ k → am_A hF 12 k = some (12 + k) ∧ am_K hF (12 + k) = .inr (0, if k = 2 then 1536 else 64) := by decide +kernel
set_option maxRecDepth 100000 in
theorem hF_A2 : ∀ k, k < 11 → 6 ≤ k → am_A hF 19 k = some (14 + k) ∧ am_K hF (14 + k) = .inr (0, 64) := by decide +kernel
set_option maxRecDepth 100000 in
theorem hF_A3 : am_A hF 37 13 = some 47 ∧ am_A hF 37 14 = some 48 ∧ am_K hF 47 = .inr (0, 4096) ∧ am_K hF 48 = .inr (0, 4096) := by decide +kernel
theorem hF_fI : fI hF := ⟨hF_I1, hF_I2, hF_I3, hF_I4, hF_I5, hF_I6, hF_I7⟩
theorem hF_fA : fA hF := ⟨hF_n, hF_A1, hF_A2, hF_A3⟩
/-- marks of the fresh cells -/
def w00 (p : Nat) : Nat := if 13 ≤ p ∧ p ≤ 17 then 1 else if 20 ≤ p ∧ p ≤ 24 then 2 else if 47 ≤ p ∧ p ≤ 48 then 3 else 9
theorem w00_1 {p : Nat} (a : 13 ≤ p) (b : p ≤ 17) : w00 p = 1 := by unfold w00; rw [if_pos ⟨a, b⟩]
theorem w00_2 {p : Nat} (a : 20 ≤ p) (b : p ≤ 24) : w00 p = 2 := by unfold w00; rw [if_neg (by omega), if_pos ⟨a, b⟩]
theorem w00_9 (p : Nat) : w00 p = 9 ∨ (13 ≤ p ∧ p ≤ 17 ∧ w00 p = 1) ∨ (20 ≤ p ∧ p ≤ 24 ∧ w00 p = 2) ∨ (47 ≤ p ∧ p ≤ 48 ∧ w00 p = 3) := by
  unfold w00
  split
  · next q => exact Or.inr (Or.inl ⟨q.1, q.2, rfl⟩)
  · split
    · next q => exact Or.inr (Or.inr (Or.inl ⟨q.1, q.2, rfl⟩))
    · split
      · next q => exact Or.inr (Or.inr (Or.inr ⟨q.1, q.2, rfl⟩))
      · exact Or.inl rfl
theorem JJ_0 {h : am_H} (st : am_stat h) (i : fI h) (a : fA h) : JJ h 87 800102 := by
  obtain ⟨⟨i1, i2, i3, i4, i5, i6, i7, i8, i9⟩, t, kd, fo, se, po, ⟨r1, r2, r3, r4, r5, r6, r7, r8⟩⟩ := i
  obtain ⟨n, a1, a2, ⟨a3, a4, a5, a6⟩⟩ := a
  have g3 : GR h 37 4096 47 48 := ⟨⟨a3, a4, a5, a6⟩, ⟨by decide, by omega, by omega, by omega⟩, Or.inl rfl, Or.inl rfl, by decide, by decide⟩
  have fl : ∀ o j, S0.fol o j = Int32.ofInt 0 := fun o j => fol_none (S := S0) rfl j
  refine ⟨S0, PSok_0, ⟨w00, (fun _ => 0), 64, (fun k => 12 + k), 64, (fun k => 14 + k), 4096, 47, 48, st, ⟨sK st 1, sA st 1 0, sK st 2, i1, fun j hj => (t j hj).1, by decide, by decide, by decide⟩, ⟨i2, fun k hk => absurd hk (Nat.not_lt_zero _), fun k _ hk => absurd hk (Nat.not_lt_zero _)⟩, ⟨i3, fun k hk => absurd hk (Nat.not_lt_zero _)⟩, ⟨⟨⟨i4, kd, fun o j ho hj => ?_, fun o k ho hk k1 hv => ?_⟩, fun o ho => ⟨(se o ho).1, by rw [(se o ho).2.1]; exact bt_zero 0⟩, ?_⟩, fun o ho => (se o ho).2.2.1, fun o k ho k1 hk => ?_, i5, i6⟩, ⟨⟨⟨fun k k1 k5 => ?_, fun x y _ _ _ _ e => (by have e : 12 + x = 12 + y := e; omega), by omega⟩, ⟨by decide, by decide⟩, fun k k1 k5 => w00_1 (show 13 ≤ 12 + k by omega) (show 12 + k ≤ 17 by omega)⟩, ⟨⟨fun k k6 k10 => ?_, fun x y _ _ _ _ e => (by have e : 14 + x = 14 + y := e; omega), by omega⟩, by decide, fun k k6 k10 => w00_2 (show 20 ≤ 14 + k by omega) (show 14 + k ≤ 24 by omega)⟩, ⟨g3, rfl, rfl⟩, fun p _ => w00_9 p⟩, ⟨⟨g3, Or.inl i7⟩, Or.inl i8⟩, (show CO 87 800102 64 64 4096 0 0 0 from ⟨by omega, by omega⟩)⟩, st, ⟨⟨r1, fun j hj => (t j hj).2⟩, ⟨r2, fun k hk => absurd hk (Nat.not_lt_zero _)⟩, ⟨r3, fun k hk => absurd hk (Nat.not_lt_zero _)⟩⟩, ⟨⟨r4, fun f u hf hu ne => ⟨(po _ (by omega)).1, (po _ (by omega)).2⟩, fun o ho => (se o ho).2.2.2.1, fun o ho => (se o ho).2.2.2.2⟩, ⟨(po 0 (by decide)).2, (po 4 (by decide)).2, (po 8 (by decide)).2⟩, r7, r5, r6⟩, Or.inl r8⟩
  · show am_I h 34 (16 * o + j) = S0.fol o j
    rw [fl, fo _ (by omega)]
  · obtain ⟨j, hj, bj⟩ := hv
    have bj : bt (S0.fol o j) k = true := bj
    rw [fl, bt_zero] at bj
    cases bj
  · show am_J h 0 10 = lL (S0.r.N s00)
    rw [N0_ru PSok_0]; exact i9
  · have hk : k ≤ 0 := hk
    omega
  · obtain ⟨x, y⟩ := a1 k (by omega) k1
    refine ⟨x, show 12 + k < h.1 by omega, show 12 + k ≠ 12 by omega, show 12 + k ≠ 18 by omega, ?_⟩
    show am_K h (12 + k) = .inr (0, if k = 2 then 24 * 64 else 64)
    rw [y]
  · obtain ⟨x, y⟩ := a2 k (by omega) k6
    exact ⟨x, show 14 + k < h.1 by omega, show 14 + k ≠ 19 by omega, y⟩
theorem JJ_hF : JJ hF 87 800102 := JJ_0 hF_stat hF_fI hF_fA
theorem all_cl {h : am_H} {c sl : Nat} (J : JJ h c sl) : am_stat h ∧ po_all JJ h c sl := ⟨(cl_1 J).1, fun w => (cl_0 w J).2, (cl_1 J).2, fun a1 => (cl_2 a1 J).2, (cl_3 J).2, (cl_4 J).2, fun a1 a2 => (cl_5 a1 a2 J).2, fun a1 => (cl_6 a1 J).2, fun a1 a2 => (cl_7 a1 a2 J).2, fun a1 a2 => (cl_8 a1 a2 J).2, fun a1 a2 => (cl_9 a1 a2 J).2, fun a1 a2 => (cl_10 a1 a2 J).2, fun a1 a2 a3 => (cl_11 a1 a2 a3 J).2, fun a1 => (cl_12 a1 J).2, fun a1 a2 => (cl_13 a1 a2 J).2, fun a1 a2 a3 => (cl_14 a1 a2 a3 J).2, fun a1 a2 a3 => (cl_15 a1 a2 a3 J).2, fun a1 => (cl_16 a1 J).2, (cl_17 J).2, (cl_18 J).2, fun a1 => (cl_19 a1 J).2, fun a1 => (cl_20 a1 J).2, fun a1 a2 => (cl_21 a1 a2 J).2, fun a1 => (cl_22 a1 J).2, fun a1 a2 a3 => (cl_23 a1 a2 a3 J).2, fun a1 => (cl_24 a1 J).2, (cl_25 J).2, fun a1 a2 => (cl_26 a1 a2 J).2, fun a1 a2 => (cl_27 a1 a2 J).2, fun a1 => (cl_28 a1 J).2, fun a1 => (cl_29 a1 J).2, (cl_30 J).2, J⟩
theorem law_holds (L : Nat) (xs : Nat → Int32) (hL : L ≤ 2048) : LW L xs 0 [(0, .retAddr 0)] [] am_h0 0 0 := by
  refine law_start hL (fun _ => JJ) ?_ ?_ JJ_hF
  · intro k h c sl hJ
    obtain ⟨S, ok, x8, x9⟩ := hJ
    exact X8_fit ok x8
  · intro k hk
    exact po_ops (fun h c sl hJ => all_cl hJ)
