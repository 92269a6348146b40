/-! ===== what a state is: the reference's isSo ===== -/
def tIs (r : TR) (sd : Nat → Bool) (s : TS) (w : Nat) : Bool := if w = 0 then Nat.beq (ts_all r s).length 0 && !tEnd r sd s else if w = 1 then Nat.beq (ts_all r s).length 0 && (tEnd r sd s && !tEmp s) else if w = 2 then tWr r sd s 0 || (tWr r sd s 1 || tWr r sd s 2) else tEnd r sd s && tEmp s
def Z9 (h : am_H) : Prop := am_I h 78 0 = nI 0 ∧ am_I h 78 4 = nI 0 ∧ am_I h 78 8 = nI 0
theorem is_9 {h : am_H} {r : TR} (hr : r.ok) {s : TS} (hs : r.sk s) (t : T9 h r s) (z : Z9 h) {sd : Nat → Bool} (hd : sd9 h sd) (hv : ∀ o, o < 3 → ∃ v, v < 65536 ∧ r.fo o (s.1 o) = nI v) {w : Nat} (hw : w < 5) (h3 : w ≠ 3) (F : Nat) (hF : 110 ≤ F) : ∃ h', f_X9_isSo F (nI w) h = some (bI (tIs r sd s w), h') ∧ L9 h' (ts_all r s) ∧ frS h h' := by
  obtain ⟨h2, e2, l2, f2⟩ := l9_list hr hs t F (by omega)
  have t2 := T9_fr t f2
  have w2 := T9_W t2
  have r89 : am_I h2 78 = am_I h 78 := f2.2.1 78 (by decide) (by decide)
  have r69 : am_I h2 58 = am_I h 58 := f2.2.1 58 (by decide) (by decide)
  have d2 : sd9 h2 sd := fun o ho => by rw [r69]; exact hd o ho
  have z0 : am_I h2 78 0 = nI 0 := by rw [r89]; exact z.1
  have z4 : am_I h2 78 4 = nI 0 := by rw [r89]; exact z.2.1
  have z8 : am_I h2 78 8 = nI 0 := by rw [r89]; exact z.2.2
  have ae := ae_9 (F - 4) hs t2 d2
  rw [show F - 4 + 4 = F from by omega] at ae
  have pe := pe_9 (F - 10) w2 (sk_w hs) z0 z4 z8
  rw [show F - 10 + 10 = F from by omega] at pe
  have w0 := wr_9 hr hs t2 (o := 0) (by decide) z0 (hv 0 (by decide)) d2 F (by omega)
  have w1 := wr_9 hr hs t2 (o := 1) (by decide) z4 (hv 1 (by decide)) d2 F (by omega)
  have w3 := wr_9 hr hs t2 (o := 2) (by decide) z8 (hv 2 (by decide)) d2 F (by omega)
  have k0 := off_len r s 0 15
  have k1 := off_len r s 1 15
  have k2 := off_len r s 2 15
  have ln : (ts_all r s).length ≤ 90 := by unfold ts_all; rw [List.length_append, List.length_append]; omega
  have c0 : (nI (ts_all r s).length = 0) ↔ (ts_all r s).length = 0 := nI_eq (b := 0) (by omega) (by decide)
  refine ⟨h2, ?_, l2, f2⟩
  unfold f_X9_isSo tIs
  rw [e2, b2s]
  match w, hw, h3 with
  | 0, _, _ =>
    rw [if_pos (show nI 0 = Int32.ofInt 0 from rfl), if_pos rfl, l2.1]
    by_cases q : (ts_all r s).length = 0
    · rw [if_pos (c0.mpr q), ae, b2s, beq_t q]
      cases tEnd r sd s <;> rfl
    · rw [if_neg (fun x => q (c0.mp x)), beq_f q]; rfl
  | 1, _, _ =>
    rw [if_neg (show ¬ nI 1 = Int32.ofInt 0 by decide), if_pos (show nI 1 = Int32.ofInt 1 from rfl), if_neg (show ¬ (1 : Nat) = 0 by decide), if_pos rfl, l2.1]
    by_cases q : (ts_all r s).length = 0
    · rw [if_pos (c0.mpr q), ae, b2s, beq_t q, pe, b2s]
      cases tEnd r sd s <;> cases tEmp s <;> rfl
    · rw [if_neg (fun x => q (c0.mp x)), beq_f q]; rfl
  | 2, _, _ =>
    rw [if_neg (show ¬ nI 2 = Int32.ofInt 0 by decide), if_neg (show ¬ nI 2 = Int32.ofInt 1 by decide), if_pos (show nI 2 = Int32.ofInt 2 from rfl), if_neg (show ¬ (2 : Nat) = 0 by decide), if_neg (show ¬ (2 : Nat) = 1 by decide), if_pos rfl]
    rw [show f_X9_isWrong F (Int32.ofInt 0) h2 = some (bI (tWr r sd s 0), h2) from w0, b2s, show f_X9_isWrong F (Int32.ofInt 1) h2 = some (bI (tWr r sd s 1), h2) from w1, b2s, show f_X9_isWrong F (Int32.ofInt 2) h2 = some (bI (tWr r sd s 2), h2) from w3, b2s]
    cases tWr r sd s 0 <;> cases tWr r sd s 1 <;> cases tWr r sd s 2 <;> rfl
  | 4, _, _ =>
    rw [if_neg (show ¬ nI 4 = Int32.ofInt 0 by decide), if_neg (show ¬ nI 4 = Int32.ofInt 1 by decide), if_neg (show ¬ nI 4 = Int32.ofInt 2 by decide), if_neg (show ¬ (4 : Nat) = 0 by decide), if_neg (show ¬ (4 : Nat) = 1 by decide), if_neg (show ¬ (4 : Nat) = 2 by decide), ae, b2s, pe, b2s]
    cases tEnd r sd s <;> cases tEmp s <;> rfl
/-- the class's mark, bit by bit -/
theorem mk_bits (r : TR) (sd : Nat → Bool) (s : TS) {w : Nat} (hw : w < 5) (h3 : w ≠ 3) : (((Int32.toUInt32 (tMark r sd s) >>> (Int32.toUInt32 (nI w) &&& Int32.toUInt32 31)).toInt32) &&& (Int32.ofInt 1)) = bI (tIs r sd s w) := by
  rw [bt_8 _ (by omega)]
  congr 1
  unfold tMark tIs
  generalize (tWr r sd s 0 || (tWr r sd s 1 || tWr r sd s 2)) = x
  generalize tEnd r sd s = a
  generalize tEmp s = b
  generalize Nat.beq (ts_all r s).length 0 = c
  match w, hw, h3 with
  | 0, _, _ => cases x <;> cases a <;> cases b <;> cases c <;> decide
  | 1, _, _ => cases x <;> cases a <;> cases b <;> cases c <;> decide
  | 2, _, _ => cases x <;> cases a <;> cases b <;> cases c <;> decide
  | 4, _, _ => cases x <;> cases a <;> cases b <;> cases c <;> decide
