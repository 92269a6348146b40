/-! ===== ends and empty posts, the reference ===== -/
def tE (r : TR) (sd : Nat → Bool) (s : TS) (o : Nat) : Bool := !sd o || bt (r.fo o (s.1 o)) 0
def tEnd (r : TR) (sd : Nat → Bool) (s : TS) : Bool := tE r sd s 0 && (tE r sd s 1 && tE r sd s 2)
def tEmp (s : TS) : Bool := Nat.beq (s.2 0) 0 && (Nat.beq (s.2 1) 0 && (Nat.beq (s.2 2) 0 && (Nat.beq (s.2 3) 0 && (Nat.beq (s.2 4) 0 && Nat.beq (s.2 5) 0))))
def sd9 (h : am_H) (sd : Nat → Bool) : Prop := ∀ o, o < 3 → sd o = !decide (am_I h 58 o = Int32.ofInt (-1))
theorem and1 (M : Int32) : (M &&& Int32.ofInt 1) = bI (bt M 0) := by
  apply Int32.toBitVec.inj
  apply BitVec.eq_of_getLsbD_eq
  intro i hi
  rw [bI_bits _ i hi]
  show (M.toBitVec &&& 1#32).getLsbD i = _
  rw [BitVec.getLsbD_and, bt_1 i hi]
  by_cases h0 : i = 0
  · subst h0; rfl
  · simp [h0]
theorem ae_s (n : Nat) (x : Bool) {h : am_H} {r : TR} {s : TS} {sd : Nat → Bool} (hs : r.sk s) (t : T9 h r s) (hd : sd9 h sd) {o : Nat} (ho : o < 3) : g_X9_allAtEnds (n + 1) 0 (bI x) (nI o) h = g_X9_allAtEnds n 0 (bI (x && tE r sd s o)) (nI (o + 1)) h := by
  obtain ⟨M, eM, -, hM⟩ := fn9 hs t ho
  rw [g_X9_allAtEnds, if_neg (show ¬ Int32.ofInt 3 ≤ nI o from nI_ge (a := o) (b := 3) ho (by decide)), hp_1]
  cases x
  · rw [bI_f, if_pos (show Int32.ofInt 0 = 0 from rfl), b2s]; rfl
  · rw [bI_t, if_neg (show ¬ Int32.ofInt 1 = 0 by decide), eM, b2s, and1, Bool.true_and]
    have e : tE r sd s o = bt M 0 := by
      unfold tE
      rw [hd o ho]
      rcases hM with ⟨a, rfl⟩ | ⟨a, rfl⟩
      · rw [decide_eq_true a]; rfl
      · rw [decide_eq_false a]; rfl
    rw [e]
    cases bt M 0
    · rw [if_neg (show ¬ bI false = Int32.ofInt 1 by decide), b2s]; rfl
    · rw [if_pos (show bI true = Int32.ofInt 1 from rfl), b2s]; rfl
theorem ae_9 (n : Nat) {h : am_H} {r : TR} {s : TS} {sd : Nat → Bool} (hs : r.sk s) (t : T9 h r s) (hd : sd9 h sd) : f_X9_allAtEnds (n + 4) h = some (bI (tEnd r sd s), h) := by
  have e : f_X9_allAtEnds (n + 4) h = g_X9_allAtEnds (n + 3 + 1) 0 (bI true) (nI 0) h := rfl
  rw [e, ae_s (n + 3) true hs t hd (by decide), ae_s (n + 2) _ hs t hd (by decide), ae_s (n + 1) _ hs t hd (by decide), g_X9_allAtEnds, if_pos (show Int32.ofInt 3 ≤ nI (2 + 1) by decide), b01_bI, cond_true]
  unfold tEnd
  rw [Bool.true_and, Bool.and_assoc]
theorem pe_s (n : Nat) (x : Bool) {h : am_H} {k c : Nat} (hk : k < 9) (hc : am_I h 78 k = nI c) (hc2 : c < 128) : g_X9_postsEmpty (n + 1) 0 (bI x) (nI k) h = g_X9_postsEmpty n 0 (bI (x && Nat.beq c 0)) (nI (k + 1)) h := by
  rw [g_X9_postsEmpty, if_neg (show ¬ Int32.ofInt 9 ≤ nI k from nI_ge (a := k) (b := 9) hk (by decide)), hp_1]
  cases x
  · rw [bI_f, if_pos (show Int32.ofInt 0 = 0 from rfl), b_some]; rfl
  · rw [bI_t, if_neg (show ¬ Int32.ofInt 1 = 0 by decide), hp_vp hk (by decide), cond_true, nI_clamp (show k < 2 ^ 31 by omega), hc, Bool.true_and]
    have z : (nI c = 0) ↔ c = 0 := nI_eq (a := c) (b := 0) (by omega) (by decide)
    by_cases q : c = 0
    · rw [if_pos (z.mpr q), b_some, beq_t q]; rfl
    · rw [if_neg (fun e => q (z.mp e)), b_some, beq_f q]; rfl
theorem pe_9 (n : Nat) {h : am_H} {s : TS} (w : W9 h s) (hw : wOk s) (z0 : am_I h 78 0 = nI 0) (z4 : am_I h 78 4 = nI 0) (z8 : am_I h 78 8 = nI 0) : f_X9_postsEmpty (n + 10) h = some (bI (tEmp s), h) := by
  obtain ⟨-, x1, x2, x3, x5, x6, x7⟩ := w
  have e : f_X9_postsEmpty (n + 10) h = g_X9_postsEmpty (n + 9 + 1) 0 (bI true) (nI 0) h := rfl
  rw [e, pe_s (n + 9) true (by decide) z0 (by decide), pe_s (n + 8) _ (by decide) x1 (hw.2 0 (by decide)), pe_s (n + 7) _ (by decide) x2 (hw.2 1 (by decide)), pe_s (n + 6) _ (by decide) x3 (hw.2 2 (by decide)), pe_s (n + 5) _ (by decide) z4 (by decide), pe_s (n + 4) _ (by decide) x5 (hw.2 3 (by decide)), pe_s (n + 3) _ (by decide) x6 (hw.2 4 (by decide)), pe_s (n + 2) _ (by decide) x7 (hw.2 5 (by decide)), pe_s (n + 1) _ (by decide) z8 (by decide), g_X9_postsEmpty, if_pos (show Int32.ofInt 9 ≤ nI (8 + 1) by decide), b01_bI, cond_true]
  unfold tEmp
  simp only [show Nat.beq 0 0 = true from rfl, Bool.true_and, Bool.and_true, Bool.and_assoc]
