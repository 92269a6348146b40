/-! ===== wrong letters: the reference's loop ===== -/
theorem ps_d0 : rg_all 5 (fun k => rg_all 125 (fun c => !ps_ok k c || rg_all 3 (fun j => !Nat.blt j (ps_sz c) || (Nat.ble 1 (ps_lt c j) && Nat.ble (ps_lt c j) 4)))) = true := by decide +kernel
theorem ps_d {k c j : Nat} (hk : k < 5) (ho : ps_ok k c = true) (hj : j < ps_sz c) : 1 ≤ ps_lt c j ∧ ps_lt c j ≤ 4 := by
  have h3 := sz_le c
  have := imp_b (rg_ok (imp_b (rg_ok (rg_ok ps_d0 hk) (ps_lt125 ho)) ho) (show j < 3 by omega)) (blt_t hj)
  rw [Bool.and_eq_true] at this
  exact ⟨Nat.le_of_ble_eq_true this.1, Nat.le_of_ble_eq_true this.2⟩
/-- whether a letter of a mask may be taken -/
def tkj (k c : Nat) (W : Int32) (j : Nat) : Bool := (Nat.beq j 0 || Nat.beq k 1) && bt W (ps_lt c j - 1)
def tkW (k c : Nat) (W : Int32) : Bool := (Nat.blt 0 (ps_sz c) && tkj k c W 0) || ((Nat.blt 1 (ps_sz c) && tkj k c W 1) || (Nat.blt 2 (ps_sz c) && tkj k c W 2))
theorem wr_s (n : Nat) {h : am_H} {k c q j : Nat} (A X W : Int32) (x : Bool) (hq : q < 9) (hk : k < 5) (ho : ps_ok k c = true) (e70 : am_I h 59 q = nI k) (e89 : am_I h 78 q = nI c) (hj : j < ps_sz c) : g_X9_isWrong (n + 1) 1 A X W (nI q) (bI x) (nI j) h = g_X9_isWrong n 1 A X W (nI q) (bI (x || tkj k c W j)) (nI (j + 1)) h := by
  have h3 := sz_le c
  have c125 := ps_lt125 ho
  obtain ⟨l1, l4⟩ := ps_d hk ho hj
  rw [g_X9_isWrong, q10, cond_false, hp_vp hq (by decide), cond_true, nI_clamp (show q < 2 ^ 31 by omega), e89, sz9 c125, b2s, if_neg (nI_ge hj (by omega)), hp_1]
  cases x
  · rw [bI_f, if_pos (show Int32.ofInt 0 = 0 from rfl)]
    unfold am_let
    simp only [e89, lt9 c125 (show j < 3 by omega), b2s, nI_m1 (show ps_lt c j ≠ 0 by omega), bt_9 W (show ps_lt c j - 1 < 32 by omega), e70]
    have k1 : (nI k = Int32.ofInt 1) ↔ k = 1 := nI_eq (b := 1) (by omega) (by decide)
    have j0 : (nI j = 0) ↔ j = 0 := nI_eq (b := 0) (by omega) (by decide)
    have y : (if bI (bt W (ps_lt c j - 1)) = Int32.ofInt 1 then some (Int32.ofInt 1, h) else some (Int32.ofInt 0, h)) = some (bI (bt W (ps_lt c j - 1)), h) := by
      cases bt W (ps_lt c j - 1) <;> rfl
    rw [y]
    unfold tkj
    by_cases z : j = 0
    · rw [if_pos (j0.mpr z), b2s, beq_t z]; rfl
    · rw [if_neg (fun e => z (j0.mp e)), beq_f z]
      by_cases z1 : k = 1
      · rw [if_pos (k1.mpr z1), b2s, beq_t z1]; rfl
      · rw [if_neg (fun e => z1 (k1.mp e)), b2s, beq_f z1]; rfl
  · rw [bI_t, if_neg (show ¬ Int32.ofInt 1 = 0 by decide), b2s]; rfl
theorem wr_e (n : Nat) {h : am_H} {k c q : Nat} (A : Int32) {f : Nat} (hf : f < 3) (W : Int32) (x : Bool) (hq : q < 9) (ho : ps_ok k c = true) (e89 : am_I h 78 q = nI c) : g_X9_isWrong (n + 1) 1 A (nI f) W (nI q) (bI x) (nI (ps_sz c)) h = if W ≠ 0 ∧ c ≠ 0 ∧ x = false then some (Int32.ofInt 1, h) else g_X9_isWrong n 0 A (nI (f + 1)) 0 0 0 0 h := by
  have c125 := ps_lt125 ho
  have z : (nI c = 0) ↔ c = 0 := nI_eq (b := 0) (by omega) (by decide)
  rw [g_X9_isWrong, q10, cond_false, hp_vp hq (by decide), cond_true, nI_clamp (show q < 2 ^ 31 by omega), e89, sz9 c125, b2s, if_pos (Int32.le_refl _), hp_1]
  by_cases w : W = 0
  · rw [if_pos w, if_neg (fun e => e.1 w)]
  · rw [if_neg w, e89]
    by_cases c0 : c = 0
    · rw [if_pos (z.mpr c0), if_neg (fun e => e.2.1 c0)]
    · rw [if_neg (fun e => c0 (z.mp e))]
      cases x
      · rw [bI_f, if_pos (show Int32.ofInt 0 = 0 from rfl), if_pos ⟨w, c0, rfl⟩]
      · rw [bI_t, if_neg (show ¬ Int32.ofInt 1 = 0 by decide), if_neg (fun e => by cases e.2.2)]
theorem wr_i (n : Nat) {h : am_H} {k c q : Nat} (A : Int32) {f : Nat} (hf : f < 3) (W : Int32) (hq : q < 9) (hk : k < 5) (ho : ps_ok k c = true) (e70 : am_I h 59 q = nI k) (e89 : am_I h 78 q = nI c) : ∃ m, n ≤ m ∧ g_X9_isWrong (n + 4) 1 A (nI f) W (nI q) (Int32.ofInt 0) (Int32.ofInt 0) h = if W ≠ 0 ∧ c ≠ 0 ∧ tkW k c W = false then some (Int32.ofInt 1, h) else g_X9_isWrong m 0 A (nI (f + 1)) 0 0 0 0 h := by
  have h3 := sz_le c
  have e : g_X9_isWrong (n + 4) 1 A (nI f) W (nI q) (Int32.ofInt 0) (Int32.ofInt 0) h = g_X9_isWrong (n + 3 + 1) 1 A (nI f) W (nI q) (bI false) (nI 0) h := rfl
  have z : ps_sz c = 0 ∨ ps_sz c = 1 ∨ ps_sz c = 2 ∨ ps_sz c = 3 := by omega
  unfold tkW
  rw [e]
  rcases z with z | z | z | z
  · have fin := wr_e (n + 3) A hf W false hq ho e89
    rw [z] at fin
    refine ⟨n + 3, by omega, ?_⟩
    rw [fin, z]; rfl
  · have fin := wr_e (n + 2) A hf W (false || tkj k c W 0) hq ho e89
    rw [z] at fin
    refine ⟨n + 2, by omega, ?_⟩
    rw [wr_s (n + 3) A (nI f) W false hq hk ho e70 e89 (by omega), fin, z]
    simp only [show Nat.blt 0 1 = true from rfl, show Nat.blt 1 1 = false from rfl, show Nat.blt 2 1 = false from rfl, Bool.true_and, Bool.false_and, Bool.or_false, Bool.false_or]
  · have fin := wr_e (n + 1) A hf W (false || tkj k c W 0 || tkj k c W 1) hq ho e89
    rw [z] at fin
    refine ⟨n + 1, by omega, ?_⟩
    rw [wr_s (n + 3) A (nI f) W false hq hk ho e70 e89 (by omega), wr_s (n + 2) A (nI f) W _ hq hk ho e70 e89 (by omega), fin, z]
    simp only [show Nat.blt 0 2 = true from rfl, show Nat.blt 1 2 = true from rfl, show Nat.blt 2 2 = false from rfl, Bool.true_and, Bool.false_and, Bool.or_false, Bool.false_or]
  · have fin := wr_e n A hf W (false || tkj k c W 0 || tkj k c W 1 || tkj k c W 2) hq ho e89
    rw [z] at fin
    refine ⟨n, Nat.le_refl _, ?_⟩
    rw [wr_s (n + 3) A (nI f) W false hq hk ho e70 e89 (by omega), wr_s (n + 2) A (nI f) W _ hq hk ho e70 e89 (by omega), wr_s (n + 1) A (nI f) W _ hq hk ho e70 e89 (by omega), fin, z]
    simp only [show Nat.blt 0 3 = true from rfl, show Nat.blt 1 3 = true from rfl, show Nat.blt 2 3 = true from rfl, Bool.true_and, Bool.false_or, Bool.or_assoc]
