/-! ===== reading a text: one step of both readers, and the pure one ===== -/
def bI (b : Bool) : Int32 := bif b then Int32.ofInt 1 else Int32.ofInt 0
theorem bI_0 (b : Bool) : (bI b = 0) ↔ b = false := by cases b <;> decide
theorem bI_t : bI true = Int32.ofInt 1 := rfl
theorem bI_f : bI false = Int32.ofInt 0 := rfl
def rd_rg (lo hi c : Int32) : Bool := !decide (c < lo) && !decide (hi < c)
def rd_dig (c : Int32) : Bool := rd_rg (Int32.ofInt 48) (Int32.ofInt 50) c
def rd_let (c : Int32) : Bool := rd_rg (Int32.ofInt 97) (Int32.ofInt 100) c
def rd_mark (c : Int32) : Bool := decide (c = Int32.ofInt 33) || decide (c = Int32.ofInt 63)
def rd_st (sort c : Int32) : Bool := bif decide (sort = 0) then rd_mark c else rd_dig c
theorem rd_d5 (c : Int32) (h : am_H) : f_X5_isDigit c h = some (bI (rd_dig c), h) := by
  unfold f_X5_isDigit rd_dig rd_rg
  by_cases h1 : c < Int32.ofInt 48
  · rw [if_pos h1, decide_eq_true h1]; rfl
  · rw [if_neg h1, decide_eq_false h1]
    by_cases h2 : Int32.ofInt 50 < c
    · rw [if_pos h2, decide_eq_true h2]; rfl
    · rw [if_neg h2, decide_eq_false h2]; rfl
theorem rd_l5 (c : Int32) (h : am_H) : f_X5_isLetter c h = some (bI (rd_let c), h) := by
  unfold f_X5_isLetter rd_let rd_rg
  by_cases h1 : c < Int32.ofInt 97
  · rw [if_pos h1, decide_eq_true h1]; rfl
  · rw [if_neg h1, decide_eq_false h1]
    by_cases h2 : Int32.ofInt 100 < c
    · rw [if_pos h2, decide_eq_true h2]; rfl
    · rw [if_neg h2, decide_eq_false h2]; rfl
theorem rd_m5 (c : Int32) (h : am_H) : f_X5_isMark c h = some (bI (rd_mark c), h) := by
  unfold f_X5_isMark rd_mark
  by_cases h1 : c = Int32.ofInt 33
  · rw [if_pos h1, decide_eq_true h1]; rfl
  · rw [if_neg h1, decide_eq_false h1]
    by_cases h2 : c = Int32.ofInt 63
    · rw [if_pos h2, decide_eq_true h2]; rfl
    · rw [if_neg h2, decide_eq_false h2]; rfl
theorem b01_bI (b : Bool) : am_b01 (bI b) = true := by cases b <;> decide
theorem rd_s5 (sort c : Int32) (h : am_H) : f_X5_startsAct c sort h = some (bI (rd_st sort c), h) := by
  unfold f_X5_startsAct rd_st
  by_cases h1 : sort = 0
  · rw [if_pos h1, decide_eq_true h1, rd_m5, b2s, b2s, b01_bI]; rfl
  · rw [if_neg h1, decide_eq_false h1, rd_d5, b2s, b2s, b01_bI]; rfl
theorem rd_w9 (lo hi c : Int32) (h : am_H) : f_X9_within c lo hi h = some (bI (rd_rg lo hi c), h) := by
  unfold f_X9_within rd_rg
  by_cases h1 : c < lo
  · rw [if_pos h1, decide_eq_true h1]; rfl
  · rw [if_neg h1, decide_eq_false h1]
    by_cases h2 : hi < c
    · rw [if_pos h2, decide_eq_true h2]; rfl
    · rw [if_neg h2, decide_eq_false h2]; rfl
theorem rd_d9 (c : Int32) (h : am_H) : f_X9_isOfficeSign c h = some (bI (rd_dig c), h) := by
  unfold f_X9_isOfficeSign
  rw [rd_w9, b2s, b01_bI]; rfl
theorem rd_l9 (c : Int32) (h : am_H) : f_X9_isLetterSign c h = some (bI (rd_let c), h) := by
  unfold f_X9_isLetterSign
  rw [rd_w9, b2s, b01_bI]; rfl
/-- behind an item: the next phase and depth, or none -/
def rd_it (c : Int32) (d : Nat) : Option (Nat × Nat) :=
  if c = Int32.ofInt 59 then some (0, d) else if d = 0 then none else if c = Int32.ofInt 43 then some (0, d) else if c = Int32.ofInt 125 then some (4, d - 1) else none
def rd_step (sort last c : Int32) : Nat → Nat → Option (Nat × Nat)
  | 0, d => if c = Int32.ofInt 123 then some (0, d + 1) else bif rd_st sort c then some (1, d) else none
  | 1, d => bif rd_dig c then (if sort = 0 then some (2, d) else if c = last then none else some (2, d)) else none
  | 2, d => bif rd_let c then some (3, d) else none
  | 3, d => rd_it c d
  | _ + 4, d => if c = Int32.ofInt 42 then some (3, d) else rd_it c d
def rd_out (h : am_H) : Option (Nat × Nat) → Option (Int32 × am_H)
  | none => some (Int32.ofInt 5, h)
  | some (p, d) => some (nI p, am_sI h 3 2 (nI d))
theorem rd_s0 {h : am_H} {d : Nat} (h2 : am_I h 3 2 = nI d) : am_sI h 3 2 (nI d) = h := by rw [← h2, hp_sI_id]
theorem nI_le0 {d : Nat} (hd : d < 2 ^ 31) : (nI d ≤ 0) ↔ d = 0 := by
  rw [← nI_0, nI_leI hd (by decide)]; omega
theorem nI_m1 {d : Nat} (h0 : d ≠ 0) : nI d - Int32.ofInt 1 = nI (d - 1) := by
  obtain ⟨e, rfl⟩ := Nat.exists_eq_succ_of_ne_zero h0
  show nI (e + 1) - nI 1 = nI e
  rw [← nI_add]
  exact Int32.add_sub_cancel _ _
theorem nI_p1 {d : Nat} (h0 : d ≠ 0) : nI d + Int32.ofInt (-1) = nI (d - 1) := by
  rw [← nI_m1 h0, Int32.sub_eq_add_neg]
  rfl
theorem rd_8i {c : Int32} {d : Nat} {h : am_H} (h2 : am_I h 3 2 = nI d) (hd : d < 2 ^ 31) : f_X5_phaseBehindItem c h = rd_out h (rd_it c d) := by
  unfold f_X5_phaseBehindItem rd_it am_let
  rw [h2]
  by_cases a1 : c = Int32.ofInt 59
  · rw [if_pos a1, if_pos a1]
    show _ = some (nI 0, am_sI h 3 2 (nI d))
    rw [rd_s0 h2]; rfl
  · rw [if_neg a1, if_neg a1]
    by_cases a2 : d = 0
    · simp only [if_pos ((nI_le0 hd).mpr a2), if_pos a2]; rfl
    · simp only [if_neg (fun q => a2 ((nI_le0 hd).mp q)), if_neg a2]
      by_cases a3 : c = Int32.ofInt 43
      · rw [if_pos a3, if_pos a3]
        show _ = some (nI 0, am_sI h 3 2 (nI d))
        rw [rd_s0 h2]; rfl
      · rw [if_neg a3, if_neg a3]
        by_cases a4 : c = Int32.ofInt 125
        · rw [if_pos a4, if_pos a4, nI_m1 a2]; rfl
        · rw [if_neg a4, if_neg a4]; rfl
theorem rd_8 (sort last c : Int32) {ph d : Nat} {h : am_H} (h1 : am_I h 3 1 = nI ph) (hp : ph ≤ 4) (h2 : am_I h 3 2 = nI d) (hd : d + 1 < 2 ^ 31) : f_X5_phaseBehind c last sort h = rd_out h (rd_step sort last c ph d) := by
  unfold f_X5_phaseBehind
  rw [h1]
  match ph, hp with
  | 0, _ =>
    show (if nI 0 = Int32.ofInt 0 then _ else _) = rd_out h (if c = Int32.ofInt 123 then some (0, d + 1) else bif rd_st sort c then some (1, d) else none)
    rw [if_pos (show nI 0 = Int32.ofInt 0 from rfl)]
    by_cases a1 : c = Int32.ofInt 123
    · rw [if_pos a1, if_pos a1, h2, hp_1]; rfl
    · rw [if_neg a1, if_neg a1, rd_s5, b2s]
      cases rd_st sort c
      · rfl
      · show some (Int32.ofInt 1, h) = some (nI 1, am_sI h 3 2 (nI d))
        rw [rd_s0 h2]; rfl
  | 1, _ =>
    show (if nI 1 = Int32.ofInt 0 then _ else if nI 1 = Int32.ofInt 1 then _ else _) = rd_out h (bif rd_dig c then (if sort = 0 then some (2, d) else if c = last then none else some (2, d)) else none)
    rw [if_neg (by decide), if_pos (show nI 1 = Int32.ofInt 1 from rfl), rd_d5, b2s]
    cases rd_dig c
    · rfl
    · show (Option.bind (if sort = 0 then some (Int32.ofInt 2) else (if c = last then some (Int32.ofInt 5) else some (Int32.ofInt 2))) fun y63 => some (y63, h)) = rd_out h (if sort = 0 then some (2, d) else if c = last then none else some (2, d))
      by_cases a1 : sort = 0
      · rw [if_pos a1, if_pos a1]
        show some (Int32.ofInt 2, h) = some (nI 2, am_sI h 3 2 (nI d))
        rw [rd_s0 h2]; rfl
      · rw [if_neg a1, if_neg a1]
        by_cases a2 : c = last
        · rw [if_pos a2, if_pos a2]; rfl
        · rw [if_neg a2, if_neg a2]
          show some (Int32.ofInt 2, h) = some (nI 2, am_sI h 3 2 (nI d))
          rw [rd_s0 h2]; rfl
  | 2, _ =>
    show (if nI 2 = Int32.ofInt 0 then _ else if nI 2 = Int32.ofInt 1 then _ else if nI 2 = Int32.ofInt 2 then _ else _) = rd_out h (bif rd_let c then some (3, d) else none)
    rw [if_neg (by decide), if_neg (by decide), if_pos (show nI 2 = Int32.ofInt 2 from rfl), rd_l5, b2s]
    cases rd_let c
    · rfl
    · show some (Int32.ofInt 3, h) = some (nI 3, am_sI h 3 2 (nI d))
      rw [rd_s0 h2]; rfl
  | 3, _ =>
    show (if nI 3 = Int32.ofInt 0 then _ else if nI 3 = Int32.ofInt 1 then _ else if nI 3 = Int32.ofInt 2 then _ else if nI 3 = Int32.ofInt 3 then _ else _) = rd_out h (rd_it c d)
    rw [if_neg (by decide), if_neg (by decide), if_neg (by decide), if_pos (show nI 3 = Int32.ofInt 3 from rfl), rd_8i h2 (by omega)]
    cases rd_it c d <;> rfl
  | 4, _ =>
    show (if nI 4 = Int32.ofInt 0 then _ else if nI 4 = Int32.ofInt 1 then _ else if nI 4 = Int32.ofInt 2 then _ else if nI 4 = Int32.ofInt 3 then _ else if nI 4 = Int32.ofInt 4 then _ else _) = rd_out h (if c = Int32.ofInt 42 then some (3, d) else rd_it c d)
    rw [if_neg (by decide), if_neg (by decide), if_neg (by decide), if_neg (by decide), if_pos (show nI 4 = Int32.ofInt 4 from rfl)]
    by_cases a1 : c = Int32.ofInt 42
    · rw [if_pos a1, if_pos a1]
      show some (Int32.ofInt 3, h) = some (nI 3, am_sI h 3 2 (nI d))
      rw [rd_s0 h2]; rfl
    · rw [if_neg a1, if_neg a1, rd_8i h2 (by omega)]
      cases rd_it c d <;> rfl
