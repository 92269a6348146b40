/-! ===== posts: what lies in one, as both have it ===== -/
def ps_sz (c : Nat) : Nat := if c = 0 then 0 else if c < 5 then 1 else if c < 25 then 2 else 3
def ps_lt (c i : Nat) : Nat := if i = 0 then c % 5 else if i = 1 then c / 5 % 5 else c / 25
/-- a row of letters as the reference has it; k = 1: a heap, by letters -/
def ps_ok (k c : Nat) : Bool := Nat.blt c 125 && (Nat.ble (ps_sz c) 0 || (Nat.ble 1 (ps_lt c 0) && (Nat.ble (ps_sz c) 1 || (Nat.ble 1 (ps_lt c 1) && (!Nat.beq k 1 || Nat.ble (ps_lt c 0) (ps_lt c 1)) && (Nat.ble (ps_sz c) 2 || (Nat.ble 1 (ps_lt c 2) && (!Nat.beq k 1 || Nat.ble (ps_lt c 1) (ps_lt c 2))))))))
/-- the same, as the class has it -/
def ps_8 (k c : Nat) : Nat := if k = 1 then (if 1 ≤ ps_sz c then 4 ^ (ps_lt c 0 - 1) else 0) + (if 2 ≤ ps_sz c then 4 ^ (ps_lt c 1 - 1) else 0) + (if 3 ≤ ps_sz c then 4 ^ (ps_lt c 2 - 1) else 0) else ps_sz c + (if 1 ≤ ps_sz c then (ps_lt c 0 - 1) * 4 else 0) + (if 2 ≤ ps_sz c then (ps_lt c 1 - 1) * 16 else 0) + (if 3 ≤ ps_sz c then (ps_lt c 2 - 1) * 64 else 0)
/-- where a letter lies that may be taken (3: nowhere) -/
def ps_pl (k c a : Nat) : Nat := if 1 ≤ ps_sz c ∧ ps_lt c 0 = a + 1 then 0 else if k = 1 ∧ 2 ≤ ps_sz c ∧ ps_lt c 1 = a + 1 then 1 else if k = 1 ∧ 3 ≤ ps_sz c ∧ ps_lt c 2 = a + 1 then 2 else 3
def ps_wo (c i : Nat) : Nat := if i = 0 then c / 5 else if i = 1 then c % 5 + 5 * (c / 25) else c % 25
def ps_be (c a : Nat) : Nat := c + (if ps_sz c = 0 then 1 else if ps_sz c = 1 then 5 else 25) * (a + 1)
def ps_am (c a : Nat) : Nat := if ps_sz c = 0 then a + 1 else if a + 1 < ps_lt c 0 then (a + 1) + 5 * c else if ps_sz c = 1 then c + 5 * (a + 1) else if a + 1 < ps_lt c 1 then c % 5 + 5 * (a + 1) + 25 * (c / 5) else c + 25 * (a + 1)
def ps_put (k c a : Nat) : Nat := if k = 1 then ps_am c a else ps_be c a
theorem sz9 {c : Nat} (hc : c < 125) (h : am_H) : f_X9_sizeOf (nI c) h = some (nI (ps_sz c), h) := by
  unfold f_X9_sizeOf ps_sz
  by_cases h0 : c = 0
  · subst h0; rfl
  · rw [if_neg (nI_ne0 (by omega) (by omega)), if_neg h0]
    by_cases h5 : c < 5
    · rw [if_neg (show ¬ Int32.ofInt 5 ≤ nI c from nI_ge (a := c) (b := 5) h5 (by decide)), if_pos h5]; rfl
    · rw [if_pos (show Int32.ofInt 5 ≤ nI c from nI_le (a := 5) (b := c) (by omega) (by omega)), if_neg h5]
      by_cases h25 : c < 25
      · rw [if_neg (show ¬ Int32.ofInt 25 ≤ nI c from nI_ge (a := c) (b := 25) h25 (by decide)), if_pos h25]; rfl
      · rw [if_pos (show Int32.ofInt 25 ≤ nI c from nI_le (a := 25) (b := c) (by omega) (by omega)), if_neg h25]; rfl
theorem lt9a : ∀ c, c < 125 → (nI c - nI c / (Int32.ofInt 5) * (Int32.ofInt 5)) = nI (c % 5) ∧ ((nI c / (Int32.ofInt 5)) - (nI c / (Int32.ofInt 5)) / (Int32.ofInt 5) * (Int32.ofInt 5)) = nI (c / 5 % 5) ∧ nI c / Int32.ofInt 25 = nI (c / 25) := by decide +kernel
theorem lt9 {c i : Nat} (hc : c < 125) (hi : i < 3) (h : am_H) : f_X9_letterAt (nI c) (nI i) h = some (nI (ps_lt c i), h) := by
  obtain ⟨a, b, d⟩ := lt9a c hc
  unfold f_X9_letterAt ps_lt
  rw [a, b, d]
  match i, hi with
  | 0, _ => rfl
  | 1, _ => rfl
  | 2, _ => rfl
theorem sz_le (c : Nat) : ps_sz c ≤ 3 := by
  unfold ps_sz; split
  · omega
  · split
    · omega
    · split <;> omega
def rg_all (n : Nat) (P : Nat → Bool) : Bool := (List.range n).all P
theorem rg_ok {n : Nat} {P : Nat → Bool} (h : rg_all n P = true) {k : Nat} (hk : k < n) : P k = true := List.all_eq_true.mp h k (List.mem_range.mpr hk)
def ps_c1 (k c a : Nat) : Bool := !Nat.blt (ps_sz c) 3 || (ps_ok k (ps_put k c a) && Nat.beq (ps_8 k (ps_put k c a)) (bif Nat.beq k 1 then ps_8 k c + 4 ^ a else ps_8 k c + 1 + a * 4 ^ (1 + ps_sz c)))
def ps_c2 (k c a : Nat) : Bool := !Nat.blt (ps_pl k c a) 3 || (ps_ok k (ps_wo c (ps_pl k c a)) && Nat.beq (ps_8 k (ps_wo c (ps_pl k c a)) + (bif Nat.beq k 1 then 4 ^ a else 0)) (bif Nat.beq k 1 then ps_8 k c else ps_8 k c / 16 * 4 + (ps_8 k c % 4 - 1)))
def ps_c3 (k c a : Nat) : Bool := Nat.blt (ps_pl k c a) 3 == (bif Nat.beq k 1 then !Nat.beq (ps_8 k c / 4 ^ a % 4) 0 else !Nat.beq (ps_8 k c % 4) 0 && Nat.beq (ps_8 k c / 4 % 4) a)
def ps_c4 (k c : Nat) : Bool := Nat.blt (ps_8 k c) 256 && Nat.beq (ps_sz c) (bif Nat.beq k 1 then ps_8 k c % 4 + ps_8 k c / 4 % 4 + ps_8 k c / 16 % 4 + ps_8 k c / 64 else ps_8 k c % 4) && (Nat.beq (ps_8 k c) 0 == Nat.beq c 0)
theorem ps_all : rg_all 5 (fun k => rg_all 125 (fun c => !ps_ok k c || (ps_c4 k c && rg_all 4 (fun a => ps_c1 k c a && ps_c2 k c a && ps_c3 k c a)))) = true := by decide +kernel
theorem ps_inj0 : rg_all 2 (fun k => rg_all 125 (fun c => !ps_ok k c || rg_all 125 (fun d => !ps_ok k d || (!Nat.beq (ps_8 k c) (ps_8 k d) || Nat.beq c d)))) = true := by decide +kernel
theorem ps_lt125 {k c : Nat} (h : ps_ok k c = true) : c < 125 := by
  unfold ps_ok at h
  rw [Bool.and_eq_true] at h
  exact Nat.le_of_ble_eq_true h.1
theorem imp_b {a b : Bool} (h : (!a || b) = true) (ha : a = true) : b = true := by rw [ha] at h; exact h
theorem ps_get {k c : Nat} (hk : k < 5) (ho : ps_ok k c = true) : ps_c4 k c = true ∧ ∀ a, a < 4 → ps_c1 k c a = true ∧ ps_c2 k c a = true ∧ ps_c3 k c a = true := by
  have h := imp_b (rg_ok (rg_ok ps_all hk) (ps_lt125 ho)) ho
  rw [Bool.and_eq_true] at h
  refine ⟨h.1, fun a ha => ?_⟩
  have := rg_ok h.2 ha
  simp only [Bool.and_eq_true] at this
  exact ⟨this.1.1, this.1.2, this.2⟩
theorem ps_8k {k : Nat} (h : k ≠ 1) (c : Nat) : ps_8 k c = ps_8 0 c := by
  unfold ps_8; rw [if_neg h, if_neg (show ¬ (0 : Nat) = 1 by decide)]
theorem ps_okk {k : Nat} (h : k ≠ 1) (c : Nat) : ps_ok k c = ps_ok 0 c := by
  unfold ps_ok; rw [beq_f h, beq_f (show (0 : Nat) ≠ 1 by decide)]
theorem ps_inj {k c d : Nat} (hc : ps_ok k c = true) (hd : ps_ok k d = true) (e : ps_8 k c = ps_8 k d) : c = d := by
  by_cases h : k = 1
  · subst h
    have := imp_b (imp_b (rg_ok (imp_b (rg_ok (rg_ok ps_inj0 (show 1 < 2 by decide)) (ps_lt125 hc)) hc) (ps_lt125 hd)) hd) (beq_t e)
    exact Nat.eq_of_beq_eq_true this
  · rw [ps_okk h] at hc hd
    rw [ps_8k h, ps_8k h] at e
    have := imp_b (imp_b (rg_ok (imp_b (rg_ok (rg_ok ps_inj0 (show 0 < 2 by decide)) (ps_lt125 hc)) hc) (ps_lt125 hd)) hd) (beq_t e)
    exact Nat.eq_of_beq_eq_true this
theorem be9 {c a : Nat} (hc : c < 125) (h : am_H) : f_X9_behind (nI c) (nI a) h = some (nI (ps_be c a), h) := by
  unfold f_X9_behind ps_be
  rw [sz9 hc, b2s]
  have h3 := sz_le c
  have : ps_sz c = 0 ∨ ps_sz c = 1 ∨ ps_sz c = 2 ∨ ps_sz c = 3 := by omega
  have e : ∀ w : Nat, nI c + nI w * (nI a + Int32.ofInt 1) = nI (c + w * (a + 1)) := fun w => by rw [hp_1, nI_mul, nI_add]
  rcases this with z | z | z | z
  · rw [z, if_pos (by decide), b2s, show Int32.ofInt 1 = nI 1 from rfl]
    have := e 1; rw [show Int32.ofInt 1 = nI 1 from rfl] at this; rw [this]; rfl
  · rw [z, if_neg (by decide), sz9 hc, b2s, z, if_pos (by decide), b2s, show Int32.ofInt 5 = nI 5 from rfl, e 5]; rfl
  · rw [z, if_neg (by decide), sz9 hc, b2s, z, if_neg (by decide), b2s, show Int32.ofInt 25 = nI 25 from rfl, e 25]; rfl
  · rw [z, if_neg (by decide), sz9 hc, b2s, z, if_neg (by decide), b2s, show Int32.ofInt 25 = nI 25 from rfl, e 25]; rfl
