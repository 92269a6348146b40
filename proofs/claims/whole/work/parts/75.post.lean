/-! ===== posts: the class's methods ===== -/
def ps_i3 (v s : Nat) : Int32 := ((Int32.toUInt32 (nI v) >>> (Int32.toUInt32 (nI s) &&& Int32.toUInt32 31)).toInt32)
theorem v8_a : ∀ v, v < 256 → (nI v &&& Int32.ofInt 3) = nI (v % 4) ∧ (ps_i3 v 2 &&& Int32.ofInt 3) = nI (v / 4 % 4) ∧ (ps_i3 v 4 &&& Int32.ofInt 3) = nI (v / 16 % 4) ∧ ps_i3 v 6 = nI (v / 64) ∧ ps_i3 v 4 = nI (v / 16) := by decide +kernel
theorem v8_b : ∀ v, v < 256 → ∀ a, a < 4 → (((Int32.toUInt32 (nI v) >>> (Int32.toUInt32 ((Int32.ofInt 2) * nI a) &&& Int32.toUInt32 31)).toInt32) &&& (Int32.ofInt 3)) = nI (v / 4 ^ a % 4) ∧ (nI v + ((Int32.ofInt 1) <<< (((Int32.ofInt 2) * nI a) &&& 31))) = nI (v + 4 ^ a) ∧ ((nI v + (Int32.ofInt 1)) + (nI a <<< (((Int32.ofInt 2) + ((Int32.ofInt 2) * (nI (v % 4)))) &&& 31))) = nI (v + 1 + a * 4 ^ (1 + v % 4)) ∧ (4 ^ a ≤ v → (nI v - ((Int32.ofInt 1) <<< (((Int32.ofInt 2) * nI a) &&& 31))) = nI (v - 4 ^ a)) := by decide +kernel
theorem v8_c : ∀ v, v < 256 → v % 4 ≠ 0 → ((nI (v / 16) <<< ((Int32.ofInt 2) &&& 31)) ||| ((nI (v % 4)) - (Int32.ofInt 1))) = nI (v / 16 * 4 + (v % 4 - 1)) := by decide +kernel
theorem k1_iff {k : Nat} (hk : k < 5) : (nI k = Int32.ofInt 1) ↔ k = 1 := nI_eq (a := k) (b := 1) (by omega) (by decide)
theorem beq_1 {k : Nat} : (Nat.beq k 1 = true) ↔ k = 1 := ⟨Nat.eq_of_beq_eq_true, beq_t⟩
theorem ps_v {k c : Nat} (hk : k < 5) (ho : ps_ok k c = true) : ps_8 k c < 256 ∧ ps_sz c = (bif Nat.beq k 1 then ps_8 k c % 4 + ps_8 k c / 4 % 4 + ps_8 k c / 16 % 4 + ps_8 k c / 64 else ps_8 k c % 4) ∧ (ps_8 k c = 0 ↔ c = 0) := by
  have h := (ps_get hk ho).1
  unfold ps_c4 at h
  simp only [Bool.and_eq_true] at h
  refine ⟨Nat.le_of_ble_eq_true h.1.1, Nat.eq_of_beq_eq_true h.1.2, ?_⟩
  have h2 := h.2
  constructor
  · intro e
    rw [beq_t e] at h2
    have : Nat.beq c 0 = true := by simpa using h2
    exact Nat.eq_of_beq_eq_true this
  · intro e
    rw [beq_t e] at h2
    have : Nat.beq (ps_8 k c) 0 = true := by simpa using h2
    exact Nat.eq_of_beq_eq_true this
theorem ld8 {k c : Nat} (hk : k < 5) (ho : ps_ok k c = true) (h : am_H) : f_X7_load (nI k) (nI (ps_8 k c)) h = some (nI (ps_sz c), h) := by
  obtain ⟨hv, hs, -⟩ := ps_v hk ho
  obtain ⟨a1, a2, a3, a4, -⟩ := v8_a _ hv
  unfold f_X7_load
  rw [hs]
  by_cases e : k = 1
  · rw [if_pos ((k1_iff hk).mpr e), beq_t e, cond_true]
    congr 2
    show (((nI (ps_8 k c) &&& Int32.ofInt 3) + (ps_i3 (ps_8 k c) 2 &&& Int32.ofInt 3)) + (ps_i3 (ps_8 k c) 4 &&& Int32.ofInt 3)) + ps_i3 (ps_8 k c) 6 = _
    rw [a1, a2, a3, a4, nI_add, nI_add, nI_add]
  · rw [if_neg (fun q => e ((k1_iff hk).mp q)), beq_f e, cond_false, a1]
theorem ck8 {k c a : Nat} (hk : k < 5) (ho : ps_ok k c = true) (ha : a < 4) (h : am_H) : f_X7_canTake (nI k) (nI (ps_8 k c)) (nI a) h = some (bI (Nat.blt (ps_pl k c a) 3), h) := by
  obtain ⟨hv, -, -⟩ := ps_v hk ho
  obtain ⟨a1, a2, -, -, -⟩ := v8_a _ hv
  obtain ⟨b1, -, -, -⟩ := v8_b _ hv a ha
  have h3 := ((ps_get hk ho).2 a ha).2.2
  unfold ps_c3 at h3
  have h3 : Nat.blt (ps_pl k c a) 3 = (bif Nat.beq k 1 then !Nat.beq (ps_8 k c / 4 ^ a % 4) 0 else !Nat.beq (ps_8 k c % 4) 0 && Nat.beq (ps_8 k c / 4 % 4) a) := by simpa using h3
  unfold f_X7_canTake
  rw [h3]
  have z0 : ∀ x, x < 256 → ((nI x = 0) ↔ x = 0) := fun x hx => nI_eq (a := x) (b := 0) (by omega) (by decide)
  by_cases e : k = 1
  · rw [if_pos ((k1_iff hk).mpr e), beq_t e, cond_true, b1]
    by_cases q : ps_8 k c / 4 ^ a % 4 = 0
    · rw [if_pos ((z0 _ (by omega)).mpr q), beq_t q]; rfl
    · rw [if_neg (fun x => q ((z0 _ (by omega)).mp x)), beq_f q]; rfl
  · rw [if_neg (fun q => e ((k1_iff hk).mp q)), beq_f e, cond_false]
    have s2 : (((Int32.toUInt32 (nI (ps_8 k c)) >>> (Int32.toUInt32 (Int32.ofInt 2) &&& Int32.toUInt32 31)).toInt32) &&& (Int32.ofInt 3)) = nI (ps_8 k c / 4 % 4) := a2
    rw [a1, s2]
    by_cases q : ps_8 k c % 4 = 0
    · rw [if_pos ((z0 _ (by omega)).mpr q), beq_t q]; rfl
    · rw [if_neg (fun x => q ((z0 _ (by omega)).mp x)), beq_f q]
      by_cases q2 : ps_8 k c / 4 % 4 = a
      · rw [if_pos (by rw [q2]), beq_t q2]; rfl
      · rw [if_neg (fun x => q2 ((nI_eq (by omega) (by omega)).mp x)), beq_f q2]; rfl
theorem tk8 {k c a : Nat} (hk : k < 5) (ho : ps_ok k c = true) (ha : a < 4) (hp : ps_pl k c a < 3) (h : am_H) : f_X7_taken (nI k) (nI (ps_8 k c)) (nI a) h = some (nI (ps_8 k (ps_wo c (ps_pl k c a))), h) := by
  obtain ⟨hv, -, -⟩ := ps_v hk ho
  obtain ⟨a1, a2, -, -, a5⟩ := v8_a _ hv
  obtain ⟨-, -, -, b4⟩ := v8_b _ hv a ha
  have h2 := imp_b ((ps_get hk ho).2 a ha).2.1 (blt_t hp)
  have h3 := ((ps_get hk ho).2 a ha).2.2
  unfold ps_c3 at h3
  rw [blt_t hp] at h3
  rw [Bool.and_eq_true] at h2
  have h2 := Nat.eq_of_beq_eq_true h2.2
  unfold f_X7_taken
  by_cases e : k = 1
  · rw [if_pos ((k1_iff hk).mpr e), b_some]
    rw [beq_t e, cond_true, cond_true] at h2
    rw [b4 (by omega)]
    congr 3; omega
  · rw [if_neg (fun q => e ((k1_iff hk).mp q)), b_some]
    rw [beq_f e, cond_false, cond_false] at h2
    rw [beq_f e, cond_false] at h3
    have nz : ps_8 k c % 4 ≠ 0 := by
      intro q
      rw [beq_t q] at h3
      exact absurd (show (true == false) = true from h3) (by decide)
    have s4 : ((Int32.toUInt32 (nI (ps_8 k c)) >>> (Int32.toUInt32 (Int32.ofInt 4) &&& Int32.toUInt32 31)).toInt32) = nI (ps_8 k c / 16) := a5
    rw [s4, a1, v8_c _ hv nz]
    congr 3; omega
theorem pt8 {k c a : Nat} (hk : k < 5) (ho : ps_ok k c = true) (ha : a < 4) (hz : ps_sz c < 3) (h : am_H) : f_X7_put (nI k) (nI (ps_8 k c)) (nI a) h = some (nI (ps_8 k (ps_put k c a)), h) := by
  obtain ⟨hv, hs, -⟩ := ps_v hk ho
  obtain ⟨a1, -, -, -, -⟩ := v8_a _ hv
  obtain ⟨-, b2', b3, -⟩ := v8_b _ hv a ha
  have h1 := imp_b ((ps_get hk ho).2 a ha).1 (blt_t hz)
  rw [Bool.and_eq_true] at h1
  have h1 := Nat.eq_of_beq_eq_true h1.2
  unfold f_X7_put
  by_cases e : k = 1
  · rw [if_pos ((k1_iff hk).mpr e), b_some, b2']
    rw [beq_t e, cond_true] at h1
    rw [h1]
  · rw [if_neg (fun q => e ((k1_iff hk).mp q)), b_some, a1, b3]
    rw [beq_f e, cond_false] at h1 hs
    rw [h1, hs]
