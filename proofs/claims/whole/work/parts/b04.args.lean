/-! ===== arguments, read by both ===== -/
theorem i32_nn {a : Int32} (h : ¬ a < 0) : ∃ v, v < 2 ^ 31 ∧ a = nI v := ⟨_, (nn_nI h).2, (nn_nI h).1⟩
theorem wi_t {a l u : Int32} (h1 : ¬ a < l) (h2 : ¬ u < a) (h : am_H) : f_X9_within a l u h = some (bI true, h) := by
  unfold f_X9_within
  rw [if_neg h1, if_neg h2]; rfl
theorem wi_f {a l u : Int32} (c : a < l ∨ u < a) (h : am_H) : f_X9_within a l u h = some (bI false, h) := by
  unfold f_X9_within
  by_cases h1 : a < l
  · rw [if_pos h1]; rfl
  · rw [if_neg h1, if_pos (c.resolve_left h1)]; rfl
theorem nI_lt_i {a b : Nat} (ha : a < 2 ^ 31) (hb : b < 2 ^ 31) : (nI a < Int32.ofInt b) ↔ a < b := nI_ltI ha hb
/-- an office -/
theorem of_89 (a : Int32) : (∃ o, o < 3 ∧ a = nI o ∧ ∀ h, f_X8_isOffice a h = some (bI true, h) ∧ f_X9_isOffice a h = some (bI true, h)) ∨ (∀ h, f_X8_isOffice a h = some (bI false, h) ∧ f_X9_isOffice a h = some (bI false, h)) := by
  by_cases c : a < 0
  · refine Or.inr (fun h => ⟨?_, ?_⟩)
    · unfold f_X8_isOffice; rw [if_pos c]; rfl
    · unfold f_X9_isOffice; rw [wi_f (Or.inl (show a < Int32.ofInt 0 from c)), b2s, b01_bI, cond_true]
  · obtain ⟨v, hv, rfl⟩ := i32_nn c
    by_cases c3 : v < 3
    · refine Or.inl ⟨v, c3, rfl, fun h => ⟨?_, ?_⟩⟩
      · unfold f_X8_isOffice; rw [if_neg c, if_neg (show ¬ Int32.ofInt 3 ≤ nI v from nI_ge (a := v) (b := 3) c3 (by decide))]; rfl
      · unfold f_X9_isOffice; rw [wi_t (show ¬ nI v < Int32.ofInt 0 from c) (show ¬ Int32.ofInt 2 < nI v from fun q => by have := (nI_ltI (a := 2) (b := v) (by decide) hv).mp q; omega), b2s, b01_bI, cond_true]
    · refine Or.inr (fun h => ⟨?_, ?_⟩)
      · unfold f_X8_isOffice; rw [if_neg c, if_pos (show Int32.ofInt 3 ≤ nI v from nI_le (a := 3) (by omega) hv)]; rfl
      · unfold f_X9_isOffice; rw [wi_f (Or.inr (show Int32.ofInt 2 < nI v from (nI_ltI (a := 2) (b := v) (by decide) hv).mpr (by omega))), b2s, b01_bI, cond_true]
/-- a post -/
theorem po_89 (a b : Int32) : (∃ f t, f < 3 ∧ t < 3 ∧ f ≠ t ∧ a = nI f ∧ b = nI t ∧ ∀ h, f_X8_isPost a b h = some (bI true, h) ∧ f_X9_isPost a b h = some (bI true, h)) ∨ (∀ h, f_X8_isPost a b h = some (bI false, h) ∧ f_X9_isPost a b h = some (bI false, h)) := by
  rcases of_89 a with ⟨f, hf, rfl, e1⟩ | e1
  · rcases of_89 b with ⟨t, ht, rfl, e2⟩ | e2
    · by_cases c : f = t
      · refine Or.inr (fun h => ⟨?_, ?_⟩)
        · unfold f_X8_isPost; rw [(e1 h).1, b2s, if_neg (show ¬ bI true = 0 by decide), (e2 h).1, b2s, if_neg (show ¬ bI true = 0 by decide), if_pos (by rw [c]), b2s]; rfl
        · unfold f_X9_isPost; rw [(e1 h).2, b2s, if_neg (show ¬ bI true = 0 by decide), (e2 h).2, b2s, if_neg (show ¬ bI true = 0 by decide), if_pos (by rw [c]), b2s]; rfl
      · have nc : ¬ nI f = nI t := fun q => c ((nI_inj (by omega) (by omega)).mp q)
        refine Or.inl ⟨f, t, hf, ht, c, rfl, rfl, fun h => ⟨?_, ?_⟩⟩
        · unfold f_X8_isPost; rw [(e1 h).1, b2s, if_neg (show ¬ bI true = 0 by decide), (e2 h).1, b2s, if_neg (show ¬ bI true = 0 by decide), if_neg nc, b2s]; rfl
        · unfold f_X9_isPost; rw [(e1 h).2, b2s, if_neg (show ¬ bI true = 0 by decide), (e2 h).2, b2s, if_neg (show ¬ bI true = 0 by decide), if_neg nc, b2s]; rfl
    · refine Or.inr (fun h => ⟨?_, ?_⟩)
      · unfold f_X8_isPost; rw [(e1 h).1, b2s, if_neg (show ¬ bI true = 0 by decide), (e2 h).1, b2s, if_pos (show bI false = 0 from rfl), b2s]; rfl
      · unfold f_X9_isPost; rw [(e1 h).2, b2s, if_neg (show ¬ bI true = 0 by decide), (e2 h).2, b2s, if_pos (show bI false = 0 from rfl), b2s]; rfl
  · refine Or.inr (fun h => ⟨?_, ?_⟩)
    · unfold f_X8_isPost; rw [(e1 h).1, b2s, if_pos (show bI false = 0 from rfl), b2s]; rfl
    · unfold f_X9_isPost; rw [(e1 h).2, b2s, if_pos (show bI false = 0 from rfl), b2s]; rfl
/-- a number from 0 to below n, as the class asks and as the reference does -/
theorem in_89 (a : Int32) {n : Nat} (hn : n < 2 ^ 31) : (∃ v, v < n ∧ a = nI v ∧ ¬ a < 0 ∧ a < nI n ∧ ¬ nI n ≤ a ∧ ∀ h, f_X9_within a (Int32.ofInt 0) (nI n - Int32.ofInt 1) h = some (bI true, h)) ∨ ((a < 0 ∨ (¬ a < 0 ∧ ¬ a < nI n ∧ nI n ≤ a)) ∧ ∀ h, f_X9_within a (Int32.ofInt 0) (nI n - Int32.ofInt 1) h = some (bI false, h)) := by
  by_cases c : a < 0
  · exact Or.inr ⟨Or.inl c, fun h => wi_f (Or.inl c) h⟩
  · obtain ⟨v, hv, rfl⟩ := i32_nn c
    by_cases cn : v < n
    · refine Or.inl ⟨v, cn, rfl, c, (nI_ltI hv hn).mpr cn, nI_ge cn hn, fun h => wi_t c ?_ h⟩
      rw [nI_m1 (by omega), nI_ltI (by omega) hv]; omega
    · refine Or.inr ⟨Or.inr ⟨c, fun q => cn ((nI_ltI hv hn).mp q), nI_le (by omega) hv⟩, fun h => wi_f (Or.inr ?_) h⟩
      by_cases z : n = 0
      · rw [z]
        have : nI 0 - Int32.ofInt 1 < 0 := by decide
        exact Int32.lt_of_lt_of_le this (nI_nge0 hv)
      · rw [nI_m1 z, nI_ltI (by omega) hv]; omega
/-- a book -/
theorem bk_89 (a : Int32) {n : Nat} (hn : n ≤ 8) : (∃ v, v < n ∧ a = nI v ∧ ∀ h, (am_I h 0 5 = nI n → f_X8_isBook a h = some (bI true, h)) ∧ (am_I h 51 2 = nI n → f_X9_isBook a h = some (bI true, h))) ∨ (∀ h, (am_I h 0 5 = nI n → f_X8_isBook a h = some (bI false, h)) ∧ (am_I h 51 2 = nI n → f_X9_isBook a h = some (bI false, h))) := by
  rcases in_89 a (show n < 2 ^ 31 by omega) with ⟨v, hv, e, c1, c2, c3, w⟩ | ⟨c, w⟩
  · refine Or.inl ⟨v, hv, e, fun h => ⟨fun e5 => ?_, fun e2 => ?_⟩⟩
    · unfold f_X8_isBook; rw [if_neg c1, e5, if_neg c3]; rfl
    · unfold f_X9_isBook; rw [e2, w, b2s, b01_bI, cond_true]
  · refine Or.inr (fun h => ⟨fun e5 => ?_, fun e2 => ?_⟩)
    · unfold f_X8_isBook
      rcases c with c | ⟨c1, c2, c3⟩
      · rw [if_pos c]; rfl
      · rw [if_neg c1, e5, if_pos c3]; rfl
    · unfold f_X9_isBook; rw [e2, w, b2s, b01_bI, cond_true]
/-- the number of a post -/
theorem pn_8 {f t : Nat} (hf : f < 3) (ht : t < 3) (ne : f ≠ t) (h : am_H) : f_X8_postOf (nI f) (nI t) h = some (nI (pn f t), h) := by
  have c : (f = 0 ∧ t = 1) ∨ (f = 0 ∧ t = 2) ∨ (f = 1 ∧ t = 0) ∨ (f = 1 ∧ t = 2) ∨ (f = 2 ∧ t = 0) ∨ (f = 2 ∧ t = 1) := by omega
  rcases c with ⟨rfl, rfl⟩ | ⟨rfl, rfl⟩ | ⟨rfl, rfl⟩ | ⟨rfl, rfl⟩ | ⟨rfl, rfl⟩ | ⟨rfl, rfl⟩ <;> rfl
theorem ix_9 (f t : Nat) : ((Int32.ofInt 3) * nI f) + nI t = nI (3 * f + t) := by rw [show Int32.ofInt 3 = nI 3 from rfl, nI_mul, nI_add]
