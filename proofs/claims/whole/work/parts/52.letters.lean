/-! ===== letters: both read the same bytes ===== -/
theorem b2s {α β γ : Type} (a : α) (b : β) (f : α → β → Option γ) : am_b2 (some (a, b)) f = f a b := rfl
theorem b2n {α β γ : Type} (f : α → β → Option γ) : am_b2 none f = none := rfl
theorem b_some {α β : Type} (a : α) (f : α → Option β) : Option.bind (some a) f = f a := rfl
theorem lt_255 : ∀ i, i < 8 → (255#64).getLsbD i = true ∧ (255#32).getLsbD i = true := by decide
theorem lt_256 : ∀ i, i < 32 → 8 ≤ i → (255#64).getLsbD i = false ∧ (255#32).getLsbD i = false := by decide
theorem lt_bits (w : BitVec 64) (k : Nat) (hk : k + 8 ≤ 64) : ((w.sshiftRight k) &&& 255#64).signExtend 32 = (w >>> k).signExtend 32 &&& 255#32 := by
  apply BitVec.eq_of_getLsbD_eq
  intro i hi
  have h64 : i < 64 := by omega
  have h64' : ¬ 64 ≤ i := by omega
  simp only [BitVec.getLsbD_signExtend, BitVec.getLsbD_and, BitVec.getLsbD_sshiftRight, BitVec.getLsbD_ushiftRight]
  by_cases h8 : i < 8
  · have e : k + i < 64 := by omega
    rw [(lt_255 i h8).1, (lt_255 i h8).2, if_pos h64, if_pos h64, if_pos e]
    simp [h64']
  · rw [(lt_256 i hi (by omega)).1, (lt_256 i hi (by omega)).2, if_pos h64]
    simp
def lt_b (w : Int64) (x : Int32) : Int32 := (Int64.toInt32 ((Int64.toUInt64 w >>> ((Int32.toInt64 ((Int32.ofInt 8) * x)).toUInt64 &&& Int64.toUInt64 63)).toInt64)) &&& (Int32.ofInt 255)
theorem lt_e1 : ∀ i, i < 8 → ((Int32.toInt64 ((Int32.ofInt 8) * nI i) &&& 63).toBitVec.smod 64#64).toNat = 8 * i := by decide
theorem lt_e2 : ∀ i, i < 8 → (((Int32.toInt64 ((Int32.ofInt 8) * nI i)).toUInt64 &&& Int64.toUInt64 63).toBitVec % 64#64).toNat = 8 * i := by decide
theorem lt_eq (w : Int64) {i : Nat} (hi : i < 8) : Int64.toInt32 ((w >>> (Int32.toInt64 ((Int32.ofInt 8) * nI i) &&& 63)) &&& (255 : Int64)) = lt_b w (nI i) := by
  apply Int32.toBitVec.inj
  have e := lt_bits w.toBitVec (8 * i) (by omega)
  show ((w.toBitVec.sshiftRight (((Int32.toInt64 ((Int32.ofInt 8) * nI i) &&& 63).toBitVec.smod 64#64).toNat)) &&& 255#64).signExtend 32 = (w.toBitVec >>> ((((Int32.toInt64 ((Int32.ofInt 8) * nI i)).toUInt64 &&& Int64.toUInt64 63).toBitVec % 64#64).toNat)).signExtend 32 &&& 255#32
  rw [lt_e1 i hi, lt_e2 i hi]
  exact e
theorem lt_add0 (c : Nat) : nI c + Int32.ofInt 0 = nI c := nI_add c 0
/-- the first pass -/
theorem lt_told (w : Int64) (n : Nat) : ∀ (d i c : Nat) (s : Int32) (h : am_H), i + d = 8 → (s = 0 ∨ s = Int32.ofInt 1) →
    (g_X4_told (n + d + 1) 0 w (nI c) s (nI i) h = some (Int32.ofInt (-102), h) ∧ ∀ m h', g_X9_letters (m + d + 1) 0 w (nI c) s (nI i) h' = some (Int32.ofInt (-102), h'))
    ∨ (∃ t s', c ≤ t ∧ t ≤ c + d ∧ g_X4_told (n + d + 1) 0 w (nI c) s (nI i) h = some (nI t, h) ∧ ∀ m h', g_X9_letters (m + d + 1) 0 w (nI c) s (nI i) h' = (if (am_I h' 51 0) + nI t ≤ Int32.ofInt 60 then g_X9_letters m 1 w (nI t) s' (Int32.ofInt 0) h' else some (Int32.ofInt (-104), h'))) := by
  intro d
  induction d with
  | zero =>
    intro i c s h hi hs
    have : i = 8 := by omega
    subst this
    refine Or.inr ⟨c, s, Nat.le_refl _, Nat.le_refl _, ?_, fun m h' => ?_⟩
    · have h8 : Int32.ofInt 8 ≤ nI 8 := by decide
      generalize nI 8 = x at h8
      show (if Int32.ofInt 8 ≤ x then _ else _) = _
      rw [if_pos h8]
    · have h8 : Int32.ofInt 8 ≤ nI 8 := by decide
      generalize nI 8 = x at h8
      show (if Int32.ofInt 8 ≤ x then _ else _) = _
      rw [if_pos h8]
  | succ d ih =>
    intro i c s h hi hs
    have h8 : ¬ Int32.ofInt 8 ≤ nI i := nI_ge (a := i) (b := 8) (by omega) (by decide)
    have e9 := lt_eq w (i := i) (by omega)
    have t1 : g_X4_told (n + (d + 1) + 1) 0 w (nI c) s (nI i) h = (if Int32.ofInt 126 < lt_b w (nI i) then some (Int32.ofInt (-102), h) else if s = 0 then (if lt_b w (nI i) = 0 then g_X4_told (n + d + 1) 0 w (nI c) (Int32.ofInt 1) (nI (i + 1)) h else g_X4_told (n + d + 1) 0 w (nI (c + 1)) s (nI (i + 1)) h) else if lt_b w (nI i) = 0 then g_X4_told (n + d + 1) 0 w (nI c) (Int32.ofInt 1) (nI (i + 1)) h else some (Int32.ofInt (-102), h)) := by
      show (if Int32.ofInt 8 ≤ nI i then _ else (if Int32.ofInt 126 < lt_b w (nI i) then _ else if s = 0 then am_b2 (if lt_b w (nI i) = 0 then _ else _) _ else if lt_b w (nI i) = 0 then am_b2 (if lt_b w (nI i) = 0 then _ else _) _ else _)) = _
      rw [if_neg h8, hp_1, hp_1]
      by_cases hb : lt_b w (nI i) = 0
      · simp only [if_pos hb, b2s]; rfl
      · simp only [if_neg hb, b2s]; rfl
    have t2 : ∀ m h', g_X9_letters (m + (d + 1) + 1) 0 w (nI c) s (nI i) h' = (if Int32.ofInt 126 < lt_b w (nI i) then some (Int32.ofInt (-102), h') else if s = 0 then (if lt_b w (nI i) = 0 then g_X9_letters (m + d + 1) 0 w (nI c) (Int32.ofInt 1) (nI (i + 1)) h' else g_X9_letters (m + d + 1) 0 w (nI (c + 1)) (Int32.ofInt 0) (nI (i + 1)) h') else if lt_b w (nI i) = 0 then g_X9_letters (m + d + 1) 0 w (nI c) (Int32.ofInt 1) (nI (i + 1)) h' else some (Int32.ofInt (-102), h')) := by
      intro m h'
      show (if Int32.ofInt 8 ≤ nI i then _ else (if Int32.ofInt 126 < Int64.toInt32 ((w >>> (Int32.toInt64 ((Int32.ofInt 8) * nI i) &&& 63)) &&& (255 : Int64)) then _ else if s = 0 then _ else if Int64.toInt32 ((w >>> (Int32.toInt64 ((Int32.ofInt 8) * nI i) &&& 63)) &&& (255 : Int64)) = 0 then _ else _)) = _
      rw [if_neg h8, e9]
      by_cases hb : lt_b w (nI i) = 0
      · simp only [if_pos hb]
        by_cases hz : s = 0
        · simp only [if_pos hz, b_some, lt_add0, hp_1]; rfl
        · simp only [if_neg hz, b_some, lt_add0, hp_1]; rfl
      · simp only [if_neg hb]
        by_cases hz : s = 0
        · simp only [if_pos hz, b_some, hp_1]; rfl
        · simp only [if_neg hz]
    rw [t1]
    by_cases h126 : Int32.ofInt 126 < lt_b w (nI i)
    · left
      rw [if_pos h126]
      refine ⟨rfl, fun m h' => ?_⟩
      rw [t2, if_pos h126]
    · rw [if_neg h126]
      by_cases hz : s = 0
      · rw [if_pos hz]
        by_cases hb : lt_b w (nI i) = 0
        · rw [if_pos hb]
          rcases ih (i + 1) c (Int32.ofInt 1) h (by omega) (Or.inr rfl) with ⟨a, b⟩ | ⟨t, s', l1, l2, a, b⟩
          · exact Or.inl ⟨a, fun m h' => by rw [t2, if_neg h126, if_pos hz, if_pos hb, b]⟩
          · exact Or.inr ⟨t, s', l1, by omega, a, fun m h' => by rw [t2, if_neg h126, if_pos hz, if_pos hb, b]⟩
        · rw [if_neg hb]
          rcases ih (i + 1) (c + 1) s h (by omega) hs with ⟨a, b⟩ | ⟨t, s', l1, l2, a, b⟩
          · exact Or.inl ⟨a, fun m h' => by rw [t2, if_neg h126, if_pos hz, if_neg hb]; subst hz; exact b m h'⟩
          · exact Or.inr ⟨t, s', by omega, by omega, a, fun m h' => by rw [t2, if_neg h126, if_pos hz, if_neg hb]; subst hz; exact b m h'⟩
      · rw [if_neg hz]
        by_cases hb : lt_b w (nI i) = 0
        · rw [if_pos hb]
          rcases ih (i + 1) c (Int32.ofInt 1) h (by omega) (Or.inr rfl) with ⟨a, b⟩ | ⟨t, s', l1, l2, a, b⟩
          · exact Or.inl ⟨a, fun m h' => by rw [t2, if_neg h126, if_neg hz, if_pos hb, b]⟩
          · exact Or.inr ⟨t, s', l1, by omega, a, fun m h' => by rw [t2, if_neg h126, if_neg hz, if_pos hb, b]⟩
        · rw [if_neg hb]
          exact Or.inl ⟨rfl, fun m h' => by rw [t2, if_neg h126, if_neg hz, if_neg hb]⟩
/-- a piece of a row, overwritten -/
def lt_row (b : Nat → Int32) (r : Nat → Int32) (k i d : Nat) : Nat → Int32 := fun j => if k ≤ j ∧ j < k + d then b (i + (j - k)) else r j
theorem lt_row0 (b : Nat → Int32) (r : Nat → Int32) (k i : Nat) : lt_row b r k i 0 = r := by
  funext j
  unfold lt_row
  rw [if_neg (by omega)]
theorem lt_rowS (b : Nat → Int32) (r : Nat → Int32) (k i d : Nat) : lt_row b (upd r k (b i)) (k + 1) (i + 1) d = lt_row b r k i (d + 1) := by
  funext j
  unfold lt_row upd
  by_cases h1 : k + 1 ≤ j ∧ j < k + 1 + d
  · rw [if_pos h1, if_pos (by omega)]
    congr 1; omega
  · rw [if_neg h1]
    by_cases h2 : j = k
    · subst h2
      rw [if_pos rfl, if_pos (by omega)]
      congr 1; omega
    · rw [if_neg h2, if_neg (by omega)]
theorem lt_heap (h : am_H) (k : Nat) (b x y : Int32) (R : Nat → Int32) : am_sI (am_sR (am_sI (am_sI h 2 k b) 1 1 x) 2 R) 1 1 y = am_sI (am_sR h 2 R) 1 1 y := by
  obtain ⟨hn, hK, hI, hJ, hA⟩ := h
  unfold am_sI am_sR
  have : ∀ f g : Nat → Nat → Int32, f = g → (hn, hK, f, hJ, hA) = ((hn, hK, g, hJ, hA) : am_H) := fun f g e => by rw [e]
  refine this _ _ ?_
  funext o j
  simp only [va_up]
  by_cases h1 : o = 1
  · subst h1
    simp [upd]
    split <;> rfl
  · by_cases h2 : o = 2
    · subst h2; simp
    · simp [h1, h2]
theorem lt_app (w : Int64) (n t : Nat) (ht : t ≤ 8) : ∀ (d i k : Nat) (h : am_H), am_stat h → i + d = t → am_I h 1 1 = nI k → k + d ≤ 60 →
    g_X4_append (n + d + 1) 0 1 w (nI t) (nI i) h = some ((), am_sI (am_sR h 2 (lt_row (fun j => lt_b w (nI j)) (am_I h 2) k i d)) 1 1 (nI (k + d))) := by
  intro d
  induction d with
  | zero =>
    intro i k h hs hi hk hm
    have : i = t := by omega
    subst this
    show (if nI i ≤ nI i then _ else _) = _
    rw [if_pos (Int32.le_refl _), lt_row0, hp_sR_id]
    show some ((), h) = some ((), am_sI h 1 1 (nI k))
    rw [← hk, hp_sI_id]
  | succ d ih =>
    intro i k h hs hi hk hm
    show (if nI t ≤ nI i then _ else bif am_isO h 1 4 then (if Int32.ofInt 60 ≤ am_I h 1 1 then _ else (am_A h 1 0).bind fun q4 => ((am_ln h 0 q4).bind fun n9 => (bif am_vp (am_I h 1 1) n9 then (bif am_isO (am_sI h q4 (Int32.toNatClampNeg (am_I h 1 1)) (lt_b w (nI i))) 1 4 then (g_X4_append (n + d + 1) 0 1 w (nI t) (nI i + Int32.ofInt 1) (am_sI (am_sI h q4 (Int32.toNatClampNeg (am_I h 1 1)) (lt_b w (nI i))) 1 1 ((am_I (am_sI h q4 (Int32.toNatClampNeg (am_I h 1 1)) (lt_b w (nI i))) 1 1) + (Int32.ofInt 1)))) else none) else none))) else none) = _
    rw [if_neg (nI_ge (a := i) (b := t) (by omega) (by omega)), hp_isO (sK hs 1), hk, if_neg (show ¬ Int32.ofInt 60 ≤ nI k from nI_ge (a := k) (b := 60) (by omega) (by decide)), sA hs 1 0]
    show ((am_ln h 0 2).bind fun n9 => (bif am_vp (nI k) n9 then (bif am_isO (am_sI h 2 (Int32.toNatClampNeg (nI k)) (lt_b w (nI i))) 1 4 then (g_X4_append (n + d + 1) 0 1 w (nI t) (nI i + Int32.ofInt 1) (am_sI (am_sI h 2 (Int32.toNatClampNeg (nI k)) (lt_b w (nI i))) 1 1 ((am_I (am_sI h 2 (Int32.toNatClampNeg (nI k)) (lt_b w (nI i))) 1 1) + (Int32.ofInt 1)))) else none) else none)) = _
    have hs1 : am_stat (am_sI h 2 k (lt_b w (nI i))) := hs
    have hs2 : am_stat (am_sI (am_sI h 2 k (lt_b w (nI i))) 1 1 (nI (k + 1))) := hs
    rw [hp_ln (sK hs 2)]
    show (bif am_vp (nI k) 60 then (bif am_isO (am_sI h 2 (Int32.toNatClampNeg (nI k)) (lt_b w (nI i))) 1 4 then (g_X4_append (n + d + 1) 0 1 w (nI t) (nI i + Int32.ofInt 1) (am_sI (am_sI h 2 (Int32.toNatClampNeg (nI k)) (lt_b w (nI i))) 1 1 ((am_I (am_sI h 2 (Int32.toNatClampNeg (nI k)) (lt_b w (nI i))) 1 1) + (Int32.ofInt 1)))) else none) else none) = _
    rw [hp_vp (by omega) (by decide), nI_clamp (by omega), hp_isO (sK hs1 1), hp_I' _ _ _ (by decide), hk, hp_1, hp_1]
    show g_X4_append (n + d + 1) 0 1 w (nI t) (nI (i + 1)) (am_sI (am_sI h 2 k (lt_b w (nI i))) 1 1 (nI (k + 1))) = _
    rw [ih (i + 1) (k + 1) _ hs2 (by omega) (by rw [hp_I]; unfold upd; rw [if_pos rfl]) (by omega), lt_heap, hp_I' _ _ _ (by decide), hp_I, lt_rowS, show k + 1 + d = k + (d + 1) from by omega]
def lt_b9 (w : Int64) (x : Int32) : Int32 := vp_nar (am_at 1) (Int8.toInt32 (Int32.toInt8 (Int64.toInt32 (w >>> (Int32.toInt64 ((Int32.ofInt 8) * x) &&& 63)))))
theorem lt_lay (w : Int64) (s : Int32) (n t m : Nat) (ht : t ≤ 8) (hm : m + t ≤ 60) : ∀ (d i : Nat) (h : am_H), i + d = t → am_I h 51 0 = nI m →
    g_X9_letters (n + d + 1) 1 w (nI t) s (nI i) h = some (nI (m + t), am_sI (am_sR h 52 (lt_row (fun j => lt_b9 w (nI j)) (am_I h 52) (m + i) i d)) 51 0 (nI (m + t))) := by
  intro d
  induction d with
  | zero =>
    intro i h hi hk
    have : i = t := by omega
    subst this
    show (if nI i ≤ nI i then some ((am_I (am_sI h 51 0 ((am_I h 51 0) + nI i)) 51 0), (am_sI h 51 0 ((am_I h 51 0) + nI i))) else _) = _
    rw [if_pos (Int32.le_refl _), lt_row0, hp_sR_id, hp_I, hk, nI_add]
    unfold upd
    rw [if_pos rfl]
  | succ d ih =>
    intro i h hi hk
    show (if nI t ≤ nI i then _ else bif am_vp ((am_I h 51 0) + nI i) 60 then (g_X9_letters (n + d + 1) 1 w (nI t) s (nI i + Int32.ofInt 1) (am_sI h 52 (Int32.toNatClampNeg ((am_I h 51 0) + nI i)) (lt_b9 w (nI i)))) else none) = _
    rw [if_neg (nI_ge (a := i) (b := t) (by omega) (by omega)), hk, nI_add, hp_vp (by omega) (by decide), nI_clamp (by omega), hp_1]
    show g_X9_letters (n + d + 1) 1 w (nI t) s (nI (i + 1)) (am_sI h 52 (m + i) (lt_b9 w (nI i))) = _
    rw [ih (i + 1) _ (by omega) (by rw [hp_I' _ _ _ (by decide)]; exact hk), hp_I, hp_sR_sI, show m + (i + 1) = m + i + 1 from by omega, lt_rowS]
/-- letters, both, behind one another -/
theorem lt_ok (w : Int64) (m : Nat) (h : am_H) (hs : am_stat h) (h1 : am_I h 1 1 = nI m) (h9 : am_I h 51 0 = nI m) (hm : m ≤ 60) :
    (∃ v, f_X8_letters 100 w h = some (v, h) ∧ f_X9_letters 100 w h = some (v, h))
    ∨ ∃ t, t ≤ 8 ∧ m + t ≤ 60 ∧ f_X8_letters 100 w h = some (nI (m + t), am_sI (am_sR h 2 (lt_row (fun j => lt_b w (nI j)) (am_I h 2) m 0 t)) 1 1 (nI (m + t)))
      ∧ ∀ h', am_I h' 51 0 = nI m → f_X9_letters 100 w h' = some (nI (m + t), am_sI (am_sR h' 52 (lt_row (fun j => lt_b9 w (nI j)) (am_I h' 52) m 0 t)) 51 0 (nI (m + t))) := by
  rcases lt_told w 91 8 0 0 (Int32.ofInt 0) h (by omega) (Or.inl rfl) with ⟨a, b⟩ | ⟨t, s', l1, l2, a, b⟩
  · left
    refine ⟨Int32.ofInt (-102), ?_, b 91 h⟩
    unfold f_X8_letters f_X4_told
    rw [show g_X4_told 100 0 w (Int32.ofInt 0) (Int32.ofInt 0) (Int32.ofInt 0) h = _ from a, b2s]
    rw [if_neg (by decide)]
  · by_cases hc : m + t ≤ 60
    · right
      refine ⟨t, by omega, hc, ?_, fun h' hh => ?_⟩
      · unfold f_X8_letters f_X4_told
        rw [show g_X4_told 100 0 w (Int32.ofInt 0) (Int32.ofInt 0) (Int32.ofInt 0) h = _ from a, b2s]
        rw [if_pos (show (0 : Int32) ≤ nI t from Int32.not_lt.mp (nI_pos (by omega))), h1, nI_add, if_pos (show nI (m + t) ≤ Int32.ofInt 60 from (nI_leI (by omega) (by decide)).mpr hc)]
        unfold f_X4_append
        have e := lt_app w (99 - t) t (by omega) t 0 m h hs (by omega) h1 hc
        rw [show 99 - t + t + 1 = 100 from by omega] at e
        rw [show g_X4_append 100 0 1 w (nI t) (Int32.ofInt 0) h = _ from e, b2s, hp_I]
        unfold upd
        rw [if_pos rfl]
      · have e := b 91 h'
        rw [hh, nI_add, if_pos (show nI (m + t) ≤ Int32.ofInt 60 from (nI_leI (by omega) (by decide)).mpr hc)] at e
        have e2 := lt_lay w s' (90 - t) t m (by omega) hc t 0 h' (by omega) hh
        rw [show 90 - t + t + 1 = 91 from by omega] at e2
        exact e.trans e2
    · left
      refine ⟨Int32.ofInt (-104), ?_, ?_⟩
      · unfold f_X8_letters f_X4_told
        rw [show g_X4_told 100 0 w (Int32.ofInt 0) (Int32.ofInt 0) (Int32.ofInt 0) h = _ from a, b2s]
        rw [if_pos (show (0 : Int32) ≤ nI t from Int32.not_lt.mp (nI_pos (by omega))), h1, nI_add, if_neg (show ¬ nI (m + t) ≤ Int32.ofInt 60 from fun e => hc ((nI_leI (by omega) (by decide)).mp e))]
      · have e := b 91 h
        rw [h9, nI_add, if_neg (show ¬ nI (m + t) ≤ Int32.ofInt 60 from fun e => hc ((nI_leI (by omega) (by decide)).mp e))] at e
        exact e
