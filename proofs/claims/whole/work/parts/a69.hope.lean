/-! ===== which states can still come to one that is done ===== -/
def hpK (D : Nat → Bool) (es et : Nat → Nat) (m : Nat) : Nat → Nat → Prop
  | 0, i => D i = true
  | t + 1, i => hpK D es et m t i ∨ ∃ j, j < m ∧ es j = i ∧ hpK D es et m t (et j)
def hope (D : Nat → Bool) (es et : Nat → Nat) (m : Nat) (i : Nat) : Prop := ∃ t, hpK D es et m t i
theorem hope_0 {D : Nat → Bool} {es et : Nat → Nat} {m i : Nat} (h : D i = true) : hope D es et m i := ⟨0, h⟩
theorem hope_s {D : Nat → Bool} {es et : Nat → Nat} {m j : Nat} (hj : j < m) (h : hope D es et m (et j)) : hope D es et m (es j) := by
  obtain ⟨t, ht⟩ := h
  exact ⟨t + 1, Or.inr ⟨j, hj, rfl, ht⟩⟩
theorem hope_in {D X : Nat → Bool} {es et : Nat → Nat} {m n : Nat} (rg : ∀ j, j < m → et j < n) (base : ∀ i, i < n → D i = true → X i = true) (cl : ∀ j, j < m → X (et j) = true → X (es j) = true) : ∀ t i, i < n → hpK D es et m t i → X i = true
  | 0, i, hi, h => base i hi h
  | t + 1, i, hi, h => by
    rcases h with h | ⟨j, hj, e, h⟩
    · exact hope_in rg base cl t i hi h
    · rw [← e]; exact cl j hj (hope_in rg base cl t (et j) (rg j hj) h)
theorem hope_u {D X : Nat → Bool} {es et : Nat → Nat} {m n : Nat} (rg : ∀ j, j < m → et j < n) (base : ∀ i, i < n → D i = true → X i = true) (cl : ∀ j, j < m → X (et j) = true → X (es j) = true) (so : ∀ i, X i = true → hope D es et m i) {i : Nat} (hi : i < n) : X i = true ↔ hope D es et m i := ⟨so i, fun ⟨t, ht⟩ => hope_in rg base cl t i hi ht⟩
theorem pig_le {n w : Nat} {q : Nat → Nat} (hq : ∀ p, p < w → q p < n) (inj : ∀ p p', p < w → p' < w → q p = q p' → p = p') : w ≤ n := by
  have hn : ((List.range w).map q).Nodup := by
    refine List.pairwise_map.mpr (List.Pairwise.imp_of_mem ?_ List.nodup_range)
    intro a b ha hb hab e
    exact hab (inj a b (List.mem_range.mp ha) (List.mem_range.mp hb) e)
  have hs : ((List.range w).map q) ⊆ List.range n := by
    intro x hx
    obtain ⟨s, hs, rfl⟩ := List.mem_map.mp hx
    exact List.mem_range.mpr (hq s (List.mem_range.mp hs))
  have := List.Nodup.length_le_of_subset hn hs
  rw [List.length_map, List.length_range, List.length_range] at this
  exact this
def updT (f : Nat → Bool) (j : Nat) : Nat → Bool := fun k => if k = j then true else f k
theorem updT_at (f : Nat → Bool) (j : Nat) : updT f j j = true := by unfold updT; rw [if_pos rfl]
theorem updT_ne {f : Nat → Bool} {j k : Nat} (h : k ≠ j) : updT f j k = f k := by unfold updT; rw [if_neg h]
theorem updT_or {f : Nat → Bool} {j k : Nat} (h : updT f j k = true) : k = j ∨ f k = true := by
  by_cases c : k = j
  · exact Or.inl c
  · rw [updT_ne c] at h; exact Or.inr h
theorem updT_le {f : Nat → Bool} {j k : Nat} (h : f k = true) : updT f j k = true := by
  by_cases c : k = j
  · rw [c]; exact updT_at _ _
  · rw [updT_ne c]; exact h
/-- a mark with its hope -/
def mkX (mk : Nat → Int32) (X : Nat → Bool) (i : Nat) : Int32 := bif X i then mk i ||| Int32.ofInt 32 else mk i
theorem tMark_c (r : TR) (sd : Nat → Bool) (s : TS) : (tMark r sd s &&& Int32.ofInt 32 = 0) ∧ (¬ (tMark r sd s ||| Int32.ofInt 32) &&& Int32.ofInt 32 = 0) ∧ ((tMark r sd s &&& Int32.ofInt 16 = 0) ↔ tIs r sd s 4 = false) := by
  unfold tMark tIs
  rw [if_neg (show ¬ (4 : Nat) = 0 by decide), if_neg (show ¬ (4 : Nat) = 1 by decide), if_neg (show ¬ (4 : Nat) = 2 by decide)]
  generalize (tWr r sd s 0 || (tWr r sd s 1 || tWr r sd s 2)) = x
  generalize tEnd r sd s = a
  generalize tEmp s = b
  generalize Nat.beq (ts_all r s).length 0 = c
  cases x <;> cases a <;> cases b <;> cases c <;> decide
/-- only marks and queue have changed -/
def frH (o : Nat) (h h' : am_H) : Prop := (h'.1 = h.1 ∧ am_K h' = am_K h ∧ am_A h' = am_A h ∧ am_J h' = am_J h) ∧ ∀ p, p ≠ o + 4 → p ≠ o + 8 → am_I h' p = am_I h p
theorem frH_r (o : Nat) (h : am_H) : frH o h h := ⟨⟨rfl, rfl, rfl, rfl⟩, fun _ _ _ => rfl⟩
theorem frH_t {o : Nat} {a b c : am_H} (f : frH o a b) (g : frH o b c) : frH o a c := ⟨⟨g.1.1.trans f.1.1, g.1.2.1.trans f.1.2.1, g.1.2.2.1.trans f.1.2.2.1, g.1.2.2.2.trans f.1.2.2.2⟩, fun p c d => (g.2 p c d).trans (f.2 p c d)⟩
/-- marks and queue -/
def MF (h : am_H) (o n : Nat) (mk : Nat → Int32) (X : Nat → Bool) (w : Nat) (qf : Nat → Nat) : Prop := (∀ j, j < n → am_I h (o + 4) j = mkX mk X j) ∧ (∀ p, p < w → am_I h (o + 8) p = nI (qf p) ∧ qf p < n ∧ X (qf p) = true) ∧ (∀ p p', p < w → p' < w → qf p = qf p' → p = p') ∧ (∀ j, X j = true → ∃ p, p < w ∧ qf p = j)
theorem mf_lt {h : am_H} {o n : Nat} {mk : Nat → Int32} {X : Nat → Bool} {w : Nat} {qf : Nat → Nat} (a : MF h o n mk X w qf) {j : Nat} (hj : j < n) (hX : X j = false) : w < n := by
  have := pig_le (n := n) (w := w + 1) (q := updN qf w j) (fun p hp => by
    by_cases c : p = w
    · rw [c, updN_at]; exact hj
    · rw [updN_ne c]; exact (a.2.1 p (by omega)).2.1) (fun p p' hp hp' e => by
    by_cases c : p = w
    · by_cases c' : p' = w
      · omega
      · rw [c, updN_at, updN_ne c'] at e
        have := (a.2.1 p' (by omega)).2.2
        rw [← e, hX] at this; cases this
    · by_cases c' : p' = w
      · rw [c', updN_at, updN_ne c] at e
        have := (a.2.1 p (by omega)).2.2
        rw [e, hX] at this; cases this
      · rw [updN_ne c, updN_ne c'] at e
        exact a.2.2.1 p p' (by omega) (by omega) e)
  omega
def mfHeap (h : am_H) (o : Nat) (mk : Nat → Int32) (w j : Nat) : am_H := am_sI (am_sI h (o + 4) j (mk j ||| Int32.ofInt 32)) (o + 8) w (nI j)
theorem mf_fr (h : am_H) (o : Nat) (mk : Nat → Int32) (w j : Nat) : frH o h (mfHeap h o mk w j) := ⟨⟨rfl, rfl, rfl, rfl⟩, fun p c d => by unfold mfHeap; rw [hp_I' _ _ _ d, hp_I' _ _ _ c]⟩
theorem mf_add {h : am_H} {o n : Nat} {mk : Nat → Int32} {X : Nat → Bool} {w : Nat} {qf : Nat → Nat} (a : MF h o n mk X w qf) {j : Nat} (hj : j < n) (hX : X j = false) : MF (mfHeap h o mk w j) o n mk (updT X j) (w + 1) (updN qf w j) := by
  obtain ⟨a1, a2, a3, a4⟩ := a
  have i4 : am_I (mfHeap h o mk w j) (o + 4) = upd (am_I h (o + 4)) j (mk j ||| Int32.ofInt 32) := by
    unfold mfHeap; rw [hp_I' _ _ _ (by omega), hp_I]
  have i8 : am_I (mfHeap h o mk w j) (o + 8) = upd (am_I h (o + 8)) w (nI j) := by
    unfold mfHeap; rw [hp_I, hp_I' _ _ _ (by omega)]
  refine ⟨fun i hi => ?_, fun p hp => ?_, fun p p' hp hp' e => ?_, fun i hi => ?_⟩
  · rw [i4]; unfold mkX
    by_cases c : i = j
    · rw [c, upd_at, updT_at]; rfl
    · rw [upd_ne c, updT_ne c]; exact a1 i hi
  · rw [i8]
    by_cases c : p = w
    · rw [c, upd_at, updN_at]; exact ⟨rfl, hj, updT_at _ _⟩
    · rw [upd_ne c, updN_ne c]
      obtain ⟨b1, b2, b3⟩ := a2 p (by omega)
      exact ⟨b1, b2, updT_le b3⟩
  · by_cases c : p = w
    · by_cases c' : p' = w
      · omega
      · rw [c, updN_at, updN_ne c'] at e
        have := (a2 p' (by omega)).2.2
        rw [← e, hX] at this; cases this
    · by_cases c' : p' = w
      · rw [c', updN_at, updN_ne c] at e
        have := (a2 p (by omega)).2.2
        rw [e, hX] at this; cases this
      · rw [updN_ne c, updN_ne c'] at e
        exact a3 p p' (by omega) (by omega) e
  · rcases updT_or hi with c | c
    · exact ⟨w, by omega, by rw [updN_at]; exact c.symm⟩
    · obtain ⟨p, hp, e⟩ := a4 i c
      exact ⟨p, by omega, by rw [updN_ne (by omega)]; exact e⟩
