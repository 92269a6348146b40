/-! ===== words in the order in which they are tried, and the first that tells two books apart ===== -/
/-- shorter first, then by the first letter that differs (the last letter stands first) -/
def wLt : List Nat → List Nat → Prop
  | [], [] => False
  | [], _ :: _ => True
  | _ :: _, [] => False
  | a :: u, b :: v => wLt u v ∨ (u = v ∧ a < b)
theorem wLt_i : ∀ u, ¬ wLt u u
  | [] => fun h => h
  | _ :: u => fun h => h.elim (wLt_i u) (fun h => Nat.lt_irrefl _ h.2)
theorem wLt_t : ∀ {u v w}, wLt u v → wLt v w → wLt u w
  | [], [], _, h, _ => h.elim
  | [], _ :: _, [], _, h => h.elim
  | [], _ :: _, _ :: _, _, _ => trivial
  | _ :: _, [], _, h, _ => h.elim
  | _ :: _, _ :: _, [], _, h => h.elim
  | a :: u, b :: v, c :: w, h, k => by
    rcases h with h | ⟨rfl, h⟩
    · rcases k with k | ⟨rfl, k⟩
      · exact Or.inl (wLt_t h k)
      · exact Or.inl h
    · rcases k with k | ⟨rfl, k⟩
      · exact Or.inl k
      · exact Or.inr ⟨rfl, Nat.lt_trans h k⟩
theorem wLt_c : ∀ u v, u = v ∨ wLt u v ∨ wLt v u
  | [], [] => Or.inl rfl
  | [], _ :: _ => Or.inr (Or.inl trivial)
  | _ :: _, [] => Or.inr (Or.inr trivial)
  | a :: u, b :: v => by
    rcases wLt_c u v with rfl | h | h
    · rcases Nat.lt_trichotomy a b with h | rfl | h
      · exact Or.inr (Or.inl (Or.inr ⟨rfl, h⟩))
      · exact Or.inl rfl
      · exact Or.inr (Or.inr (Or.inr ⟨rfl, h⟩))
    · exact Or.inr (Or.inl (Or.inl h))
    · exact Or.inr (Or.inr (Or.inl h))
theorem wLt_a {u v : List Nat} (h : wLt u v) : ∀ x : List Nat, wLt (x ++ u) (x ++ v)
  | [] => h
  | _ :: x => Or.inl (wLt_a h x)
theorem wLt_cons (a : Nat) : ∀ u : List Nat, wLt u (a :: u)
  | [] => trivial
  | b :: u => Or.inl (wLt_cons b u)
/-- rows of words: each but the first is an earlier one and a letter -/
def BW (N : Nat) (pw : Nat → List Nat) (pf pa : Nat → Nat) : Prop := 1 ≤ N ∧ pw 0 = [] ∧ (∀ i, 1 ≤ i → i < N → pf i < i ∧ pa i < 24 ∧ pw i = pa i :: pw (pf i)) ∧ (∀ i j, i < j → j < N → wLt (pw i) (pw j))
/-- all before (k, a) is done -/
def BP (N : Nat) (pw : Nat → List Nat) (pf pa : Nat → Nat) (k a : Nat) : Prop := BW N pw pf pa ∧ ∀ i, 1 ≤ i → i < N → pf i < k ∨ (pf i = k ∧ pa i < a)
theorem BP_skip {N : Nat} {pw : Nat → List Nat} {pf pa : Nat → Nat} {k a : Nat} (h : BP N pw pf pa k a) : BP N pw pf pa k (a + 1) := ⟨h.1, fun i i1 iN => (h.2 i i1 iN).imp id (fun x => ⟨x.1, by omega⟩)⟩
theorem BP_next {N : Nat} {pw : Nat → List Nat} {pf pa : Nat → Nat} {k a : Nat} (h : BP N pw pf pa k a) : BP N pw pf pa (k + 1) 0 := ⟨h.1, fun i i1 iN => (h.2 i i1 iN).elim (fun x => Or.inl (by omega)) (fun x => Or.inl (by omega))⟩
theorem BP_add {N : Nat} {pw : Nat → List Nat} {pf pa : Nat → Nat} {k a : Nat} (h : BP N pw pf pa k a) (hk : k < N) (ha : a < 24) : BP (N + 1) (fun i => if i = N then a :: pw k else pw i) (fun i => if i = N then k else pf i) (fun i => if i = N then a else pa i) k (a + 1) := by
  obtain ⟨⟨h1, h2, h3, h4⟩, h5⟩ := h
  refine ⟨⟨by omega, ?_, ?_, ?_⟩, ?_⟩
  · show (if 0 = N then _ else _) = _
    rw [if_neg (by omega)]; exact h2
  · intro i i1 iN
    show (if i = N then k else pf i) < i ∧ (if i = N then a else pa i) < 24 ∧ (if i = N then a :: pw k else pw i) = (if i = N then a else pa i) :: (if (if i = N then k else pf i) = N then a :: pw k else pw (if i = N then k else pf i))
    by_cases c : i = N
    · rw [if_pos c, if_pos c, if_pos c, if_neg (by omega)]
      exact ⟨by omega, ha, rfl⟩
    · obtain ⟨x, y, z⟩ := h3 i i1 (by omega)
      rw [if_neg c, if_neg c, if_neg c, if_neg (by omega)]
      exact ⟨x, y, z⟩
  · intro i j hij hj
    show wLt (if i = N then _ else _) (if j = N then _ else _)
    by_cases c : j = N
    · rw [if_pos c, if_neg (by omega)]
      by_cases c0 : i = 0
      · rw [c0, h2]; trivial
      · obtain ⟨x, y, z⟩ := h3 i (by omega) (by omega)
        rw [z]
        rcases h5 i (by omega) (by omega) with p | ⟨p, q⟩
        · exact Or.inl (h4 _ _ p hk)
        · exact Or.inr ⟨by rw [p], q⟩
    · rw [if_neg c, if_neg (by omega)]
      exact h4 i j hij (by omega)
  · intro i i1 iN
    show (if i = N then k else pf i) < k ∨ ((if i = N then k else pf i) = k ∧ (if i = N then a else pa i) < a + 1)
    by_cases c : i = N
    · rw [if_pos c, if_pos c]; exact Or.inr ⟨rfl, by omega⟩
    · rw [if_neg c, if_neg c]
      exact (h5 i i1 (by omega)).imp id (fun x => ⟨x.1, by omega⟩)
theorem BW_le {N : Nat} {pw : Nat → List Nat} {pf pa : Nat → Nat} (h : BW N pw pf pa) {i j : Nat} (hi : i < N) (hj : j < N) (e : pw i = pw j ∨ wLt (pw i) (pw j)) : i ≤ j := by
  apply Classical.byContradiction
  intro hh
  have := h.2.2.2 j i (by omega) hi
  rcases e with e | e
  · rw [e] at this; exact wLt_i _ this
  · exact wLt_i _ (wLt_t e this)
theorem BW_24 {N : Nat} {pw : Nat → List Nat} {pf pa : Nat → Nat} (h : BW N pw pf pa) : ∀ i, i < N → ∀ a, a ∈ pw i → a < 24 := by
  intro i
  induction i using Nat.strongRecOn with
  | ind i ih =>
    intro hi a ha
    by_cases c : i = 0
    · rw [c, h.2.1] at ha; cases ha
    · obtain ⟨x, y, z⟩ := h.2.2.1 i (by omega) hi
      rw [z] at ha
      rcases List.mem_cons.mp ha with rfl | ha
      · exact y
      · exact ih _ x (by omega) a ha
/-- the first word for which D holds -/
def wFirst (D : List Nat → Prop) (w : List Nat) : Prop := (∀ a, a ∈ w → a < 24) ∧ D w ∧ ∀ u, (∀ a, a ∈ u → a < 24) → wLt u w → ¬ D u
theorem wFirst_u {D : List Nat → Prop} {w w' : List Nat} (h : wFirst D w) (h' : wFirst D w') : w = w' := by
  rcases wLt_c w w' with e | e | e
  · exact e
  · exact absurd h.2.1 (h'.2.2 w h.1 e)
  · exact absurd h'.2.1 (h.2.2 w' h'.1 e)
/-- every step that is done leads to something met, by a word that is no later -/
def BC {α : Type} (N : Nat) (pw : Nat → List Nat) (key : List Nat → α) (z : α) (k a : Nat) : Prop := ∀ k' a', (k' < k ∨ (k' = k ∧ a' < a)) → a' < 24 → key (a' :: pw k') = z ∨ ∃ i, i < N ∧ key (pw i) = key (a' :: pw k') ∧ (pw i = a' :: pw k' ∨ wLt (pw i) (a' :: pw k'))
/-- what comes no later than the k-th word is like one of the first -/
theorem bc_le {α : Type} {N : Nat} {pw : Nat → List Nat} {pf pa : Nat → Nat} {key : List Nat → α} {z : α} {k : Nat} (hk : k < N) (hw : BW N pw pf pa) (hc : BC N pw key z k 0) (hkey : ∀ a u v, key u = key v → key (a :: u) = key (a :: v)) (hz : ∀ a u, key u = z → key (a :: u) = z) : ∀ u, (∀ a, a ∈ u → a < 24) → (u = pw k ∨ wLt u (pw k)) → key u = z ∨ ∃ i, i ≤ k ∧ key (pw i) = key u ∧ (pw i = u ∨ wLt (pw i) u)
  | [], _, _ => Or.inr ⟨0, Nat.zero_le _, by rw [hw.2.1], Or.inl hw.2.1⟩
  | a :: u, h24, hle => by
    have k0 : k ≠ 0 := by
      intro e
      rw [e, hw.2.1] at hle
      rcases hle with h | h
      · cases h
      · exact h
    obtain ⟨x, y, e⟩ := hw.2.2.1 k (by omega) hk
    have hj : u = pw (pf k) ∨ wLt u (pw (pf k)) := by
      rw [e] at hle
      rcases hle with h | h | h
      · exact Or.inl (List.cons.inj h).2
      · exact Or.inr h
      · exact Or.inl h.1
    have hjk : wLt (pw (pf k)) (pw k) := hw.2.2.2 _ _ x hk
    have hu : u = pw k ∨ wLt u (pw k) := Or.inr (hj.elim (fun h => by rw [h]; exact hjk) (fun h => wLt_t h hjk))
    rcases bc_le hk hw hc hkey hz u (fun b hb => h24 b (List.mem_cons_of_mem _ hb)) hu with h0 | ⟨i', hi', ek, ew⟩
    · exact Or.inl (hz a u h0)
    · have hij : i' ≤ pf k := by
        apply BW_le hw (by omega) (by omega)
        rcases ew with ew | ew
        · rw [ew]; exact hj
        · exact Or.inr (hj.elim (fun h => by rw [← h]; exact ew) (fun h => wLt_t ew h))
      have hle2 : a :: pw i' = a :: u ∨ wLt (a :: pw i') (a :: u) := ew.imp (fun h => by rw [h]) (fun h => Or.inl h)
      rcases hc i' a (Or.inl (by omega)) (h24 a (List.mem_cons_self ..)) with h0 | ⟨i, hi, e1, e2⟩
      · left; rw [← hkey a _ _ ek]; exact h0
      · right
        have hiu : pw i = a :: u ∨ wLt (pw i) (a :: u) := by
          rcases e2 with e2 | e2
          · rw [e2]; exact hle2
          · exact Or.inr (hle2.elim (fun h => by rw [← h]; exact e2) (fun h => wLt_t e2 h))
        refine ⟨i, ?_, e1.trans (hkey a _ _ ek), hiu⟩
        apply BW_le hw hi hk
        rcases hiu with h | h
        · rw [h]; exact hle
        · exact Or.inr (hle.elim (fun g => by rw [← g]; exact h) (fun g => wLt_t h g))
/-- all is met -/
theorem bc_all {α : Type} {N : Nat} {pw : Nat → List Nat} {pf pa : Nat → Nat} {key : List Nat → α} {z : α} (hw : BW N pw pf pa) (hc : BC N pw key z N 0) (hkey : ∀ a u v, key u = key v → key (a :: u) = key (a :: v)) (hz : ∀ a u, key u = z → key (a :: u) = z) : ∀ u, (∀ a, a ∈ u → a < 24) → key u = z ∨ ∃ i, i < N ∧ key (pw i) = key u
  | [], _ => Or.inr ⟨0, hw.1, by rw [hw.2.1]⟩
  | a :: u, h24 => by
    rcases bc_all hw hc hkey hz u (fun b hb => h24 b (List.mem_cons_of_mem _ hb)) with h0 | ⟨i', hi', ek⟩
    · exact Or.inl (hz a u h0)
    · rcases hc i' a (Or.inl hi') (h24 a (List.mem_cons_self ..)) with h0 | ⟨i, hi, e1, _⟩
      · left; rw [← hkey a _ _ ek]; exact h0
      · exact Or.inr ⟨i, hi, e1.trans (hkey a _ _ ek)⟩
/-- the first of the row at which D holds is the first of all -/
theorem bc_first {α : Type} {N : Nat} {pw : Nat → List Nat} {pf pa : Nat → Nat} {key : List Nat → α} {z : α} {k : Nat} (hk : k < N) (hw : BW N pw pf pa) (hc : BC N pw key z k 0) (hkey : ∀ a u v, key u = key v → key (a :: u) = key (a :: v)) (hz : ∀ a u, key u = z → key (a :: u) = z) {D : List Nat → Prop} (hD : ∀ u v, key u = key v → D u → D v) (hDz : ∀ u, key u = z → ¬ D u) (hno : ∀ i, i < k → ¬ D (pw i)) (hyes : D (pw k)) : wFirst D (pw k) := by
  refine ⟨BW_24 hw k hk, hyes, fun u h24 hlt hd => ?_⟩
  rcases bc_le hk hw hc hkey hz u h24 (Or.inr hlt) with h0 | ⟨i, hi, ek, ew⟩
  · exact hDz u h0 hd
  · have : i ≠ k := by
      intro e
      rw [e] at ew
      rcases ew with h | h
      · rw [h] at hlt; exact wLt_i _ hlt
      · exact wLt_i _ (wLt_t h hlt)
    exact hno i (by omega) (hD _ _ ek.symm hd)
theorem bc_none {α : Type} {N : Nat} {pw : Nat → List Nat} {pf pa : Nat → Nat} {key : List Nat → α} {z : α} (hw : BW N pw pf pa) (hc : BC N pw key z N 0) (hkey : ∀ a u v, key u = key v → key (a :: u) = key (a :: v)) (hz : ∀ a u, key u = z → key (a :: u) = z) {D : List Nat → Prop} (hD : ∀ u v, key u = key v → D u → D v) (hDz : ∀ u, key u = z → ¬ D u) (hno : ∀ i, i < N → ¬ D (pw i)) : ∀ u, (∀ a, a ∈ u → a < 24) → ¬ D u := by
  intro u h24 hd
  rcases bc_all hw hc hkey hz u h24 with h0 | ⟨i, hi, ek⟩
  · exact hDz u h0 hd
  · exact hno i hi (hD _ _ ek.symm hd)
