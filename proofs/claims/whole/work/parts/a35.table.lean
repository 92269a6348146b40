/-! ===== tables where what is sought stands at its slot or behind it ===== -/
def OA {α : Type} (M n : Nat) (T : Nat → Nat) (key : Nat → α) (hash : α → Nat) : Prop :=
  n < M ∧ (∀ s, s < M → T s ≤ n) ∧ (∀ k, k < n → ∃ d, d < M ∧ T ((hash (key k) + d) % M) = k + 1 ∧ ∀ e, e < d → T ((hash (key k) + e) % M) ≠ 0) ∧ (∀ s s', s < M → s' < M → T s ≠ 0 → T s = T s' → s = s') ∧ (∀ i j, i < n → j < n → key i = key j → i = j)
theorem oa_free {α : Type} {M n : Nat} {T : Nat → Nat} {key : Nat → α} {hash : α → Nat} (h : OA M n T key hash) : ∃ s, s < M ∧ T s = 0 := by
  obtain ⟨h1, h2, _, h4, _⟩ := h
  apply Classical.byContradiction
  intro hno
  have hne : ∀ s, s < M → T s ≠ 0 := fun s hs e => hno ⟨s, hs, e⟩
  have hn : ((List.range M).map (fun s => T s - 1)).Nodup := by
    refine List.pairwise_map.mpr (List.Pairwise.imp_of_mem ?_ List.nodup_range)
    intro a b ha hb hab e
    have ha := List.mem_range.mp ha
    have hb := List.mem_range.mp hb
    have := hne a ha
    have := hne b hb
    exact hab (h4 a b ha hb (hne a ha) (by omega))
  have hs : ((List.range M).map (fun s => T s - 1)) ⊆ List.range n := by
    intro x hx
    obtain ⟨s, hs, rfl⟩ := List.mem_map.mp hx
    have hs := List.mem_range.mp hs
    have := h2 s hs
    have := hne s hs
    exact List.mem_range.mpr (by omega)
  have := List.Nodup.length_le_of_subset hn hs
  rw [List.length_map, List.length_range, List.length_range] at this
  omega
/-- the search for x ends at d -/
def oaAt {α : Type} (M : Nat) (T : Nat → Nat) (key : Nat → α) (hash : α → Nat) (x : α) (d : Nat) : Prop := (T ((hash x + d) % M) = 0 ∨ key (T ((hash x + d) % M) - 1) = x) ∧ ∀ e, e < d → T ((hash x + e) % M) ≠ 0 ∧ key (T ((hash x + e) % M) - 1) ≠ x
theorem oa_find {α : Type} {M n : Nat} {T : Nat → Nat} {key : Nat → α} {hash : α → Nat} (h : OA M n T key hash) (x : α) : ∃ d, d < M ∧ oaAt M T key hash x d := by
  obtain ⟨s, hs, e⟩ := oa_free h
  have hM : 0 < M := by omega
  have hr : hash x % M < M := Nat.mod_lt _ hM
  have ex : T ((hash x + (s + M - hash x % M) % M) % M) = 0 := by
    have : (hash x + (s + M - hash x % M) % M) % M = s := by
      rw [Nat.add_mod, Nat.mod_mod]
      by_cases c : hash x % M ≤ s
      · have : (s + M - hash x % M) % M = s - hash x % M := by
          rw [show s + M - hash x % M = (s - hash x % M) + M from by omega, Nat.add_mod_right, Nat.mod_eq_of_lt (by omega)]
        rw [this, show hash x % M + (s - hash x % M) = s from by omega, Nat.mod_eq_of_lt hs]
      · have : (s + M - hash x % M) % M = s + M - hash x % M := Nat.mod_eq_of_lt (by omega)
        rw [this, show hash x % M + (s + M - hash x % M) = s + M from by omega, Nat.add_mod_right, Nat.mod_eq_of_lt hs]
    rw [this]; exact e
  obtain ⟨d, hd, hm⟩ := u_least (P := fun d => T ((hash x + d) % M) = 0 ∨ key (T ((hash x + d) % M) - 1) = x) (Or.inl ex)
  have hdM : d < M := by
    apply Classical.byContradiction
    intro hh
    exact hm _ (Nat.lt_of_lt_of_le (Nat.mod_lt _ hM) (by omega)) (Or.inl ex)
  exact ⟨d, hdM, hd, fun e he => ⟨fun h0 => hm e he (Or.inl h0), fun h0 => hm e he (Or.inr h0)⟩⟩
theorem oa_old {α : Type} {M n : Nat} {T : Nat → Nat} {key : Nat → α} {hash : α → Nat} (h : OA M n T key hash) {k d : Nat} (hk : k < n) (hd : oaAt M T key hash (key k) d) : T ((hash (key k) + d) % M) = k + 1 := by
  obtain ⟨h1, h2, h3, h4, h5⟩ := h
  obtain ⟨d1, hd1, e1, n1⟩ := h3 k hk
  obtain ⟨hs, hn⟩ := hd
  rcases Nat.lt_trichotomy d d1 with c | c | c
  · have hne := n1 d c
    rcases hs with hs | hs
    · exact absurd hs hne
    · have hle := h2 ((hash (key k) + d) % M) (Nat.mod_lt _ (by omega))
      have := h5 _ k (by omega) hk hs
      omega
  · rw [c]; exact e1
  · have := (hn d1 c).2
    rw [e1] at this
    exact absurd rfl this
theorem oa_new {α : Type} {M n : Nat} {T : Nat → Nat} {key : Nat → α} {hash : α → Nat} (h : OA M n T key hash) {x : α} (hx : ∀ k, k < n → key k ≠ x) {d : Nat} (hd : oaAt M T key hash x d) : T ((hash x + d) % M) = 0 := by
  obtain ⟨h1, h2, h3, h4, h5⟩ := h
  rcases hd.1 with hs | hs
  · exact hs
  · apply Classical.byContradiction
    intro hne
    have hle := h2 ((hash x + d) % M) (Nat.mod_lt _ (by omega))
    exact hx _ (by omega) hs
theorem oa_add {α : Type} {M n : Nat} {T : Nat → Nat} {key : Nat → α} {hash : α → Nat} (h : OA M n T key hash) (hn : n + 1 < M) {x : α} (hx : ∀ k, k < n → key k ≠ x) {d : Nat} (hdM : d < M) (hd : oaAt M T key hash x d) : OA M (n + 1) (updN T ((hash x + d) % M) (n + 1)) (fun k => if k = n then x else key k) hash := by
  have h0 := oa_new h hx hd
  obtain ⟨h1, h2, h3, h4, h5⟩ := h
  have hs : (hash x + d) % M < M := Nat.mod_lt _ (by omega)
  refine ⟨hn, ?_, ?_, ?_, ?_⟩
  · intro s hs'
    by_cases c : s = (hash x + d) % M
    · rw [c, updN_at]; omega
    · rw [updN_ne c]; have := h2 s hs'; omega
  · intro k hk
    show ∃ d', d' < M ∧ updN T _ _ ((hash (if k = n then x else key k) + d') % M) = k + 1 ∧ _
    by_cases c : k = n
    · rw [if_pos c]
      refine ⟨d, hdM, by rw [updN_at, c], fun e he => ?_⟩
      show updN T _ _ ((hash (if k = n then x else key k) + e) % M) ≠ 0
      rw [if_pos c]
      by_cases ce : (hash x + e) % M = (hash x + d) % M
      · rw [ce, updN_at]; omega
      · rw [updN_ne ce]; exact (hd.2 e he).1
    · rw [if_neg c]
      obtain ⟨d1, hd1, e1, n1⟩ := h3 k (by omega)
      refine ⟨d1, hd1, ?_, fun e he => ?_⟩
      · rw [updN_ne (fun ce => by rw [ce, h0] at e1; omega)]; exact e1
      · show updN T _ _ ((hash (if k = n then x else key k) + e) % M) ≠ 0
        rw [if_neg c, updN_ne (fun ce => n1 e he (by rw [ce]; exact h0))]
        exact n1 e he
  · intro s s' hs1 hs2 hne he
    by_cases c : s = (hash x + d) % M
    · by_cases c' : s' = (hash x + d) % M
      · rw [c, c']
      · rw [c, updN_at, updN_ne c'] at he
        have := h2 s' hs2; omega
    · by_cases c' : s' = (hash x + d) % M
      · rw [c', updN_at, updN_ne c] at he
        have := h2 s hs1; omega
      · rw [updN_ne c, updN_ne c'] at he
        rw [updN_ne c] at hne
        exact h4 s s' hs1 hs2 hne he
  · intro i j hi hj he
    have he : (if i = n then x else key i) = (if j = n then x else key j) := he
    by_cases c : i = n
    · by_cases c' : j = n
      · omega
      · rw [if_pos c, if_neg c'] at he
        exact absurd he.symm (hx j (by omega))
    · by_cases c' : j = n
      · rw [if_neg c, if_pos c'] at he
        exact absurd he (hx i (by omega))
      · rw [if_neg c, if_neg c'] at he
        exact h5 i j (by omega) (by omega) he
theorem oa_0 {α : Type} (M : Nat) (hM : 0 < M) (key : Nat → α) (hash : α → Nat) (T : Nat → Nat) (hT : ∀ s, s < M → T s = 0) : OA M 0 T key hash := ⟨hM, fun s hs => by rw [hT s hs]; exact Nat.le_refl _, fun k hk => absurd hk (Nat.not_lt_zero _), fun s s' hs _ hne => absurd (hT s hs) hne, fun i j hi => absurd hi (Nat.not_lt_zero _)⟩
