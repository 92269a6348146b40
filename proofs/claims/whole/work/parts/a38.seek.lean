/-! ===== the first row that tells two books apart: the reference ===== -/
theorem BP_lt {N : Nat} {pw : Nat → List Nat} {pf pa : Nat → Nat} {k a : Nat} (h : BP N pw pf pa k a) (hk : k < N) {i : Nat} (hi : i < N) : wLt (pw i) (a :: pw k) := by
  obtain ⟨⟨h1, h2, h3, h4⟩, h5⟩ := h
  by_cases c0 : i = 0
  · rw [c0, h2]; trivial
  · obtain ⟨x, y, z⟩ := h3 i (by omega) hi
    rw [z]
    rcases h5 i (by omega) hi with p | ⟨p, q⟩
    · exact Or.inl (h4 _ _ p hk)
    · exact Or.inr ⟨by rw [p], q⟩
theorem BC_skip {α : Type} {N : Nat} {pw : Nat → List Nat} {key : List Nat → α} {z : α} {k a : Nat} (h : BC N pw key z k a) (hn : key (a :: pw k) = z ∨ ∃ i, i < N ∧ key (pw i) = key (a :: pw k) ∧ (pw i = a :: pw k ∨ wLt (pw i) (a :: pw k))) : BC N pw key z k (a + 1) := by
  intro k' a' hlt h24
  by_cases c : k' = k ∧ a' = a
  · rw [c.1, c.2]; exact hn
  · exact h k' a' (by omega) h24
theorem BC_add {α : Type} {N : Nat} {pw : Nat → List Nat} {key : List Nat → α} {z : α} {k a : Nat} (h : BC N pw key z k a) (hk : k < N) : BC (N + 1) (fun i => if i = N then a :: pw k else pw i) key z k (a + 1) := by
  intro k' a' hlt h24
  show key (a' :: (if k' = N then _ else _)) = z ∨ ∃ i, i < N + 1 ∧ key (if i = N then _ else _) = key (a' :: (if k' = N then _ else _)) ∧ ((if i = N then _ else _) = a' :: (if k' = N then _ else _) ∨ wLt (if i = N then _ else _) (a' :: (if k' = N then _ else _)))
  rw [if_neg (by omega)]
  by_cases c : k' = k ∧ a' = a
  · right
    refine ⟨N, by omega, ?_, ?_⟩
    · rw [if_pos rfl, c.1, c.2]
    · rw [if_pos rfl, c.1, c.2]; exact Or.inl rfl
  · rcases h k' a' (by omega) h24 with h0 | ⟨i, hi, e1, e2⟩
    · exact Or.inl h0
    · right
      refine ⟨i, by omega, ?_, ?_⟩
      · rw [if_neg (by omega)]; exact e1
      · rw [if_neg (by omega)]; exact e2
theorem BC_next {α : Type} {N : Nat} {pw : Nat → List Nat} {key : List Nat → α} {z : α} {k : Nat} (h : BC N pw key z k 24) : BC N pw key z (k + 1) 0 := fun k' a' hlt h24 => h k' a' (by omega) h24
theorem P9_c {h : am_H} {N : Nat} {key key' : Nat → Nat × Nat} {fr ac fr' ac' : Nat → Int32} {T : Nat → Nat} (p : P9 h N key fr ac T) (hk : ∀ i, i < N → key' i = key i) (hf : ∀ i, i < N → fr' i = fr i) (ha : ∀ i, i < N → ac' i = ac i) : P9 h N key' fr' ac' T := by
  obtain ⟨p1, p2, p3, p4, o1, o2, o3, o4, o5⟩ := p
  refine ⟨p1, p2, fun i hi => by rw [hk i hi, hf i hi, ha i hi]; exact p3 i hi, p4, o1, o2, fun k hk' => by rw [hk k hk']; exact o3 k hk', o4, fun i j hi hj e => o5 i j hi hj (by rw [hk i hi, hk j hj] at e; exact e)⟩
section
variable (n1 n2 : Nat) (so1 so2 : Nat → Nat) (fo1 fo2 : Nat → Nat → Prop)
/-- the pair that a word leads to -/
noncomputable def KY (w : List Nat) : Nat × Nat := (uMk (bSet n1 so1 fo1 w), uMk (bSet n2 so2 fo2 w))
/-- a word tells the two apart -/
def bDis (w : List Nat) : Prop := ¬ (bAcc n1 so1 fo1 w ↔ bAcc n2 so2 fo2 w)
end
def frI (pf : Nat → Nat) (i : Nat) : Int32 := if i = 0 then Int32.ofInt (-1) else nI (pf i)
theorem uMk_st {n : Nat} {so : Nat → Nat} {fo : Nat → Nat → Prop} (hn : n ≤ 15) {u v : List Nat} (h : uMk (bSet n so fo u) = uMk (bSet n so fo v)) (a : Nat) : uMk (bSet n so fo (a :: u)) = uMk (bSet n so fo (a :: v)) := by
  rw [← bLd_w hn, ← bLd_w hn, h]
theorem uMk_z {n : Nat} {so : Nat → Nat} {fo : Nat → Nat → Prop} (hn : n ≤ 15) {u : List Nat} (h : uMk (bSet n so fo u) = 0) (a : Nat) : uMk (bSet n so fo (a :: u)) = 0 := by
  apply uMk_0
  rintro q ⟨_, _, _, p, hp, hw, _⟩
  have : (uMk (bSet n so fo u)).testBit p = true := (uMk_t _ p).mpr ⟨by omega, hw⟩
  rw [h, Nat.zero_testBit] at this
  cases this
theorem bAcc_k {n : Nat} {so : Nat → Nat} {fo : Nat → Nat → Prop} (hn : n ≤ 15) (w : List Nat) : bAcc n so fo w ↔ bNx fo (uMk (bSet n so fo w)) 0 := by
  constructor
  · rintro ⟨p, hp, hb, hf⟩
    exact ⟨p, by omega, (uMk_t _ p).mpr ⟨by omega, hb⟩, hf⟩
  · rintro ⟨p, hp, ht, hf⟩
    have hb := ((uMk_t _ p).mp ht).2
    have hpn : p ≤ n := by
      cases w with
      | nil => have : p = 0 := hb; omega
      | cons c w => exact (bSet_rg hb).2.1
    exact ⟨p, hpn, hb, hf⟩
theorem bNx_0 {fo : Nat → Nat → Prop} : ¬ bNx fo 0 0 := by
  rintro ⟨p, _, ht, _⟩
  rw [Nat.zero_testBit] at ht; cases ht
/-- the reference's end of a set -/
theorem en_9 {h : am_H} {b n : Nat} {so : Nat → Nat} {fo : Nat → Nat → Prop} (hb : B9 h b n so fo) {X : Nat} (hX : X < 65536) {F : Nat} (hF : 20 ≤ F) : f_X9_ends F (nI b) (nI X) h = some (bI (uD (bNx fo X 0)), h) := by
  unfold f_X9_ends
  by_cases x0 : X = 0
  · rw [if_pos ((nI_0e (by omega)).mpr x0), b2s, x0, uD_n bNx_0]; rfl
  · obtain ⟨y, e, hy⟩ := nx_9 hb X (F := F) (by omega)
    rw [if_neg (fun h => x0 ((nI_0e (by omega)).mp h)), e, b2s, bt_and1]
    have : bt y 0 = uD (bNx fo X 0) := by
      rw [Bool.eq_iff_iff, hy 0]
      exact ⟨fun h => uD_i h, fun h => uD_e h⟩
    rw [this]
    cases uD (bNx fo X 0) <;> rfl
theorem ky_count {n1 n2 : Nat} (h1 : n1 ≤ 15) (h2 : n2 ≤ 15) {fo1 fo2 : Nat → Nat → Prop} {lb1 lb2 : Nat → Nat} {B1 B2 σ1 σ2 : Nat} (k1 : bOk n1 fo1 lb1 B1 σ1) (k2 : bOk n2 fo2 lb2 B2 σ2) {so1 so2 : Nat → Nat} (s1 : ∀ q, so1 q < 24) (s2 : ∀ q, so2 q < 24) {N : Nat} {pw : Nat → List Nat} (hd : ∀ i j, i < N → j < N → KY n1 n2 so1 so2 fo1 fo2 (pw i) = KY n1 n2 so1 so2 fo1 fo2 (pw j) → i = j) (hz : ∀ i, i < N → KY n1 n2 so1 so2 fo1 fo2 (pw i) ≠ (0, 0)) : N ≤ 65536 := by
  have := b_pairs h1 h2 k1 k2 s1 s2 (PL := (List.range N).map (fun i => KY n1 n2 so1 so2 fo1 fo2 (pw i))) (by
    refine List.pairwise_map.mpr (List.Pairwise.imp_of_mem ?_ List.nodup_range)
    intro x y hx hy hne e
    exact hne (hd x y (List.mem_range.mp hx) (List.mem_range.mp hy) e)) (by
    intro x hx
    obtain ⟨i, hi, rfl⟩ := List.mem_map.mp hx
    exact ⟨hz i (List.mem_range.mp hi), pw i, rfl⟩)
  rwa [List.length_map, List.length_range] at this
