theorem uW_path {F : Nat → Nat → Prop} : ∀ {j q r : Nat}, uW F j q r → ∃ v : Nat → Nat, v 0 = q ∧ v j = r ∧ ∀ s, s < j → F (v s) (v (s + 1))
  | 0, q, r, h => by cases h; exact ⟨fun _ => q, rfl, rfl, fun s hs => by omega⟩
  | j + 1, q, r, ⟨w, h, hf⟩ => by
    obtain ⟨v, h0, hj, hs⟩ := uW_path h
    refine ⟨fun s => if s ≤ j then v s else r, ?_, ?_, ?_⟩
    · simp [h0]
    · exact if_neg (by omega)
    · intro s hsj
      by_cases e : s = j
      · subst e
        simp only [Nat.le_refl, if_true, show ¬ (s + 1 ≤ s) from by omega, if_false]
        rw [hj]; exact hf
      · have h1 : s ≤ j := by omega
        have h2 : s + 1 ≤ j := by omega
        simp only [h1, h2, if_true]
        exact hs s (by omega)
theorem uW_seg {F : Nat → Nat → Prop} {v : Nat → Nat} {c : Nat} (h : ∀ s, s < c → F (v s) (v (s + 1))) : ∀ i j, i + j ≤ c → uW F j (v i) (v (i + j))
  | i, 0, _ => rfl
  | i, j + 1, hij => ⟨v (i + j), uW_seg h i j (by omega), h (i + j) (by omega)⟩
theorem u_resid (d : Nat) (hd : 0 < d) (r : Nat) : ∀ m, ((List.range (d * m)).filter (fun s => decide (s % d ≠ r % d))).length + m = d * m := by
  have one : ∀ (b : Nat), ((List.range d).filter (fun s => decide ((d * b + s) % d ≠ r % d))).length + 1 = d := by
    intro b
    have e : ∀ s, s ∈ List.range d → decide ((d * b + s) % d ≠ r % d) = decide (s ≠ r % d) := by
      intro s hs
      have hs := List.mem_range.mp hs
      rw [Nat.mul_add_mod, Nat.mod_eq_of_lt hs]
    rw [List.filter_congr e]
    have hr : r % d < d := Nat.mod_lt _ hd
    generalize r % d = x at hr
    clear e
    have : ∀ n, ((List.range n).filter (fun s => decide (s ≠ x))).length + (if x < n then 1 else 0) = n := by
      intro n
      induction n with
      | zero => rfl
      | succ n ih =>
        rw [List.range_succ, List.filter_append, List.length_append]
        by_cases h : n = x
        · subst h
          simp at ih ⊢
          exact ih
        · by_cases hx : x < n
          · have : x < n + 1 := by omega
            simp [h, hx, this] at ih ⊢
            omega
          · have : ¬ x < n + 1 := by omega
            simp [h, hx, this] at ih ⊢
            omega
    have := this d
    rw [if_pos hr] at this
    exact this
  intro m
  induction m with
  | zero => simp
  | succ m ih =>
    rw [Nat.mul_succ, List.range_add, List.filter_append, List.length_append, List.filter_map, List.length_map]
    have h1 := one m
    have e : ((List.range d).filter ((fun s => decide (s % d ≠ r % d)) ∘ fun x => d * m + x)) = ((List.range d).filter (fun s => decide ((d * m + s) % d ≠ r % d))) := rfl
    rw [e]
    omega
def uCyc (F : Nat → Nat → Prop) (q : Nat) : Prop := ∃ l, 0 < l ∧ uW F l q q
/-- both ways -/
def uMut (F : Nat → Nat → Prop) (q r : Nat) : Prop := (∃ i, uW F i q r) ∧ ∃ i, uW F i r q
theorem uMut_r (F : Nat → Nat → Prop) (q : Nat) : uMut F q q := ⟨⟨0, rfl⟩, ⟨0, rfl⟩⟩
theorem uMut_s {F : Nat → Nat → Prop} {q r : Nat} (h : uMut F q r) : uMut F r q := ⟨h.2, h.1⟩
theorem uMut_t {F : Nat → Nat → Prop} {q r s : Nat} (h : uMut F q r) (k : uMut F r s) : uMut F q s := by
  obtain ⟨⟨a, ha⟩, ⟨b, hb⟩⟩ := h
  obtain ⟨⟨c, hc⟩, ⟨d, hd⟩⟩ := k
  exact ⟨⟨a + c, uW_add.mpr ⟨r, ha, hc⟩⟩, ⟨d + b, uW_add.mpr ⟨r, hd, hb⟩⟩⟩
/-- the tail of a place on a cycle: c the shortest round, d the period -/
def uTl (p c d : Nat) : Nat := c * (p - c + c / d - 1)
/-- c and d are a place's shortest round and its period -/
def uCD (F : Nat → Nat → Prop) (q c d : Nat) : Prop := 0 < c ∧ 0 < d ∧ d ∣ c ∧ uPer F q d ∧ (∀ k, uPer F q k → d ∣ k) ∧ (∃ v : Nat → Nat, v 0 = q ∧ (∀ s, s < c → F (v s) (v (s + 1))) ∧ v c = q ∧ ∀ i j, i < c → j < c → v i = v j → i = j)
theorem u_cd {F : Nat → Nat → Prop} {V : List Nat} (hV : uIn F V) {q : Nat} (h : uCyc F q) : ∃ c d, uCD F q c d := by
  obtain ⟨l, l0, hl⟩ := h
  obtain ⟨c, ⟨c0, hc⟩, hm⟩ := u_least (P := fun l => 0 < l ∧ uW F l q q) ⟨l0, hl⟩
  obtain ⟨d, hd, hdm⟩ := uPer_least (uPer_walk hV c0 hc)
  refine ⟨c, d, c0, hd.1, hdm c (uPer_walk hV c0 hc), hd, hdm, ?_⟩
  obtain ⟨v, v0, vc, hs⟩ := uW_path hc
  refine ⟨v, v0, hs, vc, ?_⟩
  have key : ∀ i j, i < j → j < c → v i ≠ v j := by
    intro i j hij hj e
    have a := uW_seg hs 0 i (by omega)
    have b := uW_seg hs j (c - j) (by omega)
    rw [v0, Nat.zero_add] at a
    rw [show j + (c - j) = c from by omega, vc, ← e] at b
    exact hm (i + (c - j)) (by omega) ⟨by omega, uW_add.mpr ⟨v i, a, b⟩⟩
  intro i j hi hj e
  apply Classical.byContradiction
  intro hne
  rcases Nat.lt_or_gt_of_ne hne with h | h
  · exact key i j h hj e
  · exact key j i h hi e.symm
theorem u_cdS {F : Nat → Nat → Prop} {V : List Nat} (hV : uIn F V) (hN : V.Nodup) {q c d : Nat} (h : uCD F q c d) (j : Nat) : uS F V q j + (c - c / d) ≤ V.length := by
  obtain ⟨c0, d0, hdc, hp, hdm, v, v0, hs, vc, inj⟩ := h
  have hq : q ∈ V := by
    have := (hV _ _ (hs 0 c0)).1
    rwa [v0] at this
  let Z := ((List.range c).filter (fun s => decide (s % d ≠ j % d))).map v
  have hZl : Z.length = c - c / d := by
    obtain ⟨m, rfl⟩ := hdc
    have := u_resid d d0 j m
    show (List.map _ _).length = _
    rw [List.length_map, Nat.mul_div_cancel_left _ d0]
    omega
  have hZn : Z.Nodup := by
    refine List.pairwise_map.mpr ?_
    refine List.Pairwise.imp_of_mem ?_ (List.Pairwise.filter _ (List.nodup_range (n := c)))
    intro a b ha hb hne e
    have ha := List.mem_range.mp (List.mem_filter.mp ha).1
    have hb := List.mem_range.mp (List.mem_filter.mp hb).1
    exact hne (inj a b ha hb e)
  have hall : ((V.filter (fun r => uD (uW F j q r))) ++ Z).Nodup := by
    refine List.nodup_append.mpr ⟨List.Pairwise.filter _ hN, hZn, ?_⟩
    intro a ha b hb e
    subst e
    have hw : uW F j q a := uD_e (List.mem_filter.mp ha).2
    obtain ⟨s, hs1, rfl⟩ := List.mem_map.mp hb
    obtain ⟨hs2, hs3⟩ := List.mem_filter.mp hs1
    have hs2 := List.mem_range.mp hs2
    have hs3 := of_decide_eq_true hs3
    have b := uW_seg hs s (c - s) (by omega)
    rw [show s + (c - s) = c from by omega, vc] at b
    have hcl : uW F (j + (c - s)) q q := uW_add.mpr ⟨v s, hw, b⟩
    have hdd := hdm _ (uPer_walk hV (by omega) hcl)
    obtain ⟨m, hm⟩ := hdc
    obtain ⟨n, hn⟩ := hdd
    apply hs3
    have h1 : j + c = d * n + s := by omega
    have h2 : (j + d * m) % d = (d * n + s) % d := by rw [← hm, h1]
    rw [Nat.add_mul_mod_self_left, Nat.mul_add_mod] at h2
    exact h2.symm
  have hsub : ((V.filter (fun r => uD (uW F j q r))) ++ Z) ⊆ V := by
    intro a ha
    rcases List.mem_append.mp ha with ha | ha
    · exact (List.mem_filter.mp ha).1
    · obtain ⟨s, hs1, rfl⟩ := List.mem_map.mp ha
      have hs2 := List.mem_range.mp (List.mem_filter.mp hs1).1
      exact (hV _ _ (hs s hs2)).1
  have := List.Nodup.length_le_of_subset hall hsub
  rw [List.length_append, hZl] at this
  exact this
theorem uCD_in {F : Nat → Nat → Prop} {V : List Nat} (hV : uIn F V) {q c d : Nat} (h : uCD F q c d) : q ∈ V := by
  obtain ⟨c0, d0, hdc, hp, hdm, v, v0, hs, vc, inj⟩ := h
  have := (hV _ _ (hs 0 c0)).1
  rwa [v0] at this
theorem uCD_w {F : Nat → Nat → Prop} {q c d : Nat} (h : uCD F q c d) : uW F c q q := by
  obtain ⟨c0, d0, hdc, hp, hdm, v, v0, hs, vc, inj⟩ := h
  have := uW_seg hs 0 c (by omega)
  rwa [v0, Nat.zero_add, vc] at this
theorem u_cdT {F : Nat → Nat → Prop} {V : List Nat} (hV : uIn F V) (hN : V.Nodup) {q c d : Nat} (h : uCD F q c d) {j : Nat} (hj : uTl V.length c d ≤ j) : uEq F q j d := by
  have hcS := fun j => u_cdS hV hN h j
  have hq := uCD_in hV h
  have hw := uCD_w h
  obtain ⟨c0, d0, hdc, hp, hdm, _⟩ := h
  have hle : c / d ≤ c := Nat.div_le_self c d
  have hcV : c - c / d ≤ V.length := by have := hcS 0; omega
  have ht := u_tail hV hq hw (M := V.length - (c - c / d)) (fun j => by have := hcS j; omega)
  obtain ⟨J, hJ⟩ := hp.2
  refine uEq_ge (uEq_low ht c0 hJ) ?_
  refine Nat.le_trans ?_ hj
  unfold uTl
  apply Nat.mul_le_mul_left
  omega
/-- places that reach one another have one period -/
theorem uc_same {F : Nat → Nat → Prop} {V : List Nat} (hV : uIn F V) {q r c d c' d' : Nat} (h : uCD F q c d) (h' : uCD F r c' d') (hm : uMut F q r) : d' ∣ d := by
  obtain ⟨⟨i, hi⟩, ⟨k, hk⟩⟩ := hm
  have hw : uW F (i + k) q q := uW_add.mpr ⟨r, hi, hk⟩
  obtain ⟨c0, d0, hdc, hp, hdm, _⟩ := h
  obtain ⟨c0', d0', hdc', hp', hdm', _⟩ := h'
  apply hdm'
  obtain ⟨_, J, hJ⟩ := hp
  have hik : uEq F q J (i + k) := by
    by_cases h0 : i + k = 0
    · rw [h0]; exact fun r => Iff.rfl
    · exact uEq_dvd hJ (hdm _ (uPer_walk hV (by omega) hw))
  -- from J on: x (j + k) r = x j q
  have key : ∀ j, J ≤ j → ∀ s, uW F (j + k) r s ↔ uW F j q s := by
    intro j hj s
    constructor
    · intro h
      have := uW_pre hi h
      have e : j + k + i = j + (i + k) := by omega
      rw [e] at this
      exact (uEq_ge hik hj s).mp this
    · intro h
      exact uW_pre hk h
  refine ⟨d0, J + k, ?_⟩
  intro s
  have a := key J (Nat.le_refl _) s
  have b := key (J + d) (by omega) s
  have e : J + d + k = J + k + d := by omega
  rw [e] at b
  exact b.trans ((hJ s).trans a.symm)
