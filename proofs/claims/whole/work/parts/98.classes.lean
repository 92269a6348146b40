/-! ===== the bound: classes of places that reach one another, the period of all ===== -/
def uLcm : List Nat → Nat
  | [] => 1
  | d :: ds => Nat.lcm d (uLcm ds)
noncomputable def uNc (F : Nat → Nat → Prop) (R : List Nat) : Nat := (R.filter (fun q => uD (¬ uCyc F q))).length
theorem uMut_cyc {F : Nat → Nat → Prop} {q r : Nat} (h : uMut F q r) (hc : uCyc F q) : uCyc F r := by
  obtain ⟨⟨i, hi⟩, ⟨k, hk⟩⟩ := h
  obtain ⟨l, l0, hl⟩ := hc
  exact ⟨k + (l + i), by omega, uW_add.mpr ⟨q, hk, uW_add.mpr ⟨q, hl, hi⟩⟩⟩
theorem u_split (R : List Nat) (P : Nat → Prop) : (R.filter (fun x => uD (P x))).length + (R.filter (fun x => uD (¬ P x))).length = R.length := by
  induction R with
  | nil => rfl
  | cons a R ih =>
    by_cases h : P a
    · simp only [List.filter_cons, uD_i h, uD_n (not_not_intro h), if_true, Bool.false_eq_true, if_false, List.length_cons]; omega
    · simp only [List.filter_cons, uD_n h, uD_i h, if_true, Bool.false_eq_true, if_false, List.length_cons]; omega
/-- the class of a place on a cycle has at least as many places as its shortest round -/
theorem u_class {F : Nat → Nat → Prop} {V R : List Nat} (hV : uIn F V) {q c d : Nat} (h : uCD F q c d) (hR : ∀ r, r ∈ V → uMut F q r → r ∈ R) : c ≤ (R.filter (fun r => uD (uMut F q r))).length := by
  obtain ⟨c0, d0, hdc, hp, hdm, v, v0, hs, vc, inj⟩ := h
  have hn : ((List.range c).map v).Nodup := by
    refine List.pairwise_map.mpr ?_
    refine List.Pairwise.imp_of_mem ?_ (List.nodup_range (n := c))
    intro a b ha hb hne e
    exact hne (inj a b (List.mem_range.mp ha) (List.mem_range.mp hb) e)
  have hsub : ((List.range c).map v) ⊆ R.filter (fun r => uD (uMut F q r)) := by
    intro a ha
    obtain ⟨s, hs1, rfl⟩ := List.mem_map.mp ha
    have hs1 := List.mem_range.mp hs1
    have hm : uMut F q (v s) := by
      have a := uW_seg hs 0 s (by omega)
      have b := uW_seg hs s (c - s) (by omega)
      rw [v0, Nat.zero_add] at a
      rw [show s + (c - s) = c from by omega, vc] at b
      exact ⟨⟨s, a⟩, ⟨c - s, b⟩⟩
    exact List.mem_filter.mpr ⟨hR _ (hV _ _ (hs s hs1)).1 hm, uD_i hm⟩
  have := List.Nodup.length_le_of_subset hn hsub
  rwa [List.length_map, List.length_range] at this
theorem u_drop {F : Nat → Nat → Prop} {V R : List Nat} (hV : uIn F V) {q c d : Nat} (h : uCD F q c d) (hR : ∀ r, r ∈ V → uMut F q r → r ∈ R) : c + (R.filter (fun r => uD (¬ uMut F q r))).length ≤ R.length ∧ uNc F (R.filter (fun r => uD (¬ uMut F q r))) = uNc F R := by
  have h1 := u_class hV h hR
  have h2 := u_split R (uMut F q)
  refine ⟨by omega, ?_⟩
  unfold uNc
  rw [List.filter_filter]
  congr 1
  apply List.filter_congr
  intro x hx
  have hq : uCyc F q := ⟨c, h.1, uCD_w h⟩
  by_cases hc : uCyc F x
  · simp [uD_n (not_not_intro hc)]
  · have : ¬ uMut F q x := fun hm => hc (uMut_cyc hm hq)
    simp [uD_i hc, uD_i this]
theorem u_parts {F : Nat → Nat → Prop} {V : List Nat} (hV : uIn F V) : ∀ (n : Nat) (R : List Nat), R.length ≤ n → (∀ q, q ∈ R → q ∈ V) → (∀ q, q ∈ R → uCyc F q → ∀ r, r ∈ V → uMut F q r → r ∈ R) → ∃ ds : List Nat, (∀ d, d ∈ ds → 0 < d) ∧ ds.sum + uNc F R ≤ R.length ∧ (∀ q, q ∈ R → ∀ c d, uCD F q c d → d ∣ uLcm ds) ∧ ((∀ q, q ∈ R → ¬ uCyc F q) → ds = []) := by
  intro n
  induction n with
  | zero =>
    intro R hn _ _
    have : R = [] := List.eq_nil_of_length_eq_zero (by omega)
    subst this
    exact ⟨[], (fun d h => nomatch h), Nat.le_refl _, (fun q h => nomatch h), fun _ => rfl⟩
  | succ n ih =>
    intro R hn hRV hcl
    by_cases hex : ∃ q, q ∈ R ∧ uCyc F q
    · obtain ⟨q, hqR, hqc⟩ := hex
      obtain ⟨c, d, hcd⟩ := u_cd hV hqc
      have hcl' := hcl q hqR hqc
      obtain ⟨h1, h2⟩ := u_drop hV hcd hcl'
      have c0 := hcd.1
      obtain ⟨ds, a1, a2, a3, a4⟩ := ih (R.filter (fun r => uD (¬ uMut F q r))) (by omega) (fun r hr => hRV r (List.mem_filter.mp hr).1) (by
        intro r hr hrc s hs hrs
        have hr1 := (List.mem_filter.mp hr).1
        have hr2 := uD_e (List.mem_filter.mp hr).2
        exact List.mem_filter.mpr ⟨hcl r hr1 hrc s hs hrs, uD_i (fun hqs => hr2 (uMut_t hqs (uMut_s hrs)))⟩)
      have hdc : d ≤ c := Nat.le_of_dvd c0 hcd.2.2.1
      refine ⟨d :: ds, ?_, ?_, ?_, ?_⟩
      · intro x hx
        rcases List.mem_cons.mp hx with rfl | hx
        · exact hcd.2.1
        · exact a1 x hx
      · rw [List.sum_cons]
        omega
      · intro r hr c' d' hcd'
        by_cases hm : uMut F q r
        · exact Nat.dvd_trans (uc_same hV hcd hcd' hm) (Nat.dvd_lcm_left _ _)
        · exact Nat.dvd_trans (a3 r (List.mem_filter.mpr ⟨hr, uD_i hm⟩) c' d' hcd') (Nat.dvd_lcm_right _ _)
      · intro hno
        exact absurd hqc (hno q hqR)
    · refine ⟨[], (fun d h => nomatch h), ?_, ?_, fun _ => rfl⟩
      · show 0 + _ ≤ _
        rw [Nat.zero_add]
        exact List.length_filter_le _ _
      · intro q hq c d hcd
        exact absurd ⟨q, hq, c, hcd.1, uCD_w hcd⟩ hex
/-- a long walk meets a cycle soon -/
theorem u_meets {F : Nat → Nat → Prop} {V : List Nat} (hV : uIn F V) {q r j : Nat} (hq : q ∈ V) (h : uW F j q r) (hj : uNc F V ≤ j) : ∃ i v, i ≤ uNc F V ∧ uCyc F v ∧ uW F i q v ∧ uW F (j - i) v r := by
  obtain ⟨v, v0, vj, hs⟩ := uW_path h
  apply Classical.byContradiction
  intro hno
  have hnc : ∀ i, i ≤ uNc F V → ¬ uCyc F (v i) := by
    intro i hi hc
    have a := uW_seg hs 0 i (by omega)
    have b := uW_seg hs i (j - i) (by omega)
    rw [v0, Nat.zero_add] at a
    rw [show i + (j - i) = j from by omega, vj] at b
    exact hno ⟨i, v i, hi, hc, a, b⟩
  have hn : ((List.range (uNc F V + 1)).map v).Nodup := by
    refine List.pairwise_map.mpr ?_
    refine List.Pairwise.imp_of_mem ?_ (List.nodup_range (n := uNc F V + 1))
    have key : ∀ a b, a < b → b < uNc F V + 1 → v a ≠ v b := by
      intro a b hab hb e
      have w := uW_seg hs a (b - a) (by omega)
      rw [show a + (b - a) = b from by omega, ← e] at w
      exact hnc a (by omega) ⟨b - a, by omega, w⟩
    intro a b ha hb hne e
    have ha := List.mem_range.mp ha
    have hb := List.mem_range.mp hb
    rcases Nat.lt_or_gt_of_ne hne with h | h
    · exact key a b h hb e
    · exact key b a h ha e.symm
  have hsub : ((List.range (uNc F V + 1)).map v) ⊆ V.filter (fun q => uD (¬ uCyc F q)) := by
    intro a ha
    obtain ⟨s, hs1, rfl⟩ := List.mem_map.mp ha
    have hs1 := List.mem_range.mp hs1
    refine List.mem_filter.mpr ⟨?_, uD_i (hnc s (by omega))⟩
    have a := uW_seg hs 0 s (by omega)
    rw [v0, Nat.zero_add] at a
    exact uW_in hV hq a
  have := List.Nodup.length_le_of_subset hn hsub
  rw [List.length_map, List.length_range] at this
  unfold uNc at this
  omega
/-- tail t and period L of all places together, of p places -/
def uProf (one : Prop) (p L t : Nat) : Prop := (L = 1 ∧ t = p) ∨ ∃ c d u ds, 0 < c ∧ 0 < d ∧ d ∣ c ∧ (∀ x, x ∈ ds → 0 < x) ∧ c + List.sum ds + u ≤ p ∧ L = Nat.lcm d (uLcm ds) ∧ t = uTl p c d + u ∧ (one → ds = [])
theorem u_all {F : Nat → Nat → Prop} {V : List Nat} (hV : uIn F V) {q j L t : Nat} (hq : q ∈ V) (hc : ∀ v, uCyc F v → ∀ i, t ≤ i → uEq F v i L) (hj : t + uNc F V ≤ j) : uEq F q j L := by
  intro r
  constructor
  · intro h
    obtain ⟨i, v, hi, hv, a, b⟩ := u_meets hV hq h (by omega)
    have e : j + L - i = (j - i) + L := by omega
    rw [e] at b
    have b := (hc v hv (j - i) (by omega) r).mp b
    have := uW_add.mpr ⟨v, a, b⟩
    rwa [show i + (j - i) = j from by omega] at this
  · intro h
    obtain ⟨i, v, hi, hv, a, b⟩ := u_meets hV hq h (by omega)
    have b := (hc v hv (j - i) (by omega) r).mpr b
    have := uW_add.mpr ⟨v, a, b⟩
    rwa [show i + (j - i + L) = j + L from by omega] at this
theorem u_main {F : Nat → Nat → Prop} {V : List Nat} (hV : uIn F V) (hN : V.Nodup) : ∃ L t, 0 < L ∧ uProf (∀ q r, uCyc F q → uCyc F r → uMut F q r) V.length L t ∧ ∀ q, q ∈ V → ∀ j, t ≤ j → uEq F q j L := by
  have hcV : ∀ q, uCyc F q → q ∈ V := by
    rintro q ⟨l, l0, h⟩
    obtain ⟨k, rfl⟩ := Nat.exists_eq_succ_of_ne_zero (by omega : l ≠ 0)
    exact uW_q hV h
  by_cases hex : ∃ q, uCyc F q
  · -- the place with the longest tail
    have hmax : ∃ q c d, uCD F q c d ∧ ∀ q' c' d', uCD F q' c' d' → uTl V.length c' d' ≤ uTl V.length c d := by
      have bnd : ∀ q c d, uCD F q c d → uTl V.length c d ≤ V.length * (V.length + V.length) := by
        intro q c d h
        have h1 := u_class (R := V) hV h (fun r hr _ => hr)
        have h2 := List.length_filter_le (fun r => uD (uMut F q r)) V
        have h3 : c / d ≤ c := Nat.div_le_self c d
        unfold uTl
        exact Nat.mul_le_mul (by omega) (by omega)
      obtain ⟨q0, h0⟩ := hex
      obtain ⟨c0, d0, hcd0⟩ := u_cd hV h0
      obtain ⟨m, ⟨q, c, d, h, e⟩, hm⟩ := u_least (P := fun m => ∃ q c d, uCD F q c d ∧ m = V.length * (V.length + V.length) - uTl V.length c d) ⟨q0, c0, d0, hcd0, rfl⟩
      refine ⟨q, c, d, h, ?_⟩
      intro q' c' d' h'
      apply Classical.byContradiction
      intro hlt
      have b1 := bnd q' c' d' h'
      exact hm (V.length * (V.length + V.length) - uTl V.length c' d') (by omega) ⟨q', c', d', h', rfl⟩
    obtain ⟨q, c, d, hcd, hmx⟩ := hmax
    obtain ⟨h1, h2⟩ := u_drop (R := V) hV hcd (fun r hr _ => hr)
    obtain ⟨ds, a1, a2, a3, a4⟩ := u_parts hV _ (V.filter (fun r => uD (¬ uMut F q r))) (Nat.le_refl _) (fun r hr => (List.mem_filter.mp hr).1) (by
        intro r hr hrc s hs hrs
        have hr2 := uD_e (List.mem_filter.mp hr).2
        exact List.mem_filter.mpr ⟨hs, uD_i (fun hqs => hr2 (uMut_t hqs (uMut_s hrs)))⟩)
    have hper : ∀ v, uCyc F v → ∀ i, uTl V.length c d ≤ i → uEq F v i (Nat.lcm d (uLcm ds)) := by
      intro v hv i hi
      obtain ⟨c', d', h'⟩ := u_cd hV hv
      refine uEq_dvd (u_cdT hV hN h' (Nat.le_trans (hmx v c' d' h') hi)) ?_
      by_cases hm : uMut F q v
      · exact Nat.dvd_trans (uc_same hV hcd h' hm) (Nat.dvd_lcm_left _ _)
      · exact Nat.dvd_trans (a3 v (List.mem_filter.mpr ⟨hcV v hv, uD_i hm⟩) c' d' h') (Nat.dvd_lcm_right _ _)
    refine ⟨Nat.lcm d (uLcm ds), uTl V.length c d + uNc F V, ?_, Or.inr ⟨c, d, uNc F V, ds, hcd.1, hcd.2.1, hcd.2.2.1, a1, ?_, rfl, rfl, ?_⟩, ?_⟩
    · have hpos : ∀ l : List Nat, (∀ x, x ∈ l → 0 < x) → 0 < uLcm l := by
        intro l
        induction l with
        | nil => intro _; exact Nat.one_pos
        | cons a l ih =>
          intro h
          exact Nat.lcm_pos (h a (List.mem_cons_self ..)) (ih (fun x hx => h x (List.mem_cons_of_mem _ hx)))
      exact Nat.lcm_pos hcd.2.1 (hpos ds a1)
    · rw [h2] at a2
      omega
    · intro hone
      apply a4
      intro r hr hrc
      exact uD_e (List.mem_filter.mp hr).2 (hone q r ⟨c, hcd.1, uCD_w hcd⟩ hrc)
    · intro v hv j hj
      exact u_all hV hv hper hj
  · refine ⟨1, V.length, Nat.one_pos, Or.inl ⟨rfl, rfl⟩, ?_⟩
    intro q hq j hj
    have hu : uNc F V ≤ V.length := List.length_filter_le _ _
    exact u_all (t := 0) hV hq (fun v hv => absurd ⟨v, hv⟩ hex) (by omega)
