/-! ===== the first row that tells two machines apart: the pure side of the class ===== -/
/-- every step that is done was kept, or what it tells apart is told apart by an earlier one -/
def HC (N : Nat) (pw : Nat → List Nat) (D : List Nat → Prop) (k a : Nat) : Prop := ∀ k' a', (k' < k ∨ (k' = k ∧ a' < a)) → a' < 24 → (∃ i, i < N ∧ pw i = a' :: pw k') ∨ ∀ x, (∀ b, b ∈ x → b < 24) → D (x ++ a' :: pw k') → ∃ i, i < N ∧ D (x ++ pw i) ∧ wLt (pw i) (a' :: pw k')
theorem HC_mono {N N' : Nat} {pw pw' : Nat → List Nat} {D : List Nat → Prop} {k a : Nat} (h : HC N pw D k a) (hN : N ≤ N') (hw : ∀ i, i < N → pw' i = pw i) (hk : k < N) : HC N' pw' D k a := by
  intro k' a' hlt h24
  rw [hw k' (by omega)]
  rcases h k' a' hlt h24 with ⟨i, hi, e⟩ | hx
  · exact Or.inl ⟨i, by omega, by rw [hw i hi]; exact e⟩
  · refine Or.inr (fun x hx' hd => ?_)
    obtain ⟨i, hi, e1, e2⟩ := hx x hx' hd
    exact ⟨i, by omega, by rw [hw i hi]; exact e1, by rw [hw i hi]; exact e2⟩
theorem HC_skip {N : Nat} {pw : Nat → List Nat} {D : List Nat → Prop} {k a : Nat} (h : HC N pw D k a) (hn : (∃ i, i < N ∧ pw i = a :: pw k) ∨ ∀ x, (∀ b, b ∈ x → b < 24) → D (x ++ a :: pw k) → ∃ i, i < N ∧ D (x ++ pw i) ∧ wLt (pw i) (a :: pw k)) : HC N pw D k (a + 1) := by
  intro k' a' hlt h24
  by_cases c : k' = k ∧ a' = a
  · rw [c.1, c.2]; exact hn
  · exact h k' a' (by omega) h24
theorem HC_next {N : Nat} {pw : Nat → List Nat} {D : List Nat → Prop} {k : Nat} (h : HC N pw D k 24) : HC N pw D (k + 1) 0 := fun k' a' hlt h24 => h k' a' (by omega) h24
/-- all is done before (k, a) where f was found: f is the first of all -/
theorem hc_first {N : Nat} {pw : Nat → List Nat} {pf pa : Nat → Nat} {D : List Nat → Prop} {k a f : Nat} (hf : f < N) (hw : BW N pw pf pa) (hf0 : f ≠ 0 → pf f = k ∧ pa f < a) (hc : HC N pw D k a) (hka : k < N) (hno : ∀ i, i < f → ¬ D (pw i)) (hyes : D (pw f)) : wFirst D (pw f) := by
  have key : ∀ (n i : Nat) (x : List Nat), x.length = n → i < N → (∀ b, b ∈ x → b < 24) → D (x ++ pw i) → wLt (x ++ pw i) (pw f) → False := by
    intro n
    induction n with
    | zero =>
      intro i x hx hi h24 hd hlt
      have : x = [] := List.eq_nil_of_length_eq_zero hx
      subst this
      have hif : i < f := by
        have h1 := BW_le hw hi hf (Or.inr hlt)
        have : i ≠ f := by intro e; subst e; exact wLt_i _ hlt
        omega
      exact hno i hif hd
    | succ n ih =>
      intro i x hx hi h24 hd hlt
      obtain ⟨y, b, rfl⟩ : ∃ y b, x = y ++ [b] := by
        rcases List.eq_nil_or_concat x with h | ⟨y, b, h⟩
        · rw [h] at hx; cases hx
        · exact ⟨y, b, by rw [h, List.concat_eq_append]⟩
      rw [List.length_append] at hx
      have hy : y.length = n := by simpa using hx
      rw [List.append_assoc] at hd hlt
      have hd : D (y ++ b :: pw i) := hd
      have hlt : wLt (y ++ b :: pw i) (pw f) := hlt
      have b24 : b < 24 := h24 b (List.mem_append.mpr (Or.inr (List.mem_singleton.mpr rfl)))
      have y24 : ∀ c, c ∈ y → c < 24 := fun c hc' => h24 c (List.mem_append.mpr (Or.inl hc'))
      -- the step (i, b) comes before f's
      have hle : ∀ z : List Nat, b :: pw i = z ++ b :: pw i ∨ wLt (b :: pw i) (z ++ b :: pw i) := by
        intro z
        induction z with
        | nil => exact Or.inl rfl
        | cons c z ihz =>
          right
          rcases ihz with e | e
          · show wLt (b :: pw i) (c :: (z ++ b :: pw i))
            rw [← e]; exact wLt_cons c _
          · exact wLt_t e (wLt_cons c _)
      have hbf : wLt (b :: pw i) (pw f) := (hle y).elim (fun e => by rw [e]; exact hlt) (fun e => wLt_t e hlt)
      have f0 : f ≠ 0 := by
        intro e
        rw [e, hw.2.1] at hbf
        exact hbf
      obtain ⟨e1, e2⟩ := hf0 f0
      obtain ⟨_, _, ef⟩ := hw.2.2.1 f (by omega) hf
      have done : i < k ∨ (i = k ∧ b < a) := by
        rw [ef, e1] at hbf
        rcases hbf with h | ⟨h, h'⟩
        · left
          have h1 := BW_le hw hi hka (Or.inr h)
          have : i ≠ k := by intro e; subst e; exact wLt_i _ h
          omega
        · have h1 := BW_le hw hi hka (Or.inl h)
          have h2 := BW_le hw hka hi (Or.inl h.symm)
          right; omega
      rcases hc i b done b24 with ⟨i2, hi2, ei⟩ | hx2
      · rw [← ei] at hd hlt
        exact ih i2 y hy hi2 y24 hd hlt
      · obtain ⟨i2, hi2, d2, w2⟩ := hx2 y y24 hd
        exact ih i2 y hy hi2 y24 d2 (wLt_t (wLt_a w2 y) hlt)
  refine ⟨BW_24 hw f hf, hyes, fun u h24 hlt hd => ?_⟩
  refine key u.length 0 u rfl hw.1 h24 ?_ ?_
  · rw [hw.2.1, List.append_nil]; exact hd
  · rw [hw.2.1, List.append_nil]; exact hlt
theorem hc_none {N : Nat} {pw : Nat → List Nat} {pf pa : Nat → Nat} {D : List Nat → Prop} (hw : BW N pw pf pa) (hc : HC N pw D N 0) (hno : ∀ i, i < N → ¬ D (pw i)) : ∀ u, (∀ a, a ∈ u → a < 24) → ¬ D u := by
  have key : ∀ (n i : Nat) (x : List Nat), x.length = n → i < N → (∀ b, b ∈ x → b < 24) → D (x ++ pw i) → False := by
    intro n
    induction n with
    | zero =>
      intro i x hx hi h24 hd
      have : x = [] := List.eq_nil_of_length_eq_zero hx
      subst this
      exact hno i hi hd
    | succ n ih =>
      intro i x hx hi h24 hd
      obtain ⟨y, b, rfl⟩ : ∃ y b, x = y ++ [b] := by
        rcases List.eq_nil_or_concat x with h | ⟨y, b, h⟩
        · rw [h] at hx; cases hx
        · exact ⟨y, b, by rw [h, List.concat_eq_append]⟩
      rw [List.length_append] at hx
      have hy : y.length = n := by simpa using hx
      rw [List.append_assoc] at hd
      have hd : D (y ++ b :: pw i) := hd
      have b24 : b < 24 := h24 b (List.mem_append.mpr (Or.inr (List.mem_singleton.mpr rfl)))
      have y24 : ∀ c, c ∈ y → c < 24 := fun c hc' => h24 c (List.mem_append.mpr (Or.inl hc'))
      rcases hc i b (Or.inl hi) b24 with ⟨i2, hi2, ei⟩ | hx2
      · rw [← ei] at hd
        exact ih i2 y hy hi2 y24 hd
      · obtain ⟨i2, hi2, d2, w2⟩ := hx2 y y24 hd
        exact ih i2 y hy hi2 y24 d2
  intro u h24 hd
  exact key u.length 0 u rfl hw.1 h24 (by rw [hw.2.1, List.append_nil]; exact hd)
/-- chiefs: none leads in a circle, as many classes are gone as pairs were kept -/
def UF (W : Nat) (χ ρ : Nat → Nat) (N : Nat) (E : Nat → Nat → Prop) : Prop := (∀ z, z ≤ W → χ z ≤ W) ∧ (∀ z, z ≤ W → χ z ≠ z → ρ z < ρ (χ z)) ∧ (∀ z, z ≤ W → ρ z ≤ N) ∧ ((List.range (W + 1)).filter (fun z => decide (χ z = z))).length + N = W + 1 ∧ (∀ z, z ≤ W → E z (χ z))
def Eqv (E : Nat → Nat → Prop) : Prop := (∀ a, E a a) ∧ (∀ a b, E a b → E b a) ∧ ∀ a b c, E a b → E b c → E a c
theorem UF_half {W : Nat} {χ ρ : Nat → Nat} {N : Nat} {E : Nat → Nat → Prop} (hE : Eqv E) (u : UF W χ ρ N E) {t : Nat} (ht : t ≤ W) (hne : χ t ≠ t) : UF W (updN χ t (χ (χ t))) ρ N E := by
  obtain ⟨u1, u2, u3, u4, u5⟩ := u
  have c1 := u1 t ht
  have r1 := u2 t ht hne
  have ne2 : χ (χ t) ≠ t := by
    intro e
    by_cases c : χ (χ t) = χ t
    · exact hne (by rw [← c]; exact e)
    · have := u2 (χ t) c1 c; rw [e] at this; omega
  refine ⟨?_, ?_, u3, ?_, ?_⟩
  · intro z hz
    by_cases c : z = t
    · rw [c, updN_at]; exact u1 _ c1
    · rw [updN_ne c]; exact u1 z hz
  · intro z hz
    by_cases c : z = t
    · rw [c, updN_at]
      intro _
      by_cases c2 : χ (χ t) = χ t
      · rw [c2]; exact r1
      · have := u2 (χ t) c1 c2; omega
    · rw [updN_ne c]; exact u2 z hz
  · have e : ((List.range (W + 1)).filter (fun z => decide (updN χ t (χ (χ t)) z = z))) = (List.range (W + 1)).filter (fun z => decide (χ z = z)) := by
      apply List.filter_congr
      intro z _
      by_cases c : z = t
      · rw [c, updN_at, decide_eq_false ne2, decide_eq_false hne]
      · rw [updN_ne c]
    rw [e]; exact u4
  · intro z hz
    by_cases c : z = t
    · rw [c, updN_at]; exact hE.2.2 _ _ _ (u5 t ht) (u5 _ c1)
    · rw [updN_ne c]; exact u5 z hz
theorem filt_lt {l : List Nat} {p q : Nat → Bool} (h : ∀ z, z ∈ l → q z = true → p z = true) : (l.filter q).length ≤ (l.filter p).length := by
  induction l with
  | nil => exact Nat.le_refl _
  | cons a l ih =>
    have ih := ih (fun z hz => h z (List.mem_cons_of_mem _ hz))
    cases hq : q a with
    | false =>
      cases hp : p a with
      | false => simp only [List.filter_cons, hq, hp]; exact ih
      | true => simp only [List.filter_cons, hq, hp, if_true]; exact Nat.le_succ_of_le ih
    | true =>
      have hp := h a (List.mem_cons_self ..) hq
      simp only [List.filter_cons, hq, hp, if_true]; exact Nat.succ_le_succ ih
theorem filt_one {l : List Nat} (hn : l.Nodup) {p : Nat → Bool} {b : Nat} (hb : b ∈ l) (hp : p b = true) : (l.filter (fun z => p z && !decide (z = b))).length + 1 = (l.filter p).length := by
  induction l with
  | nil => cases hb
  | cons a l ih =>
    obtain ⟨hna, hn⟩ := List.nodup_cons.mp hn
    by_cases c : a = b
    · subst c
      have e : (l.filter (fun z => p z && !decide (z = a))) = l.filter p := by
        apply List.filter_congr
        intro z hz
        have : z ≠ a := fun e => hna (by rw [← e]; exact hz)
        rw [decide_eq_false this]; simp
      simp only [List.filter_cons, hp, decide_true, Bool.not_true, Bool.and_false, Bool.false_eq_true, if_false, if_true, List.length_cons, e]
    · have hb' : b ∈ l := (List.mem_cons.mp hb).elim (fun e => absurd e.symm c) id
      have ih := ih hn hb'
      cases hpa : p a with
      | false => simp only [List.filter_cons, hpa, Bool.false_and, Bool.false_eq_true, if_false]; exact ih
      | true => simp only [List.filter_cons, hpa, decide_eq_false c, Bool.not_false, Bool.and_self, if_true, List.length_cons]; omega
/-- two classes are made one -/
theorem UF_join {W : Nat} {χ ρ : Nat → Nat} {N : Nat} {E E' : Nat → Nat → Prop} (u : UF W χ ρ N E) (hEE : ∀ a b, E a b → E' a b) {a b : Nat} (ha : a ≤ W) (hb : b ≤ W) (ra : χ a = a) (rb : χ b = b) (hab : a ≠ b) (hE : E' b a) : UF W (updN χ b a) (updN ρ a (max (ρ a) (ρ b + 1))) (N + 1) E' ∧ N + 1 ≤ W := by
  obtain ⟨u1, u2, u3, u4, u5⟩ := u
  have f1 := filt_one (l := List.range (W + 1)) List.nodup_range (p := fun z => decide (χ z = z)) (b := b) (List.mem_range.mpr (by omega)) (decide_eq_true rb)
  have f2 : 1 ≤ ((List.range (W + 1)).filter (fun z => decide (χ z = z) && !decide (z = b))).length := List.length_pos_of_mem (List.mem_filter.mpr ⟨List.mem_range.mpr (show a < W + 1 by omega), by rw [decide_eq_true ra, decide_eq_false hab]; rfl⟩)
  refine ⟨⟨?_, ?_, ?_, ?_, ?_⟩, by omega⟩
  · intro z hz
    by_cases c : z = b
    · rw [c, updN_at]; exact ha
    · rw [updN_ne c]; exact u1 z hz
  · intro z hz
    by_cases c : z = b
    · rw [c, updN_at, updN_at, updN_ne (fun e => hab e.symm)]
      intro _; omega
    · rw [updN_ne c]
      intro hne
      have za : z ≠ a := fun e => hne (by rw [e]; exact ra)
      have h1 := u2 z hz hne
      rw [updN_ne za]
      by_cases cz : χ z = a
      · rw [cz, updN_at]; rw [cz] at h1; omega
      · rw [updN_ne cz]; exact h1
  · intro z hz
    by_cases c : z = a
    · rw [c, updN_at]
      have := u3 a ha
      have := u3 b hb
      omega
    · rw [updN_ne c]; have := u3 z hz; omega
  · have e : ((List.range (W + 1)).filter (fun z => decide (updN χ b a z = z))) = (List.range (W + 1)).filter (fun z => decide (χ z = z) && !decide (z = b)) := by
      apply List.filter_congr
      intro z _
      by_cases c : z = b
      · rw [c, updN_at, decide_eq_false hab, decide_eq_true (show b = b from rfl)]; simp
      · rw [updN_ne c, decide_eq_false c]; simp
    rw [e]
    omega
  · intro z hz
    by_cases c : z = b
    · rw [c, updN_at]; exact hE
    · rw [updN_ne c]; exact hEE _ _ (u5 z hz)
