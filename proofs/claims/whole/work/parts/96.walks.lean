/-! ===== the bound: walks of one letter, tails and periods ===== -/
noncomputable def uD (p : Prop) : Bool := @decide p (Classical.propDecidable p)
theorem uD_i {p : Prop} (h : p) : uD p = true := @decide_eq_true p (Classical.propDecidable p) h
theorem uD_e {p : Prop} (h : uD p = true) : p := @of_decide_eq_true p (Classical.propDecidable p) h
theorem uD_n {p : Prop} (h : ¬ p) : uD p = false := @decide_eq_false p (Classical.propDecidable p) h
theorem u_cntlt {V : List Nat} {P Q : Nat → Prop} (h : ∀ x, P x → Q x) {y : Nat} (hy : y ∈ V) (hq : Q y) (hp : ¬ P y) : (V.filter (fun x => uD (P x))).length + 1 ≤ (V.filter (fun x => uD (Q x))).length := by
  have mono : ∀ V : List Nat, (V.filter (fun x => uD (P x))).length ≤ (V.filter (fun x => uD (Q x))).length := by
    intro V
    induction V with
    | nil => exact Nat.le_refl _
    | cons a V ih =>
      by_cases ha : P a
      · have hb := h a ha
        simp only [List.filter_cons, uD_i ha, uD_i hb, if_true, List.length_cons]; omega
      · by_cases hb : Q a
        · simp only [List.filter_cons, uD_n ha, uD_i hb, if_true, List.length_cons, Bool.false_eq_true, if_false]; omega
        · simp only [List.filter_cons, uD_n ha, uD_n hb, Bool.false_eq_true, if_false]; omega
  induction V with
  | nil => cases hy
  | cons a V ih =>
    rcases List.mem_cons.mp hy with rfl | hy
    · have := mono V
      simp only [List.filter_cons, uD_n hp, uD_i hq, if_true, List.length_cons, Bool.false_eq_true, if_false]; omega
    · have ih := ih hy
      by_cases ha : P a
      · have hb := h a ha
        simp only [List.filter_cons, uD_i ha, uD_i hb, if_true, List.length_cons]; omega
      · by_cases hb : Q a
        · simp only [List.filter_cons, uD_n ha, uD_i hb, if_true, List.length_cons, Bool.false_eq_true, if_false]; omega
        · simp only [List.filter_cons, uD_n ha, uD_n hb, Bool.false_eq_true, if_false]; omega
theorem u_least {P : Nat → Prop} {n : Nat} (h : P n) : ∃ m, P m ∧ ∀ k, k < m → ¬ P k := by
  induction n using Nat.strongRecOn with
  | ind n ih =>
    by_cases hh : ∃ k, k < n ∧ P k
    · obtain ⟨k, hk, hp⟩ := hh
      exact ih k hk hp
    · exact ⟨n, h, fun k hk hp => hh ⟨k, hk, hp⟩⟩
def uW (F : Nat → Nat → Prop) : Nat → Nat → Nat → Prop
  | 0, q, r => q = r
  | j + 1, q, r => ∃ v, uW F j q v ∧ F v r
theorem uW_add {F : Nat → Nat → Prop} {i j q r : Nat} : uW F (i + j) q r ↔ ∃ v, uW F i q v ∧ uW F j v r := by
  induction j generalizing r with
  | zero => exact ⟨fun h => ⟨r, h, rfl⟩, fun ⟨v, h, e⟩ => by cases e; exact h⟩
  | succ j ih =>
    constructor
    · rintro ⟨v, hv, hf⟩
      obtain ⟨w, h1, h2⟩ := ih.mp hv
      exact ⟨w, h1, v, h2, hf⟩
    · rintro ⟨w, h1, v, h2, hf⟩
      exact ⟨v, ih.mpr ⟨w, h1, h2⟩, hf⟩
theorem uW_pre {F : Nat → Nat → Prop} {c j q r v : Nat} (hc : uW F c q v) (h : uW F j v r) : uW F (j + c) q r := by
  rw [Nat.add_comm]; exact uW_add.mpr ⟨v, hc, h⟩
theorem uW_mul {F : Nat → Nat → Prop} {c q : Nat} (hc : uW F c q q) (m : Nat) : uW F (m * c) q q := by
  induction m with
  | zero => rw [Nat.zero_mul]; rfl
  | succ m ih => rw [Nat.succ_mul]; exact uW_add.mpr ⟨q, ih, hc⟩
def uEq (F : Nat → Nat → Prop) (q j d : Nat) : Prop := ∀ r, uW F (j + d) q r ↔ uW F j q r
theorem uEq_1 {F : Nat → Nat → Prop} {q j d : Nat} (h : uEq F q j d) : uEq F q (j + 1) d := by
  intro r
  have e : j + 1 + d = (j + d) + 1 := by omega
  rw [e]
  exact ⟨fun ⟨v, a, b⟩ => ⟨v, (h v).mp a, b⟩, fun ⟨v, a, b⟩ => ⟨v, (h v).mpr a, b⟩⟩
theorem uEq_ge {F : Nat → Nat → Prop} {q j d : Nat} (h : uEq F q j d) {k : Nat} (hk : j ≤ k) : uEq F q k d := by
  obtain ⟨i, rfl⟩ := Nat.le.dest hk
  induction i with
  | zero => exact h
  | succ i ih => exact uEq_1 (ih (Nat.le_add_right _ _))
theorem uEq_mul {F : Nat → Nat → Prop} {q j d : Nat} (h : uEq F q j d) (m : Nat) : uEq F q j (m * d) := by
  induction m with
  | zero => rw [Nat.zero_mul]; exact fun r => Iff.rfl
  | succ m ih =>
    intro r
    have e : j + (m + 1) * d = (j + m * d) + d := by rw [Nat.succ_mul]; omega
    rw [e]
    exact (uEq_ge h (Nat.le_add_right _ _) r).trans (ih r)
theorem uEq_dvd {F : Nat → Nat → Prop} {q j d L : Nat} (h : uEq F q j d) (hd : d ∣ L) : uEq F q j L := by
  obtain ⟨m, rfl⟩ := hd
  rw [Nat.mul_comm]; exact uEq_mul h m
/-- a smaller period holds where a multiple of it has begun -/
theorem uEq_low {F : Nat → Nat → Prop} {q j c d k : Nat} (hc : uEq F q j c) (h0 : 0 < c) (hd : uEq F q k d) : uEq F q j d := by
  intro r
  have hm : k ≤ j + k * c := by
    have : k * 1 ≤ k * c := Nat.mul_le_mul_left k h0
    omega
  have a := uEq_ge hd hm r
  have b := uEq_mul hc k r
  have e : j + k * c + d = (j + d) + k * c := by omega
  have b' := uEq_mul (uEq_ge hc (Nat.le_add_right j d)) k r
  rw [e] at a
  exact b'.symm.trans (a.trans b)
noncomputable def uS (F : Nat → Nat → Prop) (V : List Nat) (q j : Nat) : Nat := (V.filter (fun r => uD (uW F j q r))).length
def uIn (F : Nat → Nat → Prop) (V : List Nat) : Prop := ∀ v w, F v w → v ∈ V ∧ w ∈ V
theorem uW_in {F : Nat → Nat → Prop} {V : List Nat} (hV : uIn F V) {q : Nat} (hq : q ∈ V) : ∀ {j r}, uW F j q r → r ∈ V
  | 0, r, h => by cases h; exact hq
  | j + 1, r, ⟨v, _, h⟩ => (hV v r h).2
theorem uW_q {F : Nat → Nat → Prop} {V : List Nat} (hV : uIn F V) : ∀ {j q r}, uW F (j + 1) q r → q ∈ V
  | 0, q, r, ⟨v, e, h⟩ => by cases e; exact (hV q r h).1
  | j + 1, q, r, ⟨v, e, h⟩ => uW_q hV e
theorem u_tail {F : Nat → Nat → Prop} {V : List Nat} (hV : uIn F V) {q c M : Nat} (hq : q ∈ V) (hc : uW F c q q) (hM : ∀ j, uS F V q j ≤ M) : uEq F q (c * (M - 1)) c := by
  apply Classical.byContradiction
  intro h
  have hn : ∀ s, s ≤ M - 1 → ¬ uEq F q (c * s) c := fun s hs hh => h (uEq_ge hh (Nat.mul_le_mul_left c hs))
  have hs : ∀ s, s ≤ (M - 1) + 1 → s + 1 ≤ uS F V q (c * s) := by
    intro s
    induction s with
    | zero =>
      intro _
      have := List.length_pos_of_mem (List.mem_filter.mpr ⟨hq, (uD_i (by rw [Nat.mul_zero]; rfl))⟩ : q ∈ V.filter (fun r => uD (uW F (c * 0) q r)))
      exact this
    | succ s ih =>
      intro hs
      have ih := ih (by omega)
      have hne := hn s (by omega)
      have : ∃ r, uW F (c * s + c) q r ∧ ¬ uW F (c * s) q r := by
        apply Classical.byContradiction
        intro hh
        apply hne
        intro r
        constructor
        · intro h1
          apply Classical.byContradiction
          intro h2
          exact hh ⟨r, h1, h2⟩
        · intro h1
          exact uW_pre hc h1
      obtain ⟨r, h1, h2⟩ := this
      have := u_cntlt (V := V) (P := uW F (c * s) q) (Q := uW F (c * s + c) q) (fun x hx => uW_pre hc hx) (uW_in hV hq h1) h1 h2
      show s + 1 + 1 ≤ (V.filter (fun r => uD (uW F (c * (s + 1)) q r))).length
      rw [Nat.mul_succ]
      unfold uS at ih
      omega
  have h1 := hs (M - 1 + 1) (Nat.le_refl _)
  have h2 := hM (c * (M - 1 + 1))
  omega
def uPer (F : Nat → Nat → Prop) (q d : Nat) : Prop := 0 < d ∧ ∃ J, uEq F q J d
theorem uPer_mod {F : Nat → Nat → Prop} {q d l : Nat} (hd : uPer F q d) (hl : uPer F q l) (hne : l % d ≠ 0) : uPer F q (l % d) := by
  obtain ⟨d0, J, hJ⟩ := hd
  obtain ⟨l0, K, hK⟩ := hl
  refine ⟨by omega, J + K, ?_⟩
  intro r
  have a := uEq_ge hK (show K ≤ J + K by omega) r
  have b := uEq_mul (uEq_ge hJ (show J ≤ J + K + l % d by omega)) (l / d) r
  have e : J + K + l % d + l / d * d = J + K + l := by
    have := Nat.mod_add_div l d
    rw [Nat.mul_comm] at this
    omega
  rw [e] at b
  exact b.symm.trans a
theorem uPer_least {F : Nat → Nat → Prop} {q l : Nat} (hl : uPer F q l) : ∃ d, uPer F q d ∧ ∀ k, uPer F q k → d ∣ k := by
  obtain ⟨d, hd, hm⟩ := u_least hl
  refine ⟨d, hd, fun k hk => ?_⟩
  apply Classical.byContradiction
  intro hn
  have hne : k % d ≠ 0 := fun h => hn (Nat.dvd_of_mod_eq_zero h)
  exact hm (k % d) (Nat.mod_lt _ hd.1) (uPer_mod hd hk hne)
theorem uPer_walk {F : Nat → Nat → Prop} {V : List Nat} (hV : uIn F V) {q l : Nat} (h0 : 0 < l) (h : uW F l q q) : uPer F q l := by
  have hq : q ∈ V := by
    obtain ⟨k, rfl⟩ := Nat.exists_eq_succ_of_ne_zero (by omega : l ≠ 0)
    exact uW_q hV h
  exact ⟨h0, _, u_tail hV hq h (M := V.length) (fun j => List.length_filter_le _ _)⟩
