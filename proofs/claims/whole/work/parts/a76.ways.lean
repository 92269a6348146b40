/-! ===== the way to a state: how long, and its steps ===== -/
def dpN (f : Nat → Nat) : Nat → Nat → Nat
  | 0, _ => 0
  | u + 1, i => if i = 0 then 0 else dpN f u (f i) + 1
def dpI (f : Nat → Nat) (i : Nat) : Nat := dpN f i i
/-- each has come from an earlier one -/
def earl (f : Nat → Nat) (n : Nat) : Prop := ∀ i, 1 ≤ i → i < n → f i < i
theorem dpN_e {f : Nat → Nat} {n : Nat} (hf : earl f n) : ∀ i, i < n → ∀ u u', i ≤ u → i ≤ u' → dpN f u i = dpN f u' i := by
  intro i
  induction i using Nat.strongRecOn with
  | ind i ih =>
    intro hi u u' hu hu'
    by_cases c : i = 0
    · subst c
      cases u <;> cases u' <;> rfl
    · have h1 := hf i (by omega) hi
      obtain ⟨v, rfl⟩ : ∃ v, u = v + 1 := ⟨u - 1, by omega⟩
      obtain ⟨v', rfl⟩ : ∃ v, u' = v + 1 := ⟨u' - 1, by omega⟩
      show (if i = 0 then 0 else dpN f v (f i) + 1) = (if i = 0 then 0 else dpN f v' (f i) + 1)
      rw [if_neg c, if_neg c, ih (f i) h1 (by omega) v v' (by omega) (by omega)]
theorem dpI_0 (f : Nat → Nat) : dpI f 0 = 0 := rfl
theorem dpI_s {f : Nat → Nat} {n : Nat} (hf : earl f n) {i : Nat} (h1 : 1 ≤ i) (hi : i < n) : dpI f i = dpI f (f i) + 1 := by
  have hl := hf i h1 hi
  unfold dpI
  obtain ⟨v, rfl⟩ : ∃ v, i = v + 1 := ⟨i - 1, by omega⟩
  show (if v + 1 = 0 then 0 else dpN f v (f (v + 1)) + 1) = _
  rw [if_neg (by omega), dpN_e hf (f (v + 1)) (by omega) v (f (v + 1)) (by omega) (Nat.le_refl _)]
theorem dpI_le {f : Nat → Nat} {n : Nat} (hf : earl f n) : ∀ i, i < n → dpI f i ≤ i := by
  intro i
  induction i using Nat.strongRecOn with
  | ind i ih =>
    intro hi
    by_cases c : i = 0
    · rw [c]; exact Nat.le_refl _
    · have h1 := hf i (by omega) hi
      rw [dpI_s hf (by omega) hi]
      have := ih (f i) h1 (by omega)
      omega
theorem dpI_pos {f : Nat → Nat} {n : Nat} (hf : earl f n) {i : Nat} (hi : i < n) (h : 1 ≤ dpI f i) : 1 ≤ i := by
  by_cases c : i = 0
  · rw [c, dpI_0] at h; omega
  · omega
theorem frI_at {pf : Nat → Nat} {i : Nat} (h : 1 ≤ i) : frI pf i = nI (pf i) := if_neg (by omega)
/-- the class's depthOf -/
theorem dp8_l {h : am_H} {o n : Nat} {f : Nat → Nat} (hf : earl f n) (hn : n ≤ 2000) (e0 : am_I h o 0 = nI n) (e5 : ∀ i, i < n → am_I h (o + 5) i = frI f i) (a1 : Int32) : ∀ i a F, i < n → a + i < n → g_X6_depthOf (F + i + 1) 0 o a1 (nI a) (nI i) h = some (nI (a + dpI f i), h) := by
  intro i
  induction i using Nat.strongRecOn with
  | ind i ih =>
    intro a F hi ha
    by_cases c : i = 0
    · subst c
      rw [show F + 0 + 1 = F + 1 from rfl, g_X6_depthOf, if_pos nI_le00]; rfl
    · have h1 := hf i (by omega) hi
      rw [g_X6_depthOf, if_neg (nI_nle0 c (by omega)), e0, if_neg (nI_ge (show a < n by omega) (by omega)), hp_vp (show i < 2000 by omega) (by decide), cond_true, nI_clamp (show i < 2 ^ 31 by omega), e5 i hi, frI_at (by omega), hp_1]
      have := ih (f i) h1 (a + 1) (F + (i - 1 - f i)) (by omega) (by omega)
      rw [show F + (i - 1 - f i) + f i + 1 = F + i from by omega] at this
      rw [this, dpI_s hf (by omega) hi, show a + 1 + dpI f (f i) = a + (dpI f (f i) + 1) from by omega]
theorem dp_8 {h : am_H} {o n : Nat} {f : Nat → Nat} (hf : earl f n) (hn : n ≤ 2000) (e0 : am_I h o 0 = nI n) (e5 : ∀ i, i < n → am_I h (o + 5) i = frI f i) {i : Nat} (hi : i < n) (F : Nat) (hF : 3000 ≤ F) : f_X6_depthOf F o (nI i) h = some (nI (dpI f i), h) := by
  have := dp8_l hf hn e0 e5 (nI i) i 0 (F - i - 1) hi (by omega)
  rw [show F - i - 1 + i + 1 = F from by omega, Nat.zero_add] at this
  exact this
theorem st8_l {h : am_H} {o n : Nat} {f b : Nat → Nat} (hf : earl f n) (hn : n ≤ 2000) (e5 : ∀ i, i < n → am_I h (o + 5) i = frI f i ∧ am_I h (o + 6) i = frI b i) (a1 a2 : Int32) {B : Nat} (hB : B < 2000) (F : Nat) : ∀ (d k i : Nat), k + d = B → i < n → d + 1 ≤ dpI f i → g_X6_stepTo (F + d + 1) 0 o a1 a2 (nI B) (nI i) (nI k) h = some (nI (b (bwUp f d i)), h) := by
  intro d
  induction d with
  | zero =>
    intro k i hk hi hd
    have i1 := dpI_pos hf hi (by omega)
    have hk' : k = B := by omega
    rw [show F + 0 + 1 = F + 1 from rfl, g_X6_stepTo, hk', if_pos (Int32.le_refl _), hp_vp (show i < 2000 by omega) (by decide), cond_true, nI_clamp (show i < 2 ^ 31 by omega), (e5 i hi).2, frI_at i1]
    rfl
  | succ d ih =>
    intro k i hk hi hd
    have i1 := dpI_pos hf hi (by omega)
    have h1 := hf i i1 hi
    rw [dpI_s hf i1 hi] at hd
    rw [show F + (d + 1) + 1 = (F + d + 1) + 1 from rfl, g_X6_stepTo, if_neg (nI_ge (show k < B by omega) (by omega)), hp_vp (show i < 2000 by omega) (by decide), cond_true, nI_clamp (show i < 2 ^ 31 by omega), (e5 i hi).1, frI_at i1, hp_1, ih (k + 1) (f i) (by omega) (by omega) (by omega)]
    rfl
/-- the it-th step on the way to i -/
def wyI (f b : Nat → Nat) (i it : Nat) : Int32 := if it < dpI f i then nI (b (bwUp f (dpI f i - 1 - it) i)) else Int32.ofInt (-1)
theorem sub3_neg {l it : Nat} (hl : l < 100000) (hi : it < 100000) (h : ¬ it < l) : ¬ (0 : Int32) ≤ nI l - Int32.ofInt 1 - nI it := by
  have hlt : (nI l - Int32.ofInt 1 - nI it).toInt < 0 := by
    have e1 : nI l - Int32.ofInt 1 - nI it = Int32.ofInt ((l : Int) - 1 - it) := by
      rw [show nI l = Int32.ofInt l from rfl, show nI it = Int32.ofInt it from rfl, ← Int32.ofInt_sub, ← Int32.ofInt_sub]
    rw [e1, Int32.toInt_ofInt_of_le (by omega) (by omega)]
    omega
  intro h
  have := Int32.le_iff_toInt_le.mp h
  rw [show (0 : Int32).toInt = 0 from rfl] at this
  omega
theorem st_8 {h : am_H} {o n : Nat} {f b : Nat → Nat} (hf : earl f n) (hn : n ≤ 2000) (e0 : am_I h o 0 = nI n) (e5 : ∀ i, i < n → am_I h (o + 5) i = frI f i ∧ am_I h (o + 6) i = frI b i) {i it : Nat} (hi : i < n) (hit : it < 90) (F : Nat) (hF : 6000 ≤ F) : f_X6_stepTo F o (nI i) (nI it) h = some (wyI f b i it, h) := by
  have hl := dpI_le hf i hi
  unfold f_X6_stepTo wyI
  rw [dp_8 hf hn e0 (fun i hi => (e5 i hi).1) hi F (by omega), b2s]
  by_cases c : it < dpI f i
  · have s1 : nI (dpI f i) - Int32.ofInt 1 - nI it = nI (dpI f i - 1 - it) := by
      rw [show Int32.ofInt 1 = nI 1 from rfl, nI_subN (by omega), nI_subN (by omega)]
    rw [s1, if_pos (nI_nge0 (by omega)), if_pos c]
    have := st8_l hf hn e5 (nI i) (nI it) (B := dpI f i - 1 - it) (by omega) (F - (dpI f i - 1 - it) - 1) (dpI f i - 1 - it) 0 i (by omega) hi (by omega)
    rw [show F - (dpI f i - 1 - it) - 1 + (dpI f i - 1 - it) + 1 = F from by omega] at this
    exact this
  · rw [if_neg (sub3_neg (by omega) (by omega) c), if_neg c]
theorem cF_ex {P : Nat → Bool} : ∀ n, cN P n ≠ 0 → ∃ i, i < n ∧ cF P n = nI i ∧ P i = true ∧ ∀ j, j < i → P j = false
  | 0, h => absurd rfl h
  | n + 1, h => by
    by_cases c : cN P n = 0
    · cases p : P n with
      | false => rw [cN_f p] at h; exact absurd c h
      | true =>
        refine ⟨n, Nat.lt_succ_self _, cF_t0 p c, p, ?_⟩
        have : ∀ m, cN P m = 0 → ∀ j, j < m → P j = false := by
          intro m
          induction m with
          | zero => intro _ j hj; exact absurd hj (Nat.not_lt_zero _)
          | succ m ih =>
            intro e j hj
            cases pm : P m with
            | true => rw [cN_t pm] at e; exact absurd e (Nat.succ_ne_zero _)
            | false =>
              rw [cN_f pm] at e
              by_cases cj : j = m
              · rw [cj]; exact pm
              · exact ih e j (by omega)
        exact this n c
    · obtain ⟨i, hi, e, p, q⟩ := cF_ex n c
      exact ⟨i, by omega, by rw [cF_t1 c]; exact e, p, q⟩
/-- what find answers, of states that are not too many -/
noncomputable def fdV (r : TR) (sd : Nat → Bool) (w it : Nat) : Int32 := if it = 0 then nI (cN (svP r sd w) (svAll r).n) else if cN (svP r sd w) (svAll r).n = 0 then Int32.ofInt (-1) else if it = 1 then nI (dpI (svAll r).f (Int32.toNatClampNeg (cF (svP r sd w) (svAll r).n))) else wyI (svAll r).f (svAll r).b (Int32.toNatClampNeg (cF (svP r sd w) (svAll r).n)) (it - 10)
