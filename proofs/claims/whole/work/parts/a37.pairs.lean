/-! ===== pairs of sets: the reference's table ===== -/
theorem nI_div {v m : Nat} (hv : v < 2 ^ 31) (hm : m < 2 ^ 31) : nI v / nI m = nI (v / m) := by
  apply Int32.toInt_inj.mp
  have hle : v / m ≤ v := Nat.div_le_self v m
  rw [Int32.toInt_div, nI_toInt hv, nI_toInt hm, nI_toInt (by omega)]
  rw [← Int.ofNat_tdiv]
  generalize v / m = k at hle
  exact Int.bmod_eq_of_le (by omega) (by omega)
theorem nI_subN {a b : Nat} (h : b ≤ a) : nI a - nI b = nI (a - b) := by
  have : nI a = nI (a - b) + nI b := by rw [nI_add]; congr 1; omega
  rw [this]
  exact Int32.add_sub_cancel _ _
theorem nI_mod {v m : Nat} (hv : v < 2 ^ 31) (hm : m < 2 ^ 31) : nI v - nI v / nI m * nI m = nI (v % m) := by
  rw [nI_div hv hm, nI_mul, nI_subN (Nat.div_mul_le_self v m)]
  congr 1
  have := Nat.mod_add_div v m
  rw [Nat.mul_comm] at this
  omega
theorem i32_and (x : Int32) : ∃ v, v < 2 ^ 31 ∧ x &&& (2147483647 : Int32) = nI v := by
  refine ⟨(x.toBitVec &&& 2147483647#32).toNat, ?_, ?_⟩
  · rw [BitVec.toNat_and]
    exact Nat.lt_of_le_of_lt Nat.and_le_right (by decide)
  · apply Int32.toBitVec.inj
    show x.toBitVec &&& 2147483647#32 = BitVec.ofNat 32 (x.toBitVec &&& 2147483647#32).toNat
    rw [BitVec.ofNat_toNat, BitVec.setWidth_eq]
def pZ (x : Nat × Nat) : Int32 := ((nI x.1 * (40503 : Int32)) + (nI x.2 * (Int32.ofInt 30011))) &&& (2147483647 : Int32)
def pHs (x : Nat × Nat) : Nat := Int32.toNatClampNeg (pZ x) % 131072
theorem pHs_i (x : Nat × Nat) : pZ x - pZ x / (131072 : Int32) * (131072 : Int32) = nI (pHs x) := by
  obtain ⟨v, hv, e⟩ := i32_and ((nI x.1 * (40503 : Int32)) + (nI x.2 * (Int32.ofInt 30011)))
  have e : pZ x = nI v := e
  unfold pHs
  rw [e, nI_clamp hv, show (131072 : Int32) = nI 131072 from rfl, nI_mod hv (by decide)]
def frP (h h' : am_H) : Prop := h'.1 = h.1 ∧ am_K h' = am_K h ∧ am_J h' = am_J h ∧ am_A h' = am_A h ∧ (∀ o, (o < 72 ∨ 76 < o) → o ≠ 51 → am_I h' o = am_I h o) ∧ ∀ k, k ≠ 36 → k ≠ 37 → am_I h' 51 k = am_I h 51 k
theorem frP_r (h : am_H) : frP h h := ⟨rfl, rfl, rfl, rfl, fun _ _ _ => rfl, fun _ _ _ => rfl⟩
theorem frP_t {h h1 h2 : am_H} (a : frP h h1) (b : frP h1 h2) : frP h h2 := ⟨b.1.trans a.1, b.2.1.trans a.2.1, b.2.2.1.trans a.2.2.1, b.2.2.2.1.trans a.2.2.2.1, fun o ho h6 => (b.2.2.2.2.1 o ho h6).trans (a.2.2.2.2.1 o ho h6), fun k hk hk' => (b.2.2.2.2.2 k hk hk').trans (a.2.2.2.2.2 k hk hk')⟩
theorem frP_s {h h1 : am_H} (a : frP h h1) {o : Nat} (j : Nat) (x : Int32) (h3 : 72 ≤ o) (h8 : o ≤ 76) : frP h (am_sI h1 o j x) := ⟨a.1, a.2.1, a.2.2.1, a.2.2.2.1, fun q hq h6 => by rw [hp_I' _ _ _ (by omega)]; exact a.2.2.2.2.1 q hq h6, fun k hk hk' => by rw [hp_I' _ _ _ (by omega)]; exact a.2.2.2.2.2 k hk hk'⟩
theorem frP_n {h h1 : am_H} (a : frP h h1) {j : Nat} (hj : j = 36 ∨ j = 37) (x : Int32) : frP h (am_sI h1 51 j x) := ⟨a.1, a.2.1, a.2.2.1, a.2.2.2.1, fun q hq h6 => by rw [hp_I' _ _ _ h6]; exact a.2.2.2.2.1 q hq h6, fun k hk hk' => by rw [hp_I, upd_ne (by omega)]; exact a.2.2.2.2.2 k hk hk'⟩
theorem B9_frP {h h' : am_H} {b n : Nat} {so : Nat → Nat} {fo : Nat → Nat → Prop} (hb : B9 h b n so fo) (f : frP h h') : B9 h' b n so fo := by
  obtain ⟨a1, a2, a3, a4, a5⟩ := hb
  refine ⟨a1, a2, ?_, ?_, ?_⟩
  · rw [f.2.2.2.2.1 55 (by decide) (by decide)]; exact a3
  · rw [f.2.2.2.2.1 53 (by decide) (by decide)]; exact a4
  · rw [f.2.2.2.2.1 54 (by decide) (by decide)]; exact a5
/-- the reference's pairs -/
def P9 (h : am_H) (N : Nat) (key : Nat → Nat × Nat) (fr ac : Nat → Int32) (T : Nat → Nat) : Prop := am_I h 51 36 = nI N ∧ N ≤ 65536 ∧ (∀ i, i < N → am_I h 72 i = nI (key i).1 ∧ am_I h 73 i = nI (key i).2 ∧ (key i).1 < 65536 ∧ (key i).2 < 65536 ∧ am_I h 74 i = fr i ∧ am_I h 75 i = ac i) ∧ (∀ s, s < 131072 → am_I h 76 s = nI (T s)) ∧ OA 131072 N T key pHs
theorem mp9_old {h : am_H} {N : Nat} {key : Nat → Nat × Nat} {fr ac : Nat → Int32} {T : Nat → Nat} (p : P9 h N key fr ac T) {x : Nat × Nat} (hx1 : x.1 < 65536) (hx2 : x.2 < 65536) (f a : Int32) {D : Nat} (hD : oaAt 131072 T key pHs x D) (F : Nat) : ∀ (e d : Nat), d + e = D → ∀ v, g_X9_meetPair (F + 1) 0 (nI x.1) (nI x.2) f a (nI ((pHs x + D) % 131072)) h = v → g_X9_meetPair (F + e + 1) 0 (nI x.1) (nI x.2) f a (nI ((pHs x + d) % 131072)) h = v := by
  obtain ⟨p1, p2, p3, p4, p5⟩ := p
  intro e
  induction e with
  | zero =>
    intro d hd v hv
    have : d = D := by omega
    subst this
    exact hv
  | succ e ih =>
    intro d hd v hv
    obtain ⟨t0, tk⟩ := hD.2 d (by omega)
    have hs : (pHs x + d) % 131072 < 131072 := Nat.mod_lt _ (by decide)
    have vs : am_vp (nI ((pHs x + d) % 131072)) 131072 = true := hp_vp hs (by decide)
    have cs : Int32.toNatClampNeg (nI ((pHs x + d) % 131072)) = (pHs x + d) % 131072 := nI_clamp (by omega)
    have hT := p5.2.1 _ hs
    have ne : ¬ nI (T ((pHs x + d) % 131072)) = 0 := fun h => t0 ((nI_0e (by omega)).mp h)
    have m1 : nI (T ((pHs x + d) % 131072)) - Int32.ofInt 1 = nI (T ((pHs x + d) % 131072) - 1) := nI_m1 t0
    have vT : am_vp (nI (T ((pHs x + d) % 131072) - 1)) 65536 = true := hp_vp (by omega) (by decide)
    have cT : Int32.toNatClampNeg (nI (T ((pHs x + d) % 131072) - 1)) = T ((pHs x + d) % 131072) - 1 := nI_clamp (by omega)
    obtain ⟨q1, q2, q3, q4, _, _⟩ := p3 (T ((pHs x + d) % 131072) - 1) (by omega)
    have nx : nI ((pHs x + d) % 131072) + Int32.ofInt 1 - (nI ((pHs x + d) % 131072) + Int32.ofInt 1) / (131072 : Int32) * (131072 : Int32) = nI ((pHs x + (d + 1)) % 131072) := by
      rw [hp_1, show (131072 : Int32) = nI 131072 from rfl, nI_mod (by omega) (by decide), Nat.mod_add_mod]
      rfl
    have := ih (d + 1) (by omega) v hv
    rw [show F + (e + 1) + 1 = (F + e + 1) + 1 from rfl, g_X9_meetPair, vs, cond_true, cs, p4 _ hs, if_neg ne, m1, vT, cond_true, cT, q1, q2, nx]
    by_cases c1 : nI (key (T ((pHs x + d) % 131072) - 1)).1 = nI x.1
    · rw [if_pos c1]
      by_cases c2 : nI (key (T ((pHs x + d) % 131072) - 1)).2 = nI x.2
      · exfalso
        apply tk
        exact Prod.ext ((nI_inj (by omega) (by omega)).mp c1) ((nI_inj (by omega) (by omega)).mp c2)
      · rw [if_neg c2]; exact this
    · rw [if_neg c1]; exact this
theorem mp_9 {h : am_H} {N : Nat} {key : Nat → Nat × Nat} {fr ac : Nat → Int32} {T : Nat → Nat} (p : P9 h N key fr ac T) {x : Nat × Nat} (hx1 : x.1 < 65536) (hx2 : x.2 < 65536) (f a : Int32) {F : Nat} (hF : 131073 ≤ F) :
    (∀ k, k < N → key k = x → f_X9_meetPair F (nI x.1) (nI x.2) f a h = some (Int32.ofInt 0, h)) ∧
    ((∀ k, k < N → key k ≠ x) → N < 65536 → ∃ h' T', f_X9_meetPair F (nI x.1) (nI x.2) f a h = some (Int32.ofInt 1, h') ∧ P9 h' (N + 1) (fun i => if i = N then x else key i) (fun i => if i = N then f else fr i) (fun i => if i = N then a else ac i) T' ∧ frP h h' ∧ am_I h' 51 37 = am_I h 51 37) := by
  obtain ⟨D, hDM, hD⟩ := oa_find p.2.2.2.2 x
  have hs : (pHs x + D) % 131072 < 131072 := Nat.mod_lt _ (by decide)
  have vs : am_vp (nI ((pHs x + D) % 131072)) 131072 = true := hp_vp hs (by decide)
  have cs : Int32.toNatClampNeg (nI ((pHs x + D) % 131072)) = (pHs x + D) % 131072 := nI_clamp (by omega)
  have h0 : pHs x % 131072 = pHs x := Nat.mod_eq_of_lt (Nat.mod_lt _ (by decide))
  have start : ∀ v, g_X9_meetPair (F - D - 1 + 1) 0 (nI x.1) (nI x.2) f a (nI ((pHs x + D) % 131072)) h = v → f_X9_meetPair F (nI x.1) (nI x.2) f a h = v := by
    intro v hv
    have := mp9_old p hx1 hx2 f a hD (F - D - 1) D 0 (by omega) v hv
    rw [show F - D - 1 + D + 1 = F from by omega, Nat.add_zero, h0] at this
    unfold f_X9_meetPair
    rw [← this]
    show g_X9_meetPair F 0 (nI x.1) (nI x.2) f a (pZ x - pZ x / (131072 : Int32) * (131072 : Int32)) h = _
    rw [pHs_i]
  obtain ⟨p1, p2, p3, p4, p5⟩ := p
  constructor
  · intro k hk e
    apply start
    subst e
    have hT := oa_old p5 hk hD
    obtain ⟨q1, q2, q3, q4, _, _⟩ := p3 k hk
    have ne : ¬ nI (k + 1) = 0 := fun h => by have := (nI_0e (v := k + 1) (by omega)).mp h; omega
    have m1 : nI (k + 1) - Int32.ofInt 1 = nI k := nI_m1 (by omega)
    rw [g_X9_meetPair, vs, cond_true, cs, p4 _ hs, hT, if_neg ne, m1, hp_vp (by omega) (by decide), cond_true, nI_clamp (by omega), q1, q2, if_pos rfl, if_pos rfl]
  · intro hno hN
    have hT := oa_new p5 hno hD
    have vN : am_vp (nI N) 65536 = true := hp_vp hN (by decide)
    have cN : Int32.toNatClampNeg (nI N) = N := nI_clamp (by omega)
    refine ⟨am_sI (am_sI (am_sI (am_sI (am_sI (am_sI h 72 N (nI x.1)) 73 N (nI x.2)) 74 N f) 75 N a) 51 36 (nI (N + 1))) 76 ((pHs x + D) % 131072) (nI (N + 1)), updN T ((pHs x + D) % 131072) (N + 1), ?_, ⟨?_, by omega, ?_, ?_, oa_add p5 (by omega) hno hDM hD⟩, ?_, ?_⟩
    · apply start
      rw [g_X9_meetPair, vs, cond_true, cs, p4 _ hs, hT, if_pos (show nI 0 = 0 from rfl)]
      simp only [hp_I, hp_I', ne_eq, Nat.reduceEqDiff, not_false_eq_true, p1, vN, cN, cond_true, upd_at, hp_1]
    · simp only [hp_I, hp_I', ne_eq, Nat.reduceEqDiff, not_false_eq_true, upd_at]
    · intro i hi
      simp only [hp_I, hp_I', ne_eq, Nat.reduceEqDiff, not_false_eq_true]
      by_cases c : i = N
      · subst c
        simp only [upd_at, if_true]
        exact ⟨trivial, trivial, hx1, hx2, trivial, trivial⟩
      · simp only [upd_ne c, if_neg c]
        exact p3 i (by omega)
    · intro s hs'
      simp only [hp_I]
      by_cases c : s = (pHs x + D) % 131072
      · rw [c, upd_at, updN_at]
      · rw [upd_ne c, updN_ne c]
        simp only [hp_I', ne_eq, Nat.reduceEqDiff, not_false_eq_true]
        exact p4 s hs'
    · exact frP_s (frP_n (frP_s (frP_s (frP_s (frP_s (frP_r h) _ _ (by decide) (by decide)) _ _ (by decide) (by decide)) _ _ (by decide) (by decide)) _ _ (by decide) (by decide)) (Or.inl rfl) _) _ _ (by decide) (by decide)
    · simp only [hp_I, hp_I', ne_eq, Nat.reduceEqDiff, not_false_eq_true, upd_ne (show (37 : Nat) ≠ 36 by decide)]
