/-! ===== posts: the methods of both on them ===== -/
theorem wo9 (n : Nat) {c i : Nat} (hc : c < 125) (hi : i < ps_sz c) (h : am_H) : f_X9_without (n + 4) (nI c) (nI i) h = some (nI (ps_wo c i), h) := by
  unfold f_X9_without
  have h3 := sz_le c
  have j0 : nI c = nI c := rfl
  have key : rg_all 125 (fun c => rg_all 3 (fun i => !Nat.blt i (ps_sz c) || Nat.beq (ps_wo c i) ((if 0 = i then 0 else 1 * ps_lt c 0) + (bif Nat.blt 1 (ps_sz c) then (if 1 = i then 0 else (1 * (if 0 = i then 1 else 5)) * ps_lt c 1) else 0) + (bif Nat.blt 2 (ps_sz c) then (if 2 = i then 0 else ((1 * (if 0 = i then 1 else 5)) * (if 1 = i then 1 else 5)) * ps_lt c 2) else 0)))) = true := by decide +kernel
  have val := Nat.eq_of_beq_eq_true (imp_b (rg_ok (rg_ok key hc) (show i < 3 by omega)) (blt_t hi))
  have st : ∀ (n x b k : Nat), k < ps_sz c → g_X9_without (n + 1) 0 (nI c) (nI i) (nI x) (nI b) (nI k) h = g_X9_without n 0 (nI c) (nI i) (nI (x + (if k = i then 0 else b * ps_lt c k))) (nI (b * (if k = i then 1 else 5))) (nI (k + 1)) h := by
    intro n x b k hk
    rw [g_X9_without, sz9 hc, b2s, if_neg (nI_ge hk (by omega))]
    by_cases e : k = i
    · rw [if_pos ((nI_eq (by omega) (by omega)).mpr e), if_pos e, b2s, if_pos ((nI_eq (by omega) (by omega)).mpr e), b_some, if_pos e, show Int32.ofInt 0 = nI 0 from rfl, nI_add, show Int32.ofInt 1 = nI 1 from rfl, nI_mul, nI_add]
    · rw [if_neg (fun q => e ((nI_eq (by omega) (by omega)).mp q)), if_neg e, lt9 hc (by omega), b2s, b2s, if_neg (fun q => e ((nI_eq (by omega) (by omega)).mp q)), b_some, if_neg e, nI_mul, nI_add, show Int32.ofInt 5 = nI 5 from rfl, nI_mul, hp_1]
  have fin : ∀ (n x b k : Nat), ps_sz c ≤ k → k < 10 → g_X9_without (n + 1) 0 (nI c) (nI i) (nI x) (nI b) (nI k) h = some (nI x, h) := by
    intro n x b k hk hk2
    rw [g_X9_without, sz9 hc, b2s, if_pos (nI_le hk (by omega))]
  show g_X9_without (n + 3 + 1) 0 (nI c) (nI i) (nI 0) (nI 1) (nI 0) h = _
  have z : ps_sz c = 1 ∨ ps_sz c = 2 ∨ ps_sz c = 3 := by omega
  rcases z with z | z | z
  · rw [st (n + 3) 0 1 0 (by omega), fin (n + 2) _ _ 1 (by omega) (by decide), val, z]
    simp only [show Nat.blt 1 1 = false from rfl, show Nat.blt 2 1 = false from rfl, cond_false, Nat.zero_add, Nat.add_zero]
  · rw [st (n + 3) 0 1 0 (by omega), st (n + 2) _ _ 1 (by omega), fin (n + 1) _ _ 2 (by omega) (by decide), val, z]
    simp only [show Nat.blt 1 2 = true from rfl, show Nat.blt 2 2 = false from rfl, cond_false, cond_true, Nat.zero_add, Nat.add_zero]
  · rw [st (n + 3) 0 1 0 (by omega), st (n + 2) _ _ 1 (by omega), st (n + 1) _ _ 2 (by omega), fin n _ _ 3 (by omega) (by decide), val, z]
    simp only [show Nat.blt 1 3 = true from rfl, show Nat.blt 2 3 = true from rfl, cond_true, Nat.zero_add]
theorem am9 (n : Nat) {c a : Nat} (hc : c < 125) (ha : a < 4) (hz : ps_sz c < 3) (h : am_H) : f_X9_among (n + 4) (nI c) (nI a) h = some (nI (ps_am c a), h) := by
  unfold f_X9_among
  -- one round: laid is 0 or 1
  have st0 : ∀ (n x b k : Nat), k < ps_sz c → g_X9_among (n + 1) 0 (nI c) (nI a) (nI x) (nI b) (Int32.ofInt 0) (nI k) h = (if ps_lt c k ≤ a + 1 then g_X9_among n 0 (nI c) (nI a) (nI (x + b * ps_lt c k)) (nI (b * 5)) (Int32.ofInt 0) (nI (k + 1)) h else g_X9_among n 0 (nI c) (nI a) (nI (x + b * (a + 1) + b * 5 * ps_lt c k)) (nI (b * 5 * 5)) (Int32.ofInt 1) (nI (k + 1)) h) := by
    intro n x b k hk
    have lb : ps_lt c k < 125 := by unfold ps_lt; split; omega; split <;> omega
    rw [g_X9_among, sz9 hc, b2s, if_neg (nI_ge hk (by omega)), if_pos (show Int32.ofInt 0 = 0 from rfl), lt9 hc (by omega), b2s, hp_1]
    by_cases e : ps_lt c k ≤ a + 1
    · rw [if_pos (nI_le e (by omega)), if_pos e, b4s, lt9 hc (by omega), b2s, nI_mul, nI_add, show Int32.ofInt 5 = nI 5 from rfl, nI_mul, hp_1]
    · rw [if_neg (nI_ge (by omega) (by omega)), if_neg e, b4s, lt9 hc (by omega), b2s, nI_mul, nI_add, show Int32.ofInt 5 = nI 5 from rfl, nI_mul, nI_mul, nI_mul, nI_add, hp_1]
  have st1 : ∀ (n x b k : Nat), k < ps_sz c → g_X9_among (n + 1) 0 (nI c) (nI a) (nI x) (nI b) (Int32.ofInt 1) (nI k) h = g_X9_among n 0 (nI c) (nI a) (nI (x + b * ps_lt c k)) (nI (b * 5)) (Int32.ofInt 1) (nI (k + 1)) h := by
    intro n x b k hk
    rw [g_X9_among, sz9 hc, b2s, if_neg (nI_ge hk (by omega)), if_neg (show ¬ Int32.ofInt 1 = 0 by decide), b4s, lt9 hc (by omega), b2s, nI_mul, nI_add, show Int32.ofInt 5 = nI 5 from rfl, nI_mul, hp_1]
  have fin0 : ∀ (n x b k : Nat), ps_sz c ≤ k → k < 10 → g_X9_among (n + 1) 0 (nI c) (nI a) (nI x) (nI b) (Int32.ofInt 0) (nI k) h = some (nI (x + b * (a + 1)), h) := by
    intro n x b k hk hk2
    rw [g_X9_among, sz9 hc, b2s, if_pos (nI_le hk (by omega)), if_pos (show Int32.ofInt 0 = 0 from rfl), b_some, hp_1, nI_mul, nI_add]
  have fin1 : ∀ (n x b k : Nat), ps_sz c ≤ k → k < 10 → g_X9_among (n + 1) 0 (nI c) (nI a) (nI x) (nI b) (Int32.ofInt 1) (nI k) h = some (nI x, h) := by
    intro n x b k hk hk2
    rw [g_X9_among, sz9 hc, b2s, if_pos (nI_le hk (by omega)), if_neg (show ¬ Int32.ofInt 1 = 0 by decide), b_some]
  have e5 : ps_sz c = 1 → c = ps_lt c 0 := by
    intro z; unfold ps_sz at z; unfold ps_lt
    split at z
    · omega
    · split at z
      · rw [if_pos rfl]; omega
      · split at z <;> omega
  have e6 : ps_sz c = 2 → c = ps_lt c 0 + 5 * ps_lt c 1 ∧ c % 5 = ps_lt c 0 ∧ c / 5 = ps_lt c 1 := by
    intro z; unfold ps_sz at z; unfold ps_lt
    split at z
    · omega
    · split at z
      · omega
      · split at z
        · rw [if_pos rfl, if_neg (by decide), if_pos rfl]; omega
        · omega
  show g_X9_among (n + 3 + 1) 0 (nI c) (nI a) (nI 0) (nI 1) (Int32.ofInt 0) (nI 0) h = _
  have z : ps_sz c = 0 ∨ ps_sz c = 1 ∨ ps_sz c = 2 := by omega
  unfold ps_am
  rcases z with z | z | z
  · rw [fin0 (n + 3) 0 1 0 (by omega) (by decide), if_pos z]; congr 2; congr 1; omega
  · rw [st0 (n + 3) 0 1 0 (by omega), if_neg (show ¬ ps_sz c = 0 by omega)]
    have := e5 z
    by_cases q : ps_lt c 0 ≤ a + 1
    · rw [if_pos q, if_neg (show ¬ a + 1 < ps_lt c 0 by omega), if_pos z, fin0 (n + 2) _ _ 1 (by omega) (by decide)]; congr 2; congr 1; omega
    · rw [if_neg q, if_pos (show a + 1 < ps_lt c 0 by omega), fin1 (n + 2) _ _ 1 (by omega) (by decide)]; congr 2; congr 1; omega
  · obtain ⟨u1, u2, u3⟩ := e6 z
    rw [st0 (n + 3) 0 1 0 (by omega), if_neg (show ¬ ps_sz c = 0 by omega)]
    by_cases q : ps_lt c 0 ≤ a + 1
    · rw [if_pos q, if_neg (show ¬ a + 1 < ps_lt c 0 by omega), if_neg (show ¬ ps_sz c = 1 by omega), st0 (n + 2) _ _ 1 (by omega)]
      by_cases q2 : ps_lt c 1 ≤ a + 1
      · rw [if_pos q2, if_neg (show ¬ a + 1 < ps_lt c 1 by omega), fin0 (n + 1) _ _ 2 (by omega) (by decide)]; congr 2; congr 1; omega
      · rw [if_neg q2, if_pos (show a + 1 < ps_lt c 1 by omega), fin1 (n + 1) _ _ 2 (by omega) (by decide)]; congr 2; congr 1; omega
    · rw [if_neg q, if_pos (show a + 1 < ps_lt c 0 by omega), st1 (n + 2) _ _ 1 (by omega), fin1 (n + 1) _ _ 2 (by omega) (by decide)]; congr 2; congr 1; omega
/-- NONE, or a place -/
def ps_pI (p : Nat) : Int32 := if p < 3 then nI p else Int32.ofInt (-1)
theorem pl9 (n : Nat) {k c a q : Nat} (hc : c < 125) (ha : a < 4) (hq : q < 9) (h : am_H) (hk : am_I h 59 q = nI k) (hk5 : k < 5) (hr : am_I h 78 q = nI c) : f_X9_placeOf (n + 4) (nI q) (nI a) h = some (ps_pI (ps_pl k c a), h) := by
  unfold f_X9_placeOf
  have vq : am_vp (nI q) 9 = true := hp_vp hq (by decide)
  have cq : Int32.toNatClampNeg (nI q) = q := nI_clamp (by omega)
  rw [vq, cond_true, cq, hr]
  have k1 : (nI k = Int32.ofInt 1) ↔ k = 1 := nI_eq (a := k) (b := 1) (by omega) (by decide)
  have st : ∀ (n j : Nat), j < ps_sz c → g_X9_placeOf (n + 1) 0 (nI q) (nI a) (nI c) (nI j) h = (if ps_lt c j = a + 1 ∧ (j = 0 ∨ k = 1) then some (nI j, h) else g_X9_placeOf n 0 (nI q) (nI a) (nI c) (nI (j + 1)) h) := by
    intro n j hj
    have h3 := sz_le c
    have lb : ps_lt c j < 125 := by unfold ps_lt; split; omega; split <;> omega
    rw [g_X9_placeOf, sz9 hc, b2s, if_neg (nI_ge hj (by omega)), lt9 hc (by omega), b2s, hp_1]
    by_cases e : ps_lt c j = a + 1
    · rw [if_pos ((nI_eq (by omega) (by omega)).mpr e)]
      by_cases j0 : j = 0
      · rw [if_pos (show nI j = 0 by rw [j0]; rfl), if_pos ⟨e, Or.inl j0⟩]
      · rw [if_neg (nI_ne0 (by omega) (by omega)), vq, cond_true, cq, hk]
        by_cases kk : k = 1
        · rw [if_pos (k1.mpr kk), if_pos ⟨e, Or.inr kk⟩]
        · rw [if_neg (fun x => kk (k1.mp x)), if_neg (fun x => x.2.elim j0 kk), hp_1]
    · rw [if_neg (fun x => e ((nI_eq (by omega) (by omega)).mp x)), if_neg (fun x => e x.1), hp_1]
  have fin : ∀ (n j : Nat), ps_sz c ≤ j → j < 10 → g_X9_placeOf (n + 1) 0 (nI q) (nI a) (nI c) (nI j) h = some (Int32.ofInt (-1), h) := by
    intro n j hj hj2
    rw [g_X9_placeOf, sz9 hc, b2s, if_pos (nI_le hj (by omega))]
  show g_X9_placeOf (n + 3 + 1) 0 (nI q) (nI a) (nI c) (nI 0) h = _
  have h3 := sz_le c
  have z : ps_sz c = 0 ∨ ps_sz c = 1 ∨ ps_sz c = 2 ∨ ps_sz c = 3 := by omega
  unfold ps_pl ps_pI
  rcases z with z | z | z | z
  · rw [fin (n + 3) 0 (by omega) (by decide), if_neg (show ¬ (1 ≤ ps_sz c ∧ _) by omega), if_neg (show ¬ (k = 1 ∧ 2 ≤ ps_sz c ∧ _) by omega), if_neg (show ¬ (k = 1 ∧ 3 ≤ ps_sz c ∧ _) by omega)]; rfl
  · rw [st (n + 3) 0 (by omega)]
    by_cases e0 : ps_lt c 0 = a + 1
    · rw [if_pos ⟨e0, Or.inl rfl⟩, if_pos (show 1 ≤ ps_sz c ∧ _ from ⟨by omega, e0⟩)]; rfl
    · rw [if_neg (fun x => e0 x.1), fin (n + 2) 1 (by omega) (by decide), if_neg (show ¬ (1 ≤ ps_sz c ∧ _) from fun x => e0 x.2), if_neg (show ¬ (k = 1 ∧ 2 ≤ ps_sz c ∧ _) by omega), if_neg (show ¬ (k = 1 ∧ 3 ≤ ps_sz c ∧ _) by omega)]; rfl
  · rw [st (n + 3) 0 (by omega)]
    by_cases e0 : ps_lt c 0 = a + 1
    · rw [if_pos ⟨e0, Or.inl rfl⟩, if_pos (show 1 ≤ ps_sz c ∧ _ from ⟨by omega, e0⟩)]; rfl
    · rw [if_neg (fun x => e0 x.1), if_neg (show ¬ (1 ≤ ps_sz c ∧ _) from fun x => e0 x.2), st (n + 2) 1 (by omega)]
      by_cases e1 : ps_lt c 1 = a + 1 ∧ (1 = 0 ∨ k = 1)
      · rw [if_pos e1, if_pos (show k = 1 ∧ 2 ≤ ps_sz c ∧ _ from ⟨by omega, by omega, e1.1⟩)]; rfl
      · rw [if_neg e1, fin (n + 1) 2 (by omega) (by decide), if_neg (show ¬ (k = 1 ∧ 2 ≤ ps_sz c ∧ _) from fun x => e1 ⟨x.2.2, Or.inr x.1⟩), if_neg (show ¬ (k = 1 ∧ 3 ≤ ps_sz c ∧ _) by omega)]; rfl
  · rw [st (n + 3) 0 (by omega)]
    by_cases e0 : ps_lt c 0 = a + 1
    · rw [if_pos ⟨e0, Or.inl rfl⟩, if_pos (show 1 ≤ ps_sz c ∧ _ from ⟨by omega, e0⟩)]; rfl
    · rw [if_neg (fun x => e0 x.1), if_neg (show ¬ (1 ≤ ps_sz c ∧ _) from fun x => e0 x.2), st (n + 2) 1 (by omega)]
      by_cases e1 : ps_lt c 1 = a + 1 ∧ (1 = 0 ∨ k = 1)
      · rw [if_pos e1, if_pos (show k = 1 ∧ 2 ≤ ps_sz c ∧ _ from ⟨by omega, by omega, e1.1⟩)]; rfl
      · rw [if_neg e1, if_neg (show ¬ (k = 1 ∧ 2 ≤ ps_sz c ∧ _) from fun x => e1 ⟨x.2.2, Or.inr x.1⟩), st (n + 1) 2 (by omega)]
        by_cases e2 : ps_lt c 2 = a + 1 ∧ (2 = 0 ∨ k = 1)
        · rw [if_pos e2, if_pos (show k = 1 ∧ 3 ≤ ps_sz c ∧ _ from ⟨by omega, by omega, e2.1⟩)]; rfl
        · rw [if_neg e2, fin n 3 (by omega) (by decide), if_neg (show ¬ (k = 1 ∧ 3 ≤ ps_sz c ∧ _) from fun x => e2 ⟨x.2.2, Or.inr x.1⟩)]; rfl
