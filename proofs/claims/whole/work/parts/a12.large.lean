theorem bn_lm : ∀ (ds : List Nat) (s : Nat), (∀ x, x ∈ ds → 0 < x) → ds.sum ≤ s → s ≤ 15 → uLcm ds ∈ bnLam.getD s []
  | [], s, _, _, hs => by
    have h := List.all_eq_true.mp bn_lam1 s (List.mem_range.mpr (by omega))
    obtain ⟨x, hx, e⟩ := List.any_eq_true.mp h
    have e : x = 1 := eq_of_beq e
    subst e
    exact hx
  | d :: ds, s, h0, hsum, hs => by
    rw [List.sum_cons] at hsum
    have d0 := h0 d (List.mem_cons_self ..)
    have ih := bn_lm ds (s - d) (fun x hx => h0 x (List.mem_cons_of_mem _ hx)) (by omega) (by omega)
    have h := List.all_eq_true.mp (List.all_eq_true.mp bn_lam2 s (List.mem_range.mpr (by omega))) d (List.mem_range.mpr (by omega))
    rw [Nat.ble_eq_true_of_le (show 1 ≤ d by omega), Nat.ble_eq_true_of_le (show d ≤ s by omega)] at h
    have h : (bnLam.getD (s - d) []).all (fun L => (bnLam.getD s []).any (fun x => x == Nat.lcm d L)) = true := h
    obtain ⟨x, hx, e⟩ := List.any_eq_true.mp (List.all_eq_true.mp h _ ih)
    have e : x = Nat.lcm d (uLcm ds) := eq_of_beq e
    subst e
    exact hx
theorem bn_prof {one : Prop} {o : Bool} (ho : o = true → one) {p L t : Nat} (hp : p ≤ 15) (h : uProf one p L t) : ∃ x, x ∈ bnBest p o ∧ x.1 = L ∧ t ≤ x.2 := by
  have hc : bnC2 p o = true := by
    have h := List.all_eq_true.mp bn_c2 p (List.mem_range.mpr (by omega))
    rw [Bool.and_eq_true] at h
    cases o
    · exact h.2
    · exact h.1
  unfold bnC2 at hc
  rw [Bool.and_eq_true] at hc
  obtain ⟨h1, h2⟩ := hc
  rcases h with ⟨rfl, rfl⟩ | ⟨c, d, u, ds, c0, d0, hd, hds, hsum, rfl, rfl, hone⟩
  · obtain ⟨x, hx, e⟩ := List.any_eq_true.mp h1
    rw [Bool.and_eq_true] at e
    exact ⟨x, hx, eq_of_beq e.1, Nat.le_of_ble_eq_true e.2⟩
  · have hdc : d ≤ c := Nat.le_of_dvd c0 hd
    have h := List.all_eq_true.mp (List.all_eq_true.mp h2 c (List.mem_range.mpr (by omega))) d (List.mem_range.mpr (by omega))
    rw [Nat.ble_eq_true_of_le (show 1 ≤ d by omega), Nat.ble_eq_true_of_le (show 1 ≤ c by omega), Nat.ble_eq_true_of_le (show c ≤ p by omega), Nat.mod_eq_zero_of_dvd hd] at h
    have h : ((List.range (p - c + 1)).all fun u => (bif o then [1] else bnLam.getD (p - c - u) []).all fun L => (bnBest p o).any (fun x => x.1 == Nat.lcm d L && Nat.ble (c * (p - c + c / d - 1) + u) x.2)) = true := h
    have h := List.all_eq_true.mp h u (List.mem_range.mpr (by omega))
    have hm : uLcm ds ∈ (bif o then [1] else bnLam.getD (p - c - u) []) := by
      cases o with
      | true =>
        have := hone (ho rfl)
        subst this
        exact List.mem_singleton.mpr rfl
      | false => exact bn_lm ds (p - c - u) hds (by omega) (by omega)
    obtain ⟨x, hx, e⟩ := List.any_eq_true.mp (List.all_eq_true.mp h _ hm)
    rw [Bool.and_eq_true] at e
    exact ⟨x, hx, eq_of_beq e.1, Nat.le_of_ble_eq_true e.2⟩
theorem bn_par {n m p g B σ : Nat} (hn : n ≤ 15) (hmp : m + p ≤ n) (g1 : g ≤ m) (g2 : g ≤ n - m) (g3 : g + p ≤ B + (n - m)) (hs : 4 * n + 2 * B + σ ≤ 61) : ∃ x, x ∈ bnPar p (decide (σ ≤ 1)) ∧ m ≤ x.1 ∧ g ≤ x.2 := by
  have h := List.all_eq_true.mp (List.all_eq_true.mp (List.all_eq_true.mp bn_c1 n (List.mem_range.mpr (by omega))) m (List.mem_range.mpr (by omega))) p (List.mem_range.mpr (by omega))
  rw [Nat.ble_eq_true_of_le hmp] at h
  have h : (bnDom p m (min (min m ((61 - 4 * n) / 2 + (n - m - p))) (n - m)) true && (!(Nat.ble (4 * n + 2) 61) || bnDom p m (min (min m ((61 - 4 * n - 2) / 2 + (n - m - p))) (n - m)) false)) = true := h
  rw [Bool.and_eq_true] at h
  by_cases hσ : σ ≤ 1
  · rw [decide_eq_true hσ]
    obtain ⟨x, hx, e⟩ := List.any_eq_true.mp h.1
    rw [Bool.and_eq_true] at e
    have e1 := Nat.le_of_ble_eq_true e.1
    have e2 := Nat.le_of_ble_eq_true e.2
    exact ⟨x, hx, e1, by omega⟩
  · rw [decide_eq_false hσ]
    have h2 := h.2
    rw [Nat.ble_eq_true_of_le (show 4 * n + 2 ≤ 61 by omega)] at h2
    obtain ⟨x, hx, e⟩ := List.any_eq_true.mp (show bnDom p m _ false = true from h2)
    rw [Bool.and_eq_true] at e
    have e1 := Nat.le_of_ble_eq_true e.1
    have e2 := Nat.le_of_ble_eq_true e.2
    exact ⟨x, hx, e1, by omega⟩
theorem bn_T {p p2 : Nat} {o o2 : Bool} (hp : p ≤ 15) (hp2 : p2 ≤ 15) (h : 16 ≤ p + p2) : bnC3 p o p2 o2 (bnT p o p2 o2) = true := by
  have hr : bnC3r p o = true := by
    cases o
    · exact List.all_eq_true.mp bn_c3f p (List.mem_range.mpr (by omega))
    · exact List.all_eq_true.mp bn_c3t p (List.mem_range.mpr (by omega))
  have h := List.all_eq_true.mp hr p2 (List.mem_range.mpr (by omega))
  have hb : Nat.ble (p + p2) 15 = false := by
    cases hb : Nat.ble (p + p2) 15 with
    | false => rfl
    | true => have := Nat.le_of_ble_eq_true hb; omega
  rw [hb, Bool.false_or, Bool.and_eq_true] at h
  cases o2
  · exact h.2
  · exact h.1
/-- two books, a sort of which they have 16 acts or more -/
theorem b_large {n1 n2 : Nat} (h1 : n1 ≤ 15) (h2 : n2 ≤ 15) {fo1 fo2 : Nat → Nat → Prop} {lb1 lb2 : Nat → Nat} {B1 B2 σ1 σ2 : Nat} (k1 : bOk n1 fo1 lb1 B1 σ1) (k2 : bOk n2 fo2 lb2 B2 σ2) (so1 so2 : Nat → Nat) (a : Nat)
    (hs : 16 ≤ (bK n1 so1 a).length + (bK n2 so2 a).length) {PL : List (Nat × Nat)} (hN : PL.Nodup) (hPL : ∀ x, x ∈ PL → x ≠ (0, 0) ∧ ∃ w, x = (uMk (bSet n1 so1 fo1 w), uMk (bSet n2 so2 fo2 w))) : PL.length ≤ 65536 := by
  obtain ⟨g1, g2, L1, t1, L2, t2, ⟨a1, a2, a3⟩, ⟨b1, b2, b3⟩, c1, c2, hc⟩ := b_count h1 h2 k1 k2 so1 so2 a
  obtain ⟨e1, e2⟩ := hc PL hN hPL
  have q1 := bKO h1 so1 a
  have q2 := bKO h2 so2 a
  have v1 := bKV h1 so1 fo1 a
  have v2 := bKV h2 so2 fo2 a
  generalize (bK n1 so1 a).length = kk1 at *
  generalize (bK n2 so2 a).length = kk2 at *
  generalize (bO n1 so1 a).length = m1 at *
  generalize (bO n2 so2 a).length = m2 at *
  generalize (bV n1 so1 fo1 a).length = p1 at *
  generalize (bV n2 so2 fo2 a).length = p2 at *
  by_cases hp : p1 + p2 ≤ 15
  · have z1 : 2 ^ (m1 + m2) ≤ 2 ^ 14 := Nat.pow_le_pow_right (by decide) (by omega)
    have z2 : 2 ^ (g1 + g2) ≤ 2 ^ 14 := Nat.pow_le_pow_right (by decide) (by omega)
    have z3 : 2 ^ (p1 + p2) ≤ 2 ^ 15 := Nat.pow_le_pow_right (by decide) (by omega)
    omega
  · obtain ⟨x1, hx1, y1, y2⟩ := bn_par h1 (show m1 + p1 ≤ n1 by omega) a1 (by omega) (show g1 + p1 ≤ B1 + (n1 - m1) by omega) k1.1
    obtain ⟨x2, hx2, y3, y4⟩ := bn_par h2 (show m2 + p2 ≤ n2 by omega) b1 (by omega) (show g2 + p2 ≤ B2 + (n2 - m2) by omega) k2.1
    obtain ⟨r1, hr1, w1, w2⟩ := bn_prof (o := decide (σ1 ≤ 1)) (fun h => of_decide_eq_true h) (show p1 ≤ 15 by omega) c1
    obtain ⟨r2, hr2, w3, w4⟩ := bn_prof (o := decide (σ2 ≤ 1)) (fun h => of_decide_eq_true h) (show p2 ≤ 15 by omega) c2
    have hT := bn_T (o := decide (σ1 ≤ 1)) (o2 := decide (σ2 ≤ 1)) (show p1 ≤ 15 by omega) (show p2 ≤ 15 by omega) (by omega)
    unfold bnC3 at hT
    rw [Bool.and_eq_true] at hT
    have T1 := Nat.le_of_ble_eq_true (List.all_eq_true.mp (List.all_eq_true.mp hT.1 r1 hr1) r2 hr2)
    have T2 := Nat.le_of_ble_eq_true (List.all_eq_true.mp (List.all_eq_true.mp hT.2 x1 hx1) x2 hx2)
    rw [w1, w3] at T1
    generalize bnT p1 (decide (σ1 ≤ 1)) p2 (decide (σ2 ≤ 1)) = T at *
    have z1 : 2 ^ (m1 + m2) ≤ 2 ^ (x1.1 + x2.1) := Nat.pow_le_pow_right (by decide) (by omega)
    have z2 : 2 ^ (g1 + g2) ≤ 2 ^ (x1.2 + x2.2) := Nat.pow_le_pow_right (by decide) (by omega)
    have z3 : 2 ^ (g1 + g2) * (max t1 t2 + Nat.lcm L1 L2) ≤ 2 ^ (x1.2 + x2.2) * T := Nat.mul_le_mul z2 (by omega)
    omega
