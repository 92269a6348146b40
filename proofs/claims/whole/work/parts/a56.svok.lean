theorem ts_sk1 {r : TR} (hr : r.ok) {s : TS} (hs : r.sk s) {o i : Nat} (ho : o < 3) (hi : i < 16) (h1 : 1 ≤ i) (hv : r.av o i) {x : Nat × TS} (hx : x ∈ ts_act r s o i) : r.sk x.2 := by
  obtain ⟨aq3, aqo, al4, aw2⟩ := hr.2.2.2 o i ho hi hv h1
  have hp := ap_lt hr ho hi h1 hv
  have hk := hr.1 _ hp
  have hok := hs.2 _ hp
  rcases ts_x hx with ⟨_, p, e | e⟩ | ⟨_, p, e | e⟩
  · rw [e]
    have cg := imp_b ((ps_get hk hok).2 _ al4).2.1 (blt_t p)
    exact sk_put (sk_go hs hi) (by simp only [Bool.and_eq_true] at cg; exact cg.1)
  · rw [e]; exact sk_go hs hi
  · rw [e]
    have p3 : ps_sz (s.2 (r.ap o i)) < 3 := by
      have := hr.2.2.1
      split at p <;> omega
    have cg := imp_b ((ps_get hk hok).2 _ al4).1 (blt_t p3)
    exact sk_put (sk_go hs hi) (by simp only [Bool.and_eq_true] at cg; exact cg.1)
  · rw [e]; exact sk_go hs hi
theorem ts_off_m {r : TR} {s : TS} {o : Nat} {x : Nat × TS} : ∀ k, k ≤ 15 → x ∈ ts_off r s o k → ∃ i, 1 ≤ i ∧ i < 16 ∧ bt (r.fo o (s.1 o)) i = true ∧ x ∈ ts_act r s o i
  | 0, _, h => nomatch h
  | k + 1, hk, h => by
    have h : x ∈ (bif bt (r.fo o (s.1 o)) (15 - k) then ts_act r s o (15 - k) else []) ++ ts_off r s o k := h
    rcases List.mem_append.mp h with h | h
    · cases hb : bt (r.fo o (s.1 o)) (15 - k) with
      | false => rw [hb] at h; cases h
      | true =>
        rw [hb] at h
        exact ⟨15 - k, by omega, by omega, hb, h⟩
    · exact ts_off_m k (by omega) h
theorem ts_sk {r : TR} (hr : r.ok) {s : TS} (hs : r.sk s) {x : Nat × TS} (hx : x ∈ ts_all r s) : r.sk x.2 := by
  have key : ∀ o, o < 3 → x ∈ ts_off r s o 15 → r.sk x.2 := by
    intro o ho h
    obtain ⟨i, i1, i16, hb, hm⟩ := ts_off_m 15 (Nat.le_refl _) h
    exact ts_sk1 hr hs ho i16 i1 ⟨s.1 o, hs.1 o ho, hb⟩ hm
  have hx : x ∈ ts_off r s 0 15 ++ (ts_off r s 1 15 ++ ts_off r s 2 15) := hx
  rcases List.mem_append.mp hx with h | h
  · exact key 0 (by decide) h
  · rcases List.mem_append.mp h with h | h
    · exact key 1 (by decide) h
    · exact key 2 (by decide) h
theorem svList_ok {r : TR} {k : Nat} : ∀ (L : List (Nat × TS)) (v : SV), svOk r v → k < v.n → (∀ x, x ∈ L → r.sk x.2) → svOk r (svList k v L) ∧ v.n ≤ (svList k v L).n ∧ ∀ i, i < v.n → (svList k v L).s i = v.s i
  | [], v, h, _, _ => ⟨h, Nat.le_refl _, fun _ _ => rfl⟩
  | x :: L, v, h, hk, hx => by
    obtain ⟨a1, a2, a3⟩ := svStep_ok h hk (hx x (List.mem_cons_self ..))
    obtain ⟨b1, b2, b3⟩ := svList_ok L (svStep k v x) a1 (Nat.lt_of_lt_of_le hk a2) (fun y hy => hx y (List.mem_cons_of_mem _ hy))
    exact ⟨b1, Nat.le_trans a2 b2, fun i hi => (b3 i (Nat.lt_of_lt_of_le hi a2)).trans (a3 i hi)⟩
theorem sv0_ok {r : TR} (hr : r.ok) (h0 : r.sk s00) : svOk r sv0 := ⟨⟨Nat.le_refl _, by decide⟩, fun i _ => h0, fun i j hi hj _ => by
  have hi : i < 1 := hi
  have hj : j < 1 := hj
  omega, rfl, fun i i1 hi => by
  have hi : i < 1 := hi
  omega, fun j hj => absurd hj (Nat.not_lt_zero _)⟩
theorem svRow_ok {r : TR} (hr : r.ok) (h0 : r.sk s00) : ∀ k, svOk r (svRow r k)
  | 0 => sv0_ok hr h0
  | k + 1 => by
    have ih := svRow_ok hr h0 k
    show svOk r (if (svRow r k).sp = true then svRow r k else if k < (svRow r k).n then svList k (svRow r k) (ts_all r ((svRow r k).s k)) else svRow r k)
    by_cases c : (svRow r k).sp = true
    · rw [if_pos c]; exact ih
    · rw [if_neg c]
      by_cases c2 : k < (svRow r k).n
      · rw [if_pos c2]
        exact (svList_ok _ _ ih c2 (fun x hx => ts_sk hr (ih.2.1 k c2) hx)).1
      · rw [if_neg c2]; exact ih
