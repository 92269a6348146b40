theorem PG_0 : ∃ lb cp, PG g00 lb cp 0 0 := by
  have z : ∀ q, ¬ bt (Int32.ofInt 0) q = true := fun q => by rw [bt_0]; exact Bool.false_ne_true
  refine ⟨fun _ => 0, fun i => 100 + i, ⟨?_, ?_, ?_, ?_, ?_, ?_, ?_, ?_, Nat.zero_le _⟩, ⟨?_, ?_, ?_⟩, ?_⟩
  · intro y q h; exact absurd h.2.2 (z q)
  · intro i _ q h; exact h.elim (fun h => absurd h (z q)) (fun h => absurd h (z q))
  · intro i _ q h; exact h.elim (fun h => absurd h (z q)) (fun h => absurd h (z q))
  · intro q q1 qn; have : q ≤ 0 := qn; omega
  · intro q q' q1 qn; have : q ≤ 0 := qn; omega
  · intro q q1 qn; have : q ≤ 0 := qn; omega
  · intro i hi
    exact Or.inr (Or.inr ⟨rfl, fun y => z y, rfl⟩)
  · intro i j _ _ hne e
    have e : 100 + i = 100 + j := e
    omega
  · intro i j _ _ y q h; exact absurd h (z y)
  · intro _ y q h; exact absurd h.2.2 (z q)
  · intro h; cases h
  · intro y q _; exact bt_0 q
/-- of what is read: acts, marks between, braces, stars -/
def rdC (r : Nat → Int32) (m i ph d n B σ : Nat) : Prop := ∃ N P, n ≤ N ∧ P + 1 = N + (if ph ≤ 2 then 1 else 0) ∧ i + (if ph = 4 ∧ i < m ∧ r i = Int32.ofInt 42 then 1 else 0) = 3 * N + P + (B + d) + B + σ + (if ph = 1 then 1 else if ph = 2 then 2 else 0)
theorem ev_let {sort o : Int32} {r : Nat → Int32} {m i : Nat} {s : GS} (h1 : rd_let (r i) = true) : gEv sort o r m i s = s ∨ ∃ c, s.n < 15 ∧ gEv sort o r m i s = gAct c s := by
  unfold gEv
  by_cases h2 : 2 ≤ i
  · rw [if_pos ⟨h1, h2⟩]
    split
    · exact Or.inl rfl
    · split
      · next h => exact Or.inr ⟨_, h, rfl⟩
      · exact Or.inl rfl
  · rw [if_neg (fun h => h2 h.2)]
    have a : ∀ c : Int32, rd_let c = true → ¬ c = Int32.ofInt 123 ∧ ¬ c = Int32.ofInt 43 ∧ ¬ c = Int32.ofInt 125 := by
      intro c hc
      refine ⟨?_, ?_, ?_⟩ <;> (rintro rfl; revert hc; decide)
    obtain ⟨x, y, z⟩ := a _ h1
    rw [if_neg x, if_neg y, if_neg z]
    exact Or.inl rfl
theorem pg_it {sort o : Int32} {r : Nat → Int32} {m i : Nat} {s : GS} {p e : Nat} (h : rd_it (r i) s.d = some (p, e)) {lb cp : Nat → Nat} {B σ : Nat} (g : PG s lb cp B σ) {ph : Nat} (hph : ph = 3 ∨ (ph = 4 ∧ ¬ r i = Int32.ofInt 42)) (hm : m ≤ 60) (hi : i < m) (hc : rdC r m i ph s.d s.n B σ) :
    ∃ lb' cp' B' σ', PG (gEv sort o r m i s) lb' cp' B' σ' ∧ (gEv sort o r m i s).d = e ∧ rdC r m (i + 1) p e (gEv sort o r m i s).n B' σ' := by
  obtain ⟨N, P, c1, c2, c3⟩ := hc
  have c2 : P + 1 = N := by
    rcases hph with rfl | ⟨rfl, _⟩
    · simpa using c2
    · simpa using c2
  have c3 : i = 3 * N + P + (B + s.d) + B + σ := by
    rcases hph with rfl | ⟨rfl, h42⟩
    · simpa using c3
    · rw [if_neg (fun h => h42 h.2.2)] at c3
      simpa using c3
  unfold rd_it at h
  by_cases e1 : r i = Int32.ofInt 59
  · rw [if_pos e1] at h
    obtain ⟨rfl, rfl⟩ : 0 = p ∧ s.d = e := by cases h; exact ⟨rfl, rfl⟩
    have ev : gEv sort o r m i s = s := ev_skip (by rw [e1]; decide) (by rw [e1]; decide) (by rw [e1]; decide) (by rw [e1]; decide)
    rw [ev]
    refine ⟨lb, cp, B, σ, g, rfl, N, P + 1, c1, ?_, ?_⟩
    · simp; omega
    · simp; omega
  · rw [if_neg e1] at h
    by_cases d0 : s.d = 0
    · rw [if_pos d0] at h; cases h
    · rw [if_neg d0] at h
      by_cases e2 : r i = Int32.ofInt 43
      · rw [if_pos e2] at h
        obtain ⟨rfl, rfl⟩ : 0 = p ∧ s.d = e := by cases h; exact ⟨rfl, rfl⟩
        have ev : gEv sort o r m i s = gEnd s := by
          unfold gEv
          rw [if_neg (fun h => by rw [e2] at h; exact absurd h.1 (by decide)), if_neg (by rw [e2]; decide), if_pos e2]
        rw [ev]
        obtain ⟨lb', cp', g'⟩ := PG_row g
        refine ⟨lb', cp', B, σ, g', rfl, N, P + 1, c1, ?_, ?_⟩
        · simp; omega
        · simp; omega
      · rw [if_neg e2] at h
        by_cases e3 : r i = Int32.ofInt 125
        · rw [if_pos e3] at h
          obtain ⟨rfl, rfl⟩ : 4 = p ∧ s.d - 1 = e := by cases h; exact ⟨rfl, rfl⟩
          have ev : gEv sort o r m i s = gClose (decide (i + 1 < m) && decide (r (i + 1) = Int32.ofInt 42)) s := by
            unfold gEv
            rw [if_neg (fun h => by rw [e3] at h; exact absurd h.1 (by decide)), if_neg (by rw [e3]; decide), if_neg (by rw [e3]; decide), if_pos e3, if_neg d0]
          rw [ev]
          generalize hst : (decide (i + 1 < m) && decide (r (i + 1) = Int32.ofInt 42)) = star
          obtain ⟨lb', cp', g'⟩ := PG_close g d0 (by omega) star
          have en : (gClose star s).n = s.n := by cases star <;> rfl
          have ed : (gClose star s).d = s.d - 1 := by cases star <;> rfl
          refine ⟨lb', cp', B + 1, _, g', ed, N, P, by rw [en]; exact c1, ?_, ?_⟩
          · simp; omega
          · cases star with
            | true =>
              rw [Bool.and_eq_true] at hst
              have h1 := of_decide_eq_true hst.1
              have h2 := of_decide_eq_true hst.2
              rw [if_pos ⟨rfl, h1, h2⟩]
              simp; omega
            | false =>
              rw [if_neg (fun h => by rw [decide_eq_true h.2.1, decide_eq_true h.2.2] at hst; cases hst)]
              simp; omega
        · rw [if_neg e3] at h; cases h
theorem pg_run {sort o : Int32} {r : Nat → Int32} {m : Nat} (hm : m ≤ 60) : ∀ (k i ph : Nat) (s : GS) (lb cp : Nat → Nat) (B σ : Nat), PG s lb cp B σ → vl sort r k i ph s.d → ph ≤ 4 → i + k = m → rdC r m i ph s.d s.n B σ → ∃ lb' cp' B' σ', PG (gRun sort o r m k i s) lb' cp' B' σ' ∧ 4 * (gRun sort o r m k i s).n + 2 * B' + σ' ≤ 61 := by
  intro k
  induction k with
  | zero =>
    intro i ph s lb cp B σ g hv h4 hi ⟨N, P, c1, c2, c3⟩
    obtain ⟨hp, hd⟩ := vl_0 hv
    refine ⟨lb, cp, B, σ, g, ?_⟩
    show 4 * s.n + 2 * B + σ ≤ 61
    rw [if_neg (by omega)] at c2
    rw [if_neg (fun h => by omega), if_neg (by omega), if_neg (by omega)] at c3
    omega
  | succ k ih =>
    intro i ph s lb cp B σ g hv h4 hi hc
    obtain ⟨p, e, hst, hv1⟩ := vl_s hv
    rw [gRun_s]
    have him : i < m := by omega
    have hc' := hc
    obtain ⟨N, P, c1, c2, c3⟩ := hc'
    rcases ph with _ | _ | _ | _ | _ | ph
    · -- an item
      have hst : (if r i = Int32.ofInt 123 then some (0, s.d + 1) else bif rd_st sort (r i) then some (1, s.d) else none) = some (p, e) := hst
      have c2 : P = N := by simpa using c2
      have c3 : i = 3 * N + P + (B + s.d) + B + σ := by simpa using c3
      by_cases e1 : r i = Int32.ofInt 123
      · rw [if_pos e1] at hst
        obtain ⟨rfl, rfl⟩ : 0 = p ∧ s.d + 1 = e := by cases hst; exact ⟨rfl, rfl⟩
        have ev : gEv sort o r m i s = gOpen s := by
          unfold gEv
          rw [if_neg (fun h => by rw [e1] at h; exact absurd h.1 (by decide)), if_pos e1, if_pos (by omega)]
        rw [ev]
        obtain ⟨lb', cp', g'⟩ := PG_new g
        refine ih (i + 1) 0 (gOpen s) lb' cp' B σ g' hv1 (by decide) (by omega) ⟨N, P, c1, ?_, ?_⟩
        · simp; omega
        · have : (gOpen s).d = s.d + 1 := rfl
          rw [this]; simp; omega
      · rw [if_neg e1] at hst
        cases hs : rd_st sort (r i) with
        | false => rw [hs] at hst; cases hst
        | true =>
          rw [hs] at hst
          obtain ⟨rfl, rfl⟩ : 1 = p ∧ s.d = e := by cases hst; exact ⟨rfl, rfl⟩
          obtain ⟨a, b, c, d, _⟩ := st_x hs
          rw [ev_skip a b c d]
          refine ih (i + 1) 1 s lb cp B σ g hv1 (by decide) (by omega) ⟨N, P, c1, ?_, ?_⟩
          · simp; omega
          · simp; omega
    · have hst : (bif rd_dig (r i) then (if sort = 0 then some (2, s.d) else if r i = r (i - 1) then none else some (2, s.d)) else none) = some (p, e) := hst
      have c2 : P = N := by simpa using c2
      have c3 : i = 3 * N + P + (B + s.d) + B + σ + 1 := by simpa using c3
      cases hs : rd_dig (r i) with
      | false => rw [hs] at hst; cases hst
      | true =>
        rw [hs] at hst
        have hh : 2 = p ∧ s.d = e := by
          simp only [cond_true] at hst
          split at hst
          · cases hst; exact ⟨rfl, rfl⟩
          · split at hst
            · cases hst
            · cases hst; exact ⟨rfl, rfl⟩
        obtain ⟨rfl, rfl⟩ := hh
        obtain ⟨a, b, c, d, _⟩ := dig_x hs
        rw [ev_skip a b c d]
        refine ih (i + 1) 2 s lb cp B σ g hv1 (by decide) (by omega) ⟨N, P, c1, ?_, ?_⟩
        · simp; omega
        · simp; omega
    · have hst : (bif rd_let (r i) then some (3, s.d) else none) = some (p, e) := hst
      have c2 : P = N := by simpa using c2
      have c3 : i = 3 * N + P + (B + s.d) + B + σ + 2 := by simpa using c3
      cases hs : rd_let (r i) with
      | false => rw [hs] at hst; cases hst
      | true =>
        rw [hs] at hst
        obtain ⟨rfl, rfl⟩ : 3 = p ∧ s.d = e := by cases hst; exact ⟨rfl, rfl⟩
        rcases ev_let (sort := sort) (o := o) (m := m) (s := s) hs with ev | ⟨c, hn, ev⟩
        · rw [ev]
          refine ih (i + 1) 3 s lb cp B σ g hv1 (by decide) (by omega) ⟨N + 1, P, by omega, ?_, ?_⟩
          · simp; omega
          · simp; omega
        · rw [ev]
          obtain ⟨lb', cp', g'⟩ := PG_act g c hn
          have en : (gAct c s).n = s.n + 1 := rfl
          have ed : (gAct c s).d = s.d := rfl
          refine ih (i + 1) 3 (gAct c s) lb' cp' B σ g' hv1 (by decide) (by omega) ⟨N + 1, P, by rw [en]; omega, ?_, ?_⟩
          · simp; omega
          · rw [ed]; simp; omega
    · obtain ⟨lb', cp', B', σ', g', hd, hc''⟩ := pg_it (sort := sort) (o := o) hst g (Or.inl rfl) hm him hc
      have hp4 : p ≤ 4 := (rd_it_le hst).1
      refine ih (i + 1) p _ lb' cp' B' σ' g' (by rw [hd]; exact hv1) hp4 (by omega) (by rw [hd]; exact hc'')
    · have hst : (if r i = Int32.ofInt 42 then some (3, s.d) else rd_it (r i) s.d) = some (p, e) := hst
      by_cases e1 : r i = Int32.ofInt 42
      · rw [if_pos e1] at hst
        obtain ⟨rfl, rfl⟩ : 3 = p ∧ s.d = e := by cases hst; exact ⟨rfl, rfl⟩
        have c2 : P + 1 = N := by simpa using c2
        have c3 : i + 1 = 3 * N + P + (B + s.d) + B + σ := by rw [if_pos ⟨rfl, him, e1⟩] at c3; simpa using c3
        rw [ev_skip (by rw [e1]; decide) (by rw [e1]; decide) (by rw [e1]; decide) (by rw [e1]; decide)]
        refine ih (i + 1) 3 s lb cp B σ g hv1 (by decide) (by omega) ⟨N, P, c1, ?_, ?_⟩
        · simp; omega
        · simp; omega
      · rw [if_neg e1] at hst
        obtain ⟨lb', cp', B', σ', g', hd, hc''⟩ := pg_it (sort := sort) (o := o) hst g (Or.inr ⟨rfl, e1⟩) hm him hc
        have hp4 : p ≤ 4 := (rd_it_le hst).1
        refine ih (i + 1) p _ lb' cp' B' σ' g' (by rw [hd]; exact hv1) hp4 (by omega) (by rw [hd]; exact hc'')
    · omega
/-- the points and stars of a whole text's book -/
theorem pg_text {sort o : Int32} {r : Nat → Int32} {m : Nat} (hm : m ≤ 60) (hv : vl sort r m 0 0 0) : ∃ lb cp B σ, PG (gRun sort o r m m 0 g00) lb cp B σ ∧ 4 * (gRun sort o r m m 0 g00).n + 2 * B + σ ≤ 61 := by
  obtain ⟨lb, cp, g⟩ := PG_0
  exact pg_run hm m 0 0 g00 lb cp 0 0 g hv (by decide) (by omega) ⟨0, 0, Nat.le_refl _, rfl, rfl⟩
