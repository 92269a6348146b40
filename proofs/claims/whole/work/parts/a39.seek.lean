section
variable {n1 n2 : Nat} {so1 so2 : Nat → Nat} {fo1 fo2 : Nat → Nat → Prop}
/-- the search at pair k, sort a -/
def SA (n1 n2 : Nat) (so1 so2 : Nat → Nat) (fo1 fo2 : Nat → Nat → Prop) (h : am_H) (N : Nat) (pw : Nat → List Nat) (pf pa : Nat → Nat) (k a : Nat) : Prop := (∃ T, P9 h N (fun i => KY n1 n2 so1 so2 fo1 fo2 (pw i)) (frI pf) (frI pa) T) ∧ BP N pw pf pa k a ∧ BC N pw (KY n1 n2 so1 so2 fo1 fo2) (0, 0) k a ∧ (∀ i, i < N → KY n1 n2 so1 so2 fo1 fo2 (pw i) ≠ (0, 0)) ∧ am_I h 51 37 = Int32.ofInt (-1)
theorem sk9_step {h : am_H} {b1 b2 : Nat} (hb1 : B9 h b1 n1 so1 fo1) (hb2 : B9 h b2 n2 so2 fo2) {lb1 lb2 : Nat → Nat} {B1 B2 σ1 σ2 : Nat} (k1 : bOk n1 fo1 lb1 B1 σ1) (k2 : bOk n2 fo2 lb2 B2 σ2) (s1 : ∀ q, so1 q < 24) (s2 : ∀ q, so2 q < 24) {N : Nat} {pw : Nat → List Nat} {pf pa : Nat → Nat} {k a : Nat} (hk : k < N) (ha : a < 24) (g : SA n1 n2 so1 so2 fo1 fo2 h N pw pf pa k a) {F : Nat} (hF : 131073 ≤ F) :
    ∃ h' N' pw' pf' pa', g_X9_seekApart (F + 1) 2 (nI b1) (nI b2) (nI k) (nI a) h = g_X9_seekApart F 2 (nI b1) (nI b2) (nI k) (nI (a + 1)) h' ∧ SA n1 n2 so1 so2 fo1 fo2 h' N' pw' pf' pa' k (a + 1) ∧ frP h h' ∧ N ≤ N' ∧ ∀ i, i < N → pw' i = pw i := by
  obtain ⟨⟨T, p⟩, hp, hc, hz, hf⟩ := g
  have p' := p
  obtain ⟨p1, p2, p3, p4, p5⟩ := p'
  have hn1 := hb1.2.1
  have hn2 := hb2.2.1
  have mm : ¬ Int32.ofInt 24 ≤ nI a := nI_ge (a := a) (b := 24) (by omega) (by omega)
  have vk : am_vp (nI k) 65536 = true := hp_vp (by omega) (by decide)
  have ck : Int32.toNatClampNeg (nI k) = k := nI_clamp (by omega)
  obtain ⟨q1, q2, q3, q4, _, _⟩ := p3 k hk
  have e1 := ld_9 hb1 s1 (uMk (bSet n1 so1 fo1 (pw k))) a ha (F := F) (by omega)
  have e2 := ld_9 hb2 s2 (uMk (bSet n2 so2 fo2 (pw k))) a ha (F := F) (by omega)
  rw [bLd_w hn1] at e1
  rw [bLd_w hn2] at e2
  have l1 := uMk_lt (bSet n1 so1 fo1 (a :: pw k))
  have l2 := uMk_lt (bSet n2 so2 fo2 (a :: pw k))
  have q1 : am_I h 72 k = nI (uMk (bSet n1 so1 fo1 (pw k))) := q1
  have q2 : am_I h 73 k = nI (uMk (bSet n2 so2 fo2 (pw k))) := q2
  have hlt := fun i hi => BP_lt hp hk (i := i) hi
  have un : g_X9_seekApart (F + 1) 2 (nI b1) (nI b2) (nI k) (nI a) h = Option.bind (if nI (uMk (bSet n1 so1 fo1 (a :: pw k))) = 0 then (if nI (uMk (bSet n2 so2 fo2 (a :: pw k))) = 0 then some h else am_b2 (f_X9_meetPair F (nI (uMk (bSet n1 so1 fo1 (a :: pw k)))) (nI (uMk (bSet n2 so2 fo2 (a :: pw k)))) (nI k) (nI a) h) fun _ h18 => (some h18)) else am_b2 (f_X9_meetPair F (nI (uMk (bSet n1 so1 fo1 (a :: pw k)))) (nI (uMk (bSet n2 so2 fo2 (a :: pw k)))) (nI k) (nI a) h) fun _ h14 => (some h14)) fun h10 => g_X9_seekApart F 2 (nI b1) (nI b2) (nI k) (nI (a + 1)) h10 := by
    rw [g_X9_seekApart]
    simp only [show Nat.beq 2 0 = false from rfl, show Nat.beq 2 1 = false from rfl, cond_false]
    rw [if_neg mm, hf, if_pos rfl, vk, cond_true, ck, q1, e1, b2s, q2, e2, b2s, hp_1]
  by_cases x0 : KY n1 n2 so1 so2 fo1 fo2 (a :: pw k) = (0, 0)
  · have x1 : uMk (bSet n1 so1 fo1 (a :: pw k)) = 0 := congrArg Prod.fst x0
    have x2 : uMk (bSet n2 so2 fo2 (a :: pw k)) = 0 := congrArg Prod.snd x0
    refine ⟨h, N, pw, pf, pa, ?_, ⟨⟨T, p⟩, BP_skip hp, BC_skip hc (Or.inl x0), hz, hf⟩, frP_r h, Nat.le_refl _, fun _ _ => rfl⟩
    rw [un, x1, x2, if_pos (show nI 0 = 0 from rfl), if_pos (show nI 0 = 0 from rfl), b_some]
  · -- both roads lead to meetPair
    have un2 : g_X9_seekApart (F + 1) 2 (nI b1) (nI b2) (nI k) (nI a) h = am_b2 (f_X9_meetPair F (nI (uMk (bSet n1 so1 fo1 (a :: pw k)))) (nI (uMk (bSet n2 so2 fo2 (a :: pw k)))) (nI k) (nI a) h) fun _ h14 => g_X9_seekApart F 2 (nI b1) (nI b2) (nI k) (nI (a + 1)) h14 := by
      rw [un]
      generalize hm : f_X9_meetPair F (nI (uMk (bSet n1 so1 fo1 (a :: pw k)))) (nI (uMk (bSet n2 so2 fo2 (a :: pw k)))) (nI k) (nI a) h = o
      by_cases c1 : nI (uMk (bSet n1 so1 fo1 (a :: pw k))) = 0
      · rw [if_pos c1]
        by_cases c2 : nI (uMk (bSet n2 so2 fo2 (a :: pw k))) = 0
        · exfalso
          apply x0
          exact Prod.ext ((nI_0e (v := uMk (bSet n1 so1 fo1 (a :: pw k))) (by omega)).mp c1) ((nI_0e (v := uMk (bSet n2 so2 fo2 (a :: pw k))) (by omega)).mp c2)
        · rw [if_neg c2]
          cases o with
          | none => rfl
          | some y => rfl
      · rw [if_neg c1]
        cases o with
        | none => rfl
        | some y => rfl
    obtain ⟨m1, m2⟩ := mp_9 p (x := KY n1 n2 so1 so2 fo1 fo2 (a :: pw k)) l1 l2 (nI k) (nI a) (F := F) hF
    by_cases hin : ∃ i, i < N ∧ KY n1 n2 so1 so2 fo1 fo2 (pw i) = KY n1 n2 so1 so2 fo1 fo2 (a :: pw k)
    · obtain ⟨i, hi, ei⟩ := hin
      refine ⟨h, N, pw, pf, pa, ?_, ⟨⟨T, p⟩, BP_skip hp, BC_skip hc (Or.inr ⟨i, hi, ei, Or.inr (hlt i hi)⟩), hz, hf⟩, frP_r h, Nat.le_refl _, fun _ _ => rfl⟩
      have := m1 i hi ei
      rw [un2, show f_X9_meetPair F (nI (uMk (bSet n1 so1 fo1 (a :: pw k)))) (nI (uMk (bSet n2 so2 fo2 (a :: pw k)))) (nI k) (nI a) h = _ from this, b2s]
    · have hno : ∀ i, i < N → KY n1 n2 so1 so2 fo1 fo2 (pw i) ≠ KY n1 n2 so1 so2 fo1 fo2 (a :: pw k) := fun i hi e => hin ⟨i, hi, e⟩
      -- there is room
      have hz' : ∀ i, i < N + 1 → KY n1 n2 so1 so2 fo1 fo2 (if i = N then a :: pw k else pw i) ≠ (0, 0) := by
        intro i hi
        by_cases c : i = N
        · rw [if_pos c]; exact x0
        · rw [if_neg c]; exact hz i (by omega)
      have hN : N + 1 ≤ 65536 := ky_count hn1 hn2 k1 k2 s1 s2 (pw := fun i => if i = N then a :: pw k else pw i) (by
        intro i j hi hj e
        by_cases c : i = N
        · by_cases c' : j = N
          · omega
          · simp only [if_pos c, if_neg c'] at e
            exact absurd e.symm (hno j (by omega))
        · by_cases c' : j = N
          · simp only [if_neg c, if_pos c'] at e
            exact absurd e (hno i (by omega))
          · simp only [if_neg c, if_neg c'] at e
            exact p5.2.2.2.2 i j (by omega) (by omega) e) hz'
      obtain ⟨h', T', e3, p'', f3, i3⟩ := m2 hno (by omega)
      refine ⟨h', N + 1, fun i => if i = N then a :: pw k else pw i, fun i => if i = N then k else pf i, fun i => if i = N then a else pa i, ?_, ⟨⟨T', P9_c p'' ?_ ?_ ?_⟩, BP_add hp hk ha, BC_add hc hk, hz', by rw [i3]; exact hf⟩, f3, Nat.le_succ _, fun i hi => if_neg (by omega)⟩
      · rw [un2, show f_X9_meetPair F (nI (uMk (bSet n1 so1 fo1 (a :: pw k)))) (nI (uMk (bSet n2 so2 fo2 (a :: pw k)))) (nI k) (nI a) h = _ from e3, b2s]
      · intro i hi
        show KY n1 n2 so1 so2 fo1 fo2 (if i = N then _ else _) = (if i = N then _ else _)
        by_cases c : i = N
        · rw [if_pos c, if_pos c]
        · rw [if_neg c, if_neg c]
      · intro i hi
        show (if i = 0 then Int32.ofInt (-1) else nI (if i = N then k else pf i)) = (if i = N then nI k else (if i = 0 then Int32.ofInt (-1) else nI (pf i)))
        have hN1 := hp.1.1
        by_cases c : i = N
        · rw [if_neg (by omega), if_pos c, if_pos c]
        · rw [if_neg c, if_neg c]
      · intro i hi
        show (if i = 0 then Int32.ofInt (-1) else nI (if i = N then a else pa i)) = (if i = N then nI a else (if i = 0 then Int32.ofInt (-1) else nI (pa i)))
        have hN1 := hp.1.1
        by_cases c : i = N
        · rw [if_neg (by omega), if_pos c, if_pos c]
        · rw [if_neg c, if_neg c]
theorem sk9_in {b1 b2 : Nat} {lb1 lb2 : Nat → Nat} {B1 B2 σ1 σ2 : Nat} (k1 : bOk n1 fo1 lb1 B1 σ1) (k2 : bOk n2 fo2 lb2 B2 σ2) (s1 : ∀ q, so1 q < 24) (s2 : ∀ q, so2 q < 24) {k : Nat} {F : Nat} (hF : 131073 ≤ F) : ∀ (d a : Nat) (h : am_H) (N : Nat) (pw : Nat → List Nat) (pf pa : Nat → Nat), a + d = 24 → k < N → B9 h b1 n1 so1 fo1 → B9 h b2 n2 so2 fo2 → SA n1 n2 so1 so2 fo1 fo2 h N pw pf pa k a →
    ∃ h' N' pw' pf' pa', g_X9_seekApart (F + d + 1) 2 (nI b1) (nI b2) (nI k) (nI a) h = g_X9_seekApart F 1 (nI b1) (nI b2) (nI (k + 1)) 0 h' ∧ SA n1 n2 so1 so2 fo1 fo2 h' N' pw' pf' pa' (k + 1) 0 ∧ frP h h' ∧ N ≤ N' ∧ ∀ i, i < N → pw' i = pw i := by
  intro d
  induction d with
  | zero =>
    intro a h N pw pf pa ha hk hb1 hb2 g
    have : a = 24 := by omega
    subst this
    obtain ⟨p, hp, hc, hz, hf⟩ := g
    refine ⟨h, N, pw, pf, pa, ?_, ⟨p, BP_next hp, BC_next hc, hz, hf⟩, frP_r h, Nat.le_refl _, fun _ _ => rfl⟩
    rw [show F + 0 + 1 = F + 1 from rfl, g_X9_seekApart]
    simp only [show Nat.beq 2 0 = false from rfl, show Nat.beq 2 1 = false from rfl, cond_false]
    rw [if_pos (by decide), hp_1]
  | succ d ih =>
    intro a h N pw pf pa ha hk hb1 hb2 g
    obtain ⟨h1, N1, pw1, pf1, pa1, e1, g1, f1, l1, w1⟩ := sk9_step hb1 hb2 k1 k2 s1 s2 hk (by omega) g (F := F + d + 1) (by omega)
    obtain ⟨h2, N2, pw2, pf2, pa2, e2, g2, f2, l2, w2⟩ := ih (a + 1) h1 N1 pw1 pf1 pa1 (by omega) (by omega) (B9_frP hb1 f1) (B9_frP hb2 f1) g1
    refine ⟨h2, N2, pw2, pf2, pa2, ?_, g2, frP_t f1 f2, by omega, fun i hi => (w2 i (by omega)).trans (w1 i hi)⟩
    rw [show F + (d + 1) + 1 = (F + d + 1) + 1 from rfl, e1, e2]
end
