/-! ===== gathering: the reference's loop, whole ===== -/
theorem gRun_s (sort o : Int32) (r : Nat → Int32) (m k i : Nat) (s : GS) : gRun sort o r m (k + 1) i s = gRun sort o r m k (i + 1) (gEv sort o r m i s) := rfl
theorem q10 : Nat.beq 1 0 = false := rfl
theorem q11 : Nat.beq 1 1 = true := rfl
theorem g9_loop {b : Nat} (hb : b < 8) (sort o src : Int32) (m : Nat) (r : Nat → Int32) (ho : ¬ sort = 0 → ¬ o = Int32.ofInt (-1)) : ∀ (K k : Nat), k ≤ K → ∀ (n i ph : Nat) (h : am_H) (s : GS), 20 ≤ n → tx9 h src m r → i + k = m → (ph = 0 ∨ ph = 3) → vl sort r k i ph s.d → 4 * s.n ≤ i + ph / 3 → s.d ≤ i → GI s → G9 b h s →
    ∃ F' h', 20 ≤ F' ∧ g_X9_lay (n + k + 1) 1 (nI b) src (nI m) o (nI i) 0 h = g_X9_lay (F' + 1) 1 (nI b) src (nI m) o (nI m) 0 h' ∧ G9 b h' (gRun sort o r m k i s) ∧ fr9 b h h' ∧ (gRun sort o r m k i s).d = 0 ∧ (gRun sort o r m k i s).n ≤ 15 ∧ GI (gRun sort o r m k i s) := by
  intro K
  induction K with
  | zero =>
    intro k hk n i ph h s hn t hi hp hv h4 hd hg g
    have : k = 0 := by omega
    subst this
    have : i = m := by omega
    subst this
    have := vl_0 hv
    have hm := t.1
    exact ⟨n, h, hn, rfl, g, fr9_r b h, this.2, by show s.n ≤ 15; rcases hp with rfl | rfl <;> omega, hg⟩
  | succ K ih =>
    intro k hk n i ph h s hn t hi hp hv h4 hd hg g
    cases k with
    | zero =>
      have : i = m := by omega
      subst this
      have := vl_0 hv
      have hm := t.1
      exact ⟨n, h, hn, rfl, g, fr9_r b h, this.2, by show s.n ≤ 15; rcases hp with rfl | rfl <;> omega, hg⟩
    | succ k =>
      have hm := t.1
      obtain ⟨p, e, hst, hv1⟩ := vl_s hv
      have mm : ¬ nI m ≤ nI i := nI_ge (by omega) (by omega)
      have F : 20 ≤ n + k + 1 := by omega
      have go : g_X9_lay (n + (k + 1) + 1) 1 (nI b) src (nI m) o (nI i) 0 h = g_X9_lay ((n + k + 1) + 1) 1 (nI b) src (nI m) o (nI i) 0 h := rfl
      rw [go, g_X9_lay]
      simp only [q10, q11, cond_true, cond_false, if_neg mm, sg9 t (show i < m by omega), b2s]
      rw [gRun_s]
      rcases hp with rfl | rfl
      · -- an item begins
        have hst : (if r i = Int32.ofInt 123 then some (0, s.d + 1) else bif rd_st sort (r i) then some (1, s.d) else none) = some (p, e) := hst
        by_cases c1 : r i = Int32.ofInt 123
        · rw [if_pos c1] at hst
          obtain ⟨rfl, rfl⟩ := am_i2 hst
          obtain ⟨h', e', g', f'⟩ := g9_open g (by omega)
          have ev : gEv sort o r m i s = gOpen s := by
            unfold gEv
            rw [if_neg (fun q => by rw [c1] at q; exact absurd q.1 (by decide)), if_pos c1, if_pos (by omega)]
          simp only [if_pos c1, e', b2s, hp_1]
          rw [ev]
          obtain ⟨F', h2, a1, a2, a3, a4, a5⟩ := ih k (by omega) n (i + 1) 0 h' (gOpen s) hn (tx9_fr t f') (by omega) (Or.inl rfl) hv1 (by show 4 * s.n ≤ _; omega) (by show s.d + 1 ≤ _; omega) (GI_open hg) g'
          exact ⟨F', h2, a1, a2, a3, fr9_t f' a4, a5⟩
        · rw [if_neg c1] at hst
          cases hs : rd_st sort (r i)
          · rw [hs] at hst; cases hst
          · rw [hs] at hst
            obtain ⟨rfl, rfl⟩ := am_i2 (show some (1, s.d) = some (p, e) from hst)
            cases k with
            | zero => exact absurd (vl_0 hv1).1 (by decide)
            | succ k =>
              obtain ⟨p2, e2, hst2, hv2⟩ := vl_s hv1
              have hst2 : (bif rd_dig (r (i + 1)) then (if sort = 0 then some (2, s.d) else if r (i + 1) = r (i + 1 - 1) then none else some (2, s.d)) else none) = some (p2, e2) := hst2
              cases hd1 : rd_dig (r (i + 1))
              · rw [hd1] at hst2; cases hst2
              · rw [hd1] at hst2
                have hst2 : (if sort = 0 then some (2, s.d) else if r (i + 1) = r (i + 1 - 1) then none else some (2, s.d)) = some (p2, e2) := hst2
                have pe : p2 = 2 ∧ e2 = s.d := by
                  split at hst2
                  · obtain ⟨rfl, rfl⟩ := am_i2 hst2; exact ⟨rfl, rfl⟩
                  · split at hst2
                    · cases hst2
                    · obtain ⟨rfl, rfl⟩ := am_i2 hst2; exact ⟨rfl, rfl⟩
                obtain ⟨rfl, rfl⟩ := pe
                cases k with
                | zero => exact absurd (vl_0 hv2).1 (by decide)
                | succ k =>
                  obtain ⟨p3, e3, hst3, hv3⟩ := vl_s hv2
                  have hst3 : (bif rd_let (r (i + 1 + 1)) then some (3, s.d) else none) = some (p3, e3) := hst3
                  cases hl : rd_let (r (i + 1 + 1))
                  · rw [hl] at hst3; cases hst3
                  · rw [hl] at hst3
                    obtain ⟨rfl, rfl⟩ := am_i2 (show some (3, s.d) = some (p3, e3) from hst3)
                    obtain ⟨x1, x2, x3, x4, x5⟩ := st_x hs
                    obtain ⟨y1, y2, y3, y4, y5⟩ := dig_x hd1
                    have hkind : (sort = 0 ∧ rd_mark (r i) = true) ∨ (¬ sort = 0 ∧ rd_dig (r i) = true ∧ ¬ o = Int32.ofInt (-1)) := by
                      unfold rd_st at hs
                      by_cases z : sort = 0
                      · rw [decide_eq_true z] at hs; exact Or.inl ⟨z, hs⟩
                      · rw [decide_eq_false z] at hs; exact Or.inr ⟨z, hs, ho z⟩
                    obtain ⟨h', e', g', f'⟩ := g9_act hb g (by omega) (by omega) hg (n + (k + 1 + 1) + 1) (by omega) sort o r i hkind hd1 hl
                    have s2 : nI i + Int32.ofInt 2 = nI (i + 2) := nI_add i 2
                    have s3 : nI i + Int32.ofInt 3 = nI (i + 3) := nI_add i 3
                    simp only [if_neg c1, if_neg x3, if_neg x4, if_neg x5, hp_1, s2, s3, sg9 t (show i + 1 < m by omega), sg9 t (show i + 2 < m by omega), b2s, e']
                    have ev : gEv sort o r m (i + 1 + 1) (gEv sort o r m (i + 1) (gEv sort o r m i s)) = (if cd_of sort o r i = Int32.ofInt (-1) then s else gAct (cd_of sort o r i) s) := by
                      rw [ev_skip (i := i) x1 c1 x3 x4, ev_skip (i := i + 1) y1 y2 y3 y4]
                      unfold gEv
                      rw [if_pos ⟨hl, by omega⟩, show i + 1 + 1 - 2 = i from by omega, if_pos (show s.n < 15 by omega)]
                    rw [gRun_s, gRun_s, ev]
                    have bd : (if cd_of sort o r i = Int32.ofInt (-1) then s else gAct (cd_of sort o r i) s).n ≤ s.n + 1 ∧ (if cd_of sort o r i = Int32.ofInt (-1) then s else gAct (cd_of sort o r i) s).d = s.d ∧ GI (if cd_of sort o r i = Int32.ofInt (-1) then s else gAct (cd_of sort o r i) s) := by
                      split
                      · exact ⟨by omega, rfl, hg⟩
                      · exact ⟨Nat.le_refl _, rfl, GI_act hg _ (by omega)⟩
                    obtain ⟨F', h2, a1, a2, a3, a4, a5⟩ := ih k (by omega) (n + 2) (i + 1 + 1 + 1) 3 h' _ (by omega) (tx9_fr t f') (by omega) (Or.inr rfl) (by rw [bd.2.1]; exact hv3) (by have := bd.1; omega) (by rw [bd.2.1]; omega) bd.2.2 g'
                    rw [show n + 2 + k + 1 = n + (k + 1 + 1) + 1 from by omega] at a2
                    exact ⟨F', h2, a1, a2, a3, fr9_t f' a4, a5⟩
      · -- behind an item
        have hst : rd_it (r i) s.d = some (p, e) := hst
        unfold rd_it at hst
        by_cases c59 : r i = Int32.ofInt 59
        · rw [if_pos c59] at hst
          obtain ⟨rfl, rfl⟩ := am_i2 hst
          have x2 : ¬ r i = Int32.ofInt 123 := by rw [c59]; decide
          have x3 : ¬ r i = Int32.ofInt 43 := by rw [c59]; decide
          have x4 : ¬ r i = Int32.ofInt 125 := by rw [c59]; decide
          simp only [if_neg x2, if_neg x3, if_neg x4, if_pos c59, b2s, hp_1]
          rw [ev_skip (i := i) (by rw [c59]; decide) x2 x3 x4]
          exact ih k (by omega) n (i + 1) 0 h s hn t (by omega) (Or.inl rfl) hv1 (by omega) (by omega) hg g
        · rw [if_neg c59] at hst
          by_cases d0 : s.d = 0
          · rw [if_pos d0] at hst; cases hst
          · rw [if_neg d0] at hst
            by_cases c43 : r i = Int32.ofInt 43
            · rw [if_pos c43] at hst
              obtain ⟨rfl, rfl⟩ := am_i2 hst
              have x2 : ¬ r i = Int32.ofInt 123 := by rw [c43]; decide
              obtain ⟨h1, h', e1, e2, g', f'⟩ := g9_plus g (by omega)
              have ev : gEv sort o r m i s = gEnd s := by
                unfold gEv
                rw [if_neg (fun q => by rw [c43] at q; exact absurd q.1 (by decide)), if_neg x2, if_pos c43]
              simp only [if_neg x2, if_pos c43, e1, e2, b2s, hp_1]
              rw [ev]
              obtain ⟨F', h2, a1, a2, a3, a4, a5⟩ := ih k (by omega) n (i + 1) 0 h' (gEnd s) hn (tx9_fr t f') (by omega) (Or.inl rfl) hv1 (by show 4 * s.n ≤ _; omega) (by show s.d ≤ _; omega) (GI_end hg) g'
              exact ⟨F', h2, a1, a2, a3, fr9_t f' a4, a5⟩
            · rw [if_neg c43] at hst
              by_cases c125 : r i = Int32.ofInt 125
              · rw [if_pos c125] at hst
                obtain ⟨rfl, rfl⟩ := am_i2 hst
                have x2 : ¬ r i = Int32.ofInt 123 := by rw [c125]; decide
                obtain ⟨h1, e1, g1, f1⟩ := g9_end0 g (by omega)
                have t1 := tx9_fr t f1
                have ev : gEv sort o r m i s = gClose (decide (i + 1 < m) && decide (r (i + 1) = Int32.ofInt 42)) s := by
                  unfold gEv
                  rw [if_neg (fun q => by rw [c125] at q; exact absurd q.1 (by decide)), if_neg x2, if_neg c43, if_pos c125, if_neg d0]
                have m1 : (nI m ≤ nI (i + 1)) ↔ m ≤ i + 1 := nI_leI (by omega) (by omega)
                have cn : ∀ z, (gClose z s).n = s.n ∧ (gClose z s).d = s.d - 1 := by intro z; cases z <;> exact ⟨rfl, rfl⟩
                simp only [if_neg x2, if_neg c43, if_pos c125, e1, b2s, hp_1]
                by_cases im : i + 1 < m
                · simp only [if_neg (fun q => absurd (m1.mp q) (by omega)), sg9 t1 im, b2s]
                  cases k with
                  | zero => omega
                  | succ k =>
                    obtain ⟨p2, e2, hst2, hv2⟩ := vl_s hv1
                    have hst2 : (if r (i + 1) = Int32.ofInt 42 then some (3, s.d - 1) else rd_it (r (i + 1)) (s.d - 1)) = some (p2, e2) := hst2
                    by_cases c42 : r (i + 1) = Int32.ofInt 42
                    · rw [if_pos c42] at hst2
                      obtain ⟨rfl, rfl⟩ := am_i2 hst2
                      obtain ⟨h', e', g', f'⟩ := g9_cl hb g1 f1 (by omega) d0 hg (n + (k + 1) + 1) (by omega) true i
                      simp only [if_pos c42, b2s]
                      rw [show bI true = Int32.ofInt 1 from rfl] at e'
                      rw [e', b2s, ev, decide_eq_true im, decide_eq_true c42, gRun_s, ev_skip (i := i + 1) (by rw [c42]; decide) (by rw [c42]; decide) (by rw [c42]; decide) (by rw [c42]; decide)]
                      obtain ⟨F', h2, a1, a2, a3, a4, a5⟩ := ih k (by omega) (n + 1) (i + 1 + 1) 3 h' (gClose true s) (by omega) (tx9_fr t f') (by omega) (Or.inr rfl) (by rw [(cn true).2]; exact hv2) (by rw [(cn true).1]; omega) (by rw [(cn true).2]; omega) (GI_close hg true) g'
                      rw [show n + 1 + k + 1 = n + (k + 1) + 1 from by omega] at a2
                      exact ⟨F', h2, a1, a2, a3, fr9_t f' a4, a5⟩
                    · rw [if_neg c42] at hst2
                      obtain ⟨h', e', g', f'⟩ := g9_cl hb g1 f1 (by omega) d0 hg (n + (k + 1) + 1) (by omega) false i
                      simp only [if_neg c42, b2s]
                      rw [show bI false = Int32.ofInt 0 from rfl] at e'
                      rw [e', b2s, ev, decide_eq_false c42, Bool.and_false]
                      have hv3 : vl sort r (k + 1) (i + 1) 3 (s.d - 1) := by
                        unfold vl rd_run
                        rw [show rd_step sort (r (i + 1 - 1)) (r (i + 1)) 3 (s.d - 1) = some (p2, e2) from hst2]
                        exact hv2
                      obtain ⟨F', h2, a1, a2, a3, a4, a5⟩ := ih (k + 1) (by omega) n (i + 1) 3 h' (gClose false s) hn (tx9_fr t f') (by omega) (Or.inr rfl) (by rw [(cn false).2]; exact hv3) (by rw [(cn false).1]; omega) (by rw [(cn false).2]; omega) (GI_close hg false) g'
                      exact ⟨F', h2, a1, a2, a3, fr9_t f' a4, a5⟩
                · have : k = 0 := by omega
                  subst this
                  simp only [if_pos (m1.mpr (by omega)), b2s]
                  obtain ⟨h', e', g', f'⟩ := g9_cl hb g1 f1 (by omega) d0 hg (n + 0 + 1) (by omega) false i
                  rw [show bI false = Int32.ofInt 0 from rfl] at e'
                  rw [e', b2s, ev, decide_eq_false im, Bool.false_and]
                  have v0 := vl_0 hv1
                  have hv3 : vl sort r 0 (i + 1) 3 (s.d - 1) := by
                    show (Nat.blt 2 3 && Nat.beq (s.d - 1) 0) = true
                    rw [v0.2]; rfl
                  obtain ⟨F', h2, a1, a2, a3, a4, a5⟩ := ih 0 (by omega) n (i + 1) 3 h' (gClose false s) hn (tx9_fr t f') (by omega) (Or.inr rfl) (by rw [(cn false).2]; exact hv3) (by rw [(cn false).1]; omega) (by rw [(cn false).2]; omega) (GI_close hg false) g'
                  exact ⟨F', h2, a1, a2, a3, fr9_t f' a4, a5⟩
              · rw [if_neg c125] at hst; cases hst
