/-! ===== gathering: the class's loop and end ===== -/
def gEv (sort o : Int32) (r : Nat → Int32) (m i : Nat) (s : GS) : GS :=
  if rd_let (r i) = true ∧ 2 ≤ i then (if cd_of sort o r (i - 2) = Int32.ofInt (-1) then s else if s.n < 15 then gAct (cd_of sort o r (i - 2)) s else s)
  else if r i = Int32.ofInt 123 then (if s.d < 60 then gOpen s else s)
  else if r i = Int32.ofInt 43 then gEnd s
  else if r i = Int32.ofInt 125 then (if s.d = 0 then s else gClose (decide (i + 1 < m) && decide (r (i + 1) = Int32.ofInt 42)) s)
  else s
def gRun (sort o : Int32) (r : Nat → Int32) (m : Nat) : Nat → Nat → GS → GS
  | 0, _, s => s
  | k + 1, i, s => gRun sort o r m k (i + 1) (gEv sort o r m i s)
theorem gEv_b (sort o : Int32) (r : Nat → Int32) (m i : Nat) (s : GS) (hn : s.n ≤ 15) (hd : s.d ≤ 60) : (gEv sort o r m i s).n ≤ 15 ∧ (gEv sort o r m i s).d ≤ 60 := by
  unfold gEv
  split
  · split
    · exact ⟨hn, hd⟩
    · split
      · next h => exact ⟨h, hd⟩
      · exact ⟨hn, hd⟩
  · split
    · split
      · next h => exact ⟨hn, h⟩
      · exact ⟨hn, hd⟩
    · split
      · exact ⟨hn, hd⟩
      · split
        · split
          · exact ⟨hn, hd⟩
          · have e : ∀ b, (gClose b s).n = s.n ∧ (gClose b s).d = s.d - 1 := by intro b; cases b <;> exact ⟨rfl, rfl⟩
            rw [(e _).1, (e _).2]
            exact ⟨hn, by omega⟩
        · exact ⟨hn, hd⟩
theorem g8_loop (sort o : Int32) (a q m : Nat) (r : Nat → Int32) (n : Nat) (hn : 20 ≤ n) : ∀ (k i : Nat) (h : am_H) (s : GS), tx8 h a q m r → i + k = m → G8 h s → s.n ≤ 15 → s.d ≤ 60 →
    ∃ h', g_X5_gather (n + k + 1) 0 a sort o (nI i) h = g_X5_gather (n + 1) 0 a sort o (nI m) h' ∧ G8 h' (gRun sort o r m k i s) ∧ fr8 h h' := by
  intro k
  induction k with
  | zero =>
    intro i h s t hi g h1 h2
    have : i = m := by omega
    subst this
    exact ⟨h, rfl, g, fr8_r h⟩
  | succ k ih =>
    intro i h s t hi g h1 h2
    have t' := t
    obtain ⟨t1, t2, t3, t4, t5, t6, t7, t8⟩ := t'
    have F : 20 ≤ n + k + 1 := by omega
    -- one event
    have ev : ∃ h', fr8 h h' ∧ G8 h' (gEv sort o r m i s) ∧ g_X5_gather (n + (k + 1) + 1) 0 a sort o (nI i) h = g_X5_gather (n + k + 1) 0 a sort o (nI (i + 1)) h' := by
      have v0 : am_vp (nI i) 60 = true := hp_vp (by omega) (by decide)
      have c0 : Int32.toNatClampNeg (nI i) = i := nI_clamp (by omega)
      have a1 : nI i + Int32.ofInt 1 = nI (i + 1) := hp_1 i
      have dd : (nI s.d ≤ 0) ↔ s.d = 0 := nI_le0 (by omega)
      have d6 : (Int32.ofInt 60 ≤ nI s.d) ↔ 60 ≤ s.d := nI_leI (a := 60) (b := s.d) (by decide) (by omega)
      have l2 : (nI i < Int32.ofInt 2) ↔ i < 2 := nI_ltI (a := i) (b := 2) (by omega) (by decide)
      have mm : ¬ nI m ≤ nI i := nI_ge (by omega) (by omega)
      have m1 : (nI m ≤ nI (i + 1)) ↔ m ≤ i + 1 := nI_leI (by omega) (by omega)
      have q2 := g.2.1
      unfold gEv
      rw [show n + (k + 1) + 1 = (n + k + 1) + 1 from rfl, g_X5_gather]
      simp only [hp_isO t1, t4, if_neg mm, t2, b_some, hp_ln t3, v0, cond_true, c0, t5 i (by omega), rd_l5, b2s, am_let, q2, a1]
      by_cases hl : rd_let (r i) = true ∧ 2 ≤ i
      · have i2 : nI i - Int32.ofInt 2 = nI (i - 2) := by
          have e : nI i = nI (i - 2) + nI 2 := by rw [nI_add]; congr 1; omega
          rw [e]; exact Int32.add_sub_cancel _ _
        rw [if_pos hl]
        simp only [hl.1, bI_t, o10, if_false, if_neg (fun x => absurd (l2.mp x) (by omega)), i2, cd_8 t sort o (show i - 2 + 2 < 60 by omega), b2s]
        by_cases hc : cd_of sort o r (i - 2) = Int32.ofInt (-1)
        · refine ⟨h, fr8_r h, by rw [if_pos hc]; exact g, ?_⟩
          unfold f_X5_addAct
          rw [if_pos hc]; rfl
        · rw [if_neg hc]
          by_cases h15 : s.n < 15
          · obtain ⟨h', e, g', f'⟩ := g8_act g h15 h2 (n + k + 1) F (cd_of sort o r (i - 2)) hc
            rw [if_pos h15]
            exact ⟨h', f', g', by rw [e]; rfl⟩
          · refine ⟨h, fr8_r h, by rw [if_neg h15]; exact g, ?_⟩
            unfold f_X5_addAct
            rw [if_neg hc, g.1, if_pos (show Int32.ofInt 15 ≤ nI s.n from nI_le (a := 15) (b := s.n) (by omega) (by omega))]; rfl
      · rw [if_neg hl]
        have key : ∀ (A B : Option am_H), (if bI (rd_let (r i)) = 0 then A else if nI i < Int32.ofInt 2 then A else B) = A := by
          intro A B
          cases hb : rd_let (r i)
          · rw [if_pos (show bI false = 0 from rfl)]
          · rw [if_neg (show ¬ bI true = 0 from by decide), if_pos (l2.mpr (by
              by_cases hh : i < 2
              · exact hh
              · exact absurd ⟨hb, by omega⟩ hl))]
        simp only [key]
        by_cases b1 : r i = Int32.ofInt 123
        · have n1 : ¬ r i = Int32.ofInt 43 := by rw [b1]; decide
          have n2 : ¬ r i = Int32.ofInt 125 := by rw [b1]; decide
          simp only [if_pos b1, if_neg n1, if_neg n2]
          by_cases h60 : s.d < 60
          · obtain ⟨h', e, g', f'⟩ := g8_open g h60
            rw [if_pos h60, if_neg (fun x => absurd (d6.mp x) (by omega)), hp_1]
            exact ⟨h', f', g', by rw [e]; rfl⟩
          · rw [if_neg h60, if_pos (d6.mpr (by omega))]
            exact ⟨h, fr8_r h, g, rfl⟩
        · simp only [if_neg b1]
          by_cases b2 : r i = Int32.ofInt 43
          · obtain ⟨h', e, g', f'⟩ := g8_end g h2
            simp only [if_pos b2]
            exact ⟨h', f', g', by rw [e]; rfl⟩
          · simp only [if_neg b2]
            by_cases b3 : r i = Int32.ofInt 125
            · simp only [if_pos b3]
              by_cases d0 : s.d = 0
              · rw [if_pos d0, if_pos (dd.mpr d0)]
                exact ⟨h, fr8_r h, g, rfl⟩
              · rw [if_neg d0, if_neg (fun x => d0 (dd.mp x))]
                obtain ⟨h', e, g', f'⟩ := g8_close g h1 h2 d0 (n + k + 1) F (decide (i + 1 < m) && decide (r (i + 1) = Int32.ofInt 42))
                refine ⟨h', f', g', ?_⟩
                by_cases im : i + 1 < m
                · have v1 : am_vp (nI (i + 1)) 60 = true := hp_vp (by omega) (by decide)
                  have c1 : Int32.toNatClampNeg (nI (i + 1)) = i + 1 := nI_clamp (by omega)
                  rw [if_neg (fun x => absurd (m1.mp x) (by omega))]
                  simp only [v1, c1, cond_true, t5 (i + 1) (by omega)]
                  rw [decide_eq_true im, Bool.true_and] at e
                  by_cases s42 : r (i + 1) = Int32.ofInt 42
                  · rw [decide_eq_true s42] at e
                    rw [if_pos s42, b_some, show f_X5_closeBraces (n + k + 1) (Int32.ofInt 1) h = _ from e]; rfl
                  · rw [decide_eq_false s42] at e
                    rw [if_neg s42, b_some, show f_X5_closeBraces (n + k + 1) (Int32.ofInt 0) h = _ from e]; rfl
                · rw [if_pos (m1.mpr (by omega)), b_some]
                  rw [decide_eq_false im, Bool.false_and] at e
                  rw [show f_X5_closeBraces (n + k + 1) (Int32.ofInt 0) h = _ from e]; rfl
            · simp only [if_neg b3]
              exact ⟨h, fr8_r h, g, rfl⟩
    obtain ⟨h1', f1, g1, e1⟩ := ev
    have hb := gEv_b sort o r m i s h1 h2
    obtain ⟨h2', e2, g2, f2⟩ := ih (i + 1) h1' _ (tx8_fr t f1) (by omega) g1 hb.1 hb.2
    exact ⟨h2', by rw [e1, e2], g2, fr8_t f1 f2⟩
