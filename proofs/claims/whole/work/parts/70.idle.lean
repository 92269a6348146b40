/-! ===== the reference's layIdle ===== -/
def H9 (ph : Nat) (h : am_H) (s : GS) : Prop := am_I h 51 22 = nI s.d ∧ am_I h 51 23 = bI s.idle ∧ (∀ j, j ≤ s.d → am_I h 62 j = bI (bif (Nat.beq ph 1 || Nat.beq ph 2) && Nat.beq j s.d then false else s.rN j) ∧ am_I h 65 j = bI (s.aN j))
theorem h9_ph {ph ph' : Nat} {h : am_H} {s : GS} (e : (Nat.beq ph 1 || Nat.beq ph 2) = (Nat.beq ph' 1 || Nat.beq ph' 2)) (g : H9 ph h s) : H9 ph' h s := by
  unfold H9 at g ⊢
  rw [← e]; exact g
theorem x9_new {h : am_H} {d : Nat} (hd : d ≤ 60) (e : am_I h 51 22 = nI d) : f_X9_newRow h = some ((), am_sI (am_sI (am_sI h 60 d (Int32.ofInt 0)) 61 d (Int32.ofInt 0)) 62 d (bI true)) := by
  have v : am_vp (nI d) 61 = true := hp_vp (by omega) (by decide)
  have c : Int32.toNatClampNeg (nI d) = d := nI_clamp (by omega)
  unfold f_X9_newRow
  simp only [hp_I', ne_eq, Nat.reduceEqDiff, not_false_eq_true, e, v, c, cond_true]
  rfl
theorem x9_end {h : am_H} {d : Nat} {a b : Bool} (hd : d ≤ 60) (e : am_I h 51 22 = nI d) (ha : am_I h 65 d = bI a) (hb : am_I h 62 d = bI b) : f_X9_endRow h = some ((), am_sI (am_sI (am_sI h 63 d (am_I h 63 d ||| am_I h 60 d)) 64 d (am_I h 64 d ||| am_I h 61 d)) 65 d (bI (a || b))) := by
  have v : am_vp (nI d) 61 = true := hp_vp (by omega) (by decide)
  have c : Int32.toNatClampNeg (nI d) = d := nI_clamp (by omega)
  unfold f_X9_endRow
  simp only [hp_I', ne_eq, Nat.reduceEqDiff, not_false_eq_true, e, v, c, cond_true, ha, hb]
  cases a <;> cases b <;> rfl
theorem x9_open {h : am_H} {d : Nat} (hd : d ≤ 60) (e : am_I h 51 22 + Int32.ofInt 1 = nI d) : f_X9_openGroup h = some ((), am_sI (am_sI (am_sI (am_sI (am_sI (am_sI (am_sI h 51 22 (nI d)) 63 d (Int32.ofInt 0)) 64 d (Int32.ofInt 0)) 65 d (bI false)) 60 d (Int32.ofInt 0)) 61 d (Int32.ofInt 0)) 62 d (bI true)) := by
  have v : am_vp (nI d) 61 = true := hp_vp (by omega) (by decide)
  have c : Int32.toNatClampNeg (nI d) = d := nI_clamp (by omega)
  unfold f_X9_openGroup f_X9_newRow
  simp only [hp_I, hp_I', ne_eq, Nat.reduceEqDiff, not_false_eq_true, e, upd_at, v, c, cond_true]
  rfl
theorem fr_62 {b : Nat} {h h' : am_H} (f : fr9 b h h') {k : Nat} (h1 : k ≠ 22) (h2 : k ≠ 23) : am_I h' 51 k = am_I h 51 k := f.2.2.1 k h1 h2
theorem fr_63 {b : Nat} {h h' : am_H} (f : fr9 b h h') : am_I h' 52 = am_I h 52 := f.2.1 52 (by decide) (by decide) (by decide) (by decide) (by decide)
theorem h9_loop (sort : Int32) (hsort : sort = 0 ∨ sort = Int32.ofInt 1) (m : Nat) (r : Nat → Int32) (hm : m ≤ 60) (n : Nat) : ∀ (k i ph : Nat) (h : am_H) (s : GS), am_I h 51 0 = nI m → (∀ j, j < m → am_I h 52 j = r j) → i + k = m → ph ≤ 4 → vl sort r k i ph s.d → (ph = 1 → 1 ≤ i) → (ph = 2 → 2 ≤ i ∧ rd_dig (r (i - 1)) = true) → 4 * s.n + (if ph = 1 then 1 else if ph = 2 then 2 else 0) ≤ i + (if ph = 3 then 1 else if ph = 4 then 1 else 0) → s.d ≤ i → H9 ph h s →
    ∃ h', g_X9_layIdle (n + k + 1) 0 sort (nI i) h = some ((), h') ∧ fr9 8 h h' ∧ am_I h' 51 23 = bI (gRun sort (Int32.ofInt (-1)) r m k i s).idle := by
  intro k
  induction k with
  | zero =>
    intro i ph h s h0 h63 hi hp hv p1 p2 h4 hd g
    have : i = m := by omega
    subst this
    refine ⟨h, ?_, fr9_r 8 h, g.2.1⟩
    show (if am_I h 51 0 ≤ nI i then _ else _) = _
    rw [h0, if_pos (Int32.le_refl _)]
  | succ k ih =>
    intro i ph h s h0 h63 hi hp hv p1 p2 h4 hd g
    obtain ⟨p, e, hst, hv1⟩ := vl_s hv
    have hle := rd_step_le hp hst
    have mm : ¬ nI m ≤ nI i := nI_ge (by omega) (by omega)
    have v0 : am_vp (nI i) 60 = true := hp_vp (by omega) (by decide)
    have c0 : Int32.toNatClampNeg (nI i) = i := nI_clamp (by omega)
    have vd : am_vp (nI s.d) 61 = true := hp_vp (by omega) (by decide)
    have cd : Int32.toNatClampNeg (nI s.d) = s.d := nI_clamp (by omega)
    obtain ⟨g2, g3, gr⟩ := g
    rw [show n + (k + 1) + 1 = (n + k + 1) + 1 from rfl, g_X9_layIdle, gRun_s]
    simp only [h0, if_neg mm, v0, c0, cond_true, h63 i (by omega), hp_1]
    -- what goes on behind one event
    have cont : ∀ (h' : am_H) (s' : GS) (p' : Nat), fr9 8 h h' → p' ≤ 4 → vl sort r k (i + 1) p' s'.d → (p' = 1 → 1 ≤ i + 1) → (p' = 2 → 2 ≤ i + 1 ∧ rd_dig (r (i + 1 - 1)) = true) → 4 * s'.n + (if p' = 1 then 1 else if p' = 2 then 2 else 0) ≤ i + 1 + (if p' = 3 then 1 else if p' = 4 then 1 else 0) → s'.d ≤ i + 1 → H9 p' h' s' → ∃ h2, g_X9_layIdle (n + k + 1) 0 sort (nI (i + 1)) h' = some ((), h2) ∧ fr9 8 h h2 ∧ am_I h2 51 23 = bI (gRun sort (Int32.ofInt (-1)) r m k (i + 1) s').idle := by
      intro h' s' p' f a1 a2 a3 a4 a5 a6 a7
      obtain ⟨h2, b1, b2', b3⟩ := ih (i + 1) p' h' s' (by rw [fr_62 f (by decide) (by decide)]; exact h0) (fun j hj => by rw [fr_63 f]; exact h63 j hj) (by omega) a1 a2 a3 a4 a5 a6 a7
      exact ⟨h2, b1, fr9_t f b2', b3⟩
    -- setting the row's flag
    have seto : ∀ p', (Nat.beq p' 1 || Nat.beq p' 2) = true → (∀ j, j < s.d → am_I h 62 j = bI (s.rN j)) → H9 p' (am_sI h 62 s.d (bI false)) s := by
      intro p' hp' hj0
      refine ⟨by rw [hp_I' _ _ _ (by decide)]; exact g2, by rw [hp_I' _ _ _ (by decide)]; exact g3, fun j hj => ⟨?_, by rw [hp_I' _ _ _ (by decide)]; exact (gr j hj).2⟩⟩
      rw [hp_I, hp', Bool.true_and]
      by_cases c : j = s.d
      · subst c; rw [upd_at, beq_t rfl]; rfl
      · rw [upd_ne c, beq_f c]; exact hj0 j (by omega)
    -- behind an item
    have item3 : rd_it (r i) s.d = some (p, e) → (∀ j, j ≤ s.d → am_I h 62 j = bI (s.rN j) ∧ am_I h 65 j = bI (s.aN j)) → 4 * s.n ≤ i + 1 → ∃ h', (Option.bind ((if r i = (Int32.ofInt 123) then am_b2 (f_X9_openGroup h) fun r195 h196 => (some h196) else (if r i = (Int32.ofInt 43) then am_b2 (f_X9_endRow h) fun r189 h190 => (am_b2 (f_X9_newRow h190) fun r192 h193 => (some h193)) else (if r i = (Int32.ofInt 125) then am_b2 (f_X9_endRow h) fun r18 h19 => (Option.bind ((if (am_I h19 51 0) ≤ nI (i + 1) then some (Int32.ofInt 0) else bif am_vp (nI (i + 1)) 60 then ((if (am_I h19 52 (Int32.toNatClampNeg (nI (i + 1)))) = (Int32.ofInt 42) then some (Int32.ofInt 1) else some (Int32.ofInt 0))) else none)) fun y21 => (bif am_vp (am_I h19 51 22) 61 then (Option.bind ((if (am_I h19 51 23) = 0 then (if y21 = 0 then some (Int32.ofInt 0) else (if (am_I h19 65 (Int32.toNatClampNeg (am_I h19 51 22))) = 0 then some (Int32.ofInt 0) else some (Int32.ofInt 1))) else some (Int32.ofInt 1))) fun y77 => (bif am_b01 y77 then (bif am_vp (am_I (am_sI (am_sI h19 51 23 y77) 51 22 ((am_I (am_sI h19 51 23 y77) 51 22) - (Int32.ofInt 1))) 51 22) 61 then (Option.bind ((if (am_I (am_sI (am_sI h19 51 23 y77) 51 22 ((am_I (am_sI h19 51 23 y77) 51 22) - (Int32.ofInt 1))) 62 (Int32.toNatClampNeg (am_I (am_sI (am_sI h19 51 23 y77) 51 22 ((am_I (am_sI h19 51 23 y77) 51 22) - (Int32.ofInt 1))) 51 22))) = 0 then some (Int32.ofInt 0) else (if (am_I h19 65 (Int32.toNatClampNeg (am_I h19 51 22))) = 0 then (if y21 = 0 then some (Int32.ofInt 0) else some (Int32.ofInt 1)) else some (Int32.ofInt 1)))) fun y134 => (some (am_sI (am_sI (am_sI h19 51 23 y77) 51 22 ((am_I (am_sI h19 51 23 y77) 51 22) - (Int32.ofInt 1))) 62 (Int32.toNatClampNeg (am_I (am_sI (am_sI h19 51 23 y77) 51 22 ((am_I (am_sI h19 51 23 y77) 51 22) - (Int32.ofInt 1))) 51 22)) (vp_nar (am_at 2) y134)))) else none) else none)) else none)) else (if r i = (Int32.ofInt 33) then bif am_vp (am_I h 51 22) 61 then (some (am_sI h 62 (Int32.toNatClampNeg (am_I h 51 22)) (vp_nar (am_at 2) (Int32.ofInt 0)))) else none else (if r i = (Int32.ofInt 63) then bif am_vp (am_I h 51 22) 61 then (some (am_sI h 62 (Int32.toNatClampNeg (am_I h 51 22)) (vp_nar (am_at 2) (Int32.ofInt 0)))) else none else (if sort = (Int32.ofInt 1) then am_b2 (f_X9_isOfficeSign (r i) h) fun r13 h14 => ((if r13 = 0 then some h14 else bif am_vp (am_I h14 51 22) 61 then (some (am_sI h14 62 (Int32.toNatClampNeg (am_I h14 51 22)) (vp_nar (am_at 2) (Int32.ofInt 0)))) else none)) else some h))))))) fun h3 => (g_X9_layIdle (n + k + 1) 0 sort (nI (i + 1)) h3)) = some ((), h') ∧ fr9 8 h h' ∧ am_I h' 51 23 = bI (gRun sort (Int32.ofInt (-1)) r m k (i + 1) (gEv sort (Int32.ofInt (-1)) r m i s)).idle := by
      intro hit gr' h41
      rcases it_x hit with ⟨c, he⟩ | ⟨d0, c, he⟩ | ⟨d0, c, he⟩
      · have hp0 : p = 0 := by
          unfold rd_it at hit; rw [if_pos c] at hit; exact (am_i2 hit).1.symm
        subst hp0; subst he
        rw [ev_skip (by rw [c]; decide) (by rw [c]; decide) (by rw [c]; decide) (by rw [c]; decide)]
        have x : ¬ r i = Int32.ofInt 123 ∧ ¬ r i = Int32.ofInt 43 ∧ ¬ r i = Int32.ofInt 125 ∧ ¬ r i = Int32.ofInt 33 ∧ ¬ r i = Int32.ofInt 63 ∧ rd_dig (r i) = false := by rw [c]; decide
        simp only [if_neg x.1, if_neg x.2.1, if_neg x.2.2.1, if_neg x.2.2.2.1, if_neg x.2.2.2.2.1, rd_d9, x.2.2.2.2.2, b2s, bI_f, o00, if_true, ite_self, b_some]
        exact cont h s 0 (fr9_r 8 h) (by decide) hv1 (by omega) (by omega) (by show 4 * s.n + 0 ≤ i + 1 + 0; omega) (by omega) ⟨g2, g3, gr'⟩
      · have hp0 : p = 0 := by
          unfold rd_it at hit; rw [if_neg (by rw [c]; decide), if_neg d0, if_pos c] at hit; exact (am_i2 hit).1.symm
        subst hp0; subst he
        have ev : gEv sort (Int32.ofInt (-1)) r m i s = gEnd s := by
          unfold gEv
          rw [if_neg (fun q => by rw [c] at q; exact absurd q.1 (by decide)), if_neg (by rw [c]; decide), if_pos c]
        rw [ev]
        have x2 : ¬ r i = Int32.ofInt 123 := by rw [c]; decide
        have en := x9_end (h := h) (show s.d ≤ 60 by omega) g2 (gr' s.d (Nat.le_refl _)).2 (gr' s.d (Nat.le_refl _)).1
        simp only [if_neg x2, if_pos c, en, b2s]
        have g2' : am_I (am_sI (am_sI (am_sI h 63 s.d (am_I h 63 s.d ||| am_I h 60 s.d)) 64 s.d (am_I h 64 s.d ||| am_I h 61 s.d)) 65 s.d (bI (s.aN s.d || s.rN s.d))) 51 22 = nI s.d := by
          simp only [hp_I', ne_eq, Nat.reduceEqDiff, not_false_eq_true]; exact g2
        rw [x9_new (show s.d ≤ 60 by omega) g2', b2s, b_some]
        refine cont _ (gEnd s) 0 ?_ (by decide) hv1 (by omega) (by omega) (by show 4 * s.n + 0 ≤ i + 1 + 0; omega) (by show s.d ≤ _; omega) ⟨?_, ?_, fun j hj => ⟨?_, ?_⟩⟩
        · exact fr9_s (fr9_s (fr9_s (fr9_s (fr9_s (fr9_s (fr9_r 8 h) _ _ (by decide) (by decide)) _ _ (by decide) (by decide)) _ _ (by decide) (by decide)) _ _ (by decide) (by decide)) _ _ (by decide) (by decide)) _ _ (by decide) (by decide)
        · simp only [hp_I', ne_eq, Nat.reduceEqDiff, not_false_eq_true]; exact g2
        · simp only [hp_I', ne_eq, Nat.reduceEqDiff, not_false_eq_true]; exact g3
        · simp only [hp_I, hp_I', ne_eq, Nat.reduceEqDiff, not_false_eq_true]
          exact updBc (g := s.rN) (b := true) (gr' j hj).1
        · simp only [hp_I, hp_I', ne_eq, Nat.reduceEqDiff, not_false_eq_true]
          exact updBc (g := s.aN) (gr' j hj).2
      · have hp0 : p = 4 := by
          unfold rd_it at hit; rw [if_neg (by rw [c]; decide), if_neg d0, if_neg (by rw [c]; decide), if_pos c] at hit; exact (am_i2 hit).1.symm
        subst hp0; subst he
        have ev : gEv sort (Int32.ofInt (-1)) r m i s = gClose (decide (i + 1 < m) && decide (r (i + 1) = Int32.ofInt 42)) s := by
          unfold gEv
          rw [if_neg (fun q => by rw [c] at q; exact absurd q.1 (by decide)), if_neg (by rw [c]; decide), if_neg (by rw [c]; decide), if_pos c, if_neg d0]
        rw [ev]
        have x2 : ¬ r i = Int32.ofInt 123 := by rw [c]; decide
        have x3 : ¬ r i = Int32.ofInt 43 := by rw [c]; decide
        have en := x9_end (h := h) (show s.d ≤ 60 by omega) g2 (gr' s.d (Nat.le_refl _)).2 (gr' s.d (Nat.le_refl _)).1
        have m1 : (nI m ≤ nI (i + 1)) ↔ m ≤ i + 1 := nI_leI (by omega) (by omega)
        simp only [if_neg x2, if_neg x3, if_pos c, en, b2s, hp_I, hp_I', ne_eq, Nat.reduceEqDiff, not_false_eq_true, h0]
        have st : (if nI m ≤ nI (i + 1) then some (Int32.ofInt 0) else bif am_vp (nI (i + 1)) 60 then ((if (am_I h 52 (Int32.toNatClampNeg (nI (i + 1)))) = (Int32.ofInt 42) then some (Int32.ofInt 1) else some (Int32.ofInt 0))) else none) = some (bI (decide (i + 1 < m) && decide (r (i + 1) = Int32.ofInt 42))) := by
          by_cases im : i + 1 < m
          · rw [if_neg (fun q => absurd (m1.mp q) (by omega)), hp_vp (show i + 1 < 60 by omega) (by decide), cond_true, nI_clamp (by omega), h63 (i + 1) im, decide_eq_true im]
            by_cases c42 : r (i + 1) = Int32.ofInt 42
            · rw [if_pos c42, decide_eq_true c42]; rfl
            · rw [if_neg c42, decide_eq_false c42]; rfl
          · rw [if_pos (m1.mpr (by omega)), decide_eq_false im]; rfl
        rw [st, b_some]
        generalize (decide (i + 1 < m) && decide (r (i + 1) = Int32.ofInt 42)) = z
        simp only [g2, g3, vd, cd, cond_true, upd_at]
        have y : (if bI s.idle = 0 then (if bI z = 0 then some (Int32.ofInt 0) else (if bI (s.aN s.d || s.rN s.d) = 0 then some (Int32.ofInt 0) else some (Int32.ofInt 1))) else some (Int32.ofInt 1)) = some (bI (s.idle || (z && (s.aN s.d || s.rN s.d)))) := by
          cases s.idle <;> cases z <;> cases (s.aN s.d || s.rN s.d) <;> rfl
        rw [y, b_some, b01_bI, cond_true]
        have vd1 : am_vp (nI (s.d - 1)) 61 = true := hp_vp (by omega) (by decide)
        have cd1 : Int32.toNatClampNeg (nI (s.d - 1)) = s.d - 1 := nI_clamp (by omega)
        have q1 := (gr' (s.d - 1) (by omega)).1
        rw [show upd (am_I h 51) 23 (bI (s.idle || (z && (s.aN s.d || s.rN s.d)))) 22 = nI s.d from by rw [upd_ne (by decide)]; exact g2]
        simp only [nI_m1 d0, upd_at, vd1, cd1, cond_true, q1]
        have y2 : (if bI (s.rN (s.d - 1)) = 0 then some (Int32.ofInt 0) else (if bI (s.aN s.d || s.rN s.d) = 0 then (if bI z = 0 then some (Int32.ofInt 0) else some (Int32.ofInt 1)) else some (Int32.ofInt 1))) = some (bI (s.rN (s.d - 1) && ((s.aN s.d || s.rN s.d) || z))) := by
          cases s.rN (s.d - 1) <;> cases z <;> cases (s.aN s.d || s.rN s.d) <;> rfl
        rw [y2, b_some, nar2, b_some]
        have cl : (gClose z s).n = s.n ∧ (gClose z s).d = s.d - 1 ∧ (gClose z s).idle = (s.idle || (z && (s.aN s.d || s.rN s.d))) ∧ (gClose z s).aN = updB s.aN s.d (s.aN s.d || s.rN s.d) ∧ (gClose z s).rN = updB (updB s.rN s.d true) (s.d - 1) (updB s.rN s.d true (s.d - 1) && (updB s.aN s.d (s.aN s.d || s.rN s.d) s.d || z)) := by
          cases z
          · refine ⟨rfl, rfl, ?_, rfl, rfl⟩
            show s.idle = _
            rw [Bool.false_and, Bool.or_false]
          · refine ⟨rfl, rfl, ?_, rfl, rfl⟩
            show (s.idle || updB s.aN s.d (s.aN s.d || s.rN s.d) s.d) = _
            unfold updB; rw [if_pos rfl, Bool.true_and]
        refine cont _ (gClose z s) 4 ?_ (by decide) (by rw [cl.2.1]; exact hv1) (by omega) (by omega) (by rw [cl.1]; show 4 * s.n + 0 ≤ i + 1 + 1; omega) (by rw [cl.2.1]; omega) ⟨?_, ?_, fun j hj => ⟨?_, ?_⟩⟩
        · exact fr9_s (fr9_f (fr9_f (fr9_s (fr9_s (fr9_s (fr9_r 8 h) _ _ (by decide) (by decide)) _ _ (by decide) (by decide)) _ _ (by decide) (by decide)) _ (Or.inr rfl)) _ (Or.inl rfl)) _ _ (by decide) (by decide)
        · simp only [hp_I, hp_I', ne_eq, Nat.reduceEqDiff, not_false_eq_true, upd_at]
          rw [cl.2.1]
        · simp only [hp_I, hp_I', ne_eq, Nat.reduceEqDiff, not_false_eq_true]
          rw [upd_ne (by decide), upd_at, cl.2.2.1]
        · rw [cl.2.1] at hj
          simp only [hp_I, hp_I', ne_eq, Nat.reduceEqDiff, not_false_eq_true]
          show _ = bI ((gClose z s).rN j)
          rw [cl.2.2.2.2]
          unfold updB
          rw [if_neg (show ¬ s.d - 1 = s.d by omega), if_pos (rfl : s.d = s.d)]
          by_cases cj : j = s.d - 1
          · subst cj; rw [upd_at, if_pos rfl]
          · rw [upd_ne cj, if_neg cj, if_neg (show ¬ j = s.d by omega)]; exact (gr' j (by omega)).1
        · rw [cl.2.1] at hj
          simp only [hp_I, hp_I', ne_eq, Nat.reduceEqDiff, not_false_eq_true]
          rw [cl.2.2.2.1]
          unfold updB
          rw [upd_ne (show j ≠ s.d by omega), if_neg (show ¬ j = s.d by omega)]; exact (gr' j (by omega)).2
    match ph, hp with
    | 0, _ =>
      have gr' : ∀ j, j ≤ s.d → am_I h 62 j = bI (s.rN j) ∧ am_I h 65 j = bI (s.aN j) := gr
      have hst : (if r i = Int32.ofInt 123 then some (0, s.d + 1) else bif rd_st sort (r i) then some (1, s.d) else none) = some (p, e) := hst
      have h4 : 4 * s.n + 0 ≤ i + 0 := h4
      by_cases c1 : r i = Int32.ofInt 123
      · rw [if_pos c1] at hst
        obtain ⟨rfl, rfl⟩ := am_i2 hst
        have ev : gEv sort (Int32.ofInt (-1)) r m i s = gOpen s := by
          unfold gEv
          rw [if_neg (fun q => by rw [c1] at q; exact absurd q.1 (by decide)), if_pos c1, if_pos (by omega)]
        simp only [if_pos c1, x9_open (h := h) (d := s.d + 1) (by omega) (by rw [g2, hp_1]), b2s, b_some]
        rw [ev]
        refine cont _ (gOpen s) 0 ?_ (by decide) hv1 (by omega) (by omega) (by show 4 * s.n + 0 ≤ i + 1 + 0; omega) (by show s.d + 1 ≤ _; omega) ⟨?_, ?_, fun j hj => ⟨?_, ?_⟩⟩
        · exact fr9_s (fr9_s (fr9_s (fr9_s (fr9_s (fr9_s (fr9_f (fr9_r 8 h) _ (Or.inl rfl)) _ _ (by decide) (by decide)) _ _ (by decide) (by decide)) _ _ (by decide) (by decide)) _ _ (by decide) (by decide)) _ _ (by decide) (by decide)) _ _ (by decide) (by decide)
        · simp only [hp_I, hp_I', ne_eq, Nat.reduceEqDiff, not_false_eq_true, upd_at]; rfl
        · simp only [hp_I, hp_I', ne_eq, Nat.reduceEqDiff, not_false_eq_true]
          rw [upd_ne (by decide)]; exact g3
        · simp only [hp_I, hp_I', ne_eq, Nat.reduceEqDiff, not_false_eq_true]
          have hj : j ≤ s.d + 1 := hj
          show _ = bI (updB s.rN (s.d + 1) true j)
          by_cases c : j = s.d + 1
          · subst c; rw [upd_at]; unfold updB; rw [if_pos rfl]
          · rw [upd_ne c]; unfold updB; rw [if_neg c]; exact (gr' j (by omega)).1
        · simp only [hp_I, hp_I', ne_eq, Nat.reduceEqDiff, not_false_eq_true]
          have hj : j ≤ s.d + 1 := hj
          show _ = bI (updB s.aN (s.d + 1) false j)
          by_cases c : j = s.d + 1
          · subst c; rw [upd_at]; unfold updB; rw [if_pos rfl]
          · rw [upd_ne c]; unfold updB; rw [if_neg c]; exact (gr' j (by omega)).2
      · rw [if_neg c1] at hst
        cases hs : rd_st sort (r i)
        · rw [hs] at hst; cases hst
        · rw [hs] at hst
          obtain ⟨rfl, rfl⟩ := am_i2 (show some (1, s.d) = some (p, e) from hst)
          obtain ⟨x1, x2, x3, x4, x5⟩ := st_x hs
          rw [ev_skip x1 x2 x3 x4]
          have fin := cont (am_sI h 62 s.d (bI false)) s 1 (fr9_s (fr9_r 8 h) _ _ (by decide) (by decide)) (by decide) hv1 (by omega) (by omega) (by show 4 * s.n + 1 ≤ i + 1 + 0; omega) (by omega) (seto 1 rfl (fun j hj => (gr' j (by omega)).1))
          have nf : vp_nar (am_at 2) (Int32.ofInt 0) = bI false := nar2 false
          simp only [if_neg x2, if_neg x3, if_neg x4, g2, vd, cd, cond_true, nf]
          unfold rd_st at hs
          by_cases z : sort = 0
          · rw [decide_eq_true z] at hs
            have hs : rd_mark (r i) = true := hs
            by_cases c33 : r i = Int32.ofInt 33
            · simp only [if_pos c33, b_some]; exact fin
            · have c63 : r i = Int32.ofInt 63 := by
                unfold rd_mark at hs
                rw [decide_eq_false c33] at hs
                exact of_decide_eq_true hs
              simp only [if_neg c33, if_pos c63, b_some]; exact fin
          · rw [decide_eq_false z] at hs
            have hs : rd_dig (r i) = true := hs
            have c33 : ¬ r i = Int32.ofInt 33 := fun q => by rw [q] at hs; exact absurd hs (by decide)
            have c63 : ¬ r i = Int32.ofInt 63 := fun q => by rw [q] at hs; exact absurd hs (by decide)
            simp only [if_neg c33, if_neg c63, if_pos (hsort.resolve_left z), rd_d9, hs, b2s, bI_t, o10, if_false, g2, vd, cd, cond_true, nf, b_some]; exact fin
    | 1, _ =>
      have hst : (bif rd_dig (r i) then (if sort = 0 then some (2, s.d) else if r i = r (i - 1) then none else some (2, s.d)) else none) = some (p, e) := hst
      have h4 : 4 * s.n + 1 ≤ i + 0 := h4
      cases hs : rd_dig (r i)
      · rw [hs] at hst; cases hst
      · rw [hs] at hst
        have hst : (if sort = 0 then some (2, s.d) else if r i = r (i - 1) then none else some (2, s.d)) = some (p, e) := hst
        have pe : p = 2 ∧ e = s.d := by
          split at hst
          · obtain ⟨rfl, rfl⟩ := am_i2 hst; exact ⟨rfl, rfl⟩
          · split at hst
            · cases hst
            · obtain ⟨rfl, rfl⟩ := am_i2 hst; exact ⟨rfl, rfl⟩
        obtain ⟨rfl, rfl⟩ := pe
        obtain ⟨x1, x2, x3, x4, x5⟩ := dig_x hs
        rw [ev_skip x1 x2 x3 x4]
        have c33 : ¬ r i = Int32.ofInt 33 := fun q => by rw [q] at hs; exact absurd hs (by decide)
        have c63 : ¬ r i = Int32.ofInt 63 := fun q => by rw [q] at hs; exact absurd hs (by decide)
        have nf : vp_nar (am_at 2) (Int32.ofInt 0) = bI false := nar2 false
        have lo : ∀ j, j < s.d → am_I h 62 j = bI (s.rN j) := fun j hj => by
          have := (gr j (by omega)).1
          rw [beq_f (show j ≠ s.d by omega), Bool.and_false] at this; exact this
        simp only [if_neg x2, if_neg x3, if_neg x4, if_neg c33, if_neg c63]
        by_cases z : sort = Int32.ofInt 1
        · simp only [if_pos z, rd_d9, hs, b2s, bI_t, o10, if_false, g2, vd, cd, cond_true, nf, b_some]
          exact cont _ s 2 (fr9_s (fr9_r 8 h) _ _ (by decide) (by decide)) (by decide) hv1 (by omega) (fun _ => ⟨by omega, by rw [show i + 1 - 1 = i from by omega]; exact hs⟩) (by show 4 * s.n + 2 ≤ i + 1 + 0; omega) (by omega) (seto 2 rfl lo)
        · simp only [if_neg z, b_some]
          exact cont h s 2 (fr9_r 8 h) (by decide) hv1 (by omega) (fun _ => ⟨by omega, by rw [show i + 1 - 1 = i from by omega]; exact hs⟩) (by show 4 * s.n + 2 ≤ i + 1 + 0; omega) (by omega) (h9_ph (ph := 1) rfl ⟨g2, g3, gr⟩)
    | 2, _ =>
      have hst : (bif rd_let (r i) then some (3, s.d) else none) = some (p, e) := hst
      have h4 : 4 * s.n + 2 ≤ i + 0 := h4
      obtain ⟨i2, hdg⟩ := p2 rfl
      cases hs : rd_let (r i)
      · rw [hs] at hst; cases hst
      · rw [hs] at hst
        obtain ⟨rfl, rfl⟩ := am_i2 (show some (3, s.d) = some (p, e) from hst)
        have x : ¬ r i = Int32.ofInt 123 ∧ ¬ r i = Int32.ofInt 43 ∧ ¬ r i = Int32.ofInt 125 ∧ ¬ r i = Int32.ofInt 33 ∧ ¬ r i = Int32.ofInt 63 ∧ rd_dig (r i) = false := by
          rcases let_cases hs with c | c | c | c <;> rw [c] <;> decide
        have nm : ¬ cd_of sort (Int32.ofInt (-1)) r (i - 2) = Int32.ofInt (-1) := by
          have e1 : i - 2 + 1 = i - 1 := by omega
          have e2 : i - 2 + 2 = i := by omega
          by_cases z : sort = 0
          · exact cd_ne0 z (by rw [e1]; exact hdg) (by rw [e2]; exact hs)
          · unfold cd_of cd_part
            rw [if_neg z, if_pos rfl, e1, e2]
            exact (cd_ne hdg hs).1
        have ev : gEv sort (Int32.ofInt (-1)) r m i s = gAct (cd_of sort (Int32.ofInt (-1)) r (i - 2)) s := by
          unfold gEv
          rw [if_pos ⟨hs, i2⟩, if_neg nm, if_pos (by omega)]
        rw [ev]
        have H : H9 3 h (gAct (cd_of sort (Int32.ofInt (-1)) r (i - 2)) s) := by
          refine ⟨g2, g3, fun j hj => ⟨?_, (gr j hj).2⟩⟩
          have q := (gr j hj).1
          show _ = bI (updB s.rN s.d (s.rN s.d && false) j)
          rw [q]
          unfold updB
          by_cases c : j = s.d
          · rw [if_pos c, c, beq_t (rfl : s.d = s.d), Bool.and_false]; rfl
          · rw [if_neg c, beq_f c]; rfl
        simp only [if_neg x.1, if_neg x.2.1, if_neg x.2.2.1, if_neg x.2.2.2.1, if_neg x.2.2.2.2.1, rd_d9, x.2.2.2.2.2, b2s, bI_f, o00, if_true, ite_self, b_some]
        exact cont h _ 3 (fr9_r 8 h) (by decide) hv1 (by omega) (by omega) (by show 4 * (s.n + 1) + 0 ≤ i + 1 + 1; omega) (by show s.d ≤ _; omega) H
    | 3, _ =>
      exact item3 (show rd_it (r i) s.d = some (p, e) from hst) gr (by have h4 : 4 * s.n + 0 ≤ i + 1 := h4; omega)
    | 4, _ =>
      have hst : (if r i = Int32.ofInt 42 then some (3, s.d) else rd_it (r i) s.d) = some (p, e) := hst
      have h4 : 4 * s.n + 0 ≤ i + 1 := h4
      by_cases c : r i = Int32.ofInt 42
      · rw [if_pos c] at hst
        obtain ⟨rfl, rfl⟩ := am_i2 hst
        rw [ev_skip (by rw [c]; decide) (by rw [c]; decide) (by rw [c]; decide) (by rw [c]; decide)]
        have x : ¬ r i = Int32.ofInt 123 ∧ ¬ r i = Int32.ofInt 43 ∧ ¬ r i = Int32.ofInt 125 ∧ ¬ r i = Int32.ofInt 33 ∧ ¬ r i = Int32.ofInt 63 ∧ rd_dig (r i) = false := by rw [c]; decide
        simp only [if_neg x.1, if_neg x.2.1, if_neg x.2.2.1, if_neg x.2.2.2.1, if_neg x.2.2.2.2.1, rd_d9, x.2.2.2.2.2, b2s, bI_f, o00, if_true, ite_self, b_some]
        exact cont h s 3 (fr9_r 8 h) (by decide) hv1 (by omega) (by omega) (by show 4 * s.n + 0 ≤ i + 1 + 1; omega) (by omega) (h9_ph (ph := 4) rfl ⟨g2, g3, gr⟩)
      · rw [if_neg c] at hst
        exact item3 hst gr (by omega)
