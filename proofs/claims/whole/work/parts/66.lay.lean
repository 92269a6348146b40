/-! ===== gathering: the reference's loop ===== -/
def vl (sort : Int32) (r : Nat → Int32) (k i ph d : Nat) : Prop := rd_whole (rd_run sort r k i ph d).2 = true
theorem vl_s {sort : Int32} {r : Nat → Int32} {k i ph d : Nat} (h : vl sort r (k + 1) i ph d) : ∃ p e, rd_step sort (r (i - 1)) (r i) ph d = some (p, e) ∧ vl sort r k (i + 1) p e := by
  unfold vl rd_run at h
  cases es : rd_step sort (r (i - 1)) (r i) ph d with
  | none => rw [es] at h; cases h
  | some x =>
    obtain ⟨p, e⟩ := x
    rw [es] at h
    exact ⟨p, e, rfl, h⟩
theorem vl_0 {sort : Int32} {r : Nat → Int32} {i ph d : Nat} (h : vl sort r 0 i ph d) : 2 < ph ∧ d = 0 := by
  have h : (Nat.blt 2 ph && Nat.beq d 0) = true := h
  rw [Bool.and_eq_true] at h
  exact ⟨Nat.le_of_ble_eq_true h.1, Nat.eq_of_beq_eq_true h.2⟩
theorem g9_cl {b : Nat} (hb : b < 8) {h h79 : am_H} {s : GS} (g : G9 b h79 (gEnd0 s)) (fr : fr9 b h h79) (hd : s.d ≤ 60) (h0 : s.d ≠ 0) (hg : GI s) (F : Nat) (hF : 20 ≤ F) (star : Bool) (i : Nat) :
    ∃ h', (bif am_vp (am_I h79 51 22) 61 then (Option.bind ((if (am_I h79 51 23) = 0 then (if bI star = 0 then some (Int32.ofInt 0) else (if (am_I h79 65 (Int32.toNatClampNeg (am_I h79 51 22))) = 0 then some (Int32.ofInt 0) else some (Int32.ofInt 1))) else some (Int32.ofInt 1))) fun y137 => (bif am_b01 y137 then (Option.bind ((if bI star = 0 then some (am_sI h79 51 23 y137) else am_b2 (f_X9_join F (nI b) (am_I h79 64 (Int32.toNatClampNeg (am_I h79 51 22))) (am_I h79 63 (Int32.toNatClampNeg (am_I h79 51 22))) (am_sI h79 51 23 y137)) fun r196 h197 => (some h197))) fun h193 => (Option.bind ((if (am_I h79 65 (Int32.toNatClampNeg (am_I h79 51 22))) = 0 then (if bI star = 0 then some (Int32.ofInt 0) else some (Int32.ofInt 1)) else some (Int32.ofInt 1))) fun y249 => (am_b2 (f_X9_item F (nI b) (am_I h79 63 (Int32.toNatClampNeg (am_I h79 51 22))) (am_I h79 64 (Int32.toNatClampNeg (am_I h79 51 22))) y249 (am_sI h193 51 22 ((am_I h193 51 22) - (Int32.ofInt 1)))) fun r303 h304 => (Option.bind ((if bI star = 0 then some (Int32.ofInt 1) else some (Int32.ofInt 2))) fun y306 => (some ((nI i + y306), h304)))))) else none)) else none) = some (nI (i + (bif star then 2 else 1)), h') ∧ G9 b h' (gClose star s) ∧ fr9 b h h' := by
  have v : am_vp (nI s.d) 61 = true := hp_vp (by omega) (by decide)
  have c : Int32.toNatClampNeg (nI s.d) = s.d := nI_clamp (by omega)
  have q2 : am_I h79 51 22 = nI s.d := g.2.1
  have q0 : am_I h79 51 23 = bI s.idle := g.2.2.1
  obtain ⟨-, -, -, p9, p10, p11⟩ := g.2.2.2.2.2 s.d (Nat.le_refl _)
  have gE := GI_end hg
  have hl : ∀ p, bt ((gEnd s).aL s.d) p = true → p ≤ s.n := fun p hp => (gE s.d (Nat.le_refl _) p).2 hp
  have p9 : am_I h79 63 s.d = (gEnd s).aF s.d := p9
  have p10 : am_I h79 64 s.d = (gEnd s).aL s.d := p10
  have p11 : am_I h79 65 s.d = bI ((gEnd s).aN s.d) := p11
  have rl : ∀ p, p < 16 → bt ((gDep (s.d - 1) (gEnd s)).rL (s.d - 1)) p = true → p ≤ s.n := fun p _ hp => (gE (s.d - 1) (show s.d - 1 ≤ s.d by omega) p).1 hp
  simp only [q2, q0, v, c, cond_true, p9, p10, p11]
  cases star
  · have D : G9 b (am_sI h79 51 22 (nI (s.d - 1))) (gDep (s.d - 1) (gEnd s)) := g9_dep g (show s.d - 1 < s.d by omega) rfl
    obtain ⟨h', e, g', f'⟩ := g9_item hb D (show s.d - 1 ≤ 60 by omega) F hF ((gEnd s).aF s.d) ((gEnd s).aL s.d) ((gEnd s).aN s.d || false) rl
    refine ⟨h', ?_, g', fr9_t (fr9_f fr _ (Or.inl rfl)) f'⟩
    have y : (if bI s.idle = 0 then some (Int32.ofInt 0) else some (Int32.ofInt 1)) = some (bI s.idle) := by cases s.idle <;> rfl
    have y2 : (if bI ((gEnd s).aN s.d) = 0 then some (Int32.ofInt 0) else some (Int32.ofInt 1)) = some (bI ((gEnd s).aN s.d || false)) := by cases (gEnd s).aN s.d <;> rfl
    simp only [bI_f, o00, if_true]
    rw [y, b_some, b01_bI, cond_true, ← q0, hp_sI_id, b_some, y2, b_some, q2, nI_m1 h0, e, b2s, b_some, hp_1]; rfl
  · have I := g9_idle g ((gEnd s).aN s.d)
    obtain ⟨h3, e3, G3, F3⟩ := g9_join hb I F hF ((gEnd s).aL s.d) ((gEnd s).aF s.d) (fun p _ hp => hl p hp)
    have q3 : am_I h3 51 22 = nI s.d := G3.2.1
    have D : G9 b (am_sI h3 51 22 (nI (s.d - 1))) (gJoin ((gEnd s).aL s.d) ((gEnd s).aF s.d) (gIdle ((gEnd s).aN s.d) (gDep (s.d - 1) (gEnd s)))) := g9_dep G3 (show s.d - 1 < s.d by omega) rfl
    obtain ⟨h', e, g', f'⟩ := g9_item hb D (show s.d - 1 ≤ 60 by omega) F hF ((gEnd s).aF s.d) ((gEnd s).aL s.d) ((gEnd s).aN s.d || true) rl
    refine ⟨h', ?_, g', fr9_t (fr9_f (fr9_t (fr9_f fr _ (Or.inr rfl)) F3) _ (Or.inl rfl)) f'⟩
    have y : (if bI s.idle = 0 then (if bI ((gEnd s).aN s.d) = 0 then some (Int32.ofInt 0) else some (Int32.ofInt 1)) else some (Int32.ofInt 1)) = some (bI (s.idle || (gEnd s).aN s.d)) := by cases s.idle <;> cases (gEnd s).aN s.d <;> rfl
    simp only [bI_t, o10, if_false]
    rw [y, b_some, b01_bI, cond_true, show f_X9_join F (nI b) ((gEnd s).aL s.d) ((gEnd s).aF s.d) (am_sI h79 51 23 (bI (s.idle || (gEnd s).aN s.d))) = _ from e3, b2s, b_some, ite_self, b_some, q3, nI_m1 h0]
    rw [Bool.or_true] at e
    rw [show f_X9_item F (nI b) ((gEnd s).aF s.d) ((gEnd s).aL s.d) (Int32.ofInt 1) (am_sI h3 51 22 (nI (s.d - 1))) = _ from e, b2s, b_some, show nI i + Int32.ofInt 2 = nI (i + 2) from nI_add i 2]; rfl
/-- a text that the reference reads: the page, or a one's -/
def tx9 (h : am_H) (src : Int32) (m : Nat) (r : Nat → Int32) : Prop := m ≤ 60 ∧ ((src = Int32.ofInt (-1) ∧ ∀ j, j < m → am_I h 52 j = r j) ∨ ∃ q, q < 3 ∧ src = nI q ∧ ∀ j, j < m → am_I h 56 (60 * q + j) = r j)
theorem tx9_fr {b : Nat} {h h' : am_H} {src : Int32} {m : Nat} {r : Nat → Int32} (t : tx9 h src m r) (f : fr9 b h h') : tx9 h' src m r := by
  obtain ⟨hm, t⟩ := t
  refine ⟨hm, ?_⟩
  rcases t with ⟨a, t⟩ | ⟨q, a, c, t⟩
  · exact Or.inl ⟨a, fun j hj => by rw [f.2.1 52 (by decide) (by decide) (by decide) (by decide) (by decide)]; exact t j hj⟩
  · exact Or.inr ⟨q, a, c, fun j hj => by rw [f.2.1 56 (by decide) (by decide) (by decide) (by decide) (by decide)]; exact t j hj⟩
theorem sg9 {h : am_H} {src : Int32} {m : Nat} {r : Nat → Int32} (t : tx9 h src m r) {j : Nat} (hj : j < m) : f_X9_signAt src (nI j) h = some (r j, h) := by
  obtain ⟨hm, t⟩ := t
  unfold f_X9_signAt
  rcases t with ⟨a, t⟩ | ⟨q, a, c, t⟩
  · rw [if_pos a, hp_vp (by omega) (by decide), cond_true, b_some, nI_clamp (by omega), t j hj]
  · have n1 : ¬ src = Int32.ofInt (-1) := by
      rw [c]
      have : ∀ q, q < 3 → ¬ nI q = Int32.ofInt (-1) := by decide
      exact this q a
    have e : ((Int32.ofInt 60) * src) + nI j = nI (60 * q + j) := by rw [c, show Int32.ofInt 60 = nI 60 from rfl, nI_mul, nI_add]
    rw [if_neg n1, e, hp_vp (by omega) (by decide), cond_true, b_some, nI_clamp (by omega), t j hj]
theorem ev_skip {sort o : Int32} {r : Nat → Int32} {m i : Nat} {s : GS} (h1 : rd_let (r i) = false) (h2 : ¬ r i = Int32.ofInt 123) (h3 : ¬ r i = Int32.ofInt 43) (h4 : ¬ r i = Int32.ofInt 125) : gEv sort o r m i s = s := by
  unfold gEv
  rw [if_neg (fun q => by rw [h1] at q; exact absurd q.1 (by decide)), if_neg h2, if_neg h3, if_neg h4]
theorem dig_x {c : Int32} (h : rd_dig c = true) : rd_let c = false ∧ ¬ c = Int32.ofInt 123 ∧ ¬ c = Int32.ofInt 43 ∧ ¬ c = Int32.ofInt 125 ∧ ¬ c = Int32.ofInt 59 := by
  rcases dig_cases h with rfl | rfl | rfl <;> decide
theorem st_x {sort c : Int32} (h : rd_st sort c = true) : rd_let c = false ∧ ¬ c = Int32.ofInt 123 ∧ ¬ c = Int32.ofInt 43 ∧ ¬ c = Int32.ofInt 125 ∧ ¬ c = Int32.ofInt 59 := by
  unfold rd_st at h
  by_cases hs : sort = 0
  · rw [decide_eq_true hs] at h
    have h : rd_mark c = true := h
    unfold rd_mark at h
    rcases Bool.or_eq_true_iff.mp h with h | h
    · rw [of_decide_eq_true h]; decide
    · rw [of_decide_eq_true h]; decide
  · rw [decide_eq_false hs] at h
    exact dig_x h
