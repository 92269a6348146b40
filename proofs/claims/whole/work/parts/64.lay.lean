/-! ===== gathering: masks; the reference's braces and acts ===== -/
def GI (s : GS) : Prop := ∀ j, j ≤ s.d → ∀ p, (bt (s.rL j) p = true → p ≤ s.n) ∧ (bt (s.aL j) p = true → p ≤ s.n)
theorem bt_bit {n p : Nat} (hn : n < 16) (h : bt (gBit n) p = true) : p = n := by
  by_cases hp : p < 32
  · unfold gBit at h
    rw [bt_one n hn p hp] at h
    exact of_decide_eq_true h
  · rw [bt_hi _ (by omega)] at h; cases h
theorem GI_0 : GI g00 := by
  intro j _ p
  exact ⟨fun h => (by rw [show g00.rL j = Int32.ofInt 0 from rfl, bt_0] at h; cases h), fun h => (by rw [show g00.aL j = Int32.ofInt 0 from rfl, bt_0] at h; cases h)⟩
theorem upd_at (f : Nat → Int32) (d : Nat) (x : Int32) : upd f d x d = x := by unfold upd; rw [if_pos rfl]
theorem upd_ne {f : Nat → Int32} {d j : Nat} {x : Int32} (h : j ≠ d) : upd f d x j = f j := by unfold upd; rw [if_neg h]
theorem GI_open {s : GS} (g : GI s) : GI (gOpen s) := by
  intro j hj p
  have hj : j ≤ s.d + 1 := hj
  have e1 : (gOpen s).rL j = upd s.rL (s.d + 1) (Int32.ofInt 0) j := rfl
  have e2 : (gOpen s).aL j = upd s.aL (s.d + 1) (Int32.ofInt 0) j := rfl
  rw [e1, e2]
  by_cases e : j = s.d + 1
  · subst e
    rw [upd_at, upd_at, bt_0]
    exact ⟨fun h => (by cases h), fun h => (by cases h)⟩
  · rw [upd_ne e, upd_ne e]
    exact g j (by omega) p
theorem GI_end {s : GS} (g : GI s) : GI (gEnd s) := by
  intro j hj p
  have hj : j ≤ s.d := hj
  have e1 : (gEnd s).rL j = upd s.rL s.d (Int32.ofInt 0) j := rfl
  have e2 : (gEnd s).aL j = upd s.aL s.d (s.aL s.d ||| s.rL s.d) j := rfl
  rw [e1, e2]
  by_cases e : j = s.d
  · subst e
    rw [upd_at, upd_at, bt_0, bt_or]
    refine ⟨fun h => (by cases h), fun h => ?_⟩
    rcases Bool.or_eq_true_iff.mp h with h | h
    · exact (g s.d (Nat.le_refl _) p).2 h
    · exact (g s.d (Nat.le_refl _) p).1 h
  · rw [upd_ne e, upd_ne e]
    exact g j hj p
theorem GI_item {s : GS} (g : GI s) (f l : Int32) (i : Bool) (hl : ∀ p, bt l p = true → p ≤ s.n) : GI (gItem f l i s) := by
  intro j hj p
  have hj : j ≤ s.d := hj
  have e1 : (gItem f l i s).rL j = upd s.rL s.d (bif i then s.rL s.d ||| l else l) j := rfl
  have e2 : (gItem f l i s).aL j = s.aL j := rfl
  rw [e1, e2]
  by_cases e : j = s.d
  · subst e
    rw [upd_at]
    refine ⟨fun h => ?_, (g s.d (Nat.le_refl _) p).2⟩
    cases i
    · exact hl p h
    · have h : bt (s.rL s.d ||| l) p = true := h
      rw [bt_or] at h
      rcases Bool.or_eq_true_iff.mp h with h | h
      · exact (g s.d (Nat.le_refl _) p).1 h
      · exact hl p h
  · rw [upd_ne e]
    exact g j hj p
theorem GI_new {s : GS} (g : GI s) (c : Int32) : GI (gNew c s) := fun j hj p => ⟨fun h => Nat.le_succ_of_le ((g j hj p).1 h), fun h => Nat.le_succ_of_le ((g j hj p).2 h)⟩
theorem GI_act {s : GS} (g : GI s) (c : Int32) (hn : s.n < 15) : GI (gAct c s) := GI_item (GI_new g c) _ _ _ (fun p h => by have := bt_bit (n := s.n + 1) (by omega) h; show p ≤ s.n + 1; omega)
theorem GI_dep {s : GS} (g : GI s) {d : Nat} (hd : d ≤ s.d) : GI (gDep d s) := fun j hj p => g j (Nat.le_trans hj hd) p
theorem GI_close {s : GS} (g : GI s) (star : Bool) : GI (gClose star s) := by
  have e := GI_end g
  have k : GI (gDep (s.d - 1) (gEnd s)) := GI_dep e (show s.d - 1 ≤ s.d from Nat.sub_le _ _)
  have hl : ∀ p, bt ((gEnd s).aL s.d) p = true → p ≤ s.n := fun p h => (e s.d (Nat.le_refl _) p).2 h
  cases star
  · exact GI_item k _ _ _ hl
  · exact GI_item (s := gJoin ((gEnd s).aL s.d) ((gEnd s).aF s.d) (gIdle ((gEnd s).aN s.d) (gDep (s.d - 1) (gEnd s)))) (fun j hj p => k j hj p) _ _ _ hl
theorem g9_open {b : Nat} {h : am_H} {s : GS} (g : G9 b h s) (hd : s.d < 60) : ∃ h', f_X9_openGroup h = some ((), h') ∧ G9 b h' (gOpen s) ∧ fr9 b h h' := by
  obtain ⟨g3, g2, g0, gc, gf, gr⟩ := g
  have v : am_vp (nI (s.d + 1)) 61 = true := hp_vp (by omega) (by decide)
  have c : Int32.toNatClampNeg (nI (s.d + 1)) = s.d + 1 := nI_clamp (by omega)
  have u2 : upd (am_I h 51) 22 (nI (s.d + 1)) 22 = nI (s.d + 1) := upd_at _ _ _
  refine ⟨am_sI (am_sI (am_sI (am_sI (am_sI (am_sI (am_sI h 51 22 (nI (s.d + 1))) 63 (s.d + 1) (Int32.ofInt 0)) 64 (s.d + 1) (Int32.ofInt 0)) 65 (s.d + 1) (bI false)) 60 (s.d + 1) (Int32.ofInt 0)) 61 (s.d + 1) (Int32.ofInt 0)) 62 (s.d + 1) (bI true), ?_, ⟨?_, ?_, ?_, ?_, ?_, ?_⟩, ?_⟩
  · unfold f_X9_openGroup f_X9_newRow
    simp only [hp_I, hp_I', ne_eq, Nat.reduceEqDiff, not_false_eq_true, g2, hp_1, u2, v, c, cond_true]
    rfl
  · simp only [hp_I, hp_I', ne_eq, Nat.reduceEqDiff, not_false_eq_true]; exact g3
  · simp only [hp_I, hp_I', ne_eq, Nat.reduceEqDiff, not_false_eq_true]; exact u2
  · simp only [hp_I, hp_I', ne_eq, Nat.reduceEqDiff, not_false_eq_true]; exact g0
  · intro j a b
    simp only [hp_I', ne_eq, Nat.reduceEqDiff, not_false_eq_true]; exact gc j a b
  · intro j a
    simp only [hp_I', ne_eq, Nat.reduceEqDiff, not_false_eq_true]; exact gf j a
  · intro j a
    have a : j ≤ s.d + 1 := a
    simp only [hp_I, hp_I', ne_eq, Nat.reduceEqDiff, not_false_eq_true]
    show _ = upd s.rF (s.d + 1) (Int32.ofInt 0) j ∧ _ = upd s.rL (s.d + 1) (Int32.ofInt 0) j ∧ _ = bI (updB s.rN (s.d + 1) true j) ∧ _ = upd s.aF (s.d + 1) (Int32.ofInt 0) j ∧ _ = upd s.aL (s.d + 1) (Int32.ofInt 0) j ∧ _ = bI (updB s.aN (s.d + 1) false j)
    by_cases e : j = s.d + 1
    · subst e
      unfold upd updB
      simp
    · obtain ⟨r6, r7, r8, r9, r10, r11⟩ := gr j (by omega)
      exact ⟨updc r6, updc r7, updBc r8, updc r9, updc r10, updBc r11⟩
  · exact fr9_s (fr9_s (fr9_s (fr9_s (fr9_s (fr9_s (fr9_f (fr9_r b h) _ (Or.inl rfl)) _ _ (by decide) (by decide)) _ _ (by decide) (by decide)) _ _ (by decide) (by decide)) _ _ (by decide) (by decide)) _ _ (by decide) (by decide)) _ _ (by decide) (by decide)
theorem g9_plus {b : Nat} {h : am_H} {s : GS} (g : G9 b h s) (hd : s.d ≤ 60) : ∃ h1 h', f_X9_endRow h = some ((), h1) ∧ f_X9_newRow h1 = some ((), h') ∧ G9 b h' (gEnd s) ∧ fr9 b h h' := by
  obtain ⟨h1, e1, g1, f1⟩ := g9_end0 g hd
  obtain ⟨h2, e2, g2, f2⟩ := g9_new g1 hd
  exact ⟨h1, h2, e1, e2, g2, fr9_t f1 f2⟩
/-- a field of depth set back -/
theorem g9_dep {b : Nat} {h : am_H} {s t : GS} (g : G9 b h s) {d : Nat} (hd : d < s.d) (ht : t = gDep d (gStart s)) : G9 b (am_sI h 51 22 (nI d)) t := by
  obtain ⟨g3, g2, g0, gc, gf, gr⟩ := g
  subst ht
  refine ⟨?_, ?_, ?_, ?_, ?_, ?_⟩
  · rw [hp_I' _ _ _ (by decide)]; exact g3
  · rw [hp_I, upd_at]; rfl
  · rw [hp_I, upd_ne (by decide)]; exact g0
  · intro j a b
    rw [hp_I' _ _ _ (by decide)]; exact gc j a b
  · intro j a
    rw [hp_I' _ _ _ (by decide)]; exact gf j a
  · intro j a
    have a : j ≤ d := a
    obtain ⟨r6, r7, r8, r9, r10, r11⟩ := gr j (by omega)
    simp only [hp_I', ne_eq, Nat.reduceEqDiff, not_false_eq_true]
    show _ = upd s.rF s.d (Int32.ofInt 0) j ∧ _ = upd s.rL s.d (Int32.ofInt 0) j ∧ _ = bI (updB s.rN s.d true j) ∧ _
    rw [upd_ne (by omega), upd_ne (by omega), show updB s.rN s.d true j = s.rN j from by unfold updB; rw [if_neg (by omega)]]
    exact ⟨r6, r7, r8, r9, r10, r11⟩
theorem g9_idle {b : Nat} {h : am_H} {s : GS} (g : G9 b h s) (x : Bool) : G9 b (am_sI h 51 23 (bI (s.idle || x))) (gIdle x s) := by
  obtain ⟨g3, g2, g0, gc, gf, gr⟩ := g
  refine ⟨?_, ?_, ?_, ?_, ?_, ?_⟩
  · rw [hp_I' _ _ _ (by decide)]; exact g3
  · rw [hp_I, upd_ne (by decide)]; exact g2
  · rw [hp_I, upd_at]; rfl
  · intro j a b
    rw [hp_I' _ _ _ (by decide)]; exact gc j a b
  · intro j a
    rw [hp_I' _ _ _ (by decide)]; exact gf j a
  · intro j a
    obtain ⟨r6, r7, r8, r9, r10, r11⟩ := gr j a
    simp only [hp_I', ne_eq, Nat.reduceEqDiff, not_false_eq_true]
    exact ⟨r6, r7, r8, r9, r10, r11⟩
