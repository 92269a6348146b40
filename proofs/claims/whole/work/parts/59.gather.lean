/-! ===== gathering: braces, texts, the class's loop ===== -/
theorem g8_dep {h : am_H} {s : GS} (g : G8 h s) {d : Nat} (hd : d ≤ s.d) : G8 (am_sI h 3 2 (nI d)) (gDep d s) := by
  obtain ⟨g3, g2, g0, gc, gf, gr⟩ := g
  refine ⟨?_, ?_, ?_, ?_, ?_, ?_⟩
  · rw [hp_I]; exact g3
  · rw [hp_I]; rfl
  · rw [hp_I]; exact g0
  · intro j a b
    rw [hp_I' _ _ _ (by decide)]; exact gc j a b
  · intro j a
    rw [hp_I' _ _ _ (by decide)]; exact gf j a
  · intro j a
    obtain ⟨r6, r7, r8, r9, r10, r11⟩ := gr j (Nat.le_trans a hd)
    simp only [hp_I', ne_eq, Nat.reduceEqDiff, not_false_eq_true]
    exact ⟨r6, r7, r8, r9, r10, r11⟩
theorem g8_open {h : am_H} {s : GS} (g : G8 h s) (hd : s.d < 60) : ∃ h', f_X5_openBraces (am_sI h 3 2 (nI (s.d + 1))) = some ((), h') ∧ G8 h' (gOpen s) ∧ fr8 h h' := by
  obtain ⟨g3, g2, g0, gc, gf, gr⟩ := g
  have v : am_vp (nI (s.d + 1)) 61 = true := hp_vp (by omega) (by decide)
  have c : Int32.toNatClampNeg (nI (s.d + 1)) = s.d + 1 := nI_clamp (by omega)
  have u2 : upd (am_I h 3) 2 (nI (s.d + 1)) 2 = nI (s.d + 1) := rfl
  refine ⟨am_sI (am_sI (am_sI (am_sI (am_sI (am_sI (am_sI h 3 2 (nI (s.d + 1))) 9 (s.d + 1) (Int32.ofInt 0)) 10 (s.d + 1) (Int32.ofInt 0)) 11 (s.d + 1) (bI false)) 6 (s.d + 1) (Int32.ofInt 0)) 7 (s.d + 1) (Int32.ofInt 0)) 8 (s.d + 1) (bI true), ?_, ⟨?_, ?_, ?_, ?_, ?_, ?_⟩, ?_⟩
  · unfold f_X5_openBraces f_X5_startRow
    simp only [hp_I, hp_I', ne_eq, Nat.reduceEqDiff, not_false_eq_true, u2, v, c, cond_true]
    rfl
  · simp only [hp_I, hp_I', ne_eq, Nat.reduceEqDiff, not_false_eq_true]; exact g3
  · simp only [hp_I, hp_I', ne_eq, Nat.reduceEqDiff, not_false_eq_true]; exact u2
  · simp only [hp_I, hp_I', ne_eq, Nat.reduceEqDiff, not_false_eq_true]; exact g0
  · intro j a b
    simp only [hp_I', ne_eq, Nat.reduceEqDiff, not_false_eq_true]; exact gc j a b
  · intro j a
    simp only [hp_I', ne_eq, Nat.reduceEqDiff, not_false_eq_true]; exact gf j a
  · intro j a
    have a : j ≤ s.d + 1 := a
    simp only [hp_I, hp_I', ne_eq, Nat.reduceEqDiff, not_false_eq_true]
    show _ = upd s.rF (s.d + 1) (Int32.ofInt 0) j ∧ _ = upd s.rL (s.d + 1) (Int32.ofInt 0) j ∧ _ = bI (updB s.rN (s.d + 1) true j) ∧ _ = upd s.aF (s.d + 1) (Int32.ofInt 0) j ∧ _ = upd s.aL (s.d + 1) (Int32.ofInt 0) j ∧ _ = bI (updB s.aN (s.d + 1) false j)
    by_cases e : j = s.d + 1
    · subst e
      unfold upd updB
      simp
    · obtain ⟨r6, r7, r8, r9, r10, r11⟩ := gr j (by omega)
      exact ⟨updc r6, updc r7, updBc r8, updc r9, updc r10, updBc r11⟩
  · exact fr8_s (fr8_s (fr8_s (fr8_s (fr8_s (fr8_s (fr8_s (fr8_r h) _ _ (by decide) (by decide)) _ _ (by decide) (by decide)) _ _ (by decide) (by decide)) _ _ (by decide) (by decide)) _ _ (by decide) (by decide)) _ _ (by decide) (by decide)) _ _ (by decide) (by decide)
theorem g8_idle {h : am_H} {s : GS} (g : G8 h s) (b : Bool) : G8 (am_sI h 3 0 (bI (s.idle || b))) (gIdle b s) := by
  obtain ⟨g3, g2, g0, gc, gf, gr⟩ := g
  refine ⟨?_, ?_, ?_, ?_, ?_, ?_⟩
  · rw [hp_I]; exact g3
  · rw [hp_I]; exact g2
  · rw [hp_I]; rfl
  · intro j a b
    rw [hp_I' _ _ _ (by decide)]; exact gc j a b
  · intro j a
    rw [hp_I' _ _ _ (by decide)]; exact gf j a
  · intro j a
    obtain ⟨r6, r7, r8, r9, r10, r11⟩ := gr j a
    simp only [hp_I', ne_eq, Nat.reduceEqDiff, not_false_eq_true]
    exact ⟨r6, r7, r8, r9, r10, r11⟩
theorem g8_close {h : am_H} {s : GS} (g : G8 h s) (hn : s.n ≤ 15) (hd : s.d ≤ 60) (h0 : s.d ≠ 0) (F : Nat) (hF : 20 ≤ F) (star : Bool) : ∃ h', f_X5_closeBraces F (bI star) h = some ((), h') ∧ G8 h' (gClose star s) ∧ fr8 h h' := by
  have v : am_vp (nI s.d) 61 = true := hp_vp (by omega) (by decide)
  have c : Int32.toNatClampNeg (nI s.d) = s.d := nI_clamp (by omega)
  obtain ⟨h2, e2, G2, F2⟩ := g8_end g hd
  have q2 : am_I h2 3 2 = nI s.d := G2.2.1
  have q0 : am_I h2 3 0 = bI (gEnd s).idle := G2.2.2.1
  obtain ⟨-, -, -, p9, p10, p11⟩ := G2.2.2.2.2.2 s.d (Nat.le_refl _)
  have D : G8 (am_sI h2 3 2 (nI (s.d - 1))) (gDep (s.d - 1) (gEnd s)) := g8_dep G2 (show s.d - 1 ≤ s.d by omega)
  have FD : fr8 h (am_sI h2 3 2 (nI (s.d - 1))) := fr8_s F2 _ _ (by decide) (by decide)
  unfold f_X5_closeBraces
  rw [e2, b2s]
  simp only [q2, v, c, cond_true, p9, p10, p11, nI_m1 h0]
  cases star
  · obtain ⟨h', e, g', f'⟩ := g8_item D (show s.n ≤ 15 from hn) (show s.d - 1 ≤ 60 by omega) F hF ((gEnd s).aF s.d) ((gEnd s).aL s.d) ((gEnd s).aN s.d || false)
    refine ⟨h', ?_, g', fr8_t FD f'⟩
    simp only [bI_f, o00, if_true, b_some]
    cases hi : (gEnd s).aN s.d
    · rw [hi] at e
      simp only [bI_f, o00, if_true, b_some]
      rw [show f_X5_addItem F ((gEnd s).aF s.d) ((gEnd s).aL s.d) (Int32.ofInt 0) (am_sI h2 3 2 (nI (s.d - 1))) = _ from e, b2s]
    · rw [hi] at e
      simp only [bI_t, o10, if_false, b_some]
      rw [show f_X5_addItem F ((gEnd s).aF s.d) ((gEnd s).aL s.d) (Int32.ofInt 1) (am_sI h2 3 2 (nI (s.d - 1))) = _ from e, b2s]
  · have I := g8_idle D ((gEnd s).aN s.d)
    obtain ⟨h3, e3, G3, F3⟩ := g8_join I (show s.n ≤ 15 from hn) F hF ((gEnd s).aL s.d) ((gEnd s).aF s.d)
    obtain ⟨h', e, g', f'⟩ := g8_item G3 (show s.n ≤ 15 from hn) (show s.d - 1 ≤ 60 by omega) F hF ((gEnd s).aF s.d) ((gEnd s).aL s.d) ((gEnd s).aN s.d || true)
    refine ⟨h', ?_, g', fr8_t (fr8_t (fr8_s FD 0 (bI ((gEnd s).idle || (gEnd s).aN s.d)) (by decide) (by decide)) F3) f'⟩
    have u0 : am_I (am_sI h2 3 2 (nI (s.d - 1))) 3 0 = bI (gEnd s).idle := by rw [hp_I]; exact q0
    simp only [bI_t, o10, if_false, u0, bI_or, b01_bI, cond_true]
    rw [show f_X5_followUp F ((gEnd s).aL s.d) ((gEnd s).aF s.d) (am_sI (am_sI h2 3 2 (nI (s.d - 1))) 3 0 (bI ((gEnd s).idle || (gEnd s).aN s.d))) = _ from e3, b2s, b_some, ite_self, b_some]
    rw [Bool.or_true] at e
    rw [show f_X5_addItem F ((gEnd s).aF s.d) ((gEnd s).aL s.d) (Int32.ofInt 1) h3 = _ from e, b2s]
/-- a text that lies in a page: object a, row q, size m -/
def tx8 (h : am_H) (a q m : Nat) (r : Nat → Int32) : Prop := am_K h a = .inl 4 ∧ am_A h a 0 = some q ∧ am_K h q = .inr (0, 60) ∧ am_I h a 1 = nI m ∧ (∀ j, j < 60 → am_I h q j = r j) ∧ (a < 3 ∨ 11 < a) ∧ (q < 3 ∨ 11 < q) ∧ m ≤ 60
theorem tx8_fr {h h' : am_H} {a q m : Nat} {r : Nat → Int32} (t : tx8 h a q m r) (f : fr8 h h') : tx8 h' a q m r := by
  obtain ⟨t1, t2, t3, t4, t5, t6, t7, t8⟩ := t
  obtain ⟨f1, f2, f3, f4, f5⟩ := f
  exact ⟨by rw [f2]; exact t1, by rw [f4]; exact t2, by rw [f2]; exact t3, by rw [f5 a t6]; exact t4, fun j hj => by rw [f5 q t7]; exact t5 j hj, t6, t7, t8⟩
def cd_book (r : Nat → Int32) (i : Nat) : Int32 := (((if r i = Int32.ofInt 63 then Int32.ofInt 100 else Int32.ofInt 0) + ((Int32.ofInt 10) * (r (i + 1) - Int32.ofInt 48))) + r (i + 2)) - Int32.ofInt 97
def cd_part (o : Int32) (r : Nat → Int32) (i : Nat) : Int32 := if o = Int32.ofInt (-1) then ((Int32.ofInt 10) * (r (i + 1) - Int32.ofInt 48)) + (r (i + 2) - Int32.ofInt 97) else if o = r i - Int32.ofInt 48 then ((Int32.ofInt 10) * (r (i + 1) - Int32.ofInt 48)) + (r (i + 2) - Int32.ofInt 97) else if o = r (i + 1) - Int32.ofInt 48 then ((Int32.ofInt 100) + ((Int32.ofInt 10) * (r i - Int32.ofInt 48))) + (r (i + 2) - Int32.ofInt 97) else Int32.ofInt (-1)
def cd_of (sort o : Int32) (r : Nat → Int32) (i : Nat) : Int32 := if sort = 0 then cd_book r i else cd_part o r i
theorem cd_8 {h : am_H} {a q m : Nat} {r : Nat → Int32} (t : tx8 h a q m r) (sort o : Int32) {i : Nat} (hi : i + 2 < 60) : (if sort = 0 then am_b2 (f_X5_bookCode a (nI i) h) fun r84 h85 => (some (r84, h85)) else am_b2 (f_X5_partCode a (nI i) o h) fun r81 h82 => (some (r81, h82))) = some (cd_of sort o r i, h) := by
  obtain ⟨t1, t2, t3, t4, t5, t6, t7, t8⟩ := t
  have v0 : am_vp (nI i) 60 = true := hp_vp (by omega) (by decide)
  have v1 : am_vp (nI (i + 1)) 60 = true := hp_vp (by omega) (by decide)
  have v2 : am_vp (nI (i + 2)) 60 = true := hp_vp (by omega) (by decide)
  have c0 : Int32.toNatClampNeg (nI i) = i := nI_clamp (by omega)
  have c1 : Int32.toNatClampNeg (nI (i + 1)) = i + 1 := nI_clamp (by omega)
  have c2 : Int32.toNatClampNeg (nI (i + 2)) = i + 2 := nI_clamp (by omega)
  have a1 : nI i + Int32.ofInt 1 = nI (i + 1) := hp_1 i
  have a2 : nI i + Int32.ofInt 2 = nI (i + 2) := nI_add i 2
  unfold cd_of
  by_cases hs : sort = 0
  · rw [if_pos hs, if_pos hs]
    unfold f_X5_bookCode cd_book
    simp only [hp_isO t1, t2, hp_ln t3, b_some, a1, a2, v0, v1, v2, c0, c1, c2, cond_true, t5 i (by omega), t5 (i + 1) (by omega), t5 (i + 2) hi]
    by_cases h1 : r i = Int32.ofInt 63
    · simp only [if_pos h1, b_some, b2s]
    · simp only [if_neg h1, b_some, b2s]
  · rw [if_neg hs, if_neg hs]
    unfold f_X5_partCode cd_part
    simp only [hp_isO t1, t2, hp_ln t3, b_some, a1, a2, v0, v1, v2, c0, c1, c2, cond_true, t5 i (by omega), t5 (i + 1) (by omega), t5 (i + 2) hi]
    by_cases h1 : o = Int32.ofInt (-1)
    · simp only [if_pos h1, b2s]
    · simp only [if_neg h1]
      by_cases h2 : o = r i - Int32.ofInt 48
      · simp only [if_pos h2, b2s]
      · simp only [if_neg h2]
        by_cases h3 : o = r (i + 1) - Int32.ofInt 48
        · simp only [if_pos h3, b_some, b2s]
        · simp only [if_neg h3, b_some, b2s]
