/-! ===== gathering: the reference's acts and closing braces ===== -/
theorem gItem_null (s : GS) : gItem (Int32.ofInt 0) (Int32.ofInt 0) true s = s := by
  obtain ⟨n, d, idle, code, fol, rF, rL, rN, aF, aL, aN⟩ := s
  have e1 : gJoinF n fol (rL d) (Int32.ofInt 0) = fol := by
    funext p; unfold gJoinF; rw [or_0]; split <;> rfl
  have e2 : (bif rN d then upd rF d (rF d ||| Int32.ofInt 0) else rF) = rF := by
    cases rN d
    · rfl
    · rw [or_0]; exact hp_upd_id _ _
  have e3 : upd rL d (rL d ||| Int32.ofInt 0) = rL := by rw [or_0]; exact hp_upd_id _ _
  have e4 : updB rN d (rN d && true) = rN := by
    funext k; unfold updB; rw [Bool.and_true]; split
    · next h => rw [h]
    · rfl
  show (n, d, idle, code, gJoinF n fol (rL d) (Int32.ofInt 0), (bif rN d then upd rF d (rF d ||| Int32.ofInt 0) else rF), upd rL d (rL d ||| Int32.ofInt 0), updB rN d (rN d && true), aF, aL, aN) = _
  rw [e1, e2, e3, e4]
theorem i_asc (x y z : Int32) : ((Int32.ofInt 0 + x) + y) - z = x + (y - z) := by
  rw [show Int32.ofInt 0 = 0 from rfl, Int32.zero_add, Int32.sub_eq_add_neg, Int32.sub_eq_add_neg, Int32.add_assoc]
theorem i_asc2 (w x y z : Int32) : ((w + x) + y) - z = (w + x) + (y - z) := by
  rw [Int32.sub_eq_add_neg, Int32.sub_eq_add_neg, Int32.add_assoc]
/-- an act is laid, its code as the class has it -/
theorem g9_lay1 {b : Nat} (hb : b < 8) {h : am_H} {s : GS} (g : G9 b h s) (hn : s.n < 15) (hd : s.d ≤ 60) (hg : GI s) (F : Nat) (hF : 20 ≤ F) (x : Int32) : ∃ h', f_X9_item F (nI b) (gBit (s.n + 1)) (gBit (s.n + 1)) (Int32.ofInt 0) (am_sI (am_sI h 55 b (nI (s.n + 1))) 53 (16 * b + (s.n + 1)) x) = some ((), h') ∧ G9 b h' (gAct x s) ∧ fr9 b h h' := by
  obtain ⟨g3, g2, g0, gc, gf, gr⟩ := g
  have fr : fr9 b h (am_sI (am_sI h 55 b (nI (s.n + 1))) 53 (16 * b + (s.n + 1)) x) := fr9_b (fr9_n (fr9_r b h) _) _ (Or.inl rfl) (by omega)
  have k : G9 b (am_sI (am_sI h 55 b (nI (s.n + 1))) 53 (16 * b + (s.n + 1)) x) (gNew x s) := by
    refine ⟨?_, ?_, ?_, ?_, ?_, ?_⟩
    · simp only [hp_I, hp_I', ne_eq, Nat.reduceEqDiff, not_false_eq_true]; exact upd_at _ _ _
    · simp only [hp_I', ne_eq, Nat.reduceEqDiff, not_false_eq_true]; exact g2
    · simp only [hp_I', ne_eq, Nat.reduceEqDiff, not_false_eq_true]; exact g0
    · intro j a c
      simp only [hp_I, hp_I', ne_eq, Nat.reduceEqDiff, not_false_eq_true]
      show _ = upd s.code (s.n + 1) x j
      have c : j ≤ s.n + 1 := c
      by_cases e : j = s.n + 1
      · subst e; rw [upd_at, upd_at]
      · rw [upd_ne e, upd_ne (by omega)]
        exact gc j a (by omega)
    · intro j a
      simp only [hp_I', ne_eq, Nat.reduceEqDiff, not_false_eq_true]; exact gf j a
    · intro j a
      obtain ⟨r6, r7, r8, r9, r10, r11⟩ := gr j a
      simp only [hp_I', ne_eq, Nat.reduceEqDiff, not_false_eq_true]
      exact ⟨r6, r7, r8, r9, r10, r11⟩
  obtain ⟨h', e, g', f'⟩ := g9_item hb k hd F hF (gBit (s.n + 1)) (gBit (s.n + 1)) false (fun p _ hp => Nat.le_succ_of_le ((hg s.d (Nat.le_refl _) p).1 hp))
  exact ⟨h', e, g', fr9_t fr f'⟩
theorem dig_cases {c : Int32} (h : rd_dig c = true) : c = Int32.ofInt 48 ∨ c = Int32.ofInt 49 ∨ c = Int32.ofInt 50 := by
  unfold rd_dig rd_rg at h
  simp only [Bool.and_eq_true, Bool.not_eq_true', decide_eq_false_iff_not] at h
  have h1 := Int32.not_lt.mp h.1
  have h2 := Int32.not_lt.mp h.2
  rw [Int32.le_iff_toInt_le] at h1 h2
  rw [show (Int32.ofInt 48).toInt = 48 from by decide] at h1
  rw [show (Int32.ofInt 50).toInt = 50 from by decide] at h2
  have : c.toInt = 48 ∨ c.toInt = 49 ∨ c.toInt = 50 := by omega
  rcases this with e | e | e
  · exact Or.inl (Int32.toInt_inj.mp (by rw [e]; decide))
  · exact Or.inr (Or.inl (Int32.toInt_inj.mp (by rw [e]; decide)))
  · exact Or.inr (Or.inr (Int32.toInt_inj.mp (by rw [e]; decide)))
theorem let_cases {c : Int32} (h : rd_let c = true) : c = Int32.ofInt 97 ∨ c = Int32.ofInt 98 ∨ c = Int32.ofInt 99 ∨ c = Int32.ofInt 100 := by
  unfold rd_let rd_rg at h
  simp only [Bool.and_eq_true, Bool.not_eq_true', decide_eq_false_iff_not] at h
  have h1 := Int32.not_lt.mp h.1
  have h2 := Int32.not_lt.mp h.2
  rw [Int32.le_iff_toInt_le] at h1 h2
  rw [show (Int32.ofInt 97).toInt = 97 from by decide] at h1
  rw [show (Int32.ofInt 100).toInt = 100 from by decide] at h2
  have : c.toInt = 97 ∨ c.toInt = 98 ∨ c.toInt = 99 ∨ c.toInt = 100 := by omega
  rcases this with e | e | e | e
  · exact Or.inl (Int32.toInt_inj.mp (by rw [e]; decide))
  · exact Or.inr (Or.inl (Int32.toInt_inj.mp (by rw [e]; decide)))
  · exact Or.inr (Or.inr (Or.inl (Int32.toInt_inj.mp (by rw [e]; decide))))
  · exact Or.inr (Or.inr (Or.inr (Int32.toInt_inj.mp (by rw [e]; decide))))
theorem cd_ne {x y : Int32} (hx : rd_dig x = true) (hy : rd_let y = true) : (¬ ((Int32.ofInt 10) * (x - Int32.ofInt 48)) + (y - Int32.ofInt 97) = Int32.ofInt (-1)) ∧ (¬ ((Int32.ofInt 100) + ((Int32.ofInt 10) * (x - Int32.ofInt 48))) + (y - Int32.ofInt 97) = Int32.ofInt (-1)) := by
  rcases dig_cases hx with rfl | rfl | rfl <;> rcases let_cases hy with rfl | rfl | rfl | rfl <;> decide
theorem cd_ne0 {sort o : Int32} {r : Nat → Int32} {i : Nat} (hs : sort = 0) (hx : rd_dig (r (i + 1)) = true) (hy : rd_let (r (i + 2)) = true) : ¬ cd_of sort o r i = Int32.ofInt (-1) := by
  unfold cd_of cd_book
  rw [if_pos hs]
  by_cases c : r i = Int32.ofInt 63
  · rw [if_pos c, i_asc2]; exact (cd_ne hx hy).2
  · rw [if_neg c, i_asc]; exact (cd_ne hx hy).1
theorem g9_act {b : Nat} (hb : b < 8) {h : am_H} {s : GS} (g : G9 b h s) (hn : s.n < 15) (hd : s.d ≤ 60) (hg : GI s) (F : Nat) (hF : 20 ≤ F) (sort o : Int32) (r : Nat → Int32) (i : Nat) (hs : (sort = 0 ∧ rd_mark (r i) = true) ∨ (¬ sort = 0 ∧ rd_dig (r i) = true ∧ ¬ o = Int32.ofInt (-1))) (hx : rd_dig (r (i + 1)) = true) (hy : rd_let (r (i + 2)) = true) :
    ∃ h', f_X9_layAct F (nI b) (r i) (r (i + 1)) (r (i + 2)) o h = some ((), h') ∧ G9 b h' (if cd_of sort o r i = Int32.ofInt (-1) then s else gAct (cd_of sort o r i) s) ∧ fr9 b h h' := by
  have vb : am_vp (nI b) 8 = true := hp_vp hb (by decide)
  have cb : Int32.toNatClampNeg (nI b) = b := nI_clamp (by omega)
  have q3 := g.1
  have vi : am_vp (nI (16 * b + (s.n + 1))) 128 = true := hp_vp (by omega) (by decide)
  have ci : Int32.toNatClampNeg (nI (16 * b + (s.n + 1))) = 16 * b + (s.n + 1) := nI_clamp (by omega)
  have u : upd (am_I h 55) b (nI (s.n + 1)) b = nI (s.n + 1) := upd_at _ _ _
  obtain ⟨h', e, g', f'⟩ := g9_lay1 hb g hn hd hg F hF (cd_of sort o r i)
  unfold f_X9_layAct
  rcases hs with ⟨hs, hm⟩ | ⟨hs, hm, ho⟩
  · rw [if_neg (cd_ne0 hs hx hy)]
    refine ⟨h', ?_, g', f'⟩
    by_cases c33 : r i = Int32.ofInt 33
    · have hS : cd_of sort o r i = ((Int32.ofInt 0 + ((Int32.ofInt 10) * (r (i + 1) - Int32.ofInt 48))) + r (i + 2)) - Int32.ofInt 97 := by unfold cd_of cd_book; rw [if_pos hs, if_neg (by rw [c33]; decide)]
      simp only [if_pos c33, b_some, o10, if_false, vb, cb, cond_true, q3, hp_1, hp_I, hp_I', ne_eq, Nat.reduceEqDiff, not_false_eq_true, u, g9_ix, vi, ci]
      rw [show (Int32.ofInt 1 <<< (nI (s.n + 1) &&& 31)) = gBit (s.n + 1) from rfl, ← hS, e]; rfl
    · have c63 : r i = Int32.ofInt 63 := by
        unfold rd_mark at hm
        rw [decide_eq_false c33] at hm
        exact of_decide_eq_true hm
      have hS : cd_of sort o r i = ((Int32.ofInt 100 + ((Int32.ofInt 10) * (r (i + 1) - Int32.ofInt 48))) + r (i + 2)) - Int32.ofInt 97 := by unfold cd_of cd_book; rw [if_pos hs, if_pos c63]
      simp only [if_neg c33, if_pos c63, b_some, o10, o00, if_true, if_false, vb, cb, cond_true, q3, hp_1, hp_I, hp_I', ne_eq, Nat.reduceEqDiff, not_false_eq_true, u, g9_ix, vi, ci]
      rw [show (Int32.ofInt 1 <<< (nI (s.n + 1) &&& 31)) = gBit (s.n + 1) from rfl, ← hS, e]; rfl
  · have c33 : ¬ r i = Int32.ofInt 33 := fun q => by rw [q] at hm; exact absurd hm (by decide)
    have c63 : ¬ r i = Int32.ofInt 63 := fun q => by rw [q] at hm; exact absurd hm (by decide)
    have cd : cd_of sort o r i = cd_part o r i := by unfold cd_of; rw [if_neg hs]
    by_cases o1 : r i - Int32.ofInt 48 = o
    · have e1 : cd_of sort o r i = ((Int32.ofInt 10) * (r (i + 1) - Int32.ofInt 48)) + (r (i + 2) - Int32.ofInt 97) := by rw [cd]; unfold cd_part; rw [if_neg ho, if_pos o1.symm]
      refine ⟨h', ?_, by rw [if_neg (by rw [e1]; exact (cd_ne hx hy).1)]; exact g', f'⟩
      simp only [if_neg c33, if_neg c63, b_some, o10, o00, if_true, if_false, if_pos o1, vb, cb, cond_true, q3, hp_1, hp_I, hp_I', ne_eq, Nat.reduceEqDiff, not_false_eq_true, u, g9_ix, vi, ci, i_asc]
      rw [show (Int32.ofInt 1 <<< (nI (s.n + 1) &&& 31)) = gBit (s.n + 1) from rfl, ← e1, e]; rfl
    · by_cases o2 : r (i + 1) - Int32.ofInt 48 = o
      · have e1 : cd_of sort o r i = ((Int32.ofInt 100) + ((Int32.ofInt 10) * (r i - Int32.ofInt 48))) + (r (i + 2) - Int32.ofInt 97) := by rw [cd]; unfold cd_part; rw [if_neg ho, if_neg (fun q => o1 q.symm), if_pos o2.symm]
        refine ⟨h', ?_, by rw [if_neg (by rw [e1]; exact (cd_ne hm hy).2)]; exact g', f'⟩
        simp only [if_neg c33, if_neg c63, b_some, o10, o00, if_true, if_false, if_neg o1, if_pos o2, vb, cb, cond_true, q3, hp_1, hp_I, hp_I', ne_eq, Nat.reduceEqDiff, not_false_eq_true, u, g9_ix, vi, ci, i_asc2]
        rw [show (Int32.ofInt 1 <<< (nI (s.n + 1) &&& 31)) = gBit (s.n + 1) from rfl, ← e1, e]; rfl
      · have e1 : cd_of sort o r i = Int32.ofInt (-1) := by rw [cd]; unfold cd_part; rw [if_neg ho, if_neg (fun q => o1 q.symm), if_neg (fun q => o2 q.symm)]
        obtain ⟨h2, e2, g2, f2⟩ := g9_item hb g hd F hF (Int32.ofInt 0) (Int32.ofInt 0) true (fun p _ hp => (hg s.d (Nat.le_refl _) p).1 hp)
        rw [gItem_null] at g2
        refine ⟨h2, ?_, by rw [if_pos e1]; exact g2, f2⟩
        simp only [if_neg c33, if_neg c63, b_some, o10, o00, if_true, if_false, if_neg o1, if_neg o2, if_neg ho]
        rw [show f_X9_item F (nI b) (Int32.ofInt 0) (Int32.ofInt 0) (Int32.ofInt 1) h = _ from e2]; rfl
