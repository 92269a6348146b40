/-! ===== find ===== -/
theorem it_89 (a : Int32) : (∃ it, (it = 0 ∨ it = 1) ∧ a = nI it ∧ ∀ h, f_X9_within a (Int32.ofInt 0) (Int32.ofInt 1) h = some (bI true, h)) ∨ (∃ it, 10 ≤ it ∧ it ≤ 99 ∧ a = nI it ∧ ∀ h, f_X8_isItem a h = some (bI true, h) ∧ f_X9_within a (Int32.ofInt 0) (Int32.ofInt 1) h = some (bI false, h) ∧ f_X9_within a (Int32.ofInt 10) (Int32.ofInt 99) h = some (bI true, h)) ∨ (¬ a = 0 ∧ ¬ a = Int32.ofInt 1 ∧ ∀ h, f_X8_isItem a h = some (bI false, h) ∧ f_X9_within a (Int32.ofInt 0) (Int32.ofInt 1) h = some (bI false, h) ∧ f_X9_within a (Int32.ofInt 10) (Int32.ofInt 99) h = some (bI false, h)) := by
  by_cases c : a < 0
  · refine Or.inr (Or.inr ⟨fun e => by rw [e] at c; exact absurd c (by decide), fun e => by rw [e] at c; exact absurd c (by decide), fun h => ⟨?_, wi_f (Or.inl c) h, wi_f (Or.inl (Int32.lt_trans c (by decide))) h⟩⟩)
    unfold f_X8_isItem
    rw [if_pos (Int32.lt_trans c (by decide))]; rfl
  · obtain ⟨v, hv, rfl⟩ := i32_nn c
    have l : ∀ b : Nat, b < 2 ^ 31 → ((nI v < nI b) ↔ v < b) := fun b hb => nI_ltI hv hb
    have g : ∀ b : Nat, b < 2 ^ 31 → ((nI b < nI v) ↔ b < v) := fun b hb => nI_ltI hb hv
    by_cases c1 : v ≤ 1
    · exact Or.inl ⟨v, by omega, rfl, fun h => wi_t c (fun q => by have := (g 1 (by decide)).mp q; omega) h⟩
    · have o1 : ∀ h, f_X9_within (nI v) (Int32.ofInt 0) (Int32.ofInt 1) h = some (bI false, h) := fun h => wi_f (Or.inr ((g 1 (by decide)).mpr (by omega))) h
      by_cases c2 : 10 ≤ v ∧ v ≤ 99
      · refine Or.inr (Or.inl ⟨v, c2.1, c2.2, rfl, fun h => ⟨?_, o1 h, wi_t (fun q => by have := (l 10 (by decide)).mp q; omega) (fun q => by have := (g 99 (by decide)).mp q; omega) h⟩⟩)
        unfold f_X8_isItem
        rw [if_neg (fun q => by have := (l 10 (by decide)).mp q; omega), if_neg (fun q => by have := (g 99 (by decide)).mp q; omega)]; rfl
      · refine Or.inr (Or.inr ⟨fun e => ?_, fun e => ?_, fun h => ⟨?_, o1 h, ?_⟩⟩)
        · have := (nI_0e hv).mp e; omega
        · have := (nI_inj (a := v) (b := 1) hv (by decide)).mp e; omega
        · unfold f_X8_isItem
          by_cases c3 : v < 10
          · rw [if_pos (show nI v < Int32.ofInt 10 from (l 10 (by decide)).mpr c3)]; rfl
          · rw [if_neg (show ¬ nI v < Int32.ofInt 10 from fun q => c3 ((l 10 (by decide)).mp q)), if_pos (show Int32.ofInt 99 < nI v from (g 99 (by decide)).mpr (by omega))]; rfl
        · by_cases c3 : v < 10
          · exact wi_f (Or.inl ((l 10 (by decide)).mpr c3)) h
          · exact wi_f (Or.inr ((g 99 (by decide)).mpr (by omega))) h
theorem cl_26 (a1 a2 : Int32) {h : am_H} {c sl : Nat} (J : JJ h c sl) : am_stat h ∧ po_26 a1 a2 JJ h c sl := by
  obtain ⟨S, ok, x8, x9⟩ := J
  obtain ⟨F, hF⟩ := big_F
  refine ⟨X8_st x8, ?_⟩
  rcases in_89 a1 (n := 5) (by decide) with ⟨w, hw, rfl, c1, c2, c3, wi⟩ | ⟨cc, wi⟩
  · have wi : ∀ h, f_X9_within (nI w) (Int32.ofInt 0) (Int32.ofInt 4) h = some (bI true, h) := wi
    -- the answer, where what is asked for stands within its bounds
    have key : ∀ it, (it = 0 ∨ it = 1 ∨ (10 ≤ it ∧ it ≤ 99)) → a2 = nI it → ((it = 0 ∨ it = 1) ∨ ∀ h, f_X8_isItem a2 h = some (bI true, h)) → ((∀ h, f_X9_within a2 (Int32.ofInt 0) (Int32.ofInt 1) h = some (bI true, h)) ∨ ((∀ h, f_X9_within a2 (Int32.ofInt 0) (Int32.ofInt 1) h = some (bI false, h)) ∧ ∀ h, f_X9_within a2 (Int32.ofInt 10) (Int32.ofInt 99) h = some (bI true, h))) → po_26 (nI w) a2 JJ h c sl := by
      intro it hit ea e8 e9
      subst ea
      obtain ⟨h1, c1', z1, cap, qs, qn, e1, x81, d1, s1⟩ := X8_Q (h' := h) x8 F (by omega) ok
      have x91 := X9_loc x9 (X8_st x81) s1
      have b8 := fnd_8 (PS_all ok) hw hit d1 F (by omega)
      obtain ⟨h2, e2, u2, m2, f2⟩ := ma_all (PS_all ok) (X9_U ok x91) x91.2.2.2 F (by omega)
      have x92 := X9_A x91 f2 u2 m2
      have r9 : ∃ h3, (if (am_I h2 51 51) = 0 then am_b2 (f_X9_layFine F h2) fun _ h14 => (am_b2 (f_X9_asState F h14) fun r16 h17 => (g_X9_find F 0 (nI w) (nI it) r16 (Int32.ofInt 0) (Int32.ofInt (-1)) (Int32.ofInt 0) 0 0 h17)) else some ((Int32.ofInt (-2)), h2)) = some (bif (svAll S.r).sp then Int32.ofInt (-2) else fdV S.r S.sd w it, h3) ∧ X9p h3 S ∧ same8 h2 h3 := by
        rw [C9m_51 m2]
        rcases sp_cases S.r with sp | sp
        · rw [sp]
          exact ⟨h2, by rw [if_neg (show ¬ bI true = 0 by decide)]; rfl, x92, same8_r h2⟩
        · obtain ⟨h3, e3, u3, m3, f3⟩ := fd_9 (PS_all ok) hw hit u2 m2 sp F (by omega)
          rw [sp]
          exact ⟨h3, by rw [if_pos (show bI false = 0 from rfl), e3]; rfl, X9_A x92 f3 u3 m3, same8_A f3⟩
      obtain ⟨h3, e3, x93, s3⟩ := r9
      refine ⟨F, F, (bif (svAll S.r).sp then Int32.ofInt (-2) else fdV S.r S.sd w it), h1, h3, c1', z1, ?_, ?_, JJ_of ok x81 (same8_t (same8_A f2) s3) x93⟩
      · unfold f_X8_find
        rw [if_neg c1, if_neg (show ¬ Int32.ofInt 5 ≤ nI w from c3)]
        dsimp only [am_let]
        by_cases i0 : it = 0
        · rw [if_pos (show nI it = 0 by rw [i0]; rfl), e1, bcs, q37, cond_true, b8, cts]; rfl
        · rw [if_neg (fun e => i0 ((nI_0e (by omega)).mp e))]
          by_cases i1 : it = 1
          · rw [if_pos (show nI it = Int32.ofInt 1 by rw [i1]; rfl), e1, bcs, q37, cond_true, b8, cts]; rfl
          · rw [if_neg (show ¬ nI it = Int32.ofInt 1 from fun e => i1 ((nI_inj (a := it) (b := 1) (by omega) (by decide)).mp e))]
            have e8 : ∀ h, f_X8_isItem (nI it) h = some (bI true, h) := e8.resolve_left (by omega)
            rw [e8, b2s, if_neg (show ¬ bI true = 0 by decide), e1, bcs, q37, cond_true, b8, cts]; rfl
      · unfold f_X9_find
        rw [wi, b2s, if_neg (show ¬ bI true = 0 by decide)]
        rcases e9 with e9 | ⟨e9, e10⟩
        · rw [e9, b2s, if_neg (show ¬ bI true = 0 by decide), e2, b2s]
          exact e3
        · rw [e9, b2s, if_pos (show bI false = 0 from rfl), e10, b2s, if_neg (show ¬ bI true = 0 by decide), e2, b2s]
          exact e3
    rcases it_89 a2 with ⟨it, hit, ea, e9⟩ | ⟨it, i1, i2, ea, e⟩ | ⟨n0, n1, e⟩
    · exact key it (by omega) ea (Or.inl hit) (Or.inl e9)
    · exact key it (by omega) ea (Or.inr (fun h => (e h).1)) (Or.inr ⟨fun h => (e h).2.1, fun h => (e h).2.2⟩)
    · refine ⟨0, 0, Int32.ofInt (-102), h, h, 0, 0, ?_, ?_, JJ_ro ok x8 x9⟩
      · unfold f_X8_find
        rw [if_neg c1, if_neg (show ¬ Int32.ofInt 5 ≤ nI w from c3)]
        dsimp only [am_let]
        rw [if_neg n0, if_neg n1, (e h).1, b2s, if_pos (show bI false = 0 from rfl)]
      · unfold f_X9_find
        rw [wi, b2s, if_neg (show ¬ bI true = 0 by decide), (e h).2.1, b2s, if_pos (show bI false = 0 from rfl), (e h).2.2, b2s, if_pos (show bI false = 0 from rfl)]
  · have wi : f_X9_within a1 (Int32.ofInt 0) (Int32.ofInt 4) h = some (bI false, h) := wi h
    refine ⟨0, 0, Int32.ofInt (-102), h, h, 0, 0, ?_, ?_, JJ_ro ok x8 x9⟩
    · unfold f_X8_find
      rcases cc with cc | ⟨c1, c2, c3⟩
      · rw [if_pos cc]
      · rw [if_neg c1, if_pos (show Int32.ofInt 5 ≤ a1 from c3)]
    · unfold f_X9_find
      rw [wi, b2s, if_pos (show bI false = 0 from rfl)]
