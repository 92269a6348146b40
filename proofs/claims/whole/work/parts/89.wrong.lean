/-! ===== wrong letters: the reference's isWrong ===== -/
def tWf (r : TR) (s : TS) (o f : Nat) : Bool := !Nat.beq f o && tBar r s o f
def tW3 (r : TR) (s : TS) (o : Nat) : Bool := tWf r s o 0 || (tWf r s o 1 || tWf r s o 2)
theorem oAll_w {r : TR} {s : TS} {o : Nat} (h : oAll r s o 15 = true) : ∀ i, 0 < i → i ≤ 15 → bt (r.fo o (s.1 o)) i = true → r.aw o i = 1 := by
  have g : ∀ k, k ≤ 15 → oAll r s o k = true → ∀ i, 15 - k < i → i ≤ 15 → bt (r.fo o (s.1 o)) i = true → r.aw o i = 1 := by
    intro k
    induction k with
    | zero => intro _ _ i a b; omega
    | succ k ih =>
      intro hk h i a b c
      have h : ((!bt (r.fo o (s.1 o)) (15 - k) || Nat.beq (r.aw o (15 - k)) 1) && oAll r s o k) = true := h
      rw [Bool.and_eq_true] at h
      by_cases e : i = 15 - k
      · subst e
        exact Nat.eq_of_beq_eq_true (imp_b h.1 c)
      · exact ih (by omega) h.2 i (by omega) b c
  intro i a b c
  exact g 15 (by decide) h i (by omega) b c
theorem wr_o {h : am_H} {r : TR} (hr : r.ok) {s : TS} (hs : r.sk s) (t : T9 h r s) {o : Nat} (ho : o < 3) (zd : am_I h 78 (3 * o + o) = nI 0) (hw : ∀ i, 0 < i → i ≤ 15 → bt (r.fo o (s.1 o)) i = true → r.aw o i = 1) {f : Nat} (hf : f < 3) (F : Nat) (hF : 20 ≤ F) : ∃ m, F ≤ m + 4 ∧ g_X9_isWrong (F + 1) 0 (nI o) (nI f) 0 0 0 0 h = if tWf r s o f = true then some (Int32.ofInt 1, h) else g_X9_isWrong m 0 (nI o) (nI (f + 1)) 0 0 0 0 h := by
  obtain ⟨M, eM, hM, -⟩ := fn9 hs t ho
  obtain ⟨W, eW, pW⟩ := wf_l hr hs t ho hf M hM (F - 16) 15 (by decide) (Int32.ofInt 0)
  rw [show F - 16 + 15 + 1 = F from by omega] at eW
  have pW : ∀ l, l < 32 → bt W l = wB r s o f l 15 := fun l hl => by rw [pW l hl, bt_0, Bool.false_or]
  have i9 : ((Int32.ofInt 3) * nI f) + nI o = nI (3 * f + o) := by rw [show Int32.ofInt 3 = nI 3 from rfl, nI_mul, nI_add]
  have st : g_X9_isWrong (F + 1) 0 (nI o) (nI f) 0 0 0 0 h = g_X9_isWrong F 1 (nI o) (nI f) W (nI (3 * f + o)) (Int32.ofInt 0) (Int32.ofInt 0) h := by
    rw [g_X9_isWrong, q00, cond_true, if_neg (show ¬ Int32.ofInt 3 ≤ nI f from nI_ge (a := f) (b := 3) hf (by decide))]
    unfold f_X9_waitsFor
    rw [eM, b2s, show g_X9_waitsFor F 0 (nI o) (nI f) M (Int32.ofInt 0) (Int32.ofInt 1) h = _ from eW, b2s, i9]
  rw [st]
  unfold tWf
  by_cases e : f = o
  · subst e
    have W0 : W = 0 := by
      by_cases q : W = 0
      · exact q
      · obtain ⟨l, hl, e⟩ := I32_ne0.mp q
        rw [pW l hl, wB_iff] at e
        obtain ⟨i, a, b, c, -, d, -⟩ := e
        exact absurd d (hr.2.2.2 f i ho (by omega) ⟨s.1 f, hs.1 f ho, c⟩ a).2.1
    have fin := wr_e (k := 0) (c := 0) (F - 1) (nI f) hf W false (show 3 * f + f < 9 by omega) rfl zd
    rw [show F - 1 + 1 = F from by omega] at fin
    rw [beq_t rfl]
    refine ⟨F - 1, by omega, ?_⟩
    rw [if_neg (show ¬ (!true && tBar r s f f) = true by intro q; cases q)]
    rw [if_neg (fun q => q.1 W0)] at fin
    exact fin
  · have hp := pn_lt hf ho e
    obtain ⟨e70, e89⟩ := t.2.1 f o hf ho e
    obtain ⟨m, hm, fin⟩ := wr_i (F - 4) (nI o) hf W (show 3 * f + o < 9 by omega) (hr.1 _ hp) (hs.2 _ hp) e70 e89
    rw [show F - 4 + 4 = F from by omega] at fin
    rw [beq_f e, Bool.not_false, Bool.true_and]
    refine ⟨m, by omega, ?_⟩
    rw [fin]
    have q := bar_eq hr hs ho hf e hw pW
    by_cases z : tBar r s o f = true
    · rw [if_pos (q.mpr z), if_pos z]
    · rw [if_neg (fun x => z (q.mp x)), if_neg z]
theorem wr_9 {h : am_H} {r : TR} (hr : r.ok) {s : TS} (hs : r.sk s) (t : T9 h r s) {o : Nat} (ho : o < 3) (zd : am_I h 78 (3 * o + o) = nI 0) (hv : ∃ v, v < 65536 ∧ r.fo o (s.1 o) = nI v) {sd : Nat → Bool} (hd : sd9 h sd) (F : Nat) (hF : 100 ≤ F) : f_X9_isWrong F (nI o) h = some (bI (sd o && (!bt (r.fo o (s.1 o)) 0 && (oAll r s o 15 && tW3 r s o))), h) := by
  obtain ⟨M, eM, hM, hM2⟩ := fn9 hs t ho
  have ow := ow_l hr hs t ho M hM (F - 16) 15 (by decide)
  rw [show F - 16 + 15 + 1 = F from by omega] at ow
  obtain ⟨v, hv1, hv2⟩ := hv
  -- the first test
  have y : (if M ≤ (Int32.ofInt 1) then some (Int32.ofInt 0) else (if (M &&& (Int32.ofInt 1)) = 0 then some (Int32.ofInt 1) else some (Int32.ofInt 0))) = some (bI (sd o && (!bt (r.fo o (s.1 o)) 0 && !Nat.beq v 0))) := by
    rw [hd o ho]
    rcases hM2 with ⟨a, rfl⟩ | ⟨a, rfl⟩
    · rw [decide_eq_true a, if_pos (Int32.le_refl _)]; rfl
    · rw [decide_eq_false a, and1]
      have le : (r.fo o (s.1 o) ≤ Int32.ofInt 1) ↔ v ≤ 1 := by rw [hv2]; exact nI_leI (a := v) (b := 1) (by omega) (by decide)
      have b0 : bt (r.fo o (s.1 o)) 0 = decide (v % 2 = 1) := by
        rw [hv2]
        show (BitVec.ofNat 32 v).getLsbD 0 = _
        rw [BitVec.getLsbD_ofNat]
        simp [Nat.testBit_zero]
      by_cases z : v ≤ 1
      · rw [if_pos (le.mpr z)]
        have : v = 0 ∨ v = 1 := by omega
        rcases this with q | q
        · rw [beq_t q, Bool.not_true, Bool.and_false, Bool.and_false]; rfl
        · rw [b0, decide_eq_true (by omega)]; rfl
      · rw [if_neg (fun x => z (le.mp x)), beq_f (by omega)]
        cases bt (r.fo o (s.1 o)) 0 <;> rfl
  unfold f_X9_isWrong f_X9_onlyWaits
  rw [eM, b2s, y, b_some, show g_X9_onlyWaits F 0 (nI o) M (bI (sd o && (!bt (r.fo o (s.1 o)) 0 && !Nat.beq v 0))) (Int32.ofInt 1) h = _ from ow _, b2s]
  cases hx : ((sd o && (!bt (r.fo o (s.1 o)) 0 && !Nat.beq v 0)) && oAll r s o 15)
  · rw [bI_f, if_pos (show Int32.ofInt 0 = 0 from rfl)]
    have : (sd o && (!bt (r.fo o (s.1 o)) 0 && (oAll r s o 15 && tW3 r s o))) = false := by
      cases q : (sd o && (!bt (r.fo o (s.1 o)) 0 && (oAll r s o 15 && tW3 r s o)))
      · rfl
      · simp only [Bool.and_eq_true] at q
        obtain ⟨q1, q2, q3, q4⟩ := q
        rw [q1, q2, q3, Bool.true_and, Bool.true_and, Bool.and_true] at hx
        have v0 : v = 0 := by
          cases e : Nat.beq v 0
          · rw [e] at hx; cases hx
          · exact Nat.eq_of_beq_eq_true e
        have nb : ∀ f, tBar r s o f = true → False := by
          intro f hf
          unfold tBar at hf
          simp only [Bool.and_eq_true] at hf
          obtain ⟨i, -, -, c, -⟩ := (bAny_iff r s o (pn f o)).mp hf.2.1
          rw [hv2, v0] at c
          rw [show nI 0 = Int32.ofInt 0 from rfl, bt_0] at c
          cases c
        unfold tW3 tWf at q4
        simp only [Bool.or_eq_true, Bool.and_eq_true] at q4
        rcases q4 with q | q | q
        · exact (nb _ q.2).elim
        · exact (nb _ q.2).elim
        · exact (nb _ q.2).elim
    rw [this]; rfl
  · rw [bI_t, if_neg (show ¬ Int32.ofInt 1 = 0 by decide)]
    simp only [Bool.and_eq_true] at hx
    obtain ⟨⟨q1, q2, -⟩, q3⟩ := hx
    have hw := oAll_w q3
    rw [q1, q2, q3, Bool.true_and, Bool.true_and, Bool.true_and]
    obtain ⟨m0, k0, e0⟩ := wr_o hr hs t ho zd hw (show 0 < 3 by decide) (F - 1) (by omega)
    rw [show F - 1 + 1 = F from by omega] at e0
    obtain ⟨m1, k1, e1⟩ := wr_o hr hs t ho zd hw (show 1 < 3 by decide) (m0 - 1) (by omega)
    rw [show m0 - 1 + 1 = m0 from by omega] at e1
    obtain ⟨m2, k2, e2⟩ := wr_o hr hs t ho zd hw (show 2 < 3 by decide) (m1 - 1) (by omega)
    rw [show m1 - 1 + 1 = m1 from by omega] at e2
    have e3 : g_X9_isWrong m2 0 (nI o) (nI (2 + 1)) 0 0 0 0 h = some (Int32.ofInt 0, h) := by
      rw [show m2 = (m2 - 1) + 1 from by omega, g_X9_isWrong, q00, cond_true, if_pos (show Int32.ofInt 3 ≤ nI (2 + 1) by decide)]
    rw [show g_X9_isWrong F 0 (nI o) (Int32.ofInt 0) 0 0 0 0 h = _ from e0, e1, e2, e3]
    unfold tW3
    cases tWf r s o 0
    · cases tWf r s o 1
      · cases tWf r s o 2 <;> rfl
      · rfl
    · rfl
