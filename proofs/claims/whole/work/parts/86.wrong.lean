/-! ===== letters that none can read: the reference's waits ===== -/
def oAll (r : TR) (s : TS) (o : Nat) : Nat → Bool
  | 0 => true
  | k + 1 => (!bt (r.fo o (s.1 o)) (15 - k) || Nat.beq (r.aw o (15 - k)) 1) && oAll r s o k
theorem ow_l {h : am_H} {r : TR} (hr : r.ok) {s : TS} (hs : r.sk s) (t : T9 h r s) {o : Nat} (ho : o < 3) (M : Int32) (hM : ∀ i, 1 ≤ i → i < 16 → bt M i = bt (r.fo o (s.1 o)) i) (n : Nat) : ∀ (k : Nat), k ≤ 15 → ∀ (x : Bool), g_X9_onlyWaits (n + k + 1) 0 (nI o) M (bI x) (nI (16 - k)) h = some (bI (x && oAll r s o k), h) := by
  intro k
  induction k with
  | zero =>
    intro _ x
    rw [show n + 0 + 1 = n + 1 from rfl, g_X9_onlyWaits, if_pos (show Int32.ofInt 16 ≤ nI (16 - 0) by decide), b01_bI, cond_true]
    unfold oAll
    rw [Bool.and_true]
  | succ k ih =>
    intro hk x
    have e16 : 16 - (k + 1) = 15 - k := by omega
    have n16 : ¬ Int32.ofInt 16 ≤ nI (15 - k) := nI_ge (a := 15 - k) (b := 16) (by omega) (by decide)
    have e17 : nI (15 - k) + Int32.ofInt 1 = nI (16 - k) := by rw [hp_1]; congr 1; omega
    rw [show n + (k + 1) + 1 = (n + k + 1) + 1 from rfl, g_X9_onlyWaits, e16, if_neg n16, e17]
    cases x
    · rw [bI_f, if_pos (show Int32.ofInt 0 = 0 from rfl), show Int32.ofInt 0 = bI false from rfl, b01_bI, cond_true, Bool.false_and]
    · rw [bI_t, if_neg (show ¬ Int32.ofInt 1 = 0 by decide), bt_9 M (show 15 - k < 32 by omega), hM (15 - k) (by omega) (by omega), Bool.true_and]
      unfold oAll
      cases hb : bt (r.fo o (s.1 o)) (15 - k)
      · rw [bI_f, if_pos (show Int32.ofInt 0 = 0 from rfl), b2s, show Int32.ofInt 1 = bI true from rfl, ih (by omega) true]; rfl
      · have hv : r.av o (15 - k) := ⟨s.1 o, hs.1 o ho, hb⟩
        obtain ⟨aq3, -, al4, aw2⟩ := hr.2.2.2 o (15 - k) ho (by omega) hv (by omega)
        obtain ⟨-, -, -, d4⟩ := cd9 _ aw2 _ aq3 _ al4
        rw [bI_t, if_neg (show ¬ Int32.ofInt 1 = 0 by decide), as9 hr t ho (by omega) (by omega) hv, b2s]
        by_cases w : r.aw o (15 - k) = 0
        · rw [if_pos (d4.mpr w), b2s, show Int32.ofInt 0 = bI false from rfl, ih (by omega) false, beq_f (show r.aw o (15 - k) ≠ 1 by omega)]; rfl
        · rw [if_neg (fun q => w (d4.mp q)), b2s, show Int32.ofInt 1 = bI true from rfl, ih (by omega) true, beq_t (show r.aw o (15 - k) = 1 by omega)]; rfl
/-- a letter that is waited for from an office -/
def wB (r : TR) (s : TS) (o f l : Nat) : Nat → Bool
  | 0 => false
  | k + 1 => (bt (r.fo o (s.1 o)) (15 - k) && (Nat.beq (r.aw o (15 - k)) 1 && (Nat.beq (r.aq o (15 - k)) f && Nat.beq (r.al o (15 - k)) l))) || wB r s o f l k
theorem wB_s (r : TR) (s : TS) (o f l k : Nat) : wB r s o f l (k + 1) = ((bt (r.fo o (s.1 o)) (15 - k) && (Nat.beq (r.aw o (15 - k)) 1 && (Nat.beq (r.aq o (15 - k)) f && Nat.beq (r.al o (15 - k)) l))) || wB r s o f l k) := rfl
theorem bit4 : ∀ a, a < 4 → ∀ l, l < 32 → bt ((Int32.ofInt 1) <<< (nI a &&& 31)) l = decide (l = a) := by decide
theorem wf_l {h : am_H} {r : TR} (hr : r.ok) {s : TS} (hs : r.sk s) (t : T9 h r s) {o f : Nat} (ho : o < 3) (hf : f < 3) (M : Int32) (hM : ∀ i, 1 ≤ i → i < 16 → bt M i = bt (r.fo o (s.1 o)) i) (n : Nat) : ∀ (k : Nat), k ≤ 15 → ∀ (x : Int32), ∃ W, g_X9_waitsFor (n + k + 1) 0 (nI o) (nI f) M x (nI (16 - k)) h = some (W, h) ∧ ∀ l, l < 32 → bt W l = (bt x l || wB r s o f l k) := by
  intro k
  induction k with
  | zero =>
    intro _ x
    refine ⟨x, ?_, fun l _ => by unfold wB; rw [Bool.or_false]⟩
    rw [show n + 0 + 1 = n + 1 from rfl, g_X9_waitsFor, if_pos (show Int32.ofInt 16 ≤ nI (16 - 0) by decide)]
  | succ k ih =>
    intro hk x
    have e16 : 16 - (k + 1) = 15 - k := by omega
    have n16 : ¬ Int32.ofInt 16 ≤ nI (15 - k) := nI_ge (a := 15 - k) (b := 16) (by omega) (by decide)
    have e17 : nI (15 - k) + Int32.ofInt 1 = nI (16 - k) := by rw [hp_1]; congr 1; omega
    rw [show n + (k + 1) + 1 = (n + k + 1) + 1 from rfl, g_X9_waitsFor, e16, if_neg n16, e17, bt_9 M (show 15 - k < 32 by omega), hM (15 - k) (by omega) (by omega)]
    cases hb : bt (r.fo o (s.1 o)) (15 - k)
    · rw [bI_f, if_neg (show ¬ Int32.ofInt 0 = Int32.ofInt 1 by decide), b2s]
      obtain ⟨W, e, p⟩ := ih (by omega) x
      refine ⟨W, e, fun l hl => ?_⟩
      rw [p l hl, wB_s, hb]; rfl
    · have hv : r.av o (15 - k) := ⟨s.1 o, hs.1 o ho, hb⟩
      obtain ⟨aq3, -, al4, aw2⟩ := hr.2.2.2 o (15 - k) ho (by omega) hv (by omega)
      obtain ⟨d1, d2, -, d4⟩ := cd9 _ aw2 _ aq3 _ al4
      rw [bI_t, if_pos rfl, as9 hr t ho (by omega) (by omega) hv, b2s, d1, d2]
      have eq : (nI (r.aq o (15 - k)) = nI f) ↔ r.aq o (15 - k) = f := nI_eq (by omega) (by omega)
      by_cases w : r.aw o (15 - k) = 0
      · rw [if_pos (d4.mpr w), b_some, b2s, or_0]
        obtain ⟨W, e, p⟩ := ih (by omega) x
        refine ⟨W, e, fun l hl => ?_⟩
        rw [p l hl, wB_s, hb, beq_f (show r.aw o (15 - k) ≠ 1 by omega)]; rfl
      · rw [if_neg (fun q => w (d4.mp q))]
        by_cases q : r.aq o (15 - k) = f
        · rw [if_pos (eq.mpr q), b_some, b2s]
          obtain ⟨W, e, p⟩ := ih (by omega) (x ||| ((Int32.ofInt 1) <<< (nI (r.al o (15 - k)) &&& 31)))
          refine ⟨W, e, fun l hl => ?_⟩
          rw [p l hl, bt_or, bit4 _ al4 l hl, wB_s, hb, beq_t (show r.aw o (15 - k) = 1 by omega), beq_t q, Bool.true_and, Bool.true_and, Bool.true_and, Bool.or_assoc]
          congr 2
          by_cases z : l = r.al o (15 - k)
          · rw [decide_eq_true z, beq_t z.symm]
          · rw [decide_eq_false z, beq_f (fun e => z e.symm)]
        · rw [if_neg (fun x => q (eq.mp x)), b_some, b2s, or_0]
          obtain ⟨W, e, p⟩ := ih (by omega) x
          refine ⟨W, e, fun l hl => ?_⟩
          rw [p l hl, wB_s, hb, beq_f q]
          simp only [Bool.false_and, Bool.and_false, Bool.false_or]
