/-! ===== letters that none can read: the class ===== -/
def bAny (r : TR) (s : TS) (o p : Nat) : Nat → Bool
  | 0 => false
  | k + 1 => (bt (r.fo o (s.1 o)) (15 - k) && Nat.beq (r.ap o (15 - k)) p) || bAny r s o p k
def bTak (r : TR) (s : TS) (o p : Nat) : Nat → Bool
  | 0 => false
  | k + 1 => (bt (r.fo o (s.1 o)) (15 - k) && (Nat.beq (r.ap o (15 - k)) p && Nat.blt (ps_pl (r.k p) (s.2 p) (r.al o (15 - k))) 3)) || bTak r s o p k
theorem bAny_nil (r : TR) (s : TS) (o p : Nat) : ∀ k, k ≤ 15 → (∀ j, 15 - k < j → bt (r.fo o (s.1 o)) j = false) → bAny r s o p k = false ∧ bTak r s o p k = false := by
  intro k
  induction k with
  | zero => intro _ _; exact ⟨rfl, rfl⟩
  | succ k ih =>
    intro hk h
    have i := ih (by omega) (fun j hj => h j (by omega))
    unfold bAny bTak
    rw [h (15 - k) (by omega), i.1, i.2]
    exact ⟨rfl, rfl⟩
theorem br_l {h : am_H} {r : TR} (hr : r.ok) (t : T8 h r) {s : TS} (hs : r.sk s) {o p : Nat} (ho : o < 3) (hp : p < 6) (A F : Int32) (S : Int64) (n : Nat) : ∀ (k : Nat), k ≤ 15 → ∀ (b : Bool), g_X7_isBarred (n + k + 1) 0 S (nI o) (r.fo o (s.1 o)) A (nI p) (nI (ps_8 (r.k p) (s.2 p))) (bI b) (nI (16 - k)) h = some (bI ((b || bAny r s o p k) && !bTak r s o p k), h) := by
  intro k
  induction k with
  | zero =>
    intro _ b
    rw [show n + 0 + 1 = n + 1 from rfl, g_X7_isBarred, if_pos (show Int32.ofInt 15 < nI (16 - 0) by decide), b01_bI, cond_true]
    unfold bAny bTak
    rw [Bool.or_false, Bool.not_false, Bool.and_true]
  | succ k ih =>
    intro hk b
    have e16 : 16 - (k + 1) = 15 - k := by omega
    have n15 : ¬ Int32.ofInt 15 < nI (15 - k) := nI_nlt (a := 15) (b := 15 - k) (by omega) (by decide)
    have e17 : nI (15 - k) + Int32.ofInt 1 = nI (16 - k) := by rw [hp_1]; congr 1; omega
    rw [show n + (k + 1) + 1 = (n + k + 1) + 1 from rfl, g_X7_isBarred, e16, if_neg n15, e17]
    by_cases z : ((Int32.toUInt32 (r.fo o (s.1 o)) >>> (Int32.toUInt32 (nI (15 - k)) &&& Int32.toUInt32 31)).toInt32) = 0
    · rw [if_pos z, b01_bI, cond_true]
      have nil := bAny_nil r s o p (k + 1) hk (fun j hj => sh_zero (by omega) z j (by omega))
      rw [nil.1, nil.2, Bool.or_false, Bool.not_false, Bool.and_true]
    · rw [if_neg z, bt_8 _ (show 15 - k < 32 by omega)]
      unfold bAny bTak
      cases hb : bt (r.fo o (s.1 o)) (15 - k)
      · rw [bI_f, if_pos (show Int32.ofInt 0 = 0 from rfl), ih (by omega) b]
        rfl
      · have hv : r.av o (15 - k) := ⟨s.1 o, hs.1 o ho, hb⟩
        obtain ⟨q35, q30, -⟩ := t.2.2.2 o (15 - k) ho (by omega) (by omega) hv
        obtain ⟨-, -, al4, -⟩ := hr.2.2.2 o (15 - k) ho (by omega) hv (by omega)
        have hap := ap_lt hr ho (show 15 - k < 16 by omega) (by omega) hv
        rw [bI_t, if_neg (show ¬ Int32.ofInt 1 = 0 by decide), g9_ix, hp_vp (show 16 * o + (15 - k) < 48 by omega) (by decide), cond_true, nI_clamp (show 16 * o + (15 - k) < 2 ^ 31 by omega), q35]
        have ei : (nI (r.ap o (15 - k)) = nI p) ↔ r.ap o (15 - k) = p := nI_eq (by omega) (by omega)
        by_cases q : r.ap o (15 - k) = p
        · rw [if_pos (ei.mpr q), hp_vp hp (by decide), cond_true, nI_clamp (show p < 2 ^ 31 by omega), t.2.1 p hp, q30, ck8 (hr.1 p hp) (hs.2 p hp) al4, b2s, beq_t q]
          cases hl : Nat.blt (ps_pl (r.k p) (s.2 p) (r.al o (15 - k))) 3
          · rw [bI_f, if_pos (show Int32.ofInt 0 = 0 from rfl), show Int32.ofInt 1 = bI true from rfl, ih (by omega) true]
            simp only [Bool.true_and, Bool.and_false, Bool.false_or, Bool.true_or, Bool.or_true, Bool.and_true]
          · rw [bI_t, if_neg (show ¬ Int32.ofInt 1 = 0 by decide)]
            simp only [Bool.true_and, Bool.and_true, Bool.true_or, Bool.not_true, Bool.and_false]; rfl
        · rw [if_neg (fun x => q (ei.mp x)), beq_f q, ih (by omega) b]
          simp only [Bool.and_false, Bool.false_and, Bool.false_or]
def tBar (r : TR) (s : TS) (o f : Nat) : Bool := !Nat.beq (s.2 (pn f o)) 0 && (bAny r s o (pn f o) 15 && !bTak r s o (pn f o) 15)
theorem pst8a : ∀ f, f < 3 → ∀ t, t < 3 → f ≠ t → (Int32.ofInt 2 * nI f) + (if nI t ≤ nI f then nI t else nI t - Int32.ofInt 1) = nI (pn f t) := by decide +kernel
theorem pst8 {f t : Nat} (hf : f < 3) (ht : t < 3) (hft : f ≠ t) (h : am_H) : f_X8_postOf (nI f) (nI t) h = some (nI (pn f t), h) := by
  have e := pst8a f hf t ht hft
  unfold f_X8_postOf
  by_cases q : nI t ≤ nI f
  · rw [if_pos q] at e ⊢
    rw [b_some, e]
  · rw [if_neg q] at e ⊢
    rw [b_some, e]
theorem br_8 {h : am_H} {r : TR} (hr : r.ok) (t : T8 h r) {s : TS} (hs : r.sk s) {o f : Nat} (ho : o < 3) (hf : f < 3) (hfo : f ≠ o) (n : Nat) : f_X7_isBarred (n + 16) (lL (r.N s)) (nI o) (r.fo o (s.1 o)) (nI f) h = some (bI (tBar r s o f), h) := by
  have hp := pn_lt hf ho hfo
  have eo := sk_en hr hs
  obtain ⟨hv, -, hz⟩ := ps_v (hr.1 _ hp) (hs.2 _ hp)
  unfold f_X7_isBarred tBar
  rw [pst8 hf ho hfo, b2s, ct8_get _ hp, b2s]
  have e : r.N s / 2 ^ (12 + 8 * pn f o) % 256 = ps_8 (r.k (pn f o)) (s.2 (pn f o)) := en_ct eo hp
  rw [e]
  have z : (nI (ps_8 (r.k (pn f o)) (s.2 (pn f o))) = 0) ↔ ps_8 (r.k (pn f o)) (s.2 (pn f o)) = 0 := nI_eq (b := 0) (by omega) (by decide)
  by_cases q : s.2 (pn f o) = 0
  · rw [if_pos (z.mpr (hz.mpr q)), beq_t q]; rfl
  · rw [if_neg (fun x => q (hz.mp (z.mp x))), beq_f q]
    have l := br_l hr t hs ho hp (nI f) 0 (lL (r.N s)) n 15 (by decide) false
    rw [show n + 15 + 1 = n + 16 from rfl] at l
    rw [show g_X7_isBarred (n + 16) 0 (lL (r.N s)) (nI o) (r.fo o (s.1 o)) (nI f) (nI (pn f o)) (nI (ps_8 (r.k (pn f o)) (s.2 (pn f o)))) (Int32.ofInt 0) (Int32.ofInt 1) h = _ from l, Bool.false_or]
    rfl
