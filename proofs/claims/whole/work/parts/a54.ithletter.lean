/-! ===== the i-th letter that lies in a post ===== -/
def lyC (x : Int32) (a : Nat) : Int32 := ((Int32.toUInt32 x >>> (Int32.toUInt32 ((Int32.ofInt 2) * nI a) &&& Int32.toUInt32 31)).toInt32) &&& (Int32.ofInt 3)
def lyV (x a : Int32) : Int32 := if a < Int32.ofInt 0 + lyC x 0 then nI 0 else if a < Int32.ofInt 0 + lyC x 0 + lyC x 1 then nI 1 else if a < Int32.ofInt 0 + lyC x 0 + lyC x 1 + lyC x 2 then nI 2 else nI 3
theorem ly_st (n : Nat) (a1 : Int64) (a3 a4 x5 x6 x7 : Int32) {k : Nat} (hk : k < 4) (h : am_H) : g_X7_lying (n + 1) 0 a1 a3 a4 x5 x6 x7 (nI k) h = (if a4 < x6 then some (x7, h) else g_X7_lying n 0 a1 a3 a4 x5 (x6 + lyC x5 k) (nI k) (nI (k + 1)) h) := by
  have mm : ¬ Int32.ofInt 4 ≤ nI k := nI_ge (a := k) (b := 4) (by omega) (by omega)
  rw [g_X7_lying, if_neg mm, hp_1]
  rfl
theorem ly_8 (n : Nat) (a1 : Int64) (a3 a4 x5 : Int32) (h0 : ¬ a4 < Int32.ofInt 0) (h : am_H) : g_X7_lying (n + 5) 0 a1 a3 a4 x5 (Int32.ofInt 0) (nI 0) (nI 0) h = some (lyV x5 a4, h) := by
  rw [ly_st (n + 4) a1 a3 a4 x5 _ _ (by decide), if_neg h0, ly_st (n + 3) a1 a3 a4 x5 _ _ (by decide)]
  unfold lyV
  by_cases c0 : a4 < Int32.ofInt 0 + lyC x5 0
  · rw [if_pos c0, if_pos c0]
  · rw [if_neg c0, if_neg c0, ly_st (n + 2) a1 a3 a4 x5 _ _ (by decide)]
    by_cases c1 : a4 < Int32.ofInt 0 + lyC x5 0 + lyC x5 1
    · rw [if_pos c1, if_pos c1]
    · rw [if_neg c1, if_neg c1, ly_st (n + 1) a1 a3 a4 x5 _ _ (by decide)]
      by_cases c2 : a4 < Int32.ofInt 0 + lyC x5 0 + lyC x5 1 + lyC x5 2
      · rw [if_pos c2, if_pos c2]
      · rw [if_neg c2, if_neg c2, g_X7_lying, if_pos (by decide)]
theorem ly_c1 : rg_all 125 (fun c => !ps_ok 1 c || rg_all 3 (fun j => !Nat.blt j (ps_sz c) || decide (lyV (nI (ps_8 1 c)) (nI j) = nI (ps_lt c j - 1)))) = true := by decide +kernel
def lyS (x : Int32) (j : Nat) : Int32 := ((Int32.toUInt32 x >>> (Int32.toUInt32 ((Int32.ofInt 2) + ((Int32.ofInt 2) * nI j)) &&& Int32.toUInt32 31)).toInt32) &&& (Int32.ofInt 3)
theorem ly_c2 : rg_all 5 (fun k => Nat.beq k 1 || rg_all 125 (fun c => !ps_ok k c || rg_all 3 (fun j => !Nat.blt j (ps_sz c) || decide (lyS (nI (ps_8 k c)) j = nI (ps_lt c j - 1))))) = true := by decide +kernel
theorem sz_3 (c : Nat) : ps_sz c ≤ 3 := by unfold ps_sz; split; omega; split; omega; split <;> omega
/-- what both tell: the letter, or none -/
def tLy (s : TS) (p : Nat) (i : Int32) : Int32 := if i < 0 then Int32.ofInt (-1) else if Int32.toNatClampNeg i < ps_sz (s.2 p) then nI (ps_lt (s.2 p) (Int32.toNatClampNeg i) - 1) else Int32.ofInt (-1)
theorem nn_nI {i : Int32} (h : ¬ i < 0) : i = nI (Int32.toNatClampNeg i) ∧ Int32.toNatClampNeg i < 2 ^ 31 := by
  have h0 : 0 ≤ i.toInt := by
    have h1 := Int32.not_lt.mp h
    have := Int32.le_iff_toInt_le.mp h1
    exact this
  have hlt : i.toInt < 2 ^ 31 := Int32.toInt_lt i
  have hc : Int32.toNatClampNeg i = i.toInt.toNat := rfl
  refine ⟨?_, by omega⟩
  apply Int32.toInt_inj.mp
  rw [nI_toInt (by omega), hc]
  omega
theorem lg_8 (n : Nat) {h : am_H} {r : TR} (hr : r.ok) (t : T8 h r) {s : TS} (hs : r.sk s) {p : Nat} (hp : p < 6) (i : Int32) : f_X7_lying (n + 5) (lL (r.N s)) (nI p) i h = some (tLy s p i, h) := by
  unfold f_X7_lying tLy
  by_cases c : i < 0
  · rw [if_pos c, if_pos c]
  · obtain ⟨e, hl⟩ := nn_nI c
    have hok := hs.2 p hp
    have hk := hr.1 p hp
    have z3 := sz_3 (s.2 p)
    have c125 : s.2 p < 125 := ps_lt125 hok
    rw [if_neg c, if_neg c, li_8 hr t hs hp, b2s]
    have lt : (i < nI (ps_sz (s.2 p))) ↔ Int32.toNatClampNeg i < ps_sz (s.2 p) := by
      rw [e, nI_ltI hl (by omega), nI_clamp hl]
    by_cases d : Int32.toNatClampNeg i < ps_sz (s.2 p)
    · have ct : f_X7_contentIn (lL (r.N s)) (nI p) h = some (nI (ps_8 (r.k p) (s.2 p)), h) := by
        rw [ct8_get _ hp]
        have := en_ct (sk_en hr hs) hp
        rw [show r.N s = enN s.1 (r.b s) from rfl, this]; rfl
      rw [if_pos (lt.mpr d), if_pos d, ct, b2s, hp_vp hp (by decide), cond_true, nI_clamp (by omega), t.2.1 p hp]
      by_cases k1 : r.k p = 1
      · rw [if_pos (show nI (r.k p) = Int32.ofInt 1 by rw [k1]; rfl)]
        have := ly_8 n (lL (r.N s)) (nI p) i (nI (ps_8 (r.k p) (s.2 p))) c h
        refine (show g_X7_lying (n + 5) 0 (lL (r.N s)) (nI p) i (nI (ps_8 (r.k p) (s.2 p))) (Int32.ofInt 0) (nI 0) (nI 0) h = _ from this).trans ?_
        rw [k1] at hok ⊢
        have h1 := List.all_eq_true.mp ly_c1 (s.2 p) (List.mem_range.mpr c125)
        rw [hok] at h1
        have h2 := List.all_eq_true.mp (show rg_all 3 _ = true from h1) (Int32.toNatClampNeg i) (List.mem_range.mpr (by omega))
        rw [show Nat.blt (Int32.toNatClampNeg i) (ps_sz (s.2 p)) = true from Nat.ble_eq_true_of_le d] at h2
        have h3 := of_decide_eq_true (show decide _ = true from h2)
        rw [← e] at h3
        rw [h3]
      · rw [if_neg (show ¬ nI (r.k p) = Int32.ofInt 1 from fun x => k1 ((nI_inj (b := 1) (by omega) (by decide)).mp x))]
        have h0 := List.all_eq_true.mp ly_c2 (r.k p) (List.mem_range.mpr hk)
        have kb : Nat.beq (r.k p) 1 = false := by
          cases hb : Nat.beq (r.k p) 1 with
          | false => rfl
          | true => exact absurd (Nat.eq_of_beq_eq_true hb) k1
        rw [kb] at h0
        have h1 := List.all_eq_true.mp (show rg_all 125 _ = true from h0) (s.2 p) (List.mem_range.mpr c125)
        rw [hok] at h1
        have h2 := List.all_eq_true.mp (show rg_all 3 _ = true from h1) (Int32.toNatClampNeg i) (List.mem_range.mpr (by omega))
        rw [show Nat.blt (Int32.toNatClampNeg i) (ps_sz (s.2 p)) = true from Nat.ble_eq_true_of_le d] at h2
        have h3 := of_decide_eq_true (show decide _ = true from h2)
        unfold lyS at h3
        rw [← e] at h3
        rw [h3]
    · rw [if_neg (fun x => d (lt.mp x)), if_neg d]
theorem ly_c3 : rg_all 5 (fun k => rg_all 125 (fun c => !ps_ok k c || rg_all 3 (fun j => !Nat.blt j (ps_sz c) || Nat.ble 1 (ps_lt c j)))) = true := by decide +kernel
theorem lg_9 {h : am_H} {r : TR} (hr : r.ok) {s : TS} (hs : r.sk s) (t : T9 h r s) {f u : Nat} (hf : f < 3) (hu : u < 3) (hfu : f ≠ u) (i : Int32) : (bif am_vp (((Int32.ofInt 3) * nI f) + nI u) 9 then (am_b2 (f_X9_sizeOf (am_I h 78 (Int32.toNatClampNeg (((Int32.ofInt 3) * nI f) + nI u))) h) fun r6 h7 => (am_b2 (f_X9_within i (Int32.ofInt 0) (r6 - (Int32.ofInt 1)) h7) fun r9 h10 => (am_b2 ((if r9 = 0 then some ((Int32.ofInt (-1)), h10) else am_b2 (f_X9_letterAt (am_I h 78 (Int32.toNatClampNeg (((Int32.ofInt 3) * nI f) + nI u))) i h10) fun r16 h17 => (some ((r16 - (Int32.ofInt 1)), h17)))) fun y12 h13 => (some (y12, h13))))) else none) = some (tLy s (pn f u) i, h) := by
  have hok := hs.2 (pn f u) (pn_lt hf hu hfu)
  have c125 : s.2 (pn f u) < 125 := ps_lt125 hok
  have z3 := sz_3 (s.2 (pn f u))
  have ix : (Int32.ofInt 3) * nI f + nI u = nI (3 * f + u) := by rw [show Int32.ofInt 3 = nI 3 from rfl, nI_mul, nI_add]
  rw [ix, hp_vp (by omega) (by decide), cond_true, nI_clamp (by omega), (t.2.1 f u hf hu hfu).2, sz9 c125, b2s, rd_w9, b2s]
  unfold tLy rd_rg
  by_cases c : i < 0
  · rw [if_pos c, decide_eq_true (show i < Int32.ofInt 0 from c)]
    rfl
  · obtain ⟨e, hl⟩ := nn_nI c
    rw [if_neg c, decide_eq_false (show ¬ i < Int32.ofInt 0 from c)]
    by_cases d : Int32.toNatClampNeg i < ps_sz (s.2 (pn f u))
    · have m1 : nI (ps_sz (s.2 (pn f u))) - Int32.ofInt 1 = nI (ps_sz (s.2 (pn f u)) - 1) := nI_m1 (by omega)
      have nl : ¬ nI (ps_sz (s.2 (pn f u)) - 1) < i := by rw [e, nI_ltI (by omega) hl]; omega
      rw [m1, decide_eq_false nl, if_pos d]
      have l9 := lt9 c125 (i := Int32.toNatClampNeg i) (by omega) h
      rw [← e] at l9
      have pos : ps_lt (s.2 (pn f u)) (Int32.toNatClampNeg i) ≠ 0 := by
        have h1 := List.all_eq_true.mp (List.all_eq_true.mp ly_c3 (r.k (pn f u)) (List.mem_range.mpr (hr.1 _ (pn_lt hf hu hfu)))) (s.2 (pn f u)) (List.mem_range.mpr c125)
        rw [hok] at h1
        have h2 := List.all_eq_true.mp (show rg_all 3 _ = true from h1) (Int32.toNatClampNeg i) (List.mem_range.mpr (by omega))
        rw [show Nat.blt (Int32.toNatClampNeg i) (ps_sz (s.2 (pn f u))) = true from Nat.ble_eq_true_of_le d] at h2
        have h3 := Nat.le_of_ble_eq_true (show Nat.ble 1 _ = true from h2)
        omega
      show am_b2 (am_b2 (f_X9_letterAt (nI (s.2 (pn f u))) i h) _) _ = _
      rw [l9, b2s, b2s, nI_m1 pos]
    · rw [if_neg d]
      have nl : nI (ps_sz (s.2 (pn f u))) - Int32.ofInt 1 < i := by
        have e1 : nI (ps_sz (s.2 (pn f u))) - Int32.ofInt 1 = Int32.ofInt ((ps_sz (s.2 (pn f u)) : Int) - 1) := by
          rw [show nI (ps_sz (s.2 (pn f u))) = Int32.ofInt (ps_sz (s.2 (pn f u))) from rfl, ← Int32.ofInt_sub]
        rw [e1]
        apply Int32.lt_iff_toInt_lt.mpr
        rw [Int32.toInt_ofInt_of_le (by omega) (by omega), e, nI_toInt hl]
        omega
      rw [decide_eq_true nl]
      rfl
