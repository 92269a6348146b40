/-! ===== steps: the class lists an act; the class lists all ===== -/
theorem N_put (r : TR) (s : TS) (p c : Nat) : r.N (ts_put s p c) = enN s.1 (updN (r.b s) p (ps_8 (r.k p) c)) := by
  unfold TR.N
  rw [b_put]; rfl
theorem l8_act {h : am_H} {r : TR} (hr : r.ok) (t : T8 h r) {s : TS} (hs : r.sk s) {o i : Nat} (ho : o < 3) (hi : i < 16) (h1 : 1 ≤ i) (hv : r.av o i) {L : List (Nat × TS)} (l : L8 h r L) (hl : L.length + 2 ≤ 90) : ∃ h', f_X7_listAct (lL (r.N s)) (nI o) (nI i) h = some ((), h') ∧ L8 h' r (L ++ ts_act r s o i) ∧ frT h h' := by
  obtain ⟨t1, t2, t3, t4⟩ := t
  obtain ⟨q35, q30, q36⟩ := t4 o i ho hi h1 hv
  have hp := ap_lt hr ho hi h1 hv
  obtain ⟨aq3, aqo, al4, aw2⟩ := hr.2.2.2 o i ho hi hv h1
  have hk := hr.1 _ hp
  have hok := hs.2 _ hp
  have eo := sk_en hr hs
  have eg := sk_en hr (sk_go hs (o := o) hi)
  have v48 : am_vp (nI (16 * o + i)) 48 = true := hp_vp (by omega) (by decide)
  have c48 : Int32.toNatClampNeg (nI (16 * o + i)) = 16 * o + i := nI_clamp (by omega)
  have v6 : am_vp (nI (r.ap o i)) 6 = true := hp_vp hp (by decide)
  have c6 : Int32.toNatClampNeg (nI (r.ap o i)) = r.ap o i := nI_clamp (by omega)
  have v3 : am_vp (nI o) 3 = true := hp_vp ho (by decide)
  have c3 : Int32.toNatClampNeg (nI o) = o := nI_clamp (by omega)
  have ct : f_X7_contentIn (lL (r.N s)) (nI (r.ap o i)) h = some (nI (ps_8 (r.k (r.ap o i)) (s.2 (r.ap o i))), h) := by
    rw [ct8_get _ hp]; unfold TR.N; rw [en_ct eo hp]; rfl
  have mv : ((lL (r.N s) &&& (((15 : Int64) <<< (Int32.toInt64 ((Int32.ofInt 4) * nI o) &&& 63)) ^^^ (-1 : Int64))) ||| ((Int32.toInt64 (nI i)) <<< (Int32.toInt64 ((Int32.ofInt 4) * nI o) &&& 63))) = lL (r.N (ts_go s o i)) := en_plu eo ho hi
  have nm : ((Int32.ofInt 100) * nI o) + nI i = nI (100 * o + i) := by rw [show Int32.ofInt 100 = nI 100 from rfl, nI_mul, nI_add]
  have nm2 : (Int32.ofInt 1000) + nI (100 * o + i) = nI (1000 + (100 * o + i)) := by rw [show Int32.ofInt 1000 = nI 1000 from rfl, nI_add]
  have kk2 : (nI (r.k (r.ap o i)) = Int32.ofInt 2) ↔ r.k (r.ap o i) = 2 := nI_eq (b := 2) (by omega) (by decide)
  have kk3 : (nI (r.k (r.ap o i)) = Int32.ofInt 3) ↔ r.k (r.ap o i) = 3 := nI_eq (b := 3) (by omega) (by decide)
  have kk4 : (nI (r.k (r.ap o i)) = Int32.ofInt 4) ↔ r.k (r.ap o i) = 4 := nI_eq (b := 4) (by omega) (by decide)
  unfold f_X7_listAct
  simp only [g9_ix, v48, c48, cond_true, q35, v6, c6, ct, b2s, v3, c3, t2 _ hp, q30, bt_8 (am_I h 36 o) (show i < 32 by omega), q36, mv, nm, nm2]
  unfold ts_act
  by_cases w : r.aw o i = 1
  · rw [if_pos w, decide_eq_true w]
    simp only [bI_t, o10, if_false, q30, ck8 hk hok al4, b2s]
    by_cases pl : ps_pl (r.k (r.ap o i)) (s.2 (r.ap o i)) (r.al o i) < 3
    · have cg := imp_b ((ps_get hk hok).2 _ al4).2.1 (blt_t pl)
      rw [Bool.and_eq_true] at cg
      have okw := cg.1
      have lt8 := (ps_v hk okw).1
      rw [if_pos pl, blt_t pl]
      simp only [bI_t, o10, if_false, q30, tk8 hk hok al4 pl, b2s]
      have wc := en_ctu eg hp lt8 h
      rw [show f_X7_withContent (lL (r.N (ts_go s o i))) (nI (r.ap o i)) (nI (ps_8 (r.k (r.ap o i)) (ps_wo (s.2 (r.ap o i)) (ps_pl (r.k (r.ap o i)) (s.2 (r.ap o i)) (r.al o i))))) h = _ from wc, b2s, show enN (ts_go s o i).1 (updN (r.b (ts_go s o i)) (r.ap o i) (ps_8 (r.k (r.ap o i)) (ps_wo (s.2 (r.ap o i)) (ps_pl (r.k (r.ap o i)) (s.2 (r.ap o i)) (r.al o i))))) = _ from (N_put r (ts_go s o i) (r.ap o i) _).symm]
      obtain ⟨h2, e2, l2, f2⟩ := l8_step l (by omega) (100 * o + i, ts_put (ts_go s o i) (r.ap o i) (ps_wo (s.2 (r.ap o i)) (ps_pl (r.k (r.ap o i)) (s.2 (r.ap o i)) (r.al o i))))
      rw [e2, b2s]
      by_cases k4 : r.k (r.ap o i) = 4
      · obtain ⟨h3, e3, l3, f3⟩ := l8_step l2 (by rw [List.length_append]; show L.length + 1 < 90; omega) (1000 + (100 * o + i), ts_go s o i)
        rw [if_pos (kk4.mpr k4), if_pos k4, e3]
        refine ⟨h3, rfl, ?_, frT_t f2 f3⟩
        rw [List.append_assoc] at l3; exact l3
      · rw [if_neg (fun x => k4 (kk4.mp x)), if_neg k4]
        exact ⟨h2, rfl, l2, f2⟩
    · rw [if_neg pl, blt_f pl]
      simp only [bI_f, o00, if_true]
      exact ⟨h, rfl, by rw [List.append_nil]; exact l, frT_r h⟩
  · rw [if_neg w, decide_eq_false w]
    simp only [bI_f, o00, if_true, ld8 hk hok, b2s, t1]
    have rm3 := hr.2.2.1
    have y : (if nI (r.k (r.ap o i)) = Int32.ofInt 2 then some (Int32.ofInt 1) else some (nI r.rm)) = some (nI (if r.k (r.ap o i) = 2 then 1 else r.rm)) := by
      by_cases k2 : r.k (r.ap o i) = 2
      · rw [if_pos (kk2.mpr k2), if_pos k2]; rfl
      · rw [if_neg (fun x => k2 (kk2.mp x)), if_neg k2]
    rw [y, b_some]
    have ly : (if r.k (r.ap o i) = 2 then 1 else r.rm) ≤ 3 := by split <;> omega
    by_cases z : ps_sz (s.2 (r.ap o i)) < (if r.k (r.ap o i) = 2 then 1 else r.rm)
    · have z3 : ps_sz (s.2 (r.ap o i)) < 3 := by omega
      have cg := imp_b ((ps_get hk hok).2 _ al4).1 (blt_t z3)
      rw [Bool.and_eq_true] at cg
      have okw := cg.1
      have lt8 := (ps_v hk okw).1
      rw [if_neg (nI_ge z (by omega)), if_pos z, q30, pt8 hk hok al4 z3, b2s]
      have wc := en_ctu eg hp lt8 h
      rw [show f_X7_withContent (lL (r.N (ts_go s o i))) (nI (r.ap o i)) (nI (ps_8 (r.k (r.ap o i)) (ps_put (r.k (r.ap o i)) (s.2 (r.ap o i)) (r.al o i)))) h = _ from wc, b2s, show enN (ts_go s o i).1 (updN (r.b (ts_go s o i)) (r.ap o i) (ps_8 (r.k (r.ap o i)) (ps_put (r.k (r.ap o i)) (s.2 (r.ap o i)) (r.al o i)))) = _ from (N_put r (ts_go s o i) (r.ap o i) _).symm]
      obtain ⟨h2, e2, l2, f2⟩ := l8_step l (by omega) (100 * o + i, ts_put (ts_go s o i) (r.ap o i) (ps_put (r.k (r.ap o i)) (s.2 (r.ap o i)) (r.al o i)))
      rw [e2, b2s]
      by_cases k3 : r.k (r.ap o i) = 3
      · obtain ⟨h3, e3, l3, f3⟩ := l8_step l2 (by rw [List.length_append]; show L.length + 1 < 90; omega) (1000 + (100 * o + i), ts_go s o i)
        rw [if_pos (kk3.mpr k3), if_pos k3, e3]
        refine ⟨h3, rfl, ?_, frT_t f2 f3⟩
        rw [List.append_assoc] at l3; exact l3
      · rw [if_neg (fun x => k3 (kk3.mp x)), if_neg k3]
        exact ⟨h2, rfl, l2, f2⟩
    · rw [if_pos (nI_le (by omega) (by have := sz_le (s.2 (r.ap o i)); omega)), if_neg z]
      exact ⟨h, rfl, by rw [List.append_nil]; exact l, frT_r h⟩
/-- the steps of one office, from an act on: k acts are left -/
def ts_off (r : TR) (s : TS) (o : Nat) : Nat → List (Nat × TS)
  | 0 => []
  | k + 1 => (bif bt (r.fo o (s.1 o)) (15 - k) then ts_act r s o (15 - k) else []) ++ ts_off r s o k
def ts_all (r : TR) (s : TS) : List (Nat × TS) := ts_off r s 0 15 ++ (ts_off r s 1 15 ++ ts_off r s 2 15)
theorem one_two {α : Type} (c : Prop) [Decidable c] (x y : α) : (x :: (if c then [y] else [])).length ≤ 2 := by
  by_cases h : c
  · rw [if_pos h]; exact Nat.le_refl _
  · rw [if_neg h]; exact Nat.le_succ _
theorem act_len (r : TR) (s : TS) (o i : Nat) : (ts_act r s o i).length ≤ 2 := by
  unfold ts_act
  by_cases w : r.aw o i = 1
  · rw [if_pos w]
    by_cases p : ps_pl (r.k (r.ap o i)) (s.2 (r.ap o i)) (r.al o i) < 3
    · rw [if_pos p]; exact one_two _ _ _
    · rw [if_neg p]; exact Nat.zero_le _
  · rw [if_neg w]
    by_cases p : ps_sz (s.2 (r.ap o i)) < (if r.k (r.ap o i) = 2 then 1 else r.rm)
    · rw [if_pos p]; exact one_two _ _ _
    · rw [if_neg p]; exact Nat.zero_le _
theorem off_len (r : TR) (s : TS) (o : Nat) : ∀ k, (ts_off r s o k).length ≤ 2 * k := by
  intro k
  induction k with
  | zero => exact Nat.le_refl _
  | succ k ih =>
    unfold ts_off
    rw [List.length_append]
    have := act_len r s o (15 - k)
    cases bt (r.fo o (s.1 o)) (15 - k)
    · show 0 + _ ≤ _; omega
    · show (ts_act r s o (15 - k)).length + _ ≤ _; omega
theorem off_nil (r : TR) (s : TS) (o : Nat) : ∀ k, k ≤ 15 → (∀ j, 15 - k < j → bt (r.fo o (s.1 o)) j = false) → ts_off r s o k = [] := by
  intro k
  induction k with
  | zero => intro _ _; rfl
  | succ k ih =>
    intro hk h
    unfold ts_off
    rw [h (15 - k) (by omega), ih (by omega) (fun j hj => h j (by omega))]; rfl
theorem sh_zero {x : Int32} {i : Nat} (hi : i < 32) (h : ((Int32.toUInt32 x >>> (Int32.toUInt32 (nI i) &&& Int32.toUInt32 31)).toInt32) = 0) : ∀ j, i ≤ j → bt x j = false := by
  intro j hj
  by_cases h32 : j < 32
  · have e := congrArg Int32.toBitVec h
    have e : x.toBitVec >>> ((((Int32.toUInt32 (nI i) &&& Int32.toUInt32 31)).toBitVec % 32#32).toNat) = 0#32 := e
    rw [bt_e1 i hi] at e
    have q := congrArg (fun v => v.getLsbD (j - i)) e
    simp only [BitVec.getLsbD_ushiftRight] at q
    rw [show i + (j - i) = j from by omega] at q
    show x.toBitVec.getLsbD j = false
    rw [q]; simp
  · exact bt_hi x (by omega)
