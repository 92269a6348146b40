/-! ===== steps: the reference's ===== -/
def T9 (h : am_H) (r : TR) (s : TS) : Prop := am_I h 51 11 = nI r.rm ∧ (∀ f t, f < 3 → t < 3 → f ≠ t → am_I h 59 (3 * f + t) = nI (r.k (pn f t)) ∧ am_I h 78 (3 * f + t) = nI (s.2 (pn f t))) ∧ (∀ o, o < 3 → am_I h 77 o = nI (s.1 o)) ∧ (∀ o, o < 3 → (am_I h 58 o = Int32.ofInt (-1) ∧ ∀ i j, 1 ≤ i → bt (r.fo o j) i = false) ∨ ∃ b, b < 8 ∧ am_I h 58 o = nI b ∧ (∀ j, j < 16 → am_I h 54 (16 * b + j) = r.fo o j) ∧ ∀ i, i < 16 → 1 ≤ i → r.av o i → (am_I h 51 40 = nI o ∧ am_I h 51 41 = nI i ∧ am_I h 51 42 = nI (r.al o i) ∧ ∃ l0, l0 < 4 ∧ am_I h 53 (16 * b + i) = nI (100 * r.aw o i + 10 * r.aq o i + l0)) ∨ (¬ (am_I h 51 40 = nI o ∧ am_I h 51 41 = nI i) ∧ am_I h 53 (16 * b + i) = nI (100 * r.aw o i + 10 * r.aq o i + r.al o i)))
def frS (h h' : am_H) : Prop := (h'.1 = h.1 ∧ am_K h' = am_K h ∧ am_A h' = am_A h ∧ am_J h' = am_J h) ∧ (∀ o, o ≠ 51 → o ≠ 79 → am_I h' o = am_I h o) ∧ ∀ k, k ≠ 44 → am_I h' 51 k = am_I h 51 k
theorem frS_r (h : am_H) : frS h h := ⟨⟨rfl, rfl, rfl, rfl⟩, fun _ _ _ => rfl, fun _ _ => rfl⟩
theorem frS_t {h h1 h2 : am_H} (x : frS h h1) (y : frS h1 h2) : frS h h2 := ⟨⟨y.1.1.trans x.1.1, y.1.2.1.trans x.1.2.1, y.1.2.2.1.trans x.1.2.2.1, y.1.2.2.2.trans x.1.2.2.2⟩, fun o a b => (y.2.1 o a b).trans (x.2.1 o a b), fun k a => (y.2.2 k a).trans (x.2.2 k a)⟩
theorem T9_fr {h h' : am_H} {r : TR} {s : TS} (t : T9 h r s) (f : frS h h') : T9 h' r s := by
  unfold T9
  rw [f.2.2 11 (by decide), f.2.2 40 (by decide), f.2.2 41 (by decide), f.2.2 42 (by decide), f.2.1 59 (by decide) (by decide), f.2.1 78 (by decide) (by decide), f.2.1 77 (by decide) (by decide), f.2.1 58 (by decide) (by decide), f.2.1 54 (by decide) (by decide), f.2.1 53 (by decide) (by decide)]
  exact t
def L9 (h : am_H) (L : List (Nat × TS)) : Prop := am_I h 51 44 = nI L.length ∧ ∀ t x, L[t]? = some x → am_I h 79 t = nI x.1
theorem cd9 : ∀ w, w < 2 → ∀ q, q < 3 → ∀ l, l < 4 → (nI (100 * w + 10 * q + l) - nI (100 * w + 10 * q + l) / (Int32.ofInt 100) * (Int32.ofInt 100)) / (Int32.ofInt 10) = nI q ∧ (nI (100 * w + 10 * q + l) - nI (100 * w + 10 * q + l) / (Int32.ofInt 10) * (Int32.ofInt 10)) = nI l ∧ (Int32.ofInt 100 ≤ nI (100 * w + 10 * q + l) ↔ w = 1) ∧ (nI (100 * w + 10 * q + l) < Int32.ofInt 100 ↔ w = 0) := by decide +kernel
theorem as9 {h : am_H} {r : TR} (hr : r.ok) {s : TS} (t : T9 h r s) {o i : Nat} (ho : o < 3) (hi : i < 16) (h1 : 1 ≤ i) (hv : r.av o i) : f_X9_actOfSeat (nI o) (nI i) h = some (nI (100 * r.aw o i + 10 * r.aq o i + r.al o i), h) := by
  obtain ⟨aq3, aqo, al4, aw2⟩ := hr.2.2.2 o i ho hi hv h1
  rcases t.2.2.2 o ho with ⟨-, no⟩ | ⟨b, hb, e69, -, ac⟩
  · obtain ⟨j, -, hj⟩ := hv
    rw [no i j h1] at hj; cases hj
  · unfold f_X9_actOfSeat
    rw [hp_vp ho (by decide), cond_true, nI_clamp (show o < 2 ^ 31 by omega), e69, g9_ix, hp_vp (show 16 * b + i < 128 by omega) (by decide), cond_true, nI_clamp (show 16 * b + i < 2 ^ 31 by omega)]
    rcases ac i hi h1 hv with ⟨e40, e41, e42, l0, hl0, e64⟩ | ⟨ne, e64⟩
    · rw [if_pos e40, if_pos e41, e64, e42, b_some]
      have d := (cd9 _ aw2 _ aq3 _ hl0).2.1
      rw [d]
      congr 2
      have e : nI (100 * r.aw o i + 10 * r.aq o i + l0) = nI (100 * r.aw o i + 10 * r.aq o i) + nI l0 := (nI_add _ _).symm
      rw [e, Int32.add_sub_cancel, nI_add]
    · rw [e64]
      by_cases e40 : am_I h 51 40 = nI o
      · rw [if_pos e40, if_neg (fun e41 => ne ⟨e40, e41⟩), b_some]
      · rw [if_neg e40, b_some]
theorem l9_push {h : am_H} {L : List (Nat × TS)} (l : L9 h L) (hl : L.length < 96) (x : Nat × TS) : L9 (am_sI (am_sI h 79 L.length (nI x.1)) 51 44 (nI (L.length + 1))) (L ++ [x]) ∧ frS h (am_sI (am_sI h 79 L.length (nI x.1)) 51 44 (nI (L.length + 1))) := by
  refine ⟨⟨?_, ?_⟩, ⟨rfl, rfl, rfl, rfl⟩, ?_, ?_⟩
  · rw [hp_I, upd_at, List.length_append]; rfl
  · intro t y hy
    rw [hp_I' _ _ _ (by decide), hp_I]
    by_cases e : t < L.length
    · rw [List.getElem?_append_left e] at hy
      rw [upd_ne (by omega)]; exact l.2 t y hy
    · rw [List.getElem?_append_right (by omega)] at hy
      have : t = L.length := by
        by_cases q : t - L.length = 0
        · omega
        · rw [List.getElem?_eq_none (by simp; omega)] at hy; cases hy
      subst this
      rw [Nat.sub_self] at hy
      have : x = y := by simpa using hy
      subst this
      rw [upd_at]
  · intro o h62 h90
    rw [hp_I' _ _ _ h62, hp_I' _ _ _ h90]
  · intro k hk
    rw [hp_I, upd_ne hk, hp_I' _ _ _ (by decide)]
theorem l9_act {h : am_H} {r : TR} (hr : r.ok) {s : TS} (hs : r.sk s) (t : T9 h r s) {o i : Nat} (ho : o < 3) (hi : i < 16) (h1 : 1 ≤ i) (hv : r.av o i) {L : List (Nat × TS)} (l : L9 h L) (hl : L.length + 2 ≤ 90) (n : Nat) : ∃ h', f_X9_layStep (n + 4) (nI o) (nI i) h = some ((), h') ∧ L9 h' (L ++ ts_act r s o i) ∧ frS h h' := by
  obtain ⟨aq3, aqo, al4, aw2⟩ := hr.2.2.2 o i ho hi hv h1
  have hp := ap_lt hr ho hi h1 hv
  have hk := hr.1 _ hp
  have hok := hs.2 _ hp
  have c125 := ps_lt125 hok
  obtain ⟨d1, d2, d3, d4⟩ := cd9 _ aw2 _ aq3 _ al4
  have v96 : am_vp (nI L.length) 96 = true := hp_vp (by omega) (by decide)
  have c96 : Int32.toNatClampNeg (nI L.length) = L.length := nI_clamp (by omega)
  have nm : ((Int32.ofInt 100) * nI o) + nI i = nI (100 * o + i) := by rw [show Int32.ofInt 100 = nI 100 from rfl, nI_mul, nI_add]
  have nm2 : ((Int32.ofInt 1000) + ((Int32.ofInt 100) * nI o)) + nI i = nI (1000 + (100 * o + i)) := by rw [show Int32.ofInt 100 = nI 100 from rfl, show Int32.ofInt 1000 = nI 1000 from rfl, nI_mul, nI_add, nI_add]; congr 1; omega
  -- what is laid
  have lay : ∀ (m b2 : Bool) (x y : Nat × TS), x.1 = 100 * o + i → y.1 = 1000 + (100 * o + i) → ∃ h', (Option.bind ((if bI m = 0 then some h else bif am_vp (am_I h 51 44) 96 then (some (am_sI (am_sI h 79 (Int32.toNatClampNeg (am_I h 51 44)) (nI (100 * o + i))) 51 44 ((am_I (am_sI h 79 (Int32.toNatClampNeg (am_I h 51 44)) (nI (100 * o + i))) 51 44) + (Int32.ofInt 1)))) else none)) fun h333 => (Option.bind ((if bI m = 0 then some h333 else (if bI b2 = 0 then some h333 else bif am_vp (am_I h333 51 44) 96 then (some (am_sI (am_sI h333 79 (Int32.toNatClampNeg (am_I h333 51 44)) (nI (1000 + (100 * o + i)))) 51 44 ((am_I (am_sI h333 79 (Int32.toNatClampNeg (am_I h333 51 44)) (nI (1000 + (100 * o + i)))) 51 44) + (Int32.ofInt 1)))) else none))) fun h387 => (some ((), h387)))) = some ((), h') ∧ L9 h' (L ++ (bif m then x :: (bif b2 then [y] else []) else [])) ∧ frS h h' := by
    intro m b2 x y hx hy
    cases m
    · exact ⟨h, by simp only [bI_f, o00, if_true, b_some], by show L9 h (L ++ []); rw [List.append_nil]; exact l, frS_r h⟩
    · have p1 := l9_push l (by omega) x
      rw [hx] at p1
      simp only [bI_t, o10, if_false, l.1, v96, c96, cond_true, hp_I', ne_eq, Nat.reduceEqDiff, not_false_eq_true, hp_1, b_some]
      cases b2
      · exact ⟨_, by simp only [bI_f, o00, if_true, b_some], p1.1, p1.2⟩
      · have p2 := l9_push p1.1 (by rw [List.length_append]; show L.length + 1 < 96; omega) y
        rw [hy] at p2
        have len : (L ++ [x]).length = L.length + 1 := by rw [List.length_append]; rfl
        rw [len] at p2
        refine ⟨_, ?_, ?_, frS_t p1.2 p2.2⟩
        · simp only [bI_t, o10, if_false, hp_I, upd_at, hp_vp (show L.length + 1 < 96 by omega) (by decide), nI_clamp (show L.length + 1 < 2 ^ 31 by omega), cond_true, hp_I', ne_eq, Nat.reduceEqDiff, not_false_eq_true, hp_1, b_some]
        · have := p2.1; rw [List.append_assoc] at this; exact this
  unfold f_X9_layStep
  rw [as9 hr t ho hi h1 hv, b2s]
  simp only [d1, d2, nm, nm2]
  by_cases w : r.aw o i = 1
  · have ap : r.ap o i = pn (r.aq o i) o := by unfold TR.ap; rw [if_pos w]
    have i9 : ((Int32.ofInt 3) * nI (r.aq o i)) + nI o = nI (3 * r.aq o i + o) := by rw [show Int32.ofInt 3 = nI 3 from rfl, nI_mul, nI_add]
    obtain ⟨e70, e89⟩ := t.2.1 (r.aq o i) o aq3 ho aqo
    rw [← ap] at e70 e89
    have v9 : am_vp (nI (3 * r.aq o i + o)) 9 = true := hp_vp (by omega) (by decide)
    have c9 : Int32.toNatClampNeg (nI (3 * r.aq o i + o)) = 3 * r.aq o i + o := nI_clamp (by omega)
    rw [if_pos (d3.mpr w), i9, pl9 n c125 al4 (by omega) h e70 hk e89, b2s]
    have k4 : (nI (r.k (r.ap o i)) = Int32.ofInt 4) ↔ r.k (r.ap o i) = 4 := nI_eq (b := 4) (by omega) (by decide)
    have y1 : (if ps_pI (ps_pl (r.k (r.ap o i)) (s.2 (r.ap o i)) (r.al o i)) = Int32.ofInt (-1) then some (Int32.ofInt 0) else some (Int32.ofInt 1)) = some (bI (decide (ps_pl (r.k (r.ap o i)) (s.2 (r.ap o i)) (r.al o i) < 3))) := by
      unfold ps_pI
      by_cases p : ps_pl (r.k (r.ap o i)) (s.2 (r.ap o i)) (r.al o i) < 3
      · rw [if_pos p, decide_eq_true p, if_neg]
        · rfl
        · have : ∀ z, z < 3 → ¬ nI z = Int32.ofInt (-1) := by decide
          exact this _ p
      · rw [if_neg p, decide_eq_false p, if_pos rfl]; rfl
    have y2 : (if nI (r.k (r.ap o i)) = Int32.ofInt 4 then some (Int32.ofInt 1) else some (Int32.ofInt 0)) = some (bI (decide (r.k (r.ap o i) = 4))) := by
      by_cases p : r.k (r.ap o i) = 4
      · rw [if_pos (k4.mpr p), decide_eq_true p]; rfl
      · rw [if_neg (fun x => p (k4.mp x)), decide_eq_false p]; rfl
    rw [y1, b_some, v9, cond_true, c9, e70, y2, b_some, b4s]
    obtain ⟨h', e', l', f'⟩ := lay (decide (ps_pl (r.k (r.ap o i)) (s.2 (r.ap o i)) (r.al o i) < 3)) (decide (r.k (r.ap o i) = 4)) (100 * o + i, ts_put (ts_go s o i) (r.ap o i) (ps_wo (s.2 (r.ap o i)) (ps_pl (r.k (r.ap o i)) (s.2 (r.ap o i)) (r.al o i)))) (1000 + (100 * o + i), ts_go s o i) rfl rfl
    refine ⟨h', e', ?_, f'⟩
    unfold ts_act
    rw [if_pos w]
    by_cases p : ps_pl (r.k (r.ap o i)) (s.2 (r.ap o i)) (r.al o i) < 3
    · rw [if_pos p]
      rw [decide_eq_true p, cond_true] at l'
      by_cases p4 : r.k (r.ap o i) = 4
      · rw [if_pos p4]; rw [decide_eq_true p4] at l'; exact l'
      · rw [if_neg p4]; rw [decide_eq_false p4] at l'; exact l'
    · rw [if_neg p]; rw [decide_eq_false p] at l'; exact l'
  · have w0 : r.aw o i = 0 := by omega
    have ap : r.ap o i = pn o (r.aq o i) := by unfold TR.ap; rw [if_neg w]
    have i9 : ((Int32.ofInt 3) * nI o) + nI (r.aq o i) = nI (3 * o + r.aq o i) := by rw [show Int32.ofInt 3 = nI 3 from rfl, nI_mul, nI_add]
    obtain ⟨e70, e89⟩ := t.2.1 o (r.aq o i) ho aq3 (Ne.symm aqo)
    rw [← ap] at e70 e89
    have v9 : am_vp (nI (3 * o + r.aq o i)) 9 = true := hp_vp (by omega) (by decide)
    have c9 : Int32.toNatClampNeg (nI (3 * o + r.aq o i)) = 3 * o + r.aq o i := nI_clamp (by omega)
    have rm3 := hr.2.2.1
    rw [if_neg (fun x => w (d3.mp x)), i9, v9, cond_true, c9, e89, sz9 c125, b2s, e70, t.1]
    have k2 : (nI (r.k (r.ap o i)) = Int32.ofInt 2) ↔ r.k (r.ap o i) = 2 := nI_eq (b := 2) (by omega) (by decide)
    have k3 : (nI (r.k (r.ap o i)) = Int32.ofInt 3) ↔ r.k (r.ap o i) = 3 := nI_eq (b := 3) (by omega) (by decide)
    have y : (if nI (r.k (r.ap o i)) = Int32.ofInt 2 then some (Int32.ofInt 1) else some (nI r.rm)) = some (nI (if r.k (r.ap o i) = 2 then 1 else r.rm)) := by
      by_cases p : r.k (r.ap o i) = 2
      · rw [if_pos (k2.mpr p), if_pos p]; rfl
      · rw [if_neg (fun x => p (k2.mp x)), if_neg p]
    have ly : (if r.k (r.ap o i) = 2 then 1 else r.rm) ≤ 3 := by split <;> omega
    have y1 : (if nI (if r.k (r.ap o i) = 2 then 1 else r.rm) ≤ nI (ps_sz (s.2 (r.ap o i))) then some (Int32.ofInt 0) else some (Int32.ofInt 1)) = some (bI (decide (ps_sz (s.2 (r.ap o i)) < (if r.k (r.ap o i) = 2 then 1 else r.rm)))) := by
      have := sz_le (s.2 (r.ap o i))
      by_cases p : ps_sz (s.2 (r.ap o i)) < (if r.k (r.ap o i) = 2 then 1 else r.rm)
      · rw [if_neg (nI_ge p (by omega)), decide_eq_true p]; rfl
      · rw [if_pos (nI_le (by omega) (by omega)), decide_eq_false p]; rfl
    have y2 : (if nI (r.k (r.ap o i)) = Int32.ofInt 3 then some (Int32.ofInt 1) else some (Int32.ofInt 0)) = some (bI (decide (r.k (r.ap o i) = 3))) := by
      by_cases p : r.k (r.ap o i) = 3
      · rw [if_pos (k3.mpr p), decide_eq_true p]; rfl
      · rw [if_neg (fun x => p (k3.mp x)), decide_eq_false p]; rfl
    rw [y, b_some, y1, b_some, y2, b_some, b4s]
    obtain ⟨h', e', l', f'⟩ := lay (decide (ps_sz (s.2 (r.ap o i)) < (if r.k (r.ap o i) = 2 then 1 else r.rm))) (decide (r.k (r.ap o i) = 3)) (100 * o + i, ts_put (ts_go s o i) (r.ap o i) (ps_put (r.k (r.ap o i)) (s.2 (r.ap o i)) (r.al o i))) (1000 + (100 * o + i), ts_go s o i) rfl rfl
    refine ⟨h', e', ?_, f'⟩
    unfold ts_act
    rw [if_neg w]
    by_cases p : ps_sz (s.2 (r.ap o i)) < (if r.k (r.ap o i) = 2 then 1 else r.rm)
    · rw [if_pos p]
      rw [decide_eq_true p, cond_true] at l'
      by_cases p4 : r.k (r.ap o i) = 3
      · rw [if_pos p4]; rw [decide_eq_true p4] at l'; exact l'
      · rw [if_neg p4]; rw [decide_eq_false p4] at l'; exact l'
    · rw [if_neg p]; rw [decide_eq_false p] at l'; exact l'
