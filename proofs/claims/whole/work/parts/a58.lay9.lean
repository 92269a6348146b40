/-! ===== the reference lays a state: the rules stay ===== -/
theorem T9_lay {h h' : am_H} {r : TR} {s s' : TS} (t : T9 h r s) (f : frD h h') (w : W9 h' s') : T9 h' r s' := by
  obtain ⟨t1, t2, t3, t4⟩ := t
  obtain ⟨f0, fI⟩ := f
  obtain ⟨w1, w2, w3, w4, w5, w6, w7⟩ := w
  refine ⟨by rw [fI 51 (by decide) (by decide)]; exact t1, fun a b ha hb hab => ⟨by rw [fI 59 (by decide) (by decide)]; exact (t2 a b ha hb hab).1, ?_⟩, w1, ?_⟩
  · have c : (a = 0 ∧ b = 1) ∨ (a = 0 ∧ b = 2) ∨ (a = 1 ∧ b = 0) ∨ (a = 1 ∧ b = 2) ∨ (a = 2 ∧ b = 0) ∨ (a = 2 ∧ b = 1) := by omega
    rcases c with ⟨rfl, rfl⟩ | ⟨rfl, rfl⟩ | ⟨rfl, rfl⟩ | ⟨rfl, rfl⟩ | ⟨rfl, rfl⟩ | ⟨rfl, rfl⟩
    · exact w2
    · exact w3
    · exact w4
    · exact w5
    · exact w6
    · exact w7
  · rw [fI 58 (by decide) (by decide), fI 53 (by decide) (by decide), fI 54 (by decide) (by decide), fI 51 (by decide) (by decide)]
    exact t4
/-- only places and posts have changed, and not the three posts that are none -/
def frZ (h h' : am_H) : Prop := frD h h' ∧ am_I h' 78 0 = am_I h 78 0 ∧ am_I h' 78 4 = am_I h 78 4 ∧ am_I h' 78 8 = am_I h 78 8
theorem frZ_z {h h' : am_H} (f : frZ h h') (z : Z9 h) : Z9 h' := ⟨f.2.1.trans z.1, f.2.2.1.trans z.2.1, f.2.2.2.trans z.2.2⟩
/-- a step that is listed is done: the three posts that are none stay -/
theorem d9z {h : am_H} {r : TR} (hr : r.ok) {s : TS} (hs : r.sk s) (t : T9 h r s) {o i : Nat} (ho : o < 3) (hi : i < 16) (h1 : 1 ≤ i) (hv : r.av o i) {x : Nat × TS} (hx : x ∈ ts_act r s o i) (n : Nat) : ∃ h', f_X9_doStep (n + 4) (nI x.1) h = some ((), h') ∧ T9 h' r x.2 ∧ frZ h h' ∧ r.sk x.2 := by
  obtain ⟨aq3, aqo, al4, aw2⟩ := hr.2.2.2 o i ho hi hv h1
  have hp := ap_lt hr ho hi h1 hv
  have zz : ∀ {a b : Nat} (x y : Int32), b ≠ a → am_I (am_sI (am_sI h 78 a x) 77 o y) 78 b = am_I h 78 b := fun x y ne => by rw [hp_I' _ _ _ (by decide), hp_I, upd_ne ne]
  have hk := hr.1 _ hp
  have hok := hs.2 _ hp
  have c125 := ps_lt125 hok
  obtain ⟨d1, d2, d3, d4⟩ := cd9 _ aw2 _ aq3 _ al4
  have v3 : am_vp (nI o) 3 = true := hp_vp ho (by decide)
  have c3 : Int32.toNatClampNeg (nI o) = o := nI_clamp (by omega)
  have k1 : (nI (r.k (r.ap o i)) = Int32.ofInt 1) ↔ r.k (r.ap o i) = 1 := nI_eq (b := 1) (by omega) (by decide)
  -- way 1: only the place
  have way1 : ∃ h', f_X9_doStep (n + 4) (nI (1000 + (100 * o + i))) h = some ((), h') ∧ T9 h' r (ts_go s o i) ∧ frZ h h' ∧ r.sk (ts_go s o i) := by
    obtain ⟨e1, e2, e3⟩ := td9 1 (by decide) o ho i hi
    refine ⟨am_sI h 77 o (nI i), ?_, T9_go t, ⟨⟨⟨rfl, rfl, rfl, rfl⟩, fun q a _ => hp_I' _ _ _ a⟩, rfl, rfl, rfl⟩, sk_go hs hi⟩
    have n0 : ¬ nI (1000 + (100 * o + i)) / (Int32.ofInt 1000) = 0 := fun q => absurd (e3.mp q) (by decide)
    have e1 : (nI (1000 + (100 * o + i)) - nI (1000 + (100 * o + i)) / (Int32.ofInt 1000) * (Int32.ofInt 1000)) / (Int32.ofInt 100) = nI o := e1
    have e2 : (nI (1000 + (100 * o + i)) - nI (1000 + (100 * o + i)) / (Int32.ofInt 100) * (Int32.ofInt 100)) = nI i := e2
    unfold f_X9_doStep
    rw [e1, e2, as9 hr t ho hi h1 hv, b2s]
    simp only [if_neg n0, ite_self, b_some, v3, c3, cond_true]
  obtain ⟨e1, e2, e3⟩ := td9 0 (by decide) o ho i hi
  rw [show 1000 * 0 + (100 * o + i) = 100 * o + i from by omega] at e1 e2 e3
  have z0 := e3.mpr rfl
  rcases ts_x hx with ⟨w, p, rfl | rfl⟩ | ⟨w, p, rfl | rfl⟩
  · have ap : r.ap o i = pn (r.aq o i) o := by unfold TR.ap; rw [if_pos w]
    have i9 : ((Int32.ofInt 3) * nI (r.aq o i)) + nI o = nI (3 * r.aq o i + o) := by rw [show Int32.ofInt 3 = nI 3 from rfl, nI_mul, nI_add]
    obtain ⟨e70, e89⟩ := t.2.1 (r.aq o i) o aq3 ho aqo
    rw [← ap] at e70 e89
    have v9 : am_vp (nI (3 * r.aq o i + o)) 9 = true := hp_vp (by omega) (by decide)
    have c9 : Int32.toNatClampNeg (nI (3 * r.aq o i + o)) = 3 * r.aq o i + o := nI_clamp (by omega)
    have cg := imp_b ((ps_get hk hok).2 _ al4).2.1 (blt_t p)
    rw [Bool.and_eq_true] at cg
    have psz : ps_pl (r.k (r.ap o i)) (s.2 (r.ap o i)) (r.al o i) < ps_sz (s.2 (r.ap o i)) := by
      revert p
      unfold ps_pl
      split
      · omega
      · split
        · omega
        · split
          · omega
          · intro q; exact absurd q (by decide)
    have T := T9_go (o := o) (i := i) (T9_put t (f := r.aq o i) (u := o) (c := ps_wo (s.2 (r.ap o i)) (ps_pl (r.k (r.ap o i)) (s.2 (r.ap o i)) (r.al o i))) aq3 ho aqo)
    rw [← ap] at T
    refine ⟨_, ?_, T, ⟨⟨⟨rfl, rfl, rfl, rfl⟩, fun q a b => by rw [hp_I' _ _ _ a, hp_I' _ _ _ b]⟩, zz _ _ (by omega), zz _ _ (by omega), zz _ _ (by omega)⟩, sk_put (sk_go hs hi) cg.1⟩
    unfold f_X9_doStep
    rw [e1, e2, as9 hr t ho hi h1 hv, b2s, if_pos (d3.mpr w), b_some, if_neg (fun q => absurd (d4.mp q) (by omega)), if_pos z0, d1, d2, i9, v9, cond_true, pl9 n c125 al4 (by omega) h e70 hk e89, b2s, c9, e89]
    unfold ps_pI
    rw [if_pos p, wo9 n c125 psz, b2s, b_some, v3, cond_true, c3]
  · exact way1
  · have w0 : r.aw o i = 0 := by omega
    have ap : r.ap o i = pn o (r.aq o i) := by unfold TR.ap; rw [if_neg w]
    have i9 : ((Int32.ofInt 3) * nI o) + nI (r.aq o i) = nI (3 * o + r.aq o i) := by rw [show Int32.ofInt 3 = nI 3 from rfl, nI_mul, nI_add]
    obtain ⟨e70, e89⟩ := t.2.1 o (r.aq o i) ho aq3 (Ne.symm aqo)
    rw [← ap] at e70 e89
    have v9 : am_vp (nI (3 * o + r.aq o i)) 9 = true := hp_vp (by omega) (by decide)
    have c9 : Int32.toNatClampNeg (nI (3 * o + r.aq o i)) = 3 * o + r.aq o i := nI_clamp (by omega)
    have rm3 := hr.2.2.1
    have ly : (if r.k (r.ap o i) = 2 then 1 else r.rm) ≤ 3 := by split <;> omega
    have z3 : ps_sz (s.2 (r.ap o i)) < 3 := by omega
    have cg := imp_b ((ps_get hk hok).2 _ al4).1 (blt_t z3)
    rw [Bool.and_eq_true] at cg
    have T := T9_go (o := o) (i := i) (T9_put t (f := o) (u := r.aq o i) (c := ps_put (r.k (r.ap o i)) (s.2 (r.ap o i)) (r.al o i)) ho aq3 (Ne.symm aqo))
    rw [← ap] at T
    refine ⟨_, ?_, T, ⟨⟨⟨rfl, rfl, rfl, rfl⟩, fun q a b => by rw [hp_I' _ _ _ a, hp_I' _ _ _ b]⟩, zz _ _ (by omega), zz _ _ (by omega), zz _ _ (by omega)⟩, sk_put (sk_go hs hi) cg.1⟩
    have lay : (if nI (r.k (r.ap o i)) = Int32.ofInt 1 then am_b2 (f_X9_among (n + 4) (nI (s.2 (r.ap o i))) (nI (r.al o i)) h) fun r16 h17 => (some (r16, h17)) else am_b2 (f_X9_behind (nI (s.2 (r.ap o i))) (nI (r.al o i)) h) fun r13 h14 => (some (r13, h14))) = some (nI (ps_put (r.k (r.ap o i)) (s.2 (r.ap o i)) (r.al o i)), h) := by
      unfold ps_put
      by_cases q : r.k (r.ap o i) = 1
      · rw [if_pos (k1.mpr q), if_pos q, am9 n c125 al4 z3, b2s]
      · rw [if_neg (fun x => q (k1.mp x)), if_neg q, be9 c125, b2s]
    unfold f_X9_doStep
    rw [e1, e2, as9 hr t ho hi h1 hv, b2s, if_neg (fun q => w (d3.mp q)), if_pos z0, d1, d2, i9, v9, cond_true, c9, e70, e89, lay, b2s, b_some, if_pos (d4.mpr w0), b_some, v3, cond_true, c3]
  · exact way1

/-- a listed step is done, and the state behind it told -/
theorem st_9 {h : am_H} {r : TR} (hr : r.ok) {s : TS} (hs : r.sk s) (t : T9 h r s) {x : Nat × TS} (hx : x ∈ ts_all r s) (n : Nat) : ∃ h', f_X9_doStep (n + 4) (nI x.1) h = some ((), h') ∧ T9 h' r x.2 ∧ frZ h h' ∧ r.sk x.2 ∧ ∀ m, f_X9_asState (m + 20) h' = some (lL (wN x.2), h') := by
  have key : ∀ o, o < 3 → x ∈ ts_off r s o 15 → ∃ h', f_X9_doStep (n + 4) (nI x.1) h = some ((), h') ∧ T9 h' r x.2 ∧ frZ h h' ∧ r.sk x.2 ∧ ∀ m, f_X9_asState (m + 20) h' = some (lL (wN x.2), h') := by
    intro o ho hm
    obtain ⟨i, i1, i16, hb, ha⟩ := ts_off_m 15 (Nat.le_refl _) hm
    obtain ⟨h', e, t', f', s'⟩ := d9z hr hs t ho i16 i1 ⟨s.1 o, hs.1 o ho, hb⟩ ha n
    exact ⟨h', e, t', f', s', fun m => as_st m (T9_W t') (sk_w s')⟩
  have hx : x ∈ ts_off r s 0 15 ++ (ts_off r s 1 15 ++ ts_off r s 2 15) := hx
  rcases List.mem_append.mp hx with hm | hm
  · exact key 0 (by decide) hm
  · rcases List.mem_append.mp hm with hm | hm
    · exact key 1 (by decide) hm
    · exact key 2 (by decide) hm
/-- a state is laid, whatever stood there -/
theorem ly_9 {h : am_H} {r : TR} {s s' : TS} (t : T9 h r s) (hs : r.sk s') (m : Nat) : ∃ h', f_X9_layState (m + 20) (lL (wN s')) h = some ((), h') ∧ T9 h' r s' ∧ frZ h h' := by
  obtain ⟨h', e, w, f⟩ := ls_st m h (sk_w hs)
  have e2 := ls_run m (lL (wN s')) (sk_w hs) h
  have e3 : some ((), h') = some ((), _) := e.symm.trans e2
  injection e3 with e3
  injection e3 with _ e3
  refine ⟨h', e, T9_lay t f w, f, ?_, ?_, ?_⟩
  · rw [e3]; rfl
  · rw [e3]; rfl
  · rw [e3]; rfl
