/-! ===== steps: the reference's list, and a step done ===== -/
theorem l9_off {r : TR} (hr : r.ok) {s : TS} (hs : r.sk s) {o : Nat} (ho : o < 3) (M : Int32) (hM : ∀ i, 1 ≤ i → i < 16 → bt M i = bt (r.fo o (s.1 o)) i) (n : Nat) : ∀ (k : Nat), k ≤ 15 → ∀ (h : am_H) (L : List (Nat × TS)), T9 h r s → L9 h L → L.length + 2 * k ≤ 90 →
    ∃ h', g_X9_laySteps (n + k + 5) 1 (nI o) M (nI (16 - k)) h = g_X9_laySteps (n + 4) 0 (nI (o + 1)) 0 0 h' ∧ L9 h' (L ++ ts_off r s o k) ∧ frS h h' := by
  intro k
  induction k with
  | zero =>
    intro _ h L t l hl
    refine ⟨h, ?_, by unfold ts_off; rw [List.append_nil]; exact l, frS_r h⟩
    rw [show n + 0 + 5 = (n + 4) + 1 from rfl, g_X9_laySteps]
    simp only [q10, cond_false, if_pos (show Int32.ofInt 16 ≤ nI (16 - 0) by decide), hp_1]
  | succ k ih =>
    intro hk h L t l hl
    have e16 : 16 - (k + 1) = 15 - k := by omega
    have n16 : ¬ Int32.ofInt 16 ≤ nI (15 - k) := nI_ge (a := 15 - k) (b := 16) (by omega) (by decide)
    have e17 : nI (15 - k) + Int32.ofInt 1 = nI (16 - k) := by rw [hp_1]; congr 1; omega
    rw [show n + (k + 1) + 5 = (n + k + 5) + 1 from by omega, g_X9_laySteps, e16]
    simp only [q10, cond_false, if_neg n16, bt_9 M (show 15 - k < 32 by omega), e17]
    unfold ts_off
    rw [hM (15 - k) (by omega) (by omega)]
    cases hb : bt (r.fo o (s.1 o)) (15 - k)
    · rw [bI_f, if_neg (by decide), b_some]
      exact ih (by omega) h L t l (by omega)
    · have hv : r.av o (15 - k) := ⟨s.1 o, hs.1 o ho, hb⟩
      obtain ⟨h2, e2, l2, f2⟩ := l9_act hr hs t ho (show 15 - k < 16 by omega) (by omega) hv l (by omega) (n + k + 1)
      rw [show n + k + 1 + 4 = n + k + 5 from by omega] at e2
      rw [bI_t, if_pos rfl, e2, b2s, b_some]
      have len := act_len r s o (15 - k)
      obtain ⟨h3, e3, l3, f3⟩ := ih (by omega) h2 (L ++ ts_act r s o (15 - k)) (T9_fr t f2) l2 (by rw [List.length_append]; omega)
      refine ⟨h3, e3, ?_, frS_t f2 f3⟩
      rw [List.append_assoc] at l3; exact l3
theorem fn9 {h : am_H} {r : TR} {s : TS} (hs : r.sk s) (t : T9 h r s) {o : Nat} (ho : o < 3) : ∃ M, f_X9_followNow (nI o) h = some (M, h) ∧ (∀ i, 1 ≤ i → i < 16 → bt M i = bt (r.fo o (s.1 o)) i) ∧ (am_I h 58 o = Int32.ofInt (-1) ∧ M = Int32.ofInt 1 ∨ ¬ am_I h 58 o = Int32.ofInt (-1) ∧ M = r.fo o (s.1 o)) := by
  have hp := hs.1 o ho
  rcases t.2.2.2 o ho with ⟨e69, no⟩ | ⟨b, hb, e69, e65, -⟩
  · refine ⟨Int32.ofInt 1, ?_, fun i h1 h2 => ?_, Or.inl ⟨e69, rfl⟩⟩
    · unfold f_X9_followNow
      rw [hp_vp ho (by decide), cond_true, nI_clamp (show o < 2 ^ 31 by omega), if_pos e69, b_some]
    · rw [no i _ h1]
      have : ∀ i, i < 16 → 1 ≤ i → bt (Int32.ofInt 1) i = false := by decide
      exact this i h2 h1
  · have nm : ¬ nI b = Int32.ofInt (-1) := by
      have : ∀ b, b < 8 → ¬ nI b = Int32.ofInt (-1) := by decide
      exact this b hb
    refine ⟨r.fo o (s.1 o), ?_, fun _ _ _ => rfl, Or.inr ⟨by rw [e69]; exact nm, rfl⟩⟩
    unfold f_X9_followNow
    rw [hp_vp ho (by decide), cond_true, nI_clamp (show o < 2 ^ 31 by omega), e69, if_neg nm, t.2.2.1 o ho, g9_ix, hp_vp (show 16 * b + s.1 o < 128 by omega) (by decide), cond_true, nI_clamp (show 16 * b + s.1 o < 2 ^ 31 by omega), e65 _ hp, b_some]
theorem l9_list {h : am_H} {r : TR} (hr : r.ok) {s : TS} (hs : r.sk s) (t : T9 h r s) (F : Nat) (hF : 100 ≤ F) : ∃ h', f_X9_laySteps F h = some ((), h') ∧ L9 h' (ts_all r s) ∧ frS h h' := by
  have f0 : frS h (am_sI h 51 44 (Int32.ofInt 0)) := ⟨⟨rfl, rfl, rfl, rfl⟩, fun o a _ => hp_I' _ _ _ a, fun k hk => by rw [hp_I, upd_ne hk]⟩
  have l0 : L9 (am_sI h 51 44 (Int32.ofInt 0)) [] := ⟨by rw [hp_I, upd_at]; rfl, fun t x hx => by simp at hx⟩
  have off : ∀ (o : Nat), o < 3 → ∀ (F : Nat) (h : am_H) (L : List (Nat × TS)), 30 ≤ F → T9 h r s → L9 h L → L.length + 30 ≤ 90 → ∃ h', g_X9_laySteps F 0 (nI o) 0 0 h = g_X9_laySteps (F - 17) 0 (nI (o + 1)) 0 0 h' ∧ L9 h' (L ++ ts_off r s o 15) ∧ frS h h' := by
    intro o ho F h L hF t l hl
    obtain ⟨M, eM, hM, -⟩ := fn9 hs t ho
    obtain ⟨h', e, l', f'⟩ := l9_off hr hs ho M hM (F - 21) 15 (by decide) h L t l (by omega)
    refine ⟨h', ?_, l', f'⟩
    have e1 : g_X9_laySteps F 0 (nI o) 0 0 h = g_X9_laySteps (F - 1) 1 (nI o) M (Int32.ofInt 1) h := by
      rw [show F = (F - 1) + 1 from by omega, g_X9_laySteps]
      simp only [q00, cond_true, if_neg (show ¬ Int32.ofInt 3 ≤ nI o from nI_ge (a := o) (b := 3) ho (by decide)), eM, b2s]
      rw [show F - 1 + 1 - 1 = F - 1 from by omega]
    rw [e1]
    rw [show F - 21 + 15 + 5 = F - 1 from by omega, show F - 21 + 4 = F - 17 from by omega] at e
    exact e
  have k0 := off_len r s 0 15
  have k1 := off_len r s 1 15
  obtain ⟨h1, e1, l1, f1⟩ := off 0 (by decide) F (am_sI h 51 44 (Int32.ofInt 0)) [] (by omega) (T9_fr t f0) l0 (by decide)
  obtain ⟨h2, e2, l2, f2⟩ := off 1 (by decide) (F - 17) h1 ([] ++ ts_off r s 0 15) (by omega) (T9_fr t (frS_t f0 f1)) l1 (by rw [List.nil_append]; omega)
  obtain ⟨h3, e3, l3, f3⟩ := off 2 (by decide) (F - 17 - 17) h2 ([] ++ ts_off r s 0 15 ++ ts_off r s 1 15) (by omega) (T9_fr t (frS_t f0 (frS_t f1 f2))) l2 (by rw [List.length_append, List.nil_append]; omega)
  have le : [] ++ ts_off r s 0 15 ++ ts_off r s 1 15 ++ ts_off r s 2 15 = ts_all r s := by unfold ts_all; rw [List.nil_append, List.append_assoc]
  rw [le] at l3
  refine ⟨h3, ?_, l3, frS_t f0 (frS_t f1 (frS_t f2 f3))⟩
  unfold f_X9_laySteps
  rw [show g_X9_laySteps F 0 (Int32.ofInt 0) 0 0 (am_sI h 51 44 (Int32.ofInt 0)) = _ from e1, e2, e3, show F - 17 - 17 - 17 = (F - 52) + 1 from by omega, g_X9_laySteps]
  simp only [q00, cond_true, if_pos (show Int32.ofInt 3 ≤ nI (2 + 1) by decide)]
theorem td9 : ∀ y, y < 2 → ∀ o, o < 3 → ∀ i, i < 16 → (nI (1000 * y + (100 * o + i)) - nI (1000 * y + (100 * o + i)) / (Int32.ofInt 1000) * (Int32.ofInt 1000)) / (Int32.ofInt 100) = nI o ∧ (nI (1000 * y + (100 * o + i)) - nI (1000 * y + (100 * o + i)) / (Int32.ofInt 100) * (Int32.ofInt 100)) = nI i ∧ (nI (1000 * y + (100 * o + i)) / (Int32.ofInt 1000) = 0 ↔ y = 0) := by decide +kernel
theorem pn_inj (f : Nat) (hf : f < 3) (t : Nat) (ht : t < 3) (hft : f ≠ t) (g : Nat) (hg : g < 3) (u : Nat) (hu : u < 3) (hgu : g ≠ u) : (pn f t = pn g u ↔ 3 * f + t = 3 * g + u) := by
  unfold pn
  split <;> split <;> omega
/-- only places and posts have changed -/
def frD (h h' : am_H) : Prop := (h'.1 = h.1 ∧ am_K h' = am_K h ∧ am_A h' = am_A h ∧ am_J h' = am_J h) ∧ ∀ o, o ≠ 77 → o ≠ 78 → am_I h' o = am_I h o
theorem T9_go {h : am_H} {r : TR} {s : TS} (t : T9 h r s) {o i : Nat} : T9 (am_sI h 77 o (nI i)) r (ts_go s o i) := by
  obtain ⟨t1, t2, t3, t4⟩ := t
  refine ⟨by rw [hp_I' _ _ _ (by decide)]; exact t1, fun f u hf hu hfu => by rw [hp_I' _ _ _ (by decide), hp_I' _ _ _ (by decide)]; exact t2 f u hf hu hfu, fun q hq => ?_, ?_⟩
  · rw [hp_I]
    show upd (am_I h 77) o (nI i) q = nI (updN s.1 o i q)
    unfold upd updN
    split
    · rfl
    · exact t3 q hq
  · simp only [hp_I', ne_eq, Nat.reduceEqDiff, not_false_eq_true]
    exact t4
theorem T9_put {h : am_H} {r : TR} {s : TS} (t : T9 h r s) {f u c : Nat} (hf : f < 3) (hu : u < 3) (hfu : f ≠ u) : T9 (am_sI h 78 (3 * f + u) (nI c)) r (ts_put s (pn f u) c) := by
  obtain ⟨t1, t2, t3, t4⟩ := t
  refine ⟨by rw [hp_I' _ _ _ (by decide)]; exact t1, fun g v hg hv hgv => ?_, fun q hq => by rw [hp_I' _ _ _ (by decide)]; exact t3 q hq, ?_⟩
  · rw [hp_I' _ _ _ (by decide), hp_I]
    refine ⟨(t2 g v hg hv hgv).1, ?_⟩
    show upd (am_I h 78) (3 * f + u) (nI c) (3 * g + v) = nI (updN s.2 (pn f u) c (pn g v))
    have e := pn_inj g hg v hv hgv f hf u hu hfu
    unfold upd updN
    by_cases q : 3 * g + v = 3 * f + u
    · rw [if_pos q, if_pos (e.mpr q)]
    · rw [if_neg q, if_neg (fun x => q (e.mp x))]; exact (t2 g v hg hv hgv).2
  · simp only [hp_I', ne_eq, Nat.reduceEqDiff, not_false_eq_true]
    exact t4
theorem ts_x {r : TR} {s : TS} {o i : Nat} {x : Nat × TS} (h : x ∈ ts_act r s o i) : (r.aw o i = 1 ∧ ps_pl (r.k (r.ap o i)) (s.2 (r.ap o i)) (r.al o i) < 3 ∧ (x = (100 * o + i, ts_put (ts_go s o i) (r.ap o i) (ps_wo (s.2 (r.ap o i)) (ps_pl (r.k (r.ap o i)) (s.2 (r.ap o i)) (r.al o i)))) ∨ x = (1000 + (100 * o + i), ts_go s o i))) ∨ (¬ r.aw o i = 1 ∧ ps_sz (s.2 (r.ap o i)) < (if r.k (r.ap o i) = 2 then 1 else r.rm) ∧ (x = (100 * o + i, ts_put (ts_go s o i) (r.ap o i) (ps_put (r.k (r.ap o i)) (s.2 (r.ap o i)) (r.al o i))) ∨ x = (1000 + (100 * o + i), ts_go s o i))) := by
  unfold ts_act at h
  have one : ∀ (c : Prop) [Decidable c] (a b : Nat × TS), x ∈ a :: (if c then [b] else []) → x = a ∨ x = b := by
    intro c _ a b hx
    rcases List.mem_cons.mp hx with e | e
    · exact Or.inl e
    · by_cases q : c
      · rw [if_pos q] at e; exact Or.inr (List.mem_singleton.mp e)
      · rw [if_neg q] at e; cases e
  by_cases w : r.aw o i = 1
  · rw [if_pos w] at h
    by_cases p : ps_pl (r.k (r.ap o i)) (s.2 (r.ap o i)) (r.al o i) < 3
    · rw [if_pos p] at h; exact Or.inl ⟨w, p, one _ _ _ h⟩
    · rw [if_neg p] at h; cases h
  · rw [if_neg w] at h
    by_cases p : ps_sz (s.2 (r.ap o i)) < (if r.k (r.ap o i) = 2 then 1 else r.rm)
    · rw [if_pos p] at h; exact Or.inr ⟨w, p, one _ _ _ h⟩
    · rw [if_neg p] at h; cases h
theorem put_comm (s : TS) (o i p c : Nat) : ts_go (ts_put s p c) o i = ts_put (ts_go s o i) p c := rfl
/-- a step that is listed is done -/
theorem d9 {h : am_H} {r : TR} (hr : r.ok) {s : TS} (hs : r.sk s) (t : T9 h r s) {o i : Nat} (ho : o < 3) (hi : i < 16) (h1 : 1 ≤ i) (hv : r.av o i) {x : Nat × TS} (hx : x ∈ ts_act r s o i) (n : Nat) : ∃ h', f_X9_doStep (n + 4) (nI x.1) h = some ((), h') ∧ T9 h' r x.2 ∧ frD h h' ∧ r.sk x.2 := by
  obtain ⟨aq3, aqo, al4, aw2⟩ := hr.2.2.2 o i ho hi hv h1
  have hp := ap_lt hr ho hi h1 hv
  have hk := hr.1 _ hp
  have hok := hs.2 _ hp
  have c125 := ps_lt125 hok
  obtain ⟨d1, d2, d3, d4⟩ := cd9 _ aw2 _ aq3 _ al4
  have v3 : am_vp (nI o) 3 = true := hp_vp ho (by decide)
  have c3 : Int32.toNatClampNeg (nI o) = o := nI_clamp (by omega)
  have k1 : (nI (r.k (r.ap o i)) = Int32.ofInt 1) ↔ r.k (r.ap o i) = 1 := nI_eq (b := 1) (by omega) (by decide)
  -- way 1: only the place
  have way1 : ∃ h', f_X9_doStep (n + 4) (nI (1000 + (100 * o + i))) h = some ((), h') ∧ T9 h' r (ts_go s o i) ∧ frD h h' ∧ r.sk (ts_go s o i) := by
    obtain ⟨e1, e2, e3⟩ := td9 1 (by decide) o ho i hi
    refine ⟨am_sI h 77 o (nI i), ?_, T9_go t, ⟨⟨rfl, rfl, rfl, rfl⟩, fun q a _ => hp_I' _ _ _ a⟩, sk_go hs hi⟩
    have n0 : ¬ nI (1000 + (100 * o + i)) / (Int32.ofInt 1000) = 0 := fun q => absurd (e3.mp q) (by decide)
    have e1 : (nI (1000 + (100 * o + i)) - nI (1000 + (100 * o + i)) / (Int32.ofInt 1000) * (Int32.ofInt 1000)) / (Int32.ofInt 100) = nI o := e1
    have e2 : (nI (1000 + (100 * o + i)) - nI (1000 + (100 * o + i)) / (Int32.ofInt 100) * (Int32.ofInt 100)) = nI i := e2
    unfold f_X9_doStep
    rw [e1, e2, as9 hr t ho hi h1 hv, b2s]
    simp only [if_neg n0, ite_self, b_some, v3, c3, cond_true]
  obtain ⟨e1, e2, e3⟩ := td9 0 (by decide) o ho i hi
  rw [show 1000 * 0 + (100 * o + i) = 100 * o + i from by omega] at e1 e2 e3
  have z0 := e3.mpr rfl
  rcases ts_x hx with ⟨w, p, rfl | rfl⟩ | ⟨w, p, rfl | rfl⟩
  · have ap : r.ap o i = pn (r.aq o i) o := by unfold TR.ap; rw [if_pos w]
    have i9 : ((Int32.ofInt 3) * nI (r.aq o i)) + nI o = nI (3 * r.aq o i + o) := by rw [show Int32.ofInt 3 = nI 3 from rfl, nI_mul, nI_add]
    obtain ⟨e70, e89⟩ := t.2.1 (r.aq o i) o aq3 ho aqo
    rw [← ap] at e70 e89
    have v9 : am_vp (nI (3 * r.aq o i + o)) 9 = true := hp_vp (by omega) (by decide)
    have c9 : Int32.toNatClampNeg (nI (3 * r.aq o i + o)) = 3 * r.aq o i + o := nI_clamp (by omega)
    have cg := imp_b ((ps_get hk hok).2 _ al4).2.1 (blt_t p)
    rw [Bool.and_eq_true] at cg
    have psz : ps_pl (r.k (r.ap o i)) (s.2 (r.ap o i)) (r.al o i) < ps_sz (s.2 (r.ap o i)) := by
      revert p
      unfold ps_pl
      split
      · omega
      · split
        · omega
        · split
          · omega
          · intro q; exact absurd q (by decide)
    have T := T9_go (o := o) (i := i) (T9_put t (f := r.aq o i) (u := o) (c := ps_wo (s.2 (r.ap o i)) (ps_pl (r.k (r.ap o i)) (s.2 (r.ap o i)) (r.al o i))) aq3 ho aqo)
    rw [← ap] at T
    refine ⟨_, ?_, T, ⟨⟨rfl, rfl, rfl, rfl⟩, fun q a b => by rw [hp_I' _ _ _ a, hp_I' _ _ _ b]⟩, sk_put (sk_go hs hi) cg.1⟩
    unfold f_X9_doStep
    rw [e1, e2, as9 hr t ho hi h1 hv, b2s, if_pos (d3.mpr w), b_some, if_neg (fun q => absurd (d4.mp q) (by omega)), if_pos z0, d1, d2, i9, v9, cond_true, pl9 n c125 al4 (by omega) h e70 hk e89, b2s, c9, e89]
    unfold ps_pI
    rw [if_pos p, wo9 n c125 psz, b2s, b_some, v3, cond_true, c3]
  · exact way1
  · have w0 : r.aw o i = 0 := by omega
    have ap : r.ap o i = pn o (r.aq o i) := by unfold TR.ap; rw [if_neg w]
    have i9 : ((Int32.ofInt 3) * nI o) + nI (r.aq o i) = nI (3 * o + r.aq o i) := by rw [show Int32.ofInt 3 = nI 3 from rfl, nI_mul, nI_add]
    obtain ⟨e70, e89⟩ := t.2.1 o (r.aq o i) ho aq3 (Ne.symm aqo)
    rw [← ap] at e70 e89
    have v9 : am_vp (nI (3 * o + r.aq o i)) 9 = true := hp_vp (by omega) (by decide)
    have c9 : Int32.toNatClampNeg (nI (3 * o + r.aq o i)) = 3 * o + r.aq o i := nI_clamp (by omega)
    have rm3 := hr.2.2.1
    have ly : (if r.k (r.ap o i) = 2 then 1 else r.rm) ≤ 3 := by split <;> omega
    have z3 : ps_sz (s.2 (r.ap o i)) < 3 := by omega
    have cg := imp_b ((ps_get hk hok).2 _ al4).1 (blt_t z3)
    rw [Bool.and_eq_true] at cg
    have T := T9_go (o := o) (i := i) (T9_put t (f := o) (u := r.aq o i) (c := ps_put (r.k (r.ap o i)) (s.2 (r.ap o i)) (r.al o i)) ho aq3 (Ne.symm aqo))
    rw [← ap] at T
    refine ⟨_, ?_, T, ⟨⟨rfl, rfl, rfl, rfl⟩, fun q a b => by rw [hp_I' _ _ _ a, hp_I' _ _ _ b]⟩, sk_put (sk_go hs hi) cg.1⟩
    have lay : (if nI (r.k (r.ap o i)) = Int32.ofInt 1 then am_b2 (f_X9_among (n + 4) (nI (s.2 (r.ap o i))) (nI (r.al o i)) h) fun r16 h17 => (some (r16, h17)) else am_b2 (f_X9_behind (nI (s.2 (r.ap o i))) (nI (r.al o i)) h) fun r13 h14 => (some (r13, h14))) = some (nI (ps_put (r.k (r.ap o i)) (s.2 (r.ap o i)) (r.al o i)), h) := by
      unfold ps_put
      by_cases q : r.k (r.ap o i) = 1
      · rw [if_pos (k1.mpr q), if_pos q, am9 n c125 al4 z3, b2s]
      · rw [if_neg (fun x => q (k1.mp x)), if_neg q, be9 c125, b2s]
    unfold f_X9_doStep
    rw [e1, e2, as9 hr t ho hi h1 hv, b2s, if_neg (fun q => w (d3.mp q)), if_pos z0, d1, d2, i9, v9, cond_true, c9, e70, e89, lay, b2s, b_some, if_pos (d4.mpr w0), b_some, v3, cond_true, c3]
  · exact way1
