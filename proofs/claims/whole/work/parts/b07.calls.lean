/-! ===== begin, steps, step, go ===== -/
theorem PSok_sg {S : PS} (ok : PSok S) {s : TS} (rc : reach S.r s) (v : Int32) : PSok (S.sg s v) := by
  obtain ⟨a1, a2, a3, a4, a5, a6, a7, a8, -, a10⟩ := ok
  exact ⟨a1, a2, a3, a4, a5, a6, a7, a8, rc, a10⟩
theorem cl_17 {h : am_H} {c sl : Nat} (J : JJ h c sl) : am_stat h ∧ po_17 JJ h c sl := by
  obtain ⟨S, ok, x8, x9⟩ := J
  have tk := X8_tk x8
  refine ⟨X8_st x8, ?_⟩
  generalize hh1 : am_sI (am_sJ h 0 10 (Int64.ofNat (0 : Fin 2).val)) 0 11 (Int32.ofInt 0) = h1
  have s0 : h1.1 = h.1 ∧ am_K h1 = am_K h ∧ am_A h1 = am_A h := by rw [← hh1]; exact ⟨rfl, rfl, rfl⟩
  have eI : ∀ p, p ≠ 0 → am_I h1 p = am_I h p := fun p hp => by rw [← hh1, hp_I' _ _ _ hp, sJ_I]
  have eJ : ∀ p, p ≠ 0 → am_J h1 p = am_J h p := fun p hp => by rw [← hh1]; exact hp_J' h 10 _ hp
  have x8' : X8 h1 (S.sg s00 (Int32.ofInt 0)) c sl := by
    refine X8_sg x8 s0 eJ eI (fun k hk => by rw [← hh1, hp_I, upd_ne hk, sJ_I]) (by rw [← hh1, hp_I, upd_at]) ?_
    rw [N00 (PS_all ok).1 (PS_all ok).2.1, ← hh1, sI_J, hp_J, updL_at]
    rfl
  have x9' : X9p h1 S := X9_loc x9 (X8_st x8') (fun p a b => ⟨eI p (by omega), eJ p (by omega)⟩)
  obtain ⟨h2, e2, w2, z2, e12, ⟨y1, y2, y3, y4⟩, y5, y6⟩ := bg_9 0 h1
  have ok' := PSok_sg ok (reach_0 S.r) (Int32.ofInt 0)
  refine ⟨20, S.sc, h1, h2, ?_, ?_, JJ_of ok' x8' ⟨y1, y2, y3, fun p hp => ⟨y5 p (by omega) (by omega) (by omega), by rw [y4]⟩⟩ ?_⟩
  · unfold f_X8_begin f_X8_beginAnew
    rw [b2s, tk.2.2.2.1, hh1]
  · unfold f_X9_begin
    rw [e2, b2s, x9'.2.2.1.2.2.2.1]
  · obtain ⟨st, y, ⟨⟨k1, k2, k3, k4⟩, z, k5, k6, k7⟩, c9⟩ := x9'
    refine ⟨?_, Y9_c y (fun j hj => y6 j (by omega)) (fun q a b => y5 q (by omega) (by omega) (by omega)), ⟨⟨by rw [y6 11 (by decide)]; exact k1, fun f t hf ht ne => ⟨by rw [y5 59 (by decide) (by decide) (by decide)]; exact (k2 f t hf ht ne).1, ?_⟩, w2.1, by rw [y5 58 (by decide) (by decide) (by decide)]; exact k4⟩, z2, by rw [y6 40 (by decide)]; exact k5, e12, by rw [y6 13 (by decide)]; exact k7⟩, C9_c c9 (fun j a b => y6 j (by omega)) (fun q a b => y5 q (by omega) (by omega) (by omega)) (by rw [y4])⟩
    · unfold am_stat; rw [y1, y2, y3]; exact st
    · obtain ⟨-, w1, w2', w3, w4, w5, w6⟩ := w2
      have cc : (f = 0 ∧ t = 1) ∨ (f = 0 ∧ t = 2) ∨ (f = 1 ∧ t = 0) ∨ (f = 1 ∧ t = 2) ∨ (f = 2 ∧ t = 0) ∨ (f = 2 ∧ t = 1) := by omega
      rcases cc with ⟨rfl, rfl⟩ | ⟨rfl, rfl⟩ | ⟨rfl, rfl⟩ | ⟨rfl, rfl⟩ | ⟨rfl, rfl⟩ | ⟨rfl, rfl⟩
      · exact w1
      · exact w2'
      · exact w3
      · exact w4
      · exact w5
      · exact w6
/-- both list the steps -/
theorem li_89 {h : am_H} {S : PS} {c sl : Nat} (ok : PSok S) (x8 : X8 h S c sl) : ∃ h', f_X7_list 200 (am_J h 0 10) h = some (nI (ts_all S.r S.s).length, h') ∧ L8 h' S.r (ts_all S.r S.s) ∧ X8 h' S c sl ∧ frY h h' ∧ (ts_all S.r S.s).length ≤ 90 := by
  have tk := X8_tk x8
  obtain ⟨h', e, l, f, len⟩ := l8_list (PS_all ok).1 tk.1.1 (PS_sk ok).1 200 (by decide)
  refine ⟨h', by rw [tk.1.2.2]; exact e, l, X8_Y x8 (frY_T f), frY_T f, len⟩
theorem li_9 {h : am_H} {S : PS} (ok : PSok S) (x9 : X9p h S) (F : Nat) (hF : 100 ≤ F) : ∃ h', f_X9_laySteps F h = some ((), h') ∧ L9 h' (ts_all S.r S.s) ∧ X9p h' S ∧ same8 h h' := by
  obtain ⟨h', e, l, f⟩ := l9_list (PS_all ok).1 (PS_sk ok).1 (X9_U ok x9).1 F hF
  exact ⟨h', e, l, X9_S x9 f, same8_S f⟩
theorem cl_18 {h : am_H} {c sl : Nat} (J : JJ h c sl) : am_stat h ∧ po_18 JJ h c sl := by
  obtain ⟨S, ok, x8, x9⟩ := J
  obtain ⟨h1, e1, l1, x8', f1, len⟩ := li_89 ok x8
  have x9' := X9_loc x9 (X8_st x8') (frY_9 f1)
  obtain ⟨h2, e2, l2, x9'', f2⟩ := li_9 ok x9' 200 (by decide)
  refine ⟨X8_st x8, 200, 200, nI (ts_all S.r S.s).length, h1, h2, ?_, ?_, JJ_of ok x8' f2 x9''⟩
  · unfold f_X8_steps; rw [e1, b2s]
  · unfold f_X9_steps; rw [e2, b2s, l2.1]
theorem cl_19 (a1 : Int32) {h : am_H} {c sl : Nat} (J : JJ h c sl) : am_stat h ∧ po_19 a1 JJ h c sl := by
  obtain ⟨S, ok, x8, x9⟩ := J
  obtain ⟨h1, e1, l1, x8', f1, len⟩ := li_89 ok x8
  have x9' := X9_loc x9 (X8_st x8') (frY_9 f1)
  obtain ⟨h2, e2, l2, x9'', f2⟩ := li_9 ok x9' 200 (by decide)
  refine ⟨X8_st x8, 200, 200, ?_⟩
  have fin : ∀ v, f_X8_step 200 a1 h = some (v, h1) → f_X9_step 200 a1 h1 = some (v, h2) → ∃ (v : Int32) (h1 h2 : am_H), f_X8_step 200 a1 h = some (v, h1) ∧ f_X9_step 200 a1 h1 = some (v, h2) ∧ c ≤ 600000 ∧ sl ≤ 7302250 ∧ JJ h2 c sl := fun v e1 e2 => ⟨v, h1, h2, e1, e2, JJ_of ok x8' f2 x9''⟩
  rcases in_89 a1 (n := (ts_all S.r S.s).length) (by omega) with ⟨k, hk, rfl, c1, c2, c3, w⟩ | ⟨cc, w⟩
  · obtain ⟨x, hx⟩ : ∃ x, (ts_all S.r S.s)[k]? = some x := ⟨_, List.getElem?_eq_getElem hk⟩
    refine fin (nI x.1) ?_ ?_
    · unfold f_X8_step
      rw [e1, b2s, if_neg c1, if_pos c2, hp_vp (show k < 90 by omega) (by decide), cond_true, nI_clamp (show k < 2 ^ 31 by omega), (l1.2 k x hx).1, b_some]
    · unfold f_X9_step
      rw [e2, b2s, l2.1, w, b2s, if_neg (show ¬ bI true = 0 by decide), hp_vp (show k < 96 by omega) (by decide), cond_true, nI_clamp (show k < 2 ^ 31 by omega), l2.2 k x hx, b_some]
  · refine fin (Int32.ofInt (-1)) ?_ ?_
    · unfold f_X8_step
      rw [e1, b2s]
      rcases cc with cc | ⟨c1, c2, c3⟩
      · rw [if_pos cc, b_some]
      · rw [if_neg c1, if_neg c2, b_some]
    · unfold f_X9_step
      rw [e2, b2s, l2.1, w, b2s, if_pos (show bI false = 0 from rfl), b_some]
/-- the class does a listed step -/
theorem dl_8 {h : am_H} {S : PS} {c sl : Nat} (x8 : X8 h S c sl) (l : L8 h S.r (ts_all S.r S.s)) {k : Nat} (k90 : k < 90) {x : Nat × TS} (hx : (ts_all S.r S.s)[k]? = some x) : ∃ h', f_X8_doListed (nI k) h = some ((), h') ∧ X8 h' (S.sg x.2 (S.sc + Int32.ofInt 1)) c sl ∧ am_I h' 31 = am_I h 31 ∧ same9 h h' := by
  have tk := X8_tk x8
  obtain ⟨t31, t32⟩ := l.2 k x hx
  generalize hh1 : am_sI (am_sJ h 0 10 (lL (S.r.N x.2))) 0 11 (S.sc + Int32.ofInt 1) = h1
  have s0 : h1.1 = h.1 ∧ am_K h1 = am_K h ∧ am_A h1 = am_A h := by rw [← hh1]; exact ⟨rfl, rfl, rfl⟩
  have eI : ∀ p, p ≠ 0 → am_I h1 p = am_I h p := fun p hp => by rw [← hh1, hp_I' _ _ _ hp, sJ_I]
  have eJ : ∀ p, p ≠ 0 → am_J h1 p = am_J h p := fun p hp => by rw [← hh1]; exact hp_J' h 10 _ hp
  refine ⟨h1, ?_, X8_sg x8 s0 eJ eI (fun k hk => by rw [← hh1, hp_I, upd_ne hk, sJ_I]) (by rw [← hh1, hp_I, upd_at]) (by rw [← hh1, sI_J, hp_J, updL_at]), eI 31 (by decide), fun p a b => ⟨eI p (by omega), eJ p (by omega)⟩⟩
  unfold f_X8_doListed
  rw [hp_vp k90 (by decide), cond_true, nI_clamp (show k < 2 ^ 31 by omega), t32, sJ_I, tk.2.2.2.1, hh1]
/-- the reference does it -/
theorem dl_9 {h : am_H} {S : PS} (ok : PSok S) (x9 : X9p h S) {x : Nat × TS} (hx : x ∈ ts_all S.r S.s) (F : Nat) (hF : 100 ≤ F) : ∃ h1, f_X9_doStep F (nI x.1) h = some ((), h1) ∧ am_I h1 51 12 = S.sc ∧ X9p (am_sI h1 51 12 (S.sc + Int32.ofInt 1)) (S.sg x.2 (S.sc + Int32.ofInt 1)) ∧ same8 h (am_sI h1 51 12 (S.sc + Int32.ofInt 1)) := by
  obtain ⟨h1, e1, t1, f1, s1, -⟩ := st_9 (PS_all ok).1 (PS_sk ok).1 (X9_U ok x9).1 hx (F - 4)
  rw [show F - 4 + 4 = F from by omega] at e1
  obtain ⟨st, y, ⟨⟨k1, k2, k3, k4⟩, z, k5, k6, k7⟩, c9⟩ := x9
  have i62 : am_I h1 51 = am_I h 51 := f1.1.2 51 (by decide) (by decide)
  have g8 : same8 h h1 := same8_A (frB_Z f1).1
  have j62 : ∀ k, k ≠ 12 → am_I (am_sI h1 51 12 (S.sc + Int32.ofInt 1)) 51 k = am_I h 51 k := fun k hk => by rw [hp_I, upd_ne hk, i62]
  have j0 : ∀ q, q ≠ 51 → am_I (am_sI h1 51 12 (S.sc + Int32.ofInt 1)) q = am_I h1 q := fun q hq => hp_I' _ _ _ hq
  have jj : ∀ q, q ≠ 51 → q ≠ 77 → q ≠ 78 → am_I (am_sI h1 51 12 (S.sc + Int32.ofInt 1)) q = am_I h q := fun q a b d => by rw [j0 q a, f1.1.2 q b d]
  refine ⟨h1, e1, by rw [i62]; exact k6, ⟨stat_8 st (same8_t g8 (same8_62 _ _ _)), Y9_c y (fun j hj => j62 j (by omega)) (fun q a b => jj q (by omega) (by omega) (by omega)), ⟨⟨by rw [j62 11 (by decide)]; exact k1, fun f t hf ht ne => ⟨by rw [jj 59 (by decide) (by decide) (by decide)]; exact (k2 f t hf ht ne).1, by rw [j0 78 (by decide)]; exact (t1.2.1 f t hf ht ne).2⟩, by rw [j0 77 (by decide)]; exact t1.2.2.1, by rw [jj 58 (by decide) (by decide) (by decide)]; exact k4⟩, ?_, by rw [j62 40 (by decide)]; exact k5, by rw [hp_I, upd_at]; rfl, by rw [j62 13 (by decide)]; exact k7⟩, C9_c c9 (fun j a b => j62 j (by omega)) (fun q a b => jj q (by omega) (by omega) (by omega)) (by rw [show am_J (am_sI h1 51 12 (S.sc + Int32.ofInt 1)) = am_J h1 from rfl, f1.1.1.2.2.2])⟩, same8_t g8 (same8_62 _ _ _)⟩
  have zz := frZ_z f1 z
  unfold Z9; rw [j0 78 (by decide)]; exact zz
theorem cl_20 (a1 : Int32) {h : am_H} {c sl : Nat} (J : JJ h c sl) : am_stat h ∧ po_20 a1 JJ h c sl := by
  obtain ⟨S, ok, x8, x9⟩ := J
  obtain ⟨h1, e1, l1, x8', f1, len⟩ := li_89 ok x8
  refine ⟨X8_st x8, 200, 200, ?_⟩
  rcases in_89 a1 (n := (ts_all S.r S.s).length) (by omega) with ⟨k, hk, rfl, c1, c2, c3, w⟩ | ⟨cc, w⟩
  · obtain ⟨x, hx⟩ : ∃ x, (ts_all S.r S.s)[k]? = some x := ⟨_, List.getElem?_eq_getElem hk⟩
    have hm := List.mem_of_getElem? hx
    obtain ⟨h2, e2, x82, i31, s2⟩ := dl_8 x8' l1 (show k < 90 by omega) hx
    have x92 := X9_loc x9 (X8_st x82) (same9_t (frY_9 f1) s2)
    obtain ⟨h3, e3, l3, x93, f3⟩ := li_9 ok x92 200 (by decide)
    obtain ⟨h4, e4, i4, x94, f4⟩ := dl_9 ok x93 hm 200 (by decide)
    have ok' := PSok_sg ok (reach_s ok.2.2.2.2.2.2.2.2.1 hm) (S.sc + Int32.ofInt 1)
    refine ⟨nI x.1, h2, _, ?_, ?_, JJ_of ok' x82 (same8_t f3 f4) x94⟩
    · unfold f_X8_go
      rw [e1, b2s, if_neg c1, if_pos c2, e2, b2s, hp_vp (show k < 90 by omega) (by decide), cond_true, nI_clamp (show k < 2 ^ 31 by omega), i31, (l1.2 k x hx).1]
    · unfold f_X9_go
      rw [e3, b2s, l3.1, w, b2s, if_neg (show ¬ bI true = 0 by decide), hp_vp (show k < 96 by omega) (by decide), cond_true, nI_clamp (show k < 2 ^ 31 by omega), l3.2 k x hx, e4, b2s, i4]
  · have x9' := X9_loc x9 (X8_st x8') (frY_9 f1)
    obtain ⟨h2, e2, l2, x9'', f2⟩ := li_9 ok x9' 200 (by decide)
    refine ⟨Int32.ofInt (-103), h1, h2, ?_, ?_, JJ_of ok x8' f2 x9''⟩
    · unfold f_X8_go
      rw [e1, b2s]
      rcases cc with cc | ⟨c1, c2, c3⟩
      · rw [if_pos cc]
      · rw [if_neg c1, if_neg c2]
    · unfold f_X9_go
      rw [e2, b2s, l2.1, w, b2s, if_pos (show bI false = 0 from rfl)]
