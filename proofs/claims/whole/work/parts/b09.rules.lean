/-! ===== the rules change: room, post ===== -/
theorem X8_ru {h h' : am_H} {S : PS} {c sl : Nat} {st : Nat → Option Nat} {k : Nat → Nat} {rm : Nat} (x : X8 h S c sl) (s0 : h'.1 = h.1 ∧ am_K h' = am_K h ∧ am_A h' = am_A h) (eI : ∀ p, p ≠ 0 → (p < 27 ∨ 36 < p) → am_I h' p = am_I h p) (e0 : ∀ k, k ≠ 11 → k ≠ 13 → k ≠ 14 → am_I h' 0 k = am_I h 0 k) (e13 : am_I h' 0 13 = nI 0) (e15 : am_I h' 0 14 = nI 0) (tk' : TK8 h' (S.ru st k rm)) : X8 h' (S.ru st k rm) c sl := by
  have x0 := x
  obtain ⟨w, ba, cf, qf, cc, qc, c3, a3, b3, sta, t, bk, on, tk, rw8, sv, co⟩ := x
  exact X8_na x0 s0 rfl rfl (fun p hp => eI p (by omega) (by omega)) (fun k hk => e0 k (by omega) (by omega) (by omega)) (tx8_c t (by rw [s0.2.1]) (by rw [s0.2.1]) (eI 1 (by decide) (by decide)) (eI 2 (by decide) (by decide)) (by rw [s0.2.2])) tk' (fun c3 a3 b3 g _ => ⟨⟨GR_E s0.1 s0.2.1 s0.2.2 g, Or.inl e13⟩, Or.inl e15⟩)
theorem PSok_ru {S : PS} (ok : PSok S) {st : Nat → Option Nat} {k : Nat → Nat} {rm : Nat} (h1 : ∀ o, o < 3 → st o = none ∨ ∃ b, b < S.nb ∧ st o = some b ∧ ∀ i, 1 ≤ i → i ≤ S.bn b → S.bc b i / 10 % 10 ≠ o) (h2 : ∀ p, p < 6 → k p < 5) (h3 : 1 ≤ rm ∧ rm ≤ 3) (h4 : ∀ o, 3 ≤ o → st o = none) : PSok (S.ru st k rm) := by
  obtain ⟨a1, a2, a3, a4, a5, a6, a7, a8, a9, a10⟩ := ok
  exact ⟨a1, a2, a3, a4, a5, h1, h2, h3, reach_0 _, a10.1, h4⟩
/-- the class begins anew, and knows nothing of all states -/
def chH (h : am_H) : am_H := am_sI (am_sI (am_sI (am_sJ h 0 10 (Int64.ofNat (0 : Fin 2).val)) 0 11 (Int32.ofInt 0)) 0 13 (Int32.ofInt 0)) 0 14 (Int32.ofInt 0)
theorem ch_f (h : am_H) : f_X8_changeTalk h = some ((), chH h) := rfl
theorem chH_s (h : am_H) : (chH h).1 = h.1 ∧ am_K (chH h) = am_K h ∧ am_A (chH h) = am_A h := ⟨rfl, rfl, rfl⟩
theorem chH_I (h : am_H) {p : Nat} (hp : p ≠ 0) : am_I (chH h) p = am_I h p := by
  unfold chH; rw [hp_I' _ _ _ hp, hp_I' _ _ _ hp, hp_I' _ _ _ hp, sJ_I]
theorem chH_J (h : am_H) {p : Nat} (hp : p ≠ 0) : am_J (chH h) p = am_J h p := hp_J' h 10 _ hp
theorem chH_10 (h : am_H) : am_J (chH h) 0 10 = lL 0 := by
  show am_J (am_sJ h 0 10 (Int64.ofNat (0 : Fin 2).val)) 0 10 = _
  rw [hp_J, updL_at]; rfl
theorem chH_0 (h : am_H) {k : Nat} (h1 : k ≠ 11) (h2 : k ≠ 13) (h3 : k ≠ 14) : am_I (chH h) 0 k = am_I h 0 k := by
  unfold chH; rw [hp_I, upd_ne h3, hp_I, upd_ne h2, hp_I, upd_ne h1, sJ_I]
theorem chH_11 (h : am_H) : am_I (chH h) 0 11 = Int32.ofInt 0 ∧ am_I (chH h) 0 13 = nI 0 ∧ am_I (chH h) 0 14 = nI 0 := by
  unfold chH
  refine ⟨?_, ?_, ?_⟩
  · rw [hp_I, upd_ne (by decide), hp_I, upd_ne (by decide), hp_I, upd_at]
  · rw [hp_I, upd_ne (by decide), hp_I, upd_at]; rfl
  · rw [hp_I, upd_at]; rfl
/-- the reference begins anew under other rules -/
theorem X9_ru {h hm : am_H} {S : PS} (x : X9p h S) {st : Nat → Option Nat} {k : Nat → Nat} {rm : Nat} (s0 : hm.1 = h.1 ∧ am_K hm = am_K h ∧ am_A hm = am_A h) (eJ : am_J hm = am_J h) (e : ∀ q, q ≠ 51 → q ≠ 58 → q ≠ 59 → am_I hm q = am_I h q) (e62 : ∀ j, j ≠ 11 → j ≠ 52 → am_I hm 51 j = am_I h 51 j) (e11 : am_I hm 51 11 = nI rm) (e52 : am_I hm 51 52 = nI 0) (e70 : ∀ f t, f < 3 → t < 3 → f ≠ t → am_I hm 59 (3 * f + t) = nI (k (pn f t))) (e69 : ∀ o, o < 3 → am_I hm 58 o = stI (st o)) (F : Nat) (hF : 20 ≤ F) : ∃ h', f_X9_beginAnew F hm = some ((), h') ∧ X9p h' (S.ru st k rm) ∧ same8 h h' := by
  obtain ⟨sta, y, ⟨⟨k1, k2, k3, k4⟩, z, k5, k6, k7⟩, c9⟩ := x
  obtain ⟨h2, e2, w2, z2, e12, ⟨y1, y2, y3, y4⟩, y5, y6⟩ := bg_9 (F - 20) hm
  rw [show F - 20 + 20 = F from by omega] at e2
  refine ⟨h2, e2, ⟨?_, Y9_c y (fun j hj => by rw [y6 j (by omega)]; exact e62 j (by omega) (by omega)) (fun q a b => by rw [y5 q (by omega) (by omega) (by omega)]; exact e q (by omega) (by omega) (by omega)), ⟨⟨by rw [y6 11 (by decide)]; exact e11, fun f t hf ht ne => ⟨by rw [y5 59 (by decide) (by decide) (by decide)]; exact e70 f t hf ht ne, ?_⟩, w2.1, by rw [y5 58 (by decide) (by decide) (by decide)]; exact e69⟩, z2, by rw [y6 40 (by decide), e62 40 (by decide) (by decide)]; exact k5, e12, by rw [y6 13 (by decide), e62 13 (by decide) (by decide)]; exact k7⟩, Or.inl (by rw [y6 52 (by decide)]; exact e52)⟩, y1.trans s0.1, y2.trans s0.2.1, y3.trans s0.2.2, fun p hp => ⟨by rw [y5 p (by omega) (by omega) (by omega)]; exact e p (by omega) (by omega) (by omega), by rw [y4, eJ]⟩⟩
  · unfold am_stat; rw [y1, y2, y3, s0.1, s0.2.1, s0.2.2]; exact sta
  · obtain ⟨-, w1, w2', w3, w4, w5, w6⟩ := w2
    have cc : (f = 0 ∧ t = 1) ∨ (f = 0 ∧ t = 2) ∨ (f = 1 ∧ t = 0) ∨ (f = 1 ∧ t = 2) ∨ (f = 2 ∧ t = 0) ∨ (f = 2 ∧ t = 1) := by omega
    rcases cc with ⟨rfl, rfl⟩ | ⟨rfl, rfl⟩ | ⟨rfl, rfl⟩ | ⟨rfl, rfl⟩ | ⟨rfl, rfl⟩ | ⟨rfl, rfl⟩
    · exact w1
    · exact w2'
    · exact w3
    · exact w4
    · exact w5
    · exact w6
theorem N0_ru {S : PS} (ok : PSok S) : S.r.N s00 = 0 := N00 (PS_all ok).1 (PS_all ok).2.1
theorem cl_16 (a1 : Int32) {h : am_H} {c sl : Nat} (J : JJ h c sl) : am_stat h ∧ po_16 a1 JJ h c sl := by
  obtain ⟨S, ok, x8, x9⟩ := J
  refine ⟨X8_st x8, ?_⟩
  have out : f_X8_room a1 h = some (Int32.ofInt (-102), h) → f_X9_room 20 a1 h = some (Int32.ofInt (-102), h) → po_16 a1 JJ h c sl := fun e1 e2 => ⟨20, Int32.ofInt (-102), h, h, e1, e2, JJ_ro ok x8 x9⟩
  by_cases c2 : a1 < Int32.ofInt 1
  · refine out ?_ ?_
    · unfold f_X8_room; rw [if_pos c2]
    · unfold f_X9_room; rw [wi_f (Or.inl c2), b2s, if_pos (show bI false = 0 from rfl)]
  · have nn : ¬ a1 < 0 := fun q => c2 (Int32.lt_trans q (by decide))
    obtain ⟨v, hv, rfl⟩ := i32_nn nn
    have v1 : 1 ≤ v := Classical.byContradiction (fun q => c2 ((nI_ltI (a := v) (b := 1) hv (by decide)).mpr (by omega)))
    by_cases c3 : v ≤ 3
    · have le : nI v ≤ Int32.ofInt 3 := nI_le (b := 3) c3 (by decide)
      have ng : ¬ Int32.ofInt 3 < nI v := fun q => by have := (nI_ltI (a := 3) (b := v) (by decide) hv).mp q; omega
      have tk := X8_tk x8
      have ok' : PSok (S.ru S.st S.k v) := PSok_ru ok ok.2.2.2.2.2.1 ok.2.2.2.2.2.2.1 ⟨v1, c3⟩ ok.2.2.2.2.2.2.2.2.2.2
      have x8' : X8 (chH (am_sI h 28 0 (nI v))) (S.ru S.st S.k v) c sl := by
        have i : ∀ p, p ≠ 0 → p ≠ 28 → am_I (chH (am_sI h 28 0 (nI v))) p = am_I h p := fun p a b => by rw [chH_I _ a, hp_I' _ _ _ b]
        have i0 : ∀ k, k ≠ 11 → k ≠ 13 → k ≠ 14 → am_I (chH (am_sI h 28 0 (nI v))) 0 k = am_I h 0 k := fun k a b d => by rw [chH_0 _ a b d, hp_I' _ _ _ (by decide)]
        refine X8_ru x8 (chH_s _) (fun p a b => i p a (by omega)) i0 (chH_11 _).2.1 (chH_11 _).2.2 ?_
        obtain ⟨⟨⟨t1, t2, t3, t4⟩, u2, u3⟩, k1, k2, k3, k4⟩ := tk
        refine ⟨⟨⟨by rw [chH_I _ (by decide), hp_I, upd_at]; rfl, by rw [i 29 (by decide) (by decide)]; exact t2, by rw [i 34 (by decide) (by decide)]; exact t3, by rw [i 35 (by decide) (by decide), i 30 (by decide) (by decide), i 36 (by decide) (by decide)]; exact t4⟩, ?_, ?_⟩, by rw [i 27 (by decide) (by decide)]; exact k1, by rw [i 30 (by decide) (by decide)]; exact k2, (chH_11 _).1, by rw [i0 17 (by decide) (by decide) (by decide)]; exact k4⟩
        · unfold S8; rw [i 33 (by decide) (by decide), i 36 (by decide) (by decide)]; exact u2
        · show am_J (chH (am_sI h 28 0 (nI v))) 0 10 = lL ((S.ru S.st S.k v).r.N s00)
          rw [N0_ru ok', chH_10]
      have x9' : X9p (chH (am_sI h 28 0 (nI v))) S := X9_loc x9 (X8_st x8') (fun p a b => ⟨by rw [chH_I _ (by omega), hp_I' _ _ _ (by omega)], chH_J _ (by omega)⟩)
      obtain ⟨h2, e2, x92, s2⟩ := X9_ru (st := S.st) (k := S.k) (rm := v) (hm := am_sI (am_sI (chH (am_sI h 28 0 (nI v))) 51 11 (nI v)) 51 52 (Int32.ofInt 0)) x9' ⟨rfl, rfl, rfl⟩ rfl (fun q a _ _ => by rw [hp_I' _ _ _ a, hp_I' _ _ _ a]) (fun j a b => by rw [hp_I, upd_ne b, hp_I, upd_ne a]) (by rw [hp_I, upd_ne (by decide), hp_I, upd_at]) (by rw [hp_I, upd_at]; rfl) (fun f t hf ht ne => by rw [hp_I' _ _ _ (by decide), hp_I' _ _ _ (by decide)]; exact (x9'.2.2.1.1.2.1 f t hf ht ne).1) (fun o ho => by rw [hp_I' _ _ _ (by decide), hp_I' _ _ _ (by decide)]; exact x9'.2.2.1.1.2.2.2 o ho) 20 (by decide)
      refine ⟨20, nI S.rm, chH (am_sI h 28 0 (nI v)), h2, ?_, ?_, JJ_of ok' x8' s2 x92⟩
      · unfold f_X8_room
        rw [if_neg c2, if_pos le, ch_f, b2s, tk.1.1.1]; rfl
      · unfold f_X9_room
        rw [wi_t c2 ng, b2s, if_neg (show ¬ bI true = 0 by decide), e2, b2s, x9'.2.2.1.1.1]
    · have nle : ¬ nI v ≤ Int32.ofInt 3 := nI_ge (a := 3) (b := v) (by omega) hv
      refine out ?_ ?_
      · unfold f_X8_room; rw [if_neg c2, if_neg nle]
      · unfold f_X9_room; rw [wi_f (Or.inr (show Int32.ofInt 3 < nI v from (nI_ltI (a := 3) (b := v) (by decide) hv).mpr (by omega))), b2s, if_pos (show bI false = 0 from rfl)]
theorem pn_ij {f t f' t' : Nat} (hf : f < 3) (ht : t < 3) (ne : f ≠ t) (hf' : f' < 3) (ht' : t' < 3) (ne' : f' ≠ t') (e : pn f t = pn f' t') : f = f' ∧ t = t' := by
  unfold pn at e
  split at e <;> split at e <;> omega
theorem cl_14 (a1 a2 a3 : Int32) {h : am_H} {c sl : Nat} (J : JJ h c sl) : am_stat h ∧ po_14 a1 a2 a3 JJ h c sl := by
  obtain ⟨S, ok, x8, x9⟩ := J
  refine ⟨X8_st x8, ?_⟩
  have out : ∀ v, f_X8_post a1 a2 a3 h = some (v, h) → f_X9_post 20 a1 a2 a3 h = some (v, h) → po_14 a1 a2 a3 JJ h c sl := fun v e1 e2 => ⟨20, v, h, h, e1, e2, JJ_ro ok x8 x9⟩
  rcases po_89 a1 a2 with ⟨f, t, hf, ht, ne, rfl, rfl, e⟩ | e
  · rcases in_89 a3 (n := 5) (by decide) with ⟨k, hk, rfl, c1, c2, c3, w⟩ | ⟨cc, w⟩
    · have pn6 := pn_lt hf ht ne
      have tk := X8_tk x8
      have ok' : PSok (S.ru S.st (updN S.k (pn f t) k) S.rm) := PSok_ru ok ok.2.2.2.2.2.1 (fun p hp => by
        unfold updN
        split
        · exact hk
        · exact ok.2.2.2.2.2.2.1 p hp) ok.2.2.2.2.2.2.2.1 ok.2.2.2.2.2.2.2.2.2.2
      have x8' : X8 (chH (am_sI h 29 (pn f t) (nI k))) (S.ru S.st (updN S.k (pn f t) k) S.rm) c sl := by
        have i : ∀ p, p ≠ 0 → p ≠ 29 → am_I (chH (am_sI h 29 (pn f t) (nI k))) p = am_I h p := fun p a b => by rw [chH_I _ a, hp_I' _ _ _ b]
        have i0 : ∀ j, j ≠ 11 → j ≠ 13 → j ≠ 14 → am_I (chH (am_sI h 29 (pn f t) (nI k))) 0 j = am_I h 0 j := fun j a b d => by rw [chH_0 _ a b d, hp_I' _ _ _ (by decide)]
        refine X8_ru x8 (chH_s _) (fun p a b => i p a (by omega)) i0 (chH_11 _).2.1 (chH_11 _).2.2 ?_
        obtain ⟨⟨⟨t1, t2, t3, t4⟩, u2, u3⟩, k1, k2, k3, k4⟩ := tk
        refine ⟨⟨⟨by rw [i 28 (by decide) (by decide)]; exact t1, fun p hp => ?_, by rw [i 34 (by decide) (by decide)]; exact t3, by rw [i 35 (by decide) (by decide), i 30 (by decide) (by decide), i 36 (by decide) (by decide)]; exact t4⟩, ?_, ?_⟩, by rw [i 27 (by decide) (by decide)]; exact k1, by rw [i 30 (by decide) (by decide)]; exact k2, (chH_11 _).1, by rw [i0 17 (by decide) (by decide) (by decide)]; exact k4⟩
        · show am_I (chH (am_sI h 29 (pn f t) (nI k))) 29 p = nI (updN S.k (pn f t) k p)
          rw [chH_I _ (by decide), hp_I]
          by_cases cp : p = pn f t
          · rw [cp, upd_at, updN_at]
          · rw [upd_ne cp, updN_ne cp]; exact t2 p hp
        · unfold S8; rw [i 33 (by decide) (by decide), i 36 (by decide) (by decide)]; exact u2
        · show am_J (chH (am_sI h 29 (pn f t) (nI k))) 0 10 = lL ((S.ru S.st (updN S.k (pn f t) k) S.rm).r.N s00)
          rw [N0_ru ok', chH_10]
      have x9' : X9p (chH (am_sI h 29 (pn f t) (nI k))) S := X9_loc x9 (X8_st x8') (fun p a b => ⟨by rw [chH_I _ (by omega), hp_I' _ _ _ (by omega)], chH_J _ (by omega)⟩)
      obtain ⟨h2, e2, x92, s2⟩ := X9_ru (st := S.st) (k := updN S.k (pn f t) k) (rm := S.rm) (hm := am_sI (am_sI (chH (am_sI h 29 (pn f t) (nI k))) 59 (3 * f + t) (nI k)) 51 52 (Int32.ofInt 0)) x9' ⟨rfl, rfl, rfl⟩ rfl (fun q a _ b => by rw [hp_I' _ _ _ a, hp_I' _ _ _ b]) (fun j a b => by rw [hp_I, upd_ne b, hp_I' _ _ _ (by decide)]) (by rw [hp_I, upd_ne (by decide), hp_I' _ _ _ (by decide)]; exact x9'.2.2.1.1.1) (by rw [hp_I, upd_at]; rfl) (fun f' t' hf' ht' ne' => by
        rw [hp_I' _ _ _ (by decide), hp_I]
        by_cases cp : f' = f ∧ t' = t
        · rw [cp.1, cp.2, upd_at, updN_at]
        · rw [upd_ne (by omega), updN_ne (fun q => cp (pn_ij hf' ht' ne' hf ht ne q))]
          exact (x9'.2.2.1.1.2.1 f' t' hf' ht' ne').1) (fun o ho => by rw [hp_I' _ _ _ (by decide), hp_I' _ _ _ (by decide)]; exact x9'.2.2.1.1.2.2.2 o ho) 20 (by decide)
      have w : ∀ h, f_X9_within (nI k) (Int32.ofInt 0) (Int32.ofInt 4) h = some (bI true, h) := w
      refine ⟨20, nI (S.k (pn f t)), chH (am_sI h 29 (pn f t) (nI k)), h2, ?_, ?_, JJ_of ok' x8' s2 x92⟩
      · unfold f_X8_post
        rw [(e h).1, b2s, if_neg (show ¬ bI true = 0 by decide), if_neg c1, if_pos (show nI k < Int32.ofInt 5 from c2), pn_8 hf ht ne, b2s, hp_vp pn6 (by decide), cond_true, nI_clamp (show pn f t < 2 ^ 31 by omega), ch_f, b2s, tk.1.1.2.1 _ pn6]; rfl
      · unfold f_X9_post
        rw [(e _).2, b2s, if_neg (show ¬ bI true = 0 by decide), w, b2s, if_neg (show ¬ bI true = 0 by decide), ix_9, hp_vp (show 3 * f + t < 9 by omega) (by decide), cond_true, nI_clamp (show 3 * f + t < 2 ^ 31 by omega), e2, b2s, (x9'.2.2.1.1.2.1 f t hf ht ne).1]
    · have w : f_X9_within a3 (Int32.ofInt 0) (Int32.ofInt 4) h = some (bI false, h) := w h
      refine out (Int32.ofInt (-102)) ?_ ?_
      · unfold f_X8_post
        rw [(e h).1, b2s, if_neg (show ¬ bI true = 0 by decide)]
        rcases cc with cc | ⟨c1, c2, c3⟩
        · rw [if_pos cc]
        · rw [if_neg c1, if_neg (show ¬ a3 < Int32.ofInt 5 from c2)]
      · unfold f_X9_post
        rw [(e h).2, b2s, if_neg (show ¬ bI true = 0 by decide), w, b2s, if_pos (show bI false = 0 from rfl)]
  · refine out (Int32.ofInt (-101)) ?_ ?_
    · unfold f_X8_post
      rw [(e h).1, b2s, if_pos (show bI false = 0 from rfl)]
    · unfold f_X9_post
      rw [(e h).2, b2s, if_pos (show bI false = 0 from rfl)]
