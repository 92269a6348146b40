/-! ===== calls that make nothing: the reference's side after them ===== -/
theorem C9_c {h h' : am_H} {r : TR} {sd : Nat → Bool} (c : C9 h r sd) (e62 : ∀ k, 50 ≤ k → k ≤ 56 → am_I h' 51 k = am_I h 51 k) (e : ∀ q, 81 ≤ q → q ≤ 86 → am_I h' q = am_I h q) (eJ : am_J h' 80 = am_J h 80) : C9 h' r sd := by
  rcases c with c | ⟨c1, c2⟩
  · exact Or.inl (by rw [e62 52 (by decide) (by decide)]; exact c)
  · refine Or.inr ⟨by rw [e62 52 (by decide) (by decide)]; exact c1, ?_⟩
    rcases c2 with ⟨sp, y⟩ | ⟨sp, q, e96, y⟩
    · exact Or.inl ⟨sp, by rw [e62 51 (by decide) (by decide)]; exact y⟩
    · refine Or.inr ⟨sp, Q9_c q eJ (fun k hk => e62 k (by omega) (by omega)) (fun p hp => e p (by omega) (by omega)), by rw [e 85 (by decide) (by decide)]; exact e96, ?_⟩
      rw [e62 53 (by decide) (by decide)]
      rcases y with y | ⟨y1, y2⟩
      · exact Or.inl y
      · exact Or.inr ⟨y1, fun i hi => by rw [e 83 (by decide) (by decide)]; exact y2 i hi⟩
theorem Y9_c {h h' : am_H} {S : PS} (y : Y9 h S) (e62 : ∀ k, k = 0 ∨ k = 2 ∨ k = 6 → am_I h' 51 k = am_I h 51 k) (e : ∀ q, 52 ≤ q → q ≤ 57 → am_I h' q = am_I h q) : Y9 h' S := by
  unfold Y9
  rw [e62 0 (by decide), e62 2 (by decide), e62 6 (by decide), e 52 (by decide) (by decide), e 53 (by decide) (by decide), e 54 (by decide) (by decide), e 55 (by decide) (by decide), e 56 (by decide) (by decide), e 57 (by decide) (by decide)]
  exact y
theorem K9_c {h h' : am_H} {S : PS} (k : K9 h S) (e62 : ∀ k, k = 11 ∨ k = 12 ∨ k = 13 ∨ k = 40 → am_I h' 51 k = am_I h 51 k) (e : ∀ q, q = 58 ∨ q = 59 ∨ q = 77 ∨ q = 78 → am_I h' q = am_I h q) : K9 h' S := by
  unfold K9 Z9
  rw [e62 11 (by decide), e62 12 (by decide), e62 13 (by decide), e62 40 (by decide), e 58 (by decide), e 59 (by decide), e 77 (by decide), e 78 (by decide)]
  exact k
/-- what the reference's calls about all states leave -/
theorem X9_A {h h' : am_H} {S : PS} (x : X9p h S) (f : frA9 h h') (u : U9 h' S.r S.sd S.s) (c : C9m h' S.r S.sd) : X9p h' S := by
  obtain ⟨st, y, k, -⟩ := x
  refine ⟨stat_8 st (same8_A f), Y9_c y (fun j hj => f.2.2.2.1 j (by omega) (by omega) (by omega) (by omega) (by omega) (by omega)) (fun q a b => f.2.2.1 q (by omega) (by omega)), ?_, Or.inr c⟩
  obtain ⟨⟨k1, k2, k3, k4⟩, z, k5, k6, k7⟩ := k
  have e62 : ∀ j, j = 11 ∨ j = 12 ∨ j = 13 ∨ j = 40 → am_I h' 51 j = am_I h 51 j := fun j hj => f.2.2.2.1 j (by omega) (by omega) (by omega) (by omega) (by omega) (by omega)
  have t := u.1
  refine ⟨⟨by rw [e62 11 (by decide)]; exact k1, t.2.1, t.2.2.1, by rw [f.2.2.1 58 (by decide) (by decide)]; exact k4⟩, u.2.1, by rw [e62 40 (by decide)]; exact k5, by rw [e62 12 (by decide)]; exact k6, by rw [e62 13 (by decide)]; exact k7⟩
theorem X9_S {h h' : am_H} {S : PS} (x : X9p h S) (f : frS h h') : X9p h' S := by
  obtain ⟨st, y, k, c⟩ := x
  exact ⟨stat_8 st (same8_S f), Y9_c y (fun j hj => f.2.2 j (by omega)) (fun q a b => f.2.1 q (by omega) (by omega)), K9_c k (fun j hj => f.2.2 j (by omega)) (fun q hq => f.2.1 q (by omega) (by omega)), C9_c c (fun j a b => f.2.2 j (by omega)) (fun q a b => f.2.1 q (by omega) (by omega)) (by rw [f.1.2.2.2])⟩
/-- blank() -/
theorem cl_1 {h : am_H} {c sl : Nat} (J : JJ h c sl) : am_stat h ∧ po_1 JJ h c sl := by
  obtain ⟨S, ok, x8, x9⟩ := J
  have t := X8_tx x8
  have y0 := x9.2.1.1.1
  refine ⟨X8_st x8, nI S.m, am_sI h 1 1 (Int32.ofInt 0), am_sI (am_sI h 1 1 (Int32.ofInt 0)) 51 0 (Int32.ofInt 0), ?_, ?_, ?_⟩
  · unfold f_X8_blank; rw [t.2.2.2.1]
  · unfold f_X9_blank; rw [hp_I' _ _ _ (by decide), y0]
  · have x8' : X8 (am_sI h 1 1 (Int32.ofInt 0)) (S.pg 0 S.tx) c sl := X8_pg x8 ⟨rfl, rfl, rfl⟩ rfl (fun p a _ => hp_I' _ _ _ a) ⟨t.1, t.2.1, t.2.2.1, by rw [hp_I, upd_at]; rfl, by rw [hp_I' _ _ _ (by decide)]; exact t.2.2.2.2.1, t.2.2.2.2.2.1, t.2.2.2.2.2.2.1, by omega⟩
    have x9' : X9p (am_sI h 1 1 (Int32.ofInt 0)) S := X9_loc x9 (X8_st x8') (fun p a b => ⟨hp_I' _ _ _ (by omega), rfl⟩)
    have ok' : PSok (S.pg 0 S.tx) := ⟨Nat.zero_le _, ok.2⟩
    refine JJ_of ok' x8' (same8_62 _ _ _) ?_
    obtain ⟨st, y, k, c9⟩ := x9'
    have i62 : ∀ k, k ≠ 0 → am_I (am_sI (am_sI h 1 1 (Int32.ofInt 0)) 51 0 (Int32.ofInt 0)) 51 k = am_I (am_sI h 1 1 (Int32.ofInt 0)) 51 k := fun k hk => by rw [hp_I _ 51, upd_ne hk]
    have i0 : ∀ q, q ≠ 51 → am_I (am_sI (am_sI h 1 1 (Int32.ofInt 0)) 51 0 (Int32.ofInt 0)) q = am_I (am_sI h 1 1 (Int32.ofInt 0)) q := fun q hq => hp_I' _ _ _ hq
    refine ⟨st, ⟨⟨by rw [hp_I _ 51, upd_at]; rfl, by rw [i0 52 (by decide)]; exact y.1.2⟩, ⟨by rw [i62 2 (by decide)]; exact y.2.1.1, by rw [i0 53 (by decide), i0 54 (by decide), i0 55 (by decide)]; exact y.2.1.2⟩, ⟨by rw [i62 6 (by decide)]; exact y.2.2.1, by rw [i0 56 (by decide), i0 57 (by decide)]; exact y.2.2.2⟩⟩, K9_c k (fun j hj => i62 j (by omega)) (fun q hq => i0 q (by omega)), C9_c c9 (fun j a b => i62 j (by omega)) (fun q a b => i0 q (by omega)) rfl⟩
/-- what two calls that change nothing want -/
theorem JJ_ro {h : am_H} {c sl : Nat} {S : PS} (ok : PSok S) (x8 : X8 h S c sl) (x9 : X9p h S) : c ≤ 600000 ∧ sl ≤ 7302250 ∧ JJ h c sl := JJ_of ok x8 (same8_r h) x9
/-- as() -/
theorem cl_15 (a1 a2 a3 : Int32) {h : am_H} {c sl : Nat} (J : JJ h c sl) : am_stat h ∧ po_15 a1 a2 a3 JJ h c sl := by
  obtain ⟨S, ok, x8, x9⟩ := J
  refine ⟨X8_st x8, ?_⟩
  have fin : ∀ v, f_X8_as a1 a2 a3 h = some (v, h) → f_X9_as a1 a2 a3 h = some (v, h) → po_15 a1 a2 a3 JJ h c sl := fun v e1 e2 => ⟨v, h, h, e1, e2, JJ_ro ok x8 x9⟩
  rcases po_89 a1 a2 with ⟨f, t, hf, ht, ne, rfl, rfl, e⟩ | e
  · rcases in_89 a3 (n := 5) (by decide) with ⟨k, hk, rfl, c1, c2, c3, w⟩ | ⟨cc, w⟩
    · have pn6 := pn_lt hf ht ne
      have k5 := (PS_all ok).1.1 (pn f t) pn6
      have k5 : S.k (pn f t) < 5 := k5
      have r29 : am_I h 29 (pn f t) = nI (S.k (pn f t)) := (X8_tk x8).1.1.2.1 _ pn6
      have r70 : am_I h 59 (3 * f + t) = nI (S.k (pn f t)) := (x9.2.2.1.1.2.1 f t hf ht ne).1
      have w : f_X9_within (nI k) (Int32.ofInt 0) (Int32.ofInt 4) h = some (bI true, h) := w h
      have sv : ∀ x y : Nat, x < 5 → y < 5 → ∀ z : Int32, (∀ h, f_X8_isSuch (nI x) (nI y) h = some (bI (decide (y = 0 ∨ x = y ∨ (x = 4 ∧ y = 3))), h)) ∧ (if nI y = 0 then some z else (if nI x = nI y then some z else (if nI y = (Int32.ofInt 3) then (if nI x = (Int32.ofInt 4) then some z else some (Int32.ofInt (-1))) else some (Int32.ofInt (-1))))) = some (bif decide (y = 0 ∨ x = y ∨ (x = 4 ∧ y = 3)) then z else Int32.ofInt (-1)) := by
        intro x y hx hy z
        have cx : x = 0 ∨ x = 1 ∨ x = 2 ∨ x = 3 ∨ x = 4 := by omega
        have cy : y = 0 ∨ y = 1 ∨ y = 2 ∨ y = 3 ∨ y = 4 := by omega
        rcases cx with rfl | rfl | rfl | rfl | rfl <;> rcases cy with rfl | rfl | rfl | rfl | rfl <;> exact ⟨fun _ => rfl, rfl⟩
      obtain ⟨s1, s2⟩ := sv (S.k (pn f t)) k k5 hk (((Int32.ofInt 10) * nI f) + nI t)
      refine fin (bif decide (k = 0 ∨ S.k (pn f t) = k ∨ (S.k (pn f t) = 4 ∧ k = 3)) then ((Int32.ofInt 10) * nI f) + nI t else Int32.ofInt (-1)) ?_ ?_
      · unfold f_X8_as
        rw [(e h).1, b2s, if_neg (show ¬ bI true = 0 by decide), if_neg c1, if_pos (show nI k < Int32.ofInt 5 from c2), pn_8 hf ht ne, b2s, hp_vp pn6 (by decide), cond_true, nI_clamp (show pn f t < 2 ^ 31 by omega), r29, s1, b2s]
        cases decide (k = 0 ∨ S.k (pn f t) = k ∨ (S.k (pn f t) = 4 ∧ k = 3)) <;> rfl
      · unfold f_X9_as
        rw [(e h).2, b2s, if_neg (show ¬ bI true = 0 by decide), w, b2s, if_neg (show ¬ bI true = 0 by decide), ix_9, hp_vp (show 3 * f + t < 9 by omega) (by decide), cond_true, nI_clamp (show 3 * f + t < 2 ^ 31 by omega), r70, s2, b_some]
    · refine fin (Int32.ofInt (-102)) ?_ ?_
      · unfold f_X8_as
        rw [(e h).1, b2s, if_neg (show ¬ bI true = 0 by decide)]
        rcases cc with cc | ⟨c1, c2, c3⟩
        · rw [if_pos cc]
        · rw [if_neg c1, if_neg (show ¬ a3 < Int32.ofInt 5 from c2)]
      · have w : f_X9_within a3 (Int32.ofInt 0) (Int32.ofInt 4) h = some (bI false, h) := w h
        unfold f_X9_as
        rw [(e h).2, b2s, if_neg (show ¬ bI true = 0 by decide), w, b2s, if_pos (show bI false = 0 from rfl)]
  · refine fin (Int32.ofInt (-101)) ?_ ?_
    · unfold f_X8_as
      rw [(e h).1, b2s, if_pos (show bI false = 0 from rfl)]
    · unfold f_X9_as
      rw [(e h).2, b2s, if_pos (show bI false = 0 from rfl)]
/-- at() -/
theorem at_8 {h : am_H} {S : PS} {c sl : Nat} (ok : PSok S) (x8 : X8 h S c sl) {o : Nat} (ho : o < 3) : am_I h 27 o = stI (S.st o) ∧ f_X7_placeIn (am_J h 0 10) (nI o) h = some (nI (S.s.1 o), h) := by
  have tk := X8_tk x8
  refine ⟨tk.2.1 o ho, ?_⟩
  rw [tk.1.2.2, pl8_get _ ho]
  unfold TR.N
  rw [en_pl (sk_en (PS_all ok).1 (PS_sk ok).1) ho]
theorem stI_m1 {S : PS} (ok : PSok S) {o : Nat} (ho : o < 3) : (stI (S.st o) = Int32.ofInt (-1)) ↔ S.st o = none := by
  rcases ok.2.2.2.2.2.1 o ho with q | ⟨b, hb, q, -⟩
  · rw [q]; exact ⟨fun _ => rfl, fun _ => rfl⟩
  · rw [q]
    have : b < 8 := by have := ok.2.1; omega
    exact ⟨fun e => absurd e (nI_m1ne (by omega)), fun e => by cases e⟩
theorem cl_22 (a1 : Int32) {h : am_H} {c sl : Nat} (J : JJ h c sl) : am_stat h ∧ po_22 a1 JJ h c sl := by
  obtain ⟨S, ok, x8, x9⟩ := J
  refine ⟨X8_st x8, ?_⟩
  have fin : ∀ v, f_X8_at a1 h = some (v, h) → f_X9_at a1 h = some (v, h) → po_22 a1 JJ h c sl := fun v e1 e2 => ⟨v, h, h, e1, e2, JJ_ro ok x8 x9⟩
  rcases of_89 a1 with ⟨o, ho, rfl, e⟩ | e
  · obtain ⟨e27, pl⟩ := at_8 ok x8 ho
    have e69 := x9.2.2.1.1.2.2.2 o ho
    have e88 := x9.2.2.1.1.2.2.1 o ho
    have vo : am_vp (nI o) 3 = true := hp_vp ho (by decide)
    have co : Int32.toNatClampNeg (nI o) = o := nI_clamp (by omega)
    by_cases q : S.st o = none
    · have qq := (stI_m1 ok ho).mpr q
      refine fin (Int32.ofInt (-1)) ?_ ?_
      · unfold f_X8_at
        rw [(e h).1, b2s, if_neg (show ¬ bI true = 0 by decide), vo, cond_true, co, e27, if_pos qq, b2s]
      · unfold f_X9_at
        rw [(e h).2, b2s, if_neg (show ¬ bI true = 0 by decide), vo, cond_true, co, e69, if_pos qq, b_some]
    · have qq : ¬ stI (S.st o) = Int32.ofInt (-1) := fun x => q ((stI_m1 ok ho).mp x)
      refine fin (nI (S.s.1 o)) ?_ ?_
      · unfold f_X8_at
        rw [(e h).1, b2s, if_neg (show ¬ bI true = 0 by decide), vo, cond_true, co, e27, if_neg qq, pl, b2s, b2s]
      · unfold f_X9_at
        rw [(e h).2, b2s, if_neg (show ¬ bI true = 0 by decide), vo, cond_true, co, e69, if_neg qq, e88, b_some]
  · refine fin (Int32.ofInt (-101)) ?_ ?_
    · unfold f_X8_at
      rw [(e h).1, b2s, if_pos (show bI false = 0 from rfl)]
    · unfold f_X9_at
      rw [(e h).2, b2s, if_pos (show bI false = 0 from rfl), b_some]
/-- lies() -/
theorem cl_23 (a1 a2 a3 : Int32) {h : am_H} {c sl : Nat} (J : JJ h c sl) : am_stat h ∧ po_23 a1 a2 a3 JJ h c sl := by
  obtain ⟨S, ok, x8, x9⟩ := J
  refine ⟨X8_st x8, ?_⟩
  have fin : ∀ v, f_X8_lies 5 a1 a2 a3 h = some (v, h) → f_X9_lies a1 a2 a3 h = some (v, h) → po_23 a1 a2 a3 JJ h c sl := fun v e1 e2 => ⟨5, v, h, h, e1, e2, JJ_ro ok x8 x9⟩
  rcases po_89 a1 a2 with ⟨f, t, hf, ht, ne, rfl, rfl, e⟩ | e
  · refine fin (tLy S.s (pn f t) a3) ?_ ?_
    · unfold f_X8_lies
      rw [(e h).1, b2s, if_neg (show ¬ bI true = 0 by decide), pn_8 hf ht ne, b2s, (X8_tk x8).1.2.2, lg_8 0 (PS_all ok).1 (X8_tk x8).1.1 (PS_sk ok).1 (pn_lt hf ht ne) a3, b2s]
    · unfold f_X9_lies
      rw [(e h).2, b2s, if_neg (show ¬ bI true = 0 by decide)]
      exact lg_9 (PS_all ok).1 (PS_sk ok).1 (X9_U ok x9).1 hf ht ne a3
  · refine fin (Int32.ofInt (-101)) ?_ ?_
    · unfold f_X8_lies
      rw [(e h).1, b2s, if_pos (show bI false = 0 from rfl)]
    · unfold f_X9_lies
      rw [(e h).2, b2s, if_pos (show bI false = 0 from rfl)]
/-- count() -/
noncomputable def ctV (S : PS) (a : Int32) : Int32 := if a = Int32.ofInt 0 then nI S.nb else if a = Int32.ofInt 1 then nI S.no else if a = Int32.ofInt 2 then nI S.m else if a = Int32.ofInt 3 then S.sc else if a = Int32.ofInt 4 then nI (tLie S.s) else if a = Int32.ofInt 5 then nI S.mc else Int32.ofInt (-102)
theorem ct_8 {h : am_H} {S : PS} {c sl : Nat} (ok : PSok S) (x8 : X8 h S c sl) (a : Int32) (n : Nat) : f_X8_count (n + 7) a h = some (ctV S a, h) := by
  have tk := X8_tk x8
  unfold f_X8_count ctV
  rw [(X8_n x8).1, (X8_n x8).2, (X8_tx x8).2.2.2.1, tk.2.2.2.1, tk.2.2.2.2, tk.1.2.2, la_8 n (PS_all ok).1 tk.1.1 (PS_sk ok).1, b2s]
  split
  · rfl
  · split
    · rfl
    · split
      · rfl
      · split
        · rfl
        · split
          · rfl
          · split <;> rfl
theorem ct_9 {h : am_H} {S : PS} (ok : PSok S) (x9 : X9p h S) (a : Int32) (n : Nat) : f_X9_howMany (n + 10) a h = some (ctV S a, h) := by
  have u := X9_U ok x9
  obtain ⟨-, y, k, -⟩ := x9
  unfold f_X9_howMany ctV
  rw [y.1.1, y.2.1.1, y.2.2.1, k.2.2.2.1, k.2.2.2.2, ll_9 n (PS_sk ok).1 (T9_W u.1) k.2.1, b2s]
  split
  · rfl
  · split
    · rfl
    · split
      · rfl
      · split
        · rfl
        · split
          · rfl
          · split <;> rfl
theorem cl_29 (a1 : Int32) {h : am_H} {c sl : Nat} (J : JJ h c sl) : am_stat h ∧ po_29 a1 JJ h c sl := by
  obtain ⟨S, ok, x8, x9⟩ := J
  refine ⟨X8_st x8, 7, 10, ctV S a1, h, h, ct_8 ok x8 a1 0, ?_, JJ_ro ok x8 x9⟩
  unfold f_X9_count
  rw [ct_9 ok x9 a1 0, b2s]
