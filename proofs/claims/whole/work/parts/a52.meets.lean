theorem sJ_I (h : am_H) (o j : Nat) (x : Int64) : am_I (am_sJ h o j x) = am_I h := rfl
theorem sI_J (h : am_H) (o j : Nat) (x : Int32) : am_J (am_sI h o j x) = am_J h := rfl
theorem updL_at (f : Nat → Int64) (j : Nat) (x : Int64) : vp_updL f j x j = x := by unfold vp_updL; rw [if_pos rfl]
theorem updL_ne {f : Nat → Int64} {j k : Nat} {x : Int64} (h : k ≠ j) : vp_updL f j x k = f k := by unfold vp_updL; rw [if_neg h]
/-- only the survey's states and slots have changed -/
def frV (o : Nat) (h h' : am_H) : Prop := h'.1 = h.1 ∧ am_K h' = am_K h ∧ am_A h' = am_A h ∧ (∀ q, q ≠ o + 3 → am_J h' q = am_J h q) ∧ (∀ q, q ≠ o → q ≠ o + 5 → q ≠ o + 6 → q ≠ o + 7 → q ≠ o + 9 → am_I h' q = am_I h q) ∧ ∀ k, k ≠ 0 → am_I h' o k = am_I h o k
theorem frV_r (o : Nat) (h : am_H) : frV o h h := ⟨rfl, rfl, rfl, fun _ _ => rfl, fun _ _ _ _ _ _ => rfl, fun _ _ => rfl⟩
theorem mv_8 {h : am_H} {o N : Nat} {key : Nat → Int64} {pf pb : Nat → Int32} {T : Nat → Nat} (v : V8 h o N key pf pb T) (x : Int64) (f s : Int32) :
    (∀ k, k < N → key k = x → ∀ F, 4097 ≤ F → f_X6_meet F o x f s h = some (nI k, h)) ∧
    ((∀ k, k < N → key k ≠ x) → N < 2000 → ∃ h' T', (∀ F, 4097 ≤ F → f_X6_meet F o x f s h = some (nI N, h')) ∧ V8 h' o (N + 1) (fun i => if i = N then x else key i) (fun i => if i = N then f else pf i) (fun i => if i = N then s else pb i) T' ∧ am_I h' (o + 9) = upd (am_I h (o + 9)) N (Int32.ofInt (-1)) ∧ frV o h h') ∧
    ((∀ k, k < N → key k ≠ x) → N = 2000 → ∀ F, 4097 ≤ F → f_X6_meet F o x f s h = some (Int32.ofInt (-1), h)) := by
  obtain ⟨D, hDM, hD, st⟩ := sl_8 v x
  obtain ⟨v1, v2, v3, v4, v5⟩ := v
  have hs : (hs8 x + D) % 4096 < 4096 := Nat.mod_lt _ (by decide)
  have vs : am_vp (nI ((hs8 x + D) % 4096)) 4096 = true := hp_vp hs (by decide)
  have cs : Int32.toNatClampNeg (nI ((hs8 x + D) % 4096)) = (hs8 x + D) % 4096 := nI_clamp (by omega)
  have n5 : o ≠ o + 5 := by omega
  have n6 : o ≠ o + 6 := by omega
  have n7 : o ≠ o + 7 := by omega
  have n9 : o ≠ o + 9 := by omega
  refine ⟨?_, ?_, ?_⟩
  · intro k hk e F hF
    subst e
    have hT := oa_old v5 hk hD
    unfold f_X6_meet
    rw [st F hF, b2s, vs, cond_true, cs, v4 _ hs, hT, if_neg (fun e => by have := (nI_0e (v := k + 1) (by omega)).mp e; omega), nI_m1 (by omega)]
    rfl
  · intro hno hN
    have hT := oa_new v5 hno hD
    have vN : am_vp (nI N) 2000 = true := hp_vp hN (by decide)
    have cN : Int32.toNatClampNeg (nI N) = N := nI_clamp (by omega)
    have lt : nI N < Int32.ofInt 2000 := by rw [show Int32.ofInt 2000 = nI 2000 from rfl, nI_ltI (by omega) (by decide)]; exact hN
    have a0 : ∀ g : am_H, am_I (am_sJ g (o + 3) N x) o = am_I g o := fun _ => rfl
    have a5 : ∀ (g : am_H) j y, am_I (am_sI g (o + 5) j y) o = am_I g o := fun g j y => hp_I' _ _ _ n5
    have a6 : ∀ (g : am_H) j y, am_I (am_sI g (o + 6) j y) o = am_I g o := fun g j y => hp_I' _ _ _ n6
    have a7 : ∀ (g : am_H) j y, am_I (am_sI g (o + 7) j y) o = am_I g o := fun g j y => hp_I' _ _ _ n7
    have a9 : ∀ (g : am_H) j y, am_I (am_sI g (o + 9) j y) o = am_I g o := fun g j y => hp_I' _ _ _ n9
    refine ⟨am_sI (am_sI (am_sI (am_sI (am_sI (am_sJ h (o + 3) N x) (o + 5) N f) (o + 6) N s) (o + 9) N (Int32.ofInt (-1))) o 0 (nI (N + 1))) (o + 7) ((hs8 x + D) % 4096) (nI (N + 1)), updN T ((hs8 x + D) % 4096) (N + 1), ?_, ⟨?_, by omega, ?_, ?_, oa_add v5 (by omega) hno hDM hD⟩, ?_, ?_⟩
    · intro F hF
      unfold f_X6_meet
      rw [st F hF, b2s, vs, cond_true, cs, v4 _ hs, hT, if_pos (show nI 0 = 0 from rfl), v1, if_pos lt]
      simp only [a0, a5, a6, a7, a9, v1, vN, cN, cond_true, hp_I, upd_at, hp_1]
      rw [nI_m1 (show N + 1 ≠ 0 by omega)]
      rfl
    · rw [a7, hp_I, upd_at]
    · intro i hi
      have e3 : am_J (am_sI (am_sI (am_sI (am_sI (am_sI (am_sJ h (o + 3) N x) (o + 5) N f) (o + 6) N s) (o + 9) N (Int32.ofInt (-1))) o 0 (nI (N + 1))) (o + 7) ((hs8 x + D) % 4096) (nI (N + 1))) (o + 3) = vp_updL (am_J h (o + 3)) N x := hp_J h (o + 3) N x
      rw [e3, hp_I' _ _ _ (show o + 5 ≠ o + 7 by omega), hp_I' _ _ _ (show o + 5 ≠ o by omega), hp_I' _ _ _ (show o + 5 ≠ o + 9 by omega), hp_I' _ _ _ (show o + 5 ≠ o + 6 by omega), hp_I, hp_I' _ _ _ (show o + 6 ≠ o + 7 by omega), hp_I' _ _ _ (show o + 6 ≠ o by omega), hp_I' _ _ _ (show o + 6 ≠ o + 9 by omega), hp_I, hp_I' _ _ _ (show o + 6 ≠ o + 5 by omega), sJ_I]
      by_cases c : i = N
      · subst c
        simp only [updL_at, upd_at, if_true]
        exact ⟨trivial, trivial, trivial⟩
      · simp only [updL_ne c, upd_ne c, if_neg c]
        exact v3 i (by omega)
    · intro t ht
      rw [hp_I]
      by_cases c : t = (hs8 x + D) % 4096
      · rw [c, upd_at, updN_at]
      · rw [upd_ne c, updN_ne c, hp_I' _ _ _ (show o + 7 ≠ o by omega), hp_I' _ _ _ (show o + 7 ≠ o + 9 by omega), hp_I' _ _ _ (show o + 7 ≠ o + 6 by omega), hp_I' _ _ _ (show o + 7 ≠ o + 5 by omega), sJ_I]
        exact v4 t ht
    · rw [hp_I' _ _ _ (show o + 9 ≠ o + 7 by omega), hp_I' _ _ _ (show o + 9 ≠ o by omega), hp_I, hp_I' _ _ _ (show o + 9 ≠ o + 6 by omega), hp_I' _ _ _ (show o + 9 ≠ o + 5 by omega), sJ_I]
    · refine ⟨rfl, rfl, rfl, fun q hq => ?_, fun q q0 q5 q6 q7 q9 => ?_, fun k hk => ?_⟩
      · exact hp_J' h N x hq
      · rw [hp_I' _ _ _ q7, hp_I' _ _ _ q0, hp_I' _ _ _ q9, hp_I' _ _ _ q6, hp_I' _ _ _ q5, sJ_I]
      · rw [a7, hp_I, upd_ne hk, a9, a6, a5, sJ_I]
  · intro hno hN F hF
    have hT := oa_new v5 hno hD
    unfold f_X6_meet
    rw [st F hF, b2s, vs, cond_true, cs, v4 _ hs, hT, if_pos (show nI 0 = 0 from rfl), v1, if_neg (by rw [hN]; decide)]
/-- only the reference's states have changed -/
def frV9 (h h' : am_H) : Prop := h'.1 = h.1 ∧ am_K h' = am_K h ∧ am_A h' = am_A h ∧ (∀ q, q ≠ 80 → am_J h' q = am_J h q) ∧ (∀ q, q ≠ 51 → q ≠ 81 → q ≠ 82 → q ≠ 84 → am_I h' q = am_I h q) ∧ ∀ k, k ≠ 50 → k ≠ 51 → am_I h' 51 k = am_I h 51 k
theorem mv9_a {h : am_H} {N : Nat} {key : Nat → Int64} {pf pb : Nat → Int32} {T : Nat → Nat} (v : V9 h N key pf pb T) {k : Nat} (hk : k < N) (f s : Int32) {F : Nat} (hF : 8193 ≤ F) : f_X9_meet F (key k) f s h = some (nI k, h) := by
  obtain ⟨D, hDM, hD, st⟩ := sl_9 v (key k)
  obtain ⟨v1, v2, v3, v4, v5⟩ := v
  have hs : (hs9 (key k) + D) % 8192 < 8192 := Nat.mod_lt _ (by decide)
  have vs : am_vp (nI ((hs9 (key k) + D) % 8192)) 8192 = true := hp_vp hs (by decide)
  have cs : Int32.toNatClampNeg (nI ((hs9 (key k) + D) % 8192)) = (hs9 (key k) + D) % 8192 := nI_clamp (by omega)
  have hT := oa_old v5 hk hD
  have r := v4 _ hs
  rw [hT] at r
  have ne : ¬ nI (k + 1) = 0 := fun e => by have := (nI_0e (v := k + 1) (by omega)).mp e; omega
  have m1 : nI (k + 1) - Int32.ofInt 1 = nI k := nI_m1 (by omega)
  unfold f_X9_meet
  rw [st F hF, b2s, vs, cond_true, cs, r, if_neg ne, b_some, r, m1]
theorem mv9_c {h : am_H} {N : Nat} {key : Nat → Int64} {pf pb : Nat → Int32} {T : Nat → Nat} (v : V9 h N key pf pb T) {x : Int64} (hno : ∀ k, k < N → key k ≠ x) (hN : N = 2000) (f s : Int32) {F : Nat} (hF : 8193 ≤ F) : f_X9_meet F x f s h = some (Int32.ofInt (-1), am_sI h 51 51 (Int32.ofInt 1)) := by
  obtain ⟨D, hDM, hD, st⟩ := sl_9 v x
  obtain ⟨v1, v2, v3, v4, v5⟩ := v
  have hs : (hs9 x + D) % 8192 < 8192 := Nat.mod_lt _ (by decide)
  have vs : am_vp (nI ((hs9 x + D) % 8192)) 8192 = true := hp_vp hs (by decide)
  have cs : Int32.toNatClampNeg (nI ((hs9 x + D) % 8192)) = (hs9 x + D) % 8192 := nI_clamp (by omega)
  have hT := oa_new v5 hno hD
  have r := v4 _ hs
  rw [hT] at r
  have e2 : am_I h 51 50 = Int32.ofInt 2000 := by rw [v1, hN]; rfl
  have z1 : ¬ am_I (am_sI h 51 51 (Int32.ofInt 1)) 51 51 = 0 := by rw [hp_I, upd_at]; decide
  have r2 : am_I (am_sI h 51 51 (Int32.ofInt 1)) 84 ((hs9 x + D) % 8192) = nI 0 := by rw [hp_I' _ _ _ (by decide)]; exact r
  have m1 : nI 0 - Int32.ofInt 1 = Int32.ofInt (-1) := by decide
  have z0 : nI 0 = 0 := rfl
  unfold f_X9_meet
  rw [st F hF, b2s, vs, cond_true, cs, r, if_pos z0, e2, if_pos rfl, b_some, show am_b01 (Int32.ofInt 1) = true from rfl, cond_true, if_neg z1, b_some, r2, m1]
theorem mv9_b {h : am_H} {N : Nat} {key : Nat → Int64} {pf pb : Nat → Int32} {T : Nat → Nat} (v : V9 h N key pf pb T) {x : Int64} (hno : ∀ k, k < N → key k ≠ x) (hN : N < 2000) (f s : Int32) : ∃ D, D < 8192 ∧ oaAt 8192 T key hs9 x D ∧ ∀ F, 8193 ≤ F → f_X9_meet F x f s h = some (nI N, am_sI (am_sI (am_sI (am_sI (am_sJ (am_sI h 51 51 (Int32.ofInt 0)) 80 N x) 81 N f) 82 N s) 51 50 (nI (N + 1))) 84 ((hs9 x + D) % 8192) (nI (N + 1))) := by
  obtain ⟨D, hDM, hD, st⟩ := sl_9 v x
  obtain ⟨v1, v2, v3, v4, v5⟩ := v
  have hs : (hs9 x + D) % 8192 < 8192 := Nat.mod_lt _ (by decide)
  have vs : am_vp (nI ((hs9 x + D) % 8192)) 8192 = true := hp_vp hs (by decide)
  have cs : Int32.toNatClampNeg (nI ((hs9 x + D) % 8192)) = (hs9 x + D) % 8192 := nI_clamp (by omega)
  have hT := oa_new v5 hno hD
  have r := v4 _ hs
  rw [hT] at r
  have vN : am_vp (nI N) 2001 = true := hp_vp (by omega) (by decide)
  have cN : Int32.toNatClampNeg (nI N) = N := nI_clamp (by omega)
  have ne : ¬ nI N = Int32.ofInt 2000 := fun e => by
    have := (nI_inj (b := 2000) (by omega) (by decide)).mp e
    omega
  have z0 : nI 0 = 0 := rfl
  have z1 : am_I (am_sI h 51 51 (Int32.ofInt 0)) 51 51 = 0 := by rw [hp_I, upd_at]; rfl
  have z2 : am_I (am_sI h 51 51 (Int32.ofInt 0)) 51 50 = nI N := by rw [hp_I, upd_ne (by decide)]; exact v1
  have z3 : am_I (am_sJ (am_sI h 51 51 (Int32.ofInt 0)) 80 N x) 51 50 = nI N := z2
  have z4 : am_I (am_sI (am_sJ (am_sI h 51 51 (Int32.ofInt 0)) 80 N x) 81 N f) 51 50 = nI N := by rw [hp_I' _ _ _ (by decide)]; exact z3
  have z5 : am_I (am_sI (am_sI (am_sJ (am_sI h 51 51 (Int32.ofInt 0)) 80 N x) 81 N f) 82 N s) 51 50 = nI N := by rw [hp_I' _ _ _ (by decide)]; exact z4
  have z6 : am_I (am_sI (am_sI (am_sI (am_sJ (am_sI h 51 51 (Int32.ofInt 0)) 80 N x) 81 N f) 82 N s) 51 50 (nI (N + 1))) 51 50 = nI (N + 1) := by rw [hp_I, upd_at]
  have z7 : am_I (am_sI (am_sI (am_sI (am_sI (am_sJ (am_sI h 51 51 (Int32.ofInt 0)) 80 N x) 81 N f) 82 N s) 51 50 (nI (N + 1))) 84 ((hs9 x + D) % 8192) (nI (N + 1))) 84 ((hs9 x + D) % 8192) = nI (N + 1) := by rw [hp_I, upd_at]
  have m1 : nI (N + 1) - Int32.ofInt 1 = nI N := nI_m1 (by omega)
  have n1 : nI N + Int32.ofInt 1 = nI (N + 1) := hp_1 N
  refine ⟨D, hDM, hD, fun F hF => ?_⟩
  unfold f_X9_meet
  rw [st F hF, b2s, vs, cond_true, cs, r, if_pos z0, v1, if_neg ne, b_some, show am_b01 (Int32.ofInt 0) = true from rfl, cond_true, z1, if_pos rfl, z2, vN, cond_true, cN, z3, vN, cond_true, cN, z4, vN, cond_true, cN, z5, n1, z6, b_some, z7, m1]
theorem mv9_d {h : am_H} {N : Nat} {key : Nat → Int64} {pf pb : Nat → Int32} {T : Nat → Nat} (v : V9 h N key pf pb T) {x : Int64} (hno : ∀ k, k < N → key k ≠ x) (hN : N < 2000) (f s : Int32) {D : Nat} (hDM : D < 8192) (hD : oaAt 8192 T key hs9 x D) {H : am_H} (hH : H = am_sI (am_sI (am_sI (am_sI (am_sJ (am_sI h 51 51 (Int32.ofInt 0)) 80 N x) 81 N f) 82 N s) 51 50 (nI (N + 1))) 84 ((hs9 x + D) % 8192) (nI (N + 1))) : V9 H (N + 1) (fun i => if i = N then x else key i) (fun i => if i = N then f else pf i) (fun i => if i = N then s else pb i) (updN T ((hs9 x + D) % 8192) (N + 1)) ∧ am_I H 51 51 = nI 0 ∧ frV9 h H := by
  obtain ⟨v1, v2, v3, v4, v5⟩ := v
  have i62 : am_I H 51 = upd (upd (am_I h 51) 51 (Int32.ofInt 0)) 50 (nI (N + 1)) := by
    rw [hH, hp_I' _ _ _ (by decide), hp_I, hp_I' _ _ _ (by decide), hp_I' _ _ _ (by decide), sJ_I, hp_I]
  have i92 : am_I H 81 = upd (am_I h 81) N f := by
    rw [hH, hp_I' _ _ _ (by decide), hp_I' _ _ _ (by decide), hp_I' _ _ _ (by decide), hp_I, sJ_I, hp_I' _ _ _ (by decide)]
  have i93 : am_I H 82 = upd (am_I h 82) N s := by
    rw [hH, hp_I' _ _ _ (by decide), hp_I' _ _ _ (by decide), hp_I, hp_I' _ _ _ (by decide), sJ_I, hp_I' _ _ _ (by decide)]
  have i95 : am_I H 84 = upd (am_I h 84) ((hs9 x + D) % 8192) (nI (N + 1)) := by
    rw [hH, hp_I, hp_I' _ _ _ (by decide), hp_I' _ _ _ (by decide), hp_I' _ _ _ (by decide), sJ_I, hp_I' _ _ _ (by decide)]
  have j91 : am_J H 80 = vp_updL (am_J h 80) N x := by
    rw [hH, sI_J, sI_J, sI_J, sI_J, hp_J, sI_J]
  refine ⟨⟨?_, by omega, ?_, ?_, oa_add v5 (by omega) hno hDM hD⟩, ?_, ?_⟩
  · rw [i62, upd_at]
  · intro i hi
    rw [j91, i92, i93]
    by_cases c : i = N
    · rw [c, updL_at, upd_at, upd_at]
      exact ⟨(if_pos rfl).symm, (if_pos rfl).symm, (if_pos rfl).symm⟩
    · rw [updL_ne c, upd_ne c, upd_ne c]
      obtain ⟨y1, y2, y3⟩ := v3 i (by omega)
      exact ⟨y1.trans (if_neg c).symm, y2.trans (if_neg c).symm, y3.trans (if_neg c).symm⟩
  · intro t ht
    rw [i95]
    by_cases c : t = (hs9 x + D) % 8192
    · rw [c, upd_at, updN_at]
    · rw [upd_ne c, updN_ne c]; exact v4 t ht
  · rw [i62, upd_ne (by decide), upd_at]; rfl
  · rw [hH]
    refine ⟨rfl, rfl, rfl, fun q hq => ?_, fun q q0 q2 q3 q5 => ?_, fun k hk hk' => ?_⟩
    · rw [sI_J, sI_J, sI_J, sI_J, hp_J' _ _ _ hq, sI_J]
    · rw [hp_I' _ _ _ q5, hp_I' _ _ _ q0, hp_I' _ _ _ q3, hp_I' _ _ _ q2, sJ_I, hp_I' _ _ _ q0]
    · rw [hp_I' _ _ _ (by decide), hp_I, upd_ne hk, hp_I' _ _ _ (by decide), hp_I' _ _ _ (by decide), sJ_I, hp_I, upd_ne hk']
