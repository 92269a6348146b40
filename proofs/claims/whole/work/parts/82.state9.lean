/-! ===== the reference's states: laid down ===== -/
theorem as_A (n v o : Nat) {h : am_H} {c : Nat} (ho : o < 3) (hc : am_I h 77 o = nI c) (hc2 : c < 16) : g_X9_asState (n + 1) 0 (lL v) (nI o) h = g_X9_asState n 0 (lL (16 * v + c)) (nI (o + 1)) h := by
  rw [g_X9_asState, q00, cond_true, if_neg (show ¬ Int32.ofInt 3 ≤ nI o from nI_ge (a := o) (b := 3) ho (by decide)), hp_vp ho (by decide), cond_true, nI_clamp (show o < 2 ^ 31 by omega), hc, lL_n (show c < 2 ^ 31 by omega), hp_1, show (16 : Int64) = lL 16 from rfl, lL_mul, lL_add]
theorem as_B (n v k : Nat) {h : am_H} {c : Nat} (hk : k < 9) (hz : ¬ (nI k - nI k / (Int32.ofInt 4) * (Int32.ofInt 4)) = 0) (hc : am_I h 78 k = nI c) (hc2 : c < 128) : g_X9_asState (n + 1) 1 (lL v) (nI k) h = g_X9_asState n 1 (lL (128 * v + c)) (nI (k + 1)) h := by
  rw [g_X9_asState, q10, cond_false, if_neg (show ¬ Int32.ofInt 9 ≤ nI k from nI_ge (a := k) (b := 9) hk (by decide)), if_neg hz, hp_vp hk (by decide), cond_true, nI_clamp (show k < 2 ^ 31 by omega), hc, lL_n (show c < 2 ^ 31 by omega), b_some, hp_1, show (128 : Int64) = lL 128 from rfl, lL_mul, lL_add]
theorem as_C (n v k : Nat) {h : am_H} (hk : k < 9) (hz : (nI k - nI k / (Int32.ofInt 4) * (Int32.ofInt 4)) = 0) : g_X9_asState (n + 1) 1 (lL v) (nI k) h = g_X9_asState n 1 (lL v) (nI (k + 1)) h := by
  rw [g_X9_asState, q10, cond_false, if_neg (show ¬ Int32.ofInt 9 ≤ nI k from nI_ge (a := k) (b := 9) hk (by decide)), if_pos hz, b_some, hp_1]
theorem as_D (n : Nat) (v : Int64) (h : am_H) : g_X9_asState (n + 1) 0 v (nI 3) h = g_X9_asState n 1 v (nI 0) h := by
  rw [g_X9_asState, q00, cond_true, if_pos (show Int32.ofInt 3 ≤ nI 3 by decide)]; rfl
theorem as_E (n : Nat) (v : Int64) (h : am_H) : g_X9_asState (n + 1) 1 v (nI 9) h = some (v, h) := by
  rw [g_X9_asState, q10, cond_false, if_pos (show Int32.ofInt 9 ≤ nI 9 by decide)]
theorem as_st (n : Nat) {h : am_H} {s : TS} (w : W9 h s) (hw : wOk s) : f_X9_asState (n + 20) h = some (lL (wN s), h) := by
  obtain ⟨x0, x1, x2, x3, x5, x6, x7⟩ := w
  have e : f_X9_asState (n + 20) h = g_X9_asState (n + 19 + 1) 0 (lL 0) (nI 0) h := rfl
  rw [e, as_A (n + 19) 0 0 (by decide) (x0 0 (by decide)) (hw.1 0 (by decide)), as_A (n + 18) _ 1 (by decide) (x0 1 (by decide)) (hw.1 1 (by decide)), as_A (n + 17) _ 2 (by decide) (x0 2 (by decide)) (hw.1 2 (by decide)), as_D, as_C (n + 15) _ 0 (by decide) (by decide), as_B (n + 14) _ 1 (by decide) (by decide) x1 (hw.2 0 (by decide)), as_B (n + 13) _ 2 (by decide) (by decide) x2 (hw.2 1 (by decide)), as_B (n + 12) _ 3 (by decide) (by decide) x3 (hw.2 2 (by decide)), as_C (n + 11) _ 4 (by decide) (by decide), as_B (n + 10) _ 5 (by decide) (by decide) x5 (hw.2 3 (by decide)), as_B (n + 9) _ 6 (by decide) (by decide) x6 (hw.2 4 (by decide)), as_B (n + 8) _ 7 (by decide) (by decide) x7 (hw.2 5 (by decide)), as_C (n + 7) _ 8 (by decide) (by decide), as_E]
  unfold wN w7 w6 w5 w4 w3 w2 w1 w0
  exact rfl
