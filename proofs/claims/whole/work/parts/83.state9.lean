/-! ===== the reference's states: laid back ===== -/
theorem ls_m (k : Nat) : nI (k + 1) + Int32.ofInt (-1) = nI k := by rw [nI_p1 (by omega)]; rfl
theorem ls_B (n k v c : Nat) (a : Int64) (h : am_H) (hk : k < 8) (hz : ¬ (nI (k + 1) - nI (k + 1) / (Int32.ofInt 4) * (Int32.ofInt 4)) = 0) (hc : c < 128) (hv : 128 * v + c < 18014398509481984) : g_X9_layState (n + 1) 0 a (lL (128 * v + c)) (nI (k + 1)) h = g_X9_layState n 0 a (lL v) (nI k) (am_sI h 78 (k + 1) (nI c)) := by
  have h63 : 128 * v + c < 2 ^ 63 := Nat.lt_trans hv (by decide)
  rw [g_X9_layState, q00, cond_true, if_neg (show ¬ nI (k + 1) < 0 from nI_pos (by omega)), if_neg hz, hp_vp (show k + 1 < 9 by omega) (by decide), cond_true, b2s, nI_clamp (show k + 1 < 2 ^ 31 by omega), show (128 : Int64) = lL 128 from rfl, lL_mod h63 (by decide) (by decide), lL_div h63 (by decide) (by decide), ls_m, show (128 * v + c) % 128 = c from by omega, show (128 * v + c) / 128 = v from by omega]
theorem ls_C (n k : Nat) (a v : Int64) (h : am_H) (hk : k < 8) (hz : (nI (k + 1) - nI (k + 1) / (Int32.ofInt 4) * (Int32.ofInt 4)) = 0) : g_X9_layState (n + 1) 0 a v (nI (k + 1)) h = g_X9_layState n 0 a v (nI k) h := by
  rw [g_X9_layState, q00, cond_true, if_neg (show ¬ nI (k + 1) < 0 from nI_pos (by omega)), if_pos hz, b2s, ls_m]
theorem ls_Z1 (n : Nat) (a v : Int64) (h : am_H) : g_X9_layState (n + 1) 0 a v (nI 0) h = g_X9_layState n 0 a v (Int32.ofInt (-1)) h := by
  rw [g_X9_layState, q00, cond_true, if_neg (show ¬ nI 0 < 0 by decide), if_pos (show (nI 0 - nI 0 / (Int32.ofInt 4) * (Int32.ofInt 4)) = 0 by decide), b2s, show nI 0 + Int32.ofInt (-1) = Int32.ofInt (-1) from by decide]
theorem ls_Z2 (n : Nat) (a v : Int64) (h : am_H) : g_X9_layState (n + 1) 0 a v (Int32.ofInt (-1)) h = g_X9_layState n 1 a v (nI 2) h := by
  rw [g_X9_layState, q00, cond_true, if_pos (show Int32.ofInt (-1) < 0 by decide)]; rfl
theorem ls_P (n k v c : Nat) (a : Int64) (h : am_H) (hk : k < 3) (hc : c < 16) (hv : 16 * v + c < 18014398509481984) : g_X9_layState (n + 1) 1 a (lL (16 * v + c)) (nI k) h = g_X9_layState n 1 a (lL v) (nI k + Int32.ofInt (-1)) (am_sI h 77 k (nI c)) := by
  have h63 : 16 * v + c < 2 ^ 63 := Nat.lt_trans hv (by decide)
  rw [g_X9_layState, q10, cond_false, if_neg (show ¬ nI k < 0 from nI_pos (by omega)), hp_vp hk (by decide), cond_true, nI_clamp (show k < 2 ^ 31 by omega), show (16 : Int64) = lL 16 from rfl, lL_mod h63 (by decide) (by decide), lL_div h63 (by decide) (by decide), show (16 * v + c) % 16 = c from by omega, show (16 * v + c) / 16 = v from by omega]
theorem ls_E (n : Nat) (a v : Int64) (h : am_H) : g_X9_layState (n + 1) 1 a v (Int32.ofInt (-1)) h = some ((), h) := by
  rw [g_X9_layState, q10, cond_false, if_pos (show Int32.ofInt (-1) < 0 by decide)]
theorem ls_run (n : Nat) (a : Int64) {s : TS} (hw : wOk s) (h : am_H) : g_X9_layState (n + 20) 0 a (lL (wN s)) (nI 8) h = some ((), am_sI (am_sI (am_sI (am_sI (am_sI (am_sI (am_sI (am_sI (am_sI h 78 7 (nI (s.2 5))) 78 6 (nI (s.2 4))) 78 5 (nI (s.2 3))) 78 3 (nI (s.2 2))) 78 2 (nI (s.2 1))) 78 1 (nI (s.2 0))) 77 2 (nI (s.1 2))) 77 1 (nI (s.1 1))) 77 0 (nI (s.1 0))) := by
  obtain ⟨a0, a1, a2, a3, a4, a5, a6, a7, a8⟩ := w_lt hw
  have e1 := ls_C (n + 19) 7 a (lL (wN s)) h (by decide) (by decide)
  have e2 := ls_B (n + 18) 6 (w7 s) (s.2 5) a h (by decide) (by decide) (hw.2 5 (by decide)) a8
  have e3 := ls_B (n + 17) 5 (w6 s) (s.2 4) a (am_sI h 78 7 (nI (s.2 5))) (by decide) (by decide) (hw.2 4 (by decide)) (Nat.lt_trans a7 (by decide))
  have e4 := ls_B (n + 16) 4 (w5 s) (s.2 3) a (am_sI (am_sI h 78 7 (nI (s.2 5))) 78 6 (nI (s.2 4))) (by decide) (by decide) (hw.2 3 (by decide)) (Nat.lt_trans a6 (by decide))
  have e5 := ls_C (n + 15) 3 a (lL (w5 s)) (am_sI (am_sI (am_sI h 78 7 (nI (s.2 5))) 78 6 (nI (s.2 4))) 78 5 (nI (s.2 3))) (by decide) (by decide)
  have e6 := ls_B (n + 14) 2 (w4 s) (s.2 2) a (am_sI (am_sI (am_sI h 78 7 (nI (s.2 5))) 78 6 (nI (s.2 4))) 78 5 (nI (s.2 3))) (by decide) (by decide) (hw.2 2 (by decide)) (Nat.lt_trans a5 (by decide))
  have e7 := ls_B (n + 13) 1 (w3 s) (s.2 1) a (am_sI (am_sI (am_sI (am_sI h 78 7 (nI (s.2 5))) 78 6 (nI (s.2 4))) 78 5 (nI (s.2 3))) 78 3 (nI (s.2 2))) (by decide) (by decide) (hw.2 1 (by decide)) (Nat.lt_trans a4 (by decide))
  have e8 := ls_B (n + 12) 0 (w2 s) (s.2 0) a (am_sI (am_sI (am_sI (am_sI (am_sI h 78 7 (nI (s.2 5))) 78 6 (nI (s.2 4))) 78 5 (nI (s.2 3))) 78 3 (nI (s.2 2))) 78 2 (nI (s.2 1))) (by decide) (by decide) (hw.2 0 (by decide)) (Nat.lt_trans a3 (by decide))
  refine e1.trans (e2.trans (e3.trans (e4.trans (e5.trans (e6.trans (e7.trans (e8.trans ?_)))))))
  generalize am_sI (am_sI (am_sI (am_sI (am_sI (am_sI h 78 7 (nI (s.2 5))) 78 6 (nI (s.2 4))) 78 5 (nI (s.2 3))) 78 3 (nI (s.2 2))) 78 2 (nI (s.2 1))) 78 1 (nI (s.2 0)) = g
  have f1 := ls_Z1 (n + 11) a (lL (w2 s)) g
  have f2 := ls_Z2 (n + 10) a (lL (w2 s)) g
  have f3 := ls_P (n + 9) 2 (w1 s) (s.1 2) a g (by decide) (hw.1 2 (by decide)) (Nat.lt_trans a2 (by decide))
  have f4 := ls_P (n + 8) 1 (w0 s) (s.1 1) a (am_sI g 77 2 (nI (s.1 2))) (by decide) (hw.1 1 (by decide)) (Nat.lt_trans a1 (by decide))
  have f5 := ls_P (n + 7) 0 0 (s.1 0) a (am_sI (am_sI g 77 2 (nI (s.1 2))) 77 1 (nI (s.1 1))) (by decide) (hw.1 0 (by decide)) (Nat.lt_trans a0 (by decide))
  have f6 := ls_E (n + 6) a (lL 0) (am_sI (am_sI (am_sI g 77 2 (nI (s.1 2))) 77 1 (nI (s.1 1))) 77 0 (nI (s.1 0)))
  rw [show nI 2 + Int32.ofInt (-1) = nI 1 from by decide] at f3
  rw [show nI 1 + Int32.ofInt (-1) = nI 0 from by decide] at f4
  rw [show nI 0 + Int32.ofInt (-1) = Int32.ofInt (-1) from by decide] at f5
  exact f1.trans (f2.trans (f3.trans (f4.trans (f5.trans f6))))
theorem ls_st (n : Nat) (h : am_H) {s : TS} (hw : wOk s) : ∃ h', f_X9_layState (n + 20) (lL (wN s)) h = some ((), h') ∧ W9 h' s ∧ frD h h' := by
  refine ⟨_, ls_run n (lL (wN s)) hw h, ⟨?_, ?_⟩, ⟨rfl, rfl, rfl, rfl⟩, fun q a b => ?_⟩
  · intro o ho
    rw [hp_I, hp_I, hp_I]
    match o, ho with
    | 0, _ => rw [upd_at]
    | 1, _ => rw [upd_ne (by decide), upd_at]
    | 2, _ => rw [upd_ne (by decide), upd_ne (by decide), upd_at]
  · simp only [hp_I, hp_I', ne_eq, Nat.reduceEqDiff, not_false_eq_true]
    refine ⟨?_, ?_, ?_, ?_, ?_, ?_⟩
    · rw [upd_at]
    · rw [upd_ne (by decide), upd_at]
    · rw [upd_ne (by decide), upd_ne (by decide), upd_at]
    · rw [upd_ne (by decide), upd_ne (by decide), upd_ne (by decide), upd_at]
    · rw [upd_ne (by decide), upd_ne (by decide), upd_ne (by decide), upd_ne (by decide), upd_at]
    · rw [upd_ne (by decide), upd_ne (by decide), upd_ne (by decide), upd_ne (by decide), upd_ne (by decide), upd_at]
  · rw [hp_I' _ _ _ a, hp_I' _ _ _ a, hp_I' _ _ _ a, hp_I' _ _ _ b, hp_I' _ _ _ b, hp_I' _ _ _ b, hp_I' _ _ _ b, hp_I' _ _ _ b, hp_I' _ _ _ b]
