/-! ===== the reference begins anew ===== -/
def s00 : TS := (fun _ => 0, fun _ => 0)
theorem bg_A (n o : Nat) (h : am_H) (ho : o < 3) : g_X9_beginAnew (n + 1) 0 (nI o) h = g_X9_beginAnew n 0 (nI (o + 1)) (am_sI h 77 o (nI 0)) := by
  rw [g_X9_beginAnew, q00, cond_true, if_neg (show ¬ Int32.ofInt 3 ≤ nI o from nI_ge (a := o) (b := 3) ho (by decide)), hp_vp ho (by decide), cond_true, nI_clamp (show o < 2 ^ 31 by omega), hp_1]; rfl
theorem bg_D (n : Nat) (h : am_H) : g_X9_beginAnew (n + 1) 0 (nI 3) h = g_X9_beginAnew n 1 (nI 0) h := by
  rw [g_X9_beginAnew, q00, cond_true, if_pos (show Int32.ofInt 3 ≤ nI 3 by decide)]; rfl
theorem bg_B (n : Nat) : ∀ (d k : Nat) (h : am_H), k + d = 9 → g_X9_beginAnew (n + d + 1) 1 (nI k) h = some ((), am_sR h 78 (hp_fl (am_I h 78) k 9 (nI 0))) := by
  intro d
  induction d with
  | zero =>
    intro k h hk
    have : k = 9 := by omega
    subst this
    rw [show n + 0 + 1 = n + 1 from rfl, g_X9_beginAnew, q10, cond_false, if_pos (show Int32.ofInt 9 ≤ nI 9 by decide), fl_nil, hp_sR_id]
  | succ d ih =>
    intro k h hk
    rw [show n + (d + 1) + 1 = (n + d + 1) + 1 from rfl, g_X9_beginAnew, q10, cond_false, if_neg (show ¬ Int32.ofInt 9 ≤ nI k from nI_ge (a := k) (b := 9) (by omega) (by decide)), hp_vp (show k < 9 by omega) (by decide), cond_true, nI_clamp (show k < 2 ^ 31 by omega), hp_1, show Int32.ofInt 0 = nI 0 from rfl, ih (k + 1) _ (by omega), hp_I, fl_step _ _ (by omega), hp_sR_sI]
theorem bg_9 (n : Nat) (h : am_H) : ∃ h', f_X9_beginAnew (n + 20) h = some ((), h') ∧ W9 h' s00 ∧ Z9 h' ∧ am_I h' 51 12 = nI 0 ∧ (h'.1 = h.1 ∧ am_K h' = am_K h ∧ am_A h' = am_A h ∧ am_J h' = am_J h) ∧ (∀ o, o ≠ 51 → o ≠ 77 → o ≠ 78 → am_I h' o = am_I h o) ∧ ∀ k, k ≠ 12 → am_I h' 51 k = am_I h 51 k := by
  have e : f_X9_beginAnew (n + 20) h = g_X9_beginAnew (n + 19 + 1) 0 (nI 0) (am_sI h 51 12 (nI 0)) := rfl
  have b := bg_B (n + 6) 9 0 (am_sI (am_sI (am_sI (am_sI h 51 12 (nI 0)) 77 0 (nI 0)) 77 1 (nI 0)) 77 2 (nI 0)) (by omega)
  rw [show n + 6 + 9 + 1 = n + 16 from by omega] at b
  refine ⟨am_sR (am_sI (am_sI (am_sI (am_sI h 51 12 (nI 0)) 77 0 (nI 0)) 77 1 (nI 0)) 77 2 (nI 0)) 78 (hp_fl (am_I (am_sI (am_sI (am_sI (am_sI h 51 12 (nI 0)) 77 0 (nI 0)) 77 1 (nI 0)) 77 2 (nI 0)) 78) 0 9 (nI 0)), ?_, ⟨?_, ?_⟩, ⟨?_, ?_, ?_⟩, ?_, ⟨rfl, rfl, rfl, rfl⟩, ?_, ?_⟩
  · rw [e, bg_A (n + 19) 0 _ (by decide), bg_A (n + 18) 1 _ (by decide), bg_A (n + 17) 2 _ (by decide), show n + 17 = (n + 16) + 1 from rfl]
    exact (bg_D (n + 16) _).trans b
  · intro o ho
    rw [hp_IR' _ _ (by decide), hp_I, hp_I, hp_I]
    match o, ho with
    | 0, _ => rfl
    | 1, _ => rfl
    | 2, _ => rfl
  · rw [hp_IR]
    exact ⟨rfl, rfl, rfl, rfl, rfl, rfl⟩
  · rw [hp_IR]; rfl
  · rw [hp_IR]; rfl
  · rw [hp_IR]; rfl
  · rw [hp_IR' _ _ (by decide), hp_I' _ _ _ (by decide), hp_I' _ _ _ (by decide), hp_I' _ _ _ (by decide), hp_I]; rfl
  · intro o a b c
    rw [hp_IR' _ _ c, hp_I' _ _ _ b, hp_I' _ _ _ b, hp_I' _ _ _ b, hp_I' _ _ _ a]
  · intro k hk
    rw [hp_IR' _ _ (by decide), hp_I' _ _ _ (by decide), hp_I' _ _ _ (by decide), hp_I' _ _ _ (by decide), hp_I, upd_ne hk]
