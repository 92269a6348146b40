/-! ===== steps: the class's list, whole ===== -/
theorem l8_off {r : TR} (hr : r.ok) {s : TS} (hs : r.sk s) {o : Nat} (ho : o < 3) (n : Nat) : ∀ (k : Nat), k ≤ 15 → ∀ (h : am_H) (L : List (Nat × TS)), T8 h r → L8 h r L → L.length + 2 * k ≤ 90 →
    ∃ h' m, n ≤ m ∧ g_X7_list (n + k + 1) 1 (lL (r.N s)) (nI o) (r.fo o (s.1 o)) (nI (16 - k)) h = g_X7_list m 0 (lL (r.N s)) (nI (o + 1)) 0 0 h' ∧ L8 h' r (L ++ ts_off r s o k) ∧ frT h h' := by
  intro k
  induction k with
  | zero =>
    intro _ h L t l hl
    refine ⟨h, n, Nat.le_refl _, ?_, by unfold ts_off; rw [List.append_nil]; exact l, frT_r h⟩
    rw [show n + 0 + 1 = n + 1 from rfl, g_X7_list]
    simp only [q10, cond_false, if_pos (show Int32.ofInt 15 < nI (16 - 0) by decide), hp_1]
  | succ k ih =>
    intro hk h L t l hl
    have e16 : 16 - (k + 1) = 15 - k := by omega
    have n15 : ¬ Int32.ofInt 15 < nI (15 - k) := nI_nlt (a := 15) (b := 15 - k) (by omega) (by decide)
    rw [show n + (k + 1) + 1 = (n + k + 1) + 1 from rfl, g_X7_list, e16]
    simp only [q10, cond_false, if_neg n15]
    by_cases z : ((Int32.toUInt32 (r.fo o (s.1 o)) >>> (Int32.toUInt32 (nI (15 - k)) &&& Int32.toUInt32 31)).toInt32) = 0
    · rw [if_pos z]
      have nil := off_nil r s o (k + 1) hk (fun j hj => sh_zero (by omega) z j (by omega))
      refine ⟨h, n + k + 1, by omega, by rw [hp_1], by rw [nil, List.append_nil]; exact l, frT_r h⟩
    · rw [if_neg z, bt_8 _ (show 15 - k < 32 by omega)]
      unfold ts_off
      have e17 : nI (15 - k) + Int32.ofInt 1 = nI (16 - k) := by rw [hp_1]; congr 1; omega
      cases hb : bt (r.fo o (s.1 o)) (15 - k)
      · rw [bI_f, if_pos (show Int32.ofInt 0 = 0 from rfl), b_some, e17]
        exact ih (by omega) h L t l (by omega)
      · have hv : r.av o (15 - k) := ⟨s.1 o, hs.1 o ho, hb⟩
        obtain ⟨h2, e2, l2, f2⟩ := l8_act hr t hs ho (show 15 - k < 16 by omega) (by omega) hv l (by omega)
        rw [bI_t, if_neg (by decide), e2, b2s, b_some, e17]
        have len := act_len r s o (15 - k)
        obtain ⟨h3, m, hm, e3, l3, f3⟩ := ih (by omega) h2 (L ++ ts_act r s o (15 - k)) (T8_fr t f2) l2 (by rw [List.length_append]; omega)
        refine ⟨h3, m, hm, e3, ?_, frT_t f2 f3⟩
        rw [List.append_assoc] at l3; exact l3
theorem l8_may {h : am_H} {r : TR} (hr : r.ok) (t : T8 h r) {s : TS} (hs : r.sk s) {o : Nat} (ho : o < 3) : f_X7_mayAt (lL (r.N s)) (nI o) h = some (r.fo o (s.1 o), h) := by
  have eo := sk_en hr hs
  have hp := hs.1 o ho
  unfold f_X7_mayAt
  rw [pl8_get _ ho, b2s]
  unfold TR.N
  rw [en_pl eo ho, g9_ix, hp_vp (show 16 * o + s.1 o < 48 by omega) (by decide), cond_true, nI_clamp (by omega), t.2.2.1 o _ ho hp]
theorem l8_list {h : am_H} {r : TR} (hr : r.ok) (t : T8 h r) {s : TS} (hs : r.sk s) (F : Nat) (hF : 60 ≤ F) : ∃ h', f_X7_list F (lL (r.N s)) h = some (nI (ts_all r s).length, h') ∧ L8 h' r (ts_all r s) ∧ frT h h' ∧ (ts_all r s).length ≤ 90 := by
  have f0 : frT h (am_sI h 28 5 (Int32.ofInt 0)) := ⟨rfl, rfl, rfl, fun _ _ => rfl, fun o a _ => hp_I' _ _ _ a, fun k hk => by rw [hp_I, upd_ne hk]⟩
  have l0 : L8 (am_sI h 28 5 (Int32.ofInt 0)) r [] := ⟨by rw [hp_I, upd_at]; rfl, fun t x hx => by simp at hx⟩
  have off : ∀ (o : Nat), o < 3 → ∀ (F : Nat) (h : am_H) (L : List (Nat × TS)), 18 ≤ F → T8 h r → L8 h r L → L.length + 30 ≤ 90 → ∃ h' m, F - 17 ≤ m ∧ g_X7_list F 0 (lL (r.N s)) (nI o) 0 0 h = g_X7_list m 0 (lL (r.N s)) (nI (o + 1)) 0 0 h' ∧ L8 h' r (L ++ ts_off r s o 15) ∧ frT h h' := by
    intro o ho F h L hF t l hl
    obtain ⟨h', m, hm, e, l', f'⟩ := l8_off hr hs ho (F - 17) 15 (by decide) h L t l (by omega)
    refine ⟨h', m, hm, ?_, l', f'⟩
    rw [show F = (F - 1) + 1 from by omega, g_X7_list]
    simp only [q00, cond_true, if_neg (show ¬ Int32.ofInt 3 ≤ nI o from nI_ge (a := o) (b := 3) ho (by decide)), l8_may hr t hs ho, b2s]
    rw [show F - 17 + 15 + 1 = F - 1 from by omega] at e
    exact e
  obtain ⟨h1, m1, g1, e1, l1, f1⟩ := off 0 (by decide) F (am_sI h 28 5 (Int32.ofInt 0)) [] (by omega) (T8_fr t f0) l0 (by decide)
  have k0 := off_len r s 0 15
  have k1 := off_len r s 1 15
  have k2 := off_len r s 2 15
  obtain ⟨h2, m2, g2, e2, l2, f2⟩ := off 1 (by decide) m1 h1 ([] ++ ts_off r s 0 15) (by omega) (T8_fr t (frT_t f0 f1)) l1 (by rw [List.nil_append]; omega)
  obtain ⟨h3, m3, g3, e3, l3, f3⟩ := off 2 (by decide) m2 h2 ([] ++ ts_off r s 0 15 ++ ts_off r s 1 15) (by omega) (T8_fr t (frT_t f0 (frT_t f1 f2))) l2 (by rw [List.length_append, List.nil_append]; omega)
  have le : [] ++ ts_off r s 0 15 ++ ts_off r s 1 15 ++ ts_off r s 2 15 = ts_all r s := by unfold ts_all; rw [List.nil_append, List.append_assoc]
  rw [le] at l3
  refine ⟨h3, ?_, l3, frT_t f0 (frT_t f1 (frT_t f2 f3)), ?_⟩
  · unfold f_X7_list
    rw [show g_X7_list F 0 (lL (r.N s)) (Int32.ofInt 0) 0 0 (am_sI h 28 5 (Int32.ofInt 0)) = _ from e1, e2, e3, show m3 = (m3 - 1) + 1 from by omega, g_X7_list]
    simp only [q00, cond_true, if_pos (show Int32.ofInt 3 ≤ nI (2 + 1) by decide), l3.1]
  · unfold ts_all
    rw [List.length_append, List.length_append]; omega
