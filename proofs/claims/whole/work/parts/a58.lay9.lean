/-! ===== the reference lays a state: the rules stay ===== -/
theorem T9_lay {h h' : am_H} {r : TR} {s s' : TS} (t : T9 h r s) (f : frD h h') (w : W9 h' s') : T9 h' r s' := by
  obtain ⟨t1, t2, t3, t4⟩ := t
  obtain ⟨f0, fI⟩ := f
  obtain ⟨w1, w2, w3, w4, w5, w6, w7⟩ := w
  refine ⟨by rw [fI 62 (by decide) (by decide)]; exact t1, fun a b ha hb hab => ⟨by rw [fI 70 (by decide) (by decide)]; exact (t2 a b ha hb hab).1, ?_⟩, w1, ?_⟩
  · have c : (a = 0 ∧ b = 1) ∨ (a = 0 ∧ b = 2) ∨ (a = 1 ∧ b = 0) ∨ (a = 1 ∧ b = 2) ∨ (a = 2 ∧ b = 0) ∨ (a = 2 ∧ b = 1) := by omega
    rcases c with ⟨rfl, rfl⟩ | ⟨rfl, rfl⟩ | ⟨rfl, rfl⟩ | ⟨rfl, rfl⟩ | ⟨rfl, rfl⟩ | ⟨rfl, rfl⟩
    · exact w2
    · exact w3
    · exact w4
    · exact w5
    · exact w6
    · exact w7
  · rw [fI 69 (by decide) (by decide), fI 64 (by decide) (by decide), fI 65 (by decide) (by decide), fI 62 (by decide) (by decide)]
    exact t4
/-- a listed step is done, and the state behind it told -/
theorem st_9 {h : am_H} {r : TR} (hr : r.ok) {s : TS} (hs : r.sk s) (t : T9 h r s) {x : Nat × TS} (hx : x ∈ ts_all r s) (n : Nat) : ∃ h', f_X9_doStep (n + 4) (nI x.1) h = some ((), h') ∧ T9 h' r x.2 ∧ frD h h' ∧ r.sk x.2 ∧ ∀ m, f_X9_asState (m + 20) h' = some (lL (wN x.2), h') := by
  have key : ∀ o, o < 3 → x ∈ ts_off r s o 15 → ∃ h', f_X9_doStep (n + 4) (nI x.1) h = some ((), h') ∧ T9 h' r x.2 ∧ frD h h' ∧ r.sk x.2 ∧ ∀ m, f_X9_asState (m + 20) h' = some (lL (wN x.2), h') := by
    intro o ho hm
    obtain ⟨i, i1, i16, hb, ha⟩ := ts_off_m 15 (Nat.le_refl _) hm
    obtain ⟨h', e, t', f', s'⟩ := d9 hr hs t ho i16 i1 ⟨s.1 o, hs.1 o ho, hb⟩ ha n
    exact ⟨h', e, t', f', s', fun m => as_st m (T9_W t') (sk_w s')⟩
  have hx : x ∈ ts_off r s 0 15 ++ (ts_off r s 1 15 ++ ts_off r s 2 15) := hx
  rcases List.mem_append.mp hx with hm | hm
  · exact key 0 (by decide) hm
  · rcases List.mem_append.mp hm with hm | hm
    · exact key 1 (by decide) hm
    · exact key 2 (by decide) hm
/-- a state is laid, whatever stood there -/
theorem ly_9 {h : am_H} {r : TR} {s s' : TS} (t : T9 h r s) (hs : r.sk s') (m : Nat) : ∃ h', f_X9_layState (m + 20) (lL (wN s')) h = some ((), h') ∧ T9 h' r s' ∧ frD h h' := by
  obtain ⟨h', e, w, f⟩ := ls_st m h (sk_w hs)
  exact ⟨h', e, T9_lay t f w, f⟩
