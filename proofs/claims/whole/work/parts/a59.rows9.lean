/-! ===== the reference meets all states: the steps of one state ===== -/
theorem T9_c {h h' : am_H} {r : TR} {s : TS} (t : T9 h r s) (e1 : ∀ k, k = 11 ∨ k = 40 ∨ k = 41 ∨ k = 42 → am_I h' 51 k = am_I h 51 k) (e2 : ∀ q, q = 53 ∨ q = 54 ∨ q = 58 ∨ q = 59 ∨ q = 77 ∨ q = 78 → am_I h' q = am_I h q) : T9 h' r s := by
  unfold T9
  rw [e1 11 (by decide), e1 40 (by decide), e1 41 (by decide), e1 42 (by decide), e2 59 (by decide), e2 78 (by decide), e2 77 (by decide), e2 58 (by decide), e2 54 (by decide), e2 53 (by decide)]
  exact t
theorem V9_fr {h h' : am_H} {N : Nat} {key : Nat → Int64} {pf pb : Nat → Int32} {T : Nat → Nat} (v : V9 h N key pf pb T) (e0 : am_I h' 51 50 = am_I h 51 50) (e1 : am_J h' 80 = am_J h 80) (e2 : ∀ q, q = 81 ∨ q = 82 ∨ q = 84 → am_I h' q = am_I h q) : V9 h' N key pf pb T := by
  unfold V9
  rw [e0, e1, e2 81 (by decide), e2 82 (by decide), e2 84 (by decide)]
  exact v
/-- what the reference's row of states leaves as it was -/
def frML (h h' : am_H) : Prop := (h'.1 = h.1 ∧ am_K h' = am_K h ∧ am_A h' = am_A h) ∧ (∀ q, q ≠ 80 → am_J h' q = am_J h q) ∧ (∀ q, q ≠ 51 → q ≠ 77 → q ≠ 78 → q ≠ 79 → q ≠ 81 → q ≠ 82 → q ≠ 84 → q ≠ 85 → q ≠ 86 → am_I h' q = am_I h q) ∧ (∀ k, k ≠ 44 → k ≠ 50 → k ≠ 51 → k ≠ 56 → am_I h' 51 k = am_I h 51 k) ∧ (am_I h' 78 0 = am_I h 78 0 ∧ am_I h' 78 4 = am_I h 78 4 ∧ am_I h' 78 8 = am_I h 78 8)
theorem frML_r (h : am_H) : frML h h := ⟨⟨rfl, rfl, rfl⟩, fun _ _ => rfl, fun _ _ _ _ _ _ _ _ _ _ => rfl, fun _ _ _ _ _ => rfl, rfl, rfl, rfl⟩
theorem frML_t {a b c : am_H} (f : frML a b) (g : frML b c) : frML a c := by
  obtain ⟨⟨f1, f2, f3⟩, f4, f5, f6, f7, f8, f9⟩ := f
  obtain ⟨⟨g1, g2, g3⟩, g4, g5, g6, g7, g8, g9⟩ := g
  exact ⟨⟨g1.trans f1, g2.trans f2, g3.trans f3⟩, fun q q1 => (g4 q q1).trans (f4 q q1), fun q a1 a2 a3 a4 a5 a6 a7 a8 a9 => (g5 q a1 a2 a3 a4 a5 a6 a7 a8 a9).trans (f5 q a1 a2 a3 a4 a5 a6 a7 a8 a9), fun k b1 b2 b3 b4 => (g6 k b1 b2 b3 b4).trans (f6 k b1 b2 b3 b4), g7.trans f7, g8.trans f8, g9.trans f9⟩
theorem frML_Z {h h' : am_H} (f : frZ h h') : frML h h' := ⟨⟨f.1.1.1, f.1.1.2.1, f.1.1.2.2.1⟩, fun q _ => by rw [f.1.1.2.2.2], fun q _ a b _ _ _ _ _ _ => f.1.2 q a b, fun k _ _ _ _ => by rw [f.1.2 51 (by decide) (by decide)], f.2⟩
theorem frML_V {h h' : am_H} (f : frV9 h h') : frML h h' := by
  obtain ⟨f1, f2, f3, f4, f5, f6⟩ := f
  exact ⟨⟨f1, f2, f3⟩, f4, fun q a _ _ _ b c d _ _ => f5 q a b c d, fun k _ a b _ => f6 k a b, by rw [f5 78 (by decide) (by decide) (by decide) (by decide)], by rw [f5 78 (by decide) (by decide) (by decide) (by decide)], by rw [f5 78 (by decide) (by decide) (by decide) (by decide)]⟩
theorem frML_S {h h' : am_H} (f : frS h h') : frML h h' := by
  obtain ⟨⟨f1, f2, f3, f4⟩, f5, f6⟩ := f
  exact ⟨⟨f1, f2, f3⟩, fun q _ => by rw [f4], fun q a _ _ b _ _ _ _ _ => f5 q a b, fun k a _ _ _ => f6 k a, by rw [f5 78 (by decide) (by decide)], by rw [f5 78 (by decide) (by decide)], by rw [f5 78 (by decide) (by decide)]⟩
theorem frML_97 (h : am_H) (j : Nat) (x y : Int32) : frML h (am_sI (am_sI h 86 j x) 51 56 y) := ⟨⟨rfl, rfl, rfl⟩, fun _ _ => rfl, fun q a _ _ _ _ _ _ _ b => by rw [hp_I' _ _ _ a, hp_I' _ _ _ b], fun k _ _ _ b => by rw [hp_I, upd_ne b, hp_I' _ _ _ (by decide)], rfl, rfl, rfl⟩
theorem frML_96 (h : am_H) (j : Nat) (x : Int32) : frML h (am_sI h 85 j x) := ⟨⟨rfl, rfl, rfl⟩, fun _ _ => rfl, fun q _ _ _ _ _ _ _ b _ => by rw [hp_I' _ _ _ b], fun k _ _ _ _ => rfl, rfl, rfl, rfl⟩
/-- the reference's row of states and leads, while there is room -/
def Q9 (h : am_H) (v : SV) : Prop := (∃ T, V9 h v.n (k9 v) (frI v.f) (frI v.b) T) ∧ am_I h 51 51 = nI 0 ∧ am_I h 51 56 = nI v.m ∧ ∀ j, j < v.m → am_I h 86 j = nI (v.et j)
theorem Q9_c {h h' : am_H} {v : SV} (q : Q9 h v) (eJ : am_J h' 80 = am_J h 80) (e6 : ∀ k, k = 50 ∨ k = 51 ∨ k = 56 → am_I h' 51 k = am_I h 51 k) (e : ∀ q, q = 81 ∨ q = 82 ∨ q = 84 ∨ q = 86 → am_I h' q = am_I h q) : Q9 h' v := by
  obtain ⟨⟨T, V⟩, q1, q2, q3⟩ := q
  exact ⟨⟨T, V9_fr V (e6 50 (by decide)) eJ (fun q hq => e q (by omega))⟩, by rw [e6 51 (by decide)]; exact q1, by rw [e6 56 (by decide)]; exact q2, by rw [e 86 (by decide)]; exact q3⟩
theorem Q9_Z {h h' : am_H} {v : SV} (q : Q9 h v) (f : frZ h h') : Q9 h' v := Q9_c q (by rw [f.1.1.2.2.2]) (fun k _ => by rw [f.1.2 51 (by decide) (by decide)]) (fun q hq => f.1.2 q (by omega) (by omega))
theorem Q9_S {h h' : am_H} {v : SV} (q : Q9 h v) (f : frS h h') : Q9 h' v := Q9_c q (by rw [f.1.2.2.2]) (fun k hk => f.2.2 k (by omega)) (fun q hq => f.2.1 q (by omega) (by omega))
theorem Q9_96 {h : am_H} {v : SV} (q : Q9 h v) (j : Nat) (x : Int32) : Q9 (am_sI h 85 j x) v := Q9_c q rfl (fun _ _ => by rw [hp_I' _ _ _ (by decide)]) (fun q hq => by rw [hp_I' _ _ _ (by omega)])
theorem svList_sp {k : Nat} : ∀ (L : List (Nat × TS)) (v : SV), v.sp = true → svList k v L = v
  | [], _, _ => rfl
  | x :: L, v, h => by
    show svList k (svStep k v x) L = v
    have : svStep k v x = v := by unfold svStep; rw [if_pos h]
    rw [this]; exact svList_sp L v h
