/-! ===== steps of a talk: the pure list; the class's ===== -/
/-- the rules of a talk: kinds, room, follow, and of an office's act: 1 waits, partner, letter -/
def TR : Type := (Nat → Nat) × Nat × (Nat → Nat → Int32) × (Nat → Nat → Nat) × (Nat → Nat → Nat) × (Nat → Nat → Nat)
def TR.k (r : TR) : Nat → Nat := r.1
def TR.rm (r : TR) : Nat := r.2.1
def TR.fo (r : TR) : Nat → Nat → Int32 := r.2.2.1
def TR.aw (r : TR) : Nat → Nat → Nat := r.2.2.2.1
def TR.aq (r : TR) : Nat → Nat → Nat := r.2.2.2.2.1
def TR.al (r : TR) : Nat → Nat → Nat := r.2.2.2.2.2
def pn (f t : Nat) : Nat := 2 * f + (if f < t then t - 1 else t)
def TR.ap (r : TR) (o i : Nat) : Nat := if r.aw o i = 1 then pn (r.aq o i) o else pn o (r.aq o i)
/-- an act that may come -/
def TR.av (r : TR) (o i : Nat) : Prop := ∃ j, j < 16 ∧ bt (r.fo o j) i = true
def TR.ok (r : TR) : Prop := (∀ p, p < 6 → r.k p < 5) ∧ 1 ≤ r.rm ∧ r.rm ≤ 3 ∧ ∀ o i, o < 3 → i < 16 → r.av o i → 1 ≤ i → r.aq o i < 3 ∧ r.aq o i ≠ o ∧ r.al o i < 4 ∧ r.aw o i < 2
abbrev TS : Type := (Nat → Nat) × (Nat → Nat)
def TR.b (r : TR) (s : TS) : Nat → Nat := fun p => ps_8 (r.k p) (s.2 p)
def TR.N (r : TR) (s : TS) : Nat := enN s.1 (r.b s)
def TR.sk (r : TR) (s : TS) : Prop := (∀ o, o < 3 → s.1 o < 16) ∧ ∀ p, p < 6 → ps_ok (r.k p) (s.2 p) = true
def ts_go (s : TS) (o i : Nat) : TS := (updN s.1 o i, s.2)
def ts_put (s : TS) (p c : Nat) : TS := (s.1, updN s.2 p c)
def ts_act (r : TR) (s : TS) (o i : Nat) : List (Nat × TS) :=
  if r.aw o i = 1 then
    (if ps_pl (r.k (r.ap o i)) (s.2 (r.ap o i)) (r.al o i) < 3 then (100 * o + i, ts_put (ts_go s o i) (r.ap o i) (ps_wo (s.2 (r.ap o i)) (ps_pl (r.k (r.ap o i)) (s.2 (r.ap o i)) (r.al o i)))) :: (if r.k (r.ap o i) = 4 then [(1000 + (100 * o + i), ts_go s o i)] else []) else [])
  else
    (if ps_sz (s.2 (r.ap o i)) < (if r.k (r.ap o i) = 2 then 1 else r.rm) then (100 * o + i, ts_put (ts_go s o i) (r.ap o i) (ps_put (r.k (r.ap o i)) (s.2 (r.ap o i)) (r.al o i))) :: (if r.k (r.ap o i) = 3 then [(1000 + (100 * o + i), ts_go s o i)] else []) else [])
theorem pn_lt {f t : Nat} (hf : f < 3) (ht : t < 3) (h : f ≠ t) : pn f t < 6 := by unfold pn; split <;> omega
theorem ap_lt {r : TR} (hr : r.ok) {o i : Nat} (ho : o < 3) (hi : i < 16) (h1 : 1 ≤ i) (hv : r.av o i) : r.ap o i < 6 := by
  obtain ⟨a, b, -, -⟩ := hr.2.2.2 o i ho hi hv h1
  unfold TR.ap; split
  · exact pn_lt a ho b
  · exact pn_lt ho a (Ne.symm b)
theorem sk_en {r : TR} (hr : r.ok) {s : TS} (hs : r.sk s) : enOk s.1 (r.b s) := ⟨hs.1, fun p hp => (ps_v (hr.1 p hp) (hs.2 p hp)).1⟩
theorem sk_go {r : TR} {s : TS} (hs : r.sk s) {o i : Nat} (hi : i < 16) : r.sk (ts_go s o i) := by
  refine ⟨fun q hq => ?_, hs.2⟩
  show updN s.1 o i q < 16
  unfold updN; split
  · exact hi
  · exact hs.1 q hq
theorem sk_put {r : TR} {s : TS} (hs : r.sk s) {p c : Nat} (hc : ps_ok (r.k p) c = true) : r.sk (ts_put s p c) := by
  refine ⟨hs.1, fun q hq => ?_⟩
  show ps_ok (r.k q) (updN s.2 p c q) = true
  unfold updN; split
  · next e => rw [e]; exact hc
  · exact hs.2 q hq
theorem b_put (r : TR) (s : TS) (p c : Nat) : r.b (ts_put s p c) = updN (r.b s) p (ps_8 (r.k p) c) := by
  funext q
  show ps_8 (r.k q) (updN s.2 p c q) = _
  unfold updN; split
  · next e => rw [e]
  · rfl
/-- the class's rows hold the rules -/
def T8 (h : am_H) (r : TR) : Prop := am_I h 28 0 = nI r.rm ∧ (∀ p, p < 6 → am_I h 29 p = nI (r.k p)) ∧ (∀ o j, o < 3 → j < 16 → am_I h 34 (16 * o + j) = r.fo o j) ∧ (∀ o i, o < 3 → i < 16 → 1 ≤ i → r.av o i → am_I h 35 (16 * o + i) = nI (r.ap o i) ∧ am_I h 30 (16 * o + i) = nI (r.al o i) ∧ bt (am_I h 36 o) i = decide (r.aw o i = 1))
/-- the listed steps -/
def L8 (h : am_H) (r : TR) (L : List (Nat × TS)) : Prop := am_I h 28 5 = nI L.length ∧ ∀ t x, L[t]? = some x → am_I h 31 t = nI x.1 ∧ am_J h 32 t = lL (r.N x.2)
def frT (h h' : am_H) : Prop := h'.1 = h.1 ∧ am_K h' = am_K h ∧ am_A h' = am_A h ∧ (∀ o, o ≠ 32 → am_J h' o = am_J h o) ∧ (∀ o, o ≠ 28 → o ≠ 31 → am_I h' o = am_I h o) ∧ ∀ k, k ≠ 5 → am_I h' 28 k = am_I h 28 k
theorem frT_r (h : am_H) : frT h h := ⟨rfl, rfl, rfl, fun _ _ => rfl, fun _ _ _ => rfl, fun _ _ => rfl⟩
theorem frT_t {h h1 h2 : am_H} (x : frT h h1) (y : frT h1 h2) : frT h h2 := ⟨y.1.trans x.1, y.2.1.trans x.2.1, y.2.2.1.trans x.2.2.1, fun o a => (y.2.2.2.1 o a).trans (x.2.2.2.1 o a), fun o a b => (y.2.2.2.2.1 o a b).trans (x.2.2.2.2.1 o a b), fun k a => (y.2.2.2.2.2 k a).trans (x.2.2.2.2.2 k a)⟩
theorem T8_fr {h h' : am_H} {r : TR} (t : T8 h r) (f : frT h h') : T8 h' r := by
  obtain ⟨t1, t2, t3, t4⟩ := t
  obtain ⟨-, -, -, -, f5, f6⟩ := f
  exact ⟨by rw [f6 0 (by decide)]; exact t1, fun p hp => by rw [f5 29 (by decide) (by decide)]; exact t2 p hp, fun o j ho hj => by rw [f5 34 (by decide) (by decide)]; exact t3 o j ho hj, fun o i ho hi h1 hv => by rw [f5 35 (by decide) (by decide), f5 30 (by decide) (by decide), f5 36 (by decide) (by decide)]; exact t4 o i ho hi h1 hv⟩
theorem l8_step {h : am_H} {r : TR} {L : List (Nat × TS)} (l : L8 h r L) (hl : L.length < 90) (x : Nat × TS) : ∃ h', f_X7_listStep (nI x.1) (lL (r.N x.2)) h = some ((), h') ∧ L8 h' r (L ++ [x]) ∧ frT h h' := by
  obtain ⟨l1, l2⟩ := l
  have v : am_vp (nI L.length) 90 = true := hp_vp hl (by decide)
  have c : Int32.toNatClampNeg (nI L.length) = L.length := nI_clamp (by omega)
  have iJ : ∀ (hh : am_H) (o j : Nat) (y : Int64) (q : Nat), am_I (am_sJ hh o j y) q = am_I hh q := fun _ _ _ _ _ => rfl
  have jI : ∀ (hh : am_H) (o j : Nat) (y : Int32) (q : Nat), am_J (am_sI hh o j y) q = am_J hh q := fun _ _ _ _ _ => rfl
  refine ⟨am_sI (am_sJ (am_sI h 31 L.length (nI x.1)) 32 L.length (lL (r.N x.2))) 28 5 (nI (L.length + 1)), ?_, ⟨?_, ?_⟩, rfl, rfl, rfl, ?_, ?_, ?_⟩
  · unfold f_X7_listStep
    simp only [iJ, hp_I', ne_eq, Nat.reduceEqDiff, not_false_eq_true, l1, v, c, cond_true, hp_1]
  · rw [hp_I, upd_at, List.length_append]; rfl
  · intro t y hy
    rw [hp_I' _ _ _ (by decide), iJ, hp_I, jI, hp_J, jI]
    by_cases e : t < L.length
    · rw [List.getElem?_append_left e] at hy
      rw [upd_ne (by omega)]
      have := l2 t y hy
      refine ⟨this.1, ?_⟩
      unfold vp_updL
      rw [if_neg (by omega)]; exact this.2
    · rw [List.getElem?_append_right (by omega)] at hy
      have : t = L.length := by
        by_cases q : t - L.length = 0
        · omega
        · rw [List.getElem?_eq_none (by simp; omega)] at hy; cases hy
      subst this
      rw [Nat.sub_self] at hy
      have : x = y := by simpa using hy
      subst this
      rw [upd_at]
      refine ⟨rfl, ?_⟩
      unfold vp_updL
      rw [if_pos rfl]
  · intro o ho
    rw [jI, hp_J' _ _ _ ho, jI]
  · intro o h28 h31
    rw [hp_I' _ _ _ h28, iJ, hp_I' _ _ _ h31]
  · intro k hk
    rw [hp_I, upd_ne hk, iJ, hp_I' _ _ _ (by decide)]
