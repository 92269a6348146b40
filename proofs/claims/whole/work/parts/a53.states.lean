/-! ===== states of a talk: when two are one ===== -/
def tsE (s s' : TS) : Prop := (∀ o, o < 3 → s.1 o = s'.1 o) ∧ ∀ p, p < 6 → s.2 p = s'.2 p
theorem tsE_r (s : TS) : tsE s s := ⟨fun _ _ => rfl, fun _ _ => rfl⟩
theorem tsE_s {s s' : TS} (h : tsE s s') : tsE s' s := ⟨fun o ho => (h.1 o ho).symm, fun p hp => (h.2 p hp).symm⟩
theorem tsE_t {s s' s'' : TS} (h : tsE s s') (k : tsE s' s'') : tsE s s'' := ⟨fun o ho => (h.1 o ho).trans (k.1 o ho), fun p hp => (h.2 p hp).trans (k.2 p hp)⟩
/-- the class's number of a state is its own -/
theorem kE8 {r : TR} (hr : r.ok) {s s' : TS} (h : r.sk s) (h' : r.sk s') : lL (r.N s) = lL (r.N s') ↔ tsE s s' := by
  constructor
  · intro e
    obtain ⟨a, b⟩ := en_inj (sk_en hr h) (sk_en hr h') e
    exact ⟨a, fun p hp => ps_inj (h.2 p hp) (h'.2 p hp) (b p hp)⟩
  · intro e
    have : r.N s = r.N s' := by
      unfold TR.N enN TR.b
      simp only [e.1 0 (by decide), e.1 1 (by decide), e.1 2 (by decide), e.2 0 (by decide), e.2 1 (by decide), e.2 2 (by decide), e.2 3 (by decide), e.2 4 (by decide), e.2 5 (by decide)]
    rw [this]
theorem lLn_inj {a b : Nat} (ha : a < 2 ^ 63) (hb : b < 2 ^ 63) (e : lL a = lL b) : a = b := by
  have h := congrArg (fun x : Int64 => x.toBitVec.toNat) e
  have e1 : ∀ n, n < 2 ^ 63 → (lL n).toBitVec.toNat = n := fun n hn => by
    show (BitVec.ofNat 64 n).toNat = n
    rw [BitVec.toNat_ofNat]
    exact Nat.mod_eq_of_lt (by omega)
  have h : (lL a).toBitVec.toNat = (lL b).toBitVec.toNat := h
  rwa [e1 a ha, e1 b hb] at h
theorem mx {m a a' b b' : Nat} (hb : b < m) (hb' : b' < m) (e : m * a + b = m * a' + b') : a = a' ∧ b = b' := by
  have h1 : (m * a + b) % m = (m * a' + b') % m := by rw [e]
  rw [Nat.mul_add_mod, Nat.mul_add_mod, Nat.mod_eq_of_lt hb, Nat.mod_eq_of_lt hb'] at h1
  refine ⟨?_, h1⟩
  have h2 : m * a = m * a' := by omega
  exact Nat.eq_of_mul_eq_mul_left (by omega) h2
/-- the reference's number of a state is its own -/
theorem kE9 {s s' : TS} (h : wOk s) (h' : wOk s') : lL (wN s) = lL (wN s') ↔ tsE s s' := by
  constructor
  · intro e
    have b1 : wN s < 2 ^ 63 := by
      have := w_lt h
      have := h.2 5 (by decide)
      unfold wN; omega
    have b2 : wN s' < 2 ^ 63 := by
      have := w_lt h'
      have := h'.2 5 (by decide)
      unfold wN; omega
    have e := lLn_inj b1 b2 e
    obtain ⟨e7, x5⟩ := mx (h.2 5 (by decide)) (h'.2 5 (by decide)) e
    obtain ⟨e6, x4⟩ := mx (h.2 4 (by decide)) (h'.2 4 (by decide)) e7
    obtain ⟨e5, x3⟩ := mx (h.2 3 (by decide)) (h'.2 3 (by decide)) e6
    obtain ⟨e4, x2⟩ := mx (h.2 2 (by decide)) (h'.2 2 (by decide)) e5
    obtain ⟨e3, x1⟩ := mx (h.2 1 (by decide)) (h'.2 1 (by decide)) e4
    obtain ⟨e2, x0⟩ := mx (h.2 0 (by decide)) (h'.2 0 (by decide)) e3
    obtain ⟨e1, y2⟩ := mx (h.1 2 (by decide)) (h'.1 2 (by decide)) e2
    obtain ⟨e0, y1⟩ := mx (h.1 1 (by decide)) (h'.1 1 (by decide)) e1
    have y0 : s.1 0 = s'.1 0 := (mx (m := 16) (a := 0) (a' := 0) (h.1 0 (by decide)) (h'.1 0 (by decide)) e0).2
    refine ⟨fun o ho => ?_, fun p hp => ?_⟩
    · have : o = 0 ∨ o = 1 ∨ o = 2 := by omega
      rcases this with rfl | rfl | rfl <;> assumption
    · have : p = 0 ∨ p = 1 ∨ p = 2 ∨ p = 3 ∨ p = 4 ∨ p = 5 := by omega
      rcases this with rfl | rfl | rfl | rfl | rfl | rfl <;> assumption
  · intro e
    have : wN s = wN s' := by
      unfold wN w7 w6 w5 w4 w3 w2 w1 w0
      simp only [e.1 0 (by decide), e.1 1 (by decide), e.1 2 (by decide), e.2 0 (by decide), e.2 1 (by decide), e.2 2 (by decide), e.2 3 (by decide), e.2 4 (by decide), e.2 5 (by decide)]
    rw [this]
