/-! ===== gathering a text: bits, the pure gatherer ===== -/
def bt (x : Int32) (j : Nat) : Bool := x.toBitVec.getLsbD j
theorem bt_e1 : ∀ j, j < 32 → (((Int32.toUInt32 (nI j) &&& Int32.toUInt32 31)).toBitVec % 32#32).toNat = j := by decide
theorem bt_e2 : ∀ j, j < 32 → ((nI j &&& 31).toBitVec.smod 32#32).toNat = j := by decide
theorem bt_1 : ∀ i, i < 32 → (1#32).getLsbD i = decide (i = 0) := by decide
theorem bI_bits (b : Bool) : ∀ i, i < 32 → (bI b).toBitVec.getLsbD i = (b && decide (i = 0)) := by
  cases b <;> decide
theorem bt_8 (x : Int32) {j : Nat} (hj : j < 32) : (((Int32.toUInt32 x >>> (Int32.toUInt32 (nI j) &&& Int32.toUInt32 31)).toInt32) &&& (Int32.ofInt 1)) = bI (bt x j) := by
  apply Int32.toBitVec.inj
  apply BitVec.eq_of_getLsbD_eq
  intro i hi
  rw [bI_bits _ i hi]
  show (x.toBitVec >>> ((((Int32.toUInt32 (nI j) &&& Int32.toUInt32 31)).toBitVec % 32#32).toNat) &&& 1#32).getLsbD i = _
  rw [bt_e1 j hj, BitVec.getLsbD_and, BitVec.getLsbD_ushiftRight, bt_1 i hi]
  by_cases h0 : i = 0
  · subst h0; rfl
  · simp [h0]
theorem bt_9 (x : Int32) {j : Nat} (hj : j < 32) : ((x >>> (nI j &&& 31)) &&& (Int32.ofInt 1)) = bI (bt x j) := by
  apply Int32.toBitVec.inj
  apply BitVec.eq_of_getLsbD_eq
  intro i hi
  rw [bI_bits _ i hi]
  show (x.toBitVec.sshiftRight (((nI j &&& 31).toBitVec.smod 32#32).toNat) &&& 1#32).getLsbD i = _
  rw [bt_e2 j hj, BitVec.getLsbD_and, BitVec.getLsbD_sshiftRight, bt_1 i hi]
  by_cases h0 : i = 0
  · subst h0
    simp [hj, bt]
  · simp [h0]
theorem bt_or (x y : Int32) (j : Nat) : bt (x ||| y) j = (bt x j || bt y j) := by
  show (x.toBitVec ||| y.toBitVec).getLsbD j = _
  rw [BitVec.getLsbD_or]; rfl
theorem bt_0 (j : Nat) : bt (Int32.ofInt 0) j = false := by
  show (0#32).getLsbD j = false
  simp
theorem bt_one : ∀ p, p < 16 → ∀ j, j < 32 → bt ((Int32.ofInt 1) <<< (nI p &&& 31)) j = decide (j = p) := by decide
theorem bt_hi (x : Int32) {j : Nat} (hj : 32 ≤ j) : bt x j = false := BitVec.getLsbD_of_ge _ _ hj
def updB (f : Nat → Bool) (j : Nat) (b : Bool) : Nat → Bool := fun k => if k = j then b else f k
def GS : Type := Nat × Nat × Bool × (Nat → Int32) × (Nat → Int32) × (Nat → Int32) × (Nat → Int32) × (Nat → Bool) × (Nat → Int32) × (Nat → Int32) × (Nat → Bool)
def GS.n (s : GS) : Nat := s.1
def GS.d (s : GS) : Nat := s.2.1
def GS.idle (s : GS) : Bool := s.2.2.1
def GS.code (s : GS) : Nat → Int32 := s.2.2.2.1
def GS.fol (s : GS) : Nat → Int32 := s.2.2.2.2.1
def GS.rF (s : GS) : Nat → Int32 := s.2.2.2.2.2.1
def GS.rL (s : GS) : Nat → Int32 := s.2.2.2.2.2.2.1
def GS.rN (s : GS) : Nat → Bool := s.2.2.2.2.2.2.2.1
def GS.aF (s : GS) : Nat → Int32 := s.2.2.2.2.2.2.2.2.1
def GS.aL (s : GS) : Nat → Int32 := s.2.2.2.2.2.2.2.2.2.1
def GS.aN (s : GS) : Nat → Bool := s.2.2.2.2.2.2.2.2.2.2
def gMk (n d : Nat) (idle : Bool) (code fol rF rL : Nat → Int32) (rN : Nat → Bool) (aF aL : Nat → Int32) (aN : Nat → Bool) : GS := (n, d, idle, code, fol, rF, rL, rN, aF, aL, aN)
def gStart (s : GS) : GS := gMk s.n s.d s.idle s.code s.fol (upd s.rF s.d (Int32.ofInt 0)) (upd s.rL s.d (Int32.ofInt 0)) (updB s.rN s.d true) s.aF s.aL s.aN
def gOpenB (s : GS) : GS := gStart (gMk s.n s.d s.idle s.code s.fol s.rF s.rL s.rN (upd s.aF s.d (Int32.ofInt 0)) (upd s.aL s.d (Int32.ofInt 0)) (updB s.aN s.d false))
def gDep (d : Nat) (s : GS) : GS := gMk s.n d s.idle s.code s.fol s.rF s.rL s.rN s.aF s.aL s.aN
def gOpen (s : GS) : GS := gOpenB (gDep (s.d + 1) s)
def gEnd0 (s : GS) : GS := gMk s.n s.d s.idle s.code s.fol s.rF s.rL s.rN (upd s.aF s.d (s.aF s.d ||| s.rF s.d)) (upd s.aL s.d (s.aL s.d ||| s.rL s.d)) (updB s.aN s.d (s.aN s.d || s.rN s.d))
def gEnd (s : GS) : GS := gStart (gEnd0 s)
def gJoinF (n : Nat) (fol : Nat → Int32) (behind more : Int32) : Nat → Int32 := fun p => if 1 ≤ p ∧ p ≤ n ∧ bt behind p = true then fol p ||| more else fol p
def gJoin (behind more : Int32) (s : GS) : GS := gMk s.n s.d s.idle s.code (gJoinF s.n s.fol behind more) s.rF s.rL s.rN s.aF s.aL s.aN
def gItem0 (f l : Int32) (i : Bool) (s : GS) : GS := gMk s.n s.d s.idle s.code s.fol (bif s.rN s.d then upd s.rF s.d (s.rF s.d ||| f) else s.rF) (upd s.rL s.d (bif i then s.rL s.d ||| l else l)) (updB s.rN s.d (s.rN s.d && i)) s.aF s.aL s.aN
def gItem (f l : Int32) (i : Bool) (s : GS) : GS := gItem0 f l i (gJoin (s.rL s.d) f s)
def gBit (p : Nat) : Int32 := (Int32.ofInt 1) <<< (nI p &&& 31)
def gNew (c : Int32) (s : GS) : GS := gMk (s.n + 1) s.d s.idle (upd s.code (s.n + 1) c) s.fol s.rF s.rL s.rN s.aF s.aL s.aN
def gAct (c : Int32) (s : GS) : GS := gItem (gBit (s.n + 1)) (gBit (s.n + 1)) false (gNew c s)
def gIdle (b : Bool) (s : GS) : GS := gMk s.n s.d (s.idle || b) s.code s.fol s.rF s.rL s.rN s.aF s.aL s.aN
def gClose2 (star : Bool) (f l : Int32) (i : Bool) (s : GS) : GS := gItem f l (i || star) (bif star then gJoin l f (gIdle i s) else s)
def gClose (star : Bool) (s : GS) : GS := gClose2 star ((gEnd s).aF s.d) ((gEnd s).aL s.d) ((gEnd s).aN s.d) (gDep (s.d - 1) (gEnd s))
/-- the class's rows hold a gatherer's state -/
def G8 (h : am_H) (s : GS) : Prop := am_I h 3 3 = nI s.n ∧ am_I h 3 2 = nI s.d ∧ am_I h 3 0 = bI s.idle ∧ (∀ j, 1 ≤ j → j ≤ s.n → am_I h 4 j = s.code j) ∧ (∀ j, j < 16 → am_I h 5 j = s.fol j) ∧ (∀ j, j ≤ s.d → am_I h 6 j = s.rF j ∧ am_I h 7 j = s.rL j ∧ am_I h 8 j = bI (s.rN j) ∧ am_I h 9 j = s.aF j ∧ am_I h 10 j = s.aL j ∧ am_I h 11 j = bI (s.aN j))
/-- only the reader's cells have changed -/
def fr8 (h h' : am_H) : Prop := h'.1 = h.1 ∧ am_K h' = am_K h ∧ am_J h' = am_J h ∧ am_A h' = am_A h ∧ ∀ o, (o < 3 ∨ 11 < o) → am_I h' o = am_I h o
theorem fr8_r (h : am_H) : fr8 h h := ⟨rfl, rfl, rfl, rfl, fun _ _ => rfl⟩
theorem fr8_t {h h1 h2 : am_H} (a : fr8 h h1) (b : fr8 h1 h2) : fr8 h h2 := ⟨b.1.trans a.1, b.2.1.trans a.2.1, b.2.2.1.trans a.2.2.1, b.2.2.2.1.trans a.2.2.2.1, fun o ho => (b.2.2.2.2 o ho).trans (a.2.2.2.2 o ho)⟩
theorem fr8_s {h h1 : am_H} (a : fr8 h h1) {o : Nat} (j : Nat) (x : Int32) (h3 : 3 ≤ o) (h11 : o ≤ 11) : fr8 h (am_sI h1 o j x) := ⟨a.1, a.2.1, a.2.2.1, a.2.2.2.1, fun q hq => by rw [hp_I' _ _ _ (by omega)]; exact a.2.2.2.2 q hq⟩
theorem nar2 (b : Bool) : vp_nar (am_at 2) (bI b) = bI b := by cases b <;> decide
theorem bI_or (a b : Bool) : bI a ||| bI b = bI (a || b) := by cases a <;> cases b <;> decide
theorem bI_and (a b : Bool) : bI a &&& bI b = bI (a && b) := by cases a <;> cases b <;> decide
