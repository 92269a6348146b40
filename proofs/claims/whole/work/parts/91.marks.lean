/-! ===== marks of a state: the class, whole ===== -/
def tWr (r : TR) (sd : Nat → Bool) (s : TS) (o : Nat) : Bool := sd o && (!bt (r.fo o (s.1 o)) 0 && (oAll r s o 15 && tW3 r s o))
def w4I (x : Bool) : Int32 := bif x then Int32.ofInt 4 else Int32.ofInt 0
theorem m3 : ∀ o, o < 3 → (nI (o + 1) - nI (o + 1) / (Int32.ofInt 3) * (Int32.ofInt 3)) = nI ((o + 1) % 3) ∧ ((nI o + (Int32.ofInt 2)) - (nI o + (Int32.ofInt 2)) / (Int32.ofInt 3) * (Int32.ofInt 3)) = nI ((o + 2) % 3) := by decide
theorem b3s {α β γ ε : Type} (a : α) (b : β) (c : γ) (f : α → β → γ → Option ε) : am_b3 (some (a, b, c)) f = f a b c := rfl
theorem tW3_eq (r : TR) (s : TS) {o : Nat} (ho : o < 3) : tW3 r s o = (tBar r s o ((o + 1) % 3) || tBar r s o ((o + 2) % 3)) := by
  unfold tW3 tWf
  match o, ho with
  | 0, _ => rfl
  | 1, _ =>
    show ((true && tBar r s 1 0) || ((false && tBar r s 1 1) || (true && tBar r s 1 2))) = (tBar r s 1 2 || tBar r s 1 0)
    rw [Bool.true_and, Bool.false_and, Bool.false_or, Bool.true_and, Bool.or_comm]
  | 2, _ =>
    show ((true && tBar r s 2 0) || ((true && tBar r s 2 1) || (false && tBar r s 2 2))) = (tBar r s 2 0 || tBar r s 2 1)
    rw [Bool.true_and, Bool.true_and, Bool.false_and, Bool.or_false]
theorem mk_s (n : Nat) {h : am_H} {r : TR} (hr : r.ok) (t : T8 h r) {s : TS} (hs : r.sk s) {sd : Nat → Bool} (s8 : S8 h sd) {o : Nat} (ho : o < 3) (hv : ∃ v, v < 65536 ∧ r.fo o (s.1 o) = nI v) (st : Int32) (e x : Bool) : g_X7_marks (n + 16 + 1) 0 (lL (r.N s)) st (bI e) (w4I x) (nI o) h = g_X7_marks (n + 16) 0 (lL (r.N s)) st (bI (e && tE r sd s o)) (w4I (x || tWr r sd s o)) (nI (o + 1)) h := by
  have ho1 : (o + 1) % 3 < 3 := Nat.mod_lt _ (by decide)
  have ho2 : (o + 2) % 3 < 3 := Nat.mod_lt _ (by decide)
  rw [g_X7_marks, if_neg (show ¬ Int32.ofInt 3 ≤ nI o from nI_ge (a := o) (b := 3) ho (by decide)), hp_vp ho (by decide), cond_true, nI_clamp (show o < 2 ^ 31 by omega), (s8 o ho).1, hp_1]
  unfold tE tWr
  cases hd : sd o
  · rw [bI_f, if_pos (show Int32.ofInt 0 = 0 from rfl), b3s]
    simp only [Bool.not_false, Bool.true_or, Bool.and_true, Bool.false_and, Bool.or_false]
  · rw [bI_t, if_neg (show ¬ Int32.ofInt 1 = 0 by decide), l8_may hr t hs ho, b2s]
    have w := wt_8 t hs s8 ho hv
    have b1 := br_8 hr t hs ho ho1 (by omega) n
    have b2 := br_8 hr t hs ho ho2 (by omega) n
    rw [(m3 o ho).1, (m3 o ho).2, and1]
    have y1 : (if bI (bt (r.fo o (s.1 o)) 0) = 0 then some (Int32.ofInt 0) else some (Int32.ofInt 1)) = some (bI (bt (r.fo o (s.1 o)) 0)) := by cases bt (r.fo o (s.1 o)) 0 <;> rfl
    have fin : ∀ z : Bool, (Option.bind (some (bI (bt (r.fo o (s.1 o)) 0))) fun y238 => (Option.bind ((if bI z = 0 then some (Int32.ofInt 0) else some (Int32.ofInt 4))) fun y291 => (some ((bI e &&& y238), (w4I x ||| y291), h)))) = some (bI (e && bt (r.fo o (s.1 o)) 0), w4I (x || z), h) := by
      intro z
      rw [b_some, ← bI_and]
      cases z <;> cases x <;> rfl
    cases hw : (!bt (r.fo o (s.1 o)) 0 && oAll r s o 15)
    · rw [if_neg (fun q => by rw [w.mp q] at hw; cases hw), b_some, if_pos (show Int32.ofInt 0 = 0 from rfl), b2s, y1, show Int32.ofInt 0 = bI false from rfl, show (if bI false = 0 then some (bI false) else some (Int32.ofInt 4)) = some (bI false) from rfl]
      have f0 := fin false
      rw [show (if bI false = 0 then some (Int32.ofInt 0) else some (Int32.ofInt 4)) = some (bI false) from rfl] at f0
      rw [f0, b3s]
      have : (!bt (r.fo o (s.1 o)) 0 && (oAll r s o 15 && tW3 r s o)) = false := by rw [← Bool.and_assoc, hw, Bool.false_and]
      rw [this]; rfl
    · rw [if_pos (w.mpr hw), b_some, if_neg (show ¬ Int32.ofInt 1 = 0 by decide), b1, b2s]
      have tw : (!bt (r.fo o (s.1 o)) 0 && (oAll r s o 15 && tW3 r s o)) = tW3 r s o := by rw [← Bool.and_assoc, hw, Bool.true_and]
      rw [tw, tW3_eq r s ho, b2, b2s, y1]
      cases z1 : tBar r s o ((o + 1) % 3)
      · rw [bI_f, if_pos (show Int32.ofInt 0 = 0 from rfl)]
        cases z2 : tBar r s o ((o + 2) % 3)
        · rw [bI_f, if_pos (show Int32.ofInt 0 = 0 from rfl), b2s, show Int32.ofInt 0 = bI false from rfl]
          have f0 := fin false
          rw [show (if bI false = 0 then some (Int32.ofInt 0) else some (Int32.ofInt 4)) = (if bI false = 0 then some (bI false) else some (Int32.ofInt 4)) from rfl] at f0
          rw [f0, b3s]; rfl
        · rw [bI_t, if_neg (show ¬ Int32.ofInt 1 = 0 by decide), b2s, show Int32.ofInt 1 = bI true from rfl, fin true, b3s]; rfl
      · rw [bI_t, if_neg (show ¬ Int32.ofInt 1 = 0 by decide), b2s, show Int32.ofInt 1 = bI true from rfl, fin true, b3s]; rfl
