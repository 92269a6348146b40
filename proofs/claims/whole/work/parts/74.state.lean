/-! ===== a state of a talk: both forms; the class's methods on posts ===== -/
def updN (f : Nat → Nat) (j x : Nat) : Nat → Nat := fun k => if k = j then x else f k
theorem updN_at (f : Nat → Nat) (j x : Nat) : updN f j x j = x := by unfold updN; rw [if_pos rfl]
theorem updN_ne {f : Nat → Nat} {j k x : Nat} (h : k ≠ j) : updN f j x k = f k := by unfold updN; rw [if_neg h]
def enN (pl b : Nat → Nat) : Nat := pl 0 + 16 * pl 1 + 256 * pl 2 + 4096 * b 0 + 1048576 * b 1 + 268435456 * b 2 + 68719476736 * b 3 + 17592186044416 * b 4 + 4503599627370496 * b 5
def enOk (pl b : Nat → Nat) : Prop := (∀ o, o < 3 → pl o < 16) ∧ ∀ p, p < 6 → b p < 256
theorem en_lt {pl b : Nat → Nat} (h : enOk pl b) : enN pl b < 2 ^ 60 := by
  have := h.1 0 (by decide); have := h.1 1 (by decide); have := h.1 2 (by decide)
  have := h.2 0 (by decide); have := h.2 1 (by decide); have := h.2 2 (by decide); have := h.2 3 (by decide); have := h.2 4 (by decide); have := h.2 5 (by decide)
  unfold enN; omega
theorem en_pl {pl b : Nat → Nat} (h : enOk pl b) {o : Nat} (ho : o < 3) : enN pl b / 2 ^ (4 * o) % 16 = pl o := by
  have := h.1 0 (by decide); have := h.1 1 (by decide); have := h.1 2 (by decide)
  unfold enN
  match o, ho with
  | 0, _ => show _ / 1 % 16 = _; omega
  | 1, _ => show _ / 16 % 16 = _; omega
  | 2, _ => show _ / 256 % 16 = _; omega
theorem en_ct {pl b : Nat → Nat} (h : enOk pl b) {p : Nat} (hp : p < 6) : enN pl b / 2 ^ (12 + 8 * p) % 256 = b p := by
  have := h.1 0 (by decide); have := h.1 1 (by decide); have := h.1 2 (by decide)
  have := h.2 0 (by decide); have := h.2 1 (by decide); have := h.2 2 (by decide); have := h.2 3 (by decide); have := h.2 4 (by decide); have := h.2 5 (by decide)
  unfold enN
  match p, hp with
  | 0, _ => show _ / 4096 % 256 = _; omega
  | 1, _ => show _ / 1048576 % 256 = _; omega
  | 2, _ => show _ / 268435456 % 256 = _; omega
  | 3, _ => show _ / 68719476736 % 256 = _; omega
  | 4, _ => show _ / 17592186044416 % 256 = _; omega
  | 5, _ => show _ / 4503599627370496 % 256 = _; omega
theorem en_plu {pl b : Nat → Nat} (h : enOk pl b) {o x : Nat} (ho : o < 3) (hx : x < 16) : ((lL (enN pl b) &&& (((15 : Int64) <<< (Int32.toInt64 ((Int32.ofInt 4) * nI o) &&& 63)) ^^^ (-1 : Int64))) ||| ((Int32.toInt64 (nI x)) <<< (Int32.toInt64 ((Int32.ofInt 4) * nI o) &&& 63))) = lL (enN (updN pl o x) b) := by
  have p0 := h.1 0 (by decide); have p1 := h.1 1 (by decide); have p2 := h.1 2 (by decide)
  match o, ho with
  | 0, _ =>
    have e : enN pl b = 2 ^ (4 * 0) * (16 * (enN pl b / 16) + pl 0) + 0 := by unfold enN; show _ = 1 * (16 * (_ / 16) + pl 0) + 0; omega
    have e2 : enN (updN pl 0 x) b = 2 ^ (4 * 0) * (16 * (enN pl b / 16) + x) + 0 := by
      unfold enN; rw [updN_at, updN_ne (by decide), updN_ne (by decide)]; show _ = 1 * (16 * (_ / 16) + x) + 0; omega
    rw [e2, ← pl8_put (enN pl b / 16) (pl 0) 0 x (by decide) (by decide) p0 hx, ← e]
  | 1, _ =>
    have e : enN pl b = 2 ^ (4 * 1) * (16 * (enN pl b / 256) + pl 1) + pl 0 := by unfold enN; show _ = 16 * (16 * (_ / 256) + pl 1) + pl 0; omega
    have e2 : enN (updN pl 1 x) b = 2 ^ (4 * 1) * (16 * (enN pl b / 256) + x) + pl 0 := by
      unfold enN; rw [updN_at, updN_ne (by decide), updN_ne (by decide)]; show _ = 16 * (16 * (_ / 256) + x) + pl 0; omega
    rw [e2, ← pl8_put (enN pl b / 256) (pl 1) (pl 0) x (by decide) p0 p1 hx, ← e]
  | 2, _ =>
    have e : enN pl b = 2 ^ (4 * 2) * (16 * (enN pl b / 4096) + pl 2) + (pl 0 + 16 * pl 1) := by unfold enN; show _ = 256 * (16 * (_ / 4096) + pl 2) + (pl 0 + 16 * pl 1); omega
    have e2 : enN (updN pl 2 x) b = 2 ^ (4 * 2) * (16 * (enN pl b / 4096) + x) + (pl 0 + 16 * pl 1) := by
      unfold enN; rw [updN_at, updN_ne (by decide), updN_ne (by decide)]; show _ = 256 * (16 * (_ / 4096) + x) + (pl 0 + 16 * pl 1); omega
    rw [e2, ← pl8_put (enN pl b / 4096) (pl 2) (pl 0 + 16 * pl 1) x (by decide) (by show _ < 256; omega) p2 hx, ← e]
theorem en_ctu {pl b : Nat → Nat} (h : enOk pl b) {p x : Nat} (hp : p < 6) (hx : x < 256) (hh : am_H) : f_X7_withContent (lL (enN pl b)) (nI p) (nI x) hh = some (lL (enN pl (updN b p x)), hh) := by
  have p0 := h.1 0 (by decide); have p1 := h.1 1 (by decide); have p2 := h.1 2 (by decide)
  have c0 := h.2 0 (by decide); have c1 := h.2 1 (by decide); have c2 := h.2 2 (by decide); have c3 := h.2 3 (by decide); have c4 := h.2 4 (by decide); have c5 := h.2 5 (by decide)
  match p, hp with
  | 0, _ =>
    have e : enN pl b = 2 ^ (12 + 8 * 0) * (256 * (enN pl b / 1048576) + b 0) + (pl 0 + 16 * pl 1 + 256 * pl 2) := by unfold enN; show _ = 4096 * (256 * (_ / 1048576) + b 0) + _; omega
    have e2 : enN pl (updN b 0 x) = 2 ^ (12 + 8 * 0) * (256 * (enN pl b / 1048576) + x) + (pl 0 + 16 * pl 1 + 256 * pl 2) := by
      unfold enN; rw [updN_at, updN_ne (by decide), updN_ne (by decide), updN_ne (by decide), updN_ne (by decide), updN_ne (by decide)]; show _ = 4096 * (256 * (_ / 1048576) + x) + _; omega
    have r := ct8_put (enN pl b / 1048576) (b 0) (pl 0 + 16 * pl 1 + 256 * pl 2) x (p := 0) (by decide) (by show _ < 4096; omega) c0 hx hh
    rw [← e] at r; rw [r, e2]
  | 1, _ =>
    have e : enN pl b = 2 ^ (12 + 8 * 1) * (256 * (enN pl b / 268435456) + b 1) + (pl 0 + 16 * pl 1 + 256 * pl 2 + 4096 * b 0) := by unfold enN; show _ = 1048576 * (256 * (_ / 268435456) + b 1) + _; omega
    have e2 : enN pl (updN b 1 x) = 2 ^ (12 + 8 * 1) * (256 * (enN pl b / 268435456) + x) + (pl 0 + 16 * pl 1 + 256 * pl 2 + 4096 * b 0) := by
      unfold enN; rw [updN_at, updN_ne (by decide), updN_ne (by decide), updN_ne (by decide), updN_ne (by decide), updN_ne (by decide)]; show _ = 1048576 * (256 * (_ / 268435456) + x) + _; omega
    have r := ct8_put (enN pl b / 268435456) (b 1) (pl 0 + 16 * pl 1 + 256 * pl 2 + 4096 * b 0) x (p := 1) (by decide) (by show _ < 1048576; omega) c1 hx hh
    rw [← e] at r; rw [r, e2]
  | 2, _ =>
    have e : enN pl b = 2 ^ (12 + 8 * 2) * (256 * (enN pl b / 68719476736) + b 2) + (pl 0 + 16 * pl 1 + 256 * pl 2 + 4096 * b 0 + 1048576 * b 1) := by unfold enN; show _ = 268435456 * (256 * (_ / 68719476736) + b 2) + _; omega
    have e2 : enN pl (updN b 2 x) = 2 ^ (12 + 8 * 2) * (256 * (enN pl b / 68719476736) + x) + (pl 0 + 16 * pl 1 + 256 * pl 2 + 4096 * b 0 + 1048576 * b 1) := by
      unfold enN; rw [updN_at, updN_ne (by decide), updN_ne (by decide), updN_ne (by decide), updN_ne (by decide), updN_ne (by decide)]; show _ = 268435456 * (256 * (_ / 68719476736) + x) + _; omega
    have r := ct8_put (enN pl b / 68719476736) (b 2) (pl 0 + 16 * pl 1 + 256 * pl 2 + 4096 * b 0 + 1048576 * b 1) x (p := 2) (by decide) (by show _ < 268435456; omega) c2 hx hh
    rw [← e] at r; rw [r, e2]
  | 3, _ =>
    have e : enN pl b = 2 ^ (12 + 8 * 3) * (256 * (enN pl b / 17592186044416) + b 3) + (pl 0 + 16 * pl 1 + 256 * pl 2 + 4096 * b 0 + 1048576 * b 1 + 268435456 * b 2) := by unfold enN; show _ = 68719476736 * (256 * (_ / 17592186044416) + b 3) + _; omega
    have e2 : enN pl (updN b 3 x) = 2 ^ (12 + 8 * 3) * (256 * (enN pl b / 17592186044416) + x) + (pl 0 + 16 * pl 1 + 256 * pl 2 + 4096 * b 0 + 1048576 * b 1 + 268435456 * b 2) := by
      unfold enN; rw [updN_at, updN_ne (by decide), updN_ne (by decide), updN_ne (by decide), updN_ne (by decide), updN_ne (by decide)]; show _ = 68719476736 * (256 * (_ / 17592186044416) + x) + _; omega
    have r := ct8_put (enN pl b / 17592186044416) (b 3) (pl 0 + 16 * pl 1 + 256 * pl 2 + 4096 * b 0 + 1048576 * b 1 + 268435456 * b 2) x (p := 3) (by decide) (by show _ < 68719476736; omega) c3 hx hh
    rw [← e] at r; rw [r, e2]
  | 4, _ =>
    have e : enN pl b = 2 ^ (12 + 8 * 4) * (256 * (enN pl b / 4503599627370496) + b 4) + (pl 0 + 16 * pl 1 + 256 * pl 2 + 4096 * b 0 + 1048576 * b 1 + 268435456 * b 2 + 68719476736 * b 3) := by unfold enN; show _ = 17592186044416 * (256 * (_ / 4503599627370496) + b 4) + _; omega
    have e2 : enN pl (updN b 4 x) = 2 ^ (12 + 8 * 4) * (256 * (enN pl b / 4503599627370496) + x) + (pl 0 + 16 * pl 1 + 256 * pl 2 + 4096 * b 0 + 1048576 * b 1 + 268435456 * b 2 + 68719476736 * b 3) := by
      unfold enN; rw [updN_at, updN_ne (by decide), updN_ne (by decide), updN_ne (by decide), updN_ne (by decide), updN_ne (by decide)]; show _ = 17592186044416 * (256 * (_ / 4503599627370496) + x) + _; omega
    have r := ct8_put (enN pl b / 4503599627370496) (b 4) (pl 0 + 16 * pl 1 + 256 * pl 2 + 4096 * b 0 + 1048576 * b 1 + 268435456 * b 2 + 68719476736 * b 3) x (p := 4) (by decide) (by show _ < 17592186044416; omega) c4 hx hh
    rw [← e] at r; rw [r, e2]
  | 5, _ =>
    have e : enN pl b = 2 ^ (12 + 8 * 5) * (256 * 0 + b 5) + (pl 0 + 16 * pl 1 + 256 * pl 2 + 4096 * b 0 + 1048576 * b 1 + 268435456 * b 2 + 68719476736 * b 3 + 17592186044416 * b 4) := by unfold enN; show _ = 4503599627370496 * (256 * 0 + b 5) + _; omega
    have e2 : enN pl (updN b 5 x) = 2 ^ (12 + 8 * 5) * (256 * 0 + x) + (pl 0 + 16 * pl 1 + 256 * pl 2 + 4096 * b 0 + 1048576 * b 1 + 268435456 * b 2 + 68719476736 * b 3 + 17592186044416 * b 4) := by
      unfold enN; rw [updN_at, updN_ne (by decide), updN_ne (by decide), updN_ne (by decide), updN_ne (by decide), updN_ne (by decide)]; show _ = 4503599627370496 * (256 * 0 + x) + _; omega
    have r := ct8_put 0 (b 5) (pl 0 + 16 * pl 1 + 256 * pl 2 + 4096 * b 0 + 1048576 * b 1 + 268435456 * b 2 + 68719476736 * b 3 + 17592186044416 * b 4) x (p := 5) (by decide) (by show _ < 4503599627370496; omega) c5 hx hh
    rw [← e] at r; rw [r, e2]
theorem en_inj {pl b pl' b' : Nat → Nat} (h : enOk pl b) (h' : enOk pl' b') (e : lL (enN pl b) = lL (enN pl' b')) : (∀ o, o < 3 → pl o = pl' o) ∧ ∀ p, p < 6 → b p = b' p := by
  have l1 := en_lt h; have l2 := en_lt h'
  have : enN pl b = enN pl' b' := by
    have q : (lL (enN pl b)).toBitVec = (lL (enN pl' b')).toBitVec := by rw [e]
    have q : BitVec.ofNat 64 (enN pl b) = BitVec.ofNat 64 (enN pl' b') := q
    have q := congrArg BitVec.toNat q
    rw [BitVec.toNat_ofNat, BitVec.toNat_ofNat, Nat.mod_eq_of_lt (by omega), Nat.mod_eq_of_lt (by omega)] at q
    exact q
  exact ⟨fun o ho => by rw [← en_pl h ho, ← en_pl h' ho, this], fun p hp => by rw [← en_ct h hp, ← en_ct h' hp, this]⟩
