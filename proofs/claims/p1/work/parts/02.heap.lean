/-! ===== an abstract heap: objects and rows by their numbers (0, 1, ..) in the order in which they were made ===== -/
/-- how many there are; what each is (.inl a class of vwCl, .inr (type, length)); fields and rows of ints (bytes, booleans), of longs, of references -/
abbrev am_H : Type := Nat × (Nat → Nat ⊕ (Nat × Nat)) × (Nat → Nat → Int32) × (Nat → Nat → Int64) × (Nat → Nat → Option Nat)
def am_K (h : am_H) : Nat → Nat ⊕ (Nat × Nat) := h.2.1
def am_I (h : am_H) : Nat → Nat → Int32 := h.2.2.1
def am_J (h : am_H) : Nat → Nat → Int64 := h.2.2.2.1
def am_A (h : am_H) : Nat → Nat → Option Nat := h.2.2.2.2
/-- a whole row of ints -/
def am_sR (h : am_H) (o : Nat) (f : Nat → Int32) : am_H := (h.1, h.2.1, va_up h.2.2.1 o f, h.2.2.2.1, h.2.2.2.2)
def am_sI (h : am_H) (o j : Nat) (x : Int32) : am_H := (h.1, h.2.1, va_up h.2.2.1 o (upd (h.2.2.1 o) j x), h.2.2.2.1, h.2.2.2.2)
def am_sJ (h : am_H) (o j : Nat) (x : Int64) : am_H := (h.1, h.2.1, h.2.2.1, va_up h.2.2.2.1 o (vp_updL (h.2.2.2.1 o) j x), h.2.2.2.2)
def am_sA (h : am_H) (o j : Nat) (r : Option Nat) : am_H := (h.1, h.2.1, h.2.2.1, h.2.2.2.1, va_up h.2.2.2.2 o (va_up (h.2.2.2.2 o) j r))
def am_new (h : am_H) (kd : Nat ⊕ (Nat × Nat)) (f : Nat → Int32) : am_H := (h.1 + 1, va_up h.2.1 h.1 kd, va_up h.2.2.1 h.1 f, va_up h.2.2.2.1 h.1 (fun _ => 0), va_up h.2.2.2.2 h.1 (fun _ => none))
def am_h0 : am_H := (0, fun _ => .inl 0, fun _ _ => 0, fun _ _ => 0, fun _ _ => none)
/-- fields of a class: how many, their types -/
def am_nf : Nat → Nat
  | 0 => 4 | 1 => 11 | 2 => 7 | 3 => 3 | 4 => 2 | 5 => 12 | 6 => 15 | 7 => 10 | 8 => 18 | 9 => 58 | _ => 0
def am_ft : Nat → Nat → FieldType
  | 0 => tyX0 | 1 => tyX1 | 2 => tyX2 | 3 => tyX3 | 4 => tyX4 | 5 => tyX5 | 6 => tyX6 | 7 => tyX7 | 8 => tyX8 | _ => tyX9
/-- 0 an int, 1 a boolean, 2 a long, 3 a reference, 4 else -/
def am_kd : FieldType → Nat
  | .int => 0 | .boolean => 1 | .long => 2 | .object _ => 3 | .array _ => 3 | _ => 4
/-- types of rows: 0 int, 1 byte, 2 boolean, 3 long, 4 and 5 references -/
def am_at : Nat → FieldType
  | 0 => .int | 1 => .byte | 2 => .boolean | 3 => .long | 4 => .object "LetterTurns$Book" | _ => .object "LetterTurns$Page"
def am_tys (dA : Nat → ClassId) : List (ClassId × FieldType) := [(dA 0, .int), (dA 1, .byte), (dA 2, .boolean), (dA 3, .long), (dA 4, .object "LetterTurns$Book"), (dA 5, .object "LetterTurns$Page")]
theorem am_tys_get (dA : Nat → ClassId) {t : Nat} (h : t < 6) : (am_tys dA)[t]? = some (dA t, am_at t) := by
  rcases (by omega : t = 0 ∨ t = 1 ∨ t = 2 ∨ t = 3 ∨ t = 4 ∨ t = 5) with rfl | rfl | rfl | rfl | rfl | rfl <;> rfl
/-- a value at its addresses; .retAddr stands for the law's script -/
def am_v (ad : Nat → Nat) (b : Nat) : Value → Value
  | .ref i => .ref (ad i)
  | .retAddr _ => .ref b
  | v => v
def am_okv (n : Nat) : Value → Prop
  | .ref i => i < n
  | _ => True
def am_row (ad : Nat → Nat) (h : am_H) (i t : Nat) : (Nat → Int32) ⊕ (Nat → Int64) ⊕ (Nat → UInt32) ⊕ (Nat → UInt64) ⊕ (Nat → Option Nat) :=
  if t < 3 then .inl (am_I h i) else if t = 3 then .inr (.inl (am_J h i)) else .inr (.inr (.inr (.inr (fun j => (am_A h i j).map ad))))
def am_fv (ad : Nat → Nat) (h : am_H) (i : Nat) (ty : FieldType) (k : Nat) : Value := match am_kd ty with
  | 2 => .long (am_J h i k)
  | 3 => va_rf ((am_A h i k).map ad)
  | _ => .int (am_I h i k)
def am_e (dA : Nat → ClassId) (ad : Nat → Nat) (h : am_H) (i : Nat) : va_E := match am_K h i with
  | .inl ci => .inr (ci, (List.range (am_nf ci)).map (fun k => am_fv ad h i (am_ft ci k) k))
  | .inr (t, n) => .inl (dA t, n, am_row ad h i t)
def am_w (dA : Nat → ClassId) (ad : Nat → Nat) (h : am_H) : va_W := (List.range h.1).map (fun i => (ad i, am_e dA ad h i))
def am_wf (h : am_H) : Prop := ∀ i j r, i < h.1 → am_A h i j = some r → r < h.1
theorem am_v_cat (ad : Nat → Nat) (b : Nat) (v : Value) : (am_v ad b v).category = v.category := by cases v <;> rfl
theorem am_okv_mono {n n' : Nat} (h : n ≤ n') {v : Value} (hv : am_okv n v) : am_okv n' v := by
  cases v <;> first | trivial | (show _ < _; exact Nat.lt_of_lt_of_le hv h)
theorem am_v_congr {ad ad' : Nat → Nat} {b n : Nat} (h : ∀ i, i < n → ad' i = ad i) {v : Value} (hv : am_okv n v) : am_v ad' b v = am_v ad b v := by
  cases v <;> first | rfl | (show Value.ref _ = Value.ref _; rw [h _ hv])
theorem am_w_get (dA : Nat → ClassId) (ad : Nat → Nat) (h : am_H) {i : Nat} (hi : i < h.1) : (am_w dA ad h)[i]? = some (ad i, am_e dA ad h i) := by
  simp [am_w, hi]
theorem am_e_obj {dA : Nat → ClassId} {ad : Nat → Nat} {h : am_H} {i ci : Nat} (hk : am_K h i = .inl ci) : am_e dA ad h i = .inr (ci, (List.range (am_nf ci)).map (fun k => am_fv ad h i (am_ft ci k) k)) := by
  unfold am_e; rw [hk]
theorem am_e_arr {dA : Nat → ClassId} {ad : Nat → Nat} {h : am_H} {i t n : Nat} (hk : am_K h i = .inr (t, n)) : am_e dA ad h i = .inl (dA t, n, am_row ad h i t) := by
  unfold am_e; rw [hk]
theorem am_w_set {dA : Nat → ClassId} {ad : Nat → Nat} {h h' : am_H} {i : Nat} (hn : h'.1 = h.1) (he : ∀ j, j < h.1 → j ≠ i → am_e dA ad h' j = am_e dA ad h j) : am_w dA ad h' = (am_w dA ad h).set i (ad i, am_e dA ad h' i) := by
  apply List.ext_getElem?
  intro j
  rw [List.getElem?_set]
  by_cases hj : j < h.1
  · rw [am_w_get dA ad h' (by rw [hn]; exact hj)]
    by_cases hij : i = j
    · subst hij
      have hl : i < (am_w dA ad h).length := by simp [am_w, hj]
      rw [if_pos rfl, if_pos hl]
    · rw [if_neg hij, am_w_get dA ad h hj, he j hj (fun e => hij e.symm)]
  · have h1 : (am_w dA ad h')[j]? = none := by simp [am_w, hn]; omega
    have h2 : (am_w dA ad h)[j]? = none := by simp [am_w]; omega
    have hl : ¬ j < (am_w dA ad h).length := by simp [am_w]; omega
    rw [h1]
    by_cases hij : i = j
    · subst hij; rw [if_pos rfl, if_neg hl]
    · rw [if_neg hij, h2]
theorem am_e_congr {dA : Nat → ClassId} {ad ad' : Nat → Nat} {h h' : am_H} {i : Nat} (hw : am_wf h) (hi : i < h.1) (had : ∀ i, i < h.1 → ad' i = ad i) (hk : am_K h' i = am_K h i) (hI : am_I h' i = am_I h i) (hJ : am_J h' i = am_J h i) (hA : am_A h' i = am_A h i) : am_e dA ad' h' i = am_e dA ad h i := by
  have hm : ∀ j, (am_A h i j).map ad' = (am_A h i j).map ad := by
    intro j
    cases hr : am_A h i j with
    | none => rfl
    | some r => simp only [Option.map_some]; rw [had r (hw i j r hi hr)]
  unfold am_e am_row am_fv
  simp only [hk, hI, hJ, hA, hm]
theorem am_e_same {dA : Nat → ClassId} {ad : Nat → Nat} {h h' : am_H} {i : Nat} (hk : am_K h' i = am_K h i) (hI : am_I h' i = am_I h i) (hJ : am_J h' i = am_J h i) (hA : am_A h' i = am_A h i) : am_e dA ad h' i = am_e dA ad h i := by
  unfold am_e am_row am_fv
  simp only [hk, hI, hJ, hA]
theorem am_w_push {dA : Nat → ClassId} {ad : Nat → Nat} {q : Nat} {h : am_H} {kd : Nat ⊕ (Nat × Nat)} {f : Nat → Int32} (hw : am_wf h) : am_w dA (va_up ad h.1 q) (am_new h kd f) = am_w dA ad h ++ [(q, am_e dA (va_up ad h.1 q) (am_new h kd f) h.1)] := by
  have e1 : (am_new h kd f).1 = h.1 + 1 := rfl
  unfold am_w
  rw [e1, List.range_succ, List.map_append]
  congr 1
  · apply List.map_congr_left
    intro i hi
    have hi := List.mem_range.mp hi
    have hne : i ≠ h.1 := by omega
    rw [am_e_congr (h := h) (ad := ad) hw hi (fun j hj => by simp [va_up, show j ≠ h.1 by omega])]
    · simp [va_up, hne]
    all_goals simp [am_new, am_K, am_I, am_J, am_A, va_up, hne]
  · simp [va_up]
theorem am_wf_new {h : am_H} {kd : Nat ⊕ (Nat × Nat)} {f : Nat → Int32} (hw : am_wf h) : am_wf (am_new h kd f) := by
  intro i j r hi hr
  have hi : i < h.1 + 1 := hi
  show r < h.1 + 1
  by_cases e : i = h.1
  · subst e
    simp [am_new, am_A, va_up] at hr
  · have h2 : am_A h i j = some r := by
      rw [← hr]
      simp [am_new, am_A, va_up, e]
    have := hw i j r (by omega) h2
    omega
theorem am_wf_sI {h : am_H} {o j : Nat} {x : Int32} (hw : am_wf h) : am_wf (am_sI h o j x) := hw
theorem am_wf_sR {h : am_H} {o : Nat} {f : Nat → Int32} (hw : am_wf h) : am_wf (am_sR h o f) := hw
theorem am_wf_sJ {h : am_H} {o j : Nat} {x : Int64} (hw : am_wf h) : am_wf (am_sJ h o j x) := hw
theorem am_wf_sA {h : am_H} {o j : Nat} {r : Option Nat} (hw : am_wf h) (hr : ∀ q, r = some q → q < h.1) : am_wf (am_sA h o j r) := by
  intro i j' r' hi hr'
  show r' < h.1
  by_cases e : i = o
  · subst e
    by_cases e2 : j' = j
    · subst e2
      simp [am_sA, am_A, va_up] at hr'
      exact hr r' hr'
    · have h2 : am_A h i j' = some r' := by
        rw [← hr']; simp [am_sA, am_A, va_up, e2]
      exact hw i j' r' hi h2
  · have h2 : am_A h i j' = some r' := by
      rw [← hr']; simp [am_sA, am_A, va_up, e]
    exact hw i j' r' hi h2
