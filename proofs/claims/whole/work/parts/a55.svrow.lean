/-! ===== all states of a talk, met one by one: the pure row ===== -/
/-- met so far: number, states, from where, by which step, leads (number, from, to), spent -/
def SV : Type := Nat × (Nat → TS) × (Nat → Nat) × (Nat → Nat) × Nat × (Nat → Nat) × (Nat → Nat) × Bool
def SV.n (v : SV) : Nat := v.1
def SV.s (v : SV) : Nat → TS := v.2.1
def SV.f (v : SV) : Nat → Nat := v.2.2.1
def SV.b (v : SV) : Nat → Nat := v.2.2.2.1
def SV.m (v : SV) : Nat := v.2.2.2.2.1
def SV.es (v : SV) : Nat → Nat := v.2.2.2.2.2.1
def SV.et (v : SV) : Nat → Nat := v.2.2.2.2.2.2.1
def SV.sp (v : SV) : Bool := v.2.2.2.2.2.2.2
def svMk (n : Nat) (s : Nat → TS) (f b : Nat → Nat) (m : Nat) (es et : Nat → Nat) (sp : Bool) : SV := (n, s, f, b, m, es, et, sp)
/-- where a state stands in the row, or its length -/
def svIx (v : SV) (t : TS) : Nat := sbIx (fun i => wN (v.s i)) (wN t) v.n
/-- one step from the k-th state -/
def svStep (k : Nat) (v : SV) (x : Nat × TS) : SV :=
  if v.sp = true then v
  else if svIx v x.2 < v.n then svMk v.n v.s v.f v.b (v.m + 1) (updN v.es v.m k) (updN v.et v.m (svIx v x.2)) false
  else if v.n < 2000 then svMk (v.n + 1) (fun i => if i = v.n then x.2 else v.s i) (updN v.f v.n k) (updN v.b v.n x.1) (v.m + 1) (updN v.es v.m k) (updN v.et v.m v.n) false
  else svMk v.n v.s v.f v.b v.m v.es v.et true
def svList (k : Nat) (v : SV) (L : List (Nat × TS)) : SV := L.foldl (svStep k) v
def sv0 : SV := svMk 1 (fun _ => s00) (fun _ => 0) (fun _ => 0) 0 (fun _ => 0) (fun _ => 0) false
/-- all steps of the first k states are done -/
def svRow (r : TR) : Nat → SV
  | 0 => sv0
  | k + 1 => if (svRow r k).sp = true then svRow r k else if k < (svRow r k).n then svList k (svRow r k) (ts_all r ((svRow r k).s k)) else svRow r k
/-- what holds of a row: states of the rules, no two alike, the first is the begin -/
def svOk (r : TR) (v : SV) : Prop := (1 ≤ v.n ∧ v.n ≤ 2000) ∧ (∀ i, i < v.n → r.sk (v.s i)) ∧ (∀ i j, i < v.n → j < v.n → tsE (v.s i) (v.s j) → i = j) ∧ v.s 0 = s00 ∧ (∀ i, 1 ≤ i → i < v.n → v.f i < i) ∧ (∀ j, j < v.m → v.es j < v.n ∧ v.et j < v.n)
theorem svIx_lt {r : TR} {v : SV} (h : svOk r v) {t : TS} (ht : r.sk t) (hi : svIx v t < v.n) : tsE (v.s (svIx v t)) t := by
  have e := sbIx_lt (S := fun i => wN (v.s i)) (t := wN t) (N := v.n) hi
  exact (kE9 (sk_w (h.2.1 _ hi)) (sk_w ht)).mp (by rw [show wN (v.s (svIx v t)) = wN t from e])
theorem svIx_no {r : TR} {v : SV} (h : svOk r v) {t : TS} (ht : r.sk t) (hi : ¬ svIx v t < v.n) {i : Nat} (hin : i < v.n) : ¬ tsE (v.s i) t := by
  intro e
  have hle := sbIx_le (fun i => wN (v.s i)) (wN t) v.n
  have e2 : svIx v t = v.n := by unfold svIx at *; omega
  have hno := sbIx_no (S := fun i => wN (v.s i)) (t := wN t) (N := v.n) (i := i) (by unfold svIx at e2; omega)
  apply hno
  have := (kE9 (sk_w (h.2.1 i hin)) (sk_w ht)).mpr e
  have b : ∀ {s : TS}, wOk s → wN s < 2 ^ 63 := by
    intro s hw
    have := w_lt hw
    have := hw.2 5 (by decide)
    unfold wN; omega
  exact lLn_inj (b (sk_w (h.2.1 i hin))) (b (sk_w ht)) this
theorem svIx_of {r : TR} {v : SV} (h : svOk r v) {t : TS} (ht : r.sk t) {k : Nat} (hk : k < v.n) (e : tsE (v.s k) t) : svIx v t = k := by
  by_cases hi : svIx v t < v.n
  · exact h.2.2.1 _ k hi hk (tsE_t (svIx_lt h ht hi) (tsE_s e))
  · exact absurd e (svIx_no h ht hi hk)
theorem svStep_ok {r : TR} {v : SV} (h : svOk r v) {k : Nat} (hk : k < v.n) {x : Nat × TS} (hx : r.sk x.2) : svOk r (svStep k v x) ∧ v.n ≤ (svStep k v x).n ∧ ∀ i, i < v.n → (svStep k v x).s i = v.s i := by
  obtain ⟨⟨h1, h1'⟩, h2, h3, h4, h5, h6⟩ := h
  have hh : svOk r v := ⟨⟨h1, h1'⟩, h2, h3, h4, h5, h6⟩
  unfold svStep
  by_cases c : v.sp = true
  · rw [if_pos c]; exact ⟨hh, Nat.le_refl _, fun _ _ => rfl⟩
  · rw [if_neg c]
    by_cases c1 : svIx v x.2 < v.n
    · rw [if_pos c1]
      refine ⟨⟨⟨h1, h1'⟩, h2, h3, h4, h5, ?_⟩, Nat.le_refl _, fun _ _ => rfl⟩
      intro j hj
      have hj : j < v.m + 1 := hj
      show updN v.es v.m k j < v.n ∧ updN v.et v.m (svIx v x.2) j < v.n
      by_cases cj : j = v.m
      · rw [cj, updN_at, updN_at]; exact ⟨hk, c1⟩
      · rw [updN_ne cj, updN_ne cj]; exact h6 j (by omega)
    · rw [if_neg c1]
      by_cases c2 : v.n < 2000
      · rw [if_pos c2]
        refine ⟨⟨⟨by show 1 ≤ v.n + 1; omega, by show v.n + 1 ≤ 2000; omega⟩, ?_, ?_, ?_, ?_, ?_⟩, Nat.le_succ _, fun i hi => ?_⟩
        · intro i hi
          have hi : i < v.n + 1 := hi
          show r.sk (if i = v.n then x.2 else v.s i)
          by_cases ci : i = v.n
          · rw [if_pos ci]; exact hx
          · rw [if_neg ci]; exact h2 i (by omega)
        · intro i j hi hj e
          have hi : i < v.n + 1 := hi
          have hj : j < v.n + 1 := hj
          have e : tsE (if i = v.n then x.2 else v.s i) (if j = v.n then x.2 else v.s j) := e
          by_cases ci : i = v.n
          · by_cases cj : j = v.n
            · omega
            · rw [if_pos ci, if_neg cj] at e
              exact absurd (tsE_s e) (svIx_no hh hx c1 (by omega))
          · by_cases cj : j = v.n
            · rw [if_neg ci, if_pos cj] at e
              exact absurd e (svIx_no hh hx c1 (by omega))
            · rw [if_neg ci, if_neg cj] at e
              exact h3 i j (by omega) (by omega) e
        · show (if 0 = v.n then x.2 else v.s 0) = s00
          rw [if_neg (by omega)]; exact h4
        · intro i i1 hi
          have hi : i < v.n + 1 := hi
          show updN v.f v.n k i < i
          by_cases ci : i = v.n
          · rw [ci, updN_at]; exact hk
          · rw [updN_ne ci]; exact h5 i i1 (by omega)
        · intro j hj
          have hj : j < v.m + 1 := hj
          show updN v.es v.m k j < v.n + 1 ∧ updN v.et v.m v.n j < v.n + 1
          by_cases cj : j = v.m
          · rw [cj, updN_at, updN_at]; exact ⟨by omega, by omega⟩
          · rw [updN_ne cj, updN_ne cj]; have := h6 j (by omega); omega
        · show (if i = v.n then x.2 else v.s i) = v.s i
          rw [if_neg (by omega)]
      · rw [if_neg c2]; exact ⟨hh, Nat.le_refl _, fun _ _ => rfl⟩
