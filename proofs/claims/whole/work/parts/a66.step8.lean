/-! ===== the class goes through all states: one step ===== -/
theorem cst_cst {α : Type} (a b c d : Nat) (x : Option (α × Nat × Nat)) : am_cost a b (am_cost c d x) = am_cost (a + c) (b + d) x := by
  cases x with
  | none => rfl
  | some y =>
    obtain ⟨y, e, f⟩ := y
    show some (y, a + (c + e), b + (d + f)) = some (y, a + c + e, b + d + f)
    rw [Nat.add_assoc, Nat.add_assoc]
theorem cst_0 {α : Type} (x : Option (α × Nat × Nat)) : am_cost 0 0 x = x := by
  cases x with
  | none => rfl
  | some y =>
    obtain ⟨y, e, f⟩ := y
    show some (y, 0 + e, 0 + f) = some (y, e, f)
    rw [Nat.zero_add, Nat.zero_add]
theorem V8_fr {h h' : am_H} {o N : Nat} {key : Nat → Int64} {pf pb : Nat → Int32} {T : Nat → Nat} (v : V8 h o N key pf pb T) (e0 : am_I h' o 0 = am_I h o 0) (eJ : am_J h' (o + 3) = am_J h (o + 3)) (e5 : am_I h' (o + 5) = am_I h (o + 5)) (e6 : am_I h' (o + 6) = am_I h (o + 6)) (e7 : am_I h' (o + 7) = am_I h (o + 7)) : V8 h' o N key pf pb T := by
  unfold V8; rw [e0, eJ, e5, e6, e7]; exact v
theorem V8_K {h h' : am_H} {o cap qs qn qs' qn' N : Nat} (ho : o = 37 ∨ o = 37) (g : GR h o cap qs qn) (f : frK o qs qn qs' qn' h h') {key : Nat → Int64} {pf pb : Nat → Int32} {T : Nat → Nat} (v : V8 h o N key pf pb T) : V8 h' o N key pf pb T := by
  obtain ⟨⟨x1, xk⟩, x2, x3, x4, x5, x7, x8⟩ := f
  obtain ⟨-, ⟨ne, ls, ln, h98⟩, os, on, -, -⟩ := g
  exact V8_fr v (x5 0 (by decide)) (xk _ (by omega)).2 (x4 _ (by omega) (by omega) (by omega) (by omega) (by omega)) (x4 _ (by omega) (by omega) (by omega) (by omega) (by omega)) (x4 _ (by omega) (by omega) (by omega) (by omega) (by omega))
theorem L8_E {h h' : am_H} {r : TR} {L : List (Nat × TS)} (l : L8 h r L) (e5 : am_I h' 28 5 = am_I h 28 5) (e31 : am_I h' 31 = am_I h 31) (e32 : am_J h' 32 = am_J h 32) : L8 h' r L := by
  unfold L8; rw [e5, e31, e32]; exact l
/-- the class's row of states and leads -/
def Q8 (h : am_H) (o cap qs qn : Nat) (r : TR) (v : SV) : Prop := (∃ T, V8 h o v.n (k8 r v) (frI v.f) (frI v.b) T) ∧ LK h o cap qs qn v.m v.n v.es v.et ∧ am_I h o 1 = nI 0 ∧ am_I h o 4 = nI 0
theorem GR_V {h h' : am_H} {o cap qs qn : Nat} (g : GR h o cap qs qn) (f : frV o h h') : GR h' o cap qs qn := by
  unfold GR; rw [f.1, f.2.1, f.2.2.1]; exact g
theorem nI_nge0 {v : Nat} (h : v < 2 ^ 31) : (0 : Int32) ≤ nI v := by
  rw [show (0 : Int32) = nI 0 from rfl]; exact nI_le (Nat.zero_le _) h
/-- marks, tally and first stay -/
def k124 (o : Nat) (h h' : am_H) : Prop := am_I h' (o + 4) = am_I h (o + 4) ∧ am_I h' (o + 1) = am_I h (o + 1) ∧ am_I h' (o + 2) = am_I h (o + 2)
theorem k124_t {o : Nat} {a b c : am_H} (x : k124 o a b) (y : k124 o b c) : k124 o a c := ⟨y.1.trans x.1, y.2.1.trans x.2.1, y.2.2.trans x.2.2⟩
/-- one step of the k-th state -/
theorem mi_8 {h : am_H} {r : TR} (hr : r.ok) {o cap qs qn : Nat} (ho : o = 37 ∨ o = 37) {v : SV} (ok : svOk r v) (hsp : v.sp = false) (q : Q8 h o cap qs qn r v) {k : Nat} (hk : k < v.n) {L : List (Nat × TS)} (l8 : L8 h r L) (h90 : L.length ≤ 90) {i : Nat} {x : Nat × TS} (hi : L[i]? = some x) (hx : r.sk x.2) (hm : v.m < 180000) (a2 : Int32) (F : Nat) (hF : 4097 ≤ F) :
    (∃ h' cap' qs' qn' c z, (svStep k v x).sp = false ∧ g_X6_explore (F + 1) 1 o a2 (nI k) (nI L.length) (nI i) h = am_cost c z (g_X6_explore F 1 o a2 (nI k) (nI L.length) (nI (i + 1)) h') ∧ Q8 h' o cap' qs' qn' r (svStep k v x) ∧ frE o qs qn qs' qn' h h' ∧ L8 h' r L ∧ k124 o h h' ∧ cap ≤ cap' ∧ 2048 * c ≤ cap' - cap ∧ z ≤ 4 * (cap' - cap)) ∨
    (∃ h', (svStep k v x).sp = true ∧ g_X6_explore (F + 1) 1 o a2 (nI k) (nI L.length) (nI i) h = some (((), h'), 0, 0) ∧ GR h' o cap qs qn ∧ frE o qs qn qs qn h h' ∧ am_I h' o 1 = nI 1 ∧ am_I h' o 4 = nI 0) := by
  obtain ⟨⟨T, V⟩, lk, q1, q4⟩ := q
  have g := lk.1
  have g0 := g
  obtain ⟨-, ⟨ne, ls, ln, h98⟩, os, on, c1, c2⟩ := g0
  have iL : i < L.length := by
    by_cases c : i < L.length
    · exact c
    · rw [List.getElem?_eq_none (by omega)] at hi; cases hi
  have k2 : k < 2000 := Nat.lt_of_lt_of_le hk ok.1.2
  have n2 := ok.1.2
  have ci : Int32.toNatClampNeg (nI i) = i := nI_clamp (by omega)
  have vi : am_vp (nI i) 90 = true := hp_vp (by omega) (by decide)
  have cL : ¬ nI L.length ≤ nI i := nI_ge (by omega) (by omega)
  obtain ⟨t31, t32⟩ := l8.2 i x hi
  obtain ⟨h4, T4, V4, f4, alt⟩ := sm_8 hr ok hsp V k hx
  have g4 := GR_V g f4
  have q14 : ∀ j, j ≠ 0 → am_I h4 o j = am_I h o j := f4.2.2.2.2.2
  have l4 : L8 h4 r L := L8_E l8 (by rw [f4.2.2.2.2.1 28 (by omega) (by omega) (by omega) (by omega) (by omega)]) (f4.2.2.2.2.1 31 (by omega) (by omega) (by omega) (by omega) (by omega)) (f4.2.2.2.1 32 (by omega))
  have m4 : k124 o h h4 := ⟨f4.2.2.2.2.1 _ (by omega) (by omega) (by omega) (by omega) (by omega), f4.2.2.2.2.1 _ (by omega) (by omega) (by omega) (by omega) (by omega), f4.2.2.2.2.1 _ (by omega) (by omega) (by omega) (by omega) (by omega)⟩
  have qsI : am_I h4 qs = am_I h qs := f4.2.2.2.2.1 qs (by omega) (by omega) (by omega) (by omega) (by omega)
  have qnI : am_I h4 qn = am_I h qn := f4.2.2.2.2.1 qn (by omega) (by omega) (by omega) (by omega) (by omega)
  have h1 : h4.1 = h.1 := f4.1
  -- behind meet: the link
  have key : ∀ t, t < (svStep k v x).n → LK h4 o cap qs qn v.m (svStep k v x).n v.es v.et → f_X6_meet F o (lL (r.N x.2)) (nI k) (nI x.1) h = some (nI t, h4) → (svStep k v x).sp = false → (svStep k v x).n ≤ 2000 → (svStep k v x).m = v.m + 1 → (svStep k v x).es = updN v.es v.m k → (svStep k v x).et = updN v.et v.m t →
      ∃ h' cap' qs' qn' c z, (svStep k v x).sp = false ∧ g_X6_explore (F + 1) 1 o a2 (nI k) (nI L.length) (nI i) h = am_cost c z (g_X6_explore F 1 o a2 (nI k) (nI L.length) (nI (i + 1)) h') ∧ Q8 h' o cap' qs' qn' r (svStep k v x) ∧ frE o qs qn qs' qn' h h' ∧ L8 h' r L ∧ k124 o h h' ∧ cap ≤ cap' ∧ 2048 * c ≤ cap' - cap ∧ z ≤ 4 * (cap' - cap) := by
    intro t ht L4 me sp' nn em ees eet
    obtain ⟨h5, cap5, qs5, qn5, c5, z5, e5, L5, f5, w1, w2, w3⟩ := lk_8 ho L4 nn ht hm k
    have f5' := f5
    obtain ⟨⟨x1, xk⟩, x2, x3, x4, x5, x7, x8⟩ := f5'
    refine ⟨h5, cap5, qs5, qn5, c5, z5, sp', ?_, ⟨⟨T4, V8_K ho g4 f5 V4⟩, by rw [em, ees, eet]; exact L5, by rw [x5 1 (by decide), q14 1 (by decide)]; exact q1, by rw [x5 4 (by decide), q14 4 (by decide)]; exact q4⟩, frE_t (frE_V ho f4) (frE_K ho (by omega) os on f5), L8_E l4 (by rw [x4 28 (by omega) (by omega) (by omega) (by omega) (by omega)]) (x4 31 (by omega) (by omega) (by omega) (by omega) (by omega)) (xk 32 (by omega)).2, k124_t m4 ⟨x4 (o + 4) (by omega) (by omega) (by omega) (by omega) (by omega), x4 (o + 1) (by omega) (by omega) (by omega) (by omega) (by omega), x4 (o + 2) (by omega) (by omega) (by omega) (by omega) (by omega)⟩, w1, w2, w3⟩
    rw [g_X6_explore, q10, cond_false, q11, cond_true, if_neg cL, vi, cond_true, ci, t31, t32, me, b2s, if_pos (nI_nge0 (show t < 2 ^ 31 by omega)), e5, bcs, hp_1]
  rcases alt with ⟨a1, eh, st⟩ | ⟨a1, a2', e9, st⟩ | ⟨a1, a2', eh, st⟩
  · left
    have es := svStep_1 (k := k) hsp a1
    subst eh
    refine key (svIx v x.2) (by rw [es]; exact a1) (by rw [es]; exact lk) (st F hF) (by rw [es]; rfl) (by rw [es]; exact n2) (by rw [es]; rfl) (by rw [es]; rfl) (by rw [es]; rfl)
  · left
    have es := svStep_2 (k := k) hsp a1 a2'
    refine key v.n (by rw [es]; exact Nat.lt_succ_self _) ?_ (st F hF) (by rw [es]; rfl) (by rw [es]; exact a2') (by rw [es]; rfl) (by rw [es]; rfl) (by rw [es]; rfl)
    rw [es]
    obtain ⟨-, l12, lmc, lr, lc⟩ := lk
    refine ⟨g4, by rw [q14 12 (by decide)]; exact l12, lmc, by rw [qsI, qnI]; exact lr, fun j hj => ?_⟩
    have hj : j < v.n + 1 := hj
    rw [e9]
    by_cases c : j = v.n
    · rw [c, upd_at, lkI_no v.m (fun j hj e => by have := (ok.2.2.2.2.2 j hj).2; omega)]
    · rw [upd_ne c]; exact lc j (by omega)
  · right
    have es := svStep_3 (k := k) hsp a1 a2'
    subst eh
    refine ⟨am_sI h4 o 1 (Int32.ofInt 1), by rw [es]; rfl, ?_, g, frE_s ho h4 (d := 0) (by decide) 1 _, by rw [hp_I, upd_at]; rfl, by rw [hp_I, upd_ne (by decide)]; exact q4⟩
    rw [g_X6_explore, q10, cond_false, q11, cond_true, if_neg cL, vi, cond_true, ci, t31, t32, st F hF, b2s, if_neg (show ¬ (0 : Int32) ≤ Int32.ofInt (-1) by decide)]
