/-! ===== the class goes through all states: all steps of a state ===== -/
theorem ml_8 {r : TR} (hr : r.ok) {o : Nat} (ho : o = 37 ∨ o = 37) {k : Nat} (L : List (Nat × TS)) (h90 : L.length ≤ 90) (hss : ∀ x, x ∈ L → r.sk x.2) (a2 : Int32) (F : Nat) (hF : 4097 ≤ F) : ∀ (L2 : List (Nat × TS)) (i : Nat) (v : SV) (h : am_H) (cap qs qn : Nat), L.drop i = L2 → i + L2.length = L.length → svOk r v → v.sp = false → Q8 h o cap qs qn r v → k < v.n → L8 h r L → v.m + L2.length ≤ 180000 →
    (∃ F' h' cap' qs' qn' c z, F ≤ F' ∧ (svList k v L2).sp = false ∧ g_X6_explore (F + L2.length + 1) 1 o a2 (nI k) (nI L.length) (nI i) h = am_cost c z (g_X6_explore F' 0 o a2 (nI (k + 1)) 0 0 h') ∧ Q8 h' o cap' qs' qn' r (svList k v L2) ∧ frE o qs qn qs' qn' h h' ∧ k124 o h h' ∧ cap ≤ cap' ∧ 2048 * c ≤ cap' - cap ∧ z ≤ 4 * (cap' - cap)) ∨
    (∃ h' cap' qs' qn' c z, (svList k v L2).sp = true ∧ g_X6_explore (F + L2.length + 1) 1 o a2 (nI k) (nI L.length) (nI i) h = some (((), h'), c, z) ∧ GR h' o cap' qs' qn' ∧ frE o qs qn qs' qn' h h' ∧ am_I h' o 1 = nI 1 ∧ am_I h' o 4 = nI 0 ∧ cap ≤ cap' ∧ 2048 * c ≤ cap' - cap ∧ z ≤ 4 * (cap' - cap)) := by
  intro L2
  induction L2 with
  | nil =>
    intro i v h cap qs qn hd hl ok hsp q hk l8 hm
    left
    have hl : i = L.length := by simpa using hl
    refine ⟨F, h, cap, qs, qn, 0, 0, Nat.le_refl _, hsp, ?_, q, frE_r _ _ _ _, ⟨rfl, rfl, rfl⟩, Nat.le_refl _, Nat.zero_le _, Nat.zero_le _⟩
    rw [cst_0, show F + List.length ([] : List (Nat × TS)) + 1 = F + 1 from rfl, g_X6_explore, q10, cond_false, q11, cond_true, hl, if_pos (Int32.le_refl _), hp_1]
  | cons x L2 ih =>
    intro i v h cap qs qn hd hl ok hsp q hk l8 hm
    have hi : L[i]? = some x := by
      have := congrArg (fun l => l[0]?) hd
      simp only [List.getElem?_drop, Nat.add_zero, List.getElem?_cons_zero] at this
      exact this
    have hx : x ∈ L := List.mem_of_getElem? hi
    have hl' : i + 1 + L2.length = L.length := by rw [← hl, List.length_cons]; omega
    have hd' : L.drop (i + 1) = L2 := by rw [← List.drop_drop, hd]; rfl
    rw [List.length_cons] at hm
    obtain ⟨ok', n', s'⟩ := svStep_ok ok hk (hss x hx)
    rw [List.length_cons, show F + (L2.length + 1) + 1 = F + L2.length + 1 + 1 from by omega, svList_c]
    rcases mi_8 hr ho ok hsp q hk l8 h90 hi (hss x hx) (by omega) a2 (F + L2.length + 1) (by omega) with ⟨h', cap', qs', qn', c, z, sp', e, q', f, l', m', w1, w2, w3⟩ | ⟨h', sp', e, g', f, i1, i4⟩
    · obtain ⟨mm, _⟩ := svStep_m hsp sp'
      rcases ih (i + 1) (svStep k v x) h' cap' qs' qn' hd' hl' ok' sp' q' (Nat.lt_of_lt_of_le hk n') l' (by rw [mm]; omega) with ⟨F', h2, cap2, qs2, qn2, c2, z2, hF', sp2, e2, q2, f2, m2, u1, u2, u3⟩ | ⟨h2, cap2, qs2, qn2, c2, z2, sp2, e2, g2, f2, i1, i4, u1, u2, u3⟩
      · left
        exact ⟨F', h2, cap2, qs2, qn2, c + c2, z + z2, hF', sp2, by rw [e, e2, cst_cst], q2, frE_t f f2, k124_t m' m2, by omega, by omega, by omega⟩
      · right
        exact ⟨h2, cap2, qs2, qn2, c + c2, z + z2, sp2, by rw [e, e2, cts], g2, frE_t f f2, i1, i4, by omega, by omega, by omega⟩
    · right
      refine ⟨h', cap, qs, qn, 0, 0, ?_, e, g', f, i1, i4, Nat.le_refl _, Nat.zero_le _, Nat.zero_le _⟩
      rw [svList_sp _ _ sp']; exact sp'
theorem svRow_mono1 {r : TR} (hr : r.ok) (h0 : r.sk s00) (k : Nat) : (svRow r k).n ≤ (svRow r (k + 1)).n ∧ ∀ i, i < (svRow r k).n → (svRow r (k + 1)).s i = (svRow r k).s i := by
  by_cases c : (svRow r k).sp = true ∨ (svRow r k).n ≤ k
  · have e := svRow_e c 1
    rw [e]; exact ⟨Nat.le_refl _, fun _ _ => rfl⟩
  · have c1 : (svRow r k).sp = false := by cases q : (svRow r k).sp with
      | true => exact absurd (Or.inl q) c
      | false => rfl
    have c2 : k < (svRow r k).n := by
      have := fun q => c (Or.inr q)
      omega
    rw [svRow_s c1 c2]
    have ok := svRow_ok hr h0 k
    exact (svList_ok _ _ ok c2 (fun x hx => ts_sk hr (ok.2.1 k c2) hx)).2
theorem svRow_mono {r : TR} (hr : r.ok) (h0 : r.sk s00) (k : Nat) : ∀ d, (svRow r k).n ≤ (svRow r (k + d)).n ∧ ∀ i, i < (svRow r k).n → (svRow r (k + d)).s i = (svRow r k).s i
  | 0 => ⟨Nat.le_refl _, fun _ _ => rfl⟩
  | d + 1 => by
    obtain ⟨a1, a2⟩ := svRow_mono hr h0 k d
    obtain ⟨b1, b2⟩ := svRow_mono1 hr h0 (k + d)
    exact ⟨Nat.le_trans a1 b1, fun i hi => (b2 i (by omega)).trans (a2 i hi)⟩
/-- the follow rows of a talk are sets of places -/
def TR.fv (r : TR) : Prop := ∀ o j, o < 3 → j < 16 → ∃ v, v < 65536 ∧ r.fo o j = nI v
theorem T8_E {h h' : am_H} {r : TR} {o cap qs qn qs' qn' : Nat} (ho : o = 37 ∨ o = 37) (g : GR h o cap qs qn) (f : frE o qs qn qs' qn' h h') (t : T8 h r) : T8 h' r := by
  obtain ⟨⟨x1, xk⟩, x2, x3, x4, x5, x6, x7, x8⟩ := f
  obtain ⟨-, ⟨ne, ls, ln, h98⟩, os, on, -, -⟩ := g
  have e : ∀ p, p = 29 ∨ p = 30 ∨ p = 33 ∨ p = 34 ∨ p = 35 ∨ p = 36 → am_I h' p = am_I h p := fun p hp => x5 p (by omega) (by omega) (by omega) (by omega) (by omega) (by omega)
  unfold T8; rw [x6 0 (by decide), e 29 (by decide), e 30 (by decide), e 34 (by decide), e 35 (by decide), e 36 (by decide)]; exact t
theorem S8_E {h h' : am_H} {sd : Nat → Bool} {o cap qs qn qs' qn' : Nat} (ho : o = 37 ∨ o = 37) (g : GR h o cap qs qn) (f : frE o qs qn qs' qn' h h') (t : S8 h sd) : S8 h' sd := by
  obtain ⟨⟨x1, xk⟩, x2, x3, x4, x5, x6, x7, x8⟩ := f
  obtain ⟨-, ⟨ne, ls, ln, h98⟩, os, on, -, -⟩ := g
  have e : ∀ p, p = 33 ∨ p = 36 → am_I h' p = am_I h p := fun p hp => x5 p (by omega) (by omega) (by omega) (by omega) (by omega) (by omega)
  unfold S8; rw [e 33 (by decide), e 36 (by decide)]; exact t
/-- a bad state's mark -/
def tBad (r : TR) (sd : Nat → Bool) (s : TS) : Prop := ¬ tMark r sd s &&& Int32.ofInt 7 = 0
theorem Q8_T {h h' : am_H} {o cap qs qn : Nat} {r : TR} {v : SV} (ho : o = 37 ∨ o = 37) (q : Q8 h o cap qs qn r v) (f : frT h h') : Q8 h' o cap qs qn r v := by
  obtain ⟨⟨T, V⟩, lk, q1, q4⟩ := q
  obtain ⟨f1, f2, f3, f4, f5, f6⟩ := f
  obtain ⟨g, l12, lmc, lr, lc⟩ := lk
  have g0 := g
  obtain ⟨-, ⟨ne, ls, ln, h98⟩, os, on, -, -⟩ := g0
  have e : ∀ p, p ≠ 28 → p ≠ 31 → am_I h' p = am_I h p := f5
  refine ⟨⟨T, V8_fr V (by rw [e o (by omega) (by omega)]) (f4 _ (by omega)) (e _ (by omega) (by omega)) (e _ (by omega) (by omega)) (e _ (by omega) (by omega))⟩, ⟨by unfold GR; rw [f1, f2, f3]; exact g, by rw [e o (by omega) (by omega)]; exact l12, lmc, by rw [e qs (by omega) (by omega), e qn (by omega) (by omega)]; exact lr, by rw [e (o + 9) (by omega) (by omega)]; exact lc⟩, by rw [e o (by omega) (by omega)]; exact q1, by rw [e o (by omega) (by omega)]; exact q4⟩
theorem Q8_4 {h : am_H} {o cap qs qn : Nat} {r : TR} {v : SV} (ho : o = 37 ∨ o = 37) (q : Q8 h o cap qs qn r v) (j : Nat) (x : Int32) : Q8 (am_sI h (o + 4) j x) o cap qs qn r v := by
  obtain ⟨⟨T, V⟩, lk, q1, q4⟩ := q
  obtain ⟨g, l12, lmc, lr, lc⟩ := lk
  have g0 := g
  obtain ⟨-, ⟨ne, ls, ln, h98⟩, os, on, -, -⟩ := g0
  have e : ∀ p, p ≠ o + 4 → am_I (am_sI h (o + 4) j x) p = am_I h p := fun p hp => hp_I' _ _ _ hp
  refine ⟨⟨T, V8_fr V (by rw [e o (by omega)]) rfl (e _ (by omega)) (e _ (by omega)) (e _ (by omega))⟩, ⟨g, by rw [e o (by omega)]; exact l12, lmc, by rw [e qs (by omega), e qn (by omega)]; exact lr, by rw [e (o + 9) (by omega)]; exact lc⟩, by rw [e o (by omega)]; exact q1, by rw [e o (by omega)]; exact q4⟩
