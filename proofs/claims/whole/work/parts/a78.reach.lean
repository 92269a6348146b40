/-! ===== what is met is what can be reached ===== -/
def tsN (s : TS) : Prop := (∀ o, 3 ≤ o → s.1 o = 0) ∧ ∀ p, 6 ≤ p → s.2 p = 0
theorem tsN_eq {s s' : TS} (h : tsN s) (h' : tsN s') (e : tsE s s') : s = s' := by
  have e1 : s.1 = s'.1 := by
    funext o
    by_cases c : o < 3
    · exact e.1 o c
    · rw [h.1 o (by omega), h'.1 o (by omega)]
  have e2 : s.2 = s'.2 := by
    funext p
    by_cases c : p < 6
    · exact e.2 p c
    · rw [h.2 p (by omega), h'.2 p (by omega)]
  rw [show s = (s.1, s.2) from rfl, e1, e2]
theorem tsN_0 : tsN s00 := ⟨fun _ _ => rfl, fun _ _ => rfl⟩
theorem tsN_go {s : TS} (h : tsN s) {o : Nat} (ho : o < 3) (i : Nat) : tsN (ts_go s o i) := ⟨fun q hq => (updN_ne (by omega)).trans (h.1 q hq), h.2⟩
theorem tsN_put {s : TS} (h : tsN s) {p : Nat} (hp : p < 6) (c : Nat) : tsN (ts_put s p c) := ⟨h.1, fun q hq => (updN_ne (by omega)).trans (h.2 q hq)⟩
theorem ts_in {r : TR} {s : TS} {x : Nat × TS} (hx : x ∈ ts_all r s) : ∃ o i, o < 3 ∧ 1 ≤ i ∧ i < 16 ∧ bt (r.fo o (s.1 o)) i = true ∧ x ∈ ts_act r s o i := by
  have key : ∀ o, o < 3 → x ∈ ts_off r s o 15 → ∃ o i, o < 3 ∧ 1 ≤ i ∧ i < 16 ∧ bt (r.fo o (s.1 o)) i = true ∧ x ∈ ts_act r s o i := by
    intro o ho h
    obtain ⟨i, i1, i16, hb, hm⟩ := ts_off_m 15 (Nat.le_refl _) h
    exact ⟨o, i, ho, i1, i16, hb, hm⟩
  have hx : x ∈ ts_off r s 0 15 ++ (ts_off r s 1 15 ++ ts_off r s 2 15) := hx
  rcases List.mem_append.mp hx with h | h
  · exact key 0 (by decide) h
  · rcases List.mem_append.mp h with h | h
    · exact key 1 (by decide) h
    · exact key 2 (by decide) h
theorem ts_off_in {r : TR} {s : TS} {o : Nat} {x : Nat × TS} : ∀ k, k ≤ 15 → ∀ i, 16 - k ≤ i → 1 ≤ i → i < 16 → bt (r.fo o (s.1 o)) i = true → x ∈ ts_act r s o i → x ∈ ts_off r s o k
  | 0, _, i, h, _, h16, _, _ => absurd h16 (by omega)
  | k + 1, hk, i, h, h1, h16, hb, hx => by
    show x ∈ (bif bt (r.fo o (s.1 o)) (15 - k) then ts_act r s o (15 - k) else []) ++ ts_off r s o k
    by_cases c : i = 15 - k
    · subst c
      rw [hb]; exact List.mem_append.mpr (Or.inl hx)
    · exact List.mem_append.mpr (Or.inr (ts_off_in k (by omega) i (by omega) h1 h16 hb hx))
theorem ts_out {r : TR} {s : TS} {x : Nat × TS} {o i : Nat} (ho : o < 3) (h1 : 1 ≤ i) (h16 : i < 16) (hb : bt (r.fo o (s.1 o)) i = true) (hx : x ∈ ts_act r s o i) : x ∈ ts_all r s := by
  have key := ts_off_in (r := r) (s := s) (o := o) (x := x) 15 (Nat.le_refl _) i (by omega) h1 h16 hb hx
  show x ∈ ts_off r s 0 15 ++ (ts_off r s 1 15 ++ ts_off r s 2 15)
  have c : o = 0 ∨ o = 1 ∨ o = 2 := by omega
  rcases c with rfl | rfl | rfl
  · exact List.mem_append.mpr (Or.inl key)
  · exact List.mem_append.mpr (Or.inr (List.mem_append.mpr (Or.inl key)))
  · exact List.mem_append.mpr (Or.inr (List.mem_append.mpr (Or.inr key)))
theorem ts_tsN {r : TR} (hr : r.ok) {s : TS} (hs : r.sk s) (hn : tsN s) {x : Nat × TS} (hx : x ∈ ts_all r s) : tsN x.2 := by
  obtain ⟨o, i, ho, i1, i16, hb, hm⟩ := ts_in hx
  have hp := ap_lt hr ho i16 i1 ⟨s.1 o, hs.1 o ho, hb⟩
  rcases ts_x hm with ⟨_, p, e | e⟩ | ⟨_, p, e | e⟩ <;> rw [e]
  · exact tsN_put (tsN_go hn ho i) hp _
  · exact tsN_go hn ho i
  · exact tsN_put (tsN_go hn ho i) hp _
  · exact tsN_go hn ho i
/-- where a row's states and leads come from -/
def svG (r : TR) (v : SV) : Prop := (∀ i, i < v.n → tsN (v.s i)) ∧ (∀ i, 1 ≤ i → i < v.n → (v.b i, v.s i) ∈ ts_all r (v.s (v.f i))) ∧ ∀ j, j < v.m → ∃ c, (c, v.s (v.et j)) ∈ ts_all r (v.s (v.es j))
theorem svStep_g {r : TR} (hr : r.ok) {v : SV} (ok : svOk r v) (g : svG r v) {k : Nat} (hk : k < v.n) {x : Nat × TS} (hx : x ∈ ts_all r (v.s k)) : svG r (svStep k v x) := by
  have sx := ts_sk hr (ok.2.1 k hk) hx
  have nx := ts_tsN hr (ok.2.1 k hk) (g.1 k hk) hx
  obtain ⟨g1, g2, g3⟩ := g
  have rg := ok.2.2.2.2.2
  cases hs : v.sp with
  | true =>
    have : svStep k v x = v := by unfold svStep; rw [if_pos hs]
    rw [this]; exact ⟨g1, g2, g3⟩
  | false =>
    by_cases c1 : svIx v x.2 < v.n
    · rw [svStep_1 hs c1]
      refine ⟨g1, g2, fun j hj => ?_⟩
      have hj : j < v.m + 1 := hj
      show ∃ c, (c, v.s (updN v.et v.m (svIx v x.2) j)) ∈ ts_all r (v.s (updN v.es v.m k j))
      by_cases cj : j = v.m
      · rw [cj, updN_at, updN_at, tsN_eq (g1 _ c1) nx (svIx_lt ok sx c1)]
        exact ⟨x.1, hx⟩
      · rw [updN_ne cj, updN_ne cj]; exact g3 j (by omega)
    · by_cases c2 : v.n < 2000
      · rw [svStep_2 hs c1 c2]
        refine ⟨fun i hi => ?_, fun i i1 hi => ?_, fun j hj => ?_⟩
        · have hi : i < v.n + 1 := hi
          show tsN (if i = v.n then x.2 else v.s i)
          by_cases ci : i = v.n
          · rw [if_pos ci]; exact nx
          · rw [if_neg ci]; exact g1 i (by omega)
        · have hi : i < v.n + 1 := hi
          show (updN v.b v.n x.1 i, (if i = v.n then x.2 else v.s i)) ∈ ts_all r (if updN v.f v.n k i = v.n then x.2 else v.s (updN v.f v.n k i))
          by_cases ci : i = v.n
          · rw [ci, updN_at, updN_at, if_pos rfl, if_neg (by omega)]; exact hx
          · have := ok.2.2.2.2.1 i i1 (by omega)
            rw [updN_ne ci, updN_ne ci, if_neg ci, if_neg (by omega)]
            exact g2 i i1 (by omega)
        · have hj : j < v.m + 1 := hj
          show ∃ c, (c, (if updN v.et v.m v.n j = v.n then x.2 else v.s (updN v.et v.m v.n j))) ∈ ts_all r (if updN v.es v.m k j = v.n then x.2 else v.s (updN v.es v.m k j))
          by_cases cj : j = v.m
          · rw [cj, updN_at, updN_at, if_pos rfl, if_neg (by omega)]; exact ⟨x.1, hx⟩
          · have := rg j (by omega)
            rw [updN_ne cj, updN_ne cj, if_neg (by omega), if_neg (by omega)]
            exact g3 j (by omega)
      · rw [svStep_3 hs c1 c2]; exact ⟨g1, g2, g3⟩
theorem svList_g {r : TR} (hr : r.ok) {k : Nat} {s : TS} : ∀ (L : List (Nat × TS)) (v : SV), svOk r v → svG r v → k < v.n → v.s k = s → (∀ x, x ∈ L → x ∈ ts_all r s) → svG r (svList k v L)
  | [], v, _, g, _, _, _ => g
  | x :: L, v, ok, g, hk, hs, hL => by
    have hx := hL x (List.mem_cons_self ..)
    rw [← hs] at hx
    obtain ⟨a1, a2, a3⟩ := svStep_ok ok hk (ts_sk hr (ok.2.1 k hk) hx)
    rw [svList_c]
    exact svList_g hr L _ a1 (svStep_g hr ok g hk hx) (Nat.lt_of_lt_of_le hk a2) ((a3 k hk).trans hs) (fun y hy => hL y (List.mem_cons_of_mem _ hy))
theorem svRow_g {r : TR} (hr : r.ok) (h0 : r.sk s00) : ∀ k, svG r (svRow r k)
  | 0 => ⟨fun _ _ => tsN_0, fun i i1 hi => by
    have hi : i < 1 := hi
    omega, fun j hj => absurd hj (Nat.not_lt_zero _)⟩
  | k + 1 => by
    have ih := svRow_g hr h0 k
    have ok := svRow_ok hr h0 k
    by_cases c : (svRow r k).sp = true ∨ (svRow r k).n ≤ k
    · rw [svRow_e c 1]; exact ih
    · have c1 : (svRow r k).sp = false := by cases q : (svRow r k).sp with
        | true => exact absurd (Or.inl q) c
        | false => rfl
      have c2 : k < (svRow r k).n := by
        have := fun q => c (Or.inr q)
        omega
      rw [svRow_s c1 c2]
      exact svList_g hr _ _ ok ih c2 rfl (fun x hx => hx)
/-- every step of a list has its lead -/
theorem svStep_et {r : TR} {v : SV} (ok : svOk r v) (hs : v.sp = false) {k : Nat} {x : Nat × TS} (hx : r.sk x.2) (h : (svStep k v x).sp = false) : tsE ((svStep k v x).s ((svStep k v x).et v.m)) x.2 := by
  by_cases c1 : svIx v x.2 < v.n
  · rw [svStep_1 hs c1]
    show tsE (v.s (updN v.et v.m (svIx v x.2) v.m)) x.2
    rw [updN_at]; exact svIx_lt ok hx c1
  · by_cases c2 : v.n < 2000
    · rw [svStep_2 hs c1 c2]
      show tsE (if updN v.et v.m v.n v.m = v.n then x.2 else v.s (updN v.et v.m v.n v.m)) x.2
      rw [updN_at, if_pos rfl]; exact tsE_r _
    · rw [svStep_3 hs c1 c2] at h
      exact absurd (show (true : Bool) = false from h) (by decide)
theorem svList_et {r : TR} {k : Nat} : ∀ (L : List (Nat × TS)) (v : SV), svOk r v → v.sp = false → k < v.n → (∀ x, x ∈ L → r.sk x.2) → (svList k v L).sp = false → ∀ x, x ∈ L → ∃ j, v.m ≤ j ∧ j < (svList k v L).m ∧ tsE ((svList k v L).s ((svList k v L).et j)) x.2
  | [], v, _, _, _, _, _, x, hx => nomatch hx
  | y :: L, v, ok, hs, hk, hss, h2, x, hx => by
    rw [svList_c] at h2 ⊢
    cases c : (svStep k v y).sp with
    | true => rw [svList_sp L _ c, c] at h2; cases h2
    | false =>
      have hy := hss y (List.mem_cons_self ..)
      obtain ⟨a1, a2, a3⟩ := svStep_ok ok hk hy
      obtain ⟨m1, m2⟩ := svStep_m hs c
      have hk' := Nat.lt_of_lt_of_le hk a2
      have hss' : ∀ x, x ∈ L → r.sk x.2 := fun z hz => hss z (List.mem_cons_of_mem _ hz)
      obtain ⟨b1, b2, b3⟩ := svList_ok L _ a1 hk' hss'
      rcases List.mem_cons.mp hx with e | hx
      · subst e
        obtain ⟨c1, c2⟩ := svList_m L _ c h2
        refine ⟨v.m, Nat.le_refl _, by omega, ?_⟩
        rw [(c2 v.m (by omega)).1, b3 _ (a1.2.2.2.2.2 v.m (by omega)).2]
        exact svStep_et ok hs hy c
      · obtain ⟨j, j1, j2, j3⟩ := svList_et L _ a1 c hk' hss' h2 x hx
        exact ⟨j, by omega, j2, j3⟩
theorem svRow_lt {r : TR} {k : Nat} (hk : k < 2000) (h : k < (svAll r).n) (sp : (svAll r).sp = false) : k < (svRow r k).n := by
  apply Classical.byContradiction
  intro c
  have e := svRow_e (r := r) (k := k) (Or.inr (by omega)) (2000 - k)
  rw [show k + (2000 - k) = 2000 from by omega] at e
  have e : svAll r = svRow r k := e
  rw [e] at h
  exact c h
theorem svAll_lead {r : TR} (hr : r.ok) (h0 : r.sk s00) (sp : (svAll r).sp = false) {k : Nat} (hk : k < (svAll r).n) {x : Nat × TS} (hx : x ∈ ts_all r ((svAll r).s k)) : ∃ j, j < (svAll r).m ∧ (svAll r).es j = k ∧ (svAll r).s ((svAll r).et j) = x.2 := by
  have okA : svOk r (svAll r) := svRow_ok hr h0 2000
  have gA : svG r (svAll r) := svRow_g hr h0 2000
  have k2 : k < 2000 := by have := okA.1.2; omega
  have kl := svRow_lt k2 hk sp
  have ok := svRow_ok hr h0 k
  have spk : (svRow r (k + 1)).sp = false := svRow_spd (2000 - (k + 1)) (by rw [show k + 1 + (2000 - (k + 1)) = 2000 from by omega]; exact sp)
  have sp0 := svRow_sp1 spk
  have mono := svRow_mono hr h0 k (2000 - k)
  rw [show k + (2000 - k) = 2000 from by omega] at mono
  have es : (svAll r).s k = (svRow r k).s k := mono.2 k kl
  rw [es] at hx
  have mono1 := svRow_mono hr h0 (k + 1) (2000 - (k + 1))
  rw [show k + 1 + (2000 - (k + 1)) = 2000 from by omega] at mono1
  have e1 := svRow_s sp0 kl
  have sp' := spk
  rw [e1] at sp'
  obtain ⟨j, j1, j2, j3⟩ := svList_et (ts_all r ((svRow r k).s k)) (svRow r k) ok sp0 kl (fun x hx => ts_sk hr (ok.2.1 k kl) hx) sp' x hx
  rw [← e1] at j2 j3
  have ea := (svAll_es sp (k := k) (j := j) k2).mp ⟨j1, j2⟩
  refine ⟨j, ea.1, ea.2, ?_⟩
  -- et of the row k + 1 is et of all
  have et : ∀ d, (svRow r (k + 1 + d)).sp = false → (svRow r (k + 1 + d)).et j = (svRow r (k + 1)).et j ∧ j < (svRow r (k + 1 + d)).m := by
    intro d
    induction d with
    | zero => intro _; exact ⟨rfl, j2⟩
    | succ d ih =>
      intro hsp
      have hsp1 := svRow_sp1 (k := k + 1 + d) hsp
      obtain ⟨a, b⟩ := ih hsp1
      show (svRow r (k + 1 + d + 1)).et j = _ ∧ j < (svRow r (k + 1 + d + 1)).m
      by_cases c : (svRow r (k + 1 + d)).n ≤ k + 1 + d
      · have e := svRow_e (r := r) (k := k + 1 + d) (Or.inr c) 1
        rw [e]; exact ⟨a, b⟩
      · have e := svRow_s hsp1 (show k + 1 + d < (svRow r (k + 1 + d)).n by omega)
        have hsp' : (svRow r (k + 1 + d + 1)).sp = false := hsp
        rw [e] at hsp' ⊢
        obtain ⟨c1, c2⟩ := svList_m _ _ hsp1 hsp'
        exact ⟨(c2 j b).1.trans a, by omega⟩
  have eA := et (2000 - (k + 1)) (by rw [show k + 1 + (2000 - (k + 1)) = 2000 from by omega]; exact sp)
  rw [show k + 1 + (2000 - (k + 1)) = 2000 from by omega] at eA
  have eA1 : (svAll r).et j = (svRow r (k + 1)).et j := eA.1
  have ok1 := svRow_ok hr h0 (k + 1)
  have lt1 := (ok1.2.2.2.2.2 j j2).2
  have sA : (svAll r).s ((svAll r).et j) = (svRow r (k + 1)).s ((svRow r (k + 1)).et j) := by rw [eA1]; exact mono1.2 _ lt1
  rw [sA]
  exact tsN_eq ((svRow_g hr h0 (k + 1)).1 _ lt1) (ts_tsN hr (ok.2.1 k kl) ((svRow_g hr h0 k).1 k kl) hx) j3
/-- reached by t steps -/
def rcK (r : TR) : Nat → TS → Prop
  | 0, s => s = s00
  | t + 1, s => ∃ s' c, rcK r t s' ∧ (c, s) ∈ ts_all r s'
def reach (r : TR) (s : TS) : Prop := ∃ t, rcK r t s
theorem reach_0 (r : TR) : reach r s00 := ⟨0, rfl⟩
theorem reach_s {r : TR} {s : TS} (h : reach r s) {x : Nat × TS} (hx : x ∈ ts_all r s) : reach r x.2 := by
  obtain ⟨t, ht⟩ := h
  exact ⟨t + 1, s, x.1, ht, hx⟩
theorem reach_in {r : TR} (hr : r.ok) (h0 : r.sk s00) (sp : (svAll r).sp = false) : ∀ t s, rcK r t s → ∃ i, i < (svAll r).n ∧ (svAll r).s i = s
  | 0, s, h => by
    have okA : svOk r (svAll r) := svRow_ok hr h0 2000
    exact ⟨0, by have := okA.1.1; omega, by rw [okA.2.2.2.1]; exact h.symm⟩
  | t + 1, s, h => by
    obtain ⟨s', c, h', hx⟩ := h
    obtain ⟨i, hi, e⟩ := reach_in hr h0 sp t s' h'
    rw [← e] at hx
    have okA : svOk r (svAll r) := svRow_ok hr h0 2000
    obtain ⟨j, j1, j2, j3⟩ := svAll_lead hr h0 sp hi hx
    exact ⟨(svAll r).et j, (okA.2.2.2.2.2 j j1).2, j3⟩
theorem reach_sk {r : TR} (hr : r.ok) (h0 : r.sk s00) {s : TS} (h : reach r s) : r.sk s ∧ tsN s := by
  obtain ⟨t, ht⟩ := h
  induction t generalizing s with
  | zero => rw [show s = s00 from ht]; exact ⟨h0, tsN_0⟩
  | succ t ih =>
    obtain ⟨s', c, h', hx⟩ := ht
    obtain ⟨a, b⟩ := ih h'
    exact ⟨ts_sk hr a hx, ts_tsN hr a b hx⟩
