/-! ===== another letter for one act: what stays ===== -/
def TR.lt (r : TR) (o i l : Nat) : TR := (r.1, r.2.1, r.2.2.1, r.2.2.2.1, r.2.2.2.2.1, fun o' i' => if o' = o ∧ i' = i then l else r.al o' i')
theorem lt_al {r : TR} {o i l o' i' : Nat} (h : ¬ (o' = o ∧ i' = i)) : (r.lt o i l).al o' i' = r.al o' i' := if_neg h
theorem lt_act {r : TR} {o i l o' i' : Nat} (h : ¬ (o' = o ∧ i' = i)) (s : TS) : ts_act (r.lt o i l) s o' i' = ts_act r s o' i' := by
  unfold ts_act
  rw [lt_al h]
  rfl
theorem lt_off {r : TR} {o i l : Nat} {s : TS} (h : bt (r.fo o (s.1 o)) i = false) (o' : Nat) : ∀ k, ts_off (r.lt o i l) s o' k = ts_off r s o' k
  | 0 => rfl
  | k + 1 => by
    show (bif bt (r.fo o' (s.1 o')) (15 - k) then ts_act (r.lt o i l) s o' (15 - k) else []) ++ ts_off (r.lt o i l) s o' k = (bif bt (r.fo o' (s.1 o')) (15 - k) then ts_act r s o' (15 - k) else []) ++ ts_off r s o' k
    rw [lt_off h o' k]
    by_cases c : o' = o ∧ 15 - k = i
    · obtain ⟨rfl, rfl⟩ := c
      rw [h]; rfl
    · rw [lt_act c]
theorem lt_all {r : TR} {o i l : Nat} {s : TS} (h : bt (r.fo o (s.1 o)) i = false) : ts_all (r.lt o i l) s = ts_all r s := by
  unfold ts_all
  rw [lt_off h, lt_off h, lt_off h]
theorem lt_any {r : TR} {o i l : Nat} {s : TS} (o' p : Nat) : ∀ k, bAny (r.lt o i l) s o' p k = bAny r s o' p k
  | 0 => rfl
  | k + 1 => by
    unfold bAny
    rw [lt_any o' p k]
    rfl
theorem lt_tak {r : TR} {o i l : Nat} {s : TS} (h : bt (r.fo o (s.1 o)) i = false) (o' p : Nat) : ∀ k, bTak (r.lt o i l) s o' p k = bTak r s o' p k
  | 0 => rfl
  | k + 1 => by
    unfold bTak
    rw [lt_tak h o' p k]
    by_cases c : o' = o ∧ 15 - k = i
    · obtain ⟨rfl, rfl⟩ := c
      have h' : bt ((r.lt o' (15 - k) l).fo o' (s.1 o')) (15 - k) = false := h
      simp only [h, h', Bool.false_and]
    · rw [lt_al c]; rfl
theorem lt_oall {r : TR} {o i l : Nat} {s : TS} (o' : Nat) : ∀ k, oAll (r.lt o i l) s o' k = oAll r s o' k
  | 0 => rfl
  | k + 1 => by
    unfold oAll
    rw [lt_oall o' k]
    rfl
theorem lt_bar {r : TR} {o i l : Nat} {s : TS} (h : bt (r.fo o (s.1 o)) i = false) (o' f : Nat) : tBar (r.lt o i l) s o' f = tBar r s o' f := by
  unfold tBar
  rw [lt_any, lt_tak h]
theorem lt_wr {r : TR} {o i l : Nat} {s : TS} (h : bt (r.fo o (s.1 o)) i = false) (sd : Nat → Bool) (o' : Nat) : tWr (r.lt o i l) sd s o' = tWr r sd s o' := by
  unfold tWr tW3 tWf
  rw [lt_oall, lt_bar h, lt_bar h, lt_bar h]
  rfl
theorem lt_end (r : TR) (o i l : Nat) (sd : Nat → Bool) (s : TS) : tEnd (r.lt o i l) sd s = tEnd r sd s := rfl
theorem lt_mark {r : TR} {o i l : Nat} {s : TS} (h : bt (r.fo o (s.1 o)) i = false) (sd : Nat → Bool) : tMark (r.lt o i l) sd s = tMark r sd s := by
  unfold tMark
  rw [lt_wr h, lt_wr h, lt_wr h, lt_all h, lt_end]
theorem lt_done (r : TR) (o i l : Nat) (sd : Nat → Bool) (s : TS) : tIs (r.lt o i l) sd s 4 = tIs r sd s 4 := rfl
theorem lt_all4 {r : TR} (hr : r.all) {o i l : Nat} (hl : l < 4) : (r.lt o i l).all := by
  obtain ⟨⟨a, b, c, d⟩, e, f⟩ := hr
  refine ⟨⟨a, b, c, fun o' i' ho hi hv h1 => ?_⟩, e, f⟩
  obtain ⟨x1, x2, x3, x4⟩ := d o' i' ho hi hv h1
  refine ⟨x1, x2, ?_, x4⟩
  show (if o' = o ∧ i' = i then l else r.al o' i') < 4
  split
  · exact hl
  · exact x3
/-- a step that is not the act's own stays a step -/
theorem lt_step {r : TR} {o i l : Nat} {s : TS} {x : Nat × TS} (hx : x ∈ ts_all r s) (hn : ∀ o' i', o' < 3 → 1 ≤ i' → i' < 16 → x ∈ ts_act r s o' i' → ¬ (o' = o ∧ i' = i)) : x ∈ ts_all (r.lt o i l) s := by
  obtain ⟨o', i', ho, i1, i16, hb, hm⟩ := ts_in hx
  have c := hn o' i' ho i1 i16 hm
  refine ts_out ho i1 i16 hb ?_
  rw [lt_act c]; exact hm
/-- the act of a step that is told -/
theorem ts_code {r : TR} {s : TS} {o i : Nat} {x : Nat × TS} (ho : o < 3) (hi : i < 16) (h : x ∈ ts_act r s o i) : x.1 % 1000 / 100 = o ∧ x.1 % 100 = i := by
  rcases ts_x h with ⟨-, -, e | e⟩ | ⟨-, -, e | e⟩ <;> rw [e]
  · show (100 * o + i) % 1000 / 100 = o ∧ (100 * o + i) % 100 = i
    omega
  · show (1000 + (100 * o + i)) % 1000 / 100 = o ∧ (1000 + (100 * o + i)) % 100 = i
    omega
  · show (100 * o + i) % 1000 / 100 = o ∧ (100 * o + i) % 100 = i
    omega
  · show (1000 + (100 * o + i)) % 1000 / 100 = o ∧ (1000 + (100 * o + i)) % 100 = i
    omega
/-- an act on the way to the t-th state -/
def onWay (v : SV) (o i t : Nat) : Prop := ∃ d, d < dpI v.f t ∧ v.b (bwUp v.f d t) % 1000 / 100 = o ∧ v.b (bwUp v.f d t) % 100 = i
theorem onWay_s {v : SV} {n : Nat} (hf : earl v.f n) {o i t : Nat} (h1 : 1 ≤ t) (ht : t < n) : onWay v o i t ↔ ((v.b t % 1000 / 100 = o ∧ v.b t % 100 = i) ∨ onWay v o i (v.f t)) := by
  have e := dpI_s hf h1 ht
  constructor
  · intro ⟨d, hd, a, b⟩
    cases d with
    | zero => exact Or.inl ⟨a, b⟩
    | succ d => exact Or.inr ⟨d, by omega, a, b⟩
  · rintro (⟨a, b⟩ | ⟨d, hd, a, b⟩)
    · exact ⟨0, by omega, a, b⟩
    · exact ⟨d + 1, by omega, a, b⟩
theorem lt_reachV {r : TR} {v : SV} (ok : svOk r v) (g : svG r v) {o i l : Nat} : ∀ t, t < v.n → ¬ onWay v o i t → reach (r.lt o i l) (v.s t) := by
  have hf : earl v.f v.n := ok.2.2.2.2.1
  intro t
  induction t using Nat.strongRecOn with
  | ind t ih =>
    intro ht nw
    by_cases c : t = 0
    · rw [c, ok.2.2.2.1]; exact reach_0 _
    · have h1 : 1 ≤ t := by omega
      have lt := hf t h1 ht
      have nw' := fun q => nw ((onWay_s hf h1 ht).mpr q)
      have rc := ih _ lt (by omega) (fun q => nw' (Or.inr q))
      have st := g.2.1 t h1 ht
      have st' := lt_step (o := o) (i := i) (l := l) st (fun o' i' ho i1 i16 hm ⟨a, b⟩ => by
        have := ts_code ho i16 hm
        exact nw' (Or.inl ⟨by rw [← a]; exact this.1, by rw [← b]; exact this.2⟩))
      exact reach_s rc st'
theorem lt_reach {r : TR} (hr : r.all) {o i l : Nat} (t : Nat) (ht : t < (svAll r).n) (hw : ¬ onWay (svAll r) o i t) : reach (r.lt o i l) ((svAll r).s t) := lt_reachV (svRow_ok hr.1 hr.2.1 2000) (svRow_g hr.1 hr.2.1 2000) t ht hw
/-- all states are well -/
def wellT (r : TR) (sd : Nat → Bool) : Prop := (svAll r).sp = false ∧ ∀ k, k < (svAll r).n → svH r sd k = true ∧ ¬ tBad r sd ((svAll r).s k)
/-- a bad state stays, if the act is neither on the way to it nor may be done there -/
theorem lt_bad {r : TR} (hr : r.all) {sd : Nat → Bool} {o i l t : Nat} (hl : l < 4) (ht : t < (svAll r).n) (hb : tBad r sd ((svAll r).s t)) (nw : ¬ onWay (svAll r) o i t) (nm : bt (r.fo o (((svAll r).s t).1 o)) i = false) : ¬ wellT (r.lt o i l) sd := by
  intro ⟨sp, w⟩
  have hr' := lt_all4 hr (o := o) (i := i) hl
  obtain ⟨u, hu⟩ := lt_reach hr (o := o) (i := i) (l := l) t ht nw
  obtain ⟨j, hj, e⟩ := reach_in hr'.1 hr'.2.1 sp u _ hu
  refine (w j hj).2 ?_
  rw [e]
  unfold tBad
  rw [lt_mark nm]
  exact hb
/-- a state from which no end can be reached stays so -/
theorem lt_for {r : TR} (hr : r.all) {sd : Nat → Bool} {o i l t : Nat} (hl : l < 4) (spr : (svAll r).sp = false) (ht : t < (svAll r).n) (hb : svH r sd t = false) (nw : ¬ onWay (svAll r) o i t) (nm : ∀ k, k < (svAll r).n → svH r sd k = false → bt (r.fo o (((svAll r).s k).1 o)) i = false) : ¬ wellT (r.lt o i l) sd := by
  intro ⟨sp, w⟩
  have hr' := lt_all4 hr (o := o) (i := i) hl
  have okA : svOk r (svAll r) := svRow_ok hr.1 hr.2.1 2000
  have gL : svG (r.lt o i l) (svAll (r.lt o i l)) := svRow_g hr'.1 hr'.2.1 2000
  obtain ⟨u, hu⟩ := lt_reach hr (o := o) (i := i) (l := l) t ht nw
  obtain ⟨j, hj, e⟩ := reach_in hr'.1 hr'.2.1 sp u _ hu
  have key : ∀ q j' k, j' < (svAll (r.lt o i l)).n → k < (svAll r).n → (svAll (r.lt o i l)).s j' = (svAll r).s k → svH r sd k = false → ¬ hpK (fun i' => tIs (r.lt o i l) sd ((svAll (r.lt o i l)).s i') 4) (svAll (r.lt o i l)).es (svAll (r.lt o i l)).et (svAll (r.lt o i l)).m q j' := by
    intro q
    induction q with
    | zero =>
      intro j' k hj' hk e hb h
      have h : tIs (r.lt o i l) sd ((svAll (r.lt o i l)).s j') 4 = true := h
      rw [e, lt_done] at h
      have : svH r sd k = true := uD_i (hope_0 h)
      rw [hb] at this; cases this
    | succ q ih =>
      intro j' k hj' hk e hb h
      rcases h with h | ⟨x, hx, ex, h⟩
      · exact ih j' k hj' hk e hb h
      · obtain ⟨c, hc⟩ := gL.2.2 x hx
        rw [ex, e, lt_all (nm k hk hb)] at hc
        obtain ⟨z, ez⟩ : ∃ z, (svAll (r.lt o i l)).s ((svAll (r.lt o i l)).et x) = z := ⟨_, rfl⟩
        rw [ez] at hc
        obtain ⟨y, y1, y2, y3⟩ := svAll_lead hr.1 hr.2.1 spr hk hc
        have y3 : (svAll r).s ((svAll r).et y) = z := y3
        have okL : svOk (r.lt o i l) (svAll (r.lt o i l)) := svRow_ok hr'.1 hr'.2.1 2000
        refine ih ((svAll (r.lt o i l)).et x) ((svAll r).et y) (okL.2.2.2.2.2 x hx).2 (okA.2.2.2.2.2 y y1).2 (ez.trans y3.symm) ?_ h
        cases hz : svH r sd ((svAll r).et y) with
        | false => rfl
        | true =>
          have := hope_s y1 (uD_e hz)
          rw [y2] at this
          have : svH r sd k = true := uD_i this
          rw [hb] at this; cases this
  obtain ⟨q, hq⟩ := uD_e (w j hj).1
  exact key q j t hj ht e hb hq
