/-! ===== a gathered book is as a book may be ===== -/
def gCd (s : GS) : Prop := ∀ i, 1 ≤ i → i ≤ s.n → ∃ c, cdG c ∧ s.code i = nI c
theorem dig_v {x : Int32} (hx : rd_dig x = true) : ∃ a, a < 3 ∧ x - Int32.ofInt 48 = nI a := by
  rcases dig_cases hx with rfl | rfl | rfl
  · exact ⟨0, by decide, by decide⟩
  · exact ⟨1, by decide, by decide⟩
  · exact ⟨2, by decide, by decide⟩
theorem let_v {x : Int32} (hx : rd_let x = true) : ∃ a, a < 4 ∧ x - Int32.ofInt 97 = nI a := by
  rcases let_cases hx with rfl | rfl | rfl | rfl
  · exact ⟨0, by decide, by decide⟩
  · exact ⟨1, by decide, by decide⟩
  · exact ⟨2, by decide, by decide⟩
  · exact ⟨3, by decide, by decide⟩
theorem cd_e1 {x y : Int32} (hx : rd_dig x = true) (hy : rd_let y = true) : (∃ c, cdG c ∧ ((Int32.ofInt 10) * (x - Int32.ofInt 48)) + (y - Int32.ofInt 97) = nI c) ∧ (∃ c, cdG c ∧ ((Int32.ofInt 100) + ((Int32.ofInt 10) * (x - Int32.ofInt 48))) + (y - Int32.ofInt 97) = nI c) := by
  obtain ⟨a, ha, ea⟩ := dig_v hx
  obtain ⟨b, hb, eb⟩ := let_v hy
  rw [ea, eb, show Int32.ofInt 10 = nI 10 from rfl, show Int32.ofInt 100 = nI 100 from rfl]
  simp only [nI_mul, nI_add]
  exact ⟨⟨10 * a + b, ⟨by omega, by omega, by omega⟩, rfl⟩, ⟨100 + 10 * a + b, ⟨by omega, by omega, by omega⟩, rfl⟩⟩
theorem cd_good {sort o : Int32} {r : Nat → Int32} {i : Nat} (hst : rd_st sort (r i) = true) (hx : rd_dig (r (i + 1)) = true) (hy : rd_let (r (i + 2)) = true) : cd_of sort o r i = Int32.ofInt (-1) ∨ ∃ c, cdG c ∧ cd_of sort o r i = nI c := by
  unfold cd_of
  by_cases hs : sort = 0
  · rw [if_pos hs]
    right
    unfold cd_book
    by_cases c : r i = Int32.ofInt 63
    · rw [if_pos c, i_asc2]; exact (cd_e1 hx hy).2
    · rw [if_neg c, i_asc]; exact (cd_e1 hx hy).1
  · rw [if_neg hs]
    have hd : rd_dig (r i) = true := by
      unfold rd_st at hst; rw [decide_eq_false hs] at hst; exact hst
    unfold cd_part
    split
    · exact Or.inr (cd_e1 hx hy).1
    · split
      · exact Or.inr (cd_e1 hx hy).1
      · split
        · exact Or.inr (cd_e1 hd hy).2
        · exact Or.inl rfl
theorem gEv_cd {sort o : Int32} {r : Nat → Int32} {m i : Nat} {s : GS} (g : gCd s) (hc : rd_let (r i) = true → 2 ≤ i → cd_of sort o r (i - 2) = Int32.ofInt (-1) ∨ ∃ c, cdG c ∧ cd_of sort o r (i - 2) = nI c) : gCd (gEv sort o r m i s) := by
  unfold gEv
  split
  · next q =>
    split
    · exact g
    · next n1 =>
      split
      · obtain ⟨c, cg, ec⟩ := (hc q.1 q.2).resolve_left n1
        intro j j1 jn
        have jn : j ≤ s.n + 1 := jn
        show ∃ c, cdG c ∧ upd s.code (s.n + 1) (cd_of sort o r (i - 2)) j = nI c
        by_cases e : j = s.n + 1
        · rw [e, upd_at]; exact ⟨c, cg, ec⟩
        · rw [upd_ne e]; exact g j j1 (by omega)
      · exact g
  · split
    · split
      · exact g
      · exact g
    · split
      · exact g
      · split
        · split
          · exact g
          · have e : ∀ b, gCd (gClose b s) := by intro b; cases b <;> exact g
            exact e _
        · exact g
theorem rd_it_p {c : Int32} {d p e : Nat} (h : rd_it c d = some (p, e)) : (p = 0 ∨ p = 4) ∧ rd_let c = false := by
  unfold rd_it at h
  by_cases c1 : c = Int32.ofInt 59
  · rw [if_pos c1] at h
    obtain ⟨rfl, rfl⟩ := am_i2 h
    exact ⟨Or.inl rfl, by rw [c1]; decide⟩
  · rw [if_neg c1] at h
    by_cases c2 : d = 0
    · rw [if_pos c2] at h; cases h
    · rw [if_neg c2] at h
      by_cases c3 : c = Int32.ofInt 43
      · rw [if_pos c3] at h
        obtain ⟨rfl, rfl⟩ := am_i2 h
        exact ⟨Or.inl rfl, by rw [c3]; decide⟩
      · rw [if_neg c3] at h
        by_cases c4 : c = Int32.ofInt 125
        · rw [if_pos c4] at h
          obtain ⟨rfl, rfl⟩ := am_i2 h
          exact ⟨Or.inr rfl, by rw [c4]; decide⟩
        · rw [if_neg c4] at h; cases h
theorem rd_key {sort last c : Int32} {ph d p e : Nat} (hp : ph ≤ 4) (h : rd_step sort last c ph d = some (p, e)) : (p = 1 → rd_st sort c = true) ∧ (p = 2 → ph = 1 ∧ rd_dig c = true) ∧ (rd_let c = true → ph = 2) := by
  match ph, hp with
  | 0, _ =>
    have h : (if c = Int32.ofInt 123 then some (0, d + 1) else bif rd_st sort c then some (1, d) else none) = some (p, e) := h
    by_cases c1 : c = Int32.ofInt 123
    · rw [if_pos c1] at h
      obtain ⟨rfl, rfl⟩ := am_i2 h
      exact ⟨fun q => by omega, fun q => by omega, fun q => by rw [c1] at q; exact absurd q (by decide)⟩
    · rw [if_neg c1] at h
      cases hs : rd_st sort c
      · rw [hs] at h; cases h
      · rw [hs] at h
        obtain ⟨rfl, rfl⟩ := am_i2 (show some (1, d) = some (p, e) from h)
        exact ⟨fun _ => rfl, fun q => by omega, fun q => by rw [(st_x hs).1] at q; cases q⟩
  | 1, _ =>
    have h : (bif rd_dig c then (if sort = 0 then some (2, d) else if c = last then none else some (2, d)) else none) = some (p, e) := h
    cases hs : rd_dig c
    · rw [hs] at h; cases h
    · rw [hs] at h
      have h : (if sort = 0 then some (2, d) else if c = last then none else some (2, d)) = some (p, e) := h
      have p2 : p = 2 := by
        by_cases q : sort = 0
        · rw [if_pos q] at h; exact (am_i2 h).1.symm
        · rw [if_neg q] at h
          by_cases q2 : c = last
          · rw [if_pos q2] at h; cases h
          · rw [if_neg q2] at h; exact (am_i2 h).1.symm
      exact ⟨fun q => by omega, fun _ => ⟨rfl, rfl⟩, fun q => by rw [(dig_x hs).1] at q; cases q⟩
  | 2, _ =>
    have h : (bif rd_let c then some (3, d) else none) = some (p, e) := h
    cases hs : rd_let c
    · rw [hs] at h; cases h
    · rw [hs] at h
      obtain ⟨rfl, rfl⟩ := am_i2 (show some (3, d) = some (p, e) from h)
      exact ⟨fun q => by omega, fun q => by omega, fun _ => rfl⟩
  | 3, _ =>
    obtain ⟨a, b⟩ := rd_it_p (show rd_it c d = some (p, e) from h)
    exact ⟨fun q => by omega, fun q => by omega, fun q => by rw [b] at q; cases q⟩
  | 4, _ =>
    have h : (if c = Int32.ofInt 42 then some (3, d) else rd_it c d) = some (p, e) := h
    by_cases c1 : c = Int32.ofInt 42
    · rw [if_pos c1] at h
      obtain ⟨rfl, rfl⟩ := am_i2 h
      exact ⟨fun q => by omega, fun q => by omega, fun q => by rw [c1] at q; exact absurd q (by decide)⟩
    · rw [if_neg c1] at h
      obtain ⟨a, b⟩ := rd_it_p h
      exact ⟨fun q => by omega, fun q => by omega, fun q => by rw [b] at q; cases q⟩
theorem gRun_cd {sort o : Int32} {r : Nat → Int32} {m : Nat} : ∀ (k i ph d : Nat) (s : GS), vl sort r k i ph d → ph ≤ 4 → (ph = 1 → 1 ≤ i ∧ rd_st sort (r (i - 1)) = true) → (ph = 2 → 2 ≤ i ∧ rd_st sort (r (i - 2)) = true ∧ rd_dig (r (i - 1)) = true) → gCd s → gCd (gRun sort o r m k i s) := by
  intro k
  induction k with
  | zero => intro i ph d s _ _ _ _ g; exact g
  | succ k ih =>
    intro i ph d s hv hp p1 p2 g
    obtain ⟨p, e, hst, hv1⟩ := vl_s hv
    obtain ⟨k1, k2, k3⟩ := rd_key hp hst
    rw [gRun_s]
    refine ih (i + 1) p e _ hv1 (rd_step_le hp hst).1 (fun q => ⟨by omega, k1 q⟩) (fun q => ?_) (gEv_cd g (fun hl h2 => ?_))
    · obtain ⟨a, b⟩ := k2 q
      obtain ⟨x, y⟩ := p1 a
      exact ⟨by omega, by rw [show i + 1 - 2 = i - 1 from by omega]; exact y, b⟩
    · obtain ⟨a, b, c⟩ := p2 (k3 hl)
      exact cd_good b (by rw [show i - 2 + 1 = i - 1 from by omega]; exact c) (by rw [show i - 2 + 2 = i from by omega]; exact hl)
theorem gRun_b (sort o : Int32) (r : Nat → Int32) (m : Nat) : ∀ (k i : Nat) (s : GS), s.n ≤ 15 → s.d ≤ 60 → (gRun sort o r m k i s).n ≤ 15 := by
  intro k
  induction k with
  | zero => intro i s a _; exact a
  | succ k ih =>
    intro i s a b
    rw [gRun_s]
    obtain ⟨x, y⟩ := gEv_b sort o r m i s a b
    exact ih (i + 1) _ x y
theorem bt_low {x : Int32} (h : ∀ q, bt x q = true → q ≤ 15) : ∃ v, v < 65536 ∧ x = nI v := by
  refine ⟨x.toBitVec.toNat, ?_, ?_⟩
  · apply Nat.lt_pow_two_of_testBit (n := 16)
    intro i hi
    cases e : x.toBitVec.toNat.testBit i with
    | false => rfl
    | true => have := h i e; omega
  · apply Int32.toBitVec.inj
    show x.toBitVec = BitVec.ofNat 32 x.toBitVec.toNat
    rw [BitVec.ofNat_toNat, BitVec.setWidth_eq]
theorem bt_nil {x : Int32} (h : ∀ q, bt x q = false) : x = Int32.ofInt 0 := Int32.toBitVec.inj (BitVec.eq_of_getLsbD_eq (fun i _ => by
  rw [show x.toBitVec.getLsbD i = bt x i from rfl, h i]; exact (bt_0 i).symm))
theorem bI_0q {b : Bool} {q : Nat} (h : bt (bI b) q = true) : q = 0 := by
  by_cases c : q < 32
  · have := bI_bits b q c
    rw [show (bI b).toBitVec.getLsbD q = true from h] at this
    have := (Bool.and_eq_true _ _ ▸ this.symm : b = true ∧ decide (q = 0) = true).2
    exact of_decide_eq_true this
  · rw [bt_hi _ (by omega)] at h; cases h
/-- the code of an act, as a number -/
def gCo (s : GS) (i : Nat) : Nat := (s.code i).toNatClampNeg
theorem bk_whole {sort o : Int32} {r : Nat → Int32} {m : Nat} (hm : m ≤ 60) (hv : vl sort r m 0 0 0) : bkOk (gRun sort o r m m 0 g00).n (gCo (gRun sort o r m m 0 g00)) (gFin (gRun sort o r m m 0 g00)).fol ∧ (∀ i, 1 ≤ i → i ≤ (gRun sort o r m m 0 g00).n → (gRun sort o r m m 0 g00).code i = nI (gCo (gRun sort o r m m 0 g00) i)) ∧ (gRun sort o r m m 0 g00).d = 0 := by
  have cd := gRun_cd (sort := sort) (o := o) (r := r) (m := m) m 0 0 0 g00 hv (by decide) (fun q => by omega) (fun q => by omega) (fun i a b => by have b : i ≤ 0 := b; omega)
  have n15 := gRun_b sort o r m m 0 g00 (by decide) (by decide)
  have tp := run_top (o := o) (m := m) m 0 0 g00 hv (by decide) (by decide) (by omega) ⟨rfl, rfl, rfl⟩
  have bo := bk_ok (o := o) hm hv
  obtain ⟨lb, cp, B, σ, ⟨⟨h1, h2, -⟩, -, hz⟩, -⟩ := pg_text (o := o) hm hv
  generalize gRun sort o r m m 0 g00 = s at *
  have co : ∀ i, 1 ≤ i → i ≤ s.n → cdG (gCo s i) ∧ s.code i = nI (gCo s i) := by
    intro i a b
    obtain ⟨c, cg, ec⟩ := cd i a b
    have c200 : c < 200 := by have := cg.1; omega
    have : gCo s i = c := by unfold gCo; rw [ec]; exact nI_clamp (by omega)
    rw [this]; exact ⟨cg, ec⟩
  have bits : ∀ j q, bt ((gFin s).fol j) q = true → q ≤ s.n ∧ j ≤ s.n := by
    intro j q hq
    by_cases j0 : j = 0
    · subst j0
      rw [gFin_0 tp.1 tp.2, bt_or, or_t] at hq
      refine ⟨?_, Nat.zero_le _⟩
      rcases hq with hq | hq
      · exact (h2 0 (Nat.zero_le _) q (Or.inl hq)).2
      · have := bI_0q hq; omega
    · have hq : bt (gJoinF s.n (upd s.fol 0 ((gEnd s).aF 0 ||| bI ((gEnd s).aN 0))) ((gEnd s).aL 0) (Int32.ofInt 1) j) q = true := hq
      rw [gJoinF_bt, upd_ne j0] at hq
      rcases hq with hq | ⟨a, b, -, hq⟩
      · by_cases jn : j ≤ s.n
        · exact ⟨(h1 j q ⟨by omega, jn, hq⟩).2, jn⟩
        · rw [hz j q (by omega)] at hq; cases hq
      · refine ⟨?_, b⟩
        by_cases q1 : 1 ≤ q
        · rw [bt_i1 q q1] at hq; cases hq
        · omega
  refine ⟨⟨n15, fun i a b => (co i a b).1, fun j _ => bt_low (fun q hq => by have := (bits j q hq).1; omega), fun j _ q hq => (bits j q hq).1, fun j a _ => bt_nil (fun q => ?_), bo⟩, fun i a b => (co i a b).2, tp.2⟩
  cases e : bt ((gFin s).fol j) q with
  | false => rfl
  | true => have := (bits j q e).2; omega
