/-! ===== what a machine says of words ===== -/
/-- two rounds of as many kinds part alike -/
theorem rf_stable {O : Nat → Option Nat} {κ : Nat → Nat} {N R : Nat} (hR1 : 1 ≤ R) (hR : (rfK O κ N (R + 1)).1 = (rfK O κ N R).1) {i i' : Nat} (hi : i < N) (hi' : i' < N) (h : (rfK O κ N R).2 i = (rfK O κ N R).2 i') : (rfK O κ N (R + 1)).2 i = (rfK O κ N (R + 1)).2 i' := by
  obtain ⟨r, rfl⟩ : ∃ r, R = r + 1 := ⟨R - 1, by omega⟩
  obtain ⟨g1, h2, _, _⟩ := rfS_p O (rfK O κ N r).2 N
  have g1 : ∀ i, i < N → (rfK O κ N (r + 1)).2 i < (rfK O κ N (r + 1)).1 := g1
  have h2 : ∀ v, v < (rfK O κ N (r + 1)).1 → ∃ i, i < N ∧ (rfK O κ N (r + 1)).2 i = v := h2
  have p1 : ∀ i, i < N → (rfK O κ N (r + 1 + 1)).2 i < (rfK O κ N (r + 1 + 1)).1 := (rfS_p O (rfK O κ N (r + 1)).2 N).1
  have ch : ∀ v, ∃ i, v < (rfK O κ N (r + 1)).1 → i < N ∧ (rfK O κ N (r + 1)).2 i = v := by
    intro v
    by_cases hv : v < (rfK O κ N (r + 1)).1
    · obtain ⟨i, h⟩ := h2 v hv; exact ⟨i, fun _ => h⟩
    · exact ⟨0, fun h => absurd h hv⟩
  obtain ⟨φ, hφ⟩ : ∃ φ : Nat → Nat, ∀ v, v < (rfK O κ N (r + 1)).1 → φ v < N ∧ (rfK O κ N (r + 1)).2 (φ v) = v := ⟨fun v => Classical.choose (ch v), fun v => Classical.choose_spec (ch v)⟩
  have hn : ((List.range (rfK O κ N (r + 1)).1).map (fun v => (rfK O κ N (r + 1 + 1)).2 (φ v))).Nodup := by
    refine List.pairwise_map.mpr (List.Pairwise.imp_of_mem ?_ List.nodup_range)
    intro x y hx hy hne e
    obtain ⟨x1, x2⟩ := hφ x (List.mem_range.mp hx)
    obtain ⟨y1, y2⟩ := hφ y (List.mem_range.mp hy)
    have := rfK_fine O κ N (r + 1) x1 y1 e
    rw [x2, y2] at this
    exact hne this
  -- every kind of the later round is met
  have cover : ∀ x, x < N → ∃ v, v < (rfK O κ N (r + 1)).1 ∧ (rfK O κ N (r + 1 + 1)).2 (φ v) = (rfK O κ N (r + 1 + 1)).2 x := by
    intro x hx
    apply Classical.byContradiction
    intro hno
    have hn2 : ((rfK O κ N (r + 1 + 1)).2 x :: (List.range (rfK O κ N (r + 1)).1).map (fun v => (rfK O κ N (r + 1 + 1)).2 (φ v))).Nodup := by
      refine List.nodup_cons.mpr ⟨?_, hn⟩
      intro hmem
      obtain ⟨v, hv, e⟩ := List.mem_map.mp hmem
      exact hno ⟨v, List.mem_range.mp hv, e⟩
    have hs : ((rfK O κ N (r + 1 + 1)).2 x :: (List.range (rfK O κ N (r + 1)).1).map (fun v => (rfK O κ N (r + 1 + 1)).2 (φ v))) ⊆ List.range (rfK O κ N (r + 1 + 1)).1 := by
      intro y hy
      rcases List.mem_cons.mp hy with rfl | hy
      · exact List.mem_range.mpr (p1 x hx)
      · obtain ⟨v, hv, rfl⟩ := List.mem_map.mp hy
        exact List.mem_range.mpr (p1 _ (hφ v (List.mem_range.mp hv)).1)
    have := List.Nodup.length_le_of_subset hn2 hs
    rw [List.length_cons, List.length_map, List.length_range, List.length_range] at this
    omega
  obtain ⟨v, hv, e⟩ := cover i hi
  obtain ⟨v', hv', e'⟩ := cover i' hi'
  have a := rfK_fine O κ N (r + 1) (hφ v hv).1 hi e
  have a' := rfK_fine O κ N (r + 1) (hφ v' hv').1 hi' e'
  rw [(hφ v hv).2] at a
  rw [(hφ v' hv').2] at a'
  have : v = v' := a.trans (h.trans a'.symm)
  subst this
  exact e.symm.trans e'
theorem rf_down {O : Nat → Option Nat} {κ : Nat → Nat} {N : Nat} {i i' : Nat} (hi : i < N) (hi' : i' < N) : ∀ R, (rfK O κ N R).2 i = (rfK O κ N R).2 i' → κ i = κ i'
  | 0, h => h
  | R + 1, h => rf_down hi hi' R (rfK_fine O κ N R hi hi' h)
/-- kinds at the end: alike in steps, by the kinds at the end -/
theorem rf_step {O : Nat → Option Nat} {κ : Nat → Nat} {N R : Nat} (hR1 : 1 ≤ R) (hR : (rfK O κ N (R + 1)).1 = (rfK O κ N R).1) (hO : ∀ j, j < 24 * N → ∀ i, O j = some i → i < N) {i i' : Nat} (hi : i < N) (hi' : i' < N) (h : (rfK O κ N (R + 1)).2 i = (rfK O κ N (R + 1)).2 i') {s : Nat} (hs : s < 24) : (O (24 * i + s)).map (rfK O κ N (R + 1)).2 = (O (24 * i' + s)).map (rfK O κ N (R + 1)).2 := by
  have hA : rfA O (rfK O κ N R).2 i i' := ((rfS_p O (rfK O κ N R).2 N).2.2.1 i i' hi hi').mp h
  have hA := hA.2 s hs
  cases ho : O (24 * i + s) with
  | none =>
    rw [ho] at hA
    cases ho' : O (24 * i' + s) with
    | none => rfl
    | some y => rw [ho'] at hA; cases hA
  | some x =>
    rw [ho] at hA
    cases ho' : O (24 * i' + s) with
    | none => rw [ho'] at hA; cases hA
    | some y =>
      rw [ho'] at hA
      have e : (rfK O κ N R).2 x = (rfK O κ N R).2 y := by
        have := Option.some.inj (show some ((rfK O κ N R).2 x) = some ((rfK O κ N R).2 y) from hA)
        exact this
      have := rf_stable hR1 hR (hO _ (by omega) x ho) (hO _ (by omega) y ho') e
      show some _ = some _
      rw [this]
/-- whether a book takes a word (its last letter first) -/
def bAcc (n : Nat) (so : Nat → Nat) (fo : Nat → Nat → Prop) (w : List Nat) : Prop := ∃ p, p ≤ n ∧ bSet n so fo w p ∧ fo p 0
/-- what stands of a set in the row -/
theorem sb_idx {ld : Nat → Nat → Nat} {K : Nat} (hK : sbEnd ld K) {k s : Nat} (hk : k < K) (hs : s < 24) : (ld (sbV ld (24 * K) k) s = 0 ∧ sbO ld (24 * k + s) = none) ∨ (ld (sbV ld (24 * K) k) s ≠ 0 ∧ ∃ i, sbO ld (24 * k + s) = some i ∧ i < K ∧ sbV ld (24 * K) i = ld (sbV ld (24 * K) k) s) := by
  have hkN : k < sbN ld (24 * k) := hK.2 k hk
  have m1 := sb_ge ld (24 * k) s
  have m2 := sb_ge ld (24 * k + s) (24 * K - (24 * k + s))
  rw [show 24 * k + s + (24 * K - (24 * k + s)) = 24 * K from by omega] at m2
  have ek : sbV ld (24 * k + s) k = sbV ld (24 * K) k := (m2.2 k (by omega)).symm
  have hT : sbT ld (24 * k + s) = ld (sbV ld (24 * K) k) s := by
    unfold sbT
    rw [show (24 * k + s) / 24 = k from by omega, show (24 * k + s) % 24 = s from by omega, ek]
  by_cases t0 : sbT ld (24 * k + s) = 0
  · left
    refine ⟨by rw [← hT]; exact t0, ?_⟩
    unfold sbO; rw [if_pos t0]
  · right
    refine ⟨by rw [← hT]; exact t0, sbIx (sbV ld (24 * k + s)) (sbT ld (24 * k + s)) (sbN ld (24 * k + s)), ?_, ?_, ?_⟩
    · unfold sbO; rw [if_neg t0]
    · exact sbO_lt hK (j := 24 * k + s) (by omega) (by unfold sbO; rw [if_neg t0])
    · rw [← hT]
      by_cases c : sbIx (sbV ld (24 * k + s)) (sbT ld (24 * k + s)) (sbN ld (24 * k + s)) = sbN ld (24 * k + s)
      · obtain ⟨o1, o2⟩ := sb_new (ld := ld) (j := 24 * k + s) (by rw [show (24 * k + s) / 24 = k from by omega]; omega) t0 c
        have m3 := (sb_ge ld (24 * k + s + 1) (24 * K - (24 * k + s + 1))).2 (sbN ld (24 * k + s)) (by omega)
        rw [show 24 * k + s + 1 + (24 * K - (24 * k + s + 1)) = 24 * K from by omega, o2] at m3
        rw [c, m3]
        show (if sbN ld (24 * k + s) = sbN ld (24 * k + s) then _ else _) = _
        rw [if_pos rfl]
      · have hlt : sbIx (sbV ld (24 * k + s)) (sbT ld (24 * k + s)) (sbN ld (24 * k + s)) < sbN ld (24 * k + s) := by
          have := sbIx_le (sbV ld (24 * k + s)) (sbT ld (24 * k + s)) (sbN ld (24 * k + s)); omega
        rw [m2.2 _ hlt, sbIx_lt hlt]
theorem bLd_w {n : Nat} (hn : n ≤ 15) {so : Nat → Nat} {fo : Nat → Nat → Prop} (w : List Nat) (a : Nat) : bLd n so fo (uMk (bSet n so fo w)) a = uMk (bSet n so fo (a :: w)) := by
  apply uMk_eq
  intro q _
  constructor
  · rintro ⟨q1, q2, q3, p, hp, ht, hf⟩
    have hw := ((uMk_t _ p).mp ht).2
    have hpn : p ≤ n := by
      cases w with
      | nil => have : p = 0 := hw; omega
      | cons c w => exact (bSet_rg hw).2.1
    exact ⟨q1, q2, q3, p, hpn, hw, hf⟩
  · rintro ⟨q1, q2, q3, p, hp, hw, hf⟩
    exact ⟨q1, q2, q3, p, by omega, (uMk_t _ p).mpr ⟨by omega, hw⟩, hf⟩
theorem uMk_1 {n : Nat} {so : Nat → Nat} {fo : Nat → Nat → Prop} : uMk (bSet n so fo []) = 1 := by
  apply Nat.eq_of_testBit_eq
  intro q
  rw [Bool.eq_iff_iff, uMk_t, show (1 : Nat) = 2 ^ 0 from rfl, Nat.testBit_two_pow, decide_eq_true_eq]
  exact ⟨fun h => h.2.symm, fun h => ⟨by omega, h.symm⟩⟩
/-- the place of a machine behind a word -/
def mPl (nx : Nat → Option Nat) : List Nat → Option Nat
  | [] => some 0
  | a :: w => (mPl nx w).bind fun v => nx (24 * v + a)
/-- a machine stands for a book: the place behind each word, ends -/
theorem m_book {n : Nat} (hn : n ≤ 15) {so : Nat → Nat} {fo : Nat → Nat → Prop} {K R P : Nat} {la : Nat → Nat} (h : fdOk n so fo K R P la) : ∀ w : List Nat, (∀ a, a ∈ w → a < 24) →
    (uMk (bSet n so fo w) = 0 ∧ mPl (fdX (sbO (bLd n so fo)) (bKap n so fo K R) la) w = none) ∨ ∃ i, i < K ∧ sbV (bLd n so fo) (24 * K) i = uMk (bSet n so fo w) ∧ uMk (bSet n so fo w) ≠ 0 ∧ bKap n so fo K R i < P ∧ mPl (fdX (sbO (bLd n so fo)) (bKap n so fo K R) la) w = some (bKap n so fo K R i) := by
  obtain ⟨⟨hE, ⟨K1, K4⟩, ⟨R1, RK⟩, hR, hno, hP⟩, hla⟩ := h
  have kP : ∀ i, i < K → bKap n so fo K R i < P := by
    intro i hi
    rw [hP]
    exact (rfS_p _ _ K).1 i hi
  have hO : ∀ j, j < 24 * K → ∀ i, sbO (bLd n so fo) j = some i → i < K := fun j hj i => sbO_lt hE hj
  intro w
  induction w with
  | nil =>
    intro _
    right
    have hp := sb_pos (bLd n so fo) (24 * K)
    have z : bKap n so fo K R 0 = 0 := by
      -- the first set gets the first number
      have : ∀ N, 1 ≤ N → ∀ κ : Nat → Nat, (rfS (sbO (bLd n so fo)) κ N).2 0 = 0 := by
        intro N hN κ
        have h1 : (rfS (sbO (bLd n so fo)) κ 1).2 0 = 0 := by
          rw [rfS_n (k := 0) (Nat.not_lt_zero _)]
          rfl
        have := rfS_keep (sbO (bLd n so fo)) κ 1 (N - 1) 0 (by decide)
        rw [show 1 + (N - 1) = N from by omega] at this
        rw [this]; exact h1
      exact this K K1 _
    exact ⟨0, by omega, by rw [uMk_1]; exact hp.2, by rw [uMk_1]; decide, kP 0 (by omega), by rw [z]; rfl⟩
  | cons a w ih =>
    intro ha
    have a24 := ha a (List.mem_cons_self ..)
    rcases ih (fun b hb => ha b (List.mem_cons_of_mem _ hb)) with ⟨h0, hm⟩ | ⟨i, hi, hV, hne, hkp, hm⟩
    · left
      refine ⟨?_, by show (mPl _ w).bind _ = none; rw [hm]; rfl⟩
      apply uMk_0
      rintro q ⟨_, _, _, p, hp, hw, _⟩
      have : (uMk (bSet n so fo w)).testBit p = true := (uMk_t _ p).mpr ⟨by omega, hw⟩
      rw [h0, Nat.zero_testBit] at this
      cases this
    · have hlv := hla _ hkp
      -- the lead of its kind is like it
      have same := rf_step (O := sbO (bLd n so fo)) R1 hR hO hi hlv.1 (show (rfK (sbO (bLd n so fo)) _ K (R + 1)).2 i = (rfK (sbO (bLd n so fo)) _ K (R + 1)).2 (la (bKap n so fo K R i)) from hlv.2.symm) a24
      have hnx : fdX (sbO (bLd n so fo)) (bKap n so fo K R) la (24 * bKap n so fo K R i + a) = (sbO (bLd n so fo) (24 * i + a)).map (bKap n so fo K R) := by
        unfold fdX
        rw [show (24 * bKap n so fo K R i + a) / 24 = bKap n so fo K R i from by omega, show (24 * bKap n so fo K R i + a) % 24 = a from by omega]
        exact same.symm
      have hm2 : mPl (fdX (sbO (bLd n so fo)) (bKap n so fo K R) la) (a :: w) = (sbO (bLd n so fo) (24 * i + a)).map (bKap n so fo K R) := by
        show (mPl _ w).bind _ = _
        rw [hm]
        exact hnx
      have hld : bLd n so fo (sbV (bLd n so fo) (24 * K) i) a = uMk (bSet n so fo (a :: w)) := by rw [hV, bLd_w hn]
      rcases sb_idx hE hi a24 with ⟨e0, eo⟩ | ⟨e0, i', eo, hi', ev⟩
      · left
        exact ⟨by rw [← hld]; exact e0, by rw [hm2, eo]; rfl⟩
      · right
        exact ⟨i', hi', by rw [ev, hld], by rw [← hld]; exact e0, kP i' hi', by rw [hm2, eo]; rfl⟩
/-- ends of a machine are the book's -/
theorem m_end {n : Nat} (hn : n ≤ 15) {so : Nat → Nat} {fo : Nat → Nat → Prop} {K R P : Nat} {la : Nat → Nat} (h : fdOk n so fo K R P la) {w : List Nat} (hw : ∀ a, a ∈ w → a < 24) : (mPl (fdX (sbO (bLd n so fo)) (bKap n so fo K R) la) w = none → ¬ bAcc n so fo w) ∧ ∀ v, mPl (fdX (sbO (bLd n so fo)) (bKap n so fo K R) la) w = some v → v < P ∧ (bEn fo (sbV (bLd n so fo) (24 * K) (la v)) = true ↔ bAcc n so fo w) := by
  have hfd := h
  obtain ⟨⟨hE, ⟨K1, K4⟩, ⟨R1, RK⟩, hR, hno, hP⟩, hla⟩ := h
  have acc : bAcc n so fo w ↔ bNx fo (uMk (bSet n so fo w)) 0 := by
    constructor
    · rintro ⟨p, hp, hb, hf⟩
      exact ⟨p, by omega, (uMk_t _ p).mpr ⟨by omega, hb⟩, hf⟩
    · rintro ⟨p, hp, ht, hf⟩
      have hb := ((uMk_t _ p).mp ht).2
      have hpn : p ≤ n := by
        cases w with
        | nil => have : p = 0 := hb; omega
        | cons c w => exact (bSet_rg hb).2.1
      exact ⟨p, hpn, hb, hf⟩
  rcases m_book hn hfd w hw with ⟨h0, hm⟩ | ⟨i, hi, hV, hne, hkp, hm⟩
  · refine ⟨fun _ => ?_, (fun v hv => by rw [hm] at hv; cases hv)⟩
    rw [acc, h0]
    rintro ⟨p, _, ht, _⟩
    rw [Nat.zero_testBit] at ht; cases ht
  · refine ⟨(fun hv => by rw [hm] at hv; cases hv), fun v hv => ?_⟩
    rw [hm] at hv
    have hv : bKap n so fo K R i = v := Option.some.inj hv
    subst hv
    refine ⟨hkp, ?_⟩
    have hlv := hla _ hkp
    have := rf_down hi hlv.1 (R + 1) (show (rfK (sbO (bLd n so fo)) _ K (R + 1)).2 i = (rfK (sbO (bLd n so fo)) _ K (R + 1)).2 (la (bKap n so fo K R i)) from hlv.2.symm)
    have eB : bEn fo (sbV (bLd n so fo) (24 * K) (la (bKap n so fo K R i))) = bEn fo (sbV (bLd n so fo) (24 * K) i) := by
      have this : (bif bEn fo (sbV (bLd n so fo) (24 * K) i) then 1 else 0) = (bif bEn fo (sbV (bLd n so fo) (24 * K) (la (bKap n so fo K R i))) then 1 else 0) := this
      cases h1 : bEn fo (sbV (bLd n so fo) (24 * K) i) <;> cases h2 : bEn fo (sbV (bLd n so fo) (24 * K) (la (bKap n so fo K R i))) <;> rw [h1, h2] at this <;> first | rfl | cases this
    rw [eB, hV, acc]
    exact ⟨fun h => uD_e h, fun h => uD_i h⟩
