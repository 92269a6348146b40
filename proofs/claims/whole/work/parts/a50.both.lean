/-! ===== both find the same row ===== -/
theorem wFirst_c {D D' : List Nat → Prop} (h : ∀ w, (∀ a, a ∈ w → a < 24) → (D w ↔ D' w)) {w : List Nat} (hw : wFirst D w) : wFirst D' w := ⟨hw.1, (h w hw.1).mp hw.2.1, fun u hu hlt hd => hw.2.2 u hu hlt ((h u hu).mpr hd)⟩
/-- a book's machine, told by its sets -/
noncomputable def bMx (n : Nat) (so : Nat → Nat) (fo : Nat → Nat → Prop) (K R : Nat) (la : Nat → Nat) : Nat → Option Nat := fdX (sbO (bLd n so fo)) (bKap n so fo K R) la
noncomputable def bMe (n : Nat) (so : Nat → Nat) (fo : Nat → Nat → Prop) (K : Nat) (la : Nat → Nat) : Nat → Bool := fun v => bEn fo (sbV (bLd n so fo) (24 * K) (la v))
theorem nE_b {n : Nat} (hn : n ≤ 15) {so : Nat → Nat} {fo : Nat → Nat → Prop} {K R P : Nat} {la : Nat → Nat} (h : fdOk n so fo K R P la) {w : List Nat} (hw : ∀ a, a ∈ w → a < 24) : nE (bMx n so fo K R la) (bMe n so fo K la) w = true ↔ bAcc n so fo w := by
  obtain ⟨h1, h2⟩ := m_end hn h hw
  unfold nE
  cases hm : mPl (bMx n so fo K R la) w with
  | none => exact ⟨(fun h => nomatch h), fun ha => absurd ha (h1 hm)⟩
  | some v => exact (h2 v hm).2
theorem nE_u {n : Nat} (hn : n ≤ 15) {so : Nat → Nat} {fo : Nat → Nat → Prop} {K R P : Nat} {la : Nat → Nat} (h : fdOk n so fo K R P la) {w : List Nat} (hw : ∀ a, a ∈ w → a < 24) : nE (bMx n so fo K R la) (bMe n so fo K la) w = uD (bAcc n so fo w) := by
  rw [Bool.eq_iff_iff, nE_b hn h hw]
  exact ⟨fun h => uD_i h, fun h => uD_e h⟩
section
variable {n1 n2 : Nat} {so1 so2 : Nat → Nat} {fo1 fo2 : Nat → Nat → Prop} {K1 R1 P1 K2 R2 P2 : Nat} {la1 la2 : Nat → Nat}
theorem nD_b (hn1 : n1 ≤ 15) (hn2 : n2 ≤ 15) (f1 : fdOk n1 so1 fo1 K1 R1 P1 la1) (f2 : fdOk n2 so2 fo2 K2 R2 P2 la2) (w : List Nat) (hw : ∀ a, a ∈ w → a < 24) : nD (bMx n1 so1 fo1 K1 R1 la1) (bMx n2 so2 fo2 K2 R2 la2) (bMe n1 so1 fo1 K1 la1) (bMe n2 so2 fo2 K2 la2) w ↔ bDis n1 n2 so1 so2 fo1 fo2 w := by
  unfold nD bDis
  have e1 := nE_b hn1 f1 hw
  have e2 := nE_b hn2 f2 hw
  rw [← e1, ← e2, ← Bool.eq_iff_iff]
theorem fd_rg {n : Nat} {so : Nat → Nat} {fo : Nat → Nat → Prop} {K R P : Nat} {la : Nat → Nat} (h : fdOk n so fo K R P la) : (1 ≤ P ∧ P ≤ 4096) ∧ ∀ j, j < 24 * P → ∀ i, bMx n so fo K R la j = some i → i < P := by
  obtain ⟨⟨hE, ⟨K1, K4⟩, ⟨R1, RK⟩, hR, hno, hP⟩, hla⟩ := h
  have kP : ∀ i, i < K → bKap n so fo K R i < P := by
    intro i hi
    rw [hP]
    exact (rfS_p _ _ K).1 i hi
  refine ⟨⟨by have := kP 0 (by omega); omega, by rw [hP]; have := rfK_le (sbO (bLd n so fo)) (fun i => bif bEn fo (sbV (bLd n so fo) (24 * K) i) then 1 else 0) K (R + 1); omega⟩, ?_⟩
  intro j hj i hi
  have hl := (hla (j / 24) (by omega)).1
  cases ho : sbO (bLd n so fo) (24 * la (j / 24) + j % 24) with
  | none =>
    have hi : (sbO (bLd n so fo) (24 * la (j / 24) + j % 24)).map (bKap n so fo K R) = some i := hi
    rw [ho] at hi; cases hi
  | some y =>
    have hi : (sbO (bLd n so fo) (24 * la (j / 24) + j % 24)).map (bKap n so fo K R) = some i := hi
    rw [ho] at hi
    have hi : bKap n so fo K R y = i := Option.some.inj hi
    rw [← hi]
    exact kP y (sbO_lt hE (by omega) ho)
/-- the two searches agree -/
theorem ct_eq (hn1 : n1 ≤ 15) (hn2 : n2 ≤ 15) (f1 : fdOk n1 so1 fo1 K1 R1 P1 la1) (f2 : fdOk n2 so2 fo2 K2 R2 P2 la2) {h8 h9 : am_H} {cap : Nat} {q : Nat → Nat} {b : Bool} (t : TR8 P1 P2 (bMx n1 so1 fo1 K1 R1 la1) (bMx n2 so2 fo2 K2 R2 la2) (bMe n1 so1 fo1 K1 la1) (bMe n2 so2 fo2 K2 la2) h8 cap q b) {N : Nat} {pw : Nat → List Nat} {pf pa : Nat → Nat} (s : SF n1 n2 so1 so2 fo1 fo2 h9 N pw pf pa) :
    (b = false ∧ am_I h9 51 37 = Int32.ofInt (-1)) ∨ (b = true ∧ ∃ k w, k < N ∧ am_I h9 51 37 = nI k ∧ pw k = w ∧ (∀ a, a ∈ w → a < 24) ∧ ∃ N' pw' pf' pa' f, TF P1 P2 (bMx n1 so1 fo1 K1 R1 la1) (bMx n2 so2 fo2 K2 R2 la2) (bMe n1 so1 fo1 K1 la1) (bMe n2 so2 fo2 K2 la2) h8 cap q N' pw' pf' pa' f ∧ pw' f = w) := by
  have hd := nD_b hn1 hn2 f1 f2
  obtain ⟨_, _, s3⟩ := s
  obtain ⟨N', pw', pf', pa', t⟩ := t
  rcases t with ⟨b0, _, hno⟩ | ⟨b1, f, tf⟩
  · left
    refine ⟨b0, ?_⟩
    rcases s3 with ⟨h, _⟩ | ⟨k, _, _, hw⟩
    · exact h
    · exact absurd ((hd _ hw.1).mpr hw.2.1) (hno _ hw.1)
  · right
    refine ⟨b1, ?_⟩
    have wf := wFirst_c hd tf.2.2.2.2.2.2
    rcases s3 with ⟨_, hno⟩ | ⟨k, hk, h37, hw⟩
    · exact absurd wf.2.1 (hno _ wf.1)
    · exact ⟨k, pw k, hk, h37, rfl, hw.1, N', pw', pf', pa', f, tf, wFirst_u wf hw⟩
end
