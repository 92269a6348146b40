/-- the kinds at the end, of sets 0 .. K-1 -/
noncomputable def bKap (n : Nat) (so : Nat → Nat) (fo : Nat → Nat → Prop) (K R : Nat) : Nat → Nat := (rfK (sbO (bLd n so fo)) (fun i => bif bEn fo (sbV (bLd n so fo) (24 * K) i) then 1 else 0) K (R + 1)).2
/-- leads of the kinds -/
def fdOk (n : Nat) (so : Nat → Nat) (fo : Nat → Nat → Prop) (K R P : Nat) (la : Nat → Nat) : Prop := bFew n so fo K R P ∧ ∀ v, v < P → la v < K ∧ bKap n so fo K R (la v) = v
theorem fold_8 {h : am_H} {a qc qf n : Nat} {so : Nat → Nat} {fo : Nat → Nat → Prop} {cap : Nat} {q : Nat → Nat} (hb : B8 h a qc qf n so fo) (hso : ∀ i, so i < 24) {lb : Nat → Nat} {B σ : Nat} (hk : bOk n fo lb B σ) (fr : FR h cap q) (hc : 1 ≤ cap) (hc' : cap ≤ 8192) (K18 : am_K h 18 = .inr (0, 24)) (sa : sepF h q a) (sc : sepF h q qc) (sf : sepF h q qf) {F : Nat} (hF : 100000000000 ≤ F) :
    ∃ (K R P : Nat) (la : Nat → Nat) (m : Nat) (h' : am_H) (q' : Nat → Nat) (cap' c z : Nat), f_X2_fold F a h = some ((m + 2, h'), c, z) ∧ fdOk n so fo K R P la ∧ M8 h' (m + 2) (m + 1) m P (fdX (sbO (bLd n so fo)) (bKap n so fo K R) la) (fun v => bEn fo (sbV (bLd n so fo) (24 * K) (la v))) ∧ FR h' cap' q' ∧ frF q q' h h' ∧ h.1 ≤ m ∧ h'.1 = m + 3 ∧ (∀ o, m ≤ o → o < m + 3 → sepF h' q' o) ∧ cap ≤ cap' ∧ cap' ≤ 8192 ∧ c ≤ 5 * (cap' - cap) + 3 ∧ z = 56 * (cap' - cap) + (25 * P + 3) := by
  have n15 := hb.2.2.1
  obtain ⟨s1, s2⟩ := sb_book n15 hso hk
  obtain ⟨K, h1, q1, cap1, c1, z1, e1, kE, K4, G, f1, l1, b1, w1⟩ := gs_8 hb hso hk fr hc hc' K18 sa sc sf (F := F) (by omega)
  obtain ⟨fr1, g0, ⟨g1, g2, g3, g4, g5⟩, gS, gX⟩ := G
  have K1 : 1 ≤ K := by have := (sb_pos (bLd n so fo) (24 * K)).1; have := kE.1; omega
  obtain ⟨R, r1, r2, r3, r4⟩ := rfK_stop (sbO (bLd n so fo)) (fun i => bif bEn fo (sbV (bLd n so fo) (24 * K) i) then 1 else 0) K K1
  have hb1 := B8_fr hb f1 sa sc sf
  -- the ends
  obtain ⟨E, e2, hE⟩ := en8 hb1 (F - (n + 2)) (n + 1) 0 (Int32.ofInt 0) (by omega) (fun p => by rw [bt_0]; exact ⟨(fun h => nomatch h), fun h => by omega⟩)
  rw [show F - (n + 2) + (n + 1) + 1 = F from by omega] at e2
  have hEn : ∀ i, i < K → (nI (sbV (bLd n so fo) (24 * K) i) &&& E = 0 ↔ bEn fo (sbV (bLd n so fo) (24 * K) i) = false) := by
    intro i hi
    obtain ⟨_, w, ew⟩ := s1 (24 * K) i (by rw [kE.1]; exact hi)
    have bits : ∀ p, (sbV (bLd n so fo) (24 * K) i).testBit p = true → p ≤ n := by
      intro p hp
      rw [ew] at hp
      have hw := ((uMk_t _ p).mp hp).2
      cases w with
      | nil => have : p = 0 := hw; omega
      | cons c w => exact (bSet_rg hw).2.1
    rw [and_0]
    constructor
    · intro hno
      cases he : bEn fo (sbV (bLd n so fo) (24 * K) i) with
      | false => rfl
      | true =>
        obtain ⟨p, p16, hp, hf⟩ := uD_e he
        exact absurd ⟨by rw [bt_nI, decide_eq_true (by omega), Bool.true_and]; exact hp, (hE p).mpr ⟨bits p hp, hf⟩⟩ (hno p)
    · intro he p hp
      have h1 := hp.1
      rw [bt_nI, Bool.and_eq_true] at h1
      have h2 := (hE p).mp hp.2
      have : bEn fo (sbV (bLd n so fo) (24 * K) i) = true := uD_i ⟨p, by omega, h1.2, h2.2⟩
      rw [he] at this; cases this
  -- the first kinds
  obtain ⟨h2, e3, f2, i12, i1, i2, fr2, j3⟩ := kd8 (a := a) (h0 := h1) (E := E) (e := fun i => bEn fo (sbV (bLd n so fo) (24 * K) i)) hEn K 0 h1 (by omega) fr1 ⟨g1, g3⟩ g0 gS (fun i hi => by omega)
  have w2 : W8r (sbO (bLd n so fo)) K (fun i => bif bEn fo (sbV (bLd n so fo) (24 * K) i) then 1 else 0) h2 cap1 q1 := by
    refine ⟨fr2, by rw [i12]; exact g0, ⟨g1, g3, K4⟩, ?_, fun j hj i => sbO_lt kE hj, fun i hi => ⟨j3 i hi, ?_⟩⟩
    · intro j hj
      rw [i2, gX j hj, sbX_O]
    · show (bif bEn fo (sbV (bLd n so fo) (24 * K) i) then 1 else 0) < 2 ^ 31
      cases bEn fo (sbV (bLd n so fo) (24 * K) i)
      · exact (by decide : 0 < 2 ^ 31)
      · exact (by decide : 1 < 2 ^ 31)
  obtain ⟨la3, h3, e4, w3, l3, f3, i3⟩ := rf_8 w2
  obtain ⟨la, h4, q4, e5, w4, l4, f4, q41, i4⟩ := rn8 (a := a) r2 r3 r4 (E := E) (R - 1) 0 h3 (qsw q1) (by omega) w3
  have pK := rfK_le (sbO (bLd n so fo)) (fun i => bif bEn fo (sbV (bLd n so fo) (24 * K) i) then 1 else 0) K (R + 1)
  have S4 : ∀ i, i < K → am_I h4 (q4 1) i = nI (sbV (bLd n so fo) (24 * K) i) := by
    intro i hi
    rw [q41, i4, show qsw q1 1 = q1 1 from rfl, i3, i1]; exact gS i hi
  obtain ⟨h5, e6, m8, x5, n5⟩ := fd_8 w4 pK (fun v hv => (l4 v hv).2.1) (fun v hv => (l4 v hv).1) S4 (E := E) (en := fun v => bEn fo (sbV (bLd n so fo) (24 * K) (la v))) (fun v hv => hEn (la v) (l4 v hv).2.1) (F := F - (n + 2) - (K + 1) - R) (by omega)
  have h98 := w4.1.2.2
  have f5 := frF_e x5 q4 (by omega)
  have fr5 : FR h5 cap1 q4 := (W8_ext w4 x5).1
  have fA := frF_t f1 (frF_t f2 (frF_t f3 f4))
  refine ⟨K, R, (rfK (sbO (bLd n so fo)) (fun i => bif bEn fo (sbV (bLd n so fo) (24 * K) i) then 1 else 0) K (R + 1)).1, la, h4.1, h5, q4, cap1, c1 + 3, z1 + (25 * (rfK (sbO (bLd n so fo)) (fun i => bif bEn fo (sbV (bLd n so fo) (24 * K) i) then 1 else 0) K (R + 1)).1 + 3), ?_, ⟨⟨kE, ⟨K1, K4⟩, ⟨r1, r2⟩, r3, r4, rfl⟩, fun v hv => ⟨(l4 v hv).2.1, (l4 v hv).2.2⟩⟩, m8, fr5, frF_t fA f5, fA.1, n5, ?_, l1, g3, by omega, by omega⟩
  · have q0 : K * (K + 2) ≤ 4096 * 4098 := Nat.mul_le_mul K4 (by omega)
    unfold f_X2_fold
    rw [e1]
    show am_cost c1 z1 (g_X2_fold F 0 a (Int32.ofInt 0) (nI 0) 0 h1) = _
    rw [e2]
    have x3 := e3 (F - (n + 2) - (K + 1))
    rw [show F - (n + 2) - (K + 1) + (K + 1) = F - (n + 2) from by omega] at x3
    rw [x3, e4 _ (by omega), b2s]
    have x4 := e5 (F - (n + 2) - (K + 1) - R) (by omega)
    rw [show F - (n + 2) - (K + 1) - R + (R - 1 + 1) = F - (n + 2) - (K + 1) from by omega] at x4
    have x4 : g_X2_fold (F - (n + 2) - (K + 1)) 2 a E (nI (rfS (sbO (bLd n so fo)) (fun i => bif bEn fo (sbV (bLd n so fo) (24 * K) i) then 1 else 0) K).1) (nI 0) h3 = _ := x4
    rw [x4, e6]
    rfl
  · intro o o1 o2
    refine ⟨by omega, by omega, by omega, fun k k1 k5 e => ?_⟩
    have := (w4.1.1 k k1 k5).2.1
    omega
