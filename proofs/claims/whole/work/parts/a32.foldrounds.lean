theorem frF_e {h H : am_H} (e : ext h H) (q : Nat → Nat) (h12 : 12 < h.1) : frF q q h H := ⟨e.1, fun o ho => ⟨(e.2 o ho).1, (e.2 o ho).2.2.1⟩, fun o ho _ => (e.2 o ho).2.2.2, fun o ho _ _ _ => (e.2 o ho).2.1, fun k _ => by rw [(e.2 12 h12).2.2.2], fun k k1 k5 => Or.inr ⟨k, k1, k5, rfl⟩⟩
theorem sh_0 : ∀ i, i < 16 → (Int32.ofInt 0) <<< (nI i &&& 31) = Int32.ofInt 0 := by decide
theorem bt_sh (b : Bool) {i : Nat} (hi : i < 16) (p : Nat) : bt (bI b <<< (nI i &&& 31)) p = true ↔ b = true ∧ p = i := by
  cases b with
  | true =>
    rw [show (bI true <<< (nI i &&& 31)) = gBit i from rfl, bt_B hi]
    exact ⟨fun h => ⟨rfl, h⟩, fun h => h.2⟩
  | false =>
    rw [show (bI false <<< (nI i &&& 31)) = Int32.ofInt 0 from sh_0 i hi, bt_0]
    exact ⟨(fun h => nomatch h), fun h => nomatch h.1⟩
/-- the ends of a book's places -/
theorem en8 {a qc qf n : Nat} {so : Nat → Nat} {fo : Nat → Nat → Prop} {h : am_H} (hb : B8 h a qc qf n so fo) (F : Nat) : ∀ (d i : Nat) (x : Int32), i + d = n + 1 → (∀ p, bt x p = true ↔ p < i ∧ fo p 0) →
    ∃ E, g_X2_fold (F + d + 1) 0 a x (nI i) 0 h = g_X2_fold F 1 a E (nI 0) 0 h ∧ ∀ p, bt E p = true ↔ p ≤ n ∧ fo p 0 := by
  obtain ⟨b1, b2, b3, b4, b5, b6, ⟨lf, c1, c2, c3⟩, b8, b9⟩ := hb
  intro d
  induction d with
  | zero =>
    intro i x hi hx
    refine ⟨x, ?_, fun p => (hx p).trans ⟨fun h => ⟨by omega, h.2⟩, fun h => ⟨by omega, h.2⟩⟩⟩
    rw [show F + 0 + 1 = F + 1 from rfl, g_X2_fold]
    simp only [show Nat.beq 0 0 = true from rfl, cond_true]
    rw [hp_isO b1, cond_true, b2, if_pos (by rw [nI_ltI (by omega) (by omega)]; omega)]
    rfl
  | succ d ih =>
    intro i x hi hx
    have vi : am_vp (nI i) lf = true := hp_vp (by omega) (by omega)
    have ci : Int32.toNatClampNeg (nI i) = i := nI_clamp (by omega)
    obtain ⟨E, st, hE⟩ := ih (i + 1) (x ||| ((am_I h qf i &&& Int32.ofInt 1) <<< (nI i &&& 31))) (by omega) (by
      intro p
      rw [bt_or, or_t, hx p, bt_and1, bt_sh _ (by omega), b9 i (by omega) 0]
      constructor
      · rintro (⟨u, v⟩ | ⟨u, rfl⟩)
        · exact ⟨by omega, v⟩
        · exact ⟨by omega, u⟩
      · rintro ⟨u, v⟩
        by_cases e : p = i
        · exact Or.inr ⟨by rw [← e]; exact v, e⟩
        · exact Or.inl ⟨by omega, v⟩)
    refine ⟨E, ?_, hE⟩
    rw [show F + (d + 1) + 1 = (F + d + 1) + 1 from rfl, g_X2_fold]
    simp only [show Nat.beq 0 0 = true from rfl, cond_true]
    rw [hp_isO b1, cond_true, b2, if_neg (by rw [nI_ltI (by omega) (by omega)]; omega), b5, b_some, hp_ln c3, b_some, vi, cond_true, ci, hp_1]
    exact st
theorem and_0 {x y : Int32} : x &&& y = 0 ↔ ∀ p, ¬ (bt x p = true ∧ bt y p = true) := by
  constructor
  · intro h p hp
    have := (bt_and x y p).mpr hp
    rw [h] at this
    rw [show (0 : Int32) = Int32.ofInt 0 from rfl, bt_0] at this
    cases this
  · intro h
    apply bt_ext
    intro p
    rw [bt_and, show (0 : Int32) = Int32.ofInt 0 from rfl, bt_0]
    exact ⟨fun hp => absurd hp (h p), fun hp => nomatch hp⟩
/-- the first kinds are laid -/
theorem kd8 {a : Nat} {h0 : am_H} {cap : Nat} {q : Nat → Nat} {N : Nat} {S : Nat → Nat} {E : Int32} {e : Nat → Bool} (hE : ∀ i, i < N → (nI (S i) &&& E = 0 ↔ e i = false)) : ∀ (d s : Nat) (h : am_H), s + d = N → FR h cap q → (N ≤ cap ∧ cap ≤ 8192) → am_I h 12 0 = nI N → (∀ i, i < N → am_I h (q 1) i = nI (S i)) → (∀ i, i < s → am_I h (q 3) i = nI (bif e i then 1 else 0)) →
    ∃ h', (∀ F, g_X2_fold (F + (d + 1)) 1 a E (nI s) 0 h = am_b2 (f_X2_refine F h') fun r2 h3 => g_X2_fold F 2 a E r2 (nI 0) h3) ∧ frF q q h h' ∧ am_I h' 12 = am_I h 12 ∧ am_I h' (q 1) = am_I h (q 1) ∧ am_I h' (q 2) = am_I h (q 2) ∧ FR h' cap q ∧ (∀ i, i < N → am_I h' (q 3) i = nI (bif e i then 1 else 0)) := by
  intro d
  induction d with
  | zero =>
    intro s h hs f hc h12 h1 h3
    have : s = N := by omega
    subst this
    refine ⟨h, ?_, frF_r q h, rfl, rfl, rfl, f, h3⟩
    intro F
    rw [show F + (0 + 1) = F + 1 from rfl, g_X2_fold]
    simp only [show Nat.beq 1 0 = false from rfl, show Nat.beq 1 1 = true from rfl, cond_false, cond_true]
    rw [h12, if_pos (Int32.le_refl _)]
    rfl
  | succ d ih =>
    intro s h hs f hc h12 h1 h3
    have f' := f
    obtain ⟨fr, inj, h98⟩ := f'
    obtain ⟨a3, l3, n3, m3, K3⟩ := fr 3 (by decide) (by decide)
    obtain ⟨a1, l1, n1, m1, K1⟩ := fr 1 (by decide) (by decide)
    have K3 : am_K h (q 3) = .inr (0, cap) := K3
    have K1 : am_K h (q 1) = .inr (0, cap) := K1
    have n13 : q 1 ≠ q 3 := fun e => by have := inj 1 3 (by decide) (by decide) (by decide) (by decide) e; omega
    have n23 : q 2 ≠ q 3 := fun e => by have := inj 2 3 (by decide) (by decide) (by decide) (by decide) e; omega
    have mm : ¬ nI N ≤ nI s := nI_ge (a := s) (b := N) (by omega) (by omega)
    have vs : am_vp (nI s) cap = true := hp_vp (by omega) (by omega)
    have cs : Int32.toNatClampNeg (nI s) = s := nI_clamp (by omega)
    have y : (if nI (S s) &&& E = 0 then some (Int32.ofInt 0) else some (Int32.ofInt 1)) = some (nI (bif e s then 1 else 0)) := by
      cases he : e s with
      | false => rw [if_pos ((hE s (by omega)).mpr he)]; rfl
      | true => rw [if_neg (fun h => by have := (hE s (by omega)).mp h; rw [he] at this; cases this)]; rfl
    have i12 : am_I (am_sI h (q 3) s (nI (bif e s then 1 else 0))) 12 = am_I h 12 := hp_I' _ _ _ (fun e => n3 e.symm)
    have i1 : am_I (am_sI h (q 3) s (nI (bif e s then 1 else 0))) (q 1) = am_I h (q 1) := hp_I' _ _ _ n13
    have i2 : am_I (am_sI h (q 3) s (nI (bif e s then 1 else 0))) (q 2) = am_I h (q 2) := hp_I' _ _ _ n23
    obtain ⟨h', st, f2, j12, j1, j2, fr2, j3⟩ := ih (s + 1) (am_sI h (q 3) s (nI (bif e s then 1 else 0))) (by omega) f hc (by rw [i12]; exact h12) (by rw [i1]; exact h1) (by
      intro i hi
      rw [hp_I]
      by_cases c : i = s
      · rw [c, upd_at]
      · rw [upd_ne c]; exact h3 i (by omega))
    refine ⟨h', ?_, frF_t (frF_s (by decide) (by decide) _ _) f2, j12.trans i12, j1.trans i1, j2.trans i2, fr2, j3⟩
    intro F
    rw [← Nat.add_assoc F (d + 1) 1, g_X2_fold]
    simp only [show Nat.beq 1 0 = false from rfl, show Nat.beq 1 1 = true from rfl, cond_false, cond_true]
    rw [h12, if_neg mm, a3, b_some, a1, b_some, hp_ln K1, b_some, vs, cond_true, cs, h1 s (by omega), y, b_some, hp_ln K3, b_some, vs, cond_true, hp_1]
    exact st F
/-- the rounds of the class -/
theorem rn8 {a : Nat} {O : Nat → Option Nat} {N : Nat} {κ : Nat → Nat} {R : Nat} (hRN : R ≤ N) (hR : (rfK O κ N (R + 1)).1 = (rfK O κ N R).1) (hno : ∀ r, r < R → (rfK O κ N (r + 1)).1 ≠ (rfK O κ N r).1) {E : Int32} {cap : Nat} : ∀ (d r : Nat) (h : am_H) (q : Nat → Nat), r + 1 + d = R → W8r O N (rfK O κ N (r + 1)).2 h cap q →
    ∃ (la : Nat → Nat) (h' : am_H) (q' : Nat → Nat), (∀ F, N * (N + 2) + 40 ≤ F → g_X2_fold (F + (d + 1)) 2 a E (nI (rfK O κ N (r + 1)).1) (nI r) h = am_bc (f_X2_folded F (nI (rfK O κ N (R + 1)).1) E h') fun r14 h15 => some ((r14, h15), 0, 0)) ∧ W8r O N (rfK O κ N (R + 1)).2 h' cap q' ∧ (∀ v, v < (rfK O κ N (R + 1)).1 → am_I h' (q' 5) v = nI (la v) ∧ la v < N ∧ (rfK O κ N (R + 1)).2 (la v) = v) ∧ frF q q' h h' ∧ q' 1 = q 1 ∧ am_I h' (q 1) = am_I h (q 1) := by
  intro d
  induction d with
  | zero =>
    intro r h q hr w
    have hr : r + 1 = R := by omega
    subst hr
    have w0 := w.2.1
    have b3 := w.2.2.1.2.2
    obtain ⟨la, h', e, w', l', f', i'⟩ := rf_8 w
    refine ⟨la, h', qsw q, ?_, w', l', f', rfl, i'⟩
    intro F hF
    have mm : ¬ nI N ≤ nI r := nI_ge (a := r) (b := N) (by omega) (by omega)
    rw [show F + (0 + 1) = F + 1 from rfl, g_X2_fold]
    simp only [show Nat.beq 2 0 = false from rfl, show Nat.beq 2 1 = false from rfl, cond_false]
    rw [w0, if_neg mm, e F hF, b2s, if_pos (by rw [show (rfS O (rfK O κ N (r + 1)).2 N).1 = (rfK O κ N (r + 1 + 1)).1 from rfl, hR]), hR]
  | succ d ih =>
    intro r h q hr w
    have w0 := w.2.1
    have b3 := w.2.2.1.2.2
    have l1 := rfK_le O κ N (r + 1)
    have l2 := rfK_le O κ N (r + 1 + 1)
    obtain ⟨la, h1, e, w1, l', f1, i1⟩ := rf_8 w
    obtain ⟨la2, h2, q2, st, w2, l2', f2, q12, i2⟩ := ih (r + 1) h1 (qsw q) (by omega) w1
    have q1 : qsw q 1 = q 1 := rfl
    refine ⟨la2, h2, q2, ?_, w2, l2', frF_t f1 f2, q12.trans q1, ?_⟩
    · intro F hF
      have mm : ¬ nI N ≤ nI r := nI_ge (a := r) (b := N) (by omega) (by omega)
      have ne : ¬ nI (rfK O κ N (r + 1 + 1)).1 = nI (rfK O κ N (r + 1)).1 := fun e => hno (r + 1) (by omega) ((nI_inj (by omega) (by omega)).mp e)
      rw [← Nat.add_assoc F (d + 1) 1, g_X2_fold]
      simp only [show Nat.beq 2 0 = false from rfl, show Nat.beq 2 1 = false from rfl, cond_false]
      rw [w0, if_neg mm, e (F + (d + 1)) (by omega), b2s, show (rfS O (rfK O κ N (r + 1)).2 N).1 = (rfK O κ N (r + 1 + 1)).1 from rfl, if_neg ne, hp_1]
      exact st F hF
    · rw [q1] at i2
      exact i2.trans i1
