/-! ===== the class marks the states that can still come to an end ===== -/
theorem LK_H {h h' : am_H} {o cap qs qn m n : Nat} {es et : Nat → Nat} (ho : o = 37 ∨ o = 37) (L : LK h o cap qs qn m n es et) (f : frH o h h') : LK h' o cap qs qn m n es et := by
  obtain ⟨g, l12, lmc, lr, lc⟩ := L
  have g0 := g
  obtain ⟨-, ⟨ne, ls, ln, h98⟩, os, on, -, -⟩ := g0
  obtain ⟨⟨f1, f2, f3, f4⟩, f5⟩ := f
  exact ⟨by unfold GR; rw [f1, f2, f3]; exact g, by rw [f5 o (by omega) (by omega)]; exact l12, lmc, by rw [f5 qs (by omega) (by omega), f5 qn (by omega) (by omega)]; exact lr, by rw [f5 (o + 9) (by omega) (by omega)]; exact lc⟩
theorem m1_lt : Int32.ofInt (-1) < (0 : Int32) := by decide
theorem mf_2 {o cap qs qn m n q i : Nat} {es et : Nat → Nat} (ho : o = 37 ∨ o = 37) (hn : n ≤ 2000) (hm : m ≤ 360000) {mk : Nat → Int32} (hmk : ∀ j, (mk j &&& Int32.ofInt 32 = 0) ∧ ¬ (mk j ||| Int32.ofInt 32) &&& Int32.ofInt 32 = 0) (rg : ∀ j, j < m → es j < n ∧ et j < n) {D : Nat → Bool} (hi : hope D es et m i) :
    ∀ (c : Nat) (h : am_H) (X : Nat → Bool) (w : Nat) (qf : Nat → Nat) (hops F : Nat), hops + c ≤ m → LK h o cap qs qn m n es et → MF h o n mk X w qf → (∀ j, c ≤ j → j < m → et j = i → X (es j) = true) → (∀ j, X j = true → hope D es et m j) →
    ∃ F' h' X' w' qf', F ≤ F' ∧ g_X6_markForever (F + c + 1) 2 o (nI w) (nI q) (nI hops) (lkI et i c) h = g_X6_markForever F' 1 o (nI w') (nI (q + 1)) 0 0 h' ∧ LK h' o cap qs qn m n es et ∧ MF h' o n mk X' w' qf' ∧ frH o h h' ∧ (∀ j, X j = true → X' j = true) ∧ w ≤ w' ∧ (∀ p, p < w → qf' p = qf p) ∧ (∀ j, j < m → et j = i → X' (es j) = true) ∧ (∀ j, X' j = true → hope D es et m j) := by
  intro c
  induction c with
  | zero =>
    intro h X w qf hops F hc L M cl so
    refine ⟨F, h, X, w, qf, Nat.le_refl _, ?_, L, M, frH_r _ _, fun _ a => a, Nat.le_refl _, fun _ _ => rfl, fun j hj e => cl j (Nat.zero_le _) hj e, so⟩
    rw [show F + 0 + 1 = F + 1 from rfl, g_X6_markForever, q20, cond_false, q21, cond_false, show lkI et i 0 = Int32.ofInt (-1) from rfl, if_pos m1_lt, hp_1]
  | succ c ih =>
    intro h X w qf hops F hc L M cl so
    by_cases ce : et c = i
    · have el : lkI et i (c + 1) = nI c := if_pos ce
      have L0 := L
      obtain ⟨g, l12, lmc, lr, lc⟩ := L
      obtain ⟨⟨a13, a14, ks, kn⟩, ⟨ne, ls, ln, h98⟩, os, on, c1, c2⟩ := g
      obtain ⟨r1, r2⟩ := lr c (by omega)
      obtain ⟨g1, g2⟩ := rg c (by omega)
      have vc : am_vp (nI c) cap = true := hp_vp (by omega) (by omega)
      have cc : Int32.toNatClampNeg (nI c) = c := nI_clamp (by omega)
      have ve : am_vp (nI (es c)) 2000 = true := hp_vp (by omega) (by decide)
      have cE : Int32.toNatClampNeg (nI (es c)) = es c := nI_clamp (by omega)
      have hop : ¬ am_I h o 12 ≤ nI hops := by rw [l12]; exact nI_ge (by omega) (by omega)
      have w2 : w ≤ n := pig_le (fun p hp => (M.2.1 p hp).2.1) M.2.2.1
      -- the state behind the link is marked, or was
      have stp : ∃ h1 X1 w1 qf1, (if (am_I h (o + 4) (es c) &&& (Int32.ofInt 32)) = 0 then bif am_vp (nI w) 2000 then (some ((nI w + Int32.ofInt 1), (am_sI (am_sI h (o + 4) (es c) (am_I h (o + 4) (es c) ||| (Int32.ofInt 32))) (o + 8) (Int32.toNatClampNeg (nI w)) (nI (es c))))) else none else some (nI w, h)) = some (nI w1, h1) ∧ LK h1 o cap qs qn m n es et ∧ MF h1 o n mk X1 w1 qf1 ∧ frH o h h1 ∧ (∀ j, X j = true → X1 j = true) ∧ w ≤ w1 ∧ (∀ p, p < w → qf1 p = qf p) ∧ X1 (es c) = true ∧ (∀ j, X1 j = true → hope D es et m j) := by
        have e4 := M.1 (es c) g1
        cases hX : X (es c) with
        | true =>
          refine ⟨h, X, w, qf, ?_, L0, M, frH_r _ _, fun _ a => a, Nat.le_refl _, fun _ _ => rfl, hX, so⟩
          rw [e4]; unfold mkX; rw [hX, cond_true, if_neg (hmk (es c)).2]
        | false =>
          have wn := mf_lt M g1 hX
          have e4' : am_I h (o + 4) (es c) = mk (es c) := by rw [e4]; unfold mkX; rw [hX]; rfl
          refine ⟨mfHeap h o mk w (es c), updT X (es c), w + 1, updN qf w (es c), ?_, LK_H ho L0 (mf_fr _ _ _ _ _), mf_add M g1 hX, mf_fr _ _ _ _ _, fun j a => updT_le a, by omega, fun p hp => updN_ne (by omega), updT_at _ _, fun j a => ?_⟩
          · rw [e4', if_pos (hmk (es c)).1, hp_vp (show w < 2000 by omega) (by decide), cond_true, nI_clamp (show w < 2 ^ 31 by omega), hp_1]; rfl
          · rcases updT_or a with b | b
            · rw [b]; exact hope_s (show c < m by omega) (by rw [ce]; exact hi)
            · exact so j b
      obtain ⟨h1, X1, w1, qf1, e1, L1, M1, f1, s1, w1', q1, x1, so1⟩ := stp
      have L1' := L1
      obtain ⟨g', l12', lmc', lr', lc'⟩ := L1'
      obtain ⟨⟨a13', a14', ks', kn'⟩, -⟩ := g'
      obtain ⟨F', h', X', w', qf', hF', e2, L2, M2, f2, s2, w2', q2, x2, so2⟩ := ih h1 X1 w1 qf1 (hops + 1) F (by omega) L1 M1 (fun j hj jm e => by
        by_cases cj : j = c
        · rw [cj]; exact x1
        · exact s1 _ (cl j (by omega) jm e)) so1
      refine ⟨F', h', X', w', qf', hF', ?_, L2, M2, frH_t f1 f2, fun j a => s2 j (s1 j a), by omega, fun p hp => (q2 p (by omega)).trans (q1 p hp), x2, so2⟩
      rw [el, show F + (c + 1) + 1 = (F + c + 1) + 1 from rfl, g_X6_markForever, q20, cond_false, q21, cond_false, if_neg (nI_nneg (show c < 2 ^ 31 by omega)), if_neg hop, a13, b_some, hp_ln ks, b_some, vc, cond_true, cc, r1, ve, cond_true, cE, e1, b2s, a14', b_some, hp_ln kn', b_some, vc, cond_true, (lr' c (by omega)).2, ce, hp_1]
      exact e2
    · have el : lkI et i (c + 1) = lkI et i c := if_neg ce
      obtain ⟨F', h', X', w', qf', hF', e2, rest⟩ := ih h X w qf hops (F + 1) (by omega) L M (fun j hj jm e => by
        by_cases cj : j = c
        · rw [cj] at e; exact absurd e ce
        · exact cl j (by omega) jm e) so
      refine ⟨F', h', X', w', qf', by omega, ?_, rest⟩
      rw [el, show F + (c + 1) + 1 = F + 1 + c + 1 from by omega]
      exact e2
theorem mf_1 {o cap qs qn m n : Nat} {es et : Nat → Nat} (ho : o = 37 ∨ o = 37) (hn : n ≤ 2000) (hm : m ≤ 360000) {mk : Nat → Int32} (hmk : ∀ j, (mk j &&& Int32.ofInt 32 = 0) ∧ ¬ (mk j ||| Int32.ofInt 32) &&& Int32.ofInt 32 = 0) (rg : ∀ j, j < m → es j < n ∧ et j < n) {D : Nat → Bool} :
    ∀ (d q : Nat) (h : am_H) (X : Nat → Bool) (w : Nat) (qf : Nat → Nat) (F : Nat), q + d = n → q ≤ w → LK h o cap qs qn m n es et → MF h o n mk X w qf → (∀ p, p < q → ∀ j, j < m → et j = qf p → X (es j) = true) → (∀ j, X j = true → hope D es et m j) →
    ∃ h' X' w' qf', g_X6_markForever (F + (m + 2) * d + 1) 1 o (nI w) (nI q) 0 0 h = some ((), h') ∧ LK h' o cap qs qn m n es et ∧ MF h' o n mk X' w' qf' ∧ frH o h h' ∧ (∀ j, X j = true → X' j = true) ∧ (∀ j, j < m → X' (et j) = true → X' (es j) = true) ∧ (∀ j, X' j = true → hope D es et m j) := by
  intro d
  induction d with
  | zero =>
    intro q h X w qf F hq qw L M cl so
    have w2 : w ≤ n := pig_le (fun p hp => (M.2.1 p hp).2.1) M.2.2.1
    refine ⟨h, X, w, qf, ?_, L, M, frH_r _ _, fun _ a => a, fun j hj a => ?_, so⟩
    · rw [show F + (m + 2) * 0 + 1 = F + 1 from rfl, g_X6_markForever, q10, cond_false, q11, cond_true, if_pos (nI_le (show w ≤ q by omega) (by omega))]
    · obtain ⟨p, hp, e⟩ := M.2.2.2 _ a
      exact cl p (by omega) j hj e.symm
  | succ d ih =>
    intro q h X w qf F hq qw L M cl so
    have w2 : w ≤ n := pig_le (fun p hp => (M.2.1 p hp).2.1) M.2.2.1
    by_cases c : w ≤ q
    · refine ⟨h, X, w, qf, ?_, L, M, frH_r _ _, fun _ a => a, fun j hj a => ?_, so⟩
      · rw [g_X6_markForever, q10, cond_false, q11, cond_true, if_pos (nI_le c (by omega))]
      · obtain ⟨p, hp, e⟩ := M.2.2.2 _ a
        exact cl p (by omega) j hj e.symm
    · obtain ⟨b1, b2, b3⟩ := M.2.1 q (by omega)
      obtain ⟨F', h1, X1, w1, qf1, hF', e1, L1, M1, f1, s1, w1', q1, x1, so1⟩ := mf_2 (q := q) (i := qf q) ho hn hm hmk rg (so _ b3) m h X w qf 0 (F + (m + 2) * d + 1) (by omega) L M (fun j a b => absurd b (by omega)) so
      have ex : F + (m + 2) * (d + 1) = F + (m + 2) * d + 1 + m + 1 := by rw [Nat.mul_succ]; omega
      obtain ⟨h2, X2, w2', qf2, e2, L2, M2, f2, s2, cl2, so2⟩ := ih (q + 1) h1 X1 w1 qf1 (F' - (m + 2) * d - 1) (by omega) (by omega) L1 M1 (fun p hp j hj e => by
        by_cases cp : p = q
        · rw [cp, q1 q (by omega)] at e; exact x1 j hj e
        · rw [q1 p (by omega)] at e; exact s1 _ (cl p (by omega) j hj e)) so1
      rw [show F' - (m + 2) * d - 1 + (m + 2) * d + 1 = F' from by omega] at e2
      refine ⟨h2, X2, w2', qf2, ?_, L2, M2, frH_t f1 f2, fun j a => s2 j (s1 j a), cl2, so2⟩
      rw [g_X6_markForever, q10, cond_false, q11, cond_true, if_neg (nI_ge (show q < w by omega) (by omega)), if_neg (show ¬ Int32.ofInt 2000 ≤ nI q from nI_ge (a := q) (b := 2000) (by omega) (by decide)), hp_vp (show q < 2000 by omega) (by decide), cond_true, nI_clamp (show q < 2 ^ 31 by omega), b1, hp_vp (show qf q < 2000 by omega) (by decide), cond_true, nI_clamp (show qf q < 2 ^ 31 by omega), L.2.2.2.2 _ b2, ex]
      exact e1.trans e2
theorem mf_0 {o cap qs qn m n : Nat} {es et : Nat → Nat} (ho : o = 37 ∨ o = 37) (hn : n ≤ 2000) {mk : Nat → Int32} {D : Nat → Bool} (hD : ∀ j, j < n → ((mk j &&& Int32.ofInt 16 = 0) ↔ D j = false)) (G : Nat) :
    ∀ (d k : Nat) (h : am_H) (X : Nat → Bool) (w : Nat) (qf : Nat → Nat), k + d = n → am_I h o 0 = nI n → LK h o cap qs qn m n es et → MF h o n mk X w qf → (∀ j, X j = true ↔ j < k ∧ D j = true) →
    ∃ h' X' w' qf', g_X6_markForever (G + d + 1) 0 o (nI w) (nI k) 0 0 h = g_X6_markForever G 1 o (nI w') (nI 0) 0 0 h' ∧ LK h' o cap qs qn m n es et ∧ MF h' o n mk X' w' qf' ∧ frH o h h' ∧ (∀ j, X' j = true ↔ j < n ∧ D j = true) := by
  intro d
  induction d with
  | zero =>
    intro k h X w qf hk h0 L M hX
    have : k = n := by omega
    subst this
    refine ⟨h, X, w, qf, ?_, L, M, frH_r _ _, hX⟩
    rw [show G + 0 + 1 = G + 1 from rfl, g_X6_markForever, q00, cond_true, h0, if_pos (Int32.le_refl _)]; rfl
  | succ d ih =>
    intro k h X w qf hk h0 L M hX
    have kn : k < n := by omega
    have Xk : X k = false := by
      cases q : X k with
      | false => rfl
      | true => exact absurd ((hX k).mp q).1 (by omega)
    have e4 : am_I h (o + 4) k = mk k := by rw [M.1 k kn]; unfold mkX; rw [Xk]; rfl
    have ck : Int32.toNatClampNeg (nI k) = k := nI_clamp (by omega)
    have hd : g_X6_markForever (G + (d + 1) + 1) 0 o (nI w) (nI k) 0 0 h = am_b2 ((if (mk k &&& (Int32.ofInt 16)) = 0 then some (nI w, h) else bif am_vp (nI w) 2000 then (some ((nI w + Int32.ofInt 1), (am_sI (am_sI h (o + 4) k (mk k ||| (Int32.ofInt 32))) (o + 8) (Int32.toNatClampNeg (nI w)) (nI k)))) else none)) fun y3 h4 => (g_X6_markForever (G + d + 1) 0 o y3 (nI (k + 1)) 0 0 h4) := by
      rw [show G + (d + 1) + 1 = (G + d + 1) + 1 from rfl, g_X6_markForever, q00, cond_true, h0, if_neg (nI_ge kn (by omega)), hp_vp (show k < 2000 by omega) (by decide), cond_true, ck, e4, hp_1 k]
    rw [hd]
    cases hDk : D k with
    | false =>
      rw [if_pos ((hD k kn).mpr hDk), b2s]
      exact ih (k + 1) h X w qf (by omega) h0 L M (fun j => by
        rw [hX j]
        constructor
        · intro ⟨a, b⟩; exact ⟨by omega, b⟩
        · intro ⟨a, b⟩
          by_cases c : j = k
          · rw [c, hDk] at b; cases b
          · exact ⟨by omega, b⟩)
    | true =>
      have ne : ¬ mk k &&& Int32.ofInt 16 = 0 := fun q => by rw [(hD k kn).mp q] at hDk; cases hDk
      have wn := mf_lt M kn Xk
      rw [if_neg ne, hp_vp (show w < 2000 by omega) (by decide), cond_true, nI_clamp (show w < 2 ^ 31 by omega), hp_1, b2s]
      have f1 := mf_fr h o mk w k
      obtain ⟨h', X', w', qf', e, r1, r2, r3, r4⟩ := ih (k + 1) (mfHeap h o mk w k) (updT X k) (w + 1) (updN qf w k) (by omega) (by rw [f1.2 o (by omega) (by omega)]; exact h0) (LK_H ho L f1) (mf_add M kn Xk) (fun j => by
        constructor
        · intro a
          rcases updT_or a with b | b
          · rw [b]; exact ⟨by omega, hDk⟩
          · have := (hX j).mp b; exact ⟨by omega, this.2⟩
        · intro ⟨a, b⟩
          by_cases c : j = k
          · rw [c]; exact updT_at _ _
          · exact updT_le ((hX j).mpr ⟨by omega, b⟩))
      exact ⟨h', X', w', qf', e, r1, r2, frH_t f1 r3, r4⟩
