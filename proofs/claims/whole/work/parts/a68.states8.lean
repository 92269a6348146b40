/-! ===== the class goes through all states: the loop over the states ===== -/
theorem mt8_l {r : TR} (hr : r.ok) (h0 : r.sk s00) (hfv : r.fv) {sd : Nat → Bool} {o : Nat} (ho : o = 37 ∨ o = 37) (a2 : Int32) : ∀ (d k : Nat) (h : am_H) (F cap qs qn : Nat), 4200 ≤ F → k + d = 2000 → (svRow r k).sp = false → k ≤ (svRow r k).n → Q8 h o cap qs qn r (svRow r k) → T8 h r → S8 h sd → (∀ i, i < k → am_I h (o + 4) i = tMark r sd ((svRow r k).s i)) → (¬ a2 = 0 → ∀ i, i < k → ¬ tBad r sd ((svRow r k).s i)) →
    ∃ h' cap' qs' qn' c z, frE o qs qn qs' qn' h h' ∧ cap ≤ cap' ∧ 2048 * c ≤ cap' - cap ∧ z ≤ 4 * (cap' - cap) ∧
      ((∃ F', F ≤ F' ∧ (svAll r).sp = false ∧ g_X6_explore (F + 93 * d + 1) 0 o a2 (nI k) 0 0 h = am_cost c z (am_b2 (f_X6_markForever F' o h') fun _ h3 => g_X6_explore F' 2 o a2 (Int32.ofInt 0) 0 0 h3) ∧ Q8 h' o cap' qs' qn' r (svAll r) ∧ (∀ i, i < (svAll r).n → am_I h' (o + 4) i = tMark r sd ((svAll r).s i)) ∧ (¬ a2 = 0 → ∀ i, i < (svAll r).n → ¬ tBad r sd ((svAll r).s i)) ∧ am_I h' (o + 1) = am_I h (o + 1) ∧ am_I h' (o + 2) = am_I h (o + 2)) ∨
       ((svAll r).sp = true ∧ g_X6_explore (F + 93 * d + 1) 0 o a2 (nI k) 0 0 h = some (((), h'), c, z) ∧ GR h' o cap' qs' qn' ∧ am_I h' o 1 = nI 1) ∨
       (¬ a2 = 0 ∧ (∃ i, i < (svAll r).n ∧ tBad r sd ((svAll r).s i)) ∧ g_X6_explore (F + 93 * d + 1) 0 o a2 (nI k) 0 0 h = some (((), h'), c, z) ∧ GR h' o cap' qs' qn' ∧ am_I h' o 1 = nI 0 ∧ am_I h' o 4 = nI 1)) := by
  intro d
  induction d with
  | zero =>
    intro k h F cap qs qn hF hk sp kn q t s8 hm hb
    have ok := svRow_ok hr h0 k
    have : k = 2000 := by omega
    subst this
    have n2 : (svRow r 2000).n = 2000 := by have := ok.1.2; omega
    refine ⟨h, cap, qs, qn, 0, 0, frE_r _ _ _ _, Nat.le_refl _, Nat.zero_le _, Nat.zero_le _, Or.inl ⟨F, Nat.le_refl _, sp, ?_, q, fun i hi => hm i (by unfold svAll at hi; omega), fun a i hi => hb a i (by unfold svAll at hi; omega), rfl, rfl⟩⟩
    rw [cst_0, show F + 93 * 0 + 1 = F + 1 from rfl, g_X6_explore, q00, cond_true, if_pos (by rw [q.1.choose_spec.1, n2]; exact Int32.le_refl _)]
  | succ d ih =>
    intro k h F cap qs qn hF hk sp kn q t s8 hm hb
    have ok := svRow_ok hr h0 k
    by_cases c : (svRow r k).n ≤ k
    · have kn' : (svRow r k).n = k := by omega
      have eA : svAll r = svRow r k := by
        have := svRow_e (r := r) (Or.inr c) (d + 1)
        rw [hk] at this
        exact this
      refine ⟨h, cap, qs, qn, 0, 0, frE_r _ _ _ _, Nat.le_refl _, Nat.zero_le _, Nat.zero_le _, Or.inl ⟨F + 93 * (d + 1), by omega, by rw [eA]; exact sp, ?_, by rw [eA]; exact q, fun i hi => by rw [eA] at hi ⊢; exact hm i (by omega), fun a i hi => by rw [eA] at hi ⊢; exact hb a i (by omega), rfl, rfl⟩⟩
      rw [cst_0, g_X6_explore, q00, cond_true, if_pos (by rw [q.1.choose_spec.1, kn']; exact Int32.le_refl _)]
    · have kl : k < (svRow r k).n := by omega
      have k2 : k < 2000 := by omega
      have n2 := ok.1.2
      have sk := ok.2.1 k kl
      obtain ⟨h2, e2, l2, f2, len⟩ := l8_list hr t sk (F + 93 * (d + 1)) (by omega)
      have g := q.2.1.1
      have fE2 : frE o qs qn qs qn h h2 := frE_T ho f2
      have t2 := T8_E ho g fE2 t
      have s2 := S8_E ho g fE2 s8
      have q2 := Q8_T ho q f2
      have e3 := mk_8 (F + 93 * (d + 1) - 19) hr t2 sk s2 (fun p hp => hfv p _ hp (sk.1 p hp)) len
      rw [show F + 93 * (d + 1) - 19 + 19 = F + 93 * (d + 1) from by omega] at e3
      have J2 : am_J h2 (o + 3) k = lL (r.N ((svRow r k).s k)) := by
        rw [f2.2.2.2.1 _ (by omega)]; exact (q.1.choose_spec.2.2.1 k kl).1
      have J0 : am_J h (o + 3) k = lL (r.N ((svRow r k).s k)) := (q.1.choose_spec.2.2.1 k kl).1
      have n0 : am_I h o 0 = nI (svRow r k).n := q.1.choose_spec.1
      have ck : Int32.toNatClampNeg (nI k) = k := nI_clamp (by omega)
      have q3 := Q8_4 ho q2 k (tMark r sd ((svRow r k).s k))
      have f3 : frE o qs qn qs qn h (am_sI h2 (o + 4) k (tMark r sd ((svRow r k).s k))) := frE_t fE2 (frE_s ho h2 (d := 4) (by decide) k _)
      have m3 : ∀ i, i < k + 1 → am_I (am_sI h2 (o + 4) k (tMark r sd ((svRow r k).s k))) (o + 4) i = tMark r sd ((svRow r k).s i) := by
        intro i hi
        rw [hp_I]
        by_cases c1 : i = k
        · rw [c1, upd_at]
        · rw [upd_ne c1, f2.2.2.2.2.1 _ (by omega) (by omega)]; exact hm i (by omega)
      have st : ∀ X, (if a2 = 0 then g_X6_explore (F + 93 * (d + 1)) 1 o a2 (nI k) (nI (ts_all r ((svRow r k).s k)).length) (Int32.ofInt 0) (am_sI h2 (o + 4) k (tMark r sd ((svRow r k).s k))) else (if (am_I (am_sI h2 (o + 4) k (tMark r sd ((svRow r k).s k))) (o + 4) k &&& (Int32.ofInt 7)) = 0 then g_X6_explore (F + 93 * (d + 1)) 1 o a2 (nI k) (nI (ts_all r ((svRow r k).s k)).length) (Int32.ofInt 0) (am_sI h2 (o + 4) k (tMark r sd ((svRow r k).s k))) else some (((), (am_sI (am_sI h2 (o + 4) k (tMark r sd ((svRow r k).s k))) o 4 (Int32.ofInt 1))), 0, 0))) = X → g_X6_explore (F + 93 * (d + 1) + 1) 0 o a2 (nI k) 0 0 h = X := by
        intro X hX
        rw [g_X6_explore, q00, cond_true, if_neg (show ¬ am_I h o 0 ≤ nI k by rw [n0]; exact nI_ge (by omega) (by omega)), if_neg (show ¬ Int32.ofInt 2000 ≤ nI k from nI_ge (a := k) (b := 2000) k2 (by decide)), hp_vp k2 (by decide), cond_true, ck, J0, e2, b2s, J2, e3, b2s]
        exact hX
      rw [m3 k (by omega)] at st
      by_cases cb : ¬ a2 = 0 ∧ tBad r sd ((svRow r k).s k)
      · refine ⟨am_sI (am_sI h2 (o + 4) k (tMark r sd ((svRow r k).s k))) o 4 (Int32.ofInt 1), cap, qs, qn, 0, 0, frE_t f3 (frE_s ho _ (d := 0) (by decide) 4 _), Nat.le_refl _, Nat.zero_le _, Nat.zero_le _, Or.inr (Or.inr ⟨cb.1, ⟨k, ?_, ?_⟩, st _ ?_, q3.2.1.1, ?_, ?_⟩)⟩
        · have := (svRow_mono hr h0 k (d + 1)).1
          rw [hk] at this
          unfold svAll; omega
        · have := (svRow_mono hr h0 k (d + 1)).2 k kl
          rw [hk] at this
          unfold svAll; rw [this]; exact cb.2
        · rw [if_neg cb.1, if_neg cb.2]
        · rw [hp_I, upd_ne (by decide)]; exact q3.2.2.1
        · rw [hp_I, upd_at]; rfl
      · have st2 : ∀ X, g_X6_explore (F + 93 * (d + 1)) 1 o a2 (nI k) (nI (ts_all r ((svRow r k).s k)).length) (nI 0) (am_sI h2 (o + 4) k (tMark r sd ((svRow r k).s k))) = X → g_X6_explore (F + 93 * (d + 1) + 1) 0 o a2 (nI k) 0 0 h = X := by
          intro X hX
          apply st
          by_cases a0 : a2 = 0
          · rw [if_pos a0]; exact hX
          · have nb : tMark r sd ((svRow r k).s k) &&& Int32.ofInt 7 = 0 := Classical.byContradiction (fun q => cb ⟨a0, q⟩)
            rw [if_neg a0, if_pos nb]; exact hX
        have hb' : ¬ a2 = 0 → ∀ i, i < k + 1 → ¬ tBad r sd ((svRow r k).s i) := by
          intro a0 i hi
          by_cases c1 : i = k
          · rw [c1]; exact fun q => cb ⟨a0, q⟩
          · exact hb a0 i (by omega)
        have mm := svRow_m r k sp
        have l3 : L8 (am_sI h2 (o + 4) k (tMark r sd ((svRow r k).s k))) r (ts_all r ((svRow r k).s k)) := L8_E l2 (by rw [hp_I' _ _ _ (by omega)]) (hp_I' _ _ _ (by omega)) rfl
        have ml := ml_8 hr ho (k := k) (ts_all r ((svRow r k).s k)) len (fun x hx => ts_sk hr sk hx) a2 (F + 93 * d + 92 - (ts_all r ((svRow r k).s k)).length) (by omega) (ts_all r ((svRow r k).s k)) 0 (svRow r k) _ cap qs qn rfl (by omega) ok sp q3 kl l3 (by omega)
        rw [show F + 93 * d + 92 - (ts_all r ((svRow r k).s k)).length + (ts_all r ((svRow r k).s k)).length + 1 = F + 93 * (d + 1) from by omega, ← svRow_s sp kl] at ml
        rcases ml with ⟨F', h4, cap4, qs4, qn4, c4, z4, hF', sp4, e4, q4, f4, m4, u1, u2, u3⟩ | ⟨h4, cap4, qs4, qn4, c4, z4, sp4, e4, g4, f4, i1, i4, u1, u2, u3⟩
        · have mono := svRow_mono1 hr h0 k
          have kn4 : k + 1 ≤ (svRow r (k + 1)).n := by have := mono.1; omega
          have fE := frE_t f3 f4
          obtain ⟨h5, cap5, qs5, qn5, c5, z5, f5, v1, v2, v3, alt⟩ := ih (k + 1) h4 (F' - 93 * d - 1) cap4 qs4 qn4 (by omega) (by omega) sp4 kn4 q4 (T8_E ho g fE t) (S8_E ho g fE s8) (fun i hi => by rw [m4.1, m3 i hi, mono.2 i (by omega)]) (fun a0 i hi => by rw [mono.2 i (by omega)]; exact hb' a0 i hi)
          rw [show F' - 93 * d - 1 + 93 * d + 1 = F' from by omega] at alt
          refine ⟨h5, cap5, qs5, qn5, c4 + c5, z4 + z5, frE_t fE f5, by omega, by omega, by omega, ?_⟩
          rcases alt with ⟨F5, hF5, sp5, e5, q5, m5, b5, r1, r2⟩ | ⟨sp5, e5, g5, i5⟩ | ⟨a5, b5, e5, g5, i51, i54⟩
          · exact Or.inl ⟨F5, by omega, sp5, st2 _ (by rw [e4, e5, cst_cst]), q5, m5, b5, by rw [r1, m4.2.1, hp_I' _ _ _ (by omega), f2.2.2.2.2.1 _ (by omega) (by omega)], by rw [r2, m4.2.2, hp_I' _ _ _ (by omega), f2.2.2.2.2.1 _ (by omega) (by omega)]⟩
          · exact Or.inr (Or.inl ⟨sp5, st2 _ (by rw [e4, e5, cts]), g5, i5⟩)
          · exact Or.inr (Or.inr ⟨a5, b5, st2 _ (by rw [e4, e5, cts]), g5, i51, i54⟩)
        · have eA : svAll r = svRow r (k + 1) := by
            have := svRow_e (r := r) (Or.inl sp4) d
            rw [show k + 1 + d = 2000 from by omega] at this
            exact this
          exact ⟨h4, cap4, qs4, qn4, c4, z4, frE_t f3 f4, u1, u2, u3, Or.inr (Or.inl ⟨by rw [eA]; exact sp4, st2 _ e4, g4, i1⟩)⟩
