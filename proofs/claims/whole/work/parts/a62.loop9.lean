/-! ===== the reference meets all states: the loop over the states ===== -/
theorem svRow_s {r : TR} {k : Nat} (hs : (svRow r k).sp = false) (hk : k < (svRow r k).n) : svRow r (k + 1) = svList k (svRow r k) (ts_all r ((svRow r k).s k)) := by
  show (if (svRow r k).sp = true then svRow r k else if k < (svRow r k).n then svList k (svRow r k) (ts_all r ((svRow r k).s k)) else svRow r k) = _
  rw [if_neg (by rw [hs]; decide), if_pos hk]
theorem svRow_e {r : TR} {k : Nat} (h : (svRow r k).sp = true ∨ (svRow r k).n ≤ k) : ∀ d, svRow r (k + d) = svRow r k
  | 0 => rfl
  | d + 1 => by
    have ih := svRow_e h d
    show (if (svRow r (k + d)).sp = true then svRow r (k + d) else if k + d < (svRow r (k + d)).n then svList (k + d) (svRow r (k + d)) (ts_all r ((svRow r (k + d)).s (k + d))) else svRow r (k + d)) = _
    rw [ih]
    by_cases c : (svRow r k).sp = true
    · rw [if_pos c]
    · rw [if_neg c, if_neg (by have := h.resolve_left c; omega)]
/-- all states of a talk -/
def svAll (r : TR) : SV := svRow r 2000
theorem ts_len (r : TR) (s : TS) : (ts_all r s).length ≤ 90 := by
  have k0 := off_len r s 0 15
  have k1 := off_len r s 1 15
  have k2 := off_len r s 2 15
  unfold ts_all; rw [List.length_append, List.length_append]; omega
theorem svList_m {k : Nat} : ∀ (L : List (Nat × TS)) (v : SV), v.sp = false → (svList k v L).sp = false → (svList k v L).m = v.m + L.length ∧ (∀ j, j < v.m → (svList k v L).et j = v.et j ∧ (svList k v L).es j = v.es j)
  | [], v, _, _ => ⟨rfl, fun _ _ => ⟨rfl, rfl⟩⟩
  | x :: L, v, h, h2 => by
    rw [svList_c] at h2 ⊢
    cases c : (svStep k v x).sp with
    | true => rw [svList_sp L _ c, c] at h2; cases h2
    | false =>
      obtain ⟨a1, a2⟩ := svStep_m h c
      obtain ⟨b1, b2⟩ := svList_m L _ c h2
      refine ⟨by rw [b1, a1, List.length_cons]; omega, fun j hj => ?_⟩
      obtain ⟨c1, c2⟩ := b2 j (by omega)
      obtain ⟨d1, d2⟩ := a2 j hj
      exact ⟨c1.trans d1, c2.trans d2⟩
theorem svRow_m (r : TR) : ∀ k, (svRow r k).sp = false → (svRow r k).m ≤ 90 * k
  | 0, _ => Nat.le_refl _
  | k + 1, h => by
    by_cases c : (svRow r k).sp = true ∨ (svRow r k).n ≤ k
    · have e := svRow_e c 1
      rw [e] at h ⊢
      have := svRow_m r k h
      omega
    · have c1 : (svRow r k).sp = false := by cases q : (svRow r k).sp with
        | true => exact absurd (Or.inl q) c
        | false => rfl
      have c2 : k < (svRow r k).n := by
        have := fun q => c (Or.inr q)
        omega
      rw [svRow_s c1 c2] at h ⊢
      have := (svList_m _ _ c1 h).1
      have := svRow_m r k c1
      have := ts_len r ((svRow r k).s k)
      omega
theorem mt_9 {r : TR} (hr : r.ok) (h0 : r.sk s00) {sn : TS} (hn : r.sk sn) (x3 : Int32) : ∀ (d k : Nat) (h : am_H) (F : Nat), 8200 ≤ F → k + d = 2000 → (svRow r k).sp = false → k ≤ (svRow r k).n → Q9 h (svRow r k) → (∃ s0, T9 h r s0) → (∀ j, j ≤ k → 1 ≤ k → am_I h 85 j = nI (svRow r j).m) →
    ∃ h', g_X9_meetAll (F + 93 * d + 1) 1 (lL (wN sn)) x3 (nI k) 0 h = some ((), h') ∧ frML h h' ∧ T9 h' r sn ∧ (((svAll r).sp = false ∧ Q9 h' (svAll r) ∧ ∀ j, j ≤ (svAll r).n → am_I h' 85 j = nI (svRow r j).m) ∨ ((svAll r).sp = true ∧ am_I h' 51 51 = nI 1)) := by
  intro d
  induction d with
  | zero =>
    intro k h F hF hk sp kn q ⟨s0, t⟩ h96
    have ok := svRow_ok hr h0 k
    have : k = 2000 := by omega
    subst this
    have n2 : (svRow r 2000).n = 2000 := by have := ok.1.2; omega
    obtain ⟨h2, e2, t2, f2⟩ := ly_9 t hn (F - 20)
    rw [show F - 20 + 20 = F from by omega] at e2
    refine ⟨h2, ?_, frML_Z f2, t2, Or.inl ⟨sp, Q9_Z q f2, fun j hj => ?_⟩⟩
    · rw [show F + 93 * 0 + 1 = F + 1 from rfl, g_X9_meetAll, q10, cond_false, q11, cond_true, if_pos (by rw [q.1.choose_spec.1, n2]; exact Int32.le_refl _), e2, b2s]
    · rw [f2.1.2 85 (by decide) (by decide)]
      exact h96 j (by unfold svAll at hj; omega) (by decide)
  | succ d ih =>
    intro k h F hF hk sp kn q ⟨s0, t⟩ h96
    have ok := svRow_ok hr h0 k
    by_cases c : (svRow r k).n ≤ k
    · have kn' : (svRow r k).n = k := by omega
      have eA : svAll r = svRow r k := by
        have := svRow_e (r := r) (Or.inr c) (d + 1)
        rw [hk] at this
        exact this
      have k1 := ok.1.1
      obtain ⟨h2, e2, t2, f2⟩ := ly_9 t hn (F + 93 * (d + 1) - 20)
      rw [show F + 93 * (d + 1) - 20 + 20 = F + 93 * (d + 1) from by omega] at e2
      refine ⟨h2, ?_, frML_Z f2, t2, Or.inl ⟨by rw [eA]; exact sp, by rw [eA]; exact Q9_Z q f2, fun j hj => ?_⟩⟩
      · rw [g_X9_meetAll, q10, cond_false, q11, cond_true, if_pos (by rw [q.1.choose_spec.1, kn']; exact Int32.le_refl _), e2, b2s]
      · rw [f2.1.2 85 (by decide) (by decide)]
        rw [eA, kn'] at hj
        exact h96 j hj (by omega)
    · have kl : k < (svRow r k).n := by omega
      have k2 : k < 2000 := by omega
      have n2 := ok.1.2
      have sk := ok.2.1 k kl
      obtain ⟨h2, e2, t2, f2⟩ := ly_9 t sk (F + 93 * (d + 1) - 20)
      rw [show F + 93 * (d + 1) - 20 + 20 = F + 93 * (d + 1) from by omega] at e2
      obtain ⟨h3, e3, l3, f3⟩ := l9_list hr sk t2 (F + 93 * (d + 1)) (by omega)
      have t3 := T9_fr t2 f3
      have q3 := Q9_S (Q9_Z q f2) f3
      have len := ts_len r ((svRow r k).s k)
      have mm := svRow_m r k sp
      obtain ⟨F', h4, hF', e4, f4, t4, alt⟩ := ml_9 hr (k := k) (s := (svRow r k).s k) (ts_all r ((svRow r k).s k)) (fun x hx => hx) (by omega) (fun x hx => ts_sk hr sk hx) (lL (wN sn)) x3 (F + 93 * d + 92 - (ts_all r ((svRow r k).s k)).length) (by omega) (ts_all r ((svRow r k).s k)) 0 (svRow r k) (am_sI h3 85 k (nI (svRow r k).m)) rfl (by omega) ok sp rfl (Q9_96 q3 _ _) kl ⟨_, T9_c t3 (fun _ _ => by rw [hp_I' _ _ _ (by decide)]) (fun p hp => by rw [hp_I' _ _ _ (by omega)])⟩ ⟨by rw [hp_I' _ _ _ (by decide)]; exact l3.1, fun t x hx => by rw [hp_I' _ _ _ (by decide)]; exact l3.2 t x hx⟩ (by omega)
      rw [show F + 93 * d + 92 - (ts_all r ((svRow r k).s k)).length + (ts_all r ((svRow r k).s k)).length + 1 = F + 93 * (d + 1) from by omega] at e4
      have e1 : g_X9_meetAll (F + 93 * (d + 1) + 1) 1 (lL (wN sn)) x3 (nI k) 0 h = g_X9_meetAll F' 1 (lL (wN sn)) x3 (nI (k + 1)) 0 h4 := by
        rw [← e4, g_X9_meetAll, q10, cond_false, q11, cond_true, if_neg (show ¬ am_I h 51 50 ≤ nI k by rw [q.1.choose_spec.1]; exact nI_ge (by omega) (by omega)), if_pos (show am_I h 51 51 = 0 from q.2.1), hp_vp (by omega) (by decide), cond_true, nI_clamp (by omega), (q.1.choose_spec.2.2.1 k kl).1]
        show am_b2 (f_X9_layState (F + 93 * (d + 1)) (lL (wN ((svRow r k).s k))) h) _ = _
        rw [e2, b2s, e3, b2s, hp_vp (by omega) (by decide), cond_true, q3.2.2.1]
        rfl
      have fr : frML h h4 := frML_t (frML_Z f2) (frML_t (frML_S f3) (frML_t (frML_96 _ _ _) f4))
      rw [← svRow_s sp kl] at alt
      rcases alt with ⟨sp4, q4, e96⟩ | ⟨sp4, h51⟩
      · have kn4 : k + 1 ≤ (svRow r (k + 1)).n := by
          rw [svRow_s sp kl]
          have := (svList_ok (k := k) (ts_all r ((svRow r k).s k)) (svRow r k) ok kl (fun x hx => ts_sk hr sk hx)).2.1
          omega
        obtain ⟨h5, e5, f5, t5, alt5⟩ := ih (k + 1) h4 (F' - 93 * d - 1) (by omega) (by omega) sp4 kn4 q4 t4 (fun j hj _ => by
          rw [e96]
          by_cases c1 : j = k + 1
          · rw [c1, upd_at]
          · rw [upd_ne c1, hp_I]
            by_cases c2 : j = k
            · rw [c2, upd_at]
            · rw [upd_ne c2, f3.2.1 85 (by decide) (by decide), f2.1.2 85 (by decide) (by decide)]
              exact h96 j (by omega) (by omega))
        rw [show F' - 93 * d - 1 + 93 * d + 1 = F' from by omega] at e5
        exact ⟨h5, e1.trans e5, frML_t fr f5, t5, alt5⟩
      · have eA : svAll r = svRow r (k + 1) := by
          have := svRow_e (r := r) (Or.inl sp4) d
          rw [show k + 1 + d = 2000 from by omega] at this
          exact this
        obtain ⟨s4, t4⟩ := t4
        obtain ⟨h5, e5, t5, f5⟩ := ly_9 t4 hn (F' - 1 - 20)
        rw [show F' - 1 - 20 + 20 = F' - 1 from by omega] at e5
        refine ⟨h5, e1.trans ?_, frML_t fr (frML_Z f5), t5, Or.inr ⟨by rw [eA]; exact sp4, by rw [f5.1.2 51 (by decide) (by decide)]; exact h51⟩⟩
        rw [show F' = (F' - 1) + 1 from by omega, g_X9_meetAll, q10, cond_false, q11, cond_true]
        by_cases cc : am_I h4 51 50 ≤ nI (k + 1)
        · rw [if_pos cc, e5, b2s]
        · rw [if_neg cc, h51, if_neg (show ¬ nI 1 = 0 by decide), e5, b2s]
