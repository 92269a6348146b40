/-! ===== the class's machine of a book ===== -/
/-- nothing that was there has changed -/
def ext (h H : am_H) : Prop := h.1 ≤ H.1 ∧ ∀ o, o < h.1 → am_K H o = am_K h o ∧ am_I H o = am_I h o ∧ am_J H o = am_J h o ∧ am_A H o = am_A h o
theorem ext_r (h : am_H) : ext h h := ⟨Nat.le_refl _, fun _ _ => ⟨rfl, rfl, rfl, rfl⟩⟩
theorem ext_t {h h1 h2 : am_H} (a : ext h h1) (b : ext h1 h2) : ext h h2 := ⟨Nat.le_trans a.1 b.1, fun o ho => by
  obtain ⟨a1, a2, a3, a4⟩ := a.2 o ho
  obtain ⟨b1, b2, b3, b4⟩ := b.2 o (Nat.lt_of_lt_of_le ho a.1)
  exact ⟨b1.trans a1, b2.trans a2, b3.trans a3, b4.trans a4⟩⟩
theorem ext_n (h : am_H) (kd : Nat ⊕ (Nat × Nat)) (f : Nat → Int32) : ext h (am_new h kd f) := ⟨Nat.le_succ _, fun o ho => ⟨nw_K _ _ _ (by omega), nw_I _ _ _ (by omega), nw_J _ _ _ (by omega), nw_A _ _ _ (by omega)⟩⟩
theorem ext_s {h H : am_H} (e : ext h H) {o : Nat} (ho : h.1 ≤ o) (j : Nat) (x : Int32) : ext h (am_sI H o j x) := ⟨e.1, fun p hp => ⟨(e.2 p hp).1, (hp_I' _ _ _ (by omega)).trans (e.2 p hp).2.1, (e.2 p hp).2.2.1, (e.2 p hp).2.2.2⟩⟩
theorem ext_a {h H : am_H} (e : ext h H) {o : Nat} (ho : h.1 ≤ o) (j : Nat) (r : Option Nat) : ext h (am_sA H o j r) := ⟨e.1, fun p hp => ⟨(e.2 p hp).1, (e.2 p hp).2.1, (e.2 p hp).2.2.1, (sA_o _ _ _ (by omega)).trans (e.2 p hp).2.2.2⟩⟩
theorem W8_ext {O : Nat → Option Nat} {N : Nat} {κ : Nat → Nat} {h H : am_H} {cap : Nat} {q : Nat → Nat} (w : W8r O N κ h cap q) (e : ext h H) : W8r O N κ H cap q := by
  obtain ⟨⟨fr, inj, h98⟩, w0, b, w2, w3, w4⟩ := w
  have e12 := e.2 12 (by omega)
  refine ⟨⟨fun k k1 k5 => ?_, inj, Nat.le_trans h98 e.1⟩, ?_, b, ?_, w3, ?_⟩
  · obtain ⟨x1, x2, x3, x4, x5⟩ := fr k k1 k5
    exact ⟨by rw [e12.2.2.2]; exact x1, Nat.lt_of_lt_of_le x2 e.1, x3, x4, by rw [(e.2 _ x2).1]; exact x5⟩
  · rw [e12.2.1]; exact w0
  · rw [(e.2 _ (fr 2 (by decide) (by decide)).2.1).2.1]; exact w2
  · rw [(e.2 _ (fr 3 (by decide) (by decide)).2.1).2.1]; exact w4
/-- a machine: places, steps, ends -/
def M8 (h : am_H) (m qe qn P : Nat) (nx : Nat → Option Nat) (en : Nat → Bool) : Prop := am_K h m = .inl 3 ∧ am_I h m 0 = nI P ∧ am_A h m 1 = some qe ∧ am_A h m 2 = some qn ∧ am_K h qe = .inr (2, P) ∧ am_K h qn = .inr (0, 24 * P) ∧ (∀ k, k < P → am_I h qe k = bI (en k)) ∧ (∀ j, j < 24 * P → am_I h qn j = oI (nx j))
/-- what the folded machine has at k, s -/
def fdX (O : Nat → Option Nat) (κ la : Nat → Nat) (j : Nat) : Option Nat := (O (24 * la (j / 24) + j % 24)).map κ
/-- the machine's rows are filled up to k, s -/
def D8 (h H : am_H) (c : Nat) (nx : Nat → Option Nat) (en : Nat → Bool) (j e : Nat) : Prop := ext h H ∧ H.1 = h.1 + 2 ∧ am_K H h.1 = .inr (0, 24 * c) ∧ am_K H (h.1 + 1) = .inr (2, c) ∧ (∀ i, i < j → am_I H h.1 i = oI (nx i)) ∧ (∀ i, i < e → am_I H (h.1 + 1) i = bI (en i))
theorem fd8_in {O : Nat → Option Nat} {N : Nat} {κ : Nat → Nat} {h : am_H} {cap : Nat} {q : Nat → Nat} (w : W8r O N κ h cap q) {c : Nat} (hcN : c ≤ N) {la : Nat → Nat} (hla : ∀ v, v < c → la v < N) (E : Int32) {en : Nat → Bool} {k : Nat} (hk : k < c) (F : Nat) : ∀ (d s : Nat) (H : am_H), s + d = 24 → D8 h H c (fdX O κ la) en (24 * k + s) (k + 1) →
    ∃ H', g_X2_folded (F + d + 1) 1 (nI c) E h.1 (h.1 + 1) (nI k) (nI (la k)) (nI s) H = g_X2_folded F 0 (nI c) E h.1 (h.1 + 1) (nI (k + 1)) 0 0 H' ∧ D8 h H' c (fdX O κ la) en (24 * (k + 1)) (k + 1) := by
  have w0 := w
  obtain ⟨⟨fr, inj, h98⟩, x0, ⟨b1, b2, b3⟩, w2, w3, w4⟩ := w0
  intro d
  induction d with
  | zero =>
    intro s H hs g
    have : s = 24 := by omega
    subst this
    refine ⟨H, ?_, by rw [show 24 * (k + 1) = 24 * k + 24 from by omega]; exact g⟩
    rw [show F + 0 + 1 = F + 1 from rfl, g_X2_folded]
    simp only [show Nat.beq 1 0 = false from rfl, cond_false]
    rw [if_pos (by decide), hp_1]
  | succ d ih =>
    intro s H hs g
    have g' := g
    obtain ⟨ge, g1, gK, gK2, gi, gen⟩ := g'
    have wH := W8_ext w ge
    obtain ⟨⟨frH, _, _⟩, _, _, w2H, _, _⟩ := wH
    obtain ⟨a2, l2, n2, m2, K2⟩ := frH 2 (by decide) (by decide)
    have K2 : am_K H (q 2) = .inr (0, 24 * cap) := K2
    have lk := hla k hk
    have mm : ¬ Int32.ofInt 24 ≤ nI s := nI_ge (a := s) (b := 24) (by omega) (by omega)
    have ix : ∀ x, (Int32.ofInt 24) * nI x + nI s = nI (24 * x + s) := fun x => by rw [show Int32.ofInt 24 = nI 24 from rfl, nI_mul, nI_add]
    have v1 : am_vp (nI (24 * la k + s)) (24 * cap) = true := hp_vp (by omega) (by omega)
    have c1 : Int32.toNatClampNeg (nI (24 * la k + s)) = 24 * la k + s := nI_clamp (by omega)
    have v2 : am_vp (nI (24 * k + s)) (24 * c) = true := hp_vp (by omega) (by omega)
    have c2 : Int32.toNatClampNeg (nI (24 * k + s)) = 24 * k + s := nI_clamp (by omega)
    have hfx : fdX O κ la (24 * k + s) = (O (24 * la k + s)).map κ := by
      unfold fdX
      rw [show (24 * k + s) / 24 = k from by omega, show (24 * k + s) % 24 = s from by omega]
    obtain ⟨H', st, G'⟩ := ih (s + 1) (am_sI H h.1 (24 * k + s) (oI (fdX O κ la (24 * k + s)))) (by omega) ⟨ext_s ge (Nat.le_refl _) _ _, g1, gK, gK2, by
      intro i hi
      rw [hp_I]
      by_cases e : i = 24 * k + s
      · rw [e, upd_at]
      · rw [upd_ne e]; exact gi i (by omega), by
      intro i hi
      rw [hp_I' _ _ _ (by omega)]; exact gen i hi⟩
    refine ⟨H', ?_, G'⟩
    rw [show F + (d + 1) + 1 = (F + d + 1) + 1 from rfl, g_X2_folded]
    simp only [show Nat.beq 1 0 = false from rfl, cond_false]
    rw [if_neg mm, a2, b_some, hp_ln K2, b_some, ix, v1, cond_true, c1, w2H _ (by omega), kn8 (W8_ext w ge) (by omega), b2s, hp_ln gK, b_some, ix, v2, cond_true, c2, hp_1, ← hfx]
    exact st
theorem fd8_out {O : Nat → Option Nat} {N : Nat} {κ : Nat → Nat} {h : am_H} {cap : Nat} {q : Nat → Nat} (w : W8r O N κ h cap q) {c : Nat} (hcN : c ≤ N) {la : Nat → Nat} (hla : ∀ v, v < c → la v < N) (h5 : ∀ v, v < c → am_I h (q 5) v = nI (la v)) {S : Nat → Nat} (h1 : ∀ i, i < N → am_I h (q 1) i = nI (S i)) {E : Int32} {en : Nat → Bool} (hE : ∀ v, v < c → (nI (S (la v)) &&& E = 0 ↔ en v = false)) (F : Nat) : ∀ (d k : Nat) (H : am_H), k + d = c → D8 h H c (fdX O κ la) en (24 * k) k →
    ∃ H', g_X2_folded (F + 26 * d + 1) 0 (nI c) E h.1 (h.1 + 1) (nI k) 0 0 H = some ((h.1 + 2, H'), 1, 3) ∧ M8 H' (h.1 + 2) (h.1 + 1) h.1 c (fdX O κ la) en ∧ ext h H' ∧ H'.1 = h.1 + 3 := by
  have w0 := w
  obtain ⟨⟨fr, inj, h98⟩, x0, ⟨b1, b2, b3⟩, w2, w3, w4⟩ := w0
  intro d
  induction d with
  | zero =>
    intro k H hk g
    have : k = c := by omega
    subst this
    obtain ⟨ge, g1, gK, gK2, gi, gen⟩ := g
    let H1 := am_new H (.inl 3) (fun _ => 0)
    let H2 := am_sA (am_sA (am_sI H1 (h.1 + 2) 0 (nI k)) (h.1 + 2) 2 (some h.1)) (h.1 + 2) 1 (some (h.1 + 1))
    have e1 : ext h H1 := ext_t ge (ext_n H _ _)
    have hK0 : am_K H1 (h.1 + 2) = .inl 3 := by rw [← g1]; exact nw_K0 _ _ _
    refine ⟨H2, ?_, ⟨hK0, ?_, sA_at _ _ _ _, (sA_ne _ _ _ (by decide)).trans (sA_at _ _ _ _), (show am_K H1 (h.1 + 1) = _ from (nw_K _ _ _ (by omega)).trans gK2), (show am_K H1 h.1 = _ from (nw_K _ _ _ (by omega)).trans gK), ?_, ?_⟩, ext_a (ext_a (ext_s e1 (by omega) _ _) (by omega) _ _) (by omega) _ _, by show H.1 + 1 = _; omega⟩
    · rw [show F + 26 * 0 + 1 = F + 1 from rfl, g_X2_folded]
      simp only [show Nat.beq 0 0 = true from rfl, cond_true]
      rw [if_pos (Int32.le_refl _), g1]
      have init : f_X3_init (h.1 + 2) (nI k) h.1 (h.1 + 1) (am_new H (.inl 3) (fun _ => 0)) = some ((), H2) := by
        unfold f_X3_init
        rw [hp_isO hK0, cond_true, Nat.ble_eq_true_of_le (by omega), cond_true, cond_true]
      rw [init, b2s]
      rfl
    · show am_I (am_sI H1 (h.1 + 2) 0 (nI k)) (h.1 + 2) 0 = _
      rw [hp_I, upd_at]
    · intro i hi
      show am_I (am_sI H1 (h.1 + 2) 0 (nI k)) (h.1 + 1) i = _
      rw [hp_I' _ _ _ (by omega), nw_I _ _ _ (by omega)]; exact gen i hi
    · intro i hi
      show am_I (am_sI H1 (h.1 + 2) 0 (nI k)) h.1 i = _
      rw [hp_I' _ _ _ (by omega), nw_I _ _ _ (by omega)]; exact gi i hi
  | succ d ih =>
    intro k H hk g
    have g' := g
    obtain ⟨ge, g1, gK, gK2, gi, gen⟩ := g'
    obtain ⟨⟨frH, _, _⟩, _, _, w2H, _, _⟩ := W8_ext w ge
    obtain ⟨a5, l5, n5, m5, K5⟩ := frH 5 (by decide) (by decide)
    obtain ⟨a1, l1, n1, m1, K1⟩ := frH 1 (by decide) (by decide)
    have K5 : am_K H (q 5) = .inr (0, cap) := K5
    have K1 : am_K H (q 1) = .inr (0, cap) := K1
    have i5 : am_I H (q 5) k = nI (la k) := by rw [(ge.2 _ (fr 5 (by decide) (by decide)).2.1).2.1]; exact h5 k (by omega)
    have lk := hla k (by omega)
    have i1 : am_I H (q 1) (la k) = nI (S (la k)) := by rw [(ge.2 _ (fr 1 (by decide) (by decide)).2.1).2.1]; exact h1 _ lk
    have mm : ¬ nI c ≤ nI k := nI_ge (a := k) (b := c) (by omega) (by omega)
    have vk : am_vp (nI k) cap = true := hp_vp (by omega) (by omega)
    have ck : Int32.toNatClampNeg (nI k) = k := nI_clamp (by omega)
    have vl : am_vp (nI (la k)) cap = true := hp_vp (by omega) (by omega)
    have cl : Int32.toNatClampNeg (nI (la k)) = la k := nI_clamp (by omega)
    have vc : am_vp (nI k) c = true := hp_vp (by omega) (by omega)
    have y : (if nI (S (la k)) &&& E = 0 then some (Int32.ofInt 0) else some (Int32.ofInt 1)) = some (bI (en k)) := by
      cases he : en k with
      | false => rw [if_pos ((hE k (by omega)).mpr he)]; rfl
      | true => rw [if_neg (fun h => by have := (hE k (by omega)).mp h; rw [he] at this; cases this)]; rfl
    obtain ⟨H1, st1, G1⟩ := fd8_in w hcN hla E (en := en) (show k < c by omega) (F + 26 * d + 1) 24 0 (am_sI H (h.1 + 1) k (bI (en k))) rfl ⟨ext_s ge (by omega) _ _, g1, gK, gK2, by
      intro i hi
      rw [hp_I' _ _ _ (by omega)]; exact gi i hi, by
      intro i hi
      rw [hp_I]
      by_cases e : i = k
      · rw [e, upd_at]
      · rw [upd_ne e]; exact gen i (by omega)⟩
    obtain ⟨H2, st2, M2, e2, n2⟩ := ih (k + 1) H1 (by omega) G1
    refine ⟨H2, ?_, M2, e2, n2⟩
    rw [show F + 26 * (d + 1) + 1 = (F + 26 * d + 1 + 24 + 1) + 1 from by omega, g_X2_folded]
    simp only [show Nat.beq 0 0 = true from rfl, cond_true]
    rw [if_neg mm, a5, b_some, hp_ln K5, b_some, vk, cond_true, ck, i5, a1, b_some, hp_ln K1, b_some, vl, cond_true, cl, i1, y, b_some, hp_ln gK2, b_some, vc, cond_true, nar2]
    exact (show g_X2_folded (F + 26 * d + 1 + 24 + 1) 1 (nI c) E h.1 (h.1 + 1) (nI k) (nI (la k)) (nI 0) _ = _ from st1).trans st2
theorem fd_8 {O : Nat → Option Nat} {N : Nat} {κ : Nat → Nat} {h : am_H} {cap : Nat} {q : Nat → Nat} (w : W8r O N κ h cap q) {c : Nat} (hcN : c ≤ N) {la : Nat → Nat} (hla : ∀ v, v < c → la v < N) (h5 : ∀ v, v < c → am_I h (q 5) v = nI (la v)) {S : Nat → Nat} (h1 : ∀ i, i < N → am_I h (q 1) i = nI (S i)) {E : Int32} {en : Nat → Bool} (hE : ∀ v, v < c → (nI (S (la v)) &&& E = 0 ↔ en v = false)) {F : Nat} (hF : 26 * 4096 + 1 ≤ F) :
    ∃ H', f_X2_folded F (nI c) E h = some ((h.1 + 2, H'), 3, 25 * c + 3) ∧ M8 H' (h.1 + 2) (h.1 + 1) h.1 c (fdX O κ la) en ∧ ext h H' ∧ H'.1 = h.1 + 3 := by
  have b3 := w.2.2.1.2.2
  have tw : nI c * Int32.ofInt 24 = nI (24 * c) := by rw [show Int32.ofInt 24 = nI 24 from rfl, nI_mul, Nat.mul_comm]
  have cc : Int32.toNatClampNeg (nI (24 * c)) = 24 * c := nI_clamp (by omega)
  have c1 : Int32.toNatClampNeg (nI c) = c := nI_clamp (by omega)
  let H1 := am_new h (.inr (0, 24 * c)) (fun _ => 0)
  let H2 := am_new H1 (.inr (2, c)) (fun _ => 0)
  have e1 : ext h H2 := ext_t (ext_n h _ _) (ext_n H1 _ _)
  obtain ⟨H', st, m8, e2, n2⟩ := fd8_out w hcN hla h5 h1 hE (F - 26 * c - 1) c 0 H2 (by omega) ⟨e1, rfl, (nw_K H1 _ _ (show h.1 ≠ h.1 + 1 by omega)).trans (nw_K0 _ _ _), nw_K0 H1 _ _, (fun i hi => by omega), (fun i hi => by omega)⟩
  rw [show F - 26 * c - 1 + 26 * c + 1 = F from by omega] at st
  refine ⟨H', ?_, m8, e2, n2⟩
  unfold f_X2_folded
  rw [tw, cc, c1, nn_ok (by omega), nn_ok (by omega), cond_true, cond_true]
  refine (congrArg (fun o => am_cost 1 (24 * c) (am_cost 1 c o)) (show g_X2_folded F 0 (nI c) E h.1 (h.1 + 1) (nI 0) 0 0 H2 = _ from st)).trans ?_
  show some ((h.1 + 2, H'), 1 + (1 + 1), 24 * c + (c + 3)) = _
  rw [show 24 * c + (c + 3) = 25 * c + 3 from by omega]
