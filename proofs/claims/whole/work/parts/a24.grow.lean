def grS (H : am_H) (kd : Nat ⊕ (Nat × Nat)) (f : Nat → Int32) (k : Nat) : am_H := am_sA (am_new H kd f) 12 k (some H.1)
theorem grS_1 (H : am_H) (kd : Nat ⊕ (Nat × Nat)) (f : Nat → Int32) (k : Nat) : (grS H kd f k).1 = H.1 + 1 := rfl
theorem grS_K {H : am_H} (kd : Nat ⊕ (Nat × Nat)) (f : Nat → Int32) (k : Nat) {o : Nat} (ho : o ≠ H.1) : am_K (grS H kd f k) o = am_K H o := nw_K H kd f ho
theorem grS_K0 (H : am_H) (kd : Nat ⊕ (Nat × Nat)) (f : Nat → Int32) (k : Nat) : am_K (grS H kd f k) H.1 = kd := nw_K0 H kd f
theorem grS_I {H : am_H} (kd : Nat ⊕ (Nat × Nat)) (f : Nat → Int32) (k : Nat) {o : Nat} (ho : o ≠ H.1) : am_I (grS H kd f k) o = am_I H o := nw_I H kd f ho
theorem grS_I0 (H : am_H) (kd : Nat ⊕ (Nat × Nat)) (f : Nat → Int32) (k : Nat) : am_I (grS H kd f k) H.1 = f := nw_I0 H kd f
theorem grS_J {H : am_H} (kd : Nat ⊕ (Nat × Nat)) (f : Nat → Int32) (k : Nat) {o : Nat} (ho : o ≠ H.1) : am_J (grS H kd f k) o = am_J H o := nw_J H kd f ho
theorem grS_A {H : am_H} (kd : Nat ⊕ (Nat × Nat)) (f : Nat → Int32) (k : Nat) {o : Nat} (ho : o ≠ H.1) (h12 : o ≠ 12) : am_A (grS H kd f k) o = am_A H o := (sA_o _ _ _ h12).trans (nw_A H kd f ho)
theorem grS_a {H : am_H} (kd : Nat ⊕ (Nat × Nat)) (f : Nat → Int32) (k : Nat) : am_A (grS H kd f k) 12 k = some H.1 := sA_at _ _ _ _
theorem grS_b {H : am_H} (kd : Nat ⊕ (Nat × Nat)) (f : Nat → Int32) {k j : Nat} (hj : j ≠ k) (hH : 12 ≠ H.1) : am_A (grS H kd f k) 12 j = am_A H 12 j := (sA_ne _ _ _ hj).trans (by rw [nw_A H kd f hH])
theorem grow_8 {h : am_H} {cap : Nat} {q : Nat → Nat} (f : FR h cap q) (hc : 1 ≤ cap) (hcap : 48 * cap ≤ 1000000) : ∃ h' q', f_X2_grow h = some (((), h'), 5, 56 * cap) ∧ FR h' (2 * cap) q' ∧ frF q q' h h' ∧ am_I h' 12 = am_I h 12 ∧ am_I h' 18 = am_I h 18 ∧ (∀ j, j < cap → am_I h' (q' 1) j = am_I h (q 1) j) ∧ (∀ j, j < 24 * cap → am_I h' (q' 2) j = am_I h (q 2) j) := by
  obtain ⟨fr, inj, h98⟩ := f
  obtain ⟨a1, l1, n1, m1, K1⟩ := fr 1 (by decide) (by decide)
  obtain ⟨a2, l2, n2, m2, K2⟩ := fr 2 (by decide) (by decide)
  have K1 : am_K h (q 1) = .inr (0, cap) := K1
  have K2 : am_K h (q 2) = .inr (0, 24 * cap) := K2
  obtain ⟨f1, e1, c1⟩ := cpy_8 K1 (by omega) (show cap < 2 * cap by omega) (by omega)
  let H1 := grS h (.inr (0, 2 * cap)) f1 1
  have H1A : am_A H1 12 2 = some (q 2) := (grS_b _ _ (by decide) (by omega)).trans a2
  have H1K : am_K H1 (q 2) = .inr (0, 24 * cap) := (grS_K _ _ _ (by omega)).trans K2
  obtain ⟨f2, e2, c2⟩ := cpy_8 (h := H1) H1K (show q 2 ≠ h.1 + 1 by omega) (show 24 * cap < 48 * cap by omega) (by omega)
  let H2 := grS H1 (.inr (0, 48 * cap)) f2 2
  let H3 := grS H2 (.inr (0, 2 * cap)) (fun _ => 0) 3
  let H4 := grS H3 (.inr (0, 2 * cap)) (fun _ => 0) 4
  let H5 := grS H4 (.inr (0, 2 * cap)) (fun _ => 0) 5
  have x1 : H1.1 = h.1 + 1 := rfl
  have x2 : H2.1 = h.1 + 2 := rfl
  have x3 : H3.1 = h.1 + 3 := rfl
  have x4 : H4.1 = h.1 + 4 := rfl
  have x5 : H5.1 = h.1 + 5 := rfl
  have oK : ∀ o, o < h.1 → am_K H5 o = am_K h o := fun o ho => by
    rw [show am_K H5 o = am_K H4 o from grS_K _ _ _ (by omega), show am_K H4 o = am_K H3 o from grS_K _ _ _ (by omega), show am_K H3 o = am_K H2 o from grS_K _ _ _ (by omega), show am_K H2 o = am_K H1 o from grS_K _ _ _ (by omega), show am_K H1 o = am_K h o from grS_K _ _ _ (by omega)]
  have oJ : ∀ o, o < h.1 → am_J H5 o = am_J h o := fun o ho => by
    rw [show am_J H5 o = am_J H4 o from grS_J _ _ _ (by omega), show am_J H4 o = am_J H3 o from grS_J _ _ _ (by omega), show am_J H3 o = am_J H2 o from grS_J _ _ _ (by omega), show am_J H2 o = am_J H1 o from grS_J _ _ _ (by omega), show am_J H1 o = am_J h o from grS_J _ _ _ (by omega)]
  have oI5 : ∀ o, o < h.1 → am_I H5 o = am_I h o := fun o ho => by
    rw [show am_I H5 o = am_I H4 o from grS_I _ _ _ (by omega), show am_I H4 o = am_I H3 o from grS_I _ _ _ (by omega), show am_I H3 o = am_I H2 o from grS_I _ _ _ (by omega), show am_I H2 o = am_I H1 o from grS_I _ _ _ (by omega), show am_I H1 o = am_I h o from grS_I _ _ _ (by omega)]
  have oA : ∀ o, o < h.1 → o ≠ 12 → am_A H5 o = am_A h o := fun o ho h12 => by
    rw [show am_A H5 o = am_A H4 o from grS_A _ _ _ (by omega) h12, show am_A H4 o = am_A H3 o from grS_A _ _ _ (by omega) h12, show am_A H3 o = am_A H2 o from grS_A _ _ _ (by omega) h12, show am_A H2 o = am_A H1 o from grS_A _ _ _ (by omega) h12, show am_A H1 o = am_A h o from grS_A _ _ _ (by omega) h12]
  have b1 : am_A H5 12 1 = some h.1 := by
    rw [show am_A H5 12 1 = am_A H4 12 1 from grS_b _ _ (by decide) (by omega), show am_A H4 12 1 = am_A H3 12 1 from grS_b _ _ (by decide) (by omega), show am_A H3 12 1 = am_A H2 12 1 from grS_b _ _ (by decide) (by omega), show am_A H2 12 1 = am_A H1 12 1 from grS_b _ _ (by decide) (by omega)]; exact grS_a _ _ _
  have b2 : am_A H5 12 2 = some H1.1 := by
    rw [show am_A H5 12 2 = am_A H4 12 2 from grS_b _ _ (by decide) (by omega), show am_A H4 12 2 = am_A H3 12 2 from grS_b _ _ (by decide) (by omega), show am_A H3 12 2 = am_A H2 12 2 from grS_b _ _ (by decide) (by omega)]; exact grS_a _ _ _
  have b3 : am_A H5 12 3 = some H2.1 := by
    rw [show am_A H5 12 3 = am_A H4 12 3 from grS_b _ _ (by decide) (by omega), show am_A H4 12 3 = am_A H3 12 3 from grS_b _ _ (by decide) (by omega)]; exact grS_a _ _ _
  have b4 : am_A H5 12 4 = some H3.1 := by
    rw [show am_A H5 12 4 = am_A H4 12 4 from grS_b _ _ (by decide) (by omega)]; exact grS_a _ _ _
  have b5 : am_A H5 12 5 = some H4.1 := grS_a _ _ _
  have k1 : am_K H5 h.1 = .inr (0, 2 * cap) := by
    rw [show am_K H5 h.1 = am_K H4 h.1 from grS_K _ _ _ (by omega), show am_K H4 h.1 = am_K H3 h.1 from grS_K _ _ _ (by omega), show am_K H3 h.1 = am_K H2 h.1 from grS_K _ _ _ (by omega), show am_K H2 h.1 = am_K H1 h.1 from grS_K _ _ _ (by omega)]; exact grS_K0 _ _ _ _
  have k2 : am_K H5 H1.1 = .inr (0, 48 * cap) := by
    rw [show am_K H5 H1.1 = am_K H4 H1.1 from grS_K _ _ _ (by omega), show am_K H4 H1.1 = am_K H3 H1.1 from grS_K _ _ _ (by omega), show am_K H3 H1.1 = am_K H2 H1.1 from grS_K _ _ _ (by omega)]; exact grS_K0 _ _ _ _
  have k3 : am_K H5 H2.1 = .inr (0, 2 * cap) := by
    rw [show am_K H5 H2.1 = am_K H4 H2.1 from grS_K _ _ _ (by omega), show am_K H4 H2.1 = am_K H3 H2.1 from grS_K _ _ _ (by omega)]; exact grS_K0 _ _ _ _
  have k4 : am_K H5 H3.1 = .inr (0, 2 * cap) := by
    rw [show am_K H5 H3.1 = am_K H4 H3.1 from grS_K _ _ _ (by omega)]; exact grS_K0 _ _ _ _
  have k5 : am_K H5 H4.1 = .inr (0, 2 * cap) := grS_K0 _ _ _ _
  have i1 : am_I H5 h.1 = f1 := by
    rw [show am_I H5 h.1 = am_I H4 h.1 from grS_I _ _ _ (by omega), show am_I H4 h.1 = am_I H3 h.1 from grS_I _ _ _ (by omega), show am_I H3 h.1 = am_I H2 h.1 from grS_I _ _ _ (by omega), show am_I H2 h.1 = am_I H1 h.1 from grS_I _ _ _ (by omega)]; exact grS_I0 _ _ _ _
  have i2 : am_I H5 H1.1 = f2 := by
    rw [show am_I H5 H1.1 = am_I H4 H1.1 from grS_I _ _ _ (by omega), show am_I H4 H1.1 = am_I H3 H1.1 from grS_I _ _ _ (by omega), show am_I H3 H1.1 = am_I H2 H1.1 from grS_I _ _ _ (by omega)]; exact grS_I0 _ _ _ _
  have cc : Int32.toNatClampNeg (nI (2 * cap)) = 2 * cap := nI_clamp (by omega)
  have nn : am_nn (nI (2 * cap)) = true := nn_ok (by omega)
  have two : Int32.ofInt 2 * Int32.ofNat cap = nI (2 * cap) := nI_mul 2 cap
  have tw : nI (2 * cap) * Int32.ofInt 24 = nI (48 * cap) := by rw [show Int32.ofInt 24 = nI 24 from rfl, nI_mul]; congr 1; omega
  refine ⟨H5, fun k => h.1 + (k - 1), ?_, ⟨?_, ?_, by omega⟩, ⟨by omega, fun o ho => ⟨oK o ho, oJ o ho⟩, oA, fun o ho _ _ _ => oI5 o ho, ?_, fun k k1 _ => Or.inl (by show h.1 ≤ h.1 + (k - 1); omega)⟩, oI5 12 (by omega), oI5 18 (by omega), ?_, ?_⟩
  · unfold f_X2_grow
    rw [a1, b_some, hp_ln K1, b_some, b_some, two, e1]
    show am_cost 1 (2 * cap) ((am_A H1 12 2).bind fun q15 => _) = _
    rw [H1A, b_some, tw]
    show am_cost 1 (2 * cap) (am_bc (f_J7_copyOf_59c91 (q 2) (nI (48 * cap)) H1) _) = _
    simp only [e2, nn, cond_true, cc]
    show some (((), H5), 1 + (1 + (1 + (1 + (1 + 0)))), 2 * cap + (48 * cap + (2 * cap + (2 * cap + (2 * cap + 0))))) = _
    rw [show 2 * cap + (48 * cap + (2 * cap + (2 * cap + (2 * cap + 0)))) = 56 * cap from by omega]
  · intro k k1' k5'
    have hk : k = 1 ∨ k = 2 ∨ k = 3 ∨ k = 4 ∨ k = 5 := by omega
    rcases hk with rfl | rfl | rfl | rfl | rfl
    · exact ⟨b1, by show h.1 + 0 < _; omega, by show h.1 + 0 ≠ _; omega, by show h.1 + 0 ≠ _; omega, k1⟩
    · exact ⟨b2, by show h.1 + 1 < _; omega, by show h.1 + 1 ≠ _; omega, by show h.1 + 1 ≠ _; omega, k2.trans (by rw [if_pos rfl, show 24 * (2 * cap) = 48 * cap from by omega])⟩
    · exact ⟨b3, by show h.1 + 2 < _; omega, by show h.1 + 2 ≠ _; omega, by show h.1 + 2 ≠ _; omega, k3⟩
    · exact ⟨b4, by show h.1 + 3 < _; omega, by show h.1 + 3 ≠ _; omega, by show h.1 + 3 ≠ _; omega, k4⟩
    · exact ⟨b5, by show h.1 + 4 < _; omega, by show h.1 + 4 ≠ _; omega, by show h.1 + 4 ≠ _; omega, k5⟩
  · intro i j i1 i5 j1 j5 e
    have e : h.1 + (i - 1) = h.1 + (j - 1) := e
    omega
  · intro k hk
    rw [show am_A H5 12 k = am_A H4 12 k from grS_b _ _ (by omega) (by omega), show am_A H4 12 k = am_A H3 12 k from grS_b _ _ (by omega) (by omega), show am_A H3 12 k = am_A H2 12 k from grS_b _ _ (by omega) (by omega), show am_A H2 12 k = am_A H1 12 k from grS_b _ _ (by omega) (by omega), show am_A H1 12 k = am_A h 12 k from grS_b _ _ (by omega) (by omega)]
  · intro j hj
    show am_I H5 h.1 j = _
    rw [i1]; exact c1 j hj
  · intro j hj
    show am_I H5 H1.1 j = _
    rw [i2, c2 j hj, show am_I H1 (q 2) = am_I h (q 2) from grS_I _ _ _ (by omega)]
