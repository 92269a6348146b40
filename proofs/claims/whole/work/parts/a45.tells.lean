/-! ===== the first row that tells two machines apart: the class's search ===== -/
section
variable {P1 P2 : Nat} {nx1 nx2 : Nat → Option Nat} {en1 en2 : Nat → Bool}
/-- the search at pair k, sort a: nothing found yet -/
def TC (P1 P2 : Nat) (nx1 nx2 : Nat → Option Nat) (en1 en2 : Nat → Bool) (h : am_H) (cap : Nat) (q : Nat → Nat) (N : Nat) (pw : Nat → List Nat) (pf pa : Nat → Nat) (k a : Nat) : Prop := (∃ χ ρ, C8 P1 P2 nx1 nx2 h cap q N pw (frI pf) (frI pa) χ ∧ UF (P1 + P2) χ ρ N (nEq P1 P2 nx1 nx2 en1 en2 N pw)) ∧ N ≤ P1 + P2 ∧ BP N pw pf pa k a ∧ HC N pw (nD nx1 nx2 en1 en2) k a ∧ (∀ i, i < N → ¬ nD nx1 nx2 en1 en2 (pw i)) ∧ am_I h 19 5 = Int32.ofInt (-1)
/-- found: the first word of all -/
def TF (P1 P2 : Nat) (nx1 nx2 : Nat → Option Nat) (en1 en2 : Nat → Bool) (h : am_H) (cap : Nat) (q : Nat → Nat) (N : Nat) (pw : Nat → List Nat) (pf pa : Nat → Nat) (f : Nat) : Prop := (∃ χ, C8 P1 P2 nx1 nx2 h cap q N pw (frI pf) (frI pa) χ) ∧ N ≤ P1 + P2 ∧ BW N pw pf pa ∧ f < N ∧ am_I h 19 5 = nI f ∧ am_I h 19 0 = bI (nE nx1 en1 (pw f)) ∧ wFirst (nD nx1 nx2 en1 en2) (pw f)
theorem C8_c {h : am_H} {cap : Nat} {q : Nat → Nat} {N : Nat} {pw pw' : Nat → List Nat} {fr sb fr' sb' : Nat → Int32} {χ : Nat → Nat} (c : C8 P1 P2 nx1 nx2 h cap q N pw fr sb χ) (hw : ∀ i, i < N → pw' i = pw i) (hf : ∀ i, i < N → fr' i = fr i) (hs : ∀ i, i < N → sb' i = sb i) : C8 P1 P2 nx1 nx2 h cap q N pw' fr' sb' χ := ⟨c.1, c.2.1, fun i hi => by rw [hw i hi, hf i hi, hs i hi]; exact c.2.2.1 i hi, c.2.2.2⟩
theorem frI_new {pf : Nat → Nat} {N k : Nat} (hN : 1 ≤ N) (i : Nat) : frI (fun i => if i = N then k else pf i) i = (if i = N then nI k else frI pf i) := by
  show (if i = 0 then Int32.ofInt (-1) else nI (if i = N then k else pf i)) = (if i = N then nI k else (if i = 0 then Int32.ofInt (-1) else nI (pf i)))
  by_cases c : i = N
  · rw [if_neg (by omega), if_pos c, if_pos c]
  · rw [if_neg c, if_neg c]
theorem tl8_step {h : am_H} {cap : Nat} {q : Nat → Nat} {m1 e1 r1 m2 e2 r2 : Nat} (cm : CM h m1 e1 r1 m2 e2 r2 P1 P2 nx1 nx2 en1 en2) (sp : sep6 q m1 e1 r1 m2 e2 r2) (hcap : P1 + P2 + 1 ≤ cap) (hc2 : cap ≤ 100000) {N : Nat} {pw : Nat → List Nat} {pf pa : Nat → Nat} {k a : Nat} (hk : k < N) (ha : a < 24) (g : TC P1 P2 nx1 nx2 en1 en2 h cap q N pw pf pa k a) (x y : Nat) :
    ∃ h' N' pw' pf' pa', (∀ F, 10000 ≤ F → g_X1_tells (F + 1) 2 x y (nI k) (nI a) h = g_X1_tells F 2 x y (nI k) (nI (a + 1)) h') ∧ frC q h h' ∧ N ≤ N' ∧ (TC P1 P2 nx1 nx2 en1 en2 h' cap q N' pw' pf' pa' k (a + 1) ∨ ∃ f, TF P1 P2 nx1 nx2 en1 en2 h' cap q N' pw' pf' pa' f) := by
  obtain ⟨⟨χ, ρ, c, u⟩, hN, hp, hc, hno, h5⟩ := g
  have c' := c
  obtain ⟨cr, c4, crow, cχ⟩ := c'
  have cm' := cm
  obtain ⟨a1, a2, M1, M2, a5, ⟨b1, b2, b3, b4⟩, a7, a8⟩ := cm'
  obtain ⟨A7, l7, n7, K7⟩ := cr.1 7 (by decide) (by decide)
  obtain ⟨A8, l8, n8, K8⟩ := cr.1 8 (by decide) (by decide)
  have w24 := BW_24 hp.1 k hk
  have u24 : ∀ b, b ∈ a :: pw k → b < 24 := fun b hb => (List.mem_cons.mp hb).elim (fun e => by rw [e]; exact ha) (w24 b)
  have mm : ¬ Int32.ofInt 24 ≤ nI a := nI_ge (a := a) (b := 24) (by omega) (by omega)
  have vk : am_vp (nI k) cap = true := hp_vp (by omega) (by omega)
  have ck : Int32.toNatClampNeg (nI k) = k := nI_clamp (by omega)
  obtain ⟨q7, q8, _, _⟩ := crow k hk
  obtain ⟨h', st, fr', res⟩ := mt_8 cm sp c hcap hc2 hN u h5 u24 (nI k) (nI a)
  have un : ∀ F, 10000 ≤ F → g_X1_tells (F + 1) 2 x y (nI k) (nI a) h = g_X1_tells F 2 x y (nI k) (nI (a + 1)) h' := by
    intro F hF
    rw [g_X1_tells]
    simp only [show Nat.beq 2 0 = false from rfl, show Nat.beq 2 1 = false from rfl, cond_false]
    rw [if_neg mm, h5, if_pos rfl, A7, b_some, hp_ln K7, b_some, vk, cond_true, ck, q7, lb_8 cm w24 ha, b2s, A8, b_some, hp_ln K8, b_some, vk, cond_true, q8, rb_8 cm w24 ha, b2s, st F hF, b2s, hp_1]
  have N1 := hp.1.1
  rcases res with ⟨χ', c1, u1, eq, h5'⟩ | ⟨χ', ρ', c1, u1, hNW, res⟩
  · refine ⟨h', N, pw, pf, pa, un, fr', Nat.le_refl _, Or.inl ⟨⟨χ', ρ, c1, u1⟩, hN, BP_skip hp, HC_skip hc (Or.inr ?_), hno, h5'⟩⟩
    intro z hz hd
    rcases eq z hz with h1 | ⟨i, hi, hdi⟩
    · exfalso
      rw [nA_L (mPl_lt b1 a7) u24 z, nA_R (mPl_lt b3 a8) u24 z] at h1
      exact hd (Bool.eq_iff_iff.mpr h1)
    · exact ⟨i, hi, hdi, BP_lt hp hk hi⟩
  · have cc : C8 P1 P2 nx1 nx2 h' cap q (N + 1) (fun i => if i = N then a :: pw k else pw i) (frI (fun i => if i = N then k else pf i)) (frI (fun i => if i = N then a else pa i)) χ' := C8_c c1 (fun _ _ => rfl) (fun i _ => frI_new N1 i) (fun i _ => frI_new N1 i)
    have bp := BP_add hp hk ha
    have hw' : ∀ i, i < N → (fun i => if i = N then a :: pw k else pw i) i = pw i := fun i hi => if_neg (by omega)
    have hc' : HC (N + 1) (fun i => if i = N then a :: pw k else pw i) (nD nx1 nx2 en1 en2) k (a + 1) := by
      refine HC_skip (HC_mono hc (Nat.le_succ _) hw' hk) (Or.inl ⟨N, by omega, ?_⟩)
      show (if N = N then a :: pw k else pw N) = a :: (if k = N then a :: pw k else pw k)
      rw [if_pos rfl, if_neg (by omega)]
    refine ⟨h', N + 1, fun i => if i = N then a :: pw k else pw i, fun i => if i = N then k else pf i, fun i => if i = N then a else pa i, un, fr', Nat.le_succ _, ?_⟩
    rcases res with ⟨hd, h5'⟩ | ⟨hd, h5', h0'⟩
    · left
      refine ⟨⟨χ', ρ', cc, u1⟩, hNW, bp, hc', ?_, h5'⟩
      intro i hi
      show ¬ nD nx1 nx2 en1 en2 (if i = N then a :: pw k else pw i)
      by_cases ci : i = N
      · rw [if_pos ci]; exact hd
      · rw [if_neg ci]; exact hno i (by omega)
    · right
      refine ⟨N, ⟨χ', cc⟩, hNW, bp.1, by omega, h5', (show am_I h' 19 0 = bI (nE nx1 en1 (if N = N then a :: pw k else pw N)) by rw [if_pos rfl]; exact h0'), ?_⟩
      refine hc_first (k := k) (a := a + 1) (by omega) bp.1 (fun _ => ⟨if_pos rfl, ?_⟩) hc' (by omega) ?_ (show nD nx1 nx2 en1 en2 (if N = N then a :: pw k else pw N) by rw [if_pos rfl]; exact hd)
      · show (if N = N then a else pa N) < a + 1
        rw [if_pos rfl]; omega
      · intro i hi
        show ¬ nD nx1 nx2 en1 en2 (if i = N then a :: pw k else pw i)
        rw [if_neg (by omega)]; exact hno i hi
/-- what tells answers -/
def TR8 (P1 P2 : Nat) (nx1 nx2 : Nat → Option Nat) (en1 en2 : Nat → Bool) (h : am_H) (cap : Nat) (q : Nat → Nat) (b : Bool) : Prop := ∃ N pw pf pa, (b = false ∧ am_I h 19 5 = Int32.ofInt (-1) ∧ ∀ u, (∀ a, a ∈ u → a < 24) → ¬ nD nx1 nx2 en1 en2 u) ∨ (b = true ∧ ∃ f, TF P1 P2 nx1 nx2 en1 en2 h cap q N pw pf pa f)
theorem tl8_found {h : am_H} {cap : Nat} {q : Nat → Nat} {N : Nat} {pw : Nat → List Nat} {pf pa : Nat → Nat} {f : Nat} (t : TF P1 P2 nx1 nx2 en1 en2 h cap q N pw pf pa f) (hP : P1 + P2 ≤ 100000) (x y : Nat) (k : Int32) (F : Nat) : g_X1_tells (F + 1) 1 x y k 0 h = some ((bI true, h), 0, 0) := by
  obtain ⟨_, hN, _, hf, h5, _, _⟩ := t
  have ne : ¬ am_I h 19 5 = Int32.ofInt (-1) := by rw [h5]; exact nI_m1ne (by omega)
  rw [g_X1_tells]
  simp only [show Nat.beq 1 0 = false from rfl, show Nat.beq 1 1 = true from rfl, cond_false, cond_true, am_let]
  rw [if_neg ne, b_some, show am_b01 (Int32.ofInt 1) = true from rfl, cond_true, if_neg ne]
  split
  · rfl
  · split <;> rfl
theorem tl8_in {cap : Nat} {q : Nat → Nat} {m1 e1 r1 m2 e2 r2 : Nat} (sp : sep6 q m1 e1 r1 m2 e2 r2) (hcap : P1 + P2 + 1 ≤ cap) (hc2 : cap ≤ 100000) {k : Nat} (x y : Nat) : ∀ (d a : Nat) (h : am_H) (N : Nat) (pw : Nat → List Nat) (pf pa : Nat → Nat), a + d = 24 → k < N → CM h m1 e1 r1 m2 e2 r2 P1 P2 nx1 nx2 en1 en2 → TC P1 P2 nx1 nx2 en1 en2 h cap q N pw pf pa k a →
    ∃ h' N' pw' pf' pa' c, c ≤ d + 1 ∧ (∀ F, 10000 ≤ F → g_X1_tells (F + c) 2 x y (nI k) (nI a) h = g_X1_tells F 1 x y (nI (k + 1)) 0 h') ∧ frC q h h' ∧ N ≤ N' ∧ (TC P1 P2 nx1 nx2 en1 en2 h' cap q N' pw' pf' pa' (k + 1) 0 ∨ ∃ f, TF P1 P2 nx1 nx2 en1 en2 h' cap q N' pw' pf' pa' f) := by
  intro d
  induction d with
  | zero =>
    intro a h N pw pf pa ha hk cm g
    have : a = 24 := by omega
    subst this
    obtain ⟨p, hN, hp, hc, hno, h5⟩ := g
    refine ⟨h, N, pw, pf, pa, 1, by omega, fun F hF => ?_, frC_r q h, Nat.le_refl _, Or.inl ⟨p, hN, BP_next hp, HC_next hc, hno, h5⟩⟩
    rw [g_X1_tells]
    simp only [show Nat.beq 2 0 = false from rfl, show Nat.beq 2 1 = false from rfl, cond_false]
    rw [if_pos (by decide), hp_1]
  | succ d ih =>
    intro a h N pw pf pa ha hk cm g
    obtain ⟨h1, N1, pw1, pf1, pa1, e1', f1, l1, res⟩ := tl8_step cm sp hcap hc2 hk (by omega) g x y
    rcases res with g1 | ⟨f, t⟩
    · obtain ⟨h2, N2, pw2, pf2, pa2, c, hc, e2', f2, l2, res2⟩ := ih (a + 1) h1 N1 pw1 pf1 pa1 (by omega) (by omega) (CM_fr cm f1 sp) g1
      refine ⟨h2, N2, pw2, pf2, pa2, c + 1, by omega, fun F hF => ?_, frC_t f1 f2, by omega, res2⟩
      rw [← Nat.add_assoc F c 1, e1' (F + c) (by omega), e2' F hF]
    · refine ⟨h1, N1, pw1, pf1, pa1, 2, by omega, fun F hF => ?_, f1, l1, Or.inr ⟨f, t⟩⟩
      have h5 := t.2.2.2.2.1
      have ne : ¬ am_I h1 19 5 = Int32.ofInt (-1) := by
        rw [h5]
        have := t.2.2.2.1
        have := t.2.1
        exact nI_m1ne (by omega)
      rw [show F + 2 = (F + 1) + 1 from rfl, e1' (F + 1) (by omega), g_X1_tells]
      simp only [show Nat.beq 2 0 = false from rfl, show Nat.beq 2 1 = false from rfl, cond_false]
      by_cases c24 : Int32.ofInt 24 ≤ nI (a + 1)
      · rw [if_pos c24, hp_1]
      · rw [if_neg c24, if_neg ne, hp_1]
theorem tl8_out {cap : Nat} {q : Nat → Nat} {m1 e1 r1 m2 e2 r2 : Nat} (sp : sep6 q m1 e1 r1 m2 e2 r2) (hcap : P1 + P2 + 1 ≤ cap) (hc2 : cap ≤ 100000) (x y : Nat) : ∀ (d k : Nat) (h : am_H) (N : Nat) (pw : Nat → List Nat) (pf pa : Nat → Nat), k + d = P1 + P2 → k ≤ N → CM h m1 e1 r1 m2 e2 r2 P1 P2 nx1 nx2 en1 en2 → TC P1 P2 nx1 nx2 en1 en2 h cap q N pw pf pa k 0 →
    ∃ h' b c, c ≤ 26 * d + 1 ∧ (∀ F, 10000 ≤ F → g_X1_tells (F + c) 1 x y (nI k) 0 h = some ((bI b, h'), 0, 0)) ∧ frC q h h' ∧ TR8 P1 P2 nx1 nx2 en1 en2 h' cap q b := by
  intro d
  have fin : ∀ (k : Nat) (h : am_H) (N : Nat) (pw : Nat → List Nat) (pf pa : Nat → Nat), N ≤ k → k ≤ N → TC P1 P2 nx1 nx2 en1 en2 h cap q N pw pf pa k 0 → (∀ F, g_X1_tells (F + 1) 1 x y (nI k) 0 h = some ((bI false, h), 0, 0)) ∧ TR8 P1 P2 nx1 nx2 en1 en2 h cap q false := by
    intro k h N pw pf pa hle hle' g
    have : k = N := by omega
    subst this
    obtain ⟨⟨χ, ρ, c, u⟩, hN, hp, hc, hno, h5⟩ := g
    refine ⟨fun F => ?_, k, pw, pf, pa, Or.inl ⟨rfl, h5, hc_none hp.1 hc hno⟩⟩
    rw [g_X1_tells]
    simp only [show Nat.beq 1 0 = false from rfl, show Nat.beq 1 1 = true from rfl, cond_false, cond_true, am_let]
    rw [h5, if_pos rfl, b_some, show am_b01 (Int32.ofInt 0) = true from rfl, cond_true, c.2.1, if_pos (Int32.le_refl _)]
    rfl
  induction d with
  | zero =>
    intro k h N pw pf pa hk hkN cm g
    have hN := g.2.1
    obtain ⟨e, t⟩ := fin k h N pw pf pa (by omega) hkN g
    exact ⟨h, false, 1, by omega, fun F _ => e F, frC_r q h, t⟩
  | succ d ih =>
    intro k h N pw pf pa hk hkN cm g
    by_cases hle : N ≤ k
    · obtain ⟨e, t⟩ := fin k h N pw pf pa hle hkN g
      exact ⟨h, false, 1, by omega, fun F _ => e F, frC_r q h, t⟩
    · have hN := g.2.1
      have h5 := g.2.2.2.2.2
      obtain ⟨χ, ρ, c, u⟩ := g.1
      have a5 := cm.2.2.2.2.1
      obtain ⟨h1, N1, pw1, pf1, pa1, c1, hc1, e1', f1, l1, res⟩ := tl8_in (m1 := m1) (e1 := e1) (r1 := r1) (m2 := m2) (e2 := e2) (r2 := r2) sp hcap hc2 (k := k) x y 24 0 h N pw pf pa rfl (by omega) cm g
      have mm : ¬ nI N ≤ nI k := nI_ge (a := k) (b := N) (by omega) (by omega)
      have m2' : ¬ nI (P1 + P2) < nI k := by rw [nI_ltI (by omega) (by omega)]; omega
      have un : ∀ F, 10000 ≤ F → g_X1_tells (F + c1 + 1) 1 x y (nI k) 0 h = g_X1_tells F 1 x y (nI (k + 1)) 0 h1 := by
        intro F hF
        rw [g_X1_tells]
        simp only [show Nat.beq 1 0 = false from rfl, show Nat.beq 1 1 = true from rfl, cond_false, cond_true, am_let]
        rw [c.2.1, if_neg mm, a5, if_neg m2', h5, if_pos rfl]
        exact (show g_X1_tells (F + c1) 2 x y (nI k) (nI 0) h = _ from e1' F hF)
      rcases res with g1 | ⟨f, t⟩
      · obtain ⟨h2, b, c2, hc2', e2', f2, t2⟩ := ih (k + 1) h1 N1 pw1 pf1 pa1 (by omega) (by omega) (CM_fr cm f1 sp) g1
        refine ⟨h2, b, c2 + c1 + 1, by omega, fun F hF => ?_, frC_t f1 f2, t2⟩
        rw [show F + (c2 + c1 + 1) = (F + c2) + c1 + 1 from by omega, un (F + c2) (by omega), e2' F hF]
      · refine ⟨h1, true, 1 + c1 + 1, by omega, fun F hF => ?_, f1, N1, pw1, pf1, pa1, Or.inr ⟨rfl, f, t⟩⟩
        rw [show F + (1 + c1 + 1) = (F + 1) + c1 + 1 from by omega, un (F + 1) (by omega), tl8_found t (by omega) x y _ F]
end
