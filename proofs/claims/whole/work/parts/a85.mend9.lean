/-! ===== the smallest mend: the reference seeks it ===== -/
/-- rules and state as the reference's rows hold them, whatever other letter is tried -/
def N9 (h : am_H) (r : TR) (na : Nat → Nat) (s : TS) : Prop := am_I h 51 11 = nI r.rm ∧ (∀ f t, f < 3 → t < 3 → f ≠ t → am_I h 59 (3 * f + t) = nI (r.k (pn f t)) ∧ am_I h 78 (3 * f + t) = nI (s.2 (pn f t))) ∧ (∀ o, o < 3 → am_I h 77 o = nI (s.1 o)) ∧ (∀ o, o < 3 → na o ≤ 15 ∧ ((am_I h 58 o = Int32.ofInt (-1) ∧ na o = 0 ∧ ∀ i j, 1 ≤ i → bt (r.fo o j) i = false) ∨ ∃ b, b < 8 ∧ am_I h 58 o = nI b ∧ am_I h 55 b = nI (na o) ∧ (∀ j, j < 16 → am_I h 54 (16 * b + j) = r.fo o j) ∧ (∀ i, 1 ≤ i → i ≤ na o → am_I h 53 (16 * b + i) = nI (100 * r.aw o i + 10 * r.aq o i + r.al o i) ∧ r.aw o i < 2 ∧ r.aq o i < 3 ∧ r.al o i < 4) ∧ ∀ i, i < 16 → 1 ≤ i → r.av o i → i ≤ na o))
theorem N9_T {h : am_H} {r : TR} {na : Nat → Nat} {s : TS} (n : N9 h r na s) (e40 : am_I h 51 40 = Int32.ofInt (-1)) : T9 h r s := by
  obtain ⟨n1, n2, n3, n4⟩ := n
  refine ⟨n1, n2, n3, fun o ho => ?_⟩
  rcases (n4 o ho).2 with ⟨a, -, b⟩ | ⟨b, hb, e69, -, ef, ec, ev⟩
  · exact Or.inl ⟨a, b⟩
  · refine Or.inr ⟨b, hb, e69, ef, fun i hi h1 hv => Or.inr ⟨fun q => ?_, (ec i h1 (ev i hi h1 hv)).1⟩⟩
    rw [e40] at q
    exact nI_m1ne (show o < 2 ^ 31 by omega) q.1.symm
theorem N9_lt {h : am_H} {r : TR} {na : Nat → Nat} {s : TS} (n : N9 h r na s) {o i l : Nat} (hi : i < 16) (ho : o < 3) (e40 : am_I h 51 40 = nI o) (e41 : am_I h 51 41 = nI i) (e42 : am_I h 51 42 = nI l) : T9 h (r.lt o i l) s := by
  obtain ⟨n1, n2, n3, n4⟩ := n
  refine ⟨n1, n2, n3, fun o' ho' => ?_⟩
  rcases (n4 o' ho').2 with ⟨a, -, b⟩ | ⟨b, hb, e69, -, ef, ec, ev⟩
  · exact Or.inl ⟨a, b⟩
  · refine Or.inr ⟨b, hb, e69, ef, fun i' hi' h1 hv => ?_⟩
    obtain ⟨c1, c2, c3, c4⟩ := ec i' h1 (ev i' hi' h1 hv)
    by_cases q : o' = o ∧ i' = i
    · refine Or.inl ⟨by rw [q.1]; exact e40, by rw [q.2]; exact e41, ?_, r.al o' i', c4, c1⟩
      rw [e42]
      show nI l = nI (if o' = o ∧ i' = i then l else r.al o' i')
      rw [if_pos q]
    · refine Or.inr ⟨fun x => q ?_, ?_⟩
      · rw [e40, e41] at x
        exact ⟨((nI_inj (by omega) (by omega)).mp x.1).symm, ((nI_inj (by omega) (by omega)).mp x.2).symm⟩
      · rw [lt_al q]; exact c1
/-- what stays while the reference tries mends -/
def frM9 (h h' : am_H) : Prop := (h'.1 = h.1 ∧ am_K h' = am_K h ∧ am_A h' = am_A h) ∧ (∀ q, q ≠ 80 → am_J h' q = am_J h q) ∧ (∀ q, q ≠ 51 → (q < 77 ∨ 86 < q) → am_I h' q = am_I h q) ∧ (∀ k, k < 40 ∨ k = 43 ∨ (44 < k ∧ k < 50) ∨ k = 54 ∨ k = 55 ∨ 56 < k → am_I h' 51 k = am_I h 51 k)
theorem frM9_r (h : am_H) : frM9 h h := ⟨⟨rfl, rfl, rfl⟩, fun _ _ => rfl, fun _ _ _ => rfl, fun _ _ => rfl⟩
theorem frM9_t {a b c : am_H} (f : frM9 a b) (g : frM9 b c) : frM9 a c := by
  obtain ⟨⟨f1, f2, f3⟩, f4, f5, f6⟩ := f
  obtain ⟨⟨g1, g2, g3⟩, g4, g5, g6⟩ := g
  exact ⟨⟨g1.trans f1, g2.trans f2, g3.trans f3⟩, fun q q1 => (g4 q q1).trans (f4 q q1), fun q a1 a2 => (g5 q a1 a2).trans (f5 q a1 a2), fun k b1 => (g6 k b1).trans (f6 k b1)⟩
theorem frM9_A {h h' : am_H} (f : frA9 h h') : frM9 h h' := ⟨f.1, f.2.1, f.2.2.1, fun k hk => f.2.2.2.1 k (by omega) (by omega) (by omega) (by omega) (by omega) (by omega)⟩
theorem frM9_s (h : am_H) {k : Nat} (hk : k = 40 ∨ k = 41 ∨ k = 42 ∨ k = 52) (x : Int32) : frM9 h (am_sI h 51 k x) := ⟨⟨rfl, rfl, rfl⟩, fun _ _ => rfl, fun q hq _ => hp_I' _ _ _ hq, fun j hj => by rw [hp_I, upd_ne (by omega)]⟩
/-- the reference's talk, whatever other letter is tried -/
def P9m (h : am_H) (r : TR) (sd : Nat → Bool) (na : Nat → Nat) (s : TS) : Prop := N9 h r na s ∧ Z9 h ∧ sd9 h sd ∧ r.sk s
theorem N9_c {h h' : am_H} {r : TR} {na : Nat → Nat} {s : TS} (n : N9 h r na s) (e1 : am_I h' 51 11 = am_I h 51 11) (e2 : ∀ q, q = 53 ∨ q = 54 ∨ q = 55 ∨ q = 58 ∨ q = 59 ∨ q = 77 ∨ q = 78 → am_I h' q = am_I h q) : N9 h' r na s := by
  unfold N9
  rw [e1, e2 53 (by decide), e2 54 (by decide), e2 55 (by decide), e2 58 (by decide), e2 59 (by decide), e2 77 (by decide), e2 78 (by decide)]
  exact n
theorem P9m_s {h : am_H} {r : TR} {sd : Nat → Bool} {na : Nat → Nat} {s : TS} (p : P9m h r sd na s) {k : Nat} (hk : k = 40 ∨ k = 41 ∨ k = 42 ∨ k = 52) (x : Int32) : P9m (am_sI h 51 k x) r sd na s := by
  obtain ⟨n, z, d, sk⟩ := p
  have e : ∀ q, q ≠ 51 → am_I (am_sI h 51 k x) q = am_I h q := fun q hq => hp_I' _ _ _ hq
  exact ⟨N9_c n (by rw [hp_I, upd_ne (by omega)]) (fun q hq => e q (by omega)), by unfold Z9; rw [e 78 (by decide)]; exact z, fun o ho => by rw [e 58 (by decide)]; exact d o ho, sk⟩
theorem P9m_A {h h' : am_H} {r r' : TR} {sd : Nat → Bool} {na : Nat → Nat} {s : TS} (p : P9m h r sd na s) (f : frA9 h h') (t : T9 h' r' s) : P9m h' r sd na s := by
  obtain ⟨⟨n1, n2, n3, n4⟩, z, d, sk⟩ := p
  have e : ∀ q, q < 77 → q ≠ 51 → am_I h' q = am_I h q := fun q a b => f.2.2.1 q b (Or.inl a)
  refine ⟨⟨by rw [f.2.2.2.1 11 (by decide) (by decide) (by decide) (by decide) (by decide) (by decide)]; exact n1, fun a b ha hb hab => ⟨by rw [e 59 (by decide) (by decide)]; exact (n2 a b ha hb hab).1, (t.2.1 a b ha hb hab).2⟩, t.2.2.1, ?_⟩, f.2.2.2.2 z, sd9_A d f, sk⟩
  rw [e 58 (by decide) (by decide), e 55 (by decide) (by decide), e 54 (by decide) (by decide), e 53 (by decide) (by decide)]
  exact n4
/-- the loops' end -/
theorem me_end {h : am_H} {r : TR} (hr : r.all) {sd : Nat → Bool} {na : Nat → Nat} {s : TS} (p : P9m h r sd na s) (a1 x2 x5 x6 x7 x8 : Int32) (c : Int32.ofInt 3 ≤ x6 ∨ ¬ x5 = Int32.ofInt (-1)) (F : Nat) (hF : 100 ≤ F) : ∃ h', g_X9_mend (F + 1) 0 a1 x2 (lL (wN s)) x5 x6 x7 x8 h = some (x5, h') ∧ U9 h' r sd s ∧ am_I h' 51 40 = Int32.ofInt (-1) ∧ am_I h' 51 52 = nI 0 ∧ P9m h' r sd na s ∧ frM9 h h' := by
  have p1 := P9m_s p (k := 40) (by decide) (Int32.ofInt (-1))
  have p2 := P9m_s p1 (k := 52) (by decide) (Int32.ofInt 0)
  have e40 : am_I (am_sI (am_sI h 51 40 (Int32.ofInt (-1))) 51 52 (Int32.ofInt 0)) 51 40 = Int32.ofInt (-1) := by rw [hp_I, upd_ne (by decide), hp_I, upd_at]
  have t2 := N9_T p2.1 e40
  obtain ⟨h', e, t', f⟩ := ly_9 t2 p.2.2.2 (F - 20)
  rw [show F - 20 + 20 = F from by omega] at e
  have fA := frA9_M (frML_Z f)
  refine ⟨h', ?_, ⟨t', fA.2.2.2.2 p2.2.1, sd9_A p2.2.2.1 fA, p.2.2.2⟩, by rw [f.1.2 51 (by decide) (by decide)]; exact e40, by rw [f.1.2 51 (by decide) (by decide), hp_I, upd_at]; rfl, P9m_A p2 fA t', frM9_t (frM9_s h (by decide) _) (frM9_t (frM9_s _ (by decide) _) (frM9_A fA))⟩
  rw [g_X9_mend, q00, cond_true]
  dsimp only [am_let]
  by_cases c1 : Int32.ofInt 3 ≤ x6
  · rw [if_pos c1, e, b2s]
  · rw [if_neg c1, if_neg (c.resolve_left c1), e, b2s]
/-- an act's code, no other letter being tried -/
theorem ac_9 {h : am_H} {r : TR} {sd : Nat → Bool} {na : Nat → Nat} {s : TS} (p : P9m h r sd na s) (e40 : am_I h 51 40 = Int32.ofInt (-1)) {o i : Nat} (ho : o < 3) (h1 : 1 ≤ i) (hi : i ≤ na o) : ∃ c, f_X9_actOfSeat (nI o) (nI i) h = some (c, h) ∧ (c - c / (Int32.ofInt 10) * (Int32.ofInt 10)) = nI (r.al o i) ∧ r.al o i < 4 := by
  obtain ⟨hn, n4⟩ := p.1.2.2.2 o ho
  rcases n4 with ⟨-, z, -⟩ | ⟨b, hb, e69, -, -, ec, -⟩
  · omega
  · obtain ⟨e64, a, q, l⟩ := ec i h1 hi
    refine ⟨nI (100 * r.aw o i + 10 * r.aq o i + r.al o i), ?_, (cd9 _ a _ q _ l).2.1, l⟩
    unfold f_X9_actOfSeat
    rw [hp_vp ho (by decide), cond_true, nI_clamp (show o < 2 ^ 31 by omega), e69, g9_ix, hp_vp (show 16 * b + i < 128 by omega) (by decide), cond_true, nI_clamp (show 16 * b + i < 2 ^ 31 by omega), e40, if_neg (fun q => nI_m1ne (show o < 2 ^ 31 by omega) q.symm), b_some, e64]
theorem tripI_ne {o i l w : Nat} (ho : o < 3) (hi : i < 16) (hl : l < 4) : ¬ tripI (some (o, i, l)) w = Int32.ofInt (-1) := by
  show ¬ (if w = 0 then nI o else if w = 1 then nI i else nI l) = Int32.ofInt (-1)
  split
  · exact nI_m1ne (by omega)
  · split
    · exact nI_m1ne (by omega)
    · exact nI_m1ne (by omega)
/-- the letters of one act -/
theorem md2_9 {r : TR} (hr : r.all) {sd : Nat → Bool} {na : Nat → Nat} {s : TS} {o i w : Nat} (ho : o < 3) (h1 : 1 ≤ i) (hi : i ≤ na o) (hn : na o ≤ 15) (hw : w < 3) (x2 : Int32) : ∀ (k : Nat), k ≤ 4 → ∀ (h : am_H) (F : Nat), 6000100 ≤ F → P9m h r sd na s →
    ∃ h' F', F ≤ F' ∧ P9m h' r sd na s ∧ frM9 h h' ∧ (∀ l, mdL r sd o i k = some l → l < 4) ∧ g_X9_mend (F + k + 1) 2 (nI w) x2 (lL (wN s)) (Int32.ofInt (-1)) (nI o) (nI i) (nI (4 - k)) h = g_X9_mend F' 1 (nI w) x2 (lL (wN s)) (tripI (match mdL r sd o i k with | some l => some (o, i, l) | none => none) w) (nI o) (nI (i + 1)) 0 h' := by
  intro k
  induction k with
  | zero =>
    intro _ h F hF p
    refine ⟨h, F, Nat.le_refl _, p, frM9_r h, (fun l e => by cases e), ?_⟩
    rw [show F + 0 + 1 = F + 1 from rfl, g_X9_mend, q20, cond_false, q21, cond_false, if_pos (show Int32.ofInt 4 ≤ nI (4 - 0) by decide), hp_1]
    rfl
  | succ k ih =>
    intro hk h F hF p
    have n4 : ¬ Int32.ofInt 4 ≤ nI (3 - k) := nI_ge (a := 3 - k) (b := 4) (by omega) (by decide)
    have e3 : 4 - (k + 1) = 3 - k := by omega
    have nx : nI (3 - k) + Int32.ofInt 1 = nI (4 - k) := by rw [hp_1, show 3 - k + 1 = 4 - k from by omega]
    have p0 := P9m_s p (k := 40) (by decide) (Int32.ofInt (-1))
    have e40 : am_I (am_sI h 51 40 (Int32.ofInt (-1))) 51 40 = Int32.ofInt (-1) := by rw [hp_I, upd_at]
    obtain ⟨c, ec, cl, hal⟩ := ac_9 p0 e40 ho h1 hi
    generalize hh4 : am_sI (am_sI (am_sI (am_sI (am_sI h 51 40 (Int32.ofInt (-1))) 51 40 (nI o)) 51 41 (nI i)) 51 42 (nI (3 - k))) 51 52 (Int32.ofInt 0) = h4
    have p4 : P9m h4 r sd na s := by
      rw [← hh4]
      exact P9m_s (P9m_s (P9m_s (P9m_s p0 (by decide) _) (by decide) _) (by decide) _) (by decide) _
    have f4 : frM9 h h4 := by
      rw [← hh4]
      exact frM9_t (frM9_s h (by decide) _) (frM9_t (frM9_s _ (by decide) _) (frM9_t (frM9_s _ (by decide) _) (frM9_t (frM9_s _ (by decide) _) (frM9_s _ (by decide) _))))
    have hd : ∀ X, (Option.bind ((if nI (r.al o i) = nI (3 - k) then some (Int32.ofInt 0) else some (Int32.ofInt 1))) fun y6 => (am_b2 ((if y6 = 0 then some ((Int32.ofInt (-1)), h4) else am_b2 (f_X9_isWell (F + k + 1) h4) fun r63 h64 => ((if r63 = 0 then some ((Int32.ofInt (-1)), h64) else (if nI w = 0 then some (nI o, h64) else (if nI w = (Int32.ofInt 1) then some (nI i, h64) else some (nI (3 - k), h64))))))) fun y59 h60 => (g_X9_mend (F + k + 1) 2 (nI w) x2 (lL (wN s)) y59 (nI o) (nI i) (nI (4 - k)) h60))) = X → g_X9_mend (F + (k + 1) + 1) 2 (nI w) x2 (lL (wN s)) (Int32.ofInt (-1)) (nI o) (nI i) (nI (4 - (k + 1))) h = X := by
      intro X hX
      rw [e3, show F + (k + 1) + 1 = (F + k + 1) + 1 from rfl, g_X9_mend, q20, cond_false, q21, cond_false, if_neg n4, if_pos rfl, ec, b2s, cl, hh4, nx]
      exact hX
    by_cases ca : 3 - k = r.al o i
    · have em : mdL r sd o i (k + 1) = mdL r sd o i k := by
        show (bif uD (wellT (r.lt o i (3 - k)) sd) && !Nat.beq (3 - k) (r.al o i) then some (3 - k) else mdL r sd o i k) = _
        rw [beq_t ca, Bool.not_true, Bool.and_false]; rfl
      rw [em]
      obtain ⟨h', F', hF', p', f', l', e⟩ := ih (by omega) h4 F hF p4
      refine ⟨h', F', hF', p', frM9_t f4 f', l', hd _ ?_⟩
      rw [if_pos (by rw [ca]), b_some, if_pos (show Int32.ofInt 0 = 0 from rfl), b2s]
      exact e
    · have hr' := lt_all4 hr (o := o) (i := i) (l := 3 - k) (by omega)
      have a40 : am_I h4 51 40 = nI o := by rw [← hh4, hp_I, upd_ne (by decide), hp_I, upd_ne (by decide), hp_I, upd_ne (by decide), hp_I, upd_at]
      have a41 : am_I h4 51 41 = nI i := by rw [← hh4, hp_I, upd_ne (by decide), hp_I, upd_ne (by decide), hp_I, upd_at]
      have a42 : am_I h4 51 42 = nI (3 - k) := by rw [← hh4, hp_I, upd_ne (by decide), hp_I, upd_at]
      have a52 : am_I h4 51 52 = nI 0 := by rw [← hh4, hp_I, upd_at]; rfl
      have t4 := N9_lt p4.1 (show i < 16 by omega) ho a40 a41 a42
      obtain ⟨h5, e5, u5, -, f5⟩ := we_9 hr' (sd := sd) (s := s) ⟨t4, p4.2.1, p4.2.2.1, p4.2.2.2⟩ (Or.inl a52) (F + k + 1) (by omega)
      have p5 := P9m_A p4 f5 u5.1
      have nal : ¬ nI (r.al o i) = nI (3 - k) := fun q => ca ((nI_inj (by omega) (by omega)).mp q).symm
      cases hwl : uD (wellT (r.lt o i (3 - k)) sd) with
      | false =>
        have em : mdL r sd o i (k + 1) = mdL r sd o i k := by
          show (bif uD (wellT (r.lt o i (3 - k)) sd) && !Nat.beq (3 - k) (r.al o i) then some (3 - k) else mdL r sd o i k) = _
          rw [hwl, Bool.false_and]; rfl
        rw [em]
        obtain ⟨h', F', hF', p', f', l', e⟩ := ih (by omega) h5 F hF p5
        refine ⟨h', F', hF', p', frM9_t f4 (frM9_t (frM9_A f5) f'), l', hd _ ?_⟩
        rw [if_neg nal, b_some, if_neg (show ¬ Int32.ofInt 1 = 0 by decide), e5, b2s, hwl, if_pos (show bI false = 0 from rfl), b2s]
        exact e
      | true =>
        have em : mdL r sd o i (k + 1) = some (3 - k) := by
          show (bif uD (wellT (r.lt o i (3 - k)) sd) && !Nat.beq (3 - k) (r.al o i) then some (3 - k) else mdL r sd o i k) = _
          rw [hwl, beq_f ca]; rfl
        rw [em]
        have ev : (if nI w = 0 then some (nI o, h5) else (if nI w = (Int32.ofInt 1) then some (nI i, h5) else some (nI (3 - k), h5))) = some (tripI (some (o, i, 3 - k)) w, h5) := by
          have c : w = 0 ∨ w = 1 ∨ w = 2 := by omega
          rcases c with rfl | rfl | rfl <;> rfl
        have ne := tripI_ne (w := w) ho (show i < 16 by omega) (show 3 - k < 4 by omega)
        refine ⟨h5, F + k, by omega, p5, frM9_t f4 (frM9_A f5), fun l e => by injection e with e; omega, hd _ ?_⟩
        rw [if_neg nal, b_some, if_neg (show ¬ Int32.ofInt 1 = 0 by decide), e5, b2s, hwl, if_neg (show ¬ bI true = 0 by decide), ev, b2s, g_X9_mend, q20, cond_false, q21, cond_false]
        by_cases q : Int32.ofInt 4 ≤ nI (4 - k)
        · rw [if_pos q, hp_1]
        · rw [if_neg q, if_neg ne, hp_1]
/-- the acts of one office -/
theorem md1_9 {r : TR} (hr : r.all) {sd : Nat → Bool} {na : Nat → Nat} {s : TS} {o w : Nat} (ho : o < 3) (hn : na o ≤ 15) (hw : w < 3) (x2 : Int32) : ∀ (k : Nat), k ≤ na o → ∀ (h : am_H) (F : Nat), 6000200 ≤ F → P9m h r sd na s →
    ∃ h' F', F ≤ F' ∧ P9m h' r sd na s ∧ frM9 h h' ∧ (∀ x, mdA r sd o (na o) k = some x → x.1 < 16 ∧ x.2 < 4) ∧ g_X9_mend (F + 6 * k + 1) 1 (nI w) x2 (lL (wN s)) (Int32.ofInt (-1)) (nI o) (nI (na o + 1 - k)) 0 h = g_X9_mend F' 0 (nI w) x2 (lL (wN s)) (tripI (match mdA r sd o (na o) k with | some x => some (o, x.1, x.2) | none => none) w) (nI (o + 1)) 0 0 h' := by
  intro k
  induction k with
  | zero =>
    intro _ h F hF p
    refine ⟨h, F, Nat.le_refl _, p, frM9_r h, (fun x e => by cases e), ?_⟩
    obtain ⟨-, n4⟩ := p.1.2.2.2 o ho
    rw [show F + 6 * 0 + 1 = F + 1 from rfl, g_X9_mend, q10, cond_false, q11, cond_true, hp_vp ho (by decide), cond_true, nI_clamp (show o < 2 ^ 31 by omega)]
    rcases n4 with ⟨e69, -⟩ | ⟨b, hb, e69, e66, -⟩
    · rw [e69, if_pos rfl, hp_1]; rfl
    · rw [e69, if_neg (nI_m1ne (by omega)), hp_vp hb (by decide), cond_true, nI_clamp (show b < 2 ^ 31 by omega), e66, if_pos (show nI (na o) < nI (na o + 1 - 0) from (nI_ltI (by omega) (by omega)).mpr (by omega)), hp_1]; rfl
  | succ k ih =>
    intro hk h F hF p
    have ei : na o + 1 - (k + 1) = na o - k := by omega
    have i1 : 1 ≤ na o - k := by omega
    have i2 : na o - k ≤ na o := by omega
    have nx : na o - k + 1 = na o + 1 - k := by omega
    obtain ⟨-, n4⟩ := p.1.2.2.2 o ho
    rcases n4 with ⟨-, z, -⟩ | ⟨b, hb, e69, e66, -⟩
    · omega
    have hd : ∀ X, g_X9_mend (F + 6 * k + 6) 2 (nI w) x2 (lL (wN s)) (Int32.ofInt (-1)) (nI o) (nI (na o - k)) (nI (4 - 4)) h = X → g_X9_mend (F + 6 * (k + 1) + 1) 1 (nI w) x2 (lL (wN s)) (Int32.ofInt (-1)) (nI o) (nI (na o + 1 - (k + 1))) 0 h = X := by
      intro X hX
      rw [ei, show F + 6 * (k + 1) + 1 = (F + 6 * k + 6) + 1 from by omega, g_X9_mend, q10, cond_false, q11, cond_true, hp_vp ho (by decide), cond_true, nI_clamp (show o < 2 ^ 31 by omega), e69, if_neg (nI_m1ne (by omega)), hp_vp hb (by decide), cond_true, nI_clamp (show b < 2 ^ 31 by omega), e66, if_neg (fun q => by have := (nI_ltI (a := na o) (b := na o - k) (by omega) (by omega)).mp q; omega), if_pos rfl]
      exact hX
    obtain ⟨h1, F1, hF1, p1, f1, l1, e1⟩ := md2_9 hr ho i1 i2 hn hw x2 4 (Nat.le_refl _) h (F + 6 * k + 1) (by omega) p
    rw [show F + 6 * k + 1 + 4 + 1 = F + 6 * k + 6 from by omega] at e1
    rw [mdA_s]
    cases hm : mdL r sd o (na o - k) 4 with
    | none =>
      rw [hm] at e1
      obtain ⟨h', F', hF', p', f', l', e'⟩ := ih (by omega) h1 (F1 - 6 * k - 1) (by omega) p1
      rw [show F1 - 6 * k - 1 + 6 * k + 1 = F1 from by omega] at e'
      refine ⟨h', F', by omega, p', frM9_t f1 f', l', hd _ ?_⟩
      rw [e1, nx]
      exact e'
    | some l =>
      rw [hm] at e1
      have ne := tripI_ne (w := w) ho (show na o - k < 16 by omega) (l1 l hm)
      refine ⟨h1, F1 - 1, by omega, p1, f1, fun x e => by injection e with e; rw [← e]; exact ⟨by show na o - k < 16; omega, l1 l hm⟩, hd _ ?_⟩
      rw [e1, show F1 = (F1 - 1) + 1 from by omega, g_X9_mend, q10, cond_false, q11, cond_true, hp_vp ho (by decide), cond_true, nI_clamp (show o < 2 ^ 31 by omega)]
      obtain ⟨-, n4'⟩ := p1.1.2.2.2 o ho
      rcases n4' with ⟨e69', z, -⟩ | ⟨b', hb', e69', e66', -⟩
      · omega
      · rw [e69', if_neg (nI_m1ne (by omega)), hp_vp hb' (by decide), cond_true, nI_clamp (show b' < 2 ^ 31 by omega), e66']
        by_cases q : nI (na o) < nI (na o - k + 1)
        · rw [if_pos q, hp_1]; rfl
        · rw [if_neg q, if_neg ne, hp_1]; rfl
/-- all offices -/
theorem md0_9 {r : TR} (hr : r.all) {sd : Nat → Bool} {na : Nat → Nat} {s : TS} {w : Nat} (hw : w < 3) (x2 : Int32) : ∀ (k : Nat), k ≤ 3 → ∀ (h : am_H) (F : Nat), 6000300 + 200 * k ≤ F → P9m h r sd na s →
    ∃ h', g_X9_mend F 0 (nI w) x2 (lL (wN s)) (Int32.ofInt (-1)) (nI (3 - k)) 0 0 h = some (tripI (mdO r sd na k) w, h') ∧ U9 h' r sd s ∧ am_I h' 51 40 = Int32.ofInt (-1) ∧ am_I h' 51 52 = nI 0 ∧ P9m h' r sd na s ∧ frM9 h h' := by
  intro k
  induction k with
  | zero =>
    intro _ h F hF p
    obtain ⟨h', e, rest⟩ := me_end hr p (nI w) x2 (Int32.ofInt (-1)) (nI (3 - 0)) 0 0 (Or.inl (by decide)) (F - 1) (by omega)
    rw [show F - 1 + 1 = F from by omega] at e
    exact ⟨h', e, rest⟩
  | succ k ih =>
    intro hk h F hF p
    have eo : 3 - (k + 1) = 2 - k := by omega
    have ho : 2 - k < 3 := by omega
    have hn := (p.1.2.2.2 (2 - k) ho).1
    obtain ⟨h1, F1, hF1, p1, f1, l1, e1⟩ := md1_9 hr ho hn hw x2 (na (2 - k)) (Nat.le_refl _) h (F - 1 - 6 * na (2 - k) - 1) (by omega) p
    rw [show F - 1 - 6 * na (2 - k) - 1 + 6 * na (2 - k) + 1 = F - 1 from by omega, show na (2 - k) + 1 - na (2 - k) = 1 from by omega] at e1
    have hd : g_X9_mend F 0 (nI w) x2 (lL (wN s)) (Int32.ofInt (-1)) (nI (3 - (k + 1))) 0 0 h = g_X9_mend (F - 1) 1 (nI w) x2 (lL (wN s)) (Int32.ofInt (-1)) (nI (2 - k)) (nI 1) 0 h := by
      rw [eo, show F = (F - 1) + 1 from by omega, g_X9_mend, q00, cond_true]
      dsimp only [am_let]
      rw [if_neg (show ¬ Int32.ofInt 3 ≤ nI (2 - k) from nI_ge (a := 2 - k) (b := 3) ho (by decide)), if_pos rfl]
      rfl
    rw [hd, e1, mdO_s]
    have nx : 2 - k + 1 = 3 - k := nx23 (Nat.le_of_succ_le_succ hk)
    cases hm : mdA r sd (2 - k) (na (2 - k)) (na (2 - k)) with
    | none =>
      obtain ⟨h', e, u, c1, c2, p', f'⟩ := ih (by omega) h1 F1 (by omega) p1
      refine ⟨h', ?_, u, c1, c2, p', frM9_t f1 f'⟩
      rw [nx]; exact e
    | some x =>
      have ne := tripI_ne (w := w) ho (l1 x hm).1 (l1 x hm).2
      obtain ⟨h', e, u, c1, c2, p', f'⟩ := me_end hr p1 (nI w) x2 (tripI (some (2 - k, x.1, x.2)) w) (nI (2 - k + 1)) 0 0 (Or.inr ne) (F1 - 1) (by omega)
      rw [show F1 - 1 + 1 = F1 from by omega] at e
      exact ⟨h', e, u, c1, c2, p', frM9_t f1 f'⟩
