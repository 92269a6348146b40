/-! ===== the reference meets all states: all steps of one state, all states ===== -/
theorem svList_c (k : Nat) (v : SV) (x : Nat × TS) (L : List (Nat × TS)) : svList k v (x :: L) = svList k (svStep k v x) L := rfl
theorem mo_9 {h : am_H} {k : Nat} (hk : k < 2000) {i : Nat} (c : am_I h 51 44 ≤ nI i ∨ am_I h 51 51 = nI 1) (x1 : Int64) (x3 : Int32) (F : Nat) : g_X9_meetAll (F + 1) 2 x1 x3 (nI k) (nI i) h = g_X9_meetAll F 1 x1 x3 (nI (k + 1)) 0 (am_sI h 85 (k + 1) (am_I h 51 56)) := by
  rw [g_X9_meetAll, q20, cond_false, q21, cond_false]
  dsimp only [am_let]
  rw [hp_1, hp_vp (show k + 1 < 2002 by omega) (by decide), cond_true, nI_clamp (by omega)]
  by_cases c0 : am_I h 51 44 ≤ nI i
  · rw [if_pos c0]
  · rw [if_neg c0, c.resolve_left c0, if_neg (show ¬ nI 1 = 0 by decide)]
theorem ml_9 {r : TR} (hr : r.ok) {k : Nat} {s : TS} (L : List (Nat × TS)) (hL : ∀ x, x ∈ L → x ∈ ts_all r s) (h96 : L.length ≤ 96) (hss : ∀ x, x ∈ L → r.sk x.2) (x1 : Int64) (x3 : Int32) (F : Nat) (hF : 8200 ≤ F) : ∀ (L2 : List (Nat × TS)) (i : Nat) (v : SV) (h : am_H), L.drop i = L2 → i + L2.length = L.length → svOk r v → v.sp = false → v.s k = s → Q9 h v → k < v.n → (∃ s0, T9 h r s0) → L9 h L → v.m + L2.length ≤ 180000 →
    ∃ F' h', F ≤ F' ∧ g_X9_meetAll (F + L2.length + 1) 2 x1 x3 (nI k) (nI i) h = g_X9_meetAll F' 1 x1 x3 (nI (k + 1)) 0 h' ∧ frML h h' ∧ (∃ s1, T9 h' r s1) ∧ (((svList k v L2).sp = false ∧ Q9 h' (svList k v L2) ∧ am_I h' 85 = upd (am_I h 85) (k + 1) (nI (svList k v L2).m)) ∨ ((svList k v L2).sp = true ∧ am_I h' 51 51 = nI 1)) := by
  intro L2
  induction L2 with
  | nil =>
    intro i v h hd hl ok hsp hs q hk ⟨s0, t⟩ l9 hm
    have k2 : k < 2000 := Nat.lt_of_lt_of_le hk ok.1.2
    have hl : i = L.length := by simpa using hl
    refine ⟨F, _, Nat.le_refl _, mo_9 k2 (Or.inl (by rw [l9.1, hl]; exact Int32.le_refl _)) x1 x3 F, frML_96 _ _ _, ⟨s0, T9_c t (fun _ _ => by rw [hp_I' _ _ _ (by decide)]) (fun p hp => by rw [hp_I' _ _ _ (by omega)])⟩, Or.inl ⟨hsp, Q9_96 q _ _, ?_⟩⟩
    rw [hp_I, q.2.2.1]; rfl
  | cons x L2 ih =>
    intro i v h hd hl ok hsp hs q hk ⟨s0, t⟩ l9 hm
    have k2 : k < 2000 := Nat.lt_of_lt_of_le hk ok.1.2
    have hi : L[i]? = some x := by
      have := congrArg (fun l => l[0]?) hd
      simp only [List.getElem?_drop, Nat.add_zero, List.getElem?_cons_zero] at this
      exact this
    have hx : x ∈ L := List.mem_of_getElem? hi
    have hl' : i + 1 + L2.length = L.length := by rw [← hl, List.length_cons]; omega
    have hd' : L.drop (i + 1) = L2 := by rw [← List.drop_drop, hd]; rfl
    rw [List.length_cons] at hm
    obtain ⟨h', e, f, t', l', e96, alt⟩ := mi_9 hr ok hsp q hk t l9 (by rw [hs]; exact hL) h96 hi (by omega) x1 x3 (F + L2.length + 1) (by omega)
    obtain ⟨ok', n', s'⟩ := svStep_ok ok hk (hss x hx)
    rw [List.length_cons, show F + (L2.length + 1) + 1 = F + L2.length + 1 + 1 from by omega, svList_c]
    rcases alt with ⟨sp', q'⟩ | ⟨sp', h51⟩
    · obtain ⟨m', _⟩ := svStep_m hsp sp'
      obtain ⟨F', h2, hF', e2, f2, t2, alt2⟩ := ih (i + 1) (svStep k v x) h' hd' hl' ok' sp' ((s' k hk).trans hs) q' (Nat.lt_of_lt_of_le hk n') t' l' (by rw [m']; omega)
      refine ⟨F', h2, hF', e.trans e2, frML_t f f2, t2, ?_⟩
      rw [e96] at alt2
      exact alt2
    · obtain ⟨s1, t1⟩ := t'
      refine ⟨F + L2.length, _, by omega, e.trans (mo_9 k2 (Or.inr h51) x1 x3 _), frML_t f (frML_96 _ _ _), ⟨s1, T9_c t1 (fun _ _ => by rw [hp_I' _ _ _ (by decide)]) (fun p hp => by rw [hp_I' _ _ _ (by omega)])⟩, Or.inr ⟨?_, ?_⟩⟩
      · rw [svList_sp _ _ sp']; exact sp'
      · rw [hp_I' _ _ _ (by decide)]; exact h51
