/-! ===== gathering: top of a valid text; begin and end of the reference's ===== -/
def gTop (s : GS) : Prop := s.aF 0 = Int32.ofInt 0 ∧ s.aL 0 = Int32.ofInt 0 ∧ s.aN 0 = false
theorem it_x {c : Int32} {d p e : Nat} (h : rd_it c d = some (p, e)) : (c = Int32.ofInt 59 ∧ e = d) ∨ (d ≠ 0 ∧ c = Int32.ofInt 43 ∧ e = d) ∨ (d ≠ 0 ∧ c = Int32.ofInt 125 ∧ e = d - 1) := by
  unfold rd_it at h
  split at h
  · next c1 => obtain ⟨rfl, rfl⟩ := am_i2 h; exact Or.inl ⟨c1, rfl⟩
  · split at h
    · cases h
    · next d0 =>
      split at h
      · next c1 => obtain ⟨rfl, rfl⟩ := am_i2 h; exact Or.inr (Or.inl ⟨d0, c1, rfl⟩)
      · split at h
        · next c1 => obtain ⟨rfl, rfl⟩ := am_i2 h; exact Or.inr (Or.inr ⟨d0, c1, rfl⟩)
        · cases h
theorem ev_it {sort o : Int32} {r : Nat → Int32} {m i : Nat} {s : GS} {p e : Nat} (h : rd_it (r i) s.d = some (p, e)) (ht : gTop s) : gTop (gEv sort o r m i s) ∧ (gEv sort o r m i s).d = e := by
  rcases it_x h with ⟨c, rfl⟩ | ⟨d0, c, rfl⟩ | ⟨d0, c, rfl⟩
  · rw [ev_skip (by rw [c]; decide) (by rw [c]; decide) (by rw [c]; decide) (by rw [c]; decide)]
    exact ⟨ht, rfl⟩
  · have ev : gEv sort o r m i s = gEnd s := by
      unfold gEv
      rw [if_neg (fun q => by rw [c] at q; exact absurd q.1 (by decide)), if_neg (by rw [c]; decide), if_pos c]
    rw [ev]
    refine ⟨⟨?_, ?_, ?_⟩, rfl⟩
    · show upd s.aF s.d _ 0 = _
      rw [upd_ne (by omega)]; exact ht.1
    · show upd s.aL s.d _ 0 = _
      rw [upd_ne (by omega)]; exact ht.2.1
    · show updB s.aN s.d _ 0 = _
      unfold updB; rw [if_neg (by omega)]; exact ht.2.2
  · have ev : gEv sort o r m i s = gClose (decide (i + 1 < m) && decide (r (i + 1) = Int32.ofInt 42)) s := by
      unfold gEv
      rw [if_neg (fun q => by rw [c] at q; exact absurd q.1 (by decide)), if_neg (by rw [c]; decide), if_neg (by rw [c]; decide), if_pos c, if_neg d0]
    rw [ev]
    have k : ∀ z, gTop (gClose z s) ∧ (gClose z s).d = s.d - 1 := by
      intro z
      have a1 : (gClose z s).aF 0 = upd s.aF s.d (s.aF s.d ||| s.rF s.d) 0 := by cases z <;> rfl
      have a2 : (gClose z s).aL 0 = upd s.aL s.d (s.aL s.d ||| s.rL s.d) 0 := by cases z <;> rfl
      have a3 : (gClose z s).aN 0 = updB s.aN s.d (s.aN s.d || s.rN s.d) 0 := by cases z <;> rfl
      refine ⟨⟨?_, ?_, ?_⟩, by cases z <;> rfl⟩
      · rw [a1, upd_ne (by omega)]; exact ht.1
      · rw [a2, upd_ne (by omega)]; exact ht.2.1
      · rw [a3]; unfold updB; rw [if_neg (by omega)]; exact ht.2.2
    exact k _
theorem run_top {sort o : Int32} {r : Nat → Int32} {m : Nat} : ∀ (k i ph : Nat) (s : GS), vl sort r k i ph s.d → ph ≤ 4 → s.d ≤ i → i + k ≤ 60 → gTop s → gTop (gRun sort o r m k i s) ∧ (gRun sort o r m k i s).d = 0 := by
  intro k
  induction k with
  | zero => intro i ph s hv _ _ _ ht; exact ⟨ht, (vl_0 hv).2⟩
  | succ k ih =>
    intro i ph s hv hp hd hi ht
    obtain ⟨p, e, hst, hv1⟩ := vl_s hv
    have hle := rd_step_le hp hst
    have ev : gTop (gEv sort o r m i s) ∧ (gEv sort o r m i s).d = e := by
      match ph, hp with
      | 0, _ =>
        have hst : (if r i = Int32.ofInt 123 then some (0, s.d + 1) else bif rd_st sort (r i) then some (1, s.d) else none) = some (p, e) := hst
        by_cases c1 : r i = Int32.ofInt 123
        · rw [if_pos c1] at hst
          obtain ⟨rfl, rfl⟩ := am_i2 hst
          have e1 : gEv sort o r m i s = gOpen s := by
            unfold gEv
            rw [if_neg (fun q => by rw [c1] at q; exact absurd q.1 (by decide)), if_pos c1, if_pos (by omega)]
          rw [e1]
          refine ⟨⟨?_, ?_, ?_⟩, rfl⟩
          · show upd s.aF (s.d + 1) (Int32.ofInt 0) 0 = _
            rw [upd_ne (by omega)]; exact ht.1
          · show upd s.aL (s.d + 1) (Int32.ofInt 0) 0 = _
            rw [upd_ne (by omega)]; exact ht.2.1
          · show updB s.aN (s.d + 1) false 0 = _
            unfold updB; rw [if_neg (by omega)]; exact ht.2.2
        · rw [if_neg c1] at hst
          cases hs : rd_st sort (r i)
          · rw [hs] at hst; cases hst
          · rw [hs] at hst
            obtain ⟨rfl, rfl⟩ := am_i2 (show some (1, s.d) = some (p, e) from hst)
            obtain ⟨x1, x2, x3, x4, x5⟩ := st_x hs
            rw [ev_skip x1 x2 x3 x4]
            exact ⟨ht, rfl⟩
      | 1, _ =>
        have hst : (bif rd_dig (r i) then (if sort = 0 then some (2, s.d) else if r i = r (i - 1) then none else some (2, s.d)) else none) = some (p, e) := hst
        cases hs : rd_dig (r i)
        · rw [hs] at hst; cases hst
        · rw [hs] at hst
          have hst : (if sort = 0 then some (2, s.d) else if r i = r (i - 1) then none else some (2, s.d)) = some (p, e) := hst
          have pe : e = s.d := by
            split at hst
            · obtain ⟨rfl, rfl⟩ := am_i2 hst; rfl
            · split at hst
              · cases hst
              · obtain ⟨rfl, rfl⟩ := am_i2 hst; rfl
          obtain ⟨x1, x2, x3, x4, x5⟩ := dig_x hs
          rw [ev_skip x1 x2 x3 x4]
          exact ⟨ht, pe.symm⟩
      | 2, _ =>
        have hst : (bif rd_let (r i) then some (3, s.d) else none) = some (p, e) := hst
        cases hs : rd_let (r i)
        · rw [hs] at hst; cases hst
        · rw [hs] at hst
          obtain ⟨rfl, rfl⟩ := am_i2 (show some (3, s.d) = some (p, e) from hst)
          have x : ¬ r i = Int32.ofInt 123 ∧ ¬ r i = Int32.ofInt 43 ∧ ¬ r i = Int32.ofInt 125 := by
            rcases let_cases hs with c | c | c | c <;> rw [c] <;> decide
          unfold gEv
          split
          · split
            · exact ⟨ht, rfl⟩
            · split
              · exact ⟨ht, rfl⟩
              · exact ⟨ht, rfl⟩
          · rw [if_neg x.1, if_neg x.2.1, if_neg x.2.2]
            exact ⟨ht, rfl⟩
      | 3, _ => exact ev_it (show rd_it (r i) s.d = some (p, e) from hst) ht
      | 4, _ =>
        have hst : (if r i = Int32.ofInt 42 then some (3, s.d) else rd_it (r i) s.d) = some (p, e) := hst
        by_cases c : r i = Int32.ofInt 42
        · rw [if_pos c] at hst
          obtain ⟨rfl, rfl⟩ := am_i2 hst
          rw [ev_skip (by rw [c]; decide) (by rw [c]; decide) (by rw [c]; decide) (by rw [c]; decide)]
          exact ⟨ht, rfl⟩
        · rw [if_neg c] at hst
          exact ev_it hst ht
    rw [gRun_s]
    exact ih (i + 1) p _ (by rw [ev.2]; exact hv1) hle.1 (by rw [ev.2]; omega) (by omega) ev.1
theorem or_0l (x : Int32) : Int32.ofInt 0 ||| x = x := by
  apply Int32.toBitVec.inj
  show 0#32 ||| x.toBitVec = x.toBitVec
  simp
/-- the end of both is the same -/
theorem gFin_0 {s : GS} (ht : gTop s) (hd : s.d = 0) : (gFin s).fol 0 = s.rF 0 ||| bI (s.rN 0) := by
  have e : (gFin s).fol 0 = upd s.fol 0 ((gEnd s).aF 0 ||| bI ((gEnd s).aN 0)) 0 := by
    show gJoinF s.n (upd s.fol 0 ((gEnd s).aF 0 ||| bI ((gEnd s).aN 0))) ((gEnd s).aL 0) (Int32.ofInt 1) 0 = _
    unfold gJoinF; rw [if_neg (by omega)]
  have a1 : (gEnd s).aF 0 = s.rF 0 := by
    show upd s.aF s.d (s.aF s.d ||| s.rF s.d) 0 = _
    rw [hd, upd_at, ht.1, or_0l]
  have a3 : (gEnd s).aN 0 = s.rN 0 := by
    show updB s.aN s.d (s.aN s.d || s.rN s.d) 0 = _
    unfold updB; rw [hd, if_pos rfl, ht.2.2]; rfl
  rw [e, upd_at, a1, a3]
theorem gFin_p {s : GS} (ht : gTop s) (hd : s.d = 0) (hg : GI s) {p : Nat} (h1 : 1 ≤ p) : (gFin s).fol p = s.fol p ||| bI (bt (s.rL 0) p) := by
  have a2 : (gEnd s).aL 0 = s.rL 0 := by
    show upd s.aL s.d (s.aL s.d ||| s.rL s.d) 0 = _
    rw [hd, upd_at, ht.2.1, or_0l]
  show gJoinF s.n (upd s.fol 0 _) ((gEnd s).aL 0) (Int32.ofInt 1) p = _
  unfold gJoinF
  rw [a2, upd_ne (by omega)]
  cases hb : bt (s.rL 0) p
  · rw [if_neg (fun q => absurd q.2.2 (by decide))]
    show _ = s.fol p ||| Int32.ofInt 0
    rw [or_0]
  · rw [if_pos ⟨h1, (hg 0 (Nat.zero_le _) p).1 hb, rfl⟩]; rfl
