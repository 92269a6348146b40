theorem ap9_up {h : am_H} {N : Nat} {key : Nat → Nat × Nat} {pw : Nat → List Nat} {pf pa T : Nat → Nat} (p : P9 h N key (frI pf) (frI pa) T) (hw : BW N pw pf pa) (b1 b2 a3 : Int32) : ∀ i a F, i < N → ∃ n, F ≤ n ∧ g_X9_apart (F + i + 1) 0 b1 b2 a3 (nI a) (nI i) 0 h = g_X9_apart (n + 1) 0 b1 b2 a3 (nI (a + (pw i).length)) (nI 0) 0 h := by
  obtain ⟨p1, p2, p3, p4, p5⟩ := p
  intro i
  induction i using Nat.strongRecOn with
  | ind i ih =>
    intro a F hi
    by_cases h0 : i = 0
    · subst h0
      refine ⟨F, Nat.le_refl _, ?_⟩
      rw [hw.2.1]; rfl
    · obtain ⟨x, y, z⟩ := bw_nx hw hi h0
      have r := (p3 i hi).2.2.2.2.1
      have ne : ¬ nI (pf i) = Int32.ofInt (-1) := nI_m1ne (by omega)
      obtain ⟨n, hn, e⟩ := ih (pf i) x (a + 1) (F + (i - 1 - pf i)) (by omega)
      rw [show F + (i - 1 - pf i) + pf i + 1 = F + i from by omega] at e
      refine ⟨n, by omega, ?_⟩
      rw [g_X9_apart]
      simp only [show Nat.beq 0 0 = true from rfl, cond_true]
      rw [hp_vp (by omega) (by decide), cond_true, nI_clamp (by omega), r, show frI pf i = nI (pf i) from if_neg h0, if_neg ne, hp_1, e, z, List.length_cons, show a + 1 + (pw (pf i)).length = a + ((pw (pf i)).length + 1) from by omega]
theorem ap9_dn {h : am_H} {N : Nat} {key : Nat → Nat × Nat} {pw : Nat → List Nat} {pf pa T : Nat → Nat} (p : P9 h N key (frI pf) (frI pa) T) (hw : BW N pw pf pa) (b1 b2 : Int32) {it L : Nat} (hit : it < 1000) (hL : it < L) (hL2 : L ≤ 70000) (F : Nat) : ∀ (d i : Nat), i < N → d + 1 ≤ (pw i).length → it + d + 1 ≤ L → g_X9_apart (F + d + 1) 1 b1 b2 (nI (it + 10)) (nI L) (nI i) (nI (it + d)) h = some (nI (cdOf (pa (bwUp pf d i))), h) := by
  obtain ⟨p1, p2, p3, p4, p5⟩ := p
  have sub : nI (it + 10) - Int32.ofInt 10 = nI it := by rw [show Int32.ofInt 10 = nI 10 from rfl, nI_subN (by omega), Nat.add_sub_cancel]
  intro d
  induction d with
  | zero =>
    intro i hi hd hl
    have h0 : i ≠ 0 := by
      intro e
      rw [e, hw.2.1] at hd
      exact absurd hd (by decide)
    obtain ⟨x, y, z⟩ := bw_nx hw hi h0
    have r := (p3 i hi).2.2.2.2.2
    rw [show F + 0 + 1 = F + 1 from rfl, g_X9_apart]
    simp only [show Nat.beq 1 0 = false from rfl, cond_false]
    rw [sub, if_pos (by rw [nI_leI (by omega) (by omega)]; omega), if_neg (by rw [nI_leI (by omega) (by omega)]; omega), hp_vp (by omega) (by decide), cond_true, nI_clamp (by omega), r, show frI pa i = nI (pa i) from if_neg h0, cdo_9 _ y, b2s, b2s]
    rfl
  | succ d ih =>
    intro i hi hd hl
    have h0 : i ≠ 0 := by
      intro e
      rw [e, hw.2.1] at hd
      exact absurd hd (Nat.not_succ_le_zero _)
    obtain ⟨x, y, z⟩ := bw_nx hw hi h0
    have r := (p3 i hi).2.2.2.2.1
    rw [z, List.length_cons] at hd
    have m1 : nI (it + (d + 1)) + Int32.ofInt (-1) = nI (it + d) := by rw [nI_p1 (by omega)]; rfl
    rw [show F + (d + 1) + 1 = (F + d + 1) + 1 from rfl, g_X9_apart]
    simp only [show Nat.beq 1 0 = false from rfl, cond_false]
    rw [sub, if_neg (by rw [nI_leI (by omega) (by omega)]; omega), hp_vp (by omega) (by decide), cond_true, nI_clamp (by omega), r, show frI pf i = nI (pf i) from if_neg h0, m1, ih (pf i) (by omega) (by omega) (by omega)]
    rfl
section
variable {n1 n2 : Nat} {so1 so2 : Nat → Nat} {fo1 fo2 : Nat → Nat → Prop}
/-- what the reference tells of the row -/
theorem ap_9 {h : am_H} {b1 b2 : Nat} (hb1 : B9 h b1 n1 so1 fo1) {N : Nat} {pw : Nat → List Nat} {pf pa T : Nat → Nat} (p : P9 h N (fun i => KY n1 n2 so1 so2 fo1 fo2 (pw i)) (frI pf) (frI pa) T) (hw : BW N pw pf pa) {k : Nat} (hk : k < N) (hf : am_I h 51 37 = nI k) {F : Nat} (hF : 1000000 ≤ F) :
    g_X9_apart F 0 (nI b1) (nI b2) (nI 0) (nI 0) (nI k) 0 h = some (nI (pw k).length, h) ∧
    g_X9_apart F 0 (nI b1) (nI b2) (nI 1) (nI 0) (nI k) 0 h = some (bI (uD (bAcc n1 so1 fo1 (pw k))), h) ∧
    ∀ it, it < 90 → g_X9_apart F 0 (nI b1) (nI b2) (nI (it + 10)) (nI 0) (nI k) 0 h = some (if it < (pw k).length then nI (cdOf (wAt (pw k) it)) else Int32.ofInt (-1), h) := by
  have p2 := p.2.1
  have p3 := p.2.2.1
  have hl := bw_len hw k hk
  have r0 := (p3 0 hw.1).2.2.2.2.1
  have r0 : am_I h 74 0 = Int32.ofInt (-1) := r0
  have c0 : Int32.toNatClampNeg (nI 0) = 0 := rfl
  have v0 : am_vp (nI 0) 65536 = true := by decide
  have step : ∀ a3 : Int32, ∃ n, 100000 ≤ n ∧ g_X9_apart F 0 (nI b1) (nI b2) a3 (nI 0) (nI k) 0 h = (if (Int32.ofInt 2) ≤ a3 then g_X9_apart n 1 (nI b1) (nI b2) a3 (nI (pw k).length) (nI k) (nI (pw k).length - (Int32.ofInt 1)) h else am_b2 ((if a3 = 0 then some (nI (pw k).length, h) else bif am_vp (am_I h 51 37) 65536 then (am_b2 (f_X9_ends n (nI b1) (am_I h 72 (Int32.toNatClampNeg (am_I h 51 37))) h) fun r9 h10 => ((if r9 = 0 then some ((Int32.ofInt 0), h10) else some ((Int32.ofInt 1), h10)))) else none)) fun y4 h5 => (some (y4, h5))) := by
    intro a3
    obtain ⟨n, hn, e⟩ := ap9_up p hw (nI b1) (nI b2) a3 k 0 (F - k - 1) hk
    rw [show F - k - 1 + k + 1 = F from by omega, Nat.zero_add] at e
    refine ⟨n, by omega, ?_⟩
    rw [e, g_X9_apart]
    simp only [show Nat.beq 0 0 = true from rfl, cond_true]
    rw [v0, cond_true, c0, r0, if_pos rfl, hf]
  refine ⟨?_, ?_, ?_⟩
  · obtain ⟨n, hn, e⟩ := step (nI 0)
    rw [e, if_neg (by decide), if_pos (show nI 0 = 0 from rfl), b2s]
  · obtain ⟨n, hn, e⟩ := step (nI 1)
    have r83 : am_I h 72 k = nI (uMk (bSet n1 so1 fo1 (pw k))) := (p3 k hk).1
    have en := en_9 hb1 (uMk_lt (bSet n1 so1 fo1 (pw k))) (F := n) (by omega)
    have eu : uD (bNx fo1 (uMk (bSet n1 so1 fo1 (pw k))) 0) = uD (bAcc n1 so1 fo1 (pw k)) := by
      rw [Bool.eq_iff_iff]
      exact ⟨fun h => uD_i ((bAcc_k hb1.2.1 _).mpr (uD_e h)), fun h => uD_i ((bAcc_k hb1.2.1 _).mp (uD_e h))⟩
    rw [e, if_neg (by decide), if_neg (by decide), hf, hp_vp (by omega) (by decide), cond_true, nI_clamp (by omega), r83, en, b2s, eu]
    cases uD (bAcc n1 so1 fo1 (pw k)) <;> rfl
  · intro it hit
    obtain ⟨n, hn, e⟩ := step (nI (it + 10))
    rw [e, if_pos (by rw [show Int32.ofInt 2 = nI 2 from rfl, nI_leI (by decide) (by omega)]; omega)]
    have sub : nI (it + 10) - Int32.ofInt 10 = nI it := by rw [show Int32.ofInt 10 = nI 10 from rfl, nI_subN (by omega), Nat.add_sub_cancel]
    by_cases hlt : it < (pw k).length
    · have m1 : nI (pw k).length - Int32.ofInt 1 = nI (it + ((pw k).length - 1 - it)) := by rw [nI_m1 (by omega)]; congr 1; omega
      rw [if_pos hlt, m1]
      have := ap9_dn p hw (nI b1) (nI b2) (it := it) (L := (pw k).length) (by omega) hlt (by omega) (n - ((pw k).length - 1 - it) - 1) ((pw k).length - 1 - it) k hk (by omega) (by omega)
      rw [show n - ((pw k).length - 1 - it) - 1 + ((pw k).length - 1 - it) + 1 = n from by omega, wAt_up hw hk hlt] at this
      exact this
    · rw [if_neg hlt, show n = (n - 1) + 1 from by omega, g_X9_apart]
      simp only [show Nat.beq 1 0 = false from rfl, cond_false]
      have le1 : nI (pw k).length - Int32.ofInt 1 ≤ nI it := by
        have e1 : nI (pw k).length - Int32.ofInt 1 = Int32.ofInt (((pw k).length : Int) - 1) := by
          rw [show nI (pw k).length = Int32.ofInt (pw k).length from rfl, ← Int32.ofInt_sub]
        rw [e1]
        apply Int32.le_iff_toInt_le.mpr
        rw [Int32.toInt_ofInt_of_le (by omega) (by omega), nI_toInt (by omega)]
        omega
      rw [sub, if_pos le1, if_pos (by rw [nI_leI (by omega) (by omega)]; omega), b2s]
end
