/-! ===== the reference meets all states: the steps of one state, one by one ===== -/
theorem svStep_m {k : Nat} {v : SV} {x : Nat × TS} (hs : v.sp = false) (h : (svStep k v x).sp = false) : (svStep k v x).m = v.m + 1 ∧ ∀ j, j < v.m → (svStep k v x).et j = v.et j ∧ (svStep k v x).es j = v.es j := by
  by_cases c1 : svIx v x.2 < v.n
  · rw [svStep_1 hs c1]
    exact ⟨rfl, fun j hj => ⟨updN_ne (by omega), updN_ne (by omega)⟩⟩
  · by_cases c2 : v.n < 2000
    · rw [svStep_2 hs c1 c2]
      exact ⟨rfl, fun j hj => ⟨updN_ne (by omega), updN_ne (by omega)⟩⟩
    · rw [svStep_3 hs c1 c2] at h
      exact absurd (show (true : Bool) = false from h) (by decide)
/-- one step of the k-th state -/
theorem mi_9 {h : am_H} {r : TR} (hr : r.ok) {v : SV} (ok : svOk r v) (hsp : v.sp = false) (q : Q9 h v) {k : Nat} (hk : k < v.n) {s0 : TS} (t : T9 h r s0) {L : List (Nat × TS)} (l9 : L9 h L) (hL : ∀ x, x ∈ L → x ∈ ts_all r (v.s k)) (h96 : L.length ≤ 96) {i : Nat} {x : Nat × TS} (hi : L[i]? = some x) (hm : v.m < 180000) (x1 : Int64) (x3 : Int32) (F : Nat) (hF : 8200 ≤ F) :
    ∃ h', g_X9_meetAll (F + 1) 2 x1 x3 (nI k) (nI i) h = g_X9_meetAll F 2 x1 x3 (nI k) (nI (i + 1)) h' ∧ frML h h' ∧ (∃ s1, T9 h' r s1) ∧ L9 h' L ∧ am_I h' 85 = am_I h 85 ∧ (((svStep k v x).sp = false ∧ Q9 h' (svStep k v x)) ∨ ((svStep k v x).sp = true ∧ am_I h' 51 51 = nI 1)) := by
  obtain ⟨⟨T, V⟩, q1, q2, q3⟩ := q
  have iL : i < L.length := by
    by_cases c : i < L.length
    · exact c
    · rw [List.getElem?_eq_none (by omega)] at hi; cases hi
  have k2 : k < 2000 := Nat.lt_of_lt_of_le hk ok.1.2
  have hxL : x ∈ L := List.mem_of_getElem? hi
  have hx := hL x hxL
  have sk := ok.2.1 k hk
  obtain ⟨h8, e8, t8, f8⟩ := ly_9 t sk (F - 20)
  rw [show F - 20 + 20 = F from by omega] at e8
  obtain ⟨h12, e12, t12, f12, sx, a12⟩ := st_9 hr sk t8 hx (F - 4)
  rw [show F - 4 + 4 = F from by omega] at e12
  have a12 := a12 (F - 20)
  rw [show F - 20 + 20 = F from by omega] at a12
  have Q12 : Q9 h12 v := Q9_Z (Q9_Z ⟨⟨T, V⟩, q1, q2, q3⟩ f8) f12
  obtain ⟨⟨T12, V12⟩, q1', q2', q3'⟩ := Q12
  obtain ⟨h18, T18, V18, f18, alt⟩ := sm_9 ok hsp V12 k sx
  have m90 : am_I h8 79 i = nI x.1 := by rw [f8.1.2 79 (by decide) (by decide)]; exact l9.2 i x hi
  have c44 : ¬ am_I h 51 44 ≤ nI i := by rw [l9.1]; exact nI_ge (by omega) (by omega)
  have vk : am_vp (nI k) 2001 = true := hp_vp (by omega) (by decide)
  have ck : Int32.toNatClampNeg (nI k) = k := nI_clamp (by omega)
  have vi : am_vp (nI i) 96 = true := hp_vp (by omega) (by decide)
  have ci : Int32.toNatClampNeg (nI i) = i := nI_clamp (by omega)
  have vm : am_vp (nI v.m) 180090 = true := hp_vp (by omega) (by decide)
  have cm : Int32.toNatClampNeg (nI v.m) = v.m := nI_clamp (by omega)
  have eJ : am_J h 80 k = lL (wN (v.s k)) := (V.2.2.1 k hk).1
  have z51 : am_I h 51 51 = 0 := q1
  have m56 : am_I h18 51 56 = nI v.m := by rw [f18.2.2.2.2.2 56 (by decide) (by decide)]; exact q2'
  have key : ∀ y : Int32, f_X9_meet F (lL (wN x.2)) (nI k) (nI x.1) h12 = some (y, h18) → g_X9_meetAll (F + 1) 2 x1 x3 (nI k) (nI i) h = g_X9_meetAll F 2 x1 x3 (nI k) (nI (i + 1)) (am_sI (am_sI h18 86 v.m y) 51 56 (nI (v.m + 1))) := by
    intro y hy
    rw [g_X9_meetAll, q20, cond_false, q21, cond_false]
    dsimp only [am_let]
    rw [if_neg c44, if_pos z51, vk, cond_true, ck, eJ, e8, b2s, vi, cond_true, ci, m90, e12, b2s, a12, b2s, hy, b2s, q2', vm, cond_true, cm, hp_1, hp_I' _ _ _ (by decide), m56, hp_1]
  have L9' : ∀ y : Int32, L9 (am_sI (am_sI h18 86 v.m y) 51 56 (nI (v.m + 1))) L := by
    intro y
    refine ⟨?_, fun t z hz => ?_⟩
    · rw [hp_I, upd_ne (by decide), hp_I' _ _ _ (by decide), f18.2.2.2.2.2 44 (by decide) (by decide), f12.1.2 51 (by decide) (by decide), f8.1.2 51 (by decide) (by decide)]; exact l9.1
    · rw [hp_I' _ _ _ (by decide), hp_I' _ _ _ (by decide), f18.2.2.2.2.1 79 (by decide) (by decide) (by decide) (by decide), f12.1.2 79 (by decide) (by decide), f8.1.2 79 (by decide) (by decide)]; exact l9.2 t z hz
  have fr' : ∀ y : Int32, frML h (am_sI (am_sI h18 86 v.m y) 51 56 (nI (v.m + 1))) := fun y => frML_t (frML_Z f8) (frML_t (frML_Z f12) (frML_t (frML_V f18) (frML_97 _ _ _ _)))
  have T' : ∀ y : Int32, ∃ s1, T9 (am_sI (am_sI h18 86 v.m y) 51 56 (nI (v.m + 1))) r s1 := fun y => ⟨x.2, T9_c t12 (fun j hj => by rw [hp_I, upd_ne (by omega), hp_I' _ _ _ (by decide), f18.2.2.2.2.2 j (by omega) (by omega)]) (fun p hp => by rw [hp_I' _ _ _ (by omega), hp_I' _ _ _ (by omega), f18.2.2.2.2.1 p (by omega) (by omega) (by omega) (by omega)])⟩
  have e96 : ∀ y : Int32, am_I (am_sI (am_sI h18 86 v.m y) 51 56 (nI (v.m + 1))) 85 = am_I h 85 := fun y => by rw [hp_I' _ _ _ (by decide), hp_I' _ _ _ (by decide), f18.2.2.2.2.1 85 (by decide) (by decide) (by decide) (by decide), f12.1.2 85 (by decide) (by decide), f8.1.2 85 (by decide) (by decide)]
  have Q' : ∀ y : Nat, am_I h18 51 51 = nI 0 → (svStep k v x).sp = false → (svStep k v x).et v.m = y → Q9 (am_sI (am_sI h18 86 v.m (nI y)) 51 56 (nI (v.m + 1))) (svStep k v x) := by
    intro y h51 hs' hy
    obtain ⟨em, ee⟩ := svStep_m hsp hs'
    refine ⟨⟨T18, V9_fr V18 (by rw [hp_I, upd_ne (by decide), hp_I' _ _ _ (by decide)]) rfl (fun p hp => by rw [hp_I' _ _ _ (by omega), hp_I' _ _ _ (by omega)])⟩, by rw [hp_I, upd_ne (by decide), hp_I' _ _ _ (by decide)]; exact h51, by rw [hp_I, upd_at, em], fun j hj => ?_⟩
    rw [em] at hj
    rw [hp_I' _ _ _ (by decide), hp_I]
    by_cases cj : j = v.m
    · rw [cj, upd_at, hy]
    · rw [upd_ne cj, (ee j (by omega)).1, f18.2.2.2.2.1 86 (by decide) (by decide) (by decide) (by decide)]
      exact q3' j (by omega)
  rcases alt with ⟨c1, eh, st⟩ | ⟨c1, c2, h51, st⟩ | ⟨c1, c2, h51, st⟩
  · have es := svStep_1 (k := k) hsp c1
    refine ⟨_, key _ (st F (by omega)), fr' _, T' _, L9' _, e96 _, Or.inl ⟨by rw [es]; rfl, Q' _ (by rw [eh]; exact q1') (by rw [es]; rfl) (by rw [es]; exact updN_at _ _ _)⟩⟩
  · have es := svStep_2 (k := k) hsp c1 c2
    refine ⟨_, key _ (st F (by omega)), fr' _, T' _, L9' _, e96 _, Or.inl ⟨by rw [es]; rfl, Q' _ h51 (by rw [es]; rfl) (by rw [es]; exact updN_at _ _ _)⟩⟩
  · have es := svStep_3 (k := k) hsp c1 c2
    refine ⟨_, key _ (st F (by omega)), fr' _, T' _, L9' _, e96 _, Or.inr ⟨by rw [es]; rfl, by rw [hp_I, upd_ne (by decide), hp_I' _ _ _ (by decide)]; exact h51⟩⟩
