def f_X9_post (n : Nat) (a1 : Int32) (a2 : Int32) (a3 : Int32) (h : am_H) : Option (Int32 × am_H) := am_b2 (f_X9_isPost a1 a2 h) fun r1 h2 => ((if r1 = 0 then some ((Int32.ofInt (-101)), h2) else am_b2 (f_X9_within a3 (Int32.ofInt 0) (Int32.ofInt 4) h2) fun r5 h6 => ((if r5 = 0 then some ((Int32.ofInt (-102)), h6) else bif am_vp (((Int32.ofInt 3) * a1) + a2) 9 then (am_b2 (f_X9_beginAnew n (am_sI (am_sI h6 59 (Int32.toNatClampNeg (((Int32.ofInt 3) * a1) + a2)) a3) 51 52 (Int32.ofInt 0))) fun r10 h11 => (some ((am_I h6 59 (Int32.toNatClampNeg (((Int32.ofInt 3) * a1) + a2))), h11))) else none))))
set_option maxRecDepth 100000 in
theorem s_X9_post (n : Nat) (a1 : Int32) (a2 : Int32) (a3 : Int32) (h : am_H) (hs : am_stat h) {v : Int32} {h' : am_H} (hf : f_X9_post n a1 a2 a3 h = some (v, h')) : am_stat h' := by
  unfold f_X9_post at hf
  obtain ⟨r1, h2, e3, hf⟩ := am_b2_ok hf
  have hs := s_X9_isPost a1 a2 h hs e3
  by_cases c4 : r1 = 0
  · rw [if_pos c4] at hf
    obtain ⟨rfl, rfl⟩ := am_i2 hf
    exact hs
  · rw [if_neg c4] at hf
    obtain ⟨r5, h6, e7, hf⟩ := am_b2_ok hf
    have hs := s_X9_within a3 (Int32.ofInt 0) (Int32.ofInt 4) h2 hs e7
    by_cases c8 : r5 = 0
    · rw [if_pos c8] at hf
      obtain ⟨rfl, rfl⟩ := am_i2 hf
      exact hs
    · rw [if_neg c8] at hf
      obtain ⟨b9, hf⟩ := am_bis hf
      obtain ⟨r10, h11, e12, hf⟩ := am_b2_ok hf
      have hs := s_X9_beginAnew n (am_sI (am_sI h6 59 (Int32.toNatClampNeg (((Int32.ofInt 3) * a1) + a2)) a3) 51 52 (Int32.ofInt 0)) hs e12
      obtain ⟨rfl, rfl⟩ := am_i2 hf
      exact hs
set_option maxRecDepth 100000 in
theorem c_X9_post (n : Nat) (a1 : Int32) (a2 : Int32) (a3 : Int32) (h : am_H) (hs : am_stat h) {v : Int32} {h' : am_H} (hf : f_X9_post n a1 a2 a3 h = some (v, h')) : AMet mX9_post (rX9_post 0 0) (fun r h2 => r = some (.int v) ∧ h2 = h') [.ref 51, .int a1, .int a2, .int a3] h := by
  unfold f_X9_post at hf
  refine AW_go okX9_post 2 ?_
  obtain ⟨r1, h2, e3, hf⟩ := am_b2_ok hf
  refine AW_callS (As := [.int a1, .int a2]) (R' := rX9_isPost 0 0) (okX9_post.1 2 _ _ rfl) lkX9_isPost (Or.inl kX9_267) rfl (Nat.le_of_ble_eq_true rfl) ⟨by decide, by decide⟩ ⟨(Nat.le_of_ble_eq_true rfl), (Nat.le_of_ble_eq_true rfl)⟩ (Nat.le_of_ble_eq_true rfl) (c_X9_isPost a1 a2 h hs e3) (fun r h' hq => ?_)
  obtain ⟨rfl, hq⟩ := hq
  replace hq := hq.symm
  subst hq
  have hs := s_X9_isPost a1 a2 h hs e3
  refine AW_go okX9_post 1 ?_
  refine And.intro (fun c4 => ?_) (fun c4 => ?_)
  · rw [if_neg c4] at hf
    refine AW_go okX9_post 3 ?_
    obtain ⟨r5, h6, e7, hf⟩ := am_b2_ok hf
    refine AW_callS (As := [.int a3, .int (Int32.ofInt 0), .int (Int32.ofInt 4)]) (R' := rX9_within 0 0) (okX9_post.1 14 _ _ rfl) lkX9_within (Or.inl kX9_134) rfl (Nat.le_of_ble_eq_true rfl) ⟨by decide, by decide⟩ ⟨(Nat.le_of_ble_eq_true rfl), (Nat.le_of_ble_eq_true rfl)⟩ (Nat.le_of_ble_eq_true rfl) (c_X9_within a3 (Int32.ofInt 0) (Int32.ofInt 4) h2 hs e7) (fun r h' hq => ?_)
    obtain ⟨rfl, hq⟩ := hq
    replace hq := hq.symm
    subst hq
    have hs := s_X9_within a3 (Int32.ofInt 0) (Int32.ofInt 4) h2 hs e7
    refine AW_go okX9_post 1 ?_
    refine And.intro (fun c8 => ?_) (fun c8 => ?_)
    · rw [if_neg c8] at hf
      obtain ⟨b9, hf⟩ := am_bis hf
      refine AW_go okX9_post 22 ?_
      refine And.intro (sK hs 51) (Exists.intro _ (And.intro (sA hs 51 10) ?_))
      refine Exists.intro 9 (And.intro (sK hs 59) (And.intro (am_vp_ok b9) ?_))
      refine And.intro (sK hs 51) (Exists.intro _ (And.intro (sA hs 51 10) ?_))
      refine Exists.intro 9 (And.intro (sK hs 59) (And.intro (am_vp_ok b9) ?_))
      refine And.intro (Or.inl rfl) (And.intro (sK hs 51) ?_)
      obtain ⟨r10, h11, e12, hf⟩ := am_b2_ok hf
      refine AW_callV (As := []) (R' := rX9_beginAnew 0 0) (T := TX9) (N := 58) (ci := 9) (okX9_post.1 52 _ _ rfl) lkX9_beginAnew kX9_264 rfl (sK hs 51) rfl (Nat.le_of_ble_eq_true rfl) ⟨by decide, by decide⟩ ⟨(Nat.le_of_ble_eq_true rfl), (Nat.le_of_ble_eq_true rfl)⟩ (Nat.le_of_ble_eq_true rfl) (c_X9_beginAnew n (am_sI (am_sI h6 59 (Int32.toNatClampNeg (((Int32.ofInt 3) * a1) + a2)) a3) 51 52 (Int32.ofInt 0)) hs e12) (fun r h' hq => ?_)
      obtain ⟨rfl, hq⟩ := hq
      replace hq := hq.symm
      subst hq
      have hs := s_X9_beginAnew n (am_sI (am_sI h6 59 (Int32.toNatClampNeg (((Int32.ofInt 3) * a1) + a2)) a3) 51 52 (Int32.ofInt 0)) hs e12
      refine AW_go okX9_post 2 ?_
      obtain ⟨rfl, rfl⟩ := am_i2 hf
      exact And.intro ⟨(Nat.le_of_ble_eq_true rfl), (Nat.le_of_ble_eq_true rfl)⟩ (And.intro (Or.inl rfl) ⟨rfl, rfl⟩)
    · rw [if_pos c8] at hf
      refine AW_go okX9_post 2 ?_
      obtain ⟨rfl, rfl⟩ := am_i2 hf
      exact And.intro ⟨(Nat.le_of_ble_eq_true rfl), (Nat.le_of_ble_eq_true rfl)⟩ (And.intro (Or.inl rfl) ⟨rfl, rfl⟩)
  · rw [if_pos c4] at hf
    refine AW_go okX9_post 2 ?_
    obtain ⟨rfl, rfl⟩ := am_i2 hf
    exact And.intro ⟨(Nat.le_of_ble_eq_true rfl), (Nat.le_of_ble_eq_true rfl)⟩ (And.intro (Or.inl rfl) ⟨rfl, rfl⟩)
def f_X9_as (a1 : Int32) (a2 : Int32) (a3 : Int32) (h : am_H) : Option (Int32 × am_H) := am_b2 (f_X9_isPost a1 a2 h) fun r1 h2 => ((if r1 = 0 then some ((Int32.ofInt (-101)), h2) else am_b2 (f_X9_within a3 (Int32.ofInt 0) (Int32.ofInt 4) h2) fun r5 h6 => ((if r5 = 0 then some ((Int32.ofInt (-102)), h6) else bif am_vp (((Int32.ofInt 3) * a1) + a2) 9 then (Option.bind ((if a3 = 0 then some (((Int32.ofInt 10) * a1) + a2) else (if (am_I h6 59 (Int32.toNatClampNeg (((Int32.ofInt 3) * a1) + a2))) = a3 then some (((Int32.ofInt 10) * a1) + a2) else (if a3 = (Int32.ofInt 3) then (if (am_I h6 59 (Int32.toNatClampNeg (((Int32.ofInt 3) * a1) + a2))) = (Int32.ofInt 4) then some (((Int32.ofInt 10) * a1) + a2) else some (Int32.ofInt (-1))) else some (Int32.ofInt (-1)))))) fun y10 => (some (y10, h6))) else none))))
set_option maxRecDepth 100000 in
theorem s_X9_as (a1 : Int32) (a2 : Int32) (a3 : Int32) (h : am_H) (hs : am_stat h) {v : Int32} {h' : am_H} (hf : f_X9_as a1 a2 a3 h = some (v, h')) : am_stat h' := by
  unfold f_X9_as at hf
  obtain ⟨r1, h2, e3, hf⟩ := am_b2_ok hf
  have hs := s_X9_isPost a1 a2 h hs e3
  by_cases c4 : r1 = 0
  · rw [if_pos c4] at hf
    obtain ⟨rfl, rfl⟩ := am_i2 hf
    exact hs
  · rw [if_neg c4] at hf
    obtain ⟨r5, h6, e7, hf⟩ := am_b2_ok hf
    have hs := s_X9_within a3 (Int32.ofInt 0) (Int32.ofInt 4) h2 hs e7
    by_cases c8 : r5 = 0
    · rw [if_pos c8] at hf
      obtain ⟨rfl, rfl⟩ := am_i2 hf
      exact hs
    · rw [if_neg c8] at hf
      obtain ⟨b9, hf⟩ := am_bis hf
      obtain ⟨y10, j11, hf⟩ := am_bnd hf
      obtain ⟨rfl, rfl⟩ := am_i2 hf
      exact hs
set_option maxRecDepth 100000 in
theorem c_X9_as (a1 : Int32) (a2 : Int32) (a3 : Int32) (h : am_H) (hs : am_stat h) {v : Int32} {h' : am_H} (hf : f_X9_as a1 a2 a3 h = some (v, h')) : AMet mX9_as (rX9_as 0 0) (fun r h2 => r = some (.int v) ∧ h2 = h') [.ref 51, .int a1, .int a2, .int a3] h := by
  unfold f_X9_as at hf
  refine AW_go okX9_as 2 ?_
  obtain ⟨r1, h2, e3, hf⟩ := am_b2_ok hf
  refine AW_callS (As := [.int a1, .int a2]) (R' := rX9_isPost 0 0) (okX9_as.1 2 _ _ rfl) lkX9_isPost (Or.inl kX9_267) rfl (Nat.le_of_ble_eq_true rfl) ⟨by decide, by decide⟩ ⟨(Nat.le_of_ble_eq_true rfl), (Nat.le_of_ble_eq_true rfl)⟩ (Nat.le_of_ble_eq_true rfl) (c_X9_isPost a1 a2 h hs e3) (fun r h' hq => ?_)
  obtain ⟨rfl, hq⟩ := hq
  replace hq := hq.symm
  subst hq
  have hs := s_X9_isPost a1 a2 h hs e3
  refine AW_go okX9_as 1 ?_
  refine And.intro (fun c4 => ?_) (fun c4 => ?_)
  · rw [if_neg c4] at hf
    refine AW_go okX9_as 3 ?_
    obtain ⟨r5, h6, e7, hf⟩ := am_b2_ok hf
    refine AW_callS (As := [.int a3, .int (Int32.ofInt 0), .int (Int32.ofInt 4)]) (R' := rX9_within 0 0) (okX9_as.1 14 _ _ rfl) lkX9_within (Or.inl kX9_134) rfl (Nat.le_of_ble_eq_true rfl) ⟨by decide, by decide⟩ ⟨(Nat.le_of_ble_eq_true rfl), (Nat.le_of_ble_eq_true rfl)⟩ (Nat.le_of_ble_eq_true rfl) (c_X9_within a3 (Int32.ofInt 0) (Int32.ofInt 4) h2 hs e7) (fun r h' hq => ?_)
    obtain ⟨rfl, hq⟩ := hq
    replace hq := hq.symm
    subst hq
    have hs := s_X9_within a3 (Int32.ofInt 0) (Int32.ofInt 4) h2 hs e7
    refine AW_go okX9_as 1 ?_
    refine And.intro (fun c8 => ?_) (fun c8 => ?_)
    · rw [if_neg c8] at hf
      obtain ⟨b9, hf⟩ := am_bis hf
      refine AW_go okX9_as 10 ?_
      refine And.intro (sK hs 51) (Exists.intro _ (And.intro (sA hs 51 10) ?_))
      refine Exists.intro 9 (And.intro (sK hs 59) (And.intro (am_vp_ok b9) ?_))
      obtain ⟨y10, j11, hf⟩ := am_bnd hf
      refine am_cut (P := AW mX9_as (rX9_as 0 0) (fun r h2 => r = some (.int v) ∧ h2 = h') 66 [(0, .ref 51), (1, .int a1), (2, .int a2), (3, .int a3), (4, .int (am_I h6 59 (Int32.toNatClampNeg (((Int32.ofInt 3) * a1) + a2))))] [.int y10] h6 0 0) (fun hJ11 => ?_) ?_
      · have hs := hs
        refine AW_go okX9_as 1 ?_
        refine And.intro (fun c12 => ?_) (fun c12 => ?_)
        · rw [if_pos c12] at j11
          refine AW_go okX9_as 6 ?_
          obtain rfl := am_i1 j11
          exact AW_pick [1, 2, 3, 4, 0] rfl hJ11
        · rw [if_neg c12] at j11
          refine AW_go okX9_as 3 ?_
          refine And.intro (fun c13 => ?_) (fun c13 => ?_)
          · rw [if_pos c13] at j11
            refine AW_go okX9_as 6 ?_
            obtain rfl := am_i1 j11
            exact AW_pick [1, 2, 3, 4, 0] rfl hJ11
          · rw [if_neg c13] at j11
            refine AW_go okX9_as 3 ?_
            refine And.intro (fun c14 => ?_) (fun c14 => ?_)
            · rw [if_neg c14] at j11
              refine AW_go okX9_as 1 ?_
              obtain rfl := am_i1 j11
              exact AW_pick [1, 2, 3, 4, 0] rfl hJ11
            · rw [if_pos c14] at j11
              refine AW_go okX9_as 3 ?_
              refine And.intro (fun c15 => ?_) (fun c15 => ?_)
              · rw [if_neg c15] at j11
                refine AW_go okX9_as 1 ?_
                obtain rfl := am_i1 j11
                exact AW_pick [1, 2, 3, 4, 0] rfl hJ11
              · rw [if_pos c15] at j11
                refine AW_go okX9_as 6 ?_
                obtain rfl := am_i1 j11
                exact AW_pick [1, 2, 3, 4, 0] rfl hJ11
      refine AW_go okX9_as 1 ?_
      obtain ⟨rfl, rfl⟩ := am_i2 hf
      exact And.intro ⟨(Nat.le_of_ble_eq_true rfl), (Nat.le_of_ble_eq_true rfl)⟩ (And.intro (Or.inl rfl) ⟨rfl, rfl⟩)
    · rw [if_pos c8] at hf
      refine AW_go okX9_as 2 ?_
      obtain ⟨rfl, rfl⟩ := am_i2 hf
      exact And.intro ⟨(Nat.le_of_ble_eq_true rfl), (Nat.le_of_ble_eq_true rfl)⟩ (And.intro (Or.inl rfl) ⟨rfl, rfl⟩)
  · rw [if_pos c4] at hf
    refine AW_go okX9_as 2 ?_
    obtain ⟨rfl, rfl⟩ := am_i2 hf
    exact And.intro ⟨(Nat.le_of_ble_eq_true rfl), (Nat.le_of_ble_eq_true rfl)⟩ (And.intro (Or.inl rfl) ⟨rfl, rfl⟩)
def f_X9_room (n : Nat) (a1 : Int32) (h : am_H) : Option (Int32 × am_H) := am_b2 (f_X9_within a1 (Int32.ofInt 1) (Int32.ofInt 3) h) fun r1 h2 => ((if r1 = 0 then some ((Int32.ofInt (-102)), h2) else am_b2 (f_X9_beginAnew n (am_sI (am_sI h2 51 11 a1) 51 52 (Int32.ofInt 0))) fun r5 h6 => (some ((am_I h2 51 11), h6))))
set_option maxRecDepth 100000 in
theorem s_X9_room (n : Nat) (a1 : Int32) (h : am_H) (hs : am_stat h) {v : Int32} {h' : am_H} (hf : f_X9_room n a1 h = some (v, h')) : am_stat h' := by
  unfold f_X9_room at hf
  obtain ⟨r1, h2, e3, hf⟩ := am_b2_ok hf
  have hs := s_X9_within a1 (Int32.ofInt 1) (Int32.ofInt 3) h hs e3
  by_cases c4 : r1 = 0
  · rw [if_pos c4] at hf
    obtain ⟨rfl, rfl⟩ := am_i2 hf
    exact hs
  · rw [if_neg c4] at hf
    obtain ⟨r5, h6, e7, hf⟩ := am_b2_ok hf
    have hs := s_X9_beginAnew n (am_sI (am_sI h2 51 11 a1) 51 52 (Int32.ofInt 0)) hs e7
    obtain ⟨rfl, rfl⟩ := am_i2 hf
    exact hs
set_option maxRecDepth 100000 in
theorem c_X9_room (n : Nat) (a1 : Int32) (h : am_H) (hs : am_stat h) {v : Int32} {h' : am_H} (hf : f_X9_room n a1 h = some (v, h')) : AMet mX9_room (rX9_room 0 0) (fun r h2 => r = some (.int v) ∧ h2 = h') [.ref 51, .int a1] h := by
  unfold f_X9_room at hf
  refine AW_go okX9_room 3 ?_
  obtain ⟨r1, h2, e3, hf⟩ := am_b2_ok hf
  refine AW_callS (As := [.int a1, .int (Int32.ofInt 1), .int (Int32.ofInt 3)]) (R' := rX9_within 0 0) (okX9_room.1 3 _ _ rfl) lkX9_within (Or.inl kX9_134) rfl (Nat.le_of_ble_eq_true rfl) ⟨by decide, by decide⟩ ⟨(Nat.le_of_ble_eq_true rfl), (Nat.le_of_ble_eq_true rfl)⟩ (Nat.le_of_ble_eq_true rfl) (c_X9_within a1 (Int32.ofInt 1) (Int32.ofInt 3) h hs e3) (fun r h' hq => ?_)
  obtain ⟨rfl, hq⟩ := hq
  replace hq := hq.symm
  subst hq
  have hs := s_X9_within a1 (Int32.ofInt 1) (Int32.ofInt 3) h hs e3
  refine AW_go okX9_room 1 ?_
  refine And.intro (fun c4 => ?_) (fun c4 => ?_)
  · rw [if_neg c4] at hf
    refine AW_go okX9_room 10 ?_
    refine And.intro (sK hs 51) ?_
    refine And.intro (sK hs 51) ?_
    refine And.intro (Or.inl rfl) (And.intro (sK hs 51) ?_)
    obtain ⟨r5, h6, e7, hf⟩ := am_b2_ok hf
    refine AW_callV (As := []) (R' := rX9_beginAnew 0 0) (T := TX9) (N := 58) (ci := 9) (okX9_room.1 28 _ _ rfl) lkX9_beginAnew kX9_264 rfl (sK hs 51) rfl (Nat.le_of_ble_eq_true rfl) ⟨by decide, by decide⟩ ⟨(Nat.le_of_ble_eq_true rfl), (Nat.le_of_ble_eq_true rfl)⟩ (Nat.le_of_ble_eq_true rfl) (c_X9_beginAnew n (am_sI (am_sI h2 51 11 a1) 51 52 (Int32.ofInt 0)) hs e7) (fun r h' hq => ?_)
    obtain ⟨rfl, hq⟩ := hq
    replace hq := hq.symm
    subst hq
    have hs := s_X9_beginAnew n (am_sI (am_sI h2 51 11 a1) 51 52 (Int32.ofInt 0)) hs e7
    refine AW_go okX9_room 2 ?_
    obtain ⟨rfl, rfl⟩ := am_i2 hf
    exact And.intro ⟨(Nat.le_of_ble_eq_true rfl), (Nat.le_of_ble_eq_true rfl)⟩ (And.intro (Or.inl rfl) ⟨rfl, rfl⟩)
  · rw [if_pos c4] at hf
    refine AW_go okX9_room 2 ?_
    obtain ⟨rfl, rfl⟩ := am_i2 hf
    exact And.intro ⟨(Nat.le_of_ble_eq_true rfl), (Nat.le_of_ble_eq_true rfl)⟩ (And.intro (Or.inl rfl) ⟨rfl, rfl⟩)
def f_X9_begin (n : Nat) (h : am_H) : Option (Int32 × am_H) := am_b2 (f_X9_beginAnew n h) fun r1 h2 => (some ((am_I h 51 12), h2))
set_option maxRecDepth 100000 in
theorem s_X9_begin (n : Nat) (h : am_H) (hs : am_stat h) {v : Int32} {h' : am_H} (hf : f_X9_begin n h = some (v, h')) : am_stat h' := by
  unfold f_X9_begin at hf
  obtain ⟨r1, h2, e3, hf⟩ := am_b2_ok hf
  have hs := s_X9_beginAnew n h hs e3
  obtain ⟨rfl, rfl⟩ := am_i2 hf
  exact hs
set_option maxRecDepth 100000 in
theorem c_X9_begin (n : Nat) (h : am_H) (hs : am_stat h) {v : Int32} {h' : am_H} (hf : f_X9_begin n h = some (v, h')) : AMet mX9_begin (rX9_begin 0 0) (fun r h2 => r = some (.int v) ∧ h2 = h') [.ref 51] h := by
  unfold f_X9_begin at hf
  refine AW_go okX9_begin 4 ?_
  refine And.intro (sK hs 51) ?_
  obtain ⟨r1, h2, e3, hf⟩ := am_b2_ok hf
  refine AW_callV (As := []) (R' := rX9_beginAnew 0 0) (T := TX9) (N := 58) (ci := 9) (okX9_begin.1 6 _ _ rfl) lkX9_beginAnew kX9_264 rfl (sK hs 51) rfl (Nat.le_of_ble_eq_true rfl) ⟨by decide, by decide⟩ ⟨(Nat.le_of_ble_eq_true rfl), (Nat.le_of_ble_eq_true rfl)⟩ (Nat.le_of_ble_eq_true rfl) (c_X9_beginAnew n h hs e3) (fun r h' hq => ?_)
  obtain ⟨rfl, hq⟩ := hq
  replace hq := hq.symm
  subst hq
  have hs := s_X9_beginAnew n h hs e3
  refine AW_go okX9_begin 2 ?_
  obtain ⟨rfl, rfl⟩ := am_i2 hf
  exact And.intro ⟨(Nat.le_of_ble_eq_true rfl), (Nat.le_of_ble_eq_true rfl)⟩ (And.intro (Or.inl rfl) ⟨rfl, rfl⟩)
def f_X9_sizeOf (a0 : Int32) (h : am_H) : Option (Int32 × am_H) := Option.bind ((if a0 = 0 then some (Int32.ofInt 0) else (if (Int32.ofInt 5) ≤ a0 then (if (Int32.ofInt 25) ≤ a0 then some (Int32.ofInt 3) else some (Int32.ofInt 2)) else some (Int32.ofInt 1)))) fun y1 => (some (y1, h))
set_option maxRecDepth 100000 in
theorem s_X9_sizeOf (a0 : Int32) (h : am_H) (hs : am_stat h) {v : Int32} {h' : am_H} (hf : f_X9_sizeOf a0 h = some (v, h')) : am_stat h' := by
  unfold f_X9_sizeOf at hf
  obtain ⟨y1, j2, hf⟩ := am_bnd hf
  obtain ⟨rfl, rfl⟩ := am_i2 hf
  exact hs
set_option maxRecDepth 100000 in
theorem c_X9_sizeOf (a0 : Int32) (h : am_H) (hs : am_stat h) {v : Int32} {h' : am_H} (hf : f_X9_sizeOf a0 h = some (v, h')) : AMet mX9_sizeOf (rX9_sizeOf 0 0) (fun r h2 => r = some (.int v) ∧ h2 = h') [.int a0] h := by
  unfold f_X9_sizeOf at hf
  refine AW_go okX9_sizeOf 1 ?_
  obtain ⟨y1, j2, hf⟩ := am_bnd hf
  refine am_cut (P := AW mX9_sizeOf (rX9_sizeOf 0 0) (fun r h2 => r = some (.int v) ∧ h2 = h') 28 [(0, .int a0)] [.int y1] h 0 0) (fun hJ2 => ?_) ?_
  · have hs := hs
    refine AW_go okX9_sizeOf 1 ?_
    refine And.intro (fun c3 => ?_) (fun c3 => ?_)
    · rw [if_neg c3] at j2
      refine AW_go okX9_sizeOf 3 ?_
      refine And.intro (fun c4 => ?_) (fun c4 => ?_)
      · rw [if_pos c4] at j2
        refine AW_go okX9_sizeOf 3 ?_
        refine And.intro (fun c5 => ?_) (fun c5 => ?_)
        · rw [if_pos c5] at j2
          refine AW_go okX9_sizeOf 1 ?_
          obtain rfl := am_i1 j2
          exact AW_pick [0] rfl hJ2
        · rw [if_neg c5] at j2
          refine AW_go okX9_sizeOf 2 ?_
          obtain rfl := am_i1 j2
          exact AW_pick [0] rfl hJ2
      · rw [if_neg c4] at j2
        refine AW_go okX9_sizeOf 2 ?_
        obtain rfl := am_i1 j2
        exact AW_pick [0] rfl hJ2
    · rw [if_pos c3] at j2
      refine AW_go okX9_sizeOf 2 ?_
      obtain rfl := am_i1 j2
      exact AW_pick [0] rfl hJ2
  refine AW_go okX9_sizeOf 1 ?_
  obtain ⟨rfl, rfl⟩ := am_i2 hf
  exact And.intro ⟨(Nat.le_of_ble_eq_true rfl), (Nat.le_of_ble_eq_true rfl)⟩ (And.intro (Or.inl rfl) ⟨rfl, rfl⟩)
def f_X9_letterAt (a0 : Int32) (a1 : Int32) (h : am_H) : Option (Int32 × am_H) := Option.bind ((if a1 = 0 then some (a0 - a0 / (Int32.ofInt 5) * (Int32.ofInt 5)) else (if a1 = (Int32.ofInt 1) then some ((a0 / (Int32.ofInt 5)) - (a0 / (Int32.ofInt 5)) / (Int32.ofInt 5) * (Int32.ofInt 5)) else some (a0 / (Int32.ofInt 25))))) fun y1 => (some (y1, h))
set_option maxRecDepth 100000 in
theorem s_X9_letterAt (a0 : Int32) (a1 : Int32) (h : am_H) (hs : am_stat h) {v : Int32} {h' : am_H} (hf : f_X9_letterAt a0 a1 h = some (v, h')) : am_stat h' := by
  unfold f_X9_letterAt at hf
  obtain ⟨y1, j2, hf⟩ := am_bnd hf
  obtain ⟨rfl, rfl⟩ := am_i2 hf
  exact hs
set_option maxRecDepth 100000 in
theorem c_X9_letterAt (a0 : Int32) (a1 : Int32) (h : am_H) (hs : am_stat h) {v : Int32} {h' : am_H} (hf : f_X9_letterAt a0 a1 h = some (v, h')) : AMet mX9_letterAt (rX9_letterAt 0 0) (fun r h2 => r = some (.int v) ∧ h2 = h') [.int a0, .int a1] h := by
  unfold f_X9_letterAt at hf
  refine AW_go okX9_letterAt 1 ?_
  obtain ⟨y1, j2, hf⟩ := am_bnd hf
  refine am_cut (P := AW mX9_letterAt (rX9_letterAt 0 0) (fun r h2 => r = some (.int v) ∧ h2 = h') 27 [(0, .int a0), (1, .int a1)] [.int y1] h 0 0) (fun hJ2 => ?_) ?_
  · have hs := hs
    refine AW_go okX9_letterAt 1 ?_
    refine And.intro (fun c3 => ?_) (fun c3 => ?_)
    · rw [if_neg c3] at j2
      refine AW_go okX9_letterAt 3 ?_
      refine And.intro (fun c4 => ?_) (fun c4 => ?_)
      · rw [if_neg c4] at j2
        refine AW_go okX9_letterAt 3 ?_
        refine And.intro (by decide) ?_
        obtain rfl := am_i1 j2
        exact AW_pick [0, 1] rfl hJ2
      · rw [if_pos c4] at j2
        refine AW_go okX9_letterAt 6 ?_
        refine And.intro (by decide) ?_
        refine And.intro (by decide) ?_
        obtain rfl := am_i1 j2
        exact AW_pick [0, 1] rfl hJ2
    · rw [if_pos c3] at j2
      refine AW_go okX9_letterAt 4 ?_
      refine And.intro (by decide) ?_
      obtain rfl := am_i1 j2
      exact AW_pick [0, 1] rfl hJ2
  refine AW_go okX9_letterAt 1 ?_
  obtain ⟨rfl, rfl⟩ := am_i2 hf
  exact And.intro ⟨(Nat.le_of_ble_eq_true rfl), (Nat.le_of_ble_eq_true rfl)⟩ (And.intro (Or.inl rfl) ⟨rfl, rfl⟩)
def g_X9_without : Nat → Nat → Int32 → Int32 → Int32 → Int32 → Int32 → am_H → Option (Int32 × am_H)
  | 0, _, _, _, _, _, _, _ => none
  | n + 1, _, a0, a1, x2i, x3i, x4i, h => am_b2 (f_X9_sizeOf a0 h) fun r1 h2 => ((if r1 ≤ x4i then some (x2i, h2) else am_b2 ((if x4i = a1 then some ((Int32.ofInt 0), h2) else am_b2 (f_X9_letterAt a0 x4i h2) fun r9 h10 => (some ((x3i * r9), h10)))) fun y5 h6 => (Option.bind ((if x4i = a1 then some (Int32.ofInt 1) else some (Int32.ofInt 5))) fun y62 => (g_X9_without n 0 a0 a1 (x2i + y5) (x3i * y62) (x4i + Int32.ofInt 1) h6))))
set_option maxRecDepth 100000 in
set_option maxHeartbeats 4000000 in
theorem m_X9_without (n : Nat) : (∀ (a0 : Int32) (a1 : Int32) (x2i : Int32) (x3i : Int32) (x4i : Int32) (h : am_H) (v : Int32) (h' : am_H), am_stat h → g_X9_without n 0 a0 a1 x2i x3i x4i h = some (v, h') → am_stat h') := by
  induction n with
  | zero => exact fun a0 a1 x2i x3i x4i h v h' hs hf => (by cases hf)
  | succ n ih =>
    skip
    · intro a0 a1 x2i x3i x4i h v h' hs hf
      have hf : (am_b2 (f_X9_sizeOf a0 h) fun r1 h2 => ((if r1 ≤ x4i then some (x2i, h2) else am_b2 ((if x4i = a1 then some ((Int32.ofInt 0), h2) else am_b2 (f_X9_letterAt a0 x4i h2) fun r9 h10 => (some ((x3i * r9), h10)))) fun y5 h6 => (Option.bind ((if x4i = a1 then some (Int32.ofInt 1) else some (Int32.ofInt 5))) fun y62 => (g_X9_without n 0 a0 a1 (x2i + y5) (x3i * y62) (x4i + Int32.ofInt 1) h6))))) = some (v, h') := hf
      obtain ⟨r1, h2, e3, hf⟩ := am_b2_ok hf
      have hs := s_X9_sizeOf a0 h hs e3
      by_cases c4 : r1 ≤ x4i
      · rw [if_pos c4] at hf
        obtain ⟨rfl, rfl⟩ := am_i2 hf
        exact hs
      · rw [if_neg c4] at hf
        obtain ⟨y5, h6, j7, hf⟩ := am_b2_ok hf
        have hs0 := hs
        have hs : am_stat h6 := by
          have hs := hs0
          by_cases c8 : x4i = a1
          · rw [if_pos c8] at j7
            obtain ⟨rfl, rfl⟩ := am_i2 j7
            exact hs
          · rw [if_neg c8] at j7
            obtain ⟨r9, h10, e11, j7⟩ := am_b2_ok j7
            have hs := s_X9_letterAt a0 x4i h2 hs e11
            obtain ⟨rfl, rfl⟩ := am_i2 j7
            exact hs
        obtain ⟨y62, j63, hf⟩ := am_bnd hf
        exact ih a0 a1 (x2i + y5) (x3i * y62) (x4i + Int32.ofInt 1) h6 _ _ hs hf
set_option maxRecDepth 100000 in
set_option maxHeartbeats 4000000 in
theorem l_X9_without (n : Nat) : (∀ (a0 : Int32) (a1 : Int32) (x2i : Int32) (x3i : Int32) (x4i : Int32) (h : am_H) (v : Int32) (h' : am_H), am_stat h → g_X9_without n 0 a0 a1 x2i x3i x4i h = some (v, h') → AW mX9_without (rX9_without 0 0) (fun r h2 => r = some (.int v) ∧ h2 = h') 7 [(0, .int a0), (1, .int a1), (2, .int x2i), (3, .int x3i), (4, .int x4i)] [] h 0 0) := by
  induction n with
  | zero => exact fun a0 a1 x2i x3i x4i h v h' hs hf => (by cases hf)
  | succ n ih =>
    skip
    · intro a0 a1 x2i x3i x4i h v h' hs hf
      have hf : (am_b2 (f_X9_sizeOf a0 h) fun r1 h2 => ((if r1 ≤ x4i then some (x2i, h2) else am_b2 ((if x4i = a1 then some ((Int32.ofInt 0), h2) else am_b2 (f_X9_letterAt a0 x4i h2) fun r9 h10 => (some ((x3i * r9), h10)))) fun y5 h6 => (Option.bind ((if x4i = a1 then some (Int32.ofInt 1) else some (Int32.ofInt 5))) fun y62 => (g_X9_without n 0 a0 a1 (x2i + y5) (x3i * y62) (x4i + Int32.ofInt 1) h6))))) = some (v, h') := hf
      refine AW_go okX9_without 2 ?_
      obtain ⟨r1, h2, e3, hf⟩ := am_b2_ok hf
      refine AW_callS (As := [.int a0]) (R' := rX9_sizeOf 0 0) (okX9_without.1 10 _ _ rfl) lkX9_sizeOf (Or.inl kX9_270) rfl (Nat.le_of_ble_eq_true rfl) ⟨by decide, by decide⟩ ⟨(Nat.le_of_ble_eq_true rfl), (Nat.le_of_ble_eq_true rfl)⟩ (Nat.le_of_ble_eq_true rfl) (c_X9_sizeOf a0 h hs e3) (fun r h' hq => ?_)
      obtain ⟨rfl, hq⟩ := hq
      replace hq := hq.symm
      subst hq
      have hs := s_X9_sizeOf a0 h hs e3
      refine AW_go okX9_without 1 ?_
      refine And.intro (fun c4 => ?_) (fun c4 => ?_)
      · rw [if_pos c4] at hf
        refine AW_go okX9_without 2 ?_
        obtain ⟨rfl, rfl⟩ := am_i2 hf
        exact And.intro ⟨(Nat.le_of_ble_eq_true rfl), (Nat.le_of_ble_eq_true rfl)⟩ (And.intro (Or.inl rfl) ⟨rfl, rfl⟩)
      · rw [if_neg c4] at hf
        refine AW_go okX9_without 3 ?_
        obtain ⟨y5, h6, j7, hf⟩ := am_b2_ok hf
        have hs0 := hs
        have hs : am_stat h6 := by
          have hs := hs0
          by_cases c8 : x4i = a1
          · rw [if_pos c8] at j7
            obtain ⟨rfl, rfl⟩ := am_i2 j7
            exact hs
          · rw [if_neg c8] at j7
            obtain ⟨r9, h10, e11, j7⟩ := am_b2_ok j7
            have hs := s_X9_letterAt a0 x4i h2 hs e11
            obtain ⟨rfl, rfl⟩ := am_i2 j7
            exact hs
        refine am_cut (P := AW mX9_without (rX9_without 0 0) (fun r h2 => r = some (.int v) ∧ h2 = h') 35 [(0, .int a0), (1, .int a1), (2, .int x2i), (3, .int x3i), (4, .int x4i)] [.int y5, .int x2i] h6 0 0) (fun hJ7 => ?_) ?_
        · have hs := hs0
          refine AW_go okX9_without 1 ?_
          refine And.intro (fun c8 => ?_) (fun c8 => ?_)
          · rw [if_neg c8] at j7
            refine AW_go okX9_without 3 ?_
            obtain ⟨r9, h10, e11, j7⟩ := am_b2_ok j7
            refine AW_callS (As := [.int a0, .int x4i]) (R' := rX9_letterAt 0 0) (okX9_without.1 31 _ _ rfl) lkX9_letterAt (Or.inl kX9_273) rfl (Nat.le_of_ble_eq_true rfl) ⟨by decide, by decide⟩ ⟨(Nat.le_of_ble_eq_true rfl), (Nat.le_of_ble_eq_true rfl)⟩ (Nat.le_of_ble_eq_true rfl) (c_X9_letterAt a0 x4i h2 hs e11) (fun r h' hq => ?_)
            obtain ⟨rfl, hq⟩ := hq
            replace hq := hq.symm
            subst hq
            have hs := s_X9_letterAt a0 x4i h2 hs e11
            refine AW_go okX9_without 1 ?_
            obtain ⟨rfl, rfl⟩ := am_i2 j7
            exact AW_pick [0, 1, 2, 3, 4] rfl hJ7
          · rw [if_pos c8] at j7
            refine AW_go okX9_without 2 ?_
            obtain ⟨rfl, rfl⟩ := am_i2 j7
            exact AW_pick [0, 1, 2, 3, 4] rfl hJ7
        refine AW_go okX9_without 5 ?_
        obtain ⟨y62, j63, hf⟩ := am_bnd hf
        refine am_cut (P := AW mX9_without (rX9_without 0 0) (fun r h2 => r = some (.int v) ∧ h2 = h') 49 [(0, .int a0), (1, .int a1), (2, .int (x2i + y5)), (3, .int x3i), (4, .int x4i)] [.int y62, .int x3i] h6 0 0) (fun hJ63 => ?_) ?_
        · have hs := hs
          refine AW_go okX9_without 1 ?_
          refine And.intro (fun c64 => ?_) (fun c64 => ?_)
          · rw [if_neg c64] at j63
            refine AW_go okX9_without 1 ?_
            obtain rfl := am_i1 j63
            exact AW_pick [1, 2, 0, 3, 4] rfl hJ63
          · rw [if_pos c64] at j63
            refine AW_go okX9_without 2 ?_
            obtain rfl := am_i1 j63
            exact AW_pick [1, 2, 0, 3, 4] rfl hJ63
        refine AW_go okX9_without 4 ?_
        refine AW_pick (lv' := [(0, .int a0), (1, .int a1), (2, .int (x2i + y5)), (3, .int (x3i * y62)), (4, .int (x4i + Int32.ofInt 1))]) [2, 3, 4, 1, 0] rfl ?_
        exact ih a0 a1 (x2i + y5) (x3i * y62) (x4i + Int32.ofInt 1) h6 _ _ hs hf
def f_X9_without (n : Nat) (a0 : Int32) (a1 : Int32) (h : am_H) : Option (Int32 × am_H) := g_X9_without n 0 a0 a1 (Int32.ofInt 0) (Int32.ofInt 1) (Int32.ofInt 0) h
set_option maxRecDepth 100000 in
theorem s_X9_without (n : Nat) (a0 : Int32) (a1 : Int32) (h : am_H) (hs : am_stat h) {v : Int32} {h' : am_H} (hf : f_X9_without n a0 a1 h = some (v, h')) : am_stat h' := by
  unfold f_X9_without at hf
  exact (m_X9_without n) a0 a1 (Int32.ofInt 0) (Int32.ofInt 1) (Int32.ofInt 0) h _ _ hs hf
set_option maxRecDepth 100000 in
theorem c_X9_without (n : Nat) (a0 : Int32) (a1 : Int32) (h : am_H) (hs : am_stat h) {v : Int32} {h' : am_H} (hf : f_X9_without n a0 a1 h = some (v, h')) : AMet mX9_without (rX9_without 0 0) (fun r h2 => r = some (.int v) ∧ h2 = h') [.int a0, .int a1] h := by
  unfold f_X9_without at hf
  refine AW_go okX9_without 6 ?_
  refine AW_pick (lv' := [(0, .int a0), (1, .int a1), (2, .int (Int32.ofInt 0)), (3, .int (Int32.ofInt 1)), (4, .int (Int32.ofInt 0))]) [3, 4, 2, 1, 0] rfl ?_
  exact (l_X9_without n) a0 a1 (Int32.ofInt 0) (Int32.ofInt 1) (Int32.ofInt 0) h _ _ hs hf
def f_X9_behind (a0 : Int32) (a1 : Int32) (h : am_H) : Option (Int32 × am_H) := am_b2 (f_X9_sizeOf a0 h) fun r1 h2 => (am_b2 ((if r1 = 0 then some ((Int32.ofInt 1), h2) else am_b2 (f_X9_sizeOf a0 h2) fun r8 h9 => ((if r8 = (Int32.ofInt 1) then some ((Int32.ofInt 5), h9) else some ((Int32.ofInt 25), h9))))) fun y4 h5 => (some ((a0 + (y4 * (a1 + (Int32.ofInt 1)))), h5)))
set_option maxRecDepth 100000 in
theorem s_X9_behind (a0 : Int32) (a1 : Int32) (h : am_H) (hs : am_stat h) {v : Int32} {h' : am_H} (hf : f_X9_behind a0 a1 h = some (v, h')) : am_stat h' := by
  unfold f_X9_behind at hf
  obtain ⟨r1, h2, e3, hf⟩ := am_b2_ok hf
  have hs := s_X9_sizeOf a0 h hs e3
  obtain ⟨y4, h5, j6, hf⟩ := am_b2_ok hf
  have hs0 := hs
  have hs : am_stat h5 := by
    have hs := hs0
    by_cases c7 : r1 = 0
    · rw [if_pos c7] at j6
      obtain ⟨rfl, rfl⟩ := am_i2 j6
      exact hs
    · rw [if_neg c7] at j6
      obtain ⟨r8, h9, e10, j6⟩ := am_b2_ok j6
      have hs := s_X9_sizeOf a0 h2 hs e10
      by_cases c11 : r8 = (Int32.ofInt 1)
      · rw [if_pos c11] at j6
        obtain ⟨rfl, rfl⟩ := am_i2 j6
        exact hs
      · rw [if_neg c11] at j6
        obtain ⟨rfl, rfl⟩ := am_i2 j6
        exact hs
  obtain ⟨rfl, rfl⟩ := am_i2 hf
  exact hs
set_option maxRecDepth 100000 in
theorem c_X9_behind (a0 : Int32) (a1 : Int32) (h : am_H) (hs : am_stat h) {v : Int32} {h' : am_H} (hf : f_X9_behind a0 a1 h = some (v, h')) : AMet mX9_behind (rX9_behind 0 0) (fun r h2 => r = some (.int v) ∧ h2 = h') [.int a0, .int a1] h := by
  unfold f_X9_behind at hf
  refine AW_go okX9_behind 1 ?_
  obtain ⟨r1, h2, e3, hf⟩ := am_b2_ok hf
  refine AW_callS (As := [.int a0]) (R' := rX9_sizeOf 0 0) (okX9_behind.1 1 _ _ rfl) lkX9_sizeOf (Or.inl kX9_270) rfl (Nat.le_of_ble_eq_true rfl) ⟨by decide, by decide⟩ ⟨(Nat.le_of_ble_eq_true rfl), (Nat.le_of_ble_eq_true rfl)⟩ (Nat.le_of_ble_eq_true rfl) (c_X9_sizeOf a0 h hs e3) (fun r h' hq => ?_)
  obtain ⟨rfl, hq⟩ := hq
  replace hq := hq.symm
  subst hq
  have hs := s_X9_sizeOf a0 h hs e3
  obtain ⟨y4, h5, j6, hf⟩ := am_b2_ok hf
  have hs0 := hs
  have hs : am_stat h5 := by
    have hs := hs0
    by_cases c7 : r1 = 0
    · rw [if_pos c7] at j6
      obtain ⟨rfl, rfl⟩ := am_i2 j6
      exact hs
    · rw [if_neg c7] at j6
      obtain ⟨r8, h9, e10, j6⟩ := am_b2_ok j6
      have hs := s_X9_sizeOf a0 h2 hs e10
      by_cases c11 : r8 = (Int32.ofInt 1)
      · rw [if_pos c11] at j6
        obtain ⟨rfl, rfl⟩ := am_i2 j6
        exact hs
      · rw [if_neg c11] at j6
        obtain ⟨rfl, rfl⟩ := am_i2 j6
        exact hs
  refine am_cut (P := AW mX9_behind (rX9_behind 0 0) (fun r h2 => r = some (.int v) ∧ h2 = h') 25 [(0, .int a0), (1, .int a1)] [.int y4] h5 0 0) (fun hJ6 => ?_) ?_
  · have hs := hs0
    refine AW_go okX9_behind 1 ?_
    refine And.intro (fun c7 => ?_) (fun c7 => ?_)
    · rw [if_neg c7] at j6
      refine AW_go okX9_behind 1 ?_
      obtain ⟨r8, h9, e10, j6⟩ := am_b2_ok j6
      refine AW_callS (As := [.int a0]) (R' := rX9_sizeOf 0 0) (okX9_behind.1 12 _ _ rfl) lkX9_sizeOf (Or.inl kX9_270) rfl (Nat.le_of_ble_eq_true rfl) ⟨by decide, by decide⟩ ⟨(Nat.le_of_ble_eq_true rfl), (Nat.le_of_ble_eq_true rfl)⟩ (Nat.le_of_ble_eq_true rfl) (c_X9_sizeOf a0 h2 hs e10) (fun r h' hq => ?_)
      obtain ⟨rfl, hq⟩ := hq
      replace hq := hq.symm
      subst hq
      have hs := s_X9_sizeOf a0 h2 hs e10
      refine AW_go okX9_behind 2 ?_
      refine And.intro (fun c11 => ?_) (fun c11 => ?_)
      · rw [if_neg c11] at j6
        refine AW_go okX9_behind 1 ?_
        obtain ⟨rfl, rfl⟩ := am_i2 j6
        exact AW_pick [0, 1] rfl hJ6
      · rw [if_pos c11] at j6
        refine AW_go okX9_behind 2 ?_
        obtain ⟨rfl, rfl⟩ := am_i2 j6
        exact AW_pick [0, 1] rfl hJ6
    · rw [if_pos c7] at j6
      refine AW_go okX9_behind 2 ?_
      obtain ⟨rfl, rfl⟩ := am_i2 j6
      exact AW_pick [0, 1] rfl hJ6
  refine AW_go okX9_behind 9 ?_
  obtain ⟨rfl, rfl⟩ := am_i2 hf
  exact And.intro ⟨(Nat.le_of_ble_eq_true rfl), (Nat.le_of_ble_eq_true rfl)⟩ (And.intro (Or.inl rfl) ⟨rfl, rfl⟩)
def g_X9_among : Nat → Nat → Int32 → Int32 → Int32 → Int32 → Int32 → Int32 → am_H → Option (Int32 × am_H)
  | 0, _, _, _, _, _, _, _, _ => none
  | n + 1, _, a0, a1, x2i, x3i, x4i, x5i, h => am_b2 (f_X9_sizeOf a0 h) fun r1 h2 => ((if r1 ≤ x5i then Option.bind ((if x4i = 0 then some (x2i + (x3i * (a1 + (Int32.ofInt 1)))) else some x2i)) fun y5 => (some (y5, h2)) else am_b4 ((if x4i = 0 then am_b2 (f_X9_letterAt a0 x5i h2) fun r64 h65 => ((if r64 ≤ (a1 + (Int32.ofInt 1)) then some (x2i, x3i, x4i, h65) else some ((x2i + (x3i * (a1 + (Int32.ofInt 1)))), (x3i * (Int32.ofInt 5)), (Int32.ofInt 1), h65))) else some (x2i, x3i, x4i, h2))) fun y58 y59 y60 h61 => (am_b2 (f_X9_letterAt a0 x5i h61) fun r118 h119 => (g_X9_among n 0 a0 a1 (y58 + (y59 * r118)) (y59 * (Int32.ofInt 5)) y60 (x5i + Int32.ofInt 1) h119))))
set_option maxRecDepth 100000 in
set_option maxHeartbeats 4000000 in
theorem m_X9_among (n : Nat) : (∀ (a0 : Int32) (a1 : Int32) (x2i : Int32) (x3i : Int32) (x4i : Int32) (x5i : Int32) (h : am_H) (v : Int32) (h' : am_H), am_stat h → g_X9_among n 0 a0 a1 x2i x3i x4i x5i h = some (v, h') → am_stat h') := by
  induction n with
  | zero => exact fun a0 a1 x2i x3i x4i x5i h v h' hs hf => (by cases hf)
  | succ n ih =>
    skip
    · intro a0 a1 x2i x3i x4i x5i h v h' hs hf
      have hf : (am_b2 (f_X9_sizeOf a0 h) fun r1 h2 => ((if r1 ≤ x5i then Option.bind ((if x4i = 0 then some (x2i + (x3i * (a1 + (Int32.ofInt 1)))) else some x2i)) fun y5 => (some (y5, h2)) else am_b4 ((if x4i = 0 then am_b2 (f_X9_letterAt a0 x5i h2) fun r64 h65 => ((if r64 ≤ (a1 + (Int32.ofInt 1)) then some (x2i, x3i, x4i, h65) else some ((x2i + (x3i * (a1 + (Int32.ofInt 1)))), (x3i * (Int32.ofInt 5)), (Int32.ofInt 1), h65))) else some (x2i, x3i, x4i, h2))) fun y58 y59 y60 h61 => (am_b2 (f_X9_letterAt a0 x5i h61) fun r118 h119 => (g_X9_among n 0 a0 a1 (y58 + (y59 * r118)) (y59 * (Int32.ofInt 5)) y60 (x5i + Int32.ofInt 1) h119))))) = some (v, h') := hf
      obtain ⟨r1, h2, e3, hf⟩ := am_b2_ok hf
      have hs := s_X9_sizeOf a0 h hs e3
      by_cases c4 : r1 ≤ x5i
      · rw [if_pos c4] at hf
        obtain ⟨y5, j6, hf⟩ := am_bnd hf
        obtain ⟨rfl, rfl⟩ := am_i2 hf
        exact hs
      · rw [if_neg c4] at hf
        obtain ⟨y58, y59, y60, h61, j62, hf⟩ := am_b4_ok hf
        have hs0 := hs
        have hs : am_stat h61 := by
          have hs := hs0
          by_cases c63 : x4i = 0
          · rw [if_pos c63] at j62
            obtain ⟨r64, h65, e66, j62⟩ := am_b2_ok j62
            have hs := s_X9_letterAt a0 x5i h2 hs e66
            by_cases c67 : r64 ≤ (a1 + (Int32.ofInt 1))
            · rw [if_pos c67] at j62
              obtain ⟨rfl, rfl, rfl, rfl⟩ := am_i4 j62
              exact hs
            · rw [if_neg c67] at j62
              obtain ⟨rfl, rfl, rfl, rfl⟩ := am_i4 j62
              exact hs
          · rw [if_neg c63] at j62
            obtain ⟨rfl, rfl, rfl, rfl⟩ := am_i4 j62
            exact hs
        obtain ⟨r118, h119, e120, hf⟩ := am_b2_ok hf
        have hs := s_X9_letterAt a0 x5i h61 hs e120
        exact ih a0 a1 (y58 + (y59 * r118)) (y59 * (Int32.ofInt 5)) y60 (x5i + Int32.ofInt 1) h119 _ _ hs hf
set_option maxRecDepth 100000 in
set_option maxHeartbeats 4000000 in
theorem l_X9_among (n : Nat) : (∀ (a0 : Int32) (a1 : Int32) (x2i : Int32) (x3i : Int32) (x4i : Int32) (x5i : Int32) (h : am_H) (v : Int32) (h' : am_H), am_stat h → g_X9_among n 0 a0 a1 x2i x3i x4i x5i h = some (v, h') → AW mX9_among (rX9_among 0 0) (fun r h2 => r = some (.int v) ∧ h2 = h') 10 [(0, .int a0), (1, .int a1), (2, .int x2i), (3, .int x3i), (4, .int x4i), (5, .int x5i)] [] h 0 0) := by
  induction n with
  | zero => exact fun a0 a1 x2i x3i x4i x5i h v h' hs hf => (by cases hf)
  | succ n ih =>
    skip
    · intro a0 a1 x2i x3i x4i x5i h v h' hs hf
      have hf : (am_b2 (f_X9_sizeOf a0 h) fun r1 h2 => ((if r1 ≤ x5i then Option.bind ((if x4i = 0 then some (x2i + (x3i * (a1 + (Int32.ofInt 1)))) else some x2i)) fun y5 => (some (y5, h2)) else am_b4 ((if x4i = 0 then am_b2 (f_X9_letterAt a0 x5i h2) fun r64 h65 => ((if r64 ≤ (a1 + (Int32.ofInt 1)) then some (x2i, x3i, x4i, h65) else some ((x2i + (x3i * (a1 + (Int32.ofInt 1)))), (x3i * (Int32.ofInt 5)), (Int32.ofInt 1), h65))) else some (x2i, x3i, x4i, h2))) fun y58 y59 y60 h61 => (am_b2 (f_X9_letterAt a0 x5i h61) fun r118 h119 => (g_X9_among n 0 a0 a1 (y58 + (y59 * r118)) (y59 * (Int32.ofInt 5)) y60 (x5i + Int32.ofInt 1) h119))))) = some (v, h') := hf
      refine AW_go okX9_among 2 ?_
      obtain ⟨r1, h2, e3, hf⟩ := am_b2_ok hf
      refine AW_callS (As := [.int a0]) (R' := rX9_sizeOf 0 0) (okX9_among.1 13 _ _ rfl) lkX9_sizeOf (Or.inl kX9_270) rfl (Nat.le_of_ble_eq_true rfl) ⟨by decide, by decide⟩ ⟨(Nat.le_of_ble_eq_true rfl), (Nat.le_of_ble_eq_true rfl)⟩ (Nat.le_of_ble_eq_true rfl) (c_X9_sizeOf a0 h hs e3) (fun r h' hq => ?_)
      obtain ⟨rfl, hq⟩ := hq
      replace hq := hq.symm
      subst hq
      have hs := s_X9_sizeOf a0 h hs e3
      refine AW_go okX9_among 1 ?_
      refine And.intro (fun c4 => ?_) (fun c4 => ?_)
      · rw [if_pos c4] at hf
        refine AW_go okX9_among 1 ?_
        obtain ⟨y5, j6, hf⟩ := am_bnd hf
        refine am_cut (P := AW mX9_among (rX9_among 0 0) (fun r h2 => r = some (.int v) ∧ h2 = h') 88 [(0, .int a0), (1, .int a1), (2, .int x2i), (3, .int x3i), (4, .int x4i), (5, .int x5i)] [.int y5] h2 0 0) (fun hJ6 => ?_) ?_
        · have hs := hs
          refine AW_go okX9_among 1 ?_
          refine And.intro (fun c7 => ?_) (fun c7 => ?_)
          · rw [if_pos c7] at j6
            refine AW_go okX9_among 7 ?_
            obtain rfl := am_i1 j6
            exact AW_pick [0, 1, 2, 3, 4, 5] rfl hJ6
          · rw [if_neg c7] at j6
            refine AW_go okX9_among 2 ?_
            obtain rfl := am_i1 j6
            exact AW_pick [0, 1, 2, 3, 4, 5] rfl hJ6
        refine AW_go okX9_among 1 ?_
        obtain ⟨rfl, rfl⟩ := am_i2 hf
        exact And.intro ⟨(Nat.le_of_ble_eq_true rfl), (Nat.le_of_ble_eq_true rfl)⟩ (And.intro (Or.inl rfl) ⟨rfl, rfl⟩)
      · rw [if_neg c4] at hf
        refine AW_go okX9_among 1 ?_
        obtain ⟨y58, y59, y60, h61, j62, hf⟩ := am_b4_ok hf
        have hs0 := hs
        have hs : am_stat h61 := by
          have hs := hs0
          by_cases c63 : x4i = 0
          · rw [if_pos c63] at j62
            obtain ⟨r64, h65, e66, j62⟩ := am_b2_ok j62
            have hs := s_X9_letterAt a0 x5i h2 hs e66
            by_cases c67 : r64 ≤ (a1 + (Int32.ofInt 1))
            · rw [if_pos c67] at j62
              obtain ⟨rfl, rfl, rfl, rfl⟩ := am_i4 j62
              exact hs
            · rw [if_neg c67] at j62
              obtain ⟨rfl, rfl, rfl, rfl⟩ := am_i4 j62
              exact hs
          · rw [if_neg c63] at j62
            obtain ⟨rfl, rfl, rfl, rfl⟩ := am_i4 j62
            exact hs
        refine am_cut (P := AW mX9_among (rX9_among 0 0) (fun r h2 => r = some (.int v) ∧ h2 = h') 51 [(0, .int a0), (1, .int a1), (2, .int y58), (3, .int y59), (4, .int y60), (5, .int x5i)] [] h61 0 0) (fun hJ62 => ?_) ?_
        · have hs := hs0
          refine AW_go okX9_among 1 ?_
          refine And.intro (fun c63 => ?_) (fun c63 => ?_)
          · rw [if_neg c63] at j62
            obtain ⟨rfl, rfl, rfl, rfl⟩ := am_i4 j62
            exact AW_pick [0, 1, 2, 3, 4, 5] rfl hJ62
          · rw [if_pos c63] at j62
            refine AW_go okX9_among 2 ?_
            obtain ⟨r64, h65, e66, j62⟩ := am_b2_ok j62
            refine AW_callS (As := [.int a0, .int x5i]) (R' := rX9_letterAt 0 0) (okX9_among.1 27 _ _ rfl) lkX9_letterAt (Or.inl kX9_273) rfl (Nat.le_of_ble_eq_true rfl) ⟨by decide, by decide⟩ ⟨(Nat.le_of_ble_eq_true rfl), (Nat.le_of_ble_eq_true rfl)⟩ (Nat.le_of_ble_eq_true rfl) (c_X9_letterAt a0 x5i h2 hs e66) (fun r h' hq => ?_)
            obtain ⟨rfl, hq⟩ := hq
            replace hq := hq.symm
            subst hq
            have hs := s_X9_letterAt a0 x5i h2 hs e66
            refine AW_go okX9_among 4 ?_
            refine And.intro (fun c67 => ?_) (fun c67 => ?_)
            · rw [if_pos c67] at j62
              obtain ⟨rfl, rfl, rfl, rfl⟩ := am_i4 j62
              exact AW_pick [0, 1, 2, 3, 4, 5] rfl hJ62
            · rw [if_neg c67] at j62
              refine AW_go okX9_among 14 ?_
              obtain ⟨rfl, rfl, rfl, rfl⟩ := am_i4 j62
              exact AW_pick [3, 4, 2, 1, 0, 5] rfl hJ62
        refine AW_go okX9_among 4 ?_
        obtain ⟨r118, h119, e120, hf⟩ := am_b2_ok hf
        refine AW_callS (As := [.int a0, .int x5i]) (R' := rX9_letterAt 0 0) (okX9_among.1 56 _ _ rfl) lkX9_letterAt (Or.inl kX9_273) rfl (Nat.le_of_ble_eq_true rfl) ⟨by decide, by decide⟩ ⟨(Nat.le_of_ble_eq_true rfl), (Nat.le_of_ble_eq_true rfl)⟩ (Nat.le_of_ble_eq_true rfl) (c_X9_letterAt a0 x5i h61 hs e120) (fun r h' hq => ?_)
        obtain ⟨rfl, hq⟩ := hq
        replace hq := hq.symm
        subst hq
        have hs := s_X9_letterAt a0 x5i h61 hs e120
        refine AW_go okX9_among 9 ?_
        refine AW_pick (lv' := [(0, .int a0), (1, .int a1), (2, .int (y58 + (y59 * r118))), (3, .int (y59 * (Int32.ofInt 5))), (4, .int y60), (5, .int (x5i + Int32.ofInt 1))]) [3, 4, 2, 1, 5, 0] rfl ?_
        exact ih a0 a1 (y58 + (y59 * r118)) (y59 * (Int32.ofInt 5)) y60 (x5i + Int32.ofInt 1) h119 _ _ hs hf
def f_X9_among (n : Nat) (a0 : Int32) (a1 : Int32) (h : am_H) : Option (Int32 × am_H) := g_X9_among n 0 a0 a1 (Int32.ofInt 0) (Int32.ofInt 1) (Int32.ofInt 0) (Int32.ofInt 0) h
set_option maxRecDepth 100000 in
theorem s_X9_among (n : Nat) (a0 : Int32) (a1 : Int32) (h : am_H) (hs : am_stat h) {v : Int32} {h' : am_H} (hf : f_X9_among n a0 a1 h = some (v, h')) : am_stat h' := by
  unfold f_X9_among at hf
  exact (m_X9_among n) a0 a1 (Int32.ofInt 0) (Int32.ofInt 1) (Int32.ofInt 0) (Int32.ofInt 0) h _ _ hs hf
set_option maxRecDepth 100000 in
theorem c_X9_among (n : Nat) (a0 : Int32) (a1 : Int32) (h : am_H) (hs : am_stat h) {v : Int32} {h' : am_H} (hf : f_X9_among n a0 a1 h = some (v, h')) : AMet mX9_among (rX9_among 0 0) (fun r h2 => r = some (.int v) ∧ h2 = h') [.int a0, .int a1] h := by
  unfold f_X9_among at hf
  refine AW_go okX9_among 8 ?_
  refine AW_pick (lv' := [(0, .int a0), (1, .int a1), (2, .int (Int32.ofInt 0)), (3, .int (Int32.ofInt 1)), (4, .int (Int32.ofInt 0)), (5, .int (Int32.ofInt 0))]) [4, 5, 3, 2, 1, 0] rfl ?_
  exact (l_X9_among n) a0 a1 (Int32.ofInt 0) (Int32.ofInt 1) (Int32.ofInt 0) (Int32.ofInt 0) h _ _ hs hf
def g_X9_placeOf : Nat → Nat → Int32 → Int32 → Int32 → Int32 → am_H → Option (Int32 × am_H)
  | 0, _, _, _, _, _, _ => none
  | n + 1, _, a1, a2, x3i, x4i, h => am_b2 (f_X9_sizeOf x3i h) fun r1 h2 => ((if r1 ≤ x4i then some ((Int32.ofInt (-1)), h2) else am_b2 (f_X9_letterAt x3i x4i h2) fun r5 h6 => ((if r5 = (a2 + (Int32.ofInt 1)) then (if x4i = 0 then some (x4i, h6) else bif am_vp a1 9 then ((if (am_I h6 59 (Int32.toNatClampNeg a1)) = (Int32.ofInt 1) then some (x4i, h6) else g_X9_placeOf n 0 a1 a2 x3i (x4i + Int32.ofInt 1) h6)) else none) else g_X9_placeOf n 0 a1 a2 x3i (x4i + Int32.ofInt 1) h6))))
set_option maxRecDepth 100000 in
set_option maxHeartbeats 4000000 in
theorem m_X9_placeOf (n : Nat) : (∀ (a1 : Int32) (a2 : Int32) (x3i : Int32) (x4i : Int32) (h : am_H) (v : Int32) (h' : am_H), am_stat h → g_X9_placeOf n 0 a1 a2 x3i x4i h = some (v, h') → am_stat h') := by
  induction n with
  | zero => exact fun a1 a2 x3i x4i h v h' hs hf => (by cases hf)
  | succ n ih =>
    skip
    · intro a1 a2 x3i x4i h v h' hs hf
      have hf : (am_b2 (f_X9_sizeOf x3i h) fun r1 h2 => ((if r1 ≤ x4i then some ((Int32.ofInt (-1)), h2) else am_b2 (f_X9_letterAt x3i x4i h2) fun r5 h6 => ((if r5 = (a2 + (Int32.ofInt 1)) then (if x4i = 0 then some (x4i, h6) else bif am_vp a1 9 then ((if (am_I h6 59 (Int32.toNatClampNeg a1)) = (Int32.ofInt 1) then some (x4i, h6) else g_X9_placeOf n 0 a1 a2 x3i (x4i + Int32.ofInt 1) h6)) else none) else g_X9_placeOf n 0 a1 a2 x3i (x4i + Int32.ofInt 1) h6))))) = some (v, h') := hf
      obtain ⟨r1, h2, e3, hf⟩ := am_b2_ok hf
      have hs := s_X9_sizeOf x3i h hs e3
      by_cases c4 : r1 ≤ x4i
      · rw [if_pos c4] at hf
        obtain ⟨rfl, rfl⟩ := am_i2 hf
        exact hs
      · rw [if_neg c4] at hf
        obtain ⟨r5, h6, e7, hf⟩ := am_b2_ok hf
        have hs := s_X9_letterAt x3i x4i h2 hs e7
        by_cases c8 : r5 = (a2 + (Int32.ofInt 1))
        · rw [if_pos c8] at hf
          by_cases c9 : x4i = 0
          · rw [if_pos c9] at hf
            obtain ⟨rfl, rfl⟩ := am_i2 hf
            exact hs
          · rw [if_neg c9] at hf
            obtain ⟨b10, hf⟩ := am_bis hf
            by_cases c11 : (am_I h6 59 (Int32.toNatClampNeg a1)) = (Int32.ofInt 1)
            · rw [if_pos c11] at hf
              obtain ⟨rfl, rfl⟩ := am_i2 hf
              exact hs
            · rw [if_neg c11] at hf
              exact ih a1 a2 x3i (x4i + Int32.ofInt 1) h6 _ _ hs hf
        · rw [if_neg c8] at hf
          exact ih a1 a2 x3i (x4i + Int32.ofInt 1) h6 _ _ hs hf
set_option maxRecDepth 100000 in
set_option maxHeartbeats 4000000 in
theorem l_X9_placeOf (n : Nat) : (∀ (a1 : Int32) (a2 : Int32) (x3i : Int32) (x4i : Int32) (h : am_H) (v : Int32) (h' : am_H), am_stat h → g_X9_placeOf n 0 a1 a2 x3i x4i h = some (v, h') → AW mX9_placeOf (rX9_placeOf 0 0) (fun r h2 => r = some (.int v) ∧ h2 = h') 10 [(0, .ref 51), (1, .int a1), (2, .int a2), (3, .int x3i), (4, .int x4i)] [] h 0 0) := by
  induction n with
  | zero => exact fun a1 a2 x3i x4i h v h' hs hf => (by cases hf)
  | succ n ih =>
    skip
    · intro a1 a2 x3i x4i h v h' hs hf
      have hf : (am_b2 (f_X9_sizeOf x3i h) fun r1 h2 => ((if r1 ≤ x4i then some ((Int32.ofInt (-1)), h2) else am_b2 (f_X9_letterAt x3i x4i h2) fun r5 h6 => ((if r5 = (a2 + (Int32.ofInt 1)) then (if x4i = 0 then some (x4i, h6) else bif am_vp a1 9 then ((if (am_I h6 59 (Int32.toNatClampNeg a1)) = (Int32.ofInt 1) then some (x4i, h6) else g_X9_placeOf n 0 a1 a2 x3i (x4i + Int32.ofInt 1) h6)) else none) else g_X9_placeOf n 0 a1 a2 x3i (x4i + Int32.ofInt 1) h6))))) = some (v, h') := hf
      refine AW_go okX9_placeOf 2 ?_
      obtain ⟨r1, h2, e3, hf⟩ := am_b2_ok hf
      refine AW_callS (As := [.int x3i]) (R' := rX9_sizeOf 0 0) (okX9_placeOf.1 13 _ _ rfl) lkX9_sizeOf (Or.inl kX9_270) rfl (Nat.le_of_ble_eq_true rfl) ⟨by decide, by decide⟩ ⟨(Nat.le_of_ble_eq_true rfl), (Nat.le_of_ble_eq_true rfl)⟩ (Nat.le_of_ble_eq_true rfl) (c_X9_sizeOf x3i h hs e3) (fun r h' hq => ?_)
      obtain ⟨rfl, hq⟩ := hq
      replace hq := hq.symm
      subst hq
      have hs := s_X9_sizeOf x3i h hs e3
      refine AW_go okX9_placeOf 1 ?_
      refine And.intro (fun c4 => ?_) (fun c4 => ?_)
      · rw [if_pos c4] at hf
        refine AW_go okX9_placeOf 2 ?_
        obtain ⟨rfl, rfl⟩ := am_i2 hf
        exact And.intro ⟨(Nat.le_of_ble_eq_true rfl), (Nat.le_of_ble_eq_true rfl)⟩ (And.intro (Or.inl rfl) ⟨rfl, rfl⟩)
      · rw [if_neg c4] at hf
        refine AW_go okX9_placeOf 2 ?_
        obtain ⟨r5, h6, e7, hf⟩ := am_b2_ok hf
        refine AW_callS (As := [.int x3i, .int x4i]) (R' := rX9_letterAt 0 0) (okX9_placeOf.1 22 _ _ rfl) lkX9_letterAt (Or.inl kX9_273) rfl (Nat.le_of_ble_eq_true rfl) ⟨by decide, by decide⟩ ⟨(Nat.le_of_ble_eq_true rfl), (Nat.le_of_ble_eq_true rfl)⟩ (Nat.le_of_ble_eq_true rfl) (c_X9_letterAt x3i x4i h2 hs e7) (fun r h' hq => ?_)
        obtain ⟨rfl, hq⟩ := hq
        replace hq := hq.symm
        subst hq
        have hs := s_X9_letterAt x3i x4i h2 hs e7
        refine AW_go okX9_placeOf 4 ?_
        refine And.intro (fun c8 => ?_) (fun c8 => ?_)
        · rw [if_neg c8] at hf
          refine AW_go okX9_placeOf 2 ?_
          refine AW_pick (lv' := [(0, .ref 51), (1, .int a1), (2, .int a2), (3, .int x3i), (4, .int (x4i + Int32.ofInt 1))]) [1, 2, 3, 4, 0] rfl ?_
          exact ih a1 a2 x3i (x4i + Int32.ofInt 1) h6 _ _ hs hf
        · rw [if_pos c8] at hf
          refine AW_go okX9_placeOf 2 ?_
          refine And.intro (fun c9 => ?_) (fun c9 => ?_)
          · rw [if_pos c9] at hf
            refine AW_go okX9_placeOf 2 ?_
            obtain ⟨rfl, rfl⟩ := am_i2 hf
            exact And.intro ⟨(Nat.le_of_ble_eq_true rfl), (Nat.le_of_ble_eq_true rfl)⟩ (And.intro (Or.inl rfl) ⟨rfl, rfl⟩)
          · rw [if_neg c9] at hf
            obtain ⟨b10, hf⟩ := am_bis hf
            refine AW_go okX9_placeOf 6 ?_
            refine And.intro (sK hs 51) (Exists.intro _ (And.intro (sA hs 51 10) ?_))
            refine Exists.intro 9 (And.intro (sK hs 59) (And.intro (am_vp_ok b10) ?_))
            refine And.intro (fun c11 => ?_) (fun c11 => ?_)
            · rw [if_neg c11] at hf
              refine AW_go okX9_placeOf 2 ?_
              refine AW_pick (lv' := [(0, .ref 51), (1, .int a1), (2, .int a2), (3, .int x3i), (4, .int (x4i + Int32.ofInt 1))]) [1, 2, 3, 4, 0] rfl ?_
              exact ih a1 a2 x3i (x4i + Int32.ofInt 1) h6 _ _ hs hf
            · rw [if_pos c11] at hf
              refine AW_go okX9_placeOf 2 ?_
              obtain ⟨rfl, rfl⟩ := am_i2 hf
              exact And.intro ⟨(Nat.le_of_ble_eq_true rfl), (Nat.le_of_ble_eq_true rfl)⟩ (And.intro (Or.inl rfl) ⟨rfl, rfl⟩)
def f_X9_placeOf (n : Nat) (a1 : Int32) (a2 : Int32) (h : am_H) : Option (Int32 × am_H) := bif am_vp a1 9 then (g_X9_placeOf n 0 a1 a2 (am_I h 78 (Int32.toNatClampNeg a1)) (Int32.ofInt 0) h) else none
set_option maxRecDepth 100000 in
theorem s_X9_placeOf (n : Nat) (a1 : Int32) (a2 : Int32) (h : am_H) (hs : am_stat h) {v : Int32} {h' : am_H} (hf : f_X9_placeOf n a1 a2 h = some (v, h')) : am_stat h' := by
  unfold f_X9_placeOf at hf
  obtain ⟨b1, hf⟩ := am_bis hf
  exact (m_X9_placeOf n) a1 a2 (am_I h 78 (Int32.toNatClampNeg a1)) (Int32.ofInt 0) h _ _ hs hf
set_option maxRecDepth 100000 in
theorem c_X9_placeOf (n : Nat) (a1 : Int32) (a2 : Int32) (h : am_H) (hs : am_stat h) {v : Int32} {h' : am_H} (hf : f_X9_placeOf n a1 a2 h = some (v, h')) : AMet mX9_placeOf (rX9_placeOf 0 0) (fun r h2 => r = some (.int v) ∧ h2 = h') [.ref 51, .int a1, .int a2] h := by
  unfold f_X9_placeOf at hf
  obtain ⟨b1, hf⟩ := am_bis hf
  refine AW_go okX9_placeOf 7 ?_
  refine And.intro (sK hs 51) (Exists.intro _ (And.intro (sA hs 51 39) ?_))
  refine Exists.intro 9 (And.intro (sK hs 78) (And.intro (am_vp_ok b1) ?_))
  refine AW_pick (lv' := [(0, .ref 51), (1, .int a1), (2, .int a2), (3, .int (am_I h 78 (Int32.toNatClampNeg a1))), (4, .int (Int32.ofInt 0))]) [2, 3, 4, 1, 0] rfl ?_
  exact (l_X9_placeOf n) a1 a2 (am_I h 78 (Int32.toNatClampNeg a1)) (Int32.ofInt 0) h _ _ hs hf
