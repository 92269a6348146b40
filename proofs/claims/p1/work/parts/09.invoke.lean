/-! ===== calls ===== -/
def am_LV (own : String) (idx : Nat) (M : am_M) : Prop := Cond.methodLink own idx (am_y M) ∈ am_Ts ∧ Cond.instanceMethod (am_y M) ∈ am_Ts ∧ Cond.selects (am_y M).cls (am_y M) (am_y M) ∈ am_Ts
def am_LS (own : String) (idx : Nat) (M : am_M) : Prop := Cond.methodLink own idx (am_y M) ∈ am_Ts ∧ Cond.static (am_y M) ∈ am_Ts
def am_LI (own : String) (idx : Nat) (M : am_M) : Prop := Cond.methodLink own idx (am_y M) ∈ am_Ts ∧ Cond.instanceMethod (am_y M) ∈ am_Ts ∧ (am_y M).name = "<init>" ∧ am_rt M = none
def am_LSN (own : String) (idx : Nat) (host : String) (M : am_M) : Prop := Cond.methodLinkNest own idx (am_y M) host ∈ am_nest ∧ Cond.static (am_y M) ∈ am_Ts
def am_LIN (own : String) (idx : Nat) (host : String) (M : am_M) : Prop := Cond.methodLinkNest own idx (am_y M) host ∈ am_nest ∧ Cond.instanceMethod (am_y M) ∈ am_Ts ∧ (am_y M).name = "<init>" ∧ am_rt M = none
/-- the callee's room within the caller's -/
def am_rm (M' : am_M) (R' R : Room) : Prop := R'.frames + 1 ≤ R.frames ∧ 8 + (am_ml M' + 11) + R'.locals ≤ R.locals
theorem am_goodWs {M : am_M} {n : Nat} (h : am_lk M n) : GoodIn am_Ts (am_ws M) := am_goodIn (fun w hw => by
  rcases List.mem_cons.mp hw with rfl | hw
  · exact h.2.1
  · exact hw)
section AMI
variable {M : am_M} {p : Program} {l : Launch} {e : Env} {R : Room} {s : State} {m : MethodId} {args : Array Value} {below : List Frame} {meth : Method} {cd : Code} {dC : Nat → ClassId} {dI : Nat → Nat → Nat} {dA : Nat → ClassId} {b : Nat} {A : Nat → Prop} {ad0 : Nat → Nat} {n0 : Nat} {Z : State → Prop} {scr : Option (Nat × (Nat → Int32))}
variable {M' : am_M} {R' : Room} {Q' : Option Value → am_H → Prop}
theorem am_back {ad : Nat → Nat} {lv : List (Nat × Value)} {st st0 : List Value} {st1 : List Value} {h : am_H} {H : Heap} {locs : List Loc} {ls : Array Slot} {pc c sl mc ms : Nat} {a : Array Value} (hA : ∀ q, s.heap.size ≤ q → A q) (S : am_St M s dC dI dA b A ad0 n0 ad lv st0 h H locs ls) (hst : am_okl h.1 st)
    (hr : va_Run p l e R s m args below meth cd H locs c sl mc ms (F0 m pc ls st1) (st.map (am_v ad b)) (am_Qc Q' dC dI dA b (va_A (am_w dA ad h) H.size) ad h.1 a) (va_A (am_w dA ad h) H.size))
    (kk : ∀ (r : Option Value) (h' : am_H), Q' r h' → am_Pt M p l e R s m args below meth cd dC dI dA b A ad0 n0 Z (pc + 3) lv (r.toList ++ st) h' (c + mc) (sl + ms)) : W p l e R s m args below meth cd H locs c sl Z (F0 m pc ls st1) := by
  intro T hT X
  obtain ⟨v, st₀, t, T', L, h0, X', hL, e1, e2, ⟨⟨r, h', ad', hv, hq, hw', hok', hn', had', hP', hD'⟩, hz, hk⟩, stp⟩ := hr T hT X
  obtain ⟨⟨hw, hn, had, hP, hD, hSS⟩, -, hlv, hls⟩ := S
  have hv : v = r.map (am_v ad' b) := by cases hv; rfl
  subst hv
  rw [h0] at hz hk
  have hAA : ∀ q, va_A (am_w dA ad h) H.size q → A q := by
    intro q hq
    rcases hq with ⟨k, en, hq⟩ | hq
    · exact hD.2 k (q, en) hq
    · exact hA q (Nat.le_trans hSS.1 hq)
  have S' : am_St M s dC dI dA b A ad0 n0 ad' lv (r.toList ++ st) h' T'.heap (locs ++ L) ls := by
    refine ⟨⟨hw', Nat.le_trans hn hn', fun i hi => (had' i (Nat.lt_of_lt_of_le hi hn)).trans (had i hi), by rw [e1]; exact hP', hD'.weaken (fun k q _ hq => hAA q.1 hq), ?_⟩, ?_, am_okl_mono hn' hlv, ?_⟩
    · refine ⟨Nat.le_trans hSS.1 (by rw [e1]; exact hz), fun q h1 h2 => ?_, fun q hq => ?_⟩
      · rw [e1, hk q (Nat.lt_of_lt_of_le h1 hSS.1) (fun z => h2 (hAA q z))]
        exact hSS.2.1 q h1 h2
      · rcases List.mem_append.mp hq with hq | hq
        · exact hSS.2.2 q hq
        · exact hAA _ (hL q hq)
    · intro w hw
      rcases List.mem_append.mp hw with hw | hw
      · exact hok' w hw
      · exact am_okv_mono hn' (hst w hw)
    · rw [am_cl_ext had' hlv]; exact hls
  have g := kk r h' hq ad' T'.heap (locs ++ L) ls S'
  have e3 : (r.toList ++ st).map (am_v ad' b) = (r.map (am_v ad' b)).toList ++ st.map (am_v ad b) := by
    rw [List.map_append, am_map_ext had' hst]
    cases r <;> rfl
  rw [e3] at g
  obtain ⟨t2, a1, b1⟩ := g T' rfl X'
  exact ⟨t2, stp t2 a1, b1⟩
theorem am_sum (ad : Nat → Nat) (b : Nat) (st : List Value) : ((st.map (am_v ad b)).map fun v => v.category).sum = (st.map fun v => v.category).sum := by
  rw [List.map_map]
  congr 1
  exact List.map_congr_left (fun v _ => am_v_cat ad b v)
theorem am_Pcall_pre {ad : Nat → Nat} {lv : List (Nat × Value)} {st0 : List Value} {h : am_H} {H : Heap} {locs : List Loc} {ls : Array Slot} (C : am_Cx M scr p s m args meth cd dC dI dA b A) (S : am_St M s dC dI dA b A ad0 n0 ad lv st0 h H locs ls) : ∀ U : State, U.heap = H → s.WarmedH U.vm → am_Pre dC dI dA ad h H.size U := by
  intro U hU hW
  obtain ⟨-, -, -, -, -, -, -, -, hX, hKK, -, -⟩ := C
  exact ⟨by rw [hU], by rw [hU]; exact S.1.2.2.2.1, va_K.moved hW.alike hKK, S.1.2.2.2.2.1.weaken (fun _ _ _ _ => trivial), hX.moved hW⟩
theorem am_PcallV (C : am_Cx M scr p s m args meth cd dC dI dA b A) {pc idx n o ci N : Nat} {T : u_T} {As : List Value} {lv : List (Nat × Value)} {st : List Value} {h : am_H} {c sl : Nat} (hlk : am_lk M' n) (hv : am_LV (am_y M).cls idx M') (hd : decode (am_by M) pc = .ok (.invokevirtual idx, 3)) (hc : vwCl[ci]? = some ((am_y M').cls, T, N)) (hK : am_K h o = .inl ci) (hlen : As.length = n) (hsum : (st.map fun v => v.category).sum ≤ 8) (hR : am_rm M' R' R) (hf : c + R'.cells ≤ R.cells ∧ sl + R'.slots ≤ R.slots) (hml : (lg_sl (.ref o :: As)).length ≤ am_ml M')
    (hM : AMet M' R' Q' (.ref o :: As) h)
    (kk : ∀ (r : Option Value) (h' : am_H), Q' r h' → am_Pt M p l e R s m args below meth cd dC dI dA b A ad0 n0 Z (pc + 3) lv (r.toList ++ st) h' (c + R'.cells) (sl + R'.slots)) : am_Pt M p l e R s m args below meth cd dC dI dA b A ad0 n0 Z pc lv (As.reverse ++ .ref o :: st) h c sl := by
  intro ad H locs ls S
  have C' := C
  obtain ⟨hx, hb, -, -, hmx, hown, -, hts, hX, hKK, hA, -⟩ := C
  have hst0 := S.2.1
  have ho : o < h.1 := hst0 (.ref o) (List.mem_append_right _ List.mem_cons_self)
  have hst : am_okl h.1 st := fun v hv => hst0 v (List.mem_append_right _ (List.mem_cons_of_mem _ hv))
  have hav : am_okl h.1 (.ref o :: As) := am_okl_cons ho (fun v hv => hst0 v (List.mem_append_left _ (List.mem_reverse.mpr hv)))
  have hg := am_w_get dA ad h ho
  rw [am_e_obj hK] at hg
  have hrecv := va_recv hKK S.1.2.2.2.1 (q := ((am_y M').cls, T, N)) hc hg
  have hmet := am_met hlk hM S.1.1 hav hml l dC dI dA b ad H.size
  have est : (As.reverse ++ .ref o :: st).map (am_v ad b) = (As.map (am_v ad b)).reverse ++ .ref (ad o) :: st.map (am_v ad b) := by
    rw [List.map_append, List.map_reverse]; rfl
  rw [est]
  refine am_back (Q' := Q') (mc := R'.cells) (ms := R'.slots) (a := (Value.ref (ad o) :: As.map (am_v ad b)).toArray) hA S hst ?_ kk
  exact va_runV (As := As.map (am_v ad b)) (rest := st.map (am_v ad b)) (b := ad o) (C := (am_y M').cls) ⟨hx, hb, hmx, hown, hts⟩ hmet ⟨callB_of n hts (am_goodWs hlk) rfl rfl rfl (hts _ hlk.2.2.1) (hts _ hv.1) hlk.2.2.2 hR, hts _ hv.2.1, hts _ hv.2.2⟩ ⟨am_blind, hrecv, fun U hU hW => ⟨rfl, am_Pcall_pre C' S U hU hW⟩⟩ rfl (by rw [List.length_map]; exact hlen) S.2.2.2.1 rfl (lv_room (by rw [am_sum]; exact hsum)) hd hf
theorem am_PcallS (C : am_Cx M scr p s m args meth cd dC dI dA b A) {pc idx n : Nat} {As : List Value} {lv : List (Nat × Value)} {st : List Value} {h : am_H} {c sl : Nat} (hlk : am_lk M' n) (hv : am_LS (am_y M).cls idx M' ∨ ∃ host, am_LSN (am_y M).cls idx host M') (hd : decode (am_by M) pc = .ok (.invokestatic idx, 3)) (hlen : As.length = n) (hsum : (st.map fun v => v.category).sum ≤ 8) (hR : am_rm M' R' R) (hf : c + R'.cells ≤ R.cells ∧ sl + R'.slots ≤ R.slots) (hml : (lg_sl As).length ≤ am_ml M')
    (hM : AMet M' R' Q' As h)
    (kk : ∀ (r : Option Value) (h' : am_H), Q' r h' → am_Pt M p l e R s m args below meth cd dC dI dA b A ad0 n0 Z (pc + 3) lv (r.toList ++ st) h' (c + R'.cells) (sl + R'.slots)) : am_Pt M p l e R s m args below meth cd dC dI dA b A ad0 n0 Z pc lv (As.reverse ++ st) h c sl := by
  intro ad H locs ls S
  have C' := C
  obtain ⟨hx, hb, -, -, hmx, hown, -, hts, hX, hKK, hA, -⟩ := C
  have hst0 := S.2.1
  have hst : am_okl h.1 st := fun v hv => hst0 v (List.mem_append_right _ hv)
  have hav : am_okl h.1 As := fun v hv => hst0 v (List.mem_append_left _ (List.mem_reverse.mpr hv))
  have hmet := am_met hlk hM S.1.1 hav hml l dC dI dA b ad H.size
  have est : (As.reverse ++ st).map (am_v ad b) = (As.map (am_v ad b)).reverse ++ st.map (am_v ad b) := by
    rw [List.map_append, List.map_reverse]
  rw [est]
  refine am_back (Q' := Q') (mc := R'.cells) (ms := R'.slots) (a := (As.map (am_v ad b)).toArray) hA S hst ?_ kk
  rcases hv with hv | ⟨host, hv⟩
  · exact va_runS (As := As.map (am_v ad b)) (rest := st.map (am_v ad b)) ⟨hx, hb, hmx, hown, hts⟩ hmet ⟨callB_of n hts (am_goodWs hlk) rfl rfl rfl (hts _ hlk.2.2.1) (hts _ hv.1) hlk.2.2.2 hR, hts _ hv.2⟩ ⟨am_blind, fun U hU hW => ⟨rfl, am_Pcall_pre C' S U hU hW⟩⟩ rfl (by rw [List.length_map]; exact hlen) S.2.2.2.1 rfl (lv_room (by rw [am_sum]; exact hsum)) hd hf
  · exact va_runSN (As := As.map (am_v ad b)) (rest := st.map (am_v ad b)) ⟨hx, hb, hmx, hown, hts⟩ hmet ⟨va_cnB n hts (am_goodWs hlk) rfl rfl rfl (hX.1 _ hv.1) (hts _ hlk.2.2.1) hlk.2.2.2 hR, hts _ hv.2, trivial⟩ ⟨am_blind, fun U hU hW => ⟨rfl, am_Pcall_pre C' S U hU hW⟩⟩ rfl (by rw [List.length_map]; exact hlen) S.2.2.2.1 rfl (lv_room (by rw [am_sum]; exact hsum)) hd hf
theorem am_PcallI (C : am_Cx M scr p s m args meth cd dC dI dA b A) {pc idx n o : Nat} {As : List Value} {lv : List (Nat × Value)} {st : List Value} {h : am_H} {c sl : Nat} (hlk : am_lk M' n) (hv : am_LI (am_y M).cls idx M' ∨ ∃ host, am_LIN (am_y M).cls idx host M') (hd : decode (am_by M) pc = .ok (.invokespecial idx, 3)) (hlen : As.length = n) (hsum : (st.map fun v => v.category).sum ≤ 8) (hR : am_rm M' R' R) (hf : c + R'.cells ≤ R.cells ∧ sl + R'.slots ≤ R.slots) (hml : (lg_sl (.ref o :: As)).length ≤ am_ml M')
    (hM : AMet M' R' Q' (.ref o :: As) h)
    (kk : ∀ (r : Option Value) (h' : am_H), Q' r h' → am_Pt M p l e R s m args below meth cd dC dI dA b A ad0 n0 Z (pc + 3) lv (r.toList ++ st) h' (c + R'.cells) (sl + R'.slots)) : am_Pt M p l e R s m args below meth cd dC dI dA b A ad0 n0 Z pc lv (As.reverse ++ .ref o :: st) h c sl := by
  intro ad H locs ls S
  have C' := C
  obtain ⟨hx, hb, -, -, hmx, hown, -, hts, hX, hKK, hA, -⟩ := C
  have hst0 := S.2.1
  have ho : o < h.1 := hst0 (.ref o) (List.mem_append_right _ List.mem_cons_self)
  have hst : am_okl h.1 st := fun v hv => hst0 v (List.mem_append_right _ (List.mem_cons_of_mem _ hv))
  have hav : am_okl h.1 (.ref o :: As) := am_okl_cons ho (fun v hv => hst0 v (List.mem_append_left _ (List.mem_reverse.mpr hv)))
  have hmet := am_met hlk hM S.1.1 hav hml l dC dI dA b ad H.size
  have est : (As.reverse ++ .ref o :: st).map (am_v ad b) = (As.map (am_v ad b)).reverse ++ .ref (ad o) :: st.map (am_v ad b) := by
    rw [List.map_append, List.map_reverse]; rfl
  rw [est]
  refine am_back (Q' := Q') (mc := R'.cells) (ms := R'.slots) (a := (Value.ref (ad o) :: As.map (am_v ad b)).toArray) hA S hst ?_ kk
  rcases hv with hv | ⟨host, hv⟩
  · exact va_runI (As := As.map (am_v ad b)) (rest := st.map (am_v ad b)) (b := ad o) ⟨hx, hb, hmx, hown, hts⟩ hmet ⟨callB_of n hts (am_goodWs hlk) (by rw [am_ws, hv.2.2.2]) rfl rfl (hts _ hlk.2.2.1) (hts _ hv.1) hlk.2.2.2 hR, hv.2.2.1, hts _ hv.2.1⟩ ⟨am_blind, fun U hU hW => ⟨rfl, am_Pcall_pre C' S U hU hW⟩⟩ rfl (by rw [List.length_map]; exact hlen) S.2.2.2.1 rfl (lv_room (by rw [am_sum]; exact hsum)) hd hf
  · exact va_runIN (As := As.map (am_v ad b)) (rest := st.map (am_v ad b)) (b := ad o) ⟨hx, hb, hmx, hown, hts⟩ hmet ⟨va_cnB n hts (am_goodWs hlk) (by rw [am_ws, hv.2.2.2]) rfl rfl (hX.1 _ hv.1) (hts _ hlk.2.2.1) hlk.2.2.2 hR, hv.2.2.1, hts _ hv.2.1⟩ ⟨am_blind, fun U hU hW => ⟨rfl, am_Pcall_pre C' S U hU hW⟩⟩ rfl (by rw [List.length_map]; exact hlen) S.2.2.2.1 rfl (lv_room (by rw [am_sum]; exact hsum)) hd hf
end AMI
