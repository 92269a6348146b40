/-! ===== natives over rows of ints; the rules at the level of AW ===== -/
def am_cln : MethodName := ⟨"[I", "clone", "()Ljava/lang/Object;"⟩
theorem am_clw : Cond.sameMethod "[I" "java/lang/Object" "clone" "()Ljava/lang/Object;" ∈ am_Ts ∧ Cond.native ⟨"java/lang/Object", "clone", "()Ljava/lang/Object;"⟩ ∈ am_Ts ∧ Cond.instanceMethod ⟨"java/lang/Object", "clone", "()Ljava/lang/Object;"⟩ ∈ am_Ts ∧ Cond.selects "[I" am_cln ⟨"java/lang/Object", "clone", "()Ljava/lang/Object;"⟩ ∈ am_Ts := ⟨am_in (by decide +kernel) rfl, am_in (by decide +kernel) rfl, am_in (by decide +kernel) rfl, am_in (by decide +kernel) rfl⟩
theorem am_cpw : Cond.native arraycopyName ∈ am_Ts ∧ Cond.static arraycopyName ∈ am_Ts ∧ Cond.initialized "java/lang/System" ∈ am_Ts := ⟨am_in (by decide +kernel) rfl, am_in (by decide +kernel) rfl, am_in (by decide +kernel) rfl⟩
section AMN
variable {M : am_M} {p : Program} {l : Launch} {e : Env} {R : Room} {s : State} {m : MethodId} {args : Array Value} {below : List Frame} {meth : Method} {cd : Code} {dC : Nat → ClassId} {dI : Nat → Nat → Nat} {dA : Nat → ClassId} {b : Nat} {A : Nat → Prop} {ad0 : Nat → Nat} {n0 : Nat} {Z : State → Prop} {scr : Option (Nat × (Nat → Int32))}
theorem am_cI (hKK : va_K (dC, dI) vwCl (am_tys dA) s) : s.vm.findClass "[I" = some (dA 0) := (hKK.2 0 _ (am_tys_get dA (by decide))).2
theorem am_Pclone (C : am_Cx M scr p s m args meth cd dC dI dA b A) {pc idx o n : Nat} {lv : List (Nat × Value)} {st : List Value} {h : am_H} {c sl : Nat} (hlk : Cond.methodLink (am_y M).cls idx am_cln ∈ am_Ts) (hd : decode (am_by M) pc = .ok (.invokevirtual idx, 3)) (hK : am_K h o = .inr (0, n)) (hfr : 1 ≤ R.frames) (hlo : (st.map fun v => v.category).sum + 14 ≤ R.locals) (hcells : c + 1 ≤ R.cells) (hslots : sl + n ≤ R.slots)
    (k : am_Pt M p l e R s m args below meth cd dC dI dA b A ad0 n0 Z (pc + 3) lv (.ref h.1 :: st) (am_new h (.inr (0, n)) (am_I h o)) (c + 1) (sl + n)) : am_Pt M p l e R s m args below meth cd dC dI dA b A ad0 n0 Z pc lv (.ref o :: st) h c sl := by
  intro ad H locs ls S
  obtain ⟨hx, hb, -, -, hml, hown, -, hts, hX, hKK, hA, -⟩ := C
  have hst := am_okl_t S.2.1
  have ho : o < h.1 := am_okl_h S.2.1
  have hg := am_w_get dA ad h ho
  rw [am_e_arr hK] at hg
  have hg : (am_w dA ad h)[o]? = some (ad o, .inl (dA 0, n, .inl (am_I h o))) := hg
  have hsum : ((st.map (am_v ad b)).map fun v => v.category).sum = (st.map fun v => v.category).sum := by
    rw [List.map_map]
    congr 1
    exact List.map_congr_left (fun v _ => am_v_cat ad b v)
  refine va_clone hx hb (hml.trans S.2.2.2.1.symm) (ad := "[I") hown (hts _ hlk) (hts _ am_clw.1) (hts _ am_clw.2.1) (hts _ am_clw.2.2.1) (hts _ am_clw.2.2.2) hX.2.2.2 hKK S.1.2.2.2.1 S.1.2.2.2.2.1 S.1.2.2.2.2.2 hA o 0 hg (am_tys_get dA (by decide)) (am_cI hKK) ?_ hfr (by rw [hsum]; exact hlo) hcells hslots hd (fun q H1 hK1 hP1 hD1 hS1 => ?_)
  · intro i v hv
    have hv : (arrV (dA 0) n (fun j => Value.int (am_I h o j))).slots[i]? = some v := hv
    have hlt : i < n := by
      have := (Array.getElem?_eq_some_iff.mp hv).1
      rwa [arrV_size] at this
    rw [arrV_read _ _ hlt] at hv
    cases hv
    rfl
  · have e1 := am_w_push (dA := dA) (ad := ad) (q := q) (kd := .inr (0, n)) (f := am_I h o) S.1.1
    have e0 : am_row (va_up ad h.1 q) (am_new h (.inr (0, n)) (am_I h o)) h.1 0 = .inl (am_I h o) := by
      unfold am_row
      simp [am_new, am_I, va_up]
    rw [am_e_arr (t := 0) (n := n) (by simp [am_new, am_K, va_up]), e0] at e1
    have g := k (va_up ad h.1 q) H1 locs ls (S.push hst (by rw [e1]; exact hP1) (by rw [e1]; exact hD1) hS1)
    have e3 : (Value.ref h.1 :: st).map (am_v (va_up ad h.1 q) b) = .ref q :: st.map (am_v ad b) := by
      rw [List.map_cons, am_map_up hst]
      congr 1
      simp [am_v, va_up]
    rw [e3] at g
    exact g
theorem am_Pcast (C : am_Cx M scr p s m args meth cd dC dI dA b A) {pc idx o n : Nat} {lv : List (Nat × Value)} {st : List Value} {h : am_H} {c sl : Nat} (hlk : Cond.classLink (am_y M).cls idx "[I" ∈ am_Ts) (hd : decode (am_by M) pc = .ok (.checkcast idx, 3)) (hK : am_K h o = .inr (0, n))
    (k : am_Pt M p l e R s m args below meth cd dC dI dA b A ad0 n0 Z (pc + 3) lv (.ref o :: st) h c sl) : am_Pt M p l e R s m args below meth cd dC dI dA b A ad0 n0 Z pc lv (.ref o :: st) h c sl := by
  intro ad H locs ls S
  obtain ⟨hx, hb, -, -, hml, hown, -, hts, hX, hKK, hA, -⟩ := C
  have ho : o < h.1 := am_okl_h S.2.1
  have hg := am_w_get dA ad h ho
  rw [am_e_arr hK] at hg
  exact va_castA hx hb hown (hts _ hlk) S.1.2.2.2.1 o hg (am_cI hKK) hd (k ad H locs ls S)
theorem am_Pcopy (C : am_Cx M scr p s m args meth cd dC dI dA b A) {pc idx o q no nq : Nat} {sp dp n : Int32} {lv : List (Nat × Value)} {st : List Value} {h : am_H} {c sl : Nat} (hlk : Cond.methodLink (am_y M).cls idx arraycopyName ∈ am_Ts) (hd : decode (am_by M) pc = .ok (.invokestatic idx, 3)) (hK : am_K h o = .inr (0, no)) (hK2 : am_K h q = .inr (0, nq)) (h1 : ¬ sp < 0) (h2 : ¬ dp < 0) (h3 : ¬ n < 0) (h4 : sp.toNatClampNeg + n.toNatClampNeg ≤ no) (h5 : dp.toNatClampNeg + n.toNatClampNeg ≤ nq) (hfr : 1 ≤ R.frames) (hlo : (st.map fun v => v.category).sum + 18 ≤ R.locals)
    (k : am_Pt M p l e R s m args below meth cd dC dI dA b A ad0 n0 Z (pc + 3) lv st (am_sR h q (va_cpy (am_I h o) (am_I h q) sp.toNatClampNeg dp.toNatClampNeg n.toNatClampNeg)) c sl) : am_Pt M p l e R s m args below meth cd dC dI dA b A ad0 n0 Z pc lv (.int n :: .int dp :: .ref q :: .int sp :: .ref o :: st) h c sl := by
  intro ad H locs ls S
  obtain ⟨hx, hb, -, -, hml, hown, -, hts, hX, hKK, hA, -⟩ := C
  have hst0 := S.2.1
  have hst := am_okl_t (am_okl_t (am_okl_t (am_okl_t (am_okl_t hst0))))
  have ho : o < h.1 := am_okl_h (am_okl_t (am_okl_t (am_okl_t (am_okl_t hst0))))
  have hq : q < h.1 := am_okl_h (am_okl_t (am_okl_t hst0))
  have hg := am_w_get dA ad h ho
  rw [am_e_arr hK] at hg
  have hg : (am_w dA ad h)[o]? = some (ad o, .inl (dA 0, no, .inl (am_I h o))) := hg
  have hg2 := am_w_get dA ad h hq
  rw [am_e_arr hK2] at hg2
  have hg2 : (am_w dA ad h)[q]? = some (ad q, .inl (dA 0, nq, .inl (am_I h q))) := hg2
  have hsum : ((st.map (am_v ad b)).map fun v => v.category).sum = (st.map fun v => v.category).sum := by
    rw [List.map_map]
    congr 1
    exact List.map_congr_left (fun v _ => am_v_cat ad b v)
  refine va_copyi hx hb (hml.trans S.2.2.2.1.symm) hown (hts _ hlk) (hts _ am_cpw.1) (hts _ am_cpw.2.1) (hts _ am_cpw.2.2) hKK S.1.2.2.2.1 S.1.2.2.2.2.1 S.1.2.2.2.2.2 o q 0 0 hg hg2 (am_tys_get dA (by decide)) (am_tys_get dA (by decide)) rfl h1 h2 h3 h4 h5 (fun _ _ => rfl) hfr (by rw [hsum]; exact hlo) hd (fun H' locs' hP' hD' hS' => ?_)
  have e1 := am_w_arr (dA := dA) (ad := ad) (h' := am_sR h q (va_cpy (am_I h o) (am_I h q) sp.toNatClampNeg dp.toNatClampNeg n.toNatClampNeg)) hK2 rfl rfl (fun j hj => ⟨by simp [am_sR, am_I, va_up, hj], rfl, rfl⟩)
  have e2 : am_row ad (am_sR h q (va_cpy (am_I h o) (am_I h q) sp.toNatClampNeg dp.toNatClampNeg n.toNatClampNeg)) q 0 = .inl (va_cpy (am_I h o) (am_I h q) sp.toNatClampNeg dp.toNatClampNeg n.toNatClampNeg) := by
    unfold am_row; simp [am_sR, am_I, va_up]
  rw [e2] at e1
  exact k ad H' locs' ls (S.hp rfl (am_wf_sR S.1.1) hst (by rw [e1]; exact hP') (by rw [e1]; exact hD') hS')
end AMN
section AWR
variable {M : am_M} {R : Room} {Q : Option Value → am_H → Prop} {lv : List (Nat × Value)} {st : List Value} {h : am_H} {c sl pc : Nat}
variable {M' : am_M} {R' : Room} {Q' : Option Value → am_H → Prop}
theorem AW_new {idx ci N : Nat} {Cn : String} {T : u_T} (hd : decode (am_by M) pc = .ok (.new idx, 3)) (hc : vwCl[ci]? = some (Cn, T, N)) (hlk : Cond.classLink (am_y M).cls idx Cn ∈ am_Ts) (hcells : c + 1 ≤ R.cells) (hslots : sl + N ≤ R.slots)
    (k : AW M R Q (pc + 3) lv (.ref h.1 :: st) (am_new h (.inl ci) (fun _ => 0)) (c + 1) (sl + N)) : AW M R Q pc lv st h c sl :=
  fun l p e s m args below meth cd dC dI dA b A ad0 n0 C => am_Pnew C hc hlk hd hcells hslots (k l p e s m args below meth cd dC dI dA b A ad0 n0 C)
theorem AW_newa {at' : ArrayType} {t : Nat} {n : Int32} (hd : decode (am_by M) pc = .ok (.newarray at', 2)) (hat : am_nt at' = t) (ht : t < 4) (hn : ¬ n < 0) (hbig : n.toNatClampNeg ≤ 1000000) (hcells : c + 1 ≤ R.cells) (hslots : sl + n.toNatClampNeg ≤ R.slots)
    (k : AW M R Q (pc + 2) lv (.ref h.1 :: st) (am_new h (.inr (t, n.toNatClampNeg)) (fun _ => 0)) (c + 1) (sl + n.toNatClampNeg)) : AW M R Q pc lv (.int n :: st) h c sl :=
  fun l p e s m args below meth cd dC dI dA b A ad0 n0 C => am_Pnewa C hat ht hd hn hbig hcells hslots (k l p e s m args below meth cd dC dI dA b A ad0 n0 C)
theorem AW_newq {idx t : Nat} {n : Int32} (hd : decode (am_by M) pc = .ok (.anewarray idx, 3)) (ht : t = 4 ∨ t = 5) (hlk : Cond.classLink (am_y M).cls idx (if t = 4 then RX0 else RX4) ∈ am_Ts) (hn : ¬ n < 0) (hbig : n.toNatClampNeg ≤ 1000000) (hcells : c + 1 ≤ R.cells) (hslots : sl + n.toNatClampNeg ≤ R.slots)
    (k : AW M R Q (pc + 3) lv (.ref h.1 :: st) (am_new h (.inr (t, n.toNatClampNeg)) (fun _ => 0)) (c + 1) (sl + n.toNatClampNeg)) : AW M R Q pc lv (.int n :: st) h c sl :=
  fun l p e s m args below meth cd dC dI dA b A ad0 n0 C => am_Pnewq C ht hlk hd hn hbig hcells hslots (k l p e s m args below meth cd dC dI dA b A ad0 n0 C)
theorem AW_obj {idx o : Nat} (hd : decode (am_by M) pc = .ok (.invokespecial idx, 3)) (hlk : Cond.methodLink (am_y M).cls idx objectInit ∈ am_Ts) (hfr : 1 ≤ R.frames) (hlo : (st.map fun v => v.category).sum + 12 ≤ R.locals)
    (k : AW M R Q (pc + 3) lv st h c sl) : AW M R Q pc lv (.ref o :: st) h c sl :=
  fun l p e s m args below meth cd dC dI dA b A ad0 n0 C => am_Pobj C hlk hd hfr hlo (k l p e s m args below meth cd dC dI dA b A ad0 n0 C)
theorem AW_clone {idx o n : Nat} (hd : decode (am_by M) pc = .ok (.invokevirtual idx, 3)) (hlk : Cond.methodLink (am_y M).cls idx am_cln ∈ am_Ts) (hK : am_K h o = .inr (0, n)) (hfr : 1 ≤ R.frames) (hlo : (st.map fun v => v.category).sum + 14 ≤ R.locals) (hcells : c + 1 ≤ R.cells) (hslots : sl + n ≤ R.slots)
    (k : AW M R Q (pc + 3) lv (.ref h.1 :: st) (am_new h (.inr (0, n)) (am_I h o)) (c + 1) (sl + n)) : AW M R Q pc lv (.ref o :: st) h c sl :=
  fun l p e s m args below meth cd dC dI dA b A ad0 n0 C => am_Pclone C hlk hd hK hfr hlo hcells hslots (k l p e s m args below meth cd dC dI dA b A ad0 n0 C)
theorem AW_cast {idx o n : Nat} (hd : decode (am_by M) pc = .ok (.checkcast idx, 3)) (hlk : Cond.classLink (am_y M).cls idx "[I" ∈ am_Ts) (hK : am_K h o = .inr (0, n))
    (k : AW M R Q (pc + 3) lv (.ref o :: st) h c sl) : AW M R Q pc lv (.ref o :: st) h c sl :=
  fun l p e s m args below meth cd dC dI dA b A ad0 n0 C => am_Pcast C hlk hd hK (k l p e s m args below meth cd dC dI dA b A ad0 n0 C)
theorem AW_copy {idx o q no nq : Nat} {sp dp n : Int32} (hd : decode (am_by M) pc = .ok (.invokestatic idx, 3)) (hlk : Cond.methodLink (am_y M).cls idx arraycopyName ∈ am_Ts) (hK : am_K h o = .inr (0, no)) (hK2 : am_K h q = .inr (0, nq)) (h1 : ¬ sp < 0) (h2 : ¬ dp < 0) (h3 : ¬ n < 0) (h4 : sp.toNatClampNeg + n.toNatClampNeg ≤ no) (h5 : dp.toNatClampNeg + n.toNatClampNeg ≤ nq) (hfr : 1 ≤ R.frames) (hlo : (st.map fun v => v.category).sum + 18 ≤ R.locals)
    (k : AW M R Q (pc + 3) lv st (am_sR h q (va_cpy (am_I h o) (am_I h q) sp.toNatClampNeg dp.toNatClampNeg n.toNatClampNeg)) c sl) : AW M R Q pc lv (.int n :: .int dp :: .ref q :: .int sp :: .ref o :: st) h c sl :=
  fun l p e s m args below meth cd dC dI dA b A ad0 n0 C => am_Pcopy C hlk hd hK hK2 h1 h2 h3 h4 h5 hfr hlo (k l p e s m args below meth cd dC dI dA b A ad0 n0 C)
theorem AW_callV {idx n o ci N : Nat} {T : u_T} {As : List Value} (hd : decode (am_by M) pc = .ok (.invokevirtual idx, 3)) (hlk : am_lk M' n) (hv : am_LV (am_y M).cls idx M') (hc : vwCl[ci]? = some ((am_y M').cls, T, N)) (hK : am_K h o = .inl ci) (hlen : As.length = n) (hsum : (st.map fun v => v.category).sum ≤ 8) (hR : am_rm M' R' R) (hf : c + R'.cells ≤ R.cells ∧ sl + R'.slots ≤ R.slots) (hml : (lg_sl (.ref o :: As)).length ≤ am_ml M')
    (hM : AMet M' R' Q' (.ref o :: As) h) (kk : ∀ (r : Option Value) (h' : am_H), Q' r h' → AW M R Q (pc + 3) lv (r.toList ++ st) h' (c + R'.cells) (sl + R'.slots)) : AW M R Q pc lv (As.reverse ++ .ref o :: st) h c sl :=
  fun l p e s m args below meth cd dC dI dA b A ad0 n0 C => am_PcallV C hlk hv hd hc hK hlen hsum hR hf hml hM (fun r h' hq => kk r h' hq l p e s m args below meth cd dC dI dA b A ad0 n0 C)
theorem AW_callS {idx n : Nat} {As : List Value} (hd : decode (am_by M) pc = .ok (.invokestatic idx, 3)) (hlk : am_lk M' n) (hv : am_LS (am_y M).cls idx M' ∨ ∃ host, am_LSN (am_y M).cls idx host M') (hlen : As.length = n) (hsum : (st.map fun v => v.category).sum ≤ 8) (hR : am_rm M' R' R) (hf : c + R'.cells ≤ R.cells ∧ sl + R'.slots ≤ R.slots) (hml : (lg_sl As).length ≤ am_ml M')
    (hM : AMet M' R' Q' As h) (kk : ∀ (r : Option Value) (h' : am_H), Q' r h' → AW M R Q (pc + 3) lv (r.toList ++ st) h' (c + R'.cells) (sl + R'.slots)) : AW M R Q pc lv (As.reverse ++ st) h c sl :=
  fun l p e s m args below meth cd dC dI dA b A ad0 n0 C => am_PcallS C hlk hv hd hlen hsum hR hf hml hM (fun r h' hq => kk r h' hq l p e s m args below meth cd dC dI dA b A ad0 n0 C)
theorem AW_callI {idx n o : Nat} {As : List Value} (hd : decode (am_by M) pc = .ok (.invokespecial idx, 3)) (hlk : am_lk M' n) (hv : am_LI (am_y M).cls idx M' ∨ ∃ host, am_LIN (am_y M).cls idx host M') (hlen : As.length = n) (hsum : (st.map fun v => v.category).sum ≤ 8) (hR : am_rm M' R' R) (hf : c + R'.cells ≤ R.cells ∧ sl + R'.slots ≤ R.slots) (hml : (lg_sl (.ref o :: As)).length ≤ am_ml M')
    (hM : AMet M' R' Q' (.ref o :: As) h) (kk : ∀ (r : Option Value) (h' : am_H), Q' r h' → AW M R Q (pc + 3) lv (r.toList ++ st) h' (c + R'.cells) (sl + R'.slots)) : AW M R Q pc lv (As.reverse ++ .ref o :: st) h c sl :=
  fun l p e s m args below meth cd dC dI dA b A ad0 n0 C => am_PcallI C hlk hv hd hlen hsum hR hf hml hM (fun r h' hq => kk r h' hq l p e s m args below meth cd dC dI dA b A ad0 n0 C)
end AWR
