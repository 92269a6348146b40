/-! ===== contracts of methods over the abstract heap; calls ===== -/
def am_Qc (Q : Option Value → am_H → Prop) (dC : Nat → ClassId) (dI : Nat → Nat → Nat) (dA : Nat → ClassId) (b : Nat) (A : Nat → Prop) (ad0 : Nat → Nat) (n0 : Nat) : Array Value → State → Outcome → State → Prop := fun _ s oc t =>
  (∃ (r : Option Value) (h' : am_H) (ad' : Nat → Nat), oc = .returned (r.map (am_v ad' b)) ∧ Q r h' ∧ am_wf h' ∧ am_okl h'.1 r.toList ∧ n0 ≤ h'.1 ∧ (∀ i, i < n0 → ad' i = ad0 i) ∧ va_P (dC, dI) vwCl (am_w dA ad' h') t.heap ∧ va_D A (am_w dA ad' h')) ∧ va_F A s t
/-- from this point on the method comes to an answer with Q, within its room -/
def AW (M : am_M) (R : Room) (Q : Option Value → am_H → Prop) (pc : Nat) (lv : List (Nat × Value)) (st : List Value) (h : am_H) (c sl : Nat) : Prop :=
  ∀ (l : Launch) (p : Program) (e : Env) (s : State) (m : MethodId) (args : Array Value) (below : List Frame) (meth : Method) (cd : Code) (dC : Nat → ClassId) (dI : Nat → Nat → Nat) (dA : Nat → ClassId) (b : Nat) (A : Nat → Prop) (ad0 : Nat → Nat) (n0 : Nat), am_Cx M none p s m args meth cd dC dI dA b A → am_Pt M p l e R s m args below meth cd dC dI dA b A ad0 n0 (MQ below (am_Qc Q dC dI dA b A ad0 n0) args s R.cells R.slots A) pc lv st h c sl
/-- a method's contract -/
def AMet (M : am_M) (R : Room) (Q : Option Value → am_H → Prop) (av : List Value) (h : am_H) : Prop := AW M R Q 0 (lv_args 0 av) [] h 0 0
/-- an answer -/
def am_rho (M : am_M) (R : Room) (Q : Option Value → am_H → Prop) (i : Instr) (st : List Value) (h : am_H) (c sl : Nat) : Prop := match i with
  | .ireturn => (match st with
    | [.int v] => (c ≤ R.cells ∧ sl ≤ R.slots) ∧ (am_rt M = some .int ∨ (am_rt M = some .boolean ∧ (v = 0 ∨ v = 1))) ∧ Q (some (.int v)) h
    | _ => False)
  | .lreturn => (match st with
    | [.long v] => (c ≤ R.cells ∧ sl ≤ R.slots) ∧ am_rt M = some .long ∧ Q (some (.long v)) h
    | _ => False)
  | .areturn => (match st with
    | [.ref v] => (c ≤ R.cells ∧ sl ≤ R.slots) ∧ (∃ ty, am_rt M = some ty ∧ am_kd ty = 3) ∧ Q (some (.ref v)) h
    | _ => False)
  | .return_ => (match st with
    | [] => (c ≤ R.cells ∧ sl ≤ R.slots) ∧ am_rt M = none ∧ Q none h
    | _ => False)
  | _ => False
section AMR
variable {M : am_M} {p : Program} {l : Launch} {e : Env} {R : Room} {s : State} {m : MethodId} {args : Array Value} {below : List Frame} {meth : Method} {cd : Code} {dC : Nat → ClassId} {dI : Nat → Nat → Nat} {dA : Nat → ClassId} {b : Nat} {A : Nat → Prop} {ad0 : Nat → Nat} {n0 : Nat} {Q : Option Value → am_H → Prop} {scr : Option (Nat × (Nat → Int32))}
theorem am_ret (C : am_Cx M scr p s m args meth cd dC dI dA b A) {pc : Nat} {i : Instr} {lv : List (Nat × Value)} {st : List Value} {h : am_H} {c sl : Nat} (hd : decode (am_by M) pc = .ok (i, 1)) (hr : am_rho M R Q i st h c sl) : am_Pt M p l e R s m args below meth cd dC dI dA b A ad0 n0 (MQ below (am_Qc Q dC dI dA b A ad0 n0) args s R.cells R.slots A) pc lv st h c sl := by
  intro ad H locs ls S
  obtain ⟨hx, hb, hrt, hlocks, -, -, -, -, -, -, -, -⟩ := C
  obtain ⟨⟨hw, hn, had, hP, hD, hSS⟩, hst, -, -⟩ := S
  have post : ∀ (r : Option Value), Q r h → am_okl h.1 r.toList → ∀ t : State, t.heap = H → am_Qc Q dC dI dA b A ad0 n0 args s (.returned (r.map (am_v ad b))) t := fun r hq hok t ht => ⟨⟨r, h, ad, rfl, hq, hw, hok, hn, had, by rw [ht]; exact hP, hD⟩, hSS.F ht⟩
  cases i with
  | ireturn =>
    match st, hst, hr with
    | [.int v], hst, ⟨⟨h1, h2⟩, hty, hq⟩ =>
      refine W.widen h1 h2 ?_
      rcases hty with hty | ⟨hty, hv⟩
      · exact W.iret hx hb (hrt.trans hty) (fun t ht _ => post (some (.int v)) hq hst t ht) hSS.2.2 hd hlocks
      · exact W.zret hx hb (hrt.trans hty) (by rcases hv with rfl | rfl <;> rfl) (fun t ht _ => post (some (.int v)) hq hst t ht) hSS.2.2 hd hlocks
  | lreturn =>
    match st, hst, hr with
    | [.long v], hst, ⟨⟨h1, h2⟩, hty, hq⟩ => exact W.widen h1 h2 (W.lret hx hb (hrt.trans hty) (fun t ht _ => post (some (.long v)) hq hst t ht) hSS.2.2 hd hlocks)
  | areturn =>
    match st, hst, hr with
    | [.ref v], hst, ⟨⟨h1, h2⟩, ⟨ty, hty, hk⟩, hq⟩ =>
      refine W.widen h1 h2 (W.aret (v := .ref (ad v)) hx hb (hrt.trans hty) ?_ (Or.inr ⟨_, rfl⟩) (fun t ht _ => post (some (.ref v)) hq hst t ht) hSS.2.2 hd hlocks)
      cases ty <;> simp [am_kd] at hk
      · exact Or.inl ⟨_, rfl⟩
      · exact Or.inr ⟨_, rfl⟩
  | return_ =>
    match st, hst, hr with
    | [], hst, ⟨⟨h1, h2⟩, hty, hq⟩ => exact W.widen h1 h2 (W.vret hx hb (hrt.trans hty) (fun t ht _ => post none hq (fun _ h => by cases h) t ht) hSS.2.2 hd hlocks)
  | _ => exact hr.elim
end AMR
/-- k instructions -/
def am_wp (M : am_M) (scr : Option (Nat × (Nat → Int32))) (κ : Nat → List (Nat × Value) → List Value → am_H → Nat → Nat → Prop) (ρ : Instr → List Value → am_H → Nat → Nat → Prop) : Nat → Nat → List (Nat × Value) → List Value → am_H → Nat → Nat → Prop
  | 0, pc, lv, st, h, c, sl => κ pc lv st h c sl
  | k + 1, pc, lv, st, h, c, sl => match am_cd M pc with
    | some (i, t) => am_ex M scr (am_wp M scr κ ρ k) ρ i t pc lv st h c sl
    | none => False
theorem am_wp_Pt {M : am_M} {p : Program} {l : Launch} {e : Env} {R : Room} {s : State} {m : MethodId} {args : Array Value} {below : List Frame} {meth : Method} {cd : Code} {dC : Nat → ClassId} {dI : Nat → Nat → Nat} {dA : Nat → ClassId} {b : Nat} {A : Nat → Prop} {ad0 : Nat → Nat} {n0 : Nat} {Z : State → Prop} {scr : Option (Nat × (Nat → Int32))}
    (hok : am_ok M) (C : am_Cx M scr p s m args meth cd dC dI dA b A) {κ : Nat → List (Nat × Value) → List Value → am_H → Nat → Nat → Prop} {ρ : Instr → List Value → am_H → Nat → Nat → Prop}
    (hρ : ∀ (pc : Nat) (i : Instr) (lv : List (Nat × Value)) (st : List Value) (h : am_H) (c sl : Nat), decode (am_by M) pc = .ok (i, 1) → ρ i st h c sl → am_Pt M p l e R s m args below meth cd dC dI dA b A ad0 n0 Z pc lv st h c sl)
    (hκ : ∀ (pc : Nat) (lv : List (Nat × Value)) (st : List Value) (h : am_H) (c sl : Nat), κ pc lv st h c sl → am_Pt M p l e R s m args below meth cd dC dI dA b A ad0 n0 Z pc lv st h c sl) :
    ∀ (k pc : Nat) (lv : List (Nat × Value)) (st : List Value) (h : am_H) (c sl : Nat), am_wp M scr κ ρ k pc lv st h c sl → am_Pt M p l e R s m args below meth cd dC dI dA b A ad0 n0 Z pc lv st h c sl := by
  intro k
  induction k with
  | zero => exact hκ
  | succ k ih =>
    intro pc lv st h c sl hw
    unfold am_wp at hw
    split at hw
    · rename_i i t hcd
      exact am_core hok C hcd (fun i lv st h c sl hd hr => hρ pc i lv st h c sl hd hr) ih hw
    · exact hw.elim
theorem AW_go {M : am_M} {R : Room} {Q : Option Value → am_H → Prop} (hok : am_ok M) (k : Nat) {pc : Nat} {lv : List (Nat × Value)} {st : List Value} {h : am_H} {c sl : Nat} (hw : am_wp M none (AW M R Q) (am_rho M R Q) k pc lv st h c sl) : AW M R Q pc lv st h c sl := by
  intro l p e s m args below meth cd dC dI dA b A ad0 n0 C
  exact am_wp_Pt hok C (fun pc i lv st h c sl hd hr => am_ret C hd hr) (fun pc lv st h c sl hk => hk l p e s m args below meth cd dC dI dA b A ad0 n0 C) k pc lv st h c sl hw
theorem AW_conseq {M : am_M} {R : Room} {Q Q' : Option Value → am_H → Prop} (hQ : ∀ r h, Q r h → Q' r h) {pc : Nat} {lv : List (Nat × Value)} {st : List Value} {h : am_H} {c sl : Nat} (hw : AW M R Q pc lv st h c sl) : AW M R Q' pc lv st h c sl := by
  intro l p e s m args below meth cd dC dI dA b A ad0 n0 C ad H locs ls S T hT X
  obtain ⟨t, a1, o, b1, b2, ⟨⟨r, h', ad', q1, q2, q3⟩, q4⟩, b4⟩ := hw l p e s m args below meth cd dC dI dA b A ad0 n0 C ad H locs ls S T hT X
  exact ⟨t, a1, o, b1, b2, ⟨⟨r, h', ad', q1, hQ r h' q2, q3⟩, q4⟩, b4⟩
/-! the machine's contract of a method out of the abstract one -/
theorem am_cl_args (ad : Nat → Nat) (b : Nat) : ∀ (av : List Value) (i : Nat), lv_args i (av.map (am_v ad b)) = am_cl ad b (lv_args i av)
  | [], _ => rfl
  | v :: vs, i => by
    show (i, am_v ad b v) :: lv_args (if (am_v ad b v).category = 2 then i + 2 else i + 1) (vs.map (am_v ad b)) = (i, am_v ad b v) :: am_cl ad b (lv_args (if v.category = 2 then i + 2 else i + 1) vs)
    rw [am_v_cat, am_cl_args ad b vs]
theorem am_args_snd : ∀ (av : List Value) (i : Nat), (lv_args i av).map Prod.snd = av
  | [], _ => rfl
  | v :: vs, i => by
    show v :: (lv_args _ vs).map Prod.snd = v :: vs
    rw [am_args_snd vs]
theorem am_sl_len (ad : Nat → Nat) (b : Nat) (av : List Value) : (lg_sl (av.map (am_v ad b))).length = (lg_sl av).length := by
  induction av with
  | nil => rfl
  | cons v vs ih =>
    simp only [lg_sl, List.map_cons, List.flatMap_cons, List.length_append, am_v_cat] at ih ⊢
    rw [ih]
    by_cases hc : v.category = 2 <;> simp [hc]
/-- what a caller must know of a method -/
def am_lk (M : am_M) (n : Nat) : Prop := plainName (am_y M).cls = true ∧ Cond.code (am_y M) (am_by M) (am_ml M) (am_rt M) ∈ am_Ts ∧ Cond.initialized (am_y M).cls ∈ am_Ts ∧ ((am_y M).cls ≠ "java/lang/invoke/MethodHandle" ∧ (am_y M).cls ≠ "java/lang/invoke/VarHandle" ∧ (parseMethodDescriptor (am_y M).desc).map (fun d => d.parameters.length) = some n)
def am_ws (M : am_M) : List Cond := Cond.code (am_y M) (am_by M) (am_ml M) (am_rt M) :: am_Ts
def am_Pre (dC : Nat → ClassId) (dI : Nat → Nat → Nat) (dA : Nat → ClassId) (ad : Nat → Nat) (h : am_H) (sz : Nat) (U : State) : Prop := U.heap.size = sz ∧ va_P (dC, dI) vwCl (am_w dA ad h) U.heap ∧ va_K (dC, dI) vwCl (am_tys dA) U ∧ va_D (fun _ => True) (am_w dA ad h) ∧ am_X U
theorem am_met {M : am_M} {R : Room} {Q : Option Value → am_H → Prop} {av : List Value} {h : am_H} {n : Nat} (hlk : am_lk M n) (hM : AMet M R Q av h) (hw : am_wf h) (hav : am_okl h.1 av) (hlen : (lg_sl av).length ≤ am_ml M) (l : Launch) (dC : Nat → ClassId) (dI : Nat → Nat → Nat) (dA : Nat → ClassId) (b : Nat) (ad : Nat → Nat) (sz : Nat) :
    Met l (am_y M) (am_ws M) R (va_Pc (av.map (am_v ad b)) (am_Pre dC dI dA ad h sz)) (am_Qc Q dC dI dA b (va_A (am_w dA ad h) sz) ad h.1) R.cells R.slots (va_A (am_w dA ad h) sz) := by
  refine Met.ofW (cc := am_by M) (maxL := am_ml M) (ret := am_rt M) hlk.1 rfl ?_
  intro p e s m args below meth c s₁ B hml hv
  obtain ⟨rfl, hsz, hP, hK, hD0, hX⟩ := hv
  subst hsz
  have hts0 := atoms_spec (ws := am_ws M) B.pre
  have hown : s.vm.findClass (am_y M).cls = some m.cls := findClass_of_methodNamed B.named
  have hin : meth.name = (am_y M).name := (name_of_methodNamed B.named B.method).1
  have hl := lv_entry (av.map (am_v ad b)) (n := am_ml M) (by rw [am_sl_len]; exact hlen)
  rw [lg_entry_eq]
  generalize (lg_sl (av.map (am_v ad b)) ++ List.replicate (am_ml M - (lg_sl (av.map (am_v ad b))).length) Slot.unset).toArray = ls at hl ⊢
  rw [am_cl_args] at hl
  exact hM l p e s m _ below meth c dC dI dA b (va_A (am_w dA ad h) s.heap.size) ad h.1 ⟨B.exec, B.bytes, B.returns, B.notSynchronized, hml, hown, hin, fun w hw => hts0 w (List.mem_cons_of_mem _ hw), hX, hK, fun q hq => Or.inr hq, fun _ _ hh => by cases hh⟩ ad s.heap [] ls
    ⟨⟨hw, Nat.le_refl _, fun _ _ => rfl, hP, hD0.self, va_S.rf⟩, am_okl_nil, by rw [am_args_snd]; exact hav, hl⟩
theorem am_blind {av : List Value} {dC : Nat → ClassId} {dI : Nat → Nat → Nat} {dA : Nat → ClassId} {ad : Nat → Nat} {h : am_H} {sz : Nat} : FrameBlind (va_Pc av (am_Pre dC dI dA ad h sz)) := by
  intro a U g mk q
  obtain ⟨q0, q1, q2, q3, q4, q5⟩ := q
  refine ⟨q0, q1, q2, va_K.moved (u := U) (U := U.calling g mk a) (Vm.Alike.refl U.vm) q3, q4, ?_, q5.2.1.moved (Vm.Alike.refl U.vm), q5.2.2.1.moved (Vm.Alike.refl U.vm), va_Nw.same rfl rfl q5.2.2.2⟩
  intro w hw
  have hq := q5.1 w hw
  unfold am_nest at hw
  simp only [List.mem_cons, List.not_mem_nil, or_false] at hw
  rcases hw with rfl | rfl | rfl | rfl | rfl | rfl | rfl | rfl | rfl <;> exact va_Nw.same rfl rfl hq
