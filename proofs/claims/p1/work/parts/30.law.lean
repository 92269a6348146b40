/-! THE CLAIM OUT OF ONE WALK OF THE LAW'S BODY. Your part is whole_start (and what it stands on); all else here is the same for every law, but numbers. -/
def R_law : String := "LetterTurnsLaw"
def lw_P (b : Addr) (xs : List Int32) (args : Array Value) (s : State) : Prop := args = #[.ref b] ∧ s.IntsAt b xs ∧ xs.length ≤ 4 ∧ (Jvm.Cond.and given_1 narrow_1).before args s = true
def lw_Q (_ : Array Value) (s : State) (o : Outcome) (t : State) : Prop := o = .returned (some (.int 1)) ∧ Framed s o t [] 600000 7302250
def lw_Z (below : List Frame) (a : Array Value) (s : State) : State → Prop := fun t => ∃ o, t.status = .running ∧ Ended t below o ∧ lw_Q a s o t
/-- the law's own end, with 1 on the stack, nothing written that was there before, its room as the claim has it -/
theorem lw_ret {p : Program} {l : Launch} {e : Env} {s : State} {m : MethodId} {below : List Frame} {meth : Method} {c : Code} {b : Nat} (hx : p.tables.exec = Jvm.exec) (hb : c.code = code) (hr : meth.sig.returnType = ret) (hlocks : meth.locks = false) {pc : Nat} {H : Heap} {ls : Array Slot} (hdg : decode code pc = .ok (.ireturn, 1)) : W p l e room_1 s m #[Value.ref b] below meth c H [] 600000 7302250 (lw_Z below #[Value.ref b] s) (F0 m pc ls [.int 1]) := by
  intro T hT X
  obtain ⟨fs, hret, hrun, hended, hW, hframe⟩ := X.leave (v := some (.int 1)) (hlocks := hlocks) (fun h => by rw [hr] at h; cases h)
  have hmeth' : T.vm.method? m = some meth := X.method'
  refine ⟨T.setFrames fs, ?_, .returned (some (.int 1)), hrun, hended, rfl, ⟨_, rfl⟩, hW, hframe⟩
  jvm_step X.here [X.here.top, hx, hb, hdg, hmeth', hr, ret, narrow_b1]
  (try refine ⟨rfl, ?_⟩); (try refine ⟨rfl, ?_⟩)
  first | (intro acts; rw [hret _ acts rfl rfl rfl]) | rw [hret _ _ rfl rfl rfl]
  exact Steps.refl _
/-- what holds at the law's entry: the machine, the code, the tables' words (any of lw_tbl by 'hts w (by decide +kernel)'), the script of L ints xs at the cell b, what the Statement gives of the start (any of its parts by flat_of_before) -/
def lw_At (p : Program) (s : State) (m : MethodId) (meth : Method) (c : Code) (b L : Nat) (xs : Nat → Int32) : Prop :=
  p.tables.exec = Jvm.exec ∧ c.code = code ∧ meth.sig.returnType = ret ∧ c.maxLocals = 4 ∧ s.vm.findClass R_law = some m.cls ∧ (∀ w ∈ lw_tbl, w.before #[Value.ref b] s = true) ∧ va_X b L xs s s.heap ∧ b < s.heap.size ∧ meth.locks = false ∧ (Jvm.Cond.and given_1 narrow_1).before #[Value.ref b] s = true ∧ meth.name = "law"
/-! ===== the law over the abstract heap: LW L xs: from this point on it comes to its end with true, within its room ===== -/
def LW (L : Nat) (xs : Nat → Int32) (pc : Nat) (lv : List (Nat × Value)) (st : List Value) (h : am_H) (c sl : Nat) : Prop :=
  ∀ (l : Launch) (p : Program) (e : Env) (s : State) (m : MethodId) (below : List Frame) (meth : Method) (cd : Code) (dC : Nat → ClassId) (dI : Nat → Nat → Nat) (dA : Nat → ClassId) (b : Nat) (ad0 : Nat → Nat) (n0 : Nat), am_Cx mL_law (some (L, xs)) p s m #[Value.ref b] meth cd dC dI dA b (fun q => s.heap.size ≤ q) → am_Pt mL_law p l e room_1 s m #[Value.ref b] below meth cd dC dI dA b (fun q => s.heap.size ≤ q) ad0 n0 (lw_Z below #[Value.ref b] s) pc lv st h c sl
def lw_rho (i : Instr) (st : List Value) (_ : am_H) (c sl : Nat) : Prop := match i with
  | .ireturn => (match st with
    | [.int v] => v = 1 ∧ c ≤ 600000 ∧ sl ≤ 7302250
    | _ => False)
  | _ => False
theorem LW_go {L : Nat} {xs : Nat → Int32} (k : Nat) {pc : Nat} {lv : List (Nat × Value)} {st : List Value} {h : am_H} {c sl : Nat} (hw : am_wp mL_law (some (L, xs)) (LW L xs) lw_rho k pc lv st h c sl) : LW L xs pc lv st h c sl := by
  intro l p e s m below meth cd dC dI dA b ad0 n0 C
  refine am_wp_Pt okL_law C (fun pc i lv st h c sl hd hr => ?_) (fun pc lv st h c sl hk => hk l p e s m below meth cd dC dI dA b ad0 n0 C) k pc lv st h c sl hw
  intro ad H locs ls S
  obtain ⟨hx, hb, hrt, hlocks, -, -, -, -, -, -, -, -⟩ := C
  obtain ⟨⟨-, -, -, -, -, hSS⟩, -, -, -⟩ := S
  cases i with
  | ireturn =>
    match st, hr with
    | [.int v], ⟨hv, h1, h2⟩ =>
      subst hv
      exact va_forget (fun q hq => hSS.2.2 q hq) (W.widen h1 h2 (lw_ret hx hb hrt hlocks hd))
  | _ => exact hr.elim
section LWR
variable {L : Nat} {xs : Nat → Int32} {lv : List (Nat × Value)} {st : List Value} {h : am_H} {c sl pc n : Nat} {M' : am_M} {R' : Room} {Q' : Option Value → am_H → Prop}
theorem LW_newN {idx ci N : Nat} {Cn : String} {T : u_T} (hd : decode (am_by mL_law) pc = .ok (.new idx, 3)) (hc : vwCl[ci]? = some (Cn, T, N)) (hlk : Cond.classLink (am_y mL_law).cls idx Cn ∈ am_Ts) (hcells : c + 1 ≤ room_1.cells) (hslots : sl + N ≤ room_1.slots) (hn : h.1 = n)
    (k : ∀ h', am_nw h n (.inl ci) h' → LW L xs (pc + 3) lv (.ref n :: st) h' (c + 1) (sl + N)) : LW L xs pc lv st h c sl := by
  intro l p e s m below meth cd dC dI dA b ad0 n0 C
  refine am_Pnew C hc hlk hd hcells hslots ?_
  have g := k _ (am_nw_mk hn (.inl ci))
  rw [← hn] at g
  exact g l p e s m below meth cd dC dI dA b ad0 n0 C
theorem LW_callI {idx n o : Nat} {As : List Value} (hd : decode (am_by mL_law) pc = .ok (.invokespecial idx, 3)) (hlk : am_lk M' n) (hv : am_LI (am_y mL_law).cls idx M' ∨ ∃ host, am_LIN (am_y mL_law).cls idx host M') (hlen : As.length = n) (hsum : (st.map fun v => v.category).sum ≤ 8) (hR : am_rm M' R' room_1) (hf : c + R'.cells ≤ room_1.cells ∧ sl + R'.slots ≤ room_1.slots) (hml : (lg_sl (.ref o :: As)).length ≤ am_ml M')
    (hM : AMet M' R' Q' (.ref o :: As) h) (kk : ∀ (r : Option Value) (h' : am_H), Q' r h' → LW L xs (pc + 3) lv (r.toList ++ st) h' (c + R'.cells) (sl + R'.slots)) : LW L xs pc lv (As.reverse ++ .ref o :: st) h c sl :=
  fun l p e s m below meth cd dC dI dA b ad0 n0 C => am_PcallI C hlk hv hd hlen hsum hR hf hml hM (fun r h' hq => kk r h' hq l p e s m below meth cd dC dI dA b ad0 n0 C)
theorem LW_callV {idx n o ci N : Nat} {T : u_T} {As : List Value} (hd : decode (am_by mL_law) pc = .ok (.invokevirtual idx, 3)) (hlk : am_lk M' n) (hv : am_LV (am_y mL_law).cls idx M') (hc : vwCl[ci]? = some ((am_y M').cls, T, N)) (hK : am_K h o = .inl ci) (hlen : As.length = n) (hsum : (st.map fun v => v.category).sum ≤ 8) (hR : am_rm M' R' room_1) (hf : c + R'.cells ≤ room_1.cells ∧ sl + R'.slots ≤ room_1.slots) (hml : (lg_sl (.ref o :: As)).length ≤ am_ml M')
    (hM : AMet M' R' Q' (.ref o :: As) h) (kk : ∀ (r : Option Value) (h' : am_H), Q' r h' → LW L xs (pc + 3) lv (r.toList ++ st) h' (c + R'.cells) (sl + R'.slots)) : LW L xs pc lv (As.reverse ++ .ref o :: st) h c sl :=
  fun l p e s m below meth cd dC dI dA b ad0 n0 C => am_PcallV C hlk hv hd hc hK hlen hsum hR hf hml hM (fun r h' hq => kk r h' hq l p e s m below meth cd dC dI dA b ad0 n0 C)
end LWR
theorem lw_nest : ∀ w ∈ am_nest, w ∈ lw_tbl ∧ w.onTables = true := by decide +kernel
theorem lw_ov : Cond.arrayOver (.object RX0) ∈ lw_tbl ∧ Cond.arrayOver (.object RX4) ∈ lw_tbl ∧ Cond.castable "[I" "java/lang/Cloneable" ∈ lw_tbl := ⟨by decide +kernel, by decide +kernel, by decide +kernel⟩
theorem lw_X {args : Array Value} {s : State} (hts : ∀ w ∈ lw_tbl, w.before args s = true) : am_X s :=
  ⟨fun w hw => va_Nw.of (lw_nest w hw).2 (hts w (lw_nest w hw).1), va_AO.of (hts _ lw_ov.1), va_AO.of (hts _ lw_ov.2.1), va_Nw.of rfl (hts _ lw_ov.2.2)⟩
theorem lw_arr {args : Array Value} {s : State} {ty : FieldType} (hne : ∀ C, ty ≠ .object C) (h : (Cond.arrayClass ty).before args s = true) : ∃ cA, ArrOfT s cA ty ∧ va_RA s cA ty := by
  obtain ⟨cA, kA, comp, h1, h2, h3⟩ := Cond.arrayClass_spec h
  refine ⟨cA, fun n z => ⟨fun k h => (by cases h), kA, h2, comp, h3⟩, ?_⟩
  cases ty with
  | object C => exact absurd rfl (hne C)
  | _ => exact h1
theorem lw_arrO {args : Array Value} {s : State} {C : String} (h : (Cond.arrayOver (.object C)).before args s = true) : ∃ cA, ArrOfT s cA (.object C) ∧ va_RA s cA (.object C) := by
  obtain ⟨comp, c, k, h1, h2, h3, h4, h5⟩ := Cond.arrayOver_spec h
  exact ⟨c, fun n z => ⟨fun k h => (by cases h), k, h3, comp, h4⟩, k, comp, h3, h4, h1, h5⟩
theorem lw_K {args : Array Value} {s : State} (hts : ∀ w ∈ lw_tbl, w.before args s = true) : ∃ (dC : Nat → ClassId) (dI : Nat → Nat → Nat) (dA : Nat → ClassId), va_K (dC, dI) vwCl (am_tys dA) s := by
  have hin : ∀ w ∈ am_Ts, w.before args s = true := fun w hw => hts w (List.mem_filter.mp hw).1
  have hk : ∀ ci : Nat, ∃ (cC : ClassId) (iS : Nat → Nat), ∀ q : vw_C, vwCl[ci]? = some q → u_Kn s q.1 q.2.1 q.2.2 cC iS := by
    intro ci
    cases hc : vwCl[ci]? with
    | none => exact ⟨0, fun _ => 0, fun q h => by cases h⟩
    | some q =>
      obtain ⟨C, T, N⟩ := q
      obtain ⟨⟨h1, h2, -⟩, -, -, -⟩ := am_cls hc
      obtain ⟨cC, iS, hK⟩ := u_known (C := C) (T := T) (N := N) (n := N) hin h1 (hin _ h2)
      exact ⟨cC, iS, fun q h => by cases h; exact hK⟩
  obtain ⟨a0, p0⟩ := lw_arr (ty := .int) (fun C h => by cases h) (hin _ am_ac.1)
  obtain ⟨a1, p1⟩ := lw_arr (ty := .byte) (fun C h => by cases h) (hin _ am_ac.2.1)
  obtain ⟨a2, p2⟩ := lw_arr (ty := .boolean) (fun C h => by cases h) (hin _ am_ac.2.2.1)
  obtain ⟨a3, p3⟩ := lw_arr (ty := .long) (fun C h => by cases h) (hin _ am_ac.2.2.2)
  obtain ⟨a4, p4⟩ := lw_arrO (hts _ lw_ov.1)
  obtain ⟨a5, p5⟩ := lw_arrO (hts _ lw_ov.2.1)
  refine ⟨fun ci => (hk ci).choose, fun ci => (hk ci).choose_spec.choose, fun t => if t = 0 then a0 else if t = 1 then a1 else if t = 2 then a2 else if t = 3 then a3 else if t = 4 then a4 else a5, fun c q hq => (hk c).choose_spec.choose_spec q hq, ?_⟩
  intro k q hq
  match k, hq with
  | 0, hq => cases hq; exact p0
  | 1, hq => cases hq; exact p1
  | 2, hq => cases hq; exact p2
  | 3, hq => cases hq; exact p3
  | 4, hq => cases hq; exact p4
  | 5, hq => cases hq; exact p5
  | k + 6, hq => simp [am_tys] at hq
/-- the law's start over the machine, out of its start over the abstract heap -/
theorem lw_begin (HL : ∀ (L : Nat) (xs : Nat → Int32), L ≤ 4 → LW L xs 0 [(0, .retAddr 0)] [] am_h0 0 0) {p : Program} {e : Env} {s : State} {m : MethodId} {below : List Frame} {meth : Method} {c : Code} (l : Launch) {b L : Nat} {xs : Nat → Int32} (hL : L ≤ 4) (C0 : lw_At p s m meth c b L xs) : W p l e room_1 s m #[Value.ref b] below meth c s.heap [] 0 0 (lw_Z below #[Value.ref b] s) (entryFrame m ([Value.ref b] : List Value).toArray 4) := by
  obtain ⟨hx, hb, hr, hml, hown, hts, hX, hbl, hlocks, hgv, hnm⟩ := C0
  obtain ⟨dC, dI, dA, hK⟩ := lw_K hts
  have hl := lv_entry ([.ref b]) (n := 4) (Nat.le_of_ble_eq_true rfl)
  rw [lg_entry_eq]
  generalize (lg_sl ([.ref b]) ++ List.replicate (4 - (lg_sl ([.ref b])).length) Slot.unset).toArray = ls at hl ⊢
  refine HL L xs hL l p e s m below meth c dC dI dA b (fun _ => 0) 0 ⟨hx, hb, hr, hlocks, hml, hown, hnm, fun w hw => hts w (List.mem_filter.mp hw).1, lw_X hts, hK, fun _ h => h, fun L' xs' he => ?_⟩ (fun _ => 0) s.heap [] ls ⟨⟨fun i j r hi => absurd hi (Nat.not_lt_zero _), Nat.le_refl _, fun _ _ => rfl, fun k q h => by simp [am_w, am_h0] at h, ⟨fun i j p q h => by simp [am_w, am_h0] at h, fun k q h => by simp [am_w, am_h0] at h⟩, va_S.rf⟩, am_okl_nil, fun v hv => ?_, hl⟩
  · cases he
    exact ⟨hX, hbl, Nat.not_le.mpr hbl⟩
  · have : v = .retAddr 0 := by simpa using hv
    subst this
    trivial
