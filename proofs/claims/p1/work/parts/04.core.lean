/-! ===== a method's tables: name, code, locals, answer's type, its instructions with the place that they lead to, fields by their links (class, field, 0 int 1 boolean 2 long 3 reference), constants ===== -/
abbrev am_M : Type := MethodName × ByteArray × Nat × Option FieldType × (Nat → Option (Instr × Nat)) × (Nat → Option (Nat × Nat × Nat)) × (Nat → Option Int32) × (Nat → Option Int64)
def am_y (M : am_M) : MethodName := M.1
def am_by (M : am_M) : ByteArray := M.2.1
def am_ml (M : am_M) : Nat := M.2.2.1
def am_rt (M : am_M) : Option FieldType := M.2.2.2.1
def am_cd (M : am_M) : Nat → Option (Instr × Nat) := M.2.2.2.2.1
def am_fl (M : am_M) : Nat → Option (Nat × Nat × Nat) := M.2.2.2.2.2.1
def am_lc (M : am_M) : Nat → Option Int32 := M.2.2.2.2.2.2.1
def am_ll (M : am_M) : Nat → Option Int64 := M.2.2.2.2.2.2.2
def am_len : Instr → Nat
  | .bipush _ | .iload _ | .lload _ | .aload _ | .istore _ | .lstore _ | .astore _ | .ldc _ | .newarray _ => 2
  | .sipush _ | .ldc2_w _ | .iinc _ _ | .getfield _ | .putfield _ | .goto _ | .ifCond _ _ | .if_icmp _ _ | .ifnull _ | .ifnonnull _ | .invokevirtual _ | .invokespecial _ | .invokestatic _ | .new _ | .anewarray _ | .checkcast _ => 3
  | _ => 1
/-- what the tables say of an instruction -/
def am_dec (bs : ByteArray) (nL pc : Nat) (i : Instr) (t : Nat) : Prop := match i with
  | .tableswitch _ _ _ _ => ∃ len, decode bs pc = .ok (i, len)
  | .goto off | .ifCond _ off | .if_icmp _ off | .ifnull off | .ifnonnull off => decode bs pc = .ok (i, 3) ∧ (pc : Int) + off = (t : Int)
  | .bipush n => decode bs pc = .ok (i, 2) ∧ (Int8.ofInt n).toInt32 = Int32.ofInt n
  | .sipush n => decode bs pc = .ok (i, 3) ∧ (Int16.ofInt n).toInt32 = Int32.ofInt n
  | .istore_n k | .astore_n k => decode bs pc = .ok (i, 1) ∧ k.val < nL
  | .lstore_n k => decode bs pc = .ok (i, 1) ∧ k.val + 1 < nL
  | .istore k | .astore k => decode bs pc = .ok (i, 2) ∧ k < nL
  | .lstore k => decode bs pc = .ok (i, 2) ∧ k + 1 < nL
  | .iinc k _ => decode bs pc = .ok (i, 3) ∧ k < nL
  | _ => decode bs pc = .ok (i, am_len i)
def am_FL (own : String) (idx ci k kd : Nat) : Prop := ∃ (C : String) (T : u_T) (N : Nat), vwCl[ci]? = some (C, T, N) ∧ k < N ∧ kd = am_kd (am_ft ci k) ∧ Cond.fieldLink own idx (T k).1 (T k).2.1 (T k).2.2.1 ∈ am_Ts
def am_PF (y : MethodName) (ci k : Nat) : Prop := ∃ (C : String) (T : u_T) (N : Nat), vwCl[ci]? = some (C, T, N) ∧ ((T k).2.2.2 = false ∨ ((T k).2.2.2 = true ∧ y.name = "<init>" ∧ (T k).1 = y.cls))
def am_ok (M : am_M) : Prop :=
  (∀ pc i t, am_cd M pc = some (i, t) → am_dec (am_by M) (am_ml M) pc i t) ∧
  (∀ idx ci k kd, am_fl M idx = some (ci, k, kd) → am_FL (am_y M).cls idx ci k kd) ∧
  (∀ pc idx t ci k kd, am_cd M pc = some (.putfield idx, t) → am_fl M idx = some (ci, k, kd) → am_PF (am_y M) ci k) ∧
  (∀ idx v, am_lc M idx = some v → Cond.constant (am_y M).cls idx v ∈ am_Ts) ∧
  (∀ idx v, am_ll M idx = some v → Cond.constantLong (am_y M).cls idx v ∈ am_Ts)
/-- what is said of nest mates, rows of references and clones, beside the words -/
def am_nest : List Cond := [.methodLinkNest RX8 9 yX4_init RX8, .methodLinkNest RX8 18 yX5_init RX8, .methodLinkNest RX8 25 yX2_init RX8, .methodLinkNest RX8 32 yX1_init RX8, .methodLinkNest RX8 53 yX7_init RX8, .methodLinkNest RX8 60 yX6_init RX8, .methodLinkNest RX2 63 yX8_sortOf RX8, .methodLinkNest RX1 68 yX8_codeOf RX8, .methodLinkNest RX7 57 yX8_postOf RX8]
def am_X (U : State) : Prop := (∀ w ∈ am_nest, va_Nw w U) ∧ va_AO RX0 U ∧ va_AO RX4 U ∧ va_Nw (.castable "[I" "java/lang/Cloneable") U
theorem am_X.moved {s U : State} (h : am_X s) (hW : s.WarmedH U.vm) : am_X U := by
  obtain ⟨h1, h2, h3, h4⟩ := h
  refine ⟨?_, h2.moved hW.alike, h3.moved hW.alike, h4.warmC hW⟩
  intro w hw
  have h := h1 w hw
  unfold am_nest at hw
  simp only [List.mem_cons, List.not_mem_nil, or_false] at hw
  rcases hw with rfl | rfl | rfl | rfl | rfl | rfl | rfl | rfl | rfl <;> exact va_Nw.warmM hW h
/-! ===== a point of a method, over the machine ===== -/
def am_Cx (M : am_M) (scr : Option (Nat × (Nat → Int32))) (p : Program) (s : State) (m : MethodId) (args : Array Value) (meth : Method) (cd : Code) (dC : Nat → ClassId) (dI : Nat → Nat → Nat) (dA : Nat → ClassId) (b : Nat) (A : Nat → Prop) : Prop :=
  p.tables.exec = Jvm.exec ∧ cd.code = am_by M ∧ meth.sig.returnType = am_rt M ∧ meth.locks = false ∧ cd.maxLocals = am_ml M ∧ s.vm.findClass (am_y M).cls = some m.cls ∧ meth.name = (am_y M).name ∧ (∀ w ∈ am_Ts, w.before args s = true) ∧ am_X s ∧ va_K (dC, dI) vwCl (am_tys dA) s ∧ (∀ q, s.heap.size ≤ q → A q) ∧
  ∀ L xs, scr = some (L, xs) → va_X b L xs s s.heap ∧ b < s.heap.size ∧ ¬ A b
def am_okl (n : Nat) (st : List Value) : Prop := ∀ v ∈ st, am_okv n v
def am_cl (ad : Nat → Nat) (b : Nat) (lv : List (Nat × Value)) : List (Nat × Value) := lv.map (fun q => (q.1, am_v ad b q.2))
def am_St (M : am_M) (s : State) (dC : Nat → ClassId) (dI : Nat → Nat → Nat) (dA : Nat → ClassId) (b : Nat) (A : Nat → Prop) (ad0 : Nat → Nat) (n0 : Nat) (ad : Nat → Nat) (lv : List (Nat × Value)) (st : List Value) (h : am_H) (H : Heap) (locs : List Loc) (ls : Array Slot) : Prop :=
  (am_wf h ∧ n0 ≤ h.1 ∧ (∀ i, i < n0 → ad i = ad0 i) ∧ va_P (dC, dI) vwCl (am_w dA ad h) H ∧ va_D A (am_w dA ad h) ∧ va_S A s.heap H locs) ∧ am_okl h.1 st ∧ am_okl h.1 (lv.map Prod.snd) ∧ lv_has ls (am_ml M) (am_cl ad b lv)
def am_Pt (M : am_M) (p : Program) (l : Launch) (e : Env) (R : Room) (s : State) (m : MethodId) (args : Array Value) (below : List Frame) (meth : Method) (cd : Code) (dC : Nat → ClassId) (dI : Nat → Nat → Nat) (dA : Nat → ClassId) (b : Nat) (A : Nat → Prop) (ad0 : Nat → Nat) (n0 : Nat) (Z : State → Prop) (pc : Nat) (lv : List (Nat × Value)) (st : List Value) (h : am_H) (c sl : Nat) : Prop :=
  ∀ (ad : Nat → Nat) (H : Heap) (locs : List Loc) (ls : Array Slot), am_St M s dC dI dA b A ad0 n0 ad lv st h H locs ls → W p l e R s m args below meth cd H locs c sl Z (F0 m pc ls (st.map (am_v ad b)))
/-! ===== one instruction ===== -/
def am_get : List (Nat × Value) → Nat → Option Value
  | [], _ => none
  | (j, v) :: l, i => bif Nat.beq j i then some v else am_get l i
def am_d1 (i : Nat) (lv : List (Nat × Value)) : List (Nat × Value) := lv.filter (fun q => !(q.1 == i) && !(q.1 + 1 == i && q.2.category == 2))
def am_d2 (i : Nat) (lv : List (Nat × Value)) : List (Nat × Value) := lv.filter (fun q => !(q.1 == i) && (!(q.1 == i + 1) && !(q.1 + 1 == i && q.2.category == 2)))
def am_ldI (lv : List (Nat × Value)) (i : Nat) (f : Int32 → Prop) : Prop := match am_get lv i with
  | some (.int x) => f x
  | _ => False
def am_ldJ (lv : List (Nat × Value)) (i : Nat) (f : Int64 → Prop) : Prop := match am_get lv i with
  | some (.long x) => f x
  | _ => False
def am_ldA (lv : List (Nat × Value)) (i : Nat) (f : Value → Prop) : Prop := match am_get lv i with
  | some (.ref x) => f (.ref x)
  | some .null => f .null
  | some (.retAddr x) => f (.retAddr x)
  | _ => False
def am_p1 (st : List Value) (f : Int32 → List Value → Prop) : Prop := match st with
  | .int x :: r => f x r
  | _ => False
def am_pJ (st : List Value) (f : Int64 → List Value → Prop) : Prop := match st with
  | .long x :: r => f x r
  | _ => False
def am_p2 (st : List Value) (f : Int32 → Int32 → List Value → Prop) : Prop := match st with
  | .int y :: .int x :: r => f x y r
  | _ => False
def am_pJ2 (st : List Value) (f : Int64 → Int64 → List Value → Prop) : Prop := match st with
  | .long y :: .long x :: r => f x y r
  | _ => False
def am_pJI (st : List Value) (f : Int64 → Int32 → List Value → Prop) : Prop := match st with
  | .int y :: .long x :: r => f x y r
  | _ => False
def am_pA (st : List Value) (f : Value → List Value → Prop) : Prop := match st with
  | .ref x :: r => f (.ref x) r
  | .null :: r => f .null r
  | .retAddr x :: r => f (.retAddr x) r
  | _ => False
/-- an object, a row -/
def am_pO (st : List Value) (f : Nat → List Value → Prop) : Prop := match st with
  | .ref o :: r => f o r
  | _ => False
def am_pN (st : List Value) (fr : List Value → Prop) (fn : List Value → Prop) : Prop := match st with
  | .ref _ :: r => fr r
  | .null :: r => fn r
  | _ => False
def am_pc1 (st : List Value) (f : Value → List Value → Prop) : Prop := match st with
  | .int x :: r => f (.int x) r
  | .ref x :: r => f (.ref x) r
  | .null :: r => f .null r
  | _ => False
/-- a reference or null, above an object -/
def am_pRO (st : List Value) (f : Option Nat → Nat → List Value → Prop) : Prop := match st with
  | .ref q :: .ref o :: r => f (some q) o r
  | .null :: .ref o :: r => f none o r
  | _ => False
/-- a row, or the script -/
def am_pS (st : List Value) (f : Nat → List Value → Prop) (g : List Value → Prop) : Prop := match st with
  | .ref o :: r => f o r
  | .retAddr _ :: r => g r
  | _ => False
def am_sc (scr : Option (Nat × (Nat → Int32))) (f : Nat → (Nat → Int32) → Prop) : Prop := match scr with
  | some (L, xs) => f L xs
  | none => False
theorem am_pRO_inv {st : List Value} {f : Option Nat → Nat → List Value → Prop} (h : am_pRO st f) : ∃ q o r, st = va_rf q :: .ref o :: r ∧ f q o r := by
  unfold am_pRO at h; split at h
  · exact ⟨some _, _, _, rfl, h⟩
  · exact ⟨none, _, _, rfl, h⟩
  · exact h.elim
theorem am_pS_inv {st : List Value} {f : Nat → List Value → Prop} {g : List Value → Prop} (h : am_pS st f g) : (∃ o r, st = .ref o :: r ∧ f o r) ∨ ∃ x r, st = .retAddr x :: r ∧ g r := by
  unfold am_pS at h; split at h
  · exact Or.inl ⟨_, _, rfl, h⟩
  · exact Or.inr ⟨_, _, rfl, h⟩
  · exact h.elim
theorem am_sc_inv {scr : Option (Nat × (Nat → Int32))} {f : Nat → (Nat → Int32) → Prop} (h : am_sc scr f) : ∃ L xs, scr = some (L, xs) ∧ f L xs := by
  unfold am_sc at h; split at h
  · exact ⟨_, _, rfl, h⟩
  · exact h.elim
theorem am_ldI_inv {lv : List (Nat × Value)} {i : Nat} {f : Int32 → Prop} (h : am_ldI lv i f) : ∃ x, am_get lv i = some (.int x) ∧ f x := by
  unfold am_ldI at h; split at h
  · exact ⟨_, by assumption, h⟩
  · exact h.elim
theorem am_ldJ_inv {lv : List (Nat × Value)} {i : Nat} {f : Int64 → Prop} (h : am_ldJ lv i f) : ∃ x, am_get lv i = some (.long x) ∧ f x := by
  unfold am_ldJ at h; split at h
  · exact ⟨_, by assumption, h⟩
  · exact h.elim
theorem am_ldA_inv {lv : List (Nat × Value)} {i : Nat} {f : Value → Prop} (h : am_ldA lv i f) : ∃ v, am_get lv i = some v ∧ f v ∧ ((∃ x, v = .ref x) ∨ v = .null ∨ ∃ x, v = .retAddr x) := by
  unfold am_ldA at h; split at h
  · exact ⟨_, by assumption, h, Or.inl ⟨_, rfl⟩⟩
  · exact ⟨_, by assumption, h, Or.inr (Or.inl rfl)⟩
  · exact ⟨_, by assumption, h, Or.inr (Or.inr ⟨_, rfl⟩)⟩
  · exact h.elim
theorem am_p1_inv {st : List Value} {f : Int32 → List Value → Prop} (h : am_p1 st f) : ∃ x r, st = .int x :: r ∧ f x r := by
  unfold am_p1 at h; split at h
  · exact ⟨_, _, rfl, h⟩
  · exact h.elim
theorem am_pJ_inv {st : List Value} {f : Int64 → List Value → Prop} (h : am_pJ st f) : ∃ x r, st = .long x :: r ∧ f x r := by
  unfold am_pJ at h; split at h
  · exact ⟨_, _, rfl, h⟩
  · exact h.elim
theorem am_p2_inv {st : List Value} {f : Int32 → Int32 → List Value → Prop} (h : am_p2 st f) : ∃ x y r, st = .int y :: .int x :: r ∧ f x y r := by
  unfold am_p2 at h; split at h
  · exact ⟨_, _, _, rfl, h⟩
  · exact h.elim
theorem am_pJ2_inv {st : List Value} {f : Int64 → Int64 → List Value → Prop} (h : am_pJ2 st f) : ∃ x y r, st = .long y :: .long x :: r ∧ f x y r := by
  unfold am_pJ2 at h; split at h
  · exact ⟨_, _, _, rfl, h⟩
  · exact h.elim
theorem am_pJI_inv {st : List Value} {f : Int64 → Int32 → List Value → Prop} (h : am_pJI st f) : ∃ x y r, st = .int y :: .long x :: r ∧ f x y r := by
  unfold am_pJI at h; split at h
  · exact ⟨_, _, _, rfl, h⟩
  · exact h.elim
theorem am_pA_inv {st : List Value} {f : Value → List Value → Prop} (h : am_pA st f) : ∃ v r, st = v :: r ∧ f v r ∧ ((∃ x, v = .ref x) ∨ v = .null ∨ ∃ x, v = .retAddr x) := by
  unfold am_pA at h; split at h
  · exact ⟨_, _, rfl, h, Or.inl ⟨_, rfl⟩⟩
  · exact ⟨_, _, rfl, h, Or.inr (Or.inl rfl)⟩
  · exact ⟨_, _, rfl, h, Or.inr (Or.inr ⟨_, rfl⟩)⟩
  · exact h.elim
theorem am_pO_inv {st : List Value} {f : Nat → List Value → Prop} (h : am_pO st f) : ∃ o r, st = .ref o :: r ∧ f o r := by
  unfold am_pO at h; split at h
  · exact ⟨_, _, rfl, h⟩
  · exact h.elim
theorem am_pN_inv {st : List Value} {fr fn : List Value → Prop} (h : am_pN st fr fn) : (∃ o r, st = .ref o :: r ∧ fr r) ∨ ∃ r, st = .null :: r ∧ fn r := by
  unfold am_pN at h; split at h
  · exact Or.inl ⟨_, _, rfl, h⟩
  · exact Or.inr ⟨_, rfl, h⟩
  · exact h.elim
theorem am_pc1_inv {st : List Value} {f : Value → List Value → Prop} (h : am_pc1 st f) : ∃ v r, st = v :: r ∧ f v r ∧ v.category = 1 := by
  unfold am_pc1 at h; split at h
  · exact ⟨_, _, rfl, h, rfl⟩
  · exact ⟨_, _, rfl, h, rfl⟩
  · exact ⟨_, _, rfl, h, rfl⟩
  · exact h.elim
/-- what an instruction asks, and where the method goes on: κ (the next place), ρ (an answer) -/
def am_ex (M : am_M) (scr : Option (Nat × (Nat → Int32))) (κ : Nat → List (Nat × Value) → List Value → am_H → Nat → Nat → Prop) (ρ : Instr → List Value → am_H → Nat → Nat → Prop) (ins : Instr) (t pc : Nat) (lv : List (Nat × Value)) (st : List Value) (h : am_H) (c sl : Nat) : Prop :=
  match ins with
  | .iconst n => κ (pc + 1) lv (.int (Int32.ofInt n) :: st) h c sl
  | .bipush n => κ (pc + 2) lv (.int (Int32.ofInt n) :: st) h c sl
  | .sipush n => κ (pc + 3) lv (.int (Int32.ofInt n) :: st) h c sl
  | .lconst n => κ (pc + 1) lv (.long (Int64.ofNat n.val) :: st) h c sl
  | .aconst_null => κ (pc + 1) lv (.null :: st) h c sl
  | .ldc i => (match am_lc M i with
    | some v => κ (pc + 2) lv (.int v :: st) h c sl
    | none => False)
  | .ldc2_w i => (match am_ll M i with
    | some v => κ (pc + 3) lv (.long v :: st) h c sl
    | none => False)
  | .iload_n k => am_ldI lv k.val (fun x => κ (pc + 1) lv (.int x :: st) h c sl)
  | .iload k => am_ldI lv k (fun x => κ (pc + 2) lv (.int x :: st) h c sl)
  | .lload_n k => am_ldJ lv k.val (fun x => κ (pc + 1) lv (.long x :: st) h c sl)
  | .lload k => am_ldJ lv k (fun x => κ (pc + 2) lv (.long x :: st) h c sl)
  | .aload_n k => am_ldA lv k.val (fun x => κ (pc + 1) lv (x :: st) h c sl)
  | .aload k => am_ldA lv k (fun x => κ (pc + 2) lv (x :: st) h c sl)
  | .istore_n k => am_p1 st (fun x r => κ (pc + 1) ((k.val, .int x) :: am_d1 k.val lv) r h c sl)
  | .istore k => am_p1 st (fun x r => κ (pc + 2) ((k, .int x) :: am_d1 k lv) r h c sl)
  | .lstore_n k => am_pJ st (fun x r => κ (pc + 1) ((k.val, .long x) :: am_d2 k.val lv) r h c sl)
  | .lstore k => am_pJ st (fun x r => κ (pc + 2) ((k, .long x) :: am_d2 k lv) r h c sl)
  | .astore_n k => am_pA st (fun x r => κ (pc + 1) ((k.val, x) :: am_d1 k.val lv) r h c sl)
  | .astore k => am_pA st (fun x r => κ (pc + 2) ((k, x) :: am_d1 k lv) r h c sl)
  | .iinc k n => am_ldI lv k (fun x => κ (pc + 3) ((k, .int (x + Int32.ofInt n)) :: am_d1 k lv) st h c sl)
  | .iadd => am_p2 st (fun x y r => κ (pc + 1) lv (.int (x + y) :: r) h c sl)
  | .isub => am_p2 st (fun x y r => κ (pc + 1) lv (.int (x - y) :: r) h c sl)
  | .imul => am_p2 st (fun x y r => κ (pc + 1) lv (.int (x * y) :: r) h c sl)
  | .idiv => am_p2 st (fun x y r => ¬ y = 0 ∧ κ (pc + 1) lv (.int (x / y) :: r) h c sl)
  | .irem => am_p2 st (fun x y r => ¬ y = 0 ∧ κ (pc + 1) lv (.int (x - x / y * y) :: r) h c sl)
  | .iand => am_p2 st (fun x y r => κ (pc + 1) lv (.int (x &&& y) :: r) h c sl)
  | .ior => am_p2 st (fun x y r => κ (pc + 1) lv (.int (x ||| y) :: r) h c sl)
  | .ixor => am_p2 st (fun x y r => κ (pc + 1) lv (.int (x ^^^ y) :: r) h c sl)
  | .ishl => am_p2 st (fun x y r => κ (pc + 1) lv (.int (x <<< (y &&& 31)) :: r) h c sl)
  | .ishr => am_p2 st (fun x y r => κ (pc + 1) lv (.int (x >>> (y &&& 31)) :: r) h c sl)
  | .iushr => am_p2 st (fun x y r => κ (pc + 1) lv (.int (x.toUInt32 >>> (y.toUInt32 &&& Int32.toUInt32 31)).toInt32 :: r) h c sl)
  | .ladd => am_pJ2 st (fun x y r => κ (pc + 1) lv (.long (x + y) :: r) h c sl)
  | .lsub => am_pJ2 st (fun x y r => κ (pc + 1) lv (.long (x - y) :: r) h c sl)
  | .lmul => am_pJ2 st (fun x y r => κ (pc + 1) lv (.long (x * y) :: r) h c sl)
  | .ldiv => am_pJ2 st (fun x y r => ¬ y = 0 ∧ κ (pc + 1) lv (.long (x / y) :: r) h c sl)
  | .lrem => am_pJ2 st (fun x y r => ¬ y = 0 ∧ κ (pc + 1) lv (.long (x - x / y * y) :: r) h c sl)
  | .land => am_pJ2 st (fun x y r => κ (pc + 1) lv (.long (x &&& y) :: r) h c sl)
  | .lor => am_pJ2 st (fun x y r => κ (pc + 1) lv (.long (x ||| y) :: r) h c sl)
  | .lxor => am_pJ2 st (fun x y r => κ (pc + 1) lv (.long (x ^^^ y) :: r) h c sl)
  | .lshl => am_pJI st (fun x y r => κ (pc + 1) lv (.long (x <<< (y.toInt64 &&& 63)) :: r) h c sl)
  | .lshr => am_pJI st (fun x y r => κ (pc + 1) lv (.long (x >>> (y.toInt64 &&& 63)) :: r) h c sl)
  | .lushr => am_pJI st (fun x y r => κ (pc + 1) lv (.long (x.toUInt64 >>> (y.toInt64.toUInt64 &&& Int64.toUInt64 63)).toInt64 :: r) h c sl)
  | .lcmp => am_pJ2 st (fun x y r => κ (pc + 1) lv (.int (lg_cmp x y) :: r) h c sl)
  | .i2l => am_p1 st (fun x r => κ (pc + 1) lv (.long x.toInt64 :: r) h c sl)
  | .l2i => am_pJ st (fun x r => κ (pc + 1) lv (.int x.toInt32 :: r) h c sl)
  | .i2b => am_p1 st (fun x r => κ (pc + 1) lv (.int x.toInt8.toInt32 :: r) h c sl)
  | .dup => am_pc1 st (fun v r => κ (pc + 1) lv (v :: v :: r) h c sl)
  | .pop => am_pc1 st (fun _ r => κ (pc + 1) lv r h c sl)
  | .dup_x1 => am_pc1 st (fun v r => am_pc1 r (fun w r => κ (pc + 1) lv (v :: w :: v :: r) h c sl))
  | .dup2 => am_pc1 st (fun v r => am_pc1 r (fun w r => κ (pc + 1) lv (v :: w :: v :: w :: r) h c sl))
  | .goto _ => κ t lv st h c sl
  | .ifCond cn _ => am_p1 st (fun x r => match cn with
    | .eq => (x = 0 → κ t lv r h c sl) ∧ (¬ x = 0 → κ (pc + 3) lv r h c sl)
    | .ne => (¬ x = 0 → κ t lv r h c sl) ∧ (x = 0 → κ (pc + 3) lv r h c sl)
    | .lt => (x < 0 → κ t lv r h c sl) ∧ (¬ x < 0 → κ (pc + 3) lv r h c sl)
    | .ge => (0 ≤ x → κ t lv r h c sl) ∧ (¬ 0 ≤ x → κ (pc + 3) lv r h c sl)
    | .gt => (0 < x → κ t lv r h c sl) ∧ (¬ 0 < x → κ (pc + 3) lv r h c sl)
    | .le => (x ≤ 0 → κ t lv r h c sl) ∧ (¬ x ≤ 0 → κ (pc + 3) lv r h c sl))
  | .if_icmp cn _ => am_p2 st (fun x y r => match cn with
    | .eq => (x = y → κ t lv r h c sl) ∧ (¬ x = y → κ (pc + 3) lv r h c sl)
    | .ne => (¬ x = y → κ t lv r h c sl) ∧ (x = y → κ (pc + 3) lv r h c sl)
    | .lt => (x < y → κ t lv r h c sl) ∧ (¬ x < y → κ (pc + 3) lv r h c sl)
    | .ge => (y ≤ x → κ t lv r h c sl) ∧ (¬ y ≤ x → κ (pc + 3) lv r h c sl)
    | .gt => (y < x → κ t lv r h c sl) ∧ (¬ y < x → κ (pc + 3) lv r h c sl)
    | .le => (x ≤ y → κ t lv r h c sl) ∧ (¬ x ≤ y → κ (pc + 3) lv r h c sl))
  | .ifnull _ => am_pN st (fun r => κ (pc + 3) lv r h c sl) (fun r => κ t lv r h c sl)
  | .ifnonnull _ => am_pN st (fun r => κ t lv r h c sl) (fun r => κ (pc + 3) lv r h c sl)
  | .tableswitch d lo hi offs => am_p1 st (fun x r => ((x.toInt < lo ∨ hi < x.toInt) → ∃ tg : Nat, (pc : Int) + d = (tg : Int) ∧ κ tg lv r h c sl) ∧ (¬ x.toInt < lo → ¬ hi < x.toInt → ∃ (off : Int) (tg : Nat), offs[(x.toInt - lo).toNat]? = some off ∧ (pc : Int) + off = (tg : Int) ∧ κ tg lv r h c sl))
  | .getfield i => (match am_fl M i with
    | some (ci, k, kd) => am_pO st (fun o r => am_K h o = .inl ci ∧ (match kd with
      | 0 => κ (pc + 3) lv (.int (am_I h o k) :: r) h c sl
      | 1 => κ (pc + 3) lv (.int (am_I h o k) :: r) h c sl
      | 2 => κ (pc + 3) lv (.long (am_J h o k) :: r) h c sl
      | 3 => ∃ q, am_A h o k = q ∧ κ (pc + 3) lv (va_rf q :: r) h c sl
      | _ => False))
    | none => False)
  | .putfield i => (match am_fl M i with
    | some (ci, k, kd) => (match kd with
      | 0 => am_p1 st (fun x r => am_pO r (fun o r => am_K h o = .inl ci ∧ κ (pc + 3) lv r (am_sI h o k x) c sl))
      | 1 => am_p1 st (fun x r => am_pO r (fun o r => (x = 0 ∨ x = 1) ∧ am_K h o = .inl ci ∧ κ (pc + 3) lv r (am_sI h o k x) c sl))
      | 2 => am_pJ st (fun x r => am_pO r (fun o r => am_K h o = .inl ci ∧ κ (pc + 3) lv r (am_sJ h o k x) c sl))
      | 3 => am_pRO st (fun q o r => am_K h o = .inl ci ∧ κ (pc + 3) lv r (am_sA h o k q) c sl)
      | _ => False)
    | none => False)
  | .iaload => am_p1 st (fun i r => am_pS r (fun o r => ∃ n, am_K h o = .inr (0, n) ∧ vp_in i n ∧ κ (pc + 1) lv (.int (am_I h o i.toNatClampNeg) :: r) h c sl) (fun r => am_sc scr (fun L xs => vp_in i L ∧ κ (pc + 1) lv (.int (xs i.toNatClampNeg) :: r) h c sl)))
  | .baload => am_p1 st (fun i r => am_pO r (fun o r => ∃ t n, (t = 1 ∨ t = 2) ∧ am_K h o = .inr (t, n) ∧ vp_in i n ∧ κ (pc + 1) lv (.int (am_I h o i.toNatClampNeg) :: r) h c sl))
  | .laload => am_p1 st (fun i r => am_pO r (fun o r => ∃ n, am_K h o = .inr (3, n) ∧ vp_in i n ∧ κ (pc + 1) lv (.long (am_J h o i.toNatClampNeg) :: r) h c sl))
  | .aaload => am_p1 st (fun i r => am_pO r (fun o r => ∃ t n q, (t = 4 ∨ t = 5) ∧ am_K h o = .inr (t, n) ∧ vp_in i n ∧ am_A h o i.toNatClampNeg = q ∧ κ (pc + 1) lv (va_rf q :: r) h c sl))
  | .iastore => am_p2 st (fun i x r => am_pO r (fun o r => ∃ n, am_K h o = .inr (0, n) ∧ vp_in i n ∧ κ (pc + 1) lv r (am_sI h o i.toNatClampNeg x) c sl))
  | .bastore => am_p2 st (fun i x r => am_pO r (fun o r => ∃ t n, (t = 1 ∨ t = 2) ∧ am_K h o = .inr (t, n) ∧ vp_in i n ∧ κ (pc + 1) lv r (am_sI h o i.toNatClampNeg (vp_nar (am_at t) x)) c sl))
  | .lastore => am_pJ st (fun x r => am_p1 r (fun i r => am_pO r (fun o r => ∃ n, am_K h o = .inr (3, n) ∧ vp_in i n ∧ κ (pc + 1) lv r (am_sJ h o i.toNatClampNeg x) c sl)))
  | .aastore => am_pO st (fun q r => am_p1 r (fun i r => am_pO r (fun o r => ∃ t n ci, ((t = 4 ∧ ci = 0) ∨ (t = 5 ∧ ci = 4)) ∧ am_K h o = .inr (t, n) ∧ am_K h q = .inl ci ∧ vp_in i n ∧ κ (pc + 1) lv r (am_sA h o i.toNatClampNeg (some q)) c sl)))
  | .arraylength => am_pS st (fun o r => ∃ t n, t < 6 ∧ am_K h o = .inr (t, n) ∧ κ (pc + 1) lv (.int (Int32.ofNat n) :: r) h c sl) (fun r => am_sc scr (fun L _ => κ (pc + 1) lv (.int (Int32.ofNat L) :: r) h c sl))
  | .ireturn => ρ .ireturn st h c sl
  | .lreturn => ρ .lreturn st h c sl
  | .areturn => ρ .areturn st h c sl
  | .return_ => ρ .return_ st h c sl
  | _ => False
