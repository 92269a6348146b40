/-! ===== new objects and rows, natives ===== -/
theorem am_kd_ok {ci N : Nat} {C : String} {T : u_T} (h : vwCl[ci]? = some (C, T, N)) : ∀ k, k < N → am_kd (am_ft ci k) < 4 := by
  match ci, h with
  | 0, h => cases h; decide
  | 1, h => cases h; decide
  | 2, h => cases h; decide
  | 3, h => cases h; decide
  | 4, h => cases h; decide
  | 5, h => cases h; decide
  | 6, h => cases h; decide
  | 7, h => cases h; decide
  | 8, h => cases h; decide
  | 9, h => cases h; decide
  | n + 10, h => simp at h
theorem am_df_fv {ad : Nat → Nat} {h : am_H} {i k : Nat} {ty : FieldType} (hk : am_kd ty < 4) (hI : am_I h i k = 0) (hJ : am_J h i k = 0) (hA : am_A h i k = none) : defaultValue ty = am_fv ad h i ty k := by
  cases ty <;> simp [am_kd] at hk <;> simp [am_fv, am_kd, hI, hJ, hA, defaultValue, va_rf]
theorem am_map_up {ad : Nat → Nat} {b n q : Nat} {st : List Value} (h : am_okl n st) : st.map (am_v (va_up ad n q) b) = st.map (am_v ad b) :=
  List.map_congr_left (fun v hv => am_v_congr (n := n) (fun i hi => by simp [va_up, show i ≠ n by omega]) (h v hv))
theorem am_cl_up {ad : Nat → Nat} {b n q : Nat} {lv : List (Nat × Value)} (h : am_okl n (lv.map Prod.snd)) : am_cl (va_up ad n q) b lv = am_cl ad b lv :=
  List.map_congr_left (fun v hv => by rw [am_v_congr (ad := ad) (n := n) (fun i hi => by simp [va_up, show i ≠ n by omega]) (h v.2 (List.mem_map.mpr ⟨v, hv, rfl⟩))])
theorem am_cl_ext {ad ad' : Nat → Nat} {b n : Nat} {lv : List (Nat × Value)} (had : ∀ i, i < n → ad' i = ad i) (h : am_okl n (lv.map Prod.snd)) : am_cl ad' b lv = am_cl ad b lv :=
  List.map_congr_left (fun v hv => by rw [am_v_congr (ad := ad) (n := n) had (h v.2 (List.mem_map.mpr ⟨v, hv, rfl⟩))])
theorem am_map_ext {ad ad' : Nat → Nat} {b n : Nat} {st : List Value} (had : ∀ i, i < n → ad' i = ad i) (h : am_okl n st) : st.map (am_v ad' b) = st.map (am_v ad b) :=
  List.map_congr_left (fun v hv => am_v_congr (n := n) had (h v hv))
section AMA
variable {M : am_M} {p : Program} {l : Launch} {e : Env} {R : Room} {s : State} {m : MethodId} {args : Array Value} {below : List Frame} {meth : Method} {cd : Code} {dC : Nat → ClassId} {dI : Nat → Nat → Nat} {dA : Nat → ClassId} {b : Nat} {A : Nat → Prop} {ad0 : Nat → Nat} {n0 : Nat} {Z : State → Prop} {scr : Option (Nat × (Nat → Int32))}
theorem am_St.push {ad : Nat → Nat} {lv : List (Nat × Value)} {st st' : List Value} {h : am_H} {H H1 : Heap} {locs : List Loc} {ls : Array Slot} (S : am_St M s dC dI dA b A ad0 n0 ad lv st h H locs ls) {q : Nat} {kd : Nat ⊕ (Nat × Nat)} {f : Nat → Int32} (hs : am_okl h.1 st')
    (hP : va_P (dC, dI) vwCl (am_w dA (va_up ad h.1 q) (am_new h kd f)) H1) (hD : va_D A (am_w dA (va_up ad h.1 q) (am_new h kd f))) (hS : va_S A s.heap H1 locs) : am_St M s dC dI dA b A ad0 n0 (va_up ad h.1 q) lv (.ref h.1 :: st') (am_new h kd f) H1 locs ls := by
  obtain ⟨⟨hw, hn, had, -, -, -⟩, -, hlv, hls⟩ := S
  refine ⟨⟨am_wf_new hw, Nat.le_succ_of_le hn, fun i hi => ?_, hP, hD, hS⟩, am_okl_cons (Nat.lt_succ_self _) (am_okl_mono (Nat.le_succ _) hs), am_okl_mono (Nat.le_succ _) hlv, ?_⟩
  · rw [← had i hi]; simp [va_up, show i ≠ h.1 by omega]
  · rw [am_cl_up hlv]; exact hls
theorem am_Pnew (C : am_Cx M scr p s m args meth cd dC dI dA b A) {pc idx ci N : Nat} {Cn : String} {T : u_T} {lv : List (Nat × Value)} {st : List Value} {h : am_H} {c sl : Nat} (hc : vwCl[ci]? = some (Cn, T, N)) (hlk : Cond.classLink (am_y M).cls idx Cn ∈ am_Ts) (hd : decode (am_by M) pc = .ok (.new idx, 3)) (hcells : c + 1 ≤ R.cells) (hslots : sl + N ≤ R.slots)
    (k : am_Pt M p l e R s m args below meth cd dC dI dA b A ad0 n0 Z (pc + 3) lv (.ref h.1 :: st) (am_new h (.inl ci) (fun _ => 0)) (c + 1) (sl + N)) : am_Pt M p l e R s m args below meth cd dC dI dA b A ad0 n0 Z pc lv st h c sl := by
  intro ad H locs ls S
  obtain ⟨hx, hb, -, -, -, hown, -, hts, -, hKK, hA, -⟩ := C
  obtain ⟨⟨hin, hinst, hini⟩, hty, -, hnf⟩ := am_cls hc
  have hst := S.2.1
  refine va_new (fs := (List.range N).map (fun k => defaultValue (am_ft ci k))) hx hb hts hin (am_ft ci) hty hown (hts _ hlk) (hts _ hinst) (hts _ hini) hKK S.1.2.2.2.1 S.1.2.2.2.2.1 S.1.2.2.2.2.2 hA hc (fun j hj => by simp [vp_V, hj]) hcells hslots hd (fun q H1 hP1 hD1 hS1 => ?_)
  have e1 := am_w_push (dA := dA) (ad := ad) (q := q) (kd := .inl ci) (f := fun _ => (0 : Int32)) S.1.1
  have e2 : am_e dA (va_up ad h.1 q) (am_new h (.inl ci) (fun _ => 0)) h.1 = .inr (ci, (List.range N).map (fun k => defaultValue (am_ft ci k))) := by
    rw [am_e_obj (ci := ci) (by simp [am_new, am_K, va_up]), hnf]
    congr 2
    apply List.map_congr_left
    intro k hk
    exact (am_df_fv (am_kd_ok hc k (List.mem_range.mp hk)) (by simp [am_new, am_I, va_up]) (by simp [am_new, am_J, va_up]) (by simp [am_new, am_A, va_up])).symm
  rw [e2] at e1
  have g := k (va_up ad h.1 q) H1 locs ls (S.push hst (by rw [e1]; exact hP1) (by rw [e1]; exact hD1) hS1)
  have e3 : (Value.ref h.1 :: st).map (am_v (va_up ad h.1 q) b) = .ref q :: st.map (am_v ad b) := by
    rw [List.map_cons, am_map_up hst]
    congr 1
    simp [am_v, va_up]
  rw [e3] at g
  exact g
/-- types of new rows -/
def am_nt : ArrayType → Nat
  | .int => 0 | .byte => 1 | .boolean => 2 | .long => 3 | _ => 9
theorem am_ac : Cond.arrayClass .int ∈ am_Ts ∧ Cond.arrayClass .byte ∈ am_Ts ∧ Cond.arrayClass .boolean ∈ am_Ts ∧ Cond.arrayClass .long ∈ am_Ts := ⟨am_in (by decide +kernel) rfl, am_in (by decide +kernel) rfl, am_in (by decide +kernel) rfl, am_in (by decide +kernel) rfl⟩
/-- the class of a row is the one of its type -/
theorem am_cA {t : Nat} (ht : t < 4) {cA : ClassId} (hKK : va_K (dC, dI) vwCl (am_tys dA) s) (h : va_K (dC, dI) vwCl (am_tys dA ++ [(cA, am_at t)]) s) : cA = dA t := by
  have h1 := (h.2 6 (cA, am_at t) rfl).2
  have h2 := (hKK.2 t _ (am_tys_get dA (by omega))).2
  have key : ∀ ty : FieldType, (∀ C, ty ≠ .object C) → va_RA s cA ty → va_RA s (dA t) ty → cA = dA t := by
    intro ty hne q1 q2
    cases ty with
    | object C => exact absurd rfl (hne C)
    | _ => exact Option.some.inj (q1.symm.trans q2)
  refine key (am_at t) (fun C => ?_) h1 h2
  rcases (by omega : t = 0 ∨ t = 1 ∨ t = 2 ∨ t = 3) with rfl | rfl | rfl | rfl <;> exact fun h => by cases h
theorem am_Pnewa (C : am_Cx M scr p s m args meth cd dC dI dA b A) {pc t : Nat} {at' : ArrayType} {n : Int32} {lv : List (Nat × Value)} {st : List Value} {h : am_H} {c sl : Nat} (hat : am_nt at' = t) (ht : t < 4) (hd : decode (am_by M) pc = .ok (.newarray at', 2)) (hn : ¬ n < 0) (hbig : n.toNatClampNeg ≤ 1000000) (hcells : c + 1 ≤ R.cells) (hslots : sl + n.toNatClampNeg ≤ R.slots)
    (k : am_Pt M p l e R s m args below meth cd dC dI dA b A ad0 n0 Z (pc + 2) lv (.ref h.1 :: st) (am_new h (.inr (t, n.toNatClampNeg)) (fun _ => 0)) (c + 1) (sl + n.toNatClampNeg)) : am_Pt M p l e R s m args below meth cd dC dI dA b A ad0 n0 Z pc lv (.int n :: st) h c sl := by
  intro ad H locs ls S
  obtain ⟨hx, hb, -, -, -, hown, -, hts, -, hKK, hA, -⟩ := C
  have hst := am_okl_t S.2.1
  have fin : ∀ (ty : FieldType) (a0 : vp_A), newarray.typeOf at' = ty → am_at t = ty → Cond.arrayClass ty ∈ am_Ts → (∀ cA : ClassId, vp_cell cA a0 = arrV cA n.toNatClampNeg (fun _ => defaultValue ty)) → componentBytes ty ≤ 8 → (∀ q, (n.toNatClampNeg, am_row (va_up ad h.1 q) (am_new h (.inr (t, n.toNatClampNeg)) (fun _ => 0)) h.1 t) = a0) → W p l e R s m args below meth cd H locs c sl Z (F0 m pc ls (.int n :: st.map (am_v ad b))) := by
    intro ty a0 hty hty2 hcl ha hcb hrow
    refine va_newa hx hb (atype := at') (by rw [hty]; exact hts _ hcl) hty hKK S.1.2.2.2.1 S.1.2.2.2.2.1 S.1.2.2.2.2.2 hA ha hn rfl (Nat.le_trans (Nat.mul_le_mul hbig hcb) (by decide)) hcells hslots hd (fun q cA H1 hK1 hP1 hD1 hS1 => ?_)
    have ec : cA = dA t := am_cA ht hKK (by rw [hty2]; exact hK1)
    subst ec
    have e1 := am_w_push (dA := dA) (ad := ad) (q := q) (kd := .inr (t, n.toNatClampNeg)) (f := fun _ => (0 : Int32)) S.1.1
    rw [am_e_arr (t := t) (n := n.toNatClampNeg) (by simp [am_new, am_K, va_up]), hrow q] at e1
    have g := k (va_up ad h.1 q) H1 locs ls (S.push hst (by rw [e1]; exact hP1) (by rw [e1]; exact hD1) hS1)
    have e3 : (Value.ref h.1 :: st).map (am_v (va_up ad h.1 q) b) = .ref q :: st.map (am_v ad b) := by
      rw [List.map_cons, am_map_up hst]
      congr 1
      simp [am_v, va_up]
    rw [e3] at g
    exact g
  have hI : ∀ q, am_row (va_up ad h.1 q) (am_new h (.inr (t, n.toNatClampNeg)) (fun _ => 0)) h.1 t = if t < 3 then .inl (fun _ => 0) else .inr (.inl (fun _ => 0)) := by
    intro q
    unfold am_row
    by_cases h3 : t < 3
    · rw [if_pos h3, if_pos h3]; simp [am_new, am_I, va_up]
    · rw [if_neg h3, if_neg h3, if_pos (by omega)]; simp [am_new, am_J, va_up]
  cases at' <;> simp only [am_nt] at hat <;> subst hat
  case int => exact fin .int (n.toNatClampNeg, .inl (fun _ => 0)) rfl rfl am_ac.1 (fun _ => rfl) (by decide) (fun q => by rw [hI q]; rfl)
  case byte => exact fin .byte (n.toNatClampNeg, .inl (fun _ => 0)) rfl rfl am_ac.2.1 (fun _ => rfl) (by decide) (fun q => by rw [hI q]; rfl)
  case boolean => exact fin .boolean (n.toNatClampNeg, .inl (fun _ => 0)) rfl rfl am_ac.2.2.1 (fun _ => rfl) (by decide) (fun q => by rw [hI q]; rfl)
  case long => exact fin .long (n.toNatClampNeg, .inr (.inl (fun _ => 0))) rfl rfl am_ac.2.2.2 (fun _ => rfl) (by decide) (fun q => by rw [hI q]; rfl)
  all_goals omega
/-- a row of references -/
theorem am_Pnewq (C : am_Cx M scr p s m args meth cd dC dI dA b A) {pc idx t : Nat} {n : Int32} {lv : List (Nat × Value)} {st : List Value} {h : am_H} {c sl : Nat} (ht : t = 4 ∨ t = 5) (hlk : Cond.classLink (am_y M).cls idx (if t = 4 then RX0 else RX4) ∈ am_Ts) (hd : decode (am_by M) pc = .ok (.anewarray idx, 3)) (hn : ¬ n < 0) (hbig : n.toNatClampNeg ≤ 1000000) (hcells : c + 1 ≤ R.cells) (hslots : sl + n.toNatClampNeg ≤ R.slots)
    (k : am_Pt M p l e R s m args below meth cd dC dI dA b A ad0 n0 Z (pc + 3) lv (.ref h.1 :: st) (am_new h (.inr (t, n.toNatClampNeg)) (fun _ => 0)) (c + 1) (sl + n.toNatClampNeg)) : am_Pt M p l e R s m args below meth cd dC dI dA b A ad0 n0 Z pc lv (.int n :: st) h c sl := by
  intro ad H locs ls S
  obtain ⟨hx, hb, -, -, -, hown, -, hts, hX, hKK, hA, -⟩ := C
  have hst := am_okl_t S.2.1
  have fin : ∀ Cn : String, am_at t = .object Cn → va_AO Cn s → Cond.classLink (am_y M).cls idx Cn ∈ am_Ts → W p l e R s m args below meth cd H locs c sl Z (F0 m pc ls (.int n :: st.map (am_v ad b))) := by
    intro Cn hty hover hcl
    refine va_newq hx hb hown (hts _ hcl) hover hKK S.1.2.2.2.1 S.1.2.2.2.2.1 S.1.2.2.2.2.2 hA hn rfl (by omega) hcells hslots hd (fun q cA H1 hK1 hP1 hD1 hS1 => ?_)
    have ec : cA = dA t := by
      have h1 := (hK1.2 6 (cA, .object Cn) rfl).2
      have h2 := (hKK.2 t _ (am_tys_get dA (by omega))).2
      rw [hty] at h2
      obtain ⟨_, _, -, -, -, q1⟩ := h1
      obtain ⟨_, _, -, -, -, q2⟩ := h2
      exact Option.some.inj (q1.symm.trans q2)
    subst ec
    have e1 := am_w_push (dA := dA) (ad := ad) (q := q) (kd := .inr (t, n.toNatClampNeg)) (f := fun _ => (0 : Int32)) S.1.1
    have e0 : am_row (va_up ad h.1 q) (am_new h (.inr (t, n.toNatClampNeg)) (fun _ => 0)) h.1 t = .inr (.inr (.inr (.inr (fun _ => none)))) := by
      unfold am_row
      rw [if_neg (by omega), if_neg (by omega)]
      simp [am_new, am_A, va_up]
    rw [am_e_arr (t := t) (n := n.toNatClampNeg) (by simp [am_new, am_K, va_up]), e0] at e1
    have g := k (va_up ad h.1 q) H1 locs ls (S.push hst (by rw [e1]; exact hP1) (by rw [e1]; exact hD1) hS1)
    have e3 : (Value.ref h.1 :: st).map (am_v (va_up ad h.1 q) b) = .ref q :: st.map (am_v ad b) := by
      rw [List.map_cons, am_map_up hst]
      congr 1
      simp [am_v, va_up]
    rw [e3] at g
    exact g
  rcases ht with rfl | rfl
  · exact fin RX0 rfl hX.2.1 hlk
  · exact fin RX4 rfl hX.2.2.1 hlk
/-- the superclass's constructor -/
theorem am_obj : Cond.instanceMethod objectInit ∈ am_Ts ∧ Cond.code objectInit ⟨#[0xb1]⟩ 1 none ∈ am_Ts := ⟨am_in (by decide +kernel) rfl, am_in (List.mem_append_right _ (List.mem_append_left _ (List.mem_of_getElem? (i := 21) rfl))) rfl⟩
theorem am_Pobj (C : am_Cx M scr p s m args meth cd dC dI dA b A) {pc idx o : Nat} {lv : List (Nat × Value)} {st : List Value} {h : am_H} {c sl : Nat} (hlk : Cond.methodLink (am_y M).cls idx objectInit ∈ am_Ts) (hd : decode (am_by M) pc = .ok (.invokespecial idx, 3)) (hfr : 1 ≤ R.frames) (hlo : (st.map fun v => v.category).sum + 12 ≤ R.locals)
    (k : am_Pt M p l e R s m args below meth cd dC dI dA b A ad0 n0 Z (pc + 3) lv st h c sl) : am_Pt M p l e R s m args below meth cd dC dI dA b A ad0 n0 Z pc lv (.ref o :: st) h c sl := by
  intro ad H locs ls S
  obtain ⟨hx, hb, -, -, hml, hown, -, hts, -, hKK, hA, -⟩ := C
  have hst := am_okl_t S.2.1
  have hsum : ((st.map (am_v ad b)).map fun v => v.category).sum = (st.map fun v => v.category).sum := by
    rw [List.map_map]
    congr 1
    exact List.map_congr_left (fun v _ => am_v_cat ad b v)
  exact W.objInit hx hb hown (hts _ hlk) (hts _ am_obj.1) (hts _ am_obj.2) rfl (by rw [hml]; exact S.2.2.2.1) rfl hd hfr (by show 2 * 0 + _ + 12 ≤ _; rw [hsum]; omega) (k ad H locs ls (S.stk hst))
end AMA
