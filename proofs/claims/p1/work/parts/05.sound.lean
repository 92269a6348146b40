/-! ===== the abstract instruction holds of the machine's ===== -/
theorem am_okl_nil {n : Nat} : am_okl n [] := fun _ h => by cases h
theorem am_okl_cons {n : Nat} {v : Value} {st : List Value} (h : am_okv n v) (hs : am_okl n st) : am_okl n (v :: st) := fun w hw => by
  rcases List.mem_cons.mp hw with rfl | hw
  · exact h
  · exact hs w hw
theorem am_okl_i {n : Nat} {x : Int32} {st : List Value} (hs : am_okl n st) : am_okl n (.int x :: st) := am_okl_cons trivial hs
theorem am_okl_j {n : Nat} {x : Int64} {st : List Value} (hs : am_okl n st) : am_okl n (.long x :: st) := am_okl_cons trivial hs
theorem am_okl_t {n : Nat} {v : Value} {st : List Value} (h : am_okl n (v :: st)) : am_okl n st := fun w hw => h w (List.mem_cons_of_mem _ hw)
theorem am_okl_h {n : Nat} {v : Value} {st : List Value} (h : am_okl n (v :: st)) : am_okv n v := h v List.mem_cons_self
theorem am_okl_mono {n n' : Nat} (h : n ≤ n') {st : List Value} (hs : am_okl n st) : am_okl n' st := fun v hv => am_okv_mono h (hs v hv)
theorem am_get_mem {lv : List (Nat × Value)} {i : Nat} {v : Value} (h : am_get lv i = some v) : (i, v) ∈ lv := by
  induction lv with
  | nil => simp [am_get] at h
  | cons q l ih =>
    obtain ⟨j, w⟩ := q
    unfold am_get at h
    by_cases e : Nat.beq j i = true
    · rw [e] at h
      have := Nat.eq_of_beq_eq_true e
      subst this
      simp at h
      subst h
      exact List.mem_cons_self
    · have e' : Nat.beq j i = false := Bool.eq_false_iff.mpr e
      rw [e'] at h
      exact List.mem_cons_of_mem _ (ih h)
theorem am_get_ls {ad : Nat → Nat} {b nL : Nat} {ls : Array Slot} {lv : List (Nat × Value)} (hl : lv_has ls nL (am_cl ad b lv)) {i : Nat} {v : Value} (h : am_get lv i = some v) : ls[i]? = some (.val (am_v ad b v)) :=
  hl.2.2 (i, am_v ad b v) (List.mem_map.mpr ⟨(i, v), am_get_mem h, rfl⟩)
theorem am_get_ok {n : Nat} {lv : List (Nat × Value)} (hl : am_okl n (lv.map Prod.snd)) {i : Nat} {v : Value} (h : am_get lv i = some v) : am_okv n v := hl v (List.mem_map.mpr ⟨(i, v), am_get_mem h, rfl⟩)
theorem am_cl_filter (ad : Nat → Nat) (b : Nat) (lv : List (Nat × Value)) (f : Nat → Bool) (g : Nat → Nat → Bool) : (am_cl ad b lv).filter (fun q => f q.1 && g q.1 q.2.category) = am_cl ad b (lv.filter (fun q => f q.1 && g q.1 q.2.category)) := by
  unfold am_cl
  rw [List.filter_map]
  congr 1
  apply List.filter_congr
  intro q _
  simp [am_v_cat]
theorem am_cl_d1 (ad : Nat → Nat) (b i : Nat) (lv : List (Nat × Value)) (v w : Value) (hv : w = am_v ad b v) : (i, w) :: (am_cl ad b lv).filter (fun q => !(q.1 == i) && !(q.1 + 1 == i && q.2.category == 2)) = am_cl ad b ((i, v) :: am_d1 i lv) := by
  subst hv
  exact congrArg (List.cons _) (am_cl_filter ad b lv (fun x => !(x == i)) (fun x y => !(x + 1 == i && y == 2)))
theorem am_cl_d2 (ad : Nat → Nat) (b i : Nat) (lv : List (Nat × Value)) (v w : Value) (hv : w = am_v ad b v) : (i, w) :: (am_cl ad b lv).filter (fun q => !(q.1 == i) && (!(q.1 == i + 1) && !(q.1 + 1 == i && q.2.category == 2))) = am_cl ad b ((i, v) :: am_d2 i lv) := by
  subst hv
  exact congrArg (List.cons _) (am_cl_filter ad b lv (fun x => !(x == i)) (fun x y => !(x == i + 1) && !(x + 1 == i && y == 2)))
theorem am_okl_d1 {n i : Nat} {lv : List (Nat × Value)} {v : Value} (h : am_okl n (lv.map Prod.snd)) (hv : am_okv n v) : am_okl n (((i, v) :: am_d1 i lv).map Prod.snd) := by
  refine am_okl_cons hv (fun w hw => ?_)
  obtain ⟨q, hq, rfl⟩ := List.mem_map.mp hw
  exact h _ (List.mem_map.mpr ⟨q, (List.mem_filter.mp hq).1, rfl⟩)
theorem am_okl_d2 {n i : Nat} {lv : List (Nat × Value)} {v : Value} (h : am_okl n (lv.map Prod.snd)) (hv : am_okv n v) : am_okl n (((i, v) :: am_d2 i lv).map Prod.snd) := by
  refine am_okl_cons hv (fun w hw => ?_)
  obtain ⟨q, hq, rfl⟩ := List.mem_map.mp hw
  exact h _ (List.mem_map.mpr ⟨q, (List.mem_filter.mp hq).1, rfl⟩)
theorem am_fv_get {dA : Nat → ClassId} {ad : Nat → Nat} {h : am_H} {o ci k : Nat} (hk : k < am_nf ci) : ((List.range (am_nf ci)).map (fun k => am_fv ad h o (am_ft ci k) k))[k]? = some (am_fv ad h o (am_ft ci k) k) := by
  simp [hk]
theorem am_fs_set {ad : Nat → Nat} {h h' : am_H} {o ci k : Nat} {v : Value} (hk : k < am_nf ci) (hv : am_fv ad h' o (am_ft ci k) k = v) (ho : ∀ j, j ≠ k → am_fv ad h' o (am_ft ci j) j = am_fv ad h o (am_ft ci j) j) : ((List.range (am_nf ci)).map (fun k => am_fv ad h o (am_ft ci k) k)).set k v = (List.range (am_nf ci)).map (fun k => am_fv ad h' o (am_ft ci k) k) := by
  apply List.ext_getElem?
  intro j
  rw [List.getElem?_set]
  by_cases e : k = j
  · subst e
    simp [hk, hv]
  · rw [if_neg e]
    by_cases hj : j < am_nf ci
    · simp [hj, ho j (fun q => e q.symm)]
    · have h1 : ¬ j < am_nf ci := hj
      rw [List.getElem?_eq_none (by simp; omega), List.getElem?_eq_none (by simp; omega)]
theorem am_v_rf (ad : Nat → Nat) (b : Nat) (q : Option Nat) : am_v ad b (va_rf q) = va_rf (q.map ad) := by cases q <;> rfl
theorem am_fv_0 {ad : Nat → Nat} {h : am_H} {o k : Nat} {ty : FieldType} (e : am_kd ty = 0 ∨ am_kd ty = 1) : am_fv ad h o ty k = .int (am_I h o k) := by
  unfold am_fv; rcases e with e | e <;> rw [e] <;> rfl
theorem am_fv_2 {ad : Nat → Nat} {h : am_H} {o k : Nat} {ty : FieldType} (e : am_kd ty = 2) : am_fv ad h o ty k = .long (am_J h o k) := by
  unfold am_fv; rw [e]; rfl
theorem am_fv_3 {ad : Nat → Nat} {h : am_H} {o k : Nat} {ty : FieldType} (e : am_kd ty = 3) : am_fv ad h o ty k = va_rf ((am_A h o k).map ad) := by
  unfold am_fv; rw [e]; rfl
/-- a value that its field's type takes -/
theorem am_fit_i {ty : FieldType} {x : Int32} (e : am_kd ty = 0 ∨ (am_kd ty = 1 ∧ (x = 0 ∨ x = 1))) : narrow ty (.int x) = .int x ∧ fits ty (.int x) = true := by
  cases ty <;> simp [am_kd] at e <;> first | exact ⟨rfl, rfl⟩ | (rcases e with rfl | rfl <;> exact ⟨rfl, rfl⟩)
theorem am_fit_j {ty : FieldType} {x : Int64} (e : am_kd ty = 2) : narrow ty (.long x) = .long x ∧ fits ty (.long x) = true := by
  cases ty <;> simp [am_kd] at e <;> exact ⟨rfl, rfl⟩
theorem am_fit_a {ty : FieldType} {q : Option Nat} (e : am_kd ty = 3) : narrow ty (va_rf q) = va_rf q ∧ fits ty (va_rf q) = true := by
  cases ty <;> simp [am_kd] at e <;> cases q <;> exact ⟨rfl, rfl⟩
section AMS
variable {M : am_M} {p : Program} {l : Launch} {e : Env} {R : Room} {s : State} {m : MethodId} {args : Array Value} {below : List Frame} {meth : Method} {cd : Code} {dC : Nat → ClassId} {dI : Nat → Nat → Nat} {dA : Nat → ClassId} {b : Nat} {A : Nat → Prop} {ad0 : Nat → Nat} {n0 : Nat} {Z : State → Prop} {scr : Option (Nat × (Nat → Int32))}
variable {ad : Nat → Nat} {lv : List (Nat × Value)} {st : List Value} {h : am_H} {H : Heap} {locs : List Loc} {ls : Array Slot}
theorem am_St.stk (S : am_St M s dC dI dA b A ad0 n0 ad lv st h H locs ls) {st' : List Value} (h' : am_okl h.1 st') : am_St M s dC dI dA b A ad0 n0 ad lv st' h H locs ls := ⟨S.1, h', S.2.2⟩
theorem am_St.loc (S : am_St M s dC dI dA b A ad0 n0 ad lv st h H locs ls) {st' : List Value} {lv' : List (Nat × Value)} {ls' : Array Slot} (h' : am_okl h.1 st') (h2 : am_okl h.1 (lv'.map Prod.snd)) (h3 : lv_has ls' (am_ml M) (am_cl ad b lv')) : am_St M s dC dI dA b A ad0 n0 ad lv' st' h H locs ls' := ⟨S.1, h', h2, h3⟩
theorem am_St.hp (S : am_St M s dC dI dA b A ad0 n0 ad lv st h H locs ls) {st' : List Value} {h' : am_H} {H' : Heap} {locs' : List Loc} (hn : h'.1 = h.1) (hw : am_wf h') (hs : am_okl h.1 st') (hP : va_P (dC, dI) vwCl (am_w dA ad h') H') (hD : va_D A (am_w dA ad h')) (hS : va_S A s.heap H' locs') : am_St M s dC dI dA b A ad0 n0 ad lv st' h' H' locs' ls :=
  ⟨⟨hw, by rw [hn]; exact S.1.2.1, S.1.2.2.1, hP, hD, hS⟩, by rw [hn]; exact hs, by rw [hn]; exact S.2.2.1, S.2.2.2⟩
/-- reading a field -/
theorem am_getf (hok : am_ok M) (C : am_Cx M scr p s m args meth cd dC dI dA b A) (S : am_St M s dC dI dA b A ad0 n0 ad lv st h H locs ls) {idx ci k kd o pc c sl : Nat} {r : List Value} (hf : am_fl M idx = some (ci, k, kd)) (ho : o < h.1) (hK : am_K h o = .inl ci) (hd : decode (am_by M) pc = .ok (.getfield idx, 3))
    (kk : W p l e R s m args below meth cd H locs c sl Z (F0 m (pc + 3) ls (am_fv ad h o (am_ft ci k) k :: r))) : W p l e R s m args below meth cd H locs c sl Z (F0 m pc ls (.ref (ad o) :: r)) := by
  obtain ⟨hx, hb, -, -, -, hown, -, hts, -, hKK, -, -⟩ := C
  obtain ⟨Cn, T, N, hc, hk, -, hlk⟩ := hok.2.1 idx ci k kd hf
  obtain ⟨⟨hin, -, -⟩, -, -, hnf⟩ := am_cls hc
  have hg := am_w_get dA ad h ho
  rw [am_e_obj hK] at hg
  exact va_get hx hb hts hin hown hKK S.1.2.2.2.1 o hg hc k hk (hts _ hlk) (fun _ q => q) (am_fv_get (dA := dA) (by rw [hnf]; exact hk)) hd kk
/-- writing a field -/
theorem am_putf (hok : am_ok M) (C : am_Cx M scr p s m args meth cd dC dI dA b A) (S : am_St M s dC dI dA b A ad0 n0 ad lv st h H locs ls) {idx ci k kd o pc c sl t : Nat} {r : List Value} {v : Value} {h' : am_H} (hi : am_cd M pc = some (.putfield idx, t)) (hf : am_fl M idx = some (ci, k, kd)) (ho : o < h.1) (hK : am_K h o = .inl ci) (hd : decode (am_by M) pc = .ok (.putfield idx, 3))
    (hn : h'.1 = h.1) (hK' : am_K h' = am_K h) (hq : ∀ j, j ≠ o → am_I h' j = am_I h j ∧ am_J h' j = am_J h j ∧ am_A h' j = am_A h j) (hv : am_fv ad h' o (am_ft ci k) k = v) (hov : ∀ j, j ≠ k → am_fv ad h' o (am_ft ci j) j = am_fv ad h o (am_ft ci j) j) (hfit : narrow (am_ft ci k) v = v ∧ fits (am_ft ci k) v = true)
    (kk : ∀ (H' : Heap) (locs' : List Loc), va_P (dC, dI) vwCl (am_w dA ad h') H' → va_D A (am_w dA ad h') → va_S A s.heap H' locs' → W p l e R s m args below meth cd H' locs' c sl Z (F0 m (pc + 3) ls r)) : W p l e R s m args below meth cd H locs c sl Z (F0 m pc ls (v :: .ref (ad o) :: r)) := by
  obtain ⟨hx, hb, -, -, -, hown, hnm, hts, -, hKK, -, -⟩ := C
  obtain ⟨Cn, T, N, hc, hk, -, hlk⟩ := hok.2.1 idx ci k kd hf
  obtain ⟨Cn', T', N', hc', hpf⟩ := hok.2.2.1 pc idx t ci k kd hi hf
  obtain ⟨rfl, rfl, rfl⟩ : Cn = Cn' ∧ T = T' ∧ N = N' := by
    have := Option.some.inj (hc.symm.trans hc')
    simpa using this
  obtain ⟨⟨hin, -, -⟩, hty, hnames, hnf⟩ := am_cls hc
  have hg := am_w_get dA ad h ho
  rw [am_e_obj hK] at hg
  have hset : am_w dA ad h' = (am_w dA ad h).set o (ad o, .inr (ci, ((List.range (am_nf ci)).map (fun k => am_fv ad h o (am_ft ci k) k)).set k v)) := by
    rw [am_w_set (i := o) hn (fun j _ hne => am_e_same (by rw [hK']) (hq j hne).1 (hq j hne).2.1 (hq j hne).2.2), am_e_obj (ci := ci) (by rw [hK']; exact hK), am_fs_set (h' := h') (by rw [hnf]; exact hk) hv hov]
  have hlen : k < ((List.range (am_nf ci)).map (fun k => am_fv ad h o (am_ft ci k) k)).length := by simp [hnf, hk]
  rcases hpf with hpf | ⟨hpf, hini, hcl⟩
  · refine va_put hx hb hts hin (am_ft ci) hty hnames hown hKK S.1.2.2.2.1 S.1.2.2.2.2.1 S.1.2.2.2.2.2 o hg hc k hk (hts _ hlk) (fun _ q => q) hpf (hty k hk) hfit.1 hfit.2 hlen hd (fun H1 locs1 hP1 hD1 hS1 => ?_)
    rw [← hset] at hP1 hD1
    exact kk H1 locs1 hP1 hD1 hS1
  · refine va_putF hx hb hts hin (am_ft ci) hty hnames hown hKK S.1.2.2.2.1 S.1.2.2.2.2.1 S.1.2.2.2.2.2 o hg hc k hk (hts _ hlk) (fun _ q => q) hpf (hnm.trans hini) hcl (hty k hk) hfit.1 hfit.2 hlen hd (fun H1 locs1 hP1 hD1 hS1 => ?_)
    rw [← hset] at hP1 hD1
    exact kk H1 locs1 hP1 hD1 hS1
theorem am_I_sI {h : am_H} {o k : Nat} {x : Int32} : (∀ j, j ≠ o → am_I (am_sI h o k x) j = am_I h j) ∧ am_I (am_sI h o k x) o = upd (am_I h o) k x :=
  ⟨fun j hj => by simp [am_sI, am_I, va_up, hj], by simp [am_sI, am_I, va_up]⟩
theorem am_J_sJ {h : am_H} {o k : Nat} {x : Int64} : (∀ j, j ≠ o → am_J (am_sJ h o k x) j = am_J h j) ∧ am_J (am_sJ h o k x) o = vp_updL (am_J h o) k x :=
  ⟨fun j hj => by simp [am_sJ, am_J, va_up, hj], by simp [am_sJ, am_J, va_up]⟩
theorem am_A_sA {h : am_H} {o k : Nat} {x : Option Nat} : (∀ j, j ≠ o → am_A (am_sA h o k x) j = am_A h j) ∧ am_A (am_sA h o k x) o = va_up (am_A h o) k x :=
  ⟨fun j hj => by simp [am_sA, am_A, va_up, hj], by simp [am_sA, am_A, va_up]⟩
theorem am_fv_sI {h : am_H} {o k j : Nat} {x : Int32} {ty : FieldType} (hj : j ≠ k) : am_fv ad (am_sI h o k x) o ty j = am_fv ad h o ty j := by
  unfold am_fv
  simp only [am_I_sI.2, upd, if_neg hj]
  rfl
theorem am_fv_sJ {h : am_H} {o k j : Nat} {x : Int64} {ty : FieldType} (hj : j ≠ k) : am_fv ad (am_sJ h o k x) o ty j = am_fv ad h o ty j := by
  unfold am_fv
  simp only [am_J_sJ.2, vp_updL, if_neg hj]
  rfl
theorem am_fv_sA {h : am_H} {o k j : Nat} {x : Option Nat} {ty : FieldType} (hj : j ≠ k) : am_fv ad (am_sA h o k x) o ty j = am_fv ad h o ty j := by
  unfold am_fv
  simp only [am_A_sA.2, va_up, if_neg hj]
  rfl
/-- the world behind a written row -/
theorem am_w_arr {h h' : am_H} {o t n : Nat} (hK : am_K h o = .inr (t, n)) (hn : h'.1 = h.1) (hK' : am_K h' = am_K h) (hq : ∀ j, j ≠ o → am_I h' j = am_I h j ∧ am_J h' j = am_J h j ∧ am_A h' j = am_A h j) : am_w dA ad h' = (am_w dA ad h).set o (ad o, .inl (dA t, n, am_row ad h' o t)) := by
  rw [am_w_set (i := o) hn (fun j _ hne => am_e_same (by rw [hK']) (hq j hne).1 (hq j hne).2.1 (hq j hne).2.2), am_e_arr (t := t) (n := n) (by rw [hK']; exact hK)]
end AMS
