/-! ===== Math.max, Math.min ===== -/
theorem am_mxw : Cond.static Lib.Math.max.name ∈ am_Ts ∧ Cond.initialized "java/lang/Math" ∈ am_Ts ∧ Cond.code Lib.Math.max.name Lib.Math.max.code 2 (some .int) ∈ am_Ts := ⟨am_in (by decide +kernel) rfl, am_in (by decide +kernel) rfl, am_in (by decide +kernel) rfl⟩
theorem am_mnw : Cond.static Lib.Math.min.name ∈ am_Ts ∧ Cond.initialized "java/lang/Math" ∈ am_Ts ∧ Cond.code Lib.Math.min.name Lib.Math.min.code 2 (some .int) ∈ am_Ts := ⟨am_in (by decide +kernel) rfl, am_in (by decide +kernel) rfl, am_in (by decide +kernel) rfl⟩
section AMX
variable {M : am_M} {R : Room} {Q : Option Value → am_H → Prop} {lv : List (Nat × Value)} {st : List Value} {h : am_H} {c sl pc : Nat}
theorem AW_max {idx : Nat} {x y : Int32} (hd : decode (am_by M) pc = .ok (.invokestatic idx, 3)) (hlk : am_LS (am_y M).cls idx mJ9_max_7cf53) (hfr : 1 ≤ R.frames) (hlo : (st.map fun v => v.category).sum + 13 ≤ R.locals) (hc : c ≤ R.cells ∧ sl ≤ R.slots)
    (k : AW M R Q (pc + 3) lv (.int (if x < y then y else x) :: st) h c sl) : AW M R Q pc lv (.int y :: .int x :: st) h c sl := by
  intro l p e s m args below meth cd dC dI dA b A ad0 n0 C ad H locs ls S
  have C' := C
  obtain ⟨hx, hb, -, -, hml, hown, -, hts, -, -, -, -⟩ := C
  exact va_mmax hx hb (hml.trans S.2.2.2.1.symm) hown (hts _ hlk.1) (hts _ am_mxw.1) (hts _ am_mxw.2.1) (hts _ am_mxw.2.2) hfr (by rw [am_sum]; exact hlo) hc.1 hc.2 hd (k l p e s m args below meth cd dC dI dA b A ad0 n0 C' ad H locs ls (S.stk (am_okl_i (am_okl_t (am_okl_t S.2.1)))))
theorem AW_min {idx : Nat} {x y : Int32} (hd : decode (am_by M) pc = .ok (.invokestatic idx, 3)) (hlk : am_LS (am_y M).cls idx mJ9_min_7cf53) (hfr : 1 ≤ R.frames) (hlo : (st.map fun v => v.category).sum + 13 ≤ R.locals) (hc : c ≤ R.cells ∧ sl ≤ R.slots)
    (k : AW M R Q (pc + 3) lv (.int (if y < x then y else x) :: st) h c sl) : AW M R Q pc lv (.int y :: .int x :: st) h c sl := by
  intro l p e s m args below meth cd dC dI dA b A ad0 n0 C ad H locs ls S
  have C' := C
  obtain ⟨hx, hb, -, -, hml, hown, -, hts, -, -, -, -⟩ := C
  exact va_mmin hx hb (hml.trans S.2.2.2.1.symm) hown (hts _ hlk.1) (hts _ am_mnw.1) (hts _ am_mnw.2.1) (hts _ am_mnw.2.2) hfr (by rw [am_sum]; exact hlo) hc.1 hc.2 hd (k l p e s m args below meth cd dC dI dA b A ad0 n0 C' ad H locs ls (S.stk (am_okl_i (am_okl_t (am_okl_t S.2.1)))))
end AMX
