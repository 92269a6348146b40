/-! ===== the bound: of a text's book ===== -/
theorem bt_i1 (q : Nat) (hq : 1 ≤ q) : bt (Int32.ofInt 1) q = false := by
  by_cases h : q < 32
  · have := bt_1 q h
    show (1#32).getLsbD q = false
    rw [this]; exact decide_eq_false (by omega)
  · exact bt_hi _ (by omega)
theorem gFin_bt (s : GS) {y q : Nat} (hy : 1 ≤ y) (hq : 1 ≤ q) : bt ((gFin s).fol y) q = true ↔ bt (s.fol y) q = true := by
  show bt (gJoinF s.n (upd s.fol 0 _) ((gEnd s).aL 0) (Int32.ofInt 1) y) q = true ↔ _
  rw [gJoinF_bt, upd_ne (by omega), bt_i1 q hq]
  simp
theorem bk_ok {sort o : Int32} {r : Nat → Int32} {m : Nat} (hm : m ≤ 60) (hv : vl sort r m 0 0 0) : ∃ lb B σ, bOk (gRun sort o r m m 0 g00).n (fun y q => bt ((gFin (gRun sort o r m m 0 g00)).fol y) q = true) lb B σ := by
  obtain ⟨lb, cp, B, σ, ⟨⟨h1, h2, h3, h4, h5, h6, h7, h8, h9⟩, ⟨-, s2, s3⟩, hz⟩, hc⟩ := pg_text (o := o) hm hv
  generalize gRun sort o r m m 0 g00 = s at *
  have e : ∀ y q, 1 ≤ y → y ≤ s.n → 1 ≤ q → bt ((gFin s).fol y) q = true → gP s y q := fun y q a b c h => ⟨a, b, (gFin_bt s a c).mp h⟩
  refine ⟨lb, B, σ, hc, ?_, ?_, ?_, ?_, ?_⟩
  · intro q q1 qn hl y y' y1 yn y1' yn' hf hf'
    exact (h4 q q1 qn hl).1 y y' (e y q y1 yn q1 hf) (e y' q y1' yn' q1 hf')
  · intro q q' q1 qn q1' qn' l1 lB el y y1 yn hf
    exact (gFin_bt s y1 q1').mpr ((h5 q q' q1 qn q1' qn' l1 lB el).1 y (e y q y1 yn q1 hf)).2.2
  · intro q q1 qn hB y y1 yn hf
    obtain ⟨i, _, _, hp, _⟩ := h6 q q1 qn hB
    exact hp y (e y q y1 yn q1 hf)
  · intro hσ y q y1 yn q1 qn hf
    exact s2 hσ y q (e y q y1 yn q1 hf)
  · intro hσ
    obtain ⟨l, f, a, b⟩ := s3 hσ
    exact ⟨l, f, fun y q y1 yn q1 qn hf => a y q (e y q y1 yn q1 hf), fun y q y1 yn q1 qn hl hf => (gFin_bt s y1 q1).mpr (b y q hl hf).2.2⟩
