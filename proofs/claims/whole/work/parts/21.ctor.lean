/-! ===== the two large constructors (by program) ===== -/
theorem am_Knew (h : am_H) (kd : Nat ⊕ (Nat × Nat)) (f : Nat → Int32) : am_K (am_new h kd f) h.1 = kd ∧ h.1 < (am_new h kd f).1 := ⟨by simp [am_new, am_K, va_up], Nat.lt_succ_self _⟩
theorem am_Asn {h : am_H} {o k : Nat} {x : Option Nat} (k' : Nat) (q : Option Nat) (hA : am_A h o k = x) (hne : k ≠ k') : am_A (am_sA h o k' q) o k = x := by
  rw [← hA]; simp [am_sA, am_A, va_up, hne]
theorem am_Ass (h : am_H) (o k : Nat) (q : Option Nat) : am_A (am_sA h o k q) o k = q := by simp [am_sA, am_A, va_up]
/-- what is said of a heap with one cell more -/
def am_nw (h : am_H) (n : Nat) (kd : Nat ⊕ (Nat × Nat)) (h' : am_H) : Prop := h'.1 = n + 1 ∧ am_K h' n = kd ∧ (∀ o, o < n → am_K h' o = am_K h o) ∧ (∀ o, o < n → am_A h' o = am_A h o) ∧ h' = am_new h kd (fun _ => 0)
theorem am_nw_mk {h : am_H} {n : Nat} (hn : h.1 = n) (kd : Nat ⊕ (Nat × Nat)) : am_nw h n kd (am_new h kd (fun _ => 0)) := by
  subst hn
  refine ⟨rfl, (am_Knew h kd _).1, fun o ho => ?_, fun o ho => ?_, rfl⟩ <;> simp [am_new, am_K, am_A, va_up, Nat.ne_of_lt ho]
section AWN
variable {M : am_M} {R : Room} {Q : Option Value → am_H → Prop} {lv : List (Nat × Value)} {st : List Value} {h : am_H} {c sl pc n : Nat}
theorem AW_newN {idx ci N : Nat} {Cn : String} {T : u_T} (hd : decode (am_by M) pc = .ok (.new idx, 3)) (hc : vwCl[ci]? = some (Cn, T, N)) (hlk : Cond.classLink (am_y M).cls idx Cn ∈ am_Ts) (hcells : c + 1 ≤ R.cells) (hslots : sl + N ≤ R.slots) (hn : h.1 = n)
    (k : ∀ h', am_nw h n (.inl ci) h' → AW M R Q (pc + 3) lv (.ref n :: st) h' (c + 1) (sl + N)) : AW M R Q pc lv st h c sl := by
  refine AW_new hd hc hlk hcells hslots ?_
  have g := k _ (am_nw_mk hn (.inl ci))
  rw [← hn] at g
  exact g
theorem AW_newaN {at' : ArrayType} {t m : Nat} {x : Int32} (hd : decode (am_by M) pc = .ok (.newarray at', 2)) (hat : am_nt at' = t) (ht : t < 4) (hx : decide (x < 0) = false) (hm : x.toNatClampNeg = m) (hbig : m ≤ 1000000) (hcells : c + 1 ≤ R.cells) (hslots : sl + m ≤ R.slots) (hn : h.1 = n)
    (k : ∀ h', am_nw h n (.inr (t, m)) h' → AW M R Q (pc + 2) lv (.ref n :: st) h' (c + 1) (sl + m)) : AW M R Q pc lv (.int x :: st) h c sl := by
  subst hm
  refine AW_newa hd hat ht (of_decide_eq_false hx) hbig hcells hslots ?_
  have g := k _ (am_nw_mk hn (.inr (t, x.toNatClampNeg)))
  rw [← hn] at g
  exact g
theorem AW_newqN {idx t m : Nat} {x : Int32} (hd : decode (am_by M) pc = .ok (.anewarray idx, 3)) (ht : t = 4 ∨ t = 5) (hlk : Cond.classLink (am_y M).cls idx (if t = 4 then RX0 else RX4) ∈ am_Ts) (hx : decide (x < 0) = false) (hm : x.toNatClampNeg = m) (hbig : m ≤ 1000000) (hcells : c + 1 ≤ R.cells) (hslots : sl + m ≤ R.slots) (hn : h.1 = n)
    (k : ∀ h', am_nw h n (.inr (t, m)) h' → AW M R Q (pc + 3) lv (.ref n :: st) h' (c + 1) (sl + m)) : AW M R Q pc lv (.int x :: st) h c sl := by
  subst hm
  refine AW_newq hd ht hlk (of_decide_eq_false hx) hbig hcells hslots ?_
  have g := k _ (am_nw_mk hn (.inr (t, x.toNatClampNeg)))
  rw [← hn] at g
  exact g
end AWN
theorem i_Page_n (q : Nat) (h : am_H) : (i_Page q h).1 = h.1 + 1 := rfl
theorem i_Page_K {h : am_H} {o : Nat} {x : Nat ⊕ (Nat × Nat)} (q : Nat) (hK : am_K h o = x) (ho : o < h.1) : am_K (i_Page q h) o = x ∧ o < (i_Page q h).1 := by
  obtain ⟨hK, ho⟩ := am_Kn (kd := .inr (0, 60)) (f := fun _ => (0 : Int32)) hK ho
  exact ⟨hK, ho⟩
theorem i_Reader_n (q : Nat) (h : am_H) : (i_Reader q h).1 = h.1 + 8 := rfl
theorem i_Reader_K {h : am_H} {o : Nat} {x : Nat ⊕ (Nat × Nat)} (q : Nat) (hK : am_K h o = x) (ho : o < h.1) : am_K (i_Reader q h) o = x ∧ o < (i_Reader q h).1 := by
  obtain ⟨hK, ho⟩ := am_Kn (kd := .inr (0, 16)) (f := fun _ => (0 : Int32)) hK ho
  obtain ⟨hK, ho⟩ := am_Kn (kd := .inr (0, 16)) (f := fun _ => (0 : Int32)) hK ho
  obtain ⟨hK, ho⟩ := am_Kn (kd := .inr (0, 61)) (f := fun _ => (0 : Int32)) hK ho
  obtain ⟨hK, ho⟩ := am_Kn (kd := .inr (0, 61)) (f := fun _ => (0 : Int32)) hK ho
  obtain ⟨hK, ho⟩ := am_Kn (kd := .inr (2, 61)) (f := fun _ => (0 : Int32)) hK ho
  obtain ⟨hK, ho⟩ := am_Kn (kd := .inr (0, 61)) (f := fun _ => (0 : Int32)) hK ho
  obtain ⟨hK, ho⟩ := am_Kn (kd := .inr (0, 61)) (f := fun _ => (0 : Int32)) hK ho
  obtain ⟨hK, ho⟩ := am_Kn (kd := .inr (2, 61)) (f := fun _ => (0 : Int32)) hK ho
  exact ⟨hK, ho⟩
theorem i_Folder_n (q : Nat) (h : am_H) : (i_Folder q h).1 = h.1 + 6 := rfl
theorem i_Folder_K {h : am_H} {o : Nat} {x : Nat ⊕ (Nat × Nat)} (q : Nat) (hK : am_K h o = x) (ho : o < h.1) : am_K (i_Folder q h) o = x ∧ o < (i_Folder q h).1 := by
  obtain ⟨hK, ho⟩ := am_Kn (kd := .inr (0, 64)) (f := fun _ => (0 : Int32)) hK ho
  obtain ⟨hK, ho⟩ := am_Kn (kd := .inr (0, 1536)) (f := fun _ => (0 : Int32)) hK ho
  obtain ⟨hK, ho⟩ := am_Kn (kd := .inr (0, 64)) (f := fun _ => (0 : Int32)) hK ho
  obtain ⟨hK, ho⟩ := am_Kn (kd := .inr (0, 64)) (f := fun _ => (0 : Int32)) hK ho
  obtain ⟨hK, ho⟩ := am_Kn (kd := .inr (0, 64)) (f := fun _ => (0 : Int32)) hK ho
  obtain ⟨hK, ho⟩ := am_Kn (kd := .inr (0, 24)) (f := fun _ => (0 : Int32)) hK ho
  exact ⟨hK, ho⟩
theorem i_Contest_n (q : Nat) (h : am_H) : (i_Contest q h).1 = h.1 + 5 := rfl
theorem i_Contest_K {h : am_H} {o : Nat} {x : Nat ⊕ (Nat × Nat)} (q : Nat) (hK : am_K h o = x) (ho : o < h.1) : am_K (i_Contest q h) o = x ∧ o < (i_Contest q h).1 := by
  obtain ⟨hK, ho⟩ := am_Kn (kd := .inr (0, 64)) (f := fun _ => (0 : Int32)) hK ho
  obtain ⟨hK, ho⟩ := am_Kn (kd := .inr (0, 64)) (f := fun _ => (0 : Int32)) hK ho
  obtain ⟨hK, ho⟩ := am_Kn (kd := .inr (0, 64)) (f := fun _ => (0 : Int32)) hK ho
  obtain ⟨hK, ho⟩ := am_Kn (kd := .inr (0, 64)) (f := fun _ => (0 : Int32)) hK ho
  obtain ⟨hK, ho⟩ := am_Kn (kd := .inr (0, 64)) (f := fun _ => (0 : Int32)) hK ho
  exact ⟨hK, ho⟩
theorem i_Talk_n (q : Nat) (h : am_H) : (i_Talk q h).1 = h.1 + 8 := rfl
theorem i_Talk_K {h : am_H} {o : Nat} {x : Nat ⊕ (Nat × Nat)} (q : Nat) (hK : am_K h o = x) (ho : o < h.1) : am_K (i_Talk q h) o = x ∧ o < (i_Talk q h).1 := by
  obtain ⟨hK, ho⟩ := am_Kn (kd := .inr (0, 6)) (f := fun _ => (0 : Int32)) hK ho
  obtain ⟨hK, ho⟩ := am_Kn (kd := .inr (0, 48)) (f := fun _ => (0 : Int32)) hK ho
  obtain ⟨hK, ho⟩ := am_Kn (kd := .inr (0, 90)) (f := fun _ => (0 : Int32)) hK ho
  obtain ⟨hK, ho⟩ := am_Kn (kd := .inr (3, 90)) (f := fun _ => (0 : Int32)) hK ho
  obtain ⟨hK, ho⟩ := am_Kn (kd := .inr (2, 3)) (f := fun _ => (0 : Int32)) hK ho
  obtain ⟨hK, ho⟩ := am_Kn (kd := .inr (0, 48)) (f := fun _ => (0 : Int32)) hK ho
  obtain ⟨hK, ho⟩ := am_Kn (kd := .inr (0, 48)) (f := fun _ => (0 : Int32)) hK ho
  obtain ⟨hK, ho⟩ := am_Kn (kd := .inr (0, 3)) (f := fun _ => (0 : Int32)) hK ho
  exact ⟨hK, ho⟩
theorem i_Survey_n (q : Nat) (h : am_H) : (i_Survey q h).1 = h.1 + 11 := rfl
theorem i_Survey_K {h : am_H} {o : Nat} {x : Nat ⊕ (Nat × Nat)} (q : Nat) (hK : am_K h o = x) (ho : o < h.1) : am_K (i_Survey q h) o = x ∧ o < (i_Survey q h).1 := by
  obtain ⟨hK, ho⟩ := am_Kn (kd := .inr (0, 5)) (f := fun _ => (0 : Int32)) hK ho
  obtain ⟨hK, ho⟩ := am_Kn (kd := .inr (0, 5)) (f := fun _ => (0 : Int32)) hK ho
  obtain ⟨hK, ho⟩ := am_Kn (kd := .inr (3, 2000)) (f := fun _ => (0 : Int32)) hK ho
  obtain ⟨hK, ho⟩ := am_Kn (kd := .inr (0, 2000)) (f := fun _ => (0 : Int32)) hK ho
  obtain ⟨hK, ho⟩ := am_Kn (kd := .inr (0, 2000)) (f := fun _ => (0 : Int32)) hK ho
  obtain ⟨hK, ho⟩ := am_Kn (kd := .inr (0, 2000)) (f := fun _ => (0 : Int32)) hK ho
  obtain ⟨hK, ho⟩ := am_Kn (kd := .inr (0, 4096)) (f := fun _ => (0 : Int32)) hK ho
  obtain ⟨hK, ho⟩ := am_Kn (kd := .inr (0, 2000)) (f := fun _ => (0 : Int32)) hK ho
  obtain ⟨hK, ho⟩ := am_Kn (kd := .inr (0, 2000)) (f := fun _ => (0 : Int32)) hK ho
  obtain ⟨hK, ho⟩ := am_Kn (kd := .inr (0, 4096)) (f := fun _ => (0 : Int32)) hK ho
  obtain ⟨hK, ho⟩ := am_Kn (kd := .inr (0, 4096)) (f := fun _ => (0 : Int32)) hK ho
  exact ⟨hK, ho⟩
def i_LT (h : am_H) : am_H := am_sA (am_new (am_sA (am_sI (am_sI (am_sI (am_new (am_sA (i_Survey 37 (am_new (am_sA (i_Talk 28 (am_new (am_sA (am_sI (am_sI (am_sI (am_new (am_sA (am_new (am_sA (am_new (am_sA (i_Contest 19 (am_new (am_sA (i_Folder 12 (am_new (am_sA (i_Reader 3 (am_new (am_sA (i_Page 1 (am_new h (.inl 4) (fun _ => 0))) 0 0 (some 1)) (.inl 5) (fun _ => 0))) 0 1 (some 3)) (.inl 2) (fun _ => 0))) 0 2 (some 12)) (.inl 1) (fun _ => 0))) 0 3 (some 19)) (.inr (4, 8)) (fun _ => 0)) 0 4 (some 25)) (.inr (5, 3)) (fun _ => 0)) 0 6 (some 26)) (.inr (0, 3)) (fun _ => 0)) 27 0 (-1)) 27 1 (-1)) 27 2 (-1)) 0 8 (some 27)) (.inl 7) (fun _ => 0))) 0 9 (some 28)) (.inl 6) (fun _ => 0))) 0 12 (some 37)) (.inr (0, 3)) (fun _ => 0)) 49 0 (-1)) 49 1 (-1)) 49 2 (-1)) 0 15 (some 49)) (.inr (0, 3)) (fun _ => 0)) 0 16 (some 50)
set_option maxRecDepth 100000 in
set_option maxHeartbeats 4000000 in
theorem c_LT_init (h : am_H) (hn : h.1 = 1) (hK : am_K h 0 = .inl 8) : AMet mX8_init (rX8_init 50 27305) (fun r h' => r = none ∧ h' = i_LT h) [.ref 0] h := by
  refine AW_go okX8_init 1 ?_
  refine AW_obj (okX8_init.1 1 _ _ rfl) kX8_1 (by decide) (by decide) ?_
  refine AW_go okX8_init 1 ?_
  refine AW_newN (n := 1) (okX8_init.1 5 _ _ rfl) (ci := 4) rfl qX8_7 (Nat.le_of_ble_eq_true rfl) (Nat.le_of_ble_eq_true rfl) hn (fun h1 w1 => ?_)
  obtain ⟨hn, hKq, hKo, hAo, e1⟩ := w1
  have hK : am_K h1 0 = .inl 8 := (hKo 0 (by decide)).trans hK
  refine AW_go okX8_init 1 ?_
  refine AW_callI (As := []) (R' := rX4_init 1 60) (okX8_init.1 9 _ _ rfl) lkX4_init (Or.inr ⟨_, kX8_9⟩) rfl (Nat.le_of_ble_eq_true rfl) ⟨by decide, by decide⟩ ⟨(Nat.le_of_ble_eq_true rfl), (Nat.le_of_ble_eq_true rfl)⟩ (Nat.le_of_ble_eq_true rfl) (c_Page_init _ 1 hKq (by rw [hn]; decide)) (fun r h2 w2 => ?_)
  obtain ⟨rfl, e2⟩ := w2
  have hK : am_K h2 0 = .inl 8 := by rw [e2]; exact (i_Page_K 1 hK (by rw [hn]; decide)).1
  have hn : h2.1 = 3 := by rw [e2, i_Page_n, hn]
  refine AW_go okX8_init 2 ?_
  refine And.intro hK ?_
  refine AW_newN (n := 3) (okX8_init.1 16 _ _ rfl) (ci := 5) rfl qX8_16 (Nat.le_of_ble_eq_true rfl) (Nat.le_of_ble_eq_true rfl) hn (fun h3 w3 => ?_)
  obtain ⟨hn, hKq, hKo, hAo, e3⟩ := w3
  have hK : am_K h3 0 = .inl 8 := (hKo 0 (by decide)).trans hK
  refine AW_go okX8_init 1 ?_
  refine AW_callI (As := []) (R' := rX5_init 8 398) (okX8_init.1 20 _ _ rfl) lkX5_init (Or.inr ⟨_, kX8_18⟩) rfl (Nat.le_of_ble_eq_true rfl) ⟨by decide, by decide⟩ ⟨(Nat.le_of_ble_eq_true rfl), (Nat.le_of_ble_eq_true rfl)⟩ (Nat.le_of_ble_eq_true rfl) (c_Reader_init _ 3 hKq (by rw [hn]; decide)) (fun r h4 w4 => ?_)
  obtain ⟨rfl, e4⟩ := w4
  have hK : am_K h4 0 = .inl 8 := by rw [e4]; exact (i_Reader_K 3 hK (by rw [hn]; decide)).1
  have hn : h4.1 = 12 := by rw [e4, i_Reader_n, hn]
  refine AW_go okX8_init 2 ?_
  refine And.intro hK ?_
  refine AW_newN (n := 12) (okX8_init.1 27 _ _ rfl) (ci := 2) rfl qX8_23 (Nat.le_of_ble_eq_true rfl) (Nat.le_of_ble_eq_true rfl) hn (fun h5 w5 => ?_)
  obtain ⟨hn, hKq, hKo, hAo, e5⟩ := w5
  have hK : am_K h5 0 = .inl 8 := (hKo 0 (by decide)).trans hK
  refine AW_go okX8_init 1 ?_
  refine AW_callI (As := []) (R' := rX2_init 6 1816) (okX8_init.1 31 _ _ rfl) lkX2_init (Or.inr ⟨_, kX8_25⟩) rfl (Nat.le_of_ble_eq_true rfl) ⟨by decide, by decide⟩ ⟨(Nat.le_of_ble_eq_true rfl), (Nat.le_of_ble_eq_true rfl)⟩ (Nat.le_of_ble_eq_true rfl) (c_Folder_init _ 12 hKq (by rw [hn]; decide)) (fun r h6 w6 => ?_)
  obtain ⟨rfl, e6⟩ := w6
  have hK : am_K h6 0 = .inl 8 := by rw [e6]; exact (i_Folder_K 12 hK (by rw [hn]; decide)).1
  have hn : h6.1 = 19 := by rw [e6, i_Folder_n, hn]
  refine AW_go okX8_init 2 ?_
  refine And.intro hK ?_
  refine AW_newN (n := 19) (okX8_init.1 38 _ _ rfl) (ci := 1) rfl qX8_30 (Nat.le_of_ble_eq_true rfl) (Nat.le_of_ble_eq_true rfl) hn (fun h7 w7 => ?_)
  obtain ⟨hn, hKq, hKo, hAo, e7⟩ := w7
  have hK : am_K h7 0 = .inl 8 := (hKo 0 (by decide)).trans hK
  refine AW_go okX8_init 1 ?_
  refine AW_callI (As := []) (R' := rX1_init 5 320) (okX8_init.1 42 _ _ rfl) lkX1_init (Or.inr ⟨_, kX8_32⟩) rfl (Nat.le_of_ble_eq_true rfl) ⟨by decide, by decide⟩ ⟨(Nat.le_of_ble_eq_true rfl), (Nat.le_of_ble_eq_true rfl)⟩ (Nat.le_of_ble_eq_true rfl) (c_Contest_init _ 19 hKq (by rw [hn]; decide)) (fun r h8 w8 => ?_)
  obtain ⟨rfl, e8⟩ := w8
  have hK : am_K h8 0 = .inl 8 := by rw [e8]; exact (i_Contest_K 19 hK (by rw [hn]; decide)).1
  have hn : h8.1 = 25 := by rw [e8, i_Contest_n, hn]
  refine AW_go okX8_init 3 ?_
  refine And.intro hK ?_
  refine AW_newqN (n := 25) (m := 8) (okX8_init.1 51 _ _ rfl) (t := 4) (by decide) qX8_37 rfl rfl (Nat.le_of_ble_eq_true rfl) (Nat.le_of_ble_eq_true rfl) (Nat.le_of_ble_eq_true rfl) hn (fun h9 w9 => ?_)
  obtain ⟨hn, hKq, hKo, hAo, e9⟩ := w9
  have hK : am_K h9 0 = .inl 8 := (hKo 0 (by decide)).trans hK
  refine AW_go okX8_init 3 ?_
  refine And.intro hK ?_
  refine AW_newqN (n := 26) (m := 3) (okX8_init.1 59 _ _ rfl) (t := 5) (by decide) qX8_7 rfl rfl (Nat.le_of_ble_eq_true rfl) (Nat.le_of_ble_eq_true rfl) (Nat.le_of_ble_eq_true rfl) hn (fun h10 w10 => ?_)
  obtain ⟨hn, hKq, hKo, hAo, e10⟩ := w10
  have hK : am_K h10 0 = .inl 8 := (hKo 0 (by decide)).trans hK
  refine AW_go okX8_init 3 ?_
  refine And.intro hK ?_
  refine AW_newaN (n := 27) (m := 3) (okX8_init.1 67 _ _ rfl) rfl (by decide) rfl rfl (Nat.le_of_ble_eq_true rfl) (Nat.le_of_ble_eq_true rfl) (Nat.le_of_ble_eq_true rfl) hn (fun h11 w11 => ?_)
  obtain ⟨hn, hKq, hKo, hAo, e11⟩ := w11
  have hK : am_K h11 0 = .inl 8 := (hKo 0 (by decide)).trans hK
  refine AW_go okX8_init 14 ?_
  refine Exists.intro 3 (And.intro hKq (And.intro (by unfold vp_in; decide) ?_))
  refine Exists.intro 3 (And.intro hKq (And.intro (by unfold vp_in; decide) ?_))
  refine Exists.intro 3 (And.intro hKq (And.intro (by unfold vp_in; decide) ?_))
  refine And.intro hK ?_
  refine AW_newN (n := 28) (okX8_init.1 85 _ _ rfl) (ci := 7) rfl qX8_51 (Nat.le_of_ble_eq_true rfl) (Nat.le_of_ble_eq_true rfl) hn (fun h12 w12 => ?_)
  obtain ⟨hn, hKq, hKo, hAo, e12⟩ := w12
  have hK : am_K h12 0 = .inl 8 := (hKo 0 (by decide)).trans hK
  refine AW_go okX8_init 1 ?_
  refine AW_callI (As := []) (R' := rX7_init 8 336) (okX8_init.1 89 _ _ rfl) lkX7_init (Or.inr ⟨_, kX8_53⟩) rfl (Nat.le_of_ble_eq_true rfl) ⟨by decide, by decide⟩ ⟨(Nat.le_of_ble_eq_true rfl), (Nat.le_of_ble_eq_true rfl)⟩ (Nat.le_of_ble_eq_true rfl) (c_Talk_init _ 28 hKq (by rw [hn]; decide)) (fun r h13 w13 => ?_)
  obtain ⟨rfl, e13⟩ := w13
  have hK : am_K h13 0 = .inl 8 := by rw [e13]; exact (i_Talk_K 28 hK (by rw [hn]; decide)).1
  have hn : h13.1 = 37 := by rw [e13, i_Talk_n, hn]
  refine AW_go okX8_init 2 ?_
  refine And.intro hK ?_
  refine AW_newN (n := 37) (okX8_init.1 96 _ _ rfl) (ci := 6) rfl qX8_58 (Nat.le_of_ble_eq_true rfl) (Nat.le_of_ble_eq_true rfl) hn (fun h14 w14 => ?_)
  obtain ⟨hn, hKq, hKo, hAo, e14⟩ := w14
  have hK : am_K h14 0 = .inl 8 := (hKo 0 (by decide)).trans hK
  refine AW_go okX8_init 1 ?_
  refine AW_callI (As := []) (R' := rX6_init 11 24298) (okX8_init.1 100 _ _ rfl) lkX6_init (Or.inr ⟨_, kX8_60⟩) rfl (Nat.le_of_ble_eq_true rfl) ⟨by decide, by decide⟩ ⟨(Nat.le_of_ble_eq_true rfl), (Nat.le_of_ble_eq_true rfl)⟩ (Nat.le_of_ble_eq_true rfl) (c_Survey_init _ 37 hKq (by rw [hn]; decide)) (fun r h15 w15 => ?_)
  obtain ⟨rfl, e15⟩ := w15
  have hK : am_K h15 0 = .inl 8 := by rw [e15]; exact (i_Survey_K 37 hK (by rw [hn]; decide)).1
  have hn : h15.1 = 49 := by rw [e15, i_Survey_n, hn]
  refine AW_go okX8_init 3 ?_
  refine And.intro hK ?_
  refine AW_newaN (n := 49) (m := 3) (okX8_init.1 108 _ _ rfl) rfl (by decide) rfl rfl (Nat.le_of_ble_eq_true rfl) (Nat.le_of_ble_eq_true rfl) (Nat.le_of_ble_eq_true rfl) hn (fun h16 w16 => ?_)
  obtain ⟨hn, hKq, hKo, hAo, e16⟩ := w16
  have hK : am_K h16 0 = .inl 8 := (hKo 0 (by decide)).trans hK
  refine AW_go okX8_init 15 ?_
  refine Exists.intro 3 (And.intro hKq (And.intro (by unfold vp_in; decide) ?_))
  refine Exists.intro 3 (And.intro hKq (And.intro (by unfold vp_in; decide) ?_))
  refine Exists.intro 3 (And.intro hKq (And.intro (by unfold vp_in; decide) ?_))
  refine And.intro hK ?_
  refine AW_newaN (n := 50) (m := 3) (okX8_init.1 127 _ _ rfl) rfl (by decide) rfl rfl (Nat.le_of_ble_eq_true rfl) (Nat.le_of_ble_eq_true rfl) (Nat.le_of_ble_eq_true rfl) hn (fun h17 w17 => ?_)
  obtain ⟨hn, hKq, hKo, hAo, e17⟩ := w17
  have hK : am_K h17 0 = .inl 8 := (hKo 0 (by decide)).trans hK
  refine AW_go okX8_init 2 ?_
  refine And.intro hK ?_
  refine And.intro ⟨Nat.le_refl _, Nat.le_refl _⟩ (And.intro rfl (And.intro rfl ?_))
  rw [e17, e16, e15, e14, e13, e12, e11, e10, e9, e8, e7, e6, e5, e4, e3, e2, e1]
  rfl
