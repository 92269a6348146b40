/-! ===== constructors of the inner classes (by program) ===== -/
theorem am_Kn {h : am_H} {o : Nat} {x : Nat ⊕ (Nat × Nat)} {kd : Nat ⊕ (Nat × Nat)} {f : Nat → Int32} (hK : am_K h o = x) (ho : o < h.1) : am_K (am_new h kd f) o = x ∧ o < (am_new h kd f).1 := by
  have hne : o ≠ h.1 := by omega
  refine ⟨?_, Nat.lt_succ_of_lt ho⟩
  rw [← hK]; simp [am_new, am_K, va_up, hne]
def i_Page (o : Nat) (h : am_H) : am_H := am_sA (am_new h (.inr (0, 60)) (fun _ => 0)) o 0 (some (h.1 + 0))
set_option maxRecDepth 100000 in
set_option maxHeartbeats 4000000 in
theorem c_Page_init (h : am_H) (o : Nat) (hK : am_K h o = .inl 4) (ho : o < h.1) : AMet mX4_init (rX4_init 1 60) (fun r h' => r = none ∧ h' = i_Page o h) [.ref o] h := by
  refine AW_go okX4_init 1 ?_
  refine AW_obj (okX4_init.1 1 _ _ rfl) kX4_3 (by decide) (by decide) ?_
  refine AW_go okX4_init 2 ?_
  refine AW_newa (okX4_init.1 7 _ _ rfl) rfl (by decide) (by decide) (Nat.le_of_ble_eq_true rfl) (Nat.le_of_ble_eq_true rfl) (Nat.le_of_ble_eq_true rfl) ?_
  obtain ⟨hK, ho⟩ := am_Kn (kd := .inr (0, 60)) (f := fun _ => (0 : Int32)) hK ho
  refine AW_go okX4_init 2 ?_
  refine And.intro hK ?_
  exact And.intro ⟨Nat.le_refl _, Nat.le_refl _⟩ (And.intro rfl ⟨rfl, rfl⟩)
def i_Reader (o : Nat) (h : am_H) : am_H := am_sA (am_new (am_sA (am_new (am_sA (am_new (am_sA (am_new (am_sA (am_new (am_sA (am_new (am_sA (am_new (am_sA (am_new h (.inr (0, 16)) (fun _ => 0)) o 4 (some (h.1 + 0))) (.inr (0, 16)) (fun _ => 0)) o 5 (some (h.1 + 1))) (.inr (0, 61)) (fun _ => 0)) o 6 (some (h.1 + 2))) (.inr (0, 61)) (fun _ => 0)) o 7 (some (h.1 + 3))) (.inr (2, 61)) (fun _ => 0)) o 8 (some (h.1 + 4))) (.inr (0, 61)) (fun _ => 0)) o 9 (some (h.1 + 5))) (.inr (0, 61)) (fun _ => 0)) o 10 (some (h.1 + 6))) (.inr (2, 61)) (fun _ => 0)) o 11 (some (h.1 + 7))
set_option maxRecDepth 100000 in
set_option maxHeartbeats 4000000 in
theorem c_Reader_init (h : am_H) (o : Nat) (hK : am_K h o = .inl 5) (ho : o < h.1) : AMet mX5_init (rX5_init 8 398) (fun r h' => r = none ∧ h' = i_Reader o h) [.ref o] h := by
  refine AW_go okX5_init 1 ?_
  refine AW_obj (okX5_init.1 1 _ _ rfl) kX5_3 (by decide) (by decide) ?_
  refine AW_go okX5_init 2 ?_
  refine AW_newa (okX5_init.1 7 _ _ rfl) rfl (by decide) (by decide) (Nat.le_of_ble_eq_true rfl) (Nat.le_of_ble_eq_true rfl) (Nat.le_of_ble_eq_true rfl) ?_
  obtain ⟨hK, ho⟩ := am_Kn (kd := .inr (0, 16)) (f := fun _ => (0 : Int32)) hK ho
  refine AW_go okX5_init 3 ?_
  refine And.intro hK ?_
  refine AW_newa (okX5_init.1 15 _ _ rfl) rfl (by decide) (by decide) (Nat.le_of_ble_eq_true rfl) (Nat.le_of_ble_eq_true rfl) (Nat.le_of_ble_eq_true rfl) ?_
  obtain ⟨hK, ho⟩ := am_Kn (kd := .inr (0, 16)) (f := fun _ => (0 : Int32)) hK ho
  refine AW_go okX5_init 3 ?_
  refine And.intro hK ?_
  refine AW_newa (okX5_init.1 23 _ _ rfl) rfl (by decide) (by decide) (Nat.le_of_ble_eq_true rfl) (Nat.le_of_ble_eq_true rfl) (Nat.le_of_ble_eq_true rfl) ?_
  obtain ⟨hK, ho⟩ := am_Kn (kd := .inr (0, 61)) (f := fun _ => (0 : Int32)) hK ho
  refine AW_go okX5_init 3 ?_
  refine And.intro hK ?_
  refine AW_newa (okX5_init.1 31 _ _ rfl) rfl (by decide) (by decide) (Nat.le_of_ble_eq_true rfl) (Nat.le_of_ble_eq_true rfl) (Nat.le_of_ble_eq_true rfl) ?_
  obtain ⟨hK, ho⟩ := am_Kn (kd := .inr (0, 61)) (f := fun _ => (0 : Int32)) hK ho
  refine AW_go okX5_init 3 ?_
  refine And.intro hK ?_
  refine AW_newa (okX5_init.1 39 _ _ rfl) rfl (by decide) (by decide) (Nat.le_of_ble_eq_true rfl) (Nat.le_of_ble_eq_true rfl) (Nat.le_of_ble_eq_true rfl) ?_
  obtain ⟨hK, ho⟩ := am_Kn (kd := .inr (2, 61)) (f := fun _ => (0 : Int32)) hK ho
  refine AW_go okX5_init 3 ?_
  refine And.intro hK ?_
  refine AW_newa (okX5_init.1 47 _ _ rfl) rfl (by decide) (by decide) (Nat.le_of_ble_eq_true rfl) (Nat.le_of_ble_eq_true rfl) (Nat.le_of_ble_eq_true rfl) ?_
  obtain ⟨hK, ho⟩ := am_Kn (kd := .inr (0, 61)) (f := fun _ => (0 : Int32)) hK ho
  refine AW_go okX5_init 3 ?_
  refine And.intro hK ?_
  refine AW_newa (okX5_init.1 55 _ _ rfl) rfl (by decide) (by decide) (Nat.le_of_ble_eq_true rfl) (Nat.le_of_ble_eq_true rfl) (Nat.le_of_ble_eq_true rfl) ?_
  obtain ⟨hK, ho⟩ := am_Kn (kd := .inr (0, 61)) (f := fun _ => (0 : Int32)) hK ho
  refine AW_go okX5_init 3 ?_
  refine And.intro hK ?_
  refine AW_newa (okX5_init.1 63 _ _ rfl) rfl (by decide) (by decide) (Nat.le_of_ble_eq_true rfl) (Nat.le_of_ble_eq_true rfl) (Nat.le_of_ble_eq_true rfl) ?_
  obtain ⟨hK, ho⟩ := am_Kn (kd := .inr (2, 61)) (f := fun _ => (0 : Int32)) hK ho
  refine AW_go okX5_init 2 ?_
  refine And.intro hK ?_
  exact And.intro ⟨Nat.le_refl _, Nat.le_refl _⟩ (And.intro rfl ⟨rfl, rfl⟩)
def i_Folder (o : Nat) (h : am_H) : am_H := am_sA (am_new (am_sA (am_new (am_sA (am_new (am_sA (am_new (am_sA (am_new (am_sA (am_new h (.inr (0, 64)) (fun _ => 0)) o 1 (some (h.1 + 0))) (.inr (0, 1536)) (fun _ => 0)) o 2 (some (h.1 + 1))) (.inr (0, 64)) (fun _ => 0)) o 3 (some (h.1 + 2))) (.inr (0, 64)) (fun _ => 0)) o 4 (some (h.1 + 3))) (.inr (0, 64)) (fun _ => 0)) o 5 (some (h.1 + 4))) (.inr (0, 24)) (fun _ => 0)) o 6 (some (h.1 + 5))
set_option maxRecDepth 100000 in
set_option maxHeartbeats 4000000 in
theorem c_Folder_init (h : am_H) (o : Nat) (hK : am_K h o = .inl 2) (ho : o < h.1) : AMet mX2_init (rX2_init 6 1816) (fun r h' => r = none ∧ h' = i_Folder o h) [.ref o] h := by
  refine AW_go okX2_init 1 ?_
  refine AW_obj (okX2_init.1 1 _ _ rfl) kX2_3 (by decide) (by decide) ?_
  refine AW_go okX2_init 2 ?_
  refine AW_newa (okX2_init.1 7 _ _ rfl) rfl (by decide) (by decide) (Nat.le_of_ble_eq_true rfl) (Nat.le_of_ble_eq_true rfl) (Nat.le_of_ble_eq_true rfl) ?_
  obtain ⟨hK, ho⟩ := am_Kn (kd := .inr (0, 64)) (f := fun _ => (0 : Int32)) hK ho
  refine AW_go okX2_init 3 ?_
  refine And.intro hK ?_
  refine AW_newa (okX2_init.1 16 _ _ rfl) rfl (by decide) (by decide) (Nat.le_of_ble_eq_true rfl) (Nat.le_of_ble_eq_true rfl) (Nat.le_of_ble_eq_true rfl) ?_
  obtain ⟨hK, ho⟩ := am_Kn (kd := .inr (0, 1536)) (f := fun _ => (0 : Int32)) hK ho
  refine AW_go okX2_init 3 ?_
  refine And.intro hK ?_
  refine AW_newa (okX2_init.1 24 _ _ rfl) rfl (by decide) (by decide) (Nat.le_of_ble_eq_true rfl) (Nat.le_of_ble_eq_true rfl) (Nat.le_of_ble_eq_true rfl) ?_
  obtain ⟨hK, ho⟩ := am_Kn (kd := .inr (0, 64)) (f := fun _ => (0 : Int32)) hK ho
  refine AW_go okX2_init 3 ?_
  refine And.intro hK ?_
  refine AW_newa (okX2_init.1 32 _ _ rfl) rfl (by decide) (by decide) (Nat.le_of_ble_eq_true rfl) (Nat.le_of_ble_eq_true rfl) (Nat.le_of_ble_eq_true rfl) ?_
  obtain ⟨hK, ho⟩ := am_Kn (kd := .inr (0, 64)) (f := fun _ => (0 : Int32)) hK ho
  refine AW_go okX2_init 3 ?_
  refine And.intro hK ?_
  refine AW_newa (okX2_init.1 40 _ _ rfl) rfl (by decide) (by decide) (Nat.le_of_ble_eq_true rfl) (Nat.le_of_ble_eq_true rfl) (Nat.le_of_ble_eq_true rfl) ?_
  obtain ⟨hK, ho⟩ := am_Kn (kd := .inr (0, 64)) (f := fun _ => (0 : Int32)) hK ho
  refine AW_go okX2_init 3 ?_
  refine And.intro hK ?_
  refine AW_newa (okX2_init.1 48 _ _ rfl) rfl (by decide) (by decide) (Nat.le_of_ble_eq_true rfl) (Nat.le_of_ble_eq_true rfl) (Nat.le_of_ble_eq_true rfl) ?_
  obtain ⟨hK, ho⟩ := am_Kn (kd := .inr (0, 24)) (f := fun _ => (0 : Int32)) hK ho
  refine AW_go okX2_init 2 ?_
  refine And.intro hK ?_
  exact And.intro ⟨Nat.le_refl _, Nat.le_refl _⟩ (And.intro rfl ⟨rfl, rfl⟩)
def i_Contest (o : Nat) (h : am_H) : am_H := am_sA (am_new (am_sA (am_new (am_sA (am_new (am_sA (am_new (am_sA (am_new h (.inr (0, 64)) (fun _ => 0)) o 6 (some (h.1 + 0))) (.inr (0, 64)) (fun _ => 0)) o 7 (some (h.1 + 1))) (.inr (0, 64)) (fun _ => 0)) o 8 (some (h.1 + 2))) (.inr (0, 64)) (fun _ => 0)) o 9 (some (h.1 + 3))) (.inr (0, 64)) (fun _ => 0)) o 10 (some (h.1 + 4))
set_option maxRecDepth 100000 in
set_option maxHeartbeats 4000000 in
theorem c_Contest_init (h : am_H) (o : Nat) (hK : am_K h o = .inl 1) (ho : o < h.1) : AMet mX1_init (rX1_init 5 320) (fun r h' => r = none ∧ h' = i_Contest o h) [.ref o] h := by
  refine AW_go okX1_init 1 ?_
  refine AW_obj (okX1_init.1 1 _ _ rfl) kX1_3 (by decide) (by decide) ?_
  refine AW_go okX1_init 2 ?_
  refine AW_newa (okX1_init.1 7 _ _ rfl) rfl (by decide) (by decide) (Nat.le_of_ble_eq_true rfl) (Nat.le_of_ble_eq_true rfl) (Nat.le_of_ble_eq_true rfl) ?_
  obtain ⟨hK, ho⟩ := am_Kn (kd := .inr (0, 64)) (f := fun _ => (0 : Int32)) hK ho
  refine AW_go okX1_init 3 ?_
  refine And.intro hK ?_
  refine AW_newa (okX1_init.1 15 _ _ rfl) rfl (by decide) (by decide) (Nat.le_of_ble_eq_true rfl) (Nat.le_of_ble_eq_true rfl) (Nat.le_of_ble_eq_true rfl) ?_
  obtain ⟨hK, ho⟩ := am_Kn (kd := .inr (0, 64)) (f := fun _ => (0 : Int32)) hK ho
  refine AW_go okX1_init 3 ?_
  refine And.intro hK ?_
  refine AW_newa (okX1_init.1 23 _ _ rfl) rfl (by decide) (by decide) (Nat.le_of_ble_eq_true rfl) (Nat.le_of_ble_eq_true rfl) (Nat.le_of_ble_eq_true rfl) ?_
  obtain ⟨hK, ho⟩ := am_Kn (kd := .inr (0, 64)) (f := fun _ => (0 : Int32)) hK ho
  refine AW_go okX1_init 3 ?_
  refine And.intro hK ?_
  refine AW_newa (okX1_init.1 31 _ _ rfl) rfl (by decide) (by decide) (Nat.le_of_ble_eq_true rfl) (Nat.le_of_ble_eq_true rfl) (Nat.le_of_ble_eq_true rfl) ?_
  obtain ⟨hK, ho⟩ := am_Kn (kd := .inr (0, 64)) (f := fun _ => (0 : Int32)) hK ho
  refine AW_go okX1_init 3 ?_
  refine And.intro hK ?_
  refine AW_newa (okX1_init.1 39 _ _ rfl) rfl (by decide) (by decide) (Nat.le_of_ble_eq_true rfl) (Nat.le_of_ble_eq_true rfl) (Nat.le_of_ble_eq_true rfl) ?_
  obtain ⟨hK, ho⟩ := am_Kn (kd := .inr (0, 64)) (f := fun _ => (0 : Int32)) hK ho
  refine AW_go okX1_init 2 ?_
  refine And.intro hK ?_
  exact And.intro ⟨Nat.le_refl _, Nat.le_refl _⟩ (And.intro rfl ⟨rfl, rfl⟩)
def i_Talk (o : Nat) (h : am_H) : am_H := am_sA (am_new (am_sA (am_new (am_sA (am_new (am_sA (am_new (am_sA (am_new (am_sA (am_new (am_sA (am_new (am_sA (am_new (am_sI h o 0 2) (.inr (0, 6)) (fun _ => 0)) o 1 (some (h.1 + 0))) (.inr (0, 48)) (fun _ => 0)) o 2 (some (h.1 + 1))) (.inr (0, 90)) (fun _ => 0)) o 3 (some (h.1 + 2))) (.inr (3, 90)) (fun _ => 0)) o 4 (some (h.1 + 3))) (.inr (2, 3)) (fun _ => 0)) o 6 (some (h.1 + 4))) (.inr (0, 48)) (fun _ => 0)) o 7 (some (h.1 + 5))) (.inr (0, 48)) (fun _ => 0)) o 8 (some (h.1 + 6))) (.inr (0, 3)) (fun _ => 0)) o 9 (some (h.1 + 7))
set_option maxRecDepth 100000 in
set_option maxHeartbeats 4000000 in
theorem c_Talk_init (h : am_H) (o : Nat) (hK : am_K h o = .inl 7) (ho : o < h.1) : AMet mX7_init (rX7_init 8 336) (fun r h' => r = none ∧ h' = i_Talk o h) [.ref o] h := by
  refine AW_go okX7_init 1 ?_
  refine AW_obj (okX7_init.1 1 _ _ rfl) kX7_5 (by decide) (by decide) ?_
  refine AW_go okX7_init 5 ?_
  refine And.intro hK ?_
  refine AW_newa (okX7_init.1 12 _ _ rfl) rfl (by decide) (by decide) (Nat.le_of_ble_eq_true rfl) (Nat.le_of_ble_eq_true rfl) (Nat.le_of_ble_eq_true rfl) ?_
  obtain ⟨hK, ho⟩ := am_Kn (kd := .inr (0, 6)) (f := fun _ => (0 : Int32)) hK ho
  refine AW_go okX7_init 3 ?_
  refine And.intro hK ?_
  refine AW_newa (okX7_init.1 20 _ _ rfl) rfl (by decide) (by decide) (Nat.le_of_ble_eq_true rfl) (Nat.le_of_ble_eq_true rfl) (Nat.le_of_ble_eq_true rfl) ?_
  obtain ⟨hK, ho⟩ := am_Kn (kd := .inr (0, 48)) (f := fun _ => (0 : Int32)) hK ho
  refine AW_go okX7_init 3 ?_
  refine And.intro hK ?_
  refine AW_newa (okX7_init.1 28 _ _ rfl) rfl (by decide) (by decide) (Nat.le_of_ble_eq_true rfl) (Nat.le_of_ble_eq_true rfl) (Nat.le_of_ble_eq_true rfl) ?_
  obtain ⟨hK, ho⟩ := am_Kn (kd := .inr (0, 90)) (f := fun _ => (0 : Int32)) hK ho
  refine AW_go okX7_init 3 ?_
  refine And.intro hK ?_
  refine AW_newa (okX7_init.1 36 _ _ rfl) rfl (by decide) (by decide) (Nat.le_of_ble_eq_true rfl) (Nat.le_of_ble_eq_true rfl) (Nat.le_of_ble_eq_true rfl) ?_
  obtain ⟨hK, ho⟩ := am_Kn (kd := .inr (3, 90)) (f := fun _ => (0 : Int32)) hK ho
  refine AW_go okX7_init 3 ?_
  refine And.intro hK ?_
  refine AW_newa (okX7_init.1 43 _ _ rfl) rfl (by decide) (by decide) (Nat.le_of_ble_eq_true rfl) (Nat.le_of_ble_eq_true rfl) (Nat.le_of_ble_eq_true rfl) ?_
  obtain ⟨hK, ho⟩ := am_Kn (kd := .inr (2, 3)) (f := fun _ => (0 : Int32)) hK ho
  refine AW_go okX7_init 3 ?_
  refine And.intro hK ?_
  refine AW_newa (okX7_init.1 51 _ _ rfl) rfl (by decide) (by decide) (Nat.le_of_ble_eq_true rfl) (Nat.le_of_ble_eq_true rfl) (Nat.le_of_ble_eq_true rfl) ?_
  obtain ⟨hK, ho⟩ := am_Kn (kd := .inr (0, 48)) (f := fun _ => (0 : Int32)) hK ho
  refine AW_go okX7_init 3 ?_
  refine And.intro hK ?_
  refine AW_newa (okX7_init.1 59 _ _ rfl) rfl (by decide) (by decide) (Nat.le_of_ble_eq_true rfl) (Nat.le_of_ble_eq_true rfl) (Nat.le_of_ble_eq_true rfl) ?_
  obtain ⟨hK, ho⟩ := am_Kn (kd := .inr (0, 48)) (f := fun _ => (0 : Int32)) hK ho
  refine AW_go okX7_init 3 ?_
  refine And.intro hK ?_
  refine AW_newa (okX7_init.1 66 _ _ rfl) rfl (by decide) (by decide) (Nat.le_of_ble_eq_true rfl) (Nat.le_of_ble_eq_true rfl) (Nat.le_of_ble_eq_true rfl) ?_
  obtain ⟨hK, ho⟩ := am_Kn (kd := .inr (0, 3)) (f := fun _ => (0 : Int32)) hK ho
  refine AW_go okX7_init 2 ?_
  refine And.intro hK ?_
  exact And.intro ⟨Nat.le_refl _, Nat.le_refl _⟩ (And.intro rfl ⟨rfl, rfl⟩)
def i_Survey (o : Nat) (h : am_H) : am_H := am_sA (am_new (am_sA (am_new (am_sA (am_new (am_sA (am_new (am_sA (am_new (am_sA (am_new (am_sA (am_new (am_sA (am_new (am_sA (am_new (am_sA (am_new (am_sA (am_new h (.inr (0, 5)) (fun _ => 0)) o 2 (some (h.1 + 0))) (.inr (0, 5)) (fun _ => 0)) o 3 (some (h.1 + 1))) (.inr (3, 2000)) (fun _ => 0)) o 5 (some (h.1 + 2))) (.inr (0, 2000)) (fun _ => 0)) o 6 (some (h.1 + 3))) (.inr (0, 2000)) (fun _ => 0)) o 7 (some (h.1 + 4))) (.inr (0, 2000)) (fun _ => 0)) o 8 (some (h.1 + 5))) (.inr (0, 4096)) (fun _ => 0)) o 9 (some (h.1 + 6))) (.inr (0, 2000)) (fun _ => 0)) o 10 (some (h.1 + 7))) (.inr (0, 2000)) (fun _ => 0)) o 11 (some (h.1 + 8))) (.inr (0, 4096)) (fun _ => 0)) o 13 (some (h.1 + 9))) (.inr (0, 4096)) (fun _ => 0)) o 14 (some (h.1 + 10))
set_option maxRecDepth 100000 in
set_option maxHeartbeats 4000000 in
theorem c_Survey_init (h : am_H) (o : Nat) (hK : am_K h o = .inl 6) (ho : o < h.1) : AMet mX6_init (rX6_init 11 24298) (fun r h' => r = none ∧ h' = i_Survey o h) [.ref o] h := by
  refine AW_go okX6_init 1 ?_
  refine AW_obj (okX6_init.1 1 _ _ rfl) kX6_3 (by decide) (by decide) ?_
  refine AW_go okX6_init 2 ?_
  refine AW_newa (okX6_init.1 6 _ _ rfl) rfl (by decide) (by decide) (Nat.le_of_ble_eq_true rfl) (Nat.le_of_ble_eq_true rfl) (Nat.le_of_ble_eq_true rfl) ?_
  obtain ⟨hK, ho⟩ := am_Kn (kd := .inr (0, 5)) (f := fun _ => (0 : Int32)) hK ho
  refine AW_go okX6_init 3 ?_
  refine And.intro hK ?_
  refine AW_newa (okX6_init.1 13 _ _ rfl) rfl (by decide) (by decide) (Nat.le_of_ble_eq_true rfl) (Nat.le_of_ble_eq_true rfl) (Nat.le_of_ble_eq_true rfl) ?_
  obtain ⟨hK, ho⟩ := am_Kn (kd := .inr (0, 5)) (f := fun _ => (0 : Int32)) hK ho
  refine AW_go okX6_init 3 ?_
  refine And.intro hK ?_
  refine AW_newa (okX6_init.1 22 _ _ rfl) rfl (by decide) (by decide) (Nat.le_of_ble_eq_true rfl) (Nat.le_of_ble_eq_true rfl) (Nat.le_of_ble_eq_true rfl) ?_
  obtain ⟨hK, ho⟩ := am_Kn (kd := .inr (3, 2000)) (f := fun _ => (0 : Int32)) hK ho
  refine AW_go okX6_init 3 ?_
  refine And.intro hK ?_
  refine AW_newa (okX6_init.1 31 _ _ rfl) rfl (by decide) (by decide) (Nat.le_of_ble_eq_true rfl) (Nat.le_of_ble_eq_true rfl) (Nat.le_of_ble_eq_true rfl) ?_
  obtain ⟨hK, ho⟩ := am_Kn (kd := .inr (0, 2000)) (f := fun _ => (0 : Int32)) hK ho
  refine AW_go okX6_init 3 ?_
  refine And.intro hK ?_
  refine AW_newa (okX6_init.1 40 _ _ rfl) rfl (by decide) (by decide) (Nat.le_of_ble_eq_true rfl) (Nat.le_of_ble_eq_true rfl) (Nat.le_of_ble_eq_true rfl) ?_
  obtain ⟨hK, ho⟩ := am_Kn (kd := .inr (0, 2000)) (f := fun _ => (0 : Int32)) hK ho
  refine AW_go okX6_init 3 ?_
  refine And.intro hK ?_
  refine AW_newa (okX6_init.1 49 _ _ rfl) rfl (by decide) (by decide) (Nat.le_of_ble_eq_true rfl) (Nat.le_of_ble_eq_true rfl) (Nat.le_of_ble_eq_true rfl) ?_
  obtain ⟨hK, ho⟩ := am_Kn (kd := .inr (0, 2000)) (f := fun _ => (0 : Int32)) hK ho
  refine AW_go okX6_init 3 ?_
  refine And.intro hK ?_
  refine AW_newa (okX6_init.1 58 _ _ rfl) rfl (by decide) (by decide) (Nat.le_of_ble_eq_true rfl) (Nat.le_of_ble_eq_true rfl) (Nat.le_of_ble_eq_true rfl) ?_
  obtain ⟨hK, ho⟩ := am_Kn (kd := .inr (0, 4096)) (f := fun _ => (0 : Int32)) hK ho
  refine AW_go okX6_init 3 ?_
  refine And.intro hK ?_
  refine AW_newa (okX6_init.1 67 _ _ rfl) rfl (by decide) (by decide) (Nat.le_of_ble_eq_true rfl) (Nat.le_of_ble_eq_true rfl) (Nat.le_of_ble_eq_true rfl) ?_
  obtain ⟨hK, ho⟩ := am_Kn (kd := .inr (0, 2000)) (f := fun _ => (0 : Int32)) hK ho
  refine AW_go okX6_init 3 ?_
  refine And.intro hK ?_
  refine AW_newa (okX6_init.1 76 _ _ rfl) rfl (by decide) (by decide) (Nat.le_of_ble_eq_true rfl) (Nat.le_of_ble_eq_true rfl) (Nat.le_of_ble_eq_true rfl) ?_
  obtain ⟨hK, ho⟩ := am_Kn (kd := .inr (0, 2000)) (f := fun _ => (0 : Int32)) hK ho
  refine AW_go okX6_init 3 ?_
  refine And.intro hK ?_
  refine AW_newa (okX6_init.1 85 _ _ rfl) rfl (by decide) (by decide) (Nat.le_of_ble_eq_true rfl) (Nat.le_of_ble_eq_true rfl) (Nat.le_of_ble_eq_true rfl) ?_
  obtain ⟨hK, ho⟩ := am_Kn (kd := .inr (0, 4096)) (f := fun _ => (0 : Int32)) hK ho
  refine AW_go okX6_init 3 ?_
  refine And.intro hK ?_
  refine AW_newa (okX6_init.1 94 _ _ rfl) rfl (by decide) (by decide) (Nat.le_of_ble_eq_true rfl) (Nat.le_of_ble_eq_true rfl) (Nat.le_of_ble_eq_true rfl) ?_
  obtain ⟨hK, ho⟩ := am_Kn (kd := .inr (0, 4096)) (f := fun _ => (0 : Int32)) hK ho
  refine AW_go okX6_init 2 ?_
  refine And.intro hK ?_
  exact And.intro ⟨Nat.le_refl _, Nat.le_refl _⟩ (And.intro rfl ⟨rfl, rfl⟩)
