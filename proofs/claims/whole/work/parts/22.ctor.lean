def i_Mo (h : am_H) : am_H := am_sI (am_sI (am_sI (am_sA (am_new (am_sA (am_new (am_sA (am_new (am_sA (am_new (am_sA (am_new (am_sA (am_new (am_sA (am_new (am_sA (am_new (am_sI (am_sA (am_new (am_sA (am_new (am_sA (am_new (am_sA (am_new (am_sA (am_new (am_sA (am_new (am_sA (am_new (am_sA (am_new (am_sA (am_new (am_sA (am_new (am_sA (am_new (am_sA (am_new (am_sA (am_new (am_sA (am_new (am_sA (am_new (am_sA (am_new (am_sA (am_new (am_sA (am_new (am_sA (am_new (am_sI (am_sA (am_new (am_sA (am_new (am_sA (am_new (am_sA (am_new (am_sA (am_new (am_sA (am_new (am_sA (am_new (am_sA (am_new h (.inr (1, 60)) (fun _ => 0)) 51 1 (some 52)) (.inr (0, 128)) (fun _ => 0)) 51 3 (some 53)) (.inr (0, 128)) (fun _ => 0)) 51 4 (some 54)) (.inr (0, 8)) (fun _ => 0)) 51 5 (some 55)) (.inr (1, 180)) (fun _ => 0)) 51 7 (some 56)) (.inr (0, 3)) (fun _ => 0)) 51 8 (some 57)) (.inr (0, 3)) (fun _ => 0)) 51 9 (some 58)) (.inr (0, 9)) (fun _ => 0)) 51 10 (some 59)) 51 11 2) (.inr (0, 61)) (fun _ => 0)) 51 16 (some 60)) (.inr (0, 61)) (fun _ => 0)) 51 17 (some 61)) (.inr (2, 61)) (fun _ => 0)) 51 18 (some 62)) (.inr (0, 61)) (fun _ => 0)) 51 19 (some 63)) (.inr (0, 61)) (fun _ => 0)) 51 20 (some 64)) (.inr (2, 61)) (fun _ => 0)) 51 21 (some 65)) (.inr (0, 4096)) (fun _ => 0)) 51 24 (some 66)) (.inr (0, 65536)) (fun _ => 0)) 51 25 (some 67)) (.inr (0, 98304)) (fun _ => 0)) 51 27 (some 68)) (.inr (2, 4096)) (fun _ => 0)) 51 28 (some 69)) (.inr (0, 4096)) (fun _ => 0)) 51 29 (some 70)) (.inr (0, 4096)) (fun _ => 0)) 51 30 (some 71)) (.inr (0, 65536)) (fun _ => 0)) 51 31 (some 72)) (.inr (0, 65536)) (fun _ => 0)) 51 32 (some 73)) (.inr (0, 65536)) (fun _ => 0)) 51 33 (some 74)) (.inr (0, 65536)) (fun _ => 0)) 51 34 (some 75)) (.inr (0, 131072)) (fun _ => 0)) 51 35 (some 76)) (.inr (0, 3)) (fun _ => 0)) 51 38 (some 77)) (.inr (0, 9)) (fun _ => 0)) 51 39 (some 78)) 51 40 (-1)) (.inr (0, 96)) (fun _ => 0)) 51 43 (some 79)) (.inr (3, 2001)) (fun _ => 0)) 51 45 (some 80)) (.inr (0, 2001)) (fun _ => 0)) 51 46 (some 81)) (.inr (0, 2001)) (fun _ => 0)) 51 47 (some 82)) (.inr (2, 2001)) (fun _ => 0)) 51 48 (some 83)) (.inr (0, 8192)) (fun _ => 0)) 51 49 (some 84)) (.inr (0, 2002)) (fun _ => 0)) 51 54 (some 85)) (.inr (0, 180090)) (fun _ => 0)) 51 55 (some 86)) 58 0 (-1)) 58 1 (-1)) 58 2 (-1)
set_option maxRecDepth 100000 in
set_option maxHeartbeats 4000000 in
theorem c_Mo_init (h : am_H) (hn : h.1 = 52) (hK : am_K h 51 = .inl 9) : AMet mX9_init (rX9_init 35 772721) (fun r h' => r = none ∧ h' = i_Mo h) [.ref 51] h := by
  refine AW_go okX9_init 1 ?_
  refine AW_obj (okX9_init.1 1 _ _ rfl) kX9_1 (by decide) (by decide) ?_
  refine AW_go okX9_init 2 ?_
  refine AW_newaN (n := 52) (m := 60) (okX9_init.1 7 _ _ rfl) rfl (by decide) rfl rfl (Nat.le_of_ble_eq_true rfl) (Nat.le_of_ble_eq_true rfl) (Nat.le_of_ble_eq_true rfl) hn (fun h1 w1 => ?_)
  obtain ⟨hn, hKq, hKo, hAo, e1⟩ := w1
  have hK : am_K h1 51 = .inl 9 := (hKo 51 (by decide)).trans hK
  refine AW_go okX9_init 3 ?_
  refine And.intro hK ?_
  refine AW_newaN (n := 53) (m := 128) (okX9_init.1 16 _ _ rfl) rfl (by decide) rfl rfl (Nat.le_of_ble_eq_true rfl) (Nat.le_of_ble_eq_true rfl) (Nat.le_of_ble_eq_true rfl) hn (fun h2 w2 => ?_)
  obtain ⟨hn, hKq, hKo, hAo, e2⟩ := w2
  have hK : am_K h2 51 = .inl 9 := (hKo 51 (by decide)).trans hK
  refine AW_go okX9_init 3 ?_
  refine And.intro hK ?_
  refine AW_newaN (n := 54) (m := 128) (okX9_init.1 25 _ _ rfl) rfl (by decide) rfl rfl (Nat.le_of_ble_eq_true rfl) (Nat.le_of_ble_eq_true rfl) (Nat.le_of_ble_eq_true rfl) hn (fun h3 w3 => ?_)
  obtain ⟨hn, hKq, hKo, hAo, e3⟩ := w3
  have hK : am_K h3 51 = .inl 9 := (hKo 51 (by decide)).trans hK
  refine AW_go okX9_init 3 ?_
  refine And.intro hK ?_
  refine AW_newaN (n := 55) (m := 8) (okX9_init.1 33 _ _ rfl) rfl (by decide) rfl rfl (Nat.le_of_ble_eq_true rfl) (Nat.le_of_ble_eq_true rfl) (Nat.le_of_ble_eq_true rfl) hn (fun h4 w4 => ?_)
  obtain ⟨hn, hKq, hKo, hAo, e4⟩ := w4
  have hK : am_K h4 51 = .inl 9 := (hKo 51 (by decide)).trans hK
  refine AW_go okX9_init 3 ?_
  refine And.intro hK ?_
  refine AW_newaN (n := 56) (m := 180) (okX9_init.1 42 _ _ rfl) rfl (by decide) rfl rfl (Nat.le_of_ble_eq_true rfl) (Nat.le_of_ble_eq_true rfl) (Nat.le_of_ble_eq_true rfl) hn (fun h5 w5 => ?_)
  obtain ⟨hn, hKq, hKo, hAo, e5⟩ := w5
  have hK : am_K h5 51 = .inl 9 := (hKo 51 (by decide)).trans hK
  refine AW_go okX9_init 3 ?_
  refine And.intro hK ?_
  refine AW_newaN (n := 57) (m := 3) (okX9_init.1 49 _ _ rfl) rfl (by decide) rfl rfl (Nat.le_of_ble_eq_true rfl) (Nat.le_of_ble_eq_true rfl) (Nat.le_of_ble_eq_true rfl) hn (fun h6 w6 => ?_)
  obtain ⟨hn, hKq, hKo, hAo, e6⟩ := w6
  have hK : am_K h6 51 = .inl 9 := (hKo 51 (by decide)).trans hK
  refine AW_go okX9_init 3 ?_
  refine And.intro hK ?_
  refine AW_newaN (n := 58) (m := 3) (okX9_init.1 56 _ _ rfl) rfl (by decide) rfl rfl (Nat.le_of_ble_eq_true rfl) (Nat.le_of_ble_eq_true rfl) (Nat.le_of_ble_eq_true rfl) hn (fun h7 w7 => ?_)
  obtain ⟨hn, hKq, hKo, hAo, e7⟩ := w7
  have hK : am_K h7 51 = .inl 9 := (hKo 51 (by decide)).trans hK
  refine AW_go okX9_init 3 ?_
  refine And.intro hK ?_
  have hKs := hKq
  have hAs := am_Ass h7 51 9 (some 58)
  refine AW_newaN (n := 59) (m := 9) (okX9_init.1 64 _ _ rfl) rfl (by decide) rfl rfl (Nat.le_of_ble_eq_true rfl) (Nat.le_of_ble_eq_true rfl) (Nat.le_of_ble_eq_true rfl) hn (fun h8 w8 => ?_)
  obtain ⟨hn, hKq, hKo, hAo, e8⟩ := w8
  have hK : am_K h8 51 = .inl 9 := (hKo 51 (by decide)).trans hK
  have hKs : am_K h8 58 = .inr (0, 3) := (hKo 58 (by decide)).trans hKs
  have hAs : am_A h8 51 9 = some 58 := (congrFun (hAo 51 (by decide)) 9).trans hAs
  refine AW_go okX9_init 6 ?_
  refine And.intro hK ?_
  have hAs := am_Asn (o := 51) 10 (some 59) hAs (by decide)
  refine And.intro hK ?_
  refine AW_newaN (n := 60) (m := 61) (okX9_init.1 77 _ _ rfl) rfl (by decide) rfl rfl (Nat.le_of_ble_eq_true rfl) (Nat.le_of_ble_eq_true rfl) (Nat.le_of_ble_eq_true rfl) hn (fun h9 w9 => ?_)
  obtain ⟨hn, hKq, hKo, hAo, e9⟩ := w9
  have hK : am_K h9 51 = .inl 9 := (hKo 51 (by decide)).trans hK
  have hKs : am_K h9 58 = .inr (0, 3) := (hKo 58 (by decide)).trans hKs
  have hAs : am_A h9 51 9 = some 58 := (congrFun (hAo 51 (by decide)) 9).trans hAs
  refine AW_go okX9_init 3 ?_
  refine And.intro hK ?_
  have hAs := am_Asn (o := 51) 16 (some 60) hAs (by decide)
  refine AW_newaN (n := 61) (m := 61) (okX9_init.1 85 _ _ rfl) rfl (by decide) rfl rfl (Nat.le_of_ble_eq_true rfl) (Nat.le_of_ble_eq_true rfl) (Nat.le_of_ble_eq_true rfl) hn (fun h10 w10 => ?_)
  obtain ⟨hn, hKq, hKo, hAo, e10⟩ := w10
  have hK : am_K h10 51 = .inl 9 := (hKo 51 (by decide)).trans hK
  have hKs : am_K h10 58 = .inr (0, 3) := (hKo 58 (by decide)).trans hKs
  have hAs : am_A h10 51 9 = some 58 := (congrFun (hAo 51 (by decide)) 9).trans hAs
  refine AW_go okX9_init 3 ?_
  refine And.intro hK ?_
  have hAs := am_Asn (o := 51) 17 (some 61) hAs (by decide)
  refine AW_newaN (n := 62) (m := 61) (okX9_init.1 93 _ _ rfl) rfl (by decide) rfl rfl (Nat.le_of_ble_eq_true rfl) (Nat.le_of_ble_eq_true rfl) (Nat.le_of_ble_eq_true rfl) hn (fun h11 w11 => ?_)
  obtain ⟨hn, hKq, hKo, hAo, e11⟩ := w11
  have hK : am_K h11 51 = .inl 9 := (hKo 51 (by decide)).trans hK
  have hKs : am_K h11 58 = .inr (0, 3) := (hKo 58 (by decide)).trans hKs
  have hAs : am_A h11 51 9 = some 58 := (congrFun (hAo 51 (by decide)) 9).trans hAs
  refine AW_go okX9_init 3 ?_
  refine And.intro hK ?_
  have hAs := am_Asn (o := 51) 18 (some 62) hAs (by decide)
  refine AW_newaN (n := 63) (m := 61) (okX9_init.1 101 _ _ rfl) rfl (by decide) rfl rfl (Nat.le_of_ble_eq_true rfl) (Nat.le_of_ble_eq_true rfl) (Nat.le_of_ble_eq_true rfl) hn (fun h12 w12 => ?_)
  obtain ⟨hn, hKq, hKo, hAo, e12⟩ := w12
  have hK : am_K h12 51 = .inl 9 := (hKo 51 (by decide)).trans hK
  have hKs : am_K h12 58 = .inr (0, 3) := (hKo 58 (by decide)).trans hKs
  have hAs : am_A h12 51 9 = some 58 := (congrFun (hAo 51 (by decide)) 9).trans hAs
  refine AW_go okX9_init 3 ?_
  refine And.intro hK ?_
  have hAs := am_Asn (o := 51) 19 (some 63) hAs (by decide)
  refine AW_newaN (n := 64) (m := 61) (okX9_init.1 109 _ _ rfl) rfl (by decide) rfl rfl (Nat.le_of_ble_eq_true rfl) (Nat.le_of_ble_eq_true rfl) (Nat.le_of_ble_eq_true rfl) hn (fun h13 w13 => ?_)
  obtain ⟨hn, hKq, hKo, hAo, e13⟩ := w13
  have hK : am_K h13 51 = .inl 9 := (hKo 51 (by decide)).trans hK
  have hKs : am_K h13 58 = .inr (0, 3) := (hKo 58 (by decide)).trans hKs
  have hAs : am_A h13 51 9 = some 58 := (congrFun (hAo 51 (by decide)) 9).trans hAs
  refine AW_go okX9_init 3 ?_
  refine And.intro hK ?_
  have hAs := am_Asn (o := 51) 20 (some 64) hAs (by decide)
  refine AW_newaN (n := 65) (m := 61) (okX9_init.1 117 _ _ rfl) rfl (by decide) rfl rfl (Nat.le_of_ble_eq_true rfl) (Nat.le_of_ble_eq_true rfl) (Nat.le_of_ble_eq_true rfl) hn (fun h14 w14 => ?_)
  obtain ⟨hn, hKq, hKo, hAo, e14⟩ := w14
  have hK : am_K h14 51 = .inl 9 := (hKo 51 (by decide)).trans hK
  have hKs : am_K h14 58 = .inr (0, 3) := (hKo 58 (by decide)).trans hKs
  have hAs : am_A h14 51 9 = some 58 := (congrFun (hAo 51 (by decide)) 9).trans hAs
  refine AW_go okX9_init 3 ?_
  refine And.intro hK ?_
  have hAs := am_Asn (o := 51) 21 (some 65) hAs (by decide)
  refine AW_newaN (n := 66) (m := 4096) (okX9_init.1 126 _ _ rfl) rfl (by decide) rfl rfl (Nat.le_of_ble_eq_true rfl) (Nat.le_of_ble_eq_true rfl) (Nat.le_of_ble_eq_true rfl) hn (fun h15 w15 => ?_)
  obtain ⟨hn, hKq, hKo, hAo, e15⟩ := w15
  have hK : am_K h15 51 = .inl 9 := (hKo 51 (by decide)).trans hK
  have hKs : am_K h15 58 = .inr (0, 3) := (hKo 58 (by decide)).trans hKs
  have hAs : am_A h15 51 9 = some 58 := (congrFun (hAo 51 (by decide)) 9).trans hAs
  refine AW_go okX9_init 3 ?_
  refine And.intro hK ?_
  have hAs := am_Asn (o := 51) 24 (some 66) hAs (by decide)
  refine AW_newaN (n := 67) (m := 65536) (okX9_init.1 134 _ _ rfl) rfl (by decide) rfl rfl (Nat.le_of_ble_eq_true rfl) (Nat.le_of_ble_eq_true rfl) (Nat.le_of_ble_eq_true rfl) hn (fun h16 w16 => ?_)
  obtain ⟨hn, hKq, hKo, hAo, e16⟩ := w16
  have hK : am_K h16 51 = .inl 9 := (hKo 51 (by decide)).trans hK
  have hKs : am_K h16 58 = .inr (0, 3) := (hKo 58 (by decide)).trans hKs
  have hAs : am_A h16 51 9 = some 58 := (congrFun (hAo 51 (by decide)) 9).trans hAs
  refine AW_go okX9_init 3 ?_
  refine And.intro hK ?_
  have hAs := am_Asn (o := 51) 25 (some 67) hAs (by decide)
  refine AW_newaN (n := 68) (m := 98304) (okX9_init.1 142 _ _ rfl) rfl (by decide) rfl rfl (Nat.le_of_ble_eq_true rfl) (Nat.le_of_ble_eq_true rfl) (Nat.le_of_ble_eq_true rfl) hn (fun h17 w17 => ?_)
  obtain ⟨hn, hKq, hKo, hAo, e17⟩ := w17
  have hK : am_K h17 51 = .inl 9 := (hKo 51 (by decide)).trans hK
  have hKs : am_K h17 58 = .inr (0, 3) := (hKo 58 (by decide)).trans hKs
  have hAs : am_A h17 51 9 = some 58 := (congrFun (hAo 51 (by decide)) 9).trans hAs
  refine AW_go okX9_init 3 ?_
  refine And.intro hK ?_
  have hAs := am_Asn (o := 51) 27 (some 68) hAs (by decide)
  refine AW_newaN (n := 69) (m := 4096) (okX9_init.1 151 _ _ rfl) rfl (by decide) rfl rfl (Nat.le_of_ble_eq_true rfl) (Nat.le_of_ble_eq_true rfl) (Nat.le_of_ble_eq_true rfl) hn (fun h18 w18 => ?_)
  obtain ⟨hn, hKq, hKo, hAo, e18⟩ := w18
  have hK : am_K h18 51 = .inl 9 := (hKo 51 (by decide)).trans hK
  have hKs : am_K h18 58 = .inr (0, 3) := (hKo 58 (by decide)).trans hKs
  have hAs : am_A h18 51 9 = some 58 := (congrFun (hAo 51 (by decide)) 9).trans hAs
  refine AW_go okX9_init 3 ?_
  refine And.intro hK ?_
  have hAs := am_Asn (o := 51) 28 (some 69) hAs (by decide)
  refine AW_newaN (n := 70) (m := 4096) (okX9_init.1 160 _ _ rfl) rfl (by decide) rfl rfl (Nat.le_of_ble_eq_true rfl) (Nat.le_of_ble_eq_true rfl) (Nat.le_of_ble_eq_true rfl) hn (fun h19 w19 => ?_)
  obtain ⟨hn, hKq, hKo, hAo, e19⟩ := w19
  have hK : am_K h19 51 = .inl 9 := (hKo 51 (by decide)).trans hK
  have hKs : am_K h19 58 = .inr (0, 3) := (hKo 58 (by decide)).trans hKs
  have hAs : am_A h19 51 9 = some 58 := (congrFun (hAo 51 (by decide)) 9).trans hAs
  refine AW_go okX9_init 3 ?_
  refine And.intro hK ?_
  have hAs := am_Asn (o := 51) 29 (some 70) hAs (by decide)
  refine AW_newaN (n := 71) (m := 4096) (okX9_init.1 169 _ _ rfl) rfl (by decide) rfl rfl (Nat.le_of_ble_eq_true rfl) (Nat.le_of_ble_eq_true rfl) (Nat.le_of_ble_eq_true rfl) hn (fun h20 w20 => ?_)
  obtain ⟨hn, hKq, hKo, hAo, e20⟩ := w20
  have hK : am_K h20 51 = .inl 9 := (hKo 51 (by decide)).trans hK
  have hKs : am_K h20 58 = .inr (0, 3) := (hKo 58 (by decide)).trans hKs
  have hAs : am_A h20 51 9 = some 58 := (congrFun (hAo 51 (by decide)) 9).trans hAs
  refine AW_go okX9_init 3 ?_
  refine And.intro hK ?_
  have hAs := am_Asn (o := 51) 30 (some 71) hAs (by decide)
  refine AW_newaN (n := 72) (m := 65536) (okX9_init.1 177 _ _ rfl) rfl (by decide) rfl rfl (Nat.le_of_ble_eq_true rfl) (Nat.le_of_ble_eq_true rfl) (Nat.le_of_ble_eq_true rfl) hn (fun h21 w21 => ?_)
  obtain ⟨hn, hKq, hKo, hAo, e21⟩ := w21
  have hK : am_K h21 51 = .inl 9 := (hKo 51 (by decide)).trans hK
  have hKs : am_K h21 58 = .inr (0, 3) := (hKo 58 (by decide)).trans hKs
  have hAs : am_A h21 51 9 = some 58 := (congrFun (hAo 51 (by decide)) 9).trans hAs
  refine AW_go okX9_init 3 ?_
  refine And.intro hK ?_
  have hAs := am_Asn (o := 51) 31 (some 72) hAs (by decide)
  refine AW_newaN (n := 73) (m := 65536) (okX9_init.1 185 _ _ rfl) rfl (by decide) rfl rfl (Nat.le_of_ble_eq_true rfl) (Nat.le_of_ble_eq_true rfl) (Nat.le_of_ble_eq_true rfl) hn (fun h22 w22 => ?_)
  obtain ⟨hn, hKq, hKo, hAo, e22⟩ := w22
  have hK : am_K h22 51 = .inl 9 := (hKo 51 (by decide)).trans hK
  have hKs : am_K h22 58 = .inr (0, 3) := (hKo 58 (by decide)).trans hKs
  have hAs : am_A h22 51 9 = some 58 := (congrFun (hAo 51 (by decide)) 9).trans hAs
  refine AW_go okX9_init 3 ?_
  refine And.intro hK ?_
  have hAs := am_Asn (o := 51) 32 (some 73) hAs (by decide)
  refine AW_newaN (n := 74) (m := 65536) (okX9_init.1 193 _ _ rfl) rfl (by decide) rfl rfl (Nat.le_of_ble_eq_true rfl) (Nat.le_of_ble_eq_true rfl) (Nat.le_of_ble_eq_true rfl) hn (fun h23 w23 => ?_)
  obtain ⟨hn, hKq, hKo, hAo, e23⟩ := w23
  have hK : am_K h23 51 = .inl 9 := (hKo 51 (by decide)).trans hK
  have hKs : am_K h23 58 = .inr (0, 3) := (hKo 58 (by decide)).trans hKs
  have hAs : am_A h23 51 9 = some 58 := (congrFun (hAo 51 (by decide)) 9).trans hAs
  refine AW_go okX9_init 3 ?_
  refine And.intro hK ?_
  have hAs := am_Asn (o := 51) 33 (some 74) hAs (by decide)
  refine AW_newaN (n := 75) (m := 65536) (okX9_init.1 201 _ _ rfl) rfl (by decide) rfl rfl (Nat.le_of_ble_eq_true rfl) (Nat.le_of_ble_eq_true rfl) (Nat.le_of_ble_eq_true rfl) hn (fun h24 w24 => ?_)
  obtain ⟨hn, hKq, hKo, hAo, e24⟩ := w24
  have hK : am_K h24 51 = .inl 9 := (hKo 51 (by decide)).trans hK
  have hKs : am_K h24 58 = .inr (0, 3) := (hKo 58 (by decide)).trans hKs
  have hAs : am_A h24 51 9 = some 58 := (congrFun (hAo 51 (by decide)) 9).trans hAs
  refine AW_go okX9_init 3 ?_
  refine And.intro hK ?_
  have hAs := am_Asn (o := 51) 34 (some 75) hAs (by decide)
  refine AW_newaN (n := 76) (m := 131072) (okX9_init.1 209 _ _ rfl) rfl (by decide) rfl rfl (Nat.le_of_ble_eq_true rfl) (Nat.le_of_ble_eq_true rfl) (Nat.le_of_ble_eq_true rfl) hn (fun h25 w25 => ?_)
  obtain ⟨hn, hKq, hKo, hAo, e25⟩ := w25
  have hK : am_K h25 51 = .inl 9 := (hKo 51 (by decide)).trans hK
  have hKs : am_K h25 58 = .inr (0, 3) := (hKo 58 (by decide)).trans hKs
  have hAs : am_A h25 51 9 = some 58 := (congrFun (hAo 51 (by decide)) 9).trans hAs
  refine AW_go okX9_init 3 ?_
  refine And.intro hK ?_
  have hAs := am_Asn (o := 51) 35 (some 76) hAs (by decide)
  refine AW_newaN (n := 77) (m := 3) (okX9_init.1 216 _ _ rfl) rfl (by decide) rfl rfl (Nat.le_of_ble_eq_true rfl) (Nat.le_of_ble_eq_true rfl) (Nat.le_of_ble_eq_true rfl) hn (fun h26 w26 => ?_)
  obtain ⟨hn, hKq, hKo, hAo, e26⟩ := w26
  have hK : am_K h26 51 = .inl 9 := (hKo 51 (by decide)).trans hK
  have hKs : am_K h26 58 = .inr (0, 3) := (hKo 58 (by decide)).trans hKs
  have hAs : am_A h26 51 9 = some 58 := (congrFun (hAo 51 (by decide)) 9).trans hAs
  refine AW_go okX9_init 3 ?_
  refine And.intro hK ?_
  have hAs := am_Asn (o := 51) 38 (some 77) hAs (by decide)
  refine AW_newaN (n := 78) (m := 9) (okX9_init.1 224 _ _ rfl) rfl (by decide) rfl rfl (Nat.le_of_ble_eq_true rfl) (Nat.le_of_ble_eq_true rfl) (Nat.le_of_ble_eq_true rfl) hn (fun h27 w27 => ?_)
  obtain ⟨hn, hKq, hKo, hAo, e27⟩ := w27
  have hK : am_K h27 51 = .inl 9 := (hKo 51 (by decide)).trans hK
  have hKs : am_K h27 58 = .inr (0, 3) := (hKo 58 (by decide)).trans hKs
  have hAs : am_A h27 51 9 = some 58 := (congrFun (hAo 51 (by decide)) 9).trans hAs
  refine AW_go okX9_init 6 ?_
  refine And.intro hK ?_
  have hAs := am_Asn (o := 51) 39 (some 78) hAs (by decide)
  refine And.intro hK ?_
  refine AW_newaN (n := 79) (m := 96) (okX9_init.1 237 _ _ rfl) rfl (by decide) rfl rfl (Nat.le_of_ble_eq_true rfl) (Nat.le_of_ble_eq_true rfl) (Nat.le_of_ble_eq_true rfl) hn (fun h28 w28 => ?_)
  obtain ⟨hn, hKq, hKo, hAo, e28⟩ := w28
  have hK : am_K h28 51 = .inl 9 := (hKo 51 (by decide)).trans hK
  have hKs : am_K h28 58 = .inr (0, 3) := (hKo 58 (by decide)).trans hKs
  have hAs : am_A h28 51 9 = some 58 := (congrFun (hAo 51 (by decide)) 9).trans hAs
  refine AW_go okX9_init 3 ?_
  refine And.intro hK ?_
  have hAs := am_Asn (o := 51) 43 (some 79) hAs (by decide)
  refine AW_newaN (n := 80) (m := 2001) (okX9_init.1 246 _ _ rfl) rfl (by decide) rfl rfl (Nat.le_of_ble_eq_true rfl) (Nat.le_of_ble_eq_true rfl) (Nat.le_of_ble_eq_true rfl) hn (fun h29 w29 => ?_)
  obtain ⟨hn, hKq, hKo, hAo, e29⟩ := w29
  have hK : am_K h29 51 = .inl 9 := (hKo 51 (by decide)).trans hK
  have hKs : am_K h29 58 = .inr (0, 3) := (hKo 58 (by decide)).trans hKs
  have hAs : am_A h29 51 9 = some 58 := (congrFun (hAo 51 (by decide)) 9).trans hAs
  refine AW_go okX9_init 3 ?_
  refine And.intro hK ?_
  have hAs := am_Asn (o := 51) 45 (some 80) hAs (by decide)
  refine AW_newaN (n := 81) (m := 2001) (okX9_init.1 255 _ _ rfl) rfl (by decide) rfl rfl (Nat.le_of_ble_eq_true rfl) (Nat.le_of_ble_eq_true rfl) (Nat.le_of_ble_eq_true rfl) hn (fun h30 w30 => ?_)
  obtain ⟨hn, hKq, hKo, hAo, e30⟩ := w30
  have hK : am_K h30 51 = .inl 9 := (hKo 51 (by decide)).trans hK
  have hKs : am_K h30 58 = .inr (0, 3) := (hKo 58 (by decide)).trans hKs
  have hAs : am_A h30 51 9 = some 58 := (congrFun (hAo 51 (by decide)) 9).trans hAs
  refine AW_go okX9_init 3 ?_
  refine And.intro hK ?_
  have hAs := am_Asn (o := 51) 46 (some 81) hAs (by decide)
  refine AW_newaN (n := 82) (m := 2001) (okX9_init.1 264 _ _ rfl) rfl (by decide) rfl rfl (Nat.le_of_ble_eq_true rfl) (Nat.le_of_ble_eq_true rfl) (Nat.le_of_ble_eq_true rfl) hn (fun h31 w31 => ?_)
  obtain ⟨hn, hKq, hKo, hAo, e31⟩ := w31
  have hK : am_K h31 51 = .inl 9 := (hKo 51 (by decide)).trans hK
  have hKs : am_K h31 58 = .inr (0, 3) := (hKo 58 (by decide)).trans hKs
  have hAs : am_A h31 51 9 = some 58 := (congrFun (hAo 51 (by decide)) 9).trans hAs
  refine AW_go okX9_init 3 ?_
  refine And.intro hK ?_
  have hAs := am_Asn (o := 51) 47 (some 82) hAs (by decide)
  refine AW_newaN (n := 83) (m := 2001) (okX9_init.1 273 _ _ rfl) rfl (by decide) rfl rfl (Nat.le_of_ble_eq_true rfl) (Nat.le_of_ble_eq_true rfl) (Nat.le_of_ble_eq_true rfl) hn (fun h32 w32 => ?_)
  obtain ⟨hn, hKq, hKo, hAo, e32⟩ := w32
  have hK : am_K h32 51 = .inl 9 := (hKo 51 (by decide)).trans hK
  have hKs : am_K h32 58 = .inr (0, 3) := (hKo 58 (by decide)).trans hKs
  have hAs : am_A h32 51 9 = some 58 := (congrFun (hAo 51 (by decide)) 9).trans hAs
  refine AW_go okX9_init 3 ?_
  refine And.intro hK ?_
  have hAs := am_Asn (o := 51) 48 (some 83) hAs (by decide)
  refine AW_newaN (n := 84) (m := 8192) (okX9_init.1 282 _ _ rfl) rfl (by decide) rfl rfl (Nat.le_of_ble_eq_true rfl) (Nat.le_of_ble_eq_true rfl) (Nat.le_of_ble_eq_true rfl) hn (fun h33 w33 => ?_)
  obtain ⟨hn, hKq, hKo, hAo, e33⟩ := w33
  have hK : am_K h33 51 = .inl 9 := (hKo 51 (by decide)).trans hK
  have hKs : am_K h33 58 = .inr (0, 3) := (hKo 58 (by decide)).trans hKs
  have hAs : am_A h33 51 9 = some 58 := (congrFun (hAo 51 (by decide)) 9).trans hAs
  refine AW_go okX9_init 3 ?_
  refine And.intro hK ?_
  have hAs := am_Asn (o := 51) 49 (some 84) hAs (by decide)
  refine AW_newaN (n := 85) (m := 2002) (okX9_init.1 291 _ _ rfl) rfl (by decide) rfl rfl (Nat.le_of_ble_eq_true rfl) (Nat.le_of_ble_eq_true rfl) (Nat.le_of_ble_eq_true rfl) hn (fun h34 w34 => ?_)
  obtain ⟨hn, hKq, hKo, hAo, e34⟩ := w34
  have hK : am_K h34 51 = .inl 9 := (hKo 51 (by decide)).trans hK
  have hKs : am_K h34 58 = .inr (0, 3) := (hKo 58 (by decide)).trans hKs
  have hAs : am_A h34 51 9 = some 58 := (congrFun (hAo 51 (by decide)) 9).trans hAs
  refine AW_go okX9_init 3 ?_
  refine And.intro hK ?_
  have hAs := am_Asn (o := 51) 54 (some 85) hAs (by decide)
  refine AW_newaN (n := 86) (m := 180090) (okX9_init.1 299 _ _ rfl) rfl (by decide) rfl rfl (Nat.le_of_ble_eq_true rfl) (Nat.le_of_ble_eq_true rfl) (Nat.le_of_ble_eq_true rfl) hn (fun h35 w35 => ?_)
  obtain ⟨hn, hKq, hKo, hAo, e35⟩ := w35
  have hK : am_K h35 51 = .inl 9 := (hKo 51 (by decide)).trans hK
  have hKs : am_K h35 58 = .inr (0, 3) := (hKo 58 (by decide)).trans hKs
  have hAs : am_A h35 51 9 = some 58 := (congrFun (hAo 51 (by decide)) 9).trans hAs
  refine AW_go okX9_init 37 ?_
  refine And.intro hK ?_
  have hAs := am_Asn (o := 51) 55 (some 86) hAs (by decide)
  refine And.intro (fun c => absurd c (by decide)) (fun _ => ?_)
  refine And.intro hK (Exists.intro _ (And.intro hAs ?_))
  refine Exists.intro 3 (And.intro hKs (And.intro (by unfold vp_in; decide) ?_))
  refine And.intro (fun c => absurd c (by decide)) (fun _ => ?_)
  refine And.intro hK (Exists.intro _ (And.intro hAs ?_))
  refine Exists.intro 3 (And.intro hKs (And.intro (by unfold vp_in; decide) ?_))
  refine And.intro (fun c => absurd c (by decide)) (fun _ => ?_)
  refine And.intro hK (Exists.intro _ (And.intro hAs ?_))
  refine Exists.intro 3 (And.intro hKs (And.intro (by unfold vp_in; decide) ?_))
  refine And.intro (fun _ => ?_) (fun c => absurd (by decide) c)
  refine And.intro ⟨Nat.le_refl _, Nat.le_refl _⟩ (And.intro rfl (And.intro rfl ?_))
  rw [e35, e34, e33, e32, e31, e30, e29, e28, e27, e26, e25, e24, e23, e22, e21, e20, e19, e18, e17, e16, e15, e14, e13, e12, e11, e10, e9, e8, e7, e6, e5, e4, e3, e2, e1]
  rfl
