/-! ===== p1: the survey of a fresh talk ===== -/
theorem am_b2u {β : Type} {h h2 : am_H} (F : Unit → am_H → Option β) {o : Option (Unit × am_H)} (e : o = some ((), h2)) : am_b2 o F = F () h2 := by rw [e]; rfl
/-- what clear() does of a survey whose slots are empty -/
def CLf (n : Nat) (h : am_H) : Option (Unit × am_H) := am_b2 (f_J7_fill_53178 n 38 (Int32.ofInt 0) h) fun _ h5 => (am_b2 (f_J7_fill_53178 n 39 (Int32.ofInt (-1)) h5) fun _ h8 => (some ((), h8)))
def hc4 (h : am_H) : am_H := am_sI (am_sI (am_sI (am_sI h 37 0 (Int32.ofInt 0)) 37 12 (Int32.ofInt 0)) 37 1 (Int32.ofInt 0)) 37 4 (Int32.ofInt 0)
theorem clrF (n : Nat) (h : am_H) (hK : am_K h 44 = .inr (0, 4096)) (hz : ∀ j, j < 4096 → am_I h 44 j = 0) : f_X6_clear (n + 4096 + 1) 37 h = CLf (n + 4096 + 1) (hc4 h) := by
  have e := pf_fillF (q := 44) (N := 4096) (x := Int32.ofInt 0) (by decide) n (hc4 h) hK
  have e3 : am_I (hc4 h) 44 = am_I h 44 := by
    unfold hc4
    rw [hp_I' _ _ _ (by decide), hp_I' _ _ _ (by decide), hp_I' _ _ _ (by decide), hp_I' _ _ _ (by decide)]
  rw [fl_id (fun j _ hj => by rw [e3]; exact hz j hj), hp_sR_id] at e
  unfold f_X6_clear CLf
  show am_b2 (f_J7_fill_53178 (n + 4096 + 1) 44 (Int32.ofInt 0) (hc4 h)) _ = _
  rw [e]; rfl
def SVf (n : Nat) (h : am_H) : Option ((Nat × am_H) × Nat × Nat) := am_bc (am_b2 (CLf (n + 4096 + 1) (hc4 h)) fun _ h2 => (am_b2 (f_X6_meet (n + 4096 + 1) 37 (Int64.ofNat (0 : Fin 2).val) (Int32.ofInt (-1)) (Int32.ofInt (-1)) h2) fun _ h5 => (g_X6_explore (n + 4096 + 1) 0 37 (Int32.ofInt 0) (Int32.ofInt 0) 0 0 h5))) fun _ h3 => (some ((37, (am_sI h3 0 13 (Int32.ofInt 1))), 0, 0))
theorem svF (n : Nat) (h : am_H) (hK : am_K h 44 = .inr (0, 4096)) (hz : ∀ j, j < 4096 → am_I h 44 j = 0) (h13 : am_I h 0 13 = 0) : f_X8_surveyNow (n + 4096 + 1) h = SVf n h := by
  unfold f_X8_surveyNow f_X6_explore SVf
  rw [if_pos h13, clrF n h hK hz]
/-- the clearing of the reference's table -/
theorem clr9 (x : Int64) : ∀ (d i n : Nat) (h : am_H), i + d = 8192 → g_X9_meetAll (n + d + 1) 0 x (nI i) 0 0 h = g_X9_meetAll (n + 1) 0 x (nI 8192) 0 0 (am_sR h 95 (hp_fl (am_I h 95) i 8192 (Int32.ofInt 0))) := by
  intro d
  induction d with
  | zero =>
    intro i n h hi
    have : i = 8192 := by omega
    subst this
    rw [fl_nil, hp_sR_id]
  | succ d ih =>
    intro i n h hi
    show (if Int32.ofInt 8192 ≤ nI i then _ else _) = _
    rw [if_neg (show ¬ Int32.ofInt 8192 ≤ nI i from nI_ge (a := i) (b := 8192) (by omega) (by decide)), hp_vp (by omega) (by decide)]
    show g_X9_meetAll (n + d + 1) 0 x (nI i + Int32.ofInt 1) 0 0 (am_sI h 95 (nI i).toNatClampNeg (Int32.ofInt 0)) = _
    rw [hp_1, nI_clamp (by omega), ih (i + 1) n _ (by omega), hp_I, fl_step _ _ (by omega), hp_sR_sI]
def MAf (n : Nat) (h : am_H) : Option (Unit × am_H) := am_b2 (f_X9_asState (n + 8192 + 1) (am_sI (am_sI (am_sI h 62 52 (Int32.ofInt 1)) 62 53 (Int32.ofInt 0)) 62 56 (Int32.ofInt 0))) fun r2 h3 => g_X9_meetAll (n + 1) 0 r2 (nI 8192) 0 0 h3
theorem maF (n : Nat) (h : am_H) (hz : ∀ j, j < 8192 → am_I h 95 j = 0) (h52 : am_I h 62 52 = 0) : f_X9_meetAll (n + 8192 + 1) h = MAf n h := by
  unfold f_X9_meetAll MAf
  rw [if_pos h52]
  cases e : f_X9_asState (n + 8192 + 1) (am_sI (am_sI (am_sI h 62 52 (Int32.ofInt 1)) 62 53 (Int32.ofInt 0)) 62 56 (Int32.ofInt 0)) with
  | none => rw [b2n, b2n]
  | some p =>
    obtain ⟨v, h'⟩ := p
    have er := ro_X9_asState _ _ e
    subst er
    rw [b2s, b2s]
    have c := clr9 v 8192 0 n (am_sI (am_sI (am_sI h 62 52 (Int32.ofInt 1)) 62 53 (Int32.ofInt 0)) 62 56 (Int32.ofInt 0)) (by omega)
    have e3 : am_I (am_sI (am_sI (am_sI h 62 52 (Int32.ofInt 1)) 62 53 (Int32.ofInt 0)) 62 56 (Int32.ofInt 0)) 95 = am_I h 95 := by
      rw [hp_I' _ _ _ (by decide), hp_I' _ _ _ (by decide), hp_I' _ _ _ (by decide)]
    rw [fl_id (fun j _ hj => by rw [e3]; exact hz j hj), hp_sR_id] at c
    exact c
def gC {α : Type} (o : Option ((α × am_H) × Nat × Nat)) : am_H := match o with
  | some ((_, h), _, _) => h
  | none => hF
theorem gC_ok {α : Type} {o : Option ((α × am_H) × Nat × Nat)} {v : α} {c s : Nat} (h : o.map (fun p => (p.1.1, p.2)) = some (v, c, s)) : o = some ((v, gC o), c, s) := by
  cases o with
  | none => cases h
  | some p =>
    obtain ⟨⟨a, b⟩, c', s'⟩ := p
    obtain ⟨rfl, rfl, rfl⟩ := am_i3 h
    rfl
def hSV : am_H := gC (SVf 900 hF)
theorem e_sv0 : SVf 900 hF = some ((37, hSV), 0, 0) := gC_ok (by decide +kernel)
theorem e_sv : f_X8_surveyNow 4997 hF = some ((37, hSV), 0, 0) := (svF 900 hF (by rw [hF_K 44 (by decide)]; rfl) (fun j _ => zr44 j) (by decide +kernel)).trans e_sv0
