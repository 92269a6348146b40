/-! ===== watch ===== -/
def raB (r : Nat → Int32) : Nat → Nat → Bool
  | 0, _ => true
  | k + 1, i => rd_mark (r i) && (rd_dig (r (i + 1)) && (rd_let (r (i + 2)) && raB r k (i + 3)))
def trC (r : Nat → Int32) (j : Nat) : Nat := (cd_book r (3 * j)).toNatClampNeg
def wdT (r : Nat → Int32) : Nat → List Nat
  | 0 => []
  | j + 1 => soC (trC r j) :: wdT r j
theorem wdT_24 (r : Nat → Int32) : ∀ j a, a ∈ wdT r j → a < 24 := by
  intro j
  induction j with
  | zero => intro a h; cases h
  | succ j ih =>
    intro a h
    rcases List.mem_cons.mp h with e | e
    · rw [e]; exact soC_lt _
    · exact ih a e
theorem cb_ok {r : Nat → Int32} {i : Nat} (hx : rd_dig (r (i + 1)) = true) (hy : rd_let (r (i + 2)) = true) : ∃ c, cdG c ∧ cd_book r i = nI c := by
  unfold cd_book
  by_cases c : r i = Int32.ofInt 63
  · rw [if_pos c, i_asc2]; exact (cd_e1 hx hy).2
  · rw [if_neg c, i_asc]; exact (cd_e1 hx hy).1
theorem tr_ok {r : Nat → Int32} {k j : Nat} (h : raB r (k + 1) (3 * j) = true) : cdG (trC r j) ∧ cd_book r (3 * j) = nI (trC r j) ∧ raB r k (3 * (j + 1)) = true := by
  have h : (rd_mark (r (3 * j)) && (rd_dig (r (3 * j + 1)) && (rd_let (r (3 * j + 2)) && raB r k (3 * j + 3)))) = true := h
  rw [Bool.and_eq_true, Bool.and_eq_true, Bool.and_eq_true] at h
  obtain ⟨-, h2, h3, h4⟩ := h
  obtain ⟨c, g, e⟩ := cb_ok h2 h3
  have ec : trC r j = c := by unfold trC; rw [e]; exact nI_clamp (by have := cdG_200 g; omega)
  rw [ec]
  exact ⟨g, e, by rw [show 3 * (j + 1) = 3 * j + 3 from by omega]; exact h4⟩
noncomputable def wtV (n : Nat) (so : Nat → Nat) (fo : Nat → Nat → Prop) (r : Nat → Int32) : Nat → Nat → Nat → Int32
  | 0, X, j => bif uD (bNx fo X 0) then nI (j + 100) else nI j
  | k + 1, X, j => if bLd n so fo X (soC (trC r j)) = 0 then nI j else wtV n so fo r k (bLd n so fo X (soC (trC r j))) (j + 1)
theorem d3_m : ∀ m, m < 61 → (nI m - nI m / Int32.ofInt 3 * Int32.ofInt 3) = nI (m % 3) ∧ nI m / Int32.ofInt 3 = nI (m / 3) := by decide +kernel
/-- the class looks whether the page is a row of acts -/
theorem ra_8 {h : am_H} {m : Nat} {tx : Nat → Int32} (t : tx8 h 1 2 m tx) (F : Nat) : ∀ k i, i + 3 * k = m → g_X5_isRowOfActs (F + k + 1) 0 1 (nI i) h = some (bI (raB tx k i), h) := by
  obtain ⟨t1, t2, t3, t4, t5, t6, t7, t8⟩ := t
  intro k
  induction k with
  | zero =>
    intro i hi
    rw [g_X5_isRowOfActs, hp_isO t1, cond_true, t4, show nI i + Int32.ofInt 2 = nI (i + 2) from nI_add i 2, if_pos (nI_le (by omega) (by omega))]
    rfl
  | succ k ih =>
    intro i hi
    rw [show F + (k + 1) + 1 = (F + k + 1) + 1 from rfl, g_X5_isRowOfActs, hp_isO t1, cond_true, t4, show nI i + Int32.ofInt 2 = nI (i + 2) from nI_add i 2, if_neg (nI_ge (a := i + 2) (b := m) (by omega) (by omega)), t2, b_some, hp_ln t3, b_some, hp_vp (show i < 60 by omega) (by decide), cond_true, nI_clamp (show i < 2 ^ 31 by omega), t5 i (by omega), rd_m5, b2s]
    show _ = some (bI (rd_mark (tx i) && (rd_dig (tx (i + 1)) && (rd_let (tx (i + 2)) && raB tx k (i + 3)))), h)
    cases rd_mark (tx i) with
    | false => rw [if_pos (show bI false = 0 from rfl)]; rfl
    | true =>
      rw [if_neg (show ¬ bI true = 0 by decide), hp_isO t1, cond_true, t2, b_some, hp_ln t3, b_some, hp_1, hp_vp (show i + 1 < 60 by omega) (by decide), cond_true, nI_clamp (show i + 1 < 2 ^ 31 by omega), t5 (i + 1) (by omega), rd_d5, b2s, Bool.true_and]
      cases rd_dig (tx (i + 1)) with
      | false => rw [if_pos (show bI false = 0 from rfl)]; rfl
      | true =>
        rw [if_neg (show ¬ bI true = 0 by decide), hp_isO t1, cond_true, t2, b_some, hp_ln t3, b_some, hp_vp (show i + 2 < 60 by omega) (by decide), cond_true, nI_clamp (show i + 2 < 2 ^ 31 by omega), t5 (i + 2) (by omega), rd_l5, b2s, Bool.true_and]
        cases rd_let (tx (i + 2)) with
        | false => rw [if_pos (show bI false = 0 from rfl)]; rfl
        | true =>
          rw [if_neg (show ¬ bI true = 0 by decide), show nI i + Int32.ofInt 3 = nI (i + 3) from nI_add i 3, ih (i + 3) (by omega), Bool.true_and]
theorem bc_8 {h : am_H} {m : Nat} {tx : Nat → Int32} (t : tx8 h 1 2 m tx) {i : Nat} (hi : i + 2 < 60) : f_X5_bookCode 1 (nI i) h = some (cd_book tx i, h) := by
  have e := cd_8 t 0 0 hi
  rw [if_pos rfl] at e
  have e : am_b2 (f_X5_bookCode 1 (nI i) h) (fun r84 h85 => (some (r84, h85))) = some (cd_book tx i, h) := e
  generalize f_X5_bookCode 1 (nI i) h = z at e
  cases z with
  | none => cases e
  | some z => exact e
/-- the class goes through the page by the machine -/
theorem wt8x {h : am_H} {m : Nat} {tx : Nat → Int32} (t : tx8 h 1 2 m tx) {mm e r n K R P : Nat} {so : Nat → Nat} {fo : Nat → Nat → Prop} {la : Nat → Nat} (n15 : n ≤ 15) (M : M8 h mm e r P (bMx n so fo K R la) (bMe n so fo K la)) (fd : fdOk n so fo K R P la) (a1 : Int32) (F : Nat) : ∀ k j v, j + k = m / 3 → raB tx k (3 * j) = true → mPl (bMx n so fo K R la) (wdT tx j) = some v → g_X8_watch (F + k + 1) 0 a1 mm (nI (m / 3)) (nI v) (nI j) h = some ((wtV n so fo tx k (uMk (bSet n so fo (wdT tx j))) j, h), 0, 0) := by
  have m60 := t.2.2.2.2.2.2.2
  obtain ⟨M1, M2, M3, M4, M5, M6, M7, M8'⟩ := M
  have P4 := (fd_rg fd).1.2
  have lt := (fd_rg fd).2
  intro k
  induction k with
  | zero =>
    intro j v hj hr hv
    have : j = m / 3 := by omega
    subst this
    obtain ⟨vP, acc⟩ := (m_end n15 fd (wdT_24 tx (m / 3))).2 v hv
    have ee : bMe n so fo K la v = uD (bNx fo (uMk (bSet n so fo (wdT tx (m / 3)))) 0) := by
      rw [Bool.eq_iff_iff]
      exact acc.trans ((bAcc_k n15 _).trans ⟨fun q => uD_i q, fun q => uD_e q⟩)
    rw [g_X8_watch, if_pos (Int32.le_refl _), hp_isO M1, cond_true, M3, b_some, hp_ln M5, b_some, hp_vp vP (by omega), cond_true, nI_clamp (show v < 2 ^ 31 by omega), M7 v vP, ee]
    show _ = some ((bif uD (bNx fo (uMk (bSet n so fo (wdT tx (m / 3)))) 0) then nI (m / 3 + 100) else nI (m / 3), h), 0, 0)
    cases uD (bNx fo (uMk (bSet n so fo (wdT tx (m / 3)))) 0) with
    | true => rw [if_neg (show ¬ bI true = 0 by decide), b_some, show nI (m / 3) + Int32.ofInt 100 = nI (m / 3 + 100) from nI_add _ 100]; rfl
    | false => rw [if_pos (show bI false = 0 from rfl), b_some]; rfl
  | succ k ih =>
    intro j v hj hr hv
    obtain ⟨g, ec, hr1⟩ := tr_ok hr
    obtain ⟨vP, -⟩ := (m_end n15 fd (wdT_24 tx j)).2 v hv
    have s24 := soC_lt (trC tx j)
    have nxv : bMx n so fo K R la (24 * v + soC (trC tx j)) = mPl (bMx n so fo K R la) (wdT tx (j + 1)) := by
      show _ = (mPl (bMx n so fo K R la) (wdT tx j)).bind fun v => bMx n so fo K R la (24 * v + soC (trC tx j))
      rw [hv]; rfl
    have x3 : (Int32.ofInt 3) * nI j = nI (3 * j) := by rw [show Int32.ofInt 3 = nI 3 from rfl, nI_mul]
    have x24 : ((Int32.ofInt 24) * nI v) + nI (soC (trC tx j)) = nI (24 * v + soC (trC tx j)) := by rw [show Int32.ofInt 24 = nI 24 from rfl, nI_mul, nI_add]
    have bh : f_X3_behind mm (nI v) (nI (soC (trC tx j))) h = some (oI (mPl (bMx n so fo K R la) (wdT tx (j + 1))), h) := by
      unfold f_X3_behind
      rw [hp_isO M1, cond_true, M4, b_some, hp_ln M6, b_some, x24, hp_vp (show 24 * v + soC (trC tx j) < 24 * P by omega) (by omega), cond_true, nI_clamp (show 24 * v + soC (trC tx j) < 2 ^ 31 by omega), M8' _ (by omega), nxv]
    rw [show F + (k + 1) + 1 = (F + k + 1) + 1 from rfl, g_X8_watch, if_neg (nI_ge (a := j) (b := m / 3) (by omega) (by omega)), x3, bc_8 t (by omega), b2s, ec, so_8x g, b2s, hp_isO M1, cond_true, bh, b2s]
    show _ = some ((if bLd n so fo (uMk (bSet n so fo (wdT tx j))) (soC (trC tx j)) = 0 then nI j else wtV n so fo tx k (bLd n so fo (uMk (bSet n so fo (wdT tx j))) (soC (trC tx j))) (j + 1), h), 0, 0)
    rw [bLd_w n15]
    rcases m_book n15 fd (wdT tx (j + 1)) (wdT_24 tx (j + 1)) with ⟨z0, zn⟩ | ⟨i, iK, -, nz, iP, zs⟩
    · have zn : mPl (bMx n so fo K R la) (wdT tx (j + 1)) = none := zn
      have z0 : uMk (bSet n so fo (soC (trC tx j) :: wdT tx j)) = 0 := z0
      rw [zn, if_neg (show ¬ (0 : Int32) ≤ oI none by decide), if_pos z0]
    · have zs : mPl (bMx n so fo K R la) (wdT tx (j + 1)) = some (bKap n so fo K R i) := zs
      have nz : uMk (bSet n so fo (soC (trC tx j) :: wdT tx j)) ≠ 0 := nz
      rw [zs, if_pos (show (0 : Int32) ≤ oI (some (bKap n so fo K R i)) from nI_nge0 (by omega)), if_neg nz, hp_1]
      exact ih (j + 1) _ (by omega) hr1 zs
/-- the reference's row of acts -/
theorem ra_9 {h : am_H} {m : Nat} {tx : Nat → Int32} (m60 : m ≤ 60) (e0 : am_I h 51 0 = nI m) (e63 : ∀ j, j < 60 → am_I h 52 j = tx j) (a1 : Int32) (F : Nat) : ∀ k i, i + 3 * k = m → g_X9_watch (F + k + 2) 0 a1 (Int32.ofInt 1) (nI i) 0 0 0 h = (bif raB tx k i then g_X9_watch (F + 1) 1 a1 (Int32.ofInt 1) (Int32.ofInt 1) (Int32.ofInt 0) (Int32.ofInt 1) (Int32.ofInt 0) h else some (Int32.ofInt (-103), h)) := by
  intro k
  induction k with
  | zero =>
    intro i hi
    rw [show F + 0 + 2 = (F + 1) + 1 from rfl, g_X9_watch, q00, cond_true]
    show (if am_I h 51 0 ≤ nI i then _ else _) = _
    rw [e0, if_pos (nI_le (by omega) (by omega)), if_neg (show ¬ Int32.ofInt 1 = 0 by decide)]
    rfl
  | succ k ih =>
    intro i hi
    have bad : g_X9_watch (F + k + 2) 0 a1 (Int32.ofInt 0) (nI (i + 3)) 0 0 0 h = some (Int32.ofInt (-103), h) := by
      rw [show F + k + 2 = (F + k + 1) + 1 from rfl, g_X9_watch, q00, cond_true]
      show (if am_I h 51 0 ≤ nI (i + 3) then _ else _) = _
      rw [if_pos (show Int32.ofInt 0 = 0 from rfl)]
      split
      · rfl
      · rfl
    rw [show F + (k + 1) + 2 = (F + k + 2) + 1 from rfl, g_X9_watch, q00, cond_true]
    show (if am_I h 51 0 ≤ nI i then _ else _) = _
    rw [e0, if_neg (nI_ge (a := i) (b := m) (by omega) (by omega)), if_neg (show ¬ Int32.ofInt 1 = 0 by decide), hp_vp (show i < 60 by omega) (by decide), cond_true, nI_clamp (show i < 2 ^ 31 by omega), e63 i (by omega), show nI i + Int32.ofInt 3 = nI (i + 3) from nI_add i 3]
    have st : (am_let (bif am_vp (nI i + (Int32.ofInt 1)) 60 then (am_b2 (f_X9_isOfficeSign (am_I h 52 (Int32.toNatClampNeg (nI i + (Int32.ofInt 1)))) h) fun r14 h15 => ((if r14 = 0 then some ((Int32.ofInt 0), h15) else bif am_vp (nI i + (Int32.ofInt 2)) 60 then (am_b2 (f_X9_isLetterSign (am_I h15 52 (Int32.toNatClampNeg (nI i + (Int32.ofInt 2)))) h15) fun r19 h20 => ((if r19 = 0 then some ((Int32.ofInt 0), h20) else some ((Int32.ofInt 1), h20)))) else none))) else none) fun b10 => ((if tx i = (Int32.ofInt 33) then b10 else (if tx i = (Int32.ofInt 63) then b10 else some ((Int32.ofInt 0), h))))) = some (bI (rd_mark (tx i) && (rd_dig (tx (i + 1)) && rd_let (tx (i + 2)))), h) := by
      have b10 : (bif am_vp (nI i + (Int32.ofInt 1)) 60 then (am_b2 (f_X9_isOfficeSign (am_I h 52 (Int32.toNatClampNeg (nI i + (Int32.ofInt 1)))) h) fun r14 h15 => ((if r14 = 0 then some ((Int32.ofInt 0), h15) else bif am_vp (nI i + (Int32.ofInt 2)) 60 then (am_b2 (f_X9_isLetterSign (am_I h15 52 (Int32.toNatClampNeg (nI i + (Int32.ofInt 2)))) h15) fun r19 h20 => ((if r19 = 0 then some ((Int32.ofInt 0), h20) else some ((Int32.ofInt 1), h20)))) else none))) else none) = some (bI (rd_dig (tx (i + 1)) && rd_let (tx (i + 2))), h) := by
        rw [hp_1, hp_vp (show i + 1 < 60 by omega) (by decide), cond_true, nI_clamp (show i + 1 < 2 ^ 31 by omega), e63 (i + 1) (by omega), rd_d9, b2s]
        cases rd_dig (tx (i + 1)) with
        | false => rw [if_pos (show bI false = 0 from rfl)]; rfl
        | true =>
          rw [if_neg (show ¬ bI true = 0 by decide), show nI i + Int32.ofInt 2 = nI (i + 2) from nI_add i 2, hp_vp (show i + 2 < 60 by omega) (by decide), cond_true, nI_clamp (show i + 2 < 2 ^ 31 by omega), e63 (i + 2) (by omega), rd_l9, b2s]
          cases rd_let (tx (i + 2)) with
          | false => rw [if_pos (show bI false = 0 from rfl)]; rfl
          | true => rw [if_neg (show ¬ bI true = 0 by decide)]; rfl
      rw [b10]
      show (if tx i = (Int32.ofInt 33) then _ else _) = _
      unfold rd_mark
      by_cases c1 : tx i = Int32.ofInt 33
      · rw [if_pos c1, decide_eq_true c1]; rfl
      · rw [if_neg c1, decide_eq_false c1]
        by_cases c2 : tx i = Int32.ofInt 63
        · rw [if_pos c2, decide_eq_true c2]; rfl
        · rw [if_neg c2, decide_eq_false c2]; rfl
    rw [st, b2s]
    show _ = (bif rd_mark (tx i) && (rd_dig (tx (i + 1)) && (rd_let (tx (i + 2)) && raB tx k (i + 3))) then _ else _)
    cases rd_mark (tx i) with
    | false => exact bad
    | true =>
      cases rd_dig (tx (i + 1)) with
      | false => exact bad
      | true =>
        cases rd_let (tx (i + 2)) with
        | false => exact bad
        | true => exact ih (i + 3) (by omega)
theorem wt9_0 (F : Nat) (a1 x2 x3 x4 x6 : Int32) (h : am_H) : g_X9_watch (F + 1) 1 a1 x2 x3 x4 (Int32.ofInt 0) x6 h = some (x4, h) := by
  rw [g_X9_watch, q10, cond_false]
  show (if am_I h 51 0 ≤ x6 then _ else _) = _
  rw [if_pos (show Int32.ofInt 0 = 0 from rfl), b2s]
  split
  · rfl
  · rfl
/-- the reference goes through the page by sets -/
theorem wt_9 {h : am_H} {m b n : Nat} {so : Nat → Nat} {fo : Nat → Nat → Prop} {tx : Nat → Int32} (m60 : m ≤ 60) (e0 : am_I h 51 0 = nI m) (e63 : ∀ j, j < 60 → am_I h 52 j = tx j) (hb : B9 h b n so fo) (hso : ∀ i, so i < 24) (x2 : Int32) (F : Nat) (hF : 20 ≤ F) : ∀ k j X, 3 * j + 3 * k = m → raB tx k (3 * j) = true → X < 65536 → g_X9_watch (F + k + 1) 1 (nI b) x2 (nI X) (nI j) (Int32.ofInt 1) (nI (3 * j)) h = some (wtV n so fo tx k X j, h) := by
  intro k
  induction k with
  | zero =>
    intro j X hj hr hX
    rw [g_X9_watch, q10, cond_false]
    show (if am_I h 51 0 ≤ nI (3 * j) then _ else _) = _
    rw [e0, if_pos (nI_le (by omega) (by omega)), if_neg (show ¬ Int32.ofInt 1 = 0 by decide), en_9 hb hX (by omega), b2s]
    show _ = some (bif uD (bNx fo X 0) then nI (j + 100) else nI j, h)
    cases uD (bNx fo X 0) with
    | true => rw [if_neg (show ¬ bI true = 0 by decide), b2s, show Int32.ofInt 100 + nI j = nI (j + 100) from by rw [show Int32.ofInt 100 = nI 100 from rfl, nI_add, Nat.add_comm]]; rfl
    | false => rw [if_pos (show bI false = 0 from rfl), b2s]; rfl
  | succ k ih =>
    intro j X hj hr hX
    obtain ⟨g, ec, hr1⟩ := tr_ok hr
    have s24 := soC_lt (trC tx j)
    have ecd : ∀ z, (Option.bind (if tx (3 * j) = Int32.ofInt 63 then some (Int32.ofInt 100) else some (Int32.ofInt 0)) z : Option (Int32 × am_H)) = z (if tx (3 * j) = Int32.ofInt 63 then Int32.ofInt 100 else Int32.ofInt 0) := by
      intro z
      split <;> rfl
    have ec2 : (((if tx (3 * j) = Int32.ofInt 63 then Int32.ofInt 100 else Int32.ofInt 0) + ((Int32.ofInt 10) * (tx (3 * j + 1) - Int32.ofInt 48))) + tx (3 * j + 2)) - Int32.ofInt 97 = nI (trC tx j) := ec
    rw [show F + (k + 1) + 1 = (F + k + 1) + 1 from rfl, g_X9_watch, q10, cond_false]
    show (if am_I h 51 0 ≤ nI (3 * j) then _ else _) = _
    rw [e0, if_neg (nI_ge (a := 3 * j) (b := m) (by omega) (by omega)), if_neg (show ¬ Int32.ofInt 1 = 0 by decide), hp_vp (show 3 * j < 60 by omega) (by decide), cond_true, nI_clamp (show 3 * j < 2 ^ 31 by omega), e63 (3 * j) (by omega), ecd, hp_1, hp_vp (show 3 * j + 1 < 60 by omega) (by decide), cond_true, show nI (3 * j) + Int32.ofInt 2 = nI (3 * j + 2) from nI_add _ 2, hp_vp (show 3 * j + 2 < 60 by omega) (by decide), cond_true, nI_clamp (show 3 * j + 1 < 2 ^ 31 by omega), nI_clamp (show 3 * j + 2 < 2 ^ 31 by omega), e63 (3 * j + 1) (by omega), e63 (3 * j + 2) (by omega), ec2, so_9x g, b2s, ld_9 hb hso X _ s24 (by omega), b2s]
    have lt := uMk_lt (fun q => 1 ≤ q ∧ q ≤ n ∧ so q = soC (trC tx j) ∧ bNx fo X q)
    have lt : bLd n so fo X (soC (trC tx j)) < 65536 := lt
    show _ = some (if bLd n so fo X (soC (trC tx j)) = 0 then nI j else wtV n so fo tx k (bLd n so fo X (soC (trC tx j))) (j + 1), h)
    by_cases z : bLd n so fo X (soC (trC tx j)) = 0
    · rw [z, if_pos (show nI 0 = 0 from rfl), b_some, if_pos (show Int32.ofInt 0 = 0 from rfl), b_some, if_pos (show Int32.ofInt 0 = 0 from rfl), b_some, if_pos rfl, wt9_0, lt_add0]
    · rw [if_neg (fun q => z ((nI_0e (by omega)).mp q)), b_some, if_neg (show ¬ Int32.ofInt 1 = 0 by decide), b_some, if_neg (show ¬ Int32.ofInt 1 = 0 by decide), b_some, if_neg z, hp_1, show nI (3 * j) + Int32.ofInt 3 = nI (3 * (j + 1)) from nI_add _ 3]
      exact ih (j + 1) _ (by omega) hr1 lt
theorem cl_12 (a1 : Int32) {h : am_H} {c sl : Nat} (J : JJ h c sl) : am_stat h ∧ po_12 a1 JJ h c sl := by
  obtain ⟨S, ok, x8, x9⟩ := J
  obtain ⟨F, hF⟩ := big_F
  refine ⟨X8_st x8, F, F, ?_⟩
  have n5 := (X8_n x8).1
  have n2 := x9.2.1.2.1.1
  have m60 := ok.1
  have t := X8_tx x8
  obtain ⟨d1, d2⟩ := d3_m S.m (by omega)
  rcases bk_89 a1 ok.2.1 with ⟨b, hb, rfl, e⟩ | e
  · have bkb := ok.2.2.1 b hb
    have out : f_X5_isRowOfActs F 1 h = some (bI false, h) → f_X9_watch F (nI b) h = some (Int32.ofInt (-103), h) → ∃ (v : Int32) (h1 h2 : am_H) (c1 s1 : Nat), f_X8_watch F (nI b) h = some ((v, h1), c1, s1) ∧ f_X9_watch F (nI b) h1 = some (v, h2) ∧ c + c1 ≤ 600000 ∧ sl + s1 ≤ 7302250 ∧ JJ h2 (c + c1) (sl + s1) := by
      intro q1 q2
      refine ⟨Int32.ofInt (-103), h, h, 0, 0, ?_, q2, JJ_ro ok x8 x9⟩
      unfold f_X8_watch
      rw [(e h).1 n5, b2s, if_neg (show ¬ bI true = 0 by decide), q1, b2s, if_pos (show bI false = 0 from rfl)]
    by_cases m3 : S.m % 3 = 0
    · have row := ra_8 t (F - S.m / 3 - 1) (S.m / 3) 0 (by omega)
      rw [show F - S.m / 3 - 1 + S.m / 3 + 1 = F from by omega] at row
      have r8 : f_X5_isRowOfActs F 1 h = some (bI (raB S.tx (S.m / 3) 0), h) := by
        unfold f_X5_isRowOfActs
        rw [hp_isO t.1, cond_true, t.2.2.2.1, d1, m3, if_pos (show nI 0 = 0 from rfl)]
        exact row
      have r9 : ∀ {g : am_H}, X9p g S → f_X9_watch F (nI b) g = (bif raB S.tx (S.m / 3) 0 then g_X9_watch (F - S.m / 3 - 1) 1 (nI b) (Int32.ofInt 1) (Int32.ofInt 1) (Int32.ofInt 0) (Int32.ofInt 1) (Int32.ofInt 0) g else some (Int32.ofInt (-103), g)) := by
        intro g xg
        have z := ra_9 m60 xg.2.1.1.1 xg.2.1.1.2 (nI b) (F - S.m / 3 - 2) (S.m / 3) 0 (by omega)
        rw [show F - S.m / 3 - 2 + S.m / 3 + 2 = F from by omega, show F - S.m / 3 - 2 + 1 = F - S.m / 3 - 1 from by omega] at z
        unfold f_X9_watch
        rw [(e g).2 xg.2.1.2.1.1, b2s, if_neg (show ¬ bI true = 0 by decide), xg.2.1.1.1, d1, m3, if_pos (show nI 0 = 0 from rfl), b_some]
        exact z
      cases hr : raB S.tx (S.m / 3) 0 with
      | false =>
        have z := r9 x9
        rw [hr] at r8 z
        exact out r8 z
      | true =>
        obtain ⟨h1, c1, z1, m, e1, x81, s1, mo, -, i1, i2⟩ := X8_mo ok x8 hb F (by omega)
        obtain ⟨qe, qr, K, R, P, la, M, fd⟩ := X8_mc x81 hb mo
        have x91 := X9_loc x9 (X8_st x81) s1
        have w8 := wt8x (X8_tx x81) bkb.1 M fd (nI b) (F - S.m / 3 - 1) (S.m / 3) 0 0 (by omega) hr rfl
        rw [show F - S.m / 3 - 1 + S.m / 3 + 1 = F from by omega, show uMk (bSet (S.bn b) (S.so b) (S.fo b) (wdT S.tx 0)) = 1 from uMk_1] at w8
        have w9 := wt_9 m60 x91.2.1.1.1 x91.2.1.1.2 (B9_of ok x91.2.1 hb) (so_24 S b) (Int32.ofInt 1) (F - S.m / 3 - 1 - S.m / 3 - 1) (by omega) (S.m / 3) 0 1 (by omega) hr (by decide)
        rw [show F - S.m / 3 - 1 - S.m / 3 - 1 + S.m / 3 + 1 = F - S.m / 3 - 1 from by omega] at w9
        have z := r9 x91
        rw [hr] at z
        refine ⟨wtV (S.bn b) (S.so b) (S.fo b) S.tx (S.m / 3) 1 0, h1, h1, c1, z1, ?_, z.trans w9, JJ_of ok x81 (same8_r h1) x91⟩
        unfold f_X8_watch
        rw [(e h).1 n5, b2s, if_neg (show ¬ bI true = 0 by decide), r8, hr, b2s, if_neg (show ¬ bI true = 0 by decide), e1, bcs, (X8_tx x81).2.2.2.1, d2, show g_X8_watch F 0 (nI b) m (nI (S.m / 3)) (Int32.ofInt 0) (Int32.ofInt 0) h1 = _ from w8, cts]
        rfl
    · have nz : ¬ nI (S.m % 3) = 0 := fun q => m3 ((nI_0e (by omega)).mp q)
      refine out ?_ ?_
      · unfold f_X5_isRowOfActs
        rw [hp_isO t.1, cond_true, t.2.2.2.1, d1, if_neg nz]
        rfl
      · unfold f_X9_watch
        rw [(e h).2 n2, b2s, if_neg (show ¬ bI true = 0 by decide), x9.2.1.1.1, d1, if_neg nz, b_some]
        obtain ⟨G, hG⟩ : ∃ G, F = G + 1 := ⟨F - 1, by omega⟩
        rw [hG, g_X9_watch, q00, cond_true]
        show (if am_I h 51 0 ≤ Int32.ofInt 0 then _ else _) = _
        rw [if_pos (show Int32.ofInt 0 = 0 from rfl)]
        split
        · rfl
        · rfl
  · refine ⟨Int32.ofInt (-101), h, h, 0, 0, ?_, ?_, JJ_ro ok x8 x9⟩
    · unfold f_X8_watch
      rw [(e h).1 n5, b2s, if_pos (show bI false = 0 from rfl)]
    · unfold f_X9_watch
      rw [(e h).2 n2, b2s, if_pos (show bI false = 0 from rfl)]
