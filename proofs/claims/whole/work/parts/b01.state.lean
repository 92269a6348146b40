/-! ===== the whole state, purely: page, books, ones, seats, posts, room, talk, counts ===== -/
def PS : Type := (Nat × (Nat → Int32)) × (Nat × (Nat → Nat) × (Nat → Nat → Nat) × (Nat → Nat → Int32)) × (Nat × (Nat → Nat) × (Nat → Nat → Int32)) × ((Nat → Option Nat) × (Nat → Nat) × Nat) × TS × Int32 × Nat
def PS.m (S : PS) : Nat := S.1.1
def PS.tx (S : PS) : Nat → Int32 := S.1.2
def PS.nb (S : PS) : Nat := S.2.1.1
def PS.bn (S : PS) : Nat → Nat := S.2.1.2.1
def PS.bc (S : PS) : Nat → Nat → Nat := S.2.1.2.2.1
def PS.bf (S : PS) : Nat → Nat → Int32 := S.2.1.2.2.2
def PS.no (S : PS) : Nat := S.2.2.1.1
def PS.om (S : PS) : Nat → Nat := S.2.2.1.2.1
def PS.ox (S : PS) : Nat → Nat → Int32 := S.2.2.1.2.2
def PS.st (S : PS) : Nat → Option Nat := S.2.2.2.1.1
def PS.k (S : PS) : Nat → Nat := S.2.2.2.1.2.1
def PS.rm (S : PS) : Nat := S.2.2.2.1.2.2
def PS.s (S : PS) : TS := S.2.2.2.2.1
def PS.sc (S : PS) : Int32 := S.2.2.2.2.2.1
def PS.mc (S : PS) : Nat := S.2.2.2.2.2.2
def PS.pg (S : PS) (m : Nat) (t : Nat → Int32) : PS := ((m, t), S.2)
def PS.sg (S : PS) (s : TS) (c : Int32) : PS := (S.1, S.2.1, S.2.2.1, S.2.2.2.1, s, c, S.2.2.2.2.2.2)
def PS.md (S : PS) (c : Nat) : PS := (S.1, S.2.1, S.2.2.1, S.2.2.2.1, S.2.2.2.2.1, S.2.2.2.2.2.1, c)
/-- the talk's seats, kinds and room change: it begins anew -/
def PS.ru (S : PS) (st : Nat → Option Nat) (k : Nat → Nat) (rm : Nat) : PS := (S.1, S.2.1, S.2.2.1, (st, k, rm), s00, Int32.ofInt 0, S.2.2.2.2.2.2)
/-- a book more -/
def PS.ab (S : PS) (n : Nat) (c : Nat → Nat) (f : Nat → Int32) : PS := (S.1, (S.nb + 1, updN S.bn S.nb n, (fun k => if k = S.nb then c else S.bc k), (fun k => if k = S.nb then f else S.bf k)), S.2.2)
/-- a one more -/
def PS.ao (S : PS) (m : Nat) (t : Nat → Int32) : PS := (S.1, S.2.1, (S.no + 1, updN S.om S.no m, (fun k => if k = S.no then t else S.ox k)), S.2.2.2)
def PS.cd (S : PS) (o i : Nat) : Nat := match S.st o with
  | some b => S.bc b i
  | none => 0
def PS.na (S : PS) (o : Nat) : Nat := match S.st o with
  | some b => S.bn b
  | none => 0
def PS.sd (S : PS) (o : Nat) : Bool := (S.st o).isSome
def PS.fol (S : PS) (o j : Nat) : Int32 := match S.st o with
  | some b => if j ≤ S.bn b then S.bf b j else Int32.ofInt 0
  | none => Int32.ofInt 0
/-- the talk's rules -/
def PS.r (S : PS) : TR := (S.k, S.rm, S.fol, fun o i => S.cd o i / 100, fun o i => S.cd o i / 10 % 10, fun o i => S.cd o i % 10)
/-- the sort of an act's code -/
def soC (c : Nat) : Nat := c / 100 % 2 * 12 + c / 10 % 10 % 3 * 4 + c % 10 % 4
theorem soC_lt (c : Nat) : soC c < 24 := by unfold soC; omega
def cdG (c : Nat) : Prop := c / 100 < 2 ∧ c / 10 % 10 < 3 ∧ c % 10 < 4
def foB (f : Nat → Int32) : Nat → Nat → Prop := fun y q => bt (f y) q = true
/-- a book as it may be -/
def bkOk (n : Nat) (c : Nat → Nat) (f : Nat → Int32) : Prop := n ≤ 15 ∧ (∀ i, 1 ≤ i → i ≤ n → cdG (c i)) ∧ (∀ j, j < 16 → ∃ v, v < 65536 ∧ f j = nI v) ∧ (∀ j, j < 16 → ∀ q, bt (f j) q = true → q ≤ n) ∧ (∀ j, n < j → j < 16 → f j = Int32.ofInt 0) ∧ ∃ lb B σ, bOk n (foB f) lb B σ
/-- a state as it may be -/
def PSok (S : PS) : Prop := S.m ≤ 60 ∧ S.nb ≤ 8 ∧ (∀ k, k < S.nb → bkOk (S.bn k) (S.bc k) (S.bf k)) ∧ S.no ≤ 3 ∧ (∀ k, k < S.no → S.om k ≤ 60 ∧ vl (Int32.ofInt 1) (S.ox k) (S.om k) 0 0 0) ∧ (∀ o, o < 3 → S.st o = none ∨ ∃ b, b < S.nb ∧ S.st o = some b ∧ ∀ i, 1 ≤ i → i ≤ S.bn b → S.bc b i / 10 % 10 ≠ o) ∧ (∀ p, p < 6 → S.k p < 5) ∧ (1 ≤ S.rm ∧ S.rm ≤ 3) ∧ reach S.r S.s ∧ S.mc ≤ 6 ∧ ∀ o, 3 ≤ o → S.st o = none
theorem fol_some {S : PS} {o b : Nat} (h : S.st o = some b) (j : Nat) : S.fol o j = if j ≤ S.bn b then S.bf b j else Int32.ofInt 0 := by
  unfold PS.fol; rw [h]
theorem fol_none {S : PS} {o : Nat} (h : S.st o = none) (j : Nat) : S.fol o j = Int32.ofInt 0 := by
  unfold PS.fol; rw [h]
theorem cd_some {S : PS} {o b : Nat} (h : S.st o = some b) (i : Nat) : S.cd o i = S.bc b i := by
  unfold PS.cd; rw [h]
theorem na_some {S : PS} {o b : Nat} (h : S.st o = some b) : S.na o = S.bn b := by
  unfold PS.na; rw [h]
theorem na_none {S : PS} {o : Nat} (h : S.st o = none) : S.na o = 0 := by
  unfold PS.na; rw [h]
/-- an act that may come stands in the book -/
theorem PS_av {S : PS} (ok : PSok S) {o i : Nat} (ho : o < 3) (h1 : 1 ≤ i) (hv : S.r.av o i) : ∃ b, b < S.nb ∧ S.st o = some b ∧ i ≤ S.bn b := by
  obtain ⟨-, -, ob, -, -, os, -⟩ := ok
  obtain ⟨j, hj, e⟩ := hv
  have e : bt (S.fol o j) i = true := e
  rcases os o ho with q | ⟨b, hb, q, -⟩
  · rw [fol_none q, bt_zero] at e; cases e
  · refine ⟨b, hb, q, ?_⟩
    rw [fol_some q] at e
    by_cases c : j ≤ S.bn b
    · rw [if_pos c] at e
      exact (ob b hb).2.2.2.1 j hj i e
    · rw [if_neg c, bt_zero] at e; cases e
theorem ps_ok0 : ∀ k, k < 5 → ps_ok k 0 = true := by decide
theorem PS_all {S : PS} (ok : PSok S) : S.r.all := by
  have ok0 := ok
  obtain ⟨-, -, ob, -, -, os, hk, hrm, -⟩ := ok
  refine ⟨⟨hk, hrm.1, hrm.2, fun o i ho hi hv h1 => ?_⟩, ⟨fun _ _ => by show 0 < 16; omega, fun p hp => ps_ok0 _ (hk p hp)⟩, fun o j ho hj => ?_⟩
  · obtain ⟨b, hb, q, hin⟩ := PS_av ok0 ho h1 hv
    obtain ⟨a1, a2, a3⟩ := (ob b hb).2.1 i h1 hin
    have nq : S.bc b i / 10 % 10 ≠ o := by
      rcases os o ho with x | ⟨b', -, x, y⟩
      · rw [q] at x; cases x
      · rw [q] at x
        injection x with x
        subst x
        exact y i h1 hin
    show S.cd o i / 10 % 10 < 3 ∧ S.cd o i / 10 % 10 ≠ o ∧ S.cd o i % 10 < 4 ∧ S.cd o i / 100 < 2
    rw [cd_some q]
    exact ⟨a2, nq, a3, a1⟩
  · show ∃ v, v < 65536 ∧ S.fol o j = nI v
    rcases os o ho with q | ⟨b, hb, q, -⟩
    · exact ⟨0, by decide, by rw [fol_none q]; rfl⟩
    · rw [fol_some q]
      by_cases c : j ≤ S.bn b
      · rw [if_pos c]; exact (ob b hb).2.2.1 j hj
      · rw [if_neg c]; exact ⟨0, by decide, rfl⟩
theorem PS_sk {S : PS} (ok : PSok S) : S.r.sk S.s ∧ tsN S.s := reach_sk (PS_all ok).1 (PS_all ok).2.1 ok.2.2.2.2.2.2.2.2.1
/-- a seat as a number -/
def stI (x : Option Nat) : Int32 := match x with
  | some b => nI b
  | none => Int32.ofInt (-1)
/-- a cell of books, ones or machines: never written again -/
def frz (h : am_H) (w : Nat → Nat) (p : Nat) : Prop := 87 ≤ p ∧ p < h.1 ∧ w p = 0
/-- a book's machine -/
def MC8 (h : am_H) (w : Nat → Nat) (n : Nat) (so : Nat → Nat) (fo : Nat → Nat → Prop) (m : Nat) : Prop := ∃ e r K R P la, frz h w m ∧ frz h w e ∧ frz h w r ∧ M8 h m e r P (bMx n so fo K R la) (bMe n so fo K la) ∧ fdOk n so fo K R P la
/-- one book of the class -/
def BK1 (h : am_H) (w : Nat → Nat) (a n : Nat) (c : Nat → Nat) (f : Nat → Int32) : Prop := ∃ qc qf, frz h w a ∧ frz h w qc ∧ frz h w qf ∧ (am_K h a = .inl 0 ∧ am_I h a 0 = nI n ∧ am_A h a 1 = some qc ∧ am_A h a 2 = some qf) ∧ (∃ l, n < l ∧ l ≤ 100 ∧ am_K h qc = .inr (0, l)) ∧ (∃ l, n < l ∧ l ≤ 100 ∧ am_K h qf = .inr (0, l)) ∧ (∀ i, 1 ≤ i → i ≤ n → am_I h qc i = nI (c i)) ∧ (∀ j, j ≤ n → am_I h qf j = f j) ∧ (am_A h a 3 = none ∨ ∃ m, am_A h a 3 = some m ∧ MC8 h w n (fun i => soC (c i)) (foB f) m)
def BK8 (h : am_H) (w : Nat → Nat) (S : PS) (ba : Nat → Nat) : Prop := am_I h 0 5 = nI S.nb ∧ (∀ k, k < S.nb → am_A h 25 k = some (ba k) ∧ BK1 h w (ba k) (S.bn k) (S.bc k) (S.bf k)) ∧ ∀ i j, i < S.nb → j < S.nb → ba i = ba j → i = j
def ON8 (h : am_H) (w : Nat → Nat) (S : PS) : Prop := am_I h 0 7 = nI S.no ∧ ∀ k, k < S.no → ∃ a q, am_A h 26 k = some a ∧ frz h w a ∧ frz h w q ∧ tx8 h a q (S.om k) (S.ox k)
/-- seats, talk, counts -/
def TK8 (h : am_H) (S : PS) : Prop := U8 h S.r S.sd S.s ∧ (∀ o, o < 3 → am_I h 27 o = stI (S.st o)) ∧ (∀ o i, o < 3 → 1 ≤ i → i ≤ S.na o → am_I h 30 (16 * o + i) = nI (S.cd o i % 10)) ∧ am_I h 0 11 = S.sc ∧ am_I h 0 17 = nI S.mc
/-- the rows that grow: folder, contest, survey; each has its mark -/
def RW8 (h : am_H) (w : Nat → Nat) (cf : Nat) (qf : Nat → Nat) (cc : Nat) (qc : Nat → Nat) (c3 a3 b3 : Nat) : Prop := (FR h cf qf ∧ (1 ≤ cf ∧ cf ≤ 8192) ∧ ∀ k, 1 ≤ k → k ≤ 5 → w (qf k) = 1) ∧ (CR h cc qc ∧ cc ≤ 100000 ∧ ∀ k, 6 ≤ k → k ≤ 10 → w (qc k) = 2) ∧ (GR h 37 c3 a3 b3 ∧ w a3 = 3 ∧ w b3 = 3) ∧ (∀ p, p < 87 → w p = 9 ∨ (13 ≤ p ∧ p ≤ 17 ∧ w p = 1) ∨ (20 ≤ p ∧ p ≤ 24 ∧ w p = 2) ∨ (47 ≤ p ∧ p ≤ 48 ∧ w p = 3))
/-- what is known of all states, and of mends -/
def SV8 (h : am_H) (S : PS) (c3 a3 b3 : Nat) : Prop := D8s h S.r S.sd c3 a3 b3 ∧ (am_I h 0 14 = nI 0 ∨ (am_I h 0 14 = nI 1 ∧ MD h (mdO S.r S.sd S.na 3)))
