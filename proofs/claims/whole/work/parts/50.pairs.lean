/-! ===== the 31 calls: what is owed of the pure functions (by program) ===== -/
def po_0 (w : Int64) (J' : am_H → Nat → Nat → Prop) (h : am_H) (c sl : Nat) : Prop := ∃ (n1 n2 : Nat) (v : Int32) (h1 h2 : am_H), f_X8_letters n1 w h = some (v, h1) ∧ f_X9_letters n2 w h1 = some (v, h2) ∧ c ≤ 600000 ∧ sl ≤ 7302250 ∧ J' h2 (c) (sl)
theorem pw_0 {J J' : am_H → Nat → Nat → Prop} (w : Int64) (hp : ∀ h c sl, J h c sl → am_stat h ∧ po_0 w J' h c sl) : am_pair mX8_letters mX9_letters [.long w] J J' := by
  intro h c sl hJ
  obtain ⟨hs, n1, n2, v, h1, h2, e1, e2, hc, hsl, hJ2⟩ := hp h c sl hJ
  have hs1 : am_stat h1 := s_X8_letters n1 w h hs e1
  refine ⟨rX8_letters 0 0, _, c_X8_letters n1 w h hs e1, sK hs 0, ⟨(Nat.le_of_ble_eq_true rfl), (Nat.le_of_ble_eq_true rfl)⟩, ⟨hc, hsl⟩, fun r h1' hq => ?_⟩
  obtain ⟨rfl, rfl⟩ := hq
  refine ⟨v, rfl, rX9_letters 0 0, _, c_X9_letters n2 w h1' hs1 e2, sK hs1 51, ⟨(Nat.le_of_ble_eq_true rfl), (Nat.le_of_ble_eq_true rfl)⟩, ⟨hc, hsl⟩, fun r2 h2' hq2 => ?_⟩
  obtain ⟨rfl, rfl⟩ := hq2
  exact ⟨rfl, hJ2⟩
def po_1 (J' : am_H → Nat → Nat → Prop) (h : am_H) (c sl : Nat) : Prop := ∃ (v : Int32) (h1 h2 : am_H), f_X8_blank h = some (v, h1) ∧ f_X9_blank h1 = some (v, h2) ∧ c ≤ 600000 ∧ sl ≤ 7302250 ∧ J' h2 (c) (sl)
theorem pw_1 {J J' : am_H → Nat → Nat → Prop} (hp : ∀ h c sl, J h c sl → am_stat h ∧ po_1  J' h c sl) : am_pair mX8_blank mX9_blank [] J J' := by
  intro h c sl hJ
  obtain ⟨hs, v, h1, h2, e1, e2, hc, hsl, hJ2⟩ := hp h c sl hJ
  have hs1 : am_stat h1 := s_X8_blank h hs e1
  refine ⟨rX8_blank 0 0, _, c_X8_blank h hs e1, sK hs 0, ⟨(Nat.le_of_ble_eq_true rfl), (Nat.le_of_ble_eq_true rfl)⟩, ⟨hc, hsl⟩, fun r h1' hq => ?_⟩
  obtain ⟨rfl, rfl⟩ := hq
  refine ⟨v, rfl, rX9_blank 0 0, _, c_X9_blank h1' hs1 e2, sK hs1 51, ⟨(Nat.le_of_ble_eq_true rfl), (Nat.le_of_ble_eq_true rfl)⟩, ⟨hc, hsl⟩, fun r2 h2' hq2 => ?_⟩
  obtain ⟨rfl, rfl⟩ := hq2
  exact ⟨rfl, hJ2⟩
def po_2 (a1 : Int32) (J' : am_H → Nat → Nat → Prop) (h : am_H) (c sl : Nat) : Prop := ∃ (n1 n2 : Nat) (v : Int32) (h1 h2 : am_H), f_X8_fault n1 a1 h = some (v, h1) ∧ f_X9_fault n2 a1 h1 = some (v, h2) ∧ c ≤ 600000 ∧ sl ≤ 7302250 ∧ J' h2 (c) (sl)
theorem pw_2 {J J' : am_H → Nat → Nat → Prop} (a1 : Int32) (hp : ∀ h c sl, J h c sl → am_stat h ∧ po_2 a1 J' h c sl) : am_pair mX8_fault mX9_fault [.int a1] J J' := by
  intro h c sl hJ
  obtain ⟨hs, n1, n2, v, h1, h2, e1, e2, hc, hsl, hJ2⟩ := hp h c sl hJ
  have hs1 : am_stat h1 := s_X8_fault n1 a1 h hs e1
  refine ⟨rX8_fault 0 0, _, c_X8_fault n1 a1 h hs e1, sK hs 0, ⟨(Nat.le_of_ble_eq_true rfl), (Nat.le_of_ble_eq_true rfl)⟩, ⟨hc, hsl⟩, fun r h1' hq => ?_⟩
  obtain ⟨rfl, rfl⟩ := hq
  refine ⟨v, rfl, rX9_fault 0 0, _, c_X9_fault n2 a1 h1' hs1 e2, sK hs1 51, ⟨(Nat.le_of_ble_eq_true rfl), (Nat.le_of_ble_eq_true rfl)⟩, ⟨hc, hsl⟩, fun r2 h2' hq2 => ?_⟩
  obtain ⟨rfl, rfl⟩ := hq2
  exact ⟨rfl, hJ2⟩
def po_3 (J' : am_H → Nat → Nat → Prop) (h : am_H) (c sl : Nat) : Prop := ∃ (n1 n2 : Nat) (v : Int32) (h1 h2 : am_H) (c1 s1 : Nat), f_X8_book n1 h = some ((v, h1), c1, s1) ∧ f_X9_book n2 h1 = some (v, h2) ∧ c + c1 ≤ 600000 ∧ sl + s1 ≤ 7302250 ∧ J' h2 (c + c1) (sl + s1)
theorem pw_3 {J J' : am_H → Nat → Nat → Prop} (hp : ∀ h c sl, J h c sl → am_stat h ∧ po_3  J' h c sl) : am_pair mX8_book mX9_book [] J J' := by
  intro h c sl hJ
  obtain ⟨hs, n1, n2, v, h1, h2, c1, s1, e1, e2, hc, hsl, hJ2⟩ := hp h c sl hJ
  have hs1 : am_stat h1 := s_X8_book n1 h hs e1
  refine ⟨rX8_book c1 s1, _, c_X8_book n1 h hs c1 s1 (by omega) (by omega) e1, sK hs 0, ⟨(Nat.le_of_ble_eq_true rfl), (Nat.le_of_ble_eq_true rfl)⟩, ⟨hc, hsl⟩, fun r h1' hq => ?_⟩
  obtain ⟨rfl, rfl⟩ := hq
  refine ⟨v, rfl, rX9_book 0 0, _, c_X9_book n2 h1' hs1 e2, sK hs1 51, ⟨(Nat.le_of_ble_eq_true rfl), (Nat.le_of_ble_eq_true rfl)⟩, ⟨hc, hsl⟩, fun r2 h2' hq2 => ?_⟩
  obtain ⟨rfl, rfl⟩ := hq2
  exact ⟨rfl, hJ2⟩
def po_4 (J' : am_H → Nat → Nat → Prop) (h : am_H) (c sl : Nat) : Prop := ∃ (n1 n2 : Nat) (v : Int32) (h1 h2 : am_H) (c1 s1 : Nat), f_X8_one n1 h = some ((v, h1), c1, s1) ∧ f_X9_one n2 h1 = some (v, h2) ∧ c + c1 ≤ 600000 ∧ sl + s1 ≤ 7302250 ∧ J' h2 (c + c1) (sl + s1)
theorem pw_4 {J J' : am_H → Nat → Nat → Prop} (hp : ∀ h c sl, J h c sl → am_stat h ∧ po_4  J' h c sl) : am_pair mX8_one mX9_one [] J J' := by
  intro h c sl hJ
  obtain ⟨hs, n1, n2, v, h1, h2, c1, s1, e1, e2, hc, hsl, hJ2⟩ := hp h c sl hJ
  have hs1 : am_stat h1 := s_X8_one n1 h hs e1
  refine ⟨rX8_one c1 s1, _, c_X8_one n1 h hs c1 s1 (by omega) (by omega) e1, sK hs 0, ⟨(Nat.le_of_ble_eq_true rfl), (Nat.le_of_ble_eq_true rfl)⟩, ⟨hc, hsl⟩, fun r h1' hq => ?_⟩
  obtain ⟨rfl, rfl⟩ := hq
  refine ⟨v, rfl, rX9_one 0 0, _, c_X9_one n2 h1' hs1 e2, sK hs1 51, ⟨(Nat.le_of_ble_eq_true rfl), (Nat.le_of_ble_eq_true rfl)⟩, ⟨hc, hsl⟩, fun r2 h2' hq2 => ?_⟩
  obtain ⟨rfl, rfl⟩ := hq2
  exact ⟨rfl, hJ2⟩
def po_5 (a1 a2 : Int32) (J' : am_H → Nat → Nat → Prop) (h : am_H) (c sl : Nat) : Prop := ∃ (n1 n2 : Nat) (v : Int32) (h1 h2 : am_H) (c1 s1 : Nat), f_X8_own n1 a1 a2 h = some ((v, h1), c1, s1) ∧ f_X9_own n2 a1 a2 h1 = some (v, h2) ∧ c + c1 ≤ 600000 ∧ sl + s1 ≤ 7302250 ∧ J' h2 (c + c1) (sl + s1)
theorem pw_5 {J J' : am_H → Nat → Nat → Prop} (a1 a2 : Int32) (hp : ∀ h c sl, J h c sl → am_stat h ∧ po_5 a1 a2 J' h c sl) : am_pair mX8_own mX9_own [.int a1, .int a2] J J' := by
  intro h c sl hJ
  obtain ⟨hs, n1, n2, v, h1, h2, c1, s1, e1, e2, hc, hsl, hJ2⟩ := hp h c sl hJ
  have hs1 : am_stat h1 := s_X8_own n1 a1 a2 h hs e1
  refine ⟨rX8_own c1 s1, _, c_X8_own n1 a1 a2 h hs c1 s1 (by omega) (by omega) e1, sK hs 0, ⟨(Nat.le_of_ble_eq_true rfl), (Nat.le_of_ble_eq_true rfl)⟩, ⟨hc, hsl⟩, fun r h1' hq => ?_⟩
  obtain ⟨rfl, rfl⟩ := hq
  refine ⟨v, rfl, rX9_own 0 0, _, c_X9_own n2 a1 a2 h1' hs1 e2, sK hs1 51, ⟨(Nat.le_of_ble_eq_true rfl), (Nat.le_of_ble_eq_true rfl)⟩, ⟨hc, hsl⟩, fun r2 h2' hq2 => ?_⟩
  obtain ⟨rfl, rfl⟩ := hq2
  exact ⟨rfl, hJ2⟩
def po_6 (a1 : Int32) (J' : am_H → Nat → Nat → Prop) (h : am_H) (c sl : Nat) : Prop := ∃ (n1 n2 : Nat) (v : Int32) (h1 h2 : am_H) (c1 s1 : Nat), f_X8_twin n1 a1 h = some ((v, h1), c1, s1) ∧ f_X9_twin n2 a1 h1 = some (v, h2) ∧ c + c1 ≤ 600000 ∧ sl + s1 ≤ 7302250 ∧ J' h2 (c + c1) (sl + s1)
theorem pw_6 {J J' : am_H → Nat → Nat → Prop} (a1 : Int32) (hp : ∀ h c sl, J h c sl → am_stat h ∧ po_6 a1 J' h c sl) : am_pair mX8_twin mX9_twin [.int a1] J J' := by
  intro h c sl hJ
  obtain ⟨hs, n1, n2, v, h1, h2, c1, s1, e1, e2, hc, hsl, hJ2⟩ := hp h c sl hJ
  have hs1 : am_stat h1 := s_X8_twin n1 a1 h hs e1
  refine ⟨rX8_twin c1 s1, _, c_X8_twin n1 a1 h hs c1 s1 (by omega) (by omega) e1, sK hs 0, ⟨(Nat.le_of_ble_eq_true rfl), (Nat.le_of_ble_eq_true rfl)⟩, ⟨hc, hsl⟩, fun r h1' hq => ?_⟩
  obtain ⟨rfl, rfl⟩ := hq
  refine ⟨v, rfl, rX9_twin 0 0, _, c_X9_twin n2 a1 h1' hs1 e2, sK hs1 51, ⟨(Nat.le_of_ble_eq_true rfl), (Nat.le_of_ble_eq_true rfl)⟩, ⟨hc, hsl⟩, fun r2 h2' hq2 => ?_⟩
  obtain ⟨rfl, rfl⟩ := hq2
  exact ⟨rfl, hJ2⟩
def po_7 (a1 a2 : Int32) (J' : am_H → Nat → Nat → Prop) (h : am_H) (c sl : Nat) : Prop := ∃ (n1 n2 : Nat) (v : Int32) (h1 h2 : am_H) (c1 s1 : Nat), f_X8_about n1 a1 a2 h = some ((v, h1), c1, s1) ∧ f_X9_about n2 a1 a2 h1 = some (v, h2) ∧ c + c1 ≤ 600000 ∧ sl + s1 ≤ 7302250 ∧ J' h2 (c + c1) (sl + s1)
theorem pw_7 {J J' : am_H → Nat → Nat → Prop} (a1 a2 : Int32) (hp : ∀ h c sl, J h c sl → am_stat h ∧ po_7 a1 a2 J' h c sl) : am_pair mX8_about mX9_about [.int a1, .int a2] J J' := by
  intro h c sl hJ
  obtain ⟨hs, n1, n2, v, h1, h2, c1, s1, e1, e2, hc, hsl, hJ2⟩ := hp h c sl hJ
  have hs1 : am_stat h1 := s_X8_about n1 a1 a2 h hs e1
  refine ⟨rX8_about c1 s1, _, c_X8_about n1 a1 a2 h hs c1 s1 (by omega) (by omega) e1, sK hs 0, ⟨(Nat.le_of_ble_eq_true rfl), (Nat.le_of_ble_eq_true rfl)⟩, ⟨hc, hsl⟩, fun r h1' hq => ?_⟩
  obtain ⟨rfl, rfl⟩ := hq
  refine ⟨v, rfl, rX9_about 0 0, _, c_X9_about n2 a1 a2 h1' hs1 e2, sK hs1 51, ⟨(Nat.le_of_ble_eq_true rfl), (Nat.le_of_ble_eq_true rfl)⟩, ⟨hc, hsl⟩, fun r2 h2' hq2 => ?_⟩
  obtain ⟨rfl, rfl⟩ := hq2
  exact ⟨rfl, hJ2⟩
def po_8 (a1 a2 : Int32) (J' : am_H → Nat → Nat → Prop) (h : am_H) (c sl : Nat) : Prop := ∃ (v : Int32) (h1 h2 : am_H), f_X8_act a1 a2 h = some (v, h1) ∧ f_X9_act a1 a2 h1 = some (v, h2) ∧ c ≤ 600000 ∧ sl ≤ 7302250 ∧ J' h2 (c) (sl)
theorem pw_8 {J J' : am_H → Nat → Nat → Prop} (a1 a2 : Int32) (hp : ∀ h c sl, J h c sl → am_stat h ∧ po_8 a1 a2 J' h c sl) : am_pair mX8_act mX9_act [.int a1, .int a2] J J' := by
  intro h c sl hJ
  obtain ⟨hs, v, h1, h2, e1, e2, hc, hsl, hJ2⟩ := hp h c sl hJ
  have hs1 : am_stat h1 := s_X8_act a1 a2 h hs e1
  refine ⟨rX8_act 0 0, _, c_X8_act a1 a2 h hs e1, sK hs 0, ⟨(Nat.le_of_ble_eq_true rfl), (Nat.le_of_ble_eq_true rfl)⟩, ⟨hc, hsl⟩, fun r h1' hq => ?_⟩
  obtain ⟨rfl, rfl⟩ := hq
  refine ⟨v, rfl, rX9_act 0 0, _, c_X9_act a1 a2 h1' hs1 e2, sK hs1 51, ⟨(Nat.le_of_ble_eq_true rfl), (Nat.le_of_ble_eq_true rfl)⟩, ⟨hc, hsl⟩, fun r2 h2' hq2 => ?_⟩
  obtain ⟨rfl, rfl⟩ := hq2
  exact ⟨rfl, hJ2⟩
def po_9 (a1 a2 : Int32) (J' : am_H → Nat → Nat → Prop) (h : am_H) (c sl : Nat) : Prop := ∃ (v : Int32) (h1 h2 : am_H), f_X8_follow a1 a2 h = some (v, h1) ∧ f_X9_follow a1 a2 h1 = some (v, h2) ∧ c ≤ 600000 ∧ sl ≤ 7302250 ∧ J' h2 (c) (sl)
theorem pw_9 {J J' : am_H → Nat → Nat → Prop} (a1 a2 : Int32) (hp : ∀ h c sl, J h c sl → am_stat h ∧ po_9 a1 a2 J' h c sl) : am_pair mX8_follow mX9_follow [.int a1, .int a2] J J' := by
  intro h c sl hJ
  obtain ⟨hs, v, h1, h2, e1, e2, hc, hsl, hJ2⟩ := hp h c sl hJ
  have hs1 : am_stat h1 := s_X8_follow a1 a2 h hs e1
  refine ⟨rX8_follow 0 0, _, c_X8_follow a1 a2 h hs e1, sK hs 0, ⟨(Nat.le_of_ble_eq_true rfl), (Nat.le_of_ble_eq_true rfl)⟩, ⟨hc, hsl⟩, fun r h1' hq => ?_⟩
  obtain ⟨rfl, rfl⟩ := hq
  refine ⟨v, rfl, rX9_follow 0 0, _, c_X9_follow a1 a2 h1' hs1 e2, sK hs1 51, ⟨(Nat.le_of_ble_eq_true rfl), (Nat.le_of_ble_eq_true rfl)⟩, ⟨hc, hsl⟩, fun r2 h2' hq2 => ?_⟩
  obtain ⟨rfl, rfl⟩ := hq2
  exact ⟨rfl, hJ2⟩
def po_10 (a1 a2 : Int32) (J' : am_H → Nat → Nat → Prop) (h : am_H) (c sl : Nat) : Prop := ∃ (n1 n2 : Nat) (v : Int32) (h1 h2 : am_H) (c1 s1 : Nat), f_X8_same n1 a1 a2 h = some ((v, h1), c1, s1) ∧ f_X9_same n2 a1 a2 h1 = some (v, h2) ∧ c + c1 ≤ 600000 ∧ sl + s1 ≤ 7302250 ∧ J' h2 (c + c1) (sl + s1)
theorem pw_10 {J J' : am_H → Nat → Nat → Prop} (a1 a2 : Int32) (hp : ∀ h c sl, J h c sl → am_stat h ∧ po_10 a1 a2 J' h c sl) : am_pair mX8_same mX9_same [.int a1, .int a2] J J' := by
  intro h c sl hJ
  obtain ⟨hs, n1, n2, v, h1, h2, c1, s1, e1, e2, hc, hsl, hJ2⟩ := hp h c sl hJ
  have hs1 : am_stat h1 := s_X8_same n1 a1 a2 h hs e1
  refine ⟨rX8_same c1 s1, _, c_X8_same n1 a1 a2 h hs c1 s1 (by omega) (by omega) e1, sK hs 0, ⟨(Nat.le_of_ble_eq_true rfl), (Nat.le_of_ble_eq_true rfl)⟩, ⟨hc, hsl⟩, fun r h1' hq => ?_⟩
  obtain ⟨rfl, rfl⟩ := hq
  refine ⟨v, rfl, rX9_same 0 0, _, c_X9_same n2 a1 a2 h1' hs1 e2, sK hs1 51, ⟨(Nat.le_of_ble_eq_true rfl), (Nat.le_of_ble_eq_true rfl)⟩, ⟨hc, hsl⟩, fun r2 h2' hq2 => ?_⟩
  obtain ⟨rfl, rfl⟩ := hq2
  exact ⟨rfl, hJ2⟩
def po_11 (a1 a2 a3 : Int32) (J' : am_H → Nat → Nat → Prop) (h : am_H) (c sl : Nat) : Prop := ∃ (n1 n2 : Nat) (v : Int32) (h1 h2 : am_H) (c1 s1 : Nat), f_X8_apart n1 a1 a2 a3 h = some ((v, h1), c1, s1) ∧ f_X9_apart n2 a1 a2 a3 h1 = some (v, h2) ∧ c + c1 ≤ 600000 ∧ sl + s1 ≤ 7302250 ∧ J' h2 (c + c1) (sl + s1)
theorem pw_11 {J J' : am_H → Nat → Nat → Prop} (a1 a2 a3 : Int32) (hp : ∀ h c sl, J h c sl → am_stat h ∧ po_11 a1 a2 a3 J' h c sl) : am_pair mX8_apart mX9_apart [.int a1, .int a2, .int a3] J J' := by
  intro h c sl hJ
  obtain ⟨hs, n1, n2, v, h1, h2, c1, s1, e1, e2, hc, hsl, hJ2⟩ := hp h c sl hJ
  have hs1 : am_stat h1 := s_X8_apart n1 a1 a2 a3 h hs e1
  refine ⟨rX8_apart c1 s1, _, c_X8_apart n1 a1 a2 a3 h hs c1 s1 (by omega) (by omega) e1, sK hs 0, ⟨(Nat.le_of_ble_eq_true rfl), (Nat.le_of_ble_eq_true rfl)⟩, ⟨hc, hsl⟩, fun r h1' hq => ?_⟩
  obtain ⟨rfl, rfl⟩ := hq
  refine ⟨v, rfl, rX9_apart 0 0, _, c_X9_apart n2 a1 a2 a3 h1' hs1 e2, sK hs1 51, ⟨(Nat.le_of_ble_eq_true rfl), (Nat.le_of_ble_eq_true rfl)⟩, ⟨hc, hsl⟩, fun r2 h2' hq2 => ?_⟩
  obtain ⟨rfl, rfl⟩ := hq2
  exact ⟨rfl, hJ2⟩
def po_12 (a1 : Int32) (J' : am_H → Nat → Nat → Prop) (h : am_H) (c sl : Nat) : Prop := ∃ (n1 n2 : Nat) (v : Int32) (h1 h2 : am_H) (c1 s1 : Nat), f_X8_watch n1 a1 h = some ((v, h1), c1, s1) ∧ f_X9_watch n2 a1 h1 = some (v, h2) ∧ c + c1 ≤ 600000 ∧ sl + s1 ≤ 7302250 ∧ J' h2 (c + c1) (sl + s1)
theorem pw_12 {J J' : am_H → Nat → Nat → Prop} (a1 : Int32) (hp : ∀ h c sl, J h c sl → am_stat h ∧ po_12 a1 J' h c sl) : am_pair mX8_watch mX9_watch [.int a1] J J' := by
  intro h c sl hJ
  obtain ⟨hs, n1, n2, v, h1, h2, c1, s1, e1, e2, hc, hsl, hJ2⟩ := hp h c sl hJ
  have hs1 : am_stat h1 := s_X8_watch n1 a1 h hs e1
  refine ⟨rX8_watch c1 s1, _, c_X8_watch n1 a1 h hs c1 s1 (by omega) (by omega) e1, sK hs 0, ⟨(Nat.le_of_ble_eq_true rfl), (Nat.le_of_ble_eq_true rfl)⟩, ⟨hc, hsl⟩, fun r h1' hq => ?_⟩
  obtain ⟨rfl, rfl⟩ := hq
  refine ⟨v, rfl, rX9_watch 0 0, _, c_X9_watch n2 a1 h1' hs1 e2, sK hs1 51, ⟨(Nat.le_of_ble_eq_true rfl), (Nat.le_of_ble_eq_true rfl)⟩, ⟨hc, hsl⟩, fun r2 h2' hq2 => ?_⟩
  obtain ⟨rfl, rfl⟩ := hq2
  exact ⟨rfl, hJ2⟩
def po_13 (a1 a2 : Int32) (J' : am_H → Nat → Nat → Prop) (h : am_H) (c sl : Nat) : Prop := ∃ (n1 n2 : Nat) (v : Int32) (h1 h2 : am_H), f_X8_seat n1 a1 a2 h = some (v, h1) ∧ f_X9_seat n2 a1 a2 h1 = some (v, h2) ∧ c ≤ 600000 ∧ sl ≤ 7302250 ∧ J' h2 (c) (sl)
theorem pw_13 {J J' : am_H → Nat → Nat → Prop} (a1 a2 : Int32) (hp : ∀ h c sl, J h c sl → am_stat h ∧ po_13 a1 a2 J' h c sl) : am_pair mX8_seat mX9_seat [.int a1, .int a2] J J' := by
  intro h c sl hJ
  obtain ⟨hs, n1, n2, v, h1, h2, e1, e2, hc, hsl, hJ2⟩ := hp h c sl hJ
  have hs1 : am_stat h1 := s_X8_seat n1 a1 a2 h hs e1
  refine ⟨rX8_seat 0 0, _, c_X8_seat n1 a1 a2 h hs e1, sK hs 0, ⟨(Nat.le_of_ble_eq_true rfl), (Nat.le_of_ble_eq_true rfl)⟩, ⟨hc, hsl⟩, fun r h1' hq => ?_⟩
  obtain ⟨rfl, rfl⟩ := hq
  refine ⟨v, rfl, rX9_seat 0 0, _, c_X9_seat n2 a1 a2 h1' hs1 e2, sK hs1 51, ⟨(Nat.le_of_ble_eq_true rfl), (Nat.le_of_ble_eq_true rfl)⟩, ⟨hc, hsl⟩, fun r2 h2' hq2 => ?_⟩
  obtain ⟨rfl, rfl⟩ := hq2
  exact ⟨rfl, hJ2⟩
def po_14 (a1 a2 a3 : Int32) (J' : am_H → Nat → Nat → Prop) (h : am_H) (c sl : Nat) : Prop := ∃ (n2 : Nat) (v : Int32) (h1 h2 : am_H), f_X8_post a1 a2 a3 h = some (v, h1) ∧ f_X9_post n2 a1 a2 a3 h1 = some (v, h2) ∧ c ≤ 600000 ∧ sl ≤ 7302250 ∧ J' h2 (c) (sl)
theorem pw_14 {J J' : am_H → Nat → Nat → Prop} (a1 a2 a3 : Int32) (hp : ∀ h c sl, J h c sl → am_stat h ∧ po_14 a1 a2 a3 J' h c sl) : am_pair mX8_post mX9_post [.int a1, .int a2, .int a3] J J' := by
  intro h c sl hJ
  obtain ⟨hs, n2, v, h1, h2, e1, e2, hc, hsl, hJ2⟩ := hp h c sl hJ
  have hs1 : am_stat h1 := s_X8_post a1 a2 a3 h hs e1
  refine ⟨rX8_post 0 0, _, c_X8_post a1 a2 a3 h hs e1, sK hs 0, ⟨(Nat.le_of_ble_eq_true rfl), (Nat.le_of_ble_eq_true rfl)⟩, ⟨hc, hsl⟩, fun r h1' hq => ?_⟩
  obtain ⟨rfl, rfl⟩ := hq
  refine ⟨v, rfl, rX9_post 0 0, _, c_X9_post n2 a1 a2 a3 h1' hs1 e2, sK hs1 51, ⟨(Nat.le_of_ble_eq_true rfl), (Nat.le_of_ble_eq_true rfl)⟩, ⟨hc, hsl⟩, fun r2 h2' hq2 => ?_⟩
  obtain ⟨rfl, rfl⟩ := hq2
  exact ⟨rfl, hJ2⟩
def po_15 (a1 a2 a3 : Int32) (J' : am_H → Nat → Nat → Prop) (h : am_H) (c sl : Nat) : Prop := ∃ (v : Int32) (h1 h2 : am_H), f_X8_as a1 a2 a3 h = some (v, h1) ∧ f_X9_as a1 a2 a3 h1 = some (v, h2) ∧ c ≤ 600000 ∧ sl ≤ 7302250 ∧ J' h2 (c) (sl)
theorem pw_15 {J J' : am_H → Nat → Nat → Prop} (a1 a2 a3 : Int32) (hp : ∀ h c sl, J h c sl → am_stat h ∧ po_15 a1 a2 a3 J' h c sl) : am_pair mX8_as mX9_as [.int a1, .int a2, .int a3] J J' := by
  intro h c sl hJ
  obtain ⟨hs, v, h1, h2, e1, e2, hc, hsl, hJ2⟩ := hp h c sl hJ
  have hs1 : am_stat h1 := s_X8_as a1 a2 a3 h hs e1
  refine ⟨rX8_as 0 0, _, c_X8_as a1 a2 a3 h hs e1, sK hs 0, ⟨(Nat.le_of_ble_eq_true rfl), (Nat.le_of_ble_eq_true rfl)⟩, ⟨hc, hsl⟩, fun r h1' hq => ?_⟩
  obtain ⟨rfl, rfl⟩ := hq
  refine ⟨v, rfl, rX9_as 0 0, _, c_X9_as a1 a2 a3 h1' hs1 e2, sK hs1 51, ⟨(Nat.le_of_ble_eq_true rfl), (Nat.le_of_ble_eq_true rfl)⟩, ⟨hc, hsl⟩, fun r2 h2' hq2 => ?_⟩
  obtain ⟨rfl, rfl⟩ := hq2
  exact ⟨rfl, hJ2⟩
def po_16 (a1 : Int32) (J' : am_H → Nat → Nat → Prop) (h : am_H) (c sl : Nat) : Prop := ∃ (n2 : Nat) (v : Int32) (h1 h2 : am_H), f_X8_room a1 h = some (v, h1) ∧ f_X9_room n2 a1 h1 = some (v, h2) ∧ c ≤ 600000 ∧ sl ≤ 7302250 ∧ J' h2 (c) (sl)
theorem pw_16 {J J' : am_H → Nat → Nat → Prop} (a1 : Int32) (hp : ∀ h c sl, J h c sl → am_stat h ∧ po_16 a1 J' h c sl) : am_pair mX8_room mX9_room [.int a1] J J' := by
  intro h c sl hJ
  obtain ⟨hs, n2, v, h1, h2, e1, e2, hc, hsl, hJ2⟩ := hp h c sl hJ
  have hs1 : am_stat h1 := s_X8_room a1 h hs e1
  refine ⟨rX8_room 0 0, _, c_X8_room a1 h hs e1, sK hs 0, ⟨(Nat.le_of_ble_eq_true rfl), (Nat.le_of_ble_eq_true rfl)⟩, ⟨hc, hsl⟩, fun r h1' hq => ?_⟩
  obtain ⟨rfl, rfl⟩ := hq
  refine ⟨v, rfl, rX9_room 0 0, _, c_X9_room n2 a1 h1' hs1 e2, sK hs1 51, ⟨(Nat.le_of_ble_eq_true rfl), (Nat.le_of_ble_eq_true rfl)⟩, ⟨hc, hsl⟩, fun r2 h2' hq2 => ?_⟩
  obtain ⟨rfl, rfl⟩ := hq2
  exact ⟨rfl, hJ2⟩
def po_17 (J' : am_H → Nat → Nat → Prop) (h : am_H) (c sl : Nat) : Prop := ∃ (n2 : Nat) (v : Int32) (h1 h2 : am_H), f_X8_begin h = some (v, h1) ∧ f_X9_begin n2 h1 = some (v, h2) ∧ c ≤ 600000 ∧ sl ≤ 7302250 ∧ J' h2 (c) (sl)
theorem pw_17 {J J' : am_H → Nat → Nat → Prop} (hp : ∀ h c sl, J h c sl → am_stat h ∧ po_17  J' h c sl) : am_pair mX8_begin mX9_begin [] J J' := by
  intro h c sl hJ
  obtain ⟨hs, n2, v, h1, h2, e1, e2, hc, hsl, hJ2⟩ := hp h c sl hJ
  have hs1 : am_stat h1 := s_X8_begin h hs e1
  refine ⟨rX8_begin 0 0, _, c_X8_begin h hs e1, sK hs 0, ⟨(Nat.le_of_ble_eq_true rfl), (Nat.le_of_ble_eq_true rfl)⟩, ⟨hc, hsl⟩, fun r h1' hq => ?_⟩
  obtain ⟨rfl, rfl⟩ := hq
  refine ⟨v, rfl, rX9_begin 0 0, _, c_X9_begin n2 h1' hs1 e2, sK hs1 51, ⟨(Nat.le_of_ble_eq_true rfl), (Nat.le_of_ble_eq_true rfl)⟩, ⟨hc, hsl⟩, fun r2 h2' hq2 => ?_⟩
  obtain ⟨rfl, rfl⟩ := hq2
  exact ⟨rfl, hJ2⟩
def po_18 (J' : am_H → Nat → Nat → Prop) (h : am_H) (c sl : Nat) : Prop := ∃ (n1 n2 : Nat) (v : Int32) (h1 h2 : am_H), f_X8_steps n1 h = some (v, h1) ∧ f_X9_steps n2 h1 = some (v, h2) ∧ c ≤ 600000 ∧ sl ≤ 7302250 ∧ J' h2 (c) (sl)
theorem pw_18 {J J' : am_H → Nat → Nat → Prop} (hp : ∀ h c sl, J h c sl → am_stat h ∧ po_18  J' h c sl) : am_pair mX8_steps mX9_steps [] J J' := by
  intro h c sl hJ
  obtain ⟨hs, n1, n2, v, h1, h2, e1, e2, hc, hsl, hJ2⟩ := hp h c sl hJ
  have hs1 : am_stat h1 := s_X8_steps n1 h hs e1
  refine ⟨rX8_steps 0 0, _, c_X8_steps n1 h hs e1, sK hs 0, ⟨(Nat.le_of_ble_eq_true rfl), (Nat.le_of_ble_eq_true rfl)⟩, ⟨hc, hsl⟩, fun r h1' hq => ?_⟩
  obtain ⟨rfl, rfl⟩ := hq
  refine ⟨v, rfl, rX9_steps 0 0, _, c_X9_steps n2 h1' hs1 e2, sK hs1 51, ⟨(Nat.le_of_ble_eq_true rfl), (Nat.le_of_ble_eq_true rfl)⟩, ⟨hc, hsl⟩, fun r2 h2' hq2 => ?_⟩
  obtain ⟨rfl, rfl⟩ := hq2
  exact ⟨rfl, hJ2⟩
def po_19 (a1 : Int32) (J' : am_H → Nat → Nat → Prop) (h : am_H) (c sl : Nat) : Prop := ∃ (n1 n2 : Nat) (v : Int32) (h1 h2 : am_H), f_X8_step n1 a1 h = some (v, h1) ∧ f_X9_step n2 a1 h1 = some (v, h2) ∧ c ≤ 600000 ∧ sl ≤ 7302250 ∧ J' h2 (c) (sl)
theorem pw_19 {J J' : am_H → Nat → Nat → Prop} (a1 : Int32) (hp : ∀ h c sl, J h c sl → am_stat h ∧ po_19 a1 J' h c sl) : am_pair mX8_step mX9_step [.int a1] J J' := by
  intro h c sl hJ
  obtain ⟨hs, n1, n2, v, h1, h2, e1, e2, hc, hsl, hJ2⟩ := hp h c sl hJ
  have hs1 : am_stat h1 := s_X8_step n1 a1 h hs e1
  refine ⟨rX8_step 0 0, _, c_X8_step n1 a1 h hs e1, sK hs 0, ⟨(Nat.le_of_ble_eq_true rfl), (Nat.le_of_ble_eq_true rfl)⟩, ⟨hc, hsl⟩, fun r h1' hq => ?_⟩
  obtain ⟨rfl, rfl⟩ := hq
  refine ⟨v, rfl, rX9_step 0 0, _, c_X9_step n2 a1 h1' hs1 e2, sK hs1 51, ⟨(Nat.le_of_ble_eq_true rfl), (Nat.le_of_ble_eq_true rfl)⟩, ⟨hc, hsl⟩, fun r2 h2' hq2 => ?_⟩
  obtain ⟨rfl, rfl⟩ := hq2
  exact ⟨rfl, hJ2⟩
def po_20 (a1 : Int32) (J' : am_H → Nat → Nat → Prop) (h : am_H) (c sl : Nat) : Prop := ∃ (n1 n2 : Nat) (v : Int32) (h1 h2 : am_H), f_X8_go n1 a1 h = some (v, h1) ∧ f_X9_go n2 a1 h1 = some (v, h2) ∧ c ≤ 600000 ∧ sl ≤ 7302250 ∧ J' h2 (c) (sl)
theorem pw_20 {J J' : am_H → Nat → Nat → Prop} (a1 : Int32) (hp : ∀ h c sl, J h c sl → am_stat h ∧ po_20 a1 J' h c sl) : am_pair mX8_go mX9_go [.int a1] J J' := by
  intro h c sl hJ
  obtain ⟨hs, n1, n2, v, h1, h2, e1, e2, hc, hsl, hJ2⟩ := hp h c sl hJ
  have hs1 : am_stat h1 := s_X8_go n1 a1 h hs e1
  refine ⟨rX8_go 0 0, _, c_X8_go n1 a1 h hs e1, sK hs 0, ⟨(Nat.le_of_ble_eq_true rfl), (Nat.le_of_ble_eq_true rfl)⟩, ⟨hc, hsl⟩, fun r h1' hq => ?_⟩
  obtain ⟨rfl, rfl⟩ := hq
  refine ⟨v, rfl, rX9_go 0 0, _, c_X9_go n2 a1 h1' hs1 e2, sK hs1 51, ⟨(Nat.le_of_ble_eq_true rfl), (Nat.le_of_ble_eq_true rfl)⟩, ⟨hc, hsl⟩, fun r2 h2' hq2 => ?_⟩
  obtain ⟨rfl, rfl⟩ := hq2
  exact ⟨rfl, hJ2⟩
def po_21 (a1 a2 : Int32) (J' : am_H → Nat → Nat → Prop) (h : am_H) (c sl : Nat) : Prop := ∃ (n1 n2 : Nat) (v : Int32) (h1 h2 : am_H), f_X8_run n1 a1 a2 h = some (v, h1) ∧ f_X9_run n2 a1 a2 h1 = some (v, h2) ∧ c ≤ 600000 ∧ sl ≤ 7302250 ∧ J' h2 (c) (sl)
theorem pw_21 {J J' : am_H → Nat → Nat → Prop} (a1 a2 : Int32) (hp : ∀ h c sl, J h c sl → am_stat h ∧ po_21 a1 a2 J' h c sl) : am_pair mX8_run mX9_run [.int a1, .int a2] J J' := by
  intro h c sl hJ
  obtain ⟨hs, n1, n2, v, h1, h2, e1, e2, hc, hsl, hJ2⟩ := hp h c sl hJ
  have hs1 : am_stat h1 := s_X8_run n1 a1 a2 h hs e1
  refine ⟨rX8_run 0 0, _, c_X8_run n1 a1 a2 h hs e1, sK hs 0, ⟨(Nat.le_of_ble_eq_true rfl), (Nat.le_of_ble_eq_true rfl)⟩, ⟨hc, hsl⟩, fun r h1' hq => ?_⟩
  obtain ⟨rfl, rfl⟩ := hq
  refine ⟨v, rfl, rX9_run 0 0, _, c_X9_run n2 a1 a2 h1' hs1 e2, sK hs1 51, ⟨(Nat.le_of_ble_eq_true rfl), (Nat.le_of_ble_eq_true rfl)⟩, ⟨hc, hsl⟩, fun r2 h2' hq2 => ?_⟩
  obtain ⟨rfl, rfl⟩ := hq2
  exact ⟨rfl, hJ2⟩
def po_22 (a1 : Int32) (J' : am_H → Nat → Nat → Prop) (h : am_H) (c sl : Nat) : Prop := ∃ (v : Int32) (h1 h2 : am_H), f_X8_at a1 h = some (v, h1) ∧ f_X9_at a1 h1 = some (v, h2) ∧ c ≤ 600000 ∧ sl ≤ 7302250 ∧ J' h2 (c) (sl)
theorem pw_22 {J J' : am_H → Nat → Nat → Prop} (a1 : Int32) (hp : ∀ h c sl, J h c sl → am_stat h ∧ po_22 a1 J' h c sl) : am_pair mX8_at mX9_at [.int a1] J J' := by
  intro h c sl hJ
  obtain ⟨hs, v, h1, h2, e1, e2, hc, hsl, hJ2⟩ := hp h c sl hJ
  have hs1 : am_stat h1 := s_X8_at a1 h hs e1
  refine ⟨rX8_at 0 0, _, c_X8_at a1 h hs e1, sK hs 0, ⟨(Nat.le_of_ble_eq_true rfl), (Nat.le_of_ble_eq_true rfl)⟩, ⟨hc, hsl⟩, fun r h1' hq => ?_⟩
  obtain ⟨rfl, rfl⟩ := hq
  refine ⟨v, rfl, rX9_at 0 0, _, c_X9_at a1 h1' hs1 e2, sK hs1 51, ⟨(Nat.le_of_ble_eq_true rfl), (Nat.le_of_ble_eq_true rfl)⟩, ⟨hc, hsl⟩, fun r2 h2' hq2 => ?_⟩
  obtain ⟨rfl, rfl⟩ := hq2
  exact ⟨rfl, hJ2⟩
def po_23 (a1 a2 a3 : Int32) (J' : am_H → Nat → Nat → Prop) (h : am_H) (c sl : Nat) : Prop := ∃ (n1 : Nat) (v : Int32) (h1 h2 : am_H), f_X8_lies n1 a1 a2 a3 h = some (v, h1) ∧ f_X9_lies a1 a2 a3 h1 = some (v, h2) ∧ c ≤ 600000 ∧ sl ≤ 7302250 ∧ J' h2 (c) (sl)
theorem pw_23 {J J' : am_H → Nat → Nat → Prop} (a1 a2 a3 : Int32) (hp : ∀ h c sl, J h c sl → am_stat h ∧ po_23 a1 a2 a3 J' h c sl) : am_pair mX8_lies mX9_lies [.int a1, .int a2, .int a3] J J' := by
  intro h c sl hJ
  obtain ⟨hs, n1, v, h1, h2, e1, e2, hc, hsl, hJ2⟩ := hp h c sl hJ
  have hs1 : am_stat h1 := s_X8_lies n1 a1 a2 a3 h hs e1
  refine ⟨rX8_lies 0 0, _, c_X8_lies n1 a1 a2 a3 h hs e1, sK hs 0, ⟨(Nat.le_of_ble_eq_true rfl), (Nat.le_of_ble_eq_true rfl)⟩, ⟨hc, hsl⟩, fun r h1' hq => ?_⟩
  obtain ⟨rfl, rfl⟩ := hq
  refine ⟨v, rfl, rX9_lies 0 0, _, c_X9_lies a1 a2 a3 h1' hs1 e2, sK hs1 51, ⟨(Nat.le_of_ble_eq_true rfl), (Nat.le_of_ble_eq_true rfl)⟩, ⟨hc, hsl⟩, fun r2 h2' hq2 => ?_⟩
  obtain ⟨rfl, rfl⟩ := hq2
  exact ⟨rfl, hJ2⟩
def po_24 (a1 : Int32) (J' : am_H → Nat → Nat → Prop) (h : am_H) (c sl : Nat) : Prop := ∃ (n1 n2 : Nat) (v : Int32) (h1 h2 : am_H) (c1 s1 : Nat), f_X8_now n1 a1 h = some ((v, h1), c1, s1) ∧ f_X9_now n2 a1 h1 = some (v, h2) ∧ c + c1 ≤ 600000 ∧ sl + s1 ≤ 7302250 ∧ J' h2 (c + c1) (sl + s1)
theorem pw_24 {J J' : am_H → Nat → Nat → Prop} (a1 : Int32) (hp : ∀ h c sl, J h c sl → am_stat h ∧ po_24 a1 J' h c sl) : am_pair mX8_now mX9_now [.int a1] J J' := by
  intro h c sl hJ
  obtain ⟨hs, n1, n2, v, h1, h2, c1, s1, e1, e2, hc, hsl, hJ2⟩ := hp h c sl hJ
  have hs1 : am_stat h1 := s_X8_now n1 a1 h hs e1
  refine ⟨rX8_now c1 s1, _, c_X8_now n1 a1 h hs c1 s1 (by omega) (by omega) e1, sK hs 0, ⟨(Nat.le_of_ble_eq_true rfl), (Nat.le_of_ble_eq_true rfl)⟩, ⟨hc, hsl⟩, fun r h1' hq => ?_⟩
  obtain ⟨rfl, rfl⟩ := hq
  refine ⟨v, rfl, rX9_now 0 0, _, c_X9_now n2 a1 h1' hs1 e2, sK hs1 51, ⟨(Nat.le_of_ble_eq_true rfl), (Nat.le_of_ble_eq_true rfl)⟩, ⟨hc, hsl⟩, fun r2 h2' hq2 => ?_⟩
  obtain ⟨rfl, rfl⟩ := hq2
  exact ⟨rfl, hJ2⟩
def po_25 (J' : am_H → Nat → Nat → Prop) (h : am_H) (c sl : Nat) : Prop := ∃ (n1 n2 : Nat) (v : Int32) (h1 h2 : am_H) (c1 s1 : Nat), f_X8_met n1 h = some ((v, h1), c1, s1) ∧ f_X9_met n2 h1 = some (v, h2) ∧ c + c1 ≤ 600000 ∧ sl + s1 ≤ 7302250 ∧ J' h2 (c + c1) (sl + s1)
theorem pw_25 {J J' : am_H → Nat → Nat → Prop} (hp : ∀ h c sl, J h c sl → am_stat h ∧ po_25  J' h c sl) : am_pair mX8_met mX9_met [] J J' := by
  intro h c sl hJ
  obtain ⟨hs, n1, n2, v, h1, h2, c1, s1, e1, e2, hc, hsl, hJ2⟩ := hp h c sl hJ
  have hs1 : am_stat h1 := s_X8_met n1 h hs e1
  refine ⟨rX8_met c1 s1, _, c_X8_met n1 h hs c1 s1 (by omega) (by omega) e1, sK hs 0, ⟨(Nat.le_of_ble_eq_true rfl), (Nat.le_of_ble_eq_true rfl)⟩, ⟨hc, hsl⟩, fun r h1' hq => ?_⟩
  obtain ⟨rfl, rfl⟩ := hq
  refine ⟨v, rfl, rX9_met 0 0, _, c_X9_met n2 h1' hs1 e2, sK hs1 51, ⟨(Nat.le_of_ble_eq_true rfl), (Nat.le_of_ble_eq_true rfl)⟩, ⟨hc, hsl⟩, fun r2 h2' hq2 => ?_⟩
  obtain ⟨rfl, rfl⟩ := hq2
  exact ⟨rfl, hJ2⟩
def po_26 (a1 a2 : Int32) (J' : am_H → Nat → Nat → Prop) (h : am_H) (c sl : Nat) : Prop := ∃ (n1 n2 : Nat) (v : Int32) (h1 h2 : am_H) (c1 s1 : Nat), f_X8_find n1 a1 a2 h = some ((v, h1), c1, s1) ∧ f_X9_find n2 a1 a2 h1 = some (v, h2) ∧ c + c1 ≤ 600000 ∧ sl + s1 ≤ 7302250 ∧ J' h2 (c + c1) (sl + s1)
theorem pw_26 {J J' : am_H → Nat → Nat → Prop} (a1 a2 : Int32) (hp : ∀ h c sl, J h c sl → am_stat h ∧ po_26 a1 a2 J' h c sl) : am_pair mX8_find mX9_find [.int a1, .int a2] J J' := by
  intro h c sl hJ
  obtain ⟨hs, n1, n2, v, h1, h2, c1, s1, e1, e2, hc, hsl, hJ2⟩ := hp h c sl hJ
  have hs1 : am_stat h1 := s_X8_find n1 a1 a2 h hs e1
  refine ⟨rX8_find c1 s1, _, c_X8_find n1 a1 a2 h hs c1 s1 (by omega) (by omega) e1, sK hs 0, ⟨(Nat.le_of_ble_eq_true rfl), (Nat.le_of_ble_eq_true rfl)⟩, ⟨hc, hsl⟩, fun r h1' hq => ?_⟩
  obtain ⟨rfl, rfl⟩ := hq
  refine ⟨v, rfl, rX9_find 0 0, _, c_X9_find n2 a1 a2 h1' hs1 e2, sK hs1 51, ⟨(Nat.le_of_ble_eq_true rfl), (Nat.le_of_ble_eq_true rfl)⟩, ⟨hc, hsl⟩, fun r2 h2' hq2 => ?_⟩
  obtain ⟨rfl, rfl⟩ := hq2
  exact ⟨rfl, hJ2⟩
def po_27 (a1 a2 : Int32) (J' : am_H → Nat → Nat → Prop) (h : am_H) (c sl : Nat) : Prop := ∃ (n1 n2 : Nat) (v : Int32) (h1 h2 : am_H) (c1 s1 : Nat), f_X8_most n1 a1 a2 h = some ((v, h1), c1, s1) ∧ f_X9_most n2 a1 a2 h1 = some (v, h2) ∧ c + c1 ≤ 600000 ∧ sl + s1 ≤ 7302250 ∧ J' h2 (c + c1) (sl + s1)
theorem pw_27 {J J' : am_H → Nat → Nat → Prop} (a1 a2 : Int32) (hp : ∀ h c sl, J h c sl → am_stat h ∧ po_27 a1 a2 J' h c sl) : am_pair mX8_most mX9_most [.int a1, .int a2] J J' := by
  intro h c sl hJ
  obtain ⟨hs, n1, n2, v, h1, h2, c1, s1, e1, e2, hc, hsl, hJ2⟩ := hp h c sl hJ
  have hs1 : am_stat h1 := s_X8_most n1 a1 a2 h hs e1
  refine ⟨rX8_most c1 s1, _, c_X8_most n1 a1 a2 h hs c1 s1 (by omega) (by omega) e1, sK hs 0, ⟨(Nat.le_of_ble_eq_true rfl), (Nat.le_of_ble_eq_true rfl)⟩, ⟨hc, hsl⟩, fun r h1' hq => ?_⟩
  obtain ⟨rfl, rfl⟩ := hq
  refine ⟨v, rfl, rX9_most 0 0, _, c_X9_most n2 a1 a2 h1' hs1 e2, sK hs1 51, ⟨(Nat.le_of_ble_eq_true rfl), (Nat.le_of_ble_eq_true rfl)⟩, ⟨hc, hsl⟩, fun r2 h2' hq2 => ?_⟩
  obtain ⟨rfl, rfl⟩ := hq2
  exact ⟨rfl, hJ2⟩
def po_28 (a1 : Int32) (J' : am_H → Nat → Nat → Prop) (h : am_H) (c sl : Nat) : Prop := ∃ (n1 n2 : Nat) (v : Int32) (h1 h2 : am_H) (c1 s1 : Nat), f_X8_mend n1 a1 h = some ((v, h1), c1, s1) ∧ f_X9_mend n2 a1 h1 = some (v, h2) ∧ c + c1 ≤ 600000 ∧ sl + s1 ≤ 7302250 ∧ J' h2 (c + c1) (sl + s1)
theorem pw_28 {J J' : am_H → Nat → Nat → Prop} (a1 : Int32) (hp : ∀ h c sl, J h c sl → am_stat h ∧ po_28 a1 J' h c sl) : am_pair mX8_mend mX9_mend [.int a1] J J' := by
  intro h c sl hJ
  obtain ⟨hs, n1, n2, v, h1, h2, c1, s1, e1, e2, hc, hsl, hJ2⟩ := hp h c sl hJ
  have hs1 : am_stat h1 := s_X8_mend n1 a1 h hs e1
  refine ⟨rX8_mend c1 s1, _, c_X8_mend n1 a1 h hs c1 s1 (by omega) (by omega) e1, sK hs 0, ⟨(Nat.le_of_ble_eq_true rfl), (Nat.le_of_ble_eq_true rfl)⟩, ⟨hc, hsl⟩, fun r h1' hq => ?_⟩
  obtain ⟨rfl, rfl⟩ := hq
  refine ⟨v, rfl, rX9_mend 0 0, _, c_X9_mend n2 a1 h1' hs1 e2, sK hs1 51, ⟨(Nat.le_of_ble_eq_true rfl), (Nat.le_of_ble_eq_true rfl)⟩, ⟨hc, hsl⟩, fun r2 h2' hq2 => ?_⟩
  obtain ⟨rfl, rfl⟩ := hq2
  exact ⟨rfl, hJ2⟩
def po_29 (a1 : Int32) (J' : am_H → Nat → Nat → Prop) (h : am_H) (c sl : Nat) : Prop := ∃ (n1 n2 : Nat) (v : Int32) (h1 h2 : am_H), f_X8_count n1 a1 h = some (v, h1) ∧ f_X9_count n2 a1 h1 = some (v, h2) ∧ c ≤ 600000 ∧ sl ≤ 7302250 ∧ J' h2 (c) (sl)
theorem pw_29 {J J' : am_H → Nat → Nat → Prop} (a1 : Int32) (hp : ∀ h c sl, J h c sl → am_stat h ∧ po_29 a1 J' h c sl) : am_pair mX8_count mX9_count [.int a1] J J' := by
  intro h c sl hJ
  obtain ⟨hs, n1, n2, v, h1, h2, e1, e2, hc, hsl, hJ2⟩ := hp h c sl hJ
  have hs1 : am_stat h1 := s_X8_count n1 a1 h hs e1
  refine ⟨rX8_count 0 0, _, c_X8_count n1 a1 h hs e1, sK hs 0, ⟨(Nat.le_of_ble_eq_true rfl), (Nat.le_of_ble_eq_true rfl)⟩, ⟨hc, hsl⟩, fun r h1' hq => ?_⟩
  obtain ⟨rfl, rfl⟩ := hq
  refine ⟨v, rfl, rX9_count 0 0, _, c_X9_count n2 a1 h1' hs1 e2, sK hs1 51, ⟨(Nat.le_of_ble_eq_true rfl), (Nat.le_of_ble_eq_true rfl)⟩, ⟨hc, hsl⟩, fun r2 h2' hq2 => ?_⟩
  obtain ⟨rfl, rfl⟩ := hq2
  exact ⟨rfl, hJ2⟩
def po_30 (J' : am_H → Nat → Nat → Prop) (h : am_H) (c sl : Nat) : Prop := ∃ (n1 n2 : Nat) (v : Int64) (h1 h2 : am_H) (c1 s1 : Nat), f_X8_digest n1 h = some ((v, h1), c1, s1) ∧ f_X9_digest n2 h1 = some (v, h2) ∧ c + c1 ≤ 600000 ∧ sl + s1 ≤ 7302250 ∧ J' h2 (c + c1) (sl + s1)
theorem pw_30 {J J' : am_H → Nat → Nat → Prop} (hp : ∀ h c sl, J h c sl → am_stat h ∧ po_30  J' h c sl) : am_pairL mX8_digest mX9_digest [] J J' := by
  intro h c sl hJ
  obtain ⟨hs, n1, n2, v, h1, h2, c1, s1, e1, e2, hc, hsl, hJ2⟩ := hp h c sl hJ
  have hs1 : am_stat h1 := s_X8_digest n1 h hs e1
  refine ⟨rX8_digest c1 s1, _, c_X8_digest n1 h hs c1 s1 (by omega) (by omega) e1, sK hs 0, ⟨(Nat.le_of_ble_eq_true rfl), (Nat.le_of_ble_eq_true rfl)⟩, ⟨hc, hsl⟩, fun r h1' hq => ?_⟩
  obtain ⟨rfl, rfl⟩ := hq
  refine ⟨v, rfl, rX9_digest 0 0, _, c_X9_digest n2 h1' hs1 e2, sK hs1 51, ⟨(Nat.le_of_ble_eq_true rfl), (Nat.le_of_ble_eq_true rfl)⟩, ⟨hc, hsl⟩, fun r2 h2' hq2 => ?_⟩
  obtain ⟨rfl, rfl⟩ := hq2
  exact ⟨rfl, hJ2⟩
/-- all 31, of one heap -/
def po_all (J' : am_H → Nat → Nat → Prop) (h : am_H) (c sl : Nat) : Prop := (∀ w, po_0 w J' h c sl) ∧ (po_1  J' h c sl) ∧ (∀ a1, po_2 a1 J' h c sl) ∧ (po_3  J' h c sl) ∧ (po_4  J' h c sl) ∧ (∀ a1 a2, po_5 a1 a2 J' h c sl) ∧ (∀ a1, po_6 a1 J' h c sl) ∧ (∀ a1 a2, po_7 a1 a2 J' h c sl) ∧ (∀ a1 a2, po_8 a1 a2 J' h c sl) ∧ (∀ a1 a2, po_9 a1 a2 J' h c sl) ∧ (∀ a1 a2, po_10 a1 a2 J' h c sl) ∧ (∀ a1 a2 a3, po_11 a1 a2 a3 J' h c sl) ∧ (∀ a1, po_12 a1 J' h c sl) ∧ (∀ a1 a2, po_13 a1 a2 J' h c sl) ∧ (∀ a1 a2 a3, po_14 a1 a2 a3 J' h c sl) ∧ (∀ a1 a2 a3, po_15 a1 a2 a3 J' h c sl) ∧ (∀ a1, po_16 a1 J' h c sl) ∧ (po_17  J' h c sl) ∧ (po_18  J' h c sl) ∧ (∀ a1, po_19 a1 J' h c sl) ∧ (∀ a1, po_20 a1 J' h c sl) ∧ (∀ a1 a2, po_21 a1 a2 J' h c sl) ∧ (∀ a1, po_22 a1 J' h c sl) ∧ (∀ a1 a2 a3, po_23 a1 a2 a3 J' h c sl) ∧ (∀ a1, po_24 a1 J' h c sl) ∧ (po_25  J' h c sl) ∧ (∀ a1 a2, po_26 a1 a2 J' h c sl) ∧ (∀ a1 a2, po_27 a1 a2 J' h c sl) ∧ (∀ a1, po_28 a1 J' h c sl) ∧ (∀ a1, po_29 a1 J' h c sl) ∧ (po_30  J' h c sl) ∧ J' h c sl
theorem po_ops {J J' : am_H → Nat → Nat → Prop} (H : ∀ h c sl, J h c sl → am_stat h ∧ po_all J' h c sl) : am_ops J J' := by
  exact ⟨fun w => pw_0 w (fun h c sl hJ => ⟨(H h c sl hJ).1, (H h c sl hJ).2.1 w⟩), pw_1 (fun h c sl hJ => ⟨(H h c sl hJ).1, (H h c sl hJ).2.2.1⟩), fun a1 => pw_2 a1 (fun h c sl hJ => ⟨(H h c sl hJ).1, (H h c sl hJ).2.2.2.1 a1⟩), pw_3 (fun h c sl hJ => ⟨(H h c sl hJ).1, (H h c sl hJ).2.2.2.2.1⟩), pw_4 (fun h c sl hJ => ⟨(H h c sl hJ).1, (H h c sl hJ).2.2.2.2.2.1⟩), fun a1 a2 => pw_5 a1 a2 (fun h c sl hJ => ⟨(H h c sl hJ).1, (H h c sl hJ).2.2.2.2.2.2.1 a1 a2⟩), fun a1 => pw_6 a1 (fun h c sl hJ => ⟨(H h c sl hJ).1, (H h c sl hJ).2.2.2.2.2.2.2.1 a1⟩), fun a1 a2 => pw_7 a1 a2 (fun h c sl hJ => ⟨(H h c sl hJ).1, (H h c sl hJ).2.2.2.2.2.2.2.2.1 a1 a2⟩), fun a1 a2 => pw_8 a1 a2 (fun h c sl hJ => ⟨(H h c sl hJ).1, (H h c sl hJ).2.2.2.2.2.2.2.2.2.1 a1 a2⟩), fun a1 a2 => pw_9 a1 a2 (fun h c sl hJ => ⟨(H h c sl hJ).1, (H h c sl hJ).2.2.2.2.2.2.2.2.2.2.1 a1 a2⟩), fun a1 a2 => pw_10 a1 a2 (fun h c sl hJ => ⟨(H h c sl hJ).1, (H h c sl hJ).2.2.2.2.2.2.2.2.2.2.2.1 a1 a2⟩), fun a1 a2 a3 => pw_11 a1 a2 a3 (fun h c sl hJ => ⟨(H h c sl hJ).1, (H h c sl hJ).2.2.2.2.2.2.2.2.2.2.2.2.1 a1 a2 a3⟩), fun a1 => pw_12 a1 (fun h c sl hJ => ⟨(H h c sl hJ).1, (H h c sl hJ).2.2.2.2.2.2.2.2.2.2.2.2.2.1 a1⟩), fun a1 a2 => pw_13 a1 a2 (fun h c sl hJ => ⟨(H h c sl hJ).1, (H h c sl hJ).2.2.2.2.2.2.2.2.2.2.2.2.2.2.1 a1 a2⟩), fun a1 a2 a3 => pw_14 a1 a2 a3 (fun h c sl hJ => ⟨(H h c sl hJ).1, (H h c sl hJ).2.2.2.2.2.2.2.2.2.2.2.2.2.2.2.1 a1 a2 a3⟩), fun a1 a2 a3 => pw_15 a1 a2 a3 (fun h c sl hJ => ⟨(H h c sl hJ).1, (H h c sl hJ).2.2.2.2.2.2.2.2.2.2.2.2.2.2.2.2.1 a1 a2 a3⟩), fun a1 => pw_16 a1 (fun h c sl hJ => ⟨(H h c sl hJ).1, (H h c sl hJ).2.2.2.2.2.2.2.2.2.2.2.2.2.2.2.2.2.1 a1⟩), pw_17 (fun h c sl hJ => ⟨(H h c sl hJ).1, (H h c sl hJ).2.2.2.2.2.2.2.2.2.2.2.2.2.2.2.2.2.2.1⟩), pw_18 (fun h c sl hJ => ⟨(H h c sl hJ).1, (H h c sl hJ).2.2.2.2.2.2.2.2.2.2.2.2.2.2.2.2.2.2.2.1⟩), fun a1 => pw_19 a1 (fun h c sl hJ => ⟨(H h c sl hJ).1, (H h c sl hJ).2.2.2.2.2.2.2.2.2.2.2.2.2.2.2.2.2.2.2.2.1 a1⟩), fun a1 => pw_20 a1 (fun h c sl hJ => ⟨(H h c sl hJ).1, (H h c sl hJ).2.2.2.2.2.2.2.2.2.2.2.2.2.2.2.2.2.2.2.2.2.1 a1⟩), fun a1 a2 => pw_21 a1 a2 (fun h c sl hJ => ⟨(H h c sl hJ).1, (H h c sl hJ).2.2.2.2.2.2.2.2.2.2.2.2.2.2.2.2.2.2.2.2.2.2.1 a1 a2⟩), fun a1 => pw_22 a1 (fun h c sl hJ => ⟨(H h c sl hJ).1, (H h c sl hJ).2.2.2.2.2.2.2.2.2.2.2.2.2.2.2.2.2.2.2.2.2.2.2.1 a1⟩), fun a1 a2 a3 => pw_23 a1 a2 a3 (fun h c sl hJ => ⟨(H h c sl hJ).1, (H h c sl hJ).2.2.2.2.2.2.2.2.2.2.2.2.2.2.2.2.2.2.2.2.2.2.2.2.1 a1 a2 a3⟩), fun a1 => pw_24 a1 (fun h c sl hJ => ⟨(H h c sl hJ).1, (H h c sl hJ).2.2.2.2.2.2.2.2.2.2.2.2.2.2.2.2.2.2.2.2.2.2.2.2.2.1 a1⟩), pw_25 (fun h c sl hJ => ⟨(H h c sl hJ).1, (H h c sl hJ).2.2.2.2.2.2.2.2.2.2.2.2.2.2.2.2.2.2.2.2.2.2.2.2.2.2.1⟩), fun a1 a2 => pw_26 a1 a2 (fun h c sl hJ => ⟨(H h c sl hJ).1, (H h c sl hJ).2.2.2.2.2.2.2.2.2.2.2.2.2.2.2.2.2.2.2.2.2.2.2.2.2.2.2.1 a1 a2⟩), fun a1 a2 => pw_27 a1 a2 (fun h c sl hJ => ⟨(H h c sl hJ).1, (H h c sl hJ).2.2.2.2.2.2.2.2.2.2.2.2.2.2.2.2.2.2.2.2.2.2.2.2.2.2.2.2.1 a1 a2⟩), fun a1 => pw_28 a1 (fun h c sl hJ => ⟨(H h c sl hJ).1, (H h c sl hJ).2.2.2.2.2.2.2.2.2.2.2.2.2.2.2.2.2.2.2.2.2.2.2.2.2.2.2.2.2.1 a1⟩), fun a1 => pw_29 a1 (fun h c sl hJ => ⟨(H h c sl hJ).1, (H h c sl hJ).2.2.2.2.2.2.2.2.2.2.2.2.2.2.2.2.2.2.2.2.2.2.2.2.2.2.2.2.2.2.1 a1⟩), pw_30 (fun h c sl hJ => ⟨(H h c sl hJ).1, (H h c sl hJ).2.2.2.2.2.2.2.2.2.2.2.2.2.2.2.2.2.2.2.2.2.2.2.2.2.2.2.2.2.2.2.1⟩), fun h c sl hJ => (H h c sl hJ).2.2.2.2.2.2.2.2.2.2.2.2.2.2.2.2.2.2.2.2.2.2.2.2.2.2.2.2.2.2.2.2⟩
