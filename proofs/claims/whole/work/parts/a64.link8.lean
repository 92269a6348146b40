/-! ===== the class's survey: steps backwards are kept (link) ===== -/
/-- the last of the first m leads that leads to i -/
def lkI (et : Nat → Nat) (i : Nat) : Nat → Int32
  | 0 => Int32.ofInt (-1)
  | m + 1 => if et m = i then nI m else lkI et i m
theorem lkI_c {et et' : Nat → Nat} (i : Nat) : ∀ m, (∀ j, j < m → et' j = et j) → lkI et' i m = lkI et i m
  | 0, _ => rfl
  | m + 1, h => by
    show (if et' m = i then nI m else lkI et' i m) = (if et m = i then nI m else lkI et i m)
    rw [h m (Nat.lt_succ_self m), lkI_c i m (fun j hj => h j (Nat.lt_succ_of_lt hj))]
theorem lkI_no {et : Nat → Nat} {i : Nat} : ∀ m, (∀ j, j < m → et j ≠ i) → lkI et i m = Int32.ofInt (-1)
  | 0, _ => rfl
  | m + 1, h => by
    show (if et m = i then nI m else lkI et i m) = _
    rw [if_neg (h m (Nat.lt_succ_self m)), lkI_no m (fun j hj => h j (Nat.lt_succ_of_lt hj))]
/-- the two rows that grow -/
def GR (h : am_H) (o cap qs qn : Nat) : Prop := (am_A h o 13 = some qs ∧ am_A h o 14 = some qn ∧ am_K h qs = .inr (0, cap) ∧ am_K h qn = .inr (0, cap)) ∧ (qs ≠ qn ∧ qs < h.1 ∧ qn < h.1 ∧ 87 ≤ h.1) ∧ (qs = o + 10 ∨ 87 ≤ qs) ∧ (qn = o + 11 ∨ 87 ≤ qn) ∧ 4096 ≤ cap ∧ cap ≤ 360000
/-- the leads as the class keeps them -/
def LK (h : am_H) (o cap qs qn m n : Nat) (es et : Nat → Nat) : Prop := GR h o cap qs qn ∧ am_I h o 12 = nI m ∧ m ≤ cap ∧ (∀ j, j < m → am_I h qs j = nI (es j) ∧ am_I h qn j = lkI et (et j) j) ∧ ∀ i, i < n → am_I h (o + 9) i = lkI et i m
def lkTail (o : Nat) (a1 : Int32) (a2 : Int32) (h : am_H) : Option ((Unit × am_H) × Nat × Nat) := (am_A h o 13).bind fun q6 => ((am_ln h 0 q6).bind fun n8 => (bif am_vp (am_I h o 12) n8 then ((am_A (am_sI h q6 (Int32.toNatClampNeg (am_I h o 12)) a1) o 14).bind fun q11 => (bif am_vp a2 2000 then ((am_ln (am_sI h q6 (Int32.toNatClampNeg (am_I h o 12)) a1) 0 q11).bind fun n14 => (bif am_vp (am_I (am_sI h q6 (Int32.toNatClampNeg (am_I h o 12)) a1) o 12) n14 then (some (((), (am_sI (am_sI (am_sI (am_sI h q6 (Int32.toNatClampNeg (am_I h o 12)) a1) q11 (Int32.toNatClampNeg (am_I (am_sI h q6 (Int32.toNatClampNeg (am_I h o 12)) a1) o 12)) (am_I (am_sI h q6 (Int32.toNatClampNeg (am_I h o 12)) a1) (o + 9) (Int32.toNatClampNeg a2))) (o + 9) (Int32.toNatClampNeg a2) (am_I (am_sI (am_sI h q6 (Int32.toNatClampNeg (am_I h o 12)) a1) q11 (Int32.toNatClampNeg (am_I (am_sI h q6 (Int32.toNatClampNeg (am_I h o 12)) a1) o 12)) (am_I (am_sI h q6 (Int32.toNatClampNeg (am_I h o 12)) a1) (o + 9) (Int32.toNatClampNeg a2))) o 12)) o 12 ((am_I (am_sI (am_sI (am_sI h q6 (Int32.toNatClampNeg (am_I h o 12)) a1) q11 (Int32.toNatClampNeg (am_I (am_sI h q6 (Int32.toNatClampNeg (am_I h o 12)) a1) o 12)) (am_I (am_sI h q6 (Int32.toNatClampNeg (am_I h o 12)) a1) (o + 9) (Int32.toNatClampNeg a2))) (o + 9) (Int32.toNatClampNeg a2) (am_I (am_sI (am_sI h q6 (Int32.toNatClampNeg (am_I h o 12)) a1) q11 (Int32.toNatClampNeg (am_I (am_sI h q6 (Int32.toNatClampNeg (am_I h o 12)) a1) o 12)) (am_I (am_sI h q6 (Int32.toNatClampNeg (am_I h o 12)) a1) (o + 9) (Int32.toNatClampNeg a2))) o 12)) o 12) + (Int32.ofInt 1)))), 0, 0)) else none)) else none)) else none))
def lkHeap (h : am_H) (o qs qn m k t : Nat) : am_H := am_sI (am_sI (am_sI (am_sI h qs m (nI k)) qn m (am_I h (o + 9) t)) (o + 9) t (nI m)) o 12 (nI (m + 1))
theorem sv_ne {o q d : Nat} (ho : o = 37 ∨ o = 37) (hq : q = o + d ∨ 87 ≤ q) {j : Nat} (hj : j < 12) (hd : j ≠ d) : o + j ≠ q := by omega
theorem lkT {h : am_H} {o cap qs qn m k t : Nat} (ho : o = 37 ∨ o = 37) (g : GR h o cap qs qn) (h12 : am_I h o 12 = nI m) (hm : m < cap) (ht : t < 2000) : lkTail o (nI k) (nI t) h = some (((), lkHeap h o qs qn m k t), 0, 0) := by
  obtain ⟨⟨a13, a14, ks, kn⟩, ⟨ne, ls, ln, h98⟩, os, on, c1, c2⟩ := g
  have os0 : o ≠ qs := sv_ne ho os (j := 0) (by decide) (by decide)
  have on0 : o ≠ qn := sv_ne ho on (j := 0) (by decide) (by decide)
  have os9 : o + 9 ≠ qs := sv_ne ho os (by decide) (by decide)
  have on9 : o + 9 ≠ qn := sv_ne ho on (by decide) (by decide)
  have o9 : o ≠ o + 9 := by omega
  have vm : am_vp (nI m) cap = true := hp_vp hm (by omega)
  have cm : Int32.toNatClampNeg (nI m) = m := nI_clamp (by omega)
  have vt : am_vp (nI t) 2000 = true := hp_vp ht (by decide)
  have ct : Int32.toNatClampNeg (nI t) = t := nI_clamp (by omega)
  have a14' : am_A (am_sI h qs m (nI k)) o 14 = some qn := a14
  have kn' : am_ln (am_sI h qs m (nI k)) 0 qn = some cap := hp_ln kn
  have e1 : am_I (am_sI h qs m (nI k)) o 12 = nI m := by rw [hp_I' _ _ _ os0]; exact h12
  have e2 : am_I (am_sI h qs m (nI k)) (o + 9) t = am_I h (o + 9) t := by rw [hp_I' _ _ _ os9]
  have e3 : am_I (am_sI (am_sI h qs m (nI k)) qn m (am_I h (o + 9) t)) o 12 = nI m := by rw [hp_I' _ _ _ on0]; exact e1
  have e4 : am_I (am_sI (am_sI (am_sI h qs m (nI k)) qn m (am_I h (o + 9) t)) (o + 9) t (nI m)) o 12 = nI m := by rw [hp_I' _ _ _ o9]; exact e3
  unfold lkTail
  rw [a13, b_some, hp_ln ks, b_some, h12, vm, cond_true, cm, a14', b_some, vt, cond_true, kn', b_some, e1, vm, cond_true, cm, ct, e2, e3, e4, hp_1]
  rfl
theorem lkH_LK {h : am_H} {o cap qs qn m n k t : Nat} {es et : Nat → Nat} (ho : o = 37 ∨ o = 37) (L : LK h o cap qs qn m n es et) (hm : m < cap) (ht : t < n) : LK (lkHeap h o qs qn m k t) o cap qs qn (m + 1) n (updN es m k) (updN et m t) := by
  obtain ⟨g, h12, hmc, hr, hc⟩ := L
  have gg := g
  obtain ⟨⟨a13, a14, ks, kn⟩, ⟨ne, ls, ln, h98⟩, os, on, c1, c2⟩ := gg
  have os0 : qs ≠ o := Ne.symm (sv_ne ho os (j := 0) (by decide) (by decide))
  have on0 : qn ≠ o := Ne.symm (sv_ne ho on (j := 0) (by decide) (by decide))
  have os9 : qs ≠ o + 9 := Ne.symm (sv_ne ho os (by decide) (by decide))
  have on9 : qn ≠ o + 9 := Ne.symm (sv_ne ho on (by decide) (by decide))
  have iS : am_I (lkHeap h o qs qn m k t) qs = upd (am_I h qs) m (nI k) := by
    unfold lkHeap; rw [hp_I' _ _ _ os0, hp_I' _ _ _ os9, hp_I' _ _ _ ne, hp_I]
  have iN : am_I (lkHeap h o qs qn m k t) qn = upd (am_I h qn) m (am_I h (o + 9) t) := by
    unfold lkHeap; rw [hp_I' _ _ _ on0, hp_I' _ _ _ on9, hp_I, hp_I' _ _ _ (Ne.symm ne)]
  have i9 : am_I (lkHeap h o qs qn m k t) (o + 9) = upd (am_I h (o + 9)) t (nI m) := by
    unfold lkHeap; rw [hp_I' _ _ _ (show o + 9 ≠ o by omega), hp_I, hp_I' _ _ _ (Ne.symm on9), hp_I' _ _ _ (Ne.symm os9)]
  refine ⟨g, by unfold lkHeap; rw [hp_I, upd_at], by omega, fun j hj => ?_, fun i hi => ?_⟩
  · rw [iS, iN]
    by_cases c : j = m
    · subst c
      rw [upd_at, upd_at, updN_at, updN_at, hc t ht, lkI_c t j (fun i hi => updN_ne (by omega))]
      exact ⟨rfl, rfl⟩
    · rw [upd_ne c, upd_ne c, updN_ne c, updN_ne c, lkI_c (et j) j (fun i hi => updN_ne (by omega))]
      exact hr j (by omega)
  · rw [i9]
    show _ = (if updN et m t m = i then nI m else lkI (updN et m t) i m)
    rw [updN_at, lkI_c i m (fun j hj => updN_ne (by omega))]
    by_cases c : i = t
    · rw [c, upd_at, if_pos rfl]
    · rw [upd_ne c, if_neg (fun e => c e.symm)]; exact hc i hi
