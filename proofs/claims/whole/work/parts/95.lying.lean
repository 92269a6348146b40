/-! ===== how many letters lie ===== -/
theorem ll_l (n : Nat) {h : am_H} {k c v : Nat} (hk : k < 9) (hc : c < 125) (e : am_I h 78 k = nI c) : g_X9_lettersLying (n + 1) 0 (nI v) (nI k) h = g_X9_lettersLying n 0 (nI (v + ps_sz c)) (nI (k + 1)) h := by
  rw [g_X9_lettersLying, if_neg (show ¬ Int32.ofInt 9 ≤ nI k from nI_ge (a := k) (b := 9) hk (by decide)), hp_vp hk (by decide), cond_true, nI_clamp (show k < 2 ^ 31 by omega), e, sz9 hc, b2s, nI_add, hp_1]
def tLie (s : TS) : Nat := ps_sz (s.2 0) + ps_sz (s.2 1) + ps_sz (s.2 2) + ps_sz (s.2 3) + ps_sz (s.2 4) + ps_sz (s.2 5)
theorem ll_9 (n : Nat) {h : am_H} {r : TR} {s : TS} (hs : r.sk s) (w : W9 h s) (z : Z9 h) : f_X9_lettersLying (n + 10) h = some (nI (tLie s), h) := by
  obtain ⟨-, x1, x2, x3, x5, x6, x7⟩ := w
  have p : ∀ q, q < 6 → s.2 q < 125 := fun q hq => ps_lt125 (hs.2 q hq)
  have e : f_X9_lettersLying (n + 10) h = g_X9_lettersLying (n + 9 + 1) 0 (nI 0) (nI 0) h := rfl
  rw [e, ll_l (n + 9) (by decide) (by decide) z.1, ll_l (n + 8) (by decide) (p 0 (by decide)) x1, ll_l (n + 7) (by decide) (p 1 (by decide)) x2, ll_l (n + 6) (by decide) (p 2 (by decide)) x3, ll_l (n + 5) (by decide) (by decide) z.2.1, ll_l (n + 4) (by decide) (p 3 (by decide)) x5, ll_l (n + 3) (by decide) (p 4 (by decide)) x6, ll_l (n + 2) (by decide) (p 5 (by decide)) x7, ll_l (n + 1) (by decide) (by decide) z.2.2, g_X9_lettersLying, if_pos (show Int32.ofInt 9 ≤ nI (8 + 1) by decide)]
  unfold tLie
  congr 3
  simp only [show ps_sz 0 = 0 from rfl]
  omega
theorem li_8 {h : am_H} {r : TR} (hr : r.ok) (t : T8 h r) {s : TS} (hs : r.sk s) {p : Nat} (hp : p < 6) : f_X7_loadIn (lL (r.N s)) (nI p) h = some (nI (ps_sz (s.2 p)), h) := by
  have e : r.N s / 2 ^ (12 + 8 * p) % 256 = ps_8 (r.k p) (s.2 p) := en_ct (sk_en hr hs) hp
  unfold f_X7_loadIn
  rw [hp_vp hp (by decide), cond_true, ct8_get _ hp, b2s, nI_clamp (show p < 2 ^ 31 by omega), t.2.1 p hp, e, ld8 (hr.1 p hp) (hs.2 p hp), b2s]
theorem la_s (n : Nat) {h : am_H} {r : TR} (hr : r.ok) (t : T8 h r) {s : TS} (hs : r.sk s) {p v : Nat} (hp : p < 6) : g_X7_lyingInAll (n + 1) 0 (lL (r.N s)) (nI v) (nI p) h = g_X7_lyingInAll n 0 (lL (r.N s)) (nI (v + ps_sz (s.2 p))) (nI (p + 1)) h := by
  rw [g_X7_lyingInAll, if_neg (show ¬ Int32.ofInt 6 ≤ nI p from nI_ge (a := p) (b := 6) hp (by decide)), li_8 hr t hs hp, b2s, nI_add, hp_1]
theorem la_8 (n : Nat) {h : am_H} {r : TR} (hr : r.ok) (t : T8 h r) {s : TS} (hs : r.sk s) : f_X7_lyingInAll (n + 7) (lL (r.N s)) h = some (nI (tLie s), h) := by
  have e : f_X7_lyingInAll (n + 7) (lL (r.N s)) h = g_X7_lyingInAll (n + 6 + 1) 0 (lL (r.N s)) (nI 0) (nI 0) h := rfl
  rw [e, la_s (n + 6) hr t hs (by decide), la_s (n + 5) hr t hs (by decide), la_s (n + 4) hr t hs (by decide), la_s (n + 3) hr t hs (by decide), la_s (n + 2) hr t hs (by decide), la_s (n + 1) hr t hs (by decide), g_X7_lyingInAll, if_pos (show Int32.ofInt 6 ≤ nI (5 + 1) by decide)]
  unfold tLie
  simp only [Nat.zero_add, Nat.reduceAdd]
