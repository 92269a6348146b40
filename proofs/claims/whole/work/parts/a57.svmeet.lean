/-! ===== a step's state is met: reference and class, over the pure row ===== -/
def k9 (v : SV) (i : Nat) : Int64 := lL (wN (v.s i))
def k8 (r : TR) (v : SV) (i : Nat) : Int64 := lL (r.N (v.s i))
theorem V9_c {h : am_H} {N : Nat} {key key' : Nat → Int64} {pf pb pf' pb' : Nat → Int32} {T : Nat → Nat} (v : V9 h N key pf pb T) (hk : ∀ i, i < N → key' i = key i) (hf : ∀ i, i < N → pf' i = pf i) (hb : ∀ i, i < N → pb' i = pb i) : V9 h N key' pf' pb' T := by
  obtain ⟨v1, v2, v3, v4, o1, o2, o3, o4, o5⟩ := v
  refine ⟨v1, v2, fun i hi => by rw [hk i hi, hf i hi, hb i hi]; exact v3 i hi, v4, o1, o2, fun k hk' => by rw [hk k hk']; exact o3 k hk', o4, fun i j hi hj e => o5 i j hi hj (by rw [hk i hi, hk j hj] at e; exact e)⟩
theorem V8_c {h : am_H} {o N : Nat} {key key' : Nat → Int64} {pf pb pf' pb' : Nat → Int32} {T : Nat → Nat} (v : V8 h o N key pf pb T) (hk : ∀ i, i < N → key' i = key i) (hf : ∀ i, i < N → pf' i = pf i) (hb : ∀ i, i < N → pb' i = pb i) : V8 h o N key' pf' pb' T := by
  obtain ⟨v1, v2, v3, v4, o1, o2, o3, o4, o5⟩ := v
  refine ⟨v1, v2, fun i hi => by rw [hk i hi, hf i hi, hb i hi]; exact v3 i hi, v4, o1, o2, fun k hk' => by rw [hk k hk']; exact o3 k hk', o4, fun i j hi hj e => o5 i j hi hj (by rw [hk i hi, hk j hj] at e; exact e)⟩
theorem svStep_1 {k : Nat} {v : SV} {x : Nat × TS} (hs : v.sp = false) (h1 : svIx v x.2 < v.n) : svStep k v x = svMk v.n v.s v.f v.b (v.m + 1) (updN v.es v.m k) (updN v.et v.m (svIx v x.2)) false := by
  unfold svStep
  rw [if_neg (by rw [hs]; exact Bool.false_ne_true), if_pos h1]
theorem svStep_2 {k : Nat} {v : SV} {x : Nat × TS} (hs : v.sp = false) (h1 : ¬ svIx v x.2 < v.n) (h2 : v.n < 2000) : svStep k v x = svMk (v.n + 1) (fun i => if i = v.n then x.2 else v.s i) (updN v.f v.n k) (updN v.b v.n x.1) (v.m + 1) (updN v.es v.m k) (updN v.et v.m v.n) false := by
  unfold svStep
  rw [if_neg (by rw [hs]; exact Bool.false_ne_true), if_neg h1, if_pos h2]
theorem svStep_3 {k : Nat} {v : SV} {x : Nat × TS} (hs : v.sp = false) (h1 : ¬ svIx v x.2 < v.n) (h2 : ¬ v.n < 2000) : svStep k v x = svMk v.n v.s v.f v.b v.m v.es v.et true := by
  unfold svStep
  rw [if_neg (by rw [hs]; exact Bool.false_ne_true), if_neg h1, if_neg h2]
theorem frI_upd {pf : Nat → Nat} {N k : Nat} (hN : 1 ≤ N) (i : Nat) : frI (updN pf N k) i = (if i = N then nI k else frI pf i) := frI_new hN i
theorem sm_9 {h : am_H} {r : TR} {v : SV} (ok : svOk r v) (hs : v.sp = false) {T : Nat → Nat} (V : V9 h v.n (k9 v) (frI v.f) (frI v.b) T) (k : Nat) {x : Nat × TS} (hx : r.sk x.2) :
    ∃ h' T', V9 h' (svStep k v x).n (k9 (svStep k v x)) (frI (svStep k v x).f) (frI (svStep k v x).b) T' ∧ frV9 h h' ∧
      ((svIx v x.2 < v.n ∧ h' = h ∧ ∀ F, 8193 ≤ F → f_X9_meet F (lL (wN x.2)) (nI k) (nI x.1) h = some (nI (svIx v x.2), h')) ∨
       (¬ svIx v x.2 < v.n ∧ v.n < 2000 ∧ am_I h' 51 51 = nI 0 ∧ ∀ F, 8193 ≤ F → f_X9_meet F (lL (wN x.2)) (nI k) (nI x.1) h = some (nI v.n, h')) ∨
       (¬ svIx v x.2 < v.n ∧ ¬ v.n < 2000 ∧ am_I h' 51 51 = nI 1 ∧ ∀ F, 8193 ≤ F → f_X9_meet F (lL (wN x.2)) (nI k) (nI x.1) h = some (Int32.ofInt (-1), h'))) := by
  by_cases c1 : svIx v x.2 < v.n
  · have e := svIx_lt ok hx c1
    have ek : lL (wN x.2) = k9 v (svIx v x.2) := ((kE9 (sk_w hx) (sk_w (ok.2.1 _ c1))).mpr (tsE_s e))
    refine ⟨h, T, ?_, ⟨rfl, rfl, rfl, fun _ _ => rfl, fun _ _ _ _ _ => rfl, fun _ _ _ => rfl⟩, Or.inl ⟨c1, rfl, fun F hF => ?_⟩⟩
    · rw [svStep_1 hs c1]; exact V
    · rw [ek]; exact mv9_a V c1 _ _ hF
  · have hno : ∀ i, i < v.n → k9 v i ≠ lL (wN x.2) := fun i hi e => svIx_no ok hx c1 hi ((kE9 (sk_w (ok.2.1 i hi)) (sk_w hx)).mp e)
    by_cases c2 : v.n < 2000
    · obtain ⟨D, hDM, hD, st⟩ := mv9_b V hno c2 (nI k) (nI x.1)
      obtain ⟨V', e51, fr⟩ := mv9_d V hno c2 (nI k) (nI x.1) hDM hD rfl
      refine ⟨_, updN T ((hs9 (lL (wN x.2)) + D) % 8192) (v.n + 1), ?_, fr, Or.inr (Or.inl ⟨c1, c2, e51, st⟩)⟩
      rw [svStep_2 hs c1 c2]
      refine V9_c V' (fun i hi => ?_) (fun i hi => frI_upd ok.1.1 i) (fun i hi => frI_upd ok.1.1 i)
      show lL (wN (if i = v.n then x.2 else v.s i)) = (if i = v.n then lL (wN x.2) else lL (wN (v.s i)))
      by_cases ci : i = v.n
      · rw [if_pos ci, if_pos ci]
      · rw [if_neg ci, if_neg ci]
    · have n2 : v.n = 2000 := by have := ok.1.2; omega
      refine ⟨am_sI h 51 51 (Int32.ofInt 1), T, ?_, ⟨rfl, rfl, rfl, fun _ _ => rfl, fun q q0 _ _ _ => hp_I' _ _ _ q0, fun j _ hj => by rw [hp_I, upd_ne hj]⟩, Or.inr (Or.inr ⟨c1, c2, by rw [hp_I, upd_at]; rfl, fun F hF => mv9_c V hno n2 _ _ hF⟩)⟩
      rw [svStep_3 hs c1 c2]
      obtain ⟨v1, v2, v3, v4, v5⟩ := V
      refine ⟨?_, v2, ?_, ?_, v5⟩
      · rw [hp_I, upd_ne (by decide)]; exact v1
      · intro i hi
        rw [hp_I' _ _ _ (by decide), hp_I' _ _ _ (by decide)]; exact v3 i hi
      · rw [hp_I' _ _ _ (by decide)]; exact v4
theorem sm_8 {h : am_H} {r : TR} (hr : r.ok) {v : SV} (ok : svOk r v) (hs : v.sp = false) {o : Nat} {T : Nat → Nat} (V : V8 h o v.n (k8 r v) (frI v.f) (frI v.b) T) (k : Nat) {x : Nat × TS} (hx : r.sk x.2) :
    ∃ h' T', V8 h' o (svStep k v x).n (k8 r (svStep k v x)) (frI (svStep k v x).f) (frI (svStep k v x).b) T' ∧ frV o h h' ∧
      ((svIx v x.2 < v.n ∧ h' = h ∧ ∀ F, 4097 ≤ F → f_X6_meet F o (lL (r.N x.2)) (nI k) (nI x.1) h = some (nI (svIx v x.2), h')) ∨
       (¬ svIx v x.2 < v.n ∧ v.n < 2000 ∧ am_I h' (o + 9) = upd (am_I h (o + 9)) v.n (Int32.ofInt (-1)) ∧ ∀ F, 4097 ≤ F → f_X6_meet F o (lL (r.N x.2)) (nI k) (nI x.1) h = some (nI v.n, h')) ∨
       (¬ svIx v x.2 < v.n ∧ ¬ v.n < 2000 ∧ h' = h ∧ ∀ F, 4097 ≤ F → f_X6_meet F o (lL (r.N x.2)) (nI k) (nI x.1) h = some (Int32.ofInt (-1), h'))) := by
  obtain ⟨m1, m2, m3⟩ := mv_8 V (lL (r.N x.2)) (nI k) (nI x.1)
  by_cases c1 : svIx v x.2 < v.n
  · have e := svIx_lt ok hx c1
    have ek : k8 r v (svIx v x.2) = lL (r.N x.2) := (kE8 hr (ok.2.1 _ c1) hx).mpr e
    refine ⟨h, T, ?_, frV_r o h, Or.inl ⟨c1, rfl, m1 _ c1 ek⟩⟩
    rw [svStep_1 hs c1]; exact V
  · have hno : ∀ i, i < v.n → k8 r v i ≠ lL (r.N x.2) := fun i hi e => svIx_no ok hx c1 hi ((kE8 hr (ok.2.1 i hi) hx).mp e)
    by_cases c2 : v.n < 2000
    · obtain ⟨h', T', st, V', e9, fr⟩ := m2 hno c2
      refine ⟨h', T', ?_, fr, Or.inr (Or.inl ⟨c1, c2, e9, st⟩)⟩
      rw [svStep_2 hs c1 c2]
      refine V8_c V' (fun i hi => ?_) (fun i hi => frI_upd ok.1.1 i) (fun i hi => frI_upd ok.1.1 i)
      show lL (r.N (if i = v.n then x.2 else v.s i)) = (if i = v.n then lL (r.N x.2) else lL (r.N (v.s i)))
      by_cases ci : i = v.n
      · rw [if_pos ci, if_pos ci]
      · rw [if_neg ci, if_neg ci]
    · have n2 : v.n = 2000 := by have := ok.1.2; omega
      refine ⟨h, T, ?_, frV_r o h, Or.inr (Or.inr ⟨c1, c2, rfl, m3 hno n2⟩)⟩
      rw [svStep_3 hs c1 c2]; exact V
