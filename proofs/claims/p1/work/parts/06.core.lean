section AMC
variable {M : am_M} {p : Program} {l : Launch} {e : Env} {R : Room} {s : State} {m : MethodId} {args : Array Value} {below : List Frame} {meth : Method} {cd : Code} {dC : Nat → ClassId} {dI : Nat → Nat → Nat} {dA : Nat → ClassId} {b : Nat} {A : Nat → Prop} {ad0 : Nat → Nat} {n0 : Nat} {Z : State → Prop} {scr : Option (Nat × (Nat → Int32))}
set_option maxHeartbeats 4000000 in
set_option maxRecDepth 100000 in
theorem am_core (hok : am_ok M) (C : am_Cx M scr p s m args meth cd dC dI dA b A) {κ : Nat → List (Nat × Value) → List Value → am_H → Nat → Nat → Prop} {ρ : Instr → List Value → am_H → Nat → Nat → Prop} {ins : Instr} {t pc : Nat} {lv : List (Nat × Value)} {st : List Value} {h : am_H} {c sl : Nat} (hcd : am_cd M pc = some (ins, t))
    (hρ : ∀ (i : Instr) (lv : List (Nat × Value)) (st : List Value) (h : am_H) (c sl : Nat), decode (am_by M) pc = .ok (i, 1) → ρ i st h c sl → am_Pt M p l e R s m args below meth cd dC dI dA b A ad0 n0 Z pc lv st h c sl)
    (hκ : ∀ (pc : Nat) (lv : List (Nat × Value)) (st : List Value) (h : am_H) (c sl : Nat), κ pc lv st h c sl → am_Pt M p l e R s m args below meth cd dC dI dA b A ad0 n0 Z pc lv st h c sl)
    (hex : am_ex M scr κ ρ ins t pc lv st h c sl) : am_Pt M p l e R s m args below meth cd dC dI dA b A ad0 n0 Z pc lv st h c sl := by
  intro ad H locs ls S
  have C' := C
  obtain ⟨hx, hb, hr, hlocks, hml, hown, hnm, hts, hX, hKK, hA, hscr⟩ := C
  have hd := hok.1 pc ins t hcd
  have hst := S.2.1
  have hlv := S.2.2.1
  have hls := S.2.2.2
  have hw := S.1.1
  have hP := S.1.2.2.2.1
  have hD := S.1.2.2.2.2.1
  have hSS := S.1.2.2.2.2.2
  cases ins with
  | iconst n => exact lv_iconst hx hb hd rfl (hκ _ _ _ _ _ _ hex ad H locs ls (S.stk (am_okl_i hst)))
  | bipush n => exact lv_bipush hx hb hd.1 hd.2 (hκ _ _ _ _ _ _ hex ad H locs ls (S.stk (am_okl_i hst)))
  | sipush n => exact lv_sipush hx hb hd.1 hd.2 (hκ _ _ _ _ _ _ hex ad H locs ls (S.stk (am_okl_i hst)))
  | lconst n => exact lv_lconst hx hb hd rfl (hκ _ _ _ _ _ _ hex ad H locs ls (S.stk (am_okl_j hst)))
  | aconst_null => exact lv_null hx hb hd (hκ _ _ _ _ _ _ hex ad H locs ls (S.stk (am_okl_cons trivial hst)))
  | ldc i =>
    have hex : (match am_lc M i with | some v => κ (pc + 2) lv (.int v :: st) h c sl | none => False) := hex
    cases hv : am_lc M i with
    | none => rw [hv] at hex; exact hex.elim
    | some v =>
      rw [hv] at hex
      exact lv_ldc hx hb hown (hts _ (hok.2.2.2.1 i v hv)) hd (hκ _ _ _ _ _ _ hex ad H locs ls (S.stk (am_okl_i hst)))
  | ldc2_w i =>
    have hex : (match am_ll M i with | some v => κ (pc + 3) lv (.long v :: st) h c sl | none => False) := hex
    cases hv : am_ll M i with
    | none => rw [hv] at hex; exact hex.elim
    | some v =>
      rw [hv] at hex
      exact lv_ldc2 hx hb hown (hts _ (hok.2.2.2.2 i v hv)) hd (hκ _ _ _ _ _ _ hex ad H locs ls (S.stk (am_okl_j hst)))
  | iload_n k =>
    obtain ⟨x, hg, hex⟩ := am_ldI_inv hex
    exact lv_iload_n hx hb hd rfl (am_get_ls hls hg) (hκ _ _ _ _ _ _ hex ad H locs ls (S.stk (am_okl_i hst)))
  | iload k =>
    obtain ⟨x, hg, hex⟩ := am_ldI_inv hex
    exact lv_iload hx hb hd (am_get_ls hls hg) (hκ _ _ _ _ _ _ hex ad H locs ls (S.stk (am_okl_i hst)))
  | lload_n k =>
    obtain ⟨x, hg, hex⟩ := am_ldJ_inv hex
    exact lv_lload_n hx hb hd rfl (am_get_ls hls hg) (hκ _ _ _ _ _ _ hex ad H locs ls (S.stk (am_okl_j hst)))
  | lload k =>
    obtain ⟨x, hg, hex⟩ := am_ldJ_inv hex
    exact lv_lload hx hb hd (am_get_ls hls hg) (hκ _ _ _ _ _ _ hex ad H locs ls (S.stk (am_okl_j hst)))
  | aload_n k =>
    have hex : am_ldA lv k.val (fun x => κ (pc + 1) lv (x :: st) h c sl) := hex
    obtain ⟨v, hg, hex, hv⟩ := am_ldA_inv hex
    have hs2 := am_okl_cons (am_get_ok hlv hg) hst
    rcases hv with ⟨x, rfl⟩ | rfl | ⟨x, rfl⟩
    · exact lv_aload_n hx hb hd rfl (am_get_ls hls hg) (hκ _ _ _ _ _ _ hex ad H locs ls (S.stk hs2))
    · exact lv_aload_nN hx hb hd rfl (am_get_ls hls hg) (hκ _ _ _ _ _ _ hex ad H locs ls (S.stk hs2))
    · exact lv_aload_n hx hb hd rfl (am_get_ls hls hg) (hκ _ _ _ _ _ _ hex ad H locs ls (S.stk hs2))
  | aload k =>
    have hex : am_ldA lv k (fun x => κ (pc + 2) lv (x :: st) h c sl) := hex
    obtain ⟨v, hg, hex, hv⟩ := am_ldA_inv hex
    have hs2 := am_okl_cons (am_get_ok hlv hg) hst
    rcases hv with ⟨x, rfl⟩ | rfl | ⟨x, rfl⟩
    · exact lv_aload hx hb hd (am_get_ls hls hg) (hκ _ _ _ _ _ _ hex ad H locs ls (S.stk hs2))
    · exact lv_aloadN hx hb hd (am_get_ls hls hg) (hκ _ _ _ _ _ _ hex ad H locs ls (S.stk hs2))
    · exact lv_aload hx hb hd (am_get_ls hls hg) (hκ _ _ _ _ _ _ hex ad H locs ls (S.stk hs2))
  | istore_n k =>
    obtain ⟨x, r, rfl, hex⟩ := am_p1_inv hex
    exact lv_istore_n hx hb hd.1 rfl hls hd.2 (am_cl_d1 ad b k.val lv (.int x) _ rfl) (fun ls' hl' => hκ _ _ _ _ _ _ hex ad H locs ls' (S.loc (am_okl_t hst) (am_okl_d1 hlv trivial) hl'))
  | istore k =>
    obtain ⟨x, r, rfl, hex⟩ := am_p1_inv hex
    exact lv_istore hx hb hd.1 hls hd.2 (am_cl_d1 ad b k lv (.int x) _ rfl) (fun ls' hl' => hκ _ _ _ _ _ _ hex ad H locs ls' (S.loc (am_okl_t hst) (am_okl_d1 hlv trivial) hl'))
  | lstore_n k =>
    obtain ⟨x, r, rfl, hex⟩ := am_pJ_inv hex
    exact lv_lstore_n hx hb hd.1 rfl hls hd.2 (am_cl_d2 ad b k.val lv (.long x) _ rfl) (fun ls' hl' => hκ _ _ _ _ _ _ hex ad H locs ls' (S.loc (am_okl_t hst) (am_okl_d2 hlv trivial) hl'))
  | lstore k =>
    obtain ⟨x, r, rfl, hex⟩ := am_pJ_inv hex
    exact lv_lstore hx hb hd.1 hls hd.2 (am_cl_d2 ad b k lv (.long x) _ rfl) (fun ls' hl' => hκ _ _ _ _ _ _ hex ad H locs ls' (S.loc (am_okl_t hst) (am_okl_d2 hlv trivial) hl'))
  | astore_n k =>
    have hex : am_pA st (fun x r => κ (pc + 1) ((k.val, x) :: am_d1 k.val lv) r h c sl) := hex
    obtain ⟨v, r, rfl, hex, hv⟩ := am_pA_inv hex
    have hq := am_okl_d1 (i := k.val) hlv (am_okl_h hst)
    rcases hv with ⟨x, rfl⟩ | rfl | ⟨x, rfl⟩
    · exact lv_astore_n hx hb hd.1 rfl hls hd.2 (am_cl_d1 ad b k.val lv (.ref x) _ rfl) (fun ls' hl' => hκ _ _ _ _ _ _ hex ad H locs ls' (S.loc (am_okl_t hst) hq hl'))
    · exact lv_astore_nN hx hb hd.1 rfl hls hd.2 (am_cl_d1 ad b k.val lv .null _ rfl) (fun ls' hl' => hκ _ _ _ _ _ _ hex ad H locs ls' (S.loc (am_okl_t hst) hq hl'))
    · exact lv_astore_n hx hb hd.1 rfl hls hd.2 (am_cl_d1 ad b k.val lv (.retAddr x) _ rfl) (fun ls' hl' => hκ _ _ _ _ _ _ hex ad H locs ls' (S.loc (am_okl_t hst) hq hl'))
  | astore k =>
    have hex : am_pA st (fun x r => κ (pc + 2) ((k, x) :: am_d1 k lv) r h c sl) := hex
    obtain ⟨v, r, rfl, hex, hv⟩ := am_pA_inv hex
    have hq := am_okl_d1 (i := k) hlv (am_okl_h hst)
    rcases hv with ⟨x, rfl⟩ | rfl | ⟨x, rfl⟩
    · exact lv_astore hx hb hd.1 hls hd.2 (am_cl_d1 ad b k lv (.ref x) _ rfl) (fun ls' hl' => hκ _ _ _ _ _ _ hex ad H locs ls' (S.loc (am_okl_t hst) hq hl'))
    · exact lv_astoreN hx hb hd.1 hls hd.2 (am_cl_d1 ad b k lv .null _ rfl) (fun ls' hl' => hκ _ _ _ _ _ _ hex ad H locs ls' (S.loc (am_okl_t hst) hq hl'))
    · exact lv_astore hx hb hd.1 hls hd.2 (am_cl_d1 ad b k lv (.retAddr x) _ rfl) (fun ls' hl' => hκ _ _ _ _ _ _ hex ad H locs ls' (S.loc (am_okl_t hst) hq hl'))
  | iinc k n =>
    obtain ⟨x, hg, hex⟩ := am_ldI_inv hex
    obtain ⟨i, hi⟩ := List.getElem?_of_mem (List.mem_map.mpr ⟨(k, .int x), am_get_mem hg, rfl⟩ : (k, Value.int x) ∈ am_cl ad b lv)
    exact lv_iinc hx hb hd.1 hls hi rfl hd.2 (am_cl_d1 ad b k lv (.int (x + Int32.ofInt n)) _ rfl) (fun ls' hl' => hκ _ _ _ _ _ _ hex ad H locs ls' (S.loc hst (am_okl_d1 hlv trivial) hl'))
  | iadd =>
    obtain ⟨x, y, r, rfl, hex⟩ := am_p2_inv hex
    exact lv_iadd hx hb hd (hκ _ _ _ _ _ _ hex ad H locs ls (S.stk (am_okl_i (am_okl_t (am_okl_t hst)))))
  | isub =>
    obtain ⟨x, y, r, rfl, hex⟩ := am_p2_inv hex
    exact lv_isub hx hb hd (hκ _ _ _ _ _ _ hex ad H locs ls (S.stk (am_okl_i (am_okl_t (am_okl_t hst)))))
  | imul =>
    obtain ⟨x, y, r, rfl, hex⟩ := am_p2_inv hex
    exact lv_imul hx hb hd (hκ _ _ _ _ _ _ hex ad H locs ls (S.stk (am_okl_i (am_okl_t (am_okl_t hst)))))
  | idiv =>
    obtain ⟨x, y, r, rfl, hne, hex⟩ := am_p2_inv hex
    exact lv_idiv hx hb hd hne (hκ _ _ _ _ _ _ hex ad H locs ls (S.stk (am_okl_i (am_okl_t (am_okl_t hst)))))
  | irem =>
    obtain ⟨x, y, r, rfl, hne, hex⟩ := am_p2_inv hex
    exact lv_irem hx hb hd hne (hκ _ _ _ _ _ _ hex ad H locs ls (S.stk (am_okl_i (am_okl_t (am_okl_t hst)))))
  | iand =>
    obtain ⟨x, y, r, rfl, hex⟩ := am_p2_inv hex
    exact lv_iand hx hb hd (hκ _ _ _ _ _ _ hex ad H locs ls (S.stk (am_okl_i (am_okl_t (am_okl_t hst)))))
  | ior =>
    obtain ⟨x, y, r, rfl, hex⟩ := am_p2_inv hex
    exact lv_ior hx hb hd (hκ _ _ _ _ _ _ hex ad H locs ls (S.stk (am_okl_i (am_okl_t (am_okl_t hst)))))
  | ixor =>
    obtain ⟨x, y, r, rfl, hex⟩ := am_p2_inv hex
    exact lv_ixor hx hb hd (hκ _ _ _ _ _ _ hex ad H locs ls (S.stk (am_okl_i (am_okl_t (am_okl_t hst)))))
  | ishl =>
    obtain ⟨x, y, r, rfl, hex⟩ := am_p2_inv hex
    exact lv_ishl hx hb hd (hκ _ _ _ _ _ _ hex ad H locs ls (S.stk (am_okl_i (am_okl_t (am_okl_t hst)))))
  | ishr =>
    obtain ⟨x, y, r, rfl, hex⟩ := am_p2_inv hex
    exact lv_ishr hx hb hd (hκ _ _ _ _ _ _ hex ad H locs ls (S.stk (am_okl_i (am_okl_t (am_okl_t hst)))))
  | iushr =>
    obtain ⟨x, y, r, rfl, hex⟩ := am_p2_inv hex
    exact lv_iushr hx hb hd rfl (hκ _ _ _ _ _ _ hex ad H locs ls (S.stk (am_okl_i (am_okl_t (am_okl_t hst)))))
  | ladd =>
    obtain ⟨x, y, r, rfl, hex⟩ := am_pJ2_inv hex
    exact lv_ladd hx hb hd (hκ _ _ _ _ _ _ hex ad H locs ls (S.stk (am_okl_j (am_okl_t (am_okl_t hst)))))
  | lsub =>
    obtain ⟨x, y, r, rfl, hex⟩ := am_pJ2_inv hex
    exact lv_lsub hx hb hd (hκ _ _ _ _ _ _ hex ad H locs ls (S.stk (am_okl_j (am_okl_t (am_okl_t hst)))))
  | lmul =>
    obtain ⟨x, y, r, rfl, hex⟩ := am_pJ2_inv hex
    exact lv_lmul hx hb hd (hκ _ _ _ _ _ _ hex ad H locs ls (S.stk (am_okl_j (am_okl_t (am_okl_t hst)))))
  | ldiv =>
    obtain ⟨x, y, r, rfl, hne, hex⟩ := am_pJ2_inv hex
    exact lv_ldiv hx hb hd hne (hκ _ _ _ _ _ _ hex ad H locs ls (S.stk (am_okl_j (am_okl_t (am_okl_t hst)))))
  | lrem =>
    obtain ⟨x, y, r, rfl, hne, hex⟩ := am_pJ2_inv hex
    exact lv_lrem hx hb hd hne (hκ _ _ _ _ _ _ hex ad H locs ls (S.stk (am_okl_j (am_okl_t (am_okl_t hst)))))
  | land =>
    obtain ⟨x, y, r, rfl, hex⟩ := am_pJ2_inv hex
    exact lv_land hx hb hd (hκ _ _ _ _ _ _ hex ad H locs ls (S.stk (am_okl_j (am_okl_t (am_okl_t hst)))))
  | lor =>
    obtain ⟨x, y, r, rfl, hex⟩ := am_pJ2_inv hex
    exact lv_lor hx hb hd (hκ _ _ _ _ _ _ hex ad H locs ls (S.stk (am_okl_j (am_okl_t (am_okl_t hst)))))
  | lxor =>
    obtain ⟨x, y, r, rfl, hex⟩ := am_pJ2_inv hex
    exact lv_lxor hx hb hd (hκ _ _ _ _ _ _ hex ad H locs ls (S.stk (am_okl_j (am_okl_t (am_okl_t hst)))))
  | lshl =>
    obtain ⟨x, y, r, rfl, hex⟩ := am_pJI_inv hex
    exact lv_lshl hx hb hd rfl (hκ _ _ _ _ _ _ hex ad H locs ls (S.stk (am_okl_j (am_okl_t (am_okl_t hst)))))
  | lshr =>
    obtain ⟨x, y, r, rfl, hex⟩ := am_pJI_inv hex
    exact lv_lshr hx hb hd rfl (hκ _ _ _ _ _ _ hex ad H locs ls (S.stk (am_okl_j (am_okl_t (am_okl_t hst)))))
  | lushr =>
    obtain ⟨x, y, r, rfl, hex⟩ := am_pJI_inv hex
    exact lv_lushr hx hb hd rfl (hκ _ _ _ _ _ _ hex ad H locs ls (S.stk (am_okl_j (am_okl_t (am_okl_t hst)))))
  | lcmp =>
    obtain ⟨x, y, r, rfl, hex⟩ := am_pJ2_inv hex
    exact W.lcmp hx hb hd (hκ _ _ _ _ _ _ hex ad H locs ls (S.stk (am_okl_i (am_okl_t (am_okl_t hst)))))
  | i2l =>
    obtain ⟨x, r, rfl, hex⟩ := am_p1_inv hex
    exact lv_i2l hx hb hd rfl (hκ _ _ _ _ _ _ hex ad H locs ls (S.stk (am_okl_j (am_okl_t hst))))
  | l2i =>
    obtain ⟨x, r, rfl, hex⟩ := am_pJ_inv hex
    exact lv_l2i hx hb hd rfl (hκ _ _ _ _ _ _ hex ad H locs ls (S.stk (am_okl_i (am_okl_t hst))))
  | i2b =>
    obtain ⟨x, r, rfl, hex⟩ := am_p1_inv hex
    exact lv_i2b hx hb hd rfl (hκ _ _ _ _ _ _ hex ad H locs ls (S.stk (am_okl_i (am_okl_t hst))))
  | dup =>
    have hex : am_pc1 st (fun v r => κ (pc + 1) lv (v :: v :: r) h c sl) := hex
    obtain ⟨v, r, rfl, hex, hc⟩ := am_pc1_inv hex
    exact lv_dup hx hb hd ((am_v_cat ad b v).trans hc) (hκ _ _ _ _ _ _ hex ad H locs ls (S.stk (am_okl_cons (am_okl_h hst) hst)))
  | pop =>
    have hex : am_pc1 st (fun _ r => κ (pc + 1) lv r h c sl) := hex
    obtain ⟨v, r, rfl, hex, hc⟩ := am_pc1_inv hex
    exact lv_pop hx hb hd ((am_v_cat ad b v).trans hc) (hκ _ _ _ _ _ _ hex ad H locs ls (S.stk (am_okl_t hst)))
  | dup_x1 =>
    have hex : am_pc1 st (fun v r => am_pc1 r (fun w r => κ (pc + 1) lv (v :: w :: v :: r) h c sl)) := hex
    obtain ⟨v, r, rfl, hex, hc⟩ := am_pc1_inv hex
    obtain ⟨w, r, rfl, hex, hc2⟩ := am_pc1_inv hex
    exact lv_dup_x1 hx hb hd ((am_v_cat ad b v).trans hc) ((am_v_cat ad b w).trans hc2) (hκ _ _ _ _ _ _ hex ad H locs ls (S.stk (am_okl_cons (am_okl_h hst) (am_okl_cons (am_okl_h (am_okl_t hst)) (am_okl_cons (am_okl_h hst) (am_okl_t (am_okl_t hst)))))))
  | dup2 =>
    have hex : am_pc1 st (fun v r => am_pc1 r (fun w r => κ (pc + 1) lv (v :: w :: v :: w :: r) h c sl)) := hex
    obtain ⟨v, r, rfl, hex, hc⟩ := am_pc1_inv hex
    obtain ⟨w, r, rfl, hex, hc2⟩ := am_pc1_inv hex
    exact lv_dup2_11 hx hb hd ((am_v_cat ad b v).trans hc) ((am_v_cat ad b w).trans hc2) (hκ _ _ _ _ _ _ hex ad H locs ls (S.stk (am_okl_cons (am_okl_h hst) (am_okl_cons (am_okl_h (am_okl_t hst)) hst))))
  | goto off => exact lv_goto hx hb hd.1 hd.2 (hκ _ _ _ _ _ _ hex ad H locs ls S)
  | ifCond cn off =>
    obtain ⟨x, r, rfl, hex⟩ := am_p1_inv hex
    have S' := S.stk (am_okl_t hst)
    cases cn with
    | eq => exact lv_if_eq hx hb hd.1 hd.2 (fun q => hκ _ _ _ _ _ _ (hex.1 q) ad H locs ls S') (fun q => hκ _ _ _ _ _ _ (hex.2 q) ad H locs ls S')
    | ne => exact lv_if_ne hx hb hd.1 hd.2 (fun q => hκ _ _ _ _ _ _ (hex.1 q) ad H locs ls S') (fun q => hκ _ _ _ _ _ _ (hex.2 q) ad H locs ls S')
    | lt => exact lv_if_lt hx hb hd.1 hd.2 (fun q => hκ _ _ _ _ _ _ (hex.1 q) ad H locs ls S') (fun q => hκ _ _ _ _ _ _ (hex.2 q) ad H locs ls S')
    | ge => exact lv_if_ge hx hb hd.1 hd.2 (fun q => hκ _ _ _ _ _ _ (hex.1 q) ad H locs ls S') (fun q => hκ _ _ _ _ _ _ (hex.2 q) ad H locs ls S')
    | gt => exact lv_if_gt hx hb hd.1 hd.2 (fun q => hκ _ _ _ _ _ _ (hex.1 q) ad H locs ls S') (fun q => hκ _ _ _ _ _ _ (hex.2 q) ad H locs ls S')
    | le => exact lv_if_le hx hb hd.1 hd.2 (fun q => hκ _ _ _ _ _ _ (hex.1 q) ad H locs ls S') (fun q => hκ _ _ _ _ _ _ (hex.2 q) ad H locs ls S')
  | if_icmp cn off =>
    obtain ⟨x, y, r, rfl, hex⟩ := am_p2_inv hex
    have S' := S.stk (am_okl_t (am_okl_t hst))
    cases cn with
    | eq => exact lv_icmp_eq hx hb hd.1 hd.2 (fun q => hκ _ _ _ _ _ _ (hex.1 q) ad H locs ls S') (fun q => hκ _ _ _ _ _ _ (hex.2 q) ad H locs ls S')
    | ne => exact lv_icmp_ne hx hb hd.1 hd.2 (fun q => hκ _ _ _ _ _ _ (hex.1 q) ad H locs ls S') (fun q => hκ _ _ _ _ _ _ (hex.2 q) ad H locs ls S')
    | lt => exact lv_icmp_lt hx hb hd.1 hd.2 (fun q => hκ _ _ _ _ _ _ (hex.1 q) ad H locs ls S') (fun q => hκ _ _ _ _ _ _ (hex.2 q) ad H locs ls S')
    | ge => exact lv_icmp_ge hx hb hd.1 hd.2 (fun q => hκ _ _ _ _ _ _ (hex.1 q) ad H locs ls S') (fun q => hκ _ _ _ _ _ _ (hex.2 q) ad H locs ls S')
    | gt => exact lv_icmp_gt hx hb hd.1 hd.2 (fun q => hκ _ _ _ _ _ _ (hex.1 q) ad H locs ls S') (fun q => hκ _ _ _ _ _ _ (hex.2 q) ad H locs ls S')
    | le => exact lv_icmp_le hx hb hd.1 hd.2 (fun q => hκ _ _ _ _ _ _ (hex.1 q) ad H locs ls S') (fun q => hκ _ _ _ _ _ _ (hex.2 q) ad H locs ls S')
  | ifnull off =>
    rcases am_pN_inv hex with ⟨o, r, rfl, hex⟩ | ⟨r, rfl, hex⟩
    · exact lv_ifnull hx hb hd.1 (hκ _ _ _ _ _ _ hex ad H locs ls (S.stk (am_okl_t hst)))
    · exact lv_ifnullN hx hb hd.1 hd.2 (hκ _ _ _ _ _ _ hex ad H locs ls (S.stk (am_okl_t hst)))
  | ifnonnull off =>
    rcases am_pN_inv hex with ⟨o, r, rfl, hex⟩ | ⟨r, rfl, hex⟩
    · exact lv_ifnonnull hx hb hd.1 hd.2 (hκ _ _ _ _ _ _ hex ad H locs ls (S.stk (am_okl_t hst)))
    · exact lv_ifnonnullN hx hb hd.1 (hκ _ _ _ _ _ _ hex ad H locs ls (S.stk (am_okl_t hst)))
  | tableswitch df lo hi offs =>
    obtain ⟨len, hd⟩ := hd
    obtain ⟨x, r, rfl, hex⟩ := am_p1_inv hex
    have S' := S.stk (am_okl_t hst)
    by_cases h1 : x.toInt < lo
    · obtain ⟨tg, ht, k⟩ := hex.1 (Or.inl h1)
      exact lv_tableOut hx hb hd (Or.inl h1) ht (hκ _ _ _ _ _ _ k ad H locs ls S')
    · by_cases h2 : hi < x.toInt
      · obtain ⟨tg, ht, k⟩ := hex.1 (Or.inr h2)
        exact lv_tableOut hx hb hd (Or.inr h2) ht (hκ _ _ _ _ _ _ k ad H locs ls S')
      · obtain ⟨off, tg, ho, ht, k⟩ := hex.2 h1 h2
        exact lv_tableIn hx hb hd h1 h2 ho ht (hκ _ _ _ _ _ _ k ad H locs ls S')
  | ireturn => exact hρ .ireturn lv st h c sl hd hex ad H locs ls S
  | lreturn => exact hρ .lreturn lv st h c sl hd hex ad H locs ls S
  | areturn => exact hρ .areturn lv st h c sl hd hex ad H locs ls S
  | return_ => exact hρ .return_ lv st h c sl hd hex ad H locs ls S
  | getfield i =>
    have hex : (match am_fl M i with
      | some (ci, k, kd) => am_pO st (fun o r => am_K h o = .inl ci ∧ (match kd with
        | 0 => κ (pc + 3) lv (.int (am_I h o k) :: r) h c sl
        | 1 => κ (pc + 3) lv (.int (am_I h o k) :: r) h c sl
        | 2 => κ (pc + 3) lv (.long (am_J h o k) :: r) h c sl
        | 3 => ∃ q, am_A h o k = q ∧ κ (pc + 3) lv (va_rf q :: r) h c sl
        | _ => False))
      | none => False) := hex
    cases hf : am_fl M i with
    | none => rw [hf] at hex; exact hex.elim
    | some q =>
      obtain ⟨ci, k, kd⟩ := q
      rw [hf] at hex
      obtain ⟨o, r, rfl, hK, hex⟩ := am_pO_inv hex
      have ho : o < h.1 := am_okl_h hst
      obtain ⟨_, _, _, _, _, hkd, _⟩ := hok.2.1 i ci k kd hf
      refine am_getf hok C' S hf ho hK hd ?_
      match kd, hkd, hex with
      | 0, hkd, hex => rw [am_fv_0 (Or.inl hkd.symm)]; exact hκ _ _ _ _ _ _ hex ad H locs ls (S.stk (am_okl_i (am_okl_t hst)))
      | 1, hkd, hex => rw [am_fv_0 (Or.inr hkd.symm)]; exact hκ _ _ _ _ _ _ hex ad H locs ls (S.stk (am_okl_i (am_okl_t hst)))
      | 2, hkd, hex => rw [am_fv_2 hkd.symm]; exact hκ _ _ _ _ _ _ hex ad H locs ls (S.stk (am_okl_j (am_okl_t hst)))
      | 3, hkd, hex =>
        obtain ⟨q, hq, hex⟩ := hex
        rw [am_fv_3 hkd.symm, hq, ← am_v_rf ad b q]
        refine hκ _ _ _ _ _ _ hex ad H locs ls (S.stk (am_okl_cons ?_ (am_okl_t hst)))
        cases q with
        | none => trivial
        | some q => exact hw o k q ho hq
      | n + 4, hkd, hex => exact hex.elim
  | putfield i =>
    have hex : (match am_fl M i with
      | some (ci, k, kd) => (match kd with
        | 0 => am_p1 st (fun x r => am_pO r (fun o r => am_K h o = .inl ci ∧ κ (pc + 3) lv r (am_sI h o k x) c sl))
        | 1 => am_p1 st (fun x r => am_pO r (fun o r => (x = 0 ∨ x = 1) ∧ am_K h o = .inl ci ∧ κ (pc + 3) lv r (am_sI h o k x) c sl))
        | 2 => am_pJ st (fun x r => am_pO r (fun o r => am_K h o = .inl ci ∧ κ (pc + 3) lv r (am_sJ h o k x) c sl))
        | 3 => am_pRO st (fun q o r => am_K h o = .inl ci ∧ κ (pc + 3) lv r (am_sA h o k q) c sl)
        | _ => False)
      | none => False) := hex
    cases hf : am_fl M i with
    | none => rw [hf] at hex; exact hex.elim
    | some q =>
      obtain ⟨ci, k, kd⟩ := q
      rw [hf] at hex
      obtain ⟨_, _, _, _, _, hkd, _⟩ := hok.2.1 i ci k kd hf
      match kd, hf, hkd, hex with
      | 0, hf, hkd, hex =>
        have hex : am_p1 st (fun x r => am_pO r (fun o r => am_K h o = .inl ci ∧ κ (pc + 3) lv r (am_sI h o k x) c sl)) := hex
        obtain ⟨x, r, rfl, hex⟩ := am_p1_inv hex
        obtain ⟨o, r, rfl, hK, hex⟩ := am_pO_inv hex
        have ho : o < h.1 := am_okl_h (am_okl_t hst)
        refine am_putf (h' := am_sI h o k x) hok C' S hcd hf ho hK hd rfl rfl (fun j hj => ⟨am_I_sI.1 j hj, rfl, rfl⟩) ?_ (fun j hj => am_fv_sI hj) (am_fit_i (Or.inl hkd.symm)) (fun H' locs' hP' hD' hS' => hκ _ _ _ _ _ _ hex ad H' locs' ls (S.hp rfl (am_wf_sI hw) (am_okl_t (am_okl_t hst)) hP' hD' hS'))
        rw [am_fv_0 (Or.inl hkd.symm), am_I_sI.2]
        simp [upd, am_v]
      | 1, hf, hkd, hex =>
        have hex : am_p1 st (fun x r => am_pO r (fun o r => (x = 0 ∨ x = 1) ∧ am_K h o = .inl ci ∧ κ (pc + 3) lv r (am_sI h o k x) c sl)) := hex
        obtain ⟨x, r, rfl, hex⟩ := am_p1_inv hex
        obtain ⟨o, r, rfl, h01, hK, hex⟩ := am_pO_inv hex
        have ho : o < h.1 := am_okl_h (am_okl_t hst)
        refine am_putf (h' := am_sI h o k x) hok C' S hcd hf ho hK hd rfl rfl (fun j hj => ⟨am_I_sI.1 j hj, rfl, rfl⟩) ?_ (fun j hj => am_fv_sI hj) (am_fit_i (Or.inr ⟨hkd.symm, h01⟩)) (fun H' locs' hP' hD' hS' => hκ _ _ _ _ _ _ hex ad H' locs' ls (S.hp rfl (am_wf_sI hw) (am_okl_t (am_okl_t hst)) hP' hD' hS'))
        rw [am_fv_0 (Or.inr hkd.symm), am_I_sI.2]
        simp [upd, am_v]
      | 2, hf, hkd, hex =>
        have hex : am_pJ st (fun x r => am_pO r (fun o r => am_K h o = .inl ci ∧ κ (pc + 3) lv r (am_sJ h o k x) c sl)) := hex
        obtain ⟨x, r, rfl, hex⟩ := am_pJ_inv hex
        obtain ⟨o, r, rfl, hK, hex⟩ := am_pO_inv hex
        have ho : o < h.1 := am_okl_h (am_okl_t hst)
        refine am_putf (h' := am_sJ h o k x) hok C' S hcd hf ho hK hd rfl rfl (fun j hj => ⟨rfl, am_J_sJ.1 j hj, rfl⟩) ?_ (fun j hj => am_fv_sJ hj) (am_fit_j hkd.symm) (fun H' locs' hP' hD' hS' => hκ _ _ _ _ _ _ hex ad H' locs' ls (S.hp rfl (am_wf_sJ hw) (am_okl_t (am_okl_t hst)) hP' hD' hS'))
        rw [am_fv_2 hkd.symm, am_J_sJ.2]
        simp [vp_updL, am_v]
      | 3, hf, hkd, hex =>
        have hex : am_pRO st (fun q o r => am_K h o = .inl ci ∧ κ (pc + 3) lv r (am_sA h o k q) c sl) := hex
        obtain ⟨q, o, r, rfl, hK, hex⟩ := am_pRO_inv hex
        have ho : o < h.1 := am_okl_h (am_okl_t hst)
        have hq : ∀ z, q = some z → z < h.1 := fun z hz => by
          subst hz
          exact am_okl_h hst
        show W p l e R s m args below meth cd H locs c sl Z (F0 m pc ls (am_v ad b (va_rf q) :: .ref (ad o) :: r.map (am_v ad b)))
        rw [am_v_rf]
        refine am_putf (h' := am_sA h o k q) (v := va_rf (q.map ad)) hok C' S hcd hf ho hK hd rfl rfl (fun j hj => ⟨rfl, rfl, am_A_sA.1 j hj⟩) ?_ (fun j hj => am_fv_sA hj) (am_fit_a hkd.symm) (fun H' locs' hP' hD' hS' => hκ _ _ _ _ _ _ hex ad H' locs' ls (S.hp rfl (am_wf_sA hw hq) (am_okl_t (am_okl_t hst)) hP' hD' hS'))
        rw [am_fv_3 hkd.symm, am_A_sA.2]
        simp [va_up]
      | n + 4, hf, hkd, hex => exact hex.elim
  | iaload =>
    have hex : am_p1 st (fun i r => am_pS r (fun o r => ∃ n, am_K h o = .inr (0, n) ∧ vp_in i n ∧ κ (pc + 1) lv (.int (am_I h o i.toNatClampNeg) :: r) h c sl) (fun r => am_sc scr (fun L xs => vp_in i L ∧ κ (pc + 1) lv (.int (xs i.toNatClampNeg) :: r) h c sl))) := hex
    obtain ⟨i, r, rfl, hex⟩ := am_p1_inv hex
    rcases am_pS_inv hex with ⟨o, r, rfl, n, hK, hin, hex⟩ | ⟨x, r, rfl, hex⟩
    · have ho : o < h.1 := am_okl_h (am_okl_t hst)
      have hg := am_w_get dA ad h ho
      rw [am_e_arr hK] at hg
      exact va_iald hx hb hKK hP o 0 hg (am_tys_get dA (by decide)) hin hd (hκ _ _ _ _ _ _ hex ad H locs ls (S.stk (am_okl_i (am_okl_t (am_okl_t hst)))))
    · obtain ⟨L, xs, hsc, hin, hex⟩ := am_sc_inv hex
      obtain ⟨z1, z2, z3⟩ := hscr L xs hsc
      exact va_sld hx hb z1 z2 z3 hSS hin hd (hκ _ _ _ _ _ _ hex ad H locs ls (S.stk (am_okl_i (am_okl_t (am_okl_t hst)))))
  | arraylength =>
    have hex : am_pS st (fun o r => ∃ t n, t < 6 ∧ am_K h o = .inr (t, n) ∧ κ (pc + 1) lv (.int (Int32.ofNat n) :: r) h c sl) (fun r => am_sc scr (fun L _ => κ (pc + 1) lv (.int (Int32.ofNat L) :: r) h c sl)) := hex
    rcases am_pS_inv hex with ⟨o, r, rfl, t, n, ht, hK, hex⟩ | ⟨x, r, rfl, hex⟩
    · have ho : o < h.1 := am_okl_h hst
      have hg := am_w_get dA ad h ho
      rw [am_e_arr hK] at hg
      exact va_alen hx hb hKK hP o t hg (am_tys_get dA ht) rfl hd (hκ _ _ _ _ _ _ hex ad H locs ls (S.stk (am_okl_i (am_okl_t hst))))
    · obtain ⟨L, xs, hsc, hex⟩ := am_sc_inv hex
      obtain ⟨z1, z2, z3⟩ := hscr L xs hsc
      exact va_slen hx hb z1 z2 z3 hSS hd (hκ _ _ _ _ _ _ hex ad H locs ls (S.stk (am_okl_i (am_okl_t hst))))
  | baload =>
    have hex : am_p1 st (fun i r => am_pO r (fun o r => ∃ t n, (t = 1 ∨ t = 2) ∧ am_K h o = .inr (t, n) ∧ vp_in i n ∧ κ (pc + 1) lv (.int (am_I h o i.toNatClampNeg) :: r) h c sl)) := hex
    obtain ⟨i, r, rfl, hex⟩ := am_p1_inv hex
    obtain ⟨o, r, rfl, t, n, ht, hK, hin, hex⟩ := am_pO_inv hex
    have ho : o < h.1 := am_okl_h (am_okl_t hst)
    have hg := am_w_get dA ad h ho
    rw [am_e_arr hK] at hg
    rcases ht with rfl | rfl
    · exact va_bald hx hb hKK hP o 1 hg (am_tys_get dA (by decide)) hin hd (hκ _ _ _ _ _ _ hex ad H locs ls (S.stk (am_okl_i (am_okl_t (am_okl_t hst)))))
    · exact va_zald hx hb hKK hP o 2 hg (am_tys_get dA (by decide)) hin hd (hκ _ _ _ _ _ _ hex ad H locs ls (S.stk (am_okl_i (am_okl_t (am_okl_t hst)))))
  | laload =>
    have hex : am_p1 st (fun i r => am_pO r (fun o r => ∃ n, am_K h o = .inr (3, n) ∧ vp_in i n ∧ κ (pc + 1) lv (.long (am_J h o i.toNatClampNeg) :: r) h c sl)) := hex
    obtain ⟨i, r, rfl, hex⟩ := am_p1_inv hex
    obtain ⟨o, r, rfl, n, hK, hin, hex⟩ := am_pO_inv hex
    have ho : o < h.1 := am_okl_h (am_okl_t hst)
    have hg := am_w_get dA ad h ho
    rw [am_e_arr hK] at hg
    exact va_lald hx hb hKK hP o 3 hg (am_tys_get dA (by decide)) hin hd (hκ _ _ _ _ _ _ hex ad H locs ls (S.stk (am_okl_j (am_okl_t (am_okl_t hst)))))
  | aaload =>
    have hex : am_p1 st (fun i r => am_pO r (fun o r => ∃ t n q, (t = 4 ∨ t = 5) ∧ am_K h o = .inr (t, n) ∧ vp_in i n ∧ am_A h o i.toNatClampNeg = q ∧ κ (pc + 1) lv (va_rf q :: r) h c sl)) := hex
    obtain ⟨i, r, rfl, hex⟩ := am_p1_inv hex
    obtain ⟨o, r, rfl, t, n, q, ht, hK, hin, hq, hex⟩ := am_pO_inv hex
    have ho : o < h.1 := am_okl_h (am_okl_t hst)
    have hg := am_w_get dA ad h ho
    rw [am_e_arr hK] at hg
    have hok2 : am_okv h.1 (va_rf q) := by
      cases q with
      | none => trivial
      | some q => exact hw o _ q ho hq
    have hgo := hκ _ _ _ _ _ _ hex ad H locs ls (S.stk (am_okl_cons hok2 (am_okl_t (am_okl_t hst))))
    have e1 : (va_rf q :: r).map (am_v ad b) = va_rf ((am_A h o i.toNatClampNeg).map ad) :: r.map (am_v ad b) := by
      rw [hq, ← am_v_rf ad b q]; rfl
    rw [e1] at hgo
    rcases ht with rfl | rfl
    · exact va_aldq hx hb hKK hP o 4 hg (am_tys_get dA (by decide)) hin hd hgo
    · exact va_aldq hx hb hKK hP o 5 hg (am_tys_get dA (by decide)) hin hd hgo
  | iastore =>
    have hex : am_p2 st (fun i x r => am_pO r (fun o r => ∃ n, am_K h o = .inr (0, n) ∧ vp_in i n ∧ κ (pc + 1) lv r (am_sI h o i.toNatClampNeg x) c sl)) := hex
    obtain ⟨i, x, r, rfl, hex⟩ := am_p2_inv hex
    obtain ⟨o, r, rfl, n, hK, hin, hex⟩ := am_pO_inv hex
    have ho : o < h.1 := am_okl_h (am_okl_t (am_okl_t hst))
    have hg := am_w_get dA ad h ho
    rw [am_e_arr hK] at hg
    refine va_iast hx hb hKK hP hD hSS o 0 hg (am_tys_get dA (by decide)) hin hd (fun H' locs' hP' hD' hS' => ?_)
    have e1 := am_w_arr (dA := dA) (ad := ad) (h' := am_sI h o i.toNatClampNeg x) hK rfl rfl (fun j hj => ⟨am_I_sI.1 j hj, rfl, rfl⟩)
    have e2 : am_row ad (am_sI h o i.toNatClampNeg x) o 0 = .inl (upd (am_I h o) i.toNatClampNeg x) := by
      unfold am_row; rw [am_I_sI.2]; rfl
    rw [e2] at e1
    exact hκ _ _ _ _ _ _ hex ad H' locs' ls (S.hp rfl (am_wf_sI hw) (am_okl_t (am_okl_t (am_okl_t hst))) (by rw [e1]; exact hP') (by rw [e1]; exact hD') hS')
  | bastore =>
    have hex : am_p2 st (fun i x r => am_pO r (fun o r => ∃ t n, (t = 1 ∨ t = 2) ∧ am_K h o = .inr (t, n) ∧ vp_in i n ∧ κ (pc + 1) lv r (am_sI h o i.toNatClampNeg (vp_nar (am_at t) x)) c sl)) := hex
    obtain ⟨i, x, r, rfl, hex⟩ := am_p2_inv hex
    obtain ⟨o, r, rfl, t, n, ht, hK, hin, hex⟩ := am_pO_inv hex
    have ho : o < h.1 := am_okl_h (am_okl_t (am_okl_t hst))
    have hg := am_w_get dA ad h ho
    rw [am_e_arr hK] at hg
    have e1 := am_w_arr (dA := dA) (ad := ad) (h' := am_sI h o i.toNatClampNeg (vp_nar (am_at t) x)) hK rfl rfl (fun j hj => ⟨am_I_sI.1 j hj, rfl, rfl⟩)
    have e2 : am_row ad (am_sI h o i.toNatClampNeg (vp_nar (am_at t) x)) o t = .inl (upd (am_I h o) i.toNatClampNeg (vp_nar (am_at t) x)) := by
      unfold am_row; rw [am_I_sI.2, if_pos (by omega)]
    rw [e2] at e1
    rcases ht with rfl | rfl
    · exact va_bast hx hb hKK hP hD hSS o 1 hg (am_tys_get dA (by decide)) hin hd (fun H' locs' hP' hD' hS' => hκ _ _ _ _ _ _ hex ad H' locs' ls (S.hp rfl (am_wf_sI hw) (am_okl_t (am_okl_t (am_okl_t hst))) (by rw [e1]; exact hP') (by rw [e1]; exact hD') hS'))
    · exact va_zast hx hb hKK hP hD hSS o 2 hg (am_tys_get dA (by decide)) hin hd (fun H' locs' hP' hD' hS' => hκ _ _ _ _ _ _ hex ad H' locs' ls (S.hp rfl (am_wf_sI hw) (am_okl_t (am_okl_t (am_okl_t hst))) (by rw [e1]; exact hP') (by rw [e1]; exact hD') hS'))
  | lastore =>
    have hex : am_pJ st (fun x r => am_p1 r (fun i r => am_pO r (fun o r => ∃ n, am_K h o = .inr (3, n) ∧ vp_in i n ∧ κ (pc + 1) lv r (am_sJ h o i.toNatClampNeg x) c sl))) := hex
    obtain ⟨x, r, rfl, hex⟩ := am_pJ_inv hex
    obtain ⟨i, r, rfl, hex⟩ := am_p1_inv hex
    obtain ⟨o, r, rfl, n, hK, hin, hex⟩ := am_pO_inv hex
    have ho : o < h.1 := am_okl_h (am_okl_t (am_okl_t hst))
    have hg := am_w_get dA ad h ho
    rw [am_e_arr hK] at hg
    refine va_last hx hb hKK hP hD hSS o 3 hg (am_tys_get dA (by decide)) hin hd (fun H' locs' hP' hD' hS' => ?_)
    have e1 := am_w_arr (dA := dA) (ad := ad) (h' := am_sJ h o i.toNatClampNeg x) hK rfl rfl (fun j hj => ⟨rfl, am_J_sJ.1 j hj, rfl⟩)
    have e2 : am_row ad (am_sJ h o i.toNatClampNeg x) o 3 = .inr (.inl (vp_updL (am_J h o) i.toNatClampNeg x)) := by
      unfold am_row; rw [am_J_sJ.2]; rfl
    rw [e2] at e1
    exact hκ _ _ _ _ _ _ hex ad H' locs' ls (S.hp rfl (am_wf_sJ hw) (am_okl_t (am_okl_t (am_okl_t hst))) (by rw [e1]; exact hP') (by rw [e1]; exact hD') hS')
  | aastore =>
    have hex : am_pO st (fun q r => am_p1 r (fun i r => am_pO r (fun o r => ∃ t n ci, ((t = 4 ∧ ci = 0) ∨ (t = 5 ∧ ci = 4)) ∧ am_K h o = .inr (t, n) ∧ am_K h q = .inl ci ∧ vp_in i n ∧ κ (pc + 1) lv r (am_sA h o i.toNatClampNeg (some q)) c sl))) := hex
    obtain ⟨q, r, rfl, hex1⟩ := am_pO_inv hex
    obtain ⟨i, r, rfl, hex2⟩ := am_p1_inv hex1
    obtain ⟨o, r, rfl, t, n, ci, ht, hK, hKq, hin, hex⟩ := am_pO_inv hex2
    have ho : o < h.1 := am_okl_h (am_okl_t (am_okl_t hst))
    have hq : q < h.1 := am_okl_h hst
    have hg := am_w_get dA ad h ho
    rw [am_e_arr hK] at hg
    have hgq := am_w_get dA ad h hq
    rw [am_e_obj hKq] at hgq
    have e1 := am_w_arr (dA := dA) (ad := ad) (h' := am_sA h o i.toNatClampNeg (some q)) hK rfl rfl (fun j hj => ⟨rfl, rfl, am_A_sA.1 j hj⟩)
    have e2 : am_row ad (am_sA h o i.toNatClampNeg (some q)) o t = .inr (.inr (.inr (.inr (va_up (fun j => (am_A h o j).map ad) i.toNatClampNeg (some (ad q)))))) := by
      unfold am_row
      rw [if_neg (by omega), if_neg (by omega), am_A_sA.2]
      congr 4
      funext j
      by_cases hj : j = i.toNatClampNeg
      · simp [va_up, hj]
      · simp [va_up, hj]
    rw [e2] at e1
    have hwf := am_wf_sA (o := o) (j := i.toNatClampNeg) (r := some q) hw (fun z hz => by cases hz; exact hq)
    rcases ht with ⟨rfl, rfl⟩ | ⟨rfl, rfl⟩
    · exact va_astq hx hb hKK hP hD hSS o 4 q 0 (r := (RX0, TX0, 4)) hg (am_tys_get dA (by decide)) hgq rfl hin hd (fun H' locs' hP' hD' hS' => hκ _ _ _ _ _ _ hex ad H' locs' ls (S.hp rfl hwf (am_okl_t (am_okl_t (am_okl_t hst))) (by rw [e1]; exact hP') (by rw [e1]; exact hD') hS'))
    · exact va_astq hx hb hKK hP hD hSS o 5 q 4 (r := (RX4, TX4, 2)) hg (am_tys_get dA (by decide)) hgq rfl hin hd (fun H' locs' hP' hD' hS' => hκ _ _ _ _ _ _ hex ad H' locs' ls (S.hp rfl hwf (am_okl_t (am_okl_t (am_okl_t hst))) (by rw [e1]; exact hP') (by rw [e1]; exact hD') hS'))
  | _ => exact hex.elim
end AMC
