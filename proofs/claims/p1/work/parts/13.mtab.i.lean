theorem okL_tab : ∀ pc i t, tL_law pc = some (i, t) → am_dec cL_law 4 pc i t := by
  intro pc i t hf
  have key : ∀ lo n, am_cL lo n = true → lo ≤ pc → pc < lo + n → am_dec cL_law 4 pc i t := by
    intro lo n h h1 h2
    have h3 := List.all_eq_true.mp h (pc - lo) (List.mem_range.mpr (by omega))
    rw [show lo + (pc - lo) = pc by omega, hf] at h3
    exact am_chk_ok h3
  by_cases hp : pc < 1024
  · rcases (by omega : (0 ≤ pc ∧ pc < 0 + 32) ∨ (32 ≤ pc ∧ pc < 32 + 32) ∨ (64 ≤ pc ∧ pc < 64 + 32) ∨ (96 ≤ pc ∧ pc < 96 + 32) ∨ (128 ≤ pc ∧ pc < 128 + 32) ∨ (160 ≤ pc ∧ pc < 160 + 32) ∨ (192 ≤ pc ∧ pc < 192 + 32) ∨ (224 ≤ pc ∧ pc < 224 + 32) ∨ (256 ≤ pc ∧ pc < 256 + 32) ∨ (288 ≤ pc ∧ pc < 288 + 32) ∨ (320 ≤ pc ∧ pc < 320 + 32) ∨ (352 ≤ pc ∧ pc < 352 + 32) ∨ (384 ≤ pc ∧ pc < 384 + 32) ∨ (416 ≤ pc ∧ pc < 416 + 32) ∨ (448 ≤ pc ∧ pc < 448 + 32) ∨ (480 ≤ pc ∧ pc < 480 + 32) ∨ (512 ≤ pc ∧ pc < 512 + 32) ∨ (544 ≤ pc ∧ pc < 544 + 32) ∨ (576 ≤ pc ∧ pc < 576 + 32) ∨ (608 ≤ pc ∧ pc < 608 + 32) ∨ (640 ≤ pc ∧ pc < 640 + 32) ∨ (672 ≤ pc ∧ pc < 672 + 32) ∨ (704 ≤ pc ∧ pc < 704 + 32) ∨ (736 ≤ pc ∧ pc < 736 + 32) ∨ (768 ≤ pc ∧ pc < 768 + 32) ∨ (800 ≤ pc ∧ pc < 800 + 32) ∨ (832 ≤ pc ∧ pc < 832 + 32) ∨ (864 ≤ pc ∧ pc < 864 + 32) ∨ (896 ≤ pc ∧ pc < 896 + 32) ∨ (928 ≤ pc ∧ pc < 928 + 32) ∨ (960 ≤ pc ∧ pc < 960 + 32) ∨ (992 ≤ pc ∧ pc < 992 + 32)) with h | h | h | h | h | h | h | h | h | h | h | h | h | h | h | h | h | h | h | h | h | h | h | h | h | h | h | h | h | h | h | h
    · exact key 0 32 okL_c0 h.1 h.2
    · exact key 32 32 okL_c1 h.1 h.2
    · exact key 64 32 okL_c2 h.1 h.2
    · exact key 96 32 okL_c3 h.1 h.2
    · exact key 128 32 okL_c4 h.1 h.2
    · exact key 160 32 okL_c5 h.1 h.2
    · exact key 192 32 okL_c6 h.1 h.2
    · exact key 224 32 okL_c7 h.1 h.2
    · exact key 256 32 okL_c8 h.1 h.2
    · exact key 288 32 okL_c9 h.1 h.2
    · exact key 320 32 okL_c10 h.1 h.2
    · exact key 352 32 okL_c11 h.1 h.2
    · exact key 384 32 okL_c12 h.1 h.2
    · exact key 416 32 okL_c13 h.1 h.2
    · exact key 448 32 okL_c14 h.1 h.2
    · exact key 480 32 okL_c15 h.1 h.2
    · exact key 512 32 okL_c16 h.1 h.2
    · exact key 544 32 okL_c17 h.1 h.2
    · exact key 576 32 okL_c18 h.1 h.2
    · exact key 608 32 okL_c19 h.1 h.2
    · exact key 640 32 okL_c20 h.1 h.2
    · exact key 672 32 okL_c21 h.1 h.2
    · exact key 704 32 okL_c22 h.1 h.2
    · exact key 736 32 okL_c23 h.1 h.2
    · exact key 768 32 okL_c24 h.1 h.2
    · exact key 800 32 okL_c25 h.1 h.2
    · exact key 832 32 okL_c26 h.1 h.2
    · exact key 864 32 okL_c27 h.1 h.2
    · exact key 896 32 okL_c28 h.1 h.2
    · exact key 928 32 okL_c29 h.1 h.2
    · exact key 960 32 okL_c30 h.1 h.2
    · exact key 992 32 okL_c31 h.1 h.2
  · rw [show tL_law pc = none from am_bz (by omega)] at hf
    cases hf
set_option maxRecDepth 100000 in
theorem okL_put : ∀ pc idx t ci k kd, tL_law pc = some (.putfield idx, t) → flL idx = some (ci, k, kd) → am_PF yL_law ci k := fun _ _ _ _ _ _ _ h => by cases h
theorem okL_law : am_ok mL_law := ⟨okL_tab, flL_ok, okL_put, lcL_ok, llL_ok⟩
