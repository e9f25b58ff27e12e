theorem dX11_init_0 : decode cX11_init 0 = .ok (.aload_n 0, 1) := by decide +kernel
theorem dX11_init_1 : decode cX11_init 1 = .ok (.invokespecial 1, 3) := by decide +kernel
theorem dX11_init_4 : decode cX11_init 4 = .ok (.aload_n 0, 1) := by decide +kernel
theorem dX11_init_5 : decode cX11_init 5 = .ok (.new 7, 3) := by decide +kernel
theorem dX11_init_8 : decode cX11_init 8 = .ok (.dup, 1) := by decide +kernel
theorem dX11_init_9 : decode cX11_init 9 = .ok (.invokespecial 9, 3) := by decide +kernel
theorem dX11_init_12 : decode cX11_init 12 = .ok (.putfield 10, 3) := by decide +kernel
theorem dX11_init_15 : decode cX11_init 15 = .ok (.aload_n 0, 1) := by decide +kernel
theorem dX11_init_16 : decode cX11_init 16 = .ok (.new 16, 3) := by decide +kernel
theorem dX11_init_19 : decode cX11_init 19 = .ok (.dup, 1) := by decide +kernel
theorem dX11_init_20 : decode cX11_init 20 = .ok (.invokespecial 18, 3) := by decide +kernel
theorem dX11_init_23 : decode cX11_init 23 = .ok (.putfield 19, 3) := by decide +kernel
theorem dX11_init_26 : decode cX11_init 26 = .ok (.aload_n 0, 1) := by decide +kernel
theorem dX11_init_27 : decode cX11_init 27 = .ok (.new 23, 3) := by decide +kernel
theorem dX11_init_30 : decode cX11_init 30 = .ok (.dup, 1) := by decide +kernel
theorem dX11_init_31 : decode cX11_init 31 = .ok (.invokespecial 25, 3) := by decide +kernel
theorem dX11_init_34 : decode cX11_init 34 = .ok (.putfield 26, 3) := by decide +kernel
theorem dX11_init_37 : decode cX11_init 37 = .ok (.aload_n 0, 1) := by decide +kernel
theorem dX11_init_38 : decode cX11_init 38 = .ok (.new 30, 3) := by decide +kernel
theorem dX11_init_41 : decode cX11_init 41 = .ok (.dup, 1) := by decide +kernel
theorem dX11_init_42 : decode cX11_init 42 = .ok (.invokespecial 32, 3) := by decide +kernel
theorem dX11_init_45 : decode cX11_init 45 = .ok (.putfield 33, 3) := by decide +kernel
theorem dX11_init_48 : decode cX11_init 48 = .ok (.aload_n 0, 1) := by decide +kernel
theorem dX11_init_49 : decode cX11_init 49 = .ok (.new 37, 3) := by decide +kernel
theorem dX11_init_52 : decode cX11_init 52 = .ok (.dup, 1) := by decide +kernel
theorem dX11_init_53 : decode cX11_init 53 = .ok (.invokespecial 39, 3) := by decide +kernel
theorem dX11_init_56 : decode cX11_init 56 = .ok (.putfield 40, 3) := by decide +kernel
theorem dX11_init_59 : decode cX11_init 59 = .ok (.aload_n 0, 1) := by decide +kernel
theorem dX11_init_60 : decode cX11_init 60 = .ok (.new 44, 3) := by decide +kernel
theorem dX11_init_63 : decode cX11_init 63 = .ok (.dup, 1) := by decide +kernel
theorem dX11_init_64 : decode cX11_init 64 = .ok (.invokespecial 46, 3) := by decide +kernel
theorem dX11_init_67 : decode cX11_init 67 = .ok (.putfield 47, 3) := by decide +kernel
theorem dX11_init_70 : decode cX11_init 70 = .ok (.aload_n 0, 1) := by decide +kernel
theorem dX11_init_71 : decode cX11_init 71 = .ok (.new 44, 3) := by decide +kernel
theorem dX11_init_74 : decode cX11_init 74 = .ok (.dup, 1) := by decide +kernel
theorem dX11_init_75 : decode cX11_init 75 = .ok (.invokespecial 46, 3) := by decide +kernel
theorem dX11_init_78 : decode cX11_init 78 = .ok (.putfield 51, 3) := by decide +kernel
theorem dX11_init_81 : decode cX11_init 81 = .ok (.aload_n 0, 1) := by decide +kernel
theorem dX11_init_82 : decode cX11_init 82 = .ok (.new 54, 3) := by decide +kernel
theorem dX11_init_85 : decode cX11_init 85 = .ok (.dup, 1) := by decide +kernel
theorem dX11_init_86 : decode cX11_init 86 = .ok (.invokespecial 56, 3) := by decide +kernel
theorem dX11_init_89 : decode cX11_init 89 = .ok (.putfield 57, 3) := by decide +kernel
theorem dX11_init_92 : decode cX11_init 92 = .ok (.aload_n 0, 1) := by decide +kernel
theorem dX11_init_93 : decode cX11_init 93 = .ok (.new 61, 3) := by decide +kernel
theorem dX11_init_96 : decode cX11_init 96 = .ok (.dup, 1) := by decide +kernel
theorem dX11_init_97 : decode cX11_init 97 = .ok (.invokespecial 63, 3) := by decide +kernel
theorem dX11_init_100 : decode cX11_init 100 = .ok (.putfield 64, 3) := by decide +kernel
theorem dX11_init_103 : decode cX11_init 103 = .ok (.aload_n 0, 1) := by decide +kernel
theorem dX11_init_104 : decode cX11_init 104 = .ok (.new 68, 3) := by decide +kernel
theorem dX11_init_107 : decode cX11_init 107 = .ok (.dup, 1) := by decide +kernel
theorem dX11_init_108 : decode cX11_init 108 = .ok (.invokespecial 70, 3) := by decide +kernel
theorem dX11_init_111 : decode cX11_init 111 = .ok (.putfield 71, 3) := by decide +kernel
theorem dX11_init_114 : decode cX11_init 114 = .ok (.aload_n 0, 1) := by decide +kernel
theorem dX11_init_115 : decode cX11_init 115 = .ok (.new 75, 3) := by decide +kernel
theorem dX11_init_118 : decode cX11_init 118 = .ok (.dup, 1) := by decide +kernel
theorem dX11_init_119 : decode cX11_init 119 = .ok (.invokespecial 77, 3) := by decide +kernel
theorem dX11_init_122 : decode cX11_init 122 = .ok (.putfield 78, 3) := by decide +kernel
theorem dX11_init_125 : decode cX11_init 125 = .ok (.aload_n 0, 1) := by decide +kernel
theorem dX11_init_126 : decode cX11_init 126 = .ok (.new 82, 3) := by decide +kernel
theorem dX11_init_129 : decode cX11_init 129 = .ok (.dup, 1) := by decide +kernel
theorem dX11_init_130 : decode cX11_init 130 = .ok (.invokespecial 84, 3) := by decide +kernel
theorem dX11_init_133 : decode cX11_init 133 = .ok (.putfield 85, 3) := by decide +kernel
theorem dX11_init_136 : decode cX11_init 136 = .ok (.return_, 1) := by decide +kernel
set_option maxHeartbeats 4000000 in
theorem ix_X0_1 {x : vv_E} {b : Nat} {G : ii_G} (hG : ∀ a, 1 ≤ a → G a = vc x b vv_TC h0C a) : ∀ a, a < 16 → ig_X0_1 x b (ii_up G 1 (.inr (0, [.int 0, .null, .null]))) a = G a := by
  intro a ha
  by_cases h : a < 1
  · rw [il_X0_1 h, ii_up_ne (by omega)]
  · rw [hG a (by omega)]
    obtain ⟨i, rfl⟩ := Nat.exists_eq_add_of_le (Nat.not_lt.mp h)
    have hi : i < 15 := by omega
    clear h ha hG
    revert i
    refine all_s (n := 14) ?_ rfl
    refine all_s (n := 13) ?_ rfl
    refine all_s (n := 12) ?_ rfl
    refine all_s (n := 11) ?_ rfl
    refine all_s (n := 10) ?_ rfl
    refine all_s (n := 9) ?_ rfl
    refine all_s (n := 8) ?_ rfl
    refine all_s (n := 7) ?_ rfl
    refine all_s (n := 6) ?_ rfl
    refine all_s (n := 5) ?_ rfl
    refine all_s (n := 4) ?_ rfl
    refine all_s (n := 3) ?_ rfl
    refine all_s (n := 2) ?_ rfl
    refine all_s (n := 1) ?_ rfl
    refine all_s (n := 0) ?_ rfl
    exact all_0
set_option maxHeartbeats 4000000 in
theorem ix_X2_16 {x : vv_E} {b : Nat} {G : ii_G} (hG : ∀ a, 16 ≤ a → G a = vc x b vv_TC h0C a) : ∀ a, a < 22 → ig_X2_16 x b (ii_up G 16 (.inr (2, [.int 0, .null, .null, .null, .null, .null]))) a = G a := by
  intro a ha
  by_cases h : a < 16
  · rw [il_X2_16 h, ii_up_ne (by omega)]
  · rw [hG a (by omega)]
    obtain ⟨i, rfl⟩ := Nat.exists_eq_add_of_le (Nat.not_lt.mp h)
    have hi : i < 6 := by omega
    clear h ha hG
    revert i
    refine all_s (n := 5) ?_ rfl
    refine all_s (n := 4) ?_ rfl
    refine all_s (n := 3) ?_ rfl
    refine all_s (n := 2) ?_ rfl
    refine all_s (n := 1) ?_ rfl
    refine all_s (n := 0) ?_ rfl
    exact all_0
set_option maxHeartbeats 4000000 in
theorem ix_X8_22 {x : vv_E} {b : Nat} {G : ii_G} (hG : ∀ a, 22 ≤ a → G a = vc x b vv_TC h0C a) : ∀ a, a < 50 → ig_X8_22 x b (ii_up G 22 (.inr (8, [.int 0, .null, .null, .null]))) a = G a := by
  intro a ha
  by_cases h : a < 22
  · rw [il_X8_22 h, ii_up_ne (by omega)]
  · rw [hG a (by omega)]
    obtain ⟨i, rfl⟩ := Nat.exists_eq_add_of_le (Nat.not_lt.mp h)
    have hi : i < 28 := by omega
    clear h ha hG
    revert i
    refine all_s (n := 27) ?_ rfl
    refine all_s (n := 26) ?_ rfl
    refine all_s (n := 25) ?_ rfl
    refine all_s (n := 24) ?_ rfl
    refine all_s (n := 23) ?_ rfl
    refine all_s (n := 22) ?_ rfl
    refine all_s (n := 21) ?_ rfl
    refine all_s (n := 20) ?_ rfl
    refine all_s (n := 19) ?_ rfl
    refine all_s (n := 18) ?_ rfl
    refine all_s (n := 17) ?_ rfl
    refine all_s (n := 16) ?_ rfl
    refine all_s (n := 15) ?_ rfl
    refine all_s (n := 14) ?_ rfl
    refine all_s (n := 13) ?_ rfl
    refine all_s (n := 12) ?_ rfl
    refine all_s (n := 11) ?_ rfl
    refine all_s (n := 10) ?_ rfl
    refine all_s (n := 9) ?_ rfl
    refine all_s (n := 8) ?_ rfl
    refine all_s (n := 7) ?_ rfl
    refine all_s (n := 6) ?_ rfl
    refine all_s (n := 5) ?_ rfl
    refine all_s (n := 4) ?_ rfl
    refine all_s (n := 3) ?_ rfl
    refine all_s (n := 2) ?_ rfl
    refine all_s (n := 1) ?_ rfl
    refine all_s (n := 0) ?_ rfl
    exact all_0
set_option maxHeartbeats 4000000 in
theorem ix_X10_50 {x : vv_E} {b : Nat} {G : ii_G} (hG : ∀ a, 50 ≤ a → G a = vc x b vv_TC h0C a) : ∀ a, a < 55 → ig_X10_50 x b (ii_up G 50 (.inr (10, [.int 0, .int 0, .null, .null, .null, .null]))) a = G a := by
  intro a ha
  by_cases h : a < 50
  · rw [il_X10_50 h, ii_up_ne (by omega)]
  · rw [hG a (by omega)]
    obtain ⟨i, rfl⟩ := Nat.exists_eq_add_of_le (Nat.not_lt.mp h)
    have hi : i < 5 := by omega
    clear h ha hG
    revert i
    refine all_s (n := 4) ?_ rfl
    refine all_s (n := 3) ?_ rfl
    refine all_s (n := 2) ?_ rfl
    refine all_s (n := 1) ?_ rfl
    refine all_s (n := 0) ?_ rfl
    exact all_0
set_option maxHeartbeats 4000000 in
theorem ix_X5_55 {x : vv_E} {b : Nat} {G : ii_G} (hG : ∀ a, 55 ≤ a → G a = vc x b vv_TC h0C a) : ∀ a, a < 56 → ig_X5_55 x b (ii_up G 55 (.inr (5, [.int 0, .int 0, .int 0, .int 0]))) a = G a := by
  intro a ha
  by_cases h : a < 55
  · rw [il_X5_55 h, ii_up_ne (by omega)]
  · rw [hG a (by omega)]
    obtain ⟨i, rfl⟩ := Nat.exists_eq_add_of_le (Nat.not_lt.mp h)
    have hi : i < 1 := by omega
    clear h ha hG
    revert i
    refine all_s (n := 0) ?_ rfl
    exact all_0
set_option maxHeartbeats 4000000 in
theorem ix_X6_56 {x : vv_E} {b : Nat} {G : ii_G} (hG : ∀ a, 56 ≤ a → G a = vc x b vv_TC h0C a) : ∀ a, a < 101 → ig_X6_56 x b (ii_up G 56 (.inr (6, [.int 0, .null, .null, .null, .null, .null, .null, .null, .null]))) a = G a := by
  intro a ha
  by_cases h : a < 56
  · rw [il_X6_56 h, ii_up_ne (by omega)]
  · rw [hG a (by omega)]
    obtain ⟨i, rfl⟩ := Nat.exists_eq_add_of_le (Nat.not_lt.mp h)
    have hi : i < 45 := by omega
    clear h ha hG
    revert i
    refine all_s (n := 44) ?_ rfl
    refine all_s (n := 43) ?_ rfl
    refine all_s (n := 42) ?_ rfl
    refine all_s (n := 41) ?_ rfl
    refine all_s (n := 40) ?_ rfl
    refine all_s (n := 39) ?_ rfl
    refine all_s (n := 38) ?_ rfl
    refine all_s (n := 37) ?_ rfl
    refine all_s (n := 36) ?_ rfl
    refine all_s (n := 35) ?_ rfl
    refine all_s (n := 34) ?_ rfl
    refine all_s (n := 33) ?_ rfl
    refine all_s (n := 32) ?_ rfl
    refine all_s (n := 31) ?_ rfl
    refine all_s (n := 30) ?_ rfl
    refine all_s (n := 29) ?_ rfl
    refine all_s (n := 28) ?_ rfl
    refine all_s (n := 27) ?_ rfl
    refine all_s (n := 26) ?_ rfl
    refine all_s (n := 25) ?_ rfl
    refine all_s (n := 24) ?_ rfl
    refine all_s (n := 23) ?_ rfl
    refine all_s (n := 22) ?_ rfl
    refine all_s (n := 21) ?_ rfl
    refine all_s (n := 20) ?_ rfl
    refine all_s (n := 19) ?_ rfl
    refine all_s (n := 18) ?_ rfl
    refine all_s (n := 17) ?_ rfl
    refine all_s (n := 16) ?_ rfl
    refine all_s (n := 15) ?_ rfl
    refine all_s (n := 14) ?_ rfl
    refine all_s (n := 13) ?_ rfl
    refine all_s (n := 12) ?_ rfl
    refine all_s (n := 11) ?_ rfl
    refine all_s (n := 10) ?_ rfl
    refine all_s (n := 9) ?_ rfl
    refine all_s (n := 8) ?_ rfl
    refine all_s (n := 7) ?_ rfl
    refine all_s (n := 6) ?_ rfl
    refine all_s (n := 5) ?_ rfl
    refine all_s (n := 4) ?_ rfl
    refine all_s (n := 3) ?_ rfl
    refine all_s (n := 2) ?_ rfl
    refine all_s (n := 1) ?_ rfl
    refine all_s (n := 0) ?_ rfl
    exact all_0
set_option maxHeartbeats 4000000 in
theorem ix_X6_101 {x : vv_E} {b : Nat} {G : ii_G} (hG : ∀ a, 101 ≤ a → G a = vc x b vv_TC h0C a) : ∀ a, a < 146 → ig_X6_101 x b (ii_up G 101 (.inr (6, [.int 0, .null, .null, .null, .null, .null, .null, .null, .null]))) a = G a := by
  intro a ha
  by_cases h : a < 101
  · rw [il_X6_101 h, ii_up_ne (by omega)]
  · rw [hG a (by omega)]
    obtain ⟨i, rfl⟩ := Nat.exists_eq_add_of_le (Nat.not_lt.mp h)
    have hi : i < 45 := by omega
    clear h ha hG
    revert i
    refine all_s (n := 44) ?_ rfl
    refine all_s (n := 43) ?_ rfl
    refine all_s (n := 42) ?_ rfl
    refine all_s (n := 41) ?_ rfl
    refine all_s (n := 40) ?_ rfl
    refine all_s (n := 39) ?_ rfl
    refine all_s (n := 38) ?_ rfl
    refine all_s (n := 37) ?_ rfl
    refine all_s (n := 36) ?_ rfl
    refine all_s (n := 35) ?_ rfl
    refine all_s (n := 34) ?_ rfl
    refine all_s (n := 33) ?_ rfl
    refine all_s (n := 32) ?_ rfl
    refine all_s (n := 31) ?_ rfl
    refine all_s (n := 30) ?_ rfl
    refine all_s (n := 29) ?_ rfl
    refine all_s (n := 28) ?_ rfl
    refine all_s (n := 27) ?_ rfl
    refine all_s (n := 26) ?_ rfl
    refine all_s (n := 25) ?_ rfl
    refine all_s (n := 24) ?_ rfl
    refine all_s (n := 23) ?_ rfl
    refine all_s (n := 22) ?_ rfl
    refine all_s (n := 21) ?_ rfl
    refine all_s (n := 20) ?_ rfl
    refine all_s (n := 19) ?_ rfl
    refine all_s (n := 18) ?_ rfl
    refine all_s (n := 17) ?_ rfl
    refine all_s (n := 16) ?_ rfl
    refine all_s (n := 15) ?_ rfl
    refine all_s (n := 14) ?_ rfl
    refine all_s (n := 13) ?_ rfl
    refine all_s (n := 12) ?_ rfl
    refine all_s (n := 11) ?_ rfl
    refine all_s (n := 10) ?_ rfl
    refine all_s (n := 9) ?_ rfl
    refine all_s (n := 8) ?_ rfl
    refine all_s (n := 7) ?_ rfl
    refine all_s (n := 6) ?_ rfl
    refine all_s (n := 5) ?_ rfl
    refine all_s (n := 4) ?_ rfl
    refine all_s (n := 3) ?_ rfl
    refine all_s (n := 2) ?_ rfl
    refine all_s (n := 1) ?_ rfl
    refine all_s (n := 0) ?_ rfl
    exact all_0
set_option maxHeartbeats 4000000 in
theorem ix_X9_146 {x : vv_E} {b : Nat} {G : ii_G} (hG : ∀ a, 146 ≤ a → G a = vc x b vv_TC h0C a) : ∀ a, a < 156 → ig_X9_146 x b (ii_up G 146 (.inr (9, [.int 0, .int 0, .null, .null, .null, .null, .null]))) a = G a := by
  intro a ha
  by_cases h : a < 146
  · rw [il_X9_146 h, ii_up_ne (by omega)]
  · rw [hG a (by omega)]
    obtain ⟨i, rfl⟩ := Nat.exists_eq_add_of_le (Nat.not_lt.mp h)
    have hi : i < 10 := by omega
    clear h ha hG
    revert i
    refine all_s (n := 9) ?_ rfl
    refine all_s (n := 8) ?_ rfl
    refine all_s (n := 7) ?_ rfl
    refine all_s (n := 6) ?_ rfl
    refine all_s (n := 5) ?_ rfl
    refine all_s (n := 4) ?_ rfl
    refine all_s (n := 3) ?_ rfl
    refine all_s (n := 2) ?_ rfl
    refine all_s (n := 1) ?_ rfl
    refine all_s (n := 0) ?_ rfl
    exact all_0
set_option maxHeartbeats 4000000 in
theorem ix_X4_156 {x : vv_E} {b : Nat} {G : ii_G} (hG : ∀ a, 156 ≤ a → G a = vc x b vv_TC h0C a) : ∀ a, a < 167 → ig_X4_156 x b (ii_up G 156 (.inr (4, [.int 0, .null, .null, .null, .null, .null, .null, .null, .null, .null, .null]))) a = G a := by
  intro a ha
  by_cases h : a < 156
  · rw [il_X4_156 h, ii_up_ne (by omega)]
  · rw [hG a (by omega)]
    obtain ⟨i, rfl⟩ := Nat.exists_eq_add_of_le (Nat.not_lt.mp h)
    have hi : i < 11 := by omega
    clear h ha hG
    revert i
    refine all_s (n := 10) ?_ rfl
    refine all_s (n := 9) ?_ rfl
    refine all_s (n := 8) ?_ rfl
    refine all_s (n := 7) ?_ rfl
    refine all_s (n := 6) ?_ rfl
    refine all_s (n := 5) ?_ rfl
    refine all_s (n := 4) ?_ rfl
    refine all_s (n := 3) ?_ rfl
    refine all_s (n := 2) ?_ rfl
    refine all_s (n := 1) ?_ rfl
    refine all_s (n := 0) ?_ rfl
    exact all_0
set_option maxHeartbeats 4000000 in
theorem ix_X1_167 {x : vv_E} {b : Nat} {G : ii_G} (hG : ∀ a, 167 ≤ a → G a = vc x b vv_TC h0C a) : ∀ a, a < 170 → ig_X1_167 x b (ii_up G 167 (.inr (1, [.int 0, .int 0, .int 0, .null, .null]))) a = G a := by
  intro a ha
  by_cases h : a < 167
  · rw [il_X1_167 h, ii_up_ne (by omega)]
  · rw [hG a (by omega)]
    obtain ⟨i, rfl⟩ := Nat.exists_eq_add_of_le (Nat.not_lt.mp h)
    have hi : i < 3 := by omega
    clear h ha hG
    revert i
    refine all_s (n := 2) ?_ rfl
    refine all_s (n := 1) ?_ rfl
    refine all_s (n := 0) ?_ rfl
    exact all_0
set_option maxHeartbeats 4000000 in
theorem ix_X3_170 {x : vv_E} {b : Nat} {G : ii_G} (hG : ∀ a, 170 ≤ a → G a = vc x b vv_TC h0C a) : ∀ a, a < 176 → ig_X3_170 x b (ii_up G 170 (.inr (3, [.int 0, .int 0, .int 0, .long 0, .null, .null, .null, .null, .null]))) a = G a := by
  intro a ha
  by_cases h : a < 170
  · rw [il_X3_170 h, ii_up_ne (by omega)]
  · rw [hG a (by omega)]
    obtain ⟨i, rfl⟩ := Nat.exists_eq_add_of_le (Nat.not_lt.mp h)
    have hi : i < 6 := by omega
    clear h ha hG
    revert i
    refine all_s (n := 5) ?_ rfl
    refine all_s (n := 4) ?_ rfl
    refine all_s (n := 3) ?_ rfl
    refine all_s (n := 2) ?_ rfl
    refine all_s (n := 1) ?_ rfl
    refine all_s (n := 0) ?_ rfl
    exact all_0
set_option maxHeartbeats 4000000 in
theorem ix_X7_176 {x : vv_E} {b : Nat} {G : ii_G} (hG : ∀ a, 176 ≤ a → G a = vc x b vv_TC h0C a) : ∀ a, a < 184 → ig_X7_176 x b (ii_up G 176 (.inr (7, [.null, .null, .null]))) a = G a := by
  intro a ha
  by_cases h : a < 176
  · rw [il_X7_176 h, ii_up_ne (by omega)]
  · rw [hG a (by omega)]
    obtain ⟨i, rfl⟩ := Nat.exists_eq_add_of_le (Nat.not_lt.mp h)
    have hi : i < 8 := by omega
    clear h ha hG
    revert i
    refine all_s (n := 7) ?_ rfl
    refine all_s (n := 6) ?_ rfl
    refine all_s (n := 5) ?_ rfl
    refine all_s (n := 4) ?_ rfl
    refine all_s (n := 3) ?_ rfl
    refine all_s (n := 2) ?_ rfl
    refine all_s (n := 1) ?_ rfl
    refine all_s (n := 0) ?_ rfl
    exact all_0
abbrev im_X11 : vv_M := (cX11_init, 1, RX11, none, ik_rm 3 183 2899)
theorem hj711 : RX11 ≠ RJ7 := by decide +kernel
section CCC
variable {x : vv_E} {b : Nat} {post : Nat → ii_G → Prop}
set_option maxHeartbeats 4000000 in
theorem id_0 (kk : ii_V x b im_X11 183 2899 post 15 [some (.ref (b + 0))] [] 15 63 16 (ii_O 0 11 [.int 0, .int 0, .ref (b + 1), .null, .null, .null, .null, .null, .null, .null, .null, .null, .null, .null] (vc x b vv_TC h0C))) : ii_V x b im_X11 183 2899 post 0 [some (.ref (b + 0))] [] 0 0 1 (ii_O 0 11 [.int 0, .int 0, .null, .null, .null, .null, .null, .null, .null, .null, .null, .null, .null, .null] (vc x b vv_TC h0C)) := by
  refine ir_aload_n (q := 1) (v := b + 0) dX11_init_0 rfl rfl ?_
  refine ir_obj (q := 4) (by decide +kernel) iw_0 iw_1 ⟨Nat.le_of_ble_eq_true rfl, Nat.le_of_ble_eq_true rfl⟩ dX11_init_1 rfl ?_
  refine ir_aload_n (q := 5) (v := b + 0) dX11_init_4 rfl rfl ?_
  refine ir_new (q := 8) (ci := 0) (N := 3) (C := RX0) (Tf := TX0) (fs := [.int 0, .null, .null]) tyX0 rfl inX0 tyX0_ok (fun j hj => match j, hj with | 0, _ => rfl | 1, _ => rfl | 2, _ => rfl | j + 3, h => absurd h (by omega)) (by decide +kernel) (by decide +kernel) (by decide +kernel) ⟨Nat.le_of_ble_eq_true rfl, Nat.le_of_ble_eq_true rfl⟩ dX11_init_5 rfl ?_
  refine ir_dup (q := 9) dX11_init_8 rfl rfl ?_
  refine ir_callN (q := 12) (ik_X0_1 ii_up_eq) rfl ⟨by decide +kernel, by decide +kernel, by decide +kernel⟩ ⟨by decide +kernel, by decide +kernel, by decide +kernel⟩ rfl ⟨rfl, rfl⟩ rfl (by decide +kernel) ⟨Nat.le_of_ble_eq_true rfl, Nat.le_of_ble_eq_true rfl⟩ ⟨Nat.le_of_ble_eq_true rfl, Nat.le_of_ble_eq_true rfl⟩ (Nat.le_of_ble_eq_true rfl) dX11_init_9 rfl ?_
  rintro n1 g1 ⟨rfl, rfl⟩
  refine ir_ext _ (ix_X0_1 (fun a h => ii_O_ne (by omega))) ?_
  refine ir_putO (q := 15) (k := 0) (N := 14) (j := 2) (C := RX11) (Tf := TX11) (ty := .object "ClothForce$Bodies") tyX11 (by decide) rfl (by decide) inX11 tyX11_ok nmX11 (by decide +kernel) rfl rfl rfl rfl (Nat.le_of_ble_eq_true rfl) rfl dX11_init_12 rfl hj711 ?_
  exact kk
set_option maxHeartbeats 4000000 in
theorem id_1 (kk : ii_V x b im_X11 183 2899 post 26 [some (.ref (b + 0))] [] 21 369 22 (ii_O 0 11 [.int 0, .int 0, .ref (b + 1), .ref (b + 16), .null, .null, .null, .null, .null, .null, .null, .null, .null, .null] (vc x b vv_TC h0C))) : ii_V x b im_X11 183 2899 post 15 [some (.ref (b + 0))] [] 15 63 16 (ii_O 0 11 [.int 0, .int 0, .ref (b + 1), .null, .null, .null, .null, .null, .null, .null, .null, .null, .null, .null] (vc x b vv_TC h0C)) := by
  refine ir_aload_n (q := 16) (v := b + 0) dX11_init_15 rfl rfl ?_
  refine ir_new (q := 19) (ci := 2) (N := 6) (C := RX2) (Tf := TX2) (fs := [.int 0, .null, .null, .null, .null, .null]) tyX2 rfl inX2 tyX2_ok (fun j hj => match j, hj with | 0, _ => rfl | 1, _ => rfl | 2, _ => rfl | 3, _ => rfl | 4, _ => rfl | 5, _ => rfl | j + 6, h => absurd h (by omega)) (by decide +kernel) (by decide +kernel) (by decide +kernel) ⟨Nat.le_of_ble_eq_true rfl, Nat.le_of_ble_eq_true rfl⟩ dX11_init_16 rfl ?_
  refine ir_dup (q := 20) dX11_init_19 rfl rfl ?_
  refine ir_callN (q := 23) (ik_X2_16 ii_up_eq) rfl ⟨by decide +kernel, by decide +kernel, by decide +kernel⟩ ⟨by decide +kernel, by decide +kernel, by decide +kernel⟩ rfl ⟨rfl, rfl⟩ rfl (by decide +kernel) ⟨Nat.le_of_ble_eq_true rfl, Nat.le_of_ble_eq_true rfl⟩ ⟨Nat.le_of_ble_eq_true rfl, Nat.le_of_ble_eq_true rfl⟩ (Nat.le_of_ble_eq_true rfl) dX11_init_20 rfl ?_
  rintro n1 g1 ⟨rfl, rfl⟩
  refine ir_ext _ (ix_X2_16 (fun a h => ii_O_ne (by omega))) ?_
  refine ir_putO (q := 26) (k := 0) (N := 14) (j := 3) (C := RX11) (Tf := TX11) (ty := .object "ClothForce$Measures") tyX11 (by decide) rfl (by decide) inX11 tyX11_ok nmX11 (by decide +kernel) rfl rfl rfl rfl (Nat.le_of_ble_eq_true rfl) rfl dX11_init_23 rfl hj711 ?_
  exact kk
set_option maxHeartbeats 4000000 in
theorem id_2 (kk : ii_V x b im_X11 183 2899 post 37 [some (.ref (b + 0))] [] 49 481 50 (ii_O 0 11 [.int 0, .int 0, .ref (b + 1), .ref (b + 16), .ref (b + 22), .null, .null, .null, .null, .null, .null, .null, .null, .null] (vc x b vv_TC h0C))) : ii_V x b im_X11 183 2899 post 26 [some (.ref (b + 0))] [] 21 369 22 (ii_O 0 11 [.int 0, .int 0, .ref (b + 1), .ref (b + 16), .null, .null, .null, .null, .null, .null, .null, .null, .null, .null] (vc x b vv_TC h0C)) := by
  refine ir_aload_n (q := 27) (v := b + 0) dX11_init_26 rfl rfl ?_
  refine ir_new (q := 30) (ci := 8) (N := 4) (C := RX8) (Tf := TX8) (fs := [.int 0, .null, .null, .null]) tyX8 rfl inX8 tyX8_ok (fun j hj => match j, hj with | 0, _ => rfl | 1, _ => rfl | 2, _ => rfl | 3, _ => rfl | j + 4, h => absurd h (by omega)) (by decide +kernel) (by decide +kernel) (by decide +kernel) ⟨Nat.le_of_ble_eq_true rfl, Nat.le_of_ble_eq_true rfl⟩ dX11_init_27 rfl ?_
  refine ir_dup (q := 31) dX11_init_30 rfl rfl ?_
  refine ir_callN (q := 34) (ik_X8_22 ii_up_eq) rfl ⟨by decide +kernel, by decide +kernel, by decide +kernel⟩ ⟨by decide +kernel, by decide +kernel, by decide +kernel⟩ rfl ⟨rfl, rfl⟩ rfl (by decide +kernel) ⟨Nat.le_of_ble_eq_true rfl, Nat.le_of_ble_eq_true rfl⟩ ⟨Nat.le_of_ble_eq_true rfl, Nat.le_of_ble_eq_true rfl⟩ (Nat.le_of_ble_eq_true rfl) dX11_init_31 rfl ?_
  rintro n1 g1 ⟨rfl, rfl⟩
  refine ir_ext _ (ix_X8_22 (fun a h => ii_O_ne (by omega))) ?_
  refine ir_putO (q := 37) (k := 0) (N := 14) (j := 4) (C := RX11) (Tf := TX11) (ty := .object "ClothForce$Sizes") tyX11 (by decide) rfl (by decide) inX11 tyX11_ok nmX11 (by decide +kernel) rfl rfl rfl rfl (Nat.le_of_ble_eq_true rfl) rfl dX11_init_34 rfl hj711 ?_
  exact kk
set_option maxHeartbeats 4000000 in
theorem id_3 (kk : ii_V x b im_X11 183 2899 post 48 [some (.ref (b + 0))] [] 54 1450 55 (ii_O 0 11 [.int 0, .int 0, .ref (b + 1), .ref (b + 16), .ref (b + 22), .ref (b + 50), .null, .null, .null, .null, .null, .null, .null, .null] (vc x b vv_TC h0C))) : ii_V x b im_X11 183 2899 post 37 [some (.ref (b + 0))] [] 49 481 50 (ii_O 0 11 [.int 0, .int 0, .ref (b + 1), .ref (b + 16), .ref (b + 22), .null, .null, .null, .null, .null, .null, .null, .null, .null] (vc x b vv_TC h0C)) := by
  refine ir_aload_n (q := 38) (v := b + 0) dX11_init_37 rfl rfl ?_
  refine ir_new (q := 41) (ci := 10) (N := 6) (C := RX10) (Tf := TX10) (fs := [.int 0, .int 0, .null, .null, .null, .null]) tyX10 rfl inX10 tyX10_ok (fun j hj => match j, hj with | 0, _ => rfl | 1, _ => rfl | 2, _ => rfl | 3, _ => rfl | 4, _ => rfl | 5, _ => rfl | j + 6, h => absurd h (by omega)) (by decide +kernel) (by decide +kernel) (by decide +kernel) ⟨Nat.le_of_ble_eq_true rfl, Nat.le_of_ble_eq_true rfl⟩ dX11_init_38 rfl ?_
  refine ir_dup (q := 42) dX11_init_41 rfl rfl ?_
  refine ir_callN (q := 45) (ik_X10_50 ii_up_eq) rfl ⟨by decide +kernel, by decide +kernel, by decide +kernel⟩ ⟨by decide +kernel, by decide +kernel, by decide +kernel⟩ rfl ⟨rfl, rfl⟩ rfl (by decide +kernel) ⟨Nat.le_of_ble_eq_true rfl, Nat.le_of_ble_eq_true rfl⟩ ⟨Nat.le_of_ble_eq_true rfl, Nat.le_of_ble_eq_true rfl⟩ (Nat.le_of_ble_eq_true rfl) dX11_init_42 rfl ?_
  rintro n1 g1 ⟨rfl, rfl⟩
  refine ir_ext _ (ix_X10_50 (fun a h => ii_O_ne (by omega))) ?_
  refine ir_putO (q := 48) (k := 0) (N := 14) (j := 5) (C := RX11) (Tf := TX11) (ty := .object "ClothForce$Tape") tyX11 (by decide) rfl (by decide) inX11 tyX11_ok nmX11 (by decide +kernel) rfl rfl rfl rfl (Nat.le_of_ble_eq_true rfl) rfl dX11_init_45 rfl hj711 ?_
  exact kk
set_option maxHeartbeats 4000000 in
theorem id_4 (kk : ii_V x b im_X11 183 2899 post 59 [some (.ref (b + 0))] [] 55 1454 56 (ii_O 0 11 [.int 0, .int 0, .ref (b + 1), .ref (b + 16), .ref (b + 22), .ref (b + 50), .ref (b + 55), .null, .null, .null, .null, .null, .null, .null] (vc x b vv_TC h0C))) : ii_V x b im_X11 183 2899 post 48 [some (.ref (b + 0))] [] 54 1450 55 (ii_O 0 11 [.int 0, .int 0, .ref (b + 1), .ref (b + 16), .ref (b + 22), .ref (b + 50), .null, .null, .null, .null, .null, .null, .null, .null] (vc x b vv_TC h0C)) := by
  refine ir_aload_n (q := 49) (v := b + 0) dX11_init_48 rfl rfl ?_
  refine ir_new (q := 52) (ci := 5) (N := 4) (C := RX5) (Tf := TX5) (fs := [.int 0, .int 0, .int 0, .int 0]) tyX5 rfl inX5 tyX5_ok (fun j hj => match j, hj with | 0, _ => rfl | 1, _ => rfl | 2, _ => rfl | 3, _ => rfl | j + 4, h => absurd h (by omega)) (by decide +kernel) (by decide +kernel) (by decide +kernel) ⟨Nat.le_of_ble_eq_true rfl, Nat.le_of_ble_eq_true rfl⟩ dX11_init_49 rfl ?_
  refine ir_dup (q := 53) dX11_init_52 rfl rfl ?_
  refine ir_callN (q := 56) (ik_X5_55) rfl ⟨by decide +kernel, by decide +kernel, by decide +kernel⟩ ⟨by decide +kernel, by decide +kernel, by decide +kernel⟩ rfl ⟨rfl, rfl⟩ rfl (by decide +kernel) ⟨Nat.le_of_ble_eq_true rfl, Nat.le_of_ble_eq_true rfl⟩ ⟨Nat.le_of_ble_eq_true rfl, Nat.le_of_ble_eq_true rfl⟩ (Nat.le_of_ble_eq_true rfl) dX11_init_53 rfl ?_
  rintro n1 g1 ⟨rfl, rfl⟩
  refine ir_ext _ (ix_X5_55 (fun a h => ii_O_ne (by omega))) ?_
  refine ir_putO (q := 59) (k := 0) (N := 14) (j := 6) (C := RX11) (Tf := TX11) (ty := .object "ClothForce$Reader") tyX11 (by decide) rfl (by decide) inX11 tyX11_ok nmX11 (by decide +kernel) rfl rfl rfl rfl (Nat.le_of_ble_eq_true rfl) rfl dX11_init_56 rfl hj711 ?_
  exact kk
set_option maxHeartbeats 4000000 in
theorem id_5 (kk : ii_V x b im_X11 183 2899 post 70 [some (.ref (b + 0))] [] 100 1667 101 (ii_O 0 11 [.int 0, .int 0, .ref (b + 1), .ref (b + 16), .ref (b + 22), .ref (b + 50), .ref (b + 55), .ref (b + 56), .null, .null, .null, .null, .null, .null] (vc x b vv_TC h0C))) : ii_V x b im_X11 183 2899 post 59 [some (.ref (b + 0))] [] 55 1454 56 (ii_O 0 11 [.int 0, .int 0, .ref (b + 1), .ref (b + 16), .ref (b + 22), .ref (b + 50), .ref (b + 55), .null, .null, .null, .null, .null, .null, .null] (vc x b vv_TC h0C)) := by
  refine ir_aload_n (q := 60) (v := b + 0) dX11_init_59 rfl rfl ?_
  refine ir_new (q := 63) (ci := 6) (N := 9) (C := RX6) (Tf := TX6) (fs := [.int 0, .null, .null, .null, .null, .null, .null, .null, .null]) tyX6 rfl inX6 tyX6_ok (fun j hj => match j, hj with | 0, _ => rfl | 1, _ => rfl | 2, _ => rfl | 3, _ => rfl | 4, _ => rfl | 5, _ => rfl | 6, _ => rfl | 7, _ => rfl | 8, _ => rfl | j + 9, h => absurd h (by omega)) (by decide +kernel) (by decide +kernel) (by decide +kernel) ⟨Nat.le_of_ble_eq_true rfl, Nat.le_of_ble_eq_true rfl⟩ dX11_init_60 rfl ?_
  refine ir_dup (q := 64) dX11_init_63 rfl rfl ?_
  refine ir_callN (q := 67) (ik_X6_56 ii_up_eq) rfl ⟨by decide +kernel, by decide +kernel, by decide +kernel⟩ ⟨by decide +kernel, by decide +kernel, by decide +kernel⟩ rfl ⟨rfl, rfl⟩ rfl (by decide +kernel) ⟨Nat.le_of_ble_eq_true rfl, Nat.le_of_ble_eq_true rfl⟩ ⟨Nat.le_of_ble_eq_true rfl, Nat.le_of_ble_eq_true rfl⟩ (Nat.le_of_ble_eq_true rfl) dX11_init_64 rfl ?_
  rintro n1 g1 ⟨rfl, rfl⟩
  refine ir_ext _ (ix_X6_56 (fun a h => ii_O_ne (by omega))) ?_
  refine ir_putO (q := 70) (k := 0) (N := 14) (j := 7) (C := RX11) (Tf := TX11) (ty := .object "ClothForce$Rules") tyX11 (by decide) rfl (by decide) inX11 tyX11_ok nmX11 (by decide +kernel) rfl rfl rfl rfl (Nat.le_of_ble_eq_true rfl) rfl dX11_init_67 rfl hj711 ?_
  exact kk
set_option maxHeartbeats 4000000 in
theorem id_6 (kk : ii_V x b im_X11 183 2899 post 81 [some (.ref (b + 0))] [] 145 1880 146 (ii_O 0 11 [.int 0, .int 0, .ref (b + 1), .ref (b + 16), .ref (b + 22), .ref (b + 50), .ref (b + 55), .ref (b + 56), .ref (b + 101), .null, .null, .null, .null, .null] (vc x b vv_TC h0C))) : ii_V x b im_X11 183 2899 post 70 [some (.ref (b + 0))] [] 100 1667 101 (ii_O 0 11 [.int 0, .int 0, .ref (b + 1), .ref (b + 16), .ref (b + 22), .ref (b + 50), .ref (b + 55), .ref (b + 56), .null, .null, .null, .null, .null, .null] (vc x b vv_TC h0C)) := by
  refine ir_aload_n (q := 71) (v := b + 0) dX11_init_70 rfl rfl ?_
  refine ir_new (q := 74) (ci := 6) (N := 9) (C := RX6) (Tf := TX6) (fs := [.int 0, .null, .null, .null, .null, .null, .null, .null, .null]) tyX6 rfl inX6 tyX6_ok (fun j hj => match j, hj with | 0, _ => rfl | 1, _ => rfl | 2, _ => rfl | 3, _ => rfl | 4, _ => rfl | 5, _ => rfl | 6, _ => rfl | 7, _ => rfl | 8, _ => rfl | j + 9, h => absurd h (by omega)) (by decide +kernel) (by decide +kernel) (by decide +kernel) ⟨Nat.le_of_ble_eq_true rfl, Nat.le_of_ble_eq_true rfl⟩ dX11_init_71 rfl ?_
  refine ir_dup (q := 75) dX11_init_74 rfl rfl ?_
  refine ir_callN (q := 78) (ik_X6_101 ii_up_eq) rfl ⟨by decide +kernel, by decide +kernel, by decide +kernel⟩ ⟨by decide +kernel, by decide +kernel, by decide +kernel⟩ rfl ⟨rfl, rfl⟩ rfl (by decide +kernel) ⟨Nat.le_of_ble_eq_true rfl, Nat.le_of_ble_eq_true rfl⟩ ⟨Nat.le_of_ble_eq_true rfl, Nat.le_of_ble_eq_true rfl⟩ (Nat.le_of_ble_eq_true rfl) dX11_init_75 rfl ?_
  rintro n1 g1 ⟨rfl, rfl⟩
  refine ir_ext _ (ix_X6_101 (fun a h => ii_O_ne (by omega))) ?_
  refine ir_putO (q := 81) (k := 0) (N := 14) (j := 8) (C := RX11) (Tf := TX11) (ty := .object "ClothForce$Rules") tyX11 (by decide) rfl (by decide) inX11 tyX11_ok nmX11 (by decide +kernel) rfl rfl rfl rfl (Nat.le_of_ble_eq_true rfl) rfl dX11_init_78 rfl hj711 ?_
  exact kk
set_option maxHeartbeats 4000000 in
theorem id_7 (kk : ii_V x b im_X11 183 2899 post 92 [some (.ref (b + 0))] [] 155 1947 156 (ii_O 0 11 [.int 0, .int 0, .ref (b + 1), .ref (b + 16), .ref (b + 22), .ref (b + 50), .ref (b + 55), .ref (b + 56), .ref (b + 101), .ref (b + 146), .null, .null, .null, .null] (vc x b vv_TC h0C))) : ii_V x b im_X11 183 2899 post 81 [some (.ref (b + 0))] [] 145 1880 146 (ii_O 0 11 [.int 0, .int 0, .ref (b + 1), .ref (b + 16), .ref (b + 22), .ref (b + 50), .ref (b + 55), .ref (b + 56), .ref (b + 101), .null, .null, .null, .null, .null] (vc x b vv_TC h0C)) := by
  refine ir_aload_n (q := 82) (v := b + 0) dX11_init_81 rfl rfl ?_
  refine ir_new (q := 85) (ci := 9) (N := 7) (C := RX9) (Tf := TX9) (fs := [.int 0, .int 0, .null, .null, .null, .null, .null]) tyX9 rfl inX9 tyX9_ok (fun j hj => match j, hj with | 0, _ => rfl | 1, _ => rfl | 2, _ => rfl | 3, _ => rfl | 4, _ => rfl | 5, _ => rfl | 6, _ => rfl | j + 7, h => absurd h (by omega)) (by decide +kernel) (by decide +kernel) (by decide +kernel) ⟨Nat.le_of_ble_eq_true rfl, Nat.le_of_ble_eq_true rfl⟩ dX11_init_82 rfl ?_
  refine ir_dup (q := 86) dX11_init_85 rfl rfl ?_
  refine ir_call (q := 89) (ik_X9_146 ii_up_eq) rfl ⟨by decide +kernel, by decide +kernel, by decide +kernel⟩ ⟨by decide +kernel, by decide +kernel, by decide +kernel⟩ rfl ⟨rfl, rfl⟩ (by decide +kernel) ⟨Nat.le_of_ble_eq_true rfl, Nat.le_of_ble_eq_true rfl⟩ ⟨Nat.le_of_ble_eq_true rfl, Nat.le_of_ble_eq_true rfl⟩ (Nat.le_of_ble_eq_true rfl) dX11_init_86 rfl ?_
  rintro n1 g1 ⟨rfl, rfl⟩
  refine ir_ext _ (ix_X9_146 (fun a h => ii_O_ne (by omega))) ?_
  refine ir_putO (q := 92) (k := 0) (N := 14) (j := 9) (C := RX11) (Tf := TX11) (ty := .object "ClothForce$Stores") tyX11 (by decide) rfl (by decide) inX11 tyX11_ok nmX11 (by decide +kernel) rfl rfl rfl rfl (Nat.le_of_ble_eq_true rfl) rfl dX11_init_89 rfl hj711 ?_
  exact kk
set_option maxHeartbeats 4000000 in
theorem id_8 (kk : ii_V x b im_X11 183 2899 post 103 [some (.ref (b + 0))] [] 166 2318 167 (ii_O 0 11 [.int 0, .int 0, .ref (b + 1), .ref (b + 16), .ref (b + 22), .ref (b + 50), .ref (b + 55), .ref (b + 56), .ref (b + 101), .ref (b + 146), .ref (b + 156), .null, .null, .null] (vc x b vv_TC h0C))) : ii_V x b im_X11 183 2899 post 92 [some (.ref (b + 0))] [] 155 1947 156 (ii_O 0 11 [.int 0, .int 0, .ref (b + 1), .ref (b + 16), .ref (b + 22), .ref (b + 50), .ref (b + 55), .ref (b + 56), .ref (b + 101), .ref (b + 146), .null, .null, .null, .null] (vc x b vv_TC h0C)) := by
  refine ir_aload_n (q := 93) (v := b + 0) dX11_init_92 rfl rfl ?_
  refine ir_new (q := 96) (ci := 4) (N := 11) (C := RX4) (Tf := TX4) (fs := [.int 0, .null, .null, .null, .null, .null, .null, .null, .null, .null, .null]) tyX4 rfl inX4 tyX4_ok (fun j hj => match j, hj with | 0, _ => rfl | 1, _ => rfl | 2, _ => rfl | 3, _ => rfl | 4, _ => rfl | 5, _ => rfl | 6, _ => rfl | 7, _ => rfl | 8, _ => rfl | 9, _ => rfl | 10, _ => rfl | j + 11, h => absurd h (by omega)) (by decide +kernel) (by decide +kernel) (by decide +kernel) ⟨Nat.le_of_ble_eq_true rfl, Nat.le_of_ble_eq_true rfl⟩ dX11_init_93 rfl ?_
  refine ir_dup (q := 97) dX11_init_96 rfl rfl ?_
  refine ir_callN (q := 100) (ik_X4_156 ii_up_eq) rfl ⟨by decide +kernel, by decide +kernel, by decide +kernel⟩ ⟨by decide +kernel, by decide +kernel, by decide +kernel⟩ rfl ⟨rfl, rfl⟩ rfl (by decide +kernel) ⟨Nat.le_of_ble_eq_true rfl, Nat.le_of_ble_eq_true rfl⟩ ⟨Nat.le_of_ble_eq_true rfl, Nat.le_of_ble_eq_true rfl⟩ (Nat.le_of_ble_eq_true rfl) dX11_init_97 rfl ?_
  rintro n1 g1 ⟨rfl, rfl⟩
  refine ir_ext _ (ix_X4_156 (fun a h => ii_O_ne (by omega))) ?_
  refine ir_putO (q := 103) (k := 0) (N := 14) (j := 10) (C := RX11) (Tf := TX11) (ty := .object "ClothForce$Pieces") tyX11 (by decide) rfl (by decide) inX11 tyX11_ok nmX11 (by decide +kernel) rfl rfl rfl rfl (Nat.le_of_ble_eq_true rfl) rfl dX11_init_100 rfl hj711 ?_
  exact kk
set_option maxHeartbeats 4000000 in
theorem id_9 (kk : ii_V x b im_X11 183 2899 post 114 [some (.ref (b + 0))] [] 169 2343 170 (ii_O 0 11 [.int 0, .int 0, .ref (b + 1), .ref (b + 16), .ref (b + 22), .ref (b + 50), .ref (b + 55), .ref (b + 56), .ref (b + 101), .ref (b + 146), .ref (b + 156), .ref (b + 167), .null, .null] (vc x b vv_TC h0C))) : ii_V x b im_X11 183 2899 post 103 [some (.ref (b + 0))] [] 166 2318 167 (ii_O 0 11 [.int 0, .int 0, .ref (b + 1), .ref (b + 16), .ref (b + 22), .ref (b + 50), .ref (b + 55), .ref (b + 56), .ref (b + 101), .ref (b + 146), .ref (b + 156), .null, .null, .null] (vc x b vv_TC h0C)) := by
  refine ir_aload_n (q := 104) (v := b + 0) dX11_init_103 rfl rfl ?_
  refine ir_new (q := 107) (ci := 1) (N := 5) (C := RX1) (Tf := TX1) (fs := [.int 0, .int 0, .int 0, .null, .null]) tyX1 rfl inX1 tyX1_ok (fun j hj => match j, hj with | 0, _ => rfl | 1, _ => rfl | 2, _ => rfl | 3, _ => rfl | 4, _ => rfl | j + 5, h => absurd h (by omega)) (by decide +kernel) (by decide +kernel) (by decide +kernel) ⟨Nat.le_of_ble_eq_true rfl, Nat.le_of_ble_eq_true rfl⟩ dX11_init_104 rfl ?_
  refine ir_dup (q := 108) dX11_init_107 rfl rfl ?_
  refine ir_callN (q := 111) (ik_X1_167 ii_up_eq) rfl ⟨by decide +kernel, by decide +kernel, by decide +kernel⟩ ⟨by decide +kernel, by decide +kernel, by decide +kernel⟩ rfl ⟨rfl, rfl⟩ rfl (by decide +kernel) ⟨Nat.le_of_ble_eq_true rfl, Nat.le_of_ble_eq_true rfl⟩ ⟨Nat.le_of_ble_eq_true rfl, Nat.le_of_ble_eq_true rfl⟩ (Nat.le_of_ble_eq_true rfl) dX11_init_108 rfl ?_
  rintro n1 g1 ⟨rfl, rfl⟩
  refine ir_ext _ (ix_X1_167 (fun a h => ii_O_ne (by omega))) ?_
  refine ir_putO (q := 114) (k := 0) (N := 14) (j := 11) (C := RX11) (Tf := TX11) (ty := .object "ClothForce$Choice") tyX11 (by decide) rfl (by decide) inX11 tyX11_ok nmX11 (by decide +kernel) rfl rfl rfl rfl (Nat.le_of_ble_eq_true rfl) rfl dX11_init_111 rfl hj711 ?_
  exact kk
set_option maxHeartbeats 4000000 in
theorem id_10 (kk : ii_V x b im_X11 183 2899 post 125 [some (.ref (b + 0))] [] 175 2644 176 (ii_O 0 11 [.int 0, .int 0, .ref (b + 1), .ref (b + 16), .ref (b + 22), .ref (b + 50), .ref (b + 55), .ref (b + 56), .ref (b + 101), .ref (b + 146), .ref (b + 156), .ref (b + 167), .ref (b + 170), .null] (vc x b vv_TC h0C))) : ii_V x b im_X11 183 2899 post 114 [some (.ref (b + 0))] [] 169 2343 170 (ii_O 0 11 [.int 0, .int 0, .ref (b + 1), .ref (b + 16), .ref (b + 22), .ref (b + 50), .ref (b + 55), .ref (b + 56), .ref (b + 101), .ref (b + 146), .ref (b + 156), .ref (b + 167), .null, .null] (vc x b vv_TC h0C)) := by
  refine ir_aload_n (q := 115) (v := b + 0) dX11_init_114 rfl rfl ?_
  refine ir_new (q := 118) (ci := 3) (N := 9) (C := RX3) (Tf := TX3) (fs := [.int 0, .int 0, .int 0, .long 0, .null, .null, .null, .null, .null]) tyX3 rfl inX3 tyX3_ok (fun j hj => match j, hj with | 0, _ => rfl | 1, _ => rfl | 2, _ => rfl | 3, _ => rfl | 4, _ => rfl | 5, _ => rfl | 6, _ => rfl | 7, _ => rfl | 8, _ => rfl | j + 9, h => absurd h (by omega)) (by decide +kernel) (by decide +kernel) (by decide +kernel) ⟨Nat.le_of_ble_eq_true rfl, Nat.le_of_ble_eq_true rfl⟩ dX11_init_115 rfl ?_
  refine ir_dup (q := 119) dX11_init_118 rfl rfl ?_
  refine ir_callN (q := 122) (ik_X3_170 ii_up_eq) rfl ⟨by decide +kernel, by decide +kernel, by decide +kernel⟩ ⟨by decide +kernel, by decide +kernel, by decide +kernel⟩ rfl ⟨rfl, rfl⟩ rfl (by decide +kernel) ⟨Nat.le_of_ble_eq_true rfl, Nat.le_of_ble_eq_true rfl⟩ ⟨Nat.le_of_ble_eq_true rfl, Nat.le_of_ble_eq_true rfl⟩ (Nat.le_of_ble_eq_true rfl) dX11_init_119 rfl ?_
  rintro n1 g1 ⟨rfl, rfl⟩
  refine ir_ext _ (ix_X3_170 (fun a h => ii_O_ne (by omega))) ?_
  refine ir_putO (q := 125) (k := 0) (N := 14) (j := 12) (C := RX11) (Tf := TX11) (ty := .object "ClothForce$Parade") tyX11 (by decide) rfl (by decide) inX11 tyX11_ok nmX11 (by decide +kernel) rfl rfl rfl rfl (Nat.le_of_ble_eq_true rfl) rfl dX11_init_122 rfl hj711 ?_
  exact kk
set_option maxHeartbeats 4000000 in
theorem id_11 (kk : ii_V x b im_X11 183 2899 post 136 [some (.ref (b + 0))] [] 183 2899 184 (ii_O 0 11 [.int 0, .int 0, .ref (b + 1), .ref (b + 16), .ref (b + 22), .ref (b + 50), .ref (b + 55), .ref (b + 56), .ref (b + 101), .ref (b + 146), .ref (b + 156), .ref (b + 167), .ref (b + 170), .ref (b + 176)] (vc x b vv_TC h0C))) : ii_V x b im_X11 183 2899 post 125 [some (.ref (b + 0))] [] 175 2644 176 (ii_O 0 11 [.int 0, .int 0, .ref (b + 1), .ref (b + 16), .ref (b + 22), .ref (b + 50), .ref (b + 55), .ref (b + 56), .ref (b + 101), .ref (b + 146), .ref (b + 156), .ref (b + 167), .ref (b + 170), .null] (vc x b vv_TC h0C)) := by
  refine ir_aload_n (q := 126) (v := b + 0) dX11_init_125 rfl rfl ?_
  refine ir_new (q := 129) (ci := 7) (N := 3) (C := RX7) (Tf := TX7) (fs := [.null, .null, .null]) tyX7 rfl inX7 tyX7_ok (fun j hj => match j, hj with | 0, _ => rfl | 1, _ => rfl | 2, _ => rfl | j + 3, h => absurd h (by omega)) (by decide +kernel) (by decide +kernel) (by decide +kernel) ⟨Nat.le_of_ble_eq_true rfl, Nat.le_of_ble_eq_true rfl⟩ dX11_init_126 rfl ?_
  refine ir_dup (q := 130) dX11_init_129 rfl rfl ?_
  refine ir_call (q := 133) (ik_X7_176 ii_up_eq) rfl ⟨by decide +kernel, by decide +kernel, by decide +kernel⟩ ⟨by decide +kernel, by decide +kernel, by decide +kernel⟩ rfl ⟨rfl, rfl⟩ (by decide +kernel) ⟨Nat.le_of_ble_eq_true rfl, Nat.le_of_ble_eq_true rfl⟩ ⟨Nat.le_of_ble_eq_true rfl, Nat.le_of_ble_eq_true rfl⟩ (Nat.le_of_ble_eq_true rfl) dX11_init_130 rfl ?_
  rintro n1 g1 ⟨rfl, rfl⟩
  refine ir_ext _ (ix_X7_176 (fun a h => ii_O_ne (by omega))) ?_
  refine ir_putO (q := 136) (k := 0) (N := 14) (j := 13) (C := RX11) (Tf := TX11) (ty := .object "ClothForce$Sheets") tyX11 (by decide) rfl (by decide) inX11 tyX11_ok nmX11 (by decide +kernel) rfl rfl rfl rfl (Nat.le_of_ble_eq_true rfl) rfl dX11_init_133 rfl hj711 ?_
  exact kk
end CCC
set_option maxHeartbeats 4000000 in
theorem ik_X11 {x : vv_E} {b : Nat} : ii_C x b yX11_init im_X11 183 2899 [.ref (b + 0)] 1 (ii_O 0 11 [.int 0, .int 0, .null, .null, .null, .null, .null, .null, .null, .null, .null, .null, .null, .null] (vc x b vv_TC h0C)) (fun n1 g1 => n1 = 184 ∧ g1 = vc x b vv_TC h0C) := by
  refine ii_entry (by decide +kernel) rfl rfl (Nat.le_of_ble_eq_true rfl) rfl ?_
  refine id_0 ?_
  refine id_1 ?_
  refine id_2 ?_
  refine id_3 ?_
  refine id_4 ?_
  refine id_5 ?_
  refine id_6 ?_
  refine id_7 ?_
  refine id_8 ?_
  refine id_9 ?_
  refine id_10 ?_
  refine id_11 ?_
  exact ir_vret dX11_init_136 rfl ⟨rfl, ii_up_id rfl⟩
