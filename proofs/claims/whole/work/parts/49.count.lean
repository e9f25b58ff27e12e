theorem bc_0 : ∀ x, x < 256 → ff_J6_bitCount_0f7a4 (nI (0 + x)) = some (nI (pcn (0 + x))) := by decide +kernel
theorem bc_1 : ∀ x, x < 256 → ff_J6_bitCount_0f7a4 (nI (256 + x)) = some (nI (pcn (256 + x))) := by decide +kernel
theorem bc_2 : ∀ x, x < 256 → ff_J6_bitCount_0f7a4 (nI (512 + x)) = some (nI (pcn (512 + x))) := by decide +kernel
theorem bc_3 : ∀ x, x < 256 → ff_J6_bitCount_0f7a4 (nI (768 + x)) = some (nI (pcn (768 + x))) := by decide +kernel
theorem bc_4 : ∀ x, x < 256 → ff_J6_bitCount_0f7a4 (nI (1024 + x)) = some (nI (pcn (1024 + x))) := by decide +kernel
theorem bc_5 : ∀ x, x < 256 → ff_J6_bitCount_0f7a4 (nI (1280 + x)) = some (nI (pcn (1280 + x))) := by decide +kernel
theorem bc_6 : ∀ x, x < 256 → ff_J6_bitCount_0f7a4 (nI (1536 + x)) = some (nI (pcn (1536 + x))) := by decide +kernel
theorem bc_7 : ∀ x, x < 256 → ff_J6_bitCount_0f7a4 (nI (1792 + x)) = some (nI (pcn (1792 + x))) := by decide +kernel
theorem bc_8 : ∀ x, x < 256 → ff_J6_bitCount_0f7a4 (nI (2048 + x)) = some (nI (pcn (2048 + x))) := by decide +kernel
theorem bc_9 : ∀ x, x < 256 → ff_J6_bitCount_0f7a4 (nI (2304 + x)) = some (nI (pcn (2304 + x))) := by decide +kernel
theorem bc_10 : ∀ x, x < 256 → ff_J6_bitCount_0f7a4 (nI (2560 + x)) = some (nI (pcn (2560 + x))) := by decide +kernel
theorem bc_11 : ∀ x, x < 256 → ff_J6_bitCount_0f7a4 (nI (2816 + x)) = some (nI (pcn (2816 + x))) := by decide +kernel
theorem bc_12 : ∀ x, x < 256 → ff_J6_bitCount_0f7a4 (nI (3072 + x)) = some (nI (pcn (3072 + x))) := by decide +kernel
theorem bc_13 : ∀ x, x < 256 → ff_J6_bitCount_0f7a4 (nI (3328 + x)) = some (nI (pcn (3328 + x))) := by decide +kernel
theorem bc_14 : ∀ x, x < 256 → ff_J6_bitCount_0f7a4 (nI (3584 + x)) = some (nI (pcn (3584 + x))) := by decide +kernel
theorem bc_15 : ∀ x, x < 256 → ff_J6_bitCount_0f7a4 (nI (3840 + x)) = some (nI (pcn (3840 + x))) := by decide +kernel
theorem bc_c {x : Nat} (h : x < 4096) : ff_J6_bitCount_0f7a4 (nI x) = some (nI (pcn x)) := by
  obtain ⟨q, y, hq, hy, rfl⟩ : ∃ q y, q < 16 ∧ y < 256 ∧ x = 256 * q + y := ⟨x / 256, x % 256, by omega, by omega, by omega⟩
  have hc : q = 0 ∨ q = 1 ∨ q = 2 ∨ q = 3 ∨ q = 4 ∨ q = 5 ∨ q = 6 ∨ q = 7 ∨ q = 8 ∨ q = 9 ∨ q = 10 ∨ q = 11 ∨ q = 12 ∨ q = 13 ∨ q = 14 ∨ q = 15 := by omega
  rcases hc with rfl | rfl | rfl | rfl | rfl | rfl | rfl | rfl | rfl | rfl | rfl | rfl | rfl | rfl | rfl | rfl
  · exact bc_0 y hy
  · exact bc_1 y hy
  · exact bc_2 y hy
  · exact bc_3 y hy
  · exact bc_4 y hy
  · exact bc_5 y hy
  · exact bc_6 y hy
  · exact bc_7 y hy
  · exact bc_8 y hy
  · exact bc_9 y hy
  · exact bc_10 y hy
  · exact bc_11 y hy
  · exact bc_12 y hy
  · exact bc_13 y hy
  · exact bc_14 y hy
  · exact bc_15 y hy
