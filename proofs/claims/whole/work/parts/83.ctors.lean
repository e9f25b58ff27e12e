theorem dX1_init_0 : decode cX1_init 0 = .ok (.aload_n 0, 1) := by decide +kernel
theorem dX1_init_1 : decode cX1_init 1 = .ok (.invokespecial 3, 3) := by decide +kernel
theorem dX1_init_4 : decode cX1_init 4 = .ok (.aload_n 0, 1) := by decide +kernel
theorem dX1_init_5 : decode cX1_init 5 = .ok (.bipush 10, 2) := by decide +kernel
theorem dX1_init_7 : decode cX1_init 7 = .ok (.newarray .int, 2) := by decide +kernel
theorem dX1_init_9 : decode cX1_init 9 = .ok (.putfield 9, 3) := by decide +kernel
theorem dX1_init_12 : decode cX1_init 12 = .ok (.aload_n 0, 1) := by decide +kernel
theorem dX1_init_13 : decode cX1_init 13 = .ok (.bipush 10, 2) := by decide +kernel
theorem dX1_init_15 : decode cX1_init 15 = .ok (.newarray .int, 2) := by decide +kernel
theorem dX1_init_17 : decode cX1_init 17 = .ok (.putfield 15, 3) := by decide +kernel
theorem dX1_init_20 : decode cX1_init 20 = .ok (.return_, 1) := by decide +kernel
theorem dX5_init_0 : decode cX5_init 0 = .ok (.aload_n 0, 1) := by decide +kernel
theorem dX5_init_1 : decode cX5_init 1 = .ok (.invokespecial 3, 3) := by decide +kernel
theorem dX5_init_4 : decode cX5_init 4 = .ok (.return_, 1) := by decide +kernel
def ik_rm (d mc ms : Nat) : Room := { frames := d, cells := mc, slots := ms, locals := 64 * d }
abbrev im_X1 : vv_M := (cX1_init, 1, RX1, none, ik_rm 1 2 20)
abbrev im_X5 : vv_M := (cX5_init, 1, RX5, none, ik_rm 1 0 0)
set_option maxRecDepth 4000 in
theorem ik_X5 {x : vv_E} {b : Nat} {g : ii_G} : ii_C x b yX5_init im_X5 0 0 [.ref (b + 55)] 56 g (fun n1 g1 => n1 = 56 ∧ g1 = g) := by
  refine ii_entry (by decide +kernel) rfl rfl (Nat.le_of_ble_eq_true rfl) rfl ?_
  refine ir_aload_n (q := 1) (v := b + 55) dX5_init_0 rfl rfl ?_
  refine ir_obj (q := 4) (by decide +kernel) iw_0 iw_1 ⟨Nat.le_of_ble_eq_true rfl, Nat.le_of_ble_eq_true rfl⟩ dX5_init_1 rfl ?_
  exact ir_vret dX5_init_4 rfl ⟨rfl, rfl⟩
theorem ik_X1 {x : vv_E} {b : Nat} {g : ii_G} (h0 : g 167 = .inr (1, [.int 0, .int 0, .int 0, .null, .null])) : ii_C x b yX1_init im_X1 2 20 [.ref (b + 167)] 168 g (fun n1 g1 => n1 = 170 ∧ (∀ a, a < 167 → g1 a = g a) ∧ g1 167 = .inr (1, [.int 0, .int 0, .int 0, .ref (b + 168), .ref (b + 169)]) ∧ g1 168 = ii_arr x 0 10 ∧ g1 169 = ii_arr x 0 10) := by
  refine ii_entry (by decide +kernel) rfl rfl (Nat.le_of_ble_eq_true rfl) rfl ?_
  refine ir_aload_n (q := 1) (v := b + 167) dX1_init_0 rfl rfl ?_
  refine ir_obj (q := 4) (by decide +kernel) iw_0 iw_1 ⟨Nat.le_of_ble_eq_true rfl, Nat.le_of_ble_eq_true rfl⟩ dX1_init_1 rfl ?_
  refine ir_aload_n (q := 5) (v := b + 167) dX1_init_4 rfl rfl ?_
  refine ir_bipush (q := 7) (v := 10) dX1_init_5 rfl (by decide) ?_
  refine ir_newa (q := 9) (ty := .int) 0 (N := 10) rfl rfl (fun cA => rfl) (fun U cA h => h) iw_2 (by decide) (by decide) (by decide) ⟨Nat.le_of_ble_eq_true rfl, Nat.le_of_ble_eq_true rfl⟩ dX1_init_7 rfl ?_
  refine ir_putr (q := 12) (k := 167) (N := 5) (j := 3) (C := RX1) (Tf := TX1) (ty := .array .int) tyX1 (by decide) ((ii_up_ne (by decide)).trans h0) rfl (by decide) inX1 tyX1_ok nmX1 (by decide +kernel) rfl rfl rfl rfl (Nat.le_of_ble_eq_true rfl) dX1_init_9 rfl ?_
  refine ir_aload_n (q := 13) (v := b + 167) dX1_init_12 rfl rfl ?_
  refine ir_bipush (q := 15) (v := 10) dX1_init_13 rfl (by decide) ?_
  refine ir_newa (q := 17) (ty := .int) 0 (N := 10) rfl rfl (fun cA => rfl) (fun U cA h => h) iw_2 (by decide) (by decide) (by decide) ⟨Nat.le_of_ble_eq_true rfl, Nat.le_of_ble_eq_true rfl⟩ dX1_init_15 rfl ?_
  refine ir_putr (q := 20) (k := 167) (N := 5) (j := 4) (C := RX1) (Tf := TX1) (ty := .array .int) tyX1 (by decide) ((ii_up_ne (by decide)).trans ii_up_eq) rfl (by decide) inX1 tyX1_ok nmX1 (by decide +kernel) rfl rfl rfl rfl (Nat.le_of_ble_eq_true rfl) dX1_init_17 rfl ?_
  refine ir_vret dX1_init_20 rfl ⟨rfl, fun a ha => ?_, ii_up_eq, ?_, ?_⟩
  · rw [ii_up_ne (by omega), ii_up_ne (by omega), ii_up_ne (by omega), ii_up_ne (by omega)]
  · rw [ii_up_ne (by omega), ii_up_ne (by omega), ii_up_ne (by omega), ii_up_eq]
  · rw [ii_up_ne (by omega), ii_up_eq]
