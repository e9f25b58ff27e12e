theorem dX0_init_0 : decode cX0_init 0 = .ok (.aload_n 0, 1) := by decide +kernel
theorem dX0_init_1 : decode cX0_init 1 = .ok (.invokespecial 3, 3) := by decide +kernel
theorem dX0_init_4 : decode cX0_init 4 = .ok (.aload_n 0, 1) := by decide +kernel
theorem dX0_init_5 : decode cX0_init 5 = .ok (.bipush 12, 2) := by decide +kernel
theorem dX0_init_7 : decode cX0_init 7 = .ok (.iconst 3, 1) := by decide +kernel
theorem dX0_init_8 : decode cX0_init 8 = .ok (.multianewarray 9 2, 4) := by decide +kernel
theorem dX0_init_12 : decode cX0_init 12 = .ok (.putfield 11, 3) := by decide +kernel
theorem dX0_init_15 : decode cX0_init 15 = .ok (.aload_n 0, 1) := by decide +kernel
theorem dX0_init_16 : decode cX0_init 16 = .ok (.bipush 12, 2) := by decide +kernel
theorem dX0_init_18 : decode cX0_init 18 = .ok (.newarray .int, 2) := by decide +kernel
theorem dX0_init_20 : decode cX0_init 20 = .ok (.putfield 16, 3) := by decide +kernel
theorem dX0_init_23 : decode cX0_init 23 = .ok (.return_, 1) := by decide +kernel
theorem dX2_init_0 : decode cX2_init 0 = .ok (.aload_n 0, 1) := by decide +kernel
theorem dX2_init_1 : decode cX2_init 1 = .ok (.invokespecial 3, 3) := by decide +kernel
theorem dX2_init_4 : decode cX2_init 4 = .ok (.aload_n 0, 1) := by decide +kernel
theorem dX2_init_5 : decode cX2_init 5 = .ok (.bipush 60, 2) := by decide +kernel
theorem dX2_init_7 : decode cX2_init 7 = .ok (.newarray .int, 2) := by decide +kernel
theorem dX2_init_9 : decode cX2_init 9 = .ok (.putfield 9, 3) := by decide +kernel
theorem dX2_init_12 : decode cX2_init 12 = .ok (.aload_n 0, 1) := by decide +kernel
theorem dX2_init_13 : decode cX2_init 13 = .ok (.bipush 60, 2) := by decide +kernel
theorem dX2_init_15 : decode cX2_init 15 = .ok (.newarray .int, 2) := by decide +kernel
theorem dX2_init_17 : decode cX2_init 17 = .ok (.putfield 15, 3) := by decide +kernel
theorem dX2_init_20 : decode cX2_init 20 = .ok (.aload_n 0, 1) := by decide +kernel
theorem dX2_init_21 : decode cX2_init 21 = .ok (.bipush 60, 2) := by decide +kernel
theorem dX2_init_23 : decode cX2_init 23 = .ok (.newarray .int, 2) := by decide +kernel
theorem dX2_init_25 : decode cX2_init 25 = .ok (.putfield 18, 3) := by decide +kernel
theorem dX2_init_28 : decode cX2_init 28 = .ok (.aload_n 0, 1) := by decide +kernel
theorem dX2_init_29 : decode cX2_init 29 = .ok (.bipush 60, 2) := by decide +kernel
theorem dX2_init_31 : decode cX2_init 31 = .ok (.newarray .int, 2) := by decide +kernel
theorem dX2_init_33 : decode cX2_init 33 = .ok (.putfield 21, 3) := by decide +kernel
theorem dX2_init_36 : decode cX2_init 36 = .ok (.aload_n 0, 1) := by decide +kernel
theorem dX2_init_37 : decode cX2_init 37 = .ok (.bipush 60, 2) := by decide +kernel
theorem dX2_init_39 : decode cX2_init 39 = .ok (.newarray .int, 2) := by decide +kernel
theorem dX2_init_41 : decode cX2_init 41 = .ok (.putfield 24, 3) := by decide +kernel
theorem dX2_init_44 : decode cX2_init 44 = .ok (.return_, 1) := by decide +kernel
theorem dX8_init_0 : decode cX8_init 0 = .ok (.aload_n 0, 1) := by decide +kernel
theorem dX8_init_1 : decode cX8_init 1 = .ok (.invokespecial 3, 3) := by decide +kernel
theorem dX8_init_4 : decode cX8_init 4 = .ok (.aload_n 0, 1) := by decide +kernel
theorem dX8_init_5 : decode cX8_init 5 = .ok (.bipush 12, 2) := by decide +kernel
theorem dX8_init_7 : decode cX8_init 7 = .ok (.newarray .int, 2) := by decide +kernel
theorem dX8_init_9 : decode cX8_init 9 = .ok (.putfield 9, 3) := by decide +kernel
theorem dX8_init_12 : decode cX8_init 12 = .ok (.aload_n 0, 1) := by decide +kernel
theorem dX8_init_13 : decode cX8_init 13 = .ok (.bipush 12, 2) := by decide +kernel
theorem dX8_init_15 : decode cX8_init 15 = .ok (.iconst 3, 1) := by decide +kernel
theorem dX8_init_16 : decode cX8_init 16 = .ok (.multianewarray 15 2, 4) := by decide +kernel
theorem dX8_init_20 : decode cX8_init 20 = .ok (.putfield 17, 3) := by decide +kernel
theorem dX8_init_23 : decode cX8_init 23 = .ok (.aload_n 0, 1) := by decide +kernel
theorem dX8_init_24 : decode cX8_init 24 = .ok (.bipush 12, 2) := by decide +kernel
theorem dX8_init_26 : decode cX8_init 26 = .ok (.iconst 3, 1) := by decide +kernel
theorem dX8_init_27 : decode cX8_init 27 = .ok (.multianewarray 15 2, 4) := by decide +kernel
theorem dX8_init_31 : decode cX8_init 31 = .ok (.putfield 20, 3) := by decide +kernel
theorem dX8_init_34 : decode cX8_init 34 = .ok (.return_, 1) := by decide +kernel
theorem dX10_init_0 : decode cX10_init 0 = .ok (.aload_n 0, 1) := by decide +kernel
theorem dX10_init_1 : decode cX10_init 1 = .ok (.invokespecial 3, 3) := by decide +kernel
theorem dX10_init_4 : decode cX10_init 4 = .ok (.aload_n 0, 1) := by decide +kernel
theorem dX10_init_5 : decode cX10_init 5 = .ok (.sipush 240, 3) := by decide +kernel
theorem dX10_init_8 : decode cX10_init 8 = .ok (.newarray .byte, 2) := by decide +kernel
theorem dX10_init_10 : decode cX10_init 10 = .ok (.putfield 9, 3) := by decide +kernel
theorem dX10_init_13 : decode cX10_init 13 = .ok (.aload_n 0, 1) := by decide +kernel
theorem dX10_init_14 : decode cX10_init 14 = .ok (.sipush 241, 3) := by decide +kernel
theorem dX10_init_17 : decode cX10_init 17 = .ok (.newarray .int, 2) := by decide +kernel
theorem dX10_init_19 : decode cX10_init 19 = .ok (.putfield 15, 3) := by decide +kernel
theorem dX10_init_22 : decode cX10_init 22 = .ok (.aload_n 0, 1) := by decide +kernel
theorem dX10_init_23 : decode cX10_init 23 = .ok (.sipush 241, 3) := by decide +kernel
theorem dX10_init_26 : decode cX10_init 26 = .ok (.newarray .int, 2) := by decide +kernel
theorem dX10_init_28 : decode cX10_init 28 = .ok (.putfield 19, 3) := by decide +kernel
theorem dX10_init_31 : decode cX10_init 31 = .ok (.aload_n 0, 1) := by decide +kernel
theorem dX10_init_32 : decode cX10_init 32 = .ok (.sipush 241, 3) := by decide +kernel
theorem dX10_init_35 : decode cX10_init 35 = .ok (.newarray .int, 2) := by decide +kernel
theorem dX10_init_37 : decode cX10_init 37 = .ok (.putfield 22, 3) := by decide +kernel
theorem dX10_init_40 : decode cX10_init 40 = .ok (.return_, 1) := by decide +kernel
theorem dX5_init_0 : decode cX5_init 0 = .ok (.aload_n 0, 1) := by decide +kernel
theorem dX5_init_1 : decode cX5_init 1 = .ok (.invokespecial 3, 3) := by decide +kernel
theorem dX5_init_4 : decode cX5_init 4 = .ok (.return_, 1) := by decide +kernel
theorem dX6_init_0 : decode cX6_init 0 = .ok (.aload_n 0, 1) := by decide +kernel
theorem dX6_init_1 : decode cX6_init 1 = .ok (.invokespecial 3, 3) := by decide +kernel
theorem dX6_init_4 : decode cX6_init 4 = .ok (.aload_n 0, 1) := by decide +kernel
theorem dX6_init_5 : decode cX6_init 5 = .ok (.bipush 12, 2) := by decide +kernel
theorem dX6_init_7 : decode cX6_init 7 = .ok (.newarray .int, 2) := by decide +kernel
theorem dX6_init_9 : decode cX6_init 9 = .ok (.putfield 9, 3) := by decide +kernel
theorem dX6_init_12 : decode cX6_init 12 = .ok (.aload_n 0, 1) := by decide +kernel
theorem dX6_init_13 : decode cX6_init 13 = .ok (.bipush 12, 2) := by decide +kernel
theorem dX6_init_15 : decode cX6_init 15 = .ok (.newarray .int, 2) := by decide +kernel
theorem dX6_init_17 : decode cX6_init 17 = .ok (.putfield 15, 3) := by decide +kernel
theorem dX6_init_20 : decode cX6_init 20 = .ok (.aload_n 0, 1) := by decide +kernel
theorem dX6_init_21 : decode cX6_init 21 = .ok (.bipush 12, 2) := by decide +kernel
theorem dX6_init_23 : decode cX6_init 23 = .ok (.newarray .int, 2) := by decide +kernel
theorem dX6_init_25 : decode cX6_init 25 = .ok (.putfield 18, 3) := by decide +kernel
theorem dX6_init_28 : decode cX6_init 28 = .ok (.aload_n 0, 1) := by decide +kernel
theorem dX6_init_29 : decode cX6_init 29 = .ok (.bipush 12, 2) := by decide +kernel
theorem dX6_init_31 : decode cX6_init 31 = .ok (.newarray .int, 2) := by decide +kernel
theorem dX6_init_33 : decode cX6_init 33 = .ok (.putfield 21, 3) := by decide +kernel
theorem dX6_init_36 : decode cX6_init 36 = .ok (.aload_n 0, 1) := by decide +kernel
theorem dX6_init_37 : decode cX6_init 37 = .ok (.bipush 12, 2) := by decide +kernel
theorem dX6_init_39 : decode cX6_init 39 = .ok (.newarray .int, 2) := by decide +kernel
theorem dX6_init_41 : decode cX6_init 41 = .ok (.putfield 24, 3) := by decide +kernel
theorem dX6_init_44 : decode cX6_init 44 = .ok (.aload_n 0, 1) := by decide +kernel
theorem dX6_init_45 : decode cX6_init 45 = .ok (.bipush 12, 2) := by decide +kernel
theorem dX6_init_47 : decode cX6_init 47 = .ok (.iconst 3, 1) := by decide +kernel
theorem dX6_init_48 : decode cX6_init 48 = .ok (.multianewarray 27 2, 4) := by decide +kernel
theorem dX6_init_52 : decode cX6_init 52 = .ok (.putfield 29, 3) := by decide +kernel
theorem dX6_init_55 : decode cX6_init 55 = .ok (.aload_n 0, 1) := by decide +kernel
theorem dX6_init_56 : decode cX6_init 56 = .ok (.bipush 12, 2) := by decide +kernel
theorem dX6_init_58 : decode cX6_init 58 = .ok (.iconst 3, 1) := by decide +kernel
theorem dX6_init_59 : decode cX6_init 59 = .ok (.multianewarray 27 2, 4) := by decide +kernel
theorem dX6_init_63 : decode cX6_init 63 = .ok (.putfield 32, 3) := by decide +kernel
theorem dX6_init_66 : decode cX6_init 66 = .ok (.aload_n 0, 1) := by decide +kernel
theorem dX6_init_67 : decode cX6_init 67 = .ok (.bipush 12, 2) := by decide +kernel
theorem dX6_init_69 : decode cX6_init 69 = .ok (.iconst 3, 1) := by decide +kernel
theorem dX6_init_70 : decode cX6_init 70 = .ok (.multianewarray 27 2, 4) := by decide +kernel
theorem dX6_init_74 : decode cX6_init 74 = .ok (.putfield 35, 3) := by decide +kernel
theorem dX6_init_77 : decode cX6_init 77 = .ok (.return_, 1) := by decide +kernel
theorem dX4_init_0 : decode cX4_init 0 = .ok (.aload_n 0, 1) := by decide +kernel
theorem dX4_init_1 : decode cX4_init 1 = .ok (.invokespecial 3, 3) := by decide +kernel
theorem dX4_init_4 : decode cX4_init 4 = .ok (.aload_n 0, 1) := by decide +kernel
theorem dX4_init_5 : decode cX4_init 5 = .ok (.bipush 36, 2) := by decide +kernel
theorem dX4_init_7 : decode cX4_init 7 = .ok (.newarray .int, 2) := by decide +kernel
theorem dX4_init_9 : decode cX4_init 9 = .ok (.putfield 9, 3) := by decide +kernel
theorem dX4_init_12 : decode cX4_init 12 = .ok (.aload_n 0, 1) := by decide +kernel
theorem dX4_init_13 : decode cX4_init 13 = .ok (.bipush 36, 2) := by decide +kernel
theorem dX4_init_15 : decode cX4_init 15 = .ok (.newarray .int, 2) := by decide +kernel
theorem dX4_init_17 : decode cX4_init 17 = .ok (.putfield 15, 3) := by decide +kernel
theorem dX4_init_20 : decode cX4_init 20 = .ok (.aload_n 0, 1) := by decide +kernel
theorem dX4_init_21 : decode cX4_init 21 = .ok (.bipush 36, 2) := by decide +kernel
theorem dX4_init_23 : decode cX4_init 23 = .ok (.newarray .int, 2) := by decide +kernel
theorem dX4_init_25 : decode cX4_init 25 = .ok (.putfield 18, 3) := by decide +kernel
theorem dX4_init_28 : decode cX4_init 28 = .ok (.aload_n 0, 1) := by decide +kernel
theorem dX4_init_29 : decode cX4_init 29 = .ok (.bipush 36, 2) := by decide +kernel
theorem dX4_init_31 : decode cX4_init 31 = .ok (.newarray .int, 2) := by decide +kernel
theorem dX4_init_33 : decode cX4_init 33 = .ok (.putfield 21, 3) := by decide +kernel
theorem dX4_init_36 : decode cX4_init 36 = .ok (.aload_n 0, 1) := by decide +kernel
theorem dX4_init_37 : decode cX4_init 37 = .ok (.bipush 36, 2) := by decide +kernel
theorem dX4_init_39 : decode cX4_init 39 = .ok (.newarray .int, 2) := by decide +kernel
theorem dX4_init_41 : decode cX4_init 41 = .ok (.putfield 24, 3) := by decide +kernel
theorem dX4_init_44 : decode cX4_init 44 = .ok (.aload_n 0, 1) := by decide +kernel
theorem dX4_init_45 : decode cX4_init 45 = .ok (.bipush 36, 2) := by decide +kernel
theorem dX4_init_47 : decode cX4_init 47 = .ok (.newarray .int, 2) := by decide +kernel
theorem dX4_init_49 : decode cX4_init 49 = .ok (.putfield 27, 3) := by decide +kernel
theorem dX4_init_52 : decode cX4_init 52 = .ok (.aload_n 0, 1) := by decide +kernel
theorem dX4_init_53 : decode cX4_init 53 = .ok (.bipush 36, 2) := by decide +kernel
theorem dX4_init_55 : decode cX4_init 55 = .ok (.newarray .int, 2) := by decide +kernel
theorem dX4_init_57 : decode cX4_init 57 = .ok (.putfield 30, 3) := by decide +kernel
theorem dX4_init_60 : decode cX4_init 60 = .ok (.aload_n 0, 1) := by decide +kernel
theorem dX4_init_61 : decode cX4_init 61 = .ok (.bipush 36, 2) := by decide +kernel
theorem dX4_init_63 : decode cX4_init 63 = .ok (.newarray .int, 2) := by decide +kernel
theorem dX4_init_65 : decode cX4_init 65 = .ok (.putfield 33, 3) := by decide +kernel
theorem dX4_init_68 : decode cX4_init 68 = .ok (.aload_n 0, 1) := by decide +kernel
theorem dX4_init_69 : decode cX4_init 69 = .ok (.bipush 36, 2) := by decide +kernel
theorem dX4_init_71 : decode cX4_init 71 = .ok (.newarray .int, 2) := by decide +kernel
theorem dX4_init_73 : decode cX4_init 73 = .ok (.putfield 36, 3) := by decide +kernel
theorem dX4_init_76 : decode cX4_init 76 = .ok (.aload_n 0, 1) := by decide +kernel
theorem dX4_init_77 : decode cX4_init 77 = .ok (.bipush 36, 2) := by decide +kernel
theorem dX4_init_79 : decode cX4_init 79 = .ok (.newarray .int, 2) := by decide +kernel
theorem dX4_init_81 : decode cX4_init 81 = .ok (.putfield 39, 3) := by decide +kernel
theorem dX4_init_84 : decode cX4_init 84 = .ok (.return_, 1) := by decide +kernel
theorem dX1_init_0 : decode cX1_init 0 = .ok (.aload_n 0, 1) := by decide +kernel
theorem dX1_init_1 : decode cX1_init 1 = .ok (.invokespecial 3, 3) := by decide +kernel
theorem dX1_init_4 : decode cX1_init 4 = .ok (.aload_n 0, 1) := by decide +kernel
theorem dX1_init_5 : decode cX1_init 5 = .ok (.bipush 10, 2) := by decide +kernel
theorem dX1_init_7 : decode cX1_init 7 = .ok (.newarray .int, 2) := by decide +kernel
theorem dX1_init_9 : decode cX1_init 9 = .ok (.putfield 9, 3) := by decide +kernel
theorem dX1_init_12 : decode cX1_init 12 = .ok (.aload_n 0, 1) := by decide +kernel
theorem dX1_init_13 : decode cX1_init 13 = .ok (.bipush 10, 2) := by decide +kernel
theorem dX1_init_15 : decode cX1_init 15 = .ok (.newarray .int, 2) := by decide +kernel
theorem dX1_init_17 : decode cX1_init 17 = .ok (.putfield 15, 3) := by decide +kernel
theorem dX1_init_20 : decode cX1_init 20 = .ok (.return_, 1) := by decide +kernel
theorem dX3_init_0 : decode cX3_init 0 = .ok (.aload_n 0, 1) := by decide +kernel
theorem dX3_init_1 : decode cX3_init 1 = .ok (.invokespecial 3, 3) := by decide +kernel
theorem dX3_init_4 : decode cX3_init 4 = .ok (.aload_n 0, 1) := by decide +kernel
theorem dX3_init_5 : decode cX3_init 5 = .ok (.bipush 32, 2) := by decide +kernel
theorem dX3_init_7 : decode cX3_init 7 = .ok (.newarray .long, 2) := by decide +kernel
theorem dX3_init_9 : decode cX3_init 9 = .ok (.putfield 11, 3) := by decide +kernel
theorem dX3_init_12 : decode cX3_init 12 = .ok (.aload_n 0, 1) := by decide +kernel
theorem dX3_init_13 : decode cX3_init 13 = .ok (.bipush 32, 2) := by decide +kernel
theorem dX3_init_15 : decode cX3_init 15 = .ok (.newarray .int, 2) := by decide +kernel
theorem dX3_init_17 : decode cX3_init 17 = .ok (.putfield 15, 3) := by decide +kernel
theorem dX3_init_20 : decode cX3_init 20 = .ok (.aload_n 0, 1) := by decide +kernel
theorem dX3_init_21 : decode cX3_init 21 = .ok (.bipush 64, 2) := by decide +kernel
theorem dX3_init_23 : decode cX3_init 23 = .ok (.newarray .int, 2) := by decide +kernel
theorem dX3_init_25 : decode cX3_init 25 = .ok (.putfield 19, 3) := by decide +kernel
theorem dX3_init_28 : decode cX3_init 28 = .ok (.aload_n 0, 1) := by decide +kernel
theorem dX3_init_29 : decode cX3_init 29 = .ok (.bipush 64, 2) := by decide +kernel
theorem dX3_init_31 : decode cX3_init 31 = .ok (.newarray .int, 2) := by decide +kernel
theorem dX3_init_33 : decode cX3_init 33 = .ok (.putfield 22, 3) := by decide +kernel
theorem dX3_init_36 : decode cX3_init 36 = .ok (.aload_n 0, 1) := by decide +kernel
theorem dX3_init_37 : decode cX3_init 37 = .ok (.bipush 100, 2) := by decide +kernel
theorem dX3_init_39 : decode cX3_init 39 = .ok (.newarray .long, 2) := by decide +kernel
theorem dX3_init_41 : decode cX3_init 41 = .ok (.putfield 25, 3) := by decide +kernel
theorem dX3_init_44 : decode cX3_init 44 = .ok (.return_, 1) := by decide +kernel
def ik_rm (d mc ms : Nat) : Room := { frames := d, cells := mc, slots := ms, locals := 64 * d }
section IC
variable {x : vv_E} {b : Nat} {g : ii_G}
theorem ii_rows_lt {n N K a : Nat} (h : a < n) : ii_rows x b n N K g a = g a := by
  unfold ii_rows
  rw [if_neg (by omega), if_neg (by omega)]
end IC
abbrev im_X0 : vv_M := (cX0_init, 1, RX0, none, ik_rm 1 14 60)
def ig_X0_1 (x : vv_E) (b : Nat) (g : ii_G) : ii_G := ii_up (ii_up (ii_up (ii_rows x b 2 12 3 (g)) 1 (.inr (0, (([.int 0, .null, .null] : List Value).set 1 (.ref (b + 2)))))) 15 (ii_arr x 0 12)) 1 (.inr (0, ((([.int 0, .null, .null] : List Value).set 1 (.ref (b + 2))).set 2 (.ref (b + 15)))))
theorem ik_X0_1 {x : vv_E} {b : Nat} {g : ii_G} (h0 : g 1 = .inr (0, [.int 0, .null, .null])) : ii_C x b yX0_init im_X0 14 60 [.ref (b + 1)] 2 g (fun n1 g1 => n1 = 16 ∧ g1 = ig_X0_1 x b g) := by
  refine ii_entry (by decide +kernel) rfl rfl (Nat.le_of_ble_eq_true rfl) rfl ?_
  refine ir_aload_n (q := 1) (v := b + 1) dX0_init_0 rfl rfl ?_
  refine ir_obj (q := 4) (by decide +kernel) iw_0 iw_1 ⟨Nat.le_of_ble_eq_true rfl, Nat.le_of_ble_eq_true rfl⟩ dX0_init_1 rfl ?_
  refine ir_aload_n (q := 5) (v := b + 1) dX0_init_4 rfl rfl ?_
  refine ir_bipush (q := 7) (v := 12) dX0_init_5 rfl (by decide) ?_
  refine ir_iconst (q := 8) (v := 3) dX0_init_7 rfl (by decide) ?_
  refine ir_mna (q := 12) (N := 12) (K := 3) (by decide +kernel) iw_2 (by decide) (by decide) (by decide) (by decide) (by decide) (by decide) (by decide) ⟨Nat.le_of_ble_eq_true rfl, Nat.le_of_ble_eq_true rfl⟩ dX0_init_8 rfl ?_
  refine ir_putr (q := 15) (k := 1) (N := 3) (j := 1) (C := RX0) (Tf := TX0) (ty := .array (.array .int)) tyX0 (by decide) ((ii_rows_lt (by decide)).trans h0) rfl (by decide) inX0 tyX0_ok nmX0 (by decide +kernel) rfl rfl rfl rfl (Nat.le_of_ble_eq_true rfl) dX0_init_12 rfl ?_
  refine ir_aload_n (q := 16) (v := b + 1) dX0_init_15 rfl rfl ?_
  refine ir_bipush (q := 18) (v := 12) dX0_init_16 rfl (by decide) ?_
  refine ir_newa (q := 20) (ty := .int) 0 (N := 12) rfl rfl (fun cA => rfl) (fun U cA h => h) iw_2 (by decide) (by decide) (by decide) ⟨Nat.le_of_ble_eq_true rfl, Nat.le_of_ble_eq_true rfl⟩ dX0_init_18 rfl ?_
  refine ir_putr (q := 23) (k := 1) (N := 3) (j := 2) (C := RX0) (Tf := TX0) (ty := .array .int) tyX0 (by decide) ((ii_up_ne (by decide)).trans ii_up_eq) rfl (by decide) inX0 tyX0_ok nmX0 (by decide +kernel) rfl rfl rfl rfl (Nat.le_of_ble_eq_true rfl) dX0_init_20 rfl ?_
  exact ir_vret dX0_init_23 rfl ⟨rfl, rfl⟩
theorem il_X0_1 {x : vv_E} {b : Nat} {g : ii_G} {a : Nat} (h : a < 1) : ig_X0_1 x b g a = g a := by
  unfold ig_X0_1
  rw [ii_up_ne (by omega)]
  rw [ii_up_ne (by omega)]
  rw [ii_up_ne (by omega)]
  rw [ii_rows_lt (by omega)]
abbrev im_X2 : vv_M := (cX2_init, 1, RX2, none, ik_rm 1 5 300)
def ig_X2_16 (x : vv_E) (b : Nat) (g : ii_G) : ii_G := ii_up (ii_up (ii_up (ii_up (ii_up (ii_up (ii_up (ii_up (ii_up (ii_up (g) 17 (ii_arr x 0 60)) 16 (.inr (2, (([.int 0, .null, .null, .null, .null, .null] : List Value).set 1 (.ref (b + 17)))))) 18 (ii_arr x 0 60)) 16 (.inr (2, ((([.int 0, .null, .null, .null, .null, .null] : List Value).set 1 (.ref (b + 17))).set 2 (.ref (b + 18)))))) 19 (ii_arr x 0 60)) 16 (.inr (2, (((([.int 0, .null, .null, .null, .null, .null] : List Value).set 1 (.ref (b + 17))).set 2 (.ref (b + 18))).set 3 (.ref (b + 19)))))) 20 (ii_arr x 0 60)) 16 (.inr (2, ((((([.int 0, .null, .null, .null, .null, .null] : List Value).set 1 (.ref (b + 17))).set 2 (.ref (b + 18))).set 3 (.ref (b + 19))).set 4 (.ref (b + 20)))))) 21 (ii_arr x 0 60)) 16 (.inr (2, (((((([.int 0, .null, .null, .null, .null, .null] : List Value).set 1 (.ref (b + 17))).set 2 (.ref (b + 18))).set 3 (.ref (b + 19))).set 4 (.ref (b + 20))).set 5 (.ref (b + 21)))))
theorem ik_X2_16 {x : vv_E} {b : Nat} {g : ii_G} (h0 : g 16 = .inr (2, [.int 0, .null, .null, .null, .null, .null])) : ii_C x b yX2_init im_X2 5 300 [.ref (b + 16)] 17 g (fun n1 g1 => n1 = 22 ∧ g1 = ig_X2_16 x b g) := by
  refine ii_entry (by decide +kernel) rfl rfl (Nat.le_of_ble_eq_true rfl) rfl ?_
  refine ir_aload_n (q := 1) (v := b + 16) dX2_init_0 rfl rfl ?_
  refine ir_obj (q := 4) (by decide +kernel) iw_0 iw_1 ⟨Nat.le_of_ble_eq_true rfl, Nat.le_of_ble_eq_true rfl⟩ dX2_init_1 rfl ?_
  refine ir_aload_n (q := 5) (v := b + 16) dX2_init_4 rfl rfl ?_
  refine ir_bipush (q := 7) (v := 60) dX2_init_5 rfl (by decide) ?_
  refine ir_newa (q := 9) (ty := .int) 0 (N := 60) rfl rfl (fun cA => rfl) (fun U cA h => h) iw_2 (by decide) (by decide) (by decide) ⟨Nat.le_of_ble_eq_true rfl, Nat.le_of_ble_eq_true rfl⟩ dX2_init_7 rfl ?_
  refine ir_putr (q := 12) (k := 16) (N := 6) (j := 1) (C := RX2) (Tf := TX2) (ty := .array .int) tyX2 (by decide) ((ii_up_ne (by decide)).trans h0) rfl (by decide) inX2 tyX2_ok nmX2 (by decide +kernel) rfl rfl rfl rfl (Nat.le_of_ble_eq_true rfl) dX2_init_9 rfl ?_
  refine ir_aload_n (q := 13) (v := b + 16) dX2_init_12 rfl rfl ?_
  refine ir_bipush (q := 15) (v := 60) dX2_init_13 rfl (by decide) ?_
  refine ir_newa (q := 17) (ty := .int) 0 (N := 60) rfl rfl (fun cA => rfl) (fun U cA h => h) iw_2 (by decide) (by decide) (by decide) ⟨Nat.le_of_ble_eq_true rfl, Nat.le_of_ble_eq_true rfl⟩ dX2_init_15 rfl ?_
  refine ir_putr (q := 20) (k := 16) (N := 6) (j := 2) (C := RX2) (Tf := TX2) (ty := .array .int) tyX2 (by decide) ((ii_up_ne (by decide)).trans ii_up_eq) rfl (by decide) inX2 tyX2_ok nmX2 (by decide +kernel) rfl rfl rfl rfl (Nat.le_of_ble_eq_true rfl) dX2_init_17 rfl ?_
  refine ir_aload_n (q := 21) (v := b + 16) dX2_init_20 rfl rfl ?_
  refine ir_bipush (q := 23) (v := 60) dX2_init_21 rfl (by decide) ?_
  refine ir_newa (q := 25) (ty := .int) 0 (N := 60) rfl rfl (fun cA => rfl) (fun U cA h => h) iw_2 (by decide) (by decide) (by decide) ⟨Nat.le_of_ble_eq_true rfl, Nat.le_of_ble_eq_true rfl⟩ dX2_init_23 rfl ?_
  refine ir_putr (q := 28) (k := 16) (N := 6) (j := 3) (C := RX2) (Tf := TX2) (ty := .array .int) tyX2 (by decide) ((ii_up_ne (by decide)).trans ii_up_eq) rfl (by decide) inX2 tyX2_ok nmX2 (by decide +kernel) rfl rfl rfl rfl (Nat.le_of_ble_eq_true rfl) dX2_init_25 rfl ?_
  refine ir_aload_n (q := 29) (v := b + 16) dX2_init_28 rfl rfl ?_
  refine ir_bipush (q := 31) (v := 60) dX2_init_29 rfl (by decide) ?_
  refine ir_newa (q := 33) (ty := .int) 0 (N := 60) rfl rfl (fun cA => rfl) (fun U cA h => h) iw_2 (by decide) (by decide) (by decide) ⟨Nat.le_of_ble_eq_true rfl, Nat.le_of_ble_eq_true rfl⟩ dX2_init_31 rfl ?_
  refine ir_putr (q := 36) (k := 16) (N := 6) (j := 4) (C := RX2) (Tf := TX2) (ty := .array .int) tyX2 (by decide) ((ii_up_ne (by decide)).trans ii_up_eq) rfl (by decide) inX2 tyX2_ok nmX2 (by decide +kernel) rfl rfl rfl rfl (Nat.le_of_ble_eq_true rfl) dX2_init_33 rfl ?_
  refine ir_aload_n (q := 37) (v := b + 16) dX2_init_36 rfl rfl ?_
  refine ir_bipush (q := 39) (v := 60) dX2_init_37 rfl (by decide) ?_
  refine ir_newa (q := 41) (ty := .int) 0 (N := 60) rfl rfl (fun cA => rfl) (fun U cA h => h) iw_2 (by decide) (by decide) (by decide) ⟨Nat.le_of_ble_eq_true rfl, Nat.le_of_ble_eq_true rfl⟩ dX2_init_39 rfl ?_
  refine ir_putr (q := 44) (k := 16) (N := 6) (j := 5) (C := RX2) (Tf := TX2) (ty := .array .int) tyX2 (by decide) ((ii_up_ne (by decide)).trans ii_up_eq) rfl (by decide) inX2 tyX2_ok nmX2 (by decide +kernel) rfl rfl rfl rfl (Nat.le_of_ble_eq_true rfl) dX2_init_41 rfl ?_
  exact ir_vret dX2_init_44 rfl ⟨rfl, rfl⟩
theorem il_X2_16 {x : vv_E} {b : Nat} {g : ii_G} {a : Nat} (h : a < 16) : ig_X2_16 x b g a = g a := by
  unfold ig_X2_16
  rw [ii_up_ne (by omega)]
  rw [ii_up_ne (by omega)]
  rw [ii_up_ne (by omega)]
  rw [ii_up_ne (by omega)]
  rw [ii_up_ne (by omega)]
  rw [ii_up_ne (by omega)]
  rw [ii_up_ne (by omega)]
  rw [ii_up_ne (by omega)]
  rw [ii_up_ne (by omega)]
  rw [ii_up_ne (by omega)]
abbrev im_X8 : vv_M := (cX8_init, 1, RX8, none, ik_rm 1 27 108)
def ig_X8_22 (x : vv_E) (b : Nat) (g : ii_G) : ii_G := ii_up (ii_rows x b 37 12 3 (ii_up (ii_rows x b 24 12 3 (ii_up (ii_up (g) 23 (ii_arr x 0 12)) 22 (.inr (8, (([.int 0, .null, .null, .null] : List Value).set 1 (.ref (b + 23))))))) 22 (.inr (8, ((([.int 0, .null, .null, .null] : List Value).set 1 (.ref (b + 23))).set 2 (.ref (b + 24))))))) 22 (.inr (8, (((([.int 0, .null, .null, .null] : List Value).set 1 (.ref (b + 23))).set 2 (.ref (b + 24))).set 3 (.ref (b + 37)))))
theorem ik_X8_22 {x : vv_E} {b : Nat} {g : ii_G} (h0 : g 22 = .inr (8, [.int 0, .null, .null, .null])) : ii_C x b yX8_init im_X8 27 108 [.ref (b + 22)] 23 g (fun n1 g1 => n1 = 50 ∧ g1 = ig_X8_22 x b g) := by
  refine ii_entry (by decide +kernel) rfl rfl (Nat.le_of_ble_eq_true rfl) rfl ?_
  refine ir_aload_n (q := 1) (v := b + 22) dX8_init_0 rfl rfl ?_
  refine ir_obj (q := 4) (by decide +kernel) iw_0 iw_1 ⟨Nat.le_of_ble_eq_true rfl, Nat.le_of_ble_eq_true rfl⟩ dX8_init_1 rfl ?_
  refine ir_aload_n (q := 5) (v := b + 22) dX8_init_4 rfl rfl ?_
  refine ir_bipush (q := 7) (v := 12) dX8_init_5 rfl (by decide) ?_
  refine ir_newa (q := 9) (ty := .int) 0 (N := 12) rfl rfl (fun cA => rfl) (fun U cA h => h) iw_2 (by decide) (by decide) (by decide) ⟨Nat.le_of_ble_eq_true rfl, Nat.le_of_ble_eq_true rfl⟩ dX8_init_7 rfl ?_
  refine ir_putr (q := 12) (k := 22) (N := 4) (j := 1) (C := RX8) (Tf := TX8) (ty := .array .int) tyX8 (by decide) ((ii_up_ne (by decide)).trans h0) rfl (by decide) inX8 tyX8_ok nmX8 (by decide +kernel) rfl rfl rfl rfl (Nat.le_of_ble_eq_true rfl) dX8_init_9 rfl ?_
  refine ir_aload_n (q := 13) (v := b + 22) dX8_init_12 rfl rfl ?_
  refine ir_bipush (q := 15) (v := 12) dX8_init_13 rfl (by decide) ?_
  refine ir_iconst (q := 16) (v := 3) dX8_init_15 rfl (by decide) ?_
  refine ir_mna (q := 20) (N := 12) (K := 3) (by decide +kernel) iw_2 (by decide) (by decide) (by decide) (by decide) (by decide) (by decide) (by decide) ⟨Nat.le_of_ble_eq_true rfl, Nat.le_of_ble_eq_true rfl⟩ dX8_init_16 rfl ?_
  refine ir_putr (q := 23) (k := 22) (N := 4) (j := 2) (C := RX8) (Tf := TX8) (ty := .array (.array .int)) tyX8 (by decide) ((ii_rows_lt (by decide)).trans ii_up_eq) rfl (by decide) inX8 tyX8_ok nmX8 (by decide +kernel) rfl rfl rfl rfl (Nat.le_of_ble_eq_true rfl) dX8_init_20 rfl ?_
  refine ir_aload_n (q := 24) (v := b + 22) dX8_init_23 rfl rfl ?_
  refine ir_bipush (q := 26) (v := 12) dX8_init_24 rfl (by decide) ?_
  refine ir_iconst (q := 27) (v := 3) dX8_init_26 rfl (by decide) ?_
  refine ir_mna (q := 31) (N := 12) (K := 3) (by decide +kernel) iw_2 (by decide) (by decide) (by decide) (by decide) (by decide) (by decide) (by decide) ⟨Nat.le_of_ble_eq_true rfl, Nat.le_of_ble_eq_true rfl⟩ dX8_init_27 rfl ?_
  refine ir_putr (q := 34) (k := 22) (N := 4) (j := 3) (C := RX8) (Tf := TX8) (ty := .array (.array .int)) tyX8 (by decide) ((ii_rows_lt (by decide)).trans ii_up_eq) rfl (by decide) inX8 tyX8_ok nmX8 (by decide +kernel) rfl rfl rfl rfl (Nat.le_of_ble_eq_true rfl) dX8_init_31 rfl ?_
  exact ir_vret dX8_init_34 rfl ⟨rfl, rfl⟩
theorem il_X8_22 {x : vv_E} {b : Nat} {g : ii_G} {a : Nat} (h : a < 22) : ig_X8_22 x b g a = g a := by
  unfold ig_X8_22
  rw [ii_up_ne (by omega)]
  rw [ii_rows_lt (by omega)]
  rw [ii_up_ne (by omega)]
  rw [ii_rows_lt (by omega)]
  rw [ii_up_ne (by omega)]
  rw [ii_up_ne (by omega)]
abbrev im_X10 : vv_M := (cX10_init, 1, RX10, none, ik_rm 1 4 963)
def ig_X10_50 (x : vv_E) (b : Nat) (g : ii_G) : ii_G := ii_up (ii_up (ii_up (ii_up (ii_up (ii_up (ii_up (ii_up (g) 51 (ii_arr x 2 240)) 50 (.inr (10, (([.int 0, .int 0, .null, .null, .null, .null] : List Value).set 2 (.ref (b + 51)))))) 52 (ii_arr x 0 241)) 50 (.inr (10, ((([.int 0, .int 0, .null, .null, .null, .null] : List Value).set 2 (.ref (b + 51))).set 3 (.ref (b + 52)))))) 53 (ii_arr x 0 241)) 50 (.inr (10, (((([.int 0, .int 0, .null, .null, .null, .null] : List Value).set 2 (.ref (b + 51))).set 3 (.ref (b + 52))).set 4 (.ref (b + 53)))))) 54 (ii_arr x 0 241)) 50 (.inr (10, ((((([.int 0, .int 0, .null, .null, .null, .null] : List Value).set 2 (.ref (b + 51))).set 3 (.ref (b + 52))).set 4 (.ref (b + 53))).set 5 (.ref (b + 54)))))
theorem ik_X10_50 {x : vv_E} {b : Nat} {g : ii_G} (h0 : g 50 = .inr (10, [.int 0, .int 0, .null, .null, .null, .null])) : ii_C x b yX10_init im_X10 4 963 [.ref (b + 50)] 51 g (fun n1 g1 => n1 = 55 ∧ g1 = ig_X10_50 x b g) := by
  refine ii_entry (by decide +kernel) rfl rfl (Nat.le_of_ble_eq_true rfl) rfl ?_
  refine ir_aload_n (q := 1) (v := b + 50) dX10_init_0 rfl rfl ?_
  refine ir_obj (q := 4) (by decide +kernel) iw_0 iw_1 ⟨Nat.le_of_ble_eq_true rfl, Nat.le_of_ble_eq_true rfl⟩ dX10_init_1 rfl ?_
  refine ir_aload_n (q := 5) (v := b + 50) dX10_init_4 rfl rfl ?_
  refine ir_sipush (q := 8) (v := 240) dX10_init_5 rfl (by decide) ?_
  refine ir_newa (q := 10) (ty := .byte) 2 (N := 240) rfl rfl (fun cA => rfl) (fun U cA h => h) iw_4 (by decide) (by decide) (by decide) ⟨Nat.le_of_ble_eq_true rfl, Nat.le_of_ble_eq_true rfl⟩ dX10_init_8 rfl ?_
  refine ir_putr (q := 13) (k := 50) (N := 6) (j := 2) (C := RX10) (Tf := TX10) (ty := .array .byte) tyX10 (by decide) ((ii_up_ne (by decide)).trans h0) rfl (by decide) inX10 tyX10_ok nmX10 (by decide +kernel) rfl rfl rfl rfl (Nat.le_of_ble_eq_true rfl) dX10_init_10 rfl ?_
  refine ir_aload_n (q := 14) (v := b + 50) dX10_init_13 rfl rfl ?_
  refine ir_sipush (q := 17) (v := 241) dX10_init_14 rfl (by decide) ?_
  refine ir_newa (q := 19) (ty := .int) 0 (N := 241) rfl rfl (fun cA => rfl) (fun U cA h => h) iw_2 (by decide) (by decide) (by decide) ⟨Nat.le_of_ble_eq_true rfl, Nat.le_of_ble_eq_true rfl⟩ dX10_init_17 rfl ?_
  refine ir_putr (q := 22) (k := 50) (N := 6) (j := 3) (C := RX10) (Tf := TX10) (ty := .array .int) tyX10 (by decide) ((ii_up_ne (by decide)).trans ii_up_eq) rfl (by decide) inX10 tyX10_ok nmX10 (by decide +kernel) rfl rfl rfl rfl (Nat.le_of_ble_eq_true rfl) dX10_init_19 rfl ?_
  refine ir_aload_n (q := 23) (v := b + 50) dX10_init_22 rfl rfl ?_
  refine ir_sipush (q := 26) (v := 241) dX10_init_23 rfl (by decide) ?_
  refine ir_newa (q := 28) (ty := .int) 0 (N := 241) rfl rfl (fun cA => rfl) (fun U cA h => h) iw_2 (by decide) (by decide) (by decide) ⟨Nat.le_of_ble_eq_true rfl, Nat.le_of_ble_eq_true rfl⟩ dX10_init_26 rfl ?_
  refine ir_putr (q := 31) (k := 50) (N := 6) (j := 4) (C := RX10) (Tf := TX10) (ty := .array .int) tyX10 (by decide) ((ii_up_ne (by decide)).trans ii_up_eq) rfl (by decide) inX10 tyX10_ok nmX10 (by decide +kernel) rfl rfl rfl rfl (Nat.le_of_ble_eq_true rfl) dX10_init_28 rfl ?_
  refine ir_aload_n (q := 32) (v := b + 50) dX10_init_31 rfl rfl ?_
  refine ir_sipush (q := 35) (v := 241) dX10_init_32 rfl (by decide) ?_
  refine ir_newa (q := 37) (ty := .int) 0 (N := 241) rfl rfl (fun cA => rfl) (fun U cA h => h) iw_2 (by decide) (by decide) (by decide) ⟨Nat.le_of_ble_eq_true rfl, Nat.le_of_ble_eq_true rfl⟩ dX10_init_35 rfl ?_
  refine ir_putr (q := 40) (k := 50) (N := 6) (j := 5) (C := RX10) (Tf := TX10) (ty := .array .int) tyX10 (by decide) ((ii_up_ne (by decide)).trans ii_up_eq) rfl (by decide) inX10 tyX10_ok nmX10 (by decide +kernel) rfl rfl rfl rfl (Nat.le_of_ble_eq_true rfl) dX10_init_37 rfl ?_
  exact ir_vret dX10_init_40 rfl ⟨rfl, rfl⟩
theorem il_X10_50 {x : vv_E} {b : Nat} {g : ii_G} {a : Nat} (h : a < 50) : ig_X10_50 x b g a = g a := by
  unfold ig_X10_50
  rw [ii_up_ne (by omega)]
  rw [ii_up_ne (by omega)]
  rw [ii_up_ne (by omega)]
  rw [ii_up_ne (by omega)]
  rw [ii_up_ne (by omega)]
  rw [ii_up_ne (by omega)]
  rw [ii_up_ne (by omega)]
  rw [ii_up_ne (by omega)]
abbrev im_X5 : vv_M := (cX5_init, 1, RX5, none, ik_rm 1 0 0)
def ig_X5_55 (_x : vv_E) (_b : Nat) (g : ii_G) : ii_G := g
theorem ik_X5_55 {x : vv_E} {b : Nat} {g : ii_G} : ii_C x b yX5_init im_X5 0 0 [.ref (b + 55)] 56 g (fun n1 g1 => n1 = 56 ∧ g1 = ig_X5_55 x b g) := by
  refine ii_entry (by decide +kernel) rfl rfl (Nat.le_of_ble_eq_true rfl) rfl ?_
  refine ir_aload_n (q := 1) (v := b + 55) dX5_init_0 rfl rfl ?_
  refine ir_obj (q := 4) (by decide +kernel) iw_0 iw_1 ⟨Nat.le_of_ble_eq_true rfl, Nat.le_of_ble_eq_true rfl⟩ dX5_init_1 rfl ?_
  exact ir_vret dX5_init_4 rfl ⟨rfl, rfl⟩
theorem il_X5_55 {x : vv_E} {b : Nat} {g : ii_G} {a : Nat} (_h : a < 55) : ig_X5_55 x b g a = g a := by
  unfold ig_X5_55
  rfl
abbrev im_X6 : vv_M := (cX6_init, 1, RX6, none, ik_rm 1 44 204)
def ig_X6_56 (x : vv_E) (b : Nat) (g : ii_G) : ii_G := ii_up (ii_rows x b 88 12 3 (ii_up (ii_rows x b 75 12 3 (ii_up (ii_rows x b 62 12 3 (ii_up (ii_up (ii_up (ii_up (ii_up (ii_up (ii_up (ii_up (ii_up (ii_up (g) 57 (ii_arr x 0 12)) 56 (.inr (6, (([.int 0, .null, .null, .null, .null, .null, .null, .null, .null] : List Value).set 1 (.ref (b + 57)))))) 58 (ii_arr x 0 12)) 56 (.inr (6, ((([.int 0, .null, .null, .null, .null, .null, .null, .null, .null] : List Value).set 1 (.ref (b + 57))).set 2 (.ref (b + 58)))))) 59 (ii_arr x 0 12)) 56 (.inr (6, (((([.int 0, .null, .null, .null, .null, .null, .null, .null, .null] : List Value).set 1 (.ref (b + 57))).set 2 (.ref (b + 58))).set 3 (.ref (b + 59)))))) 60 (ii_arr x 0 12)) 56 (.inr (6, ((((([.int 0, .null, .null, .null, .null, .null, .null, .null, .null] : List Value).set 1 (.ref (b + 57))).set 2 (.ref (b + 58))).set 3 (.ref (b + 59))).set 4 (.ref (b + 60)))))) 61 (ii_arr x 0 12)) 56 (.inr (6, (((((([.int 0, .null, .null, .null, .null, .null, .null, .null, .null] : List Value).set 1 (.ref (b + 57))).set 2 (.ref (b + 58))).set 3 (.ref (b + 59))).set 4 (.ref (b + 60))).set 5 (.ref (b + 61))))))) 56 (.inr (6, ((((((([.int 0, .null, .null, .null, .null, .null, .null, .null, .null] : List Value).set 1 (.ref (b + 57))).set 2 (.ref (b + 58))).set 3 (.ref (b + 59))).set 4 (.ref (b + 60))).set 5 (.ref (b + 61))).set 6 (.ref (b + 62))))))) 56 (.inr (6, (((((((([.int 0, .null, .null, .null, .null, .null, .null, .null, .null] : List Value).set 1 (.ref (b + 57))).set 2 (.ref (b + 58))).set 3 (.ref (b + 59))).set 4 (.ref (b + 60))).set 5 (.ref (b + 61))).set 6 (.ref (b + 62))).set 7 (.ref (b + 75))))))) 56 (.inr (6, ((((((((([.int 0, .null, .null, .null, .null, .null, .null, .null, .null] : List Value).set 1 (.ref (b + 57))).set 2 (.ref (b + 58))).set 3 (.ref (b + 59))).set 4 (.ref (b + 60))).set 5 (.ref (b + 61))).set 6 (.ref (b + 62))).set 7 (.ref (b + 75))).set 8 (.ref (b + 88)))))
theorem ik_X6_56 {x : vv_E} {b : Nat} {g : ii_G} (h0 : g 56 = .inr (6, [.int 0, .null, .null, .null, .null, .null, .null, .null, .null])) : ii_C x b yX6_init im_X6 44 204 [.ref (b + 56)] 57 g (fun n1 g1 => n1 = 101 ∧ g1 = ig_X6_56 x b g) := by
  refine ii_entry (by decide +kernel) rfl rfl (Nat.le_of_ble_eq_true rfl) rfl ?_
  refine ir_aload_n (q := 1) (v := b + 56) dX6_init_0 rfl rfl ?_
  refine ir_obj (q := 4) (by decide +kernel) iw_0 iw_1 ⟨Nat.le_of_ble_eq_true rfl, Nat.le_of_ble_eq_true rfl⟩ dX6_init_1 rfl ?_
  refine ir_aload_n (q := 5) (v := b + 56) dX6_init_4 rfl rfl ?_
  refine ir_bipush (q := 7) (v := 12) dX6_init_5 rfl (by decide) ?_
  refine ir_newa (q := 9) (ty := .int) 0 (N := 12) rfl rfl (fun cA => rfl) (fun U cA h => h) iw_2 (by decide) (by decide) (by decide) ⟨Nat.le_of_ble_eq_true rfl, Nat.le_of_ble_eq_true rfl⟩ dX6_init_7 rfl ?_
  refine ir_putr (q := 12) (k := 56) (N := 9) (j := 1) (C := RX6) (Tf := TX6) (ty := .array .int) tyX6 (by decide) ((ii_up_ne (by decide)).trans h0) rfl (by decide) inX6 tyX6_ok nmX6 (by decide +kernel) rfl rfl rfl rfl (Nat.le_of_ble_eq_true rfl) dX6_init_9 rfl ?_
  refine ir_aload_n (q := 13) (v := b + 56) dX6_init_12 rfl rfl ?_
  refine ir_bipush (q := 15) (v := 12) dX6_init_13 rfl (by decide) ?_
  refine ir_newa (q := 17) (ty := .int) 0 (N := 12) rfl rfl (fun cA => rfl) (fun U cA h => h) iw_2 (by decide) (by decide) (by decide) ⟨Nat.le_of_ble_eq_true rfl, Nat.le_of_ble_eq_true rfl⟩ dX6_init_15 rfl ?_
  refine ir_putr (q := 20) (k := 56) (N := 9) (j := 2) (C := RX6) (Tf := TX6) (ty := .array .int) tyX6 (by decide) ((ii_up_ne (by decide)).trans ii_up_eq) rfl (by decide) inX6 tyX6_ok nmX6 (by decide +kernel) rfl rfl rfl rfl (Nat.le_of_ble_eq_true rfl) dX6_init_17 rfl ?_
  refine ir_aload_n (q := 21) (v := b + 56) dX6_init_20 rfl rfl ?_
  refine ir_bipush (q := 23) (v := 12) dX6_init_21 rfl (by decide) ?_
  refine ir_newa (q := 25) (ty := .int) 0 (N := 12) rfl rfl (fun cA => rfl) (fun U cA h => h) iw_2 (by decide) (by decide) (by decide) ⟨Nat.le_of_ble_eq_true rfl, Nat.le_of_ble_eq_true rfl⟩ dX6_init_23 rfl ?_
  refine ir_putr (q := 28) (k := 56) (N := 9) (j := 3) (C := RX6) (Tf := TX6) (ty := .array .int) tyX6 (by decide) ((ii_up_ne (by decide)).trans ii_up_eq) rfl (by decide) inX6 tyX6_ok nmX6 (by decide +kernel) rfl rfl rfl rfl (Nat.le_of_ble_eq_true rfl) dX6_init_25 rfl ?_
  refine ir_aload_n (q := 29) (v := b + 56) dX6_init_28 rfl rfl ?_
  refine ir_bipush (q := 31) (v := 12) dX6_init_29 rfl (by decide) ?_
  refine ir_newa (q := 33) (ty := .int) 0 (N := 12) rfl rfl (fun cA => rfl) (fun U cA h => h) iw_2 (by decide) (by decide) (by decide) ⟨Nat.le_of_ble_eq_true rfl, Nat.le_of_ble_eq_true rfl⟩ dX6_init_31 rfl ?_
  refine ir_putr (q := 36) (k := 56) (N := 9) (j := 4) (C := RX6) (Tf := TX6) (ty := .array .int) tyX6 (by decide) ((ii_up_ne (by decide)).trans ii_up_eq) rfl (by decide) inX6 tyX6_ok nmX6 (by decide +kernel) rfl rfl rfl rfl (Nat.le_of_ble_eq_true rfl) dX6_init_33 rfl ?_
  refine ir_aload_n (q := 37) (v := b + 56) dX6_init_36 rfl rfl ?_
  refine ir_bipush (q := 39) (v := 12) dX6_init_37 rfl (by decide) ?_
  refine ir_newa (q := 41) (ty := .int) 0 (N := 12) rfl rfl (fun cA => rfl) (fun U cA h => h) iw_2 (by decide) (by decide) (by decide) ⟨Nat.le_of_ble_eq_true rfl, Nat.le_of_ble_eq_true rfl⟩ dX6_init_39 rfl ?_
  refine ir_putr (q := 44) (k := 56) (N := 9) (j := 5) (C := RX6) (Tf := TX6) (ty := .array .int) tyX6 (by decide) ((ii_up_ne (by decide)).trans ii_up_eq) rfl (by decide) inX6 tyX6_ok nmX6 (by decide +kernel) rfl rfl rfl rfl (Nat.le_of_ble_eq_true rfl) dX6_init_41 rfl ?_
  refine ir_aload_n (q := 45) (v := b + 56) dX6_init_44 rfl rfl ?_
  refine ir_bipush (q := 47) (v := 12) dX6_init_45 rfl (by decide) ?_
  refine ir_iconst (q := 48) (v := 3) dX6_init_47 rfl (by decide) ?_
  refine ir_mna (q := 52) (N := 12) (K := 3) (by decide +kernel) iw_2 (by decide) (by decide) (by decide) (by decide) (by decide) (by decide) (by decide) ⟨Nat.le_of_ble_eq_true rfl, Nat.le_of_ble_eq_true rfl⟩ dX6_init_48 rfl ?_
  refine ir_putr (q := 55) (k := 56) (N := 9) (j := 6) (C := RX6) (Tf := TX6) (ty := .array (.array .int)) tyX6 (by decide) ((ii_rows_lt (by decide)).trans ii_up_eq) rfl (by decide) inX6 tyX6_ok nmX6 (by decide +kernel) rfl rfl rfl rfl (Nat.le_of_ble_eq_true rfl) dX6_init_52 rfl ?_
  refine ir_aload_n (q := 56) (v := b + 56) dX6_init_55 rfl rfl ?_
  refine ir_bipush (q := 58) (v := 12) dX6_init_56 rfl (by decide) ?_
  refine ir_iconst (q := 59) (v := 3) dX6_init_58 rfl (by decide) ?_
  refine ir_mna (q := 63) (N := 12) (K := 3) (by decide +kernel) iw_2 (by decide) (by decide) (by decide) (by decide) (by decide) (by decide) (by decide) ⟨Nat.le_of_ble_eq_true rfl, Nat.le_of_ble_eq_true rfl⟩ dX6_init_59 rfl ?_
  refine ir_putr (q := 66) (k := 56) (N := 9) (j := 7) (C := RX6) (Tf := TX6) (ty := .array (.array .int)) tyX6 (by decide) ((ii_rows_lt (by decide)).trans ii_up_eq) rfl (by decide) inX6 tyX6_ok nmX6 (by decide +kernel) rfl rfl rfl rfl (Nat.le_of_ble_eq_true rfl) dX6_init_63 rfl ?_
  refine ir_aload_n (q := 67) (v := b + 56) dX6_init_66 rfl rfl ?_
  refine ir_bipush (q := 69) (v := 12) dX6_init_67 rfl (by decide) ?_
  refine ir_iconst (q := 70) (v := 3) dX6_init_69 rfl (by decide) ?_
  refine ir_mna (q := 74) (N := 12) (K := 3) (by decide +kernel) iw_2 (by decide) (by decide) (by decide) (by decide) (by decide) (by decide) (by decide) ⟨Nat.le_of_ble_eq_true rfl, Nat.le_of_ble_eq_true rfl⟩ dX6_init_70 rfl ?_
  refine ir_putr (q := 77) (k := 56) (N := 9) (j := 8) (C := RX6) (Tf := TX6) (ty := .array (.array .int)) tyX6 (by decide) ((ii_rows_lt (by decide)).trans ii_up_eq) rfl (by decide) inX6 tyX6_ok nmX6 (by decide +kernel) rfl rfl rfl rfl (Nat.le_of_ble_eq_true rfl) dX6_init_74 rfl ?_
  exact ir_vret dX6_init_77 rfl ⟨rfl, rfl⟩
theorem il_X6_56 {x : vv_E} {b : Nat} {g : ii_G} {a : Nat} (h : a < 56) : ig_X6_56 x b g a = g a := by
  unfold ig_X6_56
  rw [ii_up_ne (by omega)]
  rw [ii_rows_lt (by omega)]
  rw [ii_up_ne (by omega)]
  rw [ii_rows_lt (by omega)]
  rw [ii_up_ne (by omega)]
  rw [ii_rows_lt (by omega)]
  rw [ii_up_ne (by omega)]
  rw [ii_up_ne (by omega)]
  rw [ii_up_ne (by omega)]
  rw [ii_up_ne (by omega)]
  rw [ii_up_ne (by omega)]
  rw [ii_up_ne (by omega)]
  rw [ii_up_ne (by omega)]
  rw [ii_up_ne (by omega)]
  rw [ii_up_ne (by omega)]
  rw [ii_up_ne (by omega)]
def ig_X6_101 (x : vv_E) (b : Nat) (g : ii_G) : ii_G := ii_up (ii_rows x b 133 12 3 (ii_up (ii_rows x b 120 12 3 (ii_up (ii_rows x b 107 12 3 (ii_up (ii_up (ii_up (ii_up (ii_up (ii_up (ii_up (ii_up (ii_up (ii_up (g) 102 (ii_arr x 0 12)) 101 (.inr (6, (([.int 0, .null, .null, .null, .null, .null, .null, .null, .null] : List Value).set 1 (.ref (b + 102)))))) 103 (ii_arr x 0 12)) 101 (.inr (6, ((([.int 0, .null, .null, .null, .null, .null, .null, .null, .null] : List Value).set 1 (.ref (b + 102))).set 2 (.ref (b + 103)))))) 104 (ii_arr x 0 12)) 101 (.inr (6, (((([.int 0, .null, .null, .null, .null, .null, .null, .null, .null] : List Value).set 1 (.ref (b + 102))).set 2 (.ref (b + 103))).set 3 (.ref (b + 104)))))) 105 (ii_arr x 0 12)) 101 (.inr (6, ((((([.int 0, .null, .null, .null, .null, .null, .null, .null, .null] : List Value).set 1 (.ref (b + 102))).set 2 (.ref (b + 103))).set 3 (.ref (b + 104))).set 4 (.ref (b + 105)))))) 106 (ii_arr x 0 12)) 101 (.inr (6, (((((([.int 0, .null, .null, .null, .null, .null, .null, .null, .null] : List Value).set 1 (.ref (b + 102))).set 2 (.ref (b + 103))).set 3 (.ref (b + 104))).set 4 (.ref (b + 105))).set 5 (.ref (b + 106))))))) 101 (.inr (6, ((((((([.int 0, .null, .null, .null, .null, .null, .null, .null, .null] : List Value).set 1 (.ref (b + 102))).set 2 (.ref (b + 103))).set 3 (.ref (b + 104))).set 4 (.ref (b + 105))).set 5 (.ref (b + 106))).set 6 (.ref (b + 107))))))) 101 (.inr (6, (((((((([.int 0, .null, .null, .null, .null, .null, .null, .null, .null] : List Value).set 1 (.ref (b + 102))).set 2 (.ref (b + 103))).set 3 (.ref (b + 104))).set 4 (.ref (b + 105))).set 5 (.ref (b + 106))).set 6 (.ref (b + 107))).set 7 (.ref (b + 120))))))) 101 (.inr (6, ((((((((([.int 0, .null, .null, .null, .null, .null, .null, .null, .null] : List Value).set 1 (.ref (b + 102))).set 2 (.ref (b + 103))).set 3 (.ref (b + 104))).set 4 (.ref (b + 105))).set 5 (.ref (b + 106))).set 6 (.ref (b + 107))).set 7 (.ref (b + 120))).set 8 (.ref (b + 133)))))
theorem ik_X6_101 {x : vv_E} {b : Nat} {g : ii_G} (h0 : g 101 = .inr (6, [.int 0, .null, .null, .null, .null, .null, .null, .null, .null])) : ii_C x b yX6_init im_X6 44 204 [.ref (b + 101)] 102 g (fun n1 g1 => n1 = 146 ∧ g1 = ig_X6_101 x b g) := by
  refine ii_entry (by decide +kernel) rfl rfl (Nat.le_of_ble_eq_true rfl) rfl ?_
  refine ir_aload_n (q := 1) (v := b + 101) dX6_init_0 rfl rfl ?_
  refine ir_obj (q := 4) (by decide +kernel) iw_0 iw_1 ⟨Nat.le_of_ble_eq_true rfl, Nat.le_of_ble_eq_true rfl⟩ dX6_init_1 rfl ?_
  refine ir_aload_n (q := 5) (v := b + 101) dX6_init_4 rfl rfl ?_
  refine ir_bipush (q := 7) (v := 12) dX6_init_5 rfl (by decide) ?_
  refine ir_newa (q := 9) (ty := .int) 0 (N := 12) rfl rfl (fun cA => rfl) (fun U cA h => h) iw_2 (by decide) (by decide) (by decide) ⟨Nat.le_of_ble_eq_true rfl, Nat.le_of_ble_eq_true rfl⟩ dX6_init_7 rfl ?_
  refine ir_putr (q := 12) (k := 101) (N := 9) (j := 1) (C := RX6) (Tf := TX6) (ty := .array .int) tyX6 (by decide) ((ii_up_ne (by decide)).trans h0) rfl (by decide) inX6 tyX6_ok nmX6 (by decide +kernel) rfl rfl rfl rfl (Nat.le_of_ble_eq_true rfl) dX6_init_9 rfl ?_
  refine ir_aload_n (q := 13) (v := b + 101) dX6_init_12 rfl rfl ?_
  refine ir_bipush (q := 15) (v := 12) dX6_init_13 rfl (by decide) ?_
  refine ir_newa (q := 17) (ty := .int) 0 (N := 12) rfl rfl (fun cA => rfl) (fun U cA h => h) iw_2 (by decide) (by decide) (by decide) ⟨Nat.le_of_ble_eq_true rfl, Nat.le_of_ble_eq_true rfl⟩ dX6_init_15 rfl ?_
  refine ir_putr (q := 20) (k := 101) (N := 9) (j := 2) (C := RX6) (Tf := TX6) (ty := .array .int) tyX6 (by decide) ((ii_up_ne (by decide)).trans ii_up_eq) rfl (by decide) inX6 tyX6_ok nmX6 (by decide +kernel) rfl rfl rfl rfl (Nat.le_of_ble_eq_true rfl) dX6_init_17 rfl ?_
  refine ir_aload_n (q := 21) (v := b + 101) dX6_init_20 rfl rfl ?_
  refine ir_bipush (q := 23) (v := 12) dX6_init_21 rfl (by decide) ?_
  refine ir_newa (q := 25) (ty := .int) 0 (N := 12) rfl rfl (fun cA => rfl) (fun U cA h => h) iw_2 (by decide) (by decide) (by decide) ⟨Nat.le_of_ble_eq_true rfl, Nat.le_of_ble_eq_true rfl⟩ dX6_init_23 rfl ?_
  refine ir_putr (q := 28) (k := 101) (N := 9) (j := 3) (C := RX6) (Tf := TX6) (ty := .array .int) tyX6 (by decide) ((ii_up_ne (by decide)).trans ii_up_eq) rfl (by decide) inX6 tyX6_ok nmX6 (by decide +kernel) rfl rfl rfl rfl (Nat.le_of_ble_eq_true rfl) dX6_init_25 rfl ?_
  refine ir_aload_n (q := 29) (v := b + 101) dX6_init_28 rfl rfl ?_
  refine ir_bipush (q := 31) (v := 12) dX6_init_29 rfl (by decide) ?_
  refine ir_newa (q := 33) (ty := .int) 0 (N := 12) rfl rfl (fun cA => rfl) (fun U cA h => h) iw_2 (by decide) (by decide) (by decide) ⟨Nat.le_of_ble_eq_true rfl, Nat.le_of_ble_eq_true rfl⟩ dX6_init_31 rfl ?_
  refine ir_putr (q := 36) (k := 101) (N := 9) (j := 4) (C := RX6) (Tf := TX6) (ty := .array .int) tyX6 (by decide) ((ii_up_ne (by decide)).trans ii_up_eq) rfl (by decide) inX6 tyX6_ok nmX6 (by decide +kernel) rfl rfl rfl rfl (Nat.le_of_ble_eq_true rfl) dX6_init_33 rfl ?_
  refine ir_aload_n (q := 37) (v := b + 101) dX6_init_36 rfl rfl ?_
  refine ir_bipush (q := 39) (v := 12) dX6_init_37 rfl (by decide) ?_
  refine ir_newa (q := 41) (ty := .int) 0 (N := 12) rfl rfl (fun cA => rfl) (fun U cA h => h) iw_2 (by decide) (by decide) (by decide) ⟨Nat.le_of_ble_eq_true rfl, Nat.le_of_ble_eq_true rfl⟩ dX6_init_39 rfl ?_
  refine ir_putr (q := 44) (k := 101) (N := 9) (j := 5) (C := RX6) (Tf := TX6) (ty := .array .int) tyX6 (by decide) ((ii_up_ne (by decide)).trans ii_up_eq) rfl (by decide) inX6 tyX6_ok nmX6 (by decide +kernel) rfl rfl rfl rfl (Nat.le_of_ble_eq_true rfl) dX6_init_41 rfl ?_
  refine ir_aload_n (q := 45) (v := b + 101) dX6_init_44 rfl rfl ?_
  refine ir_bipush (q := 47) (v := 12) dX6_init_45 rfl (by decide) ?_
  refine ir_iconst (q := 48) (v := 3) dX6_init_47 rfl (by decide) ?_
  refine ir_mna (q := 52) (N := 12) (K := 3) (by decide +kernel) iw_2 (by decide) (by decide) (by decide) (by decide) (by decide) (by decide) (by decide) ⟨Nat.le_of_ble_eq_true rfl, Nat.le_of_ble_eq_true rfl⟩ dX6_init_48 rfl ?_
  refine ir_putr (q := 55) (k := 101) (N := 9) (j := 6) (C := RX6) (Tf := TX6) (ty := .array (.array .int)) tyX6 (by decide) ((ii_rows_lt (by decide)).trans ii_up_eq) rfl (by decide) inX6 tyX6_ok nmX6 (by decide +kernel) rfl rfl rfl rfl (Nat.le_of_ble_eq_true rfl) dX6_init_52 rfl ?_
  refine ir_aload_n (q := 56) (v := b + 101) dX6_init_55 rfl rfl ?_
  refine ir_bipush (q := 58) (v := 12) dX6_init_56 rfl (by decide) ?_
  refine ir_iconst (q := 59) (v := 3) dX6_init_58 rfl (by decide) ?_
  refine ir_mna (q := 63) (N := 12) (K := 3) (by decide +kernel) iw_2 (by decide) (by decide) (by decide) (by decide) (by decide) (by decide) (by decide) ⟨Nat.le_of_ble_eq_true rfl, Nat.le_of_ble_eq_true rfl⟩ dX6_init_59 rfl ?_
  refine ir_putr (q := 66) (k := 101) (N := 9) (j := 7) (C := RX6) (Tf := TX6) (ty := .array (.array .int)) tyX6 (by decide) ((ii_rows_lt (by decide)).trans ii_up_eq) rfl (by decide) inX6 tyX6_ok nmX6 (by decide +kernel) rfl rfl rfl rfl (Nat.le_of_ble_eq_true rfl) dX6_init_63 rfl ?_
  refine ir_aload_n (q := 67) (v := b + 101) dX6_init_66 rfl rfl ?_
  refine ir_bipush (q := 69) (v := 12) dX6_init_67 rfl (by decide) ?_
  refine ir_iconst (q := 70) (v := 3) dX6_init_69 rfl (by decide) ?_
  refine ir_mna (q := 74) (N := 12) (K := 3) (by decide +kernel) iw_2 (by decide) (by decide) (by decide) (by decide) (by decide) (by decide) (by decide) ⟨Nat.le_of_ble_eq_true rfl, Nat.le_of_ble_eq_true rfl⟩ dX6_init_70 rfl ?_
  refine ir_putr (q := 77) (k := 101) (N := 9) (j := 8) (C := RX6) (Tf := TX6) (ty := .array (.array .int)) tyX6 (by decide) ((ii_rows_lt (by decide)).trans ii_up_eq) rfl (by decide) inX6 tyX6_ok nmX6 (by decide +kernel) rfl rfl rfl rfl (Nat.le_of_ble_eq_true rfl) dX6_init_74 rfl ?_
  exact ir_vret dX6_init_77 rfl ⟨rfl, rfl⟩
theorem il_X6_101 {x : vv_E} {b : Nat} {g : ii_G} {a : Nat} (h : a < 101) : ig_X6_101 x b g a = g a := by
  unfold ig_X6_101
  rw [ii_up_ne (by omega)]
  rw [ii_rows_lt (by omega)]
  rw [ii_up_ne (by omega)]
  rw [ii_rows_lt (by omega)]
  rw [ii_up_ne (by omega)]
  rw [ii_rows_lt (by omega)]
  rw [ii_up_ne (by omega)]
  rw [ii_up_ne (by omega)]
  rw [ii_up_ne (by omega)]
  rw [ii_up_ne (by omega)]
  rw [ii_up_ne (by omega)]
  rw [ii_up_ne (by omega)]
  rw [ii_up_ne (by omega)]
  rw [ii_up_ne (by omega)]
  rw [ii_up_ne (by omega)]
  rw [ii_up_ne (by omega)]
abbrev im_X4 : vv_M := (cX4_init, 1, RX4, none, ik_rm 1 10 360)
def ig_X4_156 (x : vv_E) (b : Nat) (g : ii_G) : ii_G := ii_up (ii_up (ii_up (ii_up (ii_up (ii_up (ii_up (ii_up (ii_up (ii_up (ii_up (ii_up (ii_up (ii_up (ii_up (ii_up (ii_up (ii_up (ii_up (ii_up (g) 157 (ii_arr x 0 36)) 156 (.inr (4, (([.int 0, .null, .null, .null, .null, .null, .null, .null, .null, .null, .null] : List Value).set 1 (.ref (b + 157)))))) 158 (ii_arr x 0 36)) 156 (.inr (4, ((([.int 0, .null, .null, .null, .null, .null, .null, .null, .null, .null, .null] : List Value).set 1 (.ref (b + 157))).set 2 (.ref (b + 158)))))) 159 (ii_arr x 0 36)) 156 (.inr (4, (((([.int 0, .null, .null, .null, .null, .null, .null, .null, .null, .null, .null] : List Value).set 1 (.ref (b + 157))).set 2 (.ref (b + 158))).set 3 (.ref (b + 159)))))) 160 (ii_arr x 0 36)) 156 (.inr (4, ((((([.int 0, .null, .null, .null, .null, .null, .null, .null, .null, .null, .null] : List Value).set 1 (.ref (b + 157))).set 2 (.ref (b + 158))).set 3 (.ref (b + 159))).set 4 (.ref (b + 160)))))) 161 (ii_arr x 0 36)) 156 (.inr (4, (((((([.int 0, .null, .null, .null, .null, .null, .null, .null, .null, .null, .null] : List Value).set 1 (.ref (b + 157))).set 2 (.ref (b + 158))).set 3 (.ref (b + 159))).set 4 (.ref (b + 160))).set 5 (.ref (b + 161)))))) 162 (ii_arr x 0 36)) 156 (.inr (4, ((((((([.int 0, .null, .null, .null, .null, .null, .null, .null, .null, .null, .null] : List Value).set 1 (.ref (b + 157))).set 2 (.ref (b + 158))).set 3 (.ref (b + 159))).set 4 (.ref (b + 160))).set 5 (.ref (b + 161))).set 6 (.ref (b + 162)))))) 163 (ii_arr x 0 36)) 156 (.inr (4, (((((((([.int 0, .null, .null, .null, .null, .null, .null, .null, .null, .null, .null] : List Value).set 1 (.ref (b + 157))).set 2 (.ref (b + 158))).set 3 (.ref (b + 159))).set 4 (.ref (b + 160))).set 5 (.ref (b + 161))).set 6 (.ref (b + 162))).set 7 (.ref (b + 163)))))) 164 (ii_arr x 0 36)) 156 (.inr (4, ((((((((([.int 0, .null, .null, .null, .null, .null, .null, .null, .null, .null, .null] : List Value).set 1 (.ref (b + 157))).set 2 (.ref (b + 158))).set 3 (.ref (b + 159))).set 4 (.ref (b + 160))).set 5 (.ref (b + 161))).set 6 (.ref (b + 162))).set 7 (.ref (b + 163))).set 8 (.ref (b + 164)))))) 165 (ii_arr x 0 36)) 156 (.inr (4, (((((((((([.int 0, .null, .null, .null, .null, .null, .null, .null, .null, .null, .null] : List Value).set 1 (.ref (b + 157))).set 2 (.ref (b + 158))).set 3 (.ref (b + 159))).set 4 (.ref (b + 160))).set 5 (.ref (b + 161))).set 6 (.ref (b + 162))).set 7 (.ref (b + 163))).set 8 (.ref (b + 164))).set 9 (.ref (b + 165)))))) 166 (ii_arr x 0 36)) 156 (.inr (4, ((((((((((([.int 0, .null, .null, .null, .null, .null, .null, .null, .null, .null, .null] : List Value).set 1 (.ref (b + 157))).set 2 (.ref (b + 158))).set 3 (.ref (b + 159))).set 4 (.ref (b + 160))).set 5 (.ref (b + 161))).set 6 (.ref (b + 162))).set 7 (.ref (b + 163))).set 8 (.ref (b + 164))).set 9 (.ref (b + 165))).set 10 (.ref (b + 166)))))
theorem ik_X4_156 {x : vv_E} {b : Nat} {g : ii_G} (h0 : g 156 = .inr (4, [.int 0, .null, .null, .null, .null, .null, .null, .null, .null, .null, .null])) : ii_C x b yX4_init im_X4 10 360 [.ref (b + 156)] 157 g (fun n1 g1 => n1 = 167 ∧ g1 = ig_X4_156 x b g) := by
  refine ii_entry (by decide +kernel) rfl rfl (Nat.le_of_ble_eq_true rfl) rfl ?_
  refine ir_aload_n (q := 1) (v := b + 156) dX4_init_0 rfl rfl ?_
  refine ir_obj (q := 4) (by decide +kernel) iw_0 iw_1 ⟨Nat.le_of_ble_eq_true rfl, Nat.le_of_ble_eq_true rfl⟩ dX4_init_1 rfl ?_
  refine ir_aload_n (q := 5) (v := b + 156) dX4_init_4 rfl rfl ?_
  refine ir_bipush (q := 7) (v := 36) dX4_init_5 rfl (by decide) ?_
  refine ir_newa (q := 9) (ty := .int) 0 (N := 36) rfl rfl (fun cA => rfl) (fun U cA h => h) iw_2 (by decide) (by decide) (by decide) ⟨Nat.le_of_ble_eq_true rfl, Nat.le_of_ble_eq_true rfl⟩ dX4_init_7 rfl ?_
  refine ir_putr (q := 12) (k := 156) (N := 11) (j := 1) (C := RX4) (Tf := TX4) (ty := .array .int) tyX4 (by decide) ((ii_up_ne (by decide)).trans h0) rfl (by decide) inX4 tyX4_ok nmX4 (by decide +kernel) rfl rfl rfl rfl (Nat.le_of_ble_eq_true rfl) dX4_init_9 rfl ?_
  refine ir_aload_n (q := 13) (v := b + 156) dX4_init_12 rfl rfl ?_
  refine ir_bipush (q := 15) (v := 36) dX4_init_13 rfl (by decide) ?_
  refine ir_newa (q := 17) (ty := .int) 0 (N := 36) rfl rfl (fun cA => rfl) (fun U cA h => h) iw_2 (by decide) (by decide) (by decide) ⟨Nat.le_of_ble_eq_true rfl, Nat.le_of_ble_eq_true rfl⟩ dX4_init_15 rfl ?_
  refine ir_putr (q := 20) (k := 156) (N := 11) (j := 2) (C := RX4) (Tf := TX4) (ty := .array .int) tyX4 (by decide) ((ii_up_ne (by decide)).trans ii_up_eq) rfl (by decide) inX4 tyX4_ok nmX4 (by decide +kernel) rfl rfl rfl rfl (Nat.le_of_ble_eq_true rfl) dX4_init_17 rfl ?_
  refine ir_aload_n (q := 21) (v := b + 156) dX4_init_20 rfl rfl ?_
  refine ir_bipush (q := 23) (v := 36) dX4_init_21 rfl (by decide) ?_
  refine ir_newa (q := 25) (ty := .int) 0 (N := 36) rfl rfl (fun cA => rfl) (fun U cA h => h) iw_2 (by decide) (by decide) (by decide) ⟨Nat.le_of_ble_eq_true rfl, Nat.le_of_ble_eq_true rfl⟩ dX4_init_23 rfl ?_
  refine ir_putr (q := 28) (k := 156) (N := 11) (j := 3) (C := RX4) (Tf := TX4) (ty := .array .int) tyX4 (by decide) ((ii_up_ne (by decide)).trans ii_up_eq) rfl (by decide) inX4 tyX4_ok nmX4 (by decide +kernel) rfl rfl rfl rfl (Nat.le_of_ble_eq_true rfl) dX4_init_25 rfl ?_
  refine ir_aload_n (q := 29) (v := b + 156) dX4_init_28 rfl rfl ?_
  refine ir_bipush (q := 31) (v := 36) dX4_init_29 rfl (by decide) ?_
  refine ir_newa (q := 33) (ty := .int) 0 (N := 36) rfl rfl (fun cA => rfl) (fun U cA h => h) iw_2 (by decide) (by decide) (by decide) ⟨Nat.le_of_ble_eq_true rfl, Nat.le_of_ble_eq_true rfl⟩ dX4_init_31 rfl ?_
  refine ir_putr (q := 36) (k := 156) (N := 11) (j := 4) (C := RX4) (Tf := TX4) (ty := .array .int) tyX4 (by decide) ((ii_up_ne (by decide)).trans ii_up_eq) rfl (by decide) inX4 tyX4_ok nmX4 (by decide +kernel) rfl rfl rfl rfl (Nat.le_of_ble_eq_true rfl) dX4_init_33 rfl ?_
  refine ir_aload_n (q := 37) (v := b + 156) dX4_init_36 rfl rfl ?_
  refine ir_bipush (q := 39) (v := 36) dX4_init_37 rfl (by decide) ?_
  refine ir_newa (q := 41) (ty := .int) 0 (N := 36) rfl rfl (fun cA => rfl) (fun U cA h => h) iw_2 (by decide) (by decide) (by decide) ⟨Nat.le_of_ble_eq_true rfl, Nat.le_of_ble_eq_true rfl⟩ dX4_init_39 rfl ?_
  refine ir_putr (q := 44) (k := 156) (N := 11) (j := 5) (C := RX4) (Tf := TX4) (ty := .array .int) tyX4 (by decide) ((ii_up_ne (by decide)).trans ii_up_eq) rfl (by decide) inX4 tyX4_ok nmX4 (by decide +kernel) rfl rfl rfl rfl (Nat.le_of_ble_eq_true rfl) dX4_init_41 rfl ?_
  refine ir_aload_n (q := 45) (v := b + 156) dX4_init_44 rfl rfl ?_
  refine ir_bipush (q := 47) (v := 36) dX4_init_45 rfl (by decide) ?_
  refine ir_newa (q := 49) (ty := .int) 0 (N := 36) rfl rfl (fun cA => rfl) (fun U cA h => h) iw_2 (by decide) (by decide) (by decide) ⟨Nat.le_of_ble_eq_true rfl, Nat.le_of_ble_eq_true rfl⟩ dX4_init_47 rfl ?_
  refine ir_putr (q := 52) (k := 156) (N := 11) (j := 6) (C := RX4) (Tf := TX4) (ty := .array .int) tyX4 (by decide) ((ii_up_ne (by decide)).trans ii_up_eq) rfl (by decide) inX4 tyX4_ok nmX4 (by decide +kernel) rfl rfl rfl rfl (Nat.le_of_ble_eq_true rfl) dX4_init_49 rfl ?_
  refine ir_aload_n (q := 53) (v := b + 156) dX4_init_52 rfl rfl ?_
  refine ir_bipush (q := 55) (v := 36) dX4_init_53 rfl (by decide) ?_
  refine ir_newa (q := 57) (ty := .int) 0 (N := 36) rfl rfl (fun cA => rfl) (fun U cA h => h) iw_2 (by decide) (by decide) (by decide) ⟨Nat.le_of_ble_eq_true rfl, Nat.le_of_ble_eq_true rfl⟩ dX4_init_55 rfl ?_
  refine ir_putr (q := 60) (k := 156) (N := 11) (j := 7) (C := RX4) (Tf := TX4) (ty := .array .int) tyX4 (by decide) ((ii_up_ne (by decide)).trans ii_up_eq) rfl (by decide) inX4 tyX4_ok nmX4 (by decide +kernel) rfl rfl rfl rfl (Nat.le_of_ble_eq_true rfl) dX4_init_57 rfl ?_
  refine ir_aload_n (q := 61) (v := b + 156) dX4_init_60 rfl rfl ?_
  refine ir_bipush (q := 63) (v := 36) dX4_init_61 rfl (by decide) ?_
  refine ir_newa (q := 65) (ty := .int) 0 (N := 36) rfl rfl (fun cA => rfl) (fun U cA h => h) iw_2 (by decide) (by decide) (by decide) ⟨Nat.le_of_ble_eq_true rfl, Nat.le_of_ble_eq_true rfl⟩ dX4_init_63 rfl ?_
  refine ir_putr (q := 68) (k := 156) (N := 11) (j := 8) (C := RX4) (Tf := TX4) (ty := .array .int) tyX4 (by decide) ((ii_up_ne (by decide)).trans ii_up_eq) rfl (by decide) inX4 tyX4_ok nmX4 (by decide +kernel) rfl rfl rfl rfl (Nat.le_of_ble_eq_true rfl) dX4_init_65 rfl ?_
  refine ir_aload_n (q := 69) (v := b + 156) dX4_init_68 rfl rfl ?_
  refine ir_bipush (q := 71) (v := 36) dX4_init_69 rfl (by decide) ?_
  refine ir_newa (q := 73) (ty := .int) 0 (N := 36) rfl rfl (fun cA => rfl) (fun U cA h => h) iw_2 (by decide) (by decide) (by decide) ⟨Nat.le_of_ble_eq_true rfl, Nat.le_of_ble_eq_true rfl⟩ dX4_init_71 rfl ?_
  refine ir_putr (q := 76) (k := 156) (N := 11) (j := 9) (C := RX4) (Tf := TX4) (ty := .array .int) tyX4 (by decide) ((ii_up_ne (by decide)).trans ii_up_eq) rfl (by decide) inX4 tyX4_ok nmX4 (by decide +kernel) rfl rfl rfl rfl (Nat.le_of_ble_eq_true rfl) dX4_init_73 rfl ?_
  refine ir_aload_n (q := 77) (v := b + 156) dX4_init_76 rfl rfl ?_
  refine ir_bipush (q := 79) (v := 36) dX4_init_77 rfl (by decide) ?_
  refine ir_newa (q := 81) (ty := .int) 0 (N := 36) rfl rfl (fun cA => rfl) (fun U cA h => h) iw_2 (by decide) (by decide) (by decide) ⟨Nat.le_of_ble_eq_true rfl, Nat.le_of_ble_eq_true rfl⟩ dX4_init_79 rfl ?_
  refine ir_putr (q := 84) (k := 156) (N := 11) (j := 10) (C := RX4) (Tf := TX4) (ty := .array .int) tyX4 (by decide) ((ii_up_ne (by decide)).trans ii_up_eq) rfl (by decide) inX4 tyX4_ok nmX4 (by decide +kernel) rfl rfl rfl rfl (Nat.le_of_ble_eq_true rfl) dX4_init_81 rfl ?_
  exact ir_vret dX4_init_84 rfl ⟨rfl, rfl⟩
theorem il_X4_156 {x : vv_E} {b : Nat} {g : ii_G} {a : Nat} (h : a < 156) : ig_X4_156 x b g a = g a := by
  unfold ig_X4_156
  rw [ii_up_ne (by omega)]
  rw [ii_up_ne (by omega)]
  rw [ii_up_ne (by omega)]
  rw [ii_up_ne (by omega)]
  rw [ii_up_ne (by omega)]
  rw [ii_up_ne (by omega)]
  rw [ii_up_ne (by omega)]
  rw [ii_up_ne (by omega)]
  rw [ii_up_ne (by omega)]
  rw [ii_up_ne (by omega)]
  rw [ii_up_ne (by omega)]
  rw [ii_up_ne (by omega)]
  rw [ii_up_ne (by omega)]
  rw [ii_up_ne (by omega)]
  rw [ii_up_ne (by omega)]
  rw [ii_up_ne (by omega)]
  rw [ii_up_ne (by omega)]
  rw [ii_up_ne (by omega)]
  rw [ii_up_ne (by omega)]
  rw [ii_up_ne (by omega)]
abbrev im_X1 : vv_M := (cX1_init, 1, RX1, none, ik_rm 1 2 20)
def ig_X1_167 (x : vv_E) (b : Nat) (g : ii_G) : ii_G := ii_up (ii_up (ii_up (ii_up (g) 168 (ii_arr x 0 10)) 167 (.inr (1, (([.int 0, .int 0, .int 0, .null, .null] : List Value).set 3 (.ref (b + 168)))))) 169 (ii_arr x 0 10)) 167 (.inr (1, ((([.int 0, .int 0, .int 0, .null, .null] : List Value).set 3 (.ref (b + 168))).set 4 (.ref (b + 169)))))
theorem ik_X1_167 {x : vv_E} {b : Nat} {g : ii_G} (h0 : g 167 = .inr (1, [.int 0, .int 0, .int 0, .null, .null])) : ii_C x b yX1_init im_X1 2 20 [.ref (b + 167)] 168 g (fun n1 g1 => n1 = 170 ∧ g1 = ig_X1_167 x b g) := by
  refine ii_entry (by decide +kernel) rfl rfl (Nat.le_of_ble_eq_true rfl) rfl ?_
  refine ir_aload_n (q := 1) (v := b + 167) dX1_init_0 rfl rfl ?_
  refine ir_obj (q := 4) (by decide +kernel) iw_0 iw_1 ⟨Nat.le_of_ble_eq_true rfl, Nat.le_of_ble_eq_true rfl⟩ dX1_init_1 rfl ?_
  refine ir_aload_n (q := 5) (v := b + 167) dX1_init_4 rfl rfl ?_
  refine ir_bipush (q := 7) (v := 10) dX1_init_5 rfl (by decide) ?_
  refine ir_newa (q := 9) (ty := .int) 0 (N := 10) rfl rfl (fun cA => rfl) (fun U cA h => h) iw_2 (by decide) (by decide) (by decide) ⟨Nat.le_of_ble_eq_true rfl, Nat.le_of_ble_eq_true rfl⟩ dX1_init_7 rfl ?_
  refine ir_putr (q := 12) (k := 167) (N := 5) (j := 3) (C := RX1) (Tf := TX1) (ty := .array .int) tyX1 (by decide) ((ii_up_ne (by decide)).trans h0) rfl (by decide) inX1 tyX1_ok nmX1 (by decide +kernel) rfl rfl rfl rfl (Nat.le_of_ble_eq_true rfl) dX1_init_9 rfl ?_
  refine ir_aload_n (q := 13) (v := b + 167) dX1_init_12 rfl rfl ?_
  refine ir_bipush (q := 15) (v := 10) dX1_init_13 rfl (by decide) ?_
  refine ir_newa (q := 17) (ty := .int) 0 (N := 10) rfl rfl (fun cA => rfl) (fun U cA h => h) iw_2 (by decide) (by decide) (by decide) ⟨Nat.le_of_ble_eq_true rfl, Nat.le_of_ble_eq_true rfl⟩ dX1_init_15 rfl ?_
  refine ir_putr (q := 20) (k := 167) (N := 5) (j := 4) (C := RX1) (Tf := TX1) (ty := .array .int) tyX1 (by decide) ((ii_up_ne (by decide)).trans ii_up_eq) rfl (by decide) inX1 tyX1_ok nmX1 (by decide +kernel) rfl rfl rfl rfl (Nat.le_of_ble_eq_true rfl) dX1_init_17 rfl ?_
  exact ir_vret dX1_init_20 rfl ⟨rfl, rfl⟩
theorem il_X1_167 {x : vv_E} {b : Nat} {g : ii_G} {a : Nat} (h : a < 167) : ig_X1_167 x b g a = g a := by
  unfold ig_X1_167
  rw [ii_up_ne (by omega)]
  rw [ii_up_ne (by omega)]
  rw [ii_up_ne (by omega)]
  rw [ii_up_ne (by omega)]
abbrev im_X3 : vv_M := (cX3_init, 1, RX3, none, ik_rm 1 5 292)
def ig_X3_170 (x : vv_E) (b : Nat) (g : ii_G) : ii_G := ii_up (ii_up (ii_up (ii_up (ii_up (ii_up (ii_up (ii_up (ii_up (ii_up (g) 171 (ii_arr x 1 32)) 170 (.inr (3, (([.int 0, .int 0, .int 0, .long 0, .null, .null, .null, .null, .null] : List Value).set 4 (.ref (b + 171)))))) 172 (ii_arr x 0 32)) 170 (.inr (3, ((([.int 0, .int 0, .int 0, .long 0, .null, .null, .null, .null, .null] : List Value).set 4 (.ref (b + 171))).set 5 (.ref (b + 172)))))) 173 (ii_arr x 0 64)) 170 (.inr (3, (((([.int 0, .int 0, .int 0, .long 0, .null, .null, .null, .null, .null] : List Value).set 4 (.ref (b + 171))).set 5 (.ref (b + 172))).set 6 (.ref (b + 173)))))) 174 (ii_arr x 0 64)) 170 (.inr (3, ((((([.int 0, .int 0, .int 0, .long 0, .null, .null, .null, .null, .null] : List Value).set 4 (.ref (b + 171))).set 5 (.ref (b + 172))).set 6 (.ref (b + 173))).set 7 (.ref (b + 174)))))) 175 (ii_arr x 1 100)) 170 (.inr (3, (((((([.int 0, .int 0, .int 0, .long 0, .null, .null, .null, .null, .null] : List Value).set 4 (.ref (b + 171))).set 5 (.ref (b + 172))).set 6 (.ref (b + 173))).set 7 (.ref (b + 174))).set 8 (.ref (b + 175)))))
theorem ik_X3_170 {x : vv_E} {b : Nat} {g : ii_G} (h0 : g 170 = .inr (3, [.int 0, .int 0, .int 0, .long 0, .null, .null, .null, .null, .null])) : ii_C x b yX3_init im_X3 5 292 [.ref (b + 170)] 171 g (fun n1 g1 => n1 = 176 ∧ g1 = ig_X3_170 x b g) := by
  refine ii_entry (by decide +kernel) rfl rfl (Nat.le_of_ble_eq_true rfl) rfl ?_
  refine ir_aload_n (q := 1) (v := b + 170) dX3_init_0 rfl rfl ?_
  refine ir_obj (q := 4) (by decide +kernel) iw_0 iw_1 ⟨Nat.le_of_ble_eq_true rfl, Nat.le_of_ble_eq_true rfl⟩ dX3_init_1 rfl ?_
  refine ir_aload_n (q := 5) (v := b + 170) dX3_init_4 rfl rfl ?_
  refine ir_bipush (q := 7) (v := 32) dX3_init_5 rfl (by decide) ?_
  refine ir_newa (q := 9) (ty := .long) 1 (N := 32) rfl rfl (fun cA => rfl) (fun U cA h => h) iw_3 (by decide) (by decide) (by decide) ⟨Nat.le_of_ble_eq_true rfl, Nat.le_of_ble_eq_true rfl⟩ dX3_init_7 rfl ?_
  refine ir_putr (q := 12) (k := 170) (N := 9) (j := 4) (C := RX3) (Tf := TX3) (ty := .array .long) tyX3 (by decide) ((ii_up_ne (by decide)).trans h0) rfl (by decide) inX3 tyX3_ok nmX3 (by decide +kernel) rfl rfl rfl rfl (Nat.le_of_ble_eq_true rfl) dX3_init_9 rfl ?_
  refine ir_aload_n (q := 13) (v := b + 170) dX3_init_12 rfl rfl ?_
  refine ir_bipush (q := 15) (v := 32) dX3_init_13 rfl (by decide) ?_
  refine ir_newa (q := 17) (ty := .int) 0 (N := 32) rfl rfl (fun cA => rfl) (fun U cA h => h) iw_2 (by decide) (by decide) (by decide) ⟨Nat.le_of_ble_eq_true rfl, Nat.le_of_ble_eq_true rfl⟩ dX3_init_15 rfl ?_
  refine ir_putr (q := 20) (k := 170) (N := 9) (j := 5) (C := RX3) (Tf := TX3) (ty := .array .int) tyX3 (by decide) ((ii_up_ne (by decide)).trans ii_up_eq) rfl (by decide) inX3 tyX3_ok nmX3 (by decide +kernel) rfl rfl rfl rfl (Nat.le_of_ble_eq_true rfl) dX3_init_17 rfl ?_
  refine ir_aload_n (q := 21) (v := b + 170) dX3_init_20 rfl rfl ?_
  refine ir_bipush (q := 23) (v := 64) dX3_init_21 rfl (by decide) ?_
  refine ir_newa (q := 25) (ty := .int) 0 (N := 64) rfl rfl (fun cA => rfl) (fun U cA h => h) iw_2 (by decide) (by decide) (by decide) ⟨Nat.le_of_ble_eq_true rfl, Nat.le_of_ble_eq_true rfl⟩ dX3_init_23 rfl ?_
  refine ir_putr (q := 28) (k := 170) (N := 9) (j := 6) (C := RX3) (Tf := TX3) (ty := .array .int) tyX3 (by decide) ((ii_up_ne (by decide)).trans ii_up_eq) rfl (by decide) inX3 tyX3_ok nmX3 (by decide +kernel) rfl rfl rfl rfl (Nat.le_of_ble_eq_true rfl) dX3_init_25 rfl ?_
  refine ir_aload_n (q := 29) (v := b + 170) dX3_init_28 rfl rfl ?_
  refine ir_bipush (q := 31) (v := 64) dX3_init_29 rfl (by decide) ?_
  refine ir_newa (q := 33) (ty := .int) 0 (N := 64) rfl rfl (fun cA => rfl) (fun U cA h => h) iw_2 (by decide) (by decide) (by decide) ⟨Nat.le_of_ble_eq_true rfl, Nat.le_of_ble_eq_true rfl⟩ dX3_init_31 rfl ?_
  refine ir_putr (q := 36) (k := 170) (N := 9) (j := 7) (C := RX3) (Tf := TX3) (ty := .array .int) tyX3 (by decide) ((ii_up_ne (by decide)).trans ii_up_eq) rfl (by decide) inX3 tyX3_ok nmX3 (by decide +kernel) rfl rfl rfl rfl (Nat.le_of_ble_eq_true rfl) dX3_init_33 rfl ?_
  refine ir_aload_n (q := 37) (v := b + 170) dX3_init_36 rfl rfl ?_
  refine ir_bipush (q := 39) (v := 100) dX3_init_37 rfl (by decide) ?_
  refine ir_newa (q := 41) (ty := .long) 1 (N := 100) rfl rfl (fun cA => rfl) (fun U cA h => h) iw_3 (by decide) (by decide) (by decide) ⟨Nat.le_of_ble_eq_true rfl, Nat.le_of_ble_eq_true rfl⟩ dX3_init_39 rfl ?_
  refine ir_putr (q := 44) (k := 170) (N := 9) (j := 8) (C := RX3) (Tf := TX3) (ty := .array .long) tyX3 (by decide) ((ii_up_ne (by decide)).trans ii_up_eq) rfl (by decide) inX3 tyX3_ok nmX3 (by decide +kernel) rfl rfl rfl rfl (Nat.le_of_ble_eq_true rfl) dX3_init_41 rfl ?_
  exact ir_vret dX3_init_44 rfl ⟨rfl, rfl⟩
theorem il_X3_170 {x : vv_E} {b : Nat} {g : ii_G} {a : Nat} (h : a < 170) : ig_X3_170 x b g a = g a := by
  unfold ig_X3_170
  rw [ii_up_ne (by omega)]
  rw [ii_up_ne (by omega)]
  rw [ii_up_ne (by omega)]
  rw [ii_up_ne (by omega)]
  rw [ii_up_ne (by omega)]
  rw [ii_up_ne (by omega)]
  rw [ii_up_ne (by omega)]
  rw [ii_up_ne (by omega)]
  rw [ii_up_ne (by omega)]
  rw [ii_up_ne (by omega)]
