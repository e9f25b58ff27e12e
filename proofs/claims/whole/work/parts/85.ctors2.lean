theorem dX7_init_0 : decode cX7_init 0 = .ok (.aload_n 0, 1) := by decide +kernel
theorem dX7_init_1 : decode cX7_init 1 = .ok (.invokespecial 3, 3) := by decide +kernel
theorem dX7_init_4 : decode cX7_init 4 = .ok (.aload_n 0, 1) := by decide +kernel
theorem dX7_init_5 : decode cX7_init 5 = .ok (.iconst 4, 1) := by decide +kernel
theorem dX7_init_6 : decode cX7_init 6 = .ok (.newarray .int, 2) := by decide +kernel
theorem dX7_init_8 : decode cX7_init 8 = .ok (.putfield 9, 3) := by decide +kernel
theorem dX7_init_11 : decode cX7_init 11 = .ok (.aload_n 0, 1) := by decide +kernel
theorem dX7_init_12 : decode cX7_init 12 = .ok (.iconst 4, 1) := by decide +kernel
theorem dX7_init_13 : decode cX7_init 13 = .ok (.newarray .int, 2) := by decide +kernel
theorem dX7_init_15 : decode cX7_init 15 = .ok (.putfield 15, 3) := by decide +kernel
theorem dX7_init_18 : decode cX7_init 18 = .ok (.aload_n 0, 1) := by decide +kernel
theorem dX7_init_19 : decode cX7_init 19 = .ok (.iconst 4, 1) := by decide +kernel
theorem dX7_init_20 : decode cX7_init 20 = .ok (.bipush 60, 2) := by decide +kernel
theorem dX7_init_22 : decode cX7_init 22 = .ok (.multianewarray 18 2, 4) := by decide +kernel
theorem dX7_init_26 : decode cX7_init 26 = .ok (.putfield 20, 3) := by decide +kernel
theorem dX7_init_29 : decode cX7_init 29 = .ok (.aload_n 0, 1) := by decide +kernel
theorem dX7_init_30 : decode cX7_init 30 = .ok (.getfield 15, 3) := by decide +kernel
theorem dX7_init_33 : decode cX7_init 33 = .ok (.iconst (-1), 1) := by decide +kernel
theorem dX7_init_34 : decode cX7_init 34 = .ok (.invokestatic 23, 3) := by decide +kernel
theorem dX7_init_37 : decode cX7_init 37 = .ok (.return_, 1) := by decide +kernel
theorem dX9_init_0 : decode cX9_init 0 = .ok (.aload_n 0, 1) := by decide +kernel
theorem dX9_init_1 : decode cX9_init 1 = .ok (.invokespecial 3, 3) := by decide +kernel
theorem dX9_init_4 : decode cX9_init 4 = .ok (.aload_n 0, 1) := by decide +kernel
theorem dX9_init_5 : decode cX9_init 5 = .ok (.iconst 4, 1) := by decide +kernel
theorem dX9_init_6 : decode cX9_init 6 = .ok (.iconst 4, 1) := by decide +kernel
theorem dX9_init_7 : decode cX9_init 7 = .ok (.multianewarray 9 2, 4) := by decide +kernel
theorem dX9_init_11 : decode cX9_init 11 = .ok (.putfield 11, 3) := by decide +kernel
theorem dX9_init_14 : decode cX9_init 14 = .ok (.aload_n 0, 1) := by decide +kernel
theorem dX9_init_15 : decode cX9_init 15 = .ok (.bipush 16, 2) := by decide +kernel
theorem dX9_init_17 : decode cX9_init 17 = .ok (.newarray .int, 2) := by decide +kernel
theorem dX9_init_19 : decode cX9_init 19 = .ok (.putfield 16, 3) := by decide +kernel
theorem dX9_init_22 : decode cX9_init 22 = .ok (.aload_n 0, 1) := by decide +kernel
theorem dX9_init_23 : decode cX9_init 23 = .ok (.bipush 16, 2) := by decide +kernel
theorem dX9_init_25 : decode cX9_init 25 = .ok (.newarray .int, 2) := by decide +kernel
theorem dX9_init_27 : decode cX9_init 27 = .ok (.putfield 20, 3) := by decide +kernel
theorem dX9_init_30 : decode cX9_init 30 = .ok (.aload_n 0, 1) := by decide +kernel
theorem dX9_init_31 : decode cX9_init 31 = .ok (.iconst 4, 1) := by decide +kernel
theorem dX9_init_32 : decode cX9_init 32 = .ok (.newarray .int, 2) := by decide +kernel
theorem dX9_init_34 : decode cX9_init 34 = .ok (.putfield 23, 3) := by decide +kernel
theorem dX9_init_37 : decode cX9_init 37 = .ok (.aload_n 0, 1) := by decide +kernel
theorem dX9_init_38 : decode cX9_init 38 = .ok (.iconst 4, 1) := by decide +kernel
theorem dX9_init_39 : decode cX9_init 39 = .ok (.newarray .int, 2) := by decide +kernel
theorem dX9_init_41 : decode cX9_init 41 = .ok (.putfield 26, 3) := by decide +kernel
theorem dX9_init_44 : decode cX9_init 44 = .ok (.iconst 0, 1) := by decide +kernel
theorem dX9_init_45 : decode cX9_init 45 = .ok (.istore_n 1, 1) := by decide +kernel
theorem dX9_init_46 : decode cX9_init 46 = .ok (.iload_n 1, 1) := by decide +kernel
theorem dX9_init_47 : decode cX9_init 47 = .ok (.iconst 4, 1) := by decide +kernel
theorem dX9_init_48 : decode cX9_init 48 = .ok (.if_icmp .ge 20, 3) := by decide +kernel
theorem dX9_init_51 : decode cX9_init 51 = .ok (.aload_n 0, 1) := by decide +kernel
theorem dX9_init_52 : decode cX9_init 52 = .ok (.getfield 11, 3) := by decide +kernel
theorem dX9_init_55 : decode cX9_init 55 = .ok (.iload_n 1, 1) := by decide +kernel
theorem dX9_init_56 : decode cX9_init 56 = .ok (.aaload, 1) := by decide +kernel
theorem dX9_init_57 : decode cX9_init 57 = .ok (.bipush 50, 2) := by decide +kernel
theorem dX9_init_59 : decode cX9_init 59 = .ok (.invokestatic 29, 3) := by decide +kernel
theorem dX9_init_62 : decode cX9_init 62 = .ok (.iinc 1 1, 3) := by decide +kernel
theorem dX9_init_65 : decode cX9_init 65 = .ok (.goto (-19), 3) := by decide +kernel
theorem dX9_init_68 : decode cX9_init 68 = .ok (.return_, 1) := by decide +kernel
theorem iv_0 : Cond.code yJ7_fill_53178 im_fill.1 im_fill.2.1 im_fill.2.2.2.1 ∈ vv_Tg := by decide +kernel
theorem iv_1 : Cond.static yJ7_fill_53178 ∈ vv_Tg := by decide +kernel
theorem iv_2 : Cond.initialized yJ7_fill_53178.cls ∈ vv_Tg := by decide +kernel
theorem iv_3 : yJ7_fill_53178.cls ≠ "java/lang/invoke/MethodHandle" ∧ yJ7_fill_53178.cls ≠ "java/lang/invoke/VarHandle" ∧ (parseMethodDescriptor yJ7_fill_53178.desc).map (fun d => d.parameters.length) = some 2 := by decide +kernel
abbrev im_X7 : vv_M := (cX7_init, 1, RX7, none, ik_rm 2 7 252)
def ig_X7_176 (x : vv_E) (b : Nat) (g : ii_G) : ii_G := ii_up (ii_up (ii_rows x b 179 4 60 (ii_up (ii_up (ii_up (ii_up (g) 177 (ii_arr x 0 4)) 176 (.inr (7, [.ref (b + 177), .null, .null]))) 178 (ii_arr x 0 4)) 176 (.inr (7, [.ref (b + 177), .ref (b + 178), .null])))) 176 (.inr (7, [.ref (b + 177), .ref (b + 178), .ref (b + 179)]))) 178 (.inl (x.2.2.1 0, 4, .inl (qfl (-1) (fun _ => 0) 4)))
set_option maxHeartbeats 4000000 in
theorem ik_X7_176 {x : vv_E} {b : Nat} {g : ii_G} (h0 : g 176 = .inr (7, [.null, .null, .null])) : ii_C x b yX7_init im_X7 7 252 [.ref (b + 176)] 177 g (fun n1 g1 => n1 = 184 ∧ g1 = ig_X7_176 x b g) := by
  refine ii_entry (by decide +kernel) rfl rfl (Nat.le_of_ble_eq_true rfl) rfl ?_
  refine ir_aload_n (q := 1) (v := b + 176) dX7_init_0 rfl rfl ?_
  refine ir_obj (q := 4) (by decide +kernel) iw_0 iw_1 ⟨Nat.le_of_ble_eq_true rfl, Nat.le_of_ble_eq_true rfl⟩ dX7_init_1 rfl ?_
  refine ir_aload_n (q := 5) (v := b + 176) dX7_init_4 rfl rfl ?_
  refine ir_iconst (q := 6) (v := 4) dX7_init_5 rfl (by decide) ?_
  refine ir_newa (q := 8) (ty := .int) 0 (N := 4) rfl rfl (fun cA => rfl) (fun U cA h => h) iw_2 (by decide) (by decide) (by decide) ⟨Nat.le_of_ble_eq_true rfl, Nat.le_of_ble_eq_true rfl⟩ dX7_init_6 rfl ?_
  refine ir_putr (q := 11) (k := 176) (N := 3) (j := 0) (C := RX7) (Tf := TX7) (fs := [.null, .null, .null]) (ty := .array .int) tyX7 (by decide) ((ii_up_ne (by decide)).trans h0) rfl (by decide) inX7 tyX7_ok nmX7 (by decide +kernel) rfl rfl rfl rfl (Nat.le_of_ble_eq_true rfl) dX7_init_8 rfl ?_
  refine ir_aload_n (q := 12) (v := b + 176) dX7_init_11 rfl rfl ?_
  refine ir_iconst (q := 13) (v := 4) dX7_init_12 rfl (by decide) ?_
  refine ir_newa (q := 15) (ty := .int) 0 (N := 4) rfl rfl (fun cA => rfl) (fun U cA h => h) iw_2 (by decide) (by decide) (by decide) ⟨Nat.le_of_ble_eq_true rfl, Nat.le_of_ble_eq_true rfl⟩ dX7_init_13 rfl ?_
  refine ir_putr (q := 18) (k := 176) (N := 3) (j := 1) (C := RX7) (Tf := TX7) (fs := [.ref (b + 177), .null, .null]) (ty := .array .int) tyX7 (by decide) rfl rfl (by decide) inX7 tyX7_ok nmX7 (by decide +kernel) rfl rfl rfl rfl (Nat.le_of_ble_eq_true rfl) dX7_init_15 rfl ?_
  refine ir_aload_n (q := 19) (v := b + 176) dX7_init_18 rfl rfl ?_
  refine ir_iconst (q := 20) (v := 4) dX7_init_19 rfl (by decide) ?_
  refine ir_bipush (q := 22) (v := 60) dX7_init_20 rfl (by decide) ?_
  refine ir_mna (q := 26) (N := 4) (K := 60) (by decide +kernel) iw_2 (by decide) (by decide) (by decide) (by decide) (by decide) (by decide) (by decide) ⟨Nat.le_of_ble_eq_true rfl, Nat.le_of_ble_eq_true rfl⟩ dX7_init_22 rfl ?_
  refine ir_putr (q := 29) (k := 176) (N := 3) (j := 2) (C := RX7) (Tf := TX7) (fs := [.ref (b + 177), .ref (b + 178), .null]) (ty := .array (.array .int)) tyX7 (by decide) rfl rfl (by decide) inX7 tyX7_ok nmX7 (by decide +kernel) rfl rfl rfl rfl (Nat.le_of_ble_eq_true rfl) dX7_init_26 rfl ?_
  refine ir_aload_n (q := 30) (v := b + 176) dX7_init_29 rfl rfl ?_
  refine ir_getr (q := 33) (k := 176) (N := 3) (j := 1) (a := b + 178) (C := RX7) (Tf := TX7) (fs := [.ref (b + 177), .ref (b + 178), .ref (b + 179)]) (by decide) rfl rfl (by decide) inX7 rfl (by decide +kernel) dX7_init_30 rfl ?_
  refine ir_iconst (q := 34) (v := -1) dX7_init_33 rfl (by decide) ?_
  refine ir_callS (q := 37) (M' := im_fill) (As := [.ref (b + 178), .int (-1)]) (ik_fill (k := 178) (N := 4) (f := (fun _ => 0)) (by decide) rfl (by decide)) rfl ⟨iv_0, iv_1, iv_2⟩ iv_3 ⟨rfl, rfl⟩ (by decide +kernel) ⟨Nat.le_of_ble_eq_true rfl, Nat.le_of_ble_eq_true rfl⟩ ⟨Nat.le_of_ble_eq_true rfl, Nat.le_of_ble_eq_true rfl⟩ (Nat.le_of_ble_eq_true rfl) dX7_init_34 rfl ?_
  rintro n1 g1 ⟨rfl, rfl⟩
  exact ir_vret dX7_init_37 rfl ⟨rfl, rfl⟩
theorem il_X7_176 {x : vv_E} {b : Nat} {g : ii_G} {a : Nat} (h : a < 176) : ig_X7_176 x b g a = g a := by
  unfold ig_X7_176
  rw [ii_up_ne (by omega)]
  rw [ii_up_ne (by omega)]
  rw [ii_rows_lt (by omega)]
  rw [ii_up_ne (by omega)]
  rw [ii_up_ne (by omega)]
  rw [ii_up_ne (by omega)]
  rw [ii_up_ne (by omega)]
abbrev im_X9 : vv_M := (cX9_init, 2, RX9, none, ik_rm 2 9 60)
def ig_X9_146 (x : vv_E) (b : Nat) (g : ii_G) : ii_G := ii_up (ii_up (ii_up (ii_up (ii_up (ii_up (ii_up (ii_up (ii_up (ii_up (ii_up (ii_up (ii_up (ii_rows x b 147 4 4 (g)) 146 (.inr (9, [.int 0, .int 0, .ref (b + 147), .null, .null, .null, .null]))) 152 (ii_arr x 0 16)) 146 (.inr (9, [.int 0, .int 0, .ref (b + 147), .ref (b + 152), .null, .null, .null]))) 153 (ii_arr x 0 16)) 146 (.inr (9, [.int 0, .int 0, .ref (b + 147), .ref (b + 152), .ref (b + 153), .null, .null]))) 154 (ii_arr x 0 4)) 146 (.inr (9, [.int 0, .int 0, .ref (b + 147), .ref (b + 152), .ref (b + 153), .ref (b + 154), .null]))) 155 (ii_arr x 0 4)) 146 (.inr (9, [.int 0, .int 0, .ref (b + 147), .ref (b + 152), .ref (b + 153), .ref (b + 154), .ref (b + 155)]))) 148 (.inl (x.2.2.1 0, 4, .inl (qfl (50) (fun _ => 0) 4)))) 149 (.inl (x.2.2.1 0, 4, .inl (qfl (50) (fun _ => 0) 4)))) 150 (.inl (x.2.2.1 0, 4, .inl (qfl (50) (fun _ => 0) 4)))) 151 (.inl (x.2.2.1 0, 4, .inl (qfl (50) (fun _ => 0) 4)))
set_option maxHeartbeats 4000000 in
theorem ik_X9_146 {x : vv_E} {b : Nat} {g : ii_G} (h0 : g 146 = .inr (9, [.int 0, .int 0, .null, .null, .null, .null, .null])) : ii_C x b yX9_init im_X9 9 60 [.ref (b + 146)] 147 g (fun n1 g1 => n1 = 156 ∧ g1 = ig_X9_146 x b g) := by
  refine ii_entry (by decide +kernel) rfl rfl (Nat.le_of_ble_eq_true rfl) rfl ?_
  refine ir_aload_n (q := 1) (v := b + 146) dX9_init_0 rfl rfl ?_
  refine ir_obj (q := 4) (by decide +kernel) iw_0 iw_1 ⟨Nat.le_of_ble_eq_true rfl, Nat.le_of_ble_eq_true rfl⟩ dX9_init_1 rfl ?_
  refine ir_aload_n (q := 5) (v := b + 146) dX9_init_4 rfl rfl ?_
  refine ir_iconst (q := 6) (v := 4) dX9_init_5 rfl (by decide) ?_
  refine ir_iconst (q := 7) (v := 4) dX9_init_6 rfl (by decide) ?_
  refine ir_mna (q := 11) (N := 4) (K := 4) (by decide +kernel) iw_2 (by decide) (by decide) (by decide) (by decide) (by decide) (by decide) (by decide) ⟨Nat.le_of_ble_eq_true rfl, Nat.le_of_ble_eq_true rfl⟩ dX9_init_7 rfl ?_
  refine ir_putr (q := 14) (k := 146) (N := 7) (j := 2) (C := RX9) (Tf := TX9) (fs := [.int 0, .int 0, .null, .null, .null, .null, .null]) (ty := .array (.array .int)) tyX9 (by decide) ((ii_rows_lt (by decide)).trans h0) rfl (by decide) inX9 tyX9_ok nmX9 (by decide +kernel) rfl rfl rfl rfl (Nat.le_of_ble_eq_true rfl) dX9_init_11 rfl ?_
  refine ir_aload_n (q := 15) (v := b + 146) dX9_init_14 rfl rfl ?_
  refine ir_bipush (q := 17) (v := 16) dX9_init_15 rfl (by decide) ?_
  refine ir_newa (q := 19) (ty := .int) 0 (N := 16) rfl rfl (fun cA => rfl) (fun U cA h => h) iw_2 (by decide) (by decide) (by decide) ⟨Nat.le_of_ble_eq_true rfl, Nat.le_of_ble_eq_true rfl⟩ dX9_init_17 rfl ?_
  refine ir_putr (q := 22) (k := 146) (N := 7) (j := 3) (C := RX9) (Tf := TX9) (fs := [.int 0, .int 0, .ref (b + 147), .null, .null, .null, .null]) (ty := .array .int) tyX9 (by decide) rfl rfl (by decide) inX9 tyX9_ok nmX9 (by decide +kernel) rfl rfl rfl rfl (Nat.le_of_ble_eq_true rfl) dX9_init_19 rfl ?_
  refine ir_aload_n (q := 23) (v := b + 146) dX9_init_22 rfl rfl ?_
  refine ir_bipush (q := 25) (v := 16) dX9_init_23 rfl (by decide) ?_
  refine ir_newa (q := 27) (ty := .int) 0 (N := 16) rfl rfl (fun cA => rfl) (fun U cA h => h) iw_2 (by decide) (by decide) (by decide) ⟨Nat.le_of_ble_eq_true rfl, Nat.le_of_ble_eq_true rfl⟩ dX9_init_25 rfl ?_
  refine ir_putr (q := 30) (k := 146) (N := 7) (j := 4) (C := RX9) (Tf := TX9) (fs := [.int 0, .int 0, .ref (b + 147), .ref (b + 152), .null, .null, .null]) (ty := .array .int) tyX9 (by decide) rfl rfl (by decide) inX9 tyX9_ok nmX9 (by decide +kernel) rfl rfl rfl rfl (Nat.le_of_ble_eq_true rfl) dX9_init_27 rfl ?_
  refine ir_aload_n (q := 31) (v := b + 146) dX9_init_30 rfl rfl ?_
  refine ir_iconst (q := 32) (v := 4) dX9_init_31 rfl (by decide) ?_
  refine ir_newa (q := 34) (ty := .int) 0 (N := 4) rfl rfl (fun cA => rfl) (fun U cA h => h) iw_2 (by decide) (by decide) (by decide) ⟨Nat.le_of_ble_eq_true rfl, Nat.le_of_ble_eq_true rfl⟩ dX9_init_32 rfl ?_
  refine ir_putr (q := 37) (k := 146) (N := 7) (j := 5) (C := RX9) (Tf := TX9) (fs := [.int 0, .int 0, .ref (b + 147), .ref (b + 152), .ref (b + 153), .null, .null]) (ty := .array .int) tyX9 (by decide) rfl rfl (by decide) inX9 tyX9_ok nmX9 (by decide +kernel) rfl rfl rfl rfl (Nat.le_of_ble_eq_true rfl) dX9_init_34 rfl ?_
  refine ir_aload_n (q := 38) (v := b + 146) dX9_init_37 rfl rfl ?_
  refine ir_iconst (q := 39) (v := 4) dX9_init_38 rfl (by decide) ?_
  refine ir_newa (q := 41) (ty := .int) 0 (N := 4) rfl rfl (fun cA => rfl) (fun U cA h => h) iw_2 (by decide) (by decide) (by decide) ⟨Nat.le_of_ble_eq_true rfl, Nat.le_of_ble_eq_true rfl⟩ dX9_init_39 rfl ?_
  refine ir_putr (q := 44) (k := 146) (N := 7) (j := 6) (C := RX9) (Tf := TX9) (fs := [.int 0, .int 0, .ref (b + 147), .ref (b + 152), .ref (b + 153), .ref (b + 154), .null]) (ty := .array .int) tyX9 (by decide) rfl rfl (by decide) inX9 tyX9_ok nmX9 (by decide +kernel) rfl rfl rfl rfl (Nat.le_of_ble_eq_true rfl) dX9_init_41 rfl ?_
  refine ir_iconst (q := 45) (v := 0) dX9_init_44 rfl (by decide) ?_
  refine ir_istore_n (i := 1) (q := 46) [some (.ref (b + 146)), some (.int 0)] dX9_init_45 rfl rfl (by decide) rfl rfl ?_
  refine ir_iload_n (q := 47) (v := 0) dX9_init_46 rfl rfl ?_
  refine ir_iconst (q := 48) (v := 4) dX9_init_47 rfl (by decide) ?_
  refine ir_icmp_ge (q := 51) (tgt := 68) dX9_init_48 (by decide) rfl (fun z => absurd z (by decide)) (fun _ => ?_)
  refine ir_aload_n (q := 52) (v := b + 146) dX9_init_51 rfl rfl ?_
  refine ir_getr (q := 55) (k := 146) (N := 7) (j := 2) (a := b + 147) (C := RX9) (Tf := TX9) (fs := [.int 0, .int 0, .ref (b + 147), .ref (b + 152), .ref (b + 153), .ref (b + 154), .ref (b + 155)]) (by decide) rfl rfl (by decide) inX9 rfl (by decide +kernel) dX9_init_52 rfl ?_
  refine ir_iload_n (q := 56) (v := 0) dX9_init_55 rfl rfl ?_
  refine ir_aald (q := 57) (k := 147) (N := 4) (a := b + 148) (by decide) rfl (ii_vp (by decide) (by decide)) rfl dX9_init_56 rfl ?_
  refine ir_bipush (q := 59) (v := 50) dX9_init_57 rfl (by decide) ?_
  refine ir_callS (q := 62) (M' := im_fill) (As := [.ref (b + 148), .int (50)]) (ik_fill (k := 148) (N := 4) (f := (fun _ => 0)) (by decide) rfl (by decide)) rfl ⟨iv_0, iv_1, iv_2⟩ iv_3 ⟨rfl, rfl⟩ (by decide +kernel) ⟨Nat.le_of_ble_eq_true rfl, Nat.le_of_ble_eq_true rfl⟩ ⟨Nat.le_of_ble_eq_true rfl, Nat.le_of_ble_eq_true rfl⟩ (Nat.le_of_ble_eq_true rfl) dX9_init_59 rfl ?_
  rintro n1 g1 ⟨rfl, rfl⟩
  refine ir_iinc (q := 65) (v := 0) (w := 1) [some (.ref (b + 146)), some (.int 1)] dX9_init_62 rfl rfl (by decide) (by decide) rfl rfl ?_
  refine ir_goto (tgt := 46) dX9_init_65 (by decide) ?_
  refine ir_iload_n (q := 47) (v := 1) dX9_init_46 rfl rfl ?_
  refine ir_iconst (q := 48) (v := 4) dX9_init_47 rfl (by decide) ?_
  refine ir_icmp_ge (q := 51) (tgt := 68) dX9_init_48 (by decide) rfl (fun z => absurd z (by decide)) (fun _ => ?_)
  refine ir_aload_n (q := 52) (v := b + 146) dX9_init_51 rfl rfl ?_
  refine ir_getr (q := 55) (k := 146) (N := 7) (j := 2) (a := b + 147) (C := RX9) (Tf := TX9) (fs := [.int 0, .int 0, .ref (b + 147), .ref (b + 152), .ref (b + 153), .ref (b + 154), .ref (b + 155)]) (by decide) rfl rfl (by decide) inX9 rfl (by decide +kernel) dX9_init_52 rfl ?_
  refine ir_iload_n (q := 56) (v := 1) dX9_init_55 rfl rfl ?_
  refine ir_aald (q := 57) (k := 147) (N := 4) (a := b + 149) (by decide) rfl (ii_vp (by decide) (by decide)) rfl dX9_init_56 rfl ?_
  refine ir_bipush (q := 59) (v := 50) dX9_init_57 rfl (by decide) ?_
  refine ir_callS (q := 62) (M' := im_fill) (As := [.ref (b + 149), .int (50)]) (ik_fill (k := 149) (N := 4) (f := (fun _ => 0)) (by decide) rfl (by decide)) rfl ⟨iv_0, iv_1, iv_2⟩ iv_3 ⟨rfl, rfl⟩ (by decide +kernel) ⟨Nat.le_of_ble_eq_true rfl, Nat.le_of_ble_eq_true rfl⟩ ⟨Nat.le_of_ble_eq_true rfl, Nat.le_of_ble_eq_true rfl⟩ (Nat.le_of_ble_eq_true rfl) dX9_init_59 rfl ?_
  rintro n1 g1 ⟨rfl, rfl⟩
  refine ir_iinc (q := 65) (v := 1) (w := 2) [some (.ref (b + 146)), some (.int 2)] dX9_init_62 rfl rfl (by decide) (by decide) rfl rfl ?_
  refine ir_goto (tgt := 46) dX9_init_65 (by decide) ?_
  refine ir_iload_n (q := 47) (v := 2) dX9_init_46 rfl rfl ?_
  refine ir_iconst (q := 48) (v := 4) dX9_init_47 rfl (by decide) ?_
  refine ir_icmp_ge (q := 51) (tgt := 68) dX9_init_48 (by decide) rfl (fun z => absurd z (by decide)) (fun _ => ?_)
  refine ir_aload_n (q := 52) (v := b + 146) dX9_init_51 rfl rfl ?_
  refine ir_getr (q := 55) (k := 146) (N := 7) (j := 2) (a := b + 147) (C := RX9) (Tf := TX9) (fs := [.int 0, .int 0, .ref (b + 147), .ref (b + 152), .ref (b + 153), .ref (b + 154), .ref (b + 155)]) (by decide) rfl rfl (by decide) inX9 rfl (by decide +kernel) dX9_init_52 rfl ?_
  refine ir_iload_n (q := 56) (v := 2) dX9_init_55 rfl rfl ?_
  refine ir_aald (q := 57) (k := 147) (N := 4) (a := b + 150) (by decide) rfl (ii_vp (by decide) (by decide)) rfl dX9_init_56 rfl ?_
  refine ir_bipush (q := 59) (v := 50) dX9_init_57 rfl (by decide) ?_
  refine ir_callS (q := 62) (M' := im_fill) (As := [.ref (b + 150), .int (50)]) (ik_fill (k := 150) (N := 4) (f := (fun _ => 0)) (by decide) rfl (by decide)) rfl ⟨iv_0, iv_1, iv_2⟩ iv_3 ⟨rfl, rfl⟩ (by decide +kernel) ⟨Nat.le_of_ble_eq_true rfl, Nat.le_of_ble_eq_true rfl⟩ ⟨Nat.le_of_ble_eq_true rfl, Nat.le_of_ble_eq_true rfl⟩ (Nat.le_of_ble_eq_true rfl) dX9_init_59 rfl ?_
  rintro n1 g1 ⟨rfl, rfl⟩
  refine ir_iinc (q := 65) (v := 2) (w := 3) [some (.ref (b + 146)), some (.int 3)] dX9_init_62 rfl rfl (by decide) (by decide) rfl rfl ?_
  refine ir_goto (tgt := 46) dX9_init_65 (by decide) ?_
  refine ir_iload_n (q := 47) (v := 3) dX9_init_46 rfl rfl ?_
  refine ir_iconst (q := 48) (v := 4) dX9_init_47 rfl (by decide) ?_
  refine ir_icmp_ge (q := 51) (tgt := 68) dX9_init_48 (by decide) rfl (fun z => absurd z (by decide)) (fun _ => ?_)
  refine ir_aload_n (q := 52) (v := b + 146) dX9_init_51 rfl rfl ?_
  refine ir_getr (q := 55) (k := 146) (N := 7) (j := 2) (a := b + 147) (C := RX9) (Tf := TX9) (fs := [.int 0, .int 0, .ref (b + 147), .ref (b + 152), .ref (b + 153), .ref (b + 154), .ref (b + 155)]) (by decide) rfl rfl (by decide) inX9 rfl (by decide +kernel) dX9_init_52 rfl ?_
  refine ir_iload_n (q := 56) (v := 3) dX9_init_55 rfl rfl ?_
  refine ir_aald (q := 57) (k := 147) (N := 4) (a := b + 151) (by decide) rfl (ii_vp (by decide) (by decide)) rfl dX9_init_56 rfl ?_
  refine ir_bipush (q := 59) (v := 50) dX9_init_57 rfl (by decide) ?_
  refine ir_callS (q := 62) (M' := im_fill) (As := [.ref (b + 151), .int (50)]) (ik_fill (k := 151) (N := 4) (f := (fun _ => 0)) (by decide) rfl (by decide)) rfl ⟨iv_0, iv_1, iv_2⟩ iv_3 ⟨rfl, rfl⟩ (by decide +kernel) ⟨Nat.le_of_ble_eq_true rfl, Nat.le_of_ble_eq_true rfl⟩ ⟨Nat.le_of_ble_eq_true rfl, Nat.le_of_ble_eq_true rfl⟩ (Nat.le_of_ble_eq_true rfl) dX9_init_59 rfl ?_
  rintro n1 g1 ⟨rfl, rfl⟩
  refine ir_iinc (q := 65) (v := 3) (w := 4) [some (.ref (b + 146)), some (.int 4)] dX9_init_62 rfl rfl (by decide) (by decide) rfl rfl ?_
  refine ir_goto (tgt := 46) dX9_init_65 (by decide) ?_
  refine ir_iload_n (q := 47) (v := 4) dX9_init_46 rfl rfl ?_
  refine ir_iconst (q := 48) (v := 4) dX9_init_47 rfl (by decide) ?_
  refine ir_icmp_ge (q := 51) (tgt := 68) dX9_init_48 (by decide) rfl (fun _ => ?_) (fun z => absurd (by decide) z)
  exact ir_vret dX9_init_68 rfl ⟨rfl, rfl⟩
theorem il_X9_146 {x : vv_E} {b : Nat} {g : ii_G} {a : Nat} (h : a < 146) : ig_X9_146 x b g a = g a := by
  unfold ig_X9_146
  rw [ii_up_ne (by omega)]
  rw [ii_up_ne (by omega)]
  rw [ii_up_ne (by omega)]
  rw [ii_up_ne (by omega)]
  rw [ii_up_ne (by omega)]
  rw [ii_up_ne (by omega)]
  rw [ii_up_ne (by omega)]
  rw [ii_up_ne (by omega)]
  rw [ii_up_ne (by omega)]
  rw [ii_up_ne (by omega)]
  rw [ii_up_ne (by omega)]
  rw [ii_up_ne (by omega)]
  rw [ii_up_ne (by omega)]
  rw [ii_rows_lt (by omega)]
