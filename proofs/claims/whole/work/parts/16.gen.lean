def ff_X10_nameIn (h : vv_H) (v1 : Int32) (v2 : Int32) : Option (Int32) := (ff_X10_spells h 0 v1 v2).bind (fun r1 => (if r1 = 0 then (ff_X10_spells h 1 v1 v2).bind (fun r3 => (if r3 = 0 then (ff_X10_spells h 2 v1 v2).bind (fun r5 => (if r5 = 0 then (ff_X10_spells h 3 v1 v2).bind (fun r7 => (if r7 = 0 then (ff_X10_spells h 4 v1 v2).bind (fun r9 => (if r9 = 0 then (ff_X10_spells h 5 v1 v2).bind (fun r11 => (if r11 = 0 then (ff_X10_spells h 6 v1 v2).bind (fun r13 => (if r13 = 0 then (ff_X10_spells h 7 v1 v2).bind (fun r15 => (if r15 = 0 then (ff_X10_spells h 8 v1 v2).bind (fun r17 => (if r17 = 0 then some (1 : Int32) else some (15 : Int32))) else some (14 : Int32))) else some (13 : Int32))) else some (12 : Int32))) else some (11 : Int32))) else some (10 : Int32))) else some (9 : Int32))) else some (8 : Int32))) else some (7 : Int32)))
set_option maxHeartbeats 200000 in
theorem vt_X10_nameIn {x : vv_E} {post : Option Value → vv_H → Prop} {h : vv_H} {v1 : Int32} {v2 : Int32} {o : Int32}  (hm : ff_X10_nameIn  h v1 v2 = some o) (hp : post (some (.int o)) h) : vv_V x vv_TC mm_X10_nameIn post 0 [some (.ref (vv_ad x 50)), some (.int v1), some (.int v2)] [] h := by
  unfold ff_X10_nameIn at hm
  refine rr_aload_n (q := 1) dX10_nameIn_0 rfl rfl ?_
  refine rr_ldcs 0 (q := 3) (Nat.le_of_ble_eq_true rfl) rfl dX10_nameIn_1 rfl ?_
  refine rr_iload_n (q := 4) dX10_nameIn_3 rfl rfl ?_
  refine rr_iload_n (q := 5) dX10_nameIn_4 rfl rfl ?_
  obtain ⟨r1, k2, hm⟩ := vv_bind hm
  refine rr_callV (q := 8) (M' := mm_X10_spells) (As := [.ref (vv_sa x 0), .int v1, .int v2]) (st := []) (w := some (.int r1)) (cc_X10_spells (Nat.le_of_ble_eq_true rfl) k2) rfl ylC_50 ynC_50 rfl vy_X10_spells zw_914 ⟨Nat.le_of_ble_eq_true rfl, Nat.le_of_ble_eq_true rfl⟩ (Nat.le_of_ble_eq_true rfl) dX10_nameIn_5 rfl ?_
  show vv_V x vv_TC mm_X10_nameIn post 8 [some (.ref (vv_ad x 50)), some (.int v1), some (.int v2)] [.int r1] h
  refine rr_if_eq (q := 11) (tgt := 14) dX10_nameIn_8 (by decide) rfl hm (fun hm => ?_) (fun hm => ?_)
  · refine rr_aload_n (q := 15) dX10_nameIn_14 rfl rfl ?_
    refine rr_ldcs 1 (q := 17) (Nat.le_of_ble_eq_true rfl) rfl dX10_nameIn_15 rfl ?_
    refine rr_iload_n (q := 18) dX10_nameIn_17 rfl rfl ?_
    refine rr_iload_n (q := 19) dX10_nameIn_18 rfl rfl ?_
    obtain ⟨r3, k4, hm⟩ := vv_bind hm
    refine rr_callV (q := 22) (M' := mm_X10_spells) (As := [.ref (vv_sa x 1), .int v1, .int v2]) (st := []) (w := some (.int r3)) (cc_X10_spells (Nat.le_of_ble_eq_true rfl) k4) rfl ylC_50 ynC_50 rfl vy_X10_spells zw_914 ⟨Nat.le_of_ble_eq_true rfl, Nat.le_of_ble_eq_true rfl⟩ (Nat.le_of_ble_eq_true rfl) dX10_nameIn_19 rfl ?_
    show vv_V x vv_TC mm_X10_nameIn post 22 [some (.ref (vv_ad x 50)), some (.int v1), some (.int v2)] [.int r3] h
    refine rr_if_eq (q := 25) (tgt := 28) dX10_nameIn_22 (by decide) rfl hm (fun hm => ?_) (fun hm => ?_)
    · refine rr_aload_n (q := 29) dX10_nameIn_28 rfl rfl ?_
      refine rr_ldcs 2 (q := 31) (Nat.le_of_ble_eq_true rfl) rfl dX10_nameIn_29 rfl ?_
      refine rr_iload_n (q := 32) dX10_nameIn_31 rfl rfl ?_
      refine rr_iload_n (q := 33) dX10_nameIn_32 rfl rfl ?_
      obtain ⟨r5, k6, hm⟩ := vv_bind hm
      refine rr_callV (q := 36) (M' := mm_X10_spells) (As := [.ref (vv_sa x 2), .int v1, .int v2]) (st := []) (w := some (.int r5)) (cc_X10_spells (Nat.le_of_ble_eq_true rfl) k6) rfl ylC_50 ynC_50 rfl vy_X10_spells zw_914 ⟨Nat.le_of_ble_eq_true rfl, Nat.le_of_ble_eq_true rfl⟩ (Nat.le_of_ble_eq_true rfl) dX10_nameIn_33 rfl ?_
      show vv_V x vv_TC mm_X10_nameIn post 36 [some (.ref (vv_ad x 50)), some (.int v1), some (.int v2)] [.int r5] h
      refine rr_if_eq (q := 39) (tgt := 42) dX10_nameIn_36 (by decide) rfl hm (fun hm => ?_) (fun hm => ?_)
      · refine rr_aload_n (q := 43) dX10_nameIn_42 rfl rfl ?_
        refine rr_ldcs 3 (q := 45) (Nat.le_of_ble_eq_true rfl) rfl dX10_nameIn_43 rfl ?_
        refine rr_iload_n (q := 46) dX10_nameIn_45 rfl rfl ?_
        refine rr_iload_n (q := 47) dX10_nameIn_46 rfl rfl ?_
        obtain ⟨r7, k8, hm⟩ := vv_bind hm
        refine rr_callV (q := 50) (M' := mm_X10_spells) (As := [.ref (vv_sa x 3), .int v1, .int v2]) (st := []) (w := some (.int r7)) (cc_X10_spells (Nat.le_of_ble_eq_true rfl) k8) rfl ylC_50 ynC_50 rfl vy_X10_spells zw_914 ⟨Nat.le_of_ble_eq_true rfl, Nat.le_of_ble_eq_true rfl⟩ (Nat.le_of_ble_eq_true rfl) dX10_nameIn_47 rfl ?_
        show vv_V x vv_TC mm_X10_nameIn post 50 [some (.ref (vv_ad x 50)), some (.int v1), some (.int v2)] [.int r7] h
        refine rr_if_eq (q := 53) (tgt := 56) dX10_nameIn_50 (by decide) rfl hm (fun hm => ?_) (fun hm => ?_)
        · refine rr_aload_n (q := 57) dX10_nameIn_56 rfl rfl ?_
          refine rr_ldcs 4 (q := 59) (Nat.le_of_ble_eq_true rfl) rfl dX10_nameIn_57 rfl ?_
          refine rr_iload_n (q := 60) dX10_nameIn_59 rfl rfl ?_
          refine rr_iload_n (q := 61) dX10_nameIn_60 rfl rfl ?_
          obtain ⟨r9, k10, hm⟩ := vv_bind hm
          refine rr_callV (q := 64) (M' := mm_X10_spells) (As := [.ref (vv_sa x 4), .int v1, .int v2]) (st := []) (w := some (.int r9)) (cc_X10_spells (Nat.le_of_ble_eq_true rfl) k10) rfl ylC_50 ynC_50 rfl vy_X10_spells zw_914 ⟨Nat.le_of_ble_eq_true rfl, Nat.le_of_ble_eq_true rfl⟩ (Nat.le_of_ble_eq_true rfl) dX10_nameIn_61 rfl ?_
          show vv_V x vv_TC mm_X10_nameIn post 64 [some (.ref (vv_ad x 50)), some (.int v1), some (.int v2)] [.int r9] h
          refine rr_if_eq (q := 67) (tgt := 70) dX10_nameIn_64 (by decide) rfl hm (fun hm => ?_) (fun hm => ?_)
          · refine rr_aload_n (q := 71) dX10_nameIn_70 rfl rfl ?_
            refine rr_ldcs 5 (q := 73) (Nat.le_of_ble_eq_true rfl) rfl dX10_nameIn_71 rfl ?_
            refine rr_iload_n (q := 74) dX10_nameIn_73 rfl rfl ?_
            refine rr_iload_n (q := 75) dX10_nameIn_74 rfl rfl ?_
            obtain ⟨r11, k12, hm⟩ := vv_bind hm
            refine rr_callV (q := 78) (M' := mm_X10_spells) (As := [.ref (vv_sa x 5), .int v1, .int v2]) (st := []) (w := some (.int r11)) (cc_X10_spells (Nat.le_of_ble_eq_true rfl) k12) rfl ylC_50 ynC_50 rfl vy_X10_spells zw_914 ⟨Nat.le_of_ble_eq_true rfl, Nat.le_of_ble_eq_true rfl⟩ (Nat.le_of_ble_eq_true rfl) dX10_nameIn_75 rfl ?_
            show vv_V x vv_TC mm_X10_nameIn post 78 [some (.ref (vv_ad x 50)), some (.int v1), some (.int v2)] [.int r11] h
            refine rr_if_eq (q := 81) (tgt := 84) dX10_nameIn_78 (by decide) rfl hm (fun hm => ?_) (fun hm => ?_)
            · refine rr_aload_n (q := 85) dX10_nameIn_84 rfl rfl ?_
              refine rr_ldcs 6 (q := 87) (Nat.le_of_ble_eq_true rfl) rfl dX10_nameIn_85 rfl ?_
              refine rr_iload_n (q := 88) dX10_nameIn_87 rfl rfl ?_
              refine rr_iload_n (q := 89) dX10_nameIn_88 rfl rfl ?_
              obtain ⟨r13, k14, hm⟩ := vv_bind hm
              refine rr_callV (q := 92) (M' := mm_X10_spells) (As := [.ref (vv_sa x 6), .int v1, .int v2]) (st := []) (w := some (.int r13)) (cc_X10_spells (Nat.le_of_ble_eq_true rfl) k14) rfl ylC_50 ynC_50 rfl vy_X10_spells zw_914 ⟨Nat.le_of_ble_eq_true rfl, Nat.le_of_ble_eq_true rfl⟩ (Nat.le_of_ble_eq_true rfl) dX10_nameIn_89 rfl ?_
              show vv_V x vv_TC mm_X10_nameIn post 92 [some (.ref (vv_ad x 50)), some (.int v1), some (.int v2)] [.int r13] h
              refine rr_if_eq (q := 95) (tgt := 98) dX10_nameIn_92 (by decide) rfl hm (fun hm => ?_) (fun hm => ?_)
              · refine rr_aload_n (q := 99) dX10_nameIn_98 rfl rfl ?_
                refine rr_ldcs 7 (q := 101) (Nat.le_of_ble_eq_true rfl) rfl dX10_nameIn_99 rfl ?_
                refine rr_iload_n (q := 102) dX10_nameIn_101 rfl rfl ?_
                refine rr_iload_n (q := 103) dX10_nameIn_102 rfl rfl ?_
                obtain ⟨r15, k16, hm⟩ := vv_bind hm
                refine rr_callV (q := 106) (M' := mm_X10_spells) (As := [.ref (vv_sa x 7), .int v1, .int v2]) (st := []) (w := some (.int r15)) (cc_X10_spells (Nat.le_of_ble_eq_true rfl) k16) rfl ylC_50 ynC_50 rfl vy_X10_spells zw_914 ⟨Nat.le_of_ble_eq_true rfl, Nat.le_of_ble_eq_true rfl⟩ (Nat.le_of_ble_eq_true rfl) dX10_nameIn_103 rfl ?_
                show vv_V x vv_TC mm_X10_nameIn post 106 [some (.ref (vv_ad x 50)), some (.int v1), some (.int v2)] [.int r15] h
                refine rr_if_eq (q := 109) (tgt := 112) dX10_nameIn_106 (by decide) rfl hm (fun hm => ?_) (fun hm => ?_)
                · refine rr_aload_n (q := 113) dX10_nameIn_112 rfl rfl ?_
                  refine rr_ldcs 8 (q := 115) (Nat.le_of_ble_eq_true rfl) rfl dX10_nameIn_113 rfl ?_
                  refine rr_iload_n (q := 116) dX10_nameIn_115 rfl rfl ?_
                  refine rr_iload_n (q := 117) dX10_nameIn_116 rfl rfl ?_
                  obtain ⟨r17, k18, hm⟩ := vv_bind hm
                  refine rr_callV (q := 120) (M' := mm_X10_spells) (As := [.ref (vv_sa x 8), .int v1, .int v2]) (st := []) (w := some (.int r17)) (cc_X10_spells (Nat.le_of_ble_eq_true rfl) k18) rfl ylC_50 ynC_50 rfl vy_X10_spells zw_914 ⟨Nat.le_of_ble_eq_true rfl, Nat.le_of_ble_eq_true rfl⟩ (Nat.le_of_ble_eq_true rfl) dX10_nameIn_117 rfl ?_
                  show vv_V x vv_TC mm_X10_nameIn post 120 [some (.ref (vv_ad x 50)), some (.int v1), some (.int v2)] [.int r17] h
                  refine rr_if_eq (q := 123) (tgt := 128) dX10_nameIn_120 (by decide) rfl hm (fun hm => ?_) (fun hm => ?_)
                  · refine rr_iconst (q := 129) (v := 1) dX10_nameIn_128 rfl (by decide) ?_
                    obtain rfl := Option.some.inj hm
                    exact rr_iret dX10_nameIn_129 rfl hp
                  · refine rr_bipush (q := 125) (v := 15) dX10_nameIn_123 rfl (by decide) ?_
                    refine rr_goto (tgt := 129) dX10_nameIn_125 (by decide) ?_
                    obtain rfl := Option.some.inj hm
                    exact rr_iret dX10_nameIn_129 rfl hp
                · refine rr_bipush (q := 111) (v := 14) dX10_nameIn_109 rfl (by decide) ?_
                  obtain rfl := Option.some.inj hm
                  exact rr_iret dX10_nameIn_111 rfl hp
              · refine rr_bipush (q := 97) (v := 13) dX10_nameIn_95 rfl (by decide) ?_
                obtain rfl := Option.some.inj hm
                exact rr_iret dX10_nameIn_97 rfl hp
            · refine rr_bipush (q := 83) (v := 12) dX10_nameIn_81 rfl (by decide) ?_
              obtain rfl := Option.some.inj hm
              exact rr_iret dX10_nameIn_83 rfl hp
          · refine rr_bipush (q := 69) (v := 11) dX10_nameIn_67 rfl (by decide) ?_
            obtain rfl := Option.some.inj hm
            exact rr_iret dX10_nameIn_69 rfl hp
        · refine rr_bipush (q := 55) (v := 10) dX10_nameIn_53 rfl (by decide) ?_
          obtain rfl := Option.some.inj hm
          exact rr_iret dX10_nameIn_55 rfl hp
      · refine rr_bipush (q := 41) (v := 9) dX10_nameIn_39 rfl (by decide) ?_
        obtain rfl := Option.some.inj hm
        exact rr_iret dX10_nameIn_41 rfl hp
    · refine rr_bipush (q := 27) (v := 8) dX10_nameIn_25 rfl (by decide) ?_
      obtain rfl := Option.some.inj hm
      exact rr_iret dX10_nameIn_27 rfl hp
  · refine rr_bipush (q := 13) (v := 7) dX10_nameIn_11 rfl (by decide) ?_
    obtain rfl := Option.some.inj hm
    exact rr_iret dX10_nameIn_13 rfl hp
theorem cc_X10_nameIn {x : vv_E} {h : vv_H} {v1 : Int32} {v2 : Int32} {o : Int32}  (hm : ff_X10_nameIn h v1 v2 = some o) : vv_C x vv_TC yX10_nameIn mm_X10_nameIn [.ref (vv_ad x 50), .int v1, .int v2] h (fun v g => v = some (.int o) ∧ g = h) := vv_entry (by decide +kernel) rfl (Nat.le_of_ble_eq_true rfl) rfl (vt_X10_nameIn  hm ⟨rfl, rfl⟩)
def ff_X10_kindOfRun (h : vv_H) (v1 : Int32) (v2 : Int32) : Option (Int32) := vv_ck v1 240 ((ff_X10_isLetter (h.1 51 v1.toNatClampNeg)).bind (fun r2 => (if r2 = 0 then vv_ck v1 240 ((ff_X10_isFigure (h.1 51 v1.toNatClampNeg)).bind (fun r5 => (if r5 = 0 then vv_ck v1 240 ((if (h.1 51 v1.toNatClampNeg) = 59 then some (6 : Int32) else (if (h.1 51 v1.toNatClampNeg) = 60 then some (3 : Int32) else (if (h.1 51 v1.toNatClampNeg) = 61 then some (4 : Int32) else (if (h.1 51 v1.toNatClampNeg) = 62 then some (5 : Int32) else some (1 : Int32)))))) else (if (v2 - v1) ≤ (4 : Int32) then some (2 : Int32) else some (1 : Int32))))) else (ff_X10_nameIn h v1 v2).bind (fun r8 => some r8))))
set_option maxHeartbeats 200000 in
theorem vt_X10_kindOfRun {x : vv_E} {post : Option Value → vv_H → Prop} {h : vv_H} {v1 : Int32} {v2 : Int32} {o : Int32}  (hm : ff_X10_kindOfRun  h v1 v2 = some o) (hp : post (some (.int o)) h) : vv_V x vv_TC mm_X10_kindOfRun post 0 [some (.ref (vv_ad x 50)), some (.int v1), some (.int v2)] [] h := by
  unfold ff_X10_kindOfRun at hm
  refine rr_aload_n (q := 1) dX10_kindOfRun_0 rfl rfl ?_
  refine gf_X10_9 (q := 4) rfl dX10_kindOfRun_1 rfl ?_
  refine rr_iload_n (q := 5) dX10_kindOfRun_4 rfl rfl ?_
  obtain ⟨c1, hm⟩ := vv_ck_of hm
  refine rr_bald (q := 6) ylC_51 ynC_51 c1 dX10_kindOfRun_5 rfl ?_
  obtain ⟨r2, k3, hm⟩ := vv_bind hm
  refine rr_callS (q := 9) (M' := mm_X10_isLetter) (As := [.int (h.1 51 v1.toNatClampNeg)]) (st := []) (w := some (.int r2))  (cc_X10_isLetter  k3) rfl vy_X10_isLetter zw_210 ⟨Nat.le_of_ble_eq_true rfl, Nat.le_of_ble_eq_true rfl⟩ (Nat.le_of_ble_eq_true rfl) dX10_kindOfRun_6 rfl ?_
  show vv_V x vv_TC mm_X10_kindOfRun post 9 [some (.ref (vv_ad x 50)), some (.int v1), some (.int v2)] [.int r2] h
  refine rr_if_eq (q := 12) (tgt := 19) dX10_kindOfRun_9 (by decide) rfl hm (fun hm => ?_) (fun hm => ?_)
  · refine rr_aload_n (q := 20) dX10_kindOfRun_19 rfl rfl ?_
    refine gf_X10_9 (q := 23) rfl dX10_kindOfRun_20 rfl ?_
    refine rr_iload_n (q := 24) dX10_kindOfRun_23 rfl rfl ?_
    obtain ⟨c4, hm⟩ := vv_ck_of hm
    refine rr_bald (q := 25) ylC_51 ynC_51 c4 dX10_kindOfRun_24 rfl ?_
    obtain ⟨r5, k6, hm⟩ := vv_bind hm
    refine rr_callS (q := 28) (M' := mm_X10_isFigure) (As := [.int (h.1 51 v1.toNatClampNeg)]) (st := []) (w := some (.int r5))  (cc_X10_isFigure  k6) rfl vy_X10_isFigure zw_214 ⟨Nat.le_of_ble_eq_true rfl, Nat.le_of_ble_eq_true rfl⟩ (Nat.le_of_ble_eq_true rfl) dX10_kindOfRun_25 rfl ?_
    show vv_V x vv_TC mm_X10_kindOfRun post 28 [some (.ref (vv_ad x 50)), some (.int v1), some (.int v2)] [.int r5] h
    refine rr_if_eq (q := 31) (tgt := 44) dX10_kindOfRun_28 (by decide) rfl hm (fun hm => ?_) (fun hm => ?_)
    · refine rr_aload_n (q := 45) dX10_kindOfRun_44 rfl rfl ?_
      refine gf_X10_9 (q := 48) rfl dX10_kindOfRun_45 rfl ?_
      refine rr_iload_n (q := 49) dX10_kindOfRun_48 rfl rfl ?_
      obtain ⟨c7, hm⟩ := vv_ck_of hm
      refine rr_bald (q := 50) ylC_51 ynC_51 c7 dX10_kindOfRun_49 rfl ?_
      by_cases c0s : (h.1 51 v1.toNatClampNeg) = (59 : Int32)
      · rw [if_pos c0s] at hm
        refine rr_tswI (tgt := 86) dX10_kindOfRun_50 (by rw [c0s]; decide) (by rw [c0s]; decide) (by rw [c0s]; rfl) (by decide) ?_
        refine rr_bipush (q := 88) (v := 6) dX10_kindOfRun_86 rfl (by decide) ?_
        obtain rfl := Option.some.inj hm
        exact rr_iret dX10_kindOfRun_88 rfl hp
      · rw [if_neg c0s] at hm
        by_cases c1s : (h.1 51 v1.toNatClampNeg) = (60 : Int32)
        · rw [if_pos c1s] at hm
          refine rr_tswI (tgt := 80) dX10_kindOfRun_50 (by rw [c1s]; decide) (by rw [c1s]; decide) (by rw [c1s]; rfl) (by decide) ?_
          refine rr_iconst (q := 81) (v := 3) dX10_kindOfRun_80 rfl (by decide) ?_
          obtain rfl := Option.some.inj hm
          exact rr_iret dX10_kindOfRun_81 rfl hp
        · rw [if_neg c1s] at hm
          by_cases c2s : (h.1 51 v1.toNatClampNeg) = (61 : Int32)
          · rw [if_pos c2s] at hm
            refine rr_tswI (tgt := 82) dX10_kindOfRun_50 (by rw [c2s]; decide) (by rw [c2s]; decide) (by rw [c2s]; rfl) (by decide) ?_
            refine rr_iconst (q := 83) (v := 4) dX10_kindOfRun_82 rfl (by decide) ?_
            obtain rfl := Option.some.inj hm
            exact rr_iret dX10_kindOfRun_83 rfl hp
          · rw [if_neg c2s] at hm
            by_cases c3s : (h.1 51 v1.toNatClampNeg) = (62 : Int32)
            · rw [if_pos c3s] at hm
              refine rr_tswI (tgt := 84) dX10_kindOfRun_50 (by rw [c3s]; decide) (by rw [c3s]; decide) (by rw [c3s]; rfl) (by decide) ?_
              refine rr_iconst (q := 85) (v := 5) dX10_kindOfRun_84 rfl (by decide) ?_
              obtain rfl := Option.some.inj hm
              exact rr_iret dX10_kindOfRun_85 rfl hp
            · rw [if_neg c3s] at hm
              refine rr_tswO (tgt := 89) dX10_kindOfRun_50 (by have y0 : (h.1 51 v1.toNatClampNeg).toInt ≠ 59 := fun e => c0s (Int32.toInt_inj.mp (e.trans (by decide))); have y1 : (h.1 51 v1.toNatClampNeg).toInt ≠ 60 := fun e => c1s (Int32.toInt_inj.mp (e.trans (by decide))); have y2 : (h.1 51 v1.toNatClampNeg).toInt ≠ 61 := fun e => c2s (Int32.toInt_inj.mp (e.trans (by decide))); have y3 : (h.1 51 v1.toNatClampNeg).toInt ≠ 62 := fun e => c3s (Int32.toInt_inj.mp (e.trans (by decide))); omega) (by decide) ?_
              refine rr_iconst (q := 90) (v := 1) dX10_kindOfRun_89 rfl (by decide) ?_
              obtain rfl := Option.some.inj hm
              exact rr_iret dX10_kindOfRun_90 rfl hp
    · refine rr_iload_n (q := 32) dX10_kindOfRun_31 rfl rfl ?_
      refine rr_iload_n (q := 33) dX10_kindOfRun_32 rfl rfl ?_
      refine rr_isub (q := 34) dX10_kindOfRun_33 rfl ?_
      refine rr_iconst (q := 35) (v := 4) dX10_kindOfRun_34 rfl (by decide) ?_
      refine rr_icmp_le (q := 38) (tgt := 42) dX10_kindOfRun_35 (by decide) rfl hm (fun hm => ?_) (fun hm => ?_)
      · refine rr_iconst (q := 43) (v := 2) dX10_kindOfRun_42 rfl (by decide) ?_
        obtain rfl := Option.some.inj hm
        exact rr_iret dX10_kindOfRun_43 rfl hp
      · refine rr_iconst (q := 39) (v := 1) dX10_kindOfRun_38 rfl (by decide) ?_
        refine rr_goto (tgt := 43) dX10_kindOfRun_39 (by decide) ?_
        obtain rfl := Option.some.inj hm
        exact rr_iret dX10_kindOfRun_43 rfl hp
  · refine rr_aload_n (q := 13) dX10_kindOfRun_12 rfl rfl ?_
    refine rr_iload_n (q := 14) dX10_kindOfRun_13 rfl rfl ?_
    refine rr_iload_n (q := 15) dX10_kindOfRun_14 rfl rfl ?_
    obtain ⟨r8, k9, hm⟩ := vv_bind hm
    refine rr_callV (q := 18) (M' := mm_X10_nameIn) (As := [.int v1, .int v2]) (st := []) (w := some (.int r8)) (cc_X10_nameIn  k9) rfl ylC_50 ynC_50 rfl vy_X10_nameIn zw_919 ⟨Nat.le_of_ble_eq_true rfl, Nat.le_of_ble_eq_true rfl⟩ (Nat.le_of_ble_eq_true rfl) dX10_kindOfRun_15 rfl ?_
    show vv_V x vv_TC mm_X10_kindOfRun post 18 [some (.ref (vv_ad x 50)), some (.int v1), some (.int v2)] [.int r8] h
    obtain rfl := Option.some.inj hm
    exact rr_iret dX10_kindOfRun_18 rfl hp
theorem cc_X10_kindOfRun {x : vv_E} {h : vv_H} {v1 : Int32} {v2 : Int32} {o : Int32}  (hm : ff_X10_kindOfRun h v1 v2 = some o) : vv_C x vv_TC yX10_kindOfRun mm_X10_kindOfRun [.ref (vv_ad x 50), .int v1, .int v2] h (fun v g => v = some (.int o) ∧ g = h) := vv_entry (by decide +kernel) rfl (Nat.le_of_ble_eq_true rfl) rfl (vt_X10_kindOfRun  hm ⟨rfl, rfl⟩)
def ff_X10_cut_J67  (m1 : Int32) (m2 : Int32) (m3 : Int32) (z0 : Int32) (z1 : Int32) (z2 : Int32) (hh : vv_H) : Option ((Int32 × Int32 × vv_H) ⊕ ((vv_H) ⊕ (vv_H))) := (ff_X10_keep hh z2 z1 z0).bind (fun r10 => (if m3 = (1 : Int32) then some (.inr (.inr r10)) else vv_let (m2 + 1) (fun w12 => some (.inl (m1, w12, r10)))))
def ff_X10_cut_B9  (s1 : Int32) (s2 : Int32) (h : vv_H) : Option ((Int32 × Int32 × vv_H) ⊕ ((vv_H) ⊕ (vv_H))) := (if (h.1 50 0) ≤ s2 then some (.inr (.inl h)) else (if s2 < s1 then vv_let (s2 + 1) (fun w3 => some (.inl (s1, w3, h))) else vv_ck s2 240 ((if (h.1 51 s2.toNatClampNeg) = (32 : Int32) then vv_let (s2 + 1) (fun w16 => some (.inl (s1, w16, h))) else (ff_X10_runBehind h s2).bind (fun r6 => (ff_X10_kindOfRun h s2 r6).bind (fun r8 => (if r8 = (2 : Int32) then (ff_X10_numberIn h s2 r6).bind (fun r14 => ff_X10_cut_J67  r6 s2 r8 r14 s2 r8 h) else ff_X10_cut_J67  r6 s2 r8 (0 : Int32) s2 r8 h)))))))
def ff_X10_cut (h : vv_H) : Option (vv_H) := vv_let (vv_iu h 50 1 (0 : Int32)) (fun g1 => (vv_lp (fun (zs : Int32 × Int32 × vv_H) => ff_X10_cut_B9   zs.1 zs.2.1 zs.2.2) vv_F ((0 : Int32), (0 : Int32), g1)).bind (Sum.elim (fun (e19 : (vv_H)) => (ff_X10_keep e19 (0 : Int32) (e19.1 50 0) (0 : Int32)).bind (fun r20 => some r20)) (fun (e22 : (vv_H)) => some e22)))
set_option maxHeartbeats 200000 in
theorem vt_X10_cut_J67 {x : vv_E} {post : Option Value → vv_H → Prop}   {m1 : Int32} {m2 : Int32} {m3 : Int32} {z0 : Int32} {z1 : Int32} {z2 : Int32} {hh : vv_H} {o : (Int32 × Int32 × vv_H) ⊕ ((vv_H) ⊕ (vv_H))}  (hm : ff_X10_cut_J67  m1 m2 m3 z0 z1 z2 hh = some o) (hI : ∀ (z1 : Int32) (z2 : Int32) (zh : vv_H), o = .inl (z1, z2, zh) → vv_V x vv_TC mm_X10_cut post 9 [some (.ref (vv_ad x 50)), some (.int z1), some (.int z2), none] [] zh) (hX0 : ∀  (zh : vv_H), o = .inr (.inl zh) → vv_V x vv_TC mm_X10_cut post 82 [some (.ref (vv_ad x 50)), none, none, none] [] zh) (hX1 : ∀  (zh : vv_H), o = .inr (.inr zh) → vv_V x vv_TC mm_X10_cut post 75 [none, none, none, none] [] zh) : vv_V x vv_TC mm_X10_cut post 67 [some (.ref (vv_ad x 50)), some (.int m1), some (.int m2), some (.int m3)] [.int z0, .int z1, .int z2, .ref (vv_ad x 50)] hh := by
  unfold ff_X10_cut_J67 at hm
  obtain ⟨r10, k11, hm⟩ := vv_bind hm
  refine rr_callV (q := 70) (M' := mm_X10_keep) (As := [.int z2, .int z1, .int z0]) (st := []) (w := none) (cc_X10_keep  k11) rfl ylC_50 ynC_50 rfl vy_X10_keep zw_934 ⟨Nat.le_of_ble_eq_true rfl, Nat.le_of_ble_eq_true rfl⟩ (Nat.le_of_ble_eq_true rfl) dX10_cut_67 rfl ?_
  show vv_V x vv_TC mm_X10_cut post 70 [some (.ref (vv_ad x 50)), some (.int m1), some (.int m2), some (.int m3)] [] r10
  refine rr_iload_n (q := 71) dX10_cut_70 rfl rfl ?_
  refine rr_iconst (q := 72) (v := 1) dX10_cut_71 rfl (by decide) ?_
  refine rr_icmp_ne (q := 75) (tgt := 76) dX10_cut_72 (by decide) rfl hm (fun hm => ?_) (fun hm => ?_)
  · obtain ⟨w12, c13, hm⟩ := vv_let_of hm
    refine rr_iinc (q := 79) [some (.ref (vv_ad x 50)), some (.int m1), some (.int w12), some (.int m3)] dX10_cut_76 rfl rfl c13.symm (Nat.le_of_ble_eq_true rfl) rfl rfl ?_
    refine rr_goto (tgt := 9) dX10_cut_79 (by decide) ?_
    obtain rfl := Option.some.inj hm
    refine rr_sub [true, true, true, false] rfl ?_
    exact hI m1 w12 r10 rfl
  · obtain rfl := Option.some.inj hm
    refine rr_sub [false, false, false, false] rfl ?_
    exact hX1 r10 rfl
set_option maxHeartbeats 200000 in
theorem vt_X10_cut_B9 {x : vv_E} {post : Option Value → vv_H → Prop}  {s1 : Int32} {s2 : Int32} {h : vv_H} {o : (Int32 × Int32 × vv_H) ⊕ ((vv_H) ⊕ (vv_H))}  (hm : ff_X10_cut_B9   s1 s2 h = some o) (hI : ∀ (z1 : Int32) (z2 : Int32) (zh : vv_H), o = .inl (z1, z2, zh) → vv_V x vv_TC mm_X10_cut post 9 [some (.ref (vv_ad x 50)), some (.int z1), some (.int z2), none] [] zh) (hX0 : ∀  (zh : vv_H), o = .inr (.inl zh) → vv_V x vv_TC mm_X10_cut post 82 [some (.ref (vv_ad x 50)), none, none, none] [] zh) (hX1 : ∀  (zh : vv_H), o = .inr (.inr zh) → vv_V x vv_TC mm_X10_cut post 75 [none, none, none, none] [] zh) : vv_V x vv_TC mm_X10_cut post 9 [some (.ref (vv_ad x 50)), some (.int s1), some (.int s2), none] [] h := by
  unfold ff_X10_cut_B9 at hm
  refine rr_iload_n (q := 10) dX10_cut_9 rfl rfl ?_
  refine rr_aload_n (q := 11) dX10_cut_10 rfl rfl ?_
  refine gf_X10_25 (q := 14) rfl dX10_cut_11 rfl ?_
  refine rr_icmp_ge (q := 17) (tgt := 82) dX10_cut_14 (by decide) rfl hm (fun hm => ?_) (fun hm => ?_)
  · obtain rfl := Option.some.inj hm
    refine rr_sub [true, false, false, false] rfl ?_
    exact hX0 h rfl
  · refine rr_iload_n (q := 18) dX10_cut_17 rfl rfl ?_
    refine rr_iload_n (q := 19) dX10_cut_18 rfl rfl ?_
    refine rr_icmp_lt (q := 22) (tgt := 76) dX10_cut_19 (by decide) rfl hm (fun hm => ?_) (fun hm => ?_)
    · obtain ⟨w3, c4, hm⟩ := vv_let_of hm
      refine rr_iinc (q := 79) [some (.ref (vv_ad x 50)), some (.int s1), some (.int w3), none] dX10_cut_76 rfl rfl c4.symm (Nat.le_of_ble_eq_true rfl) rfl rfl ?_
      refine rr_goto (tgt := 9) dX10_cut_79 (by decide) ?_
      obtain rfl := Option.some.inj hm
      exact hI s1 w3 h rfl
    · refine rr_aload_n (q := 23) dX10_cut_22 rfl rfl ?_
      refine gf_X10_9 (q := 26) rfl dX10_cut_23 rfl ?_
      refine rr_iload_n (q := 27) dX10_cut_26 rfl rfl ?_
      obtain ⟨c5, hm⟩ := vv_ck_of hm
      refine rr_bald (q := 28) ylC_51 ynC_51 c5 dX10_cut_27 rfl ?_
      refine rr_bipush (q := 30) (v := 32) dX10_cut_28 rfl (by decide) ?_
      refine rr_icmp_ne (q := 33) (tgt := 36) dX10_cut_30 (by decide) rfl hm (fun hm => ?_) (fun hm => ?_)
      · refine rr_aload_n (q := 37) dX10_cut_36 rfl rfl ?_
        refine rr_iload_n (q := 38) dX10_cut_37 rfl rfl ?_
        obtain ⟨r6, k7, hm⟩ := vv_bind hm
        refine rr_callV (q := 41) (M' := mm_X10_runBehind) (As := [.int s2]) (st := []) (w := some (.int r6)) (cc_X10_runBehind  k7) rfl ylC_50 ynC_50 rfl vy_X10_runBehind zw_924 ⟨Nat.le_of_ble_eq_true rfl, Nat.le_of_ble_eq_true rfl⟩ (Nat.le_of_ble_eq_true rfl) dX10_cut_38 rfl ?_
        show vv_V x vv_TC mm_X10_cut post 41 [some (.ref (vv_ad x 50)), some (.int s1), some (.int s2), none] [.int r6] h
        refine rr_istore_n (q := 42) [some (.ref (vv_ad x 50)), some (.int r6), some (.int s2), none] dX10_cut_41 rfl rfl (Nat.le_of_ble_eq_true rfl) rfl rfl ?_
        refine rr_aload_n (q := 43) dX10_cut_42 rfl rfl ?_
        refine rr_iload_n (q := 44) dX10_cut_43 rfl rfl ?_
        refine rr_iload_n (q := 45) dX10_cut_44 rfl rfl ?_
        obtain ⟨r8, k9, hm⟩ := vv_bind hm
        refine rr_callV (q := 48) (M' := mm_X10_kindOfRun) (As := [.int s2, .int r6]) (st := []) (w := some (.int r8)) (cc_X10_kindOfRun  k9) rfl ylC_50 ynC_50 rfl vy_X10_kindOfRun zw_929 ⟨Nat.le_of_ble_eq_true rfl, Nat.le_of_ble_eq_true rfl⟩ (Nat.le_of_ble_eq_true rfl) dX10_cut_45 rfl ?_
        show vv_V x vv_TC mm_X10_cut post 48 [some (.ref (vv_ad x 50)), some (.int r6), some (.int s2), none] [.int r8] h
        refine rr_istore_n (q := 49) [some (.ref (vv_ad x 50)), some (.int r6), some (.int s2), some (.int r8)] dX10_cut_48 rfl rfl (Nat.le_of_ble_eq_true rfl) rfl rfl ?_
        refine rr_aload_n (q := 50) dX10_cut_49 rfl rfl ?_
        refine rr_iload_n (q := 51) dX10_cut_50 rfl rfl ?_
        refine rr_iload_n (q := 52) dX10_cut_51 rfl rfl ?_
        refine rr_iload_n (q := 53) dX10_cut_52 rfl rfl ?_
        refine rr_iconst (q := 54) (v := 2) dX10_cut_53 rfl (by decide) ?_
        refine rr_icmp_ne (q := 57) (tgt := 66) dX10_cut_54 (by decide) rfl hm (fun hm => ?_) (fun hm => ?_)
        · refine rr_iconst (q := 67) (v := 0) dX10_cut_66 rfl (by decide) ?_
          exact vt_X10_cut_J67  hm hI hX0 hX1
        · refine rr_aload_n (q := 58) dX10_cut_57 rfl rfl ?_
          refine rr_iload_n (q := 59) dX10_cut_58 rfl rfl ?_
          refine rr_iload_n (q := 60) dX10_cut_59 rfl rfl ?_
          obtain ⟨r14, k15, hm⟩ := vv_bind hm
          refine rr_callV (q := 63) (M' := mm_X10_numberIn) (As := [.int s2, .int r6]) (st := [.int s2, .int r8, .ref (vv_ad x 50)]) (w := some (.int r14)) (cc_X10_numberIn  k15) rfl ylC_50 ynC_50 rfl vy_X10_numberIn zw_939 ⟨Nat.le_of_ble_eq_true rfl, Nat.le_of_ble_eq_true rfl⟩ (Nat.le_of_ble_eq_true rfl) dX10_cut_60 rfl ?_
          show vv_V x vv_TC mm_X10_cut post 63 [some (.ref (vv_ad x 50)), some (.int r6), some (.int s2), some (.int r8)] [.int r14, .int s2, .int r8, .ref (vv_ad x 50)] h
          refine rr_goto (tgt := 67) dX10_cut_63 (by decide) ?_
          exact vt_X10_cut_J67  hm hI hX0 hX1
      · refine rr_goto (tgt := 76) dX10_cut_33 (by decide) ?_
        obtain ⟨w16, c17, hm⟩ := vv_let_of hm
        refine rr_iinc (q := 79) [some (.ref (vv_ad x 50)), some (.int s1), some (.int w16), none] dX10_cut_76 rfl rfl c17.symm (Nat.le_of_ble_eq_true rfl) rfl rfl ?_
        refine rr_goto (tgt := 9) dX10_cut_79 (by decide) ?_
        obtain rfl := Option.some.inj hm
        exact hI s1 w16 h rfl
set_option maxHeartbeats 200000 in
theorem vt_X10_cut {x : vv_E} {post : Option Value → vv_H → Prop} {h : vv_H} {o : vv_H}  (hm : ff_X10_cut  h = some o) (hp : post none o) : vv_V x vv_TC mm_X10_cut post 0 [some (.ref (vv_ad x 50)), none, none, none] [] h := by
  unfold ff_X10_cut at hm
  refine rr_aload_n (q := 1) dX10_cut_0 rfl rfl ?_
  refine rr_iconst (q := 2) (v := 0) dX10_cut_1 rfl (by decide) ?_
  refine pf_X10_29 (q := 5) rfl dX10_cut_2 rfl (fun g1 c2 => ?_)
  replace hm := vv_letE hm c2
  refine rr_iconst (q := 6) (v := 0) dX10_cut_5 rfl (by decide) ?_
  refine rr_istore_n (q := 7) [some (.ref (vv_ad x 50)), some (.int (0 : Int32)), none, none] dX10_cut_6 rfl rfl (Nat.le_of_ble_eq_true rfl) rfl rfl ?_
  refine rr_iconst (q := 8) (v := 0) dX10_cut_7 rfl (by decide) ?_
  refine rr_istore_n (q := 9) [some (.ref (vv_ad x 50)), some (.int (0 : Int32)), some (.int (0 : Int32)), none] dX10_cut_8 rfl rfl (Nat.le_of_ble_eq_true rfl) rfl rfl ?_
  obtain ⟨r18, k23, hm⟩ := vv_bind hm
  refine vv_lp_link (P := fun (zs : Int32 × Int32 × vv_H) => vv_V x vv_TC mm_X10_cut post 9 [some (.ref (vv_ad x 50)), some (.int zs.1), some (.int zs.2.1), none] [] zs.2.2) (Q := (Sum.elim (fun (e19 : (vv_H)) => vv_V x vv_TC mm_X10_cut post 82 [some (.ref (vv_ad x 50)), none, none, none] [] e19) (fun (e22 : (vv_H)) => vv_V x vv_TC mm_X10_cut post 75 [none, none, none, none] [] e22))) (fun zs o hm hI hX => ?_) vv_F ((0 : Int32), (0 : Int32), g1) r18 k23 ?_
  · exact vt_X10_cut_B9   hm (fun z1 z2 zh e => hI (z1, z2, zh) e) (fun zh e => hX (.inl zh) e) (fun zh e => hX (.inr zh) e)
  · rcases r18 with e19 | qe19
    · try dsimp only [Sum.elim_inl, Sum.elim_inr] at hm
      try dsimp only [Sum.elim_inl, Sum.elim_inr]
      refine rr_aload_n (q := 83) dX10_cut_82 rfl rfl ?_
      refine rr_iconst (q := 84) (v := 0) dX10_cut_83 rfl (by decide) ?_
      refine rr_aload_n (q := 85) dX10_cut_84 rfl rfl ?_
      refine gf_X10_25 (q := 88) rfl dX10_cut_85 rfl ?_
      refine rr_iconst (q := 89) (v := 0) dX10_cut_88 rfl (by decide) ?_
      obtain ⟨r20, k21, hm⟩ := vv_bind hm
      refine rr_callV (q := 92) (M' := mm_X10_keep) (As := [.int (0 : Int32), .int (e19.1 50 0), .int (0 : Int32)]) (st := []) (w := none) (cc_X10_keep  k21) rfl ylC_50 ynC_50 rfl vy_X10_keep zw_934 ⟨Nat.le_of_ble_eq_true rfl, Nat.le_of_ble_eq_true rfl⟩ (Nat.le_of_ble_eq_true rfl) dX10_cut_89 rfl ?_
      show vv_V x vv_TC mm_X10_cut post 92 [some (.ref (vv_ad x 50)), none, none, none] [] r20
      obtain rfl := Option.some.inj hm
      exact rr_vret dX10_cut_92 rfl hp
    · generalize qe19 = e22 at hm ⊢
      try dsimp only [Sum.elim_inl, Sum.elim_inr] at hm
      try dsimp only [Sum.elim_inl, Sum.elim_inr]
      obtain rfl := Option.some.inj hm
      exact rr_vret dX10_cut_75 rfl hp
theorem cc_X10_cut {x : vv_E} {h : vv_H} {o : vv_H}  (hm : ff_X10_cut h = some o) : vv_C x vv_TC yX10_cut mm_X10_cut [.ref (vv_ad x 50)] h (fun v g => v = none ∧ g = o) := vv_entry (by decide +kernel) rfl (Nat.le_of_ble_eq_true rfl) rfl (vt_X10_cut  hm ⟨rfl, rfl⟩)
def ff_X11_text (h : vv_H) : Option (Int32 × vv_H) := (ff_X10_cut h).bind (fun r1 => vv_let (vv_iu r1 50 0 (0 : Int32)) (fun g3 => vv_let (vv_iu g3 (vv_rid (g3.2.2 1)) 0 (0 : Int32)) (fun g5 => (ff_X5_read g5 (g5.2.2 1)).bind (fun r7 => vv_let (vv_iu r7.2 0 1 r7.1) (fun g9 => (if (g9.1 0 1) = 0 then vv_let (vv_bu g9 0 (g9.2.2 1)) (fun g11 => vv_let (vv_bu g11 1 (g9.2.2 0)) (fun g13 => some ((g13.1 (vv_rid (g13.2.2 0)) 0), g13))) else some (((-10 : Int32) - (g9.1 55 0)), g9)))))))
set_option maxHeartbeats 200000 in
theorem vt_X11_text {x : vv_E} {post : Option Value → vv_H → Prop} {h : vv_H} {o : Int32 × vv_H}  (hm : ff_X11_text  h = some o) (hp : post (some (.int o.1)) o.2) : vv_V x vv_TC mm_X11_text post 0 [some (.ref (vv_ad x 0)), none] [] h := by
  unfold ff_X11_text at hm
  refine rr_aload_n (q := 1) dX11_text_0 rfl rfl ?_
  refine gf_X11_33 (q := 4) rfl dX11_text_1 rfl ?_
  obtain ⟨r1, k2, hm⟩ := vv_bind hm
  refine rr_callV (q := 7) (M' := mm_X10_cut) (As := []) (st := []) (w := none) (cc_X10_cut  k2) rfl ylC_50 ynC_50 rfl vy_X10_cut zw_944 ⟨Nat.le_of_ble_eq_true rfl, Nat.le_of_ble_eq_true rfl⟩ (Nat.le_of_ble_eq_true rfl) dX11_text_4 rfl ?_
  show vv_V x vv_TC mm_X11_text post 7 [some (.ref (vv_ad x 0)), none] [] r1
  refine rr_aload_n (q := 8) dX11_text_7 rfl rfl ?_
  refine gf_X11_33 (q := 11) rfl dX11_text_8 rfl ?_
  refine rr_iconst (q := 12) (v := 0) dX11_text_11 rfl (by decide) ?_
  refine pf_X11_203 (q := 15) rfl dX11_text_12 rfl (fun g3 c4 => ?_)
  replace hm := vv_letE hm c4
  refine rr_aload_n (q := 16) dX11_text_15 rfl rfl ?_
  refine gf_X11_51 (q := 19) rfl dX11_text_16 rfl ?_
  refine rr_iconst (q := 20) (v := 0) dX11_text_19 rfl (by decide) ?_
  refine pf_X11_209 (q := 23) rfl dX11_text_20 rfl (fun g5 c6 => ?_)
  replace hm := vv_letE hm c6
  refine rr_aload_n (q := 24) dX11_text_23 rfl rfl ?_
  refine rr_aload_n (q := 25) dX11_text_24 rfl rfl ?_
  refine gf_X11_40 (q := 28) rfl dX11_text_25 rfl ?_
  refine rr_aload_n (q := 29) dX11_text_28 rfl rfl ?_
  refine gf_X11_33 (q := 32) rfl dX11_text_29 rfl ?_
  refine rr_aload_n (q := 33) dX11_text_32 rfl rfl ?_
  refine gf_X11_51 (q := 36) rfl dX11_text_33 rfl ?_
  obtain ⟨r7, k8, hm⟩ := vv_bind hm
  refine rr_callV (q := 39) (M' := mm_X5_read) (As := [.ref (vv_ad x 50), .ref (vv_ad x (vv_rid (g5.2.2 1)))]) (st := [.ref (vv_ad x 0)]) (w := some (.int r7.1)) (cc_X5_read  k8) rfl ylC_55 ynC_55 rfl vy_X5_read zw_951 ⟨Nat.le_of_ble_eq_true rfl, Nat.le_of_ble_eq_true rfl⟩ (Nat.le_of_ble_eq_true rfl) dX11_text_36 rfl ?_
  show vv_V x vv_TC mm_X11_text post 39 [some (.ref (vv_ad x 0)), none] [.int r7.1, .ref (vv_ad x 0)] r7.2
  refine pf_X11_216 (q := 42) rfl dX11_text_39 rfl (fun g9 c10 => ?_)
  replace hm := vv_letE hm c10
  refine rr_aload_n (q := 43) dX11_text_42 rfl rfl ?_
  refine gf_X11_216 (q := 46) rfl dX11_text_43 rfl ?_
  refine rr_if_eq (q := 49) (tgt := 60) dX11_text_46 (by decide) rfl hm (fun hm => ?_) (fun hm => ?_)
  · refine rr_aload_n (q := 61) dX11_text_60 rfl rfl ?_
    refine gf_X11_47 (q := 64) rfl dX11_text_61 rfl ?_
    refine rr_astore_n (q := 65) [some (.ref (vv_ad x 0)), some (.ref (vv_ad x (vv_rid (g9.2.2 0))))] dX11_text_64 rfl rfl (Nat.le_of_ble_eq_true rfl) rfl rfl ?_
    refine rr_aload_n (q := 66) dX11_text_65 rfl rfl ?_
    refine rr_aload_n (q := 67) dX11_text_66 rfl rfl ?_
    refine gf_X11_51 (q := 70) rfl dX11_text_67 rfl ?_
    refine pf_X11_47 (q := 73) rfl dX11_text_70 rfl (fun g11 c12 => ?_)
    replace hm := vv_letE hm c12
    refine rr_aload_n (q := 74) dX11_text_73 rfl rfl ?_
    refine rr_aload_n (q := 75) dX11_text_74 rfl rfl ?_
    refine pf_X11_51 (q := 78) rfl dX11_text_75 rfl (fun g13 c14 => ?_)
    replace hm := vv_letE hm c14
    refine rr_aload_n (q := 79) dX11_text_78 rfl rfl ?_
    refine gf_X11_47 (q := 82) rfl dX11_text_79 rfl ?_
    refine gf_X11_209 (q := 85) rfl dX11_text_82 rfl ?_
    obtain rfl := Option.some.inj hm
    exact rr_iret dX11_text_85 rfl hp
  · refine rr_bipush (q := 51) (v := -10) dX11_text_49 rfl (by decide) ?_
    refine rr_aload_n (q := 52) dX11_text_51 rfl rfl ?_
    refine gf_X11_40 (q := 55) rfl dX11_text_52 rfl ?_
    refine gf_X11_219 (q := 58) rfl dX11_text_55 rfl ?_
    refine rr_isub (q := 59) dX11_text_58 rfl ?_
    obtain rfl := Option.some.inj hm
    exact rr_iret dX11_text_59 rfl hp
theorem cc_X11_text {x : vv_E} {h : vv_H} {o : Int32 × vv_H}  (hm : ff_X11_text h = some o) : vv_C x vv_TC yX11_text mm_X11_text [.ref (vv_ad x 0)] h (fun v g => v = some (.int o.1) ∧ g = o.2) := vv_entry (by decide +kernel) rfl (Nat.le_of_ble_eq_true rfl) rfl (vt_X11_text  hm ⟨rfl, rfl⟩)
def ff_X9_tryLane_B82 (rec : Int32 → Int32 → vv_H → Option vv_H) (u1 : Int32) (u2 : Int32) (u3 : Int32) (u4 : Int32) (u5 : Int32) (s6 : Int32) (h : vv_H) : Option ((Int32 × vv_H) ⊕ ((vv_H))) := (if u5 < s6 then some (.inr h) else (ff_X9_send h u1 s6).bind (fun r14 => vv_ck u3 4 (vv_ck u4 4 ((rec (u1 + (1 : Int32)) (u2 + (s6 * (r14.1 (148 + u3.toNatClampNeg) u4.toNatClampNeg))) r14).bind (fun r18 => (ff_X9_send r18 u1 (-s6)).bind (fun r20 => vv_let (s6 + 1) (fun w22 => some (.inl (w22, r20)))))))))
def ff_X9_tryLane_F (rec : Int32 → Int32 → vv_H → Option vv_H) (h : vv_H) (v1 : Int32) (v2 : Int32) : Option (vv_H) := (if v2 < (h.1 146 1) then (if v1 < (16 : Int32) then vv_nz (4 : Int32) (vv_nz (4 : Int32) (vv_let (v1 - v1 / (4 : Int32) * (4 : Int32)) (fun w3 => vv_ck (v1 / (4 : Int32)) 4 (vv_ck w3 4 (vv_let (if (h.1 155 w3.toNatClampNeg) < (h.1 154 (v1 / (4 : Int32)).toNatClampNeg) then (h.1 155 w3.toNatClampNeg) else (h.1 154 (v1 / (4 : Int32)).toNatClampNeg)) (fun w7 => vv_ck w3 4 ((ff_X9_spareBehind h (v1 / (4 : Int32))).bind (fun r10 => vv_let (if (0 : Int32) < ((h.1 155 w3.toNatClampNeg) - r10) then ((h.1 155 w3.toNatClampNeg) - r10) else (0 : Int32)) (fun w12 => (vv_lp (fun (zs : Int32 × vv_H) => ff_X9_tryLane_B82 rec v1 v2 (v1 / (4 : Int32)) w3 w7 zs.1 zs.2) vv_F (w12, h)).bind (fun (e25 : (vv_H)) => some e25)))))))))) else vv_let (vv_iu h 146 1 v2) (fun g27 => vv_let (vv_cp g27 153 152) (fun g29 => some g29))) else some h)
def ff_X9_tryLane : Nat → Int32 → Int32 → vv_H → Option vv_H
  | 0 => fun _ _ _ => none
  | n + 1 => fun a b h => ff_X9_tryLane_F (ff_X9_tryLane n) h a b
set_option maxHeartbeats 200000 in
theorem vt_X9_tryLane_B82 {x : vv_E} {post : Option Value → vv_H → Prop} {dd : Nat} {rec : Int32 → Int32 → vv_H → Option vv_H} (hrec : ∀ a b h h2, rec a b h = some h2 → vv_C x vv_TC yX9_tryLane (mm_X9_tryLane (dd + 1)) [.ref (vv_ad x 146), .int a, .int b] h (fun v g => v = none ∧ g = h2)) {u1 : Int32} {u2 : Int32} {u3 : Int32} {u4 : Int32} {u5 : Int32} {s6 : Int32} {h : vv_H} {o : (Int32 × vv_H) ⊕ ((vv_H))}  (hm : ff_X9_tryLane_B82 rec u1 u2 u3 u4 u5 s6 h = some o) (hI : ∀ (z6 : Int32) (zh : vv_H), o = .inl (z6, zh) → vv_V x vv_TC (mm_X9_tryLane (dd + 2)) post 82 [some (.ref (vv_ad x 146)), some (.int u1), some (.int u2), some (.int u3), some (.int u4), some (.int u5), some (.int z6)] [] zh) (hX0 : ∀  (zh : vv_H), o = .inr zh → vv_V x vv_TC (mm_X9_tryLane (dd + 2)) post 131 [none, none, none, none, none, none, none] [] zh) : vv_V x vv_TC (mm_X9_tryLane (dd + 2)) post 82 [some (.ref (vv_ad x 146)), some (.int u1), some (.int u2), some (.int u3), some (.int u4), some (.int u5), some (.int s6)] [] h := by
  unfold ff_X9_tryLane_B82 at hm
  refine rr_iload (q := 84) dX9_tryLane_82 rfl rfl ?_
  refine rr_iload (q := 86) dX9_tryLane_84 rfl rfl ?_
  refine rr_icmp_gt (q := 89) (tgt := 131) dX9_tryLane_86 (by decide) rfl hm (fun hm => ?_) (fun hm => ?_)
  · obtain rfl := Option.some.inj hm
    refine rr_sub [false, false, false, false, false, false, false] rfl ?_
    exact hX0 h rfl
  · refine rr_aload_n (q := 90) dX9_tryLane_89 rfl rfl ?_
    refine rr_iload_n (q := 91) dX9_tryLane_90 rfl rfl ?_
    refine rr_iload (q := 93) dX9_tryLane_91 rfl rfl ?_
    obtain ⟨r14, k15, hm⟩ := vv_bind hm
    refine rr_callV (q := 96) (M' := mm_X9_send) (As := [.int u1, .int s6]) (st := []) (w := none) (cc_X9_send  k15) rfl ylC_146 ynC_146 rfl vy_X9_send zw_964 ⟨by simp [vv_rm], by simp [vv_rm]; omega⟩ (Nat.le_of_ble_eq_true rfl) dX9_tryLane_93 rfl ?_
    show vv_V x vv_TC (mm_X9_tryLane (dd + 2)) post 96 [some (.ref (vv_ad x 146)), some (.int u1), some (.int u2), some (.int u3), some (.int u4), some (.int u5), some (.int s6)] [] r14
    refine rr_aload_n (q := 97) dX9_tryLane_96 rfl rfl ?_
    refine rr_iload_n (q := 98) dX9_tryLane_97 rfl rfl ?_
    refine rr_iconst (q := 99) (v := 1) dX9_tryLane_98 rfl (by decide) ?_
    refine rr_iadd (q := 100) dX9_tryLane_99 rfl ?_
    refine rr_iload_n (q := 101) dX9_tryLane_100 rfl rfl ?_
    refine rr_iload (q := 103) dX9_tryLane_101 rfl rfl ?_
    refine rr_aload_n (q := 104) dX9_tryLane_103 rfl rfl ?_
    refine gf_X9_11 (q := 107) rfl dX9_tryLane_104 rfl ?_
    refine rr_iload_n (q := 108) dX9_tryLane_107 rfl rfl ?_
    obtain ⟨c16, hm⟩ := vv_ck_of hm
    refine rr_aald (q := 109) ylC_147 ynC_147 c16 dX9_tryLane_108 rfl ?_
    refine rr_iload (q := 111) dX9_tryLane_109 rfl rfl ?_
    obtain ⟨c17, hm⟩ := vv_ck_of hm
    refine rr_iald (q := 112) (ywC_147 c16).1 (ywC_147 c16).2 c17 dX9_tryLane_111 rfl ?_
    refine rr_imul (q := 113) dX9_tryLane_112 rfl ?_
    refine rr_iadd (q := 114) dX9_tryLane_113 rfl ?_
    obtain ⟨r18, k19, hm⟩ := vv_bind hm
    refine rr_callS (q := 117) (M' := (mm_X9_tryLane (dd + 1))) (As := [.ref (vv_ad x 146), .int (u1 + (1 : Int32)), .int (u2 + (s6 * (r14.1 (148 + u3.toNatClampNeg) u4.toNatClampNeg)))]) (st := []) (w := none)  (hrec _ _ _ _ k19) rfl (vy_X9_tryLane (dd + 1)) zw_969 ⟨by simp [vv_rm], by simp [vv_rm]; omega⟩ (Nat.le_of_ble_eq_true rfl) dX9_tryLane_114 rfl ?_
    show vv_V x vv_TC (mm_X9_tryLane (dd + 2)) post 117 [some (.ref (vv_ad x 146)), some (.int u1), some (.int u2), some (.int u3), some (.int u4), some (.int u5), some (.int s6)] [] r18
    refine rr_aload_n (q := 118) dX9_tryLane_117 rfl rfl ?_
    refine rr_iload_n (q := 119) dX9_tryLane_118 rfl rfl ?_
    refine rr_iload (q := 121) dX9_tryLane_119 rfl rfl ?_
    refine rr_ineg (q := 122) dX9_tryLane_121 rfl ?_
    obtain ⟨r20, k21, hm⟩ := vv_bind hm
    refine rr_callV (q := 125) (M' := mm_X9_send) (As := [.int u1, .int (-s6)]) (st := []) (w := none) (cc_X9_send  k21) rfl ylC_146 ynC_146 rfl vy_X9_send zw_964 ⟨by simp [vv_rm], by simp [vv_rm]; omega⟩ (Nat.le_of_ble_eq_true rfl) dX9_tryLane_122 rfl ?_
    show vv_V x vv_TC (mm_X9_tryLane (dd + 2)) post 125 [some (.ref (vv_ad x 146)), some (.int u1), some (.int u2), some (.int u3), some (.int u4), some (.int u5), some (.int s6)] [] r20
    obtain ⟨w22, c23, hm⟩ := vv_let_of hm
    refine rr_iinc (q := 128) [some (.ref (vv_ad x 146)), some (.int u1), some (.int u2), some (.int u3), some (.int u4), some (.int u5), some (.int w22)] dX9_tryLane_125 rfl rfl c23.symm (Nat.le_of_ble_eq_true rfl) rfl rfl ?_
    refine rr_goto (tgt := 82) dX9_tryLane_128 (by decide) ?_
    obtain rfl := Option.some.inj hm
    exact hI w22 r20 rfl
set_option maxHeartbeats 200000 in
theorem vt_X9_tryLane_F {x : vv_E} {post : Option Value → vv_H → Prop} {dd : Nat} {rec : Int32 → Int32 → vv_H → Option vv_H} (hrec : ∀ a b h h2, rec a b h = some h2 → vv_C x vv_TC yX9_tryLane (mm_X9_tryLane (dd + 1)) [.ref (vv_ad x 146), .int a, .int b] h (fun v g => v = none ∧ g = h2)) {h : vv_H} {v1 : Int32} {v2 : Int32} {o : vv_H}  (hm : ff_X9_tryLane_F rec h v1 v2 = some o) (hp : post none o) : vv_V x vv_TC (mm_X9_tryLane (dd + 2)) post 0 [some (.ref (vv_ad x 146)), some (.int v1), some (.int v2), none, none, none, none] [] h := by
  unfold ff_X9_tryLane_F at hm
  refine rr_iload_n (q := 1) dX9_tryLane_0 rfl rfl ?_
  refine rr_aload_n (q := 2) dX9_tryLane_1 rfl rfl ?_
  refine gf_X9_46 (q := 5) rfl dX9_tryLane_2 rfl ?_
  refine rr_icmp_lt (q := 8) (tgt := 9) dX9_tryLane_5 (by decide) rfl hm (fun hm => ?_) (fun hm => ?_)
  · refine rr_iload_n (q := 10) dX9_tryLane_9 rfl rfl ?_
    refine rr_bipush (q := 12) (v := 16) dX9_tryLane_10 rfl (by decide) ?_
    refine rr_icmp_lt (q := 15) (tgt := 36) dX9_tryLane_12 (by decide) rfl hm (fun hm => ?_) (fun hm => ?_)
    · refine rr_iload_n (q := 37) dX9_tryLane_36 rfl rfl ?_
      refine rr_iconst (q := 38) (v := 4) dX9_tryLane_37 rfl (by decide) ?_
      obtain ⟨c1, hm⟩ := vv_nz_of hm
      refine rr_idiv (q := 39) dX9_tryLane_38 rfl c1 ?_
      refine rr_istore_n (q := 40) [some (.ref (vv_ad x 146)), some (.int v1), some (.int v2), some (.int (v1 / (4 : Int32))), none, none, none] dX9_tryLane_39 rfl rfl (Nat.le_of_ble_eq_true rfl) rfl rfl ?_
      refine rr_iload_n (q := 41) dX9_tryLane_40 rfl rfl ?_
      refine rr_iconst (q := 42) (v := 4) dX9_tryLane_41 rfl (by decide) ?_
      obtain ⟨c2, hm⟩ := vv_nz_of hm
      refine rr_irem (q := 43) dX9_tryLane_42 rfl c2 ?_
      obtain ⟨w3, c4, hm⟩ := vv_let_of hm
      rw [← c4]
      refine rr_istore (q := 45) [some (.ref (vv_ad x 146)), some (.int v1), some (.int v2), some (.int (v1 / (4 : Int32))), some (.int w3), none, none] dX9_tryLane_43 rfl (Nat.le_of_ble_eq_true rfl) rfl rfl ?_
      refine rr_aload_n (q := 46) dX9_tryLane_45 rfl rfl ?_
      refine gf_X9_23 (q := 49) rfl dX9_tryLane_46 rfl ?_
      refine rr_iload_n (q := 50) dX9_tryLane_49 rfl rfl ?_
      obtain ⟨c5, hm⟩ := vv_ck_of hm
      refine rr_iald (q := 51) ylC_154 ynC_154 c5 dX9_tryLane_50 rfl ?_
      refine rr_aload_n (q := 52) dX9_tryLane_51 rfl rfl ?_
      refine gf_X9_26 (q := 55) rfl dX9_tryLane_52 rfl ?_
      refine rr_iload (q := 57) dX9_tryLane_55 rfl rfl ?_
      obtain ⟨c6, hm⟩ := vv_ck_of hm
      refine rr_iald (q := 58) ylC_155 ynC_155 c6 dX9_tryLane_57 rfl ?_
      refine rr_mmin (q := 61) zw_954 zw_125 zw_126 zw_127 (Nat.le_of_ble_eq_true rfl) (Nat.le_of_ble_eq_true rfl) dX9_tryLane_58 rfl ?_
      obtain ⟨w7, c8, hm⟩ := vv_let_of hm
      rw [← c8]
      refine rr_istore (q := 63) [some (.ref (vv_ad x 146)), some (.int v1), some (.int v2), some (.int (v1 / (4 : Int32))), some (.int w3), some (.int w7), none] dX9_tryLane_61 rfl (Nat.le_of_ble_eq_true rfl) rfl rfl ?_
      refine rr_iconst (q := 64) (v := 0) dX9_tryLane_63 rfl (by decide) ?_
      refine rr_aload_n (q := 65) dX9_tryLane_64 rfl rfl ?_
      refine gf_X9_26 (q := 68) rfl dX9_tryLane_65 rfl ?_
      refine rr_iload (q := 70) dX9_tryLane_68 rfl rfl ?_
      obtain ⟨c9, hm⟩ := vv_ck_of hm
      refine rr_iald (q := 71) ylC_155 ynC_155 c9 dX9_tryLane_70 rfl ?_
      refine rr_aload_n (q := 72) dX9_tryLane_71 rfl rfl ?_
      refine rr_iload_n (q := 73) dX9_tryLane_72 rfl rfl ?_
      obtain ⟨r10, k11, hm⟩ := vv_bind hm
      refine rr_callV (q := 76) (M' := mm_X9_spareBehind) (As := [.int (v1 / (4 : Int32))]) (st := [.int (h.1 155 w3.toNatClampNeg), .int (0 : Int32)]) (w := some (.int r10)) (cc_X9_spareBehind  k11) rfl ylC_146 ynC_146 rfl vy_X9_spareBehind zw_959 ⟨by simp [vv_rm], by simp [vv_rm]; omega⟩ (Nat.le_of_ble_eq_true rfl) dX9_tryLane_73 rfl ?_
      show vv_V x vv_TC (mm_X9_tryLane (dd + 2)) post 76 [some (.ref (vv_ad x 146)), some (.int v1), some (.int v2), some (.int (v1 / (4 : Int32))), some (.int w3), some (.int w7), none] [.int r10, .int (h.1 155 w3.toNatClampNeg), .int (0 : Int32)] h
      refine rr_isub (q := 77) dX9_tryLane_76 rfl ?_
      refine rr_mmax (q := 80) zw_201 zw_199 zw_126 zw_200 (Nat.le_of_ble_eq_true rfl) (Nat.le_of_ble_eq_true rfl) dX9_tryLane_77 rfl ?_
      obtain ⟨w12, c13, hm⟩ := vv_let_of hm
      rw [← c13]
      refine rr_istore (q := 82) [some (.ref (vv_ad x 146)), some (.int v1), some (.int v2), some (.int (v1 / (4 : Int32))), some (.int w3), some (.int w7), some (.int w12)] dX9_tryLane_80 rfl (Nat.le_of_ble_eq_true rfl) rfl rfl ?_
      obtain ⟨r24, k26, hm⟩ := vv_bind hm
      refine vv_lp_link (P := fun (zs : Int32 × vv_H) => vv_V x vv_TC (mm_X9_tryLane (dd + 2)) post 82 [some (.ref (vv_ad x 146)), some (.int v1), some (.int v2), some (.int (v1 / (4 : Int32))), some (.int w3), some (.int w7), some (.int zs.1)] [] zs.2) (Q := (fun (e25 : (vv_H)) => vv_V x vv_TC (mm_X9_tryLane (dd + 2)) post 131 [none, none, none, none, none, none, none] [] e25)) (fun zs o hm hI hX => ?_) vv_F (w12, h) r24 k26 ?_
      · exact vt_X9_tryLane_B82  hrec hm (fun z6 zh e => hI (z6, zh) e) (fun zh e => hX zh e)
      · generalize r24 = e25 at hm ⊢
        try dsimp only [Sum.elim_inl, Sum.elim_inr] at hm
        try dsimp only [Sum.elim_inl, Sum.elim_inr]
        obtain rfl := Option.some.inj hm
        exact rr_vret dX9_tryLane_131 rfl hp
    · refine rr_aload_n (q := 16) dX9_tryLane_15 rfl rfl ?_
      refine rr_iload_n (q := 17) dX9_tryLane_16 rfl rfl ?_
      refine pf_X9_46 (q := 20) rfl dX9_tryLane_17 rfl (fun g27 c28 => ?_)
      replace hm := vv_letE hm c28
      refine rr_aload_n (q := 21) dX9_tryLane_20 rfl rfl ?_
      refine gf_X9_20 (q := 24) rfl dX9_tryLane_21 rfl ?_
      refine rr_iconst (q := 25) (v := 0) dX9_tryLane_24 rfl (by decide) ?_
      refine rr_aload_n (q := 26) dX9_tryLane_25 rfl rfl ?_
      refine gf_X9_16 (q := 29) rfl dX9_tryLane_26 rfl ?_
      refine rr_iconst (q := 30) (v := 0) dX9_tryLane_29 rfl (by decide) ?_
      refine rr_bipush (q := 32) (v := 16) dX9_tryLane_30 rfl (by decide) ?_
      obtain ⟨g29, c30, hm⟩ := vv_let_of hm
      refine rr_copy (q := 35) ylC_153 ynC_153 ylC_152 ynC_152 (by decide) zw_970 zw_971 zw_972 zw_973 ⟨by simp [vv_rm], by simp [vv_rm, nativeFrameWords]; omega⟩ dX9_tryLane_32 rfl ?_
      rw [← c30]
      obtain rfl := Option.some.inj hm
      exact rr_vret dX9_tryLane_35 rfl hp
  · obtain rfl := Option.some.inj hm
    exact rr_vret dX9_tryLane_8 rfl hp
theorem cc_X9_tryLane_r {x : vv_E} : ∀ (d : Nat) (a b : Int32) (h h2 : vv_H), ff_X9_tryLane d a b h = some h2 → vv_C x vv_TC yX9_tryLane (mm_X9_tryLane (d + 1)) [.ref (vv_ad x 146), .int a, .int b] h (fun v g => v = none ∧ g = h2) := by
  intro d
  induction d with
  | zero => intro a b h h2 hm; cases hm
  | succ d ih =>
    intro a b h h2 hm
    exact vv_entry (by decide +kernel) rfl (Nat.le_of_ble_eq_true rfl) rfl (vt_X9_tryLane_F (dd := d) (fun a b h h2 hm => ih a b h h2 hm) hm ⟨rfl, rfl⟩)
theorem cc_X9_tryLane {x : vv_E} {a b : Int32} {h o : vv_H} (hm : ff_X9_tryLane 17 a b h = some o) : vv_C x vv_TC yX9_tryLane (mm_X9_tryLane 18) [.ref (vv_ad x 146), .int a, .int b] h (fun v g => v = none ∧ g = o) := cc_X9_tryLane_r 17 a b h o hm
def ff_X9_plan (h : vv_H) : Option (vv_H) := vv_let (vv_iu h 146 1 (1000000 : Int32)) (fun g1 => (ff_X9_tryLane 17 (0 : Int32) (0 : Int32) g1).bind (fun r3 => some r3))
set_option maxHeartbeats 200000 in
theorem vt_X9_plan {x : vv_E} {post : Option Value → vv_H → Prop} {h : vv_H} {o : vv_H}  (hm : ff_X9_plan  h = some o) (hp : post none o) : vv_V x vv_TC mm_X9_plan post 0 [some (.ref (vv_ad x 146))] [] h := by
  unfold ff_X9_plan at hm
  refine rr_aload_n (q := 1) dX9_plan_0 rfl rfl ?_
  refine rr_ldc (q := 3) dX9_plan_1 rfl zw_974 ?_
  refine pf_X9_46 (q := 6) rfl dX9_plan_3 rfl (fun g1 c2 => ?_)
  replace hm := vv_letE hm c2
  refine rr_aload_n (q := 7) dX9_plan_6 rfl rfl ?_
  refine rr_iconst (q := 8) (v := 0) dX9_plan_7 rfl (by decide) ?_
  refine rr_iconst (q := 9) (v := 0) dX9_plan_8 rfl (by decide) ?_
  obtain ⟨r3, k4, hm⟩ := vv_bind hm
  refine rr_callS (q := 12) (M' := (mm_X9_tryLane 18)) (As := [.ref (vv_ad x 146), .int (0 : Int32), .int (0 : Int32)]) (st := []) (w := none)  (cc_X9_tryLane  k4) rfl (vy_X9_tryLane 18) zw_969 ⟨Nat.le_of_ble_eq_true rfl, Nat.le_of_ble_eq_true rfl⟩ (Nat.le_of_ble_eq_true rfl) dX9_plan_9 rfl ?_
  show vv_V x vv_TC mm_X9_plan post 12 [some (.ref (vv_ad x 146))] [] r3
  obtain rfl := Option.some.inj hm
  exact rr_vret dX9_plan_12 rfl hp
theorem cc_X9_plan {x : vv_E} {h : vv_H} {o : vv_H}  (hm : ff_X9_plan h = some o) : vv_C x vv_TC yX9_plan mm_X9_plan [.ref (vv_ad x 146)] h (fun v g => v = none ∧ g = o) := vv_entry (by decide +kernel) rfl (Nat.le_of_ble_eq_true rfl) rfl (vt_X9_plan  hm ⟨rfl, rfl⟩)
def ff_X11_planned_B32 (u1 : Int32) (u2 : Int32) (s3 : Int32) (s4 : Int32) (h : vv_H) : Option ((Int32 × Int32 × vv_H) ⊕ ((Int32 × vv_H))) := (if (h.1 146 0) ≤ s4 then some (.inr (s3, h)) else (ff_X11_stockOf h s4 u1).bind (fun r3 => vv_let ((u2 >>> (((4 : Int32) * s4) &&& 31)) &&& (15 : Int32)) (fun w5 => (ff_X9_weigh h s4 r3 w5).bind (fun r7 => vv_let (s3 + (r3 - w5)) (fun w9 => vv_let (s4 + 1) (fun w11 => some (.inl (w9, w11, r7))))))))
def ff_X11_planned (h : vv_H) (v1 : Int32) (v2 : Int32) : Option (Int32 × vv_H) := (ff_X11_isKind v1).bind (fun r1 => (if r1 = 0 then some ((-1 : Int32), h) else (if v2 < 0 then some ((-1 : Int32), h) else (if (v2 >>> (((4 : Int32) * (h.1 146 0)) &&& 31)) = 0 then (vv_lp (fun (zs : Int32 × Int32 × vv_H) => ff_X11_planned_B32  v1 v2 zs.1 zs.2.1 zs.2.2) vv_F ((0 : Int32), (0 : Int32), h)).bind (fun (e14 : (Int32 × vv_H)) => (if 0 ≤ e14.1 then (ff_X9_plan e14.2).bind (fun r15 => some ((0 : Int32), r15)) else some ((-4 : Int32), e14.2))) else some ((-1 : Int32), h)))))
set_option maxHeartbeats 200000 in
theorem vt_X11_planned_B32 {x : vv_E} {post : Option Value → vv_H → Prop} {u1 : Int32} {u2 : Int32} {s3 : Int32} {s4 : Int32} {h : vv_H} {o : (Int32 × Int32 × vv_H) ⊕ ((Int32 × vv_H))}  (hm : ff_X11_planned_B32  u1 u2 s3 s4 h = some o) (hI : ∀ (z3 : Int32) (z4 : Int32) (zh : vv_H), o = .inl (z3, z4, zh) → vv_V x vv_TC mm_X11_planned post 32 [some (.ref (vv_ad x 0)), some (.int u1), some (.int u2), some (.int z3), some (.int z4), none, none] [] zh) (hX0 : ∀ (z3 : Int32) (zh : vv_H), o = .inr (z3, zh) → vv_V x vv_TC mm_X11_planned post 91 [some (.ref (vv_ad x 0)), none, none, some (.int z3), none, none, none] [] zh) : vv_V x vv_TC mm_X11_planned post 32 [some (.ref (vv_ad x 0)), some (.int u1), some (.int u2), some (.int s3), some (.int s4), none, none] [] h := by
  unfold ff_X11_planned_B32 at hm
  refine rr_iload (q := 34) dX11_planned_32 rfl rfl ?_
  refine rr_aload_n (q := 35) dX11_planned_34 rfl rfl ?_
  refine gf_X11_57 (q := 38) rfl dX11_planned_35 rfl ?_
  refine gf_X11_385 (q := 41) rfl dX11_planned_38 rfl ?_
  refine rr_icmp_ge (q := 44) (tgt := 91) dX11_planned_41 (by decide) rfl hm (fun hm => ?_) (fun hm => ?_)
  · obtain rfl := Option.some.inj hm
    refine rr_sub [true, false, false, true, false, false, false] rfl ?_
    exact hX0 s3 h rfl
  · refine rr_aload_n (q := 45) dX11_planned_44 rfl rfl ?_
    refine rr_iload (q := 47) dX11_planned_45 rfl rfl ?_
    refine rr_iload_n (q := 48) dX11_planned_47 rfl rfl ?_
    obtain ⟨r3, k4, hm⟩ := vv_bind hm
    refine rr_callV (q := 51) (M' := mm_X11_stockOf) (As := [.int s4, .int u1]) (st := []) (w := some (.int r3)) (cc_X11_stockOf  k4) rfl ylC_0 ynC_0 rfl vy_X11_stockOf zw_453 ⟨Nat.le_of_ble_eq_true rfl, Nat.le_of_ble_eq_true rfl⟩ (Nat.le_of_ble_eq_true rfl) dX11_planned_48 rfl ?_
    show vv_V x vv_TC mm_X11_planned post 51 [some (.ref (vv_ad x 0)), some (.int u1), some (.int u2), some (.int s3), some (.int s4), none, none] [.int r3] h
    refine rr_istore (q := 53) [some (.ref (vv_ad x 0)), some (.int u1), some (.int u2), some (.int s3), some (.int s4), some (.int r3), none] dX11_planned_51 rfl (Nat.le_of_ble_eq_true rfl) rfl rfl ?_
    refine rr_iload_n (q := 54) dX11_planned_53 rfl rfl ?_
    refine rr_iconst (q := 55) (v := 4) dX11_planned_54 rfl (by decide) ?_
    refine rr_iload (q := 57) dX11_planned_55 rfl rfl ?_
    refine rr_imul (q := 58) dX11_planned_57 rfl ?_
    refine rr_ishr (q := 59) dX11_planned_58 rfl ?_
    refine rr_bipush (q := 61) (v := 15) dX11_planned_59 rfl (by decide) ?_
    refine rr_iand (q := 62) dX11_planned_61 rfl ?_
    obtain ⟨w5, c6, hm⟩ := vv_let_of hm
    rw [← c6]
    refine rr_istore (q := 64) [some (.ref (vv_ad x 0)), some (.int u1), some (.int u2), some (.int s3), some (.int s4), some (.int r3), some (.int w5)] dX11_planned_62 rfl (Nat.le_of_ble_eq_true rfl) rfl rfl ?_
    refine rr_aload_n (q := 65) dX11_planned_64 rfl rfl ?_
    refine gf_X11_57 (q := 68) rfl dX11_planned_65 rfl ?_
    refine rr_iload (q := 70) dX11_planned_68 rfl rfl ?_
    refine rr_iload (q := 72) dX11_planned_70 rfl rfl ?_
    refine rr_iload (q := 74) dX11_planned_72 rfl rfl ?_
    obtain ⟨r7, k8, hm⟩ := vv_bind hm
    refine rr_callV (q := 77) (M' := mm_X9_weigh) (As := [.int s4, .int r3, .int w5]) (st := []) (w := none) (cc_X9_weigh  k8) rfl ylC_146 ynC_146 rfl vy_X9_weigh zw_979 ⟨Nat.le_of_ble_eq_true rfl, Nat.le_of_ble_eq_true rfl⟩ (Nat.le_of_ble_eq_true rfl) dX11_planned_74 rfl ?_
    show vv_V x vv_TC mm_X11_planned post 77 [some (.ref (vv_ad x 0)), some (.int u1), some (.int u2), some (.int s3), some (.int s4), some (.int r3), some (.int w5)] [] r7
    refine rr_iload_n (q := 78) dX11_planned_77 rfl rfl ?_
    refine rr_iload (q := 80) dX11_planned_78 rfl rfl ?_
    refine rr_iload (q := 82) dX11_planned_80 rfl rfl ?_
    refine rr_isub (q := 83) dX11_planned_82 rfl ?_
    refine rr_iadd (q := 84) dX11_planned_83 rfl ?_
    obtain ⟨w9, c10, hm⟩ := vv_let_of hm
    rw [← c10]
    refine rr_istore_n (q := 85) [some (.ref (vv_ad x 0)), some (.int u1), some (.int u2), some (.int w9), some (.int s4), some (.int r3), some (.int w5)] dX11_planned_84 rfl rfl (Nat.le_of_ble_eq_true rfl) rfl rfl ?_
    obtain ⟨w11, c12, hm⟩ := vv_let_of hm
    refine rr_iinc (q := 88) [some (.ref (vv_ad x 0)), some (.int u1), some (.int u2), some (.int w9), some (.int w11), some (.int r3), some (.int w5)] dX11_planned_85 rfl rfl c12.symm (Nat.le_of_ble_eq_true rfl) rfl rfl ?_
    refine rr_goto (tgt := 32) dX11_planned_88 (by decide) ?_
    obtain rfl := Option.some.inj hm
    refine rr_sub [true, true, true, true, true, false, false] rfl ?_
    exact hI w9 w11 r7 rfl
set_option maxHeartbeats 200000 in
theorem vt_X11_planned {x : vv_E} {post : Option Value → vv_H → Prop} {h : vv_H} {v1 : Int32} {v2 : Int32} {o : Int32 × vv_H}  (hm : ff_X11_planned  h v1 v2 = some o) (hp : post (some (.int o.1)) o.2) : vv_V x vv_TC mm_X11_planned post 0 [some (.ref (vv_ad x 0)), some (.int v1), some (.int v2), none, none, none, none] [] h := by
  unfold ff_X11_planned at hm
  refine rr_iload_n (q := 1) dX11_planned_0 rfl rfl ?_
  obtain ⟨r1, k2, hm⟩ := vv_bind hm
  refine rr_callS (q := 4) (M' := mm_X11_isKind) (As := [.int v1]) (st := []) (w := some (.int r1))  (cc_X11_isKind  k2) rfl vy_X11_isKind zw_408 ⟨Nat.le_of_ble_eq_true rfl, Nat.le_of_ble_eq_true rfl⟩ (Nat.le_of_ble_eq_true rfl) dX11_planned_1 rfl ?_
  show vv_V x vv_TC mm_X11_planned post 4 [some (.ref (vv_ad x 0)), some (.int v1), some (.int v2), none, none, none, none] [.int r1] h
  refine rr_if_eq (q := 7) (tgt := 25) dX11_planned_4 (by decide) rfl hm (fun hm => ?_) (fun hm => ?_)
  · refine rr_iconst (q := 26) (v := -1) dX11_planned_25 rfl (by decide) ?_
    obtain rfl := Option.some.inj hm
    exact rr_iret dX11_planned_26 rfl hp
  · refine rr_iload_n (q := 8) dX11_planned_7 rfl rfl ?_
    refine rr_if_lt (q := 11) (tgt := 25) dX11_planned_8 (by decide) rfl hm (fun hm => ?_) (fun hm => ?_)
    · refine rr_iconst (q := 26) (v := -1) dX11_planned_25 rfl (by decide) ?_
      obtain rfl := Option.some.inj hm
      exact rr_iret dX11_planned_26 rfl hp
    · refine rr_iload_n (q := 12) dX11_planned_11 rfl rfl ?_
      refine rr_iconst (q := 13) (v := 4) dX11_planned_12 rfl (by decide) ?_
      refine rr_aload_n (q := 14) dX11_planned_13 rfl rfl ?_
      refine gf_X11_57 (q := 17) rfl dX11_planned_14 rfl ?_
      refine gf_X11_385 (q := 20) rfl dX11_planned_17 rfl ?_
      refine rr_imul (q := 21) dX11_planned_20 rfl ?_
      refine rr_ishr (q := 22) dX11_planned_21 rfl ?_
      refine rr_if_eq (q := 25) (tgt := 27) dX11_planned_22 (by decide) rfl hm (fun hm => ?_) (fun hm => ?_)
      · refine rr_iconst (q := 28) (v := 0) dX11_planned_27 rfl (by decide) ?_
        refine rr_istore_n (q := 29) [some (.ref (vv_ad x 0)), some (.int v1), some (.int v2), some (.int (0 : Int32)), none, none, none] dX11_planned_28 rfl rfl (Nat.le_of_ble_eq_true rfl) rfl rfl ?_
        refine rr_iconst (q := 30) (v := 0) dX11_planned_29 rfl (by decide) ?_
        refine rr_istore (q := 32) [some (.ref (vv_ad x 0)), some (.int v1), some (.int v2), some (.int (0 : Int32)), some (.int (0 : Int32)), none, none] dX11_planned_30 rfl (Nat.le_of_ble_eq_true rfl) rfl rfl ?_
        obtain ⟨r13, k17, hm⟩ := vv_bind hm
        refine vv_lp_link (P := fun (zs : Int32 × Int32 × vv_H) => vv_V x vv_TC mm_X11_planned post 32 [some (.ref (vv_ad x 0)), some (.int v1), some (.int v2), some (.int zs.1), some (.int zs.2.1), none, none] [] zs.2.2) (Q := (fun (e14 : (Int32 × vv_H)) => vv_V x vv_TC mm_X11_planned post 91 [some (.ref (vv_ad x 0)), none, none, some (.int e14.1), none, none, none] [] e14.2)) (fun zs o hm hI hX => ?_) vv_F ((0 : Int32), (0 : Int32), h) r13 k17 ?_
        · exact vt_X11_planned_B32   hm (fun z3 z4 zh e => hI (z3, z4, zh) e) (fun z3 zh e => hX (z3, zh) e)
        · generalize r13 = e14 at hm ⊢
          try dsimp only [Sum.elim_inl, Sum.elim_inr] at hm
          try dsimp only [Sum.elim_inl, Sum.elim_inr]
          refine rr_iload_n (q := 92) dX11_planned_91 rfl rfl ?_
          refine rr_if_ge (q := 95) (tgt := 98) dX11_planned_92 (by decide) rfl hm (fun hm => ?_) (fun hm => ?_)
          · refine rr_aload_n (q := 99) dX11_planned_98 rfl rfl ?_
            refine gf_X11_57 (q := 102) rfl dX11_planned_99 rfl ?_
            obtain ⟨r15, k16, hm⟩ := vv_bind hm
            refine rr_callV (q := 105) (M' := mm_X9_plan) (As := []) (st := []) (w := none) (cc_X9_plan  k16) rfl ylC_146 ynC_146 rfl vy_X9_plan zw_984 ⟨Nat.le_of_ble_eq_true rfl, Nat.le_of_ble_eq_true rfl⟩ (Nat.le_of_ble_eq_true rfl) dX11_planned_102 rfl ?_
            show vv_V x vv_TC mm_X11_planned post 105 [some (.ref (vv_ad x 0)), none, none, some (.int e14.1), none, none, none] [] r15
            refine rr_iconst (q := 106) (v := 0) dX11_planned_105 rfl (by decide) ?_
            obtain rfl := Option.some.inj hm
            exact rr_iret dX11_planned_106 rfl hp
          · refine rr_bipush (q := 97) (v := -4) dX11_planned_95 rfl (by decide) ?_
            obtain rfl := Option.some.inj hm
            exact rr_iret dX11_planned_97 rfl hp
      · refine rr_iconst (q := 26) (v := -1) dX11_planned_25 rfl (by decide) ?_
        obtain rfl := Option.some.inj hm
        exact rr_iret dX11_planned_26 rfl hp
theorem cc_X11_planned {x : vv_E} {h : vv_H} {v1 : Int32} {v2 : Int32} {o : Int32 × vv_H}  (hm : ff_X11_planned h v1 v2 = some o) : vv_C x vv_TC yX11_planned mm_X11_planned [.ref (vv_ad x 0), .int v1, .int v2] h (fun v g => v = some (.int o.1) ∧ g = o.2) := vv_entry (by decide +kernel) rfl (Nat.le_of_ble_eq_true rfl) rfl (vt_X11_planned  hm ⟨rfl, rfl⟩)
def ff_X11_order (h : vv_H) (v1 : Int32) (v2 : Int32) : Option (Int32 × vv_H) := (ff_X11_planned h v1 v2).bind (fun r1 => (if 0 ≤ r1.1 then some ((r1.2.1 146 1), r1.2) else some (r1.1, r1.2)))
set_option maxHeartbeats 200000 in
theorem vt_X11_order {x : vv_E} {post : Option Value → vv_H → Prop} {h : vv_H} {v1 : Int32} {v2 : Int32} {o : Int32 × vv_H}  (hm : ff_X11_order  h v1 v2 = some o) (hp : post (some (.int o.1)) o.2) : vv_V x vv_TC mm_X11_order post 0 [some (.ref (vv_ad x 0)), some (.int v1), some (.int v2), none] [] h := by
  unfold ff_X11_order at hm
  refine rr_aload_n (q := 1) dX11_order_0 rfl rfl ?_
  refine rr_iload_n (q := 2) dX11_order_1 rfl rfl ?_
  refine rr_iload_n (q := 3) dX11_order_2 rfl rfl ?_
  obtain ⟨r1, k2, hm⟩ := vv_bind hm
  refine rr_callV (q := 6) (M' := mm_X11_planned) (As := [.int v1, .int v2]) (st := []) (w := some (.int r1.1)) (cc_X11_planned  k2) rfl ylC_0 ynC_0 rfl vy_X11_planned zw_989 ⟨Nat.le_of_ble_eq_true rfl, Nat.le_of_ble_eq_true rfl⟩ (Nat.le_of_ble_eq_true rfl) dX11_order_3 rfl ?_
  show vv_V x vv_TC mm_X11_order post 6 [some (.ref (vv_ad x 0)), some (.int v1), some (.int v2), none] [.int r1.1] r1.2
  refine rr_istore_n (q := 7) [some (.ref (vv_ad x 0)), some (.int v1), some (.int v2), some (.int r1.1)] dX11_order_6 rfl rfl (Nat.le_of_ble_eq_true rfl) rfl rfl ?_
  refine rr_iload_n (q := 8) dX11_order_7 rfl rfl ?_
  refine rr_if_ge (q := 11) (tgt := 15) dX11_order_8 (by decide) rfl hm (fun hm => ?_) (fun hm => ?_)
  · refine rr_aload_n (q := 16) dX11_order_15 rfl rfl ?_
    refine gf_X11_57 (q := 19) rfl dX11_order_16 rfl ?_
    refine gf_X11_321 (q := 22) rfl dX11_order_19 rfl ?_
    obtain rfl := Option.some.inj hm
    exact rr_iret dX11_order_22 rfl hp
  · refine rr_iload_n (q := 12) dX11_order_11 rfl rfl ?_
    refine rr_goto (tgt := 22) dX11_order_12 (by decide) ?_
    obtain rfl := Option.some.inj hm
    exact rr_iret dX11_order_22 rfl hp
theorem cc_X11_order {x : vv_E} {h : vv_H} {v1 : Int32} {v2 : Int32} {o : Int32 × vv_H}  (hm : ff_X11_order h v1 v2 = some o) : vv_C x vv_TC yX11_order mm_X11_order [.ref (vv_ad x 0), .int v1, .int v2] h (fun v g => v = some (.int o.1) ∧ g = o.2) := vv_entry (by decide +kernel) rfl (Nat.le_of_ble_eq_true rfl) rfl (vt_X11_order  hm ⟨rfl, rfl⟩)
def ff_X11_ordered (h : vv_H) (v1 : Int32) (v2 : Int32) (v3 : Int32) (v4 : Int32) : Option (Int32 × vv_H) := (ff_X9_has h v3).bind (fun r1 => (if r1 = 0 then some ((-1 : Int32), h) else (ff_X9_has h v4).bind (fun r3 => (if r3 = 0 then some ((-1 : Int32), h) else (ff_X11_planned h v1 v2).bind (fun r5 => (if 0 ≤ r5.1 then (ff_X9_movedBetween r5.2 v3 v4).bind (fun r7 => some (r7, r5.2)) else some (r5.1, r5.2)))))))
set_option maxHeartbeats 200000 in
theorem vt_X11_ordered {x : vv_E} {post : Option Value → vv_H → Prop} {h : vv_H} {v1 : Int32} {v2 : Int32} {v3 : Int32} {v4 : Int32} {o : Int32 × vv_H}  (hm : ff_X11_ordered  h v1 v2 v3 v4 = some o) (hp : post (some (.int o.1)) o.2) : vv_V x vv_TC mm_X11_ordered post 0 [some (.ref (vv_ad x 0)), some (.int v1), some (.int v2), some (.int v3), some (.int v4), none] [] h := by
  unfold ff_X11_ordered at hm
  refine rr_aload_n (q := 1) dX11_ordered_0 rfl rfl ?_
  refine gf_X11_57 (q := 4) rfl dX11_ordered_1 rfl ?_
  refine rr_iload_n (q := 5) dX11_ordered_4 rfl rfl ?_
  obtain ⟨r1, k2, hm⟩ := vv_bind hm
  refine rr_callV (q := 8) (M' := mm_X9_has) (As := [.int v3]) (st := []) (w := some (.int r1)) (cc_X9_has  k2) rfl ylC_146 ynC_146 rfl vy_X9_has zw_237 ⟨Nat.le_of_ble_eq_true rfl, Nat.le_of_ble_eq_true rfl⟩ (Nat.le_of_ble_eq_true rfl) dX11_ordered_5 rfl ?_
  show vv_V x vv_TC mm_X11_ordered post 8 [some (.ref (vv_ad x 0)), some (.int v1), some (.int v2), some (.int v3), some (.int v4), none] [.int r1] h
  refine rr_if_eq (q := 11) (tgt := 23) dX11_ordered_8 (by decide) rfl hm (fun hm => ?_) (fun hm => ?_)
  · refine rr_iconst (q := 24) (v := -1) dX11_ordered_23 rfl (by decide) ?_
    obtain rfl := Option.some.inj hm
    exact rr_iret dX11_ordered_24 rfl hp
  · refine rr_aload_n (q := 12) dX11_ordered_11 rfl rfl ?_
    refine gf_X11_57 (q := 15) rfl dX11_ordered_12 rfl ?_
    refine rr_iload (q := 17) dX11_ordered_15 rfl rfl ?_
    obtain ⟨r3, k4, hm⟩ := vv_bind hm
    refine rr_callV (q := 20) (M' := mm_X9_has) (As := [.int v4]) (st := []) (w := some (.int r3)) (cc_X9_has  k4) rfl ylC_146 ynC_146 rfl vy_X9_has zw_237 ⟨Nat.le_of_ble_eq_true rfl, Nat.le_of_ble_eq_true rfl⟩ (Nat.le_of_ble_eq_true rfl) dX11_ordered_17 rfl ?_
    show vv_V x vv_TC mm_X11_ordered post 20 [some (.ref (vv_ad x 0)), some (.int v1), some (.int v2), some (.int v3), some (.int v4), none] [.int r3] h
    refine rr_if_ne (q := 23) (tgt := 25) dX11_ordered_20 (by decide) rfl hm (fun hm => ?_) (fun hm => ?_)
    · refine rr_aload_n (q := 26) dX11_ordered_25 rfl rfl ?_
      refine rr_iload_n (q := 27) dX11_ordered_26 rfl rfl ?_
      refine rr_iload_n (q := 28) dX11_ordered_27 rfl rfl ?_
      obtain ⟨r5, k6, hm⟩ := vv_bind hm
      refine rr_callV (q := 31) (M' := mm_X11_planned) (As := [.int v1, .int v2]) (st := []) (w := some (.int r5.1)) (cc_X11_planned  k6) rfl ylC_0 ynC_0 rfl vy_X11_planned zw_989 ⟨Nat.le_of_ble_eq_true rfl, Nat.le_of_ble_eq_true rfl⟩ (Nat.le_of_ble_eq_true rfl) dX11_ordered_28 rfl ?_
      show vv_V x vv_TC mm_X11_ordered post 31 [some (.ref (vv_ad x 0)), some (.int v1), some (.int v2), some (.int v3), some (.int v4), none] [.int r5.1] r5.2
      refine rr_istore (q := 33) [some (.ref (vv_ad x 0)), some (.int v1), some (.int v2), some (.int v3), some (.int v4), some (.int r5.1)] dX11_ordered_31 rfl (Nat.le_of_ble_eq_true rfl) rfl rfl ?_
      refine rr_iload (q := 35) dX11_ordered_33 rfl rfl ?_
      refine rr_if_ge (q := 38) (tgt := 43) dX11_ordered_35 (by decide) rfl hm (fun hm => ?_) (fun hm => ?_)
      · refine rr_aload_n (q := 44) dX11_ordered_43 rfl rfl ?_
        refine gf_X11_57 (q := 47) rfl dX11_ordered_44 rfl ?_
        refine rr_iload_n (q := 48) dX11_ordered_47 rfl rfl ?_
        refine rr_iload (q := 50) dX11_ordered_48 rfl rfl ?_
        obtain ⟨r7, k8, hm⟩ := vv_bind hm
        refine rr_callV (q := 53) (M' := mm_X9_movedBetween) (As := [.int v3, .int v4]) (st := []) (w := some (.int r7)) (cc_X9_movedBetween  k8) rfl ylC_146 ynC_146 rfl vy_X9_movedBetween zw_995 ⟨Nat.le_of_ble_eq_true rfl, Nat.le_of_ble_eq_true rfl⟩ (Nat.le_of_ble_eq_true rfl) dX11_ordered_50 rfl ?_
        show vv_V x vv_TC mm_X11_ordered post 53 [some (.ref (vv_ad x 0)), some (.int v1), some (.int v2), some (.int v3), some (.int v4), some (.int r5.1)] [.int r7] r5.2
        obtain rfl := Option.some.inj hm
        exact rr_iret dX11_ordered_53 rfl hp
      · refine rr_iload (q := 40) dX11_ordered_38 rfl rfl ?_
        refine rr_goto (tgt := 53) dX11_ordered_40 (by decide) ?_
        obtain rfl := Option.some.inj hm
        exact rr_iret dX11_ordered_53 rfl hp
    · refine rr_iconst (q := 24) (v := -1) dX11_ordered_23 rfl (by decide) ?_
      obtain rfl := Option.some.inj hm
      exact rr_iret dX11_ordered_24 rfl hp
theorem cc_X11_ordered {x : vv_E} {h : vv_H} {v1 : Int32} {v2 : Int32} {v3 : Int32} {v4 : Int32} {o : Int32 × vv_H}  (hm : ff_X11_ordered h v1 v2 v3 v4 = some o) : vv_C x vv_TC yX11_ordered mm_X11_ordered [.ref (vv_ad x 0), .int v1, .int v2, .int v3, .int v4] h (fun v g => v = some (.int o.1) ∧ g = o.2) := vv_entry (by decide +kernel) rfl (Nat.le_of_ble_eq_true rfl) rfl (vt_X11_ordered  hm ⟨rfl, rfl⟩)
