def ff_X12_issue (h : vv_H) (v1 : Int32) (v2 : Int32) : Option (Int32 × vv_H) := (ff_X12_isPiece h v1).bind (fun r1 => (if r1 = 0 then some ((-1 : Int32), h) else (ff_X12_isBody h v2).bind (fun r3 => (if r3 = 0 then some ((-1 : Int32), h) else (ff_X12_kindAt h v1).bind (fun r5 => vv_ck v1 36 ((if (h.1 32 v1.toNatClampNeg) = (-4 : Int32) then some ((-2 : Int32), h) else vv_ck v1 36 ((ff_X12_doesFit h (h.1 29 v1.toNatClampNeg) v2 (5 : Int32)).bind (fun r9 => (if r9 = 0 then some ((-2 : Int32), h) else (ff_X12_isWornOut h v1).bind (fun r11 => (if r11 = 0 then (ff_X12_hasOf h v2 r5).bind (fun r13 => (ff_X12_dueOf h v2 r5 (h.1 0 0)).bind (fun r15 => (if r13 < r15.1 then vv_ck v1 36 (vv_let (vv_iu r15.2 32 v1.toNatClampNeg (-4 : Int32)) (fun g18 => vv_ck v1 36 (vv_let (vv_iu g18 33 v1.toNatClampNeg v2) (fun g21 => vv_ck v1 36 (vv_let (vv_iu g21 38 v1.toNatClampNeg v2) (fun g24 => vv_ck v1 36 (vv_let (vv_iu g24 34 v1.toNatClampNeg (g24.1 0 0)) (fun g27 => vv_ck v1 36 (vv_ck v1 36 (vv_let (vv_iu g27 36 v1.toNatClampNeg ((g27.1 36 v1.toNatClampNeg) + (1 : Int32))) (fun g31 => vv_ck v1 36 ((ff_X12_doesFit g31 (g31.1 29 v1.toNatClampNeg) v2 (0 : Int32)).bind (fun r34 => (if r34 = 0 then some ((0 : Int32), g31) else some ((1 : Int32), g31))))))))))))))) else some ((-2 : Int32), r15.2)))) else some ((-2 : Int32), h)))))))))))))
set_option maxHeartbeats 200000 in
theorem vt_X12_issue {x : vv_E} {post : Option Value → vv_H → Prop} {h : vv_H} {v1 : Int32} {v2 : Int32} {o : Int32 × vv_H}  (hm : ff_X12_issue  h v1 v2 = some o) (hp : post (some (.int o.1)) o.2) : vv_V x vv_TR mm_X12_issue post 0 [some (.ref (vv_ad x 0)), some (.int v1), some (.int v2), none] [] h := by
  unfold ff_X12_issue at hm
  refine rr_aload_n (q := 1) dX12_issue_0 rfl rfl ?_
  refine rr_iload_n (q := 2) dX12_issue_1 rfl rfl ?_
  obtain ⟨r1, k2, hm⟩ := vv_bind hm
  refine rr_callV (q := 5) (M' := mm_X12_isPiece) (As := [.int v1]) (st := []) (w := some (.int r1)) (cc_X12_isPiece  k2) rfl ylR_0 ynR_0 rfl vy_X12_isPiece zw_595 ⟨Nat.le_of_ble_eq_true rfl, Nat.le_of_ble_eq_true rfl⟩ (Nat.le_of_ble_eq_true rfl) dX12_issue_2 rfl ?_
  show vv_V x vv_TR mm_X12_issue post 5 [some (.ref (vv_ad x 0)), some (.int v1), some (.int v2), none] [.int r1] h
  refine rr_if_eq (q := 8) (tgt := 16) dX12_issue_5 (by decide) rfl hm (fun hm => ?_) (fun hm => ?_)
  · refine rr_iconst (q := 17) (v := -1) dX12_issue_16 rfl (by decide) ?_
    obtain rfl := Option.some.inj hm
    exact rr_iret dX12_issue_17 rfl hp
  · refine rr_aload_n (q := 9) dX12_issue_8 rfl rfl ?_
    refine rr_iload_n (q := 10) dX12_issue_9 rfl rfl ?_
    obtain ⟨r3, k4, hm⟩ := vv_bind hm
    refine rr_callV (q := 13) (M' := mm_X12_isBody) (As := [.int v2]) (st := []) (w := some (.int r3)) (cc_X12_isBody  k4) rfl ylR_0 ynR_0 rfl vy_X12_isBody zw_542 ⟨Nat.le_of_ble_eq_true rfl, Nat.le_of_ble_eq_true rfl⟩ (Nat.le_of_ble_eq_true rfl) dX12_issue_10 rfl ?_
    show vv_V x vv_TR mm_X12_issue post 13 [some (.ref (vv_ad x 0)), some (.int v1), some (.int v2), none] [.int r3] h
    refine rr_if_ne (q := 16) (tgt := 18) dX12_issue_13 (by decide) rfl hm (fun hm => ?_) (fun hm => ?_)
    · refine rr_aload_n (q := 19) dX12_issue_18 rfl rfl ?_
      refine rr_iload_n (q := 20) dX12_issue_19 rfl rfl ?_
      obtain ⟨r5, k6, hm⟩ := vv_bind hm
      refine rr_callV (q := 23) (M' := mm_X12_kindAt) (As := [.int v1]) (st := []) (w := some (.int r5)) (cc_X12_kindAt  k6) rfl ylR_0 ynR_0 rfl vy_X12_kindAt zw_306 ⟨Nat.le_of_ble_eq_true rfl, Nat.le_of_ble_eq_true rfl⟩ (Nat.le_of_ble_eq_true rfl) dX12_issue_20 rfl ?_
      show vv_V x vv_TR mm_X12_issue post 23 [some (.ref (vv_ad x 0)), some (.int v1), some (.int v2), none] [.int r5] h
      refine rr_istore_n (q := 24) [some (.ref (vv_ad x 0)), some (.int v1), some (.int v2), some (.int r5)] dX12_issue_23 rfl rfl (Nat.le_of_ble_eq_true rfl) rfl rfl ?_
      refine rr_aload_n (q := 25) dX12_issue_24 rfl rfl ?_
      refine gf_X12_103 (q := 28) rfl dX12_issue_25 rfl ?_
      refine rr_iload_n (q := 29) dX12_issue_28 rfl rfl ?_
      obtain ⟨c7, hm⟩ := vv_ck_of hm
      refine rr_iald (q := 30) ylR_32 ynR_32 c7 dX12_issue_29 rfl ?_
      refine rr_bipush (q := 32) (v := -4) dX12_issue_30 rfl (by decide) ?_
      refine rr_icmp_eq (q := 35) (tgt := 77) dX12_issue_32 (by decide) rfl hm (fun hm => ?_) (fun hm => ?_)
      · refine rr_bipush (q := 79) (v := -2) dX12_issue_77 rfl (by decide) ?_
        obtain rfl := Option.some.inj hm
        exact rr_iret dX12_issue_79 rfl hp
      · refine rr_aload_n (q := 36) dX12_issue_35 rfl rfl ?_
        refine rr_aload_n (q := 37) dX12_issue_36 rfl rfl ?_
        refine gf_X12_94 (q := 40) rfl dX12_issue_37 rfl ?_
        refine rr_iload_n (q := 41) dX12_issue_40 rfl rfl ?_
        obtain ⟨c8, hm⟩ := vv_ck_of hm
        refine rr_iald (q := 42) ylR_29 ynR_29 c8 dX12_issue_41 rfl ?_
        refine rr_iload_n (q := 43) dX12_issue_42 rfl rfl ?_
        refine rr_iconst (q := 44) (v := 5) dX12_issue_43 rfl (by decide) ?_
        obtain ⟨r9, k10, hm⟩ := vv_bind hm
        refine rr_callV (q := 47) (M' := mm_X12_doesFit) (As := [.int (h.1 29 v1.toNatClampNeg), .int v2, .int (5 : Int32)]) (st := []) (w := some (.int r9)) (cc_X12_doesFit  k10) rfl ylR_0 ynR_0 rfl vy_X12_doesFit zw_552 ⟨Nat.le_of_ble_eq_true rfl, Nat.le_of_ble_eq_true rfl⟩ (Nat.le_of_ble_eq_true rfl) dX12_issue_44 rfl ?_
        show vv_V x vv_TR mm_X12_issue post 47 [some (.ref (vv_ad x 0)), some (.int v1), some (.int v2), some (.int r5)] [.int r9] h
        refine rr_if_eq (q := 50) (tgt := 77) dX12_issue_47 (by decide) rfl hm (fun hm => ?_) (fun hm => ?_)
        · refine rr_bipush (q := 79) (v := -2) dX12_issue_77 rfl (by decide) ?_
          obtain rfl := Option.some.inj hm
          exact rr_iret dX12_issue_79 rfl hp
        · refine rr_aload_n (q := 51) dX12_issue_50 rfl rfl ?_
          refine rr_iload_n (q := 52) dX12_issue_51 rfl rfl ?_
          obtain ⟨r11, k12, hm⟩ := vv_bind hm
          refine rr_callV (q := 55) (M' := mm_X12_isWornOut) (As := [.int v1]) (st := []) (w := some (.int r11)) (cc_X12_isWornOut  k12) rfl ylR_0 ynR_0 rfl vy_X12_isWornOut zw_590 ⟨Nat.le_of_ble_eq_true rfl, Nat.le_of_ble_eq_true rfl⟩ (Nat.le_of_ble_eq_true rfl) dX12_issue_52 rfl ?_
          show vv_V x vv_TR mm_X12_issue post 55 [some (.ref (vv_ad x 0)), some (.int v1), some (.int v2), some (.int r5)] [.int r11] h
          refine rr_if_ne (q := 58) (tgt := 77) dX12_issue_55 (by decide) rfl hm (fun hm => ?_) (fun hm => ?_)
          · refine rr_bipush (q := 79) (v := -2) dX12_issue_77 rfl (by decide) ?_
            obtain rfl := Option.some.inj hm
            exact rr_iret dX12_issue_79 rfl hp
          · refine rr_aload_n (q := 59) dX12_issue_58 rfl rfl ?_
            refine rr_iload_n (q := 60) dX12_issue_59 rfl rfl ?_
            refine rr_iload_n (q := 61) dX12_issue_60 rfl rfl ?_
            obtain ⟨r13, k14, hm⟩ := vv_bind hm
            refine rr_callV (q := 64) (M' := mm_X12_hasOf) (As := [.int v2, .int r5]) (st := []) (w := some (.int r13)) (cc_X12_hasOf  k14) rfl ylR_0 ynR_0 rfl vy_X12_hasOf zw_729 ⟨Nat.le_of_ble_eq_true rfl, Nat.le_of_ble_eq_true rfl⟩ (Nat.le_of_ble_eq_true rfl) dX12_issue_61 rfl ?_
            show vv_V x vv_TR mm_X12_issue post 64 [some (.ref (vv_ad x 0)), some (.int v1), some (.int v2), some (.int r5)] [.int r13] h
            refine rr_aload_n (q := 65) dX12_issue_64 rfl rfl ?_
            refine rr_iload_n (q := 66) dX12_issue_65 rfl rfl ?_
            refine rr_iload_n (q := 67) dX12_issue_66 rfl rfl ?_
            refine rr_aload_n (q := 68) dX12_issue_67 rfl rfl ?_
            refine gf_X12_187 (q := 71) rfl dX12_issue_68 rfl ?_
            obtain ⟨r15, k16, hm⟩ := vv_bind hm
            refine rr_callV (q := 74) (M' := mm_X12_dueOf) (As := [.int v2, .int r5, .int (h.1 0 0)]) (st := [.int r13]) (w := some (.int r15.1)) (cc_X12_dueOf  k16) rfl ylR_0 ynR_0 rfl vy_X12_dueOf zw_577 ⟨Nat.le_of_ble_eq_true rfl, Nat.le_of_ble_eq_true rfl⟩ (Nat.le_of_ble_eq_true rfl) dX12_issue_71 rfl ?_
            show vv_V x vv_TR mm_X12_issue post 74 [some (.ref (vv_ad x 0)), some (.int v1), some (.int v2), some (.int r5)] [.int r15.1, .int r13] r15.2
            refine rr_icmp_lt (q := 77) (tgt := 80) dX12_issue_74 (by decide) rfl hm (fun hm => ?_) (fun hm => ?_)
            · refine rr_aload_n (q := 81) dX12_issue_80 rfl rfl ?_
              refine gf_X12_103 (q := 84) rfl dX12_issue_81 rfl ?_
              refine rr_iload_n (q := 85) dX12_issue_84 rfl rfl ?_
              refine rr_bipush (q := 87) (v := -4) dX12_issue_85 rfl (by decide) ?_
              obtain ⟨c17, hm⟩ := vv_ck_of hm
              obtain ⟨g18, c19, hm⟩ := vv_let_of hm
              refine rr_iast (q := 88) ylR_32 ynR_32 c17 dX12_issue_87 rfl ?_
              rw [← c19]
              refine rr_aload_n (q := 89) dX12_issue_88 rfl rfl ?_
              refine gf_X12_106 (q := 92) rfl dX12_issue_89 rfl ?_
              refine rr_iload_n (q := 93) dX12_issue_92 rfl rfl ?_
              refine rr_iload_n (q := 94) dX12_issue_93 rfl rfl ?_
              obtain ⟨c20, hm⟩ := vv_ck_of hm
              obtain ⟨g21, c22, hm⟩ := vv_let_of hm
              refine rr_iast (q := 95) ylR_33 ynR_33 c20 dX12_issue_94 rfl ?_
              rw [← c22]
              refine rr_aload_n (q := 96) dX12_issue_95 rfl rfl ?_
              refine gf_X12_121 (q := 99) rfl dX12_issue_96 rfl ?_
              refine rr_iload_n (q := 100) dX12_issue_99 rfl rfl ?_
              refine rr_iload_n (q := 101) dX12_issue_100 rfl rfl ?_
              obtain ⟨c23, hm⟩ := vv_ck_of hm
              obtain ⟨g24, c25, hm⟩ := vv_let_of hm
              refine rr_iast (q := 102) ylR_38 ynR_38 c23 dX12_issue_101 rfl ?_
              rw [← c25]
              refine rr_aload_n (q := 103) dX12_issue_102 rfl rfl ?_
              refine gf_X12_109 (q := 106) rfl dX12_issue_103 rfl ?_
              refine rr_iload_n (q := 107) dX12_issue_106 rfl rfl ?_
              refine rr_aload_n (q := 108) dX12_issue_107 rfl rfl ?_
              refine gf_X12_187 (q := 111) rfl dX12_issue_108 rfl ?_
              obtain ⟨c26, hm⟩ := vv_ck_of hm
              obtain ⟨g27, c28, hm⟩ := vv_let_of hm
              refine rr_iast (q := 112) ylR_34 ynR_34 c26 dX12_issue_111 rfl ?_
              rw [← c28]
              refine rr_aload_n (q := 113) dX12_issue_112 rfl rfl ?_
              refine gf_X12_115 (q := 116) rfl dX12_issue_113 rfl ?_
              refine rr_iload_n (q := 117) dX12_issue_116 rfl rfl ?_
              refine rr_dup2 (q := 118) dX12_issue_117 rfl rfl rfl ?_
              obtain ⟨c29, hm⟩ := vv_ck_of hm
              refine rr_iald (q := 119) ylR_36 ynR_36 c29 dX12_issue_118 rfl ?_
              refine rr_iconst (q := 120) (v := 1) dX12_issue_119 rfl (by decide) ?_
              refine rr_iadd (q := 121) dX12_issue_120 rfl ?_
              obtain ⟨c30, hm⟩ := vv_ck_of hm
              obtain ⟨g31, c32, hm⟩ := vv_let_of hm
              refine rr_iast (q := 122) ylR_36 ynR_36 c30 dX12_issue_121 rfl ?_
              rw [← c32]
              refine rr_aload_n (q := 123) dX12_issue_122 rfl rfl ?_
              refine rr_aload_n (q := 124) dX12_issue_123 rfl rfl ?_
              refine gf_X12_94 (q := 127) rfl dX12_issue_124 rfl ?_
              refine rr_iload_n (q := 128) dX12_issue_127 rfl rfl ?_
              obtain ⟨c33, hm⟩ := vv_ck_of hm
              refine rr_iald (q := 129) ylR_29 ynR_29 c33 dX12_issue_128 rfl ?_
              refine rr_iload_n (q := 130) dX12_issue_129 rfl rfl ?_
              refine rr_iconst (q := 131) (v := 0) dX12_issue_130 rfl (by decide) ?_
              obtain ⟨r34, k35, hm⟩ := vv_bind hm
              refine rr_callV (q := 134) (M' := mm_X12_doesFit) (As := [.int (g31.1 29 v1.toNatClampNeg), .int v2, .int (0 : Int32)]) (st := []) (w := some (.int r34)) (cc_X12_doesFit  k35) rfl ylR_0 ynR_0 rfl vy_X12_doesFit zw_552 ⟨Nat.le_of_ble_eq_true rfl, Nat.le_of_ble_eq_true rfl⟩ (Nat.le_of_ble_eq_true rfl) dX12_issue_131 rfl ?_
              show vv_V x vv_TR mm_X12_issue post 134 [some (.ref (vv_ad x 0)), some (.int v1), some (.int v2), some (.int r5)] [.int r34] g31
              refine rr_if_eq (q := 137) (tgt := 141) dX12_issue_134 (by decide) rfl hm (fun hm => ?_) (fun hm => ?_)
              · refine rr_iconst (q := 142) (v := 0) dX12_issue_141 rfl (by decide) ?_
                obtain rfl := Option.some.inj hm
                exact rr_iret dX12_issue_142 rfl hp
              · refine rr_iconst (q := 138) (v := 1) dX12_issue_137 rfl (by decide) ?_
                refine rr_goto (tgt := 142) dX12_issue_138 (by decide) ?_
                obtain rfl := Option.some.inj hm
                exact rr_iret dX12_issue_142 rfl hp
            · refine rr_bipush (q := 79) (v := -2) dX12_issue_77 rfl (by decide) ?_
              obtain rfl := Option.some.inj hm
              exact rr_iret dX12_issue_79 rfl hp
    · refine rr_iconst (q := 17) (v := -1) dX12_issue_16 rfl (by decide) ?_
      obtain rfl := Option.some.inj hm
      exact rr_iret dX12_issue_17 rfl hp
theorem cc_X12_issue {x : vv_E} {h : vv_H} {v1 : Int32} {v2 : Int32} {o : Int32 × vv_H}  (hm : ff_X12_issue h v1 v2 = some o) : vv_C x vv_TR yX12_issue mm_X12_issue [.ref (vv_ad x 0), .int v1, .int v2] h (fun v g => v = some (.int o.1) ∧ g = o.2) := vv_entry (by decide +kernel) rfl (Nat.le_of_ble_eq_true rfl) rfl (vt_X12_issue  hm ⟨rfl, rfl⟩)
def ff_X12_most_B6 (u1 : Int32) (u2 : Int32) (u3 : Int32) (u4 : Int32) (s5 : Int32) (h : vv_H) : Option ((Int32 × vv_H) ⊕ ((vv_H))) := (if (h.1 0 44) ≤ s5 then some (.inr h) else vv_ck s5 36 (vv_let (vv_iu h 40 s5.toNatClampNeg (-4 : Int32)) (fun g2 => vv_let (s5 + 1) (fun w4 => some (.inl (w4, g2))))))
def ff_X12_most_B33 (u1 : Int32) (u2 : Int32) (u3 : Int32) (s4 : Int32) (s5 : Int32) (h : vv_H) : Option ((Int32 × Int32 × vv_H) ⊕ ((Int32 × vv_H))) := (if (h.1 0 1) ≤ s5 then some (.inr (s4, h)) else (if ((u1 >>> (s5 &&& 31)) &&& (1 : Int32)) = (1 : Int32) then (ff_X12_joins h s5 u2 u3).bind (fun r10 => (if r10.1 = 0 then vv_let (s5 + 1) (fun w12 => some (.inl ((s4 + (0 : Int32)), w12, r10.2))) else vv_let (s5 + 1) (fun w14 => some (.inl ((s4 + (1 : Int32)), w14, r10.2))))) else vv_let (s5 + 1) (fun w8 => some (.inl ((s4 + (0 : Int32)), w8, h)))))
def ff_X12_most (h : vv_H) (v1 : Int32) (v2 : Int32) (v3 : Int32) : Option (Int32 × vv_H) := (vv_lp (fun (zs : Int32 × vv_H) => ff_X12_most_B6  v1 v2 v3 (0 : Int32) zs.1 zs.2) vv_F ((0 : Int32), h)).bind (fun (e7 : (vv_H)) => (vv_lp (fun (zs : Int32 × Int32 × vv_H) => ff_X12_most_B33  v1 v2 v3 zs.1 zs.2.1 zs.2.2) vv_F ((0 : Int32), (0 : Int32), e7)).bind (fun (e17 : (Int32 × vv_H)) => some (e17.1, e17.2)))
set_option maxHeartbeats 200000 in
theorem vt_X12_most_B6 {x : vv_E} {post : Option Value → vv_H → Prop} {u1 : Int32} {u2 : Int32} {u3 : Int32} {u4 : Int32} {s5 : Int32} {h : vv_H} {o : (Int32 × vv_H) ⊕ ((vv_H))}  (hm : ff_X12_most_B6  u1 u2 u3 u4 s5 h = some o) (hI : ∀ (z5 : Int32) (zh : vv_H), o = .inl (z5, zh) → vv_V x vv_TR mm_X12_most post 6 [some (.ref (vv_ad x 0)), some (.int u1), some (.int u2), some (.int u3), some (.int u4), some (.int z5)] [] zh) (hX0 : ∀  (zh : vv_H), o = .inr zh → vv_V x vv_TR mm_X12_most post 30 [some (.ref (vv_ad x 0)), some (.int u1), some (.int u2), some (.int u3), some (.int u4), none] [] zh) : vv_V x vv_TR mm_X12_most post 6 [some (.ref (vv_ad x 0)), some (.int u1), some (.int u2), some (.int u3), some (.int u4), some (.int s5)] [] h := by
  unfold ff_X12_most_B6 at hm
  refine rr_iload (q := 8) dX12_most_6 rfl rfl ?_
  refine rr_aload_n (q := 9) dX12_most_8 rfl rfl ?_
  refine gf_X12_232 (q := 12) rfl dX12_most_9 rfl ?_
  refine rr_icmp_ge (q := 15) (tgt := 30) dX12_most_12 (by decide) rfl hm (fun hm => ?_) (fun hm => ?_)
  · obtain rfl := Option.some.inj hm
    refine rr_sub [true, true, true, true, true, false] rfl ?_
    exact hX0 h rfl
  · refine rr_aload_n (q := 16) dX12_most_15 rfl rfl ?_
    refine gf_X12_128 (q := 19) rfl dX12_most_16 rfl ?_
    refine rr_iload (q := 21) dX12_most_19 rfl rfl ?_
    refine rr_bipush (q := 23) (v := -4) dX12_most_21 rfl (by decide) ?_
    obtain ⟨c1, hm⟩ := vv_ck_of hm
    obtain ⟨g2, c3, hm⟩ := vv_let_of hm
    refine rr_iast (q := 24) ylR_40 ynR_40 c1 dX12_most_23 rfl ?_
    rw [← c3]
    obtain ⟨w4, c5, hm⟩ := vv_let_of hm
    refine rr_iinc (q := 27) [some (.ref (vv_ad x 0)), some (.int u1), some (.int u2), some (.int u3), some (.int u4), some (.int w4)] dX12_most_24 rfl rfl c5.symm (Nat.le_of_ble_eq_true rfl) rfl rfl ?_
    refine rr_goto (tgt := 6) dX12_most_27 (by decide) ?_
    obtain rfl := Option.some.inj hm
    exact hI w4 g2 rfl
set_option maxHeartbeats 200000 in
theorem vt_X12_most_B33 {x : vv_E} {post : Option Value → vv_H → Prop} {u1 : Int32} {u2 : Int32} {u3 : Int32} {s4 : Int32} {s5 : Int32} {h : vv_H} {o : (Int32 × Int32 × vv_H) ⊕ ((Int32 × vv_H))}  (hm : ff_X12_most_B33  u1 u2 u3 s4 s5 h = some o) (hI : ∀ (z4 : Int32) (z5 : Int32) (zh : vv_H), o = .inl (z4, z5, zh) → vv_V x vv_TR mm_X12_most post 33 [some (.ref (vv_ad x 0)), some (.int u1), some (.int u2), some (.int u3), some (.int z4), some (.int z5)] [] zh) (hX0 : ∀ (z4 : Int32) (zh : vv_H), o = .inr (z4, zh) → vv_V x vv_TR mm_X12_most post 79 [none, none, none, none, some (.int z4), none] [] zh) : vv_V x vv_TR mm_X12_most post 33 [some (.ref (vv_ad x 0)), some (.int u1), some (.int u2), some (.int u3), some (.int s4), some (.int s5)] [] h := by
  unfold ff_X12_most_B33 at hm
  refine rr_iload (q := 35) dX12_most_33 rfl rfl ?_
  refine rr_aload_n (q := 36) dX12_most_35 rfl rfl ?_
  refine gf_X12_177 (q := 39) rfl dX12_most_36 rfl ?_
  refine rr_icmp_ge (q := 42) (tgt := 79) dX12_most_39 (by decide) rfl hm (fun hm => ?_) (fun hm => ?_)
  · obtain rfl := Option.some.inj hm
    refine rr_sub [false, false, false, false, true, false] rfl ?_
    exact hX0 s4 h rfl
  · refine rr_iload (q := 44) dX12_most_42 rfl rfl ?_
    refine rr_iload_n (q := 45) dX12_most_44 rfl rfl ?_
    refine rr_iload (q := 47) dX12_most_45 rfl rfl ?_
    refine rr_ishr (q := 48) dX12_most_47 rfl ?_
    refine rr_iconst (q := 49) (v := 1) dX12_most_48 rfl (by decide) ?_
    refine rr_iand (q := 50) dX12_most_49 rfl ?_
    refine rr_iconst (q := 51) (v := 1) dX12_most_50 rfl (by decide) ?_
    refine rr_icmp_ne (q := 54) (tgt := 69) dX12_most_51 (by decide) rfl hm (fun hm => ?_) (fun hm => ?_)
    · refine rr_iconst (q := 70) (v := 0) dX12_most_69 rfl (by decide) ?_
      refine rr_iadd (q := 71) dX12_most_70 rfl ?_
      refine rr_istore (q := 73) [some (.ref (vv_ad x 0)), some (.int u1), some (.int u2), some (.int u3), some (.int (s4 + (0 : Int32))), some (.int s5)] dX12_most_71 rfl (Nat.le_of_ble_eq_true rfl) rfl rfl ?_
      obtain ⟨w8, c9, hm⟩ := vv_let_of hm
      refine rr_iinc (q := 76) [some (.ref (vv_ad x 0)), some (.int u1), some (.int u2), some (.int u3), some (.int (s4 + (0 : Int32))), some (.int w8)] dX12_most_73 rfl rfl c9.symm (Nat.le_of_ble_eq_true rfl) rfl rfl ?_
      refine rr_goto (tgt := 33) dX12_most_76 (by decide) ?_
      obtain rfl := Option.some.inj hm
      exact hI (s4 + (0 : Int32)) w8 h rfl
    · refine rr_aload_n (q := 55) dX12_most_54 rfl rfl ?_
      refine rr_iload (q := 57) dX12_most_55 rfl rfl ?_
      refine rr_iload_n (q := 58) dX12_most_57 rfl rfl ?_
      refine rr_iload_n (q := 59) dX12_most_58 rfl rfl ?_
      obtain ⟨r10, k11, hm⟩ := vv_bind hm
      refine rr_callV (q := 62) (M' := mm_X12_joins) (As := [.int s5, .int u2, .int u3]) (st := [.int s4]) (w := some (.int r10.1)) (cc_X12_joins  k11) rfl ylR_0 ynR_0 rfl vy_X12_joins zw_747 ⟨Nat.le_of_ble_eq_true rfl, Nat.le_of_ble_eq_true rfl⟩ (Nat.le_of_ble_eq_true rfl) dX12_most_59 rfl ?_
      show vv_V x vv_TR mm_X12_most post 62 [some (.ref (vv_ad x 0)), some (.int u1), some (.int u2), some (.int u3), some (.int s4), some (.int s5)] [.int r10.1, .int s4] r10.2
      refine rr_if_eq (q := 65) (tgt := 69) dX12_most_62 (by decide) rfl hm (fun hm => ?_) (fun hm => ?_)
      · refine rr_iconst (q := 70) (v := 0) dX12_most_69 rfl (by decide) ?_
        refine rr_iadd (q := 71) dX12_most_70 rfl ?_
        refine rr_istore (q := 73) [some (.ref (vv_ad x 0)), some (.int u1), some (.int u2), some (.int u3), some (.int (s4 + (0 : Int32))), some (.int s5)] dX12_most_71 rfl (Nat.le_of_ble_eq_true rfl) rfl rfl ?_
        obtain ⟨w12, c13, hm⟩ := vv_let_of hm
        refine rr_iinc (q := 76) [some (.ref (vv_ad x 0)), some (.int u1), some (.int u2), some (.int u3), some (.int (s4 + (0 : Int32))), some (.int w12)] dX12_most_73 rfl rfl c13.symm (Nat.le_of_ble_eq_true rfl) rfl rfl ?_
        refine rr_goto (tgt := 33) dX12_most_76 (by decide) ?_
        obtain rfl := Option.some.inj hm
        exact hI (s4 + (0 : Int32)) w12 r10.2 rfl
      · refine rr_iconst (q := 66) (v := 1) dX12_most_65 rfl (by decide) ?_
        refine rr_goto (tgt := 70) dX12_most_66 (by decide) ?_
        refine rr_iadd (q := 71) dX12_most_70 rfl ?_
        refine rr_istore (q := 73) [some (.ref (vv_ad x 0)), some (.int u1), some (.int u2), some (.int u3), some (.int (s4 + (1 : Int32))), some (.int s5)] dX12_most_71 rfl (Nat.le_of_ble_eq_true rfl) rfl rfl ?_
        obtain ⟨w14, c15, hm⟩ := vv_let_of hm
        refine rr_iinc (q := 76) [some (.ref (vv_ad x 0)), some (.int u1), some (.int u2), some (.int u3), some (.int (s4 + (1 : Int32))), some (.int w14)] dX12_most_73 rfl rfl c15.symm (Nat.le_of_ble_eq_true rfl) rfl rfl ?_
        refine rr_goto (tgt := 33) dX12_most_76 (by decide) ?_
        obtain rfl := Option.some.inj hm
        exact hI (s4 + (1 : Int32)) w14 r10.2 rfl
set_option maxHeartbeats 200000 in
theorem vt_X12_most {x : vv_E} {post : Option Value → vv_H → Prop} {h : vv_H} {v1 : Int32} {v2 : Int32} {v3 : Int32} {o : Int32 × vv_H}  (hm : ff_X12_most  h v1 v2 v3 = some o) (hp : post (some (.int o.1)) o.2) : vv_V x vv_TR mm_X12_most post 0 [some (.ref (vv_ad x 0)), some (.int v1), some (.int v2), some (.int v3), none, none] [] h := by
  unfold ff_X12_most at hm
  refine rr_iconst (q := 1) (v := 0) dX12_most_0 rfl (by decide) ?_
  refine rr_istore (q := 3) [some (.ref (vv_ad x 0)), some (.int v1), some (.int v2), some (.int v3), some (.int (0 : Int32)), none] dX12_most_1 rfl (Nat.le_of_ble_eq_true rfl) rfl rfl ?_
  refine rr_iconst (q := 4) (v := 0) dX12_most_3 rfl (by decide) ?_
  refine rr_istore (q := 6) [some (.ref (vv_ad x 0)), some (.int v1), some (.int v2), some (.int v3), some (.int (0 : Int32)), some (.int (0 : Int32))] dX12_most_4 rfl (Nat.le_of_ble_eq_true rfl) rfl rfl ?_
  obtain ⟨r6, k19, hm⟩ := vv_bind hm
  refine vv_lp_link (P := fun (zs : Int32 × vv_H) => vv_V x vv_TR mm_X12_most post 6 [some (.ref (vv_ad x 0)), some (.int v1), some (.int v2), some (.int v3), some (.int (0 : Int32)), some (.int zs.1)] [] zs.2) (Q := (fun (e7 : (vv_H)) => vv_V x vv_TR mm_X12_most post 30 [some (.ref (vv_ad x 0)), some (.int v1), some (.int v2), some (.int v3), some (.int (0 : Int32)), none] [] e7)) (fun zs o hm hI hX => ?_) vv_F ((0 : Int32), h) r6 k19 ?_
  · exact vt_X12_most_B6   hm (fun z5 zh e => hI (z5, zh) e) (fun zh e => hX zh e)
  · generalize r6 = e7 at hm ⊢
    try dsimp only [Sum.elim_inl, Sum.elim_inr] at hm
    try dsimp only [Sum.elim_inl, Sum.elim_inr]
    refine rr_iconst (q := 31) (v := 0) dX12_most_30 rfl (by decide) ?_
    refine rr_istore (q := 33) [some (.ref (vv_ad x 0)), some (.int v1), some (.int v2), some (.int v3), some (.int (0 : Int32)), some (.int (0 : Int32))] dX12_most_31 rfl (Nat.le_of_ble_eq_true rfl) rfl rfl ?_
    obtain ⟨r16, k18, hm⟩ := vv_bind hm
    refine vv_lp_link (P := fun (zs : Int32 × Int32 × vv_H) => vv_V x vv_TR mm_X12_most post 33 [some (.ref (vv_ad x 0)), some (.int v1), some (.int v2), some (.int v3), some (.int zs.1), some (.int zs.2.1)] [] zs.2.2) (Q := (fun (e17 : (Int32 × vv_H)) => vv_V x vv_TR mm_X12_most post 79 [none, none, none, none, some (.int e17.1), none] [] e17.2)) (fun zs o hm hI hX => ?_) vv_F ((0 : Int32), (0 : Int32), e7) r16 k18 ?_
    · exact vt_X12_most_B33   hm (fun z4 z5 zh e => hI (z4, z5, zh) e) (fun z4 zh e => hX (z4, zh) e)
    · generalize r16 = e17 at hm ⊢
      try dsimp only [Sum.elim_inl, Sum.elim_inr] at hm
      try dsimp only [Sum.elim_inl, Sum.elim_inr]
      refine rr_iload (q := 81) dX12_most_79 rfl rfl ?_
      obtain rfl := Option.some.inj hm
      exact rr_iret dX12_most_81 rfl hp
theorem cc_X12_most {x : vv_E} {h : vv_H} {v1 : Int32} {v2 : Int32} {v3 : Int32} {o : Int32 × vv_H}  (hm : ff_X12_most h v1 v2 v3 = some o) : vv_C x vv_TR yX12_most mm_X12_most [.ref (vv_ad x 0), .int v1, .int v2, .int v3] h (fun v g => v = some (.int o.1) ∧ g = o.2) := vv_entry (by decide +kernel) rfl (Nat.le_of_ble_eq_true rfl) rfl (vt_X12_most  hm ⟨rfl, rfl⟩)
def ff_X12_order (h : vv_H) (v1 : Int32) (v2 : Int32) : Option (Int32 × vv_H) := (ff_X12_in v1.toInt64 (0 : Int64) (3 : Int64)).bind (fun r1 => (if r1 = 0 then some ((-1 : Int32), h) else (ff_X12_areDigits h v2).bind (fun r3 => (if r3 = 0 then some ((-1 : Int32), h) else (ff_X12_layMore h v1 v2).bind (fun r5 => (if r5.1 = 0 then some ((-4 : Int32), r5.2) else (ff_X12_leastCost r5.2).bind (fun r7 => some (r7.1, r7.2))))))))
set_option maxHeartbeats 200000 in
theorem vt_X12_order {x : vv_E} {post : Option Value → vv_H → Prop} {h : vv_H} {v1 : Int32} {v2 : Int32} {o : Int32 × vv_H}  (hm : ff_X12_order  h v1 v2 = some o) (hp : post (some (.int o.1)) o.2) : vv_V x vv_TR mm_X12_order post 0 [some (.ref (vv_ad x 0)), some (.int v1), some (.int v2)] [] h := by
  unfold ff_X12_order at hm
  refine rr_iload_n (q := 1) dX12_order_0 rfl rfl ?_
  refine rr_i2l (q := 2) dX12_order_1 rfl ?_
  refine rr_lconst (q := 3) (v := 0) dX12_order_2 rfl (by decide) ?_
  refine rr_ldc2 (q := 6) dX12_order_3 rfl zw_270 ?_
  obtain ⟨r1, k2, hm⟩ := vv_bind hm
  refine rr_callS (q := 9) (M' := mm_X12_in) (As := [.long v1.toInt64, .long (0 : Int64), .long (3 : Int64)]) (st := []) (w := some (.int r1))  (cc_X12_in  k2) rfl vy_X12_in zw_267 ⟨Nat.le_of_ble_eq_true rfl, Nat.le_of_ble_eq_true rfl⟩ (Nat.le_of_ble_eq_true rfl) dX12_order_6 rfl ?_
  show vv_V x vv_TR mm_X12_order post 9 [some (.ref (vv_ad x 0)), some (.int v1), some (.int v2)] [.int r1] h
  refine rr_if_eq (q := 12) (tgt := 20) dX12_order_9 (by decide) rfl hm (fun hm => ?_) (fun hm => ?_)
  · refine rr_iconst (q := 21) (v := -1) dX12_order_20 rfl (by decide) ?_
    obtain rfl := Option.some.inj hm
    exact rr_iret dX12_order_21 rfl hp
  · refine rr_aload_n (q := 13) dX12_order_12 rfl rfl ?_
    refine rr_iload_n (q := 14) dX12_order_13 rfl rfl ?_
    obtain ⟨r3, k4, hm⟩ := vv_bind hm
    refine rr_callV (q := 17) (M' := mm_X12_areDigits) (As := [.int v2]) (st := []) (w := some (.int r3)) (cc_X12_areDigits  k4) rfl ylR_0 ynR_0 rfl vy_X12_areDigits zw_752 ⟨Nat.le_of_ble_eq_true rfl, Nat.le_of_ble_eq_true rfl⟩ (Nat.le_of_ble_eq_true rfl) dX12_order_14 rfl ?_
    show vv_V x vv_TR mm_X12_order post 17 [some (.ref (vv_ad x 0)), some (.int v1), some (.int v2)] [.int r3] h
    refine rr_if_ne (q := 20) (tgt := 22) dX12_order_17 (by decide) rfl hm (fun hm => ?_) (fun hm => ?_)
    · refine rr_aload_n (q := 23) dX12_order_22 rfl rfl ?_
      refine rr_iload_n (q := 24) dX12_order_23 rfl rfl ?_
      refine rr_iload_n (q := 25) dX12_order_24 rfl rfl ?_
      obtain ⟨r5, k6, hm⟩ := vv_bind hm
      refine rr_callV (q := 28) (M' := mm_X12_layMore) (As := [.int v1, .int v2]) (st := []) (w := some (.int r5.1)) (cc_X12_layMore  k6) rfl ylR_0 ynR_0 rfl vy_X12_layMore zw_757 ⟨Nat.le_of_ble_eq_true rfl, Nat.le_of_ble_eq_true rfl⟩ (Nat.le_of_ble_eq_true rfl) dX12_order_25 rfl ?_
      show vv_V x vv_TR mm_X12_order post 28 [some (.ref (vv_ad x 0)), some (.int v1), some (.int v2)] [.int r5.1] r5.2
      refine rr_if_eq (q := 31) (tgt := 38) dX12_order_28 (by decide) rfl hm (fun hm => ?_) (fun hm => ?_)
      · refine rr_bipush (q := 40) (v := -4) dX12_order_38 rfl (by decide) ?_
        obtain rfl := Option.some.inj hm
        exact rr_iret dX12_order_40 rfl hp
      · refine rr_aload_n (q := 32) dX12_order_31 rfl rfl ?_
        obtain ⟨r7, k8, hm⟩ := vv_bind hm
        refine rr_callV (q := 35) (M' := mm_X12_leastCost) (As := []) (st := []) (w := some (.int r7.1)) (cc_X12_leastCost  k8) rfl ylR_0 ynR_0 rfl vy_X12_leastCost zw_762 ⟨Nat.le_of_ble_eq_true rfl, Nat.le_of_ble_eq_true rfl⟩ (Nat.le_of_ble_eq_true rfl) dX12_order_32 rfl ?_
        show vv_V x vv_TR mm_X12_order post 35 [some (.ref (vv_ad x 0)), some (.int v1), some (.int v2)] [.int r7.1] r7.2
        refine rr_goto (tgt := 40) dX12_order_35 (by decide) ?_
        obtain rfl := Option.some.inj hm
        exact rr_iret dX12_order_40 rfl hp
    · refine rr_iconst (q := 21) (v := -1) dX12_order_20 rfl (by decide) ?_
      obtain rfl := Option.some.inj hm
      exact rr_iret dX12_order_21 rfl hp
theorem cc_X12_order {x : vv_E} {h : vv_H} {v1 : Int32} {v2 : Int32} {o : Int32 × vv_H}  (hm : ff_X12_order h v1 v2 = some o) : vv_C x vv_TR yX12_order mm_X12_order [.ref (vv_ad x 0), .int v1, .int v2] h (fun v g => v = some (.int o.1) ∧ g = o.2) := vv_entry (by decide +kernel) rfl (Nat.le_of_ble_eq_true rfl) rfl (vt_X12_order  hm ⟨rfl, rfl⟩)
def ff_X12_ordered_B62 (u3 : Int32) (u4 : Int32) (h : vv_H) (s5 : Int32) (s6 : Int32) : Option ((Int32 × Int32) ⊕ ((Int32))) := (if (h.1 0 62) ≤ s6 then some (.inr s5) else vv_ck s6 12 ((if (h.1 46 s6.toNatClampNeg) = u3 then vv_ck s6 12 ((if (h.1 47 s6.toNatClampNeg) = u4 then vv_ck s6 12 (vv_let (h.1 50 s6.toNatClampNeg) (fun w20 => vv_let (s6 + 1) (fun w22 => some (.inl (w20, w22))))) else vv_let (s6 + 1) (fun w17 => some (.inl (s5, w17))))) else vv_let (s6 + 1) (fun w14 => some (.inl (s5, w14))))))
def ff_X12_ordered (h : vv_H) (v1 : Int32) (v2 : Int32) (v3 : Int32) (v4 : Int32) : Option (Int32 × vv_H) := (ff_X12_in v1.toInt64 (0 : Int64) (3 : Int64)).bind (fun r1 => (if r1 = 0 then some ((-1 : Int32), h) else (ff_X12_areDigits h v2).bind (fun r3 => (if r3 = 0 then some ((-1 : Int32), h) else (ff_X12_isStore h v3).bind (fun r5 => (if r5 = 0 then some ((-1 : Int32), h) else (ff_X12_isStore h v4).bind (fun r7 => (if r7 = 0 then some ((-1 : Int32), h) else (ff_X12_layMore h v1 v2).bind (fun r9 => (if r9.1 = 0 then some ((-4 : Int32), r9.2) else (ff_X12_leastCost r9.2).bind (fun r11 => (vv_lp (fun (zs : Int32 × Int32) => ff_X12_ordered_B62  v3 v4 r11.2 zs.1 zs.2) vv_F ((0 : Int32), (0 : Int32))).bind (fun (e25 : (Int32)) => some (e25, r11.2)))))))))))))
set_option maxHeartbeats 200000 in
theorem vt_X12_ordered_B62 {x : vv_E} {post : Option Value → vv_H → Prop} {u3 : Int32} {u4 : Int32} {h : vv_H} {s5 : Int32} {s6 : Int32} {o : (Int32 × Int32) ⊕ ((Int32))}  (hm : ff_X12_ordered_B62  u3 u4 h s5 s6 = some o) (hI : ∀ (z5 : Int32) (z6 : Int32) , o = .inl (z5, z6) → vv_V x vv_TR mm_X12_ordered post 62 [some (.ref (vv_ad x 0)), none, none, some (.int u3), some (.int u4), some (.int z5), some (.int z6)] [] h) (hX0 : ∀ (z5 : Int32), o = .inr z5 → vv_V x vv_TR mm_X12_ordered post 114 [none, none, none, none, none, some (.int z5), none] [] h) : vv_V x vv_TR mm_X12_ordered post 62 [some (.ref (vv_ad x 0)), none, none, some (.int u3), some (.int u4), some (.int s5), some (.int s6)] [] h := by
  unfold ff_X12_ordered_B62 at hm
  refine rr_iload (q := 64) dX12_ordered_62 rfl rfl ?_
  refine rr_aload_n (q := 65) dX12_ordered_64 rfl rfl ?_
  refine gf_X12_374 (q := 68) rfl dX12_ordered_65 rfl ?_
  refine rr_icmp_ge (q := 71) (tgt := 114) dX12_ordered_68 (by decide) rfl hm (fun hm => ?_) (fun hm => ?_)
  · obtain rfl := Option.some.inj hm
    refine rr_sub [false, false, false, false, false, true, false] rfl ?_
    exact hX0 s5 rfl
  · refine rr_aload_n (q := 72) dX12_ordered_71 rfl rfl ?_
    refine gf_X12_146 (q := 75) rfl dX12_ordered_72 rfl ?_
    refine rr_iload (q := 77) dX12_ordered_75 rfl rfl ?_
    obtain ⟨c13, hm⟩ := vv_ck_of hm
    refine rr_iald (q := 78) ylR_46 ynR_46 c13 dX12_ordered_77 rfl ?_
    refine rr_iload_n (q := 79) dX12_ordered_78 rfl rfl ?_
    refine rr_icmp_ne (q := 82) (tgt := 104) dX12_ordered_79 (by decide) rfl hm (fun hm => ?_) (fun hm => ?_)
    · refine rr_iload (q := 106) dX12_ordered_104 rfl rfl ?_
      refine rr_istore (q := 108) [some (.ref (vv_ad x 0)), none, none, some (.int u3), some (.int u4), some (.int s5), some (.int s6)] dX12_ordered_106 rfl (Nat.le_of_ble_eq_true rfl) rfl rfl ?_
      obtain ⟨w14, c15, hm⟩ := vv_let_of hm
      refine rr_iinc (q := 111) [some (.ref (vv_ad x 0)), none, none, some (.int u3), some (.int u4), some (.int s5), some (.int w14)] dX12_ordered_108 rfl rfl c15.symm (Nat.le_of_ble_eq_true rfl) rfl rfl ?_
      refine rr_goto (tgt := 62) dX12_ordered_111 (by decide) ?_
      obtain rfl := Option.some.inj hm
      exact hI s5 w14 rfl
    · refine rr_aload_n (q := 83) dX12_ordered_82 rfl rfl ?_
      refine gf_X12_149 (q := 86) rfl dX12_ordered_83 rfl ?_
      refine rr_iload (q := 88) dX12_ordered_86 rfl rfl ?_
      obtain ⟨c16, hm⟩ := vv_ck_of hm
      refine rr_iald (q := 89) ylR_47 ynR_47 c16 dX12_ordered_88 rfl ?_
      refine rr_iload (q := 91) dX12_ordered_89 rfl rfl ?_
      refine rr_icmp_ne (q := 94) (tgt := 104) dX12_ordered_91 (by decide) rfl hm (fun hm => ?_) (fun hm => ?_)
      · refine rr_iload (q := 106) dX12_ordered_104 rfl rfl ?_
        refine rr_istore (q := 108) [some (.ref (vv_ad x 0)), none, none, some (.int u3), some (.int u4), some (.int s5), some (.int s6)] dX12_ordered_106 rfl (Nat.le_of_ble_eq_true rfl) rfl rfl ?_
        obtain ⟨w17, c18, hm⟩ := vv_let_of hm
        refine rr_iinc (q := 111) [some (.ref (vv_ad x 0)), none, none, some (.int u3), some (.int u4), some (.int s5), some (.int w17)] dX12_ordered_108 rfl rfl c18.symm (Nat.le_of_ble_eq_true rfl) rfl rfl ?_
        refine rr_goto (tgt := 62) dX12_ordered_111 (by decide) ?_
        obtain rfl := Option.some.inj hm
        exact hI s5 w17 rfl
      · refine rr_aload_n (q := 95) dX12_ordered_94 rfl rfl ?_
        refine gf_X12_158 (q := 98) rfl dX12_ordered_95 rfl ?_
        refine rr_iload (q := 100) dX12_ordered_98 rfl rfl ?_
        obtain ⟨c19, hm⟩ := vv_ck_of hm
        refine rr_iald (q := 101) ylR_50 ynR_50 c19 dX12_ordered_100 rfl ?_
        refine rr_goto (tgt := 106) dX12_ordered_101 (by decide) ?_
        obtain ⟨w20, c21, hm⟩ := vv_let_of hm
        rw [← c21]
        refine rr_istore (q := 108) [some (.ref (vv_ad x 0)), none, none, some (.int u3), some (.int u4), some (.int w20), some (.int s6)] dX12_ordered_106 rfl (Nat.le_of_ble_eq_true rfl) rfl rfl ?_
        obtain ⟨w22, c23, hm⟩ := vv_let_of hm
        refine rr_iinc (q := 111) [some (.ref (vv_ad x 0)), none, none, some (.int u3), some (.int u4), some (.int w20), some (.int w22)] dX12_ordered_108 rfl rfl c23.symm (Nat.le_of_ble_eq_true rfl) rfl rfl ?_
        refine rr_goto (tgt := 62) dX12_ordered_111 (by decide) ?_
        obtain rfl := Option.some.inj hm
        exact hI w20 w22 rfl
set_option maxHeartbeats 200000 in
theorem vt_X12_ordered {x : vv_E} {post : Option Value → vv_H → Prop} {h : vv_H} {v1 : Int32} {v2 : Int32} {v3 : Int32} {v4 : Int32} {o : Int32 × vv_H}  (hm : ff_X12_ordered  h v1 v2 v3 v4 = some o) (hp : post (some (.int o.1)) o.2) : vv_V x vv_TR mm_X12_ordered post 0 [some (.ref (vv_ad x 0)), some (.int v1), some (.int v2), some (.int v3), some (.int v4), none, none] [] h := by
  unfold ff_X12_ordered at hm
  refine rr_iload_n (q := 1) dX12_ordered_0 rfl rfl ?_
  refine rr_i2l (q := 2) dX12_ordered_1 rfl ?_
  refine rr_lconst (q := 3) (v := 0) dX12_ordered_2 rfl (by decide) ?_
  refine rr_ldc2 (q := 6) dX12_ordered_3 rfl zw_270 ?_
  obtain ⟨r1, k2, hm⟩ := vv_bind hm
  refine rr_callS (q := 9) (M' := mm_X12_in) (As := [.long v1.toInt64, .long (0 : Int64), .long (3 : Int64)]) (st := []) (w := some (.int r1))  (cc_X12_in  k2) rfl vy_X12_in zw_267 ⟨Nat.le_of_ble_eq_true rfl, Nat.le_of_ble_eq_true rfl⟩ (Nat.le_of_ble_eq_true rfl) dX12_ordered_6 rfl ?_
  show vv_V x vv_TR mm_X12_ordered post 9 [some (.ref (vv_ad x 0)), some (.int v1), some (.int v2), some (.int v3), some (.int v4), none, none] [.int r1] h
  refine rr_if_eq (q := 12) (tgt := 37) dX12_ordered_9 (by decide) rfl hm (fun hm => ?_) (fun hm => ?_)
  · refine rr_iconst (q := 38) (v := -1) dX12_ordered_37 rfl (by decide) ?_
    obtain rfl := Option.some.inj hm
    exact rr_iret dX12_ordered_38 rfl hp
  · refine rr_aload_n (q := 13) dX12_ordered_12 rfl rfl ?_
    refine rr_iload_n (q := 14) dX12_ordered_13 rfl rfl ?_
    obtain ⟨r3, k4, hm⟩ := vv_bind hm
    refine rr_callV (q := 17) (M' := mm_X12_areDigits) (As := [.int v2]) (st := []) (w := some (.int r3)) (cc_X12_areDigits  k4) rfl ylR_0 ynR_0 rfl vy_X12_areDigits zw_752 ⟨Nat.le_of_ble_eq_true rfl, Nat.le_of_ble_eq_true rfl⟩ (Nat.le_of_ble_eq_true rfl) dX12_ordered_14 rfl ?_
    show vv_V x vv_TR mm_X12_ordered post 17 [some (.ref (vv_ad x 0)), some (.int v1), some (.int v2), some (.int v3), some (.int v4), none, none] [.int r3] h
    refine rr_if_eq (q := 20) (tgt := 37) dX12_ordered_17 (by decide) rfl hm (fun hm => ?_) (fun hm => ?_)
    · refine rr_iconst (q := 38) (v := -1) dX12_ordered_37 rfl (by decide) ?_
      obtain rfl := Option.some.inj hm
      exact rr_iret dX12_ordered_38 rfl hp
    · refine rr_aload_n (q := 21) dX12_ordered_20 rfl rfl ?_
      refine rr_iload_n (q := 22) dX12_ordered_21 rfl rfl ?_
      obtain ⟨r5, k6, hm⟩ := vv_bind hm
      refine rr_callV (q := 25) (M' := mm_X12_isStore) (As := [.int v3]) (st := []) (w := some (.int r5)) (cc_X12_isStore  k6) rfl ylR_0 ynR_0 rfl vy_X12_isStore zw_582 ⟨Nat.le_of_ble_eq_true rfl, Nat.le_of_ble_eq_true rfl⟩ (Nat.le_of_ble_eq_true rfl) dX12_ordered_22 rfl ?_
      show vv_V x vv_TR mm_X12_ordered post 25 [some (.ref (vv_ad x 0)), some (.int v1), some (.int v2), some (.int v3), some (.int v4), none, none] [.int r5] h
      refine rr_if_eq (q := 28) (tgt := 37) dX12_ordered_25 (by decide) rfl hm (fun hm => ?_) (fun hm => ?_)
      · refine rr_iconst (q := 38) (v := -1) dX12_ordered_37 rfl (by decide) ?_
        obtain rfl := Option.some.inj hm
        exact rr_iret dX12_ordered_38 rfl hp
      · refine rr_aload_n (q := 29) dX12_ordered_28 rfl rfl ?_
        refine rr_iload (q := 31) dX12_ordered_29 rfl rfl ?_
        obtain ⟨r7, k8, hm⟩ := vv_bind hm
        refine rr_callV (q := 34) (M' := mm_X12_isStore) (As := [.int v4]) (st := []) (w := some (.int r7)) (cc_X12_isStore  k8) rfl ylR_0 ynR_0 rfl vy_X12_isStore zw_582 ⟨Nat.le_of_ble_eq_true rfl, Nat.le_of_ble_eq_true rfl⟩ (Nat.le_of_ble_eq_true rfl) dX12_ordered_31 rfl ?_
        show vv_V x vv_TR mm_X12_ordered post 34 [some (.ref (vv_ad x 0)), some (.int v1), some (.int v2), some (.int v3), some (.int v4), none, none] [.int r7] h
        refine rr_if_ne (q := 37) (tgt := 39) dX12_ordered_34 (by decide) rfl hm (fun hm => ?_) (fun hm => ?_)
        · refine rr_aload_n (q := 40) dX12_ordered_39 rfl rfl ?_
          refine rr_iload_n (q := 41) dX12_ordered_40 rfl rfl ?_
          refine rr_iload_n (q := 42) dX12_ordered_41 rfl rfl ?_
          obtain ⟨r9, k10, hm⟩ := vv_bind hm
          refine rr_callV (q := 45) (M' := mm_X12_layMore) (As := [.int v1, .int v2]) (st := []) (w := some (.int r9.1)) (cc_X12_layMore  k10) rfl ylR_0 ynR_0 rfl vy_X12_layMore zw_757 ⟨Nat.le_of_ble_eq_true rfl, Nat.le_of_ble_eq_true rfl⟩ (Nat.le_of_ble_eq_true rfl) dX12_ordered_42 rfl ?_
          show vv_V x vv_TR mm_X12_ordered post 45 [some (.ref (vv_ad x 0)), some (.int v1), some (.int v2), some (.int v3), some (.int v4), none, none] [.int r9.1] r9.2
          refine rr_if_ne (q := 48) (tgt := 51) dX12_ordered_45 (by decide) rfl hm (fun hm => ?_) (fun hm => ?_)
          · refine rr_aload_n (q := 52) dX12_ordered_51 rfl rfl ?_
            obtain ⟨r11, k12, hm⟩ := vv_bind hm
            refine rr_callV (q := 55) (M' := mm_X12_leastCost) (As := []) (st := []) (w := some (.int r11.1)) (cc_X12_leastCost  k12) rfl ylR_0 ynR_0 rfl vy_X12_leastCost zw_762 ⟨Nat.le_of_ble_eq_true rfl, Nat.le_of_ble_eq_true rfl⟩ (Nat.le_of_ble_eq_true rfl) dX12_ordered_52 rfl ?_
            show vv_V x vv_TR mm_X12_ordered post 55 [some (.ref (vv_ad x 0)), some (.int v1), some (.int v2), some (.int v3), some (.int v4), none, none] [.int r11.1] r11.2
            refine rr_pop (q := 56) dX12_ordered_55 rfl rfl ?_
            refine rr_iconst (q := 57) (v := 0) dX12_ordered_56 rfl (by decide) ?_
            refine rr_istore (q := 59) [some (.ref (vv_ad x 0)), some (.int v1), some (.int v2), some (.int v3), some (.int v4), some (.int (0 : Int32)), none] dX12_ordered_57 rfl (Nat.le_of_ble_eq_true rfl) rfl rfl ?_
            refine rr_iconst (q := 60) (v := 0) dX12_ordered_59 rfl (by decide) ?_
            refine rr_istore (q := 62) [some (.ref (vv_ad x 0)), some (.int v1), some (.int v2), some (.int v3), some (.int v4), some (.int (0 : Int32)), some (.int (0 : Int32))] dX12_ordered_60 rfl (Nat.le_of_ble_eq_true rfl) rfl rfl ?_
            refine rr_sub [true, false, false, true, true, true, true] rfl ?_
            obtain ⟨r24, k26, hm⟩ := vv_bind hm
            refine vv_lp_link (P := fun (zs : Int32 × Int32) => vv_V x vv_TR mm_X12_ordered post 62 [some (.ref (vv_ad x 0)), none, none, some (.int v3), some (.int v4), some (.int zs.1), some (.int zs.2)] [] r11.2) (Q := (fun (e25 : (Int32)) => vv_V x vv_TR mm_X12_ordered post 114 [none, none, none, none, none, some (.int e25), none] [] r11.2)) (fun zs o hm hI hX => ?_) vv_F ((0 : Int32), (0 : Int32)) r24 k26 ?_
            · exact vt_X12_ordered_B62   hm (fun z5 z6 e => hI (z5, z6) e) (fun z5 e => hX z5 e)
            · generalize r24 = e25 at hm ⊢
              try dsimp only [Sum.elim_inl, Sum.elim_inr] at hm
              try dsimp only [Sum.elim_inl, Sum.elim_inr]
              refine rr_iload (q := 116) dX12_ordered_114 rfl rfl ?_
              obtain rfl := Option.some.inj hm
              exact rr_iret dX12_ordered_116 rfl hp
          · refine rr_bipush (q := 50) (v := -4) dX12_ordered_48 rfl (by decide) ?_
            obtain rfl := Option.some.inj hm
            exact rr_iret dX12_ordered_50 rfl hp
        · refine rr_iconst (q := 38) (v := -1) dX12_ordered_37 rfl (by decide) ?_
          obtain rfl := Option.some.inj hm
          exact rr_iret dX12_ordered_38 rfl hp
theorem cc_X12_ordered {x : vv_E} {h : vv_H} {v1 : Int32} {v2 : Int32} {v3 : Int32} {v4 : Int32} {o : Int32 × vv_H}  (hm : ff_X12_ordered h v1 v2 v3 v4 = some o) : vv_C x vv_TR yX12_ordered mm_X12_ordered [.ref (vv_ad x 0), .int v1, .int v2, .int v3, .int v4] h (fun v g => v = some (.int o.1) ∧ g = o.2) := vv_entry (by decide +kernel) rfl (Nat.le_of_ble_eq_true rfl) rfl (vt_X12_ordered  hm ⟨rfl, rfl⟩)
def ff_X3_findShade_B20 (u1 : Int32) (s2 : Int64) (s4 : Int32) (h : vv_H) : Option ((Int64 × Int32 × vv_H) ⊕ ((vv_H))) := (if (100 : Int32) ≤ s4 then some (.inr h) else (ff_X3_windowFrom h s4 u1).bind (fun r7 => (if (lg_cmp r7 s2) = 0 then vv_let (s4 + 1) (fun w9 => some (.inl (r7, w9, h))) else (ff_J13_bitCount_95d88 r7).bind (fun r11 => (if r11 ≤ (h.1 170 0) then vv_let (s4 + 1) (fun w13 => some (.inl (r7, w13, h))) else (ff_X3_keepBetter h s4 r7).bind (fun r15 => vv_let (s4 + 1) (fun w17 => some (.inl (r7, w17, r15)))))))))
def ff_X3_findShade (h : vv_H) (v1 : Int32) : Option (vv_H) := vv_let (vv_iu h 170 0 (0 : Int32)) (fun g1 => vv_let (vv_iu g1 170 1 (0 : Int32)) (fun g3 => vv_let (vv_lu g3 170 3 (0 : Int64)) (fun g5 => (vv_lp (fun (zs : Int64 × Int32 × vv_H) => ff_X3_findShade_B20  v1 zs.1 zs.2.1 zs.2.2) vv_F ((0 : Int64), (0 : Int32), g5)).bind (fun (e20 : (vv_H)) => some e20))))
set_option maxHeartbeats 200000 in
theorem vt_X3_findShade_B20 {x : vv_E} {post : Option Value → vv_H → Prop} {u1 : Int32} {s2 : Int64} {s4 : Int32} {h : vv_H} {o : (Int64 × Int32 × vv_H) ⊕ ((vv_H))}  (hm : ff_X3_findShade_B20  u1 s2 s4 h = some o) (hI : ∀ (z2 : Int64) (z4 : Int32) (zh : vv_H), o = .inl (z2, z4, zh) → vv_V x vv_TC mm_X3_findShade post 20 [some (.ref (vv_ad x 170)), some (.int u1), some (.long z2), none, some (.int z4), none, none] [] zh) (hX0 : ∀  (zh : vv_H), o = .inr zh → vv_V x vv_TC mm_X3_findShade post 72 [none, none, none, none, none, none, none] [] zh) : vv_V x vv_TC mm_X3_findShade post 20 [some (.ref (vv_ad x 170)), some (.int u1), some (.long s2), none, some (.int s4), none, none] [] h := by
  unfold ff_X3_findShade_B20 at hm
  refine rr_iload (q := 22) dX3_findShade_20 rfl rfl ?_
  refine rr_bipush (q := 24) (v := 100) dX3_findShade_22 rfl (by decide) ?_
  refine rr_icmp_ge (q := 27) (tgt := 72) dX3_findShade_24 (by decide) rfl hm (fun hm => ?_) (fun hm => ?_)
  · obtain rfl := Option.some.inj hm
    refine rr_sub [false, false, false, false, false, false, false] rfl ?_
    exact hX0 h rfl
  · refine rr_aload_n (q := 28) dX3_findShade_27 rfl rfl ?_
    refine rr_iload (q := 30) dX3_findShade_28 rfl rfl ?_
    refine rr_iload_n (q := 31) dX3_findShade_30 rfl rfl ?_
    obtain ⟨r7, k8, hm⟩ := vv_bind hm
    refine rr_callV (q := 34) (M' := mm_X3_windowFrom) (As := [.int s4, .int u1]) (st := []) (w := some (.long r7)) (cc_X3_windowFrom  k8) rfl ylC_170 ynC_170 rfl vy_X3_windowFrom zw_767 ⟨Nat.le_of_ble_eq_true rfl, Nat.le_of_ble_eq_true rfl⟩ (Nat.le_of_ble_eq_true rfl) dX3_findShade_31 rfl ?_
    show vv_V x vv_TC mm_X3_findShade post 34 [some (.ref (vv_ad x 170)), some (.int u1), some (.long s2), none, some (.int s4), none, none] [.long r7] h
    refine rr_lstore (q := 36) [some (.ref (vv_ad x 170)), some (.int u1), some (.long s2), none, some (.int s4), some (.long r7), none] dX3_findShade_34 rfl (Nat.le_of_ble_eq_true rfl) rfl rfl ?_
    refine rr_lload (q := 38) dX3_findShade_36 rfl rfl ?_
    refine rr_lload_n (q := 39) dX3_findShade_38 rfl rfl ?_
    refine rr_lcmp (q := 40) dX3_findShade_39 rfl ?_
    refine rr_if_eq (q := 43) (tgt := 63) dX3_findShade_40 (by decide) rfl hm (fun hm => ?_) (fun hm => ?_)
    · refine rr_lload (q := 65) dX3_findShade_63 rfl rfl ?_
      refine rr_lstore_n (q := 66) [some (.ref (vv_ad x 170)), some (.int u1), some (.long r7), none, some (.int s4), some (.long r7), none] dX3_findShade_65 rfl rfl (Nat.le_of_ble_eq_true rfl) rfl rfl ?_
      obtain ⟨w9, c10, hm⟩ := vv_let_of hm
      refine rr_iinc (q := 69) [some (.ref (vv_ad x 170)), some (.int u1), some (.long r7), none, some (.int w9), some (.long r7), none] dX3_findShade_66 rfl rfl c10.symm (Nat.le_of_ble_eq_true rfl) rfl rfl ?_
      refine rr_goto (tgt := 20) dX3_findShade_69 (by decide) ?_
      obtain rfl := Option.some.inj hm
      refine rr_sub [true, true, true, false, true, false, false] rfl ?_
      exact hI r7 w9 h rfl
    · refine rr_lload (q := 45) dX3_findShade_43 rfl rfl ?_
      obtain ⟨r11, k12, hm⟩ := vv_bind hm
      refine rr_callS (q := 48) (M' := mm_J13_bitCount_95d88) (As := [.long r7]) (st := []) (w := some (.int r11))  (cc_J13_bitCount_95d88  k12) rfl vy_J13_bitCount_95d88 zw_137 ⟨Nat.le_of_ble_eq_true rfl, Nat.le_of_ble_eq_true rfl⟩ (Nat.le_of_ble_eq_true rfl) dX3_findShade_45 rfl ?_
      show vv_V x vv_TC mm_X3_findShade post 48 [some (.ref (vv_ad x 170)), some (.int u1), some (.long s2), none, some (.int s4), some (.long r7), none] [.int r11] h
      refine rr_aload_n (q := 49) dX3_findShade_48 rfl rfl ?_
      refine gf_X3_44 (q := 52) rfl dX3_findShade_49 rfl ?_
      refine rr_icmp_le (q := 55) (tgt := 63) dX3_findShade_52 (by decide) rfl hm (fun hm => ?_) (fun hm => ?_)
      · refine rr_lload (q := 65) dX3_findShade_63 rfl rfl ?_
        refine rr_lstore_n (q := 66) [some (.ref (vv_ad x 170)), some (.int u1), some (.long r7), none, some (.int s4), some (.long r7), none] dX3_findShade_65 rfl rfl (Nat.le_of_ble_eq_true rfl) rfl rfl ?_
        obtain ⟨w13, c14, hm⟩ := vv_let_of hm
        refine rr_iinc (q := 69) [some (.ref (vv_ad x 170)), some (.int u1), some (.long r7), none, some (.int w13), some (.long r7), none] dX3_findShade_66 rfl rfl c14.symm (Nat.le_of_ble_eq_true rfl) rfl rfl ?_
        refine rr_goto (tgt := 20) dX3_findShade_69 (by decide) ?_
        obtain rfl := Option.some.inj hm
        refine rr_sub [true, true, true, false, true, false, false] rfl ?_
        exact hI r7 w13 h rfl
      · refine rr_aload_n (q := 56) dX3_findShade_55 rfl rfl ?_
        refine rr_iload (q := 58) dX3_findShade_56 rfl rfl ?_
        refine rr_lload (q := 60) dX3_findShade_58 rfl rfl ?_
        obtain ⟨r15, k16, hm⟩ := vv_bind hm
        refine rr_callV (q := 63) (M' := mm_X3_keepBetter) (As := [.int s4, .long r7]) (st := []) (w := none) (cc_X3_keepBetter  k16) rfl ylC_170 ynC_170 rfl vy_X3_keepBetter zw_772 ⟨Nat.le_of_ble_eq_true rfl, Nat.le_of_ble_eq_true rfl⟩ (Nat.le_of_ble_eq_true rfl) dX3_findShade_60 rfl ?_
        show vv_V x vv_TC mm_X3_findShade post 63 [some (.ref (vv_ad x 170)), some (.int u1), some (.long s2), none, some (.int s4), some (.long r7), none] [] r15
        refine rr_lload (q := 65) dX3_findShade_63 rfl rfl ?_
        refine rr_lstore_n (q := 66) [some (.ref (vv_ad x 170)), some (.int u1), some (.long r7), none, some (.int s4), some (.long r7), none] dX3_findShade_65 rfl rfl (Nat.le_of_ble_eq_true rfl) rfl rfl ?_
        obtain ⟨w17, c18, hm⟩ := vv_let_of hm
        refine rr_iinc (q := 69) [some (.ref (vv_ad x 170)), some (.int u1), some (.long r7), none, some (.int w17), some (.long r7), none] dX3_findShade_66 rfl rfl c18.symm (Nat.le_of_ble_eq_true rfl) rfl rfl ?_
        refine rr_goto (tgt := 20) dX3_findShade_69 (by decide) ?_
        obtain rfl := Option.some.inj hm
        refine rr_sub [true, true, true, false, true, false, false] rfl ?_
        exact hI r7 w17 r15 rfl
set_option maxHeartbeats 200000 in
theorem vt_X3_findShade {x : vv_E} {post : Option Value → vv_H → Prop} {h : vv_H} {v1 : Int32} {o : vv_H}  (hm : ff_X3_findShade  h v1 = some o) (hp : post none o) : vv_V x vv_TC mm_X3_findShade post 0 [some (.ref (vv_ad x 170)), some (.int v1), none, none, none, none, none] [] h := by
  unfold ff_X3_findShade at hm
  refine rr_aload_n (q := 1) dX3_findShade_0 rfl rfl ?_
  refine rr_iconst (q := 2) (v := 0) dX3_findShade_1 rfl (by decide) ?_
  refine pf_X3_44 (q := 5) rfl dX3_findShade_2 rfl (fun g1 c2 => ?_)
  replace hm := vv_letE hm c2
  refine rr_aload_n (q := 6) dX3_findShade_5 rfl rfl ?_
  refine rr_iconst (q := 7) (v := 0) dX3_findShade_6 rfl (by decide) ?_
  refine pf_X3_47 (q := 10) rfl dX3_findShade_7 rfl (fun g3 c4 => ?_)
  replace hm := vv_letE hm c4
  refine rr_aload_n (q := 11) dX3_findShade_10 rfl rfl ?_
  refine rr_lconst (q := 12) (v := 0) dX3_findShade_11 rfl (by decide) ?_
  refine pf_X3_50 (q := 15) rfl dX3_findShade_12 rfl (fun g5 c6 => ?_)
  replace hm := vv_letE hm c6
  refine rr_lconst (q := 16) (v := 0) dX3_findShade_15 rfl (by decide) ?_
  refine rr_lstore_n (q := 17) [some (.ref (vv_ad x 170)), some (.int v1), some (.long (0 : Int64)), none, none, none, none] dX3_findShade_16 rfl rfl (Nat.le_of_ble_eq_true rfl) rfl rfl ?_
  refine rr_iconst (q := 18) (v := 0) dX3_findShade_17 rfl (by decide) ?_
  refine rr_istore (q := 20) [some (.ref (vv_ad x 170)), some (.int v1), some (.long (0 : Int64)), none, some (.int (0 : Int32)), none, none] dX3_findShade_18 rfl (Nat.le_of_ble_eq_true rfl) rfl rfl ?_
  obtain ⟨r19, k21, hm⟩ := vv_bind hm
  refine vv_lp_link (P := fun (zs : Int64 × Int32 × vv_H) => vv_V x vv_TC mm_X3_findShade post 20 [some (.ref (vv_ad x 170)), some (.int v1), some (.long zs.1), none, some (.int zs.2.1), none, none] [] zs.2.2) (Q := (fun (e20 : (vv_H)) => vv_V x vv_TC mm_X3_findShade post 72 [none, none, none, none, none, none, none] [] e20)) (fun zs o hm hI hX => ?_) vv_F ((0 : Int64), (0 : Int32), g5) r19 k21 ?_
  · exact vt_X3_findShade_B20   hm (fun z2 z4 zh e => hI (z2, z4, zh) e) (fun zh e => hX zh e)
  · generalize r19 = e20 at hm ⊢
    try dsimp only [Sum.elim_inl, Sum.elim_inr] at hm
    try dsimp only [Sum.elim_inl, Sum.elim_inr]
    obtain rfl := Option.some.inj hm
    exact rr_vret dX3_findShade_72 rfl hp
theorem cc_X3_findShade {x : vv_E} {h : vv_H} {v1 : Int32} {o : vv_H}  (hm : ff_X3_findShade h v1 = some o) : vv_C x vv_TC yX3_findShade mm_X3_findShade [.ref (vv_ad x 170), .int v1] h (fun v g => v = none ∧ g = o) := vv_entry (by decide +kernel) rfl (Nat.le_of_ble_eq_true rfl) rfl (vt_X3_findShade  hm ⟨rfl, rfl⟩)
def ff_X3_pieceFor_B18 (u1 : Int32) (s2 : Int64) (s4 : Int32) (s5 : Int32) (s6 : Int32) (h : vv_H) : Option ((Int64 × Int32 × Int32 × Int32 × vv_H) ⊕ ((Int32 × vv_H))) := (if u1 < s6 then some (.inr (s5, h)) else (if (h.1 170 2) ≤ s6 then some (.inr (s5, h)) else (ff_X3_leastPiece h s6 s2 s4).bind (fun r5 => (if r5.1 < 0 then vv_let (s6 + 1) (fun w7 => some (.inl (s2, s4, r5.1, w7, r5.2))) else vv_let (s2 &&& (((1 : Int64) <<< (r5.1.toInt64 &&& 63)) ^^^ (-1 : Int64))) (fun w9 => vv_let (s4 + (-1)) (fun w11 => vv_let (s6 + 1) (fun w13 => some (.inl (w9, w11, r5.1, w13, r5.2)))))))))
def ff_X3_pieceFor (h : vv_H) (v1 : Int32) : Option (Int32 × vv_H) := vv_let (h.2.1 170 3) (fun w1 => vv_let (h.1 170 0) (fun w3 => (vv_lp (fun (zs : Int64 × Int32 × Int32 × Int32 × vv_H) => ff_X3_pieceFor_B18  v1 zs.1 zs.2.1 zs.2.2.1 zs.2.2.2.1 zs.2.2.2.2) vv_F (w1, w3, (-4 : Int32), (0 : Int32), h)).bind (fun (e16 : (Int32 × vv_H)) => some (e16.1, e16.2))))
set_option maxHeartbeats 200000 in
theorem vt_X3_pieceFor_B18 {x : vv_E} {post : Option Value → vv_H → Prop} {u1 : Int32} {s2 : Int64} {s4 : Int32} {s5 : Int32} {s6 : Int32} {h : vv_H} {o : (Int64 × Int32 × Int32 × Int32 × vv_H) ⊕ ((Int32 × vv_H))}  (hm : ff_X3_pieceFor_B18  u1 s2 s4 s5 s6 h = some o) (hI : ∀ (z2 : Int64) (z4 : Int32) (z5 : Int32) (z6 : Int32) (zh : vv_H), o = .inl (z2, z4, z5, z6, zh) → vv_V x vv_TC mm_X3_pieceFor post 18 [some (.ref (vv_ad x 170)), some (.int u1), some (.long z2), none, some (.int z4), some (.int z5), some (.int z6)] [] zh) (hX0 : ∀ (z5 : Int32) (zh : vv_H), o = .inr (z5, zh) → vv_V x vv_TC mm_X3_pieceFor post 69 [none, none, none, none, none, some (.int z5), none] [] zh) : vv_V x vv_TC mm_X3_pieceFor post 18 [some (.ref (vv_ad x 170)), some (.int u1), some (.long s2), none, some (.int s4), some (.int s5), some (.int s6)] [] h := by
  unfold ff_X3_pieceFor_B18 at hm
  refine rr_iload (q := 20) dX3_pieceFor_18 rfl rfl ?_
  refine rr_iload_n (q := 21) dX3_pieceFor_20 rfl rfl ?_
  refine rr_icmp_gt (q := 24) (tgt := 69) dX3_pieceFor_21 (by decide) rfl hm (fun hm => ?_) (fun hm => ?_)
  · obtain rfl := Option.some.inj hm
    refine rr_sub [false, false, false, false, false, true, false] rfl ?_
    exact hX0 s5 h rfl
  · refine rr_iload (q := 26) dX3_pieceFor_24 rfl rfl ?_
    refine rr_aload_n (q := 27) dX3_pieceFor_26 rfl rfl ?_
    refine gf_X3_34 (q := 30) rfl dX3_pieceFor_27 rfl ?_
    refine rr_icmp_ge (q := 33) (tgt := 69) dX3_pieceFor_30 (by decide) rfl hm (fun hm => ?_) (fun hm => ?_)
    · obtain rfl := Option.some.inj hm
      refine rr_sub [false, false, false, false, false, true, false] rfl ?_
      exact hX0 s5 h rfl
    · refine rr_aload_n (q := 34) dX3_pieceFor_33 rfl rfl ?_
      refine rr_iload (q := 36) dX3_pieceFor_34 rfl rfl ?_
      refine rr_lload_n (q := 37) dX3_pieceFor_36 rfl rfl ?_
      refine rr_iload (q := 39) dX3_pieceFor_37 rfl rfl ?_
      obtain ⟨r5, k6, hm⟩ := vv_bind hm
      refine rr_callV (q := 42) (M' := mm_X3_leastPiece) (As := [.int s6, .long s2, .int s4]) (st := []) (w := some (.int r5.1)) (cc_X3_leastPiece  k6) rfl ylC_170 ynC_170 rfl vy_X3_leastPiece zw_777 ⟨Nat.le_of_ble_eq_true rfl, Nat.le_of_ble_eq_true rfl⟩ (Nat.le_of_ble_eq_true rfl) dX3_pieceFor_39 rfl ?_
      show vv_V x vv_TC mm_X3_pieceFor post 42 [some (.ref (vv_ad x 170)), some (.int u1), some (.long s2), none, some (.int s4), some (.int s5), some (.int s6)] [.int r5.1] r5.2
      refine rr_istore (q := 44) [some (.ref (vv_ad x 170)), some (.int u1), some (.long s2), none, some (.int s4), some (.int r5.1), some (.int s6)] dX3_pieceFor_42 rfl (Nat.le_of_ble_eq_true rfl) rfl rfl ?_
      refine rr_iload (q := 46) dX3_pieceFor_44 rfl rfl ?_
      refine rr_if_lt (q := 49) (tgt := 63) dX3_pieceFor_46 (by decide) rfl hm (fun hm => ?_) (fun hm => ?_)
      · obtain ⟨w7, c8, hm⟩ := vv_let_of hm
        refine rr_iinc (q := 66) [some (.ref (vv_ad x 170)), some (.int u1), some (.long s2), none, some (.int s4), some (.int r5.1), some (.int w7)] dX3_pieceFor_63 rfl rfl c8.symm (Nat.le_of_ble_eq_true rfl) rfl rfl ?_
        refine rr_goto (tgt := 18) dX3_pieceFor_66 (by decide) ?_
        obtain rfl := Option.some.inj hm
        exact hI s2 s4 r5.1 w7 r5.2 rfl
      · refine rr_lload_n (q := 50) dX3_pieceFor_49 rfl rfl ?_
        refine rr_lconst (q := 51) (v := 1) dX3_pieceFor_50 rfl (by decide) ?_
        refine rr_iload (q := 53) dX3_pieceFor_51 rfl rfl ?_
        refine rr_lshl (q := 54) dX3_pieceFor_53 rfl ?_
        refine rr_ldc2 (q := 57) dX3_pieceFor_54 rfl zw_133 ?_
        refine rr_lxor (q := 58) dX3_pieceFor_57 rfl ?_
        refine rr_land (q := 59) dX3_pieceFor_58 rfl ?_
        obtain ⟨w9, c10, hm⟩ := vv_let_of hm
        rw [← c10]
        refine rr_lstore_n (q := 60) [some (.ref (vv_ad x 170)), some (.int u1), some (.long w9), none, some (.int s4), some (.int r5.1), some (.int s6)] dX3_pieceFor_59 rfl rfl (Nat.le_of_ble_eq_true rfl) rfl rfl ?_
        obtain ⟨w11, c12, hm⟩ := vv_let_of hm
        refine rr_iinc (q := 63) [some (.ref (vv_ad x 170)), some (.int u1), some (.long w9), none, some (.int w11), some (.int r5.1), some (.int s6)] dX3_pieceFor_60 rfl rfl c12.symm (Nat.le_of_ble_eq_true rfl) rfl rfl ?_
        obtain ⟨w13, c14, hm⟩ := vv_let_of hm
        refine rr_iinc (q := 66) [some (.ref (vv_ad x 170)), some (.int u1), some (.long w9), none, some (.int w11), some (.int r5.1), some (.int w13)] dX3_pieceFor_63 rfl rfl c14.symm (Nat.le_of_ble_eq_true rfl) rfl rfl ?_
        refine rr_goto (tgt := 18) dX3_pieceFor_66 (by decide) ?_
        obtain rfl := Option.some.inj hm
        exact hI w9 w11 r5.1 w13 r5.2 rfl
set_option maxHeartbeats 200000 in
theorem vt_X3_pieceFor {x : vv_E} {post : Option Value → vv_H → Prop} {h : vv_H} {v1 : Int32} {o : Int32 × vv_H}  (hm : ff_X3_pieceFor  h v1 = some o) (hp : post (some (.int o.1)) o.2) : vv_V x vv_TC mm_X3_pieceFor post 0 [some (.ref (vv_ad x 170)), some (.int v1), none, none, none, none, none] [] h := by
  unfold ff_X3_pieceFor at hm
  refine rr_aload_n (q := 1) dX3_pieceFor_0 rfl rfl ?_
  refine gf_X3_50 (q := 4) rfl dX3_pieceFor_1 rfl ?_
  obtain ⟨w1, c2, hm⟩ := vv_let_of hm
  rw [← c2]
  refine rr_lstore_n (q := 5) [some (.ref (vv_ad x 170)), some (.int v1), some (.long w1), none, none, none, none] dX3_pieceFor_4 rfl rfl (Nat.le_of_ble_eq_true rfl) rfl rfl ?_
  refine rr_aload_n (q := 6) dX3_pieceFor_5 rfl rfl ?_
  refine gf_X3_44 (q := 9) rfl dX3_pieceFor_6 rfl ?_
  obtain ⟨w3, c4, hm⟩ := vv_let_of hm
  rw [← c4]
  refine rr_istore (q := 11) [some (.ref (vv_ad x 170)), some (.int v1), some (.long w1), none, some (.int w3), none, none] dX3_pieceFor_9 rfl (Nat.le_of_ble_eq_true rfl) rfl rfl ?_
  refine rr_bipush (q := 13) (v := -4) dX3_pieceFor_11 rfl (by decide) ?_
  refine rr_istore (q := 15) [some (.ref (vv_ad x 170)), some (.int v1), some (.long w1), none, some (.int w3), some (.int (-4 : Int32)), none] dX3_pieceFor_13 rfl (Nat.le_of_ble_eq_true rfl) rfl rfl ?_
  refine rr_iconst (q := 16) (v := 0) dX3_pieceFor_15 rfl (by decide) ?_
  refine rr_istore (q := 18) [some (.ref (vv_ad x 170)), some (.int v1), some (.long w1), none, some (.int w3), some (.int (-4 : Int32)), some (.int (0 : Int32))] dX3_pieceFor_16 rfl (Nat.le_of_ble_eq_true rfl) rfl rfl ?_
  obtain ⟨r15, k17, hm⟩ := vv_bind hm
  refine vv_lp_link (P := fun (zs : Int64 × Int32 × Int32 × Int32 × vv_H) => vv_V x vv_TC mm_X3_pieceFor post 18 [some (.ref (vv_ad x 170)), some (.int v1), some (.long zs.1), none, some (.int zs.2.1), some (.int zs.2.2.1), some (.int zs.2.2.2.1)] [] zs.2.2.2.2) (Q := (fun (e16 : (Int32 × vv_H)) => vv_V x vv_TC mm_X3_pieceFor post 69 [none, none, none, none, none, some (.int e16.1), none] [] e16.2)) (fun zs o hm hI hX => ?_) vv_F (w1, w3, (-4 : Int32), (0 : Int32), h) r15 k17 ?_
  · exact vt_X3_pieceFor_B18   hm (fun z2 z4 z5 z6 zh e => hI (z2, z4, z5, z6, zh) e) (fun z5 zh e => hX (z5, zh) e)
  · generalize r15 = e16 at hm ⊢
    try dsimp only [Sum.elim_inl, Sum.elim_inr] at hm
    try dsimp only [Sum.elim_inl, Sum.elim_inr]
    refine rr_iload (q := 71) dX3_pieceFor_69 rfl rfl ?_
    obtain rfl := Option.some.inj hm
    exact rr_iret dX3_pieceFor_71 rfl hp
theorem cc_X3_pieceFor {x : vv_E} {h : vv_H} {v1 : Int32} {o : Int32 × vv_H}  (hm : ff_X3_pieceFor h v1 = some o) : vv_C x vv_TC yX3_pieceFor mm_X3_pieceFor [.ref (vv_ad x 170), .int v1] h (fun v g => v = some (.int o.1) ∧ g = o.2) := vv_entry (by decide +kernel) rfl (Nat.le_of_ble_eq_true rfl) rfl (vt_X3_pieceFor  hm ⟨rfl, rfl⟩)
def ff_X5_readLine_J175  (h : vv_H) : Option (Int32 × vv_H) := (ff_X10_tokenAt h (h.1 55 2)).bind (fun r15 => (if r15 = (6 : Int32) then vv_let (vv_iu h 55 2 ((h.1 55 2) + (1 : Int32))) (fun g17 => some ((1 : Int32), g17)) else (ff_X5_refuseToken h).bind (fun r19 => vv_zk r19.1 (some (r19.1, r19.2)))))
def ff_X5_readLine_J89  (b2 : Bool) (u4 : Int32) (h : vv_H) : Option (Int32 × vv_H) := (ff_X10_tokenAt h (h.1 55 2)).bind (fun r6 => (if r6 < (8 : Int32) then (ff_X5_refuseToken h).bind (fun r8 => vv_zk r8.1 (some (r8.1, r8.2))) else (if r6 ≤ (10 : Int32) then vv_let (vv_iu h 55 2 ((h.1 55 2) + (1 : Int32))) (fun g11 => (ff_X5_readRule g11 b2 r6 u4).bind (fun r13 => (if r13.1 = 0 then some ((0 : Int32), r13.2) else (if r6 = (8 : Int32) then (ff_X10_tokenAt r13.2 (r13.2.1 55 2)).bind (fun r22 => (if r22 = (11 : Int32) then (ff_X5_readTests r13.2 b2).bind (fun r24 => (if r24.1 = 0 then some ((0 : Int32), r24.2) else ff_X5_readLine_J175  r24.2)) else ff_X5_readLine_J175  r13.2)) else ff_X5_readLine_J175  r13.2)))) else (ff_X5_refuseToken h).bind (fun r26 => vv_zk r26.1 (some (r26.1, r26.2))))))
def ff_X5_readLine (h : vv_H) (b2 : Bool) : Option (Int32 × vv_H) := (ff_X10_tokenAt h (h.1 55 2)).bind (fun r1 => (if r1 < (7 : Int32) then (ff_X5_refuseToken h).bind (fun r3 => vv_zk r3.1 (some (r3.1, r3.2))) else (if r1 ≤ (10 : Int32) then (if (h.1 (vv_rid b2) 0) < (12 : Int32) then (if r1 = (7 : Int32) then vv_let (vv_iu h 55 2 ((h.1 55 2) + (1 : Int32))) (fun g29 => (ff_X5_takeNumber g29 (0 : Int32) (9999 : Int32)).bind (fun r31 => (if r31.1 = 0 then some ((0 : Int32), r31.2) else vv_let (r31.2.1 55 3) (fun w33 => ff_X5_readLine_J89  b2 w33 r31.2)))) else ff_X5_readLine_J89  b2 (0 : Int32) h) else (ff_X10_placeAt h (h.1 55 2)).bind (fun r35 => (ff_X5_refuse h (4 : Int32) r35).bind (fun r37 => vv_zk r37.1 (some (r37.1, r37.2))))) else (ff_X5_refuseToken h).bind (fun r40 => vv_zk r40.1 (some (r40.1, r40.2))))))
set_option maxHeartbeats 200000 in
theorem vt_X5_readLine_J175 {x : vv_E} {post : Option Value → vv_H → Prop}   {h : vv_H} {o : Int32 × vv_H}  (hm : ff_X5_readLine_J175  h = some o) (hp : post (some (.int o.1)) o.2) : vv_V x vv_TC mm_X5_readLine post 175 [some (.ref (vv_ad x 55)), some (.ref (vv_ad x 50)), none, none, none, none] [] h := by
  unfold ff_X5_readLine_J175 at hm
  refine rr_aload_n (q := 176) dX5_readLine_175 rfl rfl ?_
  refine rr_aload_n (q := 177) dX5_readLine_176 rfl rfl ?_
  refine gf_X5_18 (q := 180) rfl dX5_readLine_177 rfl ?_
  obtain ⟨r15, k16, hm⟩ := vv_bind hm
  refine rr_callV (q := 183) (M' := mm_X10_tokenAt) (As := [.int (h.1 55 2)]) (st := []) (w := some (.int r15)) (cc_X10_tokenAt  k16) rfl ylC_50 ynC_50 rfl vy_X10_tokenAt zw_178 ⟨Nat.le_of_ble_eq_true rfl, Nat.le_of_ble_eq_true rfl⟩ (Nat.le_of_ble_eq_true rfl) dX5_readLine_180 rfl ?_
  show vv_V x vv_TC mm_X5_readLine post 183 [some (.ref (vv_ad x 55)), some (.ref (vv_ad x 50)), none, none, none, none] [.int r15] h
  refine rr_bipush (q := 185) (v := 6) dX5_readLine_183 rfl (by decide) ?_
  refine rr_icmp_eq (q := 188) (tgt := 194) dX5_readLine_185 (by decide) rfl hm (fun hm => ?_) (fun hm => ?_)
  · refine rr_aload_n (q := 195) dX5_readLine_194 rfl rfl ?_
    refine rr_dup (q := 196) dX5_readLine_195 rfl rfl ?_
    refine gf_X5_18 (q := 199) rfl dX5_readLine_196 rfl ?_
    refine rr_iconst (q := 200) (v := 1) dX5_readLine_199 rfl (by decide) ?_
    refine rr_iadd (q := 201) dX5_readLine_200 rfl ?_
    refine pf_X5_18 (q := 204) rfl dX5_readLine_201 rfl (fun g17 c18 => ?_)
    replace hm := vv_letE hm c18
    refine rr_iconst (q := 205) (v := 1) dX5_readLine_204 rfl (by decide) ?_
    obtain rfl := Option.some.inj hm
    exact rr_zret dX5_readLine_205 rfl rfl hp
  · refine rr_aload_n (q := 189) dX5_readLine_188 rfl rfl ?_
    refine rr_aload_n (q := 190) dX5_readLine_189 rfl rfl ?_
    obtain ⟨r19, k20, hm⟩ := vv_bind hm
    refine rr_callV (q := 193) (M' := mm_X5_refuseToken) (As := [.ref (vv_ad x 50)]) (st := []) (w := some (.int r19.1)) (cc_X5_refuseToken  k20) rfl ylC_55 ynC_55 rfl vy_X5_refuseToken zw_371 ⟨Nat.le_of_ble_eq_true rfl, Nat.le_of_ble_eq_true rfl⟩ (Nat.le_of_ble_eq_true rfl) dX5_readLine_190 rfl ?_
    show vv_V x vv_TC mm_X5_readLine post 193 [some (.ref (vv_ad x 55)), some (.ref (vv_ad x 50)), none, none, none, none] [.int r19.1] r19.2
    obtain ⟨c21, hm⟩ := vv_zk_of hm
    obtain rfl := Option.some.inj hm
    exact rr_zret dX5_readLine_193 rfl c21 hp
set_option maxHeartbeats 200000 in
theorem vt_X5_readLine_J89 {x : vv_E} {post : Option Value → vv_H → Prop}   {b2 : Bool} {u4 : Int32} {h : vv_H} {o : Int32 × vv_H}  (hm : ff_X5_readLine_J89  b2 u4 h = some o) (hp : post (some (.int o.1)) o.2) : vv_V x vv_TC mm_X5_readLine post 89 [some (.ref (vv_ad x 55)), some (.ref (vv_ad x 50)), some (.ref (vv_ad x (vv_rid b2))), none, some (.int u4), none] [] h := by
  unfold ff_X5_readLine_J89 at hm
  refine rr_aload_n (q := 90) dX5_readLine_89 rfl rfl ?_
  refine rr_aload_n (q := 91) dX5_readLine_90 rfl rfl ?_
  refine gf_X5_18 (q := 94) rfl dX5_readLine_91 rfl ?_
  obtain ⟨r6, k7, hm⟩ := vv_bind hm
  refine rr_callV (q := 97) (M' := mm_X10_tokenAt) (As := [.int (h.1 55 2)]) (st := []) (w := some (.int r6)) (cc_X10_tokenAt  k7) rfl ylC_50 ynC_50 rfl vy_X10_tokenAt zw_178 ⟨Nat.le_of_ble_eq_true rfl, Nat.le_of_ble_eq_true rfl⟩ (Nat.le_of_ble_eq_true rfl) dX5_readLine_94 rfl ?_
  show vv_V x vv_TC mm_X5_readLine post 97 [some (.ref (vv_ad x 55)), some (.ref (vv_ad x 50)), some (.ref (vv_ad x (vv_rid b2))), none, some (.int u4), none] [.int r6] h
  refine rr_istore (q := 99) [some (.ref (vv_ad x 55)), some (.ref (vv_ad x 50)), some (.ref (vv_ad x (vv_rid b2))), none, some (.int u4), some (.int r6)] dX5_readLine_97 rfl (Nat.le_of_ble_eq_true rfl) rfl rfl ?_
  refine rr_iload (q := 101) dX5_readLine_99 rfl rfl ?_
  refine rr_bipush (q := 103) (v := 8) dX5_readLine_101 rfl (by decide) ?_
  refine rr_icmp_lt (q := 106) (tgt := 113) dX5_readLine_103 (by decide) rfl hm (fun hm => ?_) (fun hm => ?_)
  · refine rr_aload_n (q := 114) dX5_readLine_113 rfl rfl ?_
    refine rr_aload_n (q := 115) dX5_readLine_114 rfl rfl ?_
    obtain ⟨r8, k9, hm⟩ := vv_bind hm
    refine rr_callV (q := 118) (M' := mm_X5_refuseToken) (As := [.ref (vv_ad x 50)]) (st := []) (w := some (.int r8.1)) (cc_X5_refuseToken  k9) rfl ylC_55 ynC_55 rfl vy_X5_refuseToken zw_371 ⟨Nat.le_of_ble_eq_true rfl, Nat.le_of_ble_eq_true rfl⟩ (Nat.le_of_ble_eq_true rfl) dX5_readLine_115 rfl ?_
    show vv_V x vv_TC mm_X5_readLine post 118 [some (.ref (vv_ad x 55)), some (.ref (vv_ad x 50)), some (.ref (vv_ad x (vv_rid b2))), none, some (.int u4), some (.int r6)] [.int r8.1] r8.2
    obtain ⟨c10, hm⟩ := vv_zk_of hm
    obtain rfl := Option.some.inj hm
    exact rr_zret dX5_readLine_118 rfl c10 hp
  · refine rr_iload (q := 108) dX5_readLine_106 rfl rfl ?_
    refine rr_bipush (q := 110) (v := 10) dX5_readLine_108 rfl (by decide) ?_
    refine rr_icmp_le (q := 113) (tgt := 119) dX5_readLine_110 (by decide) rfl hm (fun hm => ?_) (fun hm => ?_)
    · refine rr_aload_n (q := 120) dX5_readLine_119 rfl rfl ?_
      refine rr_dup (q := 121) dX5_readLine_120 rfl rfl ?_
      refine gf_X5_18 (q := 124) rfl dX5_readLine_121 rfl ?_
      refine rr_iconst (q := 125) (v := 1) dX5_readLine_124 rfl (by decide) ?_
      refine rr_iadd (q := 126) dX5_readLine_125 rfl ?_
      refine pf_X5_18 (q := 129) rfl dX5_readLine_126 rfl (fun g11 c12 => ?_)
      replace hm := vv_letE hm c12
      refine rr_aload_n (q := 130) dX5_readLine_129 rfl rfl ?_
      refine rr_aload_n (q := 131) dX5_readLine_130 rfl rfl ?_
      refine rr_aload_n (q := 132) dX5_readLine_131 rfl rfl ?_
      refine rr_iload (q := 134) dX5_readLine_132 rfl rfl ?_
      refine rr_iload (q := 136) dX5_readLine_134 rfl rfl ?_
      obtain ⟨r13, k14, hm⟩ := vv_bind hm
      refine rr_callV (q := 139) (M' := mm_X5_readRule) (As := [.ref (vv_ad x 50), .ref (vv_ad x (vv_rid b2)), .int r6, .int u4]) (st := []) (w := some (.int r13.1)) (cc_X5_readRule  k14) rfl ylC_55 ynC_55 rfl vy_X5_readRule zw_783 ⟨Nat.le_of_ble_eq_true rfl, Nat.le_of_ble_eq_true rfl⟩ (Nat.le_of_ble_eq_true rfl) dX5_readLine_136 rfl ?_
      show vv_V x vv_TC mm_X5_readLine post 139 [some (.ref (vv_ad x 55)), some (.ref (vv_ad x 50)), some (.ref (vv_ad x (vv_rid b2))), none, some (.int u4), some (.int r6)] [.int r13.1] r13.2
      refine rr_if_ne (q := 142) (tgt := 144) dX5_readLine_139 (by decide) rfl hm (fun hm => ?_) (fun hm => ?_)
      · refine rr_iload (q := 146) dX5_readLine_144 rfl rfl ?_
        refine rr_bipush (q := 148) (v := 8) dX5_readLine_146 rfl (by decide) ?_
        refine rr_icmp_ne (q := 151) (tgt := 175) dX5_readLine_148 (by decide) rfl hm (fun hm => ?_) (fun hm => ?_)
        · refine rr_sub [true, true, false, false, false, false] rfl ?_
          exact vt_X5_readLine_J175  hm hp
        · refine rr_aload_n (q := 152) dX5_readLine_151 rfl rfl ?_
          refine rr_aload_n (q := 153) dX5_readLine_152 rfl rfl ?_
          refine gf_X5_18 (q := 156) rfl dX5_readLine_153 rfl ?_
          obtain ⟨r22, k23, hm⟩ := vv_bind hm
          refine rr_callV (q := 159) (M' := mm_X10_tokenAt) (As := [.int (r13.2.1 55 2)]) (st := []) (w := some (.int r22)) (cc_X10_tokenAt  k23) rfl ylC_50 ynC_50 rfl vy_X10_tokenAt zw_178 ⟨Nat.le_of_ble_eq_true rfl, Nat.le_of_ble_eq_true rfl⟩ (Nat.le_of_ble_eq_true rfl) dX5_readLine_156 rfl ?_
          show vv_V x vv_TC mm_X5_readLine post 159 [some (.ref (vv_ad x 55)), some (.ref (vv_ad x 50)), some (.ref (vv_ad x (vv_rid b2))), none, some (.int u4), some (.int r6)] [.int r22] r13.2
          refine rr_bipush (q := 161) (v := 11) dX5_readLine_159 rfl (by decide) ?_
          refine rr_icmp_ne (q := 164) (tgt := 175) dX5_readLine_161 (by decide) rfl hm (fun hm => ?_) (fun hm => ?_)
          · refine rr_sub [true, true, false, false, false, false] rfl ?_
            exact vt_X5_readLine_J175  hm hp
          · refine rr_aload_n (q := 165) dX5_readLine_164 rfl rfl ?_
            refine rr_aload_n (q := 166) dX5_readLine_165 rfl rfl ?_
            refine rr_aload_n (q := 167) dX5_readLine_166 rfl rfl ?_
            obtain ⟨r24, k25, hm⟩ := vv_bind hm
            refine rr_callV (q := 170) (M' := mm_X5_readTests) (As := [.ref (vv_ad x 50), .ref (vv_ad x (vv_rid b2))]) (st := []) (w := some (.int r24.1)) (cc_X5_readTests  k25) rfl ylC_55 ynC_55 rfl vy_X5_readTests zw_788 ⟨Nat.le_of_ble_eq_true rfl, Nat.le_of_ble_eq_true rfl⟩ (Nat.le_of_ble_eq_true rfl) dX5_readLine_167 rfl ?_
            show vv_V x vv_TC mm_X5_readLine post 170 [some (.ref (vv_ad x 55)), some (.ref (vv_ad x 50)), some (.ref (vv_ad x (vv_rid b2))), none, some (.int u4), some (.int r6)] [.int r24.1] r24.2
            refine rr_if_ne (q := 173) (tgt := 175) dX5_readLine_170 (by decide) rfl hm (fun hm => ?_) (fun hm => ?_)
            · refine rr_sub [true, true, false, false, false, false] rfl ?_
              exact vt_X5_readLine_J175  hm hp
            · refine rr_iconst (q := 174) (v := 0) dX5_readLine_173 rfl (by decide) ?_
              obtain rfl := Option.some.inj hm
              exact rr_zret dX5_readLine_174 rfl rfl hp
      · refine rr_iconst (q := 143) (v := 0) dX5_readLine_142 rfl (by decide) ?_
        obtain rfl := Option.some.inj hm
        exact rr_zret dX5_readLine_143 rfl rfl hp
    · refine rr_aload_n (q := 114) dX5_readLine_113 rfl rfl ?_
      refine rr_aload_n (q := 115) dX5_readLine_114 rfl rfl ?_
      obtain ⟨r26, k27, hm⟩ := vv_bind hm
      refine rr_callV (q := 118) (M' := mm_X5_refuseToken) (As := [.ref (vv_ad x 50)]) (st := []) (w := some (.int r26.1)) (cc_X5_refuseToken  k27) rfl ylC_55 ynC_55 rfl vy_X5_refuseToken zw_371 ⟨Nat.le_of_ble_eq_true rfl, Nat.le_of_ble_eq_true rfl⟩ (Nat.le_of_ble_eq_true rfl) dX5_readLine_115 rfl ?_
      show vv_V x vv_TC mm_X5_readLine post 118 [some (.ref (vv_ad x 55)), some (.ref (vv_ad x 50)), some (.ref (vv_ad x (vv_rid b2))), none, some (.int u4), some (.int r6)] [.int r26.1] r26.2
      obtain ⟨c28, hm⟩ := vv_zk_of hm
      obtain rfl := Option.some.inj hm
      exact rr_zret dX5_readLine_118 rfl c28 hp
set_option maxHeartbeats 200000 in
theorem vt_X5_readLine {x : vv_E} {post : Option Value → vv_H → Prop} {h : vv_H} {b2 : Bool} {o : Int32 × vv_H}  (hm : ff_X5_readLine  h b2 = some o) (hp : post (some (.int o.1)) o.2) : vv_V x vv_TC mm_X5_readLine post 0 [some (.ref (vv_ad x 55)), some (.ref (vv_ad x 50)), some (.ref (vv_ad x (vv_rid b2))), none, none, none] [] h := by
  unfold ff_X5_readLine at hm
  refine rr_aload_n (q := 1) dX5_readLine_0 rfl rfl ?_
  refine rr_aload_n (q := 2) dX5_readLine_1 rfl rfl ?_
  refine gf_X5_18 (q := 5) rfl dX5_readLine_2 rfl ?_
  obtain ⟨r1, k2, hm⟩ := vv_bind hm
  refine rr_callV (q := 8) (M' := mm_X10_tokenAt) (As := [.int (h.1 55 2)]) (st := []) (w := some (.int r1)) (cc_X10_tokenAt  k2) rfl ylC_50 ynC_50 rfl vy_X10_tokenAt zw_178 ⟨Nat.le_of_ble_eq_true rfl, Nat.le_of_ble_eq_true rfl⟩ (Nat.le_of_ble_eq_true rfl) dX5_readLine_5 rfl ?_
  show vv_V x vv_TC mm_X5_readLine post 8 [some (.ref (vv_ad x 55)), some (.ref (vv_ad x 50)), some (.ref (vv_ad x (vv_rid b2))), none, none, none] [.int r1] h
  refine rr_istore_n (q := 9) [some (.ref (vv_ad x 55)), some (.ref (vv_ad x 50)), some (.ref (vv_ad x (vv_rid b2))), some (.int r1), none, none] dX5_readLine_8 rfl rfl (Nat.le_of_ble_eq_true rfl) rfl rfl ?_
  refine rr_iload_n (q := 10) dX5_readLine_9 rfl rfl ?_
  refine rr_bipush (q := 12) (v := 7) dX5_readLine_10 rfl (by decide) ?_
  refine rr_icmp_lt (q := 15) (tgt := 21) dX5_readLine_12 (by decide) rfl hm (fun hm => ?_) (fun hm => ?_)
  · refine rr_aload_n (q := 22) dX5_readLine_21 rfl rfl ?_
    refine rr_aload_n (q := 23) dX5_readLine_22 rfl rfl ?_
    obtain ⟨r3, k4, hm⟩ := vv_bind hm
    refine rr_callV (q := 26) (M' := mm_X5_refuseToken) (As := [.ref (vv_ad x 50)]) (st := []) (w := some (.int r3.1)) (cc_X5_refuseToken  k4) rfl ylC_55 ynC_55 rfl vy_X5_refuseToken zw_371 ⟨Nat.le_of_ble_eq_true rfl, Nat.le_of_ble_eq_true rfl⟩ (Nat.le_of_ble_eq_true rfl) dX5_readLine_23 rfl ?_
    show vv_V x vv_TC mm_X5_readLine post 26 [some (.ref (vv_ad x 55)), some (.ref (vv_ad x 50)), some (.ref (vv_ad x (vv_rid b2))), some (.int r1), none, none] [.int r3.1] r3.2
    obtain ⟨c5, hm⟩ := vv_zk_of hm
    obtain rfl := Option.some.inj hm
    exact rr_zret dX5_readLine_26 rfl c5 hp
  · refine rr_iload_n (q := 16) dX5_readLine_15 rfl rfl ?_
    refine rr_bipush (q := 18) (v := 10) dX5_readLine_16 rfl (by decide) ?_
    refine rr_icmp_le (q := 21) (tgt := 27) dX5_readLine_18 (by decide) rfl hm (fun hm => ?_) (fun hm => ?_)
    · refine rr_aload_n (q := 28) dX5_readLine_27 rfl rfl ?_
      refine gf_X5_35 (q := 31) rfl dX5_readLine_28 rfl ?_
      refine rr_bipush (q := 33) (v := 12) dX5_readLine_31 rfl (by decide) ?_
      refine rr_icmp_lt (q := 36) (tgt := 50) dX5_readLine_33 (by decide) rfl hm (fun hm => ?_) (fun hm => ?_)
      · refine rr_iconst (q := 51) (v := 0) dX5_readLine_50 rfl (by decide) ?_
        refine rr_istore (q := 53) [some (.ref (vv_ad x 55)), some (.ref (vv_ad x 50)), some (.ref (vv_ad x (vv_rid b2))), some (.int r1), some (.int (0 : Int32)), none] dX5_readLine_51 rfl (Nat.le_of_ble_eq_true rfl) rfl rfl ?_
        refine rr_iload_n (q := 54) dX5_readLine_53 rfl rfl ?_
        refine rr_bipush (q := 56) (v := 7) dX5_readLine_54 rfl (by decide) ?_
        refine rr_icmp_ne (q := 59) (tgt := 89) dX5_readLine_56 (by decide) rfl hm (fun hm => ?_) (fun hm => ?_)
        · refine rr_sub [true, true, true, false, true, false] rfl ?_
          exact vt_X5_readLine_J89  hm hp
        · refine rr_aload_n (q := 60) dX5_readLine_59 rfl rfl ?_
          refine rr_dup (q := 61) dX5_readLine_60 rfl rfl ?_
          refine gf_X5_18 (q := 64) rfl dX5_readLine_61 rfl ?_
          refine rr_iconst (q := 65) (v := 1) dX5_readLine_64 rfl (by decide) ?_
          refine rr_iadd (q := 66) dX5_readLine_65 rfl ?_
          refine pf_X5_18 (q := 69) rfl dX5_readLine_66 rfl (fun g29 c30 => ?_)
          replace hm := vv_letE hm c30
          refine rr_aload_n (q := 70) dX5_readLine_69 rfl rfl ?_
          refine rr_aload_n (q := 71) dX5_readLine_70 rfl rfl ?_
          refine rr_iconst (q := 72) (v := 0) dX5_readLine_71 rfl (by decide) ?_
          refine rr_sipush (q := 75) (v := 9999) dX5_readLine_72 rfl (by decide) ?_
          obtain ⟨r31, k32, hm⟩ := vv_bind hm
          refine rr_callV (q := 78) (M' := mm_X5_takeNumber) (As := [.ref (vv_ad x 50), .int (0 : Int32), .int (9999 : Int32)]) (st := []) (w := some (.int r31.1)) (cc_X5_takeNumber  k32) rfl ylC_55 ynC_55 rfl vy_X5_takeNumber zw_648 ⟨Nat.le_of_ble_eq_true rfl, Nat.le_of_ble_eq_true rfl⟩ (Nat.le_of_ble_eq_true rfl) dX5_readLine_75 rfl ?_
          show vv_V x vv_TC mm_X5_readLine post 78 [some (.ref (vv_ad x 55)), some (.ref (vv_ad x 50)), some (.ref (vv_ad x (vv_rid b2))), some (.int r1), some (.int (0 : Int32)), none] [.int r31.1] r31.2
          refine rr_if_ne (q := 81) (tgt := 83) dX5_readLine_78 (by decide) rfl hm (fun hm => ?_) (fun hm => ?_)
          · refine rr_aload_n (q := 84) dX5_readLine_83 rfl rfl ?_
            refine gf_X5_51 (q := 87) rfl dX5_readLine_84 rfl ?_
            obtain ⟨w33, c34, hm⟩ := vv_let_of hm
            rw [← c34]
            refine rr_istore (q := 89) [some (.ref (vv_ad x 55)), some (.ref (vv_ad x 50)), some (.ref (vv_ad x (vv_rid b2))), some (.int r1), some (.int w33), none] dX5_readLine_87 rfl (Nat.le_of_ble_eq_true rfl) rfl rfl ?_
            refine rr_sub [true, true, true, false, true, false] rfl ?_
            exact vt_X5_readLine_J89  hm hp
          · refine rr_iconst (q := 82) (v := 0) dX5_readLine_81 rfl (by decide) ?_
            obtain rfl := Option.some.inj hm
            exact rr_zret dX5_readLine_82 rfl rfl hp
      · refine rr_aload_n (q := 37) dX5_readLine_36 rfl rfl ?_
        refine rr_iconst (q := 38) (v := 4) dX5_readLine_37 rfl (by decide) ?_
        refine rr_aload_n (q := 39) dX5_readLine_38 rfl rfl ?_
        refine rr_aload_n (q := 40) dX5_readLine_39 rfl rfl ?_
        refine gf_X5_18 (q := 43) rfl dX5_readLine_40 rfl ?_
        obtain ⟨r35, k36, hm⟩ := vv_bind hm
        refine rr_callV (q := 46) (M' := mm_X10_placeAt) (As := [.int (h.1 55 2)]) (st := [.int (4 : Int32), .ref (vv_ad x 55)]) (w := some (.int r35)) (cc_X10_placeAt  k36) rfl ylC_50 ynC_50 rfl vy_X10_placeAt zw_183 ⟨Nat.le_of_ble_eq_true rfl, Nat.le_of_ble_eq_true rfl⟩ (Nat.le_of_ble_eq_true rfl) dX5_readLine_43 rfl ?_
        show vv_V x vv_TC mm_X5_readLine post 46 [some (.ref (vv_ad x 55)), some (.ref (vv_ad x 50)), some (.ref (vv_ad x (vv_rid b2))), some (.int r1), none, none] [.int r35, .int (4 : Int32), .ref (vv_ad x 55)] h
        obtain ⟨r37, k38, hm⟩ := vv_bind hm
        refine rr_callV (q := 49) (M' := mm_X5_refuse) (As := [.int (4 : Int32), .int r35]) (st := []) (w := some (.int r37.1)) (cc_X5_refuse  k38) rfl ylC_55 ynC_55 rfl vy_X5_refuse zw_188 ⟨Nat.le_of_ble_eq_true rfl, Nat.le_of_ble_eq_true rfl⟩ (Nat.le_of_ble_eq_true rfl) dX5_readLine_46 rfl ?_
        show vv_V x vv_TC mm_X5_readLine post 49 [some (.ref (vv_ad x 55)), some (.ref (vv_ad x 50)), some (.ref (vv_ad x (vv_rid b2))), some (.int r1), none, none] [.int r37.1] r37.2
        obtain ⟨c39, hm⟩ := vv_zk_of hm
        obtain rfl := Option.some.inj hm
        exact rr_zret dX5_readLine_49 rfl c39 hp
    · refine rr_aload_n (q := 22) dX5_readLine_21 rfl rfl ?_
      refine rr_aload_n (q := 23) dX5_readLine_22 rfl rfl ?_
      obtain ⟨r40, k41, hm⟩ := vv_bind hm
      refine rr_callV (q := 26) (M' := mm_X5_refuseToken) (As := [.ref (vv_ad x 50)]) (st := []) (w := some (.int r40.1)) (cc_X5_refuseToken  k41) rfl ylC_55 ynC_55 rfl vy_X5_refuseToken zw_371 ⟨Nat.le_of_ble_eq_true rfl, Nat.le_of_ble_eq_true rfl⟩ (Nat.le_of_ble_eq_true rfl) dX5_readLine_23 rfl ?_
      show vv_V x vv_TC mm_X5_readLine post 26 [some (.ref (vv_ad x 55)), some (.ref (vv_ad x 50)), some (.ref (vv_ad x (vv_rid b2))), some (.int r1), none, none] [.int r40.1] r40.2
      obtain ⟨c42, hm⟩ := vv_zk_of hm
      obtain rfl := Option.some.inj hm
      exact rr_zret dX5_readLine_26 rfl c42 hp
theorem cc_X5_readLine {x : vv_E} {h : vv_H} {b2 : Bool} {o : Int32 × vv_H}  (hm : ff_X5_readLine h b2 = some o) : vv_C x vv_TC yX5_readLine mm_X5_readLine [.ref (vv_ad x 55), .ref (vv_ad x 50), .ref (vv_ad x (vv_rid b2))] h (fun v g => v = some (.int o.1) ∧ g = o.2) := vv_entry (by decide +kernel) rfl (Nat.le_of_ble_eq_true rfl) rfl (vt_X5_readLine  hm ⟨rfl, rfl⟩)
def ff_X11_told (h : vv_H) (v1 : Int32) (v2 : Int32) : Option (Int32) := (ff_X0_has h v1).bind (fun r1 => (if r1 = 0 then some (-1 : Int32) else (ff_X11_isWithin v2 (0 : Int32) (2 : Int32)).bind (fun r3 => (if r3 = 0 then (ff_X11_isWithin v2 (3 : Int32) (5 : Int32)).bind (fun r5 => (if r5 = 0 then (if v2 = (6 : Int32) then (ff_X4_countWith h v1).bind (fun r16 => some r16) else (if v2 = (7 : Int32) then vv_ck v1 12 (some (h.1 15 v1.toNatClampNeg)) else (ff_X11_isWithin v2 (10 : Int32) (13 : Int32)).bind (fun r7 => (if r7 = 0 then (ff_X11_isWithin v2 (20 : Int32) (23 : Int32)).bind (fun r9 => (if r9 = 0 then some (-1 : Int32) else (ff_X11_dueTo h v1 (v2 - (20 : Int32)) (h.1 0 0)).bind (fun r11 => some r11))) else (ff_X11_usableWith h v1 (v2 - (10 : Int32))).bind (fun r13 => some r13))))) else (ff_X11_measureNow h v1 (v2 - (3 : Int32))).bind (fun r18 => some r18))) else vv_ck v1 12 (vv_ck v2 3 (some (h.1 (3 + v1.toNatClampNeg) v2.toNatClampNeg)))))))
set_option maxHeartbeats 200000 in
theorem vt_X11_told {x : vv_E} {post : Option Value → vv_H → Prop} {h : vv_H} {v1 : Int32} {v2 : Int32} {o : Int32}  (hm : ff_X11_told  h v1 v2 = some o) (hp : post (some (.int o)) h) : vv_V x vv_TC mm_X11_told post 0 [some (.ref (vv_ad x 0)), some (.int v1), some (.int v2)] [] h := by
  unfold ff_X11_told at hm
  refine rr_aload_n (q := 1) dX11_told_0 rfl rfl ?_
  refine gf_X11_10 (q := 4) rfl dX11_told_1 rfl ?_
  refine rr_iload_n (q := 5) dX11_told_4 rfl rfl ?_
  obtain ⟨r1, k2, hm⟩ := vv_bind hm
  refine rr_callV (q := 8) (M' := mm_X0_has) (As := [.int v1]) (st := []) (w := some (.int r1)) (cc_X0_has  k2) rfl ylC_1 ynC_1 rfl vy_X0_has zw_386 ⟨Nat.le_of_ble_eq_true rfl, Nat.le_of_ble_eq_true rfl⟩ (Nat.le_of_ble_eq_true rfl) dX11_told_5 rfl ?_
  show vv_V x vv_TC mm_X11_told post 8 [some (.ref (vv_ad x 0)), some (.int v1), some (.int v2)] [.int r1] h
  refine rr_if_ne (q := 11) (tgt := 13) dX11_told_8 (by decide) rfl hm (fun hm => ?_) (fun hm => ?_)
  · refine rr_iload_n (q := 14) dX11_told_13 rfl rfl ?_
    refine rr_iconst (q := 15) (v := 0) dX11_told_14 rfl (by decide) ?_
    refine rr_iconst (q := 16) (v := 2) dX11_told_15 rfl (by decide) ?_
    obtain ⟨r3, k4, hm⟩ := vv_bind hm
    refine rr_callS (q := 19) (M' := mm_X11_isWithin) (As := [.int v2, .int (0 : Int32), .int (2 : Int32)]) (st := []) (w := some (.int r3))  (cc_X11_isWithin  k4) rfl vy_X11_isWithin zw_219 ⟨Nat.le_of_ble_eq_true rfl, Nat.le_of_ble_eq_true rfl⟩ (Nat.le_of_ble_eq_true rfl) dX11_told_16 rfl ?_
    show vv_V x vv_TC mm_X11_told post 19 [some (.ref (vv_ad x 0)), some (.int v1), some (.int v2)] [.int r3] h
    refine rr_if_eq (q := 22) (tgt := 34) dX11_told_19 (by decide) rfl hm (fun hm => ?_) (fun hm => ?_)
    · refine rr_iload_n (q := 35) dX11_told_34 rfl rfl ?_
      refine rr_iconst (q := 36) (v := 3) dX11_told_35 rfl (by decide) ?_
      refine rr_iconst (q := 37) (v := 5) dX11_told_36 rfl (by decide) ?_
      obtain ⟨r5, k6, hm⟩ := vv_bind hm
      refine rr_callS (q := 40) (M' := mm_X11_isWithin) (As := [.int v2, .int (3 : Int32), .int (5 : Int32)]) (st := []) (w := some (.int r5))  (cc_X11_isWithin  k6) rfl vy_X11_isWithin zw_219 ⟨Nat.le_of_ble_eq_true rfl, Nat.le_of_ble_eq_true rfl⟩ (Nat.le_of_ble_eq_true rfl) dX11_told_37 rfl ?_
      show vv_V x vv_TC mm_X11_told post 40 [some (.ref (vv_ad x 0)), some (.int v1), some (.int v2)] [.int r5] h
      refine rr_if_eq (q := 43) (tgt := 52) dX11_told_40 (by decide) rfl hm (fun hm => ?_) (fun hm => ?_)
      · refine rr_iload_n (q := 53) dX11_told_52 rfl rfl ?_
        refine rr_bipush (q := 55) (v := 6) dX11_told_53 rfl (by decide) ?_
        refine rr_icmp_ne (q := 58) (tgt := 67) dX11_told_55 (by decide) rfl hm (fun hm => ?_) (fun hm => ?_)
        · refine rr_iload_n (q := 68) dX11_told_67 rfl rfl ?_
          refine rr_bipush (q := 70) (v := 7) dX11_told_68 rfl (by decide) ?_
          refine rr_icmp_ne (q := 73) (tgt := 83) dX11_told_70 (by decide) rfl hm (fun hm => ?_) (fun hm => ?_)
          · refine rr_iload_n (q := 84) dX11_told_83 rfl rfl ?_
            refine rr_bipush (q := 86) (v := 10) dX11_told_84 rfl (by decide) ?_
            refine rr_bipush (q := 88) (v := 13) dX11_told_86 rfl (by decide) ?_
            obtain ⟨r7, k8, hm⟩ := vv_bind hm
            refine rr_callS (q := 91) (M' := mm_X11_isWithin) (As := [.int v2, .int (10 : Int32), .int (13 : Int32)]) (st := []) (w := some (.int r7))  (cc_X11_isWithin  k8) rfl vy_X11_isWithin zw_219 ⟨Nat.le_of_ble_eq_true rfl, Nat.le_of_ble_eq_true rfl⟩ (Nat.le_of_ble_eq_true rfl) dX11_told_88 rfl ?_
            show vv_V x vv_TC mm_X11_told post 91 [some (.ref (vv_ad x 0)), some (.int v1), some (.int v2)] [.int r7] h
            refine rr_if_eq (q := 94) (tgt := 104) dX11_told_91 (by decide) rfl hm (fun hm => ?_) (fun hm => ?_)
            · refine rr_iload_n (q := 105) dX11_told_104 rfl rfl ?_
              refine rr_bipush (q := 107) (v := 20) dX11_told_105 rfl (by decide) ?_
              refine rr_bipush (q := 109) (v := 23) dX11_told_107 rfl (by decide) ?_
              obtain ⟨r9, k10, hm⟩ := vv_bind hm
              refine rr_callS (q := 112) (M' := mm_X11_isWithin) (As := [.int v2, .int (20 : Int32), .int (23 : Int32)]) (st := []) (w := some (.int r9))  (cc_X11_isWithin  k10) rfl vy_X11_isWithin zw_219 ⟨Nat.le_of_ble_eq_true rfl, Nat.le_of_ble_eq_true rfl⟩ (Nat.le_of_ble_eq_true rfl) dX11_told_109 rfl ?_
              show vv_V x vv_TC mm_X11_told post 112 [some (.ref (vv_ad x 0)), some (.int v1), some (.int v2)] [.int r9] h
              refine rr_if_eq (q := 115) (tgt := 129) dX11_told_112 (by decide) rfl hm (fun hm => ?_) (fun hm => ?_)
              · refine rr_iconst (q := 130) (v := -1) dX11_told_129 rfl (by decide) ?_
                obtain rfl := Option.some.inj hm
                exact rr_iret dX11_told_130 rfl hp
              · refine rr_aload_n (q := 116) dX11_told_115 rfl rfl ?_
                refine rr_iload_n (q := 117) dX11_told_116 rfl rfl ?_
                refine rr_iload_n (q := 118) dX11_told_117 rfl rfl ?_
                refine rr_bipush (q := 120) (v := 20) dX11_told_118 rfl (by decide) ?_
                refine rr_isub (q := 121) dX11_told_120 rfl ?_
                refine rr_aload_n (q := 122) dX11_told_121 rfl rfl ?_
                refine gf_X11_89 (q := 125) rfl dX11_told_122 rfl ?_
                obtain ⟨r11, k12, hm⟩ := vv_bind hm
                refine rr_callV (q := 128) (M' := mm_X11_dueTo) (As := [.int v1, .int (v2 - (20 : Int32)), .int (h.1 0 0)]) (st := []) (w := some (.int r11)) (cc_X11_dueTo  k12) rfl ylC_0 ynC_0 rfl vy_X11_dueTo zw_687 ⟨Nat.le_of_ble_eq_true rfl, Nat.le_of_ble_eq_true rfl⟩ (Nat.le_of_ble_eq_true rfl) dX11_told_125 rfl ?_
                show vv_V x vv_TC mm_X11_told post 128 [some (.ref (vv_ad x 0)), some (.int v1), some (.int v2)] [.int r11] h
                obtain rfl := Option.some.inj hm
                exact rr_iret dX11_told_128 rfl hp
            · refine rr_aload_n (q := 95) dX11_told_94 rfl rfl ?_
              refine rr_iload_n (q := 96) dX11_told_95 rfl rfl ?_
              refine rr_iload_n (q := 97) dX11_told_96 rfl rfl ?_
              refine rr_bipush (q := 99) (v := 10) dX11_told_97 rfl (by decide) ?_
              refine rr_isub (q := 100) dX11_told_99 rfl ?_
              obtain ⟨r13, k14, hm⟩ := vv_bind hm
              refine rr_callV (q := 103) (M' := mm_X11_usableWith) (As := [.int v1, .int (v2 - (10 : Int32))]) (st := []) (w := some (.int r13)) (cc_X11_usableWith  k14) rfl ylC_0 ynC_0 rfl vy_X11_usableWith zw_793 ⟨Nat.le_of_ble_eq_true rfl, Nat.le_of_ble_eq_true rfl⟩ (Nat.le_of_ble_eq_true rfl) dX11_told_100 rfl ?_
              show vv_V x vv_TC mm_X11_told post 103 [some (.ref (vv_ad x 0)), some (.int v1), some (.int v2)] [.int r13] h
              obtain rfl := Option.some.inj hm
              exact rr_iret dX11_told_103 rfl hp
          · refine rr_aload_n (q := 74) dX11_told_73 rfl rfl ?_
            refine gf_X11_10 (q := 77) rfl dX11_told_74 rfl ?_
            refine gf_X11_137 (q := 80) rfl dX11_told_77 rfl ?_
            refine rr_iload_n (q := 81) dX11_told_80 rfl rfl ?_
            obtain ⟨c15, hm⟩ := vv_ck_of hm
            refine rr_iald (q := 82) ylC_15 ynC_15 c15 dX11_told_81 rfl ?_
            obtain rfl := Option.some.inj hm
            exact rr_iret dX11_told_82 rfl hp
        · refine rr_aload_n (q := 59) dX11_told_58 rfl rfl ?_
          refine gf_X11_64 (q := 62) rfl dX11_told_59 rfl ?_
          refine rr_iload_n (q := 63) dX11_told_62 rfl rfl ?_
          obtain ⟨r16, k17, hm⟩ := vv_bind hm
          refine rr_callV (q := 66) (M' := mm_X4_countWith) (As := [.int v1]) (st := []) (w := some (.int r16)) (cc_X4_countWith  k17) rfl ylC_156 ynC_156 rfl vy_X4_countWith zw_798 ⟨Nat.le_of_ble_eq_true rfl, Nat.le_of_ble_eq_true rfl⟩ (Nat.le_of_ble_eq_true rfl) dX11_told_63 rfl ?_
          show vv_V x vv_TC mm_X11_told post 66 [some (.ref (vv_ad x 0)), some (.int v1), some (.int v2)] [.int r16] h
          obtain rfl := Option.some.inj hm
          exact rr_iret dX11_told_66 rfl hp
      · refine rr_aload_n (q := 44) dX11_told_43 rfl rfl ?_
        refine rr_iload_n (q := 45) dX11_told_44 rfl rfl ?_
        refine rr_iload_n (q := 46) dX11_told_45 rfl rfl ?_
        refine rr_iconst (q := 47) (v := 3) dX11_told_46 rfl (by decide) ?_
        refine rr_isub (q := 48) dX11_told_47 rfl ?_
        obtain ⟨r18, k19, hm⟩ := vv_bind hm
        refine rr_callV (q := 51) (M' := mm_X11_measureNow) (As := [.int v1, .int (v2 - (3 : Int32))]) (st := []) (w := some (.int r18)) (cc_X11_measureNow  k19) rfl ylC_0 ynC_0 rfl vy_X11_measureNow zw_525 ⟨Nat.le_of_ble_eq_true rfl, Nat.le_of_ble_eq_true rfl⟩ (Nat.le_of_ble_eq_true rfl) dX11_told_48 rfl ?_
        show vv_V x vv_TC mm_X11_told post 51 [some (.ref (vv_ad x 0)), some (.int v1), some (.int v2)] [.int r18] h
        obtain rfl := Option.some.inj hm
        exact rr_iret dX11_told_51 rfl hp
    · refine rr_aload_n (q := 23) dX11_told_22 rfl rfl ?_
      refine gf_X11_10 (q := 26) rfl dX11_told_23 rfl ?_
      refine gf_X11_109 (q := 29) rfl dX11_told_26 rfl ?_
      refine rr_iload_n (q := 30) dX11_told_29 rfl rfl ?_
      obtain ⟨c20, hm⟩ := vv_ck_of hm
      refine rr_aald (q := 31) ylC_2 ynC_2 c20 dX11_told_30 rfl ?_
      refine rr_iload_n (q := 32) dX11_told_31 rfl rfl ?_
      obtain ⟨c21, hm⟩ := vv_ck_of hm
      refine rr_iald (q := 33) (ywC_2 c20).1 (ywC_2 c20).2 c21 dX11_told_32 rfl ?_
      obtain rfl := Option.some.inj hm
      exact rr_iret dX11_told_33 rfl hp
  · refine rr_iconst (q := 12) (v := -1) dX11_told_11 rfl (by decide) ?_
    obtain rfl := Option.some.inj hm
    exact rr_iret dX11_told_12 rfl hp
theorem cc_X11_told {x : vv_E} {h : vv_H} {v1 : Int32} {v2 : Int32} {o : Int32}  (hm : ff_X11_told h v1 v2 = some o) : vv_C x vv_TC yX11_told mm_X11_told [.ref (vv_ad x 0), .int v1, .int v2] h (fun v g => v = some (.int o) ∧ g = h) := vv_entry (by decide +kernel) rfl (Nat.le_of_ble_eq_true rfl) rfl (vt_X11_told  hm ⟨rfl, rfl⟩)
def ff_X11_sized_B73 (u1 : Int32) (u2 : Int32) (u3 : Int32) (u4 : Int32) (h : vv_H) (s5 : Int32) (s6 : Int32) (s7 : Int32) : Option ((Int32 × Int32 × Int32) ⊕ ((Int32 × Int32))) := (if s7 < 0 then some (.inr (s5, s6)) else (ff_X8_isOf h s7 u2).bind (fun r11 => (if r11 = 0 then vv_let (s7 + (-1)) (fun w13 => some (.inl (s5, s6, w13))) else (ff_X11_leewayNeeded h s7 u1).bind (fun r15 => (if u3 < r15 then vv_let (s7 + (-1)) (fun w17 => some (.inl (s5, s6, w17))) else vv_let (s5 + 1) (fun w19 => vv_let (s7 + (-1)) (fun w21 => some (.inl (w19, s7, w21)))))))))
def ff_X11_sized (h : vv_H) (v1 : Int32) (v2 : Int32) (v3 : Int32) (v4 : Int32) : Option (Int32) := (ff_X0_has h v1).bind (fun r1 => (if r1 = 0 then some (-1 : Int32) else (ff_X11_isKind v2).bind (fun r3 => (if r3 = 0 then some (-1 : Int32) else (ff_X11_isWithin v4 (0 : Int32) (2 : Int32)).bind (fun r5 => (if r5 = 0 then some (-1 : Int32) else (if v4 = (2 : Int32) then (ff_X11_leastLeeway h v1 v2).bind (fun r26 => some r26) else (ff_X11_isWithin v3 (0 : Int32) (50 : Int32)).bind (fun r7 => (if r7 = 0 then some (-1 : Int32) else vv_let ((h.1 22 0) - (1 : Int32)) (fun w9 => (vv_lp (fun (zs : Int32 × Int32 × Int32) => ff_X11_sized_B73  v1 v2 v3 v4 h zs.1 zs.2.1 zs.2.2) vv_F ((0 : Int32), (-4 : Int32), w9)).bind (fun (e24 : (Int32 × Int32)) => (if v4 = 0 then some e24.1 else some e24.2))))))))))))
set_option maxHeartbeats 200000 in
theorem vt_X11_sized_B73 {x : vv_E} {post : Option Value → vv_H → Prop} {u1 : Int32} {u2 : Int32} {u3 : Int32} {u4 : Int32} {h : vv_H} {s5 : Int32} {s6 : Int32} {s7 : Int32} {o : (Int32 × Int32 × Int32) ⊕ ((Int32 × Int32))}  (hm : ff_X11_sized_B73  u1 u2 u3 u4 h s5 s6 s7 = some o) (hI : ∀ (z5 : Int32) (z6 : Int32) (z7 : Int32) , o = .inl (z5, z6, z7) → vv_V x vv_TC mm_X11_sized post 73 [some (.ref (vv_ad x 0)), some (.int u1), some (.int u2), some (.int u3), some (.int u4), some (.int z5), some (.int z6), some (.int z7)] [] h) (hX0 : ∀ (z5 : Int32) (z6 : Int32), o = .inr (z5, z6) → vv_V x vv_TC mm_X11_sized post 115 [none, none, none, none, some (.int u4), some (.int z5), some (.int z6), none] [] h) : vv_V x vv_TC mm_X11_sized post 73 [some (.ref (vv_ad x 0)), some (.int u1), some (.int u2), some (.int u3), some (.int u4), some (.int s5), some (.int s6), some (.int s7)] [] h := by
  unfold ff_X11_sized_B73 at hm
  refine rr_iload (q := 75) dX11_sized_73 rfl rfl ?_
  refine rr_if_lt (q := 78) (tgt := 115) dX11_sized_75 (by decide) rfl hm (fun hm => ?_) (fun hm => ?_)
  · obtain rfl := Option.some.inj hm
    refine rr_sub [false, false, false, false, true, true, true, false] rfl ?_
    exact hX0 s5 s6 rfl
  · refine rr_aload_n (q := 79) dX11_sized_78 rfl rfl ?_
    refine gf_X11_26 (q := 82) rfl dX11_sized_79 rfl ?_
    refine rr_iload (q := 84) dX11_sized_82 rfl rfl ?_
    refine rr_iload_n (q := 85) dX11_sized_84 rfl rfl ?_
    obtain ⟨r11, k12, hm⟩ := vv_bind hm
    refine rr_callV (q := 88) (M' := mm_X8_isOf) (As := [.int s7, .int u2]) (st := []) (w := some (.int r11)) (cc_X8_isOf  k12) rfl ylC_22 ynC_22 rfl vy_X8_isOf zw_715 ⟨Nat.le_of_ble_eq_true rfl, Nat.le_of_ble_eq_true rfl⟩ (Nat.le_of_ble_eq_true rfl) dX11_sized_85 rfl ?_
    show vv_V x vv_TC mm_X11_sized post 88 [some (.ref (vv_ad x 0)), some (.int u1), some (.int u2), some (.int u3), some (.int u4), some (.int s5), some (.int s6), some (.int s7)] [.int r11] h
    refine rr_if_eq (q := 91) (tgt := 109) dX11_sized_88 (by decide) rfl hm (fun hm => ?_) (fun hm => ?_)
    · obtain ⟨w13, c14, hm⟩ := vv_let_of hm
      refine rr_iinc (q := 112) [some (.ref (vv_ad x 0)), some (.int u1), some (.int u2), some (.int u3), some (.int u4), some (.int s5), some (.int s6), some (.int w13)] dX11_sized_109 rfl rfl c14.symm (Nat.le_of_ble_eq_true rfl) rfl rfl ?_
      refine rr_goto (tgt := 73) dX11_sized_112 (by decide) ?_
      obtain rfl := Option.some.inj hm
      exact hI s5 s6 w13 rfl
    · refine rr_aload_n (q := 92) dX11_sized_91 rfl rfl ?_
      refine rr_iload (q := 94) dX11_sized_92 rfl rfl ?_
      refine rr_iload_n (q := 95) dX11_sized_94 rfl rfl ?_
      obtain ⟨r15, k16, hm⟩ := vv_bind hm
      refine rr_callV (q := 98) (M' := mm_X11_leewayNeeded) (As := [.int s7, .int u1]) (st := []) (w := some (.int r15)) (cc_X11_leewayNeeded  k16) rfl ylC_0 ynC_0 rfl vy_X11_leewayNeeded zw_682 ⟨Nat.le_of_ble_eq_true rfl, Nat.le_of_ble_eq_true rfl⟩ (Nat.le_of_ble_eq_true rfl) dX11_sized_95 rfl ?_
      show vv_V x vv_TC mm_X11_sized post 98 [some (.ref (vv_ad x 0)), some (.int u1), some (.int u2), some (.int u3), some (.int u4), some (.int s5), some (.int s6), some (.int s7)] [.int r15] h
      refine rr_iload_n (q := 99) dX11_sized_98 rfl rfl ?_
      refine rr_icmp_gt (q := 102) (tgt := 109) dX11_sized_99 (by decide) rfl hm (fun hm => ?_) (fun hm => ?_)
      · obtain ⟨w17, c18, hm⟩ := vv_let_of hm
        refine rr_iinc (q := 112) [some (.ref (vv_ad x 0)), some (.int u1), some (.int u2), some (.int u3), some (.int u4), some (.int s5), some (.int s6), some (.int w17)] dX11_sized_109 rfl rfl c18.symm (Nat.le_of_ble_eq_true rfl) rfl rfl ?_
        refine rr_goto (tgt := 73) dX11_sized_112 (by decide) ?_
        obtain rfl := Option.some.inj hm
        exact hI s5 s6 w17 rfl
      · obtain ⟨w19, c20, hm⟩ := vv_let_of hm
        refine rr_iinc (q := 105) [some (.ref (vv_ad x 0)), some (.int u1), some (.int u2), some (.int u3), some (.int u4), some (.int w19), some (.int s6), some (.int s7)] dX11_sized_102 rfl rfl c20.symm (Nat.le_of_ble_eq_true rfl) rfl rfl ?_
        refine rr_iload (q := 107) dX11_sized_105 rfl rfl ?_
        refine rr_istore (q := 109) [some (.ref (vv_ad x 0)), some (.int u1), some (.int u2), some (.int u3), some (.int u4), some (.int w19), some (.int s7), some (.int s7)] dX11_sized_107 rfl (Nat.le_of_ble_eq_true rfl) rfl rfl ?_
        obtain ⟨w21, c22, hm⟩ := vv_let_of hm
        refine rr_iinc (q := 112) [some (.ref (vv_ad x 0)), some (.int u1), some (.int u2), some (.int u3), some (.int u4), some (.int w19), some (.int s7), some (.int w21)] dX11_sized_109 rfl rfl c22.symm (Nat.le_of_ble_eq_true rfl) rfl rfl ?_
        refine rr_goto (tgt := 73) dX11_sized_112 (by decide) ?_
        obtain rfl := Option.some.inj hm
        exact hI w19 s7 w21 rfl
set_option maxHeartbeats 200000 in
theorem vt_X11_sized {x : vv_E} {post : Option Value → vv_H → Prop} {h : vv_H} {v1 : Int32} {v2 : Int32} {v3 : Int32} {v4 : Int32} {o : Int32}  (hm : ff_X11_sized  h v1 v2 v3 v4 = some o) (hp : post (some (.int o)) h) : vv_V x vv_TC mm_X11_sized post 0 [some (.ref (vv_ad x 0)), some (.int v1), some (.int v2), some (.int v3), some (.int v4), none, none, none] [] h := by
  unfold ff_X11_sized at hm
  refine rr_aload_n (q := 1) dX11_sized_0 rfl rfl ?_
  refine gf_X11_10 (q := 4) rfl dX11_sized_1 rfl ?_
  refine rr_iload_n (q := 5) dX11_sized_4 rfl rfl ?_
  obtain ⟨r1, k2, hm⟩ := vv_bind hm
  refine rr_callV (q := 8) (M' := mm_X0_has) (As := [.int v1]) (st := []) (w := some (.int r1)) (cc_X0_has  k2) rfl ylC_1 ynC_1 rfl vy_X0_has zw_386 ⟨Nat.le_of_ble_eq_true rfl, Nat.le_of_ble_eq_true rfl⟩ (Nat.le_of_ble_eq_true rfl) dX11_sized_5 rfl ?_
  show vv_V x vv_TC mm_X11_sized post 8 [some (.ref (vv_ad x 0)), some (.int v1), some (.int v2), some (.int v3), some (.int v4), none, none, none] [.int r1] h
  refine rr_if_eq (q := 11) (tgt := 28) dX11_sized_8 (by decide) rfl hm (fun hm => ?_) (fun hm => ?_)
  · refine rr_iconst (q := 29) (v := -1) dX11_sized_28 rfl (by decide) ?_
    obtain rfl := Option.some.inj hm
    exact rr_iret dX11_sized_29 rfl hp
  · refine rr_iload_n (q := 12) dX11_sized_11 rfl rfl ?_
    obtain ⟨r3, k4, hm⟩ := vv_bind hm
    refine rr_callS (q := 15) (M' := mm_X11_isKind) (As := [.int v2]) (st := []) (w := some (.int r3))  (cc_X11_isKind  k4) rfl vy_X11_isKind zw_408 ⟨Nat.le_of_ble_eq_true rfl, Nat.le_of_ble_eq_true rfl⟩ (Nat.le_of_ble_eq_true rfl) dX11_sized_12 rfl ?_
    show vv_V x vv_TC mm_X11_sized post 15 [some (.ref (vv_ad x 0)), some (.int v1), some (.int v2), some (.int v3), some (.int v4), none, none, none] [.int r3] h
    refine rr_if_eq (q := 18) (tgt := 28) dX11_sized_15 (by decide) rfl hm (fun hm => ?_) (fun hm => ?_)
    · refine rr_iconst (q := 29) (v := -1) dX11_sized_28 rfl (by decide) ?_
      obtain rfl := Option.some.inj hm
      exact rr_iret dX11_sized_29 rfl hp
    · refine rr_iload (q := 20) dX11_sized_18 rfl rfl ?_
      refine rr_iconst (q := 21) (v := 0) dX11_sized_20 rfl (by decide) ?_
      refine rr_iconst (q := 22) (v := 2) dX11_sized_21 rfl (by decide) ?_
      obtain ⟨r5, k6, hm⟩ := vv_bind hm
      refine rr_callS (q := 25) (M' := mm_X11_isWithin) (As := [.int v4, .int (0 : Int32), .int (2 : Int32)]) (st := []) (w := some (.int r5))  (cc_X11_isWithin  k6) rfl vy_X11_isWithin zw_219 ⟨Nat.le_of_ble_eq_true rfl, Nat.le_of_ble_eq_true rfl⟩ (Nat.le_of_ble_eq_true rfl) dX11_sized_22 rfl ?_
      show vv_V x vv_TC mm_X11_sized post 25 [some (.ref (vv_ad x 0)), some (.int v1), some (.int v2), some (.int v3), some (.int v4), none, none, none] [.int r5] h
      refine rr_if_ne (q := 28) (tgt := 30) dX11_sized_25 (by decide) rfl hm (fun hm => ?_) (fun hm => ?_)
      · refine rr_iload (q := 32) dX11_sized_30 rfl rfl ?_
        refine rr_iconst (q := 33) (v := 2) dX11_sized_32 rfl (by decide) ?_
        refine rr_icmp_ne (q := 36) (tgt := 43) dX11_sized_33 (by decide) rfl hm (fun hm => ?_) (fun hm => ?_)
        · refine rr_iload_n (q := 44) dX11_sized_43 rfl rfl ?_
          refine rr_iconst (q := 45) (v := 0) dX11_sized_44 rfl (by decide) ?_
          refine rr_bipush (q := 47) (v := 50) dX11_sized_45 rfl (by decide) ?_
          obtain ⟨r7, k8, hm⟩ := vv_bind hm
          refine rr_callS (q := 50) (M' := mm_X11_isWithin) (As := [.int v3, .int (0 : Int32), .int (50 : Int32)]) (st := []) (w := some (.int r7))  (cc_X11_isWithin  k8) rfl vy_X11_isWithin zw_219 ⟨Nat.le_of_ble_eq_true rfl, Nat.le_of_ble_eq_true rfl⟩ (Nat.le_of_ble_eq_true rfl) dX11_sized_47 rfl ?_
          show vv_V x vv_TC mm_X11_sized post 50 [some (.ref (vv_ad x 0)), some (.int v1), some (.int v2), some (.int v3), some (.int v4), none, none, none] [.int r7] h
          refine rr_if_ne (q := 53) (tgt := 55) dX11_sized_50 (by decide) rfl hm (fun hm => ?_) (fun hm => ?_)
          · refine rr_iconst (q := 56) (v := 0) dX11_sized_55 rfl (by decide) ?_
            refine rr_istore (q := 58) [some (.ref (vv_ad x 0)), some (.int v1), some (.int v2), some (.int v3), some (.int v4), some (.int (0 : Int32)), none, none] dX11_sized_56 rfl (Nat.le_of_ble_eq_true rfl) rfl rfl ?_
            refine rr_bipush (q := 60) (v := -4) dX11_sized_58 rfl (by decide) ?_
            refine rr_istore (q := 62) [some (.ref (vv_ad x 0)), some (.int v1), some (.int v2), some (.int v3), some (.int v4), some (.int (0 : Int32)), some (.int (-4 : Int32)), none] dX11_sized_60 rfl (Nat.le_of_ble_eq_true rfl) rfl rfl ?_
            refine rr_aload_n (q := 63) dX11_sized_62 rfl rfl ?_
            refine gf_X11_26 (q := 66) rfl dX11_sized_63 rfl ?_
            refine gf_X11_166 (q := 69) rfl dX11_sized_66 rfl ?_
            refine rr_iconst (q := 70) (v := 1) dX11_sized_69 rfl (by decide) ?_
            refine rr_isub (q := 71) dX11_sized_70 rfl ?_
            obtain ⟨w9, c10, hm⟩ := vv_let_of hm
            rw [← c10]
            refine rr_istore (q := 73) [some (.ref (vv_ad x 0)), some (.int v1), some (.int v2), some (.int v3), some (.int v4), some (.int (0 : Int32)), some (.int (-4 : Int32)), some (.int w9)] dX11_sized_71 rfl (Nat.le_of_ble_eq_true rfl) rfl rfl ?_
            obtain ⟨r23, k25, hm⟩ := vv_bind hm
            refine vv_lp_link (P := fun (zs : Int32 × Int32 × Int32) => vv_V x vv_TC mm_X11_sized post 73 [some (.ref (vv_ad x 0)), some (.int v1), some (.int v2), some (.int v3), some (.int v4), some (.int zs.1), some (.int zs.2.1), some (.int zs.2.2)] [] h) (Q := (fun (e24 : (Int32 × Int32)) => vv_V x vv_TC mm_X11_sized post 115 [none, none, none, none, some (.int v4), some (.int e24.1), some (.int e24.2), none] [] h)) (fun zs o hm hI hX => ?_) vv_F ((0 : Int32), (-4 : Int32), w9) r23 k25 ?_
            · exact vt_X11_sized_B73   hm (fun z5 z6 z7 e => hI (z5, z6, z7) e) (fun z5 z6 e => hX (z5, z6) e)
            · generalize r23 = e24 at hm ⊢
              try dsimp only [Sum.elim_inl, Sum.elim_inr] at hm
              try dsimp only [Sum.elim_inl, Sum.elim_inr]
              refine rr_iload (q := 117) dX11_sized_115 rfl rfl ?_
              refine rr_if_ne (q := 120) (tgt := 125) dX11_sized_117 (by decide) rfl hm (fun hm => ?_) (fun hm => ?_)
              · refine rr_iload (q := 127) dX11_sized_125 rfl rfl ?_
                obtain rfl := Option.some.inj hm
                exact rr_iret dX11_sized_127 rfl hp
              · refine rr_iload (q := 122) dX11_sized_120 rfl rfl ?_
                refine rr_goto (tgt := 127) dX11_sized_122 (by decide) ?_
                obtain rfl := Option.some.inj hm
                exact rr_iret dX11_sized_127 rfl hp
          · refine rr_iconst (q := 54) (v := -1) dX11_sized_53 rfl (by decide) ?_
            obtain rfl := Option.some.inj hm
            exact rr_iret dX11_sized_54 rfl hp
        · refine rr_aload_n (q := 37) dX11_sized_36 rfl rfl ?_
          refine rr_iload_n (q := 38) dX11_sized_37 rfl rfl ?_
          refine rr_iload_n (q := 39) dX11_sized_38 rfl rfl ?_
          obtain ⟨r26, k27, hm⟩ := vv_bind hm
          refine rr_callV (q := 42) (M' := mm_X11_leastLeeway) (As := [.int v1, .int v2]) (st := []) (w := some (.int r26)) (cc_X11_leastLeeway  k27) rfl ylC_0 ynC_0 rfl vy_X11_leastLeeway zw_803 ⟨Nat.le_of_ble_eq_true rfl, Nat.le_of_ble_eq_true rfl⟩ (Nat.le_of_ble_eq_true rfl) dX11_sized_39 rfl ?_
          show vv_V x vv_TC mm_X11_sized post 42 [some (.ref (vv_ad x 0)), some (.int v1), some (.int v2), some (.int v3), some (.int v4), none, none, none] [.int r26] h
          obtain rfl := Option.some.inj hm
          exact rr_iret dX11_sized_42 rfl hp
      · refine rr_iconst (q := 29) (v := -1) dX11_sized_28 rfl (by decide) ?_
        obtain rfl := Option.some.inj hm
        exact rr_iret dX11_sized_29 rfl hp
theorem cc_X11_sized {x : vv_E} {h : vv_H} {v1 : Int32} {v2 : Int32} {v3 : Int32} {v4 : Int32} {o : Int32}  (hm : ff_X11_sized h v1 v2 v3 v4 = some o) : vv_C x vv_TC yX11_sized mm_X11_sized [.ref (vv_ad x 0), .int v1, .int v2, .int v3, .int v4] h (fun v g => v = some (.int o) ∧ g = h) := vv_entry (by decide +kernel) rfl (Nat.le_of_ble_eq_true rfl) rfl (vt_X11_sized  hm ⟨rfl, rfl⟩)
def ff_X11_chosen_B38 (u1 : Int32) (u2 : Int32) (u3 : Int32) (s4 : Int32) (h : vv_H) : Option ((Int32 × vv_H) ⊕ ((vv_H) ⊕ (vv_H))) := (if (h.1 22 0) ≤ s4 then some (.inr (.inl h)) else (ff_X8_isOf h s4 u1).bind (fun r9 => (if r9 = 0 then vv_let (s4 + 1) (fun w11 => some (.inl (w11, h))) else (ff_X11_fittedBy h s4).bind (fun r13 => (ff_X1_offer h s4 r13).bind (fun r15 => (if r15.1 = 0 then some (.inr (.inr r15.2)) else vv_let (s4 + 1) (fun w17 => some (.inl (w17, r15.2)))))))))
def ff_X11_chosen (h : vv_H) (v1 : Int32) (v2 : Int32) (v3 : Int32) : Option (Int32 × vv_H) := (ff_X11_isKind v1).bind (fun r1 => (if r1 = 0 then some ((-1 : Int32), h) else (ff_X11_isWithin v2 (0 : Int32) (10 : Int32)).bind (fun r3 => (if r3 = 0 then some ((-1 : Int32), h) else (ff_X11_isWithin v3 (0 : Int32) (2 : Int32)).bind (fun r5 => (if r5 = 0 then some ((-1 : Int32), h) else (ff_X1_clear h).bind (fun r7 => (vv_lp (fun (zs : Int32 × vv_H) => ff_X11_chosen_B38  v1 v2 v3 zs.1 zs.2) vv_F ((0 : Int32), r7)).bind (Sum.elim (fun (e20 : (vv_H)) => (ff_X1_choose e20 v2).bind (fun r21 => (if v3 = 0 then (ff_J6_bitCount_0f7a4 (r21.1 167 0)).bind (fun r27 => some (r27, r21)) else (if v3 = (1 : Int32) then (ff_X1_sizeBits r21).bind (fun r25 => some (r25, r21)) else (ff_X0_allBits r21).bind (fun r23 => some ((r23 &&& ((r21.1 167 0) ^^^ (-1 : Int32))), r21)))))) (fun (e29 : (vv_H)) => some ((-2 : Int32), e29))))))))))
set_option maxHeartbeats 200000 in
theorem vt_X11_chosen_B38 {x : vv_E} {post : Option Value → vv_H → Prop} {u1 : Int32} {u2 : Int32} {u3 : Int32} {s4 : Int32} {h : vv_H} {o : (Int32 × vv_H) ⊕ ((vv_H) ⊕ (vv_H))}  (hm : ff_X11_chosen_B38  u1 u2 u3 s4 h = some o) (hI : ∀ (z4 : Int32) (zh : vv_H), o = .inl (z4, zh) → vv_V x vv_TC mm_X11_chosen post 38 [some (.ref (vv_ad x 0)), some (.int u1), some (.int u2), some (.int u3), some (.int z4)] [] zh) (hX0 : ∀  (zh : vv_H), o = .inr (.inl zh) → vv_V x vv_TC mm_X11_chosen post 90 [some (.ref (vv_ad x 0)), none, some (.int u2), some (.int u3), none] [] zh) (hX1 : ∀  (zh : vv_H), o = .inr (.inr zh) → vv_V x vv_TC mm_X11_chosen post 81 [none, none, none, none, none] [] zh) : vv_V x vv_TC mm_X11_chosen post 38 [some (.ref (vv_ad x 0)), some (.int u1), some (.int u2), some (.int u3), some (.int s4)] [] h := by
  unfold ff_X11_chosen_B38 at hm
  refine rr_iload (q := 40) dX11_chosen_38 rfl rfl ?_
  refine rr_aload_n (q := 41) dX11_chosen_40 rfl rfl ?_
  refine gf_X11_26 (q := 44) rfl dX11_chosen_41 rfl ?_
  refine gf_X11_166 (q := 47) rfl dX11_chosen_44 rfl ?_
  refine rr_icmp_ge (q := 50) (tgt := 90) dX11_chosen_47 (by decide) rfl hm (fun hm => ?_) (fun hm => ?_)
  · obtain rfl := Option.some.inj hm
    refine rr_sub [true, false, true, true, false] rfl ?_
    exact hX0 h rfl
  · refine rr_aload_n (q := 51) dX11_chosen_50 rfl rfl ?_
    refine gf_X11_26 (q := 54) rfl dX11_chosen_51 rfl ?_
    refine rr_iload (q := 56) dX11_chosen_54 rfl rfl ?_
    refine rr_iload_n (q := 57) dX11_chosen_56 rfl rfl ?_
    obtain ⟨r9, k10, hm⟩ := vv_bind hm
    refine rr_callV (q := 60) (M' := mm_X8_isOf) (As := [.int s4, .int u1]) (st := []) (w := some (.int r9)) (cc_X8_isOf  k10) rfl ylC_22 ynC_22 rfl vy_X8_isOf zw_715 ⟨Nat.le_of_ble_eq_true rfl, Nat.le_of_ble_eq_true rfl⟩ (Nat.le_of_ble_eq_true rfl) dX11_chosen_57 rfl ?_
    show vv_V x vv_TC mm_X11_chosen post 60 [some (.ref (vv_ad x 0)), some (.int u1), some (.int u2), some (.int u3), some (.int s4)] [.int r9] h
    refine rr_if_eq (q := 63) (tgt := 84) dX11_chosen_60 (by decide) rfl hm (fun hm => ?_) (fun hm => ?_)
    · obtain ⟨w11, c12, hm⟩ := vv_let_of hm
      refine rr_iinc (q := 87) [some (.ref (vv_ad x 0)), some (.int u1), some (.int u2), some (.int u3), some (.int w11)] dX11_chosen_84 rfl rfl c12.symm (Nat.le_of_ble_eq_true rfl) rfl rfl ?_
      refine rr_goto (tgt := 38) dX11_chosen_87 (by decide) ?_
      obtain rfl := Option.some.inj hm
      exact hI w11 h rfl
    · refine rr_aload_n (q := 64) dX11_chosen_63 rfl rfl ?_
      refine gf_X11_71 (q := 67) rfl dX11_chosen_64 rfl ?_
      refine rr_iload (q := 69) dX11_chosen_67 rfl rfl ?_
      refine rr_aload_n (q := 70) dX11_chosen_69 rfl rfl ?_
      refine rr_iload (q := 72) dX11_chosen_70 rfl rfl ?_
      obtain ⟨r13, k14, hm⟩ := vv_bind hm
      refine rr_callV (q := 75) (M' := mm_X11_fittedBy) (As := [.int s4]) (st := [.int s4, .ref (vv_ad x 167)]) (w := some (.int r13)) (cc_X11_fittedBy  k14) rfl ylC_0 ynC_0 rfl vy_X11_fittedBy zw_814 ⟨Nat.le_of_ble_eq_true rfl, Nat.le_of_ble_eq_true rfl⟩ (Nat.le_of_ble_eq_true rfl) dX11_chosen_72 rfl ?_
      show vv_V x vv_TC mm_X11_chosen post 75 [some (.ref (vv_ad x 0)), some (.int u1), some (.int u2), some (.int u3), some (.int s4)] [.int r13, .int s4, .ref (vv_ad x 167)] h
      obtain ⟨r15, k16, hm⟩ := vv_bind hm
      refine rr_callV (q := 78) (M' := mm_X1_offer) (As := [.int s4, .int r13]) (st := []) (w := some (.int r15.1)) (cc_X1_offer  k16) rfl ylC_167 ynC_167 rfl vy_X1_offer zw_819 ⟨Nat.le_of_ble_eq_true rfl, Nat.le_of_ble_eq_true rfl⟩ (Nat.le_of_ble_eq_true rfl) dX11_chosen_75 rfl ?_
      show vv_V x vv_TC mm_X11_chosen post 78 [some (.ref (vv_ad x 0)), some (.int u1), some (.int u2), some (.int u3), some (.int s4)] [.int r15.1] r15.2
      refine rr_if_ne (q := 81) (tgt := 84) dX11_chosen_78 (by decide) rfl hm (fun hm => ?_) (fun hm => ?_)
      · obtain ⟨w17, c18, hm⟩ := vv_let_of hm
        refine rr_iinc (q := 87) [some (.ref (vv_ad x 0)), some (.int u1), some (.int u2), some (.int u3), some (.int w17)] dX11_chosen_84 rfl rfl c18.symm (Nat.le_of_ble_eq_true rfl) rfl rfl ?_
        refine rr_goto (tgt := 38) dX11_chosen_87 (by decide) ?_
        obtain rfl := Option.some.inj hm
        exact hI w17 r15.2 rfl
      · obtain rfl := Option.some.inj hm
        refine rr_sub [false, false, false, false, false] rfl ?_
        exact hX1 r15.2 rfl
set_option maxHeartbeats 200000 in
theorem vt_X11_chosen {x : vv_E} {post : Option Value → vv_H → Prop} {h : vv_H} {v1 : Int32} {v2 : Int32} {v3 : Int32} {o : Int32 × vv_H}  (hm : ff_X11_chosen  h v1 v2 v3 = some o) (hp : post (some (.int o.1)) o.2) : vv_V x vv_TC mm_X11_chosen post 0 [some (.ref (vv_ad x 0)), some (.int v1), some (.int v2), some (.int v3), none] [] h := by
  unfold ff_X11_chosen at hm
  refine rr_iload_n (q := 1) dX11_chosen_0 rfl rfl ?_
  obtain ⟨r1, k2, hm⟩ := vv_bind hm
  refine rr_callS (q := 4) (M' := mm_X11_isKind) (As := [.int v1]) (st := []) (w := some (.int r1))  (cc_X11_isKind  k2) rfl vy_X11_isKind zw_408 ⟨Nat.le_of_ble_eq_true rfl, Nat.le_of_ble_eq_true rfl⟩ (Nat.le_of_ble_eq_true rfl) dX11_chosen_1 rfl ?_
  show vv_V x vv_TC mm_X11_chosen post 4 [some (.ref (vv_ad x 0)), some (.int v1), some (.int v2), some (.int v3), none] [.int r1] h
  refine rr_if_eq (q := 7) (tgt := 26) dX11_chosen_4 (by decide) rfl hm (fun hm => ?_) (fun hm => ?_)
  · refine rr_iconst (q := 27) (v := -1) dX11_chosen_26 rfl (by decide) ?_
    obtain rfl := Option.some.inj hm
    exact rr_iret dX11_chosen_27 rfl hp
  · refine rr_iload_n (q := 8) dX11_chosen_7 rfl rfl ?_
    refine rr_iconst (q := 9) (v := 0) dX11_chosen_8 rfl (by decide) ?_
    refine rr_bipush (q := 11) (v := 10) dX11_chosen_9 rfl (by decide) ?_
    obtain ⟨r3, k4, hm⟩ := vv_bind hm
    refine rr_callS (q := 14) (M' := mm_X11_isWithin) (As := [.int v2, .int (0 : Int32), .int (10 : Int32)]) (st := []) (w := some (.int r3))  (cc_X11_isWithin  k4) rfl vy_X11_isWithin zw_219 ⟨Nat.le_of_ble_eq_true rfl, Nat.le_of_ble_eq_true rfl⟩ (Nat.le_of_ble_eq_true rfl) dX11_chosen_11 rfl ?_
    show vv_V x vv_TC mm_X11_chosen post 14 [some (.ref (vv_ad x 0)), some (.int v1), some (.int v2), some (.int v3), none] [.int r3] h
    refine rr_if_eq (q := 17) (tgt := 26) dX11_chosen_14 (by decide) rfl hm (fun hm => ?_) (fun hm => ?_)
    · refine rr_iconst (q := 27) (v := -1) dX11_chosen_26 rfl (by decide) ?_
      obtain rfl := Option.some.inj hm
      exact rr_iret dX11_chosen_27 rfl hp
    · refine rr_iload_n (q := 18) dX11_chosen_17 rfl rfl ?_
      refine rr_iconst (q := 19) (v := 0) dX11_chosen_18 rfl (by decide) ?_
      refine rr_iconst (q := 20) (v := 2) dX11_chosen_19 rfl (by decide) ?_
      obtain ⟨r5, k6, hm⟩ := vv_bind hm
      refine rr_callS (q := 23) (M' := mm_X11_isWithin) (As := [.int v3, .int (0 : Int32), .int (2 : Int32)]) (st := []) (w := some (.int r5))  (cc_X11_isWithin  k6) rfl vy_X11_isWithin zw_219 ⟨Nat.le_of_ble_eq_true rfl, Nat.le_of_ble_eq_true rfl⟩ (Nat.le_of_ble_eq_true rfl) dX11_chosen_20 rfl ?_
      show vv_V x vv_TC mm_X11_chosen post 23 [some (.ref (vv_ad x 0)), some (.int v1), some (.int v2), some (.int v3), none] [.int r5] h
      refine rr_if_ne (q := 26) (tgt := 28) dX11_chosen_23 (by decide) rfl hm (fun hm => ?_) (fun hm => ?_)
      · refine rr_aload_n (q := 29) dX11_chosen_28 rfl rfl ?_
        refine gf_X11_71 (q := 32) rfl dX11_chosen_29 rfl ?_
        obtain ⟨r7, k8, hm⟩ := vv_bind hm
        refine rr_callV (q := 35) (M' := mm_X1_clear) (As := []) (st := []) (w := none) (cc_X1_clear  k8) rfl ylC_167 ynC_167 rfl vy_X1_clear zw_809 ⟨Nat.le_of_ble_eq_true rfl, Nat.le_of_ble_eq_true rfl⟩ (Nat.le_of_ble_eq_true rfl) dX11_chosen_32 rfl ?_
        show vv_V x vv_TC mm_X11_chosen post 35 [some (.ref (vv_ad x 0)), some (.int v1), some (.int v2), some (.int v3), none] [] r7
        refine rr_iconst (q := 36) (v := 0) dX11_chosen_35 rfl (by decide) ?_
        refine rr_istore (q := 38) [some (.ref (vv_ad x 0)), some (.int v1), some (.int v2), some (.int v3), some (.int (0 : Int32))] dX11_chosen_36 rfl (Nat.le_of_ble_eq_true rfl) rfl rfl ?_
        obtain ⟨r19, k30, hm⟩ := vv_bind hm
        refine vv_lp_link (P := fun (zs : Int32 × vv_H) => vv_V x vv_TC mm_X11_chosen post 38 [some (.ref (vv_ad x 0)), some (.int v1), some (.int v2), some (.int v3), some (.int zs.1)] [] zs.2) (Q := (Sum.elim (fun (e20 : (vv_H)) => vv_V x vv_TC mm_X11_chosen post 90 [some (.ref (vv_ad x 0)), none, some (.int v2), some (.int v3), none] [] e20) (fun (e29 : (vv_H)) => vv_V x vv_TC mm_X11_chosen post 81 [none, none, none, none, none] [] e29))) (fun zs o hm hI hX => ?_) vv_F ((0 : Int32), r7) r19 k30 ?_
        · exact vt_X11_chosen_B38   hm (fun z4 zh e => hI (z4, zh) e) (fun zh e => hX (.inl zh) e) (fun zh e => hX (.inr zh) e)
        · rcases r19 with e20 | qe20
          · try dsimp only [Sum.elim_inl, Sum.elim_inr] at hm
            try dsimp only [Sum.elim_inl, Sum.elim_inr]
            refine rr_aload_n (q := 91) dX11_chosen_90 rfl rfl ?_
            refine gf_X11_71 (q := 94) rfl dX11_chosen_91 rfl ?_
            refine rr_iload_n (q := 95) dX11_chosen_94 rfl rfl ?_
            obtain ⟨r21, k22, hm⟩ := vv_bind hm
            refine rr_callV (q := 98) (M' := mm_X1_choose) (As := [.int v2]) (st := []) (w := none) (cc_X1_choose  k22) rfl ylC_167 ynC_167 rfl vy_X1_choose zw_824 ⟨Nat.le_of_ble_eq_true rfl, Nat.le_of_ble_eq_true rfl⟩ (Nat.le_of_ble_eq_true rfl) dX11_chosen_95 rfl ?_
            show vv_V x vv_TC mm_X11_chosen post 98 [some (.ref (vv_ad x 0)), none, some (.int v2), some (.int v3), none] [] r21
            refine rr_iload_n (q := 99) dX11_chosen_98 rfl rfl ?_
            refine rr_if_ne (q := 102) (tgt := 113) dX11_chosen_99 (by decide) rfl hm (fun hm => ?_) (fun hm => ?_)
            · refine rr_iload_n (q := 114) dX11_chosen_113 rfl rfl ?_
              refine rr_iconst (q := 115) (v := 1) dX11_chosen_114 rfl (by decide) ?_
              refine rr_icmp_ne (q := 118) (tgt := 128) dX11_chosen_115 (by decide) rfl hm (fun hm => ?_) (fun hm => ?_)
              · refine rr_aload_n (q := 129) dX11_chosen_128 rfl rfl ?_
                refine gf_X11_10 (q := 132) rfl dX11_chosen_129 rfl ?_
                obtain ⟨r23, k24, hm⟩ := vv_bind hm
                refine rr_callV (q := 135) (M' := mm_X0_allBits) (As := []) (st := []) (w := some (.int r23)) (cc_X0_allBits  k24) rfl ylC_1 ynC_1 rfl vy_X0_allBits zw_829 ⟨Nat.le_of_ble_eq_true rfl, Nat.le_of_ble_eq_true rfl⟩ (Nat.le_of_ble_eq_true rfl) dX11_chosen_132 rfl ?_
                show vv_V x vv_TC mm_X11_chosen post 135 [some (.ref (vv_ad x 0)), none, some (.int v2), some (.int v3), none] [.int r23] r21
                refine rr_aload_n (q := 136) dX11_chosen_135 rfl rfl ?_
                refine gf_X11_71 (q := 139) rfl dX11_chosen_136 rfl ?_
                refine gf_X11_185 (q := 142) rfl dX11_chosen_139 rfl ?_
                refine rr_iconst (q := 143) (v := -1) dX11_chosen_142 rfl (by decide) ?_
                refine rr_ixor (q := 144) dX11_chosen_143 rfl ?_
                refine rr_iand (q := 145) dX11_chosen_144 rfl ?_
                obtain rfl := Option.some.inj hm
                exact rr_iret dX11_chosen_145 rfl hp
              · refine rr_aload_n (q := 119) dX11_chosen_118 rfl rfl ?_
                refine gf_X11_71 (q := 122) rfl dX11_chosen_119 rfl ?_
                obtain ⟨r25, k26, hm⟩ := vv_bind hm
                refine rr_callV (q := 125) (M' := mm_X1_sizeBits) (As := []) (st := []) (w := some (.int r25)) (cc_X1_sizeBits  k26) rfl ylC_167 ynC_167 rfl vy_X1_sizeBits zw_835 ⟨Nat.le_of_ble_eq_true rfl, Nat.le_of_ble_eq_true rfl⟩ (Nat.le_of_ble_eq_true rfl) dX11_chosen_122 rfl ?_
                show vv_V x vv_TC mm_X11_chosen post 125 [some (.ref (vv_ad x 0)), none, some (.int v2), some (.int v3), none] [.int r25] r21
                refine rr_goto (tgt := 145) dX11_chosen_125 (by decide) ?_
                obtain rfl := Option.some.inj hm
                exact rr_iret dX11_chosen_145 rfl hp
            · refine rr_aload_n (q := 103) dX11_chosen_102 rfl rfl ?_
              refine gf_X11_71 (q := 106) rfl dX11_chosen_103 rfl ?_
              refine gf_X11_185 (q := 109) rfl dX11_chosen_106 rfl ?_
              obtain ⟨r27, k28, hm⟩ := vv_bind hm
              refine rr_callS (q := 112) (M' := mm_J6_bitCount_0f7a4) (As := [.int (r21.1 167 0)]) (st := []) (w := some (.int r27))  (cc_J6_bitCount_0f7a4  k28) rfl vy_J6_bitCount_0f7a4 zw_836 ⟨Nat.le_of_ble_eq_true rfl, Nat.le_of_ble_eq_true rfl⟩ (Nat.le_of_ble_eq_true rfl) dX11_chosen_109 rfl ?_
              show vv_V x vv_TC mm_X11_chosen post 112 [some (.ref (vv_ad x 0)), none, some (.int v2), some (.int v3), none] [.int r27] r21
              obtain rfl := Option.some.inj hm
              exact rr_iret dX11_chosen_112 rfl hp
          · generalize qe20 = e29 at hm ⊢
            try dsimp only [Sum.elim_inl, Sum.elim_inr] at hm
            try dsimp only [Sum.elim_inl, Sum.elim_inr]
            refine rr_bipush (q := 83) (v := -2) dX11_chosen_81 rfl (by decide) ?_
            obtain rfl := Option.some.inj hm
            exact rr_iret dX11_chosen_83 rfl hp
      · refine rr_iconst (q := 27) (v := -1) dX11_chosen_26 rfl (by decide) ?_
        obtain rfl := Option.some.inj hm
        exact rr_iret dX11_chosen_27 rfl hp
theorem cc_X11_chosen {x : vv_E} {h : vv_H} {v1 : Int32} {v2 : Int32} {v3 : Int32} {o : Int32 × vv_H}  (hm : ff_X11_chosen h v1 v2 v3 = some o) : vv_C x vv_TC yX11_chosen mm_X11_chosen [.ref (vv_ad x 0), .int v1, .int v2, .int v3] h (fun v g => v = some (.int o.1) ∧ g = o.2) := vv_entry (by decide +kernel) rfl (Nat.le_of_ble_eq_true rfl) rfl (vt_X11_chosen  hm ⟨rfl, rfl⟩)
def ff_X11_issue (h : vv_H) (v1 : Int32) (v2 : Int32) : Option (Int32 × vv_H) := (ff_X4_has h v1).bind (fun r1 => (if r1 = 0 then some ((-1 : Int32), h) else (ff_X0_has h v2).bind (fun r3 => (if r3 = 0 then some ((-1 : Int32), h) else (ff_X11_kindOf h v1).bind (fun r5 => vv_ck v1 36 ((ff_X11_leewayNeeded h (h.1 157 v1.toNatClampNeg) v2).bind (fun r8 => (ff_X4_isStored h v1).bind (fun r10 => (if r10 = 0 then some ((-2 : Int32), h) else (if (5 : Int32) < r8 then some ((-2 : Int32), h) else (ff_X11_isWornOut h v1).bind (fun r12 => (if r12 = 0 then (ff_X11_usableWith h v2 r5).bind (fun r14 => (ff_X11_dueTo h v2 r5 (h.1 0 0)).bind (fun r16 => (if r14 < r16 then (ff_X4_handOut h v1 v2 (h.1 0 0)).bind (fun r18 => (if r8 = 0 then some ((1 : Int32), r18) else some ((0 : Int32), r18))) else some ((-2 : Int32), h)))) else some ((-2 : Int32), h)))))))))))))
set_option maxHeartbeats 200000 in
theorem vt_X11_issue {x : vv_E} {post : Option Value → vv_H → Prop} {h : vv_H} {v1 : Int32} {v2 : Int32} {o : Int32 × vv_H}  (hm : ff_X11_issue  h v1 v2 = some o) (hp : post (some (.int o.1)) o.2) : vv_V x vv_TC mm_X11_issue post 0 [some (.ref (vv_ad x 0)), some (.int v1), some (.int v2), none, none] [] h := by
  unfold ff_X11_issue at hm
  refine rr_aload_n (q := 1) dX11_issue_0 rfl rfl ?_
  refine gf_X11_64 (q := 4) rfl dX11_issue_1 rfl ?_
  refine rr_iload_n (q := 5) dX11_issue_4 rfl rfl ?_
  obtain ⟨r1, k2, hm⟩ := vv_bind hm
  refine rr_callV (q := 8) (M' := mm_X4_has) (As := [.int v1]) (st := []) (w := some (.int r1)) (cc_X4_has  k2) rfl ylC_156 ynC_156 rfl vy_X4_has zw_243 ⟨Nat.le_of_ble_eq_true rfl, Nat.le_of_ble_eq_true rfl⟩ (Nat.le_of_ble_eq_true rfl) dX11_issue_5 rfl ?_
  show vv_V x vv_TC mm_X11_issue post 8 [some (.ref (vv_ad x 0)), some (.int v1), some (.int v2), none, none] [.int r1] h
  refine rr_if_eq (q := 11) (tgt := 22) dX11_issue_8 (by decide) rfl hm (fun hm => ?_) (fun hm => ?_)
  · refine rr_iconst (q := 23) (v := -1) dX11_issue_22 rfl (by decide) ?_
    obtain rfl := Option.some.inj hm
    exact rr_iret dX11_issue_23 rfl hp
  · refine rr_aload_n (q := 12) dX11_issue_11 rfl rfl ?_
    refine gf_X11_10 (q := 15) rfl dX11_issue_12 rfl ?_
    refine rr_iload_n (q := 16) dX11_issue_15 rfl rfl ?_
    obtain ⟨r3, k4, hm⟩ := vv_bind hm
    refine rr_callV (q := 19) (M' := mm_X0_has) (As := [.int v2]) (st := []) (w := some (.int r3)) (cc_X0_has  k4) rfl ylC_1 ynC_1 rfl vy_X0_has zw_386 ⟨Nat.le_of_ble_eq_true rfl, Nat.le_of_ble_eq_true rfl⟩ (Nat.le_of_ble_eq_true rfl) dX11_issue_16 rfl ?_
    show vv_V x vv_TC mm_X11_issue post 19 [some (.ref (vv_ad x 0)), some (.int v1), some (.int v2), none, none] [.int r3] h
    refine rr_if_ne (q := 22) (tgt := 24) dX11_issue_19 (by decide) rfl hm (fun hm => ?_) (fun hm => ?_)
    · refine rr_aload_n (q := 25) dX11_issue_24 rfl rfl ?_
      refine rr_iload_n (q := 26) dX11_issue_25 rfl rfl ?_
      obtain ⟨r5, k6, hm⟩ := vv_bind hm
      refine rr_callV (q := 29) (M' := mm_X11_kindOf) (As := [.int v1]) (st := []) (w := some (.int r5)) (cc_X11_kindOf  k6) rfl ylC_0 ynC_0 rfl vy_X11_kindOf zw_263 ⟨Nat.le_of_ble_eq_true rfl, Nat.le_of_ble_eq_true rfl⟩ (Nat.le_of_ble_eq_true rfl) dX11_issue_26 rfl ?_
      show vv_V x vv_TC mm_X11_issue post 29 [some (.ref (vv_ad x 0)), some (.int v1), some (.int v2), none, none] [.int r5] h
      refine rr_istore_n (q := 30) [some (.ref (vv_ad x 0)), some (.int v1), some (.int v2), some (.int r5), none] dX11_issue_29 rfl rfl (Nat.le_of_ble_eq_true rfl) rfl rfl ?_
      refine rr_aload_n (q := 31) dX11_issue_30 rfl rfl ?_
      refine rr_aload_n (q := 32) dX11_issue_31 rfl rfl ?_
      refine gf_X11_64 (q := 35) rfl dX11_issue_32 rfl ?_
      refine gf_X11_247 (q := 38) rfl dX11_issue_35 rfl ?_
      refine rr_iload_n (q := 39) dX11_issue_38 rfl rfl ?_
      obtain ⟨c7, hm⟩ := vv_ck_of hm
      refine rr_iald (q := 40) ylC_157 ynC_157 c7 dX11_issue_39 rfl ?_
      refine rr_iload_n (q := 41) dX11_issue_40 rfl rfl ?_
      obtain ⟨r8, k9, hm⟩ := vv_bind hm
      refine rr_callV (q := 44) (M' := mm_X11_leewayNeeded) (As := [.int (h.1 157 v1.toNatClampNeg), .int v2]) (st := []) (w := some (.int r8)) (cc_X11_leewayNeeded  k9) rfl ylC_0 ynC_0 rfl vy_X11_leewayNeeded zw_682 ⟨Nat.le_of_ble_eq_true rfl, Nat.le_of_ble_eq_true rfl⟩ (Nat.le_of_ble_eq_true rfl) dX11_issue_41 rfl ?_
      show vv_V x vv_TC mm_X11_issue post 44 [some (.ref (vv_ad x 0)), some (.int v1), some (.int v2), some (.int r5), none] [.int r8] h
      refine rr_istore (q := 46) [some (.ref (vv_ad x 0)), some (.int v1), some (.int v2), some (.int r5), some (.int r8)] dX11_issue_44 rfl (Nat.le_of_ble_eq_true rfl) rfl rfl ?_
      refine rr_aload_n (q := 47) dX11_issue_46 rfl rfl ?_
      refine gf_X11_64 (q := 50) rfl dX11_issue_47 rfl ?_
      refine rr_iload_n (q := 51) dX11_issue_50 rfl rfl ?_
      obtain ⟨r10, k11, hm⟩ := vv_bind hm
      refine rr_callV (q := 54) (M' := mm_X4_isStored) (As := [.int v1]) (st := []) (w := some (.int r10)) (cc_X4_isStored  k11) rfl ylC_156 ynC_156 rfl vy_X4_isStored zw_245 ⟨Nat.le_of_ble_eq_true rfl, Nat.le_of_ble_eq_true rfl⟩ (Nat.le_of_ble_eq_true rfl) dX11_issue_51 rfl ?_
      show vv_V x vv_TC mm_X11_issue post 54 [some (.ref (vv_ad x 0)), some (.int v1), some (.int v2), some (.int r5), some (.int r8)] [.int r10] h
      refine rr_if_eq (q := 57) (tgt := 71) dX11_issue_54 (by decide) rfl hm (fun hm => ?_) (fun hm => ?_)
      · refine rr_bipush (q := 73) (v := -2) dX11_issue_71 rfl (by decide) ?_
        obtain rfl := Option.some.inj hm
        exact rr_iret dX11_issue_73 rfl hp
      · refine rr_iload (q := 59) dX11_issue_57 rfl rfl ?_
        refine rr_iconst (q := 60) (v := 5) dX11_issue_59 rfl (by decide) ?_
        refine rr_icmp_gt (q := 63) (tgt := 71) dX11_issue_60 (by decide) rfl hm (fun hm => ?_) (fun hm => ?_)
        · refine rr_bipush (q := 73) (v := -2) dX11_issue_71 rfl (by decide) ?_
          obtain rfl := Option.some.inj hm
          exact rr_iret dX11_issue_73 rfl hp
        · refine rr_aload_n (q := 64) dX11_issue_63 rfl rfl ?_
          refine rr_iload_n (q := 65) dX11_issue_64 rfl rfl ?_
          obtain ⟨r12, k13, hm⟩ := vv_bind hm
          refine rr_callV (q := 68) (M' := mm_X11_isWornOut) (As := [.int v1]) (st := []) (w := some (.int r12)) (cc_X11_isWornOut  k13) rfl ylC_0 ynC_0 rfl vy_X11_isWornOut zw_721 ⟨Nat.le_of_ble_eq_true rfl, Nat.le_of_ble_eq_true rfl⟩ (Nat.le_of_ble_eq_true rfl) dX11_issue_65 rfl ?_
          show vv_V x vv_TC mm_X11_issue post 68 [some (.ref (vv_ad x 0)), some (.int v1), some (.int v2), some (.int r5), some (.int r8)] [.int r12] h
          refine rr_if_eq (q := 71) (tgt := 74) dX11_issue_68 (by decide) rfl hm (fun hm => ?_) (fun hm => ?_)
          · refine rr_aload_n (q := 75) dX11_issue_74 rfl rfl ?_
            refine rr_iload_n (q := 76) dX11_issue_75 rfl rfl ?_
            refine rr_iload_n (q := 77) dX11_issue_76 rfl rfl ?_
            obtain ⟨r14, k15, hm⟩ := vv_bind hm
            refine rr_callV (q := 80) (M' := mm_X11_usableWith) (As := [.int v2, .int r5]) (st := []) (w := some (.int r14)) (cc_X11_usableWith  k15) rfl ylC_0 ynC_0 rfl vy_X11_usableWith zw_793 ⟨Nat.le_of_ble_eq_true rfl, Nat.le_of_ble_eq_true rfl⟩ (Nat.le_of_ble_eq_true rfl) dX11_issue_77 rfl ?_
            show vv_V x vv_TC mm_X11_issue post 80 [some (.ref (vv_ad x 0)), some (.int v1), some (.int v2), some (.int r5), some (.int r8)] [.int r14] h
            refine rr_aload_n (q := 81) dX11_issue_80 rfl rfl ?_
            refine rr_iload_n (q := 82) dX11_issue_81 rfl rfl ?_
            refine rr_iload_n (q := 83) dX11_issue_82 rfl rfl ?_
            refine rr_aload_n (q := 84) dX11_issue_83 rfl rfl ?_
            refine gf_X11_89 (q := 87) rfl dX11_issue_84 rfl ?_
            obtain ⟨r16, k17, hm⟩ := vv_bind hm
            refine rr_callV (q := 90) (M' := mm_X11_dueTo) (As := [.int v2, .int r5, .int (h.1 0 0)]) (st := [.int r14]) (w := some (.int r16)) (cc_X11_dueTo  k17) rfl ylC_0 ynC_0 rfl vy_X11_dueTo zw_687 ⟨Nat.le_of_ble_eq_true rfl, Nat.le_of_ble_eq_true rfl⟩ (Nat.le_of_ble_eq_true rfl) dX11_issue_87 rfl ?_
            show vv_V x vv_TC mm_X11_issue post 90 [some (.ref (vv_ad x 0)), some (.int v1), some (.int v2), some (.int r5), some (.int r8)] [.int r16, .int r14] h
            refine rr_icmp_lt (q := 93) (tgt := 96) dX11_issue_90 (by decide) rfl hm (fun hm => ?_) (fun hm => ?_)
            · refine rr_aload_n (q := 97) dX11_issue_96 rfl rfl ?_
              refine gf_X11_64 (q := 100) rfl dX11_issue_97 rfl ?_
              refine rr_iload_n (q := 101) dX11_issue_100 rfl rfl ?_
              refine rr_iload_n (q := 102) dX11_issue_101 rfl rfl ?_
              refine rr_aload_n (q := 103) dX11_issue_102 rfl rfl ?_
              refine gf_X11_89 (q := 106) rfl dX11_issue_103 rfl ?_
              obtain ⟨r18, k19, hm⟩ := vv_bind hm
              refine rr_callV (q := 109) (M' := mm_X4_handOut) (As := [.int v1, .int v2, .int (h.1 0 0)]) (st := []) (w := none) (cc_X4_handOut  k19) rfl ylC_156 ynC_156 rfl vy_X4_handOut zw_841 ⟨Nat.le_of_ble_eq_true rfl, Nat.le_of_ble_eq_true rfl⟩ (Nat.le_of_ble_eq_true rfl) dX11_issue_106 rfl ?_
              show vv_V x vv_TC mm_X11_issue post 109 [some (.ref (vv_ad x 0)), some (.int v1), some (.int v2), some (.int r5), some (.int r8)] [] r18
              refine rr_iload (q := 111) dX11_issue_109 rfl rfl ?_
              refine rr_if_ne (q := 114) (tgt := 118) dX11_issue_111 (by decide) rfl hm (fun hm => ?_) (fun hm => ?_)
              · refine rr_iconst (q := 119) (v := 0) dX11_issue_118 rfl (by decide) ?_
                obtain rfl := Option.some.inj hm
                exact rr_iret dX11_issue_119 rfl hp
              · refine rr_iconst (q := 115) (v := 1) dX11_issue_114 rfl (by decide) ?_
                refine rr_goto (tgt := 119) dX11_issue_115 (by decide) ?_
                obtain rfl := Option.some.inj hm
                exact rr_iret dX11_issue_119 rfl hp
            · refine rr_bipush (q := 95) (v := -2) dX11_issue_93 rfl (by decide) ?_
              obtain rfl := Option.some.inj hm
              exact rr_iret dX11_issue_95 rfl hp
          · refine rr_bipush (q := 73) (v := -2) dX11_issue_71 rfl (by decide) ?_
            obtain rfl := Option.some.inj hm
            exact rr_iret dX11_issue_73 rfl hp
    · refine rr_iconst (q := 23) (v := -1) dX11_issue_22 rfl (by decide) ?_
      obtain rfl := Option.some.inj hm
      exact rr_iret dX11_issue_23 rfl hp
theorem cc_X11_issue {x : vv_E} {h : vv_H} {v1 : Int32} {v2 : Int32} {o : Int32 × vv_H}  (hm : ff_X11_issue h v1 v2 = some o) : vv_C x vv_TC yX11_issue mm_X11_issue [.ref (vv_ad x 0), .int v1, .int v2] h (fun v g => v = some (.int o.1) ∧ g = o.2) := vv_entry (by decide +kernel) rfl (Nat.le_of_ble_eq_true rfl) rfl (vt_X11_issue  hm ⟨rfl, rfl⟩)
def ff_X11_layOut_B51 (u1 : Int32) (u2 : Int32) (u3 : Int32) (s4 : Int32) (h : vv_H) : Option ((Int32 × vv_H) ⊕ ((vv_H))) := (if (h.1 156 0) ≤ s4 then some (.inr h) else vv_ck s4 36 ((if (h.1 157 s4.toNatClampNeg) = u2 then (ff_X4_isStored h s4).bind (fun r10 => (if r10 = 0 then vv_let (s4 + 1) (fun w12 => some (.inl (w12, h))) else vv_ck s4 36 ((ff_X3_offer h s4 (h.1 159 s4.toNatClampNeg) u3).bind (fun r15 => vv_let (s4 + 1) (fun w17 => some (.inl (w17, r15))))))) else vv_let (s4 + 1) (fun w8 => some (.inl (w8, h))))))
def ff_X11_layOut_B16 (u1 : Int32) (s2 : Int32) (h : vv_H) : Option ((Int32 × vv_H) ⊕ ((vv_H))) := (if (h.1 22 0) ≤ s2 then some (.inr h) else (ff_X8_isOf h s2 u1).bind (fun r3 => (if r3 = 0 then vv_let (s2 + 1) (fun w24 => some (.inl (w24, h))) else (ff_X11_fittedBy h s2).bind (fun r5 => (vv_lp (fun (zs : Int32 × vv_H) => ff_X11_layOut_B51  u1 s2 r5 zs.1 zs.2) vv_F ((0 : Int32), h)).bind (fun (e20 : (vv_H)) => vv_let (s2 + 1) (fun w21 => some (.inl (w21, e20))))))))
def ff_X11_layOut (h : vv_H) (v1 : Int32) : Option (vv_H) := (ff_X3_clear h (h.1 1 0)).bind (fun r1 => (vv_lp (fun (zs : Int32 × vv_H) => ff_X11_layOut_B16  v1 zs.1 zs.2) vv_F ((0 : Int32), r1)).bind (fun (e27 : (vv_H)) => some e27))
set_option maxHeartbeats 200000 in
theorem vt_X11_layOut_B51 {x : vv_E} {post : Option Value → vv_H → Prop} {u1 : Int32} {u2 : Int32} {u3 : Int32} {s4 : Int32} {h : vv_H} {o : (Int32 × vv_H) ⊕ ((vv_H))}  (hm : ff_X11_layOut_B51  u1 u2 u3 s4 h = some o) (hI : ∀ (z4 : Int32) (zh : vv_H), o = .inl (z4, zh) → vv_V x vv_TC mm_X11_layOut post 51 [some (.ref (vv_ad x 0)), some (.int u1), some (.int u2), some (.int u3), some (.int z4)] [] zh) (hX0 : ∀  (zh : vv_H), o = .inr zh → vv_V x vv_TC mm_X11_layOut post 115 [some (.ref (vv_ad x 0)), some (.int u1), some (.int u2), none, none] [] zh) : vv_V x vv_TC mm_X11_layOut post 51 [some (.ref (vv_ad x 0)), some (.int u1), some (.int u2), some (.int u3), some (.int s4)] [] h := by
  unfold ff_X11_layOut_B51 at hm
  refine rr_iload (q := 53) dX11_layOut_51 rfl rfl ?_
  refine rr_aload_n (q := 54) dX11_layOut_53 rfl rfl ?_
  refine gf_X11_64 (q := 57) rfl dX11_layOut_54 rfl ?_
  refine gf_X11_339 (q := 60) rfl dX11_layOut_57 rfl ?_
  refine rr_icmp_ge (q := 63) (tgt := 115) dX11_layOut_60 (by decide) rfl hm (fun hm => ?_) (fun hm => ?_)
  · obtain rfl := Option.some.inj hm
    refine rr_sub [true, true, true, false, false] rfl ?_
    exact hX0 h rfl
  · refine rr_aload_n (q := 64) dX11_layOut_63 rfl rfl ?_
    refine gf_X11_64 (q := 67) rfl dX11_layOut_64 rfl ?_
    refine gf_X11_247 (q := 70) rfl dX11_layOut_67 rfl ?_
    refine rr_iload (q := 72) dX11_layOut_70 rfl rfl ?_
    obtain ⟨c7, hm⟩ := vv_ck_of hm
    refine rr_iald (q := 73) ylC_157 ynC_157 c7 dX11_layOut_72 rfl ?_
    refine rr_iload_n (q := 74) dX11_layOut_73 rfl rfl ?_
    refine rr_icmp_ne (q := 77) (tgt := 109) dX11_layOut_74 (by decide) rfl hm (fun hm => ?_) (fun hm => ?_)
    · obtain ⟨w8, c9, hm⟩ := vv_let_of hm
      refine rr_iinc (q := 112) [some (.ref (vv_ad x 0)), some (.int u1), some (.int u2), some (.int u3), some (.int w8)] dX11_layOut_109 rfl rfl c9.symm (Nat.le_of_ble_eq_true rfl) rfl rfl ?_
      refine rr_goto (tgt := 51) dX11_layOut_112 (by decide) ?_
      obtain rfl := Option.some.inj hm
      exact hI w8 h rfl
    · refine rr_aload_n (q := 78) dX11_layOut_77 rfl rfl ?_
      refine gf_X11_64 (q := 81) rfl dX11_layOut_78 rfl ?_
      refine rr_iload (q := 83) dX11_layOut_81 rfl rfl ?_
      obtain ⟨r10, k11, hm⟩ := vv_bind hm
      refine rr_callV (q := 86) (M' := mm_X4_isStored) (As := [.int s4]) (st := []) (w := some (.int r10)) (cc_X4_isStored  k11) rfl ylC_156 ynC_156 rfl vy_X4_isStored zw_245 ⟨Nat.le_of_ble_eq_true rfl, Nat.le_of_ble_eq_true rfl⟩ (Nat.le_of_ble_eq_true rfl) dX11_layOut_83 rfl ?_
      show vv_V x vv_TC mm_X11_layOut post 86 [some (.ref (vv_ad x 0)), some (.int u1), some (.int u2), some (.int u3), some (.int s4)] [.int r10] h
      refine rr_if_eq (q := 89) (tgt := 109) dX11_layOut_86 (by decide) rfl hm (fun hm => ?_) (fun hm => ?_)
      · obtain ⟨w12, c13, hm⟩ := vv_let_of hm
        refine rr_iinc (q := 112) [some (.ref (vv_ad x 0)), some (.int u1), some (.int u2), some (.int u3), some (.int w12)] dX11_layOut_109 rfl rfl c13.symm (Nat.le_of_ble_eq_true rfl) rfl rfl ?_
        refine rr_goto (tgt := 51) dX11_layOut_112 (by decide) ?_
        obtain rfl := Option.some.inj hm
        exact hI w12 h rfl
      · refine rr_aload_n (q := 90) dX11_layOut_89 rfl rfl ?_
        refine gf_X11_78 (q := 93) rfl dX11_layOut_90 rfl ?_
        refine rr_iload (q := 95) dX11_layOut_93 rfl rfl ?_
        refine rr_aload_n (q := 96) dX11_layOut_95 rfl rfl ?_
        refine gf_X11_64 (q := 99) rfl dX11_layOut_96 rfl ?_
        refine gf_X11_253 (q := 102) rfl dX11_layOut_99 rfl ?_
        refine rr_iload (q := 104) dX11_layOut_102 rfl rfl ?_
        obtain ⟨c14, hm⟩ := vv_ck_of hm
        refine rr_iald (q := 105) ylC_159 ynC_159 c14 dX11_layOut_104 rfl ?_
        refine rr_iload_n (q := 106) dX11_layOut_105 rfl rfl ?_
        obtain ⟨r15, k16, hm⟩ := vv_bind hm
        refine rr_callV (q := 109) (M' := mm_X3_offer) (As := [.int s4, .int (h.1 159 s4.toNatClampNeg), .int u3]) (st := []) (w := none) (cc_X3_offer  k16) rfl ylC_170 ynC_170 rfl vy_X3_offer zw_852 ⟨Nat.le_of_ble_eq_true rfl, Nat.le_of_ble_eq_true rfl⟩ (Nat.le_of_ble_eq_true rfl) dX11_layOut_106 rfl ?_
        show vv_V x vv_TC mm_X11_layOut post 109 [some (.ref (vv_ad x 0)), some (.int u1), some (.int u2), some (.int u3), some (.int s4)] [] r15
        obtain ⟨w17, c18, hm⟩ := vv_let_of hm
        refine rr_iinc (q := 112) [some (.ref (vv_ad x 0)), some (.int u1), some (.int u2), some (.int u3), some (.int w17)] dX11_layOut_109 rfl rfl c18.symm (Nat.le_of_ble_eq_true rfl) rfl rfl ?_
        refine rr_goto (tgt := 51) dX11_layOut_112 (by decide) ?_
        obtain rfl := Option.some.inj hm
        exact hI w17 r15 rfl
set_option maxHeartbeats 200000 in
theorem vt_X11_layOut_B16 {x : vv_E} {post : Option Value → vv_H → Prop} {u1 : Int32} {s2 : Int32} {h : vv_H} {o : (Int32 × vv_H) ⊕ ((vv_H))}  (hm : ff_X11_layOut_B16  u1 s2 h = some o) (hI : ∀ (z2 : Int32) (zh : vv_H), o = .inl (z2, zh) → vv_V x vv_TC mm_X11_layOut post 16 [some (.ref (vv_ad x 0)), some (.int u1), some (.int z2), none, none] [] zh) (hX0 : ∀  (zh : vv_H), o = .inr zh → vv_V x vv_TC mm_X11_layOut post 121 [none, none, none, none, none] [] zh) : vv_V x vv_TC mm_X11_layOut post 16 [some (.ref (vv_ad x 0)), some (.int u1), some (.int s2), none, none] [] h := by
  unfold ff_X11_layOut_B16 at hm
  refine rr_iload_n (q := 17) dX11_layOut_16 rfl rfl ?_
  refine rr_aload_n (q := 18) dX11_layOut_17 rfl rfl ?_
  refine gf_X11_26 (q := 21) rfl dX11_layOut_18 rfl ?_
  refine gf_X11_166 (q := 24) rfl dX11_layOut_21 rfl ?_
  refine rr_icmp_ge (q := 27) (tgt := 121) dX11_layOut_24 (by decide) rfl hm (fun hm => ?_) (fun hm => ?_)
  · obtain rfl := Option.some.inj hm
    refine rr_sub [false, false, false, false, false] rfl ?_
    exact hX0 h rfl
  · refine rr_aload_n (q := 28) dX11_layOut_27 rfl rfl ?_
    refine gf_X11_26 (q := 31) rfl dX11_layOut_28 rfl ?_
    refine rr_iload_n (q := 32) dX11_layOut_31 rfl rfl ?_
    refine rr_iload_n (q := 33) dX11_layOut_32 rfl rfl ?_
    obtain ⟨r3, k4, hm⟩ := vv_bind hm
    refine rr_callV (q := 36) (M' := mm_X8_isOf) (As := [.int s2, .int u1]) (st := []) (w := some (.int r3)) (cc_X8_isOf  k4) rfl ylC_22 ynC_22 rfl vy_X8_isOf zw_715 ⟨Nat.le_of_ble_eq_true rfl, Nat.le_of_ble_eq_true rfl⟩ (Nat.le_of_ble_eq_true rfl) dX11_layOut_33 rfl ?_
    show vv_V x vv_TC mm_X11_layOut post 36 [some (.ref (vv_ad x 0)), some (.int u1), some (.int s2), none, none] [.int r3] h
    refine rr_if_ne (q := 39) (tgt := 42) dX11_layOut_36 (by decide) rfl hm (fun hm => ?_) (fun hm => ?_)
    · refine rr_aload_n (q := 43) dX11_layOut_42 rfl rfl ?_
      refine rr_iload_n (q := 44) dX11_layOut_43 rfl rfl ?_
      obtain ⟨r5, k6, hm⟩ := vv_bind hm
      refine rr_callV (q := 47) (M' := mm_X11_fittedBy) (As := [.int s2]) (st := []) (w := some (.int r5)) (cc_X11_fittedBy  k6) rfl ylC_0 ynC_0 rfl vy_X11_fittedBy zw_814 ⟨Nat.le_of_ble_eq_true rfl, Nat.le_of_ble_eq_true rfl⟩ (Nat.le_of_ble_eq_true rfl) dX11_layOut_44 rfl ?_
      show vv_V x vv_TC mm_X11_layOut post 47 [some (.ref (vv_ad x 0)), some (.int u1), some (.int s2), none, none] [.int r5] h
      refine rr_istore_n (q := 48) [some (.ref (vv_ad x 0)), some (.int u1), some (.int s2), some (.int r5), none] dX11_layOut_47 rfl rfl (Nat.le_of_ble_eq_true rfl) rfl rfl ?_
      refine rr_iconst (q := 49) (v := 0) dX11_layOut_48 rfl (by decide) ?_
      refine rr_istore (q := 51) [some (.ref (vv_ad x 0)), some (.int u1), some (.int s2), some (.int r5), some (.int (0 : Int32))] dX11_layOut_49 rfl (Nat.le_of_ble_eq_true rfl) rfl rfl ?_
      obtain ⟨r19, k23, hm⟩ := vv_bind hm
      refine vv_lp_link (P := fun (zs : Int32 × vv_H) => vv_V x vv_TC mm_X11_layOut post 51 [some (.ref (vv_ad x 0)), some (.int u1), some (.int s2), some (.int r5), some (.int zs.1)] [] zs.2) (Q := (fun (e20 : (vv_H)) => vv_V x vv_TC mm_X11_layOut post 115 [some (.ref (vv_ad x 0)), some (.int u1), some (.int s2), none, none] [] e20)) (fun zs o hm hI hX => ?_) vv_F ((0 : Int32), h) r19 k23 ?_
      · exact vt_X11_layOut_B51   hm (fun z4 zh e => hI (z4, zh) e) (fun zh e => hX zh e)
      · generalize r19 = e20 at hm ⊢
        try dsimp only [Sum.elim_inl, Sum.elim_inr] at hm
        try dsimp only [Sum.elim_inl, Sum.elim_inr]
        obtain ⟨w21, c22, hm⟩ := vv_let_of hm
        refine rr_iinc (q := 118) [some (.ref (vv_ad x 0)), some (.int u1), some (.int w21), none, none] dX11_layOut_115 rfl rfl c22.symm (Nat.le_of_ble_eq_true rfl) rfl rfl ?_
        refine rr_goto (tgt := 16) dX11_layOut_118 (by decide) ?_
        obtain rfl := Option.some.inj hm
        exact hI w21 e20 rfl
    · refine rr_goto (tgt := 115) dX11_layOut_39 (by decide) ?_
      obtain ⟨w24, c25, hm⟩ := vv_let_of hm
      refine rr_iinc (q := 118) [some (.ref (vv_ad x 0)), some (.int u1), some (.int w24), none, none] dX11_layOut_115 rfl rfl c25.symm (Nat.le_of_ble_eq_true rfl) rfl rfl ?_
      refine rr_goto (tgt := 16) dX11_layOut_118 (by decide) ?_
      obtain rfl := Option.some.inj hm
      exact hI w24 h rfl
set_option maxHeartbeats 200000 in
theorem vt_X11_layOut {x : vv_E} {post : Option Value → vv_H → Prop} {h : vv_H} {v1 : Int32} {o : vv_H}  (hm : ff_X11_layOut  h v1 = some o) (hp : post none o) : vv_V x vv_TC mm_X11_layOut post 0 [some (.ref (vv_ad x 0)), some (.int v1), none, none, none] [] h := by
  unfold ff_X11_layOut at hm
  refine rr_aload_n (q := 1) dX11_layOut_0 rfl rfl ?_
  refine gf_X11_78 (q := 4) rfl dX11_layOut_1 rfl ?_
  refine rr_aload_n (q := 5) dX11_layOut_4 rfl rfl ?_
  refine gf_X11_10 (q := 8) rfl dX11_layOut_5 rfl ?_
  refine gf_X11_377 (q := 11) rfl dX11_layOut_8 rfl ?_
  obtain ⟨r1, k2, hm⟩ := vv_bind hm
  refine rr_callV (q := 14) (M' := mm_X3_clear) (As := [.int (h.1 1 0)]) (st := []) (w := none) (cc_X3_clear  k2) rfl ylC_170 ynC_170 rfl vy_X3_clear zw_847 ⟨Nat.le_of_ble_eq_true rfl, Nat.le_of_ble_eq_true rfl⟩ (Nat.le_of_ble_eq_true rfl) dX11_layOut_11 rfl ?_
  show vv_V x vv_TC mm_X11_layOut post 14 [some (.ref (vv_ad x 0)), some (.int v1), none, none, none] [] r1
  refine rr_iconst (q := 15) (v := 0) dX11_layOut_14 rfl (by decide) ?_
  refine rr_istore_n (q := 16) [some (.ref (vv_ad x 0)), some (.int v1), some (.int (0 : Int32)), none, none] dX11_layOut_15 rfl rfl (Nat.le_of_ble_eq_true rfl) rfl rfl ?_
  obtain ⟨r26, k28, hm⟩ := vv_bind hm
  refine vv_lp_link (P := fun (zs : Int32 × vv_H) => vv_V x vv_TC mm_X11_layOut post 16 [some (.ref (vv_ad x 0)), some (.int v1), some (.int zs.1), none, none] [] zs.2) (Q := (fun (e27 : (vv_H)) => vv_V x vv_TC mm_X11_layOut post 121 [none, none, none, none, none] [] e27)) (fun zs o hm hI hX => ?_) vv_F ((0 : Int32), r1) r26 k28 ?_
  · exact vt_X11_layOut_B16   hm (fun z2 zh e => hI (z2, zh) e) (fun zh e => hX zh e)
  · generalize r26 = e27 at hm ⊢
    try dsimp only [Sum.elim_inl, Sum.elim_inr] at hm
    try dsimp only [Sum.elim_inl, Sum.elim_inr]
    obtain rfl := Option.some.inj hm
    exact rr_vret dX11_layOut_121 rfl hp
theorem cc_X11_layOut {x : vv_E} {h : vv_H} {v1 : Int32} {o : vv_H}  (hm : ff_X11_layOut h v1 = some o) : vv_C x vv_TC yX11_layOut mm_X11_layOut [.ref (vv_ad x 0), .int v1] h (fun v g => v = none ∧ g = o) := vv_entry (by decide +kernel) rfl (Nat.le_of_ble_eq_true rfl) rfl (vt_X11_layOut  hm ⟨rfl, rfl⟩)
def ff_X12_oneLine_B149 (u1 : Int32) (u2 : Int32) (u3 : Int32) (s4 : Int32) (h : vv_H) : Option ((Int32 × vv_H) ⊕ ((vv_H))) := (if (h.1 0 34) ≤ s4 then some (.inr h) else (if (h.1 0 19) = 0 then (if u2 = 0 then some (.inr h) else vv_ck s4 12 ((if (h.1 22 s4.toNatClampNeg) = u2 then vv_ck s4 12 ((if (h.1 24 s4.toNatClampNeg) = u3 then vv_ck s4 12 ((if (h.1 23 s4.toNatClampNeg) = u1 then (ff_X12_fails h (5 : Int32)).bind (fun r27 => vv_let (s4 + 1) (fun w29 => some (.inl (w29, r27)))) else vv_let (s4 + 1) (fun w25 => some (.inl (w25, h))))) else vv_let (s4 + 1) (fun w22 => some (.inl (w22, h))))) else vv_let (s4 + 1) (fun w19 => some (.inl (w19, h)))))) else some (.inr h)))
def ff_X12_oneLine_J350  (h : vv_H) : Option (vv_H) := (if (h.1 0 19) = 0 then vv_let (vv_iu h 0 34 ((h.1 0 34) + (1 : Int32))) (fun g45 => (ff_X12_next g45).bind (fun r47 => some r47)) else some h)
def ff_X12_oneLine_J345  (h : vv_H) : Option (vv_H) := (ff_X12_fails h (2 : Int32)).bind (fun r49 => ff_X12_oneLine_J350  r49)
def ff_X12_oneLine_J321  (h : vv_H) : Option (vv_H) := (if (h.1 0 19) = 0 then (if (h.1 0 23) = (3 : Int32) then (if (h.1 0 24) = (59 : Int32) then ff_X12_oneLine_J350  h else ff_X12_oneLine_J345  h) else ff_X12_oneLine_J345  h) else ff_X12_oneLine_J350  h)
def ff_X12_oneLine_B294  (h : vv_H) : Option ((vv_H) ⊕ ((vv_H))) := (if (h.1 0 19) = 0 then (ff_X12_isName h (8 : Int32)).bind (fun r57 => (if r57 = 0 then some (.inr h) else (ff_X12_next h).bind (fun r59 => (ff_X12_test r59).bind (fun r61 => some (.inl r61))))) else some (.inr h))
def ff_X12_oneLine_J258  (u2 : Int32) (z0 : Int32) (z1 : Int32) (z3 : Int32) (h : vv_H) : Option (vv_H) := (ff_X12_number h z1 z0).bind (fun r38 => vv_ck z3 12 (vv_let (vv_iu r38.2 25 z3.toNatClampNeg r38.1) (fun g41 => (ff_X12_next g41).bind (fun r43 => (if (r43.1 0 19) = 0 then (if u2 = 0 then (ff_X12_isName r43 (7 : Int32)).bind (fun r51 => (if r51 = 0 then ff_X12_oneLine_J321  r43 else (ff_X12_next r43).bind (fun r53 => (ff_X12_test r53).bind (fun r55 => (vv_lp (fun (zs : vv_H) => ff_X12_oneLine_B294   zs) vv_F r55).bind (fun (e64 : (vv_H)) => ff_X12_oneLine_J321  e64))))) else ff_X12_oneLine_J321  r43) else ff_X12_oneLine_J321  r43)))))
def ff_X12_oneLine_J246  (u2 : Int32) (z0 : Int32) (z2 : Int32) (h : vv_H) : Option (vv_H) := (if u2 = 0 then ff_X12_oneLine_J258  u2 (9 : Int32) z0 z2 h else ff_X12_oneLine_J258  u2 (9999 : Int32) z0 z2 h)
def ff_X12_oneLine_J92  (u1 : Int32) (h : vv_H) : Option (vv_H) := (if (h.1 0 19) ≤ 0 then vv_let (h.1 0 24) (fun w3 => vv_ck (h.1 0 34) 12 (vv_let (vv_iu h 22 (h.1 0 34).toNatClampNeg w3) (fun g6 => vv_ck (g6.1 0 34) 12 (vv_let (vv_iu g6 23 (g6.1 0 34).toNatClampNeg u1) (fun g9 => vv_ck (g9.1 0 34) 12 (vv_let (vv_iu g9 26 (g9.1 0 34).toNatClampNeg (0 : Int32)) (fun g12 => (ff_X12_next g12).bind (fun r14 => (ff_X12_number r14 (0 : Int32) (3 : Int32)).bind (fun r16 => (vv_lp (fun (zs : Int32 × vv_H) => ff_X12_oneLine_B149  u1 w3 r16.1 zs.1 zs.2) vv_F ((0 : Int32), r16.2)).bind (fun (e32 : (vv_H)) => vv_ck (e32.1 0 34) 12 (vv_let (vv_iu e32 24 (e32.1 0 34).toNatClampNeg r16.1) (fun g34 => (ff_X12_next g34).bind (fun r36 => (if w3 = (1 : Int32) then ff_X12_oneLine_J246  w3 (1 : Int32) (r36.1 0 34) r36 else ff_X12_oneLine_J246  w3 (0 : Int32) (r36.1 0 34) r36)))))))))))))) else some h)
def ff_X12_oneLine_J38  (h : vv_H) : Option (vv_H) := (if (h.1 0 19) = 0 then (ff_X12_isName h (6 : Int32)).bind (fun r67 => (if r67 = 0 then ff_X12_oneLine_J92  (0 : Int32) h else (ff_X12_next h).bind (fun r69 => (ff_X12_number r69 (0 : Int32) (9999 : Int32)).bind (fun r71 => (ff_X12_next r71.2).bind (fun r73 => (if (r73.1 0 19) = 0 then (ff_X12_isRule r73).bind (fun r75 => (if r75 = 0 then (ff_X12_fails r73 (2 : Int32)).bind (fun r77 => ff_X12_oneLine_J92  r71.1 r77) else ff_X12_oneLine_J92  r71.1 r73)) else ff_X12_oneLine_J92  r71.1 r73)))))) else ff_X12_oneLine_J92  (0 : Int32) h)
def ff_X12_oneLine_J24  (h : vv_H) : Option (vv_H) := (if (h.1 0 34) = (12 : Int32) then (ff_X12_fails h (4 : Int32)).bind (fun r79 => ff_X12_oneLine_J38  r79) else ff_X12_oneLine_J38  h)
def ff_X12_oneLine (h : vv_H) : Option (vv_H) := (ff_X12_isName h (6 : Int32)).bind (fun r1 => (if r1 = 0 then (ff_X12_isRule h).bind (fun r81 => (if r81 = 0 then (ff_X12_fails h (2 : Int32)).bind (fun r83 => ff_X12_oneLine_J38  r83) else ff_X12_oneLine_J24  h)) else ff_X12_oneLine_J24  h))
set_option maxHeartbeats 200000 in
theorem vt_X12_oneLine_B149 {x : vv_E} {post : Option Value → vv_H → Prop} {u1 : Int32} {u2 : Int32} {u3 : Int32} {s4 : Int32} {h : vv_H} {o : (Int32 × vv_H) ⊕ ((vv_H))}  (hm : ff_X12_oneLine_B149  u1 u2 u3 s4 h = some o) (hI : ∀ (z4 : Int32) (zh : vv_H), o = .inl (z4, zh) → vv_V x vv_TR mm_X12_oneLine post 149 [some (.ref (vv_ad x 0)), some (.int u1), some (.int u2), some (.int u3), some (.int z4)] [] zh) (hX0 : ∀  (zh : vv_H), o = .inr zh → vv_V x vv_TR mm_X12_oneLine post 213 [some (.ref (vv_ad x 0)), none, some (.int u2), some (.int u3), none] [] zh) : vv_V x vv_TR mm_X12_oneLine post 149 [some (.ref (vv_ad x 0)), some (.int u1), some (.int u2), some (.int u3), some (.int s4)] [] h := by
  unfold ff_X12_oneLine_B149 at hm
  refine rr_iload (q := 151) dX12_oneLine_149 rfl rfl ?_
  refine rr_aload_n (q := 152) dX12_oneLine_151 rfl rfl ?_
  refine gf_X12_290 (q := 155) rfl dX12_oneLine_152 rfl ?_
  refine rr_icmp_ge (q := 158) (tgt := 213) dX12_oneLine_155 (by decide) rfl hm (fun hm => ?_) (fun hm => ?_)
  · obtain rfl := Option.some.inj hm
    refine rr_sub [true, false, true, true, false] rfl ?_
    exact hX0 h rfl
  · refine rr_aload_n (q := 159) dX12_oneLine_158 rfl rfl ?_
    refine gf_X12_254 (q := 162) rfl dX12_oneLine_159 rfl ?_
    refine rr_if_ne (q := 165) (tgt := 213) dX12_oneLine_162 (by decide) rfl hm (fun hm => ?_) (fun hm => ?_)
    · obtain rfl := Option.some.inj hm
      refine rr_sub [true, false, true, true, false] rfl ?_
      exact hX0 h rfl
    · refine rr_iload_n (q := 166) dX12_oneLine_165 rfl rfl ?_
      refine rr_if_eq (q := 169) (tgt := 213) dX12_oneLine_166 (by decide) rfl hm (fun hm => ?_) (fun hm => ?_)
      · obtain rfl := Option.some.inj hm
        refine rr_sub [true, false, true, true, false] rfl ?_
        exact hX0 h rfl
      · refine rr_aload_n (q := 170) dX12_oneLine_169 rfl rfl ?_
        refine gf_X12_73 (q := 173) rfl dX12_oneLine_170 rfl ?_
        refine rr_iload (q := 175) dX12_oneLine_173 rfl rfl ?_
        obtain ⟨c18, hm⟩ := vv_ck_of hm
        refine rr_iald (q := 176) ylR_22 ynR_22 c18 dX12_oneLine_175 rfl ?_
        refine rr_iload_n (q := 177) dX12_oneLine_176 rfl rfl ?_
        refine rr_icmp_ne (q := 180) (tgt := 207) dX12_oneLine_177 (by decide) rfl hm (fun hm => ?_) (fun hm => ?_)
        · obtain ⟨w19, c20, hm⟩ := vv_let_of hm
          refine rr_iinc (q := 210) [some (.ref (vv_ad x 0)), some (.int u1), some (.int u2), some (.int u3), some (.int w19)] dX12_oneLine_207 rfl rfl c20.symm (Nat.le_of_ble_eq_true rfl) rfl rfl ?_
          refine rr_goto (tgt := 149) dX12_oneLine_210 (by decide) ?_
          obtain rfl := Option.some.inj hm
          exact hI w19 h rfl
        · refine rr_aload_n (q := 181) dX12_oneLine_180 rfl rfl ?_
          refine gf_X12_79 (q := 184) rfl dX12_oneLine_181 rfl ?_
          refine rr_iload (q := 186) dX12_oneLine_184 rfl rfl ?_
          obtain ⟨c21, hm⟩ := vv_ck_of hm
          refine rr_iald (q := 187) ylR_24 ynR_24 c21 dX12_oneLine_186 rfl ?_
          refine rr_iload_n (q := 188) dX12_oneLine_187 rfl rfl ?_
          refine rr_icmp_ne (q := 191) (tgt := 207) dX12_oneLine_188 (by decide) rfl hm (fun hm => ?_) (fun hm => ?_)
          · obtain ⟨w22, c23, hm⟩ := vv_let_of hm
            refine rr_iinc (q := 210) [some (.ref (vv_ad x 0)), some (.int u1), some (.int u2), some (.int u3), some (.int w22)] dX12_oneLine_207 rfl rfl c23.symm (Nat.le_of_ble_eq_true rfl) rfl rfl ?_
            refine rr_goto (tgt := 149) dX12_oneLine_210 (by decide) ?_
            obtain rfl := Option.some.inj hm
            exact hI w22 h rfl
          · refine rr_aload_n (q := 192) dX12_oneLine_191 rfl rfl ?_
            refine gf_X12_76 (q := 195) rfl dX12_oneLine_192 rfl ?_
            refine rr_iload (q := 197) dX12_oneLine_195 rfl rfl ?_
            obtain ⟨c24, hm⟩ := vv_ck_of hm
            refine rr_iald (q := 198) ylR_23 ynR_23 c24 dX12_oneLine_197 rfl ?_
            refine rr_iload_n (q := 199) dX12_oneLine_198 rfl rfl ?_
            refine rr_icmp_ne (q := 202) (tgt := 207) dX12_oneLine_199 (by decide) rfl hm (fun hm => ?_) (fun hm => ?_)
            · obtain ⟨w25, c26, hm⟩ := vv_let_of hm
              refine rr_iinc (q := 210) [some (.ref (vv_ad x 0)), some (.int u1), some (.int u2), some (.int u3), some (.int w25)] dX12_oneLine_207 rfl rfl c26.symm (Nat.le_of_ble_eq_true rfl) rfl rfl ?_
              refine rr_goto (tgt := 149) dX12_oneLine_210 (by decide) ?_
              obtain rfl := Option.some.inj hm
              exact hI w25 h rfl
            · refine rr_aload_n (q := 203) dX12_oneLine_202 rfl rfl ?_
              refine rr_iconst (q := 204) (v := 5) dX12_oneLine_203 rfl (by decide) ?_
              obtain ⟨r27, k28, hm⟩ := vv_bind hm
              refine rr_callV (q := 207) (M' := mm_X12_fails) (As := [.int (5 : Int32)]) (st := []) (w := none) (cc_X12_fails  k28) rfl ylR_0 ynR_0 rfl vy_X12_fails zw_290 ⟨Nat.le_of_ble_eq_true rfl, Nat.le_of_ble_eq_true rfl⟩ (Nat.le_of_ble_eq_true rfl) dX12_oneLine_204 rfl ?_
              show vv_V x vv_TR mm_X12_oneLine post 207 [some (.ref (vv_ad x 0)), some (.int u1), some (.int u2), some (.int u3), some (.int s4)] [] r27
              obtain ⟨w29, c30, hm⟩ := vv_let_of hm
              refine rr_iinc (q := 210) [some (.ref (vv_ad x 0)), some (.int u1), some (.int u2), some (.int u3), some (.int w29)] dX12_oneLine_207 rfl rfl c30.symm (Nat.le_of_ble_eq_true rfl) rfl rfl ?_
              refine rr_goto (tgt := 149) dX12_oneLine_210 (by decide) ?_
              obtain rfl := Option.some.inj hm
              exact hI w29 r27 rfl
set_option maxHeartbeats 200000 in
theorem vt_X12_oneLine_J350 {x : vv_E} {post : Option Value → vv_H → Prop}   {h : vv_H} {o : vv_H}  (hm : ff_X12_oneLine_J350  h = some o) (hp : post none o) : vv_V x vv_TR mm_X12_oneLine post 350 [some (.ref (vv_ad x 0)), none, none, none, none] [] h := by
  unfold ff_X12_oneLine_J350 at hm
  refine rr_aload_n (q := 351) dX12_oneLine_350 rfl rfl ?_
  refine gf_X12_254 (q := 354) rfl dX12_oneLine_351 rfl ?_
  refine rr_if_ne (q := 357) (tgt := 371) dX12_oneLine_354 (by decide) rfl hm (fun hm => ?_) (fun hm => ?_)
  · obtain rfl := Option.some.inj hm
    exact rr_vret dX12_oneLine_371 rfl hp
  · refine rr_aload_n (q := 358) dX12_oneLine_357 rfl rfl ?_
    refine rr_dup (q := 359) dX12_oneLine_358 rfl rfl ?_
    refine gf_X12_290 (q := 362) rfl dX12_oneLine_359 rfl ?_
    refine rr_iconst (q := 363) (v := 1) dX12_oneLine_362 rfl (by decide) ?_
    refine rr_iadd (q := 364) dX12_oneLine_363 rfl ?_
    refine pf_X12_290 (q := 367) rfl dX12_oneLine_364 rfl (fun g45 c46 => ?_)
    replace hm := vv_letE hm c46
    refine rr_aload_n (q := 368) dX12_oneLine_367 rfl rfl ?_
    obtain ⟨r47, k48, hm⟩ := vv_bind hm
    refine rr_callV (q := 371) (M' := mm_X12_next) (As := []) (st := []) (w := none) (cc_X12_next  k48) rfl ylR_0 ynR_0 rfl vy_X12_next zw_737 ⟨Nat.le_of_ble_eq_true rfl, Nat.le_of_ble_eq_true rfl⟩ (Nat.le_of_ble_eq_true rfl) dX12_oneLine_368 rfl ?_
    show vv_V x vv_TR mm_X12_oneLine post 371 [some (.ref (vv_ad x 0)), none, none, none, none] [] r47
    obtain rfl := Option.some.inj hm
    exact rr_vret dX12_oneLine_371 rfl hp
set_option maxHeartbeats 200000 in
theorem vt_X12_oneLine_J345 {x : vv_E} {post : Option Value → vv_H → Prop}   {h : vv_H} {o : vv_H}  (hm : ff_X12_oneLine_J345  h = some o) (hp : post none o) : vv_V x vv_TR mm_X12_oneLine post 345 [some (.ref (vv_ad x 0)), none, none, none, none] [] h := by
  unfold ff_X12_oneLine_J345 at hm
  refine rr_aload_n (q := 346) dX12_oneLine_345 rfl rfl ?_
  refine rr_iconst (q := 347) (v := 2) dX12_oneLine_346 rfl (by decide) ?_
  obtain ⟨r49, k50, hm⟩ := vv_bind hm
  refine rr_callV (q := 350) (M' := mm_X12_fails) (As := [.int (2 : Int32)]) (st := []) (w := none) (cc_X12_fails  k50) rfl ylR_0 ynR_0 rfl vy_X12_fails zw_290 ⟨Nat.le_of_ble_eq_true rfl, Nat.le_of_ble_eq_true rfl⟩ (Nat.le_of_ble_eq_true rfl) dX12_oneLine_347 rfl ?_
  show vv_V x vv_TR mm_X12_oneLine post 350 [some (.ref (vv_ad x 0)), none, none, none, none] [] r49
  exact vt_X12_oneLine_J350  hm hp
set_option maxHeartbeats 200000 in
theorem vt_X12_oneLine_J321 {x : vv_E} {post : Option Value → vv_H → Prop}   {h : vv_H} {o : vv_H}  (hm : ff_X12_oneLine_J321  h = some o) (hp : post none o) : vv_V x vv_TR mm_X12_oneLine post 321 [some (.ref (vv_ad x 0)), none, none, none, none] [] h := by
  unfold ff_X12_oneLine_J321 at hm
  refine rr_aload_n (q := 322) dX12_oneLine_321 rfl rfl ?_
  refine gf_X12_254 (q := 325) rfl dX12_oneLine_322 rfl ?_
  refine rr_if_ne (q := 328) (tgt := 350) dX12_oneLine_325 (by decide) rfl hm (fun hm => ?_) (fun hm => ?_)
  · exact vt_X12_oneLine_J350  hm hp
  · refine rr_aload_n (q := 329) dX12_oneLine_328 rfl rfl ?_
    refine gf_X12_272 (q := 332) rfl dX12_oneLine_329 rfl ?_
    refine rr_iconst (q := 333) (v := 3) dX12_oneLine_332 rfl (by decide) ?_
    refine rr_icmp_ne (q := 336) (tgt := 345) dX12_oneLine_333 (by decide) rfl hm (fun hm => ?_) (fun hm => ?_)
    · exact vt_X12_oneLine_J345  hm hp
    · refine rr_aload_n (q := 337) dX12_oneLine_336 rfl rfl ?_
      refine gf_X12_269 (q := 340) rfl dX12_oneLine_337 rfl ?_
      refine rr_bipush (q := 342) (v := 59) dX12_oneLine_340 rfl (by decide) ?_
      refine rr_icmp_eq (q := 345) (tgt := 350) dX12_oneLine_342 (by decide) rfl hm (fun hm => ?_) (fun hm => ?_)
      · exact vt_X12_oneLine_J350  hm hp
      · exact vt_X12_oneLine_J345  hm hp
set_option maxHeartbeats 200000 in
theorem vt_X12_oneLine_B294 {x : vv_E} {post : Option Value → vv_H → Prop}  {h : vv_H} {o : (vv_H) ⊕ ((vv_H))}  (hm : ff_X12_oneLine_B294   h = some o) (hI : ∀  (zh : vv_H), o = .inl zh → vv_V x vv_TR mm_X12_oneLine post 294 [some (.ref (vv_ad x 0)), none, none, none, none] [] zh) (hX0 : ∀  (zh : vv_H), o = .inr zh → vv_V x vv_TR mm_X12_oneLine post 321 [some (.ref (vv_ad x 0)), none, none, none, none] [] zh) : vv_V x vv_TR mm_X12_oneLine post 294 [some (.ref (vv_ad x 0)), none, none, none, none] [] h := by
  unfold ff_X12_oneLine_B294 at hm
  refine rr_aload_n (q := 295) dX12_oneLine_294 rfl rfl ?_
  refine gf_X12_254 (q := 298) rfl dX12_oneLine_295 rfl ?_
  refine rr_if_ne (q := 301) (tgt := 321) dX12_oneLine_298 (by decide) rfl hm (fun hm => ?_) (fun hm => ?_)
  · obtain rfl := Option.some.inj hm
    exact hX0 h rfl
  · refine rr_aload_n (q := 302) dX12_oneLine_301 rfl rfl ?_
    refine rr_bipush (q := 304) (v := 8) dX12_oneLine_302 rfl (by decide) ?_
    obtain ⟨r57, k58, hm⟩ := vv_bind hm
    refine rr_callV (q := 307) (M' := mm_X12_isName) (As := [.int (8 : Int32)]) (st := []) (w := some (.int r57)) (cc_X12_isName  k58) rfl ylR_0 ynR_0 rfl vy_X12_isName zw_857 ⟨Nat.le_of_ble_eq_true rfl, Nat.le_of_ble_eq_true rfl⟩ (Nat.le_of_ble_eq_true rfl) dX12_oneLine_304 rfl ?_
    show vv_V x vv_TR mm_X12_oneLine post 307 [some (.ref (vv_ad x 0)), none, none, none, none] [.int r57] h
    refine rr_if_eq (q := 310) (tgt := 321) dX12_oneLine_307 (by decide) rfl hm (fun hm => ?_) (fun hm => ?_)
    · obtain rfl := Option.some.inj hm
      exact hX0 h rfl
    · refine rr_aload_n (q := 311) dX12_oneLine_310 rfl rfl ?_
      obtain ⟨r59, k60, hm⟩ := vv_bind hm
      refine rr_callV (q := 314) (M' := mm_X12_next) (As := []) (st := []) (w := none) (cc_X12_next  k60) rfl ylR_0 ynR_0 rfl vy_X12_next zw_737 ⟨Nat.le_of_ble_eq_true rfl, Nat.le_of_ble_eq_true rfl⟩ (Nat.le_of_ble_eq_true rfl) dX12_oneLine_311 rfl ?_
      show vv_V x vv_TR mm_X12_oneLine post 314 [some (.ref (vv_ad x 0)), none, none, none, none] [] r59
      refine rr_aload_n (q := 315) dX12_oneLine_314 rfl rfl ?_
      obtain ⟨r61, k62, hm⟩ := vv_bind hm
      refine rr_callV (q := 318) (M' := mm_X12_test) (As := []) (st := []) (w := none) (cc_X12_test  k62) rfl ylR_0 ynR_0 rfl vy_X12_test zw_866 ⟨Nat.le_of_ble_eq_true rfl, Nat.le_of_ble_eq_true rfl⟩ (Nat.le_of_ble_eq_true rfl) dX12_oneLine_315 rfl ?_
      show vv_V x vv_TR mm_X12_oneLine post 318 [some (.ref (vv_ad x 0)), none, none, none, none] [] r61
      refine rr_goto (tgt := 294) dX12_oneLine_318 (by decide) ?_
      obtain rfl := Option.some.inj hm
      exact hI r61 rfl
set_option maxHeartbeats 200000 in
theorem vt_X12_oneLine_J258 {x : vv_E} {post : Option Value → vv_H → Prop}   {u2 : Int32} {z0 : Int32} {z1 : Int32} {z3 : Int32} {h : vv_H} {o : vv_H}  (hm : ff_X12_oneLine_J258  u2 z0 z1 z3 h = some o) (hp : post none o) : vv_V x vv_TR mm_X12_oneLine post 258 [some (.ref (vv_ad x 0)), none, some (.int u2), none, none] [.int z0, .int z1, .ref (vv_ad x 0), .int z3, .ref (vv_ad x 25)] h := by
  unfold ff_X12_oneLine_J258 at hm
  obtain ⟨r38, k39, hm⟩ := vv_bind hm
  refine rr_callV (q := 261) (M' := mm_X12_number) (As := [.int z1, .int z0]) (st := [.int z3, .ref (vv_ad x 25)]) (w := some (.int r38.1)) (cc_X12_number  k39) rfl ylR_0 ynR_0 rfl vy_X12_number zw_742 ⟨Nat.le_of_ble_eq_true rfl, Nat.le_of_ble_eq_true rfl⟩ (Nat.le_of_ble_eq_true rfl) dX12_oneLine_258 rfl ?_
  show vv_V x vv_TR mm_X12_oneLine post 261 [some (.ref (vv_ad x 0)), none, some (.int u2), none, none] [.int r38.1, .int z3, .ref (vv_ad x 25)] r38.2
  obtain ⟨c40, hm⟩ := vv_ck_of hm
  obtain ⟨g41, c42, hm⟩ := vv_let_of hm
  refine rr_iast (q := 262) ylR_25 ynR_25 c40 dX12_oneLine_261 rfl ?_
  rw [← c42]
  refine rr_aload_n (q := 263) dX12_oneLine_262 rfl rfl ?_
  obtain ⟨r43, k44, hm⟩ := vv_bind hm
  refine rr_callV (q := 266) (M' := mm_X12_next) (As := []) (st := []) (w := none) (cc_X12_next  k44) rfl ylR_0 ynR_0 rfl vy_X12_next zw_737 ⟨Nat.le_of_ble_eq_true rfl, Nat.le_of_ble_eq_true rfl⟩ (Nat.le_of_ble_eq_true rfl) dX12_oneLine_263 rfl ?_
  show vv_V x vv_TR mm_X12_oneLine post 266 [some (.ref (vv_ad x 0)), none, some (.int u2), none, none] [] r43
  refine rr_aload_n (q := 267) dX12_oneLine_266 rfl rfl ?_
  refine gf_X12_254 (q := 270) rfl dX12_oneLine_267 rfl ?_
  refine rr_if_ne (q := 273) (tgt := 321) dX12_oneLine_270 (by decide) rfl hm (fun hm => ?_) (fun hm => ?_)
  · refine rr_sub [true, false, false, false, false] rfl ?_
    exact vt_X12_oneLine_J321  hm hp
  · refine rr_iload_n (q := 274) dX12_oneLine_273 rfl rfl ?_
    refine rr_if_ne (q := 277) (tgt := 321) dX12_oneLine_274 (by decide) rfl hm (fun hm => ?_) (fun hm => ?_)
    · refine rr_sub [true, false, false, false, false] rfl ?_
      exact vt_X12_oneLine_J321  hm hp
    · refine rr_aload_n (q := 278) dX12_oneLine_277 rfl rfl ?_
      refine rr_bipush (q := 280) (v := 7) dX12_oneLine_278 rfl (by decide) ?_
      obtain ⟨r51, k52, hm⟩ := vv_bind hm
      refine rr_callV (q := 283) (M' := mm_X12_isName) (As := [.int (7 : Int32)]) (st := []) (w := some (.int r51)) (cc_X12_isName  k52) rfl ylR_0 ynR_0 rfl vy_X12_isName zw_857 ⟨Nat.le_of_ble_eq_true rfl, Nat.le_of_ble_eq_true rfl⟩ (Nat.le_of_ble_eq_true rfl) dX12_oneLine_280 rfl ?_
      show vv_V x vv_TR mm_X12_oneLine post 283 [some (.ref (vv_ad x 0)), none, some (.int u2), none, none] [.int r51] r43
      refine rr_if_eq (q := 286) (tgt := 321) dX12_oneLine_283 (by decide) rfl hm (fun hm => ?_) (fun hm => ?_)
      · refine rr_sub [true, false, false, false, false] rfl ?_
        exact vt_X12_oneLine_J321  hm hp
      · refine rr_aload_n (q := 287) dX12_oneLine_286 rfl rfl ?_
        obtain ⟨r53, k54, hm⟩ := vv_bind hm
        refine rr_callV (q := 290) (M' := mm_X12_next) (As := []) (st := []) (w := none) (cc_X12_next  k54) rfl ylR_0 ynR_0 rfl vy_X12_next zw_737 ⟨Nat.le_of_ble_eq_true rfl, Nat.le_of_ble_eq_true rfl⟩ (Nat.le_of_ble_eq_true rfl) dX12_oneLine_287 rfl ?_
        show vv_V x vv_TR mm_X12_oneLine post 290 [some (.ref (vv_ad x 0)), none, some (.int u2), none, none] [] r53
        refine rr_aload_n (q := 291) dX12_oneLine_290 rfl rfl ?_
        obtain ⟨r55, k56, hm⟩ := vv_bind hm
        refine rr_callV (q := 294) (M' := mm_X12_test) (As := []) (st := []) (w := none) (cc_X12_test  k56) rfl ylR_0 ynR_0 rfl vy_X12_test zw_866 ⟨Nat.le_of_ble_eq_true rfl, Nat.le_of_ble_eq_true rfl⟩ (Nat.le_of_ble_eq_true rfl) dX12_oneLine_291 rfl ?_
        show vv_V x vv_TR mm_X12_oneLine post 294 [some (.ref (vv_ad x 0)), none, some (.int u2), none, none] [] r55
        refine rr_sub [true, false, false, false, false] rfl ?_
        obtain ⟨r63, k65, hm⟩ := vv_bind hm
        refine vv_lp_link (P := fun (zs : vv_H) => vv_V x vv_TR mm_X12_oneLine post 294 [some (.ref (vv_ad x 0)), none, none, none, none] [] zs) (Q := (fun (e64 : (vv_H)) => vv_V x vv_TR mm_X12_oneLine post 321 [some (.ref (vv_ad x 0)), none, none, none, none] [] e64)) (fun zs o hm hI hX => ?_) vv_F r55 r63 k65 ?_
        · exact vt_X12_oneLine_B294   hm (fun  zh e => hI zh e) (fun zh e => hX zh e)
        · generalize r63 = e64 at hm ⊢
          try dsimp only [Sum.elim_inl, Sum.elim_inr] at hm
          try dsimp only [Sum.elim_inl, Sum.elim_inr]
          exact vt_X12_oneLine_J321  hm hp
set_option maxHeartbeats 200000 in
theorem vt_X12_oneLine_J246 {x : vv_E} {post : Option Value → vv_H → Prop}   {u2 : Int32} {z0 : Int32} {z2 : Int32} {h : vv_H} {o : vv_H}  (hm : ff_X12_oneLine_J246  u2 z0 z2 h = some o) (hp : post none o) : vv_V x vv_TR mm_X12_oneLine post 246 [some (.ref (vv_ad x 0)), none, some (.int u2), none, none] [.int z0, .ref (vv_ad x 0), .int z2, .ref (vv_ad x 25)] h := by
  unfold ff_X12_oneLine_J246 at hm
  refine rr_iload_n (q := 247) dX12_oneLine_246 rfl rfl ?_
  refine rr_if_ne (q := 250) (tgt := 255) dX12_oneLine_247 (by decide) rfl hm (fun hm => ?_) (fun hm => ?_)
  · refine rr_sipush (q := 258) (v := 9999) dX12_oneLine_255 rfl (by decide) ?_
    exact vt_X12_oneLine_J258  hm hp
  · refine rr_bipush (q := 252) (v := 9) dX12_oneLine_250 rfl (by decide) ?_
    refine rr_goto (tgt := 258) dX12_oneLine_252 (by decide) ?_
    exact vt_X12_oneLine_J258  hm hp
set_option maxHeartbeats 200000 in
theorem vt_X12_oneLine_J92 {x : vv_E} {post : Option Value → vv_H → Prop}   {u1 : Int32} {h : vv_H} {o : vv_H}  (hm : ff_X12_oneLine_J92  u1 h = some o) (hp : post none o) : vv_V x vv_TR mm_X12_oneLine post 92 [some (.ref (vv_ad x 0)), some (.int u1), none, none, none] [] h := by
  unfold ff_X12_oneLine_J92 at hm
  refine rr_aload_n (q := 93) dX12_oneLine_92 rfl rfl ?_
  refine gf_X12_254 (q := 96) rfl dX12_oneLine_93 rfl ?_
  refine rr_if_le (q := 99) (tgt := 100) dX12_oneLine_96 (by decide) rfl hm (fun hm => ?_) (fun hm => ?_)
  · refine rr_aload_n (q := 101) dX12_oneLine_100 rfl rfl ?_
    refine gf_X12_269 (q := 104) rfl dX12_oneLine_101 rfl ?_
    obtain ⟨w3, c4, hm⟩ := vv_let_of hm
    rw [← c4]
    refine rr_istore_n (q := 105) [some (.ref (vv_ad x 0)), some (.int u1), some (.int w3), none, none] dX12_oneLine_104 rfl rfl (Nat.le_of_ble_eq_true rfl) rfl rfl ?_
    refine rr_aload_n (q := 106) dX12_oneLine_105 rfl rfl ?_
    refine gf_X12_73 (q := 109) rfl dX12_oneLine_106 rfl ?_
    refine rr_aload_n (q := 110) dX12_oneLine_109 rfl rfl ?_
    refine gf_X12_290 (q := 113) rfl dX12_oneLine_110 rfl ?_
    refine rr_iload_n (q := 114) dX12_oneLine_113 rfl rfl ?_
    obtain ⟨c5, hm⟩ := vv_ck_of hm
    obtain ⟨g6, c7, hm⟩ := vv_let_of hm
    refine rr_iast (q := 115) ylR_22 ynR_22 c5 dX12_oneLine_114 rfl ?_
    rw [← c7]
    refine rr_aload_n (q := 116) dX12_oneLine_115 rfl rfl ?_
    refine gf_X12_76 (q := 119) rfl dX12_oneLine_116 rfl ?_
    refine rr_aload_n (q := 120) dX12_oneLine_119 rfl rfl ?_
    refine gf_X12_290 (q := 123) rfl dX12_oneLine_120 rfl ?_
    refine rr_iload_n (q := 124) dX12_oneLine_123 rfl rfl ?_
    obtain ⟨c8, hm⟩ := vv_ck_of hm
    obtain ⟨g9, c10, hm⟩ := vv_let_of hm
    refine rr_iast (q := 125) ylR_23 ynR_23 c8 dX12_oneLine_124 rfl ?_
    rw [← c10]
    refine rr_aload_n (q := 126) dX12_oneLine_125 rfl rfl ?_
    refine gf_X12_85 (q := 129) rfl dX12_oneLine_126 rfl ?_
    refine rr_aload_n (q := 130) dX12_oneLine_129 rfl rfl ?_
    refine gf_X12_290 (q := 133) rfl dX12_oneLine_130 rfl ?_
    refine rr_iconst (q := 134) (v := 0) dX12_oneLine_133 rfl (by decide) ?_
    obtain ⟨c11, hm⟩ := vv_ck_of hm
    obtain ⟨g12, c13, hm⟩ := vv_let_of hm
    refine rr_iast (q := 135) ylR_26 ynR_26 c11 dX12_oneLine_134 rfl ?_
    rw [← c13]
    refine rr_aload_n (q := 136) dX12_oneLine_135 rfl rfl ?_
    obtain ⟨r14, k15, hm⟩ := vv_bind hm
    refine rr_callV (q := 139) (M' := mm_X12_next) (As := []) (st := []) (w := none) (cc_X12_next  k15) rfl ylR_0 ynR_0 rfl vy_X12_next zw_737 ⟨Nat.le_of_ble_eq_true rfl, Nat.le_of_ble_eq_true rfl⟩ (Nat.le_of_ble_eq_true rfl) dX12_oneLine_136 rfl ?_
    show vv_V x vv_TR mm_X12_oneLine post 139 [some (.ref (vv_ad x 0)), some (.int u1), some (.int w3), none, none] [] r14
    refine rr_aload_n (q := 140) dX12_oneLine_139 rfl rfl ?_
    refine rr_iconst (q := 141) (v := 0) dX12_oneLine_140 rfl (by decide) ?_
    refine rr_iconst (q := 142) (v := 3) dX12_oneLine_141 rfl (by decide) ?_
    obtain ⟨r16, k17, hm⟩ := vv_bind hm
    refine rr_callV (q := 145) (M' := mm_X12_number) (As := [.int (0 : Int32), .int (3 : Int32)]) (st := []) (w := some (.int r16.1)) (cc_X12_number  k17) rfl ylR_0 ynR_0 rfl vy_X12_number zw_742 ⟨Nat.le_of_ble_eq_true rfl, Nat.le_of_ble_eq_true rfl⟩ (Nat.le_of_ble_eq_true rfl) dX12_oneLine_142 rfl ?_
    show vv_V x vv_TR mm_X12_oneLine post 145 [some (.ref (vv_ad x 0)), some (.int u1), some (.int w3), none, none] [.int r16.1] r16.2
    refine rr_istore_n (q := 146) [some (.ref (vv_ad x 0)), some (.int u1), some (.int w3), some (.int r16.1), none] dX12_oneLine_145 rfl rfl (Nat.le_of_ble_eq_true rfl) rfl rfl ?_
    refine rr_iconst (q := 147) (v := 0) dX12_oneLine_146 rfl (by decide) ?_
    refine rr_istore (q := 149) [some (.ref (vv_ad x 0)), some (.int u1), some (.int w3), some (.int r16.1), some (.int (0 : Int32))] dX12_oneLine_147 rfl (Nat.le_of_ble_eq_true rfl) rfl rfl ?_
    obtain ⟨r31, k66, hm⟩ := vv_bind hm
    refine vv_lp_link (P := fun (zs : Int32 × vv_H) => vv_V x vv_TR mm_X12_oneLine post 149 [some (.ref (vv_ad x 0)), some (.int u1), some (.int w3), some (.int r16.1), some (.int zs.1)] [] zs.2) (Q := (fun (e32 : (vv_H)) => vv_V x vv_TR mm_X12_oneLine post 213 [some (.ref (vv_ad x 0)), none, some (.int w3), some (.int r16.1), none] [] e32)) (fun zs o hm hI hX => ?_) vv_F ((0 : Int32), r16.2) r31 k66 ?_
    · exact vt_X12_oneLine_B149   hm (fun z4 zh e => hI (z4, zh) e) (fun zh e => hX zh e)
    · generalize r31 = e32 at hm ⊢
      try dsimp only [Sum.elim_inl, Sum.elim_inr] at hm
      try dsimp only [Sum.elim_inl, Sum.elim_inr]
      refine rr_aload_n (q := 214) dX12_oneLine_213 rfl rfl ?_
      refine gf_X12_79 (q := 217) rfl dX12_oneLine_214 rfl ?_
      refine rr_aload_n (q := 218) dX12_oneLine_217 rfl rfl ?_
      refine gf_X12_290 (q := 221) rfl dX12_oneLine_218 rfl ?_
      refine rr_iload_n (q := 222) dX12_oneLine_221 rfl rfl ?_
      obtain ⟨c33, hm⟩ := vv_ck_of hm
      obtain ⟨g34, c35, hm⟩ := vv_let_of hm
      refine rr_iast (q := 223) ylR_24 ynR_24 c33 dX12_oneLine_222 rfl ?_
      rw [← c35]
      refine rr_aload_n (q := 224) dX12_oneLine_223 rfl rfl ?_
      obtain ⟨r36, k37, hm⟩ := vv_bind hm
      refine rr_callV (q := 227) (M' := mm_X12_next) (As := []) (st := []) (w := none) (cc_X12_next  k37) rfl ylR_0 ynR_0 rfl vy_X12_next zw_737 ⟨Nat.le_of_ble_eq_true rfl, Nat.le_of_ble_eq_true rfl⟩ (Nat.le_of_ble_eq_true rfl) dX12_oneLine_224 rfl ?_
      show vv_V x vv_TR mm_X12_oneLine post 227 [some (.ref (vv_ad x 0)), none, some (.int w3), some (.int r16.1), none] [] r36
      refine rr_aload_n (q := 228) dX12_oneLine_227 rfl rfl ?_
      refine gf_X12_82 (q := 231) rfl dX12_oneLine_228 rfl ?_
      refine rr_aload_n (q := 232) dX12_oneLine_231 rfl rfl ?_
      refine gf_X12_290 (q := 235) rfl dX12_oneLine_232 rfl ?_
      refine rr_aload_n (q := 236) dX12_oneLine_235 rfl rfl ?_
      refine rr_iload_n (q := 237) dX12_oneLine_236 rfl rfl ?_
      refine rr_iconst (q := 238) (v := 1) dX12_oneLine_237 rfl (by decide) ?_
      refine rr_icmp_ne (q := 241) (tgt := 245) dX12_oneLine_238 (by decide) rfl hm (fun hm => ?_) (fun hm => ?_)
      · refine rr_iconst (q := 246) (v := 0) dX12_oneLine_245 rfl (by decide) ?_
        refine rr_sub [true, false, true, false, false] rfl ?_
        exact vt_X12_oneLine_J246  hm hp
      · refine rr_iconst (q := 242) (v := 1) dX12_oneLine_241 rfl (by decide) ?_
        refine rr_goto (tgt := 246) dX12_oneLine_242 (by decide) ?_
        refine rr_sub [true, false, true, false, false] rfl ?_
        exact vt_X12_oneLine_J246  hm hp
  · obtain rfl := Option.some.inj hm
    exact rr_vret dX12_oneLine_99 rfl hp
set_option maxHeartbeats 200000 in
theorem vt_X12_oneLine_J38 {x : vv_E} {post : Option Value → vv_H → Prop}   {h : vv_H} {o : vv_H}  (hm : ff_X12_oneLine_J38  h = some o) (hp : post none o) : vv_V x vv_TR mm_X12_oneLine post 38 [some (.ref (vv_ad x 0)), none, none, none, none] [] h := by
  unfold ff_X12_oneLine_J38 at hm
  refine rr_iconst (q := 39) (v := 0) dX12_oneLine_38 rfl (by decide) ?_
  refine rr_istore_n (q := 40) [some (.ref (vv_ad x 0)), some (.int (0 : Int32)), none, none, none] dX12_oneLine_39 rfl rfl (Nat.le_of_ble_eq_true rfl) rfl rfl ?_
  refine rr_aload_n (q := 41) dX12_oneLine_40 rfl rfl ?_
  refine gf_X12_254 (q := 44) rfl dX12_oneLine_41 rfl ?_
  refine rr_if_ne (q := 47) (tgt := 92) dX12_oneLine_44 (by decide) rfl hm (fun hm => ?_) (fun hm => ?_)
  · exact vt_X12_oneLine_J92  hm hp
  · refine rr_aload_n (q := 48) dX12_oneLine_47 rfl rfl ?_
    refine rr_bipush (q := 50) (v := 6) dX12_oneLine_48 rfl (by decide) ?_
    obtain ⟨r67, k68, hm⟩ := vv_bind hm
    refine rr_callV (q := 53) (M' := mm_X12_isName) (As := [.int (6 : Int32)]) (st := []) (w := some (.int r67)) (cc_X12_isName  k68) rfl ylR_0 ynR_0 rfl vy_X12_isName zw_857 ⟨Nat.le_of_ble_eq_true rfl, Nat.le_of_ble_eq_true rfl⟩ (Nat.le_of_ble_eq_true rfl) dX12_oneLine_50 rfl ?_
    show vv_V x vv_TR mm_X12_oneLine post 53 [some (.ref (vv_ad x 0)), some (.int (0 : Int32)), none, none, none] [.int r67] h
    refine rr_if_eq (q := 56) (tgt := 92) dX12_oneLine_53 (by decide) rfl hm (fun hm => ?_) (fun hm => ?_)
    · exact vt_X12_oneLine_J92  hm hp
    · refine rr_aload_n (q := 57) dX12_oneLine_56 rfl rfl ?_
      obtain ⟨r69, k70, hm⟩ := vv_bind hm
      refine rr_callV (q := 60) (M' := mm_X12_next) (As := []) (st := []) (w := none) (cc_X12_next  k70) rfl ylR_0 ynR_0 rfl vy_X12_next zw_737 ⟨Nat.le_of_ble_eq_true rfl, Nat.le_of_ble_eq_true rfl⟩ (Nat.le_of_ble_eq_true rfl) dX12_oneLine_57 rfl ?_
      show vv_V x vv_TR mm_X12_oneLine post 60 [some (.ref (vv_ad x 0)), some (.int (0 : Int32)), none, none, none] [] r69
      refine rr_aload_n (q := 61) dX12_oneLine_60 rfl rfl ?_
      refine rr_iconst (q := 62) (v := 0) dX12_oneLine_61 rfl (by decide) ?_
      refine rr_sipush (q := 65) (v := 9999) dX12_oneLine_62 rfl (by decide) ?_
      obtain ⟨r71, k72, hm⟩ := vv_bind hm
      refine rr_callV (q := 68) (M' := mm_X12_number) (As := [.int (0 : Int32), .int (9999 : Int32)]) (st := []) (w := some (.int r71.1)) (cc_X12_number  k72) rfl ylR_0 ynR_0 rfl vy_X12_number zw_742 ⟨Nat.le_of_ble_eq_true rfl, Nat.le_of_ble_eq_true rfl⟩ (Nat.le_of_ble_eq_true rfl) dX12_oneLine_65 rfl ?_
      show vv_V x vv_TR mm_X12_oneLine post 68 [some (.ref (vv_ad x 0)), some (.int (0 : Int32)), none, none, none] [.int r71.1] r71.2
      refine rr_istore_n (q := 69) [some (.ref (vv_ad x 0)), some (.int r71.1), none, none, none] dX12_oneLine_68 rfl rfl (Nat.le_of_ble_eq_true rfl) rfl rfl ?_
      refine rr_aload_n (q := 70) dX12_oneLine_69 rfl rfl ?_
      obtain ⟨r73, k74, hm⟩ := vv_bind hm
      refine rr_callV (q := 73) (M' := mm_X12_next) (As := []) (st := []) (w := none) (cc_X12_next  k74) rfl ylR_0 ynR_0 rfl vy_X12_next zw_737 ⟨Nat.le_of_ble_eq_true rfl, Nat.le_of_ble_eq_true rfl⟩ (Nat.le_of_ble_eq_true rfl) dX12_oneLine_70 rfl ?_
      show vv_V x vv_TR mm_X12_oneLine post 73 [some (.ref (vv_ad x 0)), some (.int r71.1), none, none, none] [] r73
      refine rr_aload_n (q := 74) dX12_oneLine_73 rfl rfl ?_
      refine gf_X12_254 (q := 77) rfl dX12_oneLine_74 rfl ?_
      refine rr_if_ne (q := 80) (tgt := 92) dX12_oneLine_77 (by decide) rfl hm (fun hm => ?_) (fun hm => ?_)
      · exact vt_X12_oneLine_J92  hm hp
      · refine rr_aload_n (q := 81) dX12_oneLine_80 rfl rfl ?_
        obtain ⟨r75, k76, hm⟩ := vv_bind hm
        refine rr_callV (q := 84) (M' := mm_X12_isRule) (As := []) (st := []) (w := some (.int r75)) (cc_X12_isRule  k76) rfl ylR_0 ynR_0 rfl vy_X12_isRule zw_871 ⟨Nat.le_of_ble_eq_true rfl, Nat.le_of_ble_eq_true rfl⟩ (Nat.le_of_ble_eq_true rfl) dX12_oneLine_81 rfl ?_
        show vv_V x vv_TR mm_X12_oneLine post 84 [some (.ref (vv_ad x 0)), some (.int r71.1), none, none, none] [.int r75] r73
        refine rr_if_ne (q := 87) (tgt := 92) dX12_oneLine_84 (by decide) rfl hm (fun hm => ?_) (fun hm => ?_)
        · exact vt_X12_oneLine_J92  hm hp
        · refine rr_aload_n (q := 88) dX12_oneLine_87 rfl rfl ?_
          refine rr_iconst (q := 89) (v := 2) dX12_oneLine_88 rfl (by decide) ?_
          obtain ⟨r77, k78, hm⟩ := vv_bind hm
          refine rr_callV (q := 92) (M' := mm_X12_fails) (As := [.int (2 : Int32)]) (st := []) (w := none) (cc_X12_fails  k78) rfl ylR_0 ynR_0 rfl vy_X12_fails zw_290 ⟨Nat.le_of_ble_eq_true rfl, Nat.le_of_ble_eq_true rfl⟩ (Nat.le_of_ble_eq_true rfl) dX12_oneLine_89 rfl ?_
          show vv_V x vv_TR mm_X12_oneLine post 92 [some (.ref (vv_ad x 0)), some (.int r71.1), none, none, none] [] r77
          exact vt_X12_oneLine_J92  hm hp
set_option maxHeartbeats 200000 in
theorem vt_X12_oneLine_J24 {x : vv_E} {post : Option Value → vv_H → Prop}   {h : vv_H} {o : vv_H}  (hm : ff_X12_oneLine_J24  h = some o) (hp : post none o) : vv_V x vv_TR mm_X12_oneLine post 24 [some (.ref (vv_ad x 0)), none, none, none, none] [] h := by
  unfold ff_X12_oneLine_J24 at hm
  refine rr_aload_n (q := 25) dX12_oneLine_24 rfl rfl ?_
  refine gf_X12_290 (q := 28) rfl dX12_oneLine_25 rfl ?_
  refine rr_bipush (q := 30) (v := 12) dX12_oneLine_28 rfl (by decide) ?_
  refine rr_icmp_ne (q := 33) (tgt := 38) dX12_oneLine_30 (by decide) rfl hm (fun hm => ?_) (fun hm => ?_)
  · exact vt_X12_oneLine_J38  hm hp
  · refine rr_aload_n (q := 34) dX12_oneLine_33 rfl rfl ?_
    refine rr_iconst (q := 35) (v := 4) dX12_oneLine_34 rfl (by decide) ?_
    obtain ⟨r79, k80, hm⟩ := vv_bind hm
    refine rr_callV (q := 38) (M' := mm_X12_fails) (As := [.int (4 : Int32)]) (st := []) (w := none) (cc_X12_fails  k80) rfl ylR_0 ynR_0 rfl vy_X12_fails zw_290 ⟨Nat.le_of_ble_eq_true rfl, Nat.le_of_ble_eq_true rfl⟩ (Nat.le_of_ble_eq_true rfl) dX12_oneLine_35 rfl ?_
    show vv_V x vv_TR mm_X12_oneLine post 38 [some (.ref (vv_ad x 0)), none, none, none, none] [] r79
    exact vt_X12_oneLine_J38  hm hp
set_option maxHeartbeats 200000 in
theorem vt_X12_oneLine {x : vv_E} {post : Option Value → vv_H → Prop} {h : vv_H} {o : vv_H}  (hm : ff_X12_oneLine  h = some o) (hp : post none o) : vv_V x vv_TR mm_X12_oneLine post 0 [some (.ref (vv_ad x 0)), none, none, none, none] [] h := by
  unfold ff_X12_oneLine at hm
  refine rr_aload_n (q := 1) dX12_oneLine_0 rfl rfl ?_
  refine rr_bipush (q := 3) (v := 6) dX12_oneLine_1 rfl (by decide) ?_
  obtain ⟨r1, k2, hm⟩ := vv_bind hm
  refine rr_callV (q := 6) (M' := mm_X12_isName) (As := [.int (6 : Int32)]) (st := []) (w := some (.int r1)) (cc_X12_isName  k2) rfl ylR_0 ynR_0 rfl vy_X12_isName zw_857 ⟨Nat.le_of_ble_eq_true rfl, Nat.le_of_ble_eq_true rfl⟩ (Nat.le_of_ble_eq_true rfl) dX12_oneLine_3 rfl ?_
  show vv_V x vv_TR mm_X12_oneLine post 6 [some (.ref (vv_ad x 0)), none, none, none, none] [.int r1] h
  refine rr_if_ne (q := 9) (tgt := 24) dX12_oneLine_6 (by decide) rfl hm (fun hm => ?_) (fun hm => ?_)
  · exact vt_X12_oneLine_J24  hm hp
  · refine rr_aload_n (q := 10) dX12_oneLine_9 rfl rfl ?_
    obtain ⟨r81, k82, hm⟩ := vv_bind hm
    refine rr_callV (q := 13) (M' := mm_X12_isRule) (As := []) (st := []) (w := some (.int r81)) (cc_X12_isRule  k82) rfl ylR_0 ynR_0 rfl vy_X12_isRule zw_871 ⟨Nat.le_of_ble_eq_true rfl, Nat.le_of_ble_eq_true rfl⟩ (Nat.le_of_ble_eq_true rfl) dX12_oneLine_10 rfl ?_
    show vv_V x vv_TR mm_X12_oneLine post 13 [some (.ref (vv_ad x 0)), none, none, none, none] [.int r81] h
    refine rr_if_ne (q := 16) (tgt := 24) dX12_oneLine_13 (by decide) rfl hm (fun hm => ?_) (fun hm => ?_)
    · exact vt_X12_oneLine_J24  hm hp
    · refine rr_aload_n (q := 17) dX12_oneLine_16 rfl rfl ?_
      refine rr_iconst (q := 18) (v := 2) dX12_oneLine_17 rfl (by decide) ?_
      obtain ⟨r83, k84, hm⟩ := vv_bind hm
      refine rr_callV (q := 21) (M' := mm_X12_fails) (As := [.int (2 : Int32)]) (st := []) (w := none) (cc_X12_fails  k84) rfl ylR_0 ynR_0 rfl vy_X12_fails zw_290 ⟨Nat.le_of_ble_eq_true rfl, Nat.le_of_ble_eq_true rfl⟩ (Nat.le_of_ble_eq_true rfl) dX12_oneLine_18 rfl ?_
      show vv_V x vv_TR mm_X12_oneLine post 21 [some (.ref (vv_ad x 0)), none, none, none, none] [] r83
      refine rr_goto (tgt := 38) dX12_oneLine_21 (by decide) ?_
      exact vt_X12_oneLine_J38  hm hp
theorem cc_X12_oneLine {x : vv_E} {h : vv_H} {o : vv_H}  (hm : ff_X12_oneLine h = some o) : vv_C x vv_TR yX12_oneLine mm_X12_oneLine [.ref (vv_ad x 0)] h (fun v g => v = none ∧ g = o) := vv_entry (by decide +kernel) rfl (Nat.le_of_ble_eq_true rfl) rfl (vt_X12_oneLine  hm ⟨rfl, rfl⟩)
def ff_X12_layParade_B48 (u1 : Int32) (u2 : Int32) (u4 : Int32) (u5 : Int32) (u6 : Int32) (s7 : Int32) (h : vv_H) : Option ((Int32 × vv_H) ⊕ ((vv_H))) := (if (h.1 0 44) ≤ s7 then some (.inr h) else vv_ck u6 12 ((if (h.1 45 u6.toNatClampNeg) = (-4 : Int32) then vv_ck (((36 : Int32) * u6) + s7) 432 ((if (h.1 39 (((36 : Int32) * u6) + s7).toNatClampNeg) = 0 then vv_let (s7 + 1) (fun w10 => some (.inl (w10, h))) else vv_ck s7 36 ((if (h.1 44 s7.toNatClampNeg) = 0 then (ff_X12_isIn h s7 u1 u2).bind (fun r15 => (if r15 = 0 then vv_let (s7 + 1) (fun w17 => some (.inl (w17, h))) else vv_ck s7 36 (vv_let (vv_iu h 44 s7.toNatClampNeg (vp_nar .boolean (1 : Int32))) (fun g20 => (ff_X12_most g20 u5 u1 u2).bind (fun r22 => (if r22.1 = (u4 - (1 : Int32)) then vv_ck u6 12 (vv_let (vv_iu r22.2 45 u6.toNatClampNeg s7) (fun g30 => vv_let (s7 + 1) (fun w32 => some (.inl (w32, g30))))) else vv_ck s7 36 (vv_let (vv_iu r22.2 44 s7.toNatClampNeg (vp_nar .boolean (0 : Int32))) (fun g25 => vv_let (s7 + 1) (fun w27 => some (.inl (w27, g25))))))))))) else vv_let (s7 + 1) (fun w13 => some (.inl (w13, h))))))) else some (.inr h))))
def ff_X12_layParade_B16 (u1 : Int32) (u2 : Int32) (s4 : Int32) (s5 : Int32) (s6 : Int32) (h : vv_H) : Option ((Int32 × Int32 × Int32 × vv_H) ⊕ ((vv_H))) := (if (h.1 0 1) ≤ s6 then some (.inr h) else vv_let (s5 &&& (((1 : Int32) <<< (s6 &&& 31)) ^^^ (-1 : Int32))) (fun w3 => vv_ck s6 12 (vv_let (vv_iu h 45 s6.toNatClampNeg (-4 : Int32)) (fun g6 => (vv_lp (fun (zs : Int32 × vv_H) => ff_X12_layParade_B48  u1 u2 s4 w3 s6 zs.1 zs.2) vv_F ((0 : Int32), g6)).bind (fun (e35 : (vv_H)) => vv_ck s6 12 ((if (e35.1 45 s6.toNatClampNeg) = (-4 : Int32) then vv_let (s6 + 1) (fun w39 => some (.inl ((s4 - (0 : Int32)), w3, w39, e35))) else vv_let (s6 + 1) (fun w37 => some (.inl ((s4 - (1 : Int32)), w3, w37, e35))))))))))
def ff_X12_layParade (h : vv_H) (v1 : Int32) (v2 : Int32) (v3 : Int32) : Option (vv_H) := vv_let (((1 : Int32) <<< ((h.1 0 1) &&& 31)) - (1 : Int32)) (fun w1 => (vv_lp (fun (zs : Int32 × Int32 × Int32 × vv_H) => ff_X12_layParade_B16  v1 v2 zs.1 zs.2.1 zs.2.2.1 zs.2.2.2) vv_F (v3, w1, (0 : Int32), h)).bind (fun (e43 : (vv_H)) => some e43))
set_option maxHeartbeats 200000 in
theorem vt_X12_layParade_B48 {x : vv_E} {post : Option Value → vv_H → Prop} {u1 : Int32} {u2 : Int32} {u4 : Int32} {u5 : Int32} {u6 : Int32} {s7 : Int32} {h : vv_H} {o : (Int32 × vv_H) ⊕ ((vv_H))}  (hm : ff_X12_layParade_B48  u1 u2 u4 u5 u6 s7 h = some o) (hI : ∀ (z7 : Int32) (zh : vv_H), o = .inl (z7, zh) → vv_V x vv_TR mm_X12_layParade post 48 [some (.ref (vv_ad x 0)), some (.int u1), some (.int u2), none, some (.int u4), some (.int u5), some (.int u6), some (.int z7)] [] zh) (hX0 : ∀  (zh : vv_H), o = .inr zh → vv_V x vv_TR mm_X12_layParade post 155 [some (.ref (vv_ad x 0)), some (.int u1), some (.int u2), none, some (.int u4), some (.int u5), some (.int u6), none] [] zh) : vv_V x vv_TR mm_X12_layParade post 48 [some (.ref (vv_ad x 0)), some (.int u1), some (.int u2), none, some (.int u4), some (.int u5), some (.int u6), some (.int s7)] [] h := by
  unfold ff_X12_layParade_B48 at hm
  refine rr_iload (q := 50) dX12_layParade_48 rfl rfl ?_
  refine rr_aload_n (q := 51) dX12_layParade_50 rfl rfl ?_
  refine gf_X12_232 (q := 54) rfl dX12_layParade_51 rfl ?_
  refine rr_icmp_ge (q := 57) (tgt := 155) dX12_layParade_54 (by decide) rfl hm (fun hm => ?_) (fun hm => ?_)
  · obtain rfl := Option.some.inj hm
    refine rr_sub [true, true, true, false, true, true, true, false] rfl ?_
    exact hX0 h rfl
  · refine rr_aload_n (q := 58) dX12_layParade_57 rfl rfl ?_
    refine gf_X12_143 (q := 61) rfl dX12_layParade_58 rfl ?_
    refine rr_iload (q := 63) dX12_layParade_61 rfl rfl ?_
    obtain ⟨c8, hm⟩ := vv_ck_of hm
    refine rr_iald (q := 64) ylR_45 ynR_45 c8 dX12_layParade_63 rfl ?_
    refine rr_bipush (q := 66) (v := -4) dX12_layParade_64 rfl (by decide) ?_
    refine rr_icmp_ne (q := 69) (tgt := 155) dX12_layParade_66 (by decide) rfl hm (fun hm => ?_) (fun hm => ?_)
    · obtain rfl := Option.some.inj hm
      refine rr_sub [true, true, true, false, true, true, true, false] rfl ?_
      exact hX0 h rfl
    · refine rr_aload_n (q := 70) dX12_layParade_69 rfl rfl ?_
      refine gf_X12_124 (q := 73) rfl dX12_layParade_70 rfl ?_
      refine rr_bipush (q := 75) (v := 36) dX12_layParade_73 rfl (by decide) ?_
      refine rr_iload (q := 77) dX12_layParade_75 rfl rfl ?_
      refine rr_imul (q := 78) dX12_layParade_77 rfl ?_
      refine rr_iload (q := 80) dX12_layParade_78 rfl rfl ?_
      refine rr_iadd (q := 81) dX12_layParade_80 rfl ?_
      obtain ⟨c9, hm⟩ := vv_ck_of hm
      refine rr_zald (q := 82) ylR_39 ynR_39 c9 dX12_layParade_81 rfl ?_
      refine rr_if_eq (q := 85) (tgt := 149) dX12_layParade_82 (by decide) rfl hm (fun hm => ?_) (fun hm => ?_)
      · obtain ⟨w10, c11, hm⟩ := vv_let_of hm
        refine rr_iinc (q := 152) [some (.ref (vv_ad x 0)), some (.int u1), some (.int u2), none, some (.int u4), some (.int u5), some (.int u6), some (.int w10)] dX12_layParade_149 rfl rfl c11.symm (Nat.le_of_ble_eq_true rfl) rfl rfl ?_
        refine rr_goto (tgt := 48) dX12_layParade_152 (by decide) ?_
        obtain rfl := Option.some.inj hm
        exact hI w10 h rfl
      · refine rr_aload_n (q := 86) dX12_layParade_85 rfl rfl ?_
        refine gf_X12_140 (q := 89) rfl dX12_layParade_86 rfl ?_
        refine rr_iload (q := 91) dX12_layParade_89 rfl rfl ?_
        obtain ⟨c12, hm⟩ := vv_ck_of hm
        refine rr_zald (q := 92) ylR_44 ynR_44 c12 dX12_layParade_91 rfl ?_
        refine rr_if_ne (q := 95) (tgt := 149) dX12_layParade_92 (by decide) rfl hm (fun hm => ?_) (fun hm => ?_)
        · obtain ⟨w13, c14, hm⟩ := vv_let_of hm
          refine rr_iinc (q := 152) [some (.ref (vv_ad x 0)), some (.int u1), some (.int u2), none, some (.int u4), some (.int u5), some (.int u6), some (.int w13)] dX12_layParade_149 rfl rfl c14.symm (Nat.le_of_ble_eq_true rfl) rfl rfl ?_
          refine rr_goto (tgt := 48) dX12_layParade_152 (by decide) ?_
          obtain rfl := Option.some.inj hm
          exact hI w13 h rfl
        · refine rr_aload_n (q := 96) dX12_layParade_95 rfl rfl ?_
          refine rr_iload (q := 98) dX12_layParade_96 rfl rfl ?_
          refine rr_iload_n (q := 99) dX12_layParade_98 rfl rfl ?_
          refine rr_iload_n (q := 100) dX12_layParade_99 rfl rfl ?_
          obtain ⟨r15, k16, hm⟩ := vv_bind hm
          refine rr_callV (q := 103) (M' := mm_X12_isIn) (As := [.int s7, .int u1, .int u2]) (st := []) (w := some (.int r15)) (cc_X12_isIn  k16) rfl ylR_0 ynR_0 rfl vy_X12_isIn zw_619 ⟨Nat.le_of_ble_eq_true rfl, Nat.le_of_ble_eq_true rfl⟩ (Nat.le_of_ble_eq_true rfl) dX12_layParade_100 rfl ?_
          show vv_V x vv_TR mm_X12_layParade post 103 [some (.ref (vv_ad x 0)), some (.int u1), some (.int u2), none, some (.int u4), some (.int u5), some (.int u6), some (.int s7)] [.int r15] h
          refine rr_if_eq (q := 106) (tgt := 149) dX12_layParade_103 (by decide) rfl hm (fun hm => ?_) (fun hm => ?_)
          · obtain ⟨w17, c18, hm⟩ := vv_let_of hm
            refine rr_iinc (q := 152) [some (.ref (vv_ad x 0)), some (.int u1), some (.int u2), none, some (.int u4), some (.int u5), some (.int u6), some (.int w17)] dX12_layParade_149 rfl rfl c18.symm (Nat.le_of_ble_eq_true rfl) rfl rfl ?_
            refine rr_goto (tgt := 48) dX12_layParade_152 (by decide) ?_
            obtain rfl := Option.some.inj hm
            exact hI w17 h rfl
          · refine rr_aload_n (q := 107) dX12_layParade_106 rfl rfl ?_
            refine gf_X12_140 (q := 110) rfl dX12_layParade_107 rfl ?_
            refine rr_iload (q := 112) dX12_layParade_110 rfl rfl ?_
            refine rr_iconst (q := 113) (v := 1) dX12_layParade_112 rfl (by decide) ?_
            obtain ⟨c19, hm⟩ := vv_ck_of hm
            obtain ⟨g20, c21, hm⟩ := vv_let_of hm
            refine rr_zast (q := 114) ylR_44 ynR_44 c19 dX12_layParade_113 rfl ?_
            rw [← c21]
            refine rr_aload_n (q := 115) dX12_layParade_114 rfl rfl ?_
            refine rr_iload (q := 117) dX12_layParade_115 rfl rfl ?_
            refine rr_iload_n (q := 118) dX12_layParade_117 rfl rfl ?_
            refine rr_iload_n (q := 119) dX12_layParade_118 rfl rfl ?_
            obtain ⟨r22, k23, hm⟩ := vv_bind hm
            refine rr_callV (q := 122) (M' := mm_X12_most) (As := [.int u5, .int u1, .int u2]) (st := []) (w := some (.int r22.1)) (cc_X12_most  k23) rfl ylR_0 ynR_0 rfl vy_X12_most zw_877 ⟨Nat.le_of_ble_eq_true rfl, Nat.le_of_ble_eq_true rfl⟩ (Nat.le_of_ble_eq_true rfl) dX12_layParade_119 rfl ?_
            show vv_V x vv_TR mm_X12_layParade post 122 [some (.ref (vv_ad x 0)), some (.int u1), some (.int u2), none, some (.int u4), some (.int u5), some (.int u6), some (.int s7)] [.int r22.1] r22.2
            refine rr_iload (q := 124) dX12_layParade_122 rfl rfl ?_
            refine rr_iconst (q := 125) (v := 1) dX12_layParade_124 rfl (by decide) ?_
            refine rr_isub (q := 126) dX12_layParade_125 rfl ?_
            refine rr_icmp_ne (q := 129) (tgt := 141) dX12_layParade_126 (by decide) rfl hm (fun hm => ?_) (fun hm => ?_)
            · refine rr_aload_n (q := 142) dX12_layParade_141 rfl rfl ?_
              refine gf_X12_140 (q := 145) rfl dX12_layParade_142 rfl ?_
              refine rr_iload (q := 147) dX12_layParade_145 rfl rfl ?_
              refine rr_iconst (q := 148) (v := 0) dX12_layParade_147 rfl (by decide) ?_
              obtain ⟨c24, hm⟩ := vv_ck_of hm
              obtain ⟨g25, c26, hm⟩ := vv_let_of hm
              refine rr_zast (q := 149) ylR_44 ynR_44 c24 dX12_layParade_148 rfl ?_
              rw [← c26]
              obtain ⟨w27, c28, hm⟩ := vv_let_of hm
              refine rr_iinc (q := 152) [some (.ref (vv_ad x 0)), some (.int u1), some (.int u2), none, some (.int u4), some (.int u5), some (.int u6), some (.int w27)] dX12_layParade_149 rfl rfl c28.symm (Nat.le_of_ble_eq_true rfl) rfl rfl ?_
              refine rr_goto (tgt := 48) dX12_layParade_152 (by decide) ?_
              obtain rfl := Option.some.inj hm
              exact hI w27 g25 rfl
            · refine rr_aload_n (q := 130) dX12_layParade_129 rfl rfl ?_
              refine gf_X12_143 (q := 133) rfl dX12_layParade_130 rfl ?_
              refine rr_iload (q := 135) dX12_layParade_133 rfl rfl ?_
              refine rr_iload (q := 137) dX12_layParade_135 rfl rfl ?_
              obtain ⟨c29, hm⟩ := vv_ck_of hm
              obtain ⟨g30, c31, hm⟩ := vv_let_of hm
              refine rr_iast (q := 138) ylR_45 ynR_45 c29 dX12_layParade_137 rfl ?_
              rw [← c31]
              refine rr_goto (tgt := 149) dX12_layParade_138 (by decide) ?_
              obtain ⟨w32, c33, hm⟩ := vv_let_of hm
              refine rr_iinc (q := 152) [some (.ref (vv_ad x 0)), some (.int u1), some (.int u2), none, some (.int u4), some (.int u5), some (.int u6), some (.int w32)] dX12_layParade_149 rfl rfl c33.symm (Nat.le_of_ble_eq_true rfl) rfl rfl ?_
              refine rr_goto (tgt := 48) dX12_layParade_152 (by decide) ?_
              obtain rfl := Option.some.inj hm
              exact hI w32 g30 rfl
set_option maxHeartbeats 200000 in
theorem vt_X12_layParade_B16 {x : vv_E} {post : Option Value → vv_H → Prop} {u1 : Int32} {u2 : Int32} {s4 : Int32} {s5 : Int32} {s6 : Int32} {h : vv_H} {o : (Int32 × Int32 × Int32 × vv_H) ⊕ ((vv_H))}  (hm : ff_X12_layParade_B16  u1 u2 s4 s5 s6 h = some o) (hI : ∀ (z4 : Int32) (z5 : Int32) (z6 : Int32) (zh : vv_H), o = .inl (z4, z5, z6, zh) → vv_V x vv_TR mm_X12_layParade post 16 [some (.ref (vv_ad x 0)), some (.int u1), some (.int u2), none, some (.int z4), some (.int z5), some (.int z6), none] [] zh) (hX0 : ∀  (zh : vv_H), o = .inr zh → vv_V x vv_TR mm_X12_layParade post 183 [none, none, none, none, none, none, none, none] [] zh) : vv_V x vv_TR mm_X12_layParade post 16 [some (.ref (vv_ad x 0)), some (.int u1), some (.int u2), none, some (.int s4), some (.int s5), some (.int s6), none] [] h := by
  unfold ff_X12_layParade_B16 at hm
  refine rr_iload (q := 18) dX12_layParade_16 rfl rfl ?_
  refine rr_aload_n (q := 19) dX12_layParade_18 rfl rfl ?_
  refine gf_X12_177 (q := 22) rfl dX12_layParade_19 rfl ?_
  refine rr_icmp_ge (q := 25) (tgt := 183) dX12_layParade_22 (by decide) rfl hm (fun hm => ?_) (fun hm => ?_)
  · obtain rfl := Option.some.inj hm
    refine rr_sub [false, false, false, false, false, false, false, false] rfl ?_
    exact hX0 h rfl
  · refine rr_iload (q := 27) dX12_layParade_25 rfl rfl ?_
    refine rr_iconst (q := 28) (v := 1) dX12_layParade_27 rfl (by decide) ?_
    refine rr_iload (q := 30) dX12_layParade_28 rfl rfl ?_
    refine rr_ishl (q := 31) dX12_layParade_30 rfl ?_
    refine rr_iconst (q := 32) (v := -1) dX12_layParade_31 rfl (by decide) ?_
    refine rr_ixor (q := 33) dX12_layParade_32 rfl ?_
    refine rr_iand (q := 34) dX12_layParade_33 rfl ?_
    obtain ⟨w3, c4, hm⟩ := vv_let_of hm
    rw [← c4]
    refine rr_istore (q := 36) [some (.ref (vv_ad x 0)), some (.int u1), some (.int u2), none, some (.int s4), some (.int w3), some (.int s6), none] dX12_layParade_34 rfl (Nat.le_of_ble_eq_true rfl) rfl rfl ?_
    refine rr_aload_n (q := 37) dX12_layParade_36 rfl rfl ?_
    refine gf_X12_143 (q := 40) rfl dX12_layParade_37 rfl ?_
    refine rr_iload (q := 42) dX12_layParade_40 rfl rfl ?_
    refine rr_bipush (q := 44) (v := -4) dX12_layParade_42 rfl (by decide) ?_
    obtain ⟨c5, hm⟩ := vv_ck_of hm
    obtain ⟨g6, c7, hm⟩ := vv_let_of hm
    refine rr_iast (q := 45) ylR_45 ynR_45 c5 dX12_layParade_44 rfl ?_
    rw [← c7]
    refine rr_iconst (q := 46) (v := 0) dX12_layParade_45 rfl (by decide) ?_
    refine rr_istore (q := 48) [some (.ref (vv_ad x 0)), some (.int u1), some (.int u2), none, some (.int s4), some (.int w3), some (.int s6), some (.int (0 : Int32))] dX12_layParade_46 rfl (Nat.le_of_ble_eq_true rfl) rfl rfl ?_
    obtain ⟨r34, k41, hm⟩ := vv_bind hm
    refine vv_lp_link (P := fun (zs : Int32 × vv_H) => vv_V x vv_TR mm_X12_layParade post 48 [some (.ref (vv_ad x 0)), some (.int u1), some (.int u2), none, some (.int s4), some (.int w3), some (.int s6), some (.int zs.1)] [] zs.2) (Q := (fun (e35 : (vv_H)) => vv_V x vv_TR mm_X12_layParade post 155 [some (.ref (vv_ad x 0)), some (.int u1), some (.int u2), none, some (.int s4), some (.int w3), some (.int s6), none] [] e35)) (fun zs o hm hI hX => ?_) vv_F ((0 : Int32), g6) r34 k41 ?_
    · exact vt_X12_layParade_B48   hm (fun z7 zh e => hI (z7, zh) e) (fun zh e => hX zh e)
    · generalize r34 = e35 at hm ⊢
      try dsimp only [Sum.elim_inl, Sum.elim_inr] at hm
      try dsimp only [Sum.elim_inl, Sum.elim_inr]
      refine rr_iload (q := 157) dX12_layParade_155 rfl rfl ?_
      refine rr_aload_n (q := 158) dX12_layParade_157 rfl rfl ?_
      refine gf_X12_143 (q := 161) rfl dX12_layParade_158 rfl ?_
      refine rr_iload (q := 163) dX12_layParade_161 rfl rfl ?_
      obtain ⟨c36, hm⟩ := vv_ck_of hm
      refine rr_iald (q := 164) ylR_45 ynR_45 c36 dX12_layParade_163 rfl ?_
      refine rr_bipush (q := 166) (v := -4) dX12_layParade_164 rfl (by decide) ?_
      refine rr_icmp_ne (q := 169) (tgt := 173) dX12_layParade_166 (by decide) rfl hm (fun hm => ?_) (fun hm => ?_)
      · refine rr_iconst (q := 174) (v := 1) dX12_layParade_173 rfl (by decide) ?_
        refine rr_isub (q := 175) dX12_layParade_174 rfl ?_
        refine rr_istore (q := 177) [some (.ref (vv_ad x 0)), some (.int u1), some (.int u2), none, some (.int (s4 - (1 : Int32))), some (.int w3), some (.int s6), none] dX12_layParade_175 rfl (Nat.le_of_ble_eq_true rfl) rfl rfl ?_
        obtain ⟨w37, c38, hm⟩ := vv_let_of hm
        refine rr_iinc (q := 180) [some (.ref (vv_ad x 0)), some (.int u1), some (.int u2), none, some (.int (s4 - (1 : Int32))), some (.int w3), some (.int w37), none] dX12_layParade_177 rfl rfl c38.symm (Nat.le_of_ble_eq_true rfl) rfl rfl ?_
        refine rr_goto (tgt := 16) dX12_layParade_180 (by decide) ?_
        obtain rfl := Option.some.inj hm
        exact hI (s4 - (1 : Int32)) w3 w37 e35 rfl
      · refine rr_iconst (q := 170) (v := 0) dX12_layParade_169 rfl (by decide) ?_
        refine rr_goto (tgt := 174) dX12_layParade_170 (by decide) ?_
        refine rr_isub (q := 175) dX12_layParade_174 rfl ?_
        refine rr_istore (q := 177) [some (.ref (vv_ad x 0)), some (.int u1), some (.int u2), none, some (.int (s4 - (0 : Int32))), some (.int w3), some (.int s6), none] dX12_layParade_175 rfl (Nat.le_of_ble_eq_true rfl) rfl rfl ?_
        obtain ⟨w39, c40, hm⟩ := vv_let_of hm
        refine rr_iinc (q := 180) [some (.ref (vv_ad x 0)), some (.int u1), some (.int u2), none, some (.int (s4 - (0 : Int32))), some (.int w3), some (.int w39), none] dX12_layParade_177 rfl rfl c40.symm (Nat.le_of_ble_eq_true rfl) rfl rfl ?_
        refine rr_goto (tgt := 16) dX12_layParade_180 (by decide) ?_
        obtain rfl := Option.some.inj hm
        exact hI (s4 - (0 : Int32)) w3 w39 e35 rfl
set_option maxHeartbeats 200000 in
theorem vt_X12_layParade {x : vv_E} {post : Option Value → vv_H → Prop} {h : vv_H} {v1 : Int32} {v2 : Int32} {v3 : Int32} {o : vv_H}  (hm : ff_X12_layParade  h v1 v2 v3 = some o) (hp : post none o) : vv_V x vv_TR mm_X12_layParade post 0 [some (.ref (vv_ad x 0)), some (.int v1), some (.int v2), some (.int v3), none, none, none, none] [] h := by
  unfold ff_X12_layParade at hm
  refine rr_iload_n (q := 1) dX12_layParade_0 rfl rfl ?_
  refine rr_istore (q := 3) [some (.ref (vv_ad x 0)), some (.int v1), some (.int v2), some (.int v3), some (.int v3), none, none, none] dX12_layParade_1 rfl (Nat.le_of_ble_eq_true rfl) rfl rfl ?_
  refine rr_iconst (q := 4) (v := 1) dX12_layParade_3 rfl (by decide) ?_
  refine rr_aload_n (q := 5) dX12_layParade_4 rfl rfl ?_
  refine gf_X12_177 (q := 8) rfl dX12_layParade_5 rfl ?_
  refine rr_ishl (q := 9) dX12_layParade_8 rfl ?_
  refine rr_iconst (q := 10) (v := 1) dX12_layParade_9 rfl (by decide) ?_
  refine rr_isub (q := 11) dX12_layParade_10 rfl ?_
  obtain ⟨w1, c2, hm⟩ := vv_let_of hm
  rw [← c2]
  refine rr_istore (q := 13) [some (.ref (vv_ad x 0)), some (.int v1), some (.int v2), some (.int v3), some (.int v3), some (.int w1), none, none] dX12_layParade_11 rfl (Nat.le_of_ble_eq_true rfl) rfl rfl ?_
  refine rr_iconst (q := 14) (v := 0) dX12_layParade_13 rfl (by decide) ?_
  refine rr_istore (q := 16) [some (.ref (vv_ad x 0)), some (.int v1), some (.int v2), some (.int v3), some (.int v3), some (.int w1), some (.int (0 : Int32)), none] dX12_layParade_14 rfl (Nat.le_of_ble_eq_true rfl) rfl rfl ?_
  refine rr_sub [true, true, true, false, true, true, true, false] rfl ?_
  obtain ⟨r42, k44, hm⟩ := vv_bind hm
  refine vv_lp_link (P := fun (zs : Int32 × Int32 × Int32 × vv_H) => vv_V x vv_TR mm_X12_layParade post 16 [some (.ref (vv_ad x 0)), some (.int v1), some (.int v2), none, some (.int zs.1), some (.int zs.2.1), some (.int zs.2.2.1), none] [] zs.2.2.2) (Q := (fun (e43 : (vv_H)) => vv_V x vv_TR mm_X12_layParade post 183 [none, none, none, none, none, none, none, none] [] e43)) (fun zs o hm hI hX => ?_) vv_F (v3, w1, (0 : Int32), h) r42 k44 ?_
  · exact vt_X12_layParade_B16   hm (fun z4 z5 z6 zh e => hI (z4, z5, z6, zh) e) (fun zh e => hX zh e)
  · generalize r42 = e43 at hm ⊢
    try dsimp only [Sum.elim_inl, Sum.elim_inr] at hm
    try dsimp only [Sum.elim_inl, Sum.elim_inr]
    obtain rfl := Option.some.inj hm
    exact rr_vret dX12_layParade_183 rfl hp
theorem cc_X12_layParade {x : vv_E} {h : vv_H} {v1 : Int32} {v2 : Int32} {v3 : Int32} {o : vv_H}  (hm : ff_X12_layParade h v1 v2 v3 = some o) : vv_C x vv_TR yX12_layParade mm_X12_layParade [.ref (vv_ad x 0), .int v1, .int v2, .int v3] h (fun v g => v = none ∧ g = o) := vv_entry (by decide +kernel) rfl (Nat.le_of_ble_eq_true rfl) rfl (vt_X12_layParade  hm ⟨rfl, rfl⟩)
def ff_X5_read_B17 (b2 : Bool) (s3 : Int32) (h : vv_H) : Option ((Int32 × vv_H) ⊕ ((vv_H) ⊕ (vv_H))) := (if (12 : Int32) < s3 then some (.inr (.inl h)) else (ff_X10_tokenAt h (h.1 55 2)).bind (fun r7 => (if r7 = 0 then some (.inr (.inl h)) else (ff_X5_readLine h b2).bind (fun r9 => (if r9.1 = 0 then some (.inr (.inr r9.2)) else vv_let (s3 + 1) (fun w11 => some (.inl (w11, r9.2))))))))
def ff_X5_read (h : vv_H) (b2 : Bool) : Option (Int32 × vv_H) := vv_let (vv_iu h 55 1 (0 : Int32)) (fun g1 => vv_let (vv_iu g1 55 0 (0 : Int32)) (fun g3 => vv_let (vv_iu g3 55 2 (0 : Int32)) (fun g5 => (vv_lp (fun (zs : Int32 × vv_H) => ff_X5_read_B17  b2 zs.1 zs.2) vv_F ((0 : Int32), g5)).bind (Sum.elim (fun (e14 : (vv_H)) => some ((0 : Int32), e14)) (fun (e15 : (vv_H)) => some ((e15.1 55 1), e15))))))
set_option maxHeartbeats 200000 in
theorem vt_X5_read_B17 {x : vv_E} {post : Option Value → vv_H → Prop} {b2 : Bool} {s3 : Int32} {h : vv_H} {o : (Int32 × vv_H) ⊕ ((vv_H) ⊕ (vv_H))}  (hm : ff_X5_read_B17  b2 s3 h = some o) (hI : ∀ (z3 : Int32) (zh : vv_H), o = .inl (z3, zh) → vv_V x vv_TC mm_X5_read post 17 [some (.ref (vv_ad x 55)), some (.ref (vv_ad x 50)), some (.ref (vv_ad x (vv_rid b2))), some (.int z3)] [] zh) (hX0 : ∀  (zh : vv_H), o = .inr (.inl zh) → vv_V x vv_TC mm_X5_read post 54 [none, none, none, none] [] zh) (hX1 : ∀  (zh : vv_H), o = .inr (.inr zh) → vv_V x vv_TC mm_X5_read post 43 [some (.ref (vv_ad x 55)), none, none, none] [] zh) : vv_V x vv_TC mm_X5_read post 17 [some (.ref (vv_ad x 55)), some (.ref (vv_ad x 50)), some (.ref (vv_ad x (vv_rid b2))), some (.int s3)] [] h := by
  unfold ff_X5_read_B17 at hm
  refine rr_iload_n (q := 18) dX5_read_17 rfl rfl ?_
  refine rr_bipush (q := 20) (v := 12) dX5_read_18 rfl (by decide) ?_
  refine rr_icmp_gt (q := 23) (tgt := 54) dX5_read_20 (by decide) rfl hm (fun hm => ?_) (fun hm => ?_)
  · obtain rfl := Option.some.inj hm
    refine rr_sub [false, false, false, false] rfl ?_
    exact hX0 h rfl
  · refine rr_aload_n (q := 24) dX5_read_23 rfl rfl ?_
    refine rr_aload_n (q := 25) dX5_read_24 rfl rfl ?_
    refine gf_X5_18 (q := 28) rfl dX5_read_25 rfl ?_
    obtain ⟨r7, k8, hm⟩ := vv_bind hm
    refine rr_callV (q := 31) (M' := mm_X10_tokenAt) (As := [.int (h.1 55 2)]) (st := []) (w := some (.int r7)) (cc_X10_tokenAt  k8) rfl ylC_50 ynC_50 rfl vy_X10_tokenAt zw_178 ⟨Nat.le_of_ble_eq_true rfl, Nat.le_of_ble_eq_true rfl⟩ (Nat.le_of_ble_eq_true rfl) dX5_read_28 rfl ?_
    show vv_V x vv_TC mm_X5_read post 31 [some (.ref (vv_ad x 55)), some (.ref (vv_ad x 50)), some (.ref (vv_ad x (vv_rid b2))), some (.int s3)] [.int r7] h
    refine rr_if_eq (q := 34) (tgt := 54) dX5_read_31 (by decide) rfl hm (fun hm => ?_) (fun hm => ?_)
    · obtain rfl := Option.some.inj hm
      refine rr_sub [false, false, false, false] rfl ?_
      exact hX0 h rfl
    · refine rr_aload_n (q := 35) dX5_read_34 rfl rfl ?_
      refine rr_aload_n (q := 36) dX5_read_35 rfl rfl ?_
      refine rr_aload_n (q := 37) dX5_read_36 rfl rfl ?_
      obtain ⟨r9, k10, hm⟩ := vv_bind hm
      refine rr_callV (q := 40) (M' := mm_X5_readLine) (As := [.ref (vv_ad x 50), .ref (vv_ad x (vv_rid b2))]) (st := []) (w := some (.int r9.1)) (cc_X5_readLine  k10) rfl ylC_55 ynC_55 rfl vy_X5_readLine zw_882 ⟨Nat.le_of_ble_eq_true rfl, Nat.le_of_ble_eq_true rfl⟩ (Nat.le_of_ble_eq_true rfl) dX5_read_37 rfl ?_
      show vv_V x vv_TC mm_X5_read post 40 [some (.ref (vv_ad x 55)), some (.ref (vv_ad x 50)), some (.ref (vv_ad x (vv_rid b2))), some (.int s3)] [.int r9.1] r9.2
      refine rr_if_ne (q := 43) (tgt := 48) dX5_read_40 (by decide) rfl hm (fun hm => ?_) (fun hm => ?_)
      · obtain ⟨w11, c12, hm⟩ := vv_let_of hm
        refine rr_iinc (q := 51) [some (.ref (vv_ad x 55)), some (.ref (vv_ad x 50)), some (.ref (vv_ad x (vv_rid b2))), some (.int w11)] dX5_read_48 rfl rfl c12.symm (Nat.le_of_ble_eq_true rfl) rfl rfl ?_
        refine rr_goto (tgt := 17) dX5_read_51 (by decide) ?_
        obtain rfl := Option.some.inj hm
        exact hI w11 r9.2 rfl
      · obtain rfl := Option.some.inj hm
        refine rr_sub [true, false, false, false] rfl ?_
        exact hX1 r9.2 rfl
set_option maxHeartbeats 200000 in
theorem vt_X5_read {x : vv_E} {post : Option Value → vv_H → Prop} {h : vv_H} {b2 : Bool} {o : Int32 × vv_H}  (hm : ff_X5_read  h b2 = some o) (hp : post (some (.int o.1)) o.2) : vv_V x vv_TC mm_X5_read post 0 [some (.ref (vv_ad x 55)), some (.ref (vv_ad x 50)), some (.ref (vv_ad x (vv_rid b2))), none] [] h := by
  unfold ff_X5_read at hm
  refine rr_aload_n (q := 1) dX5_read_0 rfl rfl ?_
  refine rr_iconst (q := 2) (v := 0) dX5_read_1 rfl (by decide) ?_
  refine pf_X5_9 (q := 5) rfl dX5_read_2 rfl (fun g1 c2 => ?_)
  replace hm := vv_letE hm c2
  refine rr_aload_n (q := 6) dX5_read_5 rfl rfl ?_
  refine rr_iconst (q := 7) (v := 0) dX5_read_6 rfl (by decide) ?_
  refine pf_X5_15 (q := 10) rfl dX5_read_7 rfl (fun g3 c4 => ?_)
  replace hm := vv_letE hm c4
  refine rr_aload_n (q := 11) dX5_read_10 rfl rfl ?_
  refine rr_iconst (q := 12) (v := 0) dX5_read_11 rfl (by decide) ?_
  refine pf_X5_18 (q := 15) rfl dX5_read_12 rfl (fun g5 c6 => ?_)
  replace hm := vv_letE hm c6
  refine rr_iconst (q := 16) (v := 0) dX5_read_15 rfl (by decide) ?_
  refine rr_istore_n (q := 17) [some (.ref (vv_ad x 55)), some (.ref (vv_ad x 50)), some (.ref (vv_ad x (vv_rid b2))), some (.int (0 : Int32))] dX5_read_16 rfl rfl (Nat.le_of_ble_eq_true rfl) rfl rfl ?_
  obtain ⟨r13, k16, hm⟩ := vv_bind hm
  refine vv_lp_link (P := fun (zs : Int32 × vv_H) => vv_V x vv_TC mm_X5_read post 17 [some (.ref (vv_ad x 55)), some (.ref (vv_ad x 50)), some (.ref (vv_ad x (vv_rid b2))), some (.int zs.1)] [] zs.2) (Q := (Sum.elim (fun (e14 : (vv_H)) => vv_V x vv_TC mm_X5_read post 54 [none, none, none, none] [] e14) (fun (e15 : (vv_H)) => vv_V x vv_TC mm_X5_read post 43 [some (.ref (vv_ad x 55)), none, none, none] [] e15))) (fun zs o hm hI hX => ?_) vv_F ((0 : Int32), g5) r13 k16 ?_
  · exact vt_X5_read_B17   hm (fun z3 zh e => hI (z3, zh) e) (fun zh e => hX (.inl zh) e) (fun zh e => hX (.inr zh) e)
  · rcases r13 with e14 | qe14
    · try dsimp only [Sum.elim_inl, Sum.elim_inr] at hm
      try dsimp only [Sum.elim_inl, Sum.elim_inr]
      refine rr_iconst (q := 55) (v := 0) dX5_read_54 rfl (by decide) ?_
      obtain rfl := Option.some.inj hm
      exact rr_iret dX5_read_55 rfl hp
    · generalize qe14 = e15 at hm ⊢
      try dsimp only [Sum.elim_inl, Sum.elim_inr] at hm
      try dsimp only [Sum.elim_inl, Sum.elim_inr]
      refine rr_aload_n (q := 44) dX5_read_43 rfl rfl ?_
      refine gf_X5_9 (q := 47) rfl dX5_read_44 rfl ?_
      obtain rfl := Option.some.inj hm
      exact rr_iret dX5_read_47 rfl hp
theorem cc_X5_read {x : vv_E} {h : vv_H} {b2 : Bool} {o : Int32 × vv_H}  (hm : ff_X5_read h b2 = some o) : vv_C x vv_TC yX5_read mm_X5_read [.ref (vv_ad x 55), .ref (vv_ad x 50), .ref (vv_ad x (vv_rid b2))] h (fun v g => v = some (.int o.1) ∧ g = o.2) := vv_entry (by decide +kernel) rfl (Nat.le_of_ble_eq_true rfl) rfl (vt_X5_read  hm ⟨rfl, rfl⟩)
def ff_X10_spells_B15 (v1 : Nat) (u2 : Int32) (h : vv_H) (s4 : Int32) : Option ((Int32) ⊕ ((Unit) ⊕ (Unit))) := (if (Int32.ofNat (vv_slen.getD v1 0)) ≤ s4 then some (.inr (.inl ())) else vv_ck (u2 + s4) 240 (vv_ck s4 (vv_slen.getD v1 0) ((if (h.1 51 (u2 + s4).toNatClampNeg) = (vv_sch v1 s4.toNatClampNeg) then vv_let (s4 + 1) (fun w3 => some (.inl w3)) else some (.inr (.inr ()))))))
def ff_X10_spells (h : vv_H) (v1 : Nat) (v2 : Int32) (v3 : Int32) : Option (Int32) := (if (Int32.ofNat (vv_slen.getD v1 0)) = (v3 - v2) then (vv_lp (fun (zs : Int32) => ff_X10_spells_B15  v1 v2 h zs) vv_F (0 : Int32)).bind (Sum.elim (fun (e6 : (Unit)) => some (1 : Int32)) (fun (e7 : (Unit)) => some (0 : Int32))) else some (0 : Int32))
set_option maxHeartbeats 200000 in
theorem vt_X10_spells_B15 {x : vv_E} {post : Option Value → vv_H → Prop} {v1 : Nat} {u2 : Int32} {h : vv_H} {s4 : Int32} {o : (Int32) ⊕ ((Unit) ⊕ (Unit))} (hs1 : v1 < 9) (hm : ff_X10_spells_B15  v1 u2 h s4 = some o) (hI : ∀ (z4 : Int32) , o = .inl z4 → vv_V x vv_TC mm_X10_spells post 15 [some (.ref (vv_ad x 50)), some (.ref (vv_sa x v1)), some (.int u2), none, some (.int z4)] [] h) (hX0 : o = .inr (.inl ()) → vv_V x vv_TC mm_X10_spells post 50 [none, none, none, none, none] [] h) (hX1 : o = .inr (.inr ()) → vv_V x vv_TC mm_X10_spells post 42 [none, none, none, none, none] [] h) : vv_V x vv_TC mm_X10_spells post 15 [some (.ref (vv_ad x 50)), some (.ref (vv_sa x v1)), some (.int u2), none, some (.int s4)] [] h := by
  unfold ff_X10_spells_B15 at hm
  refine rr_iload (q := 17) dX10_spells_15 rfl rfl ?_
  refine rr_aload_n (q := 18) dX10_spells_17 rfl rfl ?_
  refine rr_slen (q := 21) hs1 rfl dX10_spells_18 rfl ?_
  refine rr_icmp_ge (q := 24) (tgt := 50) dX10_spells_21 (by decide) rfl hm (fun hm => ?_) (fun hm => ?_)
  · obtain rfl := Option.some.inj hm
    refine rr_sub [false, false, false, false, false] rfl ?_
    exact hX0  rfl
  · refine rr_aload_n (q := 25) dX10_spells_24 rfl rfl ?_
    refine gf_X10_9 (q := 28) rfl dX10_spells_25 rfl ?_
    refine rr_iload_n (q := 29) dX10_spells_28 rfl rfl ?_
    refine rr_iload (q := 31) dX10_spells_29 rfl rfl ?_
    refine rr_iadd (q := 32) dX10_spells_31 rfl ?_
    obtain ⟨c1, hm⟩ := vv_ck_of hm
    refine rr_bald (q := 33) ylC_51 ynC_51 c1 dX10_spells_32 rfl ?_
    refine rr_aload_n (q := 34) dX10_spells_33 rfl rfl ?_
    refine rr_iload (q := 36) dX10_spells_34 rfl rfl ?_
    obtain ⟨c2, hm⟩ := vv_ck_of hm
    refine rr_sch (q := 39) hs1 c2 rfl dX10_spells_36 rfl ?_
    refine rr_icmp_eq (q := 42) (tgt := 44) dX10_spells_39 (by decide) rfl hm (fun hm => ?_) (fun hm => ?_)
    · obtain ⟨w3, c4, hm⟩ := vv_let_of hm
      refine rr_iinc (q := 47) [some (.ref (vv_ad x 50)), some (.ref (vv_sa x v1)), some (.int u2), none, some (.int w3)] dX10_spells_44 rfl rfl c4.symm (Nat.le_of_ble_eq_true rfl) rfl rfl ?_
      refine rr_goto (tgt := 15) dX10_spells_47 (by decide) ?_
      obtain rfl := Option.some.inj hm
      exact hI w3 rfl
    · obtain rfl := Option.some.inj hm
      refine rr_sub [false, false, false, false, false] rfl ?_
      exact hX1  rfl
set_option maxHeartbeats 200000 in
theorem vt_X10_spells {x : vv_E} {post : Option Value → vv_H → Prop} {h : vv_H} {v1 : Nat} {v2 : Int32} {v3 : Int32} {o : Int32} (hs1 : v1 < 9) (hm : ff_X10_spells  h v1 v2 v3 = some o) (hp : post (some (.int o)) h) : vv_V x vv_TC mm_X10_spells post 0 [some (.ref (vv_ad x 50)), some (.ref (vv_sa x v1)), some (.int v2), some (.int v3), none] [] h := by
  unfold ff_X10_spells at hm
  refine rr_aload_n (q := 1) dX10_spells_0 rfl rfl ?_
  refine rr_slen (q := 4) hs1 rfl dX10_spells_1 rfl ?_
  refine rr_iload_n (q := 5) dX10_spells_4 rfl rfl ?_
  refine rr_iload_n (q := 6) dX10_spells_5 rfl rfl ?_
  refine rr_isub (q := 7) dX10_spells_6 rfl ?_
  refine rr_icmp_eq (q := 10) (tgt := 12) dX10_spells_7 (by decide) rfl hm (fun hm => ?_) (fun hm => ?_)
  · refine rr_iconst (q := 13) (v := 0) dX10_spells_12 rfl (by decide) ?_
    refine rr_istore (q := 15) [some (.ref (vv_ad x 50)), some (.ref (vv_sa x v1)), some (.int v2), some (.int v3), some (.int (0 : Int32))] dX10_spells_13 rfl (Nat.le_of_ble_eq_true rfl) rfl rfl ?_
    refine rr_sub [true, true, true, false, true] rfl ?_
    obtain ⟨r5, k8, hm⟩ := vv_bind hm
    refine vv_lp_link (P := fun (zs : Int32) => vv_V x vv_TC mm_X10_spells post 15 [some (.ref (vv_ad x 50)), some (.ref (vv_sa x v1)), some (.int v2), none, some (.int zs)] [] h) (Q := (Sum.elim (fun (e6 : (Unit)) => vv_V x vv_TC mm_X10_spells post 50 [none, none, none, none, none] [] h) (fun (e7 : (Unit)) => vv_V x vv_TC mm_X10_spells post 42 [none, none, none, none, none] [] h))) (fun zs o hm hI hX => ?_) vv_F (0 : Int32) r5 k8 ?_
    · exact vt_X10_spells_B15 hs1  hm (fun z4 e => hI z4 e) (hX (.inl ())) (hX (.inr ()))
    · rcases r5 with e6 | qe6
      · try dsimp only [Sum.elim_inl, Sum.elim_inr] at hm
        try dsimp only [Sum.elim_inl, Sum.elim_inr]
        refine rr_iconst (q := 51) (v := 1) dX10_spells_50 rfl (by decide) ?_
        obtain rfl := Option.some.inj hm
        exact rr_zret dX10_spells_51 rfl rfl hp
      · generalize qe6 = e7 at hm ⊢
        try dsimp only [Sum.elim_inl, Sum.elim_inr] at hm
        try dsimp only [Sum.elim_inl, Sum.elim_inr]
        refine rr_iconst (q := 43) (v := 0) dX10_spells_42 rfl (by decide) ?_
        obtain rfl := Option.some.inj hm
        exact rr_zret dX10_spells_43 rfl rfl hp
  · refine rr_iconst (q := 11) (v := 0) dX10_spells_10 rfl (by decide) ?_
    obtain rfl := Option.some.inj hm
    exact rr_zret dX10_spells_11 rfl rfl hp
theorem cc_X10_spells {x : vv_E} {h : vv_H} {v1 : Nat} {v2 : Int32} {v3 : Int32} {o : Int32} (hs1 : v1 < 9) (hm : ff_X10_spells h v1 v2 v3 = some o) : vv_C x vv_TC yX10_spells mm_X10_spells [.ref (vv_ad x 50), .ref (vv_sa x v1), .int v2, .int v3] h (fun v g => v = some (.int o) ∧ g = h) := vv_entry (by decide +kernel) rfl (Nat.le_of_ble_eq_true rfl) rfl (vt_X10_spells hs1 hm ⟨rfl, rfl⟩)
def ff_X11_parade_J34  (u1 : Int32) (u2 : Int32) (u3 : Int32) (z0 : Int32) (h : vv_H) : Option (Int32 × vv_H) := (ff_X11_isKind u1).bind (fun r3 => (if r3 = 0 then some ((-1 : Int32), h) else (ff_X11_isWithin u2 (0 : Int32) (99 : Int32)).bind (fun r5 => (if r5 = 0 then some ((-1 : Int32), h) else (if z0 = 0 then some ((-1 : Int32), h) else (ff_X11_layOut h u1).bind (fun r7 => (ff_X3_findShade r7 u2).bind (fun r9 => (if u3 = 0 then some ((r9.1 170 0), r9) else (if u3 = (1 : Int32) then (if (r9.1 170 0) = 0 then some ((-4 : Int32), r9) else some ((r9.1 170 1), r9)) else (ff_X3_pieceFor r9 (u3 - (10 : Int32))).bind (fun r11 => some (r11.1, r11.2)))))))))))
def ff_X11_parade_J29  (u1 : Int32) (u2 : Int32) (u3 : Int32) (h : vv_H) : Option (Int32 × vv_H) := ff_X11_parade_J34  u1 u2 u3 (1 : Int32) h
def ff_X11_parade_J33  (u1 : Int32) (u2 : Int32) (u3 : Int32) (h : vv_H) : Option (Int32 × vv_H) := ff_X11_parade_J34  u1 u2 u3 (0 : Int32) h
def ff_X11_parade (h : vv_H) (v1 : Int32) (v2 : Int32) (v3 : Int32) : Option (Int32 × vv_H) := (ff_X11_isWithin v3 (0 : Int32) (1 : Int32)).bind (fun r1 => (if r1 = 0 then (if v3 < (10 : Int32) then ff_X11_parade_J33  v1 v2 v3 h else (ff_X0_has h (v3 - (10 : Int32))).bind (fun r13 => (if r13 = 0 then ff_X11_parade_J33  v1 v2 v3 h else ff_X11_parade_J29  v1 v2 v3 h))) else ff_X11_parade_J29  v1 v2 v3 h))
set_option maxHeartbeats 200000 in
theorem vt_X11_parade_J34 {x : vv_E} {post : Option Value → vv_H → Prop}   {u1 : Int32} {u2 : Int32} {u3 : Int32} {z0 : Int32} {h : vv_H} {o : Int32 × vv_H}  (hm : ff_X11_parade_J34  u1 u2 u3 z0 h = some o) (hp : post (some (.int o.1)) o.2) : vv_V x vv_TC mm_X11_parade post 34 [some (.ref (vv_ad x 0)), some (.int u1), some (.int u2), some (.int u3), none] [.int z0] h := by
  unfold ff_X11_parade_J34 at hm
  refine rr_istore (q := 36) [some (.ref (vv_ad x 0)), some (.int u1), some (.int u2), some (.int u3), some (.int z0)] dX11_parade_34 rfl (Nat.le_of_ble_eq_true rfl) rfl rfl ?_
  refine rr_iload_n (q := 37) dX11_parade_36 rfl rfl ?_
  obtain ⟨r3, k4, hm⟩ := vv_bind hm
  refine rr_callS (q := 40) (M' := mm_X11_isKind) (As := [.int u1]) (st := []) (w := some (.int r3))  (cc_X11_isKind  k4) rfl vy_X11_isKind zw_408 ⟨Nat.le_of_ble_eq_true rfl, Nat.le_of_ble_eq_true rfl⟩ (Nat.le_of_ble_eq_true rfl) dX11_parade_37 rfl ?_
  show vv_V x vv_TC mm_X11_parade post 40 [some (.ref (vv_ad x 0)), some (.int u1), some (.int u2), some (.int u3), some (.int z0)] [.int r3] h
  refine rr_if_eq (q := 43) (tgt := 58) dX11_parade_40 (by decide) rfl hm (fun hm => ?_) (fun hm => ?_)
  · refine rr_iconst (q := 59) (v := -1) dX11_parade_58 rfl (by decide) ?_
    obtain rfl := Option.some.inj hm
    exact rr_iret dX11_parade_59 rfl hp
  · refine rr_iload_n (q := 44) dX11_parade_43 rfl rfl ?_
    refine rr_iconst (q := 45) (v := 0) dX11_parade_44 rfl (by decide) ?_
    refine rr_bipush (q := 47) (v := 99) dX11_parade_45 rfl (by decide) ?_
    obtain ⟨r5, k6, hm⟩ := vv_bind hm
    refine rr_callS (q := 50) (M' := mm_X11_isWithin) (As := [.int u2, .int (0 : Int32), .int (99 : Int32)]) (st := []) (w := some (.int r5))  (cc_X11_isWithin  k6) rfl vy_X11_isWithin zw_219 ⟨Nat.le_of_ble_eq_true rfl, Nat.le_of_ble_eq_true rfl⟩ (Nat.le_of_ble_eq_true rfl) dX11_parade_47 rfl ?_
    show vv_V x vv_TC mm_X11_parade post 50 [some (.ref (vv_ad x 0)), some (.int u1), some (.int u2), some (.int u3), some (.int z0)] [.int r5] h
    refine rr_if_eq (q := 53) (tgt := 58) dX11_parade_50 (by decide) rfl hm (fun hm => ?_) (fun hm => ?_)
    · refine rr_iconst (q := 59) (v := -1) dX11_parade_58 rfl (by decide) ?_
      obtain rfl := Option.some.inj hm
      exact rr_iret dX11_parade_59 rfl hp
    · refine rr_iload (q := 55) dX11_parade_53 rfl rfl ?_
      refine rr_if_ne (q := 58) (tgt := 60) dX11_parade_55 (by decide) rfl hm (fun hm => ?_) (fun hm => ?_)
      · refine rr_aload_n (q := 61) dX11_parade_60 rfl rfl ?_
        refine rr_iload_n (q := 62) dX11_parade_61 rfl rfl ?_
        obtain ⟨r7, k8, hm⟩ := vv_bind hm
        refine rr_callV (q := 65) (M' := mm_X11_layOut) (As := [.int u1]) (st := []) (w := none) (cc_X11_layOut  k8) rfl ylC_0 ynC_0 rfl vy_X11_layOut zw_887 ⟨Nat.le_of_ble_eq_true rfl, Nat.le_of_ble_eq_true rfl⟩ (Nat.le_of_ble_eq_true rfl) dX11_parade_62 rfl ?_
        show vv_V x vv_TC mm_X11_parade post 65 [some (.ref (vv_ad x 0)), some (.int u1), some (.int u2), some (.int u3), some (.int z0)] [] r7
        refine rr_aload_n (q := 66) dX11_parade_65 rfl rfl ?_
        refine gf_X11_78 (q := 69) rfl dX11_parade_66 rfl ?_
        refine rr_iload_n (q := 70) dX11_parade_69 rfl rfl ?_
        obtain ⟨r9, k10, hm⟩ := vv_bind hm
        refine rr_callV (q := 73) (M' := mm_X3_findShade) (As := [.int u2]) (st := []) (w := none) (cc_X3_findShade  k10) rfl ylC_170 ynC_170 rfl vy_X3_findShade zw_892 ⟨Nat.le_of_ble_eq_true rfl, Nat.le_of_ble_eq_true rfl⟩ (Nat.le_of_ble_eq_true rfl) dX11_parade_70 rfl ?_
        show vv_V x vv_TC mm_X11_parade post 73 [some (.ref (vv_ad x 0)), some (.int u1), some (.int u2), some (.int u3), some (.int z0)] [] r9
        refine rr_iload_n (q := 74) dX11_parade_73 rfl rfl ?_
        refine rr_if_ne (q := 77) (tgt := 85) dX11_parade_74 (by decide) rfl hm (fun hm => ?_) (fun hm => ?_)
        · refine rr_iload_n (q := 86) dX11_parade_85 rfl rfl ?_
          refine rr_iconst (q := 87) (v := 1) dX11_parade_86 rfl (by decide) ?_
          refine rr_icmp_ne (q := 90) (tgt := 113) dX11_parade_87 (by decide) rfl hm (fun hm => ?_) (fun hm => ?_)
          · refine rr_aload_n (q := 114) dX11_parade_113 rfl rfl ?_
            refine gf_X11_78 (q := 117) rfl dX11_parade_114 rfl ?_
            refine rr_iload_n (q := 118) dX11_parade_117 rfl rfl ?_
            refine rr_bipush (q := 120) (v := 10) dX11_parade_118 rfl (by decide) ?_
            refine rr_isub (q := 121) dX11_parade_120 rfl ?_
            obtain ⟨r11, k12, hm⟩ := vv_bind hm
            refine rr_callV (q := 124) (M' := mm_X3_pieceFor) (As := [.int (u3 - (10 : Int32))]) (st := []) (w := some (.int r11.1)) (cc_X3_pieceFor  k12) rfl ylC_170 ynC_170 rfl vy_X3_pieceFor zw_897 ⟨Nat.le_of_ble_eq_true rfl, Nat.le_of_ble_eq_true rfl⟩ (Nat.le_of_ble_eq_true rfl) dX11_parade_121 rfl ?_
            show vv_V x vv_TC mm_X11_parade post 124 [some (.ref (vv_ad x 0)), some (.int u1), some (.int u2), some (.int u3), some (.int z0)] [.int r11.1] r11.2
            obtain rfl := Option.some.inj hm
            exact rr_iret dX11_parade_124 rfl hp
          · refine rr_aload_n (q := 91) dX11_parade_90 rfl rfl ?_
            refine gf_X11_78 (q := 94) rfl dX11_parade_91 rfl ?_
            refine gf_X11_309 (q := 97) rfl dX11_parade_94 rfl ?_
            refine rr_if_ne (q := 100) (tgt := 105) dX11_parade_97 (by decide) rfl hm (fun hm => ?_) (fun hm => ?_)
            · refine rr_aload_n (q := 106) dX11_parade_105 rfl rfl ?_
              refine gf_X11_78 (q := 109) rfl dX11_parade_106 rfl ?_
              refine gf_X11_312 (q := 112) rfl dX11_parade_109 rfl ?_
              obtain rfl := Option.some.inj hm
              exact rr_iret dX11_parade_112 rfl hp
            · refine rr_bipush (q := 102) (v := -4) dX11_parade_100 rfl (by decide) ?_
              refine rr_goto (tgt := 112) dX11_parade_102 (by decide) ?_
              obtain rfl := Option.some.inj hm
              exact rr_iret dX11_parade_112 rfl hp
        · refine rr_aload_n (q := 78) dX11_parade_77 rfl rfl ?_
          refine gf_X11_78 (q := 81) rfl dX11_parade_78 rfl ?_
          refine gf_X11_309 (q := 84) rfl dX11_parade_81 rfl ?_
          obtain rfl := Option.some.inj hm
          exact rr_iret dX11_parade_84 rfl hp
      · refine rr_iconst (q := 59) (v := -1) dX11_parade_58 rfl (by decide) ?_
        obtain rfl := Option.some.inj hm
        exact rr_iret dX11_parade_59 rfl hp
set_option maxHeartbeats 200000 in
theorem vt_X11_parade_J29 {x : vv_E} {post : Option Value → vv_H → Prop}   {u1 : Int32} {u2 : Int32} {u3 : Int32} {h : vv_H} {o : Int32 × vv_H}  (hm : ff_X11_parade_J29  u1 u2 u3 h = some o) (hp : post (some (.int o.1)) o.2) : vv_V x vv_TC mm_X11_parade post 29 [some (.ref (vv_ad x 0)), some (.int u1), some (.int u2), some (.int u3), none] [] h := by
  unfold ff_X11_parade_J29 at hm
  refine rr_iconst (q := 30) (v := 1) dX11_parade_29 rfl (by decide) ?_
  refine rr_goto (tgt := 34) dX11_parade_30 (by decide) ?_
  exact vt_X11_parade_J34  hm hp
set_option maxHeartbeats 200000 in
theorem vt_X11_parade_J33 {x : vv_E} {post : Option Value → vv_H → Prop}   {u1 : Int32} {u2 : Int32} {u3 : Int32} {h : vv_H} {o : Int32 × vv_H}  (hm : ff_X11_parade_J33  u1 u2 u3 h = some o) (hp : post (some (.int o.1)) o.2) : vv_V x vv_TC mm_X11_parade post 33 [some (.ref (vv_ad x 0)), some (.int u1), some (.int u2), some (.int u3), none] [] h := by
  unfold ff_X11_parade_J33 at hm
  refine rr_iconst (q := 34) (v := 0) dX11_parade_33 rfl (by decide) ?_
  exact vt_X11_parade_J34  hm hp
set_option maxHeartbeats 200000 in
theorem vt_X11_parade {x : vv_E} {post : Option Value → vv_H → Prop} {h : vv_H} {v1 : Int32} {v2 : Int32} {v3 : Int32} {o : Int32 × vv_H}  (hm : ff_X11_parade  h v1 v2 v3 = some o) (hp : post (some (.int o.1)) o.2) : vv_V x vv_TC mm_X11_parade post 0 [some (.ref (vv_ad x 0)), some (.int v1), some (.int v2), some (.int v3), none] [] h := by
  unfold ff_X11_parade at hm
  refine rr_iload_n (q := 1) dX11_parade_0 rfl rfl ?_
  refine rr_iconst (q := 2) (v := 0) dX11_parade_1 rfl (by decide) ?_
  refine rr_iconst (q := 3) (v := 1) dX11_parade_2 rfl (by decide) ?_
  obtain ⟨r1, k2, hm⟩ := vv_bind hm
  refine rr_callS (q := 6) (M' := mm_X11_isWithin) (As := [.int v3, .int (0 : Int32), .int (1 : Int32)]) (st := []) (w := some (.int r1))  (cc_X11_isWithin  k2) rfl vy_X11_isWithin zw_219 ⟨Nat.le_of_ble_eq_true rfl, Nat.le_of_ble_eq_true rfl⟩ (Nat.le_of_ble_eq_true rfl) dX11_parade_3 rfl ?_
  show vv_V x vv_TC mm_X11_parade post 6 [some (.ref (vv_ad x 0)), some (.int v1), some (.int v2), some (.int v3), none] [.int r1] h
  refine rr_if_ne (q := 9) (tgt := 29) dX11_parade_6 (by decide) rfl hm (fun hm => ?_) (fun hm => ?_)
  · exact vt_X11_parade_J29  hm hp
  · refine rr_iload_n (q := 10) dX11_parade_9 rfl rfl ?_
    refine rr_bipush (q := 12) (v := 10) dX11_parade_10 rfl (by decide) ?_
    refine rr_icmp_lt (q := 15) (tgt := 33) dX11_parade_12 (by decide) rfl hm (fun hm => ?_) (fun hm => ?_)
    · exact vt_X11_parade_J33  hm hp
    · refine rr_aload_n (q := 16) dX11_parade_15 rfl rfl ?_
      refine gf_X11_10 (q := 19) rfl dX11_parade_16 rfl ?_
      refine rr_iload_n (q := 20) dX11_parade_19 rfl rfl ?_
      refine rr_bipush (q := 22) (v := 10) dX11_parade_20 rfl (by decide) ?_
      refine rr_isub (q := 23) dX11_parade_22 rfl ?_
      obtain ⟨r13, k14, hm⟩ := vv_bind hm
      refine rr_callV (q := 26) (M' := mm_X0_has) (As := [.int (v3 - (10 : Int32))]) (st := []) (w := some (.int r13)) (cc_X0_has  k14) rfl ylC_1 ynC_1 rfl vy_X0_has zw_386 ⟨Nat.le_of_ble_eq_true rfl, Nat.le_of_ble_eq_true rfl⟩ (Nat.le_of_ble_eq_true rfl) dX11_parade_23 rfl ?_
      show vv_V x vv_TC mm_X11_parade post 26 [some (.ref (vv_ad x 0)), some (.int v1), some (.int v2), some (.int v3), none] [.int r13] h
      refine rr_if_eq (q := 29) (tgt := 33) dX11_parade_26 (by decide) rfl hm (fun hm => ?_) (fun hm => ?_)
      · exact vt_X11_parade_J33  hm hp
      · exact vt_X11_parade_J29  hm hp
theorem cc_X11_parade {x : vv_E} {h : vv_H} {v1 : Int32} {v2 : Int32} {v3 : Int32} {o : Int32 × vv_H}  (hm : ff_X11_parade h v1 v2 v3 = some o) : vv_C x vv_TC yX11_parade mm_X11_parade [.ref (vv_ad x 0), .int v1, .int v2, .int v3] h (fun v g => v = some (.int o.1) ∧ g = o.2) := vv_entry (by decide +kernel) rfl (Nat.le_of_ble_eq_true rfl) rfl (vt_X11_parade  hm ⟨rfl, rfl⟩)
def ff_X12_text_B19  (h : vv_H) : Option ((vv_H) ⊕ ((vv_H))) := (if (h.1 0 19) = 0 then (if (h.1 0 23) = 0 then some (.inr h) else (ff_X12_oneLine h).bind (fun r9 => some (.inl r9))) else some (.inr h))
def ff_X12_text_B78  (s1 : Int32) (h : vv_H) : Option ((Int32 × vv_H) ⊕ ((vv_H))) := (if (12 : Int32) ≤ s1 then some (.inr h) else vv_ck s1 12 (vv_ck s1 12 (vv_let (vv_iu h 16 s1.toNatClampNeg (h.1 22 s1.toNatClampNeg)) (fun g21 => vv_ck s1 12 (vv_ck s1 12 (vv_let (vv_iu g21 17 s1.toNatClampNeg (g21.1 23 s1.toNatClampNeg)) (fun g25 => vv_ck s1 12 (vv_ck s1 12 (vv_let (vv_iu g25 18 s1.toNatClampNeg (g25.1 24 s1.toNatClampNeg)) (fun g29 => vv_ck s1 12 (vv_ck s1 12 (vv_let (vv_iu g29 19 s1.toNatClampNeg (g29.1 25 s1.toNatClampNeg)) (fun g33 => vv_ck s1 12 (vv_ck s1 12 (vv_let (vv_iu g33 20 s1.toNatClampNeg (g33.1 26 s1.toNatClampNeg)) (fun g37 => vv_let (s1 + 1) (fun w39 => some (.inl (w39, g37)))))))))))))))))))
def ff_X12_text_B152  (s1 : Int32) (h : vv_H) : Option ((Int32 × vv_H) ⊕ ((vv_H))) := (if (108 : Int32) ≤ s1 then some (.inr h) else vv_ck s1 108 (vv_ck s1 108 (vv_let (vv_iu h 21 s1.toNatClampNeg (h.1 27 s1.toNatClampNeg)) (fun g45 => vv_let (s1 + 1) (fun w47 => some (.inl (w47, g45)))))))
def ff_X12_text (h : vv_H) : Option (Int32 × vv_H) := vv_let (vv_iu h 0 19 (0 : Int32)) (fun g1 => vv_let (vv_iu g1 0 21 (0 : Int32)) (fun g3 => vv_let (vv_iu g3 0 34 (0 : Int32)) (fun g5 => (ff_X12_next g5).bind (fun r7 => (vv_lp (fun (zs : vv_H) => ff_X12_text_B19   zs) vv_F r7).bind (fun (e12 : (vv_H)) => vv_let (vv_iu e12 0 17 (0 : Int32)) (fun g13 => vv_let (vv_iu g13 0 18 (g13.1 0 19)) (fun g15 => (if (g15.1 0 19) ≤ 0 then vv_let (vv_iu g15 0 27 (g15.1 0 34)) (fun g17 => (vv_lp (fun (zs : Int32 × vv_H) => ff_X12_text_B78   zs.1 zs.2) vv_F ((0 : Int32), g17)).bind (fun (e42 : (vv_H)) => (vv_lp (fun (zs : Int32 × vv_H) => ff_X12_text_B152   zs.1 zs.2) vv_F ((0 : Int32), e42)).bind (fun (e50 : (vv_H)) => some ((e50.1 0 27), e50)))) else some (((-10 : Int32) - (g15.1 0 20)), g15)))))))))
set_option maxHeartbeats 200000 in
theorem vt_X12_text_B19 {x : vv_E} {post : Option Value → vv_H → Prop}  {h : vv_H} {o : (vv_H) ⊕ ((vv_H))}  (hm : ff_X12_text_B19   h = some o) (hI : ∀  (zh : vv_H), o = .inl zh → vv_V x vv_TR mm_X12_text post 19 [some (.ref (vv_ad x 0)), none] [] zh) (hX0 : ∀  (zh : vv_H), o = .inr zh → vv_V x vv_TR mm_X12_text post 40 [some (.ref (vv_ad x 0)), none] [] zh) : vv_V x vv_TR mm_X12_text post 19 [some (.ref (vv_ad x 0)), none] [] h := by
  unfold ff_X12_text_B19 at hm
  refine rr_aload_n (q := 20) dX12_text_19 rfl rfl ?_
  refine gf_X12_254 (q := 23) rfl dX12_text_20 rfl ?_
  refine rr_if_ne (q := 26) (tgt := 40) dX12_text_23 (by decide) rfl hm (fun hm => ?_) (fun hm => ?_)
  · obtain rfl := Option.some.inj hm
    exact hX0 h rfl
  · refine rr_aload_n (q := 27) dX12_text_26 rfl rfl ?_
    refine gf_X12_272 (q := 30) rfl dX12_text_27 rfl ?_
    refine rr_if_eq (q := 33) (tgt := 40) dX12_text_30 (by decide) rfl hm (fun hm => ?_) (fun hm => ?_)
    · obtain rfl := Option.some.inj hm
      exact hX0 h rfl
    · refine rr_aload_n (q := 34) dX12_text_33 rfl rfl ?_
      obtain ⟨r9, k10, hm⟩ := vv_bind hm
      refine rr_callV (q := 37) (M' := mm_X12_oneLine) (As := []) (st := []) (w := none) (cc_X12_oneLine  k10) rfl ylR_0 ynR_0 rfl vy_X12_oneLine zw_904 ⟨Nat.le_of_ble_eq_true rfl, Nat.le_of_ble_eq_true rfl⟩ (Nat.le_of_ble_eq_true rfl) dX12_text_34 rfl ?_
      show vv_V x vv_TR mm_X12_text post 37 [some (.ref (vv_ad x 0)), none] [] r9
      refine rr_goto (tgt := 19) dX12_text_37 (by decide) ?_
      obtain rfl := Option.some.inj hm
      exact hI r9 rfl
set_option maxHeartbeats 200000 in
theorem vt_X12_text_B78 {x : vv_E} {post : Option Value → vv_H → Prop}  {s1 : Int32} {h : vv_H} {o : (Int32 × vv_H) ⊕ ((vv_H))}  (hm : ff_X12_text_B78   s1 h = some o) (hI : ∀ (z1 : Int32) (zh : vv_H), o = .inl (z1, zh) → vv_V x vv_TR mm_X12_text post 78 [some (.ref (vv_ad x 0)), some (.int z1)] [] zh) (hX0 : ∀  (zh : vv_H), o = .inr zh → vv_V x vv_TR mm_X12_text post 150 [some (.ref (vv_ad x 0)), none] [] zh) : vv_V x vv_TR mm_X12_text post 78 [some (.ref (vv_ad x 0)), some (.int s1)] [] h := by
  unfold ff_X12_text_B78 at hm
  refine rr_iload_n (q := 79) dX12_text_78 rfl rfl ?_
  refine rr_bipush (q := 81) (v := 12) dX12_text_79 rfl (by decide) ?_
  refine rr_icmp_ge (q := 84) (tgt := 150) dX12_text_81 (by decide) rfl hm (fun hm => ?_) (fun hm => ?_)
  · obtain rfl := Option.some.inj hm
    refine rr_sub [true, false] rfl ?_
    exact hX0 h rfl
  · refine rr_aload_n (q := 85) dX12_text_84 rfl rfl ?_
    refine gf_X12_55 (q := 88) rfl dX12_text_85 rfl ?_
    refine rr_iload_n (q := 89) dX12_text_88 rfl rfl ?_
    refine rr_aload_n (q := 90) dX12_text_89 rfl rfl ?_
    refine gf_X12_73 (q := 93) rfl dX12_text_90 rfl ?_
    refine rr_iload_n (q := 94) dX12_text_93 rfl rfl ?_
    obtain ⟨c19, hm⟩ := vv_ck_of hm
    refine rr_iald (q := 95) ylR_22 ynR_22 c19 dX12_text_94 rfl ?_
    obtain ⟨c20, hm⟩ := vv_ck_of hm
    obtain ⟨g21, c22, hm⟩ := vv_let_of hm
    refine rr_iast (q := 96) ylR_16 ynR_16 c20 dX12_text_95 rfl ?_
    rw [← c22]
    refine rr_aload_n (q := 97) dX12_text_96 rfl rfl ?_
    refine gf_X12_58 (q := 100) rfl dX12_text_97 rfl ?_
    refine rr_iload_n (q := 101) dX12_text_100 rfl rfl ?_
    refine rr_aload_n (q := 102) dX12_text_101 rfl rfl ?_
    refine gf_X12_76 (q := 105) rfl dX12_text_102 rfl ?_
    refine rr_iload_n (q := 106) dX12_text_105 rfl rfl ?_
    obtain ⟨c23, hm⟩ := vv_ck_of hm
    refine rr_iald (q := 107) ylR_23 ynR_23 c23 dX12_text_106 rfl ?_
    obtain ⟨c24, hm⟩ := vv_ck_of hm
    obtain ⟨g25, c26, hm⟩ := vv_let_of hm
    refine rr_iast (q := 108) ylR_17 ynR_17 c24 dX12_text_107 rfl ?_
    rw [← c26]
    refine rr_aload_n (q := 109) dX12_text_108 rfl rfl ?_
    refine gf_X12_61 (q := 112) rfl dX12_text_109 rfl ?_
    refine rr_iload_n (q := 113) dX12_text_112 rfl rfl ?_
    refine rr_aload_n (q := 114) dX12_text_113 rfl rfl ?_
    refine gf_X12_79 (q := 117) rfl dX12_text_114 rfl ?_
    refine rr_iload_n (q := 118) dX12_text_117 rfl rfl ?_
    obtain ⟨c27, hm⟩ := vv_ck_of hm
    refine rr_iald (q := 119) ylR_24 ynR_24 c27 dX12_text_118 rfl ?_
    obtain ⟨c28, hm⟩ := vv_ck_of hm
    obtain ⟨g29, c30, hm⟩ := vv_let_of hm
    refine rr_iast (q := 120) ylR_18 ynR_18 c28 dX12_text_119 rfl ?_
    rw [← c30]
    refine rr_aload_n (q := 121) dX12_text_120 rfl rfl ?_
    refine gf_X12_64 (q := 124) rfl dX12_text_121 rfl ?_
    refine rr_iload_n (q := 125) dX12_text_124 rfl rfl ?_
    refine rr_aload_n (q := 126) dX12_text_125 rfl rfl ?_
    refine gf_X12_82 (q := 129) rfl dX12_text_126 rfl ?_
    refine rr_iload_n (q := 130) dX12_text_129 rfl rfl ?_
    obtain ⟨c31, hm⟩ := vv_ck_of hm
    refine rr_iald (q := 131) ylR_25 ynR_25 c31 dX12_text_130 rfl ?_
    obtain ⟨c32, hm⟩ := vv_ck_of hm
    obtain ⟨g33, c34, hm⟩ := vv_let_of hm
    refine rr_iast (q := 132) ylR_19 ynR_19 c32 dX12_text_131 rfl ?_
    rw [← c34]
    refine rr_aload_n (q := 133) dX12_text_132 rfl rfl ?_
    refine gf_X12_67 (q := 136) rfl dX12_text_133 rfl ?_
    refine rr_iload_n (q := 137) dX12_text_136 rfl rfl ?_
    refine rr_aload_n (q := 138) dX12_text_137 rfl rfl ?_
    refine gf_X12_85 (q := 141) rfl dX12_text_138 rfl ?_
    refine rr_iload_n (q := 142) dX12_text_141 rfl rfl ?_
    obtain ⟨c35, hm⟩ := vv_ck_of hm
    refine rr_iald (q := 143) ylR_26 ynR_26 c35 dX12_text_142 rfl ?_
    obtain ⟨c36, hm⟩ := vv_ck_of hm
    obtain ⟨g37, c38, hm⟩ := vv_let_of hm
    refine rr_iast (q := 144) ylR_20 ynR_20 c36 dX12_text_143 rfl ?_
    rw [← c38]
    obtain ⟨w39, c40, hm⟩ := vv_let_of hm
    refine rr_iinc (q := 147) [some (.ref (vv_ad x 0)), some (.int w39)] dX12_text_144 rfl rfl c40.symm (Nat.le_of_ble_eq_true rfl) rfl rfl ?_
    refine rr_goto (tgt := 78) dX12_text_147 (by decide) ?_
    obtain rfl := Option.some.inj hm
    exact hI w39 g37 rfl
set_option maxHeartbeats 200000 in
theorem vt_X12_text_B152 {x : vv_E} {post : Option Value → vv_H → Prop}  {s1 : Int32} {h : vv_H} {o : (Int32 × vv_H) ⊕ ((vv_H))}  (hm : ff_X12_text_B152   s1 h = some o) (hI : ∀ (z1 : Int32) (zh : vv_H), o = .inl (z1, zh) → vv_V x vv_TR mm_X12_text post 152 [some (.ref (vv_ad x 0)), some (.int z1)] [] zh) (hX0 : ∀  (zh : vv_H), o = .inr zh → vv_V x vv_TR mm_X12_text post 176 [some (.ref (vv_ad x 0)), none] [] zh) : vv_V x vv_TR mm_X12_text post 152 [some (.ref (vv_ad x 0)), some (.int s1)] [] h := by
  unfold ff_X12_text_B152 at hm
  refine rr_iload_n (q := 153) dX12_text_152 rfl rfl ?_
  refine rr_bipush (q := 155) (v := 108) dX12_text_153 rfl (by decide) ?_
  refine rr_icmp_ge (q := 158) (tgt := 176) dX12_text_155 (by decide) rfl hm (fun hm => ?_) (fun hm => ?_)
  · obtain rfl := Option.some.inj hm
    refine rr_sub [true, false] rfl ?_
    exact hX0 h rfl
  · refine rr_aload_n (q := 159) dX12_text_158 rfl rfl ?_
    refine gf_X12_70 (q := 162) rfl dX12_text_159 rfl ?_
    refine rr_iload_n (q := 163) dX12_text_162 rfl rfl ?_
    refine rr_aload_n (q := 164) dX12_text_163 rfl rfl ?_
    refine gf_X12_88 (q := 167) rfl dX12_text_164 rfl ?_
    refine rr_iload_n (q := 168) dX12_text_167 rfl rfl ?_
    obtain ⟨c43, hm⟩ := vv_ck_of hm
    refine rr_iald (q := 169) ylR_27 ynR_27 c43 dX12_text_168 rfl ?_
    obtain ⟨c44, hm⟩ := vv_ck_of hm
    obtain ⟨g45, c46, hm⟩ := vv_let_of hm
    refine rr_iast (q := 170) ylR_21 ynR_21 c44 dX12_text_169 rfl ?_
    rw [← c46]
    obtain ⟨w47, c48, hm⟩ := vv_let_of hm
    refine rr_iinc (q := 173) [some (.ref (vv_ad x 0)), some (.int w47)] dX12_text_170 rfl rfl c48.symm (Nat.le_of_ble_eq_true rfl) rfl rfl ?_
    refine rr_goto (tgt := 152) dX12_text_173 (by decide) ?_
    obtain rfl := Option.some.inj hm
    exact hI w47 g45 rfl
set_option maxHeartbeats 200000 in
theorem vt_X12_text {x : vv_E} {post : Option Value → vv_H → Prop} {h : vv_H} {o : Int32 × vv_H}  (hm : ff_X12_text  h = some o) (hp : post (some (.int o.1)) o.2) : vv_V x vv_TR mm_X12_text post 0 [some (.ref (vv_ad x 0)), none] [] h := by
  unfold ff_X12_text at hm
  refine rr_aload_n (q := 1) dX12_text_0 rfl rfl ?_
  refine rr_iconst (q := 2) (v := 0) dX12_text_1 rfl (by decide) ?_
  refine pf_X12_254 (q := 5) rfl dX12_text_2 rfl (fun g1 c2 => ?_)
  replace hm := vv_letE hm c2
  refine rr_aload_n (q := 6) dX12_text_5 rfl rfl ?_
  refine rr_iconst (q := 7) (v := 0) dX12_text_6 rfl (by decide) ?_
  refine pf_X12_266 (q := 10) rfl dX12_text_7 rfl (fun g3 c4 => ?_)
  replace hm := vv_letE hm c4
  refine rr_aload_n (q := 11) dX12_text_10 rfl rfl ?_
  refine rr_iconst (q := 12) (v := 0) dX12_text_11 rfl (by decide) ?_
  refine pf_X12_290 (q := 15) rfl dX12_text_12 rfl (fun g5 c6 => ?_)
  replace hm := vv_letE hm c6
  refine rr_aload_n (q := 16) dX12_text_15 rfl rfl ?_
  obtain ⟨r7, k8, hm⟩ := vv_bind hm
  refine rr_callV (q := 19) (M' := mm_X12_next) (As := []) (st := []) (w := none) (cc_X12_next  k8) rfl ylR_0 ynR_0 rfl vy_X12_next zw_737 ⟨Nat.le_of_ble_eq_true rfl, Nat.le_of_ble_eq_true rfl⟩ (Nat.le_of_ble_eq_true rfl) dX12_text_16 rfl ?_
  show vv_V x vv_TR mm_X12_text post 19 [some (.ref (vv_ad x 0)), none] [] r7
  obtain ⟨r11, k53, hm⟩ := vv_bind hm
  refine vv_lp_link (P := fun (zs : vv_H) => vv_V x vv_TR mm_X12_text post 19 [some (.ref (vv_ad x 0)), none] [] zs) (Q := (fun (e12 : (vv_H)) => vv_V x vv_TR mm_X12_text post 40 [some (.ref (vv_ad x 0)), none] [] e12)) (fun zs o hm hI hX => ?_) vv_F r7 r11 k53 ?_
  · exact vt_X12_text_B19   hm (fun  zh e => hI zh e) (fun zh e => hX zh e)
  · generalize r11 = e12 at hm ⊢
    try dsimp only [Sum.elim_inl, Sum.elim_inr] at hm
    try dsimp only [Sum.elim_inl, Sum.elim_inr]
    refine rr_aload_n (q := 41) dX12_text_40 rfl rfl ?_
    refine rr_iconst (q := 42) (v := 0) dX12_text_41 rfl (by decide) ?_
    refine pf_X12_251 (q := 45) rfl dX12_text_42 rfl (fun g13 c14 => ?_)
    replace hm := vv_letE hm c14
    refine rr_aload_n (q := 46) dX12_text_45 rfl rfl ?_
    refine rr_aload_n (q := 47) dX12_text_46 rfl rfl ?_
    refine gf_X12_254 (q := 50) rfl dX12_text_47 rfl ?_
    refine pf_X12_312 (q := 53) rfl dX12_text_50 rfl (fun g15 c16 => ?_)
    replace hm := vv_letE hm c16
    refine rr_aload_n (q := 54) dX12_text_53 rfl rfl ?_
    refine gf_X12_254 (q := 57) rfl dX12_text_54 rfl ?_
    refine rr_if_le (q := 60) (tgt := 68) dX12_text_57 (by decide) rfl hm (fun hm => ?_) (fun hm => ?_)
    · refine rr_aload_n (q := 69) dX12_text_68 rfl rfl ?_
      refine rr_aload_n (q := 70) dX12_text_69 rfl rfl ?_
      refine gf_X12_290 (q := 73) rfl dX12_text_70 rfl ?_
      refine pf_X12_315 (q := 76) rfl dX12_text_73 rfl (fun g17 c18 => ?_)
      replace hm := vv_letE hm c18
      refine rr_iconst (q := 77) (v := 0) dX12_text_76 rfl (by decide) ?_
      refine rr_istore_n (q := 78) [some (.ref (vv_ad x 0)), some (.int (0 : Int32))] dX12_text_77 rfl rfl (Nat.le_of_ble_eq_true rfl) rfl rfl ?_
      obtain ⟨r41, k52, hm⟩ := vv_bind hm
      refine vv_lp_link (P := fun (zs : Int32 × vv_H) => vv_V x vv_TR mm_X12_text post 78 [some (.ref (vv_ad x 0)), some (.int zs.1)] [] zs.2) (Q := (fun (e42 : (vv_H)) => vv_V x vv_TR mm_X12_text post 150 [some (.ref (vv_ad x 0)), none] [] e42)) (fun zs o hm hI hX => ?_) vv_F ((0 : Int32), g17) r41 k52 ?_
      · exact vt_X12_text_B78   hm (fun z1 zh e => hI (z1, zh) e) (fun zh e => hX zh e)
      · generalize r41 = e42 at hm ⊢
        try dsimp only [Sum.elim_inl, Sum.elim_inr] at hm
        try dsimp only [Sum.elim_inl, Sum.elim_inr]
        refine rr_iconst (q := 151) (v := 0) dX12_text_150 rfl (by decide) ?_
        refine rr_istore_n (q := 152) [some (.ref (vv_ad x 0)), some (.int (0 : Int32))] dX12_text_151 rfl rfl (Nat.le_of_ble_eq_true rfl) rfl rfl ?_
        obtain ⟨r49, k51, hm⟩ := vv_bind hm
        refine vv_lp_link (P := fun (zs : Int32 × vv_H) => vv_V x vv_TR mm_X12_text post 152 [some (.ref (vv_ad x 0)), some (.int zs.1)] [] zs.2) (Q := (fun (e50 : (vv_H)) => vv_V x vv_TR mm_X12_text post 176 [some (.ref (vv_ad x 0)), none] [] e50)) (fun zs o hm hI hX => ?_) vv_F ((0 : Int32), e42) r49 k51 ?_
        · exact vt_X12_text_B152   hm (fun z1 zh e => hI (z1, zh) e) (fun zh e => hX zh e)
        · generalize r49 = e50 at hm ⊢
          try dsimp only [Sum.elim_inl, Sum.elim_inr] at hm
          try dsimp only [Sum.elim_inl, Sum.elim_inr]
          refine rr_aload_n (q := 177) dX12_text_176 rfl rfl ?_
          refine gf_X12_315 (q := 180) rfl dX12_text_177 rfl ?_
          obtain rfl := Option.some.inj hm
          exact rr_iret dX12_text_180 rfl hp
    · refine rr_bipush (q := 62) (v := -10) dX12_text_60 rfl (by decide) ?_
      refine rr_aload_n (q := 63) dX12_text_62 rfl rfl ?_
      refine gf_X12_260 (q := 66) rfl dX12_text_63 rfl ?_
      refine rr_isub (q := 67) dX12_text_66 rfl ?_
      obtain rfl := Option.some.inj hm
      exact rr_iret dX12_text_67 rfl hp
theorem cc_X12_text {x : vv_E} {h : vv_H} {o : Int32 × vv_H}  (hm : ff_X12_text h = some o) : vv_C x vv_TR yX12_text mm_X12_text [.ref (vv_ad x 0)] h (fun v g => v = some (.int o.1) ∧ g = o.2) := vv_entry (by decide +kernel) rfl (Nat.le_of_ble_eq_true rfl) rfl (vt_X12_text  hm ⟨rfl, rfl⟩)
def ff_X12_parade_B78 (u1 : Int32) (u2 : Int32) (u3 : Int32) (u4 : Int32) (s5 : Int32) (h : vv_H) : Option ((Int32 × vv_H) ⊕ ((vv_H))) := (if (h.1 0 1) ≤ s5 then some (.inr h) else vv_ck u4 36 ((if (h.1 32 u4.toNatClampNeg) = (-4 : Int32) then vv_ck (((36 : Int32) * s5) + u4) 432 (vv_let (vv_iu h 39 (((36 : Int32) * s5) + u4).toNatClampNeg (vp_nar .boolean (0 : Int32))) (fun g12 => vv_let (s5 + 1) (fun w14 => some (.inl (w14, g12))))) else (ff_X12_kindAt h u4).bind (fun r16 => (if r16 = u1 then vv_ck u4 36 ((ff_X12_doesFit h (h.1 29 u4.toNatClampNeg) s5 (0 : Int32)).bind (fun r24 => (if r24 = 0 then vv_ck (((36 : Int32) * s5) + u4) 432 (vv_let (vv_iu h 39 (((36 : Int32) * s5) + u4).toNatClampNeg (vp_nar .boolean (0 : Int32))) (fun g27 => vv_let (s5 + 1) (fun w29 => some (.inl (w29, g27))))) else vv_ck (((36 : Int32) * s5) + u4) 432 (vv_let (vv_iu h 39 (((36 : Int32) * s5) + u4).toNatClampNeg (vp_nar .boolean (1 : Int32))) (fun g32 => vv_let (s5 + 1) (fun w34 => some (.inl (w34, g32)))))))) else vv_ck (((36 : Int32) * s5) + u4) 432 (vv_let (vv_iu h 39 (((36 : Int32) * s5) + u4).toNatClampNeg (vp_nar .boolean (0 : Int32))) (fun g19 => vv_let (s5 + 1) (fun w21 => some (.inl (w21, g19))))))))))
def ff_X12_parade_B58 (u1 : Int32) (u2 : Int32) (u3 : Int32) (s4 : Int32) (h : vv_H) : Option ((Int32 × vv_H) ⊕ ((vv_H))) := (if (h.1 0 44) ≤ s4 then some (.inr h) else vv_ck s4 36 (vv_let (vv_iu h 44 s4.toNatClampNeg (vp_nar .boolean (0 : Int32))) (fun g8 => (vv_lp (fun (zs : Int32 × vv_H) => ff_X12_parade_B78  u1 u2 u3 s4 zs.1 zs.2) vv_F ((0 : Int32), g8)).bind (fun (e37 : (vv_H)) => vv_let (s4 + 1) (fun w38 => some (.inl (w38, e37)))))))
def ff_X12_parade_J207  (u2 : Int32) (u3 : Int32) (u4 : Int32) (m6 : Int32) (m7 : Int32) (m8 : Int32) (z0 : Int32) (hh : vv_H) : Option ((Int32 × Int32 × Int32 × vv_H) ⊕ ((Int32 × Int32 × vv_H))) := (if m8 ≤ m6 then vv_let (m7 + 1) (fun w47 => some (.inl (z0, m6, w47, hh))) else vv_let (m7 + 1) (fun w49 => some (.inl (z0, m8, w49, hh))))
def ff_X12_parade_B175 (u2 : Int32) (u3 : Int32) (u4 : Int32) (s5 : Int32) (s6 : Int32) (s7 : Int32) (h : vv_H) : Option ((Int32 × Int32 × Int32 × vv_H) ⊕ ((Int32 × Int32 × vv_H))) := (if (100 : Int32) ≤ s7 then some (.inr (s5, s6, h)) else (ff_X12_most h u4 s7 u2).bind (fun r45 => (if r45.1 ≤ s6 then ff_X12_parade_J207  u2 u3 u4 s6 s7 r45.1 s5 r45.2 else ff_X12_parade_J207  u2 u3 u4 s6 s7 r45.1 s7 r45.2)))
def ff_X12_parade_J55  (u1 : Int32) (u2 : Int32) (u3 : Int32) (h : vv_H) : Option (Int32 × vv_H) := (vv_lp (fun (zs : Int32 × vv_H) => ff_X12_parade_B58  u1 u2 u3 zs.1 zs.2) vv_F ((0 : Int32), h)).bind (fun (e42 : (vv_H)) => vv_let (((1 : Int32) <<< ((e42.1 0 1) &&& 31)) - (1 : Int32)) (fun w43 => (vv_lp (fun (zs : Int32 × Int32 × Int32 × vv_H) => ff_X12_parade_B175  u2 u3 w43 zs.1 zs.2.1 zs.2.2.1 zs.2.2.2) vv_F ((0 : Int32), (0 : Int32), (0 : Int32), e42)).bind (fun (e52 : (Int32 × Int32 × vv_H)) => (if u3 = 0 then some (e52.2.1, e52.2.2) else (if u3 = (1 : Int32) then (if e52.2.1 = 0 then some ((-4 : Int32), e52.2.2) else some (e52.1, e52.2.2)) else (ff_X12_layParade e52.2.2 e52.1 u2 e52.2.1).bind (fun r53 => vv_ck (u3 - (10 : Int32)) 12 (some ((r53.1 45 (u3 - (10 : Int32)).toNatClampNeg), r53))))))))
def ff_X12_parade (h : vv_H) (v1 : Int32) (v2 : Int32) (v3 : Int32) : Option (Int32 × vv_H) := (ff_X12_in v1.toInt64 (0 : Int64) (3 : Int64)).bind (fun r1 => (if r1 = 0 then some ((-1 : Int32), h) else (ff_X12_in v2.toInt64 (0 : Int64) (99 : Int64)).bind (fun r3 => (if r3 = 0 then some ((-1 : Int32), h) else (ff_X12_in v3.toInt64 (0 : Int64) (1 : Int64)).bind (fun r5 => (if r5 = 0 then (ff_X12_in v3.toInt64 (10 : Int64) (((9 : Int32) + (h.1 0 1)).toInt64)).bind (fun r58 => (if r58 = 0 then some ((-1 : Int32), h) else ff_X12_parade_J55  v1 v2 v3 h)) else ff_X12_parade_J55  v1 v2 v3 h))))))
set_option maxHeartbeats 200000 in
theorem vt_X12_parade_B78 {x : vv_E} {post : Option Value → vv_H → Prop} {u1 : Int32} {u2 : Int32} {u3 : Int32} {u4 : Int32} {s5 : Int32} {h : vv_H} {o : (Int32 × vv_H) ⊕ ((vv_H))}  (hm : ff_X12_parade_B78  u1 u2 u3 u4 s5 h = some o) (hI : ∀ (z5 : Int32) (zh : vv_H), o = .inl (z5, zh) → vv_V x vv_TR mm_X12_parade post 78 [some (.ref (vv_ad x 0)), some (.int u1), some (.int u2), some (.int u3), some (.int u4), some (.int z5), none, none, none] [] zh) (hX0 : ∀  (zh : vv_H), o = .inr zh → vv_V x vv_TR mm_X12_parade post 150 [some (.ref (vv_ad x 0)), some (.int u1), some (.int u2), some (.int u3), some (.int u4), none, none, none, none] [] zh) : vv_V x vv_TR mm_X12_parade post 78 [some (.ref (vv_ad x 0)), some (.int u1), some (.int u2), some (.int u3), some (.int u4), some (.int s5), none, none, none] [] h := by
  unfold ff_X12_parade_B78 at hm
  refine rr_iload (q := 80) dX12_parade_78 rfl rfl ?_
  refine rr_aload_n (q := 81) dX12_parade_80 rfl rfl ?_
  refine gf_X12_177 (q := 84) rfl dX12_parade_81 rfl ?_
  refine rr_icmp_ge (q := 87) (tgt := 150) dX12_parade_84 (by decide) rfl hm (fun hm => ?_) (fun hm => ?_)
  · obtain rfl := Option.some.inj hm
    refine rr_sub [true, true, true, true, true, false, false, false, false] rfl ?_
    exact hX0 h rfl
  · refine rr_aload_n (q := 88) dX12_parade_87 rfl rfl ?_
    refine gf_X12_124 (q := 91) rfl dX12_parade_88 rfl ?_
    refine rr_bipush (q := 93) (v := 36) dX12_parade_91 rfl (by decide) ?_
    refine rr_iload (q := 95) dX12_parade_93 rfl rfl ?_
    refine rr_imul (q := 96) dX12_parade_95 rfl ?_
    refine rr_iload (q := 98) dX12_parade_96 rfl rfl ?_
    refine rr_iadd (q := 99) dX12_parade_98 rfl ?_
    refine rr_aload_n (q := 100) dX12_parade_99 rfl rfl ?_
    refine gf_X12_103 (q := 103) rfl dX12_parade_100 rfl ?_
    refine rr_iload (q := 105) dX12_parade_103 rfl rfl ?_
    obtain ⟨c10, hm⟩ := vv_ck_of hm
    refine rr_iald (q := 106) ylR_32 ynR_32 c10 dX12_parade_105 rfl ?_
    refine rr_bipush (q := 108) (v := -4) dX12_parade_106 rfl (by decide) ?_
    refine rr_icmp_eq (q := 111) (tgt := 142) dX12_parade_108 (by decide) rfl hm (fun hm => ?_) (fun hm => ?_)
    · refine rr_iconst (q := 143) (v := 0) dX12_parade_142 rfl (by decide) ?_
      obtain ⟨c11, hm⟩ := vv_ck_of hm
      obtain ⟨g12, c13, hm⟩ := vv_let_of hm
      refine rr_zast (q := 144) ylR_39 ynR_39 c11 dX12_parade_143 rfl ?_
      rw [← c13]
      obtain ⟨w14, c15, hm⟩ := vv_let_of hm
      refine rr_iinc (q := 147) [some (.ref (vv_ad x 0)), some (.int u1), some (.int u2), some (.int u3), some (.int u4), some (.int w14), none, none, none] dX12_parade_144 rfl rfl c15.symm (Nat.le_of_ble_eq_true rfl) rfl rfl ?_
      refine rr_goto (tgt := 78) dX12_parade_147 (by decide) ?_
      obtain rfl := Option.some.inj hm
      exact hI w14 g12 rfl
    · refine rr_aload_n (q := 112) dX12_parade_111 rfl rfl ?_
      refine rr_iload (q := 114) dX12_parade_112 rfl rfl ?_
      obtain ⟨r16, k17, hm⟩ := vv_bind hm
      refine rr_callV (q := 117) (M' := mm_X12_kindAt) (As := [.int u4]) (st := [.int (((36 : Int32) * s5) + u4), .ref (vv_ad x 39)]) (w := some (.int r16)) (cc_X12_kindAt  k17) rfl ylR_0 ynR_0 rfl vy_X12_kindAt zw_306 ⟨Nat.le_of_ble_eq_true rfl, Nat.le_of_ble_eq_true rfl⟩ (Nat.le_of_ble_eq_true rfl) dX12_parade_114 rfl ?_
      show vv_V x vv_TR mm_X12_parade post 117 [some (.ref (vv_ad x 0)), some (.int u1), some (.int u2), some (.int u3), some (.int u4), some (.int s5), none, none, none] [.int r16, .int (((36 : Int32) * s5) + u4), .ref (vv_ad x 39)] h
      refine rr_iload_n (q := 118) dX12_parade_117 rfl rfl ?_
      refine rr_icmp_ne (q := 121) (tgt := 142) dX12_parade_118 (by decide) rfl hm (fun hm => ?_) (fun hm => ?_)
      · refine rr_iconst (q := 143) (v := 0) dX12_parade_142 rfl (by decide) ?_
        obtain ⟨c18, hm⟩ := vv_ck_of hm
        obtain ⟨g19, c20, hm⟩ := vv_let_of hm
        refine rr_zast (q := 144) ylR_39 ynR_39 c18 dX12_parade_143 rfl ?_
        rw [← c20]
        obtain ⟨w21, c22, hm⟩ := vv_let_of hm
        refine rr_iinc (q := 147) [some (.ref (vv_ad x 0)), some (.int u1), some (.int u2), some (.int u3), some (.int u4), some (.int w21), none, none, none] dX12_parade_144 rfl rfl c22.symm (Nat.le_of_ble_eq_true rfl) rfl rfl ?_
        refine rr_goto (tgt := 78) dX12_parade_147 (by decide) ?_
        obtain rfl := Option.some.inj hm
        exact hI w21 g19 rfl
      · refine rr_aload_n (q := 122) dX12_parade_121 rfl rfl ?_
        refine rr_aload_n (q := 123) dX12_parade_122 rfl rfl ?_
        refine gf_X12_94 (q := 126) rfl dX12_parade_123 rfl ?_
        refine rr_iload (q := 128) dX12_parade_126 rfl rfl ?_
        obtain ⟨c23, hm⟩ := vv_ck_of hm
        refine rr_iald (q := 129) ylR_29 ynR_29 c23 dX12_parade_128 rfl ?_
        refine rr_iload (q := 131) dX12_parade_129 rfl rfl ?_
        refine rr_iconst (q := 132) (v := 0) dX12_parade_131 rfl (by decide) ?_
        obtain ⟨r24, k25, hm⟩ := vv_bind hm
        refine rr_callV (q := 135) (M' := mm_X12_doesFit) (As := [.int (h.1 29 u4.toNatClampNeg), .int s5, .int (0 : Int32)]) (st := [.int (((36 : Int32) * s5) + u4), .ref (vv_ad x 39)]) (w := some (.int r24)) (cc_X12_doesFit  k25) rfl ylR_0 ynR_0 rfl vy_X12_doesFit zw_552 ⟨Nat.le_of_ble_eq_true rfl, Nat.le_of_ble_eq_true rfl⟩ (Nat.le_of_ble_eq_true rfl) dX12_parade_132 rfl ?_
        show vv_V x vv_TR mm_X12_parade post 135 [some (.ref (vv_ad x 0)), some (.int u1), some (.int u2), some (.int u3), some (.int u4), some (.int s5), none, none, none] [.int r24, .int (((36 : Int32) * s5) + u4), .ref (vv_ad x 39)] h
        refine rr_if_eq (q := 138) (tgt := 142) dX12_parade_135 (by decide) rfl hm (fun hm => ?_) (fun hm => ?_)
        · refine rr_iconst (q := 143) (v := 0) dX12_parade_142 rfl (by decide) ?_
          obtain ⟨c26, hm⟩ := vv_ck_of hm
          obtain ⟨g27, c28, hm⟩ := vv_let_of hm
          refine rr_zast (q := 144) ylR_39 ynR_39 c26 dX12_parade_143 rfl ?_
          rw [← c28]
          obtain ⟨w29, c30, hm⟩ := vv_let_of hm
          refine rr_iinc (q := 147) [some (.ref (vv_ad x 0)), some (.int u1), some (.int u2), some (.int u3), some (.int u4), some (.int w29), none, none, none] dX12_parade_144 rfl rfl c30.symm (Nat.le_of_ble_eq_true rfl) rfl rfl ?_
          refine rr_goto (tgt := 78) dX12_parade_147 (by decide) ?_
          obtain rfl := Option.some.inj hm
          exact hI w29 g27 rfl
        · refine rr_iconst (q := 139) (v := 1) dX12_parade_138 rfl (by decide) ?_
          refine rr_goto (tgt := 143) dX12_parade_139 (by decide) ?_
          obtain ⟨c31, hm⟩ := vv_ck_of hm
          obtain ⟨g32, c33, hm⟩ := vv_let_of hm
          refine rr_zast (q := 144) ylR_39 ynR_39 c31 dX12_parade_143 rfl ?_
          rw [← c33]
          obtain ⟨w34, c35, hm⟩ := vv_let_of hm
          refine rr_iinc (q := 147) [some (.ref (vv_ad x 0)), some (.int u1), some (.int u2), some (.int u3), some (.int u4), some (.int w34), none, none, none] dX12_parade_144 rfl rfl c35.symm (Nat.le_of_ble_eq_true rfl) rfl rfl ?_
          refine rr_goto (tgt := 78) dX12_parade_147 (by decide) ?_
          obtain rfl := Option.some.inj hm
          exact hI w34 g32 rfl
set_option maxHeartbeats 200000 in
theorem vt_X12_parade_B58 {x : vv_E} {post : Option Value → vv_H → Prop} {u1 : Int32} {u2 : Int32} {u3 : Int32} {s4 : Int32} {h : vv_H} {o : (Int32 × vv_H) ⊕ ((vv_H))}  (hm : ff_X12_parade_B58  u1 u2 u3 s4 h = some o) (hI : ∀ (z4 : Int32) (zh : vv_H), o = .inl (z4, zh) → vv_V x vv_TR mm_X12_parade post 58 [some (.ref (vv_ad x 0)), some (.int u1), some (.int u2), some (.int u3), some (.int z4), none, none, none, none] [] zh) (hX0 : ∀  (zh : vv_H), o = .inr zh → vv_V x vv_TR mm_X12_parade post 156 [some (.ref (vv_ad x 0)), none, some (.int u2), some (.int u3), none, none, none, none, none] [] zh) : vv_V x vv_TR mm_X12_parade post 58 [some (.ref (vv_ad x 0)), some (.int u1), some (.int u2), some (.int u3), some (.int s4), none, none, none, none] [] h := by
  unfold ff_X12_parade_B58 at hm
  refine rr_iload (q := 60) dX12_parade_58 rfl rfl ?_
  refine rr_aload_n (q := 61) dX12_parade_60 rfl rfl ?_
  refine gf_X12_232 (q := 64) rfl dX12_parade_61 rfl ?_
  refine rr_icmp_ge (q := 67) (tgt := 156) dX12_parade_64 (by decide) rfl hm (fun hm => ?_) (fun hm => ?_)
  · obtain rfl := Option.some.inj hm
    refine rr_sub [true, false, true, true, false, false, false, false, false] rfl ?_
    exact hX0 h rfl
  · refine rr_aload_n (q := 68) dX12_parade_67 rfl rfl ?_
    refine gf_X12_140 (q := 71) rfl dX12_parade_68 rfl ?_
    refine rr_iload (q := 73) dX12_parade_71 rfl rfl ?_
    refine rr_iconst (q := 74) (v := 0) dX12_parade_73 rfl (by decide) ?_
    obtain ⟨c7, hm⟩ := vv_ck_of hm
    obtain ⟨g8, c9, hm⟩ := vv_let_of hm
    refine rr_zast (q := 75) ylR_44 ynR_44 c7 dX12_parade_74 rfl ?_
    rw [← c9]
    refine rr_iconst (q := 76) (v := 0) dX12_parade_75 rfl (by decide) ?_
    refine rr_istore (q := 78) [some (.ref (vv_ad x 0)), some (.int u1), some (.int u2), some (.int u3), some (.int s4), some (.int (0 : Int32)), none, none, none] dX12_parade_76 rfl (Nat.le_of_ble_eq_true rfl) rfl rfl ?_
    obtain ⟨r36, k40, hm⟩ := vv_bind hm
    refine vv_lp_link (P := fun (zs : Int32 × vv_H) => vv_V x vv_TR mm_X12_parade post 78 [some (.ref (vv_ad x 0)), some (.int u1), some (.int u2), some (.int u3), some (.int s4), some (.int zs.1), none, none, none] [] zs.2) (Q := (fun (e37 : (vv_H)) => vv_V x vv_TR mm_X12_parade post 150 [some (.ref (vv_ad x 0)), some (.int u1), some (.int u2), some (.int u3), some (.int s4), none, none, none, none] [] e37)) (fun zs o hm hI hX => ?_) vv_F ((0 : Int32), g8) r36 k40 ?_
    · exact vt_X12_parade_B78   hm (fun z5 zh e => hI (z5, zh) e) (fun zh e => hX zh e)
    · generalize r36 = e37 at hm ⊢
      try dsimp only [Sum.elim_inl, Sum.elim_inr] at hm
      try dsimp only [Sum.elim_inl, Sum.elim_inr]
      obtain ⟨w38, c39, hm⟩ := vv_let_of hm
      refine rr_iinc (q := 153) [some (.ref (vv_ad x 0)), some (.int u1), some (.int u2), some (.int u3), some (.int w38), none, none, none, none] dX12_parade_150 rfl rfl c39.symm (Nat.le_of_ble_eq_true rfl) rfl rfl ?_
      refine rr_goto (tgt := 58) dX12_parade_153 (by decide) ?_
      obtain rfl := Option.some.inj hm
      exact hI w38 e37 rfl
set_option maxHeartbeats 200000 in
theorem vt_X12_parade_J207 {x : vv_E} {post : Option Value → vv_H → Prop}   {u2 : Int32} {u3 : Int32} {u4 : Int32} {m6 : Int32} {m7 : Int32} {m8 : Int32} {z0 : Int32} {hh : vv_H} {o : (Int32 × Int32 × Int32 × vv_H) ⊕ ((Int32 × Int32 × vv_H))}  (hm : ff_X12_parade_J207  u2 u3 u4 m6 m7 m8 z0 hh = some o) (hI : ∀ (z5 : Int32) (z6 : Int32) (z7 : Int32) (zh : vv_H), o = .inl (z5, z6, z7, zh) → vv_V x vv_TR mm_X12_parade post 175 [some (.ref (vv_ad x 0)), none, some (.int u2), some (.int u3), some (.int u4), some (.int z5), some (.int z6), some (.int z7), none] [] zh) (hX0 : ∀ (z5 : Int32) (z6 : Int32) (zh : vv_H), o = .inr (z5, z6, zh) → vv_V x vv_TR mm_X12_parade post 231 [some (.ref (vv_ad x 0)), none, some (.int u2), some (.int u3), none, some (.int z5), some (.int z6), none, none] [] zh) : vv_V x vv_TR mm_X12_parade post 207 [some (.ref (vv_ad x 0)), none, some (.int u2), some (.int u3), some (.int u4), none, some (.int m6), some (.int m7), some (.int m8)] [.int z0] hh := by
  unfold ff_X12_parade_J207 at hm
  refine rr_istore (q := 209) [some (.ref (vv_ad x 0)), none, some (.int u2), some (.int u3), some (.int u4), some (.int z0), some (.int m6), some (.int m7), some (.int m8)] dX12_parade_207 rfl (Nat.le_of_ble_eq_true rfl) rfl rfl ?_
  refine rr_iload (q := 211) dX12_parade_209 rfl rfl ?_
  refine rr_iload (q := 213) dX12_parade_211 rfl rfl ?_
  refine rr_icmp_le (q := 216) (tgt := 221) dX12_parade_213 (by decide) rfl hm (fun hm => ?_) (fun hm => ?_)
  · refine rr_iload (q := 223) dX12_parade_221 rfl rfl ?_
    refine rr_istore (q := 225) [some (.ref (vv_ad x 0)), none, some (.int u2), some (.int u3), some (.int u4), some (.int z0), some (.int m6), some (.int m7), some (.int m8)] dX12_parade_223 rfl (Nat.le_of_ble_eq_true rfl) rfl rfl ?_
    obtain ⟨w47, c48, hm⟩ := vv_let_of hm
    refine rr_iinc (q := 228) [some (.ref (vv_ad x 0)), none, some (.int u2), some (.int u3), some (.int u4), some (.int z0), some (.int m6), some (.int w47), some (.int m8)] dX12_parade_225 rfl rfl c48.symm (Nat.le_of_ble_eq_true rfl) rfl rfl ?_
    refine rr_goto (tgt := 175) dX12_parade_228 (by decide) ?_
    obtain rfl := Option.some.inj hm
    refine rr_sub [true, false, true, true, true, true, true, true, false] rfl ?_
    exact hI z0 m6 w47 hh rfl
  · refine rr_iload (q := 218) dX12_parade_216 rfl rfl ?_
    refine rr_goto (tgt := 223) dX12_parade_218 (by decide) ?_
    refine rr_istore (q := 225) [some (.ref (vv_ad x 0)), none, some (.int u2), some (.int u3), some (.int u4), some (.int z0), some (.int m8), some (.int m7), some (.int m8)] dX12_parade_223 rfl (Nat.le_of_ble_eq_true rfl) rfl rfl ?_
    obtain ⟨w49, c50, hm⟩ := vv_let_of hm
    refine rr_iinc (q := 228) [some (.ref (vv_ad x 0)), none, some (.int u2), some (.int u3), some (.int u4), some (.int z0), some (.int m8), some (.int w49), some (.int m8)] dX12_parade_225 rfl rfl c50.symm (Nat.le_of_ble_eq_true rfl) rfl rfl ?_
    refine rr_goto (tgt := 175) dX12_parade_228 (by decide) ?_
    obtain rfl := Option.some.inj hm
    refine rr_sub [true, false, true, true, true, true, true, true, false] rfl ?_
    exact hI z0 m8 w49 hh rfl
set_option maxHeartbeats 200000 in
theorem vt_X12_parade_B175 {x : vv_E} {post : Option Value → vv_H → Prop} {u2 : Int32} {u3 : Int32} {u4 : Int32} {s5 : Int32} {s6 : Int32} {s7 : Int32} {h : vv_H} {o : (Int32 × Int32 × Int32 × vv_H) ⊕ ((Int32 × Int32 × vv_H))}  (hm : ff_X12_parade_B175  u2 u3 u4 s5 s6 s7 h = some o) (hI : ∀ (z5 : Int32) (z6 : Int32) (z7 : Int32) (zh : vv_H), o = .inl (z5, z6, z7, zh) → vv_V x vv_TR mm_X12_parade post 175 [some (.ref (vv_ad x 0)), none, some (.int u2), some (.int u3), some (.int u4), some (.int z5), some (.int z6), some (.int z7), none] [] zh) (hX0 : ∀ (z5 : Int32) (z6 : Int32) (zh : vv_H), o = .inr (z5, z6, zh) → vv_V x vv_TR mm_X12_parade post 231 [some (.ref (vv_ad x 0)), none, some (.int u2), some (.int u3), none, some (.int z5), some (.int z6), none, none] [] zh) : vv_V x vv_TR mm_X12_parade post 175 [some (.ref (vv_ad x 0)), none, some (.int u2), some (.int u3), some (.int u4), some (.int s5), some (.int s6), some (.int s7), none] [] h := by
  unfold ff_X12_parade_B175 at hm
  refine rr_iload (q := 177) dX12_parade_175 rfl rfl ?_
  refine rr_bipush (q := 179) (v := 100) dX12_parade_177 rfl (by decide) ?_
  refine rr_icmp_ge (q := 182) (tgt := 231) dX12_parade_179 (by decide) rfl hm (fun hm => ?_) (fun hm => ?_)
  · obtain rfl := Option.some.inj hm
    refine rr_sub [true, false, true, true, false, true, true, false, false] rfl ?_
    exact hX0 s5 s6 h rfl
  · refine rr_aload_n (q := 183) dX12_parade_182 rfl rfl ?_
    refine rr_iload (q := 185) dX12_parade_183 rfl rfl ?_
    refine rr_iload (q := 187) dX12_parade_185 rfl rfl ?_
    refine rr_iload_n (q := 188) dX12_parade_187 rfl rfl ?_
    obtain ⟨r45, k46, hm⟩ := vv_bind hm
    refine rr_callV (q := 191) (M' := mm_X12_most) (As := [.int u4, .int s7, .int u2]) (st := []) (w := some (.int r45.1)) (cc_X12_most  k46) rfl ylR_0 ynR_0 rfl vy_X12_most zw_877 ⟨Nat.le_of_ble_eq_true rfl, Nat.le_of_ble_eq_true rfl⟩ (Nat.le_of_ble_eq_true rfl) dX12_parade_188 rfl ?_
    show vv_V x vv_TR mm_X12_parade post 191 [some (.ref (vv_ad x 0)), none, some (.int u2), some (.int u3), some (.int u4), some (.int s5), some (.int s6), some (.int s7), none] [.int r45.1] r45.2
    refine rr_istore (q := 193) [some (.ref (vv_ad x 0)), none, some (.int u2), some (.int u3), some (.int u4), some (.int s5), some (.int s6), some (.int s7), some (.int r45.1)] dX12_parade_191 rfl (Nat.le_of_ble_eq_true rfl) rfl rfl ?_
    refine rr_iload (q := 195) dX12_parade_193 rfl rfl ?_
    refine rr_iload (q := 197) dX12_parade_195 rfl rfl ?_
    refine rr_icmp_le (q := 200) (tgt := 205) dX12_parade_197 (by decide) rfl hm (fun hm => ?_) (fun hm => ?_)
    · refine rr_iload (q := 207) dX12_parade_205 rfl rfl ?_
      refine rr_sub [true, false, true, true, true, false, true, true, true] rfl ?_
      exact vt_X12_parade_J207  hm hI hX0
    · refine rr_iload (q := 202) dX12_parade_200 rfl rfl ?_
      refine rr_goto (tgt := 207) dX12_parade_202 (by decide) ?_
      refine rr_sub [true, false, true, true, true, false, true, true, true] rfl ?_
      exact vt_X12_parade_J207  hm hI hX0
set_option maxHeartbeats 200000 in
theorem vt_X12_parade_J55 {x : vv_E} {post : Option Value → vv_H → Prop}   {u1 : Int32} {u2 : Int32} {u3 : Int32} {h : vv_H} {o : Int32 × vv_H}  (hm : ff_X12_parade_J55  u1 u2 u3 h = some o) (hp : post (some (.int o.1)) o.2) : vv_V x vv_TR mm_X12_parade post 55 [some (.ref (vv_ad x 0)), some (.int u1), some (.int u2), some (.int u3), none, none, none, none, none] [] h := by
  unfold ff_X12_parade_J55 at hm
  refine rr_iconst (q := 56) (v := 0) dX12_parade_55 rfl (by decide) ?_
  refine rr_istore (q := 58) [some (.ref (vv_ad x 0)), some (.int u1), some (.int u2), some (.int u3), some (.int (0 : Int32)), none, none, none, none] dX12_parade_56 rfl (Nat.le_of_ble_eq_true rfl) rfl rfl ?_
  obtain ⟨r41, k57, hm⟩ := vv_bind hm
  refine vv_lp_link (P := fun (zs : Int32 × vv_H) => vv_V x vv_TR mm_X12_parade post 58 [some (.ref (vv_ad x 0)), some (.int u1), some (.int u2), some (.int u3), some (.int zs.1), none, none, none, none] [] zs.2) (Q := (fun (e42 : (vv_H)) => vv_V x vv_TR mm_X12_parade post 156 [some (.ref (vv_ad x 0)), none, some (.int u2), some (.int u3), none, none, none, none, none] [] e42)) (fun zs o hm hI hX => ?_) vv_F ((0 : Int32), h) r41 k57 ?_
  · exact vt_X12_parade_B58   hm (fun z4 zh e => hI (z4, zh) e) (fun zh e => hX zh e)
  · generalize r41 = e42 at hm ⊢
    try dsimp only [Sum.elim_inl, Sum.elim_inr] at hm
    try dsimp only [Sum.elim_inl, Sum.elim_inr]
    refine rr_iconst (q := 157) (v := 1) dX12_parade_156 rfl (by decide) ?_
    refine rr_aload_n (q := 158) dX12_parade_157 rfl rfl ?_
    refine gf_X12_177 (q := 161) rfl dX12_parade_158 rfl ?_
    refine rr_ishl (q := 162) dX12_parade_161 rfl ?_
    refine rr_iconst (q := 163) (v := 1) dX12_parade_162 rfl (by decide) ?_
    refine rr_isub (q := 164) dX12_parade_163 rfl ?_
    obtain ⟨w43, c44, hm⟩ := vv_let_of hm
    rw [← c44]
    refine rr_istore (q := 166) [some (.ref (vv_ad x 0)), none, some (.int u2), some (.int u3), some (.int w43), none, none, none, none] dX12_parade_164 rfl (Nat.le_of_ble_eq_true rfl) rfl rfl ?_
    refine rr_iconst (q := 167) (v := 0) dX12_parade_166 rfl (by decide) ?_
    refine rr_istore (q := 169) [some (.ref (vv_ad x 0)), none, some (.int u2), some (.int u3), some (.int w43), some (.int (0 : Int32)), none, none, none] dX12_parade_167 rfl (Nat.le_of_ble_eq_true rfl) rfl rfl ?_
    refine rr_iconst (q := 170) (v := 0) dX12_parade_169 rfl (by decide) ?_
    refine rr_istore (q := 172) [some (.ref (vv_ad x 0)), none, some (.int u2), some (.int u3), some (.int w43), some (.int (0 : Int32)), some (.int (0 : Int32)), none, none] dX12_parade_170 rfl (Nat.le_of_ble_eq_true rfl) rfl rfl ?_
    refine rr_iconst (q := 173) (v := 0) dX12_parade_172 rfl (by decide) ?_
    refine rr_istore (q := 175) [some (.ref (vv_ad x 0)), none, some (.int u2), some (.int u3), some (.int w43), some (.int (0 : Int32)), some (.int (0 : Int32)), some (.int (0 : Int32)), none] dX12_parade_173 rfl (Nat.le_of_ble_eq_true rfl) rfl rfl ?_
    obtain ⟨r51, k56, hm⟩ := vv_bind hm
    refine vv_lp_link (P := fun (zs : Int32 × Int32 × Int32 × vv_H) => vv_V x vv_TR mm_X12_parade post 175 [some (.ref (vv_ad x 0)), none, some (.int u2), some (.int u3), some (.int w43), some (.int zs.1), some (.int zs.2.1), some (.int zs.2.2.1), none] [] zs.2.2.2) (Q := (fun (e52 : (Int32 × Int32 × vv_H)) => vv_V x vv_TR mm_X12_parade post 231 [some (.ref (vv_ad x 0)), none, some (.int u2), some (.int u3), none, some (.int e52.1), some (.int e52.2.1), none, none] [] e52.2.2)) (fun zs o hm hI hX => ?_) vv_F ((0 : Int32), (0 : Int32), (0 : Int32), e42) r51 k56 ?_
    · exact vt_X12_parade_B175   hm (fun z5 z6 z7 zh e => hI (z5, z6, z7, zh) e) (fun z5 z6 zh e => hX (z5, z6, zh) e)
    · generalize r51 = e52 at hm ⊢
      try dsimp only [Sum.elim_inl, Sum.elim_inr] at hm
      try dsimp only [Sum.elim_inl, Sum.elim_inr]
      refine rr_iload_n (q := 232) dX12_parade_231 rfl rfl ?_
      refine rr_if_ne (q := 235) (tgt := 238) dX12_parade_232 (by decide) rfl hm (fun hm => ?_) (fun hm => ?_)
      · refine rr_iload_n (q := 239) dX12_parade_238 rfl rfl ?_
        refine rr_iconst (q := 240) (v := 1) dX12_parade_239 rfl (by decide) ?_
        refine rr_icmp_ne (q := 243) (tgt := 256) dX12_parade_240 (by decide) rfl hm (fun hm => ?_) (fun hm => ?_)
        · refine rr_aload_n (q := 257) dX12_parade_256 rfl rfl ?_
          refine rr_iload (q := 259) dX12_parade_257 rfl rfl ?_
          refine rr_iload_n (q := 260) dX12_parade_259 rfl rfl ?_
          refine rr_iload (q := 262) dX12_parade_260 rfl rfl ?_
          obtain ⟨r53, k54, hm⟩ := vv_bind hm
          refine rr_callV (q := 265) (M' := mm_X12_layParade) (As := [.int e52.1, .int u2, .int e52.2.1]) (st := []) (w := none) (cc_X12_layParade  k54) rfl ylR_0 ynR_0 rfl vy_X12_layParade zw_909 ⟨Nat.le_of_ble_eq_true rfl, Nat.le_of_ble_eq_true rfl⟩ (Nat.le_of_ble_eq_true rfl) dX12_parade_262 rfl ?_
          show vv_V x vv_TR mm_X12_parade post 265 [some (.ref (vv_ad x 0)), none, some (.int u2), some (.int u3), none, some (.int e52.1), some (.int e52.2.1), none, none] [] r53
          refine rr_aload_n (q := 266) dX12_parade_265 rfl rfl ?_
          refine gf_X12_143 (q := 269) rfl dX12_parade_266 rfl ?_
          refine rr_iload_n (q := 270) dX12_parade_269 rfl rfl ?_
          refine rr_bipush (q := 272) (v := 10) dX12_parade_270 rfl (by decide) ?_
          refine rr_isub (q := 273) dX12_parade_272 rfl ?_
          obtain ⟨c55, hm⟩ := vv_ck_of hm
          refine rr_iald (q := 274) ylR_45 ynR_45 c55 dX12_parade_273 rfl ?_
          obtain rfl := Option.some.inj hm
          exact rr_iret dX12_parade_274 rfl hp
        · refine rr_iload (q := 245) dX12_parade_243 rfl rfl ?_
          refine rr_if_ne (q := 248) (tgt := 253) dX12_parade_245 (by decide) rfl hm (fun hm => ?_) (fun hm => ?_)
          · refine rr_iload (q := 255) dX12_parade_253 rfl rfl ?_
            obtain rfl := Option.some.inj hm
            exact rr_iret dX12_parade_255 rfl hp
          · refine rr_bipush (q := 250) (v := -4) dX12_parade_248 rfl (by decide) ?_
            refine rr_goto (tgt := 255) dX12_parade_250 (by decide) ?_
            obtain rfl := Option.some.inj hm
            exact rr_iret dX12_parade_255 rfl hp
      · refine rr_iload (q := 237) dX12_parade_235 rfl rfl ?_
        obtain rfl := Option.some.inj hm
        exact rr_iret dX12_parade_237 rfl hp
set_option maxHeartbeats 200000 in
theorem vt_X12_parade {x : vv_E} {post : Option Value → vv_H → Prop} {h : vv_H} {v1 : Int32} {v2 : Int32} {v3 : Int32} {o : Int32 × vv_H}  (hm : ff_X12_parade  h v1 v2 v3 = some o) (hp : post (some (.int o.1)) o.2) : vv_V x vv_TR mm_X12_parade post 0 [some (.ref (vv_ad x 0)), some (.int v1), some (.int v2), some (.int v3), none, none, none, none, none] [] h := by
  unfold ff_X12_parade at hm
  refine rr_iload_n (q := 1) dX12_parade_0 rfl rfl ?_
  refine rr_i2l (q := 2) dX12_parade_1 rfl ?_
  refine rr_lconst (q := 3) (v := 0) dX12_parade_2 rfl (by decide) ?_
  refine rr_ldc2 (q := 6) dX12_parade_3 rfl zw_270 ?_
  obtain ⟨r1, k2, hm⟩ := vv_bind hm
  refine rr_callS (q := 9) (M' := mm_X12_in) (As := [.long v1.toInt64, .long (0 : Int64), .long (3 : Int64)]) (st := []) (w := some (.int r1))  (cc_X12_in  k2) rfl vy_X12_in zw_267 ⟨Nat.le_of_ble_eq_true rfl, Nat.le_of_ble_eq_true rfl⟩ (Nat.le_of_ble_eq_true rfl) dX12_parade_6 rfl ?_
  show vv_V x vv_TR mm_X12_parade post 9 [some (.ref (vv_ad x 0)), some (.int v1), some (.int v2), some (.int v3), none, none, none, none, none] [.int r1] h
  refine rr_if_eq (q := 12) (tgt := 53) dX12_parade_9 (by decide) rfl hm (fun hm => ?_) (fun hm => ?_)
  · refine rr_iconst (q := 54) (v := -1) dX12_parade_53 rfl (by decide) ?_
    obtain rfl := Option.some.inj hm
    exact rr_iret dX12_parade_54 rfl hp
  · refine rr_iload_n (q := 13) dX12_parade_12 rfl rfl ?_
    refine rr_i2l (q := 14) dX12_parade_13 rfl ?_
    refine rr_lconst (q := 15) (v := 0) dX12_parade_14 rfl (by decide) ?_
    refine rr_ldc2 (q := 18) dX12_parade_15 rfl zw_583 ?_
    obtain ⟨r3, k4, hm⟩ := vv_bind hm
    refine rr_callS (q := 21) (M' := mm_X12_in) (As := [.long v2.toInt64, .long (0 : Int64), .long (99 : Int64)]) (st := []) (w := some (.int r3))  (cc_X12_in  k4) rfl vy_X12_in zw_267 ⟨Nat.le_of_ble_eq_true rfl, Nat.le_of_ble_eq_true rfl⟩ (Nat.le_of_ble_eq_true rfl) dX12_parade_18 rfl ?_
    show vv_V x vv_TR mm_X12_parade post 21 [some (.ref (vv_ad x 0)), some (.int v1), some (.int v2), some (.int v3), none, none, none, none, none] [.int r3] h
    refine rr_if_eq (q := 24) (tgt := 53) dX12_parade_21 (by decide) rfl hm (fun hm => ?_) (fun hm => ?_)
    · refine rr_iconst (q := 54) (v := -1) dX12_parade_53 rfl (by decide) ?_
      obtain rfl := Option.some.inj hm
      exact rr_iret dX12_parade_54 rfl hp
    · refine rr_iload_n (q := 25) dX12_parade_24 rfl rfl ?_
      refine rr_i2l (q := 26) dX12_parade_25 rfl ?_
      refine rr_lconst (q := 27) (v := 0) dX12_parade_26 rfl (by decide) ?_
      refine rr_lconst (q := 28) (v := 1) dX12_parade_27 rfl (by decide) ?_
      obtain ⟨r5, k6, hm⟩ := vv_bind hm
      refine rr_callS (q := 31) (M' := mm_X12_in) (As := [.long v3.toInt64, .long (0 : Int64), .long (1 : Int64)]) (st := []) (w := some (.int r5))  (cc_X12_in  k6) rfl vy_X12_in zw_267 ⟨Nat.le_of_ble_eq_true rfl, Nat.le_of_ble_eq_true rfl⟩ (Nat.le_of_ble_eq_true rfl) dX12_parade_28 rfl ?_
      show vv_V x vv_TR mm_X12_parade post 31 [some (.ref (vv_ad x 0)), some (.int v1), some (.int v2), some (.int v3), none, none, none, none, none] [.int r5] h
      refine rr_if_ne (q := 34) (tgt := 55) dX12_parade_31 (by decide) rfl hm (fun hm => ?_) (fun hm => ?_)
      · exact vt_X12_parade_J55  hm hp
      · refine rr_iload_n (q := 35) dX12_parade_34 rfl rfl ?_
        refine rr_i2l (q := 36) dX12_parade_35 rfl ?_
        refine rr_ldc2 (q := 39) dX12_parade_36 rfl zw_553 ?_
        refine rr_bipush (q := 41) (v := 9) dX12_parade_39 rfl (by decide) ?_
        refine rr_aload_n (q := 42) dX12_parade_41 rfl rfl ?_
        refine gf_X12_177 (q := 45) rfl dX12_parade_42 rfl ?_
        refine rr_iadd (q := 46) dX12_parade_45 rfl ?_
        refine rr_i2l (q := 47) dX12_parade_46 rfl ?_
        obtain ⟨r58, k59, hm⟩ := vv_bind hm
        refine rr_callS (q := 50) (M' := mm_X12_in) (As := [.long v3.toInt64, .long (10 : Int64), .long (((9 : Int32) + (h.1 0 1)).toInt64)]) (st := []) (w := some (.int r58))  (cc_X12_in  k59) rfl vy_X12_in zw_267 ⟨Nat.le_of_ble_eq_true rfl, Nat.le_of_ble_eq_true rfl⟩ (Nat.le_of_ble_eq_true rfl) dX12_parade_47 rfl ?_
        show vv_V x vv_TR mm_X12_parade post 50 [some (.ref (vv_ad x 0)), some (.int v1), some (.int v2), some (.int v3), none, none, none, none, none] [.int r58] h
        refine rr_if_ne (q := 53) (tgt := 55) dX12_parade_50 (by decide) rfl hm (fun hm => ?_) (fun hm => ?_)
        · exact vt_X12_parade_J55  hm hp
        · refine rr_iconst (q := 54) (v := -1) dX12_parade_53 rfl (by decide) ?_
          obtain rfl := Option.some.inj hm
          exact rr_iret dX12_parade_54 rfl hp
theorem cc_X12_parade {x : vv_E} {h : vv_H} {v1 : Int32} {v2 : Int32} {v3 : Int32} {o : Int32 × vv_H}  (hm : ff_X12_parade h v1 v2 v3 = some o) : vv_C x vv_TR yX12_parade mm_X12_parade [.ref (vv_ad x 0), .int v1, .int v2, .int v3] h (fun v g => v = some (.int o.1) ∧ g = o.2) := vv_entry (by decide +kernel) rfl (Nat.le_of_ble_eq_true rfl) rfl (vt_X12_parade  hm ⟨rfl, rfl⟩)
