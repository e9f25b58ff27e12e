def ff_X12_in (v0 : Int64) (v2 : Int64) (v4 : Int64) : Option (Int32) := (if (lg_cmp v0 v2) < 0 then some (0 : Int32) else (if 0 < (lg_cmp v0 v4) then some (0 : Int32) else some (1 : Int32)))
set_option maxHeartbeats 200000 in
theorem vt_X12_in {x : vv_E} {post : Option Value → vv_H → Prop} {v0 : Int64} {v2 : Int64} {v4 : Int64} {h : vv_H} {o : Int32}  (hm : ff_X12_in  v0 v2 v4 = some o) (hp : post (some (.int o)) h) : vv_V x vv_TR mm_X12_in post 0 [some (.long v0), none, some (.long v2), none, some (.long v4), none] [] h := by
  unfold ff_X12_in at hm
  refine rr_lload_n (q := 1) dX12_in_0 rfl rfl ?_
  refine rr_lload_n (q := 2) dX12_in_1 rfl rfl ?_
  refine rr_lcmp (q := 3) dX12_in_2 rfl ?_
  refine rr_if_lt (q := 6) (tgt := 17) dX12_in_3 (by decide) rfl hm (fun hm => ?_) (fun hm => ?_)
  · refine rr_iconst (q := 18) (v := 0) dX12_in_17 rfl (by decide) ?_
    obtain rfl := Option.some.inj hm
    exact rr_zret dX12_in_18 rfl rfl hp
  · refine rr_lload_n (q := 7) dX12_in_6 rfl rfl ?_
    refine rr_lload (q := 9) dX12_in_7 rfl rfl ?_
    refine rr_lcmp (q := 10) dX12_in_9 rfl ?_
    refine rr_if_gt (q := 13) (tgt := 17) dX12_in_10 (by decide) rfl hm (fun hm => ?_) (fun hm => ?_)
    · refine rr_iconst (q := 18) (v := 0) dX12_in_17 rfl (by decide) ?_
      obtain rfl := Option.some.inj hm
      exact rr_zret dX12_in_18 rfl rfl hp
    · refine rr_iconst (q := 14) (v := 1) dX12_in_13 rfl (by decide) ?_
      refine rr_goto (tgt := 18) dX12_in_14 (by decide) ?_
      obtain rfl := Option.some.inj hm
      exact rr_zret dX12_in_18 rfl rfl hp
theorem cc_X12_in {x : vv_E} {v0 : Int64} {v2 : Int64} {v4 : Int64} {h : vv_H} {o : Int32}  (hm : ff_X12_in v0 v2 v4 = some o) : vv_C x vv_TR yX12_in mm_X12_in [.long v0, .long v2, .long v4] h (fun v g => v = some (.int o) ∧ g = h) := vv_entry (by decide +kernel) rfl (Nat.le_of_ble_eq_true rfl) rfl (vt_X12_in  hm ⟨rfl, rfl⟩)
def ff_X12_tell (h : vv_H) (v1 : Int32) (v2 : Int32) (v3 : Int32) (v4 : Int32) : Option (vv_H) := vv_ck (h.1 0 6) 60 (vv_let (vv_iu h 5 (h.1 0 6).toNatClampNeg v1) (fun g2 => vv_ck (g2.1 0 6) 60 (vv_let (vv_iu g2 6 (g2.1 0 6).toNatClampNeg v2) (fun g5 => vv_ck (g5.1 0 6) 60 (vv_let (vv_iu g5 7 (g5.1 0 6).toNatClampNeg v3) (fun g8 => vv_ck (g8.1 0 6) 60 (vv_let (vv_iu g8 8 (g8.1 0 6).toNatClampNeg v4) (fun g11 => vv_ck (g11.1 0 6) 60 (vv_let (vv_iu g11 9 (g11.1 0 6).toNatClampNeg (g11.1 0 0)) (fun g14 => vv_let (vv_iu g14 0 6 ((g14.1 0 6) + (1 : Int32))) (fun g16 => some g16)))))))))))
set_option maxHeartbeats 200000 in
theorem vt_X12_tell {x : vv_E} {post : Option Value → vv_H → Prop} {h : vv_H} {v1 : Int32} {v2 : Int32} {v3 : Int32} {v4 : Int32} {o : vv_H}  (hm : ff_X12_tell  h v1 v2 v3 v4 = some o) (hp : post none o) : vv_V x vv_TR mm_X12_tell post 0 [some (.ref (vv_ad x 0)), some (.int v1), some (.int v2), some (.int v3), some (.int v4)] [] h := by
  unfold ff_X12_tell at hm
  refine rr_aload_n (q := 1) dX12_tell_0 rfl rfl ?_
  refine gf_X12_22 (q := 4) rfl dX12_tell_1 rfl ?_
  refine rr_aload_n (q := 5) dX12_tell_4 rfl rfl ?_
  refine gf_X12_200 (q := 8) rfl dX12_tell_5 rfl ?_
  refine rr_iload_n (q := 9) dX12_tell_8 rfl rfl ?_
  obtain ⟨c1, hm⟩ := vv_ck_of hm
  obtain ⟨g2, c3, hm⟩ := vv_let_of hm
  refine rr_iast (q := 10) ylR_5 ynR_5 c1 dX12_tell_9 rfl ?_
  rw [← c3]
  refine rr_aload_n (q := 11) dX12_tell_10 rfl rfl ?_
  refine gf_X12_25 (q := 14) rfl dX12_tell_11 rfl ?_
  refine rr_aload_n (q := 15) dX12_tell_14 rfl rfl ?_
  refine gf_X12_200 (q := 18) rfl dX12_tell_15 rfl ?_
  refine rr_iload_n (q := 19) dX12_tell_18 rfl rfl ?_
  obtain ⟨c4, hm⟩ := vv_ck_of hm
  obtain ⟨g5, c6, hm⟩ := vv_let_of hm
  refine rr_iast (q := 20) ylR_6 ynR_6 c4 dX12_tell_19 rfl ?_
  rw [← c6]
  refine rr_aload_n (q := 21) dX12_tell_20 rfl rfl ?_
  refine gf_X12_28 (q := 24) rfl dX12_tell_21 rfl ?_
  refine rr_aload_n (q := 25) dX12_tell_24 rfl rfl ?_
  refine gf_X12_200 (q := 28) rfl dX12_tell_25 rfl ?_
  refine rr_iload_n (q := 29) dX12_tell_28 rfl rfl ?_
  obtain ⟨c7, hm⟩ := vv_ck_of hm
  obtain ⟨g8, c9, hm⟩ := vv_let_of hm
  refine rr_iast (q := 30) ylR_7 ynR_7 c7 dX12_tell_29 rfl ?_
  rw [← c9]
  refine rr_aload_n (q := 31) dX12_tell_30 rfl rfl ?_
  refine gf_X12_31 (q := 34) rfl dX12_tell_31 rfl ?_
  refine rr_aload_n (q := 35) dX12_tell_34 rfl rfl ?_
  refine gf_X12_200 (q := 38) rfl dX12_tell_35 rfl ?_
  refine rr_iload (q := 40) dX12_tell_38 rfl rfl ?_
  obtain ⟨c10, hm⟩ := vv_ck_of hm
  obtain ⟨g11, c12, hm⟩ := vv_let_of hm
  refine rr_iast (q := 41) ylR_8 ynR_8 c10 dX12_tell_40 rfl ?_
  rw [← c12]
  refine rr_aload_n (q := 42) dX12_tell_41 rfl rfl ?_
  refine gf_X12_34 (q := 45) rfl dX12_tell_42 rfl ?_
  refine rr_aload_n (q := 46) dX12_tell_45 rfl rfl ?_
  refine gf_X12_200 (q := 49) rfl dX12_tell_46 rfl ?_
  refine rr_aload_n (q := 50) dX12_tell_49 rfl rfl ?_
  refine gf_X12_187 (q := 53) rfl dX12_tell_50 rfl ?_
  obtain ⟨c13, hm⟩ := vv_ck_of hm
  obtain ⟨g14, c15, hm⟩ := vv_let_of hm
  refine rr_iast (q := 54) ylR_9 ynR_9 c13 dX12_tell_53 rfl ?_
  rw [← c15]
  refine rr_aload_n (q := 55) dX12_tell_54 rfl rfl ?_
  refine rr_dup (q := 56) dX12_tell_55 rfl rfl ?_
  refine gf_X12_200 (q := 59) rfl dX12_tell_56 rfl ?_
  refine rr_iconst (q := 60) (v := 1) dX12_tell_59 rfl (by decide) ?_
  refine rr_iadd (q := 61) dX12_tell_60 rfl ?_
  refine pf_X12_200 (q := 64) rfl dX12_tell_61 rfl (fun g16 c17 => ?_)
  replace hm := vv_letE hm c17
  obtain rfl := Option.some.inj hm
  exact rr_vret dX12_tell_64 rfl hp
theorem cc_X12_tell {x : vv_E} {h : vv_H} {v1 : Int32} {v2 : Int32} {v3 : Int32} {v4 : Int32} {o : vv_H}  (hm : ff_X12_tell h v1 v2 v3 v4 = some o) : vv_C x vv_TR yX12_tell mm_X12_tell [.ref (vv_ad x 0), .int v1, .int v2, .int v3, .int v4] h (fun v g => v = none ∧ g = o) := vv_entry (by decide +kernel) rfl (Nat.le_of_ble_eq_true rfl) rfl (vt_X12_tell  hm ⟨rfl, rfl⟩)
def ff_X12_knownOf_B9 (u1 : Int32) (u2 : Int32) (u3 : Int32) (u4 : Int32) (h : vv_H) (s5 : Int32) (s6 : Int32) (s7 : Int32) : Option ((Int32 × Int32 × Int32) ⊕ ((Int32))) := (if (h.1 0 6) ≤ s7 then some (.inr s5) else vv_ck s7 60 ((if (h.1 5 s7.toNatClampNeg) = u1 then vv_ck s7 60 ((if (h.1 6 s7.toNatClampNeg) = u2 then vv_ck s7 60 ((if u3 < (h.1 9 s7.toNatClampNeg) then vv_let (s7 + 1) (fun w8 => some (.inl (s5, s6, w8))) else vv_ck s7 60 ((if u4 < (h.1 8 s7.toNatClampNeg) then vv_let (s7 + 1) (fun w11 => some (.inl (s5, s6, w11))) else vv_ck s7 60 ((if (h.1 8 s7.toNatClampNeg) < s6 then vv_let (s7 + 1) (fun w14 => some (.inl (s5, s6, w14))) else vv_ck s7 60 (vv_let (h.1 7 s7.toNatClampNeg) (fun w17 => vv_ck s7 60 (vv_let (h.1 8 s7.toNatClampNeg) (fun w20 => vv_let (s7 + 1) (fun w22 => some (.inl (w17, w20, w22))))))))))))) else vv_let (s7 + 1) (fun w5 => some (.inl (s5, s6, w5))))) else vv_let (s7 + 1) (fun w2 => some (.inl (s5, s6, w2))))))
def ff_X12_knownOf (h : vv_H) (v1 : Int32) (v2 : Int32) (v3 : Int32) (v4 : Int32) : Option (Int32) := (vv_lp (fun (zs : Int32 × Int32 × Int32) => ff_X12_knownOf_B9  v1 v2 v3 v4 h zs.1 zs.2.1 zs.2.2) vv_F ((0 : Int32), (-1 : Int32), (0 : Int32))).bind (fun (e25 : (Int32)) => some e25)
set_option maxHeartbeats 200000 in
theorem vt_X12_knownOf_B9 {x : vv_E} {post : Option Value → vv_H → Prop} {u1 : Int32} {u2 : Int32} {u3 : Int32} {u4 : Int32} {h : vv_H} {s5 : Int32} {s6 : Int32} {s7 : Int32} {o : (Int32 × Int32 × Int32) ⊕ ((Int32))}  (hm : ff_X12_knownOf_B9  u1 u2 u3 u4 h s5 s6 s7 = some o) (hI : ∀ (z5 : Int32) (z6 : Int32) (z7 : Int32) , o = .inl (z5, z6, z7) → vv_V x vv_TR mm_X12_knownOf post 9 [some (.ref (vv_ad x 0)), some (.int u1), some (.int u2), some (.int u3), some (.int u4), some (.int z5), some (.int z6), some (.int z7)] [] h) (hX0 : ∀ (z5 : Int32), o = .inr z5 → vv_V x vv_TR mm_X12_knownOf post 99 [none, none, none, none, none, some (.int z5), none, none] [] h) : vv_V x vv_TR mm_X12_knownOf post 9 [some (.ref (vv_ad x 0)), some (.int u1), some (.int u2), some (.int u3), some (.int u4), some (.int s5), some (.int s6), some (.int s7)] [] h := by
  unfold ff_X12_knownOf_B9 at hm
  refine rr_iload (q := 11) dX12_knownOf_9 rfl rfl ?_
  refine rr_aload_n (q := 12) dX12_knownOf_11 rfl rfl ?_
  refine gf_X12_200 (q := 15) rfl dX12_knownOf_12 rfl ?_
  refine rr_icmp_ge (q := 18) (tgt := 99) dX12_knownOf_15 (by decide) rfl hm (fun hm => ?_) (fun hm => ?_)
  · obtain rfl := Option.some.inj hm
    refine rr_sub [false, false, false, false, false, true, false, false] rfl ?_
    exact hX0 s5 rfl
  · refine rr_aload_n (q := 19) dX12_knownOf_18 rfl rfl ?_
    refine gf_X12_22 (q := 22) rfl dX12_knownOf_19 rfl ?_
    refine rr_iload (q := 24) dX12_knownOf_22 rfl rfl ?_
    obtain ⟨c1, hm⟩ := vv_ck_of hm
    refine rr_iald (q := 25) ylR_5 ynR_5 c1 dX12_knownOf_24 rfl ?_
    refine rr_iload_n (q := 26) dX12_knownOf_25 rfl rfl ?_
    refine rr_icmp_ne (q := 29) (tgt := 93) dX12_knownOf_26 (by decide) rfl hm (fun hm => ?_) (fun hm => ?_)
    · obtain ⟨w2, c3, hm⟩ := vv_let_of hm
      refine rr_iinc (q := 96) [some (.ref (vv_ad x 0)), some (.int u1), some (.int u2), some (.int u3), some (.int u4), some (.int s5), some (.int s6), some (.int w2)] dX12_knownOf_93 rfl rfl c3.symm (Nat.le_of_ble_eq_true rfl) rfl rfl ?_
      refine rr_goto (tgt := 9) dX12_knownOf_96 (by decide) ?_
      obtain rfl := Option.some.inj hm
      exact hI s5 s6 w2 rfl
    · refine rr_aload_n (q := 30) dX12_knownOf_29 rfl rfl ?_
      refine gf_X12_25 (q := 33) rfl dX12_knownOf_30 rfl ?_
      refine rr_iload (q := 35) dX12_knownOf_33 rfl rfl ?_
      obtain ⟨c4, hm⟩ := vv_ck_of hm
      refine rr_iald (q := 36) ylR_6 ynR_6 c4 dX12_knownOf_35 rfl ?_
      refine rr_iload_n (q := 37) dX12_knownOf_36 rfl rfl ?_
      refine rr_icmp_ne (q := 40) (tgt := 93) dX12_knownOf_37 (by decide) rfl hm (fun hm => ?_) (fun hm => ?_)
      · obtain ⟨w5, c6, hm⟩ := vv_let_of hm
        refine rr_iinc (q := 96) [some (.ref (vv_ad x 0)), some (.int u1), some (.int u2), some (.int u3), some (.int u4), some (.int s5), some (.int s6), some (.int w5)] dX12_knownOf_93 rfl rfl c6.symm (Nat.le_of_ble_eq_true rfl) rfl rfl ?_
        refine rr_goto (tgt := 9) dX12_knownOf_96 (by decide) ?_
        obtain rfl := Option.some.inj hm
        exact hI s5 s6 w5 rfl
      · refine rr_aload_n (q := 41) dX12_knownOf_40 rfl rfl ?_
        refine gf_X12_34 (q := 44) rfl dX12_knownOf_41 rfl ?_
        refine rr_iload (q := 46) dX12_knownOf_44 rfl rfl ?_
        obtain ⟨c7, hm⟩ := vv_ck_of hm
        refine rr_iald (q := 47) ylR_9 ynR_9 c7 dX12_knownOf_46 rfl ?_
        refine rr_iload_n (q := 48) dX12_knownOf_47 rfl rfl ?_
        refine rr_icmp_gt (q := 51) (tgt := 93) dX12_knownOf_48 (by decide) rfl hm (fun hm => ?_) (fun hm => ?_)
        · obtain ⟨w8, c9, hm⟩ := vv_let_of hm
          refine rr_iinc (q := 96) [some (.ref (vv_ad x 0)), some (.int u1), some (.int u2), some (.int u3), some (.int u4), some (.int s5), some (.int s6), some (.int w8)] dX12_knownOf_93 rfl rfl c9.symm (Nat.le_of_ble_eq_true rfl) rfl rfl ?_
          refine rr_goto (tgt := 9) dX12_knownOf_96 (by decide) ?_
          obtain rfl := Option.some.inj hm
          exact hI s5 s6 w8 rfl
        · refine rr_aload_n (q := 52) dX12_knownOf_51 rfl rfl ?_
          refine gf_X12_31 (q := 55) rfl dX12_knownOf_52 rfl ?_
          refine rr_iload (q := 57) dX12_knownOf_55 rfl rfl ?_
          obtain ⟨c10, hm⟩ := vv_ck_of hm
          refine rr_iald (q := 58) ylR_8 ynR_8 c10 dX12_knownOf_57 rfl ?_
          refine rr_iload (q := 60) dX12_knownOf_58 rfl rfl ?_
          refine rr_icmp_gt (q := 63) (tgt := 93) dX12_knownOf_60 (by decide) rfl hm (fun hm => ?_) (fun hm => ?_)
          · obtain ⟨w11, c12, hm⟩ := vv_let_of hm
            refine rr_iinc (q := 96) [some (.ref (vv_ad x 0)), some (.int u1), some (.int u2), some (.int u3), some (.int u4), some (.int s5), some (.int s6), some (.int w11)] dX12_knownOf_93 rfl rfl c12.symm (Nat.le_of_ble_eq_true rfl) rfl rfl ?_
            refine rr_goto (tgt := 9) dX12_knownOf_96 (by decide) ?_
            obtain rfl := Option.some.inj hm
            exact hI s5 s6 w11 rfl
          · refine rr_aload_n (q := 64) dX12_knownOf_63 rfl rfl ?_
            refine gf_X12_31 (q := 67) rfl dX12_knownOf_64 rfl ?_
            refine rr_iload (q := 69) dX12_knownOf_67 rfl rfl ?_
            obtain ⟨c13, hm⟩ := vv_ck_of hm
            refine rr_iald (q := 70) ylR_8 ynR_8 c13 dX12_knownOf_69 rfl ?_
            refine rr_iload (q := 72) dX12_knownOf_70 rfl rfl ?_
            refine rr_icmp_lt (q := 75) (tgt := 93) dX12_knownOf_72 (by decide) rfl hm (fun hm => ?_) (fun hm => ?_)
            · obtain ⟨w14, c15, hm⟩ := vv_let_of hm
              refine rr_iinc (q := 96) [some (.ref (vv_ad x 0)), some (.int u1), some (.int u2), some (.int u3), some (.int u4), some (.int s5), some (.int s6), some (.int w14)] dX12_knownOf_93 rfl rfl c15.symm (Nat.le_of_ble_eq_true rfl) rfl rfl ?_
              refine rr_goto (tgt := 9) dX12_knownOf_96 (by decide) ?_
              obtain rfl := Option.some.inj hm
              exact hI s5 s6 w14 rfl
            · refine rr_aload_n (q := 76) dX12_knownOf_75 rfl rfl ?_
              refine gf_X12_28 (q := 79) rfl dX12_knownOf_76 rfl ?_
              refine rr_iload (q := 81) dX12_knownOf_79 rfl rfl ?_
              obtain ⟨c16, hm⟩ := vv_ck_of hm
              refine rr_iald (q := 82) ylR_7 ynR_7 c16 dX12_knownOf_81 rfl ?_
              obtain ⟨w17, c18, hm⟩ := vv_let_of hm
              rw [← c18]
              refine rr_istore (q := 84) [some (.ref (vv_ad x 0)), some (.int u1), some (.int u2), some (.int u3), some (.int u4), some (.int w17), some (.int s6), some (.int s7)] dX12_knownOf_82 rfl (Nat.le_of_ble_eq_true rfl) rfl rfl ?_
              refine rr_aload_n (q := 85) dX12_knownOf_84 rfl rfl ?_
              refine gf_X12_31 (q := 88) rfl dX12_knownOf_85 rfl ?_
              refine rr_iload (q := 90) dX12_knownOf_88 rfl rfl ?_
              obtain ⟨c19, hm⟩ := vv_ck_of hm
              refine rr_iald (q := 91) ylR_8 ynR_8 c19 dX12_knownOf_90 rfl ?_
              obtain ⟨w20, c21, hm⟩ := vv_let_of hm
              rw [← c21]
              refine rr_istore (q := 93) [some (.ref (vv_ad x 0)), some (.int u1), some (.int u2), some (.int u3), some (.int u4), some (.int w17), some (.int w20), some (.int s7)] dX12_knownOf_91 rfl (Nat.le_of_ble_eq_true rfl) rfl rfl ?_
              obtain ⟨w22, c23, hm⟩ := vv_let_of hm
              refine rr_iinc (q := 96) [some (.ref (vv_ad x 0)), some (.int u1), some (.int u2), some (.int u3), some (.int u4), some (.int w17), some (.int w20), some (.int w22)] dX12_knownOf_93 rfl rfl c23.symm (Nat.le_of_ble_eq_true rfl) rfl rfl ?_
              refine rr_goto (tgt := 9) dX12_knownOf_96 (by decide) ?_
              obtain rfl := Option.some.inj hm
              exact hI w17 w20 w22 rfl
set_option maxHeartbeats 200000 in
theorem vt_X12_knownOf {x : vv_E} {post : Option Value → vv_H → Prop} {h : vv_H} {v1 : Int32} {v2 : Int32} {v3 : Int32} {v4 : Int32} {o : Int32}  (hm : ff_X12_knownOf  h v1 v2 v3 v4 = some o) (hp : post (some (.int o)) h) : vv_V x vv_TR mm_X12_knownOf post 0 [some (.ref (vv_ad x 0)), some (.int v1), some (.int v2), some (.int v3), some (.int v4), none, none, none] [] h := by
  unfold ff_X12_knownOf at hm
  refine rr_iconst (q := 1) (v := 0) dX12_knownOf_0 rfl (by decide) ?_
  refine rr_istore (q := 3) [some (.ref (vv_ad x 0)), some (.int v1), some (.int v2), some (.int v3), some (.int v4), some (.int (0 : Int32)), none, none] dX12_knownOf_1 rfl (Nat.le_of_ble_eq_true rfl) rfl rfl ?_
  refine rr_iconst (q := 4) (v := -1) dX12_knownOf_3 rfl (by decide) ?_
  refine rr_istore (q := 6) [some (.ref (vv_ad x 0)), some (.int v1), some (.int v2), some (.int v3), some (.int v4), some (.int (0 : Int32)), some (.int (-1 : Int32)), none] dX12_knownOf_4 rfl (Nat.le_of_ble_eq_true rfl) rfl rfl ?_
  refine rr_iconst (q := 7) (v := 0) dX12_knownOf_6 rfl (by decide) ?_
  refine rr_istore (q := 9) [some (.ref (vv_ad x 0)), some (.int v1), some (.int v2), some (.int v3), some (.int v4), some (.int (0 : Int32)), some (.int (-1 : Int32)), some (.int (0 : Int32))] dX12_knownOf_7 rfl (Nat.le_of_ble_eq_true rfl) rfl rfl ?_
  obtain ⟨r24, k26, hm⟩ := vv_bind hm
  refine vv_lp_link (P := fun (zs : Int32 × Int32 × Int32) => vv_V x vv_TR mm_X12_knownOf post 9 [some (.ref (vv_ad x 0)), some (.int v1), some (.int v2), some (.int v3), some (.int v4), some (.int zs.1), some (.int zs.2.1), some (.int zs.2.2)] [] h) (Q := (fun (e25 : (Int32)) => vv_V x vv_TR mm_X12_knownOf post 99 [none, none, none, none, none, some (.int e25), none, none] [] h)) (fun zs o hm hI hX => ?_) vv_F ((0 : Int32), (-1 : Int32), (0 : Int32)) r24 k26 ?_
  · exact vt_X12_knownOf_B9   hm (fun z5 z6 z7 e => hI (z5, z6, z7) e) (fun z5 e => hX z5 e)
  · generalize r24 = e25 at hm ⊢
    try dsimp only [Sum.elim_inl, Sum.elim_inr] at hm
    try dsimp only [Sum.elim_inl, Sum.elim_inr]
    refine rr_iload (q := 101) dX12_knownOf_99 rfl rfl ?_
    obtain rfl := Option.some.inj hm
    exact rr_iret dX12_knownOf_101 rfl hp
theorem cc_X12_knownOf {x : vv_E} {h : vv_H} {v1 : Int32} {v2 : Int32} {v3 : Int32} {v4 : Int32} {o : Int32}  (hm : ff_X12_knownOf h v1 v2 v3 v4 = some o) : vv_C x vv_TR yX12_knownOf mm_X12_knownOf [.ref (vv_ad x 0), .int v1, .int v2, .int v3, .int v4] h (fun v g => v = some (.int o) ∧ g = h) := vv_entry (by decide +kernel) rfl (Nat.le_of_ble_eq_true rfl) rfl (vt_X12_knownOf  hm ⟨rfl, rfl⟩)
def ff_X12_sizeOf_B4 (u0 : Int32) (s1 : Int32) (s2 : Int32) : Option ((Int32 × Int32) ⊕ ((Int32))) := (if (16 : Int32) ≤ s2 then some (.inr s1) else vv_let (s1 + ((u0 >>> (s2 &&& 31)) &&& (1 : Int32))) (fun w1 => vv_let (s2 + 1) (fun w3 => some (.inl (w1, w3)))))
def ff_X12_sizeOf (v0 : Int32) : Option (Int32) := (vv_lp (fun (zs : Int32 × Int32) => ff_X12_sizeOf_B4  v0 zs.1 zs.2) vv_F ((0 : Int32), (0 : Int32))).bind (fun (e6 : (Int32)) => some e6)
set_option maxHeartbeats 200000 in
theorem vt_X12_sizeOf_B4 {x : vv_E} {post : Option Value → vv_H → Prop} {u0 : Int32} {s1 : Int32} {s2 : Int32} {h : vv_H} {o : (Int32 × Int32) ⊕ ((Int32))}  (hm : ff_X12_sizeOf_B4  u0 s1 s2 = some o) (hI : ∀ (z1 : Int32) (z2 : Int32) , o = .inl (z1, z2) → vv_V x vv_TR mm_X12_sizeOf post 4 [some (.int u0), some (.int z1), some (.int z2)] [] h) (hX0 : ∀ (z1 : Int32), o = .inr z1 → vv_V x vv_TR mm_X12_sizeOf post 24 [none, some (.int z1), none] [] h) : vv_V x vv_TR mm_X12_sizeOf post 4 [some (.int u0), some (.int s1), some (.int s2)] [] h := by
  unfold ff_X12_sizeOf_B4 at hm
  refine rr_iload_n (q := 5) dX12_sizeOf_4 rfl rfl ?_
  refine rr_bipush (q := 7) (v := 16) dX12_sizeOf_5 rfl (by decide) ?_
  refine rr_icmp_ge (q := 10) (tgt := 24) dX12_sizeOf_7 (by decide) rfl hm (fun hm => ?_) (fun hm => ?_)
  · obtain rfl := Option.some.inj hm
    refine rr_sub [false, true, false] rfl ?_
    exact hX0 s1 rfl
  · refine rr_iload_n (q := 11) dX12_sizeOf_10 rfl rfl ?_
    refine rr_iload_n (q := 12) dX12_sizeOf_11 rfl rfl ?_
    refine rr_iload_n (q := 13) dX12_sizeOf_12 rfl rfl ?_
    refine rr_ishr (q := 14) dX12_sizeOf_13 rfl ?_
    refine rr_iconst (q := 15) (v := 1) dX12_sizeOf_14 rfl (by decide) ?_
    refine rr_iand (q := 16) dX12_sizeOf_15 rfl ?_
    refine rr_iadd (q := 17) dX12_sizeOf_16 rfl ?_
    obtain ⟨w1, c2, hm⟩ := vv_let_of hm
    rw [← c2]
    refine rr_istore_n (q := 18) [some (.int u0), some (.int w1), some (.int s2)] dX12_sizeOf_17 rfl rfl (Nat.le_of_ble_eq_true rfl) rfl rfl ?_
    obtain ⟨w3, c4, hm⟩ := vv_let_of hm
    refine rr_iinc (q := 21) [some (.int u0), some (.int w1), some (.int w3)] dX12_sizeOf_18 rfl rfl c4.symm (Nat.le_of_ble_eq_true rfl) rfl rfl ?_
    refine rr_goto (tgt := 4) dX12_sizeOf_21 (by decide) ?_
    obtain rfl := Option.some.inj hm
    exact hI w1 w3 rfl
set_option maxHeartbeats 200000 in
theorem vt_X12_sizeOf {x : vv_E} {post : Option Value → vv_H → Prop} {v0 : Int32} {h : vv_H} {o : Int32}  (hm : ff_X12_sizeOf  v0 = some o) (hp : post (some (.int o)) h) : vv_V x vv_TR mm_X12_sizeOf post 0 [some (.int v0), none, none] [] h := by
  unfold ff_X12_sizeOf at hm
  refine rr_iconst (q := 1) (v := 0) dX12_sizeOf_0 rfl (by decide) ?_
  refine rr_istore_n (q := 2) [some (.int v0), some (.int (0 : Int32)), none] dX12_sizeOf_1 rfl rfl (Nat.le_of_ble_eq_true rfl) rfl rfl ?_
  refine rr_iconst (q := 3) (v := 0) dX12_sizeOf_2 rfl (by decide) ?_
  refine rr_istore_n (q := 4) [some (.int v0), some (.int (0 : Int32)), some (.int (0 : Int32))] dX12_sizeOf_3 rfl rfl (Nat.le_of_ble_eq_true rfl) rfl rfl ?_
  obtain ⟨r5, k7, hm⟩ := vv_bind hm
  refine vv_lp_link (P := fun (zs : Int32 × Int32) => vv_V x vv_TR mm_X12_sizeOf post 4 [some (.int v0), some (.int zs.1), some (.int zs.2)] [] h) (Q := (fun (e6 : (Int32)) => vv_V x vv_TR mm_X12_sizeOf post 24 [none, some (.int e6), none] [] h)) (fun zs o hm hI hX => ?_) vv_F ((0 : Int32), (0 : Int32)) r5 k7 ?_
  · exact vt_X12_sizeOf_B4   hm (fun z1 z2 e => hI (z1, z2) e) (fun z1 e => hX z1 e)
  · generalize r5 = e6 at hm ⊢
    try dsimp only [Sum.elim_inl, Sum.elim_inr] at hm
    try dsimp only [Sum.elim_inl, Sum.elim_inr]
    refine rr_iload_n (q := 25) dX12_sizeOf_24 rfl rfl ?_
    obtain rfl := Option.some.inj hm
    exact rr_iret dX12_sizeOf_25 rfl hp
theorem cc_X12_sizeOf {x : vv_E} {v0 : Int32} {h : vv_H} {o : Int32}  (hm : ff_X12_sizeOf v0 = some o) : vv_C x vv_TR yX12_sizeOf mm_X12_sizeOf [.int v0] h (fun v g => v = some (.int o) ∧ g = h) := vv_entry (by decide +kernel) rfl (Nat.le_of_ble_eq_true rfl) rfl (vt_X12_sizeOf  hm ⟨rfl, rfl⟩)
def ff_X12_fittedBy_B4 (u1 : Int32) (h : vv_H) (s2 : Int32) (s3 : Int32) : Option ((Int32 × Int32) ⊕ ((Int32))) := (if (h.1 0 12) ≤ s3 then some (.inr s2) else (if ((u1 >>> (s3 &&& 31)) &&& (1 : Int32)) = (1 : Int32) then vv_ck s3 12 (vv_let (s2 ||| (h.1 12 s3.toNatClampNeg)) (fun w4 => vv_let (s3 + 1) (fun w6 => some (.inl (w4, w6))))) else vv_let (s3 + 1) (fun w1 => some (.inl ((s2 ||| (0 : Int32)), w1)))))
def ff_X12_fittedBy (h : vv_H) (v1 : Int32) : Option (Int32) := (vv_lp (fun (zs : Int32 × Int32) => ff_X12_fittedBy_B4  v1 h zs.1 zs.2) vv_F ((0 : Int32), (0 : Int32))).bind (fun (e9 : (Int32)) => some e9)
set_option maxHeartbeats 200000 in
theorem vt_X12_fittedBy_B4 {x : vv_E} {post : Option Value → vv_H → Prop} {u1 : Int32} {h : vv_H} {s2 : Int32} {s3 : Int32} {o : (Int32 × Int32) ⊕ ((Int32))}  (hm : ff_X12_fittedBy_B4  u1 h s2 s3 = some o) (hI : ∀ (z2 : Int32) (z3 : Int32) , o = .inl (z2, z3) → vv_V x vv_TR mm_X12_fittedBy post 4 [some (.ref (vv_ad x 0)), some (.int u1), some (.int z2), some (.int z3)] [] h) (hX0 : ∀ (z2 : Int32), o = .inr z2 → vv_V x vv_TR mm_X12_fittedBy post 40 [none, none, some (.int z2), none] [] h) : vv_V x vv_TR mm_X12_fittedBy post 4 [some (.ref (vv_ad x 0)), some (.int u1), some (.int s2), some (.int s3)] [] h := by
  unfold ff_X12_fittedBy_B4 at hm
  refine rr_iload_n (q := 5) dX12_fittedBy_4 rfl rfl ?_
  refine rr_aload_n (q := 6) dX12_fittedBy_5 rfl rfl ?_
  refine gf_X12_235 (q := 9) rfl dX12_fittedBy_6 rfl ?_
  refine rr_icmp_ge (q := 12) (tgt := 40) dX12_fittedBy_9 (by decide) rfl hm (fun hm => ?_) (fun hm => ?_)
  · obtain rfl := Option.some.inj hm
    refine rr_sub [false, false, true, false] rfl ?_
    exact hX0 s2 rfl
  · refine rr_iload_n (q := 13) dX12_fittedBy_12 rfl rfl ?_
    refine rr_iload_n (q := 14) dX12_fittedBy_13 rfl rfl ?_
    refine rr_iload_n (q := 15) dX12_fittedBy_14 rfl rfl ?_
    refine rr_ishr (q := 16) dX12_fittedBy_15 rfl ?_
    refine rr_iconst (q := 17) (v := 1) dX12_fittedBy_16 rfl (by decide) ?_
    refine rr_iand (q := 18) dX12_fittedBy_17 rfl ?_
    refine rr_iconst (q := 19) (v := 1) dX12_fittedBy_18 rfl (by decide) ?_
    refine rr_icmp_ne (q := 22) (tgt := 31) dX12_fittedBy_19 (by decide) rfl hm (fun hm => ?_) (fun hm => ?_)
    · refine rr_iconst (q := 32) (v := 0) dX12_fittedBy_31 rfl (by decide) ?_
      refine rr_ior (q := 33) dX12_fittedBy_32 rfl ?_
      refine rr_istore_n (q := 34) [some (.ref (vv_ad x 0)), some (.int u1), some (.int (s2 ||| (0 : Int32))), some (.int s3)] dX12_fittedBy_33 rfl rfl (Nat.le_of_ble_eq_true rfl) rfl rfl ?_
      obtain ⟨w1, c2, hm⟩ := vv_let_of hm
      refine rr_iinc (q := 37) [some (.ref (vv_ad x 0)), some (.int u1), some (.int (s2 ||| (0 : Int32))), some (.int w1)] dX12_fittedBy_34 rfl rfl c2.symm (Nat.le_of_ble_eq_true rfl) rfl rfl ?_
      refine rr_goto (tgt := 4) dX12_fittedBy_37 (by decide) ?_
      obtain rfl := Option.some.inj hm
      exact hI (s2 ||| (0 : Int32)) w1 rfl
    · refine rr_aload_n (q := 23) dX12_fittedBy_22 rfl rfl ?_
      refine gf_X12_43 (q := 26) rfl dX12_fittedBy_23 rfl ?_
      refine rr_iload_n (q := 27) dX12_fittedBy_26 rfl rfl ?_
      obtain ⟨c3, hm⟩ := vv_ck_of hm
      refine rr_iald (q := 28) ylR_12 ynR_12 c3 dX12_fittedBy_27 rfl ?_
      refine rr_goto (tgt := 32) dX12_fittedBy_28 (by decide) ?_
      refine rr_ior (q := 33) dX12_fittedBy_32 rfl ?_
      obtain ⟨w4, c5, hm⟩ := vv_let_of hm
      rw [← c5]
      refine rr_istore_n (q := 34) [some (.ref (vv_ad x 0)), some (.int u1), some (.int w4), some (.int s3)] dX12_fittedBy_33 rfl rfl (Nat.le_of_ble_eq_true rfl) rfl rfl ?_
      obtain ⟨w6, c7, hm⟩ := vv_let_of hm
      refine rr_iinc (q := 37) [some (.ref (vv_ad x 0)), some (.int u1), some (.int w4), some (.int w6)] dX12_fittedBy_34 rfl rfl c7.symm (Nat.le_of_ble_eq_true rfl) rfl rfl ?_
      refine rr_goto (tgt := 4) dX12_fittedBy_37 (by decide) ?_
      obtain rfl := Option.some.inj hm
      exact hI w4 w6 rfl
set_option maxHeartbeats 200000 in
theorem vt_X12_fittedBy {x : vv_E} {post : Option Value → vv_H → Prop} {h : vv_H} {v1 : Int32} {o : Int32}  (hm : ff_X12_fittedBy  h v1 = some o) (hp : post (some (.int o)) h) : vv_V x vv_TR mm_X12_fittedBy post 0 [some (.ref (vv_ad x 0)), some (.int v1), none, none] [] h := by
  unfold ff_X12_fittedBy at hm
  refine rr_iconst (q := 1) (v := 0) dX12_fittedBy_0 rfl (by decide) ?_
  refine rr_istore_n (q := 2) [some (.ref (vv_ad x 0)), some (.int v1), some (.int (0 : Int32)), none] dX12_fittedBy_1 rfl rfl (Nat.le_of_ble_eq_true rfl) rfl rfl ?_
  refine rr_iconst (q := 3) (v := 0) dX12_fittedBy_2 rfl (by decide) ?_
  refine rr_istore_n (q := 4) [some (.ref (vv_ad x 0)), some (.int v1), some (.int (0 : Int32)), some (.int (0 : Int32))] dX12_fittedBy_3 rfl rfl (Nat.le_of_ble_eq_true rfl) rfl rfl ?_
  obtain ⟨r8, k10, hm⟩ := vv_bind hm
  refine vv_lp_link (P := fun (zs : Int32 × Int32) => vv_V x vv_TR mm_X12_fittedBy post 4 [some (.ref (vv_ad x 0)), some (.int v1), some (.int zs.1), some (.int zs.2)] [] h) (Q := (fun (e9 : (Int32)) => vv_V x vv_TR mm_X12_fittedBy post 40 [none, none, some (.int e9), none] [] h)) (fun zs o hm hI hX => ?_) vv_F ((0 : Int32), (0 : Int32)) r8 k10 ?_
  · exact vt_X12_fittedBy_B4   hm (fun z2 z3 e => hI (z2, z3) e) (fun z2 e => hX z2 e)
  · generalize r8 = e9 at hm ⊢
    try dsimp only [Sum.elim_inl, Sum.elim_inr] at hm
    try dsimp only [Sum.elim_inl, Sum.elim_inr]
    refine rr_iload_n (q := 41) dX12_fittedBy_40 rfl rfl ?_
    obtain rfl := Option.some.inj hm
    exact rr_iret dX12_fittedBy_41 rfl hp
theorem cc_X12_fittedBy {x : vv_E} {h : vv_H} {v1 : Int32} {o : Int32}  (hm : ff_X12_fittedBy h v1 = some o) : vv_C x vv_TR yX12_fittedBy mm_X12_fittedBy [.ref (vv_ad x 0), .int v1] h (fun v g => v = some (.int o) ∧ g = h) := vv_entry (by decide +kernel) rfl (Nat.le_of_ble_eq_true rfl) rfl (vt_X12_fittedBy  hm ⟨rfl, rfl⟩)
def ff_X12_feed_B19 (u1 : Int64) (s3 : Int32) (h : vv_H) : Option ((Int32 × vv_H) ⊕ ((vv_H))) := (if s3 < 0 then some (.inr h) else vv_ck (h.1 0 17) 240 (vv_let (vv_iu h 13 (h.1 0 17).toNatClampNeg (((u1 >>> (s3.toInt64 &&& 63)).toInt32) &&& (255 : Int32))) (fun g2 => vv_let (vv_iu g2 0 17 ((g2.1 0 17) + (1 : Int32))) (fun g4 => vv_let (s3 + (-8)) (fun w6 => some (.inl (w6, g4)))))))
def ff_X12_feed (h : vv_H) (v1 : Int64) : Option (Int32 × vv_H) := (if ((h.1 0 17) + (8 : Int32)) ≤ (240 : Int32) then (vv_lp (fun (zs : Int32 × vv_H) => ff_X12_feed_B19  v1 zs.1 zs.2) vv_F ((56 : Int32), h)).bind (fun (e9 : (vv_H)) => some ((e9.1 0 17), e9)) else some ((-3 : Int32), h))
set_option maxHeartbeats 200000 in
theorem vt_X12_feed_B19 {x : vv_E} {post : Option Value → vv_H → Prop} {u1 : Int64} {s3 : Int32} {h : vv_H} {o : (Int32 × vv_H) ⊕ ((vv_H))}  (hm : ff_X12_feed_B19  u1 s3 h = some o) (hI : ∀ (z3 : Int32) (zh : vv_H), o = .inl (z3, zh) → vv_V x vv_TR mm_X12_feed post 19 [some (.ref (vv_ad x 0)), some (.long u1), none, some (.int z3)] [] zh) (hX0 : ∀  (zh : vv_H), o = .inr zh → vv_V x vv_TR mm_X12_feed post 56 [some (.ref (vv_ad x 0)), none, none, none] [] zh) : vv_V x vv_TR mm_X12_feed post 19 [some (.ref (vv_ad x 0)), some (.long u1), none, some (.int s3)] [] h := by
  unfold ff_X12_feed_B19 at hm
  refine rr_iload_n (q := 20) dX12_feed_19 rfl rfl ?_
  refine rr_if_lt (q := 23) (tgt := 56) dX12_feed_20 (by decide) rfl hm (fun hm => ?_) (fun hm => ?_)
  · obtain rfl := Option.some.inj hm
    refine rr_sub [true, false, false, false] rfl ?_
    exact hX0 h rfl
  · refine rr_aload_n (q := 24) dX12_feed_23 rfl rfl ?_
    refine gf_X12_46 (q := 27) rfl dX12_feed_24 rfl ?_
    refine rr_aload_n (q := 28) dX12_feed_27 rfl rfl ?_
    refine gf_X12_251 (q := 31) rfl dX12_feed_28 rfl ?_
    refine rr_lload_n (q := 32) dX12_feed_31 rfl rfl ?_
    refine rr_iload_n (q := 33) dX12_feed_32 rfl rfl ?_
    refine rr_lshr (q := 34) dX12_feed_33 rfl ?_
    refine rr_l2i (q := 35) dX12_feed_34 rfl ?_
    refine rr_sipush (q := 38) (v := 255) dX12_feed_35 rfl (by decide) ?_
    refine rr_iand (q := 39) dX12_feed_38 rfl ?_
    obtain ⟨c1, hm⟩ := vv_ck_of hm
    obtain ⟨g2, c3, hm⟩ := vv_let_of hm
    refine rr_iast (q := 40) ylR_13 ynR_13 c1 dX12_feed_39 rfl ?_
    rw [← c3]
    refine rr_aload_n (q := 41) dX12_feed_40 rfl rfl ?_
    refine rr_dup (q := 42) dX12_feed_41 rfl rfl ?_
    refine gf_X12_251 (q := 45) rfl dX12_feed_42 rfl ?_
    refine rr_iconst (q := 46) (v := 1) dX12_feed_45 rfl (by decide) ?_
    refine rr_iadd (q := 47) dX12_feed_46 rfl ?_
    refine pf_X12_251 (q := 50) rfl dX12_feed_47 rfl (fun g4 c5 => ?_)
    replace hm := vv_letE hm c5
    obtain ⟨w6, c7, hm⟩ := vv_let_of hm
    refine rr_iinc (q := 53) [some (.ref (vv_ad x 0)), some (.long u1), none, some (.int w6)] dX12_feed_50 rfl rfl c7.symm (Nat.le_of_ble_eq_true rfl) rfl rfl ?_
    refine rr_goto (tgt := 19) dX12_feed_53 (by decide) ?_
    obtain rfl := Option.some.inj hm
    exact hI w6 g4 rfl
set_option maxHeartbeats 200000 in
theorem vt_X12_feed {x : vv_E} {post : Option Value → vv_H → Prop} {h : vv_H} {v1 : Int64} {o : Int32 × vv_H}  (hm : ff_X12_feed  h v1 = some o) (hp : post (some (.int o.1)) o.2) : vv_V x vv_TR mm_X12_feed post 0 [some (.ref (vv_ad x 0)), some (.long v1), none, none] [] h := by
  unfold ff_X12_feed at hm
  refine rr_aload_n (q := 1) dX12_feed_0 rfl rfl ?_
  refine gf_X12_251 (q := 4) rfl dX12_feed_1 rfl ?_
  refine rr_bipush (q := 6) (v := 8) dX12_feed_4 rfl (by decide) ?_
  refine rr_iadd (q := 7) dX12_feed_6 rfl ?_
  refine rr_sipush (q := 10) (v := 240) dX12_feed_7 rfl (by decide) ?_
  refine rr_icmp_le (q := 13) (tgt := 16) dX12_feed_10 (by decide) rfl hm (fun hm => ?_) (fun hm => ?_)
  · refine rr_bipush (q := 18) (v := 56) dX12_feed_16 rfl (by decide) ?_
    refine rr_istore_n (q := 19) [some (.ref (vv_ad x 0)), some (.long v1), none, some (.int (56 : Int32))] dX12_feed_18 rfl rfl (Nat.le_of_ble_eq_true rfl) rfl rfl ?_
    obtain ⟨r8, k10, hm⟩ := vv_bind hm
    refine vv_lp_link (P := fun (zs : Int32 × vv_H) => vv_V x vv_TR mm_X12_feed post 19 [some (.ref (vv_ad x 0)), some (.long v1), none, some (.int zs.1)] [] zs.2) (Q := (fun (e9 : (vv_H)) => vv_V x vv_TR mm_X12_feed post 56 [some (.ref (vv_ad x 0)), none, none, none] [] e9)) (fun zs o hm hI hX => ?_) vv_F ((56 : Int32), h) r8 k10 ?_
    · exact vt_X12_feed_B19   hm (fun z3 zh e => hI (z3, zh) e) (fun zh e => hX zh e)
    · generalize r8 = e9 at hm ⊢
      try dsimp only [Sum.elim_inl, Sum.elim_inr] at hm
      try dsimp only [Sum.elim_inl, Sum.elim_inr]
      refine rr_aload_n (q := 57) dX12_feed_56 rfl rfl ?_
      refine gf_X12_251 (q := 60) rfl dX12_feed_57 rfl ?_
      obtain rfl := Option.some.inj hm
      exact rr_iret dX12_feed_60 rfl hp
  · refine rr_bipush (q := 15) (v := -3) dX12_feed_13 rfl (by decide) ?_
    obtain rfl := Option.some.inj hm
    exact rr_iret dX12_feed_15 rfl hp
theorem cc_X12_feed {x : vv_E} {h : vv_H} {v1 : Int64} {o : Int32 × vv_H}  (hm : ff_X12_feed h v1 = some o) : vv_C x vv_TR yX12_feed mm_X12_feed [.ref (vv_ad x 0), .long v1] h (fun v g => v = some (.int o.1) ∧ g = o.2) := vv_entry (by decide +kernel) rfl (Nat.le_of_ble_eq_true rfl) rfl (vt_X12_feed  hm ⟨rfl, rfl⟩)
def ff_X12_byteAt (h : vv_H) (v1 : Int32) : Option (Int32) := (if (h.1 0 17) ≤ v1 then some (-4 : Int32) else vv_ck v1 240 (some (h.1 13 v1.toNatClampNeg)))
set_option maxHeartbeats 200000 in
theorem vt_X12_byteAt {x : vv_E} {post : Option Value → vv_H → Prop} {h : vv_H} {v1 : Int32} {o : Int32}  (hm : ff_X12_byteAt  h v1 = some o) (hp : post (some (.int o)) h) : vv_V x vv_TR mm_X12_byteAt post 0 [some (.ref (vv_ad x 0)), some (.int v1)] [] h := by
  unfold ff_X12_byteAt at hm
  refine rr_iload_n (q := 1) dX12_byteAt_0 rfl rfl ?_
  refine rr_aload_n (q := 2) dX12_byteAt_1 rfl rfl ?_
  refine gf_X12_251 (q := 5) rfl dX12_byteAt_2 rfl ?_
  refine rr_icmp_ge (q := 8) (tgt := 17) dX12_byteAt_5 (by decide) rfl hm (fun hm => ?_) (fun hm => ?_)
  · refine rr_bipush (q := 19) (v := -4) dX12_byteAt_17 rfl (by decide) ?_
    obtain rfl := Option.some.inj hm
    exact rr_iret dX12_byteAt_19 rfl hp
  · refine rr_aload_n (q := 9) dX12_byteAt_8 rfl rfl ?_
    refine gf_X12_46 (q := 12) rfl dX12_byteAt_9 rfl ?_
    refine rr_iload_n (q := 13) dX12_byteAt_12 rfl rfl ?_
    obtain ⟨c1, hm⟩ := vv_ck_of hm
    refine rr_iald (q := 14) ylR_13 ynR_13 c1 dX12_byteAt_13 rfl ?_
    refine rr_goto (tgt := 19) dX12_byteAt_14 (by decide) ?_
    obtain rfl := Option.some.inj hm
    exact rr_iret dX12_byteAt_19 rfl hp
theorem cc_X12_byteAt {x : vv_E} {h : vv_H} {v1 : Int32} {o : Int32}  (hm : ff_X12_byteAt h v1 = some o) : vv_C x vv_TR yX12_byteAt mm_X12_byteAt [.ref (vv_ad x 0), .int v1] h (fun v g => v = some (.int o) ∧ g = h) := vv_entry (by decide +kernel) rfl (Nat.le_of_ble_eq_true rfl) rfl (vt_X12_byteAt  hm ⟨rfl, rfl⟩)
def ff_X12_fails (h : vv_H) (v1 : Int32) : Option (vv_H) := (if (h.1 0 19) = 0 then vv_let (vv_iu h 0 19 v1) (fun g1 => vv_let (vv_iu g1 0 20 (g1.1 0 22)) (fun g3 => some g3)) else some h)
set_option maxHeartbeats 200000 in
theorem vt_X12_fails {x : vv_E} {post : Option Value → vv_H → Prop} {h : vv_H} {v1 : Int32} {o : vv_H}  (hm : ff_X12_fails  h v1 = some o) (hp : post none o) : vv_V x vv_TR mm_X12_fails post 0 [some (.ref (vv_ad x 0)), some (.int v1)] [] h := by
  unfold ff_X12_fails at hm
  refine rr_aload_n (q := 1) dX12_fails_0 rfl rfl ?_
  refine gf_X12_254 (q := 4) rfl dX12_fails_1 rfl ?_
  refine rr_if_ne (q := 7) (tgt := 20) dX12_fails_4 (by decide) rfl hm (fun hm => ?_) (fun hm => ?_)
  · obtain rfl := Option.some.inj hm
    exact rr_vret dX12_fails_20 rfl hp
  · refine rr_aload_n (q := 8) dX12_fails_7 rfl rfl ?_
    refine rr_iload_n (q := 9) dX12_fails_8 rfl rfl ?_
    refine pf_X12_254 (q := 12) rfl dX12_fails_9 rfl (fun g1 c2 => ?_)
    replace hm := vv_letE hm c2
    refine rr_aload_n (q := 13) dX12_fails_12 rfl rfl ?_
    refine rr_aload_n (q := 14) dX12_fails_13 rfl rfl ?_
    refine gf_X12_257 (q := 17) rfl dX12_fails_14 rfl ?_
    refine pf_X12_260 (q := 20) rfl dX12_fails_17 rfl (fun g3 c4 => ?_)
    replace hm := vv_letE hm c4
    obtain rfl := Option.some.inj hm
    exact rr_vret dX12_fails_20 rfl hp
theorem cc_X12_fails {x : vv_E} {h : vv_H} {v1 : Int32} {o : vv_H}  (hm : ff_X12_fails h v1 = some o) : vv_C x vv_TR yX12_fails mm_X12_fails [.ref (vv_ad x 0), .int v1] h (fun v g => v = none ∧ g = o) := vv_entry (by decide +kernel) rfl (Nat.le_of_ble_eq_true rfl) rfl (vt_X12_fails  hm ⟨rfl, rfl⟩)
def ff_X12_isName (h : vv_H) (v1 : Int32) : Option (Int32) := (if (h.1 0 23) = (1 : Int32) then (if (h.1 0 24) = v1 then some (1 : Int32) else some (0 : Int32)) else some (0 : Int32))
set_option maxHeartbeats 200000 in
theorem vt_X12_isName {x : vv_E} {post : Option Value → vv_H → Prop} {h : vv_H} {v1 : Int32} {o : Int32}  (hm : ff_X12_isName  h v1 = some o) (hp : post (some (.int o)) h) : vv_V x vv_TR mm_X12_isName post 0 [some (.ref (vv_ad x 0)), some (.int v1)] [] h := by
  unfold ff_X12_isName at hm
  refine rr_aload_n (q := 1) dX12_isName_0 rfl rfl ?_
  refine gf_X12_272 (q := 4) rfl dX12_isName_1 rfl ?_
  refine rr_iconst (q := 5) (v := 1) dX12_isName_4 rfl (by decide) ?_
  refine rr_icmp_ne (q := 8) (tgt := 20) dX12_isName_5 (by decide) rfl hm (fun hm => ?_) (fun hm => ?_)
  · refine rr_iconst (q := 21) (v := 0) dX12_isName_20 rfl (by decide) ?_
    obtain rfl := Option.some.inj hm
    exact rr_zret dX12_isName_21 rfl rfl hp
  · refine rr_aload_n (q := 9) dX12_isName_8 rfl rfl ?_
    refine gf_X12_269 (q := 12) rfl dX12_isName_9 rfl ?_
    refine rr_iload_n (q := 13) dX12_isName_12 rfl rfl ?_
    refine rr_icmp_ne (q := 16) (tgt := 20) dX12_isName_13 (by decide) rfl hm (fun hm => ?_) (fun hm => ?_)
    · refine rr_iconst (q := 21) (v := 0) dX12_isName_20 rfl (by decide) ?_
      obtain rfl := Option.some.inj hm
      exact rr_zret dX12_isName_21 rfl rfl hp
    · refine rr_iconst (q := 17) (v := 1) dX12_isName_16 rfl (by decide) ?_
      refine rr_goto (tgt := 21) dX12_isName_17 (by decide) ?_
      obtain rfl := Option.some.inj hm
      exact rr_zret dX12_isName_21 rfl rfl hp
theorem cc_X12_isName {x : vv_E} {h : vv_H} {v1 : Int32} {o : Int32}  (hm : ff_X12_isName h v1 = some o) : vv_C x vv_TR yX12_isName mm_X12_isName [.ref (vv_ad x 0), .int v1] h (fun v g => v = some (.int o) ∧ g = h) := vv_entry (by decide +kernel) rfl (Nat.le_of_ble_eq_true rfl) rfl (vt_X12_isName  hm ⟨rfl, rfl⟩)
def ff_X12_isRule (h : vv_H) : Option (Int32) := (if (h.1 0 23) = (1 : Int32) then (if (2 : Int32) < (h.1 0 24) then some (0 : Int32) else some (1 : Int32)) else some (0 : Int32))
set_option maxHeartbeats 200000 in
theorem vt_X12_isRule {x : vv_E} {post : Option Value → vv_H → Prop} {h : vv_H} {o : Int32}  (hm : ff_X12_isRule  h = some o) (hp : post (some (.int o)) h) : vv_V x vv_TR mm_X12_isRule post 0 [some (.ref (vv_ad x 0))] [] h := by
  unfold ff_X12_isRule at hm
  refine rr_aload_n (q := 1) dX12_isRule_0 rfl rfl ?_
  refine gf_X12_272 (q := 4) rfl dX12_isRule_1 rfl ?_
  refine rr_iconst (q := 5) (v := 1) dX12_isRule_4 rfl (by decide) ?_
  refine rr_icmp_ne (q := 8) (tgt := 20) dX12_isRule_5 (by decide) rfl hm (fun hm => ?_) (fun hm => ?_)
  · refine rr_iconst (q := 21) (v := 0) dX12_isRule_20 rfl (by decide) ?_
    obtain rfl := Option.some.inj hm
    exact rr_zret dX12_isRule_21 rfl rfl hp
  · refine rr_aload_n (q := 9) dX12_isRule_8 rfl rfl ?_
    refine gf_X12_269 (q := 12) rfl dX12_isRule_9 rfl ?_
    refine rr_iconst (q := 13) (v := 2) dX12_isRule_12 rfl (by decide) ?_
    refine rr_icmp_gt (q := 16) (tgt := 20) dX12_isRule_13 (by decide) rfl hm (fun hm => ?_) (fun hm => ?_)
    · refine rr_iconst (q := 21) (v := 0) dX12_isRule_20 rfl (by decide) ?_
      obtain rfl := Option.some.inj hm
      exact rr_zret dX12_isRule_21 rfl rfl hp
    · refine rr_iconst (q := 17) (v := 1) dX12_isRule_16 rfl (by decide) ?_
      refine rr_goto (tgt := 21) dX12_isRule_17 (by decide) ?_
      obtain rfl := Option.some.inj hm
      exact rr_zret dX12_isRule_21 rfl rfl hp
theorem cc_X12_isRule {x : vv_E} {h : vv_H} {o : Int32}  (hm : ff_X12_isRule h = some o) : vv_C x vv_TR yX12_isRule mm_X12_isRule [.ref (vv_ad x 0)] h (fun v g => v = some (.int o) ∧ g = h) := vv_entry (by decide +kernel) rfl (Nat.le_of_ble_eq_true rfl) rfl (vt_X12_isRule  hm ⟨rfl, rfl⟩)
def ff_X12_fault (h : vv_H) : Option (Int32) := some (h.1 0 18)
set_option maxHeartbeats 200000 in
theorem vt_X12_fault {x : vv_E} {post : Option Value → vv_H → Prop} {h : vv_H} {o : Int32}  (hm : ff_X12_fault  h = some o) (hp : post (some (.int o)) h) : vv_V x vv_TR mm_X12_fault post 0 [some (.ref (vv_ad x 0))] [] h := by
  unfold ff_X12_fault at hm
  refine rr_aload_n (q := 1) dX12_fault_0 rfl rfl ?_
  refine gf_X12_312 (q := 4) rfl dX12_fault_1 rfl ?_
  obtain rfl := Option.some.inj hm
  exact rr_iret dX12_fault_4 rfl hp
theorem cc_X12_fault {x : vv_E} {h : vv_H} {o : Int32}  (hm : ff_X12_fault h = some o) : vv_C x vv_TR yX12_fault mm_X12_fault [.ref (vv_ad x 0)] h (fun v g => v = some (.int o) ∧ g = h) := vv_entry (by decide +kernel) rfl (Nat.le_of_ble_eq_true rfl) rfl (vt_X12_fault  hm ⟨rfl, rfl⟩)
def ff_X12_doHold_J72  (u1 : Int32) (u2 : Int32) (m3 : Int32) (m4 : Int32) (m5 : Int32) (z0 : Int32) (h : vv_H) : Option ((Int32 × Int32) ⊕ ((Int32))) := (if m3 = 0 then vv_let (m4 + 1) (fun w7 => some (.inl ((0 : Int32), w7))) else vv_ck (m5 + (1 : Int32)) 108 ((if (h.1 21 (m5 + (1 : Int32)).toNatClampNeg) = (60 : Int32) then vv_ck (m5 + (2 : Int32)) 108 ((if (h.1 21 (m5 + (2 : Int32)).toNatClampNeg) ≤ z0 then vv_let (m4 + 1) (fun w22 => some (.inl ((0 : Int32), w22))) else vv_let (m4 + 1) (fun w24 => some (.inl ((1 : Int32), w24))))) else vv_ck (m5 + (1 : Int32)) 108 ((if (h.1 21 (m5 + (1 : Int32)).toNatClampNeg) = (62 : Int32) then vv_ck (m5 + (2 : Int32)) 108 ((if z0 ≤ (h.1 21 (m5 + (2 : Int32)).toNatClampNeg) then vv_let (m4 + 1) (fun w17 => some (.inl ((0 : Int32), w17))) else vv_let (m4 + 1) (fun w19 => some (.inl ((1 : Int32), w19))))) else vv_ck (m5 + (2 : Int32)) 108 ((if z0 = (h.1 21 (m5 + (2 : Int32)).toNatClampNeg) then vv_let (m4 + 1) (fun w14 => some (.inl ((1 : Int32), w14))) else vv_let (m4 + 1) (fun w12 => some (.inl ((0 : Int32), w12))))))))))
def ff_X12_doHold_B5 (u1 : Int32) (u2 : Int32) (h : vv_H) (s3 : Int32) (s4 : Int32) : Option ((Int32 × Int32) ⊕ ((Int32))) := vv_ck u1 12 ((if (h.1 20 u1.toNatClampNeg) ≤ s4 then some (.inr s3) else vv_let (((9 : Int32) * u1) + ((3 : Int32) * s4)) (fun w2 => vv_ck w2 108 ((if (h.1 21 w2.toNatClampNeg) = 0 then vv_ck u2 12 (ff_X12_doHold_J72  u1 u2 s3 s4 w2 (h.1 1 u2.toNatClampNeg) h) else vv_ck w2 108 ((if (h.1 21 w2.toNatClampNeg) = (1 : Int32) then vv_ck u2 12 (ff_X12_doHold_J72  u1 u2 s3 s4 w2 (h.1 2 u2.toNatClampNeg) h) else vv_ck u2 12 (ff_X12_doHold_J72  u1 u2 s3 s4 w2 (h.1 3 u2.toNatClampNeg) h))))))))
def ff_X12_doHold (h : vv_H) (v1 : Int32) (v2 : Int32) : Option (Int32) := (vv_lp (fun (zs : Int32 × Int32) => ff_X12_doHold_B5  v1 v2 h zs.1 zs.2) vv_F ((1 : Int32), (0 : Int32))).bind (fun (e29 : (Int32)) => vv_zk e29 (some e29))
set_option maxHeartbeats 200000 in
theorem vt_X12_doHold_J72 {x : vv_E} {post : Option Value → vv_H → Prop}   {u1 : Int32} {u2 : Int32} {m3 : Int32} {m4 : Int32} {m5 : Int32} {z0 : Int32} {h : vv_H} {o : (Int32 × Int32) ⊕ ((Int32))}  (hm : ff_X12_doHold_J72  u1 u2 m3 m4 m5 z0 h = some o) (hI : ∀ (z3 : Int32) (z4 : Int32) , o = .inl (z3, z4) → vv_V x vv_TR mm_X12_doHold post 5 [some (.ref (vv_ad x 0)), some (.int u1), some (.int u2), some (.int z3), some (.int z4), none, none] [] h) (hX0 : ∀ (z3 : Int32), o = .inr z3 → vv_V x vv_TR mm_X12_doHold post 166 [none, none, none, some (.int z3), none, none, none] [] h) : vv_V x vv_TR mm_X12_doHold post 72 [some (.ref (vv_ad x 0)), some (.int u1), some (.int u2), some (.int m3), some (.int m4), some (.int m5), none] [.int z0] h := by
  unfold ff_X12_doHold_J72 at hm
  refine rr_istore (q := 74) [some (.ref (vv_ad x 0)), some (.int u1), some (.int u2), some (.int m3), some (.int m4), some (.int m5), some (.int z0)] dX12_doHold_72 rfl (Nat.le_of_ble_eq_true rfl) rfl rfl ?_
  refine rr_iload_n (q := 75) dX12_doHold_74 rfl rfl ?_
  refine rr_if_eq (q := 78) (tgt := 158) dX12_doHold_75 (by decide) rfl hm (fun hm => ?_) (fun hm => ?_)
  · refine rr_iconst (q := 159) (v := 0) dX12_doHold_158 rfl (by decide) ?_
    refine rr_istore_n (q := 160) [some (.ref (vv_ad x 0)), some (.int u1), some (.int u2), some (.int (0 : Int32)), some (.int m4), some (.int m5), some (.int z0)] dX12_doHold_159 rfl rfl (Nat.le_of_ble_eq_true rfl) rfl rfl ?_
    obtain ⟨w7, c8, hm⟩ := vv_let_of hm
    refine rr_iinc (q := 163) [some (.ref (vv_ad x 0)), some (.int u1), some (.int u2), some (.int (0 : Int32)), some (.int w7), some (.int m5), some (.int z0)] dX12_doHold_160 rfl rfl c8.symm (Nat.le_of_ble_eq_true rfl) rfl rfl ?_
    refine rr_goto (tgt := 5) dX12_doHold_163 (by decide) ?_
    obtain rfl := Option.some.inj hm
    refine rr_sub [true, true, true, true, true, false, false] rfl ?_
    exact hI (0 : Int32) w7 rfl
  · refine rr_aload_n (q := 79) dX12_doHold_78 rfl rfl ?_
    refine gf_X12_70 (q := 82) rfl dX12_doHold_79 rfl ?_
    refine rr_iload (q := 84) dX12_doHold_82 rfl rfl ?_
    refine rr_iconst (q := 85) (v := 1) dX12_doHold_84 rfl (by decide) ?_
    refine rr_iadd (q := 86) dX12_doHold_85 rfl ?_
    obtain ⟨c9, hm⟩ := vv_ck_of hm
    refine rr_iald (q := 87) ylR_21 ynR_21 c9 dX12_doHold_86 rfl ?_
    refine rr_bipush (q := 89) (v := 60) dX12_doHold_87 rfl (by decide) ?_
    refine rr_icmp_ne (q := 92) (tgt := 109) dX12_doHold_89 (by decide) rfl hm (fun hm => ?_) (fun hm => ?_)
    · refine rr_aload_n (q := 110) dX12_doHold_109 rfl rfl ?_
      refine gf_X12_70 (q := 113) rfl dX12_doHold_110 rfl ?_
      refine rr_iload (q := 115) dX12_doHold_113 rfl rfl ?_
      refine rr_iconst (q := 116) (v := 1) dX12_doHold_115 rfl (by decide) ?_
      refine rr_iadd (q := 117) dX12_doHold_116 rfl ?_
      obtain ⟨c10, hm⟩ := vv_ck_of hm
      refine rr_iald (q := 118) ylR_21 ynR_21 c10 dX12_doHold_117 rfl ?_
      refine rr_bipush (q := 120) (v := 62) dX12_doHold_118 rfl (by decide) ?_
      refine rr_icmp_ne (q := 123) (tgt := 140) dX12_doHold_120 (by decide) rfl hm (fun hm => ?_) (fun hm => ?_)
      · refine rr_iload (q := 142) dX12_doHold_140 rfl rfl ?_
        refine rr_aload_n (q := 143) dX12_doHold_142 rfl rfl ?_
        refine gf_X12_70 (q := 146) rfl dX12_doHold_143 rfl ?_
        refine rr_iload (q := 148) dX12_doHold_146 rfl rfl ?_
        refine rr_iconst (q := 149) (v := 2) dX12_doHold_148 rfl (by decide) ?_
        refine rr_iadd (q := 150) dX12_doHold_149 rfl ?_
        obtain ⟨c11, hm⟩ := vv_ck_of hm
        refine rr_iald (q := 151) ylR_21 ynR_21 c11 dX12_doHold_150 rfl ?_
        refine rr_icmp_ne (q := 154) (tgt := 158) dX12_doHold_151 (by decide) rfl hm (fun hm => ?_) (fun hm => ?_)
        · refine rr_iconst (q := 159) (v := 0) dX12_doHold_158 rfl (by decide) ?_
          refine rr_istore_n (q := 160) [some (.ref (vv_ad x 0)), some (.int u1), some (.int u2), some (.int (0 : Int32)), some (.int m4), some (.int m5), some (.int z0)] dX12_doHold_159 rfl rfl (Nat.le_of_ble_eq_true rfl) rfl rfl ?_
          obtain ⟨w12, c13, hm⟩ := vv_let_of hm
          refine rr_iinc (q := 163) [some (.ref (vv_ad x 0)), some (.int u1), some (.int u2), some (.int (0 : Int32)), some (.int w12), some (.int m5), some (.int z0)] dX12_doHold_160 rfl rfl c13.symm (Nat.le_of_ble_eq_true rfl) rfl rfl ?_
          refine rr_goto (tgt := 5) dX12_doHold_163 (by decide) ?_
          obtain rfl := Option.some.inj hm
          refine rr_sub [true, true, true, true, true, false, false] rfl ?_
          exact hI (0 : Int32) w12 rfl
        · refine rr_iconst (q := 155) (v := 1) dX12_doHold_154 rfl (by decide) ?_
          refine rr_goto (tgt := 159) dX12_doHold_155 (by decide) ?_
          refine rr_istore_n (q := 160) [some (.ref (vv_ad x 0)), some (.int u1), some (.int u2), some (.int (1 : Int32)), some (.int m4), some (.int m5), some (.int z0)] dX12_doHold_159 rfl rfl (Nat.le_of_ble_eq_true rfl) rfl rfl ?_
          obtain ⟨w14, c15, hm⟩ := vv_let_of hm
          refine rr_iinc (q := 163) [some (.ref (vv_ad x 0)), some (.int u1), some (.int u2), some (.int (1 : Int32)), some (.int w14), some (.int m5), some (.int z0)] dX12_doHold_160 rfl rfl c15.symm (Nat.le_of_ble_eq_true rfl) rfl rfl ?_
          refine rr_goto (tgt := 5) dX12_doHold_163 (by decide) ?_
          obtain rfl := Option.some.inj hm
          refine rr_sub [true, true, true, true, true, false, false] rfl ?_
          exact hI (1 : Int32) w14 rfl
      · refine rr_iload (q := 125) dX12_doHold_123 rfl rfl ?_
        refine rr_aload_n (q := 126) dX12_doHold_125 rfl rfl ?_
        refine gf_X12_70 (q := 129) rfl dX12_doHold_126 rfl ?_
        refine rr_iload (q := 131) dX12_doHold_129 rfl rfl ?_
        refine rr_iconst (q := 132) (v := 2) dX12_doHold_131 rfl (by decide) ?_
        refine rr_iadd (q := 133) dX12_doHold_132 rfl ?_
        obtain ⟨c16, hm⟩ := vv_ck_of hm
        refine rr_iald (q := 134) ylR_21 ynR_21 c16 dX12_doHold_133 rfl ?_
        refine rr_icmp_le (q := 137) (tgt := 158) dX12_doHold_134 (by decide) rfl hm (fun hm => ?_) (fun hm => ?_)
        · refine rr_iconst (q := 159) (v := 0) dX12_doHold_158 rfl (by decide) ?_
          refine rr_istore_n (q := 160) [some (.ref (vv_ad x 0)), some (.int u1), some (.int u2), some (.int (0 : Int32)), some (.int m4), some (.int m5), some (.int z0)] dX12_doHold_159 rfl rfl (Nat.le_of_ble_eq_true rfl) rfl rfl ?_
          obtain ⟨w17, c18, hm⟩ := vv_let_of hm
          refine rr_iinc (q := 163) [some (.ref (vv_ad x 0)), some (.int u1), some (.int u2), some (.int (0 : Int32)), some (.int w17), some (.int m5), some (.int z0)] dX12_doHold_160 rfl rfl c18.symm (Nat.le_of_ble_eq_true rfl) rfl rfl ?_
          refine rr_goto (tgt := 5) dX12_doHold_163 (by decide) ?_
          obtain rfl := Option.some.inj hm
          refine rr_sub [true, true, true, true, true, false, false] rfl ?_
          exact hI (0 : Int32) w17 rfl
        · refine rr_goto (tgt := 154) dX12_doHold_137 (by decide) ?_
          refine rr_iconst (q := 155) (v := 1) dX12_doHold_154 rfl (by decide) ?_
          refine rr_goto (tgt := 159) dX12_doHold_155 (by decide) ?_
          refine rr_istore_n (q := 160) [some (.ref (vv_ad x 0)), some (.int u1), some (.int u2), some (.int (1 : Int32)), some (.int m4), some (.int m5), some (.int z0)] dX12_doHold_159 rfl rfl (Nat.le_of_ble_eq_true rfl) rfl rfl ?_
          obtain ⟨w19, c20, hm⟩ := vv_let_of hm
          refine rr_iinc (q := 163) [some (.ref (vv_ad x 0)), some (.int u1), some (.int u2), some (.int (1 : Int32)), some (.int w19), some (.int m5), some (.int z0)] dX12_doHold_160 rfl rfl c20.symm (Nat.le_of_ble_eq_true rfl) rfl rfl ?_
          refine rr_goto (tgt := 5) dX12_doHold_163 (by decide) ?_
          obtain rfl := Option.some.inj hm
          refine rr_sub [true, true, true, true, true, false, false] rfl ?_
          exact hI (1 : Int32) w19 rfl
    · refine rr_iload (q := 94) dX12_doHold_92 rfl rfl ?_
      refine rr_aload_n (q := 95) dX12_doHold_94 rfl rfl ?_
      refine gf_X12_70 (q := 98) rfl dX12_doHold_95 rfl ?_
      refine rr_iload (q := 100) dX12_doHold_98 rfl rfl ?_
      refine rr_iconst (q := 101) (v := 2) dX12_doHold_100 rfl (by decide) ?_
      refine rr_iadd (q := 102) dX12_doHold_101 rfl ?_
      obtain ⟨c21, hm⟩ := vv_ck_of hm
      refine rr_iald (q := 103) ylR_21 ynR_21 c21 dX12_doHold_102 rfl ?_
      refine rr_icmp_ge (q := 106) (tgt := 158) dX12_doHold_103 (by decide) rfl hm (fun hm => ?_) (fun hm => ?_)
      · refine rr_iconst (q := 159) (v := 0) dX12_doHold_158 rfl (by decide) ?_
        refine rr_istore_n (q := 160) [some (.ref (vv_ad x 0)), some (.int u1), some (.int u2), some (.int (0 : Int32)), some (.int m4), some (.int m5), some (.int z0)] dX12_doHold_159 rfl rfl (Nat.le_of_ble_eq_true rfl) rfl rfl ?_
        obtain ⟨w22, c23, hm⟩ := vv_let_of hm
        refine rr_iinc (q := 163) [some (.ref (vv_ad x 0)), some (.int u1), some (.int u2), some (.int (0 : Int32)), some (.int w22), some (.int m5), some (.int z0)] dX12_doHold_160 rfl rfl c23.symm (Nat.le_of_ble_eq_true rfl) rfl rfl ?_
        refine rr_goto (tgt := 5) dX12_doHold_163 (by decide) ?_
        obtain rfl := Option.some.inj hm
        refine rr_sub [true, true, true, true, true, false, false] rfl ?_
        exact hI (0 : Int32) w22 rfl
      · refine rr_goto (tgt := 154) dX12_doHold_106 (by decide) ?_
        refine rr_iconst (q := 155) (v := 1) dX12_doHold_154 rfl (by decide) ?_
        refine rr_goto (tgt := 159) dX12_doHold_155 (by decide) ?_
        refine rr_istore_n (q := 160) [some (.ref (vv_ad x 0)), some (.int u1), some (.int u2), some (.int (1 : Int32)), some (.int m4), some (.int m5), some (.int z0)] dX12_doHold_159 rfl rfl (Nat.le_of_ble_eq_true rfl) rfl rfl ?_
        obtain ⟨w24, c25, hm⟩ := vv_let_of hm
        refine rr_iinc (q := 163) [some (.ref (vv_ad x 0)), some (.int u1), some (.int u2), some (.int (1 : Int32)), some (.int w24), some (.int m5), some (.int z0)] dX12_doHold_160 rfl rfl c25.symm (Nat.le_of_ble_eq_true rfl) rfl rfl ?_
        refine rr_goto (tgt := 5) dX12_doHold_163 (by decide) ?_
        obtain rfl := Option.some.inj hm
        refine rr_sub [true, true, true, true, true, false, false] rfl ?_
        exact hI (1 : Int32) w24 rfl
set_option maxHeartbeats 200000 in
theorem vt_X12_doHold_B5 {x : vv_E} {post : Option Value → vv_H → Prop} {u1 : Int32} {u2 : Int32} {h : vv_H} {s3 : Int32} {s4 : Int32} {o : (Int32 × Int32) ⊕ ((Int32))}  (hm : ff_X12_doHold_B5  u1 u2 h s3 s4 = some o) (hI : ∀ (z3 : Int32) (z4 : Int32) , o = .inl (z3, z4) → vv_V x vv_TR mm_X12_doHold post 5 [some (.ref (vv_ad x 0)), some (.int u1), some (.int u2), some (.int z3), some (.int z4), none, none] [] h) (hX0 : ∀ (z3 : Int32), o = .inr z3 → vv_V x vv_TR mm_X12_doHold post 166 [none, none, none, some (.int z3), none, none, none] [] h) : vv_V x vv_TR mm_X12_doHold post 5 [some (.ref (vv_ad x 0)), some (.int u1), some (.int u2), some (.int s3), some (.int s4), none, none] [] h := by
  unfold ff_X12_doHold_B5 at hm
  refine rr_iload (q := 7) dX12_doHold_5 rfl rfl ?_
  refine rr_aload_n (q := 8) dX12_doHold_7 rfl rfl ?_
  refine gf_X12_67 (q := 11) rfl dX12_doHold_8 rfl ?_
  refine rr_iload_n (q := 12) dX12_doHold_11 rfl rfl ?_
  obtain ⟨c1, hm⟩ := vv_ck_of hm
  refine rr_iald (q := 13) ylR_20 ynR_20 c1 dX12_doHold_12 rfl ?_
  refine rr_icmp_ge (q := 16) (tgt := 166) dX12_doHold_13 (by decide) rfl hm (fun hm => ?_) (fun hm => ?_)
  · obtain rfl := Option.some.inj hm
    refine rr_sub [false, false, false, true, false, false, false] rfl ?_
    exact hX0 s3 rfl
  · refine rr_bipush (q := 18) (v := 9) dX12_doHold_16 rfl (by decide) ?_
    refine rr_iload_n (q := 19) dX12_doHold_18 rfl rfl ?_
    refine rr_imul (q := 20) dX12_doHold_19 rfl ?_
    refine rr_iconst (q := 21) (v := 3) dX12_doHold_20 rfl (by decide) ?_
    refine rr_iload (q := 23) dX12_doHold_21 rfl rfl ?_
    refine rr_imul (q := 24) dX12_doHold_23 rfl ?_
    refine rr_iadd (q := 25) dX12_doHold_24 rfl ?_
    obtain ⟨w2, c3, hm⟩ := vv_let_of hm
    rw [← c3]
    refine rr_istore (q := 27) [some (.ref (vv_ad x 0)), some (.int u1), some (.int u2), some (.int s3), some (.int s4), some (.int w2), none] dX12_doHold_25 rfl (Nat.le_of_ble_eq_true rfl) rfl rfl ?_
    refine rr_aload_n (q := 28) dX12_doHold_27 rfl rfl ?_
    refine gf_X12_70 (q := 31) rfl dX12_doHold_28 rfl ?_
    refine rr_iload (q := 33) dX12_doHold_31 rfl rfl ?_
    obtain ⟨c4, hm⟩ := vv_ck_of hm
    refine rr_iald (q := 34) ylR_21 ynR_21 c4 dX12_doHold_33 rfl ?_
    refine rr_if_ne (q := 37) (tgt := 46) dX12_doHold_34 (by decide) rfl hm (fun hm => ?_) (fun hm => ?_)
    · refine rr_aload_n (q := 47) dX12_doHold_46 rfl rfl ?_
      refine gf_X12_70 (q := 50) rfl dX12_doHold_47 rfl ?_
      refine rr_iload (q := 52) dX12_doHold_50 rfl rfl ?_
      obtain ⟨c5, hm⟩ := vv_ck_of hm
      refine rr_iald (q := 53) ylR_21 ynR_21 c5 dX12_doHold_52 rfl ?_
      refine rr_iconst (q := 54) (v := 1) dX12_doHold_53 rfl (by decide) ?_
      refine rr_icmp_ne (q := 57) (tgt := 66) dX12_doHold_54 (by decide) rfl hm (fun hm => ?_) (fun hm => ?_)
      · refine rr_aload_n (q := 67) dX12_doHold_66 rfl rfl ?_
        refine gf_X12_16 (q := 70) rfl dX12_doHold_67 rfl ?_
        refine rr_iload_n (q := 71) dX12_doHold_70 rfl rfl ?_
        obtain ⟨c6, hm⟩ := vv_ck_of hm
        refine rr_iald (q := 72) ylR_3 ynR_3 c6 dX12_doHold_71 rfl ?_
        exact vt_X12_doHold_J72  hm hI hX0
      · refine rr_aload_n (q := 58) dX12_doHold_57 rfl rfl ?_
        refine gf_X12_13 (q := 61) rfl dX12_doHold_58 rfl ?_
        refine rr_iload_n (q := 62) dX12_doHold_61 rfl rfl ?_
        obtain ⟨c26, hm⟩ := vv_ck_of hm
        refine rr_iald (q := 63) ylR_2 ynR_2 c26 dX12_doHold_62 rfl ?_
        refine rr_goto (tgt := 72) dX12_doHold_63 (by decide) ?_
        exact vt_X12_doHold_J72  hm hI hX0
    · refine rr_aload_n (q := 38) dX12_doHold_37 rfl rfl ?_
      refine gf_X12_7 (q := 41) rfl dX12_doHold_38 rfl ?_
      refine rr_iload_n (q := 42) dX12_doHold_41 rfl rfl ?_
      obtain ⟨c27, hm⟩ := vv_ck_of hm
      refine rr_iald (q := 43) ylR_1 ynR_1 c27 dX12_doHold_42 rfl ?_
      refine rr_goto (tgt := 72) dX12_doHold_43 (by decide) ?_
      exact vt_X12_doHold_J72  hm hI hX0
set_option maxHeartbeats 200000 in
theorem vt_X12_doHold {x : vv_E} {post : Option Value → vv_H → Prop} {h : vv_H} {v1 : Int32} {v2 : Int32} {o : Int32}  (hm : ff_X12_doHold  h v1 v2 = some o) (hp : post (some (.int o)) h) : vv_V x vv_TR mm_X12_doHold post 0 [some (.ref (vv_ad x 0)), some (.int v1), some (.int v2), none, none, none, none] [] h := by
  unfold ff_X12_doHold at hm
  refine rr_iconst (q := 1) (v := 1) dX12_doHold_0 rfl (by decide) ?_
  refine rr_istore_n (q := 2) [some (.ref (vv_ad x 0)), some (.int v1), some (.int v2), some (.int (1 : Int32)), none, none, none] dX12_doHold_1 rfl rfl (Nat.le_of_ble_eq_true rfl) rfl rfl ?_
  refine rr_iconst (q := 3) (v := 0) dX12_doHold_2 rfl (by decide) ?_
  refine rr_istore (q := 5) [some (.ref (vv_ad x 0)), some (.int v1), some (.int v2), some (.int (1 : Int32)), some (.int (0 : Int32)), none, none] dX12_doHold_3 rfl (Nat.le_of_ble_eq_true rfl) rfl rfl ?_
  obtain ⟨r28, k31, hm⟩ := vv_bind hm
  refine vv_lp_link (P := fun (zs : Int32 × Int32) => vv_V x vv_TR mm_X12_doHold post 5 [some (.ref (vv_ad x 0)), some (.int v1), some (.int v2), some (.int zs.1), some (.int zs.2), none, none] [] h) (Q := (fun (e29 : (Int32)) => vv_V x vv_TR mm_X12_doHold post 166 [none, none, none, some (.int e29), none, none, none] [] h)) (fun zs o hm hI hX => ?_) vv_F ((1 : Int32), (0 : Int32)) r28 k31 ?_
  · exact vt_X12_doHold_B5   hm (fun z3 z4 e => hI (z3, z4) e) (fun z3 e => hX z3 e)
  · generalize r28 = e29 at hm ⊢
    try dsimp only [Sum.elim_inl, Sum.elim_inr] at hm
    try dsimp only [Sum.elim_inl, Sum.elim_inr]
    refine rr_iload_n (q := 167) dX12_doHold_166 rfl rfl ?_
    obtain ⟨c30, hm⟩ := vv_zk_of hm
    obtain rfl := Option.some.inj hm
    exact rr_zret dX12_doHold_167 rfl c30 hp
theorem cc_X12_doHold {x : vv_E} {h : vv_H} {v1 : Int32} {v2 : Int32} {o : Int32}  (hm : ff_X12_doHold h v1 v2 = some o) : vv_C x vv_TR yX12_doHold mm_X12_doHold [.ref (vv_ad x 0), .int v1, .int v2] h (fun v g => v = some (.int o) ∧ g = h) := vv_entry (by decide +kernel) rfl (Nat.le_of_ble_eq_true rfl) rfl (vt_X12_doHold  hm ⟨rfl, rfl⟩)
def ff_X12_ruleOf_B21 (u1 : Int32) (u2 : Int32) (u3 : Int32) (h : vv_H) (s4 : Int32) (s5 : Int32) (s6 : Int32) : Option ((Int32 × Int32 × Int32) ⊕ ((Int32))) := (if (h.1 0 27) ≤ s6 then some (.inr s4) else vv_ck s6 12 ((if (h.1 16 s6.toNatClampNeg) = u2 then vv_ck s6 12 ((if (h.1 18 s6.toNatClampNeg) = u1 then vv_ck s6 12 ((if u3 < (h.1 17 s6.toNatClampNeg) then vv_let (s6 + 1) (fun w8 => some (.inl (s4, s5, w8))) else vv_ck s6 12 ((if (h.1 17 s6.toNatClampNeg) ≤ s5 then vv_let (s6 + 1) (fun w11 => some (.inl (s4, s5, w11))) else vv_ck s6 12 (vv_let (h.1 19 s6.toNatClampNeg) (fun w14 => vv_ck s6 12 (vv_let (h.1 17 s6.toNatClampNeg) (fun w17 => vv_let (s6 + 1) (fun w19 => some (.inl (w14, w17, w19))))))))))) else vv_let (s6 + 1) (fun w5 => some (.inl (s4, s5, w5))))) else vv_let (s6 + 1) (fun w2 => some (.inl (s4, s5, w2))))))
def ff_X12_ruleOf_J13  (u1 : Int32) (u2 : Int32) (u3 : Int32) (z0 : Int32) (h : vv_H) : Option (Int32) := (vv_lp (fun (zs : Int32 × Int32 × Int32) => ff_X12_ruleOf_B21  u1 u2 u3 h zs.1 zs.2.1 zs.2.2) vv_F (z0, (-1 : Int32), (0 : Int32))).bind (fun (e22 : (Int32)) => some e22)
def ff_X12_ruleOf (h : vv_H) (v1 : Int32) (v2 : Int32) (v3 : Int32) : Option (Int32) := (if v2 = (1 : Int32) then ff_X12_ruleOf_J13  v1 v2 v3 (365 : Int32) h else ff_X12_ruleOf_J13  v1 v2 v3 (100 : Int32) h)
set_option maxHeartbeats 200000 in
theorem vt_X12_ruleOf_B21 {x : vv_E} {post : Option Value → vv_H → Prop} {u1 : Int32} {u2 : Int32} {u3 : Int32} {h : vv_H} {s4 : Int32} {s5 : Int32} {s6 : Int32} {o : (Int32 × Int32 × Int32) ⊕ ((Int32))}  (hm : ff_X12_ruleOf_B21  u1 u2 u3 h s4 s5 s6 = some o) (hI : ∀ (z4 : Int32) (z5 : Int32) (z6 : Int32) , o = .inl (z4, z5, z6) → vv_V x vv_TR mm_X12_ruleOf post 21 [some (.ref (vv_ad x 0)), some (.int u1), some (.int u2), some (.int u3), some (.int z4), some (.int z5), some (.int z6)] [] h) (hX0 : ∀ (z4 : Int32), o = .inr z4 → vv_V x vv_TR mm_X12_ruleOf post 99 [none, none, none, none, some (.int z4), none, none] [] h) : vv_V x vv_TR mm_X12_ruleOf post 21 [some (.ref (vv_ad x 0)), some (.int u1), some (.int u2), some (.int u3), some (.int s4), some (.int s5), some (.int s6)] [] h := by
  unfold ff_X12_ruleOf_B21 at hm
  refine rr_iload (q := 23) dX12_ruleOf_21 rfl rfl ?_
  refine rr_aload_n (q := 24) dX12_ruleOf_23 rfl rfl ?_
  refine gf_X12_315 (q := 27) rfl dX12_ruleOf_24 rfl ?_
  refine rr_icmp_ge (q := 30) (tgt := 99) dX12_ruleOf_27 (by decide) rfl hm (fun hm => ?_) (fun hm => ?_)
  · obtain rfl := Option.some.inj hm
    refine rr_sub [false, false, false, false, true, false, false] rfl ?_
    exact hX0 s4 rfl
  · refine rr_aload_n (q := 31) dX12_ruleOf_30 rfl rfl ?_
    refine gf_X12_55 (q := 34) rfl dX12_ruleOf_31 rfl ?_
    refine rr_iload (q := 36) dX12_ruleOf_34 rfl rfl ?_
    obtain ⟨c1, hm⟩ := vv_ck_of hm
    refine rr_iald (q := 37) ylR_16 ynR_16 c1 dX12_ruleOf_36 rfl ?_
    refine rr_iload_n (q := 38) dX12_ruleOf_37 rfl rfl ?_
    refine rr_icmp_ne (q := 41) (tgt := 93) dX12_ruleOf_38 (by decide) rfl hm (fun hm => ?_) (fun hm => ?_)
    · obtain ⟨w2, c3, hm⟩ := vv_let_of hm
      refine rr_iinc (q := 96) [some (.ref (vv_ad x 0)), some (.int u1), some (.int u2), some (.int u3), some (.int s4), some (.int s5), some (.int w2)] dX12_ruleOf_93 rfl rfl c3.symm (Nat.le_of_ble_eq_true rfl) rfl rfl ?_
      refine rr_goto (tgt := 21) dX12_ruleOf_96 (by decide) ?_
      obtain rfl := Option.some.inj hm
      exact hI s4 s5 w2 rfl
    · refine rr_aload_n (q := 42) dX12_ruleOf_41 rfl rfl ?_
      refine gf_X12_61 (q := 45) rfl dX12_ruleOf_42 rfl ?_
      refine rr_iload (q := 47) dX12_ruleOf_45 rfl rfl ?_
      obtain ⟨c4, hm⟩ := vv_ck_of hm
      refine rr_iald (q := 48) ylR_18 ynR_18 c4 dX12_ruleOf_47 rfl ?_
      refine rr_iload_n (q := 49) dX12_ruleOf_48 rfl rfl ?_
      refine rr_icmp_ne (q := 52) (tgt := 93) dX12_ruleOf_49 (by decide) rfl hm (fun hm => ?_) (fun hm => ?_)
      · obtain ⟨w5, c6, hm⟩ := vv_let_of hm
        refine rr_iinc (q := 96) [some (.ref (vv_ad x 0)), some (.int u1), some (.int u2), some (.int u3), some (.int s4), some (.int s5), some (.int w5)] dX12_ruleOf_93 rfl rfl c6.symm (Nat.le_of_ble_eq_true rfl) rfl rfl ?_
        refine rr_goto (tgt := 21) dX12_ruleOf_96 (by decide) ?_
        obtain rfl := Option.some.inj hm
        exact hI s4 s5 w5 rfl
      · refine rr_aload_n (q := 53) dX12_ruleOf_52 rfl rfl ?_
        refine gf_X12_58 (q := 56) rfl dX12_ruleOf_53 rfl ?_
        refine rr_iload (q := 58) dX12_ruleOf_56 rfl rfl ?_
        obtain ⟨c7, hm⟩ := vv_ck_of hm
        refine rr_iald (q := 59) ylR_17 ynR_17 c7 dX12_ruleOf_58 rfl ?_
        refine rr_iload_n (q := 60) dX12_ruleOf_59 rfl rfl ?_
        refine rr_icmp_gt (q := 63) (tgt := 93) dX12_ruleOf_60 (by decide) rfl hm (fun hm => ?_) (fun hm => ?_)
        · obtain ⟨w8, c9, hm⟩ := vv_let_of hm
          refine rr_iinc (q := 96) [some (.ref (vv_ad x 0)), some (.int u1), some (.int u2), some (.int u3), some (.int s4), some (.int s5), some (.int w8)] dX12_ruleOf_93 rfl rfl c9.symm (Nat.le_of_ble_eq_true rfl) rfl rfl ?_
          refine rr_goto (tgt := 21) dX12_ruleOf_96 (by decide) ?_
          obtain rfl := Option.some.inj hm
          exact hI s4 s5 w8 rfl
        · refine rr_aload_n (q := 64) dX12_ruleOf_63 rfl rfl ?_
          refine gf_X12_58 (q := 67) rfl dX12_ruleOf_64 rfl ?_
          refine rr_iload (q := 69) dX12_ruleOf_67 rfl rfl ?_
          obtain ⟨c10, hm⟩ := vv_ck_of hm
          refine rr_iald (q := 70) ylR_17 ynR_17 c10 dX12_ruleOf_69 rfl ?_
          refine rr_iload (q := 72) dX12_ruleOf_70 rfl rfl ?_
          refine rr_icmp_le (q := 75) (tgt := 93) dX12_ruleOf_72 (by decide) rfl hm (fun hm => ?_) (fun hm => ?_)
          · obtain ⟨w11, c12, hm⟩ := vv_let_of hm
            refine rr_iinc (q := 96) [some (.ref (vv_ad x 0)), some (.int u1), some (.int u2), some (.int u3), some (.int s4), some (.int s5), some (.int w11)] dX12_ruleOf_93 rfl rfl c12.symm (Nat.le_of_ble_eq_true rfl) rfl rfl ?_
            refine rr_goto (tgt := 21) dX12_ruleOf_96 (by decide) ?_
            obtain rfl := Option.some.inj hm
            exact hI s4 s5 w11 rfl
          · refine rr_aload_n (q := 76) dX12_ruleOf_75 rfl rfl ?_
            refine gf_X12_64 (q := 79) rfl dX12_ruleOf_76 rfl ?_
            refine rr_iload (q := 81) dX12_ruleOf_79 rfl rfl ?_
            obtain ⟨c13, hm⟩ := vv_ck_of hm
            refine rr_iald (q := 82) ylR_19 ynR_19 c13 dX12_ruleOf_81 rfl ?_
            obtain ⟨w14, c15, hm⟩ := vv_let_of hm
            rw [← c15]
            refine rr_istore (q := 84) [some (.ref (vv_ad x 0)), some (.int u1), some (.int u2), some (.int u3), some (.int w14), some (.int s5), some (.int s6)] dX12_ruleOf_82 rfl (Nat.le_of_ble_eq_true rfl) rfl rfl ?_
            refine rr_aload_n (q := 85) dX12_ruleOf_84 rfl rfl ?_
            refine gf_X12_58 (q := 88) rfl dX12_ruleOf_85 rfl ?_
            refine rr_iload (q := 90) dX12_ruleOf_88 rfl rfl ?_
            obtain ⟨c16, hm⟩ := vv_ck_of hm
            refine rr_iald (q := 91) ylR_17 ynR_17 c16 dX12_ruleOf_90 rfl ?_
            obtain ⟨w17, c18, hm⟩ := vv_let_of hm
            rw [← c18]
            refine rr_istore (q := 93) [some (.ref (vv_ad x 0)), some (.int u1), some (.int u2), some (.int u3), some (.int w14), some (.int w17), some (.int s6)] dX12_ruleOf_91 rfl (Nat.le_of_ble_eq_true rfl) rfl rfl ?_
            obtain ⟨w19, c20, hm⟩ := vv_let_of hm
            refine rr_iinc (q := 96) [some (.ref (vv_ad x 0)), some (.int u1), some (.int u2), some (.int u3), some (.int w14), some (.int w17), some (.int w19)] dX12_ruleOf_93 rfl rfl c20.symm (Nat.le_of_ble_eq_true rfl) rfl rfl ?_
            refine rr_goto (tgt := 21) dX12_ruleOf_96 (by decide) ?_
            obtain rfl := Option.some.inj hm
            exact hI w14 w17 w19 rfl
set_option maxHeartbeats 200000 in
theorem vt_X12_ruleOf_J13 {x : vv_E} {post : Option Value → vv_H → Prop}   {u1 : Int32} {u2 : Int32} {u3 : Int32} {z0 : Int32} {h : vv_H} {o : Int32}  (hm : ff_X12_ruleOf_J13  u1 u2 u3 z0 h = some o) (hp : post (some (.int o)) h) : vv_V x vv_TR mm_X12_ruleOf post 13 [some (.ref (vv_ad x 0)), some (.int u1), some (.int u2), some (.int u3), none, none, none] [.int z0] h := by
  unfold ff_X12_ruleOf_J13 at hm
  refine rr_istore (q := 15) [some (.ref (vv_ad x 0)), some (.int u1), some (.int u2), some (.int u3), some (.int z0), none, none] dX12_ruleOf_13 rfl (Nat.le_of_ble_eq_true rfl) rfl rfl ?_
  refine rr_iconst (q := 16) (v := -1) dX12_ruleOf_15 rfl (by decide) ?_
  refine rr_istore (q := 18) [some (.ref (vv_ad x 0)), some (.int u1), some (.int u2), some (.int u3), some (.int z0), some (.int (-1 : Int32)), none] dX12_ruleOf_16 rfl (Nat.le_of_ble_eq_true rfl) rfl rfl ?_
  refine rr_iconst (q := 19) (v := 0) dX12_ruleOf_18 rfl (by decide) ?_
  refine rr_istore (q := 21) [some (.ref (vv_ad x 0)), some (.int u1), some (.int u2), some (.int u3), some (.int z0), some (.int (-1 : Int32)), some (.int (0 : Int32))] dX12_ruleOf_19 rfl (Nat.le_of_ble_eq_true rfl) rfl rfl ?_
  obtain ⟨r21, k23, hm⟩ := vv_bind hm
  refine vv_lp_link (P := fun (zs : Int32 × Int32 × Int32) => vv_V x vv_TR mm_X12_ruleOf post 21 [some (.ref (vv_ad x 0)), some (.int u1), some (.int u2), some (.int u3), some (.int zs.1), some (.int zs.2.1), some (.int zs.2.2)] [] h) (Q := (fun (e22 : (Int32)) => vv_V x vv_TR mm_X12_ruleOf post 99 [none, none, none, none, some (.int e22), none, none] [] h)) (fun zs o hm hI hX => ?_) vv_F (z0, (-1 : Int32), (0 : Int32)) r21 k23 ?_
  · exact vt_X12_ruleOf_B21   hm (fun z4 z5 z6 e => hI (z4, z5, z6) e) (fun z4 e => hX z4 e)
  · generalize r21 = e22 at hm ⊢
    try dsimp only [Sum.elim_inl, Sum.elim_inr] at hm
    try dsimp only [Sum.elim_inl, Sum.elim_inr]
    refine rr_iload (q := 101) dX12_ruleOf_99 rfl rfl ?_
    obtain rfl := Option.some.inj hm
    exact rr_iret dX12_ruleOf_101 rfl hp
set_option maxHeartbeats 200000 in
theorem vt_X12_ruleOf {x : vv_E} {post : Option Value → vv_H → Prop} {h : vv_H} {v1 : Int32} {v2 : Int32} {v3 : Int32} {o : Int32}  (hm : ff_X12_ruleOf  h v1 v2 v3 = some o) (hp : post (some (.int o)) h) : vv_V x vv_TR mm_X12_ruleOf post 0 [some (.ref (vv_ad x 0)), some (.int v1), some (.int v2), some (.int v3), none, none, none] [] h := by
  unfold ff_X12_ruleOf at hm
  refine rr_iload_n (q := 1) dX12_ruleOf_0 rfl rfl ?_
  refine rr_iconst (q := 2) (v := 1) dX12_ruleOf_1 rfl (by decide) ?_
  refine rr_icmp_ne (q := 5) (tgt := 11) dX12_ruleOf_2 (by decide) rfl hm (fun hm => ?_) (fun hm => ?_)
  · refine rr_bipush (q := 13) (v := 100) dX12_ruleOf_11 rfl (by decide) ?_
    exact vt_X12_ruleOf_J13  hm hp
  · refine rr_sipush (q := 8) (v := 365) dX12_ruleOf_5 rfl (by decide) ?_
    refine rr_goto (tgt := 13) dX12_ruleOf_8 (by decide) ?_
    exact vt_X12_ruleOf_J13  hm hp
theorem cc_X12_ruleOf {x : vv_E} {h : vv_H} {v1 : Int32} {v2 : Int32} {v3 : Int32} {o : Int32}  (hm : ff_X12_ruleOf h v1 v2 v3 = some o) : vv_C x vv_TR yX12_ruleOf mm_X12_ruleOf [.ref (vv_ad x 0), .int v1, .int v2, .int v3] h (fun v g => v = some (.int o) ∧ g = h) := vv_entry (by decide +kernel) rfl (Nat.le_of_ble_eq_true rfl) rfl (vt_X12_ruleOf  hm ⟨rfl, rfl⟩)
def ff_X12_store (h : vv_H) : Option (Int32 × vv_H) := (if (h.1 0 42) = (4 : Int32) then some ((-3 : Int32), h) else vv_let (vv_iu h 0 42 ((h.1 0 42) + (1 : Int32))) (fun g1 => some (((g1.1 0 42) - (1 : Int32)), g1)))
set_option maxHeartbeats 200000 in
theorem vt_X12_store {x : vv_E} {post : Option Value → vv_H → Prop} {h : vv_H} {o : Int32 × vv_H}  (hm : ff_X12_store  h = some o) (hp : post (some (.int o.1)) o.2) : vv_V x vv_TR mm_X12_store post 0 [some (.ref (vv_ad x 0))] [] h := by
  unfold ff_X12_store at hm
  refine rr_aload_n (q := 1) dX12_store_0 rfl rfl ?_
  refine gf_X12_328 (q := 4) rfl dX12_store_1 rfl ?_
  refine rr_iconst (q := 5) (v := 4) dX12_store_4 rfl (by decide) ?_
  refine rr_icmp_ne (q := 8) (tgt := 11) dX12_store_5 (by decide) rfl hm (fun hm => ?_) (fun hm => ?_)
  · refine rr_aload_n (q := 12) dX12_store_11 rfl rfl ?_
    refine rr_dup (q := 13) dX12_store_12 rfl rfl ?_
    refine gf_X12_328 (q := 16) rfl dX12_store_13 rfl ?_
    refine rr_iconst (q := 17) (v := 1) dX12_store_16 rfl (by decide) ?_
    refine rr_iadd (q := 18) dX12_store_17 rfl ?_
    refine pf_X12_328 (q := 21) rfl dX12_store_18 rfl (fun g1 c2 => ?_)
    replace hm := vv_letE hm c2
    refine rr_aload_n (q := 22) dX12_store_21 rfl rfl ?_
    refine gf_X12_328 (q := 25) rfl dX12_store_22 rfl ?_
    refine rr_iconst (q := 26) (v := 1) dX12_store_25 rfl (by decide) ?_
    refine rr_isub (q := 27) dX12_store_26 rfl ?_
    obtain rfl := Option.some.inj hm
    exact rr_iret dX12_store_27 rfl hp
  · refine rr_bipush (q := 10) (v := -3) dX12_store_8 rfl (by decide) ?_
    obtain rfl := Option.some.inj hm
    exact rr_iret dX12_store_10 rfl hp
theorem cc_X12_store {x : vv_E} {h : vv_H} {o : Int32 × vv_H}  (hm : ff_X12_store h = some o) : vv_C x vv_TR yX12_store mm_X12_store [.ref (vv_ad x 0)] h (fun v g => v = some (.int o.1) ∧ g = o.2) := vv_entry (by decide +kernel) rfl (Nat.le_of_ble_eq_true rfl) rfl (vt_X12_store  hm ⟨rfl, rfl⟩)
def ff_X12_wornOf (h : vv_H) (v1 : Int32) : Option (Int32) := vv_ck v1 36 (vv_ck v1 36 ((if (h.1 33 v1.toNatClampNeg) = (-4 : Int32) then some ((h.1 35 v1.toNatClampNeg) + (0 : Int32)) else vv_ck v1 36 (some ((h.1 35 v1.toNatClampNeg) + ((h.1 0 0) - (h.1 34 v1.toNatClampNeg)))))))
set_option maxHeartbeats 200000 in
theorem vt_X12_wornOf {x : vv_E} {post : Option Value → vv_H → Prop} {h : vv_H} {v1 : Int32} {o : Int32}  (hm : ff_X12_wornOf  h v1 = some o) (hp : post (some (.int o)) h) : vv_V x vv_TR mm_X12_wornOf post 0 [some (.ref (vv_ad x 0)), some (.int v1)] [] h := by
  unfold ff_X12_wornOf at hm
  refine rr_aload_n (q := 1) dX12_wornOf_0 rfl rfl ?_
  refine gf_X12_112 (q := 4) rfl dX12_wornOf_1 rfl ?_
  refine rr_iload_n (q := 5) dX12_wornOf_4 rfl rfl ?_
  obtain ⟨c1, hm⟩ := vv_ck_of hm
  refine rr_iald (q := 6) ylR_35 ynR_35 c1 dX12_wornOf_5 rfl ?_
  refine rr_aload_n (q := 7) dX12_wornOf_6 rfl rfl ?_
  refine gf_X12_106 (q := 10) rfl dX12_wornOf_7 rfl ?_
  refine rr_iload_n (q := 11) dX12_wornOf_10 rfl rfl ?_
  obtain ⟨c2, hm⟩ := vv_ck_of hm
  refine rr_iald (q := 12) ylR_33 ynR_33 c2 dX12_wornOf_11 rfl ?_
  refine rr_bipush (q := 14) (v := -4) dX12_wornOf_12 rfl (by decide) ?_
  refine rr_icmp_ne (q := 17) (tgt := 21) dX12_wornOf_14 (by decide) rfl hm (fun hm => ?_) (fun hm => ?_)
  · refine rr_aload_n (q := 22) dX12_wornOf_21 rfl rfl ?_
    refine gf_X12_187 (q := 25) rfl dX12_wornOf_22 rfl ?_
    refine rr_aload_n (q := 26) dX12_wornOf_25 rfl rfl ?_
    refine gf_X12_109 (q := 29) rfl dX12_wornOf_26 rfl ?_
    refine rr_iload_n (q := 30) dX12_wornOf_29 rfl rfl ?_
    obtain ⟨c3, hm⟩ := vv_ck_of hm
    refine rr_iald (q := 31) ylR_34 ynR_34 c3 dX12_wornOf_30 rfl ?_
    refine rr_isub (q := 32) dX12_wornOf_31 rfl ?_
    refine rr_iadd (q := 33) dX12_wornOf_32 rfl ?_
    obtain rfl := Option.some.inj hm
    exact rr_iret dX12_wornOf_33 rfl hp
  · refine rr_iconst (q := 18) (v := 0) dX12_wornOf_17 rfl (by decide) ?_
    refine rr_goto (tgt := 32) dX12_wornOf_18 (by decide) ?_
    refine rr_iadd (q := 33) dX12_wornOf_32 rfl ?_
    obtain rfl := Option.some.inj hm
    exact rr_iret dX12_wornOf_33 rfl hp
theorem cc_X12_wornOf {x : vv_E} {h : vv_H} {v1 : Int32} {o : Int32}  (hm : ff_X12_wornOf h v1 = some o) : vv_C x vv_TR yX12_wornOf mm_X12_wornOf [.ref (vv_ad x 0), .int v1] h (fun v g => v = some (.int o) ∧ g = h) := vv_entry (by decide +kernel) rfl (Nat.le_of_ble_eq_true rfl) rfl (vt_X12_wornOf  hm ⟨rfl, rfl⟩)
def ff_X12_kindAt (h : vv_H) (v1 : Int32) : Option (Int32) := vv_ck v1 36 (vv_ck (h.1 29 v1.toNatClampNeg) 12 (some (h.1 10 (h.1 29 v1.toNatClampNeg).toNatClampNeg)))
set_option maxHeartbeats 200000 in
theorem vt_X12_kindAt {x : vv_E} {post : Option Value → vv_H → Prop} {h : vv_H} {v1 : Int32} {o : Int32}  (hm : ff_X12_kindAt  h v1 = some o) (hp : post (some (.int o)) h) : vv_V x vv_TR mm_X12_kindAt post 0 [some (.ref (vv_ad x 0)), some (.int v1)] [] h := by
  unfold ff_X12_kindAt at hm
  refine rr_aload_n (q := 1) dX12_kindAt_0 rfl rfl ?_
  refine gf_X12_37 (q := 4) rfl dX12_kindAt_1 rfl ?_
  refine rr_aload_n (q := 5) dX12_kindAt_4 rfl rfl ?_
  refine gf_X12_94 (q := 8) rfl dX12_kindAt_5 rfl ?_
  refine rr_iload_n (q := 9) dX12_kindAt_8 rfl rfl ?_
  obtain ⟨c1, hm⟩ := vv_ck_of hm
  refine rr_iald (q := 10) ylR_29 ynR_29 c1 dX12_kindAt_9 rfl ?_
  obtain ⟨c2, hm⟩ := vv_ck_of hm
  refine rr_iald (q := 11) ylR_10 ynR_10 c2 dX12_kindAt_10 rfl ?_
  obtain rfl := Option.some.inj hm
  exact rr_iret dX12_kindAt_11 rfl hp
theorem cc_X12_kindAt {x : vv_E} {h : vv_H} {v1 : Int32} {o : Int32}  (hm : ff_X12_kindAt h v1 = some o) : vv_C x vv_TR yX12_kindAt mm_X12_kindAt [.ref (vv_ad x 0), .int v1] h (fun v g => v = some (.int o) ∧ g = h) := vv_entry (by decide +kernel) rfl (Nat.le_of_ble_eq_true rfl) rfl (vt_X12_kindAt  hm ⟨rfl, rfl⟩)
def ff_X12_isGone (h : vv_H) (v1 : Int32) : Option (Int32) := vv_ck v1 36 ((if (h.1 32 v1.toNatClampNeg) = (-4 : Int32) then vv_ck v1 36 ((if (h.1 33 v1.toNatClampNeg) = (-4 : Int32) then some (1 : Int32) else some (0 : Int32))) else some (0 : Int32)))
set_option maxHeartbeats 200000 in
theorem vt_X12_isGone {x : vv_E} {post : Option Value → vv_H → Prop} {h : vv_H} {v1 : Int32} {o : Int32}  (hm : ff_X12_isGone  h v1 = some o) (hp : post (some (.int o)) h) : vv_V x vv_TR mm_X12_isGone post 0 [some (.ref (vv_ad x 0)), some (.int v1)] [] h := by
  unfold ff_X12_isGone at hm
  refine rr_aload_n (q := 1) dX12_isGone_0 rfl rfl ?_
  refine gf_X12_103 (q := 4) rfl dX12_isGone_1 rfl ?_
  refine rr_iload_n (q := 5) dX12_isGone_4 rfl rfl ?_
  obtain ⟨c1, hm⟩ := vv_ck_of hm
  refine rr_iald (q := 6) ylR_32 ynR_32 c1 dX12_isGone_5 rfl ?_
  refine rr_bipush (q := 8) (v := -4) dX12_isGone_6 rfl (by decide) ?_
  refine rr_icmp_ne (q := 11) (tgt := 26) dX12_isGone_8 (by decide) rfl hm (fun hm => ?_) (fun hm => ?_)
  · refine rr_iconst (q := 27) (v := 0) dX12_isGone_26 rfl (by decide) ?_
    obtain rfl := Option.some.inj hm
    exact rr_zret dX12_isGone_27 rfl rfl hp
  · refine rr_aload_n (q := 12) dX12_isGone_11 rfl rfl ?_
    refine gf_X12_106 (q := 15) rfl dX12_isGone_12 rfl ?_
    refine rr_iload_n (q := 16) dX12_isGone_15 rfl rfl ?_
    obtain ⟨c2, hm⟩ := vv_ck_of hm
    refine rr_iald (q := 17) ylR_33 ynR_33 c2 dX12_isGone_16 rfl ?_
    refine rr_bipush (q := 19) (v := -4) dX12_isGone_17 rfl (by decide) ?_
    refine rr_icmp_ne (q := 22) (tgt := 26) dX12_isGone_19 (by decide) rfl hm (fun hm => ?_) (fun hm => ?_)
    · refine rr_iconst (q := 27) (v := 0) dX12_isGone_26 rfl (by decide) ?_
      obtain rfl := Option.some.inj hm
      exact rr_zret dX12_isGone_27 rfl rfl hp
    · refine rr_iconst (q := 23) (v := 1) dX12_isGone_22 rfl (by decide) ?_
      refine rr_goto (tgt := 27) dX12_isGone_23 (by decide) ?_
      obtain rfl := Option.some.inj hm
      exact rr_zret dX12_isGone_27 rfl rfl hp
theorem cc_X12_isGone {x : vv_E} {h : vv_H} {v1 : Int32} {o : Int32}  (hm : ff_X12_isGone h v1 = some o) : vv_C x vv_TR yX12_isGone mm_X12_isGone [.ref (vv_ad x 0), .int v1] h (fun v g => v = some (.int o) ∧ g = h) := vv_entry (by decide +kernel) rfl (Nat.le_of_ble_eq_true rfl) rfl (vt_X12_isGone  hm ⟨rfl, rfl⟩)
def ff_X12_shift_B2 (u2 : Int32) (s3 : Int32) (h : vv_H) : Option ((Int32 × vv_H) ⊕ ((Int32 × vv_H))) := vv_ck s3 36 ((if (h.1 41 s3.toNatClampNeg) = (-4 : Int32) then some (.inr (s3, h)) else vv_ck s3 36 (vv_ck (h.1 41 s3.toNatClampNeg) 36 (vv_ck s3 36 (vv_let (vv_iu h 40 s3.toNatClampNeg (h.1 40 (h.1 41 s3.toNatClampNeg).toNatClampNeg)) (fun g5 => vv_ck s3 36 (vv_let (g5.1 41 s3.toNatClampNeg) (fun w8 => some (.inl (w8, g5))))))))))
def ff_X12_shift (h : vv_H) (v1 : Int32) (v2 : Int32) : Option (vv_H) := (vv_lp (fun (zs : Int32 × vv_H) => ff_X12_shift_B2  v2 zs.1 zs.2) vv_F (v1, h)).bind (fun (e11 : (Int32 × vv_H)) => vv_ck e11.1 36 (vv_let (vv_iu e11.2 40 e11.1.toNatClampNeg v2) (fun g13 => some g13)))
set_option maxHeartbeats 200000 in
theorem vt_X12_shift_B2 {x : vv_E} {post : Option Value → vv_H → Prop} {u2 : Int32} {s3 : Int32} {h : vv_H} {o : (Int32 × vv_H) ⊕ ((Int32 × vv_H))}  (hm : ff_X12_shift_B2  u2 s3 h = some o) (hI : ∀ (z3 : Int32) (zh : vv_H), o = .inl (z3, zh) → vv_V x vv_TR mm_X12_shift post 2 [some (.ref (vv_ad x 0)), none, some (.int u2), some (.int z3)] [] zh) (hX0 : ∀ (z3 : Int32) (zh : vv_H), o = .inr (z3, zh) → vv_V x vv_TR mm_X12_shift post 40 [some (.ref (vv_ad x 0)), none, some (.int u2), some (.int z3)] [] zh) : vv_V x vv_TR mm_X12_shift post 2 [some (.ref (vv_ad x 0)), none, some (.int u2), some (.int s3)] [] h := by
  unfold ff_X12_shift_B2 at hm
  refine rr_aload_n (q := 3) dX12_shift_2 rfl rfl ?_
  refine gf_X12_131 (q := 6) rfl dX12_shift_3 rfl ?_
  refine rr_iload_n (q := 7) dX12_shift_6 rfl rfl ?_
  obtain ⟨c1, hm⟩ := vv_ck_of hm
  refine rr_iald (q := 8) ylR_41 ynR_41 c1 dX12_shift_7 rfl ?_
  refine rr_bipush (q := 10) (v := -4) dX12_shift_8 rfl (by decide) ?_
  refine rr_icmp_eq (q := 13) (tgt := 40) dX12_shift_10 (by decide) rfl hm (fun hm => ?_) (fun hm => ?_)
  · obtain rfl := Option.some.inj hm
    exact hX0 s3 h rfl
  · refine rr_aload_n (q := 14) dX12_shift_13 rfl rfl ?_
    refine gf_X12_128 (q := 17) rfl dX12_shift_14 rfl ?_
    refine rr_iload_n (q := 18) dX12_shift_17 rfl rfl ?_
    refine rr_aload_n (q := 19) dX12_shift_18 rfl rfl ?_
    refine gf_X12_128 (q := 22) rfl dX12_shift_19 rfl ?_
    refine rr_aload_n (q := 23) dX12_shift_22 rfl rfl ?_
    refine gf_X12_131 (q := 26) rfl dX12_shift_23 rfl ?_
    refine rr_iload_n (q := 27) dX12_shift_26 rfl rfl ?_
    obtain ⟨c2, hm⟩ := vv_ck_of hm
    refine rr_iald (q := 28) ylR_41 ynR_41 c2 dX12_shift_27 rfl ?_
    obtain ⟨c3, hm⟩ := vv_ck_of hm
    refine rr_iald (q := 29) ylR_40 ynR_40 c3 dX12_shift_28 rfl ?_
    obtain ⟨c4, hm⟩ := vv_ck_of hm
    obtain ⟨g5, c6, hm⟩ := vv_let_of hm
    refine rr_iast (q := 30) ylR_40 ynR_40 c4 dX12_shift_29 rfl ?_
    rw [← c6]
    refine rr_aload_n (q := 31) dX12_shift_30 rfl rfl ?_
    refine gf_X12_131 (q := 34) rfl dX12_shift_31 rfl ?_
    refine rr_iload_n (q := 35) dX12_shift_34 rfl rfl ?_
    obtain ⟨c7, hm⟩ := vv_ck_of hm
    refine rr_iald (q := 36) ylR_41 ynR_41 c7 dX12_shift_35 rfl ?_
    obtain ⟨w8, c9, hm⟩ := vv_let_of hm
    rw [← c9]
    refine rr_istore_n (q := 37) [some (.ref (vv_ad x 0)), none, some (.int u2), some (.int w8)] dX12_shift_36 rfl rfl (Nat.le_of_ble_eq_true rfl) rfl rfl ?_
    refine rr_goto (tgt := 2) dX12_shift_37 (by decide) ?_
    obtain rfl := Option.some.inj hm
    exact hI w8 g5 rfl
set_option maxHeartbeats 200000 in
theorem vt_X12_shift {x : vv_E} {post : Option Value → vv_H → Prop} {h : vv_H} {v1 : Int32} {v2 : Int32} {o : vv_H}  (hm : ff_X12_shift  h v1 v2 = some o) (hp : post none o) : vv_V x vv_TR mm_X12_shift post 0 [some (.ref (vv_ad x 0)), some (.int v1), some (.int v2), none] [] h := by
  unfold ff_X12_shift at hm
  refine rr_iload_n (q := 1) dX12_shift_0 rfl rfl ?_
  refine rr_istore_n (q := 2) [some (.ref (vv_ad x 0)), some (.int v1), some (.int v2), some (.int v1)] dX12_shift_1 rfl rfl (Nat.le_of_ble_eq_true rfl) rfl rfl ?_
  refine rr_sub [true, false, true, true] rfl ?_
  obtain ⟨r10, k15, hm⟩ := vv_bind hm
  refine vv_lp_link (P := fun (zs : Int32 × vv_H) => vv_V x vv_TR mm_X12_shift post 2 [some (.ref (vv_ad x 0)), none, some (.int v2), some (.int zs.1)] [] zs.2) (Q := (fun (e11 : (Int32 × vv_H)) => vv_V x vv_TR mm_X12_shift post 40 [some (.ref (vv_ad x 0)), none, some (.int v2), some (.int e11.1)] [] e11.2)) (fun zs o hm hI hX => ?_) vv_F (v1, h) r10 k15 ?_
  · exact vt_X12_shift_B2   hm (fun z3 zh e => hI (z3, zh) e) (fun z3 zh e => hX (z3, zh) e)
  · generalize r10 = e11 at hm ⊢
    try dsimp only [Sum.elim_inl, Sum.elim_inr] at hm
    try dsimp only [Sum.elim_inl, Sum.elim_inr]
    refine rr_aload_n (q := 41) dX12_shift_40 rfl rfl ?_
    refine gf_X12_128 (q := 44) rfl dX12_shift_41 rfl ?_
    refine rr_iload_n (q := 45) dX12_shift_44 rfl rfl ?_
    refine rr_iload_n (q := 46) dX12_shift_45 rfl rfl ?_
    obtain ⟨c12, hm⟩ := vv_ck_of hm
    obtain ⟨g13, c14, hm⟩ := vv_let_of hm
    refine rr_iast (q := 47) ylR_40 ynR_40 c12 dX12_shift_46 rfl ?_
    rw [← c14]
    obtain rfl := Option.some.inj hm
    exact rr_vret dX12_shift_47 rfl hp
theorem cc_X12_shift {x : vv_E} {h : vv_H} {v1 : Int32} {v2 : Int32} {o : vv_H}  (hm : ff_X12_shift h v1 v2 = some o) : vv_C x vv_TR yX12_shift mm_X12_shift [.ref (vv_ad x 0), .int v1, .int v2] h (fun v g => v = none ∧ g = o) := vv_entry (by decide +kernel) rfl (Nat.le_of_ble_eq_true rfl) rfl (vt_X12_shift  hm ⟨rfl, rfl⟩)
def ff_X12_areDigits (h : vv_H) (v1 : Int32) : Option (Int32) := (if v1 < 0 then some (0 : Int32) else (if 0 ≤ (lg_cmp v1.toInt64 ((1 : Int64) <<< (((4 : Int32) * (h.1 0 42)).toInt64 &&& 63))) then some (0 : Int32) else some (1 : Int32)))
set_option maxHeartbeats 200000 in
theorem vt_X12_areDigits {x : vv_E} {post : Option Value → vv_H → Prop} {h : vv_H} {v1 : Int32} {o : Int32}  (hm : ff_X12_areDigits  h v1 = some o) (hp : post (some (.int o)) h) : vv_V x vv_TR mm_X12_areDigits post 0 [some (.ref (vv_ad x 0)), some (.int v1)] [] h := by
  unfold ff_X12_areDigits at hm
  refine rr_iload_n (q := 1) dX12_areDigits_0 rfl rfl ?_
  refine rr_if_lt (q := 4) (tgt := 22) dX12_areDigits_1 (by decide) rfl hm (fun hm => ?_) (fun hm => ?_)
  · refine rr_iconst (q := 23) (v := 0) dX12_areDigits_22 rfl (by decide) ?_
    obtain rfl := Option.some.inj hm
    exact rr_zret dX12_areDigits_23 rfl rfl hp
  · refine rr_iload_n (q := 5) dX12_areDigits_4 rfl rfl ?_
    refine rr_i2l (q := 6) dX12_areDigits_5 rfl ?_
    refine rr_lconst (q := 7) (v := 1) dX12_areDigits_6 rfl (by decide) ?_
    refine rr_iconst (q := 8) (v := 4) dX12_areDigits_7 rfl (by decide) ?_
    refine rr_aload_n (q := 9) dX12_areDigits_8 rfl rfl ?_
    refine gf_X12_328 (q := 12) rfl dX12_areDigits_9 rfl ?_
    refine rr_imul (q := 13) dX12_areDigits_12 rfl ?_
    refine rr_lshl (q := 14) dX12_areDigits_13 rfl ?_
    refine rr_lcmp (q := 15) dX12_areDigits_14 rfl ?_
    refine rr_if_ge (q := 18) (tgt := 22) dX12_areDigits_15 (by decide) rfl hm (fun hm => ?_) (fun hm => ?_)
    · refine rr_iconst (q := 23) (v := 0) dX12_areDigits_22 rfl (by decide) ?_
      obtain rfl := Option.some.inj hm
      exact rr_zret dX12_areDigits_23 rfl rfl hp
    · refine rr_iconst (q := 19) (v := 1) dX12_areDigits_18 rfl (by decide) ?_
      refine rr_goto (tgt := 23) dX12_areDigits_19 (by decide) ?_
      obtain rfl := Option.some.inj hm
      exact rr_zret dX12_areDigits_23 rfl rfl hp
theorem cc_X12_areDigits {x : vv_E} {h : vv_H} {v1 : Int32} {o : Int32}  (hm : ff_X12_areDigits h v1 = some o) : vv_C x vv_TR yX12_areDigits mm_X12_areDigits [.ref (vv_ad x 0), .int v1] h (fun v g => v = some (.int o) ∧ g = h) := vv_entry (by decide +kernel) rfl (Nat.le_of_ble_eq_true rfl) rfl (vt_X12_areDigits  hm ⟨rfl, rfl⟩)
def ff_X12_layPairs_J103  (u1 : Int32) (m2 : Int32) (z0 : Int32) (z1 : Int32) (hh : vv_H) : Option ((Int32 × vv_H) ⊕ ((vv_H))) := vv_ck z1 12 (vv_let (vv_iu hh 48 z1.toNatClampNeg z0) (fun g19 => vv_ck (g19.1 0 62) 12 (vv_let (vv_iu g19 49 (g19.1 0 62).toNatClampNeg (0 : Int32)) (fun g22 => vv_let (vv_iu g22 0 62 ((g22.1 0 62) + (1 : Int32))) (fun g24 => vv_let (m2 + 1) (fun w26 => some (.inl (w26, g24))))))))
def ff_X12_layPairs_B17 (u1 : Int32) (s2 : Int32) (h : vv_H) : Option ((Int32 × vv_H) ⊕ ((vv_H))) := (if (h.1 0 42) ≤ s2 then some (.inr h) else vv_ck u1 4 ((if (h.1 51 u1.toNatClampNeg) ≤ 0 then vv_let (s2 + 1) (fun w4 => some (.inl (w4, h))) else vv_ck s2 4 ((if 0 ≤ (h.1 51 s2.toNatClampNeg) then vv_let (s2 + 1) (fun w7 => some (.inl (w7, h))) else vv_ck (h.1 0 62) 12 (vv_let (vv_iu h 46 (h.1 0 62).toNatClampNeg u1) (fun g10 => vv_ck (g10.1 0 62) 12 (vv_let (vv_iu g10 47 (g10.1 0 62).toNatClampNeg s2) (fun g13 => vv_ck u1 4 (vv_ck s2 4 ((if (-(g13.1 51 s2.toNatClampNeg)) ≤ (g13.1 51 u1.toNatClampNeg) then vv_ck s2 4 (ff_X12_layPairs_J103  u1 s2 (-(g13.1 51 s2.toNatClampNeg)) (g13.1 0 62) g13) else vv_ck u1 4 (ff_X12_layPairs_J103  u1 s2 (g13.1 51 u1.toNatClampNeg) (g13.1 0 62) g13)))))))))))))
def ff_X12_layPairs_B7  (s1 : Int32) (h : vv_H) : Option ((Int32 × vv_H) ⊕ ((vv_H))) := (if (h.1 0 42) ≤ s1 then some (.inr h) else (vv_lp (fun (zs : Int32 × vv_H) => ff_X12_layPairs_B17  s1 zs.1 zs.2) vv_F ((0 : Int32), h)).bind (fun (e30 : (vv_H)) => vv_let (s1 + 1) (fun w31 => some (.inl (w31, e30)))))
def ff_X12_layPairs (h : vv_H) : Option (vv_H) := vv_let (vv_iu h 0 62 (0 : Int32)) (fun g1 => (vv_lp (fun (zs : Int32 × vv_H) => ff_X12_layPairs_B7   zs.1 zs.2) vv_F ((0 : Int32), g1)).bind (fun (e35 : (vv_H)) => some e35))
set_option maxHeartbeats 200000 in
theorem vt_X12_layPairs_J103 {x : vv_E} {post : Option Value → vv_H → Prop}   {u1 : Int32} {m2 : Int32} {z0 : Int32} {z1 : Int32} {hh : vv_H} {o : (Int32 × vv_H) ⊕ ((vv_H))}  (hm : ff_X12_layPairs_J103  u1 m2 z0 z1 hh = some o) (hI : ∀ (z2 : Int32) (zh : vv_H), o = .inl (z2, zh) → vv_V x vv_TR mm_X12_layPairs post 17 [some (.ref (vv_ad x 0)), some (.int u1), some (.int z2)] [] zh) (hX0 : ∀  (zh : vv_H), o = .inr zh → vv_V x vv_TR mm_X12_layPairs post 130 [some (.ref (vv_ad x 0)), some (.int u1), none] [] zh) : vv_V x vv_TR mm_X12_layPairs post 103 [some (.ref (vv_ad x 0)), some (.int u1), some (.int m2)] [.int z0, .int z1, .ref (vv_ad x 48)] hh := by
  unfold ff_X12_layPairs_J103 at hm
  obtain ⟨c18, hm⟩ := vv_ck_of hm
  obtain ⟨g19, c20, hm⟩ := vv_let_of hm
  refine rr_iast (q := 104) ylR_48 ynR_48 c18 dX12_layPairs_103 rfl ?_
  rw [← c20]
  refine rr_aload_n (q := 105) dX12_layPairs_104 rfl rfl ?_
  refine gf_X12_155 (q := 108) rfl dX12_layPairs_105 rfl ?_
  refine rr_aload_n (q := 109) dX12_layPairs_108 rfl rfl ?_
  refine gf_X12_374 (q := 112) rfl dX12_layPairs_109 rfl ?_
  refine rr_iconst (q := 113) (v := 0) dX12_layPairs_112 rfl (by decide) ?_
  obtain ⟨c21, hm⟩ := vv_ck_of hm
  obtain ⟨g22, c23, hm⟩ := vv_let_of hm
  refine rr_iast (q := 114) ylR_49 ynR_49 c21 dX12_layPairs_113 rfl ?_
  rw [← c23]
  refine rr_aload_n (q := 115) dX12_layPairs_114 rfl rfl ?_
  refine rr_dup (q := 116) dX12_layPairs_115 rfl rfl ?_
  refine gf_X12_374 (q := 119) rfl dX12_layPairs_116 rfl ?_
  refine rr_iconst (q := 120) (v := 1) dX12_layPairs_119 rfl (by decide) ?_
  refine rr_iadd (q := 121) dX12_layPairs_120 rfl ?_
  refine pf_X12_374 (q := 124) rfl dX12_layPairs_121 rfl (fun g24 c25 => ?_)
  replace hm := vv_letE hm c25
  obtain ⟨w26, c27, hm⟩ := vv_let_of hm
  refine rr_iinc (q := 127) [some (.ref (vv_ad x 0)), some (.int u1), some (.int w26)] dX12_layPairs_124 rfl rfl c27.symm (Nat.le_of_ble_eq_true rfl) rfl rfl ?_
  refine rr_goto (tgt := 17) dX12_layPairs_127 (by decide) ?_
  obtain rfl := Option.some.inj hm
  exact hI w26 g24 rfl
set_option maxHeartbeats 200000 in
theorem vt_X12_layPairs_B17 {x : vv_E} {post : Option Value → vv_H → Prop} {u1 : Int32} {s2 : Int32} {h : vv_H} {o : (Int32 × vv_H) ⊕ ((vv_H))}  (hm : ff_X12_layPairs_B17  u1 s2 h = some o) (hI : ∀ (z2 : Int32) (zh : vv_H), o = .inl (z2, zh) → vv_V x vv_TR mm_X12_layPairs post 17 [some (.ref (vv_ad x 0)), some (.int u1), some (.int z2)] [] zh) (hX0 : ∀  (zh : vv_H), o = .inr zh → vv_V x vv_TR mm_X12_layPairs post 130 [some (.ref (vv_ad x 0)), some (.int u1), none] [] zh) : vv_V x vv_TR mm_X12_layPairs post 17 [some (.ref (vv_ad x 0)), some (.int u1), some (.int s2)] [] h := by
  unfold ff_X12_layPairs_B17 at hm
  refine rr_iload_n (q := 18) dX12_layPairs_17 rfl rfl ?_
  refine rr_aload_n (q := 19) dX12_layPairs_18 rfl rfl ?_
  refine gf_X12_328 (q := 22) rfl dX12_layPairs_19 rfl ?_
  refine rr_icmp_ge (q := 25) (tgt := 130) dX12_layPairs_22 (by decide) rfl hm (fun hm => ?_) (fun hm => ?_)
  · obtain rfl := Option.some.inj hm
    refine rr_sub [true, true, false] rfl ?_
    exact hX0 h rfl
  · refine rr_aload_n (q := 26) dX12_layPairs_25 rfl rfl ?_
    refine gf_X12_161 (q := 29) rfl dX12_layPairs_26 rfl ?_
    refine rr_iload_n (q := 30) dX12_layPairs_29 rfl rfl ?_
    obtain ⟨c3, hm⟩ := vv_ck_of hm
    refine rr_iald (q := 31) ylR_51 ynR_51 c3 dX12_layPairs_30 rfl ?_
    refine rr_if_le (q := 34) (tgt := 124) dX12_layPairs_31 (by decide) rfl hm (fun hm => ?_) (fun hm => ?_)
    · obtain ⟨w4, c5, hm⟩ := vv_let_of hm
      refine rr_iinc (q := 127) [some (.ref (vv_ad x 0)), some (.int u1), some (.int w4)] dX12_layPairs_124 rfl rfl c5.symm (Nat.le_of_ble_eq_true rfl) rfl rfl ?_
      refine rr_goto (tgt := 17) dX12_layPairs_127 (by decide) ?_
      obtain rfl := Option.some.inj hm
      exact hI w4 h rfl
    · refine rr_aload_n (q := 35) dX12_layPairs_34 rfl rfl ?_
      refine gf_X12_161 (q := 38) rfl dX12_layPairs_35 rfl ?_
      refine rr_iload_n (q := 39) dX12_layPairs_38 rfl rfl ?_
      obtain ⟨c6, hm⟩ := vv_ck_of hm
      refine rr_iald (q := 40) ylR_51 ynR_51 c6 dX12_layPairs_39 rfl ?_
      refine rr_if_ge (q := 43) (tgt := 124) dX12_layPairs_40 (by decide) rfl hm (fun hm => ?_) (fun hm => ?_)
      · obtain ⟨w7, c8, hm⟩ := vv_let_of hm
        refine rr_iinc (q := 127) [some (.ref (vv_ad x 0)), some (.int u1), some (.int w7)] dX12_layPairs_124 rfl rfl c8.symm (Nat.le_of_ble_eq_true rfl) rfl rfl ?_
        refine rr_goto (tgt := 17) dX12_layPairs_127 (by decide) ?_
        obtain rfl := Option.some.inj hm
        exact hI w7 h rfl
      · refine rr_aload_n (q := 44) dX12_layPairs_43 rfl rfl ?_
        refine gf_X12_146 (q := 47) rfl dX12_layPairs_44 rfl ?_
        refine rr_aload_n (q := 48) dX12_layPairs_47 rfl rfl ?_
        refine gf_X12_374 (q := 51) rfl dX12_layPairs_48 rfl ?_
        refine rr_iload_n (q := 52) dX12_layPairs_51 rfl rfl ?_
        obtain ⟨c9, hm⟩ := vv_ck_of hm
        obtain ⟨g10, c11, hm⟩ := vv_let_of hm
        refine rr_iast (q := 53) ylR_46 ynR_46 c9 dX12_layPairs_52 rfl ?_
        rw [← c11]
        refine rr_aload_n (q := 54) dX12_layPairs_53 rfl rfl ?_
        refine gf_X12_149 (q := 57) rfl dX12_layPairs_54 rfl ?_
        refine rr_aload_n (q := 58) dX12_layPairs_57 rfl rfl ?_
        refine gf_X12_374 (q := 61) rfl dX12_layPairs_58 rfl ?_
        refine rr_iload_n (q := 62) dX12_layPairs_61 rfl rfl ?_
        obtain ⟨c12, hm⟩ := vv_ck_of hm
        obtain ⟨g13, c14, hm⟩ := vv_let_of hm
        refine rr_iast (q := 63) ylR_47 ynR_47 c12 dX12_layPairs_62 rfl ?_
        rw [← c14]
        refine rr_aload_n (q := 64) dX12_layPairs_63 rfl rfl ?_
        refine gf_X12_152 (q := 67) rfl dX12_layPairs_64 rfl ?_
        refine rr_aload_n (q := 68) dX12_layPairs_67 rfl rfl ?_
        refine gf_X12_374 (q := 71) rfl dX12_layPairs_68 rfl ?_
        refine rr_aload_n (q := 72) dX12_layPairs_71 rfl rfl ?_
        refine gf_X12_161 (q := 75) rfl dX12_layPairs_72 rfl ?_
        refine rr_iload_n (q := 76) dX12_layPairs_75 rfl rfl ?_
        obtain ⟨c15, hm⟩ := vv_ck_of hm
        refine rr_iald (q := 77) ylR_51 ynR_51 c15 dX12_layPairs_76 rfl ?_
        refine rr_aload_n (q := 78) dX12_layPairs_77 rfl rfl ?_
        refine gf_X12_161 (q := 81) rfl dX12_layPairs_78 rfl ?_
        refine rr_iload_n (q := 82) dX12_layPairs_81 rfl rfl ?_
        obtain ⟨c16, hm⟩ := vv_ck_of hm
        refine rr_iald (q := 83) ylR_51 ynR_51 c16 dX12_layPairs_82 rfl ?_
        refine rr_ineg (q := 84) dX12_layPairs_83 rfl ?_
        refine rr_icmp_ge (q := 87) (tgt := 96) dX12_layPairs_84 (by decide) rfl hm (fun hm => ?_) (fun hm => ?_)
        · refine rr_aload_n (q := 97) dX12_layPairs_96 rfl rfl ?_
          refine gf_X12_161 (q := 100) rfl dX12_layPairs_97 rfl ?_
          refine rr_iload_n (q := 101) dX12_layPairs_100 rfl rfl ?_
          obtain ⟨c17, hm⟩ := vv_ck_of hm
          refine rr_iald (q := 102) ylR_51 ynR_51 c17 dX12_layPairs_101 rfl ?_
          refine rr_ineg (q := 103) dX12_layPairs_102 rfl ?_
          exact vt_X12_layPairs_J103  hm hI hX0
        · refine rr_aload_n (q := 88) dX12_layPairs_87 rfl rfl ?_
          refine gf_X12_161 (q := 91) rfl dX12_layPairs_88 rfl ?_
          refine rr_iload_n (q := 92) dX12_layPairs_91 rfl rfl ?_
          obtain ⟨c28, hm⟩ := vv_ck_of hm
          refine rr_iald (q := 93) ylR_51 ynR_51 c28 dX12_layPairs_92 rfl ?_
          refine rr_goto (tgt := 103) dX12_layPairs_93 (by decide) ?_
          exact vt_X12_layPairs_J103  hm hI hX0
set_option maxHeartbeats 200000 in
theorem vt_X12_layPairs_B7 {x : vv_E} {post : Option Value → vv_H → Prop}  {s1 : Int32} {h : vv_H} {o : (Int32 × vv_H) ⊕ ((vv_H))}  (hm : ff_X12_layPairs_B7   s1 h = some o) (hI : ∀ (z1 : Int32) (zh : vv_H), o = .inl (z1, zh) → vv_V x vv_TR mm_X12_layPairs post 7 [some (.ref (vv_ad x 0)), some (.int z1), none] [] zh) (hX0 : ∀  (zh : vv_H), o = .inr zh → vv_V x vv_TR mm_X12_layPairs post 136 [none, none, none] [] zh) : vv_V x vv_TR mm_X12_layPairs post 7 [some (.ref (vv_ad x 0)), some (.int s1), none] [] h := by
  unfold ff_X12_layPairs_B7 at hm
  refine rr_iload_n (q := 8) dX12_layPairs_7 rfl rfl ?_
  refine rr_aload_n (q := 9) dX12_layPairs_8 rfl rfl ?_
  refine gf_X12_328 (q := 12) rfl dX12_layPairs_9 rfl ?_
  refine rr_icmp_ge (q := 15) (tgt := 136) dX12_layPairs_12 (by decide) rfl hm (fun hm => ?_) (fun hm => ?_)
  · obtain rfl := Option.some.inj hm
    refine rr_sub [false, false, false] rfl ?_
    exact hX0 h rfl
  · refine rr_iconst (q := 16) (v := 0) dX12_layPairs_15 rfl (by decide) ?_
    refine rr_istore_n (q := 17) [some (.ref (vv_ad x 0)), some (.int s1), some (.int (0 : Int32))] dX12_layPairs_16 rfl rfl (Nat.le_of_ble_eq_true rfl) rfl rfl ?_
    obtain ⟨r29, k33, hm⟩ := vv_bind hm
    refine vv_lp_link (P := fun (zs : Int32 × vv_H) => vv_V x vv_TR mm_X12_layPairs post 17 [some (.ref (vv_ad x 0)), some (.int s1), some (.int zs.1)] [] zs.2) (Q := (fun (e30 : (vv_H)) => vv_V x vv_TR mm_X12_layPairs post 130 [some (.ref (vv_ad x 0)), some (.int s1), none] [] e30)) (fun zs o hm hI hX => ?_) vv_F ((0 : Int32), h) r29 k33 ?_
    · exact vt_X12_layPairs_B17   hm (fun z2 zh e => hI (z2, zh) e) (fun zh e => hX zh e)
    · generalize r29 = e30 at hm ⊢
      try dsimp only [Sum.elim_inl, Sum.elim_inr] at hm
      try dsimp only [Sum.elim_inl, Sum.elim_inr]
      obtain ⟨w31, c32, hm⟩ := vv_let_of hm
      refine rr_iinc (q := 133) [some (.ref (vv_ad x 0)), some (.int w31), none] dX12_layPairs_130 rfl rfl c32.symm (Nat.le_of_ble_eq_true rfl) rfl rfl ?_
      refine rr_goto (tgt := 7) dX12_layPairs_133 (by decide) ?_
      obtain rfl := Option.some.inj hm
      exact hI w31 e30 rfl
set_option maxHeartbeats 200000 in
theorem vt_X12_layPairs {x : vv_E} {post : Option Value → vv_H → Prop} {h : vv_H} {o : vv_H}  (hm : ff_X12_layPairs  h = some o) (hp : post none o) : vv_V x vv_TR mm_X12_layPairs post 0 [some (.ref (vv_ad x 0)), none, none] [] h := by
  unfold ff_X12_layPairs at hm
  refine rr_aload_n (q := 1) dX12_layPairs_0 rfl rfl ?_
  refine rr_iconst (q := 2) (v := 0) dX12_layPairs_1 rfl (by decide) ?_
  refine pf_X12_374 (q := 5) rfl dX12_layPairs_2 rfl (fun g1 c2 => ?_)
  replace hm := vv_letE hm c2
  refine rr_iconst (q := 6) (v := 0) dX12_layPairs_5 rfl (by decide) ?_
  refine rr_istore_n (q := 7) [some (.ref (vv_ad x 0)), some (.int (0 : Int32)), none] dX12_layPairs_6 rfl rfl (Nat.le_of_ble_eq_true rfl) rfl rfl ?_
  obtain ⟨r34, k36, hm⟩ := vv_bind hm
  refine vv_lp_link (P := fun (zs : Int32 × vv_H) => vv_V x vv_TR mm_X12_layPairs post 7 [some (.ref (vv_ad x 0)), some (.int zs.1), none] [] zs.2) (Q := (fun (e35 : (vv_H)) => vv_V x vv_TR mm_X12_layPairs post 136 [none, none, none] [] e35)) (fun zs o hm hI hX => ?_) vv_F ((0 : Int32), g1) r34 k36 ?_
  · exact vt_X12_layPairs_B7   hm (fun z1 zh e => hI (z1, zh) e) (fun zh e => hX zh e)
  · generalize r34 = e35 at hm ⊢
    try dsimp only [Sum.elim_inl, Sum.elim_inr] at hm
    try dsimp only [Sum.elim_inl, Sum.elim_inr]
    obtain rfl := Option.some.inj hm
    exact rr_vret dX12_layPairs_136 rfl hp
theorem cc_X12_layPairs {x : vv_E} {h : vv_H} {o : vv_H}  (hm : ff_X12_layPairs h = some o) : vv_C x vv_TR yX12_layPairs mm_X12_layPairs [.ref (vv_ad x 0)] h (fun v g => v = none ∧ g = o) := vv_entry (by decide +kernel) rfl (Nat.le_of_ble_eq_true rfl) rfl (vt_X12_layPairs  hm ⟨rfl, rfl⟩)
def ff_X12_costNow_B17 (u1 : Int32) (u2 : Int32) (h : vv_H) (s3 : Int32) (s4 : Int32) : Option ((Int32 × Int32) ⊕ ((Int32))) := (if (h.1 0 62) ≤ s4 then some (.inr s3) else vv_ck s4 12 ((if (h.1 46 s4.toNatClampNeg) = u2 then vv_ck s4 12 (vv_let (s3 + (h.1 49 s4.toNatClampNeg)) (fun w3 => vv_let (s4 + 1) (fun w5 => some (.inl (w3, w5))))) else vv_ck s4 12 ((if (h.1 47 s4.toNatClampNeg) = u2 then vv_ck s4 12 (vv_let (s3 + (h.1 49 s4.toNatClampNeg)) (fun w11 => vv_let (s4 + 1) (fun w13 => some (.inl (w11, w13))))) else vv_let (s4 + 1) (fun w8 => some (.inl ((s3 + (0 : Int32)), w8))))))))
def ff_X12_costNow_B4 (u1 : Int32) (h : vv_H) (s2 : Int32) : Option ((Int32) ⊕ ((Unit) ⊕ (Unit) ⊕ (Unit))) := (if (h.1 0 42) ≤ s2 then some (.inr (.inl ())) else (vv_lp (fun (zs : Int32 × Int32) => ff_X12_costNow_B17  u1 s2 h zs.1 zs.2) vv_F ((0 : Int32), (0 : Int32))).bind (fun (e16 : (Int32)) => vv_ck s2 4 ((if 0 ≤ (h.1 51 s2.toNatClampNeg) then vv_ck s2 4 ((if (h.1 51 s2.toNatClampNeg) ≤ 0 then (if e16 ≤ (0 : Int32) then vv_let (s2 + 1) (fun w19 => some (.inl w19)) else some (.inr (.inr (.inr ())))) else vv_ck s2 4 ((if e16 ≤ (h.1 51 s2.toNatClampNeg) then vv_let (s2 + 1) (fun w22 => some (.inl w22)) else some (.inr (.inr (.inr ()))))))) else vv_ck s2 4 ((if e16 = (-(h.1 51 s2.toNatClampNeg)) then vv_let (s2 + 1) (fun w25 => some (.inl w25)) else some (.inr (.inr (.inl ())))))))))
def ff_X12_costNow_B124 (h : vv_H) (s1 : Int32) (s2 : Int32) : Option ((Int32 × Int32) ⊕ ((Int32))) := (if (h.1 0 62) ≤ s2 then some (.inr s1) else vv_ck s2 12 (vv_ck s2 12 (vv_ck s2 12 (vv_ck (((4 : Int32) * (h.1 46 s2.toNatClampNeg)) + (h.1 47 s2.toNatClampNeg)) 16 (vv_let (s1 + ((h.1 49 s2.toNatClampNeg) * (h.1 28 (((4 : Int32) * (h.1 46 s2.toNatClampNeg)) + (h.1 47 s2.toNatClampNeg)).toNatClampNeg))) (fun w34 => vv_let (s2 + 1) (fun w36 => some (.inl (w34, w36)))))))))
def ff_X12_costNow (h : vv_H) : Option (Int32) := (vv_lp (fun (zs : Int32) => ff_X12_costNow_B4  (0 : Int32) h zs) vv_F (0 : Int32)).bind (Sum.elim (fun (e29 : (Unit)) => (vv_lp (fun (zs : Int32 × Int32) => ff_X12_costNow_B124  h zs.1 zs.2) vv_F ((0 : Int32), (0 : Int32))).bind (fun (e39 : (Int32)) => some e39)) (Sum.elim (fun (e41 : (Unit)) => some (-1 : Int32)) (fun (e42 : (Unit)) => some (-1 : Int32))))
set_option maxHeartbeats 200000 in
theorem vt_X12_costNow_B17 {x : vv_E} {post : Option Value → vv_H → Prop} {u1 : Int32} {u2 : Int32} {h : vv_H} {s3 : Int32} {s4 : Int32} {o : (Int32 × Int32) ⊕ ((Int32))}  (hm : ff_X12_costNow_B17  u1 u2 h s3 s4 = some o) (hI : ∀ (z3 : Int32) (z4 : Int32) , o = .inl (z3, z4) → vv_V x vv_TR mm_X12_costNow post 17 [some (.ref (vv_ad x 0)), some (.int u1), some (.int u2), some (.int z3), some (.int z4)] [] h) (hX0 : ∀ (z3 : Int32), o = .inr z3 → vv_V x vv_TR mm_X12_costNow post 68 [some (.ref (vv_ad x 0)), some (.int u1), some (.int u2), some (.int z3), none] [] h) : vv_V x vv_TR mm_X12_costNow post 17 [some (.ref (vv_ad x 0)), some (.int u1), some (.int u2), some (.int s3), some (.int s4)] [] h := by
  unfold ff_X12_costNow_B17 at hm
  refine rr_iload (q := 19) dX12_costNow_17 rfl rfl ?_
  refine rr_aload_n (q := 20) dX12_costNow_19 rfl rfl ?_
  refine gf_X12_374 (q := 23) rfl dX12_costNow_20 rfl ?_
  refine rr_icmp_ge (q := 26) (tgt := 68) dX12_costNow_23 (by decide) rfl hm (fun hm => ?_) (fun hm => ?_)
  · obtain rfl := Option.some.inj hm
    refine rr_sub [true, true, true, true, false] rfl ?_
    exact hX0 s3 rfl
  · refine rr_iload_n (q := 27) dX12_costNow_26 rfl rfl ?_
    refine rr_aload_n (q := 28) dX12_costNow_27 rfl rfl ?_
    refine gf_X12_146 (q := 31) rfl dX12_costNow_28 rfl ?_
    refine rr_iload (q := 33) dX12_costNow_31 rfl rfl ?_
    obtain ⟨c1, hm⟩ := vv_ck_of hm
    refine rr_iald (q := 34) ylR_46 ynR_46 c1 dX12_costNow_33 rfl ?_
    refine rr_iload_n (q := 35) dX12_costNow_34 rfl rfl ?_
    refine rr_icmp_eq (q := 38) (tgt := 49) dX12_costNow_35 (by decide) rfl hm (fun hm => ?_) (fun hm => ?_)
    · refine rr_aload_n (q := 50) dX12_costNow_49 rfl rfl ?_
      refine gf_X12_155 (q := 53) rfl dX12_costNow_50 rfl ?_
      refine rr_iload (q := 55) dX12_costNow_53 rfl rfl ?_
      obtain ⟨c2, hm⟩ := vv_ck_of hm
      refine rr_iald (q := 56) ylR_49 ynR_49 c2 dX12_costNow_55 rfl ?_
      refine rr_goto (tgt := 60) dX12_costNow_56 (by decide) ?_
      refine rr_iadd (q := 61) dX12_costNow_60 rfl ?_
      obtain ⟨w3, c4, hm⟩ := vv_let_of hm
      rw [← c4]
      refine rr_istore_n (q := 62) [some (.ref (vv_ad x 0)), some (.int u1), some (.int u2), some (.int w3), some (.int s4)] dX12_costNow_61 rfl rfl (Nat.le_of_ble_eq_true rfl) rfl rfl ?_
      obtain ⟨w5, c6, hm⟩ := vv_let_of hm
      refine rr_iinc (q := 65) [some (.ref (vv_ad x 0)), some (.int u1), some (.int u2), some (.int w3), some (.int w5)] dX12_costNow_62 rfl rfl c6.symm (Nat.le_of_ble_eq_true rfl) rfl rfl ?_
      refine rr_goto (tgt := 17) dX12_costNow_65 (by decide) ?_
      obtain rfl := Option.some.inj hm
      exact hI w3 w5 rfl
    · refine rr_aload_n (q := 39) dX12_costNow_38 rfl rfl ?_
      refine gf_X12_149 (q := 42) rfl dX12_costNow_39 rfl ?_
      refine rr_iload (q := 44) dX12_costNow_42 rfl rfl ?_
      obtain ⟨c7, hm⟩ := vv_ck_of hm
      refine rr_iald (q := 45) ylR_47 ynR_47 c7 dX12_costNow_44 rfl ?_
      refine rr_iload_n (q := 46) dX12_costNow_45 rfl rfl ?_
      refine rr_icmp_ne (q := 49) (tgt := 59) dX12_costNow_46 (by decide) rfl hm (fun hm => ?_) (fun hm => ?_)
      · refine rr_iconst (q := 60) (v := 0) dX12_costNow_59 rfl (by decide) ?_
        refine rr_iadd (q := 61) dX12_costNow_60 rfl ?_
        refine rr_istore_n (q := 62) [some (.ref (vv_ad x 0)), some (.int u1), some (.int u2), some (.int (s3 + (0 : Int32))), some (.int s4)] dX12_costNow_61 rfl rfl (Nat.le_of_ble_eq_true rfl) rfl rfl ?_
        obtain ⟨w8, c9, hm⟩ := vv_let_of hm
        refine rr_iinc (q := 65) [some (.ref (vv_ad x 0)), some (.int u1), some (.int u2), some (.int (s3 + (0 : Int32))), some (.int w8)] dX12_costNow_62 rfl rfl c9.symm (Nat.le_of_ble_eq_true rfl) rfl rfl ?_
        refine rr_goto (tgt := 17) dX12_costNow_65 (by decide) ?_
        obtain rfl := Option.some.inj hm
        exact hI (s3 + (0 : Int32)) w8 rfl
      · refine rr_aload_n (q := 50) dX12_costNow_49 rfl rfl ?_
        refine gf_X12_155 (q := 53) rfl dX12_costNow_50 rfl ?_
        refine rr_iload (q := 55) dX12_costNow_53 rfl rfl ?_
        obtain ⟨c10, hm⟩ := vv_ck_of hm
        refine rr_iald (q := 56) ylR_49 ynR_49 c10 dX12_costNow_55 rfl ?_
        refine rr_goto (tgt := 60) dX12_costNow_56 (by decide) ?_
        refine rr_iadd (q := 61) dX12_costNow_60 rfl ?_
        obtain ⟨w11, c12, hm⟩ := vv_let_of hm
        rw [← c12]
        refine rr_istore_n (q := 62) [some (.ref (vv_ad x 0)), some (.int u1), some (.int u2), some (.int w11), some (.int s4)] dX12_costNow_61 rfl rfl (Nat.le_of_ble_eq_true rfl) rfl rfl ?_
        obtain ⟨w13, c14, hm⟩ := vv_let_of hm
        refine rr_iinc (q := 65) [some (.ref (vv_ad x 0)), some (.int u1), some (.int u2), some (.int w11), some (.int w13)] dX12_costNow_62 rfl rfl c14.symm (Nat.le_of_ble_eq_true rfl) rfl rfl ?_
        refine rr_goto (tgt := 17) dX12_costNow_65 (by decide) ?_
        obtain rfl := Option.some.inj hm
        exact hI w11 w13 rfl
set_option maxHeartbeats 200000 in
theorem vt_X12_costNow_B4 {x : vv_E} {post : Option Value → vv_H → Prop} {u1 : Int32} {h : vv_H} {s2 : Int32} {o : (Int32) ⊕ ((Unit) ⊕ (Unit) ⊕ (Unit))}  (hm : ff_X12_costNow_B4  u1 h s2 = some o) (hI : ∀ (z2 : Int32) , o = .inl z2 → vv_V x vv_TR mm_X12_costNow post 4 [some (.ref (vv_ad x 0)), some (.int u1), some (.int z2), none, none] [] h) (hX0 : o = .inr (.inl ()) → vv_V x vv_TR mm_X12_costNow post 122 [some (.ref (vv_ad x 0)), some (.int u1), none, none, none] [] h) (hX1 : o = .inr (.inr (.inl ())) → vv_V x vv_TR mm_X12_costNow post 88 [none, none, none, none, none] [] h) (hX2 : o = .inr (.inr (.inr ())) → vv_V x vv_TR mm_X12_costNow post 114 [none, none, none, none, none] [] h) : vv_V x vv_TR mm_X12_costNow post 4 [some (.ref (vv_ad x 0)), some (.int u1), some (.int s2), none, none] [] h := by
  unfold ff_X12_costNow_B4 at hm
  refine rr_iload_n (q := 5) dX12_costNow_4 rfl rfl ?_
  refine rr_aload_n (q := 6) dX12_costNow_5 rfl rfl ?_
  refine gf_X12_328 (q := 9) rfl dX12_costNow_6 rfl ?_
  refine rr_icmp_ge (q := 12) (tgt := 122) dX12_costNow_9 (by decide) rfl hm (fun hm => ?_) (fun hm => ?_)
  · obtain rfl := Option.some.inj hm
    refine rr_sub [true, true, false, false, false] rfl ?_
    exact hX0  rfl
  · refine rr_iconst (q := 13) (v := 0) dX12_costNow_12 rfl (by decide) ?_
    refine rr_istore_n (q := 14) [some (.ref (vv_ad x 0)), some (.int u1), some (.int s2), some (.int (0 : Int32)), none] dX12_costNow_13 rfl rfl (Nat.le_of_ble_eq_true rfl) rfl rfl ?_
    refine rr_iconst (q := 15) (v := 0) dX12_costNow_14 rfl (by decide) ?_
    refine rr_istore (q := 17) [some (.ref (vv_ad x 0)), some (.int u1), some (.int s2), some (.int (0 : Int32)), some (.int (0 : Int32))] dX12_costNow_15 rfl (Nat.le_of_ble_eq_true rfl) rfl rfl ?_
    obtain ⟨r15, k27, hm⟩ := vv_bind hm
    refine vv_lp_link (P := fun (zs : Int32 × Int32) => vv_V x vv_TR mm_X12_costNow post 17 [some (.ref (vv_ad x 0)), some (.int u1), some (.int s2), some (.int zs.1), some (.int zs.2)] [] h) (Q := (fun (e16 : (Int32)) => vv_V x vv_TR mm_X12_costNow post 68 [some (.ref (vv_ad x 0)), some (.int u1), some (.int s2), some (.int e16), none] [] h)) (fun zs o hm hI hX => ?_) vv_F ((0 : Int32), (0 : Int32)) r15 k27 ?_
    · exact vt_X12_costNow_B17   hm (fun z3 z4 e => hI (z3, z4) e) (fun z3 e => hX z3 e)
    · generalize r15 = e16 at hm ⊢
      try dsimp only [Sum.elim_inl, Sum.elim_inr] at hm
      try dsimp only [Sum.elim_inl, Sum.elim_inr]
      refine rr_aload_n (q := 69) dX12_costNow_68 rfl rfl ?_
      refine gf_X12_161 (q := 72) rfl dX12_costNow_69 rfl ?_
      refine rr_iload_n (q := 73) dX12_costNow_72 rfl rfl ?_
      obtain ⟨c17, hm⟩ := vv_ck_of hm
      refine rr_iald (q := 74) ylR_51 ynR_51 c17 dX12_costNow_73 rfl ?_
      refine rr_if_ge (q := 77) (tgt := 91) dX12_costNow_74 (by decide) rfl hm (fun hm => ?_) (fun hm => ?_)
      · refine rr_iload_n (q := 92) dX12_costNow_91 rfl rfl ?_
        refine rr_aload_n (q := 93) dX12_costNow_92 rfl rfl ?_
        refine gf_X12_161 (q := 96) rfl dX12_costNow_93 rfl ?_
        refine rr_iload_n (q := 97) dX12_costNow_96 rfl rfl ?_
        obtain ⟨c18, hm⟩ := vv_ck_of hm
        refine rr_iald (q := 98) ylR_51 ynR_51 c18 dX12_costNow_97 rfl ?_
        refine rr_if_le (q := 101) (tgt := 110) dX12_costNow_98 (by decide) rfl hm (fun hm => ?_) (fun hm => ?_)
        · refine rr_iconst (q := 111) (v := 0) dX12_costNow_110 rfl (by decide) ?_
          refine rr_icmp_le (q := 114) (tgt := 116) dX12_costNow_111 (by decide) rfl hm (fun hm => ?_) (fun hm => ?_)
          · obtain ⟨w19, c20, hm⟩ := vv_let_of hm
            refine rr_iinc (q := 119) [some (.ref (vv_ad x 0)), some (.int u1), some (.int w19), some (.int e16), none] dX12_costNow_116 rfl rfl c20.symm (Nat.le_of_ble_eq_true rfl) rfl rfl ?_
            refine rr_goto (tgt := 4) dX12_costNow_119 (by decide) ?_
            obtain rfl := Option.some.inj hm
            refine rr_sub [true, true, true, false, false] rfl ?_
            exact hI w19 rfl
          · obtain rfl := Option.some.inj hm
            refine rr_sub [false, false, false, false, false] rfl ?_
            exact hX2  rfl
        · refine rr_aload_n (q := 102) dX12_costNow_101 rfl rfl ?_
          refine gf_X12_161 (q := 105) rfl dX12_costNow_102 rfl ?_
          refine rr_iload_n (q := 106) dX12_costNow_105 rfl rfl ?_
          obtain ⟨c21, hm⟩ := vv_ck_of hm
          refine rr_iald (q := 107) ylR_51 ynR_51 c21 dX12_costNow_106 rfl ?_
          refine rr_goto (tgt := 111) dX12_costNow_107 (by decide) ?_
          refine rr_icmp_le (q := 114) (tgt := 116) dX12_costNow_111 (by decide) rfl hm (fun hm => ?_) (fun hm => ?_)
          · obtain ⟨w22, c23, hm⟩ := vv_let_of hm
            refine rr_iinc (q := 119) [some (.ref (vv_ad x 0)), some (.int u1), some (.int w22), some (.int e16), none] dX12_costNow_116 rfl rfl c23.symm (Nat.le_of_ble_eq_true rfl) rfl rfl ?_
            refine rr_goto (tgt := 4) dX12_costNow_119 (by decide) ?_
            obtain rfl := Option.some.inj hm
            refine rr_sub [true, true, true, false, false] rfl ?_
            exact hI w22 rfl
          · obtain rfl := Option.some.inj hm
            refine rr_sub [false, false, false, false, false] rfl ?_
            exact hX2  rfl
      · refine rr_iload_n (q := 78) dX12_costNow_77 rfl rfl ?_
        refine rr_aload_n (q := 79) dX12_costNow_78 rfl rfl ?_
        refine gf_X12_161 (q := 82) rfl dX12_costNow_79 rfl ?_
        refine rr_iload_n (q := 83) dX12_costNow_82 rfl rfl ?_
        obtain ⟨c24, hm⟩ := vv_ck_of hm
        refine rr_iald (q := 84) ylR_51 ynR_51 c24 dX12_costNow_83 rfl ?_
        refine rr_ineg (q := 85) dX12_costNow_84 rfl ?_
        refine rr_icmp_eq (q := 88) (tgt := 116) dX12_costNow_85 (by decide) rfl hm (fun hm => ?_) (fun hm => ?_)
        · obtain ⟨w25, c26, hm⟩ := vv_let_of hm
          refine rr_iinc (q := 119) [some (.ref (vv_ad x 0)), some (.int u1), some (.int w25), some (.int e16), none] dX12_costNow_116 rfl rfl c26.symm (Nat.le_of_ble_eq_true rfl) rfl rfl ?_
          refine rr_goto (tgt := 4) dX12_costNow_119 (by decide) ?_
          obtain rfl := Option.some.inj hm
          refine rr_sub [true, true, true, false, false] rfl ?_
          exact hI w25 rfl
        · obtain rfl := Option.some.inj hm
          refine rr_sub [false, false, false, false, false] rfl ?_
          exact hX1  rfl
set_option maxHeartbeats 200000 in
theorem vt_X12_costNow_B124 {x : vv_E} {post : Option Value → vv_H → Prop} {h : vv_H} {s1 : Int32} {s2 : Int32} {o : (Int32 × Int32) ⊕ ((Int32))}  (hm : ff_X12_costNow_B124  h s1 s2 = some o) (hI : ∀ (z1 : Int32) (z2 : Int32) , o = .inl (z1, z2) → vv_V x vv_TR mm_X12_costNow post 124 [some (.ref (vv_ad x 0)), some (.int z1), some (.int z2), none, none] [] h) (hX0 : ∀ (z1 : Int32), o = .inr z1 → vv_V x vv_TR mm_X12_costNow post 168 [none, some (.int z1), none, none, none] [] h) : vv_V x vv_TR mm_X12_costNow post 124 [some (.ref (vv_ad x 0)), some (.int s1), some (.int s2), none, none] [] h := by
  unfold ff_X12_costNow_B124 at hm
  refine rr_iload_n (q := 125) dX12_costNow_124 rfl rfl ?_
  refine rr_aload_n (q := 126) dX12_costNow_125 rfl rfl ?_
  refine gf_X12_374 (q := 129) rfl dX12_costNow_126 rfl ?_
  refine rr_icmp_ge (q := 132) (tgt := 168) dX12_costNow_129 (by decide) rfl hm (fun hm => ?_) (fun hm => ?_)
  · obtain rfl := Option.some.inj hm
    refine rr_sub [false, true, false, false, false] rfl ?_
    exact hX0 s1 rfl
  · refine rr_iload_n (q := 133) dX12_costNow_132 rfl rfl ?_
    refine rr_aload_n (q := 134) dX12_costNow_133 rfl rfl ?_
    refine gf_X12_155 (q := 137) rfl dX12_costNow_134 rfl ?_
    refine rr_iload_n (q := 138) dX12_costNow_137 rfl rfl ?_
    obtain ⟨c30, hm⟩ := vv_ck_of hm
    refine rr_iald (q := 139) ylR_49 ynR_49 c30 dX12_costNow_138 rfl ?_
    refine rr_aload_n (q := 140) dX12_costNow_139 rfl rfl ?_
    refine gf_X12_91 (q := 143) rfl dX12_costNow_140 rfl ?_
    refine rr_iconst (q := 144) (v := 4) dX12_costNow_143 rfl (by decide) ?_
    refine rr_aload_n (q := 145) dX12_costNow_144 rfl rfl ?_
    refine gf_X12_146 (q := 148) rfl dX12_costNow_145 rfl ?_
    refine rr_iload_n (q := 149) dX12_costNow_148 rfl rfl ?_
    obtain ⟨c31, hm⟩ := vv_ck_of hm
    refine rr_iald (q := 150) ylR_46 ynR_46 c31 dX12_costNow_149 rfl ?_
    refine rr_imul (q := 151) dX12_costNow_150 rfl ?_
    refine rr_aload_n (q := 152) dX12_costNow_151 rfl rfl ?_
    refine gf_X12_149 (q := 155) rfl dX12_costNow_152 rfl ?_
    refine rr_iload_n (q := 156) dX12_costNow_155 rfl rfl ?_
    obtain ⟨c32, hm⟩ := vv_ck_of hm
    refine rr_iald (q := 157) ylR_47 ynR_47 c32 dX12_costNow_156 rfl ?_
    refine rr_iadd (q := 158) dX12_costNow_157 rfl ?_
    obtain ⟨c33, hm⟩ := vv_ck_of hm
    refine rr_iald (q := 159) ylR_28 ynR_28 c33 dX12_costNow_158 rfl ?_
    refine rr_imul (q := 160) dX12_costNow_159 rfl ?_
    refine rr_iadd (q := 161) dX12_costNow_160 rfl ?_
    obtain ⟨w34, c35, hm⟩ := vv_let_of hm
    rw [← c35]
    refine rr_istore_n (q := 162) [some (.ref (vv_ad x 0)), some (.int w34), some (.int s2), none, none] dX12_costNow_161 rfl rfl (Nat.le_of_ble_eq_true rfl) rfl rfl ?_
    obtain ⟨w36, c37, hm⟩ := vv_let_of hm
    refine rr_iinc (q := 165) [some (.ref (vv_ad x 0)), some (.int w34), some (.int w36), none, none] dX12_costNow_162 rfl rfl c37.symm (Nat.le_of_ble_eq_true rfl) rfl rfl ?_
    refine rr_goto (tgt := 124) dX12_costNow_165 (by decide) ?_
    obtain rfl := Option.some.inj hm
    exact hI w34 w36 rfl
set_option maxHeartbeats 200000 in
theorem vt_X12_costNow {x : vv_E} {post : Option Value → vv_H → Prop} {h : vv_H} {o : Int32}  (hm : ff_X12_costNow  h = some o) (hp : post (some (.int o)) h) : vv_V x vv_TR mm_X12_costNow post 0 [some (.ref (vv_ad x 0)), none, none, none, none] [] h := by
  unfold ff_X12_costNow at hm
  refine rr_iconst (q := 1) (v := 0) dX12_costNow_0 rfl (by decide) ?_
  refine rr_istore_n (q := 2) [some (.ref (vv_ad x 0)), some (.int (0 : Int32)), none, none, none] dX12_costNow_1 rfl rfl (Nat.le_of_ble_eq_true rfl) rfl rfl ?_
  refine rr_iconst (q := 3) (v := 0) dX12_costNow_2 rfl (by decide) ?_
  refine rr_istore_n (q := 4) [some (.ref (vv_ad x 0)), some (.int (0 : Int32)), some (.int (0 : Int32)), none, none] dX12_costNow_3 rfl rfl (Nat.le_of_ble_eq_true rfl) rfl rfl ?_
  obtain ⟨r28, k43, hm⟩ := vv_bind hm
  refine vv_lp_link (P := fun (zs : Int32) => vv_V x vv_TR mm_X12_costNow post 4 [some (.ref (vv_ad x 0)), some (.int (0 : Int32)), some (.int zs), none, none] [] h) (Q := (Sum.elim (fun (e29 : (Unit)) => vv_V x vv_TR mm_X12_costNow post 122 [some (.ref (vv_ad x 0)), some (.int (0 : Int32)), none, none, none] [] h) (Sum.elim (fun (e41 : (Unit)) => vv_V x vv_TR mm_X12_costNow post 88 [none, none, none, none, none] [] h) (fun (e42 : (Unit)) => vv_V x vv_TR mm_X12_costNow post 114 [none, none, none, none, none] [] h)))) (fun zs o hm hI hX => ?_) vv_F (0 : Int32) r28 k43 ?_
  · exact vt_X12_costNow_B4   hm (fun z2 e => hI z2 e) (hX (.inl ())) (hX (.inr (.inl ()))) (hX (.inr (.inr ())))
  · rcases r28 with e29 | qe29
    · try dsimp only [Sum.elim_inl, Sum.elim_inr] at hm
      try dsimp only [Sum.elim_inl, Sum.elim_inr]
      refine rr_iconst (q := 123) (v := 0) dX12_costNow_122 rfl (by decide) ?_
      refine rr_istore_n (q := 124) [some (.ref (vv_ad x 0)), some (.int (0 : Int32)), some (.int (0 : Int32)), none, none] dX12_costNow_123 rfl rfl (Nat.le_of_ble_eq_true rfl) rfl rfl ?_
      obtain ⟨r38, k40, hm⟩ := vv_bind hm
      refine vv_lp_link (P := fun (zs : Int32 × Int32) => vv_V x vv_TR mm_X12_costNow post 124 [some (.ref (vv_ad x 0)), some (.int zs.1), some (.int zs.2), none, none] [] h) (Q := (fun (e39 : (Int32)) => vv_V x vv_TR mm_X12_costNow post 168 [none, some (.int e39), none, none, none] [] h)) (fun zs o hm hI hX => ?_) vv_F ((0 : Int32), (0 : Int32)) r38 k40 ?_
      · exact vt_X12_costNow_B124   hm (fun z1 z2 e => hI (z1, z2) e) (fun z1 e => hX z1 e)
      · generalize r38 = e39 at hm ⊢
        try dsimp only [Sum.elim_inl, Sum.elim_inr] at hm
        try dsimp only [Sum.elim_inl, Sum.elim_inr]
        refine rr_iload_n (q := 169) dX12_costNow_168 rfl rfl ?_
        obtain rfl := Option.some.inj hm
        exact rr_iret dX12_costNow_169 rfl hp
    · rcases qe29 with e41 | qe41
      · try dsimp only [Sum.elim_inl, Sum.elim_inr] at hm
        try dsimp only [Sum.elim_inl, Sum.elim_inr]
        refine rr_goto (tgt := 114) dX12_costNow_88 (by decide) ?_
        refine rr_iconst (q := 115) (v := -1) dX12_costNow_114 rfl (by decide) ?_
        obtain rfl := Option.some.inj hm
        exact rr_iret dX12_costNow_115 rfl hp
      · generalize qe41 = e42 at hm ⊢
        try dsimp only [Sum.elim_inl, Sum.elim_inr] at hm
        try dsimp only [Sum.elim_inl, Sum.elim_inr]
        refine rr_iconst (q := 115) (v := -1) dX12_costNow_114 rfl (by decide) ?_
        obtain rfl := Option.some.inj hm
        exact rr_iret dX12_costNow_115 rfl hp
theorem cc_X12_costNow {x : vv_E} {h : vv_H} {o : Int32}  (hm : ff_X12_costNow h = some o) : vv_C x vv_TR yX12_costNow mm_X12_costNow [.ref (vv_ad x 0)] h (fun v g => v = some (.int o) ∧ g = h) := vv_entry (by decide +kernel) rfl (Nat.le_of_ble_eq_true rfl) rfl (vt_X12_costNow  hm ⟨rfl, rfl⟩)
def ff_X12_layChoices_B10 (u1 : Int32) (s2 : Int32) (h : vv_H) : Option ((Int32 × vv_H) ⊕ ((vv_H))) := (if (37 : Int32) ≤ s2 then some (.inr h) else (if s2 = 0 then vv_ck (((37 : Int32) * u1) + s2) 1369 (vv_let (vv_lu h 52 (((37 : Int32) * u1) + s2).toNatClampNeg (1 : Int64)) (fun g14 => vv_let (s2 + 1) (fun w16 => some (.inl (w16, g14))))) else (if u1 = 0 then vv_ck (((37 : Int32) * u1) + s2) 1369 (vv_let (vv_lu h 52 (((37 : Int32) * u1) + s2).toNatClampNeg (0 : Int64)) (fun g9 => vv_let (s2 + 1) (fun w11 => some (.inl (w11, g9))))) else vv_ck (((37 : Int32) * (u1 - (1 : Int32))) + s2) 1369 (vv_ck ((((37 : Int32) * (u1 - (1 : Int32))) + s2) - (1 : Int32)) 1369 (vv_ck (((37 : Int32) * u1) + s2) 1369 (vv_let (vv_lu h 52 (((37 : Int32) * u1) + s2).toNatClampNeg ((h.2.1 52 (((37 : Int32) * (u1 - (1 : Int32))) + s2).toNatClampNeg) + (h.2.1 52 ((((37 : Int32) * (u1 - (1 : Int32))) + s2) - (1 : Int32)).toNatClampNeg))) (fun g4 => vv_let (s2 + 1) (fun w6 => some (.inl (w6, g4))))))))))
def ff_X12_layChoices_B2  (s1 : Int32) (h : vv_H) : Option ((Int32 × vv_H) ⊕ ((vv_H))) := (if (37 : Int32) ≤ s1 then some (.inr h) else (vv_lp (fun (zs : Int32 × vv_H) => ff_X12_layChoices_B10  s1 zs.1 zs.2) vv_F ((0 : Int32), h)).bind (fun (e19 : (vv_H)) => vv_let (s1 + 1) (fun w20 => some (.inl (w20, e19)))))
def ff_X12_layChoices (h : vv_H) : Option (vv_H) := (vv_lp (fun (zs : Int32 × vv_H) => ff_X12_layChoices_B2   zs.1 zs.2) vv_F ((0 : Int32), h)).bind (fun (e24 : (vv_H)) => some e24)
set_option maxHeartbeats 200000 in
theorem vt_X12_layChoices_B10 {x : vv_E} {post : Option Value → vv_H → Prop} {u1 : Int32} {s2 : Int32} {h : vv_H} {o : (Int32 × vv_H) ⊕ ((vv_H))}  (hm : ff_X12_layChoices_B10  u1 s2 h = some o) (hI : ∀ (z2 : Int32) (zh : vv_H), o = .inl (z2, zh) → vv_V x vv_TR mm_X12_layChoices post 10 [some (.ref (vv_ad x 0)), some (.int u1), some (.int z2)] [] zh) (hX0 : ∀  (zh : vv_H), o = .inr zh → vv_V x vv_TR mm_X12_layChoices post 78 [some (.ref (vv_ad x 0)), some (.int u1), none] [] zh) : vv_V x vv_TR mm_X12_layChoices post 10 [some (.ref (vv_ad x 0)), some (.int u1), some (.int s2)] [] h := by
  unfold ff_X12_layChoices_B10 at hm
  refine rr_iload_n (q := 11) dX12_layChoices_10 rfl rfl ?_
  refine rr_bipush (q := 13) (v := 37) dX12_layChoices_11 rfl (by decide) ?_
  refine rr_icmp_ge (q := 16) (tgt := 78) dX12_layChoices_13 (by decide) rfl hm (fun hm => ?_) (fun hm => ?_)
  · obtain rfl := Option.some.inj hm
    refine rr_sub [true, true, false] rfl ?_
    exact hX0 h rfl
  · refine rr_aload_n (q := 17) dX12_layChoices_16 rfl rfl ?_
    refine gf_X12_164 (q := 20) rfl dX12_layChoices_17 rfl ?_
    refine rr_bipush (q := 22) (v := 37) dX12_layChoices_20 rfl (by decide) ?_
    refine rr_iload_n (q := 23) dX12_layChoices_22 rfl rfl ?_
    refine rr_imul (q := 24) dX12_layChoices_23 rfl ?_
    refine rr_iload_n (q := 25) dX12_layChoices_24 rfl rfl ?_
    refine rr_iadd (q := 26) dX12_layChoices_25 rfl ?_
    refine rr_iload_n (q := 27) dX12_layChoices_26 rfl rfl ?_
    refine rr_if_ne (q := 30) (tgt := 34) dX12_layChoices_27 (by decide) rfl hm (fun hm => ?_) (fun hm => ?_)
    · refine rr_iload_n (q := 35) dX12_layChoices_34 rfl rfl ?_
      refine rr_if_ne (q := 38) (tgt := 42) dX12_layChoices_35 (by decide) rfl hm (fun hm => ?_) (fun hm => ?_)
      · refine rr_aload_n (q := 43) dX12_layChoices_42 rfl rfl ?_
        refine gf_X12_164 (q := 46) rfl dX12_layChoices_43 rfl ?_
        refine rr_bipush (q := 48) (v := 37) dX12_layChoices_46 rfl (by decide) ?_
        refine rr_iload_n (q := 49) dX12_layChoices_48 rfl rfl ?_
        refine rr_iconst (q := 50) (v := 1) dX12_layChoices_49 rfl (by decide) ?_
        refine rr_isub (q := 51) dX12_layChoices_50 rfl ?_
        refine rr_imul (q := 52) dX12_layChoices_51 rfl ?_
        refine rr_iload_n (q := 53) dX12_layChoices_52 rfl rfl ?_
        refine rr_iadd (q := 54) dX12_layChoices_53 rfl ?_
        obtain ⟨c1, hm⟩ := vv_ck_of hm
        refine rr_lald (q := 55) ylR_52 ynR_52 c1 dX12_layChoices_54 rfl ?_
        refine rr_aload_n (q := 56) dX12_layChoices_55 rfl rfl ?_
        refine gf_X12_164 (q := 59) rfl dX12_layChoices_56 rfl ?_
        refine rr_bipush (q := 61) (v := 37) dX12_layChoices_59 rfl (by decide) ?_
        refine rr_iload_n (q := 62) dX12_layChoices_61 rfl rfl ?_
        refine rr_iconst (q := 63) (v := 1) dX12_layChoices_62 rfl (by decide) ?_
        refine rr_isub (q := 64) dX12_layChoices_63 rfl ?_
        refine rr_imul (q := 65) dX12_layChoices_64 rfl ?_
        refine rr_iload_n (q := 66) dX12_layChoices_65 rfl rfl ?_
        refine rr_iadd (q := 67) dX12_layChoices_66 rfl ?_
        refine rr_iconst (q := 68) (v := 1) dX12_layChoices_67 rfl (by decide) ?_
        refine rr_isub (q := 69) dX12_layChoices_68 rfl ?_
        obtain ⟨c2, hm⟩ := vv_ck_of hm
        refine rr_lald (q := 70) ylR_52 ynR_52 c2 dX12_layChoices_69 rfl ?_
        refine rr_ladd (q := 71) dX12_layChoices_70 rfl ?_
        obtain ⟨c3, hm⟩ := vv_ck_of hm
        obtain ⟨g4, c5, hm⟩ := vv_let_of hm
        refine rr_last (q := 72) ylR_52 ynR_52 c3 dX12_layChoices_71 rfl ?_
        rw [← c5]
        obtain ⟨w6, c7, hm⟩ := vv_let_of hm
        refine rr_iinc (q := 75) [some (.ref (vv_ad x 0)), some (.int u1), some (.int w6)] dX12_layChoices_72 rfl rfl c7.symm (Nat.le_of_ble_eq_true rfl) rfl rfl ?_
        refine rr_goto (tgt := 10) dX12_layChoices_75 (by decide) ?_
        obtain rfl := Option.some.inj hm
        exact hI w6 g4 rfl
      · refine rr_lconst (q := 39) (v := 0) dX12_layChoices_38 rfl (by decide) ?_
        refine rr_goto (tgt := 71) dX12_layChoices_39 (by decide) ?_
        obtain ⟨c8, hm⟩ := vv_ck_of hm
        obtain ⟨g9, c10, hm⟩ := vv_let_of hm
        refine rr_last (q := 72) ylR_52 ynR_52 c8 dX12_layChoices_71 rfl ?_
        rw [← c10]
        obtain ⟨w11, c12, hm⟩ := vv_let_of hm
        refine rr_iinc (q := 75) [some (.ref (vv_ad x 0)), some (.int u1), some (.int w11)] dX12_layChoices_72 rfl rfl c12.symm (Nat.le_of_ble_eq_true rfl) rfl rfl ?_
        refine rr_goto (tgt := 10) dX12_layChoices_75 (by decide) ?_
        obtain rfl := Option.some.inj hm
        exact hI w11 g9 rfl
    · refine rr_lconst (q := 31) (v := 1) dX12_layChoices_30 rfl (by decide) ?_
      refine rr_goto (tgt := 71) dX12_layChoices_31 (by decide) ?_
      obtain ⟨c13, hm⟩ := vv_ck_of hm
      obtain ⟨g14, c15, hm⟩ := vv_let_of hm
      refine rr_last (q := 72) ylR_52 ynR_52 c13 dX12_layChoices_71 rfl ?_
      rw [← c15]
      obtain ⟨w16, c17, hm⟩ := vv_let_of hm
      refine rr_iinc (q := 75) [some (.ref (vv_ad x 0)), some (.int u1), some (.int w16)] dX12_layChoices_72 rfl rfl c17.symm (Nat.le_of_ble_eq_true rfl) rfl rfl ?_
      refine rr_goto (tgt := 10) dX12_layChoices_75 (by decide) ?_
      obtain rfl := Option.some.inj hm
      exact hI w16 g14 rfl
set_option maxHeartbeats 200000 in
theorem vt_X12_layChoices_B2 {x : vv_E} {post : Option Value → vv_H → Prop}  {s1 : Int32} {h : vv_H} {o : (Int32 × vv_H) ⊕ ((vv_H))}  (hm : ff_X12_layChoices_B2   s1 h = some o) (hI : ∀ (z1 : Int32) (zh : vv_H), o = .inl (z1, zh) → vv_V x vv_TR mm_X12_layChoices post 2 [some (.ref (vv_ad x 0)), some (.int z1), none] [] zh) (hX0 : ∀  (zh : vv_H), o = .inr zh → vv_V x vv_TR mm_X12_layChoices post 84 [none, none, none] [] zh) : vv_V x vv_TR mm_X12_layChoices post 2 [some (.ref (vv_ad x 0)), some (.int s1), none] [] h := by
  unfold ff_X12_layChoices_B2 at hm
  refine rr_iload_n (q := 3) dX12_layChoices_2 rfl rfl ?_
  refine rr_bipush (q := 5) (v := 37) dX12_layChoices_3 rfl (by decide) ?_
  refine rr_icmp_ge (q := 8) (tgt := 84) dX12_layChoices_5 (by decide) rfl hm (fun hm => ?_) (fun hm => ?_)
  · obtain rfl := Option.some.inj hm
    refine rr_sub [false, false, false] rfl ?_
    exact hX0 h rfl
  · refine rr_iconst (q := 9) (v := 0) dX12_layChoices_8 rfl (by decide) ?_
    refine rr_istore_n (q := 10) [some (.ref (vv_ad x 0)), some (.int s1), some (.int (0 : Int32))] dX12_layChoices_9 rfl rfl (Nat.le_of_ble_eq_true rfl) rfl rfl ?_
    obtain ⟨r18, k22, hm⟩ := vv_bind hm
    refine vv_lp_link (P := fun (zs : Int32 × vv_H) => vv_V x vv_TR mm_X12_layChoices post 10 [some (.ref (vv_ad x 0)), some (.int s1), some (.int zs.1)] [] zs.2) (Q := (fun (e19 : (vv_H)) => vv_V x vv_TR mm_X12_layChoices post 78 [some (.ref (vv_ad x 0)), some (.int s1), none] [] e19)) (fun zs o hm hI hX => ?_) vv_F ((0 : Int32), h) r18 k22 ?_
    · exact vt_X12_layChoices_B10   hm (fun z2 zh e => hI (z2, zh) e) (fun zh e => hX zh e)
    · generalize r18 = e19 at hm ⊢
      try dsimp only [Sum.elim_inl, Sum.elim_inr] at hm
      try dsimp only [Sum.elim_inl, Sum.elim_inr]
      obtain ⟨w20, c21, hm⟩ := vv_let_of hm
      refine rr_iinc (q := 81) [some (.ref (vv_ad x 0)), some (.int w20), none] dX12_layChoices_78 rfl rfl c21.symm (Nat.le_of_ble_eq_true rfl) rfl rfl ?_
      refine rr_goto (tgt := 2) dX12_layChoices_81 (by decide) ?_
      obtain rfl := Option.some.inj hm
      exact hI w20 e19 rfl
set_option maxHeartbeats 200000 in
theorem vt_X12_layChoices {x : vv_E} {post : Option Value → vv_H → Prop} {h : vv_H} {o : vv_H}  (hm : ff_X12_layChoices  h = some o) (hp : post none o) : vv_V x vv_TR mm_X12_layChoices post 0 [some (.ref (vv_ad x 0)), none, none] [] h := by
  unfold ff_X12_layChoices at hm
  refine rr_iconst (q := 1) (v := 0) dX12_layChoices_0 rfl (by decide) ?_
  refine rr_istore_n (q := 2) [some (.ref (vv_ad x 0)), some (.int (0 : Int32)), none] dX12_layChoices_1 rfl rfl (Nat.le_of_ble_eq_true rfl) rfl rfl ?_
  obtain ⟨r23, k25, hm⟩ := vv_bind hm
  refine vv_lp_link (P := fun (zs : Int32 × vv_H) => vv_V x vv_TR mm_X12_layChoices post 2 [some (.ref (vv_ad x 0)), some (.int zs.1), none] [] zs.2) (Q := (fun (e24 : (vv_H)) => vv_V x vv_TR mm_X12_layChoices post 84 [none, none, none] [] e24)) (fun zs o hm hI hX => ?_) vv_F ((0 : Int32), h) r23 k25 ?_
  · exact vt_X12_layChoices_B2   hm (fun z1 zh e => hI (z1, zh) e) (fun zh e => hX zh e)
  · generalize r23 = e24 at hm ⊢
    try dsimp only [Sum.elim_inl, Sum.elim_inr] at hm
    try dsimp only [Sum.elim_inl, Sum.elim_inr]
    obtain rfl := Option.some.inj hm
    exact rr_vret dX12_layChoices_84 rfl hp
theorem cc_X12_layChoices {x : vv_E} {h : vv_H} {o : vv_H}  (hm : ff_X12_layChoices h = some o) : vv_C x vv_TR yX12_layChoices mm_X12_layChoices [.ref (vv_ad x 0)] h (fun v g => v = none ∧ g = o) := vv_entry (by decide +kernel) rfl (Nat.le_of_ble_eq_true rfl) rfl (vt_X12_layChoices  hm ⟨rfl, rfl⟩)
def ff_X12_failedOf_J27  (u1 : Int32) (m3 : Int32) (z0 : Int32) (h : vv_H) : Option ((Int32 × Int32) ⊕ ((Int32))) := vv_ck m3 36 ((if (h.1 37 m3.toNatClampNeg) = (1 : Int32) then vv_let (m3 + 1) (fun w4 => some (.inl ((z0 + (1 : Int32)), w4))) else vv_let (m3 + 1) (fun w2 => some (.inl ((z0 + (0 : Int32)), w2)))))
def ff_X12_failedOf_B4 (u1 : Int32) (h : vv_H) (s2 : Int32) (s3 : Int32) : Option ((Int32 × Int32) ⊕ ((Int32))) := (if (h.1 0 44) ≤ s3 then some (.inr s2) else (if u1 < 0 then ff_X12_failedOf_J27  u1 s3 s2 h else vv_ck s3 36 ((if (h.1 30 s3.toNatClampNeg) = u1 then ff_X12_failedOf_J27  u1 s3 s2 h else vv_let (s3 + 1) (fun w7 => some (.inl ((s2 + (0 : Int32)), w7)))))))
def ff_X12_failedOf (h : vv_H) (v1 : Int32) : Option (Int32) := (vv_lp (fun (zs : Int32 × Int32) => ff_X12_failedOf_B4  v1 h zs.1 zs.2) vv_F ((0 : Int32), (0 : Int32))).bind (fun (e10 : (Int32)) => some e10)
set_option maxHeartbeats 200000 in
theorem vt_X12_failedOf_J27 {x : vv_E} {post : Option Value → vv_H → Prop}   {u1 : Int32} {m3 : Int32} {z0 : Int32} {h : vv_H} {o : (Int32 × Int32) ⊕ ((Int32))}  (hm : ff_X12_failedOf_J27  u1 m3 z0 h = some o) (hI : ∀ (z2 : Int32) (z3 : Int32) , o = .inl (z2, z3) → vv_V x vv_TR mm_X12_failedOf post 4 [some (.ref (vv_ad x 0)), some (.int u1), some (.int z2), some (.int z3)] [] h) (hX0 : ∀ (z2 : Int32), o = .inr z2 → vv_V x vv_TR mm_X12_failedOf post 50 [none, none, some (.int z2), none] [] h) : vv_V x vv_TR mm_X12_failedOf post 27 [some (.ref (vv_ad x 0)), some (.int u1), none, some (.int m3)] [.int z0] h := by
  unfold ff_X12_failedOf_J27 at hm
  refine rr_aload_n (q := 28) dX12_failedOf_27 rfl rfl ?_
  refine gf_X12_118 (q := 31) rfl dX12_failedOf_28 rfl ?_
  refine rr_iload_n (q := 32) dX12_failedOf_31 rfl rfl ?_
  obtain ⟨c1, hm⟩ := vv_ck_of hm
  refine rr_iald (q := 33) ylR_37 ynR_37 c1 dX12_failedOf_32 rfl ?_
  refine rr_iconst (q := 34) (v := 1) dX12_failedOf_33 rfl (by decide) ?_
  refine rr_icmp_ne (q := 37) (tgt := 41) dX12_failedOf_34 (by decide) rfl hm (fun hm => ?_) (fun hm => ?_)
  · refine rr_iconst (q := 42) (v := 0) dX12_failedOf_41 rfl (by decide) ?_
    refine rr_iadd (q := 43) dX12_failedOf_42 rfl ?_
    refine rr_istore_n (q := 44) [some (.ref (vv_ad x 0)), some (.int u1), some (.int (z0 + (0 : Int32))), some (.int m3)] dX12_failedOf_43 rfl rfl (Nat.le_of_ble_eq_true rfl) rfl rfl ?_
    obtain ⟨w2, c3, hm⟩ := vv_let_of hm
    refine rr_iinc (q := 47) [some (.ref (vv_ad x 0)), some (.int u1), some (.int (z0 + (0 : Int32))), some (.int w2)] dX12_failedOf_44 rfl rfl c3.symm (Nat.le_of_ble_eq_true rfl) rfl rfl ?_
    refine rr_goto (tgt := 4) dX12_failedOf_47 (by decide) ?_
    obtain rfl := Option.some.inj hm
    exact hI (z0 + (0 : Int32)) w2 rfl
  · refine rr_iconst (q := 38) (v := 1) dX12_failedOf_37 rfl (by decide) ?_
    refine rr_goto (tgt := 42) dX12_failedOf_38 (by decide) ?_
    refine rr_iadd (q := 43) dX12_failedOf_42 rfl ?_
    refine rr_istore_n (q := 44) [some (.ref (vv_ad x 0)), some (.int u1), some (.int (z0 + (1 : Int32))), some (.int m3)] dX12_failedOf_43 rfl rfl (Nat.le_of_ble_eq_true rfl) rfl rfl ?_
    obtain ⟨w4, c5, hm⟩ := vv_let_of hm
    refine rr_iinc (q := 47) [some (.ref (vv_ad x 0)), some (.int u1), some (.int (z0 + (1 : Int32))), some (.int w4)] dX12_failedOf_44 rfl rfl c5.symm (Nat.le_of_ble_eq_true rfl) rfl rfl ?_
    refine rr_goto (tgt := 4) dX12_failedOf_47 (by decide) ?_
    obtain rfl := Option.some.inj hm
    exact hI (z0 + (1 : Int32)) w4 rfl
set_option maxHeartbeats 200000 in
theorem vt_X12_failedOf_B4 {x : vv_E} {post : Option Value → vv_H → Prop} {u1 : Int32} {h : vv_H} {s2 : Int32} {s3 : Int32} {o : (Int32 × Int32) ⊕ ((Int32))}  (hm : ff_X12_failedOf_B4  u1 h s2 s3 = some o) (hI : ∀ (z2 : Int32) (z3 : Int32) , o = .inl (z2, z3) → vv_V x vv_TR mm_X12_failedOf post 4 [some (.ref (vv_ad x 0)), some (.int u1), some (.int z2), some (.int z3)] [] h) (hX0 : ∀ (z2 : Int32), o = .inr z2 → vv_V x vv_TR mm_X12_failedOf post 50 [none, none, some (.int z2), none] [] h) : vv_V x vv_TR mm_X12_failedOf post 4 [some (.ref (vv_ad x 0)), some (.int u1), some (.int s2), some (.int s3)] [] h := by
  unfold ff_X12_failedOf_B4 at hm
  refine rr_iload_n (q := 5) dX12_failedOf_4 rfl rfl ?_
  refine rr_aload_n (q := 6) dX12_failedOf_5 rfl rfl ?_
  refine gf_X12_232 (q := 9) rfl dX12_failedOf_6 rfl ?_
  refine rr_icmp_ge (q := 12) (tgt := 50) dX12_failedOf_9 (by decide) rfl hm (fun hm => ?_) (fun hm => ?_)
  · obtain rfl := Option.some.inj hm
    refine rr_sub [false, false, true, false] rfl ?_
    exact hX0 s2 rfl
  · refine rr_iload_n (q := 13) dX12_failedOf_12 rfl rfl ?_
    refine rr_iload_n (q := 14) dX12_failedOf_13 rfl rfl ?_
    refine rr_if_lt (q := 17) (tgt := 27) dX12_failedOf_14 (by decide) rfl hm (fun hm => ?_) (fun hm => ?_)
    · refine rr_sub [true, true, false, true] rfl ?_
      exact vt_X12_failedOf_J27  hm hI hX0
    · refine rr_aload_n (q := 18) dX12_failedOf_17 rfl rfl ?_
      refine gf_X12_97 (q := 21) rfl dX12_failedOf_18 rfl ?_
      refine rr_iload_n (q := 22) dX12_failedOf_21 rfl rfl ?_
      obtain ⟨c6, hm⟩ := vv_ck_of hm
      refine rr_iald (q := 23) ylR_30 ynR_30 c6 dX12_failedOf_22 rfl ?_
      refine rr_iload_n (q := 24) dX12_failedOf_23 rfl rfl ?_
      refine rr_icmp_ne (q := 27) (tgt := 41) dX12_failedOf_24 (by decide) rfl hm (fun hm => ?_) (fun hm => ?_)
      · refine rr_iconst (q := 42) (v := 0) dX12_failedOf_41 rfl (by decide) ?_
        refine rr_iadd (q := 43) dX12_failedOf_42 rfl ?_
        refine rr_istore_n (q := 44) [some (.ref (vv_ad x 0)), some (.int u1), some (.int (s2 + (0 : Int32))), some (.int s3)] dX12_failedOf_43 rfl rfl (Nat.le_of_ble_eq_true rfl) rfl rfl ?_
        obtain ⟨w7, c8, hm⟩ := vv_let_of hm
        refine rr_iinc (q := 47) [some (.ref (vv_ad x 0)), some (.int u1), some (.int (s2 + (0 : Int32))), some (.int w7)] dX12_failedOf_44 rfl rfl c8.symm (Nat.le_of_ble_eq_true rfl) rfl rfl ?_
        refine rr_goto (tgt := 4) dX12_failedOf_47 (by decide) ?_
        obtain rfl := Option.some.inj hm
        exact hI (s2 + (0 : Int32)) w7 rfl
      · refine rr_sub [true, true, false, true] rfl ?_
        exact vt_X12_failedOf_J27  hm hI hX0
set_option maxHeartbeats 200000 in
theorem vt_X12_failedOf {x : vv_E} {post : Option Value → vv_H → Prop} {h : vv_H} {v1 : Int32} {o : Int32}  (hm : ff_X12_failedOf  h v1 = some o) (hp : post (some (.int o)) h) : vv_V x vv_TR mm_X12_failedOf post 0 [some (.ref (vv_ad x 0)), some (.int v1), none, none] [] h := by
  unfold ff_X12_failedOf at hm
  refine rr_iconst (q := 1) (v := 0) dX12_failedOf_0 rfl (by decide) ?_
  refine rr_istore_n (q := 2) [some (.ref (vv_ad x 0)), some (.int v1), some (.int (0 : Int32)), none] dX12_failedOf_1 rfl rfl (Nat.le_of_ble_eq_true rfl) rfl rfl ?_
  refine rr_iconst (q := 3) (v := 0) dX12_failedOf_2 rfl (by decide) ?_
  refine rr_istore_n (q := 4) [some (.ref (vv_ad x 0)), some (.int v1), some (.int (0 : Int32)), some (.int (0 : Int32))] dX12_failedOf_3 rfl rfl (Nat.le_of_ble_eq_true rfl) rfl rfl ?_
  obtain ⟨r9, k11, hm⟩ := vv_bind hm
  refine vv_lp_link (P := fun (zs : Int32 × Int32) => vv_V x vv_TR mm_X12_failedOf post 4 [some (.ref (vv_ad x 0)), some (.int v1), some (.int zs.1), some (.int zs.2)] [] h) (Q := (fun (e10 : (Int32)) => vv_V x vv_TR mm_X12_failedOf post 50 [none, none, some (.int e10), none] [] h)) (fun zs o hm hI hX => ?_) vv_F ((0 : Int32), (0 : Int32)) r9 k11 ?_
  · exact vt_X12_failedOf_B4   hm (fun z2 z3 e => hI (z2, z3) e) (fun z2 e => hX z2 e)
  · generalize r9 = e10 at hm ⊢
    try dsimp only [Sum.elim_inl, Sum.elim_inr] at hm
    try dsimp only [Sum.elim_inl, Sum.elim_inr]
    refine rr_iload_n (q := 51) dX12_failedOf_50 rfl rfl ?_
    obtain rfl := Option.some.inj hm
    exact rr_iret dX12_failedOf_51 rfl hp
theorem cc_X12_failedOf {x : vv_E} {h : vv_H} {v1 : Int32} {o : Int32}  (hm : ff_X12_failedOf h v1 = some o) : vv_C x vv_TR yX12_failedOf mm_X12_failedOf [.ref (vv_ad x 0), .int v1] h (fun v g => v = some (.int o) ∧ g = h) := vv_entry (by decide +kernel) rfl (Nat.le_of_ble_eq_true rfl) rfl (vt_X12_failedOf  hm ⟨rfl, rfl⟩)
def ff_X12_manyOf_B4 (u1 : Int32) (h : vv_H) (s2 : Int32) (s3 : Int32) : Option ((Int32 × Int32) ⊕ ((Int32))) := (if (h.1 0 44) ≤ s3 then some (.inr s2) else vv_ck s3 36 ((if (h.1 30 s3.toNatClampNeg) = u1 then vv_let (s3 + 1) (fun w4 => some (.inl ((s2 + (1 : Int32)), w4))) else vv_let (s3 + 1) (fun w2 => some (.inl ((s2 + (0 : Int32)), w2))))))
def ff_X12_manyOf (h : vv_H) (v1 : Int32) : Option (Int32) := (vv_lp (fun (zs : Int32 × Int32) => ff_X12_manyOf_B4  v1 h zs.1 zs.2) vv_F ((0 : Int32), (0 : Int32))).bind (fun (e7 : (Int32)) => some e7)
set_option maxHeartbeats 200000 in
theorem vt_X12_manyOf_B4 {x : vv_E} {post : Option Value → vv_H → Prop} {u1 : Int32} {h : vv_H} {s2 : Int32} {s3 : Int32} {o : (Int32 × Int32) ⊕ ((Int32))}  (hm : ff_X12_manyOf_B4  u1 h s2 s3 = some o) (hI : ∀ (z2 : Int32) (z3 : Int32) , o = .inl (z2, z3) → vv_V x vv_TR mm_X12_manyOf post 4 [some (.ref (vv_ad x 0)), some (.int u1), some (.int z2), some (.int z3)] [] h) (hX0 : ∀ (z2 : Int32), o = .inr z2 → vv_V x vv_TR mm_X12_manyOf post 36 [none, none, some (.int z2), none] [] h) : vv_V x vv_TR mm_X12_manyOf post 4 [some (.ref (vv_ad x 0)), some (.int u1), some (.int s2), some (.int s3)] [] h := by
  unfold ff_X12_manyOf_B4 at hm
  refine rr_iload_n (q := 5) dX12_manyOf_4 rfl rfl ?_
  refine rr_aload_n (q := 6) dX12_manyOf_5 rfl rfl ?_
  refine gf_X12_232 (q := 9) rfl dX12_manyOf_6 rfl ?_
  refine rr_icmp_ge (q := 12) (tgt := 36) dX12_manyOf_9 (by decide) rfl hm (fun hm => ?_) (fun hm => ?_)
  · obtain rfl := Option.some.inj hm
    refine rr_sub [false, false, true, false] rfl ?_
    exact hX0 s2 rfl
  · refine rr_iload_n (q := 13) dX12_manyOf_12 rfl rfl ?_
    refine rr_aload_n (q := 14) dX12_manyOf_13 rfl rfl ?_
    refine gf_X12_97 (q := 17) rfl dX12_manyOf_14 rfl ?_
    refine rr_iload_n (q := 18) dX12_manyOf_17 rfl rfl ?_
    obtain ⟨c1, hm⟩ := vv_ck_of hm
    refine rr_iald (q := 19) ylR_30 ynR_30 c1 dX12_manyOf_18 rfl ?_
    refine rr_iload_n (q := 20) dX12_manyOf_19 rfl rfl ?_
    refine rr_icmp_ne (q := 23) (tgt := 27) dX12_manyOf_20 (by decide) rfl hm (fun hm => ?_) (fun hm => ?_)
    · refine rr_iconst (q := 28) (v := 0) dX12_manyOf_27 rfl (by decide) ?_
      refine rr_iadd (q := 29) dX12_manyOf_28 rfl ?_
      refine rr_istore_n (q := 30) [some (.ref (vv_ad x 0)), some (.int u1), some (.int (s2 + (0 : Int32))), some (.int s3)] dX12_manyOf_29 rfl rfl (Nat.le_of_ble_eq_true rfl) rfl rfl ?_
      obtain ⟨w2, c3, hm⟩ := vv_let_of hm
      refine rr_iinc (q := 33) [some (.ref (vv_ad x 0)), some (.int u1), some (.int (s2 + (0 : Int32))), some (.int w2)] dX12_manyOf_30 rfl rfl c3.symm (Nat.le_of_ble_eq_true rfl) rfl rfl ?_
      refine rr_goto (tgt := 4) dX12_manyOf_33 (by decide) ?_
      obtain rfl := Option.some.inj hm
      exact hI (s2 + (0 : Int32)) w2 rfl
    · refine rr_iconst (q := 24) (v := 1) dX12_manyOf_23 rfl (by decide) ?_
      refine rr_goto (tgt := 28) dX12_manyOf_24 (by decide) ?_
      refine rr_iadd (q := 29) dX12_manyOf_28 rfl ?_
      refine rr_istore_n (q := 30) [some (.ref (vv_ad x 0)), some (.int u1), some (.int (s2 + (1 : Int32))), some (.int s3)] dX12_manyOf_29 rfl rfl (Nat.le_of_ble_eq_true rfl) rfl rfl ?_
      obtain ⟨w4, c5, hm⟩ := vv_let_of hm
      refine rr_iinc (q := 33) [some (.ref (vv_ad x 0)), some (.int u1), some (.int (s2 + (1 : Int32))), some (.int w4)] dX12_manyOf_30 rfl rfl c5.symm (Nat.le_of_ble_eq_true rfl) rfl rfl ?_
      refine rr_goto (tgt := 4) dX12_manyOf_33 (by decide) ?_
      obtain rfl := Option.some.inj hm
      exact hI (s2 + (1 : Int32)) w4 rfl
set_option maxHeartbeats 200000 in
theorem vt_X12_manyOf {x : vv_E} {post : Option Value → vv_H → Prop} {h : vv_H} {v1 : Int32} {o : Int32}  (hm : ff_X12_manyOf  h v1 = some o) (hp : post (some (.int o)) h) : vv_V x vv_TR mm_X12_manyOf post 0 [some (.ref (vv_ad x 0)), some (.int v1), none, none] [] h := by
  unfold ff_X12_manyOf at hm
  refine rr_iconst (q := 1) (v := 0) dX12_manyOf_0 rfl (by decide) ?_
  refine rr_istore_n (q := 2) [some (.ref (vv_ad x 0)), some (.int v1), some (.int (0 : Int32)), none] dX12_manyOf_1 rfl rfl (Nat.le_of_ble_eq_true rfl) rfl rfl ?_
  refine rr_iconst (q := 3) (v := 0) dX12_manyOf_2 rfl (by decide) ?_
  refine rr_istore_n (q := 4) [some (.ref (vv_ad x 0)), some (.int v1), some (.int (0 : Int32)), some (.int (0 : Int32))] dX12_manyOf_3 rfl rfl (Nat.le_of_ble_eq_true rfl) rfl rfl ?_
  obtain ⟨r6, k8, hm⟩ := vv_bind hm
  refine vv_lp_link (P := fun (zs : Int32 × Int32) => vv_V x vv_TR mm_X12_manyOf post 4 [some (.ref (vv_ad x 0)), some (.int v1), some (.int zs.1), some (.int zs.2)] [] h) (Q := (fun (e7 : (Int32)) => vv_V x vv_TR mm_X12_manyOf post 36 [none, none, some (.int e7), none] [] h)) (fun zs o hm hI hX => ?_) vv_F ((0 : Int32), (0 : Int32)) r6 k8 ?_
  · exact vt_X12_manyOf_B4   hm (fun z2 z3 e => hI (z2, z3) e) (fun z2 e => hX z2 e)
  · generalize r6 = e7 at hm ⊢
    try dsimp only [Sum.elim_inl, Sum.elim_inr] at hm
    try dsimp only [Sum.elim_inl, Sum.elim_inr]
    refine rr_iload_n (q := 37) dX12_manyOf_36 rfl rfl ?_
    obtain rfl := Option.some.inj hm
    exact rr_iret dX12_manyOf_37 rfl hp
theorem cc_X12_manyOf {x : vv_E} {h : vv_H} {v1 : Int32} {o : Int32}  (hm : ff_X12_manyOf h v1 = some o) : vv_C x vv_TR yX12_manyOf mm_X12_manyOf [.ref (vv_ad x 0), .int v1] h (fun v g => v = some (.int o) ∧ g = h) := vv_entry (by decide +kernel) rfl (Nat.le_of_ble_eq_true rfl) rfl (vt_X12_manyOf  hm ⟨rfl, rfl⟩)
def ff_X12_count_J34  (u1 : Int32) (m3 : Int32) (m4 : Int32) (z0 : Int32) (z1 : Int32) (h : vv_H) : Option ((Int32 × Int32 × Int32) ⊕ ((Int32 × Int32))) := vv_let (z1 + z0) (fun w2 => vv_ck m4 36 ((if (h.1 33 m4.toNatClampNeg) = (-4 : Int32) then vv_let (m4 + 1) (fun w5 => some (.inl (w2, (m3 + (0 : Int32)), w5))) else vv_let (m4 + 1) (fun w7 => some (.inl (w2, (m3 + (1 : Int32)), w7))))))
def ff_X12_count_B7 (u1 : Int32) (h : vv_H) (s2 : Int32) (s3 : Int32) (s4 : Int32) : Option ((Int32 × Int32 × Int32) ⊕ ((Int32 × Int32))) := (if (h.1 0 44) ≤ s4 then some (.inr (s2, s3)) else vv_ck s4 36 ((if (h.1 32 s4.toNatClampNeg) = (-4 : Int32) then ff_X12_count_J34  u1 s3 s4 (0 : Int32) s2 h else ff_X12_count_J34  u1 s3 s4 (1 : Int32) s2 h)))
def ff_X12_count_B68 (u1 : Int32) (u2 : Int32) (u3 : Int32) (h : vv_H) (s4 : Int32) (s5 : Int32) : Option ((Int32 × Int32) ⊕ ((Int32))) := (if (h.1 0 1) ≤ s5 then some (.inr s4) else vv_ck s5 12 (vv_let (s4 + (h.1 4 s5.toNatClampNeg)) (fun w12 => vv_let (s5 + 1) (fun w14 => some (.inl (w12, w14))))))
def ff_X12_count (h : vv_H) (v1 : Int32) : Option (Int32) := (vv_lp (fun (zs : Int32 × Int32 × Int32) => ff_X12_count_B7  v1 h zs.1 zs.2.1 zs.2.2) vv_F ((0 : Int32), (0 : Int32), (0 : Int32))).bind (fun (e10 : (Int32 × Int32)) => (vv_lp (fun (zs : Int32 × Int32) => ff_X12_count_B68  v1 e10.1 e10.2 h zs.1 zs.2) vv_F ((0 : Int32), (0 : Int32))).bind (fun (e17 : (Int32)) => (if v1 = 0 then some (h.1 0 1) else (if v1 = 1 then some (h.1 0 12) else (if v1 = 2 then some (h.1 0 42) else (if v1 = 3 then some (h.1 0 44) else (if v1 = 4 then some e10.1 else (if v1 = 5 then some e10.2 else (if v1 = 6 then some (((h.1 0 44) - e10.1) - e10.2) else (if v1 = 7 then some (h.1 0 27) else (if v1 = 8 then some (h.1 0 6) else (if v1 = 9 then some (h.1 0 0) else (if v1 = 10 then some e17 else (if v1 = 11 then some (h.1 0 17) else (if v1 = 12 then vv_ck (0 : Int32) 4 ((if (h.1 53 (0 : Int32).toNatClampNeg) = (-4 : Int32) then some (-4 : Int32) else vv_ck (0 : Int32) 4 (some (h.1 54 (0 : Int32).toNatClampNeg)))) else some (-1 : Int32))))))))))))))))
set_option maxHeartbeats 200000 in
theorem vt_X12_count_J34 {x : vv_E} {post : Option Value → vv_H → Prop}   {u1 : Int32} {m3 : Int32} {m4 : Int32} {z0 : Int32} {z1 : Int32} {h : vv_H} {o : (Int32 × Int32 × Int32) ⊕ ((Int32 × Int32))}  (hm : ff_X12_count_J34  u1 m3 m4 z0 z1 h = some o) (hI : ∀ (z2 : Int32) (z3 : Int32) (z4 : Int32) , o = .inl (z2, z3, z4) → vv_V x vv_TR mm_X12_count post 7 [some (.ref (vv_ad x 0)), some (.int u1), some (.int z2), some (.int z3), some (.int z4), none] [] h) (hX0 : ∀ (z2 : Int32) (z3 : Int32), o = .inr (z2, z3) → vv_V x vv_TR mm_X12_count post 62 [some (.ref (vv_ad x 0)), some (.int u1), some (.int z2), some (.int z3), none, none] [] h) : vv_V x vv_TR mm_X12_count post 34 [some (.ref (vv_ad x 0)), some (.int u1), none, some (.int m3), some (.int m4), none] [.int z0, .int z1] h := by
  unfold ff_X12_count_J34 at hm
  refine rr_iadd (q := 35) dX12_count_34 rfl ?_
  obtain ⟨w2, c3, hm⟩ := vv_let_of hm
  rw [← c3]
  refine rr_istore_n (q := 36) [some (.ref (vv_ad x 0)), some (.int u1), some (.int w2), some (.int m3), some (.int m4), none] dX12_count_35 rfl rfl (Nat.le_of_ble_eq_true rfl) rfl rfl ?_
  refine rr_iload_n (q := 37) dX12_count_36 rfl rfl ?_
  refine rr_aload_n (q := 38) dX12_count_37 rfl rfl ?_
  refine gf_X12_106 (q := 41) rfl dX12_count_38 rfl ?_
  refine rr_iload (q := 43) dX12_count_41 rfl rfl ?_
  obtain ⟨c4, hm⟩ := vv_ck_of hm
  refine rr_iald (q := 44) ylR_33 ynR_33 c4 dX12_count_43 rfl ?_
  refine rr_bipush (q := 46) (v := -4) dX12_count_44 rfl (by decide) ?_
  refine rr_icmp_eq (q := 49) (tgt := 53) dX12_count_46 (by decide) rfl hm (fun hm => ?_) (fun hm => ?_)
  · refine rr_iconst (q := 54) (v := 0) dX12_count_53 rfl (by decide) ?_
    refine rr_iadd (q := 55) dX12_count_54 rfl ?_
    refine rr_istore_n (q := 56) [some (.ref (vv_ad x 0)), some (.int u1), some (.int w2), some (.int (m3 + (0 : Int32))), some (.int m4), none] dX12_count_55 rfl rfl (Nat.le_of_ble_eq_true rfl) rfl rfl ?_
    obtain ⟨w5, c6, hm⟩ := vv_let_of hm
    refine rr_iinc (q := 59) [some (.ref (vv_ad x 0)), some (.int u1), some (.int w2), some (.int (m3 + (0 : Int32))), some (.int w5), none] dX12_count_56 rfl rfl c6.symm (Nat.le_of_ble_eq_true rfl) rfl rfl ?_
    refine rr_goto (tgt := 7) dX12_count_59 (by decide) ?_
    obtain rfl := Option.some.inj hm
    exact hI w2 (m3 + (0 : Int32)) w5 rfl
  · refine rr_iconst (q := 50) (v := 1) dX12_count_49 rfl (by decide) ?_
    refine rr_goto (tgt := 54) dX12_count_50 (by decide) ?_
    refine rr_iadd (q := 55) dX12_count_54 rfl ?_
    refine rr_istore_n (q := 56) [some (.ref (vv_ad x 0)), some (.int u1), some (.int w2), some (.int (m3 + (1 : Int32))), some (.int m4), none] dX12_count_55 rfl rfl (Nat.le_of_ble_eq_true rfl) rfl rfl ?_
    obtain ⟨w7, c8, hm⟩ := vv_let_of hm
    refine rr_iinc (q := 59) [some (.ref (vv_ad x 0)), some (.int u1), some (.int w2), some (.int (m3 + (1 : Int32))), some (.int w7), none] dX12_count_56 rfl rfl c8.symm (Nat.le_of_ble_eq_true rfl) rfl rfl ?_
    refine rr_goto (tgt := 7) dX12_count_59 (by decide) ?_
    obtain rfl := Option.some.inj hm
    exact hI w2 (m3 + (1 : Int32)) w7 rfl
set_option maxHeartbeats 200000 in
theorem vt_X12_count_B7 {x : vv_E} {post : Option Value → vv_H → Prop} {u1 : Int32} {h : vv_H} {s2 : Int32} {s3 : Int32} {s4 : Int32} {o : (Int32 × Int32 × Int32) ⊕ ((Int32 × Int32))}  (hm : ff_X12_count_B7  u1 h s2 s3 s4 = some o) (hI : ∀ (z2 : Int32) (z3 : Int32) (z4 : Int32) , o = .inl (z2, z3, z4) → vv_V x vv_TR mm_X12_count post 7 [some (.ref (vv_ad x 0)), some (.int u1), some (.int z2), some (.int z3), some (.int z4), none] [] h) (hX0 : ∀ (z2 : Int32) (z3 : Int32), o = .inr (z2, z3) → vv_V x vv_TR mm_X12_count post 62 [some (.ref (vv_ad x 0)), some (.int u1), some (.int z2), some (.int z3), none, none] [] h) : vv_V x vv_TR mm_X12_count post 7 [some (.ref (vv_ad x 0)), some (.int u1), some (.int s2), some (.int s3), some (.int s4), none] [] h := by
  unfold ff_X12_count_B7 at hm
  refine rr_iload (q := 9) dX12_count_7 rfl rfl ?_
  refine rr_aload_n (q := 10) dX12_count_9 rfl rfl ?_
  refine gf_X12_232 (q := 13) rfl dX12_count_10 rfl ?_
  refine rr_icmp_ge (q := 16) (tgt := 62) dX12_count_13 (by decide) rfl hm (fun hm => ?_) (fun hm => ?_)
  · obtain rfl := Option.some.inj hm
    refine rr_sub [true, true, true, true, false, false] rfl ?_
    exact hX0 s2 s3 rfl
  · refine rr_iload_n (q := 17) dX12_count_16 rfl rfl ?_
    refine rr_aload_n (q := 18) dX12_count_17 rfl rfl ?_
    refine gf_X12_103 (q := 21) rfl dX12_count_18 rfl ?_
    refine rr_iload (q := 23) dX12_count_21 rfl rfl ?_
    obtain ⟨c1, hm⟩ := vv_ck_of hm
    refine rr_iald (q := 24) ylR_32 ynR_32 c1 dX12_count_23 rfl ?_
    refine rr_bipush (q := 26) (v := -4) dX12_count_24 rfl (by decide) ?_
    refine rr_icmp_eq (q := 29) (tgt := 33) dX12_count_26 (by decide) rfl hm (fun hm => ?_) (fun hm => ?_)
    · refine rr_iconst (q := 34) (v := 0) dX12_count_33 rfl (by decide) ?_
      refine rr_sub [true, true, false, true, true, false] rfl ?_
      exact vt_X12_count_J34  hm hI hX0
    · refine rr_iconst (q := 30) (v := 1) dX12_count_29 rfl (by decide) ?_
      refine rr_goto (tgt := 34) dX12_count_30 (by decide) ?_
      refine rr_sub [true, true, false, true, true, false] rfl ?_
      exact vt_X12_count_J34  hm hI hX0
set_option maxHeartbeats 200000 in
theorem vt_X12_count_B68 {x : vv_E} {post : Option Value → vv_H → Prop} {u1 : Int32} {u2 : Int32} {u3 : Int32} {h : vv_H} {s4 : Int32} {s5 : Int32} {o : (Int32 × Int32) ⊕ ((Int32))}  (hm : ff_X12_count_B68  u1 u2 u3 h s4 s5 = some o) (hI : ∀ (z4 : Int32) (z5 : Int32) , o = .inl (z4, z5) → vv_V x vv_TR mm_X12_count post 68 [some (.ref (vv_ad x 0)), some (.int u1), some (.int u2), some (.int u3), some (.int z4), some (.int z5)] [] h) (hX0 : ∀ (z4 : Int32), o = .inr z4 → vv_V x vv_TR mm_X12_count post 95 [some (.ref (vv_ad x 0)), some (.int u1), some (.int u2), some (.int u3), some (.int z4), none] [] h) : vv_V x vv_TR mm_X12_count post 68 [some (.ref (vv_ad x 0)), some (.int u1), some (.int u2), some (.int u3), some (.int s4), some (.int s5)] [] h := by
  unfold ff_X12_count_B68 at hm
  refine rr_iload (q := 70) dX12_count_68 rfl rfl ?_
  refine rr_aload_n (q := 71) dX12_count_70 rfl rfl ?_
  refine gf_X12_177 (q := 74) rfl dX12_count_71 rfl ?_
  refine rr_icmp_ge (q := 77) (tgt := 95) dX12_count_74 (by decide) rfl hm (fun hm => ?_) (fun hm => ?_)
  · obtain rfl := Option.some.inj hm
    refine rr_sub [true, true, true, true, true, false] rfl ?_
    exact hX0 s4 rfl
  · refine rr_iload (q := 79) dX12_count_77 rfl rfl ?_
    refine rr_aload_n (q := 80) dX12_count_79 rfl rfl ?_
    refine gf_X12_19 (q := 83) rfl dX12_count_80 rfl ?_
    refine rr_iload (q := 85) dX12_count_83 rfl rfl ?_
    obtain ⟨c11, hm⟩ := vv_ck_of hm
    refine rr_iald (q := 86) ylR_4 ynR_4 c11 dX12_count_85 rfl ?_
    refine rr_iadd (q := 87) dX12_count_86 rfl ?_
    obtain ⟨w12, c13, hm⟩ := vv_let_of hm
    rw [← c13]
    refine rr_istore (q := 89) [some (.ref (vv_ad x 0)), some (.int u1), some (.int u2), some (.int u3), some (.int w12), some (.int s5)] dX12_count_87 rfl (Nat.le_of_ble_eq_true rfl) rfl rfl ?_
    obtain ⟨w14, c15, hm⟩ := vv_let_of hm
    refine rr_iinc (q := 92) [some (.ref (vv_ad x 0)), some (.int u1), some (.int u2), some (.int u3), some (.int w12), some (.int w14)] dX12_count_89 rfl rfl c15.symm (Nat.le_of_ble_eq_true rfl) rfl rfl ?_
    refine rr_goto (tgt := 68) dX12_count_92 (by decide) ?_
    obtain rfl := Option.some.inj hm
    exact hI w12 w14 rfl
set_option maxHeartbeats 200000 in
theorem vt_X12_count {x : vv_E} {post : Option Value → vv_H → Prop} {h : vv_H} {v1 : Int32} {o : Int32}  (hm : ff_X12_count  h v1 = some o) (hp : post (some (.int o)) h) : vv_V x vv_TR mm_X12_count post 0 [some (.ref (vv_ad x 0)), some (.int v1), none, none, none, none] [] h := by
  unfold ff_X12_count at hm
  refine rr_iconst (q := 1) (v := 0) dX12_count_0 rfl (by decide) ?_
  refine rr_istore_n (q := 2) [some (.ref (vv_ad x 0)), some (.int v1), some (.int (0 : Int32)), none, none, none] dX12_count_1 rfl rfl (Nat.le_of_ble_eq_true rfl) rfl rfl ?_
  refine rr_iconst (q := 3) (v := 0) dX12_count_2 rfl (by decide) ?_
  refine rr_istore_n (q := 4) [some (.ref (vv_ad x 0)), some (.int v1), some (.int (0 : Int32)), some (.int (0 : Int32)), none, none] dX12_count_3 rfl rfl (Nat.le_of_ble_eq_true rfl) rfl rfl ?_
  refine rr_iconst (q := 5) (v := 0) dX12_count_4 rfl (by decide) ?_
  refine rr_istore (q := 7) [some (.ref (vv_ad x 0)), some (.int v1), some (.int (0 : Int32)), some (.int (0 : Int32)), some (.int (0 : Int32)), none] dX12_count_5 rfl (Nat.le_of_ble_eq_true rfl) rfl rfl ?_
  obtain ⟨r9, k21, hm⟩ := vv_bind hm
  refine vv_lp_link (P := fun (zs : Int32 × Int32 × Int32) => vv_V x vv_TR mm_X12_count post 7 [some (.ref (vv_ad x 0)), some (.int v1), some (.int zs.1), some (.int zs.2.1), some (.int zs.2.2), none] [] h) (Q := (fun (e10 : (Int32 × Int32)) => vv_V x vv_TR mm_X12_count post 62 [some (.ref (vv_ad x 0)), some (.int v1), some (.int e10.1), some (.int e10.2), none, none] [] h)) (fun zs o hm hI hX => ?_) vv_F ((0 : Int32), (0 : Int32), (0 : Int32)) r9 k21 ?_
  · exact vt_X12_count_B7   hm (fun z2 z3 z4 e => hI (z2, z3, z4) e) (fun z2 z3 e => hX (z2, z3) e)
  · generalize r9 = e10 at hm ⊢
    try dsimp only [Sum.elim_inl, Sum.elim_inr] at hm
    try dsimp only [Sum.elim_inl, Sum.elim_inr]
    refine rr_iconst (q := 63) (v := 0) dX12_count_62 rfl (by decide) ?_
    refine rr_istore (q := 65) [some (.ref (vv_ad x 0)), some (.int v1), some (.int e10.1), some (.int e10.2), some (.int (0 : Int32)), none] dX12_count_63 rfl (Nat.le_of_ble_eq_true rfl) rfl rfl ?_
    refine rr_iconst (q := 66) (v := 0) dX12_count_65 rfl (by decide) ?_
    refine rr_istore (q := 68) [some (.ref (vv_ad x 0)), some (.int v1), some (.int e10.1), some (.int e10.2), some (.int (0 : Int32)), some (.int (0 : Int32))] dX12_count_66 rfl (Nat.le_of_ble_eq_true rfl) rfl rfl ?_
    obtain ⟨r16, k20, hm⟩ := vv_bind hm
    refine vv_lp_link (P := fun (zs : Int32 × Int32) => vv_V x vv_TR mm_X12_count post 68 [some (.ref (vv_ad x 0)), some (.int v1), some (.int e10.1), some (.int e10.2), some (.int zs.1), some (.int zs.2)] [] h) (Q := (fun (e17 : (Int32)) => vv_V x vv_TR mm_X12_count post 95 [some (.ref (vv_ad x 0)), some (.int v1), some (.int e10.1), some (.int e10.2), some (.int e17), none] [] h)) (fun zs o hm hI hX => ?_) vv_F ((0 : Int32), (0 : Int32)) r16 k20 ?_
    · exact vt_X12_count_B68   hm (fun z4 z5 e => hI (z4, z5) e) (fun z4 e => hX z4 e)
    · generalize r16 = e17 at hm ⊢
      try dsimp only [Sum.elim_inl, Sum.elim_inr] at hm
      try dsimp only [Sum.elim_inl, Sum.elim_inr]
      refine rr_iload_n (q := 96) dX12_count_95 rfl rfl ?_
      by_cases c0s : v1 = (0 : Int32)
      · rw [if_pos c0s] at hm
        refine rr_tswI (tgt := 164) dX12_count_96 (by rw [c0s]; decide) (by rw [c0s]; decide) (by rw [c0s]; rfl) (by decide) ?_
        refine rr_aload_n (q := 165) dX12_count_164 rfl rfl ?_
        refine gf_X12_177 (q := 168) rfl dX12_count_165 rfl ?_
        obtain rfl := Option.some.inj hm
        exact rr_iret dX12_count_168 rfl hp
      · rw [if_neg c0s] at hm
        by_cases c1s : v1 = (1 : Int32)
        · rw [if_pos c1s] at hm
          refine rr_tswI (tgt := 169) dX12_count_96 (by rw [c1s]; decide) (by rw [c1s]; decide) (by rw [c1s]; rfl) (by decide) ?_
          refine rr_aload_n (q := 170) dX12_count_169 rfl rfl ?_
          refine gf_X12_235 (q := 173) rfl dX12_count_170 rfl ?_
          obtain rfl := Option.some.inj hm
          exact rr_iret dX12_count_173 rfl hp
        · rw [if_neg c1s] at hm
          by_cases c2s : v1 = (2 : Int32)
          · rw [if_pos c2s] at hm
            refine rr_tswI (tgt := 174) dX12_count_96 (by rw [c2s]; decide) (by rw [c2s]; decide) (by rw [c2s]; rfl) (by decide) ?_
            refine rr_aload_n (q := 175) dX12_count_174 rfl rfl ?_
            refine gf_X12_328 (q := 178) rfl dX12_count_175 rfl ?_
            obtain rfl := Option.some.inj hm
            exact rr_iret dX12_count_178 rfl hp
          · rw [if_neg c2s] at hm
            by_cases c3s : v1 = (3 : Int32)
            · rw [if_pos c3s] at hm
              refine rr_tswI (tgt := 179) dX12_count_96 (by rw [c3s]; decide) (by rw [c3s]; decide) (by rw [c3s]; rfl) (by decide) ?_
              refine rr_aload_n (q := 180) dX12_count_179 rfl rfl ?_
              refine gf_X12_232 (q := 183) rfl dX12_count_180 rfl ?_
              obtain rfl := Option.some.inj hm
              exact rr_iret dX12_count_183 rfl hp
            · rw [if_neg c3s] at hm
              by_cases c4s : v1 = (4 : Int32)
              · rw [if_pos c4s] at hm
                refine rr_tswI (tgt := 184) dX12_count_96 (by rw [c4s]; decide) (by rw [c4s]; decide) (by rw [c4s]; rfl) (by decide) ?_
                refine rr_iload_n (q := 185) dX12_count_184 rfl rfl ?_
                obtain rfl := Option.some.inj hm
                exact rr_iret dX12_count_185 rfl hp
              · rw [if_neg c4s] at hm
                by_cases c5s : v1 = (5 : Int32)
                · rw [if_pos c5s] at hm
                  refine rr_tswI (tgt := 186) dX12_count_96 (by rw [c5s]; decide) (by rw [c5s]; decide) (by rw [c5s]; rfl) (by decide) ?_
                  refine rr_iload_n (q := 187) dX12_count_186 rfl rfl ?_
                  obtain rfl := Option.some.inj hm
                  exact rr_iret dX12_count_187 rfl hp
                · rw [if_neg c5s] at hm
                  by_cases c6s : v1 = (6 : Int32)
                  · rw [if_pos c6s] at hm
                    refine rr_tswI (tgt := 188) dX12_count_96 (by rw [c6s]; decide) (by rw [c6s]; decide) (by rw [c6s]; rfl) (by decide) ?_
                    refine rr_aload_n (q := 189) dX12_count_188 rfl rfl ?_
                    refine gf_X12_232 (q := 192) rfl dX12_count_189 rfl ?_
                    refine rr_iload_n (q := 193) dX12_count_192 rfl rfl ?_
                    refine rr_isub (q := 194) dX12_count_193 rfl ?_
                    refine rr_iload_n (q := 195) dX12_count_194 rfl rfl ?_
                    refine rr_isub (q := 196) dX12_count_195 rfl ?_
                    obtain rfl := Option.some.inj hm
                    exact rr_iret dX12_count_196 rfl hp
                  · rw [if_neg c6s] at hm
                    by_cases c7s : v1 = (7 : Int32)
                    · rw [if_pos c7s] at hm
                      refine rr_tswI (tgt := 197) dX12_count_96 (by rw [c7s]; decide) (by rw [c7s]; decide) (by rw [c7s]; rfl) (by decide) ?_
                      refine rr_aload_n (q := 198) dX12_count_197 rfl rfl ?_
                      refine gf_X12_315 (q := 201) rfl dX12_count_198 rfl ?_
                      obtain rfl := Option.some.inj hm
                      exact rr_iret dX12_count_201 rfl hp
                    · rw [if_neg c7s] at hm
                      by_cases c8s : v1 = (8 : Int32)
                      · rw [if_pos c8s] at hm
                        refine rr_tswI (tgt := 202) dX12_count_96 (by rw [c8s]; decide) (by rw [c8s]; decide) (by rw [c8s]; rfl) (by decide) ?_
                        refine rr_aload_n (q := 203) dX12_count_202 rfl rfl ?_
                        refine gf_X12_200 (q := 206) rfl dX12_count_203 rfl ?_
                        obtain rfl := Option.some.inj hm
                        exact rr_iret dX12_count_206 rfl hp
                      · rw [if_neg c8s] at hm
                        by_cases c9s : v1 = (9 : Int32)
                        · rw [if_pos c9s] at hm
                          refine rr_tswI (tgt := 207) dX12_count_96 (by rw [c9s]; decide) (by rw [c9s]; decide) (by rw [c9s]; rfl) (by decide) ?_
                          refine rr_aload_n (q := 208) dX12_count_207 rfl rfl ?_
                          refine gf_X12_187 (q := 211) rfl dX12_count_208 rfl ?_
                          obtain rfl := Option.some.inj hm
                          exact rr_iret dX12_count_211 rfl hp
                        · rw [if_neg c9s] at hm
                          by_cases c10s : v1 = (10 : Int32)
                          · rw [if_pos c10s] at hm
                            refine rr_tswI (tgt := 212) dX12_count_96 (by rw [c10s]; decide) (by rw [c10s]; decide) (by rw [c10s]; rfl) (by decide) ?_
                            refine rr_iload (q := 214) dX12_count_212 rfl rfl ?_
                            obtain rfl := Option.some.inj hm
                            exact rr_iret dX12_count_214 rfl hp
                          · rw [if_neg c10s] at hm
                            by_cases c11s : v1 = (11 : Int32)
                            · rw [if_pos c11s] at hm
                              refine rr_tswI (tgt := 215) dX12_count_96 (by rw [c11s]; decide) (by rw [c11s]; decide) (by rw [c11s]; rfl) (by decide) ?_
                              refine rr_aload_n (q := 216) dX12_count_215 rfl rfl ?_
                              refine gf_X12_251 (q := 219) rfl dX12_count_216 rfl ?_
                              obtain rfl := Option.some.inj hm
                              exact rr_iret dX12_count_219 rfl hp
                            · rw [if_neg c11s] at hm
                              by_cases c12s : v1 = (12 : Int32)
                              · rw [if_pos c12s] at hm
                                refine rr_tswI (tgt := 220) dX12_count_96 (by rw [c12s]; decide) (by rw [c12s]; decide) (by rw [c12s]; rfl) (by decide) ?_
                                refine rr_aload_n (q := 221) dX12_count_220 rfl rfl ?_
                                refine gf_X12_168 (q := 224) rfl dX12_count_221 rfl ?_
                                refine rr_iconst (q := 225) (v := 0) dX12_count_224 rfl (by decide) ?_
                                obtain ⟨c18, hm⟩ := vv_ck_of hm
                                refine rr_iald (q := 226) ylR_53 ynR_53 c18 dX12_count_225 rfl ?_
                                refine rr_bipush (q := 228) (v := -4) dX12_count_226 rfl (by decide) ?_
                                refine rr_icmp_ne (q := 231) (tgt := 236) dX12_count_228 (by decide) rfl hm (fun hm => ?_) (fun hm => ?_)
                                · refine rr_aload_n (q := 237) dX12_count_236 rfl rfl ?_
                                  refine gf_X12_171 (q := 240) rfl dX12_count_237 rfl ?_
                                  refine rr_iconst (q := 241) (v := 0) dX12_count_240 rfl (by decide) ?_
                                  obtain ⟨c19, hm⟩ := vv_ck_of hm
                                  refine rr_iald (q := 242) ylR_54 ynR_54 c19 dX12_count_241 rfl ?_
                                  obtain rfl := Option.some.inj hm
                                  exact rr_iret dX12_count_242 rfl hp
                                · refine rr_bipush (q := 233) (v := -4) dX12_count_231 rfl (by decide) ?_
                                  refine rr_goto (tgt := 242) dX12_count_233 (by decide) ?_
                                  obtain rfl := Option.some.inj hm
                                  exact rr_iret dX12_count_242 rfl hp
                              · rw [if_neg c12s] at hm
                                refine rr_tswO (tgt := 243) dX12_count_96 (by have y0 : v1.toInt ≠ 0 := fun e => c0s (Int32.toInt_inj.mp (e.trans (by decide))); have y1 : v1.toInt ≠ 1 := fun e => c1s (Int32.toInt_inj.mp (e.trans (by decide))); have y2 : v1.toInt ≠ 2 := fun e => c2s (Int32.toInt_inj.mp (e.trans (by decide))); have y3 : v1.toInt ≠ 3 := fun e => c3s (Int32.toInt_inj.mp (e.trans (by decide))); have y4 : v1.toInt ≠ 4 := fun e => c4s (Int32.toInt_inj.mp (e.trans (by decide))); have y5 : v1.toInt ≠ 5 := fun e => c5s (Int32.toInt_inj.mp (e.trans (by decide))); have y6 : v1.toInt ≠ 6 := fun e => c6s (Int32.toInt_inj.mp (e.trans (by decide))); have y7 : v1.toInt ≠ 7 := fun e => c7s (Int32.toInt_inj.mp (e.trans (by decide))); have y8 : v1.toInt ≠ 8 := fun e => c8s (Int32.toInt_inj.mp (e.trans (by decide))); have y9 : v1.toInt ≠ 9 := fun e => c9s (Int32.toInt_inj.mp (e.trans (by decide))); have y10 : v1.toInt ≠ 10 := fun e => c10s (Int32.toInt_inj.mp (e.trans (by decide))); have y11 : v1.toInt ≠ 11 := fun e => c11s (Int32.toInt_inj.mp (e.trans (by decide))); have y12 : v1.toInt ≠ 12 := fun e => c12s (Int32.toInt_inj.mp (e.trans (by decide))); omega) (by decide) ?_
                                refine rr_iconst (q := 244) (v := -1) dX12_count_243 rfl (by decide) ?_
                                obtain rfl := Option.some.inj hm
                                exact rr_iret dX12_count_244 rfl hp
theorem cc_X12_count {x : vv_E} {h : vv_H} {v1 : Int32} {o : Int32}  (hm : ff_X12_count h v1 = some o) : vv_C x vv_TR yX12_count mm_X12_count [.ref (vv_ad x 0), .int v1] h (fun v g => v = some (.int o) ∧ g = h) := vv_entry (by decide +kernel) rfl (Nat.le_of_ble_eq_true rfl) rfl (vt_X12_count  hm ⟨rfl, rfl⟩)
def ff_J13_bitCount_95d88 (v0 : Int64) : Option (Int32) := vv_let (v0 - (((v0.toUInt64 >>> ((1 : Int32).toInt64.toUInt64 &&& Int64.toUInt64 63)).toInt64) &&& (6148914691236517205 : Int64))) (fun w1 => vv_let ((w1 &&& (3689348814741910323 : Int64)) + (((w1.toUInt64 >>> ((2 : Int32).toInt64.toUInt64 &&& Int64.toUInt64 63)).toInt64) &&& (3689348814741910323 : Int64))) (fun w3 => vv_let ((w3 + ((w3.toUInt64 >>> ((4 : Int32).toInt64.toUInt64 &&& Int64.toUInt64 63)).toInt64)) &&& (1085102592571150095 : Int64)) (fun w5 => vv_let (w5 + ((w5.toUInt64 >>> ((8 : Int32).toInt64.toUInt64 &&& Int64.toUInt64 63)).toInt64)) (fun w7 => vv_let (w7 + ((w7.toUInt64 >>> ((16 : Int32).toInt64.toUInt64 &&& Int64.toUInt64 63)).toInt64)) (fun w9 => vv_let (w9 + ((w9.toUInt64 >>> ((32 : Int32).toInt64.toUInt64 &&& Int64.toUInt64 63)).toInt64)) (fun w11 => some (w11.toInt32 &&& (127 : Int32))))))))
set_option maxHeartbeats 200000 in
theorem vt_J13_bitCount_95d88 {x : vv_E} {post : Option Value → vv_H → Prop} {v0 : Int64} {h : vv_H} {o : Int32}  (hm : ff_J13_bitCount_95d88  v0 = some o) (hp : post (some (.int o)) h) : vv_V x vv_TC mm_J13_bitCount_95d88 post 0 [some (.long v0), none] [] h := by
  unfold ff_J13_bitCount_95d88 at hm
  refine rr_lload_n (q := 1) dJ13_bitCount_95d88_0 rfl rfl ?_
  refine rr_lload_n (q := 2) dJ13_bitCount_95d88_1 rfl rfl ?_
  refine rr_iconst (q := 3) (v := 1) dJ13_bitCount_95d88_2 rfl (by decide) ?_
  refine rr_lushr (q := 4) dJ13_bitCount_95d88_3 rfl ?_
  refine rr_ldc2 (q := 7) dJ13_bitCount_95d88_4 rfl zw_116 ?_
  refine rr_land (q := 8) dJ13_bitCount_95d88_7 rfl ?_
  refine rr_lsub (q := 9) dJ13_bitCount_95d88_8 rfl ?_
  obtain ⟨w1, c2, hm⟩ := vv_let_of hm
  rw [← c2]
  refine rr_lstore_n (q := 10) [some (.long w1), none] dJ13_bitCount_95d88_9 rfl rfl (Nat.le_of_ble_eq_true rfl) rfl rfl ?_
  refine rr_lload_n (q := 11) dJ13_bitCount_95d88_10 rfl rfl ?_
  refine rr_ldc2 (q := 14) dJ13_bitCount_95d88_11 rfl zw_117 ?_
  refine rr_land (q := 15) dJ13_bitCount_95d88_14 rfl ?_
  refine rr_lload_n (q := 16) dJ13_bitCount_95d88_15 rfl rfl ?_
  refine rr_iconst (q := 17) (v := 2) dJ13_bitCount_95d88_16 rfl (by decide) ?_
  refine rr_lushr (q := 18) dJ13_bitCount_95d88_17 rfl ?_
  refine rr_ldc2 (q := 21) dJ13_bitCount_95d88_18 rfl zw_117 ?_
  refine rr_land (q := 22) dJ13_bitCount_95d88_21 rfl ?_
  refine rr_ladd (q := 23) dJ13_bitCount_95d88_22 rfl ?_
  obtain ⟨w3, c4, hm⟩ := vv_let_of hm
  rw [← c4]
  refine rr_lstore_n (q := 24) [some (.long w3), none] dJ13_bitCount_95d88_23 rfl rfl (Nat.le_of_ble_eq_true rfl) rfl rfl ?_
  refine rr_lload_n (q := 25) dJ13_bitCount_95d88_24 rfl rfl ?_
  refine rr_lload_n (q := 26) dJ13_bitCount_95d88_25 rfl rfl ?_
  refine rr_iconst (q := 27) (v := 4) dJ13_bitCount_95d88_26 rfl (by decide) ?_
  refine rr_lushr (q := 28) dJ13_bitCount_95d88_27 rfl ?_
  refine rr_ladd (q := 29) dJ13_bitCount_95d88_28 rfl ?_
  refine rr_ldc2 (q := 32) dJ13_bitCount_95d88_29 rfl zw_118 ?_
  refine rr_land (q := 33) dJ13_bitCount_95d88_32 rfl ?_
  obtain ⟨w5, c6, hm⟩ := vv_let_of hm
  rw [← c6]
  refine rr_lstore_n (q := 34) [some (.long w5), none] dJ13_bitCount_95d88_33 rfl rfl (Nat.le_of_ble_eq_true rfl) rfl rfl ?_
  refine rr_lload_n (q := 35) dJ13_bitCount_95d88_34 rfl rfl ?_
  refine rr_lload_n (q := 36) dJ13_bitCount_95d88_35 rfl rfl ?_
  refine rr_bipush (q := 38) (v := 8) dJ13_bitCount_95d88_36 rfl (by decide) ?_
  refine rr_lushr (q := 39) dJ13_bitCount_95d88_38 rfl ?_
  refine rr_ladd (q := 40) dJ13_bitCount_95d88_39 rfl ?_
  obtain ⟨w7, c8, hm⟩ := vv_let_of hm
  rw [← c8]
  refine rr_lstore_n (q := 41) [some (.long w7), none] dJ13_bitCount_95d88_40 rfl rfl (Nat.le_of_ble_eq_true rfl) rfl rfl ?_
  refine rr_lload_n (q := 42) dJ13_bitCount_95d88_41 rfl rfl ?_
  refine rr_lload_n (q := 43) dJ13_bitCount_95d88_42 rfl rfl ?_
  refine rr_bipush (q := 45) (v := 16) dJ13_bitCount_95d88_43 rfl (by decide) ?_
  refine rr_lushr (q := 46) dJ13_bitCount_95d88_45 rfl ?_
  refine rr_ladd (q := 47) dJ13_bitCount_95d88_46 rfl ?_
  obtain ⟨w9, c10, hm⟩ := vv_let_of hm
  rw [← c10]
  refine rr_lstore_n (q := 48) [some (.long w9), none] dJ13_bitCount_95d88_47 rfl rfl (Nat.le_of_ble_eq_true rfl) rfl rfl ?_
  refine rr_lload_n (q := 49) dJ13_bitCount_95d88_48 rfl rfl ?_
  refine rr_lload_n (q := 50) dJ13_bitCount_95d88_49 rfl rfl ?_
  refine rr_bipush (q := 52) (v := 32) dJ13_bitCount_95d88_50 rfl (by decide) ?_
  refine rr_lushr (q := 53) dJ13_bitCount_95d88_52 rfl ?_
  refine rr_ladd (q := 54) dJ13_bitCount_95d88_53 rfl ?_
  obtain ⟨w11, c12, hm⟩ := vv_let_of hm
  rw [← c12]
  refine rr_lstore_n (q := 55) [some (.long w11), none] dJ13_bitCount_95d88_54 rfl rfl (Nat.le_of_ble_eq_true rfl) rfl rfl ?_
  refine rr_lload_n (q := 56) dJ13_bitCount_95d88_55 rfl rfl ?_
  refine rr_l2i (q := 57) dJ13_bitCount_95d88_56 rfl ?_
  refine rr_bipush (q := 59) (v := 127) dJ13_bitCount_95d88_57 rfl (by decide) ?_
  refine rr_iand (q := 60) dJ13_bitCount_95d88_59 rfl ?_
  obtain rfl := Option.some.inj hm
  exact rr_iret dJ13_bitCount_95d88_60 rfl hp
theorem cc_J13_bitCount_95d88 {x : vv_E} {v0 : Int64} {h : vv_H} {o : Int32}  (hm : ff_J13_bitCount_95d88 v0 = some o) : vv_C x vv_TC yJ13_bitCount_95d88 mm_J13_bitCount_95d88 [.long v0] h (fun v g => v = some (.int o) ∧ g = h) := vv_entry (by decide +kernel) rfl (Nat.le_of_ble_eq_true rfl) rfl (vt_J13_bitCount_95d88  hm ⟨rfl, rfl⟩)
def ff_X1_compare_J35  (u1 : Int32) (u2 : Int32) (h : vv_H) : Option (vv_H) := vv_let (vv_iu h 167 2 u1) (fun g7 => vv_let (vv_iu g7 167 0 u2) (fun g9 => some g9))
def ff_X1_compare (h : vv_H) (v1 : Int32) (v2 : Int32) : Option (vv_H) := (ff_J6_bitCount_0f7a4 v2).bind (fun r1 => (ff_J6_bitCount_0f7a4 (h.1 167 0)).bind (fun r3 => vv_let (r1 - r3) (fun w5 => (if 0 < w5 then ff_X1_compare_J35  v1 v2 h else (if w5 = 0 then (ff_J6_bitCount_0f7a4 v1).bind (fun r11 => (ff_J6_bitCount_0f7a4 (h.1 167 2)).bind (fun r13 => (if r13 ≤ r11 then some h else ff_X1_compare_J35  v1 v2 h))) else some h)))))
set_option maxHeartbeats 200000 in
theorem vt_X1_compare_J35 {x : vv_E} {post : Option Value → vv_H → Prop}   {u1 : Int32} {u2 : Int32} {h : vv_H} {o : vv_H}  (hm : ff_X1_compare_J35  u1 u2 h = some o) (hp : post none o) : vv_V x vv_TC mm_X1_compare post 35 [some (.ref (vv_ad x 167)), some (.int u1), some (.int u2), none] [] h := by
  unfold ff_X1_compare_J35 at hm
  refine rr_aload_n (q := 36) dX1_compare_35 rfl rfl ?_
  refine rr_iload_n (q := 37) dX1_compare_36 rfl rfl ?_
  refine pf_X1_22 (q := 40) rfl dX1_compare_37 rfl (fun g7 c8 => ?_)
  replace hm := vv_letE hm c8
  refine rr_aload_n (q := 41) dX1_compare_40 rfl rfl ?_
  refine rr_iload_n (q := 42) dX1_compare_41 rfl rfl ?_
  refine pf_X1_25 (q := 45) rfl dX1_compare_42 rfl (fun g9 c10 => ?_)
  replace hm := vv_letE hm c10
  obtain rfl := Option.some.inj hm
  exact rr_vret dX1_compare_45 rfl hp
set_option maxHeartbeats 200000 in
theorem vt_X1_compare {x : vv_E} {post : Option Value → vv_H → Prop} {h : vv_H} {v1 : Int32} {v2 : Int32} {o : vv_H}  (hm : ff_X1_compare  h v1 v2 = some o) (hp : post none o) : vv_V x vv_TC mm_X1_compare post 0 [some (.ref (vv_ad x 167)), some (.int v1), some (.int v2), none] [] h := by
  unfold ff_X1_compare at hm
  refine rr_iload_n (q := 1) dX1_compare_0 rfl rfl ?_
  obtain ⟨r1, k2, hm⟩ := vv_bind hm
  refine rr_callS (q := 4) (M' := mm_J6_bitCount_0f7a4) (As := [.int v2]) (st := []) (w := some (.int r1))  (cc_J6_bitCount_0f7a4  k2) rfl vy_J6_bitCount_0f7a4 zw_122 ⟨Nat.le_of_ble_eq_true rfl, Nat.le_of_ble_eq_true rfl⟩ (Nat.le_of_ble_eq_true rfl) dX1_compare_1 rfl ?_
  show vv_V x vv_TC mm_X1_compare post 4 [some (.ref (vv_ad x 167)), some (.int v1), some (.int v2), none] [.int r1] h
  refine rr_aload_n (q := 5) dX1_compare_4 rfl rfl ?_
  refine gf_X1_25 (q := 8) rfl dX1_compare_5 rfl ?_
  obtain ⟨r3, k4, hm⟩ := vv_bind hm
  refine rr_callS (q := 11) (M' := mm_J6_bitCount_0f7a4) (As := [.int (h.1 167 0)]) (st := [.int r1]) (w := some (.int r3))  (cc_J6_bitCount_0f7a4  k4) rfl vy_J6_bitCount_0f7a4 zw_122 ⟨Nat.le_of_ble_eq_true rfl, Nat.le_of_ble_eq_true rfl⟩ (Nat.le_of_ble_eq_true rfl) dX1_compare_8 rfl ?_
  show vv_V x vv_TC mm_X1_compare post 11 [some (.ref (vv_ad x 167)), some (.int v1), some (.int v2), none] [.int r3, .int r1] h
  refine rr_isub (q := 12) dX1_compare_11 rfl ?_
  obtain ⟨w5, c6, hm⟩ := vv_let_of hm
  rw [← c6]
  refine rr_istore_n (q := 13) [some (.ref (vv_ad x 167)), some (.int v1), some (.int v2), some (.int w5)] dX1_compare_12 rfl rfl (Nat.le_of_ble_eq_true rfl) rfl rfl ?_
  refine rr_iload_n (q := 14) dX1_compare_13 rfl rfl ?_
  refine rr_if_gt (q := 17) (tgt := 35) dX1_compare_14 (by decide) rfl hm (fun hm => ?_) (fun hm => ?_)
  · refine rr_sub [true, true, true, false] rfl ?_
    exact vt_X1_compare_J35  hm hp
  · refine rr_iload_n (q := 18) dX1_compare_17 rfl rfl ?_
    refine rr_if_ne (q := 21) (tgt := 45) dX1_compare_18 (by decide) rfl hm (fun hm => ?_) (fun hm => ?_)
    · obtain rfl := Option.some.inj hm
      exact rr_vret dX1_compare_45 rfl hp
    · refine rr_iload_n (q := 22) dX1_compare_21 rfl rfl ?_
      obtain ⟨r11, k12, hm⟩ := vv_bind hm
      refine rr_callS (q := 25) (M' := mm_J6_bitCount_0f7a4) (As := [.int v1]) (st := []) (w := some (.int r11))  (cc_J6_bitCount_0f7a4  k12) rfl vy_J6_bitCount_0f7a4 zw_122 ⟨Nat.le_of_ble_eq_true rfl, Nat.le_of_ble_eq_true rfl⟩ (Nat.le_of_ble_eq_true rfl) dX1_compare_22 rfl ?_
      show vv_V x vv_TC mm_X1_compare post 25 [some (.ref (vv_ad x 167)), some (.int v1), some (.int v2), some (.int w5)] [.int r11] h
      refine rr_aload_n (q := 26) dX1_compare_25 rfl rfl ?_
      refine gf_X1_22 (q := 29) rfl dX1_compare_26 rfl ?_
      obtain ⟨r13, k14, hm⟩ := vv_bind hm
      refine rr_callS (q := 32) (M' := mm_J6_bitCount_0f7a4) (As := [.int (h.1 167 2)]) (st := [.int r11]) (w := some (.int r13))  (cc_J6_bitCount_0f7a4  k14) rfl vy_J6_bitCount_0f7a4 zw_122 ⟨Nat.le_of_ble_eq_true rfl, Nat.le_of_ble_eq_true rfl⟩ (Nat.le_of_ble_eq_true rfl) dX1_compare_29 rfl ?_
      show vv_V x vv_TC mm_X1_compare post 32 [some (.ref (vv_ad x 167)), some (.int v1), some (.int v2), some (.int w5)] [.int r13, .int r11] h
      refine rr_icmp_ge (q := 35) (tgt := 45) dX1_compare_32 (by decide) rfl hm (fun hm => ?_) (fun hm => ?_)
      · obtain rfl := Option.some.inj hm
        exact rr_vret dX1_compare_45 rfl hp
      · refine rr_sub [true, true, true, false] rfl ?_
        exact vt_X1_compare_J35  hm hp
theorem cc_X1_compare {x : vv_E} {h : vv_H} {v1 : Int32} {v2 : Int32} {o : vv_H}  (hm : ff_X1_compare h v1 v2 = some o) : vv_C x vv_TC yX1_compare mm_X1_compare [.ref (vv_ad x 167), .int v1, .int v2] h (fun v g => v = none ∧ g = o) := vv_entry (by decide +kernel) rfl (Nat.le_of_ble_eq_true rfl) rfl (vt_X1_compare  hm ⟨rfl, rfl⟩)
def ff_X3_clear (h : vv_H) (v1 : Int32) : Option (vv_H) := vv_let (vv_iu h 170 2 (if (12 : Int32) < v1 then (12 : Int32) else v1)) (fun g1 => (ff_J7_fill_d0a16 g1 171 32 (0 : Int64)).bind (fun r3 => (ff_J7_fill_d0a16 r3 175 100 (0 : Int64)).bind (fun r5 => some r5)))
set_option maxHeartbeats 200000 in
theorem vt_X3_clear {x : vv_E} {post : Option Value → vv_H → Prop} {h : vv_H} {v1 : Int32} {o : vv_H}  (hm : ff_X3_clear  h v1 = some o) (hp : post none o) : vv_V x vv_TC mm_X3_clear post 0 [some (.ref (vv_ad x 170)), some (.int v1)] [] h := by
  unfold ff_X3_clear at hm
  refine rr_aload_n (q := 1) dX3_clear_0 rfl rfl ?_
  refine rr_iload_n (q := 2) dX3_clear_1 rfl rfl ?_
  refine rr_bipush (q := 4) (v := 12) dX3_clear_2 rfl (by decide) ?_
  refine rr_mmin (q := 7) zw_124 zw_125 zw_126 zw_127 (Nat.le_of_ble_eq_true rfl) (Nat.le_of_ble_eq_true rfl) dX3_clear_4 rfl ?_
  refine pf_X3_34 (q := 10) rfl dX3_clear_7 rfl (fun g1 c2 => ?_)
  replace hm := vv_letE hm c2
  refine rr_aload_n (q := 11) dX3_clear_10 rfl rfl ?_
  refine gf_X3_11 (q := 14) rfl dX3_clear_11 rfl ?_
  refine rr_lconst (q := 15) (v := 0) dX3_clear_14 rfl (by decide) ?_
  obtain ⟨r3, k4, hm⟩ := vv_bind hm
  refine rr_callS (q := 18) (M' := mm_J7_fill_d0a16) (As := [.ref (vv_ad x 171), .long (0 : Int64)]) (st := []) (w := none)  (cc_J7_fill_d0a16 ylC_171 ynC_171 k4) rfl vy_J7_fill_d0a16 zw_131 ⟨Nat.le_of_ble_eq_true rfl, Nat.le_of_ble_eq_true rfl⟩ (Nat.le_of_ble_eq_true rfl) dX3_clear_15 rfl ?_
  show vv_V x vv_TC mm_X3_clear post 18 [some (.ref (vv_ad x 170)), some (.int v1)] [] r3
  refine rr_aload_n (q := 19) dX3_clear_18 rfl rfl ?_
  refine gf_X3_25 (q := 22) rfl dX3_clear_19 rfl ?_
  refine rr_lconst (q := 23) (v := 0) dX3_clear_22 rfl (by decide) ?_
  obtain ⟨r5, k6, hm⟩ := vv_bind hm
  refine rr_callS (q := 26) (M' := mm_J7_fill_d0a16) (As := [.ref (vv_ad x 175), .long (0 : Int64)]) (st := []) (w := none)  (cc_J7_fill_d0a16 ylC_175 ynC_175 k6) rfl vy_J7_fill_d0a16 zw_131 ⟨Nat.le_of_ble_eq_true rfl, Nat.le_of_ble_eq_true rfl⟩ (Nat.le_of_ble_eq_true rfl) dX3_clear_23 rfl ?_
  show vv_V x vv_TC mm_X3_clear post 26 [some (.ref (vv_ad x 170)), some (.int v1)] [] r5
  obtain rfl := Option.some.inj hm
  exact rr_vret dX3_clear_26 rfl hp
theorem cc_X3_clear {x : vv_E} {h : vv_H} {v1 : Int32} {o : vv_H}  (hm : ff_X3_clear h v1 = some o) : vv_C x vv_TC yX3_clear mm_X3_clear [.ref (vv_ad x 170), .int v1] h (fun v g => v = none ∧ g = o) := vv_entry (by decide +kernel) rfl (Nat.le_of_ble_eq_true rfl) rfl (vt_X3_clear  hm ⟨rfl, rfl⟩)
def ff_X3_dress_B71 (u4 : Int64) (u7 : Int32) (u8 : Int32) (s6 : Int32) (s9 : Int64) (s11 : Int32) (h : vv_H) : Option ((Int32 × Int64 × Int32 × vv_H) ⊕ ((Int32 × vv_H) ⊕ (Int32 × vv_H))) := (if (36 : Int32) ≤ s11 then some (.inr (.inl (s6, h))) else (if (lg_cmp s9 (0 : Int64)) = 0 then some (.inr (.inl (s6, h))) else (ff_J13_bitCount_95d88 ((s9 &&& (-s9)) - (1 : Int64))).bind (fun r12 => vv_let (s9 &&& (s9 - (1 : Int64))) (fun w14 => vv_ck r12 64 (vv_let (vv_iu h 174 r12.toNatClampNeg u8) (fun g17 => vv_ck r12 64 ((if 0 ≤ (g17.1 173 r12.toNatClampNeg) then vv_ck r12 64 (vv_let (s6 ||| ((1 : Int32) <<< ((g17.1 173 r12.toNatClampNeg) &&& 31))) (fun w21 => vv_let (s11 + 1) (fun w23 => some (.inl (w21, w14, w23, g17))))) else some (.inr (.inr (r12, g17)))))))))))
def ff_X3_dress_B11  (s4 : Int64) (s6 : Int32) (s7 : Int32) (h : vv_H) : Option ((Int64 × Int32 × Int32 × vv_H) ⊕ ((vv_H) ⊕ (Int32 × vv_H))) := (if (12 : Int32) ≤ s7 then some (.inr (.inl h)) else (if s6 = 0 then some (.inr (.inl h)) else (ff_J6_bitCount_0f7a4 ((s6 &&& (-s6)) - (1 : Int32))).bind (fun r3 => vv_let (s6 &&& (s6 - (1 : Int32))) (fun w5 => vv_ck r3 32 (vv_let ((h.2.1 171 r3.toNatClampNeg) &&& s4) (fun w8 => vv_let (s4 &&& (w8 ^^^ (-1 : Int64))) (fun w10 => (vv_lp (fun (zs : Int32 × Int64 × Int32 × vv_H) => ff_X3_dress_B71  w10 s7 r3 zs.1 zs.2.1 zs.2.2.1 zs.2.2.2) vv_F (w5, w8, (0 : Int32), h)).bind (Sum.elim (fun (e26 : (Int32 × vv_H)) => vv_let (s7 + 1) (fun w27 => some (.inl (w10, e26.1, w27, e26.2)))) (fun (e29 : (Int32 × vv_H)) => some (.inr (.inr (e29.1, e29.2))))))))))))
def ff_X3_dress (h : vv_H) (v1 : Int32) (v2 : Int64) : Option (Int32 × vv_H) := vv_let ((1 : Int32) <<< (v1 &&& 31)) (fun w1 => (vv_lp (fun (zs : Int64 × Int32 × Int32 × vv_H) => ff_X3_dress_B11   zs.1 zs.2.1 zs.2.2.1 zs.2.2.2) vv_F (v2, w1, (0 : Int32), h)).bind (Sum.elim (fun (e32 : (vv_H)) => some ((0 : Int32), e32)) (fun (e33 : (Int32 × vv_H)) => (ff_X3_handOn e33.2 e33.1).bind (fun r34 => some ((1 : Int32), r34)))))
set_option maxHeartbeats 200000 in
theorem vt_X3_dress_B71 {x : vv_E} {post : Option Value → vv_H → Prop} {u4 : Int64} {u7 : Int32} {u8 : Int32} {s6 : Int32} {s9 : Int64} {s11 : Int32} {h : vv_H} {o : (Int32 × Int64 × Int32 × vv_H) ⊕ ((Int32 × vv_H) ⊕ (Int32 × vv_H))}  (hm : ff_X3_dress_B71  u4 u7 u8 s6 s9 s11 h = some o) (hI : ∀ (z6 : Int32) (z9 : Int64) (z11 : Int32) (zh : vv_H), o = .inl (z6, z9, z11, zh) → vv_V x vv_TC mm_X3_dress post 71 [some (.ref (vv_ad x 170)), none, none, none, some (.long u4), none, some (.int z6), some (.int u7), some (.int u8), some (.long z9), none, some (.int z11), none] [] zh) (hX0 : ∀ (z6 : Int32) (zh : vv_H), o = .inr (.inl (z6, zh)) → vv_V x vv_TC mm_X3_dress post 154 [some (.ref (vv_ad x 170)), none, none, none, some (.long u4), none, some (.int z6), some (.int u7), none, none, none, none, none] [] zh) (hX1 : ∀ (z12 : Int32) (zh : vv_H), o = .inr (.inr (z12, zh)) → vv_V x vv_TC mm_X3_dress post 126 [some (.ref (vv_ad x 170)), none, none, none, none, none, none, none, none, none, none, none, some (.int z12)] [] zh) : vv_V x vv_TC mm_X3_dress post 71 [some (.ref (vv_ad x 170)), none, none, none, some (.long u4), none, some (.int s6), some (.int u7), some (.int u8), some (.long s9), none, some (.int s11), none] [] h := by
  unfold ff_X3_dress_B71 at hm
  refine rr_iload (q := 73) dX3_dress_71 rfl rfl ?_
  refine rr_bipush (q := 75) (v := 36) dX3_dress_73 rfl (by decide) ?_
  refine rr_icmp_ge (q := 78) (tgt := 154) dX3_dress_75 (by decide) rfl hm (fun hm => ?_) (fun hm => ?_)
  · obtain rfl := Option.some.inj hm
    refine rr_sub [true, false, false, false, true, false, true, true, false, false, false, false, false] rfl ?_
    exact hX0 s6 h rfl
  · refine rr_lload (q := 80) dX3_dress_78 rfl rfl ?_
    refine rr_lconst (q := 81) (v := 0) dX3_dress_80 rfl (by decide) ?_
    refine rr_lcmp (q := 82) dX3_dress_81 rfl ?_
    refine rr_if_eq (q := 85) (tgt := 154) dX3_dress_82 (by decide) rfl hm (fun hm => ?_) (fun hm => ?_)
    · obtain rfl := Option.some.inj hm
      refine rr_sub [true, false, false, false, true, false, true, true, false, false, false, false, false] rfl ?_
      exact hX0 s6 h rfl
    · refine rr_lload (q := 87) dX3_dress_85 rfl rfl ?_
      refine rr_lload (q := 89) dX3_dress_87 rfl rfl ?_
      refine rr_lneg (q := 90) dX3_dress_89 rfl ?_
      refine rr_land (q := 91) dX3_dress_90 rfl ?_
      refine rr_lconst (q := 92) (v := 1) dX3_dress_91 rfl (by decide) ?_
      refine rr_lsub (q := 93) dX3_dress_92 rfl ?_
      obtain ⟨r12, k13, hm⟩ := vv_bind hm
      refine rr_callS (q := 96) (M' := mm_J13_bitCount_95d88) (As := [.long ((s9 &&& (-s9)) - (1 : Int64))]) (st := []) (w := some (.int r12))  (cc_J13_bitCount_95d88  k13) rfl vy_J13_bitCount_95d88 zw_137 ⟨Nat.le_of_ble_eq_true rfl, Nat.le_of_ble_eq_true rfl⟩ (Nat.le_of_ble_eq_true rfl) dX3_dress_93 rfl ?_
      show vv_V x vv_TC mm_X3_dress post 96 [some (.ref (vv_ad x 170)), none, none, none, some (.long u4), none, some (.int s6), some (.int u7), some (.int u8), some (.long s9), none, some (.int s11), none] [.int r12] h
      refine rr_istore (q := 98) [some (.ref (vv_ad x 170)), none, none, none, some (.long u4), none, some (.int s6), some (.int u7), some (.int u8), some (.long s9), none, some (.int s11), some (.int r12)] dX3_dress_96 rfl (Nat.le_of_ble_eq_true rfl) rfl rfl ?_
      refine rr_lload (q := 100) dX3_dress_98 rfl rfl ?_
      refine rr_lload (q := 102) dX3_dress_100 rfl rfl ?_
      refine rr_lconst (q := 103) (v := 1) dX3_dress_102 rfl (by decide) ?_
      refine rr_lsub (q := 104) dX3_dress_103 rfl ?_
      refine rr_land (q := 105) dX3_dress_104 rfl ?_
      obtain ⟨w14, c15, hm⟩ := vv_let_of hm
      rw [← c15]
      refine rr_lstore (q := 107) [some (.ref (vv_ad x 170)), none, none, none, some (.long u4), none, some (.int s6), some (.int u7), some (.int u8), some (.long w14), none, some (.int s11), some (.int r12)] dX3_dress_105 rfl (Nat.le_of_ble_eq_true rfl) rfl rfl ?_
      refine rr_aload_n (q := 108) dX3_dress_107 rfl rfl ?_
      refine gf_X3_22 (q := 111) rfl dX3_dress_108 rfl ?_
      refine rr_iload (q := 113) dX3_dress_111 rfl rfl ?_
      refine rr_iload (q := 115) dX3_dress_113 rfl rfl ?_
      obtain ⟨c16, hm⟩ := vv_ck_of hm
      obtain ⟨g17, c18, hm⟩ := vv_let_of hm
      refine rr_iast (q := 116) ylC_174 ynC_174 c16 dX3_dress_115 rfl ?_
      rw [← c18]
      refine rr_aload_n (q := 117) dX3_dress_116 rfl rfl ?_
      refine gf_X3_19 (q := 120) rfl dX3_dress_117 rfl ?_
      refine rr_iload (q := 122) dX3_dress_120 rfl rfl ?_
      obtain ⟨c19, hm⟩ := vv_ck_of hm
      refine rr_iald (q := 123) ylC_173 ynC_173 c19 dX3_dress_122 rfl ?_
      refine rr_if_ge (q := 126) (tgt := 134) dX3_dress_123 (by decide) rfl hm (fun hm => ?_) (fun hm => ?_)
      · refine rr_iload (q := 136) dX3_dress_134 rfl rfl ?_
        refine rr_iconst (q := 137) (v := 1) dX3_dress_136 rfl (by decide) ?_
        refine rr_aload_n (q := 138) dX3_dress_137 rfl rfl ?_
        refine gf_X3_19 (q := 141) rfl dX3_dress_138 rfl ?_
        refine rr_iload (q := 143) dX3_dress_141 rfl rfl ?_
        obtain ⟨c20, hm⟩ := vv_ck_of hm
        refine rr_iald (q := 144) ylC_173 ynC_173 c20 dX3_dress_143 rfl ?_
        refine rr_ishl (q := 145) dX3_dress_144 rfl ?_
        refine rr_ior (q := 146) dX3_dress_145 rfl ?_
        obtain ⟨w21, c22, hm⟩ := vv_let_of hm
        rw [← c22]
        refine rr_istore (q := 148) [some (.ref (vv_ad x 170)), none, none, none, some (.long u4), none, some (.int w21), some (.int u7), some (.int u8), some (.long w14), none, some (.int s11), some (.int r12)] dX3_dress_146 rfl (Nat.le_of_ble_eq_true rfl) rfl rfl ?_
        obtain ⟨w23, c24, hm⟩ := vv_let_of hm
        refine rr_iinc (q := 151) [some (.ref (vv_ad x 170)), none, none, none, some (.long u4), none, some (.int w21), some (.int u7), some (.int u8), some (.long w14), none, some (.int w23), some (.int r12)] dX3_dress_148 rfl rfl c24.symm (Nat.le_of_ble_eq_true rfl) rfl rfl ?_
        refine rr_goto (tgt := 71) dX3_dress_151 (by decide) ?_
        obtain rfl := Option.some.inj hm
        refine rr_sub [true, false, false, false, true, false, true, true, true, true, false, true, false] rfl ?_
        exact hI w21 w14 w23 g17 rfl
      · obtain rfl := Option.some.inj hm
        refine rr_sub [true, false, false, false, false, false, false, false, false, false, false, false, true] rfl ?_
        exact hX1 r12 g17 rfl
set_option maxHeartbeats 200000 in
theorem vt_X3_dress_B11 {x : vv_E} {post : Option Value → vv_H → Prop}  {s4 : Int64} {s6 : Int32} {s7 : Int32} {h : vv_H} {o : (Int64 × Int32 × Int32 × vv_H) ⊕ ((vv_H) ⊕ (Int32 × vv_H))}  (hm : ff_X3_dress_B11   s4 s6 s7 h = some o) (hI : ∀ (z4 : Int64) (z6 : Int32) (z7 : Int32) (zh : vv_H), o = .inl (z4, z6, z7, zh) → vv_V x vv_TC mm_X3_dress post 11 [some (.ref (vv_ad x 170)), none, none, none, some (.long z4), none, some (.int z6), some (.int z7), none, none, none, none, none] [] zh) (hX0 : ∀  (zh : vv_H), o = .inr (.inl zh) → vv_V x vv_TC mm_X3_dress post 160 [none, none, none, none, none, none, none, none, none, none, none, none, none] [] zh) (hX1 : ∀ (z12 : Int32) (zh : vv_H), o = .inr (.inr (z12, zh)) → vv_V x vv_TC mm_X3_dress post 126 [some (.ref (vv_ad x 170)), none, none, none, none, none, none, none, none, none, none, none, some (.int z12)] [] zh) : vv_V x vv_TC mm_X3_dress post 11 [some (.ref (vv_ad x 170)), none, none, none, some (.long s4), none, some (.int s6), some (.int s7), none, none, none, none, none] [] h := by
  unfold ff_X3_dress_B11 at hm
  refine rr_iload (q := 13) dX3_dress_11 rfl rfl ?_
  refine rr_bipush (q := 15) (v := 12) dX3_dress_13 rfl (by decide) ?_
  refine rr_icmp_ge (q := 18) (tgt := 160) dX3_dress_15 (by decide) rfl hm (fun hm => ?_) (fun hm => ?_)
  · obtain rfl := Option.some.inj hm
    refine rr_sub [false, false, false, false, false, false, false, false, false, false, false, false, false] rfl ?_
    exact hX0 h rfl
  · refine rr_iload (q := 20) dX3_dress_18 rfl rfl ?_
    refine rr_if_eq (q := 23) (tgt := 160) dX3_dress_20 (by decide) rfl hm (fun hm => ?_) (fun hm => ?_)
    · obtain rfl := Option.some.inj hm
      refine rr_sub [false, false, false, false, false, false, false, false, false, false, false, false, false] rfl ?_
      exact hX0 h rfl
    · refine rr_iload (q := 25) dX3_dress_23 rfl rfl ?_
      refine rr_iload (q := 27) dX3_dress_25 rfl rfl ?_
      refine rr_ineg (q := 28) dX3_dress_27 rfl ?_
      refine rr_iand (q := 29) dX3_dress_28 rfl ?_
      refine rr_iconst (q := 30) (v := 1) dX3_dress_29 rfl (by decide) ?_
      refine rr_isub (q := 31) dX3_dress_30 rfl ?_
      obtain ⟨r3, k4, hm⟩ := vv_bind hm
      refine rr_callS (q := 34) (M' := mm_J6_bitCount_0f7a4) (As := [.int ((s6 &&& (-s6)) - (1 : Int32))]) (st := []) (w := some (.int r3))  (cc_J6_bitCount_0f7a4  k4) rfl vy_J6_bitCount_0f7a4 zw_132 ⟨Nat.le_of_ble_eq_true rfl, Nat.le_of_ble_eq_true rfl⟩ (Nat.le_of_ble_eq_true rfl) dX3_dress_31 rfl ?_
      show vv_V x vv_TC mm_X3_dress post 34 [some (.ref (vv_ad x 170)), none, none, none, some (.long s4), none, some (.int s6), some (.int s7), none, none, none, none, none] [.int r3] h
      refine rr_istore (q := 36) [some (.ref (vv_ad x 170)), none, none, none, some (.long s4), none, some (.int s6), some (.int s7), some (.int r3), none, none, none, none] dX3_dress_34 rfl (Nat.le_of_ble_eq_true rfl) rfl rfl ?_
      refine rr_iload (q := 38) dX3_dress_36 rfl rfl ?_
      refine rr_iload (q := 40) dX3_dress_38 rfl rfl ?_
      refine rr_iconst (q := 41) (v := 1) dX3_dress_40 rfl (by decide) ?_
      refine rr_isub (q := 42) dX3_dress_41 rfl ?_
      refine rr_iand (q := 43) dX3_dress_42 rfl ?_
      obtain ⟨w5, c6, hm⟩ := vv_let_of hm
      rw [← c6]
      refine rr_istore (q := 45) [some (.ref (vv_ad x 170)), none, none, none, some (.long s4), none, some (.int w5), some (.int s7), some (.int r3), none, none, none, none] dX3_dress_43 rfl (Nat.le_of_ble_eq_true rfl) rfl rfl ?_
      refine rr_aload_n (q := 46) dX3_dress_45 rfl rfl ?_
      refine gf_X3_11 (q := 49) rfl dX3_dress_46 rfl ?_
      refine rr_iload (q := 51) dX3_dress_49 rfl rfl ?_
      obtain ⟨c7, hm⟩ := vv_ck_of hm
      refine rr_lald (q := 52) ylC_171 ynC_171 c7 dX3_dress_51 rfl ?_
      refine rr_lload (q := 54) dX3_dress_52 rfl rfl ?_
      refine rr_land (q := 55) dX3_dress_54 rfl ?_
      obtain ⟨w8, c9, hm⟩ := vv_let_of hm
      rw [← c9]
      refine rr_lstore (q := 57) [some (.ref (vv_ad x 170)), none, none, none, some (.long s4), none, some (.int w5), some (.int s7), some (.int r3), some (.long w8), none, none, none] dX3_dress_55 rfl (Nat.le_of_ble_eq_true rfl) rfl rfl ?_
      refine rr_lload (q := 59) dX3_dress_57 rfl rfl ?_
      refine rr_lload (q := 61) dX3_dress_59 rfl rfl ?_
      refine rr_ldc2 (q := 64) dX3_dress_61 rfl zw_133 ?_
      refine rr_lxor (q := 65) dX3_dress_64 rfl ?_
      refine rr_land (q := 66) dX3_dress_65 rfl ?_
      obtain ⟨w10, c11, hm⟩ := vv_let_of hm
      rw [← c11]
      refine rr_lstore (q := 68) [some (.ref (vv_ad x 170)), none, none, none, some (.long w10), none, some (.int w5), some (.int s7), some (.int r3), some (.long w8), none, none, none] dX3_dress_66 rfl (Nat.le_of_ble_eq_true rfl) rfl rfl ?_
      refine rr_iconst (q := 69) (v := 0) dX3_dress_68 rfl (by decide) ?_
      refine rr_istore (q := 71) [some (.ref (vv_ad x 170)), none, none, none, some (.long w10), none, some (.int w5), some (.int s7), some (.int r3), some (.long w8), none, some (.int (0 : Int32)), none] dX3_dress_69 rfl (Nat.le_of_ble_eq_true rfl) rfl rfl ?_
      obtain ⟨r25, k30, hm⟩ := vv_bind hm
      refine vv_lp_link (P := fun (zs : Int32 × Int64 × Int32 × vv_H) => vv_V x vv_TC mm_X3_dress post 71 [some (.ref (vv_ad x 170)), none, none, none, some (.long w10), none, some (.int zs.1), some (.int s7), some (.int r3), some (.long zs.2.1), none, some (.int zs.2.2.1), none] [] zs.2.2.2) (Q := (Sum.elim (fun (e26 : (Int32 × vv_H)) => vv_V x vv_TC mm_X3_dress post 154 [some (.ref (vv_ad x 170)), none, none, none, some (.long w10), none, some (.int e26.1), some (.int s7), none, none, none, none, none] [] e26.2) (fun (e29 : (Int32 × vv_H)) => vv_V x vv_TC mm_X3_dress post 126 [some (.ref (vv_ad x 170)), none, none, none, none, none, none, none, none, none, none, none, some (.int e29.1)] [] e29.2))) (fun zs o hm hI hX => ?_) vv_F (w5, w8, (0 : Int32), h) r25 k30 ?_
      · exact vt_X3_dress_B71   hm (fun z6 z9 z11 zh e => hI (z6, z9, z11, zh) e) (fun z6 zh e => hX (.inl (z6, zh)) e) (fun z12 zh e => hX (.inr (z12, zh)) e)
      · rcases r25 with e26 | qe26
        · try dsimp only [Sum.elim_inl, Sum.elim_inr] at hm
          try dsimp only [Sum.elim_inl, Sum.elim_inr]
          obtain ⟨w27, c28, hm⟩ := vv_let_of hm
          refine rr_iinc (q := 157) [some (.ref (vv_ad x 170)), none, none, none, some (.long w10), none, some (.int e26.1), some (.int w27), none, none, none, none, none] dX3_dress_154 rfl rfl c28.symm (Nat.le_of_ble_eq_true rfl) rfl rfl ?_
          refine rr_goto (tgt := 11) dX3_dress_157 (by decide) ?_
          obtain rfl := Option.some.inj hm
          exact hI w10 e26.1 w27 e26.2 rfl
        · generalize qe26 = e29 at hm ⊢
          try dsimp only [Sum.elim_inl, Sum.elim_inr] at hm
          try dsimp only [Sum.elim_inl, Sum.elim_inr]
          obtain rfl := Option.some.inj hm
          exact hX1 e29.1 e29.2 rfl
set_option maxHeartbeats 200000 in
theorem vt_X3_dress {x : vv_E} {post : Option Value → vv_H → Prop} {h : vv_H} {v1 : Int32} {v2 : Int64} {o : Int32 × vv_H}  (hm : ff_X3_dress  h v1 v2 = some o) (hp : post (some (.int o.1)) o.2) : vv_V x vv_TC mm_X3_dress post 0 [some (.ref (vv_ad x 170)), some (.int v1), some (.long v2), none, none, none, none, none, none, none, none, none, none] [] h := by
  unfold ff_X3_dress at hm
  refine rr_lload_n (q := 1) dX3_dress_0 rfl rfl ?_
  refine rr_lstore (q := 3) [some (.ref (vv_ad x 170)), some (.int v1), some (.long v2), none, some (.long v2), none, none, none, none, none, none, none, none] dX3_dress_1 rfl (Nat.le_of_ble_eq_true rfl) rfl rfl ?_
  refine rr_iconst (q := 4) (v := 1) dX3_dress_3 rfl (by decide) ?_
  refine rr_iload_n (q := 5) dX3_dress_4 rfl rfl ?_
  refine rr_ishl (q := 6) dX3_dress_5 rfl ?_
  obtain ⟨w1, c2, hm⟩ := vv_let_of hm
  rw [← c2]
  refine rr_istore (q := 8) [some (.ref (vv_ad x 170)), some (.int v1), some (.long v2), none, some (.long v2), none, some (.int w1), none, none, none, none, none, none] dX3_dress_6 rfl (Nat.le_of_ble_eq_true rfl) rfl rfl ?_
  refine rr_iconst (q := 9) (v := 0) dX3_dress_8 rfl (by decide) ?_
  refine rr_istore (q := 11) [some (.ref (vv_ad x 170)), some (.int v1), some (.long v2), none, some (.long v2), none, some (.int w1), some (.int (0 : Int32)), none, none, none, none, none] dX3_dress_9 rfl (Nat.le_of_ble_eq_true rfl) rfl rfl ?_
  refine rr_sub [true, false, false, false, true, false, true, true, false, false, false, false, false] rfl ?_
  obtain ⟨r31, k36, hm⟩ := vv_bind hm
  refine vv_lp_link (P := fun (zs : Int64 × Int32 × Int32 × vv_H) => vv_V x vv_TC mm_X3_dress post 11 [some (.ref (vv_ad x 170)), none, none, none, some (.long zs.1), none, some (.int zs.2.1), some (.int zs.2.2.1), none, none, none, none, none] [] zs.2.2.2) (Q := (Sum.elim (fun (e32 : (vv_H)) => vv_V x vv_TC mm_X3_dress post 160 [none, none, none, none, none, none, none, none, none, none, none, none, none] [] e32) (fun (e33 : (Int32 × vv_H)) => vv_V x vv_TC mm_X3_dress post 126 [some (.ref (vv_ad x 170)), none, none, none, none, none, none, none, none, none, none, none, some (.int e33.1)] [] e33.2))) (fun zs o hm hI hX => ?_) vv_F (v2, w1, (0 : Int32), h) r31 k36 ?_
  · exact vt_X3_dress_B11   hm (fun z4 z6 z7 zh e => hI (z4, z6, z7, zh) e) (fun zh e => hX (.inl zh) e) (fun z12 zh e => hX (.inr (z12, zh)) e)
  · rcases r31 with e32 | qe32
    · try dsimp only [Sum.elim_inl, Sum.elim_inr] at hm
      try dsimp only [Sum.elim_inl, Sum.elim_inr]
      refine rr_iconst (q := 161) (v := 0) dX3_dress_160 rfl (by decide) ?_
      obtain rfl := Option.some.inj hm
      exact rr_zret dX3_dress_161 rfl rfl hp
    · generalize qe32 = e33 at hm ⊢
      try dsimp only [Sum.elim_inl, Sum.elim_inr] at hm
      try dsimp only [Sum.elim_inl, Sum.elim_inr]
      refine rr_aload_n (q := 127) dX3_dress_126 rfl rfl ?_
      refine rr_iload (q := 129) dX3_dress_127 rfl rfl ?_
      obtain ⟨r34, k35, hm⟩ := vv_bind hm
      refine rr_callV (q := 132) (M' := mm_X3_handOn) (As := [.int e33.1]) (st := []) (w := none) (cc_X3_handOn  k35) rfl ylC_170 ynC_170 rfl vy_X3_handOn zw_142 ⟨Nat.le_of_ble_eq_true rfl, Nat.le_of_ble_eq_true rfl⟩ (Nat.le_of_ble_eq_true rfl) dX3_dress_129 rfl ?_
      show vv_V x vv_TC mm_X3_dress post 132 [some (.ref (vv_ad x 170)), none, none, none, none, none, none, none, none, none, none, none, some (.int e33.1)] [] r34
      refine rr_iconst (q := 133) (v := 1) dX3_dress_132 rfl (by decide) ?_
      obtain rfl := Option.some.inj hm
      exact rr_zret dX3_dress_133 rfl rfl hp
theorem cc_X3_dress {x : vv_E} {h : vv_H} {v1 : Int32} {v2 : Int64} {o : Int32 × vv_H}  (hm : ff_X3_dress h v1 v2 = some o) : vv_C x vv_TC yX3_dress mm_X3_dress [.ref (vv_ad x 170), .int v1, .long v2] h (fun v g => v = some (.int o.1) ∧ g = o.2) := vv_entry (by decide +kernel) rfl (Nat.le_of_ble_eq_true rfl) rfl (vt_X3_dress  hm ⟨rfl, rfl⟩)
def ff_X4_isGone (h : vv_H) (v1 : Int32) : Option (Int32) := (ff_X4_isStored h v1).bind (fun r1 => (if r1 = 0 then (ff_X4_isWithBody h v1).bind (fun r3 => (if r3 = 0 then some (1 : Int32) else some (0 : Int32))) else some (0 : Int32)))
set_option maxHeartbeats 200000 in
theorem vt_X4_isGone {x : vv_E} {post : Option Value → vv_H → Prop} {h : vv_H} {v1 : Int32} {o : Int32}  (hm : ff_X4_isGone  h v1 = some o) (hp : post (some (.int o)) h) : vv_V x vv_TC mm_X4_isGone post 0 [some (.ref (vv_ad x 156)), some (.int v1)] [] h := by
  unfold ff_X4_isGone at hm
  refine rr_aload_n (q := 1) dX4_isGone_0 rfl rfl ?_
  refine rr_iload_n (q := 2) dX4_isGone_1 rfl rfl ?_
  obtain ⟨r1, k2, hm⟩ := vv_bind hm
  refine rr_callV (q := 5) (M' := mm_X4_isStored) (As := [.int v1]) (st := []) (w := some (.int r1)) (cc_X4_isStored  k2) rfl ylC_156 ynC_156 rfl vy_X4_isStored zw_147 ⟨Nat.le_of_ble_eq_true rfl, Nat.le_of_ble_eq_true rfl⟩ (Nat.le_of_ble_eq_true rfl) dX4_isGone_2 rfl ?_
  show vv_V x vv_TC mm_X4_isGone post 5 [some (.ref (vv_ad x 156)), some (.int v1)] [.int r1] h
  refine rr_if_ne (q := 8) (tgt := 20) dX4_isGone_5 (by decide) rfl hm (fun hm => ?_) (fun hm => ?_)
  · refine rr_iconst (q := 21) (v := 0) dX4_isGone_20 rfl (by decide) ?_
    obtain rfl := Option.some.inj hm
    exact rr_zret dX4_isGone_21 rfl rfl hp
  · refine rr_aload_n (q := 9) dX4_isGone_8 rfl rfl ?_
    refine rr_iload_n (q := 10) dX4_isGone_9 rfl rfl ?_
    obtain ⟨r3, k4, hm⟩ := vv_bind hm
    refine rr_callV (q := 13) (M' := mm_X4_isWithBody) (As := [.int v1]) (st := []) (w := some (.int r3)) (cc_X4_isWithBody  k4) rfl ylC_156 ynC_156 rfl vy_X4_isWithBody zw_152 ⟨Nat.le_of_ble_eq_true rfl, Nat.le_of_ble_eq_true rfl⟩ (Nat.le_of_ble_eq_true rfl) dX4_isGone_10 rfl ?_
    show vv_V x vv_TC mm_X4_isGone post 13 [some (.ref (vv_ad x 156)), some (.int v1)] [.int r3] h
    refine rr_if_ne (q := 16) (tgt := 20) dX4_isGone_13 (by decide) rfl hm (fun hm => ?_) (fun hm => ?_)
    · refine rr_iconst (q := 21) (v := 0) dX4_isGone_20 rfl (by decide) ?_
      obtain rfl := Option.some.inj hm
      exact rr_zret dX4_isGone_21 rfl rfl hp
    · refine rr_iconst (q := 17) (v := 1) dX4_isGone_16 rfl (by decide) ?_
      refine rr_goto (tgt := 21) dX4_isGone_17 (by decide) ?_
      obtain rfl := Option.some.inj hm
      exact rr_zret dX4_isGone_21 rfl rfl hp
theorem cc_X4_isGone {x : vv_E} {h : vv_H} {v1 : Int32} {o : Int32}  (hm : ff_X4_isGone h v1 = some o) : vv_C x vv_TC yX4_isGone mm_X4_isGone [.ref (vv_ad x 156), .int v1] h (fun v g => v = some (.int o) ∧ g = h) := vv_entry (by decide +kernel) rfl (Nat.le_of_ble_eq_true rfl) rfl (vt_X4_isGone  hm ⟨rfl, rfl⟩)
def ff_X4_wornBy (h : vv_H) (v1 : Int32) (v2 : Int32) : Option (Int32) := vv_ck v1 36 ((ff_X4_isWithBody h v1).bind (fun r2 => (if r2 = 0 then some ((h.1 166 v1.toNatClampNeg) + (0 : Int32)) else vv_ck v1 36 (some ((h.1 166 v1.toNatClampNeg) + (v2 - (h.1 165 v1.toNatClampNeg)))))))
set_option maxHeartbeats 200000 in
theorem vt_X4_wornBy {x : vv_E} {post : Option Value → vv_H → Prop} {h : vv_H} {v1 : Int32} {v2 : Int32} {o : Int32}  (hm : ff_X4_wornBy  h v1 v2 = some o) (hp : post (some (.int o)) h) : vv_V x vv_TC mm_X4_wornBy post 0 [some (.ref (vv_ad x 156)), some (.int v1), some (.int v2)] [] h := by
  unfold ff_X4_wornBy at hm
  refine rr_aload_n (q := 1) dX4_wornBy_0 rfl rfl ?_
  refine gf_X4_39 (q := 4) rfl dX4_wornBy_1 rfl ?_
  refine rr_iload_n (q := 5) dX4_wornBy_4 rfl rfl ?_
  obtain ⟨c1, hm⟩ := vv_ck_of hm
  refine rr_iald (q := 6) ylC_166 ynC_166 c1 dX4_wornBy_5 rfl ?_
  refine rr_aload_n (q := 7) dX4_wornBy_6 rfl rfl ?_
  refine rr_iload_n (q := 8) dX4_wornBy_7 rfl rfl ?_
  obtain ⟨r2, k3, hm⟩ := vv_bind hm
  refine rr_callV (q := 11) (M' := mm_X4_isWithBody) (As := [.int v1]) (st := [.int (h.1 166 v1.toNatClampNeg)]) (w := some (.int r2)) (cc_X4_isWithBody  k3) rfl ylC_156 ynC_156 rfl vy_X4_isWithBody zw_152 ⟨Nat.le_of_ble_eq_true rfl, Nat.le_of_ble_eq_true rfl⟩ (Nat.le_of_ble_eq_true rfl) dX4_wornBy_8 rfl ?_
  show vv_V x vv_TC mm_X4_wornBy post 11 [some (.ref (vv_ad x 156)), some (.int v1), some (.int v2)] [.int r2, .int (h.1 166 v1.toNatClampNeg)] h
  refine rr_if_eq (q := 14) (tgt := 25) dX4_wornBy_11 (by decide) rfl hm (fun hm => ?_) (fun hm => ?_)
  · refine rr_iconst (q := 26) (v := 0) dX4_wornBy_25 rfl (by decide) ?_
    refine rr_iadd (q := 27) dX4_wornBy_26 rfl ?_
    obtain rfl := Option.some.inj hm
    exact rr_iret dX4_wornBy_27 rfl hp
  · refine rr_iload_n (q := 15) dX4_wornBy_14 rfl rfl ?_
    refine rr_aload_n (q := 16) dX4_wornBy_15 rfl rfl ?_
    refine gf_X4_36 (q := 19) rfl dX4_wornBy_16 rfl ?_
    refine rr_iload_n (q := 20) dX4_wornBy_19 rfl rfl ?_
    obtain ⟨c4, hm⟩ := vv_ck_of hm
    refine rr_iald (q := 21) ylC_165 ynC_165 c4 dX4_wornBy_20 rfl ?_
    refine rr_isub (q := 22) dX4_wornBy_21 rfl ?_
    refine rr_goto (tgt := 26) dX4_wornBy_22 (by decide) ?_
    refine rr_iadd (q := 27) dX4_wornBy_26 rfl ?_
    obtain rfl := Option.some.inj hm
    exact rr_iret dX4_wornBy_27 rfl hp
theorem cc_X4_wornBy {x : vv_E} {h : vv_H} {v1 : Int32} {v2 : Int32} {o : Int32}  (hm : ff_X4_wornBy h v1 v2 = some o) : vv_C x vv_TC yX4_wornBy mm_X4_wornBy [.ref (vv_ad x 156), .int v1, .int v2] h (fun v g => v = some (.int o) ∧ g = h) := vv_entry (by decide +kernel) rfl (Nat.le_of_ble_eq_true rfl) rfl (vt_X4_wornBy  hm ⟨rfl, rfl⟩)
def ff_X4_countStored_B4 (h : vv_H) (s1 : Int32) (s2 : Int32) : Option ((Int32 × Int32) ⊕ ((Int32))) := (if (h.1 156 0) ≤ s2 then some (.inr s1) else (ff_X4_isStored h s2).bind (fun r1 => (if r1 = 0 then vv_let (s2 + 1) (fun w3 => some (.inl ((s1 + (0 : Int32)), w3))) else vv_let (s2 + 1) (fun w5 => some (.inl ((s1 + (1 : Int32)), w5))))))
def ff_X4_countStored (h : vv_H) : Option (Int32) := (vv_lp (fun (zs : Int32 × Int32) => ff_X4_countStored_B4  h zs.1 zs.2) vv_F ((0 : Int32), (0 : Int32))).bind (fun (e8 : (Int32)) => some e8)
set_option maxHeartbeats 200000 in
theorem vt_X4_countStored_B4 {x : vv_E} {post : Option Value → vv_H → Prop} {h : vv_H} {s1 : Int32} {s2 : Int32} {o : (Int32 × Int32) ⊕ ((Int32))}  (hm : ff_X4_countStored_B4  h s1 s2 = some o) (hI : ∀ (z1 : Int32) (z2 : Int32) , o = .inl (z1, z2) → vv_V x vv_TC mm_X4_countStored post 4 [some (.ref (vv_ad x 156)), some (.int z1), some (.int z2)] [] h) (hX0 : ∀ (z1 : Int32), o = .inr z1 → vv_V x vv_TC mm_X4_countStored post 34 [none, some (.int z1), none] [] h) : vv_V x vv_TC mm_X4_countStored post 4 [some (.ref (vv_ad x 156)), some (.int s1), some (.int s2)] [] h := by
  unfold ff_X4_countStored_B4 at hm
  refine rr_iload_n (q := 5) dX4_countStored_4 rfl rfl ?_
  refine rr_aload_n (q := 6) dX4_countStored_5 rfl rfl ?_
  refine gf_X4_42 (q := 9) rfl dX4_countStored_6 rfl ?_
  refine rr_icmp_ge (q := 12) (tgt := 34) dX4_countStored_9 (by decide) rfl hm (fun hm => ?_) (fun hm => ?_)
  · obtain rfl := Option.some.inj hm
    refine rr_sub [false, true, false] rfl ?_
    exact hX0 s1 rfl
  · refine rr_iload_n (q := 13) dX4_countStored_12 rfl rfl ?_
    refine rr_aload_n (q := 14) dX4_countStored_13 rfl rfl ?_
    refine rr_iload_n (q := 15) dX4_countStored_14 rfl rfl ?_
    obtain ⟨r1, k2, hm⟩ := vv_bind hm
    refine rr_callV (q := 18) (M' := mm_X4_isStored) (As := [.int s2]) (st := [.int s1]) (w := some (.int r1)) (cc_X4_isStored  k2) rfl ylC_156 ynC_156 rfl vy_X4_isStored zw_147 ⟨Nat.le_of_ble_eq_true rfl, Nat.le_of_ble_eq_true rfl⟩ (Nat.le_of_ble_eq_true rfl) dX4_countStored_15 rfl ?_
    show vv_V x vv_TC mm_X4_countStored post 18 [some (.ref (vv_ad x 156)), some (.int s1), some (.int s2)] [.int r1, .int s1] h
    refine rr_if_eq (q := 21) (tgt := 25) dX4_countStored_18 (by decide) rfl hm (fun hm => ?_) (fun hm => ?_)
    · refine rr_iconst (q := 26) (v := 0) dX4_countStored_25 rfl (by decide) ?_
      refine rr_iadd (q := 27) dX4_countStored_26 rfl ?_
      refine rr_istore_n (q := 28) [some (.ref (vv_ad x 156)), some (.int (s1 + (0 : Int32))), some (.int s2)] dX4_countStored_27 rfl rfl (Nat.le_of_ble_eq_true rfl) rfl rfl ?_
      obtain ⟨w3, c4, hm⟩ := vv_let_of hm
      refine rr_iinc (q := 31) [some (.ref (vv_ad x 156)), some (.int (s1 + (0 : Int32))), some (.int w3)] dX4_countStored_28 rfl rfl c4.symm (Nat.le_of_ble_eq_true rfl) rfl rfl ?_
      refine rr_goto (tgt := 4) dX4_countStored_31 (by decide) ?_
      obtain rfl := Option.some.inj hm
      exact hI (s1 + (0 : Int32)) w3 rfl
    · refine rr_iconst (q := 22) (v := 1) dX4_countStored_21 rfl (by decide) ?_
      refine rr_goto (tgt := 26) dX4_countStored_22 (by decide) ?_
      refine rr_iadd (q := 27) dX4_countStored_26 rfl ?_
      refine rr_istore_n (q := 28) [some (.ref (vv_ad x 156)), some (.int (s1 + (1 : Int32))), some (.int s2)] dX4_countStored_27 rfl rfl (Nat.le_of_ble_eq_true rfl) rfl rfl ?_
      obtain ⟨w5, c6, hm⟩ := vv_let_of hm
      refine rr_iinc (q := 31) [some (.ref (vv_ad x 156)), some (.int (s1 + (1 : Int32))), some (.int w5)] dX4_countStored_28 rfl rfl c6.symm (Nat.le_of_ble_eq_true rfl) rfl rfl ?_
      refine rr_goto (tgt := 4) dX4_countStored_31 (by decide) ?_
      obtain rfl := Option.some.inj hm
      exact hI (s1 + (1 : Int32)) w5 rfl
set_option maxHeartbeats 200000 in
theorem vt_X4_countStored {x : vv_E} {post : Option Value → vv_H → Prop} {h : vv_H} {o : Int32}  (hm : ff_X4_countStored  h = some o) (hp : post (some (.int o)) h) : vv_V x vv_TC mm_X4_countStored post 0 [some (.ref (vv_ad x 156)), none, none] [] h := by
  unfold ff_X4_countStored at hm
  refine rr_iconst (q := 1) (v := 0) dX4_countStored_0 rfl (by decide) ?_
  refine rr_istore_n (q := 2) [some (.ref (vv_ad x 156)), some (.int (0 : Int32)), none] dX4_countStored_1 rfl rfl (Nat.le_of_ble_eq_true rfl) rfl rfl ?_
  refine rr_iconst (q := 3) (v := 0) dX4_countStored_2 rfl (by decide) ?_
  refine rr_istore_n (q := 4) [some (.ref (vv_ad x 156)), some (.int (0 : Int32)), some (.int (0 : Int32))] dX4_countStored_3 rfl rfl (Nat.le_of_ble_eq_true rfl) rfl rfl ?_
  obtain ⟨r7, k9, hm⟩ := vv_bind hm
  refine vv_lp_link (P := fun (zs : Int32 × Int32) => vv_V x vv_TC mm_X4_countStored post 4 [some (.ref (vv_ad x 156)), some (.int zs.1), some (.int zs.2)] [] h) (Q := (fun (e8 : (Int32)) => vv_V x vv_TC mm_X4_countStored post 34 [none, some (.int e8), none] [] h)) (fun zs o hm hI hX => ?_) vv_F ((0 : Int32), (0 : Int32)) r7 k9 ?_
  · exact vt_X4_countStored_B4   hm (fun z1 z2 e => hI (z1, z2) e) (fun z1 e => hX z1 e)
  · generalize r7 = e8 at hm ⊢
    try dsimp only [Sum.elim_inl, Sum.elim_inr] at hm
    try dsimp only [Sum.elim_inl, Sum.elim_inr]
    refine rr_iload_n (q := 35) dX4_countStored_34 rfl rfl ?_
    obtain rfl := Option.some.inj hm
    exact rr_iret dX4_countStored_35 rfl hp
theorem cc_X4_countStored {x : vv_E} {h : vv_H} {o : Int32}  (hm : ff_X4_countStored h = some o) : vv_C x vv_TC yX4_countStored mm_X4_countStored [.ref (vv_ad x 156)] h (fun v g => v = some (.int o) ∧ g = h) := vv_entry (by decide +kernel) rfl (Nat.le_of_ble_eq_true rfl) rfl (vt_X4_countStored  hm ⟨rfl, rfl⟩)
def ff_X4_countWithBodies_B4 (h : vv_H) (s1 : Int32) (s2 : Int32) : Option ((Int32 × Int32) ⊕ ((Int32))) := (if (h.1 156 0) ≤ s2 then some (.inr s1) else (ff_X4_isWithBody h s2).bind (fun r1 => (if r1 = 0 then vv_let (s2 + 1) (fun w3 => some (.inl ((s1 + (0 : Int32)), w3))) else vv_let (s2 + 1) (fun w5 => some (.inl ((s1 + (1 : Int32)), w5))))))
def ff_X4_countWithBodies (h : vv_H) : Option (Int32) := (vv_lp (fun (zs : Int32 × Int32) => ff_X4_countWithBodies_B4  h zs.1 zs.2) vv_F ((0 : Int32), (0 : Int32))).bind (fun (e8 : (Int32)) => some e8)
set_option maxHeartbeats 200000 in
theorem vt_X4_countWithBodies_B4 {x : vv_E} {post : Option Value → vv_H → Prop} {h : vv_H} {s1 : Int32} {s2 : Int32} {o : (Int32 × Int32) ⊕ ((Int32))}  (hm : ff_X4_countWithBodies_B4  h s1 s2 = some o) (hI : ∀ (z1 : Int32) (z2 : Int32) , o = .inl (z1, z2) → vv_V x vv_TC mm_X4_countWithBodies post 4 [some (.ref (vv_ad x 156)), some (.int z1), some (.int z2)] [] h) (hX0 : ∀ (z1 : Int32), o = .inr z1 → vv_V x vv_TC mm_X4_countWithBodies post 34 [none, some (.int z1), none] [] h) : vv_V x vv_TC mm_X4_countWithBodies post 4 [some (.ref (vv_ad x 156)), some (.int s1), some (.int s2)] [] h := by
  unfold ff_X4_countWithBodies_B4 at hm
  refine rr_iload_n (q := 5) dX4_countWithBodies_4 rfl rfl ?_
  refine rr_aload_n (q := 6) dX4_countWithBodies_5 rfl rfl ?_
  refine gf_X4_42 (q := 9) rfl dX4_countWithBodies_6 rfl ?_
  refine rr_icmp_ge (q := 12) (tgt := 34) dX4_countWithBodies_9 (by decide) rfl hm (fun hm => ?_) (fun hm => ?_)
  · obtain rfl := Option.some.inj hm
    refine rr_sub [false, true, false] rfl ?_
    exact hX0 s1 rfl
  · refine rr_iload_n (q := 13) dX4_countWithBodies_12 rfl rfl ?_
    refine rr_aload_n (q := 14) dX4_countWithBodies_13 rfl rfl ?_
    refine rr_iload_n (q := 15) dX4_countWithBodies_14 rfl rfl ?_
    obtain ⟨r1, k2, hm⟩ := vv_bind hm
    refine rr_callV (q := 18) (M' := mm_X4_isWithBody) (As := [.int s2]) (st := [.int s1]) (w := some (.int r1)) (cc_X4_isWithBody  k2) rfl ylC_156 ynC_156 rfl vy_X4_isWithBody zw_152 ⟨Nat.le_of_ble_eq_true rfl, Nat.le_of_ble_eq_true rfl⟩ (Nat.le_of_ble_eq_true rfl) dX4_countWithBodies_15 rfl ?_
    show vv_V x vv_TC mm_X4_countWithBodies post 18 [some (.ref (vv_ad x 156)), some (.int s1), some (.int s2)] [.int r1, .int s1] h
    refine rr_if_eq (q := 21) (tgt := 25) dX4_countWithBodies_18 (by decide) rfl hm (fun hm => ?_) (fun hm => ?_)
    · refine rr_iconst (q := 26) (v := 0) dX4_countWithBodies_25 rfl (by decide) ?_
      refine rr_iadd (q := 27) dX4_countWithBodies_26 rfl ?_
      refine rr_istore_n (q := 28) [some (.ref (vv_ad x 156)), some (.int (s1 + (0 : Int32))), some (.int s2)] dX4_countWithBodies_27 rfl rfl (Nat.le_of_ble_eq_true rfl) rfl rfl ?_
      obtain ⟨w3, c4, hm⟩ := vv_let_of hm
      refine rr_iinc (q := 31) [some (.ref (vv_ad x 156)), some (.int (s1 + (0 : Int32))), some (.int w3)] dX4_countWithBodies_28 rfl rfl c4.symm (Nat.le_of_ble_eq_true rfl) rfl rfl ?_
      refine rr_goto (tgt := 4) dX4_countWithBodies_31 (by decide) ?_
      obtain rfl := Option.some.inj hm
      exact hI (s1 + (0 : Int32)) w3 rfl
    · refine rr_iconst (q := 22) (v := 1) dX4_countWithBodies_21 rfl (by decide) ?_
      refine rr_goto (tgt := 26) dX4_countWithBodies_22 (by decide) ?_
      refine rr_iadd (q := 27) dX4_countWithBodies_26 rfl ?_
      refine rr_istore_n (q := 28) [some (.ref (vv_ad x 156)), some (.int (s1 + (1 : Int32))), some (.int s2)] dX4_countWithBodies_27 rfl rfl (Nat.le_of_ble_eq_true rfl) rfl rfl ?_
      obtain ⟨w5, c6, hm⟩ := vv_let_of hm
      refine rr_iinc (q := 31) [some (.ref (vv_ad x 156)), some (.int (s1 + (1 : Int32))), some (.int w5)] dX4_countWithBodies_28 rfl rfl c6.symm (Nat.le_of_ble_eq_true rfl) rfl rfl ?_
      refine rr_goto (tgt := 4) dX4_countWithBodies_31 (by decide) ?_
      obtain rfl := Option.some.inj hm
      exact hI (s1 + (1 : Int32)) w5 rfl
set_option maxHeartbeats 200000 in
theorem vt_X4_countWithBodies {x : vv_E} {post : Option Value → vv_H → Prop} {h : vv_H} {o : Int32}  (hm : ff_X4_countWithBodies  h = some o) (hp : post (some (.int o)) h) : vv_V x vv_TC mm_X4_countWithBodies post 0 [some (.ref (vv_ad x 156)), none, none] [] h := by
  unfold ff_X4_countWithBodies at hm
  refine rr_iconst (q := 1) (v := 0) dX4_countWithBodies_0 rfl (by decide) ?_
  refine rr_istore_n (q := 2) [some (.ref (vv_ad x 156)), some (.int (0 : Int32)), none] dX4_countWithBodies_1 rfl rfl (Nat.le_of_ble_eq_true rfl) rfl rfl ?_
  refine rr_iconst (q := 3) (v := 0) dX4_countWithBodies_2 rfl (by decide) ?_
  refine rr_istore_n (q := 4) [some (.ref (vv_ad x 156)), some (.int (0 : Int32)), some (.int (0 : Int32))] dX4_countWithBodies_3 rfl rfl (Nat.le_of_ble_eq_true rfl) rfl rfl ?_
  obtain ⟨r7, k9, hm⟩ := vv_bind hm
  refine vv_lp_link (P := fun (zs : Int32 × Int32) => vv_V x vv_TC mm_X4_countWithBodies post 4 [some (.ref (vv_ad x 156)), some (.int zs.1), some (.int zs.2)] [] h) (Q := (fun (e8 : (Int32)) => vv_V x vv_TC mm_X4_countWithBodies post 34 [none, some (.int e8), none] [] h)) (fun zs o hm hI hX => ?_) vv_F ((0 : Int32), (0 : Int32)) r7 k9 ?_
  · exact vt_X4_countWithBodies_B4   hm (fun z1 z2 e => hI (z1, z2) e) (fun z1 e => hX z1 e)
  · generalize r7 = e8 at hm ⊢
    try dsimp only [Sum.elim_inl, Sum.elim_inr] at hm
    try dsimp only [Sum.elim_inl, Sum.elim_inr]
    refine rr_iload_n (q := 35) dX4_countWithBodies_34 rfl rfl ?_
    obtain rfl := Option.some.inj hm
    exact rr_iret dX4_countWithBodies_35 rfl hp
theorem cc_X4_countWithBodies {x : vv_E} {h : vv_H} {o : Int32}  (hm : ff_X4_countWithBodies h = some o) : vv_C x vv_TC yX4_countWithBodies mm_X4_countWithBodies [.ref (vv_ad x 156)] h (fun v g => v = some (.int o) ∧ g = h) := vv_entry (by decide +kernel) rfl (Nat.le_of_ble_eq_true rfl) rfl (vt_X4_countWithBodies  hm ⟨rfl, rfl⟩)
def ff_X4_waysAsBad_B21 (u2 : Int32) (u3 : Int32) (h : vv_H) (s4 : Int64) (s6 : Int32) : Option ((Int64 × Int32) ⊕ ((Int64))) := (if (if u3 < u2 then u3 else u2) < s6 then some (.inr s4) else (ff_X11_waysToDraw u2 s6).bind (fun r7 => (ff_X11_waysToDraw ((h.1 156 0) - u2) (u3 - s6)).bind (fun r9 => vv_let (s4 + (r7 * r9)) (fun w11 => vv_let (s6 + 1) (fun w13 => some (.inl (w11, w13)))))))
def ff_X4_waysAsBad (h : vv_H) (v1 : Int32) : Option (Int64) := (ff_X4_countOfLot h v1).bind (fun r1 => (ff_X4_countAllFailed h).bind (fun r3 => (ff_X4_countFailed h v1).bind (fun r5 => (vv_lp (fun (zs : Int64 × Int32) => ff_X4_waysAsBad_B21  r1 r3 h zs.1 zs.2) vv_F ((0 : Int64), r5)).bind (fun (e16 : (Int64)) => some e16))))
set_option maxHeartbeats 200000 in
theorem vt_X4_waysAsBad_B21 {x : vv_E} {post : Option Value → vv_H → Prop} {u2 : Int32} {u3 : Int32} {h : vv_H} {s4 : Int64} {s6 : Int32} {o : (Int64 × Int32) ⊕ ((Int64))}  (hm : ff_X4_waysAsBad_B21  u2 u3 h s4 s6 = some o) (hI : ∀ (z4 : Int64) (z6 : Int32) , o = .inl (z4, z6) → vv_V x vv_TC mm_X4_waysAsBad post 21 [some (.ref (vv_ad x 156)), none, some (.int u2), some (.int u3), some (.long z4), none, some (.int z6)] [] h) (hX0 : ∀ (z4 : Int64), o = .inr z4 → vv_V x vv_TC mm_X4_waysAsBad post 62 [none, none, none, none, some (.long z4), none, none] [] h) : vv_V x vv_TC mm_X4_waysAsBad post 21 [some (.ref (vv_ad x 156)), none, some (.int u2), some (.int u3), some (.long s4), none, some (.int s6)] [] h := by
  unfold ff_X4_waysAsBad_B21 at hm
  refine rr_iload (q := 23) dX4_waysAsBad_21 rfl rfl ?_
  refine rr_iload_n (q := 24) dX4_waysAsBad_23 rfl rfl ?_
  refine rr_iload_n (q := 25) dX4_waysAsBad_24 rfl rfl ?_
  refine rr_mmin (q := 28) zw_169 zw_125 zw_126 zw_127 (Nat.le_of_ble_eq_true rfl) (Nat.le_of_ble_eq_true rfl) dX4_waysAsBad_25 rfl ?_
  refine rr_icmp_gt (q := 31) (tgt := 62) dX4_waysAsBad_28 (by decide) rfl hm (fun hm => ?_) (fun hm => ?_)
  · obtain rfl := Option.some.inj hm
    refine rr_sub [false, false, false, false, true, false, false] rfl ?_
    exact hX0 s4 rfl
  · refine rr_lload (q := 33) dX4_waysAsBad_31 rfl rfl ?_
    refine rr_iload_n (q := 34) dX4_waysAsBad_33 rfl rfl ?_
    refine rr_iload (q := 36) dX4_waysAsBad_34 rfl rfl ?_
    obtain ⟨r7, k8, hm⟩ := vv_bind hm
    refine rr_callSN (q := 39) (M' := mm_X11_waysToDraw) (As := [.int u2, .int s6]) (st := [.long s4]) (w := some (.long r7)) rfl rfl (cc_X11_waysToDraw  k8) rfl vy_X11_waysToDraw rfl ⟨Nat.le_of_ble_eq_true rfl, Nat.le_of_ble_eq_true rfl⟩ (Nat.le_of_ble_eq_true rfl) dX4_waysAsBad_36 rfl ?_
    show vv_V x vv_TC mm_X4_waysAsBad post 39 [some (.ref (vv_ad x 156)), none, some (.int u2), some (.int u3), some (.long s4), none, some (.int s6)] [.long r7, .long s4] h
    refine rr_aload_n (q := 40) dX4_waysAsBad_39 rfl rfl ?_
    refine gf_X4_42 (q := 43) rfl dX4_waysAsBad_40 rfl ?_
    refine rr_iload_n (q := 44) dX4_waysAsBad_43 rfl rfl ?_
    refine rr_isub (q := 45) dX4_waysAsBad_44 rfl ?_
    refine rr_iload_n (q := 46) dX4_waysAsBad_45 rfl rfl ?_
    refine rr_iload (q := 48) dX4_waysAsBad_46 rfl rfl ?_
    refine rr_isub (q := 49) dX4_waysAsBad_48 rfl ?_
    obtain ⟨r9, k10, hm⟩ := vv_bind hm
    refine rr_callSN (q := 52) (M' := mm_X11_waysToDraw) (As := [.int ((h.1 156 0) - u2), .int (u3 - s6)]) (st := [.long r7, .long s4]) (w := some (.long r9)) rfl rfl (cc_X11_waysToDraw  k10) rfl vy_X11_waysToDraw rfl ⟨Nat.le_of_ble_eq_true rfl, Nat.le_of_ble_eq_true rfl⟩ (Nat.le_of_ble_eq_true rfl) dX4_waysAsBad_49 rfl ?_
    show vv_V x vv_TC mm_X4_waysAsBad post 52 [some (.ref (vv_ad x 156)), none, some (.int u2), some (.int u3), some (.long s4), none, some (.int s6)] [.long r9, .long r7, .long s4] h
    refine rr_lmul (q := 53) dX4_waysAsBad_52 rfl ?_
    refine rr_ladd (q := 54) dX4_waysAsBad_53 rfl ?_
    obtain ⟨w11, c12, hm⟩ := vv_let_of hm
    rw [← c12]
    refine rr_lstore (q := 56) [some (.ref (vv_ad x 156)), none, some (.int u2), some (.int u3), some (.long w11), none, some (.int s6)] dX4_waysAsBad_54 rfl (Nat.le_of_ble_eq_true rfl) rfl rfl ?_
    obtain ⟨w13, c14, hm⟩ := vv_let_of hm
    refine rr_iinc (q := 59) [some (.ref (vv_ad x 156)), none, some (.int u2), some (.int u3), some (.long w11), none, some (.int w13)] dX4_waysAsBad_56 rfl rfl c14.symm (Nat.le_of_ble_eq_true rfl) rfl rfl ?_
    refine rr_goto (tgt := 21) dX4_waysAsBad_59 (by decide) ?_
    obtain rfl := Option.some.inj hm
    exact hI w11 w13 rfl
set_option maxHeartbeats 200000 in
theorem vt_X4_waysAsBad {x : vv_E} {post : Option Value → vv_H → Prop} {h : vv_H} {v1 : Int32} {o : Int64}  (hm : ff_X4_waysAsBad  h v1 = some o) (hp : post (some (.long o)) h) : vv_V x vv_TC mm_X4_waysAsBad post 0 [some (.ref (vv_ad x 156)), some (.int v1), none, none, none, none, none] [] h := by
  unfold ff_X4_waysAsBad at hm
  refine rr_aload_n (q := 1) dX4_waysAsBad_0 rfl rfl ?_
  refine rr_iload_n (q := 2) dX4_waysAsBad_1 rfl rfl ?_
  obtain ⟨r1, k2, hm⟩ := vv_bind hm
  refine rr_callV (q := 5) (M' := mm_X4_countOfLot) (As := [.int v1]) (st := []) (w := some (.int r1)) (cc_X4_countOfLot  k2) rfl ylC_156 ynC_156 rfl vy_X4_countOfLot zw_158 ⟨Nat.le_of_ble_eq_true rfl, Nat.le_of_ble_eq_true rfl⟩ (Nat.le_of_ble_eq_true rfl) dX4_waysAsBad_2 rfl ?_
  show vv_V x vv_TC mm_X4_waysAsBad post 5 [some (.ref (vv_ad x 156)), some (.int v1), none, none, none, none, none] [.int r1] h
  refine rr_istore_n (q := 6) [some (.ref (vv_ad x 156)), some (.int v1), some (.int r1), none, none, none, none] dX4_waysAsBad_5 rfl rfl (Nat.le_of_ble_eq_true rfl) rfl rfl ?_
  refine rr_aload_n (q := 7) dX4_waysAsBad_6 rfl rfl ?_
  obtain ⟨r3, k4, hm⟩ := vv_bind hm
  refine rr_callV (q := 10) (M' := mm_X4_countAllFailed) (As := []) (st := []) (w := some (.int r3)) (cc_X4_countAllFailed  k4) rfl ylC_156 ynC_156 rfl vy_X4_countAllFailed zw_163 ⟨Nat.le_of_ble_eq_true rfl, Nat.le_of_ble_eq_true rfl⟩ (Nat.le_of_ble_eq_true rfl) dX4_waysAsBad_7 rfl ?_
  show vv_V x vv_TC mm_X4_waysAsBad post 10 [some (.ref (vv_ad x 156)), some (.int v1), some (.int r1), none, none, none, none] [.int r3] h
  refine rr_istore_n (q := 11) [some (.ref (vv_ad x 156)), some (.int v1), some (.int r1), some (.int r3), none, none, none] dX4_waysAsBad_10 rfl rfl (Nat.le_of_ble_eq_true rfl) rfl rfl ?_
  refine rr_lconst (q := 12) (v := 0) dX4_waysAsBad_11 rfl (by decide) ?_
  refine rr_lstore (q := 14) [some (.ref (vv_ad x 156)), some (.int v1), some (.int r1), some (.int r3), some (.long (0 : Int64)), none, none] dX4_waysAsBad_12 rfl (Nat.le_of_ble_eq_true rfl) rfl rfl ?_
  refine rr_aload_n (q := 15) dX4_waysAsBad_14 rfl rfl ?_
  refine rr_iload_n (q := 16) dX4_waysAsBad_15 rfl rfl ?_
  obtain ⟨r5, k6, hm⟩ := vv_bind hm
  refine rr_callV (q := 19) (M' := mm_X4_countFailed) (As := [.int v1]) (st := []) (w := some (.int r5)) (cc_X4_countFailed  k6) rfl ylC_156 ynC_156 rfl vy_X4_countFailed zw_168 ⟨Nat.le_of_ble_eq_true rfl, Nat.le_of_ble_eq_true rfl⟩ (Nat.le_of_ble_eq_true rfl) dX4_waysAsBad_16 rfl ?_
  show vv_V x vv_TC mm_X4_waysAsBad post 19 [some (.ref (vv_ad x 156)), some (.int v1), some (.int r1), some (.int r3), some (.long (0 : Int64)), none, none] [.int r5] h
  refine rr_istore (q := 21) [some (.ref (vv_ad x 156)), some (.int v1), some (.int r1), some (.int r3), some (.long (0 : Int64)), none, some (.int r5)] dX4_waysAsBad_19 rfl (Nat.le_of_ble_eq_true rfl) rfl rfl ?_
  refine rr_sub [true, false, true, true, true, false, true] rfl ?_
  obtain ⟨r15, k17, hm⟩ := vv_bind hm
  refine vv_lp_link (P := fun (zs : Int64 × Int32) => vv_V x vv_TC mm_X4_waysAsBad post 21 [some (.ref (vv_ad x 156)), none, some (.int r1), some (.int r3), some (.long zs.1), none, some (.int zs.2)] [] h) (Q := (fun (e16 : (Int64)) => vv_V x vv_TC mm_X4_waysAsBad post 62 [none, none, none, none, some (.long e16), none, none] [] h)) (fun zs o hm hI hX => ?_) vv_F ((0 : Int64), r5) r15 k17 ?_
  · exact vt_X4_waysAsBad_B21   hm (fun z4 z6 e => hI (z4, z6) e) (fun z4 e => hX z4 e)
  · generalize r15 = e16 at hm ⊢
    try dsimp only [Sum.elim_inl, Sum.elim_inr] at hm
    try dsimp only [Sum.elim_inl, Sum.elim_inr]
    refine rr_lload (q := 64) dX4_waysAsBad_62 rfl rfl ?_
    obtain rfl := Option.some.inj hm
    exact rr_lret dX4_waysAsBad_64 rfl hp
theorem cc_X4_waysAsBad {x : vv_E} {h : vv_H} {v1 : Int32} {o : Int64}  (hm : ff_X4_waysAsBad h v1 = some o) : vv_C x vv_TC yX4_waysAsBad mm_X4_waysAsBad [.ref (vv_ad x 156), .int v1] h (fun v g => v = some (.long o) ∧ g = h) := vv_entry (by decide +kernel) rfl (Nat.le_of_ble_eq_true rfl) rfl (vt_X4_waysAsBad  hm ⟨rfl, rfl⟩)
def ff_X5_refuseToken_J18  (z0 : Int32) (h : vv_H) : Option (Int32 × vv_H) := (ff_X10_placeAt h (h.1 55 2)).bind (fun r3 => (ff_X5_refuse h z0 r3).bind (fun r5 => vv_zk r5.1 (some (r5.1, r5.2))))
def ff_X5_refuseToken (h : vv_H) : Option (Int32 × vv_H) := (ff_X10_tokenAt h (h.1 55 2)).bind (fun r1 => (if r1 = (1 : Int32) then ff_X5_refuseToken_J18  (1 : Int32) h else ff_X5_refuseToken_J18  (2 : Int32) h))
set_option maxHeartbeats 200000 in
theorem vt_X5_refuseToken_J18 {x : vv_E} {post : Option Value → vv_H → Prop}   {z0 : Int32} {h : vv_H} {o : Int32 × vv_H}  (hm : ff_X5_refuseToken_J18  z0 h = some o) (hp : post (some (.int o.1)) o.2) : vv_V x vv_TC mm_X5_refuseToken post 18 [some (.ref (vv_ad x 55)), some (.ref (vv_ad x 50))] [.int z0, .ref (vv_ad x 55)] h := by
  unfold ff_X5_refuseToken_J18 at hm
  refine rr_aload_n (q := 19) dX5_refuseToken_18 rfl rfl ?_
  refine rr_aload_n (q := 20) dX5_refuseToken_19 rfl rfl ?_
  refine gf_X5_18 (q := 23) rfl dX5_refuseToken_20 rfl ?_
  obtain ⟨r3, k4, hm⟩ := vv_bind hm
  refine rr_callV (q := 26) (M' := mm_X10_placeAt) (As := [.int (h.1 55 2)]) (st := [.int z0, .ref (vv_ad x 55)]) (w := some (.int r3)) (cc_X10_placeAt  k4) rfl ylC_50 ynC_50 rfl vy_X10_placeAt zw_183 ⟨Nat.le_of_ble_eq_true rfl, Nat.le_of_ble_eq_true rfl⟩ (Nat.le_of_ble_eq_true rfl) dX5_refuseToken_23 rfl ?_
  show vv_V x vv_TC mm_X5_refuseToken post 26 [some (.ref (vv_ad x 55)), some (.ref (vv_ad x 50))] [.int r3, .int z0, .ref (vv_ad x 55)] h
  obtain ⟨r5, k6, hm⟩ := vv_bind hm
  refine rr_callV (q := 29) (M' := mm_X5_refuse) (As := [.int z0, .int r3]) (st := []) (w := some (.int r5.1)) (cc_X5_refuse  k6) rfl ylC_55 ynC_55 rfl vy_X5_refuse zw_188 ⟨Nat.le_of_ble_eq_true rfl, Nat.le_of_ble_eq_true rfl⟩ (Nat.le_of_ble_eq_true rfl) dX5_refuseToken_26 rfl ?_
  show vv_V x vv_TC mm_X5_refuseToken post 29 [some (.ref (vv_ad x 55)), some (.ref (vv_ad x 50))] [.int r5.1] r5.2
  obtain ⟨c7, hm⟩ := vv_zk_of hm
  obtain rfl := Option.some.inj hm
  exact rr_zret dX5_refuseToken_29 rfl c7 hp
set_option maxHeartbeats 200000 in
theorem vt_X5_refuseToken {x : vv_E} {post : Option Value → vv_H → Prop} {h : vv_H} {o : Int32 × vv_H}  (hm : ff_X5_refuseToken  h = some o) (hp : post (some (.int o.1)) o.2) : vv_V x vv_TC mm_X5_refuseToken post 0 [some (.ref (vv_ad x 55)), some (.ref (vv_ad x 50))] [] h := by
  unfold ff_X5_refuseToken at hm
  refine rr_aload_n (q := 1) dX5_refuseToken_0 rfl rfl ?_
  refine rr_aload_n (q := 2) dX5_refuseToken_1 rfl rfl ?_
  refine rr_aload_n (q := 3) dX5_refuseToken_2 rfl rfl ?_
  refine gf_X5_18 (q := 6) rfl dX5_refuseToken_3 rfl ?_
  obtain ⟨r1, k2, hm⟩ := vv_bind hm
  refine rr_callV (q := 9) (M' := mm_X10_tokenAt) (As := [.int (h.1 55 2)]) (st := [.ref (vv_ad x 55)]) (w := some (.int r1)) (cc_X10_tokenAt  k2) rfl ylC_50 ynC_50 rfl vy_X10_tokenAt zw_178 ⟨Nat.le_of_ble_eq_true rfl, Nat.le_of_ble_eq_true rfl⟩ (Nat.le_of_ble_eq_true rfl) dX5_refuseToken_6 rfl ?_
  show vv_V x vv_TC mm_X5_refuseToken post 9 [some (.ref (vv_ad x 55)), some (.ref (vv_ad x 50))] [.int r1, .ref (vv_ad x 55)] h
  refine rr_iconst (q := 10) (v := 1) dX5_refuseToken_9 rfl (by decide) ?_
  refine rr_icmp_ne (q := 13) (tgt := 17) dX5_refuseToken_10 (by decide) rfl hm (fun hm => ?_) (fun hm => ?_)
  · refine rr_iconst (q := 18) (v := 2) dX5_refuseToken_17 rfl (by decide) ?_
    exact vt_X5_refuseToken_J18  hm hp
  · refine rr_iconst (q := 14) (v := 1) dX5_refuseToken_13 rfl (by decide) ?_
    refine rr_goto (tgt := 18) dX5_refuseToken_14 (by decide) ?_
    exact vt_X5_refuseToken_J18  hm hp
theorem cc_X5_refuseToken {x : vv_E} {h : vv_H} {o : Int32 × vv_H}  (hm : ff_X5_refuseToken h = some o) : vv_C x vv_TC yX5_refuseToken mm_X5_refuseToken [.ref (vv_ad x 55), .ref (vv_ad x 50)] h (fun v g => v = some (.int o.1) ∧ g = o.2) := vv_entry (by decide +kernel) rfl (Nat.le_of_ble_eq_true rfl) rfl (vt_X5_refuseToken  hm ⟨rfl, rfl⟩)
def ff_X6_lineDue_J55  (b0 : Bool) (t1 : Nat) (n1 : Nat) (u2 : Int32) (u3 : Int32) (m4 : Int32) (m5 : Int32) (z0 : Int32) (h : vv_H) : Option ((Int32 × Int32) ⊕ ((Int32))) := (if z0 = 0 then vv_let (m5 + 1) (fun w2 => some (.inl (m4, w2))) else (ff_X6_holds h b0 m5 t1 n1).bind (fun r4 => (if r4 = 0 then vv_let (m5 + 1) (fun w6 => some (.inl (m4, w6))) else (if m4 < 0 then vv_let (m5 + 1) (fun w8 => some (.inl (m5, w8))) else vv_ck m5 12 (vv_ck m4 12 ((if (h.1 (vv_rid b0 + 4) m5.toNatClampNeg) ≤ (h.1 (vv_rid b0 + 4) m4.toNatClampNeg) then vv_let (m5 + 1) (fun w12 => some (.inl (m4, w12))) else vv_let (m5 + 1) (fun w14 => some (.inl (m5, w14))))))))))
def ff_X6_lineDue_J54  (b0 : Bool) (t1 : Nat) (n1 : Nat) (u2 : Int32) (u3 : Int32) (m4 : Int32) (m5 : Int32) (h : vv_H) : Option ((Int32 × Int32) ⊕ ((Int32))) := ff_X6_lineDue_J55  b0 t1 n1 u2 u3 m4 m5 (0 : Int32) h
def ff_X6_lineDue_B7 (b0 : Bool) (t1 : Nat) (n1 : Nat) (u2 : Int32) (u3 : Int32) (h : vv_H) (s4 : Int32) (s5 : Int32) : Option ((Int32 × Int32) ⊕ ((Int32))) := (if (h.1 (vv_rid b0) 0) ≤ s5 then some (.inr s4) else vv_ck s5 12 ((if (h.1 (vv_rid b0 + 1) s5.toNatClampNeg) = (8 : Int32) then vv_ck s5 12 ((if (h.1 (vv_rid b0 + 3) s5.toNatClampNeg) = u2 then vv_ck s5 12 ((if u3 < (h.1 (vv_rid b0 + 2) s5.toNatClampNeg) then ff_X6_lineDue_J54  b0 t1 n1 u2 u3 s4 s5 h else ff_X6_lineDue_J55  b0 t1 n1 u2 u3 s4 s5 (1 : Int32) h)) else ff_X6_lineDue_J54  b0 t1 n1 u2 u3 s4 s5 h)) else ff_X6_lineDue_J54  b0 t1 n1 u2 u3 s4 s5 h)))
def ff_X6_lineDue (h : vv_H) (b0 : Bool) (t1 : Nat) (n1 : Nat) (v2 : Int32) (v3 : Int32) : Option (Int32) := (vv_lp (fun (zs : Int32 × Int32) => ff_X6_lineDue_B7  b0 t1 n1 v2 v3 h zs.1 zs.2) vv_F ((-4 : Int32), (0 : Int32))).bind (fun (e19 : (Int32)) => some e19)
set_option maxHeartbeats 200000 in
theorem vt_X6_lineDue_J55 {x : vv_E} {post : Option Value → vv_H → Prop}   {b0 : Bool} {t1 : Nat} {n1 : Nat} {u2 : Int32} {u3 : Int32} {m4 : Int32} {m5 : Int32} {z0 : Int32} {h : vv_H} {o : (Int32 × Int32) ⊕ ((Int32))} (hl1 : vv_TC.1 t1 = (1, n1, [])) (hk1 : t1 < vv_TC.2) (hm : ff_X6_lineDue_J55  b0 t1 n1 u2 u3 m4 m5 z0 h = some o) (hI : ∀ (z4 : Int32) (z5 : Int32) , o = .inl (z4, z5) → vv_V x vv_TC mm_X6_lineDue post 7 [some (.ref (vv_ad x (vv_rid b0))), some (.ref (vv_ad x t1)), some (.int u2), some (.int u3), some (.int z4), some (.int z5), none] [] h) (hX0 : ∀ (z4 : Int32), o = .inr z4 → vv_V x vv_TC mm_X6_lineDue post 104 [none, none, none, none, some (.int z4), none, none] [] h) : vv_V x vv_TC mm_X6_lineDue post 55 [some (.ref (vv_ad x (vv_rid b0))), some (.ref (vv_ad x t1)), some (.int u2), some (.int u3), some (.int m4), some (.int m5), none] [.int z0] h := by
  unfold ff_X6_lineDue_J55 at hm
  refine rr_istore (q := 57) [some (.ref (vv_ad x (vv_rid b0))), some (.ref (vv_ad x t1)), some (.int u2), some (.int u3), some (.int m4), some (.int m5), some (.int z0)] dX6_lineDue_55 rfl (Nat.le_of_ble_eq_true rfl) rfl rfl ?_
  refine rr_iload (q := 59) dX6_lineDue_57 rfl rfl ?_
  refine rr_if_eq (q := 62) (tgt := 98) dX6_lineDue_59 (by decide) rfl hm (fun hm => ?_) (fun hm => ?_)
  · obtain ⟨w2, c3, hm⟩ := vv_let_of hm
    refine rr_iinc (q := 101) [some (.ref (vv_ad x (vv_rid b0))), some (.ref (vv_ad x t1)), some (.int u2), some (.int u3), some (.int m4), some (.int w2), some (.int z0)] dX6_lineDue_98 rfl rfl c3.symm (Nat.le_of_ble_eq_true rfl) rfl rfl ?_
    refine rr_goto (tgt := 7) dX6_lineDue_101 (by decide) ?_
    obtain rfl := Option.some.inj hm
    refine rr_sub [true, true, true, true, true, true, false] rfl ?_
    exact hI m4 w2 rfl
  · refine rr_aload_n (q := 63) dX6_lineDue_62 rfl rfl ?_
    refine rr_iload (q := 65) dX6_lineDue_63 rfl rfl ?_
    refine rr_aload_n (q := 66) dX6_lineDue_65 rfl rfl ?_
    obtain ⟨r4, k5, hm⟩ := vv_bind hm
    refine rr_callV (q := 69) (M' := mm_X6_holds) (As := [.int m5, .ref (vv_ad x t1)]) (st := []) (w := some (.int r4)) (cc_X6_holds hl1 hk1 k5) rfl (yr_0 b0).1 (yr_0 b0).2 rfl vy_X6_holds zw_193 ⟨Nat.le_of_ble_eq_true rfl, Nat.le_of_ble_eq_true rfl⟩ (Nat.le_of_ble_eq_true rfl) dX6_lineDue_66 rfl ?_
    show vv_V x vv_TC mm_X6_lineDue post 69 [some (.ref (vv_ad x (vv_rid b0))), some (.ref (vv_ad x t1)), some (.int u2), some (.int u3), some (.int m4), some (.int m5), some (.int z0)] [.int r4] h
    refine rr_if_eq (q := 72) (tgt := 98) dX6_lineDue_69 (by decide) rfl hm (fun hm => ?_) (fun hm => ?_)
    · obtain ⟨w6, c7, hm⟩ := vv_let_of hm
      refine rr_iinc (q := 101) [some (.ref (vv_ad x (vv_rid b0))), some (.ref (vv_ad x t1)), some (.int u2), some (.int u3), some (.int m4), some (.int w6), some (.int z0)] dX6_lineDue_98 rfl rfl c7.symm (Nat.le_of_ble_eq_true rfl) rfl rfl ?_
      refine rr_goto (tgt := 7) dX6_lineDue_101 (by decide) ?_
      obtain rfl := Option.some.inj hm
      refine rr_sub [true, true, true, true, true, true, false] rfl ?_
      exact hI m4 w6 rfl
    · refine rr_iload (q := 74) dX6_lineDue_72 rfl rfl ?_
      refine rr_if_lt (q := 77) (tgt := 94) dX6_lineDue_74 (by decide) rfl hm (fun hm => ?_) (fun hm => ?_)
      · refine rr_iload (q := 96) dX6_lineDue_94 rfl rfl ?_
        refine rr_istore (q := 98) [some (.ref (vv_ad x (vv_rid b0))), some (.ref (vv_ad x t1)), some (.int u2), some (.int u3), some (.int m5), some (.int m5), some (.int z0)] dX6_lineDue_96 rfl (Nat.le_of_ble_eq_true rfl) rfl rfl ?_
        obtain ⟨w8, c9, hm⟩ := vv_let_of hm
        refine rr_iinc (q := 101) [some (.ref (vv_ad x (vv_rid b0))), some (.ref (vv_ad x t1)), some (.int u2), some (.int u3), some (.int m5), some (.int w8), some (.int z0)] dX6_lineDue_98 rfl rfl c9.symm (Nat.le_of_ble_eq_true rfl) rfl rfl ?_
        refine rr_goto (tgt := 7) dX6_lineDue_101 (by decide) ?_
        obtain rfl := Option.some.inj hm
        refine rr_sub [true, true, true, true, true, true, false] rfl ?_
        exact hI m5 w8 rfl
      · refine rr_aload_n (q := 78) dX6_lineDue_77 rfl rfl ?_
        refine gf_X6_21 (q := 81) rfl dX6_lineDue_78 rfl ?_
        refine rr_iload (q := 83) dX6_lineDue_81 rfl rfl ?_
        obtain ⟨c10, hm⟩ := vv_ck_of hm
        refine rr_iald (q := 84) (yr_4 b0).1 (yr_4 b0).2 c10 dX6_lineDue_83 rfl ?_
        refine rr_aload_n (q := 85) dX6_lineDue_84 rfl rfl ?_
        refine gf_X6_21 (q := 88) rfl dX6_lineDue_85 rfl ?_
        refine rr_iload (q := 90) dX6_lineDue_88 rfl rfl ?_
        obtain ⟨c11, hm⟩ := vv_ck_of hm
        refine rr_iald (q := 91) (yr_4 b0).1 (yr_4 b0).2 c11 dX6_lineDue_90 rfl ?_
        refine rr_icmp_le (q := 94) (tgt := 98) dX6_lineDue_91 (by decide) rfl hm (fun hm => ?_) (fun hm => ?_)
        · obtain ⟨w12, c13, hm⟩ := vv_let_of hm
          refine rr_iinc (q := 101) [some (.ref (vv_ad x (vv_rid b0))), some (.ref (vv_ad x t1)), some (.int u2), some (.int u3), some (.int m4), some (.int w12), some (.int z0)] dX6_lineDue_98 rfl rfl c13.symm (Nat.le_of_ble_eq_true rfl) rfl rfl ?_
          refine rr_goto (tgt := 7) dX6_lineDue_101 (by decide) ?_
          obtain rfl := Option.some.inj hm
          refine rr_sub [true, true, true, true, true, true, false] rfl ?_
          exact hI m4 w12 rfl
        · refine rr_iload (q := 96) dX6_lineDue_94 rfl rfl ?_
          refine rr_istore (q := 98) [some (.ref (vv_ad x (vv_rid b0))), some (.ref (vv_ad x t1)), some (.int u2), some (.int u3), some (.int m5), some (.int m5), some (.int z0)] dX6_lineDue_96 rfl (Nat.le_of_ble_eq_true rfl) rfl rfl ?_
          obtain ⟨w14, c15, hm⟩ := vv_let_of hm
          refine rr_iinc (q := 101) [some (.ref (vv_ad x (vv_rid b0))), some (.ref (vv_ad x t1)), some (.int u2), some (.int u3), some (.int m5), some (.int w14), some (.int z0)] dX6_lineDue_98 rfl rfl c15.symm (Nat.le_of_ble_eq_true rfl) rfl rfl ?_
          refine rr_goto (tgt := 7) dX6_lineDue_101 (by decide) ?_
          obtain rfl := Option.some.inj hm
          refine rr_sub [true, true, true, true, true, true, false] rfl ?_
          exact hI m5 w14 rfl
set_option maxHeartbeats 200000 in
theorem vt_X6_lineDue_J54 {x : vv_E} {post : Option Value → vv_H → Prop}   {b0 : Bool} {t1 : Nat} {n1 : Nat} {u2 : Int32} {u3 : Int32} {m4 : Int32} {m5 : Int32} {h : vv_H} {o : (Int32 × Int32) ⊕ ((Int32))} (hl1 : vv_TC.1 t1 = (1, n1, [])) (hk1 : t1 < vv_TC.2) (hm : ff_X6_lineDue_J54  b0 t1 n1 u2 u3 m4 m5 h = some o) (hI : ∀ (z4 : Int32) (z5 : Int32) , o = .inl (z4, z5) → vv_V x vv_TC mm_X6_lineDue post 7 [some (.ref (vv_ad x (vv_rid b0))), some (.ref (vv_ad x t1)), some (.int u2), some (.int u3), some (.int z4), some (.int z5), none] [] h) (hX0 : ∀ (z4 : Int32), o = .inr z4 → vv_V x vv_TC mm_X6_lineDue post 104 [none, none, none, none, some (.int z4), none, none] [] h) : vv_V x vv_TC mm_X6_lineDue post 54 [some (.ref (vv_ad x (vv_rid b0))), some (.ref (vv_ad x t1)), some (.int u2), some (.int u3), some (.int m4), some (.int m5), none] [] h := by
  unfold ff_X6_lineDue_J54 at hm
  refine rr_iconst (q := 55) (v := 0) dX6_lineDue_54 rfl (by decide) ?_
  exact vt_X6_lineDue_J55 hl1 hk1 hm hI hX0
set_option maxHeartbeats 200000 in
theorem vt_X6_lineDue_B7 {x : vv_E} {post : Option Value → vv_H → Prop} {b0 : Bool} {t1 : Nat} {n1 : Nat} {u2 : Int32} {u3 : Int32} {h : vv_H} {s4 : Int32} {s5 : Int32} {o : (Int32 × Int32) ⊕ ((Int32))} (hl1 : vv_TC.1 t1 = (1, n1, [])) (hk1 : t1 < vv_TC.2) (hm : ff_X6_lineDue_B7  b0 t1 n1 u2 u3 h s4 s5 = some o) (hI : ∀ (z4 : Int32) (z5 : Int32) , o = .inl (z4, z5) → vv_V x vv_TC mm_X6_lineDue post 7 [some (.ref (vv_ad x (vv_rid b0))), some (.ref (vv_ad x t1)), some (.int u2), some (.int u3), some (.int z4), some (.int z5), none] [] h) (hX0 : ∀ (z4 : Int32), o = .inr z4 → vv_V x vv_TC mm_X6_lineDue post 104 [none, none, none, none, some (.int z4), none, none] [] h) : vv_V x vv_TC mm_X6_lineDue post 7 [some (.ref (vv_ad x (vv_rid b0))), some (.ref (vv_ad x t1)), some (.int u2), some (.int u3), some (.int s4), some (.int s5), none] [] h := by
  unfold ff_X6_lineDue_B7 at hm
  refine rr_iload (q := 9) dX6_lineDue_7 rfl rfl ?_
  refine rr_aload_n (q := 10) dX6_lineDue_9 rfl rfl ?_
  refine gf_X6_38 (q := 13) rfl dX6_lineDue_10 rfl ?_
  refine rr_icmp_ge (q := 16) (tgt := 104) dX6_lineDue_13 (by decide) rfl hm (fun hm => ?_) (fun hm => ?_)
  · obtain rfl := Option.some.inj hm
    refine rr_sub [false, false, false, false, true, false, false] rfl ?_
    exact hX0 s4 rfl
  · refine rr_aload_n (q := 17) dX6_lineDue_16 rfl rfl ?_
    refine gf_X6_9 (q := 20) rfl dX6_lineDue_17 rfl ?_
    refine rr_iload (q := 22) dX6_lineDue_20 rfl rfl ?_
    obtain ⟨c1, hm⟩ := vv_ck_of hm
    refine rr_iald (q := 23) (yr_1 b0).1 (yr_1 b0).2 c1 dX6_lineDue_22 rfl ?_
    refine rr_bipush (q := 25) (v := 8) dX6_lineDue_23 rfl (by decide) ?_
    refine rr_icmp_ne (q := 28) (tgt := 54) dX6_lineDue_25 (by decide) rfl hm (fun hm => ?_) (fun hm => ?_)
    · exact vt_X6_lineDue_J54 hl1 hk1 hm hI hX0
    · refine rr_aload_n (q := 29) dX6_lineDue_28 rfl rfl ?_
      refine gf_X6_18 (q := 32) rfl dX6_lineDue_29 rfl ?_
      refine rr_iload (q := 34) dX6_lineDue_32 rfl rfl ?_
      obtain ⟨c16, hm⟩ := vv_ck_of hm
      refine rr_iald (q := 35) (yr_3 b0).1 (yr_3 b0).2 c16 dX6_lineDue_34 rfl ?_
      refine rr_iload_n (q := 36) dX6_lineDue_35 rfl rfl ?_
      refine rr_icmp_ne (q := 39) (tgt := 54) dX6_lineDue_36 (by decide) rfl hm (fun hm => ?_) (fun hm => ?_)
      · exact vt_X6_lineDue_J54 hl1 hk1 hm hI hX0
      · refine rr_aload_n (q := 40) dX6_lineDue_39 rfl rfl ?_
        refine gf_X6_15 (q := 43) rfl dX6_lineDue_40 rfl ?_
        refine rr_iload (q := 45) dX6_lineDue_43 rfl rfl ?_
        obtain ⟨c17, hm⟩ := vv_ck_of hm
        refine rr_iald (q := 46) (yr_2 b0).1 (yr_2 b0).2 c17 dX6_lineDue_45 rfl ?_
        refine rr_iload_n (q := 47) dX6_lineDue_46 rfl rfl ?_
        refine rr_icmp_gt (q := 50) (tgt := 54) dX6_lineDue_47 (by decide) rfl hm (fun hm => ?_) (fun hm => ?_)
        · exact vt_X6_lineDue_J54 hl1 hk1 hm hI hX0
        · refine rr_iconst (q := 51) (v := 1) dX6_lineDue_50 rfl (by decide) ?_
          refine rr_goto (tgt := 55) dX6_lineDue_51 (by decide) ?_
          exact vt_X6_lineDue_J55 hl1 hk1 hm hI hX0
set_option maxHeartbeats 200000 in
theorem vt_X6_lineDue {x : vv_E} {post : Option Value → vv_H → Prop} {h : vv_H} {b0 : Bool} {t1 : Nat} {n1 : Nat} {v2 : Int32} {v3 : Int32} {o : Int32} (hl1 : vv_TC.1 t1 = (1, n1, [])) (hk1 : t1 < vv_TC.2) (hm : ff_X6_lineDue  h b0 t1 n1 v2 v3 = some o) (hp : post (some (.int o)) h) : vv_V x vv_TC mm_X6_lineDue post 0 [some (.ref (vv_ad x (vv_rid b0))), some (.ref (vv_ad x t1)), some (.int v2), some (.int v3), none, none, none] [] h := by
  unfold ff_X6_lineDue at hm
  refine rr_bipush (q := 2) (v := -4) dX6_lineDue_0 rfl (by decide) ?_
  refine rr_istore (q := 4) [some (.ref (vv_ad x (vv_rid b0))), some (.ref (vv_ad x t1)), some (.int v2), some (.int v3), some (.int (-4 : Int32)), none, none] dX6_lineDue_2 rfl (Nat.le_of_ble_eq_true rfl) rfl rfl ?_
  refine rr_iconst (q := 5) (v := 0) dX6_lineDue_4 rfl (by decide) ?_
  refine rr_istore (q := 7) [some (.ref (vv_ad x (vv_rid b0))), some (.ref (vv_ad x t1)), some (.int v2), some (.int v3), some (.int (-4 : Int32)), some (.int (0 : Int32)), none] dX6_lineDue_5 rfl (Nat.le_of_ble_eq_true rfl) rfl rfl ?_
  obtain ⟨r18, k20, hm⟩ := vv_bind hm
  refine vv_lp_link (P := fun (zs : Int32 × Int32) => vv_V x vv_TC mm_X6_lineDue post 7 [some (.ref (vv_ad x (vv_rid b0))), some (.ref (vv_ad x t1)), some (.int v2), some (.int v3), some (.int zs.1), some (.int zs.2), none] [] h) (Q := (fun (e19 : (Int32)) => vv_V x vv_TC mm_X6_lineDue post 104 [none, none, none, none, some (.int e19), none, none] [] h)) (fun zs o hm hI hX => ?_) vv_F ((-4 : Int32), (0 : Int32)) r18 k20 ?_
  · exact vt_X6_lineDue_B7 hl1 hk1  hm (fun z4 z5 e => hI (z4, z5) e) (fun z4 e => hX z4 e)
  · generalize r18 = e19 at hm ⊢
    try dsimp only [Sum.elim_inl, Sum.elim_inr] at hm
    try dsimp only [Sum.elim_inl, Sum.elim_inr]
    refine rr_iload (q := 106) dX6_lineDue_104 rfl rfl ?_
    obtain rfl := Option.some.inj hm
    exact rr_iret dX6_lineDue_106 rfl hp
theorem cc_X6_lineDue {x : vv_E} {h : vv_H} {b0 : Bool} {t1 : Nat} {n1 : Nat} {v2 : Int32} {v3 : Int32} {o : Int32} (hl1 : vv_TC.1 t1 = (1, n1, [])) (hk1 : t1 < vv_TC.2) (hm : ff_X6_lineDue h b0 t1 n1 v2 v3 = some o) : vv_C x vv_TC yX6_lineDue mm_X6_lineDue [.ref (vv_ad x (vv_rid b0)), .ref (vv_ad x t1), .int v2, .int v3] h (fun v g => v = some (.int o) ∧ g = h) := vv_entry (by decide +kernel) rfl (Nat.le_of_ble_eq_true rfl) rfl (vt_X6_lineDue hl1 hk1 hm ⟨rfl, rfl⟩)
