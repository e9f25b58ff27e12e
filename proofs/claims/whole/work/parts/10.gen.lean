def ff_X0_has (h : vv_H) (v1 : Int32) : Option (Int32) := (if v1 < 0 then some (0 : Int32) else (if (h.1 1 0) ≤ v1 then some (0 : Int32) else some (1 : Int32)))
set_option maxHeartbeats 2000000 in
theorem vt_X0_has {x : vv_E} {post : Option Value → vv_H → Prop} {h : vv_H} {v1 : Int32} {o : Int32}  (hm : ff_X0_has  h v1 = some o) (hp : post (some (.int o)) h) : vv_V x vv_TC mm_X0_has post 0 [some (.ref (vv_ad x 1)), some (.int v1)] [] h := by
  unfold ff_X0_has at hm
  refine rr_iload_n (q := 1) dX0_has_0 rfl rfl ?_
  refine rr_if_lt (q := 4) (tgt := 16) dX0_has_1 (by decide) rfl hm (fun hm => ?_) (fun hm => ?_)
  · refine rr_iconst (q := 17) (v := 0) dX0_has_16 rfl (by decide) ?_
    cases hm
    exact rr_zret dX0_has_17 rfl rfl hp
  · refine rr_iload_n (q := 5) dX0_has_4 rfl rfl ?_
    refine rr_aload_n (q := 6) dX0_has_5 rfl rfl ?_
    refine gf_X0_20 (q := 9) rfl dX0_has_6 rfl ?_
    refine rr_icmp_ge (q := 12) (tgt := 16) dX0_has_9 (by decide) rfl hm (fun hm => ?_) (fun hm => ?_)
    · refine rr_iconst (q := 17) (v := 0) dX0_has_16 rfl (by decide) ?_
      cases hm
      exact rr_zret dX0_has_17 rfl rfl hp
    · refine rr_iconst (q := 13) (v := 1) dX0_has_12 rfl (by decide) ?_
      refine rr_goto (tgt := 17) dX0_has_13 (by decide) ?_
      cases hm
      exact rr_zret dX0_has_17 rfl rfl hp
theorem cc_X0_has {x : vv_E} {h : vv_H} {v1 : Int32} {o : Int32}  (hm : ff_X0_has h v1 = some o) : vv_C x vv_TC yX0_has mm_X0_has [.ref (vv_ad x 1), .int v1] h (fun v g => v = some (.int o) ∧ g = h) := vv_entry (by decide +kernel) rfl (Nat.le_of_ble_eq_true rfl) rfl (vt_X0_has  hm ⟨rfl, rfl⟩)
def ff_X2_add (h : vv_H) (v1 : Int32) (v2 : Int32) (v3 : Int32) (v4 : Int32) (v5 : Int32) : Option (Int32 × vv_H) := (if (h.1 16 0) < (60 : Int32) then vv_ck (h.1 16 0) 60 (vv_let (vv_iu h 17 (h.1 16 0).toNatClampNeg v1) (fun g2 => vv_ck (g2.1 16 0) 60 (vv_let (vv_iu g2 18 (g2.1 16 0).toNatClampNeg v2) (fun g5 => vv_ck (g5.1 16 0) 60 (vv_let (vv_iu g5 19 (g5.1 16 0).toNatClampNeg v3) (fun g8 => vv_ck (g8.1 16 0) 60 (vv_let (vv_iu g8 20 (g8.1 16 0).toNatClampNeg v4) (fun g11 => vv_ck (g11.1 16 0) 60 (vv_let (vv_iu g11 21 (g11.1 16 0).toNatClampNeg v5) (fun g14 => vv_let (vv_iu g14 16 0 ((g14.1 16 0) + (1 : Int32))) (fun g16 => some ((g16.1 16 0), g16)))))))))))) else some ((-3 : Int32), h))
set_option maxHeartbeats 2000000 in
theorem vt_X2_add {x : vv_E} {post : Option Value → vv_H → Prop} {h : vv_H} {v1 : Int32} {v2 : Int32} {v3 : Int32} {v4 : Int32} {v5 : Int32} {o : Int32 × vv_H}  (hm : ff_X2_add  h v1 v2 v3 v4 v5 = some o) (hp : post (some (.int o.1)) o.2) : vv_V x vv_TC mm_X2_add post 0 [some (.ref (vv_ad x 16)), some (.int v1), some (.int v2), some (.int v3), some (.int v4), some (.int v5)] [] h := by
  unfold ff_X2_add at hm
  refine rr_aload_n (q := 1) dX2_add_0 rfl rfl ?_
  refine gf_X2_27 (q := 4) rfl dX2_add_1 rfl ?_
  refine rr_bipush (q := 6) (v := 60) dX2_add_4 rfl (by decide) ?_
  refine rr_icmp_lt (q := 9) (tgt := 12) dX2_add_6 (by decide) rfl hm (fun hm => ?_) (fun hm => ?_)
  · refine rr_aload_n (q := 13) dX2_add_12 rfl rfl ?_
    refine gf_X2_9 (q := 16) rfl dX2_add_13 rfl ?_
    refine rr_aload_n (q := 17) dX2_add_16 rfl rfl ?_
    refine gf_X2_27 (q := 20) rfl dX2_add_17 rfl ?_
    refine rr_iload_n (q := 21) dX2_add_20 rfl rfl ?_
    obtain ⟨c1, hm⟩ := vv_ck_of hm
    obtain ⟨g2, c3, hm⟩ := vv_let_of hm
    refine rr_iast (q := 22) ylC_17 ynC_17 c1 dX2_add_21 rfl ?_
    rw [← c3]
    refine rr_aload_n (q := 23) dX2_add_22 rfl rfl ?_
    refine gf_X2_15 (q := 26) rfl dX2_add_23 rfl ?_
    refine rr_aload_n (q := 27) dX2_add_26 rfl rfl ?_
    refine gf_X2_27 (q := 30) rfl dX2_add_27 rfl ?_
    refine rr_iload_n (q := 31) dX2_add_30 rfl rfl ?_
    obtain ⟨c4, hm⟩ := vv_ck_of hm
    obtain ⟨g5, c6, hm⟩ := vv_let_of hm
    refine rr_iast (q := 32) ylC_18 ynC_18 c4 dX2_add_31 rfl ?_
    rw [← c6]
    refine rr_aload_n (q := 33) dX2_add_32 rfl rfl ?_
    refine gf_X2_18 (q := 36) rfl dX2_add_33 rfl ?_
    refine rr_aload_n (q := 37) dX2_add_36 rfl rfl ?_
    refine gf_X2_27 (q := 40) rfl dX2_add_37 rfl ?_
    refine rr_iload_n (q := 41) dX2_add_40 rfl rfl ?_
    obtain ⟨c7, hm⟩ := vv_ck_of hm
    obtain ⟨g8, c9, hm⟩ := vv_let_of hm
    refine rr_iast (q := 42) ylC_19 ynC_19 c7 dX2_add_41 rfl ?_
    rw [← c9]
    refine rr_aload_n (q := 43) dX2_add_42 rfl rfl ?_
    refine gf_X2_21 (q := 46) rfl dX2_add_43 rfl ?_
    refine rr_aload_n (q := 47) dX2_add_46 rfl rfl ?_
    refine gf_X2_27 (q := 50) rfl dX2_add_47 rfl ?_
    refine rr_iload (q := 52) dX2_add_50 rfl rfl ?_
    obtain ⟨c10, hm⟩ := vv_ck_of hm
    obtain ⟨g11, c12, hm⟩ := vv_let_of hm
    refine rr_iast (q := 53) ylC_20 ynC_20 c10 dX2_add_52 rfl ?_
    rw [← c12]
    refine rr_aload_n (q := 54) dX2_add_53 rfl rfl ?_
    refine gf_X2_24 (q := 57) rfl dX2_add_54 rfl ?_
    refine rr_aload_n (q := 58) dX2_add_57 rfl rfl ?_
    refine gf_X2_27 (q := 61) rfl dX2_add_58 rfl ?_
    refine rr_iload (q := 63) dX2_add_61 rfl rfl ?_
    obtain ⟨c13, hm⟩ := vv_ck_of hm
    obtain ⟨g14, c15, hm⟩ := vv_let_of hm
    refine rr_iast (q := 64) ylC_21 ynC_21 c13 dX2_add_63 rfl ?_
    rw [← c15]
    refine rr_aload_n (q := 65) dX2_add_64 rfl rfl ?_
    refine rr_dup (q := 66) dX2_add_65 rfl rfl ?_
    refine gf_X2_27 (q := 69) rfl dX2_add_66 rfl ?_
    refine rr_iconst (q := 70) (v := 1) dX2_add_69 rfl (by decide) ?_
    refine rr_iadd (q := 71) dX2_add_70 rfl ?_
    refine pf_X2_27 (q := 74) rfl dX2_add_71 rfl (fun g16 c17 => ?_)
    replace hm := vv_letE hm c17
    refine rr_aload_n (q := 75) dX2_add_74 rfl rfl ?_
    refine gf_X2_27 (q := 78) rfl dX2_add_75 rfl ?_
    cases hm
    exact rr_iret dX2_add_78 rfl hp
  · refine rr_bipush (q := 11) (v := -3) dX2_add_9 rfl (by decide) ?_
    cases hm
    exact rr_iret dX2_add_11 rfl hp
theorem cc_X2_add {x : vv_E} {h : vv_H} {v1 : Int32} {v2 : Int32} {v3 : Int32} {v4 : Int32} {v5 : Int32} {o : Int32 × vv_H}  (hm : ff_X2_add h v1 v2 v3 v4 v5 = some o) : vv_C x vv_TC yX2_add mm_X2_add [.ref (vv_ad x 16), .int v1, .int v2, .int v3, .int v4, .int v5] h (fun v g => v = some (.int o.1) ∧ g = o.2) := vv_entry (by decide +kernel) rfl (Nat.le_of_ble_eq_true rfl) rfl (vt_X2_add  hm ⟨rfl, rfl⟩)
def ff_X2_asKnown_J68  (u1 : Int32) (u2 : Int32) (u3 : Int32) (u4 : Int32) (m5 : Int32) (m6 : Int32) (m7 : Int32) (z0 : Int32) (h : vv_H) : Option ((Int32 × Int32 × Int32) ⊕ ((Int32))) := (if z0 = 0 then vv_let (m7 + 1) (fun w2 => some (.inl (m5, m6, w2))) else vv_ck m7 60 ((if (h.1 20 m7.toNatClampNeg) < m6 then vv_let (m7 + 1) (fun w5 => some (.inl (m5, m6, w5))) else vv_ck m7 60 (vv_let (h.1 19 m7.toNatClampNeg) (fun w8 => vv_ck m7 60 (vv_let (h.1 20 m7.toNatClampNeg) (fun w11 => vv_let (m7 + 1) (fun w13 => some (.inl (w8, w11, w13))))))))))
def ff_X2_asKnown_J67  (u1 : Int32) (u2 : Int32) (u3 : Int32) (u4 : Int32) (m5 : Int32) (m6 : Int32) (m7 : Int32) (h : vv_H) : Option ((Int32 × Int32 × Int32) ⊕ ((Int32))) := ff_X2_asKnown_J68  u1 u2 u3 u4 m5 m6 m7 (0 : Int32) h
def ff_X2_asKnown_B9 (u1 : Int32) (u2 : Int32) (u3 : Int32) (u4 : Int32) (h : vv_H) (s5 : Int32) (s6 : Int32) (s7 : Int32) : Option ((Int32 × Int32 × Int32) ⊕ ((Int32))) := (if (h.1 16 0) ≤ s7 then some (.inr s5) else vv_ck s7 60 ((if (h.1 17 s7.toNatClampNeg) = u1 then vv_ck s7 60 ((if (h.1 18 s7.toNatClampNeg) = u2 then vv_ck s7 60 ((if u3 < (h.1 21 s7.toNatClampNeg) then ff_X2_asKnown_J67  u1 u2 u3 u4 s5 s6 s7 h else vv_ck s7 60 ((if u4 < (h.1 20 s7.toNatClampNeg) then ff_X2_asKnown_J67  u1 u2 u3 u4 s5 s6 s7 h else ff_X2_asKnown_J68  u1 u2 u3 u4 s5 s6 s7 (1 : Int32) h)))) else ff_X2_asKnown_J67  u1 u2 u3 u4 s5 s6 s7 h)) else ff_X2_asKnown_J67  u1 u2 u3 u4 s5 s6 s7 h)))
def ff_X2_asKnown (h : vv_H) (v1 : Int32) (v2 : Int32) (v3 : Int32) (v4 : Int32) : Option (Int32) := (vv_lp (fun zs => ff_X2_asKnown_B9  v1 v2 v3 v4 h zs.1 zs.2.1 zs.2.2) vv_F ((0 : Int32), (-1 : Int32), (0 : Int32))).bind (fun e19 => some e19)
set_option maxHeartbeats 2000000 in
theorem vt_X2_asKnown_J68 {x : vv_E} {post : Option Value → vv_H → Prop}   {u1 : Int32} {u2 : Int32} {u3 : Int32} {u4 : Int32} {m5 : Int32} {m6 : Int32} {m7 : Int32} {z0 : Int32} {h : vv_H} {o : (Int32 × Int32 × Int32) ⊕ ((Int32))}  (hm : ff_X2_asKnown_J68  u1 u2 u3 u4 m5 m6 m7 z0 h = some o) (hI : ∀ (z5 : Int32) (z6 : Int32) (z7 : Int32) , o = .inl (z5, z6, z7) → vv_V x vv_TC mm_X2_asKnown post 9 [some (.ref (vv_ad x 16)), some (.int u1), some (.int u2), some (.int u3), some (.int u4), some (.int z5), some (.int z6), some (.int z7), none] [] h) (hX0 : ∀ (z5 : Int32), o = .inr z5 → vv_V x vv_TC mm_X2_asKnown post 111 [none, none, none, none, none, some (.int z5), none, none, none] [] h) : vv_V x vv_TC mm_X2_asKnown post 68 [some (.ref (vv_ad x 16)), some (.int u1), some (.int u2), some (.int u3), some (.int u4), some (.int m5), some (.int m6), some (.int m7), none] [.int z0] h := by
  unfold ff_X2_asKnown_J68 at hm
  refine rr_istore (q := 70) [some (.ref (vv_ad x 16)), some (.int u1), some (.int u2), some (.int u3), some (.int u4), some (.int m5), some (.int m6), some (.int m7), some (.int z0)] dX2_asKnown_68 rfl (Nat.le_of_ble_eq_true rfl) rfl rfl ?_
  refine rr_iload (q := 72) dX2_asKnown_70 rfl rfl ?_
  refine rr_if_eq (q := 75) (tgt := 105) dX2_asKnown_72 (by decide) rfl hm (fun hm => ?_) (fun hm => ?_)
  · obtain ⟨w2, c3, hm⟩ := vv_let_of hm
    refine rr_iinc (q := 108) [some (.ref (vv_ad x 16)), some (.int u1), some (.int u2), some (.int u3), some (.int u4), some (.int m5), some (.int m6), some (.int w2), some (.int z0)] dX2_asKnown_105 rfl rfl c3.symm (Nat.le_of_ble_eq_true rfl) rfl rfl ?_
    refine rr_goto (tgt := 9) dX2_asKnown_108 (by decide) ?_
    cases hm
    refine rr_sub [true, true, true, true, true, true, true, true, false] rfl ?_
    exact hI m5 m6 w2 rfl
  · refine rr_aload_n (q := 76) dX2_asKnown_75 rfl rfl ?_
    refine gf_X2_21 (q := 79) rfl dX2_asKnown_76 rfl ?_
    refine rr_iload (q := 81) dX2_asKnown_79 rfl rfl ?_
    obtain ⟨c4, hm⟩ := vv_ck_of hm
    refine rr_iald (q := 82) ylC_20 ynC_20 c4 dX2_asKnown_81 rfl ?_
    refine rr_iload (q := 84) dX2_asKnown_82 rfl rfl ?_
    refine rr_icmp_lt (q := 87) (tgt := 105) dX2_asKnown_84 (by decide) rfl hm (fun hm => ?_) (fun hm => ?_)
    · obtain ⟨w5, c6, hm⟩ := vv_let_of hm
      refine rr_iinc (q := 108) [some (.ref (vv_ad x 16)), some (.int u1), some (.int u2), some (.int u3), some (.int u4), some (.int m5), some (.int m6), some (.int w5), some (.int z0)] dX2_asKnown_105 rfl rfl c6.symm (Nat.le_of_ble_eq_true rfl) rfl rfl ?_
      refine rr_goto (tgt := 9) dX2_asKnown_108 (by decide) ?_
      cases hm
      refine rr_sub [true, true, true, true, true, true, true, true, false] rfl ?_
      exact hI m5 m6 w5 rfl
    · refine rr_aload_n (q := 88) dX2_asKnown_87 rfl rfl ?_
      refine gf_X2_18 (q := 91) rfl dX2_asKnown_88 rfl ?_
      refine rr_iload (q := 93) dX2_asKnown_91 rfl rfl ?_
      obtain ⟨c7, hm⟩ := vv_ck_of hm
      refine rr_iald (q := 94) ylC_19 ynC_19 c7 dX2_asKnown_93 rfl ?_
      obtain ⟨w8, c9, hm⟩ := vv_let_of hm
      rw [← c9]
      refine rr_istore (q := 96) [some (.ref (vv_ad x 16)), some (.int u1), some (.int u2), some (.int u3), some (.int u4), some (.int w8), some (.int m6), some (.int m7), some (.int z0)] dX2_asKnown_94 rfl (Nat.le_of_ble_eq_true rfl) rfl rfl ?_
      refine rr_aload_n (q := 97) dX2_asKnown_96 rfl rfl ?_
      refine gf_X2_21 (q := 100) rfl dX2_asKnown_97 rfl ?_
      refine rr_iload (q := 102) dX2_asKnown_100 rfl rfl ?_
      obtain ⟨c10, hm⟩ := vv_ck_of hm
      refine rr_iald (q := 103) ylC_20 ynC_20 c10 dX2_asKnown_102 rfl ?_
      obtain ⟨w11, c12, hm⟩ := vv_let_of hm
      rw [← c12]
      refine rr_istore (q := 105) [some (.ref (vv_ad x 16)), some (.int u1), some (.int u2), some (.int u3), some (.int u4), some (.int w8), some (.int w11), some (.int m7), some (.int z0)] dX2_asKnown_103 rfl (Nat.le_of_ble_eq_true rfl) rfl rfl ?_
      obtain ⟨w13, c14, hm⟩ := vv_let_of hm
      refine rr_iinc (q := 108) [some (.ref (vv_ad x 16)), some (.int u1), some (.int u2), some (.int u3), some (.int u4), some (.int w8), some (.int w11), some (.int w13), some (.int z0)] dX2_asKnown_105 rfl rfl c14.symm (Nat.le_of_ble_eq_true rfl) rfl rfl ?_
      refine rr_goto (tgt := 9) dX2_asKnown_108 (by decide) ?_
      cases hm
      refine rr_sub [true, true, true, true, true, true, true, true, false] rfl ?_
      exact hI w8 w11 w13 rfl
set_option maxHeartbeats 2000000 in
theorem vt_X2_asKnown_J67 {x : vv_E} {post : Option Value → vv_H → Prop}   {u1 : Int32} {u2 : Int32} {u3 : Int32} {u4 : Int32} {m5 : Int32} {m6 : Int32} {m7 : Int32} {h : vv_H} {o : (Int32 × Int32 × Int32) ⊕ ((Int32))}  (hm : ff_X2_asKnown_J67  u1 u2 u3 u4 m5 m6 m7 h = some o) (hI : ∀ (z5 : Int32) (z6 : Int32) (z7 : Int32) , o = .inl (z5, z6, z7) → vv_V x vv_TC mm_X2_asKnown post 9 [some (.ref (vv_ad x 16)), some (.int u1), some (.int u2), some (.int u3), some (.int u4), some (.int z5), some (.int z6), some (.int z7), none] [] h) (hX0 : ∀ (z5 : Int32), o = .inr z5 → vv_V x vv_TC mm_X2_asKnown post 111 [none, none, none, none, none, some (.int z5), none, none, none] [] h) : vv_V x vv_TC mm_X2_asKnown post 67 [some (.ref (vv_ad x 16)), some (.int u1), some (.int u2), some (.int u3), some (.int u4), some (.int m5), some (.int m6), some (.int m7), none] [] h := by
  unfold ff_X2_asKnown_J67 at hm
  refine rr_iconst (q := 68) (v := 0) dX2_asKnown_67 rfl (by decide) ?_
  exact vt_X2_asKnown_J68  hm hI hX0
set_option maxHeartbeats 2000000 in
theorem vt_X2_asKnown_B9 {x : vv_E} {post : Option Value → vv_H → Prop} {u1 : Int32} {u2 : Int32} {u3 : Int32} {u4 : Int32} {h : vv_H} {s5 : Int32} {s6 : Int32} {s7 : Int32} {o : (Int32 × Int32 × Int32) ⊕ ((Int32))}  (hm : ff_X2_asKnown_B9  u1 u2 u3 u4 h s5 s6 s7 = some o) (hI : ∀ (z5 : Int32) (z6 : Int32) (z7 : Int32) , o = .inl (z5, z6, z7) → vv_V x vv_TC mm_X2_asKnown post 9 [some (.ref (vv_ad x 16)), some (.int u1), some (.int u2), some (.int u3), some (.int u4), some (.int z5), some (.int z6), some (.int z7), none] [] h) (hX0 : ∀ (z5 : Int32), o = .inr z5 → vv_V x vv_TC mm_X2_asKnown post 111 [none, none, none, none, none, some (.int z5), none, none, none] [] h) : vv_V x vv_TC mm_X2_asKnown post 9 [some (.ref (vv_ad x 16)), some (.int u1), some (.int u2), some (.int u3), some (.int u4), some (.int s5), some (.int s6), some (.int s7), none] [] h := by
  unfold ff_X2_asKnown_B9 at hm
  refine rr_iload (q := 11) dX2_asKnown_9 rfl rfl ?_
  refine rr_aload_n (q := 12) dX2_asKnown_11 rfl rfl ?_
  refine gf_X2_27 (q := 15) rfl dX2_asKnown_12 rfl ?_
  refine rr_icmp_ge (q := 18) (tgt := 111) dX2_asKnown_15 (by decide) rfl hm (fun hm => ?_) (fun hm => ?_)
  · cases hm
    refine rr_sub [false, false, false, false, false, true, false, false, false] rfl ?_
    exact hX0 s5 rfl
  · refine rr_aload_n (q := 19) dX2_asKnown_18 rfl rfl ?_
    refine gf_X2_9 (q := 22) rfl dX2_asKnown_19 rfl ?_
    refine rr_iload (q := 24) dX2_asKnown_22 rfl rfl ?_
    obtain ⟨c1, hm⟩ := vv_ck_of hm
    refine rr_iald (q := 25) ylC_17 ynC_17 c1 dX2_asKnown_24 rfl ?_
    refine rr_iload_n (q := 26) dX2_asKnown_25 rfl rfl ?_
    refine rr_icmp_ne (q := 29) (tgt := 67) dX2_asKnown_26 (by decide) rfl hm (fun hm => ?_) (fun hm => ?_)
    · exact vt_X2_asKnown_J67  hm hI hX0
    · refine rr_aload_n (q := 30) dX2_asKnown_29 rfl rfl ?_
      refine gf_X2_15 (q := 33) rfl dX2_asKnown_30 rfl ?_
      refine rr_iload (q := 35) dX2_asKnown_33 rfl rfl ?_
      obtain ⟨c15, hm⟩ := vv_ck_of hm
      refine rr_iald (q := 36) ylC_18 ynC_18 c15 dX2_asKnown_35 rfl ?_
      refine rr_iload_n (q := 37) dX2_asKnown_36 rfl rfl ?_
      refine rr_icmp_ne (q := 40) (tgt := 67) dX2_asKnown_37 (by decide) rfl hm (fun hm => ?_) (fun hm => ?_)
      · exact vt_X2_asKnown_J67  hm hI hX0
      · refine rr_aload_n (q := 41) dX2_asKnown_40 rfl rfl ?_
        refine gf_X2_24 (q := 44) rfl dX2_asKnown_41 rfl ?_
        refine rr_iload (q := 46) dX2_asKnown_44 rfl rfl ?_
        obtain ⟨c16, hm⟩ := vv_ck_of hm
        refine rr_iald (q := 47) ylC_21 ynC_21 c16 dX2_asKnown_46 rfl ?_
        refine rr_iload_n (q := 48) dX2_asKnown_47 rfl rfl ?_
        refine rr_icmp_gt (q := 51) (tgt := 67) dX2_asKnown_48 (by decide) rfl hm (fun hm => ?_) (fun hm => ?_)
        · exact vt_X2_asKnown_J67  hm hI hX0
        · refine rr_aload_n (q := 52) dX2_asKnown_51 rfl rfl ?_
          refine gf_X2_21 (q := 55) rfl dX2_asKnown_52 rfl ?_
          refine rr_iload (q := 57) dX2_asKnown_55 rfl rfl ?_
          obtain ⟨c17, hm⟩ := vv_ck_of hm
          refine rr_iald (q := 58) ylC_20 ynC_20 c17 dX2_asKnown_57 rfl ?_
          refine rr_iload (q := 60) dX2_asKnown_58 rfl rfl ?_
          refine rr_icmp_gt (q := 63) (tgt := 67) dX2_asKnown_60 (by decide) rfl hm (fun hm => ?_) (fun hm => ?_)
          · exact vt_X2_asKnown_J67  hm hI hX0
          · refine rr_iconst (q := 64) (v := 1) dX2_asKnown_63 rfl (by decide) ?_
            refine rr_goto (tgt := 68) dX2_asKnown_64 (by decide) ?_
            exact vt_X2_asKnown_J68  hm hI hX0
set_option maxHeartbeats 2000000 in
theorem vt_X2_asKnown {x : vv_E} {post : Option Value → vv_H → Prop} {h : vv_H} {v1 : Int32} {v2 : Int32} {v3 : Int32} {v4 : Int32} {o : Int32}  (hm : ff_X2_asKnown  h v1 v2 v3 v4 = some o) (hp : post (some (.int o)) h) : vv_V x vv_TC mm_X2_asKnown post 0 [some (.ref (vv_ad x 16)), some (.int v1), some (.int v2), some (.int v3), some (.int v4), none, none, none, none] [] h := by
  unfold ff_X2_asKnown at hm
  refine rr_iconst (q := 1) (v := 0) dX2_asKnown_0 rfl (by decide) ?_
  refine rr_istore (q := 3) [some (.ref (vv_ad x 16)), some (.int v1), some (.int v2), some (.int v3), some (.int v4), some (.int (0 : Int32)), none, none, none] dX2_asKnown_1 rfl (Nat.le_of_ble_eq_true rfl) rfl rfl ?_
  refine rr_iconst (q := 4) (v := -1) dX2_asKnown_3 rfl (by decide) ?_
  refine rr_istore (q := 6) [some (.ref (vv_ad x 16)), some (.int v1), some (.int v2), some (.int v3), some (.int v4), some (.int (0 : Int32)), some (.int (-1 : Int32)), none, none] dX2_asKnown_4 rfl (Nat.le_of_ble_eq_true rfl) rfl rfl ?_
  refine rr_iconst (q := 7) (v := 0) dX2_asKnown_6 rfl (by decide) ?_
  refine rr_istore (q := 9) [some (.ref (vv_ad x 16)), some (.int v1), some (.int v2), some (.int v3), some (.int v4), some (.int (0 : Int32)), some (.int (-1 : Int32)), some (.int (0 : Int32)), none] dX2_asKnown_7 rfl (Nat.le_of_ble_eq_true rfl) rfl rfl ?_
  obtain ⟨r18, k20, hm⟩ := vv_bind hm
  refine vv_lp_link (P := fun zs => vv_V x vv_TC mm_X2_asKnown post 9 [some (.ref (vv_ad x 16)), some (.int v1), some (.int v2), some (.int v3), some (.int v4), some (.int zs.1), some (.int zs.2.1), some (.int zs.2.2), none] [] h) (Q := (fun e19 => vv_V x vv_TC mm_X2_asKnown post 111 [none, none, none, none, none, some (.int e19), none, none, none] [] h)) (fun zs o hm hI hX => ?_) _ _ _ k20 ?_
  · exact vt_X2_asKnown_B9   hm (fun z5 z6 z7 e => hI (z5, z6, z7) e) (fun z5 e => hX z5 e)
  · generalize r18 = e19 at hm ⊢
    try dsimp only [Sum.elim_inl, Sum.elim_inr] at hm
    try dsimp only [Sum.elim_inl, Sum.elim_inr]
    refine rr_iload (q := 113) dX2_asKnown_111 rfl rfl ?_
    cases hm
    exact rr_iret dX2_asKnown_113 rfl hp
theorem cc_X2_asKnown {x : vv_E} {h : vv_H} {v1 : Int32} {v2 : Int32} {v3 : Int32} {v4 : Int32} {o : Int32}  (hm : ff_X2_asKnown h v1 v2 v3 v4 = some o) : vv_C x vv_TC yX2_asKnown mm_X2_asKnown [.ref (vv_ad x 16), .int v1, .int v2, .int v3, .int v4] h (fun v g => v = some (.int o) ∧ g = h) := vv_entry (by decide +kernel) rfl (Nat.le_of_ble_eq_true rfl) rfl (vt_X2_asKnown  hm ⟨rfl, rfl⟩)
def ff_X11_isWithin (v0 : Int32) (v1 : Int32) (v2 : Int32) : Option (Int32) := (if v0 < v1 then some (0 : Int32) else (if v2 < v0 then some (0 : Int32) else some (1 : Int32)))
set_option maxHeartbeats 2000000 in
theorem vt_X11_isWithin {x : vv_E} {post : Option Value → vv_H → Prop} {v0 : Int32} {v1 : Int32} {v2 : Int32} {h : vv_H} {o : Int32}  (hm : ff_X11_isWithin  v0 v1 v2 = some o) (hp : post (some (.int o)) h) : vv_V x vv_TC mm_X11_isWithin post 0 [some (.int v0), some (.int v1), some (.int v2)] [] h := by
  unfold ff_X11_isWithin at hm
  refine rr_iload_n (q := 1) dX11_isWithin_0 rfl rfl ?_
  refine rr_iload_n (q := 2) dX11_isWithin_1 rfl rfl ?_
  refine rr_icmp_lt (q := 5) (tgt := 14) dX11_isWithin_2 (by decide) rfl hm (fun hm => ?_) (fun hm => ?_)
  · refine rr_iconst (q := 15) (v := 0) dX11_isWithin_14 rfl (by decide) ?_
    cases hm
    exact rr_zret dX11_isWithin_15 rfl rfl hp
  · refine rr_iload_n (q := 6) dX11_isWithin_5 rfl rfl ?_
    refine rr_iload_n (q := 7) dX11_isWithin_6 rfl rfl ?_
    refine rr_icmp_gt (q := 10) (tgt := 14) dX11_isWithin_7 (by decide) rfl hm (fun hm => ?_) (fun hm => ?_)
    · refine rr_iconst (q := 15) (v := 0) dX11_isWithin_14 rfl (by decide) ?_
      cases hm
      exact rr_zret dX11_isWithin_15 rfl rfl hp
    · refine rr_iconst (q := 11) (v := 1) dX11_isWithin_10 rfl (by decide) ?_
      refine rr_goto (tgt := 15) dX11_isWithin_11 (by decide) ?_
      cases hm
      exact rr_zret dX11_isWithin_15 rfl rfl hp
theorem cc_X11_isWithin {x : vv_E} {v0 : Int32} {v1 : Int32} {v2 : Int32} {h : vv_H} {o : Int32}  (hm : ff_X11_isWithin v0 v1 v2 = some o) : vv_C x vv_TC yX11_isWithin mm_X11_isWithin [.int v0, .int v1, .int v2] h (fun v g => v = some (.int o) ∧ g = h) := vv_entry (by decide +kernel) rfl (Nat.le_of_ble_eq_true rfl) rfl (vt_X11_isWithin  hm ⟨rfl, rfl⟩)
def ff_X11_isDay (v0 : Int32) : Option (Int32) := (ff_X11_isWithin v0 (0 : Int32) (9999 : Int32)).bind (fun r1 => vv_zk r1 (some r1))
set_option maxHeartbeats 2000000 in
theorem vt_X11_isDay {x : vv_E} {post : Option Value → vv_H → Prop} {v0 : Int32} {h : vv_H} {o : Int32}  (hm : ff_X11_isDay  v0 = some o) (hp : post (some (.int o)) h) : vv_V x vv_TC mm_X11_isDay post 0 [some (.int v0)] [] h := by
  unfold ff_X11_isDay at hm
  refine rr_iload_n (q := 1) dX11_isDay_0 rfl rfl ?_
  refine rr_iconst (q := 2) (v := 0) dX11_isDay_1 rfl (by decide) ?_
  refine rr_sipush (q := 5) (v := 9999) dX11_isDay_2 rfl (by decide) ?_
  obtain ⟨r1, k2, hm⟩ := vv_bind hm
  refine rr_callS (q := 8) (M' := mm_X11_isWithin) (As := [.int v0, .int (0 : Int32), .int (9999 : Int32)]) (st := []) (w := some (.int r1))  (cc_X11_isWithin  k2) rfl vy_X11_isWithin zw_240 ⟨Nat.le_of_ble_eq_true rfl, Nat.le_of_ble_eq_true rfl⟩ (Nat.le_of_ble_eq_true rfl) dX11_isDay_5 rfl ?_
  show vv_V x vv_TC mm_X11_isDay post 8 [some (.int v0)] [.int r1] h
  obtain ⟨c3, hm⟩ := vv_zk_of hm
  cases hm
  exact rr_zret dX11_isDay_8 rfl c3 hp
theorem cc_X11_isDay {x : vv_E} {v0 : Int32} {h : vv_H} {o : Int32}  (hm : ff_X11_isDay v0 = some o) : vv_C x vv_TC yX11_isDay mm_X11_isDay [.int v0] h (fun v g => v = some (.int o) ∧ g = h) := vv_entry (by decide +kernel) rfl (Nat.le_of_ble_eq_true rfl) rfl (vt_X11_isDay  hm ⟨rfl, rfl⟩)
def ff_X11_isMeasureKind (v0 : Int32) : Option (Int32) := (ff_X11_isWithin v0 (0 : Int32) (2 : Int32)).bind (fun r1 => vv_zk r1 (some r1))
set_option maxHeartbeats 2000000 in
theorem vt_X11_isMeasureKind {x : vv_E} {post : Option Value → vv_H → Prop} {v0 : Int32} {h : vv_H} {o : Int32}  (hm : ff_X11_isMeasureKind  v0 = some o) (hp : post (some (.int o)) h) : vv_V x vv_TC mm_X11_isMeasureKind post 0 [some (.int v0)] [] h := by
  unfold ff_X11_isMeasureKind at hm
  refine rr_iload_n (q := 1) dX11_isMeasureKind_0 rfl rfl ?_
  refine rr_iconst (q := 2) (v := 0) dX11_isMeasureKind_1 rfl (by decide) ?_
  refine rr_iconst (q := 3) (v := 2) dX11_isMeasureKind_2 rfl (by decide) ?_
  obtain ⟨r1, k2, hm⟩ := vv_bind hm
  refine rr_callS (q := 6) (M' := mm_X11_isWithin) (As := [.int v0, .int (0 : Int32), .int (2 : Int32)]) (st := []) (w := some (.int r1))  (cc_X11_isWithin  k2) rfl vy_X11_isWithin zw_240 ⟨Nat.le_of_ble_eq_true rfl, Nat.le_of_ble_eq_true rfl⟩ (Nat.le_of_ble_eq_true rfl) dX11_isMeasureKind_3 rfl ?_
  show vv_V x vv_TC mm_X11_isMeasureKind post 6 [some (.int v0)] [.int r1] h
  obtain ⟨c3, hm⟩ := vv_zk_of hm
  cases hm
  exact rr_zret dX11_isMeasureKind_6 rfl c3 hp
theorem cc_X11_isMeasureKind {x : vv_E} {v0 : Int32} {h : vv_H} {o : Int32}  (hm : ff_X11_isMeasureKind v0 = some o) : vv_C x vv_TC yX11_isMeasureKind mm_X11_isMeasureKind [.int v0] h (fun v g => v = some (.int o) ∧ g = h) := vv_entry (by decide +kernel) rfl (Nat.le_of_ble_eq_true rfl) rfl (vt_X11_isMeasureKind  hm ⟨rfl, rfl⟩)
def ff_X11_known (h : vv_H) (v1 : Int32) (v2 : Int32) (v3 : Int32) (v4 : Int32) : Option (Int32) := (ff_X0_has h v1).bind (fun r1 => (if r1 = 0 then some (-1 : Int32) else (ff_X11_isMeasureKind v2).bind (fun r3 => (if r3 = 0 then some (-1 : Int32) else (ff_X11_isDay v3).bind (fun r5 => (if r5 = 0 then some (-1 : Int32) else (ff_X11_isDay v4).bind (fun r7 => (if r7 = 0 then some (-1 : Int32) else (ff_X2_asKnown h v1 v2 v3 v4).bind (fun r9 => some r9)))))))))
set_option maxHeartbeats 2000000 in
theorem vt_X11_known {x : vv_E} {post : Option Value → vv_H → Prop} {h : vv_H} {v1 : Int32} {v2 : Int32} {v3 : Int32} {v4 : Int32} {o : Int32}  (hm : ff_X11_known  h v1 v2 v3 v4 = some o) (hp : post (some (.int o)) h) : vv_V x vv_TC mm_X11_known post 0 [some (.ref (vv_ad x 0)), some (.int v1), some (.int v2), some (.int v3), some (.int v4)] [] h := by
  unfold ff_X11_known at hm
  refine rr_aload_n (q := 1) dX11_known_0 rfl rfl ?_
  refine gf_X11_10 (q := 4) rfl dX11_known_1 rfl ?_
  refine rr_iload_n (q := 5) dX11_known_4 rfl rfl ?_
  obtain ⟨r1, k2, hm⟩ := vv_bind hm
  refine rr_callV (q := 8) (M' := mm_X0_has) (As := [.int v1]) (st := []) (w := some (.int r1)) (cc_X0_has  k2) rfl ylC_1 ynC_1 rfl vy_X0_has zw_408 ⟨Nat.le_of_ble_eq_true rfl, Nat.le_of_ble_eq_true rfl⟩ (Nat.le_of_ble_eq_true rfl) dX11_known_5 rfl ?_
  show vv_V x vv_TC mm_X11_known post 8 [some (.ref (vv_ad x 0)), some (.int v1), some (.int v2), some (.int v3), some (.int v4)] [.int r1] h
  refine rr_if_eq (q := 11) (tgt := 33) dX11_known_8 (by decide) rfl hm (fun hm => ?_) (fun hm => ?_)
  · refine rr_iconst (q := 34) (v := -1) dX11_known_33 rfl (by decide) ?_
    cases hm
    exact rr_iret dX11_known_34 rfl hp
  · refine rr_iload_n (q := 12) dX11_known_11 rfl rfl ?_
    obtain ⟨r3, k4, hm⟩ := vv_bind hm
    refine rr_callS (q := 15) (M' := mm_X11_isMeasureKind) (As := [.int v2]) (st := []) (w := some (.int r3))  (cc_X11_isMeasureKind  k4) rfl vy_X11_isMeasureKind zw_413 ⟨Nat.le_of_ble_eq_true rfl, Nat.le_of_ble_eq_true rfl⟩ (Nat.le_of_ble_eq_true rfl) dX11_known_12 rfl ?_
    show vv_V x vv_TC mm_X11_known post 15 [some (.ref (vv_ad x 0)), some (.int v1), some (.int v2), some (.int v3), some (.int v4)] [.int r3] h
    refine rr_if_eq (q := 18) (tgt := 33) dX11_known_15 (by decide) rfl hm (fun hm => ?_) (fun hm => ?_)
    · refine rr_iconst (q := 34) (v := -1) dX11_known_33 rfl (by decide) ?_
      cases hm
      exact rr_iret dX11_known_34 rfl hp
    · refine rr_iload_n (q := 19) dX11_known_18 rfl rfl ?_
      obtain ⟨r5, k6, hm⟩ := vv_bind hm
      refine rr_callS (q := 22) (M' := mm_X11_isDay) (As := [.int v3]) (st := []) (w := some (.int r5))  (cc_X11_isDay  k6) rfl vy_X11_isDay zw_421 ⟨Nat.le_of_ble_eq_true rfl, Nat.le_of_ble_eq_true rfl⟩ (Nat.le_of_ble_eq_true rfl) dX11_known_19 rfl ?_
      show vv_V x vv_TC mm_X11_known post 22 [some (.ref (vv_ad x 0)), some (.int v1), some (.int v2), some (.int v3), some (.int v4)] [.int r5] h
      refine rr_if_eq (q := 25) (tgt := 33) dX11_known_22 (by decide) rfl hm (fun hm => ?_) (fun hm => ?_)
      · refine rr_iconst (q := 34) (v := -1) dX11_known_33 rfl (by decide) ?_
        cases hm
        exact rr_iret dX11_known_34 rfl hp
      · refine rr_iload (q := 27) dX11_known_25 rfl rfl ?_
        obtain ⟨r7, k8, hm⟩ := vv_bind hm
        refine rr_callS (q := 30) (M' := mm_X11_isDay) (As := [.int v4]) (st := []) (w := some (.int r7))  (cc_X11_isDay  k8) rfl vy_X11_isDay zw_421 ⟨Nat.le_of_ble_eq_true rfl, Nat.le_of_ble_eq_true rfl⟩ (Nat.le_of_ble_eq_true rfl) dX11_known_27 rfl ?_
        show vv_V x vv_TC mm_X11_known post 30 [some (.ref (vv_ad x 0)), some (.int v1), some (.int v2), some (.int v3), some (.int v4)] [.int r7] h
        refine rr_if_ne (q := 33) (tgt := 35) dX11_known_30 (by decide) rfl hm (fun hm => ?_) (fun hm => ?_)
        · refine rr_aload_n (q := 36) dX11_known_35 rfl rfl ?_
          refine gf_X11_19 (q := 39) rfl dX11_known_36 rfl ?_
          refine rr_iload_n (q := 40) dX11_known_39 rfl rfl ?_
          refine rr_iload_n (q := 41) dX11_known_40 rfl rfl ?_
          refine rr_iload_n (q := 42) dX11_known_41 rfl rfl ?_
          refine rr_iload (q := 44) dX11_known_42 rfl rfl ?_
          obtain ⟨r9, k10, hm⟩ := vv_bind hm
          refine rr_callV (q := 47) (M' := mm_X2_asKnown) (As := [.int v1, .int v2, .int v3, .int v4]) (st := []) (w := some (.int r9)) (cc_X2_asKnown  k10) rfl ylC_16 ynC_16 rfl vy_X2_asKnown zw_272 ⟨Nat.le_of_ble_eq_true rfl, Nat.le_of_ble_eq_true rfl⟩ (Nat.le_of_ble_eq_true rfl) dX11_known_44 rfl ?_
          show vv_V x vv_TC mm_X11_known post 47 [some (.ref (vv_ad x 0)), some (.int v1), some (.int v2), some (.int v3), some (.int v4)] [.int r9] h
          cases hm
          exact rr_iret dX11_known_47 rfl hp
        · refine rr_iconst (q := 34) (v := -1) dX11_known_33 rfl (by decide) ?_
          cases hm
          exact rr_iret dX11_known_34 rfl hp
theorem cc_X11_known {x : vv_E} {h : vv_H} {v1 : Int32} {v2 : Int32} {v3 : Int32} {v4 : Int32} {o : Int32}  (hm : ff_X11_known h v1 v2 v3 v4 = some o) : vv_C x vv_TC yX11_known mm_X11_known [.ref (vv_ad x 0), .int v1, .int v2, .int v3, .int v4] h (fun v g => v = some (.int o) ∧ g = h) := vv_entry (by decide +kernel) rfl (Nat.le_of_ble_eq_true rfl) rfl (vt_X11_known  hm ⟨rfl, rfl⟩)
