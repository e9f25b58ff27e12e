def ff_X0_has (h : vv_H) (v1 : Int32) : Option (Int32) := (if v1 < 0 then some (0 : Int32) else (if (h.1 1 0) ≤ v1 then some (0 : Int32) else some (1 : Int32)))
set_option maxHeartbeats 200000 in
theorem vt_X0_has {x : vv_E} {post : Option Value → vv_H → Prop} {h : vv_H} {v1 : Int32} {o : Int32}  (hm : ff_X0_has  h v1 = some o) (hp : post (some (.int o)) h) : vv_V x vv_TC mm_X0_has post 0 [some (.ref (vv_ad x 1)), some (.int v1)] [] h := by
  unfold ff_X0_has at hm
  refine rr_iload_n (q := 1) dX0_has_0 rfl rfl ?_
  refine rr_if_lt (q := 4) (tgt := 16) dX0_has_1 (by decide) rfl hm (fun hm => ?_) (fun hm => ?_)
  · refine rr_iconst (q := 17) (v := 0) dX0_has_16 rfl (by decide) ?_
    obtain rfl := Option.some.inj hm
    exact rr_zret dX0_has_17 rfl rfl hp
  · refine rr_iload_n (q := 5) dX0_has_4 rfl rfl ?_
    refine rr_aload_n (q := 6) dX0_has_5 rfl rfl ?_
    refine gf_X0_20 (q := 9) rfl dX0_has_6 rfl ?_
    refine rr_icmp_ge (q := 12) (tgt := 16) dX0_has_9 (by decide) rfl hm (fun hm => ?_) (fun hm => ?_)
    · refine rr_iconst (q := 17) (v := 0) dX0_has_16 rfl (by decide) ?_
      obtain rfl := Option.some.inj hm
      exact rr_zret dX0_has_17 rfl rfl hp
    · refine rr_iconst (q := 13) (v := 1) dX0_has_12 rfl (by decide) ?_
      refine rr_goto (tgt := 17) dX0_has_13 (by decide) ?_
      obtain rfl := Option.some.inj hm
      exact rr_zret dX0_has_17 rfl rfl hp
theorem cc_X0_has {x : vv_E} {h : vv_H} {v1 : Int32} {o : Int32}  (hm : ff_X0_has h v1 = some o) : vv_C x vv_TC yX0_has mm_X0_has [.ref (vv_ad x 1), .int v1] h (fun v g => v = some (.int o) ∧ g = h) := vv_entry (by decide +kernel) rfl (Nat.le_of_ble_eq_true rfl) rfl (vt_X0_has  hm ⟨rfl, rfl⟩)
def ff_X0_add (h : vv_H) (v1 : Int32) (v2 : Int32) (v3 : Int32) : Option (Int32 × vv_H) := (if (h.1 1 0) < (12 : Int32) then vv_ck (h.1 1 0) 12 (vv_ck (0 : Int32) 3 (vv_let (vv_iu h (3 + (h.1 1 0).toNatClampNeg) (0 : Int32).toNatClampNeg v1) (fun g3 => vv_ck (g3.1 1 0) 12 (vv_ck (1 : Int32) 3 (vv_let (vv_iu g3 (3 + (g3.1 1 0).toNatClampNeg) (1 : Int32).toNatClampNeg v2) (fun g7 => vv_ck (g7.1 1 0) 12 (vv_ck (2 : Int32) 3 (vv_let (vv_iu g7 (3 + (g7.1 1 0).toNatClampNeg) (2 : Int32).toNatClampNeg v3) (fun g11 => vv_let (vv_iu g11 1 0 ((g11.1 1 0) + (1 : Int32))) (fun g13 => some ((g11.1 1 0), g13))))))))))) else some ((-3 : Int32), h))
set_option maxHeartbeats 200000 in
theorem vt_X0_add {x : vv_E} {post : Option Value → vv_H → Prop} {h : vv_H} {v1 : Int32} {v2 : Int32} {v3 : Int32} {o : Int32 × vv_H}  (hm : ff_X0_add  h v1 v2 v3 = some o) (hp : post (some (.int o.1)) o.2) : vv_V x vv_TC mm_X0_add post 0 [some (.ref (vv_ad x 1)), some (.int v1), some (.int v2), some (.int v3)] [] h := by
  unfold ff_X0_add at hm
  refine rr_aload_n (q := 1) dX0_add_0 rfl rfl ?_
  refine gf_X0_20 (q := 4) rfl dX0_add_1 rfl ?_
  refine rr_bipush (q := 6) (v := 12) dX0_add_4 rfl (by decide) ?_
  refine rr_icmp_lt (q := 9) (tgt := 12) dX0_add_6 (by decide) rfl hm (fun hm => ?_) (fun hm => ?_)
  · refine rr_aload_n (q := 13) dX0_add_12 rfl rfl ?_
    refine gf_X0_11 (q := 16) rfl dX0_add_13 rfl ?_
    refine rr_aload_n (q := 17) dX0_add_16 rfl rfl ?_
    refine gf_X0_20 (q := 20) rfl dX0_add_17 rfl ?_
    obtain ⟨c1, hm⟩ := vv_ck_of hm
    refine rr_aald (q := 21) ylC_2 ynC_2 c1 dX0_add_20 rfl ?_
    refine rr_iconst (q := 22) (v := 0) dX0_add_21 rfl (by decide) ?_
    refine rr_iload_n (q := 23) dX0_add_22 rfl rfl ?_
    obtain ⟨c2, hm⟩ := vv_ck_of hm
    obtain ⟨g3, c4, hm⟩ := vv_let_of hm
    refine rr_iast (q := 24) (ywC_2 c1).1 (ywC_2 c1).2 c2 dX0_add_23 rfl ?_
    rw [← c4]
    refine rr_aload_n (q := 25) dX0_add_24 rfl rfl ?_
    refine gf_X0_11 (q := 28) rfl dX0_add_25 rfl ?_
    refine rr_aload_n (q := 29) dX0_add_28 rfl rfl ?_
    refine gf_X0_20 (q := 32) rfl dX0_add_29 rfl ?_
    obtain ⟨c5, hm⟩ := vv_ck_of hm
    refine rr_aald (q := 33) ylC_2 ynC_2 c5 dX0_add_32 rfl ?_
    refine rr_iconst (q := 34) (v := 1) dX0_add_33 rfl (by decide) ?_
    refine rr_iload_n (q := 35) dX0_add_34 rfl rfl ?_
    obtain ⟨c6, hm⟩ := vv_ck_of hm
    obtain ⟨g7, c8, hm⟩ := vv_let_of hm
    refine rr_iast (q := 36) (ywC_2 c5).1 (ywC_2 c5).2 c6 dX0_add_35 rfl ?_
    rw [← c8]
    refine rr_aload_n (q := 37) dX0_add_36 rfl rfl ?_
    refine gf_X0_11 (q := 40) rfl dX0_add_37 rfl ?_
    refine rr_aload_n (q := 41) dX0_add_40 rfl rfl ?_
    refine gf_X0_20 (q := 44) rfl dX0_add_41 rfl ?_
    obtain ⟨c9, hm⟩ := vv_ck_of hm
    refine rr_aald (q := 45) ylC_2 ynC_2 c9 dX0_add_44 rfl ?_
    refine rr_iconst (q := 46) (v := 2) dX0_add_45 rfl (by decide) ?_
    refine rr_iload_n (q := 47) dX0_add_46 rfl rfl ?_
    obtain ⟨c10, hm⟩ := vv_ck_of hm
    obtain ⟨g11, c12, hm⟩ := vv_let_of hm
    refine rr_iast (q := 48) (ywC_2 c9).1 (ywC_2 c9).2 c10 dX0_add_47 rfl ?_
    rw [← c12]
    refine rr_aload_n (q := 49) dX0_add_48 rfl rfl ?_
    refine rr_dup (q := 50) dX0_add_49 rfl rfl ?_
    refine gf_X0_20 (q := 53) rfl dX0_add_50 rfl ?_
    refine rr_dup_x1 (q := 54) dX0_add_53 rfl rfl rfl ?_
    refine rr_iconst (q := 55) (v := 1) dX0_add_54 rfl (by decide) ?_
    refine rr_iadd (q := 56) dX0_add_55 rfl ?_
    refine pf_X0_20 (q := 59) rfl dX0_add_56 rfl (fun g13 c14 => ?_)
    replace hm := vv_letE hm c14
    obtain rfl := Option.some.inj hm
    exact rr_iret dX0_add_59 rfl hp
  · refine rr_bipush (q := 11) (v := -3) dX0_add_9 rfl (by decide) ?_
    obtain rfl := Option.some.inj hm
    exact rr_iret dX0_add_11 rfl hp
theorem cc_X0_add {x : vv_E} {h : vv_H} {v1 : Int32} {v2 : Int32} {v3 : Int32} {o : Int32 × vv_H}  (hm : ff_X0_add h v1 v2 v3 = some o) : vv_C x vv_TC yX0_add mm_X0_add [.ref (vv_ad x 1), .int v1, .int v2, .int v3] h (fun v g => v = some (.int o.1) ∧ g = o.2) := vv_entry (by decide +kernel) rfl (Nat.le_of_ble_eq_true rfl) rfl (vt_X0_add  hm ⟨rfl, rfl⟩)
def ff_X0_allBits (h : vv_H) : Option (Int32) := some (((1 : Int32) <<< ((h.1 1 0) &&& 31)) - (1 : Int32))
set_option maxHeartbeats 200000 in
theorem vt_X0_allBits {x : vv_E} {post : Option Value → vv_H → Prop} {h : vv_H} {o : Int32}  (hm : ff_X0_allBits  h = some o) (hp : post (some (.int o)) h) : vv_V x vv_TC mm_X0_allBits post 0 [some (.ref (vv_ad x 1))] [] h := by
  unfold ff_X0_allBits at hm
  refine rr_iconst (q := 1) (v := 1) dX0_allBits_0 rfl (by decide) ?_
  refine rr_aload_n (q := 2) dX0_allBits_1 rfl rfl ?_
  refine gf_X0_20 (q := 5) rfl dX0_allBits_2 rfl ?_
  refine rr_ishl (q := 6) dX0_allBits_5 rfl ?_
  refine rr_iconst (q := 7) (v := 1) dX0_allBits_6 rfl (by decide) ?_
  refine rr_isub (q := 8) dX0_allBits_7 rfl ?_
  obtain rfl := Option.some.inj hm
  exact rr_iret dX0_allBits_8 rfl hp
theorem cc_X0_allBits {x : vv_E} {h : vv_H} {o : Int32}  (hm : ff_X0_allBits h = some o) : vv_C x vv_TC yX0_allBits mm_X0_allBits [.ref (vv_ad x 1)] h (fun v g => v = some (.int o) ∧ g = h) := vv_entry (by decide +kernel) rfl (Nat.le_of_ble_eq_true rfl) rfl (vt_X0_allBits  hm ⟨rfl, rfl⟩)
def ff_X0_allCharges_B4 (h : vv_H) (s1 : Int32) (s2 : Int32) : Option ((Int32 × Int32) ⊕ ((Int32))) := (if (h.1 1 0) ≤ s2 then some (.inr s1) else vv_ck s2 12 (vv_let (s1 + (h.1 15 s2.toNatClampNeg)) (fun w2 => vv_let (s2 + 1) (fun w4 => some (.inl (w2, w4))))))
def ff_X0_allCharges (h : vv_H) : Option (Int32) := (vv_lp (fun (zs : Int32 × Int32) => ff_X0_allCharges_B4  h zs.1 zs.2) vv_F ((0 : Int32), (0 : Int32))).bind (fun (e7 : (Int32)) => some e7)
set_option maxHeartbeats 200000 in
theorem vt_X0_allCharges_B4 {x : vv_E} {post : Option Value → vv_H → Prop} {h : vv_H} {s1 : Int32} {s2 : Int32} {o : (Int32 × Int32) ⊕ ((Int32))}  (hm : ff_X0_allCharges_B4  h s1 s2 = some o) (hI : ∀ (z1 : Int32) (z2 : Int32) , o = .inl (z1, z2) → vv_V x vv_TC mm_X0_allCharges post 4 [some (.ref (vv_ad x 1)), some (.int z1), some (.int z2)] [] h) (hX0 : ∀ (z1 : Int32), o = .inr z1 → vv_V x vv_TC mm_X0_allCharges post 27 [none, some (.int z1), none] [] h) : vv_V x vv_TC mm_X0_allCharges post 4 [some (.ref (vv_ad x 1)), some (.int s1), some (.int s2)] [] h := by
  unfold ff_X0_allCharges_B4 at hm
  refine rr_iload_n (q := 5) dX0_allCharges_4 rfl rfl ?_
  refine rr_aload_n (q := 6) dX0_allCharges_5 rfl rfl ?_
  refine gf_X0_20 (q := 9) rfl dX0_allCharges_6 rfl ?_
  refine rr_icmp_ge (q := 12) (tgt := 27) dX0_allCharges_9 (by decide) rfl hm (fun hm => ?_) (fun hm => ?_)
  · obtain rfl := Option.some.inj hm
    refine rr_sub [false, true, false] rfl ?_
    exact hX0 s1 rfl
  · refine rr_iload_n (q := 13) dX0_allCharges_12 rfl rfl ?_
    refine rr_aload_n (q := 14) dX0_allCharges_13 rfl rfl ?_
    refine gf_X0_16 (q := 17) rfl dX0_allCharges_14 rfl ?_
    refine rr_iload_n (q := 18) dX0_allCharges_17 rfl rfl ?_
    obtain ⟨c1, hm⟩ := vv_ck_of hm
    refine rr_iald (q := 19) ylC_15 ynC_15 c1 dX0_allCharges_18 rfl ?_
    refine rr_iadd (q := 20) dX0_allCharges_19 rfl ?_
    obtain ⟨w2, c3, hm⟩ := vv_let_of hm
    rw [← c3]
    refine rr_istore_n (q := 21) [some (.ref (vv_ad x 1)), some (.int w2), some (.int s2)] dX0_allCharges_20 rfl rfl (Nat.le_of_ble_eq_true rfl) rfl rfl ?_
    obtain ⟨w4, c5, hm⟩ := vv_let_of hm
    refine rr_iinc (q := 24) [some (.ref (vv_ad x 1)), some (.int w2), some (.int w4)] dX0_allCharges_21 rfl rfl c5.symm (Nat.le_of_ble_eq_true rfl) rfl rfl ?_
    refine rr_goto (tgt := 4) dX0_allCharges_24 (by decide) ?_
    obtain rfl := Option.some.inj hm
    exact hI w2 w4 rfl
set_option maxHeartbeats 200000 in
theorem vt_X0_allCharges {x : vv_E} {post : Option Value → vv_H → Prop} {h : vv_H} {o : Int32}  (hm : ff_X0_allCharges  h = some o) (hp : post (some (.int o)) h) : vv_V x vv_TC mm_X0_allCharges post 0 [some (.ref (vv_ad x 1)), none, none] [] h := by
  unfold ff_X0_allCharges at hm
  refine rr_iconst (q := 1) (v := 0) dX0_allCharges_0 rfl (by decide) ?_
  refine rr_istore_n (q := 2) [some (.ref (vv_ad x 1)), some (.int (0 : Int32)), none] dX0_allCharges_1 rfl rfl (Nat.le_of_ble_eq_true rfl) rfl rfl ?_
  refine rr_iconst (q := 3) (v := 0) dX0_allCharges_2 rfl (by decide) ?_
  refine rr_istore_n (q := 4) [some (.ref (vv_ad x 1)), some (.int (0 : Int32)), some (.int (0 : Int32))] dX0_allCharges_3 rfl rfl (Nat.le_of_ble_eq_true rfl) rfl rfl ?_
  obtain ⟨r6, k8, hm⟩ := vv_bind hm
  refine vv_lp_link (P := fun (zs : Int32 × Int32) => vv_V x vv_TC mm_X0_allCharges post 4 [some (.ref (vv_ad x 1)), some (.int zs.1), some (.int zs.2)] [] h) (Q := (fun (e7 : (Int32)) => vv_V x vv_TC mm_X0_allCharges post 27 [none, some (.int e7), none] [] h)) (fun zs o hm hI hX => ?_) vv_F ((0 : Int32), (0 : Int32)) r6 k8 ?_
  · exact vt_X0_allCharges_B4   hm (fun z1 z2 e => hI (z1, z2) e) (fun z1 e => hX z1 e)
  · generalize r6 = e7 at hm ⊢
    try dsimp only [Sum.elim_inl, Sum.elim_inr] at hm
    try dsimp only [Sum.elim_inl, Sum.elim_inr]
    refine rr_iload_n (q := 28) dX0_allCharges_27 rfl rfl ?_
    obtain rfl := Option.some.inj hm
    exact rr_iret dX0_allCharges_28 rfl hp
theorem cc_X0_allCharges {x : vv_E} {h : vv_H} {o : Int32}  (hm : ff_X0_allCharges h = some o) : vv_C x vv_TC yX0_allCharges mm_X0_allCharges [.ref (vv_ad x 1)] h (fun v g => v = some (.int o) ∧ g = h) := vv_entry (by decide +kernel) rfl (Nat.le_of_ble_eq_true rfl) rfl (vt_X0_allCharges  hm ⟨rfl, rfl⟩)
def ff_X1_clear (h : vv_H) : Option (vv_H) := vv_let (vv_iu h 167 1 (0 : Int32)) (fun g1 => some g1)
set_option maxHeartbeats 200000 in
theorem vt_X1_clear {x : vv_E} {post : Option Value → vv_H → Prop} {h : vv_H} {o : vv_H}  (hm : ff_X1_clear  h = some o) (hp : post none o) : vv_V x vv_TC mm_X1_clear post 0 [some (.ref (vv_ad x 167))] [] h := by
  unfold ff_X1_clear at hm
  refine rr_aload_n (q := 1) dX1_clear_0 rfl rfl ?_
  refine rr_iconst (q := 2) (v := 0) dX1_clear_1 rfl (by decide) ?_
  refine pf_X1_18 (q := 5) rfl dX1_clear_2 rfl (fun g1 c2 => ?_)
  replace hm := vv_letE hm c2
  obtain rfl := Option.some.inj hm
  exact rr_vret dX1_clear_5 rfl hp
theorem cc_X1_clear {x : vv_E} {h : vv_H} {o : vv_H}  (hm : ff_X1_clear h = some o) : vv_C x vv_TC yX1_clear mm_X1_clear [.ref (vv_ad x 167)] h (fun v g => v = none ∧ g = o) := vv_entry (by decide +kernel) rfl (Nat.le_of_ble_eq_true rfl) rfl (vt_X1_clear  hm ⟨rfl, rfl⟩)
def ff_X1_offer (h : vv_H) (v1 : Int32) (v2 : Int32) : Option (Int32 × vv_H) := (if (h.1 167 1) < (10 : Int32) then vv_ck (h.1 167 1) 10 (vv_let (vv_iu h 168 (h.1 167 1).toNatClampNeg v1) (fun g2 => vv_ck (g2.1 167 1) 10 (vv_let (vv_iu g2 169 (g2.1 167 1).toNatClampNeg v2) (fun g5 => vv_let (vv_iu g5 167 1 ((g5.1 167 1) + (1 : Int32))) (fun g7 => some ((1 : Int32), g7)))))) else some ((0 : Int32), h))
set_option maxHeartbeats 200000 in
theorem vt_X1_offer {x : vv_E} {post : Option Value → vv_H → Prop} {h : vv_H} {v1 : Int32} {v2 : Int32} {o : Int32 × vv_H}  (hm : ff_X1_offer  h v1 v2 = some o) (hp : post (some (.int o.1)) o.2) : vv_V x vv_TC mm_X1_offer post 0 [some (.ref (vv_ad x 167)), some (.int v1), some (.int v2)] [] h := by
  unfold ff_X1_offer at hm
  refine rr_aload_n (q := 1) dX1_offer_0 rfl rfl ?_
  refine gf_X1_18 (q := 4) rfl dX1_offer_1 rfl ?_
  refine rr_bipush (q := 6) (v := 10) dX1_offer_4 rfl (by decide) ?_
  refine rr_icmp_lt (q := 9) (tgt := 11) dX1_offer_6 (by decide) rfl hm (fun hm => ?_) (fun hm => ?_)
  · refine rr_aload_n (q := 12) dX1_offer_11 rfl rfl ?_
    refine gf_X1_9 (q := 15) rfl dX1_offer_12 rfl ?_
    refine rr_aload_n (q := 16) dX1_offer_15 rfl rfl ?_
    refine gf_X1_18 (q := 19) rfl dX1_offer_16 rfl ?_
    refine rr_iload_n (q := 20) dX1_offer_19 rfl rfl ?_
    obtain ⟨c1, hm⟩ := vv_ck_of hm
    obtain ⟨g2, c3, hm⟩ := vv_let_of hm
    refine rr_iast (q := 21) ylC_168 ynC_168 c1 dX1_offer_20 rfl ?_
    rw [← c3]
    refine rr_aload_n (q := 22) dX1_offer_21 rfl rfl ?_
    refine gf_X1_15 (q := 25) rfl dX1_offer_22 rfl ?_
    refine rr_aload_n (q := 26) dX1_offer_25 rfl rfl ?_
    refine gf_X1_18 (q := 29) rfl dX1_offer_26 rfl ?_
    refine rr_iload_n (q := 30) dX1_offer_29 rfl rfl ?_
    obtain ⟨c4, hm⟩ := vv_ck_of hm
    obtain ⟨g5, c6, hm⟩ := vv_let_of hm
    refine rr_iast (q := 31) ylC_169 ynC_169 c4 dX1_offer_30 rfl ?_
    rw [← c6]
    refine rr_aload_n (q := 32) dX1_offer_31 rfl rfl ?_
    refine rr_dup (q := 33) dX1_offer_32 rfl rfl ?_
    refine gf_X1_18 (q := 36) rfl dX1_offer_33 rfl ?_
    refine rr_iconst (q := 37) (v := 1) dX1_offer_36 rfl (by decide) ?_
    refine rr_iadd (q := 38) dX1_offer_37 rfl ?_
    refine pf_X1_18 (q := 41) rfl dX1_offer_38 rfl (fun g7 c8 => ?_)
    replace hm := vv_letE hm c8
    refine rr_iconst (q := 42) (v := 1) dX1_offer_41 rfl (by decide) ?_
    obtain rfl := Option.some.inj hm
    exact rr_zret dX1_offer_42 rfl rfl hp
  · refine rr_iconst (q := 10) (v := 0) dX1_offer_9 rfl (by decide) ?_
    obtain rfl := Option.some.inj hm
    exact rr_zret dX1_offer_10 rfl rfl hp
theorem cc_X1_offer {x : vv_E} {h : vv_H} {v1 : Int32} {v2 : Int32} {o : Int32 × vv_H}  (hm : ff_X1_offer h v1 v2 = some o) : vv_C x vv_TC yX1_offer mm_X1_offer [.ref (vv_ad x 167), .int v1, .int v2] h (fun v g => v = some (.int o.1) ∧ g = o.2) := vv_entry (by decide +kernel) rfl (Nat.le_of_ble_eq_true rfl) rfl (vt_X1_offer  hm ⟨rfl, rfl⟩)
def ff_X1_unionOf_B4 (u1 : Int32) (h : vv_H) (s2 : Int32) (s3 : Int32) : Option ((Int32 × Int32) ⊕ ((Int32))) := (if (h.1 167 1) ≤ s3 then some (.inr s2) else (if ((u1 >>> (s3 &&& 31)) &&& (1 : Int32)) = 0 then vv_let (s3 + 1) (fun w1 => some (.inl (s2, w1))) else vv_ck s3 10 (vv_let (s2 ||| (h.1 169 s3.toNatClampNeg)) (fun w4 => vv_let (s3 + 1) (fun w6 => some (.inl (w4, w6)))))))
def ff_X1_unionOf (h : vv_H) (v1 : Int32) : Option (Int32) := (vv_lp (fun (zs : Int32 × Int32) => ff_X1_unionOf_B4  v1 h zs.1 zs.2) vv_F ((0 : Int32), (0 : Int32))).bind (fun (e9 : (Int32)) => some e9)
set_option maxHeartbeats 200000 in
theorem vt_X1_unionOf_B4 {x : vv_E} {post : Option Value → vv_H → Prop} {u1 : Int32} {h : vv_H} {s2 : Int32} {s3 : Int32} {o : (Int32 × Int32) ⊕ ((Int32))}  (hm : ff_X1_unionOf_B4  u1 h s2 s3 = some o) (hI : ∀ (z2 : Int32) (z3 : Int32) , o = .inl (z2, z3) → vv_V x vv_TC mm_X1_unionOf post 4 [some (.ref (vv_ad x 167)), some (.int u1), some (.int z2), some (.int z3)] [] h) (hX0 : ∀ (z2 : Int32), o = .inr z2 → vv_V x vv_TC mm_X1_unionOf post 35 [none, none, some (.int z2), none] [] h) : vv_V x vv_TC mm_X1_unionOf post 4 [some (.ref (vv_ad x 167)), some (.int u1), some (.int s2), some (.int s3)] [] h := by
  unfold ff_X1_unionOf_B4 at hm
  refine rr_iload_n (q := 5) dX1_unionOf_4 rfl rfl ?_
  refine rr_aload_n (q := 6) dX1_unionOf_5 rfl rfl ?_
  refine gf_X1_18 (q := 9) rfl dX1_unionOf_6 rfl ?_
  refine rr_icmp_ge (q := 12) (tgt := 35) dX1_unionOf_9 (by decide) rfl hm (fun hm => ?_) (fun hm => ?_)
  · obtain rfl := Option.some.inj hm
    refine rr_sub [false, false, true, false] rfl ?_
    exact hX0 s2 rfl
  · refine rr_iload_n (q := 13) dX1_unionOf_12 rfl rfl ?_
    refine rr_iload_n (q := 14) dX1_unionOf_13 rfl rfl ?_
    refine rr_ishr (q := 15) dX1_unionOf_14 rfl ?_
    refine rr_iconst (q := 16) (v := 1) dX1_unionOf_15 rfl (by decide) ?_
    refine rr_iand (q := 17) dX1_unionOf_16 rfl ?_
    refine rr_if_eq (q := 20) (tgt := 29) dX1_unionOf_17 (by decide) rfl hm (fun hm => ?_) (fun hm => ?_)
    · obtain ⟨w1, c2, hm⟩ := vv_let_of hm
      refine rr_iinc (q := 32) [some (.ref (vv_ad x 167)), some (.int u1), some (.int s2), some (.int w1)] dX1_unionOf_29 rfl rfl c2.symm (Nat.le_of_ble_eq_true rfl) rfl rfl ?_
      refine rr_goto (tgt := 4) dX1_unionOf_32 (by decide) ?_
      obtain rfl := Option.some.inj hm
      exact hI s2 w1 rfl
    · refine rr_iload_n (q := 21) dX1_unionOf_20 rfl rfl ?_
      refine rr_aload_n (q := 22) dX1_unionOf_21 rfl rfl ?_
      refine gf_X1_15 (q := 25) rfl dX1_unionOf_22 rfl ?_
      refine rr_iload_n (q := 26) dX1_unionOf_25 rfl rfl ?_
      obtain ⟨c3, hm⟩ := vv_ck_of hm
      refine rr_iald (q := 27) ylC_169 ynC_169 c3 dX1_unionOf_26 rfl ?_
      refine rr_ior (q := 28) dX1_unionOf_27 rfl ?_
      obtain ⟨w4, c5, hm⟩ := vv_let_of hm
      rw [← c5]
      refine rr_istore_n (q := 29) [some (.ref (vv_ad x 167)), some (.int u1), some (.int w4), some (.int s3)] dX1_unionOf_28 rfl rfl (Nat.le_of_ble_eq_true rfl) rfl rfl ?_
      obtain ⟨w6, c7, hm⟩ := vv_let_of hm
      refine rr_iinc (q := 32) [some (.ref (vv_ad x 167)), some (.int u1), some (.int w4), some (.int w6)] dX1_unionOf_29 rfl rfl c7.symm (Nat.le_of_ble_eq_true rfl) rfl rfl ?_
      refine rr_goto (tgt := 4) dX1_unionOf_32 (by decide) ?_
      obtain rfl := Option.some.inj hm
      exact hI w4 w6 rfl
set_option maxHeartbeats 200000 in
theorem vt_X1_unionOf {x : vv_E} {post : Option Value → vv_H → Prop} {h : vv_H} {v1 : Int32} {o : Int32}  (hm : ff_X1_unionOf  h v1 = some o) (hp : post (some (.int o)) h) : vv_V x vv_TC mm_X1_unionOf post 0 [some (.ref (vv_ad x 167)), some (.int v1), none, none] [] h := by
  unfold ff_X1_unionOf at hm
  refine rr_iconst (q := 1) (v := 0) dX1_unionOf_0 rfl (by decide) ?_
  refine rr_istore_n (q := 2) [some (.ref (vv_ad x 167)), some (.int v1), some (.int (0 : Int32)), none] dX1_unionOf_1 rfl rfl (Nat.le_of_ble_eq_true rfl) rfl rfl ?_
  refine rr_iconst (q := 3) (v := 0) dX1_unionOf_2 rfl (by decide) ?_
  refine rr_istore_n (q := 4) [some (.ref (vv_ad x 167)), some (.int v1), some (.int (0 : Int32)), some (.int (0 : Int32))] dX1_unionOf_3 rfl rfl (Nat.le_of_ble_eq_true rfl) rfl rfl ?_
  obtain ⟨r8, k10, hm⟩ := vv_bind hm
  refine vv_lp_link (P := fun (zs : Int32 × Int32) => vv_V x vv_TC mm_X1_unionOf post 4 [some (.ref (vv_ad x 167)), some (.int v1), some (.int zs.1), some (.int zs.2)] [] h) (Q := (fun (e9 : (Int32)) => vv_V x vv_TC mm_X1_unionOf post 35 [none, none, some (.int e9), none] [] h)) (fun zs o hm hI hX => ?_) vv_F ((0 : Int32), (0 : Int32)) r8 k10 ?_
  · exact vt_X1_unionOf_B4   hm (fun z2 z3 e => hI (z2, z3) e) (fun z2 e => hX z2 e)
  · generalize r8 = e9 at hm ⊢
    try dsimp only [Sum.elim_inl, Sum.elim_inr] at hm
    try dsimp only [Sum.elim_inl, Sum.elim_inr]
    refine rr_iload_n (q := 36) dX1_unionOf_35 rfl rfl ?_
    obtain rfl := Option.some.inj hm
    exact rr_iret dX1_unionOf_36 rfl hp
theorem cc_X1_unionOf {x : vv_E} {h : vv_H} {v1 : Int32} {o : Int32}  (hm : ff_X1_unionOf h v1 = some o) : vv_C x vv_TC yX1_unionOf mm_X1_unionOf [.ref (vv_ad x 167), .int v1] h (fun v g => v = some (.int o) ∧ g = h) := vv_entry (by decide +kernel) rfl (Nat.le_of_ble_eq_true rfl) rfl (vt_X1_unionOf  hm ⟨rfl, rfl⟩)
def ff_X1_sizeBits_B4 (h : vv_H) (s1 : Int32) (s2 : Int32) : Option ((Int32 × Int32) ⊕ ((Int32))) := (if (h.1 167 1) ≤ s2 then some (.inr s1) else (if (((h.1 167 2) >>> (s2 &&& 31)) &&& (1 : Int32)) = 0 then vv_let (s2 + 1) (fun w1 => some (.inl (s1, w1))) else vv_ck s2 10 (vv_let (s1 ||| ((1 : Int32) <<< ((h.1 168 s2.toNatClampNeg) &&& 31))) (fun w4 => vv_let (s2 + 1) (fun w6 => some (.inl (w4, w6)))))))
def ff_X1_sizeBits (h : vv_H) : Option (Int32) := (vv_lp (fun (zs : Int32 × Int32) => ff_X1_sizeBits_B4  h zs.1 zs.2) vv_F ((0 : Int32), (0 : Int32))).bind (fun (e9 : (Int32)) => some e9)
set_option maxHeartbeats 200000 in
theorem vt_X1_sizeBits_B4 {x : vv_E} {post : Option Value → vv_H → Prop} {h : vv_H} {s1 : Int32} {s2 : Int32} {o : (Int32 × Int32) ⊕ ((Int32))}  (hm : ff_X1_sizeBits_B4  h s1 s2 = some o) (hI : ∀ (z1 : Int32) (z2 : Int32) , o = .inl (z1, z2) → vv_V x vv_TC mm_X1_sizeBits post 4 [some (.ref (vv_ad x 167)), some (.int z1), some (.int z2)] [] h) (hX0 : ∀ (z1 : Int32), o = .inr z1 → vv_V x vv_TC mm_X1_sizeBits post 40 [none, some (.int z1), none] [] h) : vv_V x vv_TC mm_X1_sizeBits post 4 [some (.ref (vv_ad x 167)), some (.int s1), some (.int s2)] [] h := by
  unfold ff_X1_sizeBits_B4 at hm
  refine rr_iload_n (q := 5) dX1_sizeBits_4 rfl rfl ?_
  refine rr_aload_n (q := 6) dX1_sizeBits_5 rfl rfl ?_
  refine gf_X1_18 (q := 9) rfl dX1_sizeBits_6 rfl ?_
  refine rr_icmp_ge (q := 12) (tgt := 40) dX1_sizeBits_9 (by decide) rfl hm (fun hm => ?_) (fun hm => ?_)
  · obtain rfl := Option.some.inj hm
    refine rr_sub [false, true, false] rfl ?_
    exact hX0 s1 rfl
  · refine rr_aload_n (q := 13) dX1_sizeBits_12 rfl rfl ?_
    refine gf_X1_22 (q := 16) rfl dX1_sizeBits_13 rfl ?_
    refine rr_iload_n (q := 17) dX1_sizeBits_16 rfl rfl ?_
    refine rr_ishr (q := 18) dX1_sizeBits_17 rfl ?_
    refine rr_iconst (q := 19) (v := 1) dX1_sizeBits_18 rfl (by decide) ?_
    refine rr_iand (q := 20) dX1_sizeBits_19 rfl ?_
    refine rr_if_eq (q := 23) (tgt := 34) dX1_sizeBits_20 (by decide) rfl hm (fun hm => ?_) (fun hm => ?_)
    · obtain ⟨w1, c2, hm⟩ := vv_let_of hm
      refine rr_iinc (q := 37) [some (.ref (vv_ad x 167)), some (.int s1), some (.int w1)] dX1_sizeBits_34 rfl rfl c2.symm (Nat.le_of_ble_eq_true rfl) rfl rfl ?_
      refine rr_goto (tgt := 4) dX1_sizeBits_37 (by decide) ?_
      obtain rfl := Option.some.inj hm
      exact hI s1 w1 rfl
    · refine rr_iload_n (q := 24) dX1_sizeBits_23 rfl rfl ?_
      refine rr_iconst (q := 25) (v := 1) dX1_sizeBits_24 rfl (by decide) ?_
      refine rr_aload_n (q := 26) dX1_sizeBits_25 rfl rfl ?_
      refine gf_X1_9 (q := 29) rfl dX1_sizeBits_26 rfl ?_
      refine rr_iload_n (q := 30) dX1_sizeBits_29 rfl rfl ?_
      obtain ⟨c3, hm⟩ := vv_ck_of hm
      refine rr_iald (q := 31) ylC_168 ynC_168 c3 dX1_sizeBits_30 rfl ?_
      refine rr_ishl (q := 32) dX1_sizeBits_31 rfl ?_
      refine rr_ior (q := 33) dX1_sizeBits_32 rfl ?_
      obtain ⟨w4, c5, hm⟩ := vv_let_of hm
      rw [← c5]
      refine rr_istore_n (q := 34) [some (.ref (vv_ad x 167)), some (.int w4), some (.int s2)] dX1_sizeBits_33 rfl rfl (Nat.le_of_ble_eq_true rfl) rfl rfl ?_
      obtain ⟨w6, c7, hm⟩ := vv_let_of hm
      refine rr_iinc (q := 37) [some (.ref (vv_ad x 167)), some (.int w4), some (.int w6)] dX1_sizeBits_34 rfl rfl c7.symm (Nat.le_of_ble_eq_true rfl) rfl rfl ?_
      refine rr_goto (tgt := 4) dX1_sizeBits_37 (by decide) ?_
      obtain rfl := Option.some.inj hm
      exact hI w4 w6 rfl
set_option maxHeartbeats 200000 in
theorem vt_X1_sizeBits {x : vv_E} {post : Option Value → vv_H → Prop} {h : vv_H} {o : Int32}  (hm : ff_X1_sizeBits  h = some o) (hp : post (some (.int o)) h) : vv_V x vv_TC mm_X1_sizeBits post 0 [some (.ref (vv_ad x 167)), none, none] [] h := by
  unfold ff_X1_sizeBits at hm
  refine rr_iconst (q := 1) (v := 0) dX1_sizeBits_0 rfl (by decide) ?_
  refine rr_istore_n (q := 2) [some (.ref (vv_ad x 167)), some (.int (0 : Int32)), none] dX1_sizeBits_1 rfl rfl (Nat.le_of_ble_eq_true rfl) rfl rfl ?_
  refine rr_iconst (q := 3) (v := 0) dX1_sizeBits_2 rfl (by decide) ?_
  refine rr_istore_n (q := 4) [some (.ref (vv_ad x 167)), some (.int (0 : Int32)), some (.int (0 : Int32))] dX1_sizeBits_3 rfl rfl (Nat.le_of_ble_eq_true rfl) rfl rfl ?_
  obtain ⟨r8, k10, hm⟩ := vv_bind hm
  refine vv_lp_link (P := fun (zs : Int32 × Int32) => vv_V x vv_TC mm_X1_sizeBits post 4 [some (.ref (vv_ad x 167)), some (.int zs.1), some (.int zs.2)] [] h) (Q := (fun (e9 : (Int32)) => vv_V x vv_TC mm_X1_sizeBits post 40 [none, some (.int e9), none] [] h)) (fun zs o hm hI hX => ?_) vv_F ((0 : Int32), (0 : Int32)) r8 k10 ?_
  · exact vt_X1_sizeBits_B4   hm (fun z1 z2 e => hI (z1, z2) e) (fun z1 e => hX z1 e)
  · generalize r8 = e9 at hm ⊢
    try dsimp only [Sum.elim_inl, Sum.elim_inr] at hm
    try dsimp only [Sum.elim_inl, Sum.elim_inr]
    refine rr_iload_n (q := 41) dX1_sizeBits_40 rfl rfl ?_
    obtain rfl := Option.some.inj hm
    exact rr_iret dX1_sizeBits_41 rfl hp
theorem cc_X1_sizeBits {x : vv_E} {h : vv_H} {o : Int32}  (hm : ff_X1_sizeBits h = some o) : vv_C x vv_TC yX1_sizeBits mm_X1_sizeBits [.ref (vv_ad x 167)] h (fun v g => v = some (.int o) ∧ g = h) := vv_entry (by decide +kernel) rfl (Nat.le_of_ble_eq_true rfl) rfl (vt_X1_sizeBits  hm ⟨rfl, rfl⟩)
def ff_X2_add (h : vv_H) (v1 : Int32) (v2 : Int32) (v3 : Int32) (v4 : Int32) (v5 : Int32) : Option (Int32 × vv_H) := (if (h.1 16 0) < (60 : Int32) then vv_ck (h.1 16 0) 60 (vv_let (vv_iu h 17 (h.1 16 0).toNatClampNeg v1) (fun g2 => vv_ck (g2.1 16 0) 60 (vv_let (vv_iu g2 18 (g2.1 16 0).toNatClampNeg v2) (fun g5 => vv_ck (g5.1 16 0) 60 (vv_let (vv_iu g5 19 (g5.1 16 0).toNatClampNeg v3) (fun g8 => vv_ck (g8.1 16 0) 60 (vv_let (vv_iu g8 20 (g8.1 16 0).toNatClampNeg v4) (fun g11 => vv_ck (g11.1 16 0) 60 (vv_let (vv_iu g11 21 (g11.1 16 0).toNatClampNeg v5) (fun g14 => vv_let (vv_iu g14 16 0 ((g14.1 16 0) + (1 : Int32))) (fun g16 => some ((g16.1 16 0), g16)))))))))))) else some ((-3 : Int32), h))
set_option maxHeartbeats 200000 in
theorem vt_X2_add {x : vv_E} {post : Option Value → vv_H → Prop} {h : vv_H} {v1 : Int32} {v2 : Int32} {v3 : Int32} {v4 : Int32} {v5 : Int32} {o : Int32 × vv_H}  (hm : ff_X2_add  h v1 v2 v3 v4 v5 = some o) (hp : post (some (.int o.1)) o.2) : vv_V x vv_TC mm_X2_add post 0 [some (.ref (vv_ad x 16)), some (.int v1), some (.int v2), some (.int v3), some (.int v4), some (.int v5)] [] h := by
  unfold ff_X2_add at hm
  refine rr_aload_n (q := 1) dX2_add_0 rfl rfl ?_
  refine gf_X2_27 (q := 4) rfl dX2_add_1 rfl ?_
  refine rr_bipush (q := 6) (v := 60) dX2_add_4 rfl (by decide) ?_
  refine rr_icmp_lt (q := 9) (tgt := 12) dX2_add_6 (by decide) rfl hm (fun hm => ?_) (fun hm => ?_)
  · refine rr_aload_n (q := 13) dX2_add_12 rfl rfl ?_
    refine gf_X2_9 (q := 16) rfl dX2_add_13 rfl ?_
    refine rr_aload_n (q := 17) dX2_add_16 rfl rfl ?_
    refine gf_X2_27 (q := 20) rfl dX2_add_17 rfl ?_
    refine rr_iload_n (q := 21) dX2_add_20 rfl rfl ?_
    obtain ⟨c1, hm⟩ := vv_ck_of hm
    obtain ⟨g2, c3, hm⟩ := vv_let_of hm
    refine rr_iast (q := 22) ylC_17 ynC_17 c1 dX2_add_21 rfl ?_
    rw [← c3]
    refine rr_aload_n (q := 23) dX2_add_22 rfl rfl ?_
    refine gf_X2_15 (q := 26) rfl dX2_add_23 rfl ?_
    refine rr_aload_n (q := 27) dX2_add_26 rfl rfl ?_
    refine gf_X2_27 (q := 30) rfl dX2_add_27 rfl ?_
    refine rr_iload_n (q := 31) dX2_add_30 rfl rfl ?_
    obtain ⟨c4, hm⟩ := vv_ck_of hm
    obtain ⟨g5, c6, hm⟩ := vv_let_of hm
    refine rr_iast (q := 32) ylC_18 ynC_18 c4 dX2_add_31 rfl ?_
    rw [← c6]
    refine rr_aload_n (q := 33) dX2_add_32 rfl rfl ?_
    refine gf_X2_18 (q := 36) rfl dX2_add_33 rfl ?_
    refine rr_aload_n (q := 37) dX2_add_36 rfl rfl ?_
    refine gf_X2_27 (q := 40) rfl dX2_add_37 rfl ?_
    refine rr_iload_n (q := 41) dX2_add_40 rfl rfl ?_
    obtain ⟨c7, hm⟩ := vv_ck_of hm
    obtain ⟨g8, c9, hm⟩ := vv_let_of hm
    refine rr_iast (q := 42) ylC_19 ynC_19 c7 dX2_add_41 rfl ?_
    rw [← c9]
    refine rr_aload_n (q := 43) dX2_add_42 rfl rfl ?_
    refine gf_X2_21 (q := 46) rfl dX2_add_43 rfl ?_
    refine rr_aload_n (q := 47) dX2_add_46 rfl rfl ?_
    refine gf_X2_27 (q := 50) rfl dX2_add_47 rfl ?_
    refine rr_iload (q := 52) dX2_add_50 rfl rfl ?_
    obtain ⟨c10, hm⟩ := vv_ck_of hm
    obtain ⟨g11, c12, hm⟩ := vv_let_of hm
    refine rr_iast (q := 53) ylC_20 ynC_20 c10 dX2_add_52 rfl ?_
    rw [← c12]
    refine rr_aload_n (q := 54) dX2_add_53 rfl rfl ?_
    refine gf_X2_24 (q := 57) rfl dX2_add_54 rfl ?_
    refine rr_aload_n (q := 58) dX2_add_57 rfl rfl ?_
    refine gf_X2_27 (q := 61) rfl dX2_add_58 rfl ?_
    refine rr_iload (q := 63) dX2_add_61 rfl rfl ?_
    obtain ⟨c13, hm⟩ := vv_ck_of hm
    obtain ⟨g14, c15, hm⟩ := vv_let_of hm
    refine rr_iast (q := 64) ylC_21 ynC_21 c13 dX2_add_63 rfl ?_
    rw [← c15]
    refine rr_aload_n (q := 65) dX2_add_64 rfl rfl ?_
    refine rr_dup (q := 66) dX2_add_65 rfl rfl ?_
    refine gf_X2_27 (q := 69) rfl dX2_add_66 rfl ?_
    refine rr_iconst (q := 70) (v := 1) dX2_add_69 rfl (by decide) ?_
    refine rr_iadd (q := 71) dX2_add_70 rfl ?_
    refine pf_X2_27 (q := 74) rfl dX2_add_71 rfl (fun g16 c17 => ?_)
    replace hm := vv_letE hm c17
    refine rr_aload_n (q := 75) dX2_add_74 rfl rfl ?_
    refine gf_X2_27 (q := 78) rfl dX2_add_75 rfl ?_
    obtain rfl := Option.some.inj hm
    exact rr_iret dX2_add_78 rfl hp
  · refine rr_bipush (q := 11) (v := -3) dX2_add_9 rfl (by decide) ?_
    obtain rfl := Option.some.inj hm
    exact rr_iret dX2_add_11 rfl hp
theorem cc_X2_add {x : vv_E} {h : vv_H} {v1 : Int32} {v2 : Int32} {v3 : Int32} {v4 : Int32} {v5 : Int32} {o : Int32 × vv_H}  (hm : ff_X2_add h v1 v2 v3 v4 v5 = some o) : vv_C x vv_TC yX2_add mm_X2_add [.ref (vv_ad x 16), .int v1, .int v2, .int v3, .int v4, .int v5] h (fun v g => v = some (.int o.1) ∧ g = o.2) := vv_entry (by decide +kernel) rfl (Nat.le_of_ble_eq_true rfl) rfl (vt_X2_add  hm ⟨rfl, rfl⟩)
def ff_X2_asKnown_J68  (u1 : Int32) (u2 : Int32) (u3 : Int32) (u4 : Int32) (m5 : Int32) (m6 : Int32) (m7 : Int32) (z0 : Int32) (h : vv_H) : Option ((Int32 × Int32 × Int32) ⊕ ((Int32))) := (if z0 = 0 then vv_let (m7 + 1) (fun w2 => some (.inl (m5, m6, w2))) else vv_ck m7 60 ((if (h.1 20 m7.toNatClampNeg) < m6 then vv_let (m7 + 1) (fun w5 => some (.inl (m5, m6, w5))) else vv_ck m7 60 (vv_let (h.1 19 m7.toNatClampNeg) (fun w8 => vv_ck m7 60 (vv_let (h.1 20 m7.toNatClampNeg) (fun w11 => vv_let (m7 + 1) (fun w13 => some (.inl (w8, w11, w13))))))))))
def ff_X2_asKnown_J67  (u1 : Int32) (u2 : Int32) (u3 : Int32) (u4 : Int32) (m5 : Int32) (m6 : Int32) (m7 : Int32) (h : vv_H) : Option ((Int32 × Int32 × Int32) ⊕ ((Int32))) := ff_X2_asKnown_J68  u1 u2 u3 u4 m5 m6 m7 (0 : Int32) h
def ff_X2_asKnown_B9 (u1 : Int32) (u2 : Int32) (u3 : Int32) (u4 : Int32) (h : vv_H) (s5 : Int32) (s6 : Int32) (s7 : Int32) : Option ((Int32 × Int32 × Int32) ⊕ ((Int32))) := (if (h.1 16 0) ≤ s7 then some (.inr s5) else vv_ck s7 60 ((if (h.1 17 s7.toNatClampNeg) = u1 then vv_ck s7 60 ((if (h.1 18 s7.toNatClampNeg) = u2 then vv_ck s7 60 ((if u3 < (h.1 21 s7.toNatClampNeg) then ff_X2_asKnown_J67  u1 u2 u3 u4 s5 s6 s7 h else vv_ck s7 60 ((if u4 < (h.1 20 s7.toNatClampNeg) then ff_X2_asKnown_J67  u1 u2 u3 u4 s5 s6 s7 h else ff_X2_asKnown_J68  u1 u2 u3 u4 s5 s6 s7 (1 : Int32) h)))) else ff_X2_asKnown_J67  u1 u2 u3 u4 s5 s6 s7 h)) else ff_X2_asKnown_J67  u1 u2 u3 u4 s5 s6 s7 h)))
def ff_X2_asKnown (h : vv_H) (v1 : Int32) (v2 : Int32) (v3 : Int32) (v4 : Int32) : Option (Int32) := (vv_lp (fun (zs : Int32 × Int32 × Int32) => ff_X2_asKnown_B9  v1 v2 v3 v4 h zs.1 zs.2.1 zs.2.2) vv_F ((0 : Int32), (-1 : Int32), (0 : Int32))).bind (fun (e19 : (Int32)) => some e19)
set_option maxHeartbeats 200000 in
theorem vt_X2_asKnown_J68 {x : vv_E} {post : Option Value → vv_H → Prop}   {u1 : Int32} {u2 : Int32} {u3 : Int32} {u4 : Int32} {m5 : Int32} {m6 : Int32} {m7 : Int32} {z0 : Int32} {h : vv_H} {o : (Int32 × Int32 × Int32) ⊕ ((Int32))}  (hm : ff_X2_asKnown_J68  u1 u2 u3 u4 m5 m6 m7 z0 h = some o) (hI : ∀ (z5 : Int32) (z6 : Int32) (z7 : Int32) , o = .inl (z5, z6, z7) → vv_V x vv_TC mm_X2_asKnown post 9 [some (.ref (vv_ad x 16)), some (.int u1), some (.int u2), some (.int u3), some (.int u4), some (.int z5), some (.int z6), some (.int z7), none] [] h) (hX0 : ∀ (z5 : Int32), o = .inr z5 → vv_V x vv_TC mm_X2_asKnown post 111 [none, none, none, none, none, some (.int z5), none, none, none] [] h) : vv_V x vv_TC mm_X2_asKnown post 68 [some (.ref (vv_ad x 16)), some (.int u1), some (.int u2), some (.int u3), some (.int u4), some (.int m5), some (.int m6), some (.int m7), none] [.int z0] h := by
  unfold ff_X2_asKnown_J68 at hm
  refine rr_istore (q := 70) [some (.ref (vv_ad x 16)), some (.int u1), some (.int u2), some (.int u3), some (.int u4), some (.int m5), some (.int m6), some (.int m7), some (.int z0)] dX2_asKnown_68 rfl (Nat.le_of_ble_eq_true rfl) rfl rfl ?_
  refine rr_iload (q := 72) dX2_asKnown_70 rfl rfl ?_
  refine rr_if_eq (q := 75) (tgt := 105) dX2_asKnown_72 (by decide) rfl hm (fun hm => ?_) (fun hm => ?_)
  · obtain ⟨w2, c3, hm⟩ := vv_let_of hm
    refine rr_iinc (q := 108) [some (.ref (vv_ad x 16)), some (.int u1), some (.int u2), some (.int u3), some (.int u4), some (.int m5), some (.int m6), some (.int w2), some (.int z0)] dX2_asKnown_105 rfl rfl c3.symm (Nat.le_of_ble_eq_true rfl) rfl rfl ?_
    refine rr_goto (tgt := 9) dX2_asKnown_108 (by decide) ?_
    obtain rfl := Option.some.inj hm
    refine rr_sub [true, true, true, true, true, true, true, true, false] rfl ?_
    exact hI m5 m6 w2 rfl
  · refine rr_aload_n (q := 76) dX2_asKnown_75 rfl rfl ?_
    refine gf_X2_21 (q := 79) rfl dX2_asKnown_76 rfl ?_
    refine rr_iload (q := 81) dX2_asKnown_79 rfl rfl ?_
    obtain ⟨c4, hm⟩ := vv_ck_of hm
    refine rr_iald (q := 82) ylC_20 ynC_20 c4 dX2_asKnown_81 rfl ?_
    refine rr_iload (q := 84) dX2_asKnown_82 rfl rfl ?_
    refine rr_icmp_lt (q := 87) (tgt := 105) dX2_asKnown_84 (by decide) rfl hm (fun hm => ?_) (fun hm => ?_)
    · obtain ⟨w5, c6, hm⟩ := vv_let_of hm
      refine rr_iinc (q := 108) [some (.ref (vv_ad x 16)), some (.int u1), some (.int u2), some (.int u3), some (.int u4), some (.int m5), some (.int m6), some (.int w5), some (.int z0)] dX2_asKnown_105 rfl rfl c6.symm (Nat.le_of_ble_eq_true rfl) rfl rfl ?_
      refine rr_goto (tgt := 9) dX2_asKnown_108 (by decide) ?_
      obtain rfl := Option.some.inj hm
      refine rr_sub [true, true, true, true, true, true, true, true, false] rfl ?_
      exact hI m5 m6 w5 rfl
    · refine rr_aload_n (q := 88) dX2_asKnown_87 rfl rfl ?_
      refine gf_X2_18 (q := 91) rfl dX2_asKnown_88 rfl ?_
      refine rr_iload (q := 93) dX2_asKnown_91 rfl rfl ?_
      obtain ⟨c7, hm⟩ := vv_ck_of hm
      refine rr_iald (q := 94) ylC_19 ynC_19 c7 dX2_asKnown_93 rfl ?_
      obtain ⟨w8, c9, hm⟩ := vv_let_of hm
      rw [← c9]
      refine rr_istore (q := 96) [some (.ref (vv_ad x 16)), some (.int u1), some (.int u2), some (.int u3), some (.int u4), some (.int w8), some (.int m6), some (.int m7), some (.int z0)] dX2_asKnown_94 rfl (Nat.le_of_ble_eq_true rfl) rfl rfl ?_
      refine rr_aload_n (q := 97) dX2_asKnown_96 rfl rfl ?_
      refine gf_X2_21 (q := 100) rfl dX2_asKnown_97 rfl ?_
      refine rr_iload (q := 102) dX2_asKnown_100 rfl rfl ?_
      obtain ⟨c10, hm⟩ := vv_ck_of hm
      refine rr_iald (q := 103) ylC_20 ynC_20 c10 dX2_asKnown_102 rfl ?_
      obtain ⟨w11, c12, hm⟩ := vv_let_of hm
      rw [← c12]
      refine rr_istore (q := 105) [some (.ref (vv_ad x 16)), some (.int u1), some (.int u2), some (.int u3), some (.int u4), some (.int w8), some (.int w11), some (.int m7), some (.int z0)] dX2_asKnown_103 rfl (Nat.le_of_ble_eq_true rfl) rfl rfl ?_
      obtain ⟨w13, c14, hm⟩ := vv_let_of hm
      refine rr_iinc (q := 108) [some (.ref (vv_ad x 16)), some (.int u1), some (.int u2), some (.int u3), some (.int u4), some (.int w8), some (.int w11), some (.int w13), some (.int z0)] dX2_asKnown_105 rfl rfl c14.symm (Nat.le_of_ble_eq_true rfl) rfl rfl ?_
      refine rr_goto (tgt := 9) dX2_asKnown_108 (by decide) ?_
      obtain rfl := Option.some.inj hm
      refine rr_sub [true, true, true, true, true, true, true, true, false] rfl ?_
      exact hI w8 w11 w13 rfl
set_option maxHeartbeats 200000 in
theorem vt_X2_asKnown_J67 {x : vv_E} {post : Option Value → vv_H → Prop}   {u1 : Int32} {u2 : Int32} {u3 : Int32} {u4 : Int32} {m5 : Int32} {m6 : Int32} {m7 : Int32} {h : vv_H} {o : (Int32 × Int32 × Int32) ⊕ ((Int32))}  (hm : ff_X2_asKnown_J67  u1 u2 u3 u4 m5 m6 m7 h = some o) (hI : ∀ (z5 : Int32) (z6 : Int32) (z7 : Int32) , o = .inl (z5, z6, z7) → vv_V x vv_TC mm_X2_asKnown post 9 [some (.ref (vv_ad x 16)), some (.int u1), some (.int u2), some (.int u3), some (.int u4), some (.int z5), some (.int z6), some (.int z7), none] [] h) (hX0 : ∀ (z5 : Int32), o = .inr z5 → vv_V x vv_TC mm_X2_asKnown post 111 [none, none, none, none, none, some (.int z5), none, none, none] [] h) : vv_V x vv_TC mm_X2_asKnown post 67 [some (.ref (vv_ad x 16)), some (.int u1), some (.int u2), some (.int u3), some (.int u4), some (.int m5), some (.int m6), some (.int m7), none] [] h := by
  unfold ff_X2_asKnown_J67 at hm
  refine rr_iconst (q := 68) (v := 0) dX2_asKnown_67 rfl (by decide) ?_
  exact vt_X2_asKnown_J68  hm hI hX0
set_option maxHeartbeats 200000 in
theorem vt_X2_asKnown_B9 {x : vv_E} {post : Option Value → vv_H → Prop} {u1 : Int32} {u2 : Int32} {u3 : Int32} {u4 : Int32} {h : vv_H} {s5 : Int32} {s6 : Int32} {s7 : Int32} {o : (Int32 × Int32 × Int32) ⊕ ((Int32))}  (hm : ff_X2_asKnown_B9  u1 u2 u3 u4 h s5 s6 s7 = some o) (hI : ∀ (z5 : Int32) (z6 : Int32) (z7 : Int32) , o = .inl (z5, z6, z7) → vv_V x vv_TC mm_X2_asKnown post 9 [some (.ref (vv_ad x 16)), some (.int u1), some (.int u2), some (.int u3), some (.int u4), some (.int z5), some (.int z6), some (.int z7), none] [] h) (hX0 : ∀ (z5 : Int32), o = .inr z5 → vv_V x vv_TC mm_X2_asKnown post 111 [none, none, none, none, none, some (.int z5), none, none, none] [] h) : vv_V x vv_TC mm_X2_asKnown post 9 [some (.ref (vv_ad x 16)), some (.int u1), some (.int u2), some (.int u3), some (.int u4), some (.int s5), some (.int s6), some (.int s7), none] [] h := by
  unfold ff_X2_asKnown_B9 at hm
  refine rr_iload (q := 11) dX2_asKnown_9 rfl rfl ?_
  refine rr_aload_n (q := 12) dX2_asKnown_11 rfl rfl ?_
  refine gf_X2_27 (q := 15) rfl dX2_asKnown_12 rfl ?_
  refine rr_icmp_ge (q := 18) (tgt := 111) dX2_asKnown_15 (by decide) rfl hm (fun hm => ?_) (fun hm => ?_)
  · obtain rfl := Option.some.inj hm
    refine rr_sub [false, false, false, false, false, true, false, false, false] rfl ?_
    exact hX0 s5 rfl
  · refine rr_aload_n (q := 19) dX2_asKnown_18 rfl rfl ?_
    refine gf_X2_9 (q := 22) rfl dX2_asKnown_19 rfl ?_
    refine rr_iload (q := 24) dX2_asKnown_22 rfl rfl ?_
    obtain ⟨c1, hm⟩ := vv_ck_of hm
    refine rr_iald (q := 25) ylC_17 ynC_17 c1 dX2_asKnown_24 rfl ?_
    refine rr_iload_n (q := 26) dX2_asKnown_25 rfl rfl ?_
    refine rr_icmp_ne (q := 29) (tgt := 67) dX2_asKnown_26 (by decide) rfl hm (fun hm => ?_) (fun hm => ?_)
    · exact vt_X2_asKnown_J67  hm hI hX0
    · refine rr_aload_n (q := 30) dX2_asKnown_29 rfl rfl ?_
      refine gf_X2_15 (q := 33) rfl dX2_asKnown_30 rfl ?_
      refine rr_iload (q := 35) dX2_asKnown_33 rfl rfl ?_
      obtain ⟨c15, hm⟩ := vv_ck_of hm
      refine rr_iald (q := 36) ylC_18 ynC_18 c15 dX2_asKnown_35 rfl ?_
      refine rr_iload_n (q := 37) dX2_asKnown_36 rfl rfl ?_
      refine rr_icmp_ne (q := 40) (tgt := 67) dX2_asKnown_37 (by decide) rfl hm (fun hm => ?_) (fun hm => ?_)
      · exact vt_X2_asKnown_J67  hm hI hX0
      · refine rr_aload_n (q := 41) dX2_asKnown_40 rfl rfl ?_
        refine gf_X2_24 (q := 44) rfl dX2_asKnown_41 rfl ?_
        refine rr_iload (q := 46) dX2_asKnown_44 rfl rfl ?_
        obtain ⟨c16, hm⟩ := vv_ck_of hm
        refine rr_iald (q := 47) ylC_21 ynC_21 c16 dX2_asKnown_46 rfl ?_
        refine rr_iload_n (q := 48) dX2_asKnown_47 rfl rfl ?_
        refine rr_icmp_gt (q := 51) (tgt := 67) dX2_asKnown_48 (by decide) rfl hm (fun hm => ?_) (fun hm => ?_)
        · exact vt_X2_asKnown_J67  hm hI hX0
        · refine rr_aload_n (q := 52) dX2_asKnown_51 rfl rfl ?_
          refine gf_X2_21 (q := 55) rfl dX2_asKnown_52 rfl ?_
          refine rr_iload (q := 57) dX2_asKnown_55 rfl rfl ?_
          obtain ⟨c17, hm⟩ := vv_ck_of hm
          refine rr_iald (q := 58) ylC_20 ynC_20 c17 dX2_asKnown_57 rfl ?_
          refine rr_iload (q := 60) dX2_asKnown_58 rfl rfl ?_
          refine rr_icmp_gt (q := 63) (tgt := 67) dX2_asKnown_60 (by decide) rfl hm (fun hm => ?_) (fun hm => ?_)
          · exact vt_X2_asKnown_J67  hm hI hX0
          · refine rr_iconst (q := 64) (v := 1) dX2_asKnown_63 rfl (by decide) ?_
            refine rr_goto (tgt := 68) dX2_asKnown_64 (by decide) ?_
            exact vt_X2_asKnown_J68  hm hI hX0
set_option maxHeartbeats 200000 in
theorem vt_X2_asKnown {x : vv_E} {post : Option Value → vv_H → Prop} {h : vv_H} {v1 : Int32} {v2 : Int32} {v3 : Int32} {v4 : Int32} {o : Int32}  (hm : ff_X2_asKnown  h v1 v2 v3 v4 = some o) (hp : post (some (.int o)) h) : vv_V x vv_TC mm_X2_asKnown post 0 [some (.ref (vv_ad x 16)), some (.int v1), some (.int v2), some (.int v3), some (.int v4), none, none, none, none] [] h := by
  unfold ff_X2_asKnown at hm
  refine rr_iconst (q := 1) (v := 0) dX2_asKnown_0 rfl (by decide) ?_
  refine rr_istore (q := 3) [some (.ref (vv_ad x 16)), some (.int v1), some (.int v2), some (.int v3), some (.int v4), some (.int (0 : Int32)), none, none, none] dX2_asKnown_1 rfl (Nat.le_of_ble_eq_true rfl) rfl rfl ?_
  refine rr_iconst (q := 4) (v := -1) dX2_asKnown_3 rfl (by decide) ?_
  refine rr_istore (q := 6) [some (.ref (vv_ad x 16)), some (.int v1), some (.int v2), some (.int v3), some (.int v4), some (.int (0 : Int32)), some (.int (-1 : Int32)), none, none] dX2_asKnown_4 rfl (Nat.le_of_ble_eq_true rfl) rfl rfl ?_
  refine rr_iconst (q := 7) (v := 0) dX2_asKnown_6 rfl (by decide) ?_
  refine rr_istore (q := 9) [some (.ref (vv_ad x 16)), some (.int v1), some (.int v2), some (.int v3), some (.int v4), some (.int (0 : Int32)), some (.int (-1 : Int32)), some (.int (0 : Int32)), none] dX2_asKnown_7 rfl (Nat.le_of_ble_eq_true rfl) rfl rfl ?_
  obtain ⟨r18, k20, hm⟩ := vv_bind hm
  refine vv_lp_link (P := fun (zs : Int32 × Int32 × Int32) => vv_V x vv_TC mm_X2_asKnown post 9 [some (.ref (vv_ad x 16)), some (.int v1), some (.int v2), some (.int v3), some (.int v4), some (.int zs.1), some (.int zs.2.1), some (.int zs.2.2), none] [] h) (Q := (fun (e19 : (Int32)) => vv_V x vv_TC mm_X2_asKnown post 111 [none, none, none, none, none, some (.int e19), none, none, none] [] h)) (fun zs o hm hI hX => ?_) vv_F ((0 : Int32), (-1 : Int32), (0 : Int32)) r18 k20 ?_
  · exact vt_X2_asKnown_B9   hm (fun z5 z6 z7 e => hI (z5, z6, z7) e) (fun z5 e => hX z5 e)
  · generalize r18 = e19 at hm ⊢
    try dsimp only [Sum.elim_inl, Sum.elim_inr] at hm
    try dsimp only [Sum.elim_inl, Sum.elim_inr]
    refine rr_iload (q := 113) dX2_asKnown_111 rfl rfl ?_
    obtain rfl := Option.some.inj hm
    exact rr_iret dX2_asKnown_113 rfl hp
theorem cc_X2_asKnown {x : vv_E} {h : vv_H} {v1 : Int32} {v2 : Int32} {v3 : Int32} {v4 : Int32} {o : Int32}  (hm : ff_X2_asKnown h v1 v2 v3 v4 = some o) : vv_C x vv_TC yX2_asKnown mm_X2_asKnown [.ref (vv_ad x 16), .int v1, .int v2, .int v3, .int v4] h (fun v g => v = some (.int o) ∧ g = h) := vv_entry (by decide +kernel) rfl (Nat.le_of_ble_eq_true rfl) rfl (vt_X2_asKnown  hm ⟨rfl, rfl⟩)
def ff_X3_offer_B15 (u1 : Int32) (u3 : Int32) (s4 : Int32) (h : vv_H) : Option ((Int32 × vv_H) ⊕ ((vv_H))) := (if (h.1 170 2) ≤ s4 then some (.inr h) else (if ((u3 >>> (s4 &&& 31)) &&& (1 : Int32)) = 0 then vv_let (s4 + 1) (fun w5 => some (.inl (w5, h))) else vv_ck s4 32 (vv_ck s4 32 (vv_let (vv_lu h 171 s4.toNatClampNeg ((h.2.1 171 s4.toNatClampNeg) ||| ((1 : Int64) <<< (u1.toInt64 &&& 63)))) (fun g9 => vv_let (s4 + 1) (fun w11 => some (.inl (w11, g9))))))))
def ff_X3_offer (h : vv_H) (v1 : Int32) (v2 : Int32) (v3 : Int32) : Option (vv_H) := vv_ck v2 100 (vv_ck v2 100 (vv_let (vv_lu h 175 v2.toNatClampNeg ((h.2.1 175 v2.toNatClampNeg) ||| ((1 : Int64) <<< (v1.toInt64 &&& 63)))) (fun g3 => (vv_lp (fun (zs : Int32 × vv_H) => ff_X3_offer_B15  v1 v3 zs.1 zs.2) vv_F ((0 : Int32), g3)).bind (fun (e14 : (vv_H)) => some e14))))
set_option maxHeartbeats 200000 in
theorem vt_X3_offer_B15 {x : vv_E} {post : Option Value → vv_H → Prop} {u1 : Int32} {u3 : Int32} {s4 : Int32} {h : vv_H} {o : (Int32 × vv_H) ⊕ ((vv_H))}  (hm : ff_X3_offer_B15  u1 u3 s4 h = some o) (hI : ∀ (z4 : Int32) (zh : vv_H), o = .inl (z4, zh) → vv_V x vv_TC mm_X3_offer post 15 [some (.ref (vv_ad x 170)), some (.int u1), none, some (.int u3), some (.int z4)] [] zh) (hX0 : ∀  (zh : vv_H), o = .inr zh → vv_V x vv_TC mm_X3_offer post 52 [none, none, none, none, none] [] zh) : vv_V x vv_TC mm_X3_offer post 15 [some (.ref (vv_ad x 170)), some (.int u1), none, some (.int u3), some (.int s4)] [] h := by
  unfold ff_X3_offer_B15 at hm
  refine rr_iload (q := 17) dX3_offer_15 rfl rfl ?_
  refine rr_aload_n (q := 18) dX3_offer_17 rfl rfl ?_
  refine gf_X3_34 (q := 21) rfl dX3_offer_18 rfl ?_
  refine rr_icmp_ge (q := 24) (tgt := 52) dX3_offer_21 (by decide) rfl hm (fun hm => ?_) (fun hm => ?_)
  · obtain rfl := Option.some.inj hm
    refine rr_sub [false, false, false, false, false] rfl ?_
    exact hX0 h rfl
  · refine rr_iload_n (q := 25) dX3_offer_24 rfl rfl ?_
    refine rr_iload (q := 27) dX3_offer_25 rfl rfl ?_
    refine rr_ishr (q := 28) dX3_offer_27 rfl ?_
    refine rr_iconst (q := 29) (v := 1) dX3_offer_28 rfl (by decide) ?_
    refine rr_iand (q := 30) dX3_offer_29 rfl ?_
    refine rr_if_eq (q := 33) (tgt := 46) dX3_offer_30 (by decide) rfl hm (fun hm => ?_) (fun hm => ?_)
    · obtain ⟨w5, c6, hm⟩ := vv_let_of hm
      refine rr_iinc (q := 49) [some (.ref (vv_ad x 170)), some (.int u1), none, some (.int u3), some (.int w5)] dX3_offer_46 rfl rfl c6.symm (Nat.le_of_ble_eq_true rfl) rfl rfl ?_
      refine rr_goto (tgt := 15) dX3_offer_49 (by decide) ?_
      obtain rfl := Option.some.inj hm
      exact hI w5 h rfl
    · refine rr_aload_n (q := 34) dX3_offer_33 rfl rfl ?_
      refine gf_X3_11 (q := 37) rfl dX3_offer_34 rfl ?_
      refine rr_iload (q := 39) dX3_offer_37 rfl rfl ?_
      refine rr_dup2 (q := 40) dX3_offer_39 rfl rfl rfl ?_
      obtain ⟨c7, hm⟩ := vv_ck_of hm
      refine rr_lald (q := 41) ylC_171 ynC_171 c7 dX3_offer_40 rfl ?_
      refine rr_lconst (q := 42) (v := 1) dX3_offer_41 rfl (by decide) ?_
      refine rr_iload_n (q := 43) dX3_offer_42 rfl rfl ?_
      refine rr_lshl (q := 44) dX3_offer_43 rfl ?_
      refine rr_lor (q := 45) dX3_offer_44 rfl ?_
      obtain ⟨c8, hm⟩ := vv_ck_of hm
      obtain ⟨g9, c10, hm⟩ := vv_let_of hm
      refine rr_last (q := 46) ylC_171 ynC_171 c8 dX3_offer_45 rfl ?_
      rw [← c10]
      obtain ⟨w11, c12, hm⟩ := vv_let_of hm
      refine rr_iinc (q := 49) [some (.ref (vv_ad x 170)), some (.int u1), none, some (.int u3), some (.int w11)] dX3_offer_46 rfl rfl c12.symm (Nat.le_of_ble_eq_true rfl) rfl rfl ?_
      refine rr_goto (tgt := 15) dX3_offer_49 (by decide) ?_
      obtain rfl := Option.some.inj hm
      exact hI w11 g9 rfl
set_option maxHeartbeats 200000 in
theorem vt_X3_offer {x : vv_E} {post : Option Value → vv_H → Prop} {h : vv_H} {v1 : Int32} {v2 : Int32} {v3 : Int32} {o : vv_H}  (hm : ff_X3_offer  h v1 v2 v3 = some o) (hp : post none o) : vv_V x vv_TC mm_X3_offer post 0 [some (.ref (vv_ad x 170)), some (.int v1), some (.int v2), some (.int v3), none] [] h := by
  unfold ff_X3_offer at hm
  refine rr_aload_n (q := 1) dX3_offer_0 rfl rfl ?_
  refine gf_X3_25 (q := 4) rfl dX3_offer_1 rfl ?_
  refine rr_iload_n (q := 5) dX3_offer_4 rfl rfl ?_
  refine rr_dup2 (q := 6) dX3_offer_5 rfl rfl rfl ?_
  obtain ⟨c1, hm⟩ := vv_ck_of hm
  refine rr_lald (q := 7) ylC_175 ynC_175 c1 dX3_offer_6 rfl ?_
  refine rr_lconst (q := 8) (v := 1) dX3_offer_7 rfl (by decide) ?_
  refine rr_iload_n (q := 9) dX3_offer_8 rfl rfl ?_
  refine rr_lshl (q := 10) dX3_offer_9 rfl ?_
  refine rr_lor (q := 11) dX3_offer_10 rfl ?_
  obtain ⟨c2, hm⟩ := vv_ck_of hm
  obtain ⟨g3, c4, hm⟩ := vv_let_of hm
  refine rr_last (q := 12) ylC_175 ynC_175 c2 dX3_offer_11 rfl ?_
  rw [← c4]
  refine rr_iconst (q := 13) (v := 0) dX3_offer_12 rfl (by decide) ?_
  refine rr_istore (q := 15) [some (.ref (vv_ad x 170)), some (.int v1), some (.int v2), some (.int v3), some (.int (0 : Int32))] dX3_offer_13 rfl (Nat.le_of_ble_eq_true rfl) rfl rfl ?_
  refine rr_sub [true, true, false, true, true] rfl ?_
  obtain ⟨r13, k15, hm⟩ := vv_bind hm
  refine vv_lp_link (P := fun (zs : Int32 × vv_H) => vv_V x vv_TC mm_X3_offer post 15 [some (.ref (vv_ad x 170)), some (.int v1), none, some (.int v3), some (.int zs.1)] [] zs.2) (Q := (fun (e14 : (vv_H)) => vv_V x vv_TC mm_X3_offer post 52 [none, none, none, none, none] [] e14)) (fun zs o hm hI hX => ?_) vv_F ((0 : Int32), g3) r13 k15 ?_
  · exact vt_X3_offer_B15   hm (fun z4 zh e => hI (z4, zh) e) (fun zh e => hX zh e)
  · generalize r13 = e14 at hm ⊢
    try dsimp only [Sum.elim_inl, Sum.elim_inr] at hm
    try dsimp only [Sum.elim_inl, Sum.elim_inr]
    obtain rfl := Option.some.inj hm
    exact rr_vret dX3_offer_52 rfl hp
theorem cc_X3_offer {x : vv_E} {h : vv_H} {v1 : Int32} {v2 : Int32} {v3 : Int32} {o : vv_H}  (hm : ff_X3_offer h v1 v2 v3 = some o) : vv_C x vv_TC yX3_offer mm_X3_offer [.ref (vv_ad x 170), .int v1, .int v2, .int v3] h (fun v g => v = none ∧ g = o) := vv_entry (by decide +kernel) rfl (Nat.le_of_ble_eq_true rfl) rfl (vt_X3_offer  hm ⟨rfl, rfl⟩)
def ff_X3_windowFrom_B5 (u1 : Int32) (u2 : Int32) (h : vv_H) (s3 : Int64) (s5 : Int32) : Option ((Int64 × Int32) ⊕ ((Int64))) := (if (u1 + u2) < s5 then some (.inr s3) else (if (100 : Int32) ≤ s5 then some (.inr s3) else vv_ck s5 100 (vv_let (s3 ||| (h.2.1 175 s5.toNatClampNeg)) (fun w2 => vv_let (s5 + 1) (fun w4 => some (.inl (w2, w4)))))))
def ff_X3_windowFrom (h : vv_H) (v1 : Int32) (v2 : Int32) : Option (Int64) := (vv_lp (fun (zs : Int64 × Int32) => ff_X3_windowFrom_B5  v1 v2 h zs.1 zs.2) vv_F ((0 : Int64), v1)).bind (fun (e7 : (Int64)) => some e7)
set_option maxHeartbeats 200000 in
theorem vt_X3_windowFrom_B5 {x : vv_E} {post : Option Value → vv_H → Prop} {u1 : Int32} {u2 : Int32} {h : vv_H} {s3 : Int64} {s5 : Int32} {o : (Int64 × Int32) ⊕ ((Int64))}  (hm : ff_X3_windowFrom_B5  u1 u2 h s3 s5 = some o) (hI : ∀ (z3 : Int64) (z5 : Int32) , o = .inl (z3, z5) → vv_V x vv_TC mm_X3_windowFrom post 5 [some (.ref (vv_ad x 170)), some (.int u1), some (.int u2), some (.long z3), none, some (.int z5)] [] h) (hX0 : ∀ (z3 : Int64), o = .inr z3 → vv_V x vv_TC mm_X3_windowFrom post 36 [none, none, none, some (.long z3), none, none] [] h) : vv_V x vv_TC mm_X3_windowFrom post 5 [some (.ref (vv_ad x 170)), some (.int u1), some (.int u2), some (.long s3), none, some (.int s5)] [] h := by
  unfold ff_X3_windowFrom_B5 at hm
  refine rr_iload (q := 7) dX3_windowFrom_5 rfl rfl ?_
  refine rr_iload_n (q := 8) dX3_windowFrom_7 rfl rfl ?_
  refine rr_iload_n (q := 9) dX3_windowFrom_8 rfl rfl ?_
  refine rr_iadd (q := 10) dX3_windowFrom_9 rfl ?_
  refine rr_icmp_gt (q := 13) (tgt := 36) dX3_windowFrom_10 (by decide) rfl hm (fun hm => ?_) (fun hm => ?_)
  · obtain rfl := Option.some.inj hm
    refine rr_sub [false, false, false, true, false, false] rfl ?_
    exact hX0 s3 rfl
  · refine rr_iload (q := 15) dX3_windowFrom_13 rfl rfl ?_
    refine rr_bipush (q := 17) (v := 100) dX3_windowFrom_15 rfl (by decide) ?_
    refine rr_icmp_ge (q := 20) (tgt := 36) dX3_windowFrom_17 (by decide) rfl hm (fun hm => ?_) (fun hm => ?_)
    · obtain rfl := Option.some.inj hm
      refine rr_sub [false, false, false, true, false, false] rfl ?_
      exact hX0 s3 rfl
    · refine rr_lload_n (q := 21) dX3_windowFrom_20 rfl rfl ?_
      refine rr_aload_n (q := 22) dX3_windowFrom_21 rfl rfl ?_
      refine gf_X3_25 (q := 25) rfl dX3_windowFrom_22 rfl ?_
      refine rr_iload (q := 27) dX3_windowFrom_25 rfl rfl ?_
      obtain ⟨c1, hm⟩ := vv_ck_of hm
      refine rr_lald (q := 28) ylC_175 ynC_175 c1 dX3_windowFrom_27 rfl ?_
      refine rr_lor (q := 29) dX3_windowFrom_28 rfl ?_
      obtain ⟨w2, c3, hm⟩ := vv_let_of hm
      rw [← c3]
      refine rr_lstore_n (q := 30) [some (.ref (vv_ad x 170)), some (.int u1), some (.int u2), some (.long w2), none, some (.int s5)] dX3_windowFrom_29 rfl rfl (Nat.le_of_ble_eq_true rfl) rfl rfl ?_
      obtain ⟨w4, c5, hm⟩ := vv_let_of hm
      refine rr_iinc (q := 33) [some (.ref (vv_ad x 170)), some (.int u1), some (.int u2), some (.long w2), none, some (.int w4)] dX3_windowFrom_30 rfl rfl c5.symm (Nat.le_of_ble_eq_true rfl) rfl rfl ?_
      refine rr_goto (tgt := 5) dX3_windowFrom_33 (by decide) ?_
      obtain rfl := Option.some.inj hm
      exact hI w2 w4 rfl
set_option maxHeartbeats 200000 in
theorem vt_X3_windowFrom {x : vv_E} {post : Option Value → vv_H → Prop} {h : vv_H} {v1 : Int32} {v2 : Int32} {o : Int64}  (hm : ff_X3_windowFrom  h v1 v2 = some o) (hp : post (some (.long o)) h) : vv_V x vv_TC mm_X3_windowFrom post 0 [some (.ref (vv_ad x 170)), some (.int v1), some (.int v2), none, none, none] [] h := by
  unfold ff_X3_windowFrom at hm
  refine rr_lconst (q := 1) (v := 0) dX3_windowFrom_0 rfl (by decide) ?_
  refine rr_lstore_n (q := 2) [some (.ref (vv_ad x 170)), some (.int v1), some (.int v2), some (.long (0 : Int64)), none, none] dX3_windowFrom_1 rfl rfl (Nat.le_of_ble_eq_true rfl) rfl rfl ?_
  refine rr_iload_n (q := 3) dX3_windowFrom_2 rfl rfl ?_
  refine rr_istore (q := 5) [some (.ref (vv_ad x 170)), some (.int v1), some (.int v2), some (.long (0 : Int64)), none, some (.int v1)] dX3_windowFrom_3 rfl (Nat.le_of_ble_eq_true rfl) rfl rfl ?_
  obtain ⟨r6, k8, hm⟩ := vv_bind hm
  refine vv_lp_link (P := fun (zs : Int64 × Int32) => vv_V x vv_TC mm_X3_windowFrom post 5 [some (.ref (vv_ad x 170)), some (.int v1), some (.int v2), some (.long zs.1), none, some (.int zs.2)] [] h) (Q := (fun (e7 : (Int64)) => vv_V x vv_TC mm_X3_windowFrom post 36 [none, none, none, some (.long e7), none, none] [] h)) (fun zs o hm hI hX => ?_) vv_F ((0 : Int64), v1) r6 k8 ?_
  · exact vt_X3_windowFrom_B5   hm (fun z3 z5 e => hI (z3, z5) e) (fun z3 e => hX z3 e)
  · generalize r6 = e7 at hm ⊢
    try dsimp only [Sum.elim_inl, Sum.elim_inr] at hm
    try dsimp only [Sum.elim_inl, Sum.elim_inr]
    refine rr_lload_n (q := 37) dX3_windowFrom_36 rfl rfl ?_
    obtain rfl := Option.some.inj hm
    exact rr_lret dX3_windowFrom_37 rfl hp
theorem cc_X3_windowFrom {x : vv_E} {h : vv_H} {v1 : Int32} {v2 : Int32} {o : Int64}  (hm : ff_X3_windowFrom h v1 v2 = some o) : vv_C x vv_TC yX3_windowFrom mm_X3_windowFrom [.ref (vv_ad x 170), .int v1, .int v2] h (fun v g => v = some (.long o) ∧ g = h) := vv_entry (by decide +kernel) rfl (Nat.le_of_ble_eq_true rfl) rfl (vt_X3_windowFrom  hm ⟨rfl, rfl⟩)
def ff_X3_handOn_B4  (s2 : Int32) (s3 : Int32) (h : vv_H) : Option ((Int32 × Int32 × vv_H) ⊕ ((vv_H))) := (if (12 : Int32) ≤ s3 then some (.inr h) else (if s2 < 0 then some (.inr h) else vv_ck s2 64 (vv_let (h.1 174 s2.toNatClampNeg) (fun w2 => vv_ck w2 32 (vv_let (h.1 172 w2.toNatClampNeg) (fun w5 => vv_ck w2 32 (vv_let (vv_iu h 172 w2.toNatClampNeg s2) (fun g8 => vv_ck s2 64 (vv_let (vv_iu g8 173 s2.toNatClampNeg w2) (fun g11 => vv_let (s3 + 1) (fun w13 => some (.inl (w5, w13, g11)))))))))))))
def ff_X3_handOn (h : vv_H) (v1 : Int32) : Option (vv_H) := (vv_lp (fun (zs : Int32 × Int32 × vv_H) => ff_X3_handOn_B4   zs.1 zs.2.1 zs.2.2) vv_F (v1, (0 : Int32), h)).bind (fun (e16 : (vv_H)) => some e16)
set_option maxHeartbeats 200000 in
theorem vt_X3_handOn_B4 {x : vv_E} {post : Option Value → vv_H → Prop}  {s2 : Int32} {s3 : Int32} {h : vv_H} {o : (Int32 × Int32 × vv_H) ⊕ ((vv_H))}  (hm : ff_X3_handOn_B4   s2 s3 h = some o) (hI : ∀ (z2 : Int32) (z3 : Int32) (zh : vv_H), o = .inl (z2, z3, zh) → vv_V x vv_TC mm_X3_handOn post 4 [some (.ref (vv_ad x 170)), none, some (.int z2), some (.int z3), none, none] [] zh) (hX0 : ∀  (zh : vv_H), o = .inr zh → vv_V x vv_TC mm_X3_handOn post 56 [none, none, none, none, none, none] [] zh) : vv_V x vv_TC mm_X3_handOn post 4 [some (.ref (vv_ad x 170)), none, some (.int s2), some (.int s3), none, none] [] h := by
  unfold ff_X3_handOn_B4 at hm
  refine rr_iload_n (q := 5) dX3_handOn_4 rfl rfl ?_
  refine rr_bipush (q := 7) (v := 12) dX3_handOn_5 rfl (by decide) ?_
  refine rr_icmp_ge (q := 10) (tgt := 56) dX3_handOn_7 (by decide) rfl hm (fun hm => ?_) (fun hm => ?_)
  · obtain rfl := Option.some.inj hm
    refine rr_sub [false, false, false, false, false, false] rfl ?_
    exact hX0 h rfl
  · refine rr_iload_n (q := 11) dX3_handOn_10 rfl rfl ?_
    refine rr_if_lt (q := 14) (tgt := 56) dX3_handOn_11 (by decide) rfl hm (fun hm => ?_) (fun hm => ?_)
    · obtain rfl := Option.some.inj hm
      refine rr_sub [false, false, false, false, false, false] rfl ?_
      exact hX0 h rfl
    · refine rr_aload_n (q := 15) dX3_handOn_14 rfl rfl ?_
      refine gf_X3_22 (q := 18) rfl dX3_handOn_15 rfl ?_
      refine rr_iload_n (q := 19) dX3_handOn_18 rfl rfl ?_
      obtain ⟨c1, hm⟩ := vv_ck_of hm
      refine rr_iald (q := 20) ylC_174 ynC_174 c1 dX3_handOn_19 rfl ?_
      obtain ⟨w2, c3, hm⟩ := vv_let_of hm
      rw [← c3]
      refine rr_istore (q := 22) [some (.ref (vv_ad x 170)), none, some (.int s2), some (.int s3), some (.int w2), none] dX3_handOn_20 rfl (Nat.le_of_ble_eq_true rfl) rfl rfl ?_
      refine rr_aload_n (q := 23) dX3_handOn_22 rfl rfl ?_
      refine gf_X3_15 (q := 26) rfl dX3_handOn_23 rfl ?_
      refine rr_iload (q := 28) dX3_handOn_26 rfl rfl ?_
      obtain ⟨c4, hm⟩ := vv_ck_of hm
      refine rr_iald (q := 29) ylC_172 ynC_172 c4 dX3_handOn_28 rfl ?_
      obtain ⟨w5, c6, hm⟩ := vv_let_of hm
      rw [← c6]
      refine rr_istore (q := 31) [some (.ref (vv_ad x 170)), none, some (.int s2), some (.int s3), some (.int w2), some (.int w5)] dX3_handOn_29 rfl (Nat.le_of_ble_eq_true rfl) rfl rfl ?_
      refine rr_aload_n (q := 32) dX3_handOn_31 rfl rfl ?_
      refine gf_X3_15 (q := 35) rfl dX3_handOn_32 rfl ?_
      refine rr_iload (q := 37) dX3_handOn_35 rfl rfl ?_
      refine rr_iload_n (q := 38) dX3_handOn_37 rfl rfl ?_
      obtain ⟨c7, hm⟩ := vv_ck_of hm
      obtain ⟨g8, c9, hm⟩ := vv_let_of hm
      refine rr_iast (q := 39) ylC_172 ynC_172 c7 dX3_handOn_38 rfl ?_
      rw [← c9]
      refine rr_aload_n (q := 40) dX3_handOn_39 rfl rfl ?_
      refine gf_X3_19 (q := 43) rfl dX3_handOn_40 rfl ?_
      refine rr_iload_n (q := 44) dX3_handOn_43 rfl rfl ?_
      refine rr_iload (q := 46) dX3_handOn_44 rfl rfl ?_
      obtain ⟨c10, hm⟩ := vv_ck_of hm
      obtain ⟨g11, c12, hm⟩ := vv_let_of hm
      refine rr_iast (q := 47) ylC_173 ynC_173 c10 dX3_handOn_46 rfl ?_
      rw [← c12]
      refine rr_iload (q := 49) dX3_handOn_47 rfl rfl ?_
      refine rr_istore_n (q := 50) [some (.ref (vv_ad x 170)), none, some (.int w5), some (.int s3), some (.int w2), some (.int w5)] dX3_handOn_49 rfl rfl (Nat.le_of_ble_eq_true rfl) rfl rfl ?_
      obtain ⟨w13, c14, hm⟩ := vv_let_of hm
      refine rr_iinc (q := 53) [some (.ref (vv_ad x 170)), none, some (.int w5), some (.int w13), some (.int w2), some (.int w5)] dX3_handOn_50 rfl rfl c14.symm (Nat.le_of_ble_eq_true rfl) rfl rfl ?_
      refine rr_goto (tgt := 4) dX3_handOn_53 (by decide) ?_
      obtain rfl := Option.some.inj hm
      refine rr_sub [true, false, true, true, false, false] rfl ?_
      exact hI w5 w13 g11 rfl
set_option maxHeartbeats 200000 in
theorem vt_X3_handOn {x : vv_E} {post : Option Value → vv_H → Prop} {h : vv_H} {v1 : Int32} {o : vv_H}  (hm : ff_X3_handOn  h v1 = some o) (hp : post none o) : vv_V x vv_TC mm_X3_handOn post 0 [some (.ref (vv_ad x 170)), some (.int v1), none, none, none, none] [] h := by
  unfold ff_X3_handOn at hm
  refine rr_iload_n (q := 1) dX3_handOn_0 rfl rfl ?_
  refine rr_istore_n (q := 2) [some (.ref (vv_ad x 170)), some (.int v1), some (.int v1), none, none, none] dX3_handOn_1 rfl rfl (Nat.le_of_ble_eq_true rfl) rfl rfl ?_
  refine rr_iconst (q := 3) (v := 0) dX3_handOn_2 rfl (by decide) ?_
  refine rr_istore_n (q := 4) [some (.ref (vv_ad x 170)), some (.int v1), some (.int v1), some (.int (0 : Int32)), none, none] dX3_handOn_3 rfl rfl (Nat.le_of_ble_eq_true rfl) rfl rfl ?_
  refine rr_sub [true, false, true, true, false, false] rfl ?_
  obtain ⟨r15, k17, hm⟩ := vv_bind hm
  refine vv_lp_link (P := fun (zs : Int32 × Int32 × vv_H) => vv_V x vv_TC mm_X3_handOn post 4 [some (.ref (vv_ad x 170)), none, some (.int zs.1), some (.int zs.2.1), none, none] [] zs.2.2) (Q := (fun (e16 : (vv_H)) => vv_V x vv_TC mm_X3_handOn post 56 [none, none, none, none, none, none] [] e16)) (fun zs o hm hI hX => ?_) vv_F (v1, (0 : Int32), h) r15 k17 ?_
  · exact vt_X3_handOn_B4   hm (fun z2 z3 zh e => hI (z2, z3, zh) e) (fun zh e => hX zh e)
  · generalize r15 = e16 at hm ⊢
    try dsimp only [Sum.elim_inl, Sum.elim_inr] at hm
    try dsimp only [Sum.elim_inl, Sum.elim_inr]
    obtain rfl := Option.some.inj hm
    exact rr_vret dX3_handOn_56 rfl hp
theorem cc_X3_handOn {x : vv_E} {h : vv_H} {v1 : Int32} {o : vv_H}  (hm : ff_X3_handOn h v1 = some o) : vv_C x vv_TC yX3_handOn mm_X3_handOn [.ref (vv_ad x 170), .int v1] h (fun v g => v = none ∧ g = o) := vv_entry (by decide +kernel) rfl (Nat.le_of_ble_eq_true rfl) rfl (vt_X3_handOn  hm ⟨rfl, rfl⟩)
def ff_X4_has (h : vv_H) (v1 : Int32) : Option (Int32) := (if v1 < 0 then some (0 : Int32) else (if (h.1 156 0) ≤ v1 then some (0 : Int32) else some (1 : Int32)))
set_option maxHeartbeats 200000 in
theorem vt_X4_has {x : vv_E} {post : Option Value → vv_H → Prop} {h : vv_H} {v1 : Int32} {o : Int32}  (hm : ff_X4_has  h v1 = some o) (hp : post (some (.int o)) h) : vv_V x vv_TC mm_X4_has post 0 [some (.ref (vv_ad x 156)), some (.int v1)] [] h := by
  unfold ff_X4_has at hm
  refine rr_iload_n (q := 1) dX4_has_0 rfl rfl ?_
  refine rr_if_lt (q := 4) (tgt := 16) dX4_has_1 (by decide) rfl hm (fun hm => ?_) (fun hm => ?_)
  · refine rr_iconst (q := 17) (v := 0) dX4_has_16 rfl (by decide) ?_
    obtain rfl := Option.some.inj hm
    exact rr_zret dX4_has_17 rfl rfl hp
  · refine rr_iload_n (q := 5) dX4_has_4 rfl rfl ?_
    refine rr_aload_n (q := 6) dX4_has_5 rfl rfl ?_
    refine gf_X4_42 (q := 9) rfl dX4_has_6 rfl ?_
    refine rr_icmp_ge (q := 12) (tgt := 16) dX4_has_9 (by decide) rfl hm (fun hm => ?_) (fun hm => ?_)
    · refine rr_iconst (q := 17) (v := 0) dX4_has_16 rfl (by decide) ?_
      obtain rfl := Option.some.inj hm
      exact rr_zret dX4_has_17 rfl rfl hp
    · refine rr_iconst (q := 13) (v := 1) dX4_has_12 rfl (by decide) ?_
      refine rr_goto (tgt := 17) dX4_has_13 (by decide) ?_
      obtain rfl := Option.some.inj hm
      exact rr_zret dX4_has_17 rfl rfl hp
theorem cc_X4_has {x : vv_E} {h : vv_H} {v1 : Int32} {o : Int32}  (hm : ff_X4_has h v1 = some o) : vv_C x vv_TC yX4_has mm_X4_has [.ref (vv_ad x 156), .int v1] h (fun v g => v = some (.int o) ∧ g = h) := vv_entry (by decide +kernel) rfl (Nat.le_of_ble_eq_true rfl) rfl (vt_X4_has  hm ⟨rfl, rfl⟩)
def ff_X4_add (h : vv_H) (v1 : Int32) (v2 : Int32) (v3 : Int32) (v4 : Int32) : Option (Int32 × vv_H) := (if (h.1 156 0) < (36 : Int32) then vv_ck (h.1 156 0) 36 (vv_let (vv_iu h 157 (h.1 156 0).toNatClampNeg v2) (fun g2 => vv_ck (g2.1 156 0) 36 (vv_let (vv_iu g2 158 (g2.1 156 0).toNatClampNeg v3) (fun g5 => vv_ck (g5.1 156 0) 36 (vv_let (vv_iu g5 159 (g5.1 156 0).toNatClampNeg v4) (fun g8 => vv_ck (g8.1 156 0) 36 (vv_let (vv_iu g8 160 (g8.1 156 0).toNatClampNeg v1) (fun g11 => vv_ck (g11.1 156 0) 36 (vv_let (vv_iu g11 161 (g11.1 156 0).toNatClampNeg (-4 : Int32)) (fun g14 => vv_ck (g14.1 156 0) 36 (vv_let (vv_iu g14 162 (g14.1 156 0).toNatClampNeg (-4 : Int32)) (fun g17 => vv_let (vv_iu g17 156 0 ((g17.1 156 0) + (1 : Int32))) (fun g19 => some ((g17.1 156 0), g19)))))))))))))) else some ((-3 : Int32), h))
set_option maxHeartbeats 200000 in
theorem vt_X4_add {x : vv_E} {post : Option Value → vv_H → Prop} {h : vv_H} {v1 : Int32} {v2 : Int32} {v3 : Int32} {v4 : Int32} {o : Int32 × vv_H}  (hm : ff_X4_add  h v1 v2 v3 v4 = some o) (hp : post (some (.int o.1)) o.2) : vv_V x vv_TC mm_X4_add post 0 [some (.ref (vv_ad x 156)), some (.int v1), some (.int v2), some (.int v3), some (.int v4)] [] h := by
  unfold ff_X4_add at hm
  refine rr_aload_n (q := 1) dX4_add_0 rfl rfl ?_
  refine gf_X4_42 (q := 4) rfl dX4_add_1 rfl ?_
  refine rr_bipush (q := 6) (v := 36) dX4_add_4 rfl (by decide) ?_
  refine rr_icmp_lt (q := 9) (tgt := 12) dX4_add_6 (by decide) rfl hm (fun hm => ?_) (fun hm => ?_)
  · refine rr_aload_n (q := 13) dX4_add_12 rfl rfl ?_
    refine gf_X4_9 (q := 16) rfl dX4_add_13 rfl ?_
    refine rr_aload_n (q := 17) dX4_add_16 rfl rfl ?_
    refine gf_X4_42 (q := 20) rfl dX4_add_17 rfl ?_
    refine rr_iload_n (q := 21) dX4_add_20 rfl rfl ?_
    obtain ⟨c1, hm⟩ := vv_ck_of hm
    obtain ⟨g2, c3, hm⟩ := vv_let_of hm
    refine rr_iast (q := 22) ylC_157 ynC_157 c1 dX4_add_21 rfl ?_
    rw [← c3]
    refine rr_aload_n (q := 23) dX4_add_22 rfl rfl ?_
    refine gf_X4_15 (q := 26) rfl dX4_add_23 rfl ?_
    refine rr_aload_n (q := 27) dX4_add_26 rfl rfl ?_
    refine gf_X4_42 (q := 30) rfl dX4_add_27 rfl ?_
    refine rr_iload_n (q := 31) dX4_add_30 rfl rfl ?_
    obtain ⟨c4, hm⟩ := vv_ck_of hm
    obtain ⟨g5, c6, hm⟩ := vv_let_of hm
    refine rr_iast (q := 32) ylC_158 ynC_158 c4 dX4_add_31 rfl ?_
    rw [← c6]
    refine rr_aload_n (q := 33) dX4_add_32 rfl rfl ?_
    refine gf_X4_18 (q := 36) rfl dX4_add_33 rfl ?_
    refine rr_aload_n (q := 37) dX4_add_36 rfl rfl ?_
    refine gf_X4_42 (q := 40) rfl dX4_add_37 rfl ?_
    refine rr_iload (q := 42) dX4_add_40 rfl rfl ?_
    obtain ⟨c7, hm⟩ := vv_ck_of hm
    obtain ⟨g8, c9, hm⟩ := vv_let_of hm
    refine rr_iast (q := 43) ylC_159 ynC_159 c7 dX4_add_42 rfl ?_
    rw [← c9]
    refine rr_aload_n (q := 44) dX4_add_43 rfl rfl ?_
    refine gf_X4_21 (q := 47) rfl dX4_add_44 rfl ?_
    refine rr_aload_n (q := 48) dX4_add_47 rfl rfl ?_
    refine gf_X4_42 (q := 51) rfl dX4_add_48 rfl ?_
    refine rr_iload_n (q := 52) dX4_add_51 rfl rfl ?_
    obtain ⟨c10, hm⟩ := vv_ck_of hm
    obtain ⟨g11, c12, hm⟩ := vv_let_of hm
    refine rr_iast (q := 53) ylC_160 ynC_160 c10 dX4_add_52 rfl ?_
    rw [← c12]
    refine rr_aload_n (q := 54) dX4_add_53 rfl rfl ?_
    refine gf_X4_24 (q := 57) rfl dX4_add_54 rfl ?_
    refine rr_aload_n (q := 58) dX4_add_57 rfl rfl ?_
    refine gf_X4_42 (q := 61) rfl dX4_add_58 rfl ?_
    refine rr_bipush (q := 63) (v := -4) dX4_add_61 rfl (by decide) ?_
    obtain ⟨c13, hm⟩ := vv_ck_of hm
    obtain ⟨g14, c15, hm⟩ := vv_let_of hm
    refine rr_iast (q := 64) ylC_161 ynC_161 c13 dX4_add_63 rfl ?_
    rw [← c15]
    refine rr_aload_n (q := 65) dX4_add_64 rfl rfl ?_
    refine gf_X4_27 (q := 68) rfl dX4_add_65 rfl ?_
    refine rr_aload_n (q := 69) dX4_add_68 rfl rfl ?_
    refine gf_X4_42 (q := 72) rfl dX4_add_69 rfl ?_
    refine rr_bipush (q := 74) (v := -4) dX4_add_72 rfl (by decide) ?_
    obtain ⟨c16, hm⟩ := vv_ck_of hm
    obtain ⟨g17, c18, hm⟩ := vv_let_of hm
    refine rr_iast (q := 75) ylC_162 ynC_162 c16 dX4_add_74 rfl ?_
    rw [← c18]
    refine rr_aload_n (q := 76) dX4_add_75 rfl rfl ?_
    refine rr_dup (q := 77) dX4_add_76 rfl rfl ?_
    refine gf_X4_42 (q := 80) rfl dX4_add_77 rfl ?_
    refine rr_dup_x1 (q := 81) dX4_add_80 rfl rfl rfl ?_
    refine rr_iconst (q := 82) (v := 1) dX4_add_81 rfl (by decide) ?_
    refine rr_iadd (q := 83) dX4_add_82 rfl ?_
    refine pf_X4_42 (q := 86) rfl dX4_add_83 rfl (fun g19 c20 => ?_)
    replace hm := vv_letE hm c20
    obtain rfl := Option.some.inj hm
    exact rr_iret dX4_add_86 rfl hp
  · refine rr_bipush (q := 11) (v := -3) dX4_add_9 rfl (by decide) ?_
    obtain rfl := Option.some.inj hm
    exact rr_iret dX4_add_11 rfl hp
theorem cc_X4_add {x : vv_E} {h : vv_H} {v1 : Int32} {v2 : Int32} {v3 : Int32} {v4 : Int32} {o : Int32 × vv_H}  (hm : ff_X4_add h v1 v2 v3 v4 = some o) : vv_C x vv_TC yX4_add mm_X4_add [.ref (vv_ad x 156), .int v1, .int v2, .int v3, .int v4] h (fun v g => v = some (.int o.1) ∧ g = o.2) := vv_entry (by decide +kernel) rfl (Nat.le_of_ble_eq_true rfl) rfl (vt_X4_add  hm ⟨rfl, rfl⟩)
def ff_X4_isStored (h : vv_H) (v1 : Int32) : Option (Int32) := vv_ck v1 36 ((if (h.1 160 v1.toNatClampNeg) < 0 then some (0 : Int32) else some (1 : Int32)))
set_option maxHeartbeats 200000 in
theorem vt_X4_isStored {x : vv_E} {post : Option Value → vv_H → Prop} {h : vv_H} {v1 : Int32} {o : Int32}  (hm : ff_X4_isStored  h v1 = some o) (hp : post (some (.int o)) h) : vv_V x vv_TC mm_X4_isStored post 0 [some (.ref (vv_ad x 156)), some (.int v1)] [] h := by
  unfold ff_X4_isStored at hm
  refine rr_aload_n (q := 1) dX4_isStored_0 rfl rfl ?_
  refine gf_X4_21 (q := 4) rfl dX4_isStored_1 rfl ?_
  refine rr_iload_n (q := 5) dX4_isStored_4 rfl rfl ?_
  obtain ⟨c1, hm⟩ := vv_ck_of hm
  refine rr_iald (q := 6) ylC_160 ynC_160 c1 dX4_isStored_5 rfl ?_
  refine rr_if_lt (q := 9) (tgt := 13) dX4_isStored_6 (by decide) rfl hm (fun hm => ?_) (fun hm => ?_)
  · refine rr_iconst (q := 14) (v := 0) dX4_isStored_13 rfl (by decide) ?_
    obtain rfl := Option.some.inj hm
    exact rr_zret dX4_isStored_14 rfl rfl hp
  · refine rr_iconst (q := 10) (v := 1) dX4_isStored_9 rfl (by decide) ?_
    refine rr_goto (tgt := 14) dX4_isStored_10 (by decide) ?_
    obtain rfl := Option.some.inj hm
    exact rr_zret dX4_isStored_14 rfl rfl hp
theorem cc_X4_isStored {x : vv_E} {h : vv_H} {v1 : Int32} {o : Int32}  (hm : ff_X4_isStored h v1 = some o) : vv_C x vv_TC yX4_isStored mm_X4_isStored [.ref (vv_ad x 156), .int v1] h (fun v g => v = some (.int o) ∧ g = h) := vv_entry (by decide +kernel) rfl (Nat.le_of_ble_eq_true rfl) rfl (vt_X4_isStored  hm ⟨rfl, rfl⟩)
def ff_X4_isWithBody (h : vv_H) (v1 : Int32) : Option (Int32) := vv_ck v1 36 ((if (h.1 161 v1.toNatClampNeg) < 0 then some (0 : Int32) else some (1 : Int32)))
set_option maxHeartbeats 200000 in
theorem vt_X4_isWithBody {x : vv_E} {post : Option Value → vv_H → Prop} {h : vv_H} {v1 : Int32} {o : Int32}  (hm : ff_X4_isWithBody  h v1 = some o) (hp : post (some (.int o)) h) : vv_V x vv_TC mm_X4_isWithBody post 0 [some (.ref (vv_ad x 156)), some (.int v1)] [] h := by
  unfold ff_X4_isWithBody at hm
  refine rr_aload_n (q := 1) dX4_isWithBody_0 rfl rfl ?_
  refine gf_X4_24 (q := 4) rfl dX4_isWithBody_1 rfl ?_
  refine rr_iload_n (q := 5) dX4_isWithBody_4 rfl rfl ?_
  obtain ⟨c1, hm⟩ := vv_ck_of hm
  refine rr_iald (q := 6) ylC_161 ynC_161 c1 dX4_isWithBody_5 rfl ?_
  refine rr_if_lt (q := 9) (tgt := 13) dX4_isWithBody_6 (by decide) rfl hm (fun hm => ?_) (fun hm => ?_)
  · refine rr_iconst (q := 14) (v := 0) dX4_isWithBody_13 rfl (by decide) ?_
    obtain rfl := Option.some.inj hm
    exact rr_zret dX4_isWithBody_14 rfl rfl hp
  · refine rr_iconst (q := 10) (v := 1) dX4_isWithBody_9 rfl (by decide) ?_
    refine rr_goto (tgt := 14) dX4_isWithBody_10 (by decide) ?_
    obtain rfl := Option.some.inj hm
    exact rr_zret dX4_isWithBody_14 rfl rfl hp
theorem cc_X4_isWithBody {x : vv_E} {h : vv_H} {v1 : Int32} {o : Int32}  (hm : ff_X4_isWithBody h v1 = some o) : vv_C x vv_TC yX4_isWithBody mm_X4_isWithBody [.ref (vv_ad x 156), .int v1] h (fun v g => v = some (.int o) ∧ g = h) := vv_entry (by decide +kernel) rfl (Nat.le_of_ble_eq_true rfl) rfl (vt_X4_isWithBody  hm ⟨rfl, rfl⟩)
def ff_X4_handOut (h : vv_H) (v1 : Int32) (v2 : Int32) (v3 : Int32) : Option (vv_H) := vv_ck v1 36 (vv_let (vv_iu h 160 v1.toNatClampNeg (-4 : Int32)) (fun g2 => vv_ck v1 36 (vv_let (vv_iu g2 161 v1.toNatClampNeg v2) (fun g5 => vv_ck v1 36 (vv_let (vv_iu g5 162 v1.toNatClampNeg v2) (fun g8 => vv_ck v1 36 (vv_let (vv_iu g8 165 v1.toNatClampNeg v3) (fun g11 => vv_ck v1 36 (vv_ck v1 36 (vv_let (vv_iu g11 163 v1.toNatClampNeg ((g11.1 163 v1.toNatClampNeg) + (1 : Int32))) (fun g15 => some g15)))))))))))
set_option maxHeartbeats 200000 in
theorem vt_X4_handOut {x : vv_E} {post : Option Value → vv_H → Prop} {h : vv_H} {v1 : Int32} {v2 : Int32} {v3 : Int32} {o : vv_H}  (hm : ff_X4_handOut  h v1 v2 v3 = some o) (hp : post none o) : vv_V x vv_TC mm_X4_handOut post 0 [some (.ref (vv_ad x 156)), some (.int v1), some (.int v2), some (.int v3)] [] h := by
  unfold ff_X4_handOut at hm
  refine rr_aload_n (q := 1) dX4_handOut_0 rfl rfl ?_
  refine gf_X4_21 (q := 4) rfl dX4_handOut_1 rfl ?_
  refine rr_iload_n (q := 5) dX4_handOut_4 rfl rfl ?_
  refine rr_bipush (q := 7) (v := -4) dX4_handOut_5 rfl (by decide) ?_
  obtain ⟨c1, hm⟩ := vv_ck_of hm
  obtain ⟨g2, c3, hm⟩ := vv_let_of hm
  refine rr_iast (q := 8) ylC_160 ynC_160 c1 dX4_handOut_7 rfl ?_
  rw [← c3]
  refine rr_aload_n (q := 9) dX4_handOut_8 rfl rfl ?_
  refine gf_X4_24 (q := 12) rfl dX4_handOut_9 rfl ?_
  refine rr_iload_n (q := 13) dX4_handOut_12 rfl rfl ?_
  refine rr_iload_n (q := 14) dX4_handOut_13 rfl rfl ?_
  obtain ⟨c4, hm⟩ := vv_ck_of hm
  obtain ⟨g5, c6, hm⟩ := vv_let_of hm
  refine rr_iast (q := 15) ylC_161 ynC_161 c4 dX4_handOut_14 rfl ?_
  rw [← c6]
  refine rr_aload_n (q := 16) dX4_handOut_15 rfl rfl ?_
  refine gf_X4_27 (q := 19) rfl dX4_handOut_16 rfl ?_
  refine rr_iload_n (q := 20) dX4_handOut_19 rfl rfl ?_
  refine rr_iload_n (q := 21) dX4_handOut_20 rfl rfl ?_
  obtain ⟨c7, hm⟩ := vv_ck_of hm
  obtain ⟨g8, c9, hm⟩ := vv_let_of hm
  refine rr_iast (q := 22) ylC_162 ynC_162 c7 dX4_handOut_21 rfl ?_
  rw [← c9]
  refine rr_aload_n (q := 23) dX4_handOut_22 rfl rfl ?_
  refine gf_X4_36 (q := 26) rfl dX4_handOut_23 rfl ?_
  refine rr_iload_n (q := 27) dX4_handOut_26 rfl rfl ?_
  refine rr_iload_n (q := 28) dX4_handOut_27 rfl rfl ?_
  obtain ⟨c10, hm⟩ := vv_ck_of hm
  obtain ⟨g11, c12, hm⟩ := vv_let_of hm
  refine rr_iast (q := 29) ylC_165 ynC_165 c10 dX4_handOut_28 rfl ?_
  rw [← c12]
  refine rr_aload_n (q := 30) dX4_handOut_29 rfl rfl ?_
  refine gf_X4_30 (q := 33) rfl dX4_handOut_30 rfl ?_
  refine rr_iload_n (q := 34) dX4_handOut_33 rfl rfl ?_
  refine rr_dup2 (q := 35) dX4_handOut_34 rfl rfl rfl ?_
  obtain ⟨c13, hm⟩ := vv_ck_of hm
  refine rr_iald (q := 36) ylC_163 ynC_163 c13 dX4_handOut_35 rfl ?_
  refine rr_iconst (q := 37) (v := 1) dX4_handOut_36 rfl (by decide) ?_
  refine rr_iadd (q := 38) dX4_handOut_37 rfl ?_
  obtain ⟨c14, hm⟩ := vv_ck_of hm
  obtain ⟨g15, c16, hm⟩ := vv_let_of hm
  refine rr_iast (q := 39) ylC_163 ynC_163 c14 dX4_handOut_38 rfl ?_
  rw [← c16]
  obtain rfl := Option.some.inj hm
  exact rr_vret dX4_handOut_39 rfl hp
theorem cc_X4_handOut {x : vv_E} {h : vv_H} {v1 : Int32} {v2 : Int32} {v3 : Int32} {o : vv_H}  (hm : ff_X4_handOut h v1 v2 v3 = some o) : vv_C x vv_TC yX4_handOut mm_X4_handOut [.ref (vv_ad x 156), .int v1, .int v2, .int v3] h (fun v g => v = none ∧ g = o) := vv_entry (by decide +kernel) rfl (Nat.le_of_ble_eq_true rfl) rfl (vt_X4_handOut  hm ⟨rfl, rfl⟩)
def ff_X4_countWith_B4 (u1 : Int32) (h : vv_H) (s2 : Int32) (s3 : Int32) : Option ((Int32 × Int32) ⊕ ((Int32))) := (if (h.1 156 0) ≤ s3 then some (.inr s2) else vv_ck s3 36 ((if (h.1 161 s3.toNatClampNeg) = u1 then vv_let (s3 + 1) (fun w4 => some (.inl ((s2 + (1 : Int32)), w4))) else vv_let (s3 + 1) (fun w2 => some (.inl ((s2 + (0 : Int32)), w2))))))
def ff_X4_countWith (h : vv_H) (v1 : Int32) : Option (Int32) := (vv_lp (fun (zs : Int32 × Int32) => ff_X4_countWith_B4  v1 h zs.1 zs.2) vv_F ((0 : Int32), (0 : Int32))).bind (fun (e7 : (Int32)) => some e7)
set_option maxHeartbeats 200000 in
theorem vt_X4_countWith_B4 {x : vv_E} {post : Option Value → vv_H → Prop} {u1 : Int32} {h : vv_H} {s2 : Int32} {s3 : Int32} {o : (Int32 × Int32) ⊕ ((Int32))}  (hm : ff_X4_countWith_B4  u1 h s2 s3 = some o) (hI : ∀ (z2 : Int32) (z3 : Int32) , o = .inl (z2, z3) → vv_V x vv_TC mm_X4_countWith post 4 [some (.ref (vv_ad x 156)), some (.int u1), some (.int z2), some (.int z3)] [] h) (hX0 : ∀ (z2 : Int32), o = .inr z2 → vv_V x vv_TC mm_X4_countWith post 36 [none, none, some (.int z2), none] [] h) : vv_V x vv_TC mm_X4_countWith post 4 [some (.ref (vv_ad x 156)), some (.int u1), some (.int s2), some (.int s3)] [] h := by
  unfold ff_X4_countWith_B4 at hm
  refine rr_iload_n (q := 5) dX4_countWith_4 rfl rfl ?_
  refine rr_aload_n (q := 6) dX4_countWith_5 rfl rfl ?_
  refine gf_X4_42 (q := 9) rfl dX4_countWith_6 rfl ?_
  refine rr_icmp_ge (q := 12) (tgt := 36) dX4_countWith_9 (by decide) rfl hm (fun hm => ?_) (fun hm => ?_)
  · obtain rfl := Option.some.inj hm
    refine rr_sub [false, false, true, false] rfl ?_
    exact hX0 s2 rfl
  · refine rr_iload_n (q := 13) dX4_countWith_12 rfl rfl ?_
    refine rr_aload_n (q := 14) dX4_countWith_13 rfl rfl ?_
    refine gf_X4_24 (q := 17) rfl dX4_countWith_14 rfl ?_
    refine rr_iload_n (q := 18) dX4_countWith_17 rfl rfl ?_
    obtain ⟨c1, hm⟩ := vv_ck_of hm
    refine rr_iald (q := 19) ylC_161 ynC_161 c1 dX4_countWith_18 rfl ?_
    refine rr_iload_n (q := 20) dX4_countWith_19 rfl rfl ?_
    refine rr_icmp_ne (q := 23) (tgt := 27) dX4_countWith_20 (by decide) rfl hm (fun hm => ?_) (fun hm => ?_)
    · refine rr_iconst (q := 28) (v := 0) dX4_countWith_27 rfl (by decide) ?_
      refine rr_iadd (q := 29) dX4_countWith_28 rfl ?_
      refine rr_istore_n (q := 30) [some (.ref (vv_ad x 156)), some (.int u1), some (.int (s2 + (0 : Int32))), some (.int s3)] dX4_countWith_29 rfl rfl (Nat.le_of_ble_eq_true rfl) rfl rfl ?_
      obtain ⟨w2, c3, hm⟩ := vv_let_of hm
      refine rr_iinc (q := 33) [some (.ref (vv_ad x 156)), some (.int u1), some (.int (s2 + (0 : Int32))), some (.int w2)] dX4_countWith_30 rfl rfl c3.symm (Nat.le_of_ble_eq_true rfl) rfl rfl ?_
      refine rr_goto (tgt := 4) dX4_countWith_33 (by decide) ?_
      obtain rfl := Option.some.inj hm
      exact hI (s2 + (0 : Int32)) w2 rfl
    · refine rr_iconst (q := 24) (v := 1) dX4_countWith_23 rfl (by decide) ?_
      refine rr_goto (tgt := 28) dX4_countWith_24 (by decide) ?_
      refine rr_iadd (q := 29) dX4_countWith_28 rfl ?_
      refine rr_istore_n (q := 30) [some (.ref (vv_ad x 156)), some (.int u1), some (.int (s2 + (1 : Int32))), some (.int s3)] dX4_countWith_29 rfl rfl (Nat.le_of_ble_eq_true rfl) rfl rfl ?_
      obtain ⟨w4, c5, hm⟩ := vv_let_of hm
      refine rr_iinc (q := 33) [some (.ref (vv_ad x 156)), some (.int u1), some (.int (s2 + (1 : Int32))), some (.int w4)] dX4_countWith_30 rfl rfl c5.symm (Nat.le_of_ble_eq_true rfl) rfl rfl ?_
      refine rr_goto (tgt := 4) dX4_countWith_33 (by decide) ?_
      obtain rfl := Option.some.inj hm
      exact hI (s2 + (1 : Int32)) w4 rfl
set_option maxHeartbeats 200000 in
theorem vt_X4_countWith {x : vv_E} {post : Option Value → vv_H → Prop} {h : vv_H} {v1 : Int32} {o : Int32}  (hm : ff_X4_countWith  h v1 = some o) (hp : post (some (.int o)) h) : vv_V x vv_TC mm_X4_countWith post 0 [some (.ref (vv_ad x 156)), some (.int v1), none, none] [] h := by
  unfold ff_X4_countWith at hm
  refine rr_iconst (q := 1) (v := 0) dX4_countWith_0 rfl (by decide) ?_
  refine rr_istore_n (q := 2) [some (.ref (vv_ad x 156)), some (.int v1), some (.int (0 : Int32)), none] dX4_countWith_1 rfl rfl (Nat.le_of_ble_eq_true rfl) rfl rfl ?_
  refine rr_iconst (q := 3) (v := 0) dX4_countWith_2 rfl (by decide) ?_
  refine rr_istore_n (q := 4) [some (.ref (vv_ad x 156)), some (.int v1), some (.int (0 : Int32)), some (.int (0 : Int32))] dX4_countWith_3 rfl rfl (Nat.le_of_ble_eq_true rfl) rfl rfl ?_
  obtain ⟨r6, k8, hm⟩ := vv_bind hm
  refine vv_lp_link (P := fun (zs : Int32 × Int32) => vv_V x vv_TC mm_X4_countWith post 4 [some (.ref (vv_ad x 156)), some (.int v1), some (.int zs.1), some (.int zs.2)] [] h) (Q := (fun (e7 : (Int32)) => vv_V x vv_TC mm_X4_countWith post 36 [none, none, some (.int e7), none] [] h)) (fun zs o hm hI hX => ?_) vv_F ((0 : Int32), (0 : Int32)) r6 k8 ?_
  · exact vt_X4_countWith_B4   hm (fun z2 z3 e => hI (z2, z3) e) (fun z2 e => hX z2 e)
  · generalize r6 = e7 at hm ⊢
    try dsimp only [Sum.elim_inl, Sum.elim_inr] at hm
    try dsimp only [Sum.elim_inl, Sum.elim_inr]
    refine rr_iload_n (q := 37) dX4_countWith_36 rfl rfl ?_
    obtain rfl := Option.some.inj hm
    exact rr_iret dX4_countWith_37 rfl hp
theorem cc_X4_countWith {x : vv_E} {h : vv_H} {v1 : Int32} {o : Int32}  (hm : ff_X4_countWith h v1 = some o) : vv_C x vv_TC yX4_countWith mm_X4_countWith [.ref (vv_ad x 156), .int v1] h (fun v g => v = some (.int o) ∧ g = h) := vv_entry (by decide +kernel) rfl (Nat.le_of_ble_eq_true rfl) rfl (vt_X4_countWith  hm ⟨rfl, rfl⟩)
def ff_X4_countOfLot_B4 (u1 : Int32) (h : vv_H) (s2 : Int32) (s3 : Int32) : Option ((Int32 × Int32) ⊕ ((Int32))) := (if (h.1 156 0) ≤ s3 then some (.inr s2) else vv_ck s3 36 ((if (h.1 158 s3.toNatClampNeg) = u1 then vv_let (s3 + 1) (fun w4 => some (.inl ((s2 + (1 : Int32)), w4))) else vv_let (s3 + 1) (fun w2 => some (.inl ((s2 + (0 : Int32)), w2))))))
def ff_X4_countOfLot (h : vv_H) (v1 : Int32) : Option (Int32) := (vv_lp (fun (zs : Int32 × Int32) => ff_X4_countOfLot_B4  v1 h zs.1 zs.2) vv_F ((0 : Int32), (0 : Int32))).bind (fun (e7 : (Int32)) => some e7)
set_option maxHeartbeats 200000 in
theorem vt_X4_countOfLot_B4 {x : vv_E} {post : Option Value → vv_H → Prop} {u1 : Int32} {h : vv_H} {s2 : Int32} {s3 : Int32} {o : (Int32 × Int32) ⊕ ((Int32))}  (hm : ff_X4_countOfLot_B4  u1 h s2 s3 = some o) (hI : ∀ (z2 : Int32) (z3 : Int32) , o = .inl (z2, z3) → vv_V x vv_TC mm_X4_countOfLot post 4 [some (.ref (vv_ad x 156)), some (.int u1), some (.int z2), some (.int z3)] [] h) (hX0 : ∀ (z2 : Int32), o = .inr z2 → vv_V x vv_TC mm_X4_countOfLot post 36 [none, none, some (.int z2), none] [] h) : vv_V x vv_TC mm_X4_countOfLot post 4 [some (.ref (vv_ad x 156)), some (.int u1), some (.int s2), some (.int s3)] [] h := by
  unfold ff_X4_countOfLot_B4 at hm
  refine rr_iload_n (q := 5) dX4_countOfLot_4 rfl rfl ?_
  refine rr_aload_n (q := 6) dX4_countOfLot_5 rfl rfl ?_
  refine gf_X4_42 (q := 9) rfl dX4_countOfLot_6 rfl ?_
  refine rr_icmp_ge (q := 12) (tgt := 36) dX4_countOfLot_9 (by decide) rfl hm (fun hm => ?_) (fun hm => ?_)
  · obtain rfl := Option.some.inj hm
    refine rr_sub [false, false, true, false] rfl ?_
    exact hX0 s2 rfl
  · refine rr_iload_n (q := 13) dX4_countOfLot_12 rfl rfl ?_
    refine rr_aload_n (q := 14) dX4_countOfLot_13 rfl rfl ?_
    refine gf_X4_15 (q := 17) rfl dX4_countOfLot_14 rfl ?_
    refine rr_iload_n (q := 18) dX4_countOfLot_17 rfl rfl ?_
    obtain ⟨c1, hm⟩ := vv_ck_of hm
    refine rr_iald (q := 19) ylC_158 ynC_158 c1 dX4_countOfLot_18 rfl ?_
    refine rr_iload_n (q := 20) dX4_countOfLot_19 rfl rfl ?_
    refine rr_icmp_ne (q := 23) (tgt := 27) dX4_countOfLot_20 (by decide) rfl hm (fun hm => ?_) (fun hm => ?_)
    · refine rr_iconst (q := 28) (v := 0) dX4_countOfLot_27 rfl (by decide) ?_
      refine rr_iadd (q := 29) dX4_countOfLot_28 rfl ?_
      refine rr_istore_n (q := 30) [some (.ref (vv_ad x 156)), some (.int u1), some (.int (s2 + (0 : Int32))), some (.int s3)] dX4_countOfLot_29 rfl rfl (Nat.le_of_ble_eq_true rfl) rfl rfl ?_
      obtain ⟨w2, c3, hm⟩ := vv_let_of hm
      refine rr_iinc (q := 33) [some (.ref (vv_ad x 156)), some (.int u1), some (.int (s2 + (0 : Int32))), some (.int w2)] dX4_countOfLot_30 rfl rfl c3.symm (Nat.le_of_ble_eq_true rfl) rfl rfl ?_
      refine rr_goto (tgt := 4) dX4_countOfLot_33 (by decide) ?_
      obtain rfl := Option.some.inj hm
      exact hI (s2 + (0 : Int32)) w2 rfl
    · refine rr_iconst (q := 24) (v := 1) dX4_countOfLot_23 rfl (by decide) ?_
      refine rr_goto (tgt := 28) dX4_countOfLot_24 (by decide) ?_
      refine rr_iadd (q := 29) dX4_countOfLot_28 rfl ?_
      refine rr_istore_n (q := 30) [some (.ref (vv_ad x 156)), some (.int u1), some (.int (s2 + (1 : Int32))), some (.int s3)] dX4_countOfLot_29 rfl rfl (Nat.le_of_ble_eq_true rfl) rfl rfl ?_
      obtain ⟨w4, c5, hm⟩ := vv_let_of hm
      refine rr_iinc (q := 33) [some (.ref (vv_ad x 156)), some (.int u1), some (.int (s2 + (1 : Int32))), some (.int w4)] dX4_countOfLot_30 rfl rfl c5.symm (Nat.le_of_ble_eq_true rfl) rfl rfl ?_
      refine rr_goto (tgt := 4) dX4_countOfLot_33 (by decide) ?_
      obtain rfl := Option.some.inj hm
      exact hI (s2 + (1 : Int32)) w4 rfl
set_option maxHeartbeats 200000 in
theorem vt_X4_countOfLot {x : vv_E} {post : Option Value → vv_H → Prop} {h : vv_H} {v1 : Int32} {o : Int32}  (hm : ff_X4_countOfLot  h v1 = some o) (hp : post (some (.int o)) h) : vv_V x vv_TC mm_X4_countOfLot post 0 [some (.ref (vv_ad x 156)), some (.int v1), none, none] [] h := by
  unfold ff_X4_countOfLot at hm
  refine rr_iconst (q := 1) (v := 0) dX4_countOfLot_0 rfl (by decide) ?_
  refine rr_istore_n (q := 2) [some (.ref (vv_ad x 156)), some (.int v1), some (.int (0 : Int32)), none] dX4_countOfLot_1 rfl rfl (Nat.le_of_ble_eq_true rfl) rfl rfl ?_
  refine rr_iconst (q := 3) (v := 0) dX4_countOfLot_2 rfl (by decide) ?_
  refine rr_istore_n (q := 4) [some (.ref (vv_ad x 156)), some (.int v1), some (.int (0 : Int32)), some (.int (0 : Int32))] dX4_countOfLot_3 rfl rfl (Nat.le_of_ble_eq_true rfl) rfl rfl ?_
  obtain ⟨r6, k8, hm⟩ := vv_bind hm
  refine vv_lp_link (P := fun (zs : Int32 × Int32) => vv_V x vv_TC mm_X4_countOfLot post 4 [some (.ref (vv_ad x 156)), some (.int v1), some (.int zs.1), some (.int zs.2)] [] h) (Q := (fun (e7 : (Int32)) => vv_V x vv_TC mm_X4_countOfLot post 36 [none, none, some (.int e7), none] [] h)) (fun zs o hm hI hX => ?_) vv_F ((0 : Int32), (0 : Int32)) r6 k8 ?_
  · exact vt_X4_countOfLot_B4   hm (fun z2 z3 e => hI (z2, z3) e) (fun z2 e => hX z2 e)
  · generalize r6 = e7 at hm ⊢
    try dsimp only [Sum.elim_inl, Sum.elim_inr] at hm
    try dsimp only [Sum.elim_inl, Sum.elim_inr]
    refine rr_iload_n (q := 37) dX4_countOfLot_36 rfl rfl ?_
    obtain rfl := Option.some.inj hm
    exact rr_iret dX4_countOfLot_37 rfl hp
theorem cc_X4_countOfLot {x : vv_E} {h : vv_H} {v1 : Int32} {o : Int32}  (hm : ff_X4_countOfLot h v1 = some o) : vv_C x vv_TC yX4_countOfLot mm_X4_countOfLot [.ref (vv_ad x 156), .int v1] h (fun v g => v = some (.int o) ∧ g = h) := vv_entry (by decide +kernel) rfl (Nat.le_of_ble_eq_true rfl) rfl (vt_X4_countOfLot  hm ⟨rfl, rfl⟩)
def ff_X4_countFailed_B4 (u1 : Int32) (h : vv_H) (s2 : Int32) (s3 : Int32) : Option ((Int32 × Int32) ⊕ ((Int32))) := (if (h.1 156 0) ≤ s3 then some (.inr s2) else vv_ck s3 36 ((if (h.1 158 s3.toNatClampNeg) = u1 then vv_ck s3 36 (vv_let (s2 + (h.1 164 s3.toNatClampNeg)) (fun w5 => vv_let (s3 + 1) (fun w7 => some (.inl (w5, w7))))) else vv_let (s3 + 1) (fun w2 => some (.inl ((s2 + (0 : Int32)), w2))))))
def ff_X4_countFailed (h : vv_H) (v1 : Int32) : Option (Int32) := (vv_lp (fun (zs : Int32 × Int32) => ff_X4_countFailed_B4  v1 h zs.1 zs.2) vv_F ((0 : Int32), (0 : Int32))).bind (fun (e10 : (Int32)) => some e10)
set_option maxHeartbeats 200000 in
theorem vt_X4_countFailed_B4 {x : vv_E} {post : Option Value → vv_H → Prop} {u1 : Int32} {h : vv_H} {s2 : Int32} {s3 : Int32} {o : (Int32 × Int32) ⊕ ((Int32))}  (hm : ff_X4_countFailed_B4  u1 h s2 s3 = some o) (hI : ∀ (z2 : Int32) (z3 : Int32) , o = .inl (z2, z3) → vv_V x vv_TC mm_X4_countFailed post 4 [some (.ref (vv_ad x 156)), some (.int u1), some (.int z2), some (.int z3)] [] h) (hX0 : ∀ (z2 : Int32), o = .inr z2 → vv_V x vv_TC mm_X4_countFailed post 41 [none, none, some (.int z2), none] [] h) : vv_V x vv_TC mm_X4_countFailed post 4 [some (.ref (vv_ad x 156)), some (.int u1), some (.int s2), some (.int s3)] [] h := by
  unfold ff_X4_countFailed_B4 at hm
  refine rr_iload_n (q := 5) dX4_countFailed_4 rfl rfl ?_
  refine rr_aload_n (q := 6) dX4_countFailed_5 rfl rfl ?_
  refine gf_X4_42 (q := 9) rfl dX4_countFailed_6 rfl ?_
  refine rr_icmp_ge (q := 12) (tgt := 41) dX4_countFailed_9 (by decide) rfl hm (fun hm => ?_) (fun hm => ?_)
  · obtain rfl := Option.some.inj hm
    refine rr_sub [false, false, true, false] rfl ?_
    exact hX0 s2 rfl
  · refine rr_iload_n (q := 13) dX4_countFailed_12 rfl rfl ?_
    refine rr_aload_n (q := 14) dX4_countFailed_13 rfl rfl ?_
    refine gf_X4_15 (q := 17) rfl dX4_countFailed_14 rfl ?_
    refine rr_iload_n (q := 18) dX4_countFailed_17 rfl rfl ?_
    obtain ⟨c1, hm⟩ := vv_ck_of hm
    refine rr_iald (q := 19) ylC_158 ynC_158 c1 dX4_countFailed_18 rfl ?_
    refine rr_iload_n (q := 20) dX4_countFailed_19 rfl rfl ?_
    refine rr_icmp_ne (q := 23) (tgt := 32) dX4_countFailed_20 (by decide) rfl hm (fun hm => ?_) (fun hm => ?_)
    · refine rr_iconst (q := 33) (v := 0) dX4_countFailed_32 rfl (by decide) ?_
      refine rr_iadd (q := 34) dX4_countFailed_33 rfl ?_
      refine rr_istore_n (q := 35) [some (.ref (vv_ad x 156)), some (.int u1), some (.int (s2 + (0 : Int32))), some (.int s3)] dX4_countFailed_34 rfl rfl (Nat.le_of_ble_eq_true rfl) rfl rfl ?_
      obtain ⟨w2, c3, hm⟩ := vv_let_of hm
      refine rr_iinc (q := 38) [some (.ref (vv_ad x 156)), some (.int u1), some (.int (s2 + (0 : Int32))), some (.int w2)] dX4_countFailed_35 rfl rfl c3.symm (Nat.le_of_ble_eq_true rfl) rfl rfl ?_
      refine rr_goto (tgt := 4) dX4_countFailed_38 (by decide) ?_
      obtain rfl := Option.some.inj hm
      exact hI (s2 + (0 : Int32)) w2 rfl
    · refine rr_aload_n (q := 24) dX4_countFailed_23 rfl rfl ?_
      refine gf_X4_33 (q := 27) rfl dX4_countFailed_24 rfl ?_
      refine rr_iload_n (q := 28) dX4_countFailed_27 rfl rfl ?_
      obtain ⟨c4, hm⟩ := vv_ck_of hm
      refine rr_iald (q := 29) ylC_164 ynC_164 c4 dX4_countFailed_28 rfl ?_
      refine rr_goto (tgt := 33) dX4_countFailed_29 (by decide) ?_
      refine rr_iadd (q := 34) dX4_countFailed_33 rfl ?_
      obtain ⟨w5, c6, hm⟩ := vv_let_of hm
      rw [← c6]
      refine rr_istore_n (q := 35) [some (.ref (vv_ad x 156)), some (.int u1), some (.int w5), some (.int s3)] dX4_countFailed_34 rfl rfl (Nat.le_of_ble_eq_true rfl) rfl rfl ?_
      obtain ⟨w7, c8, hm⟩ := vv_let_of hm
      refine rr_iinc (q := 38) [some (.ref (vv_ad x 156)), some (.int u1), some (.int w5), some (.int w7)] dX4_countFailed_35 rfl rfl c8.symm (Nat.le_of_ble_eq_true rfl) rfl rfl ?_
      refine rr_goto (tgt := 4) dX4_countFailed_38 (by decide) ?_
      obtain rfl := Option.some.inj hm
      exact hI w5 w7 rfl
set_option maxHeartbeats 200000 in
theorem vt_X4_countFailed {x : vv_E} {post : Option Value → vv_H → Prop} {h : vv_H} {v1 : Int32} {o : Int32}  (hm : ff_X4_countFailed  h v1 = some o) (hp : post (some (.int o)) h) : vv_V x vv_TC mm_X4_countFailed post 0 [some (.ref (vv_ad x 156)), some (.int v1), none, none] [] h := by
  unfold ff_X4_countFailed at hm
  refine rr_iconst (q := 1) (v := 0) dX4_countFailed_0 rfl (by decide) ?_
  refine rr_istore_n (q := 2) [some (.ref (vv_ad x 156)), some (.int v1), some (.int (0 : Int32)), none] dX4_countFailed_1 rfl rfl (Nat.le_of_ble_eq_true rfl) rfl rfl ?_
  refine rr_iconst (q := 3) (v := 0) dX4_countFailed_2 rfl (by decide) ?_
  refine rr_istore_n (q := 4) [some (.ref (vv_ad x 156)), some (.int v1), some (.int (0 : Int32)), some (.int (0 : Int32))] dX4_countFailed_3 rfl rfl (Nat.le_of_ble_eq_true rfl) rfl rfl ?_
  obtain ⟨r9, k11, hm⟩ := vv_bind hm
  refine vv_lp_link (P := fun (zs : Int32 × Int32) => vv_V x vv_TC mm_X4_countFailed post 4 [some (.ref (vv_ad x 156)), some (.int v1), some (.int zs.1), some (.int zs.2)] [] h) (Q := (fun (e10 : (Int32)) => vv_V x vv_TC mm_X4_countFailed post 41 [none, none, some (.int e10), none] [] h)) (fun zs o hm hI hX => ?_) vv_F ((0 : Int32), (0 : Int32)) r9 k11 ?_
  · exact vt_X4_countFailed_B4   hm (fun z2 z3 e => hI (z2, z3) e) (fun z2 e => hX z2 e)
  · generalize r9 = e10 at hm ⊢
    try dsimp only [Sum.elim_inl, Sum.elim_inr] at hm
    try dsimp only [Sum.elim_inl, Sum.elim_inr]
    refine rr_iload_n (q := 42) dX4_countFailed_41 rfl rfl ?_
    obtain rfl := Option.some.inj hm
    exact rr_iret dX4_countFailed_42 rfl hp
theorem cc_X4_countFailed {x : vv_E} {h : vv_H} {v1 : Int32} {o : Int32}  (hm : ff_X4_countFailed h v1 = some o) : vv_C x vv_TC yX4_countFailed mm_X4_countFailed [.ref (vv_ad x 156), .int v1] h (fun v g => v = some (.int o) ∧ g = h) := vv_entry (by decide +kernel) rfl (Nat.le_of_ble_eq_true rfl) rfl (vt_X4_countFailed  hm ⟨rfl, rfl⟩)
def ff_X4_countAllFailed_B4 (h : vv_H) (s1 : Int32) (s2 : Int32) : Option ((Int32 × Int32) ⊕ ((Int32))) := (if (h.1 156 0) ≤ s2 then some (.inr s1) else vv_ck s2 36 (vv_let (s1 + (h.1 164 s2.toNatClampNeg)) (fun w2 => vv_let (s2 + 1) (fun w4 => some (.inl (w2, w4))))))
def ff_X4_countAllFailed (h : vv_H) : Option (Int32) := (vv_lp (fun (zs : Int32 × Int32) => ff_X4_countAllFailed_B4  h zs.1 zs.2) vv_F ((0 : Int32), (0 : Int32))).bind (fun (e7 : (Int32)) => some e7)
set_option maxHeartbeats 200000 in
theorem vt_X4_countAllFailed_B4 {x : vv_E} {post : Option Value → vv_H → Prop} {h : vv_H} {s1 : Int32} {s2 : Int32} {o : (Int32 × Int32) ⊕ ((Int32))}  (hm : ff_X4_countAllFailed_B4  h s1 s2 = some o) (hI : ∀ (z1 : Int32) (z2 : Int32) , o = .inl (z1, z2) → vv_V x vv_TC mm_X4_countAllFailed post 4 [some (.ref (vv_ad x 156)), some (.int z1), some (.int z2)] [] h) (hX0 : ∀ (z1 : Int32), o = .inr z1 → vv_V x vv_TC mm_X4_countAllFailed post 27 [none, some (.int z1), none] [] h) : vv_V x vv_TC mm_X4_countAllFailed post 4 [some (.ref (vv_ad x 156)), some (.int s1), some (.int s2)] [] h := by
  unfold ff_X4_countAllFailed_B4 at hm
  refine rr_iload_n (q := 5) dX4_countAllFailed_4 rfl rfl ?_
  refine rr_aload_n (q := 6) dX4_countAllFailed_5 rfl rfl ?_
  refine gf_X4_42 (q := 9) rfl dX4_countAllFailed_6 rfl ?_
  refine rr_icmp_ge (q := 12) (tgt := 27) dX4_countAllFailed_9 (by decide) rfl hm (fun hm => ?_) (fun hm => ?_)
  · obtain rfl := Option.some.inj hm
    refine rr_sub [false, true, false] rfl ?_
    exact hX0 s1 rfl
  · refine rr_iload_n (q := 13) dX4_countAllFailed_12 rfl rfl ?_
    refine rr_aload_n (q := 14) dX4_countAllFailed_13 rfl rfl ?_
    refine gf_X4_33 (q := 17) rfl dX4_countAllFailed_14 rfl ?_
    refine rr_iload_n (q := 18) dX4_countAllFailed_17 rfl rfl ?_
    obtain ⟨c1, hm⟩ := vv_ck_of hm
    refine rr_iald (q := 19) ylC_164 ynC_164 c1 dX4_countAllFailed_18 rfl ?_
    refine rr_iadd (q := 20) dX4_countAllFailed_19 rfl ?_
    obtain ⟨w2, c3, hm⟩ := vv_let_of hm
    rw [← c3]
    refine rr_istore_n (q := 21) [some (.ref (vv_ad x 156)), some (.int w2), some (.int s2)] dX4_countAllFailed_20 rfl rfl (Nat.le_of_ble_eq_true rfl) rfl rfl ?_
    obtain ⟨w4, c5, hm⟩ := vv_let_of hm
    refine rr_iinc (q := 24) [some (.ref (vv_ad x 156)), some (.int w2), some (.int w4)] dX4_countAllFailed_21 rfl rfl c5.symm (Nat.le_of_ble_eq_true rfl) rfl rfl ?_
    refine rr_goto (tgt := 4) dX4_countAllFailed_24 (by decide) ?_
    obtain rfl := Option.some.inj hm
    exact hI w2 w4 rfl
set_option maxHeartbeats 200000 in
theorem vt_X4_countAllFailed {x : vv_E} {post : Option Value → vv_H → Prop} {h : vv_H} {o : Int32}  (hm : ff_X4_countAllFailed  h = some o) (hp : post (some (.int o)) h) : vv_V x vv_TC mm_X4_countAllFailed post 0 [some (.ref (vv_ad x 156)), none, none] [] h := by
  unfold ff_X4_countAllFailed at hm
  refine rr_iconst (q := 1) (v := 0) dX4_countAllFailed_0 rfl (by decide) ?_
  refine rr_istore_n (q := 2) [some (.ref (vv_ad x 156)), some (.int (0 : Int32)), none] dX4_countAllFailed_1 rfl rfl (Nat.le_of_ble_eq_true rfl) rfl rfl ?_
  refine rr_iconst (q := 3) (v := 0) dX4_countAllFailed_2 rfl (by decide) ?_
  refine rr_istore_n (q := 4) [some (.ref (vv_ad x 156)), some (.int (0 : Int32)), some (.int (0 : Int32))] dX4_countAllFailed_3 rfl rfl (Nat.le_of_ble_eq_true rfl) rfl rfl ?_
  obtain ⟨r6, k8, hm⟩ := vv_bind hm
  refine vv_lp_link (P := fun (zs : Int32 × Int32) => vv_V x vv_TC mm_X4_countAllFailed post 4 [some (.ref (vv_ad x 156)), some (.int zs.1), some (.int zs.2)] [] h) (Q := (fun (e7 : (Int32)) => vv_V x vv_TC mm_X4_countAllFailed post 27 [none, some (.int e7), none] [] h)) (fun zs o hm hI hX => ?_) vv_F ((0 : Int32), (0 : Int32)) r6 k8 ?_
  · exact vt_X4_countAllFailed_B4   hm (fun z1 z2 e => hI (z1, z2) e) (fun z1 e => hX z1 e)
  · generalize r6 = e7 at hm ⊢
    try dsimp only [Sum.elim_inl, Sum.elim_inr] at hm
    try dsimp only [Sum.elim_inl, Sum.elim_inr]
    refine rr_iload_n (q := 28) dX4_countAllFailed_27 rfl rfl ?_
    obtain rfl := Option.some.inj hm
    exact rr_iret dX4_countAllFailed_28 rfl hp
theorem cc_X4_countAllFailed {x : vv_E} {h : vv_H} {o : Int32}  (hm : ff_X4_countAllFailed h = some o) : vv_C x vv_TC yX4_countAllFailed mm_X4_countAllFailed [.ref (vv_ad x 156)] h (fun v g => v = some (.int o) ∧ g = h) := vv_entry (by decide +kernel) rfl (Nat.le_of_ble_eq_true rfl) rfl (vt_X4_countAllFailed  hm ⟨rfl, rfl⟩)
def ff_X5_refuse (h : vv_H) (v1 : Int32) (v2 : Int32) : Option (Int32 × vv_H) := vv_let (vv_iu h 55 1 v1) (fun g1 => vv_let (vv_iu g1 55 0 v2) (fun g3 => some ((0 : Int32), g3)))
set_option maxHeartbeats 200000 in
theorem vt_X5_refuse {x : vv_E} {post : Option Value → vv_H → Prop} {h : vv_H} {v1 : Int32} {v2 : Int32} {o : Int32 × vv_H}  (hm : ff_X5_refuse  h v1 v2 = some o) (hp : post (some (.int o.1)) o.2) : vv_V x vv_TC mm_X5_refuse post 0 [some (.ref (vv_ad x 55)), some (.int v1), some (.int v2)] [] h := by
  unfold ff_X5_refuse at hm
  refine rr_aload_n (q := 1) dX5_refuse_0 rfl rfl ?_
  refine rr_iload_n (q := 2) dX5_refuse_1 rfl rfl ?_
  refine pf_X5_9 (q := 5) rfl dX5_refuse_2 rfl (fun g1 c2 => ?_)
  replace hm := vv_letE hm c2
  refine rr_aload_n (q := 6) dX5_refuse_5 rfl rfl ?_
  refine rr_iload_n (q := 7) dX5_refuse_6 rfl rfl ?_
  refine pf_X5_15 (q := 10) rfl dX5_refuse_7 rfl (fun g3 c4 => ?_)
  replace hm := vv_letE hm c4
  refine rr_iconst (q := 11) (v := 0) dX5_refuse_10 rfl (by decide) ?_
  obtain rfl := Option.some.inj hm
  exact rr_zret dX5_refuse_11 rfl rfl hp
theorem cc_X5_refuse {x : vv_E} {h : vv_H} {v1 : Int32} {v2 : Int32} {o : Int32 × vv_H}  (hm : ff_X5_refuse h v1 v2 = some o) : vv_C x vv_TC yX5_refuse mm_X5_refuse [.ref (vv_ad x 55), .int v1, .int v2] h (fun v g => v = some (.int o.1) ∧ g = o.2) := vv_entry (by decide +kernel) rfl (Nat.le_of_ble_eq_true rfl) rfl (vt_X5_refuse  hm ⟨rfl, rfl⟩)
def ff_X6_add (h : vv_H) (b0 : Bool) (v1 : Int32) (v2 : Int32) (v3 : Int32) (v4 : Int32) : Option (vv_H) := (if (12 : Int32) ≤ (h.1 (vv_rid b0) 0) then some h else vv_ck (h.1 (vv_rid b0) 0) 12 (vv_let (vv_iu h (vv_rid b0 + 1) (h.1 (vv_rid b0) 0).toNatClampNeg v1) (fun g2 => vv_ck (g2.1 (vv_rid b0) 0) 12 (vv_let (vv_iu g2 (vv_rid b0 + 2) (g2.1 (vv_rid b0) 0).toNatClampNeg v2) (fun g5 => vv_ck (g5.1 (vv_rid b0) 0) 12 (vv_let (vv_iu g5 (vv_rid b0 + 3) (g5.1 (vv_rid b0) 0).toNatClampNeg v3) (fun g8 => vv_ck (g8.1 (vv_rid b0) 0) 12 (vv_let (vv_iu g8 (vv_rid b0 + 4) (g8.1 (vv_rid b0) 0).toNatClampNeg v4) (fun g11 => vv_ck (g11.1 (vv_rid b0) 0) 12 (vv_let (vv_iu g11 (vv_rid b0 + 5) (g11.1 (vv_rid b0) 0).toNatClampNeg (0 : Int32)) (fun g14 => vv_let (vv_iu g14 (vv_rid b0) 0 ((g14.1 (vv_rid b0) 0) + (1 : Int32))) (fun g16 => some g16))))))))))))
set_option maxHeartbeats 200000 in
theorem vt_X6_add {x : vv_E} {post : Option Value → vv_H → Prop} {h : vv_H} {b0 : Bool} {v1 : Int32} {v2 : Int32} {v3 : Int32} {v4 : Int32} {o : vv_H}  (hm : ff_X6_add  h b0 v1 v2 v3 v4 = some o) (hp : post none o) : vv_V x vv_TC mm_X6_add post 0 [some (.ref (vv_ad x (vv_rid b0))), some (.int v1), some (.int v2), some (.int v3), some (.int v4)] [] h := by
  unfold ff_X6_add at hm
  refine rr_aload_n (q := 1) dX6_add_0 rfl rfl ?_
  refine gf_X6_38 (q := 4) rfl dX6_add_1 rfl ?_
  refine rr_bipush (q := 6) (v := 12) dX6_add_4 rfl (by decide) ?_
  refine rr_icmp_ge (q := 9) (tgt := 70) dX6_add_6 (by decide) rfl hm (fun hm => ?_) (fun hm => ?_)
  · obtain rfl := Option.some.inj hm
    exact rr_vret dX6_add_70 rfl hp
  · refine rr_aload_n (q := 10) dX6_add_9 rfl rfl ?_
    refine gf_X6_9 (q := 13) rfl dX6_add_10 rfl ?_
    refine rr_aload_n (q := 14) dX6_add_13 rfl rfl ?_
    refine gf_X6_38 (q := 17) rfl dX6_add_14 rfl ?_
    refine rr_iload_n (q := 18) dX6_add_17 rfl rfl ?_
    obtain ⟨c1, hm⟩ := vv_ck_of hm
    obtain ⟨g2, c3, hm⟩ := vv_let_of hm
    refine rr_iast (q := 19) (yr_1 b0).1 (yr_1 b0).2 c1 dX6_add_18 rfl ?_
    rw [← c3]
    refine rr_aload_n (q := 20) dX6_add_19 rfl rfl ?_
    refine gf_X6_15 (q := 23) rfl dX6_add_20 rfl ?_
    refine rr_aload_n (q := 24) dX6_add_23 rfl rfl ?_
    refine gf_X6_38 (q := 27) rfl dX6_add_24 rfl ?_
    refine rr_iload_n (q := 28) dX6_add_27 rfl rfl ?_
    obtain ⟨c4, hm⟩ := vv_ck_of hm
    obtain ⟨g5, c6, hm⟩ := vv_let_of hm
    refine rr_iast (q := 29) (yr_2 b0).1 (yr_2 b0).2 c4 dX6_add_28 rfl ?_
    rw [← c6]
    refine rr_aload_n (q := 30) dX6_add_29 rfl rfl ?_
    refine gf_X6_18 (q := 33) rfl dX6_add_30 rfl ?_
    refine rr_aload_n (q := 34) dX6_add_33 rfl rfl ?_
    refine gf_X6_38 (q := 37) rfl dX6_add_34 rfl ?_
    refine rr_iload_n (q := 38) dX6_add_37 rfl rfl ?_
    obtain ⟨c7, hm⟩ := vv_ck_of hm
    obtain ⟨g8, c9, hm⟩ := vv_let_of hm
    refine rr_iast (q := 39) (yr_3 b0).1 (yr_3 b0).2 c7 dX6_add_38 rfl ?_
    rw [← c9]
    refine rr_aload_n (q := 40) dX6_add_39 rfl rfl ?_
    refine gf_X6_21 (q := 43) rfl dX6_add_40 rfl ?_
    refine rr_aload_n (q := 44) dX6_add_43 rfl rfl ?_
    refine gf_X6_38 (q := 47) rfl dX6_add_44 rfl ?_
    refine rr_iload (q := 49) dX6_add_47 rfl rfl ?_
    obtain ⟨c10, hm⟩ := vv_ck_of hm
    obtain ⟨g11, c12, hm⟩ := vv_let_of hm
    refine rr_iast (q := 50) (yr_4 b0).1 (yr_4 b0).2 c10 dX6_add_49 rfl ?_
    rw [← c12]
    refine rr_aload_n (q := 51) dX6_add_50 rfl rfl ?_
    refine gf_X6_24 (q := 54) rfl dX6_add_51 rfl ?_
    refine rr_aload_n (q := 55) dX6_add_54 rfl rfl ?_
    refine gf_X6_38 (q := 58) rfl dX6_add_55 rfl ?_
    refine rr_iconst (q := 59) (v := 0) dX6_add_58 rfl (by decide) ?_
    obtain ⟨c13, hm⟩ := vv_ck_of hm
    obtain ⟨g14, c15, hm⟩ := vv_let_of hm
    refine rr_iast (q := 60) (yr_5 b0).1 (yr_5 b0).2 c13 dX6_add_59 rfl ?_
    rw [← c15]
    refine rr_aload_n (q := 61) dX6_add_60 rfl rfl ?_
    refine rr_dup (q := 62) dX6_add_61 rfl rfl ?_
    refine gf_X6_38 (q := 65) rfl dX6_add_62 rfl ?_
    refine rr_iconst (q := 66) (v := 1) dX6_add_65 rfl (by decide) ?_
    refine rr_iadd (q := 67) dX6_add_66 rfl ?_
    refine pf_X6_38 (q := 70) rfl dX6_add_67 rfl (fun g16 c17 => ?_)
    replace hm := vv_letE hm c17
    obtain rfl := Option.some.inj hm
    exact rr_vret dX6_add_70 rfl hp
theorem cc_X6_add {x : vv_E} {h : vv_H} {b0 : Bool} {v1 : Int32} {v2 : Int32} {v3 : Int32} {v4 : Int32} {o : vv_H}  (hm : ff_X6_add h b0 v1 v2 v3 v4 = some o) : vv_C x vv_TC yX6_add mm_X6_add [.ref (vv_ad x (vv_rid b0)), .int v1, .int v2, .int v3, .int v4] h (fun v g => v = none ∧ g = o) := vv_entry (by decide +kernel) rfl (Nat.le_of_ble_eq_true rfl) rfl (vt_X6_add  hm ⟨rfl, rfl⟩)
def ff_X6_addTest (h : vv_H) (b0 : Bool) (v1 : Int32) (v2 : Int32) (v3 : Int32) : Option (vv_H) := vv_let ((h.1 (vv_rid b0) 0) - (1 : Int32)) (fun w1 => (if w1 < 0 then some h else vv_ck w1 12 ((if (3 : Int32) ≤ (h.1 (vv_rid b0 + 5) w1.toNatClampNeg) then some h else vv_ck w1 12 (vv_let (h.1 (vv_rid b0 + 5) w1.toNatClampNeg) (fun w5 => vv_ck w1 12 (vv_ck w5 3 (vv_let (vv_iu h ((vv_rid b0 + 7) + w1.toNatClampNeg) w5.toNatClampNeg v1) (fun g9 => vv_ck w1 12 (vv_ck w5 3 (vv_let (vv_iu g9 ((vv_rid b0 + 20) + w1.toNatClampNeg) w5.toNatClampNeg v2) (fun g13 => vv_ck w1 12 (vv_ck w5 3 (vv_let (vv_iu g13 ((vv_rid b0 + 33) + w1.toNatClampNeg) w5.toNatClampNeg v3) (fun g17 => vv_ck w1 12 (vv_ck w1 12 (vv_let (vv_iu g17 (vv_rid b0 + 5) w1.toNatClampNeg ((g17.1 (vv_rid b0 + 5) w1.toNatClampNeg) + (1 : Int32))) (fun g21 => some g21))))))))))))))))))
set_option maxHeartbeats 200000 in
theorem vt_X6_addTest {x : vv_E} {post : Option Value → vv_H → Prop} {h : vv_H} {b0 : Bool} {v1 : Int32} {v2 : Int32} {v3 : Int32} {o : vv_H}  (hm : ff_X6_addTest  h b0 v1 v2 v3 = some o) (hp : post none o) : vv_V x vv_TC mm_X6_addTest post 0 [some (.ref (vv_ad x (vv_rid b0))), some (.int v1), some (.int v2), some (.int v3), none, none] [] h := by
  unfold ff_X6_addTest at hm
  refine rr_aload_n (q := 1) dX6_addTest_0 rfl rfl ?_
  refine gf_X6_38 (q := 4) rfl dX6_addTest_1 rfl ?_
  refine rr_iconst (q := 5) (v := 1) dX6_addTest_4 rfl (by decide) ?_
  refine rr_isub (q := 6) dX6_addTest_5 rfl ?_
  obtain ⟨w1, c2, hm⟩ := vv_let_of hm
  rw [← c2]
  refine rr_istore (q := 8) [some (.ref (vv_ad x (vv_rid b0))), some (.int v1), some (.int v2), some (.int v3), some (.int w1), none] dX6_addTest_6 rfl (Nat.le_of_ble_eq_true rfl) rfl rfl ?_
  refine rr_iload (q := 10) dX6_addTest_8 rfl rfl ?_
  refine rr_if_lt (q := 13) (tgt := 77) dX6_addTest_10 (by decide) rfl hm (fun hm => ?_) (fun hm => ?_)
  · obtain rfl := Option.some.inj hm
    exact rr_vret dX6_addTest_77 rfl hp
  · refine rr_aload_n (q := 14) dX6_addTest_13 rfl rfl ?_
    refine gf_X6_24 (q := 17) rfl dX6_addTest_14 rfl ?_
    refine rr_iload (q := 19) dX6_addTest_17 rfl rfl ?_
    obtain ⟨c3, hm⟩ := vv_ck_of hm
    refine rr_iald (q := 20) (yr_5 b0).1 (yr_5 b0).2 c3 dX6_addTest_19 rfl ?_
    refine rr_iconst (q := 21) (v := 3) dX6_addTest_20 rfl (by decide) ?_
    refine rr_icmp_ge (q := 24) (tgt := 77) dX6_addTest_21 (by decide) rfl hm (fun hm => ?_) (fun hm => ?_)
    · obtain rfl := Option.some.inj hm
      exact rr_vret dX6_addTest_77 rfl hp
    · refine rr_aload_n (q := 25) dX6_addTest_24 rfl rfl ?_
      refine gf_X6_24 (q := 28) rfl dX6_addTest_25 rfl ?_
      refine rr_iload (q := 30) dX6_addTest_28 rfl rfl ?_
      obtain ⟨c4, hm⟩ := vv_ck_of hm
      refine rr_iald (q := 31) (yr_5 b0).1 (yr_5 b0).2 c4 dX6_addTest_30 rfl ?_
      obtain ⟨w5, c6, hm⟩ := vv_let_of hm
      rw [← c6]
      refine rr_istore (q := 33) [some (.ref (vv_ad x (vv_rid b0))), some (.int v1), some (.int v2), some (.int v3), some (.int w1), some (.int w5)] dX6_addTest_31 rfl (Nat.le_of_ble_eq_true rfl) rfl rfl ?_
      refine rr_aload_n (q := 34) dX6_addTest_33 rfl rfl ?_
      refine gf_X6_29 (q := 37) rfl dX6_addTest_34 rfl ?_
      refine rr_iload (q := 39) dX6_addTest_37 rfl rfl ?_
      obtain ⟨c7, hm⟩ := vv_ck_of hm
      refine rr_aald (q := 40) (yr_6 b0).1 (yr_6 b0).2 c7 dX6_addTest_39 rfl ?_
      refine rr_iload (q := 42) dX6_addTest_40 rfl rfl ?_
      refine rr_iload_n (q := 43) dX6_addTest_42 rfl rfl ?_
      obtain ⟨c8, hm⟩ := vv_ck_of hm
      obtain ⟨g9, c10, hm⟩ := vv_let_of hm
      refine rr_iast (q := 44) (ywr_6 b0 c7).1 (ywr_6 b0 c7).2 c8 dX6_addTest_43 rfl ?_
      rw [← c10]
      refine rr_aload_n (q := 45) dX6_addTest_44 rfl rfl ?_
      refine gf_X6_32 (q := 48) rfl dX6_addTest_45 rfl ?_
      refine rr_iload (q := 50) dX6_addTest_48 rfl rfl ?_
      obtain ⟨c11, hm⟩ := vv_ck_of hm
      refine rr_aald (q := 51) (yr_19 b0).1 (yr_19 b0).2 c11 dX6_addTest_50 rfl ?_
      refine rr_iload (q := 53) dX6_addTest_51 rfl rfl ?_
      refine rr_iload_n (q := 54) dX6_addTest_53 rfl rfl ?_
      obtain ⟨c12, hm⟩ := vv_ck_of hm
      obtain ⟨g13, c14, hm⟩ := vv_let_of hm
      refine rr_iast (q := 55) (ywr_19 b0 c11).1 (ywr_19 b0 c11).2 c12 dX6_addTest_54 rfl ?_
      rw [← c14]
      refine rr_aload_n (q := 56) dX6_addTest_55 rfl rfl ?_
      refine gf_X6_35 (q := 59) rfl dX6_addTest_56 rfl ?_
      refine rr_iload (q := 61) dX6_addTest_59 rfl rfl ?_
      obtain ⟨c15, hm⟩ := vv_ck_of hm
      refine rr_aald (q := 62) (yr_32 b0).1 (yr_32 b0).2 c15 dX6_addTest_61 rfl ?_
      refine rr_iload (q := 64) dX6_addTest_62 rfl rfl ?_
      refine rr_iload_n (q := 65) dX6_addTest_64 rfl rfl ?_
      obtain ⟨c16, hm⟩ := vv_ck_of hm
      obtain ⟨g17, c18, hm⟩ := vv_let_of hm
      refine rr_iast (q := 66) (ywr_32 b0 c15).1 (ywr_32 b0 c15).2 c16 dX6_addTest_65 rfl ?_
      rw [← c18]
      refine rr_aload_n (q := 67) dX6_addTest_66 rfl rfl ?_
      refine gf_X6_24 (q := 70) rfl dX6_addTest_67 rfl ?_
      refine rr_iload (q := 72) dX6_addTest_70 rfl rfl ?_
      refine rr_dup2 (q := 73) dX6_addTest_72 rfl rfl rfl ?_
      obtain ⟨c19, hm⟩ := vv_ck_of hm
      refine rr_iald (q := 74) (yr_5 b0).1 (yr_5 b0).2 c19 dX6_addTest_73 rfl ?_
      refine rr_iconst (q := 75) (v := 1) dX6_addTest_74 rfl (by decide) ?_
      refine rr_iadd (q := 76) dX6_addTest_75 rfl ?_
      obtain ⟨c20, hm⟩ := vv_ck_of hm
      obtain ⟨g21, c22, hm⟩ := vv_let_of hm
      refine rr_iast (q := 77) (yr_5 b0).1 (yr_5 b0).2 c20 dX6_addTest_76 rfl ?_
      rw [← c22]
      obtain rfl := Option.some.inj hm
      exact rr_vret dX6_addTest_77 rfl hp
theorem cc_X6_addTest {x : vv_E} {h : vv_H} {b0 : Bool} {v1 : Int32} {v2 : Int32} {v3 : Int32} {o : vv_H}  (hm : ff_X6_addTest h b0 v1 v2 v3 = some o) : vv_C x vv_TC yX6_addTest mm_X6_addTest [.ref (vv_ad x (vv_rid b0)), .int v1, .int v2, .int v3] h (fun v g => v = none ∧ g = o) := vv_entry (by decide +kernel) rfl (Nat.le_of_ble_eq_true rfl) rfl (vt_X6_addTest  hm ⟨rfl, rfl⟩)
def ff_X6_isTold_B3 (b0 : Bool) (u1 : Int32) (u2 : Int32) (u3 : Int32) (h : vv_H) (s4 : Int32) : Option ((Int32) ⊕ ((Unit) ⊕ (Unit))) := (if (h.1 (vv_rid b0) 0) ≤ s4 then some (.inr (.inl ())) else vv_ck s4 12 ((if (h.1 (vv_rid b0 + 1) s4.toNatClampNeg) = u1 then vv_ck s4 12 ((if (h.1 (vv_rid b0 + 3) s4.toNatClampNeg) = u2 then vv_ck s4 12 ((if (h.1 (vv_rid b0 + 2) s4.toNatClampNeg) = u3 then some (.inr (.inr ())) else vv_let (s4 + 1) (fun w8 => some (.inl w8)))) else vv_let (s4 + 1) (fun w5 => some (.inl w5)))) else vv_let (s4 + 1) (fun w2 => some (.inl w2)))))
def ff_X6_isTold (h : vv_H) (b0 : Bool) (v1 : Int32) (v2 : Int32) (v3 : Int32) : Option (Int32) := (vv_lp (fun (zs : Int32) => ff_X6_isTold_B3  b0 v1 v2 v3 h zs) vv_F (0 : Int32)).bind (Sum.elim (fun (e11 : (Unit)) => some (0 : Int32)) (fun (e12 : (Unit)) => some (1 : Int32)))
set_option maxHeartbeats 200000 in
theorem vt_X6_isTold_B3 {x : vv_E} {post : Option Value → vv_H → Prop} {b0 : Bool} {u1 : Int32} {u2 : Int32} {u3 : Int32} {h : vv_H} {s4 : Int32} {o : (Int32) ⊕ ((Unit) ⊕ (Unit))}  (hm : ff_X6_isTold_B3  b0 u1 u2 u3 h s4 = some o) (hI : ∀ (z4 : Int32) , o = .inl z4 → vv_V x vv_TC mm_X6_isTold post 3 [some (.ref (vv_ad x (vv_rid b0))), some (.int u1), some (.int u2), some (.int u3), some (.int z4)] [] h) (hX0 : o = .inr (.inl ()) → vv_V x vv_TC mm_X6_isTold post 53 [none, none, none, none, none] [] h) (hX1 : o = .inr (.inr ()) → vv_V x vv_TC mm_X6_isTold post 45 [none, none, none, none, none] [] h) : vv_V x vv_TC mm_X6_isTold post 3 [some (.ref (vv_ad x (vv_rid b0))), some (.int u1), some (.int u2), some (.int u3), some (.int s4)] [] h := by
  unfold ff_X6_isTold_B3 at hm
  refine rr_iload (q := 5) dX6_isTold_3 rfl rfl ?_
  refine rr_aload_n (q := 6) dX6_isTold_5 rfl rfl ?_
  refine gf_X6_38 (q := 9) rfl dX6_isTold_6 rfl ?_
  refine rr_icmp_ge (q := 12) (tgt := 53) dX6_isTold_9 (by decide) rfl hm (fun hm => ?_) (fun hm => ?_)
  · obtain rfl := Option.some.inj hm
    refine rr_sub [false, false, false, false, false] rfl ?_
    exact hX0  rfl
  · refine rr_aload_n (q := 13) dX6_isTold_12 rfl rfl ?_
    refine gf_X6_9 (q := 16) rfl dX6_isTold_13 rfl ?_
    refine rr_iload (q := 18) dX6_isTold_16 rfl rfl ?_
    obtain ⟨c1, hm⟩ := vv_ck_of hm
    refine rr_iald (q := 19) (yr_1 b0).1 (yr_1 b0).2 c1 dX6_isTold_18 rfl ?_
    refine rr_iload_n (q := 20) dX6_isTold_19 rfl rfl ?_
    refine rr_icmp_ne (q := 23) (tgt := 47) dX6_isTold_20 (by decide) rfl hm (fun hm => ?_) (fun hm => ?_)
    · obtain ⟨w2, c3, hm⟩ := vv_let_of hm
      refine rr_iinc (q := 50) [some (.ref (vv_ad x (vv_rid b0))), some (.int u1), some (.int u2), some (.int u3), some (.int w2)] dX6_isTold_47 rfl rfl c3.symm (Nat.le_of_ble_eq_true rfl) rfl rfl ?_
      refine rr_goto (tgt := 3) dX6_isTold_50 (by decide) ?_
      obtain rfl := Option.some.inj hm
      exact hI w2 rfl
    · refine rr_aload_n (q := 24) dX6_isTold_23 rfl rfl ?_
      refine gf_X6_18 (q := 27) rfl dX6_isTold_24 rfl ?_
      refine rr_iload (q := 29) dX6_isTold_27 rfl rfl ?_
      obtain ⟨c4, hm⟩ := vv_ck_of hm
      refine rr_iald (q := 30) (yr_3 b0).1 (yr_3 b0).2 c4 dX6_isTold_29 rfl ?_
      refine rr_iload_n (q := 31) dX6_isTold_30 rfl rfl ?_
      refine rr_icmp_ne (q := 34) (tgt := 47) dX6_isTold_31 (by decide) rfl hm (fun hm => ?_) (fun hm => ?_)
      · obtain ⟨w5, c6, hm⟩ := vv_let_of hm
        refine rr_iinc (q := 50) [some (.ref (vv_ad x (vv_rid b0))), some (.int u1), some (.int u2), some (.int u3), some (.int w5)] dX6_isTold_47 rfl rfl c6.symm (Nat.le_of_ble_eq_true rfl) rfl rfl ?_
        refine rr_goto (tgt := 3) dX6_isTold_50 (by decide) ?_
        obtain rfl := Option.some.inj hm
        exact hI w5 rfl
      · refine rr_aload_n (q := 35) dX6_isTold_34 rfl rfl ?_
        refine gf_X6_15 (q := 38) rfl dX6_isTold_35 rfl ?_
        refine rr_iload (q := 40) dX6_isTold_38 rfl rfl ?_
        obtain ⟨c7, hm⟩ := vv_ck_of hm
        refine rr_iald (q := 41) (yr_2 b0).1 (yr_2 b0).2 c7 dX6_isTold_40 rfl ?_
        refine rr_iload_n (q := 42) dX6_isTold_41 rfl rfl ?_
        refine rr_icmp_ne (q := 45) (tgt := 47) dX6_isTold_42 (by decide) rfl hm (fun hm => ?_) (fun hm => ?_)
        · obtain ⟨w8, c9, hm⟩ := vv_let_of hm
          refine rr_iinc (q := 50) [some (.ref (vv_ad x (vv_rid b0))), some (.int u1), some (.int u2), some (.int u3), some (.int w8)] dX6_isTold_47 rfl rfl c9.symm (Nat.le_of_ble_eq_true rfl) rfl rfl ?_
          refine rr_goto (tgt := 3) dX6_isTold_50 (by decide) ?_
          obtain rfl := Option.some.inj hm
          exact hI w8 rfl
        · obtain rfl := Option.some.inj hm
          refine rr_sub [false, false, false, false, false] rfl ?_
          exact hX1  rfl
set_option maxHeartbeats 200000 in
theorem vt_X6_isTold {x : vv_E} {post : Option Value → vv_H → Prop} {h : vv_H} {b0 : Bool} {v1 : Int32} {v2 : Int32} {v3 : Int32} {o : Int32}  (hm : ff_X6_isTold  h b0 v1 v2 v3 = some o) (hp : post (some (.int o)) h) : vv_V x vv_TC mm_X6_isTold post 0 [some (.ref (vv_ad x (vv_rid b0))), some (.int v1), some (.int v2), some (.int v3), none] [] h := by
  unfold ff_X6_isTold at hm
  refine rr_iconst (q := 1) (v := 0) dX6_isTold_0 rfl (by decide) ?_
  refine rr_istore (q := 3) [some (.ref (vv_ad x (vv_rid b0))), some (.int v1), some (.int v2), some (.int v3), some (.int (0 : Int32))] dX6_isTold_1 rfl (Nat.le_of_ble_eq_true rfl) rfl rfl ?_
  obtain ⟨r10, k13, hm⟩ := vv_bind hm
  refine vv_lp_link (P := fun (zs : Int32) => vv_V x vv_TC mm_X6_isTold post 3 [some (.ref (vv_ad x (vv_rid b0))), some (.int v1), some (.int v2), some (.int v3), some (.int zs)] [] h) (Q := (Sum.elim (fun (e11 : (Unit)) => vv_V x vv_TC mm_X6_isTold post 53 [none, none, none, none, none] [] h) (fun (e12 : (Unit)) => vv_V x vv_TC mm_X6_isTold post 45 [none, none, none, none, none] [] h))) (fun zs o hm hI hX => ?_) vv_F (0 : Int32) r10 k13 ?_
  · exact vt_X6_isTold_B3   hm (fun z4 e => hI z4 e) (hX (.inl ())) (hX (.inr ()))
  · rcases r10 with e11 | qe11
    · try dsimp only [Sum.elim_inl, Sum.elim_inr] at hm
      try dsimp only [Sum.elim_inl, Sum.elim_inr]
      refine rr_iconst (q := 54) (v := 0) dX6_isTold_53 rfl (by decide) ?_
      obtain rfl := Option.some.inj hm
      exact rr_zret dX6_isTold_54 rfl rfl hp
    · generalize qe11 = e12 at hm ⊢
      try dsimp only [Sum.elim_inl, Sum.elim_inr] at hm
      try dsimp only [Sum.elim_inl, Sum.elim_inr]
      refine rr_iconst (q := 46) (v := 1) dX6_isTold_45 rfl (by decide) ?_
      obtain rfl := Option.some.inj hm
      exact rr_zret dX6_isTold_46 rfl rfl hp
theorem cc_X6_isTold {x : vv_E} {h : vv_H} {b0 : Bool} {v1 : Int32} {v2 : Int32} {v3 : Int32} {o : Int32}  (hm : ff_X6_isTold h b0 v1 v2 v3 = some o) : vv_C x vv_TC yX6_isTold mm_X6_isTold [.ref (vv_ad x (vv_rid b0)), .int v1, .int v2, .int v3] h (fun v g => v = some (.int o) ∧ g = h) := vv_entry (by decide +kernel) rfl (Nat.le_of_ble_eq_true rfl) rfl (vt_X6_isTold  hm ⟨rfl, rfl⟩)
def ff_X6_numberOf (h : vv_H) (b0 : Bool) (v1 : Int32) : Option (Int32) := (if v1 < 0 then some (0 : Int32) else (if (h.1 (vv_rid b0) 0) ≤ v1 then some (0 : Int32) else vv_ck v1 12 (some (h.1 (vv_rid b0 + 4) v1.toNatClampNeg))))
set_option maxHeartbeats 200000 in
theorem vt_X6_numberOf {x : vv_E} {post : Option Value → vv_H → Prop} {h : vv_H} {b0 : Bool} {v1 : Int32} {o : Int32}  (hm : ff_X6_numberOf  h b0 v1 = some o) (hp : post (some (.int o)) h) : vv_V x vv_TC mm_X6_numberOf post 0 [some (.ref (vv_ad x (vv_rid b0))), some (.int v1)] [] h := by
  unfold ff_X6_numberOf at hm
  refine rr_iload_n (q := 1) dX6_numberOf_0 rfl rfl ?_
  refine rr_if_lt (q := 4) (tgt := 21) dX6_numberOf_1 (by decide) rfl hm (fun hm => ?_) (fun hm => ?_)
  · refine rr_iconst (q := 22) (v := 0) dX6_numberOf_21 rfl (by decide) ?_
    obtain rfl := Option.some.inj hm
    exact rr_iret dX6_numberOf_22 rfl hp
  · refine rr_iload_n (q := 5) dX6_numberOf_4 rfl rfl ?_
    refine rr_aload_n (q := 6) dX6_numberOf_5 rfl rfl ?_
    refine gf_X6_38 (q := 9) rfl dX6_numberOf_6 rfl ?_
    refine rr_icmp_ge (q := 12) (tgt := 21) dX6_numberOf_9 (by decide) rfl hm (fun hm => ?_) (fun hm => ?_)
    · refine rr_iconst (q := 22) (v := 0) dX6_numberOf_21 rfl (by decide) ?_
      obtain rfl := Option.some.inj hm
      exact rr_iret dX6_numberOf_22 rfl hp
    · refine rr_aload_n (q := 13) dX6_numberOf_12 rfl rfl ?_
      refine gf_X6_21 (q := 16) rfl dX6_numberOf_13 rfl ?_
      refine rr_iload_n (q := 17) dX6_numberOf_16 rfl rfl ?_
      obtain ⟨c1, hm⟩ := vv_ck_of hm
      refine rr_iald (q := 18) (yr_4 b0).1 (yr_4 b0).2 c1 dX6_numberOf_17 rfl ?_
      refine rr_goto (tgt := 22) dX6_numberOf_18 (by decide) ?_
      obtain rfl := Option.some.inj hm
      exact rr_iret dX6_numberOf_22 rfl hp
theorem cc_X6_numberOf {x : vv_E} {h : vv_H} {b0 : Bool} {v1 : Int32} {o : Int32}  (hm : ff_X6_numberOf h b0 v1 = some o) : vv_C x vv_TC yX6_numberOf mm_X6_numberOf [.ref (vv_ad x (vv_rid b0)), .int v1] h (fun v g => v = some (.int o) ∧ g = h) := vv_entry (by decide +kernel) rfl (Nat.le_of_ble_eq_true rfl) rfl (vt_X6_numberOf  hm ⟨rfl, rfl⟩)
def ff_X6_latest_J57  (b0 : Bool) (u1 : Int32) (u2 : Int32) (u3 : Int32) (m5 : Int32) (m6 : Int32) (m7 : Int32) (z0 : Int32) (h : vv_H) : Option ((Int32 × Int32 × Int32) ⊕ ((Int32))) := (if z0 = 0 then vv_let (m7 + 1) (fun w2 => some (.inl (m5, m6, w2))) else vv_ck m7 12 ((if (h.1 (vv_rid b0 + 2) m7.toNatClampNeg) ≤ m6 then vv_let (m7 + 1) (fun w5 => some (.inl (m5, m6, w5))) else vv_ck m7 12 (vv_let (h.1 (vv_rid b0 + 2) m7.toNatClampNeg) (fun w8 => vv_ck m7 12 (vv_let (h.1 (vv_rid b0 + 4) m7.toNatClampNeg) (fun w11 => vv_let (m7 + 1) (fun w13 => some (.inl (w11, w8, w13))))))))))
def ff_X6_latest_J56  (b0 : Bool) (u1 : Int32) (u2 : Int32) (u3 : Int32) (m5 : Int32) (m6 : Int32) (m7 : Int32) (h : vv_H) : Option ((Int32 × Int32 × Int32) ⊕ ((Int32))) := ff_X6_latest_J57  b0 u1 u2 u3 m5 m6 m7 (0 : Int32) h
def ff_X6_latest_B10 (b0 : Bool) (u1 : Int32) (u2 : Int32) (u3 : Int32) (h : vv_H) (s5 : Int32) (s6 : Int32) (s7 : Int32) : Option ((Int32 × Int32 × Int32) ⊕ ((Int32))) := (if (h.1 (vv_rid b0) 0) ≤ s7 then some (.inr s5) else vv_ck s7 12 ((if (h.1 (vv_rid b0 + 1) s7.toNatClampNeg) = u1 then vv_ck s7 12 ((if (h.1 (vv_rid b0 + 3) s7.toNatClampNeg) = u2 then vv_ck s7 12 ((if u3 < (h.1 (vv_rid b0 + 2) s7.toNatClampNeg) then ff_X6_latest_J56  b0 u1 u2 u3 s5 s6 s7 h else ff_X6_latest_J57  b0 u1 u2 u3 s5 s6 s7 (1 : Int32) h)) else ff_X6_latest_J56  b0 u1 u2 u3 s5 s6 s7 h)) else ff_X6_latest_J56  b0 u1 u2 u3 s5 s6 s7 h)))
def ff_X6_latest (h : vv_H) (b0 : Bool) (v1 : Int32) (v2 : Int32) (v3 : Int32) (v4 : Int32) : Option (Int32) := (vv_lp (fun (zs : Int32 × Int32 × Int32) => ff_X6_latest_B10  b0 v1 v2 v3 h zs.1 zs.2.1 zs.2.2) vv_F (v4, (-1 : Int32), (0 : Int32))).bind (fun (e18 : (Int32)) => some e18)
set_option maxHeartbeats 200000 in
theorem vt_X6_latest_J57 {x : vv_E} {post : Option Value → vv_H → Prop}   {b0 : Bool} {u1 : Int32} {u2 : Int32} {u3 : Int32} {m5 : Int32} {m6 : Int32} {m7 : Int32} {z0 : Int32} {h : vv_H} {o : (Int32 × Int32 × Int32) ⊕ ((Int32))}  (hm : ff_X6_latest_J57  b0 u1 u2 u3 m5 m6 m7 z0 h = some o) (hI : ∀ (z5 : Int32) (z6 : Int32) (z7 : Int32) , o = .inl (z5, z6, z7) → vv_V x vv_TC mm_X6_latest post 10 [some (.ref (vv_ad x (vv_rid b0))), some (.int u1), some (.int u2), some (.int u3), none, some (.int z5), some (.int z6), some (.int z7), none] [] h) (hX0 : ∀ (z5 : Int32), o = .inr z5 → vv_V x vv_TC mm_X6_latest post 100 [none, none, none, none, none, some (.int z5), none, none, none] [] h) : vv_V x vv_TC mm_X6_latest post 57 [some (.ref (vv_ad x (vv_rid b0))), some (.int u1), some (.int u2), some (.int u3), none, some (.int m5), some (.int m6), some (.int m7), none] [.int z0] h := by
  unfold ff_X6_latest_J57 at hm
  refine rr_istore (q := 59) [some (.ref (vv_ad x (vv_rid b0))), some (.int u1), some (.int u2), some (.int u3), none, some (.int m5), some (.int m6), some (.int m7), some (.int z0)] dX6_latest_57 rfl (Nat.le_of_ble_eq_true rfl) rfl rfl ?_
  refine rr_iload (q := 61) dX6_latest_59 rfl rfl ?_
  refine rr_if_eq (q := 64) (tgt := 94) dX6_latest_61 (by decide) rfl hm (fun hm => ?_) (fun hm => ?_)
  · obtain ⟨w2, c3, hm⟩ := vv_let_of hm
    refine rr_iinc (q := 97) [some (.ref (vv_ad x (vv_rid b0))), some (.int u1), some (.int u2), some (.int u3), none, some (.int m5), some (.int m6), some (.int w2), some (.int z0)] dX6_latest_94 rfl rfl c3.symm (Nat.le_of_ble_eq_true rfl) rfl rfl ?_
    refine rr_goto (tgt := 10) dX6_latest_97 (by decide) ?_
    obtain rfl := Option.some.inj hm
    refine rr_sub [true, true, true, true, false, true, true, true, false] rfl ?_
    exact hI m5 m6 w2 rfl
  · refine rr_aload_n (q := 65) dX6_latest_64 rfl rfl ?_
    refine gf_X6_15 (q := 68) rfl dX6_latest_65 rfl ?_
    refine rr_iload (q := 70) dX6_latest_68 rfl rfl ?_
    obtain ⟨c4, hm⟩ := vv_ck_of hm
    refine rr_iald (q := 71) (yr_2 b0).1 (yr_2 b0).2 c4 dX6_latest_70 rfl ?_
    refine rr_iload (q := 73) dX6_latest_71 rfl rfl ?_
    refine rr_icmp_le (q := 76) (tgt := 94) dX6_latest_73 (by decide) rfl hm (fun hm => ?_) (fun hm => ?_)
    · obtain ⟨w5, c6, hm⟩ := vv_let_of hm
      refine rr_iinc (q := 97) [some (.ref (vv_ad x (vv_rid b0))), some (.int u1), some (.int u2), some (.int u3), none, some (.int m5), some (.int m6), some (.int w5), some (.int z0)] dX6_latest_94 rfl rfl c6.symm (Nat.le_of_ble_eq_true rfl) rfl rfl ?_
      refine rr_goto (tgt := 10) dX6_latest_97 (by decide) ?_
      obtain rfl := Option.some.inj hm
      refine rr_sub [true, true, true, true, false, true, true, true, false] rfl ?_
      exact hI m5 m6 w5 rfl
    · refine rr_aload_n (q := 77) dX6_latest_76 rfl rfl ?_
      refine gf_X6_15 (q := 80) rfl dX6_latest_77 rfl ?_
      refine rr_iload (q := 82) dX6_latest_80 rfl rfl ?_
      obtain ⟨c7, hm⟩ := vv_ck_of hm
      refine rr_iald (q := 83) (yr_2 b0).1 (yr_2 b0).2 c7 dX6_latest_82 rfl ?_
      obtain ⟨w8, c9, hm⟩ := vv_let_of hm
      rw [← c9]
      refine rr_istore (q := 85) [some (.ref (vv_ad x (vv_rid b0))), some (.int u1), some (.int u2), some (.int u3), none, some (.int m5), some (.int w8), some (.int m7), some (.int z0)] dX6_latest_83 rfl (Nat.le_of_ble_eq_true rfl) rfl rfl ?_
      refine rr_aload_n (q := 86) dX6_latest_85 rfl rfl ?_
      refine gf_X6_21 (q := 89) rfl dX6_latest_86 rfl ?_
      refine rr_iload (q := 91) dX6_latest_89 rfl rfl ?_
      obtain ⟨c10, hm⟩ := vv_ck_of hm
      refine rr_iald (q := 92) (yr_4 b0).1 (yr_4 b0).2 c10 dX6_latest_91 rfl ?_
      obtain ⟨w11, c12, hm⟩ := vv_let_of hm
      rw [← c12]
      refine rr_istore (q := 94) [some (.ref (vv_ad x (vv_rid b0))), some (.int u1), some (.int u2), some (.int u3), none, some (.int w11), some (.int w8), some (.int m7), some (.int z0)] dX6_latest_92 rfl (Nat.le_of_ble_eq_true rfl) rfl rfl ?_
      obtain ⟨w13, c14, hm⟩ := vv_let_of hm
      refine rr_iinc (q := 97) [some (.ref (vv_ad x (vv_rid b0))), some (.int u1), some (.int u2), some (.int u3), none, some (.int w11), some (.int w8), some (.int w13), some (.int z0)] dX6_latest_94 rfl rfl c14.symm (Nat.le_of_ble_eq_true rfl) rfl rfl ?_
      refine rr_goto (tgt := 10) dX6_latest_97 (by decide) ?_
      obtain rfl := Option.some.inj hm
      refine rr_sub [true, true, true, true, false, true, true, true, false] rfl ?_
      exact hI w11 w8 w13 rfl
set_option maxHeartbeats 200000 in
theorem vt_X6_latest_J56 {x : vv_E} {post : Option Value → vv_H → Prop}   {b0 : Bool} {u1 : Int32} {u2 : Int32} {u3 : Int32} {m5 : Int32} {m6 : Int32} {m7 : Int32} {h : vv_H} {o : (Int32 × Int32 × Int32) ⊕ ((Int32))}  (hm : ff_X6_latest_J56  b0 u1 u2 u3 m5 m6 m7 h = some o) (hI : ∀ (z5 : Int32) (z6 : Int32) (z7 : Int32) , o = .inl (z5, z6, z7) → vv_V x vv_TC mm_X6_latest post 10 [some (.ref (vv_ad x (vv_rid b0))), some (.int u1), some (.int u2), some (.int u3), none, some (.int z5), some (.int z6), some (.int z7), none] [] h) (hX0 : ∀ (z5 : Int32), o = .inr z5 → vv_V x vv_TC mm_X6_latest post 100 [none, none, none, none, none, some (.int z5), none, none, none] [] h) : vv_V x vv_TC mm_X6_latest post 56 [some (.ref (vv_ad x (vv_rid b0))), some (.int u1), some (.int u2), some (.int u3), none, some (.int m5), some (.int m6), some (.int m7), none] [] h := by
  unfold ff_X6_latest_J56 at hm
  refine rr_iconst (q := 57) (v := 0) dX6_latest_56 rfl (by decide) ?_
  exact vt_X6_latest_J57  hm hI hX0
set_option maxHeartbeats 200000 in
theorem vt_X6_latest_B10 {x : vv_E} {post : Option Value → vv_H → Prop} {b0 : Bool} {u1 : Int32} {u2 : Int32} {u3 : Int32} {h : vv_H} {s5 : Int32} {s6 : Int32} {s7 : Int32} {o : (Int32 × Int32 × Int32) ⊕ ((Int32))}  (hm : ff_X6_latest_B10  b0 u1 u2 u3 h s5 s6 s7 = some o) (hI : ∀ (z5 : Int32) (z6 : Int32) (z7 : Int32) , o = .inl (z5, z6, z7) → vv_V x vv_TC mm_X6_latest post 10 [some (.ref (vv_ad x (vv_rid b0))), some (.int u1), some (.int u2), some (.int u3), none, some (.int z5), some (.int z6), some (.int z7), none] [] h) (hX0 : ∀ (z5 : Int32), o = .inr z5 → vv_V x vv_TC mm_X6_latest post 100 [none, none, none, none, none, some (.int z5), none, none, none] [] h) : vv_V x vv_TC mm_X6_latest post 10 [some (.ref (vv_ad x (vv_rid b0))), some (.int u1), some (.int u2), some (.int u3), none, some (.int s5), some (.int s6), some (.int s7), none] [] h := by
  unfold ff_X6_latest_B10 at hm
  refine rr_iload (q := 12) dX6_latest_10 rfl rfl ?_
  refine rr_aload_n (q := 13) dX6_latest_12 rfl rfl ?_
  refine gf_X6_38 (q := 16) rfl dX6_latest_13 rfl ?_
  refine rr_icmp_ge (q := 19) (tgt := 100) dX6_latest_16 (by decide) rfl hm (fun hm => ?_) (fun hm => ?_)
  · obtain rfl := Option.some.inj hm
    refine rr_sub [false, false, false, false, false, true, false, false, false] rfl ?_
    exact hX0 s5 rfl
  · refine rr_aload_n (q := 20) dX6_latest_19 rfl rfl ?_
    refine gf_X6_9 (q := 23) rfl dX6_latest_20 rfl ?_
    refine rr_iload (q := 25) dX6_latest_23 rfl rfl ?_
    obtain ⟨c1, hm⟩ := vv_ck_of hm
    refine rr_iald (q := 26) (yr_1 b0).1 (yr_1 b0).2 c1 dX6_latest_25 rfl ?_
    refine rr_iload_n (q := 27) dX6_latest_26 rfl rfl ?_
    refine rr_icmp_ne (q := 30) (tgt := 56) dX6_latest_27 (by decide) rfl hm (fun hm => ?_) (fun hm => ?_)
    · exact vt_X6_latest_J56  hm hI hX0
    · refine rr_aload_n (q := 31) dX6_latest_30 rfl rfl ?_
      refine gf_X6_18 (q := 34) rfl dX6_latest_31 rfl ?_
      refine rr_iload (q := 36) dX6_latest_34 rfl rfl ?_
      obtain ⟨c15, hm⟩ := vv_ck_of hm
      refine rr_iald (q := 37) (yr_3 b0).1 (yr_3 b0).2 c15 dX6_latest_36 rfl ?_
      refine rr_iload_n (q := 38) dX6_latest_37 rfl rfl ?_
      refine rr_icmp_ne (q := 41) (tgt := 56) dX6_latest_38 (by decide) rfl hm (fun hm => ?_) (fun hm => ?_)
      · exact vt_X6_latest_J56  hm hI hX0
      · refine rr_aload_n (q := 42) dX6_latest_41 rfl rfl ?_
        refine gf_X6_15 (q := 45) rfl dX6_latest_42 rfl ?_
        refine rr_iload (q := 47) dX6_latest_45 rfl rfl ?_
        obtain ⟨c16, hm⟩ := vv_ck_of hm
        refine rr_iald (q := 48) (yr_2 b0).1 (yr_2 b0).2 c16 dX6_latest_47 rfl ?_
        refine rr_iload_n (q := 49) dX6_latest_48 rfl rfl ?_
        refine rr_icmp_gt (q := 52) (tgt := 56) dX6_latest_49 (by decide) rfl hm (fun hm => ?_) (fun hm => ?_)
        · exact vt_X6_latest_J56  hm hI hX0
        · refine rr_iconst (q := 53) (v := 1) dX6_latest_52 rfl (by decide) ?_
          refine rr_goto (tgt := 57) dX6_latest_53 (by decide) ?_
          exact vt_X6_latest_J57  hm hI hX0
set_option maxHeartbeats 200000 in
theorem vt_X6_latest {x : vv_E} {post : Option Value → vv_H → Prop} {h : vv_H} {b0 : Bool} {v1 : Int32} {v2 : Int32} {v3 : Int32} {v4 : Int32} {o : Int32}  (hm : ff_X6_latest  h b0 v1 v2 v3 v4 = some o) (hp : post (some (.int o)) h) : vv_V x vv_TC mm_X6_latest post 0 [some (.ref (vv_ad x (vv_rid b0))), some (.int v1), some (.int v2), some (.int v3), some (.int v4), none, none, none, none] [] h := by
  unfold ff_X6_latest at hm
  refine rr_iload (q := 2) dX6_latest_0 rfl rfl ?_
  refine rr_istore (q := 4) [some (.ref (vv_ad x (vv_rid b0))), some (.int v1), some (.int v2), some (.int v3), some (.int v4), some (.int v4), none, none, none] dX6_latest_2 rfl (Nat.le_of_ble_eq_true rfl) rfl rfl ?_
  refine rr_iconst (q := 5) (v := -1) dX6_latest_4 rfl (by decide) ?_
  refine rr_istore (q := 7) [some (.ref (vv_ad x (vv_rid b0))), some (.int v1), some (.int v2), some (.int v3), some (.int v4), some (.int v4), some (.int (-1 : Int32)), none, none] dX6_latest_5 rfl (Nat.le_of_ble_eq_true rfl) rfl rfl ?_
  refine rr_iconst (q := 8) (v := 0) dX6_latest_7 rfl (by decide) ?_
  refine rr_istore (q := 10) [some (.ref (vv_ad x (vv_rid b0))), some (.int v1), some (.int v2), some (.int v3), some (.int v4), some (.int v4), some (.int (-1 : Int32)), some (.int (0 : Int32)), none] dX6_latest_8 rfl (Nat.le_of_ble_eq_true rfl) rfl rfl ?_
  refine rr_sub [true, true, true, true, false, true, true, true, false] rfl ?_
  obtain ⟨r17, k19, hm⟩ := vv_bind hm
  refine vv_lp_link (P := fun (zs : Int32 × Int32 × Int32) => vv_V x vv_TC mm_X6_latest post 10 [some (.ref (vv_ad x (vv_rid b0))), some (.int v1), some (.int v2), some (.int v3), none, some (.int zs.1), some (.int zs.2.1), some (.int zs.2.2), none] [] h) (Q := (fun (e18 : (Int32)) => vv_V x vv_TC mm_X6_latest post 100 [none, none, none, none, none, some (.int e18), none, none, none] [] h)) (fun zs o hm hI hX => ?_) vv_F (v4, (-1 : Int32), (0 : Int32)) r17 k19 ?_
  · exact vt_X6_latest_B10   hm (fun z5 z6 z7 e => hI (z5, z6, z7) e) (fun z5 e => hX z5 e)
  · generalize r17 = e18 at hm ⊢
    try dsimp only [Sum.elim_inl, Sum.elim_inr] at hm
    try dsimp only [Sum.elim_inl, Sum.elim_inr]
    refine rr_iload (q := 102) dX6_latest_100 rfl rfl ?_
    obtain rfl := Option.some.inj hm
    exact rr_iret dX6_latest_102 rfl hp
theorem cc_X6_latest {x : vv_E} {h : vv_H} {b0 : Bool} {v1 : Int32} {v2 : Int32} {v3 : Int32} {v4 : Int32} {o : Int32}  (hm : ff_X6_latest h b0 v1 v2 v3 v4 = some o) : vv_C x vv_TC yX6_latest mm_X6_latest [.ref (vv_ad x (vv_rid b0)), .int v1, .int v2, .int v3, .int v4] h (fun v g => v = some (.int o) ∧ g = h) := vv_entry (by decide +kernel) rfl (Nat.le_of_ble_eq_true rfl) rfl (vt_X6_latest  hm ⟨rfl, rfl⟩)
def ff_X6_holds_B2 (b0 : Bool) (u1 : Int32) (t2 : Nat) (n2 : Nat) (h : vv_H) (s3 : Int32) : Option ((Int32) ⊕ ((Unit) ⊕ (Unit))) := vv_ck u1 12 ((if (h.1 (vv_rid b0 + 5) u1.toNatClampNeg) ≤ s3 then some (.inr (.inl ())) else vv_ck u1 12 (vv_ck s3 3 (vv_ck (h.1 ((vv_rid b0 + 7) + u1.toNatClampNeg) s3.toNatClampNeg) n2 (vv_let (h.1 t2 (h.1 ((vv_rid b0 + 7) + u1.toNatClampNeg) s3.toNatClampNeg).toNatClampNeg) (fun w5 => vv_ck u1 12 (vv_ck s3 3 (vv_let (h.1 ((vv_rid b0 + 33) + u1.toNatClampNeg) s3.toNatClampNeg) (fun w9 => vv_ck u1 12 (vv_ck s3 3 (vv_let (h.1 ((vv_rid b0 + 20) + u1.toNatClampNeg) s3.toNatClampNeg) (fun w13 => (if w13 = (3 : Int32) then (if w9 ≤ w5 then (if (0 : Int32) = 0 then some (.inr (.inr ())) else vv_let (s3 + 1) (fun w23 => some (.inl w23))) else (if (1 : Int32) = 0 then some (.inr (.inr ())) else vv_let (s3 + 1) (fun w25 => some (.inl w25)))) else (if w13 = (5 : Int32) then (if w5 ≤ w9 then (if (0 : Int32) = 0 then some (.inr (.inr ())) else vv_let (s3 + 1) (fun w19 => some (.inl w19))) else (if (1 : Int32) = 0 then some (.inr (.inr ())) else vv_let (s3 + 1) (fun w21 => some (.inl w21)))) else (if w5 = w9 then (if (1 : Int32) = 0 then some (.inr (.inr ())) else vv_let (s3 + 1) (fun w17 => some (.inl w17))) else (if (0 : Int32) = 0 then some (.inr (.inr ())) else vv_let (s3 + 1) (fun w15 => some (.inl w15))))))))))))))))))
def ff_X6_holds (h : vv_H) (b0 : Bool) (v1 : Int32) (t2 : Nat) (n2 : Nat) : Option (Int32) := (vv_lp (fun (zs : Int32) => ff_X6_holds_B2  b0 v1 t2 n2 h zs) vv_F (0 : Int32)).bind (Sum.elim (fun (e28 : (Unit)) => some (1 : Int32)) (fun (e29 : (Unit)) => some (0 : Int32)))
set_option maxHeartbeats 200000 in
theorem vt_X6_holds_B2 {x : vv_E} {post : Option Value → vv_H → Prop} {b0 : Bool} {u1 : Int32} {t2 : Nat} {n2 : Nat} {h : vv_H} {s3 : Int32} {o : (Int32) ⊕ ((Unit) ⊕ (Unit))} (hl2 : vv_TC.1 t2 = (1, n2, [])) (hk2 : t2 < vv_TC.2) (hm : ff_X6_holds_B2  b0 u1 t2 n2 h s3 = some o) (hI : ∀ (z3 : Int32) , o = .inl z3 → vv_V x vv_TC mm_X6_holds post 2 [some (.ref (vv_ad x (vv_rid b0))), some (.int u1), some (.ref (vv_ad x t2)), some (.int z3), none, none, none, none] [] h) (hX0 : o = .inr (.inl ()) → vv_V x vv_TC mm_X6_holds post 113 [none, none, none, none, none, none, none, none] [] h) (hX1 : o = .inr (.inr ()) → vv_V x vv_TC mm_X6_holds post 105 [none, none, none, none, none, none, none, none] [] h) : vv_V x vv_TC mm_X6_holds post 2 [some (.ref (vv_ad x (vv_rid b0))), some (.int u1), some (.ref (vv_ad x t2)), some (.int s3), none, none, none, none] [] h := by
  unfold ff_X6_holds_B2 at hm
  refine rr_iload_n (q := 3) dX6_holds_2 rfl rfl ?_
  refine rr_aload_n (q := 4) dX6_holds_3 rfl rfl ?_
  refine gf_X6_24 (q := 7) rfl dX6_holds_4 rfl ?_
  refine rr_iload_n (q := 8) dX6_holds_7 rfl rfl ?_
  obtain ⟨c1, hm⟩ := vv_ck_of hm
  refine rr_iald (q := 9) (yr_5 b0).1 (yr_5 b0).2 c1 dX6_holds_8 rfl ?_
  refine rr_icmp_ge (q := 12) (tgt := 113) dX6_holds_9 (by decide) rfl hm (fun hm => ?_) (fun hm => ?_)
  · obtain rfl := Option.some.inj hm
    refine rr_sub [false, false, false, false, false, false, false, false] rfl ?_
    exact hX0  rfl
  · refine rr_aload_n (q := 13) dX6_holds_12 rfl rfl ?_
    refine rr_aload_n (q := 14) dX6_holds_13 rfl rfl ?_
    refine gf_X6_29 (q := 17) rfl dX6_holds_14 rfl ?_
    refine rr_iload_n (q := 18) dX6_holds_17 rfl rfl ?_
    obtain ⟨c2, hm⟩ := vv_ck_of hm
    refine rr_aald (q := 19) (yr_6 b0).1 (yr_6 b0).2 c2 dX6_holds_18 rfl ?_
    refine rr_iload_n (q := 20) dX6_holds_19 rfl rfl ?_
    obtain ⟨c3, hm⟩ := vv_ck_of hm
    refine rr_iald (q := 21) (ywr_6 b0 c2).1 (ywr_6 b0 c2).2 c3 dX6_holds_20 rfl ?_
    obtain ⟨c4, hm⟩ := vv_ck_of hm
    refine rr_iald (q := 22) hl2 hk2 c4 dX6_holds_21 rfl ?_
    obtain ⟨w5, c6, hm⟩ := vv_let_of hm
    rw [← c6]
    refine rr_istore (q := 24) [some (.ref (vv_ad x (vv_rid b0))), some (.int u1), some (.ref (vv_ad x t2)), some (.int s3), some (.int w5), none, none, none] dX6_holds_22 rfl (Nat.le_of_ble_eq_true rfl) rfl rfl ?_
    refine rr_aload_n (q := 25) dX6_holds_24 rfl rfl ?_
    refine gf_X6_35 (q := 28) rfl dX6_holds_25 rfl ?_
    refine rr_iload_n (q := 29) dX6_holds_28 rfl rfl ?_
    obtain ⟨c7, hm⟩ := vv_ck_of hm
    refine rr_aald (q := 30) (yr_32 b0).1 (yr_32 b0).2 c7 dX6_holds_29 rfl ?_
    refine rr_iload_n (q := 31) dX6_holds_30 rfl rfl ?_
    obtain ⟨c8, hm⟩ := vv_ck_of hm
    refine rr_iald (q := 32) (ywr_32 b0 c7).1 (ywr_32 b0 c7).2 c8 dX6_holds_31 rfl ?_
    obtain ⟨w9, c10, hm⟩ := vv_let_of hm
    rw [← c10]
    refine rr_istore (q := 34) [some (.ref (vv_ad x (vv_rid b0))), some (.int u1), some (.ref (vv_ad x t2)), some (.int s3), some (.int w5), some (.int w9), none, none] dX6_holds_32 rfl (Nat.le_of_ble_eq_true rfl) rfl rfl ?_
    refine rr_aload_n (q := 35) dX6_holds_34 rfl rfl ?_
    refine gf_X6_32 (q := 38) rfl dX6_holds_35 rfl ?_
    refine rr_iload_n (q := 39) dX6_holds_38 rfl rfl ?_
    obtain ⟨c11, hm⟩ := vv_ck_of hm
    refine rr_aald (q := 40) (yr_19 b0).1 (yr_19 b0).2 c11 dX6_holds_39 rfl ?_
    refine rr_iload_n (q := 41) dX6_holds_40 rfl rfl ?_
    obtain ⟨c12, hm⟩ := vv_ck_of hm
    refine rr_iald (q := 42) (ywr_19 b0 c11).1 (ywr_19 b0 c11).2 c12 dX6_holds_41 rfl ?_
    obtain ⟨w13, c14, hm⟩ := vv_let_of hm
    rw [← c14]
    refine rr_istore (q := 44) [some (.ref (vv_ad x (vv_rid b0))), some (.int u1), some (.ref (vv_ad x t2)), some (.int s3), some (.int w5), some (.int w9), some (.int w13), none] dX6_holds_42 rfl (Nat.le_of_ble_eq_true rfl) rfl rfl ?_
    refine rr_iload (q := 46) dX6_holds_44 rfl rfl ?_
    refine rr_iconst (q := 47) (v := 3) dX6_holds_46 rfl (by decide) ?_
    refine rr_icmp_ne (q := 50) (tgt := 65) dX6_holds_47 (by decide) rfl hm (fun hm => ?_) (fun hm => ?_)
    · refine rr_iload (q := 67) dX6_holds_65 rfl rfl ?_
      refine rr_iconst (q := 68) (v := 5) dX6_holds_67 rfl (by decide) ?_
      refine rr_icmp_ne (q := 71) (tgt := 86) dX6_holds_68 (by decide) rfl hm (fun hm => ?_) (fun hm => ?_)
      · refine rr_iload (q := 88) dX6_holds_86 rfl rfl ?_
        refine rr_iload (q := 90) dX6_holds_88 rfl rfl ?_
        refine rr_icmp_ne (q := 93) (tgt := 97) dX6_holds_90 (by decide) rfl hm (fun hm => ?_) (fun hm => ?_)
        · refine rr_iconst (q := 98) (v := 0) dX6_holds_97 rfl (by decide) ?_
          refine rr_istore (q := 100) [some (.ref (vv_ad x (vv_rid b0))), some (.int u1), some (.ref (vv_ad x t2)), some (.int s3), some (.int w5), some (.int w9), some (.int w13), some (.int (0 : Int32))] dX6_holds_98 rfl (Nat.le_of_ble_eq_true rfl) rfl rfl ?_
          refine rr_iload (q := 102) dX6_holds_100 rfl rfl ?_
          refine rr_if_ne (q := 105) (tgt := 107) dX6_holds_102 (by decide) rfl hm (fun hm => ?_) (fun hm => ?_)
          · obtain ⟨w15, c16, hm⟩ := vv_let_of hm
            refine rr_iinc (q := 110) [some (.ref (vv_ad x (vv_rid b0))), some (.int u1), some (.ref (vv_ad x t2)), some (.int w15), some (.int w5), some (.int w9), some (.int w13), some (.int (0 : Int32))] dX6_holds_107 rfl rfl c16.symm (Nat.le_of_ble_eq_true rfl) rfl rfl ?_
            refine rr_goto (tgt := 2) dX6_holds_110 (by decide) ?_
            obtain rfl := Option.some.inj hm
            refine rr_sub [true, true, true, true, false, false, false, false] rfl ?_
            exact hI w15 rfl
          · obtain rfl := Option.some.inj hm
            refine rr_sub [false, false, false, false, false, false, false, false] rfl ?_
            exact hX1  rfl
        · refine rr_iconst (q := 94) (v := 1) dX6_holds_93 rfl (by decide) ?_
          refine rr_goto (tgt := 98) dX6_holds_94 (by decide) ?_
          refine rr_istore (q := 100) [some (.ref (vv_ad x (vv_rid b0))), some (.int u1), some (.ref (vv_ad x t2)), some (.int s3), some (.int w5), some (.int w9), some (.int w13), some (.int (1 : Int32))] dX6_holds_98 rfl (Nat.le_of_ble_eq_true rfl) rfl rfl ?_
          refine rr_iload (q := 102) dX6_holds_100 rfl rfl ?_
          refine rr_if_ne (q := 105) (tgt := 107) dX6_holds_102 (by decide) rfl hm (fun hm => ?_) (fun hm => ?_)
          · obtain ⟨w17, c18, hm⟩ := vv_let_of hm
            refine rr_iinc (q := 110) [some (.ref (vv_ad x (vv_rid b0))), some (.int u1), some (.ref (vv_ad x t2)), some (.int w17), some (.int w5), some (.int w9), some (.int w13), some (.int (1 : Int32))] dX6_holds_107 rfl rfl c18.symm (Nat.le_of_ble_eq_true rfl) rfl rfl ?_
            refine rr_goto (tgt := 2) dX6_holds_110 (by decide) ?_
            obtain rfl := Option.some.inj hm
            refine rr_sub [true, true, true, true, false, false, false, false] rfl ?_
            exact hI w17 rfl
          · obtain rfl := Option.some.inj hm
            refine rr_sub [false, false, false, false, false, false, false, false] rfl ?_
            exact hX1  rfl
      · refine rr_iload (q := 73) dX6_holds_71 rfl rfl ?_
        refine rr_iload (q := 75) dX6_holds_73 rfl rfl ?_
        refine rr_icmp_le (q := 78) (tgt := 82) dX6_holds_75 (by decide) rfl hm (fun hm => ?_) (fun hm => ?_)
        · refine rr_iconst (q := 83) (v := 0) dX6_holds_82 rfl (by decide) ?_
          refine rr_goto (tgt := 98) dX6_holds_83 (by decide) ?_
          refine rr_istore (q := 100) [some (.ref (vv_ad x (vv_rid b0))), some (.int u1), some (.ref (vv_ad x t2)), some (.int s3), some (.int w5), some (.int w9), some (.int w13), some (.int (0 : Int32))] dX6_holds_98 rfl (Nat.le_of_ble_eq_true rfl) rfl rfl ?_
          refine rr_iload (q := 102) dX6_holds_100 rfl rfl ?_
          refine rr_if_ne (q := 105) (tgt := 107) dX6_holds_102 (by decide) rfl hm (fun hm => ?_) (fun hm => ?_)
          · obtain ⟨w19, c20, hm⟩ := vv_let_of hm
            refine rr_iinc (q := 110) [some (.ref (vv_ad x (vv_rid b0))), some (.int u1), some (.ref (vv_ad x t2)), some (.int w19), some (.int w5), some (.int w9), some (.int w13), some (.int (0 : Int32))] dX6_holds_107 rfl rfl c20.symm (Nat.le_of_ble_eq_true rfl) rfl rfl ?_
            refine rr_goto (tgt := 2) dX6_holds_110 (by decide) ?_
            obtain rfl := Option.some.inj hm
            refine rr_sub [true, true, true, true, false, false, false, false] rfl ?_
            exact hI w19 rfl
          · obtain rfl := Option.some.inj hm
            refine rr_sub [false, false, false, false, false, false, false, false] rfl ?_
            exact hX1  rfl
        · refine rr_iconst (q := 79) (v := 1) dX6_holds_78 rfl (by decide) ?_
          refine rr_goto (tgt := 98) dX6_holds_79 (by decide) ?_
          refine rr_istore (q := 100) [some (.ref (vv_ad x (vv_rid b0))), some (.int u1), some (.ref (vv_ad x t2)), some (.int s3), some (.int w5), some (.int w9), some (.int w13), some (.int (1 : Int32))] dX6_holds_98 rfl (Nat.le_of_ble_eq_true rfl) rfl rfl ?_
          refine rr_iload (q := 102) dX6_holds_100 rfl rfl ?_
          refine rr_if_ne (q := 105) (tgt := 107) dX6_holds_102 (by decide) rfl hm (fun hm => ?_) (fun hm => ?_)
          · obtain ⟨w21, c22, hm⟩ := vv_let_of hm
            refine rr_iinc (q := 110) [some (.ref (vv_ad x (vv_rid b0))), some (.int u1), some (.ref (vv_ad x t2)), some (.int w21), some (.int w5), some (.int w9), some (.int w13), some (.int (1 : Int32))] dX6_holds_107 rfl rfl c22.symm (Nat.le_of_ble_eq_true rfl) rfl rfl ?_
            refine rr_goto (tgt := 2) dX6_holds_110 (by decide) ?_
            obtain rfl := Option.some.inj hm
            refine rr_sub [true, true, true, true, false, false, false, false] rfl ?_
            exact hI w21 rfl
          · obtain rfl := Option.some.inj hm
            refine rr_sub [false, false, false, false, false, false, false, false] rfl ?_
            exact hX1  rfl
    · refine rr_iload (q := 52) dX6_holds_50 rfl rfl ?_
      refine rr_iload (q := 54) dX6_holds_52 rfl rfl ?_
      refine rr_icmp_ge (q := 57) (tgt := 61) dX6_holds_54 (by decide) rfl hm (fun hm => ?_) (fun hm => ?_)
      · refine rr_iconst (q := 62) (v := 0) dX6_holds_61 rfl (by decide) ?_
        refine rr_goto (tgt := 98) dX6_holds_62 (by decide) ?_
        refine rr_istore (q := 100) [some (.ref (vv_ad x (vv_rid b0))), some (.int u1), some (.ref (vv_ad x t2)), some (.int s3), some (.int w5), some (.int w9), some (.int w13), some (.int (0 : Int32))] dX6_holds_98 rfl (Nat.le_of_ble_eq_true rfl) rfl rfl ?_
        refine rr_iload (q := 102) dX6_holds_100 rfl rfl ?_
        refine rr_if_ne (q := 105) (tgt := 107) dX6_holds_102 (by decide) rfl hm (fun hm => ?_) (fun hm => ?_)
        · obtain ⟨w23, c24, hm⟩ := vv_let_of hm
          refine rr_iinc (q := 110) [some (.ref (vv_ad x (vv_rid b0))), some (.int u1), some (.ref (vv_ad x t2)), some (.int w23), some (.int w5), some (.int w9), some (.int w13), some (.int (0 : Int32))] dX6_holds_107 rfl rfl c24.symm (Nat.le_of_ble_eq_true rfl) rfl rfl ?_
          refine rr_goto (tgt := 2) dX6_holds_110 (by decide) ?_
          obtain rfl := Option.some.inj hm
          refine rr_sub [true, true, true, true, false, false, false, false] rfl ?_
          exact hI w23 rfl
        · obtain rfl := Option.some.inj hm
          refine rr_sub [false, false, false, false, false, false, false, false] rfl ?_
          exact hX1  rfl
      · refine rr_iconst (q := 58) (v := 1) dX6_holds_57 rfl (by decide) ?_
        refine rr_goto (tgt := 98) dX6_holds_58 (by decide) ?_
        refine rr_istore (q := 100) [some (.ref (vv_ad x (vv_rid b0))), some (.int u1), some (.ref (vv_ad x t2)), some (.int s3), some (.int w5), some (.int w9), some (.int w13), some (.int (1 : Int32))] dX6_holds_98 rfl (Nat.le_of_ble_eq_true rfl) rfl rfl ?_
        refine rr_iload (q := 102) dX6_holds_100 rfl rfl ?_
        refine rr_if_ne (q := 105) (tgt := 107) dX6_holds_102 (by decide) rfl hm (fun hm => ?_) (fun hm => ?_)
        · obtain ⟨w25, c26, hm⟩ := vv_let_of hm
          refine rr_iinc (q := 110) [some (.ref (vv_ad x (vv_rid b0))), some (.int u1), some (.ref (vv_ad x t2)), some (.int w25), some (.int w5), some (.int w9), some (.int w13), some (.int (1 : Int32))] dX6_holds_107 rfl rfl c26.symm (Nat.le_of_ble_eq_true rfl) rfl rfl ?_
          refine rr_goto (tgt := 2) dX6_holds_110 (by decide) ?_
          obtain rfl := Option.some.inj hm
          refine rr_sub [true, true, true, true, false, false, false, false] rfl ?_
          exact hI w25 rfl
        · obtain rfl := Option.some.inj hm
          refine rr_sub [false, false, false, false, false, false, false, false] rfl ?_
          exact hX1  rfl
set_option maxHeartbeats 200000 in
theorem vt_X6_holds {x : vv_E} {post : Option Value → vv_H → Prop} {h : vv_H} {b0 : Bool} {v1 : Int32} {t2 : Nat} {n2 : Nat} {o : Int32} (hl2 : vv_TC.1 t2 = (1, n2, [])) (hk2 : t2 < vv_TC.2) (hm : ff_X6_holds  h b0 v1 t2 n2 = some o) (hp : post (some (.int o)) h) : vv_V x vv_TC mm_X6_holds post 0 [some (.ref (vv_ad x (vv_rid b0))), some (.int v1), some (.ref (vv_ad x t2)), none, none, none, none, none] [] h := by
  unfold ff_X6_holds at hm
  refine rr_iconst (q := 1) (v := 0) dX6_holds_0 rfl (by decide) ?_
  refine rr_istore_n (q := 2) [some (.ref (vv_ad x (vv_rid b0))), some (.int v1), some (.ref (vv_ad x t2)), some (.int (0 : Int32)), none, none, none, none] dX6_holds_1 rfl rfl (Nat.le_of_ble_eq_true rfl) rfl rfl ?_
  obtain ⟨r27, k30, hm⟩ := vv_bind hm
  refine vv_lp_link (P := fun (zs : Int32) => vv_V x vv_TC mm_X6_holds post 2 [some (.ref (vv_ad x (vv_rid b0))), some (.int v1), some (.ref (vv_ad x t2)), some (.int zs), none, none, none, none] [] h) (Q := (Sum.elim (fun (e28 : (Unit)) => vv_V x vv_TC mm_X6_holds post 113 [none, none, none, none, none, none, none, none] [] h) (fun (e29 : (Unit)) => vv_V x vv_TC mm_X6_holds post 105 [none, none, none, none, none, none, none, none] [] h))) (fun zs o hm hI hX => ?_) vv_F (0 : Int32) r27 k30 ?_
  · exact vt_X6_holds_B2 hl2 hk2  hm (fun z3 e => hI z3 e) (hX (.inl ())) (hX (.inr ()))
  · rcases r27 with e28 | qe28
    · try dsimp only [Sum.elim_inl, Sum.elim_inr] at hm
      try dsimp only [Sum.elim_inl, Sum.elim_inr]
      refine rr_iconst (q := 114) (v := 1) dX6_holds_113 rfl (by decide) ?_
      obtain rfl := Option.some.inj hm
      exact rr_zret dX6_holds_114 rfl rfl hp
    · generalize qe28 = e29 at hm ⊢
      try dsimp only [Sum.elim_inl, Sum.elim_inr] at hm
      try dsimp only [Sum.elim_inl, Sum.elim_inr]
      refine rr_iconst (q := 106) (v := 0) dX6_holds_105 rfl (by decide) ?_
      obtain rfl := Option.some.inj hm
      exact rr_zret dX6_holds_106 rfl rfl hp
theorem cc_X6_holds {x : vv_E} {h : vv_H} {b0 : Bool} {v1 : Int32} {t2 : Nat} {n2 : Nat} {o : Int32} (hl2 : vv_TC.1 t2 = (1, n2, [])) (hk2 : t2 < vv_TC.2) (hm : ff_X6_holds h b0 v1 t2 n2 = some o) : vv_C x vv_TC yX6_holds mm_X6_holds [.ref (vv_ad x (vv_rid b0)), .int v1, .ref (vv_ad x t2)] h (fun v g => v = some (.int o) ∧ g = h) := vv_entry (by decide +kernel) rfl (Nat.le_of_ble_eq_true rfl) rfl (vt_X6_holds hl2 hk2 hm ⟨rfl, rfl⟩)
def ff_J6_bitCount_0f7a4 (v0 : Int32) : Option (Int32) := vv_let (v0 - (((v0.toUInt32 >>> ((1 : Int32).toUInt32 &&& Int32.toUInt32 31)).toInt32) &&& (1431655765 : Int32))) (fun w1 => vv_let ((w1 &&& (858993459 : Int32)) + (((w1.toUInt32 >>> ((2 : Int32).toUInt32 &&& Int32.toUInt32 31)).toInt32) &&& (858993459 : Int32))) (fun w3 => vv_let ((w3 + ((w3.toUInt32 >>> ((4 : Int32).toUInt32 &&& Int32.toUInt32 31)).toInt32)) &&& (252645135 : Int32)) (fun w5 => vv_let (w5 + ((w5.toUInt32 >>> ((8 : Int32).toUInt32 &&& Int32.toUInt32 31)).toInt32)) (fun w7 => vv_let (w7 + ((w7.toUInt32 >>> ((16 : Int32).toUInt32 &&& Int32.toUInt32 31)).toInt32)) (fun w9 => some (w9 &&& (63 : Int32)))))))
set_option maxHeartbeats 200000 in
theorem vt_J6_bitCount_0f7a4 {x : vv_E} {post : Option Value → vv_H → Prop} {v0 : Int32} {h : vv_H} {o : Int32}  (hm : ff_J6_bitCount_0f7a4  v0 = some o) (hp : post (some (.int o)) h) : vv_V x vv_TC mm_J6_bitCount_0f7a4 post 0 [some (.int v0)] [] h := by
  unfold ff_J6_bitCount_0f7a4 at hm
  refine rr_iload_n (q := 1) dJ6_bitCount_0f7a4_0 rfl rfl ?_
  refine rr_iload_n (q := 2) dJ6_bitCount_0f7a4_1 rfl rfl ?_
  refine rr_iconst (q := 3) (v := 1) dJ6_bitCount_0f7a4_2 rfl (by decide) ?_
  refine rr_iushr (q := 4) dJ6_bitCount_0f7a4_3 rfl ?_
  refine rr_ldcw (q := 7) dJ6_bitCount_0f7a4_4 rfl zw_40 ?_
  refine rr_iand (q := 8) dJ6_bitCount_0f7a4_7 rfl ?_
  refine rr_isub (q := 9) dJ6_bitCount_0f7a4_8 rfl ?_
  obtain ⟨w1, c2, hm⟩ := vv_let_of hm
  rw [← c2]
  refine rr_istore_n (q := 10) [some (.int w1)] dJ6_bitCount_0f7a4_9 rfl rfl (Nat.le_of_ble_eq_true rfl) rfl rfl ?_
  refine rr_iload_n (q := 11) dJ6_bitCount_0f7a4_10 rfl rfl ?_
  refine rr_ldcw (q := 14) dJ6_bitCount_0f7a4_11 rfl zw_41 ?_
  refine rr_iand (q := 15) dJ6_bitCount_0f7a4_14 rfl ?_
  refine rr_iload_n (q := 16) dJ6_bitCount_0f7a4_15 rfl rfl ?_
  refine rr_iconst (q := 17) (v := 2) dJ6_bitCount_0f7a4_16 rfl (by decide) ?_
  refine rr_iushr (q := 18) dJ6_bitCount_0f7a4_17 rfl ?_
  refine rr_ldcw (q := 21) dJ6_bitCount_0f7a4_18 rfl zw_41 ?_
  refine rr_iand (q := 22) dJ6_bitCount_0f7a4_21 rfl ?_
  refine rr_iadd (q := 23) dJ6_bitCount_0f7a4_22 rfl ?_
  obtain ⟨w3, c4, hm⟩ := vv_let_of hm
  rw [← c4]
  refine rr_istore_n (q := 24) [some (.int w3)] dJ6_bitCount_0f7a4_23 rfl rfl (Nat.le_of_ble_eq_true rfl) rfl rfl ?_
  refine rr_iload_n (q := 25) dJ6_bitCount_0f7a4_24 rfl rfl ?_
  refine rr_iload_n (q := 26) dJ6_bitCount_0f7a4_25 rfl rfl ?_
  refine rr_iconst (q := 27) (v := 4) dJ6_bitCount_0f7a4_26 rfl (by decide) ?_
  refine rr_iushr (q := 28) dJ6_bitCount_0f7a4_27 rfl ?_
  refine rr_iadd (q := 29) dJ6_bitCount_0f7a4_28 rfl ?_
  refine rr_ldcw (q := 32) dJ6_bitCount_0f7a4_29 rfl zw_42 ?_
  refine rr_iand (q := 33) dJ6_bitCount_0f7a4_32 rfl ?_
  obtain ⟨w5, c6, hm⟩ := vv_let_of hm
  rw [← c6]
  refine rr_istore_n (q := 34) [some (.int w5)] dJ6_bitCount_0f7a4_33 rfl rfl (Nat.le_of_ble_eq_true rfl) rfl rfl ?_
  refine rr_iload_n (q := 35) dJ6_bitCount_0f7a4_34 rfl rfl ?_
  refine rr_iload_n (q := 36) dJ6_bitCount_0f7a4_35 rfl rfl ?_
  refine rr_bipush (q := 38) (v := 8) dJ6_bitCount_0f7a4_36 rfl (by decide) ?_
  refine rr_iushr (q := 39) dJ6_bitCount_0f7a4_38 rfl ?_
  refine rr_iadd (q := 40) dJ6_bitCount_0f7a4_39 rfl ?_
  obtain ⟨w7, c8, hm⟩ := vv_let_of hm
  rw [← c8]
  refine rr_istore_n (q := 41) [some (.int w7)] dJ6_bitCount_0f7a4_40 rfl rfl (Nat.le_of_ble_eq_true rfl) rfl rfl ?_
  refine rr_iload_n (q := 42) dJ6_bitCount_0f7a4_41 rfl rfl ?_
  refine rr_iload_n (q := 43) dJ6_bitCount_0f7a4_42 rfl rfl ?_
  refine rr_bipush (q := 45) (v := 16) dJ6_bitCount_0f7a4_43 rfl (by decide) ?_
  refine rr_iushr (q := 46) dJ6_bitCount_0f7a4_45 rfl ?_
  refine rr_iadd (q := 47) dJ6_bitCount_0f7a4_46 rfl ?_
  obtain ⟨w9, c10, hm⟩ := vv_let_of hm
  rw [← c10]
  refine rr_istore_n (q := 48) [some (.int w9)] dJ6_bitCount_0f7a4_47 rfl rfl (Nat.le_of_ble_eq_true rfl) rfl rfl ?_
  refine rr_iload_n (q := 49) dJ6_bitCount_0f7a4_48 rfl rfl ?_
  refine rr_bipush (q := 51) (v := 63) dJ6_bitCount_0f7a4_49 rfl (by decide) ?_
  refine rr_iand (q := 52) dJ6_bitCount_0f7a4_51 rfl ?_
  obtain rfl := Option.some.inj hm
  exact rr_iret dJ6_bitCount_0f7a4_52 rfl hp
theorem cc_J6_bitCount_0f7a4 {x : vv_E} {v0 : Int32} {h : vv_H} {o : Int32}  (hm : ff_J6_bitCount_0f7a4 v0 = some o) : vv_C x vv_TC yJ6_bitCount_0f7a4 mm_J6_bitCount_0f7a4 [.int v0] h (fun v g => v = some (.int o) ∧ g = h) := vv_entry (by decide +kernel) rfl (Nat.le_of_ble_eq_true rfl) rfl (vt_J6_bitCount_0f7a4  hm ⟨rfl, rfl⟩)
def ff_X7_isNothing (h : vv_H) (v1 : Int32) : Option (Int32) := vv_ck v1 4 ((if 0 ≤ (h.1 178 v1.toNatClampNeg) then some (0 : Int32) else some (1 : Int32)))
set_option maxHeartbeats 200000 in
theorem vt_X7_isNothing {x : vv_E} {post : Option Value → vv_H → Prop} {h : vv_H} {v1 : Int32} {o : Int32}  (hm : ff_X7_isNothing  h v1 = some o) (hp : post (some (.int o)) h) : vv_V x vv_TC mm_X7_isNothing post 0 [some (.ref (vv_ad x 176)), some (.int v1)] [] h := by
  unfold ff_X7_isNothing at hm
  refine rr_aload_n (q := 1) dX7_isNothing_0 rfl rfl ?_
  refine gf_X7_15 (q := 4) rfl dX7_isNothing_1 rfl ?_
  refine rr_iload_n (q := 5) dX7_isNothing_4 rfl rfl ?_
  obtain ⟨c1, hm⟩ := vv_ck_of hm
  refine rr_iald (q := 6) ylC_178 ynC_178 c1 dX7_isNothing_5 rfl ?_
  refine rr_if_ge (q := 9) (tgt := 13) dX7_isNothing_6 (by decide) rfl hm (fun hm => ?_) (fun hm => ?_)
  · refine rr_iconst (q := 14) (v := 0) dX7_isNothing_13 rfl (by decide) ?_
    obtain rfl := Option.some.inj hm
    exact rr_zret dX7_isNothing_14 rfl rfl hp
  · refine rr_iconst (q := 10) (v := 1) dX7_isNothing_9 rfl (by decide) ?_
    refine rr_goto (tgt := 14) dX7_isNothing_10 (by decide) ?_
    obtain rfl := Option.some.inj hm
    exact rr_zret dX7_isNothing_14 rfl rfl hp
theorem cc_X7_isNothing {x : vv_E} {h : vv_H} {v1 : Int32} {o : Int32}  (hm : ff_X7_isNothing h v1 = some o) : vv_C x vv_TC yX7_isNothing mm_X7_isNothing [.ref (vv_ad x 176), .int v1] h (fun v g => v = some (.int o) ∧ g = h) := vv_entry (by decide +kernel) rfl (Nat.le_of_ble_eq_true rfl) rfl (vt_X7_isNothing  hm ⟨rfl, rfl⟩)
def ff_X7_hasCell (h : vv_H) (v1 : Int32) (v2 : Int32) : Option (Int32) := (if v2 < 0 then some (0 : Int32) else vv_ck v1 4 ((if (h.1 178 v1.toNatClampNeg) ≤ v2 then some (0 : Int32) else some (1 : Int32))))
set_option maxHeartbeats 200000 in
theorem vt_X7_hasCell {x : vv_E} {post : Option Value → vv_H → Prop} {h : vv_H} {v1 : Int32} {v2 : Int32} {o : Int32}  (hm : ff_X7_hasCell  h v1 v2 = some o) (hp : post (some (.int o)) h) : vv_V x vv_TC mm_X7_hasCell post 0 [some (.ref (vv_ad x 176)), some (.int v1), some (.int v2)] [] h := by
  unfold ff_X7_hasCell at hm
  refine rr_iload_n (q := 1) dX7_hasCell_0 rfl rfl ?_
  refine rr_if_lt (q := 4) (tgt := 18) dX7_hasCell_1 (by decide) rfl hm (fun hm => ?_) (fun hm => ?_)
  · refine rr_iconst (q := 19) (v := 0) dX7_hasCell_18 rfl (by decide) ?_
    obtain rfl := Option.some.inj hm
    exact rr_zret dX7_hasCell_19 rfl rfl hp
  · refine rr_iload_n (q := 5) dX7_hasCell_4 rfl rfl ?_
    refine rr_aload_n (q := 6) dX7_hasCell_5 rfl rfl ?_
    refine gf_X7_15 (q := 9) rfl dX7_hasCell_6 rfl ?_
    refine rr_iload_n (q := 10) dX7_hasCell_9 rfl rfl ?_
    obtain ⟨c1, hm⟩ := vv_ck_of hm
    refine rr_iald (q := 11) ylC_178 ynC_178 c1 dX7_hasCell_10 rfl ?_
    refine rr_icmp_ge (q := 14) (tgt := 18) dX7_hasCell_11 (by decide) rfl hm (fun hm => ?_) (fun hm => ?_)
    · refine rr_iconst (q := 19) (v := 0) dX7_hasCell_18 rfl (by decide) ?_
      obtain rfl := Option.some.inj hm
      exact rr_zret dX7_hasCell_19 rfl rfl hp
    · refine rr_iconst (q := 15) (v := 1) dX7_hasCell_14 rfl (by decide) ?_
      refine rr_goto (tgt := 19) dX7_hasCell_15 (by decide) ?_
      obtain rfl := Option.some.inj hm
      exact rr_zret dX7_hasCell_19 rfl rfl hp
theorem cc_X7_hasCell {x : vv_E} {h : vv_H} {v1 : Int32} {v2 : Int32} {o : Int32}  (hm : ff_X7_hasCell h v1 v2 = some o) : vv_C x vv_TC yX7_hasCell mm_X7_hasCell [.ref (vv_ad x 176), .int v1, .int v2] h (fun v g => v = some (.int o) ∧ g = h) := vv_entry (by decide +kernel) rfl (Nat.le_of_ble_eq_true rfl) rfl (vt_X7_hasCell  hm ⟨rfl, rfl⟩)
def ff_X7_put (h : vv_H) (v1 : Int32) (v2 : Int32) (v3 : Int32) : Option (vv_H) := vv_ck v1 4 ((if (h.1 177 v1.toNatClampNeg) = 0 then vv_ck v1 4 (vv_ck v2 60 (vv_let (vv_iu h (180 + v1.toNatClampNeg) v2.toNatClampNeg v3.toInt8.toInt32) (fun g13 => some g13))) else vv_ck v1 4 ((if (h.1 177 v1.toNatClampNeg) = (1 : Int32) then vv_ck v1 4 (vv_ck v2 60 (vv_let (vv_iu h (180 + v1.toNatClampNeg) v2.toNatClampNeg v3.toInt16.toInt32) (fun g9 => some g9))) else vv_ck v1 4 (vv_ck v2 60 (vv_let (vv_iu h (180 + v1.toNatClampNeg) v2.toNatClampNeg v3) (fun g5 => some g5)))))))
set_option maxHeartbeats 200000 in
theorem vt_X7_put {x : vv_E} {post : Option Value → vv_H → Prop} {h : vv_H} {v1 : Int32} {v2 : Int32} {v3 : Int32} {o : vv_H}  (hm : ff_X7_put  h v1 v2 v3 = some o) (hp : post none o) : vv_V x vv_TC mm_X7_put post 0 [some (.ref (vv_ad x 176)), some (.int v1), some (.int v2), some (.int v3)] [] h := by
  unfold ff_X7_put at hm
  refine rr_aload_n (q := 1) dX7_put_0 rfl rfl ?_
  refine gf_X7_9 (q := 4) rfl dX7_put_1 rfl ?_
  refine rr_iload_n (q := 5) dX7_put_4 rfl rfl ?_
  obtain ⟨c1, hm⟩ := vv_ck_of hm
  refine rr_iald (q := 6) ylC_177 ynC_177 c1 dX7_put_5 rfl ?_
  refine rr_if_ne (q := 9) (tgt := 22) dX7_put_6 (by decide) rfl hm (fun hm => ?_) (fun hm => ?_)
  · refine rr_aload_n (q := 23) dX7_put_22 rfl rfl ?_
    refine gf_X7_9 (q := 26) rfl dX7_put_23 rfl ?_
    refine rr_iload_n (q := 27) dX7_put_26 rfl rfl ?_
    obtain ⟨c2, hm⟩ := vv_ck_of hm
    refine rr_iald (q := 28) ylC_177 ynC_177 c2 dX7_put_27 rfl ?_
    refine rr_iconst (q := 29) (v := 1) dX7_put_28 rfl (by decide) ?_
    refine rr_icmp_ne (q := 32) (tgt := 45) dX7_put_29 (by decide) rfl hm (fun hm => ?_) (fun hm => ?_)
    · refine rr_aload_n (q := 46) dX7_put_45 rfl rfl ?_
      refine gf_X7_20 (q := 49) rfl dX7_put_46 rfl ?_
      refine rr_iload_n (q := 50) dX7_put_49 rfl rfl ?_
      obtain ⟨c3, hm⟩ := vv_ck_of hm
      refine rr_aald (q := 51) ylC_179 ynC_179 c3 dX7_put_50 rfl ?_
      refine rr_iload_n (q := 52) dX7_put_51 rfl rfl ?_
      refine rr_iload_n (q := 53) dX7_put_52 rfl rfl ?_
      obtain ⟨c4, hm⟩ := vv_ck_of hm
      obtain ⟨g5, c6, hm⟩ := vv_let_of hm
      refine rr_iast (q := 54) (ywC_179 c3).1 (ywC_179 c3).2 c4 dX7_put_53 rfl ?_
      rw [← c6]
      obtain rfl := Option.some.inj hm
      exact rr_vret dX7_put_54 rfl hp
    · refine rr_aload_n (q := 33) dX7_put_32 rfl rfl ?_
      refine gf_X7_20 (q := 36) rfl dX7_put_33 rfl ?_
      refine rr_iload_n (q := 37) dX7_put_36 rfl rfl ?_
      obtain ⟨c7, hm⟩ := vv_ck_of hm
      refine rr_aald (q := 38) ylC_179 ynC_179 c7 dX7_put_37 rfl ?_
      refine rr_iload_n (q := 39) dX7_put_38 rfl rfl ?_
      refine rr_iload_n (q := 40) dX7_put_39 rfl rfl ?_
      refine rr_i2s (q := 41) dX7_put_40 rfl ?_
      obtain ⟨c8, hm⟩ := vv_ck_of hm
      obtain ⟨g9, c10, hm⟩ := vv_let_of hm
      refine rr_iast (q := 42) (ywC_179 c7).1 (ywC_179 c7).2 c8 dX7_put_41 rfl ?_
      rw [← c10]
      refine rr_goto (tgt := 54) dX7_put_42 (by decide) ?_
      obtain rfl := Option.some.inj hm
      exact rr_vret dX7_put_54 rfl hp
  · refine rr_aload_n (q := 10) dX7_put_9 rfl rfl ?_
    refine gf_X7_20 (q := 13) rfl dX7_put_10 rfl ?_
    refine rr_iload_n (q := 14) dX7_put_13 rfl rfl ?_
    obtain ⟨c11, hm⟩ := vv_ck_of hm
    refine rr_aald (q := 15) ylC_179 ynC_179 c11 dX7_put_14 rfl ?_
    refine rr_iload_n (q := 16) dX7_put_15 rfl rfl ?_
    refine rr_iload_n (q := 17) dX7_put_16 rfl rfl ?_
    refine rr_i2b (q := 18) dX7_put_17 rfl ?_
    obtain ⟨c12, hm⟩ := vv_ck_of hm
    obtain ⟨g13, c14, hm⟩ := vv_let_of hm
    refine rr_iast (q := 19) (ywC_179 c11).1 (ywC_179 c11).2 c12 dX7_put_18 rfl ?_
    rw [← c14]
    refine rr_goto (tgt := 54) dX7_put_19 (by decide) ?_
    obtain rfl := Option.some.inj hm
    exact rr_vret dX7_put_54 rfl hp
theorem cc_X7_put {x : vv_E} {h : vv_H} {v1 : Int32} {v2 : Int32} {v3 : Int32} {o : vv_H}  (hm : ff_X7_put h v1 v2 v3 = some o) : vv_C x vv_TC yX7_put mm_X7_put [.ref (vv_ad x 176), .int v1, .int v2, .int v3] h (fun v g => v = none ∧ g = o) := vv_entry (by decide +kernel) rfl (Nat.le_of_ble_eq_true rfl) rfl (vt_X7_put  hm ⟨rfl, rfl⟩)
def ff_J7_fill_d0a16_B6 (t0 : Nat) (n0 : Nat) (u1 : Int64) (u4 : Int32) (s3 : Int32) (h : vv_H) : Option ((Int32 × vv_H) ⊕ ((vv_H))) := (if u4 ≤ s3 then some (.inr h) else vv_ck s3 n0 (vv_let (vv_lu h t0 s3.toNatClampNeg u1) (fun g4 => vv_let (s3 + 1) (fun w6 => some (.inl (w6, g4))))))
def ff_J7_fill_d0a16 (h : vv_H) (t0 : Nat) (n0 : Nat) (v1 : Int64) : Option (vv_H) := vv_let (Int32.ofNat n0) (fun w1 => (vv_lp (fun (zs : Int32 × vv_H) => ff_J7_fill_d0a16_B6  t0 n0 v1 w1 zs.1 zs.2) vv_F ((0 : Int32), h)).bind (fun (e9 : (vv_H)) => some e9))
set_option maxHeartbeats 200000 in
theorem vt_J7_fill_d0a16_B6 {x : vv_E} {post : Option Value → vv_H → Prop} {t0 : Nat} {n0 : Nat} {u1 : Int64} {u4 : Int32} {s3 : Int32} {h : vv_H} {o : (Int32 × vv_H) ⊕ ((vv_H))} (hl0 : vv_TC.1 t0 = (2, n0, [])) (hk0 : t0 < vv_TC.2) (hm : ff_J7_fill_d0a16_B6  t0 n0 u1 u4 s3 h = some o) (hI : ∀ (z3 : Int32) (zh : vv_H), o = .inl (z3, zh) → vv_V x vv_TC mm_J7_fill_d0a16 post 6 [some (.ref (vv_ad x t0)), some (.long u1), none, some (.int z3), some (.int u4)] [] zh) (hX0 : ∀  (zh : vv_H), o = .inr zh → vv_V x vv_TC mm_J7_fill_d0a16 post 22 [none, none, none, none, none] [] zh) : vv_V x vv_TC mm_J7_fill_d0a16 post 6 [some (.ref (vv_ad x t0)), some (.long u1), none, some (.int s3), some (.int u4)] [] h := by
  unfold ff_J7_fill_d0a16_B6 at hm
  refine rr_iload_n (q := 7) dJ7_fill_d0a16_6 rfl rfl ?_
  refine rr_iload (q := 9) dJ7_fill_d0a16_7 rfl rfl ?_
  refine rr_icmp_ge (q := 12) (tgt := 22) dJ7_fill_d0a16_9 (by decide) rfl hm (fun hm => ?_) (fun hm => ?_)
  · obtain rfl := Option.some.inj hm
    refine rr_sub [false, false, false, false, false] rfl ?_
    exact hX0 h rfl
  · refine rr_aload_n (q := 13) dJ7_fill_d0a16_12 rfl rfl ?_
    refine rr_iload_n (q := 14) dJ7_fill_d0a16_13 rfl rfl ?_
    refine rr_lload_n (q := 15) dJ7_fill_d0a16_14 rfl rfl ?_
    obtain ⟨c3, hm⟩ := vv_ck_of hm
    obtain ⟨g4, c5, hm⟩ := vv_let_of hm
    refine rr_last (q := 16) hl0 hk0 c3 dJ7_fill_d0a16_15 rfl ?_
    rw [← c5]
    obtain ⟨w6, c7, hm⟩ := vv_let_of hm
    refine rr_iinc (q := 19) [some (.ref (vv_ad x t0)), some (.long u1), none, some (.int w6), some (.int u4)] dJ7_fill_d0a16_16 rfl rfl c7.symm (Nat.le_of_ble_eq_true rfl) rfl rfl ?_
    refine rr_goto (tgt := 6) dJ7_fill_d0a16_19 (by decide) ?_
    obtain rfl := Option.some.inj hm
    exact hI w6 g4 rfl
set_option maxHeartbeats 200000 in
theorem vt_J7_fill_d0a16 {x : vv_E} {post : Option Value → vv_H → Prop} {h : vv_H} {t0 : Nat} {n0 : Nat} {v1 : Int64} {o : vv_H} (hl0 : vv_TC.1 t0 = (2, n0, [])) (hk0 : t0 < vv_TC.2) (hm : ff_J7_fill_d0a16  h t0 n0 v1 = some o) (hp : post none o) : vv_V x vv_TC mm_J7_fill_d0a16 post 0 [some (.ref (vv_ad x t0)), some (.long v1), none, none, none] [] h := by
  unfold ff_J7_fill_d0a16 at hm
  refine rr_iconst (q := 1) (v := 0) dJ7_fill_d0a16_0 rfl (by decide) ?_
  refine rr_istore_n (q := 2) [some (.ref (vv_ad x t0)), some (.long v1), none, some (.int (0 : Int32)), none] dJ7_fill_d0a16_1 rfl rfl (Nat.le_of_ble_eq_true rfl) rfl rfl ?_
  refine rr_aload_n (q := 3) dJ7_fill_d0a16_2 rfl rfl ?_
  refine rr_alenL (q := 4) hl0 hk0 dJ7_fill_d0a16_3 rfl ?_
  obtain ⟨w1, c2, hm⟩ := vv_let_of hm
  rw [← c2]
  refine rr_istore (q := 6) [some (.ref (vv_ad x t0)), some (.long v1), none, some (.int (0 : Int32)), some (.int w1)] dJ7_fill_d0a16_4 rfl (Nat.le_of_ble_eq_true rfl) rfl rfl ?_
  obtain ⟨r8, k10, hm⟩ := vv_bind hm
  refine vv_lp_link (P := fun (zs : Int32 × vv_H) => vv_V x vv_TC mm_J7_fill_d0a16 post 6 [some (.ref (vv_ad x t0)), some (.long v1), none, some (.int zs.1), some (.int w1)] [] zs.2) (Q := (fun (e9 : (vv_H)) => vv_V x vv_TC mm_J7_fill_d0a16 post 22 [none, none, none, none, none] [] e9)) (fun zs o hm hI hX => ?_) vv_F ((0 : Int32), h) r8 k10 ?_
  · exact vt_J7_fill_d0a16_B6 hl0 hk0  hm (fun z3 zh e => hI (z3, zh) e) (fun zh e => hX zh e)
  · generalize r8 = e9 at hm ⊢
    try dsimp only [Sum.elim_inl, Sum.elim_inr] at hm
    try dsimp only [Sum.elim_inl, Sum.elim_inr]
    obtain rfl := Option.some.inj hm
    exact rr_vret dJ7_fill_d0a16_22 rfl hp
theorem cc_J7_fill_d0a16 {x : vv_E} {h : vv_H} {t0 : Nat} {n0 : Nat} {v1 : Int64} {o : vv_H} (hl0 : vv_TC.1 t0 = (2, n0, [])) (hk0 : t0 < vv_TC.2) (hm : ff_J7_fill_d0a16 h t0 n0 v1 = some o) : vv_C x vv_TC yJ7_fill_d0a16 mm_J7_fill_d0a16 [.ref (vv_ad x t0), .long v1] h (fun v g => v = none ∧ g = o) := vv_entry (by decide +kernel) rfl (Nat.le_of_ble_eq_true rfl) rfl (vt_J7_fill_d0a16 hl0 hk0 hm ⟨rfl, rfl⟩)
def ff_J7_fill_53178_B5 (t0 : Nat) (n0 : Nat) (u1 : Int32) (u3 : Int32) (s2 : Int32) (h : vv_H) : Option ((Int32 × vv_H) ⊕ ((vv_H))) := (if u3 ≤ s2 then some (.inr h) else vv_ck s2 n0 (vv_let (vv_iu h t0 s2.toNatClampNeg u1) (fun g4 => vv_let (s2 + 1) (fun w6 => some (.inl (w6, g4))))))
def ff_J7_fill_53178 (h : vv_H) (t0 : Nat) (n0 : Nat) (v1 : Int32) : Option (vv_H) := vv_let (Int32.ofNat n0) (fun w1 => (vv_lp (fun (zs : Int32 × vv_H) => ff_J7_fill_53178_B5  t0 n0 v1 w1 zs.1 zs.2) vv_F ((0 : Int32), h)).bind (fun (e9 : (vv_H)) => some e9))
set_option maxHeartbeats 200000 in
theorem vt_J7_fill_53178_B5 {x : vv_E} {post : Option Value → vv_H → Prop} {t0 : Nat} {n0 : Nat} {u1 : Int32} {u3 : Int32} {s2 : Int32} {h : vv_H} {o : (Int32 × vv_H) ⊕ ((vv_H))} (hl0 : vv_TC.1 t0 = (1, n0, [])) (hk0 : t0 < vv_TC.2) (hm : ff_J7_fill_53178_B5  t0 n0 u1 u3 s2 h = some o) (hI : ∀ (z2 : Int32) (zh : vv_H), o = .inl (z2, zh) → vv_V x vv_TC mm_J7_fill_53178 post 5 [some (.ref (vv_ad x t0)), some (.int u1), some (.int z2), some (.int u3)] [] zh) (hX0 : ∀  (zh : vv_H), o = .inr zh → vv_V x vv_TC mm_J7_fill_53178 post 20 [none, none, none, none] [] zh) : vv_V x vv_TC mm_J7_fill_53178 post 5 [some (.ref (vv_ad x t0)), some (.int u1), some (.int s2), some (.int u3)] [] h := by
  unfold ff_J7_fill_53178_B5 at hm
  refine rr_iload_n (q := 6) dJ7_fill_53178_5 rfl rfl ?_
  refine rr_iload_n (q := 7) dJ7_fill_53178_6 rfl rfl ?_
  refine rr_icmp_ge (q := 10) (tgt := 20) dJ7_fill_53178_7 (by decide) rfl hm (fun hm => ?_) (fun hm => ?_)
  · obtain rfl := Option.some.inj hm
    refine rr_sub [false, false, false, false] rfl ?_
    exact hX0 h rfl
  · refine rr_aload_n (q := 11) dJ7_fill_53178_10 rfl rfl ?_
    refine rr_iload_n (q := 12) dJ7_fill_53178_11 rfl rfl ?_
    refine rr_iload_n (q := 13) dJ7_fill_53178_12 rfl rfl ?_
    obtain ⟨c3, hm⟩ := vv_ck_of hm
    obtain ⟨g4, c5, hm⟩ := vv_let_of hm
    refine rr_iast (q := 14) hl0 hk0 c3 dJ7_fill_53178_13 rfl ?_
    rw [← c5]
    obtain ⟨w6, c7, hm⟩ := vv_let_of hm
    refine rr_iinc (q := 17) [some (.ref (vv_ad x t0)), some (.int u1), some (.int w6), some (.int u3)] dJ7_fill_53178_14 rfl rfl c7.symm (Nat.le_of_ble_eq_true rfl) rfl rfl ?_
    refine rr_goto (tgt := 5) dJ7_fill_53178_17 (by decide) ?_
    obtain rfl := Option.some.inj hm
    exact hI w6 g4 rfl
set_option maxHeartbeats 200000 in
theorem vt_J7_fill_53178 {x : vv_E} {post : Option Value → vv_H → Prop} {h : vv_H} {t0 : Nat} {n0 : Nat} {v1 : Int32} {o : vv_H} (hl0 : vv_TC.1 t0 = (1, n0, [])) (hk0 : t0 < vv_TC.2) (hm : ff_J7_fill_53178  h t0 n0 v1 = some o) (hp : post none o) : vv_V x vv_TC mm_J7_fill_53178 post 0 [some (.ref (vv_ad x t0)), some (.int v1), none, none] [] h := by
  unfold ff_J7_fill_53178 at hm
  refine rr_iconst (q := 1) (v := 0) dJ7_fill_53178_0 rfl (by decide) ?_
  refine rr_istore_n (q := 2) [some (.ref (vv_ad x t0)), some (.int v1), some (.int (0 : Int32)), none] dJ7_fill_53178_1 rfl rfl (Nat.le_of_ble_eq_true rfl) rfl rfl ?_
  refine rr_aload_n (q := 3) dJ7_fill_53178_2 rfl rfl ?_
  refine rr_alenP (q := 4) hl0 hk0 dJ7_fill_53178_3 rfl ?_
  obtain ⟨w1, c2, hm⟩ := vv_let_of hm
  rw [← c2]
  refine rr_istore_n (q := 5) [some (.ref (vv_ad x t0)), some (.int v1), some (.int (0 : Int32)), some (.int w1)] dJ7_fill_53178_4 rfl rfl (Nat.le_of_ble_eq_true rfl) rfl rfl ?_
  obtain ⟨r8, k10, hm⟩ := vv_bind hm
  refine vv_lp_link (P := fun (zs : Int32 × vv_H) => vv_V x vv_TC mm_J7_fill_53178 post 5 [some (.ref (vv_ad x t0)), some (.int v1), some (.int zs.1), some (.int w1)] [] zs.2) (Q := (fun (e9 : (vv_H)) => vv_V x vv_TC mm_J7_fill_53178 post 20 [none, none, none, none] [] e9)) (fun zs o hm hI hX => ?_) vv_F ((0 : Int32), h) r8 k10 ?_
  · exact vt_J7_fill_53178_B5 hl0 hk0  hm (fun z2 zh e => hI (z2, zh) e) (fun zh e => hX zh e)
  · generalize r8 = e9 at hm ⊢
    try dsimp only [Sum.elim_inl, Sum.elim_inr] at hm
    try dsimp only [Sum.elim_inl, Sum.elim_inr]
    obtain rfl := Option.some.inj hm
    exact rr_vret dJ7_fill_53178_20 rfl hp
theorem cc_J7_fill_53178 {x : vv_E} {h : vv_H} {t0 : Nat} {n0 : Nat} {v1 : Int32} {o : vv_H} (hl0 : vv_TC.1 t0 = (1, n0, [])) (hk0 : t0 < vv_TC.2) (hm : ff_J7_fill_53178 h t0 n0 v1 = some o) : vv_C x vv_TC yJ7_fill_53178 mm_J7_fill_53178 [.ref (vv_ad x t0), .int v1] h (fun v g => v = none ∧ g = o) := vv_entry (by decide +kernel) rfl (Nat.le_of_ble_eq_true rfl) rfl (vt_J7_fill_53178 hl0 hk0 hm ⟨rfl, rfl⟩)
def ff_X8_has (h : vv_H) (v1 : Int32) : Option (Int32) := (if v1 < 0 then some (0 : Int32) else (if (h.1 22 0) ≤ v1 then some (0 : Int32) else some (1 : Int32)))
set_option maxHeartbeats 200000 in
theorem vt_X8_has {x : vv_E} {post : Option Value → vv_H → Prop} {h : vv_H} {v1 : Int32} {o : Int32}  (hm : ff_X8_has  h v1 = some o) (hp : post (some (.int o)) h) : vv_V x vv_TC mm_X8_has post 0 [some (.ref (vv_ad x 22)), some (.int v1)] [] h := by
  unfold ff_X8_has at hm
  refine rr_iload_n (q := 1) dX8_has_0 rfl rfl ?_
  refine rr_if_lt (q := 4) (tgt := 16) dX8_has_1 (by decide) rfl hm (fun hm => ?_) (fun hm => ?_)
  · refine rr_iconst (q := 17) (v := 0) dX8_has_16 rfl (by decide) ?_
    obtain rfl := Option.some.inj hm
    exact rr_zret dX8_has_17 rfl rfl hp
  · refine rr_iload_n (q := 5) dX8_has_4 rfl rfl ?_
    refine rr_aload_n (q := 6) dX8_has_5 rfl rfl ?_
    refine gf_X8_23 (q := 9) rfl dX8_has_6 rfl ?_
    refine rr_icmp_ge (q := 12) (tgt := 16) dX8_has_9 (by decide) rfl hm (fun hm => ?_) (fun hm => ?_)
    · refine rr_iconst (q := 17) (v := 0) dX8_has_16 rfl (by decide) ?_
      obtain rfl := Option.some.inj hm
      exact rr_zret dX8_has_17 rfl rfl hp
    · refine rr_iconst (q := 13) (v := 1) dX8_has_12 rfl (by decide) ?_
      refine rr_goto (tgt := 17) dX8_has_13 (by decide) ?_
      obtain rfl := Option.some.inj hm
      exact rr_zret dX8_has_17 rfl rfl hp
theorem cc_X8_has {x : vv_E} {h : vv_H} {v1 : Int32} {o : Int32}  (hm : ff_X8_has h v1 = some o) : vv_C x vv_TC yX8_has mm_X8_has [.ref (vv_ad x 22), .int v1] h (fun v g => v = some (.int o) ∧ g = h) := vv_entry (by decide +kernel) rfl (Nat.le_of_ble_eq_true rfl) rfl (vt_X8_has  hm ⟨rfl, rfl⟩)
def ff_X8_isOf (h : vv_H) (v1 : Int32) (v2 : Int32) : Option (Int32) := vv_ck v1 12 ((if (h.1 23 v1.toNatClampNeg) = v2 then some (1 : Int32) else some (0 : Int32)))
set_option maxHeartbeats 200000 in
theorem vt_X8_isOf {x : vv_E} {post : Option Value → vv_H → Prop} {h : vv_H} {v1 : Int32} {v2 : Int32} {o : Int32}  (hm : ff_X8_isOf  h v1 v2 = some o) (hp : post (some (.int o)) h) : vv_V x vv_TC mm_X8_isOf post 0 [some (.ref (vv_ad x 22)), some (.int v1), some (.int v2)] [] h := by
  unfold ff_X8_isOf at hm
  refine rr_aload_n (q := 1) dX8_isOf_0 rfl rfl ?_
  refine gf_X8_9 (q := 4) rfl dX8_isOf_1 rfl ?_
  refine rr_iload_n (q := 5) dX8_isOf_4 rfl rfl ?_
  obtain ⟨c1, hm⟩ := vv_ck_of hm
  refine rr_iald (q := 6) ylC_23 ynC_23 c1 dX8_isOf_5 rfl ?_
  refine rr_iload_n (q := 7) dX8_isOf_6 rfl rfl ?_
  refine rr_icmp_ne (q := 10) (tgt := 14) dX8_isOf_7 (by decide) rfl hm (fun hm => ?_) (fun hm => ?_)
  · refine rr_iconst (q := 15) (v := 0) dX8_isOf_14 rfl (by decide) ?_
    obtain rfl := Option.some.inj hm
    exact rr_zret dX8_isOf_15 rfl rfl hp
  · refine rr_iconst (q := 11) (v := 1) dX8_isOf_10 rfl (by decide) ?_
    refine rr_goto (tgt := 15) dX8_isOf_11 (by decide) ?_
    obtain rfl := Option.some.inj hm
    exact rr_zret dX8_isOf_15 rfl rfl hp
theorem cc_X8_isOf {x : vv_E} {h : vv_H} {v1 : Int32} {v2 : Int32} {o : Int32}  (hm : ff_X8_isOf h v1 v2 = some o) : vv_C x vv_TC yX8_isOf mm_X8_isOf [.ref (vv_ad x 22), .int v1, .int v2] h (fun v g => v = some (.int o) ∧ g = h) := vv_entry (by decide +kernel) rfl (Nat.le_of_ble_eq_true rfl) rfl (vt_X8_isOf  hm ⟨rfl, rfl⟩)
def ff_X8_add (h : vv_H) (v1 : Int32) : Option (Int32 × vv_H) := (if (h.1 22 0) < (12 : Int32) then vv_ck (h.1 22 0) 12 (vv_let (vv_iu h 23 (h.1 22 0).toNatClampNeg v1) (fun g2 => vv_let (vv_iu g2 22 0 ((g2.1 22 0) + (1 : Int32))) (fun g4 => some ((g2.1 22 0), g4)))) else some ((-3 : Int32), h))
set_option maxHeartbeats 200000 in
theorem vt_X8_add {x : vv_E} {post : Option Value → vv_H → Prop} {h : vv_H} {v1 : Int32} {o : Int32 × vv_H}  (hm : ff_X8_add  h v1 = some o) (hp : post (some (.int o.1)) o.2) : vv_V x vv_TC mm_X8_add post 0 [some (.ref (vv_ad x 22)), some (.int v1)] [] h := by
  unfold ff_X8_add at hm
  refine rr_aload_n (q := 1) dX8_add_0 rfl rfl ?_
  refine gf_X8_23 (q := 4) rfl dX8_add_1 rfl ?_
  refine rr_bipush (q := 6) (v := 12) dX8_add_4 rfl (by decide) ?_
  refine rr_icmp_lt (q := 9) (tgt := 12) dX8_add_6 (by decide) rfl hm (fun hm => ?_) (fun hm => ?_)
  · refine rr_aload_n (q := 13) dX8_add_12 rfl rfl ?_
    refine gf_X8_9 (q := 16) rfl dX8_add_13 rfl ?_
    refine rr_aload_n (q := 17) dX8_add_16 rfl rfl ?_
    refine gf_X8_23 (q := 20) rfl dX8_add_17 rfl ?_
    refine rr_iload_n (q := 21) dX8_add_20 rfl rfl ?_
    obtain ⟨c1, hm⟩ := vv_ck_of hm
    obtain ⟨g2, c3, hm⟩ := vv_let_of hm
    refine rr_iast (q := 22) ylC_23 ynC_23 c1 dX8_add_21 rfl ?_
    rw [← c3]
    refine rr_aload_n (q := 23) dX8_add_22 rfl rfl ?_
    refine rr_dup (q := 24) dX8_add_23 rfl rfl ?_
    refine gf_X8_23 (q := 27) rfl dX8_add_24 rfl ?_
    refine rr_dup_x1 (q := 28) dX8_add_27 rfl rfl rfl ?_
    refine rr_iconst (q := 29) (v := 1) dX8_add_28 rfl (by decide) ?_
    refine rr_iadd (q := 30) dX8_add_29 rfl ?_
    refine pf_X8_23 (q := 33) rfl dX8_add_30 rfl (fun g4 c5 => ?_)
    replace hm := vv_letE hm c5
    obtain rfl := Option.some.inj hm
    exact rr_iret dX8_add_33 rfl hp
  · refine rr_bipush (q := 11) (v := -3) dX8_add_9 rfl (by decide) ?_
    obtain rfl := Option.some.inj hm
    exact rr_iret dX8_add_11 rfl hp
theorem cc_X8_add {x : vv_E} {h : vv_H} {v1 : Int32} {o : Int32 × vv_H}  (hm : ff_X8_add h v1 = some o) : vv_C x vv_TC yX8_add mm_X8_add [.ref (vv_ad x 22), .int v1] h (fun v g => v = some (.int o.1) ∧ g = o.2) := vv_entry (by decide +kernel) rfl (Nat.le_of_ble_eq_true rfl) rfl (vt_X8_add  hm ⟨rfl, rfl⟩)
def ff_X8_limit (h : vv_H) (v1 : Int32) (v2 : Int32) (v3 : Int32) (v4 : Int32) : Option (vv_H) := vv_ck v1 12 (vv_ck v2 3 (vv_let (vv_iu h (25 + v1.toNatClampNeg) v2.toNatClampNeg v3) (fun g3 => vv_ck v1 12 (vv_ck v2 3 (vv_let (vv_iu g3 (38 + v1.toNatClampNeg) v2.toNatClampNeg v4) (fun g7 => some g7))))))
set_option maxHeartbeats 200000 in
theorem vt_X8_limit {x : vv_E} {post : Option Value → vv_H → Prop} {h : vv_H} {v1 : Int32} {v2 : Int32} {v3 : Int32} {v4 : Int32} {o : vv_H}  (hm : ff_X8_limit  h v1 v2 v3 v4 = some o) (hp : post none o) : vv_V x vv_TC mm_X8_limit post 0 [some (.ref (vv_ad x 22)), some (.int v1), some (.int v2), some (.int v3), some (.int v4)] [] h := by
  unfold ff_X8_limit at hm
  refine rr_aload_n (q := 1) dX8_limit_0 rfl rfl ?_
  refine gf_X8_17 (q := 4) rfl dX8_limit_1 rfl ?_
  refine rr_iload_n (q := 5) dX8_limit_4 rfl rfl ?_
  obtain ⟨c1, hm⟩ := vv_ck_of hm
  refine rr_aald (q := 6) ylC_24 ynC_24 c1 dX8_limit_5 rfl ?_
  refine rr_iload_n (q := 7) dX8_limit_6 rfl rfl ?_
  refine rr_iload_n (q := 8) dX8_limit_7 rfl rfl ?_
  obtain ⟨c2, hm⟩ := vv_ck_of hm
  obtain ⟨g3, c4, hm⟩ := vv_let_of hm
  refine rr_iast (q := 9) (ywC_24 c1).1 (ywC_24 c1).2 c2 dX8_limit_8 rfl ?_
  rw [← c4]
  refine rr_aload_n (q := 10) dX8_limit_9 rfl rfl ?_
  refine gf_X8_20 (q := 13) rfl dX8_limit_10 rfl ?_
  refine rr_iload_n (q := 14) dX8_limit_13 rfl rfl ?_
  obtain ⟨c5, hm⟩ := vv_ck_of hm
  refine rr_aald (q := 15) ylC_37 ynC_37 c5 dX8_limit_14 rfl ?_
  refine rr_iload_n (q := 16) dX8_limit_15 rfl rfl ?_
  refine rr_iload (q := 18) dX8_limit_16 rfl rfl ?_
  obtain ⟨c6, hm⟩ := vv_ck_of hm
  obtain ⟨g7, c8, hm⟩ := vv_let_of hm
  refine rr_iast (q := 19) (ywC_37 c5).1 (ywC_37 c5).2 c6 dX8_limit_18 rfl ?_
  rw [← c8]
  obtain rfl := Option.some.inj hm
  exact rr_vret dX8_limit_19 rfl hp
theorem cc_X8_limit {x : vv_E} {h : vv_H} {v1 : Int32} {v2 : Int32} {v3 : Int32} {v4 : Int32} {o : vv_H}  (hm : ff_X8_limit h v1 v2 v3 v4 = some o) : vv_C x vv_TC yX8_limit mm_X8_limit [.ref (vv_ad x 22), .int v1, .int v2, .int v3, .int v4] h (fun v g => v = none ∧ g = o) := vv_entry (by decide +kernel) rfl (Nat.le_of_ble_eq_true rfl) rfl (vt_X8_limit  hm ⟨rfl, rfl⟩)
def ff_X9_has (h : vv_H) (v1 : Int32) : Option (Int32) := (if v1 < 0 then some (0 : Int32) else (if (h.1 146 0) ≤ v1 then some (0 : Int32) else some (1 : Int32)))
set_option maxHeartbeats 200000 in
theorem vt_X9_has {x : vv_E} {post : Option Value → vv_H → Prop} {h : vv_H} {v1 : Int32} {o : Int32}  (hm : ff_X9_has  h v1 = some o) (hp : post (some (.int o)) h) : vv_V x vv_TC mm_X9_has post 0 [some (.ref (vv_ad x 146)), some (.int v1)] [] h := by
  unfold ff_X9_has at hm
  refine rr_iload_n (q := 1) dX9_has_0 rfl rfl ?_
  refine rr_if_lt (q := 4) (tgt := 16) dX9_has_1 (by decide) rfl hm (fun hm => ?_) (fun hm => ?_)
  · refine rr_iconst (q := 17) (v := 0) dX9_has_16 rfl (by decide) ?_
    obtain rfl := Option.some.inj hm
    exact rr_zret dX9_has_17 rfl rfl hp
  · refine rr_iload_n (q := 5) dX9_has_4 rfl rfl ?_
    refine rr_aload_n (q := 6) dX9_has_5 rfl rfl ?_
    refine gf_X9_35 (q := 9) rfl dX9_has_6 rfl ?_
    refine rr_icmp_ge (q := 12) (tgt := 16) dX9_has_9 (by decide) rfl hm (fun hm => ?_) (fun hm => ?_)
    · refine rr_iconst (q := 17) (v := 0) dX9_has_16 rfl (by decide) ?_
      obtain rfl := Option.some.inj hm
      exact rr_zret dX9_has_17 rfl rfl hp
    · refine rr_iconst (q := 13) (v := 1) dX9_has_12 rfl (by decide) ?_
      refine rr_goto (tgt := 17) dX9_has_13 (by decide) ?_
      obtain rfl := Option.some.inj hm
      exact rr_zret dX9_has_17 rfl rfl hp
theorem cc_X9_has {x : vv_E} {h : vv_H} {v1 : Int32} {o : Int32}  (hm : ff_X9_has h v1 = some o) : vv_C x vv_TC yX9_has mm_X9_has [.ref (vv_ad x 146), .int v1] h (fun v g => v = some (.int o) ∧ g = h) := vv_entry (by decide +kernel) rfl (Nat.le_of_ble_eq_true rfl) rfl (vt_X9_has  hm ⟨rfl, rfl⟩)
def ff_X9_add (h : vv_H) : Option (Int32 × vv_H) := (if (h.1 146 0) < (4 : Int32) then vv_let (vv_iu h 146 0 ((h.1 146 0) + (1 : Int32))) (fun g1 => some ((h.1 146 0), g1)) else some ((-3 : Int32), h))
set_option maxHeartbeats 200000 in
theorem vt_X9_add {x : vv_E} {post : Option Value → vv_H → Prop} {h : vv_H} {o : Int32 × vv_H}  (hm : ff_X9_add  h = some o) (hp : post (some (.int o.1)) o.2) : vv_V x vv_TC mm_X9_add post 0 [some (.ref (vv_ad x 146))] [] h := by
  unfold ff_X9_add at hm
  refine rr_aload_n (q := 1) dX9_add_0 rfl rfl ?_
  refine gf_X9_35 (q := 4) rfl dX9_add_1 rfl ?_
  refine rr_iconst (q := 5) (v := 4) dX9_add_4 rfl (by decide) ?_
  refine rr_icmp_lt (q := 8) (tgt := 13) dX9_add_5 (by decide) rfl hm (fun hm => ?_) (fun hm => ?_)
  · refine rr_aload_n (q := 14) dX9_add_13 rfl rfl ?_
    refine rr_dup (q := 15) dX9_add_14 rfl rfl ?_
    refine gf_X9_35 (q := 18) rfl dX9_add_15 rfl ?_
    refine rr_dup_x1 (q := 19) dX9_add_18 rfl rfl rfl ?_
    refine rr_iconst (q := 20) (v := 1) dX9_add_19 rfl (by decide) ?_
    refine rr_iadd (q := 21) dX9_add_20 rfl ?_
    refine pf_X9_35 (q := 24) rfl dX9_add_21 rfl (fun g1 c2 => ?_)
    replace hm := vv_letE hm c2
    obtain rfl := Option.some.inj hm
    exact rr_iret dX9_add_24 rfl hp
  · refine rr_bipush (q := 10) (v := -3) dX9_add_8 rfl (by decide) ?_
    refine rr_goto (tgt := 24) dX9_add_10 (by decide) ?_
    obtain rfl := Option.some.inj hm
    exact rr_iret dX9_add_24 rfl hp
theorem cc_X9_add {x : vv_E} {h : vv_H} {o : Int32 × vv_H}  (hm : ff_X9_add h = some o) : vv_C x vv_TC yX9_add mm_X9_add [.ref (vv_ad x 146)] h (fun v g => v = some (.int o.1) ∧ g = o.2) := vv_entry (by decide +kernel) rfl (Nat.le_of_ble_eq_true rfl) rfl (vt_X9_add  hm ⟨rfl, rfl⟩)
def ff_X9_laneOf (v0 : Int32) (v1 : Int32) : Option (Int32) := some (((4 : Int32) * v0) + v1)
set_option maxHeartbeats 200000 in
theorem vt_X9_laneOf {x : vv_E} {post : Option Value → vv_H → Prop} {v0 : Int32} {v1 : Int32} {h : vv_H} {o : Int32}  (hm : ff_X9_laneOf  v0 v1 = some o) (hp : post (some (.int o)) h) : vv_V x vv_TC mm_X9_laneOf post 0 [some (.int v0), some (.int v1)] [] h := by
  unfold ff_X9_laneOf at hm
  refine rr_iconst (q := 1) (v := 4) dX9_laneOf_0 rfl (by decide) ?_
  refine rr_iload_n (q := 2) dX9_laneOf_1 rfl rfl ?_
  refine rr_imul (q := 3) dX9_laneOf_2 rfl ?_
  refine rr_iload_n (q := 4) dX9_laneOf_3 rfl rfl ?_
  refine rr_iadd (q := 5) dX9_laneOf_4 rfl ?_
  obtain rfl := Option.some.inj hm
  exact rr_iret dX9_laneOf_5 rfl hp
theorem cc_X9_laneOf {x : vv_E} {v0 : Int32} {v1 : Int32} {h : vv_H} {o : Int32}  (hm : ff_X9_laneOf v0 v1 = some o) : vv_C x vv_TC yX9_laneOf mm_X9_laneOf [.int v0, .int v1] h (fun v g => v = some (.int o) ∧ g = h) := vv_entry (by decide +kernel) rfl (Nat.le_of_ble_eq_true rfl) rfl (vt_X9_laneOf  hm ⟨rfl, rfl⟩)
def ff_X9_spareBehind_B6 (h : vv_H) (s2 : Int32) (s3 : Int32) : Option ((Int32 × Int32) ⊕ ((Int32))) := (if (4 : Int32) ≤ s3 then some (.inr s2) else vv_ck s3 4 (vv_let (s2 + (h.1 154 s3.toNatClampNeg)) (fun w2 => vv_let (s3 + 1) (fun w4 => some (.inl (w2, w4))))))
def ff_X9_spareBehind (h : vv_H) (v1 : Int32) : Option (Int32) := (vv_lp (fun (zs : Int32 × Int32) => ff_X9_spareBehind_B6  h zs.1 zs.2) vv_F ((0 : Int32), (v1 + (1 : Int32)))).bind (fun (e7 : (Int32)) => some e7)
set_option maxHeartbeats 200000 in
theorem vt_X9_spareBehind_B6 {x : vv_E} {post : Option Value → vv_H → Prop} {h : vv_H} {s2 : Int32} {s3 : Int32} {o : (Int32 × Int32) ⊕ ((Int32))}  (hm : ff_X9_spareBehind_B6  h s2 s3 = some o) (hI : ∀ (z2 : Int32) (z3 : Int32) , o = .inl (z2, z3) → vv_V x vv_TC mm_X9_spareBehind post 6 [some (.ref (vv_ad x 146)), none, some (.int z2), some (.int z3)] [] h) (hX0 : ∀ (z2 : Int32), o = .inr z2 → vv_V x vv_TC mm_X9_spareBehind post 26 [none, none, some (.int z2), none] [] h) : vv_V x vv_TC mm_X9_spareBehind post 6 [some (.ref (vv_ad x 146)), none, some (.int s2), some (.int s3)] [] h := by
  unfold ff_X9_spareBehind_B6 at hm
  refine rr_iload_n (q := 7) dX9_spareBehind_6 rfl rfl ?_
  refine rr_iconst (q := 8) (v := 4) dX9_spareBehind_7 rfl (by decide) ?_
  refine rr_icmp_ge (q := 11) (tgt := 26) dX9_spareBehind_8 (by decide) rfl hm (fun hm => ?_) (fun hm => ?_)
  · obtain rfl := Option.some.inj hm
    refine rr_sub [false, false, true, false] rfl ?_
    exact hX0 s2 rfl
  · refine rr_iload_n (q := 12) dX9_spareBehind_11 rfl rfl ?_
    refine rr_aload_n (q := 13) dX9_spareBehind_12 rfl rfl ?_
    refine gf_X9_23 (q := 16) rfl dX9_spareBehind_13 rfl ?_
    refine rr_iload_n (q := 17) dX9_spareBehind_16 rfl rfl ?_
    obtain ⟨c1, hm⟩ := vv_ck_of hm
    refine rr_iald (q := 18) ylC_154 ynC_154 c1 dX9_spareBehind_17 rfl ?_
    refine rr_iadd (q := 19) dX9_spareBehind_18 rfl ?_
    obtain ⟨w2, c3, hm⟩ := vv_let_of hm
    rw [← c3]
    refine rr_istore_n (q := 20) [some (.ref (vv_ad x 146)), none, some (.int w2), some (.int s3)] dX9_spareBehind_19 rfl rfl (Nat.le_of_ble_eq_true rfl) rfl rfl ?_
    obtain ⟨w4, c5, hm⟩ := vv_let_of hm
    refine rr_iinc (q := 23) [some (.ref (vv_ad x 146)), none, some (.int w2), some (.int w4)] dX9_spareBehind_20 rfl rfl c5.symm (Nat.le_of_ble_eq_true rfl) rfl rfl ?_
    refine rr_goto (tgt := 6) dX9_spareBehind_23 (by decide) ?_
    obtain rfl := Option.some.inj hm
    exact hI w2 w4 rfl
set_option maxHeartbeats 200000 in
theorem vt_X9_spareBehind {x : vv_E} {post : Option Value → vv_H → Prop} {h : vv_H} {v1 : Int32} {o : Int32}  (hm : ff_X9_spareBehind  h v1 = some o) (hp : post (some (.int o)) h) : vv_V x vv_TC mm_X9_spareBehind post 0 [some (.ref (vv_ad x 146)), some (.int v1), none, none] [] h := by
  unfold ff_X9_spareBehind at hm
  refine rr_iconst (q := 1) (v := 0) dX9_spareBehind_0 rfl (by decide) ?_
  refine rr_istore_n (q := 2) [some (.ref (vv_ad x 146)), some (.int v1), some (.int (0 : Int32)), none] dX9_spareBehind_1 rfl rfl (Nat.le_of_ble_eq_true rfl) rfl rfl ?_
  refine rr_iload_n (q := 3) dX9_spareBehind_2 rfl rfl ?_
  refine rr_iconst (q := 4) (v := 1) dX9_spareBehind_3 rfl (by decide) ?_
  refine rr_iadd (q := 5) dX9_spareBehind_4 rfl ?_
  refine rr_istore_n (q := 6) [some (.ref (vv_ad x 146)), some (.int v1), some (.int (0 : Int32)), some (.int (v1 + (1 : Int32)))] dX9_spareBehind_5 rfl rfl (Nat.le_of_ble_eq_true rfl) rfl rfl ?_
  refine rr_sub [true, false, true, true] rfl ?_
  obtain ⟨r6, k8, hm⟩ := vv_bind hm
  refine vv_lp_link (P := fun (zs : Int32 × Int32) => vv_V x vv_TC mm_X9_spareBehind post 6 [some (.ref (vv_ad x 146)), none, some (.int zs.1), some (.int zs.2)] [] h) (Q := (fun (e7 : (Int32)) => vv_V x vv_TC mm_X9_spareBehind post 26 [none, none, some (.int e7), none] [] h)) (fun zs o hm hI hX => ?_) vv_F ((0 : Int32), (v1 + (1 : Int32))) r6 k8 ?_
  · exact vt_X9_spareBehind_B6   hm (fun z2 z3 e => hI (z2, z3) e) (fun z2 e => hX z2 e)
  · generalize r6 = e7 at hm ⊢
    try dsimp only [Sum.elim_inl, Sum.elim_inr] at hm
    try dsimp only [Sum.elim_inl, Sum.elim_inr]
    refine rr_iload_n (q := 27) dX9_spareBehind_26 rfl rfl ?_
    obtain rfl := Option.some.inj hm
    exact rr_iret dX9_spareBehind_27 rfl hp
theorem cc_X9_spareBehind {x : vv_E} {h : vv_H} {v1 : Int32} {o : Int32}  (hm : ff_X9_spareBehind h v1 = some o) : vv_C x vv_TC yX9_spareBehind mm_X9_spareBehind [.ref (vv_ad x 146), .int v1] h (fun v g => v = some (.int o) ∧ g = h) := vv_entry (by decide +kernel) rfl (Nat.le_of_ble_eq_true rfl) rfl (vt_X9_spareBehind  hm ⟨rfl, rfl⟩)
def ff_X9_send (h : vv_H) (v1 : Int32) (v2 : Int32) : Option (vv_H) := vv_ck v1 16 (vv_ck v1 16 (vv_let (vv_iu h 153 v1.toNatClampNeg ((h.1 153 v1.toNatClampNeg) + v2)) (fun g3 => vv_nz (4 : Int32) (vv_ck (v1 / (4 : Int32)) 4 (vv_ck (v1 / (4 : Int32)) 4 (vv_let (vv_iu g3 154 (v1 / (4 : Int32)).toNatClampNeg ((g3.1 154 (v1 / (4 : Int32)).toNatClampNeg) - v2)) (fun g8 => vv_nz (4 : Int32) (vv_ck (v1 - v1 / (4 : Int32) * (4 : Int32)) 4 (vv_ck (v1 - v1 / (4 : Int32) * (4 : Int32)) 4 (vv_let (vv_iu g8 155 (v1 - v1 / (4 : Int32) * (4 : Int32)).toNatClampNeg ((g8.1 155 (v1 - v1 / (4 : Int32) * (4 : Int32)).toNatClampNeg) - v2)) (fun g13 => some g13)))))))))))
set_option maxHeartbeats 200000 in
theorem vt_X9_send {x : vv_E} {post : Option Value → vv_H → Prop} {h : vv_H} {v1 : Int32} {v2 : Int32} {o : vv_H}  (hm : ff_X9_send  h v1 v2 = some o) (hp : post none o) : vv_V x vv_TC mm_X9_send post 0 [some (.ref (vv_ad x 146)), some (.int v1), some (.int v2)] [] h := by
  unfold ff_X9_send at hm
  refine rr_aload_n (q := 1) dX9_send_0 rfl rfl ?_
  refine gf_X9_20 (q := 4) rfl dX9_send_1 rfl ?_
  refine rr_iload_n (q := 5) dX9_send_4 rfl rfl ?_
  refine rr_dup2 (q := 6) dX9_send_5 rfl rfl rfl ?_
  obtain ⟨c1, hm⟩ := vv_ck_of hm
  refine rr_iald (q := 7) ylC_153 ynC_153 c1 dX9_send_6 rfl ?_
  refine rr_iload_n (q := 8) dX9_send_7 rfl rfl ?_
  refine rr_iadd (q := 9) dX9_send_8 rfl ?_
  obtain ⟨c2, hm⟩ := vv_ck_of hm
  obtain ⟨g3, c4, hm⟩ := vv_let_of hm
  refine rr_iast (q := 10) ylC_153 ynC_153 c2 dX9_send_9 rfl ?_
  rw [← c4]
  refine rr_aload_n (q := 11) dX9_send_10 rfl rfl ?_
  refine gf_X9_23 (q := 14) rfl dX9_send_11 rfl ?_
  refine rr_iload_n (q := 15) dX9_send_14 rfl rfl ?_
  refine rr_iconst (q := 16) (v := 4) dX9_send_15 rfl (by decide) ?_
  obtain ⟨c5, hm⟩ := vv_nz_of hm
  refine rr_idiv (q := 17) dX9_send_16 rfl c5 ?_
  refine rr_dup2 (q := 18) dX9_send_17 rfl rfl rfl ?_
  obtain ⟨c6, hm⟩ := vv_ck_of hm
  refine rr_iald (q := 19) ylC_154 ynC_154 c6 dX9_send_18 rfl ?_
  refine rr_iload_n (q := 20) dX9_send_19 rfl rfl ?_
  refine rr_isub (q := 21) dX9_send_20 rfl ?_
  obtain ⟨c7, hm⟩ := vv_ck_of hm
  obtain ⟨g8, c9, hm⟩ := vv_let_of hm
  refine rr_iast (q := 22) ylC_154 ynC_154 c7 dX9_send_21 rfl ?_
  rw [← c9]
  refine rr_aload_n (q := 23) dX9_send_22 rfl rfl ?_
  refine gf_X9_26 (q := 26) rfl dX9_send_23 rfl ?_
  refine rr_iload_n (q := 27) dX9_send_26 rfl rfl ?_
  refine rr_iconst (q := 28) (v := 4) dX9_send_27 rfl (by decide) ?_
  obtain ⟨c10, hm⟩ := vv_nz_of hm
  refine rr_irem (q := 29) dX9_send_28 rfl c10 ?_
  refine rr_dup2 (q := 30) dX9_send_29 rfl rfl rfl ?_
  obtain ⟨c11, hm⟩ := vv_ck_of hm
  refine rr_iald (q := 31) ylC_155 ynC_155 c11 dX9_send_30 rfl ?_
  refine rr_iload_n (q := 32) dX9_send_31 rfl rfl ?_
  refine rr_isub (q := 33) dX9_send_32 rfl ?_
  obtain ⟨c12, hm⟩ := vv_ck_of hm
  obtain ⟨g13, c14, hm⟩ := vv_let_of hm
  refine rr_iast (q := 34) ylC_155 ynC_155 c12 dX9_send_33 rfl ?_
  rw [← c14]
  obtain rfl := Option.some.inj hm
  exact rr_vret dX9_send_34 rfl hp
theorem cc_X9_send {x : vv_E} {h : vv_H} {v1 : Int32} {v2 : Int32} {o : vv_H}  (hm : ff_X9_send h v1 v2 = some o) : vv_C x vv_TC yX9_send mm_X9_send [.ref (vv_ad x 146), .int v1, .int v2] h (fun v g => v = none ∧ g = o) := vv_entry (by decide +kernel) rfl (Nat.le_of_ble_eq_true rfl) rfl (vt_X9_send  hm ⟨rfl, rfl⟩)
def ff_X10_add_B19 (u1 : Int64) (s3 : Int32) (h : vv_H) : Option ((Int32 × vv_H) ⊕ ((vv_H))) := (if s3 < 0 then some (.inr h) else vv_ck (h.1 50 0) 240 (vv_let (vv_iu h 51 (h.1 50 0).toNatClampNeg (vp_nar .byte (((u1 >>> (s3.toInt64 &&& 63)).toInt32).toInt8.toInt32))) (fun g2 => vv_let (vv_iu g2 50 0 ((g2.1 50 0) + (1 : Int32))) (fun g4 => vv_let (s3 + (-8)) (fun w6 => some (.inl (w6, g4)))))))
def ff_X10_add (h : vv_H) (v1 : Int64) : Option (Int32 × vv_H) := (if ((h.1 50 0) + (8 : Int32)) ≤ (240 : Int32) then (vv_lp (fun (zs : Int32 × vv_H) => ff_X10_add_B19  v1 zs.1 zs.2) vv_F ((56 : Int32), h)).bind (fun (e9 : (vv_H)) => some ((e9.1 50 0), e9)) else some ((-3 : Int32), h))
set_option maxHeartbeats 200000 in
theorem vt_X10_add_B19 {x : vv_E} {post : Option Value → vv_H → Prop} {u1 : Int64} {s3 : Int32} {h : vv_H} {o : (Int32 × vv_H) ⊕ ((vv_H))}  (hm : ff_X10_add_B19  u1 s3 h = some o) (hI : ∀ (z3 : Int32) (zh : vv_H), o = .inl (z3, zh) → vv_V x vv_TC mm_X10_add post 19 [some (.ref (vv_ad x 50)), some (.long u1), none, some (.int z3)] [] zh) (hX0 : ∀  (zh : vv_H), o = .inr zh → vv_V x vv_TC mm_X10_add post 53 [some (.ref (vv_ad x 50)), none, none, none] [] zh) : vv_V x vv_TC mm_X10_add post 19 [some (.ref (vv_ad x 50)), some (.long u1), none, some (.int s3)] [] h := by
  unfold ff_X10_add_B19 at hm
  refine rr_iload_n (q := 20) dX10_add_19 rfl rfl ?_
  refine rr_if_lt (q := 23) (tgt := 53) dX10_add_20 (by decide) rfl hm (fun hm => ?_) (fun hm => ?_)
  · obtain rfl := Option.some.inj hm
    refine rr_sub [true, false, false, false] rfl ?_
    exact hX0 h rfl
  · refine rr_aload_n (q := 24) dX10_add_23 rfl rfl ?_
    refine gf_X10_9 (q := 27) rfl dX10_add_24 rfl ?_
    refine rr_aload_n (q := 28) dX10_add_27 rfl rfl ?_
    refine gf_X10_25 (q := 31) rfl dX10_add_28 rfl ?_
    refine rr_lload_n (q := 32) dX10_add_31 rfl rfl ?_
    refine rr_iload_n (q := 33) dX10_add_32 rfl rfl ?_
    refine rr_lshr (q := 34) dX10_add_33 rfl ?_
    refine rr_l2i (q := 35) dX10_add_34 rfl ?_
    refine rr_i2b (q := 36) dX10_add_35 rfl ?_
    obtain ⟨c1, hm⟩ := vv_ck_of hm
    obtain ⟨g2, c3, hm⟩ := vv_let_of hm
    refine rr_bast (q := 37) ylC_51 ynC_51 c1 dX10_add_36 rfl ?_
    rw [← c3]
    refine rr_aload_n (q := 38) dX10_add_37 rfl rfl ?_
    refine rr_dup (q := 39) dX10_add_38 rfl rfl ?_
    refine gf_X10_25 (q := 42) rfl dX10_add_39 rfl ?_
    refine rr_iconst (q := 43) (v := 1) dX10_add_42 rfl (by decide) ?_
    refine rr_iadd (q := 44) dX10_add_43 rfl ?_
    refine pf_X10_25 (q := 47) rfl dX10_add_44 rfl (fun g4 c5 => ?_)
    replace hm := vv_letE hm c5
    obtain ⟨w6, c7, hm⟩ := vv_let_of hm
    refine rr_iinc (q := 50) [some (.ref (vv_ad x 50)), some (.long u1), none, some (.int w6)] dX10_add_47 rfl rfl c7.symm (Nat.le_of_ble_eq_true rfl) rfl rfl ?_
    refine rr_goto (tgt := 19) dX10_add_50 (by decide) ?_
    obtain rfl := Option.some.inj hm
    exact hI w6 g4 rfl
set_option maxHeartbeats 200000 in
theorem vt_X10_add {x : vv_E} {post : Option Value → vv_H → Prop} {h : vv_H} {v1 : Int64} {o : Int32 × vv_H}  (hm : ff_X10_add  h v1 = some o) (hp : post (some (.int o.1)) o.2) : vv_V x vv_TC mm_X10_add post 0 [some (.ref (vv_ad x 50)), some (.long v1), none, none] [] h := by
  unfold ff_X10_add at hm
  refine rr_aload_n (q := 1) dX10_add_0 rfl rfl ?_
  refine gf_X10_25 (q := 4) rfl dX10_add_1 rfl ?_
  refine rr_bipush (q := 6) (v := 8) dX10_add_4 rfl (by decide) ?_
  refine rr_iadd (q := 7) dX10_add_6 rfl ?_
  refine rr_sipush (q := 10) (v := 240) dX10_add_7 rfl (by decide) ?_
  refine rr_icmp_le (q := 13) (tgt := 16) dX10_add_10 (by decide) rfl hm (fun hm => ?_) (fun hm => ?_)
  · refine rr_bipush (q := 18) (v := 56) dX10_add_16 rfl (by decide) ?_
    refine rr_istore_n (q := 19) [some (.ref (vv_ad x 50)), some (.long v1), none, some (.int (56 : Int32))] dX10_add_18 rfl rfl (Nat.le_of_ble_eq_true rfl) rfl rfl ?_
    obtain ⟨r8, k10, hm⟩ := vv_bind hm
    refine vv_lp_link (P := fun (zs : Int32 × vv_H) => vv_V x vv_TC mm_X10_add post 19 [some (.ref (vv_ad x 50)), some (.long v1), none, some (.int zs.1)] [] zs.2) (Q := (fun (e9 : (vv_H)) => vv_V x vv_TC mm_X10_add post 53 [some (.ref (vv_ad x 50)), none, none, none] [] e9)) (fun zs o hm hI hX => ?_) vv_F ((56 : Int32), h) r8 k10 ?_
    · exact vt_X10_add_B19   hm (fun z3 zh e => hI (z3, zh) e) (fun zh e => hX zh e)
    · generalize r8 = e9 at hm ⊢
      try dsimp only [Sum.elim_inl, Sum.elim_inr] at hm
      try dsimp only [Sum.elim_inl, Sum.elim_inr]
      refine rr_aload_n (q := 54) dX10_add_53 rfl rfl ?_
      refine gf_X10_25 (q := 57) rfl dX10_add_54 rfl ?_
      obtain rfl := Option.some.inj hm
      exact rr_iret dX10_add_57 rfl hp
  · refine rr_bipush (q := 15) (v := -3) dX10_add_13 rfl (by decide) ?_
    obtain rfl := Option.some.inj hm
    exact rr_iret dX10_add_15 rfl hp
theorem cc_X10_add {x : vv_E} {h : vv_H} {v1 : Int64} {o : Int32 × vv_H}  (hm : ff_X10_add h v1 = some o) : vv_C x vv_TC yX10_add mm_X10_add [.ref (vv_ad x 50), .long v1] h (fun v g => v = some (.int o.1) ∧ g = o.2) := vv_entry (by decide +kernel) rfl (Nat.le_of_ble_eq_true rfl) rfl (vt_X10_add  hm ⟨rfl, rfl⟩)
def ff_X10_tokenAt (h : vv_H) (v1 : Int32) : Option (Int32) := (if v1 < 0 then some (0 : Int32) else (if (h.1 50 1) ≤ v1 then some (0 : Int32) else vv_ck v1 241 (some (h.1 52 v1.toNatClampNeg))))
set_option maxHeartbeats 200000 in
theorem vt_X10_tokenAt {x : vv_E} {post : Option Value → vv_H → Prop} {h : vv_H} {v1 : Int32} {o : Int32}  (hm : ff_X10_tokenAt  h v1 = some o) (hp : post (some (.int o)) h) : vv_V x vv_TC mm_X10_tokenAt post 0 [some (.ref (vv_ad x 50)), some (.int v1)] [] h := by
  unfold ff_X10_tokenAt at hm
  refine rr_iload_n (q := 1) dX10_tokenAt_0 rfl rfl ?_
  refine rr_if_lt (q := 4) (tgt := 21) dX10_tokenAt_1 (by decide) rfl hm (fun hm => ?_) (fun hm => ?_)
  · refine rr_iconst (q := 22) (v := 0) dX10_tokenAt_21 rfl (by decide) ?_
    obtain rfl := Option.some.inj hm
    exact rr_iret dX10_tokenAt_22 rfl hp
  · refine rr_iload_n (q := 5) dX10_tokenAt_4 rfl rfl ?_
    refine rr_aload_n (q := 6) dX10_tokenAt_5 rfl rfl ?_
    refine gf_X10_29 (q := 9) rfl dX10_tokenAt_6 rfl ?_
    refine rr_icmp_ge (q := 12) (tgt := 21) dX10_tokenAt_9 (by decide) rfl hm (fun hm => ?_) (fun hm => ?_)
    · refine rr_iconst (q := 22) (v := 0) dX10_tokenAt_21 rfl (by decide) ?_
      obtain rfl := Option.some.inj hm
      exact rr_iret dX10_tokenAt_22 rfl hp
    · refine rr_aload_n (q := 13) dX10_tokenAt_12 rfl rfl ?_
      refine gf_X10_15 (q := 16) rfl dX10_tokenAt_13 rfl ?_
      refine rr_iload_n (q := 17) dX10_tokenAt_16 rfl rfl ?_
      obtain ⟨c1, hm⟩ := vv_ck_of hm
      refine rr_iald (q := 18) ylC_52 ynC_52 c1 dX10_tokenAt_17 rfl ?_
      refine rr_goto (tgt := 22) dX10_tokenAt_18 (by decide) ?_
      obtain rfl := Option.some.inj hm
      exact rr_iret dX10_tokenAt_22 rfl hp
theorem cc_X10_tokenAt {x : vv_E} {h : vv_H} {v1 : Int32} {o : Int32}  (hm : ff_X10_tokenAt h v1 = some o) : vv_C x vv_TC yX10_tokenAt mm_X10_tokenAt [.ref (vv_ad x 50), .int v1] h (fun v g => v = some (.int o) ∧ g = h) := vv_entry (by decide +kernel) rfl (Nat.le_of_ble_eq_true rfl) rfl (vt_X10_tokenAt  hm ⟨rfl, rfl⟩)
def ff_X10_placeAt (h : vv_H) (v1 : Int32) : Option (Int32) := (if v1 < 0 then some (0 : Int32) else (if (h.1 50 1) ≤ v1 then some (0 : Int32) else vv_ck v1 241 (some (h.1 53 v1.toNatClampNeg))))
set_option maxHeartbeats 200000 in
theorem vt_X10_placeAt {x : vv_E} {post : Option Value → vv_H → Prop} {h : vv_H} {v1 : Int32} {o : Int32}  (hm : ff_X10_placeAt  h v1 = some o) (hp : post (some (.int o)) h) : vv_V x vv_TC mm_X10_placeAt post 0 [some (.ref (vv_ad x 50)), some (.int v1)] [] h := by
  unfold ff_X10_placeAt at hm
  refine rr_iload_n (q := 1) dX10_placeAt_0 rfl rfl ?_
  refine rr_if_lt (q := 4) (tgt := 21) dX10_placeAt_1 (by decide) rfl hm (fun hm => ?_) (fun hm => ?_)
  · refine rr_iconst (q := 22) (v := 0) dX10_placeAt_21 rfl (by decide) ?_
    obtain rfl := Option.some.inj hm
    exact rr_iret dX10_placeAt_22 rfl hp
  · refine rr_iload_n (q := 5) dX10_placeAt_4 rfl rfl ?_
    refine rr_aload_n (q := 6) dX10_placeAt_5 rfl rfl ?_
    refine gf_X10_29 (q := 9) rfl dX10_placeAt_6 rfl ?_
    refine rr_icmp_ge (q := 12) (tgt := 21) dX10_placeAt_9 (by decide) rfl hm (fun hm => ?_) (fun hm => ?_)
    · refine rr_iconst (q := 22) (v := 0) dX10_placeAt_21 rfl (by decide) ?_
      obtain rfl := Option.some.inj hm
      exact rr_iret dX10_placeAt_22 rfl hp
    · refine rr_aload_n (q := 13) dX10_placeAt_12 rfl rfl ?_
      refine gf_X10_19 (q := 16) rfl dX10_placeAt_13 rfl ?_
      refine rr_iload_n (q := 17) dX10_placeAt_16 rfl rfl ?_
      obtain ⟨c1, hm⟩ := vv_ck_of hm
      refine rr_iald (q := 18) ylC_53 ynC_53 c1 dX10_placeAt_17 rfl ?_
      refine rr_goto (tgt := 22) dX10_placeAt_18 (by decide) ?_
      obtain rfl := Option.some.inj hm
      exact rr_iret dX10_placeAt_22 rfl hp
theorem cc_X10_placeAt {x : vv_E} {h : vv_H} {v1 : Int32} {o : Int32}  (hm : ff_X10_placeAt h v1 = some o) : vv_C x vv_TC yX10_placeAt mm_X10_placeAt [.ref (vv_ad x 50), .int v1] h (fun v g => v = some (.int o) ∧ g = h) := vv_entry (by decide +kernel) rfl (Nat.le_of_ble_eq_true rfl) rfl (vt_X10_placeAt  hm ⟨rfl, rfl⟩)
def ff_X10_valueAt (h : vv_H) (v1 : Int32) : Option (Int32) := (if v1 < 0 then some (0 : Int32) else (if (h.1 50 1) ≤ v1 then some (0 : Int32) else vv_ck v1 241 (some (h.1 54 v1.toNatClampNeg))))
set_option maxHeartbeats 200000 in
theorem vt_X10_valueAt {x : vv_E} {post : Option Value → vv_H → Prop} {h : vv_H} {v1 : Int32} {o : Int32}  (hm : ff_X10_valueAt  h v1 = some o) (hp : post (some (.int o)) h) : vv_V x vv_TC mm_X10_valueAt post 0 [some (.ref (vv_ad x 50)), some (.int v1)] [] h := by
  unfold ff_X10_valueAt at hm
  refine rr_iload_n (q := 1) dX10_valueAt_0 rfl rfl ?_
  refine rr_if_lt (q := 4) (tgt := 21) dX10_valueAt_1 (by decide) rfl hm (fun hm => ?_) (fun hm => ?_)
  · refine rr_iconst (q := 22) (v := 0) dX10_valueAt_21 rfl (by decide) ?_
    obtain rfl := Option.some.inj hm
    exact rr_iret dX10_valueAt_22 rfl hp
  · refine rr_iload_n (q := 5) dX10_valueAt_4 rfl rfl ?_
    refine rr_aload_n (q := 6) dX10_valueAt_5 rfl rfl ?_
    refine gf_X10_29 (q := 9) rfl dX10_valueAt_6 rfl ?_
    refine rr_icmp_ge (q := 12) (tgt := 21) dX10_valueAt_9 (by decide) rfl hm (fun hm => ?_) (fun hm => ?_)
    · refine rr_iconst (q := 22) (v := 0) dX10_valueAt_21 rfl (by decide) ?_
      obtain rfl := Option.some.inj hm
      exact rr_iret dX10_valueAt_22 rfl hp
    · refine rr_aload_n (q := 13) dX10_valueAt_12 rfl rfl ?_
      refine gf_X10_22 (q := 16) rfl dX10_valueAt_13 rfl ?_
      refine rr_iload_n (q := 17) dX10_valueAt_16 rfl rfl ?_
      obtain ⟨c1, hm⟩ := vv_ck_of hm
      refine rr_iald (q := 18) ylC_54 ynC_54 c1 dX10_valueAt_17 rfl ?_
      refine rr_goto (tgt := 22) dX10_valueAt_18 (by decide) ?_
      obtain rfl := Option.some.inj hm
      exact rr_iret dX10_valueAt_22 rfl hp
theorem cc_X10_valueAt {x : vv_E} {h : vv_H} {v1 : Int32} {o : Int32}  (hm : ff_X10_valueAt h v1 = some o) : vv_C x vv_TC yX10_valueAt mm_X10_valueAt [.ref (vv_ad x 50), .int v1] h (fun v g => v = some (.int o) ∧ g = h) := vv_entry (by decide +kernel) rfl (Nat.le_of_ble_eq_true rfl) rfl (vt_X10_valueAt  hm ⟨rfl, rfl⟩)
def ff_X10_keep (h : vv_H) (v1 : Int32) (v2 : Int32) (v3 : Int32) : Option (vv_H) := (if (Int32.ofNat 241) ≤ (h.1 50 1) then some h else vv_ck (h.1 50 1) 241 (vv_let (vv_iu h 52 (h.1 50 1).toNatClampNeg v1) (fun g2 => vv_ck (g2.1 50 1) 241 (vv_let (vv_iu g2 53 (g2.1 50 1).toNatClampNeg v2) (fun g5 => vv_ck (g5.1 50 1) 241 (vv_let (vv_iu g5 54 (g5.1 50 1).toNatClampNeg v3) (fun g8 => vv_let (vv_iu g8 50 1 ((g8.1 50 1) + (1 : Int32))) (fun g10 => some g10))))))))
set_option maxHeartbeats 200000 in
theorem vt_X10_keep {x : vv_E} {post : Option Value → vv_H → Prop} {h : vv_H} {v1 : Int32} {v2 : Int32} {v3 : Int32} {o : vv_H}  (hm : ff_X10_keep  h v1 v2 v3 = some o) (hp : post none o) : vv_V x vv_TC mm_X10_keep post 0 [some (.ref (vv_ad x 50)), some (.int v1), some (.int v2), some (.int v3)] [] h := by
  unfold ff_X10_keep at hm
  refine rr_aload_n (q := 1) dX10_keep_0 rfl rfl ?_
  refine gf_X10_29 (q := 4) rfl dX10_keep_1 rfl ?_
  refine rr_aload_n (q := 5) dX10_keep_4 rfl rfl ?_
  refine gf_X10_15 (q := 8) rfl dX10_keep_5 rfl ?_
  refine rr_alenP (q := 9) ylC_52 ynC_52 dX10_keep_8 rfl ?_
  refine rr_icmp_ge (q := 12) (tgt := 52) dX10_keep_9 (by decide) rfl hm (fun hm => ?_) (fun hm => ?_)
  · obtain rfl := Option.some.inj hm
    exact rr_vret dX10_keep_52 rfl hp
  · refine rr_aload_n (q := 13) dX10_keep_12 rfl rfl ?_
    refine gf_X10_15 (q := 16) rfl dX10_keep_13 rfl ?_
    refine rr_aload_n (q := 17) dX10_keep_16 rfl rfl ?_
    refine gf_X10_29 (q := 20) rfl dX10_keep_17 rfl ?_
    refine rr_iload_n (q := 21) dX10_keep_20 rfl rfl ?_
    obtain ⟨c1, hm⟩ := vv_ck_of hm
    obtain ⟨g2, c3, hm⟩ := vv_let_of hm
    refine rr_iast (q := 22) ylC_52 ynC_52 c1 dX10_keep_21 rfl ?_
    rw [← c3]
    refine rr_aload_n (q := 23) dX10_keep_22 rfl rfl ?_
    refine gf_X10_19 (q := 26) rfl dX10_keep_23 rfl ?_
    refine rr_aload_n (q := 27) dX10_keep_26 rfl rfl ?_
    refine gf_X10_29 (q := 30) rfl dX10_keep_27 rfl ?_
    refine rr_iload_n (q := 31) dX10_keep_30 rfl rfl ?_
    obtain ⟨c4, hm⟩ := vv_ck_of hm
    obtain ⟨g5, c6, hm⟩ := vv_let_of hm
    refine rr_iast (q := 32) ylC_53 ynC_53 c4 dX10_keep_31 rfl ?_
    rw [← c6]
    refine rr_aload_n (q := 33) dX10_keep_32 rfl rfl ?_
    refine gf_X10_22 (q := 36) rfl dX10_keep_33 rfl ?_
    refine rr_aload_n (q := 37) dX10_keep_36 rfl rfl ?_
    refine gf_X10_29 (q := 40) rfl dX10_keep_37 rfl ?_
    refine rr_iload_n (q := 41) dX10_keep_40 rfl rfl ?_
    obtain ⟨c7, hm⟩ := vv_ck_of hm
    obtain ⟨g8, c9, hm⟩ := vv_let_of hm
    refine rr_iast (q := 42) ylC_54 ynC_54 c7 dX10_keep_41 rfl ?_
    rw [← c9]
    refine rr_aload_n (q := 43) dX10_keep_42 rfl rfl ?_
    refine rr_dup (q := 44) dX10_keep_43 rfl rfl ?_
    refine gf_X10_29 (q := 47) rfl dX10_keep_44 rfl ?_
    refine rr_iconst (q := 48) (v := 1) dX10_keep_47 rfl (by decide) ?_
    refine rr_iadd (q := 49) dX10_keep_48 rfl ?_
    refine pf_X10_29 (q := 52) rfl dX10_keep_49 rfl (fun g10 c11 => ?_)
    replace hm := vv_letE hm c11
    obtain rfl := Option.some.inj hm
    exact rr_vret dX10_keep_52 rfl hp
theorem cc_X10_keep {x : vv_E} {h : vv_H} {v1 : Int32} {v2 : Int32} {v3 : Int32} {o : vv_H}  (hm : ff_X10_keep h v1 v2 v3 = some o) : vv_C x vv_TC yX10_keep mm_X10_keep [.ref (vv_ad x 50), .int v1, .int v2, .int v3] h (fun v g => v = none ∧ g = o) := vv_entry (by decide +kernel) rfl (Nat.le_of_ble_eq_true rfl) rfl (vt_X10_keep  hm ⟨rfl, rfl⟩)
def ff_X10_numberIn_B5 (u2 : Int32) (h : vv_H) (s3 : Int32) (s4 : Int32) : Option ((Int32 × Int32) ⊕ ((Int32))) := (if u2 ≤ s4 then some (.inr s3) else vv_ck s4 240 (vv_let ((((10 : Int32) * s3) + (h.1 51 s4.toNatClampNeg)) - (48 : Int32)) (fun w2 => vv_let (s4 + 1) (fun w4 => some (.inl (w2, w4))))))
def ff_X10_numberIn (h : vv_H) (v1 : Int32) (v2 : Int32) : Option (Int32) := (vv_lp (fun (zs : Int32 × Int32) => ff_X10_numberIn_B5  v2 h zs.1 zs.2) vv_F ((0 : Int32), v1)).bind (fun (e7 : (Int32)) => some e7)
set_option maxHeartbeats 200000 in
theorem vt_X10_numberIn_B5 {x : vv_E} {post : Option Value → vv_H → Prop} {u2 : Int32} {h : vv_H} {s3 : Int32} {s4 : Int32} {o : (Int32 × Int32) ⊕ ((Int32))}  (hm : ff_X10_numberIn_B5  u2 h s3 s4 = some o) (hI : ∀ (z3 : Int32) (z4 : Int32) , o = .inl (z3, z4) → vv_V x vv_TC mm_X10_numberIn post 5 [some (.ref (vv_ad x 50)), none, some (.int u2), some (.int z3), some (.int z4)] [] h) (hX0 : ∀ (z3 : Int32), o = .inr z3 → vv_V x vv_TC mm_X10_numberIn post 33 [none, none, none, some (.int z3), none] [] h) : vv_V x vv_TC mm_X10_numberIn post 5 [some (.ref (vv_ad x 50)), none, some (.int u2), some (.int s3), some (.int s4)] [] h := by
  unfold ff_X10_numberIn_B5 at hm
  refine rr_iload (q := 7) dX10_numberIn_5 rfl rfl ?_
  refine rr_iload_n (q := 8) dX10_numberIn_7 rfl rfl ?_
  refine rr_icmp_ge (q := 11) (tgt := 33) dX10_numberIn_8 (by decide) rfl hm (fun hm => ?_) (fun hm => ?_)
  · obtain rfl := Option.some.inj hm
    refine rr_sub [false, false, false, true, false] rfl ?_
    exact hX0 s3 rfl
  · refine rr_bipush (q := 13) (v := 10) dX10_numberIn_11 rfl (by decide) ?_
    refine rr_iload_n (q := 14) dX10_numberIn_13 rfl rfl ?_
    refine rr_imul (q := 15) dX10_numberIn_14 rfl ?_
    refine rr_aload_n (q := 16) dX10_numberIn_15 rfl rfl ?_
    refine gf_X10_9 (q := 19) rfl dX10_numberIn_16 rfl ?_
    refine rr_iload (q := 21) dX10_numberIn_19 rfl rfl ?_
    obtain ⟨c1, hm⟩ := vv_ck_of hm
    refine rr_bald (q := 22) ylC_51 ynC_51 c1 dX10_numberIn_21 rfl ?_
    refine rr_iadd (q := 23) dX10_numberIn_22 rfl ?_
    refine rr_bipush (q := 25) (v := 48) dX10_numberIn_23 rfl (by decide) ?_
    refine rr_isub (q := 26) dX10_numberIn_25 rfl ?_
    obtain ⟨w2, c3, hm⟩ := vv_let_of hm
    rw [← c3]
    refine rr_istore_n (q := 27) [some (.ref (vv_ad x 50)), none, some (.int u2), some (.int w2), some (.int s4)] dX10_numberIn_26 rfl rfl (Nat.le_of_ble_eq_true rfl) rfl rfl ?_
    obtain ⟨w4, c5, hm⟩ := vv_let_of hm
    refine rr_iinc (q := 30) [some (.ref (vv_ad x 50)), none, some (.int u2), some (.int w2), some (.int w4)] dX10_numberIn_27 rfl rfl c5.symm (Nat.le_of_ble_eq_true rfl) rfl rfl ?_
    refine rr_goto (tgt := 5) dX10_numberIn_30 (by decide) ?_
    obtain rfl := Option.some.inj hm
    exact hI w2 w4 rfl
set_option maxHeartbeats 200000 in
theorem vt_X10_numberIn {x : vv_E} {post : Option Value → vv_H → Prop} {h : vv_H} {v1 : Int32} {v2 : Int32} {o : Int32}  (hm : ff_X10_numberIn  h v1 v2 = some o) (hp : post (some (.int o)) h) : vv_V x vv_TC mm_X10_numberIn post 0 [some (.ref (vv_ad x 50)), some (.int v1), some (.int v2), none, none] [] h := by
  unfold ff_X10_numberIn at hm
  refine rr_iconst (q := 1) (v := 0) dX10_numberIn_0 rfl (by decide) ?_
  refine rr_istore_n (q := 2) [some (.ref (vv_ad x 50)), some (.int v1), some (.int v2), some (.int (0 : Int32)), none] dX10_numberIn_1 rfl rfl (Nat.le_of_ble_eq_true rfl) rfl rfl ?_
  refine rr_iload_n (q := 3) dX10_numberIn_2 rfl rfl ?_
  refine rr_istore (q := 5) [some (.ref (vv_ad x 50)), some (.int v1), some (.int v2), some (.int (0 : Int32)), some (.int v1)] dX10_numberIn_3 rfl (Nat.le_of_ble_eq_true rfl) rfl rfl ?_
  refine rr_sub [true, false, true, true, true] rfl ?_
  obtain ⟨r6, k8, hm⟩ := vv_bind hm
  refine vv_lp_link (P := fun (zs : Int32 × Int32) => vv_V x vv_TC mm_X10_numberIn post 5 [some (.ref (vv_ad x 50)), none, some (.int v2), some (.int zs.1), some (.int zs.2)] [] h) (Q := (fun (e7 : (Int32)) => vv_V x vv_TC mm_X10_numberIn post 33 [none, none, none, some (.int e7), none] [] h)) (fun zs o hm hI hX => ?_) vv_F ((0 : Int32), v1) r6 k8 ?_
  · exact vt_X10_numberIn_B5   hm (fun z3 z4 e => hI (z3, z4) e) (fun z3 e => hX z3 e)
  · generalize r6 = e7 at hm ⊢
    try dsimp only [Sum.elim_inl, Sum.elim_inr] at hm
    try dsimp only [Sum.elim_inl, Sum.elim_inr]
    refine rr_iload_n (q := 34) dX10_numberIn_33 rfl rfl ?_
    obtain rfl := Option.some.inj hm
    exact rr_iret dX10_numberIn_34 rfl hp
theorem cc_X10_numberIn {x : vv_E} {h : vv_H} {v1 : Int32} {v2 : Int32} {o : Int32}  (hm : ff_X10_numberIn h v1 v2 = some o) : vv_C x vv_TC yX10_numberIn mm_X10_numberIn [.ref (vv_ad x 50), .int v1, .int v2] h (fun v g => v = some (.int o) ∧ g = h) := vv_entry (by decide +kernel) rfl (Nat.le_of_ble_eq_true rfl) rfl (vt_X10_numberIn  hm ⟨rfl, rfl⟩)
def ff_X10_isLetter (v0 : Int32) : Option (Int32) := (if v0 < (97 : Int32) then some (0 : Int32) else (if (122 : Int32) < v0 then some (0 : Int32) else some (1 : Int32)))
set_option maxHeartbeats 200000 in
theorem vt_X10_isLetter {x : vv_E} {post : Option Value → vv_H → Prop} {v0 : Int32} {h : vv_H} {o : Int32}  (hm : ff_X10_isLetter  v0 = some o) (hp : post (some (.int o)) h) : vv_V x vv_TC mm_X10_isLetter post 0 [some (.int v0)] [] h := by
  unfold ff_X10_isLetter at hm
  refine rr_iload_n (q := 1) dX10_isLetter_0 rfl rfl ?_
  refine rr_bipush (q := 3) (v := 97) dX10_isLetter_1 rfl (by decide) ?_
  refine rr_icmp_lt (q := 6) (tgt := 16) dX10_isLetter_3 (by decide) rfl hm (fun hm => ?_) (fun hm => ?_)
  · refine rr_iconst (q := 17) (v := 0) dX10_isLetter_16 rfl (by decide) ?_
    obtain rfl := Option.some.inj hm
    exact rr_zret dX10_isLetter_17 rfl rfl hp
  · refine rr_iload_n (q := 7) dX10_isLetter_6 rfl rfl ?_
    refine rr_bipush (q := 9) (v := 122) dX10_isLetter_7 rfl (by decide) ?_
    refine rr_icmp_gt (q := 12) (tgt := 16) dX10_isLetter_9 (by decide) rfl hm (fun hm => ?_) (fun hm => ?_)
    · refine rr_iconst (q := 17) (v := 0) dX10_isLetter_16 rfl (by decide) ?_
      obtain rfl := Option.some.inj hm
      exact rr_zret dX10_isLetter_17 rfl rfl hp
    · refine rr_iconst (q := 13) (v := 1) dX10_isLetter_12 rfl (by decide) ?_
      refine rr_goto (tgt := 17) dX10_isLetter_13 (by decide) ?_
      obtain rfl := Option.some.inj hm
      exact rr_zret dX10_isLetter_17 rfl rfl hp
theorem cc_X10_isLetter {x : vv_E} {v0 : Int32} {h : vv_H} {o : Int32}  (hm : ff_X10_isLetter v0 = some o) : vv_C x vv_TC yX10_isLetter mm_X10_isLetter [.int v0] h (fun v g => v = some (.int o) ∧ g = h) := vv_entry (by decide +kernel) rfl (Nat.le_of_ble_eq_true rfl) rfl (vt_X10_isLetter  hm ⟨rfl, rfl⟩)
def ff_X10_isFigure (v0 : Int32) : Option (Int32) := (if v0 < (48 : Int32) then some (0 : Int32) else (if (57 : Int32) < v0 then some (0 : Int32) else some (1 : Int32)))
set_option maxHeartbeats 200000 in
theorem vt_X10_isFigure {x : vv_E} {post : Option Value → vv_H → Prop} {v0 : Int32} {h : vv_H} {o : Int32}  (hm : ff_X10_isFigure  v0 = some o) (hp : post (some (.int o)) h) : vv_V x vv_TC mm_X10_isFigure post 0 [some (.int v0)] [] h := by
  unfold ff_X10_isFigure at hm
  refine rr_iload_n (q := 1) dX10_isFigure_0 rfl rfl ?_
  refine rr_bipush (q := 3) (v := 48) dX10_isFigure_1 rfl (by decide) ?_
  refine rr_icmp_lt (q := 6) (tgt := 16) dX10_isFigure_3 (by decide) rfl hm (fun hm => ?_) (fun hm => ?_)
  · refine rr_iconst (q := 17) (v := 0) dX10_isFigure_16 rfl (by decide) ?_
    obtain rfl := Option.some.inj hm
    exact rr_zret dX10_isFigure_17 rfl rfl hp
  · refine rr_iload_n (q := 7) dX10_isFigure_6 rfl rfl ?_
    refine rr_bipush (q := 9) (v := 57) dX10_isFigure_7 rfl (by decide) ?_
    refine rr_icmp_gt (q := 12) (tgt := 16) dX10_isFigure_9 (by decide) rfl hm (fun hm => ?_) (fun hm => ?_)
    · refine rr_iconst (q := 17) (v := 0) dX10_isFigure_16 rfl (by decide) ?_
      obtain rfl := Option.some.inj hm
      exact rr_zret dX10_isFigure_17 rfl rfl hp
    · refine rr_iconst (q := 13) (v := 1) dX10_isFigure_12 rfl (by decide) ?_
      refine rr_goto (tgt := 17) dX10_isFigure_13 (by decide) ?_
      obtain rfl := Option.some.inj hm
      exact rr_zret dX10_isFigure_17 rfl rfl hp
theorem cc_X10_isFigure {x : vv_E} {v0 : Int32} {h : vv_H} {o : Int32}  (hm : ff_X10_isFigure v0 = some o) : vv_C x vv_TC yX10_isFigure mm_X10_isFigure [.int v0] h (fun v g => v = some (.int o) ∧ g = h) := vv_entry (by decide +kernel) rfl (Nat.le_of_ble_eq_true rfl) rfl (vt_X10_isFigure  hm ⟨rfl, rfl⟩)
def ff_X11_fault (h : vv_H) : Option (Int32) := some (h.1 0 1)
set_option maxHeartbeats 200000 in
theorem vt_X11_fault {x : vv_E} {post : Option Value → vv_H → Prop} {h : vv_H} {o : Int32}  (hm : ff_X11_fault  h = some o) (hp : post (some (.int o)) h) : vv_V x vv_TC mm_X11_fault post 0 [some (.ref (vv_ad x 0))] [] h := by
  unfold ff_X11_fault at hm
  refine rr_aload_n (q := 1) dX11_fault_0 rfl rfl ?_
  refine gf_X11_216 (q := 4) rfl dX11_fault_1 rfl ?_
  obtain rfl := Option.some.inj hm
  exact rr_iret dX11_fault_4 rfl hp
theorem cc_X11_fault {x : vv_E} {h : vv_H} {o : Int32}  (hm : ff_X11_fault h = some o) : vv_C x vv_TC yX11_fault mm_X11_fault [.ref (vv_ad x 0)] h (fun v g => v = some (.int o) ∧ g = h) := vv_entry (by decide +kernel) rfl (Nat.le_of_ble_eq_true rfl) rfl (vt_X11_fault  hm ⟨rfl, rfl⟩)
def ff_X11_isWithin (v0 : Int32) (v1 : Int32) (v2 : Int32) : Option (Int32) := (if v0 < v1 then some (0 : Int32) else (if v2 < v0 then some (0 : Int32) else some (1 : Int32)))
set_option maxHeartbeats 200000 in
theorem vt_X11_isWithin {x : vv_E} {post : Option Value → vv_H → Prop} {v0 : Int32} {v1 : Int32} {v2 : Int32} {h : vv_H} {o : Int32}  (hm : ff_X11_isWithin  v0 v1 v2 = some o) (hp : post (some (.int o)) h) : vv_V x vv_TC mm_X11_isWithin post 0 [some (.int v0), some (.int v1), some (.int v2)] [] h := by
  unfold ff_X11_isWithin at hm
  refine rr_iload_n (q := 1) dX11_isWithin_0 rfl rfl ?_
  refine rr_iload_n (q := 2) dX11_isWithin_1 rfl rfl ?_
  refine rr_icmp_lt (q := 5) (tgt := 14) dX11_isWithin_2 (by decide) rfl hm (fun hm => ?_) (fun hm => ?_)
  · refine rr_iconst (q := 15) (v := 0) dX11_isWithin_14 rfl (by decide) ?_
    obtain rfl := Option.some.inj hm
    exact rr_zret dX11_isWithin_15 rfl rfl hp
  · refine rr_iload_n (q := 6) dX11_isWithin_5 rfl rfl ?_
    refine rr_iload_n (q := 7) dX11_isWithin_6 rfl rfl ?_
    refine rr_icmp_gt (q := 10) (tgt := 14) dX11_isWithin_7 (by decide) rfl hm (fun hm => ?_) (fun hm => ?_)
    · refine rr_iconst (q := 15) (v := 0) dX11_isWithin_14 rfl (by decide) ?_
      obtain rfl := Option.some.inj hm
      exact rr_zret dX11_isWithin_15 rfl rfl hp
    · refine rr_iconst (q := 11) (v := 1) dX11_isWithin_10 rfl (by decide) ?_
      refine rr_goto (tgt := 15) dX11_isWithin_11 (by decide) ?_
      obtain rfl := Option.some.inj hm
      exact rr_zret dX11_isWithin_15 rfl rfl hp
theorem cc_X11_isWithin {x : vv_E} {v0 : Int32} {v1 : Int32} {v2 : Int32} {h : vv_H} {o : Int32}  (hm : ff_X11_isWithin v0 v1 v2 = some o) : vv_C x vv_TC yX11_isWithin mm_X11_isWithin [.int v0, .int v1, .int v2] h (fun v g => v = some (.int o) ∧ g = h) := vv_entry (by decide +kernel) rfl (Nat.le_of_ble_eq_true rfl) rfl (vt_X11_isWithin  hm ⟨rfl, rfl⟩)
def ff_X11_kindOf (h : vv_H) (v1 : Int32) : Option (Int32) := vv_ck v1 36 (vv_ck (h.1 157 v1.toNatClampNeg) 12 (some (h.1 23 (h.1 157 v1.toNatClampNeg).toNatClampNeg)))
set_option maxHeartbeats 200000 in
theorem vt_X11_kindOf {x : vv_E} {post : Option Value → vv_H → Prop} {h : vv_H} {v1 : Int32} {o : Int32}  (hm : ff_X11_kindOf  h v1 = some o) (hp : post (some (.int o)) h) : vv_V x vv_TC mm_X11_kindOf post 0 [some (.ref (vv_ad x 0)), some (.int v1)] [] h := by
  unfold ff_X11_kindOf at hm
  refine rr_aload_n (q := 1) dX11_kindOf_0 rfl rfl ?_
  refine gf_X11_26 (q := 4) rfl dX11_kindOf_1 rfl ?_
  refine gf_X11_412 (q := 7) rfl dX11_kindOf_4 rfl ?_
  refine rr_aload_n (q := 8) dX11_kindOf_7 rfl rfl ?_
  refine gf_X11_64 (q := 11) rfl dX11_kindOf_8 rfl ?_
  refine gf_X11_247 (q := 14) rfl dX11_kindOf_11 rfl ?_
  refine rr_iload_n (q := 15) dX11_kindOf_14 rfl rfl ?_
  obtain ⟨c1, hm⟩ := vv_ck_of hm
  refine rr_iald (q := 16) ylC_157 ynC_157 c1 dX11_kindOf_15 rfl ?_
  obtain ⟨c2, hm⟩ := vv_ck_of hm
  refine rr_iald (q := 17) ylC_23 ynC_23 c2 dX11_kindOf_16 rfl ?_
  obtain rfl := Option.some.inj hm
  exact rr_iret dX11_kindOf_17 rfl hp
theorem cc_X11_kindOf {x : vv_E} {h : vv_H} {v1 : Int32} {o : Int32}  (hm : ff_X11_kindOf h v1 = some o) : vv_C x vv_TC yX11_kindOf mm_X11_kindOf [.ref (vv_ad x 0), .int v1] h (fun v g => v = some (.int o) ∧ g = h) := vv_entry (by decide +kernel) rfl (Nat.le_of_ble_eq_true rfl) rfl (vt_X11_kindOf  hm ⟨rfl, rfl⟩)
def ff_X11_waysToDraw_B16 (u0 : Int32) (u1 : Int32) (s2 : Int64) (s4 : Int32) : Option ((Int64 × Int32) ⊕ ((Int64))) := (if u1 < s4 then some (.inr s2) else vv_nzl s4.toInt64 (vv_let ((s2 * (((u0 - u1) + s4).toInt64)) / s4.toInt64) (fun w2 => vv_let (s4 + 1) (fun w4 => some (.inl (w2, w4))))))
def ff_X11_waysToDraw (v0 : Int32) (v1 : Int32) : Option (Int64) := (if v1 < 0 then some (0 : Int64) else (if v1 ≤ v0 then (vv_lp (fun (zs : Int64 × Int32) => ff_X11_waysToDraw_B16  v0 v1 zs.1 zs.2) vv_F ((1 : Int64), (1 : Int32))).bind (fun (e7 : (Int64)) => some e7) else some (0 : Int64)))
set_option maxHeartbeats 200000 in
theorem vt_X11_waysToDraw_B16 {x : vv_E} {post : Option Value → vv_H → Prop} {u0 : Int32} {u1 : Int32} {s2 : Int64} {s4 : Int32} {h : vv_H} {o : (Int64 × Int32) ⊕ ((Int64))}  (hm : ff_X11_waysToDraw_B16  u0 u1 s2 s4 = some o) (hI : ∀ (z2 : Int64) (z4 : Int32) , o = .inl (z2, z4) → vv_V x vv_TC mm_X11_waysToDraw post 16 [some (.int u0), some (.int u1), some (.long z2), none, some (.int z4)] [] h) (hX0 : ∀ (z2 : Int64), o = .inr z2 → vv_V x vv_TC mm_X11_waysToDraw post 42 [none, none, some (.long z2), none, none] [] h) : vv_V x vv_TC mm_X11_waysToDraw post 16 [some (.int u0), some (.int u1), some (.long s2), none, some (.int s4)] [] h := by
  unfold ff_X11_waysToDraw_B16 at hm
  refine rr_iload (q := 18) dX11_waysToDraw_16 rfl rfl ?_
  refine rr_iload_n (q := 19) dX11_waysToDraw_18 rfl rfl ?_
  refine rr_icmp_gt (q := 22) (tgt := 42) dX11_waysToDraw_19 (by decide) rfl hm (fun hm => ?_) (fun hm => ?_)
  · obtain rfl := Option.some.inj hm
    refine rr_sub [false, false, true, false, false] rfl ?_
    exact hX0 s2 rfl
  · refine rr_lload_n (q := 23) dX11_waysToDraw_22 rfl rfl ?_
    refine rr_iload_n (q := 24) dX11_waysToDraw_23 rfl rfl ?_
    refine rr_iload_n (q := 25) dX11_waysToDraw_24 rfl rfl ?_
    refine rr_isub (q := 26) dX11_waysToDraw_25 rfl ?_
    refine rr_iload (q := 28) dX11_waysToDraw_26 rfl rfl ?_
    refine rr_iadd (q := 29) dX11_waysToDraw_28 rfl ?_
    refine rr_i2l (q := 30) dX11_waysToDraw_29 rfl ?_
    refine rr_lmul (q := 31) dX11_waysToDraw_30 rfl ?_
    refine rr_iload (q := 33) dX11_waysToDraw_31 rfl rfl ?_
    refine rr_i2l (q := 34) dX11_waysToDraw_33 rfl ?_
    obtain ⟨c1, hm⟩ := vv_nzl_of hm
    refine rr_ldiv (q := 35) dX11_waysToDraw_34 rfl c1 ?_
    obtain ⟨w2, c3, hm⟩ := vv_let_of hm
    rw [← c3]
    refine rr_lstore_n (q := 36) [some (.int u0), some (.int u1), some (.long w2), none, some (.int s4)] dX11_waysToDraw_35 rfl rfl (Nat.le_of_ble_eq_true rfl) rfl rfl ?_
    obtain ⟨w4, c5, hm⟩ := vv_let_of hm
    refine rr_iinc (q := 39) [some (.int u0), some (.int u1), some (.long w2), none, some (.int w4)] dX11_waysToDraw_36 rfl rfl c5.symm (Nat.le_of_ble_eq_true rfl) rfl rfl ?_
    refine rr_goto (tgt := 16) dX11_waysToDraw_39 (by decide) ?_
    obtain rfl := Option.some.inj hm
    exact hI w2 w4 rfl
set_option maxHeartbeats 200000 in
theorem vt_X11_waysToDraw {x : vv_E} {post : Option Value → vv_H → Prop} {v0 : Int32} {v1 : Int32} {h : vv_H} {o : Int64}  (hm : ff_X11_waysToDraw  v0 v1 = some o) (hp : post (some (.long o)) h) : vv_V x vv_TC mm_X11_waysToDraw post 0 [some (.int v0), some (.int v1), none, none, none] [] h := by
  unfold ff_X11_waysToDraw at hm
  refine rr_iload_n (q := 1) dX11_waysToDraw_0 rfl rfl ?_
  refine rr_if_lt (q := 4) (tgt := 9) dX11_waysToDraw_1 (by decide) rfl hm (fun hm => ?_) (fun hm => ?_)
  · refine rr_lconst (q := 10) (v := 0) dX11_waysToDraw_9 rfl (by decide) ?_
    obtain rfl := Option.some.inj hm
    exact rr_lret dX11_waysToDraw_10 rfl hp
  · refine rr_iload_n (q := 5) dX11_waysToDraw_4 rfl rfl ?_
    refine rr_iload_n (q := 6) dX11_waysToDraw_5 rfl rfl ?_
    refine rr_icmp_le (q := 9) (tgt := 11) dX11_waysToDraw_6 (by decide) rfl hm (fun hm => ?_) (fun hm => ?_)
    · refine rr_lconst (q := 12) (v := 1) dX11_waysToDraw_11 rfl (by decide) ?_
      refine rr_lstore_n (q := 13) [some (.int v0), some (.int v1), some (.long (1 : Int64)), none, none] dX11_waysToDraw_12 rfl rfl (Nat.le_of_ble_eq_true rfl) rfl rfl ?_
      refine rr_iconst (q := 14) (v := 1) dX11_waysToDraw_13 rfl (by decide) ?_
      refine rr_istore (q := 16) [some (.int v0), some (.int v1), some (.long (1 : Int64)), none, some (.int (1 : Int32))] dX11_waysToDraw_14 rfl (Nat.le_of_ble_eq_true rfl) rfl rfl ?_
      obtain ⟨r6, k8, hm⟩ := vv_bind hm
      refine vv_lp_link (P := fun (zs : Int64 × Int32) => vv_V x vv_TC mm_X11_waysToDraw post 16 [some (.int v0), some (.int v1), some (.long zs.1), none, some (.int zs.2)] [] h) (Q := (fun (e7 : (Int64)) => vv_V x vv_TC mm_X11_waysToDraw post 42 [none, none, some (.long e7), none, none] [] h)) (fun zs o hm hI hX => ?_) vv_F ((1 : Int64), (1 : Int32)) r6 k8 ?_
      · exact vt_X11_waysToDraw_B16   hm (fun z2 z4 e => hI (z2, z4) e) (fun z2 e => hX z2 e)
      · generalize r6 = e7 at hm ⊢
        try dsimp only [Sum.elim_inl, Sum.elim_inr] at hm
        try dsimp only [Sum.elim_inl, Sum.elim_inr]
        refine rr_lload_n (q := 43) dX11_waysToDraw_42 rfl rfl ?_
        obtain rfl := Option.some.inj hm
        exact rr_lret dX11_waysToDraw_43 rfl hp
    · refine rr_lconst (q := 10) (v := 0) dX11_waysToDraw_9 rfl (by decide) ?_
      obtain rfl := Option.some.inj hm
      exact rr_lret dX11_waysToDraw_10 rfl hp
theorem cc_X11_waysToDraw {x : vv_E} {v0 : Int32} {v1 : Int32} {h : vv_H} {o : Int64}  (hm : ff_X11_waysToDraw v0 v1 = some o) : vv_C x vv_TC yX11_waysToDraw mm_X11_waysToDraw [.int v0, .int v1] h (fun v g => v = some (.long o) ∧ g = h) := vv_entry (by decide +kernel) rfl (Nat.le_of_ble_eq_true rfl) rfl (vt_X11_waysToDraw  hm ⟨rfl, rfl⟩)
def ff_X11_commonDivisor_B9  (s4 : Int64) (s6 : Int64) (s8 : Int32) : Option ((Int64 × Int64 × Int32) ⊕ ((Int64))) := (if (200 : Int32) ≤ s8 then some (.inr s4) else (if (lg_cmp s6 (0 : Int64)) = 0 then some (.inr s4) else vv_nzl s6 (vv_let (s4 - s4 / s6 * s6) (fun w2 => vv_let (s8 + 1) (fun w4 => some (.inl (s6, w2, w4)))))))
def ff_X11_commonDivisor (v0 : Int64) (v2 : Int64) : Option (Int64) := (vv_lp (fun (zs : Int64 × Int64 × Int32) => ff_X11_commonDivisor_B9   zs.1 zs.2.1 zs.2.2) vv_F (v0, v2, (0 : Int32))).bind (fun (e7 : (Int64)) => some e7)
set_option maxHeartbeats 200000 in
theorem vt_X11_commonDivisor_B9 {x : vv_E} {post : Option Value → vv_H → Prop}  {s4 : Int64} {s6 : Int64} {s8 : Int32} {h : vv_H} {o : (Int64 × Int64 × Int32) ⊕ ((Int64))}  (hm : ff_X11_commonDivisor_B9   s4 s6 s8 = some o) (hI : ∀ (z4 : Int64) (z6 : Int64) (z8 : Int32) , o = .inl (z4, z6, z8) → vv_V x vv_TC mm_X11_commonDivisor post 9 [none, none, none, none, some (.long z4), none, some (.long z6), none, some (.int z8), none, none] [] h) (hX0 : ∀ (z4 : Int64), o = .inr z4 → vv_V x vv_TC mm_X11_commonDivisor post 45 [none, none, none, none, some (.long z4), none, none, none, none, none, none] [] h) : vv_V x vv_TC mm_X11_commonDivisor post 9 [none, none, none, none, some (.long s4), none, some (.long s6), none, some (.int s8), none, none] [] h := by
  unfold ff_X11_commonDivisor_B9 at hm
  refine rr_iload (q := 11) dX11_commonDivisor_9 rfl rfl ?_
  refine rr_sipush (q := 14) (v := 200) dX11_commonDivisor_11 rfl (by decide) ?_
  refine rr_icmp_ge (q := 17) (tgt := 45) dX11_commonDivisor_14 (by decide) rfl hm (fun hm => ?_) (fun hm => ?_)
  · obtain rfl := Option.some.inj hm
    refine rr_sub [false, false, false, false, true, false, false, false, false, false, false] rfl ?_
    exact hX0 s4 rfl
  · refine rr_lload (q := 19) dX11_commonDivisor_17 rfl rfl ?_
    refine rr_lconst (q := 20) (v := 0) dX11_commonDivisor_19 rfl (by decide) ?_
    refine rr_lcmp (q := 21) dX11_commonDivisor_20 rfl ?_
    refine rr_if_eq (q := 24) (tgt := 45) dX11_commonDivisor_21 (by decide) rfl hm (fun hm => ?_) (fun hm => ?_)
    · obtain rfl := Option.some.inj hm
      refine rr_sub [false, false, false, false, true, false, false, false, false, false, false] rfl ?_
      exact hX0 s4 rfl
    · refine rr_lload (q := 26) dX11_commonDivisor_24 rfl rfl ?_
      refine rr_lload (q := 28) dX11_commonDivisor_26 rfl rfl ?_
      obtain ⟨c1, hm⟩ := vv_nzl_of hm
      refine rr_lrem (q := 29) dX11_commonDivisor_28 rfl c1 ?_
      obtain ⟨w2, c3, hm⟩ := vv_let_of hm
      rw [← c3]
      refine rr_lstore (q := 31) [none, none, none, none, some (.long s4), none, some (.long s6), none, some (.int s8), some (.long w2), none] dX11_commonDivisor_29 rfl (Nat.le_of_ble_eq_true rfl) rfl rfl ?_
      refine rr_lload (q := 33) dX11_commonDivisor_31 rfl rfl ?_
      refine rr_lstore (q := 35) [none, none, none, none, some (.long s6), none, some (.long s6), none, some (.int s8), some (.long w2), none] dX11_commonDivisor_33 rfl (Nat.le_of_ble_eq_true rfl) rfl rfl ?_
      refine rr_lload (q := 37) dX11_commonDivisor_35 rfl rfl ?_
      refine rr_lstore (q := 39) [none, none, none, none, some (.long s6), none, some (.long w2), none, some (.int s8), some (.long w2), none] dX11_commonDivisor_37 rfl (Nat.le_of_ble_eq_true rfl) rfl rfl ?_
      obtain ⟨w4, c5, hm⟩ := vv_let_of hm
      refine rr_iinc (q := 42) [none, none, none, none, some (.long s6), none, some (.long w2), none, some (.int w4), some (.long w2), none] dX11_commonDivisor_39 rfl rfl c5.symm (Nat.le_of_ble_eq_true rfl) rfl rfl ?_
      refine rr_goto (tgt := 9) dX11_commonDivisor_42 (by decide) ?_
      obtain rfl := Option.some.inj hm
      refine rr_sub [false, false, false, false, true, false, true, false, true, false, false] rfl ?_
      exact hI s6 w2 w4 rfl
set_option maxHeartbeats 200000 in
theorem vt_X11_commonDivisor {x : vv_E} {post : Option Value → vv_H → Prop} {v0 : Int64} {v2 : Int64} {h : vv_H} {o : Int64}  (hm : ff_X11_commonDivisor  v0 v2 = some o) (hp : post (some (.long o)) h) : vv_V x vv_TC mm_X11_commonDivisor post 0 [some (.long v0), none, some (.long v2), none, none, none, none, none, none, none, none] [] h := by
  unfold ff_X11_commonDivisor at hm
  refine rr_lload_n (q := 1) dX11_commonDivisor_0 rfl rfl ?_
  refine rr_lstore (q := 3) [some (.long v0), none, some (.long v2), none, some (.long v0), none, none, none, none, none, none] dX11_commonDivisor_1 rfl (Nat.le_of_ble_eq_true rfl) rfl rfl ?_
  refine rr_lload_n (q := 4) dX11_commonDivisor_3 rfl rfl ?_
  refine rr_lstore (q := 6) [some (.long v0), none, some (.long v2), none, some (.long v0), none, some (.long v2), none, none, none, none] dX11_commonDivisor_4 rfl (Nat.le_of_ble_eq_true rfl) rfl rfl ?_
  refine rr_iconst (q := 7) (v := 0) dX11_commonDivisor_6 rfl (by decide) ?_
  refine rr_istore (q := 9) [some (.long v0), none, some (.long v2), none, some (.long v0), none, some (.long v2), none, some (.int (0 : Int32)), none, none] dX11_commonDivisor_7 rfl (Nat.le_of_ble_eq_true rfl) rfl rfl ?_
  refine rr_sub [false, false, false, false, true, false, true, false, true, false, false] rfl ?_
  obtain ⟨r6, k8, hm⟩ := vv_bind hm
  refine vv_lp_link (P := fun (zs : Int64 × Int64 × Int32) => vv_V x vv_TC mm_X11_commonDivisor post 9 [none, none, none, none, some (.long zs.1), none, some (.long zs.2.1), none, some (.int zs.2.2), none, none] [] h) (Q := (fun (e7 : (Int64)) => vv_V x vv_TC mm_X11_commonDivisor post 45 [none, none, none, none, some (.long e7), none, none, none, none, none, none] [] h)) (fun zs o hm hI hX => ?_) vv_F (v0, v2, (0 : Int32)) r6 k8 ?_
  · exact vt_X11_commonDivisor_B9   hm (fun z4 z6 z8 e => hI (z4, z6, z8) e) (fun z4 e => hX z4 e)
  · generalize r6 = e7 at hm ⊢
    try dsimp only [Sum.elim_inl, Sum.elim_inr] at hm
    try dsimp only [Sum.elim_inl, Sum.elim_inr]
    refine rr_lload (q := 47) dX11_commonDivisor_45 rfl rfl ?_
    obtain rfl := Option.some.inj hm
    exact rr_lret dX11_commonDivisor_47 rfl hp
theorem cc_X11_commonDivisor {x : vv_E} {v0 : Int64} {v2 : Int64} {h : vv_H} {o : Int64}  (hm : ff_X11_commonDivisor v0 v2 = some o) : vv_C x vv_TC yX11_commonDivisor mm_X11_commonDivisor [.long v0, .long v2] h (fun v g => v = some (.long o) ∧ g = h) := vv_entry (by decide +kernel) rfl (Nat.le_of_ble_eq_true rfl) rfl (vt_X11_commonDivisor  hm ⟨rfl, rfl⟩)
