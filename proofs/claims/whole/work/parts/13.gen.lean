def ff_X11_body (h : vv_H) (v1 : Int32) (v2 : Int32) (v3 : Int32) : Option (Int32 × vv_H) := (ff_X11_isTrait (0 : Int32) v1).bind (fun r1 => (if r1 = 0 then some ((-1 : Int32), h) else (ff_X11_isTrait (1 : Int32) v2).bind (fun r3 => (if r3 = 0 then some ((-1 : Int32), h) else (ff_X11_isTrait (2 : Int32) v3).bind (fun r5 => (if r5 = 0 then some ((-1 : Int32), h) else (ff_X0_add h v1 v2 v3).bind (fun r7 => some (r7.1, r7.2))))))))
set_option maxHeartbeats 200000 in
theorem vt_X11_body {x : vv_E} {post : Option Value → vv_H → Prop} {h : vv_H} {v1 : Int32} {v2 : Int32} {v3 : Int32} {o : Int32 × vv_H}  (hm : ff_X11_body  h v1 v2 v3 = some o) (hp : post (some (.int o.1)) o.2) : vv_V x vv_TC mm_X11_body post 0 [some (.ref (vv_ad x 0)), some (.int v1), some (.int v2), some (.int v3)] [] h := by
  unfold ff_X11_body at hm
  refine rr_iconst (q := 1) (v := 0) dX11_body_0 rfl (by decide) ?_
  refine rr_iload_n (q := 2) dX11_body_1 rfl rfl ?_
  obtain ⟨r1, k2, hm⟩ := vv_bind hm
  refine rr_callS (q := 5) (M' := mm_X11_isTrait) (As := [.int (0 : Int32), .int v1]) (st := []) (w := some (.int r1))  (cc_X11_isTrait  k2) rfl vy_X11_isTrait zw_375 ⟨Nat.le_of_ble_eq_true rfl, Nat.le_of_ble_eq_true rfl⟩ (Nat.le_of_ble_eq_true rfl) dX11_body_2 rfl ?_
  show vv_V x vv_TC mm_X11_body post 5 [some (.ref (vv_ad x 0)), some (.int v1), some (.int v2), some (.int v3)] [.int r1] h
  refine rr_if_eq (q := 8) (tgt := 24) dX11_body_5 (by decide) rfl hm (fun hm => ?_) (fun hm => ?_)
  · refine rr_iconst (q := 25) (v := -1) dX11_body_24 rfl (by decide) ?_
    obtain rfl := Option.some.inj hm
    exact rr_iret dX11_body_25 rfl hp
  · refine rr_iconst (q := 9) (v := 1) dX11_body_8 rfl (by decide) ?_
    refine rr_iload_n (q := 10) dX11_body_9 rfl rfl ?_
    obtain ⟨r3, k4, hm⟩ := vv_bind hm
    refine rr_callS (q := 13) (M' := mm_X11_isTrait) (As := [.int (1 : Int32), .int v2]) (st := []) (w := some (.int r3))  (cc_X11_isTrait  k4) rfl vy_X11_isTrait zw_375 ⟨Nat.le_of_ble_eq_true rfl, Nat.le_of_ble_eq_true rfl⟩ (Nat.le_of_ble_eq_true rfl) dX11_body_10 rfl ?_
    show vv_V x vv_TC mm_X11_body post 13 [some (.ref (vv_ad x 0)), some (.int v1), some (.int v2), some (.int v3)] [.int r3] h
    refine rr_if_eq (q := 16) (tgt := 24) dX11_body_13 (by decide) rfl hm (fun hm => ?_) (fun hm => ?_)
    · refine rr_iconst (q := 25) (v := -1) dX11_body_24 rfl (by decide) ?_
      obtain rfl := Option.some.inj hm
      exact rr_iret dX11_body_25 rfl hp
    · refine rr_iconst (q := 17) (v := 2) dX11_body_16 rfl (by decide) ?_
      refine rr_iload_n (q := 18) dX11_body_17 rfl rfl ?_
      obtain ⟨r5, k6, hm⟩ := vv_bind hm
      refine rr_callS (q := 21) (M' := mm_X11_isTrait) (As := [.int (2 : Int32), .int v3]) (st := []) (w := some (.int r5))  (cc_X11_isTrait  k6) rfl vy_X11_isTrait zw_375 ⟨Nat.le_of_ble_eq_true rfl, Nat.le_of_ble_eq_true rfl⟩ (Nat.le_of_ble_eq_true rfl) dX11_body_18 rfl ?_
      show vv_V x vv_TC mm_X11_body post 21 [some (.ref (vv_ad x 0)), some (.int v1), some (.int v2), some (.int v3)] [.int r5] h
      refine rr_if_ne (q := 24) (tgt := 26) dX11_body_21 (by decide) rfl hm (fun hm => ?_) (fun hm => ?_)
      · refine rr_aload_n (q := 27) dX11_body_26 rfl rfl ?_
        refine gf_X11_10 (q := 30) rfl dX11_body_27 rfl ?_
        refine rr_iload_n (q := 31) dX11_body_30 rfl rfl ?_
        refine rr_iload_n (q := 32) dX11_body_31 rfl rfl ?_
        refine rr_iload_n (q := 33) dX11_body_32 rfl rfl ?_
        obtain ⟨r7, k8, hm⟩ := vv_bind hm
        refine rr_callV (q := 36) (M' := mm_X0_add) (As := [.int v1, .int v2, .int v3]) (st := []) (w := some (.int r7.1)) (cc_X0_add  k8) rfl ylC_1 ynC_1 rfl vy_X0_add zw_381 ⟨Nat.le_of_ble_eq_true rfl, Nat.le_of_ble_eq_true rfl⟩ (Nat.le_of_ble_eq_true rfl) dX11_body_33 rfl ?_
        show vv_V x vv_TC mm_X11_body post 36 [some (.ref (vv_ad x 0)), some (.int v1), some (.int v2), some (.int v3)] [.int r7.1] r7.2
        obtain rfl := Option.some.inj hm
        exact rr_iret dX11_body_36 rfl hp
      · refine rr_iconst (q := 25) (v := -1) dX11_body_24 rfl (by decide) ?_
        obtain rfl := Option.some.inj hm
        exact rr_iret dX11_body_25 rfl hp
theorem cc_X11_body {x : vv_E} {h : vv_H} {v1 : Int32} {v2 : Int32} {v3 : Int32} {o : Int32 × vv_H}  (hm : ff_X11_body h v1 v2 v3 = some o) : vv_C x vv_TC yX11_body mm_X11_body [.ref (vv_ad x 0), .int v1, .int v2, .int v3] h (fun v g => v = some (.int o.1) ∧ g = o.2) := vv_entry (by decide +kernel) rfl (Nat.le_of_ble_eq_true rfl) rfl (vt_X11_body  hm ⟨rfl, rfl⟩)
def ff_X11_becomes (h : vv_H) (v1 : Int32) (v2 : Int32) (v3 : Int32) : Option (Int32 × vv_H) := (ff_X0_has h v1).bind (fun r1 => (if r1 = 0 then some ((-1 : Int32), h) else (ff_X11_isTrait v2 v3).bind (fun r3 => (if r3 = 0 then some ((-1 : Int32), h) else vv_ck v1 12 (vv_ck v2 3 (vv_let (h.1 (3 + v1.toNatClampNeg) v2.toNatClampNeg) (fun w7 => vv_ck v1 12 (vv_ck v2 3 (vv_let (vv_iu h (3 + v1.toNatClampNeg) v2.toNatClampNeg v3) (fun g11 => some (w7, g11)))))))))))
set_option maxHeartbeats 200000 in
theorem vt_X11_becomes {x : vv_E} {post : Option Value → vv_H → Prop} {h : vv_H} {v1 : Int32} {v2 : Int32} {v3 : Int32} {o : Int32 × vv_H}  (hm : ff_X11_becomes  h v1 v2 v3 = some o) (hp : post (some (.int o.1)) o.2) : vv_V x vv_TC mm_X11_becomes post 0 [some (.ref (vv_ad x 0)), some (.int v1), some (.int v2), some (.int v3), none] [] h := by
  unfold ff_X11_becomes at hm
  refine rr_aload_n (q := 1) dX11_becomes_0 rfl rfl ?_
  refine gf_X11_10 (q := 4) rfl dX11_becomes_1 rfl ?_
  refine rr_iload_n (q := 5) dX11_becomes_4 rfl rfl ?_
  obtain ⟨r1, k2, hm⟩ := vv_bind hm
  refine rr_callV (q := 8) (M' := mm_X0_has) (As := [.int v1]) (st := []) (w := some (.int r1)) (cc_X0_has  k2) rfl ylC_1 ynC_1 rfl vy_X0_has zw_386 ⟨Nat.le_of_ble_eq_true rfl, Nat.le_of_ble_eq_true rfl⟩ (Nat.le_of_ble_eq_true rfl) dX11_becomes_5 rfl ?_
  show vv_V x vv_TC mm_X11_becomes post 8 [some (.ref (vv_ad x 0)), some (.int v1), some (.int v2), some (.int v3), none] [.int r1] h
  refine rr_if_eq (q := 11) (tgt := 19) dX11_becomes_8 (by decide) rfl hm (fun hm => ?_) (fun hm => ?_)
  · refine rr_iconst (q := 20) (v := -1) dX11_becomes_19 rfl (by decide) ?_
    obtain rfl := Option.some.inj hm
    exact rr_iret dX11_becomes_20 rfl hp
  · refine rr_iload_n (q := 12) dX11_becomes_11 rfl rfl ?_
    refine rr_iload_n (q := 13) dX11_becomes_12 rfl rfl ?_
    obtain ⟨r3, k4, hm⟩ := vv_bind hm
    refine rr_callS (q := 16) (M' := mm_X11_isTrait) (As := [.int v2, .int v3]) (st := []) (w := some (.int r3))  (cc_X11_isTrait  k4) rfl vy_X11_isTrait zw_375 ⟨Nat.le_of_ble_eq_true rfl, Nat.le_of_ble_eq_true rfl⟩ (Nat.le_of_ble_eq_true rfl) dX11_becomes_13 rfl ?_
    show vv_V x vv_TC mm_X11_becomes post 16 [some (.ref (vv_ad x 0)), some (.int v1), some (.int v2), some (.int v3), none] [.int r3] h
    refine rr_if_ne (q := 19) (tgt := 21) dX11_becomes_16 (by decide) rfl hm (fun hm => ?_) (fun hm => ?_)
    · refine rr_aload_n (q := 22) dX11_becomes_21 rfl rfl ?_
      refine gf_X11_10 (q := 25) rfl dX11_becomes_22 rfl ?_
      refine gf_X11_109 (q := 28) rfl dX11_becomes_25 rfl ?_
      refine rr_iload_n (q := 29) dX11_becomes_28 rfl rfl ?_
      obtain ⟨c5, hm⟩ := vv_ck_of hm
      refine rr_aald (q := 30) ylC_2 ynC_2 c5 dX11_becomes_29 rfl ?_
      refine rr_iload_n (q := 31) dX11_becomes_30 rfl rfl ?_
      obtain ⟨c6, hm⟩ := vv_ck_of hm
      refine rr_iald (q := 32) (ywC_2 c5).1 (ywC_2 c5).2 c6 dX11_becomes_31 rfl ?_
      obtain ⟨w7, c8, hm⟩ := vv_let_of hm
      rw [← c8]
      refine rr_istore (q := 34) [some (.ref (vv_ad x 0)), some (.int v1), some (.int v2), some (.int v3), some (.int w7)] dX11_becomes_32 rfl (Nat.le_of_ble_eq_true rfl) rfl rfl ?_
      refine rr_aload_n (q := 35) dX11_becomes_34 rfl rfl ?_
      refine gf_X11_10 (q := 38) rfl dX11_becomes_35 rfl ?_
      refine gf_X11_109 (q := 41) rfl dX11_becomes_38 rfl ?_
      refine rr_iload_n (q := 42) dX11_becomes_41 rfl rfl ?_
      obtain ⟨c9, hm⟩ := vv_ck_of hm
      refine rr_aald (q := 43) ylC_2 ynC_2 c9 dX11_becomes_42 rfl ?_
      refine rr_iload_n (q := 44) dX11_becomes_43 rfl rfl ?_
      refine rr_iload_n (q := 45) dX11_becomes_44 rfl rfl ?_
      obtain ⟨c10, hm⟩ := vv_ck_of hm
      obtain ⟨g11, c12, hm⟩ := vv_let_of hm
      refine rr_iast (q := 46) (ywC_2 c9).1 (ywC_2 c9).2 c10 dX11_becomes_45 rfl ?_
      rw [← c12]
      refine rr_iload (q := 48) dX11_becomes_46 rfl rfl ?_
      obtain rfl := Option.some.inj hm
      exact rr_iret dX11_becomes_48 rfl hp
    · refine rr_iconst (q := 20) (v := -1) dX11_becomes_19 rfl (by decide) ?_
      obtain rfl := Option.some.inj hm
      exact rr_iret dX11_becomes_20 rfl hp
theorem cc_X11_becomes {x : vv_E} {h : vv_H} {v1 : Int32} {v2 : Int32} {v3 : Int32} {o : Int32 × vv_H}  (hm : ff_X11_becomes h v1 v2 v3 = some o) : vv_C x vv_TC yX11_becomes mm_X11_becomes [.ref (vv_ad x 0), .int v1, .int v2, .int v3] h (fun v g => v = some (.int o.1) ∧ g = o.2) := vv_entry (by decide +kernel) rfl (Nat.le_of_ble_eq_true rfl) rfl (vt_X11_becomes  hm ⟨rfl, rfl⟩)
def ff_X11_measure (h : vv_H) (v1 : Int32) (v2 : Int32) (v3 : Int32) (v4 : Int32) : Option (Int32 × vv_H) := (ff_X0_has h v1).bind (fun r1 => (if r1 = 0 then some ((-1 : Int32), h) else (ff_X11_isMeasureKind v2).bind (fun r3 => (if r3 = 0 then some ((-1 : Int32), h) else (ff_X11_isMeasure v3).bind (fun r5 => (if r5 = 0 then some ((-1 : Int32), h) else (ff_X11_isDay v4).bind (fun r7 => (if r7 = 0 then some ((-1 : Int32), h) else (ff_X2_add h v1 v2 v3 v4 (h.1 0 0)).bind (fun r9 => some (r9.1, r9.2))))))))))
set_option maxHeartbeats 200000 in
theorem vt_X11_measure {x : vv_E} {post : Option Value → vv_H → Prop} {h : vv_H} {v1 : Int32} {v2 : Int32} {v3 : Int32} {v4 : Int32} {o : Int32 × vv_H}  (hm : ff_X11_measure  h v1 v2 v3 v4 = some o) (hp : post (some (.int o.1)) o.2) : vv_V x vv_TC mm_X11_measure post 0 [some (.ref (vv_ad x 0)), some (.int v1), some (.int v2), some (.int v3), some (.int v4)] [] h := by
  unfold ff_X11_measure at hm
  refine rr_aload_n (q := 1) dX11_measure_0 rfl rfl ?_
  refine gf_X11_10 (q := 4) rfl dX11_measure_1 rfl ?_
  refine rr_iload_n (q := 5) dX11_measure_4 rfl rfl ?_
  obtain ⟨r1, k2, hm⟩ := vv_bind hm
  refine rr_callV (q := 8) (M' := mm_X0_has) (As := [.int v1]) (st := []) (w := some (.int r1)) (cc_X0_has  k2) rfl ylC_1 ynC_1 rfl vy_X0_has zw_386 ⟨Nat.le_of_ble_eq_true rfl, Nat.le_of_ble_eq_true rfl⟩ (Nat.le_of_ble_eq_true rfl) dX11_measure_5 rfl ?_
  show vv_V x vv_TC mm_X11_measure post 8 [some (.ref (vv_ad x 0)), some (.int v1), some (.int v2), some (.int v3), some (.int v4)] [.int r1] h
  refine rr_if_eq (q := 11) (tgt := 33) dX11_measure_8 (by decide) rfl hm (fun hm => ?_) (fun hm => ?_)
  · refine rr_iconst (q := 34) (v := -1) dX11_measure_33 rfl (by decide) ?_
    obtain rfl := Option.some.inj hm
    exact rr_iret dX11_measure_34 rfl hp
  · refine rr_iload_n (q := 12) dX11_measure_11 rfl rfl ?_
    obtain ⟨r3, k4, hm⟩ := vv_bind hm
    refine rr_callS (q := 15) (M' := mm_X11_isMeasureKind) (As := [.int v2]) (st := []) (w := some (.int r3))  (cc_X11_isMeasureKind  k4) rfl vy_X11_isMeasureKind zw_391 ⟨Nat.le_of_ble_eq_true rfl, Nat.le_of_ble_eq_true rfl⟩ (Nat.le_of_ble_eq_true rfl) dX11_measure_12 rfl ?_
    show vv_V x vv_TC mm_X11_measure post 15 [some (.ref (vv_ad x 0)), some (.int v1), some (.int v2), some (.int v3), some (.int v4)] [.int r3] h
    refine rr_if_eq (q := 18) (tgt := 33) dX11_measure_15 (by decide) rfl hm (fun hm => ?_) (fun hm => ?_)
    · refine rr_iconst (q := 34) (v := -1) dX11_measure_33 rfl (by decide) ?_
      obtain rfl := Option.some.inj hm
      exact rr_iret dX11_measure_34 rfl hp
    · refine rr_iload_n (q := 19) dX11_measure_18 rfl rfl ?_
      obtain ⟨r5, k6, hm⟩ := vv_bind hm
      refine rr_callS (q := 22) (M' := mm_X11_isMeasure) (As := [.int v3]) (st := []) (w := some (.int r5))  (cc_X11_isMeasure  k6) rfl vy_X11_isMeasure zw_395 ⟨Nat.le_of_ble_eq_true rfl, Nat.le_of_ble_eq_true rfl⟩ (Nat.le_of_ble_eq_true rfl) dX11_measure_19 rfl ?_
      show vv_V x vv_TC mm_X11_measure post 22 [some (.ref (vv_ad x 0)), some (.int v1), some (.int v2), some (.int v3), some (.int v4)] [.int r5] h
      refine rr_if_eq (q := 25) (tgt := 33) dX11_measure_22 (by decide) rfl hm (fun hm => ?_) (fun hm => ?_)
      · refine rr_iconst (q := 34) (v := -1) dX11_measure_33 rfl (by decide) ?_
        obtain rfl := Option.some.inj hm
        exact rr_iret dX11_measure_34 rfl hp
      · refine rr_iload (q := 27) dX11_measure_25 rfl rfl ?_
        obtain ⟨r7, k8, hm⟩ := vv_bind hm
        refine rr_callS (q := 30) (M' := mm_X11_isDay) (As := [.int v4]) (st := []) (w := some (.int r7))  (cc_X11_isDay  k8) rfl vy_X11_isDay zw_399 ⟨Nat.le_of_ble_eq_true rfl, Nat.le_of_ble_eq_true rfl⟩ (Nat.le_of_ble_eq_true rfl) dX11_measure_27 rfl ?_
        show vv_V x vv_TC mm_X11_measure post 30 [some (.ref (vv_ad x 0)), some (.int v1), some (.int v2), some (.int v3), some (.int v4)] [.int r7] h
        refine rr_if_ne (q := 33) (tgt := 35) dX11_measure_30 (by decide) rfl hm (fun hm => ?_) (fun hm => ?_)
        · refine rr_aload_n (q := 36) dX11_measure_35 rfl rfl ?_
          refine gf_X11_19 (q := 39) rfl dX11_measure_36 rfl ?_
          refine rr_iload_n (q := 40) dX11_measure_39 rfl rfl ?_
          refine rr_iload_n (q := 41) dX11_measure_40 rfl rfl ?_
          refine rr_iload_n (q := 42) dX11_measure_41 rfl rfl ?_
          refine rr_iload (q := 44) dX11_measure_42 rfl rfl ?_
          refine rr_aload_n (q := 45) dX11_measure_44 rfl rfl ?_
          refine gf_X11_89 (q := 48) rfl dX11_measure_45 rfl ?_
          obtain ⟨r9, k10, hm⟩ := vv_bind hm
          refine rr_callV (q := 51) (M' := mm_X2_add) (As := [.int v1, .int v2, .int v3, .int v4, .int (h.1 0 0)]) (st := []) (w := some (.int r9.1)) (cc_X2_add  k10) rfl ylC_16 ynC_16 rfl vy_X2_add zw_404 ⟨Nat.le_of_ble_eq_true rfl, Nat.le_of_ble_eq_true rfl⟩ (Nat.le_of_ble_eq_true rfl) dX11_measure_48 rfl ?_
          show vv_V x vv_TC mm_X11_measure post 51 [some (.ref (vv_ad x 0)), some (.int v1), some (.int v2), some (.int v3), some (.int v4)] [.int r9.1] r9.2
          obtain rfl := Option.some.inj hm
          exact rr_iret dX11_measure_51 rfl hp
        · refine rr_iconst (q := 34) (v := -1) dX11_measure_33 rfl (by decide) ?_
          obtain rfl := Option.some.inj hm
          exact rr_iret dX11_measure_34 rfl hp
theorem cc_X11_measure {x : vv_E} {h : vv_H} {v1 : Int32} {v2 : Int32} {v3 : Int32} {v4 : Int32} {o : Int32 × vv_H}  (hm : ff_X11_measure h v1 v2 v3 v4 = some o) : vv_C x vv_TC yX11_measure mm_X11_measure [.ref (vv_ad x 0), .int v1, .int v2, .int v3, .int v4] h (fun v g => v = some (.int o.1) ∧ g = o.2) := vv_entry (by decide +kernel) rfl (Nat.le_of_ble_eq_true rfl) rfl (vt_X11_measure  hm ⟨rfl, rfl⟩)
def ff_X11_known (h : vv_H) (v1 : Int32) (v2 : Int32) (v3 : Int32) (v4 : Int32) : Option (Int32) := (ff_X0_has h v1).bind (fun r1 => (if r1 = 0 then some (-1 : Int32) else (ff_X11_isMeasureKind v2).bind (fun r3 => (if r3 = 0 then some (-1 : Int32) else (ff_X11_isDay v3).bind (fun r5 => (if r5 = 0 then some (-1 : Int32) else (ff_X11_isDay v4).bind (fun r7 => (if r7 = 0 then some (-1 : Int32) else (ff_X2_asKnown h v1 v2 v3 v4).bind (fun r9 => some r9)))))))))
set_option maxHeartbeats 200000 in
theorem vt_X11_known {x : vv_E} {post : Option Value → vv_H → Prop} {h : vv_H} {v1 : Int32} {v2 : Int32} {v3 : Int32} {v4 : Int32} {o : Int32}  (hm : ff_X11_known  h v1 v2 v3 v4 = some o) (hp : post (some (.int o)) h) : vv_V x vv_TC mm_X11_known post 0 [some (.ref (vv_ad x 0)), some (.int v1), some (.int v2), some (.int v3), some (.int v4)] [] h := by
  unfold ff_X11_known at hm
  refine rr_aload_n (q := 1) dX11_known_0 rfl rfl ?_
  refine gf_X11_10 (q := 4) rfl dX11_known_1 rfl ?_
  refine rr_iload_n (q := 5) dX11_known_4 rfl rfl ?_
  obtain ⟨r1, k2, hm⟩ := vv_bind hm
  refine rr_callV (q := 8) (M' := mm_X0_has) (As := [.int v1]) (st := []) (w := some (.int r1)) (cc_X0_has  k2) rfl ylC_1 ynC_1 rfl vy_X0_has zw_386 ⟨Nat.le_of_ble_eq_true rfl, Nat.le_of_ble_eq_true rfl⟩ (Nat.le_of_ble_eq_true rfl) dX11_known_5 rfl ?_
  show vv_V x vv_TC mm_X11_known post 8 [some (.ref (vv_ad x 0)), some (.int v1), some (.int v2), some (.int v3), some (.int v4)] [.int r1] h
  refine rr_if_eq (q := 11) (tgt := 33) dX11_known_8 (by decide) rfl hm (fun hm => ?_) (fun hm => ?_)
  · refine rr_iconst (q := 34) (v := -1) dX11_known_33 rfl (by decide) ?_
    obtain rfl := Option.some.inj hm
    exact rr_iret dX11_known_34 rfl hp
  · refine rr_iload_n (q := 12) dX11_known_11 rfl rfl ?_
    obtain ⟨r3, k4, hm⟩ := vv_bind hm
    refine rr_callS (q := 15) (M' := mm_X11_isMeasureKind) (As := [.int v2]) (st := []) (w := some (.int r3))  (cc_X11_isMeasureKind  k4) rfl vy_X11_isMeasureKind zw_391 ⟨Nat.le_of_ble_eq_true rfl, Nat.le_of_ble_eq_true rfl⟩ (Nat.le_of_ble_eq_true rfl) dX11_known_12 rfl ?_
    show vv_V x vv_TC mm_X11_known post 15 [some (.ref (vv_ad x 0)), some (.int v1), some (.int v2), some (.int v3), some (.int v4)] [.int r3] h
    refine rr_if_eq (q := 18) (tgt := 33) dX11_known_15 (by decide) rfl hm (fun hm => ?_) (fun hm => ?_)
    · refine rr_iconst (q := 34) (v := -1) dX11_known_33 rfl (by decide) ?_
      obtain rfl := Option.some.inj hm
      exact rr_iret dX11_known_34 rfl hp
    · refine rr_iload_n (q := 19) dX11_known_18 rfl rfl ?_
      obtain ⟨r5, k6, hm⟩ := vv_bind hm
      refine rr_callS (q := 22) (M' := mm_X11_isDay) (As := [.int v3]) (st := []) (w := some (.int r5))  (cc_X11_isDay  k6) rfl vy_X11_isDay zw_399 ⟨Nat.le_of_ble_eq_true rfl, Nat.le_of_ble_eq_true rfl⟩ (Nat.le_of_ble_eq_true rfl) dX11_known_19 rfl ?_
      show vv_V x vv_TC mm_X11_known post 22 [some (.ref (vv_ad x 0)), some (.int v1), some (.int v2), some (.int v3), some (.int v4)] [.int r5] h
      refine rr_if_eq (q := 25) (tgt := 33) dX11_known_22 (by decide) rfl hm (fun hm => ?_) (fun hm => ?_)
      · refine rr_iconst (q := 34) (v := -1) dX11_known_33 rfl (by decide) ?_
        obtain rfl := Option.some.inj hm
        exact rr_iret dX11_known_34 rfl hp
      · refine rr_iload (q := 27) dX11_known_25 rfl rfl ?_
        obtain ⟨r7, k8, hm⟩ := vv_bind hm
        refine rr_callS (q := 30) (M' := mm_X11_isDay) (As := [.int v4]) (st := []) (w := some (.int r7))  (cc_X11_isDay  k8) rfl vy_X11_isDay zw_399 ⟨Nat.le_of_ble_eq_true rfl, Nat.le_of_ble_eq_true rfl⟩ (Nat.le_of_ble_eq_true rfl) dX11_known_27 rfl ?_
        show vv_V x vv_TC mm_X11_known post 30 [some (.ref (vv_ad x 0)), some (.int v1), some (.int v2), some (.int v3), some (.int v4)] [.int r7] h
        refine rr_if_ne (q := 33) (tgt := 35) dX11_known_30 (by decide) rfl hm (fun hm => ?_) (fun hm => ?_)
        · refine rr_aload_n (q := 36) dX11_known_35 rfl rfl ?_
          refine gf_X11_19 (q := 39) rfl dX11_known_36 rfl ?_
          refine rr_iload_n (q := 40) dX11_known_39 rfl rfl ?_
          refine rr_iload_n (q := 41) dX11_known_40 rfl rfl ?_
          refine rr_iload_n (q := 42) dX11_known_41 rfl rfl ?_
          refine rr_iload (q := 44) dX11_known_42 rfl rfl ?_
          obtain ⟨r9, k10, hm⟩ := vv_bind hm
          refine rr_callV (q := 47) (M' := mm_X2_asKnown) (As := [.int v1, .int v2, .int v3, .int v4]) (st := []) (w := some (.int r9)) (cc_X2_asKnown  k10) rfl ylC_16 ynC_16 rfl vy_X2_asKnown zw_251 ⟨Nat.le_of_ble_eq_true rfl, Nat.le_of_ble_eq_true rfl⟩ (Nat.le_of_ble_eq_true rfl) dX11_known_44 rfl ?_
          show vv_V x vv_TC mm_X11_known post 47 [some (.ref (vv_ad x 0)), some (.int v1), some (.int v2), some (.int v3), some (.int v4)] [.int r9] h
          obtain rfl := Option.some.inj hm
          exact rr_iret dX11_known_47 rfl hp
        · refine rr_iconst (q := 34) (v := -1) dX11_known_33 rfl (by decide) ?_
          obtain rfl := Option.some.inj hm
          exact rr_iret dX11_known_34 rfl hp
theorem cc_X11_known {x : vv_E} {h : vv_H} {v1 : Int32} {v2 : Int32} {v3 : Int32} {v4 : Int32} {o : Int32}  (hm : ff_X11_known h v1 v2 v3 v4 = some o) : vv_C x vv_TC yX11_known mm_X11_known [.ref (vv_ad x 0), .int v1, .int v2, .int v3, .int v4] h (fun v g => v = some (.int o) ∧ g = h) := vv_entry (by decide +kernel) rfl (Nat.le_of_ble_eq_true rfl) rfl (vt_X11_known  hm ⟨rfl, rfl⟩)
def ff_X11_why (h : vv_H) (v1 : Int32) (v2 : Int32) (v3 : Int32) : Option (Int32) := (ff_X0_has h v1).bind (fun r1 => (if r1 = 0 then some (-1 : Int32) else (ff_X11_isKind v2).bind (fun r3 => (if r3 = 0 then some (-1 : Int32) else (ff_X11_isDay v3).bind (fun r5 => (if r5 = 0 then some (-1 : Int32) else vv_ck v1 12 ((ff_X6_lineDue h (h.2.2 0) (3 + v1.toNatClampNeg) 3 v2 v3).bind (fun r8 => some r8))))))))
set_option maxHeartbeats 200000 in
theorem vt_X11_why {x : vv_E} {post : Option Value → vv_H → Prop} {h : vv_H} {v1 : Int32} {v2 : Int32} {v3 : Int32} {o : Int32}  (hm : ff_X11_why  h v1 v2 v3 = some o) (hp : post (some (.int o)) h) : vv_V x vv_TC mm_X11_why post 0 [some (.ref (vv_ad x 0)), some (.int v1), some (.int v2), some (.int v3)] [] h := by
  unfold ff_X11_why at hm
  refine rr_aload_n (q := 1) dX11_why_0 rfl rfl ?_
  refine gf_X11_10 (q := 4) rfl dX11_why_1 rfl ?_
  refine rr_iload_n (q := 5) dX11_why_4 rfl rfl ?_
  obtain ⟨r1, k2, hm⟩ := vv_bind hm
  refine rr_callV (q := 8) (M' := mm_X0_has) (As := [.int v1]) (st := []) (w := some (.int r1)) (cc_X0_has  k2) rfl ylC_1 ynC_1 rfl vy_X0_has zw_386 ⟨Nat.le_of_ble_eq_true rfl, Nat.le_of_ble_eq_true rfl⟩ (Nat.le_of_ble_eq_true rfl) dX11_why_5 rfl ?_
  show vv_V x vv_TC mm_X11_why post 8 [some (.ref (vv_ad x 0)), some (.int v1), some (.int v2), some (.int v3)] [.int r1] h
  refine rr_if_eq (q := 11) (tgt := 25) dX11_why_8 (by decide) rfl hm (fun hm => ?_) (fun hm => ?_)
  · refine rr_iconst (q := 26) (v := -1) dX11_why_25 rfl (by decide) ?_
    obtain rfl := Option.some.inj hm
    exact rr_iret dX11_why_26 rfl hp
  · refine rr_iload_n (q := 12) dX11_why_11 rfl rfl ?_
    obtain ⟨r3, k4, hm⟩ := vv_bind hm
    refine rr_callS (q := 15) (M' := mm_X11_isKind) (As := [.int v2]) (st := []) (w := some (.int r3))  (cc_X11_isKind  k4) rfl vy_X11_isKind zw_408 ⟨Nat.le_of_ble_eq_true rfl, Nat.le_of_ble_eq_true rfl⟩ (Nat.le_of_ble_eq_true rfl) dX11_why_12 rfl ?_
    show vv_V x vv_TC mm_X11_why post 15 [some (.ref (vv_ad x 0)), some (.int v1), some (.int v2), some (.int v3)] [.int r3] h
    refine rr_if_eq (q := 18) (tgt := 25) dX11_why_15 (by decide) rfl hm (fun hm => ?_) (fun hm => ?_)
    · refine rr_iconst (q := 26) (v := -1) dX11_why_25 rfl (by decide) ?_
      obtain rfl := Option.some.inj hm
      exact rr_iret dX11_why_26 rfl hp
    · refine rr_iload_n (q := 19) dX11_why_18 rfl rfl ?_
      obtain ⟨r5, k6, hm⟩ := vv_bind hm
      refine rr_callS (q := 22) (M' := mm_X11_isDay) (As := [.int v3]) (st := []) (w := some (.int r5))  (cc_X11_isDay  k6) rfl vy_X11_isDay zw_399 ⟨Nat.le_of_ble_eq_true rfl, Nat.le_of_ble_eq_true rfl⟩ (Nat.le_of_ble_eq_true rfl) dX11_why_19 rfl ?_
      show vv_V x vv_TC mm_X11_why post 22 [some (.ref (vv_ad x 0)), some (.int v1), some (.int v2), some (.int v3)] [.int r5] h
      refine rr_if_ne (q := 25) (tgt := 27) dX11_why_22 (by decide) rfl hm (fun hm => ?_) (fun hm => ?_)
      · refine rr_aload_n (q := 28) dX11_why_27 rfl rfl ?_
        refine gf_X11_47 (q := 31) rfl dX11_why_28 rfl ?_
        refine rr_aload_n (q := 32) dX11_why_31 rfl rfl ?_
        refine gf_X11_10 (q := 35) rfl dX11_why_32 rfl ?_
        refine gf_X11_109 (q := 38) rfl dX11_why_35 rfl ?_
        refine rr_iload_n (q := 39) dX11_why_38 rfl rfl ?_
        obtain ⟨c7, hm⟩ := vv_ck_of hm
        refine rr_aald (q := 40) ylC_2 ynC_2 c7 dX11_why_39 rfl ?_
        refine rr_iload_n (q := 41) dX11_why_40 rfl rfl ?_
        refine rr_iload_n (q := 42) dX11_why_41 rfl rfl ?_
        obtain ⟨r8, k9, hm⟩ := vv_bind hm
        refine rr_callV (q := 45) (M' := mm_X6_lineDue) (As := [.ref (vv_ad x (3 + v1.toNatClampNeg)), .int v2, .int v3]) (st := []) (w := some (.int r8)) (cc_X6_lineDue (ywC_2 c7).1 (ywC_2 c7).2 k9) rfl (yr_0 (h.2.2 0)).1 (yr_0 (h.2.2 0)).2 rfl vy_X6_lineDue zw_413 ⟨Nat.le_of_ble_eq_true rfl, Nat.le_of_ble_eq_true rfl⟩ (Nat.le_of_ble_eq_true rfl) dX11_why_42 rfl ?_
        show vv_V x vv_TC mm_X11_why post 45 [some (.ref (vv_ad x 0)), some (.int v1), some (.int v2), some (.int v3)] [.int r8] h
        obtain rfl := Option.some.inj hm
        exact rr_iret dX11_why_45 rfl hp
      · refine rr_iconst (q := 26) (v := -1) dX11_why_25 rfl (by decide) ?_
        obtain rfl := Option.some.inj hm
        exact rr_iret dX11_why_26 rfl hp
theorem cc_X11_why {x : vv_E} {h : vv_H} {v1 : Int32} {v2 : Int32} {v3 : Int32} {o : Int32}  (hm : ff_X11_why h v1 v2 v3 = some o) : vv_C x vv_TC yX11_why mm_X11_why [.ref (vv_ad x 0), .int v1, .int v2, .int v3] h (fun v g => v = some (.int o) ∧ g = h) := vv_entry (by decide +kernel) rfl (Nat.le_of_ble_eq_true rfl) rfl (vt_X11_why  hm ⟨rfl, rfl⟩)
def ff_X11_rule (h : vv_H) (v1 : Int32) (v2 : Int32) (v3 : Int32) : Option (Int32) := (ff_X11_isKind v1).bind (fun r1 => (if r1 = 0 then some (-1 : Int32) else (ff_X11_isWithin v2 (0 : Int32) (1 : Int32)).bind (fun r3 => (if r3 = 0 then some (-1 : Int32) else (ff_X11_isDay v3).bind (fun r5 => (if r5 = 0 then some (-1 : Int32) else (if v2 = 0 then (ff_X11_lifeOn h v1 v3).bind (fun r9 => some r9) else (ff_X11_priceOn h v1 v3).bind (fun r7 => some r7))))))))
set_option maxHeartbeats 200000 in
theorem vt_X11_rule {x : vv_E} {post : Option Value → vv_H → Prop} {h : vv_H} {v1 : Int32} {v2 : Int32} {v3 : Int32} {o : Int32}  (hm : ff_X11_rule  h v1 v2 v3 = some o) (hp : post (some (.int o)) h) : vv_V x vv_TC mm_X11_rule post 0 [some (.ref (vv_ad x 0)), some (.int v1), some (.int v2), some (.int v3)] [] h := by
  unfold ff_X11_rule at hm
  refine rr_iload_n (q := 1) dX11_rule_0 rfl rfl ?_
  obtain ⟨r1, k2, hm⟩ := vv_bind hm
  refine rr_callS (q := 4) (M' := mm_X11_isKind) (As := [.int v1]) (st := []) (w := some (.int r1))  (cc_X11_isKind  k2) rfl vy_X11_isKind zw_408 ⟨Nat.le_of_ble_eq_true rfl, Nat.le_of_ble_eq_true rfl⟩ (Nat.le_of_ble_eq_true rfl) dX11_rule_1 rfl ?_
  show vv_V x vv_TC mm_X11_rule post 4 [some (.ref (vv_ad x 0)), some (.int v1), some (.int v2), some (.int v3)] [.int r1] h
  refine rr_if_eq (q := 7) (tgt := 23) dX11_rule_4 (by decide) rfl hm (fun hm => ?_) (fun hm => ?_)
  · refine rr_iconst (q := 24) (v := -1) dX11_rule_23 rfl (by decide) ?_
    obtain rfl := Option.some.inj hm
    exact rr_iret dX11_rule_24 rfl hp
  · refine rr_iload_n (q := 8) dX11_rule_7 rfl rfl ?_
    refine rr_iconst (q := 9) (v := 0) dX11_rule_8 rfl (by decide) ?_
    refine rr_iconst (q := 10) (v := 1) dX11_rule_9 rfl (by decide) ?_
    obtain ⟨r3, k4, hm⟩ := vv_bind hm
    refine rr_callS (q := 13) (M' := mm_X11_isWithin) (As := [.int v2, .int (0 : Int32), .int (1 : Int32)]) (st := []) (w := some (.int r3))  (cc_X11_isWithin  k4) rfl vy_X11_isWithin zw_219 ⟨Nat.le_of_ble_eq_true rfl, Nat.le_of_ble_eq_true rfl⟩ (Nat.le_of_ble_eq_true rfl) dX11_rule_10 rfl ?_
    show vv_V x vv_TC mm_X11_rule post 13 [some (.ref (vv_ad x 0)), some (.int v1), some (.int v2), some (.int v3)] [.int r3] h
    refine rr_if_eq (q := 16) (tgt := 23) dX11_rule_13 (by decide) rfl hm (fun hm => ?_) (fun hm => ?_)
    · refine rr_iconst (q := 24) (v := -1) dX11_rule_23 rfl (by decide) ?_
      obtain rfl := Option.some.inj hm
      exact rr_iret dX11_rule_24 rfl hp
    · refine rr_iload_n (q := 17) dX11_rule_16 rfl rfl ?_
      obtain ⟨r5, k6, hm⟩ := vv_bind hm
      refine rr_callS (q := 20) (M' := mm_X11_isDay) (As := [.int v3]) (st := []) (w := some (.int r5))  (cc_X11_isDay  k6) rfl vy_X11_isDay zw_399 ⟨Nat.le_of_ble_eq_true rfl, Nat.le_of_ble_eq_true rfl⟩ (Nat.le_of_ble_eq_true rfl) dX11_rule_17 rfl ?_
      show vv_V x vv_TC mm_X11_rule post 20 [some (.ref (vv_ad x 0)), some (.int v1), some (.int v2), some (.int v3)] [.int r5] h
      refine rr_if_ne (q := 23) (tgt := 25) dX11_rule_20 (by decide) rfl hm (fun hm => ?_) (fun hm => ?_)
      · refine rr_iload_n (q := 26) dX11_rule_25 rfl rfl ?_
        refine rr_if_ne (q := 29) (tgt := 38) dX11_rule_26 (by decide) rfl hm (fun hm => ?_) (fun hm => ?_)
        · refine rr_aload_n (q := 39) dX11_rule_38 rfl rfl ?_
          refine rr_iload_n (q := 40) dX11_rule_39 rfl rfl ?_
          refine rr_iload_n (q := 41) dX11_rule_40 rfl rfl ?_
          obtain ⟨r7, k8, hm⟩ := vv_bind hm
          refine rr_callV (q := 44) (M' := mm_X11_priceOn) (As := [.int v1, .int v3]) (st := []) (w := some (.int r7)) (cc_X11_priceOn  k8) rfl ylC_0 ynC_0 rfl vy_X11_priceOn zw_418 ⟨Nat.le_of_ble_eq_true rfl, Nat.le_of_ble_eq_true rfl⟩ (Nat.le_of_ble_eq_true rfl) dX11_rule_41 rfl ?_
          show vv_V x vv_TC mm_X11_rule post 44 [some (.ref (vv_ad x 0)), some (.int v1), some (.int v2), some (.int v3)] [.int r7] h
          obtain rfl := Option.some.inj hm
          exact rr_iret dX11_rule_44 rfl hp
        · refine rr_aload_n (q := 30) dX11_rule_29 rfl rfl ?_
          refine rr_iload_n (q := 31) dX11_rule_30 rfl rfl ?_
          refine rr_iload_n (q := 32) dX11_rule_31 rfl rfl ?_
          obtain ⟨r9, k10, hm⟩ := vv_bind hm
          refine rr_callV (q := 35) (M' := mm_X11_lifeOn) (As := [.int v1, .int v3]) (st := []) (w := some (.int r9)) (cc_X11_lifeOn  k10) rfl ylC_0 ynC_0 rfl vy_X11_lifeOn zw_423 ⟨Nat.le_of_ble_eq_true rfl, Nat.le_of_ble_eq_true rfl⟩ (Nat.le_of_ble_eq_true rfl) dX11_rule_32 rfl ?_
          show vv_V x vv_TC mm_X11_rule post 35 [some (.ref (vv_ad x 0)), some (.int v1), some (.int v2), some (.int v3)] [.int r9] h
          refine rr_goto (tgt := 44) dX11_rule_35 (by decide) ?_
          obtain rfl := Option.some.inj hm
          exact rr_iret dX11_rule_44 rfl hp
      · refine rr_iconst (q := 24) (v := -1) dX11_rule_23 rfl (by decide) ?_
        obtain rfl := Option.some.inj hm
        exact rr_iret dX11_rule_24 rfl hp
theorem cc_X11_rule {x : vv_E} {h : vv_H} {v1 : Int32} {v2 : Int32} {v3 : Int32} {o : Int32}  (hm : ff_X11_rule h v1 v2 v3 = some o) : vv_C x vv_TC yX11_rule mm_X11_rule [.ref (vv_ad x 0), .int v1, .int v2, .int v3] h (fun v g => v = some (.int o) ∧ g = h) := vv_entry (by decide +kernel) rfl (Nat.le_of_ble_eq_true rfl) rfl (vt_X11_rule  hm ⟨rfl, rfl⟩)
def ff_X11_piece (h : vv_H) (v1 : Int32) (v2 : Int32) (v3 : Int32) (v4 : Int32) : Option (Int32 × vv_H) := (ff_X9_has h v1).bind (fun r1 => (if r1 = 0 then some ((-1 : Int32), h) else (ff_X8_has h v2).bind (fun r3 => (if r3 = 0 then some ((-1 : Int32), h) else (ff_X11_isLot v3).bind (fun r5 => (if r5 = 0 then some ((-1 : Int32), h) else (ff_X11_isShade v4).bind (fun r7 => (if r7 = 0 then some ((-1 : Int32), h) else (ff_X4_add h v1 v2 v3 v4).bind (fun r9 => some (r9.1, r9.2))))))))))
set_option maxHeartbeats 200000 in
theorem vt_X11_piece {x : vv_E} {post : Option Value → vv_H → Prop} {h : vv_H} {v1 : Int32} {v2 : Int32} {v3 : Int32} {v4 : Int32} {o : Int32 × vv_H}  (hm : ff_X11_piece  h v1 v2 v3 v4 = some o) (hp : post (some (.int o.1)) o.2) : vv_V x vv_TC mm_X11_piece post 0 [some (.ref (vv_ad x 0)), some (.int v1), some (.int v2), some (.int v3), some (.int v4)] [] h := by
  unfold ff_X11_piece at hm
  refine rr_aload_n (q := 1) dX11_piece_0 rfl rfl ?_
  refine gf_X11_57 (q := 4) rfl dX11_piece_1 rfl ?_
  refine rr_iload_n (q := 5) dX11_piece_4 rfl rfl ?_
  obtain ⟨r1, k2, hm⟩ := vv_bind hm
  refine rr_callV (q := 8) (M' := mm_X9_has) (As := [.int v1]) (st := []) (w := some (.int r1)) (cc_X9_has  k2) rfl ylC_146 ynC_146 rfl vy_X9_has zw_237 ⟨Nat.le_of_ble_eq_true rfl, Nat.le_of_ble_eq_true rfl⟩ (Nat.le_of_ble_eq_true rfl) dX11_piece_5 rfl ?_
  show vv_V x vv_TC mm_X11_piece post 8 [some (.ref (vv_ad x 0)), some (.int v1), some (.int v2), some (.int v3), some (.int v4)] [.int r1] h
  refine rr_if_eq (q := 11) (tgt := 37) dX11_piece_8 (by decide) rfl hm (fun hm => ?_) (fun hm => ?_)
  · refine rr_iconst (q := 38) (v := -1) dX11_piece_37 rfl (by decide) ?_
    obtain rfl := Option.some.inj hm
    exact rr_iret dX11_piece_38 rfl hp
  · refine rr_aload_n (q := 12) dX11_piece_11 rfl rfl ?_
    refine gf_X11_26 (q := 15) rfl dX11_piece_12 rfl ?_
    refine rr_iload_n (q := 16) dX11_piece_15 rfl rfl ?_
    obtain ⟨r3, k4, hm⟩ := vv_bind hm
    refine rr_callV (q := 19) (M' := mm_X8_has) (As := [.int v2]) (st := []) (w := some (.int r3)) (cc_X8_has  k4) rfl ylC_22 ynC_22 rfl vy_X8_has zw_428 ⟨Nat.le_of_ble_eq_true rfl, Nat.le_of_ble_eq_true rfl⟩ (Nat.le_of_ble_eq_true rfl) dX11_piece_16 rfl ?_
    show vv_V x vv_TC mm_X11_piece post 19 [some (.ref (vv_ad x 0)), some (.int v1), some (.int v2), some (.int v3), some (.int v4)] [.int r3] h
    refine rr_if_eq (q := 22) (tgt := 37) dX11_piece_19 (by decide) rfl hm (fun hm => ?_) (fun hm => ?_)
    · refine rr_iconst (q := 38) (v := -1) dX11_piece_37 rfl (by decide) ?_
      obtain rfl := Option.some.inj hm
      exact rr_iret dX11_piece_38 rfl hp
    · refine rr_iload_n (q := 23) dX11_piece_22 rfl rfl ?_
      obtain ⟨r5, k6, hm⟩ := vv_bind hm
      refine rr_callS (q := 26) (M' := mm_X11_isLot) (As := [.int v3]) (st := []) (w := some (.int r5))  (cc_X11_isLot  k6) rfl vy_X11_isLot zw_432 ⟨Nat.le_of_ble_eq_true rfl, Nat.le_of_ble_eq_true rfl⟩ (Nat.le_of_ble_eq_true rfl) dX11_piece_23 rfl ?_
      show vv_V x vv_TC mm_X11_piece post 26 [some (.ref (vv_ad x 0)), some (.int v1), some (.int v2), some (.int v3), some (.int v4)] [.int r5] h
      refine rr_if_eq (q := 29) (tgt := 37) dX11_piece_26 (by decide) rfl hm (fun hm => ?_) (fun hm => ?_)
      · refine rr_iconst (q := 38) (v := -1) dX11_piece_37 rfl (by decide) ?_
        obtain rfl := Option.some.inj hm
        exact rr_iret dX11_piece_38 rfl hp
      · refine rr_iload (q := 31) dX11_piece_29 rfl rfl ?_
        obtain ⟨r7, k8, hm⟩ := vv_bind hm
        refine rr_callS (q := 34) (M' := mm_X11_isShade) (As := [.int v4]) (st := []) (w := some (.int r7))  (cc_X11_isShade  k8) rfl vy_X11_isShade zw_436 ⟨Nat.le_of_ble_eq_true rfl, Nat.le_of_ble_eq_true rfl⟩ (Nat.le_of_ble_eq_true rfl) dX11_piece_31 rfl ?_
        show vv_V x vv_TC mm_X11_piece post 34 [some (.ref (vv_ad x 0)), some (.int v1), some (.int v2), some (.int v3), some (.int v4)] [.int r7] h
        refine rr_if_ne (q := 37) (tgt := 39) dX11_piece_34 (by decide) rfl hm (fun hm => ?_) (fun hm => ?_)
        · refine rr_aload_n (q := 40) dX11_piece_39 rfl rfl ?_
          refine gf_X11_64 (q := 43) rfl dX11_piece_40 rfl ?_
          refine rr_iload_n (q := 44) dX11_piece_43 rfl rfl ?_
          refine rr_iload_n (q := 45) dX11_piece_44 rfl rfl ?_
          refine rr_iload_n (q := 46) dX11_piece_45 rfl rfl ?_
          refine rr_iload (q := 48) dX11_piece_46 rfl rfl ?_
          obtain ⟨r9, k10, hm⟩ := vv_bind hm
          refine rr_callV (q := 51) (M' := mm_X4_add) (As := [.int v1, .int v2, .int v3, .int v4]) (st := []) (w := some (.int r9.1)) (cc_X4_add  k10) rfl ylC_156 ynC_156 rfl vy_X4_add zw_441 ⟨Nat.le_of_ble_eq_true rfl, Nat.le_of_ble_eq_true rfl⟩ (Nat.le_of_ble_eq_true rfl) dX11_piece_48 rfl ?_
          show vv_V x vv_TC mm_X11_piece post 51 [some (.ref (vv_ad x 0)), some (.int v1), some (.int v2), some (.int v3), some (.int v4)] [.int r9.1] r9.2
          obtain rfl := Option.some.inj hm
          exact rr_iret dX11_piece_51 rfl hp
        · refine rr_iconst (q := 38) (v := -1) dX11_piece_37 rfl (by decide) ?_
          obtain rfl := Option.some.inj hm
          exact rr_iret dX11_piece_38 rfl hp
theorem cc_X11_piece {x : vv_E} {h : vv_H} {v1 : Int32} {v2 : Int32} {v3 : Int32} {v4 : Int32} {o : Int32 × vv_H}  (hm : ff_X11_piece h v1 v2 v3 v4 = some o) : vv_C x vv_TC yX11_piece mm_X11_piece [.ref (vv_ad x 0), .int v1, .int v2, .int v3, .int v4] h (fun v g => v = some (.int o.1) ∧ g = o.2) := vv_entry (by decide +kernel) rfl (Nat.le_of_ble_eq_true rfl) rfl (vt_X11_piece  hm ⟨rfl, rfl⟩)
def ff_X11_pieceOf (h : vv_H) (v1 : Int32) (v2 : Int32) : Option (Int32) := (ff_X4_has h v1).bind (fun r1 => (if r1 = 0 then some (-1 : Int32) else (if v2 = 0 then vv_ck v1 36 (some (h.1 157 v1.toNatClampNeg)) else (if v2 = 1 then vv_ck v1 36 (some (h.1 158 v1.toNatClampNeg)) else (if v2 = 2 then vv_ck v1 36 (some (h.1 159 v1.toNatClampNeg)) else (if v2 = 3 then vv_ck v1 36 (some (h.1 160 v1.toNatClampNeg)) else (if v2 = 4 then vv_ck v1 36 (some (h.1 161 v1.toNatClampNeg)) else (if v2 = 5 then (ff_X4_wornBy h v1 (h.1 0 0)).bind (fun r8 => some r8) else (if v2 = 6 then vv_ck v1 36 (some (h.1 163 v1.toNatClampNeg)) else (if v2 = 7 then vv_ck v1 36 (some (h.1 164 v1.toNatClampNeg)) else (if v2 = 8 then vv_ck v1 36 (some (h.1 162 v1.toNatClampNeg)) else some (-1 : Int32))))))))))))
set_option maxHeartbeats 200000 in
theorem vt_X11_pieceOf {x : vv_E} {post : Option Value → vv_H → Prop} {h : vv_H} {v1 : Int32} {v2 : Int32} {o : Int32}  (hm : ff_X11_pieceOf  h v1 v2 = some o) (hp : post (some (.int o)) h) : vv_V x vv_TC mm_X11_pieceOf post 0 [some (.ref (vv_ad x 0)), some (.int v1), some (.int v2)] [] h := by
  unfold ff_X11_pieceOf at hm
  refine rr_aload_n (q := 1) dX11_pieceOf_0 rfl rfl ?_
  refine gf_X11_64 (q := 4) rfl dX11_pieceOf_1 rfl ?_
  refine rr_iload_n (q := 5) dX11_pieceOf_4 rfl rfl ?_
  obtain ⟨r1, k2, hm⟩ := vv_bind hm
  refine rr_callV (q := 8) (M' := mm_X4_has) (As := [.int v1]) (st := []) (w := some (.int r1)) (cc_X4_has  k2) rfl ylC_156 ynC_156 rfl vy_X4_has zw_243 ⟨Nat.le_of_ble_eq_true rfl, Nat.le_of_ble_eq_true rfl⟩ (Nat.le_of_ble_eq_true rfl) dX11_pieceOf_5 rfl ?_
  show vv_V x vv_TC mm_X11_pieceOf post 8 [some (.ref (vv_ad x 0)), some (.int v1), some (.int v2)] [.int r1] h
  refine rr_if_ne (q := 11) (tgt := 13) dX11_pieceOf_8 (by decide) rfl hm (fun hm => ?_) (fun hm => ?_)
  · refine rr_iload_n (q := 14) dX11_pieceOf_13 rfl rfl ?_
    by_cases c0s : v2 = (0 : Int32)
    · rw [if_pos c0s] at hm
      refine rr_tswI (tgt := 64) dX11_pieceOf_14 (by rw [c0s]; decide) (by rw [c0s]; decide) (by rw [c0s]; rfl) (by decide) ?_
      refine rr_aload_n (q := 65) dX11_pieceOf_64 rfl rfl ?_
      refine gf_X11_64 (q := 68) rfl dX11_pieceOf_65 rfl ?_
      refine gf_X11_247 (q := 71) rfl dX11_pieceOf_68 rfl ?_
      refine rr_iload_n (q := 72) dX11_pieceOf_71 rfl rfl ?_
      obtain ⟨c3, hm⟩ := vv_ck_of hm
      refine rr_iald (q := 73) ylC_157 ynC_157 c3 dX11_pieceOf_72 rfl ?_
      obtain rfl := Option.some.inj hm
      exact rr_iret dX11_pieceOf_73 rfl hp
    · rw [if_neg c0s] at hm
      by_cases c1s : v2 = (1 : Int32)
      · rw [if_pos c1s] at hm
        refine rr_tswI (tgt := 74) dX11_pieceOf_14 (by rw [c1s]; decide) (by rw [c1s]; decide) (by rw [c1s]; rfl) (by decide) ?_
        refine rr_aload_n (q := 75) dX11_pieceOf_74 rfl rfl ?_
        refine gf_X11_64 (q := 78) rfl dX11_pieceOf_75 rfl ?_
        refine gf_X11_250 (q := 81) rfl dX11_pieceOf_78 rfl ?_
        refine rr_iload_n (q := 82) dX11_pieceOf_81 rfl rfl ?_
        obtain ⟨c4, hm⟩ := vv_ck_of hm
        refine rr_iald (q := 83) ylC_158 ynC_158 c4 dX11_pieceOf_82 rfl ?_
        obtain rfl := Option.some.inj hm
        exact rr_iret dX11_pieceOf_83 rfl hp
      · rw [if_neg c1s] at hm
        by_cases c2s : v2 = (2 : Int32)
        · rw [if_pos c2s] at hm
          refine rr_tswI (tgt := 84) dX11_pieceOf_14 (by rw [c2s]; decide) (by rw [c2s]; decide) (by rw [c2s]; rfl) (by decide) ?_
          refine rr_aload_n (q := 85) dX11_pieceOf_84 rfl rfl ?_
          refine gf_X11_64 (q := 88) rfl dX11_pieceOf_85 rfl ?_
          refine gf_X11_253 (q := 91) rfl dX11_pieceOf_88 rfl ?_
          refine rr_iload_n (q := 92) dX11_pieceOf_91 rfl rfl ?_
          obtain ⟨c5, hm⟩ := vv_ck_of hm
          refine rr_iald (q := 93) ylC_159 ynC_159 c5 dX11_pieceOf_92 rfl ?_
          obtain rfl := Option.some.inj hm
          exact rr_iret dX11_pieceOf_93 rfl hp
        · rw [if_neg c2s] at hm
          by_cases c3s : v2 = (3 : Int32)
          · rw [if_pos c3s] at hm
            refine rr_tswI (tgt := 94) dX11_pieceOf_14 (by rw [c3s]; decide) (by rw [c3s]; decide) (by rw [c3s]; rfl) (by decide) ?_
            refine rr_aload_n (q := 95) dX11_pieceOf_94 rfl rfl ?_
            refine gf_X11_64 (q := 98) rfl dX11_pieceOf_95 rfl ?_
            refine gf_X11_256 (q := 101) rfl dX11_pieceOf_98 rfl ?_
            refine rr_iload_n (q := 102) dX11_pieceOf_101 rfl rfl ?_
            obtain ⟨c6, hm⟩ := vv_ck_of hm
            refine rr_iald (q := 103) ylC_160 ynC_160 c6 dX11_pieceOf_102 rfl ?_
            obtain rfl := Option.some.inj hm
            exact rr_iret dX11_pieceOf_103 rfl hp
          · rw [if_neg c3s] at hm
            by_cases c4s : v2 = (4 : Int32)
            · rw [if_pos c4s] at hm
              refine rr_tswI (tgt := 104) dX11_pieceOf_14 (by rw [c4s]; decide) (by rw [c4s]; decide) (by rw [c4s]; rfl) (by decide) ?_
              refine rr_aload_n (q := 105) dX11_pieceOf_104 rfl rfl ?_
              refine gf_X11_64 (q := 108) rfl dX11_pieceOf_105 rfl ?_
              refine gf_X11_259 (q := 111) rfl dX11_pieceOf_108 rfl ?_
              refine rr_iload_n (q := 112) dX11_pieceOf_111 rfl rfl ?_
              obtain ⟨c7, hm⟩ := vv_ck_of hm
              refine rr_iald (q := 113) ylC_161 ynC_161 c7 dX11_pieceOf_112 rfl ?_
              obtain rfl := Option.some.inj hm
              exact rr_iret dX11_pieceOf_113 rfl hp
            · rw [if_neg c4s] at hm
              by_cases c5s : v2 = (5 : Int32)
              · rw [if_pos c5s] at hm
                refine rr_tswI (tgt := 114) dX11_pieceOf_14 (by rw [c5s]; decide) (by rw [c5s]; decide) (by rw [c5s]; rfl) (by decide) ?_
                refine rr_aload_n (q := 115) dX11_pieceOf_114 rfl rfl ?_
                refine gf_X11_64 (q := 118) rfl dX11_pieceOf_115 rfl ?_
                refine rr_iload_n (q := 119) dX11_pieceOf_118 rfl rfl ?_
                refine rr_aload_n (q := 120) dX11_pieceOf_119 rfl rfl ?_
                refine gf_X11_89 (q := 123) rfl dX11_pieceOf_120 rfl ?_
                obtain ⟨r8, k9, hm⟩ := vv_bind hm
                refine rr_callV (q := 126) (M' := mm_X4_wornBy) (As := [.int v1, .int (h.1 0 0)]) (st := []) (w := some (.int r8)) (cc_X4_wornBy  k9) rfl ylC_156 ynC_156 rfl vy_X4_wornBy zw_445 ⟨Nat.le_of_ble_eq_true rfl, Nat.le_of_ble_eq_true rfl⟩ (Nat.le_of_ble_eq_true rfl) dX11_pieceOf_123 rfl ?_
                show vv_V x vv_TC mm_X11_pieceOf post 126 [some (.ref (vv_ad x 0)), some (.int v1), some (.int v2)] [.int r8] h
                obtain rfl := Option.some.inj hm
                exact rr_iret dX11_pieceOf_126 rfl hp
              · rw [if_neg c5s] at hm
                by_cases c6s : v2 = (6 : Int32)
                · rw [if_pos c6s] at hm
                  refine rr_tswI (tgt := 127) dX11_pieceOf_14 (by rw [c6s]; decide) (by rw [c6s]; decide) (by rw [c6s]; rfl) (by decide) ?_
                  refine rr_aload_n (q := 128) dX11_pieceOf_127 rfl rfl ?_
                  refine gf_X11_64 (q := 131) rfl dX11_pieceOf_128 rfl ?_
                  refine gf_X11_265 (q := 134) rfl dX11_pieceOf_131 rfl ?_
                  refine rr_iload_n (q := 135) dX11_pieceOf_134 rfl rfl ?_
                  obtain ⟨c10, hm⟩ := vv_ck_of hm
                  refine rr_iald (q := 136) ylC_163 ynC_163 c10 dX11_pieceOf_135 rfl ?_
                  obtain rfl := Option.some.inj hm
                  exact rr_iret dX11_pieceOf_136 rfl hp
                · rw [if_neg c6s] at hm
                  by_cases c7s : v2 = (7 : Int32)
                  · rw [if_pos c7s] at hm
                    refine rr_tswI (tgt := 137) dX11_pieceOf_14 (by rw [c7s]; decide) (by rw [c7s]; decide) (by rw [c7s]; rfl) (by decide) ?_
                    refine rr_aload_n (q := 138) dX11_pieceOf_137 rfl rfl ?_
                    refine gf_X11_64 (q := 141) rfl dX11_pieceOf_138 rfl ?_
                    refine gf_X11_268 (q := 144) rfl dX11_pieceOf_141 rfl ?_
                    refine rr_iload_n (q := 145) dX11_pieceOf_144 rfl rfl ?_
                    obtain ⟨c11, hm⟩ := vv_ck_of hm
                    refine rr_iald (q := 146) ylC_164 ynC_164 c11 dX11_pieceOf_145 rfl ?_
                    obtain rfl := Option.some.inj hm
                    exact rr_iret dX11_pieceOf_146 rfl hp
                  · rw [if_neg c7s] at hm
                    by_cases c8s : v2 = (8 : Int32)
                    · rw [if_pos c8s] at hm
                      refine rr_tswI (tgt := 147) dX11_pieceOf_14 (by rw [c8s]; decide) (by rw [c8s]; decide) (by rw [c8s]; rfl) (by decide) ?_
                      refine rr_aload_n (q := 148) dX11_pieceOf_147 rfl rfl ?_
                      refine gf_X11_64 (q := 151) rfl dX11_pieceOf_148 rfl ?_
                      refine gf_X11_271 (q := 154) rfl dX11_pieceOf_151 rfl ?_
                      refine rr_iload_n (q := 155) dX11_pieceOf_154 rfl rfl ?_
                      obtain ⟨c12, hm⟩ := vv_ck_of hm
                      refine rr_iald (q := 156) ylC_162 ynC_162 c12 dX11_pieceOf_155 rfl ?_
                      obtain rfl := Option.some.inj hm
                      exact rr_iret dX11_pieceOf_156 rfl hp
                    · rw [if_neg c8s] at hm
                      refine rr_tswO (tgt := 157) dX11_pieceOf_14 (by have y0 : v2.toInt ≠ 0 := fun e => c0s (Int32.toInt_inj.mp (e.trans (by decide))); have y1 : v2.toInt ≠ 1 := fun e => c1s (Int32.toInt_inj.mp (e.trans (by decide))); have y2 : v2.toInt ≠ 2 := fun e => c2s (Int32.toInt_inj.mp (e.trans (by decide))); have y3 : v2.toInt ≠ 3 := fun e => c3s (Int32.toInt_inj.mp (e.trans (by decide))); have y4 : v2.toInt ≠ 4 := fun e => c4s (Int32.toInt_inj.mp (e.trans (by decide))); have y5 : v2.toInt ≠ 5 := fun e => c5s (Int32.toInt_inj.mp (e.trans (by decide))); have y6 : v2.toInt ≠ 6 := fun e => c6s (Int32.toInt_inj.mp (e.trans (by decide))); have y7 : v2.toInt ≠ 7 := fun e => c7s (Int32.toInt_inj.mp (e.trans (by decide))); have y8 : v2.toInt ≠ 8 := fun e => c8s (Int32.toInt_inj.mp (e.trans (by decide))); omega) (by decide) ?_
                      refine rr_iconst (q := 158) (v := -1) dX11_pieceOf_157 rfl (by decide) ?_
                      obtain rfl := Option.some.inj hm
                      exact rr_iret dX11_pieceOf_158 rfl hp
  · refine rr_iconst (q := 12) (v := -1) dX11_pieceOf_11 rfl (by decide) ?_
    obtain rfl := Option.some.inj hm
    exact rr_iret dX11_pieceOf_12 rfl hp
theorem cc_X11_pieceOf {x : vv_E} {h : vv_H} {v1 : Int32} {v2 : Int32} {o : Int32}  (hm : ff_X11_pieceOf h v1 v2 = some o) : vv_C x vv_TC yX11_pieceOf mm_X11_pieceOf [.ref (vv_ad x 0), .int v1, .int v2] h (fun v g => v = some (.int o) ∧ g = h) := vv_entry (by decide +kernel) rfl (Nat.le_of_ble_eq_true rfl) rfl (vt_X11_pieceOf  hm ⟨rfl, rfl⟩)
def ff_X11_stock (h : vv_H) (v1 : Int32) (v2 : Int32) : Option (Int32) := (ff_X9_has h v1).bind (fun r1 => (if r1 = 0 then some (-1 : Int32) else (ff_X11_isKind v2).bind (fun r3 => (if r3 = 0 then some (-1 : Int32) else (ff_X11_stockOf h v1 v2).bind (fun r5 => some r5)))))
set_option maxHeartbeats 200000 in
theorem vt_X11_stock {x : vv_E} {post : Option Value → vv_H → Prop} {h : vv_H} {v1 : Int32} {v2 : Int32} {o : Int32}  (hm : ff_X11_stock  h v1 v2 = some o) (hp : post (some (.int o)) h) : vv_V x vv_TC mm_X11_stock post 0 [some (.ref (vv_ad x 0)), some (.int v1), some (.int v2)] [] h := by
  unfold ff_X11_stock at hm
  refine rr_aload_n (q := 1) dX11_stock_0 rfl rfl ?_
  refine gf_X11_57 (q := 4) rfl dX11_stock_1 rfl ?_
  refine rr_iload_n (q := 5) dX11_stock_4 rfl rfl ?_
  obtain ⟨r1, k2, hm⟩ := vv_bind hm
  refine rr_callV (q := 8) (M' := mm_X9_has) (As := [.int v1]) (st := []) (w := some (.int r1)) (cc_X9_has  k2) rfl ylC_146 ynC_146 rfl vy_X9_has zw_237 ⟨Nat.le_of_ble_eq_true rfl, Nat.le_of_ble_eq_true rfl⟩ (Nat.le_of_ble_eq_true rfl) dX11_stock_5 rfl ?_
  show vv_V x vv_TC mm_X11_stock post 8 [some (.ref (vv_ad x 0)), some (.int v1), some (.int v2)] [.int r1] h
  refine rr_if_eq (q := 11) (tgt := 18) dX11_stock_8 (by decide) rfl hm (fun hm => ?_) (fun hm => ?_)
  · refine rr_iconst (q := 19) (v := -1) dX11_stock_18 rfl (by decide) ?_
    obtain rfl := Option.some.inj hm
    exact rr_iret dX11_stock_19 rfl hp
  · refine rr_iload_n (q := 12) dX11_stock_11 rfl rfl ?_
    obtain ⟨r3, k4, hm⟩ := vv_bind hm
    refine rr_callS (q := 15) (M' := mm_X11_isKind) (As := [.int v2]) (st := []) (w := some (.int r3))  (cc_X11_isKind  k4) rfl vy_X11_isKind zw_408 ⟨Nat.le_of_ble_eq_true rfl, Nat.le_of_ble_eq_true rfl⟩ (Nat.le_of_ble_eq_true rfl) dX11_stock_12 rfl ?_
    show vv_V x vv_TC mm_X11_stock post 15 [some (.ref (vv_ad x 0)), some (.int v1), some (.int v2)] [.int r3] h
    refine rr_if_ne (q := 18) (tgt := 20) dX11_stock_15 (by decide) rfl hm (fun hm => ?_) (fun hm => ?_)
    · refine rr_aload_n (q := 21) dX11_stock_20 rfl rfl ?_
      refine rr_iload_n (q := 22) dX11_stock_21 rfl rfl ?_
      refine rr_iload_n (q := 23) dX11_stock_22 rfl rfl ?_
      obtain ⟨r5, k6, hm⟩ := vv_bind hm
      refine rr_callV (q := 26) (M' := mm_X11_stockOf) (As := [.int v1, .int v2]) (st := []) (w := some (.int r5)) (cc_X11_stockOf  k6) rfl ylC_0 ynC_0 rfl vy_X11_stockOf zw_453 ⟨Nat.le_of_ble_eq_true rfl, Nat.le_of_ble_eq_true rfl⟩ (Nat.le_of_ble_eq_true rfl) dX11_stock_23 rfl ?_
      show vv_V x vv_TC mm_X11_stock post 26 [some (.ref (vv_ad x 0)), some (.int v1), some (.int v2)] [.int r5] h
      obtain rfl := Option.some.inj hm
      exact rr_iret dX11_stock_26 rfl hp
    · refine rr_iconst (q := 19) (v := -1) dX11_stock_18 rfl (by decide) ?_
      obtain rfl := Option.some.inj hm
      exact rr_iret dX11_stock_19 rfl hp
theorem cc_X11_stock {x : vv_E} {h : vv_H} {v1 : Int32} {v2 : Int32} {o : Int32}  (hm : ff_X11_stock h v1 v2 = some o) : vv_C x vv_TC yX11_stock mm_X11_stock [.ref (vv_ad x 0), .int v1, .int v2] h (fun v g => v = some (.int o) ∧ g = h) := vv_entry (by decide +kernel) rfl (Nat.le_of_ble_eq_true rfl) rfl (vt_X11_stock  hm ⟨rfl, rfl⟩)
def ff_X11_lot (h : vv_H) (v1 : Int32) (v2 : Int32) : Option (Int64) := (ff_X11_isLot v1).bind (fun r1 => (if r1 = 0 then some (-1 : Int64) else (ff_X11_isWithin v2 (0 : Int32) (3 : Int32)).bind (fun r3 => (if r3 = 0 then some (-1 : Int64) else (if v2 = 0 then (ff_X4_countOfLot h v1).bind (fun r19 => some r19.toInt64) else (if v2 = (1 : Int32) then (ff_X4_countFailed h v1).bind (fun r17 => some r17.toInt64) else (ff_X4_waysAsBad h v1).bind (fun r5 => (ff_X4_countAllFailed h).bind (fun r7 => (ff_X11_waysToDraw (h.1 156 0) r7).bind (fun r9 => (ff_X11_commonDivisor r5 r9).bind (fun r11 => vv_let (if r11 < (1 : Int64) then (1 : Int64) else r11) (fun w13 => (if v2 = (2 : Int32) then vv_nzl w13 (some (r5 / w13)) else vv_nzl w13 (some (r9 / w13))))))))))))))
set_option maxHeartbeats 200000 in
theorem vt_X11_lot {x : vv_E} {post : Option Value → vv_H → Prop} {h : vv_H} {v1 : Int32} {v2 : Int32} {o : Int64}  (hm : ff_X11_lot  h v1 v2 = some o) (hp : post (some (.long o)) h) : vv_V x vv_TC mm_X11_lot post 0 [some (.ref (vv_ad x 0)), some (.int v1), some (.int v2), none, none, none, none, none, none] [] h := by
  unfold ff_X11_lot at hm
  refine rr_iload_n (q := 1) dX11_lot_0 rfl rfl ?_
  obtain ⟨r1, k2, hm⟩ := vv_bind hm
  refine rr_callS (q := 4) (M' := mm_X11_isLot) (As := [.int v1]) (st := []) (w := some (.int r1))  (cc_X11_isLot  k2) rfl vy_X11_isLot zw_432 ⟨Nat.le_of_ble_eq_true rfl, Nat.le_of_ble_eq_true rfl⟩ (Nat.le_of_ble_eq_true rfl) dX11_lot_1 rfl ?_
  show vv_V x vv_TC mm_X11_lot post 4 [some (.ref (vv_ad x 0)), some (.int v1), some (.int v2), none, none, none, none, none, none] [.int r1] h
  refine rr_if_eq (q := 7) (tgt := 16) dX11_lot_4 (by decide) rfl hm (fun hm => ?_) (fun hm => ?_)
  · refine rr_ldc2 (q := 19) dX11_lot_16 rfl zw_454 ?_
    obtain rfl := Option.some.inj hm
    exact rr_lret dX11_lot_19 rfl hp
  · refine rr_iload_n (q := 8) dX11_lot_7 rfl rfl ?_
    refine rr_iconst (q := 9) (v := 0) dX11_lot_8 rfl (by decide) ?_
    refine rr_iconst (q := 10) (v := 3) dX11_lot_9 rfl (by decide) ?_
    obtain ⟨r3, k4, hm⟩ := vv_bind hm
    refine rr_callS (q := 13) (M' := mm_X11_isWithin) (As := [.int v2, .int (0 : Int32), .int (3 : Int32)]) (st := []) (w := some (.int r3))  (cc_X11_isWithin  k4) rfl vy_X11_isWithin zw_219 ⟨Nat.le_of_ble_eq_true rfl, Nat.le_of_ble_eq_true rfl⟩ (Nat.le_of_ble_eq_true rfl) dX11_lot_10 rfl ?_
    show vv_V x vv_TC mm_X11_lot post 13 [some (.ref (vv_ad x 0)), some (.int v1), some (.int v2), none, none, none, none, none, none] [.int r3] h
    refine rr_if_ne (q := 16) (tgt := 20) dX11_lot_13 (by decide) rfl hm (fun hm => ?_) (fun hm => ?_)
    · refine rr_iload_n (q := 21) dX11_lot_20 rfl rfl ?_
      refine rr_if_ne (q := 24) (tgt := 34) dX11_lot_21 (by decide) rfl hm (fun hm => ?_) (fun hm => ?_)
      · refine rr_iload_n (q := 35) dX11_lot_34 rfl rfl ?_
        refine rr_iconst (q := 36) (v := 1) dX11_lot_35 rfl (by decide) ?_
        refine rr_icmp_ne (q := 39) (tgt := 49) dX11_lot_36 (by decide) rfl hm (fun hm => ?_) (fun hm => ?_)
        · refine rr_aload_n (q := 50) dX11_lot_49 rfl rfl ?_
          refine gf_X11_64 (q := 53) rfl dX11_lot_50 rfl ?_
          refine rr_iload_n (q := 54) dX11_lot_53 rfl rfl ?_
          obtain ⟨r5, k6, hm⟩ := vv_bind hm
          refine rr_callV (q := 57) (M' := mm_X4_waysAsBad) (As := [.int v1]) (st := []) (w := some (.long r5)) (cc_X4_waysAsBad  k6) rfl ylC_156 ynC_156 rfl vy_X4_waysAsBad zw_459 ⟨Nat.le_of_ble_eq_true rfl, Nat.le_of_ble_eq_true rfl⟩ (Nat.le_of_ble_eq_true rfl) dX11_lot_54 rfl ?_
          show vv_V x vv_TC mm_X11_lot post 57 [some (.ref (vv_ad x 0)), some (.int v1), some (.int v2), none, none, none, none, none, none] [.long r5] h
          refine rr_lstore_n (q := 58) [some (.ref (vv_ad x 0)), some (.int v1), some (.int v2), some (.long r5), none, none, none, none, none] dX11_lot_57 rfl rfl (Nat.le_of_ble_eq_true rfl) rfl rfl ?_
          refine rr_aload_n (q := 59) dX11_lot_58 rfl rfl ?_
          refine gf_X11_64 (q := 62) rfl dX11_lot_59 rfl ?_
          refine gf_X11_339 (q := 65) rfl dX11_lot_62 rfl ?_
          refine rr_aload_n (q := 66) dX11_lot_65 rfl rfl ?_
          refine gf_X11_64 (q := 69) rfl dX11_lot_66 rfl ?_
          obtain ⟨r7, k8, hm⟩ := vv_bind hm
          refine rr_callV (q := 72) (M' := mm_X4_countAllFailed) (As := []) (st := [.int (h.1 156 0)]) (w := some (.int r7)) (cc_X4_countAllFailed  k8) rfl ylC_156 ynC_156 rfl vy_X4_countAllFailed zw_460 ⟨Nat.le_of_ble_eq_true rfl, Nat.le_of_ble_eq_true rfl⟩ (Nat.le_of_ble_eq_true rfl) dX11_lot_69 rfl ?_
          show vv_V x vv_TC mm_X11_lot post 72 [some (.ref (vv_ad x 0)), some (.int v1), some (.int v2), some (.long r5), none, none, none, none, none] [.int r7, .int (h.1 156 0)] h
          obtain ⟨r9, k10, hm⟩ := vv_bind hm
          refine rr_callS (q := 75) (M' := mm_X11_waysToDraw) (As := [.int (h.1 156 0), .int r7]) (st := []) (w := some (.long r9))  (cc_X11_waysToDraw  k10) rfl vy_X11_waysToDraw zw_461 ⟨Nat.le_of_ble_eq_true rfl, Nat.le_of_ble_eq_true rfl⟩ (Nat.le_of_ble_eq_true rfl) dX11_lot_72 rfl ?_
          show vv_V x vv_TC mm_X11_lot post 75 [some (.ref (vv_ad x 0)), some (.int v1), some (.int v2), some (.long r5), none, none, none, none, none] [.long r9] h
          refine rr_lstore (q := 77) [some (.ref (vv_ad x 0)), some (.int v1), some (.int v2), some (.long r5), none, some (.long r9), none, none, none] dX11_lot_75 rfl (Nat.le_of_ble_eq_true rfl) rfl rfl ?_
          refine rr_lconst (q := 78) (v := 1) dX11_lot_77 rfl (by decide) ?_
          refine rr_lload_n (q := 79) dX11_lot_78 rfl rfl ?_
          refine rr_lload (q := 81) dX11_lot_79 rfl rfl ?_
          obtain ⟨r11, k12, hm⟩ := vv_bind hm
          refine rr_callS (q := 84) (M' := mm_X11_commonDivisor) (As := [.long r5, .long r9]) (st := [.long (1 : Int64)]) (w := some (.long r11))  (cc_X11_commonDivisor  k12) rfl vy_X11_commonDivisor zw_465 ⟨Nat.le_of_ble_eq_true rfl, Nat.le_of_ble_eq_true rfl⟩ (Nat.le_of_ble_eq_true rfl) dX11_lot_81 rfl ?_
          show vv_V x vv_TC mm_X11_lot post 84 [some (.ref (vv_ad x 0)), some (.int v1), some (.int v2), some (.long r5), none, some (.long r9), none, none, none] [.long r11, .long (1 : Int64)] h
          refine rr_mmaxl (q := 87) zw_466 zw_467 zw_126 zw_468 (Nat.le_of_ble_eq_true rfl) (Nat.le_of_ble_eq_true rfl) dX11_lot_84 rfl ?_
          obtain ⟨w13, c14, hm⟩ := vv_let_of hm
          rw [← c14]
          refine rr_lstore (q := 89) [some (.ref (vv_ad x 0)), some (.int v1), some (.int v2), some (.long r5), none, some (.long r9), none, some (.long w13), none] dX11_lot_87 rfl (Nat.le_of_ble_eq_true rfl) rfl rfl ?_
          refine rr_iload_n (q := 90) dX11_lot_89 rfl rfl ?_
          refine rr_iconst (q := 91) (v := 2) dX11_lot_90 rfl (by decide) ?_
          refine rr_icmp_ne (q := 94) (tgt := 101) dX11_lot_91 (by decide) rfl hm (fun hm => ?_) (fun hm => ?_)
          · refine rr_lload (q := 103) dX11_lot_101 rfl rfl ?_
            refine rr_lload (q := 105) dX11_lot_103 rfl rfl ?_
            obtain ⟨c15, hm⟩ := vv_nzl_of hm
            refine rr_ldiv (q := 106) dX11_lot_105 rfl c15 ?_
            obtain rfl := Option.some.inj hm
            exact rr_lret dX11_lot_106 rfl hp
          · refine rr_lload_n (q := 95) dX11_lot_94 rfl rfl ?_
            refine rr_lload (q := 97) dX11_lot_95 rfl rfl ?_
            obtain ⟨c16, hm⟩ := vv_nzl_of hm
            refine rr_ldiv (q := 98) dX11_lot_97 rfl c16 ?_
            refine rr_goto (tgt := 106) dX11_lot_98 (by decide) ?_
            obtain rfl := Option.some.inj hm
            exact rr_lret dX11_lot_106 rfl hp
        · refine rr_aload_n (q := 40) dX11_lot_39 rfl rfl ?_
          refine gf_X11_64 (q := 43) rfl dX11_lot_40 rfl ?_
          refine rr_iload_n (q := 44) dX11_lot_43 rfl rfl ?_
          obtain ⟨r17, k18, hm⟩ := vv_bind hm
          refine rr_callV (q := 47) (M' := mm_X4_countFailed) (As := [.int v1]) (st := []) (w := some (.int r17)) (cc_X4_countFailed  k18) rfl ylC_156 ynC_156 rfl vy_X4_countFailed zw_469 ⟨Nat.le_of_ble_eq_true rfl, Nat.le_of_ble_eq_true rfl⟩ (Nat.le_of_ble_eq_true rfl) dX11_lot_44 rfl ?_
          show vv_V x vv_TC mm_X11_lot post 47 [some (.ref (vv_ad x 0)), some (.int v1), some (.int v2), none, none, none, none, none, none] [.int r17] h
          refine rr_i2l (q := 48) dX11_lot_47 rfl ?_
          obtain rfl := Option.some.inj hm
          exact rr_lret dX11_lot_48 rfl hp
      · refine rr_aload_n (q := 25) dX11_lot_24 rfl rfl ?_
        refine gf_X11_64 (q := 28) rfl dX11_lot_25 rfl ?_
        refine rr_iload_n (q := 29) dX11_lot_28 rfl rfl ?_
        obtain ⟨r19, k20, hm⟩ := vv_bind hm
        refine rr_callV (q := 32) (M' := mm_X4_countOfLot) (As := [.int v1]) (st := []) (w := some (.int r19)) (cc_X4_countOfLot  k20) rfl ylC_156 ynC_156 rfl vy_X4_countOfLot zw_470 ⟨Nat.le_of_ble_eq_true rfl, Nat.le_of_ble_eq_true rfl⟩ (Nat.le_of_ble_eq_true rfl) dX11_lot_29 rfl ?_
        show vv_V x vv_TC mm_X11_lot post 32 [some (.ref (vv_ad x 0)), some (.int v1), some (.int v2), none, none, none, none, none, none] [.int r19] h
        refine rr_i2l (q := 33) dX11_lot_32 rfl ?_
        obtain rfl := Option.some.inj hm
        exact rr_lret dX11_lot_33 rfl hp
    · refine rr_ldc2 (q := 19) dX11_lot_16 rfl zw_454 ?_
      obtain rfl := Option.some.inj hm
      exact rr_lret dX11_lot_19 rfl hp
theorem cc_X11_lot {x : vv_E} {h : vv_H} {v1 : Int32} {v2 : Int32} {o : Int64}  (hm : ff_X11_lot h v1 v2 = some o) : vv_C x vv_TC yX11_lot mm_X11_lot [.ref (vv_ad x 0), .int v1, .int v2] h (fun v g => v = some (.long o) ∧ g = h) := vv_entry (by decide +kernel) rfl (Nat.le_of_ble_eq_true rfl) rfl (vt_X11_lot  hm ⟨rfl, rfl⟩)
def ff_X11_worst_B27 (h : vv_H) (s1 : Int32) (s2 : Int64) (s4 : Int32) : Option ((Int32 × Int64 × Int32) ⊕ ((Int32))) := (if (6 : Int32) ≤ s4 then some (.inr s1) else (ff_X4_waysAsBad h s4).bind (fun r5 => (if 0 ≤ (lg_cmp r5 s2) then vv_let (s4 + 1) (fun w7 => some (.inl (s1, s2, w7))) else vv_let (s4 + 1) (fun w9 => some (.inl (s4, r5, w9))))))
def ff_X11_worst (h : vv_H) : Option (Int32) := (ff_X4_countAllFailed h).bind (fun r1 => (if r1 = 0 then some (-4 : Int32) else (ff_X4_waysAsBad h (0 : Int32)).bind (fun r3 => (vv_lp (fun (zs : Int32 × Int64 × Int32) => ff_X11_worst_B27  h zs.1 zs.2.1 zs.2.2) vv_F ((0 : Int32), r3, (1 : Int32))).bind (fun (e12 : (Int32)) => some e12))))
set_option maxHeartbeats 200000 in
theorem vt_X11_worst_B27 {x : vv_E} {post : Option Value → vv_H → Prop} {h : vv_H} {s1 : Int32} {s2 : Int64} {s4 : Int32} {o : (Int32 × Int64 × Int32) ⊕ ((Int32))}  (hm : ff_X11_worst_B27  h s1 s2 s4 = some o) (hI : ∀ (z1 : Int32) (z2 : Int64) (z4 : Int32) , o = .inl (z1, z2, z4) → vv_V x vv_TC mm_X11_worst post 27 [some (.ref (vv_ad x 0)), some (.int z1), some (.long z2), none, some (.int z4), none, none] [] h) (hX0 : ∀ (z1 : Int32), o = .inr z1 → vv_V x vv_TC mm_X11_worst post 64 [none, some (.int z1), none, none, none, none, none] [] h) : vv_V x vv_TC mm_X11_worst post 27 [some (.ref (vv_ad x 0)), some (.int s1), some (.long s2), none, some (.int s4), none, none] [] h := by
  unfold ff_X11_worst_B27 at hm
  refine rr_iload (q := 29) dX11_worst_27 rfl rfl ?_
  refine rr_bipush (q := 31) (v := 6) dX11_worst_29 rfl (by decide) ?_
  refine rr_icmp_ge (q := 34) (tgt := 64) dX11_worst_31 (by decide) rfl hm (fun hm => ?_) (fun hm => ?_)
  · obtain rfl := Option.some.inj hm
    refine rr_sub [false, true, false, false, false, false, false] rfl ?_
    exact hX0 s1 rfl
  · refine rr_aload_n (q := 35) dX11_worst_34 rfl rfl ?_
    refine gf_X11_64 (q := 38) rfl dX11_worst_35 rfl ?_
    refine rr_iload (q := 40) dX11_worst_38 rfl rfl ?_
    obtain ⟨r5, k6, hm⟩ := vv_bind hm
    refine rr_callV (q := 43) (M' := mm_X4_waysAsBad) (As := [.int s4]) (st := []) (w := some (.long r5)) (cc_X4_waysAsBad  k6) rfl ylC_156 ynC_156 rfl vy_X4_waysAsBad zw_459 ⟨Nat.le_of_ble_eq_true rfl, Nat.le_of_ble_eq_true rfl⟩ (Nat.le_of_ble_eq_true rfl) dX11_worst_40 rfl ?_
    show vv_V x vv_TC mm_X11_worst post 43 [some (.ref (vv_ad x 0)), some (.int s1), some (.long s2), none, some (.int s4), none, none] [.long r5] h
    refine rr_lstore (q := 45) [some (.ref (vv_ad x 0)), some (.int s1), some (.long s2), none, some (.int s4), some (.long r5), none] dX11_worst_43 rfl (Nat.le_of_ble_eq_true rfl) rfl rfl ?_
    refine rr_lload (q := 47) dX11_worst_45 rfl rfl ?_
    refine rr_lload_n (q := 48) dX11_worst_47 rfl rfl ?_
    refine rr_lcmp (q := 49) dX11_worst_48 rfl ?_
    refine rr_if_ge (q := 52) (tgt := 58) dX11_worst_49 (by decide) rfl hm (fun hm => ?_) (fun hm => ?_)
    · obtain ⟨w7, c8, hm⟩ := vv_let_of hm
      refine rr_iinc (q := 61) [some (.ref (vv_ad x 0)), some (.int s1), some (.long s2), none, some (.int w7), some (.long r5), none] dX11_worst_58 rfl rfl c8.symm (Nat.le_of_ble_eq_true rfl) rfl rfl ?_
      refine rr_goto (tgt := 27) dX11_worst_61 (by decide) ?_
      obtain rfl := Option.some.inj hm
      refine rr_sub [true, true, true, false, true, false, false] rfl ?_
      exact hI s1 s2 w7 rfl
    · refine rr_lload (q := 54) dX11_worst_52 rfl rfl ?_
      refine rr_lstore_n (q := 55) [some (.ref (vv_ad x 0)), some (.int s1), some (.long r5), none, some (.int s4), some (.long r5), none] dX11_worst_54 rfl rfl (Nat.le_of_ble_eq_true rfl) rfl rfl ?_
      refine rr_iload (q := 57) dX11_worst_55 rfl rfl ?_
      refine rr_istore_n (q := 58) [some (.ref (vv_ad x 0)), some (.int s4), some (.long r5), none, some (.int s4), some (.long r5), none] dX11_worst_57 rfl rfl (Nat.le_of_ble_eq_true rfl) rfl rfl ?_
      obtain ⟨w9, c10, hm⟩ := vv_let_of hm
      refine rr_iinc (q := 61) [some (.ref (vv_ad x 0)), some (.int s4), some (.long r5), none, some (.int w9), some (.long r5), none] dX11_worst_58 rfl rfl c10.symm (Nat.le_of_ble_eq_true rfl) rfl rfl ?_
      refine rr_goto (tgt := 27) dX11_worst_61 (by decide) ?_
      obtain rfl := Option.some.inj hm
      refine rr_sub [true, true, true, false, true, false, false] rfl ?_
      exact hI s4 r5 w9 rfl
set_option maxHeartbeats 200000 in
theorem vt_X11_worst {x : vv_E} {post : Option Value → vv_H → Prop} {h : vv_H} {o : Int32}  (hm : ff_X11_worst  h = some o) (hp : post (some (.int o)) h) : vv_V x vv_TC mm_X11_worst post 0 [some (.ref (vv_ad x 0)), none, none, none, none, none, none] [] h := by
  unfold ff_X11_worst at hm
  refine rr_aload_n (q := 1) dX11_worst_0 rfl rfl ?_
  refine gf_X11_64 (q := 4) rfl dX11_worst_1 rfl ?_
  obtain ⟨r1, k2, hm⟩ := vv_bind hm
  refine rr_callV (q := 7) (M' := mm_X4_countAllFailed) (As := []) (st := []) (w := some (.int r1)) (cc_X4_countAllFailed  k2) rfl ylC_156 ynC_156 rfl vy_X4_countAllFailed zw_460 ⟨Nat.le_of_ble_eq_true rfl, Nat.le_of_ble_eq_true rfl⟩ (Nat.le_of_ble_eq_true rfl) dX11_worst_4 rfl ?_
  show vv_V x vv_TC mm_X11_worst post 7 [some (.ref (vv_ad x 0)), none, none, none, none, none, none] [.int r1] h
  refine rr_if_ne (q := 10) (tgt := 13) dX11_worst_7 (by decide) rfl hm (fun hm => ?_) (fun hm => ?_)
  · refine rr_iconst (q := 14) (v := 0) dX11_worst_13 rfl (by decide) ?_
    refine rr_istore_n (q := 15) [some (.ref (vv_ad x 0)), some (.int (0 : Int32)), none, none, none, none, none] dX11_worst_14 rfl rfl (Nat.le_of_ble_eq_true rfl) rfl rfl ?_
    refine rr_aload_n (q := 16) dX11_worst_15 rfl rfl ?_
    refine gf_X11_64 (q := 19) rfl dX11_worst_16 rfl ?_
    refine rr_iconst (q := 20) (v := 0) dX11_worst_19 rfl (by decide) ?_
    obtain ⟨r3, k4, hm⟩ := vv_bind hm
    refine rr_callV (q := 23) (M' := mm_X4_waysAsBad) (As := [.int (0 : Int32)]) (st := []) (w := some (.long r3)) (cc_X4_waysAsBad  k4) rfl ylC_156 ynC_156 rfl vy_X4_waysAsBad zw_459 ⟨Nat.le_of_ble_eq_true rfl, Nat.le_of_ble_eq_true rfl⟩ (Nat.le_of_ble_eq_true rfl) dX11_worst_20 rfl ?_
    show vv_V x vv_TC mm_X11_worst post 23 [some (.ref (vv_ad x 0)), some (.int (0 : Int32)), none, none, none, none, none] [.long r3] h
    refine rr_lstore_n (q := 24) [some (.ref (vv_ad x 0)), some (.int (0 : Int32)), some (.long r3), none, none, none, none] dX11_worst_23 rfl rfl (Nat.le_of_ble_eq_true rfl) rfl rfl ?_
    refine rr_iconst (q := 25) (v := 1) dX11_worst_24 rfl (by decide) ?_
    refine rr_istore (q := 27) [some (.ref (vv_ad x 0)), some (.int (0 : Int32)), some (.long r3), none, some (.int (1 : Int32)), none, none] dX11_worst_25 rfl (Nat.le_of_ble_eq_true rfl) rfl rfl ?_
    obtain ⟨r11, k13, hm⟩ := vv_bind hm
    refine vv_lp_link (P := fun (zs : Int32 × Int64 × Int32) => vv_V x vv_TC mm_X11_worst post 27 [some (.ref (vv_ad x 0)), some (.int zs.1), some (.long zs.2.1), none, some (.int zs.2.2), none, none] [] h) (Q := (fun (e12 : (Int32)) => vv_V x vv_TC mm_X11_worst post 64 [none, some (.int e12), none, none, none, none, none] [] h)) (fun zs o hm hI hX => ?_) vv_F ((0 : Int32), r3, (1 : Int32)) r11 k13 ?_
    · exact vt_X11_worst_B27   hm (fun z1 z2 z4 e => hI (z1, z2, z4) e) (fun z1 e => hX z1 e)
    · generalize r11 = e12 at hm ⊢
      try dsimp only [Sum.elim_inl, Sum.elim_inr] at hm
      try dsimp only [Sum.elim_inl, Sum.elim_inr]
      refine rr_iload_n (q := 65) dX11_worst_64 rfl rfl ?_
      obtain rfl := Option.some.inj hm
      exact rr_iret dX11_worst_65 rfl hp
  · refine rr_bipush (q := 12) (v := -4) dX11_worst_10 rfl (by decide) ?_
    obtain rfl := Option.some.inj hm
    exact rr_iret dX11_worst_12 rfl hp
theorem cc_X11_worst {x : vv_E} {h : vv_H} {o : Int32}  (hm : ff_X11_worst h = some o) : vv_C x vv_TC yX11_worst mm_X11_worst [.ref (vv_ad x 0)] h (fun v g => v = some (.int o) ∧ g = h) := vv_entry (by decide +kernel) rfl (Nat.le_of_ble_eq_true rfl) rfl (vt_X11_worst  hm ⟨rfl, rfl⟩)
def ff_X11_sheet (h : vv_H) (v1 : Int32) (v2 : Int32) (v3 : Int32) : Option (Int32 × vv_H) := (ff_X11_isSheet v1).bind (fun r1 => (if r1 = 0 then some ((-1 : Int32), h) else (ff_X11_isLane v2).bind (fun r3 => (if r3 = 0 then some ((-1 : Int32), h) else (if v3 ≤ (60 : Int32) then (if 0 ≤ v3 then (ff_X7_renew h v1 v2 v3).bind (fun r5 => some ((1 : Int32), r5)) else some ((-14 : Int32), h)) else some ((-1 : Int32), h))))))
set_option maxHeartbeats 200000 in
theorem vt_X11_sheet {x : vv_E} {post : Option Value → vv_H → Prop} {h : vv_H} {v1 : Int32} {v2 : Int32} {v3 : Int32} {o : Int32 × vv_H}  (hm : ff_X11_sheet  h v1 v2 v3 = some o) (hp : post (some (.int o.1)) o.2) : vv_V x vv_TC mm_X11_sheet post 0 [some (.ref (vv_ad x 0)), some (.int v1), some (.int v2), some (.int v3)] [] h := by
  unfold ff_X11_sheet at hm
  refine rr_iload_n (q := 1) dX11_sheet_0 rfl rfl ?_
  obtain ⟨r1, k2, hm⟩ := vv_bind hm
  refine rr_callS (q := 4) (M' := mm_X11_isSheet) (As := [.int v1]) (st := []) (w := some (.int r1))  (cc_X11_isSheet  k2) rfl vy_X11_isSheet zw_474 ⟨Nat.le_of_ble_eq_true rfl, Nat.le_of_ble_eq_true rfl⟩ (Nat.le_of_ble_eq_true rfl) dX11_sheet_1 rfl ?_
  show vv_V x vv_TC mm_X11_sheet post 4 [some (.ref (vv_ad x 0)), some (.int v1), some (.int v2), some (.int v3)] [.int r1] h
  refine rr_if_eq (q := 7) (tgt := 20) dX11_sheet_4 (by decide) rfl hm (fun hm => ?_) (fun hm => ?_)
  · refine rr_iconst (q := 21) (v := -1) dX11_sheet_20 rfl (by decide) ?_
    obtain rfl := Option.some.inj hm
    exact rr_iret dX11_sheet_21 rfl hp
  · refine rr_iload_n (q := 8) dX11_sheet_7 rfl rfl ?_
    obtain ⟨r3, k4, hm⟩ := vv_bind hm
    refine rr_callS (q := 11) (M' := mm_X11_isLane) (As := [.int v2]) (st := []) (w := some (.int r3))  (cc_X11_isLane  k4) rfl vy_X11_isLane zw_478 ⟨Nat.le_of_ble_eq_true rfl, Nat.le_of_ble_eq_true rfl⟩ (Nat.le_of_ble_eq_true rfl) dX11_sheet_8 rfl ?_
    show vv_V x vv_TC mm_X11_sheet post 11 [some (.ref (vv_ad x 0)), some (.int v1), some (.int v2), some (.int v3)] [.int r3] h
    refine rr_if_eq (q := 14) (tgt := 20) dX11_sheet_11 (by decide) rfl hm (fun hm => ?_) (fun hm => ?_)
    · refine rr_iconst (q := 21) (v := -1) dX11_sheet_20 rfl (by decide) ?_
      obtain rfl := Option.some.inj hm
      exact rr_iret dX11_sheet_21 rfl hp
    · refine rr_iload_n (q := 15) dX11_sheet_14 rfl rfl ?_
      refine rr_bipush (q := 17) (v := 60) dX11_sheet_15 rfl (by decide) ?_
      refine rr_icmp_le (q := 20) (tgt := 22) dX11_sheet_17 (by decide) rfl hm (fun hm => ?_) (fun hm => ?_)
      · refine rr_iload_n (q := 23) dX11_sheet_22 rfl rfl ?_
        refine rr_if_ge (q := 26) (tgt := 29) dX11_sheet_23 (by decide) rfl hm (fun hm => ?_) (fun hm => ?_)
        · refine rr_aload_n (q := 30) dX11_sheet_29 rfl rfl ?_
          refine gf_X11_85 (q := 33) rfl dX11_sheet_30 rfl ?_
          refine rr_iload_n (q := 34) dX11_sheet_33 rfl rfl ?_
          refine rr_iload_n (q := 35) dX11_sheet_34 rfl rfl ?_
          refine rr_iload_n (q := 36) dX11_sheet_35 rfl rfl ?_
          obtain ⟨r5, k6, hm⟩ := vv_bind hm
          refine rr_callV (q := 39) (M' := mm_X7_renew) (As := [.int v1, .int v2, .int v3]) (st := []) (w := none) (cc_X7_renew  k6) rfl ylC_176 ynC_176 rfl vy_X7_renew zw_484 ⟨Nat.le_of_ble_eq_true rfl, Nat.le_of_ble_eq_true rfl⟩ (Nat.le_of_ble_eq_true rfl) dX11_sheet_36 rfl ?_
          show vv_V x vv_TC mm_X11_sheet post 39 [some (.ref (vv_ad x 0)), some (.int v1), some (.int v2), some (.int v3)] [] r5
          refine rr_iconst (q := 40) (v := 1) dX11_sheet_39 rfl (by decide) ?_
          obtain rfl := Option.some.inj hm
          exact rr_iret dX11_sheet_40 rfl hp
        · refine rr_bipush (q := 28) (v := -14) dX11_sheet_26 rfl (by decide) ?_
          obtain rfl := Option.some.inj hm
          exact rr_iret dX11_sheet_28 rfl hp
      · refine rr_iconst (q := 21) (v := -1) dX11_sheet_20 rfl (by decide) ?_
        obtain rfl := Option.some.inj hm
        exact rr_iret dX11_sheet_21 rfl hp
theorem cc_X11_sheet {x : vv_E} {h : vv_H} {v1 : Int32} {v2 : Int32} {v3 : Int32} {o : Int32 × vv_H}  (hm : ff_X11_sheet h v1 v2 v3 = some o) : vv_C x vv_TC yX11_sheet mm_X11_sheet [.ref (vv_ad x 0), .int v1, .int v2, .int v3] h (fun v g => v = some (.int o.1) ∧ g = o.2) := vv_entry (by decide +kernel) rfl (Nat.le_of_ble_eq_true rfl) rfl (vt_X11_sheet  hm ⟨rfl, rfl⟩)
def ff_X11_lay (h : vv_H) (v1 : Int32) (v2 : Int32) (v3 : Int32) : Option (Int32 × vv_H) := (ff_X11_isSheet v1).bind (fun r1 => (if r1 = 0 then some ((-1 : Int32), h) else (ff_X7_isNothing h v1).bind (fun r3 => (if r3 = 0 then (ff_X7_hasCell h v1 v2).bind (fun r5 => (if r5 = 0 then some ((-12 : Int32), h) else (ff_X7_put h v1 v2 v3).bind (fun r7 => some ((1 : Int32), r7)))) else some ((-11 : Int32), h)))))
set_option maxHeartbeats 200000 in
theorem vt_X11_lay {x : vv_E} {post : Option Value → vv_H → Prop} {h : vv_H} {v1 : Int32} {v2 : Int32} {v3 : Int32} {o : Int32 × vv_H}  (hm : ff_X11_lay  h v1 v2 v3 = some o) (hp : post (some (.int o.1)) o.2) : vv_V x vv_TC mm_X11_lay post 0 [some (.ref (vv_ad x 0)), some (.int v1), some (.int v2), some (.int v3)] [] h := by
  unfold ff_X11_lay at hm
  refine rr_iload_n (q := 1) dX11_lay_0 rfl rfl ?_
  obtain ⟨r1, k2, hm⟩ := vv_bind hm
  refine rr_callS (q := 4) (M' := mm_X11_isSheet) (As := [.int v1]) (st := []) (w := some (.int r1))  (cc_X11_isSheet  k2) rfl vy_X11_isSheet zw_474 ⟨Nat.le_of_ble_eq_true rfl, Nat.le_of_ble_eq_true rfl⟩ (Nat.le_of_ble_eq_true rfl) dX11_lay_1 rfl ?_
  show vv_V x vv_TC mm_X11_lay post 4 [some (.ref (vv_ad x 0)), some (.int v1), some (.int v2), some (.int v3)] [.int r1] h
  refine rr_if_ne (q := 7) (tgt := 9) dX11_lay_4 (by decide) rfl hm (fun hm => ?_) (fun hm => ?_)
  · refine rr_aload_n (q := 10) dX11_lay_9 rfl rfl ?_
    refine gf_X11_85 (q := 13) rfl dX11_lay_10 rfl ?_
    refine rr_iload_n (q := 14) dX11_lay_13 rfl rfl ?_
    obtain ⟨r3, k4, hm⟩ := vv_bind hm
    refine rr_callV (q := 17) (M' := mm_X7_isNothing) (As := [.int v1]) (st := []) (w := some (.int r3)) (cc_X7_isNothing  k4) rfl ylC_176 ynC_176 rfl vy_X7_isNothing zw_489 ⟨Nat.le_of_ble_eq_true rfl, Nat.le_of_ble_eq_true rfl⟩ (Nat.le_of_ble_eq_true rfl) dX11_lay_14 rfl ?_
    show vv_V x vv_TC mm_X11_lay post 17 [some (.ref (vv_ad x 0)), some (.int v1), some (.int v2), some (.int v3)] [.int r3] h
    refine rr_if_eq (q := 20) (tgt := 23) dX11_lay_17 (by decide) rfl hm (fun hm => ?_) (fun hm => ?_)
    · refine rr_aload_n (q := 24) dX11_lay_23 rfl rfl ?_
      refine gf_X11_85 (q := 27) rfl dX11_lay_24 rfl ?_
      refine rr_iload_n (q := 28) dX11_lay_27 rfl rfl ?_
      refine rr_iload_n (q := 29) dX11_lay_28 rfl rfl ?_
      obtain ⟨r5, k6, hm⟩ := vv_bind hm
      refine rr_callV (q := 32) (M' := mm_X7_hasCell) (As := [.int v1, .int v2]) (st := []) (w := some (.int r5)) (cc_X7_hasCell  k6) rfl ylC_176 ynC_176 rfl vy_X7_hasCell zw_494 ⟨Nat.le_of_ble_eq_true rfl, Nat.le_of_ble_eq_true rfl⟩ (Nat.le_of_ble_eq_true rfl) dX11_lay_29 rfl ?_
      show vv_V x vv_TC mm_X11_lay post 32 [some (.ref (vv_ad x 0)), some (.int v1), some (.int v2), some (.int v3)] [.int r5] h
      refine rr_if_ne (q := 35) (tgt := 38) dX11_lay_32 (by decide) rfl hm (fun hm => ?_) (fun hm => ?_)
      · refine rr_aload_n (q := 39) dX11_lay_38 rfl rfl ?_
        refine gf_X11_85 (q := 42) rfl dX11_lay_39 rfl ?_
        refine rr_iload_n (q := 43) dX11_lay_42 rfl rfl ?_
        refine rr_iload_n (q := 44) dX11_lay_43 rfl rfl ?_
        refine rr_iload_n (q := 45) dX11_lay_44 rfl rfl ?_
        obtain ⟨r7, k8, hm⟩ := vv_bind hm
        refine rr_callV (q := 48) (M' := mm_X7_put) (As := [.int v1, .int v2, .int v3]) (st := []) (w := none) (cc_X7_put  k8) rfl ylC_176 ynC_176 rfl vy_X7_put zw_499 ⟨Nat.le_of_ble_eq_true rfl, Nat.le_of_ble_eq_true rfl⟩ (Nat.le_of_ble_eq_true rfl) dX11_lay_45 rfl ?_
        show vv_V x vv_TC mm_X11_lay post 48 [some (.ref (vv_ad x 0)), some (.int v1), some (.int v2), some (.int v3)] [] r7
        refine rr_iconst (q := 49) (v := 1) dX11_lay_48 rfl (by decide) ?_
        obtain rfl := Option.some.inj hm
        exact rr_iret dX11_lay_49 rfl hp
      · refine rr_bipush (q := 37) (v := -12) dX11_lay_35 rfl (by decide) ?_
        obtain rfl := Option.some.inj hm
        exact rr_iret dX11_lay_37 rfl hp
    · refine rr_bipush (q := 22) (v := -11) dX11_lay_20 rfl (by decide) ?_
      obtain rfl := Option.some.inj hm
      exact rr_iret dX11_lay_22 rfl hp
  · refine rr_iconst (q := 8) (v := -1) dX11_lay_7 rfl (by decide) ?_
    obtain rfl := Option.some.inj hm
    exact rr_iret dX11_lay_8 rfl hp
theorem cc_X11_lay {x : vv_E} {h : vv_H} {v1 : Int32} {v2 : Int32} {v3 : Int32} {o : Int32 × vv_H}  (hm : ff_X11_lay h v1 v2 v3 = some o) : vv_C x vv_TC yX11_lay mm_X11_lay [.ref (vv_ad x 0), .int v1, .int v2, .int v3] h (fun v g => v = some (.int o.1) ∧ g = o.2) := vv_entry (by decide +kernel) rfl (Nat.le_of_ble_eq_true rfl) rfl (vt_X11_lay  hm ⟨rfl, rfl⟩)
def ff_X11_count (h : vv_H) (v1 : Int32) : Option (Int32) := (if v1 = 0 then some (h.1 1 0) else (if v1 = 1 then some (h.1 22 0) else (if v1 = 2 then some (h.1 146 0) else (if v1 = 3 then some (h.1 156 0) else (if v1 = 4 then (ff_X4_countStored h).bind (fun r1 => some r1) else (if v1 = 5 then (ff_X4_countWithBodies h).bind (fun r3 => some r3) else (if v1 = 6 then (ff_X4_countStored h).bind (fun r5 => (ff_X4_countWithBodies h).bind (fun r7 => some (((h.1 156 0) - r5) - r7))) else (if v1 = 7 then some (h.1 (vv_rid (h.2.2 0)) 0) else (if v1 = 8 then some (h.1 16 0) else (if v1 = 9 then some (h.1 0 0) else (if v1 = 10 then (ff_X0_allCharges h).bind (fun r9 => some r9) else (if v1 = 11 then some (h.1 50 0) else (if v1 = 12 then (ff_X7_isNothing h (0 : Int32)).bind (fun r11 => (if r11 = 0 then vv_ck (0 : Int32) 4 (some (h.1 178 (0 : Int32).toNatClampNeg)) else some (-4 : Int32))) else some (-1 : Int32))))))))))))))
set_option maxHeartbeats 200000 in
theorem vt_X11_count {x : vv_E} {post : Option Value → vv_H → Prop} {h : vv_H} {v1 : Int32} {o : Int32}  (hm : ff_X11_count  h v1 = some o) (hp : post (some (.int o)) h) : vv_V x vv_TC mm_X11_count post 0 [some (.ref (vv_ad x 0)), some (.int v1)] [] h := by
  unfold ff_X11_count at hm
  refine rr_iload_n (q := 1) dX11_count_0 rfl rfl ?_
  by_cases c0s : v1 = (0 : Int32)
  · rw [if_pos c0s] at hm
    refine rr_tswI (tgt := 68) dX11_count_1 (by rw [c0s]; decide) (by rw [c0s]; decide) (by rw [c0s]; rfl) (by decide) ?_
    refine rr_aload_n (q := 69) dX11_count_68 rfl rfl ?_
    refine gf_X11_10 (q := 72) rfl dX11_count_69 rfl ?_
    refine gf_X11_377 (q := 75) rfl dX11_count_72 rfl ?_
    obtain rfl := Option.some.inj hm
    exact rr_iret dX11_count_75 rfl hp
  · rw [if_neg c0s] at hm
    by_cases c1s : v1 = (1 : Int32)
    · rw [if_pos c1s] at hm
      refine rr_tswI (tgt := 76) dX11_count_1 (by rw [c1s]; decide) (by rw [c1s]; decide) (by rw [c1s]; rfl) (by decide) ?_
      refine rr_aload_n (q := 77) dX11_count_76 rfl rfl ?_
      refine gf_X11_26 (q := 80) rfl dX11_count_77 rfl ?_
      refine gf_X11_166 (q := 83) rfl dX11_count_80 rfl ?_
      obtain rfl := Option.some.inj hm
      exact rr_iret dX11_count_83 rfl hp
    · rw [if_neg c1s] at hm
      by_cases c2s : v1 = (2 : Int32)
      · rw [if_pos c2s] at hm
        refine rr_tswI (tgt := 84) dX11_count_1 (by rw [c2s]; decide) (by rw [c2s]; decide) (by rw [c2s]; rfl) (by decide) ?_
        refine rr_aload_n (q := 85) dX11_count_84 rfl rfl ?_
        refine gf_X11_57 (q := 88) rfl dX11_count_85 rfl ?_
        refine gf_X11_385 (q := 91) rfl dX11_count_88 rfl ?_
        obtain rfl := Option.some.inj hm
        exact rr_iret dX11_count_91 rfl hp
      · rw [if_neg c2s] at hm
        by_cases c3s : v1 = (3 : Int32)
        · rw [if_pos c3s] at hm
          refine rr_tswI (tgt := 92) dX11_count_1 (by rw [c3s]; decide) (by rw [c3s]; decide) (by rw [c3s]; rfl) (by decide) ?_
          refine rr_aload_n (q := 93) dX11_count_92 rfl rfl ?_
          refine gf_X11_64 (q := 96) rfl dX11_count_93 rfl ?_
          refine gf_X11_339 (q := 99) rfl dX11_count_96 rfl ?_
          obtain rfl := Option.some.inj hm
          exact rr_iret dX11_count_99 rfl hp
        · rw [if_neg c3s] at hm
          by_cases c4s : v1 = (4 : Int32)
          · rw [if_pos c4s] at hm
            refine rr_tswI (tgt := 100) dX11_count_1 (by rw [c4s]; decide) (by rw [c4s]; decide) (by rw [c4s]; rfl) (by decide) ?_
            refine rr_aload_n (q := 101) dX11_count_100 rfl rfl ?_
            refine gf_X11_64 (q := 104) rfl dX11_count_101 rfl ?_
            obtain ⟨r1, k2, hm⟩ := vv_bind hm
            refine rr_callV (q := 107) (M' := mm_X4_countStored) (As := []) (st := []) (w := some (.int r1)) (cc_X4_countStored  k2) rfl ylC_156 ynC_156 rfl vy_X4_countStored zw_507 ⟨Nat.le_of_ble_eq_true rfl, Nat.le_of_ble_eq_true rfl⟩ (Nat.le_of_ble_eq_true rfl) dX11_count_104 rfl ?_
            show vv_V x vv_TC mm_X11_count post 107 [some (.ref (vv_ad x 0)), some (.int v1)] [.int r1] h
            obtain rfl := Option.some.inj hm
            exact rr_iret dX11_count_107 rfl hp
          · rw [if_neg c4s] at hm
            by_cases c5s : v1 = (5 : Int32)
            · rw [if_pos c5s] at hm
              refine rr_tswI (tgt := 108) dX11_count_1 (by rw [c5s]; decide) (by rw [c5s]; decide) (by rw [c5s]; rfl) (by decide) ?_
              refine rr_aload_n (q := 109) dX11_count_108 rfl rfl ?_
              refine gf_X11_64 (q := 112) rfl dX11_count_109 rfl ?_
              obtain ⟨r3, k4, hm⟩ := vv_bind hm
              refine rr_callV (q := 115) (M' := mm_X4_countWithBodies) (As := []) (st := []) (w := some (.int r3)) (cc_X4_countWithBodies  k4) rfl ylC_156 ynC_156 rfl vy_X4_countWithBodies zw_512 ⟨Nat.le_of_ble_eq_true rfl, Nat.le_of_ble_eq_true rfl⟩ (Nat.le_of_ble_eq_true rfl) dX11_count_112 rfl ?_
              show vv_V x vv_TC mm_X11_count post 115 [some (.ref (vv_ad x 0)), some (.int v1)] [.int r3] h
              obtain rfl := Option.some.inj hm
              exact rr_iret dX11_count_115 rfl hp
            · rw [if_neg c5s] at hm
              by_cases c6s : v1 = (6 : Int32)
              · rw [if_pos c6s] at hm
                refine rr_tswI (tgt := 116) dX11_count_1 (by rw [c6s]; decide) (by rw [c6s]; decide) (by rw [c6s]; rfl) (by decide) ?_
                refine rr_aload_n (q := 117) dX11_count_116 rfl rfl ?_
                refine gf_X11_64 (q := 120) rfl dX11_count_117 rfl ?_
                refine gf_X11_339 (q := 123) rfl dX11_count_120 rfl ?_
                refine rr_aload_n (q := 124) dX11_count_123 rfl rfl ?_
                refine gf_X11_64 (q := 127) rfl dX11_count_124 rfl ?_
                obtain ⟨r5, k6, hm⟩ := vv_bind hm
                refine rr_callV (q := 130) (M' := mm_X4_countStored) (As := []) (st := [.int (h.1 156 0)]) (w := some (.int r5)) (cc_X4_countStored  k6) rfl ylC_156 ynC_156 rfl vy_X4_countStored zw_507 ⟨Nat.le_of_ble_eq_true rfl, Nat.le_of_ble_eq_true rfl⟩ (Nat.le_of_ble_eq_true rfl) dX11_count_127 rfl ?_
                show vv_V x vv_TC mm_X11_count post 130 [some (.ref (vv_ad x 0)), some (.int v1)] [.int r5, .int (h.1 156 0)] h
                refine rr_isub (q := 131) dX11_count_130 rfl ?_
                refine rr_aload_n (q := 132) dX11_count_131 rfl rfl ?_
                refine gf_X11_64 (q := 135) rfl dX11_count_132 rfl ?_
                obtain ⟨r7, k8, hm⟩ := vv_bind hm
                refine rr_callV (q := 138) (M' := mm_X4_countWithBodies) (As := []) (st := [.int ((h.1 156 0) - r5)]) (w := some (.int r7)) (cc_X4_countWithBodies  k8) rfl ylC_156 ynC_156 rfl vy_X4_countWithBodies zw_512 ⟨Nat.le_of_ble_eq_true rfl, Nat.le_of_ble_eq_true rfl⟩ (Nat.le_of_ble_eq_true rfl) dX11_count_135 rfl ?_
                show vv_V x vv_TC mm_X11_count post 138 [some (.ref (vv_ad x 0)), some (.int v1)] [.int r7, .int ((h.1 156 0) - r5)] h
                refine rr_isub (q := 139) dX11_count_138 rfl ?_
                obtain rfl := Option.some.inj hm
                exact rr_iret dX11_count_139 rfl hp
              · rw [if_neg c6s] at hm
                by_cases c7s : v1 = (7 : Int32)
                · rw [if_pos c7s] at hm
                  refine rr_tswI (tgt := 140) dX11_count_1 (by rw [c7s]; decide) (by rw [c7s]; decide) (by rw [c7s]; rfl) (by decide) ?_
                  refine rr_aload_n (q := 141) dX11_count_140 rfl rfl ?_
                  refine gf_X11_47 (q := 144) rfl dX11_count_141 rfl ?_
                  refine gf_X11_209 (q := 147) rfl dX11_count_144 rfl ?_
                  obtain rfl := Option.some.inj hm
                  exact rr_iret dX11_count_147 rfl hp
                · rw [if_neg c7s] at hm
                  by_cases c8s : v1 = (8 : Int32)
                  · rw [if_pos c8s] at hm
                    refine rr_tswI (tgt := 148) dX11_count_1 (by rw [c8s]; decide) (by rw [c8s]; decide) (by rw [c8s]; rfl) (by decide) ?_
                    refine rr_aload_n (q := 149) dX11_count_148 rfl rfl ?_
                    refine gf_X11_19 (q := 152) rfl dX11_count_149 rfl ?_
                    refine gf_X11_381 (q := 155) rfl dX11_count_152 rfl ?_
                    obtain rfl := Option.some.inj hm
                    exact rr_iret dX11_count_155 rfl hp
                  · rw [if_neg c8s] at hm
                    by_cases c9s : v1 = (9 : Int32)
                    · rw [if_pos c9s] at hm
                      refine rr_tswI (tgt := 156) dX11_count_1 (by rw [c9s]; decide) (by rw [c9s]; decide) (by rw [c9s]; rfl) (by decide) ?_
                      refine rr_aload_n (q := 157) dX11_count_156 rfl rfl ?_
                      refine gf_X11_89 (q := 160) rfl dX11_count_157 rfl ?_
                      obtain rfl := Option.some.inj hm
                      exact rr_iret dX11_count_160 rfl hp
                    · rw [if_neg c9s] at hm
                      by_cases c10s : v1 = (10 : Int32)
                      · rw [if_pos c10s] at hm
                        refine rr_tswI (tgt := 161) dX11_count_1 (by rw [c10s]; decide) (by rw [c10s]; decide) (by rw [c10s]; rfl) (by decide) ?_
                        refine rr_aload_n (q := 162) dX11_count_161 rfl rfl ?_
                        refine gf_X11_10 (q := 165) rfl dX11_count_162 rfl ?_
                        obtain ⟨r9, k10, hm⟩ := vv_bind hm
                        refine rr_callV (q := 168) (M' := mm_X0_allCharges) (As := []) (st := []) (w := some (.int r9)) (cc_X0_allCharges  k10) rfl ylC_1 ynC_1 rfl vy_X0_allCharges zw_519 ⟨Nat.le_of_ble_eq_true rfl, Nat.le_of_ble_eq_true rfl⟩ (Nat.le_of_ble_eq_true rfl) dX11_count_165 rfl ?_
                        show vv_V x vv_TC mm_X11_count post 168 [some (.ref (vv_ad x 0)), some (.int v1)] [.int r9] h
                        obtain rfl := Option.some.inj hm
                        exact rr_iret dX11_count_168 rfl hp
                      · rw [if_neg c10s] at hm
                        by_cases c11s : v1 = (11 : Int32)
                        · rw [if_pos c11s] at hm
                          refine rr_tswI (tgt := 169) dX11_count_1 (by rw [c11s]; decide) (by rw [c11s]; decide) (by rw [c11s]; rfl) (by decide) ?_
                          refine rr_aload_n (q := 170) dX11_count_169 rfl rfl ?_
                          refine gf_X11_33 (q := 173) rfl dX11_count_170 rfl ?_
                          refine gf_X11_203 (q := 176) rfl dX11_count_173 rfl ?_
                          obtain rfl := Option.some.inj hm
                          exact rr_iret dX11_count_176 rfl hp
                        · rw [if_neg c11s] at hm
                          by_cases c12s : v1 = (12 : Int32)
                          · rw [if_pos c12s] at hm
                            refine rr_tswI (tgt := 177) dX11_count_1 (by rw [c12s]; decide) (by rw [c12s]; decide) (by rw [c12s]; rfl) (by decide) ?_
                            refine rr_aload_n (q := 178) dX11_count_177 rfl rfl ?_
                            refine gf_X11_85 (q := 181) rfl dX11_count_178 rfl ?_
                            refine rr_iconst (q := 182) (v := 0) dX11_count_181 rfl (by decide) ?_
                            obtain ⟨r11, k12, hm⟩ := vv_bind hm
                            refine rr_callV (q := 185) (M' := mm_X7_isNothing) (As := [.int (0 : Int32)]) (st := []) (w := some (.int r11)) (cc_X7_isNothing  k12) rfl ylC_176 ynC_176 rfl vy_X7_isNothing zw_489 ⟨Nat.le_of_ble_eq_true rfl, Nat.le_of_ble_eq_true rfl⟩ (Nat.le_of_ble_eq_true rfl) dX11_count_182 rfl ?_
                            show vv_V x vv_TC mm_X11_count post 185 [some (.ref (vv_ad x 0)), some (.int v1)] [.int r11] h
                            refine rr_if_eq (q := 188) (tgt := 193) dX11_count_185 (by decide) rfl hm (fun hm => ?_) (fun hm => ?_)
                            · refine rr_aload_n (q := 194) dX11_count_193 rfl rfl ?_
                              refine gf_X11_85 (q := 197) rfl dX11_count_194 rfl ?_
                              refine gf_X11_395 (q := 200) rfl dX11_count_197 rfl ?_
                              refine rr_iconst (q := 201) (v := 0) dX11_count_200 rfl (by decide) ?_
                              obtain ⟨c13, hm⟩ := vv_ck_of hm
                              refine rr_iald (q := 202) ylC_178 ynC_178 c13 dX11_count_201 rfl ?_
                              obtain rfl := Option.some.inj hm
                              exact rr_iret dX11_count_202 rfl hp
                            · refine rr_bipush (q := 190) (v := -4) dX11_count_188 rfl (by decide) ?_
                              refine rr_goto (tgt := 202) dX11_count_190 (by decide) ?_
                              obtain rfl := Option.some.inj hm
                              exact rr_iret dX11_count_202 rfl hp
                          · rw [if_neg c12s] at hm
                            refine rr_tswO (tgt := 203) dX11_count_1 (by have y0 : v1.toInt ≠ 0 := fun e => c0s (Int32.toInt_inj.mp (e.trans (by decide))); have y1 : v1.toInt ≠ 1 := fun e => c1s (Int32.toInt_inj.mp (e.trans (by decide))); have y2 : v1.toInt ≠ 2 := fun e => c2s (Int32.toInt_inj.mp (e.trans (by decide))); have y3 : v1.toInt ≠ 3 := fun e => c3s (Int32.toInt_inj.mp (e.trans (by decide))); have y4 : v1.toInt ≠ 4 := fun e => c4s (Int32.toInt_inj.mp (e.trans (by decide))); have y5 : v1.toInt ≠ 5 := fun e => c5s (Int32.toInt_inj.mp (e.trans (by decide))); have y6 : v1.toInt ≠ 6 := fun e => c6s (Int32.toInt_inj.mp (e.trans (by decide))); have y7 : v1.toInt ≠ 7 := fun e => c7s (Int32.toInt_inj.mp (e.trans (by decide))); have y8 : v1.toInt ≠ 8 := fun e => c8s (Int32.toInt_inj.mp (e.trans (by decide))); have y9 : v1.toInt ≠ 9 := fun e => c9s (Int32.toInt_inj.mp (e.trans (by decide))); have y10 : v1.toInt ≠ 10 := fun e => c10s (Int32.toInt_inj.mp (e.trans (by decide))); have y11 : v1.toInt ≠ 11 := fun e => c11s (Int32.toInt_inj.mp (e.trans (by decide))); have y12 : v1.toInt ≠ 12 := fun e => c12s (Int32.toInt_inj.mp (e.trans (by decide))); omega) (by decide) ?_
                            refine rr_iconst (q := 204) (v := -1) dX11_count_203 rfl (by decide) ?_
                            obtain rfl := Option.some.inj hm
                            exact rr_iret dX11_count_204 rfl hp
theorem cc_X11_count {x : vv_E} {h : vv_H} {v1 : Int32} {o : Int32}  (hm : ff_X11_count h v1 = some o) : vv_C x vv_TC yX11_count mm_X11_count [.ref (vv_ad x 0), .int v1] h (fun v g => v = some (.int o) ∧ g = h) := vv_entry (by decide +kernel) rfl (Nat.le_of_ble_eq_true rfl) rfl (vt_X11_count  hm ⟨rfl, rfl⟩)
def ff_X11_isSpan (v0 : Int32) (v1 : Int32) : Option (Int32) := (ff_X11_isMeasure v0).bind (fun r1 => (if r1 = 0 then some (0 : Int32) else (ff_X11_isMeasure v1).bind (fun r3 => (if r3 = 0 then some (0 : Int32) else (if v1 < v0 then some (0 : Int32) else some (1 : Int32))))))
set_option maxHeartbeats 200000 in
theorem vt_X11_isSpan {x : vv_E} {post : Option Value → vv_H → Prop} {v0 : Int32} {v1 : Int32} {h : vv_H} {o : Int32}  (hm : ff_X11_isSpan  v0 v1 = some o) (hp : post (some (.int o)) h) : vv_V x vv_TC mm_X11_isSpan post 0 [some (.int v0), some (.int v1)] [] h := by
  unfold ff_X11_isSpan at hm
  refine rr_iload_n (q := 1) dX11_isSpan_0 rfl rfl ?_
  obtain ⟨r1, k2, hm⟩ := vv_bind hm
  refine rr_callS (q := 4) (M' := mm_X11_isMeasure) (As := [.int v0]) (st := []) (w := some (.int r1))  (cc_X11_isMeasure  k2) rfl vy_X11_isMeasure zw_395 ⟨Nat.le_of_ble_eq_true rfl, Nat.le_of_ble_eq_true rfl⟩ (Nat.le_of_ble_eq_true rfl) dX11_isSpan_1 rfl ?_
  show vv_V x vv_TC mm_X11_isSpan post 4 [some (.int v0), some (.int v1)] [.int r1] h
  refine rr_if_eq (q := 7) (tgt := 23) dX11_isSpan_4 (by decide) rfl hm (fun hm => ?_) (fun hm => ?_)
  · refine rr_iconst (q := 24) (v := 0) dX11_isSpan_23 rfl (by decide) ?_
    obtain rfl := Option.some.inj hm
    exact rr_zret dX11_isSpan_24 rfl rfl hp
  · refine rr_iload_n (q := 8) dX11_isSpan_7 rfl rfl ?_
    obtain ⟨r3, k4, hm⟩ := vv_bind hm
    refine rr_callS (q := 11) (M' := mm_X11_isMeasure) (As := [.int v1]) (st := []) (w := some (.int r3))  (cc_X11_isMeasure  k4) rfl vy_X11_isMeasure zw_395 ⟨Nat.le_of_ble_eq_true rfl, Nat.le_of_ble_eq_true rfl⟩ (Nat.le_of_ble_eq_true rfl) dX11_isSpan_8 rfl ?_
    show vv_V x vv_TC mm_X11_isSpan post 11 [some (.int v0), some (.int v1)] [.int r3] h
    refine rr_if_eq (q := 14) (tgt := 23) dX11_isSpan_11 (by decide) rfl hm (fun hm => ?_) (fun hm => ?_)
    · refine rr_iconst (q := 24) (v := 0) dX11_isSpan_23 rfl (by decide) ?_
      obtain rfl := Option.some.inj hm
      exact rr_zret dX11_isSpan_24 rfl rfl hp
    · refine rr_iload_n (q := 15) dX11_isSpan_14 rfl rfl ?_
      refine rr_iload_n (q := 16) dX11_isSpan_15 rfl rfl ?_
      refine rr_icmp_gt (q := 19) (tgt := 23) dX11_isSpan_16 (by decide) rfl hm (fun hm => ?_) (fun hm => ?_)
      · refine rr_iconst (q := 24) (v := 0) dX11_isSpan_23 rfl (by decide) ?_
        obtain rfl := Option.some.inj hm
        exact rr_zret dX11_isSpan_24 rfl rfl hp
      · refine rr_iconst (q := 20) (v := 1) dX11_isSpan_19 rfl (by decide) ?_
        refine rr_goto (tgt := 24) dX11_isSpan_20 (by decide) ?_
        obtain rfl := Option.some.inj hm
        exact rr_zret dX11_isSpan_24 rfl rfl hp
theorem cc_X11_isSpan {x : vv_E} {v0 : Int32} {v1 : Int32} {h : vv_H} {o : Int32}  (hm : ff_X11_isSpan v0 v1 = some o) : vv_C x vv_TC yX11_isSpan mm_X11_isSpan [.int v0, .int v1] h (fun v g => v = some (.int o) ∧ g = h) := vv_entry (by decide +kernel) rfl (Nat.le_of_ble_eq_true rfl) rfl (vt_X11_isSpan  hm ⟨rfl, rfl⟩)
def ff_X11_leewayNeeded_B5 (u1 : Int32) (u2 : Int32) (h : vv_H) (s3 : Int32) (s4 : Int32) : Option ((Int32 × Int32) ⊕ ((Int32))) := (if (3 : Int32) ≤ s4 then some (.inr s3) else (ff_X11_measureNow h u2 s4).bind (fun r1 => (ff_X8_outside h u1 s4 r1).bind (fun r3 => vv_let (if s3 < r3 then r3 else s3) (fun w5 => vv_let (s4 + 1) (fun w7 => some (.inl (w5, w7)))))))
def ff_X11_leewayNeeded (h : vv_H) (v1 : Int32) (v2 : Int32) : Option (Int32) := (vv_lp (fun (zs : Int32 × Int32) => ff_X11_leewayNeeded_B5  v1 v2 h zs.1 zs.2) vv_F ((0 : Int32), (0 : Int32))).bind (fun (e10 : (Int32)) => some e10)
set_option maxHeartbeats 200000 in
theorem vt_X11_leewayNeeded_B5 {x : vv_E} {post : Option Value → vv_H → Prop} {u1 : Int32} {u2 : Int32} {h : vv_H} {s3 : Int32} {s4 : Int32} {o : (Int32 × Int32) ⊕ ((Int32))}  (hm : ff_X11_leewayNeeded_B5  u1 u2 h s3 s4 = some o) (hI : ∀ (z3 : Int32) (z4 : Int32) , o = .inl (z3, z4) → vv_V x vv_TC mm_X11_leewayNeeded post 5 [some (.ref (vv_ad x 0)), some (.int u1), some (.int u2), some (.int z3), some (.int z4)] [] h) (hX0 : ∀ (z3 : Int32), o = .inr z3 → vv_V x vv_TC mm_X11_leewayNeeded post 39 [none, none, none, some (.int z3), none] [] h) : vv_V x vv_TC mm_X11_leewayNeeded post 5 [some (.ref (vv_ad x 0)), some (.int u1), some (.int u2), some (.int s3), some (.int s4)] [] h := by
  unfold ff_X11_leewayNeeded_B5 at hm
  refine rr_iload (q := 7) dX11_leewayNeeded_5 rfl rfl ?_
  refine rr_iconst (q := 8) (v := 3) dX11_leewayNeeded_7 rfl (by decide) ?_
  refine rr_icmp_ge (q := 11) (tgt := 39) dX11_leewayNeeded_8 (by decide) rfl hm (fun hm => ?_) (fun hm => ?_)
  · obtain rfl := Option.some.inj hm
    refine rr_sub [false, false, false, true, false] rfl ?_
    exact hX0 s3 rfl
  · refine rr_iload_n (q := 12) dX11_leewayNeeded_11 rfl rfl ?_
    refine rr_aload_n (q := 13) dX11_leewayNeeded_12 rfl rfl ?_
    refine gf_X11_26 (q := 16) rfl dX11_leewayNeeded_13 rfl ?_
    refine rr_iload_n (q := 17) dX11_leewayNeeded_16 rfl rfl ?_
    refine rr_iload (q := 19) dX11_leewayNeeded_17 rfl rfl ?_
    refine rr_aload_n (q := 20) dX11_leewayNeeded_19 rfl rfl ?_
    refine rr_iload_n (q := 21) dX11_leewayNeeded_20 rfl rfl ?_
    refine rr_iload (q := 23) dX11_leewayNeeded_21 rfl rfl ?_
    obtain ⟨r1, k2, hm⟩ := vv_bind hm
    refine rr_callV (q := 26) (M' := mm_X11_measureNow) (As := [.int u2, .int s4]) (st := [.int s4, .int u1, .ref (vv_ad x 22), .int s3]) (w := some (.int r1)) (cc_X11_measureNow  k2) rfl ylC_0 ynC_0 rfl vy_X11_measureNow zw_525 ⟨Nat.le_of_ble_eq_true rfl, Nat.le_of_ble_eq_true rfl⟩ (Nat.le_of_ble_eq_true rfl) dX11_leewayNeeded_23 rfl ?_
    show vv_V x vv_TC mm_X11_leewayNeeded post 26 [some (.ref (vv_ad x 0)), some (.int u1), some (.int u2), some (.int s3), some (.int s4)] [.int r1, .int s4, .int u1, .ref (vv_ad x 22), .int s3] h
    obtain ⟨r3, k4, hm⟩ := vv_bind hm
    refine rr_callV (q := 29) (M' := mm_X8_outside) (As := [.int u1, .int s4, .int r1]) (st := [.int s3]) (w := some (.int r3)) (cc_X8_outside  k4) rfl ylC_22 ynC_22 rfl vy_X8_outside zw_530 ⟨Nat.le_of_ble_eq_true rfl, Nat.le_of_ble_eq_true rfl⟩ (Nat.le_of_ble_eq_true rfl) dX11_leewayNeeded_26 rfl ?_
    show vv_V x vv_TC mm_X11_leewayNeeded post 29 [some (.ref (vv_ad x 0)), some (.int u1), some (.int u2), some (.int s3), some (.int s4)] [.int r3, .int s3] h
    refine rr_mmax (q := 32) zw_531 zw_199 zw_126 zw_200 (Nat.le_of_ble_eq_true rfl) (Nat.le_of_ble_eq_true rfl) dX11_leewayNeeded_29 rfl ?_
    obtain ⟨w5, c6, hm⟩ := vv_let_of hm
    rw [← c6]
    refine rr_istore_n (q := 33) [some (.ref (vv_ad x 0)), some (.int u1), some (.int u2), some (.int w5), some (.int s4)] dX11_leewayNeeded_32 rfl rfl (Nat.le_of_ble_eq_true rfl) rfl rfl ?_
    obtain ⟨w7, c8, hm⟩ := vv_let_of hm
    refine rr_iinc (q := 36) [some (.ref (vv_ad x 0)), some (.int u1), some (.int u2), some (.int w5), some (.int w7)] dX11_leewayNeeded_33 rfl rfl c8.symm (Nat.le_of_ble_eq_true rfl) rfl rfl ?_
    refine rr_goto (tgt := 5) dX11_leewayNeeded_36 (by decide) ?_
    obtain rfl := Option.some.inj hm
    exact hI w5 w7 rfl
set_option maxHeartbeats 200000 in
theorem vt_X11_leewayNeeded {x : vv_E} {post : Option Value → vv_H → Prop} {h : vv_H} {v1 : Int32} {v2 : Int32} {o : Int32}  (hm : ff_X11_leewayNeeded  h v1 v2 = some o) (hp : post (some (.int o)) h) : vv_V x vv_TC mm_X11_leewayNeeded post 0 [some (.ref (vv_ad x 0)), some (.int v1), some (.int v2), none, none] [] h := by
  unfold ff_X11_leewayNeeded at hm
  refine rr_iconst (q := 1) (v := 0) dX11_leewayNeeded_0 rfl (by decide) ?_
  refine rr_istore_n (q := 2) [some (.ref (vv_ad x 0)), some (.int v1), some (.int v2), some (.int (0 : Int32)), none] dX11_leewayNeeded_1 rfl rfl (Nat.le_of_ble_eq_true rfl) rfl rfl ?_
  refine rr_iconst (q := 3) (v := 0) dX11_leewayNeeded_2 rfl (by decide) ?_
  refine rr_istore (q := 5) [some (.ref (vv_ad x 0)), some (.int v1), some (.int v2), some (.int (0 : Int32)), some (.int (0 : Int32))] dX11_leewayNeeded_3 rfl (Nat.le_of_ble_eq_true rfl) rfl rfl ?_
  obtain ⟨r9, k11, hm⟩ := vv_bind hm
  refine vv_lp_link (P := fun (zs : Int32 × Int32) => vv_V x vv_TC mm_X11_leewayNeeded post 5 [some (.ref (vv_ad x 0)), some (.int v1), some (.int v2), some (.int zs.1), some (.int zs.2)] [] h) (Q := (fun (e10 : (Int32)) => vv_V x vv_TC mm_X11_leewayNeeded post 39 [none, none, none, some (.int e10), none] [] h)) (fun zs o hm hI hX => ?_) vv_F ((0 : Int32), (0 : Int32)) r9 k11 ?_
  · exact vt_X11_leewayNeeded_B5   hm (fun z3 z4 e => hI (z3, z4) e) (fun z3 e => hX z3 e)
  · generalize r9 = e10 at hm ⊢
    try dsimp only [Sum.elim_inl, Sum.elim_inr] at hm
    try dsimp only [Sum.elim_inl, Sum.elim_inr]
    refine rr_iload_n (q := 40) dX11_leewayNeeded_39 rfl rfl ?_
    obtain rfl := Option.some.inj hm
    exact rr_iret dX11_leewayNeeded_40 rfl hp
theorem cc_X11_leewayNeeded {x : vv_E} {h : vv_H} {v1 : Int32} {v2 : Int32} {o : Int32}  (hm : ff_X11_leewayNeeded h v1 v2 = some o) : vv_C x vv_TC yX11_leewayNeeded mm_X11_leewayNeeded [.ref (vv_ad x 0), .int v1, .int v2] h (fun v g => v = some (.int o) ∧ g = h) := vv_entry (by decide +kernel) rfl (Nat.le_of_ble_eq_true rfl) rfl (vt_X11_leewayNeeded  hm ⟨rfl, rfl⟩)
def ff_X11_dueTo (h : vv_H) (v1 : Int32) (v2 : Int32) (v3 : Int32) : Option (Int32) := vv_ck v1 12 ((ff_X6_lineDue h (h.2.2 0) (3 + v1.toNatClampNeg) 3 v2 v3).bind (fun r2 => (ff_X6_numberOf h (h.2.2 0) r2).bind (fun r4 => some r4)))
set_option maxHeartbeats 200000 in
theorem vt_X11_dueTo {x : vv_E} {post : Option Value → vv_H → Prop} {h : vv_H} {v1 : Int32} {v2 : Int32} {v3 : Int32} {o : Int32}  (hm : ff_X11_dueTo  h v1 v2 v3 = some o) (hp : post (some (.int o)) h) : vv_V x vv_TC mm_X11_dueTo post 0 [some (.ref (vv_ad x 0)), some (.int v1), some (.int v2), some (.int v3)] [] h := by
  unfold ff_X11_dueTo at hm
  refine rr_aload_n (q := 1) dX11_dueTo_0 rfl rfl ?_
  refine gf_X11_47 (q := 4) rfl dX11_dueTo_1 rfl ?_
  refine rr_aload_n (q := 5) dX11_dueTo_4 rfl rfl ?_
  refine gf_X11_47 (q := 8) rfl dX11_dueTo_5 rfl ?_
  refine rr_aload_n (q := 9) dX11_dueTo_8 rfl rfl ?_
  refine gf_X11_10 (q := 12) rfl dX11_dueTo_9 rfl ?_
  refine gf_X11_109 (q := 15) rfl dX11_dueTo_12 rfl ?_
  refine rr_iload_n (q := 16) dX11_dueTo_15 rfl rfl ?_
  obtain ⟨c1, hm⟩ := vv_ck_of hm
  refine rr_aald (q := 17) ylC_2 ynC_2 c1 dX11_dueTo_16 rfl ?_
  refine rr_iload_n (q := 18) dX11_dueTo_17 rfl rfl ?_
  refine rr_iload_n (q := 19) dX11_dueTo_18 rfl rfl ?_
  obtain ⟨r2, k3, hm⟩ := vv_bind hm
  refine rr_callV (q := 22) (M' := mm_X6_lineDue) (As := [.ref (vv_ad x (3 + v1.toNatClampNeg)), .int v2, .int v3]) (st := [.ref (vv_ad x (vv_rid (h.2.2 0)))]) (w := some (.int r2)) (cc_X6_lineDue (ywC_2 c1).1 (ywC_2 c1).2 k3) rfl (yr_0 (h.2.2 0)).1 (yr_0 (h.2.2 0)).2 rfl vy_X6_lineDue zw_413 ⟨Nat.le_of_ble_eq_true rfl, Nat.le_of_ble_eq_true rfl⟩ (Nat.le_of_ble_eq_true rfl) dX11_dueTo_19 rfl ?_
  show vv_V x vv_TC mm_X11_dueTo post 22 [some (.ref (vv_ad x 0)), some (.int v1), some (.int v2), some (.int v3)] [.int r2, .ref (vv_ad x (vv_rid (h.2.2 0)))] h
  obtain ⟨r4, k5, hm⟩ := vv_bind hm
  refine rr_callV (q := 25) (M' := mm_X6_numberOf) (As := [.int r2]) (st := []) (w := some (.int r4)) (cc_X6_numberOf  k5) rfl (yr_0 (h.2.2 0)).1 (yr_0 (h.2.2 0)).2 rfl vy_X6_numberOf zw_536 ⟨Nat.le_of_ble_eq_true rfl, Nat.le_of_ble_eq_true rfl⟩ (Nat.le_of_ble_eq_true rfl) dX11_dueTo_22 rfl ?_
  show vv_V x vv_TC mm_X11_dueTo post 25 [some (.ref (vv_ad x 0)), some (.int v1), some (.int v2), some (.int v3)] [.int r4] h
  obtain rfl := Option.some.inj hm
  exact rr_iret dX11_dueTo_25 rfl hp
theorem cc_X11_dueTo {x : vv_E} {h : vv_H} {v1 : Int32} {v2 : Int32} {v3 : Int32} {o : Int32}  (hm : ff_X11_dueTo h v1 v2 v3 = some o) : vv_C x vv_TC yX11_dueTo mm_X11_dueTo [.ref (vv_ad x 0), .int v1, .int v2, .int v3] h (fun v g => v = some (.int o) ∧ g = h) := vv_entry (by decide +kernel) rfl (Nat.le_of_ble_eq_true rfl) rfl (vt_X11_dueTo  hm ⟨rfl, rfl⟩)
def ff_X11_isWornOut (h : vv_H) (v1 : Int32) : Option (Int32) := (ff_X4_wornBy h v1 (h.1 0 0)).bind (fun r1 => (ff_X11_kindOf h v1).bind (fun r3 => (ff_X11_lifeOn h r3 (h.1 0 0)).bind (fun r5 => (if r1 < r5 then some (0 : Int32) else some (1 : Int32)))))
set_option maxHeartbeats 200000 in
theorem vt_X11_isWornOut {x : vv_E} {post : Option Value → vv_H → Prop} {h : vv_H} {v1 : Int32} {o : Int32}  (hm : ff_X11_isWornOut  h v1 = some o) (hp : post (some (.int o)) h) : vv_V x vv_TC mm_X11_isWornOut post 0 [some (.ref (vv_ad x 0)), some (.int v1)] [] h := by
  unfold ff_X11_isWornOut at hm
  refine rr_aload_n (q := 1) dX11_isWornOut_0 rfl rfl ?_
  refine gf_X11_64 (q := 4) rfl dX11_isWornOut_1 rfl ?_
  refine rr_iload_n (q := 5) dX11_isWornOut_4 rfl rfl ?_
  refine rr_aload_n (q := 6) dX11_isWornOut_5 rfl rfl ?_
  refine gf_X11_89 (q := 9) rfl dX11_isWornOut_6 rfl ?_
  obtain ⟨r1, k2, hm⟩ := vv_bind hm
  refine rr_callV (q := 12) (M' := mm_X4_wornBy) (As := [.int v1, .int (h.1 0 0)]) (st := []) (w := some (.int r1)) (cc_X4_wornBy  k2) rfl ylC_156 ynC_156 rfl vy_X4_wornBy zw_445 ⟨Nat.le_of_ble_eq_true rfl, Nat.le_of_ble_eq_true rfl⟩ (Nat.le_of_ble_eq_true rfl) dX11_isWornOut_9 rfl ?_
  show vv_V x vv_TC mm_X11_isWornOut post 12 [some (.ref (vv_ad x 0)), some (.int v1)] [.int r1] h
  refine rr_aload_n (q := 13) dX11_isWornOut_12 rfl rfl ?_
  refine rr_aload_n (q := 14) dX11_isWornOut_13 rfl rfl ?_
  refine rr_iload_n (q := 15) dX11_isWornOut_14 rfl rfl ?_
  obtain ⟨r3, k4, hm⟩ := vv_bind hm
  refine rr_callV (q := 18) (M' := mm_X11_kindOf) (As := [.int v1]) (st := [.ref (vv_ad x 0), .int r1]) (w := some (.int r3)) (cc_X11_kindOf  k4) rfl ylC_0 ynC_0 rfl vy_X11_kindOf zw_263 ⟨Nat.le_of_ble_eq_true rfl, Nat.le_of_ble_eq_true rfl⟩ (Nat.le_of_ble_eq_true rfl) dX11_isWornOut_15 rfl ?_
  show vv_V x vv_TC mm_X11_isWornOut post 18 [some (.ref (vv_ad x 0)), some (.int v1)] [.int r3, .ref (vv_ad x 0), .int r1] h
  refine rr_aload_n (q := 19) dX11_isWornOut_18 rfl rfl ?_
  refine gf_X11_89 (q := 22) rfl dX11_isWornOut_19 rfl ?_
  obtain ⟨r5, k6, hm⟩ := vv_bind hm
  refine rr_callV (q := 25) (M' := mm_X11_lifeOn) (As := [.int r3, .int (h.1 0 0)]) (st := [.int r1]) (w := some (.int r5)) (cc_X11_lifeOn  k6) rfl ylC_0 ynC_0 rfl vy_X11_lifeOn zw_423 ⟨Nat.le_of_ble_eq_true rfl, Nat.le_of_ble_eq_true rfl⟩ (Nat.le_of_ble_eq_true rfl) dX11_isWornOut_22 rfl ?_
  show vv_V x vv_TC mm_X11_isWornOut post 25 [some (.ref (vv_ad x 0)), some (.int v1)] [.int r5, .int r1] h
  refine rr_icmp_lt (q := 28) (tgt := 32) dX11_isWornOut_25 (by decide) rfl hm (fun hm => ?_) (fun hm => ?_)
  · refine rr_iconst (q := 33) (v := 0) dX11_isWornOut_32 rfl (by decide) ?_
    obtain rfl := Option.some.inj hm
    exact rr_zret dX11_isWornOut_33 rfl rfl hp
  · refine rr_iconst (q := 29) (v := 1) dX11_isWornOut_28 rfl (by decide) ?_
    refine rr_goto (tgt := 33) dX11_isWornOut_29 (by decide) ?_
    obtain rfl := Option.some.inj hm
    exact rr_zret dX11_isWornOut_33 rfl rfl hp
theorem cc_X11_isWornOut {x : vv_E} {h : vv_H} {v1 : Int32} {o : Int32}  (hm : ff_X11_isWornOut h v1 = some o) : vv_C x vv_TC yX11_isWornOut mm_X11_isWornOut [.ref (vv_ad x 0), .int v1] h (fun v g => v = some (.int o) ∧ g = h) := vv_entry (by decide +kernel) rfl (Nat.le_of_ble_eq_true rfl) rfl (vt_X11_isWornOut  hm ⟨rfl, rfl⟩)
def ff_X11_chargeFor (h : vv_H) (v1 : Int32) : Option (Int32) := (ff_X11_kindOf h v1).bind (fun r1 => (ff_X11_lifeOn h r1 (h.1 0 0)).bind (fun r3 => (ff_X4_wornBy h v1 (h.1 0 0)).bind (fun r5 => vv_let (if (0 : Int32) < (r3 - r5) then (r3 - r5) else (0 : Int32)) (fun w7 => (if (1 : Int32) ≤ r3 then (ff_X11_kindOf h v1).bind (fun r9 => (ff_X11_priceOn h r9 (h.1 0 0)).bind (fun r11 => vv_nz r3 (some ((r11 * w7) / r3)))) else some (0 : Int32))))))
set_option maxHeartbeats 200000 in
theorem vt_X11_chargeFor {x : vv_E} {post : Option Value → vv_H → Prop} {h : vv_H} {v1 : Int32} {o : Int32}  (hm : ff_X11_chargeFor  h v1 = some o) (hp : post (some (.int o)) h) : vv_V x vv_TC mm_X11_chargeFor post 0 [some (.ref (vv_ad x 0)), some (.int v1), none, none] [] h := by
  unfold ff_X11_chargeFor at hm
  refine rr_aload_n (q := 1) dX11_chargeFor_0 rfl rfl ?_
  refine rr_aload_n (q := 2) dX11_chargeFor_1 rfl rfl ?_
  refine rr_iload_n (q := 3) dX11_chargeFor_2 rfl rfl ?_
  obtain ⟨r1, k2, hm⟩ := vv_bind hm
  refine rr_callV (q := 6) (M' := mm_X11_kindOf) (As := [.int v1]) (st := [.ref (vv_ad x 0)]) (w := some (.int r1)) (cc_X11_kindOf  k2) rfl ylC_0 ynC_0 rfl vy_X11_kindOf zw_263 ⟨Nat.le_of_ble_eq_true rfl, Nat.le_of_ble_eq_true rfl⟩ (Nat.le_of_ble_eq_true rfl) dX11_chargeFor_3 rfl ?_
  show vv_V x vv_TC mm_X11_chargeFor post 6 [some (.ref (vv_ad x 0)), some (.int v1), none, none] [.int r1, .ref (vv_ad x 0)] h
  refine rr_aload_n (q := 7) dX11_chargeFor_6 rfl rfl ?_
  refine gf_X11_89 (q := 10) rfl dX11_chargeFor_7 rfl ?_
  obtain ⟨r3, k4, hm⟩ := vv_bind hm
  refine rr_callV (q := 13) (M' := mm_X11_lifeOn) (As := [.int r1, .int (h.1 0 0)]) (st := []) (w := some (.int r3)) (cc_X11_lifeOn  k4) rfl ylC_0 ynC_0 rfl vy_X11_lifeOn zw_423 ⟨Nat.le_of_ble_eq_true rfl, Nat.le_of_ble_eq_true rfl⟩ (Nat.le_of_ble_eq_true rfl) dX11_chargeFor_10 rfl ?_
  show vv_V x vv_TC mm_X11_chargeFor post 13 [some (.ref (vv_ad x 0)), some (.int v1), none, none] [.int r3] h
  refine rr_istore_n (q := 14) [some (.ref (vv_ad x 0)), some (.int v1), some (.int r3), none] dX11_chargeFor_13 rfl rfl (Nat.le_of_ble_eq_true rfl) rfl rfl ?_
  refine rr_iconst (q := 15) (v := 0) dX11_chargeFor_14 rfl (by decide) ?_
  refine rr_iload_n (q := 16) dX11_chargeFor_15 rfl rfl ?_
  refine rr_aload_n (q := 17) dX11_chargeFor_16 rfl rfl ?_
  refine gf_X11_64 (q := 20) rfl dX11_chargeFor_17 rfl ?_
  refine rr_iload_n (q := 21) dX11_chargeFor_20 rfl rfl ?_
  refine rr_aload_n (q := 22) dX11_chargeFor_21 rfl rfl ?_
  refine gf_X11_89 (q := 25) rfl dX11_chargeFor_22 rfl ?_
  obtain ⟨r5, k6, hm⟩ := vv_bind hm
  refine rr_callV (q := 28) (M' := mm_X4_wornBy) (As := [.int v1, .int (h.1 0 0)]) (st := [.int r3, .int (0 : Int32)]) (w := some (.int r5)) (cc_X4_wornBy  k6) rfl ylC_156 ynC_156 rfl vy_X4_wornBy zw_445 ⟨Nat.le_of_ble_eq_true rfl, Nat.le_of_ble_eq_true rfl⟩ (Nat.le_of_ble_eq_true rfl) dX11_chargeFor_25 rfl ?_
  show vv_V x vv_TC mm_X11_chargeFor post 28 [some (.ref (vv_ad x 0)), some (.int v1), some (.int r3), none] [.int r5, .int r3, .int (0 : Int32)] h
  refine rr_isub (q := 29) dX11_chargeFor_28 rfl ?_
  refine rr_mmax (q := 32) zw_531 zw_199 zw_126 zw_200 (Nat.le_of_ble_eq_true rfl) (Nat.le_of_ble_eq_true rfl) dX11_chargeFor_29 rfl ?_
  obtain ⟨w7, c8, hm⟩ := vv_let_of hm
  rw [← c8]
  refine rr_istore_n (q := 33) [some (.ref (vv_ad x 0)), some (.int v1), some (.int r3), some (.int w7)] dX11_chargeFor_32 rfl rfl (Nat.le_of_ble_eq_true rfl) rfl rfl ?_
  refine rr_iload_n (q := 34) dX11_chargeFor_33 rfl rfl ?_
  refine rr_iconst (q := 35) (v := 1) dX11_chargeFor_34 rfl (by decide) ?_
  refine rr_icmp_ge (q := 38) (tgt := 42) dX11_chargeFor_35 (by decide) rfl hm (fun hm => ?_) (fun hm => ?_)
  · refine rr_aload_n (q := 43) dX11_chargeFor_42 rfl rfl ?_
    refine rr_aload_n (q := 44) dX11_chargeFor_43 rfl rfl ?_
    refine rr_iload_n (q := 45) dX11_chargeFor_44 rfl rfl ?_
    obtain ⟨r9, k10, hm⟩ := vv_bind hm
    refine rr_callV (q := 48) (M' := mm_X11_kindOf) (As := [.int v1]) (st := [.ref (vv_ad x 0)]) (w := some (.int r9)) (cc_X11_kindOf  k10) rfl ylC_0 ynC_0 rfl vy_X11_kindOf zw_263 ⟨Nat.le_of_ble_eq_true rfl, Nat.le_of_ble_eq_true rfl⟩ (Nat.le_of_ble_eq_true rfl) dX11_chargeFor_45 rfl ?_
    show vv_V x vv_TC mm_X11_chargeFor post 48 [some (.ref (vv_ad x 0)), some (.int v1), some (.int r3), some (.int w7)] [.int r9, .ref (vv_ad x 0)] h
    refine rr_aload_n (q := 49) dX11_chargeFor_48 rfl rfl ?_
    refine gf_X11_89 (q := 52) rfl dX11_chargeFor_49 rfl ?_
    obtain ⟨r11, k12, hm⟩ := vv_bind hm
    refine rr_callV (q := 55) (M' := mm_X11_priceOn) (As := [.int r9, .int (h.1 0 0)]) (st := []) (w := some (.int r11)) (cc_X11_priceOn  k12) rfl ylC_0 ynC_0 rfl vy_X11_priceOn zw_418 ⟨Nat.le_of_ble_eq_true rfl, Nat.le_of_ble_eq_true rfl⟩ (Nat.le_of_ble_eq_true rfl) dX11_chargeFor_52 rfl ?_
    show vv_V x vv_TC mm_X11_chargeFor post 55 [some (.ref (vv_ad x 0)), some (.int v1), some (.int r3), some (.int w7)] [.int r11] h
    refine rr_iload_n (q := 56) dX11_chargeFor_55 rfl rfl ?_
    refine rr_imul (q := 57) dX11_chargeFor_56 rfl ?_
    refine rr_iload_n (q := 58) dX11_chargeFor_57 rfl rfl ?_
    obtain ⟨c13, hm⟩ := vv_nz_of hm
    refine rr_idiv (q := 59) dX11_chargeFor_58 rfl c13 ?_
    obtain rfl := Option.some.inj hm
    exact rr_iret dX11_chargeFor_59 rfl hp
  · refine rr_iconst (q := 39) (v := 0) dX11_chargeFor_38 rfl (by decide) ?_
    refine rr_goto (tgt := 59) dX11_chargeFor_39 (by decide) ?_
    obtain rfl := Option.some.inj hm
    exact rr_iret dX11_chargeFor_59 rfl hp
theorem cc_X11_chargeFor {x : vv_E} {h : vv_H} {v1 : Int32} {o : Int32}  (hm : ff_X11_chargeFor h v1 = some o) : vv_C x vv_TC yX11_chargeFor mm_X11_chargeFor [.ref (vv_ad x 0), .int v1] h (fun v g => v = some (.int o) ∧ g = h) := vv_entry (by decide +kernel) rfl (Nat.le_of_ble_eq_true rfl) rfl (vt_X11_chargeFor  hm ⟨rfl, rfl⟩)
def ff_X11_refusalOfCell (h : vv_H) (v1 : Int32) (v2 : Int32) (v3 : Int32) : Option (Int32) := (ff_X7_hasCell h v1 (v2 + v3)).bind (fun r1 => (if r1 = 0 then some (-12 : Int32) else vv_ck v1 4 (vv_ck (v2 + v3) 60 ((ff_X11_isMeasure (h.1 (180 + v1.toNatClampNeg) (v2 + v3).toNatClampNeg)).bind (fun r5 => (if r5 = 0 then some ((-100 : Int32) - v3) else some (0 : Int32)))))))
set_option maxHeartbeats 200000 in
theorem vt_X11_refusalOfCell {x : vv_E} {post : Option Value → vv_H → Prop} {h : vv_H} {v1 : Int32} {v2 : Int32} {v3 : Int32} {o : Int32}  (hm : ff_X11_refusalOfCell  h v1 v2 v3 = some o) (hp : post (some (.int o)) h) : vv_V x vv_TC mm_X11_refusalOfCell post 0 [some (.ref (vv_ad x 0)), some (.int v1), some (.int v2), some (.int v3)] [] h := by
  unfold ff_X11_refusalOfCell at hm
  refine rr_aload_n (q := 1) dX11_refusalOfCell_0 rfl rfl ?_
  refine gf_X11_85 (q := 4) rfl dX11_refusalOfCell_1 rfl ?_
  refine rr_iload_n (q := 5) dX11_refusalOfCell_4 rfl rfl ?_
  refine rr_iload_n (q := 6) dX11_refusalOfCell_5 rfl rfl ?_
  refine rr_iload_n (q := 7) dX11_refusalOfCell_6 rfl rfl ?_
  refine rr_iadd (q := 8) dX11_refusalOfCell_7 rfl ?_
  obtain ⟨r1, k2, hm⟩ := vv_bind hm
  refine rr_callV (q := 11) (M' := mm_X7_hasCell) (As := [.int v1, .int (v2 + v3)]) (st := []) (w := some (.int r1)) (cc_X7_hasCell  k2) rfl ylC_176 ynC_176 rfl vy_X7_hasCell zw_494 ⟨Nat.le_of_ble_eq_true rfl, Nat.le_of_ble_eq_true rfl⟩ (Nat.le_of_ble_eq_true rfl) dX11_refusalOfCell_8 rfl ?_
  show vv_V x vv_TC mm_X11_refusalOfCell post 11 [some (.ref (vv_ad x 0)), some (.int v1), some (.int v2), some (.int v3)] [.int r1] h
  refine rr_if_ne (q := 14) (tgt := 17) dX11_refusalOfCell_11 (by decide) rfl hm (fun hm => ?_) (fun hm => ?_)
  · refine rr_aload_n (q := 18) dX11_refusalOfCell_17 rfl rfl ?_
    refine gf_X11_85 (q := 21) rfl dX11_refusalOfCell_18 rfl ?_
    refine gf_X11_382 (q := 24) rfl dX11_refusalOfCell_21 rfl ?_
    refine rr_iload_n (q := 25) dX11_refusalOfCell_24 rfl rfl ?_
    obtain ⟨c3, hm⟩ := vv_ck_of hm
    refine rr_aald (q := 26) ylC_179 ynC_179 c3 dX11_refusalOfCell_25 rfl ?_
    refine rr_iload_n (q := 27) dX11_refusalOfCell_26 rfl rfl ?_
    refine rr_iload_n (q := 28) dX11_refusalOfCell_27 rfl rfl ?_
    refine rr_iadd (q := 29) dX11_refusalOfCell_28 rfl ?_
    obtain ⟨c4, hm⟩ := vv_ck_of hm
    refine rr_iald (q := 30) (ywC_179 c3).1 (ywC_179 c3).2 c4 dX11_refusalOfCell_29 rfl ?_
    obtain ⟨r5, k6, hm⟩ := vv_bind hm
    refine rr_callS (q := 33) (M' := mm_X11_isMeasure) (As := [.int (h.1 (180 + v1.toNatClampNeg) (v2 + v3).toNatClampNeg)]) (st := []) (w := some (.int r5))  (cc_X11_isMeasure  k6) rfl vy_X11_isMeasure zw_395 ⟨Nat.le_of_ble_eq_true rfl, Nat.le_of_ble_eq_true rfl⟩ (Nat.le_of_ble_eq_true rfl) dX11_refusalOfCell_30 rfl ?_
    show vv_V x vv_TC mm_X11_refusalOfCell post 33 [some (.ref (vv_ad x 0)), some (.int v1), some (.int v2), some (.int v3)] [.int r5] h
    refine rr_if_eq (q := 36) (tgt := 40) dX11_refusalOfCell_33 (by decide) rfl hm (fun hm => ?_) (fun hm => ?_)
    · refine rr_bipush (q := 42) (v := -100) dX11_refusalOfCell_40 rfl (by decide) ?_
      refine rr_iload_n (q := 43) dX11_refusalOfCell_42 rfl rfl ?_
      refine rr_isub (q := 44) dX11_refusalOfCell_43 rfl ?_
      obtain rfl := Option.some.inj hm
      exact rr_iret dX11_refusalOfCell_44 rfl hp
    · refine rr_iconst (q := 37) (v := 0) dX11_refusalOfCell_36 rfl (by decide) ?_
      refine rr_goto (tgt := 44) dX11_refusalOfCell_37 (by decide) ?_
      obtain rfl := Option.some.inj hm
      exact rr_iret dX11_refusalOfCell_44 rfl hp
  · refine rr_bipush (q := 16) (v := -12) dX11_refusalOfCell_14 rfl (by decide) ?_
    obtain rfl := Option.some.inj hm
    exact rr_iret dX11_refusalOfCell_16 rfl hp
theorem cc_X11_refusalOfCell {x : vv_E} {h : vv_H} {v1 : Int32} {v2 : Int32} {v3 : Int32} {o : Int32}  (hm : ff_X11_refusalOfCell h v1 v2 v3 = some o) : vv_C x vv_TC yX11_refusalOfCell mm_X11_refusalOfCell [.ref (vv_ad x 0), .int v1, .int v2, .int v3] h (fun v g => v = some (.int o) ∧ g = h) := vv_entry (by decide +kernel) rfl (Nat.le_of_ble_eq_true rfl) rfl (vt_X11_refusalOfCell  hm ⟨rfl, rfl⟩)
def ff_X12_becomes_J88  (u1 : Int32) (u2 : Int32) (u3 : Int32) (z0 : Int32) (h : vv_H) : Option (Int32 × vv_H) := (if u2 = 0 then vv_ck u1 12 (vv_let (vv_iu h 1 u1.toNatClampNeg u3) (fun g15 => some (z0, g15))) else (if u2 = (1 : Int32) then vv_ck u1 12 (vv_let (vv_iu h 2 u1.toNatClampNeg u3) (fun g12 => some (z0, g12))) else vv_ck u1 12 (vv_let (vv_iu h 3 u1.toNatClampNeg u3) (fun g9 => some (z0, g9)))))
def ff_X12_becomes_J47  (u1 : Int32) (u2 : Int32) (u3 : Int32) (z0 : Int64) (z1 : Int64) (z2 : Int64) (h : vv_H) : Option (Int32 × vv_H) := (ff_X12_in z2 z1 z0).bind (fun r5 => (if r5 = 0 then some ((-1 : Int32), h) else (if u2 = 0 then vv_ck u1 12 (ff_X12_becomes_J88  u1 u2 u3 (h.1 1 u1.toNatClampNeg) h) else (if u2 = (1 : Int32) then vv_ck u1 12 (ff_X12_becomes_J88  u1 u2 u3 (h.1 2 u1.toNatClampNeg) h) else vv_ck u1 12 (ff_X12_becomes_J88  u1 u2 u3 (h.1 3 u1.toNatClampNeg) h)))))
def ff_X12_becomes (h : vv_H) (v1 : Int32) (v2 : Int32) (v3 : Int32) : Option (Int32 × vv_H) := (ff_X12_isBody h v1).bind (fun r1 => (if r1 = 0 then some ((-1 : Int32), h) else (ff_X12_in v2.toInt64 (0 : Int64) (2 : Int64)).bind (fun r3 => (if r3 = 0 then some ((-1 : Int32), h) else (if v2 = 0 then ff_X12_becomes_J47  v1 v2 v3 (5 : Int64) (0 : Int64) v3.toInt64 h else (if v2 = (1 : Int32) then ff_X12_becomes_J47  v1 v2 v3 (3 : Int64) (0 : Int64) v3.toInt64 h else ff_X12_becomes_J47  v1 v2 v3 (2 : Int64) (0 : Int64) v3.toInt64 h))))))
set_option maxHeartbeats 200000 in
theorem vt_X12_becomes_J88 {x : vv_E} {post : Option Value → vv_H → Prop}   {u1 : Int32} {u2 : Int32} {u3 : Int32} {z0 : Int32} {h : vv_H} {o : Int32 × vv_H}  (hm : ff_X12_becomes_J88  u1 u2 u3 z0 h = some o) (hp : post (some (.int o.1)) o.2) : vv_V x vv_TR mm_X12_becomes post 88 [some (.ref (vv_ad x 0)), some (.int u1), some (.int u2), some (.int u3), none] [.int z0] h := by
  unfold ff_X12_becomes_J88 at hm
  refine rr_istore (q := 90) [some (.ref (vv_ad x 0)), some (.int u1), some (.int u2), some (.int u3), some (.int z0)] dX12_becomes_88 rfl (Nat.le_of_ble_eq_true rfl) rfl rfl ?_
  refine rr_iload_n (q := 91) dX12_becomes_90 rfl rfl ?_
  refine rr_if_ne (q := 94) (tgt := 104) dX12_becomes_91 (by decide) rfl hm (fun hm => ?_) (fun hm => ?_)
  · refine rr_iload_n (q := 105) dX12_becomes_104 rfl rfl ?_
    refine rr_iconst (q := 106) (v := 1) dX12_becomes_105 rfl (by decide) ?_
    refine rr_icmp_ne (q := 109) (tgt := 119) dX12_becomes_106 (by decide) rfl hm (fun hm => ?_) (fun hm => ?_)
    · refine rr_aload_n (q := 120) dX12_becomes_119 rfl rfl ?_
      refine gf_X12_16 (q := 123) rfl dX12_becomes_120 rfl ?_
      refine rr_iload_n (q := 124) dX12_becomes_123 rfl rfl ?_
      refine rr_iload_n (q := 125) dX12_becomes_124 rfl rfl ?_
      obtain ⟨c8, hm⟩ := vv_ck_of hm
      obtain ⟨g9, c10, hm⟩ := vv_let_of hm
      refine rr_iast (q := 126) ylR_3 ynR_3 c8 dX12_becomes_125 rfl ?_
      rw [← c10]
      refine rr_iload (q := 128) dX12_becomes_126 rfl rfl ?_
      obtain rfl := Option.some.inj hm
      exact rr_iret dX12_becomes_128 rfl hp
    · refine rr_aload_n (q := 110) dX12_becomes_109 rfl rfl ?_
      refine gf_X12_13 (q := 113) rfl dX12_becomes_110 rfl ?_
      refine rr_iload_n (q := 114) dX12_becomes_113 rfl rfl ?_
      refine rr_iload_n (q := 115) dX12_becomes_114 rfl rfl ?_
      obtain ⟨c11, hm⟩ := vv_ck_of hm
      obtain ⟨g12, c13, hm⟩ := vv_let_of hm
      refine rr_iast (q := 116) ylR_2 ynR_2 c11 dX12_becomes_115 rfl ?_
      rw [← c13]
      refine rr_goto (tgt := 126) dX12_becomes_116 (by decide) ?_
      refine rr_iload (q := 128) dX12_becomes_126 rfl rfl ?_
      obtain rfl := Option.some.inj hm
      exact rr_iret dX12_becomes_128 rfl hp
  · refine rr_aload_n (q := 95) dX12_becomes_94 rfl rfl ?_
    refine gf_X12_7 (q := 98) rfl dX12_becomes_95 rfl ?_
    refine rr_iload_n (q := 99) dX12_becomes_98 rfl rfl ?_
    refine rr_iload_n (q := 100) dX12_becomes_99 rfl rfl ?_
    obtain ⟨c14, hm⟩ := vv_ck_of hm
    obtain ⟨g15, c16, hm⟩ := vv_let_of hm
    refine rr_iast (q := 101) ylR_1 ynR_1 c14 dX12_becomes_100 rfl ?_
    rw [← c16]
    refine rr_goto (tgt := 126) dX12_becomes_101 (by decide) ?_
    refine rr_iload (q := 128) dX12_becomes_126 rfl rfl ?_
    obtain rfl := Option.some.inj hm
    exact rr_iret dX12_becomes_128 rfl hp
set_option maxHeartbeats 200000 in
theorem vt_X12_becomes_J47 {x : vv_E} {post : Option Value → vv_H → Prop}   {u1 : Int32} {u2 : Int32} {u3 : Int32} {z0 : Int64} {z1 : Int64} {z2 : Int64} {h : vv_H} {o : Int32 × vv_H}  (hm : ff_X12_becomes_J47  u1 u2 u3 z0 z1 z2 h = some o) (hp : post (some (.int o.1)) o.2) : vv_V x vv_TR mm_X12_becomes post 47 [some (.ref (vv_ad x 0)), some (.int u1), some (.int u2), some (.int u3), none] [.long z0, .long z1, .long z2] h := by
  unfold ff_X12_becomes_J47 at hm
  obtain ⟨r5, k6, hm⟩ := vv_bind hm
  refine rr_callS (q := 50) (M' := mm_X12_in) (As := [.long z2, .long z1, .long z0]) (st := []) (w := some (.int r5))  (cc_X12_in  k6) rfl vy_X12_in zw_267 ⟨Nat.le_of_ble_eq_true rfl, Nat.le_of_ble_eq_true rfl⟩ (Nat.le_of_ble_eq_true rfl) dX12_becomes_47 rfl ?_
  show vv_V x vv_TR mm_X12_becomes post 50 [some (.ref (vv_ad x 0)), some (.int u1), some (.int u2), some (.int u3), none] [.int r5] h
  refine rr_if_ne (q := 53) (tgt := 55) dX12_becomes_50 (by decide) rfl hm (fun hm => ?_) (fun hm => ?_)
  · refine rr_iload_n (q := 56) dX12_becomes_55 rfl rfl ?_
    refine rr_if_ne (q := 59) (tgt := 68) dX12_becomes_56 (by decide) rfl hm (fun hm => ?_) (fun hm => ?_)
    · refine rr_iload_n (q := 69) dX12_becomes_68 rfl rfl ?_
      refine rr_iconst (q := 70) (v := 1) dX12_becomes_69 rfl (by decide) ?_
      refine rr_icmp_ne (q := 73) (tgt := 82) dX12_becomes_70 (by decide) rfl hm (fun hm => ?_) (fun hm => ?_)
      · refine rr_aload_n (q := 83) dX12_becomes_82 rfl rfl ?_
        refine gf_X12_16 (q := 86) rfl dX12_becomes_83 rfl ?_
        refine rr_iload_n (q := 87) dX12_becomes_86 rfl rfl ?_
        obtain ⟨c7, hm⟩ := vv_ck_of hm
        refine rr_iald (q := 88) ylR_3 ynR_3 c7 dX12_becomes_87 rfl ?_
        exact vt_X12_becomes_J88  hm hp
      · refine rr_aload_n (q := 74) dX12_becomes_73 rfl rfl ?_
        refine gf_X12_13 (q := 77) rfl dX12_becomes_74 rfl ?_
        refine rr_iload_n (q := 78) dX12_becomes_77 rfl rfl ?_
        obtain ⟨c17, hm⟩ := vv_ck_of hm
        refine rr_iald (q := 79) ylR_2 ynR_2 c17 dX12_becomes_78 rfl ?_
        refine rr_goto (tgt := 88) dX12_becomes_79 (by decide) ?_
        exact vt_X12_becomes_J88  hm hp
    · refine rr_aload_n (q := 60) dX12_becomes_59 rfl rfl ?_
      refine gf_X12_7 (q := 63) rfl dX12_becomes_60 rfl ?_
      refine rr_iload_n (q := 64) dX12_becomes_63 rfl rfl ?_
      obtain ⟨c18, hm⟩ := vv_ck_of hm
      refine rr_iald (q := 65) ylR_1 ynR_1 c18 dX12_becomes_64 rfl ?_
      refine rr_goto (tgt := 88) dX12_becomes_65 (by decide) ?_
      exact vt_X12_becomes_J88  hm hp
  · refine rr_iconst (q := 54) (v := -1) dX12_becomes_53 rfl (by decide) ?_
    obtain rfl := Option.some.inj hm
    exact rr_iret dX12_becomes_54 rfl hp
set_option maxHeartbeats 200000 in
theorem vt_X12_becomes {x : vv_E} {post : Option Value → vv_H → Prop} {h : vv_H} {v1 : Int32} {v2 : Int32} {v3 : Int32} {o : Int32 × vv_H}  (hm : ff_X12_becomes  h v1 v2 v3 = some o) (hp : post (some (.int o.1)) o.2) : vv_V x vv_TR mm_X12_becomes post 0 [some (.ref (vv_ad x 0)), some (.int v1), some (.int v2), some (.int v3), none] [] h := by
  unfold ff_X12_becomes at hm
  refine rr_aload_n (q := 1) dX12_becomes_0 rfl rfl ?_
  refine rr_iload_n (q := 2) dX12_becomes_1 rfl rfl ?_
  obtain ⟨r1, k2, hm⟩ := vv_bind hm
  refine rr_callV (q := 5) (M' := mm_X12_isBody) (As := [.int v1]) (st := []) (w := some (.int r1)) (cc_X12_isBody  k2) rfl ylR_0 ynR_0 rfl vy_X12_isBody zw_542 ⟨Nat.le_of_ble_eq_true rfl, Nat.le_of_ble_eq_true rfl⟩ (Nat.le_of_ble_eq_true rfl) dX12_becomes_2 rfl ?_
  show vv_V x vv_TR mm_X12_becomes post 5 [some (.ref (vv_ad x 0)), some (.int v1), some (.int v2), some (.int v3), none] [.int r1] h
  refine rr_if_eq (q := 8) (tgt := 53) dX12_becomes_5 (by decide) rfl hm (fun hm => ?_) (fun hm => ?_)
  · refine rr_iconst (q := 54) (v := -1) dX12_becomes_53 rfl (by decide) ?_
    obtain rfl := Option.some.inj hm
    exact rr_iret dX12_becomes_54 rfl hp
  · refine rr_iload_n (q := 9) dX12_becomes_8 rfl rfl ?_
    refine rr_i2l (q := 10) dX12_becomes_9 rfl ?_
    refine rr_lconst (q := 11) (v := 0) dX12_becomes_10 rfl (by decide) ?_
    refine rr_ldc2 (q := 14) dX12_becomes_11 rfl zw_271 ?_
    obtain ⟨r3, k4, hm⟩ := vv_bind hm
    refine rr_callS (q := 17) (M' := mm_X12_in) (As := [.long v2.toInt64, .long (0 : Int64), .long (2 : Int64)]) (st := []) (w := some (.int r3))  (cc_X12_in  k4) rfl vy_X12_in zw_267 ⟨Nat.le_of_ble_eq_true rfl, Nat.le_of_ble_eq_true rfl⟩ (Nat.le_of_ble_eq_true rfl) dX12_becomes_14 rfl ?_
    show vv_V x vv_TR mm_X12_becomes post 17 [some (.ref (vv_ad x 0)), some (.int v1), some (.int v2), some (.int v3), none] [.int r3] h
    refine rr_if_eq (q := 20) (tgt := 53) dX12_becomes_17 (by decide) rfl hm (fun hm => ?_) (fun hm => ?_)
    · refine rr_iconst (q := 54) (v := -1) dX12_becomes_53 rfl (by decide) ?_
      obtain rfl := Option.some.inj hm
      exact rr_iret dX12_becomes_54 rfl hp
    · refine rr_iload_n (q := 21) dX12_becomes_20 rfl rfl ?_
      refine rr_i2l (q := 22) dX12_becomes_21 rfl ?_
      refine rr_lconst (q := 23) (v := 0) dX12_becomes_22 rfl (by decide) ?_
      refine rr_iload_n (q := 24) dX12_becomes_23 rfl rfl ?_
      refine rr_if_ne (q := 27) (tgt := 33) dX12_becomes_24 (by decide) rfl hm (fun hm => ?_) (fun hm => ?_)
      · refine rr_iload_n (q := 34) dX12_becomes_33 rfl rfl ?_
        refine rr_iconst (q := 35) (v := 1) dX12_becomes_34 rfl (by decide) ?_
        refine rr_icmp_ne (q := 38) (tgt := 44) dX12_becomes_35 (by decide) rfl hm (fun hm => ?_) (fun hm => ?_)
        · refine rr_ldc2 (q := 47) dX12_becomes_44 rfl zw_271 ?_
          exact vt_X12_becomes_J47  hm hp
        · refine rr_ldc2 (q := 41) dX12_becomes_38 rfl zw_270 ?_
          refine rr_goto (tgt := 47) dX12_becomes_41 (by decide) ?_
          exact vt_X12_becomes_J47  hm hp
      · refine rr_ldc2 (q := 30) dX12_becomes_27 rfl zw_269 ?_
        refine rr_goto (tgt := 47) dX12_becomes_30 (by decide) ?_
        exact vt_X12_becomes_J47  hm hp
theorem cc_X12_becomes {x : vv_E} {h : vv_H} {v1 : Int32} {v2 : Int32} {v3 : Int32} {o : Int32 × vv_H}  (hm : ff_X12_becomes h v1 v2 v3 = some o) : vv_C x vv_TR yX12_becomes mm_X12_becomes [.ref (vv_ad x 0), .int v1, .int v2, .int v3] h (fun v g => v = some (.int o.1) ∧ g = o.2) := vv_entry (by decide +kernel) rfl (Nat.le_of_ble_eq_true rfl) rfl (vt_X12_becomes  hm ⟨rfl, rfl⟩)
def ff_X12_measure (h : vv_H) (v1 : Int32) (v2 : Int32) (v3 : Int32) (v4 : Int32) : Option (Int32 × vv_H) := (ff_X12_isBody h v1).bind (fun r1 => (if r1 = 0 then some ((-1 : Int32), h) else (ff_X12_in v2.toInt64 (0 : Int64) (2 : Int64)).bind (fun r3 => (if r3 = 0 then some ((-1 : Int32), h) else (ff_X12_in v3.toInt64 (0 : Int64) (250 : Int64)).bind (fun r5 => (if r5 = 0 then some ((-1 : Int32), h) else (ff_X12_isDay v4).bind (fun r7 => (if r7 = 0 then some ((-1 : Int32), h) else (if (h.1 0 6) = (60 : Int32) then some ((-3 : Int32), h) else (ff_X12_tell h v1 v2 v3 v4).bind (fun r9 => some ((r9.1 0 6), r9)))))))))))
set_option maxHeartbeats 200000 in
theorem vt_X12_measure {x : vv_E} {post : Option Value → vv_H → Prop} {h : vv_H} {v1 : Int32} {v2 : Int32} {v3 : Int32} {v4 : Int32} {o : Int32 × vv_H}  (hm : ff_X12_measure  h v1 v2 v3 v4 = some o) (hp : post (some (.int o.1)) o.2) : vv_V x vv_TR mm_X12_measure post 0 [some (.ref (vv_ad x 0)), some (.int v1), some (.int v2), some (.int v3), some (.int v4)] [] h := by
  unfold ff_X12_measure at hm
  refine rr_aload_n (q := 1) dX12_measure_0 rfl rfl ?_
  refine rr_iload_n (q := 2) dX12_measure_1 rfl rfl ?_
  obtain ⟨r1, k2, hm⟩ := vv_bind hm
  refine rr_callV (q := 5) (M' := mm_X12_isBody) (As := [.int v1]) (st := []) (w := some (.int r1)) (cc_X12_isBody  k2) rfl ylR_0 ynR_0 rfl vy_X12_isBody zw_542 ⟨Nat.le_of_ble_eq_true rfl, Nat.le_of_ble_eq_true rfl⟩ (Nat.le_of_ble_eq_true rfl) dX12_measure_2 rfl ?_
  show vv_V x vv_TR mm_X12_measure post 5 [some (.ref (vv_ad x 0)), some (.int v1), some (.int v2), some (.int v3), some (.int v4)] [.int r1] h
  refine rr_if_eq (q := 8) (tgt := 40) dX12_measure_5 (by decide) rfl hm (fun hm => ?_) (fun hm => ?_)
  · refine rr_iconst (q := 41) (v := -1) dX12_measure_40 rfl (by decide) ?_
    obtain rfl := Option.some.inj hm
    exact rr_iret dX12_measure_41 rfl hp
  · refine rr_iload_n (q := 9) dX12_measure_8 rfl rfl ?_
    refine rr_i2l (q := 10) dX12_measure_9 rfl ?_
    refine rr_lconst (q := 11) (v := 0) dX12_measure_10 rfl (by decide) ?_
    refine rr_ldc2 (q := 14) dX12_measure_11 rfl zw_271 ?_
    obtain ⟨r3, k4, hm⟩ := vv_bind hm
    refine rr_callS (q := 17) (M' := mm_X12_in) (As := [.long v2.toInt64, .long (0 : Int64), .long (2 : Int64)]) (st := []) (w := some (.int r3))  (cc_X12_in  k4) rfl vy_X12_in zw_267 ⟨Nat.le_of_ble_eq_true rfl, Nat.le_of_ble_eq_true rfl⟩ (Nat.le_of_ble_eq_true rfl) dX12_measure_14 rfl ?_
    show vv_V x vv_TR mm_X12_measure post 17 [some (.ref (vv_ad x 0)), some (.int v1), some (.int v2), some (.int v3), some (.int v4)] [.int r3] h
    refine rr_if_eq (q := 20) (tgt := 40) dX12_measure_17 (by decide) rfl hm (fun hm => ?_) (fun hm => ?_)
    · refine rr_iconst (q := 41) (v := -1) dX12_measure_40 rfl (by decide) ?_
      obtain rfl := Option.some.inj hm
      exact rr_iret dX12_measure_41 rfl hp
    · refine rr_iload_n (q := 21) dX12_measure_20 rfl rfl ?_
      refine rr_i2l (q := 22) dX12_measure_21 rfl ?_
      refine rr_lconst (q := 23) (v := 0) dX12_measure_22 rfl (by decide) ?_
      refine rr_ldc2 (q := 26) dX12_measure_23 rfl zw_272 ?_
      obtain ⟨r5, k6, hm⟩ := vv_bind hm
      refine rr_callS (q := 29) (M' := mm_X12_in) (As := [.long v3.toInt64, .long (0 : Int64), .long (250 : Int64)]) (st := []) (w := some (.int r5))  (cc_X12_in  k6) rfl vy_X12_in zw_267 ⟨Nat.le_of_ble_eq_true rfl, Nat.le_of_ble_eq_true rfl⟩ (Nat.le_of_ble_eq_true rfl) dX12_measure_26 rfl ?_
      show vv_V x vv_TR mm_X12_measure post 29 [some (.ref (vv_ad x 0)), some (.int v1), some (.int v2), some (.int v3), some (.int v4)] [.int r5] h
      refine rr_if_eq (q := 32) (tgt := 40) dX12_measure_29 (by decide) rfl hm (fun hm => ?_) (fun hm => ?_)
      · refine rr_iconst (q := 41) (v := -1) dX12_measure_40 rfl (by decide) ?_
        obtain rfl := Option.some.inj hm
        exact rr_iret dX12_measure_41 rfl hp
      · refine rr_iload (q := 34) dX12_measure_32 rfl rfl ?_
        obtain ⟨r7, k8, hm⟩ := vv_bind hm
        refine rr_callS (q := 37) (M' := mm_X12_isDay) (As := [.int v4]) (st := []) (w := some (.int r7))  (cc_X12_isDay  k8) rfl vy_X12_isDay zw_546 ⟨Nat.le_of_ble_eq_true rfl, Nat.le_of_ble_eq_true rfl⟩ (Nat.le_of_ble_eq_true rfl) dX12_measure_34 rfl ?_
        show vv_V x vv_TR mm_X12_measure post 37 [some (.ref (vv_ad x 0)), some (.int v1), some (.int v2), some (.int v3), some (.int v4)] [.int r7] h
        refine rr_if_ne (q := 40) (tgt := 42) dX12_measure_37 (by decide) rfl hm (fun hm => ?_) (fun hm => ?_)
        · refine rr_aload_n (q := 43) dX12_measure_42 rfl rfl ?_
          refine gf_X12_200 (q := 46) rfl dX12_measure_43 rfl ?_
          refine rr_bipush (q := 48) (v := 60) dX12_measure_46 rfl (by decide) ?_
          refine rr_icmp_ne (q := 51) (tgt := 54) dX12_measure_48 (by decide) rfl hm (fun hm => ?_) (fun hm => ?_)
          · refine rr_aload_n (q := 55) dX12_measure_54 rfl rfl ?_
            refine rr_iload_n (q := 56) dX12_measure_55 rfl rfl ?_
            refine rr_iload_n (q := 57) dX12_measure_56 rfl rfl ?_
            refine rr_iload_n (q := 58) dX12_measure_57 rfl rfl ?_
            refine rr_iload (q := 60) dX12_measure_58 rfl rfl ?_
            obtain ⟨r9, k10, hm⟩ := vv_bind hm
            refine rr_callV (q := 63) (M' := mm_X12_tell) (As := [.int v1, .int v2, .int v3, .int v4]) (st := []) (w := none) (cc_X12_tell  k10) rfl ylR_0 ynR_0 rfl vy_X12_tell zw_339 ⟨Nat.le_of_ble_eq_true rfl, Nat.le_of_ble_eq_true rfl⟩ (Nat.le_of_ble_eq_true rfl) dX12_measure_60 rfl ?_
            show vv_V x vv_TR mm_X12_measure post 63 [some (.ref (vv_ad x 0)), some (.int v1), some (.int v2), some (.int v3), some (.int v4)] [] r9
            refine rr_aload_n (q := 64) dX12_measure_63 rfl rfl ?_
            refine gf_X12_200 (q := 67) rfl dX12_measure_64 rfl ?_
            obtain rfl := Option.some.inj hm
            exact rr_iret dX12_measure_67 rfl hp
          · refine rr_bipush (q := 53) (v := -3) dX12_measure_51 rfl (by decide) ?_
            obtain rfl := Option.some.inj hm
            exact rr_iret dX12_measure_53 rfl hp
        · refine rr_iconst (q := 41) (v := -1) dX12_measure_40 rfl (by decide) ?_
          obtain rfl := Option.some.inj hm
          exact rr_iret dX12_measure_41 rfl hp
theorem cc_X12_measure {x : vv_E} {h : vv_H} {v1 : Int32} {v2 : Int32} {v3 : Int32} {v4 : Int32} {o : Int32 × vv_H}  (hm : ff_X12_measure h v1 v2 v3 v4 = some o) : vv_C x vv_TR yX12_measure mm_X12_measure [.ref (vv_ad x 0), .int v1, .int v2, .int v3, .int v4] h (fun v g => v = some (.int o.1) ∧ g = o.2) := vv_entry (by decide +kernel) rfl (Nat.le_of_ble_eq_true rfl) rfl (vt_X12_measure  hm ⟨rfl, rfl⟩)
def ff_X12_known (h : vv_H) (v1 : Int32) (v2 : Int32) (v3 : Int32) (v4 : Int32) : Option (Int32) := (ff_X12_isBody h v1).bind (fun r1 => (if r1 = 0 then some (-1 : Int32) else (ff_X12_in v2.toInt64 (0 : Int64) (2 : Int64)).bind (fun r3 => (if r3 = 0 then some (-1 : Int32) else (ff_X12_isDay v3).bind (fun r5 => (if r5 = 0 then some (-1 : Int32) else (ff_X12_isDay v4).bind (fun r7 => (if r7 = 0 then some (-1 : Int32) else (ff_X12_knownOf h v1 v2 v3 v4).bind (fun r9 => some r9)))))))))
set_option maxHeartbeats 200000 in
theorem vt_X12_known {x : vv_E} {post : Option Value → vv_H → Prop} {h : vv_H} {v1 : Int32} {v2 : Int32} {v3 : Int32} {v4 : Int32} {o : Int32}  (hm : ff_X12_known  h v1 v2 v3 v4 = some o) (hp : post (some (.int o)) h) : vv_V x vv_TR mm_X12_known post 0 [some (.ref (vv_ad x 0)), some (.int v1), some (.int v2), some (.int v3), some (.int v4)] [] h := by
  unfold ff_X12_known at hm
  refine rr_aload_n (q := 1) dX12_known_0 rfl rfl ?_
  refine rr_iload_n (q := 2) dX12_known_1 rfl rfl ?_
  obtain ⟨r1, k2, hm⟩ := vv_bind hm
  refine rr_callV (q := 5) (M' := mm_X12_isBody) (As := [.int v1]) (st := []) (w := some (.int r1)) (cc_X12_isBody  k2) rfl ylR_0 ynR_0 rfl vy_X12_isBody zw_542 ⟨Nat.le_of_ble_eq_true rfl, Nat.le_of_ble_eq_true rfl⟩ (Nat.le_of_ble_eq_true rfl) dX12_known_2 rfl ?_
  show vv_V x vv_TR mm_X12_known post 5 [some (.ref (vv_ad x 0)), some (.int v1), some (.int v2), some (.int v3), some (.int v4)] [.int r1] h
  refine rr_if_eq (q := 8) (tgt := 47) dX12_known_5 (by decide) rfl hm (fun hm => ?_) (fun hm => ?_)
  · refine rr_iconst (q := 48) (v := -1) dX12_known_47 rfl (by decide) ?_
    obtain rfl := Option.some.inj hm
    exact rr_iret dX12_known_48 rfl hp
  · refine rr_iload_n (q := 9) dX12_known_8 rfl rfl ?_
    refine rr_i2l (q := 10) dX12_known_9 rfl ?_
    refine rr_lconst (q := 11) (v := 0) dX12_known_10 rfl (by decide) ?_
    refine rr_ldc2 (q := 14) dX12_known_11 rfl zw_271 ?_
    obtain ⟨r3, k4, hm⟩ := vv_bind hm
    refine rr_callS (q := 17) (M' := mm_X12_in) (As := [.long v2.toInt64, .long (0 : Int64), .long (2 : Int64)]) (st := []) (w := some (.int r3))  (cc_X12_in  k4) rfl vy_X12_in zw_267 ⟨Nat.le_of_ble_eq_true rfl, Nat.le_of_ble_eq_true rfl⟩ (Nat.le_of_ble_eq_true rfl) dX12_known_14 rfl ?_
    show vv_V x vv_TR mm_X12_known post 17 [some (.ref (vv_ad x 0)), some (.int v1), some (.int v2), some (.int v3), some (.int v4)] [.int r3] h
    refine rr_if_eq (q := 20) (tgt := 47) dX12_known_17 (by decide) rfl hm (fun hm => ?_) (fun hm => ?_)
    · refine rr_iconst (q := 48) (v := -1) dX12_known_47 rfl (by decide) ?_
      obtain rfl := Option.some.inj hm
      exact rr_iret dX12_known_48 rfl hp
    · refine rr_iload_n (q := 21) dX12_known_20 rfl rfl ?_
      obtain ⟨r5, k6, hm⟩ := vv_bind hm
      refine rr_callS (q := 24) (M' := mm_X12_isDay) (As := [.int v3]) (st := []) (w := some (.int r5))  (cc_X12_isDay  k6) rfl vy_X12_isDay zw_546 ⟨Nat.le_of_ble_eq_true rfl, Nat.le_of_ble_eq_true rfl⟩ (Nat.le_of_ble_eq_true rfl) dX12_known_21 rfl ?_
      show vv_V x vv_TR mm_X12_known post 24 [some (.ref (vv_ad x 0)), some (.int v1), some (.int v2), some (.int v3), some (.int v4)] [.int r5] h
      refine rr_if_eq (q := 27) (tgt := 47) dX12_known_24 (by decide) rfl hm (fun hm => ?_) (fun hm => ?_)
      · refine rr_iconst (q := 48) (v := -1) dX12_known_47 rfl (by decide) ?_
        obtain rfl := Option.some.inj hm
        exact rr_iret dX12_known_48 rfl hp
      · refine rr_iload (q := 29) dX12_known_27 rfl rfl ?_
        obtain ⟨r7, k8, hm⟩ := vv_bind hm
        refine rr_callS (q := 32) (M' := mm_X12_isDay) (As := [.int v4]) (st := []) (w := some (.int r7))  (cc_X12_isDay  k8) rfl vy_X12_isDay zw_546 ⟨Nat.le_of_ble_eq_true rfl, Nat.le_of_ble_eq_true rfl⟩ (Nat.le_of_ble_eq_true rfl) dX12_known_29 rfl ?_
        show vv_V x vv_TR mm_X12_known post 32 [some (.ref (vv_ad x 0)), some (.int v1), some (.int v2), some (.int v3), some (.int v4)] [.int r7] h
        refine rr_if_eq (q := 35) (tgt := 47) dX12_known_32 (by decide) rfl hm (fun hm => ?_) (fun hm => ?_)
        · refine rr_iconst (q := 48) (v := -1) dX12_known_47 rfl (by decide) ?_
          obtain rfl := Option.some.inj hm
          exact rr_iret dX12_known_48 rfl hp
        · refine rr_aload_n (q := 36) dX12_known_35 rfl rfl ?_
          refine rr_iload_n (q := 37) dX12_known_36 rfl rfl ?_
          refine rr_iload_n (q := 38) dX12_known_37 rfl rfl ?_
          refine rr_iload_n (q := 39) dX12_known_38 rfl rfl ?_
          refine rr_iload (q := 41) dX12_known_39 rfl rfl ?_
          obtain ⟨r9, k10, hm⟩ := vv_bind hm
          refine rr_callV (q := 44) (M' := mm_X12_knownOf) (As := [.int v1, .int v2, .int v3, .int v4]) (st := []) (w := some (.int r9)) (cc_X12_knownOf  k10) rfl ylR_0 ynR_0 rfl vy_X12_knownOf zw_278 ⟨Nat.le_of_ble_eq_true rfl, Nat.le_of_ble_eq_true rfl⟩ (Nat.le_of_ble_eq_true rfl) dX12_known_41 rfl ?_
          show vv_V x vv_TR mm_X12_known post 44 [some (.ref (vv_ad x 0)), some (.int v1), some (.int v2), some (.int v3), some (.int v4)] [.int r9] h
          refine rr_goto (tgt := 48) dX12_known_44 (by decide) ?_
          obtain rfl := Option.some.inj hm
          exact rr_iret dX12_known_48 rfl hp
theorem cc_X12_known {x : vv_E} {h : vv_H} {v1 : Int32} {v2 : Int32} {v3 : Int32} {v4 : Int32} {o : Int32}  (hm : ff_X12_known h v1 v2 v3 v4 = some o) : vv_C x vv_TR yX12_known mm_X12_known [.ref (vv_ad x 0), .int v1, .int v2, .int v3, .int v4] h (fun v g => v = some (.int o) ∧ g = h) := vv_entry (by decide +kernel) rfl (Nat.le_of_ble_eq_true rfl) rfl (vt_X12_known  hm ⟨rfl, rfl⟩)
def ff_X12_fits (h : vv_H) (v1 : Int32) (v2 : Int32) (v3 : Int32) : Option (Int32) := (ff_X12_in v1.toInt64 (0 : Int64) (((h.1 0 12) - (1 : Int32)).toInt64)).bind (fun r1 => (if r1 = 0 then some (-1 : Int32) else (ff_X12_isBody h v2).bind (fun r3 => (if r3 = 0 then some (-1 : Int32) else (ff_X12_in v3.toInt64 (0 : Int64) (50 : Int64)).bind (fun r5 => (if r5 = 0 then some (-1 : Int32) else (ff_X12_doesFit h v1 v2 v3).bind (fun r7 => (if r7 = 0 then some (0 : Int32) else some (1 : Int32)))))))))
set_option maxHeartbeats 200000 in
theorem vt_X12_fits {x : vv_E} {post : Option Value → vv_H → Prop} {h : vv_H} {v1 : Int32} {v2 : Int32} {v3 : Int32} {o : Int32}  (hm : ff_X12_fits  h v1 v2 v3 = some o) (hp : post (some (.int o)) h) : vv_V x vv_TR mm_X12_fits post 0 [some (.ref (vv_ad x 0)), some (.int v1), some (.int v2), some (.int v3)] [] h := by
  unfold ff_X12_fits at hm
  refine rr_iload_n (q := 1) dX12_fits_0 rfl rfl ?_
  refine rr_i2l (q := 2) dX12_fits_1 rfl ?_
  refine rr_lconst (q := 3) (v := 0) dX12_fits_2 rfl (by decide) ?_
  refine rr_aload_n (q := 4) dX12_fits_3 rfl rfl ?_
  refine gf_X12_235 (q := 7) rfl dX12_fits_4 rfl ?_
  refine rr_iconst (q := 8) (v := 1) dX12_fits_7 rfl (by decide) ?_
  refine rr_isub (q := 9) dX12_fits_8 rfl ?_
  refine rr_i2l (q := 10) dX12_fits_9 rfl ?_
  obtain ⟨r1, k2, hm⟩ := vv_bind hm
  refine rr_callS (q := 13) (M' := mm_X12_in) (As := [.long v1.toInt64, .long (0 : Int64), .long (((h.1 0 12) - (1 : Int32)).toInt64)]) (st := []) (w := some (.int r1))  (cc_X12_in  k2) rfl vy_X12_in zw_267 ⟨Nat.le_of_ble_eq_true rfl, Nat.le_of_ble_eq_true rfl⟩ (Nat.le_of_ble_eq_true rfl) dX12_fits_10 rfl ?_
  show vv_V x vv_TR mm_X12_fits post 13 [some (.ref (vv_ad x 0)), some (.int v1), some (.int v2), some (.int v3)] [.int r1] h
  refine rr_if_eq (q := 16) (tgt := 36) dX12_fits_13 (by decide) rfl hm (fun hm => ?_) (fun hm => ?_)
  · refine rr_iconst (q := 37) (v := -1) dX12_fits_36 rfl (by decide) ?_
    obtain rfl := Option.some.inj hm
    exact rr_iret dX12_fits_37 rfl hp
  · refine rr_aload_n (q := 17) dX12_fits_16 rfl rfl ?_
    refine rr_iload_n (q := 18) dX12_fits_17 rfl rfl ?_
    obtain ⟨r3, k4, hm⟩ := vv_bind hm
    refine rr_callV (q := 21) (M' := mm_X12_isBody) (As := [.int v2]) (st := []) (w := some (.int r3)) (cc_X12_isBody  k4) rfl ylR_0 ynR_0 rfl vy_X12_isBody zw_542 ⟨Nat.le_of_ble_eq_true rfl, Nat.le_of_ble_eq_true rfl⟩ (Nat.le_of_ble_eq_true rfl) dX12_fits_18 rfl ?_
    show vv_V x vv_TR mm_X12_fits post 21 [some (.ref (vv_ad x 0)), some (.int v1), some (.int v2), some (.int v3)] [.int r3] h
    refine rr_if_eq (q := 24) (tgt := 36) dX12_fits_21 (by decide) rfl hm (fun hm => ?_) (fun hm => ?_)
    · refine rr_iconst (q := 37) (v := -1) dX12_fits_36 rfl (by decide) ?_
      obtain rfl := Option.some.inj hm
      exact rr_iret dX12_fits_37 rfl hp
    · refine rr_iload_n (q := 25) dX12_fits_24 rfl rfl ?_
      refine rr_i2l (q := 26) dX12_fits_25 rfl ?_
      refine rr_lconst (q := 27) (v := 0) dX12_fits_26 rfl (by decide) ?_
      refine rr_ldc2 (q := 30) dX12_fits_27 rfl zw_547 ?_
      obtain ⟨r5, k6, hm⟩ := vv_bind hm
      refine rr_callS (q := 33) (M' := mm_X12_in) (As := [.long v3.toInt64, .long (0 : Int64), .long (50 : Int64)]) (st := []) (w := some (.int r5))  (cc_X12_in  k6) rfl vy_X12_in zw_267 ⟨Nat.le_of_ble_eq_true rfl, Nat.le_of_ble_eq_true rfl⟩ (Nat.le_of_ble_eq_true rfl) dX12_fits_30 rfl ?_
      show vv_V x vv_TR mm_X12_fits post 33 [some (.ref (vv_ad x 0)), some (.int v1), some (.int v2), some (.int v3)] [.int r5] h
      refine rr_if_ne (q := 36) (tgt := 38) dX12_fits_33 (by decide) rfl hm (fun hm => ?_) (fun hm => ?_)
      · refine rr_aload_n (q := 39) dX12_fits_38 rfl rfl ?_
        refine rr_iload_n (q := 40) dX12_fits_39 rfl rfl ?_
        refine rr_iload_n (q := 41) dX12_fits_40 rfl rfl ?_
        refine rr_iload_n (q := 42) dX12_fits_41 rfl rfl ?_
        obtain ⟨r7, k8, hm⟩ := vv_bind hm
        refine rr_callV (q := 45) (M' := mm_X12_doesFit) (As := [.int v1, .int v2, .int v3]) (st := []) (w := some (.int r7)) (cc_X12_doesFit  k8) rfl ylR_0 ynR_0 rfl vy_X12_doesFit zw_552 ⟨Nat.le_of_ble_eq_true rfl, Nat.le_of_ble_eq_true rfl⟩ (Nat.le_of_ble_eq_true rfl) dX12_fits_42 rfl ?_
        show vv_V x vv_TR mm_X12_fits post 45 [some (.ref (vv_ad x 0)), some (.int v1), some (.int v2), some (.int v3)] [.int r7] h
        refine rr_if_eq (q := 48) (tgt := 52) dX12_fits_45 (by decide) rfl hm (fun hm => ?_) (fun hm => ?_)
        · refine rr_iconst (q := 53) (v := 0) dX12_fits_52 rfl (by decide) ?_
          obtain rfl := Option.some.inj hm
          exact rr_iret dX12_fits_53 rfl hp
        · refine rr_iconst (q := 49) (v := 1) dX12_fits_48 rfl (by decide) ?_
          refine rr_goto (tgt := 53) dX12_fits_49 (by decide) ?_
          obtain rfl := Option.some.inj hm
          exact rr_iret dX12_fits_53 rfl hp
      · refine rr_iconst (q := 37) (v := -1) dX12_fits_36 rfl (by decide) ?_
        obtain rfl := Option.some.inj hm
        exact rr_iret dX12_fits_37 rfl hp
theorem cc_X12_fits {x : vv_E} {h : vv_H} {v1 : Int32} {v2 : Int32} {v3 : Int32} {o : Int32}  (hm : ff_X12_fits h v1 v2 v3 = some o) : vv_C x vv_TR yX12_fits mm_X12_fits [.ref (vv_ad x 0), .int v1, .int v2, .int v3] h (fun v g => v = some (.int o) ∧ g = h) := vv_entry (by decide +kernel) rfl (Nat.le_of_ble_eq_true rfl) rfl (vt_X12_fits  hm ⟨rfl, rfl⟩)
def ff_X12_sized_B106 (u1 : Int32) (u2 : Int32) (u3 : Int32) (u4 : Int32) (u5 : Int32) (u6 : Int32) (u8 : Int32) (h : vv_H) (s7 : Int32) : Option ((Int32) ⊕ ((Int32))) := (if s7 ≤ 0 then some (.inr s7) else (ff_X12_doesFit h u8 u1 (s7 - (1 : Int32))).bind (fun r14 => (if r14 = 0 then some (.inr s7) else vv_let (s7 + (-1)) (fun w16 => some (.inl w16)))))
def ff_X12_sized_J106  (u1 : Int32) (u2 : Int32) (u3 : Int32) (u4 : Int32) (m5 : Int32) (m6 : Int32) (m7 : Int32) (m8 : Int32) (h : vv_H) : Option ((Int32 × Int32 × Int32 × Int32) ⊕ ((Int32 × Int32 × Int32))) := (vv_lp (fun (zs : Int32) => ff_X12_sized_B106  u1 u2 u3 u4 m5 m6 m8 h zs) vv_F m7).bind (fun (e19 : (Int32)) => vv_let (m8 + (-1)) (fun w20 => some (.inl (m5, m6, e19, w20))))
def ff_X12_sized_B72 (u1 : Int32) (u2 : Int32) (u3 : Int32) (u4 : Int32) (h : vv_H) (s5 : Int32) (s6 : Int32) (s7 : Int32) (s8 : Int32) : Option ((Int32 × Int32 × Int32 × Int32) ⊕ ((Int32 × Int32 × Int32))) := (if s8 < 0 then some (.inr (s5, s6, s7)) else vv_ck s8 12 ((if (h.1 10 s8.toNatClampNeg) = u2 then (ff_X12_doesFit h s8 u1 u3).bind (fun r12 => (if r12 = 0 then ff_X12_sized_J106  u1 u2 u3 u4 s5 s6 s7 s8 h else vv_let (s5 + 1) (fun w23 => ff_X12_sized_J106  u1 u2 u3 u4 w23 s8 s7 s8 h))) else vv_let (s8 + (-1)) (fun w10 => some (.inl (s5, s6, s7, w10))))))
def ff_X12_sized_J53  (u1 : Int32) (u2 : Int32) (u3 : Int32) (u4 : Int32) (h : vv_H) : Option (Int32) := vv_let ((h.1 0 12) - (1 : Int32)) (fun w7 => (vv_lp (fun (zs : Int32 × Int32 × Int32 × Int32) => ff_X12_sized_B72  u1 u2 u3 u4 h zs.1 zs.2.1 zs.2.2.1 zs.2.2.2) vv_F ((0 : Int32), (-4 : Int32), (51 : Int32), w7)).bind (fun (e26 : (Int32 × Int32 × Int32)) => (if u4 = 0 then some e26.1 else (if u4 = (1 : Int32) then some e26.2.1 else (if e26.2.2 ≤ (50 : Int32) then some e26.2.2 else some (-4 : Int32))))))
def ff_X12_sized (h : vv_H) (v1 : Int32) (v2 : Int32) (v3 : Int32) (v4 : Int32) : Option (Int32) := (ff_X12_isBody h v1).bind (fun r1 => (if r1 = 0 then some (-1 : Int32) else (ff_X12_in v2.toInt64 (0 : Int64) (3 : Int64)).bind (fun r3 => (if r3 = 0 then some (-1 : Int32) else (ff_X12_in v4.toInt64 (0 : Int64) (2 : Int64)).bind (fun r5 => (if r5 = 0 then some (-1 : Int32) else (if (2 : Int32) ≤ v4 then ff_X12_sized_J53  v1 v2 v3 v4 h else (ff_X12_in v3.toInt64 (0 : Int64) (50 : Int64)).bind (fun r28 => (if r28 = 0 then some (-1 : Int32) else ff_X12_sized_J53  v1 v2 v3 v4 h)))))))))
set_option maxHeartbeats 200000 in
theorem vt_X12_sized_B106 {x : vv_E} {post : Option Value → vv_H → Prop} {u1 : Int32} {u2 : Int32} {u3 : Int32} {u4 : Int32} {u5 : Int32} {u6 : Int32} {u8 : Int32} {h : vv_H} {s7 : Int32} {o : (Int32) ⊕ ((Int32))}  (hm : ff_X12_sized_B106  u1 u2 u3 u4 u5 u6 u8 h s7 = some o) (hI : ∀ (z7 : Int32) , o = .inl z7 → vv_V x vv_TR mm_X12_sized post 106 [some (.ref (vv_ad x 0)), some (.int u1), some (.int u2), some (.int u3), some (.int u4), some (.int u5), some (.int u6), some (.int z7), some (.int u8)] [] h) (hX0 : ∀ (z7 : Int32), o = .inr z7 → vv_V x vv_TR mm_X12_sized post 131 [some (.ref (vv_ad x 0)), some (.int u1), some (.int u2), some (.int u3), some (.int u4), some (.int u5), some (.int u6), some (.int z7), some (.int u8)] [] h) : vv_V x vv_TR mm_X12_sized post 106 [some (.ref (vv_ad x 0)), some (.int u1), some (.int u2), some (.int u3), some (.int u4), some (.int u5), some (.int u6), some (.int s7), some (.int u8)] [] h := by
  unfold ff_X12_sized_B106 at hm
  refine rr_iload (q := 108) dX12_sized_106 rfl rfl ?_
  refine rr_if_le (q := 111) (tgt := 131) dX12_sized_108 (by decide) rfl hm (fun hm => ?_) (fun hm => ?_)
  · obtain rfl := Option.some.inj hm
    exact hX0 s7 rfl
  · refine rr_aload_n (q := 112) dX12_sized_111 rfl rfl ?_
    refine rr_iload (q := 114) dX12_sized_112 rfl rfl ?_
    refine rr_iload_n (q := 115) dX12_sized_114 rfl rfl ?_
    refine rr_iload (q := 117) dX12_sized_115 rfl rfl ?_
    refine rr_iconst (q := 118) (v := 1) dX12_sized_117 rfl (by decide) ?_
    refine rr_isub (q := 119) dX12_sized_118 rfl ?_
    obtain ⟨r14, k15, hm⟩ := vv_bind hm
    refine rr_callV (q := 122) (M' := mm_X12_doesFit) (As := [.int u8, .int u1, .int (s7 - (1 : Int32))]) (st := []) (w := some (.int r14)) (cc_X12_doesFit  k15) rfl ylR_0 ynR_0 rfl vy_X12_doesFit zw_552 ⟨Nat.le_of_ble_eq_true rfl, Nat.le_of_ble_eq_true rfl⟩ (Nat.le_of_ble_eq_true rfl) dX12_sized_119 rfl ?_
    show vv_V x vv_TR mm_X12_sized post 122 [some (.ref (vv_ad x 0)), some (.int u1), some (.int u2), some (.int u3), some (.int u4), some (.int u5), some (.int u6), some (.int s7), some (.int u8)] [.int r14] h
    refine rr_if_eq (q := 125) (tgt := 131) dX12_sized_122 (by decide) rfl hm (fun hm => ?_) (fun hm => ?_)
    · obtain rfl := Option.some.inj hm
      exact hX0 s7 rfl
    · obtain ⟨w16, c17, hm⟩ := vv_let_of hm
      refine rr_iinc (q := 128) [some (.ref (vv_ad x 0)), some (.int u1), some (.int u2), some (.int u3), some (.int u4), some (.int u5), some (.int u6), some (.int w16), some (.int u8)] dX12_sized_125 rfl rfl c17.symm (Nat.le_of_ble_eq_true rfl) rfl rfl ?_
      refine rr_goto (tgt := 106) dX12_sized_128 (by decide) ?_
      obtain rfl := Option.some.inj hm
      exact hI w16 rfl
set_option maxHeartbeats 200000 in
theorem vt_X12_sized_J106 {x : vv_E} {post : Option Value → vv_H → Prop}   {u1 : Int32} {u2 : Int32} {u3 : Int32} {u4 : Int32} {m5 : Int32} {m6 : Int32} {m7 : Int32} {m8 : Int32} {h : vv_H} {o : (Int32 × Int32 × Int32 × Int32) ⊕ ((Int32 × Int32 × Int32))}  (hm : ff_X12_sized_J106  u1 u2 u3 u4 m5 m6 m7 m8 h = some o) (hI : ∀ (z5 : Int32) (z6 : Int32) (z7 : Int32) (z8 : Int32) , o = .inl (z5, z6, z7, z8) → vv_V x vv_TR mm_X12_sized post 72 [some (.ref (vv_ad x 0)), some (.int u1), some (.int u2), some (.int u3), some (.int u4), some (.int z5), some (.int z6), some (.int z7), some (.int z8)] [] h) (hX0 : ∀ (z5 : Int32) (z6 : Int32) (z7 : Int32), o = .inr (z5, z6, z7) → vv_V x vv_TR mm_X12_sized post 137 [none, none, none, none, some (.int u4), some (.int z5), some (.int z6), some (.int z7), none] [] h) : vv_V x vv_TR mm_X12_sized post 106 [some (.ref (vv_ad x 0)), some (.int u1), some (.int u2), some (.int u3), some (.int u4), some (.int m5), some (.int m6), some (.int m7), some (.int m8)] [] h := by
  unfold ff_X12_sized_J106 at hm
  obtain ⟨r18, k22, hm⟩ := vv_bind hm
  refine vv_lp_link (P := fun (zs : Int32) => vv_V x vv_TR mm_X12_sized post 106 [some (.ref (vv_ad x 0)), some (.int u1), some (.int u2), some (.int u3), some (.int u4), some (.int m5), some (.int m6), some (.int zs), some (.int m8)] [] h) (Q := (fun (e19 : (Int32)) => vv_V x vv_TR mm_X12_sized post 131 [some (.ref (vv_ad x 0)), some (.int u1), some (.int u2), some (.int u3), some (.int u4), some (.int m5), some (.int m6), some (.int e19), some (.int m8)] [] h)) (fun zs o hm hI hX => ?_) vv_F m7 r18 k22 ?_
  · exact vt_X12_sized_B106   hm (fun z7 e => hI z7 e) (fun z7 e => hX z7 e)
  · generalize r18 = e19 at hm ⊢
    try dsimp only [Sum.elim_inl, Sum.elim_inr] at hm
    try dsimp only [Sum.elim_inl, Sum.elim_inr]
    obtain ⟨w20, c21, hm⟩ := vv_let_of hm
    refine rr_iinc (q := 134) [some (.ref (vv_ad x 0)), some (.int u1), some (.int u2), some (.int u3), some (.int u4), some (.int m5), some (.int m6), some (.int e19), some (.int w20)] dX12_sized_131 rfl rfl c21.symm (Nat.le_of_ble_eq_true rfl) rfl rfl ?_
    refine rr_goto (tgt := 72) dX12_sized_134 (by decide) ?_
    obtain rfl := Option.some.inj hm
    exact hI m5 m6 e19 w20 rfl
set_option maxHeartbeats 200000 in
theorem vt_X12_sized_B72 {x : vv_E} {post : Option Value → vv_H → Prop} {u1 : Int32} {u2 : Int32} {u3 : Int32} {u4 : Int32} {h : vv_H} {s5 : Int32} {s6 : Int32} {s7 : Int32} {s8 : Int32} {o : (Int32 × Int32 × Int32 × Int32) ⊕ ((Int32 × Int32 × Int32))}  (hm : ff_X12_sized_B72  u1 u2 u3 u4 h s5 s6 s7 s8 = some o) (hI : ∀ (z5 : Int32) (z6 : Int32) (z7 : Int32) (z8 : Int32) , o = .inl (z5, z6, z7, z8) → vv_V x vv_TR mm_X12_sized post 72 [some (.ref (vv_ad x 0)), some (.int u1), some (.int u2), some (.int u3), some (.int u4), some (.int z5), some (.int z6), some (.int z7), some (.int z8)] [] h) (hX0 : ∀ (z5 : Int32) (z6 : Int32) (z7 : Int32), o = .inr (z5, z6, z7) → vv_V x vv_TR mm_X12_sized post 137 [none, none, none, none, some (.int u4), some (.int z5), some (.int z6), some (.int z7), none] [] h) : vv_V x vv_TR mm_X12_sized post 72 [some (.ref (vv_ad x 0)), some (.int u1), some (.int u2), some (.int u3), some (.int u4), some (.int s5), some (.int s6), some (.int s7), some (.int s8)] [] h := by
  unfold ff_X12_sized_B72 at hm
  refine rr_iload (q := 74) dX12_sized_72 rfl rfl ?_
  refine rr_if_lt (q := 77) (tgt := 137) dX12_sized_74 (by decide) rfl hm (fun hm => ?_) (fun hm => ?_)
  · obtain rfl := Option.some.inj hm
    refine rr_sub [false, false, false, false, true, true, true, true, false] rfl ?_
    exact hX0 s5 s6 s7 rfl
  · refine rr_aload_n (q := 78) dX12_sized_77 rfl rfl ?_
    refine gf_X12_37 (q := 81) rfl dX12_sized_78 rfl ?_
    refine rr_iload (q := 83) dX12_sized_81 rfl rfl ?_
    obtain ⟨c9, hm⟩ := vv_ck_of hm
    refine rr_iald (q := 84) ylR_10 ynR_10 c9 dX12_sized_83 rfl ?_
    refine rr_iload_n (q := 85) dX12_sized_84 rfl rfl ?_
    refine rr_icmp_ne (q := 88) (tgt := 131) dX12_sized_85 (by decide) rfl hm (fun hm => ?_) (fun hm => ?_)
    · obtain ⟨w10, c11, hm⟩ := vv_let_of hm
      refine rr_iinc (q := 134) [some (.ref (vv_ad x 0)), some (.int u1), some (.int u2), some (.int u3), some (.int u4), some (.int s5), some (.int s6), some (.int s7), some (.int w10)] dX12_sized_131 rfl rfl c11.symm (Nat.le_of_ble_eq_true rfl) rfl rfl ?_
      refine rr_goto (tgt := 72) dX12_sized_134 (by decide) ?_
      obtain rfl := Option.some.inj hm
      exact hI s5 s6 s7 w10 rfl
    · refine rr_aload_n (q := 89) dX12_sized_88 rfl rfl ?_
      refine rr_iload (q := 91) dX12_sized_89 rfl rfl ?_
      refine rr_iload_n (q := 92) dX12_sized_91 rfl rfl ?_
      refine rr_iload_n (q := 93) dX12_sized_92 rfl rfl ?_
      obtain ⟨r12, k13, hm⟩ := vv_bind hm
      refine rr_callV (q := 96) (M' := mm_X12_doesFit) (As := [.int s8, .int u1, .int u3]) (st := []) (w := some (.int r12)) (cc_X12_doesFit  k13) rfl ylR_0 ynR_0 rfl vy_X12_doesFit zw_552 ⟨Nat.le_of_ble_eq_true rfl, Nat.le_of_ble_eq_true rfl⟩ (Nat.le_of_ble_eq_true rfl) dX12_sized_93 rfl ?_
      show vv_V x vv_TR mm_X12_sized post 96 [some (.ref (vv_ad x 0)), some (.int u1), some (.int u2), some (.int u3), some (.int u4), some (.int s5), some (.int s6), some (.int s7), some (.int s8)] [.int r12] h
      refine rr_if_eq (q := 99) (tgt := 106) dX12_sized_96 (by decide) rfl hm (fun hm => ?_) (fun hm => ?_)
      · exact vt_X12_sized_J106  hm hI hX0
      · obtain ⟨w23, c24, hm⟩ := vv_let_of hm
        refine rr_iinc (q := 102) [some (.ref (vv_ad x 0)), some (.int u1), some (.int u2), some (.int u3), some (.int u4), some (.int w23), some (.int s6), some (.int s7), some (.int s8)] dX12_sized_99 rfl rfl c24.symm (Nat.le_of_ble_eq_true rfl) rfl rfl ?_
        refine rr_iload (q := 104) dX12_sized_102 rfl rfl ?_
        refine rr_istore (q := 106) [some (.ref (vv_ad x 0)), some (.int u1), some (.int u2), some (.int u3), some (.int u4), some (.int w23), some (.int s8), some (.int s7), some (.int s8)] dX12_sized_104 rfl (Nat.le_of_ble_eq_true rfl) rfl rfl ?_
        exact vt_X12_sized_J106  hm hI hX0
set_option maxHeartbeats 200000 in
theorem vt_X12_sized_J53 {x : vv_E} {post : Option Value → vv_H → Prop}   {u1 : Int32} {u2 : Int32} {u3 : Int32} {u4 : Int32} {h : vv_H} {o : Int32}  (hm : ff_X12_sized_J53  u1 u2 u3 u4 h = some o) (hp : post (some (.int o)) h) : vv_V x vv_TR mm_X12_sized post 53 [some (.ref (vv_ad x 0)), some (.int u1), some (.int u2), some (.int u3), some (.int u4), none, none, none, none] [] h := by
  unfold ff_X12_sized_J53 at hm
  refine rr_iconst (q := 54) (v := 0) dX12_sized_53 rfl (by decide) ?_
  refine rr_istore (q := 56) [some (.ref (vv_ad x 0)), some (.int u1), some (.int u2), some (.int u3), some (.int u4), some (.int (0 : Int32)), none, none, none] dX12_sized_54 rfl (Nat.le_of_ble_eq_true rfl) rfl rfl ?_
  refine rr_bipush (q := 58) (v := -4) dX12_sized_56 rfl (by decide) ?_
  refine rr_istore (q := 60) [some (.ref (vv_ad x 0)), some (.int u1), some (.int u2), some (.int u3), some (.int u4), some (.int (0 : Int32)), some (.int (-4 : Int32)), none, none] dX12_sized_58 rfl (Nat.le_of_ble_eq_true rfl) rfl rfl ?_
  refine rr_bipush (q := 62) (v := 51) dX12_sized_60 rfl (by decide) ?_
  refine rr_istore (q := 64) [some (.ref (vv_ad x 0)), some (.int u1), some (.int u2), some (.int u3), some (.int u4), some (.int (0 : Int32)), some (.int (-4 : Int32)), some (.int (51 : Int32)), none] dX12_sized_62 rfl (Nat.le_of_ble_eq_true rfl) rfl rfl ?_
  refine rr_aload_n (q := 65) dX12_sized_64 rfl rfl ?_
  refine gf_X12_235 (q := 68) rfl dX12_sized_65 rfl ?_
  refine rr_iconst (q := 69) (v := 1) dX12_sized_68 rfl (by decide) ?_
  refine rr_isub (q := 70) dX12_sized_69 rfl ?_
  obtain ⟨w7, c8, hm⟩ := vv_let_of hm
  rw [← c8]
  refine rr_istore (q := 72) [some (.ref (vv_ad x 0)), some (.int u1), some (.int u2), some (.int u3), some (.int u4), some (.int (0 : Int32)), some (.int (-4 : Int32)), some (.int (51 : Int32)), some (.int w7)] dX12_sized_70 rfl (Nat.le_of_ble_eq_true rfl) rfl rfl ?_
  obtain ⟨r25, k27, hm⟩ := vv_bind hm
  refine vv_lp_link (P := fun (zs : Int32 × Int32 × Int32 × Int32) => vv_V x vv_TR mm_X12_sized post 72 [some (.ref (vv_ad x 0)), some (.int u1), some (.int u2), some (.int u3), some (.int u4), some (.int zs.1), some (.int zs.2.1), some (.int zs.2.2.1), some (.int zs.2.2.2)] [] h) (Q := (fun (e26 : (Int32 × Int32 × Int32)) => vv_V x vv_TR mm_X12_sized post 137 [none, none, none, none, some (.int u4), some (.int e26.1), some (.int e26.2.1), some (.int e26.2.2), none] [] h)) (fun zs o hm hI hX => ?_) vv_F ((0 : Int32), (-4 : Int32), (51 : Int32), w7) r25 k27 ?_
  · exact vt_X12_sized_B72   hm (fun z5 z6 z7 z8 e => hI (z5, z6, z7, z8) e) (fun z5 z6 z7 e => hX (z5, z6, z7) e)
  · generalize r25 = e26 at hm ⊢
    try dsimp only [Sum.elim_inl, Sum.elim_inr] at hm
    try dsimp only [Sum.elim_inl, Sum.elim_inr]
    refine rr_iload (q := 139) dX12_sized_137 rfl rfl ?_
    refine rr_if_ne (q := 142) (tgt := 147) dX12_sized_139 (by decide) rfl hm (fun hm => ?_) (fun hm => ?_)
    · refine rr_iload (q := 149) dX12_sized_147 rfl rfl ?_
      refine rr_iconst (q := 150) (v := 1) dX12_sized_149 rfl (by decide) ?_
      refine rr_icmp_ne (q := 153) (tgt := 158) dX12_sized_150 (by decide) rfl hm (fun hm => ?_) (fun hm => ?_)
      · refine rr_iload (q := 160) dX12_sized_158 rfl rfl ?_
        refine rr_bipush (q := 162) (v := 50) dX12_sized_160 rfl (by decide) ?_
        refine rr_icmp_le (q := 165) (tgt := 170) dX12_sized_162 (by decide) rfl hm (fun hm => ?_) (fun hm => ?_)
        · refine rr_iload (q := 172) dX12_sized_170 rfl rfl ?_
          obtain rfl := Option.some.inj hm
          exact rr_iret dX12_sized_172 rfl hp
        · refine rr_bipush (q := 167) (v := -4) dX12_sized_165 rfl (by decide) ?_
          refine rr_goto (tgt := 172) dX12_sized_167 (by decide) ?_
          obtain rfl := Option.some.inj hm
          exact rr_iret dX12_sized_172 rfl hp
      · refine rr_iload (q := 155) dX12_sized_153 rfl rfl ?_
        refine rr_goto (tgt := 172) dX12_sized_155 (by decide) ?_
        obtain rfl := Option.some.inj hm
        exact rr_iret dX12_sized_172 rfl hp
    · refine rr_iload (q := 144) dX12_sized_142 rfl rfl ?_
      refine rr_goto (tgt := 172) dX12_sized_144 (by decide) ?_
      obtain rfl := Option.some.inj hm
      exact rr_iret dX12_sized_172 rfl hp
set_option maxHeartbeats 200000 in
theorem vt_X12_sized {x : vv_E} {post : Option Value → vv_H → Prop} {h : vv_H} {v1 : Int32} {v2 : Int32} {v3 : Int32} {v4 : Int32} {o : Int32}  (hm : ff_X12_sized  h v1 v2 v3 v4 = some o) (hp : post (some (.int o)) h) : vv_V x vv_TR mm_X12_sized post 0 [some (.ref (vv_ad x 0)), some (.int v1), some (.int v2), some (.int v3), some (.int v4), none, none, none, none] [] h := by
  unfold ff_X12_sized at hm
  refine rr_aload_n (q := 1) dX12_sized_0 rfl rfl ?_
  refine rr_iload_n (q := 2) dX12_sized_1 rfl rfl ?_
  obtain ⟨r1, k2, hm⟩ := vv_bind hm
  refine rr_callV (q := 5) (M' := mm_X12_isBody) (As := [.int v1]) (st := []) (w := some (.int r1)) (cc_X12_isBody  k2) rfl ylR_0 ynR_0 rfl vy_X12_isBody zw_542 ⟨Nat.le_of_ble_eq_true rfl, Nat.le_of_ble_eq_true rfl⟩ (Nat.le_of_ble_eq_true rfl) dX12_sized_2 rfl ?_
  show vv_V x vv_TR mm_X12_sized post 5 [some (.ref (vv_ad x 0)), some (.int v1), some (.int v2), some (.int v3), some (.int v4), none, none, none, none] [.int r1] h
  refine rr_if_eq (q := 8) (tgt := 51) dX12_sized_5 (by decide) rfl hm (fun hm => ?_) (fun hm => ?_)
  · refine rr_iconst (q := 52) (v := -1) dX12_sized_51 rfl (by decide) ?_
    obtain rfl := Option.some.inj hm
    exact rr_iret dX12_sized_52 rfl hp
  · refine rr_iload_n (q := 9) dX12_sized_8 rfl rfl ?_
    refine rr_i2l (q := 10) dX12_sized_9 rfl ?_
    refine rr_lconst (q := 11) (v := 0) dX12_sized_10 rfl (by decide) ?_
    refine rr_ldc2 (q := 14) dX12_sized_11 rfl zw_270 ?_
    obtain ⟨r3, k4, hm⟩ := vv_bind hm
    refine rr_callS (q := 17) (M' := mm_X12_in) (As := [.long v2.toInt64, .long (0 : Int64), .long (3 : Int64)]) (st := []) (w := some (.int r3))  (cc_X12_in  k4) rfl vy_X12_in zw_267 ⟨Nat.le_of_ble_eq_true rfl, Nat.le_of_ble_eq_true rfl⟩ (Nat.le_of_ble_eq_true rfl) dX12_sized_14 rfl ?_
    show vv_V x vv_TR mm_X12_sized post 17 [some (.ref (vv_ad x 0)), some (.int v1), some (.int v2), some (.int v3), some (.int v4), none, none, none, none] [.int r3] h
    refine rr_if_eq (q := 20) (tgt := 51) dX12_sized_17 (by decide) rfl hm (fun hm => ?_) (fun hm => ?_)
    · refine rr_iconst (q := 52) (v := -1) dX12_sized_51 rfl (by decide) ?_
      obtain rfl := Option.some.inj hm
      exact rr_iret dX12_sized_52 rfl hp
    · refine rr_iload (q := 22) dX12_sized_20 rfl rfl ?_
      refine rr_i2l (q := 23) dX12_sized_22 rfl ?_
      refine rr_lconst (q := 24) (v := 0) dX12_sized_23 rfl (by decide) ?_
      refine rr_ldc2 (q := 27) dX12_sized_24 rfl zw_271 ?_
      obtain ⟨r5, k6, hm⟩ := vv_bind hm
      refine rr_callS (q := 30) (M' := mm_X12_in) (As := [.long v4.toInt64, .long (0 : Int64), .long (2 : Int64)]) (st := []) (w := some (.int r5))  (cc_X12_in  k6) rfl vy_X12_in zw_267 ⟨Nat.le_of_ble_eq_true rfl, Nat.le_of_ble_eq_true rfl⟩ (Nat.le_of_ble_eq_true rfl) dX12_sized_27 rfl ?_
      show vv_V x vv_TR mm_X12_sized post 30 [some (.ref (vv_ad x 0)), some (.int v1), some (.int v2), some (.int v3), some (.int v4), none, none, none, none] [.int r5] h
      refine rr_if_eq (q := 33) (tgt := 51) dX12_sized_30 (by decide) rfl hm (fun hm => ?_) (fun hm => ?_)
      · refine rr_iconst (q := 52) (v := -1) dX12_sized_51 rfl (by decide) ?_
        obtain rfl := Option.some.inj hm
        exact rr_iret dX12_sized_52 rfl hp
      · refine rr_iload (q := 35) dX12_sized_33 rfl rfl ?_
        refine rr_iconst (q := 36) (v := 2) dX12_sized_35 rfl (by decide) ?_
        refine rr_icmp_ge (q := 39) (tgt := 53) dX12_sized_36 (by decide) rfl hm (fun hm => ?_) (fun hm => ?_)
        · exact vt_X12_sized_J53  hm hp
        · refine rr_iload_n (q := 40) dX12_sized_39 rfl rfl ?_
          refine rr_i2l (q := 41) dX12_sized_40 rfl ?_
          refine rr_lconst (q := 42) (v := 0) dX12_sized_41 rfl (by decide) ?_
          refine rr_ldc2 (q := 45) dX12_sized_42 rfl zw_547 ?_
          obtain ⟨r28, k29, hm⟩ := vv_bind hm
          refine rr_callS (q := 48) (M' := mm_X12_in) (As := [.long v3.toInt64, .long (0 : Int64), .long (50 : Int64)]) (st := []) (w := some (.int r28))  (cc_X12_in  k29) rfl vy_X12_in zw_267 ⟨Nat.le_of_ble_eq_true rfl, Nat.le_of_ble_eq_true rfl⟩ (Nat.le_of_ble_eq_true rfl) dX12_sized_45 rfl ?_
          show vv_V x vv_TR mm_X12_sized post 48 [some (.ref (vv_ad x 0)), some (.int v1), some (.int v2), some (.int v3), some (.int v4), none, none, none, none] [.int r28] h
          refine rr_if_ne (q := 51) (tgt := 53) dX12_sized_48 (by decide) rfl hm (fun hm => ?_) (fun hm => ?_)
          · exact vt_X12_sized_J53  hm hp
          · refine rr_iconst (q := 52) (v := -1) dX12_sized_51 rfl (by decide) ?_
            obtain rfl := Option.some.inj hm
            exact rr_iret dX12_sized_52 rfl hp
theorem cc_X12_sized {x : vv_E} {h : vv_H} {v1 : Int32} {v2 : Int32} {v3 : Int32} {v4 : Int32} {o : Int32}  (hm : ff_X12_sized h v1 v2 v3 v4 = some o) : vv_C x vv_TR yX12_sized mm_X12_sized [.ref (vv_ad x 0), .int v1, .int v2, .int v3, .int v4] h (fun v g => v = some (.int o) ∧ g = h) := vv_entry (by decide +kernel) rfl (Nat.le_of_ble_eq_true rfl) rfl (vt_X12_sized  hm ⟨rfl, rfl⟩)
def ff_X12_chosen_B88 (u1 : Int32) (u2 : Int32) (u3 : Int32) (u4 : Int32) (u5 : Int32) (s6 : Int32) (h : vv_H) : Option ((Int32 × vv_H) ⊕ ((vv_H))) := (if (h.1 0 1) ≤ s6 then some (.inr h) else vv_ck u5 12 ((ff_X12_doesFit h u5 s6 (0 : Int32)).bind (fun r14 => (if r14 = 0 then vv_ck u5 12 (vv_let (vv_iu h 12 u5.toNatClampNeg ((h.1 12 u5.toNatClampNeg) ||| (0 : Int32))) (fun g17 => vv_let (s6 + 1) (fun w19 => some (.inl (w19, g17))))) else vv_ck u5 12 (vv_let (vv_iu h 12 u5.toNatClampNeg ((h.1 12 u5.toNatClampNeg) ||| ((1 : Int32) <<< (s6 &&& 31)))) (fun g22 => vv_let (s6 + 1) (fun w24 => some (.inl (w24, g22)))))))))
def ff_X12_chosen_J74  (u1 : Int32) (u2 : Int32) (u3 : Int32) (m5 : Int32) (z0 : Int32) (z1 : Int32) (hh : vv_H) : Option ((Int32 × Int32 × vv_H) ⊕ ((Int32 × vv_H))) := vv_let (z1 ||| z0) (fun w8 => vv_ck m5 12 (vv_let (vv_iu hh 12 m5.toNatClampNeg (0 : Int32)) (fun g11 => (vv_lp (fun (zs : Int32 × vv_H) => ff_X12_chosen_B88  u1 u2 u3 w8 m5 zs.1 zs.2) vv_F ((0 : Int32), g11)).bind (fun (e27 : (vv_H)) => vv_let (m5 + 1) (fun w28 => some (.inl (w8, w28, e27)))))))
def ff_X12_chosen_B44 (u1 : Int32) (u2 : Int32) (u3 : Int32) (s4 : Int32) (s5 : Int32) (h : vv_H) : Option ((Int32 × Int32 × vv_H) ⊕ ((Int32 × vv_H))) := (if (h.1 0 12) ≤ s5 then some (.inr (s4, h)) else vv_ck s5 12 ((if (h.1 10 s5.toNatClampNeg) = u1 then ff_X12_chosen_J74  u1 u2 u3 s5 ((1 : Int32) <<< (s5 &&& 31)) s4 h else ff_X12_chosen_J74  u1 u2 u3 s5 (0 : Int32) s4 h)))
def ff_X12_chosen_B161 (u2 : Int32) (u3 : Int32) (u4 : Int32) (h : vv_H) (s5 : Int32) (s6 : Int32) (s7 : Int32) : Option ((Int32 × Int32 × Int32) ⊕ ((Int32 × Int32))) := (if ((1 : Int32) <<< ((h.1 0 12) &&& 31)) ≤ s7 then some (.inr (s5, s6)) else (if (s7 &&& (u4 ^^^ (-1 : Int32))) = 0 then (ff_X12_sizeOf s7).bind (fun r37 => (if u2 < r37 then vv_let (s7 + 1) (fun w39 => some (.inl (s5, s6, w39))) else (ff_X12_fittedBy h s7).bind (fun r41 => (ff_X12_sizeOf r41).bind (fun r43 => (if s6 < r43 then vv_let (s7 + 1) (fun w45 => some (.inl (s7, r43, w45))) else (if r43 = s6 then (ff_X12_sizeOf s7).bind (fun r49 => (ff_X12_sizeOf s5).bind (fun r51 => (if r51 ≤ r49 then vv_let (s7 + 1) (fun w53 => some (.inl (s5, s6, w53))) else vv_let (s7 + 1) (fun w55 => some (.inl (s7, r43, w55)))))) else vv_let (s7 + 1) (fun w47 => some (.inl (s5, s6, w47))))))))) else vv_let (s7 + 1) (fun w35 => some (.inl (s5, s6, w35)))))
def ff_X12_chosen (h : vv_H) (v1 : Int32) (v2 : Int32) (v3 : Int32) : Option (Int32 × vv_H) := (ff_X12_in v1.toInt64 (0 : Int64) (3 : Int64)).bind (fun r1 => (if r1 = 0 then some ((-1 : Int32), h) else (ff_X12_in v2.toInt64 (0 : Int64) (10 : Int64)).bind (fun r3 => (if r3 = 0 then some ((-1 : Int32), h) else (ff_X12_in v3.toInt64 (0 : Int64) (2 : Int64)).bind (fun r5 => (if r5 = 0 then some ((-1 : Int32), h) else (vv_lp (fun (zs : Int32 × Int32 × vv_H) => ff_X12_chosen_B44  v1 v2 v3 zs.1 zs.2.1 zs.2.2) vv_F ((0 : Int32), (0 : Int32), h)).bind (fun (e32 : (Int32 × vv_H)) => (ff_X12_sizeOf e32.1).bind (fun r33 => (if r33 ≤ (10 : Int32) then (vv_lp (fun (zs : Int32 × Int32 × Int32) => ff_X12_chosen_B161  v2 v3 e32.1 e32.2 zs.1 zs.2.1 zs.2.2) vv_F ((0 : Int32), (0 : Int32), (1 : Int32))).bind (fun (e58 : (Int32 × Int32)) => (if v3 = 0 then some (e58.2, e32.2) else (if v3 = (1 : Int32) then some (e58.1, e32.2) else (ff_X12_fittedBy e32.2 e58.1).bind (fun r59 => some (((((1 : Int32) <<< ((e32.2.1 0 1) &&& 31)) - (1 : Int32)) &&& (r59 ^^^ (-1 : Int32))), e32.2))))) else some ((-2 : Int32), e32.2))))))))))
set_option maxHeartbeats 200000 in
theorem vt_X12_chosen_B88 {x : vv_E} {post : Option Value → vv_H → Prop} {u1 : Int32} {u2 : Int32} {u3 : Int32} {u4 : Int32} {u5 : Int32} {s6 : Int32} {h : vv_H} {o : (Int32 × vv_H) ⊕ ((vv_H))}  (hm : ff_X12_chosen_B88  u1 u2 u3 u4 u5 s6 h = some o) (hI : ∀ (z6 : Int32) (zh : vv_H), o = .inl (z6, zh) → vv_V x vv_TR mm_X12_chosen post 88 [some (.ref (vv_ad x 0)), some (.int u1), some (.int u2), some (.int u3), some (.int u4), some (.int u5), some (.int z6), none, none] [] zh) (hX0 : ∀  (zh : vv_H), o = .inr zh → vv_V x vv_TR mm_X12_chosen post 133 [some (.ref (vv_ad x 0)), some (.int u1), some (.int u2), some (.int u3), some (.int u4), some (.int u5), none, none, none] [] zh) : vv_V x vv_TR mm_X12_chosen post 88 [some (.ref (vv_ad x 0)), some (.int u1), some (.int u2), some (.int u3), some (.int u4), some (.int u5), some (.int s6), none, none] [] h := by
  unfold ff_X12_chosen_B88 at hm
  refine rr_iload (q := 90) dX12_chosen_88 rfl rfl ?_
  refine rr_aload_n (q := 91) dX12_chosen_90 rfl rfl ?_
  refine gf_X12_177 (q := 94) rfl dX12_chosen_91 rfl ?_
  refine rr_icmp_ge (q := 97) (tgt := 133) dX12_chosen_94 (by decide) rfl hm (fun hm => ?_) (fun hm => ?_)
  · obtain rfl := Option.some.inj hm
    refine rr_sub [true, true, true, true, true, true, false, false, false] rfl ?_
    exact hX0 h rfl
  · refine rr_aload_n (q := 98) dX12_chosen_97 rfl rfl ?_
    refine gf_X12_43 (q := 101) rfl dX12_chosen_98 rfl ?_
    refine rr_iload (q := 103) dX12_chosen_101 rfl rfl ?_
    refine rr_dup2 (q := 104) dX12_chosen_103 rfl rfl rfl ?_
    obtain ⟨c13, hm⟩ := vv_ck_of hm
    refine rr_iald (q := 105) ylR_12 ynR_12 c13 dX12_chosen_104 rfl ?_
    refine rr_aload_n (q := 106) dX12_chosen_105 rfl rfl ?_
    refine rr_iload (q := 108) dX12_chosen_106 rfl rfl ?_
    refine rr_iload (q := 110) dX12_chosen_108 rfl rfl ?_
    refine rr_iconst (q := 111) (v := 0) dX12_chosen_110 rfl (by decide) ?_
    obtain ⟨r14, k15, hm⟩ := vv_bind hm
    refine rr_callV (q := 114) (M' := mm_X12_doesFit) (As := [.int u5, .int s6, .int (0 : Int32)]) (st := [.int (h.1 12 u5.toNatClampNeg), .int u5, .ref (vv_ad x 12)]) (w := some (.int r14)) (cc_X12_doesFit  k15) rfl ylR_0 ynR_0 rfl vy_X12_doesFit zw_552 ⟨Nat.le_of_ble_eq_true rfl, Nat.le_of_ble_eq_true rfl⟩ (Nat.le_of_ble_eq_true rfl) dX12_chosen_111 rfl ?_
    show vv_V x vv_TR mm_X12_chosen post 114 [some (.ref (vv_ad x 0)), some (.int u1), some (.int u2), some (.int u3), some (.int u4), some (.int u5), some (.int s6), none, none] [.int r14, .int (h.1 12 u5.toNatClampNeg), .int u5, .ref (vv_ad x 12)] h
    refine rr_if_eq (q := 117) (tgt := 124) dX12_chosen_114 (by decide) rfl hm (fun hm => ?_) (fun hm => ?_)
    · refine rr_iconst (q := 125) (v := 0) dX12_chosen_124 rfl (by decide) ?_
      refine rr_ior (q := 126) dX12_chosen_125 rfl ?_
      obtain ⟨c16, hm⟩ := vv_ck_of hm
      obtain ⟨g17, c18, hm⟩ := vv_let_of hm
      refine rr_iast (q := 127) ylR_12 ynR_12 c16 dX12_chosen_126 rfl ?_
      rw [← c18]
      obtain ⟨w19, c20, hm⟩ := vv_let_of hm
      refine rr_iinc (q := 130) [some (.ref (vv_ad x 0)), some (.int u1), some (.int u2), some (.int u3), some (.int u4), some (.int u5), some (.int w19), none, none] dX12_chosen_127 rfl rfl c20.symm (Nat.le_of_ble_eq_true rfl) rfl rfl ?_
      refine rr_goto (tgt := 88) dX12_chosen_130 (by decide) ?_
      obtain rfl := Option.some.inj hm
      exact hI w19 g17 rfl
    · refine rr_iconst (q := 118) (v := 1) dX12_chosen_117 rfl (by decide) ?_
      refine rr_iload (q := 120) dX12_chosen_118 rfl rfl ?_
      refine rr_ishl (q := 121) dX12_chosen_120 rfl ?_
      refine rr_goto (tgt := 125) dX12_chosen_121 (by decide) ?_
      refine rr_ior (q := 126) dX12_chosen_125 rfl ?_
      obtain ⟨c21, hm⟩ := vv_ck_of hm
      obtain ⟨g22, c23, hm⟩ := vv_let_of hm
      refine rr_iast (q := 127) ylR_12 ynR_12 c21 dX12_chosen_126 rfl ?_
      rw [← c23]
      obtain ⟨w24, c25, hm⟩ := vv_let_of hm
      refine rr_iinc (q := 130) [some (.ref (vv_ad x 0)), some (.int u1), some (.int u2), some (.int u3), some (.int u4), some (.int u5), some (.int w24), none, none] dX12_chosen_127 rfl rfl c25.symm (Nat.le_of_ble_eq_true rfl) rfl rfl ?_
      refine rr_goto (tgt := 88) dX12_chosen_130 (by decide) ?_
      obtain rfl := Option.some.inj hm
      exact hI w24 g22 rfl
set_option maxHeartbeats 200000 in
theorem vt_X12_chosen_J74 {x : vv_E} {post : Option Value → vv_H → Prop}   {u1 : Int32} {u2 : Int32} {u3 : Int32} {m5 : Int32} {z0 : Int32} {z1 : Int32} {hh : vv_H} {o : (Int32 × Int32 × vv_H) ⊕ ((Int32 × vv_H))}  (hm : ff_X12_chosen_J74  u1 u2 u3 m5 z0 z1 hh = some o) (hI : ∀ (z4 : Int32) (z5 : Int32) (zh : vv_H), o = .inl (z4, z5, zh) → vv_V x vv_TR mm_X12_chosen post 44 [some (.ref (vv_ad x 0)), some (.int u1), some (.int u2), some (.int u3), some (.int z4), some (.int z5), none, none, none] [] zh) (hX0 : ∀ (z4 : Int32) (zh : vv_H), o = .inr (z4, zh) → vv_V x vv_TR mm_X12_chosen post 139 [some (.ref (vv_ad x 0)), none, some (.int u2), some (.int u3), some (.int z4), none, none, none, none] [] zh) : vv_V x vv_TR mm_X12_chosen post 74 [some (.ref (vv_ad x 0)), some (.int u1), some (.int u2), some (.int u3), none, some (.int m5), none, none, none] [.int z0, .int z1] hh := by
  unfold ff_X12_chosen_J74 at hm
  refine rr_ior (q := 75) dX12_chosen_74 rfl ?_
  obtain ⟨w8, c9, hm⟩ := vv_let_of hm
  rw [← c9]
  refine rr_istore (q := 77) [some (.ref (vv_ad x 0)), some (.int u1), some (.int u2), some (.int u3), some (.int w8), some (.int m5), none, none, none] dX12_chosen_75 rfl (Nat.le_of_ble_eq_true rfl) rfl rfl ?_
  refine rr_aload_n (q := 78) dX12_chosen_77 rfl rfl ?_
  refine gf_X12_43 (q := 81) rfl dX12_chosen_78 rfl ?_
  refine rr_iload (q := 83) dX12_chosen_81 rfl rfl ?_
  refine rr_iconst (q := 84) (v := 0) dX12_chosen_83 rfl (by decide) ?_
  obtain ⟨c10, hm⟩ := vv_ck_of hm
  obtain ⟨g11, c12, hm⟩ := vv_let_of hm
  refine rr_iast (q := 85) ylR_12 ynR_12 c10 dX12_chosen_84 rfl ?_
  rw [← c12]
  refine rr_iconst (q := 86) (v := 0) dX12_chosen_85 rfl (by decide) ?_
  refine rr_istore (q := 88) [some (.ref (vv_ad x 0)), some (.int u1), some (.int u2), some (.int u3), some (.int w8), some (.int m5), some (.int (0 : Int32)), none, none] dX12_chosen_86 rfl (Nat.le_of_ble_eq_true rfl) rfl rfl ?_
  obtain ⟨r26, k30, hm⟩ := vv_bind hm
  refine vv_lp_link (P := fun (zs : Int32 × vv_H) => vv_V x vv_TR mm_X12_chosen post 88 [some (.ref (vv_ad x 0)), some (.int u1), some (.int u2), some (.int u3), some (.int w8), some (.int m5), some (.int zs.1), none, none] [] zs.2) (Q := (fun (e27 : (vv_H)) => vv_V x vv_TR mm_X12_chosen post 133 [some (.ref (vv_ad x 0)), some (.int u1), some (.int u2), some (.int u3), some (.int w8), some (.int m5), none, none, none] [] e27)) (fun zs o hm hI hX => ?_) vv_F ((0 : Int32), g11) r26 k30 ?_
  · exact vt_X12_chosen_B88   hm (fun z6 zh e => hI (z6, zh) e) (fun zh e => hX zh e)
  · generalize r26 = e27 at hm ⊢
    try dsimp only [Sum.elim_inl, Sum.elim_inr] at hm
    try dsimp only [Sum.elim_inl, Sum.elim_inr]
    obtain ⟨w28, c29, hm⟩ := vv_let_of hm
    refine rr_iinc (q := 136) [some (.ref (vv_ad x 0)), some (.int u1), some (.int u2), some (.int u3), some (.int w8), some (.int w28), none, none, none] dX12_chosen_133 rfl rfl c29.symm (Nat.le_of_ble_eq_true rfl) rfl rfl ?_
    refine rr_goto (tgt := 44) dX12_chosen_136 (by decide) ?_
    obtain rfl := Option.some.inj hm
    exact hI w8 w28 e27 rfl
set_option maxHeartbeats 200000 in
theorem vt_X12_chosen_B44 {x : vv_E} {post : Option Value → vv_H → Prop} {u1 : Int32} {u2 : Int32} {u3 : Int32} {s4 : Int32} {s5 : Int32} {h : vv_H} {o : (Int32 × Int32 × vv_H) ⊕ ((Int32 × vv_H))}  (hm : ff_X12_chosen_B44  u1 u2 u3 s4 s5 h = some o) (hI : ∀ (z4 : Int32) (z5 : Int32) (zh : vv_H), o = .inl (z4, z5, zh) → vv_V x vv_TR mm_X12_chosen post 44 [some (.ref (vv_ad x 0)), some (.int u1), some (.int u2), some (.int u3), some (.int z4), some (.int z5), none, none, none] [] zh) (hX0 : ∀ (z4 : Int32) (zh : vv_H), o = .inr (z4, zh) → vv_V x vv_TR mm_X12_chosen post 139 [some (.ref (vv_ad x 0)), none, some (.int u2), some (.int u3), some (.int z4), none, none, none, none] [] zh) : vv_V x vv_TR mm_X12_chosen post 44 [some (.ref (vv_ad x 0)), some (.int u1), some (.int u2), some (.int u3), some (.int s4), some (.int s5), none, none, none] [] h := by
  unfold ff_X12_chosen_B44 at hm
  refine rr_iload (q := 46) dX12_chosen_44 rfl rfl ?_
  refine rr_aload_n (q := 47) dX12_chosen_46 rfl rfl ?_
  refine gf_X12_235 (q := 50) rfl dX12_chosen_47 rfl ?_
  refine rr_icmp_ge (q := 53) (tgt := 139) dX12_chosen_50 (by decide) rfl hm (fun hm => ?_) (fun hm => ?_)
  · obtain rfl := Option.some.inj hm
    refine rr_sub [true, false, true, true, true, false, false, false, false] rfl ?_
    exact hX0 s4 h rfl
  · refine rr_iload (q := 55) dX12_chosen_53 rfl rfl ?_
    refine rr_aload_n (q := 56) dX12_chosen_55 rfl rfl ?_
    refine gf_X12_37 (q := 59) rfl dX12_chosen_56 rfl ?_
    refine rr_iload (q := 61) dX12_chosen_59 rfl rfl ?_
    obtain ⟨c7, hm⟩ := vv_ck_of hm
    refine rr_iald (q := 62) ylR_10 ynR_10 c7 dX12_chosen_61 rfl ?_
    refine rr_iload_n (q := 63) dX12_chosen_62 rfl rfl ?_
    refine rr_icmp_ne (q := 66) (tgt := 73) dX12_chosen_63 (by decide) rfl hm (fun hm => ?_) (fun hm => ?_)
    · refine rr_iconst (q := 74) (v := 0) dX12_chosen_73 rfl (by decide) ?_
      refine rr_sub [true, true, true, true, false, true, false, false, false] rfl ?_
      exact vt_X12_chosen_J74  hm hI hX0
    · refine rr_iconst (q := 67) (v := 1) dX12_chosen_66 rfl (by decide) ?_
      refine rr_iload (q := 69) dX12_chosen_67 rfl rfl ?_
      refine rr_ishl (q := 70) dX12_chosen_69 rfl ?_
      refine rr_goto (tgt := 74) dX12_chosen_70 (by decide) ?_
      refine rr_sub [true, true, true, true, false, true, false, false, false] rfl ?_
      exact vt_X12_chosen_J74  hm hI hX0
set_option maxHeartbeats 200000 in
theorem vt_X12_chosen_B161 {x : vv_E} {post : Option Value → vv_H → Prop} {u2 : Int32} {u3 : Int32} {u4 : Int32} {h : vv_H} {s5 : Int32} {s6 : Int32} {s7 : Int32} {o : (Int32 × Int32 × Int32) ⊕ ((Int32 × Int32))}  (hm : ff_X12_chosen_B161  u2 u3 u4 h s5 s6 s7 = some o) (hI : ∀ (z5 : Int32) (z6 : Int32) (z7 : Int32) , o = .inl (z5, z6, z7) → vv_V x vv_TR mm_X12_chosen post 161 [some (.ref (vv_ad x 0)), none, some (.int u2), some (.int u3), some (.int u4), some (.int z5), some (.int z6), some (.int z7), none] [] h) (hX0 : ∀ (z5 : Int32) (z6 : Int32), o = .inr (z5, z6) → vv_V x vv_TR mm_X12_chosen post 243 [some (.ref (vv_ad x 0)), none, none, some (.int u3), none, some (.int z5), some (.int z6), none, none] [] h) : vv_V x vv_TR mm_X12_chosen post 161 [some (.ref (vv_ad x 0)), none, some (.int u2), some (.int u3), some (.int u4), some (.int s5), some (.int s6), some (.int s7), none] [] h := by
  unfold ff_X12_chosen_B161 at hm
  refine rr_iload (q := 163) dX12_chosen_161 rfl rfl ?_
  refine rr_iconst (q := 164) (v := 1) dX12_chosen_163 rfl (by decide) ?_
  refine rr_aload_n (q := 165) dX12_chosen_164 rfl rfl ?_
  refine gf_X12_235 (q := 168) rfl dX12_chosen_165 rfl ?_
  refine rr_ishl (q := 169) dX12_chosen_168 rfl ?_
  refine rr_icmp_ge (q := 172) (tgt := 243) dX12_chosen_169 (by decide) rfl hm (fun hm => ?_) (fun hm => ?_)
  · obtain rfl := Option.some.inj hm
    refine rr_sub [true, false, false, true, false, true, true, false, false] rfl ?_
    exact hX0 s5 s6 rfl
  · refine rr_iload (q := 174) dX12_chosen_172 rfl rfl ?_
    refine rr_iload (q := 176) dX12_chosen_174 rfl rfl ?_
    refine rr_iconst (q := 177) (v := -1) dX12_chosen_176 rfl (by decide) ?_
    refine rr_ixor (q := 178) dX12_chosen_177 rfl ?_
    refine rr_iand (q := 179) dX12_chosen_178 rfl ?_
    refine rr_if_ne (q := 182) (tgt := 237) dX12_chosen_179 (by decide) rfl hm (fun hm => ?_) (fun hm => ?_)
    · obtain ⟨w35, c36, hm⟩ := vv_let_of hm
      refine rr_iinc (q := 240) [some (.ref (vv_ad x 0)), none, some (.int u2), some (.int u3), some (.int u4), some (.int s5), some (.int s6), some (.int w35), none] dX12_chosen_237 rfl rfl c36.symm (Nat.le_of_ble_eq_true rfl) rfl rfl ?_
      refine rr_goto (tgt := 161) dX12_chosen_240 (by decide) ?_
      obtain rfl := Option.some.inj hm
      exact hI s5 s6 w35 rfl
    · refine rr_iload (q := 184) dX12_chosen_182 rfl rfl ?_
      obtain ⟨r37, k38, hm⟩ := vv_bind hm
      refine rr_callS (q := 187) (M' := mm_X12_sizeOf) (As := [.int s7]) (st := []) (w := some (.int r37))  (cc_X12_sizeOf  k38) rfl vy_X12_sizeOf zw_557 ⟨Nat.le_of_ble_eq_true rfl, Nat.le_of_ble_eq_true rfl⟩ (Nat.le_of_ble_eq_true rfl) dX12_chosen_184 rfl ?_
      show vv_V x vv_TR mm_X12_chosen post 187 [some (.ref (vv_ad x 0)), none, some (.int u2), some (.int u3), some (.int u4), some (.int s5), some (.int s6), some (.int s7), none] [.int r37] h
      refine rr_iload_n (q := 188) dX12_chosen_187 rfl rfl ?_
      refine rr_icmp_gt (q := 191) (tgt := 237) dX12_chosen_188 (by decide) rfl hm (fun hm => ?_) (fun hm => ?_)
      · obtain ⟨w39, c40, hm⟩ := vv_let_of hm
        refine rr_iinc (q := 240) [some (.ref (vv_ad x 0)), none, some (.int u2), some (.int u3), some (.int u4), some (.int s5), some (.int s6), some (.int w39), none] dX12_chosen_237 rfl rfl c40.symm (Nat.le_of_ble_eq_true rfl) rfl rfl ?_
        refine rr_goto (tgt := 161) dX12_chosen_240 (by decide) ?_
        obtain rfl := Option.some.inj hm
        exact hI s5 s6 w39 rfl
      · refine rr_aload_n (q := 192) dX12_chosen_191 rfl rfl ?_
        refine rr_iload (q := 194) dX12_chosen_192 rfl rfl ?_
        obtain ⟨r41, k42, hm⟩ := vv_bind hm
        refine rr_callV (q := 197) (M' := mm_X12_fittedBy) (As := [.int s7]) (st := []) (w := some (.int r41)) (cc_X12_fittedBy  k42) rfl ylR_0 ynR_0 rfl vy_X12_fittedBy zw_562 ⟨Nat.le_of_ble_eq_true rfl, Nat.le_of_ble_eq_true rfl⟩ (Nat.le_of_ble_eq_true rfl) dX12_chosen_194 rfl ?_
        show vv_V x vv_TR mm_X12_chosen post 197 [some (.ref (vv_ad x 0)), none, some (.int u2), some (.int u3), some (.int u4), some (.int s5), some (.int s6), some (.int s7), none] [.int r41] h
        obtain ⟨r43, k44, hm⟩ := vv_bind hm
        refine rr_callS (q := 200) (M' := mm_X12_sizeOf) (As := [.int r41]) (st := []) (w := some (.int r43))  (cc_X12_sizeOf  k44) rfl vy_X12_sizeOf zw_557 ⟨Nat.le_of_ble_eq_true rfl, Nat.le_of_ble_eq_true rfl⟩ (Nat.le_of_ble_eq_true rfl) dX12_chosen_197 rfl ?_
        show vv_V x vv_TR mm_X12_chosen post 200 [some (.ref (vv_ad x 0)), none, some (.int u2), some (.int u3), some (.int u4), some (.int s5), some (.int s6), some (.int s7), none] [.int r43] h
        refine rr_istore (q := 202) [some (.ref (vv_ad x 0)), none, some (.int u2), some (.int u3), some (.int u4), some (.int s5), some (.int s6), some (.int s7), some (.int r43)] dX12_chosen_200 rfl (Nat.le_of_ble_eq_true rfl) rfl rfl ?_
        refine rr_iload (q := 204) dX12_chosen_202 rfl rfl ?_
        refine rr_iload (q := 206) dX12_chosen_204 rfl rfl ?_
        refine rr_icmp_gt (q := 209) (tgt := 229) dX12_chosen_206 (by decide) rfl hm (fun hm => ?_) (fun hm => ?_)
        · refine rr_iload (q := 231) dX12_chosen_229 rfl rfl ?_
          refine rr_istore (q := 233) [some (.ref (vv_ad x 0)), none, some (.int u2), some (.int u3), some (.int u4), some (.int s7), some (.int s6), some (.int s7), some (.int r43)] dX12_chosen_231 rfl (Nat.le_of_ble_eq_true rfl) rfl rfl ?_
          refine rr_iload (q := 235) dX12_chosen_233 rfl rfl ?_
          refine rr_istore (q := 237) [some (.ref (vv_ad x 0)), none, some (.int u2), some (.int u3), some (.int u4), some (.int s7), some (.int r43), some (.int s7), some (.int r43)] dX12_chosen_235 rfl (Nat.le_of_ble_eq_true rfl) rfl rfl ?_
          obtain ⟨w45, c46, hm⟩ := vv_let_of hm
          refine rr_iinc (q := 240) [some (.ref (vv_ad x 0)), none, some (.int u2), some (.int u3), some (.int u4), some (.int s7), some (.int r43), some (.int w45), some (.int r43)] dX12_chosen_237 rfl rfl c46.symm (Nat.le_of_ble_eq_true rfl) rfl rfl ?_
          refine rr_goto (tgt := 161) dX12_chosen_240 (by decide) ?_
          obtain rfl := Option.some.inj hm
          refine rr_sub [true, false, true, true, true, true, true, true, false] rfl ?_
          exact hI s7 r43 w45 rfl
        · refine rr_iload (q := 211) dX12_chosen_209 rfl rfl ?_
          refine rr_iload (q := 213) dX12_chosen_211 rfl rfl ?_
          refine rr_icmp_ne (q := 216) (tgt := 237) dX12_chosen_213 (by decide) rfl hm (fun hm => ?_) (fun hm => ?_)
          · obtain ⟨w47, c48, hm⟩ := vv_let_of hm
            refine rr_iinc (q := 240) [some (.ref (vv_ad x 0)), none, some (.int u2), some (.int u3), some (.int u4), some (.int s5), some (.int s6), some (.int w47), some (.int r43)] dX12_chosen_237 rfl rfl c48.symm (Nat.le_of_ble_eq_true rfl) rfl rfl ?_
            refine rr_goto (tgt := 161) dX12_chosen_240 (by decide) ?_
            obtain rfl := Option.some.inj hm
            refine rr_sub [true, false, true, true, true, true, true, true, false] rfl ?_
            exact hI s5 s6 w47 rfl
          · refine rr_iload (q := 218) dX12_chosen_216 rfl rfl ?_
            obtain ⟨r49, k50, hm⟩ := vv_bind hm
            refine rr_callS (q := 221) (M' := mm_X12_sizeOf) (As := [.int s7]) (st := []) (w := some (.int r49))  (cc_X12_sizeOf  k50) rfl vy_X12_sizeOf zw_557 ⟨Nat.le_of_ble_eq_true rfl, Nat.le_of_ble_eq_true rfl⟩ (Nat.le_of_ble_eq_true rfl) dX12_chosen_218 rfl ?_
            show vv_V x vv_TR mm_X12_chosen post 221 [some (.ref (vv_ad x 0)), none, some (.int u2), some (.int u3), some (.int u4), some (.int s5), some (.int s6), some (.int s7), some (.int r43)] [.int r49] h
            refine rr_iload (q := 223) dX12_chosen_221 rfl rfl ?_
            obtain ⟨r51, k52, hm⟩ := vv_bind hm
            refine rr_callS (q := 226) (M' := mm_X12_sizeOf) (As := [.int s5]) (st := [.int r49]) (w := some (.int r51))  (cc_X12_sizeOf  k52) rfl vy_X12_sizeOf zw_557 ⟨Nat.le_of_ble_eq_true rfl, Nat.le_of_ble_eq_true rfl⟩ (Nat.le_of_ble_eq_true rfl) dX12_chosen_223 rfl ?_
            show vv_V x vv_TR mm_X12_chosen post 226 [some (.ref (vv_ad x 0)), none, some (.int u2), some (.int u3), some (.int u4), some (.int s5), some (.int s6), some (.int s7), some (.int r43)] [.int r51, .int r49] h
            refine rr_icmp_ge (q := 229) (tgt := 237) dX12_chosen_226 (by decide) rfl hm (fun hm => ?_) (fun hm => ?_)
            · obtain ⟨w53, c54, hm⟩ := vv_let_of hm
              refine rr_iinc (q := 240) [some (.ref (vv_ad x 0)), none, some (.int u2), some (.int u3), some (.int u4), some (.int s5), some (.int s6), some (.int w53), some (.int r43)] dX12_chosen_237 rfl rfl c54.symm (Nat.le_of_ble_eq_true rfl) rfl rfl ?_
              refine rr_goto (tgt := 161) dX12_chosen_240 (by decide) ?_
              obtain rfl := Option.some.inj hm
              refine rr_sub [true, false, true, true, true, true, true, true, false] rfl ?_
              exact hI s5 s6 w53 rfl
            · refine rr_iload (q := 231) dX12_chosen_229 rfl rfl ?_
              refine rr_istore (q := 233) [some (.ref (vv_ad x 0)), none, some (.int u2), some (.int u3), some (.int u4), some (.int s7), some (.int s6), some (.int s7), some (.int r43)] dX12_chosen_231 rfl (Nat.le_of_ble_eq_true rfl) rfl rfl ?_
              refine rr_iload (q := 235) dX12_chosen_233 rfl rfl ?_
              refine rr_istore (q := 237) [some (.ref (vv_ad x 0)), none, some (.int u2), some (.int u3), some (.int u4), some (.int s7), some (.int r43), some (.int s7), some (.int r43)] dX12_chosen_235 rfl (Nat.le_of_ble_eq_true rfl) rfl rfl ?_
              obtain ⟨w55, c56, hm⟩ := vv_let_of hm
              refine rr_iinc (q := 240) [some (.ref (vv_ad x 0)), none, some (.int u2), some (.int u3), some (.int u4), some (.int s7), some (.int r43), some (.int w55), some (.int r43)] dX12_chosen_237 rfl rfl c56.symm (Nat.le_of_ble_eq_true rfl) rfl rfl ?_
              refine rr_goto (tgt := 161) dX12_chosen_240 (by decide) ?_
              obtain rfl := Option.some.inj hm
              refine rr_sub [true, false, true, true, true, true, true, true, false] rfl ?_
              exact hI s7 r43 w55 rfl
set_option maxHeartbeats 200000 in
theorem vt_X12_chosen {x : vv_E} {post : Option Value → vv_H → Prop} {h : vv_H} {v1 : Int32} {v2 : Int32} {v3 : Int32} {o : Int32 × vv_H}  (hm : ff_X12_chosen  h v1 v2 v3 = some o) (hp : post (some (.int o.1)) o.2) : vv_V x vv_TR mm_X12_chosen post 0 [some (.ref (vv_ad x 0)), some (.int v1), some (.int v2), some (.int v3), none, none, none, none, none] [] h := by
  unfold ff_X12_chosen at hm
  refine rr_iload_n (q := 1) dX12_chosen_0 rfl rfl ?_
  refine rr_i2l (q := 2) dX12_chosen_1 rfl ?_
  refine rr_lconst (q := 3) (v := 0) dX12_chosen_2 rfl (by decide) ?_
  refine rr_ldc2 (q := 6) dX12_chosen_3 rfl zw_270 ?_
  obtain ⟨r1, k2, hm⟩ := vv_bind hm
  refine rr_callS (q := 9) (M' := mm_X12_in) (As := [.long v1.toInt64, .long (0 : Int64), .long (3 : Int64)]) (st := []) (w := some (.int r1))  (cc_X12_in  k2) rfl vy_X12_in zw_267 ⟨Nat.le_of_ble_eq_true rfl, Nat.le_of_ble_eq_true rfl⟩ (Nat.le_of_ble_eq_true rfl) dX12_chosen_6 rfl ?_
  show vv_V x vv_TR mm_X12_chosen post 9 [some (.ref (vv_ad x 0)), some (.int v1), some (.int v2), some (.int v3), none, none, none, none, none] [.int r1] h
  refine rr_if_eq (q := 12) (tgt := 36) dX12_chosen_9 (by decide) rfl hm (fun hm => ?_) (fun hm => ?_)
  · refine rr_iconst (q := 37) (v := -1) dX12_chosen_36 rfl (by decide) ?_
    obtain rfl := Option.some.inj hm
    exact rr_iret dX12_chosen_37 rfl hp
  · refine rr_iload_n (q := 13) dX12_chosen_12 rfl rfl ?_
    refine rr_i2l (q := 14) dX12_chosen_13 rfl ?_
    refine rr_lconst (q := 15) (v := 0) dX12_chosen_14 rfl (by decide) ?_
    refine rr_ldc2 (q := 18) dX12_chosen_15 rfl zw_553 ?_
    obtain ⟨r3, k4, hm⟩ := vv_bind hm
    refine rr_callS (q := 21) (M' := mm_X12_in) (As := [.long v2.toInt64, .long (0 : Int64), .long (10 : Int64)]) (st := []) (w := some (.int r3))  (cc_X12_in  k4) rfl vy_X12_in zw_267 ⟨Nat.le_of_ble_eq_true rfl, Nat.le_of_ble_eq_true rfl⟩ (Nat.le_of_ble_eq_true rfl) dX12_chosen_18 rfl ?_
    show vv_V x vv_TR mm_X12_chosen post 21 [some (.ref (vv_ad x 0)), some (.int v1), some (.int v2), some (.int v3), none, none, none, none, none] [.int r3] h
    refine rr_if_eq (q := 24) (tgt := 36) dX12_chosen_21 (by decide) rfl hm (fun hm => ?_) (fun hm => ?_)
    · refine rr_iconst (q := 37) (v := -1) dX12_chosen_36 rfl (by decide) ?_
      obtain rfl := Option.some.inj hm
      exact rr_iret dX12_chosen_37 rfl hp
    · refine rr_iload_n (q := 25) dX12_chosen_24 rfl rfl ?_
      refine rr_i2l (q := 26) dX12_chosen_25 rfl ?_
      refine rr_lconst (q := 27) (v := 0) dX12_chosen_26 rfl (by decide) ?_
      refine rr_ldc2 (q := 30) dX12_chosen_27 rfl zw_271 ?_
      obtain ⟨r5, k6, hm⟩ := vv_bind hm
      refine rr_callS (q := 33) (M' := mm_X12_in) (As := [.long v3.toInt64, .long (0 : Int64), .long (2 : Int64)]) (st := []) (w := some (.int r5))  (cc_X12_in  k6) rfl vy_X12_in zw_267 ⟨Nat.le_of_ble_eq_true rfl, Nat.le_of_ble_eq_true rfl⟩ (Nat.le_of_ble_eq_true rfl) dX12_chosen_30 rfl ?_
      show vv_V x vv_TR mm_X12_chosen post 33 [some (.ref (vv_ad x 0)), some (.int v1), some (.int v2), some (.int v3), none, none, none, none, none] [.int r5] h
      refine rr_if_ne (q := 36) (tgt := 38) dX12_chosen_33 (by decide) rfl hm (fun hm => ?_) (fun hm => ?_)
      · refine rr_iconst (q := 39) (v := 0) dX12_chosen_38 rfl (by decide) ?_
        refine rr_istore (q := 41) [some (.ref (vv_ad x 0)), some (.int v1), some (.int v2), some (.int v3), some (.int (0 : Int32)), none, none, none, none] dX12_chosen_39 rfl (Nat.le_of_ble_eq_true rfl) rfl rfl ?_
        refine rr_iconst (q := 42) (v := 0) dX12_chosen_41 rfl (by decide) ?_
        refine rr_istore (q := 44) [some (.ref (vv_ad x 0)), some (.int v1), some (.int v2), some (.int v3), some (.int (0 : Int32)), some (.int (0 : Int32)), none, none, none] dX12_chosen_42 rfl (Nat.le_of_ble_eq_true rfl) rfl rfl ?_
        obtain ⟨r31, k62, hm⟩ := vv_bind hm
        refine vv_lp_link (P := fun (zs : Int32 × Int32 × vv_H) => vv_V x vv_TR mm_X12_chosen post 44 [some (.ref (vv_ad x 0)), some (.int v1), some (.int v2), some (.int v3), some (.int zs.1), some (.int zs.2.1), none, none, none] [] zs.2.2) (Q := (fun (e32 : (Int32 × vv_H)) => vv_V x vv_TR mm_X12_chosen post 139 [some (.ref (vv_ad x 0)), none, some (.int v2), some (.int v3), some (.int e32.1), none, none, none, none] [] e32.2)) (fun zs o hm hI hX => ?_) vv_F ((0 : Int32), (0 : Int32), h) r31 k62 ?_
        · exact vt_X12_chosen_B44   hm (fun z4 z5 zh e => hI (z4, z5, zh) e) (fun z4 zh e => hX (z4, zh) e)
        · generalize r31 = e32 at hm ⊢
          try dsimp only [Sum.elim_inl, Sum.elim_inr] at hm
          try dsimp only [Sum.elim_inl, Sum.elim_inr]
          refine rr_iload (q := 141) dX12_chosen_139 rfl rfl ?_
          obtain ⟨r33, k34, hm⟩ := vv_bind hm
          refine rr_callS (q := 144) (M' := mm_X12_sizeOf) (As := [.int e32.1]) (st := []) (w := some (.int r33))  (cc_X12_sizeOf  k34) rfl vy_X12_sizeOf zw_557 ⟨Nat.le_of_ble_eq_true rfl, Nat.le_of_ble_eq_true rfl⟩ (Nat.le_of_ble_eq_true rfl) dX12_chosen_141 rfl ?_
          show vv_V x vv_TR mm_X12_chosen post 144 [some (.ref (vv_ad x 0)), none, some (.int v2), some (.int v3), some (.int e32.1), none, none, none, none] [.int r33] e32.2
          refine rr_bipush (q := 146) (v := 10) dX12_chosen_144 rfl (by decide) ?_
          refine rr_icmp_le (q := 149) (tgt := 152) dX12_chosen_146 (by decide) rfl hm (fun hm => ?_) (fun hm => ?_)
          · refine rr_iconst (q := 153) (v := 0) dX12_chosen_152 rfl (by decide) ?_
            refine rr_istore (q := 155) [some (.ref (vv_ad x 0)), none, some (.int v2), some (.int v3), some (.int e32.1), some (.int (0 : Int32)), none, none, none] dX12_chosen_153 rfl (Nat.le_of_ble_eq_true rfl) rfl rfl ?_
            refine rr_iconst (q := 156) (v := 0) dX12_chosen_155 rfl (by decide) ?_
            refine rr_istore (q := 158) [some (.ref (vv_ad x 0)), none, some (.int v2), some (.int v3), some (.int e32.1), some (.int (0 : Int32)), some (.int (0 : Int32)), none, none] dX12_chosen_156 rfl (Nat.le_of_ble_eq_true rfl) rfl rfl ?_
            refine rr_iconst (q := 159) (v := 1) dX12_chosen_158 rfl (by decide) ?_
            refine rr_istore (q := 161) [some (.ref (vv_ad x 0)), none, some (.int v2), some (.int v3), some (.int e32.1), some (.int (0 : Int32)), some (.int (0 : Int32)), some (.int (1 : Int32)), none] dX12_chosen_159 rfl (Nat.le_of_ble_eq_true rfl) rfl rfl ?_
            obtain ⟨r57, k61, hm⟩ := vv_bind hm
            refine vv_lp_link (P := fun (zs : Int32 × Int32 × Int32) => vv_V x vv_TR mm_X12_chosen post 161 [some (.ref (vv_ad x 0)), none, some (.int v2), some (.int v3), some (.int e32.1), some (.int zs.1), some (.int zs.2.1), some (.int zs.2.2), none] [] e32.2) (Q := (fun (e58 : (Int32 × Int32)) => vv_V x vv_TR mm_X12_chosen post 243 [some (.ref (vv_ad x 0)), none, none, some (.int v3), none, some (.int e58.1), some (.int e58.2), none, none] [] e32.2)) (fun zs o hm hI hX => ?_) vv_F ((0 : Int32), (0 : Int32), (1 : Int32)) r57 k61 ?_
            · exact vt_X12_chosen_B161   hm (fun z5 z6 z7 e => hI (z5, z6, z7) e) (fun z5 z6 e => hX (z5, z6) e)
            · generalize r57 = e58 at hm ⊢
              try dsimp only [Sum.elim_inl, Sum.elim_inr] at hm
              try dsimp only [Sum.elim_inl, Sum.elim_inr]
              refine rr_iload_n (q := 244) dX12_chosen_243 rfl rfl ?_
              refine rr_if_ne (q := 247) (tgt := 252) dX12_chosen_244 (by decide) rfl hm (fun hm => ?_) (fun hm => ?_)
              · refine rr_iload_n (q := 253) dX12_chosen_252 rfl rfl ?_
                refine rr_iconst (q := 254) (v := 1) dX12_chosen_253 rfl (by decide) ?_
                refine rr_icmp_ne (q := 257) (tgt := 262) dX12_chosen_254 (by decide) rfl hm (fun hm => ?_) (fun hm => ?_)
                · refine rr_iconst (q := 263) (v := 1) dX12_chosen_262 rfl (by decide) ?_
                  refine rr_aload_n (q := 264) dX12_chosen_263 rfl rfl ?_
                  refine gf_X12_177 (q := 267) rfl dX12_chosen_264 rfl ?_
                  refine rr_ishl (q := 268) dX12_chosen_267 rfl ?_
                  refine rr_iconst (q := 269) (v := 1) dX12_chosen_268 rfl (by decide) ?_
                  refine rr_isub (q := 270) dX12_chosen_269 rfl ?_
                  refine rr_aload_n (q := 271) dX12_chosen_270 rfl rfl ?_
                  refine rr_iload (q := 273) dX12_chosen_271 rfl rfl ?_
                  obtain ⟨r59, k60, hm⟩ := vv_bind hm
                  refine rr_callV (q := 276) (M' := mm_X12_fittedBy) (As := [.int e58.1]) (st := [.int (((1 : Int32) <<< ((e32.2.1 0 1) &&& 31)) - (1 : Int32))]) (w := some (.int r59)) (cc_X12_fittedBy  k60) rfl ylR_0 ynR_0 rfl vy_X12_fittedBy zw_562 ⟨Nat.le_of_ble_eq_true rfl, Nat.le_of_ble_eq_true rfl⟩ (Nat.le_of_ble_eq_true rfl) dX12_chosen_273 rfl ?_
                  show vv_V x vv_TR mm_X12_chosen post 276 [some (.ref (vv_ad x 0)), none, none, some (.int v3), none, some (.int e58.1), some (.int e58.2), none, none] [.int r59, .int (((1 : Int32) <<< ((e32.2.1 0 1) &&& 31)) - (1 : Int32))] e32.2
                  refine rr_iconst (q := 277) (v := -1) dX12_chosen_276 rfl (by decide) ?_
                  refine rr_ixor (q := 278) dX12_chosen_277 rfl ?_
                  refine rr_iand (q := 279) dX12_chosen_278 rfl ?_
                  obtain rfl := Option.some.inj hm
                  exact rr_iret dX12_chosen_279 rfl hp
                · refine rr_iload (q := 259) dX12_chosen_257 rfl rfl ?_
                  refine rr_goto (tgt := 279) dX12_chosen_259 (by decide) ?_
                  obtain rfl := Option.some.inj hm
                  exact rr_iret dX12_chosen_279 rfl hp
              · refine rr_iload (q := 249) dX12_chosen_247 rfl rfl ?_
                refine rr_goto (tgt := 279) dX12_chosen_249 (by decide) ?_
                obtain rfl := Option.some.inj hm
                exact rr_iret dX12_chosen_279 rfl hp
          · refine rr_bipush (q := 151) (v := -2) dX12_chosen_149 rfl (by decide) ?_
            obtain rfl := Option.some.inj hm
            exact rr_iret dX12_chosen_151 rfl hp
      · refine rr_iconst (q := 37) (v := -1) dX12_chosen_36 rfl (by decide) ?_
        obtain rfl := Option.some.inj hm
        exact rr_iret dX12_chosen_37 rfl hp
theorem cc_X12_chosen {x : vv_E} {h : vv_H} {v1 : Int32} {v2 : Int32} {v3 : Int32} {o : Int32 × vv_H}  (hm : ff_X12_chosen h v1 v2 v3 = some o) : vv_C x vv_TR yX12_chosen mm_X12_chosen [.ref (vv_ad x 0), .int v1, .int v2, .int v3] h (fun v g => v = some (.int o.1) ∧ g = o.2) := vv_entry (by decide +kernel) rfl (Nat.le_of_ble_eq_true rfl) rfl (vt_X12_chosen  hm ⟨rfl, rfl⟩)
def ff_X12_next_B8  (h : vv_H) : Option ((vv_H) ⊕ ((vv_H))) := (ff_X12_byteAt h (h.1 0 21)).bind (fun r1 => (if r1 = (32 : Int32) then vv_let (vv_iu h 0 21 ((h.1 0 21) + (1 : Int32))) (fun g3 => some (.inl g3)) else some (.inr h)))
def ff_X12_next_J231  (z0 : Int32) (hh : vv_H) : Option ((vv_H) ⊕ ((vv_H))) := vv_let (vv_iu hh 0 24 z0) (fun g29 => vv_let (vv_iu g29 0 21 ((g29.1 0 21) + (1 : Int32))) (fun g31 => some (.inl g31)))
def ff_X12_next_B170  (h : vv_H) : Option ((vv_H) ⊕ ((vv_H))) := (ff_X12_byteAt h (h.1 0 21)).bind (fun r25 => (ff_X12_in r25.toInt64 (48 : Int64) (57 : Int64)).bind (fun r27 => (if r27 = 0 then some (.inr h) else (if (4 : Int32) ≤ ((h.1 0 21) - (h.1 0 22)) then ff_X12_next_J231  (h.1 0 24) h else (ff_X12_byteAt h (h.1 0 21)).bind (fun r33 => ff_X12_next_J231  ((((10 : Int32) * (h.1 0 24)) + r33) - (48 : Int32)) h)))))
def ff_X12_next_B84  (h : vv_H) : Option ((vv_H) ⊕ ((vv_H))) := (ff_X12_byteAt h (h.1 0 21)).bind (fun r42 => (ff_X12_in r42.toInt64 (97 : Int64) (122 : Int64)).bind (fun r44 => (if r44 = 0 then some (.inr h) else vv_let (vv_iu h 0 21 ((h.1 0 21) + (1 : Int32))) (fun g46 => some (.inl g46)))))
def ff_X12_next (h : vv_H) : Option (vv_H) := (if (h.1 0 19) ≤ 0 then (vv_lp (fun (zs : vv_H) => ff_X12_next_B8   zs) vv_F h).bind (fun (e6 : (vv_H)) => vv_let (vv_iu e6 0 22 (e6.1 0 21)) (fun g7 => (ff_X12_byteAt g7 (g7.1 0 21)).bind (fun r9 => vv_let (vv_iu g7 0 24 (0 : Int32)) (fun g11 => (if r9 = (-4 : Int32) then vv_let (vv_iu g11 0 23 (0 : Int32)) (fun g59 => some g59) else (ff_X12_in r9.toInt64 (97 : Int64) (122 : Int64)).bind (fun r13 => (if r13 = 0 then (ff_X12_in r9.toInt64 (48 : Int64) (57 : Int64)).bind (fun r15 => (if r15 = 0 then vv_let (vv_iu g11 0 23 (3 : Int32)) (fun g17 => vv_let (vv_iu g17 0 24 r9) (fun g19 => vv_let (vv_iu g19 0 21 ((g19.1 0 21) + (1 : Int32))) (fun g21 => (if r9 = (60 : Int32) then some g21 else (if r9 = (62 : Int32) then some g21 else (if r9 = (61 : Int32) then some g21 else (if r9 = (59 : Int32) then some g21 else (ff_X12_fails g21 (1 : Int32)).bind (fun r23 => some r23)))))))) else (vv_lp (fun (zs : vv_H) => ff_X12_next_B170   zs) vv_F g11).bind (fun (e36 : (vv_H)) => vv_let (vv_iu e36 0 23 (2 : Int32)) (fun g37 => (if ((g37.1 0 21) - (g37.1 0 22)) ≤ (4 : Int32) then some g37 else (ff_X12_fails g37 (1 : Int32)).bind (fun r39 => some r39)))))) else (vv_lp (fun (zs : vv_H) => ff_X12_next_B84   zs) vv_F g11).bind (fun (e49 : (vv_H)) => vv_let (vv_iu e49 0 23 (1 : Int32)) (fun g50 => (ff_X12_nameAt g50 (g50.1 0 22) (g50.1 0 21)).bind (fun r52 => vv_let (vv_iu g50 0 24 r52) (fun g54 => (if (g54.1 0 24) = (-4 : Int32) then (ff_X12_fails g54 (1 : Int32)).bind (fun r56 => some r56) else some g54)))))))))))) else some h)
set_option maxHeartbeats 200000 in
theorem vt_X12_next_B8 {x : vv_E} {post : Option Value → vv_H → Prop}  {h : vv_H} {o : (vv_H) ⊕ ((vv_H))}  (hm : ff_X12_next_B8   h = some o) (hI : ∀  (zh : vv_H), o = .inl zh → vv_V x vv_TR mm_X12_next post 8 [some (.ref (vv_ad x 0)), none] [] zh) (hX0 : ∀  (zh : vv_H), o = .inr zh → vv_V x vv_TR mm_X12_next post 34 [some (.ref (vv_ad x 0)), none] [] zh) : vv_V x vv_TR mm_X12_next post 8 [some (.ref (vv_ad x 0)), none] [] h := by
  unfold ff_X12_next_B8 at hm
  refine rr_aload_n (q := 9) dX12_next_8 rfl rfl ?_
  refine rr_aload_n (q := 10) dX12_next_9 rfl rfl ?_
  refine gf_X12_266 (q := 13) rfl dX12_next_10 rfl ?_
  obtain ⟨r1, k2, hm⟩ := vv_bind hm
  refine rr_callV (q := 16) (M' := mm_X12_byteAt) (As := [.int (h.1 0 21)]) (st := []) (w := some (.int r1)) (cc_X12_byteAt  k2) rfl ylR_0 ynR_0 rfl vy_X12_byteAt zw_284 ⟨Nat.le_of_ble_eq_true rfl, Nat.le_of_ble_eq_true rfl⟩ (Nat.le_of_ble_eq_true rfl) dX12_next_13 rfl ?_
  show vv_V x vv_TR mm_X12_next post 16 [some (.ref (vv_ad x 0)), none] [.int r1] h
  refine rr_bipush (q := 18) (v := 32) dX12_next_16 rfl (by decide) ?_
  refine rr_icmp_ne (q := 21) (tgt := 34) dX12_next_18 (by decide) rfl hm (fun hm => ?_) (fun hm => ?_)
  · obtain rfl := Option.some.inj hm
    exact hX0 h rfl
  · refine rr_aload_n (q := 22) dX12_next_21 rfl rfl ?_
    refine rr_dup (q := 23) dX12_next_22 rfl rfl ?_
    refine gf_X12_266 (q := 26) rfl dX12_next_23 rfl ?_
    refine rr_iconst (q := 27) (v := 1) dX12_next_26 rfl (by decide) ?_
    refine rr_iadd (q := 28) dX12_next_27 rfl ?_
    refine pf_X12_266 (q := 31) rfl dX12_next_28 rfl (fun g3 c4 => ?_)
    replace hm := vv_letE hm c4
    refine rr_goto (tgt := 8) dX12_next_31 (by decide) ?_
    obtain rfl := Option.some.inj hm
    exact hI g3 rfl
set_option maxHeartbeats 200000 in
theorem vt_X12_next_J231 {x : vv_E} {post : Option Value → vv_H → Prop}   {z0 : Int32} {hh : vv_H} {o : (vv_H) ⊕ ((vv_H))}  (hm : ff_X12_next_J231  z0 hh = some o) (hI : ∀  (zh : vv_H), o = .inl zh → vv_V x vv_TR mm_X12_next post 170 [some (.ref (vv_ad x 0)), none] [] zh) (hX0 : ∀  (zh : vv_H), o = .inr zh → vv_V x vv_TR mm_X12_next post 247 [some (.ref (vv_ad x 0)), none] [] zh) : vv_V x vv_TR mm_X12_next post 231 [some (.ref (vv_ad x 0)), none] [.int z0, .ref (vv_ad x 0)] hh := by
  unfold ff_X12_next_J231 at hm
  refine pf_X12_269 (q := 234) rfl dX12_next_231 rfl (fun g29 c30 => ?_)
  replace hm := vv_letE hm c30
  refine rr_aload_n (q := 235) dX12_next_234 rfl rfl ?_
  refine rr_dup (q := 236) dX12_next_235 rfl rfl ?_
  refine gf_X12_266 (q := 239) rfl dX12_next_236 rfl ?_
  refine rr_iconst (q := 240) (v := 1) dX12_next_239 rfl (by decide) ?_
  refine rr_iadd (q := 241) dX12_next_240 rfl ?_
  refine pf_X12_266 (q := 244) rfl dX12_next_241 rfl (fun g31 c32 => ?_)
  replace hm := vv_letE hm c32
  refine rr_goto (tgt := 170) dX12_next_244 (by decide) ?_
  obtain rfl := Option.some.inj hm
  exact hI g31 rfl
set_option maxHeartbeats 200000 in
theorem vt_X12_next_B170 {x : vv_E} {post : Option Value → vv_H → Prop}  {h : vv_H} {o : (vv_H) ⊕ ((vv_H))}  (hm : ff_X12_next_B170   h = some o) (hI : ∀  (zh : vv_H), o = .inl zh → vv_V x vv_TR mm_X12_next post 170 [some (.ref (vv_ad x 0)), none] [] zh) (hX0 : ∀  (zh : vv_H), o = .inr zh → vv_V x vv_TR mm_X12_next post 247 [some (.ref (vv_ad x 0)), none] [] zh) : vv_V x vv_TR mm_X12_next post 170 [some (.ref (vv_ad x 0)), none] [] h := by
  unfold ff_X12_next_B170 at hm
  refine rr_aload_n (q := 171) dX12_next_170 rfl rfl ?_
  refine rr_aload_n (q := 172) dX12_next_171 rfl rfl ?_
  refine gf_X12_266 (q := 175) rfl dX12_next_172 rfl ?_
  obtain ⟨r25, k26, hm⟩ := vv_bind hm
  refine rr_callV (q := 178) (M' := mm_X12_byteAt) (As := [.int (h.1 0 21)]) (st := []) (w := some (.int r25)) (cc_X12_byteAt  k26) rfl ylR_0 ynR_0 rfl vy_X12_byteAt zw_284 ⟨Nat.le_of_ble_eq_true rfl, Nat.le_of_ble_eq_true rfl⟩ (Nat.le_of_ble_eq_true rfl) dX12_next_175 rfl ?_
  show vv_V x vv_TR mm_X12_next post 178 [some (.ref (vv_ad x 0)), none] [.int r25] h
  refine rr_i2l (q := 179) dX12_next_178 rfl ?_
  refine rr_ldc2 (q := 182) dX12_next_179 rfl zw_566 ?_
  refine rr_ldc2 (q := 185) dX12_next_182 rfl zw_567 ?_
  obtain ⟨r27, k28, hm⟩ := vv_bind hm
  refine rr_callS (q := 188) (M' := mm_X12_in) (As := [.long r25.toInt64, .long (48 : Int64), .long (57 : Int64)]) (st := []) (w := some (.int r27))  (cc_X12_in  k28) rfl vy_X12_in zw_267 ⟨Nat.le_of_ble_eq_true rfl, Nat.le_of_ble_eq_true rfl⟩ (Nat.le_of_ble_eq_true rfl) dX12_next_185 rfl ?_
  show vv_V x vv_TR mm_X12_next post 188 [some (.ref (vv_ad x 0)), none] [.int r27] h
  refine rr_if_eq (q := 191) (tgt := 247) dX12_next_188 (by decide) rfl hm (fun hm => ?_) (fun hm => ?_)
  · obtain rfl := Option.some.inj hm
    exact hX0 h rfl
  · refine rr_aload_n (q := 192) dX12_next_191 rfl rfl ?_
    refine rr_aload_n (q := 193) dX12_next_192 rfl rfl ?_
    refine gf_X12_266 (q := 196) rfl dX12_next_193 rfl ?_
    refine rr_aload_n (q := 197) dX12_next_196 rfl rfl ?_
    refine gf_X12_257 (q := 200) rfl dX12_next_197 rfl ?_
    refine rr_isub (q := 201) dX12_next_200 rfl ?_
    refine rr_iconst (q := 202) (v := 4) dX12_next_201 rfl (by decide) ?_
    refine rr_icmp_ge (q := 205) (tgt := 227) dX12_next_202 (by decide) rfl hm (fun hm => ?_) (fun hm => ?_)
    · refine rr_aload_n (q := 228) dX12_next_227 rfl rfl ?_
      refine gf_X12_269 (q := 231) rfl dX12_next_228 rfl ?_
      exact vt_X12_next_J231  hm hI hX0
    · refine rr_bipush (q := 207) (v := 10) dX12_next_205 rfl (by decide) ?_
      refine rr_aload_n (q := 208) dX12_next_207 rfl rfl ?_
      refine gf_X12_269 (q := 211) rfl dX12_next_208 rfl ?_
      refine rr_imul (q := 212) dX12_next_211 rfl ?_
      refine rr_aload_n (q := 213) dX12_next_212 rfl rfl ?_
      refine rr_aload_n (q := 214) dX12_next_213 rfl rfl ?_
      refine gf_X12_266 (q := 217) rfl dX12_next_214 rfl ?_
      obtain ⟨r33, k34, hm⟩ := vv_bind hm
      refine rr_callV (q := 220) (M' := mm_X12_byteAt) (As := [.int (h.1 0 21)]) (st := [.int ((10 : Int32) * (h.1 0 24)), .ref (vv_ad x 0)]) (w := some (.int r33)) (cc_X12_byteAt  k34) rfl ylR_0 ynR_0 rfl vy_X12_byteAt zw_284 ⟨Nat.le_of_ble_eq_true rfl, Nat.le_of_ble_eq_true rfl⟩ (Nat.le_of_ble_eq_true rfl) dX12_next_217 rfl ?_
      show vv_V x vv_TR mm_X12_next post 220 [some (.ref (vv_ad x 0)), none] [.int r33, .int ((10 : Int32) * (h.1 0 24)), .ref (vv_ad x 0)] h
      refine rr_iadd (q := 221) dX12_next_220 rfl ?_
      refine rr_bipush (q := 223) (v := 48) dX12_next_221 rfl (by decide) ?_
      refine rr_isub (q := 224) dX12_next_223 rfl ?_
      refine rr_goto (tgt := 231) dX12_next_224 (by decide) ?_
      exact vt_X12_next_J231  hm hI hX0
set_option maxHeartbeats 200000 in
theorem vt_X12_next_B84 {x : vv_E} {post : Option Value → vv_H → Prop}  {h : vv_H} {o : (vv_H) ⊕ ((vv_H))}  (hm : ff_X12_next_B84   h = some o) (hI : ∀  (zh : vv_H), o = .inl zh → vv_V x vv_TR mm_X12_next post 84 [some (.ref (vv_ad x 0)), none] [] zh) (hX0 : ∀  (zh : vv_H), o = .inr zh → vv_V x vv_TR mm_X12_next post 118 [some (.ref (vv_ad x 0)), none] [] zh) : vv_V x vv_TR mm_X12_next post 84 [some (.ref (vv_ad x 0)), none] [] h := by
  unfold ff_X12_next_B84 at hm
  refine rr_aload_n (q := 85) dX12_next_84 rfl rfl ?_
  refine rr_aload_n (q := 86) dX12_next_85 rfl rfl ?_
  refine gf_X12_266 (q := 89) rfl dX12_next_86 rfl ?_
  obtain ⟨r42, k43, hm⟩ := vv_bind hm
  refine rr_callV (q := 92) (M' := mm_X12_byteAt) (As := [.int (h.1 0 21)]) (st := []) (w := some (.int r42)) (cc_X12_byteAt  k43) rfl ylR_0 ynR_0 rfl vy_X12_byteAt zw_284 ⟨Nat.le_of_ble_eq_true rfl, Nat.le_of_ble_eq_true rfl⟩ (Nat.le_of_ble_eq_true rfl) dX12_next_89 rfl ?_
  show vv_V x vv_TR mm_X12_next post 92 [some (.ref (vv_ad x 0)), none] [.int r42] h
  refine rr_i2l (q := 93) dX12_next_92 rfl ?_
  refine rr_ldc2 (q := 96) dX12_next_93 rfl zw_564 ?_
  refine rr_ldc2 (q := 99) dX12_next_96 rfl zw_565 ?_
  obtain ⟨r44, k45, hm⟩ := vv_bind hm
  refine rr_callS (q := 102) (M' := mm_X12_in) (As := [.long r42.toInt64, .long (97 : Int64), .long (122 : Int64)]) (st := []) (w := some (.int r44))  (cc_X12_in  k45) rfl vy_X12_in zw_267 ⟨Nat.le_of_ble_eq_true rfl, Nat.le_of_ble_eq_true rfl⟩ (Nat.le_of_ble_eq_true rfl) dX12_next_99 rfl ?_
  show vv_V x vv_TR mm_X12_next post 102 [some (.ref (vv_ad x 0)), none] [.int r44] h
  refine rr_if_eq (q := 105) (tgt := 118) dX12_next_102 (by decide) rfl hm (fun hm => ?_) (fun hm => ?_)
  · obtain rfl := Option.some.inj hm
    exact hX0 h rfl
  · refine rr_aload_n (q := 106) dX12_next_105 rfl rfl ?_
    refine rr_dup (q := 107) dX12_next_106 rfl rfl ?_
    refine gf_X12_266 (q := 110) rfl dX12_next_107 rfl ?_
    refine rr_iconst (q := 111) (v := 1) dX12_next_110 rfl (by decide) ?_
    refine rr_iadd (q := 112) dX12_next_111 rfl ?_
    refine pf_X12_266 (q := 115) rfl dX12_next_112 rfl (fun g46 c47 => ?_)
    replace hm := vv_letE hm c47
    refine rr_goto (tgt := 84) dX12_next_115 (by decide) ?_
    obtain rfl := Option.some.inj hm
    exact hI g46 rfl
set_option maxHeartbeats 200000 in
theorem vt_X12_next {x : vv_E} {post : Option Value → vv_H → Prop} {h : vv_H} {o : vv_H}  (hm : ff_X12_next  h = some o) (hp : post none o) : vv_V x vv_TR mm_X12_next post 0 [some (.ref (vv_ad x 0)), none] [] h := by
  unfold ff_X12_next at hm
  refine rr_aload_n (q := 1) dX12_next_0 rfl rfl ?_
  refine gf_X12_254 (q := 4) rfl dX12_next_1 rfl ?_
  refine rr_if_le (q := 7) (tgt := 8) dX12_next_4 (by decide) rfl hm (fun hm => ?_) (fun hm => ?_)
  · obtain ⟨r5, k61, hm⟩ := vv_bind hm
    refine vv_lp_link (P := fun (zs : vv_H) => vv_V x vv_TR mm_X12_next post 8 [some (.ref (vv_ad x 0)), none] [] zs) (Q := (fun (e6 : (vv_H)) => vv_V x vv_TR mm_X12_next post 34 [some (.ref (vv_ad x 0)), none] [] e6)) (fun zs o hm hI hX => ?_) vv_F h r5 k61 ?_
    · exact vt_X12_next_B8   hm (fun  zh e => hI zh e) (fun zh e => hX zh e)
    · generalize r5 = e6 at hm ⊢
      try dsimp only [Sum.elim_inl, Sum.elim_inr] at hm
      try dsimp only [Sum.elim_inl, Sum.elim_inr]
      refine rr_aload_n (q := 35) dX12_next_34 rfl rfl ?_
      refine rr_aload_n (q := 36) dX12_next_35 rfl rfl ?_
      refine gf_X12_266 (q := 39) rfl dX12_next_36 rfl ?_
      refine pf_X12_257 (q := 42) rfl dX12_next_39 rfl (fun g7 c8 => ?_)
      replace hm := vv_letE hm c8
      refine rr_aload_n (q := 43) dX12_next_42 rfl rfl ?_
      refine rr_aload_n (q := 44) dX12_next_43 rfl rfl ?_
      refine gf_X12_266 (q := 47) rfl dX12_next_44 rfl ?_
      obtain ⟨r9, k10, hm⟩ := vv_bind hm
      refine rr_callV (q := 50) (M' := mm_X12_byteAt) (As := [.int (g7.1 0 21)]) (st := []) (w := some (.int r9)) (cc_X12_byteAt  k10) rfl ylR_0 ynR_0 rfl vy_X12_byteAt zw_284 ⟨Nat.le_of_ble_eq_true rfl, Nat.le_of_ble_eq_true rfl⟩ (Nat.le_of_ble_eq_true rfl) dX12_next_47 rfl ?_
      show vv_V x vv_TR mm_X12_next post 50 [some (.ref (vv_ad x 0)), none] [.int r9] g7
      refine rr_istore_n (q := 51) [some (.ref (vv_ad x 0)), some (.int r9)] dX12_next_50 rfl rfl (Nat.le_of_ble_eq_true rfl) rfl rfl ?_
      refine rr_aload_n (q := 52) dX12_next_51 rfl rfl ?_
      refine rr_iconst (q := 53) (v := 0) dX12_next_52 rfl (by decide) ?_
      refine pf_X12_269 (q := 56) rfl dX12_next_53 rfl (fun g11 c12 => ?_)
      replace hm := vv_letE hm c12
      refine rr_iload_n (q := 57) dX12_next_56 rfl rfl ?_
      refine rr_bipush (q := 59) (v := -4) dX12_next_57 rfl (by decide) ?_
      refine rr_icmp_ne (q := 62) (tgt := 70) dX12_next_59 (by decide) rfl hm (fun hm => ?_) (fun hm => ?_)
      · refine rr_iload_n (q := 71) dX12_next_70 rfl rfl ?_
        refine rr_i2l (q := 72) dX12_next_71 rfl ?_
        refine rr_ldc2 (q := 75) dX12_next_72 rfl zw_564 ?_
        refine rr_ldc2 (q := 78) dX12_next_75 rfl zw_565 ?_
        obtain ⟨r13, k14, hm⟩ := vv_bind hm
        refine rr_callS (q := 81) (M' := mm_X12_in) (As := [.long r9.toInt64, .long (97 : Int64), .long (122 : Int64)]) (st := []) (w := some (.int r13))  (cc_X12_in  k14) rfl vy_X12_in zw_267 ⟨Nat.le_of_ble_eq_true rfl, Nat.le_of_ble_eq_true rfl⟩ (Nat.le_of_ble_eq_true rfl) dX12_next_78 rfl ?_
        show vv_V x vv_TR mm_X12_next post 81 [some (.ref (vv_ad x 0)), some (.int r9)] [.int r13] g11
        refine rr_if_eq (q := 84) (tgt := 156) dX12_next_81 (by decide) rfl hm (fun hm => ?_) (fun hm => ?_)
        · refine rr_iload_n (q := 157) dX12_next_156 rfl rfl ?_
          refine rr_i2l (q := 158) dX12_next_157 rfl ?_
          refine rr_ldc2 (q := 161) dX12_next_158 rfl zw_566 ?_
          refine rr_ldc2 (q := 164) dX12_next_161 rfl zw_567 ?_
          obtain ⟨r15, k16, hm⟩ := vv_bind hm
          refine rr_callS (q := 167) (M' := mm_X12_in) (As := [.long r9.toInt64, .long (48 : Int64), .long (57 : Int64)]) (st := []) (w := some (.int r15))  (cc_X12_in  k16) rfl vy_X12_in zw_267 ⟨Nat.le_of_ble_eq_true rfl, Nat.le_of_ble_eq_true rfl⟩ (Nat.le_of_ble_eq_true rfl) dX12_next_164 rfl ?_
          show vv_V x vv_TR mm_X12_next post 167 [some (.ref (vv_ad x 0)), some (.int r9)] [.int r15] g11
          refine rr_if_eq (q := 170) (tgt := 273) dX12_next_167 (by decide) rfl hm (fun hm => ?_) (fun hm => ?_)
          · refine rr_aload_n (q := 274) dX12_next_273 rfl rfl ?_
            refine rr_iconst (q := 275) (v := 3) dX12_next_274 rfl (by decide) ?_
            refine pf_X12_272 (q := 278) rfl dX12_next_275 rfl (fun g17 c18 => ?_)
            replace hm := vv_letE hm c18
            refine rr_aload_n (q := 279) dX12_next_278 rfl rfl ?_
            refine rr_iload_n (q := 280) dX12_next_279 rfl rfl ?_
            refine pf_X12_269 (q := 283) rfl dX12_next_280 rfl (fun g19 c20 => ?_)
            replace hm := vv_letE hm c20
            refine rr_aload_n (q := 284) dX12_next_283 rfl rfl ?_
            refine rr_dup (q := 285) dX12_next_284 rfl rfl ?_
            refine gf_X12_266 (q := 288) rfl dX12_next_285 rfl ?_
            refine rr_iconst (q := 289) (v := 1) dX12_next_288 rfl (by decide) ?_
            refine rr_iadd (q := 290) dX12_next_289 rfl ?_
            refine pf_X12_266 (q := 293) rfl dX12_next_290 rfl (fun g21 c22 => ?_)
            replace hm := vv_letE hm c22
            refine rr_iload_n (q := 294) dX12_next_293 rfl rfl ?_
            refine rr_bipush (q := 296) (v := 60) dX12_next_294 rfl (by decide) ?_
            refine rr_icmp_eq (q := 299) (tgt := 322) dX12_next_296 (by decide) rfl hm (fun hm => ?_) (fun hm => ?_)
            · obtain rfl := Option.some.inj hm
              exact rr_vret dX12_next_322 rfl hp
            · refine rr_iload_n (q := 300) dX12_next_299 rfl rfl ?_
              refine rr_bipush (q := 302) (v := 62) dX12_next_300 rfl (by decide) ?_
              refine rr_icmp_eq (q := 305) (tgt := 322) dX12_next_302 (by decide) rfl hm (fun hm => ?_) (fun hm => ?_)
              · obtain rfl := Option.some.inj hm
                exact rr_vret dX12_next_322 rfl hp
              · refine rr_iload_n (q := 306) dX12_next_305 rfl rfl ?_
                refine rr_bipush (q := 308) (v := 61) dX12_next_306 rfl (by decide) ?_
                refine rr_icmp_eq (q := 311) (tgt := 322) dX12_next_308 (by decide) rfl hm (fun hm => ?_) (fun hm => ?_)
                · obtain rfl := Option.some.inj hm
                  exact rr_vret dX12_next_322 rfl hp
                · refine rr_iload_n (q := 312) dX12_next_311 rfl rfl ?_
                  refine rr_bipush (q := 314) (v := 59) dX12_next_312 rfl (by decide) ?_
                  refine rr_icmp_eq (q := 317) (tgt := 322) dX12_next_314 (by decide) rfl hm (fun hm => ?_) (fun hm => ?_)
                  · obtain rfl := Option.some.inj hm
                    exact rr_vret dX12_next_322 rfl hp
                  · refine rr_aload_n (q := 318) dX12_next_317 rfl rfl ?_
                    refine rr_iconst (q := 319) (v := 1) dX12_next_318 rfl (by decide) ?_
                    obtain ⟨r23, k24, hm⟩ := vv_bind hm
                    refine rr_callV (q := 322) (M' := mm_X12_fails) (As := [.int (1 : Int32)]) (st := []) (w := none) (cc_X12_fails  k24) rfl ylR_0 ynR_0 rfl vy_X12_fails zw_290 ⟨Nat.le_of_ble_eq_true rfl, Nat.le_of_ble_eq_true rfl⟩ (Nat.le_of_ble_eq_true rfl) dX12_next_319 rfl ?_
                    show vv_V x vv_TR mm_X12_next post 322 [some (.ref (vv_ad x 0)), some (.int r9)] [] r23
                    obtain rfl := Option.some.inj hm
                    exact rr_vret dX12_next_322 rfl hp
          · refine rr_sub [true, false] rfl ?_
            obtain ⟨r35, k41, hm⟩ := vv_bind hm
            refine vv_lp_link (P := fun (zs : vv_H) => vv_V x vv_TR mm_X12_next post 170 [some (.ref (vv_ad x 0)), none] [] zs) (Q := (fun (e36 : (vv_H)) => vv_V x vv_TR mm_X12_next post 247 [some (.ref (vv_ad x 0)), none] [] e36)) (fun zs o hm hI hX => ?_) vv_F g11 r35 k41 ?_
            · exact vt_X12_next_B170   hm (fun  zh e => hI zh e) (fun zh e => hX zh e)
            · generalize r35 = e36 at hm ⊢
              try dsimp only [Sum.elim_inl, Sum.elim_inr] at hm
              try dsimp only [Sum.elim_inl, Sum.elim_inr]
              refine rr_aload_n (q := 248) dX12_next_247 rfl rfl ?_
              refine rr_iconst (q := 249) (v := 2) dX12_next_248 rfl (by decide) ?_
              refine pf_X12_272 (q := 252) rfl dX12_next_249 rfl (fun g37 c38 => ?_)
              replace hm := vv_letE hm c38
              refine rr_aload_n (q := 253) dX12_next_252 rfl rfl ?_
              refine gf_X12_266 (q := 256) rfl dX12_next_253 rfl ?_
              refine rr_aload_n (q := 257) dX12_next_256 rfl rfl ?_
              refine gf_X12_257 (q := 260) rfl dX12_next_257 rfl ?_
              refine rr_isub (q := 261) dX12_next_260 rfl ?_
              refine rr_iconst (q := 262) (v := 4) dX12_next_261 rfl (by decide) ?_
              refine rr_icmp_le (q := 265) (tgt := 322) dX12_next_262 (by decide) rfl hm (fun hm => ?_) (fun hm => ?_)
              · obtain rfl := Option.some.inj hm
                exact rr_vret dX12_next_322 rfl hp
              · refine rr_aload_n (q := 266) dX12_next_265 rfl rfl ?_
                refine rr_iconst (q := 267) (v := 1) dX12_next_266 rfl (by decide) ?_
                obtain ⟨r39, k40, hm⟩ := vv_bind hm
                refine rr_callV (q := 270) (M' := mm_X12_fails) (As := [.int (1 : Int32)]) (st := []) (w := none) (cc_X12_fails  k40) rfl ylR_0 ynR_0 rfl vy_X12_fails zw_290 ⟨Nat.le_of_ble_eq_true rfl, Nat.le_of_ble_eq_true rfl⟩ (Nat.le_of_ble_eq_true rfl) dX12_next_267 rfl ?_
                show vv_V x vv_TR mm_X12_next post 270 [some (.ref (vv_ad x 0)), none] [] r39
                refine rr_goto (tgt := 322) dX12_next_270 (by decide) ?_
                obtain rfl := Option.some.inj hm
                exact rr_vret dX12_next_322 rfl hp
        · refine rr_sub [true, false] rfl ?_
          obtain ⟨r48, k58, hm⟩ := vv_bind hm
          refine vv_lp_link (P := fun (zs : vv_H) => vv_V x vv_TR mm_X12_next post 84 [some (.ref (vv_ad x 0)), none] [] zs) (Q := (fun (e49 : (vv_H)) => vv_V x vv_TR mm_X12_next post 118 [some (.ref (vv_ad x 0)), none] [] e49)) (fun zs o hm hI hX => ?_) vv_F g11 r48 k58 ?_
          · exact vt_X12_next_B84   hm (fun  zh e => hI zh e) (fun zh e => hX zh e)
          · generalize r48 = e49 at hm ⊢
            try dsimp only [Sum.elim_inl, Sum.elim_inr] at hm
            try dsimp only [Sum.elim_inl, Sum.elim_inr]
            refine rr_aload_n (q := 119) dX12_next_118 rfl rfl ?_
            refine rr_iconst (q := 120) (v := 1) dX12_next_119 rfl (by decide) ?_
            refine pf_X12_272 (q := 123) rfl dX12_next_120 rfl (fun g50 c51 => ?_)
            replace hm := vv_letE hm c51
            refine rr_aload_n (q := 124) dX12_next_123 rfl rfl ?_
            refine rr_aload_n (q := 125) dX12_next_124 rfl rfl ?_
            refine rr_aload_n (q := 126) dX12_next_125 rfl rfl ?_
            refine gf_X12_257 (q := 129) rfl dX12_next_126 rfl ?_
            refine rr_aload_n (q := 130) dX12_next_129 rfl rfl ?_
            refine gf_X12_266 (q := 133) rfl dX12_next_130 rfl ?_
            obtain ⟨r52, k53, hm⟩ := vv_bind hm
            refine rr_callV (q := 136) (M' := mm_X12_nameAt) (As := [.int (g50.1 0 22), .int (g50.1 0 21)]) (st := [.ref (vv_ad x 0)]) (w := some (.int r52)) (cc_X12_nameAt  k53) rfl ylR_0 ynR_0 rfl vy_X12_nameAt zw_572 ⟨Nat.le_of_ble_eq_true rfl, Nat.le_of_ble_eq_true rfl⟩ (Nat.le_of_ble_eq_true rfl) dX12_next_133 rfl ?_
            show vv_V x vv_TR mm_X12_next post 136 [some (.ref (vv_ad x 0)), none] [.int r52, .ref (vv_ad x 0)] g50
            refine pf_X12_269 (q := 139) rfl dX12_next_136 rfl (fun g54 c55 => ?_)
            replace hm := vv_letE hm c55
            refine rr_aload_n (q := 140) dX12_next_139 rfl rfl ?_
            refine gf_X12_269 (q := 143) rfl dX12_next_140 rfl ?_
            refine rr_bipush (q := 145) (v := -4) dX12_next_143 rfl (by decide) ?_
            refine rr_icmp_ne (q := 148) (tgt := 322) dX12_next_145 (by decide) rfl hm (fun hm => ?_) (fun hm => ?_)
            · obtain rfl := Option.some.inj hm
              exact rr_vret dX12_next_322 rfl hp
            · refine rr_aload_n (q := 149) dX12_next_148 rfl rfl ?_
              refine rr_iconst (q := 150) (v := 1) dX12_next_149 rfl (by decide) ?_
              obtain ⟨r56, k57, hm⟩ := vv_bind hm
              refine rr_callV (q := 153) (M' := mm_X12_fails) (As := [.int (1 : Int32)]) (st := []) (w := none) (cc_X12_fails  k57) rfl ylR_0 ynR_0 rfl vy_X12_fails zw_290 ⟨Nat.le_of_ble_eq_true rfl, Nat.le_of_ble_eq_true rfl⟩ (Nat.le_of_ble_eq_true rfl) dX12_next_150 rfl ?_
              show vv_V x vv_TR mm_X12_next post 153 [some (.ref (vv_ad x 0)), none] [] r56
              refine rr_goto (tgt := 322) dX12_next_153 (by decide) ?_
              obtain rfl := Option.some.inj hm
              exact rr_vret dX12_next_322 rfl hp
      · refine rr_aload_n (q := 63) dX12_next_62 rfl rfl ?_
        refine rr_iconst (q := 64) (v := 0) dX12_next_63 rfl (by decide) ?_
        refine pf_X12_272 (q := 67) rfl dX12_next_64 rfl (fun g59 c60 => ?_)
        replace hm := vv_letE hm c60
        refine rr_goto (tgt := 322) dX12_next_67 (by decide) ?_
        obtain rfl := Option.some.inj hm
        exact rr_vret dX12_next_322 rfl hp
  · obtain rfl := Option.some.inj hm
    exact rr_vret dX12_next_7 rfl hp
theorem cc_X12_next {x : vv_E} {h : vv_H} {o : vv_H}  (hm : ff_X12_next h = some o) : vv_C x vv_TR yX12_next mm_X12_next [.ref (vv_ad x 0)] h (fun v g => v = none ∧ g = o) := vv_entry (by decide +kernel) rfl (Nat.le_of_ble_eq_true rfl) rfl (vt_X12_next  hm ⟨rfl, rfl⟩)
def ff_X12_due (h : vv_H) (v1 : Int32) (v2 : Int32) (v3 : Int32) : Option (Int32 × vv_H) := (ff_X12_isBody h v1).bind (fun r1 => (if r1 = 0 then some ((-1 : Int32), h) else (ff_X12_in v2.toInt64 (0 : Int64) (3 : Int64)).bind (fun r3 => (if r3 = 0 then some ((-1 : Int32), h) else (ff_X12_isDay v3).bind (fun r5 => (if r5 = 0 then some ((-1 : Int32), h) else (ff_X12_dueOf h v1 v2 v3).bind (fun r7 => some (r7.1, r7.2))))))))
set_option maxHeartbeats 200000 in
theorem vt_X12_due {x : vv_E} {post : Option Value → vv_H → Prop} {h : vv_H} {v1 : Int32} {v2 : Int32} {v3 : Int32} {o : Int32 × vv_H}  (hm : ff_X12_due  h v1 v2 v3 = some o) (hp : post (some (.int o.1)) o.2) : vv_V x vv_TR mm_X12_due post 0 [some (.ref (vv_ad x 0)), some (.int v1), some (.int v2), some (.int v3)] [] h := by
  unfold ff_X12_due at hm
  refine rr_aload_n (q := 1) dX12_due_0 rfl rfl ?_
  refine rr_iload_n (q := 2) dX12_due_1 rfl rfl ?_
  obtain ⟨r1, k2, hm⟩ := vv_bind hm
  refine rr_callV (q := 5) (M' := mm_X12_isBody) (As := [.int v1]) (st := []) (w := some (.int r1)) (cc_X12_isBody  k2) rfl ylR_0 ynR_0 rfl vy_X12_isBody zw_542 ⟨Nat.le_of_ble_eq_true rfl, Nat.le_of_ble_eq_true rfl⟩ (Nat.le_of_ble_eq_true rfl) dX12_due_2 rfl ?_
  show vv_V x vv_TR mm_X12_due post 5 [some (.ref (vv_ad x 0)), some (.int v1), some (.int v2), some (.int v3)] [.int r1] h
  refine rr_if_eq (q := 8) (tgt := 37) dX12_due_5 (by decide) rfl hm (fun hm => ?_) (fun hm => ?_)
  · refine rr_iconst (q := 38) (v := -1) dX12_due_37 rfl (by decide) ?_
    obtain rfl := Option.some.inj hm
    exact rr_iret dX12_due_38 rfl hp
  · refine rr_iload_n (q := 9) dX12_due_8 rfl rfl ?_
    refine rr_i2l (q := 10) dX12_due_9 rfl ?_
    refine rr_lconst (q := 11) (v := 0) dX12_due_10 rfl (by decide) ?_
    refine rr_ldc2 (q := 14) dX12_due_11 rfl zw_270 ?_
    obtain ⟨r3, k4, hm⟩ := vv_bind hm
    refine rr_callS (q := 17) (M' := mm_X12_in) (As := [.long v2.toInt64, .long (0 : Int64), .long (3 : Int64)]) (st := []) (w := some (.int r3))  (cc_X12_in  k4) rfl vy_X12_in zw_267 ⟨Nat.le_of_ble_eq_true rfl, Nat.le_of_ble_eq_true rfl⟩ (Nat.le_of_ble_eq_true rfl) dX12_due_14 rfl ?_
    show vv_V x vv_TR mm_X12_due post 17 [some (.ref (vv_ad x 0)), some (.int v1), some (.int v2), some (.int v3)] [.int r3] h
    refine rr_if_eq (q := 20) (tgt := 37) dX12_due_17 (by decide) rfl hm (fun hm => ?_) (fun hm => ?_)
    · refine rr_iconst (q := 38) (v := -1) dX12_due_37 rfl (by decide) ?_
      obtain rfl := Option.some.inj hm
      exact rr_iret dX12_due_38 rfl hp
    · refine rr_iload_n (q := 21) dX12_due_20 rfl rfl ?_
      obtain ⟨r5, k6, hm⟩ := vv_bind hm
      refine rr_callS (q := 24) (M' := mm_X12_isDay) (As := [.int v3]) (st := []) (w := some (.int r5))  (cc_X12_isDay  k6) rfl vy_X12_isDay zw_546 ⟨Nat.le_of_ble_eq_true rfl, Nat.le_of_ble_eq_true rfl⟩ (Nat.le_of_ble_eq_true rfl) dX12_due_21 rfl ?_
      show vv_V x vv_TR mm_X12_due post 24 [some (.ref (vv_ad x 0)), some (.int v1), some (.int v2), some (.int v3)] [.int r5] h
      refine rr_if_eq (q := 27) (tgt := 37) dX12_due_24 (by decide) rfl hm (fun hm => ?_) (fun hm => ?_)
      · refine rr_iconst (q := 38) (v := -1) dX12_due_37 rfl (by decide) ?_
        obtain rfl := Option.some.inj hm
        exact rr_iret dX12_due_38 rfl hp
      · refine rr_aload_n (q := 28) dX12_due_27 rfl rfl ?_
        refine rr_iload_n (q := 29) dX12_due_28 rfl rfl ?_
        refine rr_iload_n (q := 30) dX12_due_29 rfl rfl ?_
        refine rr_iload_n (q := 31) dX12_due_30 rfl rfl ?_
        obtain ⟨r7, k8, hm⟩ := vv_bind hm
        refine rr_callV (q := 34) (M' := mm_X12_dueOf) (As := [.int v1, .int v2, .int v3]) (st := []) (w := some (.int r7.1)) (cc_X12_dueOf  k8) rfl ylR_0 ynR_0 rfl vy_X12_dueOf zw_577 ⟨Nat.le_of_ble_eq_true rfl, Nat.le_of_ble_eq_true rfl⟩ (Nat.le_of_ble_eq_true rfl) dX12_due_31 rfl ?_
        show vv_V x vv_TR mm_X12_due post 34 [some (.ref (vv_ad x 0)), some (.int v1), some (.int v2), some (.int v3)] [.int r7.1] r7.2
        refine rr_goto (tgt := 38) dX12_due_34 (by decide) ?_
        obtain rfl := Option.some.inj hm
        exact rr_iret dX12_due_38 rfl hp
theorem cc_X12_due {x : vv_E} {h : vv_H} {v1 : Int32} {v2 : Int32} {v3 : Int32} {o : Int32 × vv_H}  (hm : ff_X12_due h v1 v2 v3 = some o) : vv_C x vv_TR yX12_due mm_X12_due [.ref (vv_ad x 0), .int v1, .int v2, .int v3] h (fun v g => v = some (.int o.1) ∧ g = o.2) := vv_entry (by decide +kernel) rfl (Nat.le_of_ble_eq_true rfl) rfl (vt_X12_due  hm ⟨rfl, rfl⟩)
def ff_X12_why (h : vv_H) (v1 : Int32) (v2 : Int32) (v3 : Int32) : Option (Int32 × vv_H) := (ff_X12_isBody h v1).bind (fun r1 => (if r1 = 0 then some ((-1 : Int32), h) else (ff_X12_in v2.toInt64 (0 : Int64) (3 : Int64)).bind (fun r3 => (if r3 = 0 then some ((-1 : Int32), h) else (ff_X12_isDay v3).bind (fun r5 => (if r5 = 0 then some ((-1 : Int32), h) else (ff_X12_dueOf h v1 v2 v3).bind (fun r7 => some ((r7.2.1 0 41), r7.2))))))))
set_option maxHeartbeats 200000 in
theorem vt_X12_why {x : vv_E} {post : Option Value → vv_H → Prop} {h : vv_H} {v1 : Int32} {v2 : Int32} {v3 : Int32} {o : Int32 × vv_H}  (hm : ff_X12_why  h v1 v2 v3 = some o) (hp : post (some (.int o.1)) o.2) : vv_V x vv_TR mm_X12_why post 0 [some (.ref (vv_ad x 0)), some (.int v1), some (.int v2), some (.int v3)] [] h := by
  unfold ff_X12_why at hm
  refine rr_aload_n (q := 1) dX12_why_0 rfl rfl ?_
  refine rr_iload_n (q := 2) dX12_why_1 rfl rfl ?_
  obtain ⟨r1, k2, hm⟩ := vv_bind hm
  refine rr_callV (q := 5) (M' := mm_X12_isBody) (As := [.int v1]) (st := []) (w := some (.int r1)) (cc_X12_isBody  k2) rfl ylR_0 ynR_0 rfl vy_X12_isBody zw_542 ⟨Nat.le_of_ble_eq_true rfl, Nat.le_of_ble_eq_true rfl⟩ (Nat.le_of_ble_eq_true rfl) dX12_why_2 rfl ?_
  show vv_V x vv_TR mm_X12_why post 5 [some (.ref (vv_ad x 0)), some (.int v1), some (.int v2), some (.int v3)] [.int r1] h
  refine rr_if_eq (q := 8) (tgt := 27) dX12_why_5 (by decide) rfl hm (fun hm => ?_) (fun hm => ?_)
  · refine rr_iconst (q := 28) (v := -1) dX12_why_27 rfl (by decide) ?_
    obtain rfl := Option.some.inj hm
    exact rr_iret dX12_why_28 rfl hp
  · refine rr_iload_n (q := 9) dX12_why_8 rfl rfl ?_
    refine rr_i2l (q := 10) dX12_why_9 rfl ?_
    refine rr_lconst (q := 11) (v := 0) dX12_why_10 rfl (by decide) ?_
    refine rr_ldc2 (q := 14) dX12_why_11 rfl zw_270 ?_
    obtain ⟨r3, k4, hm⟩ := vv_bind hm
    refine rr_callS (q := 17) (M' := mm_X12_in) (As := [.long v2.toInt64, .long (0 : Int64), .long (3 : Int64)]) (st := []) (w := some (.int r3))  (cc_X12_in  k4) rfl vy_X12_in zw_267 ⟨Nat.le_of_ble_eq_true rfl, Nat.le_of_ble_eq_true rfl⟩ (Nat.le_of_ble_eq_true rfl) dX12_why_14 rfl ?_
    show vv_V x vv_TR mm_X12_why post 17 [some (.ref (vv_ad x 0)), some (.int v1), some (.int v2), some (.int v3)] [.int r3] h
    refine rr_if_eq (q := 20) (tgt := 27) dX12_why_17 (by decide) rfl hm (fun hm => ?_) (fun hm => ?_)
    · refine rr_iconst (q := 28) (v := -1) dX12_why_27 rfl (by decide) ?_
      obtain rfl := Option.some.inj hm
      exact rr_iret dX12_why_28 rfl hp
    · refine rr_iload_n (q := 21) dX12_why_20 rfl rfl ?_
      obtain ⟨r5, k6, hm⟩ := vv_bind hm
      refine rr_callS (q := 24) (M' := mm_X12_isDay) (As := [.int v3]) (st := []) (w := some (.int r5))  (cc_X12_isDay  k6) rfl vy_X12_isDay zw_546 ⟨Nat.le_of_ble_eq_true rfl, Nat.le_of_ble_eq_true rfl⟩ (Nat.le_of_ble_eq_true rfl) dX12_why_21 rfl ?_
      show vv_V x vv_TR mm_X12_why post 24 [some (.ref (vv_ad x 0)), some (.int v1), some (.int v2), some (.int v3)] [.int r5] h
      refine rr_if_ne (q := 27) (tgt := 29) dX12_why_24 (by decide) rfl hm (fun hm => ?_) (fun hm => ?_)
      · refine rr_aload_n (q := 30) dX12_why_29 rfl rfl ?_
        refine rr_iload_n (q := 31) dX12_why_30 rfl rfl ?_
        refine rr_iload_n (q := 32) dX12_why_31 rfl rfl ?_
        refine rr_iload_n (q := 33) dX12_why_32 rfl rfl ?_
        obtain ⟨r7, k8, hm⟩ := vv_bind hm
        refine rr_callV (q := 36) (M' := mm_X12_dueOf) (As := [.int v1, .int v2, .int v3]) (st := []) (w := some (.int r7.1)) (cc_X12_dueOf  k8) rfl ylR_0 ynR_0 rfl vy_X12_dueOf zw_577 ⟨Nat.le_of_ble_eq_true rfl, Nat.le_of_ble_eq_true rfl⟩ (Nat.le_of_ble_eq_true rfl) dX12_why_33 rfl ?_
        show vv_V x vv_TR mm_X12_why post 36 [some (.ref (vv_ad x 0)), some (.int v1), some (.int v2), some (.int v3)] [.int r7.1] r7.2
        refine rr_pop (q := 37) dX12_why_36 rfl rfl ?_
        refine rr_aload_n (q := 38) dX12_why_37 rfl rfl ?_
        refine gf_X12_318 (q := 41) rfl dX12_why_38 rfl ?_
        obtain rfl := Option.some.inj hm
        exact rr_iret dX12_why_41 rfl hp
      · refine rr_iconst (q := 28) (v := -1) dX12_why_27 rfl (by decide) ?_
        obtain rfl := Option.some.inj hm
        exact rr_iret dX12_why_28 rfl hp
theorem cc_X12_why {x : vv_E} {h : vv_H} {v1 : Int32} {v2 : Int32} {v3 : Int32} {o : Int32 × vv_H}  (hm : ff_X12_why h v1 v2 v3 = some o) : vv_C x vv_TR yX12_why mm_X12_why [.ref (vv_ad x 0), .int v1, .int v2, .int v3] h (fun v g => v = some (.int o.1) ∧ g = o.2) := vv_entry (by decide +kernel) rfl (Nat.le_of_ble_eq_true rfl) rfl (vt_X12_why  hm ⟨rfl, rfl⟩)
def ff_X12_rule (h : vv_H) (v1 : Int32) (v2 : Int32) (v3 : Int32) : Option (Int32) := (ff_X12_in v1.toInt64 (0 : Int64) (3 : Int64)).bind (fun r1 => (if r1 = 0 then some (-1 : Int32) else (ff_X12_in v2.toInt64 (0 : Int64) (1 : Int64)).bind (fun r3 => (if r3 = 0 then some (-1 : Int32) else (ff_X12_isDay v3).bind (fun r5 => (if r5 = 0 then some (-1 : Int32) else (if v2 = 0 then (ff_X12_ruleOf h v1 (1 : Int32) v3).bind (fun r9 => some r9) else (ff_X12_ruleOf h v1 (2 : Int32) v3).bind (fun r7 => some r7))))))))
set_option maxHeartbeats 200000 in
theorem vt_X12_rule {x : vv_E} {post : Option Value → vv_H → Prop} {h : vv_H} {v1 : Int32} {v2 : Int32} {v3 : Int32} {o : Int32}  (hm : ff_X12_rule  h v1 v2 v3 = some o) (hp : post (some (.int o)) h) : vv_V x vv_TR mm_X12_rule post 0 [some (.ref (vv_ad x 0)), some (.int v1), some (.int v2), some (.int v3)] [] h := by
  unfold ff_X12_rule at hm
  refine rr_iload_n (q := 1) dX12_rule_0 rfl rfl ?_
  refine rr_i2l (q := 2) dX12_rule_1 rfl ?_
  refine rr_lconst (q := 3) (v := 0) dX12_rule_2 rfl (by decide) ?_
  refine rr_ldc2 (q := 6) dX12_rule_3 rfl zw_270 ?_
  obtain ⟨r1, k2, hm⟩ := vv_bind hm
  refine rr_callS (q := 9) (M' := mm_X12_in) (As := [.long v1.toInt64, .long (0 : Int64), .long (3 : Int64)]) (st := []) (w := some (.int r1))  (cc_X12_in  k2) rfl vy_X12_in zw_267 ⟨Nat.le_of_ble_eq_true rfl, Nat.le_of_ble_eq_true rfl⟩ (Nat.le_of_ble_eq_true rfl) dX12_rule_6 rfl ?_
  show vv_V x vv_TR mm_X12_rule post 9 [some (.ref (vv_ad x 0)), some (.int v1), some (.int v2), some (.int v3)] [.int r1] h
  refine rr_if_eq (q := 12) (tgt := 47) dX12_rule_9 (by decide) rfl hm (fun hm => ?_) (fun hm => ?_)
  · refine rr_iconst (q := 48) (v := -1) dX12_rule_47 rfl (by decide) ?_
    obtain rfl := Option.some.inj hm
    exact rr_iret dX12_rule_48 rfl hp
  · refine rr_iload_n (q := 13) dX12_rule_12 rfl rfl ?_
    refine rr_i2l (q := 14) dX12_rule_13 rfl ?_
    refine rr_lconst (q := 15) (v := 0) dX12_rule_14 rfl (by decide) ?_
    refine rr_lconst (q := 16) (v := 1) dX12_rule_15 rfl (by decide) ?_
    obtain ⟨r3, k4, hm⟩ := vv_bind hm
    refine rr_callS (q := 19) (M' := mm_X12_in) (As := [.long v2.toInt64, .long (0 : Int64), .long (1 : Int64)]) (st := []) (w := some (.int r3))  (cc_X12_in  k4) rfl vy_X12_in zw_267 ⟨Nat.le_of_ble_eq_true rfl, Nat.le_of_ble_eq_true rfl⟩ (Nat.le_of_ble_eq_true rfl) dX12_rule_16 rfl ?_
    show vv_V x vv_TR mm_X12_rule post 19 [some (.ref (vv_ad x 0)), some (.int v1), some (.int v2), some (.int v3)] [.int r3] h
    refine rr_if_eq (q := 22) (tgt := 47) dX12_rule_19 (by decide) rfl hm (fun hm => ?_) (fun hm => ?_)
    · refine rr_iconst (q := 48) (v := -1) dX12_rule_47 rfl (by decide) ?_
      obtain rfl := Option.some.inj hm
      exact rr_iret dX12_rule_48 rfl hp
    · refine rr_iload_n (q := 23) dX12_rule_22 rfl rfl ?_
      obtain ⟨r5, k6, hm⟩ := vv_bind hm
      refine rr_callS (q := 26) (M' := mm_X12_isDay) (As := [.int v3]) (st := []) (w := some (.int r5))  (cc_X12_isDay  k6) rfl vy_X12_isDay zw_546 ⟨Nat.le_of_ble_eq_true rfl, Nat.le_of_ble_eq_true rfl⟩ (Nat.le_of_ble_eq_true rfl) dX12_rule_23 rfl ?_
      show vv_V x vv_TR mm_X12_rule post 26 [some (.ref (vv_ad x 0)), some (.int v1), some (.int v2), some (.int v3)] [.int r5] h
      refine rr_if_eq (q := 29) (tgt := 47) dX12_rule_26 (by decide) rfl hm (fun hm => ?_) (fun hm => ?_)
      · refine rr_iconst (q := 48) (v := -1) dX12_rule_47 rfl (by decide) ?_
        obtain rfl := Option.some.inj hm
        exact rr_iret dX12_rule_48 rfl hp
      · refine rr_aload_n (q := 30) dX12_rule_29 rfl rfl ?_
        refine rr_iload_n (q := 31) dX12_rule_30 rfl rfl ?_
        refine rr_iload_n (q := 32) dX12_rule_31 rfl rfl ?_
        refine rr_if_ne (q := 35) (tgt := 39) dX12_rule_32 (by decide) rfl hm (fun hm => ?_) (fun hm => ?_)
        · refine rr_iconst (q := 40) (v := 2) dX12_rule_39 rfl (by decide) ?_
          refine rr_iload_n (q := 41) dX12_rule_40 rfl rfl ?_
          obtain ⟨r7, k8, hm⟩ := vv_bind hm
          refine rr_callV (q := 44) (M' := mm_X12_ruleOf) (As := [.int v1, .int (2 : Int32), .int v3]) (st := []) (w := some (.int r7)) (cc_X12_ruleOf  k8) rfl ylR_0 ynR_0 rfl vy_X12_ruleOf zw_311 ⟨Nat.le_of_ble_eq_true rfl, Nat.le_of_ble_eq_true rfl⟩ (Nat.le_of_ble_eq_true rfl) dX12_rule_41 rfl ?_
          show vv_V x vv_TR mm_X12_rule post 44 [some (.ref (vv_ad x 0)), some (.int v1), some (.int v2), some (.int v3)] [.int r7] h
          refine rr_goto (tgt := 48) dX12_rule_44 (by decide) ?_
          obtain rfl := Option.some.inj hm
          exact rr_iret dX12_rule_48 rfl hp
        · refine rr_iconst (q := 36) (v := 1) dX12_rule_35 rfl (by decide) ?_
          refine rr_goto (tgt := 40) dX12_rule_36 (by decide) ?_
          refine rr_iload_n (q := 41) dX12_rule_40 rfl rfl ?_
          obtain ⟨r9, k10, hm⟩ := vv_bind hm
          refine rr_callV (q := 44) (M' := mm_X12_ruleOf) (As := [.int v1, .int (1 : Int32), .int v3]) (st := []) (w := some (.int r9)) (cc_X12_ruleOf  k10) rfl ylR_0 ynR_0 rfl vy_X12_ruleOf zw_311 ⟨Nat.le_of_ble_eq_true rfl, Nat.le_of_ble_eq_true rfl⟩ (Nat.le_of_ble_eq_true rfl) dX12_rule_41 rfl ?_
          show vv_V x vv_TR mm_X12_rule post 44 [some (.ref (vv_ad x 0)), some (.int v1), some (.int v2), some (.int v3)] [.int r9] h
          refine rr_goto (tgt := 48) dX12_rule_44 (by decide) ?_
          obtain rfl := Option.some.inj hm
          exact rr_iret dX12_rule_48 rfl hp
theorem cc_X12_rule {x : vv_E} {h : vv_H} {v1 : Int32} {v2 : Int32} {v3 : Int32} {o : Int32}  (hm : ff_X12_rule h v1 v2 v3 = some o) : vv_C x vv_TR yX12_rule mm_X12_rule [.ref (vv_ad x 0), .int v1, .int v2, .int v3] h (fun v g => v = some (.int o) ∧ g = h) := vv_entry (by decide +kernel) rfl (Nat.le_of_ble_eq_true rfl) rfl (vt_X12_rule  hm ⟨rfl, rfl⟩)
def ff_X12_road (h : vv_H) (v1 : Int32) (v2 : Int32) (v3 : Int32) : Option (Int32 × vv_H) := (ff_X12_isStore h v1).bind (fun r1 => (if r1 = 0 then some ((-1 : Int32), h) else (ff_X12_isStore h v2).bind (fun r3 => (if r3 = 0 then some ((-1 : Int32), h) else (if v1 = v2 then some ((-1 : Int32), h) else (ff_X12_in v3.toInt64 (0 : Int64) (99 : Int64)).bind (fun r5 => (if r5 = 0 then some ((-1 : Int32), h) else vv_ck (((4 : Int32) * v1) + v2) 16 (vv_let (h.1 28 (((4 : Int32) * v1) + v2).toNatClampNeg) (fun w8 => vv_ck (((4 : Int32) * v1) + v2) 16 (vv_let (vv_iu h 28 (((4 : Int32) * v1) + v2).toNatClampNeg v3) (fun g11 => vv_ck (((4 : Int32) * v2) + v1) 16 (vv_let (vv_iu g11 28 (((4 : Int32) * v2) + v1).toNatClampNeg v3) (fun g14 => some (w8, g14))))))))))))))
set_option maxHeartbeats 200000 in
theorem vt_X12_road {x : vv_E} {post : Option Value → vv_H → Prop} {h : vv_H} {v1 : Int32} {v2 : Int32} {v3 : Int32} {o : Int32 × vv_H}  (hm : ff_X12_road  h v1 v2 v3 = some o) (hp : post (some (.int o.1)) o.2) : vv_V x vv_TR mm_X12_road post 0 [some (.ref (vv_ad x 0)), some (.int v1), some (.int v2), some (.int v3), none] [] h := by
  unfold ff_X12_road at hm
  refine rr_aload_n (q := 1) dX12_road_0 rfl rfl ?_
  refine rr_iload_n (q := 2) dX12_road_1 rfl rfl ?_
  obtain ⟨r1, k2, hm⟩ := vv_bind hm
  refine rr_callV (q := 5) (M' := mm_X12_isStore) (As := [.int v1]) (st := []) (w := some (.int r1)) (cc_X12_isStore  k2) rfl ylR_0 ynR_0 rfl vy_X12_isStore zw_582 ⟨Nat.le_of_ble_eq_true rfl, Nat.le_of_ble_eq_true rfl⟩ (Nat.le_of_ble_eq_true rfl) dX12_road_2 rfl ?_
  show vv_V x vv_TR mm_X12_road post 5 [some (.ref (vv_ad x 0)), some (.int v1), some (.int v2), some (.int v3), none] [.int r1] h
  refine rr_if_eq (q := 8) (tgt := 33) dX12_road_5 (by decide) rfl hm (fun hm => ?_) (fun hm => ?_)
  · refine rr_iconst (q := 34) (v := -1) dX12_road_33 rfl (by decide) ?_
    obtain rfl := Option.some.inj hm
    exact rr_iret dX12_road_34 rfl hp
  · refine rr_aload_n (q := 9) dX12_road_8 rfl rfl ?_
    refine rr_iload_n (q := 10) dX12_road_9 rfl rfl ?_
    obtain ⟨r3, k4, hm⟩ := vv_bind hm
    refine rr_callV (q := 13) (M' := mm_X12_isStore) (As := [.int v2]) (st := []) (w := some (.int r3)) (cc_X12_isStore  k4) rfl ylR_0 ynR_0 rfl vy_X12_isStore zw_582 ⟨Nat.le_of_ble_eq_true rfl, Nat.le_of_ble_eq_true rfl⟩ (Nat.le_of_ble_eq_true rfl) dX12_road_10 rfl ?_
    show vv_V x vv_TR mm_X12_road post 13 [some (.ref (vv_ad x 0)), some (.int v1), some (.int v2), some (.int v3), none] [.int r3] h
    refine rr_if_eq (q := 16) (tgt := 33) dX12_road_13 (by decide) rfl hm (fun hm => ?_) (fun hm => ?_)
    · refine rr_iconst (q := 34) (v := -1) dX12_road_33 rfl (by decide) ?_
      obtain rfl := Option.some.inj hm
      exact rr_iret dX12_road_34 rfl hp
    · refine rr_iload_n (q := 17) dX12_road_16 rfl rfl ?_
      refine rr_iload_n (q := 18) dX12_road_17 rfl rfl ?_
      refine rr_icmp_eq (q := 21) (tgt := 33) dX12_road_18 (by decide) rfl hm (fun hm => ?_) (fun hm => ?_)
      · refine rr_iconst (q := 34) (v := -1) dX12_road_33 rfl (by decide) ?_
        obtain rfl := Option.some.inj hm
        exact rr_iret dX12_road_34 rfl hp
      · refine rr_iload_n (q := 22) dX12_road_21 rfl rfl ?_
        refine rr_i2l (q := 23) dX12_road_22 rfl ?_
        refine rr_lconst (q := 24) (v := 0) dX12_road_23 rfl (by decide) ?_
        refine rr_ldc2 (q := 27) dX12_road_24 rfl zw_583 ?_
        obtain ⟨r5, k6, hm⟩ := vv_bind hm
        refine rr_callS (q := 30) (M' := mm_X12_in) (As := [.long v3.toInt64, .long (0 : Int64), .long (99 : Int64)]) (st := []) (w := some (.int r5))  (cc_X12_in  k6) rfl vy_X12_in zw_267 ⟨Nat.le_of_ble_eq_true rfl, Nat.le_of_ble_eq_true rfl⟩ (Nat.le_of_ble_eq_true rfl) dX12_road_27 rfl ?_
        show vv_V x vv_TR mm_X12_road post 30 [some (.ref (vv_ad x 0)), some (.int v1), some (.int v2), some (.int v3), none] [.int r5] h
        refine rr_if_ne (q := 33) (tgt := 35) dX12_road_30 (by decide) rfl hm (fun hm => ?_) (fun hm => ?_)
        · refine rr_aload_n (q := 36) dX12_road_35 rfl rfl ?_
          refine gf_X12_91 (q := 39) rfl dX12_road_36 rfl ?_
          refine rr_iconst (q := 40) (v := 4) dX12_road_39 rfl (by decide) ?_
          refine rr_iload_n (q := 41) dX12_road_40 rfl rfl ?_
          refine rr_imul (q := 42) dX12_road_41 rfl ?_
          refine rr_iload_n (q := 43) dX12_road_42 rfl rfl ?_
          refine rr_iadd (q := 44) dX12_road_43 rfl ?_
          obtain ⟨c7, hm⟩ := vv_ck_of hm
          refine rr_iald (q := 45) ylR_28 ynR_28 c7 dX12_road_44 rfl ?_
          obtain ⟨w8, c9, hm⟩ := vv_let_of hm
          rw [← c9]
          refine rr_istore (q := 47) [some (.ref (vv_ad x 0)), some (.int v1), some (.int v2), some (.int v3), some (.int w8)] dX12_road_45 rfl (Nat.le_of_ble_eq_true rfl) rfl rfl ?_
          refine rr_aload_n (q := 48) dX12_road_47 rfl rfl ?_
          refine gf_X12_91 (q := 51) rfl dX12_road_48 rfl ?_
          refine rr_iconst (q := 52) (v := 4) dX12_road_51 rfl (by decide) ?_
          refine rr_iload_n (q := 53) dX12_road_52 rfl rfl ?_
          refine rr_imul (q := 54) dX12_road_53 rfl ?_
          refine rr_iload_n (q := 55) dX12_road_54 rfl rfl ?_
          refine rr_iadd (q := 56) dX12_road_55 rfl ?_
          refine rr_iload_n (q := 57) dX12_road_56 rfl rfl ?_
          obtain ⟨c10, hm⟩ := vv_ck_of hm
          obtain ⟨g11, c12, hm⟩ := vv_let_of hm
          refine rr_iast (q := 58) ylR_28 ynR_28 c10 dX12_road_57 rfl ?_
          rw [← c12]
          refine rr_aload_n (q := 59) dX12_road_58 rfl rfl ?_
          refine gf_X12_91 (q := 62) rfl dX12_road_59 rfl ?_
          refine rr_iconst (q := 63) (v := 4) dX12_road_62 rfl (by decide) ?_
          refine rr_iload_n (q := 64) dX12_road_63 rfl rfl ?_
          refine rr_imul (q := 65) dX12_road_64 rfl ?_
          refine rr_iload_n (q := 66) dX12_road_65 rfl rfl ?_
          refine rr_iadd (q := 67) dX12_road_66 rfl ?_
          refine rr_iload_n (q := 68) dX12_road_67 rfl rfl ?_
          obtain ⟨c13, hm⟩ := vv_ck_of hm
          obtain ⟨g14, c15, hm⟩ := vv_let_of hm
          refine rr_iast (q := 69) ylR_28 ynR_28 c13 dX12_road_68 rfl ?_
          rw [← c15]
          refine rr_iload (q := 71) dX12_road_69 rfl rfl ?_
          obtain rfl := Option.some.inj hm
          exact rr_iret dX12_road_71 rfl hp
        · refine rr_iconst (q := 34) (v := -1) dX12_road_33 rfl (by decide) ?_
          obtain rfl := Option.some.inj hm
          exact rr_iret dX12_road_34 rfl hp
theorem cc_X12_road {x : vv_E} {h : vv_H} {v1 : Int32} {v2 : Int32} {v3 : Int32} {o : Int32 × vv_H}  (hm : ff_X12_road h v1 v2 v3 = some o) : vv_C x vv_TR yX12_road mm_X12_road [.ref (vv_ad x 0), .int v1, .int v2, .int v3] h (fun v g => v = some (.int o.1) ∧ g = o.2) := vv_entry (by decide +kernel) rfl (Nat.le_of_ble_eq_true rfl) rfl (vt_X12_road  hm ⟨rfl, rfl⟩)
def ff_X12_piece (h : vv_H) (v1 : Int32) (v2 : Int32) (v3 : Int32) (v4 : Int32) : Option (Int32 × vv_H) := (ff_X12_isStore h v1).bind (fun r1 => (if r1 = 0 then some ((-1 : Int32), h) else (ff_X12_in v2.toInt64 (0 : Int64) (((h.1 0 12) - (1 : Int32)).toInt64)).bind (fun r3 => (if r3 = 0 then some ((-1 : Int32), h) else (ff_X12_in v3.toInt64 (0 : Int64) (5 : Int64)).bind (fun r5 => (if r5 = 0 then some ((-1 : Int32), h) else (ff_X12_in v4.toInt64 (0 : Int64) (99 : Int64)).bind (fun r7 => (if r7 = 0 then some ((-1 : Int32), h) else (if (h.1 0 44) = (36 : Int32) then some ((-3 : Int32), h) else vv_ck (h.1 0 44) 36 (vv_let (vv_iu h 29 (h.1 0 44).toNatClampNeg v2) (fun g10 => vv_ck (g10.1 0 44) 36 (vv_let (vv_iu g10 30 (g10.1 0 44).toNatClampNeg v3) (fun g13 => vv_ck (g13.1 0 44) 36 (vv_let (vv_iu g13 31 (g13.1 0 44).toNatClampNeg v4) (fun g16 => vv_ck (g16.1 0 44) 36 (vv_let (vv_iu g16 32 (g16.1 0 44).toNatClampNeg v1) (fun g19 => vv_ck (g19.1 0 44) 36 (vv_let (vv_iu g19 33 (g19.1 0 44).toNatClampNeg (-4 : Int32)) (fun g22 => vv_ck (g22.1 0 44) 36 (vv_let (vv_iu g22 34 (g22.1 0 44).toNatClampNeg (0 : Int32)) (fun g25 => vv_ck (g25.1 0 44) 36 (vv_let (vv_iu g25 35 (g25.1 0 44).toNatClampNeg (0 : Int32)) (fun g28 => vv_ck (g28.1 0 44) 36 (vv_let (vv_iu g28 36 (g28.1 0 44).toNatClampNeg (0 : Int32)) (fun g31 => vv_ck (g31.1 0 44) 36 (vv_let (vv_iu g31 37 (g31.1 0 44).toNatClampNeg (0 : Int32)) (fun g34 => vv_ck (g34.1 0 44) 36 (vv_let (vv_iu g34 38 (g34.1 0 44).toNatClampNeg (-4 : Int32)) (fun g37 => vv_let (vv_iu g37 0 44 ((g37.1 0 44) + (1 : Int32))) (fun g39 => some (((g39.1 0 44) - (1 : Int32)), g39)))))))))))))))))))))))))))))))
set_option maxHeartbeats 200000 in
theorem vt_X12_piece {x : vv_E} {post : Option Value → vv_H → Prop} {h : vv_H} {v1 : Int32} {v2 : Int32} {v3 : Int32} {v4 : Int32} {o : Int32 × vv_H}  (hm : ff_X12_piece  h v1 v2 v3 v4 = some o) (hp : post (some (.int o.1)) o.2) : vv_V x vv_TR mm_X12_piece post 0 [some (.ref (vv_ad x 0)), some (.int v1), some (.int v2), some (.int v3), some (.int v4)] [] h := by
  unfold ff_X12_piece at hm
  refine rr_aload_n (q := 1) dX12_piece_0 rfl rfl ?_
  refine rr_iload_n (q := 2) dX12_piece_1 rfl rfl ?_
  obtain ⟨r1, k2, hm⟩ := vv_bind hm
  refine rr_callV (q := 5) (M' := mm_X12_isStore) (As := [.int v1]) (st := []) (w := some (.int r1)) (cc_X12_isStore  k2) rfl ylR_0 ynR_0 rfl vy_X12_isStore zw_582 ⟨Nat.le_of_ble_eq_true rfl, Nat.le_of_ble_eq_true rfl⟩ (Nat.le_of_ble_eq_true rfl) dX12_piece_2 rfl ?_
  show vv_V x vv_TR mm_X12_piece post 5 [some (.ref (vv_ad x 0)), some (.int v1), some (.int v2), some (.int v3), some (.int v4)] [.int r1] h
  refine rr_if_eq (q := 8) (tgt := 49) dX12_piece_5 (by decide) rfl hm (fun hm => ?_) (fun hm => ?_)
  · refine rr_iconst (q := 50) (v := -1) dX12_piece_49 rfl (by decide) ?_
    obtain rfl := Option.some.inj hm
    exact rr_iret dX12_piece_50 rfl hp
  · refine rr_iload_n (q := 9) dX12_piece_8 rfl rfl ?_
    refine rr_i2l (q := 10) dX12_piece_9 rfl ?_
    refine rr_lconst (q := 11) (v := 0) dX12_piece_10 rfl (by decide) ?_
    refine rr_aload_n (q := 12) dX12_piece_11 rfl rfl ?_
    refine gf_X12_235 (q := 15) rfl dX12_piece_12 rfl ?_
    refine rr_iconst (q := 16) (v := 1) dX12_piece_15 rfl (by decide) ?_
    refine rr_isub (q := 17) dX12_piece_16 rfl ?_
    refine rr_i2l (q := 18) dX12_piece_17 rfl ?_
    obtain ⟨r3, k4, hm⟩ := vv_bind hm
    refine rr_callS (q := 21) (M' := mm_X12_in) (As := [.long v2.toInt64, .long (0 : Int64), .long (((h.1 0 12) - (1 : Int32)).toInt64)]) (st := []) (w := some (.int r3))  (cc_X12_in  k4) rfl vy_X12_in zw_267 ⟨Nat.le_of_ble_eq_true rfl, Nat.le_of_ble_eq_true rfl⟩ (Nat.le_of_ble_eq_true rfl) dX12_piece_18 rfl ?_
    show vv_V x vv_TR mm_X12_piece post 21 [some (.ref (vv_ad x 0)), some (.int v1), some (.int v2), some (.int v3), some (.int v4)] [.int r3] h
    refine rr_if_eq (q := 24) (tgt := 49) dX12_piece_21 (by decide) rfl hm (fun hm => ?_) (fun hm => ?_)
    · refine rr_iconst (q := 50) (v := -1) dX12_piece_49 rfl (by decide) ?_
      obtain rfl := Option.some.inj hm
      exact rr_iret dX12_piece_50 rfl hp
    · refine rr_iload_n (q := 25) dX12_piece_24 rfl rfl ?_
      refine rr_i2l (q := 26) dX12_piece_25 rfl ?_
      refine rr_lconst (q := 27) (v := 0) dX12_piece_26 rfl (by decide) ?_
      refine rr_ldc2 (q := 30) dX12_piece_27 rfl zw_269 ?_
      obtain ⟨r5, k6, hm⟩ := vv_bind hm
      refine rr_callS (q := 33) (M' := mm_X12_in) (As := [.long v3.toInt64, .long (0 : Int64), .long (5 : Int64)]) (st := []) (w := some (.int r5))  (cc_X12_in  k6) rfl vy_X12_in zw_267 ⟨Nat.le_of_ble_eq_true rfl, Nat.le_of_ble_eq_true rfl⟩ (Nat.le_of_ble_eq_true rfl) dX12_piece_30 rfl ?_
      show vv_V x vv_TR mm_X12_piece post 33 [some (.ref (vv_ad x 0)), some (.int v1), some (.int v2), some (.int v3), some (.int v4)] [.int r5] h
      refine rr_if_eq (q := 36) (tgt := 49) dX12_piece_33 (by decide) rfl hm (fun hm => ?_) (fun hm => ?_)
      · refine rr_iconst (q := 50) (v := -1) dX12_piece_49 rfl (by decide) ?_
        obtain rfl := Option.some.inj hm
        exact rr_iret dX12_piece_50 rfl hp
      · refine rr_iload (q := 38) dX12_piece_36 rfl rfl ?_
        refine rr_i2l (q := 39) dX12_piece_38 rfl ?_
        refine rr_lconst (q := 40) (v := 0) dX12_piece_39 rfl (by decide) ?_
        refine rr_ldc2 (q := 43) dX12_piece_40 rfl zw_583 ?_
        obtain ⟨r7, k8, hm⟩ := vv_bind hm
        refine rr_callS (q := 46) (M' := mm_X12_in) (As := [.long v4.toInt64, .long (0 : Int64), .long (99 : Int64)]) (st := []) (w := some (.int r7))  (cc_X12_in  k8) rfl vy_X12_in zw_267 ⟨Nat.le_of_ble_eq_true rfl, Nat.le_of_ble_eq_true rfl⟩ (Nat.le_of_ble_eq_true rfl) dX12_piece_43 rfl ?_
        show vv_V x vv_TR mm_X12_piece post 46 [some (.ref (vv_ad x 0)), some (.int v1), some (.int v2), some (.int v3), some (.int v4)] [.int r7] h
        refine rr_if_ne (q := 49) (tgt := 51) dX12_piece_46 (by decide) rfl hm (fun hm => ?_) (fun hm => ?_)
        · refine rr_aload_n (q := 52) dX12_piece_51 rfl rfl ?_
          refine gf_X12_232 (q := 55) rfl dX12_piece_52 rfl ?_
          refine rr_bipush (q := 57) (v := 36) dX12_piece_55 rfl (by decide) ?_
          refine rr_icmp_ne (q := 60) (tgt := 63) dX12_piece_57 (by decide) rfl hm (fun hm => ?_) (fun hm => ?_)
          · refine rr_aload_n (q := 64) dX12_piece_63 rfl rfl ?_
            refine gf_X12_94 (q := 67) rfl dX12_piece_64 rfl ?_
            refine rr_aload_n (q := 68) dX12_piece_67 rfl rfl ?_
            refine gf_X12_232 (q := 71) rfl dX12_piece_68 rfl ?_
            refine rr_iload_n (q := 72) dX12_piece_71 rfl rfl ?_
            obtain ⟨c9, hm⟩ := vv_ck_of hm
            obtain ⟨g10, c11, hm⟩ := vv_let_of hm
            refine rr_iast (q := 73) ylR_29 ynR_29 c9 dX12_piece_72 rfl ?_
            rw [← c11]
            refine rr_aload_n (q := 74) dX12_piece_73 rfl rfl ?_
            refine gf_X12_97 (q := 77) rfl dX12_piece_74 rfl ?_
            refine rr_aload_n (q := 78) dX12_piece_77 rfl rfl ?_
            refine gf_X12_232 (q := 81) rfl dX12_piece_78 rfl ?_
            refine rr_iload_n (q := 82) dX12_piece_81 rfl rfl ?_
            obtain ⟨c12, hm⟩ := vv_ck_of hm
            obtain ⟨g13, c14, hm⟩ := vv_let_of hm
            refine rr_iast (q := 83) ylR_30 ynR_30 c12 dX12_piece_82 rfl ?_
            rw [← c14]
            refine rr_aload_n (q := 84) dX12_piece_83 rfl rfl ?_
            refine gf_X12_100 (q := 87) rfl dX12_piece_84 rfl ?_
            refine rr_aload_n (q := 88) dX12_piece_87 rfl rfl ?_
            refine gf_X12_232 (q := 91) rfl dX12_piece_88 rfl ?_
            refine rr_iload (q := 93) dX12_piece_91 rfl rfl ?_
            obtain ⟨c15, hm⟩ := vv_ck_of hm
            obtain ⟨g16, c17, hm⟩ := vv_let_of hm
            refine rr_iast (q := 94) ylR_31 ynR_31 c15 dX12_piece_93 rfl ?_
            rw [← c17]
            refine rr_aload_n (q := 95) dX12_piece_94 rfl rfl ?_
            refine gf_X12_103 (q := 98) rfl dX12_piece_95 rfl ?_
            refine rr_aload_n (q := 99) dX12_piece_98 rfl rfl ?_
            refine gf_X12_232 (q := 102) rfl dX12_piece_99 rfl ?_
            refine rr_iload_n (q := 103) dX12_piece_102 rfl rfl ?_
            obtain ⟨c18, hm⟩ := vv_ck_of hm
            obtain ⟨g19, c20, hm⟩ := vv_let_of hm
            refine rr_iast (q := 104) ylR_32 ynR_32 c18 dX12_piece_103 rfl ?_
            rw [← c20]
            refine rr_aload_n (q := 105) dX12_piece_104 rfl rfl ?_
            refine gf_X12_106 (q := 108) rfl dX12_piece_105 rfl ?_
            refine rr_aload_n (q := 109) dX12_piece_108 rfl rfl ?_
            refine gf_X12_232 (q := 112) rfl dX12_piece_109 rfl ?_
            refine rr_bipush (q := 114) (v := -4) dX12_piece_112 rfl (by decide) ?_
            obtain ⟨c21, hm⟩ := vv_ck_of hm
            obtain ⟨g22, c23, hm⟩ := vv_let_of hm
            refine rr_iast (q := 115) ylR_33 ynR_33 c21 dX12_piece_114 rfl ?_
            rw [← c23]
            refine rr_aload_n (q := 116) dX12_piece_115 rfl rfl ?_
            refine gf_X12_109 (q := 119) rfl dX12_piece_116 rfl ?_
            refine rr_aload_n (q := 120) dX12_piece_119 rfl rfl ?_
            refine gf_X12_232 (q := 123) rfl dX12_piece_120 rfl ?_
            refine rr_iconst (q := 124) (v := 0) dX12_piece_123 rfl (by decide) ?_
            obtain ⟨c24, hm⟩ := vv_ck_of hm
            obtain ⟨g25, c26, hm⟩ := vv_let_of hm
            refine rr_iast (q := 125) ylR_34 ynR_34 c24 dX12_piece_124 rfl ?_
            rw [← c26]
            refine rr_aload_n (q := 126) dX12_piece_125 rfl rfl ?_
            refine gf_X12_112 (q := 129) rfl dX12_piece_126 rfl ?_
            refine rr_aload_n (q := 130) dX12_piece_129 rfl rfl ?_
            refine gf_X12_232 (q := 133) rfl dX12_piece_130 rfl ?_
            refine rr_iconst (q := 134) (v := 0) dX12_piece_133 rfl (by decide) ?_
            obtain ⟨c27, hm⟩ := vv_ck_of hm
            obtain ⟨g28, c29, hm⟩ := vv_let_of hm
            refine rr_iast (q := 135) ylR_35 ynR_35 c27 dX12_piece_134 rfl ?_
            rw [← c29]
            refine rr_aload_n (q := 136) dX12_piece_135 rfl rfl ?_
            refine gf_X12_115 (q := 139) rfl dX12_piece_136 rfl ?_
            refine rr_aload_n (q := 140) dX12_piece_139 rfl rfl ?_
            refine gf_X12_232 (q := 143) rfl dX12_piece_140 rfl ?_
            refine rr_iconst (q := 144) (v := 0) dX12_piece_143 rfl (by decide) ?_
            obtain ⟨c30, hm⟩ := vv_ck_of hm
            obtain ⟨g31, c32, hm⟩ := vv_let_of hm
            refine rr_iast (q := 145) ylR_36 ynR_36 c30 dX12_piece_144 rfl ?_
            rw [← c32]
            refine rr_aload_n (q := 146) dX12_piece_145 rfl rfl ?_
            refine gf_X12_118 (q := 149) rfl dX12_piece_146 rfl ?_
            refine rr_aload_n (q := 150) dX12_piece_149 rfl rfl ?_
            refine gf_X12_232 (q := 153) rfl dX12_piece_150 rfl ?_
            refine rr_iconst (q := 154) (v := 0) dX12_piece_153 rfl (by decide) ?_
            obtain ⟨c33, hm⟩ := vv_ck_of hm
            obtain ⟨g34, c35, hm⟩ := vv_let_of hm
            refine rr_iast (q := 155) ylR_37 ynR_37 c33 dX12_piece_154 rfl ?_
            rw [← c35]
            refine rr_aload_n (q := 156) dX12_piece_155 rfl rfl ?_
            refine gf_X12_121 (q := 159) rfl dX12_piece_156 rfl ?_
            refine rr_aload_n (q := 160) dX12_piece_159 rfl rfl ?_
            refine gf_X12_232 (q := 163) rfl dX12_piece_160 rfl ?_
            refine rr_bipush (q := 165) (v := -4) dX12_piece_163 rfl (by decide) ?_
            obtain ⟨c36, hm⟩ := vv_ck_of hm
            obtain ⟨g37, c38, hm⟩ := vv_let_of hm
            refine rr_iast (q := 166) ylR_38 ynR_38 c36 dX12_piece_165 rfl ?_
            rw [← c38]
            refine rr_aload_n (q := 167) dX12_piece_166 rfl rfl ?_
            refine rr_dup (q := 168) dX12_piece_167 rfl rfl ?_
            refine gf_X12_232 (q := 171) rfl dX12_piece_168 rfl ?_
            refine rr_iconst (q := 172) (v := 1) dX12_piece_171 rfl (by decide) ?_
            refine rr_iadd (q := 173) dX12_piece_172 rfl ?_
            refine pf_X12_232 (q := 176) rfl dX12_piece_173 rfl (fun g39 c40 => ?_)
            replace hm := vv_letE hm c40
            refine rr_aload_n (q := 177) dX12_piece_176 rfl rfl ?_
            refine gf_X12_232 (q := 180) rfl dX12_piece_177 rfl ?_
            refine rr_iconst (q := 181) (v := 1) dX12_piece_180 rfl (by decide) ?_
            refine rr_isub (q := 182) dX12_piece_181 rfl ?_
            obtain rfl := Option.some.inj hm
            exact rr_iret dX12_piece_182 rfl hp
          · refine rr_bipush (q := 62) (v := -3) dX12_piece_60 rfl (by decide) ?_
            obtain rfl := Option.some.inj hm
            exact rr_iret dX12_piece_62 rfl hp
        · refine rr_iconst (q := 50) (v := -1) dX12_piece_49 rfl (by decide) ?_
          obtain rfl := Option.some.inj hm
          exact rr_iret dX12_piece_50 rfl hp
theorem cc_X12_piece {x : vv_E} {h : vv_H} {v1 : Int32} {v2 : Int32} {v3 : Int32} {v4 : Int32} {o : Int32 × vv_H}  (hm : ff_X12_piece h v1 v2 v3 v4 = some o) : vv_C x vv_TR yX12_piece mm_X12_piece [.ref (vv_ad x 0), .int v1, .int v2, .int v3, .int v4] h (fun v g => v = some (.int o.1) ∧ g = o.2) := vv_entry (by decide +kernel) rfl (Nat.le_of_ble_eq_true rfl) rfl (vt_X12_piece  hm ⟨rfl, rfl⟩)
