def ff_X7_renew (h : vv_H) (v1 : Int32) (v2 : Int32) (v3 : Int32) : Option (vv_H) := vv_ck v1 4 (vv_let (vv_iu h 177 v1.toNatClampNeg v2) (fun g2 => vv_ck v1 4 (vv_let (vv_iu g2 178 v1.toNatClampNeg v3) (fun g5 => vv_ck v1 4 ((ff_J7_fill_53178 g5 (180 + v1.toNatClampNeg) 60 (0 : Int32)).bind (fun r8 => some r8))))))
set_option maxHeartbeats 200000 in
theorem vt_X7_renew {x : vv_E} {post : Option Value → vv_H → Prop} {h : vv_H} {v1 : Int32} {v2 : Int32} {v3 : Int32} {o : vv_H}  (hm : ff_X7_renew  h v1 v2 v3 = some o) (hp : post none o) : vv_V x vv_TC mm_X7_renew post 0 [some (.ref (vv_ad x 176)), some (.int v1), some (.int v2), some (.int v3)] [] h := by
  unfold ff_X7_renew at hm
  refine rr_aload_n (q := 1) dX7_renew_0 rfl rfl ?_
  refine gf_X7_9 (q := 4) rfl dX7_renew_1 rfl ?_
  refine rr_iload_n (q := 5) dX7_renew_4 rfl rfl ?_
  refine rr_iload_n (q := 6) dX7_renew_5 rfl rfl ?_
  obtain ⟨c1, hm⟩ := vv_ck_of hm
  obtain ⟨g2, c3, hm⟩ := vv_let_of hm
  refine rr_iast (q := 7) ylC_177 ynC_177 c1 dX7_renew_6 rfl ?_
  rw [← c3]
  refine rr_aload_n (q := 8) dX7_renew_7 rfl rfl ?_
  refine gf_X7_15 (q := 11) rfl dX7_renew_8 rfl ?_
  refine rr_iload_n (q := 12) dX7_renew_11 rfl rfl ?_
  refine rr_iload_n (q := 13) dX7_renew_12 rfl rfl ?_
  obtain ⟨c4, hm⟩ := vv_ck_of hm
  obtain ⟨g5, c6, hm⟩ := vv_let_of hm
  refine rr_iast (q := 14) ylC_178 ynC_178 c4 dX7_renew_13 rfl ?_
  rw [← c6]
  refine rr_aload_n (q := 15) dX7_renew_14 rfl rfl ?_
  refine gf_X7_20 (q := 18) rfl dX7_renew_15 rfl ?_
  refine rr_iload_n (q := 19) dX7_renew_18 rfl rfl ?_
  obtain ⟨c7, hm⟩ := vv_ck_of hm
  refine rr_aald (q := 20) ylC_179 ynC_179 c7 dX7_renew_19 rfl ?_
  refine rr_iconst (q := 21) (v := 0) dX7_renew_20 rfl (by decide) ?_
  obtain ⟨r8, k9, hm⟩ := vv_bind hm
  refine rr_callS (q := 24) (M' := mm_J7_fill_53178) (As := [.ref (vv_ad x (180 + v1.toNatClampNeg)), .int (0 : Int32)]) (st := []) (w := none)  (cc_J7_fill_53178 (ywC_179 c7).1 (ywC_179 c7).2 k9) rfl vy_J7_fill_53178 zw_197 ⟨Nat.le_of_ble_eq_true rfl, Nat.le_of_ble_eq_true rfl⟩ (Nat.le_of_ble_eq_true rfl) dX7_renew_21 rfl ?_
  show vv_V x vv_TC mm_X7_renew post 24 [some (.ref (vv_ad x 176)), some (.int v1), some (.int v2), some (.int v3)] [] r8
  obtain rfl := Option.some.inj hm
  exact rr_vret dX7_renew_24 rfl hp
theorem cc_X7_renew {x : vv_E} {h : vv_H} {v1 : Int32} {v2 : Int32} {v3 : Int32} {o : vv_H}  (hm : ff_X7_renew h v1 v2 v3 = some o) : vv_C x vv_TC yX7_renew mm_X7_renew [.ref (vv_ad x 176), .int v1, .int v2, .int v3] h (fun v g => v = none ∧ g = o) := vv_entry (by decide +kernel) rfl (Nat.le_of_ble_eq_true rfl) rfl (vt_X7_renew  hm ⟨rfl, rfl⟩)
def ff_X8_outside (h : vv_H) (v1 : Int32) (v2 : Int32) (v3 : Int32) : Option (Int32) := vv_ck v1 12 (vv_ck v2 3 (vv_ck v1 12 (vv_ck v2 3 (some (if (0 : Int32) < (if ((h.1 (25 + v1.toNatClampNeg) v2.toNatClampNeg) - v3) < (v3 - (h.1 (38 + v1.toNatClampNeg) v2.toNatClampNeg)) then (v3 - (h.1 (38 + v1.toNatClampNeg) v2.toNatClampNeg)) else ((h.1 (25 + v1.toNatClampNeg) v2.toNatClampNeg) - v3)) then (if ((h.1 (25 + v1.toNatClampNeg) v2.toNatClampNeg) - v3) < (v3 - (h.1 (38 + v1.toNatClampNeg) v2.toNatClampNeg)) then (v3 - (h.1 (38 + v1.toNatClampNeg) v2.toNatClampNeg)) else ((h.1 (25 + v1.toNatClampNeg) v2.toNatClampNeg) - v3)) else (0 : Int32))))))
set_option maxHeartbeats 200000 in
theorem vt_X8_outside {x : vv_E} {post : Option Value → vv_H → Prop} {h : vv_H} {v1 : Int32} {v2 : Int32} {v3 : Int32} {o : Int32}  (hm : ff_X8_outside  h v1 v2 v3 = some o) (hp : post (some (.int o)) h) : vv_V x vv_TC mm_X8_outside post 0 [some (.ref (vv_ad x 22)), some (.int v1), some (.int v2), some (.int v3)] [] h := by
  unfold ff_X8_outside at hm
  refine rr_iconst (q := 1) (v := 0) dX8_outside_0 rfl (by decide) ?_
  refine rr_aload_n (q := 2) dX8_outside_1 rfl rfl ?_
  refine gf_X8_17 (q := 5) rfl dX8_outside_2 rfl ?_
  refine rr_iload_n (q := 6) dX8_outside_5 rfl rfl ?_
  obtain ⟨c1, hm⟩ := vv_ck_of hm
  refine rr_aald (q := 7) ylC_24 ynC_24 c1 dX8_outside_6 rfl ?_
  refine rr_iload_n (q := 8) dX8_outside_7 rfl rfl ?_
  obtain ⟨c2, hm⟩ := vv_ck_of hm
  refine rr_iald (q := 9) (ywC_24 c1).1 (ywC_24 c1).2 c2 dX8_outside_8 rfl ?_
  refine rr_iload_n (q := 10) dX8_outside_9 rfl rfl ?_
  refine rr_isub (q := 11) dX8_outside_10 rfl ?_
  refine rr_iload_n (q := 12) dX8_outside_11 rfl rfl ?_
  refine rr_aload_n (q := 13) dX8_outside_12 rfl rfl ?_
  refine gf_X8_20 (q := 16) rfl dX8_outside_13 rfl ?_
  refine rr_iload_n (q := 17) dX8_outside_16 rfl rfl ?_
  obtain ⟨c3, hm⟩ := vv_ck_of hm
  refine rr_aald (q := 18) ylC_37 ynC_37 c3 dX8_outside_17 rfl ?_
  refine rr_iload_n (q := 19) dX8_outside_18 rfl rfl ?_
  obtain ⟨c4, hm⟩ := vv_ck_of hm
  refine rr_iald (q := 20) (ywC_37 c3).1 (ywC_37 c3).2 c4 dX8_outside_19 rfl ?_
  refine rr_isub (q := 21) dX8_outside_20 rfl ?_
  refine rr_mmax (q := 24) zw_198 zw_199 zw_126 zw_200 (Nat.le_of_ble_eq_true rfl) (Nat.le_of_ble_eq_true rfl) dX8_outside_21 rfl ?_
  refine rr_mmax (q := 27) zw_198 zw_199 zw_126 zw_200 (Nat.le_of_ble_eq_true rfl) (Nat.le_of_ble_eq_true rfl) dX8_outside_24 rfl ?_
  obtain rfl := Option.some.inj hm
  exact rr_iret dX8_outside_27 rfl hp
theorem cc_X8_outside {x : vv_E} {h : vv_H} {v1 : Int32} {v2 : Int32} {v3 : Int32} {o : Int32}  (hm : ff_X8_outside h v1 v2 v3 = some o) : vv_C x vv_TC yX8_outside mm_X8_outside [.ref (vv_ad x 22), .int v1, .int v2, .int v3] h (fun v g => v = some (.int o) ∧ g = h) := vv_entry (by decide +kernel) rfl (Nat.le_of_ble_eq_true rfl) rfl (vt_X8_outside  hm ⟨rfl, rfl⟩)
def ff_X9_weigh (h : vv_H) (v1 : Int32) (v2 : Int32) (v3 : Int32) : Option (vv_H) := vv_ck v1 4 (vv_let (vv_iu h 154 v1.toNatClampNeg (if (0 : Int32) < (v2 - v3) then (v2 - v3) else (0 : Int32))) (fun g2 => vv_ck v1 4 (vv_let (vv_iu g2 155 v1.toNatClampNeg (if (0 : Int32) < (v3 - v2) then (v3 - v2) else (0 : Int32))) (fun g5 => some g5))))
set_option maxHeartbeats 200000 in
theorem vt_X9_weigh {x : vv_E} {post : Option Value → vv_H → Prop} {h : vv_H} {v1 : Int32} {v2 : Int32} {v3 : Int32} {o : vv_H}  (hm : ff_X9_weigh  h v1 v2 v3 = some o) (hp : post none o) : vv_V x vv_TC mm_X9_weigh post 0 [some (.ref (vv_ad x 146)), some (.int v1), some (.int v2), some (.int v3)] [] h := by
  unfold ff_X9_weigh at hm
  refine rr_aload_n (q := 1) dX9_weigh_0 rfl rfl ?_
  refine gf_X9_23 (q := 4) rfl dX9_weigh_1 rfl ?_
  refine rr_iload_n (q := 5) dX9_weigh_4 rfl rfl ?_
  refine rr_iconst (q := 6) (v := 0) dX9_weigh_5 rfl (by decide) ?_
  refine rr_iload_n (q := 7) dX9_weigh_6 rfl rfl ?_
  refine rr_iload_n (q := 8) dX9_weigh_7 rfl rfl ?_
  refine rr_isub (q := 9) dX9_weigh_8 rfl ?_
  refine rr_mmax (q := 12) zw_201 zw_199 zw_126 zw_200 (Nat.le_of_ble_eq_true rfl) (Nat.le_of_ble_eq_true rfl) dX9_weigh_9 rfl ?_
  obtain ⟨c1, hm⟩ := vv_ck_of hm
  obtain ⟨g2, c3, hm⟩ := vv_let_of hm
  refine rr_iast (q := 13) ylC_154 ynC_154 c1 dX9_weigh_12 rfl ?_
  rw [← c3]
  refine rr_aload_n (q := 14) dX9_weigh_13 rfl rfl ?_
  refine gf_X9_26 (q := 17) rfl dX9_weigh_14 rfl ?_
  refine rr_iload_n (q := 18) dX9_weigh_17 rfl rfl ?_
  refine rr_iconst (q := 19) (v := 0) dX9_weigh_18 rfl (by decide) ?_
  refine rr_iload_n (q := 20) dX9_weigh_19 rfl rfl ?_
  refine rr_iload_n (q := 21) dX9_weigh_20 rfl rfl ?_
  refine rr_isub (q := 22) dX9_weigh_21 rfl ?_
  refine rr_mmax (q := 25) zw_201 zw_199 zw_126 zw_200 (Nat.le_of_ble_eq_true rfl) (Nat.le_of_ble_eq_true rfl) dX9_weigh_22 rfl ?_
  obtain ⟨c4, hm⟩ := vv_ck_of hm
  obtain ⟨g5, c6, hm⟩ := vv_let_of hm
  refine rr_iast (q := 26) ylC_155 ynC_155 c4 dX9_weigh_25 rfl ?_
  rw [← c6]
  obtain rfl := Option.some.inj hm
  exact rr_vret dX9_weigh_26 rfl hp
theorem cc_X9_weigh {x : vv_E} {h : vv_H} {v1 : Int32} {v2 : Int32} {v3 : Int32} {o : vv_H}  (hm : ff_X9_weigh h v1 v2 v3 = some o) : vv_C x vv_TC yX9_weigh mm_X9_weigh [.ref (vv_ad x 146), .int v1, .int v2, .int v3] h (fun v g => v = none ∧ g = o) := vv_entry (by decide +kernel) rfl (Nat.le_of_ble_eq_true rfl) rfl (vt_X9_weigh  hm ⟨rfl, rfl⟩)
def ff_X9_movedBetween (h : vv_H) (v1 : Int32) (v2 : Int32) : Option (Int32) := (ff_X9_laneOf v1 v2).bind (fun r1 => vv_ck r1 16 (some (h.1 152 r1.toNatClampNeg)))
set_option maxHeartbeats 200000 in
theorem vt_X9_movedBetween {x : vv_E} {post : Option Value → vv_H → Prop} {h : vv_H} {v1 : Int32} {v2 : Int32} {o : Int32}  (hm : ff_X9_movedBetween  h v1 v2 = some o) (hp : post (some (.int o)) h) : vv_V x vv_TC mm_X9_movedBetween post 0 [some (.ref (vv_ad x 146)), some (.int v1), some (.int v2)] [] h := by
  unfold ff_X9_movedBetween at hm
  refine rr_aload_n (q := 1) dX9_movedBetween_0 rfl rfl ?_
  refine gf_X9_16 (q := 4) rfl dX9_movedBetween_1 rfl ?_
  refine rr_iload_n (q := 5) dX9_movedBetween_4 rfl rfl ?_
  refine rr_iload_n (q := 6) dX9_movedBetween_5 rfl rfl ?_
  obtain ⟨r1, k2, hm⟩ := vv_bind hm
  refine rr_callS (q := 9) (M' := mm_X9_laneOf) (As := [.int v1, .int v2]) (st := [.ref (vv_ad x 152)]) (w := some (.int r1))  (cc_X9_laneOf  k2) rfl vy_X9_laneOf zw_206 ⟨Nat.le_of_ble_eq_true rfl, Nat.le_of_ble_eq_true rfl⟩ (Nat.le_of_ble_eq_true rfl) dX9_movedBetween_6 rfl ?_
  show vv_V x vv_TC mm_X9_movedBetween post 9 [some (.ref (vv_ad x 146)), some (.int v1), some (.int v2)] [.int r1, .ref (vv_ad x 152)] h
  obtain ⟨c3, hm⟩ := vv_ck_of hm
  refine rr_iald (q := 10) ylC_152 ynC_152 c3 dX9_movedBetween_9 rfl ?_
  obtain rfl := Option.some.inj hm
  exact rr_iret dX9_movedBetween_10 rfl hp
theorem cc_X9_movedBetween {x : vv_E} {h : vv_H} {v1 : Int32} {v2 : Int32} {o : Int32}  (hm : ff_X9_movedBetween h v1 v2 = some o) : vv_C x vv_TC yX9_movedBetween mm_X9_movedBetween [.ref (vv_ad x 146), .int v1, .int v2] h (fun v g => v = some (.int o) ∧ g = h) := vv_entry (by decide +kernel) rfl (Nat.le_of_ble_eq_true rfl) rfl (vt_X9_movedBetween  hm ⟨rfl, rfl⟩)
def ff_X10_runBehind_J51  (u2 : Int32) (u3 : Int32) (m4 : Int32) (h : vv_H) : Option ((Int32) ⊕ ((Int32))) := (if u3 = 0 then some (.inr m4) else vv_ck m4 240 ((ff_X10_isFigure (h.1 51 m4.toNatClampNeg)).bind (fun r8 => (if r8 = 0 then some (.inr m4) else vv_let (m4 + 1) (fun w10 => some (.inl w10))))))
def ff_X10_runBehind_B25 (u2 : Int32) (u3 : Int32) (h : vv_H) (s4 : Int32) : Option ((Int32) ⊕ ((Int32))) := (if (h.1 50 0) ≤ s4 then some (.inr s4) else (if u2 = 0 then ff_X10_runBehind_J51  u2 u3 s4 h else vv_ck s4 240 ((ff_X10_isLetter (h.1 51 s4.toNatClampNeg)).bind (fun r13 => (if r13 = 0 then ff_X10_runBehind_J51  u2 u3 s4 h else vv_let (s4 + 1) (fun w15 => some (.inl w15)))))))
def ff_X10_runBehind (h : vv_H) (v1 : Int32) : Option (Int32) := vv_ck v1 240 ((ff_X10_isLetter (h.1 51 v1.toNatClampNeg)).bind (fun r2 => vv_ck v1 240 ((ff_X10_isFigure (h.1 51 v1.toNatClampNeg)).bind (fun r5 => (vv_lp (fun (zs : Int32) => ff_X10_runBehind_B25  r2 r5 h zs) vv_F (v1 + (1 : Int32))).bind (fun (e18 : (Int32)) => some e18)))))
set_option maxHeartbeats 200000 in
theorem vt_X10_runBehind_J51 {x : vv_E} {post : Option Value → vv_H → Prop}   {u2 : Int32} {u3 : Int32} {m4 : Int32} {h : vv_H} {o : (Int32) ⊕ ((Int32))}  (hm : ff_X10_runBehind_J51  u2 u3 m4 h = some o) (hI : ∀ (z4 : Int32) , o = .inl z4 → vv_V x vv_TC mm_X10_runBehind post 25 [some (.ref (vv_ad x 50)), none, some (.int u2), some (.int u3), some (.int z4)] [] h) (hX0 : ∀ (z4 : Int32), o = .inr z4 → vv_V x vv_TC mm_X10_runBehind post 74 [none, none, none, none, some (.int z4)] [] h) : vv_V x vv_TC mm_X10_runBehind post 51 [some (.ref (vv_ad x 50)), none, some (.int u2), some (.int u3), some (.int m4)] [] h := by
  unfold ff_X10_runBehind_J51 at hm
  refine rr_iload_n (q := 52) dX10_runBehind_51 rfl rfl ?_
  refine rr_if_eq (q := 55) (tgt := 74) dX10_runBehind_52 (by decide) rfl hm (fun hm => ?_) (fun hm => ?_)
  · obtain rfl := Option.some.inj hm
    refine rr_sub [false, false, false, false, true] rfl ?_
    exact hX0 m4 rfl
  · refine rr_aload_n (q := 56) dX10_runBehind_55 rfl rfl ?_
    refine gf_X10_9 (q := 59) rfl dX10_runBehind_56 rfl ?_
    refine rr_iload (q := 61) dX10_runBehind_59 rfl rfl ?_
    obtain ⟨c7, hm⟩ := vv_ck_of hm
    refine rr_bald (q := 62) ylC_51 ynC_51 c7 dX10_runBehind_61 rfl ?_
    obtain ⟨r8, k9, hm⟩ := vv_bind hm
    refine rr_callS (q := 65) (M' := mm_X10_isFigure) (As := [.int (h.1 51 m4.toNatClampNeg)]) (st := []) (w := some (.int r8))  (cc_X10_isFigure  k9) rfl vy_X10_isFigure zw_214 ⟨Nat.le_of_ble_eq_true rfl, Nat.le_of_ble_eq_true rfl⟩ (Nat.le_of_ble_eq_true rfl) dX10_runBehind_62 rfl ?_
    show vv_V x vv_TC mm_X10_runBehind post 65 [some (.ref (vv_ad x 50)), none, some (.int u2), some (.int u3), some (.int m4)] [.int r8] h
    refine rr_if_eq (q := 68) (tgt := 74) dX10_runBehind_65 (by decide) rfl hm (fun hm => ?_) (fun hm => ?_)
    · obtain rfl := Option.some.inj hm
      refine rr_sub [false, false, false, false, true] rfl ?_
      exact hX0 m4 rfl
    · obtain ⟨w10, c11, hm⟩ := vv_let_of hm
      refine rr_iinc (q := 71) [some (.ref (vv_ad x 50)), none, some (.int u2), some (.int u3), some (.int w10)] dX10_runBehind_68 rfl rfl c11.symm (Nat.le_of_ble_eq_true rfl) rfl rfl ?_
      refine rr_goto (tgt := 25) dX10_runBehind_71 (by decide) ?_
      obtain rfl := Option.some.inj hm
      exact hI w10 rfl
set_option maxHeartbeats 200000 in
theorem vt_X10_runBehind_B25 {x : vv_E} {post : Option Value → vv_H → Prop} {u2 : Int32} {u3 : Int32} {h : vv_H} {s4 : Int32} {o : (Int32) ⊕ ((Int32))}  (hm : ff_X10_runBehind_B25  u2 u3 h s4 = some o) (hI : ∀ (z4 : Int32) , o = .inl z4 → vv_V x vv_TC mm_X10_runBehind post 25 [some (.ref (vv_ad x 50)), none, some (.int u2), some (.int u3), some (.int z4)] [] h) (hX0 : ∀ (z4 : Int32), o = .inr z4 → vv_V x vv_TC mm_X10_runBehind post 74 [none, none, none, none, some (.int z4)] [] h) : vv_V x vv_TC mm_X10_runBehind post 25 [some (.ref (vv_ad x 50)), none, some (.int u2), some (.int u3), some (.int s4)] [] h := by
  unfold ff_X10_runBehind_B25 at hm
  refine rr_iload (q := 27) dX10_runBehind_25 rfl rfl ?_
  refine rr_aload_n (q := 28) dX10_runBehind_27 rfl rfl ?_
  refine gf_X10_25 (q := 31) rfl dX10_runBehind_28 rfl ?_
  refine rr_icmp_ge (q := 34) (tgt := 74) dX10_runBehind_31 (by decide) rfl hm (fun hm => ?_) (fun hm => ?_)
  · obtain rfl := Option.some.inj hm
    refine rr_sub [false, false, false, false, true] rfl ?_
    exact hX0 s4 rfl
  · refine rr_iload_n (q := 35) dX10_runBehind_34 rfl rfl ?_
    refine rr_if_eq (q := 38) (tgt := 51) dX10_runBehind_35 (by decide) rfl hm (fun hm => ?_) (fun hm => ?_)
    · exact vt_X10_runBehind_J51  hm hI hX0
    · refine rr_aload_n (q := 39) dX10_runBehind_38 rfl rfl ?_
      refine gf_X10_9 (q := 42) rfl dX10_runBehind_39 rfl ?_
      refine rr_iload (q := 44) dX10_runBehind_42 rfl rfl ?_
      obtain ⟨c12, hm⟩ := vv_ck_of hm
      refine rr_bald (q := 45) ylC_51 ynC_51 c12 dX10_runBehind_44 rfl ?_
      obtain ⟨r13, k14, hm⟩ := vv_bind hm
      refine rr_callS (q := 48) (M' := mm_X10_isLetter) (As := [.int (h.1 51 s4.toNatClampNeg)]) (st := []) (w := some (.int r13))  (cc_X10_isLetter  k14) rfl vy_X10_isLetter zw_210 ⟨Nat.le_of_ble_eq_true rfl, Nat.le_of_ble_eq_true rfl⟩ (Nat.le_of_ble_eq_true rfl) dX10_runBehind_45 rfl ?_
      show vv_V x vv_TC mm_X10_runBehind post 48 [some (.ref (vv_ad x 50)), none, some (.int u2), some (.int u3), some (.int s4)] [.int r13] h
      refine rr_if_ne (q := 51) (tgt := 68) dX10_runBehind_48 (by decide) rfl hm (fun hm => ?_) (fun hm => ?_)
      · obtain ⟨w15, c16, hm⟩ := vv_let_of hm
        refine rr_iinc (q := 71) [some (.ref (vv_ad x 50)), none, some (.int u2), some (.int u3), some (.int w15)] dX10_runBehind_68 rfl rfl c16.symm (Nat.le_of_ble_eq_true rfl) rfl rfl ?_
        refine rr_goto (tgt := 25) dX10_runBehind_71 (by decide) ?_
        obtain rfl := Option.some.inj hm
        exact hI w15 rfl
      · exact vt_X10_runBehind_J51  hm hI hX0
set_option maxHeartbeats 200000 in
theorem vt_X10_runBehind {x : vv_E} {post : Option Value → vv_H → Prop} {h : vv_H} {v1 : Int32} {o : Int32}  (hm : ff_X10_runBehind  h v1 = some o) (hp : post (some (.int o)) h) : vv_V x vv_TC mm_X10_runBehind post 0 [some (.ref (vv_ad x 50)), some (.int v1), none, none, none] [] h := by
  unfold ff_X10_runBehind at hm
  refine rr_aload_n (q := 1) dX10_runBehind_0 rfl rfl ?_
  refine gf_X10_9 (q := 4) rfl dX10_runBehind_1 rfl ?_
  refine rr_iload_n (q := 5) dX10_runBehind_4 rfl rfl ?_
  obtain ⟨c1, hm⟩ := vv_ck_of hm
  refine rr_bald (q := 6) ylC_51 ynC_51 c1 dX10_runBehind_5 rfl ?_
  obtain ⟨r2, k3, hm⟩ := vv_bind hm
  refine rr_callS (q := 9) (M' := mm_X10_isLetter) (As := [.int (h.1 51 v1.toNatClampNeg)]) (st := []) (w := some (.int r2))  (cc_X10_isLetter  k3) rfl vy_X10_isLetter zw_210 ⟨Nat.le_of_ble_eq_true rfl, Nat.le_of_ble_eq_true rfl⟩ (Nat.le_of_ble_eq_true rfl) dX10_runBehind_6 rfl ?_
  show vv_V x vv_TC mm_X10_runBehind post 9 [some (.ref (vv_ad x 50)), some (.int v1), none, none, none] [.int r2] h
  refine rr_istore_n (q := 10) [some (.ref (vv_ad x 50)), some (.int v1), some (.int r2), none, none] dX10_runBehind_9 rfl rfl (Nat.le_of_ble_eq_true rfl) rfl rfl ?_
  refine rr_aload_n (q := 11) dX10_runBehind_10 rfl rfl ?_
  refine gf_X10_9 (q := 14) rfl dX10_runBehind_11 rfl ?_
  refine rr_iload_n (q := 15) dX10_runBehind_14 rfl rfl ?_
  obtain ⟨c4, hm⟩ := vv_ck_of hm
  refine rr_bald (q := 16) ylC_51 ynC_51 c4 dX10_runBehind_15 rfl ?_
  obtain ⟨r5, k6, hm⟩ := vv_bind hm
  refine rr_callS (q := 19) (M' := mm_X10_isFigure) (As := [.int (h.1 51 v1.toNatClampNeg)]) (st := []) (w := some (.int r5))  (cc_X10_isFigure  k6) rfl vy_X10_isFigure zw_214 ⟨Nat.le_of_ble_eq_true rfl, Nat.le_of_ble_eq_true rfl⟩ (Nat.le_of_ble_eq_true rfl) dX10_runBehind_16 rfl ?_
  show vv_V x vv_TC mm_X10_runBehind post 19 [some (.ref (vv_ad x 50)), some (.int v1), some (.int r2), none, none] [.int r5] h
  refine rr_istore_n (q := 20) [some (.ref (vv_ad x 50)), some (.int v1), some (.int r2), some (.int r5), none] dX10_runBehind_19 rfl rfl (Nat.le_of_ble_eq_true rfl) rfl rfl ?_
  refine rr_iload_n (q := 21) dX10_runBehind_20 rfl rfl ?_
  refine rr_iconst (q := 22) (v := 1) dX10_runBehind_21 rfl (by decide) ?_
  refine rr_iadd (q := 23) dX10_runBehind_22 rfl ?_
  refine rr_istore (q := 25) [some (.ref (vv_ad x 50)), some (.int v1), some (.int r2), some (.int r5), some (.int (v1 + (1 : Int32)))] dX10_runBehind_23 rfl (Nat.le_of_ble_eq_true rfl) rfl rfl ?_
  refine rr_sub [true, false, true, true, true] rfl ?_
  obtain ⟨r17, k19, hm⟩ := vv_bind hm
  refine vv_lp_link (P := fun (zs : Int32) => vv_V x vv_TC mm_X10_runBehind post 25 [some (.ref (vv_ad x 50)), none, some (.int r2), some (.int r5), some (.int zs)] [] h) (Q := (fun (e18 : (Int32)) => vv_V x vv_TC mm_X10_runBehind post 74 [none, none, none, none, some (.int e18)] [] h)) (fun zs o hm hI hX => ?_) vv_F (v1 + (1 : Int32)) r17 k19 ?_
  · exact vt_X10_runBehind_B25   hm (fun z4 e => hI z4 e) (fun z4 e => hX z4 e)
  · generalize r17 = e18 at hm ⊢
    try dsimp only [Sum.elim_inl, Sum.elim_inr] at hm
    try dsimp only [Sum.elim_inl, Sum.elim_inr]
    refine rr_iload (q := 76) dX10_runBehind_74 rfl rfl ?_
    obtain rfl := Option.some.inj hm
    exact rr_iret dX10_runBehind_76 rfl hp
theorem cc_X10_runBehind {x : vv_E} {h : vv_H} {v1 : Int32} {o : Int32}  (hm : ff_X10_runBehind h v1 = some o) : vv_C x vv_TC yX10_runBehind mm_X10_runBehind [.ref (vv_ad x 50), .int v1] h (fun v g => v = some (.int o) ∧ g = h) := vv_entry (by decide +kernel) rfl (Nat.le_of_ble_eq_true rfl) rfl (vt_X10_runBehind  hm ⟨rfl, rfl⟩)
def ff_X11_day (h : vv_H) (v1 : Int32) : Option (Int32 × vv_H) := (ff_X11_isWithin v1 (h.1 0 0) (9999 : Int32)).bind (fun r1 => (if r1 = 0 then some ((-1 : Int32), h) else vv_let (h.1 0 0) (fun w3 => vv_let (vv_iu h 0 0 v1) (fun g5 => some (w3, g5)))))
set_option maxHeartbeats 200000 in
theorem vt_X11_day {x : vv_E} {post : Option Value → vv_H → Prop} {h : vv_H} {v1 : Int32} {o : Int32 × vv_H}  (hm : ff_X11_day  h v1 = some o) (hp : post (some (.int o.1)) o.2) : vv_V x vv_TC mm_X11_day post 0 [some (.ref (vv_ad x 0)), some (.int v1), none] [] h := by
  unfold ff_X11_day at hm
  refine rr_iload_n (q := 1) dX11_day_0 rfl rfl ?_
  refine rr_aload_n (q := 2) dX11_day_1 rfl rfl ?_
  refine gf_X11_89 (q := 5) rfl dX11_day_2 rfl ?_
  refine rr_sipush (q := 8) (v := 9999) dX11_day_5 rfl (by decide) ?_
  obtain ⟨r1, k2, hm⟩ := vv_bind hm
  refine rr_callS (q := 11) (M' := mm_X11_isWithin) (As := [.int v1, .int (h.1 0 0), .int (9999 : Int32)]) (st := []) (w := some (.int r1))  (cc_X11_isWithin  k2) rfl vy_X11_isWithin zw_219 ⟨Nat.le_of_ble_eq_true rfl, Nat.le_of_ble_eq_true rfl⟩ (Nat.le_of_ble_eq_true rfl) dX11_day_8 rfl ?_
  show vv_V x vv_TC mm_X11_day post 11 [some (.ref (vv_ad x 0)), some (.int v1), none] [.int r1] h
  refine rr_if_ne (q := 14) (tgt := 16) dX11_day_11 (by decide) rfl hm (fun hm => ?_) (fun hm => ?_)
  · refine rr_aload_n (q := 17) dX11_day_16 rfl rfl ?_
    refine gf_X11_89 (q := 20) rfl dX11_day_17 rfl ?_
    obtain ⟨w3, c4, hm⟩ := vv_let_of hm
    rw [← c4]
    refine rr_istore_n (q := 21) [some (.ref (vv_ad x 0)), some (.int v1), some (.int w3)] dX11_day_20 rfl rfl (Nat.le_of_ble_eq_true rfl) rfl rfl ?_
    refine rr_aload_n (q := 22) dX11_day_21 rfl rfl ?_
    refine rr_iload_n (q := 23) dX11_day_22 rfl rfl ?_
    refine pf_X11_89 (q := 26) rfl dX11_day_23 rfl (fun g5 c6 => ?_)
    replace hm := vv_letE hm c6
    refine rr_iload_n (q := 27) dX11_day_26 rfl rfl ?_
    obtain rfl := Option.some.inj hm
    exact rr_iret dX11_day_27 rfl hp
  · refine rr_iconst (q := 15) (v := -1) dX11_day_14 rfl (by decide) ?_
    obtain rfl := Option.some.inj hm
    exact rr_iret dX11_day_15 rfl hp
theorem cc_X11_day {x : vv_E} {h : vv_H} {v1 : Int32} {o : Int32 × vv_H}  (hm : ff_X11_day h v1 = some o) : vv_C x vv_TC yX11_day mm_X11_day [.ref (vv_ad x 0), .int v1] h (fun v g => v = some (.int o.1) ∧ g = o.2) := vv_entry (by decide +kernel) rfl (Nat.le_of_ble_eq_true rfl) rfl (vt_X11_day  hm ⟨rfl, rfl⟩)
def ff_X11_feed (h : vv_H) (v1 : Int64) : Option (Int32 × vv_H) := (ff_X10_add h v1).bind (fun r1 => some (r1.1, r1.2))
set_option maxHeartbeats 200000 in
theorem vt_X11_feed {x : vv_E} {post : Option Value → vv_H → Prop} {h : vv_H} {v1 : Int64} {o : Int32 × vv_H}  (hm : ff_X11_feed  h v1 = some o) (hp : post (some (.int o.1)) o.2) : vv_V x vv_TC mm_X11_feed post 0 [some (.ref (vv_ad x 0)), some (.long v1), none] [] h := by
  unfold ff_X11_feed at hm
  refine rr_aload_n (q := 1) dX11_feed_0 rfl rfl ?_
  refine gf_X11_33 (q := 4) rfl dX11_feed_1 rfl ?_
  refine rr_lload_n (q := 5) dX11_feed_4 rfl rfl ?_
  obtain ⟨r1, k2, hm⟩ := vv_bind hm
  refine rr_callV (q := 8) (M' := mm_X10_add) (As := [.long v1]) (st := []) (w := some (.int r1.1)) (cc_X10_add  k2) rfl ylC_50 ynC_50 rfl vy_X10_add zw_225 ⟨Nat.le_of_ble_eq_true rfl, Nat.le_of_ble_eq_true rfl⟩ (Nat.le_of_ble_eq_true rfl) dX11_feed_5 rfl ?_
  show vv_V x vv_TC mm_X11_feed post 8 [some (.ref (vv_ad x 0)), some (.long v1), none] [.int r1.1] r1.2
  obtain rfl := Option.some.inj hm
  exact rr_iret dX11_feed_8 rfl hp
theorem cc_X11_feed {x : vv_E} {h : vv_H} {v1 : Int64} {o : Int32 × vv_H}  (hm : ff_X11_feed h v1 = some o) : vv_C x vv_TC yX11_feed mm_X11_feed [.ref (vv_ad x 0), .long v1] h (fun v g => v = some (.int o.1) ∧ g = o.2) := vv_entry (by decide +kernel) rfl (Nat.le_of_ble_eq_true rfl) rfl (vt_X11_feed  hm ⟨rfl, rfl⟩)
def ff_X11_end (h : vv_H) (v1 : Int32) : Option (Int32 × vv_H) := (ff_X11_isWithin v1 (0 : Int32) (h.1 50 0)).bind (fun r1 => (if r1 = 0 then some ((-1 : Int32), h) else vv_let (h.1 50 0) (fun w3 => vv_let (vv_iu h 50 0 v1) (fun g5 => some (w3, g5)))))
set_option maxHeartbeats 200000 in
theorem vt_X11_end {x : vv_E} {post : Option Value → vv_H → Prop} {h : vv_H} {v1 : Int32} {o : Int32 × vv_H}  (hm : ff_X11_end  h v1 = some o) (hp : post (some (.int o.1)) o.2) : vv_V x vv_TC mm_X11_end post 0 [some (.ref (vv_ad x 0)), some (.int v1), none] [] h := by
  unfold ff_X11_end at hm
  refine rr_iload_n (q := 1) dX11_end_0 rfl rfl ?_
  refine rr_iconst (q := 2) (v := 0) dX11_end_1 rfl (by decide) ?_
  refine rr_aload_n (q := 3) dX11_end_2 rfl rfl ?_
  refine gf_X11_33 (q := 6) rfl dX11_end_3 rfl ?_
  refine gf_X11_203 (q := 9) rfl dX11_end_6 rfl ?_
  obtain ⟨r1, k2, hm⟩ := vv_bind hm
  refine rr_callS (q := 12) (M' := mm_X11_isWithin) (As := [.int v1, .int (0 : Int32), .int (h.1 50 0)]) (st := []) (w := some (.int r1))  (cc_X11_isWithin  k2) rfl vy_X11_isWithin zw_219 ⟨Nat.le_of_ble_eq_true rfl, Nat.le_of_ble_eq_true rfl⟩ (Nat.le_of_ble_eq_true rfl) dX11_end_9 rfl ?_
  show vv_V x vv_TC mm_X11_end post 12 [some (.ref (vv_ad x 0)), some (.int v1), none] [.int r1] h
  refine rr_if_ne (q := 15) (tgt := 17) dX11_end_12 (by decide) rfl hm (fun hm => ?_) (fun hm => ?_)
  · refine rr_aload_n (q := 18) dX11_end_17 rfl rfl ?_
    refine gf_X11_33 (q := 21) rfl dX11_end_18 rfl ?_
    refine gf_X11_203 (q := 24) rfl dX11_end_21 rfl ?_
    obtain ⟨w3, c4, hm⟩ := vv_let_of hm
    rw [← c4]
    refine rr_istore_n (q := 25) [some (.ref (vv_ad x 0)), some (.int v1), some (.int w3)] dX11_end_24 rfl rfl (Nat.le_of_ble_eq_true rfl) rfl rfl ?_
    refine rr_aload_n (q := 26) dX11_end_25 rfl rfl ?_
    refine gf_X11_33 (q := 29) rfl dX11_end_26 rfl ?_
    refine rr_iload_n (q := 30) dX11_end_29 rfl rfl ?_
    refine pf_X11_203 (q := 33) rfl dX11_end_30 rfl (fun g5 c6 => ?_)
    replace hm := vv_letE hm c6
    refine rr_iload_n (q := 34) dX11_end_33 rfl rfl ?_
    obtain rfl := Option.some.inj hm
    exact rr_iret dX11_end_34 rfl hp
  · refine rr_iconst (q := 16) (v := -1) dX11_end_15 rfl (by decide) ?_
    obtain rfl := Option.some.inj hm
    exact rr_iret dX11_end_16 rfl hp
theorem cc_X11_end {x : vv_E} {h : vv_H} {v1 : Int32} {o : Int32 × vv_H}  (hm : ff_X11_end h v1 = some o) : vv_C x vv_TC yX11_end mm_X11_end [.ref (vv_ad x 0), .int v1] h (fun v g => v = some (.int o.1) ∧ g = o.2) := vv_entry (by decide +kernel) rfl (Nat.le_of_ble_eq_true rfl) rfl (vt_X11_end  hm ⟨rfl, rfl⟩)
def ff_X11_store (h : vv_H) : Option (Int32 × vv_H) := (ff_X9_add h).bind (fun r1 => some (r1.1, r1.2))
set_option maxHeartbeats 200000 in
theorem vt_X11_store {x : vv_E} {post : Option Value → vv_H → Prop} {h : vv_H} {o : Int32 × vv_H}  (hm : ff_X11_store  h = some o) (hp : post (some (.int o.1)) o.2) : vv_V x vv_TC mm_X11_store post 0 [some (.ref (vv_ad x 0))] [] h := by
  unfold ff_X11_store at hm
  refine rr_aload_n (q := 1) dX11_store_0 rfl rfl ?_
  refine gf_X11_57 (q := 4) rfl dX11_store_1 rfl ?_
  obtain ⟨r1, k2, hm⟩ := vv_bind hm
  refine rr_callV (q := 7) (M' := mm_X9_add) (As := []) (st := []) (w := some (.int r1.1)) (cc_X9_add  k2) rfl ylC_146 ynC_146 rfl vy_X9_add zw_232 ⟨Nat.le_of_ble_eq_true rfl, Nat.le_of_ble_eq_true rfl⟩ (Nat.le_of_ble_eq_true rfl) dX11_store_4 rfl ?_
  show vv_V x vv_TC mm_X11_store post 7 [some (.ref (vv_ad x 0))] [.int r1.1] r1.2
  obtain rfl := Option.some.inj hm
  exact rr_iret dX11_store_7 rfl hp
theorem cc_X11_store {x : vv_E} {h : vv_H} {o : Int32 × vv_H}  (hm : ff_X11_store h = some o) : vv_C x vv_TC yX11_store mm_X11_store [.ref (vv_ad x 0)] h (fun v g => v = some (.int o.1) ∧ g = o.2) := vv_entry (by decide +kernel) rfl (Nat.le_of_ble_eq_true rfl) rfl (vt_X11_store  hm ⟨rfl, rfl⟩)
def ff_X11_road (h : vv_H) (v1 : Int32) (v2 : Int32) (v3 : Int32) : Option (Int32 × vv_H) := (ff_X9_has h v1).bind (fun r1 => (if r1 = 0 then some ((-1 : Int32), h) else (ff_X9_has h v2).bind (fun r3 => (if r3 = 0 then some ((-1 : Int32), h) else (if v1 = v2 then some ((-1 : Int32), h) else (ff_X11_isWithin v3 (0 : Int32) (99 : Int32)).bind (fun r5 => (if r5 = 0 then some ((-1 : Int32), h) else vv_ck v1 4 (vv_ck v2 4 (vv_let (h.1 (148 + v1.toNatClampNeg) v2.toNatClampNeg) (fun w9 => vv_ck v1 4 (vv_ck v2 4 (vv_let (vv_iu h (148 + v1.toNatClampNeg) v2.toNatClampNeg v3) (fun g13 => vv_ck v2 4 (vv_ck v1 4 (vv_let (vv_iu g13 (148 + v2.toNatClampNeg) v1.toNatClampNeg v3) (fun g17 => some (w9, g17)))))))))))))))))
set_option maxHeartbeats 200000 in
theorem vt_X11_road {x : vv_E} {post : Option Value → vv_H → Prop} {h : vv_H} {v1 : Int32} {v2 : Int32} {v3 : Int32} {o : Int32 × vv_H}  (hm : ff_X11_road  h v1 v2 v3 = some o) (hp : post (some (.int o.1)) o.2) : vv_V x vv_TC mm_X11_road post 0 [some (.ref (vv_ad x 0)), some (.int v1), some (.int v2), some (.int v3), none] [] h := by
  unfold ff_X11_road at hm
  refine rr_aload_n (q := 1) dX11_road_0 rfl rfl ?_
  refine gf_X11_57 (q := 4) rfl dX11_road_1 rfl ?_
  refine rr_iload_n (q := 5) dX11_road_4 rfl rfl ?_
  obtain ⟨r1, k2, hm⟩ := vv_bind hm
  refine rr_callV (q := 8) (M' := mm_X9_has) (As := [.int v1]) (st := []) (w := some (.int r1)) (cc_X9_has  k2) rfl ylC_146 ynC_146 rfl vy_X9_has zw_237 ⟨Nat.le_of_ble_eq_true rfl, Nat.le_of_ble_eq_true rfl⟩ (Nat.le_of_ble_eq_true rfl) dX11_road_5 rfl ?_
  show vv_V x vv_TC mm_X11_road post 8 [some (.ref (vv_ad x 0)), some (.int v1), some (.int v2), some (.int v3), none] [.int r1] h
  refine rr_if_eq (q := 11) (tgt := 37) dX11_road_8 (by decide) rfl hm (fun hm => ?_) (fun hm => ?_)
  · refine rr_iconst (q := 38) (v := -1) dX11_road_37 rfl (by decide) ?_
    obtain rfl := Option.some.inj hm
    exact rr_iret dX11_road_38 rfl hp
  · refine rr_aload_n (q := 12) dX11_road_11 rfl rfl ?_
    refine gf_X11_57 (q := 15) rfl dX11_road_12 rfl ?_
    refine rr_iload_n (q := 16) dX11_road_15 rfl rfl ?_
    obtain ⟨r3, k4, hm⟩ := vv_bind hm
    refine rr_callV (q := 19) (M' := mm_X9_has) (As := [.int v2]) (st := []) (w := some (.int r3)) (cc_X9_has  k4) rfl ylC_146 ynC_146 rfl vy_X9_has zw_237 ⟨Nat.le_of_ble_eq_true rfl, Nat.le_of_ble_eq_true rfl⟩ (Nat.le_of_ble_eq_true rfl) dX11_road_16 rfl ?_
    show vv_V x vv_TC mm_X11_road post 19 [some (.ref (vv_ad x 0)), some (.int v1), some (.int v2), some (.int v3), none] [.int r3] h
    refine rr_if_eq (q := 22) (tgt := 37) dX11_road_19 (by decide) rfl hm (fun hm => ?_) (fun hm => ?_)
    · refine rr_iconst (q := 38) (v := -1) dX11_road_37 rfl (by decide) ?_
      obtain rfl := Option.some.inj hm
      exact rr_iret dX11_road_38 rfl hp
    · refine rr_iload_n (q := 23) dX11_road_22 rfl rfl ?_
      refine rr_iload_n (q := 24) dX11_road_23 rfl rfl ?_
      refine rr_icmp_eq (q := 27) (tgt := 37) dX11_road_24 (by decide) rfl hm (fun hm => ?_) (fun hm => ?_)
      · refine rr_iconst (q := 38) (v := -1) dX11_road_37 rfl (by decide) ?_
        obtain rfl := Option.some.inj hm
        exact rr_iret dX11_road_38 rfl hp
      · refine rr_iload_n (q := 28) dX11_road_27 rfl rfl ?_
        refine rr_iconst (q := 29) (v := 0) dX11_road_28 rfl (by decide) ?_
        refine rr_bipush (q := 31) (v := 99) dX11_road_29 rfl (by decide) ?_
        obtain ⟨r5, k6, hm⟩ := vv_bind hm
        refine rr_callS (q := 34) (M' := mm_X11_isWithin) (As := [.int v3, .int (0 : Int32), .int (99 : Int32)]) (st := []) (w := some (.int r5))  (cc_X11_isWithin  k6) rfl vy_X11_isWithin zw_219 ⟨Nat.le_of_ble_eq_true rfl, Nat.le_of_ble_eq_true rfl⟩ (Nat.le_of_ble_eq_true rfl) dX11_road_31 rfl ?_
        show vv_V x vv_TC mm_X11_road post 34 [some (.ref (vv_ad x 0)), some (.int v1), some (.int v2), some (.int v3), none] [.int r5] h
        refine rr_if_ne (q := 37) (tgt := 39) dX11_road_34 (by decide) rfl hm (fun hm => ?_) (fun hm => ?_)
        · refine rr_aload_n (q := 40) dX11_road_39 rfl rfl ?_
          refine gf_X11_57 (q := 43) rfl dX11_road_40 rfl ?_
          refine gf_X11_235 (q := 46) rfl dX11_road_43 rfl ?_
          refine rr_iload_n (q := 47) dX11_road_46 rfl rfl ?_
          obtain ⟨c7, hm⟩ := vv_ck_of hm
          refine rr_aald (q := 48) ylC_147 ynC_147 c7 dX11_road_47 rfl ?_
          refine rr_iload_n (q := 49) dX11_road_48 rfl rfl ?_
          obtain ⟨c8, hm⟩ := vv_ck_of hm
          refine rr_iald (q := 50) (ywC_147 c7).1 (ywC_147 c7).2 c8 dX11_road_49 rfl ?_
          obtain ⟨w9, c10, hm⟩ := vv_let_of hm
          rw [← c10]
          refine rr_istore (q := 52) [some (.ref (vv_ad x 0)), some (.int v1), some (.int v2), some (.int v3), some (.int w9)] dX11_road_50 rfl (Nat.le_of_ble_eq_true rfl) rfl rfl ?_
          refine rr_aload_n (q := 53) dX11_road_52 rfl rfl ?_
          refine gf_X11_57 (q := 56) rfl dX11_road_53 rfl ?_
          refine gf_X11_235 (q := 59) rfl dX11_road_56 rfl ?_
          refine rr_iload_n (q := 60) dX11_road_59 rfl rfl ?_
          obtain ⟨c11, hm⟩ := vv_ck_of hm
          refine rr_aald (q := 61) ylC_147 ynC_147 c11 dX11_road_60 rfl ?_
          refine rr_iload_n (q := 62) dX11_road_61 rfl rfl ?_
          refine rr_iload_n (q := 63) dX11_road_62 rfl rfl ?_
          obtain ⟨c12, hm⟩ := vv_ck_of hm
          obtain ⟨g13, c14, hm⟩ := vv_let_of hm
          refine rr_iast (q := 64) (ywC_147 c11).1 (ywC_147 c11).2 c12 dX11_road_63 rfl ?_
          rw [← c14]
          refine rr_aload_n (q := 65) dX11_road_64 rfl rfl ?_
          refine gf_X11_57 (q := 68) rfl dX11_road_65 rfl ?_
          refine gf_X11_235 (q := 71) rfl dX11_road_68 rfl ?_
          refine rr_iload_n (q := 72) dX11_road_71 rfl rfl ?_
          obtain ⟨c15, hm⟩ := vv_ck_of hm
          refine rr_aald (q := 73) ylC_147 ynC_147 c15 dX11_road_72 rfl ?_
          refine rr_iload_n (q := 74) dX11_road_73 rfl rfl ?_
          refine rr_iload_n (q := 75) dX11_road_74 rfl rfl ?_
          obtain ⟨c16, hm⟩ := vv_ck_of hm
          obtain ⟨g17, c18, hm⟩ := vv_let_of hm
          refine rr_iast (q := 76) (ywC_147 c15).1 (ywC_147 c15).2 c16 dX11_road_75 rfl ?_
          rw [← c18]
          refine rr_iload (q := 78) dX11_road_76 rfl rfl ?_
          obtain rfl := Option.some.inj hm
          exact rr_iret dX11_road_78 rfl hp
        · refine rr_iconst (q := 38) (v := -1) dX11_road_37 rfl (by decide) ?_
          obtain rfl := Option.some.inj hm
          exact rr_iret dX11_road_38 rfl hp
theorem cc_X11_road {x : vv_E} {h : vv_H} {v1 : Int32} {v2 : Int32} {v3 : Int32} {o : Int32 × vv_H}  (hm : ff_X11_road h v1 v2 v3 = some o) : vv_C x vv_TC yX11_road mm_X11_road [.ref (vv_ad x 0), .int v1, .int v2, .int v3] h (fun v g => v = some (.int o.1) ∧ g = o.2) := vv_entry (by decide +kernel) rfl (Nat.le_of_ble_eq_true rfl) rfl (vt_X11_road  hm ⟨rfl, rfl⟩)
def ff_X11_move (h : vv_H) (v1 : Int32) (v2 : Int32) : Option (Int32 × vv_H) := (ff_X4_has h v1).bind (fun r1 => (if r1 = 0 then some ((-1 : Int32), h) else (ff_X9_has h v2).bind (fun r3 => (if r3 = 0 then some ((-1 : Int32), h) else vv_ck v1 36 ((if (h.1 160 v1.toNatClampNeg) = v2 then some ((-1 : Int32), h) else (ff_X4_isStored h v1).bind (fun r6 => (if r6 = 0 then some ((-2 : Int32), h) else vv_ck v1 36 (vv_ck (h.1 160 v1.toNatClampNeg) 4 (vv_ck v2 4 (vv_let (h.1 (148 + (h.1 160 v1.toNatClampNeg).toNatClampNeg) v2.toNatClampNeg) (fun w11 => vv_ck v1 36 (vv_let (vv_iu h 160 v1.toNatClampNeg v2) (fun g14 => some (w11, g14)))))))))))))))
set_option maxHeartbeats 200000 in
theorem vt_X11_move {x : vv_E} {post : Option Value → vv_H → Prop} {h : vv_H} {v1 : Int32} {v2 : Int32} {o : Int32 × vv_H}  (hm : ff_X11_move  h v1 v2 = some o) (hp : post (some (.int o.1)) o.2) : vv_V x vv_TC mm_X11_move post 0 [some (.ref (vv_ad x 0)), some (.int v1), some (.int v2), none] [] h := by
  unfold ff_X11_move at hm
  refine rr_aload_n (q := 1) dX11_move_0 rfl rfl ?_
  refine gf_X11_64 (q := 4) rfl dX11_move_1 rfl ?_
  refine rr_iload_n (q := 5) dX11_move_4 rfl rfl ?_
  obtain ⟨r1, k2, hm⟩ := vv_bind hm
  refine rr_callV (q := 8) (M' := mm_X4_has) (As := [.int v1]) (st := []) (w := some (.int r1)) (cc_X4_has  k2) rfl ylC_156 ynC_156 rfl vy_X4_has zw_243 ⟨Nat.le_of_ble_eq_true rfl, Nat.le_of_ble_eq_true rfl⟩ (Nat.le_of_ble_eq_true rfl) dX11_move_5 rfl ?_
  show vv_V x vv_TC mm_X11_move post 8 [some (.ref (vv_ad x 0)), some (.int v1), some (.int v2), none] [.int r1] h
  refine rr_if_eq (q := 11) (tgt := 35) dX11_move_8 (by decide) rfl hm (fun hm => ?_) (fun hm => ?_)
  · refine rr_iconst (q := 36) (v := -1) dX11_move_35 rfl (by decide) ?_
    obtain rfl := Option.some.inj hm
    exact rr_iret dX11_move_36 rfl hp
  · refine rr_aload_n (q := 12) dX11_move_11 rfl rfl ?_
    refine gf_X11_57 (q := 15) rfl dX11_move_12 rfl ?_
    refine rr_iload_n (q := 16) dX11_move_15 rfl rfl ?_
    obtain ⟨r3, k4, hm⟩ := vv_bind hm
    refine rr_callV (q := 19) (M' := mm_X9_has) (As := [.int v2]) (st := []) (w := some (.int r3)) (cc_X9_has  k4) rfl ylC_146 ynC_146 rfl vy_X9_has zw_237 ⟨Nat.le_of_ble_eq_true rfl, Nat.le_of_ble_eq_true rfl⟩ (Nat.le_of_ble_eq_true rfl) dX11_move_16 rfl ?_
    show vv_V x vv_TC mm_X11_move post 19 [some (.ref (vv_ad x 0)), some (.int v1), some (.int v2), none] [.int r3] h
    refine rr_if_eq (q := 22) (tgt := 35) dX11_move_19 (by decide) rfl hm (fun hm => ?_) (fun hm => ?_)
    · refine rr_iconst (q := 36) (v := -1) dX11_move_35 rfl (by decide) ?_
      obtain rfl := Option.some.inj hm
      exact rr_iret dX11_move_36 rfl hp
    · refine rr_aload_n (q := 23) dX11_move_22 rfl rfl ?_
      refine gf_X11_64 (q := 26) rfl dX11_move_23 rfl ?_
      refine gf_X11_256 (q := 29) rfl dX11_move_26 rfl ?_
      refine rr_iload_n (q := 30) dX11_move_29 rfl rfl ?_
      obtain ⟨c5, hm⟩ := vv_ck_of hm
      refine rr_iald (q := 31) ylC_160 ynC_160 c5 dX11_move_30 rfl ?_
      refine rr_iload_n (q := 32) dX11_move_31 rfl rfl ?_
      refine rr_icmp_ne (q := 35) (tgt := 37) dX11_move_32 (by decide) rfl hm (fun hm => ?_) (fun hm => ?_)
      · refine rr_aload_n (q := 38) dX11_move_37 rfl rfl ?_
        refine gf_X11_64 (q := 41) rfl dX11_move_38 rfl ?_
        refine rr_iload_n (q := 42) dX11_move_41 rfl rfl ?_
        obtain ⟨r6, k7, hm⟩ := vv_bind hm
        refine rr_callV (q := 45) (M' := mm_X4_isStored) (As := [.int v1]) (st := []) (w := some (.int r6)) (cc_X4_isStored  k7) rfl ylC_156 ynC_156 rfl vy_X4_isStored zw_245 ⟨Nat.le_of_ble_eq_true rfl, Nat.le_of_ble_eq_true rfl⟩ (Nat.le_of_ble_eq_true rfl) dX11_move_42 rfl ?_
        show vv_V x vv_TC mm_X11_move post 45 [some (.ref (vv_ad x 0)), some (.int v1), some (.int v2), none] [.int r6] h
        refine rr_if_ne (q := 48) (tgt := 51) dX11_move_45 (by decide) rfl hm (fun hm => ?_) (fun hm => ?_)
        · refine rr_aload_n (q := 52) dX11_move_51 rfl rfl ?_
          refine gf_X11_57 (q := 55) rfl dX11_move_52 rfl ?_
          refine gf_X11_235 (q := 58) rfl dX11_move_55 rfl ?_
          refine rr_aload_n (q := 59) dX11_move_58 rfl rfl ?_
          refine gf_X11_64 (q := 62) rfl dX11_move_59 rfl ?_
          refine gf_X11_256 (q := 65) rfl dX11_move_62 rfl ?_
          refine rr_iload_n (q := 66) dX11_move_65 rfl rfl ?_
          obtain ⟨c8, hm⟩ := vv_ck_of hm
          refine rr_iald (q := 67) ylC_160 ynC_160 c8 dX11_move_66 rfl ?_
          obtain ⟨c9, hm⟩ := vv_ck_of hm
          refine rr_aald (q := 68) ylC_147 ynC_147 c9 dX11_move_67 rfl ?_
          refine rr_iload_n (q := 69) dX11_move_68 rfl rfl ?_
          obtain ⟨c10, hm⟩ := vv_ck_of hm
          refine rr_iald (q := 70) (ywC_147 c9).1 (ywC_147 c9).2 c10 dX11_move_69 rfl ?_
          obtain ⟨w11, c12, hm⟩ := vv_let_of hm
          rw [← c12]
          refine rr_istore_n (q := 71) [some (.ref (vv_ad x 0)), some (.int v1), some (.int v2), some (.int w11)] dX11_move_70 rfl rfl (Nat.le_of_ble_eq_true rfl) rfl rfl ?_
          refine rr_aload_n (q := 72) dX11_move_71 rfl rfl ?_
          refine gf_X11_64 (q := 75) rfl dX11_move_72 rfl ?_
          refine gf_X11_256 (q := 78) rfl dX11_move_75 rfl ?_
          refine rr_iload_n (q := 79) dX11_move_78 rfl rfl ?_
          refine rr_iload_n (q := 80) dX11_move_79 rfl rfl ?_
          obtain ⟨c13, hm⟩ := vv_ck_of hm
          obtain ⟨g14, c15, hm⟩ := vv_let_of hm
          refine rr_iast (q := 81) ylC_160 ynC_160 c13 dX11_move_80 rfl ?_
          rw [← c15]
          refine rr_iload_n (q := 82) dX11_move_81 rfl rfl ?_
          obtain rfl := Option.some.inj hm
          exact rr_iret dX11_move_82 rfl hp
        · refine rr_bipush (q := 50) (v := -2) dX11_move_48 rfl (by decide) ?_
          obtain rfl := Option.some.inj hm
          exact rr_iret dX11_move_50 rfl hp
      · refine rr_iconst (q := 36) (v := -1) dX11_move_35 rfl (by decide) ?_
        obtain rfl := Option.some.inj hm
        exact rr_iret dX11_move_36 rfl hp
theorem cc_X11_move {x : vv_E} {h : vv_H} {v1 : Int32} {v2 : Int32} {o : Int32 × vv_H}  (hm : ff_X11_move h v1 v2 = some o) : vv_C x vv_TC yX11_move mm_X11_move [.ref (vv_ad x 0), .int v1, .int v2] h (fun v g => v = some (.int o.1) ∧ g = o.2) := vv_entry (by decide +kernel) rfl (Nat.le_of_ble_eq_true rfl) rfl (vt_X11_move  hm ⟨rfl, rfl⟩)
def ff_X11_isDay (v0 : Int32) : Option (Int32) := (ff_X11_isWithin v0 (0 : Int32) (9999 : Int32)).bind (fun r1 => vv_zk r1 (some r1))
set_option maxHeartbeats 200000 in
theorem vt_X11_isDay {x : vv_E} {post : Option Value → vv_H → Prop} {v0 : Int32} {h : vv_H} {o : Int32}  (hm : ff_X11_isDay  v0 = some o) (hp : post (some (.int o)) h) : vv_V x vv_TC mm_X11_isDay post 0 [some (.int v0)] [] h := by
  unfold ff_X11_isDay at hm
  refine rr_iload_n (q := 1) dX11_isDay_0 rfl rfl ?_
  refine rr_iconst (q := 2) (v := 0) dX11_isDay_1 rfl (by decide) ?_
  refine rr_sipush (q := 5) (v := 9999) dX11_isDay_2 rfl (by decide) ?_
  obtain ⟨r1, k2, hm⟩ := vv_bind hm
  refine rr_callS (q := 8) (M' := mm_X11_isWithin) (As := [.int v0, .int (0 : Int32), .int (9999 : Int32)]) (st := []) (w := some (.int r1))  (cc_X11_isWithin  k2) rfl vy_X11_isWithin zw_219 ⟨Nat.le_of_ble_eq_true rfl, Nat.le_of_ble_eq_true rfl⟩ (Nat.le_of_ble_eq_true rfl) dX11_isDay_5 rfl ?_
  show vv_V x vv_TC mm_X11_isDay post 8 [some (.int v0)] [.int r1] h
  obtain ⟨c3, hm⟩ := vv_zk_of hm
  obtain rfl := Option.some.inj hm
  exact rr_zret dX11_isDay_8 rfl c3 hp
theorem cc_X11_isDay {x : vv_E} {v0 : Int32} {h : vv_H} {o : Int32}  (hm : ff_X11_isDay v0 = some o) : vv_C x vv_TC yX11_isDay mm_X11_isDay [.int v0] h (fun v g => v = some (.int o) ∧ g = h) := vv_entry (by decide +kernel) rfl (Nat.le_of_ble_eq_true rfl) rfl (vt_X11_isDay  hm ⟨rfl, rfl⟩)
def ff_X11_isKind (v0 : Int32) : Option (Int32) := (ff_X11_isWithin v0 (0 : Int32) (3 : Int32)).bind (fun r1 => vv_zk r1 (some r1))
set_option maxHeartbeats 200000 in
theorem vt_X11_isKind {x : vv_E} {post : Option Value → vv_H → Prop} {v0 : Int32} {h : vv_H} {o : Int32}  (hm : ff_X11_isKind  v0 = some o) (hp : post (some (.int o)) h) : vv_V x vv_TC mm_X11_isKind post 0 [some (.int v0)] [] h := by
  unfold ff_X11_isKind at hm
  refine rr_iload_n (q := 1) dX11_isKind_0 rfl rfl ?_
  refine rr_iconst (q := 2) (v := 0) dX11_isKind_1 rfl (by decide) ?_
  refine rr_iconst (q := 3) (v := 3) dX11_isKind_2 rfl (by decide) ?_
  obtain ⟨r1, k2, hm⟩ := vv_bind hm
  refine rr_callS (q := 6) (M' := mm_X11_isWithin) (As := [.int v0, .int (0 : Int32), .int (3 : Int32)]) (st := []) (w := some (.int r1))  (cc_X11_isWithin  k2) rfl vy_X11_isWithin zw_219 ⟨Nat.le_of_ble_eq_true rfl, Nat.le_of_ble_eq_true rfl⟩ (Nat.le_of_ble_eq_true rfl) dX11_isKind_3 rfl ?_
  show vv_V x vv_TC mm_X11_isKind post 6 [some (.int v0)] [.int r1] h
  obtain ⟨c3, hm⟩ := vv_zk_of hm
  obtain rfl := Option.some.inj hm
  exact rr_zret dX11_isKind_6 rfl c3 hp
theorem cc_X11_isKind {x : vv_E} {v0 : Int32} {h : vv_H} {o : Int32}  (hm : ff_X11_isKind v0 = some o) : vv_C x vv_TC yX11_isKind mm_X11_isKind [.int v0] h (fun v g => v = some (.int o) ∧ g = h) := vv_entry (by decide +kernel) rfl (Nat.le_of_ble_eq_true rfl) rfl (vt_X11_isKind  hm ⟨rfl, rfl⟩)
def ff_X11_isTrait (v0 : Int32) (v1 : Int32) : Option (Int32) := (if v0 = 0 then (ff_X11_isWithin v1 (0 : Int32) (5 : Int32)).bind (fun r1 => vv_zk r1 (some r1)) else (if v0 = 1 then (ff_X11_isWithin v1 (0 : Int32) (3 : Int32)).bind (fun r4 => vv_zk r4 (some r4)) else (if v0 = 2 then (ff_X11_isWithin v1 (0 : Int32) (2 : Int32)).bind (fun r7 => vv_zk r7 (some r7)) else some (0 : Int32))))
set_option maxHeartbeats 200000 in
theorem vt_X11_isTrait {x : vv_E} {post : Option Value → vv_H → Prop} {v0 : Int32} {v1 : Int32} {h : vv_H} {o : Int32}  (hm : ff_X11_isTrait  v0 v1 = some o) (hp : post (some (.int o)) h) : vv_V x vv_TC mm_X11_isTrait post 0 [some (.int v0), some (.int v1)] [] h := by
  unfold ff_X11_isTrait at hm
  refine rr_iload_n (q := 1) dX11_isTrait_0 rfl rfl ?_
  by_cases c0s : v0 = (0 : Int32)
  · rw [if_pos c0s] at hm
    refine rr_tswI (tgt := 28) dX11_isTrait_1 (by rw [c0s]; decide) (by rw [c0s]; decide) (by rw [c0s]; rfl) (by decide) ?_
    refine rr_iload_n (q := 29) dX11_isTrait_28 rfl rfl ?_
    refine rr_iconst (q := 30) (v := 0) dX11_isTrait_29 rfl (by decide) ?_
    refine rr_iconst (q := 31) (v := 5) dX11_isTrait_30 rfl (by decide) ?_
    obtain ⟨r1, k2, hm⟩ := vv_bind hm
    refine rr_callS (q := 34) (M' := mm_X11_isWithin) (As := [.int v1, .int (0 : Int32), .int (5 : Int32)]) (st := []) (w := some (.int r1))  (cc_X11_isWithin  k2) rfl vy_X11_isWithin zw_219 ⟨Nat.le_of_ble_eq_true rfl, Nat.le_of_ble_eq_true rfl⟩ (Nat.le_of_ble_eq_true rfl) dX11_isTrait_31 rfl ?_
    show vv_V x vv_TC mm_X11_isTrait post 34 [some (.int v0), some (.int v1)] [.int r1] h
    obtain ⟨c3, hm⟩ := vv_zk_of hm
    obtain rfl := Option.some.inj hm
    exact rr_zret dX11_isTrait_34 rfl c3 hp
  · rw [if_neg c0s] at hm
    by_cases c1s : v0 = (1 : Int32)
    · rw [if_pos c1s] at hm
      refine rr_tswI (tgt := 35) dX11_isTrait_1 (by rw [c1s]; decide) (by rw [c1s]; decide) (by rw [c1s]; rfl) (by decide) ?_
      refine rr_iload_n (q := 36) dX11_isTrait_35 rfl rfl ?_
      refine rr_iconst (q := 37) (v := 0) dX11_isTrait_36 rfl (by decide) ?_
      refine rr_iconst (q := 38) (v := 3) dX11_isTrait_37 rfl (by decide) ?_
      obtain ⟨r4, k5, hm⟩ := vv_bind hm
      refine rr_callS (q := 41) (M' := mm_X11_isWithin) (As := [.int v1, .int (0 : Int32), .int (3 : Int32)]) (st := []) (w := some (.int r4))  (cc_X11_isWithin  k5) rfl vy_X11_isWithin zw_219 ⟨Nat.le_of_ble_eq_true rfl, Nat.le_of_ble_eq_true rfl⟩ (Nat.le_of_ble_eq_true rfl) dX11_isTrait_38 rfl ?_
      show vv_V x vv_TC mm_X11_isTrait post 41 [some (.int v0), some (.int v1)] [.int r4] h
      obtain ⟨c6, hm⟩ := vv_zk_of hm
      obtain rfl := Option.some.inj hm
      exact rr_zret dX11_isTrait_41 rfl c6 hp
    · rw [if_neg c1s] at hm
      by_cases c2s : v0 = (2 : Int32)
      · rw [if_pos c2s] at hm
        refine rr_tswI (tgt := 42) dX11_isTrait_1 (by rw [c2s]; decide) (by rw [c2s]; decide) (by rw [c2s]; rfl) (by decide) ?_
        refine rr_iload_n (q := 43) dX11_isTrait_42 rfl rfl ?_
        refine rr_iconst (q := 44) (v := 0) dX11_isTrait_43 rfl (by decide) ?_
        refine rr_iconst (q := 45) (v := 2) dX11_isTrait_44 rfl (by decide) ?_
        obtain ⟨r7, k8, hm⟩ := vv_bind hm
        refine rr_callS (q := 48) (M' := mm_X11_isWithin) (As := [.int v1, .int (0 : Int32), .int (2 : Int32)]) (st := []) (w := some (.int r7))  (cc_X11_isWithin  k8) rfl vy_X11_isWithin zw_219 ⟨Nat.le_of_ble_eq_true rfl, Nat.le_of_ble_eq_true rfl⟩ (Nat.le_of_ble_eq_true rfl) dX11_isTrait_45 rfl ?_
        show vv_V x vv_TC mm_X11_isTrait post 48 [some (.int v0), some (.int v1)] [.int r7] h
        obtain ⟨c9, hm⟩ := vv_zk_of hm
        obtain rfl := Option.some.inj hm
        exact rr_zret dX11_isTrait_48 rfl c9 hp
      · rw [if_neg c2s] at hm
        refine rr_tswO (tgt := 49) dX11_isTrait_1 (by have y0 : v0.toInt ≠ 0 := fun e => c0s (Int32.toInt_inj.mp (e.trans (by decide))); have y1 : v0.toInt ≠ 1 := fun e => c1s (Int32.toInt_inj.mp (e.trans (by decide))); have y2 : v0.toInt ≠ 2 := fun e => c2s (Int32.toInt_inj.mp (e.trans (by decide))); omega) (by decide) ?_
        refine rr_iconst (q := 50) (v := 0) dX11_isTrait_49 rfl (by decide) ?_
        obtain rfl := Option.some.inj hm
        exact rr_zret dX11_isTrait_50 rfl rfl hp
theorem cc_X11_isTrait {x : vv_E} {v0 : Int32} {v1 : Int32} {h : vv_H} {o : Int32}  (hm : ff_X11_isTrait v0 v1 = some o) : vv_C x vv_TC yX11_isTrait mm_X11_isTrait [.int v0, .int v1] h (fun v g => v = some (.int o) ∧ g = h) := vv_entry (by decide +kernel) rfl (Nat.le_of_ble_eq_true rfl) rfl (vt_X11_isTrait  hm ⟨rfl, rfl⟩)
def ff_X11_isMeasureKind (v0 : Int32) : Option (Int32) := (ff_X11_isWithin v0 (0 : Int32) (2 : Int32)).bind (fun r1 => vv_zk r1 (some r1))
set_option maxHeartbeats 200000 in
theorem vt_X11_isMeasureKind {x : vv_E} {post : Option Value → vv_H → Prop} {v0 : Int32} {h : vv_H} {o : Int32}  (hm : ff_X11_isMeasureKind  v0 = some o) (hp : post (some (.int o)) h) : vv_V x vv_TC mm_X11_isMeasureKind post 0 [some (.int v0)] [] h := by
  unfold ff_X11_isMeasureKind at hm
  refine rr_iload_n (q := 1) dX11_isMeasureKind_0 rfl rfl ?_
  refine rr_iconst (q := 2) (v := 0) dX11_isMeasureKind_1 rfl (by decide) ?_
  refine rr_iconst (q := 3) (v := 2) dX11_isMeasureKind_2 rfl (by decide) ?_
  obtain ⟨r1, k2, hm⟩ := vv_bind hm
  refine rr_callS (q := 6) (M' := mm_X11_isWithin) (As := [.int v0, .int (0 : Int32), .int (2 : Int32)]) (st := []) (w := some (.int r1))  (cc_X11_isWithin  k2) rfl vy_X11_isWithin zw_219 ⟨Nat.le_of_ble_eq_true rfl, Nat.le_of_ble_eq_true rfl⟩ (Nat.le_of_ble_eq_true rfl) dX11_isMeasureKind_3 rfl ?_
  show vv_V x vv_TC mm_X11_isMeasureKind post 6 [some (.int v0)] [.int r1] h
  obtain ⟨c3, hm⟩ := vv_zk_of hm
  obtain rfl := Option.some.inj hm
  exact rr_zret dX11_isMeasureKind_6 rfl c3 hp
theorem cc_X11_isMeasureKind {x : vv_E} {v0 : Int32} {h : vv_H} {o : Int32}  (hm : ff_X11_isMeasureKind v0 = some o) : vv_C x vv_TC yX11_isMeasureKind mm_X11_isMeasureKind [.int v0] h (fun v g => v = some (.int o) ∧ g = h) := vv_entry (by decide +kernel) rfl (Nat.le_of_ble_eq_true rfl) rfl (vt_X11_isMeasureKind  hm ⟨rfl, rfl⟩)
def ff_X11_isMeasure (v0 : Int32) : Option (Int32) := (ff_X11_isWithin v0 (0 : Int32) (250 : Int32)).bind (fun r1 => vv_zk r1 (some r1))
set_option maxHeartbeats 200000 in
theorem vt_X11_isMeasure {x : vv_E} {post : Option Value → vv_H → Prop} {v0 : Int32} {h : vv_H} {o : Int32}  (hm : ff_X11_isMeasure  v0 = some o) (hp : post (some (.int o)) h) : vv_V x vv_TC mm_X11_isMeasure post 0 [some (.int v0)] [] h := by
  unfold ff_X11_isMeasure at hm
  refine rr_iload_n (q := 1) dX11_isMeasure_0 rfl rfl ?_
  refine rr_iconst (q := 2) (v := 0) dX11_isMeasure_1 rfl (by decide) ?_
  refine rr_sipush (q := 5) (v := 250) dX11_isMeasure_2 rfl (by decide) ?_
  obtain ⟨r1, k2, hm⟩ := vv_bind hm
  refine rr_callS (q := 8) (M' := mm_X11_isWithin) (As := [.int v0, .int (0 : Int32), .int (250 : Int32)]) (st := []) (w := some (.int r1))  (cc_X11_isWithin  k2) rfl vy_X11_isWithin zw_219 ⟨Nat.le_of_ble_eq_true rfl, Nat.le_of_ble_eq_true rfl⟩ (Nat.le_of_ble_eq_true rfl) dX11_isMeasure_5 rfl ?_
  show vv_V x vv_TC mm_X11_isMeasure post 8 [some (.int v0)] [.int r1] h
  obtain ⟨c3, hm⟩ := vv_zk_of hm
  obtain rfl := Option.some.inj hm
  exact rr_zret dX11_isMeasure_8 rfl c3 hp
theorem cc_X11_isMeasure {x : vv_E} {v0 : Int32} {h : vv_H} {o : Int32}  (hm : ff_X11_isMeasure v0 = some o) : vv_C x vv_TC yX11_isMeasure mm_X11_isMeasure [.int v0] h (fun v g => v = some (.int o) ∧ g = h) := vv_entry (by decide +kernel) rfl (Nat.le_of_ble_eq_true rfl) rfl (vt_X11_isMeasure  hm ⟨rfl, rfl⟩)
def ff_X11_isLot (v0 : Int32) : Option (Int32) := (ff_X11_isWithin v0 (0 : Int32) (5 : Int32)).bind (fun r1 => vv_zk r1 (some r1))
set_option maxHeartbeats 200000 in
theorem vt_X11_isLot {x : vv_E} {post : Option Value → vv_H → Prop} {v0 : Int32} {h : vv_H} {o : Int32}  (hm : ff_X11_isLot  v0 = some o) (hp : post (some (.int o)) h) : vv_V x vv_TC mm_X11_isLot post 0 [some (.int v0)] [] h := by
  unfold ff_X11_isLot at hm
  refine rr_iload_n (q := 1) dX11_isLot_0 rfl rfl ?_
  refine rr_iconst (q := 2) (v := 0) dX11_isLot_1 rfl (by decide) ?_
  refine rr_iconst (q := 3) (v := 5) dX11_isLot_2 rfl (by decide) ?_
  obtain ⟨r1, k2, hm⟩ := vv_bind hm
  refine rr_callS (q := 6) (M' := mm_X11_isWithin) (As := [.int v0, .int (0 : Int32), .int (5 : Int32)]) (st := []) (w := some (.int r1))  (cc_X11_isWithin  k2) rfl vy_X11_isWithin zw_219 ⟨Nat.le_of_ble_eq_true rfl, Nat.le_of_ble_eq_true rfl⟩ (Nat.le_of_ble_eq_true rfl) dX11_isLot_3 rfl ?_
  show vv_V x vv_TC mm_X11_isLot post 6 [some (.int v0)] [.int r1] h
  obtain ⟨c3, hm⟩ := vv_zk_of hm
  obtain rfl := Option.some.inj hm
  exact rr_zret dX11_isLot_6 rfl c3 hp
theorem cc_X11_isLot {x : vv_E} {v0 : Int32} {h : vv_H} {o : Int32}  (hm : ff_X11_isLot v0 = some o) : vv_C x vv_TC yX11_isLot mm_X11_isLot [.int v0] h (fun v g => v = some (.int o) ∧ g = h) := vv_entry (by decide +kernel) rfl (Nat.le_of_ble_eq_true rfl) rfl (vt_X11_isLot  hm ⟨rfl, rfl⟩)
def ff_X11_isShade (v0 : Int32) : Option (Int32) := (ff_X11_isWithin v0 (0 : Int32) (99 : Int32)).bind (fun r1 => vv_zk r1 (some r1))
set_option maxHeartbeats 200000 in
theorem vt_X11_isShade {x : vv_E} {post : Option Value → vv_H → Prop} {v0 : Int32} {h : vv_H} {o : Int32}  (hm : ff_X11_isShade  v0 = some o) (hp : post (some (.int o)) h) : vv_V x vv_TC mm_X11_isShade post 0 [some (.int v0)] [] h := by
  unfold ff_X11_isShade at hm
  refine rr_iload_n (q := 1) dX11_isShade_0 rfl rfl ?_
  refine rr_iconst (q := 2) (v := 0) dX11_isShade_1 rfl (by decide) ?_
  refine rr_bipush (q := 4) (v := 99) dX11_isShade_2 rfl (by decide) ?_
  obtain ⟨r1, k2, hm⟩ := vv_bind hm
  refine rr_callS (q := 7) (M' := mm_X11_isWithin) (As := [.int v0, .int (0 : Int32), .int (99 : Int32)]) (st := []) (w := some (.int r1))  (cc_X11_isWithin  k2) rfl vy_X11_isWithin zw_219 ⟨Nat.le_of_ble_eq_true rfl, Nat.le_of_ble_eq_true rfl⟩ (Nat.le_of_ble_eq_true rfl) dX11_isShade_4 rfl ?_
  show vv_V x vv_TC mm_X11_isShade post 7 [some (.int v0)] [.int r1] h
  obtain ⟨c3, hm⟩ := vv_zk_of hm
  obtain rfl := Option.some.inj hm
  exact rr_zret dX11_isShade_7 rfl c3 hp
theorem cc_X11_isShade {x : vv_E} {v0 : Int32} {h : vv_H} {o : Int32}  (hm : ff_X11_isShade v0 = some o) : vv_C x vv_TC yX11_isShade mm_X11_isShade [.int v0] h (fun v g => v = some (.int o) ∧ g = h) := vv_entry (by decide +kernel) rfl (Nat.le_of_ble_eq_true rfl) rfl (vt_X11_isShade  hm ⟨rfl, rfl⟩)
def ff_X11_isSheet (v0 : Int32) : Option (Int32) := (ff_X11_isWithin v0 (0 : Int32) (3 : Int32)).bind (fun r1 => vv_zk r1 (some r1))
set_option maxHeartbeats 200000 in
theorem vt_X11_isSheet {x : vv_E} {post : Option Value → vv_H → Prop} {v0 : Int32} {h : vv_H} {o : Int32}  (hm : ff_X11_isSheet  v0 = some o) (hp : post (some (.int o)) h) : vv_V x vv_TC mm_X11_isSheet post 0 [some (.int v0)] [] h := by
  unfold ff_X11_isSheet at hm
  refine rr_iload_n (q := 1) dX11_isSheet_0 rfl rfl ?_
  refine rr_iconst (q := 2) (v := 0) dX11_isSheet_1 rfl (by decide) ?_
  refine rr_iconst (q := 3) (v := 3) dX11_isSheet_2 rfl (by decide) ?_
  obtain ⟨r1, k2, hm⟩ := vv_bind hm
  refine rr_callS (q := 6) (M' := mm_X11_isWithin) (As := [.int v0, .int (0 : Int32), .int (3 : Int32)]) (st := []) (w := some (.int r1))  (cc_X11_isWithin  k2) rfl vy_X11_isWithin zw_219 ⟨Nat.le_of_ble_eq_true rfl, Nat.le_of_ble_eq_true rfl⟩ (Nat.le_of_ble_eq_true rfl) dX11_isSheet_3 rfl ?_
  show vv_V x vv_TC mm_X11_isSheet post 6 [some (.int v0)] [.int r1] h
  obtain ⟨c3, hm⟩ := vv_zk_of hm
  obtain rfl := Option.some.inj hm
  exact rr_zret dX11_isSheet_6 rfl c3 hp
theorem cc_X11_isSheet {x : vv_E} {v0 : Int32} {h : vv_H} {o : Int32}  (hm : ff_X11_isSheet v0 = some o) : vv_C x vv_TC yX11_isSheet mm_X11_isSheet [.int v0] h (fun v g => v = some (.int o) ∧ g = h) := vv_entry (by decide +kernel) rfl (Nat.le_of_ble_eq_true rfl) rfl (vt_X11_isSheet  hm ⟨rfl, rfl⟩)
def ff_X11_isLane (v0 : Int32) : Option (Int32) := (ff_X11_isWithin v0 (0 : Int32) (2 : Int32)).bind (fun r1 => vv_zk r1 (some r1))
set_option maxHeartbeats 200000 in
theorem vt_X11_isLane {x : vv_E} {post : Option Value → vv_H → Prop} {v0 : Int32} {h : vv_H} {o : Int32}  (hm : ff_X11_isLane  v0 = some o) (hp : post (some (.int o)) h) : vv_V x vv_TC mm_X11_isLane post 0 [some (.int v0)] [] h := by
  unfold ff_X11_isLane at hm
  refine rr_iload_n (q := 1) dX11_isLane_0 rfl rfl ?_
  refine rr_iconst (q := 2) (v := 0) dX11_isLane_1 rfl (by decide) ?_
  refine rr_iconst (q := 3) (v := 2) dX11_isLane_2 rfl (by decide) ?_
  obtain ⟨r1, k2, hm⟩ := vv_bind hm
  refine rr_callS (q := 6) (M' := mm_X11_isWithin) (As := [.int v0, .int (0 : Int32), .int (2 : Int32)]) (st := []) (w := some (.int r1))  (cc_X11_isWithin  k2) rfl vy_X11_isWithin zw_219 ⟨Nat.le_of_ble_eq_true rfl, Nat.le_of_ble_eq_true rfl⟩ (Nat.le_of_ble_eq_true rfl) dX11_isLane_3 rfl ?_
  show vv_V x vv_TC mm_X11_isLane post 6 [some (.int v0)] [.int r1] h
  obtain ⟨c3, hm⟩ := vv_zk_of hm
  obtain rfl := Option.some.inj hm
  exact rr_zret dX11_isLane_6 rfl c3 hp
theorem cc_X11_isLane {x : vv_E} {v0 : Int32} {h : vv_H} {o : Int32}  (hm : ff_X11_isLane v0 = some o) : vv_C x vv_TC yX11_isLane mm_X11_isLane [.int v0] h (fun v g => v = some (.int o) ∧ g = h) := vv_entry (by decide +kernel) rfl (Nat.le_of_ble_eq_true rfl) rfl (vt_X11_isLane  hm ⟨rfl, rfl⟩)
def ff_X11_measureNow (h : vv_H) (v1 : Int32) (v2 : Int32) : Option (Int32) := (ff_X2_asKnown h v1 v2 (h.1 0 0) (h.1 0 0)).bind (fun r1 => some r1)
set_option maxHeartbeats 200000 in
theorem vt_X11_measureNow {x : vv_E} {post : Option Value → vv_H → Prop} {h : vv_H} {v1 : Int32} {v2 : Int32} {o : Int32}  (hm : ff_X11_measureNow  h v1 v2 = some o) (hp : post (some (.int o)) h) : vv_V x vv_TC mm_X11_measureNow post 0 [some (.ref (vv_ad x 0)), some (.int v1), some (.int v2)] [] h := by
  unfold ff_X11_measureNow at hm
  refine rr_aload_n (q := 1) dX11_measureNow_0 rfl rfl ?_
  refine gf_X11_19 (q := 4) rfl dX11_measureNow_1 rfl ?_
  refine rr_iload_n (q := 5) dX11_measureNow_4 rfl rfl ?_
  refine rr_iload_n (q := 6) dX11_measureNow_5 rfl rfl ?_
  refine rr_aload_n (q := 7) dX11_measureNow_6 rfl rfl ?_
  refine gf_X11_89 (q := 10) rfl dX11_measureNow_7 rfl ?_
  refine rr_aload_n (q := 11) dX11_measureNow_10 rfl rfl ?_
  refine gf_X11_89 (q := 14) rfl dX11_measureNow_11 rfl ?_
  obtain ⟨r1, k2, hm⟩ := vv_bind hm
  refine rr_callV (q := 17) (M' := mm_X2_asKnown) (As := [.int v1, .int v2, .int (h.1 0 0), .int (h.1 0 0)]) (st := []) (w := some (.int r1)) (cc_X2_asKnown  k2) rfl ylC_16 ynC_16 rfl vy_X2_asKnown zw_251 ⟨Nat.le_of_ble_eq_true rfl, Nat.le_of_ble_eq_true rfl⟩ (Nat.le_of_ble_eq_true rfl) dX11_measureNow_14 rfl ?_
  show vv_V x vv_TC mm_X11_measureNow post 17 [some (.ref (vv_ad x 0)), some (.int v1), some (.int v2)] [.int r1] h
  obtain rfl := Option.some.inj hm
  exact rr_iret dX11_measureNow_17 rfl hp
theorem cc_X11_measureNow {x : vv_E} {h : vv_H} {v1 : Int32} {v2 : Int32} {o : Int32}  (hm : ff_X11_measureNow h v1 v2 = some o) : vv_C x vv_TC yX11_measureNow mm_X11_measureNow [.ref (vv_ad x 0), .int v1, .int v2] h (fun v g => v = some (.int o) ∧ g = h) := vv_entry (by decide +kernel) rfl (Nat.le_of_ble_eq_true rfl) rfl (vt_X11_measureNow  hm ⟨rfl, rfl⟩)
def ff_X11_lifeOn (h : vv_H) (v1 : Int32) (v2 : Int32) : Option (Int32) := (ff_X6_latest h (h.2.2 0) (9 : Int32) v1 v2 (365 : Int32)).bind (fun r1 => some r1)
set_option maxHeartbeats 200000 in
theorem vt_X11_lifeOn {x : vv_E} {post : Option Value → vv_H → Prop} {h : vv_H} {v1 : Int32} {v2 : Int32} {o : Int32}  (hm : ff_X11_lifeOn  h v1 v2 = some o) (hp : post (some (.int o)) h) : vv_V x vv_TC mm_X11_lifeOn post 0 [some (.ref (vv_ad x 0)), some (.int v1), some (.int v2)] [] h := by
  unfold ff_X11_lifeOn at hm
  refine rr_aload_n (q := 1) dX11_lifeOn_0 rfl rfl ?_
  refine gf_X11_47 (q := 4) rfl dX11_lifeOn_1 rfl ?_
  refine rr_bipush (q := 6) (v := 9) dX11_lifeOn_4 rfl (by decide) ?_
  refine rr_iload_n (q := 7) dX11_lifeOn_6 rfl rfl ?_
  refine rr_iload_n (q := 8) dX11_lifeOn_7 rfl rfl ?_
  refine rr_sipush (q := 11) (v := 365) dX11_lifeOn_8 rfl (by decide) ?_
  obtain ⟨r1, k2, hm⟩ := vv_bind hm
  refine rr_callV (q := 14) (M' := mm_X6_latest) (As := [.int (9 : Int32), .int v1, .int v2, .int (365 : Int32)]) (st := []) (w := some (.int r1)) (cc_X6_latest  k2) rfl (yr_0 (h.2.2 0)).1 (yr_0 (h.2.2 0)).2 rfl vy_X6_latest zw_257 ⟨Nat.le_of_ble_eq_true rfl, Nat.le_of_ble_eq_true rfl⟩ (Nat.le_of_ble_eq_true rfl) dX11_lifeOn_11 rfl ?_
  show vv_V x vv_TC mm_X11_lifeOn post 14 [some (.ref (vv_ad x 0)), some (.int v1), some (.int v2)] [.int r1] h
  obtain rfl := Option.some.inj hm
  exact rr_iret dX11_lifeOn_14 rfl hp
theorem cc_X11_lifeOn {x : vv_E} {h : vv_H} {v1 : Int32} {v2 : Int32} {o : Int32}  (hm : ff_X11_lifeOn h v1 v2 = some o) : vv_C x vv_TC yX11_lifeOn mm_X11_lifeOn [.ref (vv_ad x 0), .int v1, .int v2] h (fun v g => v = some (.int o) ∧ g = h) := vv_entry (by decide +kernel) rfl (Nat.le_of_ble_eq_true rfl) rfl (vt_X11_lifeOn  hm ⟨rfl, rfl⟩)
def ff_X11_priceOn (h : vv_H) (v1 : Int32) (v2 : Int32) : Option (Int32) := (ff_X6_latest h (h.2.2 0) (10 : Int32) v1 v2 (100 : Int32)).bind (fun r1 => some r1)
set_option maxHeartbeats 200000 in
theorem vt_X11_priceOn {x : vv_E} {post : Option Value → vv_H → Prop} {h : vv_H} {v1 : Int32} {v2 : Int32} {o : Int32}  (hm : ff_X11_priceOn  h v1 v2 = some o) (hp : post (some (.int o)) h) : vv_V x vv_TC mm_X11_priceOn post 0 [some (.ref (vv_ad x 0)), some (.int v1), some (.int v2)] [] h := by
  unfold ff_X11_priceOn at hm
  refine rr_aload_n (q := 1) dX11_priceOn_0 rfl rfl ?_
  refine gf_X11_47 (q := 4) rfl dX11_priceOn_1 rfl ?_
  refine rr_bipush (q := 6) (v := 10) dX11_priceOn_4 rfl (by decide) ?_
  refine rr_iload_n (q := 7) dX11_priceOn_6 rfl rfl ?_
  refine rr_iload_n (q := 8) dX11_priceOn_7 rfl rfl ?_
  refine rr_bipush (q := 10) (v := 100) dX11_priceOn_8 rfl (by decide) ?_
  obtain ⟨r1, k2, hm⟩ := vv_bind hm
  refine rr_callV (q := 13) (M' := mm_X6_latest) (As := [.int (10 : Int32), .int v1, .int v2, .int (100 : Int32)]) (st := []) (w := some (.int r1)) (cc_X6_latest  k2) rfl (yr_0 (h.2.2 0)).1 (yr_0 (h.2.2 0)).2 rfl vy_X6_latest zw_257 ⟨Nat.le_of_ble_eq_true rfl, Nat.le_of_ble_eq_true rfl⟩ (Nat.le_of_ble_eq_true rfl) dX11_priceOn_10 rfl ?_
  show vv_V x vv_TC mm_X11_priceOn post 13 [some (.ref (vv_ad x 0)), some (.int v1), some (.int v2)] [.int r1] h
  obtain rfl := Option.some.inj hm
  exact rr_iret dX11_priceOn_13 rfl hp
theorem cc_X11_priceOn {x : vv_E} {h : vv_H} {v1 : Int32} {v2 : Int32} {o : Int32}  (hm : ff_X11_priceOn h v1 v2 = some o) : vv_C x vv_TC yX11_priceOn mm_X11_priceOn [.ref (vv_ad x 0), .int v1, .int v2] h (fun v g => v = some (.int o) ∧ g = h) := vv_entry (by decide +kernel) rfl (Nat.le_of_ble_eq_true rfl) rfl (vt_X11_priceOn  hm ⟨rfl, rfl⟩)
def ff_X11_stockOf_B5 (u1 : Int32) (u2 : Int32) (h : vv_H) (s3 : Int32) (s4 : Int32) : Option ((Int32 × Int32) ⊕ ((Int32))) := (if (h.1 156 0) ≤ s4 then some (.inr s3) else vv_ck s4 36 ((if (h.1 160 s4.toNatClampNeg) = u1 then (ff_X11_kindOf h s4).bind (fun r4 => (if r4 = u2 then vv_let (s3 + 1) (fun w8 => vv_let (s4 + 1) (fun w10 => some (.inl (w8, w10)))) else vv_let (s4 + 1) (fun w6 => some (.inl (s3, w6))))) else vv_let (s4 + 1) (fun w2 => some (.inl (s3, w2))))))
def ff_X11_stockOf (h : vv_H) (v1 : Int32) (v2 : Int32) : Option (Int32) := (vv_lp (fun (zs : Int32 × Int32) => ff_X11_stockOf_B5  v1 v2 h zs.1 zs.2) vv_F ((0 : Int32), (0 : Int32))).bind (fun (e13 : (Int32)) => some e13)
set_option maxHeartbeats 200000 in
theorem vt_X11_stockOf_B5 {x : vv_E} {post : Option Value → vv_H → Prop} {u1 : Int32} {u2 : Int32} {h : vv_H} {s3 : Int32} {s4 : Int32} {o : (Int32 × Int32) ⊕ ((Int32))}  (hm : ff_X11_stockOf_B5  u1 u2 h s3 s4 = some o) (hI : ∀ (z3 : Int32) (z4 : Int32) , o = .inl (z3, z4) → vv_V x vv_TC mm_X11_stockOf post 5 [some (.ref (vv_ad x 0)), some (.int u1), some (.int u2), some (.int z3), some (.int z4)] [] h) (hX0 : ∀ (z3 : Int32), o = .inr z3 → vv_V x vv_TC mm_X11_stockOf post 50 [none, none, none, some (.int z3), none] [] h) : vv_V x vv_TC mm_X11_stockOf post 5 [some (.ref (vv_ad x 0)), some (.int u1), some (.int u2), some (.int s3), some (.int s4)] [] h := by
  unfold ff_X11_stockOf_B5 at hm
  refine rr_iload (q := 7) dX11_stockOf_5 rfl rfl ?_
  refine rr_aload_n (q := 8) dX11_stockOf_7 rfl rfl ?_
  refine gf_X11_64 (q := 11) rfl dX11_stockOf_8 rfl ?_
  refine gf_X11_339 (q := 14) rfl dX11_stockOf_11 rfl ?_
  refine rr_icmp_ge (q := 17) (tgt := 50) dX11_stockOf_14 (by decide) rfl hm (fun hm => ?_) (fun hm => ?_)
  · obtain rfl := Option.some.inj hm
    refine rr_sub [false, false, false, true, false] rfl ?_
    exact hX0 s3 rfl
  · refine rr_aload_n (q := 18) dX11_stockOf_17 rfl rfl ?_
    refine gf_X11_64 (q := 21) rfl dX11_stockOf_18 rfl ?_
    refine gf_X11_256 (q := 24) rfl dX11_stockOf_21 rfl ?_
    refine rr_iload (q := 26) dX11_stockOf_24 rfl rfl ?_
    obtain ⟨c1, hm⟩ := vv_ck_of hm
    refine rr_iald (q := 27) ylC_160 ynC_160 c1 dX11_stockOf_26 rfl ?_
    refine rr_iload_n (q := 28) dX11_stockOf_27 rfl rfl ?_
    refine rr_icmp_ne (q := 31) (tgt := 44) dX11_stockOf_28 (by decide) rfl hm (fun hm => ?_) (fun hm => ?_)
    · obtain ⟨w2, c3, hm⟩ := vv_let_of hm
      refine rr_iinc (q := 47) [some (.ref (vv_ad x 0)), some (.int u1), some (.int u2), some (.int s3), some (.int w2)] dX11_stockOf_44 rfl rfl c3.symm (Nat.le_of_ble_eq_true rfl) rfl rfl ?_
      refine rr_goto (tgt := 5) dX11_stockOf_47 (by decide) ?_
      obtain rfl := Option.some.inj hm
      exact hI s3 w2 rfl
    · refine rr_aload_n (q := 32) dX11_stockOf_31 rfl rfl ?_
      refine rr_iload (q := 34) dX11_stockOf_32 rfl rfl ?_
      obtain ⟨r4, k5, hm⟩ := vv_bind hm
      refine rr_callV (q := 37) (M' := mm_X11_kindOf) (As := [.int s4]) (st := []) (w := some (.int r4)) (cc_X11_kindOf  k5) rfl ylC_0 ynC_0 rfl vy_X11_kindOf zw_263 ⟨Nat.le_of_ble_eq_true rfl, Nat.le_of_ble_eq_true rfl⟩ (Nat.le_of_ble_eq_true rfl) dX11_stockOf_34 rfl ?_
      show vv_V x vv_TC mm_X11_stockOf post 37 [some (.ref (vv_ad x 0)), some (.int u1), some (.int u2), some (.int s3), some (.int s4)] [.int r4] h
      refine rr_iload_n (q := 38) dX11_stockOf_37 rfl rfl ?_
      refine rr_icmp_ne (q := 41) (tgt := 44) dX11_stockOf_38 (by decide) rfl hm (fun hm => ?_) (fun hm => ?_)
      · obtain ⟨w6, c7, hm⟩ := vv_let_of hm
        refine rr_iinc (q := 47) [some (.ref (vv_ad x 0)), some (.int u1), some (.int u2), some (.int s3), some (.int w6)] dX11_stockOf_44 rfl rfl c7.symm (Nat.le_of_ble_eq_true rfl) rfl rfl ?_
        refine rr_goto (tgt := 5) dX11_stockOf_47 (by decide) ?_
        obtain rfl := Option.some.inj hm
        exact hI s3 w6 rfl
      · obtain ⟨w8, c9, hm⟩ := vv_let_of hm
        refine rr_iinc (q := 44) [some (.ref (vv_ad x 0)), some (.int u1), some (.int u2), some (.int w8), some (.int s4)] dX11_stockOf_41 rfl rfl c9.symm (Nat.le_of_ble_eq_true rfl) rfl rfl ?_
        obtain ⟨w10, c11, hm⟩ := vv_let_of hm
        refine rr_iinc (q := 47) [some (.ref (vv_ad x 0)), some (.int u1), some (.int u2), some (.int w8), some (.int w10)] dX11_stockOf_44 rfl rfl c11.symm (Nat.le_of_ble_eq_true rfl) rfl rfl ?_
        refine rr_goto (tgt := 5) dX11_stockOf_47 (by decide) ?_
        obtain rfl := Option.some.inj hm
        exact hI w8 w10 rfl
set_option maxHeartbeats 200000 in
theorem vt_X11_stockOf {x : vv_E} {post : Option Value → vv_H → Prop} {h : vv_H} {v1 : Int32} {v2 : Int32} {o : Int32}  (hm : ff_X11_stockOf  h v1 v2 = some o) (hp : post (some (.int o)) h) : vv_V x vv_TC mm_X11_stockOf post 0 [some (.ref (vv_ad x 0)), some (.int v1), some (.int v2), none, none] [] h := by
  unfold ff_X11_stockOf at hm
  refine rr_iconst (q := 1) (v := 0) dX11_stockOf_0 rfl (by decide) ?_
  refine rr_istore_n (q := 2) [some (.ref (vv_ad x 0)), some (.int v1), some (.int v2), some (.int (0 : Int32)), none] dX11_stockOf_1 rfl rfl (Nat.le_of_ble_eq_true rfl) rfl rfl ?_
  refine rr_iconst (q := 3) (v := 0) dX11_stockOf_2 rfl (by decide) ?_
  refine rr_istore (q := 5) [some (.ref (vv_ad x 0)), some (.int v1), some (.int v2), some (.int (0 : Int32)), some (.int (0 : Int32))] dX11_stockOf_3 rfl (Nat.le_of_ble_eq_true rfl) rfl rfl ?_
  obtain ⟨r12, k14, hm⟩ := vv_bind hm
  refine vv_lp_link (P := fun (zs : Int32 × Int32) => vv_V x vv_TC mm_X11_stockOf post 5 [some (.ref (vv_ad x 0)), some (.int v1), some (.int v2), some (.int zs.1), some (.int zs.2)] [] h) (Q := (fun (e13 : (Int32)) => vv_V x vv_TC mm_X11_stockOf post 50 [none, none, none, some (.int e13), none] [] h)) (fun zs o hm hI hX => ?_) vv_F ((0 : Int32), (0 : Int32)) r12 k14 ?_
  · exact vt_X11_stockOf_B5   hm (fun z3 z4 e => hI (z3, z4) e) (fun z3 e => hX z3 e)
  · generalize r12 = e13 at hm ⊢
    try dsimp only [Sum.elim_inl, Sum.elim_inr] at hm
    try dsimp only [Sum.elim_inl, Sum.elim_inr]
    refine rr_iload_n (q := 51) dX11_stockOf_50 rfl rfl ?_
    obtain rfl := Option.some.inj hm
    exact rr_iret dX11_stockOf_51 rfl hp
theorem cc_X11_stockOf {x : vv_E} {h : vv_H} {v1 : Int32} {v2 : Int32} {o : Int32}  (hm : ff_X11_stockOf h v1 v2 = some o) : vv_C x vv_TC yX11_stockOf mm_X11_stockOf [.ref (vv_ad x 0), .int v1, .int v2] h (fun v g => v = some (.int o) ∧ g = h) := vv_entry (by decide +kernel) rfl (Nat.le_of_ble_eq_true rfl) rfl (vt_X11_stockOf  hm ⟨rfl, rfl⟩)
def ff_X12_isBody (h : vv_H) (v1 : Int32) : Option (Int32) := (ff_X12_in v1.toInt64 (0 : Int64) (((h.1 0 1) - (1 : Int32)).toInt64)).bind (fun r1 => vv_zk r1 (some r1))
set_option maxHeartbeats 200000 in
theorem vt_X12_isBody {x : vv_E} {post : Option Value → vv_H → Prop} {h : vv_H} {v1 : Int32} {o : Int32}  (hm : ff_X12_isBody  h v1 = some o) (hp : post (some (.int o)) h) : vv_V x vv_TR mm_X12_isBody post 0 [some (.ref (vv_ad x 0)), some (.int v1)] [] h := by
  unfold ff_X12_isBody at hm
  refine rr_iload_n (q := 1) dX12_isBody_0 rfl rfl ?_
  refine rr_i2l (q := 2) dX12_isBody_1 rfl ?_
  refine rr_lconst (q := 3) (v := 0) dX12_isBody_2 rfl (by decide) ?_
  refine rr_aload_n (q := 4) dX12_isBody_3 rfl rfl ?_
  refine gf_X12_177 (q := 7) rfl dX12_isBody_4 rfl ?_
  refine rr_iconst (q := 8) (v := 1) dX12_isBody_7 rfl (by decide) ?_
  refine rr_isub (q := 9) dX12_isBody_8 rfl ?_
  refine rr_i2l (q := 10) dX12_isBody_9 rfl ?_
  obtain ⟨r1, k2, hm⟩ := vv_bind hm
  refine rr_callS (q := 13) (M' := mm_X12_in) (As := [.long v1.toInt64, .long (0 : Int64), .long (((h.1 0 1) - (1 : Int32)).toInt64)]) (st := []) (w := some (.int r1))  (cc_X12_in  k2) rfl vy_X12_in zw_267 ⟨Nat.le_of_ble_eq_true rfl, Nat.le_of_ble_eq_true rfl⟩ (Nat.le_of_ble_eq_true rfl) dX12_isBody_10 rfl ?_
  show vv_V x vv_TR mm_X12_isBody post 13 [some (.ref (vv_ad x 0)), some (.int v1)] [.int r1] h
  obtain ⟨c3, hm⟩ := vv_zk_of hm
  obtain rfl := Option.some.inj hm
  exact rr_zret dX12_isBody_13 rfl c3 hp
theorem cc_X12_isBody {x : vv_E} {h : vv_H} {v1 : Int32} {o : Int32}  (hm : ff_X12_isBody h v1 = some o) : vv_C x vv_TR yX12_isBody mm_X12_isBody [.ref (vv_ad x 0), .int v1] h (fun v g => v = some (.int o) ∧ g = h) := vv_entry (by decide +kernel) rfl (Nat.le_of_ble_eq_true rfl) rfl (vt_X12_isBody  hm ⟨rfl, rfl⟩)
def ff_X12_isDay (v0 : Int32) : Option (Int32) := (ff_X12_in v0.toInt64 (0 : Int64) (9999 : Int64)).bind (fun r1 => vv_zk r1 (some r1))
set_option maxHeartbeats 200000 in
theorem vt_X12_isDay {x : vv_E} {post : Option Value → vv_H → Prop} {v0 : Int32} {h : vv_H} {o : Int32}  (hm : ff_X12_isDay  v0 = some o) (hp : post (some (.int o)) h) : vv_V x vv_TR mm_X12_isDay post 0 [some (.int v0)] [] h := by
  unfold ff_X12_isDay at hm
  refine rr_iload_n (q := 1) dX12_isDay_0 rfl rfl ?_
  refine rr_i2l (q := 2) dX12_isDay_1 rfl ?_
  refine rr_lconst (q := 3) (v := 0) dX12_isDay_2 rfl (by decide) ?_
  refine rr_ldc2 (q := 6) dX12_isDay_3 rfl zw_268 ?_
  obtain ⟨r1, k2, hm⟩ := vv_bind hm
  refine rr_callS (q := 9) (M' := mm_X12_in) (As := [.long v0.toInt64, .long (0 : Int64), .long (9999 : Int64)]) (st := []) (w := some (.int r1))  (cc_X12_in  k2) rfl vy_X12_in zw_267 ⟨Nat.le_of_ble_eq_true rfl, Nat.le_of_ble_eq_true rfl⟩ (Nat.le_of_ble_eq_true rfl) dX12_isDay_6 rfl ?_
  show vv_V x vv_TR mm_X12_isDay post 9 [some (.int v0)] [.int r1] h
  obtain ⟨c3, hm⟩ := vv_zk_of hm
  obtain rfl := Option.some.inj hm
  exact rr_zret dX12_isDay_9 rfl c3 hp
theorem cc_X12_isDay {x : vv_E} {v0 : Int32} {h : vv_H} {o : Int32}  (hm : ff_X12_isDay v0 = some o) : vv_C x vv_TR yX12_isDay mm_X12_isDay [.int v0] h (fun v g => v = some (.int o) ∧ g = h) := vv_entry (by decide +kernel) rfl (Nat.le_of_ble_eq_true rfl) rfl (vt_X12_isDay  hm ⟨rfl, rfl⟩)
def ff_X12_day (h : vv_H) (v1 : Int32) : Option (Int32 × vv_H) := (ff_X12_in v1.toInt64 ((h.1 0 0).toInt64) (9999 : Int64)).bind (fun r1 => (if r1 = 0 then some ((-1 : Int32), h) else vv_let (h.1 0 0) (fun w3 => vv_let (vv_iu h 0 0 v1) (fun g5 => some (w3, g5)))))
set_option maxHeartbeats 200000 in
theorem vt_X12_day {x : vv_E} {post : Option Value → vv_H → Prop} {h : vv_H} {v1 : Int32} {o : Int32 × vv_H}  (hm : ff_X12_day  h v1 = some o) (hp : post (some (.int o.1)) o.2) : vv_V x vv_TR mm_X12_day post 0 [some (.ref (vv_ad x 0)), some (.int v1), none] [] h := by
  unfold ff_X12_day at hm
  refine rr_iload_n (q := 1) dX12_day_0 rfl rfl ?_
  refine rr_i2l (q := 2) dX12_day_1 rfl ?_
  refine rr_aload_n (q := 3) dX12_day_2 rfl rfl ?_
  refine gf_X12_187 (q := 6) rfl dX12_day_3 rfl ?_
  refine rr_i2l (q := 7) dX12_day_6 rfl ?_
  refine rr_ldc2 (q := 10) dX12_day_7 rfl zw_268 ?_
  obtain ⟨r1, k2, hm⟩ := vv_bind hm
  refine rr_callS (q := 13) (M' := mm_X12_in) (As := [.long v1.toInt64, .long ((h.1 0 0).toInt64), .long (9999 : Int64)]) (st := []) (w := some (.int r1))  (cc_X12_in  k2) rfl vy_X12_in zw_267 ⟨Nat.le_of_ble_eq_true rfl, Nat.le_of_ble_eq_true rfl⟩ (Nat.le_of_ble_eq_true rfl) dX12_day_10 rfl ?_
  show vv_V x vv_TR mm_X12_day post 13 [some (.ref (vv_ad x 0)), some (.int v1), none] [.int r1] h
  refine rr_if_ne (q := 16) (tgt := 18) dX12_day_13 (by decide) rfl hm (fun hm => ?_) (fun hm => ?_)
  · refine rr_aload_n (q := 19) dX12_day_18 rfl rfl ?_
    refine gf_X12_187 (q := 22) rfl dX12_day_19 rfl ?_
    obtain ⟨w3, c4, hm⟩ := vv_let_of hm
    rw [← c4]
    refine rr_istore_n (q := 23) [some (.ref (vv_ad x 0)), some (.int v1), some (.int w3)] dX12_day_22 rfl rfl (Nat.le_of_ble_eq_true rfl) rfl rfl ?_
    refine rr_aload_n (q := 24) dX12_day_23 rfl rfl ?_
    refine rr_iload_n (q := 25) dX12_day_24 rfl rfl ?_
    refine pf_X12_187 (q := 28) rfl dX12_day_25 rfl (fun g5 c6 => ?_)
    replace hm := vv_letE hm c6
    refine rr_iload_n (q := 29) dX12_day_28 rfl rfl ?_
    obtain rfl := Option.some.inj hm
    exact rr_iret dX12_day_29 rfl hp
  · refine rr_iconst (q := 17) (v := -1) dX12_day_16 rfl (by decide) ?_
    obtain rfl := Option.some.inj hm
    exact rr_iret dX12_day_17 rfl hp
theorem cc_X12_day {x : vv_E} {h : vv_H} {v1 : Int32} {o : Int32 × vv_H}  (hm : ff_X12_day h v1 = some o) : vv_C x vv_TR yX12_day mm_X12_day [.ref (vv_ad x 0), .int v1] h (fun v g => v = some (.int o.1) ∧ g = o.2) := vv_entry (by decide +kernel) rfl (Nat.le_of_ble_eq_true rfl) rfl (vt_X12_day  hm ⟨rfl, rfl⟩)
def ff_X12_body (h : vv_H) (v1 : Int32) (v2 : Int32) (v3 : Int32) : Option (Int32 × vv_H) := (ff_X12_in v1.toInt64 (0 : Int64) (5 : Int64)).bind (fun r1 => (if r1 = 0 then some ((-1 : Int32), h) else (ff_X12_in v2.toInt64 (0 : Int64) (3 : Int64)).bind (fun r3 => (if r3 = 0 then some ((-1 : Int32), h) else (ff_X12_in v3.toInt64 (0 : Int64) (2 : Int64)).bind (fun r5 => (if r5 = 0 then some ((-1 : Int32), h) else (if (h.1 0 1) = (12 : Int32) then some ((-3 : Int32), h) else vv_ck (h.1 0 1) 12 (vv_let (vv_iu h 1 (h.1 0 1).toNatClampNeg v1) (fun g8 => vv_ck (g8.1 0 1) 12 (vv_let (vv_iu g8 2 (g8.1 0 1).toNatClampNeg v2) (fun g11 => vv_ck (g11.1 0 1) 12 (vv_let (vv_iu g11 3 (g11.1 0 1).toNatClampNeg v3) (fun g14 => vv_ck (g14.1 0 1) 12 (vv_let (vv_iu g14 4 (g14.1 0 1).toNatClampNeg (0 : Int32)) (fun g17 => vv_let (vv_iu g17 0 1 ((g17.1 0 1) + (1 : Int32))) (fun g19 => some (((g19.1 0 1) - (1 : Int32)), g19)))))))))))))))))
set_option maxHeartbeats 200000 in
theorem vt_X12_body {x : vv_E} {post : Option Value → vv_H → Prop} {h : vv_H} {v1 : Int32} {v2 : Int32} {v3 : Int32} {o : Int32 × vv_H}  (hm : ff_X12_body  h v1 v2 v3 = some o) (hp : post (some (.int o.1)) o.2) : vv_V x vv_TR mm_X12_body post 0 [some (.ref (vv_ad x 0)), some (.int v1), some (.int v2), some (.int v3)] [] h := by
  unfold ff_X12_body at hm
  refine rr_iload_n (q := 1) dX12_body_0 rfl rfl ?_
  refine rr_i2l (q := 2) dX12_body_1 rfl ?_
  refine rr_lconst (q := 3) (v := 0) dX12_body_2 rfl (by decide) ?_
  refine rr_ldc2 (q := 6) dX12_body_3 rfl zw_269 ?_
  obtain ⟨r1, k2, hm⟩ := vv_bind hm
  refine rr_callS (q := 9) (M' := mm_X12_in) (As := [.long v1.toInt64, .long (0 : Int64), .long (5 : Int64)]) (st := []) (w := some (.int r1))  (cc_X12_in  k2) rfl vy_X12_in zw_267 ⟨Nat.le_of_ble_eq_true rfl, Nat.le_of_ble_eq_true rfl⟩ (Nat.le_of_ble_eq_true rfl) dX12_body_6 rfl ?_
  show vv_V x vv_TR mm_X12_body post 9 [some (.ref (vv_ad x 0)), some (.int v1), some (.int v2), some (.int v3)] [.int r1] h
  refine rr_if_eq (q := 12) (tgt := 36) dX12_body_9 (by decide) rfl hm (fun hm => ?_) (fun hm => ?_)
  · refine rr_iconst (q := 37) (v := -1) dX12_body_36 rfl (by decide) ?_
    obtain rfl := Option.some.inj hm
    exact rr_iret dX12_body_37 rfl hp
  · refine rr_iload_n (q := 13) dX12_body_12 rfl rfl ?_
    refine rr_i2l (q := 14) dX12_body_13 rfl ?_
    refine rr_lconst (q := 15) (v := 0) dX12_body_14 rfl (by decide) ?_
    refine rr_ldc2 (q := 18) dX12_body_15 rfl zw_270 ?_
    obtain ⟨r3, k4, hm⟩ := vv_bind hm
    refine rr_callS (q := 21) (M' := mm_X12_in) (As := [.long v2.toInt64, .long (0 : Int64), .long (3 : Int64)]) (st := []) (w := some (.int r3))  (cc_X12_in  k4) rfl vy_X12_in zw_267 ⟨Nat.le_of_ble_eq_true rfl, Nat.le_of_ble_eq_true rfl⟩ (Nat.le_of_ble_eq_true rfl) dX12_body_18 rfl ?_
    show vv_V x vv_TR mm_X12_body post 21 [some (.ref (vv_ad x 0)), some (.int v1), some (.int v2), some (.int v3)] [.int r3] h
    refine rr_if_eq (q := 24) (tgt := 36) dX12_body_21 (by decide) rfl hm (fun hm => ?_) (fun hm => ?_)
    · refine rr_iconst (q := 37) (v := -1) dX12_body_36 rfl (by decide) ?_
      obtain rfl := Option.some.inj hm
      exact rr_iret dX12_body_37 rfl hp
    · refine rr_iload_n (q := 25) dX12_body_24 rfl rfl ?_
      refine rr_i2l (q := 26) dX12_body_25 rfl ?_
      refine rr_lconst (q := 27) (v := 0) dX12_body_26 rfl (by decide) ?_
      refine rr_ldc2 (q := 30) dX12_body_27 rfl zw_271 ?_
      obtain ⟨r5, k6, hm⟩ := vv_bind hm
      refine rr_callS (q := 33) (M' := mm_X12_in) (As := [.long v3.toInt64, .long (0 : Int64), .long (2 : Int64)]) (st := []) (w := some (.int r5))  (cc_X12_in  k6) rfl vy_X12_in zw_267 ⟨Nat.le_of_ble_eq_true rfl, Nat.le_of_ble_eq_true rfl⟩ (Nat.le_of_ble_eq_true rfl) dX12_body_30 rfl ?_
      show vv_V x vv_TR mm_X12_body post 33 [some (.ref (vv_ad x 0)), some (.int v1), some (.int v2), some (.int v3)] [.int r5] h
      refine rr_if_ne (q := 36) (tgt := 38) dX12_body_33 (by decide) rfl hm (fun hm => ?_) (fun hm => ?_)
      · refine rr_aload_n (q := 39) dX12_body_38 rfl rfl ?_
        refine gf_X12_177 (q := 42) rfl dX12_body_39 rfl ?_
        refine rr_bipush (q := 44) (v := 12) dX12_body_42 rfl (by decide) ?_
        refine rr_icmp_ne (q := 47) (tgt := 50) dX12_body_44 (by decide) rfl hm (fun hm => ?_) (fun hm => ?_)
        · refine rr_aload_n (q := 51) dX12_body_50 rfl rfl ?_
          refine gf_X12_7 (q := 54) rfl dX12_body_51 rfl ?_
          refine rr_aload_n (q := 55) dX12_body_54 rfl rfl ?_
          refine gf_X12_177 (q := 58) rfl dX12_body_55 rfl ?_
          refine rr_iload_n (q := 59) dX12_body_58 rfl rfl ?_
          obtain ⟨c7, hm⟩ := vv_ck_of hm
          obtain ⟨g8, c9, hm⟩ := vv_let_of hm
          refine rr_iast (q := 60) ylR_1 ynR_1 c7 dX12_body_59 rfl ?_
          rw [← c9]
          refine rr_aload_n (q := 61) dX12_body_60 rfl rfl ?_
          refine gf_X12_13 (q := 64) rfl dX12_body_61 rfl ?_
          refine rr_aload_n (q := 65) dX12_body_64 rfl rfl ?_
          refine gf_X12_177 (q := 68) rfl dX12_body_65 rfl ?_
          refine rr_iload_n (q := 69) dX12_body_68 rfl rfl ?_
          obtain ⟨c10, hm⟩ := vv_ck_of hm
          obtain ⟨g11, c12, hm⟩ := vv_let_of hm
          refine rr_iast (q := 70) ylR_2 ynR_2 c10 dX12_body_69 rfl ?_
          rw [← c12]
          refine rr_aload_n (q := 71) dX12_body_70 rfl rfl ?_
          refine gf_X12_16 (q := 74) rfl dX12_body_71 rfl ?_
          refine rr_aload_n (q := 75) dX12_body_74 rfl rfl ?_
          refine gf_X12_177 (q := 78) rfl dX12_body_75 rfl ?_
          refine rr_iload_n (q := 79) dX12_body_78 rfl rfl ?_
          obtain ⟨c13, hm⟩ := vv_ck_of hm
          obtain ⟨g14, c15, hm⟩ := vv_let_of hm
          refine rr_iast (q := 80) ylR_3 ynR_3 c13 dX12_body_79 rfl ?_
          rw [← c15]
          refine rr_aload_n (q := 81) dX12_body_80 rfl rfl ?_
          refine gf_X12_19 (q := 84) rfl dX12_body_81 rfl ?_
          refine rr_aload_n (q := 85) dX12_body_84 rfl rfl ?_
          refine gf_X12_177 (q := 88) rfl dX12_body_85 rfl ?_
          refine rr_iconst (q := 89) (v := 0) dX12_body_88 rfl (by decide) ?_
          obtain ⟨c16, hm⟩ := vv_ck_of hm
          obtain ⟨g17, c18, hm⟩ := vv_let_of hm
          refine rr_iast (q := 90) ylR_4 ynR_4 c16 dX12_body_89 rfl ?_
          rw [← c18]
          refine rr_aload_n (q := 91) dX12_body_90 rfl rfl ?_
          refine rr_dup (q := 92) dX12_body_91 rfl rfl ?_
          refine gf_X12_177 (q := 95) rfl dX12_body_92 rfl ?_
          refine rr_iconst (q := 96) (v := 1) dX12_body_95 rfl (by decide) ?_
          refine rr_iadd (q := 97) dX12_body_96 rfl ?_
          refine pf_X12_177 (q := 100) rfl dX12_body_97 rfl (fun g19 c20 => ?_)
          replace hm := vv_letE hm c20
          refine rr_aload_n (q := 101) dX12_body_100 rfl rfl ?_
          refine gf_X12_177 (q := 104) rfl dX12_body_101 rfl ?_
          refine rr_iconst (q := 105) (v := 1) dX12_body_104 rfl (by decide) ?_
          refine rr_isub (q := 106) dX12_body_105 rfl ?_
          obtain rfl := Option.some.inj hm
          exact rr_iret dX12_body_106 rfl hp
        · refine rr_bipush (q := 49) (v := -3) dX12_body_47 rfl (by decide) ?_
          obtain rfl := Option.some.inj hm
          exact rr_iret dX12_body_49 rfl hp
      · refine rr_iconst (q := 37) (v := -1) dX12_body_36 rfl (by decide) ?_
        obtain rfl := Option.some.inj hm
        exact rr_iret dX12_body_37 rfl hp
theorem cc_X12_body {x : vv_E} {h : vv_H} {v1 : Int32} {v2 : Int32} {v3 : Int32} {o : Int32 × vv_H}  (hm : ff_X12_body h v1 v2 v3 = some o) : vv_C x vv_TR yX12_body mm_X12_body [.ref (vv_ad x 0), .int v1, .int v2, .int v3] h (fun v g => v = some (.int o.1) ∧ g = o.2) := vv_entry (by decide +kernel) rfl (Nat.le_of_ble_eq_true rfl) rfl (vt_X12_body  hm ⟨rfl, rfl⟩)
def ff_X12_size (h : vv_H) (v1 : Int32) (v2 : Int32) (v3 : Int32) (v4 : Int32) (v5 : Int32) (v6 : Int32) (v7 : Int32) : Option (Int32 × vv_H) := (ff_X12_in v1.toInt64 (0 : Int64) (3 : Int64)).bind (fun r1 => (if r1 = 0 then some ((-1 : Int32), h) else (ff_X12_in v2.toInt64 (0 : Int64) v3.toInt64).bind (fun r3 => (if r3 = 0 then some ((-1 : Int32), h) else (ff_X12_in v3.toInt64 v2.toInt64 (250 : Int64)).bind (fun r5 => (if r5 = 0 then some ((-1 : Int32), h) else (ff_X12_in v4.toInt64 (0 : Int64) v5.toInt64).bind (fun r7 => (if r7 = 0 then some ((-1 : Int32), h) else (ff_X12_in v5.toInt64 v4.toInt64 (250 : Int64)).bind (fun r9 => (if r9 = 0 then some ((-1 : Int32), h) else (ff_X12_in v6.toInt64 (0 : Int64) v7.toInt64).bind (fun r11 => (if r11 = 0 then some ((-1 : Int32), h) else (ff_X12_in v7.toInt64 v6.toInt64 (250 : Int64)).bind (fun r13 => (if r13 = 0 then some ((-1 : Int32), h) else (if (h.1 0 12) = (12 : Int32) then some ((-3 : Int32), h) else vv_ck (h.1 0 12) 12 (vv_let (vv_iu h 10 (h.1 0 12).toNatClampNeg v1) (fun g16 => vv_ck ((6 : Int32) * (g16.1 0 12)) 72 (vv_let (vv_iu g16 11 ((6 : Int32) * (g16.1 0 12)).toNatClampNeg v2) (fun g19 => vv_ck (((6 : Int32) * (g19.1 0 12)) + (1 : Int32)) 72 (vv_let (vv_iu g19 11 (((6 : Int32) * (g19.1 0 12)) + (1 : Int32)).toNatClampNeg v3) (fun g22 => vv_ck (((6 : Int32) * (g22.1 0 12)) + (2 : Int32)) 72 (vv_let (vv_iu g22 11 (((6 : Int32) * (g22.1 0 12)) + (2 : Int32)).toNatClampNeg v4) (fun g25 => vv_ck (((6 : Int32) * (g25.1 0 12)) + (3 : Int32)) 72 (vv_let (vv_iu g25 11 (((6 : Int32) * (g25.1 0 12)) + (3 : Int32)).toNatClampNeg v5) (fun g28 => vv_ck (((6 : Int32) * (g28.1 0 12)) + (4 : Int32)) 72 (vv_let (vv_iu g28 11 (((6 : Int32) * (g28.1 0 12)) + (4 : Int32)).toNatClampNeg v6) (fun g31 => vv_ck (((6 : Int32) * (g31.1 0 12)) + (5 : Int32)) 72 (vv_let (vv_iu g31 11 (((6 : Int32) * (g31.1 0 12)) + (5 : Int32)).toNatClampNeg v7) (fun g34 => vv_let (vv_iu g34 0 12 ((g34.1 0 12) + (1 : Int32))) (fun g36 => some (((g36.1 0 12) - (1 : Int32)), g36)))))))))))))))))))))))))))))))
set_option maxHeartbeats 200000 in
theorem vt_X12_size {x : vv_E} {post : Option Value → vv_H → Prop} {h : vv_H} {v1 : Int32} {v2 : Int32} {v3 : Int32} {v4 : Int32} {v5 : Int32} {v6 : Int32} {v7 : Int32} {o : Int32 × vv_H}  (hm : ff_X12_size  h v1 v2 v3 v4 v5 v6 v7 = some o) (hp : post (some (.int o.1)) o.2) : vv_V x vv_TR mm_X12_size post 0 [some (.ref (vv_ad x 0)), some (.int v1), some (.int v2), some (.int v3), some (.int v4), some (.int v5), some (.int v6), some (.int v7)] [] h := by
  unfold ff_X12_size at hm
  refine rr_iload_n (q := 1) dX12_size_0 rfl rfl ?_
  refine rr_i2l (q := 2) dX12_size_1 rfl ?_
  refine rr_lconst (q := 3) (v := 0) dX12_size_2 rfl (by decide) ?_
  refine rr_ldc2 (q := 6) dX12_size_3 rfl zw_270 ?_
  obtain ⟨r1, k2, hm⟩ := vv_bind hm
  refine rr_callS (q := 9) (M' := mm_X12_in) (As := [.long v1.toInt64, .long (0 : Int64), .long (3 : Int64)]) (st := []) (w := some (.int r1))  (cc_X12_in  k2) rfl vy_X12_in zw_267 ⟨Nat.le_of_ble_eq_true rfl, Nat.le_of_ble_eq_true rfl⟩ (Nat.le_of_ble_eq_true rfl) dX12_size_6 rfl ?_
  show vv_V x vv_TR mm_X12_size post 9 [some (.ref (vv_ad x 0)), some (.int v1), some (.int v2), some (.int v3), some (.int v4), some (.int v5), some (.int v6), some (.int v7)] [.int r1] h
  refine rr_if_eq (q := 12) (tgt := 92) dX12_size_9 (by decide) rfl hm (fun hm => ?_) (fun hm => ?_)
  · refine rr_iconst (q := 93) (v := -1) dX12_size_92 rfl (by decide) ?_
    obtain rfl := Option.some.inj hm
    exact rr_iret dX12_size_93 rfl hp
  · refine rr_iload_n (q := 13) dX12_size_12 rfl rfl ?_
    refine rr_i2l (q := 14) dX12_size_13 rfl ?_
    refine rr_lconst (q := 15) (v := 0) dX12_size_14 rfl (by decide) ?_
    refine rr_iload_n (q := 16) dX12_size_15 rfl rfl ?_
    refine rr_i2l (q := 17) dX12_size_16 rfl ?_
    obtain ⟨r3, k4, hm⟩ := vv_bind hm
    refine rr_callS (q := 20) (M' := mm_X12_in) (As := [.long v2.toInt64, .long (0 : Int64), .long v3.toInt64]) (st := []) (w := some (.int r3))  (cc_X12_in  k4) rfl vy_X12_in zw_267 ⟨Nat.le_of_ble_eq_true rfl, Nat.le_of_ble_eq_true rfl⟩ (Nat.le_of_ble_eq_true rfl) dX12_size_17 rfl ?_
    show vv_V x vv_TR mm_X12_size post 20 [some (.ref (vv_ad x 0)), some (.int v1), some (.int v2), some (.int v3), some (.int v4), some (.int v5), some (.int v6), some (.int v7)] [.int r3] h
    refine rr_if_eq (q := 23) (tgt := 92) dX12_size_20 (by decide) rfl hm (fun hm => ?_) (fun hm => ?_)
    · refine rr_iconst (q := 93) (v := -1) dX12_size_92 rfl (by decide) ?_
      obtain rfl := Option.some.inj hm
      exact rr_iret dX12_size_93 rfl hp
    · refine rr_iload_n (q := 24) dX12_size_23 rfl rfl ?_
      refine rr_i2l (q := 25) dX12_size_24 rfl ?_
      refine rr_iload_n (q := 26) dX12_size_25 rfl rfl ?_
      refine rr_i2l (q := 27) dX12_size_26 rfl ?_
      refine rr_ldc2 (q := 30) dX12_size_27 rfl zw_272 ?_
      obtain ⟨r5, k6, hm⟩ := vv_bind hm
      refine rr_callS (q := 33) (M' := mm_X12_in) (As := [.long v3.toInt64, .long v2.toInt64, .long (250 : Int64)]) (st := []) (w := some (.int r5))  (cc_X12_in  k6) rfl vy_X12_in zw_267 ⟨Nat.le_of_ble_eq_true rfl, Nat.le_of_ble_eq_true rfl⟩ (Nat.le_of_ble_eq_true rfl) dX12_size_30 rfl ?_
      show vv_V x vv_TR mm_X12_size post 33 [some (.ref (vv_ad x 0)), some (.int v1), some (.int v2), some (.int v3), some (.int v4), some (.int v5), some (.int v6), some (.int v7)] [.int r5] h
      refine rr_if_eq (q := 36) (tgt := 92) dX12_size_33 (by decide) rfl hm (fun hm => ?_) (fun hm => ?_)
      · refine rr_iconst (q := 93) (v := -1) dX12_size_92 rfl (by decide) ?_
        obtain rfl := Option.some.inj hm
        exact rr_iret dX12_size_93 rfl hp
      · refine rr_iload (q := 38) dX12_size_36 rfl rfl ?_
        refine rr_i2l (q := 39) dX12_size_38 rfl ?_
        refine rr_lconst (q := 40) (v := 0) dX12_size_39 rfl (by decide) ?_
        refine rr_iload (q := 42) dX12_size_40 rfl rfl ?_
        refine rr_i2l (q := 43) dX12_size_42 rfl ?_
        obtain ⟨r7, k8, hm⟩ := vv_bind hm
        refine rr_callS (q := 46) (M' := mm_X12_in) (As := [.long v4.toInt64, .long (0 : Int64), .long v5.toInt64]) (st := []) (w := some (.int r7))  (cc_X12_in  k8) rfl vy_X12_in zw_267 ⟨Nat.le_of_ble_eq_true rfl, Nat.le_of_ble_eq_true rfl⟩ (Nat.le_of_ble_eq_true rfl) dX12_size_43 rfl ?_
        show vv_V x vv_TR mm_X12_size post 46 [some (.ref (vv_ad x 0)), some (.int v1), some (.int v2), some (.int v3), some (.int v4), some (.int v5), some (.int v6), some (.int v7)] [.int r7] h
        refine rr_if_eq (q := 49) (tgt := 92) dX12_size_46 (by decide) rfl hm (fun hm => ?_) (fun hm => ?_)
        · refine rr_iconst (q := 93) (v := -1) dX12_size_92 rfl (by decide) ?_
          obtain rfl := Option.some.inj hm
          exact rr_iret dX12_size_93 rfl hp
        · refine rr_iload (q := 51) dX12_size_49 rfl rfl ?_
          refine rr_i2l (q := 52) dX12_size_51 rfl ?_
          refine rr_iload (q := 54) dX12_size_52 rfl rfl ?_
          refine rr_i2l (q := 55) dX12_size_54 rfl ?_
          refine rr_ldc2 (q := 58) dX12_size_55 rfl zw_272 ?_
          obtain ⟨r9, k10, hm⟩ := vv_bind hm
          refine rr_callS (q := 61) (M' := mm_X12_in) (As := [.long v5.toInt64, .long v4.toInt64, .long (250 : Int64)]) (st := []) (w := some (.int r9))  (cc_X12_in  k10) rfl vy_X12_in zw_267 ⟨Nat.le_of_ble_eq_true rfl, Nat.le_of_ble_eq_true rfl⟩ (Nat.le_of_ble_eq_true rfl) dX12_size_58 rfl ?_
          show vv_V x vv_TR mm_X12_size post 61 [some (.ref (vv_ad x 0)), some (.int v1), some (.int v2), some (.int v3), some (.int v4), some (.int v5), some (.int v6), some (.int v7)] [.int r9] h
          refine rr_if_eq (q := 64) (tgt := 92) dX12_size_61 (by decide) rfl hm (fun hm => ?_) (fun hm => ?_)
          · refine rr_iconst (q := 93) (v := -1) dX12_size_92 rfl (by decide) ?_
            obtain rfl := Option.some.inj hm
            exact rr_iret dX12_size_93 rfl hp
          · refine rr_iload (q := 66) dX12_size_64 rfl rfl ?_
            refine rr_i2l (q := 67) dX12_size_66 rfl ?_
            refine rr_lconst (q := 68) (v := 0) dX12_size_67 rfl (by decide) ?_
            refine rr_iload (q := 70) dX12_size_68 rfl rfl ?_
            refine rr_i2l (q := 71) dX12_size_70 rfl ?_
            obtain ⟨r11, k12, hm⟩ := vv_bind hm
            refine rr_callS (q := 74) (M' := mm_X12_in) (As := [.long v6.toInt64, .long (0 : Int64), .long v7.toInt64]) (st := []) (w := some (.int r11))  (cc_X12_in  k12) rfl vy_X12_in zw_267 ⟨Nat.le_of_ble_eq_true rfl, Nat.le_of_ble_eq_true rfl⟩ (Nat.le_of_ble_eq_true rfl) dX12_size_71 rfl ?_
            show vv_V x vv_TR mm_X12_size post 74 [some (.ref (vv_ad x 0)), some (.int v1), some (.int v2), some (.int v3), some (.int v4), some (.int v5), some (.int v6), some (.int v7)] [.int r11] h
            refine rr_if_eq (q := 77) (tgt := 92) dX12_size_74 (by decide) rfl hm (fun hm => ?_) (fun hm => ?_)
            · refine rr_iconst (q := 93) (v := -1) dX12_size_92 rfl (by decide) ?_
              obtain rfl := Option.some.inj hm
              exact rr_iret dX12_size_93 rfl hp
            · refine rr_iload (q := 79) dX12_size_77 rfl rfl ?_
              refine rr_i2l (q := 80) dX12_size_79 rfl ?_
              refine rr_iload (q := 82) dX12_size_80 rfl rfl ?_
              refine rr_i2l (q := 83) dX12_size_82 rfl ?_
              refine rr_ldc2 (q := 86) dX12_size_83 rfl zw_272 ?_
              obtain ⟨r13, k14, hm⟩ := vv_bind hm
              refine rr_callS (q := 89) (M' := mm_X12_in) (As := [.long v7.toInt64, .long v6.toInt64, .long (250 : Int64)]) (st := []) (w := some (.int r13))  (cc_X12_in  k14) rfl vy_X12_in zw_267 ⟨Nat.le_of_ble_eq_true rfl, Nat.le_of_ble_eq_true rfl⟩ (Nat.le_of_ble_eq_true rfl) dX12_size_86 rfl ?_
              show vv_V x vv_TR mm_X12_size post 89 [some (.ref (vv_ad x 0)), some (.int v1), some (.int v2), some (.int v3), some (.int v4), some (.int v5), some (.int v6), some (.int v7)] [.int r13] h
              refine rr_if_ne (q := 92) (tgt := 94) dX12_size_89 (by decide) rfl hm (fun hm => ?_) (fun hm => ?_)
              · refine rr_aload_n (q := 95) dX12_size_94 rfl rfl ?_
                refine gf_X12_235 (q := 98) rfl dX12_size_95 rfl ?_
                refine rr_bipush (q := 100) (v := 12) dX12_size_98 rfl (by decide) ?_
                refine rr_icmp_ne (q := 103) (tgt := 106) dX12_size_100 (by decide) rfl hm (fun hm => ?_) (fun hm => ?_)
                · refine rr_aload_n (q := 107) dX12_size_106 rfl rfl ?_
                  refine gf_X12_37 (q := 110) rfl dX12_size_107 rfl ?_
                  refine rr_aload_n (q := 111) dX12_size_110 rfl rfl ?_
                  refine gf_X12_235 (q := 114) rfl dX12_size_111 rfl ?_
                  refine rr_iload_n (q := 115) dX12_size_114 rfl rfl ?_
                  obtain ⟨c15, hm⟩ := vv_ck_of hm
                  obtain ⟨g16, c17, hm⟩ := vv_let_of hm
                  refine rr_iast (q := 116) ylR_10 ynR_10 c15 dX12_size_115 rfl ?_
                  rw [← c17]
                  refine rr_aload_n (q := 117) dX12_size_116 rfl rfl ?_
                  refine gf_X12_40 (q := 120) rfl dX12_size_117 rfl ?_
                  refine rr_bipush (q := 122) (v := 6) dX12_size_120 rfl (by decide) ?_
                  refine rr_aload_n (q := 123) dX12_size_122 rfl rfl ?_
                  refine gf_X12_235 (q := 126) rfl dX12_size_123 rfl ?_
                  refine rr_imul (q := 127) dX12_size_126 rfl ?_
                  refine rr_iload_n (q := 128) dX12_size_127 rfl rfl ?_
                  obtain ⟨c18, hm⟩ := vv_ck_of hm
                  obtain ⟨g19, c20, hm⟩ := vv_let_of hm
                  refine rr_iast (q := 129) ylR_11 ynR_11 c18 dX12_size_128 rfl ?_
                  rw [← c20]
                  refine rr_aload_n (q := 130) dX12_size_129 rfl rfl ?_
                  refine gf_X12_40 (q := 133) rfl dX12_size_130 rfl ?_
                  refine rr_bipush (q := 135) (v := 6) dX12_size_133 rfl (by decide) ?_
                  refine rr_aload_n (q := 136) dX12_size_135 rfl rfl ?_
                  refine gf_X12_235 (q := 139) rfl dX12_size_136 rfl ?_
                  refine rr_imul (q := 140) dX12_size_139 rfl ?_
                  refine rr_iconst (q := 141) (v := 1) dX12_size_140 rfl (by decide) ?_
                  refine rr_iadd (q := 142) dX12_size_141 rfl ?_
                  refine rr_iload_n (q := 143) dX12_size_142 rfl rfl ?_
                  obtain ⟨c21, hm⟩ := vv_ck_of hm
                  obtain ⟨g22, c23, hm⟩ := vv_let_of hm
                  refine rr_iast (q := 144) ylR_11 ynR_11 c21 dX12_size_143 rfl ?_
                  rw [← c23]
                  refine rr_aload_n (q := 145) dX12_size_144 rfl rfl ?_
                  refine gf_X12_40 (q := 148) rfl dX12_size_145 rfl ?_
                  refine rr_bipush (q := 150) (v := 6) dX12_size_148 rfl (by decide) ?_
                  refine rr_aload_n (q := 151) dX12_size_150 rfl rfl ?_
                  refine gf_X12_235 (q := 154) rfl dX12_size_151 rfl ?_
                  refine rr_imul (q := 155) dX12_size_154 rfl ?_
                  refine rr_iconst (q := 156) (v := 2) dX12_size_155 rfl (by decide) ?_
                  refine rr_iadd (q := 157) dX12_size_156 rfl ?_
                  refine rr_iload (q := 159) dX12_size_157 rfl rfl ?_
                  obtain ⟨c24, hm⟩ := vv_ck_of hm
                  obtain ⟨g25, c26, hm⟩ := vv_let_of hm
                  refine rr_iast (q := 160) ylR_11 ynR_11 c24 dX12_size_159 rfl ?_
                  rw [← c26]
                  refine rr_aload_n (q := 161) dX12_size_160 rfl rfl ?_
                  refine gf_X12_40 (q := 164) rfl dX12_size_161 rfl ?_
                  refine rr_bipush (q := 166) (v := 6) dX12_size_164 rfl (by decide) ?_
                  refine rr_aload_n (q := 167) dX12_size_166 rfl rfl ?_
                  refine gf_X12_235 (q := 170) rfl dX12_size_167 rfl ?_
                  refine rr_imul (q := 171) dX12_size_170 rfl ?_
                  refine rr_iconst (q := 172) (v := 3) dX12_size_171 rfl (by decide) ?_
                  refine rr_iadd (q := 173) dX12_size_172 rfl ?_
                  refine rr_iload (q := 175) dX12_size_173 rfl rfl ?_
                  obtain ⟨c27, hm⟩ := vv_ck_of hm
                  obtain ⟨g28, c29, hm⟩ := vv_let_of hm
                  refine rr_iast (q := 176) ylR_11 ynR_11 c27 dX12_size_175 rfl ?_
                  rw [← c29]
                  refine rr_aload_n (q := 177) dX12_size_176 rfl rfl ?_
                  refine gf_X12_40 (q := 180) rfl dX12_size_177 rfl ?_
                  refine rr_bipush (q := 182) (v := 6) dX12_size_180 rfl (by decide) ?_
                  refine rr_aload_n (q := 183) dX12_size_182 rfl rfl ?_
                  refine gf_X12_235 (q := 186) rfl dX12_size_183 rfl ?_
                  refine rr_imul (q := 187) dX12_size_186 rfl ?_
                  refine rr_iconst (q := 188) (v := 4) dX12_size_187 rfl (by decide) ?_
                  refine rr_iadd (q := 189) dX12_size_188 rfl ?_
                  refine rr_iload (q := 191) dX12_size_189 rfl rfl ?_
                  obtain ⟨c30, hm⟩ := vv_ck_of hm
                  obtain ⟨g31, c32, hm⟩ := vv_let_of hm
                  refine rr_iast (q := 192) ylR_11 ynR_11 c30 dX12_size_191 rfl ?_
                  rw [← c32]
                  refine rr_aload_n (q := 193) dX12_size_192 rfl rfl ?_
                  refine gf_X12_40 (q := 196) rfl dX12_size_193 rfl ?_
                  refine rr_bipush (q := 198) (v := 6) dX12_size_196 rfl (by decide) ?_
                  refine rr_aload_n (q := 199) dX12_size_198 rfl rfl ?_
                  refine gf_X12_235 (q := 202) rfl dX12_size_199 rfl ?_
                  refine rr_imul (q := 203) dX12_size_202 rfl ?_
                  refine rr_iconst (q := 204) (v := 5) dX12_size_203 rfl (by decide) ?_
                  refine rr_iadd (q := 205) dX12_size_204 rfl ?_
                  refine rr_iload (q := 207) dX12_size_205 rfl rfl ?_
                  obtain ⟨c33, hm⟩ := vv_ck_of hm
                  obtain ⟨g34, c35, hm⟩ := vv_let_of hm
                  refine rr_iast (q := 208) ylR_11 ynR_11 c33 dX12_size_207 rfl ?_
                  rw [← c35]
                  refine rr_aload_n (q := 209) dX12_size_208 rfl rfl ?_
                  refine rr_dup (q := 210) dX12_size_209 rfl rfl ?_
                  refine gf_X12_235 (q := 213) rfl dX12_size_210 rfl ?_
                  refine rr_iconst (q := 214) (v := 1) dX12_size_213 rfl (by decide) ?_
                  refine rr_iadd (q := 215) dX12_size_214 rfl ?_
                  refine pf_X12_235 (q := 218) rfl dX12_size_215 rfl (fun g36 c37 => ?_)
                  replace hm := vv_letE hm c37
                  refine rr_aload_n (q := 219) dX12_size_218 rfl rfl ?_
                  refine gf_X12_235 (q := 222) rfl dX12_size_219 rfl ?_
                  refine rr_iconst (q := 223) (v := 1) dX12_size_222 rfl (by decide) ?_
                  refine rr_isub (q := 224) dX12_size_223 rfl ?_
                  obtain rfl := Option.some.inj hm
                  exact rr_iret dX12_size_224 rfl hp
                · refine rr_bipush (q := 105) (v := -3) dX12_size_103 rfl (by decide) ?_
                  obtain rfl := Option.some.inj hm
                  exact rr_iret dX12_size_105 rfl hp
              · refine rr_iconst (q := 93) (v := -1) dX12_size_92 rfl (by decide) ?_
                obtain rfl := Option.some.inj hm
                exact rr_iret dX12_size_93 rfl hp
theorem cc_X12_size {x : vv_E} {h : vv_H} {v1 : Int32} {v2 : Int32} {v3 : Int32} {v4 : Int32} {v5 : Int32} {v6 : Int32} {v7 : Int32} {o : Int32 × vv_H}  (hm : ff_X12_size h v1 v2 v3 v4 v5 v6 v7 = some o) : vv_C x vv_TR yX12_size mm_X12_size [.ref (vv_ad x 0), .int v1, .int v2, .int v3, .int v4, .int v5, .int v6, .int v7] h (fun v g => v = some (.int o.1) ∧ g = o.2) := vv_entry (by decide +kernel) rfl (Nat.le_of_ble_eq_true rfl) rfl (vt_X12_size  hm ⟨rfl, rfl⟩)
def ff_X12_doesFit_B6 (u1 : Int32) (u2 : Int32) (u3 : Int32) (h : vv_H) (s4 : Int32) (s5 : Int32) : Option ((Int32 × Int32) ⊕ ((Int32))) := (if (3 : Int32) ≤ s5 then some (.inr s4) else (if s4 = 0 then vv_let (s5 + 1) (fun w1 => some (.inl ((0 : Int32), w1))) else (ff_X12_knownOf h u2 s5 (h.1 0 0) (h.1 0 0)).bind (fun r3 => vv_ck (((6 : Int32) * u1) + ((2 : Int32) * s5)) 72 (vv_ck ((((6 : Int32) * u1) + ((2 : Int32) * s5)) + (1 : Int32)) 72 ((ff_X12_in r3.toInt64 (((h.1 11 (((6 : Int32) * u1) + ((2 : Int32) * s5)).toNatClampNeg) - u3).toInt64) (((h.1 11 ((((6 : Int32) * u1) + ((2 : Int32) * s5)) + (1 : Int32)).toNatClampNeg) + u3).toInt64)).bind (fun r7 => (if r7 = 0 then vv_let (s5 + 1) (fun w9 => some (.inl ((0 : Int32), w9))) else vv_let (s5 + 1) (fun w11 => some (.inl ((1 : Int32), w11))))))))))
def ff_X12_doesFit (h : vv_H) (v1 : Int32) (v2 : Int32) (v3 : Int32) : Option (Int32) := (vv_lp (fun (zs : Int32 × Int32) => ff_X12_doesFit_B6  v1 v2 v3 h zs.1 zs.2) vv_F ((1 : Int32), (0 : Int32))).bind (fun (e14 : (Int32)) => vv_zk e14 (some e14))
set_option maxHeartbeats 200000 in
theorem vt_X12_doesFit_B6 {x : vv_E} {post : Option Value → vv_H → Prop} {u1 : Int32} {u2 : Int32} {u3 : Int32} {h : vv_H} {s4 : Int32} {s5 : Int32} {o : (Int32 × Int32) ⊕ ((Int32))}  (hm : ff_X12_doesFit_B6  u1 u2 u3 h s4 s5 = some o) (hI : ∀ (z4 : Int32) (z5 : Int32) , o = .inl (z4, z5) → vv_V x vv_TR mm_X12_doesFit post 6 [some (.ref (vv_ad x 0)), some (.int u1), some (.int u2), some (.int u3), some (.int z4), some (.int z5)] [] h) (hX0 : ∀ (z4 : Int32), o = .inr z4 → vv_V x vv_TR mm_X12_doesFit post 88 [none, none, none, none, some (.int z4), none] [] h) : vv_V x vv_TR mm_X12_doesFit post 6 [some (.ref (vv_ad x 0)), some (.int u1), some (.int u2), some (.int u3), some (.int s4), some (.int s5)] [] h := by
  unfold ff_X12_doesFit_B6 at hm
  refine rr_iload (q := 8) dX12_doesFit_6 rfl rfl ?_
  refine rr_iconst (q := 9) (v := 3) dX12_doesFit_8 rfl (by decide) ?_
  refine rr_icmp_ge (q := 12) (tgt := 88) dX12_doesFit_9 (by decide) rfl hm (fun hm => ?_) (fun hm => ?_)
  · obtain rfl := Option.some.inj hm
    refine rr_sub [false, false, false, false, true, false] rfl ?_
    exact hX0 s4 rfl
  · refine rr_iload (q := 14) dX12_doesFit_12 rfl rfl ?_
    refine rr_if_eq (q := 17) (tgt := 79) dX12_doesFit_14 (by decide) rfl hm (fun hm => ?_) (fun hm => ?_)
    · refine rr_iconst (q := 80) (v := 0) dX12_doesFit_79 rfl (by decide) ?_
      refine rr_istore (q := 82) [some (.ref (vv_ad x 0)), some (.int u1), some (.int u2), some (.int u3), some (.int (0 : Int32)), some (.int s5)] dX12_doesFit_80 rfl (Nat.le_of_ble_eq_true rfl) rfl rfl ?_
      obtain ⟨w1, c2, hm⟩ := vv_let_of hm
      refine rr_iinc (q := 85) [some (.ref (vv_ad x 0)), some (.int u1), some (.int u2), some (.int u3), some (.int (0 : Int32)), some (.int w1)] dX12_doesFit_82 rfl rfl c2.symm (Nat.le_of_ble_eq_true rfl) rfl rfl ?_
      refine rr_goto (tgt := 6) dX12_doesFit_85 (by decide) ?_
      obtain rfl := Option.some.inj hm
      exact hI (0 : Int32) w1 rfl
    · refine rr_aload_n (q := 18) dX12_doesFit_17 rfl rfl ?_
      refine rr_iload_n (q := 19) dX12_doesFit_18 rfl rfl ?_
      refine rr_iload (q := 21) dX12_doesFit_19 rfl rfl ?_
      refine rr_aload_n (q := 22) dX12_doesFit_21 rfl rfl ?_
      refine gf_X12_187 (q := 25) rfl dX12_doesFit_22 rfl ?_
      refine rr_aload_n (q := 26) dX12_doesFit_25 rfl rfl ?_
      refine gf_X12_187 (q := 29) rfl dX12_doesFit_26 rfl ?_
      obtain ⟨r3, k4, hm⟩ := vv_bind hm
      refine rr_callV (q := 32) (M' := mm_X12_knownOf) (As := [.int u2, .int s5, .int (h.1 0 0), .int (h.1 0 0)]) (st := []) (w := some (.int r3)) (cc_X12_knownOf  k4) rfl ylR_0 ynR_0 rfl vy_X12_knownOf zw_278 ⟨Nat.le_of_ble_eq_true rfl, Nat.le_of_ble_eq_true rfl⟩ (Nat.le_of_ble_eq_true rfl) dX12_doesFit_29 rfl ?_
      show vv_V x vv_TR mm_X12_doesFit post 32 [some (.ref (vv_ad x 0)), some (.int u1), some (.int u2), some (.int u3), some (.int s4), some (.int s5)] [.int r3] h
      refine rr_i2l (q := 33) dX12_doesFit_32 rfl ?_
      refine rr_aload_n (q := 34) dX12_doesFit_33 rfl rfl ?_
      refine gf_X12_40 (q := 37) rfl dX12_doesFit_34 rfl ?_
      refine rr_bipush (q := 39) (v := 6) dX12_doesFit_37 rfl (by decide) ?_
      refine rr_iload_n (q := 40) dX12_doesFit_39 rfl rfl ?_
      refine rr_imul (q := 41) dX12_doesFit_40 rfl ?_
      refine rr_iconst (q := 42) (v := 2) dX12_doesFit_41 rfl (by decide) ?_
      refine rr_iload (q := 44) dX12_doesFit_42 rfl rfl ?_
      refine rr_imul (q := 45) dX12_doesFit_44 rfl ?_
      refine rr_iadd (q := 46) dX12_doesFit_45 rfl ?_
      obtain ⟨c5, hm⟩ := vv_ck_of hm
      refine rr_iald (q := 47) ylR_11 ynR_11 c5 dX12_doesFit_46 rfl ?_
      refine rr_iload_n (q := 48) dX12_doesFit_47 rfl rfl ?_
      refine rr_isub (q := 49) dX12_doesFit_48 rfl ?_
      refine rr_i2l (q := 50) dX12_doesFit_49 rfl ?_
      refine rr_aload_n (q := 51) dX12_doesFit_50 rfl rfl ?_
      refine gf_X12_40 (q := 54) rfl dX12_doesFit_51 rfl ?_
      refine rr_bipush (q := 56) (v := 6) dX12_doesFit_54 rfl (by decide) ?_
      refine rr_iload_n (q := 57) dX12_doesFit_56 rfl rfl ?_
      refine rr_imul (q := 58) dX12_doesFit_57 rfl ?_
      refine rr_iconst (q := 59) (v := 2) dX12_doesFit_58 rfl (by decide) ?_
      refine rr_iload (q := 61) dX12_doesFit_59 rfl rfl ?_
      refine rr_imul (q := 62) dX12_doesFit_61 rfl ?_
      refine rr_iadd (q := 63) dX12_doesFit_62 rfl ?_
      refine rr_iconst (q := 64) (v := 1) dX12_doesFit_63 rfl (by decide) ?_
      refine rr_iadd (q := 65) dX12_doesFit_64 rfl ?_
      obtain ⟨c6, hm⟩ := vv_ck_of hm
      refine rr_iald (q := 66) ylR_11 ynR_11 c6 dX12_doesFit_65 rfl ?_
      refine rr_iload_n (q := 67) dX12_doesFit_66 rfl rfl ?_
      refine rr_iadd (q := 68) dX12_doesFit_67 rfl ?_
      refine rr_i2l (q := 69) dX12_doesFit_68 rfl ?_
      obtain ⟨r7, k8, hm⟩ := vv_bind hm
      refine rr_callS (q := 72) (M' := mm_X12_in) (As := [.long r3.toInt64, .long (((h.1 11 (((6 : Int32) * u1) + ((2 : Int32) * s5)).toNatClampNeg) - u3).toInt64), .long (((h.1 11 ((((6 : Int32) * u1) + ((2 : Int32) * s5)) + (1 : Int32)).toNatClampNeg) + u3).toInt64)]) (st := []) (w := some (.int r7))  (cc_X12_in  k8) rfl vy_X12_in zw_267 ⟨Nat.le_of_ble_eq_true rfl, Nat.le_of_ble_eq_true rfl⟩ (Nat.le_of_ble_eq_true rfl) dX12_doesFit_69 rfl ?_
      show vv_V x vv_TR mm_X12_doesFit post 72 [some (.ref (vv_ad x 0)), some (.int u1), some (.int u2), some (.int u3), some (.int s4), some (.int s5)] [.int r7] h
      refine rr_if_eq (q := 75) (tgt := 79) dX12_doesFit_72 (by decide) rfl hm (fun hm => ?_) (fun hm => ?_)
      · refine rr_iconst (q := 80) (v := 0) dX12_doesFit_79 rfl (by decide) ?_
        refine rr_istore (q := 82) [some (.ref (vv_ad x 0)), some (.int u1), some (.int u2), some (.int u3), some (.int (0 : Int32)), some (.int s5)] dX12_doesFit_80 rfl (Nat.le_of_ble_eq_true rfl) rfl rfl ?_
        obtain ⟨w9, c10, hm⟩ := vv_let_of hm
        refine rr_iinc (q := 85) [some (.ref (vv_ad x 0)), some (.int u1), some (.int u2), some (.int u3), some (.int (0 : Int32)), some (.int w9)] dX12_doesFit_82 rfl rfl c10.symm (Nat.le_of_ble_eq_true rfl) rfl rfl ?_
        refine rr_goto (tgt := 6) dX12_doesFit_85 (by decide) ?_
        obtain rfl := Option.some.inj hm
        exact hI (0 : Int32) w9 rfl
      · refine rr_iconst (q := 76) (v := 1) dX12_doesFit_75 rfl (by decide) ?_
        refine rr_goto (tgt := 80) dX12_doesFit_76 (by decide) ?_
        refine rr_istore (q := 82) [some (.ref (vv_ad x 0)), some (.int u1), some (.int u2), some (.int u3), some (.int (1 : Int32)), some (.int s5)] dX12_doesFit_80 rfl (Nat.le_of_ble_eq_true rfl) rfl rfl ?_
        obtain ⟨w11, c12, hm⟩ := vv_let_of hm
        refine rr_iinc (q := 85) [some (.ref (vv_ad x 0)), some (.int u1), some (.int u2), some (.int u3), some (.int (1 : Int32)), some (.int w11)] dX12_doesFit_82 rfl rfl c12.symm (Nat.le_of_ble_eq_true rfl) rfl rfl ?_
        refine rr_goto (tgt := 6) dX12_doesFit_85 (by decide) ?_
        obtain rfl := Option.some.inj hm
        exact hI (1 : Int32) w11 rfl
set_option maxHeartbeats 200000 in
theorem vt_X12_doesFit {x : vv_E} {post : Option Value → vv_H → Prop} {h : vv_H} {v1 : Int32} {v2 : Int32} {v3 : Int32} {o : Int32}  (hm : ff_X12_doesFit  h v1 v2 v3 = some o) (hp : post (some (.int o)) h) : vv_V x vv_TR mm_X12_doesFit post 0 [some (.ref (vv_ad x 0)), some (.int v1), some (.int v2), some (.int v3), none, none] [] h := by
  unfold ff_X12_doesFit at hm
  refine rr_iconst (q := 1) (v := 1) dX12_doesFit_0 rfl (by decide) ?_
  refine rr_istore (q := 3) [some (.ref (vv_ad x 0)), some (.int v1), some (.int v2), some (.int v3), some (.int (1 : Int32)), none] dX12_doesFit_1 rfl (Nat.le_of_ble_eq_true rfl) rfl rfl ?_
  refine rr_iconst (q := 4) (v := 0) dX12_doesFit_3 rfl (by decide) ?_
  refine rr_istore (q := 6) [some (.ref (vv_ad x 0)), some (.int v1), some (.int v2), some (.int v3), some (.int (1 : Int32)), some (.int (0 : Int32))] dX12_doesFit_4 rfl (Nat.le_of_ble_eq_true rfl) rfl rfl ?_
  obtain ⟨r13, k16, hm⟩ := vv_bind hm
  refine vv_lp_link (P := fun (zs : Int32 × Int32) => vv_V x vv_TR mm_X12_doesFit post 6 [some (.ref (vv_ad x 0)), some (.int v1), some (.int v2), some (.int v3), some (.int zs.1), some (.int zs.2)] [] h) (Q := (fun (e14 : (Int32)) => vv_V x vv_TR mm_X12_doesFit post 88 [none, none, none, none, some (.int e14), none] [] h)) (fun zs o hm hI hX => ?_) vv_F ((1 : Int32), (0 : Int32)) r13 k16 ?_
  · exact vt_X12_doesFit_B6   hm (fun z4 z5 e => hI (z4, z5) e) (fun z4 e => hX z4 e)
  · generalize r13 = e14 at hm ⊢
    try dsimp only [Sum.elim_inl, Sum.elim_inr] at hm
    try dsimp only [Sum.elim_inl, Sum.elim_inr]
    refine rr_iload (q := 90) dX12_doesFit_88 rfl rfl ?_
    obtain ⟨c15, hm⟩ := vv_zk_of hm
    obtain rfl := Option.some.inj hm
    exact rr_zret dX12_doesFit_90 rfl c15 hp
theorem cc_X12_doesFit {x : vv_E} {h : vv_H} {v1 : Int32} {v2 : Int32} {v3 : Int32} {o : Int32}  (hm : ff_X12_doesFit h v1 v2 v3 = some o) : vv_C x vv_TR yX12_doesFit mm_X12_doesFit [.ref (vv_ad x 0), .int v1, .int v2, .int v3] h (fun v g => v = some (.int o) ∧ g = h) := vv_entry (by decide +kernel) rfl (Nat.le_of_ble_eq_true rfl) rfl (vt_X12_doesFit  hm ⟨rfl, rfl⟩)
def ff_X12_end (h : vv_H) (v1 : Int32) : Option (Int32 × vv_H) := (ff_X12_in v1.toInt64 (0 : Int64) ((h.1 0 17).toInt64)).bind (fun r1 => (if r1 = 0 then some ((-1 : Int32), h) else vv_let (h.1 0 17) (fun w3 => vv_let (vv_iu h 0 17 v1) (fun g5 => some (w3, g5)))))
set_option maxHeartbeats 200000 in
theorem vt_X12_end {x : vv_E} {post : Option Value → vv_H → Prop} {h : vv_H} {v1 : Int32} {o : Int32 × vv_H}  (hm : ff_X12_end  h v1 = some o) (hp : post (some (.int o.1)) o.2) : vv_V x vv_TR mm_X12_end post 0 [some (.ref (vv_ad x 0)), some (.int v1), none] [] h := by
  unfold ff_X12_end at hm
  refine rr_iload_n (q := 1) dX12_end_0 rfl rfl ?_
  refine rr_i2l (q := 2) dX12_end_1 rfl ?_
  refine rr_lconst (q := 3) (v := 0) dX12_end_2 rfl (by decide) ?_
  refine rr_aload_n (q := 4) dX12_end_3 rfl rfl ?_
  refine gf_X12_251 (q := 7) rfl dX12_end_4 rfl ?_
  refine rr_i2l (q := 8) dX12_end_7 rfl ?_
  obtain ⟨r1, k2, hm⟩ := vv_bind hm
  refine rr_callS (q := 11) (M' := mm_X12_in) (As := [.long v1.toInt64, .long (0 : Int64), .long ((h.1 0 17).toInt64)]) (st := []) (w := some (.int r1))  (cc_X12_in  k2) rfl vy_X12_in zw_267 ⟨Nat.le_of_ble_eq_true rfl, Nat.le_of_ble_eq_true rfl⟩ (Nat.le_of_ble_eq_true rfl) dX12_end_8 rfl ?_
  show vv_V x vv_TR mm_X12_end post 11 [some (.ref (vv_ad x 0)), some (.int v1), none] [.int r1] h
  refine rr_if_ne (q := 14) (tgt := 16) dX12_end_11 (by decide) rfl hm (fun hm => ?_) (fun hm => ?_)
  · refine rr_aload_n (q := 17) dX12_end_16 rfl rfl ?_
    refine gf_X12_251 (q := 20) rfl dX12_end_17 rfl ?_
    obtain ⟨w3, c4, hm⟩ := vv_let_of hm
    rw [← c4]
    refine rr_istore_n (q := 21) [some (.ref (vv_ad x 0)), some (.int v1), some (.int w3)] dX12_end_20 rfl rfl (Nat.le_of_ble_eq_true rfl) rfl rfl ?_
    refine rr_aload_n (q := 22) dX12_end_21 rfl rfl ?_
    refine rr_iload_n (q := 23) dX12_end_22 rfl rfl ?_
    refine pf_X12_251 (q := 26) rfl dX12_end_23 rfl (fun g5 c6 => ?_)
    replace hm := vv_letE hm c6
    refine rr_iload_n (q := 27) dX12_end_26 rfl rfl ?_
    obtain rfl := Option.some.inj hm
    exact rr_iret dX12_end_27 rfl hp
  · refine rr_iconst (q := 15) (v := -1) dX12_end_14 rfl (by decide) ?_
    obtain rfl := Option.some.inj hm
    exact rr_iret dX12_end_15 rfl hp
theorem cc_X12_end {x : vv_E} {h : vv_H} {v1 : Int32} {o : Int32 × vv_H}  (hm : ff_X12_end h v1 = some o) : vv_C x vv_TR yX12_end mm_X12_end [.ref (vv_ad x 0), .int v1] h (fun v g => v = some (.int o.1) ∧ g = o.2) := vv_entry (by decide +kernel) rfl (Nat.le_of_ble_eq_true rfl) rfl (vt_X12_end  hm ⟨rfl, rfl⟩)
def ff_X12_nameAt_B39 (u1 : Int32) (u2 : Int32) (u3 : Int32) (h : vv_H) (s4 : Int32) (s5 : Int32) : Option ((Int32 × Int32) ⊕ ((Int32))) := (if (u2 - u1) ≤ s5 then some (.inr s4) else (if s4 = 0 then some (.inr s4) else (ff_X12_byteAt h (u1 + s5)).bind (fun r3 => vv_ck u3 10 (vv_ck ((h.1 14 u3.toNatClampNeg) + s5) 38 ((if r3 = (h.1 15 ((h.1 14 u3.toNatClampNeg) + s5).toNatClampNeg) then vv_let (s5 + 1) (fun w9 => some (.inl ((1 : Int32), w9))) else vv_let (s5 + 1) (fun w7 => some (.inl ((0 : Int32), w7)))))))))
def ff_X12_nameAt_J34  (u1 : Int32) (u2 : Int32) (m3 : Int32) (z0 : Int32) (h : vv_H) : Option ((Int32) ⊕ ((Unit) ⊕ (Int32))) := (vv_lp (fun (zs : Int32 × Int32) => ff_X12_nameAt_B39  u1 u2 m3 h zs.1 zs.2) vv_F (z0, (0 : Int32))).bind (fun (e12 : (Int32)) => (if e12 = 0 then vv_let (m3 + 1) (fun w13 => some (.inl w13)) else some (.inr (.inr m3))))
def ff_X12_nameAt_B2 (u1 : Int32) (u2 : Int32) (h : vv_H) (s3 : Int32) : Option ((Int32) ⊕ ((Unit) ⊕ (Int32))) := (if (9 : Int32) ≤ s3 then some (.inr (.inl ())) else vv_ck (s3 + (1 : Int32)) 10 (vv_ck s3 10 ((if (u2 - u1) = ((h.1 14 (s3 + (1 : Int32)).toNatClampNeg) - (h.1 14 s3.toNatClampNeg)) then ff_X12_nameAt_J34  u1 u2 s3 (1 : Int32) h else ff_X12_nameAt_J34  u1 u2 s3 (0 : Int32) h))))
def ff_X12_nameAt (h : vv_H) (v1 : Int32) (v2 : Int32) : Option (Int32) := (vv_lp (fun (zs : Int32) => ff_X12_nameAt_B2  v1 v2 h zs) vv_F (0 : Int32)).bind (Sum.elim (fun (e17 : (Unit)) => some (-4 : Int32)) (fun (e18 : (Int32)) => some e18))
set_option maxHeartbeats 200000 in
theorem vt_X12_nameAt_B39 {x : vv_E} {post : Option Value → vv_H → Prop} {u1 : Int32} {u2 : Int32} {u3 : Int32} {h : vv_H} {s4 : Int32} {s5 : Int32} {o : (Int32 × Int32) ⊕ ((Int32))}  (hm : ff_X12_nameAt_B39  u1 u2 u3 h s4 s5 = some o) (hI : ∀ (z4 : Int32) (z5 : Int32) , o = .inl (z4, z5) → vv_V x vv_TR mm_X12_nameAt post 39 [some (.ref (vv_ad x 0)), some (.int u1), some (.int u2), some (.int u3), some (.int z4), some (.int z5)] [] h) (hX0 : ∀ (z4 : Int32), o = .inr z4 → vv_V x vv_TR mm_X12_nameAt post 90 [some (.ref (vv_ad x 0)), some (.int u1), some (.int u2), some (.int u3), some (.int z4), none] [] h) : vv_V x vv_TR mm_X12_nameAt post 39 [some (.ref (vv_ad x 0)), some (.int u1), some (.int u2), some (.int u3), some (.int s4), some (.int s5)] [] h := by
  unfold ff_X12_nameAt_B39 at hm
  refine rr_iload (q := 41) dX12_nameAt_39 rfl rfl ?_
  refine rr_iload_n (q := 42) dX12_nameAt_41 rfl rfl ?_
  refine rr_iload_n (q := 43) dX12_nameAt_42 rfl rfl ?_
  refine rr_isub (q := 44) dX12_nameAt_43 rfl ?_
  refine rr_icmp_ge (q := 47) (tgt := 90) dX12_nameAt_44 (by decide) rfl hm (fun hm => ?_) (fun hm => ?_)
  · obtain rfl := Option.some.inj hm
    refine rr_sub [true, true, true, true, true, false] rfl ?_
    exact hX0 s4 rfl
  · refine rr_iload (q := 49) dX12_nameAt_47 rfl rfl ?_
    refine rr_if_eq (q := 52) (tgt := 90) dX12_nameAt_49 (by decide) rfl hm (fun hm => ?_) (fun hm => ?_)
    · obtain rfl := Option.some.inj hm
      refine rr_sub [true, true, true, true, true, false] rfl ?_
      exact hX0 s4 rfl
    · refine rr_aload_n (q := 53) dX12_nameAt_52 rfl rfl ?_
      refine rr_iload_n (q := 54) dX12_nameAt_53 rfl rfl ?_
      refine rr_iload (q := 56) dX12_nameAt_54 rfl rfl ?_
      refine rr_iadd (q := 57) dX12_nameAt_56 rfl ?_
      obtain ⟨r3, k4, hm⟩ := vv_bind hm
      refine rr_callV (q := 60) (M' := mm_X12_byteAt) (As := [.int (u1 + s5)]) (st := []) (w := some (.int r3)) (cc_X12_byteAt  k4) rfl ylR_0 ynR_0 rfl vy_X12_byteAt zw_284 ⟨Nat.le_of_ble_eq_true rfl, Nat.le_of_ble_eq_true rfl⟩ (Nat.le_of_ble_eq_true rfl) dX12_nameAt_57 rfl ?_
      show vv_V x vv_TR mm_X12_nameAt post 60 [some (.ref (vv_ad x 0)), some (.int u1), some (.int u2), some (.int u3), some (.int s4), some (.int s5)] [.int r3] h
      refine rr_aload_n (q := 61) dX12_nameAt_60 rfl rfl ?_
      refine gf_X12_52 (q := 64) rfl dX12_nameAt_61 rfl ?_
      refine rr_aload_n (q := 65) dX12_nameAt_64 rfl rfl ?_
      refine gf_X12_49 (q := 68) rfl dX12_nameAt_65 rfl ?_
      refine rr_iload_n (q := 69) dX12_nameAt_68 rfl rfl ?_
      obtain ⟨c5, hm⟩ := vv_ck_of hm
      refine rr_iald (q := 70) ylR_14 ynR_14 c5 dX12_nameAt_69 rfl ?_
      refine rr_iload (q := 72) dX12_nameAt_70 rfl rfl ?_
      refine rr_iadd (q := 73) dX12_nameAt_72 rfl ?_
      obtain ⟨c6, hm⟩ := vv_ck_of hm
      refine rr_iald (q := 74) ylR_15 ynR_15 c6 dX12_nameAt_73 rfl ?_
      refine rr_icmp_ne (q := 77) (tgt := 81) dX12_nameAt_74 (by decide) rfl hm (fun hm => ?_) (fun hm => ?_)
      · refine rr_iconst (q := 82) (v := 0) dX12_nameAt_81 rfl (by decide) ?_
        refine rr_istore (q := 84) [some (.ref (vv_ad x 0)), some (.int u1), some (.int u2), some (.int u3), some (.int (0 : Int32)), some (.int s5)] dX12_nameAt_82 rfl (Nat.le_of_ble_eq_true rfl) rfl rfl ?_
        obtain ⟨w7, c8, hm⟩ := vv_let_of hm
        refine rr_iinc (q := 87) [some (.ref (vv_ad x 0)), some (.int u1), some (.int u2), some (.int u3), some (.int (0 : Int32)), some (.int w7)] dX12_nameAt_84 rfl rfl c8.symm (Nat.le_of_ble_eq_true rfl) rfl rfl ?_
        refine rr_goto (tgt := 39) dX12_nameAt_87 (by decide) ?_
        obtain rfl := Option.some.inj hm
        exact hI (0 : Int32) w7 rfl
      · refine rr_iconst (q := 78) (v := 1) dX12_nameAt_77 rfl (by decide) ?_
        refine rr_goto (tgt := 82) dX12_nameAt_78 (by decide) ?_
        refine rr_istore (q := 84) [some (.ref (vv_ad x 0)), some (.int u1), some (.int u2), some (.int u3), some (.int (1 : Int32)), some (.int s5)] dX12_nameAt_82 rfl (Nat.le_of_ble_eq_true rfl) rfl rfl ?_
        obtain ⟨w9, c10, hm⟩ := vv_let_of hm
        refine rr_iinc (q := 87) [some (.ref (vv_ad x 0)), some (.int u1), some (.int u2), some (.int u3), some (.int (1 : Int32)), some (.int w9)] dX12_nameAt_84 rfl rfl c10.symm (Nat.le_of_ble_eq_true rfl) rfl rfl ?_
        refine rr_goto (tgt := 39) dX12_nameAt_87 (by decide) ?_
        obtain rfl := Option.some.inj hm
        exact hI (1 : Int32) w9 rfl
set_option maxHeartbeats 200000 in
theorem vt_X12_nameAt_J34 {x : vv_E} {post : Option Value → vv_H → Prop}   {u1 : Int32} {u2 : Int32} {m3 : Int32} {z0 : Int32} {h : vv_H} {o : (Int32) ⊕ ((Unit) ⊕ (Int32))}  (hm : ff_X12_nameAt_J34  u1 u2 m3 z0 h = some o) (hI : ∀ (z3 : Int32) , o = .inl z3 → vv_V x vv_TR mm_X12_nameAt post 2 [some (.ref (vv_ad x 0)), some (.int u1), some (.int u2), some (.int z3), none, none] [] h) (hX0 : o = .inr (.inl ()) → vv_V x vv_TR mm_X12_nameAt post 103 [none, none, none, none, none, none] [] h) (hX1 : ∀ (z3 : Int32), o = .inr (.inr z3) → vv_V x vv_TR mm_X12_nameAt post 95 [none, none, none, some (.int z3), none, none] [] h) : vv_V x vv_TR mm_X12_nameAt post 34 [some (.ref (vv_ad x 0)), some (.int u1), some (.int u2), some (.int m3), none, none] [.int z0] h := by
  unfold ff_X12_nameAt_J34 at hm
  refine rr_istore (q := 36) [some (.ref (vv_ad x 0)), some (.int u1), some (.int u2), some (.int m3), some (.int z0), none] dX12_nameAt_34 rfl (Nat.le_of_ble_eq_true rfl) rfl rfl ?_
  refine rr_iconst (q := 37) (v := 0) dX12_nameAt_36 rfl (by decide) ?_
  refine rr_istore (q := 39) [some (.ref (vv_ad x 0)), some (.int u1), some (.int u2), some (.int m3), some (.int z0), some (.int (0 : Int32))] dX12_nameAt_37 rfl (Nat.le_of_ble_eq_true rfl) rfl rfl ?_
  obtain ⟨r11, k15, hm⟩ := vv_bind hm
  refine vv_lp_link (P := fun (zs : Int32 × Int32) => vv_V x vv_TR mm_X12_nameAt post 39 [some (.ref (vv_ad x 0)), some (.int u1), some (.int u2), some (.int m3), some (.int zs.1), some (.int zs.2)] [] h) (Q := (fun (e12 : (Int32)) => vv_V x vv_TR mm_X12_nameAt post 90 [some (.ref (vv_ad x 0)), some (.int u1), some (.int u2), some (.int m3), some (.int e12), none] [] h)) (fun zs o hm hI hX => ?_) vv_F (z0, (0 : Int32)) r11 k15 ?_
  · exact vt_X12_nameAt_B39   hm (fun z4 z5 e => hI (z4, z5) e) (fun z4 e => hX z4 e)
  · generalize r11 = e12 at hm ⊢
    try dsimp only [Sum.elim_inl, Sum.elim_inr] at hm
    try dsimp only [Sum.elim_inl, Sum.elim_inr]
    refine rr_iload (q := 92) dX12_nameAt_90 rfl rfl ?_
    refine rr_if_eq (q := 95) (tgt := 97) dX12_nameAt_92 (by decide) rfl hm (fun hm => ?_) (fun hm => ?_)
    · obtain ⟨w13, c14, hm⟩ := vv_let_of hm
      refine rr_iinc (q := 100) [some (.ref (vv_ad x 0)), some (.int u1), some (.int u2), some (.int w13), some (.int e12), none] dX12_nameAt_97 rfl rfl c14.symm (Nat.le_of_ble_eq_true rfl) rfl rfl ?_
      refine rr_goto (tgt := 2) dX12_nameAt_100 (by decide) ?_
      obtain rfl := Option.some.inj hm
      refine rr_sub [true, true, true, true, false, false] rfl ?_
      exact hI w13 rfl
    · obtain rfl := Option.some.inj hm
      refine rr_sub [false, false, false, true, false, false] rfl ?_
      exact hX1 m3 rfl
set_option maxHeartbeats 200000 in
theorem vt_X12_nameAt_B2 {x : vv_E} {post : Option Value → vv_H → Prop} {u1 : Int32} {u2 : Int32} {h : vv_H} {s3 : Int32} {o : (Int32) ⊕ ((Unit) ⊕ (Int32))}  (hm : ff_X12_nameAt_B2  u1 u2 h s3 = some o) (hI : ∀ (z3 : Int32) , o = .inl z3 → vv_V x vv_TR mm_X12_nameAt post 2 [some (.ref (vv_ad x 0)), some (.int u1), some (.int u2), some (.int z3), none, none] [] h) (hX0 : o = .inr (.inl ()) → vv_V x vv_TR mm_X12_nameAt post 103 [none, none, none, none, none, none] [] h) (hX1 : ∀ (z3 : Int32), o = .inr (.inr z3) → vv_V x vv_TR mm_X12_nameAt post 95 [none, none, none, some (.int z3), none, none] [] h) : vv_V x vv_TR mm_X12_nameAt post 2 [some (.ref (vv_ad x 0)), some (.int u1), some (.int u2), some (.int s3), none, none] [] h := by
  unfold ff_X12_nameAt_B2 at hm
  refine rr_iload_n (q := 3) dX12_nameAt_2 rfl rfl ?_
  refine rr_bipush (q := 5) (v := 9) dX12_nameAt_3 rfl (by decide) ?_
  refine rr_icmp_ge (q := 8) (tgt := 103) dX12_nameAt_5 (by decide) rfl hm (fun hm => ?_) (fun hm => ?_)
  · obtain rfl := Option.some.inj hm
    refine rr_sub [false, false, false, false, false, false] rfl ?_
    exact hX0  rfl
  · refine rr_iload_n (q := 9) dX12_nameAt_8 rfl rfl ?_
    refine rr_iload_n (q := 10) dX12_nameAt_9 rfl rfl ?_
    refine rr_isub (q := 11) dX12_nameAt_10 rfl ?_
    refine rr_aload_n (q := 12) dX12_nameAt_11 rfl rfl ?_
    refine gf_X12_49 (q := 15) rfl dX12_nameAt_12 rfl ?_
    refine rr_iload_n (q := 16) dX12_nameAt_15 rfl rfl ?_
    refine rr_iconst (q := 17) (v := 1) dX12_nameAt_16 rfl (by decide) ?_
    refine rr_iadd (q := 18) dX12_nameAt_17 rfl ?_
    obtain ⟨c1, hm⟩ := vv_ck_of hm
    refine rr_iald (q := 19) ylR_14 ynR_14 c1 dX12_nameAt_18 rfl ?_
    refine rr_aload_n (q := 20) dX12_nameAt_19 rfl rfl ?_
    refine gf_X12_49 (q := 23) rfl dX12_nameAt_20 rfl ?_
    refine rr_iload_n (q := 24) dX12_nameAt_23 rfl rfl ?_
    obtain ⟨c2, hm⟩ := vv_ck_of hm
    refine rr_iald (q := 25) ylR_14 ynR_14 c2 dX12_nameAt_24 rfl ?_
    refine rr_isub (q := 26) dX12_nameAt_25 rfl ?_
    refine rr_icmp_ne (q := 29) (tgt := 33) dX12_nameAt_26 (by decide) rfl hm (fun hm => ?_) (fun hm => ?_)
    · refine rr_iconst (q := 34) (v := 0) dX12_nameAt_33 rfl (by decide) ?_
      exact vt_X12_nameAt_J34  hm hI hX0 hX1
    · refine rr_iconst (q := 30) (v := 1) dX12_nameAt_29 rfl (by decide) ?_
      refine rr_goto (tgt := 34) dX12_nameAt_30 (by decide) ?_
      exact vt_X12_nameAt_J34  hm hI hX0 hX1
set_option maxHeartbeats 200000 in
theorem vt_X12_nameAt {x : vv_E} {post : Option Value → vv_H → Prop} {h : vv_H} {v1 : Int32} {v2 : Int32} {o : Int32}  (hm : ff_X12_nameAt  h v1 v2 = some o) (hp : post (some (.int o)) h) : vv_V x vv_TR mm_X12_nameAt post 0 [some (.ref (vv_ad x 0)), some (.int v1), some (.int v2), none, none, none] [] h := by
  unfold ff_X12_nameAt at hm
  refine rr_iconst (q := 1) (v := 0) dX12_nameAt_0 rfl (by decide) ?_
  refine rr_istore_n (q := 2) [some (.ref (vv_ad x 0)), some (.int v1), some (.int v2), some (.int (0 : Int32)), none, none] dX12_nameAt_1 rfl rfl (Nat.le_of_ble_eq_true rfl) rfl rfl ?_
  obtain ⟨r16, k19, hm⟩ := vv_bind hm
  refine vv_lp_link (P := fun (zs : Int32) => vv_V x vv_TR mm_X12_nameAt post 2 [some (.ref (vv_ad x 0)), some (.int v1), some (.int v2), some (.int zs), none, none] [] h) (Q := (Sum.elim (fun (e17 : (Unit)) => vv_V x vv_TR mm_X12_nameAt post 103 [none, none, none, none, none, none] [] h) (fun (e18 : (Int32)) => vv_V x vv_TR mm_X12_nameAt post 95 [none, none, none, some (.int e18), none, none] [] h))) (fun zs o hm hI hX => ?_) vv_F (0 : Int32) r16 k19 ?_
  · exact vt_X12_nameAt_B2   hm (fun z3 e => hI z3 e) (hX (.inl ())) (fun z3 e => hX (.inr z3) e)
  · rcases r16 with e17 | qe17
    · try dsimp only [Sum.elim_inl, Sum.elim_inr] at hm
      try dsimp only [Sum.elim_inl, Sum.elim_inr]
      refine rr_bipush (q := 105) (v := -4) dX12_nameAt_103 rfl (by decide) ?_
      obtain rfl := Option.some.inj hm
      exact rr_iret dX12_nameAt_105 rfl hp
    · generalize qe17 = e18 at hm ⊢
      try dsimp only [Sum.elim_inl, Sum.elim_inr] at hm
      try dsimp only [Sum.elim_inl, Sum.elim_inr]
      refine rr_iload_n (q := 96) dX12_nameAt_95 rfl rfl ?_
      obtain rfl := Option.some.inj hm
      exact rr_iret dX12_nameAt_96 rfl hp
theorem cc_X12_nameAt {x : vv_E} {h : vv_H} {v1 : Int32} {v2 : Int32} {o : Int32}  (hm : ff_X12_nameAt h v1 v2 = some o) : vv_C x vv_TR yX12_nameAt mm_X12_nameAt [.ref (vv_ad x 0), .int v1, .int v2] h (fun v g => v = some (.int o) ∧ g = h) := vv_entry (by decide +kernel) rfl (Nat.le_of_ble_eq_true rfl) rfl (vt_X12_nameAt  hm ⟨rfl, rfl⟩)
def ff_X12_number_J23  (u1 : Int32) (u2 : Int32) (h : vv_H) : Option (Int32 × vv_H) := (if (h.1 0 19) = 0 then (ff_X12_in ((h.1 0 24).toInt64) u1.toInt64 u2.toInt64).bind (fun r1 => (if r1 = 0 then (ff_X12_fails h (3 : Int32)).bind (fun r3 => some ((r3.1 0 24), r3)) else some ((h.1 0 24), h))) else some ((h.1 0 24), h))
def ff_X12_number (h : vv_H) (v1 : Int32) (v2 : Int32) : Option (Int32 × vv_H) := (if (h.1 0 19) = 0 then (if (h.1 0 23) = (2 : Int32) then ff_X12_number_J23  v1 v2 h else (ff_X12_fails h (2 : Int32)).bind (fun r5 => some ((r5.1 0 24), r5))) else ff_X12_number_J23  v1 v2 h)
set_option maxHeartbeats 200000 in
theorem vt_X12_number_J23 {x : vv_E} {post : Option Value → vv_H → Prop}   {u1 : Int32} {u2 : Int32} {h : vv_H} {o : Int32 × vv_H}  (hm : ff_X12_number_J23  u1 u2 h = some o) (hp : post (some (.int o.1)) o.2) : vv_V x vv_TR mm_X12_number post 23 [some (.ref (vv_ad x 0)), some (.int u1), some (.int u2)] [] h := by
  unfold ff_X12_number_J23 at hm
  refine rr_aload_n (q := 24) dX12_number_23 rfl rfl ?_
  refine gf_X12_254 (q := 27) rfl dX12_number_24 rfl ?_
  refine rr_if_ne (q := 30) (tgt := 50) dX12_number_27 (by decide) rfl hm (fun hm => ?_) (fun hm => ?_)
  · refine rr_aload_n (q := 51) dX12_number_50 rfl rfl ?_
    refine gf_X12_269 (q := 54) rfl dX12_number_51 rfl ?_
    obtain rfl := Option.some.inj hm
    exact rr_iret dX12_number_54 rfl hp
  · refine rr_aload_n (q := 31) dX12_number_30 rfl rfl ?_
    refine gf_X12_269 (q := 34) rfl dX12_number_31 rfl ?_
    refine rr_i2l (q := 35) dX12_number_34 rfl ?_
    refine rr_iload_n (q := 36) dX12_number_35 rfl rfl ?_
    refine rr_i2l (q := 37) dX12_number_36 rfl ?_
    refine rr_iload_n (q := 38) dX12_number_37 rfl rfl ?_
    refine rr_i2l (q := 39) dX12_number_38 rfl ?_
    obtain ⟨r1, k2, hm⟩ := vv_bind hm
    refine rr_callS (q := 42) (M' := mm_X12_in) (As := [.long ((h.1 0 24).toInt64), .long u1.toInt64, .long u2.toInt64]) (st := []) (w := some (.int r1))  (cc_X12_in  k2) rfl vy_X12_in zw_267 ⟨Nat.le_of_ble_eq_true rfl, Nat.le_of_ble_eq_true rfl⟩ (Nat.le_of_ble_eq_true rfl) dX12_number_39 rfl ?_
    show vv_V x vv_TR mm_X12_number post 42 [some (.ref (vv_ad x 0)), some (.int u1), some (.int u2)] [.int r1] h
    refine rr_if_ne (q := 45) (tgt := 50) dX12_number_42 (by decide) rfl hm (fun hm => ?_) (fun hm => ?_)
    · refine rr_aload_n (q := 51) dX12_number_50 rfl rfl ?_
      refine gf_X12_269 (q := 54) rfl dX12_number_51 rfl ?_
      obtain rfl := Option.some.inj hm
      exact rr_iret dX12_number_54 rfl hp
    · refine rr_aload_n (q := 46) dX12_number_45 rfl rfl ?_
      refine rr_iconst (q := 47) (v := 3) dX12_number_46 rfl (by decide) ?_
      obtain ⟨r3, k4, hm⟩ := vv_bind hm
      refine rr_callV (q := 50) (M' := mm_X12_fails) (As := [.int (3 : Int32)]) (st := []) (w := none) (cc_X12_fails  k4) rfl ylR_0 ynR_0 rfl vy_X12_fails zw_290 ⟨Nat.le_of_ble_eq_true rfl, Nat.le_of_ble_eq_true rfl⟩ (Nat.le_of_ble_eq_true rfl) dX12_number_47 rfl ?_
      show vv_V x vv_TR mm_X12_number post 50 [some (.ref (vv_ad x 0)), some (.int u1), some (.int u2)] [] r3
      refine rr_aload_n (q := 51) dX12_number_50 rfl rfl ?_
      refine gf_X12_269 (q := 54) rfl dX12_number_51 rfl ?_
      obtain rfl := Option.some.inj hm
      exact rr_iret dX12_number_54 rfl hp
set_option maxHeartbeats 200000 in
theorem vt_X12_number {x : vv_E} {post : Option Value → vv_H → Prop} {h : vv_H} {v1 : Int32} {v2 : Int32} {o : Int32 × vv_H}  (hm : ff_X12_number  h v1 v2 = some o) (hp : post (some (.int o.1)) o.2) : vv_V x vv_TR mm_X12_number post 0 [some (.ref (vv_ad x 0)), some (.int v1), some (.int v2)] [] h := by
  unfold ff_X12_number at hm
  refine rr_aload_n (q := 1) dX12_number_0 rfl rfl ?_
  refine gf_X12_254 (q := 4) rfl dX12_number_1 rfl ?_
  refine rr_if_ne (q := 7) (tgt := 23) dX12_number_4 (by decide) rfl hm (fun hm => ?_) (fun hm => ?_)
  · exact vt_X12_number_J23  hm hp
  · refine rr_aload_n (q := 8) dX12_number_7 rfl rfl ?_
    refine gf_X12_272 (q := 11) rfl dX12_number_8 rfl ?_
    refine rr_iconst (q := 12) (v := 2) dX12_number_11 rfl (by decide) ?_
    refine rr_icmp_eq (q := 15) (tgt := 23) dX12_number_12 (by decide) rfl hm (fun hm => ?_) (fun hm => ?_)
    · exact vt_X12_number_J23  hm hp
    · refine rr_aload_n (q := 16) dX12_number_15 rfl rfl ?_
      refine rr_iconst (q := 17) (v := 2) dX12_number_16 rfl (by decide) ?_
      obtain ⟨r5, k6, hm⟩ := vv_bind hm
      refine rr_callV (q := 20) (M' := mm_X12_fails) (As := [.int (2 : Int32)]) (st := []) (w := none) (cc_X12_fails  k6) rfl ylR_0 ynR_0 rfl vy_X12_fails zw_290 ⟨Nat.le_of_ble_eq_true rfl, Nat.le_of_ble_eq_true rfl⟩ (Nat.le_of_ble_eq_true rfl) dX12_number_17 rfl ?_
      show vv_V x vv_TR mm_X12_number post 20 [some (.ref (vv_ad x 0)), some (.int v1), some (.int v2)] [] r5
      refine rr_goto (tgt := 50) dX12_number_20 (by decide) ?_
      refine rr_aload_n (q := 51) dX12_number_50 rfl rfl ?_
      refine gf_X12_269 (q := 54) rfl dX12_number_51 rfl ?_
      obtain rfl := Option.some.inj hm
      exact rr_iret dX12_number_54 rfl hp
theorem cc_X12_number {x : vv_E} {h : vv_H} {v1 : Int32} {v2 : Int32} {o : Int32 × vv_H}  (hm : ff_X12_number h v1 v2 = some o) : vv_C x vv_TR yX12_number mm_X12_number [.ref (vv_ad x 0), .int v1, .int v2] h (fun v g => v = some (.int o.1) ∧ g = o.2) := vv_entry (by decide +kernel) rfl (Nat.le_of_ble_eq_true rfl) rfl (vt_X12_number  hm ⟨rfl, rfl⟩)
def ff_X12_dueOf_J84  (u1 : Int32) (u2 : Int32) (u3 : Int32) (m5 : Int32) (hh : vv_H) : Option ((Int32 × Int32 × vv_H) ⊕ ((Int32 × vv_H))) := vv_ck m5 12 (vv_let (hh.1 19 m5.toNatClampNeg) (fun w17 => vv_let (vv_iu hh 0 41 m5) (fun g19 => vv_let (m5 + 1) (fun w21 => some (.inl (w17, w21, g19))))))
def ff_X12_dueOf_B12 (u1 : Int32) (u2 : Int32) (u3 : Int32) (s4 : Int32) (s5 : Int32) (h : vv_H) : Option ((Int32 × Int32 × vv_H) ⊕ ((Int32 × vv_H))) := (if (h.1 0 27) ≤ s5 then some (.inr (s4, h)) else vv_ck s5 12 ((if (h.1 16 s5.toNatClampNeg) = 0 then vv_ck s5 12 ((if (h.1 18 s5.toNatClampNeg) = u2 then vv_ck s5 12 ((if u3 < (h.1 17 s5.toNatClampNeg) then vv_let (s5 + 1) (fun w10 => some (.inl (s4, w10, h))) else (ff_X12_doHold h s5 u1).bind (fun r12 => (if r12 = 0 then vv_let (s5 + 1) (fun w14 => some (.inl (s4, w14, h))) else (if (h.1 0 41) = (-4 : Int32) then ff_X12_dueOf_J84  u1 u2 u3 s5 h else vv_ck s5 12 ((if (h.1 19 s5.toNatClampNeg) ≤ s4 then vv_let (s5 + 1) (fun w24 => some (.inl (s4, w24, h))) else ff_X12_dueOf_J84  u1 u2 u3 s5 h))))))) else vv_let (s5 + 1) (fun w7 => some (.inl (s4, w7, h))))) else vv_let (s5 + 1) (fun w4 => some (.inl (s4, w4, h))))))
def ff_X12_dueOf (h : vv_H) (v1 : Int32) (v2 : Int32) (v3 : Int32) : Option (Int32 × vv_H) := vv_let (vv_iu h 0 41 (-4 : Int32)) (fun g1 => (vv_lp (fun (zs : Int32 × Int32 × vv_H) => ff_X12_dueOf_B12  v1 v2 v3 zs.1 zs.2.1 zs.2.2) vv_F ((0 : Int32), (0 : Int32), g1)).bind (fun (e27 : (Int32 × vv_H)) => some (e27.1, e27.2)))
set_option maxHeartbeats 200000 in
theorem vt_X12_dueOf_J84 {x : vv_E} {post : Option Value → vv_H → Prop}   {u1 : Int32} {u2 : Int32} {u3 : Int32} {m5 : Int32} {hh : vv_H} {o : (Int32 × Int32 × vv_H) ⊕ ((Int32 × vv_H))}  (hm : ff_X12_dueOf_J84  u1 u2 u3 m5 hh = some o) (hI : ∀ (z4 : Int32) (z5 : Int32) (zh : vv_H), o = .inl (z4, z5, zh) → vv_V x vv_TR mm_X12_dueOf post 12 [some (.ref (vv_ad x 0)), some (.int u1), some (.int u2), some (.int u3), some (.int z4), some (.int z5)] [] zh) (hX0 : ∀ (z4 : Int32) (zh : vv_H), o = .inr (z4, zh) → vv_V x vv_TR mm_X12_dueOf post 105 [none, none, none, none, some (.int z4), none] [] zh) : vv_V x vv_TR mm_X12_dueOf post 84 [some (.ref (vv_ad x 0)), some (.int u1), some (.int u2), some (.int u3), none, some (.int m5)] [] hh := by
  unfold ff_X12_dueOf_J84 at hm
  refine rr_aload_n (q := 85) dX12_dueOf_84 rfl rfl ?_
  refine gf_X12_64 (q := 88) rfl dX12_dueOf_85 rfl ?_
  refine rr_iload (q := 90) dX12_dueOf_88 rfl rfl ?_
  obtain ⟨c16, hm⟩ := vv_ck_of hm
  refine rr_iald (q := 91) ylR_19 ynR_19 c16 dX12_dueOf_90 rfl ?_
  obtain ⟨w17, c18, hm⟩ := vv_let_of hm
  rw [← c18]
  refine rr_istore (q := 93) [some (.ref (vv_ad x 0)), some (.int u1), some (.int u2), some (.int u3), some (.int w17), some (.int m5)] dX12_dueOf_91 rfl (Nat.le_of_ble_eq_true rfl) rfl rfl ?_
  refine rr_aload_n (q := 94) dX12_dueOf_93 rfl rfl ?_
  refine rr_iload (q := 96) dX12_dueOf_94 rfl rfl ?_
  refine pf_X12_318 (q := 99) rfl dX12_dueOf_96 rfl (fun g19 c20 => ?_)
  replace hm := vv_letE hm c20
  obtain ⟨w21, c22, hm⟩ := vv_let_of hm
  refine rr_iinc (q := 102) [some (.ref (vv_ad x 0)), some (.int u1), some (.int u2), some (.int u3), some (.int w17), some (.int w21)] dX12_dueOf_99 rfl rfl c22.symm (Nat.le_of_ble_eq_true rfl) rfl rfl ?_
  refine rr_goto (tgt := 12) dX12_dueOf_102 (by decide) ?_
  obtain rfl := Option.some.inj hm
  exact hI w17 w21 g19 rfl
set_option maxHeartbeats 200000 in
theorem vt_X12_dueOf_B12 {x : vv_E} {post : Option Value → vv_H → Prop} {u1 : Int32} {u2 : Int32} {u3 : Int32} {s4 : Int32} {s5 : Int32} {h : vv_H} {o : (Int32 × Int32 × vv_H) ⊕ ((Int32 × vv_H))}  (hm : ff_X12_dueOf_B12  u1 u2 u3 s4 s5 h = some o) (hI : ∀ (z4 : Int32) (z5 : Int32) (zh : vv_H), o = .inl (z4, z5, zh) → vv_V x vv_TR mm_X12_dueOf post 12 [some (.ref (vv_ad x 0)), some (.int u1), some (.int u2), some (.int u3), some (.int z4), some (.int z5)] [] zh) (hX0 : ∀ (z4 : Int32) (zh : vv_H), o = .inr (z4, zh) → vv_V x vv_TR mm_X12_dueOf post 105 [none, none, none, none, some (.int z4), none] [] zh) : vv_V x vv_TR mm_X12_dueOf post 12 [some (.ref (vv_ad x 0)), some (.int u1), some (.int u2), some (.int u3), some (.int s4), some (.int s5)] [] h := by
  unfold ff_X12_dueOf_B12 at hm
  refine rr_iload (q := 14) dX12_dueOf_12 rfl rfl ?_
  refine rr_aload_n (q := 15) dX12_dueOf_14 rfl rfl ?_
  refine gf_X12_315 (q := 18) rfl dX12_dueOf_15 rfl ?_
  refine rr_icmp_ge (q := 21) (tgt := 105) dX12_dueOf_18 (by decide) rfl hm (fun hm => ?_) (fun hm => ?_)
  · obtain rfl := Option.some.inj hm
    refine rr_sub [false, false, false, false, true, false] rfl ?_
    exact hX0 s4 h rfl
  · refine rr_aload_n (q := 22) dX12_dueOf_21 rfl rfl ?_
    refine gf_X12_55 (q := 25) rfl dX12_dueOf_22 rfl ?_
    refine rr_iload (q := 27) dX12_dueOf_25 rfl rfl ?_
    obtain ⟨c3, hm⟩ := vv_ck_of hm
    refine rr_iald (q := 28) ylR_16 ynR_16 c3 dX12_dueOf_27 rfl ?_
    refine rr_if_ne (q := 31) (tgt := 99) dX12_dueOf_28 (by decide) rfl hm (fun hm => ?_) (fun hm => ?_)
    · obtain ⟨w4, c5, hm⟩ := vv_let_of hm
      refine rr_iinc (q := 102) [some (.ref (vv_ad x 0)), some (.int u1), some (.int u2), some (.int u3), some (.int s4), some (.int w4)] dX12_dueOf_99 rfl rfl c5.symm (Nat.le_of_ble_eq_true rfl) rfl rfl ?_
      refine rr_goto (tgt := 12) dX12_dueOf_102 (by decide) ?_
      obtain rfl := Option.some.inj hm
      exact hI s4 w4 h rfl
    · refine rr_aload_n (q := 32) dX12_dueOf_31 rfl rfl ?_
      refine gf_X12_61 (q := 35) rfl dX12_dueOf_32 rfl ?_
      refine rr_iload (q := 37) dX12_dueOf_35 rfl rfl ?_
      obtain ⟨c6, hm⟩ := vv_ck_of hm
      refine rr_iald (q := 38) ylR_18 ynR_18 c6 dX12_dueOf_37 rfl ?_
      refine rr_iload_n (q := 39) dX12_dueOf_38 rfl rfl ?_
      refine rr_icmp_ne (q := 42) (tgt := 99) dX12_dueOf_39 (by decide) rfl hm (fun hm => ?_) (fun hm => ?_)
      · obtain ⟨w7, c8, hm⟩ := vv_let_of hm
        refine rr_iinc (q := 102) [some (.ref (vv_ad x 0)), some (.int u1), some (.int u2), some (.int u3), some (.int s4), some (.int w7)] dX12_dueOf_99 rfl rfl c8.symm (Nat.le_of_ble_eq_true rfl) rfl rfl ?_
        refine rr_goto (tgt := 12) dX12_dueOf_102 (by decide) ?_
        obtain rfl := Option.some.inj hm
        exact hI s4 w7 h rfl
      · refine rr_aload_n (q := 43) dX12_dueOf_42 rfl rfl ?_
        refine gf_X12_58 (q := 46) rfl dX12_dueOf_43 rfl ?_
        refine rr_iload (q := 48) dX12_dueOf_46 rfl rfl ?_
        obtain ⟨c9, hm⟩ := vv_ck_of hm
        refine rr_iald (q := 49) ylR_17 ynR_17 c9 dX12_dueOf_48 rfl ?_
        refine rr_iload_n (q := 50) dX12_dueOf_49 rfl rfl ?_
        refine rr_icmp_gt (q := 53) (tgt := 99) dX12_dueOf_50 (by decide) rfl hm (fun hm => ?_) (fun hm => ?_)
        · obtain ⟨w10, c11, hm⟩ := vv_let_of hm
          refine rr_iinc (q := 102) [some (.ref (vv_ad x 0)), some (.int u1), some (.int u2), some (.int u3), some (.int s4), some (.int w10)] dX12_dueOf_99 rfl rfl c11.symm (Nat.le_of_ble_eq_true rfl) rfl rfl ?_
          refine rr_goto (tgt := 12) dX12_dueOf_102 (by decide) ?_
          obtain rfl := Option.some.inj hm
          exact hI s4 w10 h rfl
        · refine rr_aload_n (q := 54) dX12_dueOf_53 rfl rfl ?_
          refine rr_iload (q := 56) dX12_dueOf_54 rfl rfl ?_
          refine rr_iload_n (q := 57) dX12_dueOf_56 rfl rfl ?_
          obtain ⟨r12, k13, hm⟩ := vv_bind hm
          refine rr_callV (q := 60) (M' := mm_X12_doHold) (As := [.int s5, .int u1]) (st := []) (w := some (.int r12)) (cc_X12_doHold  k13) rfl ylR_0 ynR_0 rfl vy_X12_doHold zw_296 ⟨Nat.le_of_ble_eq_true rfl, Nat.le_of_ble_eq_true rfl⟩ (Nat.le_of_ble_eq_true rfl) dX12_dueOf_57 rfl ?_
          show vv_V x vv_TR mm_X12_dueOf post 60 [some (.ref (vv_ad x 0)), some (.int u1), some (.int u2), some (.int u3), some (.int s4), some (.int s5)] [.int r12] h
          refine rr_if_eq (q := 63) (tgt := 99) dX12_dueOf_60 (by decide) rfl hm (fun hm => ?_) (fun hm => ?_)
          · obtain ⟨w14, c15, hm⟩ := vv_let_of hm
            refine rr_iinc (q := 102) [some (.ref (vv_ad x 0)), some (.int u1), some (.int u2), some (.int u3), some (.int s4), some (.int w14)] dX12_dueOf_99 rfl rfl c15.symm (Nat.le_of_ble_eq_true rfl) rfl rfl ?_
            refine rr_goto (tgt := 12) dX12_dueOf_102 (by decide) ?_
            obtain rfl := Option.some.inj hm
            exact hI s4 w14 h rfl
          · refine rr_aload_n (q := 64) dX12_dueOf_63 rfl rfl ?_
            refine gf_X12_318 (q := 67) rfl dX12_dueOf_64 rfl ?_
            refine rr_bipush (q := 69) (v := -4) dX12_dueOf_67 rfl (by decide) ?_
            refine rr_icmp_eq (q := 72) (tgt := 84) dX12_dueOf_69 (by decide) rfl hm (fun hm => ?_) (fun hm => ?_)
            · refine rr_sub [true, true, true, true, false, true] rfl ?_
              exact vt_X12_dueOf_J84  hm hI hX0
            · refine rr_aload_n (q := 73) dX12_dueOf_72 rfl rfl ?_
              refine gf_X12_64 (q := 76) rfl dX12_dueOf_73 rfl ?_
              refine rr_iload (q := 78) dX12_dueOf_76 rfl rfl ?_
              obtain ⟨c23, hm⟩ := vv_ck_of hm
              refine rr_iald (q := 79) ylR_19 ynR_19 c23 dX12_dueOf_78 rfl ?_
              refine rr_iload (q := 81) dX12_dueOf_79 rfl rfl ?_
              refine rr_icmp_le (q := 84) (tgt := 99) dX12_dueOf_81 (by decide) rfl hm (fun hm => ?_) (fun hm => ?_)
              · obtain ⟨w24, c25, hm⟩ := vv_let_of hm
                refine rr_iinc (q := 102) [some (.ref (vv_ad x 0)), some (.int u1), some (.int u2), some (.int u3), some (.int s4), some (.int w24)] dX12_dueOf_99 rfl rfl c25.symm (Nat.le_of_ble_eq_true rfl) rfl rfl ?_
                refine rr_goto (tgt := 12) dX12_dueOf_102 (by decide) ?_
                obtain rfl := Option.some.inj hm
                exact hI s4 w24 h rfl
              · refine rr_sub [true, true, true, true, false, true] rfl ?_
                exact vt_X12_dueOf_J84  hm hI hX0
set_option maxHeartbeats 200000 in
theorem vt_X12_dueOf {x : vv_E} {post : Option Value → vv_H → Prop} {h : vv_H} {v1 : Int32} {v2 : Int32} {v3 : Int32} {o : Int32 × vv_H}  (hm : ff_X12_dueOf  h v1 v2 v3 = some o) (hp : post (some (.int o.1)) o.2) : vv_V x vv_TR mm_X12_dueOf post 0 [some (.ref (vv_ad x 0)), some (.int v1), some (.int v2), some (.int v3), none, none] [] h := by
  unfold ff_X12_dueOf at hm
  refine rr_iconst (q := 1) (v := 0) dX12_dueOf_0 rfl (by decide) ?_
  refine rr_istore (q := 3) [some (.ref (vv_ad x 0)), some (.int v1), some (.int v2), some (.int v3), some (.int (0 : Int32)), none] dX12_dueOf_1 rfl (Nat.le_of_ble_eq_true rfl) rfl rfl ?_
  refine rr_aload_n (q := 4) dX12_dueOf_3 rfl rfl ?_
  refine rr_bipush (q := 6) (v := -4) dX12_dueOf_4 rfl (by decide) ?_
  refine pf_X12_318 (q := 9) rfl dX12_dueOf_6 rfl (fun g1 c2 => ?_)
  replace hm := vv_letE hm c2
  refine rr_iconst (q := 10) (v := 0) dX12_dueOf_9 rfl (by decide) ?_
  refine rr_istore (q := 12) [some (.ref (vv_ad x 0)), some (.int v1), some (.int v2), some (.int v3), some (.int (0 : Int32)), some (.int (0 : Int32))] dX12_dueOf_10 rfl (Nat.le_of_ble_eq_true rfl) rfl rfl ?_
  obtain ⟨r26, k28, hm⟩ := vv_bind hm
  refine vv_lp_link (P := fun (zs : Int32 × Int32 × vv_H) => vv_V x vv_TR mm_X12_dueOf post 12 [some (.ref (vv_ad x 0)), some (.int v1), some (.int v2), some (.int v3), some (.int zs.1), some (.int zs.2.1)] [] zs.2.2) (Q := (fun (e27 : (Int32 × vv_H)) => vv_V x vv_TR mm_X12_dueOf post 105 [none, none, none, none, some (.int e27.1), none] [] e27.2)) (fun zs o hm hI hX => ?_) vv_F ((0 : Int32), (0 : Int32), g1) r26 k28 ?_
  · exact vt_X12_dueOf_B12   hm (fun z4 z5 zh e => hI (z4, z5, zh) e) (fun z4 zh e => hX (z4, zh) e)
  · generalize r26 = e27 at hm ⊢
    try dsimp only [Sum.elim_inl, Sum.elim_inr] at hm
    try dsimp only [Sum.elim_inl, Sum.elim_inr]
    refine rr_iload (q := 107) dX12_dueOf_105 rfl rfl ?_
    obtain rfl := Option.some.inj hm
    exact rr_iret dX12_dueOf_107 rfl hp
theorem cc_X12_dueOf {x : vv_E} {h : vv_H} {v1 : Int32} {v2 : Int32} {v3 : Int32} {o : Int32 × vv_H}  (hm : ff_X12_dueOf h v1 v2 v3 = some o) : vv_C x vv_TR yX12_dueOf mm_X12_dueOf [.ref (vv_ad x 0), .int v1, .int v2, .int v3] h (fun v g => v = some (.int o.1) ∧ g = o.2) := vv_entry (by decide +kernel) rfl (Nat.le_of_ble_eq_true rfl) rfl (vt_X12_dueOf  hm ⟨rfl, rfl⟩)
def ff_X12_isStore (h : vv_H) (v1 : Int32) : Option (Int32) := (ff_X12_in v1.toInt64 (0 : Int64) (((h.1 0 42) - (1 : Int32)).toInt64)).bind (fun r1 => vv_zk r1 (some r1))
set_option maxHeartbeats 200000 in
theorem vt_X12_isStore {x : vv_E} {post : Option Value → vv_H → Prop} {h : vv_H} {v1 : Int32} {o : Int32}  (hm : ff_X12_isStore  h v1 = some o) (hp : post (some (.int o)) h) : vv_V x vv_TR mm_X12_isStore post 0 [some (.ref (vv_ad x 0)), some (.int v1)] [] h := by
  unfold ff_X12_isStore at hm
  refine rr_iload_n (q := 1) dX12_isStore_0 rfl rfl ?_
  refine rr_i2l (q := 2) dX12_isStore_1 rfl ?_
  refine rr_lconst (q := 3) (v := 0) dX12_isStore_2 rfl (by decide) ?_
  refine rr_aload_n (q := 4) dX12_isStore_3 rfl rfl ?_
  refine gf_X12_328 (q := 7) rfl dX12_isStore_4 rfl ?_
  refine rr_iconst (q := 8) (v := 1) dX12_isStore_7 rfl (by decide) ?_
  refine rr_isub (q := 9) dX12_isStore_8 rfl ?_
  refine rr_i2l (q := 10) dX12_isStore_9 rfl ?_
  obtain ⟨r1, k2, hm⟩ := vv_bind hm
  refine rr_callS (q := 13) (M' := mm_X12_in) (As := [.long v1.toInt64, .long (0 : Int64), .long (((h.1 0 42) - (1 : Int32)).toInt64)]) (st := []) (w := some (.int r1))  (cc_X12_in  k2) rfl vy_X12_in zw_267 ⟨Nat.le_of_ble_eq_true rfl, Nat.le_of_ble_eq_true rfl⟩ (Nat.le_of_ble_eq_true rfl) dX12_isStore_10 rfl ?_
  show vv_V x vv_TR mm_X12_isStore post 13 [some (.ref (vv_ad x 0)), some (.int v1)] [.int r1] h
  obtain ⟨c3, hm⟩ := vv_zk_of hm
  obtain rfl := Option.some.inj hm
  exact rr_zret dX12_isStore_13 rfl c3 hp
theorem cc_X12_isStore {x : vv_E} {h : vv_H} {v1 : Int32} {o : Int32}  (hm : ff_X12_isStore h v1 = some o) : vv_C x vv_TR yX12_isStore mm_X12_isStore [.ref (vv_ad x 0), .int v1] h (fun v g => v = some (.int o) ∧ g = h) := vv_entry (by decide +kernel) rfl (Nat.le_of_ble_eq_true rfl) rfl (vt_X12_isStore  hm ⟨rfl, rfl⟩)
def ff_X12_isPiece (h : vv_H) (v1 : Int32) : Option (Int32) := (ff_X12_in v1.toInt64 (0 : Int64) (((h.1 0 44) - (1 : Int32)).toInt64)).bind (fun r1 => vv_zk r1 (some r1))
set_option maxHeartbeats 200000 in
theorem vt_X12_isPiece {x : vv_E} {post : Option Value → vv_H → Prop} {h : vv_H} {v1 : Int32} {o : Int32}  (hm : ff_X12_isPiece  h v1 = some o) (hp : post (some (.int o)) h) : vv_V x vv_TR mm_X12_isPiece post 0 [some (.ref (vv_ad x 0)), some (.int v1)] [] h := by
  unfold ff_X12_isPiece at hm
  refine rr_iload_n (q := 1) dX12_isPiece_0 rfl rfl ?_
  refine rr_i2l (q := 2) dX12_isPiece_1 rfl ?_
  refine rr_lconst (q := 3) (v := 0) dX12_isPiece_2 rfl (by decide) ?_
  refine rr_aload_n (q := 4) dX12_isPiece_3 rfl rfl ?_
  refine gf_X12_232 (q := 7) rfl dX12_isPiece_4 rfl ?_
  refine rr_iconst (q := 8) (v := 1) dX12_isPiece_7 rfl (by decide) ?_
  refine rr_isub (q := 9) dX12_isPiece_8 rfl ?_
  refine rr_i2l (q := 10) dX12_isPiece_9 rfl ?_
  obtain ⟨r1, k2, hm⟩ := vv_bind hm
  refine rr_callS (q := 13) (M' := mm_X12_in) (As := [.long v1.toInt64, .long (0 : Int64), .long (((h.1 0 44) - (1 : Int32)).toInt64)]) (st := []) (w := some (.int r1))  (cc_X12_in  k2) rfl vy_X12_in zw_267 ⟨Nat.le_of_ble_eq_true rfl, Nat.le_of_ble_eq_true rfl⟩ (Nat.le_of_ble_eq_true rfl) dX12_isPiece_10 rfl ?_
  show vv_V x vv_TR mm_X12_isPiece post 13 [some (.ref (vv_ad x 0)), some (.int v1)] [.int r1] h
  obtain ⟨c3, hm⟩ := vv_zk_of hm
  obtain rfl := Option.some.inj hm
  exact rr_zret dX12_isPiece_13 rfl c3 hp
theorem cc_X12_isPiece {x : vv_E} {h : vv_H} {v1 : Int32} {o : Int32}  (hm : ff_X12_isPiece h v1 = some o) : vv_C x vv_TR yX12_isPiece mm_X12_isPiece [.ref (vv_ad x 0), .int v1] h (fun v g => v = some (.int o) ∧ g = h) := vv_entry (by decide +kernel) rfl (Nat.le_of_ble_eq_true rfl) rfl (vt_X12_isPiece  hm ⟨rfl, rfl⟩)
def ff_X12_isWornOut (h : vv_H) (v1 : Int32) : Option (Int32) := (ff_X12_wornOf h v1).bind (fun r1 => (ff_X12_kindAt h v1).bind (fun r3 => (ff_X12_ruleOf h r3 (1 : Int32) (h.1 0 0)).bind (fun r5 => (if r1 < r5 then some (0 : Int32) else some (1 : Int32)))))
set_option maxHeartbeats 200000 in
theorem vt_X12_isWornOut {x : vv_E} {post : Option Value → vv_H → Prop} {h : vv_H} {v1 : Int32} {o : Int32}  (hm : ff_X12_isWornOut  h v1 = some o) (hp : post (some (.int o)) h) : vv_V x vv_TR mm_X12_isWornOut post 0 [some (.ref (vv_ad x 0)), some (.int v1)] [] h := by
  unfold ff_X12_isWornOut at hm
  refine rr_aload_n (q := 1) dX12_isWornOut_0 rfl rfl ?_
  refine rr_iload_n (q := 2) dX12_isWornOut_1 rfl rfl ?_
  obtain ⟨r1, k2, hm⟩ := vv_bind hm
  refine rr_callV (q := 5) (M' := mm_X12_wornOf) (As := [.int v1]) (st := []) (w := some (.int r1)) (cc_X12_wornOf  k2) rfl ylR_0 ynR_0 rfl vy_X12_wornOf zw_301 ⟨Nat.le_of_ble_eq_true rfl, Nat.le_of_ble_eq_true rfl⟩ (Nat.le_of_ble_eq_true rfl) dX12_isWornOut_2 rfl ?_
  show vv_V x vv_TR mm_X12_isWornOut post 5 [some (.ref (vv_ad x 0)), some (.int v1)] [.int r1] h
  refine rr_aload_n (q := 6) dX12_isWornOut_5 rfl rfl ?_
  refine rr_aload_n (q := 7) dX12_isWornOut_6 rfl rfl ?_
  refine rr_iload_n (q := 8) dX12_isWornOut_7 rfl rfl ?_
  obtain ⟨r3, k4, hm⟩ := vv_bind hm
  refine rr_callV (q := 11) (M' := mm_X12_kindAt) (As := [.int v1]) (st := [.ref (vv_ad x 0), .int r1]) (w := some (.int r3)) (cc_X12_kindAt  k4) rfl ylR_0 ynR_0 rfl vy_X12_kindAt zw_306 ⟨Nat.le_of_ble_eq_true rfl, Nat.le_of_ble_eq_true rfl⟩ (Nat.le_of_ble_eq_true rfl) dX12_isWornOut_8 rfl ?_
  show vv_V x vv_TR mm_X12_isWornOut post 11 [some (.ref (vv_ad x 0)), some (.int v1)] [.int r3, .ref (vv_ad x 0), .int r1] h
  refine rr_iconst (q := 12) (v := 1) dX12_isWornOut_11 rfl (by decide) ?_
  refine rr_aload_n (q := 13) dX12_isWornOut_12 rfl rfl ?_
  refine gf_X12_187 (q := 16) rfl dX12_isWornOut_13 rfl ?_
  obtain ⟨r5, k6, hm⟩ := vv_bind hm
  refine rr_callV (q := 19) (M' := mm_X12_ruleOf) (As := [.int r3, .int (1 : Int32), .int (h.1 0 0)]) (st := [.int r1]) (w := some (.int r5)) (cc_X12_ruleOf  k6) rfl ylR_0 ynR_0 rfl vy_X12_ruleOf zw_311 ⟨Nat.le_of_ble_eq_true rfl, Nat.le_of_ble_eq_true rfl⟩ (Nat.le_of_ble_eq_true rfl) dX12_isWornOut_16 rfl ?_
  show vv_V x vv_TR mm_X12_isWornOut post 19 [some (.ref (vv_ad x 0)), some (.int v1)] [.int r5, .int r1] h
  refine rr_icmp_lt (q := 22) (tgt := 26) dX12_isWornOut_19 (by decide) rfl hm (fun hm => ?_) (fun hm => ?_)
  · refine rr_iconst (q := 27) (v := 0) dX12_isWornOut_26 rfl (by decide) ?_
    obtain rfl := Option.some.inj hm
    exact rr_zret dX12_isWornOut_27 rfl rfl hp
  · refine rr_iconst (q := 23) (v := 1) dX12_isWornOut_22 rfl (by decide) ?_
    refine rr_goto (tgt := 27) dX12_isWornOut_23 (by decide) ?_
    obtain rfl := Option.some.inj hm
    exact rr_zret dX12_isWornOut_27 rfl rfl hp
theorem cc_X12_isWornOut {x : vv_E} {h : vv_H} {v1 : Int32} {o : Int32}  (hm : ff_X12_isWornOut h v1 = some o) : vv_C x vv_TR yX12_isWornOut mm_X12_isWornOut [.ref (vv_ad x 0), .int v1] h (fun v g => v = some (.int o) ∧ g = h) := vv_entry (by decide +kernel) rfl (Nat.le_of_ble_eq_true rfl) rfl (vt_X12_isWornOut  hm ⟨rfl, rfl⟩)
def ff_X12_leaves (h : vv_H) (v1 : Int32) : Option (vv_H) := (ff_X12_wornOf h v1).bind (fun r1 => vv_ck v1 36 (vv_let (vv_iu h 35 v1.toNatClampNeg r1) (fun g4 => vv_ck v1 36 (vv_let (vv_iu g4 33 v1.toNatClampNeg (-4 : Int32)) (fun g7 => some g7)))))
set_option maxHeartbeats 200000 in
theorem vt_X12_leaves {x : vv_E} {post : Option Value → vv_H → Prop} {h : vv_H} {v1 : Int32} {o : vv_H}  (hm : ff_X12_leaves  h v1 = some o) (hp : post none o) : vv_V x vv_TR mm_X12_leaves post 0 [some (.ref (vv_ad x 0)), some (.int v1)] [] h := by
  unfold ff_X12_leaves at hm
  refine rr_aload_n (q := 1) dX12_leaves_0 rfl rfl ?_
  refine gf_X12_112 (q := 4) rfl dX12_leaves_1 rfl ?_
  refine rr_iload_n (q := 5) dX12_leaves_4 rfl rfl ?_
  refine rr_aload_n (q := 6) dX12_leaves_5 rfl rfl ?_
  refine rr_iload_n (q := 7) dX12_leaves_6 rfl rfl ?_
  obtain ⟨r1, k2, hm⟩ := vv_bind hm
  refine rr_callV (q := 10) (M' := mm_X12_wornOf) (As := [.int v1]) (st := [.int v1, .ref (vv_ad x 35)]) (w := some (.int r1)) (cc_X12_wornOf  k2) rfl ylR_0 ynR_0 rfl vy_X12_wornOf zw_301 ⟨Nat.le_of_ble_eq_true rfl, Nat.le_of_ble_eq_true rfl⟩ (Nat.le_of_ble_eq_true rfl) dX12_leaves_7 rfl ?_
  show vv_V x vv_TR mm_X12_leaves post 10 [some (.ref (vv_ad x 0)), some (.int v1)] [.int r1, .int v1, .ref (vv_ad x 35)] h
  obtain ⟨c3, hm⟩ := vv_ck_of hm
  obtain ⟨g4, c5, hm⟩ := vv_let_of hm
  refine rr_iast (q := 11) ylR_35 ynR_35 c3 dX12_leaves_10 rfl ?_
  rw [← c5]
  refine rr_aload_n (q := 12) dX12_leaves_11 rfl rfl ?_
  refine gf_X12_106 (q := 15) rfl dX12_leaves_12 rfl ?_
  refine rr_iload_n (q := 16) dX12_leaves_15 rfl rfl ?_
  refine rr_bipush (q := 18) (v := -4) dX12_leaves_16 rfl (by decide) ?_
  obtain ⟨c6, hm⟩ := vv_ck_of hm
  obtain ⟨g7, c8, hm⟩ := vv_let_of hm
  refine rr_iast (q := 19) ylR_33 ynR_33 c6 dX12_leaves_18 rfl ?_
  rw [← c8]
  obtain rfl := Option.some.inj hm
  exact rr_vret dX12_leaves_19 rfl hp
theorem cc_X12_leaves {x : vv_E} {h : vv_H} {v1 : Int32} {o : vv_H}  (hm : ff_X12_leaves h v1 = some o) : vv_C x vv_TR yX12_leaves mm_X12_leaves [.ref (vv_ad x 0), .int v1] h (fun v g => v = none ∧ g = o) := vv_entry (by decide +kernel) rfl (Nat.le_of_ble_eq_true rfl) rfl (vt_X12_leaves  hm ⟨rfl, rfl⟩)
def ff_X12_stockOf_B5 (u1 : Int32) (u2 : Int32) (h : vv_H) (s3 : Int32) (s4 : Int32) : Option ((Int32 × Int32) ⊕ ((Int32))) := (if (h.1 0 44) ≤ s4 then some (.inr s3) else vv_ck s4 36 ((if (h.1 32 s4.toNatClampNeg) = u1 then (ff_X12_kindAt h s4).bind (fun r4 => (if r4 = u2 then vv_let (s4 + 1) (fun w8 => some (.inl ((s3 + (1 : Int32)), w8))) else vv_let (s4 + 1) (fun w6 => some (.inl ((s3 + (0 : Int32)), w6))))) else vv_let (s4 + 1) (fun w2 => some (.inl ((s3 + (0 : Int32)), w2))))))
def ff_X12_stockOf (h : vv_H) (v1 : Int32) (v2 : Int32) : Option (Int32) := (vv_lp (fun (zs : Int32 × Int32) => ff_X12_stockOf_B5  v1 v2 h zs.1 zs.2) vv_F ((0 : Int32), (0 : Int32))).bind (fun (e11 : (Int32)) => some e11)
set_option maxHeartbeats 200000 in
theorem vt_X12_stockOf_B5 {x : vv_E} {post : Option Value → vv_H → Prop} {u1 : Int32} {u2 : Int32} {h : vv_H} {s3 : Int32} {s4 : Int32} {o : (Int32 × Int32) ⊕ ((Int32))}  (hm : ff_X12_stockOf_B5  u1 u2 h s3 s4 = some o) (hI : ∀ (z3 : Int32) (z4 : Int32) , o = .inl (z3, z4) → vv_V x vv_TR mm_X12_stockOf post 5 [some (.ref (vv_ad x 0)), some (.int u1), some (.int u2), some (.int z3), some (.int z4)] [] h) (hX0 : ∀ (z3 : Int32), o = .inr z3 → vv_V x vv_TR mm_X12_stockOf post 49 [none, none, none, some (.int z3), none] [] h) : vv_V x vv_TR mm_X12_stockOf post 5 [some (.ref (vv_ad x 0)), some (.int u1), some (.int u2), some (.int s3), some (.int s4)] [] h := by
  unfold ff_X12_stockOf_B5 at hm
  refine rr_iload (q := 7) dX12_stockOf_5 rfl rfl ?_
  refine rr_aload_n (q := 8) dX12_stockOf_7 rfl rfl ?_
  refine gf_X12_232 (q := 11) rfl dX12_stockOf_8 rfl ?_
  refine rr_icmp_ge (q := 14) (tgt := 49) dX12_stockOf_11 (by decide) rfl hm (fun hm => ?_) (fun hm => ?_)
  · obtain rfl := Option.some.inj hm
    refine rr_sub [false, false, false, true, false] rfl ?_
    exact hX0 s3 rfl
  · refine rr_iload_n (q := 15) dX12_stockOf_14 rfl rfl ?_
    refine rr_aload_n (q := 16) dX12_stockOf_15 rfl rfl ?_
    refine gf_X12_103 (q := 19) rfl dX12_stockOf_16 rfl ?_
    refine rr_iload (q := 21) dX12_stockOf_19 rfl rfl ?_
    obtain ⟨c1, hm⟩ := vv_ck_of hm
    refine rr_iald (q := 22) ylR_32 ynR_32 c1 dX12_stockOf_21 rfl ?_
    refine rr_iload_n (q := 23) dX12_stockOf_22 rfl rfl ?_
    refine rr_icmp_ne (q := 26) (tgt := 40) dX12_stockOf_23 (by decide) rfl hm (fun hm => ?_) (fun hm => ?_)
    · refine rr_iconst (q := 41) (v := 0) dX12_stockOf_40 rfl (by decide) ?_
      refine rr_iadd (q := 42) dX12_stockOf_41 rfl ?_
      refine rr_istore_n (q := 43) [some (.ref (vv_ad x 0)), some (.int u1), some (.int u2), some (.int (s3 + (0 : Int32))), some (.int s4)] dX12_stockOf_42 rfl rfl (Nat.le_of_ble_eq_true rfl) rfl rfl ?_
      obtain ⟨w2, c3, hm⟩ := vv_let_of hm
      refine rr_iinc (q := 46) [some (.ref (vv_ad x 0)), some (.int u1), some (.int u2), some (.int (s3 + (0 : Int32))), some (.int w2)] dX12_stockOf_43 rfl rfl c3.symm (Nat.le_of_ble_eq_true rfl) rfl rfl ?_
      refine rr_goto (tgt := 5) dX12_stockOf_46 (by decide) ?_
      obtain rfl := Option.some.inj hm
      exact hI (s3 + (0 : Int32)) w2 rfl
    · refine rr_aload_n (q := 27) dX12_stockOf_26 rfl rfl ?_
      refine rr_iload (q := 29) dX12_stockOf_27 rfl rfl ?_
      obtain ⟨r4, k5, hm⟩ := vv_bind hm
      refine rr_callV (q := 32) (M' := mm_X12_kindAt) (As := [.int s4]) (st := [.int s3]) (w := some (.int r4)) (cc_X12_kindAt  k5) rfl ylR_0 ynR_0 rfl vy_X12_kindAt zw_306 ⟨Nat.le_of_ble_eq_true rfl, Nat.le_of_ble_eq_true rfl⟩ (Nat.le_of_ble_eq_true rfl) dX12_stockOf_29 rfl ?_
      show vv_V x vv_TR mm_X12_stockOf post 32 [some (.ref (vv_ad x 0)), some (.int u1), some (.int u2), some (.int s3), some (.int s4)] [.int r4, .int s3] h
      refine rr_iload_n (q := 33) dX12_stockOf_32 rfl rfl ?_
      refine rr_icmp_ne (q := 36) (tgt := 40) dX12_stockOf_33 (by decide) rfl hm (fun hm => ?_) (fun hm => ?_)
      · refine rr_iconst (q := 41) (v := 0) dX12_stockOf_40 rfl (by decide) ?_
        refine rr_iadd (q := 42) dX12_stockOf_41 rfl ?_
        refine rr_istore_n (q := 43) [some (.ref (vv_ad x 0)), some (.int u1), some (.int u2), some (.int (s3 + (0 : Int32))), some (.int s4)] dX12_stockOf_42 rfl rfl (Nat.le_of_ble_eq_true rfl) rfl rfl ?_
        obtain ⟨w6, c7, hm⟩ := vv_let_of hm
        refine rr_iinc (q := 46) [some (.ref (vv_ad x 0)), some (.int u1), some (.int u2), some (.int (s3 + (0 : Int32))), some (.int w6)] dX12_stockOf_43 rfl rfl c7.symm (Nat.le_of_ble_eq_true rfl) rfl rfl ?_
        refine rr_goto (tgt := 5) dX12_stockOf_46 (by decide) ?_
        obtain rfl := Option.some.inj hm
        exact hI (s3 + (0 : Int32)) w6 rfl
      · refine rr_iconst (q := 37) (v := 1) dX12_stockOf_36 rfl (by decide) ?_
        refine rr_goto (tgt := 41) dX12_stockOf_37 (by decide) ?_
        refine rr_iadd (q := 42) dX12_stockOf_41 rfl ?_
        refine rr_istore_n (q := 43) [some (.ref (vv_ad x 0)), some (.int u1), some (.int u2), some (.int (s3 + (1 : Int32))), some (.int s4)] dX12_stockOf_42 rfl rfl (Nat.le_of_ble_eq_true rfl) rfl rfl ?_
        obtain ⟨w8, c9, hm⟩ := vv_let_of hm
        refine rr_iinc (q := 46) [some (.ref (vv_ad x 0)), some (.int u1), some (.int u2), some (.int (s3 + (1 : Int32))), some (.int w8)] dX12_stockOf_43 rfl rfl c9.symm (Nat.le_of_ble_eq_true rfl) rfl rfl ?_
        refine rr_goto (tgt := 5) dX12_stockOf_46 (by decide) ?_
        obtain rfl := Option.some.inj hm
        exact hI (s3 + (1 : Int32)) w8 rfl
set_option maxHeartbeats 200000 in
theorem vt_X12_stockOf {x : vv_E} {post : Option Value → vv_H → Prop} {h : vv_H} {v1 : Int32} {v2 : Int32} {o : Int32}  (hm : ff_X12_stockOf  h v1 v2 = some o) (hp : post (some (.int o)) h) : vv_V x vv_TR mm_X12_stockOf post 0 [some (.ref (vv_ad x 0)), some (.int v1), some (.int v2), none, none] [] h := by
  unfold ff_X12_stockOf at hm
  refine rr_iconst (q := 1) (v := 0) dX12_stockOf_0 rfl (by decide) ?_
  refine rr_istore_n (q := 2) [some (.ref (vv_ad x 0)), some (.int v1), some (.int v2), some (.int (0 : Int32)), none] dX12_stockOf_1 rfl rfl (Nat.le_of_ble_eq_true rfl) rfl rfl ?_
  refine rr_iconst (q := 3) (v := 0) dX12_stockOf_2 rfl (by decide) ?_
  refine rr_istore (q := 5) [some (.ref (vv_ad x 0)), some (.int v1), some (.int v2), some (.int (0 : Int32)), some (.int (0 : Int32))] dX12_stockOf_3 rfl (Nat.le_of_ble_eq_true rfl) rfl rfl ?_
  obtain ⟨r10, k12, hm⟩ := vv_bind hm
  refine vv_lp_link (P := fun (zs : Int32 × Int32) => vv_V x vv_TR mm_X12_stockOf post 5 [some (.ref (vv_ad x 0)), some (.int v1), some (.int v2), some (.int zs.1), some (.int zs.2)] [] h) (Q := (fun (e11 : (Int32)) => vv_V x vv_TR mm_X12_stockOf post 49 [none, none, none, some (.int e11), none] [] h)) (fun zs o hm hI hX => ?_) vv_F ((0 : Int32), (0 : Int32)) r10 k12 ?_
  · exact vt_X12_stockOf_B5   hm (fun z3 z4 e => hI (z3, z4) e) (fun z3 e => hX z3 e)
  · generalize r10 = e11 at hm ⊢
    try dsimp only [Sum.elim_inl, Sum.elim_inr] at hm
    try dsimp only [Sum.elim_inl, Sum.elim_inr]
    refine rr_iload_n (q := 50) dX12_stockOf_49 rfl rfl ?_
    obtain rfl := Option.some.inj hm
    exact rr_iret dX12_stockOf_50 rfl hp
theorem cc_X12_stockOf {x : vv_E} {h : vv_H} {v1 : Int32} {v2 : Int32} {o : Int32}  (hm : ff_X12_stockOf h v1 v2 = some o) : vv_C x vv_TR yX12_stockOf mm_X12_stockOf [.ref (vv_ad x 0), .int v1, .int v2] h (fun v g => v = some (.int o) ∧ g = h) := vv_entry (by decide +kernel) rfl (Nat.le_of_ble_eq_true rfl) rfl (vt_X12_stockOf  hm ⟨rfl, rfl⟩)
def ff_X12_isIn (h : vv_H) (v1 : Int32) (v2 : Int32) (v3 : Int32) : Option (Int32) := vv_ck v1 36 ((ff_X12_in ((h.1 31 v1.toNatClampNeg).toInt64) v2.toInt64 ((v2 + v3).toInt64)).bind (fun r2 => vv_zk r2 (some r2)))
set_option maxHeartbeats 200000 in
theorem vt_X12_isIn {x : vv_E} {post : Option Value → vv_H → Prop} {h : vv_H} {v1 : Int32} {v2 : Int32} {v3 : Int32} {o : Int32}  (hm : ff_X12_isIn  h v1 v2 v3 = some o) (hp : post (some (.int o)) h) : vv_V x vv_TR mm_X12_isIn post 0 [some (.ref (vv_ad x 0)), some (.int v1), some (.int v2), some (.int v3)] [] h := by
  unfold ff_X12_isIn at hm
  refine rr_aload_n (q := 1) dX12_isIn_0 rfl rfl ?_
  refine gf_X12_100 (q := 4) rfl dX12_isIn_1 rfl ?_
  refine rr_iload_n (q := 5) dX12_isIn_4 rfl rfl ?_
  obtain ⟨c1, hm⟩ := vv_ck_of hm
  refine rr_iald (q := 6) ylR_31 ynR_31 c1 dX12_isIn_5 rfl ?_
  refine rr_i2l (q := 7) dX12_isIn_6 rfl ?_
  refine rr_iload_n (q := 8) dX12_isIn_7 rfl rfl ?_
  refine rr_i2l (q := 9) dX12_isIn_8 rfl ?_
  refine rr_iload_n (q := 10) dX12_isIn_9 rfl rfl ?_
  refine rr_iload_n (q := 11) dX12_isIn_10 rfl rfl ?_
  refine rr_iadd (q := 12) dX12_isIn_11 rfl ?_
  refine rr_i2l (q := 13) dX12_isIn_12 rfl ?_
  obtain ⟨r2, k3, hm⟩ := vv_bind hm
  refine rr_callS (q := 16) (M' := mm_X12_in) (As := [.long ((h.1 31 v1.toNatClampNeg).toInt64), .long v2.toInt64, .long ((v2 + v3).toInt64)]) (st := []) (w := some (.int r2))  (cc_X12_in  k3) rfl vy_X12_in zw_267 ⟨Nat.le_of_ble_eq_true rfl, Nat.le_of_ble_eq_true rfl⟩ (Nat.le_of_ble_eq_true rfl) dX12_isIn_13 rfl ?_
  show vv_V x vv_TR mm_X12_isIn post 16 [some (.ref (vv_ad x 0)), some (.int v1), some (.int v2), some (.int v3)] [.int r2] h
  obtain ⟨c4, hm⟩ := vv_zk_of hm
  obtain rfl := Option.some.inj hm
  exact rr_zret dX12_isIn_16 rfl c4 hp
theorem cc_X12_isIn {x : vv_E} {h : vv_H} {v1 : Int32} {v2 : Int32} {v3 : Int32} {o : Int32}  (hm : ff_X12_isIn h v1 v2 v3 = some o) : vv_C x vv_TR yX12_isIn mm_X12_isIn [.ref (vv_ad x 0), .int v1, .int v2, .int v3] h (fun v g => v = some (.int o) ∧ g = h) := vv_entry (by decide +kernel) rfl (Nat.le_of_ble_eq_true rfl) rfl (vt_X12_isIn  hm ⟨rfl, rfl⟩)
def ff_X12_leastCost_B72 (u1 : Int32) (s4 : Int32) (h : vv_H) : Option ((Int32 × vv_H) ⊕ ((Int32 × vv_H))) := (if s4 < 0 then some (.inr (s4, h)) else vv_ck s4 12 (vv_ck s4 12 ((if (h.1 49 s4.toNatClampNeg) = (h.1 48 s4.toNatClampNeg) then vv_ck s4 12 (vv_let (vv_iu h 49 s4.toNatClampNeg (0 : Int32)) (fun g10 => vv_let (s4 + (-1)) (fun w12 => some (.inl (w12, g10))))) else some (.inr (s4, h))))))
def ff_X12_leastCost_J118  (m1 : Int32) (m4 : Int32) (z0 : Int32) (hh : vv_H) : Option ((Int32 × Int32 × vv_H) ⊕ ((Int32 × vv_H))) := (if z0 = 0 then some (.inl (m1, z0, hh)) else vv_ck m4 12 (vv_ck m4 12 (vv_let (vv_iu hh 49 m4.toNatClampNeg ((hh.1 49 m4.toNatClampNeg) + (1 : Int32))) (fun g18 => some (.inl (m1, z0, g18))))))
def ff_X12_leastCost_J64  (m1 : Int32) (hh : vv_H) : Option ((Int32 × Int32 × vv_H) ⊕ ((Int32 × vv_H))) := vv_let ((hh.1 0 62) - (1 : Int32)) (fun w5 => (vv_lp (fun (zs : Int32 × vv_H) => ff_X12_leastCost_B72  m1 zs.1 zs.2) vv_F (w5, hh)).bind (fun (e15 : (Int32 × vv_H)) => (if e15.1 < 0 then ff_X12_leastCost_J118  m1 e15.1 (0 : Int32) e15.2 else ff_X12_leastCost_J118  m1 e15.1 (1 : Int32) e15.2)))
def ff_X12_leastCost_B35 (u1 : Int32) (s4 : Int32) (h : vv_H) : Option ((Int32 × vv_H) ⊕ ((vv_H))) := (if (h.1 0 62) ≤ s4 then some (.inr h) else vv_ck s4 12 (vv_ck s4 12 (vv_let (vv_iu h 50 s4.toNatClampNeg (h.1 49 s4.toNatClampNeg)) (fun g23 => vv_let (s4 + 1) (fun w25 => some (.inl (w25, g23)))))))
def ff_X12_leastCost_J30  (m3 : Int32) (hh : vv_H) : Option ((Int32 × Int32 × vv_H) ⊕ ((Int32 × vv_H))) := (vv_lp (fun (zs : Int32 × vv_H) => ff_X12_leastCost_B35  m3 zs.1 zs.2) vv_F ((0 : Int32), hh)).bind (fun (e28 : (vv_H)) => ff_X12_leastCost_J64  m3 e28)
def ff_X12_leastCost_B8  (s1 : Int32) (s2 : Int32) (h : vv_H) : Option ((Int32 × Int32 × vv_H) ⊕ ((Int32 × vv_H))) := (if s2 = 0 then some (.inr (s1, h)) else (ff_X12_costNow h).bind (fun r3 => (if r3 < 0 then ff_X12_leastCost_J64  s1 h else (if s1 < 0 then ff_X12_leastCost_J30  r3 h else (if s1 ≤ r3 then ff_X12_leastCost_J64  s1 h else ff_X12_leastCost_J30  r3 h)))))
def ff_X12_leastCost (h : vv_H) : Option (Int32 × vv_H) := (ff_X12_layPairs h).bind (fun r1 => (vv_lp (fun (zs : Int32 × Int32 × vv_H) => ff_X12_leastCost_B8   zs.1 zs.2.1 zs.2.2) vv_F ((-1 : Int32), (1 : Int32), r1)).bind (fun (e31 : (Int32 × vv_H)) => some (e31.1, e31.2)))
set_option maxHeartbeats 200000 in
theorem vt_X12_leastCost_B72 {x : vv_E} {post : Option Value → vv_H → Prop} {u1 : Int32} {s4 : Int32} {h : vv_H} {o : (Int32 × vv_H) ⊕ ((Int32 × vv_H))}  (hm : ff_X12_leastCost_B72  u1 s4 h = some o) (hI : ∀ (z4 : Int32) (zh : vv_H), o = .inl (z4, zh) → vv_V x vv_TR mm_X12_leastCost post 72 [some (.ref (vv_ad x 0)), some (.int u1), none, none, some (.int z4)] [] zh) (hX0 : ∀ (z4 : Int32) (zh : vv_H), o = .inr (z4, zh) → vv_V x vv_TR mm_X12_leastCost post 108 [some (.ref (vv_ad x 0)), some (.int u1), none, none, some (.int z4)] [] zh) : vv_V x vv_TR mm_X12_leastCost post 72 [some (.ref (vv_ad x 0)), some (.int u1), none, none, some (.int s4)] [] h := by
  unfold ff_X12_leastCost_B72 at hm
  refine rr_iload (q := 74) dX12_leastCost_72 rfl rfl ?_
  refine rr_if_lt (q := 77) (tgt := 108) dX12_leastCost_74 (by decide) rfl hm (fun hm => ?_) (fun hm => ?_)
  · obtain rfl := Option.some.inj hm
    exact hX0 s4 h rfl
  · refine rr_aload_n (q := 78) dX12_leastCost_77 rfl rfl ?_
    refine gf_X12_155 (q := 81) rfl dX12_leastCost_78 rfl ?_
    refine rr_iload (q := 83) dX12_leastCost_81 rfl rfl ?_
    obtain ⟨c7, hm⟩ := vv_ck_of hm
    refine rr_iald (q := 84) ylR_49 ynR_49 c7 dX12_leastCost_83 rfl ?_
    refine rr_aload_n (q := 85) dX12_leastCost_84 rfl rfl ?_
    refine gf_X12_152 (q := 88) rfl dX12_leastCost_85 rfl ?_
    refine rr_iload (q := 90) dX12_leastCost_88 rfl rfl ?_
    obtain ⟨c8, hm⟩ := vv_ck_of hm
    refine rr_iald (q := 91) ylR_48 ynR_48 c8 dX12_leastCost_90 rfl ?_
    refine rr_icmp_ne (q := 94) (tgt := 108) dX12_leastCost_91 (by decide) rfl hm (fun hm => ?_) (fun hm => ?_)
    · obtain rfl := Option.some.inj hm
      exact hX0 s4 h rfl
    · refine rr_aload_n (q := 95) dX12_leastCost_94 rfl rfl ?_
      refine gf_X12_155 (q := 98) rfl dX12_leastCost_95 rfl ?_
      refine rr_iload (q := 100) dX12_leastCost_98 rfl rfl ?_
      refine rr_iconst (q := 101) (v := 0) dX12_leastCost_100 rfl (by decide) ?_
      obtain ⟨c9, hm⟩ := vv_ck_of hm
      obtain ⟨g10, c11, hm⟩ := vv_let_of hm
      refine rr_iast (q := 102) ylR_49 ynR_49 c9 dX12_leastCost_101 rfl ?_
      rw [← c11]
      obtain ⟨w12, c13, hm⟩ := vv_let_of hm
      refine rr_iinc (q := 105) [some (.ref (vv_ad x 0)), some (.int u1), none, none, some (.int w12)] dX12_leastCost_102 rfl rfl c13.symm (Nat.le_of_ble_eq_true rfl) rfl rfl ?_
      refine rr_goto (tgt := 72) dX12_leastCost_105 (by decide) ?_
      obtain rfl := Option.some.inj hm
      exact hI w12 g10 rfl
set_option maxHeartbeats 200000 in
theorem vt_X12_leastCost_J118 {x : vv_E} {post : Option Value → vv_H → Prop}   {m1 : Int32} {m4 : Int32} {z0 : Int32} {hh : vv_H} {o : (Int32 × Int32 × vv_H) ⊕ ((Int32 × vv_H))}  (hm : ff_X12_leastCost_J118  m1 m4 z0 hh = some o) (hI : ∀ (z1 : Int32) (z2 : Int32) (zh : vv_H), o = .inl (z1, z2, zh) → vv_V x vv_TR mm_X12_leastCost post 8 [some (.ref (vv_ad x 0)), some (.int z1), some (.int z2), none, none] [] zh) (hX0 : ∀ (z1 : Int32) (zh : vv_H), o = .inr (z1, zh) → vv_V x vv_TR mm_X12_leastCost post 137 [none, some (.int z1), none, none, none] [] zh) : vv_V x vv_TR mm_X12_leastCost post 118 [some (.ref (vv_ad x 0)), some (.int m1), none, none, some (.int m4)] [.int z0] hh := by
  unfold ff_X12_leastCost_J118 at hm
  refine rr_istore_n (q := 119) [some (.ref (vv_ad x 0)), some (.int m1), some (.int z0), none, some (.int m4)] dX12_leastCost_118 rfl rfl (Nat.le_of_ble_eq_true rfl) rfl rfl ?_
  refine rr_iload_n (q := 120) dX12_leastCost_119 rfl rfl ?_
  refine rr_if_eq (q := 123) (tgt := 134) dX12_leastCost_120 (by decide) rfl hm (fun hm => ?_) (fun hm => ?_)
  · refine rr_goto (tgt := 8) dX12_leastCost_134 (by decide) ?_
    obtain rfl := Option.some.inj hm
    refine rr_sub [true, true, true, false, false] rfl ?_
    exact hI m1 z0 hh rfl
  · refine rr_aload_n (q := 124) dX12_leastCost_123 rfl rfl ?_
    refine gf_X12_155 (q := 127) rfl dX12_leastCost_124 rfl ?_
    refine rr_iload (q := 129) dX12_leastCost_127 rfl rfl ?_
    refine rr_dup2 (q := 130) dX12_leastCost_129 rfl rfl rfl ?_
    obtain ⟨c16, hm⟩ := vv_ck_of hm
    refine rr_iald (q := 131) ylR_49 ynR_49 c16 dX12_leastCost_130 rfl ?_
    refine rr_iconst (q := 132) (v := 1) dX12_leastCost_131 rfl (by decide) ?_
    refine rr_iadd (q := 133) dX12_leastCost_132 rfl ?_
    obtain ⟨c17, hm⟩ := vv_ck_of hm
    obtain ⟨g18, c19, hm⟩ := vv_let_of hm
    refine rr_iast (q := 134) ylR_49 ynR_49 c17 dX12_leastCost_133 rfl ?_
    rw [← c19]
    refine rr_goto (tgt := 8) dX12_leastCost_134 (by decide) ?_
    obtain rfl := Option.some.inj hm
    refine rr_sub [true, true, true, false, false] rfl ?_
    exact hI m1 z0 g18 rfl
set_option maxHeartbeats 200000 in
theorem vt_X12_leastCost_J64 {x : vv_E} {post : Option Value → vv_H → Prop}   {m1 : Int32} {hh : vv_H} {o : (Int32 × Int32 × vv_H) ⊕ ((Int32 × vv_H))}  (hm : ff_X12_leastCost_J64  m1 hh = some o) (hI : ∀ (z1 : Int32) (z2 : Int32) (zh : vv_H), o = .inl (z1, z2, zh) → vv_V x vv_TR mm_X12_leastCost post 8 [some (.ref (vv_ad x 0)), some (.int z1), some (.int z2), none, none] [] zh) (hX0 : ∀ (z1 : Int32) (zh : vv_H), o = .inr (z1, zh) → vv_V x vv_TR mm_X12_leastCost post 137 [none, some (.int z1), none, none, none] [] zh) : vv_V x vv_TR mm_X12_leastCost post 64 [some (.ref (vv_ad x 0)), some (.int m1), none, none, none] [] hh := by
  unfold ff_X12_leastCost_J64 at hm
  refine rr_aload_n (q := 65) dX12_leastCost_64 rfl rfl ?_
  refine gf_X12_374 (q := 68) rfl dX12_leastCost_65 rfl ?_
  refine rr_iconst (q := 69) (v := 1) dX12_leastCost_68 rfl (by decide) ?_
  refine rr_isub (q := 70) dX12_leastCost_69 rfl ?_
  obtain ⟨w5, c6, hm⟩ := vv_let_of hm
  rw [← c6]
  refine rr_istore (q := 72) [some (.ref (vv_ad x 0)), some (.int m1), none, none, some (.int w5)] dX12_leastCost_70 rfl (Nat.le_of_ble_eq_true rfl) rfl rfl ?_
  obtain ⟨r14, k20, hm⟩ := vv_bind hm
  refine vv_lp_link (P := fun (zs : Int32 × vv_H) => vv_V x vv_TR mm_X12_leastCost post 72 [some (.ref (vv_ad x 0)), some (.int m1), none, none, some (.int zs.1)] [] zs.2) (Q := (fun (e15 : (Int32 × vv_H)) => vv_V x vv_TR mm_X12_leastCost post 108 [some (.ref (vv_ad x 0)), some (.int m1), none, none, some (.int e15.1)] [] e15.2)) (fun zs o hm hI hX => ?_) vv_F (w5, hh) r14 k20 ?_
  · exact vt_X12_leastCost_B72   hm (fun z4 zh e => hI (z4, zh) e) (fun z4 zh e => hX (z4, zh) e)
  · generalize r14 = e15 at hm ⊢
    try dsimp only [Sum.elim_inl, Sum.elim_inr] at hm
    try dsimp only [Sum.elim_inl, Sum.elim_inr]
    refine rr_iload (q := 110) dX12_leastCost_108 rfl rfl ?_
    refine rr_if_lt (q := 113) (tgt := 117) dX12_leastCost_110 (by decide) rfl hm (fun hm => ?_) (fun hm => ?_)
    · refine rr_iconst (q := 118) (v := 0) dX12_leastCost_117 rfl (by decide) ?_
      exact vt_X12_leastCost_J118  hm hI hX0
    · refine rr_iconst (q := 114) (v := 1) dX12_leastCost_113 rfl (by decide) ?_
      refine rr_goto (tgt := 118) dX12_leastCost_114 (by decide) ?_
      exact vt_X12_leastCost_J118  hm hI hX0
set_option maxHeartbeats 200000 in
theorem vt_X12_leastCost_B35 {x : vv_E} {post : Option Value → vv_H → Prop} {u1 : Int32} {s4 : Int32} {h : vv_H} {o : (Int32 × vv_H) ⊕ ((vv_H))}  (hm : ff_X12_leastCost_B35  u1 s4 h = some o) (hI : ∀ (z4 : Int32) (zh : vv_H), o = .inl (z4, zh) → vv_V x vv_TR mm_X12_leastCost post 35 [some (.ref (vv_ad x 0)), some (.int u1), none, none, some (.int z4)] [] zh) (hX0 : ∀  (zh : vv_H), o = .inr zh → vv_V x vv_TR mm_X12_leastCost post 64 [some (.ref (vv_ad x 0)), some (.int u1), none, none, none] [] zh) : vv_V x vv_TR mm_X12_leastCost post 35 [some (.ref (vv_ad x 0)), some (.int u1), none, none, some (.int s4)] [] h := by
  unfold ff_X12_leastCost_B35 at hm
  refine rr_iload (q := 37) dX12_leastCost_35 rfl rfl ?_
  refine rr_aload_n (q := 38) dX12_leastCost_37 rfl rfl ?_
  refine gf_X12_374 (q := 41) rfl dX12_leastCost_38 rfl ?_
  refine rr_icmp_ge (q := 44) (tgt := 64) dX12_leastCost_41 (by decide) rfl hm (fun hm => ?_) (fun hm => ?_)
  · obtain rfl := Option.some.inj hm
    refine rr_sub [true, true, false, false, false] rfl ?_
    exact hX0 h rfl
  · refine rr_aload_n (q := 45) dX12_leastCost_44 rfl rfl ?_
    refine gf_X12_158 (q := 48) rfl dX12_leastCost_45 rfl ?_
    refine rr_iload (q := 50) dX12_leastCost_48 rfl rfl ?_
    refine rr_aload_n (q := 51) dX12_leastCost_50 rfl rfl ?_
    refine gf_X12_155 (q := 54) rfl dX12_leastCost_51 rfl ?_
    refine rr_iload (q := 56) dX12_leastCost_54 rfl rfl ?_
    obtain ⟨c21, hm⟩ := vv_ck_of hm
    refine rr_iald (q := 57) ylR_49 ynR_49 c21 dX12_leastCost_56 rfl ?_
    obtain ⟨c22, hm⟩ := vv_ck_of hm
    obtain ⟨g23, c24, hm⟩ := vv_let_of hm
    refine rr_iast (q := 58) ylR_50 ynR_50 c22 dX12_leastCost_57 rfl ?_
    rw [← c24]
    obtain ⟨w25, c26, hm⟩ := vv_let_of hm
    refine rr_iinc (q := 61) [some (.ref (vv_ad x 0)), some (.int u1), none, none, some (.int w25)] dX12_leastCost_58 rfl rfl c26.symm (Nat.le_of_ble_eq_true rfl) rfl rfl ?_
    refine rr_goto (tgt := 35) dX12_leastCost_61 (by decide) ?_
    obtain rfl := Option.some.inj hm
    exact hI w25 g23 rfl
set_option maxHeartbeats 200000 in
theorem vt_X12_leastCost_J30 {x : vv_E} {post : Option Value → vv_H → Prop}   {m3 : Int32} {hh : vv_H} {o : (Int32 × Int32 × vv_H) ⊕ ((Int32 × vv_H))}  (hm : ff_X12_leastCost_J30  m3 hh = some o) (hI : ∀ (z1 : Int32) (z2 : Int32) (zh : vv_H), o = .inl (z1, z2, zh) → vv_V x vv_TR mm_X12_leastCost post 8 [some (.ref (vv_ad x 0)), some (.int z1), some (.int z2), none, none] [] zh) (hX0 : ∀ (z1 : Int32) (zh : vv_H), o = .inr (z1, zh) → vv_V x vv_TR mm_X12_leastCost post 137 [none, some (.int z1), none, none, none] [] zh) : vv_V x vv_TR mm_X12_leastCost post 30 [some (.ref (vv_ad x 0)), none, none, some (.int m3), none] [] hh := by
  unfold ff_X12_leastCost_J30 at hm
  refine rr_iload_n (q := 31) dX12_leastCost_30 rfl rfl ?_
  refine rr_istore_n (q := 32) [some (.ref (vv_ad x 0)), some (.int m3), none, some (.int m3), none] dX12_leastCost_31 rfl rfl (Nat.le_of_ble_eq_true rfl) rfl rfl ?_
  refine rr_iconst (q := 33) (v := 0) dX12_leastCost_32 rfl (by decide) ?_
  refine rr_istore (q := 35) [some (.ref (vv_ad x 0)), some (.int m3), none, some (.int m3), some (.int (0 : Int32))] dX12_leastCost_33 rfl (Nat.le_of_ble_eq_true rfl) rfl rfl ?_
  refine rr_sub [true, true, false, false, true] rfl ?_
  obtain ⟨r27, k29, hm⟩ := vv_bind hm
  refine vv_lp_link (P := fun (zs : Int32 × vv_H) => vv_V x vv_TR mm_X12_leastCost post 35 [some (.ref (vv_ad x 0)), some (.int m3), none, none, some (.int zs.1)] [] zs.2) (Q := (fun (e28 : (vv_H)) => vv_V x vv_TR mm_X12_leastCost post 64 [some (.ref (vv_ad x 0)), some (.int m3), none, none, none] [] e28)) (fun zs o hm hI hX => ?_) vv_F ((0 : Int32), hh) r27 k29 ?_
  · exact vt_X12_leastCost_B35   hm (fun z4 zh e => hI (z4, zh) e) (fun zh e => hX zh e)
  · generalize r27 = e28 at hm ⊢
    try dsimp only [Sum.elim_inl, Sum.elim_inr] at hm
    try dsimp only [Sum.elim_inl, Sum.elim_inr]
    exact vt_X12_leastCost_J64  hm hI hX0
set_option maxHeartbeats 200000 in
theorem vt_X12_leastCost_B8 {x : vv_E} {post : Option Value → vv_H → Prop}  {s1 : Int32} {s2 : Int32} {h : vv_H} {o : (Int32 × Int32 × vv_H) ⊕ ((Int32 × vv_H))}  (hm : ff_X12_leastCost_B8   s1 s2 h = some o) (hI : ∀ (z1 : Int32) (z2 : Int32) (zh : vv_H), o = .inl (z1, z2, zh) → vv_V x vv_TR mm_X12_leastCost post 8 [some (.ref (vv_ad x 0)), some (.int z1), some (.int z2), none, none] [] zh) (hX0 : ∀ (z1 : Int32) (zh : vv_H), o = .inr (z1, zh) → vv_V x vv_TR mm_X12_leastCost post 137 [none, some (.int z1), none, none, none] [] zh) : vv_V x vv_TR mm_X12_leastCost post 8 [some (.ref (vv_ad x 0)), some (.int s1), some (.int s2), none, none] [] h := by
  unfold ff_X12_leastCost_B8 at hm
  refine rr_iload_n (q := 9) dX12_leastCost_8 rfl rfl ?_
  refine rr_if_eq (q := 12) (tgt := 137) dX12_leastCost_9 (by decide) rfl hm (fun hm => ?_) (fun hm => ?_)
  · obtain rfl := Option.some.inj hm
    refine rr_sub [false, true, false, false, false] rfl ?_
    exact hX0 s1 h rfl
  · refine rr_aload_n (q := 13) dX12_leastCost_12 rfl rfl ?_
    obtain ⟨r3, k4, hm⟩ := vv_bind hm
    refine rr_callV (q := 16) (M' := mm_X12_costNow) (As := []) (st := []) (w := some (.int r3)) (cc_X12_costNow  k4) rfl ylR_0 ynR_0 rfl vy_X12_costNow zw_322 ⟨Nat.le_of_ble_eq_true rfl, Nat.le_of_ble_eq_true rfl⟩ (Nat.le_of_ble_eq_true rfl) dX12_leastCost_13 rfl ?_
    show vv_V x vv_TR mm_X12_leastCost post 16 [some (.ref (vv_ad x 0)), some (.int s1), some (.int s2), none, none] [.int r3] h
    refine rr_istore_n (q := 17) [some (.ref (vv_ad x 0)), some (.int s1), some (.int s2), some (.int r3), none] dX12_leastCost_16 rfl rfl (Nat.le_of_ble_eq_true rfl) rfl rfl ?_
    refine rr_iload_n (q := 18) dX12_leastCost_17 rfl rfl ?_
    refine rr_if_lt (q := 21) (tgt := 64) dX12_leastCost_18 (by decide) rfl hm (fun hm => ?_) (fun hm => ?_)
    · refine rr_sub [true, true, false, false, false] rfl ?_
      exact vt_X12_leastCost_J64  hm hI hX0
    · refine rr_iload_n (q := 22) dX12_leastCost_21 rfl rfl ?_
      refine rr_if_lt (q := 25) (tgt := 30) dX12_leastCost_22 (by decide) rfl hm (fun hm => ?_) (fun hm => ?_)
      · refine rr_sub [true, false, false, true, false] rfl ?_
        exact vt_X12_leastCost_J30  hm hI hX0
      · refine rr_iload_n (q := 26) dX12_leastCost_25 rfl rfl ?_
        refine rr_iload_n (q := 27) dX12_leastCost_26 rfl rfl ?_
        refine rr_icmp_ge (q := 30) (tgt := 64) dX12_leastCost_27 (by decide) rfl hm (fun hm => ?_) (fun hm => ?_)
        · refine rr_sub [true, true, false, false, false] rfl ?_
          exact vt_X12_leastCost_J64  hm hI hX0
        · refine rr_sub [true, false, false, true, false] rfl ?_
          exact vt_X12_leastCost_J30  hm hI hX0
set_option maxHeartbeats 200000 in
theorem vt_X12_leastCost {x : vv_E} {post : Option Value → vv_H → Prop} {h : vv_H} {o : Int32 × vv_H}  (hm : ff_X12_leastCost  h = some o) (hp : post (some (.int o.1)) o.2) : vv_V x vv_TR mm_X12_leastCost post 0 [some (.ref (vv_ad x 0)), none, none, none, none] [] h := by
  unfold ff_X12_leastCost at hm
  refine rr_aload_n (q := 1) dX12_leastCost_0 rfl rfl ?_
  obtain ⟨r1, k2, hm⟩ := vv_bind hm
  refine rr_callV (q := 4) (M' := mm_X12_layPairs) (As := []) (st := []) (w := none) (cc_X12_layPairs  k2) rfl ylR_0 ynR_0 rfl vy_X12_layPairs zw_317 ⟨Nat.le_of_ble_eq_true rfl, Nat.le_of_ble_eq_true rfl⟩ (Nat.le_of_ble_eq_true rfl) dX12_leastCost_1 rfl ?_
  show vv_V x vv_TR mm_X12_leastCost post 4 [some (.ref (vv_ad x 0)), none, none, none, none] [] r1
  refine rr_iconst (q := 5) (v := -1) dX12_leastCost_4 rfl (by decide) ?_
  refine rr_istore_n (q := 6) [some (.ref (vv_ad x 0)), some (.int (-1 : Int32)), none, none, none] dX12_leastCost_5 rfl rfl (Nat.le_of_ble_eq_true rfl) rfl rfl ?_
  refine rr_iconst (q := 7) (v := 1) dX12_leastCost_6 rfl (by decide) ?_
  refine rr_istore_n (q := 8) [some (.ref (vv_ad x 0)), some (.int (-1 : Int32)), some (.int (1 : Int32)), none, none] dX12_leastCost_7 rfl rfl (Nat.le_of_ble_eq_true rfl) rfl rfl ?_
  obtain ⟨r30, k32, hm⟩ := vv_bind hm
  refine vv_lp_link (P := fun (zs : Int32 × Int32 × vv_H) => vv_V x vv_TR mm_X12_leastCost post 8 [some (.ref (vv_ad x 0)), some (.int zs.1), some (.int zs.2.1), none, none] [] zs.2.2) (Q := (fun (e31 : (Int32 × vv_H)) => vv_V x vv_TR mm_X12_leastCost post 137 [none, some (.int e31.1), none, none, none] [] e31.2)) (fun zs o hm hI hX => ?_) vv_F ((-1 : Int32), (1 : Int32), r1) r30 k32 ?_
  · exact vt_X12_leastCost_B8   hm (fun z1 z2 zh e => hI (z1, z2, zh) e) (fun z1 zh e => hX (z1, zh) e)
  · generalize r30 = e31 at hm ⊢
    try dsimp only [Sum.elim_inl, Sum.elim_inr] at hm
    try dsimp only [Sum.elim_inl, Sum.elim_inr]
    refine rr_iload_n (q := 138) dX12_leastCost_137 rfl rfl ?_
    obtain rfl := Option.some.inj hm
    exact rr_iret dX12_leastCost_138 rfl hp
theorem cc_X12_leastCost {x : vv_E} {h : vv_H} {o : Int32 × vv_H}  (hm : ff_X12_leastCost h = some o) : vv_C x vv_TR yX12_leastCost mm_X12_leastCost [.ref (vv_ad x 0)] h (fun v g => v = some (.int o.1) ∧ g = o.2) := vv_entry (by decide +kernel) rfl (Nat.le_of_ble_eq_true rfl) rfl (vt_X12_leastCost  hm ⟨rfl, rfl⟩)
def ff_X12_tail_B22 (u2 : Int32) (u3 : Int32) (h : vv_H) (s4 : Int64) (s6 : Int32) : Option ((Int64 × Int32) ⊕ ((Int64))) := (if u2 < s6 then some (.inr s4) else vv_ck (((37 : Int32) * u3) + s6) 1369 (vv_ck ((((37 : Int32) * ((h.1 0 44) - u3)) + u2) - s6) 1369 (vv_let (s4 + ((h.2.1 52 (((37 : Int32) * u3) + s6).toNatClampNeg) * (h.2.1 52 ((((37 : Int32) * ((h.1 0 44) - u3)) + u2) - s6).toNatClampNeg))) (fun w9 => vv_let (s6 + 1) (fun w11 => some (.inl (w9, w11)))))))
def ff_X12_tail (h : vv_H) (v1 : Int32) : Option (Int64) := (ff_X12_failedOf h (-1 : Int32)).bind (fun r1 => (ff_X12_manyOf h v1).bind (fun r3 => (ff_X12_failedOf h v1).bind (fun r5 => (vv_lp (fun (zs : Int64 × Int32) => ff_X12_tail_B22  r1 r3 h zs.1 zs.2) vv_F ((0 : Int64), r5)).bind (fun (e14 : (Int64)) => some e14))))
set_option maxHeartbeats 200000 in
theorem vt_X12_tail_B22 {x : vv_E} {post : Option Value → vv_H → Prop} {u2 : Int32} {u3 : Int32} {h : vv_H} {s4 : Int64} {s6 : Int32} {o : (Int64 × Int32) ⊕ ((Int64))}  (hm : ff_X12_tail_B22  u2 u3 h s4 s6 = some o) (hI : ∀ (z4 : Int64) (z6 : Int32) , o = .inl (z4, z6) → vv_V x vv_TR mm_X12_tail post 22 [some (.ref (vv_ad x 0)), none, some (.int u2), some (.int u3), some (.long z4), none, some (.int z6)] [] h) (hX0 : ∀ (z4 : Int64), o = .inr z4 → vv_V x vv_TR mm_X12_tail post 71 [none, none, none, none, some (.long z4), none, none] [] h) : vv_V x vv_TR mm_X12_tail post 22 [some (.ref (vv_ad x 0)), none, some (.int u2), some (.int u3), some (.long s4), none, some (.int s6)] [] h := by
  unfold ff_X12_tail_B22 at hm
  refine rr_iload (q := 24) dX12_tail_22 rfl rfl ?_
  refine rr_iload_n (q := 25) dX12_tail_24 rfl rfl ?_
  refine rr_icmp_gt (q := 28) (tgt := 71) dX12_tail_25 (by decide) rfl hm (fun hm => ?_) (fun hm => ?_)
  · obtain rfl := Option.some.inj hm
    refine rr_sub [false, false, false, false, true, false, false] rfl ?_
    exact hX0 s4 rfl
  · refine rr_lload (q := 30) dX12_tail_28 rfl rfl ?_
    refine rr_aload_n (q := 31) dX12_tail_30 rfl rfl ?_
    refine gf_X12_164 (q := 34) rfl dX12_tail_31 rfl ?_
    refine rr_bipush (q := 36) (v := 37) dX12_tail_34 rfl (by decide) ?_
    refine rr_iload_n (q := 37) dX12_tail_36 rfl rfl ?_
    refine rr_imul (q := 38) dX12_tail_37 rfl ?_
    refine rr_iload (q := 40) dX12_tail_38 rfl rfl ?_
    refine rr_iadd (q := 41) dX12_tail_40 rfl ?_
    obtain ⟨c7, hm⟩ := vv_ck_of hm
    refine rr_lald (q := 42) ylR_52 ynR_52 c7 dX12_tail_41 rfl ?_
    refine rr_aload_n (q := 43) dX12_tail_42 rfl rfl ?_
    refine gf_X12_164 (q := 46) rfl dX12_tail_43 rfl ?_
    refine rr_bipush (q := 48) (v := 37) dX12_tail_46 rfl (by decide) ?_
    refine rr_aload_n (q := 49) dX12_tail_48 rfl rfl ?_
    refine gf_X12_232 (q := 52) rfl dX12_tail_49 rfl ?_
    refine rr_iload_n (q := 53) dX12_tail_52 rfl rfl ?_
    refine rr_isub (q := 54) dX12_tail_53 rfl ?_
    refine rr_imul (q := 55) dX12_tail_54 rfl ?_
    refine rr_iload_n (q := 56) dX12_tail_55 rfl rfl ?_
    refine rr_iadd (q := 57) dX12_tail_56 rfl ?_
    refine rr_iload (q := 59) dX12_tail_57 rfl rfl ?_
    refine rr_isub (q := 60) dX12_tail_59 rfl ?_
    obtain ⟨c8, hm⟩ := vv_ck_of hm
    refine rr_lald (q := 61) ylR_52 ynR_52 c8 dX12_tail_60 rfl ?_
    refine rr_lmul (q := 62) dX12_tail_61 rfl ?_
    refine rr_ladd (q := 63) dX12_tail_62 rfl ?_
    obtain ⟨w9, c10, hm⟩ := vv_let_of hm
    rw [← c10]
    refine rr_lstore (q := 65) [some (.ref (vv_ad x 0)), none, some (.int u2), some (.int u3), some (.long w9), none, some (.int s6)] dX12_tail_63 rfl (Nat.le_of_ble_eq_true rfl) rfl rfl ?_
    obtain ⟨w11, c12, hm⟩ := vv_let_of hm
    refine rr_iinc (q := 68) [some (.ref (vv_ad x 0)), none, some (.int u2), some (.int u3), some (.long w9), none, some (.int w11)] dX12_tail_65 rfl rfl c12.symm (Nat.le_of_ble_eq_true rfl) rfl rfl ?_
    refine rr_goto (tgt := 22) dX12_tail_68 (by decide) ?_
    obtain rfl := Option.some.inj hm
    exact hI w9 w11 rfl
set_option maxHeartbeats 200000 in
theorem vt_X12_tail {x : vv_E} {post : Option Value → vv_H → Prop} {h : vv_H} {v1 : Int32} {o : Int64}  (hm : ff_X12_tail  h v1 = some o) (hp : post (some (.long o)) h) : vv_V x vv_TR mm_X12_tail post 0 [some (.ref (vv_ad x 0)), some (.int v1), none, none, none, none, none] [] h := by
  unfold ff_X12_tail at hm
  refine rr_aload_n (q := 1) dX12_tail_0 rfl rfl ?_
  refine rr_iconst (q := 2) (v := -1) dX12_tail_1 rfl (by decide) ?_
  obtain ⟨r1, k2, hm⟩ := vv_bind hm
  refine rr_callV (q := 5) (M' := mm_X12_failedOf) (As := [.int (-1 : Int32)]) (st := []) (w := some (.int r1)) (cc_X12_failedOf  k2) rfl ylR_0 ynR_0 rfl vy_X12_failedOf zw_328 ⟨Nat.le_of_ble_eq_true rfl, Nat.le_of_ble_eq_true rfl⟩ (Nat.le_of_ble_eq_true rfl) dX12_tail_2 rfl ?_
  show vv_V x vv_TR mm_X12_tail post 5 [some (.ref (vv_ad x 0)), some (.int v1), none, none, none, none, none] [.int r1] h
  refine rr_istore_n (q := 6) [some (.ref (vv_ad x 0)), some (.int v1), some (.int r1), none, none, none, none] dX12_tail_5 rfl rfl (Nat.le_of_ble_eq_true rfl) rfl rfl ?_
  refine rr_aload_n (q := 7) dX12_tail_6 rfl rfl ?_
  refine rr_iload_n (q := 8) dX12_tail_7 rfl rfl ?_
  obtain ⟨r3, k4, hm⟩ := vv_bind hm
  refine rr_callV (q := 11) (M' := mm_X12_manyOf) (As := [.int v1]) (st := []) (w := some (.int r3)) (cc_X12_manyOf  k4) rfl ylR_0 ynR_0 rfl vy_X12_manyOf zw_333 ⟨Nat.le_of_ble_eq_true rfl, Nat.le_of_ble_eq_true rfl⟩ (Nat.le_of_ble_eq_true rfl) dX12_tail_8 rfl ?_
  show vv_V x vv_TR mm_X12_tail post 11 [some (.ref (vv_ad x 0)), some (.int v1), some (.int r1), none, none, none, none] [.int r3] h
  refine rr_istore_n (q := 12) [some (.ref (vv_ad x 0)), some (.int v1), some (.int r1), some (.int r3), none, none, none] dX12_tail_11 rfl rfl (Nat.le_of_ble_eq_true rfl) rfl rfl ?_
  refine rr_lconst (q := 13) (v := 0) dX12_tail_12 rfl (by decide) ?_
  refine rr_lstore (q := 15) [some (.ref (vv_ad x 0)), some (.int v1), some (.int r1), some (.int r3), some (.long (0 : Int64)), none, none] dX12_tail_13 rfl (Nat.le_of_ble_eq_true rfl) rfl rfl ?_
  refine rr_aload_n (q := 16) dX12_tail_15 rfl rfl ?_
  refine rr_iload_n (q := 17) dX12_tail_16 rfl rfl ?_
  obtain ⟨r5, k6, hm⟩ := vv_bind hm
  refine rr_callV (q := 20) (M' := mm_X12_failedOf) (As := [.int v1]) (st := []) (w := some (.int r5)) (cc_X12_failedOf  k6) rfl ylR_0 ynR_0 rfl vy_X12_failedOf zw_328 ⟨Nat.le_of_ble_eq_true rfl, Nat.le_of_ble_eq_true rfl⟩ (Nat.le_of_ble_eq_true rfl) dX12_tail_17 rfl ?_
  show vv_V x vv_TR mm_X12_tail post 20 [some (.ref (vv_ad x 0)), some (.int v1), some (.int r1), some (.int r3), some (.long (0 : Int64)), none, none] [.int r5] h
  refine rr_istore (q := 22) [some (.ref (vv_ad x 0)), some (.int v1), some (.int r1), some (.int r3), some (.long (0 : Int64)), none, some (.int r5)] dX12_tail_20 rfl (Nat.le_of_ble_eq_true rfl) rfl rfl ?_
  refine rr_sub [true, false, true, true, true, false, true] rfl ?_
  obtain ⟨r13, k15, hm⟩ := vv_bind hm
  refine vv_lp_link (P := fun (zs : Int64 × Int32) => vv_V x vv_TR mm_X12_tail post 22 [some (.ref (vv_ad x 0)), none, some (.int r1), some (.int r3), some (.long zs.1), none, some (.int zs.2)] [] h) (Q := (fun (e14 : (Int64)) => vv_V x vv_TR mm_X12_tail post 71 [none, none, none, none, some (.long e14), none, none] [] h)) (fun zs o hm hI hX => ?_) vv_F ((0 : Int64), r5) r13 k15 ?_
  · exact vt_X12_tail_B22   hm (fun z4 z6 e => hI (z4, z6) e) (fun z4 e => hX z4 e)
  · generalize r13 = e14 at hm ⊢
    try dsimp only [Sum.elim_inl, Sum.elim_inr] at hm
    try dsimp only [Sum.elim_inl, Sum.elim_inr]
    refine rr_lload (q := 73) dX12_tail_71 rfl rfl ?_
    obtain rfl := Option.some.inj hm
    exact rr_lret dX12_tail_73 rfl hp
theorem cc_X12_tail {x : vv_E} {h : vv_H} {v1 : Int32} {o : Int64}  (hm : ff_X12_tail h v1 = some o) : vv_C x vv_TR yX12_tail mm_X12_tail [.ref (vv_ad x 0), .int v1] h (fun v g => v = some (.long o) ∧ g = h) := vv_entry (by decide +kernel) rfl (Nat.le_of_ble_eq_true rfl) rfl (vt_X12_tail  hm ⟨rfl, rfl⟩)
def ff_X12_sheet_B56 (u1 : Int32) (s4 : Int32) (h : vv_H) : Option ((Int32 × vv_H) ⊕ ((vv_H))) := (if (60 : Int32) ≤ s4 then some (.inr h) else vv_ck (((60 : Int32) * u1) + s4) 240 (vv_let (vv_iu h 55 (((60 : Int32) * u1) + s4).toNatClampNeg (0 : Int32)) (fun g12 => vv_let (s4 + 1) (fun w14 => some (.inl (w14, g12))))))
def ff_X12_sheet (h : vv_H) (v1 : Int32) (v2 : Int32) (v3 : Int32) : Option (Int32 × vv_H) := (ff_X12_in v1.toInt64 (0 : Int64) (3 : Int64)).bind (fun r1 => (if r1 = 0 then some ((-1 : Int32), h) else (ff_X12_in v2.toInt64 (0 : Int64) (2 : Int64)).bind (fun r3 => (if r3 = 0 then some ((-1 : Int32), h) else (if v3 ≤ (60 : Int32) then (if 0 ≤ v3 then vv_ck v1 4 (vv_let (vv_iu h 53 v1.toNatClampNeg v2) (fun g6 => vv_ck v1 4 (vv_let (vv_iu g6 54 v1.toNatClampNeg v3) (fun g9 => (vv_lp (fun (zs : Int32 × vv_H) => ff_X12_sheet_B56  v1 zs.1 zs.2) vv_F ((0 : Int32), g9)).bind (fun (e17 : (vv_H)) => some ((1 : Int32), e17)))))) else some ((-14 : Int32), h)) else some ((-1 : Int32), h))))))
set_option maxHeartbeats 200000 in
theorem vt_X12_sheet_B56 {x : vv_E} {post : Option Value → vv_H → Prop} {u1 : Int32} {s4 : Int32} {h : vv_H} {o : (Int32 × vv_H) ⊕ ((vv_H))}  (hm : ff_X12_sheet_B56  u1 s4 h = some o) (hI : ∀ (z4 : Int32) (zh : vv_H), o = .inl (z4, zh) → vv_V x vv_TR mm_X12_sheet post 56 [some (.ref (vv_ad x 0)), some (.int u1), none, none, some (.int z4)] [] zh) (hX0 : ∀  (zh : vv_H), o = .inr zh → vv_V x vv_TR mm_X12_sheet post 82 [none, none, none, none, none] [] zh) : vv_V x vv_TR mm_X12_sheet post 56 [some (.ref (vv_ad x 0)), some (.int u1), none, none, some (.int s4)] [] h := by
  unfold ff_X12_sheet_B56 at hm
  refine rr_iload (q := 58) dX12_sheet_56 rfl rfl ?_
  refine rr_bipush (q := 60) (v := 60) dX12_sheet_58 rfl (by decide) ?_
  refine rr_icmp_ge (q := 63) (tgt := 82) dX12_sheet_60 (by decide) rfl hm (fun hm => ?_) (fun hm => ?_)
  · obtain rfl := Option.some.inj hm
    refine rr_sub [false, false, false, false, false] rfl ?_
    exact hX0 h rfl
  · refine rr_aload_n (q := 64) dX12_sheet_63 rfl rfl ?_
    refine gf_X12_174 (q := 67) rfl dX12_sheet_64 rfl ?_
    refine rr_bipush (q := 69) (v := 60) dX12_sheet_67 rfl (by decide) ?_
    refine rr_iload_n (q := 70) dX12_sheet_69 rfl rfl ?_
    refine rr_imul (q := 71) dX12_sheet_70 rfl ?_
    refine rr_iload (q := 73) dX12_sheet_71 rfl rfl ?_
    refine rr_iadd (q := 74) dX12_sheet_73 rfl ?_
    refine rr_iconst (q := 75) (v := 0) dX12_sheet_74 rfl (by decide) ?_
    obtain ⟨c11, hm⟩ := vv_ck_of hm
    obtain ⟨g12, c13, hm⟩ := vv_let_of hm
    refine rr_iast (q := 76) ylR_55 ynR_55 c11 dX12_sheet_75 rfl ?_
    rw [← c13]
    obtain ⟨w14, c15, hm⟩ := vv_let_of hm
    refine rr_iinc (q := 79) [some (.ref (vv_ad x 0)), some (.int u1), none, none, some (.int w14)] dX12_sheet_76 rfl rfl c15.symm (Nat.le_of_ble_eq_true rfl) rfl rfl ?_
    refine rr_goto (tgt := 56) dX12_sheet_79 (by decide) ?_
    obtain rfl := Option.some.inj hm
    exact hI w14 g12 rfl
set_option maxHeartbeats 200000 in
theorem vt_X12_sheet {x : vv_E} {post : Option Value → vv_H → Prop} {h : vv_H} {v1 : Int32} {v2 : Int32} {v3 : Int32} {o : Int32 × vv_H}  (hm : ff_X12_sheet  h v1 v2 v3 = some o) (hp : post (some (.int o.1)) o.2) : vv_V x vv_TR mm_X12_sheet post 0 [some (.ref (vv_ad x 0)), some (.int v1), some (.int v2), some (.int v3), none] [] h := by
  unfold ff_X12_sheet at hm
  refine rr_iload_n (q := 1) dX12_sheet_0 rfl rfl ?_
  refine rr_i2l (q := 2) dX12_sheet_1 rfl ?_
  refine rr_lconst (q := 3) (v := 0) dX12_sheet_2 rfl (by decide) ?_
  refine rr_ldc2 (q := 6) dX12_sheet_3 rfl zw_270 ?_
  obtain ⟨r1, k2, hm⟩ := vv_bind hm
  refine rr_callS (q := 9) (M' := mm_X12_in) (As := [.long v1.toInt64, .long (0 : Int64), .long (3 : Int64)]) (st := []) (w := some (.int r1))  (cc_X12_in  k2) rfl vy_X12_in zw_267 ⟨Nat.le_of_ble_eq_true rfl, Nat.le_of_ble_eq_true rfl⟩ (Nat.le_of_ble_eq_true rfl) dX12_sheet_6 rfl ?_
  show vv_V x vv_TR mm_X12_sheet post 9 [some (.ref (vv_ad x 0)), some (.int v1), some (.int v2), some (.int v3), none] [.int r1] h
  refine rr_if_eq (q := 12) (tgt := 30) dX12_sheet_9 (by decide) rfl hm (fun hm => ?_) (fun hm => ?_)
  · refine rr_iconst (q := 31) (v := -1) dX12_sheet_30 rfl (by decide) ?_
    obtain rfl := Option.some.inj hm
    exact rr_iret dX12_sheet_31 rfl hp
  · refine rr_iload_n (q := 13) dX12_sheet_12 rfl rfl ?_
    refine rr_i2l (q := 14) dX12_sheet_13 rfl ?_
    refine rr_lconst (q := 15) (v := 0) dX12_sheet_14 rfl (by decide) ?_
    refine rr_ldc2 (q := 18) dX12_sheet_15 rfl zw_271 ?_
    obtain ⟨r3, k4, hm⟩ := vv_bind hm
    refine rr_callS (q := 21) (M' := mm_X12_in) (As := [.long v2.toInt64, .long (0 : Int64), .long (2 : Int64)]) (st := []) (w := some (.int r3))  (cc_X12_in  k4) rfl vy_X12_in zw_267 ⟨Nat.le_of_ble_eq_true rfl, Nat.le_of_ble_eq_true rfl⟩ (Nat.le_of_ble_eq_true rfl) dX12_sheet_18 rfl ?_
    show vv_V x vv_TR mm_X12_sheet post 21 [some (.ref (vv_ad x 0)), some (.int v1), some (.int v2), some (.int v3), none] [.int r3] h
    refine rr_if_eq (q := 24) (tgt := 30) dX12_sheet_21 (by decide) rfl hm (fun hm => ?_) (fun hm => ?_)
    · refine rr_iconst (q := 31) (v := -1) dX12_sheet_30 rfl (by decide) ?_
      obtain rfl := Option.some.inj hm
      exact rr_iret dX12_sheet_31 rfl hp
    · refine rr_iload_n (q := 25) dX12_sheet_24 rfl rfl ?_
      refine rr_bipush (q := 27) (v := 60) dX12_sheet_25 rfl (by decide) ?_
      refine rr_icmp_le (q := 30) (tgt := 32) dX12_sheet_27 (by decide) rfl hm (fun hm => ?_) (fun hm => ?_)
      · refine rr_iload_n (q := 33) dX12_sheet_32 rfl rfl ?_
        refine rr_if_ge (q := 36) (tgt := 39) dX12_sheet_33 (by decide) rfl hm (fun hm => ?_) (fun hm => ?_)
        · refine rr_aload_n (q := 40) dX12_sheet_39 rfl rfl ?_
          refine gf_X12_168 (q := 43) rfl dX12_sheet_40 rfl ?_
          refine rr_iload_n (q := 44) dX12_sheet_43 rfl rfl ?_
          refine rr_iload_n (q := 45) dX12_sheet_44 rfl rfl ?_
          obtain ⟨c5, hm⟩ := vv_ck_of hm
          obtain ⟨g6, c7, hm⟩ := vv_let_of hm
          refine rr_iast (q := 46) ylR_53 ynR_53 c5 dX12_sheet_45 rfl ?_
          rw [← c7]
          refine rr_aload_n (q := 47) dX12_sheet_46 rfl rfl ?_
          refine gf_X12_171 (q := 50) rfl dX12_sheet_47 rfl ?_
          refine rr_iload_n (q := 51) dX12_sheet_50 rfl rfl ?_
          refine rr_iload_n (q := 52) dX12_sheet_51 rfl rfl ?_
          obtain ⟨c8, hm⟩ := vv_ck_of hm
          obtain ⟨g9, c10, hm⟩ := vv_let_of hm
          refine rr_iast (q := 53) ylR_54 ynR_54 c8 dX12_sheet_52 rfl ?_
          rw [← c10]
          refine rr_iconst (q := 54) (v := 0) dX12_sheet_53 rfl (by decide) ?_
          refine rr_istore (q := 56) [some (.ref (vv_ad x 0)), some (.int v1), some (.int v2), some (.int v3), some (.int (0 : Int32))] dX12_sheet_54 rfl (Nat.le_of_ble_eq_true rfl) rfl rfl ?_
          refine rr_sub [true, true, false, false, true] rfl ?_
          obtain ⟨r16, k18, hm⟩ := vv_bind hm
          refine vv_lp_link (P := fun (zs : Int32 × vv_H) => vv_V x vv_TR mm_X12_sheet post 56 [some (.ref (vv_ad x 0)), some (.int v1), none, none, some (.int zs.1)] [] zs.2) (Q := (fun (e17 : (vv_H)) => vv_V x vv_TR mm_X12_sheet post 82 [none, none, none, none, none] [] e17)) (fun zs o hm hI hX => ?_) vv_F ((0 : Int32), g9) r16 k18 ?_
          · exact vt_X12_sheet_B56   hm (fun z4 zh e => hI (z4, zh) e) (fun zh e => hX zh e)
          · generalize r16 = e17 at hm ⊢
            try dsimp only [Sum.elim_inl, Sum.elim_inr] at hm
            try dsimp only [Sum.elim_inl, Sum.elim_inr]
            refine rr_iconst (q := 83) (v := 1) dX12_sheet_82 rfl (by decide) ?_
            obtain rfl := Option.some.inj hm
            exact rr_iret dX12_sheet_83 rfl hp
        · refine rr_bipush (q := 38) (v := -14) dX12_sheet_36 rfl (by decide) ?_
          obtain rfl := Option.some.inj hm
          exact rr_iret dX12_sheet_38 rfl hp
      · refine rr_iconst (q := 31) (v := -1) dX12_sheet_30 rfl (by decide) ?_
        obtain rfl := Option.some.inj hm
        exact rr_iret dX12_sheet_31 rfl hp
theorem cc_X12_sheet {x : vv_E} {h : vv_H} {v1 : Int32} {v2 : Int32} {v3 : Int32} {o : Int32 × vv_H}  (hm : ff_X12_sheet h v1 v2 v3 = some o) : vv_C x vv_TR yX12_sheet mm_X12_sheet [.ref (vv_ad x 0), .int v1, .int v2, .int v3] h (fun v g => v = some (.int o.1) ∧ g = o.2) := vv_entry (by decide +kernel) rfl (Nat.le_of_ble_eq_true rfl) rfl (vt_X12_sheet  hm ⟨rfl, rfl⟩)
def ff_X12_lay (h : vv_H) (v1 : Int32) (v2 : Int32) (v3 : Int32) : Option (Int32 × vv_H) := (ff_X12_in v1.toInt64 (0 : Int64) (3 : Int64)).bind (fun r1 => (if r1 = 0 then some ((-1 : Int32), h) else vv_ck v1 4 ((if (h.1 53 v1.toNatClampNeg) = (-4 : Int32) then some ((-11 : Int32), h) else vv_ck v1 4 ((ff_X12_in v2.toInt64 (0 : Int64) (((h.1 54 v1.toNatClampNeg) - (1 : Int32)).toInt64)).bind (fun r5 => (if r5 = 0 then some ((-12 : Int32), h) else vv_ck v1 4 ((if (h.1 53 v1.toNatClampNeg) = 0 then vv_ck (((60 : Int32) * v1) + v2) 240 (vv_let (vv_iu h 55 (((60 : Int32) * v1) + v2).toNatClampNeg ((v3 <<< ((24 : Int32) &&& 31)) >>> ((24 : Int32) &&& 31))) (fun g16 => some ((1 : Int32), g16))) else vv_ck v1 4 ((if (h.1 53 v1.toNatClampNeg) = (1 : Int32) then vv_ck (((60 : Int32) * v1) + v2) 240 (vv_let (vv_iu h 55 (((60 : Int32) * v1) + v2).toNatClampNeg ((v3 <<< ((16 : Int32) &&& 31)) >>> ((16 : Int32) &&& 31))) (fun g13 => some ((1 : Int32), g13))) else vv_ck (((60 : Int32) * v1) + v2) 240 (vv_let (vv_iu h 55 (((60 : Int32) * v1) + v2).toNatClampNeg v3) (fun g10 => some ((1 : Int32), g10))))))))))))))
set_option maxHeartbeats 200000 in
theorem vt_X12_lay {x : vv_E} {post : Option Value → vv_H → Prop} {h : vv_H} {v1 : Int32} {v2 : Int32} {v3 : Int32} {o : Int32 × vv_H}  (hm : ff_X12_lay  h v1 v2 v3 = some o) (hp : post (some (.int o.1)) o.2) : vv_V x vv_TR mm_X12_lay post 0 [some (.ref (vv_ad x 0)), some (.int v1), some (.int v2), some (.int v3)] [] h := by
  unfold ff_X12_lay at hm
  refine rr_iload_n (q := 1) dX12_lay_0 rfl rfl ?_
  refine rr_i2l (q := 2) dX12_lay_1 rfl ?_
  refine rr_lconst (q := 3) (v := 0) dX12_lay_2 rfl (by decide) ?_
  refine rr_ldc2 (q := 6) dX12_lay_3 rfl zw_270 ?_
  obtain ⟨r1, k2, hm⟩ := vv_bind hm
  refine rr_callS (q := 9) (M' := mm_X12_in) (As := [.long v1.toInt64, .long (0 : Int64), .long (3 : Int64)]) (st := []) (w := some (.int r1))  (cc_X12_in  k2) rfl vy_X12_in zw_267 ⟨Nat.le_of_ble_eq_true rfl, Nat.le_of_ble_eq_true rfl⟩ (Nat.le_of_ble_eq_true rfl) dX12_lay_6 rfl ?_
  show vv_V x vv_TR mm_X12_lay post 9 [some (.ref (vv_ad x 0)), some (.int v1), some (.int v2), some (.int v3)] [.int r1] h
  refine rr_if_ne (q := 12) (tgt := 14) dX12_lay_9 (by decide) rfl hm (fun hm => ?_) (fun hm => ?_)
  · refine rr_aload_n (q := 15) dX12_lay_14 rfl rfl ?_
    refine gf_X12_168 (q := 18) rfl dX12_lay_15 rfl ?_
    refine rr_iload_n (q := 19) dX12_lay_18 rfl rfl ?_
    obtain ⟨c3, hm⟩ := vv_ck_of hm
    refine rr_iald (q := 20) ylR_53 ynR_53 c3 dX12_lay_19 rfl ?_
    refine rr_bipush (q := 22) (v := -4) dX12_lay_20 rfl (by decide) ?_
    refine rr_icmp_ne (q := 25) (tgt := 28) dX12_lay_22 (by decide) rfl hm (fun hm => ?_) (fun hm => ?_)
    · refine rr_iload_n (q := 29) dX12_lay_28 rfl rfl ?_
      refine rr_i2l (q := 30) dX12_lay_29 rfl ?_
      refine rr_lconst (q := 31) (v := 0) dX12_lay_30 rfl (by decide) ?_
      refine rr_aload_n (q := 32) dX12_lay_31 rfl rfl ?_
      refine gf_X12_171 (q := 35) rfl dX12_lay_32 rfl ?_
      refine rr_iload_n (q := 36) dX12_lay_35 rfl rfl ?_
      obtain ⟨c4, hm⟩ := vv_ck_of hm
      refine rr_iald (q := 37) ylR_54 ynR_54 c4 dX12_lay_36 rfl ?_
      refine rr_iconst (q := 38) (v := 1) dX12_lay_37 rfl (by decide) ?_
      refine rr_isub (q := 39) dX12_lay_38 rfl ?_
      refine rr_i2l (q := 40) dX12_lay_39 rfl ?_
      obtain ⟨r5, k6, hm⟩ := vv_bind hm
      refine rr_callS (q := 43) (M' := mm_X12_in) (As := [.long v2.toInt64, .long (0 : Int64), .long (((h.1 54 v1.toNatClampNeg) - (1 : Int32)).toInt64)]) (st := []) (w := some (.int r5))  (cc_X12_in  k6) rfl vy_X12_in zw_267 ⟨Nat.le_of_ble_eq_true rfl, Nat.le_of_ble_eq_true rfl⟩ (Nat.le_of_ble_eq_true rfl) dX12_lay_40 rfl ?_
      show vv_V x vv_TR mm_X12_lay post 43 [some (.ref (vv_ad x 0)), some (.int v1), some (.int v2), some (.int v3)] [.int r5] h
      refine rr_if_ne (q := 46) (tgt := 49) dX12_lay_43 (by decide) rfl hm (fun hm => ?_) (fun hm => ?_)
      · refine rr_aload_n (q := 50) dX12_lay_49 rfl rfl ?_
        refine gf_X12_174 (q := 53) rfl dX12_lay_50 rfl ?_
        refine rr_bipush (q := 55) (v := 60) dX12_lay_53 rfl (by decide) ?_
        refine rr_iload_n (q := 56) dX12_lay_55 rfl rfl ?_
        refine rr_imul (q := 57) dX12_lay_56 rfl ?_
        refine rr_iload_n (q := 58) dX12_lay_57 rfl rfl ?_
        refine rr_iadd (q := 59) dX12_lay_58 rfl ?_
        refine rr_aload_n (q := 60) dX12_lay_59 rfl rfl ?_
        refine gf_X12_168 (q := 63) rfl dX12_lay_60 rfl ?_
        refine rr_iload_n (q := 64) dX12_lay_63 rfl rfl ?_
        obtain ⟨c7, hm⟩ := vv_ck_of hm
        refine rr_iald (q := 65) ylR_53 ynR_53 c7 dX12_lay_64 rfl ?_
        refine rr_if_ne (q := 68) (tgt := 78) dX12_lay_65 (by decide) rfl hm (fun hm => ?_) (fun hm => ?_)
        · refine rr_aload_n (q := 79) dX12_lay_78 rfl rfl ?_
          refine gf_X12_168 (q := 82) rfl dX12_lay_79 rfl ?_
          refine rr_iload_n (q := 83) dX12_lay_82 rfl rfl ?_
          obtain ⟨c8, hm⟩ := vv_ck_of hm
          refine rr_iald (q := 84) ylR_53 ynR_53 c8 dX12_lay_83 rfl ?_
          refine rr_iconst (q := 85) (v := 1) dX12_lay_84 rfl (by decide) ?_
          refine rr_icmp_ne (q := 88) (tgt := 98) dX12_lay_85 (by decide) rfl hm (fun hm => ?_) (fun hm => ?_)
          · refine rr_iload_n (q := 99) dX12_lay_98 rfl rfl ?_
            obtain ⟨c9, hm⟩ := vv_ck_of hm
            obtain ⟨g10, c11, hm⟩ := vv_let_of hm
            refine rr_iast (q := 100) ylR_55 ynR_55 c9 dX12_lay_99 rfl ?_
            rw [← c11]
            refine rr_iconst (q := 101) (v := 1) dX12_lay_100 rfl (by decide) ?_
            obtain rfl := Option.some.inj hm
            exact rr_iret dX12_lay_101 rfl hp
          · refine rr_iload_n (q := 89) dX12_lay_88 rfl rfl ?_
            refine rr_bipush (q := 91) (v := 16) dX12_lay_89 rfl (by decide) ?_
            refine rr_ishl (q := 92) dX12_lay_91 rfl ?_
            refine rr_bipush (q := 94) (v := 16) dX12_lay_92 rfl (by decide) ?_
            refine rr_ishr (q := 95) dX12_lay_94 rfl ?_
            refine rr_goto (tgt := 99) dX12_lay_95 (by decide) ?_
            obtain ⟨c12, hm⟩ := vv_ck_of hm
            obtain ⟨g13, c14, hm⟩ := vv_let_of hm
            refine rr_iast (q := 100) ylR_55 ynR_55 c12 dX12_lay_99 rfl ?_
            rw [← c14]
            refine rr_iconst (q := 101) (v := 1) dX12_lay_100 rfl (by decide) ?_
            obtain rfl := Option.some.inj hm
            exact rr_iret dX12_lay_101 rfl hp
        · refine rr_iload_n (q := 69) dX12_lay_68 rfl rfl ?_
          refine rr_bipush (q := 71) (v := 24) dX12_lay_69 rfl (by decide) ?_
          refine rr_ishl (q := 72) dX12_lay_71 rfl ?_
          refine rr_bipush (q := 74) (v := 24) dX12_lay_72 rfl (by decide) ?_
          refine rr_ishr (q := 75) dX12_lay_74 rfl ?_
          refine rr_goto (tgt := 99) dX12_lay_75 (by decide) ?_
          obtain ⟨c15, hm⟩ := vv_ck_of hm
          obtain ⟨g16, c17, hm⟩ := vv_let_of hm
          refine rr_iast (q := 100) ylR_55 ynR_55 c15 dX12_lay_99 rfl ?_
          rw [← c17]
          refine rr_iconst (q := 101) (v := 1) dX12_lay_100 rfl (by decide) ?_
          obtain rfl := Option.some.inj hm
          exact rr_iret dX12_lay_101 rfl hp
      · refine rr_bipush (q := 48) (v := -12) dX12_lay_46 rfl (by decide) ?_
        obtain rfl := Option.some.inj hm
        exact rr_iret dX12_lay_48 rfl hp
    · refine rr_bipush (q := 27) (v := -11) dX12_lay_25 rfl (by decide) ?_
      obtain rfl := Option.some.inj hm
      exact rr_iret dX12_lay_27 rfl hp
  · refine rr_iconst (q := 13) (v := -1) dX12_lay_12 rfl (by decide) ?_
    obtain rfl := Option.some.inj hm
    exact rr_iret dX12_lay_13 rfl hp
theorem cc_X12_lay {x : vv_E} {h : vv_H} {v1 : Int32} {v2 : Int32} {v3 : Int32} {o : Int32 × vv_H}  (hm : ff_X12_lay h v1 v2 v3 = some o) : vv_C x vv_TR yX12_lay mm_X12_lay [.ref (vv_ad x 0), .int v1, .int v2, .int v3] h (fun v g => v = some (.int o.1) ∧ g = o.2) := vv_entry (by decide +kernel) rfl (Nat.le_of_ble_eq_true rfl) rfl (vt_X12_lay  hm ⟨rfl, rfl⟩)
def ff_X12_scan_B58 (u1 : Int32) (u3 : Int32) (h : vv_H) (s4 : Int32) : Option ((Int32) ⊕ ((Unit) ⊕ (Unit) ⊕ (Int32))) := (if ((3 : Int32) * (h.1 0 1)) ≤ s4 then some (.inr (.inl ())) else vv_ck u1 4 ((ff_X12_in (u3.toInt64 + s4.toInt64) (0 : Int64) (((h.1 54 u1.toNatClampNeg) - (1 : Int32)).toInt64)).bind (fun r7 => (if r7 = 0 then some (.inr (.inr (.inl ()))) else vv_ck ((((60 : Int32) * u1) + u3) + s4) 240 ((ff_X12_in ((h.1 55 ((((60 : Int32) * u1) + u3) + s4).toNatClampNeg).toInt64) (0 : Int64) (250 : Int64)).bind (fun r10 => (if r10 = 0 then some (.inr (.inr (.inr s4))) else vv_let (s4 + 1) (fun w12 => some (.inl w12)))))))))
def ff_X12_scan_B153 (u1 : Int32) (u3 : Int32) (s4 : Int32) (h : vv_H) : Option ((Int32 × vv_H) ⊕ ((vv_H))) := (if ((3 : Int32) * (h.1 0 1)) ≤ s4 then some (.inr h) else vv_nz (3 : Int32) (vv_nz (3 : Int32) (vv_ck ((((60 : Int32) * u1) + u3) + s4) 240 ((ff_X12_tell h (s4 / (3 : Int32)) (s4 - s4 / (3 : Int32) * (3 : Int32)) (h.1 55 ((((60 : Int32) * u1) + u3) + s4).toNatClampNeg) (h.1 0 0)).bind (fun r19 => vv_let (s4 + 1) (fun w21 => some (.inl (w21, r19))))))))
def ff_X12_scan (h : vv_H) (v1 : Int32) (v2 : Int32) (v3 : Int32) : Option (Int32 × vv_H) := (ff_X12_in v1.toInt64 (0 : Int64) (3 : Int64)).bind (fun r1 => (if r1 = 0 then some ((-1 : Int32), h) else (ff_X12_in v2.toInt64 (0 : Int64) (2 : Int64)).bind (fun r3 => (if r3 = 0 then some ((-1 : Int32), h) else vv_ck v1 4 ((if (h.1 53 v1.toNatClampNeg) = v2 then (vv_lp (fun (zs : Int32) => ff_X12_scan_B58  v1 v3 h zs) vv_F (0 : Int32)).bind (Sum.elim (fun (e15 : (Unit)) => (if ((h.1 0 6) + ((3 : Int32) * (h.1 0 1))) ≤ (60 : Int32) then (vv_lp (fun (zs : Int32 × vv_H) => ff_X12_scan_B153  v1 v3 zs.1 zs.2) vv_F ((0 : Int32), h)).bind (fun (e24 : (vv_H)) => some ((e24.1 0 6), e24)) else some ((-3 : Int32), h))) (Sum.elim (fun (e26 : (Unit)) => some ((-12 : Int32), h)) (fun (e27 : (Int32)) => some (((-100 : Int32) - e27), h)))) else vv_ck v1 4 ((if (h.1 53 v1.toNatClampNeg) = (-4 : Int32) then some ((-11 : Int32), h) else some ((-13 : Int32), h)))))))))
set_option maxHeartbeats 200000 in
theorem vt_X12_scan_B58 {x : vv_E} {post : Option Value → vv_H → Prop} {u1 : Int32} {u3 : Int32} {h : vv_H} {s4 : Int32} {o : (Int32) ⊕ ((Unit) ⊕ (Unit) ⊕ (Int32))}  (hm : ff_X12_scan_B58  u1 u3 h s4 = some o) (hI : ∀ (z4 : Int32) , o = .inl z4 → vv_V x vv_TR mm_X12_scan post 58 [some (.ref (vv_ad x 0)), some (.int u1), none, some (.int u3), some (.int z4)] [] h) (hX0 : o = .inr (.inl ()) → vv_V x vv_TR mm_X12_scan post 131 [some (.ref (vv_ad x 0)), some (.int u1), none, some (.int u3), none] [] h) (hX1 : o = .inr (.inr (.inl ())) → vv_V x vv_TR mm_X12_scan post 91 [none, none, none, none, none] [] h) (hX2 : ∀ (z4 : Int32), o = .inr (.inr (.inr z4)) → vv_V x vv_TR mm_X12_scan post 119 [none, none, none, none, some (.int z4)] [] h) : vv_V x vv_TR mm_X12_scan post 58 [some (.ref (vv_ad x 0)), some (.int u1), none, some (.int u3), some (.int s4)] [] h := by
  unfold ff_X12_scan_B58 at hm
  refine rr_iload (q := 60) dX12_scan_58 rfl rfl ?_
  refine rr_iconst (q := 61) (v := 3) dX12_scan_60 rfl (by decide) ?_
  refine rr_aload_n (q := 62) dX12_scan_61 rfl rfl ?_
  refine gf_X12_177 (q := 65) rfl dX12_scan_62 rfl ?_
  refine rr_imul (q := 66) dX12_scan_65 rfl ?_
  refine rr_icmp_ge (q := 69) (tgt := 131) dX12_scan_66 (by decide) rfl hm (fun hm => ?_) (fun hm => ?_)
  · obtain rfl := Option.some.inj hm
    refine rr_sub [true, true, false, true, false] rfl ?_
    exact hX0  rfl
  · refine rr_iload_n (q := 70) dX12_scan_69 rfl rfl ?_
    refine rr_i2l (q := 71) dX12_scan_70 rfl ?_
    refine rr_iload (q := 73) dX12_scan_71 rfl rfl ?_
    refine rr_i2l (q := 74) dX12_scan_73 rfl ?_
    refine rr_ladd (q := 75) dX12_scan_74 rfl ?_
    refine rr_lconst (q := 76) (v := 0) dX12_scan_75 rfl (by decide) ?_
    refine rr_aload_n (q := 77) dX12_scan_76 rfl rfl ?_
    refine gf_X12_171 (q := 80) rfl dX12_scan_77 rfl ?_
    refine rr_iload_n (q := 81) dX12_scan_80 rfl rfl ?_
    obtain ⟨c6, hm⟩ := vv_ck_of hm
    refine rr_iald (q := 82) ylR_54 ynR_54 c6 dX12_scan_81 rfl ?_
    refine rr_iconst (q := 83) (v := 1) dX12_scan_82 rfl (by decide) ?_
    refine rr_isub (q := 84) dX12_scan_83 rfl ?_
    refine rr_i2l (q := 85) dX12_scan_84 rfl ?_
    obtain ⟨r7, k8, hm⟩ := vv_bind hm
    refine rr_callS (q := 88) (M' := mm_X12_in) (As := [.long (u3.toInt64 + s4.toInt64), .long (0 : Int64), .long (((h.1 54 u1.toNatClampNeg) - (1 : Int32)).toInt64)]) (st := []) (w := some (.int r7))  (cc_X12_in  k8) rfl vy_X12_in zw_267 ⟨Nat.le_of_ble_eq_true rfl, Nat.le_of_ble_eq_true rfl⟩ (Nat.le_of_ble_eq_true rfl) dX12_scan_85 rfl ?_
    show vv_V x vv_TR mm_X12_scan post 88 [some (.ref (vv_ad x 0)), some (.int u1), none, some (.int u3), some (.int s4)] [.int r7] h
    refine rr_if_ne (q := 91) (tgt := 94) dX12_scan_88 (by decide) rfl hm (fun hm => ?_) (fun hm => ?_)
    · refine rr_aload_n (q := 95) dX12_scan_94 rfl rfl ?_
      refine gf_X12_174 (q := 98) rfl dX12_scan_95 rfl ?_
      refine rr_bipush (q := 100) (v := 60) dX12_scan_98 rfl (by decide) ?_
      refine rr_iload_n (q := 101) dX12_scan_100 rfl rfl ?_
      refine rr_imul (q := 102) dX12_scan_101 rfl ?_
      refine rr_iload_n (q := 103) dX12_scan_102 rfl rfl ?_
      refine rr_iadd (q := 104) dX12_scan_103 rfl ?_
      refine rr_iload (q := 106) dX12_scan_104 rfl rfl ?_
      refine rr_iadd (q := 107) dX12_scan_106 rfl ?_
      obtain ⟨c9, hm⟩ := vv_ck_of hm
      refine rr_iald (q := 108) ylR_55 ynR_55 c9 dX12_scan_107 rfl ?_
      refine rr_i2l (q := 109) dX12_scan_108 rfl ?_
      refine rr_lconst (q := 110) (v := 0) dX12_scan_109 rfl (by decide) ?_
      refine rr_ldc2 (q := 113) dX12_scan_110 rfl zw_272 ?_
      obtain ⟨r10, k11, hm⟩ := vv_bind hm
      refine rr_callS (q := 116) (M' := mm_X12_in) (As := [.long ((h.1 55 ((((60 : Int32) * u1) + u3) + s4).toNatClampNeg).toInt64), .long (0 : Int64), .long (250 : Int64)]) (st := []) (w := some (.int r10))  (cc_X12_in  k11) rfl vy_X12_in zw_267 ⟨Nat.le_of_ble_eq_true rfl, Nat.le_of_ble_eq_true rfl⟩ (Nat.le_of_ble_eq_true rfl) dX12_scan_113 rfl ?_
      show vv_V x vv_TR mm_X12_scan post 116 [some (.ref (vv_ad x 0)), some (.int u1), none, some (.int u3), some (.int s4)] [.int r10] h
      refine rr_if_ne (q := 119) (tgt := 125) dX12_scan_116 (by decide) rfl hm (fun hm => ?_) (fun hm => ?_)
      · obtain ⟨w12, c13, hm⟩ := vv_let_of hm
        refine rr_iinc (q := 128) [some (.ref (vv_ad x 0)), some (.int u1), none, some (.int u3), some (.int w12)] dX12_scan_125 rfl rfl c13.symm (Nat.le_of_ble_eq_true rfl) rfl rfl ?_
        refine rr_goto (tgt := 58) dX12_scan_128 (by decide) ?_
        obtain rfl := Option.some.inj hm
        exact hI w12 rfl
      · obtain rfl := Option.some.inj hm
        refine rr_sub [false, false, false, false, true] rfl ?_
        exact hX2 s4 rfl
    · obtain rfl := Option.some.inj hm
      refine rr_sub [false, false, false, false, false] rfl ?_
      exact hX1  rfl
set_option maxHeartbeats 200000 in
theorem vt_X12_scan_B153 {x : vv_E} {post : Option Value → vv_H → Prop} {u1 : Int32} {u3 : Int32} {s4 : Int32} {h : vv_H} {o : (Int32 × vv_H) ⊕ ((vv_H))}  (hm : ff_X12_scan_B153  u1 u3 s4 h = some o) (hI : ∀ (z4 : Int32) (zh : vv_H), o = .inl (z4, zh) → vv_V x vv_TR mm_X12_scan post 153 [some (.ref (vv_ad x 0)), some (.int u1), none, some (.int u3), some (.int z4)] [] zh) (hX0 : ∀  (zh : vv_H), o = .inr zh → vv_V x vv_TR mm_X12_scan post 200 [some (.ref (vv_ad x 0)), none, none, none, none] [] zh) : vv_V x vv_TR mm_X12_scan post 153 [some (.ref (vv_ad x 0)), some (.int u1), none, some (.int u3), some (.int s4)] [] h := by
  unfold ff_X12_scan_B153 at hm
  refine rr_iload (q := 155) dX12_scan_153 rfl rfl ?_
  refine rr_iconst (q := 156) (v := 3) dX12_scan_155 rfl (by decide) ?_
  refine rr_aload_n (q := 157) dX12_scan_156 rfl rfl ?_
  refine gf_X12_177 (q := 160) rfl dX12_scan_157 rfl ?_
  refine rr_imul (q := 161) dX12_scan_160 rfl ?_
  refine rr_icmp_ge (q := 164) (tgt := 200) dX12_scan_161 (by decide) rfl hm (fun hm => ?_) (fun hm => ?_)
  · obtain rfl := Option.some.inj hm
    refine rr_sub [true, false, false, false, false] rfl ?_
    exact hX0 h rfl
  · refine rr_aload_n (q := 165) dX12_scan_164 rfl rfl ?_
    refine rr_iload (q := 167) dX12_scan_165 rfl rfl ?_
    refine rr_iconst (q := 168) (v := 3) dX12_scan_167 rfl (by decide) ?_
    obtain ⟨c16, hm⟩ := vv_nz_of hm
    refine rr_idiv (q := 169) dX12_scan_168 rfl c16 ?_
    refine rr_iload (q := 171) dX12_scan_169 rfl rfl ?_
    refine rr_iconst (q := 172) (v := 3) dX12_scan_171 rfl (by decide) ?_
    obtain ⟨c17, hm⟩ := vv_nz_of hm
    refine rr_irem (q := 173) dX12_scan_172 rfl c17 ?_
    refine rr_aload_n (q := 174) dX12_scan_173 rfl rfl ?_
    refine gf_X12_174 (q := 177) rfl dX12_scan_174 rfl ?_
    refine rr_bipush (q := 179) (v := 60) dX12_scan_177 rfl (by decide) ?_
    refine rr_iload_n (q := 180) dX12_scan_179 rfl rfl ?_
    refine rr_imul (q := 181) dX12_scan_180 rfl ?_
    refine rr_iload_n (q := 182) dX12_scan_181 rfl rfl ?_
    refine rr_iadd (q := 183) dX12_scan_182 rfl ?_
    refine rr_iload (q := 185) dX12_scan_183 rfl rfl ?_
    refine rr_iadd (q := 186) dX12_scan_185 rfl ?_
    obtain ⟨c18, hm⟩ := vv_ck_of hm
    refine rr_iald (q := 187) ylR_55 ynR_55 c18 dX12_scan_186 rfl ?_
    refine rr_aload_n (q := 188) dX12_scan_187 rfl rfl ?_
    refine gf_X12_187 (q := 191) rfl dX12_scan_188 rfl ?_
    obtain ⟨r19, k20, hm⟩ := vv_bind hm
    refine rr_callV (q := 194) (M' := mm_X12_tell) (As := [.int (s4 / (3 : Int32)), .int (s4 - s4 / (3 : Int32) * (3 : Int32)), .int (h.1 55 ((((60 : Int32) * u1) + u3) + s4).toNatClampNeg), .int (h.1 0 0)]) (st := []) (w := none) (cc_X12_tell  k20) rfl ylR_0 ynR_0 rfl vy_X12_tell zw_339 ⟨Nat.le_of_ble_eq_true rfl, Nat.le_of_ble_eq_true rfl⟩ (Nat.le_of_ble_eq_true rfl) dX12_scan_191 rfl ?_
    show vv_V x vv_TR mm_X12_scan post 194 [some (.ref (vv_ad x 0)), some (.int u1), none, some (.int u3), some (.int s4)] [] r19
    obtain ⟨w21, c22, hm⟩ := vv_let_of hm
    refine rr_iinc (q := 197) [some (.ref (vv_ad x 0)), some (.int u1), none, some (.int u3), some (.int w21)] dX12_scan_194 rfl rfl c22.symm (Nat.le_of_ble_eq_true rfl) rfl rfl ?_
    refine rr_goto (tgt := 153) dX12_scan_197 (by decide) ?_
    obtain rfl := Option.some.inj hm
    exact hI w21 r19 rfl
set_option maxHeartbeats 200000 in
theorem vt_X12_scan {x : vv_E} {post : Option Value → vv_H → Prop} {h : vv_H} {v1 : Int32} {v2 : Int32} {v3 : Int32} {o : Int32 × vv_H}  (hm : ff_X12_scan  h v1 v2 v3 = some o) (hp : post (some (.int o.1)) o.2) : vv_V x vv_TR mm_X12_scan post 0 [some (.ref (vv_ad x 0)), some (.int v1), some (.int v2), some (.int v3), none] [] h := by
  unfold ff_X12_scan at hm
  refine rr_iload_n (q := 1) dX12_scan_0 rfl rfl ?_
  refine rr_i2l (q := 2) dX12_scan_1 rfl ?_
  refine rr_lconst (q := 3) (v := 0) dX12_scan_2 rfl (by decide) ?_
  refine rr_ldc2 (q := 6) dX12_scan_3 rfl zw_270 ?_
  obtain ⟨r1, k2, hm⟩ := vv_bind hm
  refine rr_callS (q := 9) (M' := mm_X12_in) (As := [.long v1.toInt64, .long (0 : Int64), .long (3 : Int64)]) (st := []) (w := some (.int r1))  (cc_X12_in  k2) rfl vy_X12_in zw_267 ⟨Nat.le_of_ble_eq_true rfl, Nat.le_of_ble_eq_true rfl⟩ (Nat.le_of_ble_eq_true rfl) dX12_scan_6 rfl ?_
  show vv_V x vv_TR mm_X12_scan post 9 [some (.ref (vv_ad x 0)), some (.int v1), some (.int v2), some (.int v3), none] [.int r1] h
  refine rr_if_eq (q := 12) (tgt := 24) dX12_scan_9 (by decide) rfl hm (fun hm => ?_) (fun hm => ?_)
  · refine rr_iconst (q := 25) (v := -1) dX12_scan_24 rfl (by decide) ?_
    obtain rfl := Option.some.inj hm
    exact rr_iret dX12_scan_25 rfl hp
  · refine rr_iload_n (q := 13) dX12_scan_12 rfl rfl ?_
    refine rr_i2l (q := 14) dX12_scan_13 rfl ?_
    refine rr_lconst (q := 15) (v := 0) dX12_scan_14 rfl (by decide) ?_
    refine rr_ldc2 (q := 18) dX12_scan_15 rfl zw_271 ?_
    obtain ⟨r3, k4, hm⟩ := vv_bind hm
    refine rr_callS (q := 21) (M' := mm_X12_in) (As := [.long v2.toInt64, .long (0 : Int64), .long (2 : Int64)]) (st := []) (w := some (.int r3))  (cc_X12_in  k4) rfl vy_X12_in zw_267 ⟨Nat.le_of_ble_eq_true rfl, Nat.le_of_ble_eq_true rfl⟩ (Nat.le_of_ble_eq_true rfl) dX12_scan_18 rfl ?_
    show vv_V x vv_TR mm_X12_scan post 21 [some (.ref (vv_ad x 0)), some (.int v1), some (.int v2), some (.int v3), none] [.int r3] h
    refine rr_if_ne (q := 24) (tgt := 26) dX12_scan_21 (by decide) rfl hm (fun hm => ?_) (fun hm => ?_)
    · refine rr_aload_n (q := 27) dX12_scan_26 rfl rfl ?_
      refine gf_X12_168 (q := 30) rfl dX12_scan_27 rfl ?_
      refine rr_iload_n (q := 31) dX12_scan_30 rfl rfl ?_
      obtain ⟨c5, hm⟩ := vv_ck_of hm
      refine rr_iald (q := 32) ylR_53 ynR_53 c5 dX12_scan_31 rfl ?_
      refine rr_iload_n (q := 33) dX12_scan_32 rfl rfl ?_
      refine rr_icmp_eq (q := 36) (tgt := 55) dX12_scan_33 (by decide) rfl hm (fun hm => ?_) (fun hm => ?_)
      · refine rr_iconst (q := 56) (v := 0) dX12_scan_55 rfl (by decide) ?_
        refine rr_istore (q := 58) [some (.ref (vv_ad x 0)), some (.int v1), some (.int v2), some (.int v3), some (.int (0 : Int32))] dX12_scan_56 rfl (Nat.le_of_ble_eq_true rfl) rfl rfl ?_
        refine rr_sub [true, true, false, true, true] rfl ?_
        obtain ⟨r14, k28, hm⟩ := vv_bind hm
        refine vv_lp_link (P := fun (zs : Int32) => vv_V x vv_TR mm_X12_scan post 58 [some (.ref (vv_ad x 0)), some (.int v1), none, some (.int v3), some (.int zs)] [] h) (Q := (Sum.elim (fun (e15 : (Unit)) => vv_V x vv_TR mm_X12_scan post 131 [some (.ref (vv_ad x 0)), some (.int v1), none, some (.int v3), none] [] h) (Sum.elim (fun (e26 : (Unit)) => vv_V x vv_TR mm_X12_scan post 91 [none, none, none, none, none] [] h) (fun (e27 : (Int32)) => vv_V x vv_TR mm_X12_scan post 119 [none, none, none, none, some (.int e27)] [] h)))) (fun zs o hm hI hX => ?_) vv_F (0 : Int32) r14 k28 ?_
        · exact vt_X12_scan_B58   hm (fun z4 e => hI z4 e) (hX (.inl ())) (hX (.inr (.inl ()))) (fun z4 e => hX (.inr (.inr z4)) e)
        · rcases r14 with e15 | qe15
          · try dsimp only [Sum.elim_inl, Sum.elim_inr] at hm
            try dsimp only [Sum.elim_inl, Sum.elim_inr]
            refine rr_aload_n (q := 132) dX12_scan_131 rfl rfl ?_
            refine gf_X12_200 (q := 135) rfl dX12_scan_132 rfl ?_
            refine rr_iconst (q := 136) (v := 3) dX12_scan_135 rfl (by decide) ?_
            refine rr_aload_n (q := 137) dX12_scan_136 rfl rfl ?_
            refine gf_X12_177 (q := 140) rfl dX12_scan_137 rfl ?_
            refine rr_imul (q := 141) dX12_scan_140 rfl ?_
            refine rr_iadd (q := 142) dX12_scan_141 rfl ?_
            refine rr_bipush (q := 144) (v := 60) dX12_scan_142 rfl (by decide) ?_
            refine rr_icmp_le (q := 147) (tgt := 150) dX12_scan_144 (by decide) rfl hm (fun hm => ?_) (fun hm => ?_)
            · refine rr_iconst (q := 151) (v := 0) dX12_scan_150 rfl (by decide) ?_
              refine rr_istore (q := 153) [some (.ref (vv_ad x 0)), some (.int v1), none, some (.int v3), some (.int (0 : Int32))] dX12_scan_151 rfl (Nat.le_of_ble_eq_true rfl) rfl rfl ?_
              obtain ⟨r23, k25, hm⟩ := vv_bind hm
              refine vv_lp_link (P := fun (zs : Int32 × vv_H) => vv_V x vv_TR mm_X12_scan post 153 [some (.ref (vv_ad x 0)), some (.int v1), none, some (.int v3), some (.int zs.1)] [] zs.2) (Q := (fun (e24 : (vv_H)) => vv_V x vv_TR mm_X12_scan post 200 [some (.ref (vv_ad x 0)), none, none, none, none] [] e24)) (fun zs o hm hI hX => ?_) vv_F ((0 : Int32), h) r23 k25 ?_
              · exact vt_X12_scan_B153   hm (fun z4 zh e => hI (z4, zh) e) (fun zh e => hX zh e)
              · generalize r23 = e24 at hm ⊢
                try dsimp only [Sum.elim_inl, Sum.elim_inr] at hm
                try dsimp only [Sum.elim_inl, Sum.elim_inr]
                refine rr_aload_n (q := 201) dX12_scan_200 rfl rfl ?_
                refine gf_X12_200 (q := 204) rfl dX12_scan_201 rfl ?_
                obtain rfl := Option.some.inj hm
                exact rr_iret dX12_scan_204 rfl hp
            · refine rr_bipush (q := 149) (v := -3) dX12_scan_147 rfl (by decide) ?_
              obtain rfl := Option.some.inj hm
              exact rr_iret dX12_scan_149 rfl hp
          · rcases qe15 with e26 | qe26
            · try dsimp only [Sum.elim_inl, Sum.elim_inr] at hm
              try dsimp only [Sum.elim_inl, Sum.elim_inr]
              refine rr_bipush (q := 93) (v := -12) dX12_scan_91 rfl (by decide) ?_
              obtain rfl := Option.some.inj hm
              exact rr_iret dX12_scan_93 rfl hp
            · generalize qe26 = e27 at hm ⊢
              try dsimp only [Sum.elim_inl, Sum.elim_inr] at hm
              try dsimp only [Sum.elim_inl, Sum.elim_inr]
              refine rr_bipush (q := 121) (v := -100) dX12_scan_119 rfl (by decide) ?_
              refine rr_iload (q := 123) dX12_scan_121 rfl rfl ?_
              refine rr_isub (q := 124) dX12_scan_123 rfl ?_
              obtain rfl := Option.some.inj hm
              exact rr_iret dX12_scan_124 rfl hp
      · refine rr_aload_n (q := 37) dX12_scan_36 rfl rfl ?_
        refine gf_X12_168 (q := 40) rfl dX12_scan_37 rfl ?_
        refine rr_iload_n (q := 41) dX12_scan_40 rfl rfl ?_
        obtain ⟨c29, hm⟩ := vv_ck_of hm
        refine rr_iald (q := 42) ylR_53 ynR_53 c29 dX12_scan_41 rfl ?_
        refine rr_bipush (q := 44) (v := -4) dX12_scan_42 rfl (by decide) ?_
        refine rr_icmp_ne (q := 47) (tgt := 52) dX12_scan_44 (by decide) rfl hm (fun hm => ?_) (fun hm => ?_)
        · refine rr_bipush (q := 54) (v := -13) dX12_scan_52 rfl (by decide) ?_
          obtain rfl := Option.some.inj hm
          exact rr_iret dX12_scan_54 rfl hp
        · refine rr_bipush (q := 49) (v := -11) dX12_scan_47 rfl (by decide) ?_
          refine rr_goto (tgt := 54) dX12_scan_49 (by decide) ?_
          obtain rfl := Option.some.inj hm
          exact rr_iret dX12_scan_54 rfl hp
    · refine rr_iconst (q := 25) (v := -1) dX12_scan_24 rfl (by decide) ?_
      obtain rfl := Option.some.inj hm
      exact rr_iret dX12_scan_25 rfl hp
theorem cc_X12_scan {x : vv_E} {h : vv_H} {v1 : Int32} {v2 : Int32} {v3 : Int32} {o : Int32 × vv_H}  (hm : ff_X12_scan h v1 v2 v3 = some o) : vv_C x vv_TR yX12_scan mm_X12_scan [.ref (vv_ad x 0), .int v1, .int v2, .int v3] h (fun v g => v = some (.int o.1) ∧ g = o.2) := vv_entry (by decide +kernel) rfl (Nat.le_of_ble_eq_true rfl) rfl (vt_X12_scan  hm ⟨rfl, rfl⟩)
def ff_X1_choose_B12 (u1 : Int32) (s2 : Int32) (h : vv_H) : Option ((Int32 × vv_H) ⊕ ((vv_H))) := (if ((1 : Int32) <<< ((h.1 167 1) &&& 31)) ≤ s2 then some (.inr h) else (ff_J6_bitCount_0f7a4 s2).bind (fun r5 => (if u1 < r5 then vv_let (s2 + 1) (fun w7 => some (.inl (w7, h))) else (ff_X1_unionOf h s2).bind (fun r9 => (ff_X1_compare h s2 r9).bind (fun r11 => vv_let (s2 + 1) (fun w13 => some (.inl (w13, r11))))))))
def ff_X1_choose (h : vv_H) (v1 : Int32) : Option (vv_H) := vv_let (vv_iu h 167 2 (0 : Int32)) (fun g1 => vv_let (vv_iu g1 167 0 (0 : Int32)) (fun g3 => (vv_lp (fun (zs : Int32 × vv_H) => ff_X1_choose_B12  v1 zs.1 zs.2) vv_F ((1 : Int32), g3)).bind (fun (e16 : (vv_H)) => some e16)))
set_option maxHeartbeats 200000 in
theorem vt_X1_choose_B12 {x : vv_E} {post : Option Value → vv_H → Prop} {u1 : Int32} {s2 : Int32} {h : vv_H} {o : (Int32 × vv_H) ⊕ ((vv_H))}  (hm : ff_X1_choose_B12  u1 s2 h = some o) (hI : ∀ (z2 : Int32) (zh : vv_H), o = .inl (z2, zh) → vv_V x vv_TC mm_X1_choose post 12 [some (.ref (vv_ad x 167)), some (.int u1), some (.int z2)] [] zh) (hX0 : ∀  (zh : vv_H), o = .inr zh → vv_V x vv_TC mm_X1_choose post 46 [none, none, none] [] zh) : vv_V x vv_TC mm_X1_choose post 12 [some (.ref (vv_ad x 167)), some (.int u1), some (.int s2)] [] h := by
  unfold ff_X1_choose_B12 at hm
  refine rr_iload_n (q := 13) dX1_choose_12 rfl rfl ?_
  refine rr_iconst (q := 14) (v := 1) dX1_choose_13 rfl (by decide) ?_
  refine rr_aload_n (q := 15) dX1_choose_14 rfl rfl ?_
  refine gf_X1_18 (q := 18) rfl dX1_choose_15 rfl ?_
  refine rr_ishl (q := 19) dX1_choose_18 rfl ?_
  refine rr_icmp_ge (q := 22) (tgt := 46) dX1_choose_19 (by decide) rfl hm (fun hm => ?_) (fun hm => ?_)
  · obtain rfl := Option.some.inj hm
    refine rr_sub [false, false, false] rfl ?_
    exact hX0 h rfl
  · refine rr_iload_n (q := 23) dX1_choose_22 rfl rfl ?_
    obtain ⟨r5, k6, hm⟩ := vv_bind hm
    refine rr_callS (q := 26) (M' := mm_J6_bitCount_0f7a4) (As := [.int s2]) (st := []) (w := some (.int r5))  (cc_J6_bitCount_0f7a4  k6) rfl vy_J6_bitCount_0f7a4 zw_122 ⟨Nat.le_of_ble_eq_true rfl, Nat.le_of_ble_eq_true rfl⟩ (Nat.le_of_ble_eq_true rfl) dX1_choose_23 rfl ?_
    show vv_V x vv_TC mm_X1_choose post 26 [some (.ref (vv_ad x 167)), some (.int u1), some (.int s2)] [.int r5] h
    refine rr_iload_n (q := 27) dX1_choose_26 rfl rfl ?_
    refine rr_icmp_gt (q := 30) (tgt := 40) dX1_choose_27 (by decide) rfl hm (fun hm => ?_) (fun hm => ?_)
    · obtain ⟨w7, c8, hm⟩ := vv_let_of hm
      refine rr_iinc (q := 43) [some (.ref (vv_ad x 167)), some (.int u1), some (.int w7)] dX1_choose_40 rfl rfl c8.symm (Nat.le_of_ble_eq_true rfl) rfl rfl ?_
      refine rr_goto (tgt := 12) dX1_choose_43 (by decide) ?_
      obtain rfl := Option.some.inj hm
      exact hI w7 h rfl
    · refine rr_aload_n (q := 31) dX1_choose_30 rfl rfl ?_
      refine rr_iload_n (q := 32) dX1_choose_31 rfl rfl ?_
      refine rr_aload_n (q := 33) dX1_choose_32 rfl rfl ?_
      refine rr_iload_n (q := 34) dX1_choose_33 rfl rfl ?_
      obtain ⟨r9, k10, hm⟩ := vv_bind hm
      refine rr_callV (q := 37) (M' := mm_X1_unionOf) (As := [.int s2]) (st := [.int s2, .ref (vv_ad x 167)]) (w := some (.int r9)) (cc_X1_unionOf  k10) rfl ylC_167 ynC_167 rfl vy_X1_unionOf zw_344 ⟨Nat.le_of_ble_eq_true rfl, Nat.le_of_ble_eq_true rfl⟩ (Nat.le_of_ble_eq_true rfl) dX1_choose_34 rfl ?_
      show vv_V x vv_TC mm_X1_choose post 37 [some (.ref (vv_ad x 167)), some (.int u1), some (.int s2)] [.int r9, .int s2, .ref (vv_ad x 167)] h
      obtain ⟨r11, k12, hm⟩ := vv_bind hm
      refine rr_callV (q := 40) (M' := mm_X1_compare) (As := [.int s2, .int r9]) (st := []) (w := none) (cc_X1_compare  k12) rfl ylC_167 ynC_167 rfl vy_X1_compare zw_349 ⟨Nat.le_of_ble_eq_true rfl, Nat.le_of_ble_eq_true rfl⟩ (Nat.le_of_ble_eq_true rfl) dX1_choose_37 rfl ?_
      show vv_V x vv_TC mm_X1_choose post 40 [some (.ref (vv_ad x 167)), some (.int u1), some (.int s2)] [] r11
      obtain ⟨w13, c14, hm⟩ := vv_let_of hm
      refine rr_iinc (q := 43) [some (.ref (vv_ad x 167)), some (.int u1), some (.int w13)] dX1_choose_40 rfl rfl c14.symm (Nat.le_of_ble_eq_true rfl) rfl rfl ?_
      refine rr_goto (tgt := 12) dX1_choose_43 (by decide) ?_
      obtain rfl := Option.some.inj hm
      exact hI w13 r11 rfl
set_option maxHeartbeats 200000 in
theorem vt_X1_choose {x : vv_E} {post : Option Value → vv_H → Prop} {h : vv_H} {v1 : Int32} {o : vv_H}  (hm : ff_X1_choose  h v1 = some o) (hp : post none o) : vv_V x vv_TC mm_X1_choose post 0 [some (.ref (vv_ad x 167)), some (.int v1), none] [] h := by
  unfold ff_X1_choose at hm
  refine rr_aload_n (q := 1) dX1_choose_0 rfl rfl ?_
  refine rr_iconst (q := 2) (v := 0) dX1_choose_1 rfl (by decide) ?_
  refine pf_X1_22 (q := 5) rfl dX1_choose_2 rfl (fun g1 c2 => ?_)
  replace hm := vv_letE hm c2
  refine rr_aload_n (q := 6) dX1_choose_5 rfl rfl ?_
  refine rr_iconst (q := 7) (v := 0) dX1_choose_6 rfl (by decide) ?_
  refine pf_X1_25 (q := 10) rfl dX1_choose_7 rfl (fun g3 c4 => ?_)
  replace hm := vv_letE hm c4
  refine rr_iconst (q := 11) (v := 1) dX1_choose_10 rfl (by decide) ?_
  refine rr_istore_n (q := 12) [some (.ref (vv_ad x 167)), some (.int v1), some (.int (1 : Int32))] dX1_choose_11 rfl rfl (Nat.le_of_ble_eq_true rfl) rfl rfl ?_
  obtain ⟨r15, k17, hm⟩ := vv_bind hm
  refine vv_lp_link (P := fun (zs : Int32 × vv_H) => vv_V x vv_TC mm_X1_choose post 12 [some (.ref (vv_ad x 167)), some (.int v1), some (.int zs.1)] [] zs.2) (Q := (fun (e16 : (vv_H)) => vv_V x vv_TC mm_X1_choose post 46 [none, none, none] [] e16)) (fun zs o hm hI hX => ?_) vv_F ((1 : Int32), g3) r15 k17 ?_
  · exact vt_X1_choose_B12   hm (fun z2 zh e => hI (z2, zh) e) (fun zh e => hX zh e)
  · generalize r15 = e16 at hm ⊢
    try dsimp only [Sum.elim_inl, Sum.elim_inr] at hm
    try dsimp only [Sum.elim_inl, Sum.elim_inr]
    obtain rfl := Option.some.inj hm
    exact rr_vret dX1_choose_46 rfl hp
theorem cc_X1_choose {x : vv_E} {h : vv_H} {v1 : Int32} {o : vv_H}  (hm : ff_X1_choose h v1 = some o) : vv_C x vv_TC yX1_choose mm_X1_choose [.ref (vv_ad x 167), .int v1] h (fun v g => v = none ∧ g = o) := vv_entry (by decide +kernel) rfl (Nat.le_of_ble_eq_true rfl) rfl (vt_X1_choose  hm ⟨rfl, rfl⟩)
def ff_X3_dressable_B22 (u2 : Int64) (s4 : Int32) (s5 : Int32) (h : vv_H) : Option ((Int32 × Int32 × vv_H) ⊕ ((Int32 × vv_H))) := (if (h.1 170 2) ≤ s5 then some (.inr (s4, h)) else (ff_X3_dress h s5 u2).bind (fun r5 => (if r5.1 = 0 then vv_let (s5 + 1) (fun w7 => some (.inl ((s4 + (0 : Int32)), w7, r5.2))) else vv_let (s5 + 1) (fun w9 => some (.inl ((s4 + (1 : Int32)), w9, r5.2))))))
def ff_X3_dressable (h : vv_H) (v1 : Int32) (v2 : Int64) : Option (Int32 × vv_H) := (ff_J7_fill_53178 h 172 32 (-1 : Int32)).bind (fun r1 => (ff_J7_fill_53178 r1 173 64 (-1 : Int32)).bind (fun r3 => (vv_lp (fun (zs : Int32 × Int32 × vv_H) => ff_X3_dressable_B22  v2 zs.1 zs.2.1 zs.2.2) vv_F ((0 : Int32), v1, r3)).bind (fun (e12 : (Int32 × vv_H)) => some (e12.1, e12.2))))
set_option maxHeartbeats 200000 in
theorem vt_X3_dressable_B22 {x : vv_E} {post : Option Value → vv_H → Prop} {u2 : Int64} {s4 : Int32} {s5 : Int32} {h : vv_H} {o : (Int32 × Int32 × vv_H) ⊕ ((Int32 × vv_H))}  (hm : ff_X3_dressable_B22  u2 s4 s5 h = some o) (hI : ∀ (z4 : Int32) (z5 : Int32) (zh : vv_H), o = .inl (z4, z5, zh) → vv_V x vv_TC mm_X3_dressable post 22 [some (.ref (vv_ad x 170)), none, some (.long u2), none, some (.int z4), some (.int z5)] [] zh) (hX0 : ∀ (z4 : Int32) (zh : vv_H), o = .inr (z4, zh) → vv_V x vv_TC mm_X3_dressable post 57 [none, none, none, none, some (.int z4), none] [] zh) : vv_V x vv_TC mm_X3_dressable post 22 [some (.ref (vv_ad x 170)), none, some (.long u2), none, some (.int s4), some (.int s5)] [] h := by
  unfold ff_X3_dressable_B22 at hm
  refine rr_iload (q := 24) dX3_dressable_22 rfl rfl ?_
  refine rr_aload_n (q := 25) dX3_dressable_24 rfl rfl ?_
  refine gf_X3_34 (q := 28) rfl dX3_dressable_25 rfl ?_
  refine rr_icmp_ge (q := 31) (tgt := 57) dX3_dressable_28 (by decide) rfl hm (fun hm => ?_) (fun hm => ?_)
  · obtain rfl := Option.some.inj hm
    refine rr_sub [false, false, false, false, true, false] rfl ?_
    exact hX0 s4 h rfl
  · refine rr_iload (q := 33) dX3_dressable_31 rfl rfl ?_
    refine rr_aload_n (q := 34) dX3_dressable_33 rfl rfl ?_
    refine rr_iload (q := 36) dX3_dressable_34 rfl rfl ?_
    refine rr_lload_n (q := 37) dX3_dressable_36 rfl rfl ?_
    obtain ⟨r5, k6, hm⟩ := vv_bind hm
    refine rr_callV (q := 40) (M' := mm_X3_dress) (As := [.int s5, .long u2]) (st := [.int s4]) (w := some (.int r5.1)) (cc_X3_dress  k6) rfl ylC_170 ynC_170 rfl vy_X3_dress zw_355 ⟨Nat.le_of_ble_eq_true rfl, Nat.le_of_ble_eq_true rfl⟩ (Nat.le_of_ble_eq_true rfl) dX3_dressable_37 rfl ?_
    show vv_V x vv_TC mm_X3_dressable post 40 [some (.ref (vv_ad x 170)), none, some (.long u2), none, some (.int s4), some (.int s5)] [.int r5.1, .int s4] r5.2
    refine rr_if_eq (q := 43) (tgt := 47) dX3_dressable_40 (by decide) rfl hm (fun hm => ?_) (fun hm => ?_)
    · refine rr_iconst (q := 48) (v := 0) dX3_dressable_47 rfl (by decide) ?_
      refine rr_iadd (q := 49) dX3_dressable_48 rfl ?_
      refine rr_istore (q := 51) [some (.ref (vv_ad x 170)), none, some (.long u2), none, some (.int (s4 + (0 : Int32))), some (.int s5)] dX3_dressable_49 rfl (Nat.le_of_ble_eq_true rfl) rfl rfl ?_
      obtain ⟨w7, c8, hm⟩ := vv_let_of hm
      refine rr_iinc (q := 54) [some (.ref (vv_ad x 170)), none, some (.long u2), none, some (.int (s4 + (0 : Int32))), some (.int w7)] dX3_dressable_51 rfl rfl c8.symm (Nat.le_of_ble_eq_true rfl) rfl rfl ?_
      refine rr_goto (tgt := 22) dX3_dressable_54 (by decide) ?_
      obtain rfl := Option.some.inj hm
      exact hI (s4 + (0 : Int32)) w7 r5.2 rfl
    · refine rr_iconst (q := 44) (v := 1) dX3_dressable_43 rfl (by decide) ?_
      refine rr_goto (tgt := 48) dX3_dressable_44 (by decide) ?_
      refine rr_iadd (q := 49) dX3_dressable_48 rfl ?_
      refine rr_istore (q := 51) [some (.ref (vv_ad x 170)), none, some (.long u2), none, some (.int (s4 + (1 : Int32))), some (.int s5)] dX3_dressable_49 rfl (Nat.le_of_ble_eq_true rfl) rfl rfl ?_
      obtain ⟨w9, c10, hm⟩ := vv_let_of hm
      refine rr_iinc (q := 54) [some (.ref (vv_ad x 170)), none, some (.long u2), none, some (.int (s4 + (1 : Int32))), some (.int w9)] dX3_dressable_51 rfl rfl c10.symm (Nat.le_of_ble_eq_true rfl) rfl rfl ?_
      refine rr_goto (tgt := 22) dX3_dressable_54 (by decide) ?_
      obtain rfl := Option.some.inj hm
      exact hI (s4 + (1 : Int32)) w9 r5.2 rfl
set_option maxHeartbeats 200000 in
theorem vt_X3_dressable {x : vv_E} {post : Option Value → vv_H → Prop} {h : vv_H} {v1 : Int32} {v2 : Int64} {o : Int32 × vv_H}  (hm : ff_X3_dressable  h v1 v2 = some o) (hp : post (some (.int o.1)) o.2) : vv_V x vv_TC mm_X3_dressable post 0 [some (.ref (vv_ad x 170)), some (.int v1), some (.long v2), none, none, none] [] h := by
  unfold ff_X3_dressable at hm
  refine rr_aload_n (q := 1) dX3_dressable_0 rfl rfl ?_
  refine gf_X3_15 (q := 4) rfl dX3_dressable_1 rfl ?_
  refine rr_iconst (q := 5) (v := -1) dX3_dressable_4 rfl (by decide) ?_
  obtain ⟨r1, k2, hm⟩ := vv_bind hm
  refine rr_callS (q := 8) (M' := mm_J7_fill_53178) (As := [.ref (vv_ad x 172), .int (-1 : Int32)]) (st := []) (w := none)  (cc_J7_fill_53178 ylC_172 ynC_172 k2) rfl vy_J7_fill_53178 zw_350 ⟨Nat.le_of_ble_eq_true rfl, Nat.le_of_ble_eq_true rfl⟩ (Nat.le_of_ble_eq_true rfl) dX3_dressable_5 rfl ?_
  show vv_V x vv_TC mm_X3_dressable post 8 [some (.ref (vv_ad x 170)), some (.int v1), some (.long v2), none, none, none] [] r1
  refine rr_aload_n (q := 9) dX3_dressable_8 rfl rfl ?_
  refine gf_X3_19 (q := 12) rfl dX3_dressable_9 rfl ?_
  refine rr_iconst (q := 13) (v := -1) dX3_dressable_12 rfl (by decide) ?_
  obtain ⟨r3, k4, hm⟩ := vv_bind hm
  refine rr_callS (q := 16) (M' := mm_J7_fill_53178) (As := [.ref (vv_ad x 173), .int (-1 : Int32)]) (st := []) (w := none)  (cc_J7_fill_53178 ylC_173 ynC_173 k4) rfl vy_J7_fill_53178 zw_350 ⟨Nat.le_of_ble_eq_true rfl, Nat.le_of_ble_eq_true rfl⟩ (Nat.le_of_ble_eq_true rfl) dX3_dressable_13 rfl ?_
  show vv_V x vv_TC mm_X3_dressable post 16 [some (.ref (vv_ad x 170)), some (.int v1), some (.long v2), none, none, none] [] r3
  refine rr_iconst (q := 17) (v := 0) dX3_dressable_16 rfl (by decide) ?_
  refine rr_istore (q := 19) [some (.ref (vv_ad x 170)), some (.int v1), some (.long v2), none, some (.int (0 : Int32)), none] dX3_dressable_17 rfl (Nat.le_of_ble_eq_true rfl) rfl rfl ?_
  refine rr_iload_n (q := 20) dX3_dressable_19 rfl rfl ?_
  refine rr_istore (q := 22) [some (.ref (vv_ad x 170)), some (.int v1), some (.long v2), none, some (.int (0 : Int32)), some (.int v1)] dX3_dressable_20 rfl (Nat.le_of_ble_eq_true rfl) rfl rfl ?_
  refine rr_sub [true, false, true, false, true, true] rfl ?_
  obtain ⟨r11, k13, hm⟩ := vv_bind hm
  refine vv_lp_link (P := fun (zs : Int32 × Int32 × vv_H) => vv_V x vv_TC mm_X3_dressable post 22 [some (.ref (vv_ad x 170)), none, some (.long v2), none, some (.int zs.1), some (.int zs.2.1)] [] zs.2.2) (Q := (fun (e12 : (Int32 × vv_H)) => vv_V x vv_TC mm_X3_dressable post 57 [none, none, none, none, some (.int e12.1), none] [] e12.2)) (fun zs o hm hI hX => ?_) vv_F ((0 : Int32), v1, r3) r11 k13 ?_
  · exact vt_X3_dressable_B22   hm (fun z4 z5 zh e => hI (z4, z5, zh) e) (fun z4 zh e => hX (z4, zh) e)
  · generalize r11 = e12 at hm ⊢
    try dsimp only [Sum.elim_inl, Sum.elim_inr] at hm
    try dsimp only [Sum.elim_inl, Sum.elim_inr]
    refine rr_iload (q := 59) dX3_dressable_57 rfl rfl ?_
    obtain rfl := Option.some.inj hm
    exact rr_iret dX3_dressable_59 rfl hp
theorem cc_X3_dressable {x : vv_E} {h : vv_H} {v1 : Int32} {v2 : Int64} {o : Int32 × vv_H}  (hm : ff_X3_dressable h v1 v2 = some o) : vv_C x vv_TC yX3_dressable mm_X3_dressable [.ref (vv_ad x 170), .int v1, .long v2] h (fun v g => v = some (.int o.1) ∧ g = o.2) := vv_entry (by decide +kernel) rfl (Nat.le_of_ble_eq_true rfl) rfl (vt_X3_dressable  hm ⟨rfl, rfl⟩)
def ff_X4_takeOff (h : vv_H) (v1 : Int32) (v2 : Int32) : Option (vv_H) := (ff_X4_wornBy h v1 v2).bind (fun r1 => vv_ck v1 36 (vv_let (vv_iu h 166 v1.toNatClampNeg r1) (fun g4 => vv_ck v1 36 (vv_let (vv_iu g4 161 v1.toNatClampNeg (-4 : Int32)) (fun g7 => some g7)))))
set_option maxHeartbeats 200000 in
theorem vt_X4_takeOff {x : vv_E} {post : Option Value → vv_H → Prop} {h : vv_H} {v1 : Int32} {v2 : Int32} {o : vv_H}  (hm : ff_X4_takeOff  h v1 v2 = some o) (hp : post none o) : vv_V x vv_TC mm_X4_takeOff post 0 [some (.ref (vv_ad x 156)), some (.int v1), some (.int v2)] [] h := by
  unfold ff_X4_takeOff at hm
  refine rr_aload_n (q := 1) dX4_takeOff_0 rfl rfl ?_
  refine gf_X4_39 (q := 4) rfl dX4_takeOff_1 rfl ?_
  refine rr_iload_n (q := 5) dX4_takeOff_4 rfl rfl ?_
  refine rr_aload_n (q := 6) dX4_takeOff_5 rfl rfl ?_
  refine rr_iload_n (q := 7) dX4_takeOff_6 rfl rfl ?_
  refine rr_iload_n (q := 8) dX4_takeOff_7 rfl rfl ?_
  obtain ⟨r1, k2, hm⟩ := vv_bind hm
  refine rr_callV (q := 11) (M' := mm_X4_wornBy) (As := [.int v1, .int v2]) (st := [.int v1, .ref (vv_ad x 166)]) (w := some (.int r1)) (cc_X4_wornBy  k2) rfl ylC_156 ynC_156 rfl vy_X4_wornBy zw_360 ⟨Nat.le_of_ble_eq_true rfl, Nat.le_of_ble_eq_true rfl⟩ (Nat.le_of_ble_eq_true rfl) dX4_takeOff_8 rfl ?_
  show vv_V x vv_TC mm_X4_takeOff post 11 [some (.ref (vv_ad x 156)), some (.int v1), some (.int v2)] [.int r1, .int v1, .ref (vv_ad x 166)] h
  obtain ⟨c3, hm⟩ := vv_ck_of hm
  obtain ⟨g4, c5, hm⟩ := vv_let_of hm
  refine rr_iast (q := 12) ylC_166 ynC_166 c3 dX4_takeOff_11 rfl ?_
  rw [← c5]
  refine rr_aload_n (q := 13) dX4_takeOff_12 rfl rfl ?_
  refine gf_X4_24 (q := 16) rfl dX4_takeOff_13 rfl ?_
  refine rr_iload_n (q := 17) dX4_takeOff_16 rfl rfl ?_
  refine rr_bipush (q := 19) (v := -4) dX4_takeOff_17 rfl (by decide) ?_
  obtain ⟨c6, hm⟩ := vv_ck_of hm
  obtain ⟨g7, c8, hm⟩ := vv_let_of hm
  refine rr_iast (q := 20) ylC_161 ynC_161 c6 dX4_takeOff_19 rfl ?_
  rw [← c8]
  obtain rfl := Option.some.inj hm
  exact rr_vret dX4_takeOff_20 rfl hp
theorem cc_X4_takeOff {x : vv_E} {h : vv_H} {v1 : Int32} {v2 : Int32} {o : vv_H}  (hm : ff_X4_takeOff h v1 v2 = some o) : vv_C x vv_TC yX4_takeOff mm_X4_takeOff [.ref (vv_ad x 156), .int v1, .int v2] h (fun v g => v = none ∧ g = o) := vv_entry (by decide +kernel) rfl (Nat.le_of_ble_eq_true rfl) rfl (vt_X4_takeOff  hm ⟨rfl, rfl⟩)
def ff_X5_takeNumber_J46  (h : vv_H) : Option (Int32 × vv_H) := (ff_X10_placeAt h (h.1 55 2)).bind (fun r7 => (ff_X5_refuse h (3 : Int32) r7).bind (fun r9 => vv_zk r9.1 (some (r9.1, r9.2))))
def ff_X5_takeNumber (h : vv_H) (v2 : Int32) (v3 : Int32) : Option (Int32 × vv_H) := (ff_X10_tokenAt h (h.1 55 2)).bind (fun r1 => (if r1 = (2 : Int32) then (ff_X10_valueAt h (h.1 55 2)).bind (fun r3 => vv_let (vv_iu h 55 3 r3) (fun g5 => (if (g5.1 55 3) < v2 then ff_X5_takeNumber_J46  g5 else (if (g5.1 55 3) ≤ v3 then vv_let (vv_iu g5 55 2 ((g5.1 55 2) + (1 : Int32))) (fun g12 => some ((1 : Int32), g12)) else ff_X5_takeNumber_J46  g5)))) else (ff_X5_refuseToken h).bind (fun r14 => vv_zk r14.1 (some (r14.1, r14.2)))))
set_option maxHeartbeats 200000 in
theorem vt_X5_takeNumber_J46 {x : vv_E} {post : Option Value → vv_H → Prop}   {h : vv_H} {o : Int32 × vv_H}  (hm : ff_X5_takeNumber_J46  h = some o) (hp : post (some (.int o.1)) o.2) : vv_V x vv_TC mm_X5_takeNumber post 46 [some (.ref (vv_ad x 55)), some (.ref (vv_ad x 50)), none, none] [] h := by
  unfold ff_X5_takeNumber_J46 at hm
  refine rr_aload_n (q := 47) dX5_takeNumber_46 rfl rfl ?_
  refine rr_iconst (q := 48) (v := 3) dX5_takeNumber_47 rfl (by decide) ?_
  refine rr_aload_n (q := 49) dX5_takeNumber_48 rfl rfl ?_
  refine rr_aload_n (q := 50) dX5_takeNumber_49 rfl rfl ?_
  refine gf_X5_18 (q := 53) rfl dX5_takeNumber_50 rfl ?_
  obtain ⟨r7, k8, hm⟩ := vv_bind hm
  refine rr_callV (q := 56) (M' := mm_X10_placeAt) (As := [.int (h.1 55 2)]) (st := [.int (3 : Int32), .ref (vv_ad x 55)]) (w := some (.int r7)) (cc_X10_placeAt  k8) rfl ylC_50 ynC_50 rfl vy_X10_placeAt zw_183 ⟨Nat.le_of_ble_eq_true rfl, Nat.le_of_ble_eq_true rfl⟩ (Nat.le_of_ble_eq_true rfl) dX5_takeNumber_53 rfl ?_
  show vv_V x vv_TC mm_X5_takeNumber post 56 [some (.ref (vv_ad x 55)), some (.ref (vv_ad x 50)), none, none] [.int r7, .int (3 : Int32), .ref (vv_ad x 55)] h
  obtain ⟨r9, k10, hm⟩ := vv_bind hm
  refine rr_callV (q := 59) (M' := mm_X5_refuse) (As := [.int (3 : Int32), .int r7]) (st := []) (w := some (.int r9.1)) (cc_X5_refuse  k10) rfl ylC_55 ynC_55 rfl vy_X5_refuse zw_188 ⟨Nat.le_of_ble_eq_true rfl, Nat.le_of_ble_eq_true rfl⟩ (Nat.le_of_ble_eq_true rfl) dX5_takeNumber_56 rfl ?_
  show vv_V x vv_TC mm_X5_takeNumber post 59 [some (.ref (vv_ad x 55)), some (.ref (vv_ad x 50)), none, none] [.int r9.1] r9.2
  obtain ⟨c11, hm⟩ := vv_zk_of hm
  obtain rfl := Option.some.inj hm
  exact rr_zret dX5_takeNumber_59 rfl c11 hp
set_option maxHeartbeats 200000 in
theorem vt_X5_takeNumber {x : vv_E} {post : Option Value → vv_H → Prop} {h : vv_H} {v2 : Int32} {v3 : Int32} {o : Int32 × vv_H}  (hm : ff_X5_takeNumber  h v2 v3 = some o) (hp : post (some (.int o.1)) o.2) : vv_V x vv_TC mm_X5_takeNumber post 0 [some (.ref (vv_ad x 55)), some (.ref (vv_ad x 50)), some (.int v2), some (.int v3)] [] h := by
  unfold ff_X5_takeNumber at hm
  refine rr_aload_n (q := 1) dX5_takeNumber_0 rfl rfl ?_
  refine rr_aload_n (q := 2) dX5_takeNumber_1 rfl rfl ?_
  refine gf_X5_18 (q := 5) rfl dX5_takeNumber_2 rfl ?_
  obtain ⟨r1, k2, hm⟩ := vv_bind hm
  refine rr_callV (q := 8) (M' := mm_X10_tokenAt) (As := [.int (h.1 55 2)]) (st := []) (w := some (.int r1)) (cc_X10_tokenAt  k2) rfl ylC_50 ynC_50 rfl vy_X10_tokenAt zw_178 ⟨Nat.le_of_ble_eq_true rfl, Nat.le_of_ble_eq_true rfl⟩ (Nat.le_of_ble_eq_true rfl) dX5_takeNumber_5 rfl ?_
  show vv_V x vv_TC mm_X5_takeNumber post 8 [some (.ref (vv_ad x 55)), some (.ref (vv_ad x 50)), some (.int v2), some (.int v3)] [.int r1] h
  refine rr_iconst (q := 9) (v := 2) dX5_takeNumber_8 rfl (by decide) ?_
  refine rr_icmp_eq (q := 12) (tgt := 18) dX5_takeNumber_9 (by decide) rfl hm (fun hm => ?_) (fun hm => ?_)
  · refine rr_aload_n (q := 19) dX5_takeNumber_18 rfl rfl ?_
    refine rr_aload_n (q := 20) dX5_takeNumber_19 rfl rfl ?_
    refine rr_aload_n (q := 21) dX5_takeNumber_20 rfl rfl ?_
    refine gf_X5_18 (q := 24) rfl dX5_takeNumber_21 rfl ?_
    obtain ⟨r3, k4, hm⟩ := vv_bind hm
    refine rr_callV (q := 27) (M' := mm_X10_valueAt) (As := [.int (h.1 55 2)]) (st := [.ref (vv_ad x 55)]) (w := some (.int r3)) (cc_X10_valueAt  k4) rfl ylC_50 ynC_50 rfl vy_X10_valueAt zw_365 ⟨Nat.le_of_ble_eq_true rfl, Nat.le_of_ble_eq_true rfl⟩ (Nat.le_of_ble_eq_true rfl) dX5_takeNumber_24 rfl ?_
    show vv_V x vv_TC mm_X5_takeNumber post 27 [some (.ref (vv_ad x 55)), some (.ref (vv_ad x 50)), some (.int v2), some (.int v3)] [.int r3, .ref (vv_ad x 55)] h
    refine pf_X5_51 (q := 30) rfl dX5_takeNumber_27 rfl (fun g5 c6 => ?_)
    replace hm := vv_letE hm c6
    refine rr_aload_n (q := 31) dX5_takeNumber_30 rfl rfl ?_
    refine gf_X5_51 (q := 34) rfl dX5_takeNumber_31 rfl ?_
    refine rr_iload_n (q := 35) dX5_takeNumber_34 rfl rfl ?_
    refine rr_icmp_lt (q := 38) (tgt := 46) dX5_takeNumber_35 (by decide) rfl hm (fun hm => ?_) (fun hm => ?_)
    · refine rr_sub [true, true, false, false] rfl ?_
      exact vt_X5_takeNumber_J46  hm hp
    · refine rr_aload_n (q := 39) dX5_takeNumber_38 rfl rfl ?_
      refine gf_X5_51 (q := 42) rfl dX5_takeNumber_39 rfl ?_
      refine rr_iload_n (q := 43) dX5_takeNumber_42 rfl rfl ?_
      refine rr_icmp_le (q := 46) (tgt := 60) dX5_takeNumber_43 (by decide) rfl hm (fun hm => ?_) (fun hm => ?_)
      · refine rr_aload_n (q := 61) dX5_takeNumber_60 rfl rfl ?_
        refine rr_dup (q := 62) dX5_takeNumber_61 rfl rfl ?_
        refine gf_X5_18 (q := 65) rfl dX5_takeNumber_62 rfl ?_
        refine rr_iconst (q := 66) (v := 1) dX5_takeNumber_65 rfl (by decide) ?_
        refine rr_iadd (q := 67) dX5_takeNumber_66 rfl ?_
        refine pf_X5_18 (q := 70) rfl dX5_takeNumber_67 rfl (fun g12 c13 => ?_)
        replace hm := vv_letE hm c13
        refine rr_iconst (q := 71) (v := 1) dX5_takeNumber_70 rfl (by decide) ?_
        obtain rfl := Option.some.inj hm
        exact rr_zret dX5_takeNumber_71 rfl rfl hp
      · refine rr_sub [true, true, false, false] rfl ?_
        exact vt_X5_takeNumber_J46  hm hp
  · refine rr_aload_n (q := 13) dX5_takeNumber_12 rfl rfl ?_
    refine rr_aload_n (q := 14) dX5_takeNumber_13 rfl rfl ?_
    obtain ⟨r14, k15, hm⟩ := vv_bind hm
    refine rr_callV (q := 17) (M' := mm_X5_refuseToken) (As := [.ref (vv_ad x 50)]) (st := []) (w := some (.int r14.1)) (cc_X5_refuseToken  k15) rfl ylC_55 ynC_55 rfl vy_X5_refuseToken zw_371 ⟨Nat.le_of_ble_eq_true rfl, Nat.le_of_ble_eq_true rfl⟩ (Nat.le_of_ble_eq_true rfl) dX5_takeNumber_14 rfl ?_
    show vv_V x vv_TC mm_X5_takeNumber post 17 [some (.ref (vv_ad x 55)), some (.ref (vv_ad x 50)), some (.int v2), some (.int v3)] [.int r14.1] r14.2
    obtain ⟨c16, hm⟩ := vv_zk_of hm
    obtain rfl := Option.some.inj hm
    exact rr_zret dX5_takeNumber_17 rfl c16 hp
theorem cc_X5_takeNumber {x : vv_E} {h : vv_H} {v2 : Int32} {v3 : Int32} {o : Int32 × vv_H}  (hm : ff_X5_takeNumber h v2 v3 = some o) : vv_C x vv_TC yX5_takeNumber mm_X5_takeNumber [.ref (vv_ad x 55), .ref (vv_ad x 50), .int v2, .int v3] h (fun v g => v = some (.int o.1) ∧ g = o.2) := vv_entry (by decide +kernel) rfl (Nat.le_of_ble_eq_true rfl) rfl (vt_X5_takeNumber  hm ⟨rfl, rfl⟩)
