def ff_X12_hasOf_B5 (u1 : Int32) (u2 : Int32) (h : vv_H) (s3 : Int32) (s4 : Int32) : Option ((Int32 × Int32) ⊕ ((Int32))) := (if (h.1 0 44) ≤ s4 then some (.inr s3) else vv_ck s4 36 ((if (h.1 33 s4.toNatClampNeg) = u1 then (ff_X12_kindAt h s4).bind (fun r4 => (if r4 = u2 then (ff_X12_isWornOut h s4).bind (fun r8 => (if r8 = 0 then vv_let (s4 + 1) (fun w12 => some (.inl ((s3 + (1 : Int32)), w12))) else vv_let (s4 + 1) (fun w10 => some (.inl ((s3 + (0 : Int32)), w10))))) else vv_let (s4 + 1) (fun w6 => some (.inl ((s3 + (0 : Int32)), w6))))) else vv_let (s4 + 1) (fun w2 => some (.inl ((s3 + (0 : Int32)), w2))))))
def ff_X12_hasOf (h : vv_H) (v1 : Int32) (v2 : Int32) : Option (Int32) := (vv_lp (fun (zs : Int32 × Int32) => ff_X12_hasOf_B5  v1 v2 h zs.1 zs.2) vv_F ((0 : Int32), (0 : Int32))).bind (fun (e15 : (Int32)) => some e15)
set_option maxHeartbeats 200000 in
theorem vt_X12_hasOf_B5 {x : vv_E} {post : Option Value → vv_H → Prop} {u1 : Int32} {u2 : Int32} {h : vv_H} {s3 : Int32} {s4 : Int32} {o : (Int32 × Int32) ⊕ ((Int32))}  (hm : ff_X12_hasOf_B5  u1 u2 h s3 s4 = some o) (hI : ∀ (z3 : Int32) (z4 : Int32) , o = .inl (z3, z4) → vv_V x vv_TR mm_X12_hasOf post 5 [some (.ref (vv_ad x 0)), some (.int u1), some (.int u2), some (.int z3), some (.int z4)] [] h) (hX0 : ∀ (z3 : Int32), o = .inr z3 → vv_V x vv_TR mm_X12_hasOf post 58 [none, none, none, some (.int z3), none] [] h) : vv_V x vv_TR mm_X12_hasOf post 5 [some (.ref (vv_ad x 0)), some (.int u1), some (.int u2), some (.int s3), some (.int s4)] [] h := by
  unfold ff_X12_hasOf_B5 at hm
  refine rr_iload (q := 7) dX12_hasOf_5 rfl rfl ?_
  refine rr_aload_n (q := 8) dX12_hasOf_7 rfl rfl ?_
  refine gf_X12_232 (q := 11) rfl dX12_hasOf_8 rfl ?_
  refine rr_icmp_ge (q := 14) (tgt := 58) dX12_hasOf_11 (by decide) rfl hm (fun hm => ?_) (fun hm => ?_)
  · obtain rfl := Option.some.inj hm
    refine rr_sub [false, false, false, true, false] rfl ?_
    exact hX0 s3 rfl
  · refine rr_iload_n (q := 15) dX12_hasOf_14 rfl rfl ?_
    refine rr_aload_n (q := 16) dX12_hasOf_15 rfl rfl ?_
    refine gf_X12_106 (q := 19) rfl dX12_hasOf_16 rfl ?_
    refine rr_iload (q := 21) dX12_hasOf_19 rfl rfl ?_
    obtain ⟨c1, hm⟩ := vv_ck_of hm
    refine rr_iald (q := 22) ylR_33 ynR_33 c1 dX12_hasOf_21 rfl ?_
    refine rr_iload_n (q := 23) dX12_hasOf_22 rfl rfl ?_
    refine rr_icmp_ne (q := 26) (tgt := 49) dX12_hasOf_23 (by decide) rfl hm (fun hm => ?_) (fun hm => ?_)
    · refine rr_iconst (q := 50) (v := 0) dX12_hasOf_49 rfl (by decide) ?_
      refine rr_iadd (q := 51) dX12_hasOf_50 rfl ?_
      refine rr_istore_n (q := 52) [some (.ref (vv_ad x 0)), some (.int u1), some (.int u2), some (.int (s3 + (0 : Int32))), some (.int s4)] dX12_hasOf_51 rfl rfl (Nat.le_of_ble_eq_true rfl) rfl rfl ?_
      obtain ⟨w2, c3, hm⟩ := vv_let_of hm
      refine rr_iinc (q := 55) [some (.ref (vv_ad x 0)), some (.int u1), some (.int u2), some (.int (s3 + (0 : Int32))), some (.int w2)] dX12_hasOf_52 rfl rfl c3.symm (Nat.le_of_ble_eq_true rfl) rfl rfl ?_
      refine rr_goto (tgt := 5) dX12_hasOf_55 (by decide) ?_
      obtain rfl := Option.some.inj hm
      exact hI (s3 + (0 : Int32)) w2 rfl
    · refine rr_aload_n (q := 27) dX12_hasOf_26 rfl rfl ?_
      refine rr_iload (q := 29) dX12_hasOf_27 rfl rfl ?_
      obtain ⟨r4, k5, hm⟩ := vv_bind hm
      refine rr_callV (q := 32) (M' := mm_X12_kindAt) (As := [.int s4]) (st := [.int s3]) (w := some (.int r4)) (cc_X12_kindAt  k5) rfl ylR_0 ynR_0 rfl vy_X12_kindAt zw_306 ⟨Nat.le_of_ble_eq_true rfl, Nat.le_of_ble_eq_true rfl⟩ (Nat.le_of_ble_eq_true rfl) dX12_hasOf_29 rfl ?_
      show vv_V x vv_TR mm_X12_hasOf post 32 [some (.ref (vv_ad x 0)), some (.int u1), some (.int u2), some (.int s3), some (.int s4)] [.int r4, .int s3] h
      refine rr_iload_n (q := 33) dX12_hasOf_32 rfl rfl ?_
      refine rr_icmp_ne (q := 36) (tgt := 49) dX12_hasOf_33 (by decide) rfl hm (fun hm => ?_) (fun hm => ?_)
      · refine rr_iconst (q := 50) (v := 0) dX12_hasOf_49 rfl (by decide) ?_
        refine rr_iadd (q := 51) dX12_hasOf_50 rfl ?_
        refine rr_istore_n (q := 52) [some (.ref (vv_ad x 0)), some (.int u1), some (.int u2), some (.int (s3 + (0 : Int32))), some (.int s4)] dX12_hasOf_51 rfl rfl (Nat.le_of_ble_eq_true rfl) rfl rfl ?_
        obtain ⟨w6, c7, hm⟩ := vv_let_of hm
        refine rr_iinc (q := 55) [some (.ref (vv_ad x 0)), some (.int u1), some (.int u2), some (.int (s3 + (0 : Int32))), some (.int w6)] dX12_hasOf_52 rfl rfl c7.symm (Nat.le_of_ble_eq_true rfl) rfl rfl ?_
        refine rr_goto (tgt := 5) dX12_hasOf_55 (by decide) ?_
        obtain rfl := Option.some.inj hm
        exact hI (s3 + (0 : Int32)) w6 rfl
      · refine rr_aload_n (q := 37) dX12_hasOf_36 rfl rfl ?_
        refine rr_iload (q := 39) dX12_hasOf_37 rfl rfl ?_
        obtain ⟨r8, k9, hm⟩ := vv_bind hm
        refine rr_callV (q := 42) (M' := mm_X12_isWornOut) (As := [.int s4]) (st := [.int s3]) (w := some (.int r8)) (cc_X12_isWornOut  k9) rfl ylR_0 ynR_0 rfl vy_X12_isWornOut zw_590 ⟨Nat.le_of_ble_eq_true rfl, Nat.le_of_ble_eq_true rfl⟩ (Nat.le_of_ble_eq_true rfl) dX12_hasOf_39 rfl ?_
        show vv_V x vv_TR mm_X12_hasOf post 42 [some (.ref (vv_ad x 0)), some (.int u1), some (.int u2), some (.int s3), some (.int s4)] [.int r8, .int s3] h
        refine rr_if_ne (q := 45) (tgt := 49) dX12_hasOf_42 (by decide) rfl hm (fun hm => ?_) (fun hm => ?_)
        · refine rr_iconst (q := 50) (v := 0) dX12_hasOf_49 rfl (by decide) ?_
          refine rr_iadd (q := 51) dX12_hasOf_50 rfl ?_
          refine rr_istore_n (q := 52) [some (.ref (vv_ad x 0)), some (.int u1), some (.int u2), some (.int (s3 + (0 : Int32))), some (.int s4)] dX12_hasOf_51 rfl rfl (Nat.le_of_ble_eq_true rfl) rfl rfl ?_
          obtain ⟨w10, c11, hm⟩ := vv_let_of hm
          refine rr_iinc (q := 55) [some (.ref (vv_ad x 0)), some (.int u1), some (.int u2), some (.int (s3 + (0 : Int32))), some (.int w10)] dX12_hasOf_52 rfl rfl c11.symm (Nat.le_of_ble_eq_true rfl) rfl rfl ?_
          refine rr_goto (tgt := 5) dX12_hasOf_55 (by decide) ?_
          obtain rfl := Option.some.inj hm
          exact hI (s3 + (0 : Int32)) w10 rfl
        · refine rr_iconst (q := 46) (v := 1) dX12_hasOf_45 rfl (by decide) ?_
          refine rr_goto (tgt := 50) dX12_hasOf_46 (by decide) ?_
          refine rr_iadd (q := 51) dX12_hasOf_50 rfl ?_
          refine rr_istore_n (q := 52) [some (.ref (vv_ad x 0)), some (.int u1), some (.int u2), some (.int (s3 + (1 : Int32))), some (.int s4)] dX12_hasOf_51 rfl rfl (Nat.le_of_ble_eq_true rfl) rfl rfl ?_
          obtain ⟨w12, c13, hm⟩ := vv_let_of hm
          refine rr_iinc (q := 55) [some (.ref (vv_ad x 0)), some (.int u1), some (.int u2), some (.int (s3 + (1 : Int32))), some (.int w12)] dX12_hasOf_52 rfl rfl c13.symm (Nat.le_of_ble_eq_true rfl) rfl rfl ?_
          refine rr_goto (tgt := 5) dX12_hasOf_55 (by decide) ?_
          obtain rfl := Option.some.inj hm
          exact hI (s3 + (1 : Int32)) w12 rfl
set_option maxHeartbeats 200000 in
theorem vt_X12_hasOf {x : vv_E} {post : Option Value → vv_H → Prop} {h : vv_H} {v1 : Int32} {v2 : Int32} {o : Int32}  (hm : ff_X12_hasOf  h v1 v2 = some o) (hp : post (some (.int o)) h) : vv_V x vv_TR mm_X12_hasOf post 0 [some (.ref (vv_ad x 0)), some (.int v1), some (.int v2), none, none] [] h := by
  unfold ff_X12_hasOf at hm
  refine rr_iconst (q := 1) (v := 0) dX12_hasOf_0 rfl (by decide) ?_
  refine rr_istore_n (q := 2) [some (.ref (vv_ad x 0)), some (.int v1), some (.int v2), some (.int (0 : Int32)), none] dX12_hasOf_1 rfl rfl (Nat.le_of_ble_eq_true rfl) rfl rfl ?_
  refine rr_iconst (q := 3) (v := 0) dX12_hasOf_2 rfl (by decide) ?_
  refine rr_istore (q := 5) [some (.ref (vv_ad x 0)), some (.int v1), some (.int v2), some (.int (0 : Int32)), some (.int (0 : Int32))] dX12_hasOf_3 rfl (Nat.le_of_ble_eq_true rfl) rfl rfl ?_
  obtain ⟨r14, k16, hm⟩ := vv_bind hm
  refine vv_lp_link (P := fun (zs : Int32 × Int32) => vv_V x vv_TR mm_X12_hasOf post 5 [some (.ref (vv_ad x 0)), some (.int v1), some (.int v2), some (.int zs.1), some (.int zs.2)] [] h) (Q := (fun (e15 : (Int32)) => vv_V x vv_TR mm_X12_hasOf post 58 [none, none, none, some (.int e15), none] [] h)) (fun zs o hm hI hX => ?_) vv_F ((0 : Int32), (0 : Int32)) r14 k16 ?_
  · exact vt_X12_hasOf_B5   hm (fun z3 z4 e => hI (z3, z4) e) (fun z3 e => hX z3 e)
  · generalize r14 = e15 at hm ⊢
    try dsimp only [Sum.elim_inl, Sum.elim_inr] at hm
    try dsimp only [Sum.elim_inl, Sum.elim_inr]
    refine rr_iload_n (q := 59) dX12_hasOf_58 rfl rfl ?_
    obtain rfl := Option.some.inj hm
    exact rr_iret dX12_hasOf_59 rfl hp
theorem cc_X12_hasOf {x : vv_E} {h : vv_H} {v1 : Int32} {v2 : Int32} {o : Int32}  (hm : ff_X12_hasOf h v1 v2 = some o) : vv_C x vv_TR yX12_hasOf mm_X12_hasOf [.ref (vv_ad x 0), .int v1, .int v2] h (fun v g => v = some (.int o) ∧ g = h) := vv_entry (by decide +kernel) rfl (Nat.le_of_ble_eq_true rfl) rfl (vt_X12_hasOf  hm ⟨rfl, rfl⟩)
def ff_X12_pieceOf (h : vv_H) (v1 : Int32) (v2 : Int32) : Option (Int32) := (ff_X12_isPiece h v1).bind (fun r1 => (if r1 = 0 then some (-1 : Int32) else (if v2 = 0 then vv_ck v1 36 (some (h.1 29 v1.toNatClampNeg)) else (if v2 = 1 then vv_ck v1 36 (some (h.1 30 v1.toNatClampNeg)) else (if v2 = 2 then vv_ck v1 36 (some (h.1 31 v1.toNatClampNeg)) else (if v2 = 3 then vv_ck v1 36 (some (h.1 32 v1.toNatClampNeg)) else (if v2 = 4 then vv_ck v1 36 (some (h.1 33 v1.toNatClampNeg)) else (if v2 = 5 then (ff_X12_wornOf h v1).bind (fun r8 => some r8) else (if v2 = 6 then vv_ck v1 36 (some (h.1 36 v1.toNatClampNeg)) else (if v2 = 7 then vv_ck v1 36 (some (h.1 37 v1.toNatClampNeg)) else (if v2 = 8 then vv_ck v1 36 (some (h.1 38 v1.toNatClampNeg)) else some (-1 : Int32))))))))))))
set_option maxHeartbeats 200000 in
theorem vt_X12_pieceOf {x : vv_E} {post : Option Value → vv_H → Prop} {h : vv_H} {v1 : Int32} {v2 : Int32} {o : Int32}  (hm : ff_X12_pieceOf  h v1 v2 = some o) (hp : post (some (.int o)) h) : vv_V x vv_TR mm_X12_pieceOf post 0 [some (.ref (vv_ad x 0)), some (.int v1), some (.int v2)] [] h := by
  unfold ff_X12_pieceOf at hm
  refine rr_aload_n (q := 1) dX12_pieceOf_0 rfl rfl ?_
  refine rr_iload_n (q := 2) dX12_pieceOf_1 rfl rfl ?_
  obtain ⟨r1, k2, hm⟩ := vv_bind hm
  refine rr_callV (q := 5) (M' := mm_X12_isPiece) (As := [.int v1]) (st := []) (w := some (.int r1)) (cc_X12_isPiece  k2) rfl ylR_0 ynR_0 rfl vy_X12_isPiece zw_595 ⟨Nat.le_of_ble_eq_true rfl, Nat.le_of_ble_eq_true rfl⟩ (Nat.le_of_ble_eq_true rfl) dX12_pieceOf_2 rfl ?_
  show vv_V x vv_TR mm_X12_pieceOf post 5 [some (.ref (vv_ad x 0)), some (.int v1), some (.int v2)] [.int r1] h
  refine rr_if_ne (q := 8) (tgt := 10) dX12_pieceOf_5 (by decide) rfl hm (fun hm => ?_) (fun hm => ?_)
  · refine rr_iload_n (q := 11) dX12_pieceOf_10 rfl rfl ?_
    by_cases c0s : v2 = (0 : Int32)
    · rw [if_pos c0s] at hm
      refine rr_tswI (tgt := 60) dX12_pieceOf_11 (by rw [c0s]; decide) (by rw [c0s]; decide) (by rw [c0s]; rfl) (by decide) ?_
      refine rr_aload_n (q := 61) dX12_pieceOf_60 rfl rfl ?_
      refine gf_X12_94 (q := 64) rfl dX12_pieceOf_61 rfl ?_
      refine rr_iload_n (q := 65) dX12_pieceOf_64 rfl rfl ?_
      obtain ⟨c3, hm⟩ := vv_ck_of hm
      refine rr_iald (q := 66) ylR_29 ynR_29 c3 dX12_pieceOf_65 rfl ?_
      obtain rfl := Option.some.inj hm
      exact rr_iret dX12_pieceOf_66 rfl hp
    · rw [if_neg c0s] at hm
      by_cases c1s : v2 = (1 : Int32)
      · rw [if_pos c1s] at hm
        refine rr_tswI (tgt := 67) dX12_pieceOf_11 (by rw [c1s]; decide) (by rw [c1s]; decide) (by rw [c1s]; rfl) (by decide) ?_
        refine rr_aload_n (q := 68) dX12_pieceOf_67 rfl rfl ?_
        refine gf_X12_97 (q := 71) rfl dX12_pieceOf_68 rfl ?_
        refine rr_iload_n (q := 72) dX12_pieceOf_71 rfl rfl ?_
        obtain ⟨c4, hm⟩ := vv_ck_of hm
        refine rr_iald (q := 73) ylR_30 ynR_30 c4 dX12_pieceOf_72 rfl ?_
        obtain rfl := Option.some.inj hm
        exact rr_iret dX12_pieceOf_73 rfl hp
      · rw [if_neg c1s] at hm
        by_cases c2s : v2 = (2 : Int32)
        · rw [if_pos c2s] at hm
          refine rr_tswI (tgt := 74) dX12_pieceOf_11 (by rw [c2s]; decide) (by rw [c2s]; decide) (by rw [c2s]; rfl) (by decide) ?_
          refine rr_aload_n (q := 75) dX12_pieceOf_74 rfl rfl ?_
          refine gf_X12_100 (q := 78) rfl dX12_pieceOf_75 rfl ?_
          refine rr_iload_n (q := 79) dX12_pieceOf_78 rfl rfl ?_
          obtain ⟨c5, hm⟩ := vv_ck_of hm
          refine rr_iald (q := 80) ylR_31 ynR_31 c5 dX12_pieceOf_79 rfl ?_
          obtain rfl := Option.some.inj hm
          exact rr_iret dX12_pieceOf_80 rfl hp
        · rw [if_neg c2s] at hm
          by_cases c3s : v2 = (3 : Int32)
          · rw [if_pos c3s] at hm
            refine rr_tswI (tgt := 81) dX12_pieceOf_11 (by rw [c3s]; decide) (by rw [c3s]; decide) (by rw [c3s]; rfl) (by decide) ?_
            refine rr_aload_n (q := 82) dX12_pieceOf_81 rfl rfl ?_
            refine gf_X12_103 (q := 85) rfl dX12_pieceOf_82 rfl ?_
            refine rr_iload_n (q := 86) dX12_pieceOf_85 rfl rfl ?_
            obtain ⟨c6, hm⟩ := vv_ck_of hm
            refine rr_iald (q := 87) ylR_32 ynR_32 c6 dX12_pieceOf_86 rfl ?_
            obtain rfl := Option.some.inj hm
            exact rr_iret dX12_pieceOf_87 rfl hp
          · rw [if_neg c3s] at hm
            by_cases c4s : v2 = (4 : Int32)
            · rw [if_pos c4s] at hm
              refine rr_tswI (tgt := 88) dX12_pieceOf_11 (by rw [c4s]; decide) (by rw [c4s]; decide) (by rw [c4s]; rfl) (by decide) ?_
              refine rr_aload_n (q := 89) dX12_pieceOf_88 rfl rfl ?_
              refine gf_X12_106 (q := 92) rfl dX12_pieceOf_89 rfl ?_
              refine rr_iload_n (q := 93) dX12_pieceOf_92 rfl rfl ?_
              obtain ⟨c7, hm⟩ := vv_ck_of hm
              refine rr_iald (q := 94) ylR_33 ynR_33 c7 dX12_pieceOf_93 rfl ?_
              obtain rfl := Option.some.inj hm
              exact rr_iret dX12_pieceOf_94 rfl hp
            · rw [if_neg c4s] at hm
              by_cases c5s : v2 = (5 : Int32)
              · rw [if_pos c5s] at hm
                refine rr_tswI (tgt := 95) dX12_pieceOf_11 (by rw [c5s]; decide) (by rw [c5s]; decide) (by rw [c5s]; rfl) (by decide) ?_
                refine rr_aload_n (q := 96) dX12_pieceOf_95 rfl rfl ?_
                refine rr_iload_n (q := 97) dX12_pieceOf_96 rfl rfl ?_
                obtain ⟨r8, k9, hm⟩ := vv_bind hm
                refine rr_callV (q := 100) (M' := mm_X12_wornOf) (As := [.int v1]) (st := []) (w := some (.int r8)) (cc_X12_wornOf  k9) rfl ylR_0 ynR_0 rfl vy_X12_wornOf zw_301 ⟨Nat.le_of_ble_eq_true rfl, Nat.le_of_ble_eq_true rfl⟩ (Nat.le_of_ble_eq_true rfl) dX12_pieceOf_97 rfl ?_
                show vv_V x vv_TR mm_X12_pieceOf post 100 [some (.ref (vv_ad x 0)), some (.int v1), some (.int v2)] [.int r8] h
                obtain rfl := Option.some.inj hm
                exact rr_iret dX12_pieceOf_100 rfl hp
              · rw [if_neg c5s] at hm
                by_cases c6s : v2 = (6 : Int32)
                · rw [if_pos c6s] at hm
                  refine rr_tswI (tgt := 101) dX12_pieceOf_11 (by rw [c6s]; decide) (by rw [c6s]; decide) (by rw [c6s]; rfl) (by decide) ?_
                  refine rr_aload_n (q := 102) dX12_pieceOf_101 rfl rfl ?_
                  refine gf_X12_115 (q := 105) rfl dX12_pieceOf_102 rfl ?_
                  refine rr_iload_n (q := 106) dX12_pieceOf_105 rfl rfl ?_
                  obtain ⟨c10, hm⟩ := vv_ck_of hm
                  refine rr_iald (q := 107) ylR_36 ynR_36 c10 dX12_pieceOf_106 rfl ?_
                  obtain rfl := Option.some.inj hm
                  exact rr_iret dX12_pieceOf_107 rfl hp
                · rw [if_neg c6s] at hm
                  by_cases c7s : v2 = (7 : Int32)
                  · rw [if_pos c7s] at hm
                    refine rr_tswI (tgt := 108) dX12_pieceOf_11 (by rw [c7s]; decide) (by rw [c7s]; decide) (by rw [c7s]; rfl) (by decide) ?_
                    refine rr_aload_n (q := 109) dX12_pieceOf_108 rfl rfl ?_
                    refine gf_X12_118 (q := 112) rfl dX12_pieceOf_109 rfl ?_
                    refine rr_iload_n (q := 113) dX12_pieceOf_112 rfl rfl ?_
                    obtain ⟨c11, hm⟩ := vv_ck_of hm
                    refine rr_iald (q := 114) ylR_37 ynR_37 c11 dX12_pieceOf_113 rfl ?_
                    obtain rfl := Option.some.inj hm
                    exact rr_iret dX12_pieceOf_114 rfl hp
                  · rw [if_neg c7s] at hm
                    by_cases c8s : v2 = (8 : Int32)
                    · rw [if_pos c8s] at hm
                      refine rr_tswI (tgt := 115) dX12_pieceOf_11 (by rw [c8s]; decide) (by rw [c8s]; decide) (by rw [c8s]; rfl) (by decide) ?_
                      refine rr_aload_n (q := 116) dX12_pieceOf_115 rfl rfl ?_
                      refine gf_X12_121 (q := 119) rfl dX12_pieceOf_116 rfl ?_
                      refine rr_iload_n (q := 120) dX12_pieceOf_119 rfl rfl ?_
                      obtain ⟨c12, hm⟩ := vv_ck_of hm
                      refine rr_iald (q := 121) ylR_38 ynR_38 c12 dX12_pieceOf_120 rfl ?_
                      obtain rfl := Option.some.inj hm
                      exact rr_iret dX12_pieceOf_121 rfl hp
                    · rw [if_neg c8s] at hm
                      refine rr_tswO (tgt := 122) dX12_pieceOf_11 (by have y0 : v2.toInt ≠ 0 := fun e => c0s (Int32.toInt_inj.mp (e.trans (by decide))); have y1 : v2.toInt ≠ 1 := fun e => c1s (Int32.toInt_inj.mp (e.trans (by decide))); have y2 : v2.toInt ≠ 2 := fun e => c2s (Int32.toInt_inj.mp (e.trans (by decide))); have y3 : v2.toInt ≠ 3 := fun e => c3s (Int32.toInt_inj.mp (e.trans (by decide))); have y4 : v2.toInt ≠ 4 := fun e => c4s (Int32.toInt_inj.mp (e.trans (by decide))); have y5 : v2.toInt ≠ 5 := fun e => c5s (Int32.toInt_inj.mp (e.trans (by decide))); have y6 : v2.toInt ≠ 6 := fun e => c6s (Int32.toInt_inj.mp (e.trans (by decide))); have y7 : v2.toInt ≠ 7 := fun e => c7s (Int32.toInt_inj.mp (e.trans (by decide))); have y8 : v2.toInt ≠ 8 := fun e => c8s (Int32.toInt_inj.mp (e.trans (by decide))); omega) (by decide) ?_
                      refine rr_iconst (q := 123) (v := -1) dX12_pieceOf_122 rfl (by decide) ?_
                      obtain rfl := Option.some.inj hm
                      exact rr_iret dX12_pieceOf_123 rfl hp
  · refine rr_iconst (q := 9) (v := -1) dX12_pieceOf_8 rfl (by decide) ?_
    obtain rfl := Option.some.inj hm
    exact rr_iret dX12_pieceOf_9 rfl hp
theorem cc_X12_pieceOf {x : vv_E} {h : vv_H} {v1 : Int32} {v2 : Int32} {o : Int32}  (hm : ff_X12_pieceOf h v1 v2 = some o) : vv_C x vv_TR yX12_pieceOf mm_X12_pieceOf [.ref (vv_ad x 0), .int v1, .int v2] h (fun v g => v = some (.int o) ∧ g = h) := vv_entry (by decide +kernel) rfl (Nat.le_of_ble_eq_true rfl) rfl (vt_X12_pieceOf  hm ⟨rfl, rfl⟩)
def ff_X12_back (h : vv_H) (v1 : Int32) (v2 : Int32) : Option (Int32 × vv_H) := (ff_X12_isPiece h v1).bind (fun r1 => (if r1 = 0 then some ((-1 : Int32), h) else (ff_X12_isStore h v2).bind (fun r3 => (if r3 = 0 then some ((-1 : Int32), h) else vv_ck v1 36 ((if (h.1 33 v1.toNatClampNeg) = (-4 : Int32) then some ((-2 : Int32), h) else (ff_X12_leaves h v1).bind (fun r6 => vv_ck v1 36 (vv_let (vv_iu r6 32 v1.toNatClampNeg v2) (fun g9 => vv_ck v1 36 (some ((g9.1 35 v1.toNatClampNeg), g9)))))))))))
set_option maxHeartbeats 200000 in
theorem vt_X12_back {x : vv_E} {post : Option Value → vv_H → Prop} {h : vv_H} {v1 : Int32} {v2 : Int32} {o : Int32 × vv_H}  (hm : ff_X12_back  h v1 v2 = some o) (hp : post (some (.int o.1)) o.2) : vv_V x vv_TR mm_X12_back post 0 [some (.ref (vv_ad x 0)), some (.int v1), some (.int v2)] [] h := by
  unfold ff_X12_back at hm
  refine rr_aload_n (q := 1) dX12_back_0 rfl rfl ?_
  refine rr_iload_n (q := 2) dX12_back_1 rfl rfl ?_
  obtain ⟨r1, k2, hm⟩ := vv_bind hm
  refine rr_callV (q := 5) (M' := mm_X12_isPiece) (As := [.int v1]) (st := []) (w := some (.int r1)) (cc_X12_isPiece  k2) rfl ylR_0 ynR_0 rfl vy_X12_isPiece zw_595 ⟨Nat.le_of_ble_eq_true rfl, Nat.le_of_ble_eq_true rfl⟩ (Nat.le_of_ble_eq_true rfl) dX12_back_2 rfl ?_
  show vv_V x vv_TR mm_X12_back post 5 [some (.ref (vv_ad x 0)), some (.int v1), some (.int v2)] [.int r1] h
  refine rr_if_eq (q := 8) (tgt := 16) dX12_back_5 (by decide) rfl hm (fun hm => ?_) (fun hm => ?_)
  · refine rr_iconst (q := 17) (v := -1) dX12_back_16 rfl (by decide) ?_
    obtain rfl := Option.some.inj hm
    exact rr_iret dX12_back_17 rfl hp
  · refine rr_aload_n (q := 9) dX12_back_8 rfl rfl ?_
    refine rr_iload_n (q := 10) dX12_back_9 rfl rfl ?_
    obtain ⟨r3, k4, hm⟩ := vv_bind hm
    refine rr_callV (q := 13) (M' := mm_X12_isStore) (As := [.int v2]) (st := []) (w := some (.int r3)) (cc_X12_isStore  k4) rfl ylR_0 ynR_0 rfl vy_X12_isStore zw_582 ⟨Nat.le_of_ble_eq_true rfl, Nat.le_of_ble_eq_true rfl⟩ (Nat.le_of_ble_eq_true rfl) dX12_back_10 rfl ?_
    show vv_V x vv_TR mm_X12_back post 13 [some (.ref (vv_ad x 0)), some (.int v1), some (.int v2)] [.int r3] h
    refine rr_if_ne (q := 16) (tgt := 18) dX12_back_13 (by decide) rfl hm (fun hm => ?_) (fun hm => ?_)
    · refine rr_aload_n (q := 19) dX12_back_18 rfl rfl ?_
      refine gf_X12_106 (q := 22) rfl dX12_back_19 rfl ?_
      refine rr_iload_n (q := 23) dX12_back_22 rfl rfl ?_
      obtain ⟨c5, hm⟩ := vv_ck_of hm
      refine rr_iald (q := 24) ylR_33 ynR_33 c5 dX12_back_23 rfl ?_
      refine rr_bipush (q := 26) (v := -4) dX12_back_24 rfl (by decide) ?_
      refine rr_icmp_ne (q := 29) (tgt := 32) dX12_back_26 (by decide) rfl hm (fun hm => ?_) (fun hm => ?_)
      · refine rr_aload_n (q := 33) dX12_back_32 rfl rfl ?_
        refine rr_iload_n (q := 34) dX12_back_33 rfl rfl ?_
        obtain ⟨r6, k7, hm⟩ := vv_bind hm
        refine rr_callV (q := 37) (M' := mm_X12_leaves) (As := [.int v1]) (st := []) (w := none) (cc_X12_leaves  k7) rfl ylR_0 ynR_0 rfl vy_X12_leaves zw_600 ⟨Nat.le_of_ble_eq_true rfl, Nat.le_of_ble_eq_true rfl⟩ (Nat.le_of_ble_eq_true rfl) dX12_back_34 rfl ?_
        show vv_V x vv_TR mm_X12_back post 37 [some (.ref (vv_ad x 0)), some (.int v1), some (.int v2)] [] r6
        refine rr_aload_n (q := 38) dX12_back_37 rfl rfl ?_
        refine gf_X12_103 (q := 41) rfl dX12_back_38 rfl ?_
        refine rr_iload_n (q := 42) dX12_back_41 rfl rfl ?_
        refine rr_iload_n (q := 43) dX12_back_42 rfl rfl ?_
        obtain ⟨c8, hm⟩ := vv_ck_of hm
        obtain ⟨g9, c10, hm⟩ := vv_let_of hm
        refine rr_iast (q := 44) ylR_32 ynR_32 c8 dX12_back_43 rfl ?_
        rw [← c10]
        refine rr_aload_n (q := 45) dX12_back_44 rfl rfl ?_
        refine gf_X12_112 (q := 48) rfl dX12_back_45 rfl ?_
        refine rr_iload_n (q := 49) dX12_back_48 rfl rfl ?_
        obtain ⟨c11, hm⟩ := vv_ck_of hm
        refine rr_iald (q := 50) ylR_35 ynR_35 c11 dX12_back_49 rfl ?_
        obtain rfl := Option.some.inj hm
        exact rr_iret dX12_back_50 rfl hp
      · refine rr_bipush (q := 31) (v := -2) dX12_back_29 rfl (by decide) ?_
        obtain rfl := Option.some.inj hm
        exact rr_iret dX12_back_31 rfl hp
    · refine rr_iconst (q := 17) (v := -1) dX12_back_16 rfl (by decide) ?_
      obtain rfl := Option.some.inj hm
      exact rr_iret dX12_back_17 rfl hp
theorem cc_X12_back {x : vv_E} {h : vv_H} {v1 : Int32} {v2 : Int32} {o : Int32 × vv_H}  (hm : ff_X12_back h v1 v2 = some o) : vv_C x vv_TR yX12_back mm_X12_back [.ref (vv_ad x 0), .int v1, .int v2] h (fun v g => v = some (.int o.1) ∧ g = o.2) := vv_entry (by decide +kernel) rfl (Nat.le_of_ble_eq_true rfl) rfl (vt_X12_back  hm ⟨rfl, rfl⟩)
def ff_X12_lost_J84  (u2 : Int32) (z0 : Int32) (h : vv_H) : Option (Int32 × vv_H) := vv_ck u2 12 (vv_ck u2 12 (vv_let (vv_iu h 4 u2.toNatClampNeg ((h.1 4 u2.toNatClampNeg) + z0)) (fun g22 => some (z0, g22))))
def ff_X12_lost (h : vv_H) (v1 : Int32) : Option (Int32 × vv_H) := (ff_X12_isPiece h v1).bind (fun r1 => (if r1 = 0 then some ((-1 : Int32), h) else vv_ck v1 36 (vv_let (h.1 33 v1.toNatClampNeg) (fun w4 => (if w4 = (-4 : Int32) then some ((-2 : Int32), h) else (ff_X12_leaves h v1).bind (fun r6 => (ff_X12_kindAt r6 v1).bind (fun r8 => (ff_X12_ruleOf r6 r8 (1 : Int32) (r6.1 0 0)).bind (fun r10 => vv_ck v1 36 (vv_let (r10 - (r6.1 35 v1.toNatClampNeg)) (fun w13 => (if 0 ≤ w13 then (ff_X12_kindAt r6 v1).bind (fun r15 => (ff_X12_ruleOf r6 r15 (2 : Int32) (r6.1 0 0)).bind (fun r17 => vv_nz r10 (ff_X12_lost_J84  w4 ((r17 * w13) / r10) r6))) else ff_X12_lost_J84  w4 (0 : Int32) r6)))))))))))
set_option maxHeartbeats 200000 in
theorem vt_X12_lost_J84 {x : vv_E} {post : Option Value → vv_H → Prop}   {u2 : Int32} {z0 : Int32} {h : vv_H} {o : Int32 × vv_H}  (hm : ff_X12_lost_J84  u2 z0 h = some o) (hp : post (some (.int o.1)) o.2) : vv_V x vv_TR mm_X12_lost post 84 [some (.ref (vv_ad x 0)), none, some (.int u2), none, none, none] [.int z0] h := by
  unfold ff_X12_lost_J84 at hm
  refine rr_istore (q := 86) [some (.ref (vv_ad x 0)), none, some (.int u2), none, none, some (.int z0)] dX12_lost_84 rfl (Nat.le_of_ble_eq_true rfl) rfl rfl ?_
  refine rr_aload_n (q := 87) dX12_lost_86 rfl rfl ?_
  refine gf_X12_19 (q := 90) rfl dX12_lost_87 rfl ?_
  refine rr_iload_n (q := 91) dX12_lost_90 rfl rfl ?_
  refine rr_dup2 (q := 92) dX12_lost_91 rfl rfl rfl ?_
  obtain ⟨c20, hm⟩ := vv_ck_of hm
  refine rr_iald (q := 93) ylR_4 ynR_4 c20 dX12_lost_92 rfl ?_
  refine rr_iload (q := 95) dX12_lost_93 rfl rfl ?_
  refine rr_iadd (q := 96) dX12_lost_95 rfl ?_
  obtain ⟨c21, hm⟩ := vv_ck_of hm
  obtain ⟨g22, c23, hm⟩ := vv_let_of hm
  refine rr_iast (q := 97) ylR_4 ynR_4 c21 dX12_lost_96 rfl ?_
  rw [← c23]
  refine rr_iload (q := 99) dX12_lost_97 rfl rfl ?_
  obtain rfl := Option.some.inj hm
  exact rr_iret dX12_lost_99 rfl hp
set_option maxHeartbeats 200000 in
theorem vt_X12_lost {x : vv_E} {post : Option Value → vv_H → Prop} {h : vv_H} {v1 : Int32} {o : Int32 × vv_H}  (hm : ff_X12_lost  h v1 = some o) (hp : post (some (.int o.1)) o.2) : vv_V x vv_TR mm_X12_lost post 0 [some (.ref (vv_ad x 0)), some (.int v1), none, none, none, none] [] h := by
  unfold ff_X12_lost at hm
  refine rr_aload_n (q := 1) dX12_lost_0 rfl rfl ?_
  refine rr_iload_n (q := 2) dX12_lost_1 rfl rfl ?_
  obtain ⟨r1, k2, hm⟩ := vv_bind hm
  refine rr_callV (q := 5) (M' := mm_X12_isPiece) (As := [.int v1]) (st := []) (w := some (.int r1)) (cc_X12_isPiece  k2) rfl ylR_0 ynR_0 rfl vy_X12_isPiece zw_595 ⟨Nat.le_of_ble_eq_true rfl, Nat.le_of_ble_eq_true rfl⟩ (Nat.le_of_ble_eq_true rfl) dX12_lost_2 rfl ?_
  show vv_V x vv_TR mm_X12_lost post 5 [some (.ref (vv_ad x 0)), some (.int v1), none, none, none, none] [.int r1] h
  refine rr_if_ne (q := 8) (tgt := 10) dX12_lost_5 (by decide) rfl hm (fun hm => ?_) (fun hm => ?_)
  · refine rr_aload_n (q := 11) dX12_lost_10 rfl rfl ?_
    refine gf_X12_106 (q := 14) rfl dX12_lost_11 rfl ?_
    refine rr_iload_n (q := 15) dX12_lost_14 rfl rfl ?_
    obtain ⟨c3, hm⟩ := vv_ck_of hm
    refine rr_iald (q := 16) ylR_33 ynR_33 c3 dX12_lost_15 rfl ?_
    obtain ⟨w4, c5, hm⟩ := vv_let_of hm
    rw [← c5]
    refine rr_istore_n (q := 17) [some (.ref (vv_ad x 0)), some (.int v1), some (.int w4), none, none, none] dX12_lost_16 rfl rfl (Nat.le_of_ble_eq_true rfl) rfl rfl ?_
    refine rr_iload_n (q := 18) dX12_lost_17 rfl rfl ?_
    refine rr_bipush (q := 20) (v := -4) dX12_lost_18 rfl (by decide) ?_
    refine rr_icmp_ne (q := 23) (tgt := 26) dX12_lost_20 (by decide) rfl hm (fun hm => ?_) (fun hm => ?_)
    · refine rr_aload_n (q := 27) dX12_lost_26 rfl rfl ?_
      refine rr_iload_n (q := 28) dX12_lost_27 rfl rfl ?_
      obtain ⟨r6, k7, hm⟩ := vv_bind hm
      refine rr_callV (q := 31) (M' := mm_X12_leaves) (As := [.int v1]) (st := []) (w := none) (cc_X12_leaves  k7) rfl ylR_0 ynR_0 rfl vy_X12_leaves zw_600 ⟨Nat.le_of_ble_eq_true rfl, Nat.le_of_ble_eq_true rfl⟩ (Nat.le_of_ble_eq_true rfl) dX12_lost_28 rfl ?_
      show vv_V x vv_TR mm_X12_lost post 31 [some (.ref (vv_ad x 0)), some (.int v1), some (.int w4), none, none, none] [] r6
      refine rr_aload_n (q := 32) dX12_lost_31 rfl rfl ?_
      refine rr_aload_n (q := 33) dX12_lost_32 rfl rfl ?_
      refine rr_iload_n (q := 34) dX12_lost_33 rfl rfl ?_
      obtain ⟨r8, k9, hm⟩ := vv_bind hm
      refine rr_callV (q := 37) (M' := mm_X12_kindAt) (As := [.int v1]) (st := [.ref (vv_ad x 0)]) (w := some (.int r8)) (cc_X12_kindAt  k9) rfl ylR_0 ynR_0 rfl vy_X12_kindAt zw_306 ⟨Nat.le_of_ble_eq_true rfl, Nat.le_of_ble_eq_true rfl⟩ (Nat.le_of_ble_eq_true rfl) dX12_lost_34 rfl ?_
      show vv_V x vv_TR mm_X12_lost post 37 [some (.ref (vv_ad x 0)), some (.int v1), some (.int w4), none, none, none] [.int r8, .ref (vv_ad x 0)] r6
      refine rr_iconst (q := 38) (v := 1) dX12_lost_37 rfl (by decide) ?_
      refine rr_aload_n (q := 39) dX12_lost_38 rfl rfl ?_
      refine gf_X12_187 (q := 42) rfl dX12_lost_39 rfl ?_
      obtain ⟨r10, k11, hm⟩ := vv_bind hm
      refine rr_callV (q := 45) (M' := mm_X12_ruleOf) (As := [.int r8, .int (1 : Int32), .int (r6.1 0 0)]) (st := []) (w := some (.int r10)) (cc_X12_ruleOf  k11) rfl ylR_0 ynR_0 rfl vy_X12_ruleOf zw_311 ⟨Nat.le_of_ble_eq_true rfl, Nat.le_of_ble_eq_true rfl⟩ (Nat.le_of_ble_eq_true rfl) dX12_lost_42 rfl ?_
      show vv_V x vv_TR mm_X12_lost post 45 [some (.ref (vv_ad x 0)), some (.int v1), some (.int w4), none, none, none] [.int r10] r6
      refine rr_istore_n (q := 46) [some (.ref (vv_ad x 0)), some (.int v1), some (.int w4), some (.int r10), none, none] dX12_lost_45 rfl rfl (Nat.le_of_ble_eq_true rfl) rfl rfl ?_
      refine rr_iload_n (q := 47) dX12_lost_46 rfl rfl ?_
      refine rr_aload_n (q := 48) dX12_lost_47 rfl rfl ?_
      refine gf_X12_112 (q := 51) rfl dX12_lost_48 rfl ?_
      refine rr_iload_n (q := 52) dX12_lost_51 rfl rfl ?_
      obtain ⟨c12, hm⟩ := vv_ck_of hm
      refine rr_iald (q := 53) ylR_35 ynR_35 c12 dX12_lost_52 rfl ?_
      refine rr_isub (q := 54) dX12_lost_53 rfl ?_
      obtain ⟨w13, c14, hm⟩ := vv_let_of hm
      rw [← c14]
      refine rr_istore (q := 56) [some (.ref (vv_ad x 0)), some (.int v1), some (.int w4), some (.int r10), some (.int w13), none] dX12_lost_54 rfl (Nat.le_of_ble_eq_true rfl) rfl rfl ?_
      refine rr_iload (q := 58) dX12_lost_56 rfl rfl ?_
      refine rr_if_ge (q := 61) (tgt := 65) dX12_lost_58 (by decide) rfl hm (fun hm => ?_) (fun hm => ?_)
      · refine rr_aload_n (q := 66) dX12_lost_65 rfl rfl ?_
        refine rr_aload_n (q := 67) dX12_lost_66 rfl rfl ?_
        refine rr_iload_n (q := 68) dX12_lost_67 rfl rfl ?_
        obtain ⟨r15, k16, hm⟩ := vv_bind hm
        refine rr_callV (q := 71) (M' := mm_X12_kindAt) (As := [.int v1]) (st := [.ref (vv_ad x 0)]) (w := some (.int r15)) (cc_X12_kindAt  k16) rfl ylR_0 ynR_0 rfl vy_X12_kindAt zw_306 ⟨Nat.le_of_ble_eq_true rfl, Nat.le_of_ble_eq_true rfl⟩ (Nat.le_of_ble_eq_true rfl) dX12_lost_68 rfl ?_
        show vv_V x vv_TR mm_X12_lost post 71 [some (.ref (vv_ad x 0)), some (.int v1), some (.int w4), some (.int r10), some (.int w13), none] [.int r15, .ref (vv_ad x 0)] r6
        refine rr_iconst (q := 72) (v := 2) dX12_lost_71 rfl (by decide) ?_
        refine rr_aload_n (q := 73) dX12_lost_72 rfl rfl ?_
        refine gf_X12_187 (q := 76) rfl dX12_lost_73 rfl ?_
        obtain ⟨r17, k18, hm⟩ := vv_bind hm
        refine rr_callV (q := 79) (M' := mm_X12_ruleOf) (As := [.int r15, .int (2 : Int32), .int (r6.1 0 0)]) (st := []) (w := some (.int r17)) (cc_X12_ruleOf  k18) rfl ylR_0 ynR_0 rfl vy_X12_ruleOf zw_311 ⟨Nat.le_of_ble_eq_true rfl, Nat.le_of_ble_eq_true rfl⟩ (Nat.le_of_ble_eq_true rfl) dX12_lost_76 rfl ?_
        show vv_V x vv_TR mm_X12_lost post 79 [some (.ref (vv_ad x 0)), some (.int v1), some (.int w4), some (.int r10), some (.int w13), none] [.int r17] r6
        refine rr_iload (q := 81) dX12_lost_79 rfl rfl ?_
        refine rr_imul (q := 82) dX12_lost_81 rfl ?_
        refine rr_iload_n (q := 83) dX12_lost_82 rfl rfl ?_
        obtain ⟨c19, hm⟩ := vv_nz_of hm
        refine rr_idiv (q := 84) dX12_lost_83 rfl c19 ?_
        refine rr_sub [true, false, true, false, false, false] rfl ?_
        exact vt_X12_lost_J84  hm hp
      · refine rr_iconst (q := 62) (v := 0) dX12_lost_61 rfl (by decide) ?_
        refine rr_goto (tgt := 84) dX12_lost_62 (by decide) ?_
        refine rr_sub [true, false, true, false, false, false] rfl ?_
        exact vt_X12_lost_J84  hm hp
    · refine rr_bipush (q := 25) (v := -2) dX12_lost_23 rfl (by decide) ?_
      obtain rfl := Option.some.inj hm
      exact rr_iret dX12_lost_25 rfl hp
  · refine rr_iconst (q := 9) (v := -1) dX12_lost_8 rfl (by decide) ?_
    obtain rfl := Option.some.inj hm
    exact rr_iret dX12_lost_9 rfl hp
theorem cc_X12_lost {x : vv_E} {h : vv_H} {v1 : Int32} {o : Int32 × vv_H}  (hm : ff_X12_lost h v1 = some o) : vv_C x vv_TR yX12_lost mm_X12_lost [.ref (vv_ad x 0), .int v1] h (fun v g => v = some (.int o.1) ∧ g = o.2) := vv_entry (by decide +kernel) rfl (Nat.le_of_ble_eq_true rfl) rfl (vt_X12_lost  hm ⟨rfl, rfl⟩)
def ff_X12_move (h : vv_H) (v1 : Int32) (v2 : Int32) : Option (Int32 × vv_H) := (ff_X12_isPiece h v1).bind (fun r1 => (if r1 = 0 then some ((-1 : Int32), h) else (ff_X12_isStore h v2).bind (fun r3 => (if r3 = 0 then some ((-1 : Int32), h) else vv_ck v1 36 ((if (h.1 32 v1.toNatClampNeg) = (-4 : Int32) then some ((-2 : Int32), h) else vv_ck v1 36 ((if (h.1 32 v1.toNatClampNeg) = v2 then some ((-1 : Int32), h) else vv_ck v1 36 (vv_ck (((4 : Int32) * (h.1 32 v1.toNatClampNeg)) + v2) 16 (vv_let (h.1 28 (((4 : Int32) * (h.1 32 v1.toNatClampNeg)) + v2).toNatClampNeg) (fun w9 => vv_ck v1 36 (vv_let (vv_iu h 32 v1.toNatClampNeg v2) (fun g12 => some (w9, g12))))))))))))))
set_option maxHeartbeats 200000 in
theorem vt_X12_move {x : vv_E} {post : Option Value → vv_H → Prop} {h : vv_H} {v1 : Int32} {v2 : Int32} {o : Int32 × vv_H}  (hm : ff_X12_move  h v1 v2 = some o) (hp : post (some (.int o.1)) o.2) : vv_V x vv_TR mm_X12_move post 0 [some (.ref (vv_ad x 0)), some (.int v1), some (.int v2), none] [] h := by
  unfold ff_X12_move at hm
  refine rr_aload_n (q := 1) dX12_move_0 rfl rfl ?_
  refine rr_iload_n (q := 2) dX12_move_1 rfl rfl ?_
  obtain ⟨r1, k2, hm⟩ := vv_bind hm
  refine rr_callV (q := 5) (M' := mm_X12_isPiece) (As := [.int v1]) (st := []) (w := some (.int r1)) (cc_X12_isPiece  k2) rfl ylR_0 ynR_0 rfl vy_X12_isPiece zw_595 ⟨Nat.le_of_ble_eq_true rfl, Nat.le_of_ble_eq_true rfl⟩ (Nat.le_of_ble_eq_true rfl) dX12_move_2 rfl ?_
  show vv_V x vv_TR mm_X12_move post 5 [some (.ref (vv_ad x 0)), some (.int v1), some (.int v2), none] [.int r1] h
  refine rr_if_eq (q := 8) (tgt := 16) dX12_move_5 (by decide) rfl hm (fun hm => ?_) (fun hm => ?_)
  · refine rr_iconst (q := 17) (v := -1) dX12_move_16 rfl (by decide) ?_
    obtain rfl := Option.some.inj hm
    exact rr_iret dX12_move_17 rfl hp
  · refine rr_aload_n (q := 9) dX12_move_8 rfl rfl ?_
    refine rr_iload_n (q := 10) dX12_move_9 rfl rfl ?_
    obtain ⟨r3, k4, hm⟩ := vv_bind hm
    refine rr_callV (q := 13) (M' := mm_X12_isStore) (As := [.int v2]) (st := []) (w := some (.int r3)) (cc_X12_isStore  k4) rfl ylR_0 ynR_0 rfl vy_X12_isStore zw_582 ⟨Nat.le_of_ble_eq_true rfl, Nat.le_of_ble_eq_true rfl⟩ (Nat.le_of_ble_eq_true rfl) dX12_move_10 rfl ?_
    show vv_V x vv_TR mm_X12_move post 13 [some (.ref (vv_ad x 0)), some (.int v1), some (.int v2), none] [.int r3] h
    refine rr_if_ne (q := 16) (tgt := 18) dX12_move_13 (by decide) rfl hm (fun hm => ?_) (fun hm => ?_)
    · refine rr_aload_n (q := 19) dX12_move_18 rfl rfl ?_
      refine gf_X12_103 (q := 22) rfl dX12_move_19 rfl ?_
      refine rr_iload_n (q := 23) dX12_move_22 rfl rfl ?_
      obtain ⟨c5, hm⟩ := vv_ck_of hm
      refine rr_iald (q := 24) ylR_32 ynR_32 c5 dX12_move_23 rfl ?_
      refine rr_bipush (q := 26) (v := -4) dX12_move_24 rfl (by decide) ?_
      refine rr_icmp_ne (q := 29) (tgt := 32) dX12_move_26 (by decide) rfl hm (fun hm => ?_) (fun hm => ?_)
      · refine rr_aload_n (q := 33) dX12_move_32 rfl rfl ?_
        refine gf_X12_103 (q := 36) rfl dX12_move_33 rfl ?_
        refine rr_iload_n (q := 37) dX12_move_36 rfl rfl ?_
        obtain ⟨c6, hm⟩ := vv_ck_of hm
        refine rr_iald (q := 38) ylR_32 ynR_32 c6 dX12_move_37 rfl ?_
        refine rr_iload_n (q := 39) dX12_move_38 rfl rfl ?_
        refine rr_icmp_ne (q := 42) (tgt := 44) dX12_move_39 (by decide) rfl hm (fun hm => ?_) (fun hm => ?_)
        · refine rr_aload_n (q := 45) dX12_move_44 rfl rfl ?_
          refine gf_X12_91 (q := 48) rfl dX12_move_45 rfl ?_
          refine rr_iconst (q := 49) (v := 4) dX12_move_48 rfl (by decide) ?_
          refine rr_aload_n (q := 50) dX12_move_49 rfl rfl ?_
          refine gf_X12_103 (q := 53) rfl dX12_move_50 rfl ?_
          refine rr_iload_n (q := 54) dX12_move_53 rfl rfl ?_
          obtain ⟨c7, hm⟩ := vv_ck_of hm
          refine rr_iald (q := 55) ylR_32 ynR_32 c7 dX12_move_54 rfl ?_
          refine rr_imul (q := 56) dX12_move_55 rfl ?_
          refine rr_iload_n (q := 57) dX12_move_56 rfl rfl ?_
          refine rr_iadd (q := 58) dX12_move_57 rfl ?_
          obtain ⟨c8, hm⟩ := vv_ck_of hm
          refine rr_iald (q := 59) ylR_28 ynR_28 c8 dX12_move_58 rfl ?_
          obtain ⟨w9, c10, hm⟩ := vv_let_of hm
          rw [← c10]
          refine rr_istore_n (q := 60) [some (.ref (vv_ad x 0)), some (.int v1), some (.int v2), some (.int w9)] dX12_move_59 rfl rfl (Nat.le_of_ble_eq_true rfl) rfl rfl ?_
          refine rr_aload_n (q := 61) dX12_move_60 rfl rfl ?_
          refine gf_X12_103 (q := 64) rfl dX12_move_61 rfl ?_
          refine rr_iload_n (q := 65) dX12_move_64 rfl rfl ?_
          refine rr_iload_n (q := 66) dX12_move_65 rfl rfl ?_
          obtain ⟨c11, hm⟩ := vv_ck_of hm
          obtain ⟨g12, c13, hm⟩ := vv_let_of hm
          refine rr_iast (q := 67) ylR_32 ynR_32 c11 dX12_move_66 rfl ?_
          rw [← c13]
          refine rr_iload_n (q := 68) dX12_move_67 rfl rfl ?_
          obtain rfl := Option.some.inj hm
          exact rr_iret dX12_move_68 rfl hp
        · refine rr_iconst (q := 43) (v := -1) dX12_move_42 rfl (by decide) ?_
          obtain rfl := Option.some.inj hm
          exact rr_iret dX12_move_43 rfl hp
      · refine rr_bipush (q := 31) (v := -2) dX12_move_29 rfl (by decide) ?_
        obtain rfl := Option.some.inj hm
        exact rr_iret dX12_move_31 rfl hp
    · refine rr_iconst (q := 17) (v := -1) dX12_move_16 rfl (by decide) ?_
      obtain rfl := Option.some.inj hm
      exact rr_iret dX12_move_17 rfl hp
theorem cc_X12_move {x : vv_E} {h : vv_H} {v1 : Int32} {v2 : Int32} {o : Int32 × vv_H}  (hm : ff_X12_move h v1 v2 = some o) : vv_C x vv_TR yX12_move mm_X12_move [.ref (vv_ad x 0), .int v1, .int v2] h (fun v g => v = some (.int o.1) ∧ g = o.2) := vv_entry (by decide +kernel) rfl (Nat.le_of_ble_eq_true rfl) rfl (vt_X12_move  hm ⟨rfl, rfl⟩)
def ff_X12_fail (h : vv_H) (v1 : Int32) : Option (Int32 × vv_H) := (ff_X12_isPiece h v1).bind (fun r1 => (if r1 = 0 then some ((-1 : Int32), h) else (ff_X12_isGone h v1).bind (fun r3 => (if r3 = 0 then (ff_X12_leaves h v1).bind (fun r5 => vv_ck v1 36 (vv_let (vv_iu r5 32 v1.toNatClampNeg (-4 : Int32)) (fun g8 => vv_ck v1 36 (vv_let (vv_iu g8 37 v1.toNatClampNeg (1 : Int32)) (fun g11 => vv_ck v1 36 (some ((g11.1 35 v1.toNatClampNeg), g11))))))) else some ((-2 : Int32), h)))))
set_option maxHeartbeats 200000 in
theorem vt_X12_fail {x : vv_E} {post : Option Value → vv_H → Prop} {h : vv_H} {v1 : Int32} {o : Int32 × vv_H}  (hm : ff_X12_fail  h v1 = some o) (hp : post (some (.int o.1)) o.2) : vv_V x vv_TR mm_X12_fail post 0 [some (.ref (vv_ad x 0)), some (.int v1)] [] h := by
  unfold ff_X12_fail at hm
  refine rr_aload_n (q := 1) dX12_fail_0 rfl rfl ?_
  refine rr_iload_n (q := 2) dX12_fail_1 rfl rfl ?_
  obtain ⟨r1, k2, hm⟩ := vv_bind hm
  refine rr_callV (q := 5) (M' := mm_X12_isPiece) (As := [.int v1]) (st := []) (w := some (.int r1)) (cc_X12_isPiece  k2) rfl ylR_0 ynR_0 rfl vy_X12_isPiece zw_595 ⟨Nat.le_of_ble_eq_true rfl, Nat.le_of_ble_eq_true rfl⟩ (Nat.le_of_ble_eq_true rfl) dX12_fail_2 rfl ?_
  show vv_V x vv_TR mm_X12_fail post 5 [some (.ref (vv_ad x 0)), some (.int v1)] [.int r1] h
  refine rr_if_ne (q := 8) (tgt := 10) dX12_fail_5 (by decide) rfl hm (fun hm => ?_) (fun hm => ?_)
  · refine rr_aload_n (q := 11) dX12_fail_10 rfl rfl ?_
    refine rr_iload_n (q := 12) dX12_fail_11 rfl rfl ?_
    obtain ⟨r3, k4, hm⟩ := vv_bind hm
    refine rr_callV (q := 15) (M' := mm_X12_isGone) (As := [.int v1]) (st := []) (w := some (.int r3)) (cc_X12_isGone  k4) rfl ylR_0 ynR_0 rfl vy_X12_isGone zw_605 ⟨Nat.le_of_ble_eq_true rfl, Nat.le_of_ble_eq_true rfl⟩ (Nat.le_of_ble_eq_true rfl) dX12_fail_12 rfl ?_
    show vv_V x vv_TR mm_X12_fail post 15 [some (.ref (vv_ad x 0)), some (.int v1)] [.int r3] h
    refine rr_if_eq (q := 18) (tgt := 21) dX12_fail_15 (by decide) rfl hm (fun hm => ?_) (fun hm => ?_)
    · refine rr_aload_n (q := 22) dX12_fail_21 rfl rfl ?_
      refine rr_iload_n (q := 23) dX12_fail_22 rfl rfl ?_
      obtain ⟨r5, k6, hm⟩ := vv_bind hm
      refine rr_callV (q := 26) (M' := mm_X12_leaves) (As := [.int v1]) (st := []) (w := none) (cc_X12_leaves  k6) rfl ylR_0 ynR_0 rfl vy_X12_leaves zw_600 ⟨Nat.le_of_ble_eq_true rfl, Nat.le_of_ble_eq_true rfl⟩ (Nat.le_of_ble_eq_true rfl) dX12_fail_23 rfl ?_
      show vv_V x vv_TR mm_X12_fail post 26 [some (.ref (vv_ad x 0)), some (.int v1)] [] r5
      refine rr_aload_n (q := 27) dX12_fail_26 rfl rfl ?_
      refine gf_X12_103 (q := 30) rfl dX12_fail_27 rfl ?_
      refine rr_iload_n (q := 31) dX12_fail_30 rfl rfl ?_
      refine rr_bipush (q := 33) (v := -4) dX12_fail_31 rfl (by decide) ?_
      obtain ⟨c7, hm⟩ := vv_ck_of hm
      obtain ⟨g8, c9, hm⟩ := vv_let_of hm
      refine rr_iast (q := 34) ylR_32 ynR_32 c7 dX12_fail_33 rfl ?_
      rw [← c9]
      refine rr_aload_n (q := 35) dX12_fail_34 rfl rfl ?_
      refine gf_X12_118 (q := 38) rfl dX12_fail_35 rfl ?_
      refine rr_iload_n (q := 39) dX12_fail_38 rfl rfl ?_
      refine rr_iconst (q := 40) (v := 1) dX12_fail_39 rfl (by decide) ?_
      obtain ⟨c10, hm⟩ := vv_ck_of hm
      obtain ⟨g11, c12, hm⟩ := vv_let_of hm
      refine rr_iast (q := 41) ylR_37 ynR_37 c10 dX12_fail_40 rfl ?_
      rw [← c12]
      refine rr_aload_n (q := 42) dX12_fail_41 rfl rfl ?_
      refine gf_X12_112 (q := 45) rfl dX12_fail_42 rfl ?_
      refine rr_iload_n (q := 46) dX12_fail_45 rfl rfl ?_
      obtain ⟨c13, hm⟩ := vv_ck_of hm
      refine rr_iald (q := 47) ylR_35 ynR_35 c13 dX12_fail_46 rfl ?_
      obtain rfl := Option.some.inj hm
      exact rr_iret dX12_fail_47 rfl hp
    · refine rr_bipush (q := 20) (v := -2) dX12_fail_18 rfl (by decide) ?_
      obtain rfl := Option.some.inj hm
      exact rr_iret dX12_fail_20 rfl hp
  · refine rr_iconst (q := 9) (v := -1) dX12_fail_8 rfl (by decide) ?_
    obtain rfl := Option.some.inj hm
    exact rr_iret dX12_fail_9 rfl hp
theorem cc_X12_fail {x : vv_E} {h : vv_H} {v1 : Int32} {o : Int32 × vv_H}  (hm : ff_X12_fail h v1 = some o) : vv_C x vv_TR yX12_fail mm_X12_fail [.ref (vv_ad x 0), .int v1] h (fun v g => v = some (.int o.1) ∧ g = o.2) := vv_entry (by decide +kernel) rfl (Nat.le_of_ble_eq_true rfl) rfl (vt_X12_fail  hm ⟨rfl, rfl⟩)
def ff_X12_stock (h : vv_H) (v1 : Int32) (v2 : Int32) : Option (Int32) := (ff_X12_isStore h v1).bind (fun r1 => (if r1 = 0 then some (-1 : Int32) else (ff_X12_in v2.toInt64 (0 : Int64) (3 : Int64)).bind (fun r3 => (if r3 = 0 then some (-1 : Int32) else (ff_X12_stockOf h v1 v2).bind (fun r5 => some r5)))))
set_option maxHeartbeats 200000 in
theorem vt_X12_stock {x : vv_E} {post : Option Value → vv_H → Prop} {h : vv_H} {v1 : Int32} {v2 : Int32} {o : Int32}  (hm : ff_X12_stock  h v1 v2 = some o) (hp : post (some (.int o)) h) : vv_V x vv_TR mm_X12_stock post 0 [some (.ref (vv_ad x 0)), some (.int v1), some (.int v2)] [] h := by
  unfold ff_X12_stock at hm
  refine rr_aload_n (q := 1) dX12_stock_0 rfl rfl ?_
  refine rr_iload_n (q := 2) dX12_stock_1 rfl rfl ?_
  obtain ⟨r1, k2, hm⟩ := vv_bind hm
  refine rr_callV (q := 5) (M' := mm_X12_isStore) (As := [.int v1]) (st := []) (w := some (.int r1)) (cc_X12_isStore  k2) rfl ylR_0 ynR_0 rfl vy_X12_isStore zw_582 ⟨Nat.le_of_ble_eq_true rfl, Nat.le_of_ble_eq_true rfl⟩ (Nat.le_of_ble_eq_true rfl) dX12_stock_2 rfl ?_
  show vv_V x vv_TR mm_X12_stock post 5 [some (.ref (vv_ad x 0)), some (.int v1), some (.int v2)] [.int r1] h
  refine rr_if_eq (q := 8) (tgt := 29) dX12_stock_5 (by decide) rfl hm (fun hm => ?_) (fun hm => ?_)
  · refine rr_iconst (q := 30) (v := -1) dX12_stock_29 rfl (by decide) ?_
    obtain rfl := Option.some.inj hm
    exact rr_iret dX12_stock_30 rfl hp
  · refine rr_iload_n (q := 9) dX12_stock_8 rfl rfl ?_
    refine rr_i2l (q := 10) dX12_stock_9 rfl ?_
    refine rr_lconst (q := 11) (v := 0) dX12_stock_10 rfl (by decide) ?_
    refine rr_ldc2 (q := 14) dX12_stock_11 rfl zw_270 ?_
    obtain ⟨r3, k4, hm⟩ := vv_bind hm
    refine rr_callS (q := 17) (M' := mm_X12_in) (As := [.long v2.toInt64, .long (0 : Int64), .long (3 : Int64)]) (st := []) (w := some (.int r3))  (cc_X12_in  k4) rfl vy_X12_in zw_267 ⟨Nat.le_of_ble_eq_true rfl, Nat.le_of_ble_eq_true rfl⟩ (Nat.le_of_ble_eq_true rfl) dX12_stock_14 rfl ?_
    show vv_V x vv_TR mm_X12_stock post 17 [some (.ref (vv_ad x 0)), some (.int v1), some (.int v2)] [.int r3] h
    refine rr_if_eq (q := 20) (tgt := 29) dX12_stock_17 (by decide) rfl hm (fun hm => ?_) (fun hm => ?_)
    · refine rr_iconst (q := 30) (v := -1) dX12_stock_29 rfl (by decide) ?_
      obtain rfl := Option.some.inj hm
      exact rr_iret dX12_stock_30 rfl hp
    · refine rr_aload_n (q := 21) dX12_stock_20 rfl rfl ?_
      refine rr_iload_n (q := 22) dX12_stock_21 rfl rfl ?_
      refine rr_iload_n (q := 23) dX12_stock_22 rfl rfl ?_
      obtain ⟨r5, k6, hm⟩ := vv_bind hm
      refine rr_callV (q := 26) (M' := mm_X12_stockOf) (As := [.int v1, .int v2]) (st := []) (w := some (.int r5)) (cc_X12_stockOf  k6) rfl ylR_0 ynR_0 rfl vy_X12_stockOf zw_610 ⟨Nat.le_of_ble_eq_true rfl, Nat.le_of_ble_eq_true rfl⟩ (Nat.le_of_ble_eq_true rfl) dX12_stock_23 rfl ?_
      show vv_V x vv_TR mm_X12_stock post 26 [some (.ref (vv_ad x 0)), some (.int v1), some (.int v2)] [.int r5] h
      refine rr_goto (tgt := 30) dX12_stock_26 (by decide) ?_
      obtain rfl := Option.some.inj hm
      exact rr_iret dX12_stock_30 rfl hp
theorem cc_X12_stock {x : vv_E} {h : vv_H} {v1 : Int32} {v2 : Int32} {o : Int32}  (hm : ff_X12_stock h v1 v2 = some o) : vv_C x vv_TR yX12_stock mm_X12_stock [.ref (vv_ad x 0), .int v1, .int v2] h (fun v g => v = some (.int o) ∧ g = h) := vv_entry (by decide +kernel) rfl (Nat.le_of_ble_eq_true rfl) rfl (vt_X12_stock  hm ⟨rfl, rfl⟩)
def ff_X12_joins_J50  (u1 : Int32) (u2 : Int32) (u3 : Int32) (u4 : Int32) (m5 : Int32) (m6 : Int32) (z0 : Int32) (z1 : Int32) (hh : vv_H) : Option ((Int32 × Int32 × vv_H) ⊕ ((Int32 × vv_H))) := vv_ck z1 36 (vv_let (vv_iu hh 43 z1.toNatClampNeg (vp_nar .boolean z0)) (fun g3 => vv_ck m6 36 ((if (g3.1 43 m6.toNatClampNeg) = 0 then vv_ck (((36 : Int32) * u1) + m6) 432 ((if (g3.1 39 (((36 : Int32) * u1) + m6).toNatClampNeg) = 0 then vv_let (m6 + 1) (fun w9 => some (.inl (m5, w9, g3))) else vv_ck m6 36 (vv_let (vv_iu g3 43 m6.toNatClampNeg (vp_nar .boolean (1 : Int32))) (fun g12 => vv_ck m6 36 (vv_let (vv_iu g12 41 m6.toNatClampNeg (-4 : Int32)) (fun g15 => vv_ck m5 36 (vv_let (vv_iu g15 42 m5.toNatClampNeg m6) (fun g18 => vv_let (m5 + 1) (fun w20 => vv_let (m6 + 1) (fun w22 => some (.inl (w20, w22, g18)))))))))))) else vv_let (m6 + 1) (fun w6 => some (.inl (m5, w6, g3)))))))
def ff_X12_joins_J45  (u1 : Int32) (u2 : Int32) (u3 : Int32) (u4 : Int32) (m5 : Int32) (m6 : Int32) (z0 : Int32) (hh : vv_H) : Option ((Int32 × Int32 × vv_H) ⊕ ((Int32 × vv_H))) := ff_X12_joins_J50  u1 u2 u3 u4 m5 m6 (1 : Int32) z0 hh
def ff_X12_joins_B9 (u1 : Int32) (u2 : Int32) (u3 : Int32) (u4 : Int32) (s5 : Int32) (s6 : Int32) (h : vv_H) : Option ((Int32 × Int32 × vv_H) ⊕ ((Int32 × vv_H))) := (if (h.1 0 44) ≤ s6 then some (.inr (s5, h)) else vv_ck s6 36 ((if (h.1 44 s6.toNatClampNeg) = 0 then (ff_X12_isIn h s6 u2 u3).bind (fun r24 => (if r24 = 0 then ff_X12_joins_J45  u1 u2 u3 u4 s5 s6 s6 h else ff_X12_joins_J50  u1 u2 u3 u4 s5 s6 (0 : Int32) s6 h)) else ff_X12_joins_J45  u1 u2 u3 u4 s5 s6 s6 h)))
def ff_X12_joins_B154 (u1 : Int32) (u4 : Int32) (u6 : Int32) (s5 : Int32) (s7 : Int32) (h : vv_H) : Option ((Int32 × Int32 × vv_H) ⊕ ((Int32 × vv_H))) := (if (h.1 0 44) ≤ s7 then some (.inr (s5, h)) else vv_ck s7 36 ((if (h.1 43 s7.toNatClampNeg) = 0 then vv_ck u6 36 (vv_ck (((36 : Int32) * (h.1 40 u6.toNatClampNeg)) + s7) 432 ((if (h.1 39 (((36 : Int32) * (h.1 40 u6.toNatClampNeg)) + s7).toNatClampNeg) = 0 then vv_let (s7 + 1) (fun w39 => some (.inl (s5, w39, h))) else vv_ck s7 36 (vv_let (vv_iu h 43 s7.toNatClampNeg (vp_nar .boolean (1 : Int32))) (fun g42 => vv_ck s7 36 (vv_let (vv_iu g42 41 s7.toNatClampNeg u6) (fun g45 => vv_ck s5 36 (vv_let (vv_iu g45 42 s5.toNatClampNeg s7) (fun g48 => vv_let (s5 + 1) (fun w50 => vv_let (s7 + 1) (fun w52 => some (.inl (w50, w52, g48))))))))))))) else vv_let (s7 + 1) (fun w35 => some (.inl (s5, w35, h))))))
def ff_X12_joins_B111 (u1 : Int32) (s4 : Int32) (s5 : Int32) (h : vv_H) : Option ((Int32 × Int32 × vv_H) ⊕ ((vv_H) ⊕ (Int32 × vv_H))) := (if s5 ≤ s4 then some (.inr (.inl h)) else vv_ck s4 36 (vv_let (h.1 42 s4.toNatClampNeg) (fun w29 => vv_let (s4 + 1) (fun w31 => vv_ck w29 36 ((if (h.1 40 w29.toNatClampNeg) = (-4 : Int32) then some (.inr (.inr (w29, h))) else (vv_lp (fun (zs : Int32 × Int32 × vv_H) => ff_X12_joins_B154  u1 w31 w29 zs.1 zs.2.1 zs.2.2) vv_F (s5, (0 : Int32), h)).bind (fun (e55 : (Int32 × vv_H)) => some (.inl (w31, e55.1, e55.2)))))))))
def ff_X12_joins (h : vv_H) (v1 : Int32) (v2 : Int32) (v3 : Int32) : Option (Int32 × vv_H) := (vv_lp (fun (zs : Int32 × Int32 × vv_H) => ff_X12_joins_B9  v1 v2 v3 (0 : Int32) zs.1 zs.2.1 zs.2.2) vv_F ((0 : Int32), (0 : Int32), h)).bind (fun (e27 : (Int32 × vv_H)) => (vv_lp (fun (zs : Int32 × Int32 × vv_H) => ff_X12_joins_B111  v1 zs.1 zs.2.1 zs.2.2) vv_F ((0 : Int32), e27.1, e27.2)).bind (Sum.elim (fun (e58 : (vv_H)) => some ((0 : Int32), e58)) (fun (e59 : (Int32 × vv_H)) => (ff_X12_shift e59.2 e59.1 v1).bind (fun r60 => some ((1 : Int32), r60)))))
set_option maxHeartbeats 200000 in
theorem vt_X12_joins_J50 {x : vv_E} {post : Option Value → vv_H → Prop}   {u1 : Int32} {u2 : Int32} {u3 : Int32} {u4 : Int32} {m5 : Int32} {m6 : Int32} {z0 : Int32} {z1 : Int32} {hh : vv_H} {o : (Int32 × Int32 × vv_H) ⊕ ((Int32 × vv_H))}  (hm : ff_X12_joins_J50  u1 u2 u3 u4 m5 m6 z0 z1 hh = some o) (hI : ∀ (z5 : Int32) (z6 : Int32) (zh : vv_H), o = .inl (z5, z6, zh) → vv_V x vv_TR mm_X12_joins post 9 [some (.ref (vv_ad x 0)), some (.int u1), some (.int u2), some (.int u3), some (.int u4), some (.int z5), some (.int z6), none] [] zh) (hX0 : ∀ (z5 : Int32) (zh : vv_H), o = .inr (z5, zh) → vv_V x vv_TR mm_X12_joins post 111 [some (.ref (vv_ad x 0)), some (.int u1), none, none, some (.int u4), some (.int z5), none, none] [] zh) : vv_V x vv_TR mm_X12_joins post 50 [some (.ref (vv_ad x 0)), some (.int u1), some (.int u2), some (.int u3), some (.int u4), some (.int m5), some (.int m6), none] [.int z0, .int z1, .ref (vv_ad x 43)] hh := by
  unfold ff_X12_joins_J50 at hm
  obtain ⟨c2, hm⟩ := vv_ck_of hm
  obtain ⟨g3, c4, hm⟩ := vv_let_of hm
  refine rr_zast (q := 51) ylR_43 ynR_43 c2 dX12_joins_50 rfl ?_
  rw [← c4]
  refine rr_aload_n (q := 52) dX12_joins_51 rfl rfl ?_
  refine gf_X12_137 (q := 55) rfl dX12_joins_52 rfl ?_
  refine rr_iload (q := 57) dX12_joins_55 rfl rfl ?_
  obtain ⟨c5, hm⟩ := vv_ck_of hm
  refine rr_zald (q := 58) ylR_43 ynR_43 c5 dX12_joins_57 rfl ?_
  refine rr_if_ne (q := 61) (tgt := 105) dX12_joins_58 (by decide) rfl hm (fun hm => ?_) (fun hm => ?_)
  · obtain ⟨w6, c7, hm⟩ := vv_let_of hm
    refine rr_iinc (q := 108) [some (.ref (vv_ad x 0)), some (.int u1), some (.int u2), some (.int u3), some (.int u4), some (.int m5), some (.int w6), none] dX12_joins_105 rfl rfl c7.symm (Nat.le_of_ble_eq_true rfl) rfl rfl ?_
    refine rr_goto (tgt := 9) dX12_joins_108 (by decide) ?_
    obtain rfl := Option.some.inj hm
    exact hI m5 w6 g3 rfl
  · refine rr_aload_n (q := 62) dX12_joins_61 rfl rfl ?_
    refine gf_X12_124 (q := 65) rfl dX12_joins_62 rfl ?_
    refine rr_bipush (q := 67) (v := 36) dX12_joins_65 rfl (by decide) ?_
    refine rr_iload_n (q := 68) dX12_joins_67 rfl rfl ?_
    refine rr_imul (q := 69) dX12_joins_68 rfl ?_
    refine rr_iload (q := 71) dX12_joins_69 rfl rfl ?_
    refine rr_iadd (q := 72) dX12_joins_71 rfl ?_
    obtain ⟨c8, hm⟩ := vv_ck_of hm
    refine rr_zald (q := 73) ylR_39 ynR_39 c8 dX12_joins_72 rfl ?_
    refine rr_if_eq (q := 76) (tgt := 105) dX12_joins_73 (by decide) rfl hm (fun hm => ?_) (fun hm => ?_)
    · obtain ⟨w9, c10, hm⟩ := vv_let_of hm
      refine rr_iinc (q := 108) [some (.ref (vv_ad x 0)), some (.int u1), some (.int u2), some (.int u3), some (.int u4), some (.int m5), some (.int w9), none] dX12_joins_105 rfl rfl c10.symm (Nat.le_of_ble_eq_true rfl) rfl rfl ?_
      refine rr_goto (tgt := 9) dX12_joins_108 (by decide) ?_
      obtain rfl := Option.some.inj hm
      exact hI m5 w9 g3 rfl
    · refine rr_aload_n (q := 77) dX12_joins_76 rfl rfl ?_
      refine gf_X12_137 (q := 80) rfl dX12_joins_77 rfl ?_
      refine rr_iload (q := 82) dX12_joins_80 rfl rfl ?_
      refine rr_iconst (q := 83) (v := 1) dX12_joins_82 rfl (by decide) ?_
      obtain ⟨c11, hm⟩ := vv_ck_of hm
      obtain ⟨g12, c13, hm⟩ := vv_let_of hm
      refine rr_zast (q := 84) ylR_43 ynR_43 c11 dX12_joins_83 rfl ?_
      rw [← c13]
      refine rr_aload_n (q := 85) dX12_joins_84 rfl rfl ?_
      refine gf_X12_131 (q := 88) rfl dX12_joins_85 rfl ?_
      refine rr_iload (q := 90) dX12_joins_88 rfl rfl ?_
      refine rr_bipush (q := 92) (v := -4) dX12_joins_90 rfl (by decide) ?_
      obtain ⟨c14, hm⟩ := vv_ck_of hm
      obtain ⟨g15, c16, hm⟩ := vv_let_of hm
      refine rr_iast (q := 93) ylR_41 ynR_41 c14 dX12_joins_92 rfl ?_
      rw [← c16]
      refine rr_aload_n (q := 94) dX12_joins_93 rfl rfl ?_
      refine gf_X12_134 (q := 97) rfl dX12_joins_94 rfl ?_
      refine rr_iload (q := 99) dX12_joins_97 rfl rfl ?_
      refine rr_iload (q := 101) dX12_joins_99 rfl rfl ?_
      obtain ⟨c17, hm⟩ := vv_ck_of hm
      obtain ⟨g18, c19, hm⟩ := vv_let_of hm
      refine rr_iast (q := 102) ylR_42 ynR_42 c17 dX12_joins_101 rfl ?_
      rw [← c19]
      obtain ⟨w20, c21, hm⟩ := vv_let_of hm
      refine rr_iinc (q := 105) [some (.ref (vv_ad x 0)), some (.int u1), some (.int u2), some (.int u3), some (.int u4), some (.int w20), some (.int m6), none] dX12_joins_102 rfl rfl c21.symm (Nat.le_of_ble_eq_true rfl) rfl rfl ?_
      obtain ⟨w22, c23, hm⟩ := vv_let_of hm
      refine rr_iinc (q := 108) [some (.ref (vv_ad x 0)), some (.int u1), some (.int u2), some (.int u3), some (.int u4), some (.int w20), some (.int w22), none] dX12_joins_105 rfl rfl c23.symm (Nat.le_of_ble_eq_true rfl) rfl rfl ?_
      refine rr_goto (tgt := 9) dX12_joins_108 (by decide) ?_
      obtain rfl := Option.some.inj hm
      exact hI w20 w22 g18 rfl
set_option maxHeartbeats 200000 in
theorem vt_X12_joins_J45 {x : vv_E} {post : Option Value → vv_H → Prop}   {u1 : Int32} {u2 : Int32} {u3 : Int32} {u4 : Int32} {m5 : Int32} {m6 : Int32} {z0 : Int32} {hh : vv_H} {o : (Int32 × Int32 × vv_H) ⊕ ((Int32 × vv_H))}  (hm : ff_X12_joins_J45  u1 u2 u3 u4 m5 m6 z0 hh = some o) (hI : ∀ (z5 : Int32) (z6 : Int32) (zh : vv_H), o = .inl (z5, z6, zh) → vv_V x vv_TR mm_X12_joins post 9 [some (.ref (vv_ad x 0)), some (.int u1), some (.int u2), some (.int u3), some (.int u4), some (.int z5), some (.int z6), none] [] zh) (hX0 : ∀ (z5 : Int32) (zh : vv_H), o = .inr (z5, zh) → vv_V x vv_TR mm_X12_joins post 111 [some (.ref (vv_ad x 0)), some (.int u1), none, none, some (.int u4), some (.int z5), none, none] [] zh) : vv_V x vv_TR mm_X12_joins post 45 [some (.ref (vv_ad x 0)), some (.int u1), some (.int u2), some (.int u3), some (.int u4), some (.int m5), some (.int m6), none] [.int z0, .ref (vv_ad x 43)] hh := by
  unfold ff_X12_joins_J45 at hm
  refine rr_iconst (q := 46) (v := 1) dX12_joins_45 rfl (by decide) ?_
  refine rr_goto (tgt := 50) dX12_joins_46 (by decide) ?_
  exact vt_X12_joins_J50  hm hI hX0
set_option maxHeartbeats 200000 in
theorem vt_X12_joins_B9 {x : vv_E} {post : Option Value → vv_H → Prop} {u1 : Int32} {u2 : Int32} {u3 : Int32} {u4 : Int32} {s5 : Int32} {s6 : Int32} {h : vv_H} {o : (Int32 × Int32 × vv_H) ⊕ ((Int32 × vv_H))}  (hm : ff_X12_joins_B9  u1 u2 u3 u4 s5 s6 h = some o) (hI : ∀ (z5 : Int32) (z6 : Int32) (zh : vv_H), o = .inl (z5, z6, zh) → vv_V x vv_TR mm_X12_joins post 9 [some (.ref (vv_ad x 0)), some (.int u1), some (.int u2), some (.int u3), some (.int u4), some (.int z5), some (.int z6), none] [] zh) (hX0 : ∀ (z5 : Int32) (zh : vv_H), o = .inr (z5, zh) → vv_V x vv_TR mm_X12_joins post 111 [some (.ref (vv_ad x 0)), some (.int u1), none, none, some (.int u4), some (.int z5), none, none] [] zh) : vv_V x vv_TR mm_X12_joins post 9 [some (.ref (vv_ad x 0)), some (.int u1), some (.int u2), some (.int u3), some (.int u4), some (.int s5), some (.int s6), none] [] h := by
  unfold ff_X12_joins_B9 at hm
  refine rr_iload (q := 11) dX12_joins_9 rfl rfl ?_
  refine rr_aload_n (q := 12) dX12_joins_11 rfl rfl ?_
  refine gf_X12_232 (q := 15) rfl dX12_joins_12 rfl ?_
  refine rr_icmp_ge (q := 18) (tgt := 111) dX12_joins_15 (by decide) rfl hm (fun hm => ?_) (fun hm => ?_)
  · obtain rfl := Option.some.inj hm
    refine rr_sub [true, true, false, false, true, true, false, false] rfl ?_
    exact hX0 s5 h rfl
  · refine rr_aload_n (q := 19) dX12_joins_18 rfl rfl ?_
    refine gf_X12_137 (q := 22) rfl dX12_joins_19 rfl ?_
    refine rr_iload (q := 24) dX12_joins_22 rfl rfl ?_
    refine rr_aload_n (q := 25) dX12_joins_24 rfl rfl ?_
    refine gf_X12_140 (q := 28) rfl dX12_joins_25 rfl ?_
    refine rr_iload (q := 30) dX12_joins_28 rfl rfl ?_
    obtain ⟨c1, hm⟩ := vv_ck_of hm
    refine rr_zald (q := 31) ylR_44 ynR_44 c1 dX12_joins_30 rfl ?_
    refine rr_if_ne (q := 34) (tgt := 45) dX12_joins_31 (by decide) rfl hm (fun hm => ?_) (fun hm => ?_)
    · exact vt_X12_joins_J45  hm hI hX0
    · refine rr_aload_n (q := 35) dX12_joins_34 rfl rfl ?_
      refine rr_iload (q := 37) dX12_joins_35 rfl rfl ?_
      refine rr_iload_n (q := 38) dX12_joins_37 rfl rfl ?_
      refine rr_iload_n (q := 39) dX12_joins_38 rfl rfl ?_
      obtain ⟨r24, k25, hm⟩ := vv_bind hm
      refine rr_callV (q := 42) (M' := mm_X12_isIn) (As := [.int s6, .int u2, .int u3]) (st := [.int s6, .ref (vv_ad x 43)]) (w := some (.int r24)) (cc_X12_isIn  k25) rfl ylR_0 ynR_0 rfl vy_X12_isIn zw_619 ⟨Nat.le_of_ble_eq_true rfl, Nat.le_of_ble_eq_true rfl⟩ (Nat.le_of_ble_eq_true rfl) dX12_joins_39 rfl ?_
      show vv_V x vv_TR mm_X12_joins post 42 [some (.ref (vv_ad x 0)), some (.int u1), some (.int u2), some (.int u3), some (.int u4), some (.int s5), some (.int s6), none] [.int r24, .int s6, .ref (vv_ad x 43)] h
      refine rr_if_ne (q := 45) (tgt := 49) dX12_joins_42 (by decide) rfl hm (fun hm => ?_) (fun hm => ?_)
      · refine rr_iconst (q := 50) (v := 0) dX12_joins_49 rfl (by decide) ?_
        exact vt_X12_joins_J50  hm hI hX0
      · exact vt_X12_joins_J45  hm hI hX0
set_option maxHeartbeats 200000 in
theorem vt_X12_joins_B154 {x : vv_E} {post : Option Value → vv_H → Prop} {u1 : Int32} {u4 : Int32} {u6 : Int32} {s5 : Int32} {s7 : Int32} {h : vv_H} {o : (Int32 × Int32 × vv_H) ⊕ ((Int32 × vv_H))}  (hm : ff_X12_joins_B154  u1 u4 u6 s5 s7 h = some o) (hI : ∀ (z5 : Int32) (z7 : Int32) (zh : vv_H), o = .inl (z5, z7, zh) → vv_V x vv_TR mm_X12_joins post 154 [some (.ref (vv_ad x 0)), some (.int u1), none, none, some (.int u4), some (.int z5), some (.int u6), some (.int z7)] [] zh) (hX0 : ∀ (z5 : Int32) (zh : vv_H), o = .inr (z5, zh) → vv_V x vv_TR mm_X12_joins post 229 [some (.ref (vv_ad x 0)), some (.int u1), none, none, some (.int u4), some (.int z5), none, none] [] zh) : vv_V x vv_TR mm_X12_joins post 154 [some (.ref (vv_ad x 0)), some (.int u1), none, none, some (.int u4), some (.int s5), some (.int u6), some (.int s7)] [] h := by
  unfold ff_X12_joins_B154 at hm
  refine rr_iload (q := 156) dX12_joins_154 rfl rfl ?_
  refine rr_aload_n (q := 157) dX12_joins_156 rfl rfl ?_
  refine gf_X12_232 (q := 160) rfl dX12_joins_157 rfl ?_
  refine rr_icmp_ge (q := 163) (tgt := 229) dX12_joins_160 (by decide) rfl hm (fun hm => ?_) (fun hm => ?_)
  · obtain rfl := Option.some.inj hm
    refine rr_sub [true, true, false, false, true, true, false, false] rfl ?_
    exact hX0 s5 h rfl
  · refine rr_aload_n (q := 164) dX12_joins_163 rfl rfl ?_
    refine gf_X12_137 (q := 167) rfl dX12_joins_164 rfl ?_
    refine rr_iload (q := 169) dX12_joins_167 rfl rfl ?_
    obtain ⟨c34, hm⟩ := vv_ck_of hm
    refine rr_zald (q := 170) ylR_43 ynR_43 c34 dX12_joins_169 rfl ?_
    refine rr_if_ne (q := 173) (tgt := 223) dX12_joins_170 (by decide) rfl hm (fun hm => ?_) (fun hm => ?_)
    · obtain ⟨w35, c36, hm⟩ := vv_let_of hm
      refine rr_iinc (q := 226) [some (.ref (vv_ad x 0)), some (.int u1), none, none, some (.int u4), some (.int s5), some (.int u6), some (.int w35)] dX12_joins_223 rfl rfl c36.symm (Nat.le_of_ble_eq_true rfl) rfl rfl ?_
      refine rr_goto (tgt := 154) dX12_joins_226 (by decide) ?_
      obtain rfl := Option.some.inj hm
      exact hI s5 w35 h rfl
    · refine rr_aload_n (q := 174) dX12_joins_173 rfl rfl ?_
      refine gf_X12_124 (q := 177) rfl dX12_joins_174 rfl ?_
      refine rr_bipush (q := 179) (v := 36) dX12_joins_177 rfl (by decide) ?_
      refine rr_aload_n (q := 180) dX12_joins_179 rfl rfl ?_
      refine gf_X12_128 (q := 183) rfl dX12_joins_180 rfl ?_
      refine rr_iload (q := 185) dX12_joins_183 rfl rfl ?_
      obtain ⟨c37, hm⟩ := vv_ck_of hm
      refine rr_iald (q := 186) ylR_40 ynR_40 c37 dX12_joins_185 rfl ?_
      refine rr_imul (q := 187) dX12_joins_186 rfl ?_
      refine rr_iload (q := 189) dX12_joins_187 rfl rfl ?_
      refine rr_iadd (q := 190) dX12_joins_189 rfl ?_
      obtain ⟨c38, hm⟩ := vv_ck_of hm
      refine rr_zald (q := 191) ylR_39 ynR_39 c38 dX12_joins_190 rfl ?_
      refine rr_if_eq (q := 194) (tgt := 223) dX12_joins_191 (by decide) rfl hm (fun hm => ?_) (fun hm => ?_)
      · obtain ⟨w39, c40, hm⟩ := vv_let_of hm
        refine rr_iinc (q := 226) [some (.ref (vv_ad x 0)), some (.int u1), none, none, some (.int u4), some (.int s5), some (.int u6), some (.int w39)] dX12_joins_223 rfl rfl c40.symm (Nat.le_of_ble_eq_true rfl) rfl rfl ?_
        refine rr_goto (tgt := 154) dX12_joins_226 (by decide) ?_
        obtain rfl := Option.some.inj hm
        exact hI s5 w39 h rfl
      · refine rr_aload_n (q := 195) dX12_joins_194 rfl rfl ?_
        refine gf_X12_137 (q := 198) rfl dX12_joins_195 rfl ?_
        refine rr_iload (q := 200) dX12_joins_198 rfl rfl ?_
        refine rr_iconst (q := 201) (v := 1) dX12_joins_200 rfl (by decide) ?_
        obtain ⟨c41, hm⟩ := vv_ck_of hm
        obtain ⟨g42, c43, hm⟩ := vv_let_of hm
        refine rr_zast (q := 202) ylR_43 ynR_43 c41 dX12_joins_201 rfl ?_
        rw [← c43]
        refine rr_aload_n (q := 203) dX12_joins_202 rfl rfl ?_
        refine gf_X12_131 (q := 206) rfl dX12_joins_203 rfl ?_
        refine rr_iload (q := 208) dX12_joins_206 rfl rfl ?_
        refine rr_iload (q := 210) dX12_joins_208 rfl rfl ?_
        obtain ⟨c44, hm⟩ := vv_ck_of hm
        obtain ⟨g45, c46, hm⟩ := vv_let_of hm
        refine rr_iast (q := 211) ylR_41 ynR_41 c44 dX12_joins_210 rfl ?_
        rw [← c46]
        refine rr_aload_n (q := 212) dX12_joins_211 rfl rfl ?_
        refine gf_X12_134 (q := 215) rfl dX12_joins_212 rfl ?_
        refine rr_iload (q := 217) dX12_joins_215 rfl rfl ?_
        refine rr_iload (q := 219) dX12_joins_217 rfl rfl ?_
        obtain ⟨c47, hm⟩ := vv_ck_of hm
        obtain ⟨g48, c49, hm⟩ := vv_let_of hm
        refine rr_iast (q := 220) ylR_42 ynR_42 c47 dX12_joins_219 rfl ?_
        rw [← c49]
        obtain ⟨w50, c51, hm⟩ := vv_let_of hm
        refine rr_iinc (q := 223) [some (.ref (vv_ad x 0)), some (.int u1), none, none, some (.int u4), some (.int w50), some (.int u6), some (.int s7)] dX12_joins_220 rfl rfl c51.symm (Nat.le_of_ble_eq_true rfl) rfl rfl ?_
        obtain ⟨w52, c53, hm⟩ := vv_let_of hm
        refine rr_iinc (q := 226) [some (.ref (vv_ad x 0)), some (.int u1), none, none, some (.int u4), some (.int w50), some (.int u6), some (.int w52)] dX12_joins_223 rfl rfl c53.symm (Nat.le_of_ble_eq_true rfl) rfl rfl ?_
        refine rr_goto (tgt := 154) dX12_joins_226 (by decide) ?_
        obtain rfl := Option.some.inj hm
        exact hI w50 w52 g48 rfl
set_option maxHeartbeats 200000 in
theorem vt_X12_joins_B111 {x : vv_E} {post : Option Value → vv_H → Prop} {u1 : Int32} {s4 : Int32} {s5 : Int32} {h : vv_H} {o : (Int32 × Int32 × vv_H) ⊕ ((vv_H) ⊕ (Int32 × vv_H))}  (hm : ff_X12_joins_B111  u1 s4 s5 h = some o) (hI : ∀ (z4 : Int32) (z5 : Int32) (zh : vv_H), o = .inl (z4, z5, zh) → vv_V x vv_TR mm_X12_joins post 111 [some (.ref (vv_ad x 0)), some (.int u1), none, none, some (.int z4), some (.int z5), none, none] [] zh) (hX0 : ∀  (zh : vv_H), o = .inr (.inl zh) → vv_V x vv_TR mm_X12_joins post 232 [none, none, none, none, none, none, none, none] [] zh) (hX1 : ∀ (z6 : Int32) (zh : vv_H), o = .inr (.inr (z6, zh)) → vv_V x vv_TR mm_X12_joins post 142 [some (.ref (vv_ad x 0)), some (.int u1), none, none, none, none, some (.int z6), none] [] zh) : vv_V x vv_TR mm_X12_joins post 111 [some (.ref (vv_ad x 0)), some (.int u1), none, none, some (.int s4), some (.int s5), none, none] [] h := by
  unfold ff_X12_joins_B111 at hm
  refine rr_iload (q := 113) dX12_joins_111 rfl rfl ?_
  refine rr_iload (q := 115) dX12_joins_113 rfl rfl ?_
  refine rr_icmp_ge (q := 118) (tgt := 232) dX12_joins_115 (by decide) rfl hm (fun hm => ?_) (fun hm => ?_)
  · obtain rfl := Option.some.inj hm
    refine rr_sub [false, false, false, false, false, false, false, false] rfl ?_
    exact hX0 h rfl
  · refine rr_aload_n (q := 119) dX12_joins_118 rfl rfl ?_
    refine gf_X12_134 (q := 122) rfl dX12_joins_119 rfl ?_
    refine rr_iload (q := 124) dX12_joins_122 rfl rfl ?_
    obtain ⟨c28, hm⟩ := vv_ck_of hm
    refine rr_iald (q := 125) ylR_42 ynR_42 c28 dX12_joins_124 rfl ?_
    obtain ⟨w29, c30, hm⟩ := vv_let_of hm
    rw [← c30]
    refine rr_istore (q := 127) [some (.ref (vv_ad x 0)), some (.int u1), none, none, some (.int s4), some (.int s5), some (.int w29), none] dX12_joins_125 rfl (Nat.le_of_ble_eq_true rfl) rfl rfl ?_
    obtain ⟨w31, c32, hm⟩ := vv_let_of hm
    refine rr_iinc (q := 130) [some (.ref (vv_ad x 0)), some (.int u1), none, none, some (.int w31), some (.int s5), some (.int w29), none] dX12_joins_127 rfl rfl c32.symm (Nat.le_of_ble_eq_true rfl) rfl rfl ?_
    refine rr_aload_n (q := 131) dX12_joins_130 rfl rfl ?_
    refine gf_X12_128 (q := 134) rfl dX12_joins_131 rfl ?_
    refine rr_iload (q := 136) dX12_joins_134 rfl rfl ?_
    obtain ⟨c33, hm⟩ := vv_ck_of hm
    refine rr_iald (q := 137) ylR_40 ynR_40 c33 dX12_joins_136 rfl ?_
    refine rr_bipush (q := 139) (v := -4) dX12_joins_137 rfl (by decide) ?_
    refine rr_icmp_ne (q := 142) (tgt := 151) dX12_joins_139 (by decide) rfl hm (fun hm => ?_) (fun hm => ?_)
    · refine rr_iconst (q := 152) (v := 0) dX12_joins_151 rfl (by decide) ?_
      refine rr_istore (q := 154) [some (.ref (vv_ad x 0)), some (.int u1), none, none, some (.int w31), some (.int s5), some (.int w29), some (.int (0 : Int32))] dX12_joins_152 rfl (Nat.le_of_ble_eq_true rfl) rfl rfl ?_
      obtain ⟨r54, k56, hm⟩ := vv_bind hm
      refine vv_lp_link (P := fun (zs : Int32 × Int32 × vv_H) => vv_V x vv_TR mm_X12_joins post 154 [some (.ref (vv_ad x 0)), some (.int u1), none, none, some (.int w31), some (.int zs.1), some (.int w29), some (.int zs.2.1)] [] zs.2.2) (Q := (fun (e55 : (Int32 × vv_H)) => vv_V x vv_TR mm_X12_joins post 229 [some (.ref (vv_ad x 0)), some (.int u1), none, none, some (.int w31), some (.int e55.1), none, none] [] e55.2)) (fun zs o hm hI hX => ?_) vv_F (s5, (0 : Int32), h) r54 k56 ?_
      · exact vt_X12_joins_B154   hm (fun z5 z7 zh e => hI (z5, z7, zh) e) (fun z5 zh e => hX (z5, zh) e)
      · generalize r54 = e55 at hm ⊢
        try dsimp only [Sum.elim_inl, Sum.elim_inr] at hm
        try dsimp only [Sum.elim_inl, Sum.elim_inr]
        refine rr_goto (tgt := 111) dX12_joins_229 (by decide) ?_
        obtain rfl := Option.some.inj hm
        exact hI w31 e55.1 e55.2 rfl
    · obtain rfl := Option.some.inj hm
      refine rr_sub [true, true, false, false, false, false, true, false] rfl ?_
      exact hX1 w29 h rfl
set_option maxHeartbeats 200000 in
theorem vt_X12_joins {x : vv_E} {post : Option Value → vv_H → Prop} {h : vv_H} {v1 : Int32} {v2 : Int32} {v3 : Int32} {o : Int32 × vv_H}  (hm : ff_X12_joins  h v1 v2 v3 = some o) (hp : post (some (.int o.1)) o.2) : vv_V x vv_TR mm_X12_joins post 0 [some (.ref (vv_ad x 0)), some (.int v1), some (.int v2), some (.int v3), none, none, none, none] [] h := by
  unfold ff_X12_joins at hm
  refine rr_iconst (q := 1) (v := 0) dX12_joins_0 rfl (by decide) ?_
  refine rr_istore (q := 3) [some (.ref (vv_ad x 0)), some (.int v1), some (.int v2), some (.int v3), some (.int (0 : Int32)), none, none, none] dX12_joins_1 rfl (Nat.le_of_ble_eq_true rfl) rfl rfl ?_
  refine rr_iconst (q := 4) (v := 0) dX12_joins_3 rfl (by decide) ?_
  refine rr_istore (q := 6) [some (.ref (vv_ad x 0)), some (.int v1), some (.int v2), some (.int v3), some (.int (0 : Int32)), some (.int (0 : Int32)), none, none] dX12_joins_4 rfl (Nat.le_of_ble_eq_true rfl) rfl rfl ?_
  refine rr_iconst (q := 7) (v := 0) dX12_joins_6 rfl (by decide) ?_
  refine rr_istore (q := 9) [some (.ref (vv_ad x 0)), some (.int v1), some (.int v2), some (.int v3), some (.int (0 : Int32)), some (.int (0 : Int32)), some (.int (0 : Int32)), none] dX12_joins_7 rfl (Nat.le_of_ble_eq_true rfl) rfl rfl ?_
  obtain ⟨r26, k63, hm⟩ := vv_bind hm
  refine vv_lp_link (P := fun (zs : Int32 × Int32 × vv_H) => vv_V x vv_TR mm_X12_joins post 9 [some (.ref (vv_ad x 0)), some (.int v1), some (.int v2), some (.int v3), some (.int (0 : Int32)), some (.int zs.1), some (.int zs.2.1), none] [] zs.2.2) (Q := (fun (e27 : (Int32 × vv_H)) => vv_V x vv_TR mm_X12_joins post 111 [some (.ref (vv_ad x 0)), some (.int v1), none, none, some (.int (0 : Int32)), some (.int e27.1), none, none] [] e27.2)) (fun zs o hm hI hX => ?_) vv_F ((0 : Int32), (0 : Int32), h) r26 k63 ?_
  · exact vt_X12_joins_B9   hm (fun z5 z6 zh e => hI (z5, z6, zh) e) (fun z5 zh e => hX (z5, zh) e)
  · generalize r26 = e27 at hm ⊢
    try dsimp only [Sum.elim_inl, Sum.elim_inr] at hm
    try dsimp only [Sum.elim_inl, Sum.elim_inr]
    obtain ⟨r57, k62, hm⟩ := vv_bind hm
    refine vv_lp_link (P := fun (zs : Int32 × Int32 × vv_H) => vv_V x vv_TR mm_X12_joins post 111 [some (.ref (vv_ad x 0)), some (.int v1), none, none, some (.int zs.1), some (.int zs.2.1), none, none] [] zs.2.2) (Q := (Sum.elim (fun (e58 : (vv_H)) => vv_V x vv_TR mm_X12_joins post 232 [none, none, none, none, none, none, none, none] [] e58) (fun (e59 : (Int32 × vv_H)) => vv_V x vv_TR mm_X12_joins post 142 [some (.ref (vv_ad x 0)), some (.int v1), none, none, none, none, some (.int e59.1), none] [] e59.2))) (fun zs o hm hI hX => ?_) vv_F ((0 : Int32), e27.1, e27.2) r57 k62 ?_
    · exact vt_X12_joins_B111   hm (fun z4 z5 zh e => hI (z4, z5, zh) e) (fun zh e => hX (.inl zh) e) (fun z6 zh e => hX (.inr (z6, zh)) e)
    · rcases r57 with e58 | qe58
      · try dsimp only [Sum.elim_inl, Sum.elim_inr] at hm
        try dsimp only [Sum.elim_inl, Sum.elim_inr]
        refine rr_iconst (q := 233) (v := 0) dX12_joins_232 rfl (by decide) ?_
        obtain rfl := Option.some.inj hm
        exact rr_zret dX12_joins_233 rfl rfl hp
      · generalize qe58 = e59 at hm ⊢
        try dsimp only [Sum.elim_inl, Sum.elim_inr] at hm
        try dsimp only [Sum.elim_inl, Sum.elim_inr]
        refine rr_aload_n (q := 143) dX12_joins_142 rfl rfl ?_
        refine rr_iload (q := 145) dX12_joins_143 rfl rfl ?_
        refine rr_iload_n (q := 146) dX12_joins_145 rfl rfl ?_
        obtain ⟨r60, k61, hm⟩ := vv_bind hm
        refine rr_callV (q := 149) (M' := mm_X12_shift) (As := [.int e59.1, .int v1]) (st := []) (w := none) (cc_X12_shift  k61) rfl ylR_0 ynR_0 rfl vy_X12_shift zw_624 ⟨Nat.le_of_ble_eq_true rfl, Nat.le_of_ble_eq_true rfl⟩ (Nat.le_of_ble_eq_true rfl) dX12_joins_146 rfl ?_
        show vv_V x vv_TR mm_X12_joins post 149 [some (.ref (vv_ad x 0)), some (.int v1), none, none, none, none, some (.int e59.1), none] [] r60
        refine rr_iconst (q := 150) (v := 1) dX12_joins_149 rfl (by decide) ?_
        obtain rfl := Option.some.inj hm
        exact rr_zret dX12_joins_150 rfl rfl hp
theorem cc_X12_joins {x : vv_E} {h : vv_H} {v1 : Int32} {v2 : Int32} {v3 : Int32} {o : Int32 × vv_H}  (hm : ff_X12_joins h v1 v2 v3 = some o) : vv_C x vv_TR yX12_joins mm_X12_joins [.ref (vv_ad x 0), .int v1, .int v2, .int v3] h (fun v g => v = some (.int o.1) ∧ g = o.2) := vv_entry (by decide +kernel) rfl (Nat.le_of_ble_eq_true rfl) rfl (vt_X12_joins  hm ⟨rfl, rfl⟩)
def ff_X12_layMore_B5 (u1 : Int32) (u2 : Int32) (s3 : Int32) (s4 : Int32) (h : vv_H) : Option ((Int32 × Int32 × vv_H) ⊕ ((Int32 × vv_H))) := (if (h.1 0 42) ≤ s4 then some (.inr (s3, h)) else (ff_X12_stockOf h s4 u1).bind (fun r1 => vv_ck s4 4 (vv_let (vv_iu h 51 s4.toNatClampNeg (r1 - ((u2 >>> (((4 : Int32) * s4) &&& 31)) &&& (15 : Int32)))) (fun g4 => vv_ck s4 4 (vv_let (s3 + (g4.1 51 s4.toNatClampNeg)) (fun w7 => vv_let (s4 + 1) (fun w9 => some (.inl (w7, w9, g4)))))))))
def ff_X12_layMore (h : vv_H) (v1 : Int32) (v2 : Int32) : Option (Int32 × vv_H) := (vv_lp (fun (zs : Int32 × Int32 × vv_H) => ff_X12_layMore_B5  v1 v2 zs.1 zs.2.1 zs.2.2) vv_F ((0 : Int32), (0 : Int32), h)).bind (fun (e12 : (Int32 × vv_H)) => (if e12.1 < 0 then some ((0 : Int32), e12.2) else some ((1 : Int32), e12.2)))
set_option maxHeartbeats 200000 in
theorem vt_X12_layMore_B5 {x : vv_E} {post : Option Value → vv_H → Prop} {u1 : Int32} {u2 : Int32} {s3 : Int32} {s4 : Int32} {h : vv_H} {o : (Int32 × Int32 × vv_H) ⊕ ((Int32 × vv_H))}  (hm : ff_X12_layMore_B5  u1 u2 s3 s4 h = some o) (hI : ∀ (z3 : Int32) (z4 : Int32) (zh : vv_H), o = .inl (z3, z4, zh) → vv_V x vv_TR mm_X12_layMore post 5 [some (.ref (vv_ad x 0)), some (.int u1), some (.int u2), some (.int z3), some (.int z4)] [] zh) (hX0 : ∀ (z3 : Int32) (zh : vv_H), o = .inr (z3, zh) → vv_V x vv_TR mm_X12_layMore post 54 [none, none, none, some (.int z3), none] [] zh) : vv_V x vv_TR mm_X12_layMore post 5 [some (.ref (vv_ad x 0)), some (.int u1), some (.int u2), some (.int s3), some (.int s4)] [] h := by
  unfold ff_X12_layMore_B5 at hm
  refine rr_iload (q := 7) dX12_layMore_5 rfl rfl ?_
  refine rr_aload_n (q := 8) dX12_layMore_7 rfl rfl ?_
  refine gf_X12_328 (q := 11) rfl dX12_layMore_8 rfl ?_
  refine rr_icmp_ge (q := 14) (tgt := 54) dX12_layMore_11 (by decide) rfl hm (fun hm => ?_) (fun hm => ?_)
  · obtain rfl := Option.some.inj hm
    refine rr_sub [false, false, false, true, false] rfl ?_
    exact hX0 s3 h rfl
  · refine rr_aload_n (q := 15) dX12_layMore_14 rfl rfl ?_
    refine gf_X12_161 (q := 18) rfl dX12_layMore_15 rfl ?_
    refine rr_iload (q := 20) dX12_layMore_18 rfl rfl ?_
    refine rr_aload_n (q := 21) dX12_layMore_20 rfl rfl ?_
    refine rr_iload (q := 23) dX12_layMore_21 rfl rfl ?_
    refine rr_iload_n (q := 24) dX12_layMore_23 rfl rfl ?_
    obtain ⟨r1, k2, hm⟩ := vv_bind hm
    refine rr_callV (q := 27) (M' := mm_X12_stockOf) (As := [.int s4, .int u1]) (st := [.int s4, .ref (vv_ad x 51)]) (w := some (.int r1)) (cc_X12_stockOf  k2) rfl ylR_0 ynR_0 rfl vy_X12_stockOf zw_610 ⟨Nat.le_of_ble_eq_true rfl, Nat.le_of_ble_eq_true rfl⟩ (Nat.le_of_ble_eq_true rfl) dX12_layMore_24 rfl ?_
    show vv_V x vv_TR mm_X12_layMore post 27 [some (.ref (vv_ad x 0)), some (.int u1), some (.int u2), some (.int s3), some (.int s4)] [.int r1, .int s4, .ref (vv_ad x 51)] h
    refine rr_iload_n (q := 28) dX12_layMore_27 rfl rfl ?_
    refine rr_iconst (q := 29) (v := 4) dX12_layMore_28 rfl (by decide) ?_
    refine rr_iload (q := 31) dX12_layMore_29 rfl rfl ?_
    refine rr_imul (q := 32) dX12_layMore_31 rfl ?_
    refine rr_ishr (q := 33) dX12_layMore_32 rfl ?_
    refine rr_bipush (q := 35) (v := 15) dX12_layMore_33 rfl (by decide) ?_
    refine rr_iand (q := 36) dX12_layMore_35 rfl ?_
    refine rr_isub (q := 37) dX12_layMore_36 rfl ?_
    obtain ⟨c3, hm⟩ := vv_ck_of hm
    obtain ⟨g4, c5, hm⟩ := vv_let_of hm
    refine rr_iast (q := 38) ylR_51 ynR_51 c3 dX12_layMore_37 rfl ?_
    rw [← c5]
    refine rr_iload_n (q := 39) dX12_layMore_38 rfl rfl ?_
    refine rr_aload_n (q := 40) dX12_layMore_39 rfl rfl ?_
    refine gf_X12_161 (q := 43) rfl dX12_layMore_40 rfl ?_
    refine rr_iload (q := 45) dX12_layMore_43 rfl rfl ?_
    obtain ⟨c6, hm⟩ := vv_ck_of hm
    refine rr_iald (q := 46) ylR_51 ynR_51 c6 dX12_layMore_45 rfl ?_
    refine rr_iadd (q := 47) dX12_layMore_46 rfl ?_
    obtain ⟨w7, c8, hm⟩ := vv_let_of hm
    rw [← c8]
    refine rr_istore_n (q := 48) [some (.ref (vv_ad x 0)), some (.int u1), some (.int u2), some (.int w7), some (.int s4)] dX12_layMore_47 rfl rfl (Nat.le_of_ble_eq_true rfl) rfl rfl ?_
    obtain ⟨w9, c10, hm⟩ := vv_let_of hm
    refine rr_iinc (q := 51) [some (.ref (vv_ad x 0)), some (.int u1), some (.int u2), some (.int w7), some (.int w9)] dX12_layMore_48 rfl rfl c10.symm (Nat.le_of_ble_eq_true rfl) rfl rfl ?_
    refine rr_goto (tgt := 5) dX12_layMore_51 (by decide) ?_
    obtain rfl := Option.some.inj hm
    exact hI w7 w9 g4 rfl
set_option maxHeartbeats 200000 in
theorem vt_X12_layMore {x : vv_E} {post : Option Value → vv_H → Prop} {h : vv_H} {v1 : Int32} {v2 : Int32} {o : Int32 × vv_H}  (hm : ff_X12_layMore  h v1 v2 = some o) (hp : post (some (.int o.1)) o.2) : vv_V x vv_TR mm_X12_layMore post 0 [some (.ref (vv_ad x 0)), some (.int v1), some (.int v2), none, none] [] h := by
  unfold ff_X12_layMore at hm
  refine rr_iconst (q := 1) (v := 0) dX12_layMore_0 rfl (by decide) ?_
  refine rr_istore_n (q := 2) [some (.ref (vv_ad x 0)), some (.int v1), some (.int v2), some (.int (0 : Int32)), none] dX12_layMore_1 rfl rfl (Nat.le_of_ble_eq_true rfl) rfl rfl ?_
  refine rr_iconst (q := 3) (v := 0) dX12_layMore_2 rfl (by decide) ?_
  refine rr_istore (q := 5) [some (.ref (vv_ad x 0)), some (.int v1), some (.int v2), some (.int (0 : Int32)), some (.int (0 : Int32))] dX12_layMore_3 rfl (Nat.le_of_ble_eq_true rfl) rfl rfl ?_
  obtain ⟨r11, k13, hm⟩ := vv_bind hm
  refine vv_lp_link (P := fun (zs : Int32 × Int32 × vv_H) => vv_V x vv_TR mm_X12_layMore post 5 [some (.ref (vv_ad x 0)), some (.int v1), some (.int v2), some (.int zs.1), some (.int zs.2.1)] [] zs.2.2) (Q := (fun (e12 : (Int32 × vv_H)) => vv_V x vv_TR mm_X12_layMore post 54 [none, none, none, some (.int e12.1), none] [] e12.2)) (fun zs o hm hI hX => ?_) vv_F ((0 : Int32), (0 : Int32), h) r11 k13 ?_
  · exact vt_X12_layMore_B5   hm (fun z3 z4 zh e => hI (z3, z4, zh) e) (fun z3 zh e => hX (z3, zh) e)
  · generalize r11 = e12 at hm ⊢
    try dsimp only [Sum.elim_inl, Sum.elim_inr] at hm
    try dsimp only [Sum.elim_inl, Sum.elim_inr]
    refine rr_iload_n (q := 55) dX12_layMore_54 rfl rfl ?_
    refine rr_if_lt (q := 58) (tgt := 62) dX12_layMore_55 (by decide) rfl hm (fun hm => ?_) (fun hm => ?_)
    · refine rr_iconst (q := 63) (v := 0) dX12_layMore_62 rfl (by decide) ?_
      obtain rfl := Option.some.inj hm
      exact rr_zret dX12_layMore_63 rfl rfl hp
    · refine rr_iconst (q := 59) (v := 1) dX12_layMore_58 rfl (by decide) ?_
      refine rr_goto (tgt := 63) dX12_layMore_59 (by decide) ?_
      obtain rfl := Option.some.inj hm
      exact rr_zret dX12_layMore_63 rfl rfl hp
theorem cc_X12_layMore {x : vv_E} {h : vv_H} {v1 : Int32} {v2 : Int32} {o : Int32 × vv_H}  (hm : ff_X12_layMore h v1 v2 = some o) : vv_C x vv_TR yX12_layMore mm_X12_layMore [.ref (vv_ad x 0), .int v1, .int v2] h (fun v g => v = some (.int o.1) ∧ g = o.2) := vv_entry (by decide +kernel) rfl (Nat.le_of_ble_eq_true rfl) rfl (vt_X12_layMore  hm ⟨rfl, rfl⟩)
def ff_X12_lot_B90 (u2 : Int32) (u3 : Int64) (u5 : Int64) (h : vv_H) (s7 : Int64) (s9 : Int64) : Option ((Int64 × Int64) ⊕ ((Int64))) := (if (lg_cmp s9 (0 : Int64)) = 0 then some (.inr s7) else vv_nzl s9 (vv_let (s7 - s7 / s9 * s9) (fun w15 => some (.inl (s9, w15)))))
def ff_X12_lot (h : vv_H) (v1 : Int32) (v2 : Int32) : Option (Int64 × vv_H) := (ff_X12_in v1.toInt64 (0 : Int64) (5 : Int64)).bind (fun r1 => (if r1 = 0 then some ((-1 : Int64), h) else (ff_X12_in v2.toInt64 (0 : Int64) (3 : Int64)).bind (fun r3 => (if r3 = 0 then some ((-1 : Int64), h) else (if (2 : Int32) ≤ v2 then (ff_X12_layChoices h).bind (fun r5 => (ff_X12_tail r5 v1).bind (fun r7 => (ff_X12_failedOf r5 (-1 : Int32)).bind (fun r9 => vv_ck (((37 : Int32) * (r5.1 0 44)) + r9) 1369 (vv_let (r5.2.1 52 (((37 : Int32) * (r5.1 0 44)) + r9).toNatClampNeg) (fun w12 => (vv_lp (fun (zs : Int64 × Int64) => ff_X12_lot_B90  v2 r7 w12 r5 zs.1 zs.2) vv_F (r7, w12)).bind (fun (e18 : (Int64)) => (if v2 = (2 : Int32) then vv_nzl e18 (some ((r7 / e18), r5)) else vv_nzl e18 (some ((w12 / e18), r5))))))))) else (if v2 = 0 then (ff_X12_manyOf h v1).bind (fun r24 => some (r24.toInt64, h)) else (ff_X12_failedOf h v1).bind (fun r22 => some (r22.toInt64, h))))))))
set_option maxHeartbeats 200000 in
theorem vt_X12_lot_B90 {x : vv_E} {post : Option Value → vv_H → Prop} {u2 : Int32} {u3 : Int64} {u5 : Int64} {h : vv_H} {s7 : Int64} {s9 : Int64} {o : (Int64 × Int64) ⊕ ((Int64))}  (hm : ff_X12_lot_B90  u2 u3 u5 h s7 s9 = some o) (hI : ∀ (z7 : Int64) (z9 : Int64) , o = .inl (z7, z9) → vv_V x vv_TR mm_X12_lot post 90 [none, none, some (.int u2), some (.long u3), none, some (.long u5), none, some (.long z7), none, some (.long z9), none, none, none] [] h) (hX0 : ∀ (z7 : Int64), o = .inr z7 → vv_V x vv_TR mm_X12_lot post 115 [none, none, some (.int u2), some (.long u3), none, some (.long u5), none, some (.long z7), none, none, none, none, none] [] h) : vv_V x vv_TR mm_X12_lot post 90 [none, none, some (.int u2), some (.long u3), none, some (.long u5), none, some (.long s7), none, some (.long s9), none, none, none] [] h := by
  unfold ff_X12_lot_B90 at hm
  refine rr_lload (q := 92) dX12_lot_90 rfl rfl ?_
  refine rr_lconst (q := 93) (v := 0) dX12_lot_92 rfl (by decide) ?_
  refine rr_lcmp (q := 94) dX12_lot_93 rfl ?_
  refine rr_if_eq (q := 97) (tgt := 115) dX12_lot_94 (by decide) rfl hm (fun hm => ?_) (fun hm => ?_)
  · obtain rfl := Option.some.inj hm
    refine rr_sub [false, false, true, true, false, true, false, true, false, false, false, false, false] rfl ?_
    exact hX0 s7 rfl
  · refine rr_lload (q := 99) dX12_lot_97 rfl rfl ?_
    refine rr_lload (q := 101) dX12_lot_99 rfl rfl ?_
    obtain ⟨c14, hm⟩ := vv_nzl_of hm
    refine rr_lrem (q := 102) dX12_lot_101 rfl c14 ?_
    obtain ⟨w15, c16, hm⟩ := vv_let_of hm
    rw [← c16]
    refine rr_lstore (q := 104) [none, none, some (.int u2), some (.long u3), none, some (.long u5), none, some (.long s7), none, some (.long s9), none, some (.long w15), none] dX12_lot_102 rfl (Nat.le_of_ble_eq_true rfl) rfl rfl ?_
    refine rr_lload (q := 106) dX12_lot_104 rfl rfl ?_
    refine rr_lstore (q := 108) [none, none, some (.int u2), some (.long u3), none, some (.long u5), none, some (.long s9), none, some (.long s9), none, some (.long w15), none] dX12_lot_106 rfl (Nat.le_of_ble_eq_true rfl) rfl rfl ?_
    refine rr_lload (q := 110) dX12_lot_108 rfl rfl ?_
    refine rr_lstore (q := 112) [none, none, some (.int u2), some (.long u3), none, some (.long u5), none, some (.long s9), none, some (.long w15), none, some (.long w15), none] dX12_lot_110 rfl (Nat.le_of_ble_eq_true rfl) rfl rfl ?_
    refine rr_goto (tgt := 90) dX12_lot_112 (by decide) ?_
    obtain rfl := Option.some.inj hm
    refine rr_sub [false, false, true, true, false, true, false, true, false, true, false, false, false] rfl ?_
    exact hI s9 w15 rfl
set_option maxHeartbeats 200000 in
theorem vt_X12_lot {x : vv_E} {post : Option Value → vv_H → Prop} {h : vv_H} {v1 : Int32} {v2 : Int32} {o : Int64 × vv_H}  (hm : ff_X12_lot  h v1 v2 = some o) (hp : post (some (.long o.1)) o.2) : vv_V x vv_TR mm_X12_lot post 0 [some (.ref (vv_ad x 0)), some (.int v1), some (.int v2), none, none, none, none, none, none, none, none, none, none] [] h := by
  unfold ff_X12_lot at hm
  refine rr_iload_n (q := 1) dX12_lot_0 rfl rfl ?_
  refine rr_i2l (q := 2) dX12_lot_1 rfl ?_
  refine rr_lconst (q := 3) (v := 0) dX12_lot_2 rfl (by decide) ?_
  refine rr_ldc2 (q := 6) dX12_lot_3 rfl zw_269 ?_
  obtain ⟨r1, k2, hm⟩ := vv_bind hm
  refine rr_callS (q := 9) (M' := mm_X12_in) (As := [.long v1.toInt64, .long (0 : Int64), .long (5 : Int64)]) (st := []) (w := some (.int r1))  (cc_X12_in  k2) rfl vy_X12_in zw_267 ⟨Nat.le_of_ble_eq_true rfl, Nat.le_of_ble_eq_true rfl⟩ (Nat.le_of_ble_eq_true rfl) dX12_lot_6 rfl ?_
  show vv_V x vv_TR mm_X12_lot post 9 [some (.ref (vv_ad x 0)), some (.int v1), some (.int v2), none, none, none, none, none, none, none, none, none, none] [.int r1] h
  refine rr_if_eq (q := 12) (tgt := 24) dX12_lot_9 (by decide) rfl hm (fun hm => ?_) (fun hm => ?_)
  · refine rr_ldc2 (q := 27) dX12_lot_24 rfl zw_625 ?_
    obtain rfl := Option.some.inj hm
    exact rr_lret dX12_lot_27 rfl hp
  · refine rr_iload_n (q := 13) dX12_lot_12 rfl rfl ?_
    refine rr_i2l (q := 14) dX12_lot_13 rfl ?_
    refine rr_lconst (q := 15) (v := 0) dX12_lot_14 rfl (by decide) ?_
    refine rr_ldc2 (q := 18) dX12_lot_15 rfl zw_270 ?_
    obtain ⟨r3, k4, hm⟩ := vv_bind hm
    refine rr_callS (q := 21) (M' := mm_X12_in) (As := [.long v2.toInt64, .long (0 : Int64), .long (3 : Int64)]) (st := []) (w := some (.int r3))  (cc_X12_in  k4) rfl vy_X12_in zw_267 ⟨Nat.le_of_ble_eq_true rfl, Nat.le_of_ble_eq_true rfl⟩ (Nat.le_of_ble_eq_true rfl) dX12_lot_18 rfl ?_
    show vv_V x vv_TR mm_X12_lot post 21 [some (.ref (vv_ad x 0)), some (.int v1), some (.int v2), none, none, none, none, none, none, none, none, none, none] [.int r3] h
    refine rr_if_ne (q := 24) (tgt := 28) dX12_lot_21 (by decide) rfl hm (fun hm => ?_) (fun hm => ?_)
    · refine rr_iload_n (q := 29) dX12_lot_28 rfl rfl ?_
      refine rr_iconst (q := 30) (v := 2) dX12_lot_29 rfl (by decide) ?_
      refine rr_icmp_ge (q := 33) (tgt := 53) dX12_lot_30 (by decide) rfl hm (fun hm => ?_) (fun hm => ?_)
      · refine rr_aload_n (q := 54) dX12_lot_53 rfl rfl ?_
        obtain ⟨r5, k6, hm⟩ := vv_bind hm
        refine rr_callV (q := 57) (M' := mm_X12_layChoices) (As := []) (st := []) (w := none) (cc_X12_layChoices  k6) rfl ylR_0 ynR_0 rfl vy_X12_layChoices zw_630 ⟨Nat.le_of_ble_eq_true rfl, Nat.le_of_ble_eq_true rfl⟩ (Nat.le_of_ble_eq_true rfl) dX12_lot_54 rfl ?_
        show vv_V x vv_TR mm_X12_lot post 57 [some (.ref (vv_ad x 0)), some (.int v1), some (.int v2), none, none, none, none, none, none, none, none, none, none] [] r5
        refine rr_aload_n (q := 58) dX12_lot_57 rfl rfl ?_
        refine rr_iload_n (q := 59) dX12_lot_58 rfl rfl ?_
        obtain ⟨r7, k8, hm⟩ := vv_bind hm
        refine rr_callV (q := 62) (M' := mm_X12_tail) (As := [.int v1]) (st := []) (w := some (.long r7)) (cc_X12_tail  k8) rfl ylR_0 ynR_0 rfl vy_X12_tail zw_635 ⟨Nat.le_of_ble_eq_true rfl, Nat.le_of_ble_eq_true rfl⟩ (Nat.le_of_ble_eq_true rfl) dX12_lot_59 rfl ?_
        show vv_V x vv_TR mm_X12_lot post 62 [some (.ref (vv_ad x 0)), some (.int v1), some (.int v2), none, none, none, none, none, none, none, none, none, none] [.long r7] r5
        refine rr_lstore_n (q := 63) [some (.ref (vv_ad x 0)), some (.int v1), some (.int v2), some (.long r7), none, none, none, none, none, none, none, none, none] dX12_lot_62 rfl rfl (Nat.le_of_ble_eq_true rfl) rfl rfl ?_
        refine rr_aload_n (q := 64) dX12_lot_63 rfl rfl ?_
        refine gf_X12_164 (q := 67) rfl dX12_lot_64 rfl ?_
        refine rr_bipush (q := 69) (v := 37) dX12_lot_67 rfl (by decide) ?_
        refine rr_aload_n (q := 70) dX12_lot_69 rfl rfl ?_
        refine gf_X12_232 (q := 73) rfl dX12_lot_70 rfl ?_
        refine rr_imul (q := 74) dX12_lot_73 rfl ?_
        refine rr_aload_n (q := 75) dX12_lot_74 rfl rfl ?_
        refine rr_iconst (q := 76) (v := -1) dX12_lot_75 rfl (by decide) ?_
        obtain ⟨r9, k10, hm⟩ := vv_bind hm
        refine rr_callV (q := 79) (M' := mm_X12_failedOf) (As := [.int (-1 : Int32)]) (st := [.int ((37 : Int32) * (r5.1 0 44)), .ref (vv_ad x 52)]) (w := some (.int r9)) (cc_X12_failedOf  k10) rfl ylR_0 ynR_0 rfl vy_X12_failedOf zw_328 ⟨Nat.le_of_ble_eq_true rfl, Nat.le_of_ble_eq_true rfl⟩ (Nat.le_of_ble_eq_true rfl) dX12_lot_76 rfl ?_
        show vv_V x vv_TR mm_X12_lot post 79 [some (.ref (vv_ad x 0)), some (.int v1), some (.int v2), some (.long r7), none, none, none, none, none, none, none, none, none] [.int r9, .int ((37 : Int32) * (r5.1 0 44)), .ref (vv_ad x 52)] r5
        refine rr_iadd (q := 80) dX12_lot_79 rfl ?_
        obtain ⟨c11, hm⟩ := vv_ck_of hm
        refine rr_lald (q := 81) ylR_52 ynR_52 c11 dX12_lot_80 rfl ?_
        obtain ⟨w12, c13, hm⟩ := vv_let_of hm
        rw [← c13]
        refine rr_lstore (q := 83) [some (.ref (vv_ad x 0)), some (.int v1), some (.int v2), some (.long r7), none, some (.long w12), none, none, none, none, none, none, none] dX12_lot_81 rfl (Nat.le_of_ble_eq_true rfl) rfl rfl ?_
        refine rr_lload_n (q := 84) dX12_lot_83 rfl rfl ?_
        refine rr_lstore (q := 86) [some (.ref (vv_ad x 0)), some (.int v1), some (.int v2), some (.long r7), none, some (.long w12), none, some (.long r7), none, none, none, none, none] dX12_lot_84 rfl (Nat.le_of_ble_eq_true rfl) rfl rfl ?_
        refine rr_lload (q := 88) dX12_lot_86 rfl rfl ?_
        refine rr_lstore (q := 90) [some (.ref (vv_ad x 0)), some (.int v1), some (.int v2), some (.long r7), none, some (.long w12), none, some (.long r7), none, some (.long w12), none, none, none] dX12_lot_88 rfl (Nat.le_of_ble_eq_true rfl) rfl rfl ?_
        refine rr_sub [false, false, true, true, false, true, false, true, false, true, false, false, false] rfl ?_
        obtain ⟨r17, k21, hm⟩ := vv_bind hm
        refine vv_lp_link (P := fun (zs : Int64 × Int64) => vv_V x vv_TR mm_X12_lot post 90 [none, none, some (.int v2), some (.long r7), none, some (.long w12), none, some (.long zs.1), none, some (.long zs.2), none, none, none] [] r5) (Q := (fun (e18 : (Int64)) => vv_V x vv_TR mm_X12_lot post 115 [none, none, some (.int v2), some (.long r7), none, some (.long w12), none, some (.long e18), none, none, none, none, none] [] r5)) (fun zs o hm hI hX => ?_) vv_F (r7, w12) r17 k21 ?_
        · exact vt_X12_lot_B90   hm (fun z7 z9 e => hI (z7, z9) e) (fun z7 e => hX z7 e)
        · generalize r17 = e18 at hm ⊢
          try dsimp only [Sum.elim_inl, Sum.elim_inr] at hm
          try dsimp only [Sum.elim_inl, Sum.elim_inr]
          refine rr_iload_n (q := 116) dX12_lot_115 rfl rfl ?_
          refine rr_iconst (q := 117) (v := 2) dX12_lot_116 rfl (by decide) ?_
          refine rr_icmp_ne (q := 120) (tgt := 124) dX12_lot_117 (by decide) rfl hm (fun hm => ?_) (fun hm => ?_)
          · refine rr_lload (q := 126) dX12_lot_124 rfl rfl ?_
            refine rr_lload (q := 128) dX12_lot_126 rfl rfl ?_
            obtain ⟨c19, hm⟩ := vv_nzl_of hm
            refine rr_ldiv (q := 129) dX12_lot_128 rfl c19 ?_
            obtain rfl := Option.some.inj hm
            exact rr_lret dX12_lot_129 rfl hp
          · refine rr_lload_n (q := 121) dX12_lot_120 rfl rfl ?_
            refine rr_goto (tgt := 126) dX12_lot_121 (by decide) ?_
            refine rr_lload (q := 128) dX12_lot_126 rfl rfl ?_
            obtain ⟨c20, hm⟩ := vv_nzl_of hm
            refine rr_ldiv (q := 129) dX12_lot_128 rfl c20 ?_
            obtain rfl := Option.some.inj hm
            exact rr_lret dX12_lot_129 rfl hp
      · refine rr_iload_n (q := 34) dX12_lot_33 rfl rfl ?_
        refine rr_if_ne (q := 37) (tgt := 46) dX12_lot_34 (by decide) rfl hm (fun hm => ?_) (fun hm => ?_)
        · refine rr_aload_n (q := 47) dX12_lot_46 rfl rfl ?_
          refine rr_iload_n (q := 48) dX12_lot_47 rfl rfl ?_
          obtain ⟨r22, k23, hm⟩ := vv_bind hm
          refine rr_callV (q := 51) (M' := mm_X12_failedOf) (As := [.int v1]) (st := []) (w := some (.int r22)) (cc_X12_failedOf  k23) rfl ylR_0 ynR_0 rfl vy_X12_failedOf zw_328 ⟨Nat.le_of_ble_eq_true rfl, Nat.le_of_ble_eq_true rfl⟩ (Nat.le_of_ble_eq_true rfl) dX12_lot_48 rfl ?_
          show vv_V x vv_TR mm_X12_lot post 51 [some (.ref (vv_ad x 0)), some (.int v1), some (.int v2), none, none, none, none, none, none, none, none, none, none] [.int r22] h
          refine rr_i2l (q := 52) dX12_lot_51 rfl ?_
          obtain rfl := Option.some.inj hm
          exact rr_lret dX12_lot_52 rfl hp
        · refine rr_aload_n (q := 38) dX12_lot_37 rfl rfl ?_
          refine rr_iload_n (q := 39) dX12_lot_38 rfl rfl ?_
          obtain ⟨r24, k25, hm⟩ := vv_bind hm
          refine rr_callV (q := 42) (M' := mm_X12_manyOf) (As := [.int v1]) (st := []) (w := some (.int r24)) (cc_X12_manyOf  k25) rfl ylR_0 ynR_0 rfl vy_X12_manyOf zw_333 ⟨Nat.le_of_ble_eq_true rfl, Nat.le_of_ble_eq_true rfl⟩ (Nat.le_of_ble_eq_true rfl) dX12_lot_39 rfl ?_
          show vv_V x vv_TR mm_X12_lot post 42 [some (.ref (vv_ad x 0)), some (.int v1), some (.int v2), none, none, none, none, none, none, none, none, none, none] [.int r24] h
          refine rr_i2l (q := 43) dX12_lot_42 rfl ?_
          refine rr_goto (tgt := 52) dX12_lot_43 (by decide) ?_
          obtain rfl := Option.some.inj hm
          exact rr_lret dX12_lot_52 rfl hp
    · refine rr_ldc2 (q := 27) dX12_lot_24 rfl zw_625 ?_
      obtain rfl := Option.some.inj hm
      exact rr_lret dX12_lot_27 rfl hp
theorem cc_X12_lot {x : vv_E} {h : vv_H} {v1 : Int32} {v2 : Int32} {o : Int64 × vv_H}  (hm : ff_X12_lot h v1 v2 = some o) : vv_C x vv_TR yX12_lot mm_X12_lot [.ref (vv_ad x 0), .int v1, .int v2] h (fun v g => v = some (.long o.1) ∧ g = o.2) := vv_entry (by decide +kernel) rfl (Nat.le_of_ble_eq_true rfl) rfl (vt_X12_lot  hm ⟨rfl, rfl⟩)
def ff_X12_worst_B19 (h : vv_H) (s1 : Int32) (s2 : Int32) : Option ((Int32 × Int32) ⊕ ((Int32))) := (if (6 : Int32) ≤ s2 then some (.inr s1) else (ff_X12_tail h s2).bind (fun r5 => (ff_X12_tail h s1).bind (fun r7 => (if 0 ≤ (lg_cmp r5 r7) then vv_let (s2 + 1) (fun w9 => some (.inl (s1, w9))) else vv_let (s2 + 1) (fun w11 => some (.inl (s2, w11)))))))
def ff_X12_worst (h : vv_H) : Option (Int32 × vv_H) := (ff_X12_failedOf h (-1 : Int32)).bind (fun r1 => (if r1 = 0 then some ((-4 : Int32), h) else (ff_X12_layChoices h).bind (fun r3 => (vv_lp (fun (zs : Int32 × Int32) => ff_X12_worst_B19  r3 zs.1 zs.2) vv_F ((0 : Int32), (1 : Int32))).bind (fun (e14 : (Int32)) => some (e14, r3)))))
set_option maxHeartbeats 200000 in
theorem vt_X12_worst_B19 {x : vv_E} {post : Option Value → vv_H → Prop} {h : vv_H} {s1 : Int32} {s2 : Int32} {o : (Int32 × Int32) ⊕ ((Int32))}  (hm : ff_X12_worst_B19  h s1 s2 = some o) (hI : ∀ (z1 : Int32) (z2 : Int32) , o = .inl (z1, z2) → vv_V x vv_TR mm_X12_worst post 19 [some (.ref (vv_ad x 0)), some (.int z1), some (.int z2)] [] h) (hX0 : ∀ (z1 : Int32), o = .inr z1 → vv_V x vv_TR mm_X12_worst post 51 [none, some (.int z1), none] [] h) : vv_V x vv_TR mm_X12_worst post 19 [some (.ref (vv_ad x 0)), some (.int s1), some (.int s2)] [] h := by
  unfold ff_X12_worst_B19 at hm
  refine rr_iload_n (q := 20) dX12_worst_19 rfl rfl ?_
  refine rr_bipush (q := 22) (v := 6) dX12_worst_20 rfl (by decide) ?_
  refine rr_icmp_ge (q := 25) (tgt := 51) dX12_worst_22 (by decide) rfl hm (fun hm => ?_) (fun hm => ?_)
  · obtain rfl := Option.some.inj hm
    refine rr_sub [false, true, false] rfl ?_
    exact hX0 s1 rfl
  · refine rr_aload_n (q := 26) dX12_worst_25 rfl rfl ?_
    refine rr_iload_n (q := 27) dX12_worst_26 rfl rfl ?_
    obtain ⟨r5, k6, hm⟩ := vv_bind hm
    refine rr_callV (q := 30) (M' := mm_X12_tail) (As := [.int s2]) (st := []) (w := some (.long r5)) (cc_X12_tail  k6) rfl ylR_0 ynR_0 rfl vy_X12_tail zw_635 ⟨Nat.le_of_ble_eq_true rfl, Nat.le_of_ble_eq_true rfl⟩ (Nat.le_of_ble_eq_true rfl) dX12_worst_27 rfl ?_
    show vv_V x vv_TR mm_X12_worst post 30 [some (.ref (vv_ad x 0)), some (.int s1), some (.int s2)] [.long r5] h
    refine rr_aload_n (q := 31) dX12_worst_30 rfl rfl ?_
    refine rr_iload_n (q := 32) dX12_worst_31 rfl rfl ?_
    obtain ⟨r7, k8, hm⟩ := vv_bind hm
    refine rr_callV (q := 35) (M' := mm_X12_tail) (As := [.int s1]) (st := [.long r5]) (w := some (.long r7)) (cc_X12_tail  k8) rfl ylR_0 ynR_0 rfl vy_X12_tail zw_635 ⟨Nat.le_of_ble_eq_true rfl, Nat.le_of_ble_eq_true rfl⟩ (Nat.le_of_ble_eq_true rfl) dX12_worst_32 rfl ?_
    show vv_V x vv_TR mm_X12_worst post 35 [some (.ref (vv_ad x 0)), some (.int s1), some (.int s2)] [.long r7, .long r5] h
    refine rr_lcmp (q := 36) dX12_worst_35 rfl ?_
    refine rr_if_ge (q := 39) (tgt := 43) dX12_worst_36 (by decide) rfl hm (fun hm => ?_) (fun hm => ?_)
    · refine rr_iload_n (q := 44) dX12_worst_43 rfl rfl ?_
      refine rr_istore_n (q := 45) [some (.ref (vv_ad x 0)), some (.int s1), some (.int s2)] dX12_worst_44 rfl rfl (Nat.le_of_ble_eq_true rfl) rfl rfl ?_
      obtain ⟨w9, c10, hm⟩ := vv_let_of hm
      refine rr_iinc (q := 48) [some (.ref (vv_ad x 0)), some (.int s1), some (.int w9)] dX12_worst_45 rfl rfl c10.symm (Nat.le_of_ble_eq_true rfl) rfl rfl ?_
      refine rr_goto (tgt := 19) dX12_worst_48 (by decide) ?_
      obtain rfl := Option.some.inj hm
      exact hI s1 w9 rfl
    · refine rr_iload_n (q := 40) dX12_worst_39 rfl rfl ?_
      refine rr_goto (tgt := 44) dX12_worst_40 (by decide) ?_
      refine rr_istore_n (q := 45) [some (.ref (vv_ad x 0)), some (.int s2), some (.int s2)] dX12_worst_44 rfl rfl (Nat.le_of_ble_eq_true rfl) rfl rfl ?_
      obtain ⟨w11, c12, hm⟩ := vv_let_of hm
      refine rr_iinc (q := 48) [some (.ref (vv_ad x 0)), some (.int s2), some (.int w11)] dX12_worst_45 rfl rfl c12.symm (Nat.le_of_ble_eq_true rfl) rfl rfl ?_
      refine rr_goto (tgt := 19) dX12_worst_48 (by decide) ?_
      obtain rfl := Option.some.inj hm
      exact hI s2 w11 rfl
set_option maxHeartbeats 200000 in
theorem vt_X12_worst {x : vv_E} {post : Option Value → vv_H → Prop} {h : vv_H} {o : Int32 × vv_H}  (hm : ff_X12_worst  h = some o) (hp : post (some (.int o.1)) o.2) : vv_V x vv_TR mm_X12_worst post 0 [some (.ref (vv_ad x 0)), none, none] [] h := by
  unfold ff_X12_worst at hm
  refine rr_aload_n (q := 1) dX12_worst_0 rfl rfl ?_
  refine rr_iconst (q := 2) (v := -1) dX12_worst_1 rfl (by decide) ?_
  obtain ⟨r1, k2, hm⟩ := vv_bind hm
  refine rr_callV (q := 5) (M' := mm_X12_failedOf) (As := [.int (-1 : Int32)]) (st := []) (w := some (.int r1)) (cc_X12_failedOf  k2) rfl ylR_0 ynR_0 rfl vy_X12_failedOf zw_328 ⟨Nat.le_of_ble_eq_true rfl, Nat.le_of_ble_eq_true rfl⟩ (Nat.le_of_ble_eq_true rfl) dX12_worst_2 rfl ?_
  show vv_V x vv_TR mm_X12_worst post 5 [some (.ref (vv_ad x 0)), none, none] [.int r1] h
  refine rr_if_ne (q := 8) (tgt := 11) dX12_worst_5 (by decide) rfl hm (fun hm => ?_) (fun hm => ?_)
  · refine rr_aload_n (q := 12) dX12_worst_11 rfl rfl ?_
    obtain ⟨r3, k4, hm⟩ := vv_bind hm
    refine rr_callV (q := 15) (M' := mm_X12_layChoices) (As := []) (st := []) (w := none) (cc_X12_layChoices  k4) rfl ylR_0 ynR_0 rfl vy_X12_layChoices zw_630 ⟨Nat.le_of_ble_eq_true rfl, Nat.le_of_ble_eq_true rfl⟩ (Nat.le_of_ble_eq_true rfl) dX12_worst_12 rfl ?_
    show vv_V x vv_TR mm_X12_worst post 15 [some (.ref (vv_ad x 0)), none, none] [] r3
    refine rr_iconst (q := 16) (v := 0) dX12_worst_15 rfl (by decide) ?_
    refine rr_istore_n (q := 17) [some (.ref (vv_ad x 0)), some (.int (0 : Int32)), none] dX12_worst_16 rfl rfl (Nat.le_of_ble_eq_true rfl) rfl rfl ?_
    refine rr_iconst (q := 18) (v := 1) dX12_worst_17 rfl (by decide) ?_
    refine rr_istore_n (q := 19) [some (.ref (vv_ad x 0)), some (.int (0 : Int32)), some (.int (1 : Int32))] dX12_worst_18 rfl rfl (Nat.le_of_ble_eq_true rfl) rfl rfl ?_
    obtain ⟨r13, k15, hm⟩ := vv_bind hm
    refine vv_lp_link (P := fun (zs : Int32 × Int32) => vv_V x vv_TR mm_X12_worst post 19 [some (.ref (vv_ad x 0)), some (.int zs.1), some (.int zs.2)] [] r3) (Q := (fun (e14 : (Int32)) => vv_V x vv_TR mm_X12_worst post 51 [none, some (.int e14), none] [] r3)) (fun zs o hm hI hX => ?_) vv_F ((0 : Int32), (1 : Int32)) r13 k15 ?_
    · exact vt_X12_worst_B19   hm (fun z1 z2 e => hI (z1, z2) e) (fun z1 e => hX z1 e)
    · generalize r13 = e14 at hm ⊢
      try dsimp only [Sum.elim_inl, Sum.elim_inr] at hm
      try dsimp only [Sum.elim_inl, Sum.elim_inr]
      refine rr_iload_n (q := 52) dX12_worst_51 rfl rfl ?_
      obtain rfl := Option.some.inj hm
      exact rr_iret dX12_worst_52 rfl hp
  · refine rr_bipush (q := 10) (v := -4) dX12_worst_8 rfl (by decide) ?_
    obtain rfl := Option.some.inj hm
    exact rr_iret dX12_worst_10 rfl hp
theorem cc_X12_worst {x : vv_E} {h : vv_H} {o : Int32 × vv_H}  (hm : ff_X12_worst h = some o) : vv_C x vv_TR yX12_worst mm_X12_worst [.ref (vv_ad x 0)] h (fun v g => v = some (.int o.1) ∧ g = o.2) := vv_entry (by decide +kernel) rfl (Nat.le_of_ble_eq_true rfl) rfl (vt_X12_worst  hm ⟨rfl, rfl⟩)
def ff_X3_keepBetter (h : vv_H) (v1 : Int32) (v2 : Int64) : Option (vv_H) := (ff_X3_dressable h (0 : Int32) v2).bind (fun r1 => (if r1.1 ≤ (r1.2.1 170 0) then some r1.2 else vv_let (vv_iu r1.2 170 0 r1.1) (fun g3 => vv_let (vv_iu g3 170 1 v1) (fun g5 => vv_let (vv_lu g5 170 3 v2) (fun g7 => some g7)))))
set_option maxHeartbeats 200000 in
theorem vt_X3_keepBetter {x : vv_E} {post : Option Value → vv_H → Prop} {h : vv_H} {v1 : Int32} {v2 : Int64} {o : vv_H}  (hm : ff_X3_keepBetter  h v1 v2 = some o) (hp : post none o) : vv_V x vv_TC mm_X3_keepBetter post 0 [some (.ref (vv_ad x 170)), some (.int v1), some (.long v2), none, none] [] h := by
  unfold ff_X3_keepBetter at hm
  refine rr_aload_n (q := 1) dX3_keepBetter_0 rfl rfl ?_
  refine rr_iconst (q := 2) (v := 0) dX3_keepBetter_1 rfl (by decide) ?_
  refine rr_lload_n (q := 3) dX3_keepBetter_2 rfl rfl ?_
  obtain ⟨r1, k2, hm⟩ := vv_bind hm
  refine rr_callV (q := 6) (M' := mm_X3_dressable) (As := [.int (0 : Int32), .long v2]) (st := []) (w := some (.int r1.1)) (cc_X3_dressable  k2) rfl ylC_170 ynC_170 rfl vy_X3_dressable zw_640 ⟨Nat.le_of_ble_eq_true rfl, Nat.le_of_ble_eq_true rfl⟩ (Nat.le_of_ble_eq_true rfl) dX3_keepBetter_3 rfl ?_
  show vv_V x vv_TC mm_X3_keepBetter post 6 [some (.ref (vv_ad x 170)), some (.int v1), some (.long v2), none, none] [.int r1.1] r1.2
  refine rr_istore (q := 8) [some (.ref (vv_ad x 170)), some (.int v1), some (.long v2), none, some (.int r1.1)] dX3_keepBetter_6 rfl (Nat.le_of_ble_eq_true rfl) rfl rfl ?_
  refine rr_iload (q := 10) dX3_keepBetter_8 rfl rfl ?_
  refine rr_aload_n (q := 11) dX3_keepBetter_10 rfl rfl ?_
  refine gf_X3_44 (q := 14) rfl dX3_keepBetter_11 rfl ?_
  refine rr_icmp_le (q := 17) (tgt := 33) dX3_keepBetter_14 (by decide) rfl hm (fun hm => ?_) (fun hm => ?_)
  · obtain rfl := Option.some.inj hm
    exact rr_vret dX3_keepBetter_33 rfl hp
  · refine rr_aload_n (q := 18) dX3_keepBetter_17 rfl rfl ?_
    refine rr_iload (q := 20) dX3_keepBetter_18 rfl rfl ?_
    refine pf_X3_44 (q := 23) rfl dX3_keepBetter_20 rfl (fun g3 c4 => ?_)
    replace hm := vv_letE hm c4
    refine rr_aload_n (q := 24) dX3_keepBetter_23 rfl rfl ?_
    refine rr_iload_n (q := 25) dX3_keepBetter_24 rfl rfl ?_
    refine pf_X3_47 (q := 28) rfl dX3_keepBetter_25 rfl (fun g5 c6 => ?_)
    replace hm := vv_letE hm c6
    refine rr_aload_n (q := 29) dX3_keepBetter_28 rfl rfl ?_
    refine rr_lload_n (q := 30) dX3_keepBetter_29 rfl rfl ?_
    refine pf_X3_50 (q := 33) rfl dX3_keepBetter_30 rfl (fun g7 c8 => ?_)
    replace hm := vv_letE hm c8
    obtain rfl := Option.some.inj hm
    exact rr_vret dX3_keepBetter_33 rfl hp
theorem cc_X3_keepBetter {x : vv_E} {h : vv_H} {v1 : Int32} {v2 : Int64} {o : vv_H}  (hm : ff_X3_keepBetter h v1 v2 = some o) : vv_C x vv_TC yX3_keepBetter mm_X3_keepBetter [.ref (vv_ad x 170), .int v1, .long v2] h (fun v g => v = none ∧ g = o) := vv_entry (by decide +kernel) rfl (Nat.le_of_ble_eq_true rfl) rfl (vt_X3_keepBetter  hm ⟨rfl, rfl⟩)
def ff_X3_leastPiece_B13 (u1 : Int32) (u2 : Int64) (u4 : Int32) (s5 : Int64) (s7 : Int32) (h : vv_H) : Option ((Int64 × Int32 × vv_H) ⊕ ((vv_H) ⊕ (Int64 × vv_H))) := (if (36 : Int32) ≤ s7 then some (.inr (.inl h)) else (if (lg_cmp s5 (0 : Int64)) = 0 then some (.inr (.inl h)) else vv_let (s5 &&& (-s5)) (fun w4 => (ff_X3_dressable h (u1 + (1 : Int32)) (u2 &&& (w4 ^^^ (-1 : Int64)))).bind (fun r6 => (if r6.1 = (u4 - (1 : Int32)) then some (.inr (.inr (w4, r6.2))) else vv_let (s5 &&& (w4 ^^^ (-1 : Int64))) (fun w8 => vv_let (s7 + 1) (fun w10 => some (.inl (w8, w10, r6.2)))))))))
def ff_X3_leastPiece (h : vv_H) (v1 : Int32) (v2 : Int64) (v4 : Int32) : Option (Int32 × vv_H) := vv_ck v1 32 (vv_let ((h.2.1 171 v1.toNatClampNeg) &&& v2) (fun w2 => (vv_lp (fun (zs : Int64 × Int32 × vv_H) => ff_X3_leastPiece_B13  v1 v2 v4 zs.1 zs.2.1 zs.2.2) vv_F (w2, (0 : Int32), h)).bind (Sum.elim (fun (e13 : (vv_H)) => some ((-4 : Int32), e13)) (fun (e14 : (Int64 × vv_H)) => (ff_J13_bitCount_95d88 (e14.1 - (1 : Int64))).bind (fun r15 => some (r15, e14.2))))))
set_option maxHeartbeats 200000 in
theorem vt_X3_leastPiece_B13 {x : vv_E} {post : Option Value → vv_H → Prop} {u1 : Int32} {u2 : Int64} {u4 : Int32} {s5 : Int64} {s7 : Int32} {h : vv_H} {o : (Int64 × Int32 × vv_H) ⊕ ((vv_H) ⊕ (Int64 × vv_H))}  (hm : ff_X3_leastPiece_B13  u1 u2 u4 s5 s7 h = some o) (hI : ∀ (z5 : Int64) (z7 : Int32) (zh : vv_H), o = .inl (z5, z7, zh) → vv_V x vv_TC mm_X3_leastPiece post 13 [some (.ref (vv_ad x 170)), some (.int u1), some (.long u2), none, some (.int u4), some (.long z5), none, some (.int z7), none, none] [] zh) (hX0 : ∀  (zh : vv_H), o = .inr (.inl zh) → vv_V x vv_TC mm_X3_leastPiece post 82 [none, none, none, none, none, none, none, none, none, none] [] zh) (hX1 : ∀ (z8 : Int64) (zh : vv_H), o = .inr (.inr (z8, zh)) → vv_V x vv_TC mm_X3_leastPiece post 57 [none, none, none, none, none, none, none, none, some (.long z8), none] [] zh) : vv_V x vv_TC mm_X3_leastPiece post 13 [some (.ref (vv_ad x 170)), some (.int u1), some (.long u2), none, some (.int u4), some (.long s5), none, some (.int s7), none, none] [] h := by
  unfold ff_X3_leastPiece_B13 at hm
  refine rr_iload (q := 15) dX3_leastPiece_13 rfl rfl ?_
  refine rr_bipush (q := 17) (v := 36) dX3_leastPiece_15 rfl (by decide) ?_
  refine rr_icmp_ge (q := 20) (tgt := 82) dX3_leastPiece_17 (by decide) rfl hm (fun hm => ?_) (fun hm => ?_)
  · obtain rfl := Option.some.inj hm
    refine rr_sub [false, false, false, false, false, false, false, false, false, false] rfl ?_
    exact hX0 h rfl
  · refine rr_lload (q := 22) dX3_leastPiece_20 rfl rfl ?_
    refine rr_lconst (q := 23) (v := 0) dX3_leastPiece_22 rfl (by decide) ?_
    refine rr_lcmp (q := 24) dX3_leastPiece_23 rfl ?_
    refine rr_if_eq (q := 27) (tgt := 82) dX3_leastPiece_24 (by decide) rfl hm (fun hm => ?_) (fun hm => ?_)
    · obtain rfl := Option.some.inj hm
      refine rr_sub [false, false, false, false, false, false, false, false, false, false] rfl ?_
      exact hX0 h rfl
    · refine rr_lload (q := 29) dX3_leastPiece_27 rfl rfl ?_
      refine rr_lload (q := 31) dX3_leastPiece_29 rfl rfl ?_
      refine rr_lneg (q := 32) dX3_leastPiece_31 rfl ?_
      refine rr_land (q := 33) dX3_leastPiece_32 rfl ?_
      obtain ⟨w4, c5, hm⟩ := vv_let_of hm
      rw [← c5]
      refine rr_lstore (q := 35) [some (.ref (vv_ad x 170)), some (.int u1), some (.long u2), none, some (.int u4), some (.long s5), none, some (.int s7), some (.long w4), none] dX3_leastPiece_33 rfl (Nat.le_of_ble_eq_true rfl) rfl rfl ?_
      refine rr_aload_n (q := 36) dX3_leastPiece_35 rfl rfl ?_
      refine rr_iload_n (q := 37) dX3_leastPiece_36 rfl rfl ?_
      refine rr_iconst (q := 38) (v := 1) dX3_leastPiece_37 rfl (by decide) ?_
      refine rr_iadd (q := 39) dX3_leastPiece_38 rfl ?_
      refine rr_lload_n (q := 40) dX3_leastPiece_39 rfl rfl ?_
      refine rr_lload (q := 42) dX3_leastPiece_40 rfl rfl ?_
      refine rr_ldc2 (q := 45) dX3_leastPiece_42 rfl zw_133 ?_
      refine rr_lxor (q := 46) dX3_leastPiece_45 rfl ?_
      refine rr_land (q := 47) dX3_leastPiece_46 rfl ?_
      obtain ⟨r6, k7, hm⟩ := vv_bind hm
      refine rr_callV (q := 50) (M' := mm_X3_dressable) (As := [.int (u1 + (1 : Int32)), .long (u2 &&& (w4 ^^^ (-1 : Int64)))]) (st := []) (w := some (.int r6.1)) (cc_X3_dressable  k7) rfl ylC_170 ynC_170 rfl vy_X3_dressable zw_640 ⟨Nat.le_of_ble_eq_true rfl, Nat.le_of_ble_eq_true rfl⟩ (Nat.le_of_ble_eq_true rfl) dX3_leastPiece_47 rfl ?_
      show vv_V x vv_TC mm_X3_leastPiece post 50 [some (.ref (vv_ad x 170)), some (.int u1), some (.long u2), none, some (.int u4), some (.long s5), none, some (.int s7), some (.long w4), none] [.int r6.1] r6.2
      refine rr_iload (q := 52) dX3_leastPiece_50 rfl rfl ?_
      refine rr_iconst (q := 53) (v := 1) dX3_leastPiece_52 rfl (by decide) ?_
      refine rr_isub (q := 54) dX3_leastPiece_53 rfl ?_
      refine rr_icmp_ne (q := 57) (tgt := 65) dX3_leastPiece_54 (by decide) rfl hm (fun hm => ?_) (fun hm => ?_)
      · refine rr_lload (q := 67) dX3_leastPiece_65 rfl rfl ?_
        refine rr_lload (q := 69) dX3_leastPiece_67 rfl rfl ?_
        refine rr_ldc2 (q := 72) dX3_leastPiece_69 rfl zw_133 ?_
        refine rr_lxor (q := 73) dX3_leastPiece_72 rfl ?_
        refine rr_land (q := 74) dX3_leastPiece_73 rfl ?_
        obtain ⟨w8, c9, hm⟩ := vv_let_of hm
        rw [← c9]
        refine rr_lstore (q := 76) [some (.ref (vv_ad x 170)), some (.int u1), some (.long u2), none, some (.int u4), some (.long w8), none, some (.int s7), some (.long w4), none] dX3_leastPiece_74 rfl (Nat.le_of_ble_eq_true rfl) rfl rfl ?_
        obtain ⟨w10, c11, hm⟩ := vv_let_of hm
        refine rr_iinc (q := 79) [some (.ref (vv_ad x 170)), some (.int u1), some (.long u2), none, some (.int u4), some (.long w8), none, some (.int w10), some (.long w4), none] dX3_leastPiece_76 rfl rfl c11.symm (Nat.le_of_ble_eq_true rfl) rfl rfl ?_
        refine rr_goto (tgt := 13) dX3_leastPiece_79 (by decide) ?_
        obtain rfl := Option.some.inj hm
        refine rr_sub [true, true, true, false, true, true, false, true, false, false] rfl ?_
        exact hI w8 w10 r6.2 rfl
      · obtain rfl := Option.some.inj hm
        refine rr_sub [false, false, false, false, false, false, false, false, true, false] rfl ?_
        exact hX1 w4 r6.2 rfl
set_option maxHeartbeats 200000 in
theorem vt_X3_leastPiece {x : vv_E} {post : Option Value → vv_H → Prop} {h : vv_H} {v1 : Int32} {v2 : Int64} {v4 : Int32} {o : Int32 × vv_H}  (hm : ff_X3_leastPiece  h v1 v2 v4 = some o) (hp : post (some (.int o.1)) o.2) : vv_V x vv_TC mm_X3_leastPiece post 0 [some (.ref (vv_ad x 170)), some (.int v1), some (.long v2), none, some (.int v4), none, none, none, none, none] [] h := by
  unfold ff_X3_leastPiece at hm
  refine rr_aload_n (q := 1) dX3_leastPiece_0 rfl rfl ?_
  refine gf_X3_11 (q := 4) rfl dX3_leastPiece_1 rfl ?_
  refine rr_iload_n (q := 5) dX3_leastPiece_4 rfl rfl ?_
  obtain ⟨c1, hm⟩ := vv_ck_of hm
  refine rr_lald (q := 6) ylC_171 ynC_171 c1 dX3_leastPiece_5 rfl ?_
  refine rr_lload_n (q := 7) dX3_leastPiece_6 rfl rfl ?_
  refine rr_land (q := 8) dX3_leastPiece_7 rfl ?_
  obtain ⟨w2, c3, hm⟩ := vv_let_of hm
  rw [← c3]
  refine rr_lstore (q := 10) [some (.ref (vv_ad x 170)), some (.int v1), some (.long v2), none, some (.int v4), some (.long w2), none, none, none, none] dX3_leastPiece_8 rfl (Nat.le_of_ble_eq_true rfl) rfl rfl ?_
  refine rr_iconst (q := 11) (v := 0) dX3_leastPiece_10 rfl (by decide) ?_
  refine rr_istore (q := 13) [some (.ref (vv_ad x 170)), some (.int v1), some (.long v2), none, some (.int v4), some (.long w2), none, some (.int (0 : Int32)), none, none] dX3_leastPiece_11 rfl (Nat.le_of_ble_eq_true rfl) rfl rfl ?_
  obtain ⟨r12, k17, hm⟩ := vv_bind hm
  refine vv_lp_link (P := fun (zs : Int64 × Int32 × vv_H) => vv_V x vv_TC mm_X3_leastPiece post 13 [some (.ref (vv_ad x 170)), some (.int v1), some (.long v2), none, some (.int v4), some (.long zs.1), none, some (.int zs.2.1), none, none] [] zs.2.2) (Q := (Sum.elim (fun (e13 : (vv_H)) => vv_V x vv_TC mm_X3_leastPiece post 82 [none, none, none, none, none, none, none, none, none, none] [] e13) (fun (e14 : (Int64 × vv_H)) => vv_V x vv_TC mm_X3_leastPiece post 57 [none, none, none, none, none, none, none, none, some (.long e14.1), none] [] e14.2))) (fun zs o hm hI hX => ?_) vv_F (w2, (0 : Int32), h) r12 k17 ?_
  · exact vt_X3_leastPiece_B13   hm (fun z5 z7 zh e => hI (z5, z7, zh) e) (fun zh e => hX (.inl zh) e) (fun z8 zh e => hX (.inr (z8, zh)) e)
  · rcases r12 with e13 | qe13
    · try dsimp only [Sum.elim_inl, Sum.elim_inr] at hm
      try dsimp only [Sum.elim_inl, Sum.elim_inr]
      refine rr_bipush (q := 84) (v := -4) dX3_leastPiece_82 rfl (by decide) ?_
      obtain rfl := Option.some.inj hm
      exact rr_iret dX3_leastPiece_84 rfl hp
    · generalize qe13 = e14 at hm ⊢
      try dsimp only [Sum.elim_inl, Sum.elim_inr] at hm
      try dsimp only [Sum.elim_inl, Sum.elim_inr]
      refine rr_lload (q := 59) dX3_leastPiece_57 rfl rfl ?_
      refine rr_lconst (q := 60) (v := 1) dX3_leastPiece_59 rfl (by decide) ?_
      refine rr_lsub (q := 61) dX3_leastPiece_60 rfl ?_
      obtain ⟨r15, k16, hm⟩ := vv_bind hm
      refine rr_callS (q := 64) (M' := mm_J13_bitCount_95d88) (As := [.long (e14.1 - (1 : Int64))]) (st := []) (w := some (.int r15))  (cc_J13_bitCount_95d88  k16) rfl vy_J13_bitCount_95d88 zw_137 ⟨Nat.le_of_ble_eq_true rfl, Nat.le_of_ble_eq_true rfl⟩ (Nat.le_of_ble_eq_true rfl) dX3_leastPiece_61 rfl ?_
      show vv_V x vv_TC mm_X3_leastPiece post 64 [none, none, none, none, none, none, none, none, some (.long e14.1), none] [.int r15] e14.2
      obtain rfl := Option.some.inj hm
      exact rr_iret dX3_leastPiece_64 rfl hp
theorem cc_X3_leastPiece {x : vv_E} {h : vv_H} {v1 : Int32} {v2 : Int64} {v4 : Int32} {o : Int32 × vv_H}  (hm : ff_X3_leastPiece h v1 v2 v4 = some o) : vv_C x vv_TC yX3_leastPiece mm_X3_leastPiece [.ref (vv_ad x 170), .int v1, .long v2, .int v4] h (fun v g => v = some (.int o.1) ∧ g = o.2) := vv_entry (by decide +kernel) rfl (Nat.le_of_ble_eq_true rfl) rfl (vt_X3_leastPiece  hm ⟨rfl, rfl⟩)
def ff_X5_readRule_J93  (b2 : Bool) (u3 : Int32) (u4 : Int32) (u6 : Int32) (u7 : Int32) (z0 : Int32) (h : vv_H) : Option (Int32 × vv_H) := (ff_X5_takeNumber h u7 z0).bind (fun r7 => (if r7.1 = 0 then some ((0 : Int32), r7.2) else (ff_X6_add r7.2 b2 u3 u4 u6 (r7.2.1 55 3)).bind (fun r9 => some ((1 : Int32), r9))))
def ff_X5_readRule_J65  (b2 : Bool) (u3 : Int32) (u4 : Int32) (u6 : Int32) (z0 : Int32) (h : vv_H) : Option (Int32 × vv_H) := (if u3 = (8 : Int32) then ff_X5_readRule_J93  b2 u3 u4 u6 z0 (9 : Int32) h else (if u3 = (9 : Int32) then ff_X5_readRule_J93  b2 u3 u4 u6 z0 (9999 : Int32) h else ff_X5_readRule_J93  b2 u3 u4 u6 z0 (9999 : Int32) h))
def ff_X5_readRule_J54  (b2 : Bool) (u3 : Int32) (u4 : Int32) (u6 : Int32) (h : vv_H) : Option (Int32 × vv_H) := (if u3 = (9 : Int32) then ff_X5_readRule_J65  b2 u3 u4 u6 (1 : Int32) h else ff_X5_readRule_J65  b2 u3 u4 u6 (0 : Int32) h)
def ff_X5_readRule (h : vv_H) (b2 : Bool) (v3 : Int32) (v4 : Int32) : Option (Int32 × vv_H) := (ff_X10_placeAt h (h.1 55 2)).bind (fun r1 => (ff_X5_takeNumber h (0 : Int32) (3 : Int32)).bind (fun r3 => (if r3.1 = 0 then some ((0 : Int32), r3.2) else vv_let (r3.2.1 55 3) (fun w5 => (if v3 = (8 : Int32) then ff_X5_readRule_J54  b2 v3 v4 w5 r3.2 else (ff_X6_isTold r3.2 b2 v3 w5 v4).bind (fun r11 => (if r11 = 0 then ff_X5_readRule_J54  b2 v3 v4 w5 r3.2 else (ff_X5_refuse r3.2 (5 : Int32) r1).bind (fun r13 => vv_zk r13.1 (some (r13.1, r13.2))))))))))
set_option maxHeartbeats 200000 in
theorem vt_X5_readRule_J93 {x : vv_E} {post : Option Value → vv_H → Prop}   {b2 : Bool} {u3 : Int32} {u4 : Int32} {u6 : Int32} {u7 : Int32} {z0 : Int32} {h : vv_H} {o : Int32 × vv_H}  (hm : ff_X5_readRule_J93  b2 u3 u4 u6 u7 z0 h = some o) (hp : post (some (.int o.1)) o.2) : vv_V x vv_TC mm_X5_readRule post 93 [some (.ref (vv_ad x 55)), some (.ref (vv_ad x 50)), some (.ref (vv_ad x (vv_rid b2))), some (.int u3), some (.int u4), none, some (.int u6), some (.int u7), none] [.int z0] h := by
  unfold ff_X5_readRule_J93 at hm
  refine rr_istore (q := 95) [some (.ref (vv_ad x 55)), some (.ref (vv_ad x 50)), some (.ref (vv_ad x (vv_rid b2))), some (.int u3), some (.int u4), none, some (.int u6), some (.int u7), some (.int z0)] dX5_readRule_93 rfl (Nat.le_of_ble_eq_true rfl) rfl rfl ?_
  refine rr_aload_n (q := 96) dX5_readRule_95 rfl rfl ?_
  refine rr_aload_n (q := 97) dX5_readRule_96 rfl rfl ?_
  refine rr_iload (q := 99) dX5_readRule_97 rfl rfl ?_
  refine rr_iload (q := 101) dX5_readRule_99 rfl rfl ?_
  obtain ⟨r7, k8, hm⟩ := vv_bind hm
  refine rr_callV (q := 104) (M' := mm_X5_takeNumber) (As := [.ref (vv_ad x 50), .int u7, .int z0]) (st := []) (w := some (.int r7.1)) (cc_X5_takeNumber  k8) rfl ylC_55 ynC_55 rfl vy_X5_takeNumber zw_648 ⟨Nat.le_of_ble_eq_true rfl, Nat.le_of_ble_eq_true rfl⟩ (Nat.le_of_ble_eq_true rfl) dX5_readRule_101 rfl ?_
  show vv_V x vv_TC mm_X5_readRule post 104 [some (.ref (vv_ad x 55)), some (.ref (vv_ad x 50)), some (.ref (vv_ad x (vv_rid b2))), some (.int u3), some (.int u4), none, some (.int u6), some (.int u7), some (.int z0)] [.int r7.1] r7.2
  refine rr_if_ne (q := 107) (tgt := 109) dX5_readRule_104 (by decide) rfl hm (fun hm => ?_) (fun hm => ?_)
  · refine rr_aload_n (q := 110) dX5_readRule_109 rfl rfl ?_
    refine rr_iload_n (q := 111) dX5_readRule_110 rfl rfl ?_
    refine rr_iload (q := 113) dX5_readRule_111 rfl rfl ?_
    refine rr_iload (q := 115) dX5_readRule_113 rfl rfl ?_
    refine rr_aload_n (q := 116) dX5_readRule_115 rfl rfl ?_
    refine gf_X5_51 (q := 119) rfl dX5_readRule_116 rfl ?_
    obtain ⟨r9, k10, hm⟩ := vv_bind hm
    refine rr_callV (q := 122) (M' := mm_X6_add) (As := [.int u3, .int u4, .int u6, .int (r7.2.1 55 3)]) (st := []) (w := none) (cc_X6_add  k10) rfl (yr_0 b2).1 (yr_0 b2).2 rfl vy_X6_add zw_653 ⟨Nat.le_of_ble_eq_true rfl, Nat.le_of_ble_eq_true rfl⟩ (Nat.le_of_ble_eq_true rfl) dX5_readRule_119 rfl ?_
    show vv_V x vv_TC mm_X5_readRule post 122 [some (.ref (vv_ad x 55)), some (.ref (vv_ad x 50)), some (.ref (vv_ad x (vv_rid b2))), some (.int u3), some (.int u4), none, some (.int u6), some (.int u7), some (.int z0)] [] r9
    refine rr_iconst (q := 123) (v := 1) dX5_readRule_122 rfl (by decide) ?_
    obtain rfl := Option.some.inj hm
    exact rr_zret dX5_readRule_123 rfl rfl hp
  · refine rr_iconst (q := 108) (v := 0) dX5_readRule_107 rfl (by decide) ?_
    obtain rfl := Option.some.inj hm
    exact rr_zret dX5_readRule_108 rfl rfl hp
set_option maxHeartbeats 200000 in
theorem vt_X5_readRule_J65 {x : vv_E} {post : Option Value → vv_H → Prop}   {b2 : Bool} {u3 : Int32} {u4 : Int32} {u6 : Int32} {z0 : Int32} {h : vv_H} {o : Int32 × vv_H}  (hm : ff_X5_readRule_J65  b2 u3 u4 u6 z0 h = some o) (hp : post (some (.int o.1)) o.2) : vv_V x vv_TC mm_X5_readRule post 65 [some (.ref (vv_ad x 55)), some (.ref (vv_ad x 50)), some (.ref (vv_ad x (vv_rid b2))), some (.int u3), some (.int u4), none, some (.int u6), none, none] [.int z0] h := by
  unfold ff_X5_readRule_J65 at hm
  refine rr_istore (q := 67) [some (.ref (vv_ad x 55)), some (.ref (vv_ad x 50)), some (.ref (vv_ad x (vv_rid b2))), some (.int u3), some (.int u4), none, some (.int u6), some (.int z0), none] dX5_readRule_65 rfl (Nat.le_of_ble_eq_true rfl) rfl rfl ?_
  refine rr_iload_n (q := 68) dX5_readRule_67 rfl rfl ?_
  refine rr_bipush (q := 70) (v := 8) dX5_readRule_68 rfl (by decide) ?_
  refine rr_icmp_ne (q := 73) (tgt := 78) dX5_readRule_70 (by decide) rfl hm (fun hm => ?_) (fun hm => ?_)
  · refine rr_iload_n (q := 79) dX5_readRule_78 rfl rfl ?_
    refine rr_bipush (q := 81) (v := 9) dX5_readRule_79 rfl (by decide) ?_
    refine rr_icmp_ne (q := 84) (tgt := 90) dX5_readRule_81 (by decide) rfl hm (fun hm => ?_) (fun hm => ?_)
    · refine rr_sipush (q := 93) (v := 9999) dX5_readRule_90 rfl (by decide) ?_
      exact vt_X5_readRule_J93  hm hp
    · refine rr_sipush (q := 87) (v := 9999) dX5_readRule_84 rfl (by decide) ?_
      refine rr_goto (tgt := 93) dX5_readRule_87 (by decide) ?_
      exact vt_X5_readRule_J93  hm hp
  · refine rr_bipush (q := 75) (v := 9) dX5_readRule_73 rfl (by decide) ?_
    refine rr_goto (tgt := 93) dX5_readRule_75 (by decide) ?_
    exact vt_X5_readRule_J93  hm hp
set_option maxHeartbeats 200000 in
theorem vt_X5_readRule_J54 {x : vv_E} {post : Option Value → vv_H → Prop}   {b2 : Bool} {u3 : Int32} {u4 : Int32} {u6 : Int32} {h : vv_H} {o : Int32 × vv_H}  (hm : ff_X5_readRule_J54  b2 u3 u4 u6 h = some o) (hp : post (some (.int o.1)) o.2) : vv_V x vv_TC mm_X5_readRule post 54 [some (.ref (vv_ad x 55)), some (.ref (vv_ad x 50)), some (.ref (vv_ad x (vv_rid b2))), some (.int u3), some (.int u4), none, some (.int u6), none, none] [] h := by
  unfold ff_X5_readRule_J54 at hm
  refine rr_iload_n (q := 55) dX5_readRule_54 rfl rfl ?_
  refine rr_bipush (q := 57) (v := 9) dX5_readRule_55 rfl (by decide) ?_
  refine rr_icmp_ne (q := 60) (tgt := 64) dX5_readRule_57 (by decide) rfl hm (fun hm => ?_) (fun hm => ?_)
  · refine rr_iconst (q := 65) (v := 0) dX5_readRule_64 rfl (by decide) ?_
    exact vt_X5_readRule_J65  hm hp
  · refine rr_iconst (q := 61) (v := 1) dX5_readRule_60 rfl (by decide) ?_
    refine rr_goto (tgt := 65) dX5_readRule_61 (by decide) ?_
    exact vt_X5_readRule_J65  hm hp
set_option maxHeartbeats 200000 in
theorem vt_X5_readRule {x : vv_E} {post : Option Value → vv_H → Prop} {h : vv_H} {b2 : Bool} {v3 : Int32} {v4 : Int32} {o : Int32 × vv_H}  (hm : ff_X5_readRule  h b2 v3 v4 = some o) (hp : post (some (.int o.1)) o.2) : vv_V x vv_TC mm_X5_readRule post 0 [some (.ref (vv_ad x 55)), some (.ref (vv_ad x 50)), some (.ref (vv_ad x (vv_rid b2))), some (.int v3), some (.int v4), none, none, none, none] [] h := by
  unfold ff_X5_readRule at hm
  refine rr_aload_n (q := 1) dX5_readRule_0 rfl rfl ?_
  refine rr_aload_n (q := 2) dX5_readRule_1 rfl rfl ?_
  refine gf_X5_18 (q := 5) rfl dX5_readRule_2 rfl ?_
  obtain ⟨r1, k2, hm⟩ := vv_bind hm
  refine rr_callV (q := 8) (M' := mm_X10_placeAt) (As := [.int (h.1 55 2)]) (st := []) (w := some (.int r1)) (cc_X10_placeAt  k2) rfl ylC_50 ynC_50 rfl vy_X10_placeAt zw_183 ⟨Nat.le_of_ble_eq_true rfl, Nat.le_of_ble_eq_true rfl⟩ (Nat.le_of_ble_eq_true rfl) dX5_readRule_5 rfl ?_
  show vv_V x vv_TC mm_X5_readRule post 8 [some (.ref (vv_ad x 55)), some (.ref (vv_ad x 50)), some (.ref (vv_ad x (vv_rid b2))), some (.int v3), some (.int v4), none, none, none, none] [.int r1] h
  refine rr_istore (q := 10) [some (.ref (vv_ad x 55)), some (.ref (vv_ad x 50)), some (.ref (vv_ad x (vv_rid b2))), some (.int v3), some (.int v4), some (.int r1), none, none, none] dX5_readRule_8 rfl (Nat.le_of_ble_eq_true rfl) rfl rfl ?_
  refine rr_aload_n (q := 11) dX5_readRule_10 rfl rfl ?_
  refine rr_aload_n (q := 12) dX5_readRule_11 rfl rfl ?_
  refine rr_iconst (q := 13) (v := 0) dX5_readRule_12 rfl (by decide) ?_
  refine rr_iconst (q := 14) (v := 3) dX5_readRule_13 rfl (by decide) ?_
  obtain ⟨r3, k4, hm⟩ := vv_bind hm
  refine rr_callV (q := 17) (M' := mm_X5_takeNumber) (As := [.ref (vv_ad x 50), .int (0 : Int32), .int (3 : Int32)]) (st := []) (w := some (.int r3.1)) (cc_X5_takeNumber  k4) rfl ylC_55 ynC_55 rfl vy_X5_takeNumber zw_648 ⟨Nat.le_of_ble_eq_true rfl, Nat.le_of_ble_eq_true rfl⟩ (Nat.le_of_ble_eq_true rfl) dX5_readRule_14 rfl ?_
  show vv_V x vv_TC mm_X5_readRule post 17 [some (.ref (vv_ad x 55)), some (.ref (vv_ad x 50)), some (.ref (vv_ad x (vv_rid b2))), some (.int v3), some (.int v4), some (.int r1), none, none, none] [.int r3.1] r3.2
  refine rr_if_ne (q := 20) (tgt := 22) dX5_readRule_17 (by decide) rfl hm (fun hm => ?_) (fun hm => ?_)
  · refine rr_aload_n (q := 23) dX5_readRule_22 rfl rfl ?_
    refine gf_X5_51 (q := 26) rfl dX5_readRule_23 rfl ?_
    obtain ⟨w5, c6, hm⟩ := vv_let_of hm
    rw [← c6]
    refine rr_istore (q := 28) [some (.ref (vv_ad x 55)), some (.ref (vv_ad x 50)), some (.ref (vv_ad x (vv_rid b2))), some (.int v3), some (.int v4), some (.int r1), some (.int w5), none, none] dX5_readRule_26 rfl (Nat.le_of_ble_eq_true rfl) rfl rfl ?_
    refine rr_iload_n (q := 29) dX5_readRule_28 rfl rfl ?_
    refine rr_bipush (q := 31) (v := 8) dX5_readRule_29 rfl (by decide) ?_
    refine rr_icmp_eq (q := 34) (tgt := 54) dX5_readRule_31 (by decide) rfl hm (fun hm => ?_) (fun hm => ?_)
    · refine rr_sub [true, true, true, true, true, false, true, false, false] rfl ?_
      exact vt_X5_readRule_J54  hm hp
    · refine rr_aload_n (q := 35) dX5_readRule_34 rfl rfl ?_
      refine rr_iload_n (q := 36) dX5_readRule_35 rfl rfl ?_
      refine rr_iload (q := 38) dX5_readRule_36 rfl rfl ?_
      refine rr_iload (q := 40) dX5_readRule_38 rfl rfl ?_
      obtain ⟨r11, k12, hm⟩ := vv_bind hm
      refine rr_callV (q := 43) (M' := mm_X6_isTold) (As := [.int v3, .int w5, .int v4]) (st := []) (w := some (.int r11)) (cc_X6_isTold  k12) rfl (yr_0 b2).1 (yr_0 b2).2 rfl vy_X6_isTold zw_658 ⟨Nat.le_of_ble_eq_true rfl, Nat.le_of_ble_eq_true rfl⟩ (Nat.le_of_ble_eq_true rfl) dX5_readRule_40 rfl ?_
      show vv_V x vv_TC mm_X5_readRule post 43 [some (.ref (vv_ad x 55)), some (.ref (vv_ad x 50)), some (.ref (vv_ad x (vv_rid b2))), some (.int v3), some (.int v4), some (.int r1), some (.int w5), none, none] [.int r11] r3.2
      refine rr_if_eq (q := 46) (tgt := 54) dX5_readRule_43 (by decide) rfl hm (fun hm => ?_) (fun hm => ?_)
      · refine rr_sub [true, true, true, true, true, false, true, false, false] rfl ?_
        exact vt_X5_readRule_J54  hm hp
      · refine rr_aload_n (q := 47) dX5_readRule_46 rfl rfl ?_
        refine rr_iconst (q := 48) (v := 5) dX5_readRule_47 rfl (by decide) ?_
        refine rr_iload (q := 50) dX5_readRule_48 rfl rfl ?_
        obtain ⟨r13, k14, hm⟩ := vv_bind hm
        refine rr_callV (q := 53) (M' := mm_X5_refuse) (As := [.int (5 : Int32), .int r1]) (st := []) (w := some (.int r13.1)) (cc_X5_refuse  k14) rfl ylC_55 ynC_55 rfl vy_X5_refuse zw_188 ⟨Nat.le_of_ble_eq_true rfl, Nat.le_of_ble_eq_true rfl⟩ (Nat.le_of_ble_eq_true rfl) dX5_readRule_50 rfl ?_
        show vv_V x vv_TC mm_X5_readRule post 53 [some (.ref (vv_ad x 55)), some (.ref (vv_ad x 50)), some (.ref (vv_ad x (vv_rid b2))), some (.int v3), some (.int v4), some (.int r1), some (.int w5), none, none] [.int r13.1] r13.2
        obtain ⟨c15, hm⟩ := vv_zk_of hm
        obtain rfl := Option.some.inj hm
        exact rr_zret dX5_readRule_53 rfl c15 hp
  · refine rr_iconst (q := 21) (v := 0) dX5_readRule_20 rfl (by decide) ?_
    obtain rfl := Option.some.inj hm
    exact rr_zret dX5_readRule_21 rfl rfl hp
theorem cc_X5_readRule {x : vv_E} {h : vv_H} {b2 : Bool} {v3 : Int32} {v4 : Int32} {o : Int32 × vv_H}  (hm : ff_X5_readRule h b2 v3 v4 = some o) : vv_C x vv_TC yX5_readRule mm_X5_readRule [.ref (vv_ad x 55), .ref (vv_ad x 50), .ref (vv_ad x (vv_rid b2)), .int v3, .int v4] h (fun v g => v = some (.int o.1) ∧ g = o.2) := vv_entry (by decide +kernel) rfl (Nat.le_of_ble_eq_true rfl) rfl (vt_X5_readRule  hm ⟨rfl, rfl⟩)
def ff_X5_readTests_B2 (b2 : Bool) (s3 : Int32) (h : vv_H) : Option ((Int32 × vv_H) ⊕ ((vv_H) ⊕ (vv_H) ⊕ (vv_H) ⊕ (vv_H) ⊕ (vv_H) ⊕ (vv_H))) := (if (3 : Int32) < s3 then some (.inr (.inl h)) else vv_let (vv_iu h 55 2 ((h.1 55 2) + (1 : Int32))) (fun g1 => (ff_X10_tokenAt g1 (g1.1 55 2)).bind (fun r3 => (if r3 < (13 : Int32) then some (.inr (.inr (.inl g1))) else (if r3 ≤ (15 : Int32) then (if s3 < (3 : Int32) then vv_let (vv_iu g1 55 2 ((g1.1 55 2) + (1 : Int32))) (fun g5 => (ff_X10_tokenAt g5 (g5.1 55 2)).bind (fun r7 => (if r7 < (3 : Int32) then some (.inr (.inr (.inr (.inr (.inl g5))))) else (if r7 ≤ (5 : Int32) then vv_let (vv_iu g5 55 2 ((g5.1 55 2) + (1 : Int32))) (fun g9 => (ff_X5_takeNumber g9 (0 : Int32) (9 : Int32)).bind (fun r11 => (if r11.1 = 0 then some (.inr (.inr (.inr (.inr (.inr (.inl r11.2)))))) else (ff_X6_addTest r11.2 b2 (r3 - (13 : Int32)) r7 (r11.2.1 55 3)).bind (fun r13 => (ff_X10_tokenAt r13 (r13.1 55 2)).bind (fun r15 => (if r15 = (12 : Int32) then vv_let (s3 + 1) (fun w17 => some (.inl (w17, r13))) else some (.inr (.inr (.inr (.inr (.inr (.inr r13)))))))))))) else some (.inr (.inr (.inr (.inr (.inl g5))))))))) else some (.inr (.inr (.inr (.inl g1))))) else some (.inr (.inr (.inl g1))))))))
def ff_X5_readTests (h : vv_H) (b2 : Bool) : Option (Int32 × vv_H) := (vv_lp (fun (zs : Int32 × vv_H) => ff_X5_readTests_B2  b2 zs.1 zs.2) vv_F ((0 : Int32), h)).bind (Sum.elim (fun (e20 : (vv_H)) => some ((1 : Int32), e20)) (Sum.elim (fun (e21 : (vv_H)) => (ff_X5_refuseToken e21).bind (fun r22 => vv_zk r22.1 (some (r22.1, r22.2)))) (Sum.elim (fun (e25 : (vv_H)) => (ff_X10_placeAt e25 (e25.1 55 2)).bind (fun r26 => (ff_X5_refuse e25 (4 : Int32) r26).bind (fun r28 => vv_zk r28.1 (some (r28.1, r28.2))))) (Sum.elim (fun (e31 : (vv_H)) => (ff_X5_refuseToken e31).bind (fun r32 => vv_zk r32.1 (some (r32.1, r32.2)))) (Sum.elim (fun (e35 : (vv_H)) => some ((0 : Int32), e35)) (fun (e36 : (vv_H)) => some ((1 : Int32), e36)))))))
set_option maxHeartbeats 200000 in
theorem vt_X5_readTests_B2 {x : vv_E} {post : Option Value → vv_H → Prop} {b2 : Bool} {s3 : Int32} {h : vv_H} {o : (Int32 × vv_H) ⊕ ((vv_H) ⊕ (vv_H) ⊕ (vv_H) ⊕ (vv_H) ⊕ (vv_H) ⊕ (vv_H))}  (hm : ff_X5_readTests_B2  b2 s3 h = some o) (hI : ∀ (z3 : Int32) (zh : vv_H), o = .inl (z3, zh) → vv_V x vv_TC mm_X5_readTests post 2 [some (.ref (vv_ad x 55)), some (.ref (vv_ad x 50)), some (.ref (vv_ad x (vv_rid b2))), some (.int z3), none, none] [] zh) (hX0 : ∀  (zh : vv_H), o = .inr (.inl zh) → vv_V x vv_TC mm_X5_readTests post 163 [none, none, none, none, none, none] [] zh) (hX1 : ∀  (zh : vv_H), o = .inr (.inr (.inl zh)) → vv_V x vv_TC mm_X5_readTests post 41 [some (.ref (vv_ad x 55)), some (.ref (vv_ad x 50)), none, none, none, none] [] zh) (hX2 : ∀  (zh : vv_H), o = .inr (.inr (.inr (.inl zh))) → vv_V x vv_TC mm_X5_readTests post 52 [some (.ref (vv_ad x 55)), some (.ref (vv_ad x 50)), none, none, none, none] [] zh) (hX3 : ∀  (zh : vv_H), o = .inr (.inr (.inr (.inr (.inl zh)))) → vv_V x vv_TC mm_X5_readTests post 98 [some (.ref (vv_ad x 55)), some (.ref (vv_ad x 50)), none, none, none, none] [] zh) (hX4 : ∀  (zh : vv_H), o = .inr (.inr (.inr (.inr (.inr (.inl zh))))) → vv_V x vv_TC mm_X5_readTests post 125 [none, none, none, none, none, none] [] zh) (hX5 : ∀  (zh : vv_H), o = .inr (.inr (.inr (.inr (.inr (.inr zh))))) → vv_V x vv_TC mm_X5_readTests post 155 [none, none, none, none, none, none] [] zh) : vv_V x vv_TC mm_X5_readTests post 2 [some (.ref (vv_ad x 55)), some (.ref (vv_ad x 50)), some (.ref (vv_ad x (vv_rid b2))), some (.int s3), none, none] [] h := by
  unfold ff_X5_readTests_B2 at hm
  refine rr_iload_n (q := 3) dX5_readTests_2 rfl rfl ?_
  refine rr_iconst (q := 4) (v := 3) dX5_readTests_3 rfl (by decide) ?_
  refine rr_icmp_gt (q := 7) (tgt := 163) dX5_readTests_4 (by decide) rfl hm (fun hm => ?_) (fun hm => ?_)
  · obtain rfl := Option.some.inj hm
    refine rr_sub [false, false, false, false, false, false] rfl ?_
    exact hX0 h rfl
  · refine rr_aload_n (q := 8) dX5_readTests_7 rfl rfl ?_
    refine rr_dup (q := 9) dX5_readTests_8 rfl rfl ?_
    refine gf_X5_18 (q := 12) rfl dX5_readTests_9 rfl ?_
    refine rr_iconst (q := 13) (v := 1) dX5_readTests_12 rfl (by decide) ?_
    refine rr_iadd (q := 14) dX5_readTests_13 rfl ?_
    refine pf_X5_18 (q := 17) rfl dX5_readTests_14 rfl (fun g1 c2 => ?_)
    replace hm := vv_letE hm c2
    refine rr_aload_n (q := 18) dX5_readTests_17 rfl rfl ?_
    refine rr_aload_n (q := 19) dX5_readTests_18 rfl rfl ?_
    refine gf_X5_18 (q := 22) rfl dX5_readTests_19 rfl ?_
    obtain ⟨r3, k4, hm⟩ := vv_bind hm
    refine rr_callV (q := 25) (M' := mm_X10_tokenAt) (As := [.int (g1.1 55 2)]) (st := []) (w := some (.int r3)) (cc_X10_tokenAt  k4) rfl ylC_50 ynC_50 rfl vy_X10_tokenAt zw_178 ⟨Nat.le_of_ble_eq_true rfl, Nat.le_of_ble_eq_true rfl⟩ (Nat.le_of_ble_eq_true rfl) dX5_readTests_22 rfl ?_
    show vv_V x vv_TC mm_X5_readTests post 25 [some (.ref (vv_ad x 55)), some (.ref (vv_ad x 50)), some (.ref (vv_ad x (vv_rid b2))), some (.int s3), none, none] [.int r3] g1
    refine rr_istore (q := 27) [some (.ref (vv_ad x 55)), some (.ref (vv_ad x 50)), some (.ref (vv_ad x (vv_rid b2))), some (.int s3), some (.int r3), none] dX5_readTests_25 rfl (Nat.le_of_ble_eq_true rfl) rfl rfl ?_
    refine rr_iload (q := 29) dX5_readTests_27 rfl rfl ?_
    refine rr_bipush (q := 31) (v := 13) dX5_readTests_29 rfl (by decide) ?_
    refine rr_icmp_lt (q := 34) (tgt := 41) dX5_readTests_31 (by decide) rfl hm (fun hm => ?_) (fun hm => ?_)
    · obtain rfl := Option.some.inj hm
      refine rr_sub [true, true, false, false, false, false] rfl ?_
      exact hX1 g1 rfl
    · refine rr_iload (q := 36) dX5_readTests_34 rfl rfl ?_
      refine rr_bipush (q := 38) (v := 15) dX5_readTests_36 rfl (by decide) ?_
      refine rr_icmp_le (q := 41) (tgt := 47) dX5_readTests_38 (by decide) rfl hm (fun hm => ?_) (fun hm => ?_)
      · refine rr_iload_n (q := 48) dX5_readTests_47 rfl rfl ?_
        refine rr_iconst (q := 49) (v := 3) dX5_readTests_48 rfl (by decide) ?_
        refine rr_icmp_lt (q := 52) (tgt := 66) dX5_readTests_49 (by decide) rfl hm (fun hm => ?_) (fun hm => ?_)
        · refine rr_aload_n (q := 67) dX5_readTests_66 rfl rfl ?_
          refine rr_dup (q := 68) dX5_readTests_67 rfl rfl ?_
          refine gf_X5_18 (q := 71) rfl dX5_readTests_68 rfl ?_
          refine rr_iconst (q := 72) (v := 1) dX5_readTests_71 rfl (by decide) ?_
          refine rr_iadd (q := 73) dX5_readTests_72 rfl ?_
          refine pf_X5_18 (q := 76) rfl dX5_readTests_73 rfl (fun g5 c6 => ?_)
          replace hm := vv_letE hm c6
          refine rr_aload_n (q := 77) dX5_readTests_76 rfl rfl ?_
          refine rr_aload_n (q := 78) dX5_readTests_77 rfl rfl ?_
          refine gf_X5_18 (q := 81) rfl dX5_readTests_78 rfl ?_
          obtain ⟨r7, k8, hm⟩ := vv_bind hm
          refine rr_callV (q := 84) (M' := mm_X10_tokenAt) (As := [.int (g5.1 55 2)]) (st := []) (w := some (.int r7)) (cc_X10_tokenAt  k8) rfl ylC_50 ynC_50 rfl vy_X10_tokenAt zw_178 ⟨Nat.le_of_ble_eq_true rfl, Nat.le_of_ble_eq_true rfl⟩ (Nat.le_of_ble_eq_true rfl) dX5_readTests_81 rfl ?_
          show vv_V x vv_TC mm_X5_readTests post 84 [some (.ref (vv_ad x 55)), some (.ref (vv_ad x 50)), some (.ref (vv_ad x (vv_rid b2))), some (.int s3), some (.int r3), none] [.int r7] g5
          refine rr_istore (q := 86) [some (.ref (vv_ad x 55)), some (.ref (vv_ad x 50)), some (.ref (vv_ad x (vv_rid b2))), some (.int s3), some (.int r3), some (.int r7)] dX5_readTests_84 rfl (Nat.le_of_ble_eq_true rfl) rfl rfl ?_
          refine rr_iload (q := 88) dX5_readTests_86 rfl rfl ?_
          refine rr_iconst (q := 89) (v := 3) dX5_readTests_88 rfl (by decide) ?_
          refine rr_icmp_lt (q := 92) (tgt := 98) dX5_readTests_89 (by decide) rfl hm (fun hm => ?_) (fun hm => ?_)
          · obtain rfl := Option.some.inj hm
            refine rr_sub [true, true, false, false, false, false] rfl ?_
            exact hX3 g5 rfl
          · refine rr_iload (q := 94) dX5_readTests_92 rfl rfl ?_
            refine rr_iconst (q := 95) (v := 5) dX5_readTests_94 rfl (by decide) ?_
            refine rr_icmp_le (q := 98) (tgt := 104) dX5_readTests_95 (by decide) rfl hm (fun hm => ?_) (fun hm => ?_)
            · refine rr_aload_n (q := 105) dX5_readTests_104 rfl rfl ?_
              refine rr_dup (q := 106) dX5_readTests_105 rfl rfl ?_
              refine gf_X5_18 (q := 109) rfl dX5_readTests_106 rfl ?_
              refine rr_iconst (q := 110) (v := 1) dX5_readTests_109 rfl (by decide) ?_
              refine rr_iadd (q := 111) dX5_readTests_110 rfl ?_
              refine pf_X5_18 (q := 114) rfl dX5_readTests_111 rfl (fun g9 c10 => ?_)
              replace hm := vv_letE hm c10
              refine rr_aload_n (q := 115) dX5_readTests_114 rfl rfl ?_
              refine rr_aload_n (q := 116) dX5_readTests_115 rfl rfl ?_
              refine rr_iconst (q := 117) (v := 0) dX5_readTests_116 rfl (by decide) ?_
              refine rr_bipush (q := 119) (v := 9) dX5_readTests_117 rfl (by decide) ?_
              obtain ⟨r11, k12, hm⟩ := vv_bind hm
              refine rr_callV (q := 122) (M' := mm_X5_takeNumber) (As := [.ref (vv_ad x 50), .int (0 : Int32), .int (9 : Int32)]) (st := []) (w := some (.int r11.1)) (cc_X5_takeNumber  k12) rfl ylC_55 ynC_55 rfl vy_X5_takeNumber zw_648 ⟨Nat.le_of_ble_eq_true rfl, Nat.le_of_ble_eq_true rfl⟩ (Nat.le_of_ble_eq_true rfl) dX5_readTests_119 rfl ?_
              show vv_V x vv_TC mm_X5_readTests post 122 [some (.ref (vv_ad x 55)), some (.ref (vv_ad x 50)), some (.ref (vv_ad x (vv_rid b2))), some (.int s3), some (.int r3), some (.int r7)] [.int r11.1] r11.2
              refine rr_if_ne (q := 125) (tgt := 127) dX5_readTests_122 (by decide) rfl hm (fun hm => ?_) (fun hm => ?_)
              · refine rr_aload_n (q := 128) dX5_readTests_127 rfl rfl ?_
                refine rr_iload (q := 130) dX5_readTests_128 rfl rfl ?_
                refine rr_bipush (q := 132) (v := 13) dX5_readTests_130 rfl (by decide) ?_
                refine rr_isub (q := 133) dX5_readTests_132 rfl ?_
                refine rr_iload (q := 135) dX5_readTests_133 rfl rfl ?_
                refine rr_aload_n (q := 136) dX5_readTests_135 rfl rfl ?_
                refine gf_X5_51 (q := 139) rfl dX5_readTests_136 rfl ?_
                obtain ⟨r13, k14, hm⟩ := vv_bind hm
                refine rr_callV (q := 142) (M' := mm_X6_addTest) (As := [.int (r3 - (13 : Int32)), .int r7, .int (r11.2.1 55 3)]) (st := []) (w := none) (cc_X6_addTest  k14) rfl (yr_0 b2).1 (yr_0 b2).2 rfl vy_X6_addTest zw_663 ⟨Nat.le_of_ble_eq_true rfl, Nat.le_of_ble_eq_true rfl⟩ (Nat.le_of_ble_eq_true rfl) dX5_readTests_139 rfl ?_
                show vv_V x vv_TC mm_X5_readTests post 142 [some (.ref (vv_ad x 55)), some (.ref (vv_ad x 50)), some (.ref (vv_ad x (vv_rid b2))), some (.int s3), some (.int r3), some (.int r7)] [] r13
                refine rr_aload_n (q := 143) dX5_readTests_142 rfl rfl ?_
                refine rr_aload_n (q := 144) dX5_readTests_143 rfl rfl ?_
                refine gf_X5_18 (q := 147) rfl dX5_readTests_144 rfl ?_
                obtain ⟨r15, k16, hm⟩ := vv_bind hm
                refine rr_callV (q := 150) (M' := mm_X10_tokenAt) (As := [.int (r13.1 55 2)]) (st := []) (w := some (.int r15)) (cc_X10_tokenAt  k16) rfl ylC_50 ynC_50 rfl vy_X10_tokenAt zw_178 ⟨Nat.le_of_ble_eq_true rfl, Nat.le_of_ble_eq_true rfl⟩ (Nat.le_of_ble_eq_true rfl) dX5_readTests_147 rfl ?_
                show vv_V x vv_TC mm_X5_readTests post 150 [some (.ref (vv_ad x 55)), some (.ref (vv_ad x 50)), some (.ref (vv_ad x (vv_rid b2))), some (.int s3), some (.int r3), some (.int r7)] [.int r15] r13
                refine rr_bipush (q := 152) (v := 12) dX5_readTests_150 rfl (by decide) ?_
                refine rr_icmp_eq (q := 155) (tgt := 157) dX5_readTests_152 (by decide) rfl hm (fun hm => ?_) (fun hm => ?_)
                · obtain ⟨w17, c18, hm⟩ := vv_let_of hm
                  refine rr_iinc (q := 160) [some (.ref (vv_ad x 55)), some (.ref (vv_ad x 50)), some (.ref (vv_ad x (vv_rid b2))), some (.int w17), some (.int r3), some (.int r7)] dX5_readTests_157 rfl rfl c18.symm (Nat.le_of_ble_eq_true rfl) rfl rfl ?_
                  refine rr_goto (tgt := 2) dX5_readTests_160 (by decide) ?_
                  obtain rfl := Option.some.inj hm
                  refine rr_sub [true, true, true, true, false, false] rfl ?_
                  exact hI w17 r13 rfl
                · obtain rfl := Option.some.inj hm
                  refine rr_sub [false, false, false, false, false, false] rfl ?_
                  exact hX5 r13 rfl
              · obtain rfl := Option.some.inj hm
                refine rr_sub [false, false, false, false, false, false] rfl ?_
                exact hX4 r11.2 rfl
            · obtain rfl := Option.some.inj hm
              refine rr_sub [true, true, false, false, false, false] rfl ?_
              exact hX3 g5 rfl
        · obtain rfl := Option.some.inj hm
          refine rr_sub [true, true, false, false, false, false] rfl ?_
          exact hX2 g1 rfl
      · obtain rfl := Option.some.inj hm
        refine rr_sub [true, true, false, false, false, false] rfl ?_
        exact hX1 g1 rfl
set_option maxHeartbeats 200000 in
theorem vt_X5_readTests {x : vv_E} {post : Option Value → vv_H → Prop} {h : vv_H} {b2 : Bool} {o : Int32 × vv_H}  (hm : ff_X5_readTests  h b2 = some o) (hp : post (some (.int o.1)) o.2) : vv_V x vv_TC mm_X5_readTests post 0 [some (.ref (vv_ad x 55)), some (.ref (vv_ad x 50)), some (.ref (vv_ad x (vv_rid b2))), none, none, none] [] h := by
  unfold ff_X5_readTests at hm
  refine rr_iconst (q := 1) (v := 0) dX5_readTests_0 rfl (by decide) ?_
  refine rr_istore_n (q := 2) [some (.ref (vv_ad x 55)), some (.ref (vv_ad x 50)), some (.ref (vv_ad x (vv_rid b2))), some (.int (0 : Int32)), none, none] dX5_readTests_1 rfl rfl (Nat.le_of_ble_eq_true rfl) rfl rfl ?_
  obtain ⟨r19, k37, hm⟩ := vv_bind hm
  refine vv_lp_link (P := fun (zs : Int32 × vv_H) => vv_V x vv_TC mm_X5_readTests post 2 [some (.ref (vv_ad x 55)), some (.ref (vv_ad x 50)), some (.ref (vv_ad x (vv_rid b2))), some (.int zs.1), none, none] [] zs.2) (Q := (Sum.elim (fun (e20 : (vv_H)) => vv_V x vv_TC mm_X5_readTests post 163 [none, none, none, none, none, none] [] e20) (Sum.elim (fun (e21 : (vv_H)) => vv_V x vv_TC mm_X5_readTests post 41 [some (.ref (vv_ad x 55)), some (.ref (vv_ad x 50)), none, none, none, none] [] e21) (Sum.elim (fun (e25 : (vv_H)) => vv_V x vv_TC mm_X5_readTests post 52 [some (.ref (vv_ad x 55)), some (.ref (vv_ad x 50)), none, none, none, none] [] e25) (Sum.elim (fun (e31 : (vv_H)) => vv_V x vv_TC mm_X5_readTests post 98 [some (.ref (vv_ad x 55)), some (.ref (vv_ad x 50)), none, none, none, none] [] e31) (Sum.elim (fun (e35 : (vv_H)) => vv_V x vv_TC mm_X5_readTests post 125 [none, none, none, none, none, none] [] e35) (fun (e36 : (vv_H)) => vv_V x vv_TC mm_X5_readTests post 155 [none, none, none, none, none, none] [] e36))))))) (fun zs o hm hI hX => ?_) vv_F ((0 : Int32), h) r19 k37 ?_
  · exact vt_X5_readTests_B2   hm (fun z3 zh e => hI (z3, zh) e) (fun zh e => hX (.inl zh) e) (fun zh e => hX (.inr (.inl zh)) e) (fun zh e => hX (.inr (.inr (.inl zh))) e) (fun zh e => hX (.inr (.inr (.inr (.inl zh)))) e) (fun zh e => hX (.inr (.inr (.inr (.inr (.inl zh))))) e) (fun zh e => hX (.inr (.inr (.inr (.inr (.inr zh))))) e)
  · rcases r19 with e20 | qe20
    · try dsimp only [Sum.elim_inl, Sum.elim_inr] at hm
      try dsimp only [Sum.elim_inl, Sum.elim_inr]
      refine rr_iconst (q := 164) (v := 1) dX5_readTests_163 rfl (by decide) ?_
      obtain rfl := Option.some.inj hm
      exact rr_zret dX5_readTests_164 rfl rfl hp
    · rcases qe20 with e21 | qe21
      · try dsimp only [Sum.elim_inl, Sum.elim_inr] at hm
        try dsimp only [Sum.elim_inl, Sum.elim_inr]
        refine rr_aload_n (q := 42) dX5_readTests_41 rfl rfl ?_
        refine rr_aload_n (q := 43) dX5_readTests_42 rfl rfl ?_
        obtain ⟨r22, k23, hm⟩ := vv_bind hm
        refine rr_callV (q := 46) (M' := mm_X5_refuseToken) (As := [.ref (vv_ad x 50)]) (st := []) (w := some (.int r22.1)) (cc_X5_refuseToken  k23) rfl ylC_55 ynC_55 rfl vy_X5_refuseToken zw_371 ⟨Nat.le_of_ble_eq_true rfl, Nat.le_of_ble_eq_true rfl⟩ (Nat.le_of_ble_eq_true rfl) dX5_readTests_43 rfl ?_
        show vv_V x vv_TC mm_X5_readTests post 46 [some (.ref (vv_ad x 55)), some (.ref (vv_ad x 50)), none, none, none, none] [.int r22.1] r22.2
        obtain ⟨c24, hm⟩ := vv_zk_of hm
        obtain rfl := Option.some.inj hm
        exact rr_zret dX5_readTests_46 rfl c24 hp
      · rcases qe21 with e25 | qe25
        · try dsimp only [Sum.elim_inl, Sum.elim_inr] at hm
          try dsimp only [Sum.elim_inl, Sum.elim_inr]
          refine rr_aload_n (q := 53) dX5_readTests_52 rfl rfl ?_
          refine rr_iconst (q := 54) (v := 4) dX5_readTests_53 rfl (by decide) ?_
          refine rr_aload_n (q := 55) dX5_readTests_54 rfl rfl ?_
          refine rr_aload_n (q := 56) dX5_readTests_55 rfl rfl ?_
          refine gf_X5_18 (q := 59) rfl dX5_readTests_56 rfl ?_
          obtain ⟨r26, k27, hm⟩ := vv_bind hm
          refine rr_callV (q := 62) (M' := mm_X10_placeAt) (As := [.int (e25.1 55 2)]) (st := [.int (4 : Int32), .ref (vv_ad x 55)]) (w := some (.int r26)) (cc_X10_placeAt  k27) rfl ylC_50 ynC_50 rfl vy_X10_placeAt zw_183 ⟨Nat.le_of_ble_eq_true rfl, Nat.le_of_ble_eq_true rfl⟩ (Nat.le_of_ble_eq_true rfl) dX5_readTests_59 rfl ?_
          show vv_V x vv_TC mm_X5_readTests post 62 [some (.ref (vv_ad x 55)), some (.ref (vv_ad x 50)), none, none, none, none] [.int r26, .int (4 : Int32), .ref (vv_ad x 55)] e25
          obtain ⟨r28, k29, hm⟩ := vv_bind hm
          refine rr_callV (q := 65) (M' := mm_X5_refuse) (As := [.int (4 : Int32), .int r26]) (st := []) (w := some (.int r28.1)) (cc_X5_refuse  k29) rfl ylC_55 ynC_55 rfl vy_X5_refuse zw_188 ⟨Nat.le_of_ble_eq_true rfl, Nat.le_of_ble_eq_true rfl⟩ (Nat.le_of_ble_eq_true rfl) dX5_readTests_62 rfl ?_
          show vv_V x vv_TC mm_X5_readTests post 65 [some (.ref (vv_ad x 55)), some (.ref (vv_ad x 50)), none, none, none, none] [.int r28.1] r28.2
          obtain ⟨c30, hm⟩ := vv_zk_of hm
          obtain rfl := Option.some.inj hm
          exact rr_zret dX5_readTests_65 rfl c30 hp
        · rcases qe25 with e31 | qe31
          · try dsimp only [Sum.elim_inl, Sum.elim_inr] at hm
            try dsimp only [Sum.elim_inl, Sum.elim_inr]
            refine rr_aload_n (q := 99) dX5_readTests_98 rfl rfl ?_
            refine rr_aload_n (q := 100) dX5_readTests_99 rfl rfl ?_
            obtain ⟨r32, k33, hm⟩ := vv_bind hm
            refine rr_callV (q := 103) (M' := mm_X5_refuseToken) (As := [.ref (vv_ad x 50)]) (st := []) (w := some (.int r32.1)) (cc_X5_refuseToken  k33) rfl ylC_55 ynC_55 rfl vy_X5_refuseToken zw_371 ⟨Nat.le_of_ble_eq_true rfl, Nat.le_of_ble_eq_true rfl⟩ (Nat.le_of_ble_eq_true rfl) dX5_readTests_100 rfl ?_
            show vv_V x vv_TC mm_X5_readTests post 103 [some (.ref (vv_ad x 55)), some (.ref (vv_ad x 50)), none, none, none, none] [.int r32.1] r32.2
            obtain ⟨c34, hm⟩ := vv_zk_of hm
            obtain rfl := Option.some.inj hm
            exact rr_zret dX5_readTests_103 rfl c34 hp
          · rcases qe31 with e35 | qe35
            · try dsimp only [Sum.elim_inl, Sum.elim_inr] at hm
              try dsimp only [Sum.elim_inl, Sum.elim_inr]
              refine rr_iconst (q := 126) (v := 0) dX5_readTests_125 rfl (by decide) ?_
              obtain rfl := Option.some.inj hm
              exact rr_zret dX5_readTests_126 rfl rfl hp
            · generalize qe35 = e36 at hm ⊢
              try dsimp only [Sum.elim_inl, Sum.elim_inr] at hm
              try dsimp only [Sum.elim_inl, Sum.elim_inr]
              refine rr_iconst (q := 156) (v := 1) dX5_readTests_155 rfl (by decide) ?_
              obtain rfl := Option.some.inj hm
              exact rr_zret dX5_readTests_156 rfl rfl hp
theorem cc_X5_readTests {x : vv_E} {h : vv_H} {b2 : Bool} {o : Int32 × vv_H}  (hm : ff_X5_readTests h b2 = some o) : vv_C x vv_TC yX5_readTests mm_X5_readTests [.ref (vv_ad x 55), .ref (vv_ad x 50), .ref (vv_ad x (vv_rid b2))] h (fun v g => v = some (.int o.1) ∧ g = o.2) := vv_entry (by decide +kernel) rfl (Nat.le_of_ble_eq_true rfl) rfl (vt_X5_readTests  hm ⟨rfl, rfl⟩)
def ff_X11_size (h : vv_H) (v1 : Int32) (v2 : Int32) (v3 : Int32) (v4 : Int32) (v5 : Int32) (v6 : Int32) (v7 : Int32) : Option (Int32 × vv_H) := (ff_X11_isKind v1).bind (fun r1 => (if r1 = 0 then some ((-1 : Int32), h) else (ff_X11_isSpan v2 v3).bind (fun r3 => (if r3 = 0 then some ((-1 : Int32), h) else (ff_X11_isSpan v4 v5).bind (fun r5 => (if r5 = 0 then some ((-1 : Int32), h) else (ff_X11_isSpan v6 v7).bind (fun r7 => (if r7 = 0 then some ((-1 : Int32), h) else (ff_X8_add h v1).bind (fun r9 => (if r9.1 < 0 then some (r9.1, r9.2) else (ff_X8_limit r9.2 r9.1 (0 : Int32) v2 v3).bind (fun r11 => (ff_X8_limit r11 r9.1 (1 : Int32) v4 v5).bind (fun r13 => (ff_X8_limit r13 r9.1 (2 : Int32) v6 v7).bind (fun r15 => some (r9.1, r15))))))))))))))
set_option maxHeartbeats 200000 in
theorem vt_X11_size {x : vv_E} {post : Option Value → vv_H → Prop} {h : vv_H} {v1 : Int32} {v2 : Int32} {v3 : Int32} {v4 : Int32} {v5 : Int32} {v6 : Int32} {v7 : Int32} {o : Int32 × vv_H}  (hm : ff_X11_size  h v1 v2 v3 v4 v5 v6 v7 = some o) (hp : post (some (.int o.1)) o.2) : vv_V x vv_TC mm_X11_size post 0 [some (.ref (vv_ad x 0)), some (.int v1), some (.int v2), some (.int v3), some (.int v4), some (.int v5), some (.int v6), some (.int v7), none] [] h := by
  unfold ff_X11_size at hm
  refine rr_iload_n (q := 1) dX11_size_0 rfl rfl ?_
  obtain ⟨r1, k2, hm⟩ := vv_bind hm
  refine rr_callS (q := 4) (M' := mm_X11_isKind) (As := [.int v1]) (st := []) (w := some (.int r1))  (cc_X11_isKind  k2) rfl vy_X11_isKind zw_408 ⟨Nat.le_of_ble_eq_true rfl, Nat.le_of_ble_eq_true rfl⟩ (Nat.le_of_ble_eq_true rfl) dX11_size_1 rfl ?_
  show vv_V x vv_TC mm_X11_size post 4 [some (.ref (vv_ad x 0)), some (.int v1), some (.int v2), some (.int v3), some (.int v4), some (.int v5), some (.int v6), some (.int v7), none] [.int r1] h
  refine rr_if_eq (q := 7) (tgt := 35) dX11_size_4 (by decide) rfl hm (fun hm => ?_) (fun hm => ?_)
  · refine rr_iconst (q := 36) (v := -1) dX11_size_35 rfl (by decide) ?_
    obtain rfl := Option.some.inj hm
    exact rr_iret dX11_size_36 rfl hp
  · refine rr_iload_n (q := 8) dX11_size_7 rfl rfl ?_
    refine rr_iload_n (q := 9) dX11_size_8 rfl rfl ?_
    obtain ⟨r3, k4, hm⟩ := vv_bind hm
    refine rr_callS (q := 12) (M' := mm_X11_isSpan) (As := [.int v2, .int v3]) (st := []) (w := some (.int r3))  (cc_X11_isSpan  k4) rfl vy_X11_isSpan zw_667 ⟨Nat.le_of_ble_eq_true rfl, Nat.le_of_ble_eq_true rfl⟩ (Nat.le_of_ble_eq_true rfl) dX11_size_9 rfl ?_
    show vv_V x vv_TC mm_X11_size post 12 [some (.ref (vv_ad x 0)), some (.int v1), some (.int v2), some (.int v3), some (.int v4), some (.int v5), some (.int v6), some (.int v7), none] [.int r3] h
    refine rr_if_eq (q := 15) (tgt := 35) dX11_size_12 (by decide) rfl hm (fun hm => ?_) (fun hm => ?_)
    · refine rr_iconst (q := 36) (v := -1) dX11_size_35 rfl (by decide) ?_
      obtain rfl := Option.some.inj hm
      exact rr_iret dX11_size_36 rfl hp
    · refine rr_iload (q := 17) dX11_size_15 rfl rfl ?_
      refine rr_iload (q := 19) dX11_size_17 rfl rfl ?_
      obtain ⟨r5, k6, hm⟩ := vv_bind hm
      refine rr_callS (q := 22) (M' := mm_X11_isSpan) (As := [.int v4, .int v5]) (st := []) (w := some (.int r5))  (cc_X11_isSpan  k6) rfl vy_X11_isSpan zw_667 ⟨Nat.le_of_ble_eq_true rfl, Nat.le_of_ble_eq_true rfl⟩ (Nat.le_of_ble_eq_true rfl) dX11_size_19 rfl ?_
      show vv_V x vv_TC mm_X11_size post 22 [some (.ref (vv_ad x 0)), some (.int v1), some (.int v2), some (.int v3), some (.int v4), some (.int v5), some (.int v6), some (.int v7), none] [.int r5] h
      refine rr_if_eq (q := 25) (tgt := 35) dX11_size_22 (by decide) rfl hm (fun hm => ?_) (fun hm => ?_)
      · refine rr_iconst (q := 36) (v := -1) dX11_size_35 rfl (by decide) ?_
        obtain rfl := Option.some.inj hm
        exact rr_iret dX11_size_36 rfl hp
      · refine rr_iload (q := 27) dX11_size_25 rfl rfl ?_
        refine rr_iload (q := 29) dX11_size_27 rfl rfl ?_
        obtain ⟨r7, k8, hm⟩ := vv_bind hm
        refine rr_callS (q := 32) (M' := mm_X11_isSpan) (As := [.int v6, .int v7]) (st := []) (w := some (.int r7))  (cc_X11_isSpan  k8) rfl vy_X11_isSpan zw_667 ⟨Nat.le_of_ble_eq_true rfl, Nat.le_of_ble_eq_true rfl⟩ (Nat.le_of_ble_eq_true rfl) dX11_size_29 rfl ?_
        show vv_V x vv_TC mm_X11_size post 32 [some (.ref (vv_ad x 0)), some (.int v1), some (.int v2), some (.int v3), some (.int v4), some (.int v5), some (.int v6), some (.int v7), none] [.int r7] h
        refine rr_if_ne (q := 35) (tgt := 37) dX11_size_32 (by decide) rfl hm (fun hm => ?_) (fun hm => ?_)
        · refine rr_aload_n (q := 38) dX11_size_37 rfl rfl ?_
          refine gf_X11_26 (q := 41) rfl dX11_size_38 rfl ?_
          refine rr_iload_n (q := 42) dX11_size_41 rfl rfl ?_
          obtain ⟨r9, k10, hm⟩ := vv_bind hm
          refine rr_callV (q := 45) (M' := mm_X8_add) (As := [.int v1]) (st := []) (w := some (.int r9.1)) (cc_X8_add  k10) rfl ylC_22 ynC_22 rfl vy_X8_add zw_672 ⟨Nat.le_of_ble_eq_true rfl, Nat.le_of_ble_eq_true rfl⟩ (Nat.le_of_ble_eq_true rfl) dX11_size_42 rfl ?_
          show vv_V x vv_TC mm_X11_size post 45 [some (.ref (vv_ad x 0)), some (.int v1), some (.int v2), some (.int v3), some (.int v4), some (.int v5), some (.int v6), some (.int v7), none] [.int r9.1] r9.2
          refine rr_istore (q := 47) [some (.ref (vv_ad x 0)), some (.int v1), some (.int v2), some (.int v3), some (.int v4), some (.int v5), some (.int v6), some (.int v7), some (.int r9.1)] dX11_size_45 rfl (Nat.le_of_ble_eq_true rfl) rfl rfl ?_
          refine rr_iload (q := 49) dX11_size_47 rfl rfl ?_
          refine rr_if_lt (q := 52) (tgt := 92) dX11_size_49 (by decide) rfl hm (fun hm => ?_) (fun hm => ?_)
          · refine rr_iload (q := 94) dX11_size_92 rfl rfl ?_
            obtain rfl := Option.some.inj hm
            exact rr_iret dX11_size_94 rfl hp
          · refine rr_aload_n (q := 53) dX11_size_52 rfl rfl ?_
            refine gf_X11_26 (q := 56) rfl dX11_size_53 rfl ?_
            refine rr_iload (q := 58) dX11_size_56 rfl rfl ?_
            refine rr_iconst (q := 59) (v := 0) dX11_size_58 rfl (by decide) ?_
            refine rr_iload_n (q := 60) dX11_size_59 rfl rfl ?_
            refine rr_iload_n (q := 61) dX11_size_60 rfl rfl ?_
            obtain ⟨r11, k12, hm⟩ := vv_bind hm
            refine rr_callV (q := 64) (M' := mm_X8_limit) (As := [.int r9.1, .int (0 : Int32), .int v2, .int v3]) (st := []) (w := none) (cc_X8_limit  k12) rfl ylC_22 ynC_22 rfl vy_X8_limit zw_677 ⟨Nat.le_of_ble_eq_true rfl, Nat.le_of_ble_eq_true rfl⟩ (Nat.le_of_ble_eq_true rfl) dX11_size_61 rfl ?_
            show vv_V x vv_TC mm_X11_size post 64 [some (.ref (vv_ad x 0)), some (.int v1), some (.int v2), some (.int v3), some (.int v4), some (.int v5), some (.int v6), some (.int v7), some (.int r9.1)] [] r11
            refine rr_aload_n (q := 65) dX11_size_64 rfl rfl ?_
            refine gf_X11_26 (q := 68) rfl dX11_size_65 rfl ?_
            refine rr_iload (q := 70) dX11_size_68 rfl rfl ?_
            refine rr_iconst (q := 71) (v := 1) dX11_size_70 rfl (by decide) ?_
            refine rr_iload (q := 73) dX11_size_71 rfl rfl ?_
            refine rr_iload (q := 75) dX11_size_73 rfl rfl ?_
            obtain ⟨r13, k14, hm⟩ := vv_bind hm
            refine rr_callV (q := 78) (M' := mm_X8_limit) (As := [.int r9.1, .int (1 : Int32), .int v4, .int v5]) (st := []) (w := none) (cc_X8_limit  k14) rfl ylC_22 ynC_22 rfl vy_X8_limit zw_677 ⟨Nat.le_of_ble_eq_true rfl, Nat.le_of_ble_eq_true rfl⟩ (Nat.le_of_ble_eq_true rfl) dX11_size_75 rfl ?_
            show vv_V x vv_TC mm_X11_size post 78 [some (.ref (vv_ad x 0)), some (.int v1), some (.int v2), some (.int v3), some (.int v4), some (.int v5), some (.int v6), some (.int v7), some (.int r9.1)] [] r13
            refine rr_aload_n (q := 79) dX11_size_78 rfl rfl ?_
            refine gf_X11_26 (q := 82) rfl dX11_size_79 rfl ?_
            refine rr_iload (q := 84) dX11_size_82 rfl rfl ?_
            refine rr_iconst (q := 85) (v := 2) dX11_size_84 rfl (by decide) ?_
            refine rr_iload (q := 87) dX11_size_85 rfl rfl ?_
            refine rr_iload (q := 89) dX11_size_87 rfl rfl ?_
            obtain ⟨r15, k16, hm⟩ := vv_bind hm
            refine rr_callV (q := 92) (M' := mm_X8_limit) (As := [.int r9.1, .int (2 : Int32), .int v6, .int v7]) (st := []) (w := none) (cc_X8_limit  k16) rfl ylC_22 ynC_22 rfl vy_X8_limit zw_677 ⟨Nat.le_of_ble_eq_true rfl, Nat.le_of_ble_eq_true rfl⟩ (Nat.le_of_ble_eq_true rfl) dX11_size_89 rfl ?_
            show vv_V x vv_TC mm_X11_size post 92 [some (.ref (vv_ad x 0)), some (.int v1), some (.int v2), some (.int v3), some (.int v4), some (.int v5), some (.int v6), some (.int v7), some (.int r9.1)] [] r15
            refine rr_iload (q := 94) dX11_size_92 rfl rfl ?_
            obtain rfl := Option.some.inj hm
            exact rr_iret dX11_size_94 rfl hp
        · refine rr_iconst (q := 36) (v := -1) dX11_size_35 rfl (by decide) ?_
          obtain rfl := Option.some.inj hm
          exact rr_iret dX11_size_36 rfl hp
theorem cc_X11_size {x : vv_E} {h : vv_H} {v1 : Int32} {v2 : Int32} {v3 : Int32} {v4 : Int32} {v5 : Int32} {v6 : Int32} {v7 : Int32} {o : Int32 × vv_H}  (hm : ff_X11_size h v1 v2 v3 v4 v5 v6 v7 = some o) : vv_C x vv_TC yX11_size mm_X11_size [.ref (vv_ad x 0), .int v1, .int v2, .int v3, .int v4, .int v5, .int v6, .int v7] h (fun v g => v = some (.int o.1) ∧ g = o.2) := vv_entry (by decide +kernel) rfl (Nat.le_of_ble_eq_true rfl) rfl (vt_X11_size  hm ⟨rfl, rfl⟩)
def ff_X11_fits (h : vv_H) (v1 : Int32) (v2 : Int32) (v3 : Int32) : Option (Int32) := (ff_X8_has h v1).bind (fun r1 => (if r1 = 0 then some (-1 : Int32) else (ff_X0_has h v2).bind (fun r3 => (if r3 = 0 then some (-1 : Int32) else (ff_X11_isWithin v3 (0 : Int32) (50 : Int32)).bind (fun r5 => (if r5 = 0 then some (-1 : Int32) else (ff_X11_leewayNeeded h v1 v2).bind (fun r7 => (if v3 < r7 then some (0 : Int32) else some (1 : Int32)))))))))
set_option maxHeartbeats 200000 in
theorem vt_X11_fits {x : vv_E} {post : Option Value → vv_H → Prop} {h : vv_H} {v1 : Int32} {v2 : Int32} {v3 : Int32} {o : Int32}  (hm : ff_X11_fits  h v1 v2 v3 = some o) (hp : post (some (.int o)) h) : vv_V x vv_TC mm_X11_fits post 0 [some (.ref (vv_ad x 0)), some (.int v1), some (.int v2), some (.int v3)] [] h := by
  unfold ff_X11_fits at hm
  refine rr_aload_n (q := 1) dX11_fits_0 rfl rfl ?_
  refine gf_X11_26 (q := 4) rfl dX11_fits_1 rfl ?_
  refine rr_iload_n (q := 5) dX11_fits_4 rfl rfl ?_
  obtain ⟨r1, k2, hm⟩ := vv_bind hm
  refine rr_callV (q := 8) (M' := mm_X8_has) (As := [.int v1]) (st := []) (w := some (.int r1)) (cc_X8_has  k2) rfl ylC_22 ynC_22 rfl vy_X8_has zw_428 ⟨Nat.le_of_ble_eq_true rfl, Nat.le_of_ble_eq_true rfl⟩ (Nat.le_of_ble_eq_true rfl) dX11_fits_5 rfl ?_
  show vv_V x vv_TC mm_X11_fits post 8 [some (.ref (vv_ad x 0)), some (.int v1), some (.int v2), some (.int v3)] [.int r1] h
  refine rr_if_eq (q := 11) (tgt := 32) dX11_fits_8 (by decide) rfl hm (fun hm => ?_) (fun hm => ?_)
  · refine rr_iconst (q := 33) (v := -1) dX11_fits_32 rfl (by decide) ?_
    obtain rfl := Option.some.inj hm
    exact rr_iret dX11_fits_33 rfl hp
  · refine rr_aload_n (q := 12) dX11_fits_11 rfl rfl ?_
    refine gf_X11_10 (q := 15) rfl dX11_fits_12 rfl ?_
    refine rr_iload_n (q := 16) dX11_fits_15 rfl rfl ?_
    obtain ⟨r3, k4, hm⟩ := vv_bind hm
    refine rr_callV (q := 19) (M' := mm_X0_has) (As := [.int v2]) (st := []) (w := some (.int r3)) (cc_X0_has  k4) rfl ylC_1 ynC_1 rfl vy_X0_has zw_386 ⟨Nat.le_of_ble_eq_true rfl, Nat.le_of_ble_eq_true rfl⟩ (Nat.le_of_ble_eq_true rfl) dX11_fits_16 rfl ?_
    show vv_V x vv_TC mm_X11_fits post 19 [some (.ref (vv_ad x 0)), some (.int v1), some (.int v2), some (.int v3)] [.int r3] h
    refine rr_if_eq (q := 22) (tgt := 32) dX11_fits_19 (by decide) rfl hm (fun hm => ?_) (fun hm => ?_)
    · refine rr_iconst (q := 33) (v := -1) dX11_fits_32 rfl (by decide) ?_
      obtain rfl := Option.some.inj hm
      exact rr_iret dX11_fits_33 rfl hp
    · refine rr_iload_n (q := 23) dX11_fits_22 rfl rfl ?_
      refine rr_iconst (q := 24) (v := 0) dX11_fits_23 rfl (by decide) ?_
      refine rr_bipush (q := 26) (v := 50) dX11_fits_24 rfl (by decide) ?_
      obtain ⟨r5, k6, hm⟩ := vv_bind hm
      refine rr_callS (q := 29) (M' := mm_X11_isWithin) (As := [.int v3, .int (0 : Int32), .int (50 : Int32)]) (st := []) (w := some (.int r5))  (cc_X11_isWithin  k6) rfl vy_X11_isWithin zw_219 ⟨Nat.le_of_ble_eq_true rfl, Nat.le_of_ble_eq_true rfl⟩ (Nat.le_of_ble_eq_true rfl) dX11_fits_26 rfl ?_
      show vv_V x vv_TC mm_X11_fits post 29 [some (.ref (vv_ad x 0)), some (.int v1), some (.int v2), some (.int v3)] [.int r5] h
      refine rr_if_ne (q := 32) (tgt := 34) dX11_fits_29 (by decide) rfl hm (fun hm => ?_) (fun hm => ?_)
      · refine rr_aload_n (q := 35) dX11_fits_34 rfl rfl ?_
        refine rr_iload_n (q := 36) dX11_fits_35 rfl rfl ?_
        refine rr_iload_n (q := 37) dX11_fits_36 rfl rfl ?_
        obtain ⟨r7, k8, hm⟩ := vv_bind hm
        refine rr_callV (q := 40) (M' := mm_X11_leewayNeeded) (As := [.int v1, .int v2]) (st := []) (w := some (.int r7)) (cc_X11_leewayNeeded  k8) rfl ylC_0 ynC_0 rfl vy_X11_leewayNeeded zw_682 ⟨Nat.le_of_ble_eq_true rfl, Nat.le_of_ble_eq_true rfl⟩ (Nat.le_of_ble_eq_true rfl) dX11_fits_37 rfl ?_
        show vv_V x vv_TC mm_X11_fits post 40 [some (.ref (vv_ad x 0)), some (.int v1), some (.int v2), some (.int v3)] [.int r7] h
        refine rr_iload_n (q := 41) dX11_fits_40 rfl rfl ?_
        refine rr_icmp_gt (q := 44) (tgt := 48) dX11_fits_41 (by decide) rfl hm (fun hm => ?_) (fun hm => ?_)
        · refine rr_iconst (q := 49) (v := 0) dX11_fits_48 rfl (by decide) ?_
          obtain rfl := Option.some.inj hm
          exact rr_iret dX11_fits_49 rfl hp
        · refine rr_iconst (q := 45) (v := 1) dX11_fits_44 rfl (by decide) ?_
          refine rr_goto (tgt := 49) dX11_fits_45 (by decide) ?_
          obtain rfl := Option.some.inj hm
          exact rr_iret dX11_fits_49 rfl hp
      · refine rr_iconst (q := 33) (v := -1) dX11_fits_32 rfl (by decide) ?_
        obtain rfl := Option.some.inj hm
        exact rr_iret dX11_fits_33 rfl hp
theorem cc_X11_fits {x : vv_E} {h : vv_H} {v1 : Int32} {v2 : Int32} {v3 : Int32} {o : Int32}  (hm : ff_X11_fits h v1 v2 v3 = some o) : vv_C x vv_TC yX11_fits mm_X11_fits [.ref (vv_ad x 0), .int v1, .int v2, .int v3] h (fun v g => v = some (.int o) ∧ g = h) := vv_entry (by decide +kernel) rfl (Nat.le_of_ble_eq_true rfl) rfl (vt_X11_fits  hm ⟨rfl, rfl⟩)
def ff_X11_due (h : vv_H) (v1 : Int32) (v2 : Int32) (v3 : Int32) : Option (Int32) := (ff_X0_has h v1).bind (fun r1 => (if r1 = 0 then some (-1 : Int32) else (ff_X11_isKind v2).bind (fun r3 => (if r3 = 0 then some (-1 : Int32) else (ff_X11_isDay v3).bind (fun r5 => (if r5 = 0 then some (-1 : Int32) else (ff_X11_dueTo h v1 v2 v3).bind (fun r7 => some r7)))))))
set_option maxHeartbeats 200000 in
theorem vt_X11_due {x : vv_E} {post : Option Value → vv_H → Prop} {h : vv_H} {v1 : Int32} {v2 : Int32} {v3 : Int32} {o : Int32}  (hm : ff_X11_due  h v1 v2 v3 = some o) (hp : post (some (.int o)) h) : vv_V x vv_TC mm_X11_due post 0 [some (.ref (vv_ad x 0)), some (.int v1), some (.int v2), some (.int v3)] [] h := by
  unfold ff_X11_due at hm
  refine rr_aload_n (q := 1) dX11_due_0 rfl rfl ?_
  refine gf_X11_10 (q := 4) rfl dX11_due_1 rfl ?_
  refine rr_iload_n (q := 5) dX11_due_4 rfl rfl ?_
  obtain ⟨r1, k2, hm⟩ := vv_bind hm
  refine rr_callV (q := 8) (M' := mm_X0_has) (As := [.int v1]) (st := []) (w := some (.int r1)) (cc_X0_has  k2) rfl ylC_1 ynC_1 rfl vy_X0_has zw_386 ⟨Nat.le_of_ble_eq_true rfl, Nat.le_of_ble_eq_true rfl⟩ (Nat.le_of_ble_eq_true rfl) dX11_due_5 rfl ?_
  show vv_V x vv_TC mm_X11_due post 8 [some (.ref (vv_ad x 0)), some (.int v1), some (.int v2), some (.int v3)] [.int r1] h
  refine rr_if_eq (q := 11) (tgt := 25) dX11_due_8 (by decide) rfl hm (fun hm => ?_) (fun hm => ?_)
  · refine rr_iconst (q := 26) (v := -1) dX11_due_25 rfl (by decide) ?_
    obtain rfl := Option.some.inj hm
    exact rr_iret dX11_due_26 rfl hp
  · refine rr_iload_n (q := 12) dX11_due_11 rfl rfl ?_
    obtain ⟨r3, k4, hm⟩ := vv_bind hm
    refine rr_callS (q := 15) (M' := mm_X11_isKind) (As := [.int v2]) (st := []) (w := some (.int r3))  (cc_X11_isKind  k4) rfl vy_X11_isKind zw_408 ⟨Nat.le_of_ble_eq_true rfl, Nat.le_of_ble_eq_true rfl⟩ (Nat.le_of_ble_eq_true rfl) dX11_due_12 rfl ?_
    show vv_V x vv_TC mm_X11_due post 15 [some (.ref (vv_ad x 0)), some (.int v1), some (.int v2), some (.int v3)] [.int r3] h
    refine rr_if_eq (q := 18) (tgt := 25) dX11_due_15 (by decide) rfl hm (fun hm => ?_) (fun hm => ?_)
    · refine rr_iconst (q := 26) (v := -1) dX11_due_25 rfl (by decide) ?_
      obtain rfl := Option.some.inj hm
      exact rr_iret dX11_due_26 rfl hp
    · refine rr_iload_n (q := 19) dX11_due_18 rfl rfl ?_
      obtain ⟨r5, k6, hm⟩ := vv_bind hm
      refine rr_callS (q := 22) (M' := mm_X11_isDay) (As := [.int v3]) (st := []) (w := some (.int r5))  (cc_X11_isDay  k6) rfl vy_X11_isDay zw_399 ⟨Nat.le_of_ble_eq_true rfl, Nat.le_of_ble_eq_true rfl⟩ (Nat.le_of_ble_eq_true rfl) dX11_due_19 rfl ?_
      show vv_V x vv_TC mm_X11_due post 22 [some (.ref (vv_ad x 0)), some (.int v1), some (.int v2), some (.int v3)] [.int r5] h
      refine rr_if_ne (q := 25) (tgt := 27) dX11_due_22 (by decide) rfl hm (fun hm => ?_) (fun hm => ?_)
      · refine rr_aload_n (q := 28) dX11_due_27 rfl rfl ?_
        refine rr_iload_n (q := 29) dX11_due_28 rfl rfl ?_
        refine rr_iload_n (q := 30) dX11_due_29 rfl rfl ?_
        refine rr_iload_n (q := 31) dX11_due_30 rfl rfl ?_
        obtain ⟨r7, k8, hm⟩ := vv_bind hm
        refine rr_callV (q := 34) (M' := mm_X11_dueTo) (As := [.int v1, .int v2, .int v3]) (st := []) (w := some (.int r7)) (cc_X11_dueTo  k8) rfl ylC_0 ynC_0 rfl vy_X11_dueTo zw_687 ⟨Nat.le_of_ble_eq_true rfl, Nat.le_of_ble_eq_true rfl⟩ (Nat.le_of_ble_eq_true rfl) dX11_due_31 rfl ?_
        show vv_V x vv_TC mm_X11_due post 34 [some (.ref (vv_ad x 0)), some (.int v1), some (.int v2), some (.int v3)] [.int r7] h
        obtain rfl := Option.some.inj hm
        exact rr_iret dX11_due_34 rfl hp
      · refine rr_iconst (q := 26) (v := -1) dX11_due_25 rfl (by decide) ?_
        obtain rfl := Option.some.inj hm
        exact rr_iret dX11_due_26 rfl hp
theorem cc_X11_due {x : vv_E} {h : vv_H} {v1 : Int32} {v2 : Int32} {v3 : Int32} {o : Int32}  (hm : ff_X11_due h v1 v2 v3 = some o) : vv_C x vv_TC yX11_due mm_X11_due [.ref (vv_ad x 0), .int v1, .int v2, .int v3] h (fun v g => v = some (.int o) ∧ g = h) := vv_entry (by decide +kernel) rfl (Nat.le_of_ble_eq_true rfl) rfl (vt_X11_due  hm ⟨rfl, rfl⟩)
def ff_X11_back (h : vv_H) (v1 : Int32) (v2 : Int32) : Option (Int32 × vv_H) := (ff_X4_has h v1).bind (fun r1 => (if r1 = 0 then some ((-1 : Int32), h) else (ff_X9_has h v2).bind (fun r3 => (if r3 = 0 then some ((-1 : Int32), h) else (ff_X4_isWithBody h v1).bind (fun r5 => (if r5 = 0 then some ((-2 : Int32), h) else (ff_X4_takeOff h v1 (h.1 0 0)).bind (fun r7 => vv_ck v1 36 (vv_let (vv_iu r7 160 v1.toNatClampNeg v2) (fun g10 => (ff_X4_wornBy g10 v1 (g10.1 0 0)).bind (fun r12 => some (r12, g10)))))))))))
set_option maxHeartbeats 200000 in
theorem vt_X11_back {x : vv_E} {post : Option Value → vv_H → Prop} {h : vv_H} {v1 : Int32} {v2 : Int32} {o : Int32 × vv_H}  (hm : ff_X11_back  h v1 v2 = some o) (hp : post (some (.int o.1)) o.2) : vv_V x vv_TC mm_X11_back post 0 [some (.ref (vv_ad x 0)), some (.int v1), some (.int v2)] [] h := by
  unfold ff_X11_back at hm
  refine rr_aload_n (q := 1) dX11_back_0 rfl rfl ?_
  refine gf_X11_64 (q := 4) rfl dX11_back_1 rfl ?_
  refine rr_iload_n (q := 5) dX11_back_4 rfl rfl ?_
  obtain ⟨r1, k2, hm⟩ := vv_bind hm
  refine rr_callV (q := 8) (M' := mm_X4_has) (As := [.int v1]) (st := []) (w := some (.int r1)) (cc_X4_has  k2) rfl ylC_156 ynC_156 rfl vy_X4_has zw_243 ⟨Nat.le_of_ble_eq_true rfl, Nat.le_of_ble_eq_true rfl⟩ (Nat.le_of_ble_eq_true rfl) dX11_back_5 rfl ?_
  show vv_V x vv_TC mm_X11_back post 8 [some (.ref (vv_ad x 0)), some (.int v1), some (.int v2)] [.int r1] h
  refine rr_if_eq (q := 11) (tgt := 22) dX11_back_8 (by decide) rfl hm (fun hm => ?_) (fun hm => ?_)
  · refine rr_iconst (q := 23) (v := -1) dX11_back_22 rfl (by decide) ?_
    obtain rfl := Option.some.inj hm
    exact rr_iret dX11_back_23 rfl hp
  · refine rr_aload_n (q := 12) dX11_back_11 rfl rfl ?_
    refine gf_X11_57 (q := 15) rfl dX11_back_12 rfl ?_
    refine rr_iload_n (q := 16) dX11_back_15 rfl rfl ?_
    obtain ⟨r3, k4, hm⟩ := vv_bind hm
    refine rr_callV (q := 19) (M' := mm_X9_has) (As := [.int v2]) (st := []) (w := some (.int r3)) (cc_X9_has  k4) rfl ylC_146 ynC_146 rfl vy_X9_has zw_237 ⟨Nat.le_of_ble_eq_true rfl, Nat.le_of_ble_eq_true rfl⟩ (Nat.le_of_ble_eq_true rfl) dX11_back_16 rfl ?_
    show vv_V x vv_TC mm_X11_back post 19 [some (.ref (vv_ad x 0)), some (.int v1), some (.int v2)] [.int r3] h
    refine rr_if_ne (q := 22) (tgt := 24) dX11_back_19 (by decide) rfl hm (fun hm => ?_) (fun hm => ?_)
    · refine rr_aload_n (q := 25) dX11_back_24 rfl rfl ?_
      refine gf_X11_64 (q := 28) rfl dX11_back_25 rfl ?_
      refine rr_iload_n (q := 29) dX11_back_28 rfl rfl ?_
      obtain ⟨r5, k6, hm⟩ := vv_bind hm
      refine rr_callV (q := 32) (M' := mm_X4_isWithBody) (As := [.int v1]) (st := []) (w := some (.int r5)) (cc_X4_isWithBody  k6) rfl ylC_156 ynC_156 rfl vy_X4_isWithBody zw_688 ⟨Nat.le_of_ble_eq_true rfl, Nat.le_of_ble_eq_true rfl⟩ (Nat.le_of_ble_eq_true rfl) dX11_back_29 rfl ?_
      show vv_V x vv_TC mm_X11_back post 32 [some (.ref (vv_ad x 0)), some (.int v1), some (.int v2)] [.int r5] h
      refine rr_if_ne (q := 35) (tgt := 38) dX11_back_32 (by decide) rfl hm (fun hm => ?_) (fun hm => ?_)
      · refine rr_aload_n (q := 39) dX11_back_38 rfl rfl ?_
        refine gf_X11_64 (q := 42) rfl dX11_back_39 rfl ?_
        refine rr_iload_n (q := 43) dX11_back_42 rfl rfl ?_
        refine rr_aload_n (q := 44) dX11_back_43 rfl rfl ?_
        refine gf_X11_89 (q := 47) rfl dX11_back_44 rfl ?_
        obtain ⟨r7, k8, hm⟩ := vv_bind hm
        refine rr_callV (q := 50) (M' := mm_X4_takeOff) (As := [.int v1, .int (h.1 0 0)]) (st := []) (w := none) (cc_X4_takeOff  k8) rfl ylC_156 ynC_156 rfl vy_X4_takeOff zw_693 ⟨Nat.le_of_ble_eq_true rfl, Nat.le_of_ble_eq_true rfl⟩ (Nat.le_of_ble_eq_true rfl) dX11_back_47 rfl ?_
        show vv_V x vv_TC mm_X11_back post 50 [some (.ref (vv_ad x 0)), some (.int v1), some (.int v2)] [] r7
        refine rr_aload_n (q := 51) dX11_back_50 rfl rfl ?_
        refine gf_X11_64 (q := 54) rfl dX11_back_51 rfl ?_
        refine gf_X11_256 (q := 57) rfl dX11_back_54 rfl ?_
        refine rr_iload_n (q := 58) dX11_back_57 rfl rfl ?_
        refine rr_iload_n (q := 59) dX11_back_58 rfl rfl ?_
        obtain ⟨c9, hm⟩ := vv_ck_of hm
        obtain ⟨g10, c11, hm⟩ := vv_let_of hm
        refine rr_iast (q := 60) ylC_160 ynC_160 c9 dX11_back_59 rfl ?_
        rw [← c11]
        refine rr_aload_n (q := 61) dX11_back_60 rfl rfl ?_
        refine gf_X11_64 (q := 64) rfl dX11_back_61 rfl ?_
        refine rr_iload_n (q := 65) dX11_back_64 rfl rfl ?_
        refine rr_aload_n (q := 66) dX11_back_65 rfl rfl ?_
        refine gf_X11_89 (q := 69) rfl dX11_back_66 rfl ?_
        obtain ⟨r12, k13, hm⟩ := vv_bind hm
        refine rr_callV (q := 72) (M' := mm_X4_wornBy) (As := [.int v1, .int (g10.1 0 0)]) (st := []) (w := some (.int r12)) (cc_X4_wornBy  k13) rfl ylC_156 ynC_156 rfl vy_X4_wornBy zw_445 ⟨Nat.le_of_ble_eq_true rfl, Nat.le_of_ble_eq_true rfl⟩ (Nat.le_of_ble_eq_true rfl) dX11_back_69 rfl ?_
        show vv_V x vv_TC mm_X11_back post 72 [some (.ref (vv_ad x 0)), some (.int v1), some (.int v2)] [.int r12] g10
        obtain rfl := Option.some.inj hm
        exact rr_iret dX11_back_72 rfl hp
      · refine rr_bipush (q := 37) (v := -2) dX11_back_35 rfl (by decide) ?_
        obtain rfl := Option.some.inj hm
        exact rr_iret dX11_back_37 rfl hp
    · refine rr_iconst (q := 23) (v := -1) dX11_back_22 rfl (by decide) ?_
      obtain rfl := Option.some.inj hm
      exact rr_iret dX11_back_23 rfl hp
theorem cc_X11_back {x : vv_E} {h : vv_H} {v1 : Int32} {v2 : Int32} {o : Int32 × vv_H}  (hm : ff_X11_back h v1 v2 = some o) : vv_C x vv_TC yX11_back mm_X11_back [.ref (vv_ad x 0), .int v1, .int v2] h (fun v g => v = some (.int o.1) ∧ g = o.2) := vv_entry (by decide +kernel) rfl (Nat.le_of_ble_eq_true rfl) rfl (vt_X11_back  hm ⟨rfl, rfl⟩)
def ff_X11_lost (h : vv_H) (v1 : Int32) : Option (Int32 × vv_H) := (ff_X4_has h v1).bind (fun r1 => (if r1 = 0 then some ((-1 : Int32), h) else (ff_X4_isWithBody h v1).bind (fun r3 => (if r3 = 0 then some ((-2 : Int32), h) else vv_ck v1 36 (vv_let (h.1 161 v1.toNatClampNeg) (fun w6 => (ff_X11_chargeFor h v1).bind (fun r8 => (ff_X4_takeOff h v1 (h.1 0 0)).bind (fun r10 => (ff_X0_has r10 w6).bind (fun r12 => (if r12 = 0 then some (r8, r10) else vv_ck w6 12 (vv_ck w6 12 (vv_let (vv_iu r10 15 w6.toNatClampNeg ((r10.1 15 w6.toNatClampNeg) + r8)) (fun g16 => some (r8, g16))))))))))))))
set_option maxHeartbeats 200000 in
theorem vt_X11_lost {x : vv_E} {post : Option Value → vv_H → Prop} {h : vv_H} {v1 : Int32} {o : Int32 × vv_H}  (hm : ff_X11_lost  h v1 = some o) (hp : post (some (.int o.1)) o.2) : vv_V x vv_TC mm_X11_lost post 0 [some (.ref (vv_ad x 0)), some (.int v1), none, none] [] h := by
  unfold ff_X11_lost at hm
  refine rr_aload_n (q := 1) dX11_lost_0 rfl rfl ?_
  refine gf_X11_64 (q := 4) rfl dX11_lost_1 rfl ?_
  refine rr_iload_n (q := 5) dX11_lost_4 rfl rfl ?_
  obtain ⟨r1, k2, hm⟩ := vv_bind hm
  refine rr_callV (q := 8) (M' := mm_X4_has) (As := [.int v1]) (st := []) (w := some (.int r1)) (cc_X4_has  k2) rfl ylC_156 ynC_156 rfl vy_X4_has zw_243 ⟨Nat.le_of_ble_eq_true rfl, Nat.le_of_ble_eq_true rfl⟩ (Nat.le_of_ble_eq_true rfl) dX11_lost_5 rfl ?_
  show vv_V x vv_TC mm_X11_lost post 8 [some (.ref (vv_ad x 0)), some (.int v1), none, none] [.int r1] h
  refine rr_if_ne (q := 11) (tgt := 13) dX11_lost_8 (by decide) rfl hm (fun hm => ?_) (fun hm => ?_)
  · refine rr_aload_n (q := 14) dX11_lost_13 rfl rfl ?_
    refine gf_X11_64 (q := 17) rfl dX11_lost_14 rfl ?_
    refine rr_iload_n (q := 18) dX11_lost_17 rfl rfl ?_
    obtain ⟨r3, k4, hm⟩ := vv_bind hm
    refine rr_callV (q := 21) (M' := mm_X4_isWithBody) (As := [.int v1]) (st := []) (w := some (.int r3)) (cc_X4_isWithBody  k4) rfl ylC_156 ynC_156 rfl vy_X4_isWithBody zw_688 ⟨Nat.le_of_ble_eq_true rfl, Nat.le_of_ble_eq_true rfl⟩ (Nat.le_of_ble_eq_true rfl) dX11_lost_18 rfl ?_
    show vv_V x vv_TC mm_X11_lost post 21 [some (.ref (vv_ad x 0)), some (.int v1), none, none] [.int r3] h
    refine rr_if_ne (q := 24) (tgt := 27) dX11_lost_21 (by decide) rfl hm (fun hm => ?_) (fun hm => ?_)
    · refine rr_aload_n (q := 28) dX11_lost_27 rfl rfl ?_
      refine gf_X11_64 (q := 31) rfl dX11_lost_28 rfl ?_
      refine gf_X11_259 (q := 34) rfl dX11_lost_31 rfl ?_
      refine rr_iload_n (q := 35) dX11_lost_34 rfl rfl ?_
      obtain ⟨c5, hm⟩ := vv_ck_of hm
      refine rr_iald (q := 36) ylC_161 ynC_161 c5 dX11_lost_35 rfl ?_
      obtain ⟨w6, c7, hm⟩ := vv_let_of hm
      rw [← c7]
      refine rr_istore_n (q := 37) [some (.ref (vv_ad x 0)), some (.int v1), some (.int w6), none] dX11_lost_36 rfl rfl (Nat.le_of_ble_eq_true rfl) rfl rfl ?_
      refine rr_aload_n (q := 38) dX11_lost_37 rfl rfl ?_
      refine rr_iload_n (q := 39) dX11_lost_38 rfl rfl ?_
      obtain ⟨r8, k9, hm⟩ := vv_bind hm
      refine rr_callV (q := 42) (M' := mm_X11_chargeFor) (As := [.int v1]) (st := []) (w := some (.int r8)) (cc_X11_chargeFor  k9) rfl ylC_0 ynC_0 rfl vy_X11_chargeFor zw_698 ⟨Nat.le_of_ble_eq_true rfl, Nat.le_of_ble_eq_true rfl⟩ (Nat.le_of_ble_eq_true rfl) dX11_lost_39 rfl ?_
      show vv_V x vv_TC mm_X11_lost post 42 [some (.ref (vv_ad x 0)), some (.int v1), some (.int w6), none] [.int r8] h
      refine rr_istore_n (q := 43) [some (.ref (vv_ad x 0)), some (.int v1), some (.int w6), some (.int r8)] dX11_lost_42 rfl rfl (Nat.le_of_ble_eq_true rfl) rfl rfl ?_
      refine rr_aload_n (q := 44) dX11_lost_43 rfl rfl ?_
      refine gf_X11_64 (q := 47) rfl dX11_lost_44 rfl ?_
      refine rr_iload_n (q := 48) dX11_lost_47 rfl rfl ?_
      refine rr_aload_n (q := 49) dX11_lost_48 rfl rfl ?_
      refine gf_X11_89 (q := 52) rfl dX11_lost_49 rfl ?_
      obtain ⟨r10, k11, hm⟩ := vv_bind hm
      refine rr_callV (q := 55) (M' := mm_X4_takeOff) (As := [.int v1, .int (h.1 0 0)]) (st := []) (w := none) (cc_X4_takeOff  k11) rfl ylC_156 ynC_156 rfl vy_X4_takeOff zw_693 ⟨Nat.le_of_ble_eq_true rfl, Nat.le_of_ble_eq_true rfl⟩ (Nat.le_of_ble_eq_true rfl) dX11_lost_52 rfl ?_
      show vv_V x vv_TC mm_X11_lost post 55 [some (.ref (vv_ad x 0)), some (.int v1), some (.int w6), some (.int r8)] [] r10
      refine rr_aload_n (q := 56) dX11_lost_55 rfl rfl ?_
      refine gf_X11_10 (q := 59) rfl dX11_lost_56 rfl ?_
      refine rr_iload_n (q := 60) dX11_lost_59 rfl rfl ?_
      obtain ⟨r12, k13, hm⟩ := vv_bind hm
      refine rr_callV (q := 63) (M' := mm_X0_has) (As := [.int w6]) (st := []) (w := some (.int r12)) (cc_X0_has  k13) rfl ylC_1 ynC_1 rfl vy_X0_has zw_386 ⟨Nat.le_of_ble_eq_true rfl, Nat.le_of_ble_eq_true rfl⟩ (Nat.le_of_ble_eq_true rfl) dX11_lost_60 rfl ?_
      show vv_V x vv_TC mm_X11_lost post 63 [some (.ref (vv_ad x 0)), some (.int v1), some (.int w6), some (.int r8)] [.int r12] r10
      refine rr_if_eq (q := 66) (tgt := 79) dX11_lost_63 (by decide) rfl hm (fun hm => ?_) (fun hm => ?_)
      · refine rr_iload_n (q := 80) dX11_lost_79 rfl rfl ?_
        obtain rfl := Option.some.inj hm
        exact rr_iret dX11_lost_80 rfl hp
      · refine rr_aload_n (q := 67) dX11_lost_66 rfl rfl ?_
        refine gf_X11_10 (q := 70) rfl dX11_lost_67 rfl ?_
        refine gf_X11_137 (q := 73) rfl dX11_lost_70 rfl ?_
        refine rr_iload_n (q := 74) dX11_lost_73 rfl rfl ?_
        refine rr_dup2 (q := 75) dX11_lost_74 rfl rfl rfl ?_
        obtain ⟨c14, hm⟩ := vv_ck_of hm
        refine rr_iald (q := 76) ylC_15 ynC_15 c14 dX11_lost_75 rfl ?_
        refine rr_iload_n (q := 77) dX11_lost_76 rfl rfl ?_
        refine rr_iadd (q := 78) dX11_lost_77 rfl ?_
        obtain ⟨c15, hm⟩ := vv_ck_of hm
        obtain ⟨g16, c17, hm⟩ := vv_let_of hm
        refine rr_iast (q := 79) ylC_15 ynC_15 c15 dX11_lost_78 rfl ?_
        rw [← c17]
        refine rr_iload_n (q := 80) dX11_lost_79 rfl rfl ?_
        obtain rfl := Option.some.inj hm
        exact rr_iret dX11_lost_80 rfl hp
    · refine rr_bipush (q := 26) (v := -2) dX11_lost_24 rfl (by decide) ?_
      obtain rfl := Option.some.inj hm
      exact rr_iret dX11_lost_26 rfl hp
  · refine rr_iconst (q := 12) (v := -1) dX11_lost_11 rfl (by decide) ?_
    obtain rfl := Option.some.inj hm
    exact rr_iret dX11_lost_12 rfl hp
theorem cc_X11_lost {x : vv_E} {h : vv_H} {v1 : Int32} {o : Int32 × vv_H}  (hm : ff_X11_lost h v1 = some o) : vv_C x vv_TC yX11_lost mm_X11_lost [.ref (vv_ad x 0), .int v1] h (fun v g => v = some (.int o.1) ∧ g = o.2) := vv_entry (by decide +kernel) rfl (Nat.le_of_ble_eq_true rfl) rfl (vt_X11_lost  hm ⟨rfl, rfl⟩)
def ff_X11_fail (h : vv_H) (v1 : Int32) : Option (Int32 × vv_H) := (ff_X4_has h v1).bind (fun r1 => (if r1 = 0 then some ((-1 : Int32), h) else (ff_X4_isGone h v1).bind (fun r3 => (if r3 = 0 then (ff_X4_takeOff h v1 (h.1 0 0)).bind (fun r5 => vv_ck v1 36 (vv_let (vv_iu r5 160 v1.toNatClampNeg (-4 : Int32)) (fun g8 => vv_ck v1 36 (vv_let (vv_iu g8 164 v1.toNatClampNeg (1 : Int32)) (fun g11 => (ff_X4_wornBy g11 v1 (g11.1 0 0)).bind (fun r13 => some (r13, g11))))))) else some ((-2 : Int32), h)))))
set_option maxHeartbeats 200000 in
theorem vt_X11_fail {x : vv_E} {post : Option Value → vv_H → Prop} {h : vv_H} {v1 : Int32} {o : Int32 × vv_H}  (hm : ff_X11_fail  h v1 = some o) (hp : post (some (.int o.1)) o.2) : vv_V x vv_TC mm_X11_fail post 0 [some (.ref (vv_ad x 0)), some (.int v1)] [] h := by
  unfold ff_X11_fail at hm
  refine rr_aload_n (q := 1) dX11_fail_0 rfl rfl ?_
  refine gf_X11_64 (q := 4) rfl dX11_fail_1 rfl ?_
  refine rr_iload_n (q := 5) dX11_fail_4 rfl rfl ?_
  obtain ⟨r1, k2, hm⟩ := vv_bind hm
  refine rr_callV (q := 8) (M' := mm_X4_has) (As := [.int v1]) (st := []) (w := some (.int r1)) (cc_X4_has  k2) rfl ylC_156 ynC_156 rfl vy_X4_has zw_243 ⟨Nat.le_of_ble_eq_true rfl, Nat.le_of_ble_eq_true rfl⟩ (Nat.le_of_ble_eq_true rfl) dX11_fail_5 rfl ?_
  show vv_V x vv_TC mm_X11_fail post 8 [some (.ref (vv_ad x 0)), some (.int v1)] [.int r1] h
  refine rr_if_ne (q := 11) (tgt := 13) dX11_fail_8 (by decide) rfl hm (fun hm => ?_) (fun hm => ?_)
  · refine rr_aload_n (q := 14) dX11_fail_13 rfl rfl ?_
    refine gf_X11_64 (q := 17) rfl dX11_fail_14 rfl ?_
    refine rr_iload_n (q := 18) dX11_fail_17 rfl rfl ?_
    obtain ⟨r3, k4, hm⟩ := vv_bind hm
    refine rr_callV (q := 21) (M' := mm_X4_isGone) (As := [.int v1]) (st := []) (w := some (.int r3)) (cc_X4_isGone  k4) rfl ylC_156 ynC_156 rfl vy_X4_isGone zw_704 ⟨Nat.le_of_ble_eq_true rfl, Nat.le_of_ble_eq_true rfl⟩ (Nat.le_of_ble_eq_true rfl) dX11_fail_18 rfl ?_
    show vv_V x vv_TC mm_X11_fail post 21 [some (.ref (vv_ad x 0)), some (.int v1)] [.int r3] h
    refine rr_if_eq (q := 24) (tgt := 27) dX11_fail_21 (by decide) rfl hm (fun hm => ?_) (fun hm => ?_)
    · refine rr_aload_n (q := 28) dX11_fail_27 rfl rfl ?_
      refine gf_X11_64 (q := 31) rfl dX11_fail_28 rfl ?_
      refine rr_iload_n (q := 32) dX11_fail_31 rfl rfl ?_
      refine rr_aload_n (q := 33) dX11_fail_32 rfl rfl ?_
      refine gf_X11_89 (q := 36) rfl dX11_fail_33 rfl ?_
      obtain ⟨r5, k6, hm⟩ := vv_bind hm
      refine rr_callV (q := 39) (M' := mm_X4_takeOff) (As := [.int v1, .int (h.1 0 0)]) (st := []) (w := none) (cc_X4_takeOff  k6) rfl ylC_156 ynC_156 rfl vy_X4_takeOff zw_693 ⟨Nat.le_of_ble_eq_true rfl, Nat.le_of_ble_eq_true rfl⟩ (Nat.le_of_ble_eq_true rfl) dX11_fail_36 rfl ?_
      show vv_V x vv_TC mm_X11_fail post 39 [some (.ref (vv_ad x 0)), some (.int v1)] [] r5
      refine rr_aload_n (q := 40) dX11_fail_39 rfl rfl ?_
      refine gf_X11_64 (q := 43) rfl dX11_fail_40 rfl ?_
      refine gf_X11_256 (q := 46) rfl dX11_fail_43 rfl ?_
      refine rr_iload_n (q := 47) dX11_fail_46 rfl rfl ?_
      refine rr_bipush (q := 49) (v := -4) dX11_fail_47 rfl (by decide) ?_
      obtain ⟨c7, hm⟩ := vv_ck_of hm
      obtain ⟨g8, c9, hm⟩ := vv_let_of hm
      refine rr_iast (q := 50) ylC_160 ynC_160 c7 dX11_fail_49 rfl ?_
      rw [← c9]
      refine rr_aload_n (q := 51) dX11_fail_50 rfl rfl ?_
      refine gf_X11_64 (q := 54) rfl dX11_fail_51 rfl ?_
      refine gf_X11_268 (q := 57) rfl dX11_fail_54 rfl ?_
      refine rr_iload_n (q := 58) dX11_fail_57 rfl rfl ?_
      refine rr_iconst (q := 59) (v := 1) dX11_fail_58 rfl (by decide) ?_
      obtain ⟨c10, hm⟩ := vv_ck_of hm
      obtain ⟨g11, c12, hm⟩ := vv_let_of hm
      refine rr_iast (q := 60) ylC_164 ynC_164 c10 dX11_fail_59 rfl ?_
      rw [← c12]
      refine rr_aload_n (q := 61) dX11_fail_60 rfl rfl ?_
      refine gf_X11_64 (q := 64) rfl dX11_fail_61 rfl ?_
      refine rr_iload_n (q := 65) dX11_fail_64 rfl rfl ?_
      refine rr_aload_n (q := 66) dX11_fail_65 rfl rfl ?_
      refine gf_X11_89 (q := 69) rfl dX11_fail_66 rfl ?_
      obtain ⟨r13, k14, hm⟩ := vv_bind hm
      refine rr_callV (q := 72) (M' := mm_X4_wornBy) (As := [.int v1, .int (g11.1 0 0)]) (st := []) (w := some (.int r13)) (cc_X4_wornBy  k14) rfl ylC_156 ynC_156 rfl vy_X4_wornBy zw_445 ⟨Nat.le_of_ble_eq_true rfl, Nat.le_of_ble_eq_true rfl⟩ (Nat.le_of_ble_eq_true rfl) dX11_fail_69 rfl ?_
      show vv_V x vv_TC mm_X11_fail post 72 [some (.ref (vv_ad x 0)), some (.int v1)] [.int r13] g11
      obtain rfl := Option.some.inj hm
      exact rr_iret dX11_fail_72 rfl hp
    · refine rr_bipush (q := 26) (v := -2) dX11_fail_24 rfl (by decide) ?_
      obtain rfl := Option.some.inj hm
      exact rr_iret dX11_fail_26 rfl hp
  · refine rr_iconst (q := 12) (v := -1) dX11_fail_11 rfl (by decide) ?_
    obtain rfl := Option.some.inj hm
    exact rr_iret dX11_fail_12 rfl hp
theorem cc_X11_fail {x : vv_E} {h : vv_H} {v1 : Int32} {o : Int32 × vv_H}  (hm : ff_X11_fail h v1 = some o) : vv_C x vv_TC yX11_fail mm_X11_fail [.ref (vv_ad x 0), .int v1] h (fun v g => v = some (.int o.1) ∧ g = o.2) := vv_entry (by decide +kernel) rfl (Nat.le_of_ble_eq_true rfl) rfl (vt_X11_fail  hm ⟨rfl, rfl⟩)
def ff_X11_scan_B60 (u1 : Int32) (u3 : Int32) (u4 : Int32) (h : vv_H) (s5 : Int32) : Option ((Int32) ⊕ ((Unit) ⊕ (Int32))) := (if u4 ≤ s5 then some (.inr (.inl ())) else (ff_X11_refusalOfCell h u1 u3 s5).bind (fun r10 => (if r10 = 0 then vv_let (s5 + 1) (fun w12 => some (.inl w12)) else some (.inr (.inr r10)))))
def ff_X11_scan_B112 (u1 : Int32) (u3 : Int32) (u4 : Int32) (s5 : Int32) (h : vv_H) : Option ((Int32 × vv_H) ⊕ ((vv_H))) := (if u4 ≤ s5 then some (.inr h) else vv_nz (3 : Int32) (vv_nz (3 : Int32) (vv_ck u1 4 (vv_ck (u3 + s5) 60 ((ff_X2_add h (s5 / (3 : Int32)) (s5 - s5 / (3 : Int32) * (3 : Int32)) (h.1 (180 + u1.toNatClampNeg) (u3 + s5).toNatClampNeg) (h.1 0 0) (h.1 0 0)).bind (fun r20 => vv_let (s5 + 1) (fun w22 => some (.inl (w22, r20.2)))))))))
def ff_X11_scan (h : vv_H) (v1 : Int32) (v2 : Int32) (v3 : Int32) : Option (Int32 × vv_H) := (ff_X11_isSheet v1).bind (fun r1 => (if r1 = 0 then some ((-1 : Int32), h) else (ff_X11_isLane v2).bind (fun r3 => (if r3 = 0 then some ((-1 : Int32), h) else (ff_X7_isNothing h v1).bind (fun r5 => (if r5 = 0 then vv_ck v1 4 ((if (h.1 177 v1.toNatClampNeg) = v2 then vv_let ((3 : Int32) * (h.1 1 0)) (fun w8 => (vv_lp (fun (zs : Int32) => ff_X11_scan_B60  v1 v3 w8 h zs) vv_F (0 : Int32)).bind (Sum.elim (fun (e15 : (Unit)) => (if ((h.1 16 0) + w8) ≤ (60 : Int32) then (vv_lp (fun (zs : Int32 × vv_H) => ff_X11_scan_B112  v1 v3 w8 zs.1 zs.2) vv_F ((0 : Int32), h)).bind (fun (e25 : (vv_H)) => some ((e25.1 16 0), e25)) else some ((-3 : Int32), h))) (fun (e27 : (Int32)) => some (e27, h)))) else some ((-13 : Int32), h))) else some ((-11 : Int32), h)))))))
set_option maxHeartbeats 200000 in
theorem vt_X11_scan_B60 {x : vv_E} {post : Option Value → vv_H → Prop} {u1 : Int32} {u3 : Int32} {u4 : Int32} {h : vv_H} {s5 : Int32} {o : (Int32) ⊕ ((Unit) ⊕ (Int32))}  (hm : ff_X11_scan_B60  u1 u3 u4 h s5 = some o) (hI : ∀ (z5 : Int32) , o = .inl z5 → vv_V x vv_TC mm_X11_scan post 60 [some (.ref (vv_ad x 0)), some (.int u1), none, some (.int u3), some (.int u4), some (.int z5), none] [] h) (hX0 : o = .inr (.inl ()) → vv_V x vv_TC mm_X11_scan post 91 [some (.ref (vv_ad x 0)), some (.int u1), none, some (.int u3), some (.int u4), none, none] [] h) (hX1 : ∀ (z6 : Int32), o = .inr (.inr z6) → vv_V x vv_TC mm_X11_scan post 82 [none, none, none, none, none, none, some (.int z6)] [] h) : vv_V x vv_TC mm_X11_scan post 60 [some (.ref (vv_ad x 0)), some (.int u1), none, some (.int u3), some (.int u4), some (.int s5), none] [] h := by
  unfold ff_X11_scan_B60 at hm
  refine rr_iload (q := 62) dX11_scan_60 rfl rfl ?_
  refine rr_iload (q := 64) dX11_scan_62 rfl rfl ?_
  refine rr_icmp_ge (q := 67) (tgt := 91) dX11_scan_64 (by decide) rfl hm (fun hm => ?_) (fun hm => ?_)
  · obtain rfl := Option.some.inj hm
    refine rr_sub [true, true, false, true, true, false, false] rfl ?_
    exact hX0  rfl
  · refine rr_aload_n (q := 68) dX11_scan_67 rfl rfl ?_
    refine rr_iload_n (q := 69) dX11_scan_68 rfl rfl ?_
    refine rr_iload_n (q := 70) dX11_scan_69 rfl rfl ?_
    refine rr_iload (q := 72) dX11_scan_70 rfl rfl ?_
    obtain ⟨r10, k11, hm⟩ := vv_bind hm
    refine rr_callV (q := 75) (M' := mm_X11_refusalOfCell) (As := [.int u1, .int u3, .int s5]) (st := []) (w := some (.int r10)) (cc_X11_refusalOfCell  k11) rfl ylC_0 ynC_0 rfl vy_X11_refusalOfCell zw_710 ⟨Nat.le_of_ble_eq_true rfl, Nat.le_of_ble_eq_true rfl⟩ (Nat.le_of_ble_eq_true rfl) dX11_scan_72 rfl ?_
    show vv_V x vv_TC mm_X11_scan post 75 [some (.ref (vv_ad x 0)), some (.int u1), none, some (.int u3), some (.int u4), some (.int s5), none] [.int r10] h
    refine rr_istore (q := 77) [some (.ref (vv_ad x 0)), some (.int u1), none, some (.int u3), some (.int u4), some (.int s5), some (.int r10)] dX11_scan_75 rfl (Nat.le_of_ble_eq_true rfl) rfl rfl ?_
    refine rr_iload (q := 79) dX11_scan_77 rfl rfl ?_
    refine rr_if_eq (q := 82) (tgt := 85) dX11_scan_79 (by decide) rfl hm (fun hm => ?_) (fun hm => ?_)
    · obtain ⟨w12, c13, hm⟩ := vv_let_of hm
      refine rr_iinc (q := 88) [some (.ref (vv_ad x 0)), some (.int u1), none, some (.int u3), some (.int u4), some (.int w12), some (.int r10)] dX11_scan_85 rfl rfl c13.symm (Nat.le_of_ble_eq_true rfl) rfl rfl ?_
      refine rr_goto (tgt := 60) dX11_scan_88 (by decide) ?_
      obtain rfl := Option.some.inj hm
      refine rr_sub [true, true, false, true, true, true, false] rfl ?_
      exact hI w12 rfl
    · obtain rfl := Option.some.inj hm
      refine rr_sub [false, false, false, false, false, false, true] rfl ?_
      exact hX1 r10 rfl
set_option maxHeartbeats 200000 in
theorem vt_X11_scan_B112 {x : vv_E} {post : Option Value → vv_H → Prop} {u1 : Int32} {u3 : Int32} {u4 : Int32} {s5 : Int32} {h : vv_H} {o : (Int32 × vv_H) ⊕ ((vv_H))}  (hm : ff_X11_scan_B112  u1 u3 u4 s5 h = some o) (hI : ∀ (z5 : Int32) (zh : vv_H), o = .inl (z5, zh) → vv_V x vv_TC mm_X11_scan post 112 [some (.ref (vv_ad x 0)), some (.int u1), none, some (.int u3), some (.int u4), some (.int z5), none] [] zh) (hX0 : ∀  (zh : vv_H), o = .inr zh → vv_V x vv_TC mm_X11_scan post 163 [some (.ref (vv_ad x 0)), none, none, none, none, none, none] [] zh) : vv_V x vv_TC mm_X11_scan post 112 [some (.ref (vv_ad x 0)), some (.int u1), none, some (.int u3), some (.int u4), some (.int s5), none] [] h := by
  unfold ff_X11_scan_B112 at hm
  refine rr_iload (q := 114) dX11_scan_112 rfl rfl ?_
  refine rr_iload (q := 116) dX11_scan_114 rfl rfl ?_
  refine rr_icmp_ge (q := 119) (tgt := 163) dX11_scan_116 (by decide) rfl hm (fun hm => ?_) (fun hm => ?_)
  · obtain rfl := Option.some.inj hm
    refine rr_sub [true, false, false, false, false, false, false] rfl ?_
    exact hX0 h rfl
  · refine rr_aload_n (q := 120) dX11_scan_119 rfl rfl ?_
    refine gf_X11_19 (q := 123) rfl dX11_scan_120 rfl ?_
    refine rr_iload (q := 125) dX11_scan_123 rfl rfl ?_
    refine rr_iconst (q := 126) (v := 3) dX11_scan_125 rfl (by decide) ?_
    obtain ⟨c16, hm⟩ := vv_nz_of hm
    refine rr_idiv (q := 127) dX11_scan_126 rfl c16 ?_
    refine rr_iload (q := 129) dX11_scan_127 rfl rfl ?_
    refine rr_iconst (q := 130) (v := 3) dX11_scan_129 rfl (by decide) ?_
    obtain ⟨c17, hm⟩ := vv_nz_of hm
    refine rr_irem (q := 131) dX11_scan_130 rfl c17 ?_
    refine rr_aload_n (q := 132) dX11_scan_131 rfl rfl ?_
    refine gf_X11_85 (q := 135) rfl dX11_scan_132 rfl ?_
    refine gf_X11_382 (q := 138) rfl dX11_scan_135 rfl ?_
    refine rr_iload_n (q := 139) dX11_scan_138 rfl rfl ?_
    obtain ⟨c18, hm⟩ := vv_ck_of hm
    refine rr_aald (q := 140) ylC_179 ynC_179 c18 dX11_scan_139 rfl ?_
    refine rr_iload_n (q := 141) dX11_scan_140 rfl rfl ?_
    refine rr_iload (q := 143) dX11_scan_141 rfl rfl ?_
    refine rr_iadd (q := 144) dX11_scan_143 rfl ?_
    obtain ⟨c19, hm⟩ := vv_ck_of hm
    refine rr_iald (q := 145) (ywC_179 c18).1 (ywC_179 c18).2 c19 dX11_scan_144 rfl ?_
    refine rr_aload_n (q := 146) dX11_scan_145 rfl rfl ?_
    refine gf_X11_89 (q := 149) rfl dX11_scan_146 rfl ?_
    refine rr_aload_n (q := 150) dX11_scan_149 rfl rfl ?_
    refine gf_X11_89 (q := 153) rfl dX11_scan_150 rfl ?_
    obtain ⟨r20, k21, hm⟩ := vv_bind hm
    refine rr_callV (q := 156) (M' := mm_X2_add) (As := [.int (s5 / (3 : Int32)), .int (s5 - s5 / (3 : Int32) * (3 : Int32)), .int (h.1 (180 + u1.toNatClampNeg) (u3 + s5).toNatClampNeg), .int (h.1 0 0), .int (h.1 0 0)]) (st := []) (w := some (.int r20.1)) (cc_X2_add  k21) rfl ylC_16 ynC_16 rfl vy_X2_add zw_404 ⟨Nat.le_of_ble_eq_true rfl, Nat.le_of_ble_eq_true rfl⟩ (Nat.le_of_ble_eq_true rfl) dX11_scan_153 rfl ?_
    show vv_V x vv_TC mm_X11_scan post 156 [some (.ref (vv_ad x 0)), some (.int u1), none, some (.int u3), some (.int u4), some (.int s5), none] [.int r20.1] r20.2
    refine rr_pop (q := 157) dX11_scan_156 rfl rfl ?_
    obtain ⟨w22, c23, hm⟩ := vv_let_of hm
    refine rr_iinc (q := 160) [some (.ref (vv_ad x 0)), some (.int u1), none, some (.int u3), some (.int u4), some (.int w22), none] dX11_scan_157 rfl rfl c23.symm (Nat.le_of_ble_eq_true rfl) rfl rfl ?_
    refine rr_goto (tgt := 112) dX11_scan_160 (by decide) ?_
    obtain rfl := Option.some.inj hm
    exact hI w22 r20.2 rfl
set_option maxHeartbeats 200000 in
theorem vt_X11_scan {x : vv_E} {post : Option Value → vv_H → Prop} {h : vv_H} {v1 : Int32} {v2 : Int32} {v3 : Int32} {o : Int32 × vv_H}  (hm : ff_X11_scan  h v1 v2 v3 = some o) (hp : post (some (.int o.1)) o.2) : vv_V x vv_TC mm_X11_scan post 0 [some (.ref (vv_ad x 0)), some (.int v1), some (.int v2), some (.int v3), none, none, none] [] h := by
  unfold ff_X11_scan at hm
  refine rr_iload_n (q := 1) dX11_scan_0 rfl rfl ?_
  obtain ⟨r1, k2, hm⟩ := vv_bind hm
  refine rr_callS (q := 4) (M' := mm_X11_isSheet) (As := [.int v1]) (st := []) (w := some (.int r1))  (cc_X11_isSheet  k2) rfl vy_X11_isSheet zw_474 ⟨Nat.le_of_ble_eq_true rfl, Nat.le_of_ble_eq_true rfl⟩ (Nat.le_of_ble_eq_true rfl) dX11_scan_1 rfl ?_
  show vv_V x vv_TC mm_X11_scan post 4 [some (.ref (vv_ad x 0)), some (.int v1), some (.int v2), some (.int v3), none, none, none] [.int r1] h
  refine rr_if_eq (q := 7) (tgt := 14) dX11_scan_4 (by decide) rfl hm (fun hm => ?_) (fun hm => ?_)
  · refine rr_iconst (q := 15) (v := -1) dX11_scan_14 rfl (by decide) ?_
    obtain rfl := Option.some.inj hm
    exact rr_iret dX11_scan_15 rfl hp
  · refine rr_iload_n (q := 8) dX11_scan_7 rfl rfl ?_
    obtain ⟨r3, k4, hm⟩ := vv_bind hm
    refine rr_callS (q := 11) (M' := mm_X11_isLane) (As := [.int v2]) (st := []) (w := some (.int r3))  (cc_X11_isLane  k4) rfl vy_X11_isLane zw_478 ⟨Nat.le_of_ble_eq_true rfl, Nat.le_of_ble_eq_true rfl⟩ (Nat.le_of_ble_eq_true rfl) dX11_scan_8 rfl ?_
    show vv_V x vv_TC mm_X11_scan post 11 [some (.ref (vv_ad x 0)), some (.int v1), some (.int v2), some (.int v3), none, none, none] [.int r3] h
    refine rr_if_ne (q := 14) (tgt := 16) dX11_scan_11 (by decide) rfl hm (fun hm => ?_) (fun hm => ?_)
    · refine rr_aload_n (q := 17) dX11_scan_16 rfl rfl ?_
      refine gf_X11_85 (q := 20) rfl dX11_scan_17 rfl ?_
      refine rr_iload_n (q := 21) dX11_scan_20 rfl rfl ?_
      obtain ⟨r5, k6, hm⟩ := vv_bind hm
      refine rr_callV (q := 24) (M' := mm_X7_isNothing) (As := [.int v1]) (st := []) (w := some (.int r5)) (cc_X7_isNothing  k6) rfl ylC_176 ynC_176 rfl vy_X7_isNothing zw_489 ⟨Nat.le_of_ble_eq_true rfl, Nat.le_of_ble_eq_true rfl⟩ (Nat.le_of_ble_eq_true rfl) dX11_scan_21 rfl ?_
      show vv_V x vv_TC mm_X11_scan post 24 [some (.ref (vv_ad x 0)), some (.int v1), some (.int v2), some (.int v3), none, none, none] [.int r5] h
      refine rr_if_eq (q := 27) (tgt := 30) dX11_scan_24 (by decide) rfl hm (fun hm => ?_) (fun hm => ?_)
      · refine rr_aload_n (q := 31) dX11_scan_30 rfl rfl ?_
        refine gf_X11_85 (q := 34) rfl dX11_scan_31 rfl ?_
        refine gf_X11_374 (q := 37) rfl dX11_scan_34 rfl ?_
        refine rr_iload_n (q := 38) dX11_scan_37 rfl rfl ?_
        obtain ⟨c7, hm⟩ := vv_ck_of hm
        refine rr_iald (q := 39) ylC_177 ynC_177 c7 dX11_scan_38 rfl ?_
        refine rr_iload_n (q := 40) dX11_scan_39 rfl rfl ?_
        refine rr_icmp_eq (q := 43) (tgt := 46) dX11_scan_40 (by decide) rfl hm (fun hm => ?_) (fun hm => ?_)
        · refine rr_iconst (q := 47) (v := 3) dX11_scan_46 rfl (by decide) ?_
          refine rr_aload_n (q := 48) dX11_scan_47 rfl rfl ?_
          refine gf_X11_10 (q := 51) rfl dX11_scan_48 rfl ?_
          refine gf_X11_377 (q := 54) rfl dX11_scan_51 rfl ?_
          refine rr_imul (q := 55) dX11_scan_54 rfl ?_
          obtain ⟨w8, c9, hm⟩ := vv_let_of hm
          rw [← c9]
          refine rr_istore (q := 57) [some (.ref (vv_ad x 0)), some (.int v1), some (.int v2), some (.int v3), some (.int w8), none, none] dX11_scan_55 rfl (Nat.le_of_ble_eq_true rfl) rfl rfl ?_
          refine rr_iconst (q := 58) (v := 0) dX11_scan_57 rfl (by decide) ?_
          refine rr_istore (q := 60) [some (.ref (vv_ad x 0)), some (.int v1), some (.int v2), some (.int v3), some (.int w8), some (.int (0 : Int32)), none] dX11_scan_58 rfl (Nat.le_of_ble_eq_true rfl) rfl rfl ?_
          refine rr_sub [true, true, false, true, true, true, false] rfl ?_
          obtain ⟨r14, k28, hm⟩ := vv_bind hm
          refine vv_lp_link (P := fun (zs : Int32) => vv_V x vv_TC mm_X11_scan post 60 [some (.ref (vv_ad x 0)), some (.int v1), none, some (.int v3), some (.int w8), some (.int zs), none] [] h) (Q := (Sum.elim (fun (e15 : (Unit)) => vv_V x vv_TC mm_X11_scan post 91 [some (.ref (vv_ad x 0)), some (.int v1), none, some (.int v3), some (.int w8), none, none] [] h) (fun (e27 : (Int32)) => vv_V x vv_TC mm_X11_scan post 82 [none, none, none, none, none, none, some (.int e27)] [] h))) (fun zs o hm hI hX => ?_) vv_F (0 : Int32) r14 k28 ?_
          · exact vt_X11_scan_B60   hm (fun z5 e => hI z5 e) (hX (.inl ())) (fun z6 e => hX (.inr z6) e)
          · rcases r14 with e15 | qe15
            · try dsimp only [Sum.elim_inl, Sum.elim_inr] at hm
              try dsimp only [Sum.elim_inl, Sum.elim_inr]
              refine rr_aload_n (q := 92) dX11_scan_91 rfl rfl ?_
              refine gf_X11_19 (q := 95) rfl dX11_scan_92 rfl ?_
              refine gf_X11_381 (q := 98) rfl dX11_scan_95 rfl ?_
              refine rr_iload (q := 100) dX11_scan_98 rfl rfl ?_
              refine rr_iadd (q := 101) dX11_scan_100 rfl ?_
              refine rr_bipush (q := 103) (v := 60) dX11_scan_101 rfl (by decide) ?_
              refine rr_icmp_le (q := 106) (tgt := 109) dX11_scan_103 (by decide) rfl hm (fun hm => ?_) (fun hm => ?_)
              · refine rr_iconst (q := 110) (v := 0) dX11_scan_109 rfl (by decide) ?_
                refine rr_istore (q := 112) [some (.ref (vv_ad x 0)), some (.int v1), none, some (.int v3), some (.int w8), some (.int (0 : Int32)), none] dX11_scan_110 rfl (Nat.le_of_ble_eq_true rfl) rfl rfl ?_
                obtain ⟨r24, k26, hm⟩ := vv_bind hm
                refine vv_lp_link (P := fun (zs : Int32 × vv_H) => vv_V x vv_TC mm_X11_scan post 112 [some (.ref (vv_ad x 0)), some (.int v1), none, some (.int v3), some (.int w8), some (.int zs.1), none] [] zs.2) (Q := (fun (e25 : (vv_H)) => vv_V x vv_TC mm_X11_scan post 163 [some (.ref (vv_ad x 0)), none, none, none, none, none, none] [] e25)) (fun zs o hm hI hX => ?_) vv_F ((0 : Int32), h) r24 k26 ?_
                · exact vt_X11_scan_B112   hm (fun z5 zh e => hI (z5, zh) e) (fun zh e => hX zh e)
                · generalize r24 = e25 at hm ⊢
                  try dsimp only [Sum.elim_inl, Sum.elim_inr] at hm
                  try dsimp only [Sum.elim_inl, Sum.elim_inr]
                  refine rr_aload_n (q := 164) dX11_scan_163 rfl rfl ?_
                  refine gf_X11_19 (q := 167) rfl dX11_scan_164 rfl ?_
                  refine gf_X11_381 (q := 170) rfl dX11_scan_167 rfl ?_
                  obtain rfl := Option.some.inj hm
                  exact rr_iret dX11_scan_170 rfl hp
              · refine rr_bipush (q := 108) (v := -3) dX11_scan_106 rfl (by decide) ?_
                obtain rfl := Option.some.inj hm
                exact rr_iret dX11_scan_108 rfl hp
            · generalize qe15 = e27 at hm ⊢
              try dsimp only [Sum.elim_inl, Sum.elim_inr] at hm
              try dsimp only [Sum.elim_inl, Sum.elim_inr]
              refine rr_iload (q := 84) dX11_scan_82 rfl rfl ?_
              obtain rfl := Option.some.inj hm
              exact rr_iret dX11_scan_84 rfl hp
        · refine rr_bipush (q := 45) (v := -13) dX11_scan_43 rfl (by decide) ?_
          obtain rfl := Option.some.inj hm
          exact rr_iret dX11_scan_45 rfl hp
      · refine rr_bipush (q := 29) (v := -11) dX11_scan_27 rfl (by decide) ?_
        obtain rfl := Option.some.inj hm
        exact rr_iret dX11_scan_29 rfl hp
    · refine rr_iconst (q := 15) (v := -1) dX11_scan_14 rfl (by decide) ?_
      obtain rfl := Option.some.inj hm
      exact rr_iret dX11_scan_15 rfl hp
theorem cc_X11_scan {x : vv_E} {h : vv_H} {v1 : Int32} {v2 : Int32} {v3 : Int32} {o : Int32 × vv_H}  (hm : ff_X11_scan h v1 v2 v3 = some o) : vv_C x vv_TC yX11_scan mm_X11_scan [.ref (vv_ad x 0), .int v1, .int v2, .int v3] h (fun v g => v = some (.int o.1) ∧ g = o.2) := vv_entry (by decide +kernel) rfl (Nat.le_of_ble_eq_true rfl) rfl (vt_X11_scan  hm ⟨rfl, rfl⟩)
def ff_X11_leastLeeway_B6 (u1 : Int32) (u2 : Int32) (h : vv_H) (s3 : Int32) (s4 : Int32) : Option ((Int32 × Int32) ⊕ ((Int32))) := (if (h.1 22 0) ≤ s4 then some (.inr s3) else (ff_X8_isOf h s4 u2).bind (fun r1 => (if r1 = 0 then vv_let (s4 + 1) (fun w3 => some (.inl (s3, w3))) else (ff_X11_leewayNeeded h s4 u1).bind (fun r5 => vv_let (if r5 < s3 then r5 else s3) (fun w7 => vv_let (s4 + 1) (fun w9 => some (.inl (w7, w9))))))))
def ff_X11_leastLeeway (h : vv_H) (v1 : Int32) (v2 : Int32) : Option (Int32) := (vv_lp (fun (zs : Int32 × Int32) => ff_X11_leastLeeway_B6  v1 v2 h zs.1 zs.2) vv_F ((51 : Int32), (0 : Int32))).bind (fun (e12 : (Int32)) => (if e12 ≤ (50 : Int32) then some e12 else some (-4 : Int32)))
set_option maxHeartbeats 200000 in
theorem vt_X11_leastLeeway_B6 {x : vv_E} {post : Option Value → vv_H → Prop} {u1 : Int32} {u2 : Int32} {h : vv_H} {s3 : Int32} {s4 : Int32} {o : (Int32 × Int32) ⊕ ((Int32))}  (hm : ff_X11_leastLeeway_B6  u1 u2 h s3 s4 = some o) (hI : ∀ (z3 : Int32) (z4 : Int32) , o = .inl (z3, z4) → vv_V x vv_TC mm_X11_leastLeeway post 6 [some (.ref (vv_ad x 0)), some (.int u1), some (.int u2), some (.int z3), some (.int z4)] [] h) (hX0 : ∀ (z3 : Int32), o = .inr z3 → vv_V x vv_TC mm_X11_leastLeeway post 49 [none, none, none, some (.int z3), none] [] h) : vv_V x vv_TC mm_X11_leastLeeway post 6 [some (.ref (vv_ad x 0)), some (.int u1), some (.int u2), some (.int s3), some (.int s4)] [] h := by
  unfold ff_X11_leastLeeway_B6 at hm
  refine rr_iload (q := 8) dX11_leastLeeway_6 rfl rfl ?_
  refine rr_aload_n (q := 9) dX11_leastLeeway_8 rfl rfl ?_
  refine gf_X11_26 (q := 12) rfl dX11_leastLeeway_9 rfl ?_
  refine gf_X11_166 (q := 15) rfl dX11_leastLeeway_12 rfl ?_
  refine rr_icmp_ge (q := 18) (tgt := 49) dX11_leastLeeway_15 (by decide) rfl hm (fun hm => ?_) (fun hm => ?_)
  · obtain rfl := Option.some.inj hm
    refine rr_sub [false, false, false, true, false] rfl ?_
    exact hX0 s3 rfl
  · refine rr_aload_n (q := 19) dX11_leastLeeway_18 rfl rfl ?_
    refine gf_X11_26 (q := 22) rfl dX11_leastLeeway_19 rfl ?_
    refine rr_iload (q := 24) dX11_leastLeeway_22 rfl rfl ?_
    refine rr_iload_n (q := 25) dX11_leastLeeway_24 rfl rfl ?_
    obtain ⟨r1, k2, hm⟩ := vv_bind hm
    refine rr_callV (q := 28) (M' := mm_X8_isOf) (As := [.int s4, .int u2]) (st := []) (w := some (.int r1)) (cc_X8_isOf  k2) rfl ylC_22 ynC_22 rfl vy_X8_isOf zw_715 ⟨Nat.le_of_ble_eq_true rfl, Nat.le_of_ble_eq_true rfl⟩ (Nat.le_of_ble_eq_true rfl) dX11_leastLeeway_25 rfl ?_
    show vv_V x vv_TC mm_X11_leastLeeway post 28 [some (.ref (vv_ad x 0)), some (.int u1), some (.int u2), some (.int s3), some (.int s4)] [.int r1] h
    refine rr_if_eq (q := 31) (tgt := 43) dX11_leastLeeway_28 (by decide) rfl hm (fun hm => ?_) (fun hm => ?_)
    · obtain ⟨w3, c4, hm⟩ := vv_let_of hm
      refine rr_iinc (q := 46) [some (.ref (vv_ad x 0)), some (.int u1), some (.int u2), some (.int s3), some (.int w3)] dX11_leastLeeway_43 rfl rfl c4.symm (Nat.le_of_ble_eq_true rfl) rfl rfl ?_
      refine rr_goto (tgt := 6) dX11_leastLeeway_46 (by decide) ?_
      obtain rfl := Option.some.inj hm
      exact hI s3 w3 rfl
    · refine rr_iload_n (q := 32) dX11_leastLeeway_31 rfl rfl ?_
      refine rr_aload_n (q := 33) dX11_leastLeeway_32 rfl rfl ?_
      refine rr_iload (q := 35) dX11_leastLeeway_33 rfl rfl ?_
      refine rr_iload_n (q := 36) dX11_leastLeeway_35 rfl rfl ?_
      obtain ⟨r5, k6, hm⟩ := vv_bind hm
      refine rr_callV (q := 39) (M' := mm_X11_leewayNeeded) (As := [.int s4, .int u1]) (st := [.int s3]) (w := some (.int r5)) (cc_X11_leewayNeeded  k6) rfl ylC_0 ynC_0 rfl vy_X11_leewayNeeded zw_682 ⟨Nat.le_of_ble_eq_true rfl, Nat.le_of_ble_eq_true rfl⟩ (Nat.le_of_ble_eq_true rfl) dX11_leastLeeway_36 rfl ?_
      show vv_V x vv_TC mm_X11_leastLeeway post 39 [some (.ref (vv_ad x 0)), some (.int u1), some (.int u2), some (.int s3), some (.int s4)] [.int r5, .int s3] h
      refine rr_mmin (q := 42) zw_716 zw_125 zw_126 zw_127 (Nat.le_of_ble_eq_true rfl) (Nat.le_of_ble_eq_true rfl) dX11_leastLeeway_39 rfl ?_
      obtain ⟨w7, c8, hm⟩ := vv_let_of hm
      rw [← c8]
      refine rr_istore_n (q := 43) [some (.ref (vv_ad x 0)), some (.int u1), some (.int u2), some (.int w7), some (.int s4)] dX11_leastLeeway_42 rfl rfl (Nat.le_of_ble_eq_true rfl) rfl rfl ?_
      obtain ⟨w9, c10, hm⟩ := vv_let_of hm
      refine rr_iinc (q := 46) [some (.ref (vv_ad x 0)), some (.int u1), some (.int u2), some (.int w7), some (.int w9)] dX11_leastLeeway_43 rfl rfl c10.symm (Nat.le_of_ble_eq_true rfl) rfl rfl ?_
      refine rr_goto (tgt := 6) dX11_leastLeeway_46 (by decide) ?_
      obtain rfl := Option.some.inj hm
      exact hI w7 w9 rfl
set_option maxHeartbeats 200000 in
theorem vt_X11_leastLeeway {x : vv_E} {post : Option Value → vv_H → Prop} {h : vv_H} {v1 : Int32} {v2 : Int32} {o : Int32}  (hm : ff_X11_leastLeeway  h v1 v2 = some o) (hp : post (some (.int o)) h) : vv_V x vv_TC mm_X11_leastLeeway post 0 [some (.ref (vv_ad x 0)), some (.int v1), some (.int v2), none, none] [] h := by
  unfold ff_X11_leastLeeway at hm
  refine rr_bipush (q := 2) (v := 51) dX11_leastLeeway_0 rfl (by decide) ?_
  refine rr_istore_n (q := 3) [some (.ref (vv_ad x 0)), some (.int v1), some (.int v2), some (.int (51 : Int32)), none] dX11_leastLeeway_2 rfl rfl (Nat.le_of_ble_eq_true rfl) rfl rfl ?_
  refine rr_iconst (q := 4) (v := 0) dX11_leastLeeway_3 rfl (by decide) ?_
  refine rr_istore (q := 6) [some (.ref (vv_ad x 0)), some (.int v1), some (.int v2), some (.int (51 : Int32)), some (.int (0 : Int32))] dX11_leastLeeway_4 rfl (Nat.le_of_ble_eq_true rfl) rfl rfl ?_
  obtain ⟨r11, k13, hm⟩ := vv_bind hm
  refine vv_lp_link (P := fun (zs : Int32 × Int32) => vv_V x vv_TC mm_X11_leastLeeway post 6 [some (.ref (vv_ad x 0)), some (.int v1), some (.int v2), some (.int zs.1), some (.int zs.2)] [] h) (Q := (fun (e12 : (Int32)) => vv_V x vv_TC mm_X11_leastLeeway post 49 [none, none, none, some (.int e12), none] [] h)) (fun zs o hm hI hX => ?_) vv_F ((51 : Int32), (0 : Int32)) r11 k13 ?_
  · exact vt_X11_leastLeeway_B6   hm (fun z3 z4 e => hI (z3, z4) e) (fun z3 e => hX z3 e)
  · generalize r11 = e12 at hm ⊢
    try dsimp only [Sum.elim_inl, Sum.elim_inr] at hm
    try dsimp only [Sum.elim_inl, Sum.elim_inr]
    refine rr_iload_n (q := 50) dX11_leastLeeway_49 rfl rfl ?_
    refine rr_bipush (q := 52) (v := 50) dX11_leastLeeway_50 rfl (by decide) ?_
    refine rr_icmp_le (q := 55) (tgt := 60) dX11_leastLeeway_52 (by decide) rfl hm (fun hm => ?_) (fun hm => ?_)
    · refine rr_iload_n (q := 61) dX11_leastLeeway_60 rfl rfl ?_
      obtain rfl := Option.some.inj hm
      exact rr_iret dX11_leastLeeway_61 rfl hp
    · refine rr_bipush (q := 57) (v := -4) dX11_leastLeeway_55 rfl (by decide) ?_
      refine rr_goto (tgt := 61) dX11_leastLeeway_57 (by decide) ?_
      obtain rfl := Option.some.inj hm
      exact rr_iret dX11_leastLeeway_61 rfl hp
theorem cc_X11_leastLeeway {x : vv_E} {h : vv_H} {v1 : Int32} {v2 : Int32} {o : Int32}  (hm : ff_X11_leastLeeway h v1 v2 = some o) : vv_C x vv_TC yX11_leastLeeway mm_X11_leastLeeway [.ref (vv_ad x 0), .int v1, .int v2] h (fun v g => v = some (.int o) ∧ g = h) := vv_entry (by decide +kernel) rfl (Nat.le_of_ble_eq_true rfl) rfl (vt_X11_leastLeeway  hm ⟨rfl, rfl⟩)
def ff_X11_fittedBy_B4 (u1 : Int32) (h : vv_H) (s2 : Int32) (s3 : Int32) : Option ((Int32 × Int32) ⊕ ((Int32))) := (if (h.1 1 0) ≤ s3 then some (.inr s2) else (ff_X11_leewayNeeded h u1 s3).bind (fun r1 => (if r1 = 0 then vv_let (s2 ||| ((1 : Int32) <<< (s3 &&& 31))) (fun w5 => vv_let (s3 + 1) (fun w7 => some (.inl (w5, w7)))) else vv_let (s3 + 1) (fun w3 => some (.inl (s2, w3))))))
def ff_X11_fittedBy (h : vv_H) (v1 : Int32) : Option (Int32) := (vv_lp (fun (zs : Int32 × Int32) => ff_X11_fittedBy_B4  v1 h zs.1 zs.2) vv_F ((0 : Int32), (0 : Int32))).bind (fun (e10 : (Int32)) => some e10)
set_option maxHeartbeats 200000 in
theorem vt_X11_fittedBy_B4 {x : vv_E} {post : Option Value → vv_H → Prop} {u1 : Int32} {h : vv_H} {s2 : Int32} {s3 : Int32} {o : (Int32 × Int32) ⊕ ((Int32))}  (hm : ff_X11_fittedBy_B4  u1 h s2 s3 = some o) (hI : ∀ (z2 : Int32) (z3 : Int32) , o = .inl (z2, z3) → vv_V x vv_TC mm_X11_fittedBy post 4 [some (.ref (vv_ad x 0)), some (.int u1), some (.int z2), some (.int z3)] [] h) (hX0 : ∀ (z2 : Int32), o = .inr z2 → vv_V x vv_TC mm_X11_fittedBy post 36 [none, none, some (.int z2), none] [] h) : vv_V x vv_TC mm_X11_fittedBy post 4 [some (.ref (vv_ad x 0)), some (.int u1), some (.int s2), some (.int s3)] [] h := by
  unfold ff_X11_fittedBy_B4 at hm
  refine rr_iload_n (q := 5) dX11_fittedBy_4 rfl rfl ?_
  refine rr_aload_n (q := 6) dX11_fittedBy_5 rfl rfl ?_
  refine gf_X11_10 (q := 9) rfl dX11_fittedBy_6 rfl ?_
  refine gf_X11_377 (q := 12) rfl dX11_fittedBy_9 rfl ?_
  refine rr_icmp_ge (q := 15) (tgt := 36) dX11_fittedBy_12 (by decide) rfl hm (fun hm => ?_) (fun hm => ?_)
  · obtain rfl := Option.some.inj hm
    refine rr_sub [false, false, true, false] rfl ?_
    exact hX0 s2 rfl
  · refine rr_aload_n (q := 16) dX11_fittedBy_15 rfl rfl ?_
    refine rr_iload_n (q := 17) dX11_fittedBy_16 rfl rfl ?_
    refine rr_iload_n (q := 18) dX11_fittedBy_17 rfl rfl ?_
    obtain ⟨r1, k2, hm⟩ := vv_bind hm
    refine rr_callV (q := 21) (M' := mm_X11_leewayNeeded) (As := [.int u1, .int s3]) (st := []) (w := some (.int r1)) (cc_X11_leewayNeeded  k2) rfl ylC_0 ynC_0 rfl vy_X11_leewayNeeded zw_682 ⟨Nat.le_of_ble_eq_true rfl, Nat.le_of_ble_eq_true rfl⟩ (Nat.le_of_ble_eq_true rfl) dX11_fittedBy_18 rfl ?_
    show vv_V x vv_TC mm_X11_fittedBy post 21 [some (.ref (vv_ad x 0)), some (.int u1), some (.int s2), some (.int s3)] [.int r1] h
    refine rr_if_ne (q := 24) (tgt := 30) dX11_fittedBy_21 (by decide) rfl hm (fun hm => ?_) (fun hm => ?_)
    · obtain ⟨w3, c4, hm⟩ := vv_let_of hm
      refine rr_iinc (q := 33) [some (.ref (vv_ad x 0)), some (.int u1), some (.int s2), some (.int w3)] dX11_fittedBy_30 rfl rfl c4.symm (Nat.le_of_ble_eq_true rfl) rfl rfl ?_
      refine rr_goto (tgt := 4) dX11_fittedBy_33 (by decide) ?_
      obtain rfl := Option.some.inj hm
      exact hI s2 w3 rfl
    · refine rr_iload_n (q := 25) dX11_fittedBy_24 rfl rfl ?_
      refine rr_iconst (q := 26) (v := 1) dX11_fittedBy_25 rfl (by decide) ?_
      refine rr_iload_n (q := 27) dX11_fittedBy_26 rfl rfl ?_
      refine rr_ishl (q := 28) dX11_fittedBy_27 rfl ?_
      refine rr_ior (q := 29) dX11_fittedBy_28 rfl ?_
      obtain ⟨w5, c6, hm⟩ := vv_let_of hm
      rw [← c6]
      refine rr_istore_n (q := 30) [some (.ref (vv_ad x 0)), some (.int u1), some (.int w5), some (.int s3)] dX11_fittedBy_29 rfl rfl (Nat.le_of_ble_eq_true rfl) rfl rfl ?_
      obtain ⟨w7, c8, hm⟩ := vv_let_of hm
      refine rr_iinc (q := 33) [some (.ref (vv_ad x 0)), some (.int u1), some (.int w5), some (.int w7)] dX11_fittedBy_30 rfl rfl c8.symm (Nat.le_of_ble_eq_true rfl) rfl rfl ?_
      refine rr_goto (tgt := 4) dX11_fittedBy_33 (by decide) ?_
      obtain rfl := Option.some.inj hm
      exact hI w5 w7 rfl
set_option maxHeartbeats 200000 in
theorem vt_X11_fittedBy {x : vv_E} {post : Option Value → vv_H → Prop} {h : vv_H} {v1 : Int32} {o : Int32}  (hm : ff_X11_fittedBy  h v1 = some o) (hp : post (some (.int o)) h) : vv_V x vv_TC mm_X11_fittedBy post 0 [some (.ref (vv_ad x 0)), some (.int v1), none, none] [] h := by
  unfold ff_X11_fittedBy at hm
  refine rr_iconst (q := 1) (v := 0) dX11_fittedBy_0 rfl (by decide) ?_
  refine rr_istore_n (q := 2) [some (.ref (vv_ad x 0)), some (.int v1), some (.int (0 : Int32)), none] dX11_fittedBy_1 rfl rfl (Nat.le_of_ble_eq_true rfl) rfl rfl ?_
  refine rr_iconst (q := 3) (v := 0) dX11_fittedBy_2 rfl (by decide) ?_
  refine rr_istore_n (q := 4) [some (.ref (vv_ad x 0)), some (.int v1), some (.int (0 : Int32)), some (.int (0 : Int32))] dX11_fittedBy_3 rfl rfl (Nat.le_of_ble_eq_true rfl) rfl rfl ?_
  obtain ⟨r9, k11, hm⟩ := vv_bind hm
  refine vv_lp_link (P := fun (zs : Int32 × Int32) => vv_V x vv_TC mm_X11_fittedBy post 4 [some (.ref (vv_ad x 0)), some (.int v1), some (.int zs.1), some (.int zs.2)] [] h) (Q := (fun (e10 : (Int32)) => vv_V x vv_TC mm_X11_fittedBy post 36 [none, none, some (.int e10), none] [] h)) (fun zs o hm hI hX => ?_) vv_F ((0 : Int32), (0 : Int32)) r9 k11 ?_
  · exact vt_X11_fittedBy_B4   hm (fun z2 z3 e => hI (z2, z3) e) (fun z2 e => hX z2 e)
  · generalize r9 = e10 at hm ⊢
    try dsimp only [Sum.elim_inl, Sum.elim_inr] at hm
    try dsimp only [Sum.elim_inl, Sum.elim_inr]
    refine rr_iload_n (q := 37) dX11_fittedBy_36 rfl rfl ?_
    obtain rfl := Option.some.inj hm
    exact rr_iret dX11_fittedBy_37 rfl hp
theorem cc_X11_fittedBy {x : vv_E} {h : vv_H} {v1 : Int32} {o : Int32}  (hm : ff_X11_fittedBy h v1 = some o) : vv_C x vv_TC yX11_fittedBy mm_X11_fittedBy [.ref (vv_ad x 0), .int v1] h (fun v g => v = some (.int o) ∧ g = h) := vv_entry (by decide +kernel) rfl (Nat.le_of_ble_eq_true rfl) rfl (vt_X11_fittedBy  hm ⟨rfl, rfl⟩)
def ff_X11_usableWith_B5 (u1 : Int32) (u2 : Int32) (h : vv_H) (s3 : Int32) (s4 : Int32) : Option ((Int32 × Int32) ⊕ ((Int32))) := (if (h.1 156 0) ≤ s4 then some (.inr s3) else vv_ck s4 36 ((if (h.1 161 s4.toNatClampNeg) = u1 then (ff_X11_kindOf h s4).bind (fun r4 => (if r4 = u2 then (ff_X11_isWornOut h s4).bind (fun r8 => (if r8 = 0 then vv_let (s3 + 1) (fun w12 => vv_let (s4 + 1) (fun w14 => some (.inl (w12, w14)))) else vv_let (s4 + 1) (fun w10 => some (.inl (s3, w10))))) else vv_let (s4 + 1) (fun w6 => some (.inl (s3, w6))))) else vv_let (s4 + 1) (fun w2 => some (.inl (s3, w2))))))
def ff_X11_usableWith (h : vv_H) (v1 : Int32) (v2 : Int32) : Option (Int32) := (vv_lp (fun (zs : Int32 × Int32) => ff_X11_usableWith_B5  v1 v2 h zs.1 zs.2) vv_F ((0 : Int32), (0 : Int32))).bind (fun (e17 : (Int32)) => some e17)
set_option maxHeartbeats 200000 in
theorem vt_X11_usableWith_B5 {x : vv_E} {post : Option Value → vv_H → Prop} {u1 : Int32} {u2 : Int32} {h : vv_H} {s3 : Int32} {s4 : Int32} {o : (Int32 × Int32) ⊕ ((Int32))}  (hm : ff_X11_usableWith_B5  u1 u2 h s3 s4 = some o) (hI : ∀ (z3 : Int32) (z4 : Int32) , o = .inl (z3, z4) → vv_V x vv_TC mm_X11_usableWith post 5 [some (.ref (vv_ad x 0)), some (.int u1), some (.int u2), some (.int z3), some (.int z4)] [] h) (hX0 : ∀ (z3 : Int32), o = .inr z3 → vv_V x vv_TC mm_X11_usableWith post 59 [none, none, none, some (.int z3), none] [] h) : vv_V x vv_TC mm_X11_usableWith post 5 [some (.ref (vv_ad x 0)), some (.int u1), some (.int u2), some (.int s3), some (.int s4)] [] h := by
  unfold ff_X11_usableWith_B5 at hm
  refine rr_iload (q := 7) dX11_usableWith_5 rfl rfl ?_
  refine rr_aload_n (q := 8) dX11_usableWith_7 rfl rfl ?_
  refine gf_X11_64 (q := 11) rfl dX11_usableWith_8 rfl ?_
  refine gf_X11_339 (q := 14) rfl dX11_usableWith_11 rfl ?_
  refine rr_icmp_ge (q := 17) (tgt := 59) dX11_usableWith_14 (by decide) rfl hm (fun hm => ?_) (fun hm => ?_)
  · obtain rfl := Option.some.inj hm
    refine rr_sub [false, false, false, true, false] rfl ?_
    exact hX0 s3 rfl
  · refine rr_aload_n (q := 18) dX11_usableWith_17 rfl rfl ?_
    refine gf_X11_64 (q := 21) rfl dX11_usableWith_18 rfl ?_
    refine gf_X11_259 (q := 24) rfl dX11_usableWith_21 rfl ?_
    refine rr_iload (q := 26) dX11_usableWith_24 rfl rfl ?_
    obtain ⟨c1, hm⟩ := vv_ck_of hm
    refine rr_iald (q := 27) ylC_161 ynC_161 c1 dX11_usableWith_26 rfl ?_
    refine rr_iload_n (q := 28) dX11_usableWith_27 rfl rfl ?_
    refine rr_icmp_ne (q := 31) (tgt := 53) dX11_usableWith_28 (by decide) rfl hm (fun hm => ?_) (fun hm => ?_)
    · obtain ⟨w2, c3, hm⟩ := vv_let_of hm
      refine rr_iinc (q := 56) [some (.ref (vv_ad x 0)), some (.int u1), some (.int u2), some (.int s3), some (.int w2)] dX11_usableWith_53 rfl rfl c3.symm (Nat.le_of_ble_eq_true rfl) rfl rfl ?_
      refine rr_goto (tgt := 5) dX11_usableWith_56 (by decide) ?_
      obtain rfl := Option.some.inj hm
      exact hI s3 w2 rfl
    · refine rr_aload_n (q := 32) dX11_usableWith_31 rfl rfl ?_
      refine rr_iload (q := 34) dX11_usableWith_32 rfl rfl ?_
      obtain ⟨r4, k5, hm⟩ := vv_bind hm
      refine rr_callV (q := 37) (M' := mm_X11_kindOf) (As := [.int s4]) (st := []) (w := some (.int r4)) (cc_X11_kindOf  k5) rfl ylC_0 ynC_0 rfl vy_X11_kindOf zw_263 ⟨Nat.le_of_ble_eq_true rfl, Nat.le_of_ble_eq_true rfl⟩ (Nat.le_of_ble_eq_true rfl) dX11_usableWith_34 rfl ?_
      show vv_V x vv_TC mm_X11_usableWith post 37 [some (.ref (vv_ad x 0)), some (.int u1), some (.int u2), some (.int s3), some (.int s4)] [.int r4] h
      refine rr_iload_n (q := 38) dX11_usableWith_37 rfl rfl ?_
      refine rr_icmp_ne (q := 41) (tgt := 53) dX11_usableWith_38 (by decide) rfl hm (fun hm => ?_) (fun hm => ?_)
      · obtain ⟨w6, c7, hm⟩ := vv_let_of hm
        refine rr_iinc (q := 56) [some (.ref (vv_ad x 0)), some (.int u1), some (.int u2), some (.int s3), some (.int w6)] dX11_usableWith_53 rfl rfl c7.symm (Nat.le_of_ble_eq_true rfl) rfl rfl ?_
        refine rr_goto (tgt := 5) dX11_usableWith_56 (by decide) ?_
        obtain rfl := Option.some.inj hm
        exact hI s3 w6 rfl
      · refine rr_aload_n (q := 42) dX11_usableWith_41 rfl rfl ?_
        refine rr_iload (q := 44) dX11_usableWith_42 rfl rfl ?_
        obtain ⟨r8, k9, hm⟩ := vv_bind hm
        refine rr_callV (q := 47) (M' := mm_X11_isWornOut) (As := [.int s4]) (st := []) (w := some (.int r8)) (cc_X11_isWornOut  k9) rfl ylC_0 ynC_0 rfl vy_X11_isWornOut zw_721 ⟨Nat.le_of_ble_eq_true rfl, Nat.le_of_ble_eq_true rfl⟩ (Nat.le_of_ble_eq_true rfl) dX11_usableWith_44 rfl ?_
        show vv_V x vv_TC mm_X11_usableWith post 47 [some (.ref (vv_ad x 0)), some (.int u1), some (.int u2), some (.int s3), some (.int s4)] [.int r8] h
        refine rr_if_ne (q := 50) (tgt := 53) dX11_usableWith_47 (by decide) rfl hm (fun hm => ?_) (fun hm => ?_)
        · obtain ⟨w10, c11, hm⟩ := vv_let_of hm
          refine rr_iinc (q := 56) [some (.ref (vv_ad x 0)), some (.int u1), some (.int u2), some (.int s3), some (.int w10)] dX11_usableWith_53 rfl rfl c11.symm (Nat.le_of_ble_eq_true rfl) rfl rfl ?_
          refine rr_goto (tgt := 5) dX11_usableWith_56 (by decide) ?_
          obtain rfl := Option.some.inj hm
          exact hI s3 w10 rfl
        · obtain ⟨w12, c13, hm⟩ := vv_let_of hm
          refine rr_iinc (q := 53) [some (.ref (vv_ad x 0)), some (.int u1), some (.int u2), some (.int w12), some (.int s4)] dX11_usableWith_50 rfl rfl c13.symm (Nat.le_of_ble_eq_true rfl) rfl rfl ?_
          obtain ⟨w14, c15, hm⟩ := vv_let_of hm
          refine rr_iinc (q := 56) [some (.ref (vv_ad x 0)), some (.int u1), some (.int u2), some (.int w12), some (.int w14)] dX11_usableWith_53 rfl rfl c15.symm (Nat.le_of_ble_eq_true rfl) rfl rfl ?_
          refine rr_goto (tgt := 5) dX11_usableWith_56 (by decide) ?_
          obtain rfl := Option.some.inj hm
          exact hI w12 w14 rfl
set_option maxHeartbeats 200000 in
theorem vt_X11_usableWith {x : vv_E} {post : Option Value → vv_H → Prop} {h : vv_H} {v1 : Int32} {v2 : Int32} {o : Int32}  (hm : ff_X11_usableWith  h v1 v2 = some o) (hp : post (some (.int o)) h) : vv_V x vv_TC mm_X11_usableWith post 0 [some (.ref (vv_ad x 0)), some (.int v1), some (.int v2), none, none] [] h := by
  unfold ff_X11_usableWith at hm
  refine rr_iconst (q := 1) (v := 0) dX11_usableWith_0 rfl (by decide) ?_
  refine rr_istore_n (q := 2) [some (.ref (vv_ad x 0)), some (.int v1), some (.int v2), some (.int (0 : Int32)), none] dX11_usableWith_1 rfl rfl (Nat.le_of_ble_eq_true rfl) rfl rfl ?_
  refine rr_iconst (q := 3) (v := 0) dX11_usableWith_2 rfl (by decide) ?_
  refine rr_istore (q := 5) [some (.ref (vv_ad x 0)), some (.int v1), some (.int v2), some (.int (0 : Int32)), some (.int (0 : Int32))] dX11_usableWith_3 rfl (Nat.le_of_ble_eq_true rfl) rfl rfl ?_
  obtain ⟨r16, k18, hm⟩ := vv_bind hm
  refine vv_lp_link (P := fun (zs : Int32 × Int32) => vv_V x vv_TC mm_X11_usableWith post 5 [some (.ref (vv_ad x 0)), some (.int v1), some (.int v2), some (.int zs.1), some (.int zs.2)] [] h) (Q := (fun (e17 : (Int32)) => vv_V x vv_TC mm_X11_usableWith post 59 [none, none, none, some (.int e17), none] [] h)) (fun zs o hm hI hX => ?_) vv_F ((0 : Int32), (0 : Int32)) r16 k18 ?_
  · exact vt_X11_usableWith_B5   hm (fun z3 z4 e => hI (z3, z4) e) (fun z3 e => hX z3 e)
  · generalize r16 = e17 at hm ⊢
    try dsimp only [Sum.elim_inl, Sum.elim_inr] at hm
    try dsimp only [Sum.elim_inl, Sum.elim_inr]
    refine rr_iload_n (q := 60) dX11_usableWith_59 rfl rfl ?_
    obtain rfl := Option.some.inj hm
    exact rr_iret dX11_usableWith_60 rfl hp
theorem cc_X11_usableWith {x : vv_E} {h : vv_H} {v1 : Int32} {v2 : Int32} {o : Int32}  (hm : ff_X11_usableWith h v1 v2 = some o) : vv_C x vv_TC yX11_usableWith mm_X11_usableWith [.ref (vv_ad x 0), .int v1, .int v2] h (fun v g => v = some (.int o) ∧ g = h) := vv_entry (by decide +kernel) rfl (Nat.le_of_ble_eq_true rfl) rfl (vt_X11_usableWith  hm ⟨rfl, rfl⟩)
def ff_X12_told_B98 (u1 : Int32) (u2 : Int32) (h : vv_H) (s3 : Int32) (s4 : Int32) : Option ((Int32 × Int32) ⊕ ((Int32))) := (if (h.1 0 44) ≤ s4 then some (.inr s3) else vv_ck s4 36 ((if (h.1 33 s4.toNatClampNeg) = u1 then vv_let (s4 + 1) (fun w12 => some (.inl ((s3 + (1 : Int32)), w12))) else vv_let (s4 + 1) (fun w10 => some (.inl ((s3 + (0 : Int32)), w10))))))
def ff_X12_told (h : vv_H) (v1 : Int32) (v2 : Int32) : Option (Int32 × vv_H) := (ff_X12_isBody h v1).bind (fun r1 => (if r1 = 0 then some ((-1 : Int32), h) else (ff_X12_in v2.toInt64 (3 : Int64) (5 : Int64)).bind (fun r3 => (if r3 = 0 then (ff_X12_in v2.toInt64 (10 : Int64) (13 : Int64)).bind (fun r5 => (if r5 = 0 then (ff_X12_in v2.toInt64 (20 : Int64) (23 : Int64)).bind (fun r7 => (if r7 = 0 then (vv_lp (fun (zs : Int32 × Int32) => ff_X12_told_B98  v1 v2 h zs.1 zs.2) vv_F ((0 : Int32), (0 : Int32))).bind (fun (e15 : (Int32)) => (if v2 = 0 then vv_ck v1 12 (some ((h.1 1 v1.toNatClampNeg), h)) else (if v2 = (1 : Int32) then vv_ck v1 12 (some ((h.1 2 v1.toNatClampNeg), h)) else (if v2 = (2 : Int32) then vv_ck v1 12 (some ((h.1 3 v1.toNatClampNeg), h)) else (if v2 = (6 : Int32) then some (e15, h) else (if v2 = (7 : Int32) then vv_ck v1 12 (some ((h.1 4 v1.toNatClampNeg), h)) else some ((-1 : Int32), h))))))) else (ff_X12_dueOf h v1 (v2 - (20 : Int32)) (h.1 0 0)).bind (fun r21 => some (r21.1, r21.2)))) else (ff_X12_hasOf h v1 (v2 - (10 : Int32))).bind (fun r23 => some (r23, h)))) else (ff_X12_knownOf h v1 (v2 - (3 : Int32)) (h.1 0 0) (h.1 0 0)).bind (fun r25 => some (r25, h))))))
set_option maxHeartbeats 200000 in
theorem vt_X12_told_B98 {x : vv_E} {post : Option Value → vv_H → Prop} {u1 : Int32} {u2 : Int32} {h : vv_H} {s3 : Int32} {s4 : Int32} {o : (Int32 × Int32) ⊕ ((Int32))}  (hm : ff_X12_told_B98  u1 u2 h s3 s4 = some o) (hI : ∀ (z3 : Int32) (z4 : Int32) , o = .inl (z3, z4) → vv_V x vv_TR mm_X12_told post 98 [some (.ref (vv_ad x 0)), some (.int u1), some (.int u2), some (.int z3), some (.int z4)] [] h) (hX0 : ∀ (z3 : Int32), o = .inr z3 → vv_V x vv_TR mm_X12_told post 132 [some (.ref (vv_ad x 0)), some (.int u1), some (.int u2), some (.int z3), none] [] h) : vv_V x vv_TR mm_X12_told post 98 [some (.ref (vv_ad x 0)), some (.int u1), some (.int u2), some (.int s3), some (.int s4)] [] h := by
  unfold ff_X12_told_B98 at hm
  refine rr_iload (q := 100) dX12_told_98 rfl rfl ?_
  refine rr_aload_n (q := 101) dX12_told_100 rfl rfl ?_
  refine gf_X12_232 (q := 104) rfl dX12_told_101 rfl ?_
  refine rr_icmp_ge (q := 107) (tgt := 132) dX12_told_104 (by decide) rfl hm (fun hm => ?_) (fun hm => ?_)
  · obtain rfl := Option.some.inj hm
    refine rr_sub [true, true, true, true, false] rfl ?_
    exact hX0 s3 rfl
  · refine rr_iload_n (q := 108) dX12_told_107 rfl rfl ?_
    refine rr_aload_n (q := 109) dX12_told_108 rfl rfl ?_
    refine gf_X12_106 (q := 112) rfl dX12_told_109 rfl ?_
    refine rr_iload (q := 114) dX12_told_112 rfl rfl ?_
    obtain ⟨c9, hm⟩ := vv_ck_of hm
    refine rr_iald (q := 115) ylR_33 ynR_33 c9 dX12_told_114 rfl ?_
    refine rr_iload_n (q := 116) dX12_told_115 rfl rfl ?_
    refine rr_icmp_ne (q := 119) (tgt := 123) dX12_told_116 (by decide) rfl hm (fun hm => ?_) (fun hm => ?_)
    · refine rr_iconst (q := 124) (v := 0) dX12_told_123 rfl (by decide) ?_
      refine rr_iadd (q := 125) dX12_told_124 rfl ?_
      refine rr_istore_n (q := 126) [some (.ref (vv_ad x 0)), some (.int u1), some (.int u2), some (.int (s3 + (0 : Int32))), some (.int s4)] dX12_told_125 rfl rfl (Nat.le_of_ble_eq_true rfl) rfl rfl ?_
      obtain ⟨w10, c11, hm⟩ := vv_let_of hm
      refine rr_iinc (q := 129) [some (.ref (vv_ad x 0)), some (.int u1), some (.int u2), some (.int (s3 + (0 : Int32))), some (.int w10)] dX12_told_126 rfl rfl c11.symm (Nat.le_of_ble_eq_true rfl) rfl rfl ?_
      refine rr_goto (tgt := 98) dX12_told_129 (by decide) ?_
      obtain rfl := Option.some.inj hm
      exact hI (s3 + (0 : Int32)) w10 rfl
    · refine rr_iconst (q := 120) (v := 1) dX12_told_119 rfl (by decide) ?_
      refine rr_goto (tgt := 124) dX12_told_120 (by decide) ?_
      refine rr_iadd (q := 125) dX12_told_124 rfl ?_
      refine rr_istore_n (q := 126) [some (.ref (vv_ad x 0)), some (.int u1), some (.int u2), some (.int (s3 + (1 : Int32))), some (.int s4)] dX12_told_125 rfl rfl (Nat.le_of_ble_eq_true rfl) rfl rfl ?_
      obtain ⟨w12, c13, hm⟩ := vv_let_of hm
      refine rr_iinc (q := 129) [some (.ref (vv_ad x 0)), some (.int u1), some (.int u2), some (.int (s3 + (1 : Int32))), some (.int w12)] dX12_told_126 rfl rfl c13.symm (Nat.le_of_ble_eq_true rfl) rfl rfl ?_
      refine rr_goto (tgt := 98) dX12_told_129 (by decide) ?_
      obtain rfl := Option.some.inj hm
      exact hI (s3 + (1 : Int32)) w12 rfl
set_option maxHeartbeats 200000 in
theorem vt_X12_told {x : vv_E} {post : Option Value → vv_H → Prop} {h : vv_H} {v1 : Int32} {v2 : Int32} {o : Int32 × vv_H}  (hm : ff_X12_told  h v1 v2 = some o) (hp : post (some (.int o.1)) o.2) : vv_V x vv_TR mm_X12_told post 0 [some (.ref (vv_ad x 0)), some (.int v1), some (.int v2), none, none] [] h := by
  unfold ff_X12_told at hm
  refine rr_aload_n (q := 1) dX12_told_0 rfl rfl ?_
  refine rr_iload_n (q := 2) dX12_told_1 rfl rfl ?_
  obtain ⟨r1, k2, hm⟩ := vv_bind hm
  refine rr_callV (q := 5) (M' := mm_X12_isBody) (As := [.int v1]) (st := []) (w := some (.int r1)) (cc_X12_isBody  k2) rfl ylR_0 ynR_0 rfl vy_X12_isBody zw_542 ⟨Nat.le_of_ble_eq_true rfl, Nat.le_of_ble_eq_true rfl⟩ (Nat.le_of_ble_eq_true rfl) dX12_told_2 rfl ?_
  show vv_V x vv_TR mm_X12_told post 5 [some (.ref (vv_ad x 0)), some (.int v1), some (.int v2), none, none] [.int r1] h
  refine rr_if_ne (q := 8) (tgt := 10) dX12_told_5 (by decide) rfl hm (fun hm => ?_) (fun hm => ?_)
  · refine rr_iload_n (q := 11) dX12_told_10 rfl rfl ?_
    refine rr_i2l (q := 12) dX12_told_11 rfl ?_
    refine rr_ldc2 (q := 15) dX12_told_12 rfl zw_270 ?_
    refine rr_ldc2 (q := 18) dX12_told_15 rfl zw_269 ?_
    obtain ⟨r3, k4, hm⟩ := vv_bind hm
    refine rr_callS (q := 21) (M' := mm_X12_in) (As := [.long v2.toInt64, .long (3 : Int64), .long (5 : Int64)]) (st := []) (w := some (.int r3))  (cc_X12_in  k4) rfl vy_X12_in zw_267 ⟨Nat.le_of_ble_eq_true rfl, Nat.le_of_ble_eq_true rfl⟩ (Nat.le_of_ble_eq_true rfl) dX12_told_18 rfl ?_
    show vv_V x vv_TR mm_X12_told post 21 [some (.ref (vv_ad x 0)), some (.int v1), some (.int v2), none, none] [.int r3] h
    refine rr_if_eq (q := 24) (tgt := 41) dX12_told_21 (by decide) rfl hm (fun hm => ?_) (fun hm => ?_)
    · refine rr_iload_n (q := 42) dX12_told_41 rfl rfl ?_
      refine rr_i2l (q := 43) dX12_told_42 rfl ?_
      refine rr_ldc2 (q := 46) dX12_told_43 rfl zw_553 ?_
      refine rr_ldc2 (q := 49) dX12_told_46 rfl zw_722 ?_
      obtain ⟨r5, k6, hm⟩ := vv_bind hm
      refine rr_callS (q := 52) (M' := mm_X12_in) (As := [.long v2.toInt64, .long (10 : Int64), .long (13 : Int64)]) (st := []) (w := some (.int r5))  (cc_X12_in  k6) rfl vy_X12_in zw_267 ⟨Nat.le_of_ble_eq_true rfl, Nat.le_of_ble_eq_true rfl⟩ (Nat.le_of_ble_eq_true rfl) dX12_told_49 rfl ?_
      show vv_V x vv_TR mm_X12_told post 52 [some (.ref (vv_ad x 0)), some (.int v1), some (.int v2), none, none] [.int r5] h
      refine rr_if_eq (q := 55) (tgt := 65) dX12_told_52 (by decide) rfl hm (fun hm => ?_) (fun hm => ?_)
      · refine rr_iload_n (q := 66) dX12_told_65 rfl rfl ?_
        refine rr_i2l (q := 67) dX12_told_66 rfl ?_
        refine rr_ldc2 (q := 70) dX12_told_67 rfl zw_723 ?_
        refine rr_ldc2 (q := 73) dX12_told_70 rfl zw_724 ?_
        obtain ⟨r7, k8, hm⟩ := vv_bind hm
        refine rr_callS (q := 76) (M' := mm_X12_in) (As := [.long v2.toInt64, .long (20 : Int64), .long (23 : Int64)]) (st := []) (w := some (.int r7))  (cc_X12_in  k8) rfl vy_X12_in zw_267 ⟨Nat.le_of_ble_eq_true rfl, Nat.le_of_ble_eq_true rfl⟩ (Nat.le_of_ble_eq_true rfl) dX12_told_73 rfl ?_
        show vv_V x vv_TR mm_X12_told post 76 [some (.ref (vv_ad x 0)), some (.int v1), some (.int v2), none, none] [.int r7] h
        refine rr_if_eq (q := 79) (tgt := 93) dX12_told_76 (by decide) rfl hm (fun hm => ?_) (fun hm => ?_)
        · refine rr_iconst (q := 94) (v := 0) dX12_told_93 rfl (by decide) ?_
          refine rr_istore_n (q := 95) [some (.ref (vv_ad x 0)), some (.int v1), some (.int v2), some (.int (0 : Int32)), none] dX12_told_94 rfl rfl (Nat.le_of_ble_eq_true rfl) rfl rfl ?_
          refine rr_iconst (q := 96) (v := 0) dX12_told_95 rfl (by decide) ?_
          refine rr_istore (q := 98) [some (.ref (vv_ad x 0)), some (.int v1), some (.int v2), some (.int (0 : Int32)), some (.int (0 : Int32))] dX12_told_96 rfl (Nat.le_of_ble_eq_true rfl) rfl rfl ?_
          obtain ⟨r14, k20, hm⟩ := vv_bind hm
          refine vv_lp_link (P := fun (zs : Int32 × Int32) => vv_V x vv_TR mm_X12_told post 98 [some (.ref (vv_ad x 0)), some (.int v1), some (.int v2), some (.int zs.1), some (.int zs.2)] [] h) (Q := (fun (e15 : (Int32)) => vv_V x vv_TR mm_X12_told post 132 [some (.ref (vv_ad x 0)), some (.int v1), some (.int v2), some (.int e15), none] [] h)) (fun zs o hm hI hX => ?_) vv_F ((0 : Int32), (0 : Int32)) r14 k20 ?_
          · exact vt_X12_told_B98   hm (fun z3 z4 e => hI (z3, z4) e) (fun z3 e => hX z3 e)
          · generalize r14 = e15 at hm ⊢
            try dsimp only [Sum.elim_inl, Sum.elim_inr] at hm
            try dsimp only [Sum.elim_inl, Sum.elim_inr]
            refine rr_iload_n (q := 133) dX12_told_132 rfl rfl ?_
            refine rr_if_ne (q := 136) (tgt := 145) dX12_told_133 (by decide) rfl hm (fun hm => ?_) (fun hm => ?_)
            · refine rr_iload_n (q := 146) dX12_told_145 rfl rfl ?_
              refine rr_iconst (q := 147) (v := 1) dX12_told_146 rfl (by decide) ?_
              refine rr_icmp_ne (q := 150) (tgt := 159) dX12_told_147 (by decide) rfl hm (fun hm => ?_) (fun hm => ?_)
              · refine rr_iload_n (q := 160) dX12_told_159 rfl rfl ?_
                refine rr_iconst (q := 161) (v := 2) dX12_told_160 rfl (by decide) ?_
                refine rr_icmp_ne (q := 164) (tgt := 173) dX12_told_161 (by decide) rfl hm (fun hm => ?_) (fun hm => ?_)
                · refine rr_iload_n (q := 174) dX12_told_173 rfl rfl ?_
                  refine rr_bipush (q := 176) (v := 6) dX12_told_174 rfl (by decide) ?_
                  refine rr_icmp_ne (q := 179) (tgt := 183) dX12_told_176 (by decide) rfl hm (fun hm => ?_) (fun hm => ?_)
                  · refine rr_iload_n (q := 184) dX12_told_183 rfl rfl ?_
                    refine rr_bipush (q := 186) (v := 7) dX12_told_184 rfl (by decide) ?_
                    refine rr_icmp_ne (q := 189) (tgt := 198) dX12_told_186 (by decide) rfl hm (fun hm => ?_) (fun hm => ?_)
                    · refine rr_iconst (q := 199) (v := -1) dX12_told_198 rfl (by decide) ?_
                      obtain rfl := Option.some.inj hm
                      exact rr_iret dX12_told_199 rfl hp
                    · refine rr_aload_n (q := 190) dX12_told_189 rfl rfl ?_
                      refine gf_X12_19 (q := 193) rfl dX12_told_190 rfl ?_
                      refine rr_iload_n (q := 194) dX12_told_193 rfl rfl ?_
                      obtain ⟨c16, hm⟩ := vv_ck_of hm
                      refine rr_iald (q := 195) ylR_4 ynR_4 c16 dX12_told_194 rfl ?_
                      refine rr_goto (tgt := 199) dX12_told_195 (by decide) ?_
                      obtain rfl := Option.some.inj hm
                      exact rr_iret dX12_told_199 rfl hp
                  · refine rr_iload_n (q := 180) dX12_told_179 rfl rfl ?_
                    refine rr_goto (tgt := 199) dX12_told_180 (by decide) ?_
                    obtain rfl := Option.some.inj hm
                    exact rr_iret dX12_told_199 rfl hp
                · refine rr_aload_n (q := 165) dX12_told_164 rfl rfl ?_
                  refine gf_X12_16 (q := 168) rfl dX12_told_165 rfl ?_
                  refine rr_iload_n (q := 169) dX12_told_168 rfl rfl ?_
                  obtain ⟨c17, hm⟩ := vv_ck_of hm
                  refine rr_iald (q := 170) ylR_3 ynR_3 c17 dX12_told_169 rfl ?_
                  refine rr_goto (tgt := 199) dX12_told_170 (by decide) ?_
                  obtain rfl := Option.some.inj hm
                  exact rr_iret dX12_told_199 rfl hp
              · refine rr_aload_n (q := 151) dX12_told_150 rfl rfl ?_
                refine gf_X12_13 (q := 154) rfl dX12_told_151 rfl ?_
                refine rr_iload_n (q := 155) dX12_told_154 rfl rfl ?_
                obtain ⟨c18, hm⟩ := vv_ck_of hm
                refine rr_iald (q := 156) ylR_2 ynR_2 c18 dX12_told_155 rfl ?_
                refine rr_goto (tgt := 199) dX12_told_156 (by decide) ?_
                obtain rfl := Option.some.inj hm
                exact rr_iret dX12_told_199 rfl hp
            · refine rr_aload_n (q := 137) dX12_told_136 rfl rfl ?_
              refine gf_X12_7 (q := 140) rfl dX12_told_137 rfl ?_
              refine rr_iload_n (q := 141) dX12_told_140 rfl rfl ?_
              obtain ⟨c19, hm⟩ := vv_ck_of hm
              refine rr_iald (q := 142) ylR_1 ynR_1 c19 dX12_told_141 rfl ?_
              refine rr_goto (tgt := 199) dX12_told_142 (by decide) ?_
              obtain rfl := Option.some.inj hm
              exact rr_iret dX12_told_199 rfl hp
        · refine rr_aload_n (q := 80) dX12_told_79 rfl rfl ?_
          refine rr_iload_n (q := 81) dX12_told_80 rfl rfl ?_
          refine rr_iload_n (q := 82) dX12_told_81 rfl rfl ?_
          refine rr_bipush (q := 84) (v := 20) dX12_told_82 rfl (by decide) ?_
          refine rr_isub (q := 85) dX12_told_84 rfl ?_
          refine rr_aload_n (q := 86) dX12_told_85 rfl rfl ?_
          refine gf_X12_187 (q := 89) rfl dX12_told_86 rfl ?_
          obtain ⟨r21, k22, hm⟩ := vv_bind hm
          refine rr_callV (q := 92) (M' := mm_X12_dueOf) (As := [.int v1, .int (v2 - (20 : Int32)), .int (h.1 0 0)]) (st := []) (w := some (.int r21.1)) (cc_X12_dueOf  k22) rfl ylR_0 ynR_0 rfl vy_X12_dueOf zw_577 ⟨Nat.le_of_ble_eq_true rfl, Nat.le_of_ble_eq_true rfl⟩ (Nat.le_of_ble_eq_true rfl) dX12_told_89 rfl ?_
          show vv_V x vv_TR mm_X12_told post 92 [some (.ref (vv_ad x 0)), some (.int v1), some (.int v2), none, none] [.int r21.1] r21.2
          obtain rfl := Option.some.inj hm
          exact rr_iret dX12_told_92 rfl hp
      · refine rr_aload_n (q := 56) dX12_told_55 rfl rfl ?_
        refine rr_iload_n (q := 57) dX12_told_56 rfl rfl ?_
        refine rr_iload_n (q := 58) dX12_told_57 rfl rfl ?_
        refine rr_bipush (q := 60) (v := 10) dX12_told_58 rfl (by decide) ?_
        refine rr_isub (q := 61) dX12_told_60 rfl ?_
        obtain ⟨r23, k24, hm⟩ := vv_bind hm
        refine rr_callV (q := 64) (M' := mm_X12_hasOf) (As := [.int v1, .int (v2 - (10 : Int32))]) (st := []) (w := some (.int r23)) (cc_X12_hasOf  k24) rfl ylR_0 ynR_0 rfl vy_X12_hasOf zw_729 ⟨Nat.le_of_ble_eq_true rfl, Nat.le_of_ble_eq_true rfl⟩ (Nat.le_of_ble_eq_true rfl) dX12_told_61 rfl ?_
        show vv_V x vv_TR mm_X12_told post 64 [some (.ref (vv_ad x 0)), some (.int v1), some (.int v2), none, none] [.int r23] h
        obtain rfl := Option.some.inj hm
        exact rr_iret dX12_told_64 rfl hp
    · refine rr_aload_n (q := 25) dX12_told_24 rfl rfl ?_
      refine rr_iload_n (q := 26) dX12_told_25 rfl rfl ?_
      refine rr_iload_n (q := 27) dX12_told_26 rfl rfl ?_
      refine rr_iconst (q := 28) (v := 3) dX12_told_27 rfl (by decide) ?_
      refine rr_isub (q := 29) dX12_told_28 rfl ?_
      refine rr_aload_n (q := 30) dX12_told_29 rfl rfl ?_
      refine gf_X12_187 (q := 33) rfl dX12_told_30 rfl ?_
      refine rr_aload_n (q := 34) dX12_told_33 rfl rfl ?_
      refine gf_X12_187 (q := 37) rfl dX12_told_34 rfl ?_
      obtain ⟨r25, k26, hm⟩ := vv_bind hm
      refine rr_callV (q := 40) (M' := mm_X12_knownOf) (As := [.int v1, .int (v2 - (3 : Int32)), .int (h.1 0 0), .int (h.1 0 0)]) (st := []) (w := some (.int r25)) (cc_X12_knownOf  k26) rfl ylR_0 ynR_0 rfl vy_X12_knownOf zw_278 ⟨Nat.le_of_ble_eq_true rfl, Nat.le_of_ble_eq_true rfl⟩ (Nat.le_of_ble_eq_true rfl) dX12_told_37 rfl ?_
      show vv_V x vv_TR mm_X12_told post 40 [some (.ref (vv_ad x 0)), some (.int v1), some (.int v2), none, none] [.int r25] h
      obtain rfl := Option.some.inj hm
      exact rr_iret dX12_told_40 rfl hp
  · refine rr_iconst (q := 9) (v := -1) dX12_told_8 rfl (by decide) ?_
    obtain rfl := Option.some.inj hm
    exact rr_iret dX12_told_9 rfl hp
theorem cc_X12_told {x : vv_E} {h : vv_H} {v1 : Int32} {v2 : Int32} {o : Int32 × vv_H}  (hm : ff_X12_told h v1 v2 = some o) : vv_C x vv_TR yX12_told mm_X12_told [.ref (vv_ad x 0), .int v1, .int v2] h (fun v g => v = some (.int o.1) ∧ g = o.2) := vv_entry (by decide +kernel) rfl (Nat.le_of_ble_eq_true rfl) rfl (vt_X12_told  hm ⟨rfl, rfl⟩)
def ff_X12_test_J135  (u1 : Int32) (h : vv_H) : Option (vv_H) := vv_ck (u1 + (1 : Int32)) 108 (vv_let (vv_iu h 27 (u1 + (1 : Int32)).toNatClampNeg (h.1 0 24)) (fun g10 => (ff_X12_next g10).bind (fun r12 => (ff_X12_number r12 (0 : Int32) (9 : Int32)).bind (fun r14 => vv_ck (u1 + (2 : Int32)) 108 (vv_let (vv_iu r14.2 27 (u1 + (2 : Int32)).toNatClampNeg r14.1) (fun g17 => vv_ck (g17.1 0 34) 12 (vv_ck (g17.1 0 34) 12 (vv_let (vv_iu g17 26 (g17.1 0 34).toNatClampNeg ((g17.1 26 (g17.1 0 34).toNatClampNeg) + (1 : Int32))) (fun g21 => (ff_X12_next g21).bind (fun r23 => some r23))))))))))
def ff_X12_test_J130  (u1 : Int32) (h : vv_H) : Option (vv_H) := (ff_X12_fails h (2 : Int32)).bind (fun r25 => ff_X12_test_J135  u1 r25)
def ff_X12_test_J62  (h : vv_H) : Option (vv_H) := (if (h.1 0 19) ≤ 0 then vv_ck (h.1 0 34) 12 (vv_let (((9 : Int32) * (h.1 0 34)) + ((3 : Int32) * (h.1 26 (h.1 0 34).toNatClampNeg))) (fun w2 => vv_ck w2 108 (vv_let (vv_iu h 27 w2.toNatClampNeg ((h.1 0 24) - (3 : Int32))) (fun g5 => (ff_X12_next g5).bind (fun r7 => (if (r7.1 0 19) = 0 then (if (r7.1 0 23) = (3 : Int32) then (if (r7.1 0 24) = (59 : Int32) then ff_X12_test_J130  w2 r7 else ff_X12_test_J135  w2 r7) else ff_X12_test_J130  w2 r7) else ff_X12_test_J135  w2 r7)))))) else some h)
def ff_X12_test_J37  (h : vv_H) : Option (vv_H) := (if (h.1 0 19) = 0 then vv_ck (h.1 0 34) 12 ((if (h.1 26 (h.1 0 34).toNatClampNeg) = (3 : Int32) then (ff_X12_fails h (4 : Int32)).bind (fun r28 => ff_X12_test_J62  r28) else ff_X12_test_J62  h)) else ff_X12_test_J62  h)
def ff_X12_test_J32  (h : vv_H) : Option (vv_H) := (ff_X12_fails h (2 : Int32)).bind (fun r30 => ff_X12_test_J37  r30)
def ff_X12_test (h : vv_H) : Option (vv_H) := (if (h.1 0 19) = 0 then (if (h.1 0 23) = (1 : Int32) then (ff_X12_in ((h.1 0 24).toInt64) (3 : Int64) (5 : Int64)).bind (fun r32 => (if r32 = 0 then ff_X12_test_J32  h else ff_X12_test_J37  h)) else ff_X12_test_J32  h) else ff_X12_test_J37  h)
set_option maxHeartbeats 200000 in
theorem vt_X12_test_J135 {x : vv_E} {post : Option Value → vv_H → Prop}   {u1 : Int32} {h : vv_H} {o : vv_H}  (hm : ff_X12_test_J135  u1 h = some o) (hp : post none o) : vv_V x vv_TR mm_X12_test post 135 [some (.ref (vv_ad x 0)), some (.int u1)] [] h := by
  unfold ff_X12_test_J135 at hm
  refine rr_aload_n (q := 136) dX12_test_135 rfl rfl ?_
  refine gf_X12_88 (q := 139) rfl dX12_test_136 rfl ?_
  refine rr_iload_n (q := 140) dX12_test_139 rfl rfl ?_
  refine rr_iconst (q := 141) (v := 1) dX12_test_140 rfl (by decide) ?_
  refine rr_iadd (q := 142) dX12_test_141 rfl ?_
  refine rr_aload_n (q := 143) dX12_test_142 rfl rfl ?_
  refine gf_X12_269 (q := 146) rfl dX12_test_143 rfl ?_
  obtain ⟨c9, hm⟩ := vv_ck_of hm
  obtain ⟨g10, c11, hm⟩ := vv_let_of hm
  refine rr_iast (q := 147) ylR_27 ynR_27 c9 dX12_test_146 rfl ?_
  rw [← c11]
  refine rr_aload_n (q := 148) dX12_test_147 rfl rfl ?_
  obtain ⟨r12, k13, hm⟩ := vv_bind hm
  refine rr_callV (q := 151) (M' := mm_X12_next) (As := []) (st := []) (w := none) (cc_X12_next  k13) rfl ylR_0 ynR_0 rfl vy_X12_next zw_737 ⟨Nat.le_of_ble_eq_true rfl, Nat.le_of_ble_eq_true rfl⟩ (Nat.le_of_ble_eq_true rfl) dX12_test_148 rfl ?_
  show vv_V x vv_TR mm_X12_test post 151 [some (.ref (vv_ad x 0)), some (.int u1)] [] r12
  refine rr_aload_n (q := 152) dX12_test_151 rfl rfl ?_
  refine gf_X12_88 (q := 155) rfl dX12_test_152 rfl ?_
  refine rr_iload_n (q := 156) dX12_test_155 rfl rfl ?_
  refine rr_iconst (q := 157) (v := 2) dX12_test_156 rfl (by decide) ?_
  refine rr_iadd (q := 158) dX12_test_157 rfl ?_
  refine rr_aload_n (q := 159) dX12_test_158 rfl rfl ?_
  refine rr_iconst (q := 160) (v := 0) dX12_test_159 rfl (by decide) ?_
  refine rr_bipush (q := 162) (v := 9) dX12_test_160 rfl (by decide) ?_
  obtain ⟨r14, k15, hm⟩ := vv_bind hm
  refine rr_callV (q := 165) (M' := mm_X12_number) (As := [.int (0 : Int32), .int (9 : Int32)]) (st := [.int (u1 + (2 : Int32)), .ref (vv_ad x 27)]) (w := some (.int r14.1)) (cc_X12_number  k15) rfl ylR_0 ynR_0 rfl vy_X12_number zw_742 ⟨Nat.le_of_ble_eq_true rfl, Nat.le_of_ble_eq_true rfl⟩ (Nat.le_of_ble_eq_true rfl) dX12_test_162 rfl ?_
  show vv_V x vv_TR mm_X12_test post 165 [some (.ref (vv_ad x 0)), some (.int u1)] [.int r14.1, .int (u1 + (2 : Int32)), .ref (vv_ad x 27)] r14.2
  obtain ⟨c16, hm⟩ := vv_ck_of hm
  obtain ⟨g17, c18, hm⟩ := vv_let_of hm
  refine rr_iast (q := 166) ylR_27 ynR_27 c16 dX12_test_165 rfl ?_
  rw [← c18]
  refine rr_aload_n (q := 167) dX12_test_166 rfl rfl ?_
  refine gf_X12_85 (q := 170) rfl dX12_test_167 rfl ?_
  refine rr_aload_n (q := 171) dX12_test_170 rfl rfl ?_
  refine gf_X12_290 (q := 174) rfl dX12_test_171 rfl ?_
  refine rr_dup2 (q := 175) dX12_test_174 rfl rfl rfl ?_
  obtain ⟨c19, hm⟩ := vv_ck_of hm
  refine rr_iald (q := 176) ylR_26 ynR_26 c19 dX12_test_175 rfl ?_
  refine rr_iconst (q := 177) (v := 1) dX12_test_176 rfl (by decide) ?_
  refine rr_iadd (q := 178) dX12_test_177 rfl ?_
  obtain ⟨c20, hm⟩ := vv_ck_of hm
  obtain ⟨g21, c22, hm⟩ := vv_let_of hm
  refine rr_iast (q := 179) ylR_26 ynR_26 c20 dX12_test_178 rfl ?_
  rw [← c22]
  refine rr_aload_n (q := 180) dX12_test_179 rfl rfl ?_
  obtain ⟨r23, k24, hm⟩ := vv_bind hm
  refine rr_callV (q := 183) (M' := mm_X12_next) (As := []) (st := []) (w := none) (cc_X12_next  k24) rfl ylR_0 ynR_0 rfl vy_X12_next zw_737 ⟨Nat.le_of_ble_eq_true rfl, Nat.le_of_ble_eq_true rfl⟩ (Nat.le_of_ble_eq_true rfl) dX12_test_180 rfl ?_
  show vv_V x vv_TR mm_X12_test post 183 [some (.ref (vv_ad x 0)), some (.int u1)] [] r23
  obtain rfl := Option.some.inj hm
  exact rr_vret dX12_test_183 rfl hp
set_option maxHeartbeats 200000 in
theorem vt_X12_test_J130 {x : vv_E} {post : Option Value → vv_H → Prop}   {u1 : Int32} {h : vv_H} {o : vv_H}  (hm : ff_X12_test_J130  u1 h = some o) (hp : post none o) : vv_V x vv_TR mm_X12_test post 130 [some (.ref (vv_ad x 0)), some (.int u1)] [] h := by
  unfold ff_X12_test_J130 at hm
  refine rr_aload_n (q := 131) dX12_test_130 rfl rfl ?_
  refine rr_iconst (q := 132) (v := 2) dX12_test_131 rfl (by decide) ?_
  obtain ⟨r25, k26, hm⟩ := vv_bind hm
  refine rr_callV (q := 135) (M' := mm_X12_fails) (As := [.int (2 : Int32)]) (st := []) (w := none) (cc_X12_fails  k26) rfl ylR_0 ynR_0 rfl vy_X12_fails zw_290 ⟨Nat.le_of_ble_eq_true rfl, Nat.le_of_ble_eq_true rfl⟩ (Nat.le_of_ble_eq_true rfl) dX12_test_132 rfl ?_
  show vv_V x vv_TR mm_X12_test post 135 [some (.ref (vv_ad x 0)), some (.int u1)] [] r25
  exact vt_X12_test_J135  hm hp
set_option maxHeartbeats 200000 in
theorem vt_X12_test_J62 {x : vv_E} {post : Option Value → vv_H → Prop}   {h : vv_H} {o : vv_H}  (hm : ff_X12_test_J62  h = some o) (hp : post none o) : vv_V x vv_TR mm_X12_test post 62 [some (.ref (vv_ad x 0)), none] [] h := by
  unfold ff_X12_test_J62 at hm
  refine rr_aload_n (q := 63) dX12_test_62 rfl rfl ?_
  refine gf_X12_254 (q := 66) rfl dX12_test_63 rfl ?_
  refine rr_if_le (q := 69) (tgt := 70) dX12_test_66 (by decide) rfl hm (fun hm => ?_) (fun hm => ?_)
  · refine rr_bipush (q := 72) (v := 9) dX12_test_70 rfl (by decide) ?_
    refine rr_aload_n (q := 73) dX12_test_72 rfl rfl ?_
    refine gf_X12_290 (q := 76) rfl dX12_test_73 rfl ?_
    refine rr_imul (q := 77) dX12_test_76 rfl ?_
    refine rr_iconst (q := 78) (v := 3) dX12_test_77 rfl (by decide) ?_
    refine rr_aload_n (q := 79) dX12_test_78 rfl rfl ?_
    refine gf_X12_85 (q := 82) rfl dX12_test_79 rfl ?_
    refine rr_aload_n (q := 83) dX12_test_82 rfl rfl ?_
    refine gf_X12_290 (q := 86) rfl dX12_test_83 rfl ?_
    obtain ⟨c1, hm⟩ := vv_ck_of hm
    refine rr_iald (q := 87) ylR_26 ynR_26 c1 dX12_test_86 rfl ?_
    refine rr_imul (q := 88) dX12_test_87 rfl ?_
    refine rr_iadd (q := 89) dX12_test_88 rfl ?_
    obtain ⟨w2, c3, hm⟩ := vv_let_of hm
    rw [← c3]
    refine rr_istore_n (q := 90) [some (.ref (vv_ad x 0)), some (.int w2)] dX12_test_89 rfl rfl (Nat.le_of_ble_eq_true rfl) rfl rfl ?_
    refine rr_aload_n (q := 91) dX12_test_90 rfl rfl ?_
    refine gf_X12_88 (q := 94) rfl dX12_test_91 rfl ?_
    refine rr_iload_n (q := 95) dX12_test_94 rfl rfl ?_
    refine rr_aload_n (q := 96) dX12_test_95 rfl rfl ?_
    refine gf_X12_269 (q := 99) rfl dX12_test_96 rfl ?_
    refine rr_iconst (q := 100) (v := 3) dX12_test_99 rfl (by decide) ?_
    refine rr_isub (q := 101) dX12_test_100 rfl ?_
    obtain ⟨c4, hm⟩ := vv_ck_of hm
    obtain ⟨g5, c6, hm⟩ := vv_let_of hm
    refine rr_iast (q := 102) ylR_27 ynR_27 c4 dX12_test_101 rfl ?_
    rw [← c6]
    refine rr_aload_n (q := 103) dX12_test_102 rfl rfl ?_
    obtain ⟨r7, k8, hm⟩ := vv_bind hm
    refine rr_callV (q := 106) (M' := mm_X12_next) (As := []) (st := []) (w := none) (cc_X12_next  k8) rfl ylR_0 ynR_0 rfl vy_X12_next zw_737 ⟨Nat.le_of_ble_eq_true rfl, Nat.le_of_ble_eq_true rfl⟩ (Nat.le_of_ble_eq_true rfl) dX12_test_103 rfl ?_
    show vv_V x vv_TR mm_X12_test post 106 [some (.ref (vv_ad x 0)), some (.int w2)] [] r7
    refine rr_aload_n (q := 107) dX12_test_106 rfl rfl ?_
    refine gf_X12_254 (q := 110) rfl dX12_test_107 rfl ?_
    refine rr_if_ne (q := 113) (tgt := 135) dX12_test_110 (by decide) rfl hm (fun hm => ?_) (fun hm => ?_)
    · exact vt_X12_test_J135  hm hp
    · refine rr_aload_n (q := 114) dX12_test_113 rfl rfl ?_
      refine gf_X12_272 (q := 117) rfl dX12_test_114 rfl ?_
      refine rr_iconst (q := 118) (v := 3) dX12_test_117 rfl (by decide) ?_
      refine rr_icmp_ne (q := 121) (tgt := 130) dX12_test_118 (by decide) rfl hm (fun hm => ?_) (fun hm => ?_)
      · exact vt_X12_test_J130  hm hp
      · refine rr_aload_n (q := 122) dX12_test_121 rfl rfl ?_
        refine gf_X12_269 (q := 125) rfl dX12_test_122 rfl ?_
        refine rr_bipush (q := 127) (v := 59) dX12_test_125 rfl (by decide) ?_
        refine rr_icmp_ne (q := 130) (tgt := 135) dX12_test_127 (by decide) rfl hm (fun hm => ?_) (fun hm => ?_)
        · exact vt_X12_test_J135  hm hp
        · exact vt_X12_test_J130  hm hp
  · obtain rfl := Option.some.inj hm
    exact rr_vret dX12_test_69 rfl hp
set_option maxHeartbeats 200000 in
theorem vt_X12_test_J37 {x : vv_E} {post : Option Value → vv_H → Prop}   {h : vv_H} {o : vv_H}  (hm : ff_X12_test_J37  h = some o) (hp : post none o) : vv_V x vv_TR mm_X12_test post 37 [some (.ref (vv_ad x 0)), none] [] h := by
  unfold ff_X12_test_J37 at hm
  refine rr_aload_n (q := 38) dX12_test_37 rfl rfl ?_
  refine gf_X12_254 (q := 41) rfl dX12_test_38 rfl ?_
  refine rr_if_ne (q := 44) (tgt := 62) dX12_test_41 (by decide) rfl hm (fun hm => ?_) (fun hm => ?_)
  · exact vt_X12_test_J62  hm hp
  · refine rr_aload_n (q := 45) dX12_test_44 rfl rfl ?_
    refine gf_X12_85 (q := 48) rfl dX12_test_45 rfl ?_
    refine rr_aload_n (q := 49) dX12_test_48 rfl rfl ?_
    refine gf_X12_290 (q := 52) rfl dX12_test_49 rfl ?_
    obtain ⟨c27, hm⟩ := vv_ck_of hm
    refine rr_iald (q := 53) ylR_26 ynR_26 c27 dX12_test_52 rfl ?_
    refine rr_iconst (q := 54) (v := 3) dX12_test_53 rfl (by decide) ?_
    refine rr_icmp_ne (q := 57) (tgt := 62) dX12_test_54 (by decide) rfl hm (fun hm => ?_) (fun hm => ?_)
    · exact vt_X12_test_J62  hm hp
    · refine rr_aload_n (q := 58) dX12_test_57 rfl rfl ?_
      refine rr_iconst (q := 59) (v := 4) dX12_test_58 rfl (by decide) ?_
      obtain ⟨r28, k29, hm⟩ := vv_bind hm
      refine rr_callV (q := 62) (M' := mm_X12_fails) (As := [.int (4 : Int32)]) (st := []) (w := none) (cc_X12_fails  k29) rfl ylR_0 ynR_0 rfl vy_X12_fails zw_290 ⟨Nat.le_of_ble_eq_true rfl, Nat.le_of_ble_eq_true rfl⟩ (Nat.le_of_ble_eq_true rfl) dX12_test_59 rfl ?_
      show vv_V x vv_TR mm_X12_test post 62 [some (.ref (vv_ad x 0)), none] [] r28
      exact vt_X12_test_J62  hm hp
set_option maxHeartbeats 200000 in
theorem vt_X12_test_J32 {x : vv_E} {post : Option Value → vv_H → Prop}   {h : vv_H} {o : vv_H}  (hm : ff_X12_test_J32  h = some o) (hp : post none o) : vv_V x vv_TR mm_X12_test post 32 [some (.ref (vv_ad x 0)), none] [] h := by
  unfold ff_X12_test_J32 at hm
  refine rr_aload_n (q := 33) dX12_test_32 rfl rfl ?_
  refine rr_iconst (q := 34) (v := 2) dX12_test_33 rfl (by decide) ?_
  obtain ⟨r30, k31, hm⟩ := vv_bind hm
  refine rr_callV (q := 37) (M' := mm_X12_fails) (As := [.int (2 : Int32)]) (st := []) (w := none) (cc_X12_fails  k31) rfl ylR_0 ynR_0 rfl vy_X12_fails zw_290 ⟨Nat.le_of_ble_eq_true rfl, Nat.le_of_ble_eq_true rfl⟩ (Nat.le_of_ble_eq_true rfl) dX12_test_34 rfl ?_
  show vv_V x vv_TR mm_X12_test post 37 [some (.ref (vv_ad x 0)), none] [] r30
  exact vt_X12_test_J37  hm hp
set_option maxHeartbeats 200000 in
theorem vt_X12_test {x : vv_E} {post : Option Value → vv_H → Prop} {h : vv_H} {o : vv_H}  (hm : ff_X12_test  h = some o) (hp : post none o) : vv_V x vv_TR mm_X12_test post 0 [some (.ref (vv_ad x 0)), none] [] h := by
  unfold ff_X12_test at hm
  refine rr_aload_n (q := 1) dX12_test_0 rfl rfl ?_
  refine gf_X12_254 (q := 4) rfl dX12_test_1 rfl ?_
  refine rr_if_ne (q := 7) (tgt := 37) dX12_test_4 (by decide) rfl hm (fun hm => ?_) (fun hm => ?_)
  · exact vt_X12_test_J37  hm hp
  · refine rr_aload_n (q := 8) dX12_test_7 rfl rfl ?_
    refine gf_X12_272 (q := 11) rfl dX12_test_8 rfl ?_
    refine rr_iconst (q := 12) (v := 1) dX12_test_11 rfl (by decide) ?_
    refine rr_icmp_ne (q := 15) (tgt := 32) dX12_test_12 (by decide) rfl hm (fun hm => ?_) (fun hm => ?_)
    · exact vt_X12_test_J32  hm hp
    · refine rr_aload_n (q := 16) dX12_test_15 rfl rfl ?_
      refine gf_X12_269 (q := 19) rfl dX12_test_16 rfl ?_
      refine rr_i2l (q := 20) dX12_test_19 rfl ?_
      refine rr_ldc2 (q := 23) dX12_test_20 rfl zw_270 ?_
      refine rr_ldc2 (q := 26) dX12_test_23 rfl zw_269 ?_
      obtain ⟨r32, k33, hm⟩ := vv_bind hm
      refine rr_callS (q := 29) (M' := mm_X12_in) (As := [.long ((h.1 0 24).toInt64), .long (3 : Int64), .long (5 : Int64)]) (st := []) (w := some (.int r32))  (cc_X12_in  k33) rfl vy_X12_in zw_267 ⟨Nat.le_of_ble_eq_true rfl, Nat.le_of_ble_eq_true rfl⟩ (Nat.le_of_ble_eq_true rfl) dX12_test_26 rfl ?_
      show vv_V x vv_TR mm_X12_test post 29 [some (.ref (vv_ad x 0)), none] [.int r32] h
      refine rr_if_ne (q := 32) (tgt := 37) dX12_test_29 (by decide) rfl hm (fun hm => ?_) (fun hm => ?_)
      · exact vt_X12_test_J37  hm hp
      · exact vt_X12_test_J32  hm hp
theorem cc_X12_test {x : vv_E} {h : vv_H} {o : vv_H}  (hm : ff_X12_test h = some o) : vv_C x vv_TR yX12_test mm_X12_test [.ref (vv_ad x 0)] h (fun v g => v = none ∧ g = o) := vv_entry (by decide +kernel) rfl (Nat.le_of_ble_eq_true rfl) rfl (vt_X12_test  hm ⟨rfl, rfl⟩)
