theorem st_f11 : ∀ j, j < 14 → defaultValue (tyX11 j) = vp_V ([.int 0, .int 0, .null, .null, .null, .null, .null, .null, .null, .null, .null, .null, .null, .null] : List Value) j := by
  refine all_s (n := 13) ?_ rfl
  refine all_s (n := 12) ?_ rfl
  refine all_s (n := 11) ?_ rfl
  refine all_s (n := 10) ?_ rfl
  refine all_s (n := 9) ?_ rfl
  refine all_s (n := 8) ?_ rfl
  refine all_s (n := 7) ?_ rfl
  refine all_s (n := 6) ?_ rfl
  refine all_s (n := 5) ?_ rfl
  refine all_s (n := 4) ?_ rfl
  refine all_s (n := 3) ?_ rfl
  refine all_s (n := 2) ?_ rfl
  refine all_s (n := 1) ?_ rfl
  refine all_s (n := 0) ?_ rfl
  exact all_0
theorem st_f12 : ∀ j, j < 73 → defaultValue (tyX12 j) = vp_V ([.int 0, .int 0, .null, .null, .null, .null, .int 0, .null, .null, .null, .null, .null, .int 0, .null, .null, .null, .null, .int 0, .int 0, .int 0, .int 0, .int 0, .int 0, .int 0, .int 0, .null, .null, .int 0, .null, .null, .null, .null, .null, .null, .int 0, .null, .null, .null, .null, .null, .null, .int 0, .int 0, .null, .int 0, .null, .null, .null, .null, .null, .null, .null, .null, .null, .null, .null, .null, .null, .null, .null, .null, .null, .int 0, .null, .null, .null, .null, .null, .null, .null, .null, .null, .null] : List Value) j := by
  refine all_s (n := 72) ?_ rfl
  refine all_s (n := 71) ?_ rfl
  refine all_s (n := 70) ?_ rfl
  refine all_s (n := 69) ?_ rfl
  refine all_s (n := 68) ?_ rfl
  refine all_s (n := 67) ?_ rfl
  refine all_s (n := 66) ?_ rfl
  refine all_s (n := 65) ?_ rfl
  refine all_s (n := 64) ?_ rfl
  refine all_s (n := 63) ?_ rfl
  refine all_s (n := 62) ?_ rfl
  refine all_s (n := 61) ?_ rfl
  refine all_s (n := 60) ?_ rfl
  refine all_s (n := 59) ?_ rfl
  refine all_s (n := 58) ?_ rfl
  refine all_s (n := 57) ?_ rfl
  refine all_s (n := 56) ?_ rfl
  refine all_s (n := 55) ?_ rfl
  refine all_s (n := 54) ?_ rfl
  refine all_s (n := 53) ?_ rfl
  refine all_s (n := 52) ?_ rfl
  refine all_s (n := 51) ?_ rfl
  refine all_s (n := 50) ?_ rfl
  refine all_s (n := 49) ?_ rfl
  refine all_s (n := 48) ?_ rfl
  refine all_s (n := 47) ?_ rfl
  refine all_s (n := 46) ?_ rfl
  refine all_s (n := 45) ?_ rfl
  refine all_s (n := 44) ?_ rfl
  refine all_s (n := 43) ?_ rfl
  refine all_s (n := 42) ?_ rfl
  refine all_s (n := 41) ?_ rfl
  refine all_s (n := 40) ?_ rfl
  refine all_s (n := 39) ?_ rfl
  refine all_s (n := 38) ?_ rfl
  refine all_s (n := 37) ?_ rfl
  refine all_s (n := 36) ?_ rfl
  refine all_s (n := 35) ?_ rfl
  refine all_s (n := 34) ?_ rfl
  refine all_s (n := 33) ?_ rfl
  refine all_s (n := 32) ?_ rfl
  refine all_s (n := 31) ?_ rfl
  refine all_s (n := 30) ?_ rfl
  refine all_s (n := 29) ?_ rfl
  refine all_s (n := 28) ?_ rfl
  refine all_s (n := 27) ?_ rfl
  refine all_s (n := 26) ?_ rfl
  refine all_s (n := 25) ?_ rfl
  refine all_s (n := 24) ?_ rfl
  refine all_s (n := 23) ?_ rfl
  refine all_s (n := 22) ?_ rfl
  refine all_s (n := 21) ?_ rfl
  refine all_s (n := 20) ?_ rfl
  refine all_s (n := 19) ?_ rfl
  refine all_s (n := 18) ?_ rfl
  refine all_s (n := 17) ?_ rfl
  refine all_s (n := 16) ?_ rfl
  refine all_s (n := 15) ?_ rfl
  refine all_s (n := 14) ?_ rfl
  refine all_s (n := 13) ?_ rfl
  refine all_s (n := 12) ?_ rfl
  refine all_s (n := 11) ?_ rfl
  refine all_s (n := 10) ?_ rfl
  refine all_s (n := 9) ?_ rfl
  refine all_s (n := 8) ?_ rfl
  refine all_s (n := 7) ?_ rfl
  refine all_s (n := 6) ?_ rfl
  refine all_s (n := 5) ?_ rfl
  refine all_s (n := 4) ?_ rfl
  refine all_s (n := 3) ?_ rfl
  refine all_s (n := 2) ?_ rfl
  refine all_s (n := 1) ?_ rfl
  refine all_s (n := 0) ?_ rfl
  exact all_0
section LOOP
variable {p : Program} {e : Env} {s : State} {m : MethodId} {below : List Frame} {meth : Method} {c : Code} {b L j : Nat} {xs : Nat → Int32} {x : vv_E} {hc hr : vv_H}
set_option maxHeartbeats 4000000 in
theorem ll_iter (A : ll_A p s m meth c b L xs x) (hb8 : 8 * j ≤ L + 8) (HR : RR hc hr) (next : 8 * j + 8 ≤ L → ∀ hc' hr', RR hc' hr' → ll_V p e s m below meth c b x 18 (ll_lo b x (nI (8 * (j + 1)))) [] hc' hr') : ll_V p e s m below meth c b x 18 (ll_lo b x (nI (8 * j))) [] hc hr := by
  have hL := A.2.1
  refine rl_iload_n (q := 19) (v := nI (8 * j)) A dw_18 rfl rfl ?_
  refine rl_aload_n (q := 20) A dw_19 rfl rfl ?_
  refine rl_slen (q := 21) A dw_20 rfl ?_
  refine rl_bipush (q := 23) (v := 8) A dw_21 rfl (by decide) ?_
  refine rl_isub (q := 24) A dw_23 rfl ?_
  refine rl_icmp_gt (q := 27) (tgt := 1551) A dw_24 (by decide) rfl (fun _ => ?_) (fun z => ?_)
  · refine rl_iconst (q := 1552) (v := 1) A dw_1551 rfl (by decide) ?_
    exact rl_end A dw_1552
  · have hj : 8 * j + 8 ≤ L := by
      have h1 : ¬ ((nI L - 8).toInt < (nI (8 * j)).toInt) := fun q => z (Int32.lt_iff_toInt_lt.mpr q)
      rw [Int32.toInt_sub, nI_toInt (n := L) (by omega), nI_toInt (n := 8 * j) (by omega), show (8 : Int32).toInt = 8 from rfl, Int.bmod_eq_of_le (by omega) (by omega)] at h1
      omega
    have IH : ∀ hc' hr', RR hc' hr' → ll_V p e s m below meth c b x 1545 (ll_lo b x (nI (8 * j))) [] hc' hr' := by
      intro hc' hr' R
      refine rl_iinc (q := 1548) (i := 3) (v := nI (8 * j)) (w := nI (8 * (j + 1))) (ll_lo b x (nI (8 * (j + 1)))) A dw_1545 rfl rfl (nI_add (8 * j) 8) (by decide) rfl rfl ?_
      refine rl_goto (tgt := 18) A dw_1548 (by decide) ?_
      exact next hj hc' hr' R
    refine rl_aload_n (q := 28) A dw_27 rfl rfl ?_
    refine rl_iload_n (q := 29) (v := nI (8 * j)) A dw_28 rfl rfl ?_
    refine rl_sld (q := 30) (j := 8 * j) A rfl (by omega) dw_29 rfl ?_
    refine rl_bipush (q := 32) (v := 63) A dw_30 rfl (by decide) ?_
    refine rl_iand (q := 33) A dw_32 rfl ?_
    generalize xs (8 * j) &&& 63 = v
    by_cases h : v.toInt < 0 ∨ 35 < v.toInt
    · exact rl_tswO (tgt := 1545) A dw_33 h (by decide) (IH _ _ HR)
    · have key : ∀ k : Nat, k < 36 → v.toInt = (k : Int) → ll_V p e s m below meth c b x 33 (ll_lo b x (nI (8 * j))) [.int v] hc hr := by
        refine all_s (n := 35) ?_ (fun hk => rl_tswI (off := 1489) (tgt := 1522) A dw_33 (by omega) (by omega) (by rw [hk]; rfl) (by decide) (lc_35 A hj HR IH))
        refine all_s (n := 34) ?_ (fun hk => rl_tswI (off := 1446) (tgt := 1479) A dw_33 (by omega) (by omega) (by rw [hk]; rfl) (by decide) (lc_34 A hj HR IH))
        refine all_s (n := 33) ?_ (fun hk => rl_tswI (off := 1403) (tgt := 1436) A dw_33 (by omega) (by omega) (by rw [hk]; rfl) (by decide) (lc_33 A hj HR IH))
        refine all_s (n := 32) ?_ (fun hk => rl_tswI (off := 1360) (tgt := 1393) A dw_33 (by omega) (by omega) (by rw [hk]; rfl) (by decide) (lc_32 A hj HR IH))
        refine all_s (n := 31) ?_ (fun hk => rl_tswI (off := 1347) (tgt := 1380) A dw_33 (by omega) (by omega) (by rw [hk]; rfl) (by decide) (lc_31 A hj HR IH))
        refine all_s (n := 30) ?_ (fun hk => rl_tswI (off := 1313) (tgt := 1346) A dw_33 (by omega) (by omega) (by rw [hk]; rfl) (by decide) (lc_30 A hj HR IH))
        refine all_s (n := 29) ?_ (fun hk => rl_tswI (off := 1260) (tgt := 1293) A dw_33 (by omega) (by omega) (by rw [hk]; rfl) (by decide) (lc_29 A hj HR IH))
        refine all_s (n := 28) ?_ (fun hk => rl_tswI (off := 1227) (tgt := 1260) A dw_33 (by omega) (by omega) (by rw [hk]; rfl) (by decide) (lc_28 A hj HR IH))
        refine all_s (n := 27) ?_ (fun hk => rl_tswI (off := 1184) (tgt := 1217) A dw_33 (by omega) (by omega) (by rw [hk]; rfl) (by decide) (lc_27 A hj HR IH))
        refine all_s (n := 26) ?_ (fun hk => rl_tswI (off := 1151) (tgt := 1184) A dw_33 (by omega) (by omega) (by rw [hk]; rfl) (by decide) (lc_26 A hj HR IH))
        refine all_s (n := 25) ?_ (fun hk => rl_tswI (off := 1128) (tgt := 1161) A dw_33 (by omega) (by omega) (by rw [hk]; rfl) (by decide) (lc_25 A hj HR IH))
        refine all_s (n := 24) ?_ (fun hk => rl_tswI (off := 1095) (tgt := 1128) A dw_33 (by omega) (by omega) (by rw [hk]; rfl) (by decide) (lc_24 A hj HR IH))
        refine all_s (n := 23) ?_ (fun hk => rl_tswI (off := 1072) (tgt := 1105) A dw_33 (by omega) (by omega) (by rw [hk]; rfl) (by decide) (lc_23 A hj HR IH))
        refine all_s (n := 22) ?_ (fun hk => rl_tswI (off := 1039) (tgt := 1072) A dw_33 (by omega) (by omega) (by rw [hk]; rfl) (by decide) (lc_22 A hj HR IH))
        refine all_s (n := 21) ?_ (fun hk => rl_tswI (off := 1006) (tgt := 1039) A dw_33 (by omega) (by omega) (by rw [hk]; rfl) (by decide) (lc_21 A hj HR IH))
        refine all_s (n := 20) ?_ (fun hk => rl_tswI (off := 973) (tgt := 1006) A dw_33 (by omega) (by omega) (by rw [hk]; rfl) (by decide) (lc_20 A hj HR IH))
        refine all_s (n := 19) ?_ (fun hk => rl_tswI (off := 920) (tgt := 953) A dw_33 (by omega) (by omega) (by rw [hk]; rfl) (by decide) (lc_19 A hj HR IH))
        refine all_s (n := 18) ?_ (fun hk => rl_tswI (off := 877) (tgt := 910) A dw_33 (by omega) (by omega) (by rw [hk]; rfl) (by decide) (lc_18 A hj HR IH))
        refine all_s (n := 17) ?_ (fun hk => rl_tswI (off := 864) (tgt := 897) A dw_33 (by omega) (by omega) (by rw [hk]; rfl) (by decide) (lc_17 A hj HR IH))
        refine all_s (n := 16) ?_ (fun hk => rl_tswI (off := 821) (tgt := 854) A dw_33 (by omega) (by omega) (by rw [hk]; rfl) (by decide) (lc_16 A hj HR IH))
        refine all_s (n := 15) ?_ (fun hk => rl_tswI (off := 778) (tgt := 811) A dw_33 (by omega) (by omega) (by rw [hk]; rfl) (by decide) (lc_15 A hj HR IH))
        refine all_s (n := 14) ?_ (fun hk => rl_tswI (off := 735) (tgt := 768) A dw_33 (by omega) (by omega) (by rw [hk]; rfl) (by decide) (lc_14 A hj HR IH))
        refine all_s (n := 13) ?_ (fun hk => rl_tswI (off := 722) (tgt := 755) A dw_33 (by omega) (by omega) (by rw [hk]; rfl) (by decide) (lc_13 A hj HR IH))
        refine all_s (n := 12) ?_ (fun hk => rl_tswI (off := 709) (tgt := 742) A dw_33 (by omega) (by omega) (by rw [hk]; rfl) (by decide) (lc_12 A hj HR IH))
        refine all_s (n := 11) ?_ (fun hk => rl_tswI (off := 686) (tgt := 719) A dw_33 (by omega) (by omega) (by rw [hk]; rfl) (by decide) (lc_11 A hj HR IH))
        refine all_s (n := 10) ?_ (fun hk => rl_tswI (off := 633) (tgt := 666) A dw_33 (by omega) (by omega) (by rw [hk]; rfl) (by decide) (lc_10 A hj HR IH))
        refine all_s (n := 9) ?_ (fun hk => rl_tswI (off := 590) (tgt := 623) A dw_33 (by omega) (by omega) (by rw [hk]; rfl) (by decide) (lc_9 A hj HR IH))
        refine all_s (n := 8) ?_ (fun hk => rl_tswI (off := 537) (tgt := 570) A dw_33 (by omega) (by omega) (by rw [hk]; rfl) (by decide) (lc_8 A hj HR IH))
        refine all_s (n := 7) ?_ (fun hk => rl_tswI (off := 494) (tgt := 527) A dw_33 (by omega) (by omega) (by rw [hk]; rfl) (by decide) (lc_7 A hj HR IH))
        refine all_s (n := 6) ?_ (fun hk => rl_tswI (off := 407) (tgt := 440) A dw_33 (by omega) (by omega) (by rw [hk]; rfl) (by decide) (lc_6 A hj HR IH))
        refine all_s (n := 5) ?_ (fun hk => rl_tswI (off := 374) (tgt := 407) A dw_33 (by omega) (by omega) (by rw [hk]; rfl) (by decide) (lc_5 A hj HR IH))
        refine all_s (n := 4) ?_ (fun hk => rl_tswI (off := 321) (tgt := 354) A dw_33 (by omega) (by omega) (by rw [hk]; rfl) (by decide) (lc_4 A hj HR IH))
        refine all_s (n := 3) ?_ (fun hk => rl_tswI (off := 268) (tgt := 301) A dw_33 (by omega) (by omega) (by rw [hk]; rfl) (by decide) (lc_3 A hj HR IH))
        refine all_s (n := 2) ?_ (fun hk => rl_tswI (off := 225) (tgt := 258) A dw_33 (by omega) (by omega) (by rw [hk]; rfl) (by decide) (lc_2 A hj HR IH))
        refine all_s (n := 1) ?_ (fun hk => rl_tswI (off := 182) (tgt := 215) A dw_33 (by omega) (by omega) (by rw [hk]; rfl) (by decide) (lc_1 A hj HR IH))
        refine all_s (n := 0) ?_ (fun hk => rl_tswI (off := 159) (tgt := 192) A dw_33 (by omega) (by omega) (by rw [hk]; rfl) (by decide) (lc_0 A hj HR IH))
        exact all_0
      exact key v.toInt.toNat (by omega) (by omega)
theorem ll_loop (A : ll_A p s m meth c b L xs x) : ∀ (n j : Nat), 8 * j ≤ L + 8 → L < 8 * j + 8 * n → ∀ hc hr, RR hc hr → ll_V p e s m below meth c b x 18 (ll_lo b x (nI (8 * j))) [] hc hr := by
  intro n
  induction n with
  | zero => intro j h1 h2 hc hr R; exact ll_iter A h1 R (fun h => absurd h (by omega))
  | succ n ih => intro j h1 h2 hc hr R; exact ll_iter A h1 R (fun h hc' hr' R' => ih (j + 1) (by omega) (by omega) hc' hr' R')
/-- a new object of the law's, and its constructor -/
theorem lo_make {Q : State → Prop} (C0 : lw_At p s m meth c b L xs) (hts : ∀ w ∈ vv_Tg, w.before #[Value.ref b] s = true) (hK : vv_K x s) (hW : ii_W s) {B ci N i1 i2 n1 mc ms pc ce sl : Nat} {C : String} {Tf : u_T} {fs : List Value} {y : MethodName} {M' : vv_M} {F : ii_G} {H : Heap} {locs : List Loc} {ls : Array Slot} {st : List Value} (ty0 : Nat → FieldType) (hB : s.heap.size ≤ B) (hz : H.size = B) (S : va_S (ii_B s.heap.size) s.heap H locs) (hls : ls.size = 4)
    (hc : vwCl[ci]? = some (C, Tf, N)) (hin : ∀ w ∈ u_ws C Tf N, w ∈ vv_Tg) (hty : ∀ k, k < N → parseFieldDescriptor (Tf k).2.2.1 = some (ty0 k)) (hfs : ∀ j, j < N → defaultValue (ty0 j) = vp_V fs j) (hw : Cond.classLink R_law i1 C ∈ vv_Tg) (h1 : Cond.instantiable C N ∈ vv_Tg) (h2 : Cond.initialized C ∈ vv_Tg)
    (hcon : ii_C x B y M' mc ms [.ref (B + 0)] 1 (ii_O 0 ci fs F) (fun n' g' => n' = n1 ∧ g' = F)) (hn : y.name = "<init>") (hy : Cond.code y M'.1 M'.2.1 M'.2.2.2.1 ∈ vv_Tg ∧ Cond.instanceMethod y ∈ vv_Tg ∧ Cond.initialized y.cls ∈ vv_Tg) (hd : y.cls ≠ "java/lang/invoke/MethodHandle" ∧ y.cls ≠ "java/lang/invoke/VarHandle" ∧ (parseMethodDescriptor y.desc).map (fun d => d.parameters.length) = some 0) (hr : M'.2.2.2.1 = none) (hrm : M'.2.2.2.2.cells = mc ∧ M'.2.2.2.2.slots = ms) (hml : Cond.methodLink R_law i2 y ∈ vv_Tg)
    (hR : M'.2.2.2.2.frames + 1 ≤ 2048 ∧ 8 + (M'.2.1 + 11) + M'.2.2.2.2.locals ≤ 84000) (hf : ce + 1 + mc ≤ 600000 ∧ sl + N + ms ≤ 7302250) (hst : ((Value.ref B :: st).map fun v => v.category).sum ≤ 8) (d0 : decode code pc = .ok (.new i1, 3)) (d1 : decode code (pc + 3) = .ok (.dup, 1)) (d2 : decode code (pc + 3 + 1) = .ok (.invokespecial i2, 3))
    (kk : ∀ (H1 : Heap) (locs1 : List Loc), va_P x.2.1 vwCl (ii_w B n1 F) H1 → H1.size = B + n1 → (∀ q : Nat, q < B → H1[q]? = H[q]?) → va_S (ii_B s.heap.size) s.heap H1 locs1 → W p x.1 e room_1 s m #[Value.ref b] below meth c H1 locs1 (ce + 1 + mc) (sl + N + ms) Q (F0 m (pc + 3 + 1 + 3) ls (.ref B :: st))) :
    W p x.1 e room_1 s m #[Value.ref b] below meth c H locs ce sl Q (F0 m pc ls st) := by
  have hK' : va_K x.2.1 vwCl (vv_tys x) s := hK
  have hKn := hK'.1 ci _ hc
  refine W.newcK C0.1 C0.2.1 C0.2.2.2.2.1 (hts _ hw) (hts _ h1) (hts _ h2) rfl d0 (by show ce + 1 ≤ 600000; omega) (by show sl + N ≤ 7302250; omega) hKn.2.1 hz fun H1 kC hkC e1 z1 o1 => ?_
  have hP1 : va_P x.2.1 vwCl (ii_w B 1 (ii_O 0 ci fs F)) H1 := by
    intro k q hq
    obtain ⟨hk, rfl⟩ := ii_at hq
    obtain rfl : k = 0 := by omega
    rw [ii_O_eq]
    exact ⟨_, hc, (u_born ty0 hts hin hKn hkC e1 hty).to hfs⟩
  refine lv_dup C0.1 C0.2.1 d1 rfl ?_
  have cb : CallB room_1 s #[Value.ref b] R_law i2 y M'.1 M'.2.1 none (Cond.code y M'.1 M'.2.1 none :: vv_Tg) M'.2.2.2.2 mc ms 0 := callB_of _ hts (vv_goodIn (by have := hy.1; rw [hr] at this; exact this)) rfl hrm.1 hrm.2 (hts _ hy.2.2) (hts _ hml) hd hR
  have hm : Met x.1 y (Cond.code y M'.1 M'.2.1 none :: vv_Tg) M'.2.2.2.2 (va_Pc [.ref (B + 0)] (fun U => va_P x.2.1 vwCl (ii_w B 1 (ii_O 0 ci fs F)) U.heap ∧ U.heap.size = B + 1 ∧ vv_K x U ∧ ii_W U)) (ii_Q x B (fun n' g' => n' = n1 ∧ g' = F)) mc ms (ii_B B) := by
    have := hcon
    unfold ii_C at this
    rw [hr] at this
    exact this
  have run := va_runI (p := p) (l := x.1) (e := e) (R := room_1) (below := below) (meth := meth) (c := c) (H := H1) (locs := locs) (cells := ce + 1) (slots := sl + N) (rest := .ref B :: st) (As := []) (g := F0 m (pc + 3 + 1) ls (.ref B :: .ref B :: st)) ⟨C0.1, C0.2.1, C0.2.2.2.1, C0.2.2.2.2.1, hts⟩ hm ⟨cb, hn, hts _ hy.2.1⟩ ⟨ii_blind, fun U hU hWm => ⟨rfl, by rw [hU]; exact hP1, by rw [hU]; exact z1, va_K.moved hWm.alike hK', ii_W.warm hWm hW⟩⟩ rfl rfl hls rfl (lv_room hst) d2 hf
  intro T1 hT X
  obtain ⟨v, st₀, t, T', L', h0, X', hL, e2, e3, ⟨⟨n2, g2, hv, ⟨rfl, rfl⟩, hP2, hz2⟩, hz', hkk⟩, stp⟩ := run T1 hT X
  cases hv
  rw [h0] at hz' hkk
  have hold : ∀ q : Nat, q < B → T'.heap[q]? = H[q]? := fun q hq => by
    rw [e2, hkk q (by rw [z1]; omega) (Nat.not_le.mpr hq)]
    exact o1 q hq
  obtain ⟨t2, a1, b1⟩ := kk T'.heap (locs ++ L') (by rw [e2]; exact hP2) (by rw [e2]; exact hz2) hold ⟨by rw [e2, hz2]; omega, fun q h3 h4 => by rw [hold q (by omega)]; exact S.2.1 q h3 h4, fun q hq => (List.mem_append.mp hq).elim (S.2.2 q) (fun z => Nat.le_trans hB (hL q z))⟩ T' rfl X'
  exact ⟨t2, stp t2 a1, b1⟩
end LOOP
