set_option maxRecDepth 100000 in
theorem st_18 : Cond.code yX12_init cX12_init 1 none ∈ vv_Tg := vv_t 1066 (by rfl) (by rfl)
set_option maxHeartbeats 4000000 in
/-- from the entry, for every script of at most 4096 ints, the law comes to its end with true -/
theorem whole_start {p : Program} {e : Env} {s : State} {m : MethodId} {below : List Frame} {meth : Method} {c : Code} (l : Launch) (hflags : l.flags = flags0) {b L : Nat} {xs : Nat → Int32} (hL : L ≤ 4096) (C0 : lw_At p s m meth c b L xs) : W p l e room_1 s m #[Value.ref b] below meth c s.heap [] 0 0 (lw_Z below #[Value.ref b] s) (entryFrame m ([Value.ref b] : List Value).toArray 4) := by
  obtain ⟨hx, hb, hr, hml, hown, hts0, hX, hbl, hlocks, hgv⟩ := id C0
  have hts : ∀ w ∈ vv_Tg, w.before #[Value.ref b] s = true := fun w hw => hts0 w (List.mem_filter.mp hw).1
  obtain ⟨dC, dI, hKc⟩ := st_classes hts
  obtain ⟨ty, hty⟩ := st_types hts (hts0 _ st_17)
  obtain ⟨kS, vS, hZ⟩ := st_Z hts0 hgv
  obtain ⟨x, rfl, hK, had, hZ1, hZ2⟩ : ∃ x : vv_E, x.1 = l ∧ vv_K x s ∧ (∀ k, vv_ad x k = s.heap.size + k) ∧ vv_Z x 184 s s.heap ∧ vv_Z (ll_x x) 56 s s.heap := by
    refine ⟨(l, (dC, dI), ty, fun k => s.heap.size + k, kS, vS), rfl, ⟨hKc, hty⟩, fun k => rfl, hZ _ _ rfl rfl (fun k => Nat.le_add_right _ _), hZ _ _ rfl rfl (fun k => ?_)⟩
    show s.heap.size ≤ s.heap.size + 0 + (184 + k)
    omega
  have A : ll_A p s m meth c b L xs x := ⟨C0, hL, hts, hK, had, hZ1, hZ2⟩
  have hW : ii_W s := ⟨va_AOA.of (hts0 _ st_17), fun q hq => va_Nw.of rfl (hts0 _ (st_16 q hq))⟩
  have hl := lv_entry ([.ref b]) (n := 4) (Nat.le_of_ble_eq_true rfl)
  rw [lg_entry_eq]
  generalize (lg_sl ([.ref b]) ++ List.replicate (4 - (lg_sl ([.ref b])).length) Slot.unset).toArray = ls at hl ⊢
  have hlo : vv_L ls 4 [some (.ref b), none, none, none] := vv_L_pos hl
  refine lo_make (x := x) (B := s.heap.size) (ci := 11) (N := 14) (n1 := 184) (F := vc x s.heap.size vv_TC h0C) C0 hts hK hW tyX11 (Nat.le_refl _) rfl va_S.rf hlo.1 rfl inX11 tyX11_ok st_f11 (by decide +kernel) (by decide +kernel) (by decide +kernel) ik_X11 rfl ⟨by decide +kernel, by decide +kernel, by decide +kernel⟩ ⟨by decide +kernel, by decide +kernel, by decide +kernel⟩ rfl ⟨rfl, rfl⟩ (by decide +kernel) ⟨Nat.le_of_ble_eq_true rfl, Nat.le_of_ble_eq_true rfl⟩ ⟨Nat.le_of_ble_eq_true rfl, Nat.le_of_ble_eq_true rfl⟩ (Nat.le_of_ble_eq_true rfl) dw_0 dw_3 dw_4 ?_
  intro H1 locs1 hP1 z1 _ S1
  refine lv_astore_n (i := 1) hx hb dw_7 rfl (vv_L_has hlo) (by decide) rfl (fun ls1 hl1 => ?_)
  have hlo1 : vv_L ls1 4 [some (.ref b), some (.ref s.heap.size), none, none] := vv_L_set (i := 1) rfl hl1
  refine lo_make (x := ll_x x) (B := s.heap.size + 184) (ci := 12) (N := 73) (n1 := 56) (F := vc (ll_x x) (s.heap.size + 184) vv_TR h0R) C0 hts hK hW tyX12 (Nat.le_add_right _ _) z1 S1 hlo1.1 rfl inX12 tyX12_ok st_f12 (by decide +kernel) (by decide +kernel) (by decide +kernel) ik_X12 rfl ⟨st_18, by decide +kernel, by decide +kernel⟩ ⟨by decide +kernel, by decide +kernel, by decide +kernel⟩ rfl ⟨rfl, rfl⟩ (by decide +kernel) ⟨Nat.le_of_ble_eq_true rfl, Nat.le_of_ble_eq_true rfl⟩ ⟨Nat.le_of_ble_eq_true rfl, Nat.le_of_ble_eq_true rfl⟩ (Nat.le_of_ble_eq_true rfl) dw_8 dw_11 dw_12 ?_
  intro H2 locs2 hP2 z2 k2 S2
  refine lv_astore_n (i := 2) hx hb dw_15 rfl (vv_L_has hlo1) (by decide) rfl (fun ls2 hl2 => ?_)
  have hlo2 : vv_L ls2 4 [some (.ref b), some (.ref s.heap.size), some (.ref (s.heap.size + 184)), none] := vv_L_set (i := 2) rfl hl2
  refine lv_iconst (v := nI (8 * 0)) hx hb dw_16 (by decide) ?_
  refine lv_istore_n (i := 3) hx hb dw_17 rfl (vv_L_has hlo2) (by decide) rfl (fun ls3 hl3 => ?_)
  have hlo3 : vv_L ls3 4 [some (.ref b), some (.ref s.heap.size), some (.ref (s.heap.size + 184)), some (.int (nI (8 * 0)))] := vv_L_set (i := 3) rfl hl3
  refine W.widen (k := 600000) (n := 7302250) (Nat.le_of_ble_eq_true rfl) (Nat.le_of_ble_eq_true rfl) ?_
  have hPC : va_P x.2.1 vwCl (vv_w x vv_TC h0C) H2 := va_conv (b := s.heap.size) had (hP1.kept (fun k q hq => by
    obtain ⟨hk, rfl⟩ := ii_at hq
    exact k2 _ (by show s.heap.size + k < s.heap.size + 184; omega)))
  have hPR : va_P (ll_x x).2.1 vwCl (vv_w (ll_x x) vv_TR h0R) H2 := va_conv (x := ll_x x) (b := s.heap.size + 184) (fun k => by rw [ll_adR A]; omega) hP2
  have elo : ll_lo b x (nI (8 * 0)) = [some (.ref b), some (.ref s.heap.size), some (.ref (s.heap.size + 184)), some (.int (nI (8 * 0)))] := by
    unfold ll_lo
    rw [had, ll_adR A]
    rfl
  exact ll_loop A (L + 1) 0 (by omega) (by omega) h0C h0R i0_RR H2 locs2 ls3 hPC hPR S2 (by rw [elo]; exact hlo3)
-- ===== YOUR PART ENDS =====
set_option maxHeartbeats 4000000 in
theorem lw_walk (l : Launch) (hflags : l.flags = flags0) (b : Addr) (xs : List Int32) : MetFree l x (headSpec (Jvm.Cond.code x code maxLocals ret :: tables_1) room_1) (lw_P b xs) (fun _ _ _ _ _ => True) lw_Q := by
  refine MetFree.of_bodyS (code := code) (maxLocals := maxLocals) (ret := ret) (by decide) ?_ ?_
  · intro args s m h hn
    obtain ⟨meth, c, h1, h2, h3, h4, h5, h6, -, -⟩ := Cond.code_spec hn (atoms_spec (ws := Jvm.Cond.code x code maxLocals ret :: tables_1) h _ List.mem_cons_self)
    exact ⟨meth, c, h1, h2, h3, h4, h5, h6⟩
  · intro p e s m args below meth c s₁ B hml0 hP _
    obtain ⟨rfl, hx, hbd, hgv⟩ := hP
    obtain ⟨scr, harrAt, hlist, hof, hsmall⟩ := hx
    obtain ⟨hcb, hkn, -, -⟩ := State.arrayAt?_spec harrAt
    have hown : s.vm.findClass R_law = some m.cls := findClass_of_methodNamed B.named
    have hts0 : ∀ c ∈ (Jvm.Cond.code x code maxLocals ret :: tables_1), c.before #[Value.ref b] s = true := atoms_spec (ws := Jvm.Cond.code x code maxLocals ret :: tables_1) B.pre
    have hts : ∀ w ∈ lw_tbl, w.before #[Value.ref b] s = true := k2_hts_sels lw_privs (fun w hw => hts0 w (List.mem_cons_of_mem _ hw)) lw_privs_ok
    have hml : c.maxLocals = 4 := B.maxLocals_eq (hts0 _ List.mem_cons_self)
    have X₀ : Stand p l e room_1 s m #[Value.ref b] below meth c s₁ [] 0 0 := Stand.of_body B
    have hh0 : s₁.heap = s.heap := by rw [B.state]; rfl
    have hsz : scr.slots.size = xs.length := by rw [← Array.length_toList, hlist, List.length_map]
    have hval : ∀ j : Nat, j < xs.length → scr.slots[j]? = some (.int (xs.getD j 0)) := fun j hj => by
      rw [← Array.getElem?_toList, hlist]
      simp [hj]
    have hbl : b < s.heap.size := (Array.getElem?_eq_some_iff.mp hcb).1
    have hX : va_X b xs.length (fun j => xs.getD j 0) s s.heap := ⟨scr, hcb, hof, hkn, hsz, hval⟩
    have K : W p l e room_1 s m #[Value.ref b] below meth c s₁.heap [] 0 0 (lw_Z below #[Value.ref b] s) (entryFrame m ([Value.ref b] : List Value).toArray 4) := by
      rw [hh0]
      exact whole_start l hflags hbd ⟨B.exec, B.bytes, B.returns, hml, hown, hts, hX, hbl, B.notSynchronized, hgv⟩
    obtain ⟨t, a1, o, b1, b2, b3⟩ := K s₁ rfl X₀
    exact ⟨t, o, a1, b1, b2, b3⟩
theorem lw_pre_spec {args : Array Value} {s : State} (h : (Jvm.Cond.and given_1 narrow_1).before args s = true) (hr : rest_1_c.before args s = true) : ∃ (b : Addr) (xs : List Int32), lw_P b xs args s := by
  have hs := flat_of_before _ h
  have hq := flat_of_before _ hr
  have hc : (Cond.count 1).before args s = true := hs _ (by decide +kernel)
  have harr : (Cond.arrayOf (.arg 0) .int).before args s = true := hs _ (by decide +kernel)
  have hle : (Cond.le (.length (.arg 0)) (.int 4096)).before args s = true := hs _ (by decide +kernel)
  have hlen : (Cond.isInt (.length (.arg 0))).before args s = true := hq _ (by decide +kernel)
  have hall : (Cond.all (.arg 0) (.isInt (.elem (.arg 0) (.index 0)))).before args s = true := hq _ (by decide +kernel)
  obtain ⟨b, xs, hb, hx⟩ := State.ints_of_pre rfl harr hlen hall
  have hsm : xs.length < 2 ^ 31 := hx.choose_spec.2.2.2
  have hev : (Term.length (.arg 0)).eval args s none [] s = some (.int xs.length.toInt32) := hx.length_eval hb
  have hv := Cond.le_ints hev (show (Term.int 4096).eval args s none [] s = some (.int 4096) from rfl)
  have hd : xs.length.toInt32 ≤ 4096 := by
    simpa [Cond.before, Cond.holds, hv] using hle
  have hN : xs.length ≤ 4096 := (Int32.ofNat_le_ofNat hsm (by decide)).mp (show Int32.ofNat xs.length ≤ Int32.ofNat 4096 from hd)
  exact ⟨b, xs, Cond.one_arg hc (show args[0]? = some (.ref b) from hb), hx, hN, h⟩
theorem lw_comes (l : Launch) (hflags : l.flags = flags0) : Comes l x (Jvm.Cond.code x code maxLocals ret :: tables_1) room_1 (fun tb e args s => Calls_1 tb e args s ∧ rest_1 tb e args s ∧ Pre_1 tb e args s)
    (fun _ _ args s o t => lw_Q args s o t) := by
  intro p e ha hc hk s m args below hf hfit hheap happ hpre
  obtain ⟨b, xs, hP⟩ := lw_pre_spec hpre.2.2 hpre.2.1
  obtain ⟨k, o, h1, h2, h3, hQ⟩ := lw_walk l hflags b xs p e ha hc hk s m args below hf ((Spec.applies_iff_loose hf).mp happ).1 hP trivial
  exact ⟨k, o, h1, h2, h3, hQ⟩
theorem lw_frame {s t : State} {o : Outcome} {args : Array Value} (h : Framed s o t [] 600000 7302250) :
    Framed s o t (fieldLocs frame_1_writes args s ++ arrayLocs frame_1_arrays args s ++ staticLocs frame_1_statics s) 600000 7302250 := h
theorem lw_limb (L : Cond) (hL : ∀ (args : Array Value) (s t : State), L.after args s (.returned (some (.int 1))) t = true) :
    ArmFor flags0 classFile x code maxLocals ret World_1 tables_1 room_1 Calls_1 rest_1 Pre_1
      (fun tb e a s o t => postC L tb e a s o t ∧ Framed s o t (fieldLocs frame_1_writes a s ++ arrayLocs frame_1_arrays a s ++ staticLocs frame_1_statics s) 600000 7302250) := by
  intro l hflags _ _ p e ha hc hk s m args below hf hfit hheap happ hpre
  obtain ⟨k, o, h1, h2, h3, rfl, hF⟩ := lw_comes l hflags p e ha hc hk s m args below hf hfit hheap happ hpre
  exact ⟨k, _, h1, h2, h3, hL args s _, lw_frame hF⟩
theorem i_vc : Claimed_1_1 ∧ Claimed_1_2 := ⟨lw_limb limb_1_1 (fun args s t => by simp [limb_1_1, Cond.after, Cond.holds, Cond.value]), lw_limb limb_1_2 (fun args s t => Cond.after_iff.mpr (by
  first | (rw [show limb_1_2 = Cond.eq .result (.int 1) from rfl, Cond.eq_ints (x := 1) (y := 1) rfl rfl]; simp; done) | (simp [limb_1_2, Cond.value, Term.eval]; done)))⟩
