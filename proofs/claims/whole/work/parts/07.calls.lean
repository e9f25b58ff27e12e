def vv_cy (y : MethodName) (M' : vv_M) (n : Nat) : Prop := Cond.initialized y.cls ∈ vv_Tg ∧ Cond.code y M'.1 M'.2.1 M'.2.2.2.1 ∈ vv_Tg ∧ (y.cls ≠ "java/lang/invoke/MethodHandle" ∧ y.cls ≠ "java/lang/invoke/VarHandle" ∧ (parseMethodDescriptor y.desc).map (fun d => d.parameters.length) = some n) ∧ M'.2.2.2.2.cells = 0 ∧ M'.2.2.2.2.slots = 0
def vv_cyV (y : MethodName) (M' : vv_M) (n : Nat) : Prop := vv_cy y M' n ∧ Cond.instanceMethod y ∈ vv_Tg ∧ Cond.selects y.cls y y ∈ vv_Tg
def vv_cyS (y : MethodName) (M' : vv_M) (n : Nat) : Prop := vv_cy y M' n ∧ Cond.static y ∈ vv_Tg
theorem vv_Z_at {x : vv_E} {T : vv_T} {s U : State} {H : Heap} {locs : List Loc} (h : vv_Z x T.2 s s.heap) (S : va_S (vv_AD x T.2) s.heap H locs) (hU : U.heap = H) (hW : s.WarmedH U.vm) : vv_Z x T.2 U U.heap := by
  refine ⟨?_, va_Nw.warmM hW h.2.1, fun i hi => vk_R.warm hW (h.2.2 i hi)⟩
  rw [hU]
  exact vv_Sk.moved hW.alike (h.1.kept S.2.1)
theorem vv_blind {x : vv_E} {T : vv_T} {av : List Value} {h : vv_H} : FrameBlind (va_Pc av (fun U => va_P x.2.1 vwCl (vv_w x T h) U.heap ∧ vv_K x U ∧ vv_J x T.2 ∧ vv_Z x T.2 U U.heap)) := by
  intro a U g mk hq
  obtain ⟨h1, h2, h3, h4, h5⟩ := hq
  exact ⟨h1, h2, va_K.moved (u := U) (U := U.calling g mk a) (Vm.Alike.refl U.vm) h3, h4, vv_Sk.moved (u := U) (U := U.calling g mk a) (Vm.Alike.refl U.vm) h5.1, va_Nw.same (u := U) (U := U.calling g mk a) rfl rfl h5.2.1, fun i hi => vk_R.same (u := U) (U := U.calling g mk a) rfl (h5.2.2 i hi)⟩
section RC
variable {x : vv_E} {T : vv_T} {M M' : vv_M} {post : Option Value → vv_H → Prop} {pc q : Nat} {lo : List (Option Value)} {st st0 : List Value} {h h' : vv_H} {y : MethodName} {As : List Value} {n idx k ci N : Nat} {C : String} {Tf : u_T} {fs : List (Nat × Nat)} {w : Option Value}
theorem vv_goes {p : Program} {e : Env} {s : State} {m : MethodId} {args a : Array Value} {below : List Frame} {meth : Method} {c : Code} {H : Heap} {locs : List Loc} {ls : Array Slot} (A : vv_A x T M p s m args meth c) (S : va_S (vv_AD x T.2) s.heap H locs) (L : vv_L ls M.2.1 lo)
    (hr : va_Run p x.1 e M.2.2.2.2 s m args below meth c H locs 0 0 0 0 (F0 m pc ls st0) st (vv_Q x T (fun v g => v = w ∧ g = h') a) (vv_AD x T.2)) (kk : vv_V x T M post (pc + 3) lo (w.toList ++ st) h') :
    W p x.1 e M.2.2.2.2 s m args below meth c H locs 0 0 (MQ below (vv_Q x T post) args s 0 0 (vv_AD x T.2)) (F0 m pc ls st0) := by
  intro T1 hT X
  obtain ⟨v, st₀, t, T', L', h0, X', hL, e1, e2, ⟨⟨v', g, hv, ⟨rfl, rfl⟩, hP1⟩, hz, hkk⟩, stp⟩ := hr T1 hT X
  cases hv
  rw [h0] at hz hkk
  obtain ⟨t2, a1, b1⟩ := kk p e s m args below meth c T'.heap (locs ++ L') ls A (by rw [e1]; exact hP1) ⟨Nat.le_trans S.1 (by rw [e1]; exact hz), fun q h1 h2 => by rw [e1, hkk q (Nat.lt_of_lt_of_le h1 S.1) h2]; exact S.2.1 q h1 h2, fun q hq => (List.mem_append.mp hq).elim (S.2.2 q) (fun z => hL q z)⟩ L T' rfl X'
  exact ⟨t2, stp t2 a1, b1⟩
theorem rr_callV (hc : vv_C x T y M' (.ref (vv_ad x k) :: As) h (fun v g => v = w ∧ g = h')) (hst : st0 = As.reverse ++ .ref (vv_ad x k) :: st) (hl : T.1 k = (0, ci, fs)) (hk : k < T.2) (hcl : vwCl[ci]? = some (y.cls, Tf, N)) (hY : vv_cyV y M' As.length) (hml : Cond.methodLink M.2.2.1 idx y ∈ vv_Tg)
    (hR : M'.2.2.2.2.frames + 1 ≤ M.2.2.2.2.frames ∧ 8 + (M'.2.1 + 11) + M'.2.2.2.2.locals ≤ M.2.2.2.2.locals) (hW : (st.map fun v => v.category).sum ≤ 8) (d : decode M.1 pc = .ok (.invokevirtual idx, 3)) (eq : pc + 3 = q) (kk : vv_V x T M post q lo (w.toList ++ st) h') : vv_V x T M post pc lo st0 h := by
  subst eq
  subst hst
  intro p e s m args below meth c H locs ls A P S L
  have hK := A.2.2.2.2.2.1
  have hts := A.2.2.2.2.1
  have e1 : vv_c x T h k = .inr (ci, vv_fs x h k fs) := by simp only [vv_c, hl]
  have cb : CallB M.2.2.2.2 s args M.2.2.1 idx y M'.1 M'.2.1 M'.2.2.2.1 (Cond.code y M'.1 M'.2.1 M'.2.2.2.1 :: vv_Tg) M'.2.2.2.2 0 0 As.length := callB_of _ hts (vv_goodIn hY.1.2.1) rfl hY.1.2.2.2.1 hY.1.2.2.2.2 (hts _ hY.1.1) (hts _ hml) hY.1.2.2.1 hR
  exact vv_goes A S L (va_runV (C := y.cls) ⟨A.1, A.2.1, A.2.2.1, A.2.2.2.1, hts⟩ hc ⟨cb, hts _ hY.2.1, hts _ hY.2.2⟩ ⟨vv_blind, va_recv hK P hcl (by rw [vv_w_get hk, e1]), fun U hU hWm => ⟨rfl, by rw [hU]; exact P, va_K.moved hWm.alike hK, A.2.2.2.2.2.2.1, vv_Z_at A.2.2.2.2.2.2.2.2.2 S hU hWm⟩⟩ rfl rfl L.1 rfl (lv_room hW) d ⟨Nat.zero_le _, Nat.zero_le _⟩) kk
theorem rr_callS (hc : vv_C x T y M' As h (fun v g => v = w ∧ g = h')) (hst : st0 = As.reverse ++ st) (hY : vv_cyS y M' As.length) (hml : Cond.methodLink M.2.2.1 idx y ∈ vv_Tg)
    (hR : M'.2.2.2.2.frames + 1 ≤ M.2.2.2.2.frames ∧ 8 + (M'.2.1 + 11) + M'.2.2.2.2.locals ≤ M.2.2.2.2.locals) (hW : (st.map fun v => v.category).sum ≤ 8) (d : decode M.1 pc = .ok (.invokestatic idx, 3)) (eq : pc + 3 = q) (kk : vv_V x T M post q lo (w.toList ++ st) h') : vv_V x T M post pc lo st0 h := by
  subst eq
  subst hst
  intro p e s m args below meth c H locs ls A P S L
  have hK := A.2.2.2.2.2.1
  have hts := A.2.2.2.2.1
  have cb : CallB M.2.2.2.2 s args M.2.2.1 idx y M'.1 M'.2.1 M'.2.2.2.1 (Cond.code y M'.1 M'.2.1 M'.2.2.2.1 :: vv_Tg) M'.2.2.2.2 0 0 As.length := callB_of _ hts (vv_goodIn hY.1.2.1) rfl hY.1.2.2.2.1 hY.1.2.2.2.2 (hts _ hY.1.1) (hts _ hml) hY.1.2.2.1 hR
  exact vv_goes A S L (va_runS ⟨A.1, A.2.1, A.2.2.1, A.2.2.2.1, hts⟩ hc ⟨cb, hts _ hY.2⟩ ⟨vv_blind, fun U hU hWm => ⟨rfl, by rw [hU]; exact P, va_K.moved hWm.alike hK, A.2.2.2.2.2.2.1, vv_Z_at A.2.2.2.2.2.2.2.2.2 S hU hWm⟩⟩ rfl rfl L.1 rfl (lv_room hW) d ⟨Nat.zero_le _, Nat.zero_le _⟩) kk
theorem rr_callSN (hyw : y = yX11_waysToDraw) (hMo : M.2.2.1 = RX4) (hc : vv_C x T y M' As h (fun v g => v = w ∧ g = h')) (hst : st0 = As.reverse ++ st) (hY : vv_cyS y M' As.length) (hidx : idx = vv_nix)
    (hR : M'.2.2.2.2.frames + 1 ≤ M.2.2.2.2.frames ∧ 8 + (M'.2.1 + 11) + M'.2.2.2.2.locals ≤ M.2.2.2.2.locals) (hW : (st.map fun v => v.category).sum ≤ 8) (d : decode M.1 pc = .ok (.invokestatic idx, 3)) (eq : pc + 3 = q) (kk : vv_V x T M post q lo (w.toList ++ st) h') : vv_V x T M post pc lo st0 h := by
  subst eq
  subst hst
  intro p e s m args below meth c H locs ls A P S L
  have hK := A.2.2.2.2.2.1
  have hts := A.2.2.2.2.1
  have cb : va_CN M.2.2.2.2 s args M.2.2.1 idx y RX11 M'.1 M'.2.1 M'.2.2.2.1 (Cond.code y M'.1 M'.2.1 M'.2.2.2.1 :: vv_Tg) M'.2.2.2.2 0 0 As.length := va_cnB _ hts (vv_goodIn hY.1.2.1) rfl hY.1.2.2.2.1 hY.1.2.2.2.2 (by rw [hyw, hMo, hidx]; exact A.2.2.2.2.2.2.2.2.2.2.1) (hts _ hY.1.1) hY.1.2.2.1 hR
  exact vv_goes A S L (va_runSN ⟨A.1, A.2.1, A.2.2.1, A.2.2.2.1, hts⟩ hc ⟨cb, hts _ hY.2, trivial⟩ ⟨vv_blind, fun U hU hWm => ⟨rfl, by rw [hU]; exact P, va_K.moved hWm.alike hK, A.2.2.2.2.2.2.1, vv_Z_at A.2.2.2.2.2.2.2.2.2 S hU hWm⟩⟩ rfl rfl L.1 rfl (lv_room hW) d ⟨Nat.zero_le _, Nat.zero_le _⟩) kk
theorem rr_mmax {a b : Int32} (hw : Cond.methodLink M.2.2.1 idx Lib.Math.max.name ∈ vv_Tg) (hs : Cond.static Lib.Math.max.name ∈ vv_Tg) (hi : Cond.initialized "java/lang/Math" ∈ vv_Tg) (hcd : Cond.code Lib.Math.max.name Lib.Math.max.code 2 (some .int) ∈ vv_Tg) (hR : 1 ≤ M.2.2.2.2.frames) (hR2 : (st.map fun v => v.category).sum + 13 ≤ M.2.2.2.2.locals) (d : decode M.1 pc = .ok (.invokestatic idx, 3)) (eq : pc + 3 = q) (kk : vv_V x T M post q lo (.int (if a < b then b else a) :: st) h) : vv_V x T M post pc lo (.int b :: .int a :: st) h := by
  subst eq
  intro p e s m args below meth c H locs ls A P S L
  have hts := A.2.2.2.2.1
  exact va_mmax A.1 A.2.1 (A.2.2.1.trans L.1.symm) A.2.2.2.1 (hts _ hw) (hts _ hs) (hts _ hi) (hts _ hcd) hR hR2 (Nat.zero_le _) (Nat.zero_le _) d (kk p e s m args below meth c H locs ls A P S L)
theorem rr_mmaxl {a b : Int64} (hw : Cond.methodLink M.2.2.1 idx Lib.MathLoose.max_long.x ∈ vv_Tg) (hs : Cond.static Lib.MathLoose.max_long.x ∈ vv_Tg) (hi : Cond.initialized "java/lang/Math" ∈ vv_Tg) (hcd : Cond.code Lib.MathLoose.max_long.x Lib.MathLoose.max_long.code 4 (some .long) ∈ vv_Tg) (hR : 1 ≤ M.2.2.2.2.frames) (hR2 : (st.map fun v => v.category).sum + 15 ≤ M.2.2.2.2.locals) (d : decode M.1 pc = .ok (.invokestatic idx, 3)) (eq : pc + 3 = q) (kk : vv_V x T M post q lo (.long (if b < a then a else b) :: st) h) : vv_V x T M post pc lo (.long b :: .long a :: st) h := by
  subst eq
  intro p e s m args below meth c H locs ls A P S L
  have hts := A.2.2.2.2.1
  exact va_mmax_long A.1 A.2.1 (A.2.2.1.trans L.1.symm) A.2.2.2.1 (hts _ hw) (hts _ hs) (hts _ hi) (hts _ hcd) hR hR2 (Nat.zero_le _) (Nat.zero_le _) d (kk p e s m args below meth c H locs ls A P S L)
theorem rr_mmin {a b : Int32} (hw : Cond.methodLink M.2.2.1 idx Lib.Math.min.name ∈ vv_Tg) (hs : Cond.static Lib.Math.min.name ∈ vv_Tg) (hi : Cond.initialized "java/lang/Math" ∈ vv_Tg) (hcd : Cond.code Lib.Math.min.name Lib.Math.min.code 2 (some .int) ∈ vv_Tg) (hR : 1 ≤ M.2.2.2.2.frames) (hR2 : (st.map fun v => v.category).sum + 13 ≤ M.2.2.2.2.locals) (d : decode M.1 pc = .ok (.invokestatic idx, 3)) (eq : pc + 3 = q) (kk : vv_V x T M post q lo (.int (if b < a then b else a) :: st) h) : vv_V x T M post pc lo (.int b :: .int a :: st) h := by
  subst eq
  intro p e s m args below meth c H locs ls A P S L
  have hts := A.2.2.2.2.1
  exact va_mmin A.1 A.2.1 (A.2.2.1.trans L.1.symm) A.2.2.2.1 (hts _ hw) (hts _ hs) (hts _ hi) (hts _ hcd) hR hR2 (Nat.zero_le _) (Nat.zero_le _) d (kk p e s m args below meth c H locs ls A P S L)
end RC
