/-! THE CLAIM OUT OF ONE WALK OF THE LAW'S BODY. Your part is whole_start (and what it stands on); all else here is the same for every law, but numbers. -/
def R_law : String := "ClothForceLaw"
def lw_P (b : Addr) (xs : List Int32) (args : Array Value) (s : State) : Prop := args = #[.ref b] ∧ s.IntsAt b xs ∧ xs.length ≤ 4096 ∧ (Jvm.Cond.and given_1 narrow_1).before args s = true
def lw_Q (_ : Array Value) (s : State) (o : Outcome) (t : State) : Prop := o = .returned (some (.int 1)) ∧ Framed s o t [] 600000 7302250
def lw_Z (below : List Frame) (a : Array Value) (s : State) : State → Prop := fun t => ∃ o, t.status = .running ∧ Ended t below o ∧ lw_Q a s o t
/-- the law's own end, with 1 on the stack, nothing written that was there before, its room as the claim has it -/
theorem lw_ret {p : Program} {l : Launch} {e : Env} {s : State} {m : MethodId} {below : List Frame} {meth : Method} {c : Code} {b : Nat} (hx : p.tables.exec = Jvm.exec) (hb : c.code = code) (hr : meth.sig.returnType = ret) (hlocks : meth.locks = false) {pc : Nat} {H : Heap} {ls : Array Slot} (hdg : decode code pc = .ok (.ireturn, 1)) : W p l e room_1 s m #[Value.ref b] below meth c H [] 600000 7302250 (lw_Z below #[Value.ref b] s) (F0 m pc ls [.int 1]) := by
  intro T hT X
  obtain ⟨fs, hret, hrun, hended, hW, hframe⟩ := X.leave (v := some (.int 1)) (hlocks := hlocks) (fun h => by rw [hr] at h; cases h)
  have hmeth' : T.vm.method? m = some meth := X.method'
  refine ⟨T.setFrames fs, ?_, .returned (some (.int 1)), hrun, hended, rfl, ⟨_, rfl⟩, hW, hframe⟩
  jvm_step X.here [X.here.top, hx, hb, hdg, hmeth', hr, ret, narrow_b1]
  (try refine ⟨rfl, ?_⟩); (try refine ⟨rfl, ?_⟩)
  first | (intro acts; rw [hret _ acts rfl rfl rfl]) | rw [hret _ _ rfl rfl rfl]
  exact Steps.refl _
/-- what holds at the law's entry: the machine, the code, the tables' words (any of lw_tbl by 'hts w (by decide +kernel)'), the script of L ints xs at the cell b, what the Statement gives of the start (any of its parts by flat_of_before) -/
def lw_At (p : Program) (s : State) (m : MethodId) (meth : Method) (c : Code) (b L : Nat) (xs : Nat → Int32) : Prop :=
  p.tables.exec = Jvm.exec ∧ c.code = code ∧ meth.sig.returnType = ret ∧ c.maxLocals = 4 ∧ s.vm.findClass R_law = some m.cls ∧ (∀ w ∈ lw_tbl, w.before #[Value.ref b] s = true) ∧ va_X b L xs s s.heap ∧ b < s.heap.size ∧ meth.locks = false ∧ (Jvm.Cond.and given_1 narrow_1).before #[Value.ref b] s = true
/-! the law's walk: its judgement, rows, calls -/
/-- the reference's environment: the same, its cells behind the component's -/
def ll_x (x : vv_E) : vv_E := (x.1, x.2.1, x.2.2.1, fun k => vv_ad x 0 + (184 + k), x.2.2.2.2.1, x.2.2.2.2.2)
def ll_A (p : Program) (s : State) (m : MethodId) (meth : Method) (c : Code) (b L : Nat) (xs : Nat → Int32) (x : vv_E) : Prop :=
  lw_At p s m meth c b L xs ∧ L ≤ 4096 ∧ (∀ w ∈ vv_Tg, w.before #[Value.ref b] s = true) ∧ vv_K x s ∧ (∀ k, vv_ad x k = s.heap.size + k) ∧ vv_Z x 184 s s.heap ∧ vv_Z (ll_x x) 56 s s.heap
def ll_V (p : Program) (e : Env) (s : State) (m : MethodId) (below : List Frame) (meth : Method) (c : Code) (b : Nat) (x : vv_E) (pc : Nat) (lo : List (Option Value)) (st : List Value) (hc hr : vv_H) : Prop :=
  ∀ (H : Heap) (locs : List Loc) (ls : Array Slot), va_P x.2.1 vwCl (vv_w x vv_TC hc) H → va_P (ll_x x).2.1 vwCl (vv_w (ll_x x) vv_TR hr) H → va_S (ii_B s.heap.size) s.heap H locs → vv_L ls 4 lo →
    W p x.1 e room_1 s m #[Value.ref b] below meth c H locs 600000 7302250 (lw_Z below #[Value.ref b] s) (F0 m pc ls st)
def ll_lo (b : Nat) (x : vv_E) (i : Int32) : List (Option Value) := [some (.ref b), some (.ref (vv_ad x 0)), some (.ref (vv_ad (ll_x x) 0)), some (.int i)]
theorem nI_ofInt {k : Nat} : Int32.ofInt (k : Int) = nI k := rfl
theorem lg_cmp_self {v : Int64} : lg_cmp v v = 0 := by
  unfold lg_cmp
  rw [if_neg (Int64.lt_irrefl), if_pos rfl]
section LL
variable {p : Program} {e : Env} {s : State} {m : MethodId} {below : List Frame} {meth : Method} {c : Code} {b L : Nat} {xs : Nat → Int32} {x : vv_E}
variable {pc q : Nat} {lo : List (Option Value)} {st : List Value} {hc hr : vv_H}
theorem rl_aload_n {kk : Fin 4} {v : Nat} (A : ll_A p s m meth c b L xs x) (d : decode code pc = .ok (.aload_n kk, 1)) (eq : pc + 1 = q) (hl : lo[(kk : Nat)]? = some (some (.ref v))) (k : ll_V p e s m below meth c b x q lo (.ref v :: st) hc hr) : ll_V p e s m below meth c b x pc lo st hc hr := by
  subst eq
  intro H locs ls P R S L
  exact lv_aload_n A.1.1 A.1.2.1 d (rfl : (kk : Nat) = (kk : Nat)) (L.2.2 _ _ hl) (k H locs ls P R S L)
theorem rl_iload_n {kk : Fin 4} {v : Int32} (A : ll_A p s m meth c b L xs x) (d : decode code pc = .ok (.iload_n kk, 1)) (eq : pc + 1 = q) (hl : lo[(kk : Nat)]? = some (some (.int v))) (k : ll_V p e s m below meth c b x q lo (.int v :: st) hc hr) : ll_V p e s m below meth c b x pc lo st hc hr := by
  subst eq
  intro H locs ls P R S L
  exact lv_iload_n A.1.1 A.1.2.1 d (rfl : (kk : Nat) = (kk : Nat)) (L.2.2 _ _ hl) (k H locs ls P R S L)
theorem rl_iconst {n : Int} {v : Int32} (A : ll_A p s m meth c b L xs x) (d : decode code pc = .ok (.iconst n, 1)) (eq : pc + 1 = q) (hv : Int32.ofInt n = v) (k : ll_V p e s m below meth c b x q lo (.int v :: st) hc hr) : ll_V p e s m below meth c b x pc lo st hc hr := by
  subst eq
  intro H locs ls P R S L
  exact lv_iconst A.1.1 A.1.2.1 d hv (k H locs ls P R S L)
theorem rl_bipush {n : Int} {v : Int32} (A : ll_A p s m meth c b L xs x) (d : decode code pc = .ok (.bipush n, 2)) (eq : pc + 2 = q) (hv : (Int8.ofInt n).toInt32 = v) (k : ll_V p e s m below meth c b x q lo (.int v :: st) hc hr) : ll_V p e s m below meth c b x pc lo st hc hr := by
  subst eq
  intro H locs ls P R S L
  exact lv_bipush A.1.1 A.1.2.1 d hv (k H locs ls P R S L)
theorem rl_istore_n {i : Nat} {v : Int32} {kk : Fin 4} (lo' : List (Option Value)) (A : ll_A p s m meth c b L xs x) (d : decode code pc = .ok (.istore_n kk, 1)) (eq : pc + 1 = q) (hi : (kk : Nat) = i) (hn : i < 4) (hz : vv_nl lo i = true) (hl : lo.set i (some (.int v)) = lo') (k : ll_V p e s m below meth c b x q lo' st hc hr) : ll_V p e s m below meth c b x pc lo (.int v :: st) hc hr := by
  subst eq
  intro H locs ls P R S L
  exact lv_istore_n A.1.1 A.1.2.1 d hi (vv_L_has L) hn rfl (fun ls' L' => k H locs ls' P R S (hl ▸ vv_L_set hz L'))
theorem rl_iadd {a a' : Int32} (A : ll_A p s m meth c b L xs x) (d : decode code pc = .ok (.iadd, 1)) (eq : pc + 1 = q) (k : ll_V p e s m below meth c b x q lo (.int (a + a') :: st) hc hr) : ll_V p e s m below meth c b x pc lo (.int a' :: .int a :: st) hc hr := by
  subst eq
  intro H locs ls P R S L
  exact lv_iadd A.1.1 A.1.2.1 d (k H locs ls P R S L)
theorem rl_isub {a a' : Int32} (A : ll_A p s m meth c b L xs x) (d : decode code pc = .ok (.isub, 1)) (eq : pc + 1 = q) (k : ll_V p e s m below meth c b x q lo (.int (a - a') :: st) hc hr) : ll_V p e s m below meth c b x pc lo (.int a' :: .int a :: st) hc hr := by
  subst eq
  intro H locs ls P R S L
  exact lv_isub A.1.1 A.1.2.1 d (k H locs ls P R S L)
theorem rl_iand {a a' : Int32} (A : ll_A p s m meth c b L xs x) (d : decode code pc = .ok (.iand, 1)) (eq : pc + 1 = q) (k : ll_V p e s m below meth c b x q lo (.int (a &&& a') :: st) hc hr) : ll_V p e s m below meth c b x pc lo (.int a' :: .int a :: st) hc hr := by
  subst eq
  intro H locs ls P R S L
  exact lv_iand A.1.1 A.1.2.1 d (k H locs ls P R S L)
theorem rl_i2l {a : Int32} (A : ll_A p s m meth c b L xs x) (d : decode code pc = .ok (.i2l, 1)) (eq : pc + 1 = q) (k : ll_V p e s m below meth c b x q lo (.long a.toInt64 :: st) hc hr) : ll_V p e s m below meth c b x pc lo (.int a :: st) hc hr := by
  subst eq
  intro H locs ls P R S L
  exact lv_i2l A.1.1 A.1.2.1 d rfl (k H locs ls P R S L)
theorem rl_lshl {a : Int64} {a' : Int32} (A : ll_A p s m meth c b L xs x) (d : decode code pc = .ok (.lshl, 1)) (eq : pc + 1 = q) (k : ll_V p e s m below meth c b x q lo (.long (a <<< (a'.toInt64 &&& 63)) :: st) hc hr) : ll_V p e s m below meth c b x pc lo (.int a' :: .long a :: st) hc hr := by
  subst eq
  intro H locs ls P R S L
  exact lv_lshl A.1.1 A.1.2.1 d rfl (k H locs ls P R S L)
theorem rl_land {a a' : Int64} (A : ll_A p s m meth c b L xs x) (d : decode code pc = .ok (.land, 1)) (eq : pc + 1 = q) (k : ll_V p e s m below meth c b x q lo (.long (a &&& a') :: st) hc hr) : ll_V p e s m below meth c b x pc lo (.long a' :: .long a :: st) hc hr := by
  subst eq
  intro H locs ls P R S L
  exact lv_land A.1.1 A.1.2.1 d (k H locs ls P R S L)
theorem rl_lor {a a' : Int64} (A : ll_A p s m meth c b L xs x) (d : decode code pc = .ok (.lor, 1)) (eq : pc + 1 = q) (k : ll_V p e s m below meth c b x q lo (.long (a ||| a') :: st) hc hr) : ll_V p e s m below meth c b x pc lo (.long a' :: .long a :: st) hc hr := by
  subst eq
  intro H locs ls P R S L
  exact lv_lor A.1.1 A.1.2.1 d (k H locs ls P R S L)
theorem rl_ldc2 {idx : Nat} {v : Int64} (A : ll_A p s m meth c b L xs x) (hw : Cond.constantLong R_law idx v ∈ vv_Tg) (d : decode code pc = .ok (.ldc2_w idx, 3)) (eq : pc + 3 = q) (k : ll_V p e s m below meth c b x q lo (.long v :: st) hc hr) : ll_V p e s m below meth c b x pc lo st hc hr := by
  subst eq
  intro H locs ls P R S L
  exact lv_ldc2 A.1.1 A.1.2.1 A.1.2.2.2.2.1 (A.2.2.1 _ hw) d (k H locs ls P R S L)
theorem rl_goto {off : Int} {tgt : Nat} (A : ll_A p s m meth c b L xs x) (d : decode code pc = .ok (.goto off, 3)) (ht : (pc : Int) + off = (tgt : Int)) (k : ll_V p e s m below meth c b x tgt lo st hc hr) : ll_V p e s m below meth c b x pc lo st hc hr := by
  intro H locs ls P R S L
  exact lv_goto A.1.1 A.1.2.1 d ht (k H locs ls P R S L)
theorem rl_iinc {i : Nat} {n : Int} {v w : Int32} (lo' : List (Option Value)) (A : ll_A p s m meth c b L xs x) (d : decode code pc = .ok (.iinc i n, 3)) (eq : pc + 3 = q) (hk : lo[i]? = some (some (.int v))) (hv : v + Int32.ofInt n = w) (hn : i < 4) (hz : vv_nl lo i = true) (hl : lo.set i (some (.int w)) = lo') (k : ll_V p e s m below meth c b x q lo' st hc hr) : ll_V p e s m below meth c b x pc lo st hc hr := by
  subst eq
  intro H locs ls P R S L
  obtain ⟨j, hj⟩ := List.getElem?_of_mem (vv_ent_in.mpr hk)
  exact lv_iinc A.1.1 A.1.2.1 d (vv_L_has L) hj hv hn rfl (fun ls' L' => k H locs ls' P R S (hl ▸ vv_L_set hz L'))
theorem rl_icmp_eq {v : Int32} {off : Int} {tgt : Nat} (A : ll_A p s m meth c b L xs x) (d : decode code pc = .ok (.if_icmp .eq off, 3)) (ht : (pc : Int) + off = (tgt : Int)) (k : ll_V p e s m below meth c b x tgt lo st hc hr) : ll_V p e s m below meth c b x pc lo (.int v :: .int v :: st) hc hr := by
  intro H locs ls P R S L
  exact lv_icmp_eq A.1.1 A.1.2.1 d ht (fun _ => k H locs ls P R S L) (fun z => absurd rfl z)
theorem rl_lcmp_eq {v : Int64} {off : Int} {tgt : Nat} (A : ll_A p s m meth c b L xs x) (d1 : decode code pc = .ok (.lcmp, 1)) (d : decode code (pc + 1) = .ok (.ifCond .eq off, 3)) (ht : ((pc + 1 : Nat) : Int) + off = (tgt : Int)) (k : ll_V p e s m below meth c b x tgt lo st hc hr) : ll_V p e s m below meth c b x pc lo (.long v :: .long v :: st) hc hr := by
  intro H locs ls P R S L
  exact W.lcmp A.1.1 A.1.2.1 d1 (lv_if_eq A.1.1 A.1.2.1 d ht (fun _ => k H locs ls P R S L) (fun z => absurd lg_cmp_self z))
theorem rl_icmp_gt {x0 y0 : Int32} {off : Int} {tgt : Nat} (A : ll_A p s m meth c b L xs x) (d : decode code pc = .ok (.if_icmp .gt off, 3)) (ht : (pc : Int) + off = (tgt : Int)) (eq : pc + 3 = q) (kt : y0 < x0 → ll_V p e s m below meth c b x tgt lo st hc hr) (kf : ¬ y0 < x0 → ll_V p e s m below meth c b x q lo st hc hr) : ll_V p e s m below meth c b x pc lo (.int y0 :: .int x0 :: st) hc hr := by
  subst eq
  intro H locs ls P R S L
  exact lv_icmp_gt A.1.1 A.1.2.1 d ht (fun z => kt z H locs ls P R S L) (fun z => kf z H locs ls P R S L)
theorem rl_tswO {dflt lo0 hi0 : Int} {offs : Array Int} {len : Nat} {v : Int32} {tgt : Nat} (A : ll_A p s m meth c b L xs x) (d : decode code pc = .ok (.tableswitch dflt lo0 hi0 offs, len)) (hv : v.toInt < lo0 ∨ hi0 < v.toInt) (ht : (pc : Int) + dflt = (tgt : Int)) (k : ll_V p e s m below meth c b x tgt lo st hc hr) : ll_V p e s m below meth c b x pc lo (.int v :: st) hc hr := by
  intro H locs ls P R S L
  exact lv_tableOut A.1.1 A.1.2.1 d hv ht (k H locs ls P R S L)
theorem rl_tswI {dflt lo0 hi0 : Int} {offs : Array Int} {len : Nat} {v : Int32} {off : Int} {tgt : Nat} (A : ll_A p s m meth c b L xs x) (d : decode code pc = .ok (.tableswitch dflt lo0 hi0 offs, len)) (h1 : ¬ v.toInt < lo0) (h2 : ¬ hi0 < v.toInt) (ho : offs[(v.toInt - lo0).toNat]? = some off) (ht : (pc : Int) + off = (tgt : Int)) (k : ll_V p e s m below meth c b x tgt lo st hc hr) : ll_V p e s m below meth c b x pc lo (.int v :: st) hc hr := by
  intro H locs ls P R S L
  exact lv_tableIn A.1.1 A.1.2.1 d h1 h2 ho ht (k H locs ls P R S L)
theorem rl_slen (A : ll_A p s m meth c b L xs x) (d : decode code pc = .ok (.arraylength, 1)) (eq : pc + 1 = q) (k : ll_V p e s m below meth c b x q lo (.int (nI L) :: st) hc hr) : ll_V p e s m below meth c b x pc lo (.ref b :: st) hc hr := by
  subst eq
  intro H locs ls P R S Lo
  have C0 := A.1
  exact va_slen C0.1 C0.2.1 C0.2.2.2.2.2.2.1 C0.2.2.2.2.2.2.2.1 (Nat.not_le.mpr C0.2.2.2.2.2.2.2.1) S d (k H locs ls P R S Lo)
theorem rl_sld {i : Int32} {j : Nat} (A : ll_A p s m meth c b L xs x) (hi : i = nI j) (hj : j < L) (d : decode code pc = .ok (.iaload, 1)) (eq : pc + 1 = q) (k : ll_V p e s m below meth c b x q lo (.int (xs j) :: st) hc hr) : ll_V p e s m below meth c b x pc lo (.int i :: .ref b :: st) hc hr := by
  subst eq
  subst hi
  intro H locs ls P R S Lo
  have C0 := A.1
  have hL := A.2.1
  refine va_sld C0.1 C0.2.1 C0.2.2.2.2.2.2.1 C0.2.2.2.2.2.2.2.1 (Nat.not_le.mpr C0.2.2.2.2.2.2.2.1) S (vp_in_nI hj (by omega)) d ?_
  rw [nI_clamp (by omega)]
  exact k H locs ls P R S Lo
/-- script[i + k] -/
theorem rl_arg {j k : Nat} {n : Int} (A : ll_A p s m meth c b L xs x) (hj : 8 * j + 8 ≤ L) (hk : k < 8) (d1 : decode code pc = .ok (.aload_n 0, 1)) (d2 : decode code (pc + 1) = .ok (.iload_n 3, 1)) (d3 : decode code (pc + 2) = .ok (.iconst n, 1)) (hn : Int32.ofInt n = nI k) (d4 : decode code (pc + 3) = .ok (.iadd, 1)) (d5 : decode code (pc + 4) = .ok (.iaload, 1)) (eq : pc + 5 = q)
    (kk : ll_V p e s m below meth c b x q (ll_lo b x (nI (8 * j))) (.int (xs (8 * j + k)) :: st) hc hr) : ll_V p e s m below meth c b x pc (ll_lo b x (nI (8 * j))) st hc hr := by
  subst eq
  refine rl_aload_n A d1 rfl rfl ?_
  refine rl_iload_n A d2 rfl rfl ?_
  refine rl_iconst A d3 rfl hn ?_
  refine rl_iadd A d4 rfl ?_
  exact rl_sld (j := 8 * j + k) A (nI_add (8 * j) k) (by omega) d5 rfl kk
theorem rl_argb {j k : Nat} {n : Int} (A : ll_A p s m meth c b L xs x) (hj : 8 * j + 8 ≤ L) (hk : k < 8) (d1 : decode code pc = .ok (.aload_n 0, 1)) (d2 : decode code (pc + 1) = .ok (.iload_n 3, 1)) (d3 : decode code (pc + 2) = .ok (.bipush n, 2)) (hn : (Int8.ofInt n).toInt32 = nI k) (d4 : decode code (pc + 4) = .ok (.iadd, 1)) (d5 : decode code (pc + 5) = .ok (.iaload, 1)) (eq : pc + 6 = q)
    (kk : ll_V p e s m below meth c b x q (ll_lo b x (nI (8 * j))) (.int (xs (8 * j + k)) :: st) hc hr) : ll_V p e s m below meth c b x pc (ll_lo b x (nI (8 * j))) st hc hr := by
  subst eq
  refine rl_aload_n A d1 rfl rfl ?_
  refine rl_iload_n A d2 rfl rfl ?_
  refine rl_bipush A d3 rfl hn ?_
  refine rl_iadd A d4 rfl ?_
  exact rl_sld (j := 8 * j + k) A (nI_add (8 * j) k) (by omega) d5 rfl kk
/-- the law's end -/
theorem rl_end (A : ll_A p s m meth c b L xs x) (d : decode code pc = .ok (.ireturn, 1)) : ll_V p e s m below meth c b x pc lo [.int 1] hc hr := by
  intro H locs ls P R S L
  refine va_forget (fun q hq => S.2.2 q hq) ?_
  exact lw_ret A.1.1 A.1.2.1 A.1.2.2.1 A.1.2.2.2.2.2.2.2.2.1 d
theorem ll_Z {x1 : vv_E} {N : Nat} {U : State} {H : Heap} {locs : List Loc} (h : vv_Z x1 N s s.heap) (S : va_S (ii_B s.heap.size) s.heap H locs) (hU : U.heap = H) (hW : s.WarmedH U.vm) : vv_Z x1 N U U.heap := by
  refine ⟨?_, va_Nw.warmM hW h.2.1, fun i hi => vk_R.warm hW (h.2.2 i hi)⟩
  rw [hU]
  exact vv_Sk.moved hW.alike (h.1.kept (fun a ha _ => S.2.1 a ha (Nat.not_le.mpr ha)))
theorem vv_w_at {x1 : vv_E} {T : vv_T} {h : vv_H} {k : Nat} {q : Nat × va_E} (hq : (vv_w x1 T h)[k]? = some q) : k < T.2 ∧ q = (vv_ad x1 k, vv_c x1 T h k) := by
  have hl : k < T.2 := by
    have := (List.getElem?_eq_some_iff.mp hq).1
    simpa [vv_w] using this
  rw [vv_w_get hl] at hq
  cases hq
  exact ⟨hl, rfl⟩
/-- a call of the one, the other kept -/
theorem ll_call {x1 x2 : vv_E} {T1 T2 : vv_T} {h1 h1' h2 : vv_H} {y : MethodName} {M' : vv_M} {As st0 : List Value} {v0 : Value} {idx ci N : Nat} {Tf : u_T} {fs : List (Nat × Nat)} {H : Heap} {locs : List Loc} {ls : Array Slot}
    (C0 : lw_At p s m meth c b L xs) (hts : ∀ w ∈ vv_Tg, w.before #[Value.ref b] s = true) (hK : vv_K x1 s) (hJ : vv_J x1 T1.2) (hZ : vv_Z x1 T1.2 s s.heap) (hb : ∀ j, j < T1.2 → s.heap.size ≤ vv_ad x1 j) (hd : ∀ k j, k < T2.2 → j < T1.2 → vv_ad x2 k ≠ vv_ad x1 j)
    (hcc : vv_C x1 T1 y M' (.ref (vv_ad x1 0) :: As) h1 (fun v g => v = some v0 ∧ g = h1')) (hst : st0 = As.reverse ++ .ref (vv_ad x1 0) :: st) (hl : T1.1 0 = (0, ci, fs)) (hk : 0 < T1.2) (hcl : vwCl[ci]? = some (y.cls, Tf, N)) (hY : vv_cyV y M' As.length) (hml : Cond.methodLink R_law idx y ∈ vv_Tg)
    (hR : M'.2.2.2.2.frames + 1 ≤ 2048 ∧ 8 + (M'.2.1 + 11) + M'.2.2.2.2.locals ≤ 84000) (hW : (st.map fun v => v.category).sum ≤ 8) (d : decode code pc = .ok (.invokevirtual idx, 3))
    (P1 : va_P x1.2.1 vwCl (vv_w x1 T1 h1) H) (P2 : va_P x2.2.1 vwCl (vv_w x2 T2 h2) H) (S : va_S (ii_B s.heap.size) s.heap H locs) (Lo : vv_L ls 4 lo)
    (kk : ∀ (H1 : Heap) (locs1 : List Loc), va_P x1.2.1 vwCl (vv_w x1 T1 h1') H1 → va_P x2.2.1 vwCl (vv_w x2 T2 h2) H1 → va_S (ii_B s.heap.size) s.heap H1 locs1 → W p x1.1 e room_1 s m #[Value.ref b] below meth c H1 locs1 600000 7302250 (lw_Z below #[Value.ref b] s) (F0 m (pc + 3) ls (v0 :: st))) :
    W p x1.1 e room_1 s m #[Value.ref b] below meth c H locs 600000 7302250 (lw_Z below #[Value.ref b] s) (F0 m pc ls st0) := by
  subst hst
  have e1 : vv_c x1 T1 h1 0 = .inr (ci, vv_fs x1 h1 0 fs) := by simp only [vv_c, hl]
  have cb : CallB room_1 s #[Value.ref b] R_law idx y M'.1 M'.2.1 M'.2.2.2.1 (Cond.code y M'.1 M'.2.1 M'.2.2.2.1 :: vv_Tg) M'.2.2.2.2 0 0 As.length := callB_of _ hts (vv_goodIn hY.1.2.1) rfl hY.1.2.2.2.1 hY.1.2.2.2.2 (hts _ hY.1.1) (hts _ hml) hY.1.2.2.1 hR
  have run := va_runV (p := p) (l := x1.1) (e := e) (R := room_1) (below := below) (meth := meth) (locs := locs) (cells := 600000) (slots := 7302250) (rest := st) (g := F0 m pc ls (As.reverse ++ .ref (vv_ad x1 0) :: st)) (C := y.cls) ⟨C0.1, C0.2.1, C0.2.2.2.1, C0.2.2.2.2.1, hts⟩ hcc ⟨cb, hts _ hY.2.1, hts _ hY.2.2⟩ ⟨vv_blind, va_recv hK P1 hcl (by rw [vv_w_get hk, e1]), fun U hU hWm => ⟨rfl, by rw [hU]; exact P1, va_K.moved hWm.alike hK, hJ, ll_Z hZ S hU hWm⟩⟩ rfl rfl Lo.1 rfl (lv_room hW) d ⟨Nat.le_of_ble_eq_true rfl, Nat.le_of_ble_eq_true rfl⟩
  intro T hT X
  obtain ⟨v, st₀, t, T', L', h0, X', hL, e1, e2, ⟨⟨v', g, hv, ⟨rfl, rfl⟩, hP1⟩, hz, hkk⟩, stp⟩ := run T hT X
  cases hv
  rw [h0] at hz hkk
  have hS1 : va_S (ii_B s.heap.size) s.heap T'.heap (locs ++ L') := ⟨Nat.le_trans S.1 (by rw [e1]; exact hz), fun q h1 h2 => by
      rw [e1, hkk q (Nat.lt_of_lt_of_le h1 S.1) (fun ⟨j, hj, ej⟩ => h2 (by rw [ej]; exact hb j hj))]
      exact S.2.1 q h1 h2, fun q hq => (List.mem_append.mp hq).elim (S.2.2 q) (fun z => by
      obtain ⟨j, hj, ej⟩ := hL q z
      show s.heap.size ≤ q.base
      rw [ej]
      exact hb j hj)⟩
  have hP2 : va_P x2.2.1 vwCl (vv_w x2 T2 h2) T'.heap := P2.kept (fun k q hq => by
    have hlt := (P2 k q hq).lt
    obtain ⟨hk2, rfl⟩ := vv_w_at hq
    rw [e1]
    exact hkk _ hlt (fun ⟨j, hj, ej⟩ => hd k j hk2 hj ej))
  obtain ⟨t2, a1, b1⟩ := kk T'.heap (locs ++ L') (by rw [e1]; exact hP1) hP2 hS1 T' rfl X'
  exact ⟨t2, stp t2 a1, b1⟩
theorem ll_adR (A : ll_A p s m meth c b L xs x) (k : Nat) : vv_ad (ll_x x) k = s.heap.size + (184 + k) := by
  show vv_ad x 0 + (184 + k) = _
  rw [A.2.2.2.2.1 0]
  omega
theorem rl_callC {hc' : vv_H} {y : MethodName} {M' : vv_M} {As st0 : List Value} {v0 : Value} {idx : Nat} (A : ll_A p s m meth c b L xs x) (hcc : vv_C x vv_TC y M' (.ref (vv_ad x 0) :: As) hc (fun v g => v = some v0 ∧ g = hc')) (hst : st0 = As.reverse ++ .ref (vv_ad x 0) :: st) (hcl : y.cls = RX11) (hY : vv_cyV y M' As.length) (hml : Cond.methodLink R_law idx y ∈ vv_Tg)
    (hR : M'.2.2.2.2.frames + 1 ≤ 2048 ∧ 8 + (M'.2.1 + 11) + M'.2.2.2.2.locals ≤ 84000) (hW : (st.map fun v => v.category).sum ≤ 8) (d : decode code pc = .ok (.invokevirtual idx, 3)) (eq : pc + 3 = q) (kk : ll_V p e s m below meth c b x q lo (v0 :: st) hc' hr) : ll_V p e s m below meth c b x pc lo st0 hc hr := by
  subst eq
  intro H locs ls P R S Lo
  have had := A.2.2.2.2.1
  have hadR := ll_adR A
  refine ll_call (x1 := x) (x2 := ll_x x) (T1 := vv_TC) (T2 := vv_TR) (h2 := hr) A.1 A.2.2.1 A.2.2.2.1 (fun i j _ _ hh => by rw [had, had] at hh; omega) A.2.2.2.2.2.1 (fun j _ => by rw [had]; omega) (fun k j _ hj => by rw [had, hadR]; have : j < 184 := hj; omega) hcc hst ylC_0 ynC_0 (by rw [hcl]; rfl) hY hml hR hW d P R S Lo (fun H1 locs1 P1 R1 S1 => kk H1 locs1 ls P1 R1 S1 Lo)
theorem rl_callR {hr' : vv_H} {y : MethodName} {M' : vv_M} {As st0 : List Value} {v0 : Value} {idx : Nat} (A : ll_A p s m meth c b L xs x) (hcc : vv_C (ll_x x) vv_TR y M' (.ref (vv_ad (ll_x x) 0) :: As) hr (fun v g => v = some v0 ∧ g = hr')) (hst : st0 = As.reverse ++ .ref (vv_ad (ll_x x) 0) :: st) (hcl : y.cls = RX12) (hY : vv_cyV y M' As.length) (hml : Cond.methodLink R_law idx y ∈ vv_Tg)
    (hR : M'.2.2.2.2.frames + 1 ≤ 2048 ∧ 8 + (M'.2.1 + 11) + M'.2.2.2.2.locals ≤ 84000) (hW : (st.map fun v => v.category).sum ≤ 8) (d : decode code pc = .ok (.invokevirtual idx, 3)) (eq : pc + 3 = q) (kk : ll_V p e s m below meth c b x q lo (v0 :: st) hc hr') : ll_V p e s m below meth c b x pc lo st0 hc hr := by
  subst eq
  intro H locs ls P R S Lo
  have had := A.2.2.2.2.1
  have hadR := ll_adR A
  refine ll_call (x1 := ll_x x) (x2 := x) (T1 := vv_TR) (T2 := vv_TC) (h2 := hc) A.1 A.2.2.1 A.2.2.2.1 (fun i j _ _ hh => by rw [hadR, hadR] at hh; omega) A.2.2.2.2.2.2 (fun j _ => by rw [hadR]; omega) (fun k j hk _ => by rw [had, hadR]; have : k < 184 := hk; omega) hcc hst ylR_0 ynR_0 (by rw [hcl]; rfl) hY hml hR hW d R P S Lo (fun H1 locs1 R1 P1 S1 => kk H1 locs1 ls P1 R1 S1 Lo)
end LL
