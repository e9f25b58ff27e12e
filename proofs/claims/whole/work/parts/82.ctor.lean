/-! half-built worlds: n cells in a row from the address b on; what lies in each is g's word -/
abbrev ii_G : Type := Nat → va_E
def ii_w (b n : Nat) (g : ii_G) : va_W := (List.range n).map (fun k => (b + k, g k))
def ii_B (b : Nat) : Nat → Prop := fun q => b ≤ q
def ii_up (g : ii_G) (k : Nat) (e : va_E) : ii_G := fun a => if a = k then e else g a
theorem ii_get {b n : Nat} {g : ii_G} {k : Nat} (hk : k < n) : (ii_w b n g)[k]? = some (b + k, g k) := by simp [ii_w, hk]
theorem ii_at {b n : Nat} {g : ii_G} {k : Nat} {q : Nat × va_E} (h : (ii_w b n g)[k]? = some q) : k < n ∧ q = (b + k, g k) := by
  have hl : k < n := by
    have := (List.getElem?_eq_some_iff.mp h).1
    simpa [ii_w] using this
  rw [ii_get hl] at h
  cases h
  exact ⟨hl, rfl⟩
theorem ii_D {b n : Nat} {g : ii_G} : va_D (ii_B b) (ii_w b n g) := by
  refine ⟨fun i j p q hp hq e => ?_, fun k q hq => ?_⟩
  · obtain ⟨-, rfl⟩ := ii_at hp
    obtain ⟨-, rfl⟩ := ii_at hq
    have e' : b + i = b + j := e
    omega
  · obtain ⟨-, rfl⟩ := ii_at hq
    exact Nat.le_add_right b k
theorem ii_set {b n : Nat} {g : ii_G} {k : Nat} {e : va_E} (_hk : k < n) : (ii_w b n g).set k (b + k, e) = ii_w b n (ii_up g k e) := by
  apply List.ext_getElem?
  intro j
  rw [List.getElem?_set]
  by_cases hl : j < n
  · rw [ii_get hl, ii_get hl]
    by_cases hj : k = j
    · subst hj
      simp [ii_w, hl, ii_up]
    · rw [if_neg hj]
      simp [ii_up, Ne.symm hj]
  · rw [List.getElem?_eq_none (by simp [ii_w]; omega)]
    by_cases hj : k = j
    · omega
    · rw [if_neg hj, List.getElem?_eq_none (by simp [ii_w]; omega)]
theorem ii_push {b n : Nat} {g : ii_G} {e : va_E} : ii_w b n g ++ [(b + n, e)] = ii_w b (n + 1) (ii_up g n e) := by
  unfold ii_w
  rw [List.range_succ, List.map_append]
  congr 1
  · apply List.map_congr_left
    intro a ha
    have : a < n := List.mem_range.mp ha
    have hn : a ≠ n := by omega
    simp [ii_up, hn]
  · simp [ii_up]
theorem va_AOA.moved {ty : FieldType} {u U : State} (hvm : u.vm.Alike U.vm) (h : va_AOA ty u) : va_AOA ty U := by
  have e := Cond.arrayOver_setVmC (args := #[]) (s := u) (vm' := U.vm) hvm (.array ty)
  exact e.trans h
/-- the words of constructors that nest mates call -/
def ii_nst : List (Nat × MethodName) := [(9, yX0_init), (18, yX2_init), (25, yX8_init), (32, yX10_init), (39, yX5_init), (46, yX6_init), (63, yX4_init), (70, yX1_init), (77, yX3_init)]
def ii_W (U : State) : Prop := va_AOA .int U ∧ ∀ q ∈ ii_nst, va_Nw (.methodLinkNest RX11 q.1 q.2 RX11) U
theorem ii_W.warm {s U : State} (hW : s.WarmedH U.vm) (h : ii_W s) : ii_W U := ⟨va_AOA.moved hW.alike h.1, fun q hq => va_Nw.warmM hW (h.2 q hq)⟩
/-! what a constructor's activation knows -/
def ii_A (x : vv_E) (b : Nat) (M : vv_M) (p : Program) (s : State) (m : MethodId) (args : Array Value) (meth : Method) (c : Code) : Prop :=
  p.tables.exec = Jvm.exec ∧ c.code = M.1 ∧ c.maxLocals = M.2.1 ∧ s.vm.findClass M.2.2.1 = some m.cls ∧ (∀ w ∈ vv_Tg, w.before args s = true) ∧ vv_K x s ∧ b ≤ s.heap.size ∧ meth.sig.returnType = M.2.2.2.1 ∧ meth.locks = false ∧ (meth.name = "<init>" ∨ M.2.2.1 = RJ7) ∧ ii_W s
def ii_Q (x : vv_E) (b : Nat) (post : Nat → ii_G → Prop) : Array Value → State → Outcome → State → Prop := fun _ st oc t => (∃ (n : Nat) (g : ii_G), oc = .returned none ∧ post n g ∧ va_P x.2.1 vwCl (ii_w b n g) t.heap ∧ t.heap.size = b + n) ∧ va_F (ii_B b) st t
/-- the machine, in a constructor at pc with these locals, stack, counts of cells and slots, and this half-built world, comes to the constructor's end with post, having made mc cells and ms slots -/
def ii_V (x : vv_E) (b : Nat) (M : vv_M) (mc ms : Nat) (post : Nat → ii_G → Prop) (pc : Nat) (lo : List (Option Value)) (st : List Value) (ce sl n : Nat) (g : ii_G) : Prop :=
  ∀ (p : Program) (e : Env) (s : State) (m : MethodId) (args : Array Value) (below : List Frame) (meth : Method) (c : Code) (H : Heap) (locs : List Loc) (ls : Array Slot), ii_A x b M p s m args meth c → va_P x.2.1 vwCl (ii_w b n g) H → H.size = b + n → va_S (ii_B b) s.heap H locs → vv_L ls M.2.1 lo →
    W p x.1 e M.2.2.2.2 s m args below meth c H locs ce sl (MQ below (ii_Q x b post) args s mc ms (ii_B b)) (F0 m pc ls st)
section IV
variable {x : vv_E} {b : Nat} {M : vv_M} {mc ms : Nat} {post : Nat → ii_G → Prop} {pc q : Nat} {lo : List (Option Value)} {st : List Value} {ce sl n : Nat} {g : ii_G}
theorem ir_iconst {k : Int} {v : Int32} (d : decode M.1 pc = .ok (.iconst k, 1)) (eq : pc + 1 = q) (hv : Int32.ofInt k = v) (kk : ii_V x b M mc ms post q lo (.int v :: st) ce sl n g) : ii_V x b M mc ms post pc lo st ce sl n g := by
  subst eq
  intro p e s m args below meth c H locs ls A P Z S L
  exact lv_iconst A.1 A.2.1 d hv (kk p e s m args below meth c H locs ls A P Z S L)
theorem ir_bipush {k : Int} {v : Int32} (d : decode M.1 pc = .ok (.bipush k, 2)) (eq : pc + 2 = q) (hv : (Int8.ofInt k).toInt32 = v) (kk : ii_V x b M mc ms post q lo (.int v :: st) ce sl n g) : ii_V x b M mc ms post pc lo st ce sl n g := by
  subst eq
  intro p e s m args below meth c H locs ls A P Z S L
  exact lv_bipush A.1 A.2.1 d hv (kk p e s m args below meth c H locs ls A P Z S L)
theorem ir_sipush {k : Int} {v : Int32} (d : decode M.1 pc = .ok (.sipush k, 3)) (eq : pc + 3 = q) (hv : (Int16.ofInt k).toInt32 = v) (kk : ii_V x b M mc ms post q lo (.int v :: st) ce sl n g) : ii_V x b M mc ms post pc lo st ce sl n g := by
  subst eq
  intro p e s m args below meth c H locs ls A P Z S L
  exact lv_sipush A.1 A.2.1 d hv (kk p e s m args below meth c H locs ls A P Z S L)
theorem ir_aload_n {k : Fin 4} {v : Nat} (d : decode M.1 pc = .ok (.aload_n k, 1)) (eq : pc + 1 = q) (hl : lo[(k : Nat)]? = some (some (.ref v))) (kk : ii_V x b M mc ms post q lo (.ref v :: st) ce sl n g) : ii_V x b M mc ms post pc lo st ce sl n g := by
  subst eq
  intro p e s m args below meth c H locs ls A P Z S L
  exact lv_aload_n A.1 A.2.1 d (rfl : (k : Nat) = (k : Nat)) (L.2.2 _ _ hl) (kk p e s m args below meth c H locs ls A P Z S L)
theorem ir_dup {a : Value} (d : decode M.1 pc = .ok (.dup, 1)) (eq : pc + 1 = q) (ha : a.category = 1) (kk : ii_V x b M mc ms post q lo (a :: a :: st) ce sl n g) : ii_V x b M mc ms post pc lo (a :: st) ce sl n g := by
  subst eq
  intro p e s m args below meth c H locs ls A P Z S L
  exact lv_dup A.1 A.2.1 d ha (kk p e s m args below meth c H locs ls A P Z S L)
theorem ir_vret (d : decode M.1 pc = .ok (.return_, 1)) (hr : M.2.2.2.1 = none) (hp : post n g) : ii_V x b M ce sl post pc lo [] ce sl n g := by
  intro p e s m args below meth c H locs ls A P Z S L
  have hlocks : meth.locks = false := A.2.2.2.2.2.2.2.2.1
  exact W.vret A.1 A.2.1 (A.2.2.2.2.2.2.2.1.trans hr) (fun t ht _ => ⟨⟨n, g, rfl, hp, by rw [ht]; exact P, by rw [ht]; exact Z⟩, S.F ht⟩) S.2.2 d
/-- Object.<init> -/
theorem ir_obj {a idx : Nat} (hw : Cond.methodLink M.2.2.1 idx Lib.objectInit ∈ vv_Tg) (h1 : Cond.instanceMethod Lib.objectInit ∈ vv_Tg) (h2 : Cond.code Lib.objectInit ⟨#[0xb1]⟩ 1 none ∈ vv_Tg) (hR : 1 ≤ M.2.2.2.2.frames ∧ (st.map fun v => v.category).sum + 12 ≤ M.2.2.2.2.locals) (d : decode M.1 pc = .ok (.invokespecial idx, 3)) (eq : pc + 3 = q) (kk : ii_V x b M mc ms post q lo st ce sl n g) : ii_V x b M mc ms post pc lo (.ref a :: st) ce sl n g := by
  subst eq
  intro p e s m args below meth c H locs ls A P Z S L
  have hts := A.2.2.2.2.1
  exact W.objInit A.1 A.2.1 A.2.2.2.1 (hts _ hw) (hts _ h1) (hts _ h2) rfl (L.1.trans A.2.2.1.symm) rfl d hR.1 (by show 2 * 0 + _ + 12 ≤ _; omega) (kk p e s m args below meth c H locs ls A P Z S L)
/-- a new row of ints, longs, bytes, booleans: kind t -/
def ii_z (t N : Nat) : vp_A := (N, match t with | 1 => .inr (.inl fun _ => 0) | _ => .inl fun _ => 0)
def ii_arr (x : vv_E) (t : Nat) (N : Nat) : va_E := .inl (x.2.2.1 t, ii_z t N)
theorem ir_newa {at0 : ArrayType} {ty : FieldType} (t : Nat) {k : Int32} {N : Nat} (hty : newarray.typeOf at0 = ty) (ht : (vv_tys x)[t]? = some (x.2.2.1 t, ty)) (hcell : ∀ cA : ClassId, vp_cell cA (ii_z t N) = arrV cA N (fun _ => defaultValue ty)) (hra : ∀ (U : State) (cA : ClassId), va_RA U cA ty → U.vm.findClass ("[" ++ ty.toString) = some cA)
    (hw : Cond.arrayClass ty ∈ vv_Tg) (hk : ¬ k < 0) (hN : k.toNatClampNeg = N) (hbytes : N * componentBytes ty ≤ 536870912) (hR : ce + 1 ≤ M.2.2.2.2.cells ∧ sl + N ≤ M.2.2.2.2.slots) (d : decode M.1 pc = .ok (.newarray at0, 2)) (eq : pc + 2 = q)
    (kk : ii_V x b M mc ms post q lo (.ref (b + n) :: st) (ce + 1) (sl + N) (n + 1) (ii_up g n (ii_arr x t N))) : ii_V x b M mc ms post pc lo (.int k :: st) ce sl n g := by
  subst eq
  subst hty
  intro p e s m args below meth c H locs ls A P Z S L
  have hts := A.2.2.2.2.1
  refine va_newaK A.1 A.2.1 (hts _ hw) rfl d rfl hk hN hbytes hR.1 hR.2 Z fun H1 cA e1 z1 o1 _ hNm => ?_
  have hcA : cA = x.2.2.1 t := Option.some.inj (hNm.symm.trans (hra _ _ ((A.2.2.2.2.2.1).2 t _ ht).2))
  subst hcA
  refine kk p e s m args below meth c H1 locs ls A ?_ (by rw [z1]; omega) ⟨Nat.le_trans S.1 (by omega), fun y h1 h2 => (o1 y (by have := S.1; omega)).trans (S.2.1 y h1 h2), S.2.2⟩ L
  rw [← ii_push]
  refine (P.kept (fun k' y hy => o1 y.1 (by obtain ⟨hl, rfl⟩ := ii_at hy; show b + k' < b + n; omega))).app (fun k' y hy => ?_)
  have hz : k' < 1 := (List.getElem?_eq_some_iff.mp hy).1
  rw [show k' = 0 by omega] at hy
  cases hy
  exact e1.trans (congrArg some (hcell _).symm)
/-- a reference into a field of the object at cell k, whose class is its own: final or not -/
theorem ir_putr {k ci j N idx a : Nat} {C : String} {Tf : u_T} {fs : List Value} (ty0 : Nat → FieldType) (hk : k < n) (he : g k = .inr (ci, fs)) (hc : vwCl[ci]? = some (C, Tf, N)) (hj : j < N) (hin : ∀ w ∈ u_ws C Tf N, w ∈ vv_Tg) (hty : ∀ k, k < N → parseFieldDescriptor (Tf k).2.2.1 = some (ty0 k)) (hnm : ∀ a, a < N → ∀ b, b < N → a ≠ b → (Tf a).2.1 ≠ (Tf b).2.1) (hw : Cond.fieldLink M.2.2.1 idx (Tf j).1 (Tf j).2.1 (Tf j).2.2.1 ∈ vv_Tg) (hdecl : (Tf j).1 = M.2.2.1) {ty : FieldType} (hd : parseFieldDescriptor (Tf j).2.2.1 = some ty) (hn : narrow ty (.ref a) = .ref a) (hfit : fits ty (.ref a) = true) (hl : j < fs.length)
    (d : decode M.1 pc = .ok (.putfield idx, 3)) (eq : pc + 3 = q) (kk : ii_V x b M mc ms post q lo st ce sl n (ii_up g k (.inr (ci, fs.set j (.ref a))))) (hj7 : M.2.2.1 ≠ RJ7 := by decide +kernel) : ii_V x b M mc ms post pc lo (.ref a :: .ref (b + k) :: st) ce sl n g := by
  subst eq
  intro p e s m args below meth c H locs ls A P Z S L
  have hts := A.2.2.2.2.1
  have hK : va_K x.2.1 vwCl (vv_tys x) s := A.2.2.2.2.2.1
  have hg0 : (ii_w b n g)[k]? = some (b + k, .inr (ci, fs)) := by rw [ii_get hk, he]
  have hap := va_apart (own := M.2.2.1) hts hin ty0 hty hnm hK hc
  obtain ⟨r, r1, cell, q1, q2, q3, q4⟩ := P k _ hg0
  obtain rfl : r = (C, Tf, N) := Option.some.inj (r1.symm.trans hc)
  obtain ⟨hSl, hfc, kC, hkC, hkind⟩ := hK.1 ci _ hc
  obtain ⟨cf, kf, fi, f, hi, hsl⟩ := hSl j hj
  have hst := (u_facts hfc hkC (u_lays hts hin hj) hi).1
  have hlay := hts _ (hin _ (u_in_lay hj))
  have done : ∀ H1 : Heap, H1[b + k]? = some (cell.setSlot f.slot (.ref a)) → H1.size = H.size → (∀ y, y ≠ b + k → H1[y]? = H[y]?) → W p x.1 e M.2.2.2.2 s m args below meth c H1 (locs ++ [⟨b + k, f.slot⟩]) ce sl (MQ below (ii_Q x b post) args s mc ms (ii_B b)) (F0 m (pc + 3) ls st) := by
    intro H1 e1 e2 e3
    rw [hsl] at e1
    refine kk p e s m args below meth c H1 _ ls A ?_ (e2.trans Z) (S.put e2 e3 (Nat.le_add_right b k)) L
    rw [← ii_set hk]
    exact P.set ii_D hg0 ⟨_, hc, t_OB.to (V := updV (vp_V fs) j (.ref a)) ⟨_, e1, q2, q3, t_set q4 hap hj (.ref a)⟩ (fun i _ => vp_updV_set hl (.ref a) i)⟩ e3
  cases hfin : (Tf j).2.2.2 with
  | false =>
    unfold u_lay at hlay
    rw [if_neg (by rw [hfin]; decide)] at hlay
    exact W.putK A.1 A.2.1 (f := f) ⟨A.2.2.2.1, hts _ hw, ⟨_, _, _, hi⟩, hst⟩ (by rw [q2]; exact u_store hfc hkC hkind hlay hi hd hn hfit) q1 q3 (by rw [hsl]; exact k2_hasslot (q4 j hj)) rfl rfl d done
  | true =>
    unfold u_lay at hlay
    rw [if_pos hfin] at hlay
    have hcf : m.cls = cf := by
      obtain ⟨_, _, c', _, _, _, -, -, hf', -, -, -, hown2, -⟩ := Cond.laysFinal_spec hlay
      have e1 : c' = cf := by have := hi.symm.trans hf'; simp at this; exact this.1.symm
      rw [hdecl] at hown2
      rw [← e1]; exact Option.some.inj (A.2.2.2.1.symm.trans hown2)
    exact W.putFinK A.1 A.2.1 A.2.2.2.1 (hts _ hw) hi hst hcf (A.2.2.2.2.2.2.2.2.2.1.resolve_right hj7) (by rw [q2]; exact u_fits hfc hkC hkind (Or.inr hlay) hi hd hn hfit) q1 q3 (by rw [hsl]; exact k2_hasslot (q4 j hj)) rfl rfl d done
theorem ir_iast {k N : Nat} {f : Nat → Int32} {i v : Int32} (hk : k < n) (he : g k = .inl (x.2.2.1 0, N, .inl f)) (hi : vp_in i N) (d : decode M.1 pc = .ok (.iastore, 1)) (eq : pc + 1 = q) (kk : ii_V x b M mc ms post q lo st ce sl n (ii_up g k (.inl (x.2.2.1 0, N, .inl (upd f i.toNatClampNeg v))))) : ii_V x b M mc ms post pc lo (.int v :: .int i :: .ref (b + k) :: st) ce sl n g := by
  subst eq
  intro p e s m args below meth c H locs ls A P Z S L
  have hK : va_K x.2.1 vwCl (vv_tys x) s := A.2.2.2.2.2.1
  have hg0 : (ii_w b n g)[k]? = some (b + k, .inl (x.2.2.1 0, N, .inl f)) := by rw [ii_get hk, he]
  have hin : ¬ (i < 0 ∨ (arrV (x.2.2.1 0) N (fun j => .int (f j))).slots.size ≤ i.toNatClampNeg) := by rw [arrV_size]; exact hi
  refine W.iast A.1 A.2.1 (P k _ hg0) ((hK.2 0 _ rfl).1 N (fun j => .int (f j))) (fun y => by cases y) hin rfl rfl d fun H1 e1 z oq => ?_
  refine kk p e s m args below meth c H1 _ ls A ?_ (z.trans Z) (S.put z oq (Nat.le_add_right b k)) L
  rw [← ii_set hk]
  refine P.set ii_D hg0 ?_ oq
  show H1[b + k]? = some (vp_cell _ _)
  rw [e1, vp_cell_i, vp_cell_i, arrV_store]
  congr 2
  funext y
  by_cases hy : y = i.toNatClampNeg
  · subst hy
    simp [updV, upd]
  · simp [updV, upd, hy]
/-- a new object, its fields at rest -/
theorem ir_new {ci N idx : Nat} {C : String} {Tf : u_T} {fs : List Value} (ty0 : Nat → FieldType) (hc : vwCl[ci]? = some (C, Tf, N)) (hin : ∀ w ∈ u_ws C Tf N, w ∈ vv_Tg) (hty : ∀ k, k < N → parseFieldDescriptor (Tf k).2.2.1 = some (ty0 k)) (hfs : ∀ j, j < N → defaultValue (ty0 j) = vp_V fs j) (hw : Cond.classLink M.2.2.1 idx C ∈ vv_Tg) (h1 : Cond.instantiable C N ∈ vv_Tg) (h2 : Cond.initialized C ∈ vv_Tg) (hR : ce + 1 ≤ M.2.2.2.2.cells ∧ sl + N ≤ M.2.2.2.2.slots) (d : decode M.1 pc = .ok (.new idx, 3)) (eq : pc + 3 = q)
    (kk : ii_V x b M mc ms post q lo (.ref (b + n) :: st) (ce + 1) (sl + N) (n + 1) (ii_up g n (.inr (ci, fs)))) : ii_V x b M mc ms post pc lo st ce sl n g := by
  subst eq
  intro p e s m args below meth c H locs ls A P Z S L
  have hts := A.2.2.2.2.1
  have hKn := A.2.2.2.2.2.1.1 ci _ hc
  refine W.newcK A.1 A.2.1 A.2.2.2.1 (hts _ hw) (hts _ h1) (hts _ h2) rfl d hR.1 hR.2 hKn.2.1 Z fun H1 kC hkC e1 z1 o1 => ?_
  refine kk p e s m args below meth c H1 locs ls A ?_ (by rw [z1]; omega) ⟨Nat.le_trans S.1 (by omega), fun y h1 h2 => (o1 y (by have := S.1; omega)).trans (S.2.1 y h1 h2), S.2.2⟩ L
  rw [← ii_push]
  refine (P.kept (fun k' y hy => o1 y.1 (by obtain ⟨hl, rfl⟩ := ii_at hy; show b + k' < b + n; omega))).app (fun k' y hy => ?_)
  have hz : k' < 1 := (List.getElem?_eq_some_iff.mp hy).1
  rw [show k' = 0 by omega] at hy
  cases hy
  exact ⟨_, hc, (u_born ty0 hts hin hKn hkC e1 hty).to hfs⟩
/-- a constructor's contract: from n cells with g to post, making mc cells and ms slots -/
def ii_C (x : vv_E) (b : Nat) (y : MethodName) (M : vv_M) (mc ms : Nat) (av : List Value) (n : Nat) (g : ii_G) (post : Nat → ii_G → Prop) : Prop :=
  Met x.1 y (Cond.code y M.1 M.2.1 M.2.2.2.1 :: vv_Tg) M.2.2.2.2 (va_Pc av (fun U => va_P x.2.1 vwCl (ii_w b n g) U.heap ∧ U.heap.size = b + n ∧ vv_K x U ∧ ii_W U)) (ii_Q x b post) mc ms (ii_B b)
theorem ii_entry {y : MethodName} {av : List Value} (hy : plainName y.cls = true) (hn : y.name = "<init>") (ho : y.cls = M.2.2.1) (ha : (lg_sl av).length ≤ M.2.1) (hlo : vv_pos M.2.1 (lv_args 0 av) = lo) (hV : ii_V x b M mc ms post 0 lo [] 0 0 n g) : ii_C x b y M mc ms av n g post := by
  refine Met.ofW (cc := M.1) (maxL := M.2.1) (ret := M.2.2.2.1) hy rfl ?_
  intro p e s m args below meth c s₁ B hml hv
  obtain ⟨rfl, hP, hZ, hK, hO⟩ := hv
  have hts := atoms_spec (ws := Cond.code y M.1 M.2.1 M.2.2.2.1 :: vv_Tg) B.pre
  rw [lg_entry_eq]
  exact hV p e s m _ below meth c s.heap [] _ ⟨B.exec, B.bytes, hml, by rw [← ho]; exact findClass_of_methodNamed B.named, fun w hw => hts w (List.mem_cons_of_mem _ hw), hK, by rw [hZ]; exact Nat.le_add_right b n, B.returns, B.notSynchronized, Or.inl ((name_of_methodNamed B.named B.method).1.trans hn), hO⟩ hP hZ va_S.rf (hlo ▸ vv_L_pos (lv_entry av ha))
theorem ii_entryF {y : MethodName} {av : List Value} (hy : plainName y.cls = true) (hn : M.2.2.1 = RJ7) (ho : y.cls = M.2.2.1) (ha : (lg_sl av).length ≤ M.2.1) (hlo : vv_pos M.2.1 (lv_args 0 av) = lo) (hV : ii_V x b M mc ms post 0 lo [] 0 0 n g) : ii_C x b y M mc ms av n g post := by
  refine Met.ofW (cc := M.1) (maxL := M.2.1) (ret := M.2.2.2.1) hy rfl ?_
  intro p e s m args below meth c s₁ B hml hv
  obtain ⟨rfl, hP, hZ, hK, hO⟩ := hv
  have hts := atoms_spec (ws := Cond.code y M.1 M.2.1 M.2.2.2.1 :: vv_Tg) B.pre
  rw [lg_entry_eq]
  exact hV p e s m _ below meth c s.heap [] _ ⟨B.exec, B.bytes, hml, by rw [← ho]; exact findClass_of_methodNamed B.named, fun w hw => hts w (List.mem_cons_of_mem _ hw), hK, by rw [hZ]; exact Nat.le_add_right b n, B.returns, B.notSynchronized, Or.inr hn, hO⟩ hP hZ va_S.rf (hlo ▸ vv_L_pos (lv_entry av ha))
theorem ii_blind {av : List Value} : FrameBlind (va_Pc av (fun U => va_P x.2.1 vwCl (ii_w b n g) U.heap ∧ U.heap.size = b + n ∧ vv_K x U ∧ ii_W U)) := by
  intro a U f mk hq
  obtain ⟨h1, h2, h3, h4, h5⟩ := hq
  exact ⟨h1, h2, h3, va_K.moved (u := U) (U := U.calling f mk a) (Vm.Alike.refl U.vm) h4, ⟨va_AOA.moved (u := U) (U := U.calling f mk a) (Vm.Alike.refl U.vm) h5.1, fun q hq => va_Nw.same (u := U) (U := U.calling f mk a) rfl rfl (h5.2 q hq)⟩⟩
/-- invokespecial of a constructor of ours -/
theorem ir_call {y : MethodName} {M' : vv_M} {mc' ms' a idx : Nat} {post' : Nat → ii_G → Prop} (hc : ii_C x b y M' mc' ms' [.ref a] n g post') (hn : y.name = "<init>") (hy : Cond.code y M'.1 M'.2.1 M'.2.2.2.1 ∈ vv_Tg ∧ Cond.instanceMethod y ∈ vv_Tg ∧ Cond.initialized y.cls ∈ vv_Tg) (hd : y.cls ≠ "java/lang/invoke/MethodHandle" ∧ y.cls ≠ "java/lang/invoke/VarHandle" ∧ (parseMethodDescriptor y.desc).map (fun d => d.parameters.length) = some 0) (hr : M'.2.2.2.1 = none) (hrm : M'.2.2.2.2.cells = mc' ∧ M'.2.2.2.2.slots = ms') (hml : Cond.methodLink M.2.2.1 idx y ∈ vv_Tg)
    (hR : M'.2.2.2.2.frames + 1 ≤ M.2.2.2.2.frames ∧ 8 + (M'.2.1 + 11) + M'.2.2.2.2.locals ≤ M.2.2.2.2.locals) (hf : ce + mc' ≤ M.2.2.2.2.cells ∧ sl + ms' ≤ M.2.2.2.2.slots) (hW : (st.map fun v => v.category).sum ≤ 8) (d : decode M.1 pc = .ok (.invokespecial idx, 3)) (eq : pc + 3 = q) (kk : ∀ (n' : Nat) (g' : ii_G), post' n' g' → ii_V x b M mc ms post q lo st (ce + mc') (sl + ms') n' g') : ii_V x b M mc ms post pc lo (.ref a :: st) ce sl n g := by
  subst eq
  intro p e s m args below meth c H locs ls A P Z S L
  have hts := A.2.2.2.2.1
  have hK : vv_K x s := A.2.2.2.2.2.1
  have cb : CallB M.2.2.2.2 s args M.2.2.1 idx y M'.1 M'.2.1 none (Cond.code y M'.1 M'.2.1 none :: vv_Tg) M'.2.2.2.2 mc' ms' 0 := callB_of _ hts (vv_goodIn (by have := hy.1; rw [hr] at this; exact this)) rfl hrm.1 hrm.2 (hts _ hy.2.2) (hts _ hml) hd hR
  have hm : Met x.1 y (Cond.code y M'.1 M'.2.1 none :: vv_Tg) M'.2.2.2.2 (va_Pc [.ref a] (fun U => va_P x.2.1 vwCl (ii_w b n g) U.heap ∧ U.heap.size = b + n ∧ vv_K x U ∧ ii_W U)) (ii_Q x b post') mc' ms' (ii_B b) := by
    have := hc
    unfold ii_C at this
    rw [hr] at this
    exact this
  have run := va_runI (rest := st) (As := []) ⟨A.1, A.2.1, A.2.2.1, A.2.2.2.1, hts⟩ hm ⟨cb, hn, hts _ hy.2.1⟩ ⟨ii_blind, fun U hU hWm => ⟨rfl, by rw [hU]; exact P, by rw [hU]; exact Z, va_K.moved hWm.alike hK, ii_W.warm hWm A.2.2.2.2.2.2.2.2.2.2⟩⟩ (g := F0 m pc ls (.ref a :: st)) (cells := ce) (slots := sl) (locs := locs) (H := H) (below := below) (meth := meth) (c := c) (e := e) rfl rfl L.1 rfl (lv_room hW) d hf
  intro T1 hT X
  obtain ⟨v, st₀, t, T', L', h0, X', hL, e1, e2, ⟨⟨n1, g1, hv, hp1, hP1, hz1⟩, hz, hkk⟩, stp⟩ := run T1 hT X
  cases hv
  rw [h0] at hz hkk
  obtain ⟨t2, a1, b1⟩ := kk n1 g1 hp1 p e s m args below meth c T'.heap (locs ++ L') ls A (by rw [e1]; exact hP1) (by rw [e1]; exact hz1) ⟨Nat.le_trans S.1 (by rw [e1]; exact hz), fun y h1 h2 => by rw [e1, hkk y (Nat.lt_of_lt_of_le h1 S.1) h2]; exact S.2.1 y h1 h2, fun y hy => (List.mem_append.mp hy).elim (S.2.2 y) (fun z => hL y z)⟩ L T' rfl X'
  exact ⟨t2, stp t2 a1, b1⟩
/-- invokespecial of a private constructor of a nest mate -/
theorem ir_callN {y : MethodName} {M' : vv_M} {mc' ms' a idx : Nat} {post' : Nat → ii_G → Prop} (hc : ii_C x b y M' mc' ms' [.ref a] n g post') (hn : y.name = "<init>") (hy : Cond.code y M'.1 M'.2.1 M'.2.2.2.1 ∈ vv_Tg ∧ Cond.instanceMethod y ∈ vv_Tg ∧ Cond.initialized y.cls ∈ vv_Tg) (hd : y.cls ≠ "java/lang/invoke/MethodHandle" ∧ y.cls ≠ "java/lang/invoke/VarHandle" ∧ (parseMethodDescriptor y.desc).map (fun d => d.parameters.length) = some 0) (hr : M'.2.2.2.1 = none) (hrm : M'.2.2.2.2.cells = mc' ∧ M'.2.2.2.2.slots = ms') (hMo : M.2.2.1 = RX11) (hml : (idx, y) ∈ ii_nst)
    (hR : M'.2.2.2.2.frames + 1 ≤ M.2.2.2.2.frames ∧ 8 + (M'.2.1 + 11) + M'.2.2.2.2.locals ≤ M.2.2.2.2.locals) (hf : ce + mc' ≤ M.2.2.2.2.cells ∧ sl + ms' ≤ M.2.2.2.2.slots) (hW : (st.map fun v => v.category).sum ≤ 8) (d : decode M.1 pc = .ok (.invokespecial idx, 3)) (eq : pc + 3 = q) (kk : ∀ (n' : Nat) (g' : ii_G), post' n' g' → ii_V x b M mc ms post q lo st (ce + mc') (sl + ms') n' g') : ii_V x b M mc ms post pc lo (.ref a :: st) ce sl n g := by
  subst eq
  intro p e s m args below meth c H locs ls A P Z S L
  have hts := A.2.2.2.2.1
  have hK : vv_K x s := A.2.2.2.2.2.1
  have hnl : va_Nw (.methodLinkNest M.2.2.1 idx y RX11) s := by rw [hMo]; exact A.2.2.2.2.2.2.2.2.2.2.2 _ hml
  have cb : va_CN M.2.2.2.2 s args M.2.2.1 idx y RX11 M'.1 M'.2.1 none (Cond.code y M'.1 M'.2.1 none :: vv_Tg) M'.2.2.2.2 mc' ms' 0 := va_cnB _ hts (vv_goodIn (by have := hy.1; rw [hr] at this; exact this)) rfl hrm.1 hrm.2 hnl (hts _ hy.2.2) hd hR
  have hm : Met x.1 y (Cond.code y M'.1 M'.2.1 none :: vv_Tg) M'.2.2.2.2 (va_Pc [.ref a] (fun U => va_P x.2.1 vwCl (ii_w b n g) U.heap ∧ U.heap.size = b + n ∧ vv_K x U ∧ ii_W U)) (ii_Q x b post') mc' ms' (ii_B b) := by
    have := hc
    unfold ii_C at this
    rw [hr] at this
    exact this
  have run := va_runIN (rest := st) (As := []) ⟨A.1, A.2.1, A.2.2.1, A.2.2.2.1, hts⟩ hm ⟨cb, hn, hts _ hy.2.1⟩ ⟨ii_blind, fun U hU hWm => ⟨rfl, by rw [hU]; exact P, by rw [hU]; exact Z, va_K.moved hWm.alike hK, ii_W.warm hWm A.2.2.2.2.2.2.2.2.2.2⟩⟩ (g := F0 m pc ls (.ref a :: st)) (cells := ce) (slots := sl) (locs := locs) (H := H) (below := below) (meth := meth) (c := c) (e := e) rfl rfl L.1 rfl (lv_room hW) d hf
  intro T1 hT X
  obtain ⟨v, st₀, t, T', L', h0, X', hL, e1, e2, ⟨⟨n1, g1, hv, hp1, hP1, hz1⟩, hz, hkk⟩, stp⟩ := run T1 hT X
  cases hv
  rw [h0] at hz hkk
  obtain ⟨t2, a1, b1⟩ := kk n1 g1 hp1 p e s m args below meth c T'.heap (locs ++ L') ls A (by rw [e1]; exact hP1) (by rw [e1]; exact hz1) ⟨Nat.le_trans S.1 (by rw [e1]; exact hz), fun y h1 h2 => by rw [e1, hkk y (Nat.lt_of_lt_of_le h1 S.1) h2]; exact S.2.1 y h1 h2, fun y hy => (List.mem_append.mp hy).elim (S.2.2 y) (fun z => hL y z)⟩ L T' rfl X'
  exact ⟨t2, stp t2 a1, b1⟩
/-- a new int[N][K] -/
def ii_rows (x : vv_E) (b n N K : Nat) (g : ii_G) : ii_G := fun a => if a = n then .inl (x.2.2.1 4, N, .inr (.inr (.inr (.inr (fun i => if i < N then some (b + n + 1 + i) else none))))) else if n < a ∧ a < n + 1 + N then ii_arr x 0 K else g a
theorem ir_mna {kn km : Int32} {N K idx : Nat} (hw : Cond.classLink M.2.2.1 idx ("[" ++ (FieldType.array .int).toString) ∈ vv_Tg) (har : Cond.arrayClass .int ∈ vv_Tg) (hn : ¬ kn < 0) (hk : ¬ km < 0) (hN : kn.toNatClampNeg = N) (hM : km.toNatClampNeg = K) (hb1 : N * 4 ≤ 536870912) (hb2 : K * componentBytes .int ≤ 536870912) (hb3 : K ≤ 536870912) (hR : ce + (1 + N) ≤ M.2.2.2.2.cells ∧ sl + (N + N * K) ≤ M.2.2.2.2.slots) (d : decode M.1 pc = .ok (.multianewarray idx 2, 4)) (eq : pc + 4 = q)
    (kk : ii_V x b M mc ms post q lo (.ref (b + n) :: st) (ce + 1 + N) (sl + N + N * K) (n + 1 + N) (ii_rows x b n N K g)) : ii_V x b M mc ms post pc lo (.int km :: .int kn :: st) ce sl n g := by
  subst eq
  subst hN
  subst hM
  intro p e s m args below meth c H locs ls A P Z S L T hT Xs
  have hts := A.2.2.2.2.1
  have hK : va_K x.2.1 vwCl (vv_tys x) s := A.2.2.2.2.2.1
  obtain ⟨vm₁, cA, comp, -, fA, fC, hO, -, X', step⟩ := Xs.multianewarray2F A.1 A.2.2.2.1 (hts _ hw) (va_AOA.use A.2.2.2.2.2.2.2.2.2.2.1) (hts _ har) (g := F0 m pc ls (.int km :: .int kn :: st)) rfl (by rw [A.2.1]; exact d) rfl hn hk hb1 hb2 hb3 rfl rfl hR.1 hR.2
  have hc0 : s.vm.findClass ("[" ++ (FieldType.int).toString) = some (x.2.2.1 0) := (hK.2 0 _ rfl).2
  have hc4 : s.vm.findClass ("[" ++ (FieldType.array .int).toString) = some (x.2.2.1 4) := (hK.2 4 _ rfl).2
  have ec : comp = x.2.2.1 0 := Option.some.inj (fC.symm.trans hc0)
  have eA : cA = x.2.2.1 4 := Option.some.inj (fA.symm.trans hc4)
  subst ec
  subst eA
  generalize hF : Jvm.Free.Multi.fill (T.setVm vm₁) (x.2.2.1 4) (x.2.2.1 0) kn.toNatClampNeg km.toNatClampNeg (defaultValue .int) kn.toNatClampNeg = F at X' step
  have hTh : (T.setVm vm₁).heap = H := hT
  obtain ⟨f1, f2, -, -⟩ := Jvm.Free.Multi.fill_facts (T.setVm vm₁) (x.2.2.1 4) (x.2.2.1 0) kn.toNatClampNeg km.toNatClampNeg (defaultValue .int) kn.toNatClampNeg
  rw [hF, hTh] at f1 f2
  have hold : ∀ a : Nat, a < H.size → F.heap[a]? = H[a]? := fun a ha => by
    have := Jvm.Free.Multi.fill_old (T.setVm vm₁) (x.2.2.1 4) (x.2.2.1 0) kn.toNatClampNeg km.toNatClampNeg (defaultValue .int) (a := a) (by rw [hTh]; exact ha) kn.toNatClampNeg
    rw [hF, hTh] at this
    exact this
  have hrow : ∀ j : Nat, j < kn.toNatClampNeg → F.heap[H.size + 1 + j]? = some (Jvm.Free.Multi.innerC (x.2.2.1 0) km.toNatClampNeg (defaultValue .int)) := fun j hj => by
    have := Jvm.Free.Multi.fill_inner (T.setVm vm₁) (x.2.2.1 4) (x.2.2.1 0) kn.toNatClampNeg km.toNatClampNeg (defaultValue .int) kn.toNatClampNeg j hj
    rw [hF, hTh] at this
    exact this
  rw [Z] at f1 f2 hrow
  have hP1 : va_P x.2.1 vwCl (ii_w b (n + 1 + kn.toNatClampNeg) (ii_rows x b n kn.toNatClampNeg km.toNatClampNeg g)) F.heap := by
    intro k y hy
    obtain ⟨hl, rfl⟩ := ii_at hy
    by_cases h1 : k = n
    · subst h1
      have e1 : ii_rows x b k kn.toNatClampNeg km.toNatClampNeg g k = .inl (x.2.2.1 4, kn.toNatClampNeg, .inr (.inr (.inr (.inr (fun i => if i < kn.toNatClampNeg then some (b + k + 1 + i) else none))))) := if_pos rfl
      rw [e1]
      refine f2.trans (congrArg some ?_)
      rw [vp_cell_q]
      exact vr_outer (x.2.2.1 4) kn.toNatClampNeg (b + k) kn.toNatClampNeg
    · by_cases h2 : k < n
      · have e1 : ii_rows x b n kn.toNatClampNeg km.toNatClampNeg g k = g k := by
          unfold ii_rows
          rw [if_neg h1, if_neg (by omega)]
        rw [e1]
        exact (P k _ (ii_get h2)).kept (hold _ (by show b + k < H.size; omega))
      · have e1 : ii_rows x b n kn.toNatClampNeg km.toNatClampNeg g k = ii_arr x 0 km.toNatClampNeg := by
          unfold ii_rows
          rw [if_neg h1, if_pos (by omega)]
        rw [e1]
        have e2 := hrow (k - n - 1) (by omega)
        rw [show b + n + 1 + (k - n - 1) = b + k by omega] at e2
        refine e2.trans (congrArg some ?_)
        exact (arrV_new (x.2.2.1 0) km.toNatClampNeg (defaultValue .int)).trans (vp_cell_i (x.2.2.1 0) km.toNatClampNeg (fun _ => 0)).symm
  obtain ⟨t, a1, b1⟩ := kk p e s m args below meth c F.heap locs ls A hP1 (by rw [f1]; omega) ⟨by rw [f1]; have := S.1; omega, fun y h1 h2 => (hold y (Nat.lt_of_lt_of_le h1 S.1)).trans (S.2.1 y h1 h2), S.2.2⟩ L F rfl X'
  refine ⟨t, step t ?_, b1⟩
  have e1 : T.heap.size = b + n := by rw [hT, Z]
  rw [e1]
  exact a1
theorem ii_up_eq {k : Nat} {e : va_E} : ii_up g k e k = e := if_pos rfl
theorem ii_up_ne {k a : Nat} {e : va_E} (h : a ≠ k) : ii_up g k e a = g a := if_neg h
end IV
/-! the words a constructor needs -/
theorem iw_0 : Cond.instanceMethod Lib.objectInit ∈ vv_Tg := by decide +kernel
theorem iw_1 : Cond.code Lib.objectInit ⟨#[0xb1]⟩ 1 none ∈ vv_Tg := by decide +kernel
theorem iw_2 : Cond.arrayClass .int ∈ vv_Tg := by decide +kernel
theorem iw_3 : Cond.arrayClass .long ∈ vv_Tg := by decide +kernel
theorem iw_4 : Cond.arrayClass .byte ∈ vv_Tg := by decide +kernel
theorem iw_5 : Cond.arrayClass .boolean ∈ vv_Tg := by decide +kernel
theorem iw_7 : Cond.methodLink RX1 3 Lib.objectInit ∈ vv_Tg := by decide +kernel
theorem iw_8 : Cond.classLink RX0 9 ("[" ++ (FieldType.array .int).toString) ∈ vv_Tg := by decide +kernel
theorem iw_9 : Cond.instantiable RX1 5 ∈ vv_Tg := by decide +kernel
theorem iw_10 : Cond.classLink RX11 68 RX1 ∈ vv_Tg := by decide +kernel
