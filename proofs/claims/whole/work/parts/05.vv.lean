def vv_rid (b : Bool) : Nat := cond b 101 56
def vv_slen : List Nat := [4, 5, 4, 5, 2, 3, 4, 4, 7]
def vv_sbyt : List (List Int32) := [[102,114,111,109],[105,115,115,117,101],[108,105,102,101],[112,114,105,99,101],[105,102],[97,110,100],[114,97,110,107],[100,117,116,121],[99,108,105,109,97,116,101]]
def vv_sidx : List Nat := [57, 63, 65, 67, 69, 71, 73, 75, 77]
def vv_nix : Nat := 73
def vv_stxt : List String := ["from", "issue", "life", "price", "if", "and", "rank", "duty", "climate"]
/-! the pure heap: ints by cell and place, longs, and which of the two rules rows a field holds -/
abbrev vv_H : Type := (Nat → Nat → Int32) × (Nat → Nat → Int64) × (Nat → Bool)
/-- a cell's kind (0 an object, 1 int[], 2 long[], 3 byte[], 4 boolean[], 5 int[][]), its class or length, its fields -/
abbrev vv_Y : Type := Nat × Nat × List (Nat × Nat)
abbrev vv_T : Type := (Nat → vv_Y) × Nat
/-- launch, classes, array classes, addresses, the text constants' addresses -/
abbrev vv_E : Type := Launch × va_G × (Nat → ClassId) × (Nat → Nat) × (Nat → Nat) × (Nat → Nat)
/-- code, locals, own class, what it returns, room -/
abbrev vv_M : Type := ByteArray × Nat × String × Option FieldType × Room
def vv_ad (x : vv_E) (k : Nat) : Nat := x.2.2.2.1 k
def vv_iu (h : vv_H) (k j : Nat) (v : Int32) : vv_H := (fun a => if a = k then upd (h.1 k) j v else h.1 a, h.2)
def vv_lu (h : vv_H) (k j : Nat) (v : Int64) : vv_H := (h.1, fun a => if a = k then vp_updL (h.2.1 k) j v else h.2.1 a, h.2.2)
def vv_bu (h : vv_H) (i : Nat) (b : Bool) : vv_H := (h.1, h.2.1, fun j => if j = i then b else h.2.2 j)
def vv_fv (x : vv_E) (h : vv_H) (k j : Nat) (d : Nat × Nat) : Value := match d.1 with
  | 0 => .int (h.1 k j)
  | 1 => .ref (vv_ad x d.2)
  | 2 => .ref (vv_ad x (vv_rid (h.2.2 d.2)))
  | _ => .long (h.2.1 k j)
def vv_fs (x : vv_E) (h : vv_H) (k : Nat) (fs : List (Nat × Nat)) : List Value := fs.mapIdx (fun j d => vv_fv x h k j d)
def vv_row (x : vv_E) (fs : List (Nat × Nat)) : Nat → Option Nat := fun i => some (vv_ad x ((fs.getD 0 (0, 0)).1 + i))
def vv_c (x : vv_E) (T : vv_T) (h : vv_H) (k : Nat) : va_E := match (T.1 k).1 with
  | 0 => .inr ((T.1 k).2.1, vv_fs x h k (T.1 k).2.2)
  | 1 => .inl (x.2.2.1 0, (T.1 k).2.1, .inl (h.1 k))
  | 2 => .inl (x.2.2.1 1, (T.1 k).2.1, .inr (.inl (h.2.1 k)))
  | 3 => .inl (x.2.2.1 2, (T.1 k).2.1, .inl (h.1 k))
  | 4 => .inl (x.2.2.1 3, (T.1 k).2.1, .inl (h.1 k))
  | _ => .inl (x.2.2.1 4, (T.1 k).2.1, .inr (.inr (.inr (.inr (vv_row x (T.1 k).2.2)))))
def vv_w (x : vv_E) (T : vv_T) (h : vv_H) : va_W := (List.range T.2).map (fun k => (vv_ad x k, vv_c x T h k))
theorem vv_w_get {x : vv_E} {T : vv_T} {h : vv_H} {k : Nat} (hk : k < T.2) : (vv_w x T h)[k]? = some (vv_ad x k, vv_c x T h k) := by simp [vv_w, hk]
theorem vv_w_set {x : vv_E} {T : vv_T} {h h' : vv_H} {k : Nat} (hk : k < T.2) {e : va_E} (he : vv_c x T h' k = e) (ho : ∀ j, j ≠ k → vv_c x T h' j = vv_c x T h j) : (vv_w x T h).set k (vv_ad x k, e) = vv_w x T h' := by
  apply List.ext_getElem?
  intro j
  rw [List.getElem?_set]
  by_cases hj : k = j
  · subst hj
    simp [vv_w, hk, he]
  · rw [if_neg hj]
    by_cases hl : j < T.2
    · rw [vv_w_get hl, vv_w_get hl, ho j (fun q => hj q.symm)]
    · rw [List.getElem?_eq_none (by simp [vv_w]; omega), List.getElem?_eq_none (by simp [vv_w]; omega)]
theorem vv_c_iu {x : vv_E} {T : vv_T} {h : vv_H} {k i : Nat} {v : Int32} (j : Nat) (hj : j ≠ k) : vv_c x T (vv_iu h k i v) j = vv_c x T h j := by
  have e1 : (vv_iu h k i v).1 j = h.1 j := if_neg hj
  simp only [vv_c, vv_fs, vv_fv, e1]
  rfl
theorem vv_c_lu {x : vv_E} {T : vv_T} {h : vv_H} {k i : Nat} {v : Int64} (j : Nat) (hj : j ≠ k) : vv_c x T (vv_lu h k i v) j = vv_c x T h j := by
  have e1 : (vv_lu h k i v).2.1 j = h.2.1 j := if_neg hj
  simp only [vv_c, vv_fs, vv_fv, e1]
  rfl
theorem vv_fs_get {x : vv_E} {h : vv_H} {k j : Nat} {fs : List (Nat × Nat)} {d : Nat × Nat} (hf : fs[j]? = some d) : (vv_fs x h k fs)[j]? = some (vv_fv x h k j d) := by
  rw [vv_fs, List.getElem?_mapIdx, hf]
  rfl
theorem vv_fs_set {x : vv_E} {h h' : vv_H} {k j : Nat} {fs : List (Nat × Nat)} {d : Nat × Nat} (hf : fs[j]? = some d) {v : Value} (hv : vv_fv x h' k j d = v) (ho : ∀ i e, i ≠ j → fs[i]? = some e → vv_fv x h' k i e = vv_fv x h k i e) : (vv_fs x h k fs).set j v = vv_fs x h' k fs := by
  apply List.ext_getElem?
  intro i
  rw [List.getElem?_set]
  by_cases hi : j = i
  · subst hi
    have hl : j < fs.length := (List.getElem?_eq_some_iff.mp hf).1
    rw [if_pos rfl, if_pos (by simp [vv_fs, hl]), vv_fs_get hf, hv]
  · rw [if_neg hi]
    cases he : fs[i]? with
    | none =>
      have hl : fs.length ≤ i := List.getElem?_eq_none_iff.mp he
      rw [List.getElem?_eq_none (by simp [vv_fs, hl]), List.getElem?_eq_none (by simp [vv_fs, hl])]
    | some e => rw [vv_fs_get he, vv_fs_get he, ho i e (fun q => hi q.symm) he]
/-! what a method's activation knows -/
def vv_AD (x : vv_E) (N : Nat) : Nat → Prop := fun q => ∃ k, k < N ∧ q = vv_ad x k
def vv_J (x : vv_E) (N : Nat) : Prop := ∀ i j, i < N → j < N → vv_ad x i = vv_ad x j → i = j
def vv_tys (x : vv_E) : List (ClassId × FieldType) := [(x.2.2.1 0, .int), (x.2.2.1 1, .long), (x.2.2.1 2, .byte), (x.2.2.1 3, .boolean), (x.2.2.1 4, .array .int)]
def vv_K (x : vv_E) (U : State) : Prop := va_K x.2.1 vwCl (vv_tys x) U
/-- the nine constants, and the two statics of the JDK that their methods read -/
def vv_Sk (x : vv_E) (N : Nat) (U : State) (H : Heap) : Prop := vk_S 9 vv_slen vv_sbyt x.2.2.2.2.1 x.2.2.2.2.2 (vv_AD x N) U H ∧ va_Z "java/lang/String" "COMPACT_STRINGS" "Z" (.int 1) (vv_AD x N) U H ∧ ∃ v : Value, v.isRef = true ∧ va_Z "jdk/internal/util/Preconditions" "SIOOBE_FORMATTER" "Ljava/util/function/BiFunction;" v (vv_AD x N) U H
theorem vv_Sk.moved {x : vv_E} {N : Nat} {u U : State} {H : Heap} (hvm : u.vm.Alike U.vm) (h : vv_Sk x N u H) : vv_Sk x N U H := ⟨vk_S.moved hvm h.1, va_Z.moved hvm h.2.1, h.2.2.elim fun a ha => ⟨a, ha.1, va_Z.moved hvm ha.2⟩⟩
theorem vv_Sk.kept {x : vv_E} {N : Nat} {U : State} {H H1 : Heap} (h : vv_Sk x N U H) (hq : ∀ a : Nat, a < H.size → ¬ vv_AD x N a → H1[a]? = H[a]?) : vv_Sk x N U H1 := ⟨h.1.kept hq, h.2.1.kept hq, h.2.2.elim fun a ha => ⟨a, ha.1, ha.2.kept hq⟩⟩
def vv_Z (x : vv_E) (N : Nat) (U : State) (H : Heap) : Prop := vv_Sk x N U H ∧ va_Nw (.methodLinkNest RX4 vv_nix yX11_waysToDraw RX11) U ∧ ∀ i, i < 9 → vk_R RX10 (vv_sidx.getD i 0) (vv_stxt.getD i "") (x.2.2.2.2.1 i) U
def vv_A (x : vv_E) (T : vv_T) (M : vv_M) (p : Program) (s : State) (m : MethodId) (args : Array Value) (meth : Method) (c : Code) : Prop :=
  p.tables.exec = Jvm.exec ∧ c.code = M.1 ∧ c.maxLocals = M.2.1 ∧ s.vm.findClass M.2.2.1 = some m.cls ∧ (∀ w ∈ vv_Tg, w.before args s = true) ∧ vv_K x s ∧ vv_J x T.2 ∧ meth.sig.returnType = M.2.2.2.1 ∧ meth.locks = false ∧ vv_Z x T.2 s s.heap
theorem vv_D {x : vv_E} {T : vv_T} (h : vv_J x T.2) (hh : vv_H) : va_D (vv_AD x T.2) (vv_w x T hh) := by
  have key : ∀ (i : Nat) (q : Nat × va_E), (vv_w x T hh)[i]? = some q → i < T.2 ∧ q.1 = vv_ad x i := by
    intro i q hq
    have hl : i < T.2 := by
      have := (List.getElem?_eq_some_iff.mp hq).1
      simpa [vv_w] using this
    rw [vv_w_get hl] at hq
    cases hq
    exact ⟨hl, rfl⟩
  refine ⟨fun i j p q hp hq e => ?_, fun k q hq => ⟨k, key k q hq⟩⟩
  obtain ⟨h1, e1⟩ := key i p hp
  obtain ⟨h2, e2⟩ := key j q hq
  exact h i j h1 h2 (by rw [← e1, ← e2, e])
/-! the locals by place -/
def vv_L (ls : Array Slot) (nL : Nat) (lo : List (Option Value)) : Prop := ls.size = nL ∧ lv_wf ls ∧ ∀ (i : Nat) (v : Value), lo[i]? = some (some v) → ls[i]? = some (.val v)
def vv_ent (lo : List (Option Value)) : List (Nat × Value) := (List.range lo.length).filterMap (fun i => match lo[i]? with | some (some v) => some (i, v) | _ => none)
theorem vv_ent_in {lo : List (Option Value)} {i : Nat} {v : Value} : (i, v) ∈ vv_ent lo ↔ lo[i]? = some (some v) := by
  unfold vv_ent
  rw [List.mem_filterMap]
  constructor
  · rintro ⟨a, -, ha⟩
    split at ha
    · rename_i w hw
      cases ha
      exact hw
    · cases ha
  · intro hh
    exact ⟨i, List.mem_range.mpr (List.getElem?_eq_some_iff.mp hh).1, by rw [hh]⟩
theorem vv_L_has {ls : Array Slot} {nL : Nat} {lo : List (Option Value)} (h : vv_L ls nL lo) : lv_has ls nL (vv_ent lo) := ⟨h.1, h.2.1, fun q hq => h.2.2 q.1 q.2 (vv_ent_in.mp hq)⟩
/-- no long stands just below -/
def vv_nl (lo : List (Option Value)) : Nat → Bool
  | 0 => true
  | j + 1 => match lo[j]? with
    | some (some w) => w.category == 1
    | _ => true
theorem vv_nl_use {lo : List (Option Value)} {i j : Nat} {w : Value} (h : vv_nl lo i = true) (hw : lo[j]? = some (some w)) (e : j + 1 = i) : w.category = 1 := by
  subst e
  simp only [vv_nl, hw] at h
  simpa using h
theorem vv_L_set {ls : Array Slot} {nL i : Nat} {lo : List (Option Value)} {v : Value} (hz : vv_nl lo i = true) (h : lv_has ls nL ((i, v) :: (vv_ent lo).filter (fun q => !(q.1 == i) && !(q.1 + 1 == i && q.2.category == 2)))) : vv_L ls nL (lo.set i (some v)) := by
  refine ⟨h.1, h.2.1, fun j w hj => ?_⟩
  by_cases e : i = j
  · subst e
    rw [List.getElem?_set] at hj
    simp only [if_true] at hj
    split at hj
    · cases hj
      exact h.2.2 _ List.mem_cons_self
    · cases hj
  · rw [List.getElem?_set_ne e] at hj
    refine h.2.2 (j, w) (List.mem_cons_of_mem _ (List.mem_filter.mpr ⟨vv_ent_in.mpr hj, ?_⟩))
    have e1 : (j == i) = false := by simpa using fun q : j = i => e q.symm
    by_cases e2 : j + 1 = i
    · have := vv_nl_use hz hj e2
      simp [e1, this]
    · simp [e1, e2]
theorem vv_L_setl {ls : Array Slot} {nL i : Nat} {lo : List (Option Value)} {v : Value} (hz : vv_nl lo i = true) (h : lv_has ls nL ((i, v) :: (vv_ent lo).filter (fun q => !(q.1 == i) && (!(q.1 == i + 1) && !(q.1 + 1 == i && q.2.category == 2))))) : vv_L ls nL ((lo.set i (some v)).set (i + 1) none) := by
  refine ⟨h.1, h.2.1, fun j w hj => ?_⟩
  by_cases e3 : i + 1 = j
  · subst e3
    rw [List.getElem?_set] at hj
    simp only [if_true] at hj
    split at hj <;> cases hj
  · rw [List.getElem?_set_ne e3] at hj
    by_cases e : i = j
    · subst e
      rw [List.getElem?_set] at hj
      simp only [if_true] at hj
      split at hj
      · cases hj
        exact h.2.2 _ List.mem_cons_self
      · cases hj
    · rw [List.getElem?_set_ne e] at hj
      refine h.2.2 (j, w) (List.mem_cons_of_mem _ (List.mem_filter.mpr ⟨vv_ent_in.mpr hj, ?_⟩))
      have e1 : (j == i) = false := by simpa using fun q : j = i => e q.symm
      have e4 : (j == i + 1) = false := by simpa using fun q : j = i + 1 => e3 q.symm
      by_cases e2 : j + 1 = i
      · have := vv_nl_use hz hj e2
        simp [e1, e4, this]
      · simp [e1, e4, e2]
def vv_msk (mask : List Bool) (lo : List (Option Value)) : List (Option Value) := List.zipWith (fun b o => cond b o none) mask lo
theorem vv_L_msk {ls : Array Slot} {nL : Nat} {lo : List (Option Value)} (mask : List Bool) (h : vv_L ls nL lo) : vv_L ls nL (vv_msk mask lo) := by
  refine ⟨h.1, h.2.1, fun j w hj => h.2.2 j w ?_⟩
  unfold vv_msk at hj
  rw [List.getElem?_zipWith] at hj
  cases hm : mask[j]? with
  | none => simp [hm] at hj
  | some b =>
    cases ho : lo[j]? with
    | none => simp [hm, ho] at hj
    | some o =>
      cases b
      · simp [hm, ho] at hj
      · simpa [hm, ho] using hj
def vv_pos (n : Nat) (l : List (Nat × Value)) : List (Option Value) := (List.range n).map (fun i => (l.find? (fun q => q.1 == i)).map (fun q => q.2))
theorem vv_L_pos {ls : Array Slot} {nL : Nat} {l : List (Nat × Value)} (h : lv_has ls nL l) : vv_L ls nL (vv_pos nL l) := by
  refine ⟨h.1, h.2.1, fun j w hj => ?_⟩
  unfold vv_pos at hj
  rw [List.getElem?_map] at hj
  cases hr : (List.range nL)[j]? with
  | none => simp [hr] at hj
  | some i =>
    have hi : i = j := by
      have := List.getElem?_eq_some_iff.mp hr
      obtain ⟨h1, h2⟩ := this
      simpa using h2.symm
    subst hi
    simp only [hr, Option.map_some, Option.some.injEq] at hj
    cases hf : l.find? (fun q => q.1 == i) with
    | none => simp [hf] at hj
    | some q =>
      rw [hf] at hj
      have h1 := List.mem_of_find?_eq_some hf
      have h2 := List.find?_some hf
      simp only [beq_iff_eq] at h2
      simp only [Option.map_some, Option.some.injEq] at hj
      have := h.2.2 q h1
      rw [h2, hj] at this
      exact this
def vv_Q (x : vv_E) (T : vv_T) (post : Option Value → vv_H → Prop) : Array Value → State → Outcome → State → Prop := fun _ st oc t => (∃ (v : Option Value) (h : vv_H), oc = .returned v ∧ post v h ∧ va_P x.2.1 vwCl (vv_w x T h) t.heap) ∧ va_F (vv_AD x T.2) st t
/-- the machine, in method M at pc with these locals, stack and pure heap, comes to the method's end with post -/
def vv_V (x : vv_E) (T : vv_T) (M : vv_M) (post : Option Value → vv_H → Prop) (pc : Nat) (lo : List (Option Value)) (st : List Value) (h : vv_H) : Prop :=
  ∀ (p : Program) (e : Env) (s : State) (m : MethodId) (args : Array Value) (below : List Frame) (meth : Method) (c : Code) (H : Heap) (locs : List Loc) (ls : Array Slot), vv_A x T M p s m args meth c → va_P x.2.1 vwCl (vv_w x T h) H → va_S (vv_AD x T.2) s.heap H locs → vv_L ls M.2.1 lo →
    W p x.1 e M.2.2.2.2 s m args below meth c H locs 0 0 (MQ below (vv_Q x T post) args s 0 0 (vv_AD x T.2)) (F0 m pc ls st)
/-- the contract of method y -/
def vv_C (x : vv_E) (T : vv_T) (y : MethodName) (M : vv_M) (av : List Value) (h : vv_H) (post : Option Value → vv_H → Prop) : Prop :=
  Met x.1 y (Cond.code y M.1 M.2.1 M.2.2.2.1 :: vv_Tg) M.2.2.2.2 (va_Pc av (fun U => va_P x.2.1 vwCl (vv_w x T h) U.heap ∧ vv_K x U ∧ vv_J x T.2 ∧ vv_Z x T.2 U U.heap)) (vv_Q x T post) 0 0 (vv_AD x T.2)
theorem vv_entry {x : vv_E} {T : vv_T} {M : vv_M} {y : MethodName} {av : List Value} {h : vv_H} {post : Option Value → vv_H → Prop} {lo : List (Option Value)} (hy : plainName y.cls = true) (ho : y.cls = M.2.2.1) (ha : (lg_sl av).length ≤ M.2.1) (hlo : vv_pos M.2.1 (lv_args 0 av) = lo) (hV : vv_V x T M post 0 lo [] h) : vv_C x T y M av h post := by
  refine Met.ofW (cc := M.1) (maxL := M.2.1) (ret := M.2.2.2.1) hy rfl ?_
  intro p e s m args below meth c s₁ B hml hv
  obtain ⟨rfl, hP, hK, hJ, hZ⟩ := hv
  have hts := atoms_spec (ws := Cond.code y M.1 M.2.1 M.2.2.2.1 :: vv_Tg) B.pre
  rw [lg_entry_eq]
  exact hV p e s m _ below meth c s.heap [] _ ⟨B.exec, B.bytes, hml, by rw [← ho]; exact findClass_of_methodNamed B.named, fun w hw => hts w (List.mem_cons_of_mem _ hw), hK, hJ, B.returns, B.notSynchronized, hZ⟩ hP va_S.rf (hlo ▸ vv_L_pos (lv_entry av ha))
