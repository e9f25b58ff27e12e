/-! more of the constructors' judgement: canonical worlds, loops, calls of fill, literal rows -/
theorem ii_up_id {g : ii_G} {k : Nat} {e : va_E} (h : g k = e) : ii_up g k e = g := by
  funext a
  unfold ii_up
  split
  · rename_i q
    rw [q, h]
  · rfl
theorem ii_up_up {g : ii_G} {k : Nat} {e e' : va_E} : ii_up (ii_up g k e) k e' = ii_up g k e' := by
  funext a
  unfold ii_up
  split <;> rfl
def ls (L : List Int32) (m : Nat) : Nat → Int32 := fun i => if i < m then L.getD i 0 else 0
def la (x : vv_E) (N : Nat) (L : List Int32) (m : Nat) : va_E := .inl (x.2.2.1 0, N, .inl (ls L m))
theorem ls_0 {L : List Int32} : ls L 0 = fun _ => 0 := by
  funext i
  unfold ls
  rw [if_neg (Nat.not_lt_zero i)]
theorem la_0 {x : vv_E} {N : Nat} {L : List Int32} : ii_arr x 0 N = la x N L 0 := by
  unfold la
  rw [ls_0]
  rfl
theorem ls_s {L : List Int32} {m : Nat} {v : Int32} (hv : L.getD m 0 = v) : upd (ls L m) m v = ls L (m + 1) := by
  funext i
  show (if i = m then v else if i < m then L.getD i 0 else 0) = if i < m + 1 then L.getD i 0 else 0
  by_cases h : i = m
  · subst h
    rw [if_pos rfl, if_pos (Nat.lt_succ_self i), hv]
  · rw [if_neg h]
    by_cases h2 : i < m
    · rw [if_pos h2, if_pos (by omega)]
    · rw [if_neg h2, if_neg (by omega)]
theorem ii_vp {i : Int32} {N : Nat} (h1 : ¬ i < 0) (h2 : i.toNatClampNeg < N) : vp_in i N := fun h => h.elim h1 (fun h3 => absurd h2 (Nat.not_lt.mpr h3))
/-- an array filled up to j -/
def qfl (v : Int32) (f : Nat → Int32) (j : Nat) : Nat → Int32 := fun i => if i < j then v else f i
theorem qfl_0 {v : Int32} {f : Nat → Int32} : qfl v f 0 = f := by
  funext i
  unfold qfl
  rw [if_neg (Nat.not_lt_zero i)]
theorem qfl_s {v : Int32} {f : Nat → Int32} {j : Nat} : upd (qfl v f j) j v = qfl v f (j + 1) := by
  funext i
  show (if i = j then v else if i < j then v else f i) = if i < j + 1 then v else f i
  by_cases h : i = j
  · subst h
    rw [if_pos rfl, if_pos (Nat.lt_succ_self i)]
  · rw [if_neg h]
    by_cases h2 : i < j
    · rw [if_pos h2, if_pos (by omega)]
    · rw [if_neg h2, if_neg (by omega)]
theorem all_s {Q : Nat → Prop} {n : Nat} (h : ∀ i, i < n → Q i) (h1 : Q n) : ∀ i, i < n + 1 → Q i := fun i hi => by
  by_cases q : i = n
  · rw [q]
    exact h1
  · exact h i (by omega)
theorem all_0 {Q : Nat → Prop} : ∀ i, i < 0 → Q i := fun i h => absurd h (Nat.not_lt_zero i)
section IW
variable {x : vv_E} {b : Nat} {M : vv_M} {mc ms : Nat} {post : Nat → ii_G → Prop} {pc q : Nat} {lo : List (Option Value)} {st : List Value} {ce sl n : Nat} {g : ii_G}
theorem ii_w_ext {g' : ii_G} (h : ∀ k, k < n → g k = g' k) : ii_w b n g = ii_w b n g' := by
  unfold ii_w
  exact List.map_congr_left fun a ha => by rw [h a (List.mem_range.mp ha)]
theorem ir_ext (g' : ii_G) (h : ∀ k, k < n → g k = g' k) (kk : ii_V x b M mc ms post pc lo st ce sl n g') : ii_V x b M mc ms post pc lo st ce sl n g := by
  intro p e s m args below meth c H locs ls A P Z S L
  rw [ii_w_ext h] at P
  exact kk p e s m args below meth c H locs ls A P Z S L
theorem ir_eq (g' : ii_G) (h : g = g') (kk : ii_V x b M mc ms post pc lo st ce sl n g') : ii_V x b M mc ms post pc lo st ce sl n g := h ▸ kk
theorem ir_istore_n {i : Nat} {v : Int32} {kk : Fin 4} (lo' : List (Option Value)) (d : decode M.1 pc = .ok (.istore_n kk, 1)) (eq : pc + 1 = q) (hi : (kk : Nat) = i) (hn : i < M.2.1) (hz : vv_nl lo i = true) (hl : lo.set i (some (.int v)) = lo') (k : ii_V x b M mc ms post q lo' st ce sl n g) : ii_V x b M mc ms post pc lo (.int v :: st) ce sl n g := by
  subst eq
  intro p e s m args below meth c H locs ls A P Z S L
  exact lv_istore_n A.1 A.2.1 d hi (vv_L_has L) hn rfl (fun ls' L' => k p e s m args below meth c H locs ls' A P Z S (hl ▸ vv_L_set hz L'))
theorem ir_iload_n {kk : Fin 4} {v : Int32} (d : decode M.1 pc = .ok (.iload_n kk, 1)) (eq : pc + 1 = q) (hl : lo[(kk : Nat)]? = some (some (.int v))) (k : ii_V x b M mc ms post q lo (.int v :: st) ce sl n g) : ii_V x b M mc ms post pc lo st ce sl n g := by
  subst eq
  intro p e s m args below meth c H locs ls A P Z S L
  exact lv_iload_n A.1 A.2.1 d (rfl : (kk : Nat) = (kk : Nat)) (L.2.2 _ _ hl) (k p e s m args below meth c H locs ls A P Z S L)
theorem ir_iinc {i : Nat} {nn : Int} {v w : Int32} (lo' : List (Option Value)) (d : decode M.1 pc = .ok (.iinc i nn, 3)) (eq : pc + 3 = q) (hk : lo[i]? = some (some (.int v))) (hv : v + Int32.ofInt nn = w) (hn : i < M.2.1) (hz : vv_nl lo i = true) (hl : lo.set i (some (.int w)) = lo') (k : ii_V x b M mc ms post q lo' st ce sl n g) : ii_V x b M mc ms post pc lo st ce sl n g := by
  subst eq
  intro p e s m args below meth c H locs ls A P Z S L
  obtain ⟨j, hj⟩ := List.getElem?_of_mem (vv_ent_in.mpr hk)
  exact lv_iinc A.1 A.2.1 d (vv_L_has L) hj hv hn rfl (fun ls' L' => k p e s m args below meth c H locs ls' A P Z S (hl ▸ vv_L_set hz L'))
theorem ir_goto {off : Int} {tgt : Nat} (d : decode M.1 pc = .ok (.goto off, 3)) (ht : (pc : Int) + off = (tgt : Int)) (k : ii_V x b M mc ms post tgt lo st ce sl n g) : ii_V x b M mc ms post pc lo st ce sl n g := by
  intro p e s m args below meth c H locs ls A P Z S L
  exact lv_goto A.1 A.2.1 d ht (k p e s m args below meth c H locs ls A P Z S L)
theorem ir_icmp_ge {x0 y0 : Int32} {off : Int} {tgt : Nat} (d : decode M.1 pc = .ok (.if_icmp .ge off, 3)) (ht : (pc : Int) + off = (tgt : Int)) (eq : pc + 3 = q) (kt : y0 ≤ x0 → ii_V x b M mc ms post tgt lo st ce sl n g) (kf : ¬ y0 ≤ x0 → ii_V x b M mc ms post q lo st ce sl n g) : ii_V x b M mc ms post pc lo (.int y0 :: .int x0 :: st) ce sl n g := by
  subst eq
  intro p e s m args below meth c H locs ls A P Z S L
  exact lv_icmp_ge A.1 A.2.1 d ht (fun z => kt z p e s m args below meth c H locs ls A P Z S L) (fun z => kf z p e s m args below meth c H locs ls A P Z S L)
theorem ir_alen {k N : Nat} {f : Nat → Int32} {v : Int32} (hk : k < n) (he : g k = .inl (x.2.2.1 0, N, .inl f)) (hv : Int32.ofNat N = v) (d : decode M.1 pc = .ok (.arraylength, 1)) (eq : pc + 1 = q) (kk : ii_V x b M mc ms post q lo (.int v :: st) ce sl n g) : ii_V x b M mc ms post pc lo (.ref (b + k) :: st) ce sl n g := by
  subst eq
  intro p e s m args below meth c H locs ls A P Z S L
  exact va_alen A.1 A.2.1 A.2.2.2.2.2.1 P k 0 (by rw [ii_get hk, he]) rfl hv d (kk p e s m args below meth c H locs ls A P Z S L)
theorem ir_getr {k ci j N idx a : Nat} {C : String} {Tf : u_T} {fs : List Value} (hk : k < n) (he : g k = .inr (ci, fs)) (hc : vwCl[ci]? = some (C, Tf, N)) (hj : j < N) (hin : ∀ w ∈ u_ws C Tf N, w ∈ vv_Tg) (hv : fs[j]? = some (.ref a)) (hw : Cond.fieldLink M.2.2.1 idx (Tf j).1 (Tf j).2.1 (Tf j).2.2.1 ∈ vv_Tg) (d : decode M.1 pc = .ok (.getfield idx, 3)) (eq : pc + 3 = q) (kk : ii_V x b M mc ms post q lo (.ref a :: st) ce sl n g) : ii_V x b M mc ms post pc lo (.ref (b + k) :: st) ce sl n g := by
  subst eq
  intro p e s m args below meth c H locs ls A P Z S L
  exact va_get A.1 A.2.1 A.2.2.2.2.1 hin A.2.2.2.1 A.2.2.2.2.2.1 P k (by rw [ii_get hk, he]) hc j hj (A.2.2.2.2.1 _ hw) (fun _ z => z) hv d (kk p e s m args below meth c H locs ls A P Z S L)
theorem ir_aald {k N a : Nat} {f : Nat → Option Nat} {i : Int32} (hk : k < n) (he : g k = .inl (x.2.2.1 4, N, .inr (.inr (.inr (.inr f))))) (hi : vp_in i N) (hf : f i.toNatClampNeg = some a) (d : decode M.1 pc = .ok (.aaload, 1)) (eq : pc + 1 = q) (kk : ii_V x b M mc ms post q lo (.ref a :: st) ce sl n g) : ii_V x b M mc ms post pc lo (.int i :: .ref (b + k) :: st) ce sl n g := by
  subst eq
  intro p e s m args below meth c H locs ls A P Z S L
  have hlt : i.toNatClampNeg < N := Nat.not_le.mp fun z => hi (Or.inr z)
  have hK : va_K x.2.1 vwCl (vv_tys x) s := A.2.2.2.2.2.1
  have e1 : (ii_w b n g)[k]? = some (b + k, .inl (x.2.2.1 4, N, .inr (.inr (.inr (.inr f))))) := by rw [ii_get hk, he]
  exact W.aald (v := .ref a) (ty := .array .int) A.1 A.2.1 (P k _ e1) ((hK.2 4 _ rfl).1 N (fun j => va_rf (f j))) rfl (fun z => by cases z) (by show ¬ (i < 0 ∨ (arrV _ _ _).slots.size ≤ _); rw [arrV_size]; exact hi) (by show (arrV _ _ _).slots[_]? = _; rw [arrV_read _ _ hlt, hf]; rfl) rfl rfl d (kk p e s m args below meth c H locs ls A P Z S L)
/-- invokestatic of a method that makes nothing -/
theorem ir_callS {y : MethodName} {M' : vv_M} {idx : Nat} {As st0 : List Value} {post' : Nat → ii_G → Prop} (hc : ii_C x b y M' 0 0 As n g post') (hst : st0 = As.reverse ++ st) (hy : Cond.code y M'.1 M'.2.1 M'.2.2.2.1 ∈ vv_Tg ∧ Cond.static y ∈ vv_Tg ∧ Cond.initialized y.cls ∈ vv_Tg) (hd : y.cls ≠ "java/lang/invoke/MethodHandle" ∧ y.cls ≠ "java/lang/invoke/VarHandle" ∧ (parseMethodDescriptor y.desc).map (fun d => d.parameters.length) = some As.length) (hrm : M'.2.2.2.2.cells = 0 ∧ M'.2.2.2.2.slots = 0) (hml : Cond.methodLink M.2.2.1 idx y ∈ vv_Tg)
    (hR : M'.2.2.2.2.frames + 1 ≤ M.2.2.2.2.frames ∧ 8 + (M'.2.1 + 11) + M'.2.2.2.2.locals ≤ M.2.2.2.2.locals) (hf : ce ≤ M.2.2.2.2.cells ∧ sl ≤ M.2.2.2.2.slots) (hW : (st.map fun v => v.category).sum ≤ 8) (d : decode M.1 pc = .ok (.invokestatic idx, 3)) (eq : pc + 3 = q) (kk : ∀ (n' : Nat) (g' : ii_G), post' n' g' → ii_V x b M mc ms post q lo st ce sl n' g') : ii_V x b M mc ms post pc lo st0 ce sl n g := by
  subst eq
  subst hst
  intro p e s m args below meth c H locs ls A P Z S L
  have hts := A.2.2.2.2.1
  have hK : vv_K x s := A.2.2.2.2.2.1
  have cb : CallB M.2.2.2.2 s args M.2.2.1 idx y M'.1 M'.2.1 M'.2.2.2.1 (Cond.code y M'.1 M'.2.1 M'.2.2.2.1 :: vv_Tg) M'.2.2.2.2 0 0 As.length := callB_of _ hts (vv_goodIn hy.1) rfl hrm.1 hrm.2 (hts _ hy.2.2) (hts _ hml) hd hR
  have run := va_runS (rest := st) (As := As) ⟨A.1, A.2.1, A.2.2.1, A.2.2.2.1, hts⟩ hc ⟨cb, hts _ hy.2.1⟩ ⟨ii_blind, fun U hU hWm => ⟨rfl, by rw [hU]; exact P, by rw [hU]; exact Z, va_K.moved hWm.alike hK, ii_W.warm hWm A.2.2.2.2.2.2.2.2.2.2⟩⟩ (g := F0 m pc ls (As.reverse ++ st)) (cells := ce) (slots := sl) (locs := locs) (H := H) (below := below) (meth := meth) (c := c) (e := e) rfl rfl L.1 rfl (lv_room hW) d hf
  intro T1 hT X
  obtain ⟨v, st₀, t, T', L', h0, X', hL, e1, e2, ⟨⟨n1, g1, hv, hp1, hP1, hz1⟩, hz, hkk⟩, stp⟩ := run T1 hT X
  cases hv
  rw [h0] at hz hkk
  obtain ⟨t2, a1, b1⟩ := kk n1 g1 hp1 p e s m args below meth c T'.heap (locs ++ L') ls A (by rw [e1]; exact hP1) (by rw [e1]; exact hz1) ⟨Nat.le_trans S.1 (by rw [e1]; exact hz), fun y h1 h2 => by rw [e1, hkk y (Nat.lt_of_lt_of_le h1 S.1) h2]; exact S.2.1 y h1 h2, fun y hy => (List.mem_append.mp hy).elim (S.2.2 y) (fun z => hL y z)⟩ L T' rfl X'
  exact ⟨t2, stp t2 a1, b1⟩
/-- canonical worlds: F, but the object at k, half-built, has the fields fs -/
def ii_O (k ci : Nat) (fs : List Value) (F : ii_G) : ii_G := ii_up F k (.inr (ci, fs))
theorem ii_O_eq {k ci : Nat} {fs : List Value} {F : ii_G} : ii_O k ci fs F k = .inr (ci, fs) := ii_up_eq
theorem ii_O_ne {k ci a : Nat} {fs : List Value} {F : ii_G} (h : a ≠ k) : ii_O k ci fs F a = F a := ii_up_ne h
theorem ii_O_up {k ci : Nat} {fs fs' : List Value} {F : ii_G} : ii_up (ii_O k ci fs F) k (.inr (ci, fs')) = ii_O k ci fs' F := ii_up_up
/-- newarray, where the canonical world has the new row already -/
theorem ir_newaE {at0 : ArrayType} {ty : FieldType} (t : Nat) {k : Int32} {N : Nat} (he : g n = ii_arr x t N) (hty : newarray.typeOf at0 = ty) (ht : (vv_tys x)[t]? = some (x.2.2.1 t, ty)) (hcell : ∀ cA : ClassId, vp_cell cA (ii_z t N) = arrV cA N (fun _ => defaultValue ty)) (hra : ∀ (U : State) (cA : ClassId), va_RA U cA ty → U.vm.findClass ("[" ++ ty.toString) = some cA)
    (hw : Cond.arrayClass ty ∈ vv_Tg) (hk : ¬ k < 0) (hN : k.toNatClampNeg = N) (hbytes : N * componentBytes ty ≤ 536870912) (hR : ce + 1 ≤ M.2.2.2.2.cells ∧ sl + N ≤ M.2.2.2.2.slots) (d : decode M.1 pc = .ok (.newarray at0, 2)) (eq : pc + 2 = q)
    (kk : ii_V x b M mc ms post q lo (.ref (b + n) :: st) (ce + 1) (sl + N) (n + 1) g) : ii_V x b M mc ms post pc lo (.int k :: st) ce sl n g :=
  ir_newa t hty ht hcell hra hw hk hN hbytes hR d eq (by rw [ii_up_id he]; exact kk)
/-- newarray of a row that a literal fills -/
theorem ir_newaL {k : Int32} {N : Nat} (L : List Int32) (hw : Cond.arrayClass .int ∈ vv_Tg) (hk : ¬ k < 0) (hN : k.toNatClampNeg = N) (hbytes : N * componentBytes .int ≤ 536870912) (hR : ce + 1 ≤ M.2.2.2.2.cells ∧ sl + N ≤ M.2.2.2.2.slots) (d : decode M.1 pc = .ok (.newarray .int, 2)) (eq : pc + 2 = q)
    (kk : ii_V x b M mc ms post q lo (.ref (b + n) :: st) (ce + 1) (sl + N) (n + 1) (ii_up g n (la x N L 0))) : ii_V x b M mc ms post pc lo (.int k :: st) ce sl n g :=
  ir_newa (ty := .int) 0 rfl rfl (fun cA => rfl) (fun U cA h => h) hw hk hN hbytes hR d eq (by rw [la_0 (L := L)]; exact kk)
theorem ir_iasL {k N m : Nat} {L : List Int32} {i v : Int32} (hk : k < n) (hm : i.toNatClampNeg = m) (hi : ¬ i < 0) (hN : m < N) (hv : L.getD m 0 = v) (d : decode M.1 pc = .ok (.iastore, 1)) (eq : pc + 1 = q) (kk : ii_V x b M mc ms post q lo st ce sl n (ii_up g k (la x N L (m + 1)))) : ii_V x b M mc ms post pc lo (.int v :: .int i :: .ref (b + k) :: st) ce sl n (ii_up g k (la x N L m)) := by
  refine ir_iast (k := k) (N := N) (f := ls L m) hk ii_up_eq (ii_vp hi (by rw [hm]; exact hN)) d eq ?_
  rw [ii_up_up, hm, ls_s hv]
  exact kk
/-- a reference into a field of the half-built object -/
theorem ir_putO {k ci j N idx a : Nat} {C : String} {Tf : u_T} {fs fs' : List Value} {F : ii_G} (ty0 : Nat → FieldType) (hk : k < n) (hc : vwCl[ci]? = some (C, Tf, N)) (hj : j < N) (hin : ∀ w ∈ u_ws C Tf N, w ∈ vv_Tg) (hty : ∀ k, k < N → parseFieldDescriptor (Tf k).2.2.1 = some (ty0 k)) (hnm : ∀ a, a < N → ∀ b, b < N → a ≠ b → (Tf a).2.1 ≠ (Tf b).2.1) (hw : Cond.fieldLink M.2.2.1 idx (Tf j).1 (Tf j).2.1 (Tf j).2.2.1 ∈ vv_Tg) (hdecl : (Tf j).1 = M.2.2.1) {ty : FieldType} (hd : parseFieldDescriptor (Tf j).2.2.1 = some ty) (hn : narrow ty (.ref a) = .ref a) (hfit : fits ty (.ref a) = true) (hl : j < fs.length) (hs : fs.set j (.ref a) = fs')
    (d : decode M.1 pc = .ok (.putfield idx, 3)) (eq : pc + 3 = q) (hj7 : M.2.2.1 ≠ RJ7) (kk : ii_V x b M mc ms post q lo st ce sl n (ii_O k ci fs' F)) : ii_V x b M mc ms post pc lo (.ref a :: .ref (b + k) :: st) ce sl n (ii_O k ci fs F) := by
  refine ir_putr (ci := ci) (fs := fs) ty0 hk ii_O_eq hc hj hin hty hnm hw hdecl hd hn hfit hl d eq ?_ hj7
  rw [ii_O_up, hs]
  exact kk
end IW
/-! the canonical worlds: an initial pure heap, laid from the address b on; outer rows name their rows, and no more -/
def vfv (b : Nat) (h : vv_H) (k j : Nat) (d : Nat × Nat) : Value := match d.1 with
  | 0 => .int (h.1 k j)
  | 1 => .ref (b + d.2)
  | 2 => .ref (b + vv_rid (h.2.2 d.2))
  | _ => .long (h.2.1 k j)
def vf (b : Nat) (h : vv_H) (k : Nat) : Nat → List (Nat × Nat) → List Value
  | _, [] => []
  | j, d :: ds => vfv b h k j d :: vf b h k (j + 1) ds
def vc (x : vv_E) (b : Nat) (T : vv_T) (h : vv_H) (k : Nat) : va_E := match (T.1 k).1 with
  | 0 => .inr ((T.1 k).2.1, vf b h k 0 (T.1 k).2.2)
  | 1 => .inl (x.2.2.1 0, (T.1 k).2.1, .inl (h.1 k))
  | 2 => .inl (x.2.2.1 1, (T.1 k).2.1, .inr (.inl (h.2.1 k)))
  | 3 => .inl (x.2.2.1 2, (T.1 k).2.1, .inl (h.1 k))
  | 4 => .inl (x.2.2.1 3, (T.1 k).2.1, .inl (h.1 k))
  | _ => .inl (x.2.2.1 4, (T.1 k).2.1, .inr (.inr (.inr (.inr (fun i => if i < (T.1 k).2.1 then some (b + ((T.1 k).2.2.getD 0 (0, 0)).1 + i) else none)))))
def cf_road : List Int32 := [0, 50, 50, 50, 50, 0, 50, 50, 50, 50, 0, 50, 50, 50, 50, 0]
def cf_lane : List Int32 := [-4, -4, -4, -4]
def h0C : vv_H := (fun k => cond (Nat.beq k 178) (qfl (-1) (fun _ => 0) 4) (cond (Nat.ble 148 k && Nat.ble k 151) (qfl 50 (fun _ => 0) 4) (fun _ => 0)), fun _ _ => 0, fun i => Nat.beq i 1)
def h0R : vv_H := (fun k => cond (Nat.beq k 14) (ls cf_ends 10) (cond (Nat.beq k 15) (ls cf_lets 38) (cond (Nat.beq k 28) (ls cf_road 16) (cond (Nat.beq k 53) (ls cf_lane 4) (fun _ => 0)))), fun _ _ => 0, fun _ => false)
/-! Arrays.fill of an int[] -/
abbrev im_fill : vv_M := (cJ7_fill_53178, 4, RJ7, none, ik_rm 1 0 0)
section FL
variable {x : vv_E} {b n : Nat} {g : ii_G}
theorem ik_fill {k N : Nat} {f : Nat → Int32} {v : Int32} (hk : k < n) (he : g k = .inl (x.2.2.1 0, N, .inl f)) (hN : N < 2 ^ 31) : ii_C x b yJ7_fill_53178 im_fill 0 0 [.ref (b + k), .int v] n g (fun n1 g1 => n1 = n ∧ g1 = ii_up g k (.inl (x.2.2.1 0, N, .inl (qfl v f N)))) := by
  refine ii_entryF (by decide +kernel) rfl rfl (Nat.le_of_ble_eq_true rfl) rfl ?_
  refine ir_iconst (q := 1) (v := 0) dJ7_fill_53178_0 rfl (by decide) ?_
  refine ir_istore_n (i := 2) (q := 2) [some (.ref (b + k)), some (.int v), some (.int 0), none] dJ7_fill_53178_1 rfl rfl (by decide) rfl rfl ?_
  refine ir_aload_n (q := 3) (v := b + k) dJ7_fill_53178_2 rfl rfl ?_
  refine ir_alen (q := 4) (v := nI N) hk he rfl dJ7_fill_53178_3 rfl ?_
  refine ir_istore_n (i := 3) (q := 5) [some (.ref (b + k)), some (.int v), some (.int 0), some (.int (nI N))] dJ7_fill_53178_4 rfl rfl (by decide) rfl rfl ?_
  have loop : ∀ (d j : Nat), d + j = N → ii_V x b im_fill 0 0 (fun n1 g1 => n1 = n ∧ g1 = ii_up g k (.inl (x.2.2.1 0, N, .inl (qfl v f N)))) 5 [some (.ref (b + k)), some (.int v), some (.int (nI j)), some (.int (nI N))] [] 0 0 n (ii_up g k (.inl (x.2.2.1 0, N, .inl (qfl v f j)))) := by
    intro d
    induction d with
    | zero =>
      intro j hj
      refine ir_iload_n (q := 6) (v := nI j) dJ7_fill_53178_5 rfl rfl ?_
      refine ir_iload_n (q := 7) (v := nI N) dJ7_fill_53178_6 rfl rfl ?_
      refine ir_icmp_ge (q := 10) (tgt := 20) dJ7_fill_53178_7 (by decide) rfl (fun _ => ?_) (fun z => absurd (nI_le (by omega) (by omega)) z)
      refine ir_vret dJ7_fill_53178_20 rfl ⟨rfl, ?_⟩
      rw [show j = N by omega]
    | succ d ih =>
      intro j hj
      refine ir_iload_n (q := 6) (v := nI j) dJ7_fill_53178_5 rfl rfl ?_
      refine ir_iload_n (q := 7) (v := nI N) dJ7_fill_53178_6 rfl rfl ?_
      refine ir_icmp_ge (q := 10) (tgt := 20) dJ7_fill_53178_7 (by decide) rfl (fun z => ?_) (fun _ => ?_)
      · exfalso
        have h1 := Int32.le_iff_toInt_le.mp z
        rw [nI_toInt (by omega), nI_toInt (by omega)] at h1
        omega
      · have hin : vp_in (nI j) N := vp_in_nI (by omega) hN
        refine ir_aload_n (q := 11) (v := b + k) dJ7_fill_53178_10 rfl rfl ?_
        refine ir_iload_n (q := 12) (v := nI j) dJ7_fill_53178_11 rfl rfl ?_
        refine ir_iload_n (q := 13) (v := v) dJ7_fill_53178_12 rfl rfl ?_
        refine ir_iast (q := 14) hk ii_up_eq hin dJ7_fill_53178_13 rfl ?_
        refine ir_eq (ii_up g k (.inl (x.2.2.1 0, N, .inl (qfl v f (j + 1))))) (by rw [ii_up_up, nI_clamp (by omega), qfl_s]) ?_
        refine ir_iinc (q := 17) (v := nI j) (w := nI (j + 1)) [some (.ref (b + k)), some (.int v), some (.int (nI (j + 1))), some (.int (nI N))] dJ7_fill_53178_14 rfl rfl (by rw [show Int32.ofInt 1 = (1 : Int32) from rfl]; exact nI_1 j) (by decide) rfl rfl ?_
        refine ir_goto (tgt := 5) dJ7_fill_53178_17 (by decide) ?_
        exact ih (j + 1) (by omega)
  have h0 := loop N 0 (by omega)
  rw [qfl_0, ii_up_id he] at h0
  exact h0
end FL
