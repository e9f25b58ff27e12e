section RR
variable {α : Type} {x : vv_E} {T : vv_T} {M : vv_M} {post : Option Value → vv_H → Prop} {pc q : Nat} {lo : List (Option Value)} {st : List Value} {h : vv_H}
def vv_ck {α : Type} (i : Int32) (n : Nat) (A : Option α) : Option α := if i < 0 ∨ n ≤ i.toNatClampNeg then none else A
def vv_nz {α : Type} (i : Int32) (A : Option α) : Option α := if i = 0 then none else A
def vv_nzl {α : Type} (i : Int64) (A : Option α) : Option α := if i = 0 then none else A
def vv_zk {α : Type} (i : Int32) (A : Option α) : Option α := if i = 0 ∨ i = 1 then A else none
theorem vv_ck_of {i : Int32} {n : Nat} {A : Option α} {r : α} (hm : vv_ck i n A = some r) : vp_in i n ∧ A = some r := by
  unfold vv_ck at hm
  split at hm
  · cases hm
  · exact ⟨by assumption, hm⟩
theorem vv_ck_in {i : Int32} {n : Nat} {A : Option α} (hi : vp_in i n) : vv_ck i n A = A := if_neg hi
theorem vv_nz_of {i : Int32} {A : Option α} {r : α} (hm : vv_nz i A = some r) : ¬ i = 0 ∧ A = some r := by
  unfold vv_nz at hm
  split at hm
  · cases hm
  · exact ⟨by assumption, hm⟩
theorem vv_nzl_of {i : Int64} {A : Option α} {r : α} (hm : vv_nzl i A = some r) : ¬ i = 0 ∧ A = some r := by
  unfold vv_nzl at hm
  split at hm
  · cases hm
  · exact ⟨by assumption, hm⟩
theorem vv_zk_of {i : Int32} {A : Option α} {r : α} (hm : vv_zk i A = some r) : narrow .boolean (.int i) = .int i ∧ A = some r := by
  unfold vv_zk at hm
  split at hm
  · rename_i hi
    refine ⟨?_, hm⟩
    rcases hi with rfl | rfl <;> rfl
  · cases hm
theorem vv_bind {β : Type} {A : Option β} {f : β → Option α} {r : α} (hm : A.bind f = some r) : ∃ b, A = some b ∧ f b = some r := by
  cases A with
  | none => cases hm
  | some b => exact ⟨b, rfl, hm⟩
/-- a loop: its body again and again, at most so often -/
def vv_lp {S R : Type} (f : S → Option (S ⊕ R)) : Nat → S → Option R
  | 0, _ => none
  | n + 1, s => match f s with
    | none => none
    | some (.inl s') => vv_lp f n s'
    | some (.inr r) => some r
theorem vv_lp_link {S R : Type} {f : S → Option (S ⊕ R)} {P : S → Prop} {Q : R → Prop} (hb : ∀ s o, f s = some o → (∀ s', o = .inl s' → P s') → (∀ r, o = .inr r → Q r) → P s) : ∀ (n : Nat) (s : S) (r : R), vv_lp f n s = some r → Q r → P s := by
  intro n
  induction n with
  | zero => intro s r hm _; cases hm
  | succ n ih =>
    intro s r hm hq
    unfold vv_lp at hm
    split at hm
    · cases hm
    · rename_i s' e
      exact hb s _ e (fun s2 e2 => by cases e2; exact ih _ _ hm hq) (fun r2 e2 => by cases e2)
    · rename_i r2 e
      cases hm
      exact hb s _ e (fun s2 e2 => by cases e2) (fun r3 e3 => by cases e3; exact hq)
theorem vv_iu_at {k j : Nat} {v : Int32} : (vv_iu h k j v).1 k = upd (h.1 k) j v := if_pos rfl
theorem vv_lu_at {k j : Nat} {v : Int64} : (vv_lu h k j v).2.1 k = vp_updL (h.2.1 k) j v := if_pos rfl
theorem rr_sub (ks : List Bool) {lo' : List (Option Value)} (hl : vv_msk ks lo = lo') (k : vv_V x T M post pc lo' st h) : vv_V x T M post pc lo st h := by
  intro p e s m args below meth c H locs ls A P S L
  exact k p e s m args below meth c H locs ls A P S (hl ▸ vv_L_msk ks L)

theorem rr_iconst {n : Int} {v : Int32} (d : decode M.1 pc = .ok (.iconst n, 1)) (eq : pc + 1 = q) (hv : Int32.ofInt n = v) (k : vv_V x T M post q lo (.int v :: st) h) : vv_V x T M post pc lo (st) h := by
  subst eq
  intro p e s m args below meth c H locs ls A P S L
  exact lv_iconst A.1 A.2.1 d hv (k p e s m args below meth c H locs ls A P S L)
theorem rr_bipush {n : Int} {v : Int32} (d : decode M.1 pc = .ok (.bipush n, 2)) (eq : pc + 2 = q) (hv : (Int8.ofInt n).toInt32 = v) (k : vv_V x T M post q lo (.int v :: st) h) : vv_V x T M post pc lo (st) h := by
  subst eq
  intro p e s m args below meth c H locs ls A P S L
  exact lv_bipush A.1 A.2.1 d hv (k p e s m args below meth c H locs ls A P S L)
theorem rr_sipush {n : Int} {v : Int32} (d : decode M.1 pc = .ok (.sipush n, 3)) (eq : pc + 3 = q) (hv : (Int16.ofInt n).toInt32 = v) (k : vv_V x T M post q lo (.int v :: st) h) : vv_V x T M post pc lo (st) h := by
  subst eq
  intro p e s m args below meth c H locs ls A P S L
  exact lv_sipush A.1 A.2.1 d hv (k p e s m args below meth c H locs ls A P S L)
theorem rr_lconst {n : Fin 2} {v : Int64} (d : decode M.1 pc = .ok (.lconst n, 1)) (eq : pc + 1 = q) (hv : Int64.ofNat (n : Nat) = v) (k : vv_V x T M post q lo (.long v :: st) h) : vv_V x T M post pc lo (st) h := by
  subst eq
  intro p e s m args below meth c H locs ls A P S L
  exact lv_lconst A.1 A.2.1 d hv (k p e s m args below meth c H locs ls A P S L)
theorem rr_iload_n {kk : Fin 4} {v : Int32} (d : decode M.1 pc = .ok (.iload_n kk, 1)) (eq : pc + 1 = q) (hl : lo[(kk : Nat)]? = some (some (.int v))) (k : vv_V x T M post q lo (.int v :: st) h) : vv_V x T M post pc lo (st) h := by
  subst eq
  intro p e s m args below meth c H locs ls A P S L
  exact lv_iload_n A.1 A.2.1 d (rfl : (kk : Nat) = (kk : Nat)) (L.2.2 _ _ hl) (k p e s m args below meth c H locs ls A P S L)
theorem rr_iload {i : Nat} {v : Int32} (d : decode M.1 pc = .ok (.iload i, 2)) (eq : pc + 2 = q) (hl : lo[i]? = some (some (.int v))) (k : vv_V x T M post q lo (.int v :: st) h) : vv_V x T M post pc lo (st) h := by
  subst eq
  intro p e s m args below meth c H locs ls A P S L
  exact lv_iload A.1 A.2.1 d (L.2.2 _ _ hl) (k p e s m args below meth c H locs ls A P S L)
theorem rr_istore_n {i : Nat} {v : Int32} {kk : Fin 4} (lo' : List (Option Value)) (d : decode M.1 pc = .ok (.istore_n kk, 1)) (eq : pc + 1 = q) (hi : (kk : Nat) = i) (hn : i < M.2.1) (hz : vv_nl lo i = true) (hl : lo.set i (some (Value.int v)) = lo') (k : vv_V x T M post q lo' st h) : vv_V x T M post pc lo (.int v :: st) h := by
  subst eq
  intro p e s m args below meth c H locs ls A P S L
  exact lv_istore_n A.1 A.2.1 d hi (vv_L_has L) hn rfl (fun ls' L' => k p e s m args below meth c H locs ls' A P S (hl ▸ vv_L_set hz L'))
theorem rr_istore {i : Nat} {v : Int32}  (lo' : List (Option Value)) (d : decode M.1 pc = .ok (.istore i, 2)) (eq : pc + 2 = q)  (hn : i < M.2.1) (hz : vv_nl lo i = true) (hl : lo.set i (some (Value.int v)) = lo') (k : vv_V x T M post q lo' st h) : vv_V x T M post pc lo (.int v :: st) h := by
  subst eq
  intro p e s m args below meth c H locs ls A P S L
  exact lv_istore A.1 A.2.1 d  (vv_L_has L) hn rfl (fun ls' L' => k p e s m args below meth c H locs ls' A P S (hl ▸ vv_L_set hz L'))
theorem rr_lload_n {kk : Fin 4} {v : Int64} (d : decode M.1 pc = .ok (.lload_n kk, 1)) (eq : pc + 1 = q) (hl : lo[(kk : Nat)]? = some (some (.long v))) (k : vv_V x T M post q lo (.long v :: st) h) : vv_V x T M post pc lo (st) h := by
  subst eq
  intro p e s m args below meth c H locs ls A P S L
  exact lv_lload_n A.1 A.2.1 d (rfl : (kk : Nat) = (kk : Nat)) (L.2.2 _ _ hl) (k p e s m args below meth c H locs ls A P S L)
theorem rr_lload {i : Nat} {v : Int64} (d : decode M.1 pc = .ok (.lload i, 2)) (eq : pc + 2 = q) (hl : lo[i]? = some (some (.long v))) (k : vv_V x T M post q lo (.long v :: st) h) : vv_V x T M post pc lo (st) h := by
  subst eq
  intro p e s m args below meth c H locs ls A P S L
  exact lv_lload A.1 A.2.1 d (L.2.2 _ _ hl) (k p e s m args below meth c H locs ls A P S L)
theorem rr_lstore_n {i : Nat} {v : Int64} {kk : Fin 4} (lo' : List (Option Value)) (d : decode M.1 pc = .ok (.lstore_n kk, 1)) (eq : pc + 1 = q) (hi : (kk : Nat) = i) (hn : i + 1 < M.2.1) (hz : vv_nl lo i = true) (hl : (lo.set i (some (Value.long v))).set (i + 1) none = lo') (k : vv_V x T M post q lo' st h) : vv_V x T M post pc lo (.long v :: st) h := by
  subst eq
  intro p e s m args below meth c H locs ls A P S L
  exact lv_lstore_n A.1 A.2.1 d hi (vv_L_has L) hn rfl (fun ls' L' => k p e s m args below meth c H locs ls' A P S (hl ▸ vv_L_setl hz L'))
theorem rr_lstore {i : Nat} {v : Int64}  (lo' : List (Option Value)) (d : decode M.1 pc = .ok (.lstore i, 2)) (eq : pc + 2 = q)  (hn : i + 1 < M.2.1) (hz : vv_nl lo i = true) (hl : (lo.set i (some (Value.long v))).set (i + 1) none = lo') (k : vv_V x T M post q lo' st h) : vv_V x T M post pc lo (.long v :: st) h := by
  subst eq
  intro p e s m args below meth c H locs ls A P S L
  exact lv_lstore A.1 A.2.1 d  (vv_L_has L) hn rfl (fun ls' L' => k p e s m args below meth c H locs ls' A P S (hl ▸ vv_L_setl hz L'))
theorem rr_aload_n {kk : Fin 4} {v : Nat} (d : decode M.1 pc = .ok (.aload_n kk, 1)) (eq : pc + 1 = q) (hl : lo[(kk : Nat)]? = some (some (.ref v))) (k : vv_V x T M post q lo (.ref v :: st) h) : vv_V x T M post pc lo (st) h := by
  subst eq
  intro p e s m args below meth c H locs ls A P S L
  exact lv_aload_n A.1 A.2.1 d (rfl : (kk : Nat) = (kk : Nat)) (L.2.2 _ _ hl) (k p e s m args below meth c H locs ls A P S L)
theorem rr_aload {i : Nat} {v : Nat} (d : decode M.1 pc = .ok (.aload i, 2)) (eq : pc + 2 = q) (hl : lo[i]? = some (some (.ref v))) (k : vv_V x T M post q lo (.ref v :: st) h) : vv_V x T M post pc lo (st) h := by
  subst eq
  intro p e s m args below meth c H locs ls A P S L
  exact lv_aload A.1 A.2.1 d (L.2.2 _ _ hl) (k p e s m args below meth c H locs ls A P S L)
theorem rr_astore_n {i : Nat} {v : Nat} {kk : Fin 4} (lo' : List (Option Value)) (d : decode M.1 pc = .ok (.astore_n kk, 1)) (eq : pc + 1 = q) (hi : (kk : Nat) = i) (hn : i < M.2.1) (hz : vv_nl lo i = true) (hl : lo.set i (some (Value.ref v)) = lo') (k : vv_V x T M post q lo' st h) : vv_V x T M post pc lo (.ref v :: st) h := by
  subst eq
  intro p e s m args below meth c H locs ls A P S L
  exact lv_astore_n A.1 A.2.1 d hi (vv_L_has L) hn rfl (fun ls' L' => k p e s m args below meth c H locs ls' A P S (hl ▸ vv_L_set hz L'))
theorem rr_astore {i : Nat} {v : Nat}  (lo' : List (Option Value)) (d : decode M.1 pc = .ok (.astore i, 2)) (eq : pc + 2 = q)  (hn : i < M.2.1) (hz : vv_nl lo i = true) (hl : lo.set i (some (Value.ref v)) = lo') (k : vv_V x T M post q lo' st h) : vv_V x T M post pc lo (.ref v :: st) h := by
  subst eq
  intro p e s m args below meth c H locs ls A P S L
  exact lv_astore A.1 A.2.1 d  (vv_L_has L) hn rfl (fun ls' L' => k p e s m args below meth c H locs ls' A P S (hl ▸ vv_L_set hz L'))
theorem rr_iinc {i : Nat} {n : Int} {v w : Int32} (lo' : List (Option Value)) (d : decode M.1 pc = .ok (.iinc i n, 3)) (eq : pc + 3 = q) (hk : lo[i]? = some (some (.int v))) (hv : v + Int32.ofInt n = w) (hn : i < M.2.1) (hz : vv_nl lo i = true) (hl : lo.set i (some (.int w)) = lo') (k : vv_V x T M post q lo' st h) : vv_V x T M post pc lo st h := by
  subst eq
  intro p e s m args below meth c H locs ls A P S L
  obtain ⟨j, hj⟩ := List.getElem?_of_mem (vv_ent_in.mpr hk)
  exact lv_iinc A.1 A.2.1 d (vv_L_has L) hj hv hn rfl (fun ls' L' => k p e s m args below meth c H locs ls' A P S (hl ▸ vv_L_set hz L'))
theorem rr_iadd {a b : Int32} (d : decode M.1 pc = .ok (.iadd, 1)) (eq : pc + 1 = q)  (k : vv_V x T M post q lo (.int (a + b) :: st) h) : vv_V x T M post pc lo (.int b :: .int a :: st) h := by
  subst eq
  intro p e s m args below meth c H locs ls A P S L
  exact lv_iadd A.1 A.2.1 d  (k p e s m args below meth c H locs ls A P S L)
theorem rr_isub {a b : Int32} (d : decode M.1 pc = .ok (.isub, 1)) (eq : pc + 1 = q)  (k : vv_V x T M post q lo (.int (a - b) :: st) h) : vv_V x T M post pc lo (.int b :: .int a :: st) h := by
  subst eq
  intro p e s m args below meth c H locs ls A P S L
  exact lv_isub A.1 A.2.1 d  (k p e s m args below meth c H locs ls A P S L)
theorem rr_imul {a b : Int32} (d : decode M.1 pc = .ok (.imul, 1)) (eq : pc + 1 = q)  (k : vv_V x T M post q lo (.int (a * b) :: st) h) : vv_V x T M post pc lo (.int b :: .int a :: st) h := by
  subst eq
  intro p e s m args below meth c H locs ls A P S L
  exact lv_imul A.1 A.2.1 d  (k p e s m args below meth c H locs ls A P S L)
theorem rr_iand {a b : Int32} (d : decode M.1 pc = .ok (.iand, 1)) (eq : pc + 1 = q)  (k : vv_V x T M post q lo (.int (a &&& b) :: st) h) : vv_V x T M post pc lo (.int b :: .int a :: st) h := by
  subst eq
  intro p e s m args below meth c H locs ls A P S L
  exact lv_iand A.1 A.2.1 d  (k p e s m args below meth c H locs ls A P S L)
theorem rr_ior {a b : Int32} (d : decode M.1 pc = .ok (.ior, 1)) (eq : pc + 1 = q)  (k : vv_V x T M post q lo (.int (a ||| b) :: st) h) : vv_V x T M post pc lo (.int b :: .int a :: st) h := by
  subst eq
  intro p e s m args below meth c H locs ls A P S L
  exact lv_ior A.1 A.2.1 d  (k p e s m args below meth c H locs ls A P S L)
theorem rr_ixor {a b : Int32} (d : decode M.1 pc = .ok (.ixor, 1)) (eq : pc + 1 = q)  (k : vv_V x T M post q lo (.int (a ^^^ b) :: st) h) : vv_V x T M post pc lo (.int b :: .int a :: st) h := by
  subst eq
  intro p e s m args below meth c H locs ls A P S L
  exact lv_ixor A.1 A.2.1 d  (k p e s m args below meth c H locs ls A P S L)
theorem rr_ishl {a b : Int32} (d : decode M.1 pc = .ok (.ishl, 1)) (eq : pc + 1 = q)  (k : vv_V x T M post q lo (.int (a <<< (b &&& 31)) :: st) h) : vv_V x T M post pc lo (.int b :: .int a :: st) h := by
  subst eq
  intro p e s m args below meth c H locs ls A P S L
  exact lv_ishl A.1 A.2.1 d  (k p e s m args below meth c H locs ls A P S L)
theorem rr_ishr {a b : Int32} (d : decode M.1 pc = .ok (.ishr, 1)) (eq : pc + 1 = q)  (k : vv_V x T M post q lo (.int (a >>> (b &&& 31)) :: st) h) : vv_V x T M post pc lo (.int b :: .int a :: st) h := by
  subst eq
  intro p e s m args below meth c H locs ls A P S L
  exact lv_ishr A.1 A.2.1 d  (k p e s m args below meth c H locs ls A P S L)
theorem rr_ineg {a : Int32} (d : decode M.1 pc = .ok (.ineg, 1)) (eq : pc + 1 = q)  (k : vv_V x T M post q lo (.int (-a) :: st) h) : vv_V x T M post pc lo (.int a :: st) h := by
  subst eq
  intro p e s m args below meth c H locs ls A P S L
  exact lv_ineg A.1 A.2.1 d  (k p e s m args below meth c H locs ls A P S L)
theorem rr_idiv {a b : Int32} (d : decode M.1 pc = .ok (.idiv, 1)) (eq : pc + 1 = q) (hb : ¬ b = 0) (k : vv_V x T M post q lo (.int (a / b) :: st) h) : vv_V x T M post pc lo (.int b :: .int a :: st) h := by
  subst eq
  intro p e s m args below meth c H locs ls A P S L
  exact lv_idiv A.1 A.2.1 d hb (k p e s m args below meth c H locs ls A P S L)
theorem rr_irem {a b : Int32} (d : decode M.1 pc = .ok (.irem, 1)) (eq : pc + 1 = q) (hb : ¬ b = 0) (k : vv_V x T M post q lo (.int (a - a / b * b) :: st) h) : vv_V x T M post pc lo (.int b :: .int a :: st) h := by
  subst eq
  intro p e s m args below meth c H locs ls A P S L
  exact lv_irem A.1 A.2.1 d hb (k p e s m args below meth c H locs ls A P S L)
theorem rr_ladd {a b : Int64} (d : decode M.1 pc = .ok (.ladd, 1)) (eq : pc + 1 = q)  (k : vv_V x T M post q lo (.long (a + b) :: st) h) : vv_V x T M post pc lo (.long b :: .long a :: st) h := by
  subst eq
  intro p e s m args below meth c H locs ls A P S L
  exact lv_ladd A.1 A.2.1 d  (k p e s m args below meth c H locs ls A P S L)
theorem rr_lsub {a b : Int64} (d : decode M.1 pc = .ok (.lsub, 1)) (eq : pc + 1 = q)  (k : vv_V x T M post q lo (.long (a - b) :: st) h) : vv_V x T M post pc lo (.long b :: .long a :: st) h := by
  subst eq
  intro p e s m args below meth c H locs ls A P S L
  exact lv_lsub A.1 A.2.1 d  (k p e s m args below meth c H locs ls A P S L)
theorem rr_lmul {a b : Int64} (d : decode M.1 pc = .ok (.lmul, 1)) (eq : pc + 1 = q)  (k : vv_V x T M post q lo (.long (a * b) :: st) h) : vv_V x T M post pc lo (.long b :: .long a :: st) h := by
  subst eq
  intro p e s m args below meth c H locs ls A P S L
  exact lv_lmul A.1 A.2.1 d  (k p e s m args below meth c H locs ls A P S L)
theorem rr_land {a b : Int64} (d : decode M.1 pc = .ok (.land, 1)) (eq : pc + 1 = q)  (k : vv_V x T M post q lo (.long (a &&& b) :: st) h) : vv_V x T M post pc lo (.long b :: .long a :: st) h := by
  subst eq
  intro p e s m args below meth c H locs ls A P S L
  exact lv_land A.1 A.2.1 d  (k p e s m args below meth c H locs ls A P S L)
theorem rr_lor {a b : Int64} (d : decode M.1 pc = .ok (.lor, 1)) (eq : pc + 1 = q)  (k : vv_V x T M post q lo (.long (a ||| b) :: st) h) : vv_V x T M post pc lo (.long b :: .long a :: st) h := by
  subst eq
  intro p e s m args below meth c H locs ls A P S L
  exact lv_lor A.1 A.2.1 d  (k p e s m args below meth c H locs ls A P S L)
theorem rr_lxor {a b : Int64} (d : decode M.1 pc = .ok (.lxor, 1)) (eq : pc + 1 = q)  (k : vv_V x T M post q lo (.long (a ^^^ b) :: st) h) : vv_V x T M post pc lo (.long b :: .long a :: st) h := by
  subst eq
  intro p e s m args below meth c H locs ls A P S L
  exact lv_lxor A.1 A.2.1 d  (k p e s m args below meth c H locs ls A P S L)
theorem rr_lneg {a : Int64} (d : decode M.1 pc = .ok (.lneg, 1)) (eq : pc + 1 = q)  (k : vv_V x T M post q lo (.long (-a) :: st) h) : vv_V x T M post pc lo (.long a :: st) h := by
  subst eq
  intro p e s m args below meth c H locs ls A P S L
  exact lv_lneg A.1 A.2.1 d  (k p e s m args below meth c H locs ls A P S L)
theorem rr_ldiv {a b : Int64} (d : decode M.1 pc = .ok (.ldiv, 1)) (eq : pc + 1 = q) (hb : ¬ b = 0) (k : vv_V x T M post q lo (.long (a / b) :: st) h) : vv_V x T M post pc lo (.long b :: .long a :: st) h := by
  subst eq
  intro p e s m args below meth c H locs ls A P S L
  exact lv_ldiv A.1 A.2.1 d hb (k p e s m args below meth c H locs ls A P S L)
theorem rr_lrem {a b : Int64} (d : decode M.1 pc = .ok (.lrem, 1)) (eq : pc + 1 = q) (hb : ¬ b = 0) (k : vv_V x T M post q lo (.long (a - a / b * b) :: st) h) : vv_V x T M post pc lo (.long b :: .long a :: st) h := by
  subst eq
  intro p e s m args below meth c H locs ls A P S L
  exact lv_lrem A.1 A.2.1 d hb (k p e s m args below meth c H locs ls A P S L)
theorem rr_lshl {a : Int64} {b : Int32} (d : decode M.1 pc = .ok (.lshl, 1)) (eq : pc + 1 = q)  (k : vv_V x T M post q lo (.long (a <<< (b.toInt64 &&& 63)) :: st) h) : vv_V x T M post pc lo (.int b :: .long a :: st) h := by
  subst eq
  intro p e s m args below meth c H locs ls A P S L
  exact lv_lshl A.1 A.2.1 d rfl (k p e s m args below meth c H locs ls A P S L)
theorem rr_lshr {a : Int64} {b : Int32} (d : decode M.1 pc = .ok (.lshr, 1)) (eq : pc + 1 = q)  (k : vv_V x T M post q lo (.long (a >>> (b.toInt64 &&& 63)) :: st) h) : vv_V x T M post pc lo (.int b :: .long a :: st) h := by
  subst eq
  intro p e s m args below meth c H locs ls A P S L
  exact lv_lshr A.1 A.2.1 d rfl (k p e s m args below meth c H locs ls A P S L)
theorem rr_lushr {a : Int64} {b : Int32} (d : decode M.1 pc = .ok (.lushr, 1)) (eq : pc + 1 = q)  (k : vv_V x T M post q lo (.long ((a.toUInt64 >>> (b.toInt64.toUInt64 &&& Int64.toUInt64 63)).toInt64) :: st) h) : vv_V x T M post pc lo (.int b :: .long a :: st) h := by
  subst eq
  intro p e s m args below meth c H locs ls A P S L
  exact lv_lushr A.1 A.2.1 d rfl (k p e s m args below meth c H locs ls A P S L)
theorem rr_iushr {a b : Int32} (d : decode M.1 pc = .ok (.iushr, 1)) (eq : pc + 1 = q)  (k : vv_V x T M post q lo (.int ((a.toUInt32 >>> (b.toUInt32 &&& Int32.toUInt32 31)).toInt32) :: st) h) : vv_V x T M post pc lo (.int b :: .int a :: st) h := by
  subst eq
  intro p e s m args below meth c H locs ls A P S L
  exact lv_iushr A.1 A.2.1 d rfl (k p e s m args below meth c H locs ls A P S L)
theorem rr_i2l {a : Int32} (d : decode M.1 pc = .ok (.i2l, 1)) (eq : pc + 1 = q)  (k : vv_V x T M post q lo (.long a.toInt64 :: st) h) : vv_V x T M post pc lo (.int a :: st) h := by
  subst eq
  intro p e s m args below meth c H locs ls A P S L
  exact lv_i2l A.1 A.2.1 d rfl (k p e s m args below meth c H locs ls A P S L)
theorem rr_l2i {a : Int64} (d : decode M.1 pc = .ok (.l2i, 1)) (eq : pc + 1 = q)  (k : vv_V x T M post q lo (.int a.toInt32 :: st) h) : vv_V x T M post pc lo (.long a :: st) h := by
  subst eq
  intro p e s m args below meth c H locs ls A P S L
  exact lv_l2i A.1 A.2.1 d rfl (k p e s m args below meth c H locs ls A P S L)
theorem rr_i2b {a : Int32} (d : decode M.1 pc = .ok (.i2b, 1)) (eq : pc + 1 = q)  (k : vv_V x T M post q lo (.int a.toInt8.toInt32 :: st) h) : vv_V x T M post pc lo (.int a :: st) h := by
  subst eq
  intro p e s m args below meth c H locs ls A P S L
  exact lv_i2b A.1 A.2.1 d rfl (k p e s m args below meth c H locs ls A P S L)
theorem rr_i2s {a : Int32} (d : decode M.1 pc = .ok (.i2s, 1)) (eq : pc + 1 = q)  (k : vv_V x T M post q lo (.int a.toInt16.toInt32 :: st) h) : vv_V x T M post pc lo (.int a :: st) h := by
  subst eq
  intro p e s m args below meth c H locs ls A P S L
  exact lv_i2s A.1 A.2.1 d rfl (k p e s m args below meth c H locs ls A P S L)
theorem rr_lcmp {a b : Int64} (d : decode M.1 pc = .ok (.lcmp, 1)) (eq : pc + 1 = q)  (k : vv_V x T M post q lo (.int (lg_cmp a b) :: st) h) : vv_V x T M post pc lo (.long b :: .long a :: st) h := by
  subst eq
  intro p e s m args below meth c H locs ls A P S L
  exact W.lcmp A.1 A.2.1 d  (k p e s m args below meth c H locs ls A P S L)
theorem rr_dup {a : Value} (d : decode M.1 pc = .ok (.dup, 1)) (eq : pc + 1 = q) (ha : a.category = 1) (k : vv_V x T M post q lo (a :: a :: st) h) : vv_V x T M post pc lo (a :: st) h := by
  subst eq
  intro p e s m args below meth c H locs ls A P S L
  exact lv_dup A.1 A.2.1 d ha (k p e s m args below meth c H locs ls A P S L)
theorem rr_pop {a : Value} (d : decode M.1 pc = .ok (.pop, 1)) (eq : pc + 1 = q) (ha : a.category = 1) (k : vv_V x T M post q lo (st) h) : vv_V x T M post pc lo (a :: st) h := by
  subst eq
  intro p e s m args below meth c H locs ls A P S L
  exact lv_pop A.1 A.2.1 d ha (k p e s m args below meth c H locs ls A P S L)
theorem rr_dup_x1 {a b : Value} (d : decode M.1 pc = .ok (.dup_x1, 1)) (eq : pc + 1 = q) (ha : a.category = 1) (hb : b.category = 1) (k : vv_V x T M post q lo (a :: b :: a :: st) h) : vv_V x T M post pc lo (a :: b :: st) h := by
  subst eq
  intro p e s m args below meth c H locs ls A P S L
  exact lv_dup_x1 A.1 A.2.1 d ha hb (k p e s m args below meth c H locs ls A P S L)
theorem rr_dup2 {a b : Value} (d : decode M.1 pc = .ok (.dup2, 1)) (eq : pc + 1 = q) (ha : a.category = 1) (hb : b.category = 1) (k : vv_V x T M post q lo (a :: b :: a :: b :: st) h) : vv_V x T M post pc lo (a :: b :: st) h := by
  subst eq
  intro p e s m args below meth c H locs ls A P S L
  exact lv_dup2_11 A.1 A.2.1 d ha hb (k p e s m args below meth c H locs ls A P S L)
theorem rr_ldc {idx : Nat} {v : Int32} (d : decode M.1 pc = .ok (.ldc idx, 2)) (eq : pc + 2 = q) (hw : Cond.constant M.2.2.1 idx v ∈ vv_Tg) (k : vv_V x T M post q lo (.int v :: st) h) : vv_V x T M post pc lo (st) h := by
  subst eq
  intro p e s m args below meth c H locs ls A P S L
  exact lv_ldc A.1 A.2.1 A.2.2.2.1 (A.2.2.2.2.1 _ hw) d (k p e s m args below meth c H locs ls A P S L)
theorem rr_ldc2 {idx : Nat} {v : Int64} (d : decode M.1 pc = .ok (.ldc2_w idx, 3)) (eq : pc + 3 = q) (hw : Cond.constantLong M.2.2.1 idx v ∈ vv_Tg) (k : vv_V x T M post q lo (.long v :: st) h) : vv_V x T M post pc lo (st) h := by
  subst eq
  intro p e s m args below meth c H locs ls A P S L
  exact lv_ldc2 A.1 A.2.1 A.2.2.2.1 (A.2.2.2.2.1 _ hw) d (k p e s m args below meth c H locs ls A P S L)
theorem rr_if_eq {x0 : Int32} {off : Int} {tgt : Nat} {F G : Option α} {r : α} (d : decode M.1 pc = .ok (.ifCond .eq off, 3)) (ht : (pc : Int) + off = (tgt : Int)) (eq : pc + 3 = q) (hm : (if x0 = 0 then F else G) = some r) (kt : F = some r → vv_V x T M post tgt lo st h) (kf : G = some r → vv_V x T M post q lo st h) : vv_V x T M post pc lo (.int x0 :: st) h := by
  subst eq
  intro p e s m args below meth c H locs ls A P S L
  refine lv_if_eq A.1 A.2.1 d ht (fun z => kt ?_ p e s m args below meth c H locs ls A P S L) (fun z => kf ?_ p e s m args below meth c H locs ls A P S L)
  · rwa [if_pos z] at hm
  · rwa [if_neg z] at hm
theorem rr_icmp_eq {x0 y0 : Int32} {off : Int} {tgt : Nat} {F G : Option α} {r : α} (d : decode M.1 pc = .ok (.if_icmp .eq off, 3)) (ht : (pc : Int) + off = (tgt : Int)) (eq : pc + 3 = q) (hm : (if x0 = y0 then F else G) = some r) (kt : F = some r → vv_V x T M post tgt lo st h) (kf : G = some r → vv_V x T M post q lo st h) : vv_V x T M post pc lo (.int y0 :: .int x0 :: st) h := by
  subst eq
  intro p e s m args below meth c H locs ls A P S L
  refine lv_icmp_eq A.1 A.2.1 d ht (fun z => kt ?_ p e s m args below meth c H locs ls A P S L) (fun z => kf ?_ p e s m args below meth c H locs ls A P S L)
  · rwa [if_pos z] at hm
  · rwa [if_neg z] at hm
theorem rr_if_ne {x0 : Int32} {off : Int} {tgt : Nat} {F G : Option α} {r : α} (d : decode M.1 pc = .ok (.ifCond .ne off, 3)) (ht : (pc : Int) + off = (tgt : Int)) (eq : pc + 3 = q) (hm : (if x0 = 0 then G else F) = some r) (kt : F = some r → vv_V x T M post tgt lo st h) (kf : G = some r → vv_V x T M post q lo st h) : vv_V x T M post pc lo (.int x0 :: st) h := by
  subst eq
  intro p e s m args below meth c H locs ls A P S L
  refine lv_if_ne A.1 A.2.1 d ht (fun z => kt ?_ p e s m args below meth c H locs ls A P S L) (fun z => kf ?_ p e s m args below meth c H locs ls A P S L)
  · rwa [if_neg z] at hm
  · rwa [if_pos z] at hm
theorem rr_icmp_ne {x0 y0 : Int32} {off : Int} {tgt : Nat} {F G : Option α} {r : α} (d : decode M.1 pc = .ok (.if_icmp .ne off, 3)) (ht : (pc : Int) + off = (tgt : Int)) (eq : pc + 3 = q) (hm : (if x0 = y0 then G else F) = some r) (kt : F = some r → vv_V x T M post tgt lo st h) (kf : G = some r → vv_V x T M post q lo st h) : vv_V x T M post pc lo (.int y0 :: .int x0 :: st) h := by
  subst eq
  intro p e s m args below meth c H locs ls A P S L
  refine lv_icmp_ne A.1 A.2.1 d ht (fun z => kt ?_ p e s m args below meth c H locs ls A P S L) (fun z => kf ?_ p e s m args below meth c H locs ls A P S L)
  · rwa [if_neg z] at hm
  · rwa [if_pos z] at hm
theorem rr_if_lt {x0 : Int32} {off : Int} {tgt : Nat} {F G : Option α} {r : α} (d : decode M.1 pc = .ok (.ifCond .lt off, 3)) (ht : (pc : Int) + off = (tgt : Int)) (eq : pc + 3 = q) (hm : (if x0 < 0 then F else G) = some r) (kt : F = some r → vv_V x T M post tgt lo st h) (kf : G = some r → vv_V x T M post q lo st h) : vv_V x T M post pc lo (.int x0 :: st) h := by
  subst eq
  intro p e s m args below meth c H locs ls A P S L
  refine lv_if_lt A.1 A.2.1 d ht (fun z => kt ?_ p e s m args below meth c H locs ls A P S L) (fun z => kf ?_ p e s m args below meth c H locs ls A P S L)
  · rwa [if_pos z] at hm
  · rwa [if_neg z] at hm
theorem rr_icmp_lt {x0 y0 : Int32} {off : Int} {tgt : Nat} {F G : Option α} {r : α} (d : decode M.1 pc = .ok (.if_icmp .lt off, 3)) (ht : (pc : Int) + off = (tgt : Int)) (eq : pc + 3 = q) (hm : (if x0 < y0 then F else G) = some r) (kt : F = some r → vv_V x T M post tgt lo st h) (kf : G = some r → vv_V x T M post q lo st h) : vv_V x T M post pc lo (.int y0 :: .int x0 :: st) h := by
  subst eq
  intro p e s m args below meth c H locs ls A P S L
  refine lv_icmp_lt A.1 A.2.1 d ht (fun z => kt ?_ p e s m args below meth c H locs ls A P S L) (fun z => kf ?_ p e s m args below meth c H locs ls A P S L)
  · rwa [if_pos z] at hm
  · rwa [if_neg z] at hm
theorem rr_if_ge {x0 : Int32} {off : Int} {tgt : Nat} {F G : Option α} {r : α} (d : decode M.1 pc = .ok (.ifCond .ge off, 3)) (ht : (pc : Int) + off = (tgt : Int)) (eq : pc + 3 = q) (hm : (if 0 ≤ x0 then F else G) = some r) (kt : F = some r → vv_V x T M post tgt lo st h) (kf : G = some r → vv_V x T M post q lo st h) : vv_V x T M post pc lo (.int x0 :: st) h := by
  subst eq
  intro p e s m args below meth c H locs ls A P S L
  refine lv_if_ge A.1 A.2.1 d ht (fun z => kt ?_ p e s m args below meth c H locs ls A P S L) (fun z => kf ?_ p e s m args below meth c H locs ls A P S L)
  · rwa [if_pos z] at hm
  · rwa [if_neg z] at hm
theorem rr_icmp_ge {x0 y0 : Int32} {off : Int} {tgt : Nat} {F G : Option α} {r : α} (d : decode M.1 pc = .ok (.if_icmp .ge off, 3)) (ht : (pc : Int) + off = (tgt : Int)) (eq : pc + 3 = q) (hm : (if y0 ≤ x0 then F else G) = some r) (kt : F = some r → vv_V x T M post tgt lo st h) (kf : G = some r → vv_V x T M post q lo st h) : vv_V x T M post pc lo (.int y0 :: .int x0 :: st) h := by
  subst eq
  intro p e s m args below meth c H locs ls A P S L
  refine lv_icmp_ge A.1 A.2.1 d ht (fun z => kt ?_ p e s m args below meth c H locs ls A P S L) (fun z => kf ?_ p e s m args below meth c H locs ls A P S L)
  · rwa [if_pos z] at hm
  · rwa [if_neg z] at hm
theorem rr_if_gt {x0 : Int32} {off : Int} {tgt : Nat} {F G : Option α} {r : α} (d : decode M.1 pc = .ok (.ifCond .gt off, 3)) (ht : (pc : Int) + off = (tgt : Int)) (eq : pc + 3 = q) (hm : (if 0 < x0 then F else G) = some r) (kt : F = some r → vv_V x T M post tgt lo st h) (kf : G = some r → vv_V x T M post q lo st h) : vv_V x T M post pc lo (.int x0 :: st) h := by
  subst eq
  intro p e s m args below meth c H locs ls A P S L
  refine lv_if_gt A.1 A.2.1 d ht (fun z => kt ?_ p e s m args below meth c H locs ls A P S L) (fun z => kf ?_ p e s m args below meth c H locs ls A P S L)
  · rwa [if_pos z] at hm
  · rwa [if_neg z] at hm
theorem rr_icmp_gt {x0 y0 : Int32} {off : Int} {tgt : Nat} {F G : Option α} {r : α} (d : decode M.1 pc = .ok (.if_icmp .gt off, 3)) (ht : (pc : Int) + off = (tgt : Int)) (eq : pc + 3 = q) (hm : (if y0 < x0 then F else G) = some r) (kt : F = some r → vv_V x T M post tgt lo st h) (kf : G = some r → vv_V x T M post q lo st h) : vv_V x T M post pc lo (.int y0 :: .int x0 :: st) h := by
  subst eq
  intro p e s m args below meth c H locs ls A P S L
  refine lv_icmp_gt A.1 A.2.1 d ht (fun z => kt ?_ p e s m args below meth c H locs ls A P S L) (fun z => kf ?_ p e s m args below meth c H locs ls A P S L)
  · rwa [if_pos z] at hm
  · rwa [if_neg z] at hm
theorem rr_if_le {x0 : Int32} {off : Int} {tgt : Nat} {F G : Option α} {r : α} (d : decode M.1 pc = .ok (.ifCond .le off, 3)) (ht : (pc : Int) + off = (tgt : Int)) (eq : pc + 3 = q) (hm : (if x0 ≤ 0 then F else G) = some r) (kt : F = some r → vv_V x T M post tgt lo st h) (kf : G = some r → vv_V x T M post q lo st h) : vv_V x T M post pc lo (.int x0 :: st) h := by
  subst eq
  intro p e s m args below meth c H locs ls A P S L
  refine lv_if_le A.1 A.2.1 d ht (fun z => kt ?_ p e s m args below meth c H locs ls A P S L) (fun z => kf ?_ p e s m args below meth c H locs ls A P S L)
  · rwa [if_pos z] at hm
  · rwa [if_neg z] at hm
theorem rr_icmp_le {x0 y0 : Int32} {off : Int} {tgt : Nat} {F G : Option α} {r : α} (d : decode M.1 pc = .ok (.if_icmp .le off, 3)) (ht : (pc : Int) + off = (tgt : Int)) (eq : pc + 3 = q) (hm : (if x0 ≤ y0 then F else G) = some r) (kt : F = some r → vv_V x T M post tgt lo st h) (kf : G = some r → vv_V x T M post q lo st h) : vv_V x T M post pc lo (.int y0 :: .int x0 :: st) h := by
  subst eq
  intro p e s m args below meth c H locs ls A P S L
  refine lv_icmp_le A.1 A.2.1 d ht (fun z => kt ?_ p e s m args below meth c H locs ls A P S L) (fun z => kf ?_ p e s m args below meth c H locs ls A P S L)
  · rwa [if_pos z] at hm
  · rwa [if_neg z] at hm
theorem rr_goto {off : Int} {tgt : Nat} (d : decode M.1 pc = .ok (.goto off, 3)) (ht : (pc : Int) + off = (tgt : Int)) (k : vv_V x T M post tgt lo st h) : vv_V x T M post pc lo st h := by
  intro p e s m args below meth c H locs ls A P S L
  exact lv_goto A.1 A.2.1 d ht (k p e s m args below meth c H locs ls A P S L)
theorem rr_tswO {dflt lo0 hi0 : Int} {offs : Array Int} {len : Nat} {v : Int32} {tgt : Nat} (d : decode M.1 pc = .ok (.tableswitch dflt lo0 hi0 offs, len)) (hv : v.toInt < lo0 ∨ hi0 < v.toInt) (ht : (pc : Int) + dflt = (tgt : Int)) (k : vv_V x T M post tgt lo st h) : vv_V x T M post pc lo (.int v :: st) h := by
  intro p e s m args below meth c H locs ls A P S L
  exact lv_tableOut A.1 A.2.1 d hv ht (k p e s m args below meth c H locs ls A P S L)
theorem rr_tswI {dflt lo0 hi0 : Int} {offs : Array Int} {len : Nat} {v : Int32} {off : Int} {tgt : Nat} (d : decode M.1 pc = .ok (.tableswitch dflt lo0 hi0 offs, len)) (h1 : ¬ v.toInt < lo0) (h2 : ¬ hi0 < v.toInt) (ho : offs[(v.toInt - lo0).toNat]? = some off) (ht : (pc : Int) + off = (tgt : Int)) (k : vv_V x T M post tgt lo st h) : vv_V x T M post pc lo (.int v :: st) h := by
  intro p e s m args below meth c H locs ls A P S L
  exact lv_tableIn A.1 A.2.1 d h1 h2 ho ht (k p e s m args below meth c H locs ls A P S L)
theorem vv_neT {a b : Int32} (hh : ¬ a = b) : a.toInt ≠ b.toInt := fun e => hh (Int32.toInt_inj.mp e)
theorem rr_iret {v : Int32} (d : decode M.1 pc = .ok (.ireturn, 1)) (hr : M.2.2.2.1 = some .int) (hp : post (some (.int v)) h) : vv_V x T M post pc lo [.int v] h := by
  intro p e s m args below meth c H locs ls A P S L
  have hlocks : meth.locks = false := A.2.2.2.2.2.2.2.2.1
  exact W.iret A.1 A.2.1 (A.2.2.2.2.2.2.2.1.trans hr) (fun t ht _ => ⟨⟨_, h, rfl, hp, by rw [ht]; exact P⟩, S.F ht⟩) S.2.2 d
theorem rr_zret {v : Int32} (d : decode M.1 pc = .ok (.ireturn, 1)) (hr : M.2.2.2.1 = some .boolean) (hn : narrow .boolean (.int v) = .int v) (hp : post (some (.int v)) h) : vv_V x T M post pc lo [.int v] h := by
  intro p e s m args below meth c H locs ls A P S L
  have hlocks : meth.locks = false := A.2.2.2.2.2.2.2.2.1
  exact W.zret A.1 A.2.1 (A.2.2.2.2.2.2.2.1.trans hr) hn (fun t ht _ => ⟨⟨_, h, rfl, hp, by rw [ht]; exact P⟩, S.F ht⟩) S.2.2 d
theorem rr_lret {v : Int64} (d : decode M.1 pc = .ok (.lreturn, 1)) (hr : M.2.2.2.1 = some .long) (hp : post (some (.long v)) h) : vv_V x T M post pc lo [.long v] h := by
  intro p e s m args below meth c H locs ls A P S L
  have hlocks : meth.locks = false := A.2.2.2.2.2.2.2.2.1
  exact W.lret A.1 A.2.1 (A.2.2.2.2.2.2.2.1.trans hr) (fun t ht _ => ⟨⟨_, h, rfl, hp, by rw [ht]; exact P⟩, S.F ht⟩) S.2.2 d
theorem rr_vret (d : decode M.1 pc = .ok (.return_, 1)) (hr : M.2.2.2.1 = none) (hp : post none h) : vv_V x T M post pc lo [] h := by
  intro p e s m args below meth c H locs ls A P S L
  have hlocks : meth.locks = false := A.2.2.2.2.2.2.2.2.1
  exact W.vret A.1 A.2.1 (A.2.2.2.2.2.2.2.1.trans hr) (fun t ht _ => ⟨⟨_, h, rfl, hp, by rw [ht]; exact P⟩, S.F ht⟩) S.2.2 d
theorem rr_geti {k w ci j N idx : Nat} {C : String} {Tf : u_T} {fs : List (Nat × Nat)} (hl : T.1 k = (0, ci, fs)) (hk : k < T.2) (hf : fs[j]? = some (0, w)) (hc : vwCl[ci]? = some (C, Tf, N)) (hj : j < N) (hin : ∀ w ∈ u_ws C Tf N, w ∈ vv_Tg) (hw : Cond.fieldLink M.2.2.1 idx (Tf j).1 (Tf j).2.1 (Tf j).2.2.1 ∈ vv_Tg) (d : decode M.1 pc = .ok (.getfield idx, 3)) (eq : pc + 3 = q) (kk : vv_V x T M post q lo (.int (h.1 k j) :: st) h) : vv_V x T M post pc lo (.ref (vv_ad x k) :: st) h := by
  subst eq
  intro p e s m args below meth c H locs ls A P S L
  have e1 : vv_c x T h k = .inr (ci, vv_fs x h k fs) := by simp only [vv_c, hl]
  exact va_get A.1 A.2.1 A.2.2.2.2.1 hin A.2.2.2.1 A.2.2.2.2.2.1 P k (by rw [vv_w_get hk, e1]) hc j hj (A.2.2.2.2.1 _ hw) (fun _ z => z) (vv_fs_get hf) d (kk p e s m args below meth c H locs ls A P S L)
theorem rr_getr {k w ci j N idx : Nat} {C : String} {Tf : u_T} {fs : List (Nat × Nat)} (hl : T.1 k = (0, ci, fs)) (hk : k < T.2) (hf : fs[j]? = some (1, w)) (hc : vwCl[ci]? = some (C, Tf, N)) (hj : j < N) (hin : ∀ w ∈ u_ws C Tf N, w ∈ vv_Tg) (hw : Cond.fieldLink M.2.2.1 idx (Tf j).1 (Tf j).2.1 (Tf j).2.2.1 ∈ vv_Tg) (d : decode M.1 pc = .ok (.getfield idx, 3)) (eq : pc + 3 = q) (kk : vv_V x T M post q lo (.ref (vv_ad x w) :: st) h) : vv_V x T M post pc lo (.ref (vv_ad x k) :: st) h := by
  subst eq
  intro p e s m args below meth c H locs ls A P S L
  have e1 : vv_c x T h k = .inr (ci, vv_fs x h k fs) := by simp only [vv_c, hl]
  exact va_get A.1 A.2.1 A.2.2.2.2.1 hin A.2.2.2.1 A.2.2.2.2.2.1 P k (by rw [vv_w_get hk, e1]) hc j hj (A.2.2.2.2.1 _ hw) (fun _ z => z) (vv_fs_get hf) d (kk p e s m args below meth c H locs ls A P S L)
theorem rr_getd {k w ci j N idx : Nat} {C : String} {Tf : u_T} {fs : List (Nat × Nat)} (hl : T.1 k = (0, ci, fs)) (hk : k < T.2) (hf : fs[j]? = some (2, w)) (hc : vwCl[ci]? = some (C, Tf, N)) (hj : j < N) (hin : ∀ w ∈ u_ws C Tf N, w ∈ vv_Tg) (hw : Cond.fieldLink M.2.2.1 idx (Tf j).1 (Tf j).2.1 (Tf j).2.2.1 ∈ vv_Tg) (d : decode M.1 pc = .ok (.getfield idx, 3)) (eq : pc + 3 = q) (kk : vv_V x T M post q lo (.ref (vv_ad x (vv_rid (h.2.2 w))) :: st) h) : vv_V x T M post pc lo (.ref (vv_ad x k) :: st) h := by
  subst eq
  intro p e s m args below meth c H locs ls A P S L
  have e1 : vv_c x T h k = .inr (ci, vv_fs x h k fs) := by simp only [vv_c, hl]
  exact va_get A.1 A.2.1 A.2.2.2.2.1 hin A.2.2.2.1 A.2.2.2.2.2.1 P k (by rw [vv_w_get hk, e1]) hc j hj (A.2.2.2.2.1 _ hw) (fun _ z => z) (vv_fs_get hf) d (kk p e s m args below meth c H locs ls A P S L)
theorem rr_getl {k w ci j N idx : Nat} {C : String} {Tf : u_T} {fs : List (Nat × Nat)} (hl : T.1 k = (0, ci, fs)) (hk : k < T.2) (hf : fs[j]? = some (3, w)) (hc : vwCl[ci]? = some (C, Tf, N)) (hj : j < N) (hin : ∀ w ∈ u_ws C Tf N, w ∈ vv_Tg) (hw : Cond.fieldLink M.2.2.1 idx (Tf j).1 (Tf j).2.1 (Tf j).2.2.1 ∈ vv_Tg) (d : decode M.1 pc = .ok (.getfield idx, 3)) (eq : pc + 3 = q) (kk : vv_V x T M post q lo (.long (h.2.1 k j) :: st) h) : vv_V x T M post pc lo (.ref (vv_ad x k) :: st) h := by
  subst eq
  intro p e s m args below meth c H locs ls A P S L
  have e1 : vv_c x T h k = .inr (ci, vv_fs x h k fs) := by simp only [vv_c, hl]
  exact va_get A.1 A.2.1 A.2.2.2.2.1 hin A.2.2.2.1 A.2.2.2.2.2.1 P k (by rw [vv_w_get hk, e1]) hc j hj (A.2.2.2.2.1 _ hw) (fun _ z => z) (vv_fs_get hf) d (kk p e s m args below meth c H locs ls A P S L)
theorem rr_puti {k w ci j N idx : Nat} {C : String} {Tf : u_T} {ty0 : Nat → FieldType} {fs : List (Nat × Nat)} {v : Int32} (hl : T.1 k = (0, ci, fs)) (hk : k < T.2) (hf : fs[j]? = some (0, w)) (hc : vwCl[ci]? = some (C, Tf, N)) (hj : j < N) (hin : ∀ w ∈ u_ws C Tf N, w ∈ vv_Tg) (hw : Cond.fieldLink M.2.2.1 idx (Tf j).1 (Tf j).2.1 (Tf j).2.2.1 ∈ vv_Tg) (hty : ∀ k, k < N → parseFieldDescriptor (Tf k).2.2.1 = some (ty0 k)) (hnm : ∀ a, a < N → ∀ b, b < N → a ≠ b → (Tf a).2.1 ≠ (Tf b).2.1) (hfin : (Tf j).2.2.2 = false) (hd : parseFieldDescriptor (Tf j).2.2.1 = some .int)  (d : decode M.1 pc = .ok (.putfield idx, 3)) (eq : pc + 3 = q) (kk : vv_V x T M post q lo st (vv_iu h k j v)) : vv_V x T M post pc lo (.int v :: .ref (vv_ad x k) :: st) h := by
  subst eq
  intro p e s m args below meth c H locs ls A P S L
  have e1 : vv_c x T h k = .inr (ci, vv_fs x h k fs) := by simp only [vv_c, hl]
  have e2 : vv_fs x (vv_iu h k j v) k fs = (vv_fs x h k fs).set j (.int v) := by
    refine (vv_fs_set hf ?_ ?_).symm
    · show Value.int ((vv_iu h k j v).1 k j) = _
      rw [vv_iu_at]; simp [upd]
    · intro i e hi he
      obtain ⟨e1, e2⟩ := e
      have : (vv_iu h k j v).1 k i = h.1 k i := by
        rw [vv_iu_at]; simp [upd, hi]
      simp only [vv_fv, this]
      rfl
  have e3 : vv_c x T (vv_iu h k j v) k = .inr (ci, (vv_fs x h k fs).set j (.int v)) := by simp only [vv_c, hl, e2]
  have ho : ∀ a, a ≠ k → vv_c x T (vv_iu h k j v) a = vv_c x T h a := fun a ha => vv_c_iu a ha
  refine va_put A.1 A.2.1 A.2.2.2.2.1 hin ty0 hty hnm A.2.2.2.1 A.2.2.2.2.2.1 P (vv_D A.2.2.2.2.2.2.1 h) S k (by rw [vv_w_get hk, e1]) hc j hj (A.2.2.2.2.1 _ hw) (fun _ z => z) hfin hd rfl rfl (by simp [vv_fs]; exact (List.getElem?_eq_some_iff.mp hf).1) d (fun H1 locs1 P1 _ S1 => ?_)
  rw [vv_w_set hk e3 ho] at P1
  exact kk p e s m args below meth c H1 locs1 ls A P1 S1 L
theorem rr_putl {k w ci j N idx : Nat} {C : String} {Tf : u_T} {ty0 : Nat → FieldType} {fs : List (Nat × Nat)} {v : Int64} (hl : T.1 k = (0, ci, fs)) (hk : k < T.2) (hf : fs[j]? = some (3, w)) (hc : vwCl[ci]? = some (C, Tf, N)) (hj : j < N) (hin : ∀ w ∈ u_ws C Tf N, w ∈ vv_Tg) (hw : Cond.fieldLink M.2.2.1 idx (Tf j).1 (Tf j).2.1 (Tf j).2.2.1 ∈ vv_Tg) (hty : ∀ k, k < N → parseFieldDescriptor (Tf k).2.2.1 = some (ty0 k)) (hnm : ∀ a, a < N → ∀ b, b < N → a ≠ b → (Tf a).2.1 ≠ (Tf b).2.1) (hfin : (Tf j).2.2.2 = false) (hd : parseFieldDescriptor (Tf j).2.2.1 = some .long)  (d : decode M.1 pc = .ok (.putfield idx, 3)) (eq : pc + 3 = q) (kk : vv_V x T M post q lo st (vv_lu h k j v)) : vv_V x T M post pc lo (.long v :: .ref (vv_ad x k) :: st) h := by
  subst eq
  intro p e s m args below meth c H locs ls A P S L
  have e1 : vv_c x T h k = .inr (ci, vv_fs x h k fs) := by simp only [vv_c, hl]
  have e2 : vv_fs x (vv_lu h k j v) k fs = (vv_fs x h k fs).set j (.long v) := by
    refine (vv_fs_set hf ?_ ?_).symm
    · show Value.long ((vv_lu h k j v).2.1 k j) = _
      rw [vv_lu_at]; simp [vp_updL]
    · intro i e hi he
      obtain ⟨e1, e2⟩ := e
      have : (vv_lu h k j v).2.1 k i = h.2.1 k i := by
        rw [vv_lu_at]; simp [vp_updL, hi]
      simp only [vv_fv, this]
      rfl
  have e3 : vv_c x T (vv_lu h k j v) k = .inr (ci, (vv_fs x h k fs).set j (.long v)) := by simp only [vv_c, hl, e2]
  have ho : ∀ a, a ≠ k → vv_c x T (vv_lu h k j v) a = vv_c x T h a := fun a ha => vv_c_lu a ha
  refine va_put A.1 A.2.1 A.2.2.2.2.1 hin ty0 hty hnm A.2.2.2.1 A.2.2.2.2.2.1 P (vv_D A.2.2.2.2.2.2.1 h) S k (by rw [vv_w_get hk, e1]) hc j hj (A.2.2.2.2.1 _ hw) (fun _ z => z) hfin hd rfl rfl (by simp [vv_fs]; exact (List.getElem?_eq_some_iff.mp hf).1) d (fun H1 locs1 P1 _ S1 => ?_)
  rw [vv_w_set hk e3 ho] at P1
  exact kk p e s m args below meth c H1 locs1 ls A P1 S1 L
theorem rr_putd {k w ci j N idx : Nat} {C : String} {Tf : u_T} {ty0 : Nat → FieldType} {fs : List (Nat × Nat)} {v : Bool} (hl : T.1 k = (0, ci, fs)) (hk : k < T.2) (hf : fs[j]? = some (2, w)) (hc : vwCl[ci]? = some (C, Tf, N)) (hj : j < N) (hin : ∀ w ∈ u_ws C Tf N, w ∈ vv_Tg) (hw : Cond.fieldLink M.2.2.1 idx (Tf j).1 (Tf j).2.1 (Tf j).2.2.1 ∈ vv_Tg) (hty : ∀ k, k < N → parseFieldDescriptor (Tf k).2.2.1 = some (ty0 k)) (hnm : ∀ a, a < N → ∀ b, b < N → a ≠ b → (Tf a).2.1 ≠ (Tf b).2.1) (hfin : (Tf j).2.2.2 = false) {cn : String} (hd : parseFieldDescriptor (Tf j).2.2.1 = some (.object cn)) (hu : ∀ a, a ≠ k → ∀ (i d : Nat), (T.1 a).2.2[i]? = some (2, d) → d ≠ w) (hu2 : ∀ i, i ≠ j → ∀ d : Nat, fs[i]? = some (2, d) → d ≠ w) (d : decode M.1 pc = .ok (.putfield idx, 3)) (eq : pc + 3 = q) (kk : vv_V x T M post q lo st (vv_bu h w v)) : vv_V x T M post pc lo (.ref (vv_ad x (vv_rid v)) :: .ref (vv_ad x k) :: st) h := by
  subst eq
  intro p e s m args below meth c H locs ls A P S L
  have e1 : vv_c x T h k = .inr (ci, vv_fs x h k fs) := by simp only [vv_c, hl]
  have e2 : vv_fs x (vv_bu h w v) k fs = (vv_fs x h k fs).set j (.ref (vv_ad x (vv_rid v))) := by
    refine (vv_fs_set hf ?_ ?_).symm
    · show Value.ref (vv_ad x (vv_rid (if w = w then v else h.2.2 w))) = _
      rw [if_pos rfl]
    · intro i e hi he
      obtain ⟨e1, e2⟩ := e
      by_cases h2 : e1 = 2
      · subst h2
        have := hu2 i hi e2 he
        simp [vv_fv, vv_bu, this]
      · simp only [vv_fv, vv_bu]
        split <;> first | rfl | exact absurd rfl h2
  have e3 : vv_c x T (vv_bu h w v) k = .inr (ci, (vv_fs x h k fs).set j (.ref (vv_ad x (vv_rid v)))) := by simp only [vv_c, hl, e2]
  have ho : ∀ a, a ≠ k → vv_c x T (vv_bu h w v) a = vv_c x T h a := fun a ha => by
    have e4 : vv_fs x (vv_bu h w v) a (T.1 a).2.2 = vv_fs x h a (T.1 a).2.2 := by
      apply List.ext_getElem?
      intro i
      cases he : (T.1 a).2.2[i]? with
      | none => simp [vv_fs, List.getElem?_mapIdx, he]
      | some e =>
        obtain ⟨e1, e2⟩ := e
        rw [vv_fs_get he, vv_fs_get he]
        by_cases h2 : e1 = 2
        · subst h2
          have := hu a ha i e2 he
          simp [vv_fv, vv_bu, this]
        · simp only [vv_fv, vv_bu]
          split <;> first | rfl | exact absurd rfl h2
    simp only [vv_c, e4]
    rfl
  refine va_put A.1 A.2.1 A.2.2.2.2.1 hin ty0 hty hnm A.2.2.2.1 A.2.2.2.2.2.1 P (vv_D A.2.2.2.2.2.2.1 h) S k (by rw [vv_w_get hk, e1]) hc j hj (A.2.2.2.2.1 _ hw) (fun _ z => z) hfin hd rfl rfl (by simp [vv_fs]; exact (List.getElem?_eq_some_iff.mp hf).1) d (fun H1 locs1 P1 _ S1 => ?_)
  rw [vv_w_set hk e3 ho] at P1
  exact kk p e s m args below meth c H1 locs1 ls A P1 S1 L
theorem rr_iald {k n : Nat} {fs : List (Nat × Nat)} {i : Int32} (hl : T.1 k = (1, n, fs)) (hk : k < T.2) (hi : vp_in i n) (d : decode M.1 pc = .ok (.iaload, 1)) (eq : pc + 1 = q) (kk : vv_V x T M post q lo (.int (h.1 k i.toNatClampNeg) :: st) h) : vv_V x T M post pc lo (.int i :: .ref (vv_ad x k) :: st) h := by
  subst eq
  intro p e s m args below meth c H locs ls A P S L
  exact va_iald A.1 A.2.1 A.2.2.2.2.2.1 P k 0 (by rw [vv_w_get hk]; simp only [vv_c, hl]) rfl hi d (kk p e s m args below meth c H locs ls A P S L)
theorem rr_lald {k n : Nat} {fs : List (Nat × Nat)} {i : Int32} (hl : T.1 k = (2, n, fs)) (hk : k < T.2) (hi : vp_in i n) (d : decode M.1 pc = .ok (.laload, 1)) (eq : pc + 1 = q) (kk : vv_V x T M post q lo (.long (h.2.1 k i.toNatClampNeg) :: st) h) : vv_V x T M post pc lo (.int i :: .ref (vv_ad x k) :: st) h := by
  subst eq
  intro p e s m args below meth c H locs ls A P S L
  exact va_lald A.1 A.2.1 A.2.2.2.2.2.1 P k 1 (by rw [vv_w_get hk]; simp only [vv_c, hl]) rfl hi d (kk p e s m args below meth c H locs ls A P S L)
theorem rr_bald {k n : Nat} {fs : List (Nat × Nat)} {i : Int32} (hl : T.1 k = (3, n, fs)) (hk : k < T.2) (hi : vp_in i n) (d : decode M.1 pc = .ok (.baload, 1)) (eq : pc + 1 = q) (kk : vv_V x T M post q lo (.int (h.1 k i.toNatClampNeg) :: st) h) : vv_V x T M post pc lo (.int i :: .ref (vv_ad x k) :: st) h := by
  subst eq
  intro p e s m args below meth c H locs ls A P S L
  exact va_bald A.1 A.2.1 A.2.2.2.2.2.1 P k 2 (by rw [vv_w_get hk]; simp only [vv_c, hl]) rfl hi d (kk p e s m args below meth c H locs ls A P S L)
theorem rr_zald {k n : Nat} {fs : List (Nat × Nat)} {i : Int32} (hl : T.1 k = (4, n, fs)) (hk : k < T.2) (hi : vp_in i n) (d : decode M.1 pc = .ok (.baload, 1)) (eq : pc + 1 = q) (kk : vv_V x T M post q lo (.int (h.1 k i.toNatClampNeg) :: st) h) : vv_V x T M post pc lo (.int i :: .ref (vv_ad x k) :: st) h := by
  subst eq
  intro p e s m args below meth c H locs ls A P S L
  exact va_zald A.1 A.2.1 A.2.2.2.2.2.1 P k 3 (by rw [vv_w_get hk]; simp only [vv_c, hl]) rfl hi d (kk p e s m args below meth c H locs ls A P S L)
theorem rr_iast {k n : Nat} {fs : List (Nat × Nat)} {i : Int32} {v : Int32} (hl : T.1 k = (1, n, fs)) (hk : k < T.2) (hi : vp_in i n) (d : decode M.1 pc = .ok (.iastore, 1)) (eq : pc + 1 = q) (kk : vv_V x T M post q lo st (vv_iu h k i.toNatClampNeg v)) : vv_V x T M post pc lo (.int v :: .int i :: .ref (vv_ad x k) :: st) h := by
  subst eq
  intro p e s m args below meth c H locs ls A P S L
  refine va_iast (f := h.1 k) A.1 A.2.1 A.2.2.2.2.2.1 P (vv_D A.2.2.2.2.2.2.1 h) S k 0 (by rw [vv_w_get hk]; simp only [vv_c, hl]) rfl hi d (fun H1 locs1 P1 _ S1 => ?_)
  rw [vv_w_set hk (h' := vv_iu h k i.toNatClampNeg v) (by simp [vv_c, hl, vv_iu, vv_lu]) (fun a ha => vv_c_iu a ha)] at P1
  exact kk p e s m args below meth c H1 locs1 ls A P1 S1 L
theorem rr_last {k n : Nat} {fs : List (Nat × Nat)} {i : Int32} {v : Int64} (hl : T.1 k = (2, n, fs)) (hk : k < T.2) (hi : vp_in i n) (d : decode M.1 pc = .ok (.lastore, 1)) (eq : pc + 1 = q) (kk : vv_V x T M post q lo st (vv_lu h k i.toNatClampNeg v)) : vv_V x T M post pc lo (.long v :: .int i :: .ref (vv_ad x k) :: st) h := by
  subst eq
  intro p e s m args below meth c H locs ls A P S L
  refine va_last (f := h.2.1 k) A.1 A.2.1 A.2.2.2.2.2.1 P (vv_D A.2.2.2.2.2.2.1 h) S k 1 (by rw [vv_w_get hk]; simp only [vv_c, hl]) rfl hi d (fun H1 locs1 P1 _ S1 => ?_)
  rw [vv_w_set hk (h' := vv_lu h k i.toNatClampNeg v) (by simp [vv_c, hl, vv_iu, vv_lu]) (fun a ha => vv_c_lu a ha)] at P1
  exact kk p e s m args below meth c H1 locs1 ls A P1 S1 L
theorem rr_bast {k n : Nat} {fs : List (Nat × Nat)} {i : Int32} {v : Int32} (hl : T.1 k = (3, n, fs)) (hk : k < T.2) (hi : vp_in i n) (d : decode M.1 pc = .ok (.bastore, 1)) (eq : pc + 1 = q) (kk : vv_V x T M post q lo st (vv_iu h k i.toNatClampNeg (vp_nar .byte v))) : vv_V x T M post pc lo (.int v :: .int i :: .ref (vv_ad x k) :: st) h := by
  subst eq
  intro p e s m args below meth c H locs ls A P S L
  refine va_bast (f := h.1 k) A.1 A.2.1 A.2.2.2.2.2.1 P (vv_D A.2.2.2.2.2.2.1 h) S k 2 (by rw [vv_w_get hk]; simp only [vv_c, hl]) rfl hi d (fun H1 locs1 P1 _ S1 => ?_)
  rw [vv_w_set hk (h' := vv_iu h k i.toNatClampNeg (vp_nar .byte v)) (by simp [vv_c, hl, vv_iu, vv_lu]) (fun a ha => vv_c_iu a ha)] at P1
  exact kk p e s m args below meth c H1 locs1 ls A P1 S1 L
theorem rr_zast {k n : Nat} {fs : List (Nat × Nat)} {i : Int32} {v : Int32} (hl : T.1 k = (4, n, fs)) (hk : k < T.2) (hi : vp_in i n) (d : decode M.1 pc = .ok (.bastore, 1)) (eq : pc + 1 = q) (kk : vv_V x T M post q lo st (vv_iu h k i.toNatClampNeg (vp_nar .boolean v))) : vv_V x T M post pc lo (.int v :: .int i :: .ref (vv_ad x k) :: st) h := by
  subst eq
  intro p e s m args below meth c H locs ls A P S L
  refine va_zast (f := h.1 k) A.1 A.2.1 A.2.2.2.2.2.1 P (vv_D A.2.2.2.2.2.2.1 h) S k 3 (by rw [vv_w_get hk]; simp only [vv_c, hl]) rfl hi d (fun H1 locs1 P1 _ S1 => ?_)
  rw [vv_w_set hk (h' := vv_iu h k i.toNatClampNeg (vp_nar .boolean v)) (by simp [vv_c, hl, vv_iu, vv_lu]) (fun a ha => vv_c_iu a ha)] at P1
  exact kk p e s m args below meth c H1 locs1 ls A P1 S1 L
theorem rr_aald {k n base : Nat} {i : Int32} (hl : T.1 k = (5, n, [(base, 0)])) (hk : k < T.2) (hi : vp_in i n) (d : decode M.1 pc = .ok (.aaload, 1)) (eq : pc + 1 = q) (kk : vv_V x T M post q lo (.ref (vv_ad x (base + i.toNatClampNeg)) :: st) h) : vv_V x T M post pc lo (.int i :: .ref (vv_ad x k) :: st) h := by
  subst eq
  intro p e s m args below meth c H locs ls A P S L
  have hlt : i.toNatClampNeg < n := Nat.not_le.mp fun z => hi (Or.inr z)
  have e1 : (vv_w x T h)[k]? = some (vv_ad x k, .inl (x.2.2.1 4, n, .inr (.inr (.inr (.inr (vv_row x [(base, 0)])))))) := by rw [vv_w_get hk]; simp only [vv_c, hl]
  exact W.aald (v := va_rf (vv_row x [(base, 0)] i.toNatClampNeg)) (ty := .array .int) A.1 A.2.1 (P k _ e1) ((A.2.2.2.2.2.1.2 4 _ rfl).1 n (fun j => va_rf (vv_row x [(base, 0)] j))) rfl (fun z => by cases z) (by show ¬ (i < 0 ∨ (arrV _ _ _).slots.size ≤ _); rw [arrV_size]; exact hi) (by show (arrV _ _ _).slots[_]? = _; rw [arrV_read _ _ hlt]) rfl rfl d (kk p e s m args below meth c H locs ls A P S L)
theorem rr_alen {k t0 : Nat} {ty : FieldType} {cA : ClassId} {y : vp_A} {v : Int32} (hk : k < T.2) (hl : vv_c x T h k = .inl (cA, y)) (ht : (vv_tys x)[t0]? = some (cA, ty)) (hv : Int32.ofNat y.1 = v) (d : decode M.1 pc = .ok (.arraylength, 1)) (eq : pc + 1 = q) (kk : vv_V x T M post q lo (.int v :: st) h) : vv_V x T M post pc lo (.ref (vv_ad x k) :: st) h := by
  subst eq
  intro p e s m args below meth c H locs ls A P S L
  exact va_alen A.1 A.2.1 A.2.2.2.2.2.1 P k t0 (by rw [vv_w_get hk, hl]) ht hv d (kk p e s m args below meth c H locs ls A P S L)
end RR
