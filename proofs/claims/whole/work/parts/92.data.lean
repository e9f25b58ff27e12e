/-! what the Statement gives at the law's entry -/
section ST
variable {s : State} {args : Array Value}
theorem st_classes (hts : ∀ w ∈ vv_Tg, w.before args s = true) : ∃ (dC : Nat → ClassId) (dI : Nat → Nat → Nat), ∀ (c : Nat) (q : vw_C), vwCl[c]? = some q → u_Kn s q.1 q.2.1 q.2.2 (dC c) (dI c) := by
  have key : ∀ {c : Nat} {C : String} {T : u_T} {N : Nat}, vwCl[c]? = some (C, T, N) → (∀ w ∈ u_ws C T N, w ∈ vv_Tg) → Cond.instantiable C N ∈ vv_Tg → ∃ r : ClassId × (Nat → Nat), ∀ q : vw_C, vwCl[c]? = some q → u_Kn s q.1 q.2.1 q.2.2 r.1 r.2 := by
    intro c C T N hc hin hi
    obtain ⟨cC, iS, hKn⟩ := u_known (C := C) (T := T) (N := N) (n := N) hts hin (hts _ hi)
    refine ⟨(cC, iS), fun q hq => ?_⟩
    have e := Option.some.inj (hc.symm.trans hq)
    rw [← e]
    exact hKn
  have h13 : ∀ c : Nat, c < 13 → ∃ r : ClassId × (Nat → Nat), ∀ q : vw_C, vwCl[c]? = some q → u_Kn s q.1 q.2.1 q.2.2 r.1 r.2 := by
    refine all_s (n := 12) ?_ (key (C := RX12) (T := TX12) (N := 73) rfl inX12 (by decide +kernel))
    refine all_s (n := 11) ?_ (key (C := RX11) (T := TX11) (N := 14) rfl inX11 (by decide +kernel))
    refine all_s (n := 10) ?_ (key (C := RX10) (T := TX10) (N := 6) rfl inX10 (by decide +kernel))
    refine all_s (n := 9) ?_ (key (C := RX9) (T := TX9) (N := 7) rfl inX9 (by decide +kernel))
    refine all_s (n := 8) ?_ (key (C := RX8) (T := TX8) (N := 4) rfl inX8 (by decide +kernel))
    refine all_s (n := 7) ?_ (key (C := RX7) (T := TX7) (N := 3) rfl inX7 (by decide +kernel))
    refine all_s (n := 6) ?_ (key (C := RX6) (T := TX6) (N := 9) rfl inX6 (by decide +kernel))
    refine all_s (n := 5) ?_ (key (C := RX5) (T := TX5) (N := 4) rfl inX5 (by decide +kernel))
    refine all_s (n := 4) ?_ (key (C := RX4) (T := TX4) (N := 11) rfl inX4 (by decide +kernel))
    refine all_s (n := 3) ?_ (key (C := RX3) (T := TX3) (N := 9) rfl inX3 (by decide +kernel))
    refine all_s (n := 2) ?_ (key (C := RX2) (T := TX2) (N := 6) rfl inX2 (by decide +kernel))
    refine all_s (n := 1) ?_ (key (C := RX1) (T := TX1) (N := 5) rfl inX1 (by decide +kernel))
    refine all_s (n := 0) ?_ (key (C := RX0) (T := TX0) (N := 3) rfl inX0 (by decide +kernel))
    exact all_0
  have h0 : ∀ c : Nat, ∃ r : ClassId × (Nat → Nat), ∀ q : vw_C, vwCl[c]? = some q → u_Kn s q.1 q.2.1 q.2.2 r.1 r.2 := by
    intro c
    by_cases hc : c < 13
    · exact h13 c hc
    · obtain ⟨r, -⟩ := h13 0 (by decide)
      refine ⟨r, fun q hq => ?_⟩
      rw [List.getElem?_eq_none (by show 13 ≤ c; omega)] at hq
      cases hq
  obtain ⟨f, hf⟩ := Classical.axiomOfChoice h0
  exact ⟨fun c => (f c).1, fun c => (f c).2, hf⟩
theorem st_types (hts : ∀ w ∈ vv_Tg, w.before args s = true) (ho : (Cond.arrayOver (.array .int)).before args s = true) : ∃ ty : Nat → ClassId, ∀ (k : Nat) (q : ClassId × FieldType), ([(ty 0, .int), (ty 1, .long), (ty 2, .byte), (ty 3, .boolean), (ty 4, .array .int)] : List (ClassId × FieldType))[k]? = some q → ArrOfT s q.1 q.2 ∧ va_RA s q.1 q.2 := by
  obtain ⟨c0, k0, p0, a0, b0, d0⟩ := Cond.arrayClass_spec (args := args) (first := s) (o := none) (s := s) (idx := []) (type := .int) (hts _ iw_2)
  obtain ⟨c1, k1, p1, a1, b1, d1⟩ := Cond.arrayClass_spec (args := args) (first := s) (o := none) (s := s) (idx := []) (type := .long) (hts _ iw_3)
  obtain ⟨c2, k2, p2, a2, b2, d2⟩ := Cond.arrayClass_spec (args := args) (first := s) (o := none) (s := s) (idx := []) (type := .byte) (hts _ iw_4)
  obtain ⟨c3, k3, p3, a3, b3, d3⟩ := Cond.arrayClass_spec (args := args) (first := s) (o := none) (s := s) (idx := []) (type := .boolean) (hts _ iw_5)
  obtain ⟨p4, c4, k4, -, -, b4, d4, a4⟩ := arrayOverA_spec (args := args) (first := s) (o := none) (s := s) (idx := []) (t := .int) ho
  refine ⟨fun k => match k with | 0 => c0 | 1 => c1 | 2 => c2 | 3 => c3 | _ => c4, fun k q hq => ?_⟩
  match k, hq with
  | 0, hq => cases hq; exact ⟨fun n z => ⟨(fun k h => by cases h), k0, b0, p0, d0⟩, a0⟩
  | 1, hq => cases hq; exact ⟨fun n z => ⟨(fun k h => by cases h), k1, b1, p1, d1⟩, a1⟩
  | 2, hq => cases hq; exact ⟨fun n z => ⟨(fun k h => by cases h), k2, b2, p2, d2⟩, a2⟩
  | 3, hq => cases hq; exact ⟨fun n z => ⟨(fun k h => by cases h), k3, b3, p3, d3⟩, a3⟩
  | 4, hq => cases hq; exact ⟨fun n z => ⟨(fun k h => by cases h), k4, b4, p4, d4⟩, a4⟩
  | k + 5, hq => simp at hq
/-- the flat premises -/
def st_fl : List Cond := flatC (Jvm.Cond.and given_1 narrow_1)
def st_tm (i : Nat) : Term := .string RX10 (vv_sidx.getD i 0)
theorem st_1 : ∀ i, i < 9 → vv_slen.getD i 0 < 2 ^ 31 := by decide +kernel
theorem st_2 : ∀ i, i < 9 → Cond.exactly (st_tm i) "java/lang/String" ∈ st_fl := by decide +kernel
theorem st_3 : ∀ i, i < 9 → Cond.eq (.field (st_tm i) "java/lang/String" "coder" "B") (.int 0) ∈ st_fl := by decide +kernel
theorem st_4 : ∀ i, i < 9 → Cond.arrayOf (.field (st_tm i) "java/lang/String" "value" "[B") .byte ∈ st_fl := by decide +kernel
theorem st_5 : ∀ i, i < 9 → Cond.eq (.length (.field (st_tm i) "java/lang/String" "value" "[B")) (.int (Int32.ofNat (vv_slen.getD i 0))) ∈ st_fl := by decide +kernel
theorem st_6 : ∀ i, i < 9 → ∀ j, j < vv_slen.getD i 0 → Cond.eq (.elem (.field (st_tm i) "java/lang/String" "value" "[B") (.int (Int32.ofNat j))) (.int ((vv_sbyt.getD i []).getD j 0)) ∈ st_fl := by decide +kernel
theorem st_7 : ∀ i, i < 9 → ∀ j, j < 9 → i ≠ j → Cond.not (Cond.eq (st_tm i) (st_tm j)) ∈ st_fl ∨ Cond.not (Cond.eq (st_tm j) (st_tm i)) ∈ st_fl := by decide +kernel
theorem st_8 : Cond.eq (.static "java/lang/String" "COMPACT_STRINGS" "Z") (.int 1) ∈ st_fl := by decide +kernel
theorem st_9 : Cond.isRef (.static "jdk/internal/util/Preconditions" "SIOOBE_FORMATTER" "Ljava/util/function/BiFunction;") ∈ st_fl := by decide +kernel
theorem st_10 : Cond.laysStatic "java/lang/String" "COMPACT_STRINGS" "Z" ∈ lw_tbl := by decide +kernel
theorem st_11 : Cond.laysStatic "jdk/internal/util/Preconditions" "SIOOBE_FORMATTER" "Ljava/util/function/BiFunction;" ∈ lw_tbl := by decide +kernel
theorem st_12 : Cond.initialized "java/lang/String" ∈ lw_tbl := by decide +kernel
theorem st_13 : Cond.initialized "jdk/internal/util/Preconditions" ∈ lw_tbl := by decide +kernel
theorem st_14 : ∀ i, i < 9 → Cond.stringRef RX10 (vv_sidx.getD i 0) (vv_stxt.getD i "") ∈ lw_tbl := by decide +kernel
theorem st_15 : Cond.methodLinkNest RX4 vv_nix yX11_waysToDraw RX11 ∈ lw_tbl := by decide +kernel
theorem st_16 : ∀ q ∈ ii_nst, Cond.methodLinkNest RX11 q.1 q.2 RX11 ∈ lw_tbl := by decide +kernel
theorem st_17 : Cond.arrayOver (.array .int) ∈ lw_tbl := by decide +kernel
/-- constants and statics, of which no cell of ours is one -/
theorem st_Z (hts : ∀ w ∈ lw_tbl, w.before args s = true) (hgv : (Jvm.Cond.and given_1 narrow_1).before args s = true) : ∃ kS vS : Nat → Nat, ∀ (x : vv_E) (N : Nat), x.2.2.2.2.1 = kS → x.2.2.2.2.2 = vS → (∀ k, s.heap.size ≤ vv_ad x k) → vv_Z x N s s.heap := by
  have hs : ∀ w ∈ st_fl, w.before args s = true := flat_of_before _ hgv
  have hA : ∀ a : Nat, a < s.heap.size → ¬ (fun q : Nat => s.heap.size ≤ q) a := fun a h => Nat.not_le.mpr h
  obtain ⟨kS, vS, h1, h2⟩ := vk_Sof (args := args) (s := s) (N := 9) (tm := st_tm) (len := vv_slen) (byt := vv_sbyt) (A := fun q : Nat => s.heap.size ≤ q) st_1 (fun i hi => hs _ (st_2 i hi)) (fun i hi => hs _ (st_3 i hi)) (fun i hi => hs _ (st_4 i hi)) (fun i hi => hs _ (st_5 i hi)) (fun i hi j hj => hs _ (st_6 i hi j hj)) (fun i j hi hj hij => (st_7 i hi j hj hij).imp (fun z => hs _ z) (fun z => hs _ z)) hA
  obtain ⟨v, hv, hr⟩ := Cond.isRef_spec (hs _ st_9)
  refine ⟨kS, vS, fun x N e1 e2 had => ?_⟩
  have hAB : ∀ q, vv_AD x N q → (fun q : Nat => s.heap.size ≤ q) q := fun q ⟨k, _, hk⟩ => by
    show s.heap.size ≤ q
    rw [hk]
    exact had k
  refine ⟨⟨?_, (va_Zof (hts _ st_10) (hts _ st_12) (va_eqi (hs _ st_8)) hA).narrow hAB, v, hr, (va_Zof (hts _ st_11) (hts _ st_13) hv hA).narrow hAB⟩, va_Nw.of rfl (hts _ st_15), fun i hi => ?_⟩
  · rw [e1, e2]
    exact h1.narrow hAB
  · rw [e1]
    exact vk_R.of (hts _ (st_14 i hi)) (h2 i hi)
end ST
