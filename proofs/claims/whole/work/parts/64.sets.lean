/-- sets as longs and as ints -/
def tb (y : Int64) (i : Nat) : Bool := y.toBitVec.getLsbD i
def ti (y : Int32) (i : Nat) : Bool := y.toBitVec.getLsbD i
theorem tb_and (a b : Int64) (i : Nat) : tb (a &&& b) i = (tb a i && tb b i) := by
  show (a.toBitVec &&& b.toBitVec).getLsbD i = _
  rw [BitVec.getLsbD_and]
  rfl
theorem tb_or (a b : Int64) (i : Nat) : tb (a ||| b) i = (tb a i || tb b i) := by
  show (a.toBitVec ||| b.toBitVec).getLsbD i = _
  rw [BitVec.getLsbD_or]
  rfl
theorem tb_not (a : Int64) {i : Nat} (hi : i < 64) : tb (a ^^^ (-1 : Int64)) i = !(tb a i) := by
  show (a.toBitVec ^^^ BitVec.allOnes 64).getLsbD i = _
  rw [BitVec.getLsbD_xor, BitVec.getLsbD_allOnes, decide_eq_true hi, Bool.xor_true]
  rfl
theorem tb_hi (a : Int64) {i : Nat} (hi : 64 ≤ i) : tb a i = false := BitVec.getLsbD_of_ge _ _ hi
theorem tb_0 (i : Nat) : tb 0 i = false := BitVec.getLsbD_zero
theorem tb_ext {a b : Int64} (h : ∀ i, i < 64 → tb a i = tb b i) : a = b := by
  apply Int64.toBitVec_inj.mp
  exact BitVec.eq_of_getLsbD_eq h
theorem tb_lN {n : Nat} (i : Nat) (hi : i < 64) : tb (lN n) i = n.testBit i := by
  show (BitVec.ofNat 64 n).getLsbD i = _
  rw [BitVec.getLsbD_ofNat, decide_eq_true hi, Bool.true_and]
theorem tb_nz {a : Int64} (h : ¬ a = 0) : ∃ i, i < 64 ∧ tb a i = true := by
  refine Classical.byContradiction fun g => h ?_
  refine tb_ext fun i hi => ?_
  rw [tb_0]
  cases e : tb a i
  · rfl
  · exact absurd ⟨i, hi, e⟩ g
theorem ti_and (a b : Int32) (i : Nat) : ti (a &&& b) i = (ti a i && ti b i) := by
  show (a.toBitVec &&& b.toBitVec).getLsbD i = _
  rw [BitVec.getLsbD_and]
  rfl
theorem ti_or (a b : Int32) (i : Nat) : ti (a ||| b) i = (ti a i || ti b i) := by
  show (a.toBitVec ||| b.toBitVec).getLsbD i = _
  rw [BitVec.getLsbD_or]
  rfl
theorem ti_not (a : Int32) {i : Nat} (hi : i < 32) : ti (a ^^^ (-1 : Int32)) i = !(ti a i) := by
  show (a.toBitVec ^^^ BitVec.allOnes 32).getLsbD i = _
  rw [BitVec.getLsbD_xor, BitVec.getLsbD_allOnes, decide_eq_true hi, Bool.xor_true]
  rfl
theorem ti_0 (i : Nat) : ti 0 i = false := BitVec.getLsbD_zero
theorem ti_ext {a b : Int32} (h : ∀ i, i < 32 → ti a i = ti b i) : a = b := by
  apply Int32.toBitVec_inj.mp
  exact BitVec.eq_of_getLsbD_eq h
theorem ti_nI {n : Nat} (i : Nat) (hi : i < 32) : ti (nI n) i = n.testBit i := by
  show (BitVec.ofNat 32 n).getLsbD i = _
  rw [BitVec.getLsbD_ofNat, decide_eq_true hi, Bool.true_and]
theorem ti_nz {a : Int32} (h : ¬ a = 0) : ∃ i, i < 32 ∧ ti a i = true := by
  refine Classical.byContradiction fun g => h ?_
  refine ti_ext fun i hi => ?_
  rw [ti_0]
  cases e : ti a i
  · rfl
  · exact absurd ⟨i, hi, e⟩ g
theorem tb_pw : ∀ p, p < 64 → ((1 : Int64) <<< ((nI p).toInt64 &&& 63)) = lN (2 ^ p) := by decide +kernel
theorem tb_p {p i : Nat} (hi : i < 64) : tb (lN (2 ^ p)) i = decide (p = i) := by
  rw [tb_lN i hi, Nat.testBit_two_pow]
theorem ti_pw : ∀ p, p < 32 → ((1 : Int32) <<< (nI p &&& 31)) = nI (2 ^ p) := by decide +kernel
theorem ti_p {p i : Nat} (hi : i < 32) : ti (nI (2 ^ p)) i = decide (p = i) := by
  rw [ti_nI i hi, Nat.testBit_two_pow]
/-- the lowest figure -/
theorem low_n {x : Nat} (h : 0 < x) : ∃ p k, x = 2 ^ (p + 1) * k + 2 ^ p := by
  induction x using Nat.strongRecOn with
  | _ x ih =>
    by_cases g : x % 2 = 1
    · refine ⟨0, x / 2, ?_⟩
      rw [show 2 ^ (0 + 1) = 2 from rfl, show 2 ^ 0 = 1 from rfl]
      omega
    · obtain ⟨p, k, e⟩ := ih (x / 2) (by omega) (by omega)
      refine ⟨p + 1, k, ?_⟩
      have e2 : x = 2 * (x / 2) := by omega
      rw [e2, e, Nat.pow_succ 2 (p + 1), Nat.pow_succ 2 p]
      simp only [Nat.mul_add, Nat.mul_assoc, Nat.mul_comm, Nat.mul_left_comm]
theorem low_tb {p k : Nat} (i : Nat) : (2 ^ (p + 1) * k + 2 ^ p).testBit i = (decide (i = p) || (decide (p < i) && k.testBit (i - (p + 1)))) := by
  rw [Nat.testBit_two_pow_mul_add _ (Nat.pow_lt_pow_right (by decide) (by omega)), Nat.testBit_two_pow]
  by_cases h1 : i < p + 1
  · rw [if_pos h1]
    by_cases h2 : p = i
    · rw [decide_eq_true h2, decide_eq_true h2.symm, Bool.true_or]
    · rw [decide_eq_false h2, decide_eq_false (fun h => h2 h.symm), decide_eq_false (show ¬ p < i by omega)]
      rfl
  · rw [if_neg h1, decide_eq_false (show ¬ i = p by omega), decide_eq_true (show p < i by omega)]
    rfl
theorem low_pr {p k : Nat} (i : Nat) : (2 ^ (p + 1) * k + 2 ^ p - 1).testBit i = (decide (i < p) || (decide (p < i) && k.testBit (i - (p + 1)))) := by
  have h0 : 0 < 2 ^ p := Nat.pow_pos (by decide)
  have hb : 2 ^ p - 1 < 2 ^ (p + 1) := by
    rw [Nat.pow_succ]
    omega
  rw [Nat.add_sub_assoc h0, Nat.testBit_two_pow_mul_add _ hb, Nat.testBit_two_pow_sub_one]
  by_cases h1 : i < p + 1
  · rw [if_pos h1, decide_eq_false (show ¬ p < i by omega), Bool.false_and, Bool.or_false]
  · rw [if_neg h1, decide_eq_false (show ¬ i < p by omega), decide_eq_true (show p < i by omega)]
    rfl
theorem bcl : ∀ p, p < 64 → ff_J13_bitCount_95d88 (lN (2 ^ p) - 1) = some (nI p) := by decide +kernel
theorem bci : ∀ p, p < 32 → ff_J6_bitCount_0f7a4 (nI (2 ^ p) - 1) = some (nI p) := by decide +kernel
theorem low_b {y : Int64} (h : ¬ y = 0) : ∃ p, p < 64 ∧ tb y p = true ∧ (∀ i, i < p → tb y i = false) ∧ y &&& -y = lN (2 ^ p) ∧ ff_J13_bitCount_95d88 ((y &&& -y) - 1) = some (nI p) ∧ ∀ i, tb (y &&& (y - 1)) i = (tb y i && decide (i ≠ p)) := by
  obtain ⟨x, hx⟩ : ∃ x, x = y.toBitVec.toNat := ⟨_, rfl⟩
  have hx64 : x < 2 ^ 64 := by rw [hx]; exact y.toBitVec.isLt
  have ty : ∀ i, tb y i = x.testBit i := fun i => by rw [hx]; rfl
  have x0 : 0 < x := by
    refine Nat.pos_of_ne_zero fun e => h ?_
    refine tb_ext fun i _ => ?_
    rw [ty, e, tb_0, Nat.zero_testBit]
  obtain ⟨p, k, e⟩ := low_n x0
  have hp : p < 64 := by
    refine Nat.lt_of_not_le fun q => ?_
    have : 2 ^ 64 ≤ 2 ^ p := Nat.pow_le_pow_right (by decide) q
    omega
  have e1 : (y - 1).toBitVec.toNat = x - 1 := by
    show (y.toBitVec - 1#64).toNat = x - 1
    rw [BitVec.toNat_sub, ← hx]
    show (2 ^ 64 - 1 + x) % 2 ^ 64 = x - 1
    omega
  have t1 : ∀ i, tb (y - 1) i = (x - 1).testBit i := fun i => by rw [← e1]; rfl
  have e2 : (-y).toBitVec.toNat = 2 ^ 64 - x := by
    show (-y.toBitVec).toNat = 2 ^ 64 - x
    rw [BitVec.toNat_neg, ← hx, Nat.mod_eq_of_lt (by omega)]
  have t2 : ∀ i, i < 64 → tb (-y) i = !((x - 1).testBit i) := fun i hi => by
    show (-y).toBitVec.toNat.testBit i = _
    rw [e2, show 2 ^ 64 - x = 2 ^ 64 - ((x - 1) + 1) by omega, Nat.testBit_two_pow_sub_succ (by omega), decide_eq_true hi, Bool.true_and]
  have an : y &&& -y = lN (2 ^ p) := by
    refine tb_ext fun i hi => ?_
    rw [tb_and, ty, t2 i hi, tb_p hi, e, low_tb, low_pr]
    by_cases a1 : i = p
    · rw [decide_eq_true a1, decide_eq_false (show ¬ i < p by omega), decide_eq_false (show ¬ p < i by omega), decide_eq_true a1.symm]
      rfl
    · rw [decide_eq_false a1, decide_eq_false (fun q => a1 q.symm : ¬ p = i)]
      cases decide (p < i) && k.testBit (i - (p + 1)) <;> cases decide (i < p) <;> rfl
  refine ⟨p, hp, ?_, fun i hi => ?_, an, by rw [an]; exact bcl p hp, fun i => ?_⟩
  · rw [ty, e, low_tb, decide_eq_true rfl, Bool.true_or]
  · rw [ty, e, low_tb, decide_eq_false (show ¬ i = p by omega), decide_eq_false (show ¬ p < i by omega)]
    rfl
  · rw [tb_and, ty, t1, e, low_tb, low_pr]
    by_cases a1 : i = p
    · rw [decide_eq_true a1, decide_eq_false (show ¬ i < p by omega), decide_eq_false (show ¬ p < i by omega), decide_eq_false (fun q => q a1)]
      rfl
    · rw [decide_eq_false a1, decide_eq_true a1]
      by_cases a2 : p < i
      · rw [decide_eq_true a2, decide_eq_false (show ¬ i < p by omega)]
        cases k.testBit (i - (p + 1)) <;> rfl
      · rw [decide_eq_false a2]
        rfl
theorem low_i {y : Int32} (h : ¬ y = 0) : ∃ p, p < 32 ∧ ti y p = true ∧ (∀ i, i < p → ti y i = false) ∧ ff_J6_bitCount_0f7a4 ((y &&& -y) - 1) = some (nI p) ∧ ∀ i, ti (y &&& (y - 1)) i = (ti y i && decide (i ≠ p)) := by
  obtain ⟨x, hx⟩ : ∃ x, x = y.toBitVec.toNat := ⟨_, rfl⟩
  have hx64 : x < 2 ^ 32 := by rw [hx]; exact y.toBitVec.isLt
  have ty : ∀ i, ti y i = x.testBit i := fun i => by rw [hx]; rfl
  have x0 : 0 < x := by
    refine Nat.pos_of_ne_zero fun e => h ?_
    refine ti_ext fun i _ => ?_
    rw [ty, e, ti_0, Nat.zero_testBit]
  obtain ⟨p, k, e⟩ := low_n x0
  have hp : p < 32 := by
    refine Nat.lt_of_not_le fun q => ?_
    have : 2 ^ 32 ≤ 2 ^ p := Nat.pow_le_pow_right (by decide) q
    omega
  have e1 : (y - 1).toBitVec.toNat = x - 1 := by
    show (y.toBitVec - 1#32).toNat = x - 1
    rw [BitVec.toNat_sub, ← hx]
    show (2 ^ 32 - 1 + x) % 2 ^ 32 = x - 1
    omega
  have t1 : ∀ i, ti (y - 1) i = (x - 1).testBit i := fun i => by rw [← e1]; rfl
  have e2 : (-y).toBitVec.toNat = 2 ^ 32 - x := by
    show (-y.toBitVec).toNat = 2 ^ 32 - x
    rw [BitVec.toNat_neg, ← hx, Nat.mod_eq_of_lt (by omega)]
  have t2 : ∀ i, i < 32 → ti (-y) i = !((x - 1).testBit i) := fun i hi => by
    show (-y).toBitVec.toNat.testBit i = _
    rw [e2, show 2 ^ 32 - x = 2 ^ 32 - ((x - 1) + 1) by omega, Nat.testBit_two_pow_sub_succ (by omega), decide_eq_true hi, Bool.true_and]
  have an : y &&& -y = nI (2 ^ p) := by
    refine ti_ext fun i hi => ?_
    rw [ti_and, ty, t2 i hi, ti_p hi, e, low_tb, low_pr]
    by_cases a1 : i = p
    · rw [decide_eq_true a1, decide_eq_false (show ¬ i < p by omega), decide_eq_false (show ¬ p < i by omega), decide_eq_true a1.symm]
      rfl
    · rw [decide_eq_false a1, decide_eq_false (fun q => a1 q.symm : ¬ p = i)]
      cases decide (p < i) && k.testBit (i - (p + 1)) <;> cases decide (i < p) <;> rfl
  refine ⟨p, hp, ?_, fun i hi => ?_, by rw [an]; exact bci p hp, fun i => ?_⟩
  · rw [ty, e, low_tb, decide_eq_true rfl, Bool.true_or]
  · rw [ty, e, low_tb, decide_eq_false (show ¬ i = p by omega), decide_eq_false (show ¬ p < i by omega)]
    rfl
  · rw [ti_and, ty, t1, e, low_tb, low_pr]
    by_cases a1 : i = p
    · rw [decide_eq_true a1, decide_eq_false (show ¬ i < p by omega), decide_eq_false (show ¬ p < i by omega), decide_eq_false (fun q => q a1)]
      rfl
    · rw [decide_eq_false a1, decide_eq_true a1]
      by_cases a2 : p < i
      · rw [decide_eq_true a2, decide_eq_false (show ¬ i < p by omega)]
        cases k.testBit (i - (p + 1)) <;> rfl
      · rw [decide_eq_false a2]
        rfl
/-- an injection of the A among the first n into the T among the first m -/
theorem cu_inj {m : Nat} : ∀ (n : Nat) (A T : Nat → Nat) (f : Nat → Nat), (∀ i, i < n → A i ≤ 1) → (∀ i, i < n → A i = 1 → f i < m ∧ T (f i) = 1) → (∀ i j, i < n → j < n → A i = 1 → A j = 1 → f i = f j → i = j) → cu A n ≤ cu T m := by
  intro n
  induction n with
  | zero => exact fun _ _ _ _ _ _ => Nat.zero_le _
  | succ n ih =>
    intro A T f h1 h2 h3
    have a1 := h1 n (by omega)
    have hs : cu A (n + 1) = cu A n + A n := rfl
    by_cases g : A n = 1
    · obtain ⟨b1, b2⟩ := h2 n (by omega) g
      have i1 := ih A (pt T (f n) 0) f (fun i hi => h1 i (by omega)) (fun i hi hA => by
        obtain ⟨c1, c2⟩ := h2 i (by omega) hA
        refine ⟨c1, ?_⟩
        rw [pt, if_neg (fun e => by
          have := h3 i n (by omega) (by omega) hA g e
          omega)]
        exact c2) (fun i j hi hj => h3 i j (by omega) (by omega))
      have i2 : ∀ k, f n < k → cu T k = cu (pt T (f n) 0) k + 1 := fun k => by
        induction k with
        | zero => exact fun h => absurd h (Nat.not_lt_zero _)
        | succ k ihk =>
          intro hk
          show cu T k + T k = cu (pt T (f n) 0) k + pt T (f n) 0 k + 1
          by_cases e : k = f n
          · rw [e, show pt T (f n) 0 (f n) = 0 from if_pos rfl, b2, cu_eq (f n) (f := pt T (f n) 0) (g := T) fun i hi => if_neg (by omega)]
          · have := ihk (by omega)
            rw [show pt T (f n) 0 k = T k from if_neg e]
            omega
      have := i2 m b1
      omega
    · have := ih A T f (fun i hi => h1 i (by omega)) (fun i hi => h2 i (by omega)) (fun i j hi hj => h3 i j (by omega) (by omega))
      omega
