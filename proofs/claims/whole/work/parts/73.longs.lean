theorem lN_an (a b : Nat) : lN a &&& lN b = lN (a &&& b) := by
  apply Int64.toBitVec_inj.mp
  show BitVec.ofNat 64 a &&& BitVec.ofNat 64 b = BitVec.ofNat 64 (a &&& b)
  apply BitVec.eq_of_getLsbD_eq
  intro i hi
  rw [BitVec.getLsbD_and, BitVec.getLsbD_ofNat, BitVec.getLsbD_ofNat, BitVec.getLsbD_ofNat, Nat.testBit_and]
  rw [decide_eq_true hi, Bool.true_and, Bool.true_and, Bool.true_and]
theorem lN_sh {x k : Nat} (hx : x < 2 ^ 64) {s : UInt64} (hs : s.toNat % 64 = k) : ((lN x).toUInt64 >>> s).toInt64 = lN (x / 2 ^ k) := by
  apply Int64.toBitVec_inj.mp
  apply BitVec.eq_of_toNat_eq
  show ((lN x).toUInt64 >>> s).toNat = (BitVec.ofNat 64 (x / 2 ^ k)).toNat
  rw [UInt64.toNat_shiftRight, hs, Nat.shiftRight_eq_div_pow, BitVec.toNat_ofNat]
  have e : (lN x).toUInt64.toNat = x := by
    show (BitVec.ofNat 64 x).toNat = x
    rw [BitVec.toNat_ofNat, Nat.mod_eq_of_lt hx]
  rw [e, Nat.mod_eq_of_lt (Nat.lt_of_le_of_lt (Nat.div_le_self _ _) hx)]
/-- and, figure by figure (sixteens) -/
theorem and16 {a A c C : Nat} (ha : a < 16) (hc : c < 16) : (16 * A + a) &&& (16 * C + c) = 16 * (A &&& C) + (a &&& c) := by
  have hac : a &&& c < 2 ^ 4 := Nat.and_lt_two_pow a (show c < 2 ^ 4 from hc)
  apply Nat.eq_of_testBit_eq
  intro i
  rw [Nat.testBit_and, show 16 = 2 ^ 4 from rfl, Nat.testBit_two_pow_mul_add _ (show a < 2 ^ 4 from ha), Nat.testBit_two_pow_mul_add _ (show c < 2 ^ 4 from hc), Nat.testBit_two_pow_mul_add _ hac]
  by_cases g : i < 4
  · rw [if_pos g, if_pos g, if_pos g, Nat.testBit_and]
  · rw [if_neg g, if_neg g, if_neg g, Nat.testBit_and]
/-- figures of a number in sixteens -/
def sx16 (g : Nat → Nat) : Nat → Nat
  | 0 => 0
  | k + 1 => g 0 + 16 * sx16 (fun i => g (i + 1)) k
theorem sx16_s (g : Nat → Nat) (k : Nat) : sx16 g (k + 1) = 16 * sx16 (fun i => g (i + 1)) k + g 0 := by rw [sx16, Nat.add_comm]
theorem sx16_and {c : Nat} (hc : c < 16) : ∀ (k : Nat) (g : Nat → Nat), (∀ i, g i < 16) → sx16 g k &&& sx16 (fun _ => c) k = sx16 (fun i => g i &&& c) k := by
  intro k
  induction k with
  | zero =>
    intro g hg
    simp only [sx16, Nat.zero_and]
  | succ k ih =>
    intro g hg
    rw [sx16_s, sx16_s, sx16_s, and16 (hg 0) hc, ih (fun i => g (i + 1)) fun i => hg (i + 1)]
/-- halves: what comes down from the figure above is masked away -/
theorem sx16_h {c d e : Nat} (hc : c < 16) (hd : d * e = 16) (he : 0 < e) (hm : ∀ a, a < 16 → ∀ z, z < e → (a / e + d * z) &&& c = a / e &&& c) (hlt : ∀ a, a < 16 → ∀ z, z < e → a / e + d * z < 16) : ∀ (k : Nat) (g : Nat → Nat), (∀ i, g i < 16) → (sx16 g k / e) &&& sx16 (fun _ => c) k = sx16 (fun i => g i / e &&& c) k := by
  intro k
  induction k with
  | zero =>
    intro g hg
    simp only [sx16, Nat.zero_div, Nat.zero_and]
  | succ k ih =>
    intro g hg
    rw [sx16_s, sx16_s, sx16_s]
    obtain ⟨z, ez⟩ : ∃ z, z = sx16 (fun i => g (i + 1)) k := ⟨_, rfl⟩
    have i1 := ih (fun i => g (i + 1)) fun i => hg (i + 1)
    rw [← ez] at i1 ⊢
    have e1 : (16 * z + g 0) / e = 16 * (z / e) + (g 0 / e + d * (z % e)) := by
      have h1 : 16 * z + g 0 = g 0 + e * (d * z) := by rw [← hd, Nat.mul_comm d e, Nat.mul_assoc, Nat.add_comm]
      rw [h1, Nat.add_mul_div_left _ _ he]
      have h2 := Nat.div_add_mod z e
      have h3 : d * z = d * (e * (z / e) + z % e) := by rw [h2]
      have h4 : d * (e * (z / e)) = 16 * (z / e) := by rw [← Nat.mul_assoc, hd]
      rw [h3, Nat.mul_add, h4]
      omega
    have hz := Nat.mod_lt z he
    rw [e1, and16 (hlt _ (hg 0) _ hz) hc, i1, hm _ (hg 0) _ hz]
theorem sx16_sub : ∀ (k : Nat) (g f : Nat → Nat), (∀ i, f i ≤ g i) → sx16 f k ≤ sx16 g k ∧ sx16 g k - sx16 f k = sx16 (fun i => g i - f i) k := by
  intro k
  induction k with
  | zero => exact fun _ _ _ => ⟨Nat.le_refl _, rfl⟩
  | succ k ih =>
    intro g f h
    obtain ⟨i1, i2⟩ := ih (fun i => g (i + 1)) (fun i => f (i + 1)) fun i => h (i + 1)
    have h0 := h 0
    rw [sx16_s, sx16_s, sx16_s]
    omega
theorem sx16_add : ∀ (k : Nat) (g f : Nat → Nat), sx16 g k + sx16 f k = sx16 (fun i => g i + f i) k := by
  intro k
  induction k with
  | zero => exact fun _ _ => rfl
  | succ k ih =>
    intro g f
    have i1 := ih (fun i => g (i + 1)) (fun i => f (i + 1))
    rw [sx16_s, sx16_s, sx16_s]
    omega
theorem sx16_of : ∀ (k x : Nat), x < 16 ^ k → x = sx16 (fun i => x / 16 ^ i % 16) k := by
  intro k
  induction k with
  | zero => exact fun x h => by rw [sx16]; omega
  | succ k ih =>
    intro x h
    rw [Nat.pow_succ] at h
    have i1 := ih (x / 16) (by omega)
    rw [sx16_s, Nat.pow_zero, Nat.div_one]
    have e : (fun i => x / 16 ^ (i + 1) % 16) = fun i => x / 16 / 16 ^ i % 16 := by
      funext i
      rw [Nat.div_div_eq_div_mul, Nat.pow_succ, Nat.mul_comm]
    rw [e, ← i1]
    omega
def pc4 (n : Nat) : Nat := n % 2 + n / 2 % 2 + n / 4 % 2 + n / 8 % 2
theorem sx16_cg {g f : Nat → Nat} (h : ∀ i, g i = f i) (k : Nat) : sx16 g k = sx16 f k := by rw [funext h]
/-- the first three steps of bitCount -/
theorem steps {x : Nat} (hx : x < 2 ^ 40) : ∃ g : Nat → Nat, (∀ i, g i = pc4 (x / 16 ^ i % 16)) ∧ ∃ w1, w1 + (x / 2 &&& sx16 (fun _ => 5) 16) = x ∧ (w1 &&& sx16 (fun _ => 3) 16) + (w1 / 4 &&& sx16 (fun _ => 3) 16) = sx16 g 16 := by
  obtain ⟨d, hd⟩ : ∃ d : Nat → Nat, d = fun i => x / 16 ^ i % 16 := ⟨_, rfl⟩
  have d16 : ∀ i, d i < 16 := fun i => by rw [hd]; exact Nat.mod_lt _ (by decide)
  have ex : x = sx16 d 16 := by rw [hd]; exact sx16_of 16 x (by have : 2 ^ 40 ≤ 16 ^ 16 := (by decide); omega)
  refine ⟨fun i => pc4 (d i), fun i => by rw [hd], sx16 (fun i => d i - (d i / 2 &&& 5)) 16, ?_, ?_⟩
  · have h1 := sx16_h (c := 5) (d := 8) (e := 2) (by decide) rfl (by decide) (by decide) (by decide) 16 d d16
    obtain ⟨s1, s2⟩ := sx16_sub 16 d (fun i => d i / 2 &&& 5) fun i => (by decide : ∀ a, a < 16 → a / 2 &&& 5 ≤ a) (d i) (d16 i)
    rw [← ex] at h1 s1 s2
    rw [h1]
    omega
  · have l : ∀ i, d i - (d i / 2 &&& 5) < 16 := fun i => by have := d16 i; omega
    rw [sx16_and (by decide) 16 _ l, sx16_h (c := 3) (d := 4) (e := 4) (by decide) rfl (by decide) (by decide) (by decide) 16 _ l, sx16_add]
    exact sx16_cg (fun i => (by decide : ∀ a, a < 16 → ((a - (a / 2 &&& 5)) &&& 3) + ((a - (a / 2 &&& 5)) / 4 &&& 3) = pc4 a) (d i) (d16 i)) 16
