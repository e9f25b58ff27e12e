/-- figure k of x, in twos -/
def dg (x k : Nat) : Nat := x / 2 ^ k % 2
def pcn (x : Nat) : Nat := cu (dg x) 16
/-- the number of the figures z -/
def bs (z : Nat → Nat) : Nat → Nat
  | 0 => 0
  | n + 1 => bs z n + z n * 2 ^ n
/-- sets joined -/
def fn (g : Nat → Nat) : Nat → Nat
  | 0 => 0
  | n + 1 => fn g n ||| g n
theorem dg_1 (x k : Nat) : dg x k ≤ 1 := by unfold dg; omega
theorem bs_lt {z : Nat → Nat} {n : Nat} (h : ∀ k, k < n → z k ≤ 1) : bs z n < 2 ^ n := by
  induction n with
  | zero => exact Nat.zero_lt_one
  | succ n ih =>
    have h1 := ih fun k hk => h k (by omega)
    have h2 : z n * 2 ^ n ≤ 1 * 2 ^ n := Nat.mul_le_mul_right _ (h n (by omega))
    rw [Nat.pow_succ]
    unfold bs
    omega
theorem bs_dg (x : Nat) : ∀ n, bs (dg x) n = x % 2 ^ n := by
  intro n
  induction n with
  | zero => exact (Nat.mod_one x).symm
  | succ n ih =>
    rw [bs, ih, Nat.mod_pow_succ, dg, Nat.mul_comm]
theorem bs_cg {z y : Nat → Nat} {n : Nat} (h : ∀ k, k < n → z k = y k) : bs z n = bs y n := by
  induction n with
  | zero => rfl
  | succ n ih =>
    unfold bs
    rw [ih fun k hk => h k (by omega), h n (by omega)]
theorem dg_bs {z : Nat → Nat} : ∀ n, (∀ k, k < n → z k ≤ 1) → ∀ l, l < n → dg (bs z n) l = z l := by
  intro n
  induction n with
  | zero => exact fun _ l hl => absurd hl (Nat.not_lt_zero l)
  | succ n ih =>
    intro h l hl
    have hb := bs_lt fun k hk => h k (Nat.lt_succ_of_lt hk)
    rcases Nat.lt_succ_iff_lt_or_eq.mp hl with q | rfl
    · rw [← ih (fun k hk => h k (by omega)) l q]
      obtain ⟨d, rfl⟩ : ∃ d, n = l + 1 + d := ⟨n - (l + 1), by omega⟩
      unfold dg
      rw [bs, show z (l + 1 + d) * 2 ^ (l + 1 + d) = 2 ^ l * (2 * (z (l + 1 + d) * 2 ^ d)) by rw [Nat.pow_add, Nat.pow_add, Nat.pow_one]; simp only [Nat.mul_assoc, Nat.mul_comm, Nat.mul_left_comm], Nat.add_mul_div_left _ _ (Nat.pow_pos (by decide))]
      omega
    · unfold dg
      rw [bs, Nat.mul_comm (z l), Nat.add_mul_div_left _ _ (Nat.pow_pos (by decide)), Nat.div_eq_of_lt hb]
      have := h l (by omega)
      omega
theorem dg_hi {x n l : Nat} (h : x < 2 ^ n) (hl : n ≤ l) : dg x l = 0 := by
  unfold dg
  rw [Nat.div_eq_of_lt (Nat.lt_of_lt_of_le h (Nat.pow_le_pow_right (by decide) hl))]
theorem cu_ext {f : Nat → Nat} {n : Nat} (d : Nat) (h : ∀ l, n ≤ l → f l = 0) : cu f (n + d) = cu f n := by
  induction d with
  | zero => rfl
  | succ d ih =>
    show cu f (n + d) + f (n + d) = _
    rw [ih, h _ (by omega), Nat.add_zero]
theorem pcn_lt {x n : Nat} (h : x < 2 ^ n) (hn : n ≤ 16) : pcn x = cu (dg x) n := by
  unfold pcn
  rw [show 16 = n + (16 - n) by omega]
  exact cu_ext _ fun l hl => dg_hi h hl
theorem nI_or (a b : Nat) : nI a ||| nI b = nI (a ||| b) := by
  apply Int32.toBitVec_inj.mp
  show BitVec.ofNat 32 a ||| BitVec.ofNat 32 b = BitVec.ofNat 32 (a ||| b)
  apply BitVec.eq_of_getLsbD_eq
  intro i hi
  rw [BitVec.getLsbD_or, BitVec.getLsbD_ofNat, BitVec.getLsbD_ofNat, BitVec.getLsbD_ofNat, Nat.testBit_or]
  rw [decide_eq_true hi, Bool.true_and, Bool.true_and, Bool.true_and]
theorem fn_lt {g : Nat → Nat} {n m : Nat} (h : ∀ i, i < n → g i < 2 ^ m) : fn g n < 2 ^ m := by
  induction n with
  | zero => exact Nat.pow_pos (by decide)
  | succ n ih => exact Nat.or_lt_two_pow (ih fun i hi => h i (by omega)) (h n (by omega))
theorem fn_cg {g f : Nat → Nat} {n : Nat} (h : ∀ k, k < n → g k = f k) : fn g n = fn f n := by
  induction n with
  | zero => rfl
  | succ n ih =>
    unfold fn
    rw [ih fun k hk => h k (by omega), h n (by omega)]
theorem fn_emb (p : Nat → Bool) (g : Nat → Nat) : ∀ n, fn g (ko p n) = fn (fun l => if p l = true then g (ko p l) else 0) n := by
  intro n
  induction n with
  | zero => rfl
  | succ n ih =>
    show _ = fn (fun l => if p l = true then g (ko p l) else 0) n ||| (if p n = true then g (ko p n) else 0)
    rw [← ih]
    by_cases hp : p n = true
    · rw [ko_1 hp, if_pos hp]
      rfl
    · rw [ko_0 hp, if_neg hp, Nat.or_zero]
theorem fn_bs {z : Nat → Nat} : ∀ n, (∀ k, k < n → z k ≤ 1) → fn (fun l => z l * 2 ^ l) n = bs z n := by
  intro n
  induction n with
  | zero => exact fun _ => rfl
  | succ n ih =>
    intro h
    have hb := bs_lt fun k hk => h k (Nat.lt_succ_of_lt hk)
    show fn (fun l => z l * 2 ^ l) n ||| z n * 2 ^ n = bs z n + z n * 2 ^ n
    rw [ih fun k hk => h k (by omega), Nat.mul_comm, Nat.or_comm, ← Nat.two_pow_add_eq_or_of_lt hb, Nat.add_comm]
theorem emb_1 {p : Nat → Bool} {z : Nat → Nat} (h : ∀ k, z k ≤ 1) (l : Nat) : emb p z l ≤ 1 := by
  unfold emb
  split
  · exact h _
  · exact Nat.zero_le _
theorem emb_bs {p : Nat → Bool} {x y : Nat → Nat} (hx : ∀ k, x k ≤ 1) (hy : ∀ k, y k ≤ 1) : ∀ n, (bs x (ko p n) < bs y (ko p n) → bs (emb p x) n < bs (emb p y) n) ∧ (bs x (ko p n) = bs y (ko p n) → bs (emb p x) n = bs (emb p y) n) := by
  intro n
  induction n with
  | zero => exact ⟨fun h => absurd h (Nat.lt_irrefl _), fun _ => rfl⟩
  | succ n ih =>
    obtain ⟨i1, i2⟩ := ih
    show (_ → bs (emb p x) n + emb p x n * 2 ^ n < bs (emb p y) n + emb p y n * 2 ^ n) ∧ (_ → bs (emb p x) n + emb p x n * 2 ^ n = bs (emb p y) n + emb p y n * 2 ^ n)
    by_cases hp : p n = true
    · have b1 := bs_lt (z := x) (n := ko p n) fun k _ => hx k
      have b2 := bs_lt (z := y) (n := ko p n) fun k _ => hy k
      have b3 := bs_lt (z := emb p x) (n := n) fun k _ => emb_1 hx k
      have h1 := hx (ko p n)
      have h2 := hy (ko p n)
      rw [ko_1 hp, show emb p x n = x (ko p n) from if_pos hp, show emb p y n = y (ko p n) from if_pos hp]
      show (bs x (ko p n) + x (ko p n) * 2 ^ ko p n < bs y (ko p n) + y (ko p n) * 2 ^ ko p n → _) ∧ (bs x (ko p n) + x (ko p n) * 2 ^ ko p n = bs y (ko p n) + y (ko p n) * 2 ^ ko p n → _)
      have c1 : x (ko p n) = 0 ∨ x (ko p n) = 1 := by omega
      have c2 : y (ko p n) = 0 ∨ y (ko p n) = 1 := by omega
      rcases c1 with c1 | c1 <;> rcases c2 with c2 | c2
      · rw [c1, c2, Nat.zero_mul, Nat.zero_mul]
        exact ⟨i1, i2⟩
      · rw [c1, c2, Nat.zero_mul, Nat.zero_mul, Nat.one_mul, Nat.one_mul]
        exact ⟨fun h => by omega, fun h => by omega⟩
      · rw [c1, c2, Nat.zero_mul, Nat.zero_mul, Nat.one_mul, Nat.one_mul]
        exact ⟨fun h => by omega, fun h => by omega⟩
      · rw [c1, c2, Nat.one_mul, Nat.one_mul]
        exact ⟨fun h => by have := i1 (by omega); omega, fun h => by have := i2 (by omega); omega⟩
    · rw [ko_0 hp, show emb p x n = 0 from if_neg hp, show emb p y n = 0 from if_neg hp, Nat.zero_mul]
      exact ⟨i1, i2⟩
/-- the set of sizes that the set x of offered ones is -/
def ebs (p : Nat → Bool) (N x : Nat) : Nat := bs (emb p (dg x)) N
theorem ebs_lt (p : Nat → Bool) (N x : Nat) : ebs p N x < 2 ^ N := bs_lt fun k _ => emb_1 (dg_1 x) k
theorem ebs_mono {p : Nat → Bool} {N x y : Nat} (hy : y < 2 ^ ko p N) (h : x < y) : ebs p N x < ebs p N y := by
  refine (emb_bs (dg_1 x) (dg_1 y) N).1 ?_
  rw [bs_dg, bs_dg, Nat.mod_eq_of_lt (by omega), Nat.mod_eq_of_lt hy]
  exact h
theorem ebs_dg {p : Nat → Bool} {N x l : Nat} (hl : l < N) : dg (ebs p N x) l = emb p (dg x) l := dg_bs N (fun k _ => emb_1 (dg_1 x) k) l hl
theorem ebs_on {p : Nat → Bool} {N s : Nat} (hs : s < 2 ^ N) (h : ∀ l, l < N → dg s l = 1 → p l = true) : ∃ x, x < 2 ^ ko p N ∧ ebs p N x = s := by
  obtain ⟨z, hz⟩ := emb_of (p := p) (dg s) N
  have z1 : ∀ k, k < ko p N → z k ≤ 1 := fun k hk => by
    obtain ⟨l, h1, h2, h3⟩ := ko_sur hk
    have := hz l h1 h2
    rw [h3] at this
    rw [this]
    exact dg_1 s l
  refine ⟨bs z (ko p N), bs_lt z1, ?_⟩
  have e : s = bs (dg s) N := by rw [bs_dg, Nat.mod_eq_of_lt hs]
  rw [e]
  refine bs_cg fun l hl => ?_
  unfold emb
  by_cases q : p l = true
  · rw [if_pos q, dg_bs _ z1 _ (ko_lt q hl), hz l hl q]
  · rw [if_neg q]
    have := dg_1 s l
    by_cases g : dg s l = 1
    · exact absurd (h l hl g) q
    · omega
theorem dg_tb (x l : Nat) : dg x l = 1 ↔ x.testBit l = true := by
  rw [Nat.testBit_eq_decide_div_mod_eq, decide_eq_true_eq]
  exact Iff.rfl
theorem sub_iff {a b : Nat} : (nI a &&& (nI b ^^^ (-1 : Int32))) = 0 ↔ ∀ l, l < 32 → dg a l = 1 → dg b l = 1 := by
  have e : (nI a &&& (nI b ^^^ (-1 : Int32))).toBitVec = BitVec.ofNat 32 a &&& (BitVec.ofNat 32 b ^^^ BitVec.allOnes 32) := rfl
  constructor
  · intro h l hl h1
    rw [dg_tb] at h1 ⊢
    have h2 : (BitVec.ofNat 32 a &&& (BitVec.ofNat 32 b ^^^ BitVec.allOnes 32)).getLsbD l = false := by
      rw [← e, h]
      exact BitVec.getLsbD_zero
    rw [BitVec.getLsbD_and, BitVec.getLsbD_xor, BitVec.getLsbD_ofNat, BitVec.getLsbD_ofNat, BitVec.getLsbD_allOnes, decide_eq_true hl, h1] at h2
    simpa using h2
  · intro h
    apply Int32.toBitVec_inj.mp
    rw [e]
    apply BitVec.eq_of_getLsbD_eq
    intro l hl
    rw [BitVec.getLsbD_and, BitVec.getLsbD_xor, BitVec.getLsbD_ofNat, BitVec.getLsbD_ofNat, BitVec.getLsbD_allOnes, decide_eq_true hl]
    have h1 := h l hl
    rw [dg_tb, dg_tb] at h1
    show _ = (0#32).getLsbD l
    rw [BitVec.getLsbD_zero]
    cases ha : a.testBit l
    · rfl
    · rw [h1 ha]
      rfl
theorem shl1 : ∀ k, k < 16 → (1 : Int32) <<< (nI k &&& 31) = nI (2 ^ k) := by decide +kernel
theorem and31 : ∀ k, k < 16 → (nI k &&& 31 : Int32) = nI k := by decide +kernel
theorem smd : ∀ k, k < 16 → ((nI k).toBitVec.smod 32).toNat = k := by decide +kernel
theorem shr_dg {x k : Nat} (hx : x < 2 ^ 31) (hk : k < 16) : (nI x >>> (nI k &&& 31)) &&& (1 : Int32) = nI (dg x k) := by
  rw [and31 k hk, pk_shrN hx _ k (smd k hk)]
  have h1 : x / 2 ^ k ≤ x := Nat.div_le_self _ _
  rw [pk_andN (by omega) (m := 1) 1 (by decide)]
  rfl
theorem sizeOf_r {x : Nat} (hx : x < 2 ^ 31) : ff_X12_sizeOf (nI x) = some (nI (pcn x)) := by
  have hL := lp_count (f := fun (zs : Int32 × Int32) => ff_X12_sizeOf_B4 (nI x) zs.1 zs.2) (fun i z => z = (nI (cu (dg x) i), nI i)) (fun a => a = nI (pcn x)) 16 ?hs ?he vv_F 0 ((0 : Int32), (0 : Int32)) rfl (by decide) (vv_F_lt (by decide))
  case hs =>
    rintro i z hi rfl
    left
    simp (disch := omega) only [ff_X12_sizeOf_B4, show (16 : Int32) ≤ nI i ↔ nI 16 ≤ nI i from Iff.rfl, if_neg (nI_nle' hi (by decide)), shr_dg hx hi, vv_let, nI_1, nI_add]
    exact ⟨_, rfl, rfl⟩
  case he =>
    rintro z rfl
    simp only [ff_X12_sizeOf_B4, show (16 : Int32) = nI 16 from rfl, if_pos (nI_le (Nat.le_refl 16) (by decide))]
    exact ⟨_, rfl, rfl⟩
  obtain ⟨a, e1, rfl⟩ := hL
  rw [ff_X12_sizeOf, e1]
  rfl
