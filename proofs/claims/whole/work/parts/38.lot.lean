/-- sums from the front -/
def cu (f : Nat → Nat) : Nat → Nat
  | 0 => 0
  | n + 1 => cu f n + f n
theorem cu_le {f : Nat → Nat} (n : Nat) (h : ∀ i, i < n → f i ≤ 1) : cu f n ≤ n := by
  induction n with
  | zero => exact Nat.le_refl 0
  | succ n ih =>
    have := ih fun i hi => h i (by omega)
    have := h n (by omega)
    unfold cu
    omega
theorem cu_mono {f g : Nat → Nat} (n : Nat) (h : ∀ i, i < n → f i ≤ g i) : cu f n ≤ cu g n := by
  induction n with
  | zero => exact Nat.le_refl 0
  | succ n ih =>
    have := ih fun i hi => h i (by omega)
    have := h n (by omega)
    unfold cu
    omega
/-- the ways to draw k of n -/
def bn : Nat → Nat → Nat
  | _, 0 => 1
  | 0, _ + 1 => 0
  | n + 1, k + 1 => bn n (k + 1) + bn n k
theorem bn_0 (n : Nat) : bn n 0 = 1 := by cases n <;> rfl
theorem bn_s (n k : Nat) : bn (n + 1) (k + 1) = bn n (k + 1) + bn n k := rfl
theorem bn_mul : ∀ n k : Nat, (n + 1) * bn n k = bn (n + 1) (k + 1) * (k + 1) := by
  intro n
  induction n with
  | zero =>
    intro k
    cases k with
    | zero => rfl
    | succ k =>
      rw [bn_s]
      show 1 * 0 = (0 + 0) * (k + 1 + 1)
      rw [Nat.add_zero, Nat.zero_mul]
  | succ n ih =>
    intro k
    cases k with
    | zero =>
      have h := ih 0
      rw [bn_0, Nat.mul_one, Nat.zero_add, Nat.mul_one] at h
      rw [bn_0, Nat.zero_add, Nat.mul_one, Nat.mul_one, bn_s (n + 1) 0, bn_0, Nat.zero_add, ← h]
    | succ k =>
      have h1 := ih k
      have h2 := ih (k + 1)
      have e0 : bn (n + 1) (k + 1) = bn n (k + 1) + bn n k := rfl
      have e1 : (n + 1 + 1) * bn (n + 1) (k + 1) = (n + 1) * bn (n + 1) (k + 1) + bn (n + 1) (k + 1) := Nat.succ_mul _ _
      have e2 : (n + 1) * bn (n + 1) (k + 1) = (n + 1) * bn n (k + 1) + (n + 1) * bn n k := by rw [e0, Nat.mul_add]
      have e3 : (bn (n + 1) (k + 1 + 1) + bn (n + 1) (k + 1)) * (k + 1 + 1) = bn (n + 1) (k + 1 + 1) * (k + 1 + 1) + bn (n + 1) (k + 1) * (k + 1 + 1) := Nat.add_mul _ _ _
      have e4 : bn (n + 1) (k + 1) * (k + 1 + 1) = bn (n + 1) (k + 1) * (k + 1) + bn (n + 1) (k + 1) := Nat.mul_succ _ _
      rw [bn_s (n + 1) (k + 1), e1, e2, e3, e4, h1, h2]
      omega
theorem bn_pow : ∀ n k : Nat, bn n k ≤ 2 ^ n := by
  intro n
  induction n with
  | zero =>
    intro k
    cases k with
    | zero => exact Nat.le_refl 1
    | succ k => exact Nat.zero_le _
  | succ n ih =>
    intro k
    cases k with
    | zero => exact Nat.one_le_two_pow
    | succ k =>
      have h1 := ih k
      have h2 := ih (k + 1)
      rw [bn_s, Nat.pow_succ]
      omega
theorem bn_36 {n : Nat} (h : n ≤ 36) (k : Nat) : bn n k ≤ 68719476736 := Nat.le_trans (bn_pow n k) (Nat.pow_le_pow_right (by decide) h)
theorem bn_z : ∀ n k : Nat, n < k → bn n k = 0 := by
  intro n
  induction n with
  | zero =>
    intro k h
    cases k with
    | zero => omega
    | succ k => rfl
  | succ n ih =>
    intro k h
    cases k with
    | zero => omega
    | succ k => rw [bn_s, ih k (by omega), ih (k + 1) (by omega)]
theorem bn_pos : ∀ n k : Nat, k ≤ n → 0 < bn n k := by
  intro n
  induction n with
  | zero =>
    intro k h
    cases k with
    | zero => exact Nat.zero_lt_one
    | succ k => omega
  | succ n ih =>
    intro k h
    cases k with
    | zero => exact Nat.zero_lt_one
    | succ k =>
      have := ih k (by omega)
      rw [bn_s]
      omega
theorem ways_c {n k : Nat} (hn : n ≤ 36) (hk : k ≤ 36) : ff_X11_waysToDraw (nI n) (nI k) = some (lN (bn n k)) := by
  simp only [ff_X11_waysToDraw, if_neg (nI_pos (show k < 2 ^ 31 by omega))]
  simp only [nI_leI (show k < 2 ^ 31 by omega) (show n < 2 ^ 31 by omega)]
  by_cases g : k ≤ n
  case neg =>
    rw [if_neg g, bn_z n k (by omega)]
    rfl
  rw [if_pos g]
  have hL := lp_count (f := fun (zs : Int64 × Int32) => ff_X11_waysToDraw_B16 (nI n) (nI k) zs.1 zs.2) (fun i z => z = (lN (bn (n - k + i) i), nI (i + 1))) (fun a => a = lN (bn n k)) k ?hs ?he vv_F 0 ((1 : Int64), (1 : Int32)) (by rw [bn_0]; rfl) (Nat.zero_le _) (vv_F_lt (by omega))
  case hs =>
    rintro i z hi rfl
    left
    have e1 : nI n - nI k + nI (i + 1) = nI (n - k + (i + 1)) := by rw [pk_sub g, nI_add]
    have e2 : bn (n - k + i) i * (n - k + (i + 1)) = bn (n - k + (i + 1)) (i + 1) * (i + 1) := by
      rw [Nat.mul_comm]
      exact bn_mul (n - k + i) i
    have b1 := bn_36 (show n - k + i ≤ 36 by omega) i
    have b2 : bn (n - k + i) i * (n - k + (i + 1)) ≤ 68719476736 * 37 := Nat.mul_le_mul b1 (by omega)
    have nz : ¬ lN (i + 1) = 0 := fun h => by
      have := (lN_eq (show i + 1 < 2 ^ 31 by omega) (show 0 < 2 ^ 31 by decide)).mp h
      omega
    simp only [ff_X11_waysToDraw_B16, if_neg (nI_nlt (show i + 1 ≤ k by omega) (show k < 2 ^ 31 by omega)), e1, nI_l (show i + 1 < 2 ^ 31 by omega), nI_l (show n - k + (i + 1) < 2 ^ 31 by omega), vv_nzl, if_neg nz, vv_let, lN_mul, nI_1]
    rw [pk_lDiv (by omega) (by omega) (by omega), e2, Nat.mul_div_cancel _ (by omega)]
    exact ⟨_, rfl, rfl⟩
  case he =>
    rintro z rfl
    simp only [ff_X11_waysToDraw_B16, if_pos (nI_lt (show k < k + 1 by omega) (show k + 1 < 2 ^ 31 by omega))]
    exact ⟨_, rfl, by rw [Nat.sub_add_cancel g]⟩
  obtain ⟨a, e1, rfl⟩ := hL
  rw [e1]
  rfl
/-- the first j of the ways in which x or more of n are drawn, when d of n + m are -/
def ts (n m d x : Nat) : Nat → Nat
  | 0 => 0
  | j + 1 => ts n m d x j + bn n (x + j) * bn m (d - (x + j))
theorem ts_le {n m d x : Nat} (h : n + m ≤ 36) : ∀ j, ts n m d x j ≤ j * 68719476736 := by
  intro j
  induction j with
  | zero => exact Nat.zero_le _
  | succ j ih =>
    have h1 : bn n (x + j) * bn m (d - (x + j)) ≤ 2 ^ n * 2 ^ m := Nat.mul_le_mul (bn_pow _ _) (bn_pow _ _)
    have h2 : 2 ^ n * 2 ^ m ≤ 68719476736 := by
      rw [← Nat.pow_add]
      exact Nat.pow_le_pow_right (by decide) h
    unfold ts
    omega
theorem ts_more {n m d x : Nat} : ∀ j k, n < x + j → ts n m d x (j + k) = ts n m d x j := by
  intro j k h
  induction k with
  | zero => rfl
  | succ k ih =>
    show ts n m d x (j + k) + bn n (x + (j + k)) * _ = _
    rw [bn_z n (x + (j + k)) (by omega), Nat.zero_mul, ih, Nat.add_zero]
theorem ts_end (n m d x : Nat) : ts n m d x (min d n + 1 - x) = ts n m d x (d + 1 - x) := by
  by_cases g : d ≤ n
  · rw [Nat.min_eq_left g]
  · rw [Nat.min_eq_right (by omega), show d + 1 - x = (n + 1 - x) + ((d + 1 - x) - (n + 1 - x)) by omega]
    exact (ts_more _ _ (by omega)).symm
/-- Euclid's way -/
theorem eu_c : ∀ (j a b t n : Nat), a < 2 ^ 63 → b < 2 ^ j → j ≤ 63 → t + 2 * j ≤ 199 → 2 * j < n → vv_lp (fun (zs : Int64 × Int64 × Int32) => ff_X11_commonDivisor_B9 zs.1 zs.2.1 zs.2.2) n (lN a, lN b, nI t) = some (lN (Nat.gcd a b)) := by
  have z0 : ∀ b : Nat, 0 < b → b < 2 ^ 63 → ¬ lN b = 0 := fun b h1 h2 h => by
    have := (pk_lEQ h2 (show 0 < 2 ^ 63 by decide)).mp h
    omega
  have st0 : ∀ a t : Nat, t < 2 ^ 31 → ff_X11_commonDivisor_B9 (lN a) (lN 0) (nI t) = some (.inr (lN a)) := fun a t ht => by
    simp only [ff_X11_commonDivisor_B9, lg_cmp_eq, show lN 0 = 0 from rfl, if_true]
    split <;> rfl
  have st1 : ∀ a b t : Nat, a < 2 ^ 63 → 0 < b → b < 2 ^ 63 → t < 200 → ff_X11_commonDivisor_B9 (lN a) (lN b) (nI t) = some (.inl (lN b, lN (a % b), nI (t + 1))) := fun a b t ha h0 hb ht => by
    simp only [ff_X11_commonDivisor_B9, lg_cmp_eq, show (200 : Int32) = nI 200 from rfl, if_neg (nI_nle' ht (by decide)), if_neg (z0 b h0 hb), vv_nzl, vv_let, pk_lRem ha h0 hb, nI_1]
  intro j
  induction j with
  | zero =>
    intro a b t n ha hb hj ht hn
    obtain ⟨n, rfl⟩ : ∃ k, n = k + 1 := ⟨n - 1, by omega⟩
    obtain rfl : b = 0 := by omega
    rw [vv_lp]
    simp only [st0 a t (by omega)]
    rw [Nat.gcd_zero_right]
  | succ j ih =>
    intro a b t n ha hb hj ht hn
    obtain ⟨n, rfl⟩ : ∃ k, n = k + 1 := ⟨n - 1, by omega⟩
    have hb63 : b < 2 ^ 63 := Nat.lt_of_lt_of_le hb (Nat.pow_le_pow_right (by decide) hj)
    rcases Nat.eq_zero_or_pos b with rfl | h0
    · rw [vv_lp]
      simp only [st0 a t (by omega)]
      rw [Nat.gcd_zero_right]
    · rw [vv_lp]
      simp only [st1 a b t ha h0 hb63 (by omega)]
      have hc : a % b < b := Nat.mod_lt a h0
      obtain ⟨n, rfl⟩ : ∃ k, n = k + 1 := ⟨n - 1, by omega⟩
      rcases Nat.eq_zero_or_pos (a % b) with h1 | h1
      · rw [vv_lp, h1]
        simp only [st0 b (t + 1) (by omega)]
        rw [Nat.gcd_comm, Nat.gcd_rec, h1, Nat.gcd_zero_left]
      · rw [vv_lp]
        simp only [st1 b (a % b) (t + 1) hb63 h1 (by omega) (by omega)]
        have hd : 2 * (b % (a % b)) < b := by
          have := Nat.mod_lt b h1
          have h3 := Nat.div_add_mod b (a % b)
          have h4 : 0 < b / (a % b) := Nat.div_pos (by omega) h1
          have h5 : (a % b) * 1 ≤ (a % b) * (b / (a % b)) := Nat.mul_le_mul_left _ h4
          omega
        rw [Nat.pow_succ] at hb
        rw [ih (a % b) (b % (a % b)) (t + 1 + 1) n (by omega) (by omega) (by omega) (by omega) (by omega)]
        congr 2
        rw [Nat.gcd_comm a b, Nat.gcd_rec b a, Nat.gcd_rec (a % b) b, Nat.gcd_comm]
theorem eu_r (u2 : Int32) (u3 u5 : Int64) (r : vv_H) : ∀ (j a b n : Nat), a < 2 ^ 63 → b < 2 ^ j → j ≤ 63 → 2 * j < n → vv_lp (fun (zs : Int64 × Int64) => ff_X12_lot_B90 u2 u3 u5 r zs.1 zs.2) n (lN a, lN b) = some (lN (Nat.gcd a b)) := by
  have z0 : ∀ b : Nat, 0 < b → b < 2 ^ 63 → ¬ lN b = 0 := fun b h1 h2 h => by
    have := (pk_lEQ h2 (show 0 < 2 ^ 63 by decide)).mp h
    omega
  have st0 : ∀ a : Nat, ff_X12_lot_B90 u2 u3 u5 r (lN a) (lN 0) = some (.inr (lN a)) := fun a => by
    simp only [ff_X12_lot_B90, lg_cmp_eq, show lN 0 = 0 from rfl, if_true]
  have st1 : ∀ a b : Nat, a < 2 ^ 63 → 0 < b → b < 2 ^ 63 → ff_X12_lot_B90 u2 u3 u5 r (lN a) (lN b) = some (.inl (lN b, lN (a % b))) := fun a b ha h0 hb => by
    simp only [ff_X12_lot_B90, lg_cmp_eq, if_neg (z0 b h0 hb), vv_nzl, vv_let, pk_lRem ha h0 hb]
  intro j
  induction j with
  | zero =>
    intro a b n ha hb hj hn
    obtain ⟨n, rfl⟩ : ∃ k, n = k + 1 := ⟨n - 1, by omega⟩
    obtain rfl : b = 0 := by omega
    rw [vv_lp]
    simp only [st0 a]
    rw [Nat.gcd_zero_right]
  | succ j ih =>
    intro a b n ha hb hj hn
    obtain ⟨n, rfl⟩ : ∃ k, n = k + 1 := ⟨n - 1, by omega⟩
    have hb63 : b < 2 ^ 63 := Nat.lt_of_lt_of_le hb (Nat.pow_le_pow_right (by decide) hj)
    rcases Nat.eq_zero_or_pos b with rfl | h0
    · rw [vv_lp]
      simp only [st0 a]
      rw [Nat.gcd_zero_right]
    · rw [vv_lp]
      simp only [st1 a b ha h0 hb63]
      have hc : a % b < b := Nat.mod_lt a h0
      obtain ⟨n, rfl⟩ : ∃ k, n = k + 1 := ⟨n - 1, by omega⟩
      rcases Nat.eq_zero_or_pos (a % b) with h1 | h1
      · rw [vv_lp, h1]
        simp only [st0 b]
        rw [Nat.gcd_comm, Nat.gcd_rec, h1, Nat.gcd_zero_left]
      · rw [vv_lp]
        simp only [st1 b (a % b) hb63 h1 (by omega)]
        have hd : 2 * (b % (a % b)) < b := by
          have := Nat.mod_lt b h1
          have h3 := Nat.div_add_mod b (a % b)
          have h4 : 0 < b / (a % b) := Nat.div_pos (by omega) h1
          have h5 : (a % b) * 1 ≤ (a % b) * (b / (a % b)) := Nat.mul_le_mul_left _ h4
          omega
        rw [Nat.pow_succ] at hb
        rw [ih (a % b) (b % (a % b)) n (by omega) (by omega) (by omega) (by omega)]
        congr 2
        rw [Nat.gcd_comm a b, Nat.gcd_rec b a, Nat.gcd_rec (a % b) b, Nat.gcd_comm]
