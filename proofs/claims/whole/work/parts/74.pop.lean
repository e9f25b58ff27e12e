theorem sx16_mask {m : Nat → Nat} : ∀ (k : Nat) (m g : Nat → Nat), (∀ i, m i < 16) → (∀ i, g i < 16) → sx16 g k &&& sx16 m k = sx16 (fun i => g i &&& m i) k := by
  intro k
  induction k with
  | zero =>
    intro m g _ _
    simp only [sx16, Nat.zero_and]
  | succ k ih =>
    intro m g hm hg
    rw [sx16_s, sx16_s, sx16_s, and16 (hg 0) (hm 0), ih (fun i => m (i + 1)) (fun i => g (i + 1)) (fun i => hm (i + 1)) fun i => hg (i + 1)]
theorem sx16_top : ∀ (k : Nat) (f : Nat → Nat), f k = 0 → sx16 f (k + 1) = sx16 f k := by
  intro k
  induction k with
  | zero =>
    intro f h
    simp only [sx16, h]
  | succ k ih =>
    intro f h
    rw [sx16_s, ih (fun i => f (i + 1)) h, ← sx16_s]
theorem pop_l {x : Nat} (hx : x < 2 ^ 36) : ff_J13_bitCount_95d88 (lN x) = some (nI (cu (dg x) 36)) := by
  obtain ⟨g, hg, w1, e1, e3⟩ := steps (x := x) (by omega)
  have g4 : ∀ i, g i ≤ 4 := fun i => by
    rw [hg]
    unfold pc4
    omega
  have gz : ∀ i, 9 ≤ i → g i = 0 := fun i hi => by
    have h1 : 16 ^ 9 ≤ 16 ^ i := Nat.pow_le_pow_right (by decide) hi
    rw [hg, Nat.div_eq_of_lt (by omega)]
    rfl
  obtain ⟨W3, hW⟩ : ∃ W, W = sx16 g 16 := ⟨_, rfl⟩
  have m1 : (6148914691236517205 : Int64) = lN (sx16 (fun _ => 5) 16) := by decide +kernel
  have m2 : (3689348814741910323 : Int64) = lN (sx16 (fun _ => 3) 16) := by decide +kernel
  have m4 : (1085102592571150095 : Int64) = lN (sx16 (fun i => if i % 2 = 0 then 15 else 0) 16) := by decide +kernel
  obtain ⟨M1, hM1⟩ : ∃ M, M = sx16 (fun _ => 5) 16 := ⟨_, rfl⟩
  obtain ⟨M2, hM2⟩ : ∃ M, M = sx16 (fun _ => 3) 16 := ⟨_, rfl⟩
  obtain ⟨M4, hM4⟩ : ∃ M, M = sx16 (fun i => if i % 2 = 0 then 15 else 0) 16 := ⟨_, rfl⟩
  rw [← hM1] at e1 m1
  rw [← hM2, ← hW] at e3
  rw [← hM2] at m2
  rw [← hM4] at m4
  clear hM1 hM2
  have W3d : W3 / 16 = sx16 (fun i => g (i + 1)) 16 := by
    rw [hW, sx16_s, Nat.mul_comm, Nat.add_comm, Nat.add_mul_div_right _ _ (by decide), Nat.div_eq_of_lt (show g 0 < 16 by have := g4 0; omega), Nat.zero_add]
    exact (sx16_top 15 (fun i => g (i + 1)) (gz 16 (by decide))).symm
  obtain ⟨W5, hW5⟩ : ∃ W, W = (W3 + W3 / 16) &&& M4 := ⟨_, rfl⟩
  have W5e : W5 = (g 0 + g 1) + 256 * ((g 2 + g 3) + 256 * ((g 4 + g 5) + 256 * ((g 6 + g 7) + 256 * g 8))) := by
    have k0 := g4 0
    have k1 := g4 1
    have k2 := g4 2
    have k3 := g4 3
    have k4 := g4 4
    have k5 := g4 5
    have k6 := g4 6
    have k7 := g4 7
    have k8 := g4 8
    rw [hW5, W3d, hW, hM4, sx16_add, sx16_mask (m := fun _ => 0) 16 _ _ (fun i => by split <;> decide) fun i => by have := g4 i; have := g4 (i + 1); omega]
    have a : ∀ i, i % 2 = 0 → (g i + g (i + 1)) &&& (if i % 2 = 0 then 15 else 0) = g i + g (i + 1) := fun i hi => by
      rw [if_pos hi]
      have := g4 i
      have := g4 (i + 1)
      exact (by decide : ∀ a, a < 16 → a &&& 15 = a) _ (by omega)
    have b : ∀ i, i % 2 ≠ 0 → (g i + g (i + 1)) &&& (if i % 2 = 0 then 15 else 0) = 0 := fun i hi => by
      rw [if_neg hi, Nat.and_zero]
    obtain ⟨f, hf⟩ : ∃ f : Nat → Nat, f = fun i => (g i + g (i + 1)) &&& (if i % 2 = 0 then 15 else 0) := ⟨_, rfl⟩
    rw [← hf]
    have f0 : f 0 = g 0 + g 1 := by rw [hf]; exact a 0 rfl
    have f1 : f 1 = 0 := by rw [hf]; exact b 1 (by decide)
    have f2 : f 2 = g 2 + g 3 := by rw [hf]; exact a 2 rfl
    have f3 : f 3 = 0 := by rw [hf]; exact b 3 (by decide)
    have f4 : f 4 = g 4 + g 5 := by rw [hf]; exact a 4 rfl
    have f5 : f 5 = 0 := by rw [hf]; exact b 5 (by decide)
    have f6 : f 6 = g 6 + g 7 := by rw [hf]; exact a 6 rfl
    have f7 : f 7 = 0 := by rw [hf]; exact b 7 (by decide)
    have f8 : f 8 = g 8 + g 9 := by rw [hf]; exact a 8 rfl
    have fz : ∀ i, 9 ≤ i → f i = 0 := fun i hi => by
      have h1 := gz i hi
      have h2 := gz (i + 1) (by omega)
      rw [hf]
      show (g i + g (i + 1)) &&& _ = 0
      rw [h1, h2, Nat.zero_and]
    have g9 := gz 9 (by decide)
    show f 0 + 16 * (f 1 + 16 * (f 2 + 16 * (f 3 + 16 * (f 4 + 16 * (f 5 + 16 * (f 6 + 16 * (f 7 + 16 * (f 8 + 16 * (f 9 + 16 * (f 10 + 16 * (f 11 + 16 * (f 12 + 16 * (f 13 + 16 * (f 14 + 16 * (f 15 + 16 * 0))))))))))))))) = _
    rw [f0, f1, f2, f3, f4, f5, f6, f7, f8, fz 9 (by decide), fz 10 (by decide), fz 11 (by decide), fz 12 (by decide), fz 13 (by decide), fz 14 (by decide), fz 15 (by decide), g9]
    clear fz a b f0 f1 f2 f3 f4 f5 f6 f7 f8 hf hW5 W3d hM4 m1 m2 m4 e3 e1 hW hg gz g4 g9
    generalize g 0 = y0 at *
    generalize g 1 = y1 at *
    generalize g 2 = y2 at *
    generalize g 3 = y3 at *
    generalize g 4 = y4 at *
    generalize g 5 = y5 at *
    generalize g 6 = y6 at *
    generalize g 7 = y7 at *
    generalize g 8 = y8 at *
    omega
  have k0 := g4 0
  have k1 := g4 1
  have k2 := g4 2
  have k3 := g4 3
  have k4 := g4 4
  have k5 := g4 5
  have k6 := g4 6
  have k7 := g4 7
  have k8 := g4 8
  have W3b : W3 < 2 ^ 63 := by
    have z : ∀ i, 9 ≤ i → g i = 0 := gz
    have e : W3 = g 0 + 16 * (g 1 + 16 * (g 2 + 16 * (g 3 + 16 * (g 4 + 16 * (g 5 + 16 * (g 6 + 16 * (g 7 + 16 * (g 8 + 16 * (g 9 + 16 * (g 10 + 16 * (g 11 + 16 * (g 12 + 16 * (g 13 + 16 * (g 14 + 16 * (g 15 + 16 * 0))))))))))))))) := hW
    rw [z 9 (by decide), z 10 (by decide), z 11 (by decide), z 12 (by decide), z 13 (by decide), z 14 (by decide), z 15 (by decide)] at e
    omega
  obtain ⟨T, hT⟩ : ∃ T, T = x / 2 &&& M1 := ⟨_, rfl⟩
  rw [← hT] at e1
  have A1 : lN x - (((lN x).toUInt64 >>> ((1 : Int32).toInt64.toUInt64 &&& Int64.toUInt64 63)).toInt64 &&& (6148914691236517205 : Int64)) = lN w1 := by
    rw [lN_sh (k := 1) (by omega) (by decide), m1, lN_an, show 2 ^ 1 = 2 from rfl, ← hT]
    clear hT m1 m2 m4 e3 hW5 hM4 hW W3d hg
    rw [lN_sub (by omega)]
    congr 1
    omega
  clear hM4 hW W3d
  have w1b : w1 < 2 ^ 64 := by omega
  have A2 : (lN w1 &&& (3689348814741910323 : Int64)) + (((lN w1).toUInt64 >>> ((2 : Int32).toInt64.toUInt64 &&& Int64.toUInt64 63)).toInt64 &&& (3689348814741910323 : Int64)) = lN W3 := by
    rw [lN_sh (k := 2) w1b (by decide), m2, lN_an, lN_an, lN_add, show 2 ^ 2 = 4 from rfl, e3]
  have A3 : (lN W3 + ((lN W3).toUInt64 >>> ((4 : Int32).toInt64.toUInt64 &&& Int64.toUInt64 63)).toInt64) &&& (1085102592571150095 : Int64) = lN W5 := by
    rw [lN_sh (k := 4) (by omega) (by decide), m4, lN_add, lN_an, show 2 ^ 4 = 16 from rfl, hW5]
  clear hW5 e3 m1 m2 m4
  have A4 : lN W5 + ((lN W5).toUInt64 >>> ((8 : Int32).toInt64.toUInt64 &&& Int64.toUInt64 63)).toInt64 = lN (W5 + W5 / 256) := by
    rw [lN_sh (k := 8) (by omega) (by decide), lN_add]
  have A5 : lN (W5 + W5 / 256) + ((lN (W5 + W5 / 256)).toUInt64 >>> ((16 : Int32).toInt64.toUInt64 &&& Int64.toUInt64 63)).toInt64 = lN (W5 + W5 / 256 + (W5 + W5 / 256) / 65536) := by
    rw [lN_sh (k := 16) (by omega) (by decide), lN_add]
  have A6 : lN (W5 + W5 / 256 + (W5 + W5 / 256) / 65536) + ((lN (W5 + W5 / 256 + (W5 + W5 / 256) / 65536)).toUInt64 >>> ((32 : Int32).toInt64.toUInt64 &&& Int64.toUInt64 63)).toInt64 = lN (W5 + W5 / 256 + (W5 + W5 / 256) / 65536 + (W5 + W5 / 256 + (W5 + W5 / 256) / 65536) / 4294967296) := by
    rw [lN_sh (k := 32) (by omega) (by decide), lN_add]
  have sum : cu (dg x) 36 = g 0 + g 1 + g 2 + g 3 + g 4 + g 5 + g 6 + g 7 + g 8 := by
    have s : ∀ i, dg x (4 * i) + dg x (4 * i + 1) + dg x (4 * i + 2) + dg x (4 * i + 3) = g i := fun i => by
      rw [hg]
      unfold dg pc4
      have e0 : 2 ^ (4 * i) = 16 ^ i := by rw [Nat.pow_mul]
      have e1 : 2 ^ (4 * i + 1) = 16 ^ i * 2 := by rw [Nat.pow_add, e0]
      have e2 : 2 ^ (4 * i + 2) = 16 ^ i * 4 := by rw [Nat.pow_add, e0]
      have e3 : 2 ^ (4 * i + 3) = 16 ^ i * 8 := by rw [Nat.pow_add, e0]
      rw [e0, e1, e2, e3, ← Nat.div_div_eq_div_mul, ← Nat.div_div_eq_div_mul, ← Nat.div_div_eq_div_mul]
      generalize x / 16 ^ i = y
      omega
    rw [← s 0, ← s 1, ← s 2, ← s 3, ← s 4, ← s 5, ← s 6, ← s 7, ← s 8]
    show 0 + dg x 0 + dg x 1 + dg x 2 + dg x 3 + dg x 4 + dg x 5 + dg x 6 + dg x 7 + dg x 8 + dg x 9 + dg x 10 + dg x 11 + dg x 12 + dg x 13 + dg x 14 + dg x 15 + dg x 16 + dg x 17 + dg x 18 + dg x 19 + dg x 20 + dg x 21 + dg x 22 + dg x 23 + dg x 24 + dg x 25 + dg x 26 + dg x 27 + dg x 28 + dg x 29 + dg x 30 + dg x 31 + dg x 32 + dg x 33 + dg x 34 + dg x 35 = _
    simp only [Nat.reduceMul, Nat.reduceAdd]
    omega
  unfold ff_J13_bitCount_95d88
  rw [vlE, A1, vlE, A2, vlE, A3, vlE, A4, vlE, A5, vlE, A6, lN_i, pk_and _ 7 (by decide)]
  congr 2
  rw [sum]
  show (BitVec.ofNat 32 _).toNat % 2 ^ 7 = _
  rw [BitVec.toNat_ofNat]
  obtain ⟨q0, hq0⟩ : ∃ q, q = g 0 + g 1 := ⟨_, rfl⟩
  obtain ⟨q1, hq1⟩ : ∃ q, q = g 2 + g 3 := ⟨_, rfl⟩
  obtain ⟨q2, hq2⟩ : ∃ q, q = g 4 + g 5 := ⟨_, rfl⟩
  obtain ⟨q3, hq3⟩ : ∃ q, q = g 6 + g 7 := ⟨_, rfl⟩
  obtain ⟨q4, hq4⟩ : ∃ q, q = g 8 := ⟨_, rfl⟩
  rw [← hq0, ← hq1, ← hq2, ← hq3, ← hq4] at W5e
  have s2 : g 0 + g 1 + g 2 + g 3 + g 4 + g 5 + g 6 + g 7 + g 8 = q0 + q1 + q2 + q3 + q4 := by omega
  have l0 : q0 ≤ 8 := by omega
  have l1 : q1 ≤ 8 := by omega
  have l2 : q2 ≤ 8 := by omega
  have l3 : q3 ≤ 8 := by omega
  have l4 : q4 ≤ 8 := by omega
  rw [s2]
  clear s2 hq0 hq1 hq2 hq3 hq4 A1 A2 A3 A4 A5 A6 sum k0 k1 k2 k3 k4 k5 k6 k7 k8 hg g4 gz e1
  have d1 : W5 / 256 = q1 + 256 * q2 + 65536 * q3 + 16777216 * q4 := by omega
  rw [d1]
  obtain ⟨V1, hV1⟩ : ∃ V, V = W5 + (q1 + 256 * q2 + 65536 * q3 + 16777216 * q4) := ⟨_, rfl⟩
  rw [← hV1]
  have d2 : V1 / 65536 = (q2 + q3) + 256 * (q3 + q4) + 65536 * q4 := by omega
  rw [d2]
  obtain ⟨V2, hV2⟩ : ∃ V, V = V1 + ((q2 + q3) + 256 * (q3 + q4) + 65536 * q4) := ⟨_, rfl⟩
  rw [← hV2]
  have d3 : V2 / 4294967296 = q4 := by omega
  rw [d3]
  have d4 : V2 + q4 = (q0 + q1 + q2 + q3 + q4) + 256 * (q1 + q2 + q3 + q4) + 65536 * (q2 + q3 + q4) + 16777216 * (q3 + q4) + 4294967296 * q4 := by omega
  rw [d4]
  omega
