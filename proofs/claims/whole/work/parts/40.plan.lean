/-- what goes out of the store f, what comes to the store t; lane 4 f + t -/
def row (x : Nat → Nat) (f : Nat) : Nat := x (4 * f + 0) + x (4 * f + 1) + x (4 * f + 2) + x (4 * f + 3)
def col (x : Nat → Nat) (t : Nat) : Nat := x (4 * 0 + t) + x (4 * 1 + t) + x (4 * 2 + t) + x (4 * 3 + t)
def cst (rd x : Nat → Nat) : Nat := cu (fun l => x l * rd l) 16
def feas (sp lk x : Nat → Nat) : Prop := (∀ f, f < 4 → row x f ≤ sp f) ∧ ∀ t, t < 4 → col x t = lk t
/-- the first n numbers read as figures -/
def pv (x : Nat → Nat) : Nat → Nat
  | 0 => 0
  | n + 1 => pv x n * 16 + x n
def pt (x : Nat → Nat) (l v : Nat) : Nat → Nat := fun i => if i = l then v else x i
theorem lt4 {t : Nat} (h : t < 4) : t = 0 ∨ t = 1 ∨ t = 2 ∨ t = 3 := by omega
theorem row_ne {x : Nat → Nat} {f g t n : Nat} (ht : t < 4) (h : g ≠ f) : row (pt x (4 * f + t) n) g = row x g := by
  simp (disch := omega) only [row, pt, if_neg]
theorem col_ne {x : Nat → Nat} {f t u n : Nat} (ht : t < 4) (hu : u < 4) (hf : f < 4) (h : u ≠ t) : col (pt x (4 * f + t) n) u = col x u := by
  simp (disch := omega) only [col, pt, if_neg]
theorem row_pt {x : Nat → Nat} {f t n : Nat} (ht : t < 4) (h : x (4 * f + t) = 0) : row (pt x (4 * f + t) n) f = row x f + n := by
  rcases lt4 ht with rfl | rfl | rfl | rfl
  all_goals
    simp (disch := omega) only [row, pt, if_neg, if_true]
    omega
theorem col_pt {x : Nat → Nat} {f t n : Nat} (hf : f < 4) (h : x (4 * f + t) = 0) : col (pt x (4 * f + t) n) t = col x t + n := by
  rcases lt4 hf with rfl | rfl | rfl | rfl
  all_goals
    simp (disch := omega) only [col, pt, if_neg, if_true]
    omega
theorem pv_eq {x y : Nat → Nat} {n : Nat} (h : ∀ l, l < n → x l = y l) : pv x n = pv y n := by
  induction n with
  | zero => rfl
  | succ n ih =>
    unfold pv
    rw [ih fun l hl => h l (by omega), h n (by omega)]
theorem pv_up {x y : Nat → Nat} {n : Nat} (h : pv x n < pv y n) : ∀ d, (∀ l, l < n + d → x l ≤ 15) → pv x (n + d) < pv y (n + d) := by
  intro d
  induction d with
  | zero => exact fun _ => h
  | succ d ih =>
    intro hx
    have h1 := ih fun l hl => hx l (by omega)
    have h2 := hx (n + d) (by omega)
    show pv x (n + d) * 16 + x (n + d) < pv y (n + d) * 16 + y (n + d)
    omega
theorem pv_lt {x y : Nat → Nat} {k m : Nat} (h : ∀ l, l < k → x l = y l) (hk : x k < y k) (hm : k < m) (hx : ∀ l, l < m → x l ≤ 15) : pv x m < pv y m := by
  obtain ⟨d, rfl⟩ : ∃ d, m = k + 1 + d := ⟨m - (k + 1), by omega⟩
  refine pv_up ?_ d hx
  show pv x k * 16 + x k < pv y k * 16 + y k
  rw [pv_eq h]
  omega
theorem pv_inj {x y : Nat → Nat} {n : Nat} (hx : ∀ l, l < n → x l ≤ 15) (hy : ∀ l, l < n → y l ≤ 15) (h : pv x n = pv y n) : ∀ l, l < n → x l = y l := by
  induction n with
  | zero => exact fun l hl => absurd hl (Nat.not_lt_zero l)
  | succ n ih =>
    have h1 := hx n (by omega)
    have h2 := hy n (by omega)
    have h3 : pv x n * 16 + x n = pv y n * 16 + y n := h
    have h4 := ih (fun l hl => hx l (by omega)) (fun l hl => hy l (by omega)) (by omega)
    intro l hl
    rcases Nat.lt_succ_iff_lt_or_eq.mp hl with h5 | rfl
    · exact h4 l h5
    · omega
theorem cu_eq {f g : Nat → Nat} (n : Nat) (h : ∀ i, i < n → f i = g i) : cu f n = cu g n := by
  induction n with
  | zero => rfl
  | succ n ih =>
    unfold cu
    rw [ih fun i hi => h i (by omega), h n (by omega)]
theorem cu_pt {x : Nat → Nat} {rd : Nat → Nat} {l v : Nat} (h : x l = 0) : ∀ n, l < n → cu (fun i => pt x l v i * rd i) n = cu (fun i => x i * rd i) n + v * rd l := by
  intro n
  induction n with
  | zero => exact fun hl => absurd hl (Nat.not_lt_zero l)
  | succ n ih =>
    intro hl
    unfold cu
    by_cases g : n = l
    · subst g
      have e1 : pt x n v n = v := if_pos rfl
      rw [e1, h, cu_eq n (f := fun i => pt x n v i * rd i) (g := fun i => x i * rd i) (fun i hi => by
        show pt x n v i * rd i = x i * rd i
        rw [show pt x n v i = x i from if_neg (by omega)])]
      omega
    · rw [ih (by omega), show pt x l v n = x n from if_neg g]
      omega
theorem cst_pt {rd x : Nat → Nat} {l v : Nat} (h : x l = 0) (hl : l < 16) : cst rd (pt x l v) = cst rd x + v * rd l := cu_pt h 16 hl
theorem cst_le {rd x y : Nat → Nat} (h : ∀ l, l < 16 → x l ≤ y l) : cst rd x ≤ cst rd y := cu_mono 16 fun i hi => Nat.mul_le_mul_right _ (h i hi)
theorem cst_eq {rd x y : Nat → Nat} (h : ∀ l, l < 16 → x l = y l) : cst rd x = cst rd y := cu_eq 16 fun i hi => by rw [h i hi]
theorem cu16 (x : Nat → Nat) : cu x 16 = col x 0 + col x 1 + col x 2 + col x 3 := by
  show 0 + x 0 + x 1 + x 2 + x 3 + x 4 + x 5 + x 6 + x 7 + x 8 + x 9 + x 10 + x 11 + x 12 + x 13 + x 14 + x 15 = x 0 + x 4 + x 8 + x 12 + (x 1 + x 5 + x 9 + x 13) + (x 2 + x 6 + x 10 + x 14) + (x 3 + x 7 + x 11 + x 15)
  omega
theorem cu_99 {x rd : Nat → Nat} (n : Nat) (h : ∀ i, i < n → rd i ≤ 99) : cu (fun i => x i * rd i) n ≤ 99 * cu x n := by
  induction n with
  | zero => exact Nat.le_refl 0
  | succ n ih =>
    have h1 := ih fun i hi => h i (by omega)
    have h2 : x n * rd n ≤ x n * 99 := Nat.mul_le_mul_left _ (h n (by omega))
    unfold cu
    omega
theorem cst_bd {rd x : Nat → Nat} (hrd : ∀ l, l < 16 → rd l ≤ 99) (h : ∀ t, t < 4 → col x t ≤ 15) : cst rd x ≤ 5940 := by
  have h1 := cu_99 (x := x) 16 hrd
  have h2 := cu16 x
  have a0 := h 0 (by decide)
  have a1 := h 1 (by decide)
  have a2 := h 2 (by decide)
  have a3 := h 3 (by decide)
  unfold cst
  omega
theorem le_col {x : Nat → Nat} {l : Nat} (hl : l < 16) : ∃ t, t < 4 ∧ x l ≤ col x t := by
  obtain ⟨f, t, hf, ht, rfl⟩ : ∃ f t, f < 4 ∧ t < 4 ∧ l = 4 * f + t := ⟨l / 4, l % 4, by omega, by omega, by omega⟩
  refine ⟨t, ht, ?_⟩
  unfold col
  rcases lt4 hf with rfl | rfl | rfl | rfl <;> omega
theorem feas_15 {sp lk x : Nat → Nat} (hlk : ∀ t, t < 4 → lk t ≤ 15) (h : feas sp lk x) : ∀ l, l < 16 → x l ≤ 15 := fun l hl => by
  obtain ⟨t, ht, h1⟩ := le_col (x := x) hl
  have := h.2 t ht
  have := hlk t ht
  omega
/-- of the plans P, and the best so far (cost b, plan m), the best is (b', m') -/
def out (rd : Nat → Nat) (P : (Nat → Nat) → Prop) (b : Nat) (m : Nat → Nat) (b' : Nat) (m' : Nat → Nat) : Prop :=
  (b' = b ∧ m' = m ∧ ∀ y, P y → b ≤ cst rd y) ∨ (b' < b ∧ P m' ∧ cst rd m' = b' ∧ ∀ y, P y → b' < cst rd y ∨ (b' = cst rd y ∧ pv m' 16 ≤ pv y 16))
theorem out_no {rd : Nat → Nat} {P : (Nat → Nat) → Prop} {b : Nat} {m : Nat → Nat} (h : ∀ y, P y → b ≤ cst rd y) : out rd P b m b m := Or.inl ⟨rfl, rfl, h⟩
theorem out_seq {rd : Nat → Nat} {P Q R : (Nat → Nat) → Prop} {b b1 b2 : Nat} {m m1 m2 : Nat → Nat} (h1 : out rd P b m b1 m1) (h2 : out rd Q b1 m1 b2 m2) (hR : ∀ y, R y ↔ P y ∨ Q y) (hc : ∀ x y, P x → Q y → pv x 16 ≤ pv y 16) : out rd R b m b2 m2 := by
  rcases h1 with ⟨rfl, rfl, g1⟩ | ⟨g1, g2, g3, g4⟩
  · rcases h2 with ⟨rfl, rfl, k1⟩ | ⟨k1, k2, k3, k4⟩
    · exact Or.inl ⟨rfl, rfl, fun y hy => ((hR y).mp hy).elim (g1 y) (k1 y)⟩
    · refine Or.inr ⟨k1, (hR _).mpr (Or.inr k2), k3, fun y hy => ?_⟩
      rcases (hR y).mp hy with q | q
      · have := g1 y q
        exact Or.inl (by omega)
      · exact k4 y q
  · rcases h2 with ⟨rfl, rfl, k1⟩ | ⟨k1, k2, k3, k4⟩
    · refine Or.inr ⟨g1, (hR _).mpr (Or.inl g2), g3, fun y hy => ?_⟩
      rcases (hR y).mp hy with q | q
      · exact g4 y q
      · have := k1 y q
        have := hc _ _ g2 q
        omega
    · refine Or.inr ⟨by omega, (hR _).mpr (Or.inr k2), k3, fun y hy => ?_⟩
      rcases (hR y).mp hy with q | q
      · have := g4 y q
        exact Or.inl (by omega)
      · exact k4 y q
theorem out_iff {rd : Nat → Nat} {P Q : (Nat → Nat) → Prop} {b b' : Nat} {m m' : Nat → Nat} (h : out rd P b m b' m') (e : ∀ y, Q y ↔ P y) : out rd Q b m b' m' := by
  rcases h with ⟨h1, h2, h3⟩ | ⟨h1, h2, h3, h4⟩
  · exact Or.inl ⟨h1, h2, fun y hy => h3 y ((e y).mp hy)⟩
  · exact Or.inr ⟨h1, (e _).mpr h2, h3, fun y hy => h4 y ((e y).mp hy)⟩
/-- there is one best plan -/
theorem out_one {sp lk rd : Nat → Nat} (hlk : ∀ t, t < 4 → lk t ≤ 15) (hrd : ∀ l, l < 16 → rd l ≤ 99) (hx : ∃ x, feas sp lk x) {m n b1 m1 b2 m2} (h1 : out rd (feas sp lk) 1000000 m b1 m1) (h2 : out rd (feas sp lk) 1000000 n b2 m2) : b1 = b2 ∧ feas sp lk m1 ∧ (∀ l, l < 16 → m1 l = m2 l) ∧ b1 ≤ 5940 := by
  obtain ⟨x, hx⟩ := hx
  have hb : ∀ y, feas sp lk y → cst rd y ≤ 5940 := fun y hy => cst_bd hrd fun t ht => by
    have := hy.2 t ht
    have := hlk t ht
    omega
  have := hb x hx
  rcases h1 with ⟨rfl, -, g⟩ | ⟨g1, g2, g3, g4⟩
  · have := g x hx
    omega
  rcases h2 with ⟨rfl, -, g⟩ | ⟨k1, k2, k3, k4⟩
  · have := g x hx
    omega
  have a1 := g4 _ k2
  have a2 := k4 _ g2
  have a3 := hb _ g2
  exact ⟨by omega, g2, pv_inj (feas_15 hlk g2) (feas_15 hlk k2) (by omega), by omega⟩
/-- there is a plan -/
theorem feas_ex {sp lk : Nat → Nat} (h : lk 0 + lk 1 + lk 2 + lk 3 ≤ sp 0 + sp 1 + sp 2 + sp 3) : ∃ x, feas sp lk x := by
  obtain ⟨S, hS⟩ : ∃ S : Nat → Nat, S = cu sp := ⟨_, rfl⟩
  obtain ⟨L, hL⟩ : ∃ L : Nat → Nat, L = cu lk := ⟨_, rfl⟩
  have s0 : S 0 = 0 := by rw [hS]; rfl
  have l0 : L 0 = 0 := by rw [hL]; rfl
  have ss : ∀ n, S (n + 1) = S n + sp n := fun n => by rw [hS]; rfl
  have ls : ∀ n, L (n + 1) = L n + lk n := fun n => by rw [hL]; rfl
  obtain ⟨C, hC⟩ : ∃ C : Nat → Nat → Nat, ∀ t z, C t z = min (z - L t) (lk t) := ⟨fun t z => min (z - L t) (lk t), fun _ _ => rfl⟩
  refine ⟨fun l => C (l % 4) (S (l / 4 + 1)) - C (l % 4) (S (l / 4)), fun f hf => ?_, fun t ht => ?_⟩
  · have sum : ∀ z, C 0 z + C 1 z + C 2 z + C 3 z = min z (L 4) := fun z => by
      have e0 : L 1 = L 0 + lk 0 := ls 0
      have e1 : L 2 = L 1 + lk 1 := ls 1
      have e2 : L 3 = L 2 + lk 2 := ls 2
      have e3 : L 4 = L 3 + lk 3 := ls 3
      have b1 : C 0 z = min z (L 1) := by rw [hC]; omega
      have b2 : min z (L 1) + C 1 z = min z (L 2) := by rw [hC]; omega
      have b3 : min z (L 2) + C 2 z = min z (L 3) := by rw [hC]; omega
      have b4 : min z (L 3) + C 3 z = min z (L 4) := by rw [hC]; omega
      omega
    have mono : ∀ t, C t (S f) ≤ C t (S (f + 1)) := fun t => by
      rw [hC, hC, ss]
      omega
    have a1 := sum (S f)
    have a2 := sum (S (f + 1))
    have m0 := mono 0
    have m1 := mono 1
    have m2 := mono 2
    have m3 := mono 3
    have es := ss f
    show C ((4 * f + 0) % 4) (S ((4 * f + 0) / 4 + 1)) - C ((4 * f + 0) % 4) (S ((4 * f + 0) / 4)) + (C ((4 * f + 1) % 4) (S ((4 * f + 1) / 4 + 1)) - C ((4 * f + 1) % 4) (S ((4 * f + 1) / 4))) + (C ((4 * f + 2) % 4) (S ((4 * f + 2) / 4 + 1)) - C ((4 * f + 2) % 4) (S ((4 * f + 2) / 4))) + (C ((4 * f + 3) % 4) (S ((4 * f + 3) / 4 + 1)) - C ((4 * f + 3) % 4) (S ((4 * f + 3) / 4))) ≤ sp f
    rw [show (4 * f + 0) % 4 = 0 by omega, show (4 * f + 0) / 4 = f by omega, show (4 * f + 1) % 4 = 1 by omega, show (4 * f + 1) / 4 = f by omega, show (4 * f + 2) % 4 = 2 by omega, show (4 * f + 2) / 4 = f by omega, show (4 * f + 3) % 4 = 3 by omega, show (4 * f + 3) / 4 = f by omega]
    omega
  · have mono : ∀ f, C t (S f) ≤ C t (S (f + 1)) := fun f => by
      rw [hC, hC, ss]
      omega
    have lm : L (t + 1) ≤ L 4 := by
      have e1 : L 2 = L 1 + lk 1 := ls 1
      have e2 : L 3 = L 2 + lk 2 := ls 2
      have e3 : L 4 = L 3 + lk 3 := ls 3
      rcases lt4 ht with rfl | rfl | rfl | rfl
      · show L 1 ≤ L 4
        omega
      · show L 2 ≤ L 4
        omega
      · show L 3 ≤ L 4
        omega
      · show L 4 ≤ L 4
        omega
    have e4 : L 4 ≤ S 4 := by
      have e0 : L 1 = L 0 + lk 0 := ls 0
      have e1 : L 2 = L 1 + lk 1 := ls 1
      have e2 : L 3 = L 2 + lk 2 := ls 2
      have e3 : L 4 = L 3 + lk 3 := ls 3
      have f0 : S 1 = S 0 + sp 0 := ss 0
      have f1 : S 2 = S 1 + sp 1 := ss 1
      have f2 : S 3 = S 2 + sp 2 := ss 2
      have f3 : S 4 = S 3 + sp 3 := ss 3
      omega
    have b0 : C t (S 0) = 0 := by rw [hC, s0]; omega
    have b4 : C t (S 4) = lk t := by
      have := ls t
      rw [hC]
      omega
    have m0 : C t (S 0) ≤ C t (S 1) := mono 0
    have m1 : C t (S 1) ≤ C t (S 2) := mono 1
    have m2 : C t (S 2) ≤ C t (S 3) := mono 2
    have m3 : C t (S 3) ≤ C t (S 4) := mono 3
    show C ((4 * 0 + t) % 4) (S ((4 * 0 + t) / 4 + 1)) - C ((4 * 0 + t) % 4) (S ((4 * 0 + t) / 4)) + (C ((4 * 1 + t) % 4) (S ((4 * 1 + t) / 4 + 1)) - C ((4 * 1 + t) % 4) (S ((4 * 1 + t) / 4))) + (C ((4 * 2 + t) % 4) (S ((4 * 2 + t) / 4 + 1)) - C ((4 * 2 + t) % 4) (S ((4 * 2 + t) / 4))) + (C ((4 * 3 + t) % 4) (S ((4 * 3 + t) / 4 + 1)) - C ((4 * 3 + t) % 4) (S ((4 * 3 + t) / 4))) = lk t
    rw [show (4 * 0 + t) % 4 = t by omega, show (4 * 0 + t) / 4 = 0 by omega, show (4 * 1 + t) % 4 = t by omega, show (4 * 1 + t) / 4 = 1 by omega, show (4 * 2 + t) % 4 = t by omega, show (4 * 2 + t) / 4 = 2 by omega, show (4 * 3 + t) % 4 = t by omega, show (4 * 3 + t) / 4 = 3 by omega]
    simp only [Nat.reduceAdd]
    omega
