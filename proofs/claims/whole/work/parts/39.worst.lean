/-- 1 where the piece i is of the lot l -/
def il (c : vv_H) (l : Int32) (i : Nat) : Nat := if c.1 158 i = l then 1 else 0
/-- 1 where the piece i failed -/
def fl (c : vv_H) (i : Nat) : Nat := (c.1 164 i).toNatClampNeg
def fil (c : vv_H) (l : Int32) (i : Nat) : Nat := if c.1 158 i = l then fl c i else 0
theorem fl_of {c : vv_H} (W : wf0 c) (i : Nat) : c.1 164 i = nI (fl c i) ∧ (fl c i = 0 ∨ fl c i = 1) := by
  obtain ⟨h0, h1⟩ := W 164 i 0 1 rfl
  obtain ⟨m, hm, e⟩ := to_nI (n := 2) h0 (by omega) (by decide)
  have : fl c i = m := by
    unfold fl
    rw [e, nI_clamp (by omega)]
  rw [this]
  exact ⟨e, by omega⟩
theorem manyl {c r : vv_H} (H : RR c r) {N : Nat} (hN : N < 37) (eN : c.1 156 0 = nI N) (l : Int32) : ff_X4_countOfLot c l = some (nI (cu (il c l) N)) ∧ ff_X12_manyOf r l = some (nI (cu (il c l) N)) := by
  have eR : r.1 0 44 = nI N := by rw [rel_s156_0 H.1, eN]
  have hL := lp_two (f := fun (zs : Int32 × Int32) => ff_X4_countOfLot_B4 l c zs.1 zs.2) (g := fun (zs : Int32 × Int32) => ff_X12_manyOf_B4 l r zs.1 zs.2) (fun i s t => s = (nI (cu (il c l) i), nI i) ∧ t = (nI (cu (il c l) i), nI i)) (fun a b => a = nI (cu (il c l) N) ∧ b = nI (cu (il c l) N)) N ?hs ?he vv_F 0 ((0 : Int32), (0 : Int32)) ((0 : Int32), (0 : Int32)) ⟨rfl, rfl⟩ (Nat.zero_le _) (vv_F_lt (by omega))
  case hs =>
    rintro i s t hi ⟨rfl, rfl⟩
    left
    simp (disch := omega) only [ff_X4_countOfLot_B4, ff_X12_manyOf_B4, eN, eR, if_neg (nI_nle' hi (by omega)), ck_lit, nI_clamp, rel_a158 H.1, vv_let, nI_1]
    by_cases g : c.1 158 i = l
    · simp only [if_pos g, nI_1]
      have : cu (il c l) (i + 1) = cu (il c l) i + 1 := by rw [cu, il, if_pos g]
      rw [this]
      exact ⟨_, _, rfl, rfl, rfl, rfl⟩
    · simp only [if_neg g, Int32.add_zero]
      have : cu (il c l) (i + 1) = cu (il c l) i := by rw [cu, il, if_neg g, Nat.add_zero]
      rw [this]
      exact ⟨_, _, rfl, rfl, rfl, rfl⟩
  case he =>
    rintro s t ⟨rfl, rfl⟩
    simp only [ff_X4_countOfLot_B4, ff_X12_manyOf_B4, eN, eR, if_pos (nI_le (Nat.le_refl N) (by omega))]
    exact ⟨_, _, rfl, rfl, rfl, rfl⟩
  obtain ⟨a, b, e1, e2, rfl, rfl⟩ := hL
  rw [ff_X4_countOfLot, ff_X12_manyOf, e1, e2]
  exact ⟨rfl, rfl⟩
theorem failedl {c r : vv_H} (H : RR c r) {N : Nat} (hN : N < 37) (eN : c.1 156 0 = nI N) {l : Int32} (hl : 0 ≤ l.toInt) : ff_X4_countFailed c l = some (nI (cu (fil c l) N)) ∧ ff_X12_failedOf r l = some (nI (cu (fil c l) N)) := by
  have eR : r.1 0 44 = nI N := by rw [rel_s156_0 H.1, eN]
  have hl0 : ¬ l < 0 := by rw [lt0]; omega
  have hL := lp_two (f := fun (zs : Int32 × Int32) => ff_X4_countFailed_B4 l c zs.1 zs.2) (g := fun (zs : Int32 × Int32) => ff_X12_failedOf_B4 l r zs.1 zs.2) (fun i s t => s = (nI (cu (fil c l) i), nI i) ∧ t = (nI (cu (fil c l) i), nI i)) (fun a b => a = nI (cu (fil c l) N) ∧ b = nI (cu (fil c l) N)) N ?hs ?he vv_F 0 ((0 : Int32), (0 : Int32)) ((0 : Int32), (0 : Int32)) ⟨rfl, rfl⟩ (Nat.zero_le _) (vv_F_lt (by omega))
  case hs =>
    rintro i s t hi ⟨rfl, rfl⟩
    left
    obtain ⟨f1, f2⟩ := fl_of H.2.1 i
    simp (disch := omega) only [ff_X4_countFailed_B4, ff_X12_failedOf_B4, ff_X12_failedOf_J27, eN, eR, if_neg (nI_nle' hi (by omega)), if_neg hl0, ck_lit, nI_clamp, rel_a158 H.1, rel_a164 H.1, vv_let, nI_1, f1]
    by_cases g : c.1 158 i = l
    · simp only [if_pos g, nI_add]
      have : cu (fil c l) (i + 1) = cu (fil c l) i + fl c i := by rw [cu, fil, if_pos g]
      rw [this]
      rcases f2 with f2 | f2
      · rw [f2, if_neg (by decide)]
        exact ⟨_, _, rfl, rfl, rfl, by rw [Int32.add_zero]; rfl⟩
      · rw [f2, if_pos (show nI 1 = 1 from rfl)]
        exact ⟨_, _, rfl, rfl, rfl, rfl⟩
    · simp only [if_neg g, Int32.add_zero]
      have : cu (fil c l) (i + 1) = cu (fil c l) i := by rw [cu, fil, if_neg g, Nat.add_zero]
      rw [this]
      exact ⟨_, _, rfl, rfl, rfl, rfl⟩
  case he =>
    rintro s t ⟨rfl, rfl⟩
    simp only [ff_X4_countFailed_B4, ff_X12_failedOf_B4, eN, eR, if_pos (nI_le (Nat.le_refl N) (by omega))]
    exact ⟨_, _, rfl, rfl, rfl, rfl⟩
  obtain ⟨a, b, e1, e2, rfl, rfl⟩ := hL
  rw [ff_X4_countFailed, ff_X12_failedOf, e1, e2]
  exact ⟨rfl, rfl⟩
theorem faileda {c r : vv_H} (H : RR c r) {N : Nat} (hN : N < 37) (eN : c.1 156 0 = nI N) : ff_X4_countAllFailed c = some (nI (cu (fl c) N)) ∧ ff_X12_failedOf r (-1) = some (nI (cu (fl c) N)) := by
  have eR : r.1 0 44 = nI N := by rw [rel_s156_0 H.1, eN]
  have hL := lp_two (f := fun (zs : Int32 × Int32) => ff_X4_countAllFailed_B4 c zs.1 zs.2) (g := fun (zs : Int32 × Int32) => ff_X12_failedOf_B4 (-1) r zs.1 zs.2) (fun i s t => s = (nI (cu (fl c) i), nI i) ∧ t = (nI (cu (fl c) i), nI i)) (fun a b => a = nI (cu (fl c) N) ∧ b = nI (cu (fl c) N)) N ?hs ?he vv_F 0 ((0 : Int32), (0 : Int32)) ((0 : Int32), (0 : Int32)) ⟨rfl, rfl⟩ (Nat.zero_le _) (vv_F_lt (by omega))
  case hs =>
    rintro i s t hi ⟨rfl, rfl⟩
    left
    obtain ⟨f1, f2⟩ := fl_of H.2.1 i
    simp (disch := omega) only [ff_X4_countAllFailed_B4, ff_X12_failedOf_B4, ff_X12_failedOf_J27, eN, eR, if_neg (nI_nle' hi (by omega)), show ((-1 : Int32) < 0) = True from by decide, if_true, ck_lit, nI_clamp, rel_a164 H.1, vv_let, nI_1, f1, nI_add]
    have : cu (fl c) (i + 1) = cu (fl c) i + fl c i := rfl
    rw [this]
    rcases f2 with f2 | f2
    · rw [f2, if_neg (by decide)]
      exact ⟨_, _, rfl, rfl, rfl, by rw [Int32.add_zero]; rfl⟩
    · rw [f2, if_pos (show nI 1 = 1 from rfl)]
      exact ⟨_, _, rfl, rfl, rfl, rfl⟩
  case he =>
    rintro s t ⟨rfl, rfl⟩
    simp only [ff_X4_countAllFailed_B4, ff_X12_failedOf_B4, eN, eR, if_pos (nI_le (Nat.le_refl N) (by omega))]
    exact ⟨_, _, rfl, rfl, rfl, rfl⟩
  obtain ⟨a, b, e1, e2, rfl, rfl⟩ := hL
  rw [ff_X4_countAllFailed, ff_X12_failedOf, e1, e2]
  exact ⟨rfl, rfl⟩
/-- the reference's table of the ways, as far as it is laid -/
def chs (r g : vv_H) (n i : Nat) : Prop := g.1 = r.1 ∧ coR r g ∧ ∀ a b, b < 37 → (a < n ∨ a = n ∧ b < i) → g.2.1 52 (37 * a + b) = lN (bn a b)
theorem lu_e {h : vv_H} {k j : Nat} {v : Int64} {i : Nat} : (vv_lu h k j v).2.1 k i = if i = j then v else h.2.1 k i := by
  show (if k = k then vp_updL (h.2.1 k) j v else h.2.1 k) i = _
  rw [if_pos rfl]
  by_cases g : i = j
  · rw [if_pos g, g, pk_uLs]
  · rw [if_neg g, pk_uLn g]
theorem chs_up {r g : vv_H} {n i : Nat} {v : Int64} (h : chs r g n i) (hi : i < 37) (hv : v = lN (bn n i)) : chs r (vv_lu g 52 (37 * n + i) v) n (i + 1) := by
  refine ⟨h.1, coR_lu h.2.1, fun a b hb hab => ?_⟩
  rw [lu_e]
  by_cases g : 37 * a + b = 37 * n + i
  · rw [if_pos g, hv]
    have : a = n ∧ b = i := by omega
    rw [this.1, this.2]
  · rw [if_neg g]
    exact h.2.2 a b hb (by omega)
theorem laid {r : vv_H} : ∃ g, ff_X12_layChoices r = some g ∧ chs r g 37 0 := by
  have h37 : ∀ a b : Nat, (37 : Int32) * nI a + nI b = nI (37 * a + b) := fun a b => by rw [show (37 : Int32) = nI 37 from rfl, pk_mul, nI_add]
  have hO := lp_count (f := fun (zs : Int32 × vv_H) => ff_X12_layChoices_B2 zs.1 zs.2) (fun n z => ∃ g, z = (nI n, g) ∧ chs r g n 0) (fun g => chs r g 37 0) 37 ?hs ?he vv_F 0 ((0 : Int32), r) ⟨r, rfl, rfl, coR_rf r, fun a b _ h => by omega⟩ (by decide) (vv_F_lt (by decide))
  case hs =>
    rintro n z hn ⟨g, rfl, hg⟩
    left
    have hI := lp_count (f := fun (zs : Int32 × vv_H) => ff_X12_layChoices_B10 (nI n) zs.1 zs.2) (fun i z => ∃ g, z = (nI i, g) ∧ chs r g n i) (fun g => chs r g n 37) 37 ?hs2 ?he2 vv_F 0 ((0 : Int32), g) ⟨g, rfl, hg⟩ (by decide) (vv_F_lt (by decide))
    case hs2 =>
      rintro i z hi ⟨g, rfl, hg⟩
      left
      simp (disch := omega) only [ff_X12_layChoices_B10, show (37 : Int32) ≤ nI i ↔ nI 37 ≤ nI i from Iff.rfl, if_neg (nI_nle' hi (by decide)), h37, ck_lit, nI_clamp, vv_let, nI_1]
      rcases Nat.eq_zero_or_pos i with rfl | hi0
      · rw [if_pos nI_0]
        exact ⟨_, rfl, _, rfl, chs_up hg (by decide) (by rw [bn_0]; rfl)⟩
      · rw [if_neg (nI_ne0 hi0 (by omega))]
        rcases Nat.eq_zero_or_pos n with rfl | hn0
        · rw [if_pos nI_0]
          exact ⟨_, rfl, _, rfl, chs_up hg hi (by rw [bn_z 0 i hi0]; rfl)⟩
        · rw [if_neg (nI_ne0 hn0 (by omega))]
          obtain ⟨m, rfl⟩ : ∃ m, n = m + 1 := ⟨n - 1, by omega⟩
          obtain ⟨k, rfl⟩ : ∃ k, i = k + 1 := ⟨i - 1, by omega⟩
          have e1 : nI (37 * m + (k + 1)) - 1 = nI (37 * m + k) := by rw [← Nat.add_assoc, nI_pred]
          simp (disch := omega) only [nI_pred, h37, e1, ck_lit, nI_clamp]
          refine ⟨_, rfl, _, rfl, chs_up hg hi ?_⟩
          rw [hg.2.2 m (k + 1) (by omega) (by omega), hg.2.2 m k (by omega) (by omega), lN_add, bn_s]
    case he2 =>
      rintro z ⟨g, rfl, hg⟩
      simp only [ff_X12_layChoices_B10, show (37 : Int32) = nI 37 from rfl, if_pos (nI_le (Nat.le_refl 37) (by decide))]
      exact ⟨_, rfl, hg⟩
    obtain ⟨g', e1, hg'⟩ := hI
    simp only [ff_X12_layChoices_B2, show (37 : Int32) ≤ nI n ↔ nI 37 ≤ nI n from Iff.rfl, if_neg (nI_nle' hn (by decide)), e1, Option.bind_some, vv_let, nI_1]
    exact ⟨_, rfl, g', rfl, hg'.1, hg'.2.1, fun a b hb h => hg'.2.2 a b hb (by omega)⟩
  case he =>
    rintro z ⟨g, rfl, hg⟩
    simp only [ff_X12_layChoices_B2, show (37 : Int32) = nI 37 from rfl, if_pos (nI_le (Nat.le_refl 37) (by decide))]
    exact ⟨_, rfl, hg⟩
  obtain ⟨g, e1, hg⟩ := hO
  rw [ff_X12_layChoices, e1]
  exact ⟨g, rfl, hg⟩
/-- the ways in which the lot l has as many failed as it has, or more -/
def tl (c : vv_H) (l : Int32) (N : Nat) : Nat := ts (cu (il c l) N) (N - cu (il c l) N) (cu (fl c) N) (cu (fil c l) N) (cu (fl c) N + 1 - cu (fil c l) N)
theorem il_le (c : vv_H) (l : Int32) (N : Nat) : cu (il c l) N ≤ N := cu_le N fun i _ => by
  unfold il
  split <;> omega
theorem fl_le {c : vv_H} (W : wf0 c) (N : Nat) : cu (fl c) N ≤ N := cu_le N fun i _ => by
  have := (fl_of W i).2
  omega
theorem fil_le {c : vv_H} (l : Int32) (N : Nat) : cu (fil c l) N ≤ cu (fl c) N := cu_mono N fun i _ => by
  unfold fil
  split <;> omega
theorem tl_bd (c : vv_H) (W : wf0 c) (l : Int32) {N : Nat} (hN : N < 37) : tl c l N < 2 ^ 43 := by
  have h := ts_le (n := cu (il c l) N) (m := N - cu (il c l) N) (d := cu (fl c) N) (x := cu (fil c l) N) (by have := il_le c l N; omega) (cu (fl c) N + 1 - cu (fil c l) N)
  have h2 := fl_le W N
  unfold tl
  have h3 : (cu (fl c) N + 1 - cu (fil c l) N) * 68719476736 ≤ 37 * 68719476736 := Nat.mul_le_mul_right _ (by omega)
  omega
theorem bad_c {c r : vv_H} (H : RR c r) {N : Nat} (hN : N < 37) (eN : c.1 156 0 = nI N) {l : Int32} (hl : 0 ≤ l.toInt) : ff_X4_waysAsBad c l = some (lN (tl c l N)) := by
  have k1 := il_le c l N
  have k2 := fl_le H.2.1 N
  have k3 := fil_le (c := c) l N
  simp only [ff_X4_waysAsBad, (manyl H hN eN l).1, (faileda H hN eN).1, (failedl H hN eN hl).1, Option.bind_some]
  have et : tl c l N = ts (cu (il c l) N) (N - cu (il c l) N) (cu (fl c) N) (cu (fil c l) N) (min (cu (fl c) N) (cu (il c l) N) + 1 - cu (fil c l) N) := (ts_end _ _ _ _).symm
  rw [et]
  generalize cu (il c l) N = n at *
  generalize cu (fl c) N = d at *
  generalize cu (fil c l) N = x at *
  have em : (if nI d < nI n then nI d else nI n) = nI (min d n) := by
    simp only [nI_ltI (show d < 2 ^ 31 by omega) (show n < 2 ^ 31 by omega)]
    by_cases g : d < n
    · rw [if_pos g, Nat.min_eq_left (by omega)]
    · rw [if_neg g, Nat.min_eq_right (by omega)]
  have hL := lp_count (f := fun (zs : Int64 × Int32) => ff_X4_waysAsBad_B21 (nI n) (nI d) c zs.1 zs.2) (fun i z => z = (lN (ts n (N - n) d x i), nI (x + i))) (fun a => a = lN (ts n (N - n) d x (min d n + 1 - x))) (min d n + 1 - x) ?hs ?he vv_F 0 ((0 : Int64), nI x) rfl (Nat.zero_le _) (vv_F_lt (by omega))
  case hs =>
    rintro i z hi rfl
    left
    simp only [ff_X4_waysAsBad_B21, em, eN, if_neg (nI_nlt (show x + i ≤ min d n by omega) (show min d n < 2 ^ 31 by omega)), pk_sub (show n ≤ N by omega), pk_sub (show x + i ≤ d by omega), ways_c (show n ≤ 36 by omega) (show x + i ≤ 36 by omega), ways_c (show N - n ≤ 36 by omega) (show d - (x + i) ≤ 36 by omega), Option.bind_some, vv_let, lN_mul, lN_add, nI_1]
    exact ⟨_, rfl, rfl⟩
  case he =>
    rintro z rfl
    simp only [ff_X4_waysAsBad_B21, em, if_pos (nI_lt (show min d n < x + (min d n + 1 - x) by omega) (show x + (min d n + 1 - x) < 2 ^ 31 by omega))]
    exact ⟨_, rfl, rfl⟩
  obtain ⟨a, e1, rfl⟩ := hL
  rw [e1]
  rfl
theorem bad_r {c r g : vv_H} (H : RR c g) (hg : chs r g 37 0) {N : Nat} (hN : N < 37) (eN : c.1 156 0 = nI N) {l : Int32} (hl : 0 ≤ l.toInt) : ff_X12_tail g l = some (lN (tl c l N)) := by
  have k1 := il_le c l N
  have k2 := fl_le H.2.1 N
  have k3 := fil_le (c := c) l N
  have eR : g.1 0 44 = nI N := by rw [rel_s156_0 H.1, eN]
  have h37 : ∀ a b : Nat, (37 : Int32) * nI a + nI b = nI (37 * a + b) := fun a b => by rw [show (37 : Int32) = nI 37 from rfl, pk_mul, nI_add]
  simp only [ff_X12_tail, (manyl H hN eN l).2, (faileda H hN eN).2, (failedl H hN eN hl).2, Option.bind_some]
  have et : tl c l N = ts (cu (il c l) N) (N - cu (il c l) N) (cu (fl c) N) (cu (fil c l) N) (cu (fl c) N + 1 - cu (fil c l) N) := rfl
  rw [et]
  generalize cu (il c l) N = n at *
  generalize cu (fl c) N = d at *
  generalize cu (fil c l) N = x at *
  have hL := lp_count (f := fun (zs : Int64 × Int32) => ff_X12_tail_B22 (nI d) (nI n) g zs.1 zs.2) (fun i z => z = (lN (ts n (N - n) d x i), nI (x + i))) (fun a => a = lN (ts n (N - n) d x (d + 1 - x))) (d + 1 - x) ?hs ?he vv_F 0 ((0 : Int64), nI x) rfl (Nat.zero_le _) (vv_F_lt (by omega))
  case hs =>
    rintro i z hi rfl
    left
    have e2 : nI (37 * (N - n) + d) - nI (x + i) = nI (37 * (N - n) + (d - (x + i))) := by rw [pk_sub (by omega)]; congr 1; omega
    simp (disch := omega) only [ff_X12_tail_B22, eR, if_neg (nI_nlt (show x + i ≤ d by omega) (show d < 2 ^ 31 by omega)), pk_sub (show n ≤ N by omega), h37, e2, ck_lit, nI_clamp, vv_let, nI_1]
    rw [hg.2.2 n (x + i) (by omega) (by omega), hg.2.2 (N - n) (d - (x + i)) (by omega) (by omega), lN_mul, lN_add]
    exact ⟨_, rfl, rfl⟩
  case he =>
    rintro z rfl
    simp only [ff_X12_tail_B22, if_pos (nI_lt (show d < x + (d + 1 - x) by omega) (show x + (d + 1 - x) < 2 ^ 31 by omega))]
    exact ⟨_, rfl, rfl⟩
  obtain ⟨a, e1, rfl⟩ := hL
  rw [e1]
  rfl
theorem e_worst {c r : vv_H} (H : RR c r) : ∃ o r', ff_X11_worst c = some o ∧ ff_X12_worst r = some (o, r') ∧ RR c r' := by
  have hp := H.b (k := 156) (j := 0) rfl
  obtain ⟨N, hN, eN⟩ := to_nI (n := 37) hp.1 (by omega) (by decide)
  obtain ⟨g, g1, g2⟩ := laid (r := r)
  have Hg : RR c g := RR_core H (coC_rf c) g2.2.1
  simp only [ff_X11_worst, ff_X12_worst, (faileda H hN eN).1, (faileda H hN eN).2, Option.bind_some, g1]
  by_cases q : nI (cu (fl c) N) = 0
  · rw [if_pos q, if_pos q]
    exact ⟨_, _, rfl, rfl, H⟩
  rw [if_neg q, if_neg q, bad_c H hN eN (show 0 ≤ (0 : Int32).toInt from by decide)]
  have hL := lp_two (f := fun (zs : Int32 × Int64 × Int32) => ff_X11_worst_B27 c zs.1 zs.2.1 zs.2.2) (g := fun (zs : Int32 × Int32) => ff_X12_worst_B19 g zs.1 zs.2) (fun i s t => ∃ k : Nat, k < 6 ∧ s = (nI k, lN (tl c (nI k) N), nI (i + 1)) ∧ t = (nI k, nI (i + 1))) (fun a b => a = b) 5 ?hs ?he vv_F 0 ((0 : Int32), lN (tl c 0 N), (1 : Int32)) ((0 : Int32), (1 : Int32)) ⟨0, by decide, rfl, rfl⟩ (Nat.zero_le _) (vv_F_lt (by decide))
  case hs =>
    rintro i s t hi ⟨k, hk, rfl, rfl⟩
    left
    have z1 : 0 ≤ (nI (i + 1)).toInt := by rw [nIT (by omega)]; omega
    have z2 : 0 ≤ (nI k).toInt := by rw [nIT (by omega)]; omega
    simp only [ff_X11_worst_B27, ff_X12_worst_B19, show ∀ n, (6 : Int32) ≤ nI n ↔ nI 6 ≤ nI n from fun n => Iff.rfl, if_neg (nI_nle' (show i + 1 < 6 by omega) (by decide)), bad_c H hN eN z1, bad_r Hg g2 hN eN z1, bad_r Hg g2 hN eN z2, Option.bind_some, vv_let, nI_1]
    by_cases q2 : 0 ≤ lg_cmp (lN (tl c (nI (i + 1)) N)) (lN (tl c (nI k) N))
    · rw [if_pos q2, if_pos q2]
      exact ⟨_, _, rfl, rfl, k, hk, rfl, rfl⟩
    · rw [if_neg q2, if_neg q2]
      exact ⟨_, _, rfl, rfl, i + 1, by omega, rfl, rfl⟩
  case he =>
    rintro s t ⟨k, hk, rfl, rfl⟩
    simp only [ff_X11_worst_B27, ff_X12_worst_B19, show (6 : Int32) = nI 6 from rfl, if_pos (nI_le (show 6 ≤ 5 + 1 by decide) (by decide))]
    exact ⟨_, _, rfl, rfl, rfl⟩
  obtain ⟨a, b, e1, e2, rfl⟩ := hL
  simp only [Option.bind_some, e1, e2]
  exact ⟨_, _, rfl, rfl, Hg⟩
theorem e_lot {c r : vv_H} (H : RR c r) (l what : Int32) : ∃ o r', ff_X11_lot c l what = some o ∧ ff_X12_lot r l what = some (o, r') ∧ RR c r' := by
  have hp := H.b (k := 156) (j := 0) rfl
  obtain ⟨N, hN, eN⟩ := to_nI (n := 37) hp.1 (by omega) (by decide)
  obtain ⟨g, g1, g2⟩ := laid (r := r)
  have Hg : RR c g := RR_core H (coC_rf c) g2.2.1
  simp only [ff_X11_lot, ff_X12_lot, m_isLot, m_isWithin, m_in, Option.bind_some, wi_ite, Int32.toInt_toInt64, show (0 : Int64).toInt = 0 from rfl, show (5 : Int64).toInt = 5 from rfl, show (3 : Int64).toInt = 3 from rfl, show (0 : Int32).toInt = 0 from rfl, show (3 : Int32).toInt = 3 from rfl]
  by_cases q1 : 0 ≤ l.toInt ∧ l.toInt ≤ 5
  case neg =>
    rw [if_neg q1, if_neg q1]
    exact ⟨_, _, rfl, rfl, H⟩
  rw [if_pos q1, if_pos q1]
  by_cases q2 : 0 ≤ what.toInt ∧ what.toInt ≤ 3
  case neg =>
    rw [if_neg q2, if_neg q2]
    exact ⟨_, _, rfl, rfl, H⟩
  rw [if_pos q2, if_pos q2]
  obtain ⟨k, hk, rfl⟩ := to_nI (n := 4) q2.1 (by omega) (by decide)
  by_cases h0 : k = 0
  · subst h0
    simp only [show nI 0 = (0 : Int32) from rfl, if_true, show ((2 : Int32) ≤ 0) = False from by decide, if_false, (manyl H hN eN l).1, (manyl H hN eN l).2, Option.bind_some]
    exact ⟨_, _, rfl, rfl, H⟩
  by_cases h1 : k = 1
  · subst h1
    simp only [show nI 1 = (1 : Int32) from rfl, if_true, show ((2 : Int32) ≤ 1) = False from by decide, show ((1 : Int32) = 0) = False from by decide, if_false, (failedl H hN eN q1.1).1, (failedl H hN eN q1.1).2, Option.bind_some]
    exact ⟨_, _, rfl, rfl, H⟩
  have eg : g.1 0 44 = nI N := by rw [rel_s156_0 Hg.1, eN]
  have kd := fl_le H.2.1 N
  have w1 : ¬ nI k = 0 := nI_ne0 (by omega) (by omega)
  have w2 : ¬ nI k = 1 := fun h => by
    have := (nI_eq (show k < 2 ^ 31 by omega) (show 1 < 2 ^ 31 by decide)).mp h
    omega
  have w3 : (2 : Int32) ≤ nI k := nI_le (show 2 ≤ k by omega) (by omega)
  have h37 : (37 : Int32) * nI N + nI (cu (fl c) N) = nI (37 * N + cu (fl c) N) := by rw [show (37 : Int32) = nI 37 from rfl, pk_mul, nI_add]
  have b1 := tl_bd c H.2.1 l hN
  have b2 := bn_36 (show N ≤ 36 by omega) (cu (fl c) N)
  have b3 := bn_pos N _ kd
  have G0 : 0 < Nat.gcd (tl c l N) (bn N (cu (fl c) N)) := Nat.gcd_pos_of_pos_right _ b3
  have G1 : Nat.gcd (tl c l N) (bn N (cu (fl c) N)) ≤ bn N (cu (fl c) N) := Nat.gcd_le_right _ b3
  have ec := eu_c 63 (tl c l N) (bn N (cu (fl c) N)) 0 vv_F (by omega) (by omega) (by decide) (by decide) (vv_F_lt (by decide))
  have er := fun u3 u5 => eu_r (nI k) u3 u5 g 63 (tl c l N) (bn N (cu (fl c) N)) vv_F (by omega) (by omega) (by decide) (vv_F_lt (by decide))
  have nz : ¬ lN (Nat.gcd (tl c l N) (bn N (cu (fl c) N))) = 0 := fun h => by
    have := (pk_lEQ (show Nat.gcd (tl c l N) (bn N (cu (fl c) N)) < 2 ^ 63 by omega) (show 0 < 2 ^ 63 by decide)).mp h
    omega
  have n1 : ¬ lN (Nat.gcd (tl c l N) (bn N (cu (fl c) N))) < 1 := fun h => by
    have := (pk_lLT (show Nat.gcd (tl c l N) (bn N (cu (fl c) N)) < 2 ^ 63 by omega) (show 1 < 2 ^ 63 by decide)).mp h
    omega
  rw [show nI 0 = (0 : Int32) from rfl] at ec
  have e2 := g2.2.2 N (cu (fl c) N) (by omega) (by omega)
  simp (disch := omega) only [if_neg w1, if_neg w2, if_pos w3, bad_c H hN eN q1.1, (faileda H hN eN).1, eN, ways_c (show N ≤ 36 by omega) (show cu (fl c) N ≤ 36 by omega), ff_X11_commonDivisor, ec, g1, bad_r Hg g2 hN eN q1.1, (faileda Hg hN eN).2, eg, h37, ck_lit, nI_clamp, e2, er, Option.bind_some, vv_let, if_neg n1, vv_nzl, if_neg nz]
  by_cases g : nI k = 2
  · rw [if_pos g, if_pos g]
    exact ⟨_, _, rfl, rfl, Hg⟩
  · rw [if_neg g, if_neg g]
    exact ⟨_, _, rfl, rfl, Hg⟩
