theorem toInt_sub_s {a b : Int32} (h1 : -100000 ≤ a.toInt ∧ a.toInt ≤ 100000) (h2 : -100000 ≤ b.toInt ∧ b.toInt ≤ 100000) : (a - b).toInt = a.toInt - b.toInt := by
  rw [Int32.toInt_sub]
  exact Int.bmod_eq_of_le (by omega) (by omega)
theorem toInt_add_s {a b : Int32} (h1 : -100000 ≤ a.toInt ∧ a.toInt ≤ 100000) (h2 : -100000 ≤ b.toInt ∧ b.toInt ≤ 100000) : (a + b).toInt = a.toInt + b.toInt := by
  rw [Int32.toInt_add]
  exact Int.bmod_eq_of_le (by omega) (by omega)
/-- a body's measure w now -/
def kv (c : vv_H) (b w : Int32) : Int32 := (ff_X2_asKnown c b w (c.1 0 0) (c.1 0 0)).getD 0
theorem kv_of {c : vv_H} (W : wf0 c) (b w : Int32) : ff_X2_asKnown c b w (c.1 0 0) (c.1 0 0) = some (kv c b w) ∧ 0 ≤ (kv c b w).toInt ∧ (kv c b w).toInt ≤ 250 := by
  obtain ⟨v, e, h⟩ := known_tot W b w (c.1 0 0) (c.1 0 0)
  unfold kv
  rw [e]
  exact ⟨rfl, h⟩
def fit1 (c : vv_H) (s : Nat) (b : Int32) (e : Int) (w : Nat) : Prop := (c.1 (25 + s) w).toInt - e ≤ (kv c b (nI w)).toInt ∧ (kv c b (nI w)).toInt ≤ (c.1 (38 + s) w).toInt + e
def fitE (c : vv_H) (s : Nat) (b : Int32) (e : Int) : Prop := ∀ w, w < 3 → fit1 c s b e w
theorem le_bd {c : vv_H} (W : wf0 c) {s : Nat} (hs : s < 12) (w : Nat) : (0 ≤ (c.1 (25 + s) w).toInt ∧ (c.1 (25 + s) w).toInt ≤ 250) ∧ (0 ≤ (c.1 (38 + s) w).toInt ∧ (c.1 (38 + s) w).toInt ≤ 250) := by
  have q : ∀ k j : Nat, (25 ≤ k ∧ k < 37) ∨ (38 ≤ k ∧ k < 50) → wfb k j = some (0, 250) ∨ k = 0 := by
    intro k j hk
    have h3 : ∀ {p : Prop} [Decidable p] {A B : Option (Int × Int)}, ¬ p → (if p then A else B) = B := fun hp => if_neg hp
    left
    unfold wfb
    rw [h3 (by omega), h3 (by omega), h3 (by omega), h3 (by omega), h3 (by omega), h3 (by omega), h3 (by omega), h3 (by omega), h3 (by omega), h3 (by omega), h3 (by omega), h3 (by omega), h3 (by omega)]
    rcases hk with hk | hk
    · rw [if_pos hk]
    · rw [h3 (by omega), if_pos hk]
  rcases q (25 + s) w (by omega) with q1 | q1
  · rcases q (38 + s) w (by omega) with q2 | q2
    · exact ⟨W _ _ _ _ q1, W _ _ _ _ q2⟩
    · omega
  · omega
theorem out_le {c : vv_H} (W : wf0 c) {s w : Nat} (hs : s < 12) (hw : w < 3) {v : Int32} (hv : 0 ≤ v.toInt ∧ v.toInt ≤ 250) : ∃ o, ff_X8_outside c (nI s) (nI w) v = some o ∧ 0 ≤ o.toInt ∧ o.toInt ≤ 250 ∧ ∀ e : Int, 0 ≤ e → (o.toInt ≤ e ↔ (c.1 (25 + s) w).toInt - e ≤ v.toInt ∧ v.toInt ≤ (c.1 (38 + s) w).toInt + e) := by
  obtain ⟨⟨a1, a2⟩, a3, a4⟩ := le_bd W hs w
  have s1 : (c.1 (25 + s) w - v).toInt = (c.1 (25 + s) w).toInt - v.toInt := toInt_sub_s (by omega) (by omega)
  have s2 : (v - c.1 (38 + s) w).toInt = v.toInt - (c.1 (38 + s) w).toInt := toInt_sub_s (by omega) (by omega)
  simp (disch := omega) only [ff_X8_outside, ck_lit, nI_clamp, Int32.lt_iff_toInt_lt, show (0 : Int32).toInt = 0 from rfl, s1, s2]
  refine ⟨_, rfl, ?_⟩
  by_cases g : (c.1 (25 + s) w).toInt - v.toInt < v.toInt - (c.1 (38 + s) w).toInt
  · simp only [if_pos g, s2]
    by_cases g2 : 0 < v.toInt - (c.1 (38 + s) w).toInt
    · simp only [if_pos g2, s2]
      exact ⟨by omega, by omega, fun e he => by omega⟩
    · simp only [if_neg g2, show (0 : Int32).toInt = 0 from rfl]
      exact ⟨by omega, by omega, fun e he => by omega⟩
  · simp only [if_neg g, s1]
    by_cases g2 : 0 < (c.1 (25 + s) w).toInt - v.toInt
    · simp only [if_pos g2, s1]
      exact ⟨by omega, by omega, fun e he => by omega⟩
    · simp only [if_neg g2, show (0 : Int32).toInt = 0 from rfl]
      exact ⟨by omega, by omega, fun e he => by omega⟩
theorem lee {c : vv_H} (W : wf0 c) {s : Nat} (hs : s < 12) (b : Int32) : ∃ L : Nat, L ≤ 250 ∧ ff_X11_leewayNeeded c (nI s) b = some (nI L) ∧ ∀ e : Int, 0 ≤ e → ((L : Int) ≤ e ↔ fitE c s b e) := by
  have hL := lp_count (f := fun (zs : Int32 × Int32) => ff_X11_leewayNeeded_B5 (nI s) b c zs.1 zs.2) (fun i t => ∃ L : Nat, L ≤ 250 ∧ t = (nI L, nI i) ∧ ∀ e : Int, 0 ≤ e → ((L : Int) ≤ e ↔ ∀ w, w < i → fit1 c s b e w)) (fun a => ∃ L : Nat, L ≤ 250 ∧ a = nI L ∧ ∀ e : Int, 0 ≤ e → ((L : Int) ≤ e ↔ fitE c s b e)) 3 ?hs ?he vv_F 0 ((0 : Int32), (0 : Int32)) ⟨0, by decide, rfl, fun e he => ⟨fun _ w hw => absurd hw (Nat.not_lt_zero w), fun _ => by omega⟩⟩ (by decide) (vv_F_lt (by decide))
  case hs =>
    rintro i t hi ⟨L, hL, rfl, hA⟩
    left
    obtain ⟨k1, k2⟩ := kv_of W b (nI i)
    obtain ⟨o, e1, o1, o2, o3⟩ := out_le W hs hi k2
    obtain ⟨m, hm, rfl⟩ := to_nI o1 (show _ < ((251 : Nat) : Int) by omega) (by decide)
    have hmI : (nI m).toInt = m := nI_toInt (by omega)
    rw [hmI] at o3
    simp only [ff_X11_leewayNeeded_B5, show (3 : Int32) = nI 3 from rfl, if_neg (nI_nle' hi (by omega)), ff_X11_measureNow, k1, e1, Option.bind_some, vv_let, nI_1, nI_ltI (show L < 2 ^ 31 by omega) (show m < 2 ^ 31 by omega)]
    by_cases g : L < m
    · rw [if_pos g]
      refine ⟨_, rfl, m, by omega, rfl, fun e he => ?_⟩
      rw [all_succ, ← hA e he]
      have := o3 e he
      unfold fit1
      rw [← this]
      omega
    · rw [if_neg g]
      refine ⟨_, rfl, L, hL, rfl, fun e he => ?_⟩
      rw [all_succ, ← hA e he]
      have := o3 e he
      unfold fit1
      rw [← this]
      omega
  case he =>
    rintro t ⟨L, hL, rfl, hA⟩
    simp only [ff_X11_leewayNeeded_B5, show (3 : Int32) = nI 3 from rfl, if_pos (nI_le (Nat.le_refl 3) (by decide))]
    exact ⟨_, rfl, L, hL, rfl, hA⟩
  obtain ⟨a, e1, L, h1, rfl, h2⟩ := hL
  exact ⟨L, h1, by rw [ff_X11_leewayNeeded, e1]; rfl, h2⟩
theorem wi_01 (x a b : Int) : (wi x a b = 1 ∧ a ≤ x ∧ x ≤ b) ∨ (wi x a b = 0 ∧ ¬ (a ≤ x ∧ x ≤ b)) := by
  unfold wi
  split
  · exact Or.inl ⟨rfl, by assumption⟩
  · exact Or.inr ⟨rfl, by assumption⟩
theorem fit {c r : vv_H} (H : RR c r) {s : Nat} (hs : s < 12) (b e : Int32) : ∃ a, ff_X12_doesFit r (nI s) b e = some a ∧ (a = 0 ∨ a = 1) ∧ (0 ≤ e.toInt → e.toInt ≤ 250 → (a = 1 ↔ fitE c s b e.toInt)) := by
  have hL := lp_count (f := fun (zs : Int32 × Int32) => ff_X12_doesFit_B6 (nI s) b e r zs.1 zs.2) (fun i t => ∃ a, t = (a, nI i) ∧ (a = 0 ∨ a = 1) ∧ (0 ≤ e.toInt → e.toInt ≤ 250 → (a = 1 ↔ ∀ w, w < i → fit1 c s b e.toInt w))) (fun a => (a = 0 ∨ a = 1) ∧ (0 ≤ e.toInt → e.toInt ≤ 250 → (a = 1 ↔ fitE c s b e.toInt))) 3 ?hs ?he vv_F 0 ((1 : Int32), (0 : Int32)) ⟨1, rfl, Or.inr rfl, fun _ _ => ⟨fun _ w hw => absurd hw (Nat.not_lt_zero w), fun _ => rfl⟩⟩ (by decide) (vv_F_lt (by decide))
  case hs =>
    rintro i t hi ⟨a, rfl, ha, hA⟩
    left
    obtain ⟨k1, k2⟩ := kv_of H.2.1 b (nI i)
    obtain ⟨⟨a1, a2⟩, a3, a4⟩ := le_bd H.2.1 hs i
    have x1 : (6 : Int32) * nI s + 2 * nI i = nI (6 * s + 2 * i) := by rw [show (6 : Int32) = nI 6 from rfl, show (2 : Int32) = nI 2 from rfl, pk_mul, pk_mul, nI_add]
    simp (disch := omega) only [ff_X12_doesFit_B6, show (3 : Int32) = nI 3 from rfl, if_neg (nI_nle' hi (by omega)), x1, nI_1, ck_lit, nI_clamp, known_eq H.1, rel_s0_0 H.1, k1, Option.bind_some, rel_le H.1 hs hi, rel_gr H.1 hs hi, m_in, Int32.toInt_toInt64, vv_let]
    rcases ha with rfl | rfl
    · rw [if_pos rfl]
      refine ⟨_, rfl, 0, rfl, Or.inl rfl, fun h1 h2 => ?_⟩
      have := hA h1 h2
      rw [all_succ, ← this]
      simp
    · rw [if_neg (by decide)]
      rcases wi_01 (kv c b (nI i)).toInt (c.1 (25 + s) i - e).toInt (c.1 (38 + s) i + e).toInt with ⟨g, g2⟩ | ⟨g, g2⟩
      · rw [g, if_neg (by decide)]
        refine ⟨_, rfl, 1, rfl, Or.inr rfl, fun h1 h2 => ?_⟩
        rw [all_succ, ← hA h1 h2]
        rw [toInt_sub_s (by omega) (by omega), toInt_add_s (by omega) (by omega)] at g2
        exact ⟨fun _ => ⟨rfl, g2⟩, fun _ => rfl⟩
      · rw [g, if_pos rfl]
        refine ⟨_, rfl, 0, rfl, Or.inl rfl, fun h1 h2 => ?_⟩
        rw [all_succ]
        rw [toInt_sub_s (by omega) (by omega), toInt_add_s (by omega) (by omega)] at g2
        exact ⟨fun q => absurd q (by decide), fun q => absurd q.2 g2⟩
  case he =>
    rintro t ⟨a, rfl, ha, hA⟩
    simp only [ff_X12_doesFit_B6, show (3 : Int32) = nI 3 from rfl, if_pos (nI_le (Nat.le_refl 3) (by decide))]
    exact ⟨_, rfl, ha, hA⟩
  obtain ⟨a, e1, h1, h2⟩ := hL
  refine ⟨a, ?_, h1, h2⟩
  rw [ff_X12_doesFit, e1]
  rcases h1 with rfl | rfl <;> rfl
/-- both sides of 'fits with leeway e' -/
theorem fit_two {c r : vv_H} (H : RR c r) {s : Nat} (hs : s < 12) (b : Int32) {e : Int32} (h0 : 0 ≤ e.toInt) (h1 : e.toInt ≤ 250) : ∃ (L : Nat) (a : Int32), L ≤ 250 ∧ ff_X11_leewayNeeded c (nI s) b = some (nI L) ∧ ff_X12_doesFit r (nI s) b e = some a ∧ (((L : Int) ≤ e.toInt ∧ a = 1) ∨ (¬ (L : Int) ≤ e.toInt ∧ a = 0)) := by
  obtain ⟨L, l1, l2, l3⟩ := lee H.2.1 hs b
  obtain ⟨a, e1, e2, e3⟩ := fit H hs b e
  refine ⟨L, a, l1, l2, e1, ?_⟩
  have q1 := l3 e.toInt h0
  have q2 := e3 h0 h1
  rcases e2 with rfl | rfl
  · refine Or.inr ⟨fun h => ?_, rfl⟩
    exact absurd (q2.mpr (q1.mp h)) (by decide)
  · exact Or.inl ⟨q1.mpr (q2.mp rfl), rfl⟩
theorem e_fits {c r : vv_H} (H : RR c r) (s b e : Int32) : ∃ o, ff_X11_fits c s b e = some o ∧ ff_X12_fits r s b e = some o := by
  have hb := H.b (k := 1) (j := 0) rfl
  have hz := H.b (k := 22) (j := 0) rfl
  simp only [ff_X11_fits, ff_X12_fits, m_has8, m_has0, m_isBodyR (h := r) (by rw [rel_s1_0 H.1]; exact hb.1) (by rw [rel_s1_0 H.1]; exact hb.2), rel_s1_0 H.1, rel_s22_0 H.1, toInt_pred hz.1 hz.2 (by decide), m_isWithin, m_in, Option.bind_some, wi_ite, Int32.toInt_toInt64, show (0 : Int64).toInt = 0 from rfl, show (50 : Int64).toInt = 50 from rfl, show (0 : Int32).toInt = 0 from rfl, show (50 : Int32).toInt = 50 from rfl]
  by_cases g1 : 0 ≤ s.toInt ∧ s.toInt ≤ (c.1 22 0).toInt - 1
  case neg =>
    rw [if_neg g1, if_neg g1]
    exact ⟨_, rfl, rfl⟩
  by_cases g2 : 0 ≤ b.toInt ∧ b.toInt ≤ (c.1 1 0).toInt - 1
  case neg =>
    rw [if_pos g1, if_pos g1, if_neg g2, if_neg g2]
    exact ⟨_, rfl, rfl⟩
  by_cases g3 : 0 ≤ e.toInt ∧ e.toInt ≤ 50
  case neg =>
    rw [if_pos g1, if_pos g1, if_pos g2, if_pos g2, if_neg g3, if_neg g3]
    exact ⟨_, rfl, rfl⟩
  rw [if_pos g1, if_pos g1, if_pos g2, if_pos g2, if_pos g3, if_pos g3]
  obtain ⟨n, hn, rfl⟩ := to_nI g1.1 (show _ < ((12 : Nat) : Int) by omega) (by decide)
  obtain ⟨L, a, l1, l2, l3, l4⟩ := fit_two H hn b g3.1 (by omega)
  simp only [l2, l3, Option.bind_some, Int32.lt_iff_toInt_lt, nI_toInt (show L < 2 ^ 31 by omega)]
  rcases l4 with ⟨q, rfl⟩ | ⟨q, rfl⟩
  · rw [if_neg (by omega), if_neg (by decide)]
    exact ⟨_, rfl, rfl⟩
  · rw [if_pos (by omega), if_pos rfl]
    exact ⟨_, rfl, rfl⟩
