/-- the leeway that body b needs in the size t -/
def lw (c : vv_H) (b : Int32) (t : Nat) : Nat := ((ff_X11_leewayNeeded c (nI t) b).getD 0).toNatClampNeg
theorem lw_of {c : vv_H} (W : wf0 c) {t : Nat} (ht : t < 12) (b : Int32) : ff_X11_leewayNeeded c (nI t) b = some (nI (lw c b t)) ∧ lw c b t ≤ 250 ∧ ∀ e : Int, 0 ≤ e → ((lw c b t : Int) ≤ e ↔ fitE c t b e) := by
  obtain ⟨L, h1, h2, h3⟩ := lee W ht b
  have : lw c b t = L := by
    unfold lw
    rw [h2]
    exact nI_clamp (by omega)
  rw [this]
  exact ⟨h2, h1, h3⟩
theorem fit_lw {c r : vv_H} (H : RR c r) {t : Nat} (ht : t < 12) (b : Int32) {e : Int32} (h0 : 0 ≤ e.toInt) (h1 : e.toInt ≤ 250) : ∃ a : Int32, ff_X12_doesFit r (nI t) b e = some a ∧ (((lw c b t : Int) ≤ e.toInt ∧ a = 1) ∨ (¬ (lw c b t : Int) ≤ e.toInt ∧ a = 0)) := by
  obtain ⟨L, a, e1, e2, e3, e4⟩ := fit_two H ht b h0 h1
  have q := (lw_of H.2.1 ht b).1
  rw [q] at e2
  have e5 : nI (lw c b t) = nI L := Option.some.inj e2
  have : lw c b t = L := (nI_eq (by have := (lw_of H.2.1 ht b).2.1; omega) (by omega)).mp e5
  rw [this]
  exact ⟨a, e3, e4⟩
/-- the inner loop of the reference: m becomes the smaller of m and the leeway -/
theorem sized_in {c r : vv_H} (H : RR c r) {t : Nat} (ht : t < 12) (u1 u2 u3 u4 u5 u6 : Int32) {m : Nat} (hm : m ≤ 51) : vv_lp (fun (zs : Int32) => ff_X12_sized_B106 u1 u2 u3 u4 u5 u6 (nI t) r zs) vv_F (nI m) = some (nI (min m (lw c u1 t))) := by
  have hL := lp_count (f := fun (zs : Int32) => ff_X12_sized_B106 u1 u2 u3 u4 u5 u6 (nI t) r zs) (fun i z => z = nI (m - i) ∧ i ≤ m ∧ min (m - i) (lw c u1 t) = min m (lw c u1 t)) (fun a => a = nI (min m (lw c u1 t))) m ?hs ?he vv_F 0 (nI m) ⟨rfl, Nat.zero_le _, rfl⟩ (Nat.zero_le _) (vv_F_lt (by omega))
  case hs =>
    rintro i z hi ⟨rfl, h1, h2⟩
    obtain ⟨d, hd⟩ : ∃ d, m - i = d + 1 := ⟨m - i - 1, by omega⟩
    have hd0 : ¬ nI (d + 1) ≤ 0 := nI_nle (by omega) (by omega)
    obtain ⟨a, e1, e2⟩ := fit_lw H ht u1 (e := nI d) (by rw [nI_toInt (by omega)]; omega) (by rw [nI_toInt (by omega)]; omega)
    rw [nI_toInt (by omega)] at e2
    simp only [ff_X12_sized_B106, hd, if_neg hd0, nI_pred, pk_m1, e1, Option.bind_some, vv_let]
    rcases e2 with ⟨g, rfl⟩ | ⟨g, rfl⟩
    · left
      rw [if_neg (by decide)]
      exact ⟨_, rfl, by rw [show m - (i + 1) = d by omega], by omega, by omega⟩
    · right
      rw [if_pos rfl]
      exact ⟨_, rfl, by rw [← h2, hd, Nat.min_eq_left (by omega)]⟩
  case he =>
    rintro z ⟨rfl, h1, h2⟩
    rw [Nat.sub_self] at h2 ⊢
    simp only [ff_X12_sized_B106, show nI 0 ≤ (0 : Int32) from by decide, if_true]
    exact ⟨_, rfl, by rw [← h2, Nat.zero_min]⟩
  obtain ⟨a, e1, rfl⟩ := hL
  exact e1
/-- m is the least leeway (51: none of at most 50) among the sizes P of kind -/
def lst (c : vv_H) (b kind : Int32) (P : Nat → Prop) (m : Nat) : Prop := m ≤ 51 ∧ ∀ x : Nat, x ≤ 50 → (m ≤ x ↔ ∃ t, P t ∧ c.1 23 t = kind ∧ lw c b t ≤ x)
theorem least_c {c : vv_H} (W : wf0 c) {N : Nat} (hN : N < 13) (eN : c.1 22 0 = nI N) (b kind : Int32) : ∃ m : Nat, lst c b kind (fun t => t < N) m ∧ ff_X11_leastLeeway c b kind = if m ≤ 50 then some (nI m) else some (-4) := by
  have hL := lp_count (f := fun (zs : Int32 × Int32) => ff_X11_leastLeeway_B6 b kind c zs.1 zs.2) (fun i z => ∃ m, z = (nI m, nI i) ∧ lst c b kind (fun t => t < i) m) (fun a => ∃ m, a = nI m ∧ lst c b kind (fun t => t < N) m) N ?hs ?he vv_F 0 ((51 : Int32), (0 : Int32)) ⟨51, rfl, by decide, fun x hx => ⟨fun h => by omega, fun ⟨t, h, _⟩ => by omega⟩⟩ (Nat.zero_le _) (vv_F_lt (by omega))
  case hs =>
    rintro i z hi ⟨m, rfl, hm, hA⟩
    left
    obtain ⟨l1, l2, l3⟩ := lw_of W (show i < 12 by omega) b
    simp (disch := omega) only [ff_X11_leastLeeway_B6, ff_X8_isOf, eN, if_neg (nI_nle' hi (by omega)), ck_lit, nI_clamp, l1]
    have hsp : ∀ x, (∃ t, t < i + 1 ∧ c.1 23 t = kind ∧ lw c b t ≤ x) ↔ (∃ t, t < i ∧ c.1 23 t = kind ∧ lw c b t ≤ x) ∨ (c.1 23 i = kind ∧ lw c b i ≤ x) := fun x => by
      constructor
      · rintro ⟨t, h1, h2, h3⟩
        rcases Nat.lt_succ_iff_lt_or_eq.mp h1 with h | rfl
        · exact Or.inl ⟨t, h, h2, h3⟩
        · exact Or.inr ⟨h2, h3⟩
      · rintro (⟨t, h1, h2, h3⟩ | ⟨h2, h3⟩)
        · exact ⟨t, by omega, h2, h3⟩
        · exact ⟨i, by omega, h2, h3⟩
    by_cases g : c.1 23 i = kind
    · simp only [if_pos g, Option.bind_some, show ((1 : Int32) = 0) = False from by decide, if_false, vv_let, nI_1]
      simp only [nI_ltI (show lw c b i < 2 ^ 31 by omega) (show m < 2 ^ 31 by omega)]
      refine ⟨_, rfl, min m (lw c b i), ?_, by omega, fun x hx => ?_⟩
      · by_cases g2 : lw c b i < m
        · rw [if_pos g2, Nat.min_eq_right (by omega)]
        · rw [if_neg g2, Nat.min_eq_left (by omega)]
      · rw [hsp, ← hA x hx]
        constructor
        · intro h
          by_cases g2 : m ≤ x
          · exact Or.inl g2
          · exact Or.inr ⟨g, by omega⟩
        · rintro (h | ⟨_, h⟩) <;> omega
    · simp only [if_neg g, Option.bind_some, if_true, vv_let, nI_1]
      refine ⟨_, rfl, m, rfl, hm, fun x hx => ?_⟩
      rw [hsp, ← hA x hx]
      exact ⟨Or.inl, fun h => h.elim id fun h => absurd h.1 g⟩
  case he =>
    rintro z ⟨m, rfl, hm⟩
    simp only [ff_X11_leastLeeway_B6, eN, if_pos (nI_le (Nat.le_refl N) (by omega))]
    exact ⟨_, rfl, m, rfl, hm⟩
  obtain ⟨a, e1, m, rfl, hm⟩ := hL
  refine ⟨m, hm, ?_⟩
  simp only [ff_X11_leastLeeway, e1, Option.bind_some, show (50 : Int32) = nI 50 from rfl]
  have hm51 := hm.1
  simp only [nI_leI (show m < 2 ^ 31 by omega) (show 50 < 2 ^ 31 by decide)]
/-- both loops of 'sized' -/
theorem sized_two {c r : vv_H} (H : RR c r) {N : Nat} (hN : N < 13) (eN : c.1 22 0 = nI N) (u1 u2 u3 u4 : Int32) : ∃ (a : Int32 × Int32) (b : Int32 × Int32 × Int32),
    vv_lp (fun (zs : Int32 × Int32 × Int32) => ff_X11_sized_B73 u1 u2 u3 u4 c zs.1 zs.2.1 zs.2.2) vv_F ((0 : Int32), (-4 : Int32), nI N + (-1)) = some a ∧
    vv_lp (fun (zs : Int32 × Int32 × Int32 × Int32) => ff_X12_sized_B72 u1 u2 u3 u4 r zs.1 zs.2.1 zs.2.2.1 zs.2.2.2) vv_F ((0 : Int32), (-4 : Int32), (51 : Int32), nI N + (-1)) = some b ∧
    ((0 ≤ u3.toInt ∧ u3.toInt ≤ 50 → a.1 = b.1 ∧ a.2 = b.2.1) ∧ ∃ m : Nat, b.2.2 = nI m ∧ lst c u1 u2 (fun t => t < N) m) := by
  refine lp_two (f := fun (zs : Int32 × Int32 × Int32) => ff_X11_sized_B73 u1 u2 u3 u4 c zs.1 zs.2.1 zs.2.2) (g := fun (zs : Int32 × Int32 × Int32 × Int32) => ff_X12_sized_B72 u1 u2 u3 u4 r zs.1 zs.2.1 zs.2.2.1 zs.2.2.2) (fun i s t => ∃ (a1 a2 b1 b2 : Int32) (m : Nat), s = (a1, a2, nI (N - i) + (-1)) ∧ t = (b1, b2, nI m, nI (N - i) + (-1)) ∧ (0 ≤ u3.toInt ∧ u3.toInt ≤ 50 → a1 = b1 ∧ a2 = b2) ∧ lst c u1 u2 (fun t => N - i ≤ t ∧ t < N) m) (fun a b => (0 ≤ u3.toInt ∧ u3.toInt ≤ 50 → a.1 = b.1 ∧ a.2 = b.2.1) ∧ ∃ m : Nat, b.2.2 = nI m ∧ lst c u1 u2 (fun t => t < N) m) N ?hs ?he vv_F 0 _ _ ⟨0, -4, 0, -4, 51, rfl, rfl, fun _ => ⟨rfl, rfl⟩, by decide, fun x hx => ⟨fun h => by omega, fun ⟨t, h, _⟩ => by omega⟩⟩ (Nat.zero_le _) (vv_F_lt (by omega))
  case hs =>
    rintro i s t hi ⟨a1, a2, b1, b2, m, rfl, rfl, hA, hm, hB⟩
    left
    obtain ⟨d, hd⟩ : ∃ d, N - i = d + 1 := ⟨N - i - 1, by omega⟩
    have hd' : N - (i + 1) = d := by omega
    have hd12 : d < 12 := by omega
    obtain ⟨l1, l2, l3⟩ := lw_of H.2.1 hd12 u1
    obtain ⟨f, f1, f2, f3⟩ := fit H hd12 u1 u3
    have hsp : ∀ x, (∃ t, (d ≤ t ∧ t < N) ∧ c.1 23 t = u2 ∧ lw c u1 t ≤ x) ↔ (∃ t, (d + 1 ≤ t ∧ t < N) ∧ c.1 23 t = u2 ∧ lw c u1 t ≤ x) ∨ (c.1 23 d = u2 ∧ lw c u1 d ≤ x) := fun x => by
      constructor
      · rintro ⟨t, ⟨h1, h4⟩, h2, h3⟩
        rcases Nat.lt_or_eq_of_le h1 with h | rfl
        · exact Or.inl ⟨t, ⟨h, h4⟩, h2, h3⟩
        · exact Or.inr ⟨h2, h3⟩
      · rintro (⟨t, ⟨h1, h4⟩, h2, h3⟩ | ⟨h2, h3⟩)
        · exact ⟨t, ⟨by omega, h4⟩, h2, h3⟩
        · exact ⟨d, ⟨Nat.le_refl _, by omega⟩, h2, h3⟩
    rw [hd] at hB
    simp (disch := omega) only [ff_X11_sized_B73, ff_X12_sized_B72, ff_X8_isOf, hd, hd', pk_m1, if_neg (nI_pos (show d < 2 ^ 31 by omega)), ck_lit, nI_clamp, l1, f1, rel_a23 H.1]
    by_cases g : c.1 23 d = u2
    · simp only [if_pos g, Option.bind_some, show ((1 : Int32) = 0) = False from by decide, if_false, vv_let, ff_X12_sized_J106, sized_in H hd12 u1 u2 u3 u4 _ _ hm]
      have hm2 : lst c u1 u2 (fun t => d ≤ t ∧ t < N) (min m (lw c u1 d)) := ⟨by omega, fun x hx => by
        rw [hsp, ← hB x hx]
        constructor
        · intro h
          by_cases g2 : m ≤ x
          · exact Or.inl g2
          · exact Or.inr ⟨g, by omega⟩
        · rintro (h | ⟨_, h⟩) <;> omega⟩
      by_cases g2 : u3 < nI (lw c u1 d)
      · rw [if_pos g2]
        rcases f2 with rfl | rfl
        · rw [if_pos rfl]
          exact ⟨_, _, rfl, rfl, a1, a2, b1, b2, _, rfl, rfl, hA, hm2⟩
        · rw [if_neg (by decide)]
          refine ⟨_, _, rfl, rfl, _, _, _, _, _, rfl, rfl, fun h => ?_, hm2⟩
          have q1 := (f3 h.1 (by omega)).mp rfl
          have q2 := (l3 _ h.1).mpr q1
          rw [Int32.lt_iff_toInt_lt, nI_toInt (by omega)] at g2
          omega
      · rw [if_neg g2]
        rcases f2 with rfl | rfl
        · rw [if_pos rfl]
          refine ⟨_, _, rfl, rfl, _, _, _, _, _, rfl, rfl, fun h => ?_, hm2⟩
          rw [Int32.lt_iff_toInt_lt, nI_toInt (by omega)] at g2
          have q1 := (l3 _ h.1).mp (by omega)
          exact absurd ((f3 h.1 (by omega)).mpr q1) (by decide)
        · rw [if_neg (by decide)]
          exact ⟨_, _, rfl, rfl, _, _, _, _, _, rfl, rfl, fun h => ⟨by rw [(hA h).1], rfl⟩, hm2⟩
    · simp only [if_neg g, Option.bind_some, if_true, vv_let]
      refine ⟨_, _, rfl, rfl, a1, a2, b1, b2, m, rfl, rfl, hA, hm, fun x hx => ?_⟩
      rw [hsp, ← hB x hx]
      exact ⟨Or.inl, fun h => h.elim id fun h => absurd h.1 g⟩
  case he =>
    rintro s t ⟨a1, a2, b1, b2, m, rfl, rfl, hA, hB⟩
    simp only [ff_X11_sized_B73, ff_X12_sized_B72, Nat.sub_self, show nI 0 + (-1 : Int32) < 0 from by decide, if_true]
    refine ⟨_, _, rfl, rfl, hA, m, rfl, ?_⟩
    rw [Nat.sub_self] at hB
    exact ⟨hB.1, fun x hx => (hB.2 x hx).trans ⟨fun ⟨t, h⟩ => ⟨t, h.1.2, h.2⟩, fun ⟨t, h⟩ => ⟨t, ⟨Nat.zero_le _, h.1⟩, h.2⟩⟩⟩
theorem lst_uniq {c : vv_H} {b k : Int32} {P : Nat → Prop} {m n : Nat} (h1 : lst c b k P m) (h2 : lst c b k P n) : m = n := by
  have a : ∀ x, x ≤ 50 → (m ≤ x ↔ n ≤ x) := fun x hx => (h1.2 x hx).trans (h2.2 x hx).symm
  have := h1.1
  have := h2.1
  by_cases g : m ≤ 50
  · have := (a m g).mp (Nat.le_refl m)
    have := (a n (by omega)).mpr (Nat.le_refl n)
    omega
  · by_cases g2 : n ≤ 50
    · have := (a n g2).mpr (Nat.le_refl n)
      omega
    · omega
theorem e_sized {c r : vv_H} (H : RR c r) (b kind e what : Int32) : ∃ o, ff_X11_sized c b kind e what = some o ∧ ff_X12_sized r b kind e what = some o := by
  have hb := H.b (k := 1) (j := 0) rfl
  have hz := H.b (k := 22) (j := 0) rfl
  obtain ⟨N, hN, eN⟩ := to_nI (n := 13) hz.1 (by omega) (by decide)
  obtain ⟨x, y, p1, p2, p3, m, p4, p5⟩ := sized_two H hN eN b kind e what
  obtain ⟨m', q1, q2⟩ := least_c H.2.1 hN eN b kind
  obtain rfl := lst_uniq p5 q1
  have p6 : nI N - 1 = nI N + (-1) := Int32.sub_eq_add_neg _ _
  simp only [ff_X11_sized, ff_X12_sized, ff_X12_sized_J53, m_has0, m_isBodyR (h := r) (by rw [rel_s1_0 H.1]; exact hb.1) (by rw [rel_s1_0 H.1]; exact hb.2), rel_s1_0 H.1, rel_s22_0 H.1, m_isKind, m_isWithin, m_in, Option.bind_some, wi_ite, Int32.toInt_toInt64, eN, p6, vv_let, p1, p2, q2, show (0 : Int64).toInt = 0 from rfl, show (50 : Int64).toInt = 50 from rfl, show (0 : Int32).toInt = 0 from rfl, show (50 : Int32).toInt = 50 from rfl, show (2 : Int64).toInt = 2 from rfl, show (3 : Int64).toInt = 3 from rfl, show (2 : Int32).toInt = 2 from rfl]
  by_cases g1 : 0 ≤ b.toInt ∧ b.toInt ≤ (c.1 1 0).toInt - 1
  case neg =>
    rw [if_neg g1, if_neg g1]
    exact ⟨_, rfl, rfl⟩
  rw [if_pos g1, if_pos g1]
  by_cases g2 : 0 ≤ kind.toInt ∧ kind.toInt ≤ 3
  case neg =>
    rw [if_neg g2, if_neg g2]
    exact ⟨_, rfl, rfl⟩
  rw [if_pos g2, if_pos g2]
  by_cases g3 : 0 ≤ what.toInt ∧ what.toInt ≤ 2
  case neg =>
    rw [if_neg g3, if_neg g3]
    exact ⟨_, rfl, rfl⟩
  rw [if_pos g3, if_pos g3]
  obtain ⟨k, hk, rfl⟩ := to_nI (n := 3) g3.1 (by omega) (by decide)
  have hm := p5.1
  have hc : k = 0 ∨ k = 1 ∨ k = 2 := by omega
  rcases hc with rfl | rfl | rfl
  case inr.inr =>
    simp only [show nI 2 = (2 : Int32) from rfl, if_true, show (2 : Int32) ≤ 2 from by decide, show ((2 : Int32) = 0) = False from by decide, show ((2 : Int32) = 1) = False from by decide, if_false, p4, show (50 : Int32) = nI 50 from rfl]
    simp only [nI_leI (show m < 2 ^ 31 by omega) (show 50 < 2 ^ 31 by decide)]
    by_cases g : m ≤ 50
    · rw [if_pos g]
      exact ⟨_, rfl, rfl⟩
    · rw [if_neg g]
      exact ⟨_, rfl, rfl⟩
  all_goals
    by_cases g4 : 0 ≤ e.toInt ∧ e.toInt ≤ 50
    case neg =>
      simp only [show nI 0 = (0 : Int32) from rfl, show nI 1 = (1 : Int32) from rfl, show ((2 : Int32) ≤ 0) = False from by decide, show ((2 : Int32) ≤ 1) = False from by decide, show ((0 : Int32) = 2) = False from by decide, show ((1 : Int32) = 2) = False from by decide, if_false, if_neg g4]
      exact ⟨_, rfl, rfl⟩
    obtain ⟨r1, r2⟩ := p3 g4
    simp only [show nI 0 = (0 : Int32) from rfl, show nI 1 = (1 : Int32) from rfl, show ((2 : Int32) ≤ 0) = False from by decide, show ((2 : Int32) ≤ 1) = False from by decide, show ((0 : Int32) = 2) = False from by decide, show ((1 : Int32) = 2) = False from by decide, show ((1 : Int32) = 0) = False from by decide, if_true, if_false, if_pos g4, r1, r2]
    exact ⟨_, rfl, rfl⟩
