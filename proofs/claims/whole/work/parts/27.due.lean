theorem vv_iu_iu {h : vv_H} {k j : Nat} {v w : Int32} : vv_iu (vv_iu h k j v) k j w = vv_iu h k j w := by
  have : (vv_iu (vv_iu h k j v) k j w).1 = (vv_iu h k j w).1 := by
    funext a i
    rw [vv_iu_e, vv_iu_e, vv_iu_e]
    split <;> rfl
  exact Prod.ext this rfl
/-- test t of line i holds of body n -/
def tst (c : vv_H) (q i n t : Nat) : Prop := if c.1 (q + 20 + i) t = 3 then c.1 (3 + n) (c.1 (q + 7 + i) t).toNatClampNeg < c.1 (q + 33 + i) t else if c.1 (q + 20 + i) t = 5 then c.1 (q + 33 + i) t < c.1 (3 + n) (c.1 (q + 7 + i) t).toNatClampNeg else c.1 (3 + n) (c.1 (q + 7 + i) t).toNatClampNeg = c.1 (q + 33 + i) t
theorem all_succ {P : Nat → Prop} {i : Nat} : (∀ a, a < i + 1 → P a) ↔ (∀ a, a < i → P a) ∧ P i :=
  ⟨fun h => ⟨fun a ha => h a (by omega), h i (by omega)⟩, fun h a ha => by
    rcases Nat.lt_or_ge a i with q | q
    · exact h.1 a q
    · have : a = i := by omega
      subst this
      exact h.2⟩
theorem holds_c {c r : vv_H} (H : RR c r) {n i : Nat} (hi : (i : Int) < (c.1 (vv_rid (c.2.2 0)) 0).toInt) {T : Nat} (hT : T < 4) (eT : c.1 (vv_rid (c.2.2 0) + 5) i = nI T) : ∃ a, ff_X6_holds c (c.2.2 0) (nI i) (3 + n) 3 = some a ∧ (((∀ t, t < T → tst c (vv_rid (c.2.2 0)) i n t) ∧ a = 1) ∨ (¬ (∀ t, t < T → tst c (vv_rid (c.2.2 0)) i n t) ∧ a = 0)) := by
  obtain ⟨b1, ⟨b2, b3, b4⟩, b5⟩ := H.2.2.2.2.1
  have hi12 : i < 12 := by omega
  obtain ⟨-, -, -, -, ⟨l1, l2, l3⟩, l4⟩ := b5 i hi
  have hL := lp_count (f := fun (zs : Int32) => ff_X6_holds_B2 (c.2.2 0) (nI i) (3 + n) 3 c zs) (fun j s => s = nI j ∧ ∀ t, t < j → tst c (vv_rid (c.2.2 0)) i n t) (fun z => (z = .inl () ∧ ∀ t, t < T → tst c (vv_rid (c.2.2 0)) i n t) ∨ (z = .inr () ∧ ¬ ∀ t, t < T → tst c (vv_rid (c.2.2 0)) i n t)) T ?hs ?he vv_F 0 (0 : Int32) ⟨rfl, fun t ht => absurd ht (Nat.not_lt_zero t)⟩ (Nat.zero_le _) (vv_F_lt (by omega))
  case hs =>
    rintro j s hj ⟨rfl, hA⟩
    obtain ⟨⟨-, m1, m2⟩, -, -⟩ := l4 j (by rw [eT, nI_toInt (by omega)]; omega)
    simp only [ff_X6_holds_B2, ck_lit hi12 (by decide), ck_lit (show j < 3 by omega) (by decide), nI_clamp (show i < 2 ^ 31 by omega), nI_clamp (show j < 2 ^ 31 by omega), eT, if_neg (nI_nle' hj (by omega)), ck_ok m1 (show _ < ((3 : Nat) : Int) by omega), vv_let, show ((1 : Int32) = 0) = False from by decide, if_true, if_false, nI_1]
    have no : ¬ tst c (vv_rid (c.2.2 0)) i n j → ¬ ∀ t, t < T → tst c (vv_rid (c.2.2 0)) i n t := fun h1 h2 => h1 (h2 j hj)
    by_cases s3 : c.1 (vv_rid (c.2.2 0) + 20 + i) j = 3
    · simp only [if_pos s3]
      by_cases g : c.1 (vv_rid (c.2.2 0) + 33 + i) j ≤ c.1 (3 + n) (c.1 (vv_rid (c.2.2 0) + 7 + i) j).toNatClampNeg
      · rw [if_pos g]
        exact Or.inr ⟨_, rfl, Or.inr ⟨rfl, no (by unfold tst; rw [if_pos s3]; exact Int32.not_lt.mpr g)⟩⟩
      · rw [if_neg g]
        exact Or.inl ⟨_, rfl, rfl, all_succ.mpr ⟨hA, by unfold tst; rw [if_pos s3]; exact Int32.not_le.mp g⟩⟩
    · by_cases s5 : c.1 (vv_rid (c.2.2 0) + 20 + i) j = 5
      · simp only [if_neg s3, if_pos s5]
        by_cases g : c.1 (3 + n) (c.1 (vv_rid (c.2.2 0) + 7 + i) j).toNatClampNeg ≤ c.1 (vv_rid (c.2.2 0) + 33 + i) j
        · rw [if_pos g]
          exact Or.inr ⟨_, rfl, Or.inr ⟨rfl, no (by unfold tst; rw [if_neg s3, if_pos s5]; exact Int32.not_lt.mpr g)⟩⟩
        · rw [if_neg g]
          exact Or.inl ⟨_, rfl, rfl, all_succ.mpr ⟨hA, by unfold tst; rw [if_neg s3, if_pos s5]; exact Int32.not_le.mp g⟩⟩
      · simp only [if_neg s3, if_neg s5]
        by_cases g : c.1 (3 + n) (c.1 (vv_rid (c.2.2 0) + 7 + i) j).toNatClampNeg = c.1 (vv_rid (c.2.2 0) + 33 + i) j
        · rw [if_pos g]
          exact Or.inl ⟨_, rfl, rfl, all_succ.mpr ⟨hA, by unfold tst; rw [if_neg s3, if_neg s5]; exact g⟩⟩
        · rw [if_neg g]
          exact Or.inr ⟨_, rfl, Or.inr ⟨rfl, no (by unfold tst; rw [if_neg s3, if_neg s5]; exact g)⟩⟩
  case he =>
    rintro s ⟨rfl, hA⟩
    simp only [ff_X6_holds_B2, ck_lit hi12 (by decide), nI_clamp (show i < 2 ^ 31 by omega), eT, if_pos (nI_le (Nat.le_refl T) (show T < 2 ^ 31 by omega))]
    exact ⟨_, rfl, Or.inl ⟨rfl, hA⟩⟩
  obtain ⟨a, e1, h | h⟩ := hL
  · exact ⟨1, by rw [ff_X6_holds, e1, h.1]; rfl, Or.inl ⟨h.2, rfl⟩⟩
  · exact ⟨0, by rw [ff_X6_holds, e1, h.1]; rfl, Or.inr ⟨h.2, rfl⟩⟩
theorem add57 {x y : Int32} : (x + 57 = y + 57) = (x = y) := by
  apply propext
  constructor
  · intro h
    have := congrArg (fun z => z - 57) h
    simpa [Int32.add_sub_cancel] using this
  · intro h
    rw [h]
theorem holds_r {c r : vv_H} (H : RR c r) {n i : Nat} (hn : n < 12) (hi : (i : Int) < (c.1 (vv_rid (c.2.2 0)) 0).toInt) {T : Nat} (hT : T < 4) (eT : c.1 (vv_rid (c.2.2 0) + 5) i = nI T) {lb : Int32} : ∃ a, ff_X12_doHold (vv_iu r 0 41 lb) (nI i) (nI n) = some a ∧ (((∀ t, t < T → tst c (vv_rid (c.2.2 0)) i n t) ∧ a = 1) ∨ (¬ (∀ t, t < T → tst c (vv_rid (c.2.2 0)) i n t) ∧ a = 0)) := by
  obtain ⟨b1, ⟨b2, b3, b4⟩, b5⟩ := H.2.2.2.2.1
  have hi12 : i < 12 := by omega
  obtain ⟨-, -, -, -, ⟨l1, l2, l3⟩, l4⟩ := b5 i hi
  have eT' : r.1 20 i = nI T := by rw [l1, eT]
  have hL := lp_count (f := fun (zs : Int32 × Int32) => ff_X12_doHold_B5 (nI i) (nI n) (vv_iu r 0 41 lb) zs.1 zs.2) (fun j s => ∃ a, s = (a, nI j) ∧ (((∀ t, t < j → tst c (vv_rid (c.2.2 0)) i n t) ∧ a = 1) ∨ (¬ (∀ t, t < j → tst c (vv_rid (c.2.2 0)) i n t) ∧ a = 0))) (fun a => ((∀ t, t < T → tst c (vv_rid (c.2.2 0)) i n t) ∧ a = 1) ∨ (¬ (∀ t, t < T → tst c (vv_rid (c.2.2 0)) i n t) ∧ a = 0)) T ?hs ?he vv_F 0 ((1 : Int32), (0 : Int32)) ⟨1, rfl, Or.inl ⟨fun t ht => absurd ht (Nat.not_lt_zero t), rfl⟩⟩ (Nat.zero_le _) (vv_F_lt (by omega))
  case hs =>
    rintro j s hj ⟨a, rfl, hA⟩
    left
    obtain ⟨⟨m0, m1, m2⟩, ⟨m3, m4, m5⟩, m6⟩ := l4 j (by rw [eT, nI_toInt (by omega)]; omega)
    have k9 : (9 : Int32) * nI i + 3 * nI j = nI (9 * i + 3 * j) := by
      rw [show (9 : Int32) = nI 9 from rfl, show (3 : Int32) = nI 3 from rfl, pk_mul, pk_mul, nI_add]
    have ka : nI (9 * i + 3 * j) + 2 = nI (9 * i + 3 * j + 2) := by rw [show (2 : Int32) = nI 2 from rfl, nI_add]
    obtain ⟨w, hw3, ew⟩ := to_nI m1 (show _ < ((3 : Nat) : Int) by omega) (by decide)
    have hcw : (c.1 (vv_rid (c.2.2 0) + 7 + i) j).toNatClampNeg = w := by rw [ew, nI_clamp (by omega)]
    have tv : ∀ z : Int32, z = c.1 (3 + n) w → ∃ a', ff_X12_doHold_J72 (nI i) (nI n) a (nI j) (nI (9 * i + 3 * j)) z (vv_iu r 0 41 lb) = some (.inl (a', nI (j + 1))) ∧ (((∀ t, t < j + 1 → tst c (vv_rid (c.2.2 0)) i n t) ∧ a' = 1) ∨ (¬ (∀ t, t < j + 1 → tst c (vv_rid (c.2.2 0)) i n t) ∧ a' = 0)) := by
      intro z hz
      subst hz
      rcases hA with ⟨hA, rfl⟩ | ⟨hA, rfl⟩
      · simp (disch := omega) only [ff_X12_doHold_J72, show ((1 : Int32) = 0) = False from by decide, if_false, nI_1, ka, ck_lit, nI_clamp, vv_iu_ne, m3, m6, vv_let, show (60 : Int32) = 3 + 57 from rfl, show (62 : Int32) = 5 + 57 from rfl, add57]
        by_cases s3 : c.1 (vv_rid (c.2.2 0) + 20 + i) j = 3
        · rw [if_pos s3]
          by_cases g : c.1 (vv_rid (c.2.2 0) + 33 + i) j ≤ c.1 (3 + n) w
          · rw [if_pos g]
            exact ⟨_, rfl, Or.inr ⟨fun h => Int32.not_lt.mpr g (by have := h j (by omega); unfold tst at this; rw [if_pos s3, hcw] at this; exact this), rfl⟩⟩
          · rw [if_neg g]
            exact ⟨_, rfl, Or.inl ⟨all_succ.mpr ⟨hA, by unfold tst; rw [if_pos s3, hcw]; exact Int32.not_le.mp g⟩, rfl⟩⟩
        · rw [if_neg s3]
          by_cases s5 : c.1 (vv_rid (c.2.2 0) + 20 + i) j = 5
          · rw [if_pos s5]
            by_cases g : c.1 (3 + n) w ≤ c.1 (vv_rid (c.2.2 0) + 33 + i) j
            · rw [if_pos g]
              exact ⟨_, rfl, Or.inr ⟨fun h => Int32.not_lt.mpr g (by have := h j (by omega); unfold tst at this; rw [if_neg s3, if_pos s5, hcw] at this; exact this), rfl⟩⟩
            · rw [if_neg g]
              exact ⟨_, rfl, Or.inl ⟨all_succ.mpr ⟨hA, by unfold tst; rw [if_neg s3, if_pos s5, hcw]; exact Int32.not_le.mp g⟩, rfl⟩⟩
          · rw [if_neg s5]
            by_cases g : c.1 (3 + n) w = c.1 (vv_rid (c.2.2 0) + 33 + i) j
            · rw [if_pos g]
              exact ⟨_, rfl, Or.inl ⟨all_succ.mpr ⟨hA, by unfold tst; rw [if_neg s3, if_neg s5, hcw]; exact g⟩, rfl⟩⟩
            · rw [if_neg g]
              exact ⟨_, rfl, Or.inr ⟨fun h => g (by have := h j (by omega); unfold tst at this; rw [if_neg s3, if_neg s5, hcw] at this; exact this), rfl⟩⟩
      · simp only [ff_X12_doHold_J72, if_true, vv_let, nI_1]
        exact ⟨_, rfl, Or.inr ⟨fun h => hA fun t ht => h t (by omega), rfl⟩⟩
    have hr : ∀ k, k ≠ 0 → (vv_iu r 0 41 lb).1 k = r.1 k := fun k hk => vv_iu_ne hk
    have z0 := tv (r.1 (1 + w) n) (by
      rcases (show w = 0 ∨ w = 1 ∨ w = 2 by omega) with rfl | rfl | rfl
      · exact rel_t0 H.1 hn
      · exact rel_t1 H.1 hn
      · exact rel_t2 H.1 hn)
    obtain ⟨a', e, ha⟩ := z0
    refine ⟨_, ?_, a', rfl, ha⟩
    simp (disch := omega) only [ff_X12_doHold_B5, ck_lit, nI_clamp, vv_iu_ne, eT', if_neg (nI_nle' hj (by omega)), vv_let, k9, m0, ew]
    rcases (show w = 0 ∨ w = 1 ∨ w = 2 by omega) with rfl | rfl | rfl
    · rw [if_pos (show nI 0 = 0 from rfl)]
      exact e
    · rw [if_neg (by decide), if_pos (show nI 1 = 1 from rfl)]
      exact e
    · rw [if_neg (by decide), if_neg (by decide)]
      exact e
  case he =>
    rintro s ⟨a, rfl, hA⟩
    simp (disch := omega) only [ff_X12_doHold_B5, ck_lit, nI_clamp, vv_iu_ne, eT', if_pos (nI_le (Nat.le_refl T) (show T < 2 ^ 31 by omega))]
    exact ⟨_, rfl, hA⟩
  obtain ⟨a, e1, h⟩ := hL
  refine ⟨a, ?_, h⟩
  rw [ff_X12_doHold, e1]
  rcases h with ⟨-, rfl⟩ | ⟨-, rfl⟩ <;> rfl
/-- the line by which a body is due -/
theorem due_two {c r : vv_H} (H : RR c r) {n : Nat} (hn : n < 12) (kind day : Int32) : ∃ m most : Int32, ff_X6_lineDue c (c.2.2 0) (3 + n) 3 kind day = some m ∧ ff_X12_dueOf r (nI n) kind day = some (most, vv_iu r 0 41 m) ∧ ff_X6_numberOf c (c.2.2 0) m = some most := by
  obtain ⟨b1, ⟨b2, b3, b4⟩, b5⟩ := H.2.2.2.2.1
  obtain ⟨N, hN, eN⟩ := to_nI b3 (show _ < ((13 : Nat) : Int) by omega) (by decide)
  have hL := lp_two (f := fun (zs : Int32 × Int32) => ff_X6_lineDue_B7 (c.2.2 0) (3 + n) 3 kind day c zs.1 zs.2) (g := fun (zs : Int32 × Int32 × vv_H) => ff_X12_dueOf_B12 (nI n) kind day zs.1 zs.2.1 zs.2.2) (fun i s t => ∃ m most, s = (m, nI i) ∧ t = (most, nI i, vv_iu r 0 41 m) ∧ ((m = -4 ∧ most = 0) ∨ ∃ k, k < i ∧ m = nI k ∧ most = c.1 (vv_rid (c.2.2 0) + 4) k)) (fun (a : Int32) (b : Int32 × vv_H) => b.2 = vv_iu r 0 41 a ∧ ((a = -4 ∧ b.1 = 0) ∨ ∃ k, k < N ∧ a = nI k ∧ b.1 = c.1 (vv_rid (c.2.2 0) + 4) k)) N ?hs ?he vv_F 0 ((-4 : Int32), (0 : Int32)) ((0 : Int32), (0 : Int32), vv_iu r 0 41 (-4)) ⟨_, _, rfl, rfl, Or.inl ⟨rfl, rfl⟩⟩ (Nat.zero_le _) (vv_F_lt (by omega))
  case hs =>
    rintro i s t hi ⟨m, most, rfl, rfl, hm⟩
    left
    have hiI : (i : Int) < (c.1 (vv_rid (c.2.2 0)) 0).toInt := by rw [eN, nI_toInt (by omega)]; omega
    obtain ⟨⟨l1, -, -⟩, ⟨l2, -, -⟩, l3, ⟨l4, -, -, -⟩, ⟨l8, l9, l10⟩, -⟩ := b5 i hiI
    obtain ⟨T, hT, eT⟩ := to_nI l9 (show _ < ((4 : Nat) : Int) by omega) (by decide)
    obtain ⟨a1, ea1, h1⟩ := holds_c H (n := n) hiI hT eT
    obtain ⟨a2, ea2, h2⟩ := holds_r H hn hiI hT eT (lb := m)
    have haa : a2 = a1 := by
      rcases h1 with ⟨p1, q1⟩ | ⟨p1, q1⟩ <;> rcases h2 with ⟨p2, q2⟩ | ⟨p2, q2⟩
      · rw [q1, q2]
      · exact absurd p1 p2
      · exact absurd p2 p1
      · rw [q1, q2]
    rw [haa] at ea2
    have keep : (m = -4 ∧ most = 0) ∨ ∃ k, k < i + 1 ∧ m = nI k ∧ most = c.1 (vv_rid (c.2.2 0) + 4) k := by
      rcases hm with hm | ⟨k, hk, hm⟩
      · exact Or.inl hm
      · exact Or.inr ⟨k, by omega, hm⟩
    have new : (nI i = -4 ∧ c.1 (vv_rid (c.2.2 0) + 4) i = 0) ∨ ∃ k, k < i + 1 ∧ nI i = nI k ∧ c.1 (vv_rid (c.2.2 0) + 4) i = c.1 (vv_rid (c.2.2 0) + 4) k := Or.inr ⟨i, by omega, rfl, rfl⟩
    simp (disch := omega) only [ff_X6_lineDue_B7, ff_X6_lineDue_J54, ff_X6_lineDue_J55, ff_X12_dueOf_B12, ff_X12_dueOf_J84, vv_iu_ne, vv_iu_nj, vv_iu_eq, vv_iu_iu, eN, b2, if_neg (nI_nle' hi (by omega)), ck_lit, nI_clamp, vv_let, show ((1 : Int32) = 0) = False from by decide, if_true, if_false, nI_1, l1, l2, l3, l4, show (0 : Int32) = 8 - 8 from rfl, sub8]
    simp only [show (8 : Int32) - 8 = 0 from rfl, ea1, ea2, Option.bind_some]
    by_cases g1 : c.1 (vv_rid (c.2.2 0) + 1) i = 8
    case neg =>
      simp only [if_neg g1, if_true]
      exact ⟨_, _, rfl, rfl, _, _, rfl, rfl, keep⟩
    by_cases g2 : c.1 (vv_rid (c.2.2 0) + 3) i = kind
    case neg =>
      simp only [if_pos g1, if_neg g2, if_true]
      exact ⟨_, _, rfl, rfl, _, _, rfl, rfl, keep⟩
    by_cases g3 : day < c.1 (vv_rid (c.2.2 0) + 2) i
    case pos =>
      simp only [if_pos g1, if_pos g2, if_pos g3, if_true]
      exact ⟨_, _, rfl, rfl, _, _, rfl, rfl, keep⟩
    simp only [if_pos g1, if_pos g2, if_neg g3, show ((1 : Int32) = 0) = False from by decide, if_false]
    by_cases g4 : a1 = 0
    · simp only [if_pos g4]
      exact ⟨_, _, rfl, rfl, _, _, rfl, rfl, keep⟩
    · simp only [if_neg g4]
      rcases hm with ⟨rfl, rfl⟩ | ⟨k, hk, rfl, rfl⟩
      · simp only [show ((-4 : Int32) < 0) = True from by decide, if_true]
        exact ⟨_, _, rfl, rfl, _, _, rfl, rfl, new⟩
      · have g5 : ¬ nI k < 0 := nI_pos (by omega)
        have g6 : ¬ nI k = -4 := fun e => g5 (by rw [e]; decide)
        simp (disch := omega) only [if_neg g5, if_neg g6, ck_lit, nI_clamp]
        by_cases g7 : c.1 (vv_rid (c.2.2 0) + 4) i ≤ c.1 (vv_rid (c.2.2 0) + 4) k
        · simp only [if_pos g7]
          exact ⟨_, _, rfl, rfl, _, _, rfl, rfl, keep⟩
        · simp only [if_neg g7]
          exact ⟨_, _, rfl, rfl, _, _, rfl, rfl, new⟩
  case he =>
    rintro s t ⟨m, most, rfl, rfl, hm⟩
    simp (disch := omega) only [ff_X6_lineDue_B7, ff_X12_dueOf_B12, vv_iu_nj, eN, b2, if_pos (nI_le (Nat.le_refl N) (show N < 2 ^ 31 by omega))]
    exact ⟨_, _, rfl, rfl, rfl, hm⟩
  obtain ⟨a, ⟨b, g⟩, e1, e2, h1, h2⟩ := hL
  dsimp only at h1 h2
  subst h1
  refine ⟨a, b, by rw [ff_X6_lineDue, e1]; rfl, by simp only [ff_X12_dueOf, vv_let, e2, Option.bind_some], ?_⟩
  rcases h2 with ⟨rfl, rfl⟩ | ⟨k, hk, rfl, rfl⟩
  · rfl
  · rw [ff_X6_numberOf, if_neg (nI_pos (by omega)), eN, if_neg (nI_nle' hk (by omega)), ck_lit (by omega) (by decide), nI_clamp (by omega)]
theorem RR_41 {c r : vv_H} (H : RR c r) (m : Int32) : RR c (vv_iu r 0 41 m) := RR_core H (coC_rf c) (coR_iu (coR_rf r) (by unfold scR; omega))
theorem e_due {c r : vv_H} (H : RR c r) (b k d : Int32) : ∃ o r', ff_X11_due c b k d = some o ∧ ff_X12_due r b k d = some (o, r') ∧ RR c r' := by
  have hb := H.b (k := 1) (j := 0) rfl
  simp only [ff_X11_due, ff_X12_due, m_has0, m_isBodyR (h := r) (by rw [rel_s1_0 H.1]; exact hb.1) (by rw [rel_s1_0 H.1]; exact hb.2), rel_s1_0 H.1, m_isKind, m_isDay, m_isDayR, m_in, Option.bind_some, wi_ite, Int32.toInt_toInt64, show (0 : Int64).toInt = 0 from rfl, show (3 : Int64).toInt = 3 from rfl]
  by_cases g1 : 0 ≤ b.toInt ∧ b.toInt ≤ (c.1 1 0).toInt - 1
  case neg =>
    rw [if_neg g1, if_neg g1]
    exact ⟨_, _, rfl, rfl, H⟩
  obtain ⟨n, hn, rfl⟩ := to_nI g1.1 (show _ < ((12 : Nat) : Int) by omega) (by decide)
  obtain ⟨m, most, e1, e2, e3⟩ := due_two H hn k d
  simp only [ff_X11_dueTo, ck_lit hn (by decide), nI_clamp (show n < 2 ^ 31 by omega), e1, e2, e3, Option.bind_some]
  repeat' split
  all_goals first | exact ⟨_, _, rfl, rfl, H⟩ | exact ⟨_, _, rfl, rfl, RR_41 H m⟩
theorem e_why {c r : vv_H} (H : RR c r) (b k d : Int32) : ∃ o r', ff_X11_why c b k d = some o ∧ ff_X12_why r b k d = some (o, r') ∧ RR c r' := by
  have hb := H.b (k := 1) (j := 0) rfl
  simp only [ff_X11_why, ff_X12_why, m_has0, m_isBodyR (h := r) (by rw [rel_s1_0 H.1]; exact hb.1) (by rw [rel_s1_0 H.1]; exact hb.2), rel_s1_0 H.1, m_isKind, m_isDay, m_isDayR, m_in, Option.bind_some, wi_ite, Int32.toInt_toInt64, show (0 : Int64).toInt = 0 from rfl, show (3 : Int64).toInt = 3 from rfl]
  by_cases g1 : 0 ≤ b.toInt ∧ b.toInt ≤ (c.1 1 0).toInt - 1
  case neg =>
    rw [if_neg g1, if_neg g1]
    exact ⟨_, _, rfl, rfl, H⟩
  obtain ⟨n, hn, rfl⟩ := to_nI g1.1 (show _ < ((12 : Nat) : Int) by omega) (by decide)
  obtain ⟨m, most, e1, e2, e3⟩ := due_two H hn k d
  simp only [ck_lit hn (by decide), nI_clamp (show n < 2 ^ 31 by omega), e1, e2, e3, Option.bind_some, vv_iu_eq]
  repeat' split
  all_goals first | exact ⟨_, _, rfl, rfl, H⟩ | exact ⟨_, _, rfl, rfl, RR_41 H m⟩
