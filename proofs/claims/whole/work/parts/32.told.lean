/-- a sum from the front -/
def cn (f : Nat → Int32) : Nat → Int32
  | 0 => 0
  | n + 1 => cn f n + f n
theorem with_two {c r : vv_H} (H : RR c r) (b w : Int32) : ∃ m, ff_X4_countWith c b = some m ∧ vv_lp (fun (zs : Int32 × Int32) => ff_X12_told_B98 b w r zs.1 zs.2) vv_F ((0 : Int32), (0 : Int32)) = some m := by
  have hb := H.b (k := 156) (j := 0) rfl
  obtain ⟨N, hN, eN⟩ := to_nI hb.1 (show _ < ((37 : Nat) : Int) by omega) (by decide)
  have eR : r.1 0 44 = nI N := by rw [rel_s156_0 H.1, eN]
  have hL := lp_two (f := fun (zs : Int32 × Int32) => ff_X4_countWith_B4 b c zs.1 zs.2) (g := fun (zs : Int32 × Int32) => ff_X12_told_B98 b w r zs.1 zs.2) (fun i s t => ∃ v, s = (v, nI i) ∧ t = (v, nI i)) (fun (a b : Int32) => b = a) N ?hs ?he vv_F 0 ((0 : Int32), (0 : Int32)) ((0 : Int32), (0 : Int32)) ⟨_, rfl, rfl⟩ (Nat.zero_le _) (vv_F_lt (by omega))
  case hs =>
    rintro i s t hi ⟨v, rfl, rfl⟩
    left
    simp only [ff_X4_countWith_B4, ff_X12_told_B98, eN, eR, if_neg (nI_nle' hi (by omega)), ck_lit (show i < 36 by omega) (by decide), vv_let, nI_1, nI_clamp (show i < 2 ^ 31 by omega), rel_a161 H.1]
    split
    all_goals exact ⟨_, _, rfl, rfl, _, rfl, rfl⟩
  case he =>
    rintro s t ⟨v, rfl, rfl⟩
    simp only [ff_X4_countWith_B4, ff_X12_told_B98, eN, eR, if_pos (nI_le (Nat.le_refl N) (show N < 2 ^ 31 by omega))]
    exact ⟨_, _, rfl, rfl, rfl⟩
  obtain ⟨a, b', e1, e2, rfl⟩ := hL
  exact ⟨_, by rw [ff_X4_countWith, e1]; rfl, e2⟩
theorem ne_lit {x : Int32} {a b : Int} (h : ¬ (a ≤ x.toInt ∧ x.toInt ≤ b)) (y : Int32) (hy : a ≤ y.toInt ∧ y.toInt ≤ b) : ¬ x = y := fun e => h (by rw [e]; exact hy)
theorem e_told {c r : vv_H} (H : RR c r) (b w : Int32) : ∃ o r', ff_X11_told c b w = some o ∧ ff_X12_told r b w = some (o, r') ∧ RR c r' := by
  have hb := H.b (k := 1) (j := 0) rfl
  simp only [ff_X11_told, ff_X12_told, m_has0, m_isBodyR (h := r) (by rw [rel_s1_0 H.1]; exact hb.1) (by rw [rel_s1_0 H.1]; exact hb.2), rel_s1_0 H.1, m_isWithin, m_in, Option.bind_some, wi_ite, Int32.toInt_toInt64, show (3 : Int64).toInt = 3 from rfl, show (5 : Int64).toInt = 5 from rfl, show (10 : Int64).toInt = 10 from rfl, show (13 : Int64).toInt = 13 from rfl, show (20 : Int64).toInt = 20 from rfl, show (23 : Int64).toInt = 23 from rfl, show (0 : Int32).toInt = 0 from rfl, show (2 : Int32).toInt = 2 from rfl, show (3 : Int32).toInt = 3 from rfl, show (5 : Int32).toInt = 5 from rfl, show (10 : Int32).toInt = 10 from rfl, show (13 : Int32).toInt = 13 from rfl, show (20 : Int32).toInt = 20 from rfl, show (23 : Int32).toInt = 23 from rfl]
  by_cases g1 : 0 ≤ b.toInt ∧ b.toInt ≤ (c.1 1 0).toInt - 1
  case neg =>
    rw [if_neg g1, if_neg g1]
    exact ⟨_, _, rfl, rfl, H⟩
  rw [if_pos g1, if_pos g1]
  obtain ⟨n, hn, rfl⟩ := to_nI g1.1 (show _ < ((12 : Nat) : Int) by omega) (by decide)
  obtain ⟨kn, k1, -⟩ := known_tot H.2.1 (nI n) (w - 3) (c.1 0 0) (c.1 0 0)
  obtain ⟨hs, h1, h2⟩ := has_two H (nI n) (w - 10)
  obtain ⟨ln, most, d1, d2, d3⟩ := due_two H hn (w - 20) (c.1 0 0)
  obtain ⟨m, m1, m2⟩ := with_two H (nI n) w
  simp (disch := omega) only [ff_X11_measureNow, known_eq H.1, rel_s0_0 H.1, k1, h1, h2, ff_X11_dueTo, d1, d2, d3, m1, m2, Option.bind_some, ck_lit, nI_clamp, rel_a15 H.1]
  by_cases w3 : 3 ≤ w.toInt ∧ w.toInt ≤ 5
  · rw [if_neg (show ¬ (0 ≤ w.toInt ∧ w.toInt ≤ 2) by omega), if_pos w3, if_pos w3]
    exact ⟨_, _, rfl, rfl, H⟩
  rw [if_neg w3]
  by_cases w10 : 10 ≤ w.toInt ∧ w.toInt ≤ 13
  · rw [if_neg (show ¬ (0 ≤ w.toInt ∧ w.toInt ≤ 2) by omega), if_neg w3, if_neg (ne_lit (a := 0) (b := 9) (by omega) 6 (by decide)), if_neg (ne_lit (a := 0) (b := 9) (by omega) 7 (by decide)), if_pos w10, if_pos w10]
    exact ⟨_, _, rfl, rfl, H⟩
  rw [if_neg w10]
  by_cases w20 : 20 ≤ w.toInt ∧ w.toInt ≤ 23
  · rw [if_neg (show ¬ (0 ≤ w.toInt ∧ w.toInt ≤ 2) by omega), if_neg w3, if_neg (ne_lit (a := 0) (b := 9) (by omega) 6 (by decide)), if_neg (ne_lit (a := 0) (b := 9) (by omega) 7 (by decide)), if_neg w10, if_pos w20, if_pos w20]
    exact ⟨_, _, rfl, rfl, RR_41 H ln⟩
  rw [if_neg w20]
  by_cases w0 : w = 0
  · subst w0
    rw [if_pos (by decide), if_pos rfl, ck03, rel_t0 H.1 hn]
    exact ⟨_, _, rfl, rfl, H⟩
  by_cases w1 : w = 1
  · subst w1
    rw [if_pos (by decide), if_neg (show ¬ (1 : Int32) = 0 by decide), if_pos rfl, ck13, rel_t1 H.1 hn]
    exact ⟨_, _, rfl, rfl, H⟩
  by_cases w2 : w = 2
  · subst w2
    rw [if_pos (by decide), if_neg (show ¬ (2 : Int32) = 0 by decide), if_neg (show ¬ (2 : Int32) = 1 by decide), if_pos rfl, ck23, rel_t2 H.1 hn]
    exact ⟨_, _, rfl, rfl, H⟩
  have hw : ¬ (0 ≤ w.toInt ∧ w.toInt ≤ 2) := by
    have a0 : w.toInt ≠ 0 := fun e => w0 (Int32.toInt_inj.mp (e.trans (by decide)))
    have a1 : w.toInt ≠ 1 := fun e => w1 (Int32.toInt_inj.mp (e.trans (by decide)))
    have a2 : w.toInt ≠ 2 := fun e => w2 (Int32.toInt_inj.mp (e.trans (by decide)))
    omega
  rw [if_neg hw, if_neg w3, if_neg w0, if_neg w1, if_neg w2, if_neg w10, if_neg w20]
  by_cases w6 : w = 6
  · rw [if_pos w6, if_pos w6]
    exact ⟨_, _, rfl, rfl, H⟩
  by_cases w7 : w = 7
  · rw [if_neg w6, if_neg w6, if_pos w7, if_pos w7]
    exact ⟨_, _, rfl, rfl, H⟩
  rw [if_neg w6, if_neg w6, if_neg w7, if_neg w7]
  exact ⟨_, _, rfl, rfl, H⟩
theorem stored_c {c : vv_H} (W : wf0 c) {N : Nat} (hN : N < 37) (eN : c.1 156 0 = nI N) : ff_X4_countStored c = some (cn (fun i => if c.1 160 i < 0 then 0 else 1) N) := by
  have hL := lp_count (f := fun (zs : Int32 × Int32) => ff_X4_countStored_B4 c zs.1 zs.2) (fun i s => s = (cn (fun i => if c.1 160 i < 0 then 0 else 1) i, nI i)) (fun a => a = cn (fun i => if c.1 160 i < 0 then 0 else 1) N) N ?hs ?he vv_F 0 ((0 : Int32), (0 : Int32)) rfl (Nat.zero_le _) (vv_F_lt (by omega))
  case hs =>
    rintro i s hi rfl
    left
    simp (disch := omega) only [ff_X4_countStored_B4, ff_X4_isStored, eN, if_neg (nI_nle' hi (by omega)), ck_lit, nI_clamp, nI_1, vv_let]
    by_cases g : c.1 160 i < 0
    · simp only [if_pos g, Option.bind_some, if_true]
      exact ⟨_, rfl, by rw [cn]; simp only [if_pos g]⟩
    · simp only [if_neg g, Option.bind_some, if_neg (show ¬ (1 : Int32) = 0 by decide)]
      exact ⟨_, rfl, by rw [cn]; simp only [if_neg g]⟩
  case he =>
    rintro s rfl
    simp only [ff_X4_countStored_B4, eN, if_pos (nI_le (Nat.le_refl N) (show N < 2 ^ 31 by omega))]
    exact ⟨_, rfl, rfl⟩
  obtain ⟨a, e, rfl⟩ := hL
  rw [ff_X4_countStored, e]
  rfl
theorem worn_c {c : vv_H} (W : wf0 c) {N : Nat} (hN : N < 37) (eN : c.1 156 0 = nI N) : ff_X4_countWithBodies c = some (cn (fun i => if c.1 161 i < 0 then 0 else 1) N) := by
  have hL := lp_count (f := fun (zs : Int32 × Int32) => ff_X4_countWithBodies_B4 c zs.1 zs.2) (fun i s => s = (cn (fun i => if c.1 161 i < 0 then 0 else 1) i, nI i)) (fun a => a = cn (fun i => if c.1 161 i < 0 then 0 else 1) N) N ?hs ?he vv_F 0 ((0 : Int32), (0 : Int32)) rfl (Nat.zero_le _) (vv_F_lt (by omega))
  case hs =>
    rintro i s hi rfl
    left
    simp (disch := omega) only [ff_X4_countWithBodies_B4, ff_X4_isWithBody, eN, if_neg (nI_nle' hi (by omega)), ck_lit, nI_clamp, nI_1, vv_let]
    by_cases g : c.1 161 i < 0
    · simp only [if_pos g, Option.bind_some, if_true]
      exact ⟨_, rfl, by rw [cn]; simp only [if_pos g]⟩
    · simp only [if_neg g, Option.bind_some, if_neg (show ¬ (1 : Int32) = 0 by decide)]
      exact ⟨_, rfl, by rw [cn]; simp only [if_neg g]⟩
  case he =>
    rintro s rfl
    simp only [ff_X4_countWithBodies_B4, eN, if_pos (nI_le (Nat.le_refl N) (show N < 2 ^ 31 by omega))]
    exact ⟨_, rfl, rfl⟩
  obtain ⟨a, e, rfl⟩ := hL
  rw [ff_X4_countWithBodies, e]
  rfl
theorem ex_two {α : Type} {E : Option α} (h : ∃ o, E = some o) : ∃ o, E = some o ∧ E = some o := h.elim fun o e => ⟨o, e, e⟩
theorem ex_ite {α : Type} {p : Prop} [Decidable p] {A B : Option α} (h1 : ∃ o, A = some o) (h2 : ∃ o, B = some o) : ∃ o, (if p then A else B) = some o := by
  by_cases h : p
  · rw [if_pos h]
    exact h1
  · rw [if_neg h]
    exact h2
theorem e_count {c r : vv_H} (H : RR c r) (w : Int32) : ∃ o, ff_X11_count c w = some o ∧ ff_X12_count r w = some o := by
  have hp := H.b (k := 156) (j := 0) rfl
  have hb := H.b (k := 1) (j := 0) rfl
  obtain ⟨N, hN, eN⟩ := to_nI hp.1 (show _ < ((37 : Nat) : Int) by omega) (by decide)
  obtain ⟨B, hB, eB⟩ := to_nI hb.1 (show _ < ((13 : Nat) : Int) by omega) (by decide)
  have eR : r.1 0 44 = nI N := by rw [rel_s156_0 H.1, eN]
  have eRB : r.1 0 1 = nI B := by rw [rel_s1_0 H.1, eB]
  have hA : vv_lp (fun (zs : Int32 × Int32 × Int32) => ff_X12_count_B7 w r zs.1 zs.2.1 zs.2.2) vv_F ((0 : Int32), (0 : Int32), (0 : Int32)) = some (cn (fun i => if c.1 160 i < 0 then 0 else 1) N, cn (fun i => if c.1 161 i < 0 then 0 else 1) N) := by
    have hL := lp_count (f := fun (zs : Int32 × Int32 × Int32) => ff_X12_count_B7 w r zs.1 zs.2.1 zs.2.2) (fun i s => s = (cn (fun i => if c.1 160 i < 0 then 0 else 1) i, cn (fun i => if c.1 161 i < 0 then 0 else 1) i, nI i)) (fun a => a = (cn (fun i => if c.1 160 i < 0 then 0 else 1) N, cn (fun i => if c.1 161 i < 0 then 0 else 1) N)) N ?hs ?he vv_F 0 ((0 : Int32), (0 : Int32), (0 : Int32)) rfl (Nat.zero_le _) (vv_F_lt (by omega))
    case hs =>
      rintro i s hi rfl
      left
      obtain ⟨-, hst, hw⟩ := H.2.2.1.1 i (by rw [eN, nI_toInt (by omega)]; omega)
      have q1 : (c.1 160 i = -4) = (c.1 160 i < 0) := by
        rw [lt0]
        apply propext
        constructor
        · intro h; rw [h]; decide
        · intro h; rcases hst with h1 | h1; exact h1; omega
      have q2 : (c.1 161 i = -4) = (c.1 161 i < 0) := by
        rw [lt0]
        apply propext
        constructor
        · intro h; rw [h]; decide
        · intro h; rcases hw with h1 | h1; exact h1; omega
      simp (disch := omega) only [ff_X12_count_B7, ff_X12_count_J34, eR, if_neg (nI_nle' hi (by omega)), ck_lit, nI_clamp, nI_1, vv_let, rel_a160 H.1, rel_a161 H.1, q1, q2]
      by_cases g : c.1 160 i < 0 <;> by_cases g2 : c.1 161 i < 0 <;> simp only [g, g2, if_true, if_false] <;> exact ⟨_, rfl, by simp only [cn, g, g2, if_true, if_false]⟩
    case he =>
      rintro s rfl
      simp only [ff_X12_count_B7, eR, if_pos (nI_le (Nat.le_refl N) (show N < 2 ^ 31 by omega))]
      exact ⟨_, rfl, rfl⟩
    obtain ⟨a, e, rfl⟩ := hL
    exact e
  have hC : ∀ x y, vv_lp (fun (zs : Int32 × Int32) => ff_X12_count_B68 w x y r zs.1 zs.2) vv_F ((0 : Int32), (0 : Int32)) = some (cn (c.1 15) B) := by
    intro x y
    have hL := lp_count (f := fun (zs : Int32 × Int32) => ff_X12_count_B68 w x y r zs.1 zs.2) (fun i s => s = (cn (c.1 15) i, nI i)) (fun a => a = cn (c.1 15) B) B ?hs ?he vv_F 0 ((0 : Int32), (0 : Int32)) rfl (Nat.zero_le _) (vv_F_lt (by omega))
    case hs =>
      rintro i s hi rfl
      left
      simp (disch := omega) only [ff_X12_count_B68, eRB, if_neg (nI_nle' hi (by omega)), ck_lit, nI_clamp, nI_1, vv_let, rel_a15 H.1]
      exact ⟨_, rfl, rfl⟩
    case he =>
      rintro s rfl
      simp only [ff_X12_count_B68, eRB, if_pos (nI_le (Nat.le_refl B) (show B < 2 ^ 31 by omega))]
      exact ⟨_, rfl, rfl⟩
    obtain ⟨a, e, rfl⟩ := hL
    exact e
  have hD : ff_X0_allCharges c = some (cn (c.1 15) B) := by
    have hL := lp_count (f := fun (zs : Int32 × Int32) => ff_X0_allCharges_B4 c zs.1 zs.2) (fun i s => s = (cn (c.1 15) i, nI i)) (fun a => a = cn (c.1 15) B) B ?hs ?he vv_F 0 ((0 : Int32), (0 : Int32)) rfl (Nat.zero_le _) (vv_F_lt (by omega))
    case hs =>
      rintro i s hi rfl
      left
      simp (disch := omega) only [ff_X0_allCharges_B4, eB, if_neg (nI_nle' hi (by omega)), ck_lit, nI_clamp, nI_1, vv_let]
      exact ⟨_, rfl, rfl⟩
    case he =>
      rintro s rfl
      simp only [ff_X0_allCharges_B4, eB, if_pos (nI_le (Nat.le_refl B) (show B < 2 ^ 31 by omega))]
      exact ⟨_, rfl, rfl⟩
    obtain ⟨a, e, rfl⟩ := hL
    rw [ff_X0_allCharges, e]
    rfl
  have ck04 : ∀ {α : Type} {A : Option α}, vv_ck (0 : Int32) 4 A = A := fun {α A} => rfl
  have s0 := H.2.2.2.2.2.1 0 (by decide)
  have e12 : (ff_X7_isNothing c 0).bind (fun r11 => if r11 = 0 then vv_ck (0 : Int32) 4 (some (c.1 178 (0 : Int32).toNatClampNeg)) else some (-4 : Int32)) = vv_ck (0 : Int32) 4 (if (r.1 53 (0 : Int32).toNatClampNeg) = (-4 : Int32) then some (-4 : Int32) else vv_ck (0 : Int32) 4 (some (r.1 54 (0 : Int32).toNatClampNeg))) := by
    simp only [ff_X7_isNothing, ck04, cl_0]
    rcases s0 with ⟨h1, h2⟩ | ⟨h1, h2, h3, h4, h5, h6, h7⟩
    · have h8 : ¬ (0 : Int32) ≤ c.1 178 0 := by rw [h1]; decide
      rw [if_neg h8, if_pos h2]
      rfl
    · have h8 : (0 : Int32) ≤ c.1 178 0 := by rw [Int32.le_iff_toInt_le]; exact h2
      have h9 : ¬ r.1 53 0 = -4 := fun e => by rw [h4, e] at h5; exact absurd h5 (by decide)
      rw [if_pos h8, if_neg h9, h1]
      rfl
  simp only [ff_X11_count, ff_X12_count, hA, hC, hD, stored_c H.2.1 hN eN, worn_c H.2.1 hN eN, Option.bind_some, rel_s1_0 H.1, rel_s22_0 H.1, rel_s146_0 H.1, rel_s156_0 H.1, rel_s16_0 H.1, rel_s0_0 H.1, rel_s50_0 H.1, (H.2.2.2.2.1).2.1.1, ← e12]
  obtain ⟨v, ev⟩ : ∃ v, (ff_X7_isNothing c 0).bind (fun r11 => if r11 = 0 then vv_ck (0 : Int32) 4 (some (c.1 178 (0 : Int32).toNatClampNeg)) else some (-4 : Int32)) = some v := by
    simp only [ff_X7_isNothing, ck04, cl_0]
    split <;> exact ⟨_, rfl⟩
  rw [ev]
  apply ex_two
  iterate 13 refine ex_ite ⟨_, rfl⟩ ?_
  exact ⟨_, rfl⟩
