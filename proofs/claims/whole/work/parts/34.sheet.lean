theorem wfb_lt {k j : Nat} {lo hi : Int} (h : wfb k j = some (lo, hi)) : k < 177 := by
  rcases Nat.lt_or_ge k 177 with q | q
  · exact q
  · exfalso
    unfold wfb at h
    have h3 : ∀ {p : Prop} [Decidable p] {A B : Option (Int × Int)}, ¬ p → (if p then A else B) = some (lo, hi) → B = some (lo, hi) := fun hp hh => by rwa [if_neg hp] at hh
    iterate 25 (first | (replace h := h3 (by omega) h) | skip)
    cases h
theorem RR_sh {c c' r r' : vv_H} (H : RR c r) (h1 : ∀ k j, k < 177 → c'.1 k j = c.1 k j) (h2 : c'.2.2 = c.2.2) (h3 : ∀ k j, k < 53 → r'.1 k j = r.1 k j) (hs : rsheet c' r') : RR c' r' := by
  obtain ⟨a1, a2, a3, a4, a5, a6, a7⟩ := H
  refine ⟨fun k j k' j' e => ?_, fun k j lo hi e => ?_, wfp_of a3 (h1 _ _ (by omega)) (funext fun j => h1 _ _ (by omega)) (h1 _ _ (by omega)) (funext fun j => h1 _ _ (by omega)) (h1 _ _ (by omega)) (funext fun j => h1 _ _ (by omega)) (h1 _ _ (by omega)) (funext fun j => h1 _ _ (by omega)) (fun a ha => funext fun j => h1 _ _ (by omega)), fun j hj => ?_, rrule_fr a5 h2 (fun k j q => h1 k j (by omega)) (fun k j q => h3 k j (by omega)) (h3 0 27 (by omega)), hs, rcon_fr a7 (fun k j q => h3 k j (by omega))⟩
  · obtain ⟨o1, o2, o3, o4, o5, o6⟩ := ph_ok e
    rw [h1 k j (by omega), h3 k' j' (by omega)]
    exact a1 k j k' j' e
  · rw [h1 k j (wfb_lt e)]
    exact a2 k j lo hi e
  · rw [h1 51 j (by omega), h3 13 j (by omega)]
    exact a4 j hj
theorem fill_i (h : vv_H) (t : Nat) {n : Nat} (hn : n < 100000) (v : Int32) : ∃ h', ff_J7_fill_53178 h t n v = some h' ∧ (∀ k j, h'.1 k j = if k = t ∧ j < n then v else h.1 k j) ∧ h'.2 = h.2 := by
  have hL := lp_count (f := fun (zs : Int32 × vv_H) => ff_J7_fill_53178_B5 t n v (Int32.ofNat n) zs.1 zs.2) (fun i s => ∃ g, s = (nI i, g) ∧ (∀ k j, g.1 k j = if k = t ∧ j < i then v else h.1 k j) ∧ g.2 = h.2) (fun h' : vv_H => (∀ k j, h'.1 k j = if k = t ∧ j < n then v else h.1 k j) ∧ h'.2 = h.2) n ?hs ?he vv_F 0 ((0 : Int32), h) ⟨h, rfl, fun k j => by rw [if_neg (by omega)], rfl⟩ (Nat.zero_le _) (vv_F_lt (by omega))
  case hs =>
    rintro i s hi ⟨g, rfl, hg, hg2⟩
    left
    simp (disch := omega) only [ff_J7_fill_53178_B5, show Int32.ofNat n = nI n from rfl, if_neg (nI_nle' hi (by omega)), ck_lit, nI_clamp, vv_let, nI_1]
    refine ⟨_, rfl, _, rfl, fun k j => ?_, hg2⟩
    rw [vv_iu_e, hg]
    by_cases e : k = t ∧ j = i
    · rw [if_pos e, if_pos (by omega)]
    · rw [if_neg e]
      by_cases e2 : k = t ∧ j < i
      · rw [if_pos e2, if_pos (by omega)]
      · rw [if_neg e2, if_neg (by omega)]
  case he =>
    rintro s ⟨g, rfl, hg⟩
    simp only [ff_J7_fill_53178_B5, show Int32.ofNat n = nI n from rfl, if_pos (nI_le (Nat.le_refl n) (show n < 2 ^ 31 by omega))]
    exact ⟨_, rfl, hg⟩
  obtain ⟨h', e, hh⟩ := hL
  exact ⟨h', by simp only [ff_J7_fill_53178, vv_let, e, Option.bind_some], hh⟩
theorem m_isSheet (v : Int32) : ff_X11_isSheet v = some (wi v.toInt 0 3) := by
  simp only [ff_X11_isSheet, m_isWithin, Option.bind_some, wi_zk]; rfl
theorem m_isLane (v : Int32) : ff_X11_isLane v = some (wi v.toInt 0 2) := by
  simp only [ff_X11_isLane, m_isWithin, Option.bind_some, wi_zk]; rfl
theorem k60 (x y : Nat) : (60 : Int32) * nI x + nI y = nI (60 * x + y) := by rw [show (60 : Int32) = nI 60 from rfl, pk_mul, nI_add]
theorem e_sheet {c r : vv_H} (H : RR c r) (k l n : Int32) : ∃ o c' r', ff_X11_sheet c k l n = some (o, c') ∧ ff_X12_sheet r k l n = some (o, r') ∧ RR c' r' := by
  simp only [ff_X11_sheet, ff_X12_sheet, m_isSheet, m_isLane, m_in, Option.bind_some, wi_ite, Int32.toInt_toInt64, show (0 : Int64).toInt = 0 from rfl, show (3 : Int64).toInt = 3 from rfl, show (2 : Int64).toInt = 2 from rfl]
  by_cases g1 : 0 ≤ k.toInt ∧ k.toInt ≤ 3
  case neg =>
    rw [if_neg g1, if_neg g1]
    exact ⟨_, _, _, rfl, rfl, H⟩
  by_cases g2 : 0 ≤ l.toInt ∧ l.toInt ≤ 2
  case neg =>
    rw [if_pos g1, if_pos g1, if_neg g2, if_neg g2]
    exact ⟨_, _, _, rfl, rfl, H⟩
  by_cases g3 : n ≤ 60
  case neg =>
    rw [if_pos g1, if_pos g1, if_pos g2, if_pos g2, if_neg g3, if_neg g3]
    exact ⟨_, _, _, rfl, rfl, H⟩
  by_cases g4 : 0 ≤ n
  case neg =>
    rw [if_pos g1, if_pos g1, if_pos g2, if_pos g2, if_pos g3, if_pos g3, if_neg g4, if_neg g4]
    exact ⟨_, _, _, rfl, rfl, H⟩
  rw [if_pos g1, if_pos g1, if_pos g2, if_pos g2, if_pos g3, if_pos g3, if_pos g4, if_pos g4]
  obtain ⟨a, ha, rfl⟩ := to_nI g1.1 (show _ < ((4 : Nat) : Int) by omega) (by decide)
  rw [Int32.le_iff_toInt_le] at g3 g4
  simp only [show (60 : Int32).toInt = 60 from rfl, show (0 : Int32).toInt = 0 from rfl] at g3 g4
  obtain ⟨h', e1, e2, e3⟩ := fill_i (vv_iu (vv_iu c 177 a l) 178 a n) (180 + a) (n := 60) (by decide) 0
  have hL := lp_count (f := fun (zs : Int32 × vv_H) => ff_X12_sheet_B56 (nI a) zs.1 zs.2) (fun i s => ∃ g, s = (nI i, g) ∧ (∀ k j, g.1 k j = if k = 55 ∧ 60 * a ≤ j ∧ j < 60 * a + i then 0 else (vv_iu (vv_iu r 53 a l) 54 a n).1 k j)) (fun g : vv_H => ∀ k j, g.1 k j = if k = 55 ∧ 60 * a ≤ j ∧ j < 60 * a + 60 then 0 else (vv_iu (vv_iu r 53 a l) 54 a n).1 k j) 60 ?hs ?he vv_F 0 ((0 : Int32), vv_iu (vv_iu r 53 a l) 54 a n) ⟨_, rfl, fun k j => by rw [if_neg (by omega)]⟩ (by decide) (vv_F_lt (by decide))
  case hs =>
    rintro i s hi ⟨g, rfl, hg⟩
    left
    simp (disch := omega) only [ff_X12_sheet_B56, show (60 : Int32) ≤ nI i ↔ nI 60 ≤ nI i from Iff.rfl, if_neg (nI_nle' hi (by omega)), k60, ck_lit, nI_clamp, vv_let, nI_1]
    refine ⟨_, rfl, _, rfl, fun k j => ?_⟩
    rw [vv_iu_e, hg]
    by_cases e : k = 55 ∧ j = 60 * a + i
    · rw [if_pos e, if_pos (by omega)]
    · rw [if_neg e]
      by_cases e2 : k = 55 ∧ 60 * a ≤ j ∧ j < 60 * a + i
      · rw [if_pos e2, if_pos (by omega)]
      · rw [if_neg e2, if_neg (by omega)]
  case he =>
    rintro s ⟨g, rfl, hg⟩
    simp only [ff_X12_sheet_B56, show (60 : Int32) ≤ nI 60 from by decide, if_true]
    exact ⟨_, rfl, hg⟩
  obtain ⟨r', f1, f2⟩ := hL
  simp (disch := omega) only [ff_X7_renew, ck_lit, nI_clamp, vv_let, e1, f1, Option.bind_some]
  refine ⟨_, _, _, rfl, rfl, RR_sh H (fun k j q => ?_) (congrArg (fun z => z.2) e3) (fun k j q => ?_) (fun b hb => ?_)⟩
  · rw [e2, if_neg (by omega), vv_iu_ne (by omega), vv_iu_ne (by omega)]
  · rw [f2, if_neg (by omega), vv_iu_ne (by omega), vv_iu_ne (by omega)]
  · rw [e2 178, e2 177, f2 53, f2 54, if_neg (by omega), if_neg (by omega), if_neg (by omega), if_neg (by omega), vv_iu_ne (a := 177) (by omega), vv_iu_ne (a := 53) (by omega)]
    by_cases hab : b = a
    · subst hab
      rw [vv_iu_eq, vv_iu_eq, vv_iu_eq, vv_iu_eq]
      refine Or.inr ⟨rfl, g4, g3, rfl, g2.1, g2.2, fun j hj => ?_⟩
      rw [e2, f2, if_pos ⟨rfl, hj⟩, if_pos (by omega)]
    · simp only [vv_iu_nj hab]
      rcases H.2.2.2.2.2.1 b hb with h | ⟨q1, q2, q3, q4, q5, q6, q7⟩
      · exact Or.inl h
      · refine Or.inr ⟨q1, q2, q3, q4, q5, q6, fun j hj => ?_⟩
        rw [e2, f2, if_neg (by omega), if_neg (by omega), vv_iu_ne (by omega), vv_iu_ne (by omega), vv_iu_ne (by omega), vv_iu_ne (by omega)]
        exact q7 j hj
/-- a cell of a sheet, written on both sides -/
theorem RR_cell {c r : vv_H} (H : RR c r) {a i : Nat} (ha : a < 4) (hi : i < 60) (v : Int32) : RR (vv_iu c (180 + a) i v) (vv_iu r 55 (60 * a + i) v) := by
  refine RR_sh H (fun k j q => by rw [vv_iu_ne (by omega)]) rfl (fun k j q => by rw [vv_iu_ne (by omega)]) (fun b hb => ?_)
  rw [vv_iu_ne (a := 178) (by omega), vv_iu_ne (a := 177) (by omega), vv_iu_ne (a := 53) (by omega), vv_iu_ne (a := 54) (by omega)]
  rcases H.2.2.2.2.2.1 b hb with h | ⟨q1, q2, q3, q4, q5, q6, q7⟩
  · exact Or.inl h
  · refine Or.inr ⟨q1, q2, q3, q4, q5, q6, fun j hj => ?_⟩
    rw [vv_iu_e, vv_iu_e]
    by_cases e : b = a ∧ j = i
    · rw [if_pos (by omega), if_pos (by omega)]
    · rw [if_neg (by omega), if_neg (by omega)]
      exact q7 j hj
theorem e_lay {c r : vv_H} (H : RR c r) (k i v : Int32) : ∃ o c' r', ff_X11_lay c k i v = some (o, c') ∧ ff_X12_lay r k i v = some (o, r') ∧ RR c' r' := by
  simp only [ff_X11_lay, ff_X12_lay, m_isSheet, m_in, Option.bind_some, wi_ite, Int32.toInt_toInt64, show (0 : Int64).toInt = 0 from rfl, show (3 : Int64).toInt = 3 from rfl]
  by_cases g1 : 0 ≤ k.toInt ∧ k.toInt ≤ 3
  case neg =>
    rw [if_neg g1, if_neg g1]
    exact ⟨_, _, _, rfl, rfl, H⟩
  rw [if_pos g1, if_pos g1]
  obtain ⟨a, ha, rfl⟩ := to_nI g1.1 (show _ < ((4 : Nat) : Int) by omega) (by decide)
  simp (disch := omega) only [ff_X7_isNothing, ff_X7_hasCell, ck_lit, nI_clamp]
  rcases H.2.2.2.2.2.1 a ha with ⟨h1, h2⟩ | ⟨h1, h2, h3, h4, h5, h6, h7⟩
  · have h8 : ¬ (0 : Int32) ≤ c.1 178 a := by rw [h1]; decide
    rw [if_neg h8, if_pos h2]
    exact ⟨_, _, _, rfl, rfl, H⟩
  have h8 : (0 : Int32) ≤ c.1 178 a := by rw [Int32.le_iff_toInt_le]; exact h2
  have h9 : ¬ r.1 53 a = -4 := fun e => by rw [h4, e] at h5; exact absurd h5 (by decide)
  rw [if_pos h8, if_neg h9, ← h1, toInt_pred h2 h3 (by decide)]
  simp only [Option.bind_some, if_true, lt0]
  by_cases g2 : 0 ≤ i.toInt ∧ i.toInt ≤ (c.1 178 a).toInt - 1
  case neg =>
    rw [if_neg g2]
    by_cases g3 : i.toInt < 0
    · simp only [if_pos g3, Option.bind_some, if_true]
      exact ⟨_, _, _, rfl, rfl, H⟩
    · simp only [if_neg g3, if_pos (show c.1 178 a ≤ i by rw [Int32.le_iff_toInt_le]; omega), Option.bind_some, if_true]
      exact ⟨_, _, _, rfl, rfl, H⟩
  obtain ⟨j, hj, rfl⟩ := to_nI g2.1 (show _ < ((60 : Nat) : Int) by omega) (by decide)
  rw [if_pos g2]
  simp (disch := omega) only [if_neg (show ¬ (nI j).toInt < 0 by omega), if_neg (show ¬ c.1 178 a ≤ nI j by rw [Int32.le_iff_toInt_le]; omega), Option.bind_some, if_neg (show ¬ (1 : Int32) = 0 by decide), ff_X7_put, ck_lit, nI_clamp, vv_let, k60, ← h4, sh24, sh16]
  by_cases l0 : c.1 177 a = 0
  · simp only [if_pos l0, Option.bind_some]
    exact ⟨_, _, _, rfl, rfl, RR_cell H ha hj _⟩
  by_cases l1 : c.1 177 a = 1
  · simp only [if_neg l0, if_pos l1, Option.bind_some]
    exact ⟨_, _, _, rfl, rfl, RR_cell H ha hj _⟩
  · simp only [if_neg l0, if_neg l1, Option.bind_some]
    exact ⟨_, _, _, rfl, rfl, RR_cell H ha hj _⟩
