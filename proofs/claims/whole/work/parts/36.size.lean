theorem iu_move {h : vv_H} {k j : Nat} {v w : Int32} (e : k ≠ 22) : vv_iu (vv_iu h 22 0 w) k j v = vv_iu (vv_iu h k j v) 22 0 w := by
  have : (vv_iu (vv_iu h 22 0 w) k j v).1 = (vv_iu (vv_iu h k j v) 22 0 w).1 := by
    funext a i
    simp only [vv_iu_e]
    by_cases q : a = k ∧ i = j
    · rw [if_pos q, if_neg (by omega), if_pos q]
    · rw [if_neg q, if_neg q]
  exact Prod.ext this rfl
def spn (a b : Int32) : Prop := 0 ≤ a.toInt ∧ a.toInt ≤ b.toInt ∧ b.toInt ≤ 250
theorem span_c {a b : Int32} : (spn a b ∧ ff_X11_isSpan a b = some 1) ∨ (¬ spn a b ∧ ff_X11_isSpan a b = some 0) := by
  unfold spn
  simp only [ff_X11_isSpan, m_isMeasure, Option.bind_some, wi_ite, Int32.lt_iff_toInt_lt]
  by_cases g1 : 0 ≤ a.toInt ∧ a.toInt ≤ 250
  · by_cases g2 : 0 ≤ b.toInt ∧ b.toInt ≤ 250
    · by_cases g3 : b.toInt < a.toInt
      · rw [if_pos g1, if_pos g2, if_pos g3]
        exact Or.inr ⟨by omega, rfl⟩
      · rw [if_pos g1, if_pos g2, if_neg g3]
        exact Or.inl ⟨by omega, rfl⟩
    · rw [if_pos g1, if_neg g2]
      exact Or.inr ⟨by omega, rfl⟩
  · rw [if_neg g1]
    exact Or.inr ⟨by omega, rfl⟩
theorem span_r {α : Type} {a b : Int32} {A B : α} : (if 0 ≤ a.toInt ∧ a.toInt ≤ b.toInt then (if a.toInt ≤ b.toInt ∧ b.toInt ≤ 250 then A else B) else B) = if 0 ≤ a.toInt ∧ a.toInt ≤ b.toInt ∧ b.toInt ≤ 250 then A else B := by
  by_cases g1 : 0 ≤ a.toInt ∧ a.toInt ≤ b.toInt
  · by_cases g2 : a.toInt ≤ b.toInt ∧ b.toInt ≤ 250
    · rw [if_pos g1, if_pos g2, if_pos (by omega)]
    · rw [if_pos g1, if_neg g2, if_neg (by omega)]
  · rw [if_neg g1, if_neg (by omega)]
theorem e_size {c r : vv_H} (H : RR c r) (k v2 v3 v4 v5 v6 v7 : Int32) : ∃ o c' r', ff_X11_size c k v2 v3 v4 v5 v6 v7 = some (o, c') ∧ ff_X12_size r k v2 v3 v4 v5 v6 v7 = some (o, r') ∧ RR c' r' := by
  have hz := H.b (k := 22) (j := 0) rfl
  simp only [ff_X11_size, ff_X12_size, m_isKind, m_in, Option.bind_some, wi_ite, Int32.toInt_toInt64, show (0 : Int64).toInt = 0 from rfl, show (3 : Int64).toInt = 3 from rfl, show (250 : Int64).toInt = 250 from rfl, span_r]
  by_cases g1 : 0 ≤ k.toInt ∧ k.toInt ≤ 3
  case neg =>
    rw [if_neg g1, if_neg g1]
    exact ⟨_, _, _, rfl, rfl, H⟩
  rw [if_pos g1, if_pos g1]
  rcases span_c (a := v2) (b := v3) with ⟨s1, e1⟩ | ⟨s1, e1⟩
  case inr =>
    rw [if_neg (show ¬ (0 ≤ v2.toInt ∧ v2.toInt ≤ v3.toInt ∧ v3.toInt ≤ 250) from s1), e1]
    exact ⟨_, _, _, rfl, rfl, H⟩
  rw [if_pos (show 0 ≤ v2.toInt ∧ v2.toInt ≤ v3.toInt ∧ v3.toInt ≤ 250 from s1), e1]
  simp only [Option.bind_some, if_neg (show ¬ (1 : Int32) = 0 by decide)]
  rcases span_c (a := v4) (b := v5) with ⟨s2, e2⟩ | ⟨s2, e2⟩
  case inr =>
    rw [if_neg (show ¬ (0 ≤ v4.toInt ∧ v4.toInt ≤ v5.toInt ∧ v5.toInt ≤ 250) from s2), e2]
    exact ⟨_, _, _, rfl, rfl, H⟩
  rw [if_pos (show 0 ≤ v4.toInt ∧ v4.toInt ≤ v5.toInt ∧ v5.toInt ≤ 250 from s2), e2]
  simp only [Option.bind_some, if_neg (show ¬ (1 : Int32) = 0 by decide)]
  rcases span_c (a := v6) (b := v7) with ⟨s3, e3⟩ | ⟨s3, e3⟩
  case inr =>
    rw [if_neg (show ¬ (0 ≤ v6.toInt ∧ v6.toInt ≤ v7.toInt ∧ v7.toInt ≤ 250) from s3), e3]
    exact ⟨_, _, _, rfl, rfl, H⟩
  rw [if_pos (show 0 ≤ v6.toInt ∧ v6.toInt ≤ v7.toInt ∧ v7.toInt ≤ 250 from s3), e3]
  simp only [Option.bind_some, if_neg (show ¬ (1 : Int32) = 0 by decide), rel_s22_0 H.1]
  unfold ff_X8_add
  by_cases g5 : c.1 22 0 = 12
  · rw [if_pos g5, if_neg (by rw [g5]; decide)]
    exact ⟨_, _, _, rfl, rfl, H⟩
  have g6 : (c.1 22 0).toInt ≠ 12 := fun e => g5 (Int32.toInt_inj.mp (e.trans (by decide)))
  rw [if_neg g5, if_pos (Int32.lt_iff_toInt_lt.mpr (by rw [show (12 : Int32).toInt = 12 from rfl]; omega))]
  obtain ⟨n, hn, en⟩ := to_nI hz.1 (show _ < ((12 : Nat) : Int) by omega) (by decide)
  have hs : (nI n + 1).toInt = n + 1 := by rw [nI_1, nI_toInt (by omega)]; omega
  have k6 : (6 : Int32) * nI n = nI (6 * n) := by rw [show (6 : Int32) = nI 6 from rfl, pk_mul]
  have kk : ∀ j : Nat, nI (6 * n) + nI j = nI (6 * n + j) := fun j => nI_add _ _
  obtain ⟨a1, a2, a3⟩ := s1
  obtain ⟨b1, b2, b3⟩ := s2
  obtain ⟨d1, d2, d3⟩ := s3
  simp (disch := omega) only [en, vv_let, ck_lit, nI_clamp, vv_iu_ne, vv_iu_nj, vv_iu_eq, rel_s22_0 H.1, Option.bind_some, if_neg (nI_pos (show n < 2 ^ 31 by omega)), ff_X8_limit, ck03, ck13, ck23, cl_0, cl_1, cl_2, iu_move, k6, nI_1, show (2 : Int32) = nI 2 from rfl, show (3 : Int32) = nI 3 from rfl, show (4 : Int32) = nI 4 from rfl, show (5 : Int32) = nI 5 from rfl, kk]
  have p1 := fun w (hw : w < 3) => (by decide +kernel : ∀ s, s < 12 → ∀ w, w < 3 → ph_f (25 + s) w = some (11, 6 * s + 2 * w)) n hn w hw
  have p2 := fun w (hw : w < 3) => (by decide +kernel : ∀ s, s < 12 → ∀ w, w < 3 → ph_f (38 + s) w = some (11, 6 * s + 2 * w + 1)) n hn w hw
  have q1 := fun w (hw : w < 3) => (by decide +kernel : ∀ s, s < 12 → ∀ w, w < 3 → wfb (25 + s) w = some (0, 250)) n hn w hw
  have q2 := fun w (hw : w < 3) => (by decide +kernel : ∀ s, s < 12 → ∀ w, w < 3 → wfb (38 + s) w = some (0, 250)) n hn w hw
  have z1 := RR_up H (k := 23) (j := n) (v := k) rfl (bd_in rfl g1.1 g1.2) (wfp_ne H.2.2.1 (by omega))
  have z2 := RR_up z1 (p1 0 (by decide)) (bd_in (v := v2) (q1 0 (by decide)) (by omega) (by omega)) (wfp_ne z1.2.2.1 (by omega))
  have z3 := RR_up z2 (p2 0 (by decide)) (bd_in (v := v3) (q2 0 (by decide)) (by omega) (by omega)) (wfp_ne z2.2.2.1 (by omega))
  have z4 := RR_up z3 (p1 1 (by decide)) (bd_in (v := v4) (q1 1 (by decide)) (by omega) (by omega)) (wfp_ne z3.2.2.1 (by omega))
  have z5 := RR_up z4 (p2 1 (by decide)) (bd_in (v := v5) (q2 1 (by decide)) (by omega) (by omega)) (wfp_ne z4.2.2.1 (by omega))
  have z6 := RR_up z5 (p1 2 (by decide)) (bd_in (v := v6) (q1 2 (by decide)) (by omega) (by omega)) (wfp_ne z5.2.2.1 (by omega))
  have z7 := RR_up z6 (p2 2 (by decide)) (bd_in (v := v7) (q2 2 (by decide)) (by omega) (by omega)) (wfp_ne z6.2.2.1 (by omega))
  have z8 := RR_up z7 (k := 22) (j := 0) (v := nI (n + 1)) rfl (bd_in rfl (by rw [nI_toInt (by omega)]; omega) (by rw [nI_toInt (by omega)]; omega)) (wfp_more z7.2.2.1 (by omega) (by simp (disch := omega) only [vv_iu_ne]; rw [en, nI_toInt (by omega), nI_toInt (by omega)]; omega))
  refine ⟨_, _, _, rfl, ?_, z8⟩
  rw [nI_pred]
  rfl
