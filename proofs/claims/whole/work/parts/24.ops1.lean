theorem e_day {c r : vv_H} (H : RR c r) (d : Int32) : ∃ o c' r', ff_X11_day c d = some (o, c') ∧ ff_X12_day r d = some (o, r') ∧ RR c' r' := by
  have hb := H.b (k := 0) (j := 0) rfl
  simp only [ff_X11_day, ff_X12_day, m_isWithin, m_in, Option.bind_some, wi_ite, vv_let, rel_s0_0 H.1, Int32.toInt_toInt64, show (9999 : Int32).toInt = 9999 from rfl, show (9999 : Int64).toInt = 9999 from rfl]
  by_cases g : (c.1 0 0).toInt ≤ d.toInt ∧ d.toInt ≤ 9999
  · rw [if_pos g, if_pos g]
    exact ⟨_, _, _, rfl, rfl, RR_up H rfl (bd_in rfl (by omega) (by omega)) (wfp_ne H.2.2.1 (by omega))⟩
  · rw [if_neg g, if_neg g]
    exact ⟨_, _, _, rfl, rfl, H⟩
theorem m_isTrait (w v : Int32) : ff_X11_isTrait w v = some (if w = 0 then wi v.toInt 0 5 else if w = 1 then wi v.toInt 0 3 else if w = 2 then wi v.toInt 0 2 else 0) := by
  simp only [ff_X11_isTrait, m_isWithin, Option.bind_some, wi_zk]
  split
  · rfl
  · split
    · rfl
    · split <;> rfl
theorem e_body {c r : vv_H} (H : RR c r) (a b d : Int32) : ∃ o c' r', ff_X11_body c a b d = some (o, c') ∧ ff_X12_body r a b d = some (o, r') ∧ RR c' r' := by
  have hb := H.b (k := 1) (j := 0) rfl
  simp only [ff_X11_body, ff_X12_body, m_isTrait, m_in, Option.bind_some, if_true, show ((1 : Int32) = 0) = False from by decide, show ((2 : Int32) = 0) = False from by decide, show ((2 : Int32) = 1) = False from by decide, if_false, wi_ite, Int32.toInt_toInt64, show (0 : Int64).toInt = 0 from rfl, show (5 : Int64).toInt = 5 from rfl, show (3 : Int64).toInt = 3 from rfl, show (2 : Int64).toInt = 2 from rfl]
  by_cases g1 : 0 ≤ a.toInt ∧ a.toInt ≤ 5
  · rw [if_pos g1, if_pos g1]
    by_cases g2 : 0 ≤ b.toInt ∧ b.toInt ≤ 3
    · rw [if_pos g2, if_pos g2]
      by_cases g3 : 0 ≤ d.toInt ∧ d.toInt ≤ 2
      · rw [if_pos g3, if_pos g3]
        unfold ff_X0_add
        rw [rel_s1_0 H.1]
        by_cases g4 : c.1 1 0 = 12
        · rw [if_neg (by rw [g4]; decide), if_pos g4]
          exact ⟨_, _, _, rfl, rfl, H⟩
        · have g5 : (c.1 1 0).toInt ≠ 12 := fun e => g4 (Int32.toInt_inj.mp (e.trans (by decide)))
          rw [if_pos (Int32.lt_iff_toInt_lt.mpr (by rw [show (12 : Int32).toInt = 12 from rfl]; omega)), if_neg g4]
          obtain ⟨n, hn, en⟩ : ∃ n, n < 12 ∧ c.1 1 0 = nI n := vp_in_of (vp_in_iff.mpr ⟨hb.1, by omega⟩) (by decide)
          have hcl : (nI n).toNatClampNeg = n := nI_clamp (by omega)
          have hz : r.1 4 n = 0 := by
            rw [rel_a15 H.1]
            exact H.2.2.1.2.1 n (by rw [en, nI_toInt (by omega)]; omega)
          simp (disch := omega) only [en, vv_let, ck_lit, hcl, ck03, ck13, ck23, cl_0, cl_1, cl_2, vv_iu_ne, vv_iu_nj, vv_iu_eq, rel_s1_0 H.1]
          rw [vv_iu_self (h := vv_iu (vv_iu (vv_iu r 1 n a) 2 n b) 3 n d) (by rw [vv_iu_ne (by omega), vv_iu_ne (by omega), vv_iu_ne (by omega)]; exact hz)]
          have hs : (nI n + 1).toInt = n + 1 := by rw [nI_1, nI_toInt (by omega)]; omega
          have w1 := H.2.2.1
          have q0 := (by decide : ∀ b, b < 12 → ph_f (3 + b) 0 = some (1, b)) n hn
          have q1 := (by decide : ∀ b, b < 12 → ph_f (3 + b) 1 = some (2, b)) n hn
          have q2 := (by decide : ∀ b, b < 12 → ph_f (3 + b) 2 = some (3, b)) n hn
          have qb : ∀ j, j < 3 → wfb (3 + n) j = some (0, 9) := (by decide +kernel : ∀ b, b < 12 → ∀ j, j < 3 → wfb (3 + b) j = some (0, 9)) n hn
          have w2 := wfp_ne (k := 3 + n) (j := 0) (v := a) w1 (by omega)
          have w3 := wfp_ne (k := 3 + n) (j := 1) (v := b) w2 (by omega)
          have w4 := wfp_ne (k := 3 + n) (j := 2) (v := d) w3 (by omega)
          have z1 := RR_up H q0 (bd_in (qb _ (by decide)) (by omega) (by omega)) w2
          have z2 := RR_up z1 q1 (bd_in (qb _ (by decide)) (by omega) (by omega)) w3
          have z3 := RR_up z2 q2 (bd_in (qb _ (by decide)) (by omega) (by omega)) w4
          have e9 : (vv_iu (vv_iu (vv_iu c (3 + n) 0 a) (3 + n) 1 b) (3 + n) 2 d).1 1 0 = nI n := by rw [vv_iu_ne (by omega), vv_iu_ne (by omega), vv_iu_ne (by omega), en]
          have z4 := RR_up (k := 1) (j := 0) (v := nI n + 1) z3 rfl (bd_in rfl (by omega) (by omega)) (wfp_more w4 (by omega) (by rw [e9, hs, nI_toInt (by omega)]; omega))
          refine ⟨_, _, _, rfl, ?_, z4⟩
          rw [nI_1, nI_pred]
      · rw [if_neg g3, if_neg g3]
        exact ⟨_, _, _, rfl, rfl, H⟩
    · rw [if_neg g2, if_neg g2]
      exact ⟨_, _, _, rfl, rfl, H⟩
  · rw [if_neg g1, if_neg g1]
    exact ⟨_, _, _, rfl, rfl, H⟩
