theorem nIT {n : Nat} (h : n < 2 ^ 31) : (nI n).toInt = n := nI_toInt h
theorem asKJ_fr {c : vv_H} {k j : Nat} {v : Int32} (hk : ¬ (16 ≤ k ∧ k ≤ 21)) (a1 a2 a3 a4 a5 a6 a7 a8 : Int32) : ff_X2_asKnown_J68 a1 a2 a3 a4 a5 a6 a7 a8 (vv_iu c k j v) = ff_X2_asKnown_J68 a1 a2 a3 a4 a5 a6 a7 a8 c := by
  have e1 : (vv_iu c k j v).1 20 = c.1 20 := vv_iu_ne (by omega)
  have e2 : (vv_iu c k j v).1 19 = c.1 19 := vv_iu_ne (by omega)
  unfold ff_X2_asKnown_J68
  rw [e1, e2]
theorem asK_fr {c : vv_H} {k j : Nat} {v : Int32} (hk : ¬ (16 ≤ k ∧ k ≤ 21)) (b w x y : Int32) : ff_X2_asKnown (vv_iu c k j v) b w x y = ff_X2_asKnown c b w x y := by
  have e0 : (vv_iu c k j v).1 16 = c.1 16 := vv_iu_ne (by omega)
  have e1 : (vv_iu c k j v).1 17 = c.1 17 := vv_iu_ne (by omega)
  have e2 : (vv_iu c k j v).1 18 = c.1 18 := vv_iu_ne (by omega)
  have e3 : (vv_iu c k j v).1 21 = c.1 21 := vv_iu_ne (by omega)
  have e4 : (vv_iu c k j v).1 20 = c.1 20 := vv_iu_ne (by omega)
  simp only [ff_X2_asKnown, ff_X2_asKnown_B9, ff_X2_asKnown_J67, asKJ_fr hk, e0, e1, e2, e3, e4]
theorem kv_fr {c : vv_H} {k j : Nat} {v : Int32} (hk : k ≠ 0 ∧ ¬ (16 ≤ k ∧ k ≤ 21)) (b w : Int32) : kv (vv_iu c k j v) b w = kv c b w := by
  unfold kv
  rw [asK_fr hk.2, vv_iu_ne (fun e => hk.1 e.symm)]
theorem e_issue {c r : vv_H} (H : RR c r) (p b : Int32) : ∃ o c' r', ff_X11_issue c p b = some (o, c') ∧ ff_X12_issue r p b = some (o, r') ∧ RR c' r' := by
  have hb := H.b (k := 156) (j := 0) rfl
  have hs := H.b (k := 1) (j := 0) rfl
  simp only [ff_X11_issue, ff_X12_issue, m_has4, m_has0, m_isPieceR (h := r) (by rw [rel_s156_0 H.1]; exact hb.1) (by rw [rel_s156_0 H.1]; exact hb.2), m_isBodyR (h := r) (by rw [rel_s1_0 H.1]; exact hs.1) (by rw [rel_s1_0 H.1]; exact hs.2), rel_s156_0 H.1, rel_s1_0 H.1, Option.bind_some, wi_ite]
  by_cases g1 : 0 ≤ p.toInt ∧ p.toInt ≤ (c.1 156 0).toInt - 1
  case neg =>
    rw [if_neg g1, if_neg g1]
    exact ⟨_, _, _, rfl, rfl, H⟩
  by_cases g2 : 0 ≤ b.toInt ∧ b.toInt ≤ (c.1 1 0).toInt - 1
  case neg =>
    rw [if_pos g1, if_pos g1, if_neg g2, if_neg g2]
    exact ⟨_, _, _, rfl, rfl, H⟩
  rw [if_pos g1, if_pos g1, if_pos g2, if_pos g2]
  obtain ⟨n, hn, rfl⟩ := to_nI g1.1 (show _ < ((36 : Nat) : Int) by omega) (by decide)
  obtain ⟨m, hm, rfl⟩ := to_nI g2.1 (show _ < ((12 : Nat) : Int) by omega) (by decide)
  have hnp : (n : Int) < (c.1 156 0).toInt := by have := g1.2; rw [nI_toInt (by omega)] at this; omega
  obtain ⟨hsz, hst, hw⟩ := H.2.2.1.1 n hnp
  have hz := H.b (k := 157) (j := n) rfl
  obtain ⟨s, hs12, es⟩ := to_nI hz.1 (show _ < ((12 : Nat) : Int) by omega) (by decide)
  obtain ⟨L, a, l1, l2, l3, l4⟩ := fit_two H hs12 (nI m) (e := 5) (by decide) (by decide)
  obtain ⟨wo, wo1, wo2⟩ := wornout_two H hnp
  obtain ⟨hv, hv1, hv2⟩ := has_two H (nI m) (c.1 23 s)
  obtain ⟨ln, most, d1, d2, d3⟩ := due_two H hm (c.1 23 s) (c.1 0 0)
  have q1 : (c.1 160 n < 0) = (c.1 160 n = -4) := by
    rw [lt0]
    apply propext
    constructor
    · intro h
      rcases hst with h1 | h1
      · exact h1
      · omega
    · intro h
      rw [h]
      decide
  simp (disch := omega) only [kind_eq H.1, kind_of H.2.1, ff_X4_isStored, ck_lit, nI_clamp, rel_a160 H.1, rel_a157 H.1, es, q1, Option.bind_some, l2, l3, wo1, wo2, hv1, hv2, ff_X11_dueTo, d1, d2, d3, rel_s0_0 H.1]
  by_cases b1 : c.1 160 n = -4
  · simp only [if_pos b1, Option.bind_some, if_true]
    exact ⟨_, _, _, rfl, rfl, H⟩
  simp only [if_neg b1, Option.bind_some, if_neg (show ¬ (1 : Int32) = 0 by decide)]
  have h5 : ((5 : Int32) < nI L) = ¬ ((L : Int) ≤ (5 : Int32).toInt) := by
    rw [Int32.lt_iff_toInt_lt, nI_toInt (by omega)]
    apply propext
    omega
  rcases l4 with ⟨q, rfl⟩ | ⟨q, rfl⟩
  case inr =>
    rw [if_pos (by rw [h5]; exact q), if_pos rfl]
    exact ⟨_, _, _, rfl, rfl, H⟩
  rw [if_neg (by rw [h5]; exact fun h => h q), if_neg (show ¬ (1 : Int32) = 0 by decide)]
  by_cases b2 : wo = 0
  case neg =>
    simp only [if_neg b2]
    exact ⟨_, _, _, rfl, rfl, H⟩
  simp only [if_pos b2]
  by_cases b3 : hv < most
  case neg =>
    simp only [if_neg b3]
    exact ⟨_, _, _, rfl, rfl, RR_41 H ln⟩
  simp only [if_pos b3]
  have H1 := RR_41 H ln
  have z1 := RR_up H1 (k := 160) (j := n) (v := -4) rfl (bd_in rfl (by decide) (by decide)) (wfp_160 H1.2.2.1 (Or.inl rfl))
  have z2 := RR_up z1 (k := 161) (j := n) (v := nI m) rfl (bd_in rfl (by omega) (by omega)) (wfp_161 z1.2.2.1 (Or.inr ⟨g2.1, by simp (disch := omega) only [vv_iu_ne]; omega, by simp (disch := omega) only [vv_iu_eq]⟩))
  have z3 := RR_up z2 (k := 162) (j := n) (v := nI m) rfl (bd_in rfl (by omega) (by omega)) (wfp_ne z2.2.2.1 (by omega))
  have ht := H.b (k := 0) (j := 0) rfl
  have z4 := RR_up z3 (k := 165) (j := n) (v := c.1 0 0) rfl (bd_in rfl ht.1 ht.2) (wfp_old z3.2.2.1 (by omega) (by simp (disch := omega) only [vv_iu_ne]; exact hnp))
  have z5 := RR_up z4 (k := 163) (j := n) (v := c.1 163 n + 1) rfl (bd_no rfl) (wfp_old z4.2.2.1 (by omega) (by simp (disch := omega) only [vv_iu_ne]; exact hnp))
  obtain ⟨a0, e0, e01, e02⟩ := fit z5 hs12 (nI m) 0
  have fe : fitE (vv_iu (vv_iu (vv_iu (vv_iu (vv_iu c 160 n (-4)) 161 n (nI m)) 162 n (nI m)) 165 n (c.1 0 0)) 163 n (c.1 163 n + 1)) s (nI m) (0 : Int32).toInt ↔ fitE c s (nI m) (0 : Int32).toInt := by
    have kve : ∀ w, kv (vv_iu (vv_iu (vv_iu (vv_iu (vv_iu c 160 n (-4)) 161 n (nI m)) 162 n (nI m)) 165 n (c.1 0 0)) 163 n (c.1 163 n + 1)) (nI m) w = kv c (nI m) w := by
      intro w
      rw [kv_fr (by omega), kv_fr (by omega), kv_fr (by omega), kv_fr (by omega), kv_fr (by omega)]
    unfold fitE fit1
    simp (disch := omega) only [kve, vv_iu_ne]
  rw [fe] at e02
  have e03 := e02 (by decide) (by decide)
  obtain ⟨L', l1', l2', l3'⟩ := lee H.2.1 hs12 (nI m)
  rw [l2] at l2'
  have eLL : L' = L := by
    have h1 : nI L = nI L' := Option.some.inj l2'
    exact ((nI_eq (show L < 2 ^ 31 by omega) (show L' < 2 ^ 31 by omega)).mp h1).symm
  subst eLL
  have e04 := l3' 0 (by decide)
  simp (disch := omega) only [ff_X4_handOut, ck_lit, nI_clamp, vv_let, vv_iu_ne, vv_iu_nj, rel_s0_0 H.1, rel_a163 H.1, rel_a157 H.1, es, Option.bind_some, e0]
  by_cases b4 : L' = 0
  · subst b4
    have a1 : a0 = 1 := e03.mpr (e04.mp (by decide))
    subst a1
    rw [if_pos (show nI 0 = 0 from rfl), if_neg (show ¬ (1 : Int32) = 0 by decide)]
    exact ⟨_, _, _, rfl, rfl, z5⟩
  · have a1 : a0 = 0 := by
      rcases e01 with h | h
      · exact h
      · have := e04.mpr (e03.mp h)
        omega
    subst a1
    rw [if_neg (nI_ne0 (by omega) (by omega)), if_pos rfl]
    exact ⟨_, _, _, rfl, rfl, z5⟩
theorem life_fr {r : vv_H} {k j : Nat} {v : Int32} (hk : k ≠ 0 ∧ ¬ (16 ≤ k ∧ k ≤ 19)) (a b d : Int32) : ff_X12_ruleOf (vv_iu r k j v) a b d = ff_X12_ruleOf r a b d := by
  simp (disch := omega) only [ff_X12_ruleOf, ff_X12_ruleOf_J13, ff_X12_ruleOf_B21, vv_iu_ne]
theorem kindAt_fr {r : vv_H} {k j : Nat} {v : Int32} (hk : k ≠ 29 ∧ k ≠ 10) (p : Int32) : ff_X12_kindAt (vv_iu r k j v) p = ff_X12_kindAt r p := by
  simp (disch := omega) only [ff_X12_kindAt, vv_iu_ne]
theorem e_lost {c r : vv_H} (H : RR c r) (p : Int32) : ∃ o c' r', ff_X11_lost c p = some (o, c') ∧ ff_X12_lost r p = some (o, r') ∧ RR c' r' := by
  have hb := H.b (k := 156) (j := 0) rfl
  simp only [ff_X11_lost, ff_X12_lost, m_has4, m_isPieceR (h := r) (by rw [rel_s156_0 H.1]; exact hb.1) (by rw [rel_s156_0 H.1]; exact hb.2), rel_s156_0 H.1, Option.bind_some, wi_ite]
  by_cases g1 : 0 ≤ p.toInt ∧ p.toInt ≤ (c.1 156 0).toInt - 1
  case neg =>
    rw [if_neg g1, if_neg g1]
    exact ⟨_, _, _, rfl, rfl, H⟩
  rw [if_pos g1, if_pos g1]
  obtain ⟨n, hn, rfl⟩ := to_nI g1.1 (show _ < ((36 : Nat) : Int) by omega) (by decide)
  have hnp : (n : Int) < (c.1 156 0).toInt := by have := g1.2; rw [nI_toInt (by omega)] at this; omega
  obtain ⟨w, o1, o2, o3, o4⟩ := off_two H hnp
  have hw := (H.2.2.1.1 n hnp).2.2
  simp (disch := omega) only [ff_X4_isWithBody, ck_lit, nI_clamp, rel_a161 H.1, vv_let]
  rcases hw with hw | hw
  · rw [hw, if_pos rfl, if_pos (by decide)]
    exact ⟨_, _, _, rfl, rfl, H⟩
  have h2 : ¬ c.1 161 n = -4 := fun e => by rw [e] at hw; exact absurd hw.1 (by decide)
  have hs := H.b (k := 1) (j := 0) rfl
  obtain ⟨b, hb12, eb⟩ := to_nI hw.1 (show _ < ((12 : Nat) : Int) by omega) (by decide)
  have hbI : (nI b).toInt = b := nI_toInt (by omega)
  rw [if_neg h2, if_neg (by rw [lt0]; omega)]
  obtain ⟨lf, f1, f2, f3, f4⟩ := life_two H (c.1 23 (c.1 157 n).toNatClampNeg) (c.1 0 0)
  obtain ⟨pr, p1, p2, -⟩ := price_two H (c.1 23 (c.1 157 n).toNatClampNeg) (c.1 0 0)
  have hl1 : (1 : Int32) ≤ lf := by rw [Int32.le_iff_toInt_le]; exact f3
  have hl0 : ¬ lf = 0 := fun e => by rw [e] at f3; exact absurd f3 (by decide)
  have hwb : wi (nI b).toInt 0 ((c.1 1 0).toInt - 1) = 1 := by
    unfold wi
    rw [if_pos (by rw [← eb]; omega)]
  have ch : ∀ x : Int32, RR (vv_iu (vv_iu (vv_iu c 166 n w) 161 n (-4)) 15 b (c.1 15 b + x)) (vv_iu (vv_iu (vv_iu r 35 n w) 33 n (-4)) 4 b (c.1 15 b + x)) := fun x => RR_up o3 rfl (bd_no rfl) (wfp_ch o3.2.2.1 (by simp (disch := omega) only [vv_iu_ne]; rw [← hbI, ← eb]; exact hw.2))
  simp (disch := omega) only [Option.bind_some, if_neg (show ¬ (1 : Int32) = 0 by decide), o1, o2, o4, eb, ff_X11_chargeFor, kind_of H.2.1, kind_eq H.1, f1, p1, vv_let, m_has0, vv_iu_ne, vv_iu_nj, vv_iu_eq, hwb, ck_lit, nI_clamp, life_fr, kindAt_fr, rel_s0_0 H.1, f2, p2, if_pos hl1, vv_nz, if_neg hl0, ff_X12_lost_J84, rel_a15 H.1]
  by_cases g5 : 0 ≤ lf - w
  · rw [if_pos g5]
    by_cases g6 : 0 < lf - w
    · rw [if_pos g6]
      exact ⟨_, _, _, rfl, rfl, ch _⟩
    · have e0 : lf - w = 0 := by
        apply Int32.toInt_inj.mp
        rw [Int32.le_iff_toInt_le] at g5
        rw [Int32.lt_iff_toInt_lt] at g6
        simp only [show (0 : Int32).toInt = 0 from rfl] at *
        omega
      rw [if_neg g6, e0]
      exact ⟨_, _, _, rfl, rfl, ch _⟩
  · rw [if_neg g5]
    have g6 : ¬ 0 < lf - w := fun h => g5 (by rw [Int32.le_iff_toInt_le]; rw [Int32.lt_iff_toInt_lt] at h; omega)
    rw [if_neg g6]
    have e0 : pr * 0 / lf = 0 := by rw [Int32.mul_zero, Int32.zero_div]
    rw [e0]
    exact ⟨_, _, _, rfl, rfl, ch _⟩
