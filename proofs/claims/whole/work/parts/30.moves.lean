theorem wfp_160 {c : vv_H} {p : Nat} {v : Int32} (h : wfp c) (hv : v = -4 ∨ (0 ≤ v.toInt ∧ v.toInt < (c.1 146 0).toInt ∧ c.1 161 p = -4)) : wfp (vv_iu c 160 p v) := by
  have e : ∀ a, a ≠ 160 → (vv_iu c 160 p v).1 a = c.1 a := fun a ha => vv_iu_ne ha
  refine ⟨fun q hq => ?_, fun i hi => ?_, fun i hi => ?_, plan0_of h.2.2.2 (e _ (by omega)) (e _ (by omega)) (e _ (by omega)) (by rw [e 146 (by omega)]; exact Int.le_refl _)⟩
  · rw [e 156 (by omega)] at hq
    rw [e 157 (by omega), e 161 (by omega), e 22 (by omega), e 146 (by omega), e 1 (by omega)]
    obtain ⟨g1, g2, g3⟩ := h.1 q hq
    by_cases z : q = p
    · subst z
      rw [vv_iu_eq]
      exact ⟨g1, hv, g3⟩
    · rw [vv_iu_nj z]
      exact ⟨g1, g2, g3⟩
  · rw [e 15 (by omega)]
    rw [e 1 (by omega)] at hi
    exact h.2.1 i hi
  · rw [e 163 (by omega), e 164 (by omega), e 165 (by omega), e 166 (by omega)]
    rw [e 156 (by omega)] at hi
    exact h.2.2.1 i hi
theorem wfp_161 {c : vv_H} {p : Nat} {v : Int32} (h : wfp c) (hv : v = -4 ∨ (0 ≤ v.toInt ∧ v.toInt < (c.1 1 0).toInt ∧ c.1 160 p = -4)) : wfp (vv_iu c 161 p v) := by
  have e : ∀ a, a ≠ 161 → (vv_iu c 161 p v).1 a = c.1 a := fun a ha => vv_iu_ne ha
  refine ⟨fun q hq => ?_, fun i hi => ?_, fun i hi => ?_, plan0_of h.2.2.2 (e _ (by omega)) (e _ (by omega)) (e _ (by omega)) (by rw [e 146 (by omega)]; exact Int.le_refl _)⟩
  · rw [e 156 (by omega)] at hq
    rw [e 157 (by omega), e 160 (by omega), e 22 (by omega), e 146 (by omega), e 1 (by omega)]
    obtain ⟨g1, g2, g3⟩ := h.1 q hq
    by_cases z : q = p
    · subst z
      rw [vv_iu_eq]
      rcases hv with hv | ⟨h1, h2, h3⟩
      · refine ⟨g1, ?_, Or.inl hv⟩
        rcases g2 with g2 | ⟨g2, g4, -⟩
        · exact Or.inl g2
        · exact Or.inr ⟨g2, g4, hv⟩
      · exact ⟨g1, Or.inl h3, Or.inr ⟨h1, h2⟩⟩
    · rw [vv_iu_nj z]
      exact ⟨g1, g2, g3⟩
  · rw [e 15 (by omega)]
    rw [e 1 (by omega)] at hi
    exact h.2.1 i hi
  · rw [e 163 (by omega), e 164 (by omega), e 165 (by omega), e 166 (by omega)]
    rw [e 156 (by omega)] at hi
    exact h.2.2.1 i hi
theorem wfp_old {c : vv_H} {k p : Nat} {v : Int32} (h : wfp c) (hk : 163 ≤ k ∧ k ≤ 166) (hp : (p : Int) < (c.1 156 0).toInt) : wfp (vv_iu c k p v) := by
  have e : ∀ a, a ≠ k → (vv_iu c k p v).1 a = c.1 a := fun a ha => vv_iu_ne ha
  refine ⟨fun q hq => ?_, fun i hi => ?_, fun i hi => ?_, plan0_of h.2.2.2 (e _ (by omega)) (e _ (by omega)) (e _ (by omega)) (by rw [e 146 (by omega)]; exact Int.le_refl _)⟩
  · rw [e 156 (by omega)] at hq
    rw [e 157 (by omega), e 160 (by omega), e 161 (by omega), e 22 (by omega), e 146 (by omega), e 1 (by omega)]
    exact h.1 q hq
  · rw [e 15 (by omega)]
    rw [e 1 (by omega)] at hi
    exact h.2.1 i hi
  · rw [e 156 (by omega)] at hi
    have z : i ≠ p := by omega
    rw [vv_iu_nj z, vv_iu_nj z, vv_iu_nj z, vv_iu_nj z]
    exact h.2.2.1 i hi
theorem wfp_ch {c : vv_H} {n : Nat} {v : Int32} (h : wfp c) (hn : (n : Int) < (c.1 1 0).toInt) : wfp (vv_iu c 15 n v) := by
  have e : ∀ a, a ≠ 15 → (vv_iu c 15 n v).1 a = c.1 a := fun a ha => vv_iu_ne ha
  refine ⟨fun q hq => ?_, fun i hi => ?_, fun i hi => ?_, plan0_of h.2.2.2 (e _ (by omega)) (e _ (by omega)) (e _ (by omega)) (by rw [e 146 (by omega)]; exact Int.le_refl _)⟩
  · rw [e 156 (by omega)] at hq
    rw [e 157 (by omega), e 160 (by omega), e 161 (by omega), e 22 (by omega), e 146 (by omega), e 1 (by omega)]
    exact h.1 q hq
  · rw [e 1 (by omega)] at hi
    rw [vv_iu_nj (show i ≠ n by omega)]
    exact h.2.1 i hi
  · rw [e 163 (by omega), e 164 (by omega), e 165 (by omega), e 166 (by omega)]
    rw [e 156 (by omega)] at hi
    exact h.2.2.1 i hi
theorem lt0 {x : Int32} : (x < 0) = (x.toInt < 0) := propext Int32.lt_iff_toInt_lt
/-- it leaves its body: both sides -/
theorem off_two {c r : vv_H} (H : RR c r) {p : Nat} (hp : (p : Int) < (c.1 156 0).toInt) : ∃ w, ff_X4_takeOff c (nI p) (c.1 0 0) = some (vv_iu (vv_iu c 166 p w) 161 p (-4)) ∧ ff_X12_leaves r (nI p) = some (vv_iu (vv_iu r 35 p w) 33 p (-4)) ∧ RR (vv_iu (vv_iu c 166 p w) 161 p (-4)) (vv_iu (vv_iu r 35 p w) 33 p (-4)) ∧ ff_X4_wornBy c (nI p) (c.1 0 0) = some w := by
  have hb := H.b (k := 156) (j := 0) rfl
  obtain ⟨w, e1, e2⟩ := worn_two H hp
  simp (disch := omega) only [ff_X4_takeOff, ff_X12_leaves, e1, e2, Option.bind_some, ck_lit, nI_clamp, vv_let]
  have w1 := wfp_old (k := 166) (v := w) H.2.2.1 (by omega) hp
  exact ⟨w, rfl, rfl, RR_up (RR_up H rfl (bd_no rfl) w1) rfl (bd_in rfl (by decide) (by decide)) (wfp_161 w1 (Or.inl rfl)), rfl⟩
theorem e_back {c r : vv_H} (H : RR c r) (p s : Int32) : ∃ o c' r', ff_X11_back c p s = some (o, c') ∧ ff_X12_back r p s = some (o, r') ∧ RR c' r' := by
  have hb := H.b (k := 156) (j := 0) rfl
  have hs := H.b (k := 146) (j := 0) rfl
  simp only [ff_X11_back, ff_X12_back, m_has4, m_has9, m_isPieceR (h := r) (by rw [rel_s156_0 H.1]; exact hb.1) (by rw [rel_s156_0 H.1]; exact hb.2), m_isStoreR (h := r) (by rw [rel_s146_0 H.1]; exact hs.1) (by rw [rel_s146_0 H.1]; exact hs.2), rel_s156_0 H.1, rel_s146_0 H.1, Option.bind_some, wi_ite]
  by_cases g1 : 0 ≤ p.toInt ∧ p.toInt ≤ (c.1 156 0).toInt - 1
  case neg =>
    rw [if_neg g1, if_neg g1]
    exact ⟨_, _, _, rfl, rfl, H⟩
  by_cases g2 : 0 ≤ s.toInt ∧ s.toInt ≤ (c.1 146 0).toInt - 1
  case neg =>
    rw [if_pos g1, if_pos g1, if_neg g2, if_neg g2]
    exact ⟨_, _, _, rfl, rfl, H⟩
  rw [if_pos g1, if_pos g1, if_pos g2, if_pos g2]
  obtain ⟨n, hn, rfl⟩ := to_nI g1.1 (show _ < ((36 : Nat) : Int) by omega) (by decide)
  have hnp : (n : Int) < (c.1 156 0).toInt := by have := g1.2; rw [nI_toInt (by omega)] at this; omega
  obtain ⟨w, o1, o2, o3, o4⟩ := off_two H hnp
  have hw := (H.2.2.1.1 n hnp).2.2
  simp (disch := omega) only [ff_X4_isWithBody, ck_lit, nI_clamp, rel_a161 H.1]
  rcases hw with hw | hw
  · rw [hw, if_pos rfl, if_pos (by decide)]
    exact ⟨_, _, _, rfl, rfl, H⟩
  · have h2 : ¬ c.1 161 n = -4 := fun e => by rw [e] at hw; exact absurd hw.1 (by decide)
    rw [if_neg h2, if_neg (by rw [lt0]; omega)]
    simp (disch := omega) only [Option.bind_some, if_neg (show ¬ (1 : Int32) = 0 by decide), o1, o2, ck_lit, nI_clamp, vv_let, ff_X4_wornBy, ff_X4_isWithBody, vv_iu_ne, vv_iu_eq, if_pos (show (-4 : Int32) < 0 by decide), if_true, Int32.add_zero]
    exact ⟨_, _, _, rfl, rfl, RR_up o3 rfl (bd_in rfl (by omega) (by omega)) (wfp_160 o3.2.2.1 (Or.inr ⟨g2.1, by simp (disch := omega) only [vv_iu_ne]; omega, by simp (disch := omega) only [vv_iu_eq]⟩))⟩
theorem e_fail {c r : vv_H} (H : RR c r) (p : Int32) : ∃ o c' r', ff_X11_fail c p = some (o, c') ∧ ff_X12_fail r p = some (o, r') ∧ RR c' r' := by
  have hb := H.b (k := 156) (j := 0) rfl
  simp only [ff_X11_fail, ff_X12_fail, m_has4, m_isPieceR (h := r) (by rw [rel_s156_0 H.1]; exact hb.1) (by rw [rel_s156_0 H.1]; exact hb.2), rel_s156_0 H.1, Option.bind_some, wi_ite]
  by_cases g1 : 0 ≤ p.toInt ∧ p.toInt ≤ (c.1 156 0).toInt - 1
  case neg =>
    rw [if_neg g1, if_neg g1]
    exact ⟨_, _, _, rfl, rfl, H⟩
  rw [if_pos g1, if_pos g1]
  obtain ⟨n, hn, rfl⟩ := to_nI g1.1 (show _ < ((36 : Nat) : Int) by omega) (by decide)
  have hnp : (n : Int) < (c.1 156 0).toInt := by have := g1.2; rw [nI_toInt (by omega)] at this; omega
  obtain ⟨w, o1, o2, o3, o4⟩ := off_two H hnp
  obtain ⟨-, hst, hw⟩ := H.2.2.1.1 n hnp
  have q1 : (c.1 160 n < 0) = (c.1 160 n = -4) := by
    rw [lt0]
    apply propext
    constructor
    · intro h
      rcases hst with h1 | h1
      · exact h1
      · omega
    · intro h
      rw [h]
      decide
  have q2 : (c.1 161 n < 0) = (c.1 161 n = -4) := by
    rw [lt0]
    apply propext
    constructor
    · intro h
      rcases hw with h1 | h1
      · exact h1
      · omega
    · intro h
      rw [h]
      decide
  have z1 := RR_up o3 (k := 160) (j := n) (v := -4) rfl (bd_in rfl (by decide) (by decide)) (wfp_160 o3.2.2.1 (Or.inl rfl))
  have z2 := RR_up z1 (k := 164) (j := n) (v := 1) rfl (bd_in rfl (by decide) (by decide)) (wfp_old z1.2.2.1 (by omega) (by simp (disch := omega) only [vv_iu_ne]; exact hnp))
  have fin : ∃ o c' r', ((ff_X4_takeOff c (nI n) (c.1 0 0)).bind (fun r5 => vv_ck (nI n) 36 (vv_let (vv_iu r5 160 (nI n).toNatClampNeg (-4 : Int32)) (fun g8 => vv_ck (nI n) 36 (vv_let (vv_iu g8 164 (nI n).toNatClampNeg (1 : Int32)) (fun g11 => (ff_X4_wornBy g11 (nI n) (g11.1 0 0)).bind (fun r13 => some (r13, g11)))))))) = some (o, c') ∧ ((ff_X12_leaves r (nI n)).bind (fun r5 => vv_ck (nI n) 36 (vv_let (vv_iu r5 32 (nI n).toNatClampNeg (-4 : Int32)) (fun g8 => vv_ck (nI n) 36 (vv_let (vv_iu g8 37 (nI n).toNatClampNeg (1 : Int32)) (fun g11 => vv_ck (nI n) 36 (some ((g11.1 35 (nI n).toNatClampNeg), g11)))))))) = some (o, r') ∧ RR c' r' := by
    simp (disch := omega) only [Option.bind_some, o1, o2, ck_lit, nI_clamp, vv_let, ff_X4_wornBy, ff_X4_isWithBody, vv_iu_ne, vv_iu_eq, if_pos (show (-4 : Int32) < 0 by decide), if_true, Int32.add_zero]
    exact ⟨_, _, _, rfl, rfl, z2⟩
  simp (disch := omega) only [ff_X4_isGone, ff_X4_isStored, ff_X4_isWithBody, ff_X12_isGone, ck_lit, nI_clamp, rel_a160 H.1, rel_a161 H.1, q1, q2]
  by_cases b1 : c.1 160 n = -4
  · by_cases b2 : c.1 161 n = -4
    · simp only [if_pos b1, if_pos b2, Option.bind_some, if_true, if_neg (show ¬ (1 : Int32) = 0 by decide)]
      exact ⟨_, _, _, rfl, rfl, H⟩
    · simp only [if_pos b1, if_neg b2, Option.bind_some, if_true, if_neg (show ¬ (1 : Int32) = 0 by decide)]
      simpa (disch := omega) only [nI_clamp, ck_lit] using fin
  · simp only [if_neg b1, Option.bind_some, if_true, if_neg (show ¬ (1 : Int32) = 0 by decide)]
    simpa (disch := omega) only [nI_clamp, ck_lit] using fin
theorem e_move {c r : vv_H} (H : RR c r) (p s : Int32) : ∃ o c' r', ff_X11_move c p s = some (o, c') ∧ ff_X12_move r p s = some (o, r') ∧ RR c' r' := by
  have hb := H.b (k := 156) (j := 0) rfl
  have hs := H.b (k := 146) (j := 0) rfl
  simp only [ff_X11_move, ff_X12_move, m_has4, m_has9, m_isPieceR (h := r) (by rw [rel_s156_0 H.1]; exact hb.1) (by rw [rel_s156_0 H.1]; exact hb.2), m_isStoreR (h := r) (by rw [rel_s146_0 H.1]; exact hs.1) (by rw [rel_s146_0 H.1]; exact hs.2), rel_s156_0 H.1, rel_s146_0 H.1, Option.bind_some, wi_ite]
  by_cases g1 : 0 ≤ p.toInt ∧ p.toInt ≤ (c.1 156 0).toInt - 1
  case neg =>
    rw [if_neg g1, if_neg g1]
    exact ⟨_, _, _, rfl, rfl, H⟩
  by_cases g2 : 0 ≤ s.toInt ∧ s.toInt ≤ (c.1 146 0).toInt - 1
  case neg =>
    rw [if_pos g1, if_pos g1, if_neg g2, if_neg g2]
    exact ⟨_, _, _, rfl, rfl, H⟩
  rw [if_pos g1, if_pos g1, if_pos g2, if_pos g2]
  obtain ⟨n, hn, rfl⟩ := to_nI g1.1 (show _ < ((36 : Nat) : Int) by omega) (by decide)
  obtain ⟨t, ht, rfl⟩ := to_nI g2.1 (show _ < ((4 : Nat) : Int) by omega) (by decide)
  have htI : (nI t).toInt = t := nI_toInt (by omega)
  have hnp : (n : Int) < (c.1 156 0).toInt := by have := g1.2; rw [nI_toInt (by omega)] at this; omega
  obtain ⟨-, hst, hw⟩ := H.2.2.1.1 n hnp
  simp (disch := omega) only [ff_X4_isStored, ck_lit, nI_clamp, rel_a160 H.1]
  rcases hst with hst | ⟨h1, h2, h3⟩
  · have g3 : ¬ (-4 : Int32) = nI t := fun e => by rw [← e] at htI; have : (-4 : Int32).toInt = -4 := rfl; omega
    rw [hst, if_neg g3, if_pos (show (-4 : Int32) < 0 by decide), if_pos rfl]
    exact ⟨_, _, _, rfl, rfl, H⟩
  · have h4 : ¬ c.1 160 n = -4 := fun e => by rw [e] at h1; exact absurd h1 (by decide)
    obtain ⟨a, ha, ea⟩ := to_nI h1 (show _ < ((4 : Nat) : Int) by omega) (by decide)
    rw [if_neg h4, if_neg (show ¬ c.1 160 n < 0 by rw [lt0]; omega)]
    by_cases g3 : c.1 160 n = nI t
    · rw [if_pos g3, if_pos g3]
      exact ⟨_, _, _, rfl, rfl, H⟩
    · have hat : a ≠ t := fun e => g3 (by rw [ea, e])
      have k1 : (4 : Int32) * nI a + nI t = nI (4 * a + t) := by rw [show (4 : Int32) = nI 4 from rfl, pk_mul, nI_add]
      rw [if_neg g3, if_neg g3]
      simp (disch := omega) only [Option.bind_some, if_neg (show ¬ (1 : Int32) = 0 by decide), ea, k1, ck_lit, nI_clamp, vv_let, rel_ro H.1 ha ht hat]
      exact ⟨_, _, _, rfl, rfl, RR_up H rfl (bd_in rfl (by omega) (by omega)) (wfp_160 H.2.2.1 (Or.inr ⟨g2.1, by omega, h3⟩))⟩
