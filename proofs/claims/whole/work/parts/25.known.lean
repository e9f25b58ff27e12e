theorem vv_F_lt {n : Nat} (h : n < 1048576) : n < vv_F := by unfold vv_F; exact h
/-- a loop that counts to N -/
theorem lp_count {S R : Type} {f : S → Option (S ⊕ R)} (I : Nat → S → Prop) (J : R → Prop) (N : Nat) (hs : ∀ i s, i < N → I i s → (∃ s', f s = some (.inl s') ∧ I (i + 1) s') ∨ (∃ r, f s = some (.inr r) ∧ J r)) (he : ∀ s, I N s → ∃ r, f s = some (.inr r) ∧ J r) : ∀ (n i : Nat) (s : S), I i s → i ≤ N → N - i < n → ∃ r, vv_lp f n s = some r ∧ J r := by
  intro n
  induction n with
  | zero => intro i s _ _ h; omega
  | succ n ih =>
    intro i s hi hN hn
    rcases Nat.lt_or_ge i N with h | h
    · rcases hs i s h hi with ⟨s', e, h2⟩ | ⟨r, e, h2⟩
      · obtain ⟨r, e2, h3⟩ := ih (i + 1) s' h2 (by omega) (by omega)
        exact ⟨r, by rw [vv_lp, e]; exact e2, h3⟩
      · exact ⟨r, by rw [vv_lp, e], h2⟩
    · have : i = N := by omega
      subst this
      obtain ⟨r, e, h2⟩ := he s hi
      exact ⟨r, by rw [vv_lp, e], h2⟩
theorem nI_nle' {a b : Nat} (h : b < a) (ha : a < 2 ^ 31) : ¬ nI a ≤ nI b := by
  rw [nI_leI ha (by omega)]
  omega
theorem known_B {c r : vv_H} (H : rel c r) (u1 u2 u3 u4 s5 s6 s7 : Int32) : ff_X12_knownOf_B9 u1 u2 u3 u4 r s5 s6 s7 = ff_X2_asKnown_B9 u1 u2 u3 u4 c s5 s6 s7 := by
  simp only [ff_X12_knownOf_B9, ff_X2_asKnown_B9, ff_X2_asKnown_J67, ff_X2_asKnown_J68, rel_s16_0 H, rel_a17 H, rel_a18 H, rel_a19 H, rel_a20 H, rel_a21 H, vv_let, show ((1 : Int32) = 0) = False from by decide, if_true, if_false]
theorem known_eq {c r : vv_H} (H : rel c r) (b w k d : Int32) : ff_X12_knownOf r b w k d = ff_X2_asKnown c b w k d := by
  simp only [ff_X12_knownOf, ff_X2_asKnown, known_B H]
theorem known_tot {c : vv_H} (W : wf0 c) (b w k d : Int32) : ∃ v, ff_X2_asKnown c b w k d = some v ∧ 0 ≤ v.toInt ∧ v.toInt ≤ 250 := by
  have hm := W 16 0 0 60 rfl
  obtain ⟨N, hN, eN⟩ : ∃ N, N < 61 ∧ c.1 16 0 = nI N := vp_in_of (vp_in_iff.mpr ⟨hm.1, by omega⟩) (by decide)
  have hL := lp_count (f := fun (zs : Int32 × Int32 × Int32) => ff_X2_asKnown_B9 b w k d c zs.1 zs.2.1 zs.2.2) (fun i s => s.2.2 = nI i ∧ 0 ≤ s.1.toInt ∧ s.1.toInt ≤ 250) (fun v : Int32 => 0 ≤ v.toInt ∧ v.toInt ≤ 250) N ?hs ?he vv_F 0 ((0 : Int32), (-1 : Int32), (0 : Int32)) ⟨rfl, by decide, by decide⟩ (Nat.zero_le _) (vv_F_lt (by omega))
  case hs =>
    intro i s hi hI
    obtain ⟨s1, s2, s3⟩ := s
    obtain ⟨h1, h2⟩ := hI
    dsimp only at h1 h2 ⊢
    subst h1
    have hv := W 19 i 0 250 rfl
    left
    simp only [ff_X2_asKnown_B9, ff_X2_asKnown_J67, ff_X2_asKnown_J68, eN, if_neg (nI_nle' hi (by omega)), ck_lit (show i < 60 by omega) (by decide), vv_let, show ((1 : Int32) = 0) = False from by decide, if_true, if_false, nI_1, nI_clamp (show i < 2 ^ 31 by omega)]
    repeat' split
    all_goals first | exact ⟨_, rfl, rfl, h2⟩ | exact ⟨_, rfl, rfl, hv⟩
  case he =>
    intro s hI
    obtain ⟨s1, s2, s3⟩ := s
    obtain ⟨h1, h2⟩ := hI
    dsimp only at h1 h2 ⊢
    subst h1
    simp only [ff_X2_asKnown_B9, eN, if_pos (nI_le (Nat.le_refl N) (by omega))]
    exact ⟨_, rfl, h2⟩
  obtain ⟨v, e, h⟩ := hL
  refine ⟨v, ?_, h⟩
  rw [ff_X2_asKnown, e]
  rfl
theorem e_becomes {c r : vv_H} (H : RR c r) (b w v : Int32) : ∃ o c' r', ff_X11_becomes c b w v = some (o, c') ∧ ff_X12_becomes r b w v = some (o, r') ∧ RR c' r' := by
  have hb := H.b (k := 1) (j := 0) rfl
  simp only [ff_X11_becomes, ff_X12_becomes, ff_X12_becomes_J47, ff_X12_becomes_J88, m_has0, m_isBodyR (h := r) (by rw [rel_s1_0 H.1]; exact hb.1) (by rw [rel_s1_0 H.1]; exact hb.2), rel_s1_0 H.1, m_isTrait, m_in, Option.bind_some, wi_ite, vv_let, Int32.toInt_toInt64, show (0 : Int64).toInt = 0 from rfl, show (5 : Int64).toInt = 5 from rfl, show (3 : Int64).toInt = 3 from rfl, show (2 : Int64).toInt = 2 from rfl]
  by_cases g1 : 0 ≤ b.toInt ∧ b.toInt ≤ (c.1 1 0).toInt - 1
  · rw [if_pos g1, if_pos g1]
    obtain ⟨n, hn, en⟩ : ∃ n, n < 12 ∧ b = nI n := vp_in_of (vp_in_iff.mpr ⟨g1.1, by omega⟩) (by decide)
    subst en
    have hcl : (nI n).toNatClampNeg = n := nI_clamp (by omega)
    have key : ∀ (t x : Nat) (hi : Int), x < 3 → hi ≤ 9 → t ≠ 156 ∧ t ≠ 157 → ph_f (3 + n) x = some (t, n) → 0 ≤ v.toInt ∧ v.toInt ≤ hi → RR (vv_iu c (3 + n) x v) (vv_iu r t n v) := fun t x hi hx hh _ e g => RR_up H e (bd_in ((by decide +kernel : ∀ b, b < 12 → ∀ j, j < 3 → wfb (3 + b) j = some (0, 9)) n hn x hx) g.1 (by omega)) (wfp_ne H.2.2.1 (by omega))
    by_cases w0 : w = 0
    · subst w0
      simp only [if_true, wi_ite, show (0 ≤ (0 : Int32).toInt ∧ (0 : Int32).toInt ≤ 2) = True from by simp, ck_lit hn (by decide), ck03, hcl, cl_0]
      by_cases g : 0 ≤ v.toInt ∧ v.toInt ≤ 5
      · rw [if_pos g, if_pos g, rel_t0 H.1 hn]
        exact ⟨_, _, _, rfl, rfl, key 1 0 5 (by decide) (by decide) (by decide) ((by decide : ∀ b, b < 12 → ph_f (3 + b) 0 = some (1, b)) n hn) g⟩
      · rw [if_neg g, if_neg g]
        exact ⟨_, _, _, rfl, rfl, H⟩
    · by_cases w1 : w = 1
      · subst w1
        simp only [if_true, if_false, w0, wi_ite, show (0 ≤ (1 : Int32).toInt ∧ (1 : Int32).toInt ≤ 2) = True from by simp [show (1 : Int32).toInt = 1 from rfl], ck_lit hn (by decide), ck13, hcl, cl_1]
        by_cases g : 0 ≤ v.toInt ∧ v.toInt ≤ 3
        · rw [if_pos g, if_pos g, rel_t1 H.1 hn]
          exact ⟨_, _, _, rfl, rfl, key 2 1 3 (by decide) (by decide) (by decide) ((by decide : ∀ b, b < 12 → ph_f (3 + b) 1 = some (2, b)) n hn) g⟩
        · rw [if_neg g, if_neg g]
          exact ⟨_, _, _, rfl, rfl, H⟩
      · by_cases w2 : w = 2
        · subst w2
          simp only [if_true, if_false, w0, w1, wi_ite, show (0 ≤ (2 : Int32).toInt ∧ (2 : Int32).toInt ≤ 2) = True from by simp [show (2 : Int32).toInt = 2 from rfl], ck_lit hn (by decide), ck23, hcl, cl_2]
          by_cases g : 0 ≤ v.toInt ∧ v.toInt ≤ 2
          · rw [if_pos g, if_pos g, rel_t2 H.1 hn]
            exact ⟨_, _, _, rfl, rfl, key 3 2 2 (by decide) (by decide) (by decide) ((by decide : ∀ b, b < 12 → ph_f (3 + b) 2 = some (3, b)) n hn) g⟩
          · rw [if_neg g, if_neg g]
            exact ⟨_, _, _, rfl, rfl, H⟩
        · have hw : ¬ (0 ≤ w.toInt ∧ w.toInt ≤ 2) := by
            have a0 : w.toInt ≠ 0 := fun e => w0 (Int32.toInt_inj.mp (e.trans (by decide)))
            have a1 : w.toInt ≠ 1 := fun e => w1 (Int32.toInt_inj.mp (e.trans (by decide)))
            have a2 : w.toInt ≠ 2 := fun e => w2 (Int32.toInt_inj.mp (e.trans (by decide)))
            omega
          simp only [if_true, if_false, w0, w1, w2, if_neg hw]
          exact ⟨_, _, _, rfl, rfl, H⟩
  · rw [if_neg g1, if_neg g1]
    exact ⟨_, _, _, rfl, rfl, H⟩
theorem e_measure {c r : vv_H} (H : RR c r) (b w v f : Int32) : ∃ o c' r', ff_X11_measure c b w v f = some (o, c') ∧ ff_X12_measure r b w v f = some (o, r') ∧ RR c' r' := by
  have hb := H.b (k := 1) (j := 0) rfl
  have hm := H.b (k := 16) (j := 0) rfl
  have ht := H.b (k := 0) (j := 0) rfl
  simp only [ff_X11_measure, ff_X12_measure, m_has0, m_isBodyR (h := r) (by rw [rel_s1_0 H.1]; exact hb.1) (by rw [rel_s1_0 H.1]; exact hb.2), rel_s1_0 H.1, m_isMeasureKind, m_isMeasure, m_isDay, m_isDayR, m_in, Option.bind_some, wi_ite, Int32.toInt_toInt64, show (0 : Int64).toInt = 0 from rfl, show (250 : Int64).toInt = 250 from rfl, show (2 : Int64).toInt = 2 from rfl]
  by_cases g1 : 0 ≤ b.toInt ∧ b.toInt ≤ (c.1 1 0).toInt - 1
  case neg =>
    rw [if_neg g1, if_neg g1]
    exact ⟨_, _, _, rfl, rfl, H⟩
  rw [if_pos g1, if_pos g1]
  by_cases g2 : 0 ≤ w.toInt ∧ w.toInt ≤ 2
  case neg =>
    rw [if_neg g2, if_neg g2]
    exact ⟨_, _, _, rfl, rfl, H⟩
  rw [if_pos g2, if_pos g2]
  by_cases g3 : 0 ≤ v.toInt ∧ v.toInt ≤ 250
  case neg =>
    rw [if_neg g3, if_neg g3]
    exact ⟨_, _, _, rfl, rfl, H⟩
  rw [if_pos g3, if_pos g3]
  by_cases g4 : 0 ≤ f.toInt ∧ f.toInt ≤ 9999
  case neg =>
    rw [if_neg g4, if_neg g4]
    exact ⟨_, _, _, rfl, rfl, H⟩
  rw [if_pos g4, if_pos g4, rel_s16_0 H.1]
  unfold ff_X2_add ff_X12_tell
  by_cases g5 : c.1 16 0 = 60
  · rw [if_pos g5, if_neg (by rw [g5]; decide)]
    exact ⟨_, _, _, rfl, rfl, H⟩
  · have g6 : (c.1 16 0).toInt ≠ 60 := fun e => g5 (Int32.toInt_inj.mp (e.trans (by decide)))
    rw [if_neg g5, if_pos (Int32.lt_iff_toInt_lt.mpr (by rw [show (60 : Int32).toInt = 60 from rfl]; omega))]
    obtain ⟨n, hn, en⟩ : ∃ n, n < 60 ∧ c.1 16 0 = nI n := vp_in_of (vp_in_iff.mpr ⟨hm.1, by omega⟩) (by decide)
    have hcl : (nI n).toNatClampNeg = n := nI_clamp (by omega)
    have hs : (nI n + 1).toInt = n + 1 := by rw [nI_1, nI_toInt (by omega)]; omega
    simp (disch := omega) only [en, vv_let, ck_lit, hcl, vv_iu_ne, vv_iu_nj, vv_iu_eq, rel_s16_0 H.1, rel_s0_0 H.1, Option.bind_some]
    have w1 := wfp_ne (k := 17) (j := n) (v := b) H.2.2.1 (by omega)
    have w2 := wfp_ne (k := 18) (j := n) (v := w) w1 (by omega)
    have w3 := wfp_ne (k := 19) (j := n) (v := v) w2 (by omega)
    have w4 := wfp_ne (k := 20) (j := n) (v := f) w3 (by omega)
    have w5 := wfp_ne (k := 21) (j := n) (v := c.1 0 0) w4 (by omega)
    have w6 := wfp_ne (k := 16) (j := 0) (v := nI n + 1) w5 (by omega)
    have z1 := RR_up H (k := 17) (j := n) rfl (bd_in rfl g1.1 (by omega)) w1
    have z2 := RR_up z1 (k := 18) (j := n) rfl (bd_in rfl g2.1 g2.2) w2
    have z3 := RR_up z2 (k := 19) (j := n) rfl (bd_in rfl g3.1 g3.2) w3
    have z4 := RR_up z3 (k := 20) (j := n) rfl (bd_in rfl g4.1 g4.2) w4
    have z5 := RR_up z4 (k := 21) (j := n) rfl (bd_in rfl ht.1 ht.2) w5
    have z6 := RR_up z5 (k := 16) (j := 0) rfl (bd_in rfl (by omega) (by omega)) w6
    exact ⟨_, _, _, rfl, rfl, z6⟩
theorem e_known {c r : vv_H} (H : RR c r) (b w k d : Int32) : ∃ o, ff_X11_known c b w k d = some o ∧ ff_X12_known r b w k d = some o := by
  have hb := H.b (k := 1) (j := 0) rfl
  obtain ⟨v, ev, -⟩ := known_tot H.2.1 b w k d
  simp only [ff_X11_known, ff_X12_known, m_has0, m_isBodyR (h := r) (by rw [rel_s1_0 H.1]; exact hb.1) (by rw [rel_s1_0 H.1]; exact hb.2), rel_s1_0 H.1, m_isMeasureKind, m_isDay, m_isDayR, m_in, Option.bind_some, wi_ite, Int32.toInt_toInt64, show (0 : Int64).toInt = 0 from rfl, show (2 : Int64).toInt = 2 from rfl, known_eq H.1, ev]
  repeat' split
  all_goals exact ⟨_, rfl, rfl⟩
