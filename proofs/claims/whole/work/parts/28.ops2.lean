theorem e_fault {c r : vv_H} (H : RR c r) : ∃ o, ff_X11_fault c = some o ∧ ff_X12_fault r = some o := ⟨_, rfl, by rw [ff_X12_fault, rel_s0_1 H.1]⟩
theorem e_end {c r : vv_H} (H : RR c r) (n : Int32) : ∃ o c' r', ff_X11_end c n = some (o, c') ∧ ff_X12_end r n = some (o, r') ∧ RR c' r' := by
  have hb := H.b (k := 50) (j := 0) rfl
  simp only [ff_X11_end, ff_X12_end, m_isWithin, m_in, Option.bind_some, wi_ite, vv_let, rel_s50_0 H.1, Int32.toInt_toInt64, show (0 : Int32).toInt = 0 from rfl, show (0 : Int64).toInt = 0 from rfl]
  by_cases g : 0 ≤ n.toInt ∧ n.toInt ≤ (c.1 50 0).toInt
  · rw [if_pos g, if_pos g]
    exact ⟨_, _, _, rfl, rfl, RR_up H rfl (bd_in rfl g.1 (by omega)) (wfp_ne H.2.2.1 (by omega))⟩
  · rw [if_neg g, if_neg g]
    exact ⟨_, _, _, rfl, rfl, H⟩
theorem e_store {c r : vv_H} (H : RR c r) : ∃ o c' r', (ff_X9_add c) = some (o, c') ∧ ff_X12_store r = some (o, r') ∧ RR c' r' := by
  have hb := H.b (k := 146) (j := 0) rfl
  simp only [ff_X9_add, ff_X12_store, vv_let, rel_s146_0 H.1, vv_iu_eq]
  by_cases g : c.1 146 0 = 4
  · rw [if_pos g, if_neg (by rw [g]; decide)]
    exact ⟨_, _, _, rfl, rfl, H⟩
  · have g5 : (c.1 146 0).toInt ≠ 4 := fun e => g (Int32.toInt_inj.mp (e.trans (by decide)))
    rw [if_neg g, if_pos (Int32.lt_iff_toInt_lt.mpr (by rw [show (4 : Int32).toInt = 4 from rfl]; omega))]
    have hs := toInt_succ hb.1 hb.2 (by decide)
    refine ⟨_, _, _, rfl, ?_, RR_up H rfl (bd_in rfl (by omega) (by omega)) (wfp_more H.2.2.1 (by omega) (by omega))⟩
    rw [Int32.add_sub_cancel]
theorem e_road {c r : vv_H} (H : RR c r) (s t v : Int32) : ∃ o c' r', ff_X11_road c s t v = some (o, c') ∧ ff_X12_road r s t v = some (o, r') ∧ RR c' r' := by
  have hb := H.b (k := 146) (j := 0) rfl
  simp only [ff_X11_road, ff_X12_road, m_has9, m_isStoreR (h := r) (by rw [rel_s146_0 H.1]; exact hb.1) (by rw [rel_s146_0 H.1]; exact hb.2), rel_s146_0 H.1, m_isWithin, m_in, Option.bind_some, wi_ite, vv_let, Int32.toInt_toInt64, show (0 : Int64).toInt = 0 from rfl, show (99 : Int64).toInt = 99 from rfl, show (0 : Int32).toInt = 0 from rfl, show (99 : Int32).toInt = 99 from rfl]
  by_cases g1 : 0 ≤ s.toInt ∧ s.toInt ≤ (c.1 146 0).toInt - 1
  case neg =>
    rw [if_neg g1, if_neg g1]
    exact ⟨_, _, _, rfl, rfl, H⟩
  by_cases g2 : 0 ≤ t.toInt ∧ t.toInt ≤ (c.1 146 0).toInt - 1
  case neg =>
    rw [if_pos g1, if_pos g1, if_neg g2, if_neg g2]
    exact ⟨_, _, _, rfl, rfl, H⟩
  by_cases g3 : s = t
  case pos =>
    rw [if_pos g1, if_pos g1, if_pos g2, if_pos g2, if_pos g3, if_pos g3]
    exact ⟨_, _, _, rfl, rfl, H⟩
  by_cases g4 : 0 ≤ v.toInt ∧ v.toInt ≤ 99
  case neg =>
    rw [if_pos g1, if_pos g1, if_pos g2, if_pos g2, if_neg g3, if_neg g3, if_neg g4, if_neg g4]
    exact ⟨_, _, _, rfl, rfl, H⟩
  rw [if_pos g1, if_pos g1, if_pos g2, if_pos g2, if_neg g3, if_neg g3, if_pos g4, if_pos g4]
  obtain ⟨a, ha, rfl⟩ := to_nI g1.1 (show _ < ((4 : Nat) : Int) by omega) (by decide)
  obtain ⟨b, hb4, rfl⟩ := to_nI g2.1 (show _ < ((4 : Nat) : Int) by omega) (by decide)
  have hab : a ≠ b := fun e => g3 (by rw [e])
  have k1 : ∀ x y : Nat, (4 : Int32) * nI x + nI y = nI (4 * x + y) := fun x y => by rw [show (4 : Int32) = nI 4 from rfl, pk_mul, nI_add]
  simp (disch := omega) only [k1, ck_lit, nI_clamp, rel_ro H.1 ha hb4 hab]
  have p1 := (by decide +kernel : ∀ s, s < 4 → ∀ t, t < 4 → s ≠ t → ph_f (148 + s) t = some (28, 4 * s + t)) a ha b hb4 hab
  have p2 := (by decide +kernel : ∀ s, s < 4 → ∀ t, t < 4 → s ≠ t → ph_f (148 + s) t = some (28, 4 * s + t)) b hb4 a ha (fun e => hab e.symm)
  have q := (by decide +kernel : ∀ s, s < 4 → ∀ t, t < 4 → wfb (148 + s) t = some (0, 99))
  have w1 := wfp_ne (k := 148 + a) (j := b) (v := v) H.2.2.1 (by omega)
  have z1 := RR_up H p1 (bd_in (q a ha b hb4) g4.1 g4.2) w1
  have z2 := RR_up z1 p2 (bd_in (q b hb4 a ha) g4.1 g4.2) (wfp_ne w1 (by omega))
  exact ⟨_, _, _, rfl, rfl, z2⟩
theorem stock_two {c r : vv_H} (H : RR c r) (s kind : Int32) : ∃ m : Nat, m ≤ 36 ∧ ff_X11_stockOf c s kind = some (nI m) ∧ ff_X12_stockOf r s kind = some (nI m) := by
  have hb := H.b (k := 156) (j := 0) rfl
  obtain ⟨N, hN, eN⟩ := to_nI hb.1 (show _ < ((37 : Nat) : Int) by omega) (by decide)
  have eR : r.1 0 44 = nI N := by rw [rel_s156_0 H.1, eN]
  have hL := lp_two (f := fun (zs : Int32 × Int32) => ff_X11_stockOf_B5 s kind c zs.1 zs.2) (g := fun (zs : Int32 × Int32) => ff_X12_stockOf_B5 s kind r zs.1 zs.2) (fun i s t => ∃ v : Nat, v ≤ i ∧ s = (nI v, nI i) ∧ t = (nI v, nI i)) (fun (a b : Int32) => b = a ∧ ∃ v : Nat, v ≤ 36 ∧ a = nI v) N ?hs ?he vv_F 0 ((0 : Int32), (0 : Int32)) ((0 : Int32), (0 : Int32)) ⟨0, Nat.le_refl _, rfl, rfl⟩ (Nat.zero_le _) (vv_F_lt (by omega))
  case hs =>
    rintro i s t hi ⟨v, hv, rfl, rfl⟩
    left
    simp only [ff_X11_stockOf_B5, ff_X12_stockOf_B5, eN, eR, if_neg (nI_nle' hi (by omega)), ck_lit (show i < 36 by omega) (by decide), vv_let, kind_eq H.1, kind_of H.2.1 (show i < 36 by omega), Option.bind_some, nI_1, nI_clamp (show i < 2 ^ 31 by omega), rel_a160 H.1, Int32.add_zero]
    repeat' split
    all_goals first | exact ⟨_, _, rfl, rfl, v + 1, by omega, rfl, rfl⟩ | exact ⟨_, _, rfl, rfl, v, by omega, rfl, rfl⟩
  case he =>
    rintro s t ⟨v, hv, rfl, rfl⟩
    simp only [ff_X11_stockOf_B5, ff_X12_stockOf_B5, eN, eR, if_pos (nI_le (Nat.le_refl N) (show N < 2 ^ 31 by omega))]
    exact ⟨_, _, rfl, rfl, rfl, v, by omega, rfl⟩
  obtain ⟨a, b', e1, e2, rfl, v, hv, rfl⟩ := hL
  exact ⟨v, hv, by rw [ff_X11_stockOf, e1]; rfl, by rw [ff_X12_stockOf, e2]; rfl⟩
theorem e_stock {c r : vv_H} (H : RR c r) (s k : Int32) : ∃ o, ff_X11_stock c s k = some o ∧ ff_X12_stock r s k = some o := by
  have hb := H.b (k := 146) (j := 0) rfl
  obtain ⟨m, -, e1, e2⟩ := stock_two H s k
  simp only [ff_X11_stock, ff_X12_stock, m_has9, m_isStoreR (h := r) (by rw [rel_s146_0 H.1]; exact hb.1) (by rw [rel_s146_0 H.1]; exact hb.2), rel_s146_0 H.1, m_isKind, m_in, Option.bind_some, wi_ite, Int32.toInt_toInt64, show (0 : Int64).toInt = 0 from rfl, show (3 : Int64).toInt = 3 from rfl, e1, e2]
  repeat' split
  all_goals exact ⟨_, rfl, rfl⟩
theorem e_pieceOf {c r : vv_H} (H : RR c r) (p w : Int32) : ∃ o, ff_X11_pieceOf c p w = some o ∧ ff_X12_pieceOf r p w = some o := by
  have hb := H.b (k := 156) (j := 0) rfl
  simp only [ff_X11_pieceOf, ff_X12_pieceOf, m_has4, m_isPieceR (h := r) (by rw [rel_s156_0 H.1]; exact hb.1) (by rw [rel_s156_0 H.1]; exact hb.2), rel_s156_0 H.1, Option.bind_some, wi_ite]
  by_cases g1 : 0 ≤ p.toInt ∧ p.toInt ≤ (c.1 156 0).toInt - 1
  case neg =>
    rw [if_neg g1, if_neg g1]
    exact ⟨_, rfl, rfl⟩
  rw [if_pos g1, if_pos g1]
  obtain ⟨n, hn, rfl⟩ := to_nI g1.1 (show _ < ((36 : Nat) : Int) by omega) (by decide)
  obtain ⟨x, e1, e2⟩ := worn_two H (p := n) (by have := g1.2; rw [nI_toInt (by omega)] at this; omega)
  simp only [ck_lit hn (by decide), nI_clamp (show n < 2 ^ 31 by omega), e1, e2, Option.bind_some, rel_a157 H.1, rel_a158 H.1, rel_a159 H.1, rel_a160 H.1, rel_a161 H.1, rel_a162 H.1, rel_a163 H.1, rel_a164 H.1]
  repeat' split
  all_goals exact ⟨_, rfl, rfl⟩
theorem wfp_new {c : vv_H} {k j : Nat} {v : Int32} (h : wfp c) (hk : k = 157 ∨ k = 160 ∨ k = 161) (hj : (c.1 156 0).toInt ≤ j) : wfp (vv_iu c k j v) := by
  have e : ∀ a, a ≠ k → (vv_iu c k j v).1 a = c.1 a := fun a ha => vv_iu_ne ha
  refine ⟨fun p hp => ?_, fun i hi => ?_, fun i hi => ?_, plan0_of h.2.2.2 (e _ (by omega)) (e _ (by omega)) (e _ (by omega)) (by rw [e 146 (by omega)]; exact Int.le_refl _)⟩
  · rw [e 156 (by omega)] at hp
    rw [vv_iu_nj (a := 157) (by omega), vv_iu_nj (a := 160) (by omega), vv_iu_nj (a := 161) (by omega), e 22 (by omega), e 146 (by omega), e 1 (by omega)]
    exact h.1 p hp
  · rw [e 15 (by omega)]
    rw [e 1 (by omega)] at hi
    exact h.2.1 i hi
  · rw [e 163 (by omega), e 164 (by omega), e 165 (by omega), e 166 (by omega)]
    rw [e 156 (by omega)] at hi
    exact h.2.2.1 i hi
theorem m_isLot (v : Int32) : ff_X11_isLot v = some (wi v.toInt 0 5) := by
  simp only [ff_X11_isLot, m_isWithin, Option.bind_some, wi_zk]; rfl
theorem m_isShade (v : Int32) : ff_X11_isShade v = some (wi v.toInt 0 99) := by
  simp only [ff_X11_isShade, m_isWithin, Option.bind_some, wi_zk]; rfl
theorem e_piece {c r : vv_H} (H : RR c r) (s z l d : Int32) : ∃ o c' r', ff_X11_piece c s z l d = some (o, c') ∧ ff_X12_piece r s z l d = some (o, r') ∧ RR c' r' := by
  have hb := H.b (k := 146) (j := 0) rfl
  have hz := H.b (k := 22) (j := 0) rfl
  have hp := H.b (k := 156) (j := 0) rfl
  simp only [ff_X11_piece, ff_X12_piece, m_has9, m_has8, m_isStoreR (h := r) (by rw [rel_s146_0 H.1]; exact hb.1) (by rw [rel_s146_0 H.1]; exact hb.2), rel_s146_0 H.1, rel_s22_0 H.1, toInt_pred hz.1 hz.2 (by decide), m_isLot, m_isShade, m_in, Option.bind_some, wi_ite, Int32.toInt_toInt64, show (0 : Int64).toInt = 0 from rfl, show (5 : Int64).toInt = 5 from rfl, show (99 : Int64).toInt = 99 from rfl]
  by_cases g1 : 0 ≤ s.toInt ∧ s.toInt ≤ (c.1 146 0).toInt - 1
  case neg =>
    rw [if_neg g1, if_neg g1]
    exact ⟨_, _, _, rfl, rfl, H⟩
  rw [if_pos g1, if_pos g1]
  by_cases g2 : 0 ≤ z.toInt ∧ z.toInt ≤ (c.1 22 0).toInt - 1
  case neg =>
    rw [if_neg g2, if_neg g2]
    exact ⟨_, _, _, rfl, rfl, H⟩
  rw [if_pos g2, if_pos g2]
  by_cases g3 : 0 ≤ l.toInt ∧ l.toInt ≤ 5
  case neg =>
    rw [if_neg g3, if_neg g3]
    exact ⟨_, _, _, rfl, rfl, H⟩
  rw [if_pos g3, if_pos g3]
  by_cases g4 : 0 ≤ d.toInt ∧ d.toInt ≤ 99
  case neg =>
    rw [if_neg g4, if_neg g4]
    exact ⟨_, _, _, rfl, rfl, H⟩
  rw [if_pos g4, if_pos g4, rel_s156_0 H.1]
  unfold ff_X4_add
  by_cases g5 : c.1 156 0 = 36
  · rw [if_pos g5, if_neg (by rw [g5]; decide)]
    exact ⟨_, _, _, rfl, rfl, H⟩
  · have g6 : (c.1 156 0).toInt ≠ 36 := fun e => g5 (Int32.toInt_inj.mp (e.trans (by decide)))
    rw [if_neg g5, if_pos (Int32.lt_iff_toInt_lt.mpr (by rw [show (36 : Int32).toInt = 36 from rfl]; omega))]
    obtain ⟨n, hn, en⟩ := to_nI hp.1 (show _ < ((36 : Nat) : Int) by omega) (by decide)
    have hnI : (nI n).toInt = n := nI_toInt (by omega)
    have hs : (nI n + 1).toInt = n + 1 := by rw [nI_1, nI_toInt (by omega)]; omega
    obtain ⟨y1, y2, y3, y4⟩ := H.2.2.1.2.2.1 n (by rw [en, hnI]; omega)
    simp (disch := omega) only [en, vv_let, ck_lit, nI_clamp, vv_iu_ne, vv_iu_nj, vv_iu_eq, rel_s156_0 H.1, Option.bind_some]
    rw [vv_iu_self (k := 34) (by simp (disch := omega) only [vv_iu_ne, rel_a165 H.1]; exact y3), vv_iu_self (k := 35) (by simp (disch := omega) only [vv_iu_ne, rel_a166 H.1]; exact y4), vv_iu_self (k := 36) (by simp (disch := omega) only [vv_iu_ne, rel_a163 H.1]; exact y1), vv_iu_self (k := 37) (by simp (disch := omega) only [vv_iu_ne, rel_a164 H.1]; exact y2)]
    have w1 := wfp_new (k := 157) (j := n) (v := z) H.2.2.1 (by omega) (by rw [en, hnI]; omega)
    have w2 := wfp_ne (k := 158) (j := n) (v := l) w1 (by omega)
    have w3 := wfp_ne (k := 159) (j := n) (v := d) w2 (by omega)
    have w4 := wfp_new (k := 160) (j := n) (v := s) w3 (by omega) (by simp (disch := omega) only [vv_iu_ne]; rw [en, hnI]; omega)
    have w5 := wfp_new (k := 161) (j := n) (v := -4) w4 (by omega) (by simp (disch := omega) only [vv_iu_ne]; rw [en, hnI]; omega)
    have w6 := wfp_ne (k := 162) (j := n) (v := -4) w5 (by omega)
    have w7 : wfp (vv_iu (vv_iu (vv_iu (vv_iu (vv_iu (vv_iu (vv_iu c 157 n z) 158 n l) 159 n d) 160 n s) 161 n (-4)) 162 n (-4)) 156 0 (nI n + 1)) := by
      refine ⟨fun p hp => ?_, fun i hi => ?_, fun i hi => ?_, plan0_of w6.2.2.2 (vv_iu_ne (by omega)) (vv_iu_ne (by omega)) (vv_iu_ne (by omega)) (by rw [vv_iu_ne (k := 156) (by omega)]; exact Int.le_refl _)⟩
      · rw [vv_iu_eq, hs] at hp
        rcases (show (p : Int) < n ∨ p = n by omega) with q | q
        · have := w6.1 p (by simp (disch := omega) only [vv_iu_ne]; rw [en, hnI]; exact q)
          simpa (disch := omega) only [vv_iu_ne (k := 156)] using this
        · subst q
          simp (disch := omega) only [vv_iu_ne, vv_iu_eq]
          exact ⟨by omega, Or.inr ⟨g1.1, by omega, trivial⟩, Or.inl trivial⟩
      · have := w6.2.1 i (by rw [vv_iu_ne (by omega)] at hi; exact hi)
        rw [vv_iu_ne (by omega)]
        exact this
      · rw [vv_iu_eq, hs] at hi
        have := w6.2.2.1 i (by simp (disch := omega) only [vv_iu_ne]; rw [en, hnI]; omega)
        rw [vv_iu_ne (by omega), vv_iu_ne (by omega), vv_iu_ne (by omega), vv_iu_ne (by omega)]
        exact this
    have z1 := RR_up H (k := 157) (j := n) rfl (bd_in rfl g2.1 (by omega)) w1
    have z2 := RR_up z1 (k := 158) (j := n) rfl (bd_in rfl g3.1 g3.2) w2
    have z3 := RR_up z2 (k := 159) (j := n) rfl (bd_in rfl g4.1 g4.2) w3
    have z4 := RR_up z3 (k := 160) (j := n) rfl (bd_in rfl (by omega) (by omega)) w4
    have z5 := RR_up z4 (k := 161) (j := n) rfl (bd_in rfl (by decide) (by decide)) w5
    have z6 := RR_up z5 (k := 162) (j := n) rfl (bd_in rfl (by decide) (by decide)) w6
    have z7 := RR_up z6 (k := 156) (j := 0) rfl (bd_in rfl (by omega) (by omega)) w7
    refine ⟨_, _, _, rfl, ?_, z7⟩
    rw [nI_1, nI_pred]
