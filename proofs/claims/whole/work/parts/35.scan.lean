theorem tell_two {c r : vv_H} (H : RR c r) {n : Nat} (hn : n < 60) (en : c.1 16 0 = nI n) {b w v f : Int32} (g1 : 0 ≤ b.toInt ∧ b.toInt ≤ 11) (g2 : 0 ≤ w.toInt ∧ w.toInt ≤ 2) (g3 : 0 ≤ v.toInt ∧ v.toInt ≤ 250) (g4 : 0 ≤ f.toInt ∧ f.toInt ≤ 9999) : ∃ o c' r', ff_X2_add c b w v f (c.1 0 0) = some (o, c') ∧ ff_X12_tell r b w v f = some r' ∧ RR c' r' ∧ c'.1 16 0 = nI (n + 1) ∧ (∀ k, ¬ (16 ≤ k ∧ k ≤ 21) → c'.1 k = c.1 k) := by
  have ht := H.b (k := 0) (j := 0) rfl
  have hs : (nI n + 1).toInt = n + 1 := by rw [nI_1, nI_toInt (by omega)]; omega
  unfold ff_X2_add ff_X12_tell
  rw [rel_s16_0 H.1, en, if_pos (show nI n < 60 from nI_lt hn (by decide))]
  simp (disch := omega) only [en, vv_let, ck_lit, nI_clamp, vv_iu_ne, vv_iu_nj, vv_iu_eq, rel_s16_0 H.1, rel_s0_0 H.1]
  have w1 := wfp_ne (k := 17) (j := n) (v := b) H.2.2.1 (by omega)
  have w2 := wfp_ne (k := 18) (j := n) (v := w) w1 (by omega)
  have w3 := wfp_ne (k := 19) (j := n) (v := v) w2 (by omega)
  have w4 := wfp_ne (k := 20) (j := n) (v := f) w3 (by omega)
  have w5 := wfp_ne (k := 21) (j := n) (v := c.1 0 0) w4 (by omega)
  have w6 := wfp_ne (k := 16) (j := 0) (v := nI n + 1) w5 (by omega)
  have z1 := RR_up H (k := 17) (j := n) rfl (bd_in rfl g1.1 (by omega)) w1
  have z2 := RR_up z1 (k := 18) (j := n) rfl (bd_in rfl g2.1 g2.2) w2
  have z3 := RR_up z2 (k := 19) (j := n) rfl (bd_in rfl g3.1 g3.2) w3
  have z4 := RR_up z3 (k := 20) (j := n) rfl (bd_in rfl g4.1 g4.2) w4
  have z5 := RR_up z4 (k := 21) (j := n) rfl (bd_in rfl ht.1 ht.2) w5
  have z6 := RR_up z5 (k := 16) (j := 0) rfl (bd_in rfl (by omega) (by omega)) w6
  exact ⟨_, _, _, rfl, rfl, z6, by rw [vv_iu_eq, nI_1], fun k hk => by simp (disch := omega) only [vv_iu_ne]⟩
theorem add64 (x y : Int32) : (x.toInt64 + y.toInt64).toInt = x.toInt + y.toInt := by
  rw [Int64.toInt_add, Int32.toInt_toInt64, Int32.toInt_toInt64]
  have h1 := x.toInt_lt
  have h2 := x.le_toInt
  have h3 := y.toInt_lt
  have h4 := y.le_toInt
  have e1 : (2 : Int) ^ 31 = 2147483648 := rfl
  have e2 : (2 : Nat) ^ 64 = 18446744073709551616 := rfl
  rw [e1] at h1 h2 h3 h4
  rw [e2]
  generalize x.toInt = a at *
  generalize y.toInt = b at *
  exact Int.bmod_eq_of_le (by omega) (by omega)
theorem m100 {i : Nat} (hi : i < 36) : ¬ (-100 : Int32) - nI i = 0 := (by decide : ∀ i, i < 36 → ¬ (-100 : Int32) - nI i = 0) i hi
theorem scan_A {c r : vv_H} (H : RR c r) {a B Ln : Nat} (ha : a < 4) {f : Int32} (hB : B < 13) (eB : c.1 1 0 = nI B) (hLn : Ln < 61) (eL : c.1 178 a = nI Ln) (h1 : c.1 178 a = r.1 54 a) (h7 : ∀ j, j < 60 → c.1 (180 + a) j = r.1 55 (60 * a + j)) : ∃ x y, vv_lp (fun (zs : Int32) => ff_X11_scan_B60 (nI a) f (nI (3 * B)) c zs) vv_F (0 : Int32) = some x ∧ vv_lp (fun (zs : Int32) => ff_X12_scan_B58 (nI a) f r zs) vv_F (0 : Int32) = some y ∧ ((x = .inl () ∧ y = .inl () ∧ (B ≠ 0 → 0 ≤ f.toInt ∧ f.toInt < Ln) ∧ ∀ j, j < 3 * B → f.toInt + j < Ln ∧ 0 ≤ (c.1 (180 + a) (f.toInt.toNat + j)).toInt ∧ (c.1 (180 + a) (f.toInt.toNat + j)).toInt ≤ 250) ∨ (x = .inr (-12) ∧ y = .inr (.inl ())) ∨ (∃ i : Int32, x = .inr (-100 - i) ∧ y = .inr (.inr i))) := by
  have hLI : (nI Ln).toInt = Ln := nI_toInt (by omega)
  have k3 : (3 : Int32) * nI B = nI (3 * B) := by rw [show (3 : Int32) = nI 3 from rfl, pk_mul]
  have hA := lp_two (f := fun (zs : Int32) => ff_X11_scan_B60 (nI a) f (nI (3 * B)) c zs) (g := fun (zs : Int32) => ff_X12_scan_B58 (nI a) f r zs) (fun i s t => s = nI i ∧ t = nI i ∧ (i ≠ 0 → 0 ≤ f.toInt ∧ f.toInt < Ln) ∧ ∀ j, j < i → f.toInt + j < Ln ∧ 0 ≤ (c.1 (180 + a) (f.toInt.toNat + j)).toInt ∧ (c.1 (180 + a) (f.toInt.toNat + j)).toInt ≤ 250) (fun x y => (x = .inl () ∧ y = .inl () ∧ (B ≠ 0 → 0 ≤ f.toInt ∧ f.toInt < Ln) ∧ ∀ j, j < 3 * B → f.toInt + j < Ln ∧ 0 ≤ (c.1 (180 + a) (f.toInt.toNat + j)).toInt ∧ (c.1 (180 + a) (f.toInt.toNat + j)).toInt ≤ 250) ∨ (x = .inr (-12) ∧ y = .inr (.inl ())) ∨ (∃ i : Int32, x = .inr (-100 - i) ∧ y = .inr (.inr i))) (3 * B) ?hs ?he vv_F 0 (0 : Int32) (0 : Int32) ⟨rfl, rfl, fun h => absurd rfl h, fun j hj => absurd hj (Nat.not_lt_zero j)⟩ (Nat.zero_le _) (vv_F_lt (by omega))
  case hs =>
    rintro i s t hi ⟨rfl, rfl, hF, hA⟩
    have hiI : (nI i).toInt = i := nI_toInt (by omega)
    have x1 : (f.toInt64 + (nI i).toInt64).toInt = f.toInt + i := by
      rw [add64, hiI]
    have x2 : 0 ≤ f.toInt ∧ f.toInt < 61 → (f + nI i).toInt = f.toInt + i := fun q => by rw [toInt_add_s (by omega) (by omega), hiI]
    simp (disch := omega) only [ff_X11_scan_B60, ff_X12_scan_B58, ff_X11_refusalOfCell, ff_X7_hasCell, rel_s1_0 H.1, eB, k3, if_neg (nI_nle' hi (by omega)), ck_lit, nI_clamp, m_in, Int32.toInt_toInt64, x1, ← h1, eL, toInt_pred (show 0 ≤ (nI Ln).toInt by omega) (show (nI Ln).toInt ≤ 60 by omega) (by decide), hLI, Option.bind_some, wi_ite, show (0 : Int64).toInt = 0 from rfl, show (250 : Int64).toInt = 250 from rfl, m_isMeasure]
    by_cases q : 0 ≤ f.toInt + i ∧ f.toInt + i ≤ (Ln : Int) - 1
    case neg =>
      right
      rw [if_neg q]
      have hz : (if f + nI i < 0 then some (0 : Int32) else if nI Ln ≤ f + nI i then some 0 else some 1) = some 0 := by
        by_cases i0 : i = 0
        · subst i0
          rw [show f + nI 0 = f from Int32.add_zero f]
          by_cases z : f < 0
          · rw [if_pos z]
          · rw [lt0] at z
            rw [if_neg (by rw [lt0]; exact z), if_pos (by rw [Int32.le_iff_toInt_le, hLI]; omega)]
        · have := hF i0
          have := x2 (by omega)
          rw [if_neg (by rw [lt0]; omega), if_pos (by rw [Int32.le_iff_toInt_le, hLI]; omega)]
      rw [hz]
      simp only [Option.bind_some, if_true, if_neg (show ¬ (-12 : Int32) = 0 by decide)]
      exact ⟨_, _, rfl, rfl, Or.inr (Or.inl ⟨rfl, rfl⟩)⟩
    have hf0 : 0 ≤ f.toInt ∧ f.toInt < Ln := by
      by_cases i0 : i = 0
      · subst i0
        omega
      · exact hF i0
    have x3 := x2 (by omega)
    obtain ⟨F, hF60, eF⟩ := to_nI hf0.1 (show _ < ((60 : Nat) : Int) by omega) (by decide)
    have hFI : (nI F).toInt = F := nI_toInt (by omega)
    rw [if_pos q, if_neg (show ¬ f + nI i < 0 by rw [lt0]; omega), if_neg (show ¬ nI Ln ≤ f + nI i by rw [Int32.le_iff_toInt_le, hLI]; omega)]
    subst eF
    rw [hFI] at q hf0 hA hF
    simp (disch := omega) only [Option.bind_some, if_neg (show ¬ (1 : Int32) = 0 by decide), nI_add, k60, ck_lit, nI_clamp]
    have e7 := h7 (F + i) (by omega)
    rw [show 60 * a + F + i = 60 * a + (F + i) by omega, ← e7]
    by_cases q2 : 0 ≤ (c.1 (180 + a) (F + i)).toInt ∧ (c.1 (180 + a) (F + i)).toInt ≤ 250
    · left
      rw [if_pos q2, if_pos q2]
      simp only [Option.bind_some, if_true, vv_let, nI_1]
      refine ⟨_, _, rfl, rfl, rfl, rfl, fun _ => by rw [hFI]; omega, ?_⟩
      rw [hFI]
      refine all_succ.mpr ⟨hA, by omega, ?_⟩
      rw [show ((F : Int)).toNat = F from rfl]
      exact q2
    · right
      rw [if_neg q2, if_neg q2]
      obtain ⟨z, ez⟩ : ∃ z, z = (-100 : Int32) - nI i := ⟨_, rfl⟩
      have hne : ¬ z = 0 := by rw [ez]; exact m100 (by omega)
      rw [← ez]
      rw [Option.bind_some, if_neg hne]
      exact ⟨_, _, rfl, rfl, Or.inr (Or.inr ⟨nI i, by rw [ez], rfl⟩)⟩
  case he =>
    rintro s t ⟨rfl, rfl, hF, hA⟩
    simp only [ff_X11_scan_B60, ff_X12_scan_B58, rel_s1_0 H.1, eB, k3, if_pos (nI_le (Nat.le_refl (3 * B)) (show 3 * B < 2 ^ 31 by omega))]
    exact ⟨_, _, rfl, rfl, Or.inl ⟨rfl, rfl, fun h => hF (by omega), hA⟩⟩
  exact hA
theorem scan_B {c r : vv_H} (H : RR c r) {a B Ln M : Nat} (ha : a < 4) {f : Int32} (hB : B < 13) (eB : c.1 1 0 = nI B) (hLn : Ln < 61) (h2 : 0 ≤ (c.1 178 a).toInt) (eM : c.1 16 0 = nI M) (hMB : M + 3 * B ≤ 60) (hF : B ≠ 0 → 0 ≤ f.toInt ∧ f.toInt < Ln) (hA : ∀ j, j < 3 * B → f.toInt + j < Ln ∧ 0 ≤ (c.1 (180 + a) (f.toInt.toNat + j)).toInt ∧ (c.1 (180 + a) (f.toInt.toNat + j)).toInt ≤ 250) : ∃ x y, vv_lp (fun (zs : Int32 × vv_H) => ff_X11_scan_B112 (nI a) f (nI (3 * B)) zs.1 zs.2) vv_F ((0 : Int32), c) = some x ∧ vv_lp (fun (zs : Int32 × vv_H) => ff_X12_scan_B153 (nI a) f zs.1 zs.2) vv_F ((0 : Int32), r) = some y ∧ RR x y := by
  have k3 : (3 : Int32) * nI B = nI (3 * B) := by rw [show (3 : Int32) = nI 3 from rfl, pk_mul]
  have hB2 := lp_two (f := fun (zs : Int32 × vv_H) => ff_X11_scan_B112 (nI a) f (nI (3 * B)) zs.1 zs.2) (g := fun (zs : Int32 × vv_H) => ff_X12_scan_B153 (nI a) f zs.1 zs.2) (fun i s t => ∃ c' r', s = (nI i, c') ∧ t = (nI i, r') ∧ RR c' r' ∧ c'.1 16 0 = nI (M + i) ∧ ∀ k, ¬ (16 ≤ k ∧ k ≤ 21) → c'.1 k = c.1 k) (fun (x y : vv_H) => RR x y) (3 * B) ?hs2 ?he2 vv_F 0 ((0 : Int32), c) ((0 : Int32), r) ⟨c, r, rfl, rfl, H, eM, fun _ _ => rfl⟩ (Nat.zero_le _) (vv_F_lt (by omega))
  case hs2 =>
    rintro i s t hi ⟨c', r', rfl, rfl, H', e16, ek⟩
    left
    obtain ⟨f0, f1⟩ := hF (by omega)
    obtain ⟨F, hF60, eF⟩ := to_nI f0 (show _ < ((60 : Nat) : Int) by omega) (by decide)
    subst eF
    have hFI : (nI F).toInt = F := nI_toInt (by omega)
    obtain ⟨p1, p2⟩ := hA i hi
    rw [hFI] at p1 p2
    have p3 : 0 ≤ (c'.1 (180 + a) (F + i)).toInt ∧ (c'.1 (180 + a) (F + i)).toInt ≤ 250 := by
      rw [ek _ (by omega)]
      exact p2
    have e7 : r'.1 55 (60 * a + (F + i)) = c'.1 (180 + a) (F + i) := by
      rcases H'.2.2.2.2.2.1 a ha with ⟨y1, -⟩ | ⟨y1, y2, y3, y4, y5, y6, y7⟩
      · rw [ek 178 (by omega)] at y1
        rw [y1] at h2
        exact absurd h2 (by decide)
      · exact (y7 (F + i) (by omega)).symm
    have hd1 : nI i / 3 = nI (i / 3) := by rw [show (3 : Int32) = nI 3 from rfl, pk_div (by omega) (by decide) (by decide)]
    have hd2 : nI i - nI (i / 3) * 3 = nI (i % 3) := by rw [← hd1, show (3 : Int32) = nI 3 from rfl, pk_rem (by omega) (by decide) (by decide)]
    have hd' := H'.b (k := 0) (j := 0) rfl
    obtain ⟨o, c2, r2, t1, t2, t3, t4, t5⟩ := tell_two H' (n := M + i) (by omega) e16 (b := nI (i / 3)) (w := nI (i % 3)) (v := c'.1 (180 + a) (F + i)) (f := c'.1 0 0) (by rw [nI_toInt (by omega)]; omega) (by rw [nI_toInt (by omega)]; omega) p3 hd'
    have eB' : c'.1 1 0 = nI B := by rw [ek 1 (by omega), eB]
    simp (disch := omega) only [ff_X11_scan_B112, ff_X12_scan_B153, rel_s1_0 H'.1, eB', k3, if_neg (nI_nle' hi (by omega)), vv_nz, if_neg (show ¬ (3 : Int32) = 0 by decide), ck_lit, nI_add, k60, nI_clamp, hd2, hd1, show 60 * a + F + i = 60 * a + (F + i) from by omega, e7, rel_s0_0 H'.1, t1, t2, Option.bind_some, vv_let, nI_1]
    exact ⟨_, _, rfl, rfl, _, _, rfl, rfl, t3, t4, fun k hk => by rw [t5 k hk, ek k hk]⟩
  case he2 =>
    rintro s t ⟨c', r', rfl, rfl, H', e16, ek⟩
    have eB' : c'.1 1 0 = nI B := by rw [ek 1 (by omega), eB]
    simp only [ff_X11_scan_B112, ff_X12_scan_B153, rel_s1_0 H'.1, eB', k3, if_pos (nI_le (Nat.le_refl (3 * B)) (show 3 * B < 2 ^ 31 by omega))]
    exact ⟨_, _, rfl, rfl, H'⟩
  exact hB2
theorem e_scan {c r : vv_H} (H : RR c r) (k l f : Int32) : ∃ o c' r', ff_X11_scan c k l f = some (o, c') ∧ ff_X12_scan r k l f = some (o, r') ∧ RR c' r' := by
  simp only [ff_X11_scan, ff_X12_scan, m_isSheet, m_isLane, m_in, Option.bind_some, wi_ite, Int32.toInt_toInt64, show (0 : Int64).toInt = 0 from rfl, show (3 : Int64).toInt = 3 from rfl, show (2 : Int64).toInt = 2 from rfl]
  by_cases g1 : 0 ≤ k.toInt ∧ k.toInt ≤ 3
  case neg =>
    rw [if_neg g1, if_neg g1]
    exact ⟨_, _, _, rfl, rfl, H⟩
  by_cases g2 : 0 ≤ l.toInt ∧ l.toInt ≤ 2
  case neg =>
    rw [if_pos g1, if_pos g1, if_neg g2, if_neg g2]
    exact ⟨_, _, _, rfl, rfl, H⟩
  rw [if_pos g1, if_pos g1, if_pos g2, if_pos g2]
  obtain ⟨a, ha, rfl⟩ := to_nI g1.1 (show _ < ((4 : Nat) : Int) by omega) (by decide)
  simp (disch := omega) only [ff_X7_isNothing, ck_lit, nI_clamp]
  rcases H.2.2.2.2.2.1 a ha with ⟨h1, h2⟩ | ⟨h1, h2, h3, h4, h5, h6, h7⟩
  · have h8 : ¬ (0 : Int32) ≤ c.1 178 a := by rw [h1]; decide
    have h9 : ¬ r.1 53 a = l := fun e => by rw [h2] at e; rw [← e] at g2; exact absurd g2.1 (by decide)
    simp only [if_neg h8, if_neg h9, if_pos h2, Option.bind_some, if_neg (show ¬ (1 : Int32) = 0 by decide)]
    exact ⟨_, _, _, rfl, rfl, H⟩
  have h8 : (0 : Int32) ≤ c.1 178 a := by rw [Int32.le_iff_toInt_le]; exact h2
  have h9 : ¬ r.1 53 a = -4 := fun e => by rw [h4, e] at h5; exact absurd h5 (by decide)
  simp only [if_pos h8, if_neg h9, Option.bind_some, if_true, h4]
  by_cases g3 : r.1 53 a = l
  case neg =>
    simp only [if_neg g3]
    exact ⟨_, _, _, rfl, rfl, H⟩
  simp only [if_pos g3]
  have hb := H.b (k := 1) (j := 0) rfl
  have hm := H.b (k := 16) (j := 0) rfl
  have hd := H.b (k := 0) (j := 0) rfl
  obtain ⟨B, hB, eB⟩ := to_nI hb.1 (show _ < ((13 : Nat) : Int) by omega) (by decide)
  obtain ⟨M, hM, eM⟩ := to_nI hm.1 (show _ < ((61 : Nat) : Int) by omega) (by decide)
  obtain ⟨Ln, hLn, eL⟩ := to_nI h2 (show _ < ((61 : Nat) : Int) by omega) (by decide)
  have hLI : (nI Ln).toInt = Ln := nI_toInt (by omega)
  have k3 : (3 : Int32) * nI B = nI (3 * B) := by rw [show (3 : Int32) = nI 3 from rfl, pk_mul]
  have hA := scan_A H ha (f := f) hB eB hLn eL h1 h7
  obtain ⟨x, y, e1, e2, hxy⟩ := hA
  simp only [vv_let, eB, k3, e1, e2, Option.bind_some, rel_s1_0 H.1, rel_s16_0 H.1, eM, nI_add, show (60 : Int32) = nI 60 from rfl]
  rcases hxy with ⟨rfl, rfl, hF, hA⟩ | ⟨rfl, rfl⟩ | ⟨i, rfl, rfl⟩
  case inr.inl => exact ⟨_, _, _, rfl, rfl, H⟩
  case inr.inr => exact ⟨_, _, _, rfl, rfl, H⟩
  simp only [Sum.elim_inl]
  by_cases g5 : nI (M + 3 * B) ≤ nI 60
  case neg =>
    rw [if_neg g5, if_neg g5]
    exact ⟨_, _, _, rfl, rfl, H⟩
  rw [if_pos g5, if_pos g5]
  have hMB : M + 3 * B ≤ 60 := (nI_leI (by omega) (by omega)).mp g5
  have hB2 := scan_B H ha hB eB hLn h2 eM hMB hF hA
  obtain ⟨x, y, e3, e4, H'⟩ := hB2
  simp only [e3, e4, Option.bind_some, rel_s16_0 H'.1]
  exact ⟨_, _, _, rfl, rfl, H'⟩
