theorem and255 (w : Int32) : (w &&& 255).toInt8 = w.toInt8 := by
  apply Int8.toBitVec_inj.mp
  simp only [Int32.toBitVec_toInt8, Int32.toBitVec_and]
  ext i hi
  have : (255 : Int32).toBitVec.getLsbD i = true := by
    have : ∀ i, i < 8 → (255 : Int32).toBitVec.getLsbD i = true := by decide
    exact this i hi
  simp [BitVec.getElem_setWidth, BitVec.getLsbD_and, this]
  intro _
  exact (by decide : ∀ i (h : i < 8), (255#8)[i] = true) i hi
theorem and65535 (w : Int32) : (w &&& 65535).toInt16 = w.toInt16 := by
  apply Int16.toBitVec_inj.mp
  simp only [Int32.toBitVec_toInt16, Int32.toBitVec_and]
  ext i hi
  have : (65535 : Int32).toBitVec.getLsbD i = true := by
    have : ∀ i, i < 16 → (65535 : Int32).toBitVec.getLsbD i = true := by decide
    exact this i hi
  simp [BitVec.getElem_setWidth, BitVec.getLsbD_and, this]
  intro _
  exact (by decide : ∀ i (h : i < 16), (65535#16)[i] = true) i hi
theorem sh24_a : ∀ b, b < 256 → (nI b <<< ((24 : Int32) &&& 31)) >>> ((24 : Int32) &&& 31) = (nI b).toInt8.toInt32 := by decide +kernel
theorem sh24 (v : Int32) : (v <<< ((24 : Int32) &&& 31)) >>> ((24 : Int32) &&& 31) = v.toInt8.toInt32 := by
  have e0 : v &&& 255 = nI (v.toBitVec.toNat % 2 ^ 8) := pk_and v 8 (by decide)
  have hb : v.toBitVec.toNat % 2 ^ 8 < 256 := Nat.mod_lt _ (by decide)
  have e1 : v <<< ((24 : Int32) &&& 31) = nI (v.toBitVec.toNat % 2 ^ 8) <<< ((24 : Int32) &&& 31) := by
    apply Int32.toBitVec_inj.mp
    apply BitVec.eq_of_toNat_eq
    rw [pk_shl v ((24 : Int32) &&& 31) 24 (by decide), pk_shl (nI (v.toBitVec.toNat % 2 ^ 8)) ((24 : Int32) &&& 31) 24 (by decide), pk_tn (Nat.lt_trans hb (by decide))]
    rw [show (2 : Nat) ^ 32 = 2 ^ 8 * 2 ^ 24 from rfl, Nat.mul_mod_mul_right, Nat.mul_mod_mul_right, Nat.mod_mod]
  rw [e1, sh24_a _ hb, ← e0, and255]
theorem sh16_g (x : BitVec 32) : (x <<< 16).sshiftRight 16 = (x.setWidth 16).signExtend 32 := by
  apply BitVec.eq_of_getLsbD_eq
  intro i hi
  simp only [BitVec.getLsbD_sshiftRight, BitVec.getLsbD_signExtend, BitVec.getLsbD_shiftLeft, BitVec.getLsbD_setWidth, BitVec.msb_eq_getLsbD_last]
  by_cases q : i < 16
  · have h1 : 16 + i < 32 := by omega
    have h2 : ¬ 16 + i < 16 := by omega
    have h3 : ¬ 32 ≤ i := by omega
    have h4 : 16 + i - 16 = i := by omega
    simp [q, h1, h2, h3, h4, hi]
  · have h1 : ¬ 16 + i < 32 := by omega
    have h3 : ¬ 32 ≤ i := by omega
    simp [q, h1, h3, hi]
theorem sh16_a (b : Nat) (_h : b < 65536) : (nI b <<< ((16 : Int32) &&& 31)) >>> ((16 : Int32) &&& 31) = (nI b).toInt16.toInt32 := by
  apply Int32.toBitVec_inj.mp
  have e := sh16_g (nI b).toBitVec
  have a1 : (nI b <<< ((16 : Int32) &&& 31)).toBitVec = (nI b).toBitVec <<< 16 := by
    rw [Int32.toBitVec_shiftLeft]
    rfl
  have a2 : ∀ v : Int32, (v >>> ((16 : Int32) &&& 31)).toBitVec = v.toBitVec.sshiftRight 16 := by
    intro v
    rw [Int32.toBitVec_shiftRight]
    rfl
  have a3 : (nI b).toInt16.toInt32.toBitVec = ((nI b).toBitVec.setWidth 16).signExtend 32 := by
    rw [Int16.toBitVec_toInt32, Int32.toBitVec_toInt16]
    apply congrArg
    exact BitVec.signExtend_eq_setWidth_of_le _ (by decide)
  rw [a2, a1, a3, e]
theorem sh16 (v : Int32) : (v <<< ((16 : Int32) &&& 31)) >>> ((16 : Int32) &&& 31) = v.toInt16.toInt32 := by
  have e0 : v &&& 65535 = nI (v.toBitVec.toNat % 2 ^ 16) := pk_and v 16 (by decide)
  have hb : v.toBitVec.toNat % 2 ^ 16 < 65536 := Nat.mod_lt _ (by decide)
  have e1 : v <<< ((16 : Int32) &&& 31) = nI (v.toBitVec.toNat % 2 ^ 16) <<< ((16 : Int32) &&& 31) := by
    apply Int32.toBitVec_inj.mp
    apply BitVec.eq_of_toNat_eq
    rw [pk_shl v ((16 : Int32) &&& 31) 16 (by decide), pk_shl (nI (v.toBitVec.toNat % 2 ^ 16)) ((16 : Int32) &&& 31) 16 (by decide), pk_tn (Nat.lt_trans hb (by decide))]
    rw [show (2 : Nat) ^ 32 = 2 ^ 16 * 2 ^ 16 from rfl, Nat.mul_mod_mul_right, Nat.mul_mod_mul_right, Nat.mod_mod]
  rw [e1, sh16_a _ hb, ← e0, and65535]
theorem b255 (w : Int32) : 0 ≤ (w &&& 255).toInt ∧ (w &&& 255).toInt ≤ 255 := by
  obtain ⟨j, hj, e⟩ := pk_andE w (m := 255) 8 (by decide)
  rw [e, nI_toInt (by omega)]
  omega
theorem rrule_fr {c c' r r' : vv_H} (h : rrule c r) (hb : c'.2.2 = c.2.2) (h1 : ∀ k j, 56 ≤ k ∧ k < 146 → c'.1 k j = c.1 k j) (h2 : ∀ k j, 16 ≤ k ∧ k ≤ 21 → r'.1 k j = r.1 k j) (h3 : r'.1 0 27 = r.1 0 27) : rrule c' r' := by
  obtain ⟨b1, b2, b3⟩ := h
  have hbd := rid_bd (c.2.2 0)
  have hq : ∀ a i, vv_rid (c.2.2 0) ≤ a → a < vv_rid (c.2.2 0) + 45 → c'.1 a i = c.1 a i := fun a i q1 q2 => h1 a i (by omega)
  refine ⟨by rw [hb]; exact b1, ?_, ?_⟩
  · rw [hb, hq _ _ (Nat.le_refl _) (by omega), h3]
    exact b2
  · intro i hi
    rw [hb] at hi ⊢
    rw [hq _ _ (Nat.le_refl _) (by omega)] at hi
    have hi12 : i < 12 := by have := b2.2.2; omega
    have := b3 i hi
    unfold rline at this ⊢
    rw [hq _ i (by omega) (by omega), hq _ i (by omega) (by omega), hq _ i (by omega) (by omega), hq _ i (by omega) (by omega), hq _ i (by omega) (by omega), h2 16 i (by omega), h2 17 i (by omega), h2 18 i (by omega), h2 19 i (by omega), h2 20 i (by omega)]
    obtain ⟨g1, g2, g3, g4, g5, g6⟩ := this
    refine ⟨g1, g2, g3, g4, g5, fun t ht => ?_⟩
    rw [hq (vv_rid (c.2.2 0) + 7 + i) t (by omega) (by omega), hq (vv_rid (c.2.2 0) + 20 + i) t (by omega) (by omega), hq (vv_rid (c.2.2 0) + 33 + i) t (by omega) (by omega), h2 21 _ (by omega), h2 21 _ (by omega), h2 21 _ (by omega)]
    exact g6 t ht
theorem rsheet_fr {c c' r r' : vv_H} (h : rsheet c r) (h1 : ∀ k j, 177 ≤ k ∧ k < 184 → c'.1 k j = c.1 k j) (h2 : ∀ k j, 53 ≤ k ∧ k ≤ 55 → r'.1 k j = r.1 k j) : rsheet c' r' := by
  intro k hk
  rw [h1 178 k (by omega), h1 177 k (by omega), h2 53 k (by omega), h2 54 k (by omega)]
  rcases h k hk with h | ⟨g1, g2, g3, g4, g5, g6, g7⟩
  · exact Or.inl h
  · refine Or.inr ⟨g1, g2, g3, g4, g5, g6, fun j hj => ?_⟩
    rw [h1 _ j (by omega), h2 55 _ (by omega)]
    exact g7 j hj
theorem rcon_fr {r r' : vv_H} (h : rcon r) (h2 : ∀ k j, k = 14 ∨ k = 15 → r'.1 k j = r.1 k j) : rcon r' :=
  ⟨fun j hj => by rw [h2 14 j (by omega)]; exact h.1 j hj, fun j hj => by rw [h2 15 j (by omega)]; exact h.2 j hj⟩
theorem RR_tape {c r : vv_H} (H : RR c r) {n : Nat} {x y : Int32} (h1 : x = y.toInt8.toInt32) (h2 : 0 ≤ y.toInt ∧ y.toInt ≤ 255) : RR (vv_iu c 51 n x) (vv_iu r 13 n y) := by
  obtain ⟨a1, a2, a3, a4, a5, a6, a7⟩ := H
  have n1 : ∀ a i, a ≠ 51 → (vv_iu c 51 n x).1 a i = c.1 a i := fun a i q => by rw [vv_iu_ne q]
  have n2 : ∀ a i, a ≠ 13 → (vv_iu r 13 n y).1 a i = r.1 a i := fun a i q => by rw [vv_iu_ne q]
  refine ⟨rel_r (rel_l a1 rfl) rfl, wf0_no a2 rfl, wfp_ne a3 (by omega), fun j hj => ?_, rrule_fr a5 rfl (fun k j q => n1 k j (by omega)) (fun k j q => n2 k j (by omega)) (n2 0 27 (by omega)), rsheet_fr a6 (fun k j q => n1 k j (by omega)) (fun k j q => n2 k j (by omega)), rcon_fr a7 (fun k j q => n2 k j (by omega))⟩
  rw [vv_iu_e, vv_iu_e]
  by_cases e : j = n
  · rw [if_pos ⟨rfl, e⟩, if_pos ⟨rfl, e⟩]
    exact ⟨h1, h2⟩
  · rw [if_neg (fun q => e q.2), if_neg (fun q => e q.2)]
    exact a4 j hj
theorem e_feed {c r : vv_H} (H : RR c r) (v : Int64) : ∃ o c' r', ff_X11_feed c v = some (o, c') ∧ ff_X12_feed r v = some (o, r') ∧ RR c' r' := by
  have hb := H.b (k := 50) (j := 0) rfl
  simp only [ff_X11_feed, ff_X10_add, ff_X12_feed, rel_s50_0 H.1]
  obtain ⟨T, hT, eT⟩ := to_nI hb.1 (show _ < ((241 : Nat) : Int) by omega) (by decide)
  have h8 : c.1 50 0 + 8 = nI (T + 8) := by rw [eT, show (8 : Int32) = nI 8 from rfl, nI_add]
  rw [h8, show (240 : Int32) = nI 240 from rfl]
  by_cases g : nI (T + 8) ≤ nI 240
  case neg =>
    rw [if_neg g, if_neg g]
    exact ⟨_, _, _, rfl, rfl, H⟩
  rw [if_pos g, if_pos g]
  have hT8 : T + 8 ≤ 240 := (nI_leI (by omega) (by omega)).mp g
  have hL := lp_two (f := fun (zs : Int32 × vv_H) => ff_X10_add_B19 v zs.1 zs.2) (g := fun (zs : Int32 × vv_H) => ff_X12_feed_B19 v zs.1 zs.2) (fun i s t => ∃ c' r', s = (56 - nI (8 * i), c') ∧ t = (56 - nI (8 * i), r') ∧ RR c' r' ∧ c'.1 50 0 = nI (T + i)) (fun (a b : vv_H) => RR a b) 8 ?hs ?he vv_F 0 ((56 : Int32), c) ((56 : Int32), r) ⟨c, r, rfl, rfl, H, eT⟩ (by decide) (vv_F_lt (by decide))
  case hs =>
    rintro i s t hi ⟨c', r', rfl, rfl, H', e'⟩
    left
    have p1 := (by decide : ∀ i, i < 8 → ¬ (56 : Int32) - nI (8 * i) < 0) i hi
    have p2 := (by decide : ∀ i, i < 8 → (56 : Int32) - nI (8 * i) + -8 = 56 - nI (8 * (i + 1))) i hi
    have er : r'.1 0 17 = nI (T + i) := by rw [rel_s50_0 H'.1, e']
    simp (disch := omega) only [ff_X10_add_B19, ff_X12_feed_B19, if_neg p1, p2, e', er, ck_lit, nI_clamp, vv_let, vv_iu_ne, vp_nar_byte, Int8.toInt8_toInt32]
    have z1 := RR_tape H' (n := T + i) (x := ((v >>> ((56 - nI (8 * i)).toInt64 &&& 63)).toInt32).toInt8.toInt32) (y := (v >>> ((56 - nI (8 * i)).toInt64 &&& 63)).toInt32 &&& 255) (by rw [and255]) (b255 _)
    have hs : (nI (T + i) + 1).toInt = T + i + 1 := by rw [nI_1, nI_toInt (by omega)]; omega
    exact ⟨_, _, rfl, rfl, _, _, rfl, rfl, RR_up z1 (k := 50) (j := 0) rfl (bd_in rfl (by omega) (by omega)) (wfp_ne z1.2.2.1 (by omega)), by rw [vv_iu_eq, nI_1]; rfl⟩
  case he =>
    rintro s t ⟨c', r', rfl, rfl, H', e'⟩
    simp only [ff_X10_add_B19, ff_X12_feed_B19, if_pos (show (56 : Int32) - nI (8 * 8) < 0 by decide)]
    exact ⟨_, _, rfl, rfl, H'⟩
  obtain ⟨a, b, e1, e2, H'⟩ := hL
  simp only [e1, e2, Option.bind_some, rel_s50_0 H'.1]
  exact ⟨_, _, _, rfl, rfl, H'⟩
