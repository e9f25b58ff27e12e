theorem fitted_l {c c' r : vv_H} (H : RR c r) (H' : RR c' r) {B : Nat} (hB : B ≤ 12) (eB : c'.1 1 0 = nI B) {s : Nat} (hs : s < 12) : ff_X11_fittedBy c' (nI s) = some (nI (fbs c B s)) := fitted_c H H' hB eB hs
theorem layOut_c {c r : vv_H} (H : RR c r) {P B N : Nat} (hP : P < 37) (eP : c.1 156 0 = nI P) (hB : B < 13) (eB : c.1 1 0 = nI B) (hN : N < 13) (eN : c.1 22 0 = nI N) (kind : Int32) : ∃ g, ff_X11_layOut c kind = some g ∧ lay c g P B kind N 0 ∧ RR g r := by
  have szlt : ∀ x, x < P → szo c x < 12 ∧ c.1 157 x = nI (szo c x) := fun x hx => by
    have h1 := H.b (k := 157) (j := x) rfl
    obtain ⟨m, hm, e⟩ := to_nI (n := 12) h1.1 (by omega) (by decide)
    have : szo c x = m := by
      unfold szo
      rw [e, nI_clamp (by omega)]
    rw [this]
    exact ⟨hm, e⟩
  have shlt : ∀ x, ∃ m, m < 100 ∧ c.1 159 x = nI m := fun x => by
    have h1 := H.b (k := 159) (j := x) rfl
    obtain ⟨m, hm, e⟩ := to_nI (n := 100) h1.1 (by omega) (by decide)
    exact ⟨m, hm, e⟩
  -- clear
  obtain ⟨g1, e1, f1, i1, b1⟩ := fill_l (vv_iu c 170 2 (nI B)) 171 (n := 32) (by decide) 0
  obtain ⟨g2, e2, f2, i2, b2⟩ := fill_l g1 175 (n := 100) (by decide) 0
  have cl : ff_X3_clear c (nI B) = some g2 := by
    have ee : (if (12 : Int32) < nI B then (12 : Int32) else nI B) = nI B := if_neg (nI_nlt (show B ≤ 12 by omega) (by decide))
    unfold ff_X3_clear
    rw [ee, vlE, e1, Option.bind_some, e2, Option.bind_some]
  have L0 : lay c g2 P B kind 0 0 := by
    refine ⟨b2.trans b1, fun k j hk => by rw [i2, i1, vv_iu_ne hk], by rw [i2, i1, vv_iu_eq], fun b x hb => ?_, fun sh x hsh => ?_⟩
    · rw [f2, if_neg (by omega), f1, if_pos ⟨rfl, hb⟩, tb_0]
      exact ⟨fun z => absurd z (by decide), fun z => by omega⟩
    · rw [f2, if_pos ⟨rfl, hsh⟩, tb_0]
      exact ⟨fun z => absurd z (by decide), fun z => by omega⟩
  have hL := lp_count (f := fun (zs : Int32 × vv_H) => ff_X11_layOut_B16 kind zs.1 zs.2) (fun s z => ∃ g, z = (nI s, g) ∧ lay c g P B kind s 0) (fun g => lay c g P B kind N 0) N ?hs ?he vv_F 0 ((0 : Int32), g2) ⟨g2, rfl, L0⟩ (Nat.zero_le _) (vv_F_lt (by omega))
  case hs =>
    rintro s z hs ⟨g, rfl, hl⟩
    left
    have hl' := hl
    obtain ⟨l1, l2, l3, l4, l5⟩ := hl
    have eN' : g.1 22 0 = nI N := by rw [l2 22 0 (by omega), eN]
    have e23 : g.1 23 s = c.1 23 s := l2 23 s (by omega)
    by_cases g0 : c.1 23 s = kind
    · have hI := lp_count (f := fun (zs : Int32 × vv_H) => ff_X11_layOut_B51 kind (nI s) (nI (fbs c B s)) zs.1 zs.2) (fun p z => ∃ g, z = (nI p, g) ∧ lay c g P B kind s p) (fun g => lay c g P B kind s P) P ?hs2 ?he2 vv_F 0 ((0 : Int32), g) ⟨g, rfl, hl'⟩ (Nat.zero_le _) (vv_F_lt (by omega))
      case hs2 =>
        rintro p z hp ⟨g, rfl, l1, l2, l3, l4, l5⟩
        left
        have eP' : g.1 156 0 = nI P := by rw [l2 156 0 (by omega), eP]
        have e157 : g.1 157 p = c.1 157 p := l2 157 p (by omega)
        have e160 : g.1 160 p = c.1 160 p := l2 160 p (by omega)
        have e159 : g.1 159 p = c.1 159 p := l2 159 p (by omega)
        obtain ⟨z1, z2⟩ := szlt p hp
        obtain ⟨sh, sh1, sh2⟩ := shlt p
        have eq : (nI (szo c p) = nI s) ↔ szo c p = s := nI_eq (by omega) (by omega)
        have E : ff_X11_layOut_B51 kind (nI s) (nI (fbs c B s)) (nI p) g = if szo c p = s then (if c.1 160 p < 0 then some (.inl (nI (p + 1), g)) else (ff_X3_offer g (nI p) (nI sh) (nI (fbs c B s))).bind (fun r15 => some (.inl (nI (p + 1), r15)))) else some (.inl (nI (p + 1), g)) := by
          unfold ff_X11_layOut_B51
          rw [eP', if_neg (nI_nle' hp (by omega)), ck_lit (show p < 36 by omega) (by decide), nI_clamp (by omega), e157, z2]
          by_cases d : szo c p = s
          · rw [if_pos (eq.mpr d), if_pos d]
            unfold ff_X4_isStored
            rw [ck_lit (show p < 36 by omega) (by decide), nI_clamp (by omega), e160]
            by_cases d2 : c.1 160 p < 0
            · rw [if_pos d2, if_pos d2, Option.bind_some, if_pos rfl, vlE, nI_1]
            · rw [if_neg d2, if_neg d2, Option.bind_some, if_neg (by decide), ck_lit (show p < 36 by omega) (by decide), e159, sh2, nI_1]
              rfl
          · rw [if_neg (fun z => d (eq.mp z)), if_neg d, vlE, nI_1]
        have hoff : off c P kind p ↔ 0 ≤ (c.1 160 p).toInt ∧ c.1 23 (szo c p) = kind := ⟨fun z => z.2, fun z => ⟨hp, z⟩⟩
        -- when nothing is added
        have stay : (¬ (szo c p = s ∧ off c P kind p)) → lay c g P B kind s (p + 1) := fun nn => by
          refine ⟨l1, l2, l3, fun b x hb => ?_, fun sh x hsh => ?_⟩
          · rw [l4 b x hb]
            refine ⟨fun z => ⟨z.1, z.2.1, z.2.2.1, by omega⟩, fun z => ⟨z.1, z.2.1, z.2.2.1, ?_⟩⟩
            by_cases d : x = p
            · rcases z.2.2.2 with k | k
              · exact Or.inl k
              · exact absurd ⟨by rw [← d]; exact k.1, by rw [← d]; exact z.2.1⟩ nn
            · omega
          · rw [l5 sh x hsh]
            refine ⟨fun z => ⟨z.1, z.2.1, by omega⟩, fun z => ⟨z.1, z.2.1, ?_⟩⟩
            by_cases d : x = p
            · rcases z.2.2 with k | k
              · exact Or.inl k
              · exact absurd ⟨by rw [← d]; exact k.1, by rw [← d]; exact z.1⟩ nn
            · omega
        show ∃ s', ff_X11_layOut_B51 kind (nI s) (nI (fbs c B s)) (nI p) g = some (.inl s') ∧ _
        rw [E]
        by_cases d : szo c p = s
        · rw [if_pos d]
          by_cases d2 : c.1 160 p < 0
          · rw [if_pos d2]
            exact ⟨_, rfl, g, rfl, stay fun z => by
              have := z.2.2.1
              rw [lt0] at d2
              omega⟩
          · rw [if_neg d2]
            have hst : 0 ≤ (c.1 160 p).toInt := by
              rw [lt0] at d2
              omega
            have ho : off c P kind p := hoff.mpr ⟨hst, by rw [d]; exact g0⟩
            obtain ⟨g', o1, o2, o3, o4, o5⟩ := offer2_c (g := g) (B := B) (by omega) l3 (show p < 36 by omega) sh1 (fbs_lt (c := c) (B := B) (s := s) (by omega))
            rw [o1, Option.bind_some]
            refine ⟨_, rfl, g', rfl, o3.trans l1, fun k j hk => by rw [o2]; exact l2 k j hk, by rw [o2]; exact l3, fun b x hb => ?_, fun s2 x hs2 => ?_⟩
            · rw [o4 b x hb, l4 b x hb]
              constructor
              · rintro (z | ⟨k1, k2, k3⟩)
                · exact ⟨z.1, z.2.1, z.2.2.1, by have := z.2.2.2; omega⟩
                · rw [k3]
                  exact ⟨k1, ho, by rw [d]; exact (fbs_dg k1).mp k2, Or.inr ⟨d, Nat.lt_succ_self p⟩⟩
              · rintro ⟨k1, k2, k3, k4⟩
                by_cases e : x = p
                · rw [e, d] at k3
                  exact Or.inr ⟨k1, (fbs_dg k1).mpr k3, e⟩
                · exact Or.inl ⟨k1, k2, k3, by omega⟩
            · rw [o5 s2 x hs2, l5 s2 x hs2]
              constructor
              · rintro (z | ⟨k1, k2⟩)
                · exact ⟨z.1, z.2.1, by have := z.2.2; omega⟩
                · rw [k1, k2]
                  exact ⟨ho, sh2, Or.inr ⟨d, Nat.lt_succ_self p⟩⟩
              · rintro ⟨k1, k2, k3⟩
                by_cases e : x = p
                · rw [e, sh2] at k2
                  exact Or.inr ⟨((nI_eq (show sh < 2 ^ 31 by omega) (show s2 < 2 ^ 31 by omega)).mp k2).symm, e⟩
                · exact Or.inl ⟨k1, k2, by omega⟩
        · rw [if_neg d]
          exact ⟨_, rfl, g, rfl, stay fun z => d z.1⟩
      case he2 =>
        rintro z ⟨g, rfl, hl⟩
        have eP' : g.1 156 0 = nI P := by rw [hl.2.1 156 0 (by omega), eP]
        refine ⟨g, ?_, hl⟩
        show ff_X11_layOut_B51 kind (nI s) (nI (fbs c B s)) (nI P) g = _
        unfold ff_X11_layOut_B51
        rw [eP', if_pos (nI_le (Nat.le_refl P) (by omega))]
      obtain ⟨g', y1, y2⟩ := hI
      have E : ff_X11_layOut_B16 kind (nI s) g = some (.inl (nI (s + 1), g')) := by
        unfold ff_X11_layOut_B16 ff_X8_isOf
        rw [eN', if_neg (nI_nle' hs (by omega)), ck_lit (show s < 12 by omega) (by decide), nI_clamp (by omega), e23, if_pos g0, Option.bind_some, if_neg (by decide), fitted_l (B := B) H (lay_RR H hl') (by omega) (by rw [l2 1 0 (by omega), eB]) (show s < 12 by omega), Option.bind_some, y1, Option.bind_some, vlE, nI_1]
      refine ⟨_, E, g', rfl, y2.1, y2.2.1, y2.2.2.1, fun b x hb => ?_, fun sh x hsh => ?_⟩
      · rw [y2.2.2.2.1 b x hb]
        refine ⟨fun z => ⟨z.1, z.2.1, z.2.2.1, by omega⟩, fun z => ⟨z.1, z.2.1, z.2.2.1, ?_⟩⟩
        have := z.2.1.1
        omega
      · rw [y2.2.2.2.2 sh x hsh]
        refine ⟨fun z => ⟨z.1, z.2.1, by omega⟩, fun z => ⟨z.1, z.2.1, ?_⟩⟩
        have := z.1.1
        omega
    · have E : ff_X11_layOut_B16 kind (nI s) g = some (.inl (nI (s + 1), g)) := by
        unfold ff_X11_layOut_B16 ff_X8_isOf
        rw [eN', if_neg (nI_nle' hs (by omega)), ck_lit (show s < 12 by omega) (by decide), nI_clamp (by omega), e23, if_neg g0, Option.bind_some, if_pos rfl, vlE, nI_1]
      have nk : ∀ x, off c P kind x → szo c x ≠ s := fun x hx e => g0 (by rw [← e]; exact hx.2.2)
      refine ⟨_, E, g, rfl, l1, l2, l3, fun b x hb => ?_, fun sh x hsh => ?_⟩
      · rw [l4 b x hb]
        refine ⟨fun z => ⟨z.1, z.2.1, z.2.2.1, by omega⟩, fun z => ⟨z.1, z.2.1, z.2.2.1, ?_⟩⟩
        have := nk x z.2.1
        omega
      · rw [l5 sh x hsh]
        refine ⟨fun z => ⟨z.1, z.2.1, by omega⟩, fun z => ⟨z.1, z.2.1, ?_⟩⟩
        have := nk x z.1
        omega
  case he =>
    rintro z ⟨g, rfl, hl⟩
    have eN' : g.1 22 0 = nI N := by rw [hl.2.1 22 0 (by omega), eN]
    refine ⟨g, ?_, hl⟩
    show ff_X11_layOut_B16 kind (nI N) g = _
    unfold ff_X11_layOut_B16
    rw [eN', if_pos (nI_le (Nat.le_refl N) (by omega))]
  obtain ⟨g, e3, hl⟩ := hL
  refine ⟨g, ?_, hl, lay_RR H hl⟩
  unfold ff_X11_layOut
  rw [eB, cl, Option.bind_some, e3, Option.bind_some]
