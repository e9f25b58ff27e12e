theorem second_r {h g : vv_H} {P a e b0 f b' : Nat} {hd : Nat → Option Nat} {qu : Nat → Nat} {to : Nat} (hP : P ≤ 36) (eP : h.1 0 44 = nI P) (hb' : b' < 12) (fg : frS h g) (hq : que h g P a e b0 hd qu to) (hs : sen h g a e qu to P) (hf : f < to) (hdf : hd (qu f) = some b') (e40 : h.1 40 (qu f) = nI b') (u1 u4 : Int32) : ∃ to' qu' g', vv_lp (fun (zs : Int32 × Int32 × vv_H) => ff_X12_joins_B154 u1 u4 (nI (qu f)) zs.1 zs.2.1 zs.2.2) vv_F (nI to, (0 : Int32), g) = some (nI to', g') ∧ frS h g' ∧ to ≤ to' ∧ que h g' P a e b0 hd qu' to' ∧ sen h g' a e qu' to' P ∧ (∀ i, i < to → qu' i = qu i) ∧ ∀ x, rlr h P a e b' x → ∃ i, i < to' ∧ qu' i = x := by
  have hL := lp_count (f := fun (zs : Int32 × Int32 × vv_H) => ff_X12_joins_B154 u1 u4 (nI (qu f)) zs.1 zs.2.1 zs.2.2) (fun p z => ∃ to' qu' g', z = (nI to', nI p, g') ∧ frS h g' ∧ to ≤ to' ∧ que h g' P a e b0 hd qu' to' ∧ sen h g' a e qu' to' P ∧ (∀ i, i < to → qu' i = qu i) ∧ ∀ x, x < p → rlr h P a e b' x → ∃ i, i < to' ∧ qu' i = x) (fun z => ∃ to' qu' g', z = (nI to', g') ∧ frS h g' ∧ to ≤ to' ∧ que h g' P a e b0 hd qu' to' ∧ sen h g' a e qu' to' P ∧ (∀ i, i < to → qu' i = qu i) ∧ ∀ x, rlr h P a e b' x → ∃ i, i < to' ∧ qu' i = x) P ?hs ?he vv_F 0 (nI to, (0 : Int32), g) ⟨to, qu, g, rfl, fg, Nat.le_refl _, hq, hs, fun _ _ => rfl, fun x hx => absurd hx (Nat.not_lt_zero x)⟩ (Nat.zero_le _) (vv_F_lt (by omega))
  case hs =>
    rintro p z hp ⟨to', qu', g', rfl, a1, a2, a3, a4, a5, a6⟩
    left
    have eP' : g'.1 0 44 = nI P := by rw [a1.2 0 44 (by omega), eP]
    have qf := (hq.1 f hf).2.1
    have g40 : g'.1 40 (qu f) = nI b' := by rw [a1.2 40 _ (by omega), e40]
    have g39 : g'.1 39 (36 * b' + p) = h.1 39 (36 * b' + p) := a1.2 39 _ (by omega)
    have ix : (36 : Int32) * nI b' + nI p = nI (36 * b' + p) := by rw [show (36 : Int32) = nI 36 from rfl, pk_mul, nI_add]
    have E : ff_X12_joins_B154 u1 u4 (nI (qu f)) (nI to') (nI p) g' = if g'.1 43 p = 0 then (if h.1 39 (36 * b' + p) = 0 then some (.inl (nI to', nI (p + 1), g')) else vv_ck (nI to') 36 (some (.inl (nI (to' + 1), nI (p + 1), enq g' p to' (nI (qu f)))))) else some (.inl (nI to', nI (p + 1), g')) := by
      unfold ff_X12_joins_B154
      rw [eP', if_neg (nI_nle' hp (by omega)), ck_lit (show p < 36 by omega) (by decide), nI_clamp (show p < 2 ^ 31 by omega), ck_lit (show qu f < 36 by omega) (by decide), nI_clamp (show qu f < 2 ^ 31 by omega), g40, ix, ck_lit (by omega) (by decide), nI_clamp (by omega), g39]
      by_cases c1 : g'.1 43 p = 0
      · rw [if_pos c1, if_pos c1]
        by_cases c2 : h.1 39 (36 * b' + p) = 0
        · rw [if_pos c2, if_pos c2, vlE, nI_1]
        · rw [if_neg c2, if_neg c2, ck_lit (show p < 36 by omega) (by decide), vlE, narb1, ck_lit (show p < 36 by omega) (by decide), vlE]
          have ct : to' < 36 := by
            have := que_lt a3 hp ((a4 p hp).mp c1).2
            omega
          rw [ck_lit ct (by decide), ck_lit ct (by decide), vlE, vlE, vlE, nI_clamp (show to' < 2 ^ 31 by omega), nI_1, nI_1]
          rfl
      · rw [if_neg c1, if_neg c1, vlE, nI_1]
    show ∃ s', ff_X12_joins_B154 u1 u4 (nI (qu f)) (nI to') (nI p) g' = some (.inl s') ∧ _
    rw [E]
    by_cases c1 : g'.1 43 p = 0
    · rw [if_pos c1]
      obtain ⟨k1, k2⟩ := (a4 p hp).mp c1
      by_cases c2 : h.1 39 (36 * b' + p) = 0
      · rw [if_pos c2]
        refine ⟨_, rfl, to', qu', g', rfl, a1, a2, a3, a4, a5, fun x hx hr => ?_⟩
        by_cases d : x = p
        · rw [d] at hr
          exact absurd c2 hr.2.1
        · exact a6 x (by omega) hr
      · have tl := que_lt a3 hp k2
        rw [if_neg c2, ck_lit (show to' < 36 by omega) (by decide)]
        refine ⟨_, rfl, to' + 1, pt qu' to' p, enq g' p to' (nI (qu f)), rfl, frS_iu (frS_iu (frS_iu a1 (by omega)) (by omega)) (by omega), by omega, enq_que a3 hp k1 k2 (Or.inr ⟨f, b', by omega, by rw [a5 f hf], by rw [a5 f hf]; exact hdf, hp, c2, k1⟩), enq_sen fun x hx _ => a4 x hx, fun i hi => by rw [show pt qu' to' p i = qu' i from if_neg (by omega)]; exact a5 i hi, fun x hx hr => ?_⟩
        by_cases d : x = p
        · exact ⟨to', by omega, by rw [d]; exact if_pos rfl⟩
        · obtain ⟨i, i1, i2⟩ := a6 x (by omega) hr
          exact ⟨i, by omega, by rw [show pt qu' to' p i = qu' i from if_neg (by omega)]; exact i2⟩
    · rw [if_neg c1]
      refine ⟨_, rfl, to', qu', g', rfl, a1, a2, a3, a4, a5, fun x hx hr => ?_⟩
      by_cases d : x = p
      · refine Classical.byContradiction fun nn => c1 ((a4 p hp).mpr ⟨by rw [← d]; exact hr.2.2, fun i hi e => nn ⟨i, hi, e.trans d.symm⟩⟩)
      · exact a6 x (by omega) hr
  case he =>
    rintro z ⟨to', qu', g', rfl, a1, a2, a3, a4, a5, a6⟩
    have eP' : g'.1 0 44 = nI P := by rw [a1.2 0 44 (by omega), eP]
    refine ⟨(nI to', g'), ?_, to', qu', g', rfl, a1, a2, a3, a4, a5, fun x hx => a6 x hx.1 hx⟩
    show ff_X12_joins_B154 u1 u4 (nI (qu f)) (nI to') (nI P) g' = _
    unfold ff_X12_joins_B154
    rw [eP', if_pos (nI_le (Nat.le_refl P) (by omega))]
  obtain ⟨z, e1, to', qu', g', rfl, hh⟩ := hL
  exact ⟨to', qu', g', e1, hh⟩
