/-- what is seen: what is not free, and what is in the queue -/
def sen (h g : vv_H) (a e : Nat) (qu : Nat → Nat) (to m : Nat) : Prop := ∀ x, x < m → (g.1 43 x = 0 ↔ frr h a e x ∧ ∀ i, i < to → qu i ≠ x)
/-- the same but for what the search writes -/
def frS (h g : vv_H) : Prop := g.2 = h.2 ∧ ∀ k j, ¬ (41 ≤ k ∧ k ≤ 43) → g.1 k j = h.1 k j
theorem frS_iu {h g : vv_H} {k j : Nat} {v : Int32} (q : frS h g) (hk : 41 ≤ k ∧ k ≤ 43) : frS h (vv_iu g k j v) := ⟨q.1, fun a i h1 => by
  rw [vv_iu_ne (by omega)]
  exact q.2 a i h1⟩
theorem frS_J {h g : vv_H} (q : frS h g) : frJ h g := ⟨q.1, fun k j hk => q.2 k j (by omega)⟩
theorem narb0 : vp_nar .boolean (0 : Int32) = 0 := rfl
theorem narb1 : vp_nar .boolean (1 : Int32) = 1 := rfl
/-- p goes into the queue -/
def enq (g : vv_H) (p to : Nat) (v : Int32) : vv_H := vv_iu (vv_iu (vv_iu g 43 p 1) 41 p v) 42 to (nI p)
theorem enq_que {h g : vv_H} {P a e b0 : Nat} {hd : Nat → Option Nat} {qu : Nat → Nat} {to p : Nat} {v : Int32} (q : que h g P a e b0 hd qu to) (hp : p < P) (hf : frr h a e p) (hn : ∀ i, i < to → qu i ≠ p) (hc : (v = -4 ∧ rlr h P a e b0 p) ∨ (∃ j b', j < to ∧ v = nI (qu j) ∧ hd (qu j) = some b' ∧ rlr h P a e b' p)) : que h (enq g p to v) P a e b0 hd (pt qu to p) (to + 1) := by
  unfold enq
  refine que_up q hp hf hn (fun i => ?_) (fun x hx => ?_) ?_
  · rw [vv_iu_e, vv_iu_ne (by omega), vv_iu_ne (by omega)]
    by_cases d : i = to
    · rw [if_pos ⟨rfl, d⟩, if_pos d]
    · rw [if_neg (fun z => d z.2), if_neg d]
  · rw [vv_iu_ne (by omega), vv_iu_nj hx, vv_iu_ne (by omega)]
  · rw [vv_iu_ne (by omega), vv_iu_eq]
    exact hc
theorem enq_sen {h g : vv_H} {a e : Nat} {qu : Nat → Nat} {to p m : Nat} {v : Int32} (q : ∀ x, x < m → x ≠ p → (g.1 43 x = 0 ↔ frr h a e x ∧ ∀ i, i < to → qu i ≠ x)) : sen h (enq g p to v) a e (pt qu to p) (to + 1) m := fun x hx => by
  unfold enq
  rw [vv_iu_ne (by omega), vv_iu_ne (by omega), vv_iu_e]
  have ptt : pt qu to p to = p := if_pos rfl
  by_cases d : x = p
  · rw [if_pos ⟨rfl, d⟩]
    exact ⟨fun z => absurd z (by decide), fun z => absurd (ptt.trans d.symm) (z.2 to (by omega))⟩
  · rw [if_neg (fun z => d z.2), q x hx d]
    constructor
    · rintro ⟨z1, z2⟩
      refine ⟨z1, fun i hi => ?_⟩
      rcases Nat.lt_succ_iff_lt_or_eq.mp hi with k | rfl
      · rw [show pt qu to p i = qu i from if_neg (by omega)]
        exact z2 i k
      · rw [ptt]
        exact fun z => d z.symm
    · rintro ⟨z1, z2⟩
      refine ⟨z1, fun i hi => ?_⟩
      have := z2 i (by omega)
      rwa [show pt qu to p i = qu i from if_neg (by omega)] at this
theorem first_r {h : vv_H} {P a e b0 : Nat} (hd : Nat → Option Nat) (hP : P ≤ 36) (eP : h.1 0 44 = nI P) (hb0 : b0 < 12) (ha : a < 100) (he : e < 100) : ∃ to qu g, vv_lp (fun (zs : Int32 × Int32 × vv_H) => ff_X12_joins_B9 (nI b0) (nI a) (nI e) 0 zs.1 zs.2.1 zs.2.2) vv_F ((0 : Int32), (0 : Int32), h) = some (nI to, g) ∧ frS h g ∧ to ≤ P ∧ que h g P a e b0 hd qu to ∧ sen h g a e qu to P ∧ ∀ x, rlr h P a e b0 x → ∃ i, i < to ∧ qu i = x := by
  have hL := lp_count (f := fun (zs : Int32 × Int32 × vv_H) => ff_X12_joins_B9 (nI b0) (nI a) (nI e) 0 zs.1 zs.2.1 zs.2.2) (fun p z => ∃ to qu g, z = (nI to, nI p, g) ∧ frS h g ∧ to ≤ p ∧ que h g P a e b0 hd qu to ∧ (∀ i, i < to → qu i < p) ∧ sen h g a e qu to p ∧ ∀ x, x < p → rlr h P a e b0 x → ∃ i, i < to ∧ qu i = x) (fun z => ∃ to qu g, z = (nI to, g) ∧ frS h g ∧ to ≤ P ∧ que h g P a e b0 hd qu to ∧ sen h g a e qu to P ∧ ∀ x, rlr h P a e b0 x → ∃ i, i < to ∧ qu i = x) P ?hs ?he vv_F 0 ((0 : Int32), (0 : Int32), h) ⟨0, fun _ => 0, h, rfl, ⟨rfl, fun _ _ _ => rfl⟩, Nat.le_refl _, ⟨fun i hi => absurd hi (Nat.not_lt_zero i), fun i j hi => absurd hi (Nat.not_lt_zero i), fun i hi => absurd hi (Nat.not_lt_zero i)⟩, fun i hi => absurd hi (Nat.not_lt_zero i), fun x hx => absurd hx (Nat.not_lt_zero x), fun x hx => absurd hx (Nat.not_lt_zero x)⟩ (Nat.zero_le _) (vv_F_lt (by omega))
  case hs =>
    rintro p z hp ⟨to, qu, g, rfl, a1, a2, a3, a4, a5, a6⟩
    left
    have eP' : g.1 0 44 = nI P := by rw [a1.2 0 44 (by omega), eP]
    have g44 : g.1 44 p = h.1 44 p := a1.2 44 p (by omega)
    have g31 : g.1 31 p = h.1 31 p := a1.2 31 p (by omega)
    have g39 : g.1 39 (36 * b0 + p) = h.1 39 (36 * b0 + p) := a1.2 39 _ (by omega)
    have hn : ∀ i, i < to → qu i ≠ p := fun i hi => by have := a4 i hi; omega
    have ix : (36 : Int32) * nI b0 + nI p = nI (36 * b0 + p) := by rw [show (36 : Int32) = nI 36 from rfl, pk_mul, nI_add]
    -- what J50 does
    have J : ∀ z0 : Int32, ((z0 = 0 ∧ frr h a e p) ∨ (z0 = 1 ∧ ¬ frr h a e p)) → ∃ s', ff_X12_joins_J50 (nI b0) (nI a) (nI e) 0 (nI to) (nI p) z0 (nI p) g = some (.inl s') ∧ ∃ to qu g, s' = (nI to, nI (p + 1), g) ∧ frS h g ∧ to ≤ p + 1 ∧ que h g P a e b0 hd qu to ∧ (∀ i, i < to → qu i < p + 1) ∧ sen h g a e qu to (p + 1) ∧ ∀ x, x < p + 1 → rlr h P a e b0 x → ∃ i, i < to ∧ qu i = x := fun z0 hz => by
      obtain ⟨g3, e3⟩ : ∃ g3, g3 = vv_iu g 43 p z0 := ⟨_, rfl⟩
      have f3 : frS h g3 := by rw [e3]; exact frS_iu a1 (by omega)
      have zn : vp_nar .boolean z0 = z0 := by rcases hz with ⟨rfl, _⟩ | ⟨rfl, _⟩ <;> rfl
      have q3 : que h g3 P a e b0 hd qu to := by
        refine ⟨fun i hi => ?_, a3.2.1, fun i hi => ?_⟩
        · rw [e3, vv_iu_ne (by omega)]
          exact a3.1 i hi
        · rw [e3, vv_iu_ne (by omega)]
          exact a3.2.2 i hi
      have s3 : ∀ x, x < p + 1 → x ≠ p → (g3.1 43 x = 0 ↔ frr h a e x ∧ ∀ i, i < to → qu i ≠ x) := fun x hx hxp => by
        rw [e3, vv_iu_nj hxp]
        exact a5 x (by omega)
      have g343 : g3.1 43 p = z0 := by rw [e3, vv_iu_eq]
      have stay : (¬ rlr h P a e b0 p) → (g3.1 43 p = 0 ↔ frr h a e p ∧ ∀ i, i < to → qu i ≠ p) → ∃ to' qu' g', (nI to, nI (p + 1), g3) = (nI to', nI (p + 1), g') ∧ frS h g' ∧ to' ≤ p + 1 ∧ que h g' P a e b0 hd qu' to' ∧ (∀ i, i < to' → qu' i < p + 1) ∧ sen h g' a e qu' to' (p + 1) ∧ ∀ x, x < p + 1 → rlr h P a e b0 x → ∃ i, i < to' ∧ qu' i = x := fun nr hs => by
        refine ⟨to, qu, g3, rfl, f3, by omega, q3, fun i hi => by have := a4 i hi; omega, fun x hx => ?_, fun x hx hr => ?_⟩
        · by_cases d : x = p
          · rw [d]
            exact hs
          · exact s3 x hx d
        · by_cases d : x = p
          · rw [d] at hr
            exact absurd hr nr
          · exact a6 x (by omega) hr
      unfold ff_X12_joins_J50
      rw [ck_lit (show p < 36 by omega) (by decide), vlE, zn, nI_clamp (by omega), ← e3, ck_lit (show p < 36 by omega) (by decide), g343]
      rcases hz with ⟨rfl, hfr⟩ | ⟨rfl, hfr⟩
      · have g339 : g3.1 39 (36 * b0 + p) = h.1 39 (36 * b0 + p) := f3.2 39 _ (by omega)
        rw [if_pos rfl, ix, ck_lit (by omega) (by decide), nI_clamp (by omega), g339]
        by_cases c : h.1 39 (36 * b0 + p) = 0
        · rw [if_pos c, vlE, nI_1]
          exact ⟨_, rfl, stay (fun r => r.2.1 c) ⟨fun _ => ⟨hfr, hn⟩, fun _ => g343⟩⟩
        · have hr : rlr h P a e b0 p := ⟨hp, c, hfr⟩
          rw [if_neg c, ck_lit (show p < 36 by omega) (by decide), vlE, narb1, ck_lit (show p < 36 by omega) (by decide), vlE, ck_lit (show to < 36 by omega) (by decide), vlE, vlE, vlE, nI_clamp (by omega), nI_1, nI_1]
          refine ⟨_, rfl, to + 1, pt qu to p, enq g3 p to (-4), rfl, frS_iu (frS_iu (frS_iu f3 (by omega)) (by omega)) (by omega), by omega, enq_que q3 hp hfr hn (Or.inl ⟨rfl, hr⟩), fun i hi => ?_, enq_sen s3, fun x hx hrx => ?_⟩
          · unfold pt
            by_cases d : i = to
            · rw [if_pos d]
              omega
            · rw [if_neg d]
              have := a4 i (by omega)
              omega
          · by_cases d : x = p
            · exact ⟨to, by omega, by rw [d]; exact if_pos rfl⟩
            · obtain ⟨i, i1, i2⟩ := a6 x (by omega) hrx
              exact ⟨i, by omega, by rw [show pt qu to p i = qu i from if_neg (by omega)]; exact i2⟩
      · rw [if_neg (by decide), vlE, nI_1]
        exact ⟨_, rfl, stay (fun r => hfr r.2.2) ⟨fun z => absurd (g343.symm.trans z) (by decide), fun z => absurd z.1 hfr⟩⟩
    have J2 : ∀ z0, ff_X12_joins_J45 (nI b0) (nI a) (nI e) 0 (nI to) (nI p) z0 g = ff_X12_joins_J50 (nI b0) (nI a) (nI e) 0 (nI to) (nI p) 1 z0 g := fun z0 => rfl
    have E : ff_X12_joins_B9 (nI b0) (nI a) (nI e) 0 (nI to) (nI p) g = if h.1 44 p = 0 then (if wi (h.1 31 p).toInt a (a + e) = 0 then ff_X12_joins_J50 (nI b0) (nI a) (nI e) 0 (nI to) (nI p) 1 (nI p) g else ff_X12_joins_J50 (nI b0) (nI a) (nI e) 0 (nI to) (nI p) 0 (nI p) g) else ff_X12_joins_J50 (nI b0) (nI a) (nI e) 0 (nI to) (nI p) 1 (nI p) g := by
      unfold ff_X12_joins_B9
      rw [eP', if_neg (nI_nle' hp (by omega)), ck_lit (show p < 36 by omega) (by decide), nI_clamp (by omega), g44, isIn_r (show p < 36 by omega) ha he, Option.bind_some, g31, J2]
    show ∃ s', ff_X12_joins_B9 (nI b0) (nI a) (nI e) 0 (nI to) (nI p) g = some (.inl s') ∧ _
    rw [E]
    by_cases c1 : h.1 44 p = 0
    · rw [if_pos c1]
      rcases wi_01 (h.1 31 p).toInt a (a + e) with ⟨k1, k2⟩ | ⟨k1, k2⟩
      · rw [k1, if_neg (by decide)]
        exact J 0 (Or.inl ⟨rfl, c1, k2⟩)
      · rw [k1, if_pos rfl]
        exact J 1 (Or.inr ⟨rfl, fun z => k2 z.2⟩)
    · rw [if_neg c1]
      exact J 1 (Or.inr ⟨rfl, fun z => c1 z.1⟩)
  case he =>
    rintro z ⟨to, qu, g, rfl, a1, a2, a3, a4, a5, a6⟩
    have eP' : g.1 0 44 = nI P := by rw [a1.2 0 44 (by omega), eP]
    refine ⟨(nI to, g), ?_, to, qu, g, rfl, a1, a2, a3, a5, fun x hx => a6 x hx.1 hx⟩
    show ff_X12_joins_B9 (nI b0) (nI a) (nI e) 0 (nI to) (nI P) g = _
    unfold ff_X12_joins_B9
    rw [eP', if_pos (nI_le (Nat.le_refl P) (by omega))]
  obtain ⟨z, e1, to, qu, g, rfl, hh⟩ := hL
  exact ⟨to, qu, g, e1, hh⟩
