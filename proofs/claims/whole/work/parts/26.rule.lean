/-- two loops side by side, both counting to N -/
theorem lp_two {S1 S2 R1 R2 : Type} {f : S1 → Option (S1 ⊕ R1)} {g : S2 → Option (S2 ⊕ R2)} (I : Nat → S1 → S2 → Prop) (J : R1 → R2 → Prop) (N : Nat) (hs : ∀ i s t, i < N → I i s t → (∃ s' t', f s = some (.inl s') ∧ g t = some (.inl t') ∧ I (i + 1) s' t') ∨ (∃ a b, f s = some (.inr a) ∧ g t = some (.inr b) ∧ J a b)) (he : ∀ s t, I N s t → ∃ a b, f s = some (.inr a) ∧ g t = some (.inr b) ∧ J a b) : ∀ (n i : Nat) (s : S1) (t : S2), I i s t → i ≤ N → N - i < n → ∃ a b, vv_lp f n s = some a ∧ vv_lp g n t = some b ∧ J a b := by
  intro n
  induction n with
  | zero => intro i s t _ _ h; omega
  | succ n ih =>
    intro i s t hi hN hn
    rcases Nat.lt_or_ge i N with h | h
    · rcases hs i s t h hi with ⟨s', t', e, e2, h2⟩ | ⟨a, b, e, e2, h2⟩
      · obtain ⟨a, b, e3, e4, h3⟩ := ih (i + 1) s' t' h2 (by omega) (by omega)
        exact ⟨a, b, by rw [vv_lp, e]; exact e3, by rw [vv_lp, e2]; exact e4, h3⟩
      · exact ⟨a, b, by rw [vv_lp, e], by rw [vv_lp, e2], h2⟩
    · have : i = N := by omega
      subst this
      obtain ⟨a, b, e, e2, h2⟩ := he s t hi
      exact ⟨a, b, by rw [vv_lp, e], by rw [vv_lp, e2], h2⟩
theorem sub8 {x y : Int32} : (x - 8 = y - 8) = (x = y) := by
  apply propext
  constructor
  · intro h
    have := congrArg (fun z => z + 8) h
    simpa [Int32.sub_add_cancel] using this
  · intro h
    rw [h]
theorem to_nI {x : Int32} {n : Nat} (h0 : 0 ≤ x.toInt) (h1 : x.toInt < n) (hn : n < 2 ^ 31) : ∃ m, m < n ∧ x = nI m := vp_in_of (vp_in_iff.mpr ⟨h0, h1⟩) hn
theorem rule_two {c r : vv_H} (H : RR c r) {what : Int32} (hw : what = 9 ∨ what = 10) (kind day z0 : Int32) (hz : 0 ≤ z0.toInt ∧ z0.toInt ≤ 9999 ∧ (what = 9 → 1 ≤ z0.toInt)) : ∃ v, ff_X6_latest c (c.2.2 0) what kind day z0 = some v ∧ ff_X12_ruleOf_J13 kind (what - 8) day z0 r = some v ∧ 0 ≤ v.toInt ∧ v.toInt ≤ 9999 ∧ (what = 9 → 1 ≤ v.toInt) := by
  obtain ⟨b1, ⟨b2, b3, b4⟩, b5⟩ := H.2.2.2.2.1
  obtain ⟨N, hN, eN⟩ := to_nI b3 (show _ < ((13 : Nat) : Int) by omega) (by decide)
  have hL := lp_two (f := fun (zs : Int32 × Int32 × Int32) => ff_X6_latest_B10 (c.2.2 0) what kind day c zs.1 zs.2.1 zs.2.2) (g := fun (zs : Int32 × Int32 × Int32) => ff_X12_ruleOf_B21 kind (what - 8) day r zs.1 zs.2.1 zs.2.2) (fun i s t => ∃ v z, s = (v, z, nI i) ∧ t = (v, z, nI i) ∧ 0 ≤ v.toInt ∧ v.toInt ≤ 9999 ∧ (what = 9 → 1 ≤ v.toInt)) (fun (a b : Int32) => b = a ∧ 0 ≤ a.toInt ∧ a.toInt ≤ 9999 ∧ (what = 9 → 1 ≤ a.toInt)) N ?hs ?he vv_F 0 (z0, (-1 : Int32), (0 : Int32)) (z0, (-1 : Int32), (0 : Int32)) ⟨_, _, rfl, rfl, hz⟩ (Nat.zero_le _) (vv_F_lt (by omega))
  case hs =>
    rintro i s t hi ⟨v, z, rfl, rfl, hv⟩
    left
    obtain ⟨⟨l1, -, -⟩, ⟨l2, -, -⟩, l3, ⟨l4, l5, l6, l7⟩, -⟩ := b5 i (by rw [eN, nI_toInt (by omega)]; omega)
    simp only [ff_X6_latest_B10, ff_X6_latest_J56, ff_X6_latest_J57, ff_X12_ruleOf_B21, eN, b2, if_neg (nI_nle' hi (by omega)), ck_lit (show i < 12 by omega) (by decide), vv_let, show ((1 : Int32) = 0) = False from by decide, if_true, if_false, nI_1, nI_clamp (show i < 2 ^ 31 by omega), l1, l2, l3, l4, sub8]
    by_cases q1 : c.1 (vv_rid (c.2.2 0) + 1) i = what
    · simp only [if_pos q1]
      repeat' split
      all_goals first | exact ⟨_, _, rfl, rfl, _, _, rfl, rfl, hv⟩ | exact ⟨_, _, rfl, rfl, _, _, rfl, rfl, l5, l6, fun e => l7 (by rw [q1, e])⟩
    · simp only [if_neg q1]
      exact ⟨_, _, rfl, rfl, _, _, rfl, rfl, hv⟩
  case he =>
    rintro s t ⟨v, z, rfl, rfl, hv⟩
    simp only [ff_X6_latest_B10, ff_X12_ruleOf_B21, eN, b2, if_pos (nI_le (Nat.le_refl N) (show N < 2 ^ 31 by omega))]
    exact ⟨_, _, rfl, rfl, rfl, hv⟩
  obtain ⟨a, b, e1, e2, rfl, hv⟩ := hL
  exact ⟨b, by rw [ff_X6_latest, e1]; rfl, by rw [ff_X12_ruleOf_J13, e2]; rfl, hv⟩
theorem life_two {c r : vv_H} (H : RR c r) (kind day : Int32) : ∃ v, ff_X11_lifeOn c kind day = some v ∧ ff_X12_ruleOf r kind 1 day = some v ∧ 1 ≤ v.toInt ∧ v.toInt ≤ 9999 := by
  obtain ⟨v, e1, e2, h1, h2, h3⟩ := rule_two H (Or.inl rfl) kind day 365 (by decide)
  exact ⟨v, by rw [ff_X11_lifeOn, e1]; rfl, by rw [ff_X12_ruleOf, if_pos rfl]; exact e2, h3 rfl, h2⟩
theorem price_two {c r : vv_H} (H : RR c r) (kind day : Int32) : ∃ v, ff_X11_priceOn c kind day = some v ∧ ff_X12_ruleOf r kind 2 day = some v ∧ 0 ≤ v.toInt ∧ v.toInt ≤ 9999 := by
  obtain ⟨v, e1, e2, h1, h2, -⟩ := rule_two H (Or.inr rfl) kind day 100 (by decide)
  exact ⟨v, by rw [ff_X11_priceOn, e1]; rfl, by rw [ff_X12_ruleOf, if_neg (by decide)]; exact e2, h1, h2⟩
theorem e_rule {c r : vv_H} (H : RR c r) (k w d : Int32) : ∃ o, ff_X11_rule c k w d = some o ∧ ff_X12_rule r k w d = some o := by
  obtain ⟨v1, e1, e2, -⟩ := life_two H k d
  obtain ⟨v3, e3, e4, -⟩ := price_two H k d
  simp only [ff_X11_rule, ff_X12_rule, m_isKind, m_isWithin, m_isDay, m_isDayR, m_in, Option.bind_some, wi_ite, Int32.toInt_toInt64, show (0 : Int64).toInt = 0 from rfl, show (1 : Int64).toInt = 1 from rfl, show (3 : Int64).toInt = 3 from rfl, show (0 : Int32).toInt = 0 from rfl, show (1 : Int32).toInt = 1 from rfl, e1, e2, e3, e4]
  repeat' split
  all_goals exact ⟨_, rfl, rfl⟩
/-! pieces: their kind, what they are worn, what a body has -/
theorem kind_eq {c r : vv_H} (H : rel c r) (p : Int32) : ff_X12_kindAt r p = ff_X11_kindOf c p := by
  simp only [ff_X12_kindAt, ff_X11_kindOf, rel_a157 H, rel_a23 H]
theorem kind_of {c : vv_H} (W : wf0 c) {p : Nat} (hp : p < 36) : ff_X11_kindOf c (nI p) = some (c.1 23 (c.1 157 p).toNatClampNeg) := by
  have h := W 157 p 0 11 rfl
  rw [ff_X11_kindOf, ck_lit hp (by decide), nI_clamp (by omega), ck_ok h.1 (by omega)]
theorem worn_two {c r : vv_H} (H : RR c r) {p : Nat} (hp : (p : Int) < (c.1 156 0).toInt) : ∃ w, ff_X4_wornBy c (nI p) (c.1 0 0) = some w ∧ ff_X12_wornOf r (nI p) = some w := by
  have hb := H.b (k := 156) (j := 0) rfl
  have hp36 : p < 36 := by omega
  have hw := (H.2.2.1.1 p hp).2.2
  simp only [ff_X4_wornBy, ff_X4_isWithBody, ff_X12_wornOf, rel_a161 H.1, rel_a165 H.1, rel_a166 H.1, rel_s0_0 H.1, ck_lit hp36 (by decide), nI_clamp (show p < 2 ^ 31 by omega), Option.bind_some]
  rcases hw with hw | hw
  · rw [hw]
    exact ⟨_, rfl, rfl⟩
  · have h1 : ¬ c.1 161 p < 0 := by rw [Int32.lt_iff_toInt_lt]; show ¬ _ < (0 : Int); omega
    have h2 : ¬ c.1 161 p = -4 := fun e => by rw [e] at hw; exact absurd hw.1 (by decide)
    simp only [if_neg h1, if_neg h2, Option.bind_some, show ((1 : Int32) = 0) = False from by decide, if_false]
    exact ⟨_, rfl, rfl⟩
theorem wornout_two {c r : vv_H} (H : RR c r) {p : Nat} (hp : (p : Int) < (c.1 156 0).toInt) : ∃ w, ff_X11_isWornOut c (nI p) = some w ∧ ff_X12_isWornOut r (nI p) = some w := by
  have hb := H.b (k := 156) (j := 0) rfl
  obtain ⟨w, e1, e2⟩ := worn_two H hp
  obtain ⟨v, e3, e4, -⟩ := life_two H (c.1 23 (c.1 157 p).toNatClampNeg) (c.1 0 0)
  simp only [ff_X11_isWornOut, ff_X12_isWornOut, e1, e2, kind_eq H.1, kind_of H.2.1 (show p < 36 by omega), Option.bind_some, rel_s0_0 H.1, e3, e4]
  split <;> exact ⟨_, rfl, rfl⟩
theorem has_two {c r : vv_H} (H : RR c r) (b kind : Int32) : ∃ m, ff_X11_usableWith c b kind = some m ∧ ff_X12_hasOf r b kind = some m := by
  have hb := H.b (k := 156) (j := 0) rfl
  obtain ⟨N, hN, eN⟩ := to_nI hb.1 (show _ < ((37 : Nat) : Int) by omega) (by decide)
  have eR : r.1 0 44 = nI N := by rw [rel_s156_0 H.1, eN]
  have hL := lp_two (f := fun (zs : Int32 × Int32) => ff_X11_usableWith_B5 b kind c zs.1 zs.2) (g := fun (zs : Int32 × Int32) => ff_X12_hasOf_B5 b kind r zs.1 zs.2) (fun i s t => ∃ v, s = (v, nI i) ∧ t = (v, nI i)) (fun (a b : Int32) => b = a) N ?hs ?he vv_F 0 ((0 : Int32), (0 : Int32)) ((0 : Int32), (0 : Int32)) ⟨_, rfl, rfl⟩ (Nat.zero_le _) (vv_F_lt (by omega))
  case hs =>
    rintro i s t hi ⟨v, rfl, rfl⟩
    left
    obtain ⟨w, e1, e2⟩ := wornout_two H (p := i) (by rw [eN, nI_toInt (by omega)]; omega)
    simp only [ff_X11_usableWith_B5, ff_X12_hasOf_B5, eN, eR, if_neg (nI_nle' hi (by omega)), ck_lit (show i < 36 by omega) (by decide), vv_let, kind_eq H.1, kind_of H.2.1 (show i < 36 by omega), Option.bind_some, e1, e2, nI_1, nI_clamp (show i < 2 ^ 31 by omega), rel_a161 H.1, Int32.add_zero]
    repeat' split
    all_goals exact ⟨_, _, rfl, rfl, _, rfl, rfl⟩
  case he =>
    rintro s t ⟨v, rfl, rfl⟩
    simp only [ff_X11_usableWith_B5, ff_X12_hasOf_B5, eN, eR, if_pos (nI_le (Nat.le_refl N) (show N < 2 ^ 31 by omega))]
    exact ⟨_, _, rfl, rfl, rfl⟩
  obtain ⟨a, b', e1, e2, rfl⟩ := hL
  exact ⟨_, by rw [ff_X11_usableWith, e1]; rfl, by rw [ff_X12_hasOf, e2]; rfl⟩
