def frI (r g : vv_H) : Prop := g.2 = r.2 ∧ ∀ k j, k ≠ 39 → k ≠ 44 → g.1 k j = r.1 k j
theorem frI_iu {r g : vv_H} {k j : Nat} {v : Int32} (h : frI r g) (q : k = 39 ∨ k = 44) : frI r (vv_iu g k j v) := ⟨h.1, fun a b h1 h2 => by
  rw [vv_iu_ne (by omega)]
  exact h.2 a b h1 h2⟩
theorem frI_RR {c r g : vv_H} (H : RR c r) (h : frI r g) : RR c g := RR_core H (coC_rf c) fun k j q => h.2 k j (by unfold scR at q; omega) (by unfold scR at q; omega)
/-- what the reference lays out: who can go with what -/
def cgo (c g : vv_H) (P : Nat) (kind : Int32) (b p : Nat) : Prop := ¬ g.1 39 (36 * b + p) = 0 ↔ off c P kind p ∧ lw c (nI b) (szo c p) = 0
theorem init_r {c r : vv_H} (H : RR c r) {P B : Nat} (hP : P < 37) (eP : c.1 156 0 = nI P) (hB : B < 13) (eB : c.1 1 0 = nI B) (kind u2 u3 : Int32) : ∃ g, vv_lp (fun (zs : Int32 × vv_H) => ff_X12_parade_B58 kind u2 u3 zs.1 zs.2) vv_F ((0 : Int32), r) = some g ∧ frI r g ∧ (∀ p, p < P → g.1 44 p = 0) ∧ ∀ b p, b < B → p < P → cgo c g P kind b p := by
  have eBr : ∀ g, frI r g → g.1 0 1 = nI B := fun g h => by rw [h.2 0 1 (by omega) (by omega), rel_s1_0 H.1, eB]
  have ePr : ∀ g, frI r g → g.1 0 44 = nI P := fun g h => by rw [h.2 0 44 (by omega) (by omega), rel_s156_0 H.1, eP]
  have hL := lp_count (f := fun (zs : Int32 × vv_H) => ff_X12_parade_B58 kind u2 u3 zs.1 zs.2) (fun p z => ∃ g, z = (nI p, g) ∧ frI r g ∧ (∀ x, x < p → g.1 44 x = 0) ∧ ∀ b x, b < B → x < p → cgo c g P kind b x) (fun g => frI r g ∧ (∀ p, p < P → g.1 44 p = 0) ∧ ∀ b p, b < B → p < P → cgo c g P kind b p) P ?hs ?he vv_F 0 ((0 : Int32), r) ⟨r, rfl, ⟨rfl, fun _ _ _ _ => rfl⟩, fun x hx => absurd hx (Nat.not_lt_zero x), fun b x _ hx => absurd hx (Nat.not_lt_zero x)⟩ (Nat.zero_le _) (vv_F_lt (by omega))
  case hs =>
    rintro p z hp ⟨g, rfl, f1, f2, f3⟩
    left
    have hpI : (p : Int) < (c.1 156 0).toInt := by rw [eP, nI_toInt (by omega)]; omega
    obtain ⟨w1, w2, w3⟩ := H.2.2.1.1 p hpI
    have hz := H.b (k := 157) (j := p) rfl
    obtain ⟨sz, hsz, esz⟩ := to_nI (n := 12) hz.1 (by omega) (by decide)
    have szp : szo c p = sz := by
      unfold szo
      rw [esz, nI_clamp (by omega)]
    obtain ⟨g8, e8⟩ : ∃ g8, g8 = vv_iu g 44 p 0 := ⟨_, rfl⟩
    have f8 : frI r g8 := by rw [e8]; exact frI_iu f1 (Or.inr rfl)
    have hI := lp_count (f := fun (zs : Int32 × vv_H) => ff_X12_parade_B78 kind u2 u3 (nI p) zs.1 zs.2) (fun b z => ∃ g', z = (nI b, g') ∧ frI r g' ∧ (∀ x, g'.1 44 x = g8.1 44 x) ∧ (∀ b' x, x ≠ p → x < 36 → g'.1 39 (36 * b' + x) = g8.1 39 (36 * b' + x)) ∧ ∀ b', b' < b → cgo c g' P kind b' p) (fun g' => frI r g' ∧ (∀ x, g'.1 44 x = g8.1 44 x) ∧ (∀ b' x, x ≠ p → x < 36 → g'.1 39 (36 * b' + x) = g8.1 39 (36 * b' + x)) ∧ ∀ b', b' < B → cgo c g' P kind b' p) B ?hs2 ?he2 vv_F 0 ((0 : Int32), g8) ⟨g8, rfl, f8, fun _ => rfl, fun _ _ _ _ => rfl, fun b' hb' => absurd hb' (Nat.not_lt_zero b')⟩ (Nat.zero_le _) (vv_F_lt (by omega))
    case hs2 =>
      rintro b z hb ⟨g', rfl, a1, a2, a3, a4⟩
      left
      have Hg := frI_RR H a1
      have e32 : g'.1 32 p = c.1 160 p := by rw [rel_a160 Hg.1]
      have e29 : g'.1 29 p = nI sz := by rw [rel_a157 Hg.1, esz]
      have ek : ff_X12_kindAt g' (nI p) = some (c.1 23 sz) := by
        rw [kind_eq Hg.1, kind_of H.2.1 (show p < 36 by omega), esz, nI_clamp (by omega)]
      have ix : (36 : Int32) * nI b + nI p = nI (36 * b + p) := by rw [show (36 : Int32) = nI 36 from rfl, pk_mul, nI_add]
      obtain ⟨av, av1, av2⟩ := fit_lw Hg hsz (nI b) (e := 0) (by decide) (by decide)
      rw [show (0 : Int32).toInt = 0 from rfl] at av2
      have B1 : ff_X12_parade_B78 kind u2 u3 (nI p) (nI b) g' = some (.inl (nI (b + 1), vv_iu g' 39 (36 * b + p) (if c.1 160 p = -4 then 0 else if c.1 23 sz = kind then (if av = 0 then 0 else 1) else 0))) := by
        unfold ff_X12_parade_B78
        rw [eBr g' a1, if_neg (nI_nle' hb (by omega)), ck_lit (show p < 36 by omega) (by decide), nI_clamp (show p < 2 ^ 31 by omega), e32, ix]
        by_cases d1 : c.1 160 p = -4
        · rw [if_pos d1, if_pos d1, ck_lit (by omega) (by decide), vlE, vlE, nI_clamp (by omega), narb0, nI_1]
        · rw [if_neg d1, if_neg d1, ek, Option.bind_some]
          by_cases d2 : c.1 23 sz = kind
          · rw [if_pos d2, if_pos d2, ck_lit (show p < 36 by omega) (by decide), e29, av1, Option.bind_some]
            by_cases d3 : av = 0
            · rw [if_pos d3, if_pos d3, ck_lit (by omega) (by decide), vlE, vlE, nI_clamp (by omega), narb0, nI_1]
            · rw [if_neg d3, if_neg d3, ck_lit (by omega) (by decide), vlE, vlE, nI_clamp (by omega), narb1, nI_1]
          · rw [if_neg d2, if_neg d2, ck_lit (by omega) (by decide), vlE, vlE, nI_clamp (by omega), narb0, nI_1]
      refine ⟨_, B1, _, rfl, frI_iu a1 (Or.inl rfl), fun x => by rw [vv_iu_ne (by omega)]; exact a2 x, fun b' x hx hx36 => ?_, fun b' hb' => ?_⟩
      · rw [vv_iu_nj (by omega)]
        exact a3 b' x hx hx36
      · rcases Nat.lt_succ_iff_lt_or_eq.mp hb' with k | rfl
        · have := a4 b' k
          unfold cgo at this ⊢
          rw [vv_iu_nj (by omega)]
          exact this
        · unfold cgo off
          rw [vv_iu_eq, szp, show (c.1 157 p).toNatClampNeg = sz from szp]
          by_cases d1 : c.1 160 p = -4
          · rw [if_pos d1]
            refine ⟨fun z => absurd rfl z, fun z => ?_⟩
            have := z.1.2.1
            rw [d1] at this
            exact absurd this (by decide)
          · have h0 : 0 ≤ (c.1 160 p).toInt := by
              rcases w2 with k | k
              · exact absurd k d1
              · exact k.1
            rw [if_neg d1]
            by_cases d2 : c.1 23 sz = kind
            · rw [if_pos d2]
              rcases av2 with ⟨k1, k2⟩ | ⟨k1, k2⟩
              · rw [k2, if_neg (by decide)]
                exact ⟨fun _ => ⟨⟨hp, h0, d2⟩, by omega⟩, fun _ => by decide⟩
              · rw [k2, if_pos rfl]
                exact ⟨fun z => absurd rfl z, fun z => by have := z.2; omega⟩
            · rw [if_neg d2]
              exact ⟨fun z => absurd rfl z, fun z => absurd z.1.2.2 d2⟩
    case he2 =>
      rintro z ⟨g', rfl, a⟩
      refine ⟨g', ?_, a⟩
      show ff_X12_parade_B78 kind u2 u3 (nI p) (nI B) g' = _
      unfold ff_X12_parade_B78
      rw [eBr g' a.1, if_pos (nI_le (Nat.le_refl B) (by omega))]
    obtain ⟨g', y1, y2, y3, y4, y5⟩ := hI
    have E : ff_X12_parade_B58 kind u2 u3 (nI p) g = some (.inl (nI (p + 1), g')) := by
      unfold ff_X12_parade_B58
      rw [ePr g f1, if_neg (nI_nle' hp (by omega)), ck_lit (show p < 36 by omega) (by decide), vlE, nI_clamp (by omega), narb0, ← e8, y1, Option.bind_some, vlE, nI_1]
    refine ⟨_, E, g', rfl, y2, fun x hx => ?_, fun b x hb hx => ?_⟩
    · rw [y3, e8, vv_iu_e]
      by_cases d : x = p
      · rw [if_pos ⟨rfl, d⟩]
      · rw [if_neg (fun z => d z.2)]
        exact f2 x (by omega)
    · rcases Nat.lt_succ_iff_lt_or_eq.mp hx with k | rfl
      · have := f3 b x hb k
        unfold cgo at this ⊢
        rw [y4 b x (by omega) (by omega), e8, vv_iu_ne (by omega)]
        exact this
      · exact y5 b hb
  case he =>
    rintro z ⟨g, rfl, a⟩
    refine ⟨g, ?_, a⟩
    show ff_X12_parade_B58 kind u2 u3 (nI P) g = _
    unfold ff_X12_parade_B58
    rw [ePr g a.1, if_pos (nI_le (Nat.le_refl P) (by omega))]
  exact hL
theorem window_c {g : vv_H} {a e : Nat} (ha : a < 100) (he : e < 100) : ∃ w, ff_X3_windowFrom g (nI a) (nI e) = some w ∧ ∀ x, tb w x = true ↔ ∃ sh, a ≤ sh ∧ sh ≤ a + e ∧ sh < 100 ∧ tb (g.2.1 175 sh) x = true := by
  have hL := lp_count (f := fun (zs : Int64 × Int32) => ff_X3_windowFrom_B5 (nI a) (nI e) g zs.1 zs.2) (fun i z => ∃ w, z = (w, nI (a + i)) ∧ ∀ x, tb w x = true ↔ ∃ sh, a ≤ sh ∧ sh < a + i ∧ tb (g.2.1 175 sh) x = true) (fun w => ∀ x, tb w x = true ↔ ∃ sh, a ≤ sh ∧ sh ≤ a + e ∧ sh < 100 ∧ tb (g.2.1 175 sh) x = true) (min (e + 1) (100 - a)) ?hs ?he vv_F 0 ((0 : Int64), nI a) ⟨0, rfl, fun x => ⟨fun z => (by rw [tb_0] at z; cases z), fun ⟨sh, h1, h2, _⟩ => by omega⟩⟩ (Nat.zero_le _) (vv_F_lt (by omega))
  case hs =>
    rintro i z hi ⟨w, rfl, hw⟩
    left
    have E : ff_X3_windowFrom_B5 (nI a) (nI e) g w (nI (a + i)) = some (.inl (w ||| g.2.1 175 (a + i), nI (a + i + 1))) := by
      unfold ff_X3_windowFrom_B5
      rw [nI_add, if_neg (nI_nlt (show a + i ≤ a + e by omega) (by omega)), if_neg (show ¬ (100 : Int32) ≤ nI (a + i) from nI_nle' (show a + i < 100 by omega) (by decide)), ck_lit (show a + i < 100 by omega) (by decide), vlE, vlE, nI_clamp (by omega), nI_1]
    refine ⟨_, E, _, rfl, fun x => ?_⟩
    rw [tb_or, Bool.or_eq_true, hw]
    constructor
    · rintro (⟨sh, h1, h2, h3⟩ | h3)
      · exact ⟨sh, h1, by omega, h3⟩
      · exact ⟨a + i, by omega, by omega, h3⟩
    · rintro ⟨sh, h1, h2, h3⟩
      by_cases d : sh = a + i
      · rw [d] at h3
        exact Or.inr h3
      · exact Or.inl ⟨sh, h1, by omega, h3⟩
  case he =>
    rintro z ⟨w, rfl, hw⟩
    refine ⟨w, ?_, fun x => ?_⟩
    · show ff_X3_windowFrom_B5 (nI a) (nI e) g w (nI (a + min (e + 1) (100 - a))) = _
      unfold ff_X3_windowFrom_B5
      rw [nI_add]
      by_cases d : a + e < a + min (e + 1) (100 - a)
      · rw [if_pos (nI_lt d (by omega))]
      · rw [if_neg (nI_nlt (by omega) (by omega)), if_pos (show (100 : Int32) ≤ nI (a + min (e + 1) (100 - a)) from nI_le (show 100 ≤ a + min (e + 1) (100 - a) by omega) (by omega))]
    · rw [hw]
      exact ⟨fun ⟨sh, h1, h2, h3⟩ => ⟨sh, h1, by omega, by omega, h3⟩, fun ⟨sh, h1, h2, h3, h4⟩ => ⟨sh, h1, by omega, h4⟩⟩
  obtain ⟨w, e1, hw⟩ := hL
  exact ⟨w, by rw [ff_X3_windowFrom, e1]; rfl, hw⟩
/-- what the window holds, in the pieces' words -/
theorem window_l {c r g : vv_H} (H : RR c r) {P B N a e : Nat} {kind : Int32} (eN : c.1 22 0 = nI N) (hN : N < 13) (eP : c.1 156 0 = nI P) (hP : P < 37) (hl : lay c g P B kind N 0) (ha : a < 100) (he : e < 100) : ∃ w, ff_X3_windowFrom g (nI a) (nI e) = some w ∧ (∀ x, tb w x = true ↔ off c P kind x ∧ (a : Int) ≤ (c.1 159 x).toInt ∧ (c.1 159 x).toInt ≤ a + e) := by
  obtain ⟨w, e1, hw⟩ := window_c (g := g) ha he
  refine ⟨w, e1, fun x => ?_⟩
  rw [hw]
  constructor
  · rintro ⟨sh, h1, h2, h3, h4⟩
    obtain ⟨k1, k2, k3⟩ := (hl.2.2.2.2 sh x h3).mp h4
    rw [k2, nI_toInt (by omega)]
    exact ⟨k1, by omega, by omega⟩
  · rintro ⟨h1, h2, h3⟩
    have hb := H.b (k := 159) (j := x) rfl
    obtain ⟨sh, hsh, esh⟩ := to_nI (n := 100) hb.1 (by omega) (by decide)
    rw [esh, nI_toInt (by omega)] at h2 h3
    have hx : (x : Int) < (c.1 156 0).toInt := by rw [eP, nI_toInt (by omega)]; have := h1.1; omega
    have hsz := (H.2.2.1.1 x hx).1
    have hz := H.b (k := 157) (j := x) rfl
    obtain ⟨sz, k1, k2⟩ := to_nI (n := 12) hz.1 (by omega) (by decide)
    rw [k2, eN, nI_toInt (by omega), nI_toInt (by omega)] at hsz
    refine ⟨sh, by omega, by omega, hsh, (hl.2.2.2.2 sh x hsh).mpr ⟨h1, esh, Or.inl ?_⟩⟩
    unfold szo
    rw [k2, nI_clamp (by omega)]
    omega
