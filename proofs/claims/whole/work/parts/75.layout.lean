theorem good_X {rel rel' : Nat → Nat → Prop} {X : Nat → Prop} {n : Nat} (h : good rel X n) (e : ∀ b, X b → ∀ p, rel b p ↔ rel' b p) : good rel' X n := by
  obtain ⟨hd, D, m1, c1, v1, e1⟩ := h
  refine ⟨hd, fun b => D b ∧ X b, ⟨fun p b hp => ?_, m1.2⟩, fun b hb p hp => ?_, fun b hb hn => v1 b hb fun k => hn ⟨k, hb⟩, e1⟩
  · obtain ⟨a1, a2, a3, a4⟩ := m1.1 p b hp
    exact ⟨a1, a2, a3, (e b a3 p).mp a4⟩
  · obtain ⟨b', b1, b2⟩ := c1 b hb.1 p ((e b hb.2 p).mpr hp)
    exact ⟨b', ⟨b1, (m1.1 p b' b2).2.2.1⟩, b2⟩
theorem lu_e2 {h : vv_H} {k j : Nat} {v : Int64} (a i : Nat) : (vv_lu h k j v).2.1 a i = if a = k ∧ i = j then v else h.2.1 a i := by
  show (if a = k then vp_updL (h.2.1 k) j v else h.2.1 a) i = _
  by_cases g : a = k
  · subst g
    rw [if_pos rfl]
    by_cases g2 : i = j
    · rw [if_pos ⟨rfl, g2⟩, g2, pk_uLs]
    · rw [if_neg (fun z => g2 z.2), pk_uLn g2]
  · rw [if_neg g, if_neg (fun z => g z.1)]
theorem fill_l (h : vv_H) (t : Nat) {n : Nat} (hn : n < 100000) (v : Int64) : ∃ h', ff_J7_fill_d0a16 h t n v = some h' ∧ (∀ k j, h'.2.1 k j = if k = t ∧ j < n then v else h.2.1 k j) ∧ h'.1 = h.1 ∧ h'.2.2 = h.2.2 := by
  have hL := lp_count (f := fun (zs : Int32 × vv_H) => ff_J7_fill_d0a16_B6 t n v (Int32.ofNat n) zs.1 zs.2) (fun i s => ∃ g, s = (nI i, g) ∧ (∀ k j, g.2.1 k j = if k = t ∧ j < i then v else h.2.1 k j) ∧ g.1 = h.1 ∧ g.2.2 = h.2.2) (fun g => (∀ k j, g.2.1 k j = if k = t ∧ j < n then v else h.2.1 k j) ∧ g.1 = h.1 ∧ g.2.2 = h.2.2) n ?hs ?he vv_F 0 ((0 : Int32), h) ⟨h, rfl, fun k j => by rw [if_neg (by omega)], rfl, rfl⟩ (Nat.zero_le _) (vv_F_lt (by omega))
  case hs =>
    rintro i s hi ⟨g, rfl, hg, hg2⟩
    left
    simp (disch := omega) only [ff_J7_fill_d0a16_B6, show Int32.ofNat n = nI n from rfl, if_neg (nI_nle' hi (by omega)), ck_lit, nI_clamp, vv_let, nI_1]
    refine ⟨_, rfl, _, rfl, fun k j => ?_, hg2⟩
    rw [lu_e2, hg]
    by_cases e : k = t ∧ j = i
    · rw [if_pos e, if_pos (by omega)]
    · rw [if_neg e]
      by_cases e2 : k = t ∧ j < i
      · rw [if_pos e2, if_pos (by omega)]
      · rw [if_neg e2, if_neg (by omega)]
  case he =>
    rintro s ⟨g, rfl, hg⟩
    simp only [ff_J7_fill_d0a16_B6, show Int32.ofNat n = nI n from rfl, if_pos (nI_le (Nat.le_refl n) (show n < 2 ^ 31 by omega))]
    exact ⟨_, rfl, hg⟩
  obtain ⟨h', e, hh⟩ := hL
  exact ⟨h', by simp only [ff_J7_fill_d0a16, vv_let, e, Option.bind_some], hh⟩
theorem fbs_dg {c : vv_H} {B s b : Nat} (hb : b < B) : dg (fbs c B s) b = 1 ↔ lw c (nI b) s = 0 := by
  have e : fbs c B s = bs (fun b => if lw c (nI b) s = 0 then 1 else 0) B := by
    rw [← fn_bs B fun k _ => by split <;> omega]
    unfold fbs
    refine fn_cg fun k _ => ?_
    split
    · rw [Nat.one_mul]
    · rw [Nat.zero_mul]
  rw [e, dg_bs B (fun k _ => by split <;> omega) b hb]
  by_cases g : lw c (nI b) s = 0
  · rw [if_pos g]
    exact ⟨fun _ => g, fun _ => rfl⟩
  · rw [if_neg g]
    exact ⟨fun z => absurd z (by decide), fun z => absurd z g⟩
/-- the piece x is in a store and of the kind -/
def off (c : vv_H) (P : Nat) (kind : Int32) (x : Nat) : Prop := x < P ∧ 0 ≤ (c.1 160 x).toInt ∧ c.1 23 (c.1 157 x).toNatClampNeg = kind
def szo (c : vv_H) (x : Nat) : Nat := (c.1 157 x).toNatClampNeg
/-- what is laid out before the size s, and of it before the piece p -/
def lay (c g : vv_H) (P B : Nat) (kind : Int32) (s p : Nat) : Prop := g.2.2 = c.2.2 ∧ (∀ k j, k ≠ 170 → g.1 k j = c.1 k j) ∧ g.1 170 2 = nI B ∧
  (∀ b x, b < 32 → (tb (g.2.1 171 b) x = true ↔ b < B ∧ off c P kind x ∧ lw c (nI b) (szo c x) = 0 ∧ (szo c x < s ∨ szo c x = s ∧ x < p))) ∧
  ∀ sh x, sh < 100 → (tb (g.2.1 175 sh) x = true ↔ off c P kind x ∧ c.1 159 x = nI sh ∧ (szo c x < s ∨ szo c x = s ∧ x < p))
theorem lay_RR {c g r : vv_H} {P B : Nat} {kind : Int32} {s p : Nat} (H : RR c r) (h : lay c g P B kind s p) : RR g r := RR_core H ⟨by rw [h.1], fun k j q => h.2.1 k j (by unfold scC at q; omega)⟩ (coR_rf r)
theorem offer2_c {g : vv_H} {B p sh f : Nat} (hB : B ≤ 12) (eB : g.1 170 2 = nI B) (hp : p < 36) (hsh : sh < 100) (hf : f < 2 ^ 12) : ∃ g', ff_X3_offer g (nI p) (nI sh) (nI f) = some g' ∧ g'.1 = g.1 ∧ g'.2.2 = g.2.2 ∧ (∀ b x, b < 32 → (tb (g'.2.1 171 b) x = true ↔ tb (g.2.1 171 b) x = true ∨ (b < B ∧ dg f b = 1 ∧ x = p))) ∧ ∀ s x, s < 100 → (tb (g'.2.1 175 s) x = true ↔ tb (g.2.1 175 s) x = true ∨ (s = sh ∧ x = p)) := by
  obtain ⟨g3, e3⟩ : ∃ g3, g3 = vv_lu g 175 sh (g.2.1 175 sh ||| lN (2 ^ p)) := ⟨_, rfl⟩
  have tp : ∀ (a : Int64) x, tb (a ||| lN (2 ^ p)) x = true ↔ tb a x = true ∨ x = p := fun a x => by
    rw [tb_or, Bool.or_eq_true]
    by_cases hx : x < 64
    · rw [tb_p hx, decide_eq_true_eq]
      exact ⟨fun z => z.elim Or.inl fun z => Or.inr z.symm, fun z => z.elim Or.inl fun z => Or.inr z.symm⟩
    · rw [tb_hi _ (by omega), tb_hi _ (by omega)]
      exact ⟨fun z => z.elim (fun z => absurd z (by decide)) (fun z => absurd z (by decide)), fun z => z.elim (fun z => absurd z (by decide)) (fun z => by omega)⟩
  have hL := lp_count (f := fun (zs : Int32 × vv_H) => ff_X3_offer_B15 (nI p) (nI f) zs.1 zs.2) (fun i z => ∃ g', z = (nI i, g') ∧ g'.1 = g.1 ∧ g'.2.2 = g.2.2 ∧ g'.2.1 175 = g3.2.1 175 ∧ ∀ b x, b < 32 → (tb (g'.2.1 171 b) x = true ↔ tb (g.2.1 171 b) x = true ∨ (b < i ∧ dg f b = 1 ∧ x = p))) (fun g' => g'.1 = g.1 ∧ g'.2.2 = g.2.2 ∧ g'.2.1 175 = g3.2.1 175 ∧ ∀ b x, b < 32 → (tb (g'.2.1 171 b) x = true ↔ tb (g.2.1 171 b) x = true ∨ (b < B ∧ dg f b = 1 ∧ x = p))) B ?hs ?he vv_F 0 ((0 : Int32), g3) ⟨g3, rfl, by rw [e3]; rfl, by rw [e3]; rfl, rfl, fun b x _ => by rw [e3, lu_e2, if_neg (by omega)]; exact ⟨Or.inl, fun z => z.elim id fun z => absurd z.1 (Nat.not_lt_zero b)⟩⟩ (Nat.zero_le _) (vv_F_lt (by omega))
  case hs =>
    rintro i z hi ⟨g', rfl, a1, a2, a3, a4⟩
    left
    have eB' : g'.1 170 2 = nI B := by rw [a1, eB]
    have e0 : (nI (dg f i) = 0) ↔ dg f i = 0 := nI_eq (by have := dg_1 f i; omega) (show 0 < 2 ^ 31 by decide)
    have E : ff_X3_offer_B15 (nI p) (nI f) (nI i) g' = if dg f i = 0 then some (.inl (nI (i + 1), g')) else some (.inl (nI (i + 1), vv_lu g' 171 i (g'.2.1 171 i ||| lN (2 ^ p)))) := by
      unfold ff_X3_offer_B15
      rw [eB', if_neg (nI_nle' hi (by omega)), shr_dg (show f < 2 ^ 31 by omega) (show i < 16 by omega), tb_pw p (by omega)]
      by_cases c : dg f i = 0
      · rw [if_pos (e0.mpr c), if_pos c, vlE, nI_1]
      · rw [if_neg (fun z => c (e0.mp z)), if_neg c, ck_lit (show i < 32 by omega) (by decide), ck_lit (show i < 32 by omega) (by decide), vlE, vlE, nI_clamp (by omega), nI_1]
    show ∃ s', ff_X3_offer_B15 (nI p) (nI f) (nI i) g' = some (.inl s') ∧ _
    rw [E]
    have d1 := dg_1 f i
    by_cases c : dg f i = 0
    · rw [if_pos c]
      refine ⟨_, rfl, g', rfl, a1, a2, a3, fun b x hb => ?_⟩
      rw [a4 b x hb]
      refine ⟨fun z => z.elim Or.inl fun z => Or.inr ⟨by omega, z.2⟩, fun z => z.elim Or.inl fun z => Or.inr ⟨?_, z.2⟩⟩
      rcases Nat.lt_succ_iff_lt_or_eq.mp z.1 with k | rfl
      · exact k
      · omega
    · rw [if_neg c]
      refine ⟨_, rfl, _, rfl, a1, a2, ?_, fun b x hb => ?_⟩
      · rw [← a3]
        funext s
        rw [lu_e2, if_neg (by omega)]
      · rw [lu_e2]
        by_cases d : b = i
        · subst d
          rw [if_pos ⟨rfl, rfl⟩, tp, a4 b x hb]
          refine ⟨fun z => ?_, fun z => ?_⟩
          · rcases z with (z | z) | z
            · exact Or.inl z
            · exact Or.inr ⟨by omega, z.2⟩
            · exact Or.inr ⟨by omega, by omega, z⟩
          · rcases z with z | z
            · exact Or.inl (Or.inl z)
            · exact Or.inr z.2.2
        · rw [if_neg (fun z => d z.2), a4 b x hb]
          refine ⟨fun z => z.elim Or.inl fun z => Or.inr ⟨by omega, z.2⟩, fun z => z.elim Or.inl fun z => Or.inr ⟨by omega, z.2⟩⟩
  case he =>
    rintro z ⟨g', rfl, a⟩
    have eB' : g'.1 170 2 = nI B := by rw [a.1, eB]
    refine ⟨g', ?_, a⟩
    show ff_X3_offer_B15 (nI p) (nI f) (nI B) g' = _
    unfold ff_X3_offer_B15
    rw [eB', if_pos (nI_le (Nat.le_refl B) (by omega))]
  obtain ⟨g', e1, a1, a2, a3, a4⟩ := hL
  refine ⟨g', ?_, a1, a2, a4, fun s x hs => ?_⟩
  · unfold ff_X3_offer
    rw [ck_lit hsh (by decide), ck_lit hsh (by decide), vlE, nI_clamp (by omega), tb_pw p (by omega), ← e3, e1, Option.bind_some]
  · rw [a3, e3, lu_e2]
    by_cases d : s = sh
    · rw [if_pos ⟨rfl, d⟩, tp, d]
      exact ⟨fun z => z.elim Or.inl fun z => Or.inr ⟨rfl, z⟩, fun z => z.elim Or.inl fun z => Or.inr z.2⟩
    · rw [if_neg (fun z => d z.2)]
      exact ⟨Or.inl, fun z => z.elim id fun z => absurd z.1 d⟩
