def ov (o : Option Nat) : Int32 := match o with
  | some b => nI b
  | none => -1
/-- the component's arrays say hd, but for the piece p0 -/
def hol (h : vv_H) (hd : Nat → Option Nat) (p0 : Option Nat) : Prop := (∀ p, p < 36 → p0 ≠ some p → h.1 173 p = ov (hd p)) ∧ ∀ b, b < 12 → (∀ p, hd p = some b → h.1 172 b = nI p) ∧ (¬ mtd hd b → h.1 172 b = -1)
def frD (h g : vv_H) : Prop := g.2 = h.2 ∧ ∀ k j, ¬ (172 ≤ k ∧ k ≤ 174) → g.1 k j = h.1 k j
theorem frD_rf (h : vv_H) : frD h h := ⟨rfl, fun _ _ _ => rfl⟩
theorem frD_tr {a b c : vv_H} (h1 : frD a b) (h2 : frD b c) : frD a c := ⟨h2.1.trans h1.1, fun k j q => (h2.2 k j q).trans (h1.2 k j q)⟩
theorem frD_iu {h g : vv_H} {k j : Nat} {v : Int32} (q : frD h g) (hk : 172 ≤ k ∧ k ≤ 174) : frD h (vv_iu g k j v) := ⟨q.1, fun a i h1 => by
  rw [vv_iu_ne (by omega)]
  exact q.2 a i h1⟩
/-- how each body opened was come to: by its piece q, from the body pb j -/
def chn (hd : Nat → Option Nat) (rel : Nat → Nat → Prop) (h : vv_H) (pb : Nat → Nat) (i b : Nat) : Prop := ∃ q j, j < i ∧ hd q = some b ∧ h.1 174 q = nI (pb j) ∧ rel (pb j) q
theorem handOn_c {rel : Nat → Nat → Prop} {X D : Nat → Prop} {hd : Nat → Option Nat} {h : vv_H} {pb : Nat → Nat} {t p0 b0 : Nat} (ht : t < 12) (hp0 : p0 < 36) (hb : ∀ i, i ≤ t → pb i < 12) (hinj : ∀ i j, i ≤ t → j ≤ t → pb i = pb j → i = j) (hpb0 : pb 0 = b0) (hr36 : ∀ b p, rel b p → p < 36) (hm : mat rel X hd) (hc : clo rel D hd) (hu : ¬ mtd hd b0) (hh : hol h hd none) (hp : hd p0 = none) (h174 : h.1 174 p0 = nI (pb t)) (hrel : rel (pb t) p0) (hch : ∀ i, 0 < i → i ≤ t → chn hd rel h pb i (pb i)) : ∃ g hd', ff_X3_handOn h (nI p0) = some g ∧ frD h g ∧ hol g hd' none ∧ mat rel (fun b => X b ∨ b = b0) hd' ∧ clo rel D hd' ∧ ∀ b, mtd hd' b ↔ mtd hd b ∨ b = b0 := by
  obtain ⟨X', hX'⟩ : ∃ X' : Nat → Prop, X' = fun b => X b ∨ b = b0 := ⟨_, rfl⟩
  have hXi : ∀ b, X' b ↔ X b ∨ b = b0 := fun b => by rw [hX']
  rw [← hX']
  have hXpb : ∀ i, i ≤ t → X' (pb i) := fun i hi => by
    rcases Nat.eq_zero_or_pos i with rfl | h0
    · exact (hXi _).mpr (Or.inr hpb0)
    · obtain ⟨q, j, _, q1, _⟩ := hch i h0 hi
      exact (hXi _).mpr (Or.inl (hm.1 q _ q1).2.2.1)
  have hL := lp_count (f := fun (zs : Int32 × Int32 × vv_H) => ff_X3_handOn_B4 zs.1 zs.2.1 zs.2.2) (fun s z => (∃ (p i : Nat) (g : vv_H) (hd' : Nat → Option Nat), z = (nI p, nI s, g) ∧ p < 36 ∧ i + s ≤ t ∧ hd' p = none ∧ mat rel X' hd' ∧ clo rel D hd' ∧ hol g hd' (some p) ∧ h.1 174 p = nI (pb i) ∧ rel (pb i) p ∧ (∀ j, j ≤ i → ∀ x, hd' x = some (pb j) ↔ hd x = some (pb j)) ∧ (∀ b, mtd hd' b ↔ mtd hd b) ∧ frD h g ∧ g.1 174 = h.1 174) ∨ (∃ (g : vv_H) (hd' : Nat → Option Nat), z = (-1, nI s, g) ∧ frD h g ∧ hol g hd' none ∧ mat rel X' hd' ∧ clo rel D hd' ∧ ∀ b, mtd hd' b ↔ mtd hd b ∨ b = b0)) (fun g => ∃ hd', frD h g ∧ hol g hd' none ∧ mat rel X' hd' ∧ clo rel D hd' ∧ ∀ b, mtd hd' b ↔ mtd hd b ∨ b = b0) (t + 1) ?hs ?he vv_F 0 (nI p0, (0 : Int32), h) (Or.inl ⟨p0, t, h, hd, rfl, hp0, by omega, hp, ⟨fun p b q => by obtain ⟨a1, a2, a3, a4⟩ := hm.1 p b q; exact ⟨a1, a2, (hXi b).mpr (Or.inl a3), a4⟩, hm.2⟩, hc, ⟨fun p q1 _ => hh.1 p q1 (fun e => by cases e), hh.2⟩, h174, hrel, fun _ _ _ => Iff.rfl, fun _ => Iff.rfl, frD_rf h, rfl⟩) (Nat.zero_le _) (vv_F_lt (by omega))
  case hs =>
    rintro s z hs (⟨p, i, g, hd', rfl, a1, a2, a3, a4, a5, a6, a7, a8, a9, a10, a11, a12⟩ | ⟨g, hd', rfl, a⟩)
    case inr =>
      right
      refine ⟨g, ?_, hd', a⟩
      show ff_X3_handOn_B4 (-1) (nI s) g = _
      unfold ff_X3_handOn_B4
      rw [if_neg (show ¬ (12 : Int32) ≤ nI s from nI_nle' (show s < 12 by omega) (by decide)), if_pos (by decide)]
    left
    have bi := hb i (by omega)
    have e12 : ¬ (12 : Int32) ≤ nI s := nI_nle' (show s < 12 by omega) (by decide)
    have w2 : g.1 174 p = nI (pb i) := by rw [a12, a7]
    have E : ff_X3_handOn_B4 (nI p) (nI s) g = some (.inl (g.1 172 (pb i), nI (s + 1), vv_iu (vv_iu g 172 (pb i) (nI p)) 173 p (nI (pb i)))) := by
      simp (disch := omega) only [ff_X3_handOn_B4, if_neg e12, if_neg (nI_pos (show p < 2 ^ 31 by omega)), ck_lit, nI_clamp, w2, vv_let, nI_1]
    refine ⟨_, E, ?_⟩
    obtain ⟨g', eg⟩ : ∃ g', g' = vv_iu (vv_iu g 172 (pb i) (nI p)) 173 p (nI (pb i)) := ⟨_, rfl⟩
    rw [← eg]
    have fg : frD h g' := by rw [eg]; exact frD_iu (frD_iu a11 (by omega)) (by omega)
    have g174 : g'.1 174 = h.1 174 := by rw [eg, vv_iu_ne (by omega), vv_iu_ne (by omega), a12]
    have M := mv_mat a4 a1 bi (hXpb i (by omega)) a8 a3
    obtain ⟨nD, C⟩ := mv_clo a5 a8 a3
    have MT := mv_mtd (b := pb i) a3
    -- the arrays behind it
    have H : ∀ q0 : Option Nat, (∀ x, hd' x = some (pb i) → q0 = some x) → hol g' (mv hd' (pb i) p) q0 := fun q0 hq => by
      refine ⟨fun x hx hne => ?_, fun b hb12 => ⟨fun x hx => ?_, fun hn => ?_⟩⟩
      · rw [eg, vv_iu_e]
        by_cases e : x = p
        · rw [if_pos ⟨rfl, e⟩, e, mv_p]
          rfl
        · rw [if_neg (fun k => e k.2), vv_iu_ne (by omega), mv_x e (fun k => hne (hq x k)), a6.1 x hx (fun k => e (Option.some.inj k).symm)]
      · rw [eg, vv_iu_ne (by omega), vv_iu_e]
        rcases mv_some hx with ⟨rfl, rfl⟩ | ⟨k1, k2, k3⟩
        · rw [if_pos ⟨rfl, rfl⟩]
        · rw [if_neg (fun k => k2 k.2)]
          exact (a6.2 b hb12).1 x k3
      · have n1 : ¬ mtd hd' b := fun k => hn ((MT b).mpr (Or.inl k))
        have n2 : b ≠ pb i := fun k => hn ((MT b).mpr (Or.inr k))
        rw [eg, vv_iu_ne (by omega), vv_iu_e, if_neg (fun k => n2 k.2)]
        exact (a6.2 b hb12).2 n1
    rcases Nat.eq_zero_or_pos i with rfl | hi0
    · right
      have nm : ¬ mtd hd' (pb 0) := fun k => hu (by rw [← hpb0]; exact (a10 _).mp k)
      refine ⟨g', mv hd' (pb 0) p, by rw [(a6.2 (pb 0) bi).2 nm], fg, H none fun x hx => absurd ⟨x, hx⟩ nm, M, C, fun b => ?_⟩
      rw [MT b, a10 b, hpb0]
    · left
      obtain ⟨q, j, j1, j2, j3, j4⟩ := hch i hi0 (by omega)
      have hq : hd' q = some (pb i) := (a9 i (Nat.le_refl _) q).mpr j2
      have hqp : q ≠ p := fun k => by rw [k, a3] at hq; cases hq
      refine ⟨q, j, g', mv hd' (pb i) p, by rw [(a6.2 (pb i) bi).1 q hq], hr36 _ _ j4, by omega, mv_q hqp hq, M, C, H (some q) fun x hx => by rw [a4.2 x q _ hx hq], j3, j4, fun k hk x => ?_, fun b => ?_, fg, g174⟩
      · have hne : pb k ≠ pb i := fun e => by
          have := hinj k i (by omega) (by omega) e
          omega
        rw [← a9 k (by omega) x]
        constructor
        · intro e
          rcases mv_some e with ⟨_, k2⟩ | ⟨_, _, k3⟩
          · exact absurd k2 hne
          · exact k3
        · intro e
          rw [mv_x (fun z => by rw [z, a3] at e; cases e) (fun z => by rw [e] at z; exact hne (Option.some.inj z))]
          exact e
      · rw [MT b, a10 b]
        exact ⟨fun k => k.elim id fun k => by rw [k]; exact ⟨q, j2⟩, Or.inl⟩
  case he =>
    rintro z (⟨p, i, g, hd', rfl, a1, a2, _⟩ | ⟨g, hd', rfl, a⟩)
    · omega
    · refine ⟨g, ?_, hd', a⟩
      show ff_X3_handOn_B4 (-1) (nI (t + 1)) g = _
      unfold ff_X3_handOn_B4
      split
      · rfl
      · rw [if_pos (by decide)]
  obtain ⟨g, e1, hd', h1, h2, h3, h4, h5⟩ := hL
  exact ⟨g, hd', by rw [ff_X3_handOn, e1]; rfl, h1, h2, h3, h4, h5⟩
