theorem que_36 {h g : vv_H} {P a e b0 : Nat} {hd : Nat → Option Nat} {qu : Nat → Nat} {to : Nat} (q : que h g P a e b0 hd qu to) : to ≤ P := by
  have := cu_inj (m := P) to (fun _ => 1) (fun _ => 1) qu (fun _ _ => Nat.le_refl _) (fun i hi _ => ⟨(q.1 i hi).2.1, rfl⟩) (fun i j hi hj _ _ e => q.2.1 i j hi hj e)
  rw [cu_one, cu_one] at this
  exact this
theorem joins_r {h : vv_H} {P a e b0 n : Nat} {hd : Nat → Option Nat} {X D : Nat → Prop} (hP : P ≤ 36) (eP : h.1 0 44 = nI P) (hb0 : b0 < 12) (ha : a < 100) (he : e < 100) (hs : stm (rlr h P a e) X n hd D) (hh : hor h P hd none) (hX : ¬ X b0) : ∃ z g hd' D' n', ff_X12_joins h (nI b0) (nI a) (nI e) = some (z, g) ∧ frJ h g ∧ hor g P hd' none ∧ stm (rlr h P a e) (fun b => X b ∨ b = b0) n' hd' D' ∧ ((z = 0 ∧ n' = n) ∨ (z = 1 ∧ n' = n + 1)) := by
  obtain ⟨hm, hc, hv, hn⟩ := hs
  have hu : ¬ mtd hd b0 := fun ⟨p, hp⟩ => hX (hm.1 p b0 hp).2.2.1
  obtain ⟨to0, qu0, g0, e0, f0, t0, q0, s0, n0⟩ := first_r (h := h) (a := a) (e := e) hd hP eP hb0 ha he
  -- when the queue is done
  have done : ∀ (f to : Nat) (qu : Nat → Nat) (g : vv_H), to ≤ f → que h g P a e b0 hd qu to → (∀ i, i < f → i < to → ∃ b', hd (qu i) = some b' ∧ ∀ x, rlr h P a e b' x → ∃ j, j < to ∧ qu j = x) → (∀ x, rlr h P a e b0 x → ∃ j, j < to ∧ qu j = x) → clo (rlr h P a e) (fun x => x = b0 ∨ ∃ i, i < to ∧ hd (qu i) = some x) hd := fun f to qu g hft q pr n0 x hx p hp => by
    have inq : (∃ j, j < to ∧ qu j = p) → ∃ b', (b' = b0 ∨ ∃ i, i < to ∧ hd (qu i) = some b') ∧ hd p = some b' := fun ⟨j, j1, j2⟩ => by
      obtain ⟨b', h1, _⟩ := pr j (by omega) j1
      exact ⟨b', Or.inr ⟨j, j1, h1⟩, by rw [← j2]; exact h1⟩
    rcases hx with rfl | ⟨i, i1, i2⟩
    · exact inq (n0 p hp)
    · obtain ⟨b', h1, h2⟩ := pr i (by omega) i1
      rw [h1] at i2
      have : b' = x := Option.some.inj i2
      subst this
      exact inq (h2 p hp)
  have hL := lp_count (f := fun (zs : Int32 × Int32 × vv_H) => ff_X12_joins_B111 (nI b0) zs.1 zs.2.1 zs.2.2) (fun f z => ∃ to qu g, z = (nI f, nI to, g) ∧ f ≤ to ∧ frS h g ∧ que h g P a e b0 hd qu to ∧ sen h g a e qu to P ∧ (∀ i, i < f → ∃ b', hd (qu i) = some b' ∧ ∀ x, rlr h P a e b' x → ∃ j, j < to ∧ qu j = x) ∧ ∀ x, rlr h P a e b0 x → ∃ j, j < to ∧ qu j = x) (fun s => (∃ g R, s = .inl g ∧ frS h g ∧ clo (rlr h P a e) R hd ∧ R b0) ∨ (∃ f to qu g, s = .inr (nI (qu f), g) ∧ frS h g ∧ que h g P a e b0 hd qu to ∧ f < to ∧ hd (qu f) = none)) 36 ?hs ?he vv_F 0 ((0 : Int32), nI to0, g0) ⟨to0, qu0, g0, rfl, Nat.zero_le _, f0, q0, s0, fun i hi => absurd hi (Nat.not_lt_zero i), n0⟩ (by decide) (vv_F_lt (by decide))
  case he =>
    rintro z ⟨to, qu, g, rfl, a1, a2, a3, a4, a5, a6⟩
    have := que_36 a3
    refine ⟨.inl g, ?_, Or.inl ⟨g, _, rfl, a2, done 36 to qu g (by omega) a3 (fun i h1 _ => a5 i h1) a6, Or.inl rfl⟩⟩
    show ff_X12_joins_B111 (nI b0) (nI 36) (nI to) g = _
    unfold ff_X12_joins_B111
    rw [if_pos (nI_le (show to ≤ 36 by omega) (by decide))]
  case hs =>
    rintro f z hf ⟨to, qu, g, rfl, a1, a2, a3, a4, a5, a6⟩
    have tP := que_36 a3
    by_cases c : to ≤ f
    · right
      refine ⟨.inl g, ?_, Or.inl ⟨g, _, rfl, a2, done f to qu g c a3 (fun i h1 _ => a5 i h1) a6, Or.inl rfl⟩⟩
      show ff_X12_joins_B111 (nI b0) (nI f) (nI to) g = _
      unfold ff_X12_joins_B111
      rw [if_pos (nI_le c (by omega))]
    · have hfl : f < to := by omega
      have qf := (a3.1 f hfl)
      have q36 : qu f < 36 := by have := qf.2.1; omega
      have g40 : g.1 40 (qu f) = og (hd (qu f)) := by rw [a2.2 40 _ (by omega), hh _ qf.2.1 (fun z => by cases z)]
      have E : ff_X12_joins_B111 (nI b0) (nI f) (nI to) g = if og (hd (qu f)) = (-4 : Int32) then some (.inr (.inr (nI (qu f), g))) else (vv_lp (fun (zs : Int32 × Int32 × vv_H) => ff_X12_joins_B154 (nI b0) (nI (f + 1)) (nI (qu f)) zs.1 zs.2.1 zs.2.2) vv_F (nI to, (0 : Int32), g)).bind (fun (e55 : (Int32 × vv_H)) => some (.inl (nI (f + 1), e55.1, e55.2))) := by
        unfold ff_X12_joins_B111
        rw [if_neg (nI_nle' hfl (by omega)), ck_lit (show f < 36 by omega) (by decide), vlE, vlE, nI_clamp (show f < 2 ^ 31 by omega), qf.1, ck_lit q36 (by decide), nI_clamp (show qu f < 2 ^ 31 by omega), g40, nI_1]
      cases ho : hd (qu f) with
      | none =>
        right
        rw [ho, if_pos (show og none = (-4 : Int32) from rfl)] at E
        exact ⟨_, E, Or.inr ⟨f, to, qu, g, rfl, a2, a3, hfl, ho⟩⟩
      | some b' =>
        left
        have hb' := (hm.1 _ _ ho).2.1
        rw [ho, if_neg (show ¬ og (some b') = (-4 : Int32) from m4 (by omega))] at E
        have e40 : h.1 40 (qu f) = nI b' := by rw [hh _ qf.2.1 (fun z => by cases z), ho]; rfl
        obtain ⟨to', qu', g', y1, y2, y3, y4, y5, y6, y7⟩ := second_r hP eP hb' a2 a3 a4 hfl ho e40 (nI b0) (nI (f + 1))
        rw [y1, Option.bind_some] at E
        have ext : ∀ x, (∃ j, j < to ∧ qu j = x) → ∃ j, j < to' ∧ qu' j = x := fun x ⟨j, j1, j2⟩ => ⟨j, by omega, by rw [y6 j j1]; exact j2⟩
        refine ⟨_, E, to', qu', g', rfl, by omega, y2, y4, y5, fun i hi => ?_, fun x hx => ext x (a6 x hx)⟩
        rcases Nat.lt_succ_iff_lt_or_eq.mp hi with k | rfl
        · obtain ⟨b2, h1, h2⟩ := a5 i k
          exact ⟨b2, by rw [y6 i (by omega)]; exact h1, fun x hx => ext x (h2 x hx)⟩
        · exact ⟨b', by rw [y6 i hfl]; exact ho, y7⟩
  obtain ⟨s, e1, hJ⟩ := hL
  have E : ff_X12_joins h (nI b0) (nI a) (nI e) = (some s).bind (Sum.elim (fun (e58 : (vv_H)) => some ((0 : Int32), e58)) (fun (e59 : (Int32 × vv_H)) => (ff_X12_shift e59.2 e59.1 (nI b0)).bind (fun r60 => some ((1 : Int32), r60)))) := by
    unfold ff_X12_joins
    rw [e0, Option.bind_some, e1]
  rw [Option.bind_some] at E
  rcases hJ with ⟨g, R, rfl, g1, c1, c2⟩ | ⟨f, to, qu, g, rfl, g1, q, hf, ho⟩
  · refine ⟨0, g, hd, _, n, E, frS_J g1, fun p hp hne => ?_, stm_no ⟨hm, hc, hv, hn⟩ c1 c2, Or.inl ⟨rfl, rfl⟩⟩
    rw [g1.2 40 p (by omega)]
    exact hh p hp hne
  · have hh' : hor g P hd none := fun p hp hne => by
      rw [g1.2 40 p (by omega)]
      exact hh p hp hne
    obtain ⟨g2, hd', y1, y2, y3, y4, y5, y6⟩ := shift_r hP hb0 q hf ho hm hc hu hh'
    refine ⟨1, g2, hd', D, n + 1, ?_, frJ_tr (frS_J g1) y2, y3, stm_yes ⟨hm, hc, hv, hn⟩ hb0 hu y4 y5 y6, Or.inr ⟨rfl, rfl⟩⟩
    rw [E, Sum.elim_inr, y1, Option.bind_some]
/-- how many of the bodies bs can have pieces -/
theorem most_r {h : vv_H} {P B a e s : Nat} (hP : P ≤ 36) (eP : h.1 0 44 = nI P) (hB : B ≤ 12) (eB : h.1 0 1 = nI B) (ha : a < 100) (he : e < 100) (hs : s < 2 ^ 31) : ∃ n g, ff_X12_most h (nI s) (nI a) (nI e) = some (nI n, g) ∧ frJ h g ∧ good (rlr h P a e) (fun b => b < B ∧ dg s b = 1) n ∧ n ≤ 12 := by
  obtain ⟨m1, em⟩ : ∃ m1 : Int32, m1 = -4 := ⟨_, rfl⟩
  have hA := lp_count (f := fun (zs : Int32 × vv_H) => ff_X12_most_B6 (nI s) (nI a) (nI e) 0 zs.1 zs.2) (fun p z => ∃ g, z = (nI p, g) ∧ frJ h g ∧ ∀ x, x < p → g.1 40 x = m1) (fun g => frJ h g ∧ ∀ x, x < P → g.1 40 x = m1) P ?hs ?he vv_F 0 ((0 : Int32), h) ⟨h, rfl, frJ_rf h, fun x hx => absurd hx (Nat.not_lt_zero x)⟩ (Nat.zero_le _) (vv_F_lt (by omega))
  case hs =>
    rintro p z hp ⟨g, rfl, a1, a2⟩
    left
    have eP' : g.1 0 44 = nI P := by rw [a1.2 0 44 (by omega), eP]
    refine ⟨(nI (p + 1), vv_iu g 40 p m1), ?_, _, rfl, frJ_iu a1 (by omega), fun x hx => ?_⟩
    · show ff_X12_most_B6 (nI s) (nI a) (nI e) 0 (nI p) g = _
      unfold ff_X12_most_B6
      rw [eP', if_neg (nI_nle' hp (by omega)), ck_lit (show p < 36 by omega) (by decide), vlE, vlE, nI_clamp (by omega), nI_1, em]
    · rw [vv_iu_e]
      by_cases d : x = p
      · rw [if_pos ⟨rfl, d⟩]
      · rw [if_neg (fun z => d z.2)]
        exact a2 x (by omega)
  case he =>
    rintro z ⟨g, rfl, a1, a2⟩
    have eP' : g.1 0 44 = nI P := by rw [a1.2 0 44 (by omega), eP]
    refine ⟨g, ?_, a1, a2⟩
    show ff_X12_most_B6 (nI s) (nI a) (nI e) 0 (nI P) g = _
    unfold ff_X12_most_B6
    rw [eP', if_pos (nI_le (Nat.le_refl P) (by omega))]
  obtain ⟨g0, e0, f0, v0⟩ := hA
  have eB0 : g0.1 0 1 = nI B := by rw [f0.2 0 1 (by omega), eB]
  have relfr : ∀ g, frJ h g → rlr g P a e = rlr h P a e := fun g q => by
    funext b p
    unfold rlr frr
    rw [q.2 39 _ (by omega), q.2 44 _ (by omega), q.2 31 _ (by omega)]
  have hL := lp_count (f := fun (zs : Int32 × Int32 × vv_H) => ff_X12_most_B33 (nI s) (nI a) (nI e) zs.1 zs.2.1 zs.2.2) (fun i z => ∃ n g hd D, z = (nI n, nI i, g) ∧ frJ h g ∧ hor g P hd none ∧ stm (rlr h P a e) (fun b => b < i ∧ dg s b = 1) n hd D) (fun z => ∃ n g hd D, z = (nI n, g) ∧ frJ h g ∧ hor g P hd none ∧ stm (rlr h P a e) (fun b => b < B ∧ dg s b = 1) n hd D) B ?hs2 ?he2 vv_F 0 ((0 : Int32), (0 : Int32), g0) ⟨0, g0, fun _ => none, fun _ => False, rfl, f0, fun p hp _ => by rw [v0 p hp, em]; rfl, stm_X (stm_0 _) fun b => ⟨fun q => q.elim, fun q => by omega⟩⟩ (Nat.zero_le _) (vv_F_lt (by omega))
  case hs2 =>
    rintro i z hi ⟨n, g, hd, D, rfl, a1, a2, a3⟩
    left
    have eB' : g.1 0 1 = nI B := by rw [a1.2 0 1 (by omega), eB]
    have eP' : g.1 0 44 = nI P := by rw [a1.2 0 44 (by omega), eP]
    have e1 : (nI (dg s i) = 1) ↔ dg s i = 1 := nI_eq (by have := dg_1 s i; omega) (show 1 < 2 ^ 31 by decide)
    by_cases c : dg s i = 1
    · have er := relfr g a1
      obtain ⟨z, g', hd', D', n', d1, d2, d3, d4, d5⟩ := joins_r (h := g) (P := P) (a := a) (e := e) (b0 := i) hP eP' (by omega) ha he (by rw [er]; exact a3) a2 (fun q => by omega)
      rw [er] at d4
      have d4' := stm_X d4 (Y := fun b => b < i + 1 ∧ dg s b = 1) fun b => ⟨fun q => by
        rcases q with q | rfl
        · exact ⟨by omega, q.2⟩
        · exact ⟨by omega, c⟩, fun q => by
        rcases Nat.lt_succ_iff_lt_or_eq.mp q.1 with k | rfl
        · exact Or.inl ⟨k, q.2⟩
        · exact Or.inr rfl⟩
      have E : ff_X12_most_B33 (nI s) (nI a) (nI e) (nI n) (nI i) g = some (.inl (nI n', nI (i + 1), g')) := by
        unfold ff_X12_most_B33
        rw [eB', if_neg (nI_nle' hi (by omega)), shr_dg hs (show i < 16 by omega), if_pos (e1.mpr c), d1, Option.bind_some]
        rcases d5 with ⟨rfl, rfl⟩ | ⟨rfl, rfl⟩
        · rw [if_pos rfl, vlE, nI_1, Int32.add_zero]
        · rw [if_neg (show ¬ (1 : Int32) = 0 from by decide), vlE, nI_1, nI_1]
      exact ⟨_, E, n', g', hd', D', rfl, frJ_tr a1 d2, d3, d4'⟩
    · have E : ff_X12_most_B33 (nI s) (nI a) (nI e) (nI n) (nI i) g = some (.inl (nI n, nI (i + 1), g)) := by
        unfold ff_X12_most_B33
        rw [eB', if_neg (nI_nle' hi (by omega)), shr_dg hs (show i < 16 by omega), if_neg (fun z => c (e1.mp z)), vlE, nI_1, Int32.add_zero]
      refine ⟨_, E, n, g, hd, D, rfl, a1, a2, stm_X a3 fun b => ⟨fun q => ⟨by omega, q.2⟩, fun q => ?_⟩⟩
      rcases Nat.lt_succ_iff_lt_or_eq.mp q.1 with k | rfl
      · exact ⟨k, q.2⟩
      · exact absurd q.2 c
  case he2 =>
    rintro z ⟨n, g, hd, D, rfl, a1, a2, a3⟩
    have eB' : g.1 0 1 = nI B := by rw [a1.2 0 1 (by omega), eB]
    refine ⟨(nI n, g), ?_, n, g, hd, D, rfl, a1, a2, a3⟩
    show ff_X12_most_B33 (nI s) (nI a) (nI e) (nI n) (nI B) g = _
    unfold ff_X12_most_B33
    rw [eB', if_pos (nI_le (Nat.le_refl B) (by omega))]
  obtain ⟨z, e1, n, g, hd, D, rfl, a1, a2, a3⟩ := hL
  refine ⟨n, g, ?_, a1, ⟨hd, D, a3⟩, by rw [a3.2.2.2]; exact cnt_12 hd⟩
  unfold ff_X12_most
  rw [e0, Option.bind_some, e1, Option.bind_some]
