def og (o : Option Nat) : Int32 := match o with
  | some b => nI b
  | none => -4
/-- the reference's row says hd, but for the piece p0 -/
def hor (h : vv_H) (P : Nat) (hd : Nat → Option Nat) (p0 : Option Nat) : Prop := ∀ p, p < P → p0 ≠ some p → h.1 40 p = og (hd p)
def frJ (h g : vv_H) : Prop := g.2 = h.2 ∧ ∀ k j, ¬ (40 ≤ k ∧ k ≤ 43) → g.1 k j = h.1 k j
theorem frJ_rf (h : vv_H) : frJ h h := ⟨rfl, fun _ _ _ => rfl⟩
theorem frJ_tr {a b c : vv_H} (h1 : frJ a b) (h2 : frJ b c) : frJ a c := ⟨h2.1.trans h1.1, fun k j q => (h2.2 k j q).trans (h1.2 k j q)⟩
theorem frJ_iu {h g : vv_H} {k j : Nat} {v : Int32} (q : frJ h g) (hk : 40 ≤ k ∧ k ≤ 43) : frJ h (vv_iu g k j v) := ⟨q.1, fun a i h1 => by
  rw [vv_iu_ne (by omega)]
  exact q.2 a i h1⟩
/-- the piece p is not given, and in the window -/
def frr (h : vv_H) (a e : Nat) (p : Nat) : Prop := h.1 44 p = 0 ∧ (a : Int) ≤ (h.1 31 p).toInt ∧ (h.1 31 p).toInt ≤ a + e
def rlr (h : vv_H) (P a e b p : Nat) : Prop := p < P ∧ ¬ h.1 39 (36 * b + p) = 0 ∧ frr h a e p
theorem frr_fr {h g : vv_H} (q : frJ h g) (a e p : Nat) : frr g a e p ↔ frr h a e p := by
  unfold frr
  rw [q.2 44 p (by omega), q.2 31 p (by omega)]
theorem isIn_r {h : vv_H} {p a e : Nat} (hp : p < 36) (ha : a < 100) (he : e < 100) : ff_X12_isIn h (nI p) (nI a) (nI e) = some (wi (h.1 31 p).toInt a (a + e)) := by
  simp (disch := omega) only [ff_X12_isIn, ck_lit, nI_clamp, m_in, Int32.toInt_toInt64, nI_add, nI_toInt, Option.bind_some, wi_zk]
  rfl
/-- the queue: its pieces, and how each was come to -/
def que (h g : vv_H) (P a e b0 : Nat) (hd : Nat → Option Nat) (qu : Nat → Nat) (to : Nat) : Prop :=
  (∀ i, i < to → g.1 42 i = nI (qu i) ∧ qu i < P ∧ frr h a e (qu i)) ∧ (∀ i j, i < to → j < to → qu i = qu j → i = j) ∧
  ∀ i, i < to → (g.1 41 (qu i) = -4 ∧ rlr h P a e b0 (qu i)) ∨ (∃ j b', j < i ∧ g.1 41 (qu i) = nI (qu j) ∧ hd (qu j) = some b' ∧ rlr h P a e b' (qu i))
theorem cu_one : ∀ k, cu (fun _ => 1) k = k := fun k => by
  induction k with
  | zero => rfl
  | succ k ih =>
    show cu (fun _ => 1) k + 1 = k + 1
    rw [ih]
theorem que_lt {h g : vv_H} {P a e b0 : Nat} {hd : Nat → Option Nat} {qu : Nat → Nat} {to p : Nat} (q : que h g P a e b0 hd qu to) (hp : p < P) (hn : ∀ i, i < to → qu i ≠ p) : to < P := by
  have := cu_inj (m := P) (to + 1) (fun _ => 1) (fun _ => 1) (fun i => if i < to then qu i else p) (fun _ _ => Nat.le_refl _) (fun i hi _ => by
    refine ⟨?_, rfl⟩
    show (if i < to then qu i else p) < P
    by_cases d : i < to
    · rw [if_pos d]
      exact (q.1 i d).2.1
    · rw [if_neg d]
      exact hp) (fun i j hi hj _ _ e => by
    by_cases d : i < to <;> by_cases d2 : j < to
    · rw [if_pos d, if_pos d2] at e
      exact q.2.1 i j d d2 e
    · rw [if_pos d, if_neg d2] at e
      exact absurd e (hn i d)
    · rw [if_neg d, if_pos d2] at e
      exact absurd e.symm (hn j d2)
    · omega)
  rw [cu_one, cu_one] at this
  omega
/-- one more in the queue -/
theorem que_up {h g g' : vv_H} {P a e b0 : Nat} {hd : Nat → Option Nat} {qu : Nat → Nat} {to p : Nat} (q : que h g P a e b0 hd qu to) (hp : p < P) (hf : frr h a e p) (hn : ∀ i, i < to → qu i ≠ p) (e42 : ∀ i, g'.1 42 i = if i = to then nI p else g.1 42 i) (e41 : ∀ x, x ≠ p → g'.1 41 x = g.1 41 x) (hc : (g'.1 41 p = -4 ∧ rlr h P a e b0 p) ∨ (∃ j b', j < to ∧ g'.1 41 p = nI (qu j) ∧ hd (qu j) = some b' ∧ rlr h P a e b' p)) : que h g' P a e b0 hd (pt qu to p) (to + 1) := by
  have pti : ∀ i, i < to → pt qu to p i = qu i := fun i hi => if_neg (by omega)
  have ptt : pt qu to p to = p := if_pos rfl
  refine ⟨fun i hi => ?_, fun i j hi hj e => ?_, fun i hi => ?_⟩
  · rcases Nat.lt_succ_iff_lt_or_eq.mp hi with k | rfl
    · rw [pti i k, e42, if_neg (by omega)]
      exact q.1 i k
    · rw [ptt, e42, if_pos rfl]
      exact ⟨rfl, hp, hf⟩
  · rcases Nat.lt_succ_iff_lt_or_eq.mp hi with k | rfl <;> rcases Nat.lt_succ_iff_lt_or_eq.mp hj with k2 | rfl
    · rw [pti i k, pti j k2] at e
      exact q.2.1 i j k k2 e
    · rw [pti i k, ptt] at e
      exact absurd e (hn i k)
    · rw [ptt, pti j k2] at e
      exact absurd e.symm (hn j k2)
    · rfl
  · rcases Nat.lt_succ_iff_lt_or_eq.mp hi with k | rfl
    · rw [pti i k, e41 _ (hn i k)]
      rcases q.2.2 i k with z | ⟨j, b', j1, j2, j3, j4⟩
      · exact Or.inl z
      · exact Or.inr ⟨j, b', j1, by rw [pti j (by omega)]; exact j2, by rw [pti j (by omega)]; exact j3, j4⟩
    · rw [ptt]
      rcases hc with z | ⟨j, b', j1, j2, j3, j4⟩
      · exact Or.inl z
      · exact Or.inr ⟨j, b', j1, by rw [pti j j1]; exact j2, by rw [pti j j1]; exact j3, j4⟩
theorem shift_r {h g : vv_H} {P a e b0 : Nat} {hd : Nat → Option Nat} {qu : Nat → Nat} {to f : Nat} {X D : Nat → Prop} (hP : P ≤ 36) (hb0 : b0 < 12) (q : que h g P a e b0 hd qu to) (hf : f < to) (hp : hd (qu f) = none) (hm : mat (rlr h P a e) X hd) (hc : clo (rlr h P a e) D hd) (hu : ¬ mtd hd b0) (hh : hor g P hd none) : ∃ g' hd', ff_X12_shift g (nI (qu f)) (nI b0) = some g' ∧ frJ g g' ∧ hor g' P hd' none ∧ mat (rlr h P a e) (fun b => X b ∨ b = b0) hd' ∧ clo (rlr h P a e) D hd' ∧ ∀ b, mtd hd' b ↔ mtd hd b ∨ b = b0 := by
  obtain ⟨rel, hrel⟩ : ∃ rel, rel = rlr h P a e := ⟨_, rfl⟩
  have hq36 : ∀ i, i < to → qu i < 36 := fun i hi => by have := (q.1 i hi).2.1; omega
  have f36 : f < 36 := by
    have := cu_inj (m := P) (f + 1) (fun _ => 1) (fun _ => 1) qu (fun _ _ => Nat.le_refl _) (fun i hi _ => ⟨(q.1 i (by omega)).2.1, rfl⟩) (fun i j hi hj _ _ e => q.2.1 i j (by omega) (by omega) e)
    rw [cu_one, cu_one] at this
    omega
  have hL := lp_count (f := fun (zs : Int32 × vv_H) => ff_X12_shift_B2 (nI b0) zs.1 zs.2) (fun s z => ∃ i g' hd', z = (nI (qu i), g') ∧ i + s ≤ f ∧ frJ g g' ∧ g'.1 41 = g.1 41 ∧ hd' (qu i) = none ∧ mat (rlr h P a e) X hd' ∧ clo (rlr h P a e) D hd' ∧ hor g' P hd' (some (qu i)) ∧ (∀ j, j < i → hd' (qu j) = hd (qu j)) ∧ ∀ b, mtd hd' b ↔ mtd hd b) (fun z => ∃ i g' hd', z = (nI (qu i), g') ∧ i ≤ f ∧ frJ g g' ∧ g'.1 41 (qu i) = -4 ∧ rlr h P a e b0 (qu i) ∧ hd' (qu i) = none ∧ mat (rlr h P a e) X hd' ∧ clo (rlr h P a e) D hd' ∧ hor g' P hd' (some (qu i)) ∧ ∀ b, mtd hd' b ↔ mtd hd b) (f + 1) ?hs ?he vv_F 0 (nI (qu f), g) ⟨f, g, hd, rfl, by omega, frJ_rf g, rfl, hp, hm, hc, fun p h1 _ => hh p h1 (fun e => by cases e), fun _ _ => rfl, fun _ => Iff.rfl⟩ (Nat.zero_le _) (vv_F_lt (by omega))
  case hs =>
    rintro s z hs ⟨i, g', hd', rfl, a1, a2, a3, a4, a5, a6, a7, a8, a9⟩
    have hi36 := hq36 i (by omega)
    rcases q.2.2 i (by omega) with ⟨z1, z2⟩ | ⟨j, b', j1, j2, j3, j4⟩
    · right
      refine ⟨(nI (qu i), g'), ?_, i, g', hd', rfl, by omega, a2, by rw [a3]; exact z1, z2, a4, a5, a6, a7, a9⟩
      show ff_X12_shift_B2 (nI b0) (nI (qu i)) g' = _
      unfold ff_X12_shift_B2
      rw [ck_lit hi36 (by decide), nI_clamp (by omega), a3, z1, if_pos rfl]
    · left
      have hj36 := hq36 j (by omega)
      have hjd : hd' (qu j) = some b' := by rw [a8 j j1]; exact j3
      have hne : qu j ≠ qu i := fun k => by rw [k, a4] at hjd; cases hjd
      have hb' := a5.1 _ _ hjd
      have e41 : g'.1 41 (qu i) = nI (qu j) := by rw [a3]; exact j2
      have e40 : g'.1 40 (qu j) = nI b' := by
        rw [a7 (qu j) (q.1 j (by omega)).2.1 (fun k => hne (Option.some.inj k).symm), hjd]
        rfl
      have nn : ¬ nI (qu j) = (-4 : Int32) := m4 (by omega)
      have E : ff_X12_shift_B2 (nI b0) (nI (qu i)) g' = some (.inl (nI (qu j), vv_iu g' 40 (qu i) (nI b'))) := by
        unfold ff_X12_shift_B2
        rw [ck_lit hi36 (by decide), nI_clamp (by omega), e41, if_neg nn, ck_lit hi36 (by decide), ck_lit hj36 (by decide), ck_lit hi36 (by decide), vlE, nI_clamp (by omega), e40, ck_lit hi36 (by decide), vlE, vv_iu_ne (by omega), e41]
      have M := mv_mat a5 hi36 hb'.2.1 hb'.2.2.1 j4 a4
      obtain ⟨nD, C⟩ := mv_clo a6 j4 a4
      have MT := mv_mtd (b := b') a4
      refine ⟨_, E, j, vv_iu g' 40 (qu i) (nI b'), mv hd' b' (qu i), rfl, by omega, frJ_iu a2 (by omega), by rw [vv_iu_ne (by omega), a3], mv_q hne hjd, M, C, fun x hx hxn => ?_, fun k hk => ?_, fun b => ?_⟩
      · rw [vv_iu_e]
        by_cases d : x = qu i
        · rw [if_pos ⟨rfl, d⟩, d, mv_p]
          rfl
        · rw [if_neg (fun z => d z.2), mv_x d (fun z => hxn (by rw [a5.2 x (qu j) b' z hjd]))]
          exact a7 x hx fun z => d (Option.some.inj z).symm
      · rw [mv_x (fun z => by have := q.2.1 k i (by omega) (by omega) z; omega) (fun z => by have := q.2.1 k j (by omega) (by omega) (a5.2 _ _ b' z hjd); omega)]
        exact a8 k (by omega)
      · rw [MT b, a9 b]
        exact ⟨fun z => z.elim id fun z => by rw [z]; exact ⟨qu j, j3⟩, Or.inl⟩
  case he =>
    rintro z ⟨i, g', hd', rfl, a1, _⟩
    omega
  obtain ⟨z, e1, i, g', hd', rfl, a1, a2, a3, a4, a5, a6, a7, a8, a9⟩ := hL
  have hi36 := hq36 i (by omega)
  have nm : ¬ mtd hd' b0 := fun k => hu ((a9 b0).mp k)
  have M := mv_mat (X := fun b => X b ∨ b = b0) ⟨fun p b hp => by obtain ⟨b1, b2, b3, b4⟩ := a6.1 p b hp; exact ⟨b1, b2, Or.inl b3, b4⟩, a6.2⟩ hi36 hb0 (Or.inr rfl) a4 a5
  obtain ⟨nD, C⟩ := mv_clo a7 a4 a5
  have MT := mv_mtd (b := b0) a5
  refine ⟨vv_iu g' 40 (qu i) (nI b0), mv hd' b0 (qu i), ?_, frJ_iu a2 (by omega), fun x hx _ => ?_, M, C, fun b => by rw [MT b, a9 b]⟩
  · unfold ff_X12_shift
    rw [e1, Option.bind_some]
    show vv_ck (nI (qu i)) 36 _ = _
    rw [ck_lit hi36 (by decide), vlE]
    show some (vv_iu g' 40 (nI (qu i)).toNatClampNeg (nI b0)) = _
    rw [nI_clamp (by omega)]
  · rw [vv_iu_e]
    by_cases d : x = qu i
    · rw [if_pos ⟨rfl, d⟩, d, mv_p]
      rfl
    · rw [if_neg (fun z => d z.2), mv_x d (fun z => nm ⟨x, z⟩)]
      exact a8 x hx fun z => d (Option.some.inj z).symm
