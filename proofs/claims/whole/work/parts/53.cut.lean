theorem lxk_cg {w : Nat → Nat} {L k : Nat} {st tp tk tv st' tp' tk' tv' : Nat → Nat} (h : lxk w L st tp tk tv k) (e1 : st' k = st k) (e2 : st' (k + 1) = st (k + 1)) (e3 : tp' k = tp k) (e4 : tk' k = tk k) (e5 : tv' k = tv k) : lxk w L st' tp' tk' tv' k := by
  unfold lxk
  rw [e1, e2, e3, e4, e5]
  exact h
theorem cut_c {c r : vv_H} {w : Nat → Nat} {L : Nat} (hb : byt c r w) (hL : L ≤ 240) (eL : c.1 50 0 = nI L) : ∃ (c' : vv_H) (n : Nat) (st tp tk tv : Nat → Nat), ff_X10_cut c = some c' ∧ frX c c' ∧ c'.1 50 1 = nI n ∧ trow c' n tp tk tv ∧ lex w L n st tp tk tv := by
  have hC := lp_count (f := fun (zs : Int32 × Int32 × vv_H) => ff_X10_cut_B9 zs.1 zs.2.1 zs.2.2) (fun at' z => ∃ (g : vv_H) (T : Nat) (st tp tk tv : Nat → Nat), z = (nI (st T), nI at', g) ∧ frX c g ∧ g.1 50 1 = nI T ∧ T ≤ at' ∧ trow g T tp tk tv ∧ st 0 = 0 ∧ st T ≤ L ∧ (∀ k, k < T → lxk w L st tp tk tv k ∧ tk k ≠ 1) ∧ ∀ j, st T ≤ j → j < at' → w j = 32) (fun a => (∃ (g : vv_H) (T : Nat) (st tp tk tv : Nat → Nat), a = .inl g ∧ frX c g ∧ g.1 50 1 = nI T ∧ T ≤ L ∧ trow g T tp tk tv ∧ st 0 = 0 ∧ st T ≤ L ∧ (∀ k, k < T → lxk w L st tp tk tv k ∧ tk k ≠ 1) ∧ ∀ j, st T ≤ j → j < L → w j = 32) ∨ (∃ (g : vv_H) (n : Nat) (st tp tk tv : Nat → Nat), a = .inr g ∧ frX c g ∧ g.1 50 1 = nI n ∧ trow g n tp tk tv ∧ lex w L n st tp tk tv)) L ?hs ?he vv_F 0 ((0 : Int32), (0 : Int32), vv_iu c 50 1 0) ⟨_, 0, fun _ => 0, fun _ => 0, fun _ => 0, fun _ => 0, rfl, frX_iu ⟨rfl, fun _ _ _ _ => rfl⟩ (by omega), vv_iu_eq, Nat.le_refl _, fun k hk => absurd hk (Nat.not_lt_zero k), rfl, Nat.zero_le _, fun k hk => absurd hk (Nat.not_lt_zero k), fun j h1 h2 => absurd h2 (Nat.not_lt_zero j)⟩ (Nat.zero_le _) (vv_F_lt (by omega))
  case hs =>
    rintro p z hp ⟨g, T, st, tp, tk, tv, rfl, f1, f2, f3, f4, f5, f6, f7, f8⟩
    have eL' : g.1 50 0 = nI L := by rw [f1.2 50 0 (by omega) (by omega), eL]
    have hb' := byt_fr hb f1
    obtain ⟨b1, b2, b3⟩ := hb' p (by omega)
    obtain ⟨s0, _⟩ := sx_b (w p) b1
    simp (disch := omega) only [ff_X10_cut_B9, eL', if_neg (nI_nle' hp (show L < 2 ^ 31 by omega)), nI_ltI (show p < 2 ^ 31 by omega) (show st T < 2 ^ 31 by omega), ck_lit, nI_clamp, b2, s0, vv_let, nI_1]
    by_cases c1 : p < st T
    · rw [if_pos c1]
      exact Or.inl ⟨_, rfl, g, T, st, tp, tk, tv, rfl, f1, f2, by omega, f4, f5, f6, f7, fun j h1 h2 => by omega⟩
    rw [if_neg c1]
    by_cases c2 : w p = 32
    · rw [if_pos c2]
      refine Or.inl ⟨_, rfl, g, T, st, tp, tk, tv, rfl, f1, f2, by omega, f4, f5, f6, f7, fun j h1 h2 => ?_⟩
      rcases Nat.lt_succ_iff_lt_or_eq.mp h2 with h | rfl
      · exact f8 j h1 h
      · exact c2
    rw [if_neg c2]
    obtain ⟨q, k, v, t1, t2, t3, t4, t5, t6, t7, t8⟩ := tok_c hb' hL eL' hp
    obtain ⟨g', k1, k2, k3, k4⟩ := keep_c (show T < 241 by omega) f2 k p v f4
    have fx : frX c g' := ⟨k2.1.trans f1.1, fun a j h1 h2 => (k2.2 a j h1 h2).trans (f1.2 a j h1 h2)⟩
    have J : ff_X10_cut_J67 (nI q) (nI p) (nI k) (nI v) (nI p) (nI k) g = if nI k = (1 : Int32) then some (.inr (.inr g')) else some (.inl (nI q, nI (p + 1), g')) := by
      simp only [ff_X10_cut_J67, k1, Option.bind_some, vv_let, nI_1]
    have ev : ∀ x : Int32, x = nI v → (if nI k = (2 : Int32) then (ff_X10_numberIn g (nI p) (nI q)).bind (fun r14 => ff_X10_cut_J67 (nI q) (nI p) (nI k) r14 (nI p) (nI k) g) else ff_X10_cut_J67 (nI q) (nI p) (nI k) (0 : Int32) (nI p) (nI k) g) = ff_X10_cut_J67 (nI q) (nI p) (nI k) x (nI p) (nI k) g := fun x hx => by
      have e2 : (nI k = (2 : Int32)) ↔ k = 2 := nI_eq (show k < 2 ^ 31 by omega) (show 2 < 2 ^ 31 by decide)
      by_cases d : k = 2
      · rw [if_pos (e2.mpr d), t6 d, Option.bind_some, hx]
      · rw [if_neg (fun h => d (e2.mp h)), hx, t7 d]
        rfl
    have e1 : (nI k = (1 : Int32)) ↔ k = 1 := nI_eq (show k < 2 ^ 31 by omega) (show 1 < 2 ^ 31 by decide)
    simp only [t1, t2, Option.bind_some]
    rw [ev (nI v) rfl, J]
    have stq : pt st (T + 1) q (T + 1) = q := if_pos rfl
    have hq : q ≤ L := t8.1.2.1
    have old : ∀ i, i < T → lxk w L (pt st (T + 1) q) (pt tp T p) (pt tk T k) (pt tv T v) i ∧ pt tk T k i ≠ 1 := fun i hi => by
      obtain ⟨h1, h2⟩ := f7 i hi
      have e : pt tk T k i = tk i := if_neg (by omega)
      exact ⟨lxk_cg h1 (if_neg (by omega)) (if_neg (by omega)) (if_neg (by omega)) e (if_neg (by omega)), by rw [e]; exact h2⟩
    have new : lxk w L (pt st (T + 1) q) (pt tp T p) (pt tk T k) (pt tv T v) T := by
      unfold lxk
      rw [stq, show pt st (T + 1) q T = st T from if_neg (by omega), show pt tp T p T = p from if_pos rfl, show pt tk T k T = k from if_pos rfl, show pt tv T v T = v from if_pos rfl]
      exact ⟨by omega, f8, hp, c2, t8, t3, t4, t5⟩
    have st0 : pt st (T + 1) q 0 = 0 := by rw [pt, if_neg (by omega)]; exact f5
    by_cases d : k = 1
    · rw [if_pos (e1.mpr d)]
      refine Or.inr ⟨_, rfl, Or.inr ⟨g', T + 1, _, _, _, _, rfl, fx, k3, k4, st0, by omega, by omega, fun i hi => old i (by omega), Or.inl ⟨new, ?_⟩⟩⟩
      show pt tk T k T = 1
      rw [pt, if_pos rfl]
      exact d
    · rw [if_neg (fun h => d (e1.mp h))]
      refine Or.inl ⟨_, rfl, g', T + 1, pt st (T + 1) q, pt tp T p, pt tk T k, pt tv T v, by rw [stq], fx, k3, by omega, k4, st0, by rw [stq]; exact hq, fun i hi => ?_, fun j h1 h2 => ?_⟩
      · rcases Nat.lt_succ_iff_lt_or_eq.mp hi with h | rfl
        · exact old i h
        · exact ⟨new, by rw [pt, if_pos rfl]; exact d⟩
      · rw [stq] at h1
        have := t8.1.1
        omega
  case he =>
    rintro z ⟨g, T, st, tp, tk, tv, rfl, f1, f2, f3, f4, f5, f6, f7, f8⟩
    have eL' : g.1 50 0 = nI L := by rw [f1.2 50 0 (by omega) (by omega), eL]
    simp only [ff_X10_cut_B9, eL', if_pos (nI_le (Nat.le_refl L) (show L < 2 ^ 31 by omega))]
    exact ⟨_, rfl, Or.inl ⟨g, T, st, tp, tk, tv, rfl, f1, f2, f3, f4, f5, f6, f7, f8⟩⟩
  obtain ⟨a, e1, hJ⟩ := hC
  simp only [ff_X10_cut, vv_let, e1, Option.bind_some]
  rcases hJ with ⟨g, T, st, tp, tk, tv, rfl, f1, f2, f3, f4, f5, f6, f7, f8⟩ | ⟨g, n, st, tp, tk, tv, rfl, h⟩
  · have eL' : g.1 50 0 = nI L := by rw [f1.2 50 0 (by omega) (by omega), eL]
    obtain ⟨g', k1, k2, k3, k4⟩ := keep_c (show T < 241 by omega) f2 0 L 0 f4
    rw [show nI 0 = (0 : Int32) from rfl] at k1
    simp only [Sum.elim_inl, eL', k1, Option.bind_some]
    refine ⟨g', T + 1, st, pt tp T L, pt tk T 0, pt tv T 0, rfl, ⟨k2.1.trans f1.1, fun a j h1 h2 => (k2.2 a j h1 h2).trans (f1.2 a j h1 h2)⟩, k3, k4, f5, by omega, by omega, fun i hi => ?_, Or.inr ?_⟩
    · obtain ⟨h1, h2⟩ := f7 i (by omega)
      have e : pt tk T 0 i = tk i := if_neg (by omega)
      exact ⟨lxk_cg h1 rfl rfl (if_neg (by omega)) e (if_neg (by omega)), by rw [e]; exact h2⟩
    · show lxe w L st (pt tp T L) (pt tk T 0) (pt tv T 0) T
      unfold lxe
      rw [show pt tp T L T = L from if_pos rfl, show pt tk T 0 T = 0 from if_pos rfl, show pt tv T 0 T = 0 from if_pos rfl]
      exact ⟨f6, f8, rfl, rfl, rfl⟩
  · simp only [Sum.elim_inr]
    exact ⟨g, n, st, tp, tk, tv, rfl, h⟩
