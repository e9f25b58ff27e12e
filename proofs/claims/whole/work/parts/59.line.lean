section
variable {w : Nat → Nat} {L n : Nat} {st tp tk tv : Nat → Nat}
theorem tests_all {b : Bool} {l : Nat} (hl : l < 12) : ∀ (d t : Nat), t + d = 3 → ∀ (F1 F2 : Nat), d < F1 → d < F2 → ∀ (c r : vv_H) (k : Nat), ps w L n st tp tk tv c r k → (tk k = 11 ∨ tk k = 12) → dra b c r (l + 1) (l + 1) l → c.1 (vv_rid b + 5) l = nI t → ∃ e r1 r2 r3, vv_lp (fun (zs : Int32 × vv_H) => ff_X5_readTests_B2 b zs.1 zs.2) F1 (nI t, c) = some e ∧ ff_X12_next r = some r1 ∧ ff_X12_test r1 = some r2 ∧ vv_lp (fun (zs : vv_H) => ff_X12_oneLine_B294 zs) F2 r2 = some r3 ∧ frQ r r3 ∧ ((∃ c', tEL e = some (0, c') ∧ frP b c c' ∧ bad r3 ∧ err c' r3) ∨ (∃ c' k', tEL e = some (1, c') ∧ frP b c c' ∧ ps w L n st tp tk tv c' r3 k' ∧ dra b c' r3 (l + 1) (l + 1) l)) := by
  intro d
  induction d with
  | zero =>
    intro t htd F1 F2 h1 h2 c r k hp hk hd et
    obtain ⟨F1, rfl⟩ : ∃ f, F1 = f + 1 := ⟨F1 - 1, by omega⟩
    obtain ⟨F2, rfl⟩ : ∃ f, F2 = f + 1 := ⟨F2 - 1, by omega⟩
    obtain ⟨r1, r2, n1, n2, n3, n4⟩ := test_two hp hk hl (by omega) hd et
    rcases n4 with ⟨e, c', m1, m2, m3, m4, m5⟩ | ⟨c', k', m1, _⟩
    · refine ⟨e, r1, r2, r2, ?_, n1, n2, ?_, n3, Or.inl ⟨c', m2, m3, m4, m5⟩⟩
      · rw [vv_lp, m1]
      · rw [vv_lp, ff_X12_oneLine_B294, if_neg (bad_n m4).1]
    · omega
  | succ d ih =>
    intro t htd F1 F2 h1 h2 c r k hp hk hd et
    obtain ⟨F1, rfl⟩ : ∃ f, F1 = f + 1 := ⟨F1 - 1, by omega⟩
    obtain ⟨F2, rfl⟩ : ∃ f, F2 = f + 1 := ⟨F2 - 1, by omega⟩
    obtain ⟨r1, r2, n1, n2, n3, n4⟩ := test_two hp hk hl (by omega) hd et
    rcases n4 with ⟨e, c', m1, m2, m3, m4, m5⟩ | ⟨c', k', m1, m2, m3, m4, m5, m6⟩
    · refine ⟨e, r1, r2, r2, ?_, n1, n2, ?_, n3, Or.inl ⟨c', m2, m3, m4, m5⟩⟩
      · rw [vv_lp, m1]
      · rw [vv_lp, ff_X12_oneLine_B294, if_neg (bad_n m4).1]
    · obtain ⟨x16, _⟩ := lex_k m3.2.1 m3.1
      rcases m6 with ⟨m6, m7⟩ | ⟨m6, e, m7, m8⟩
      · obtain ⟨e, s1, s2, s3, w1, w2, w3, w4, w5, w6⟩ := ih (t + 1) (by omega) F1 F2 (by omega) (by omega) c' r2 k' m3 (Or.inr m6) m4 m5
        have q0 := (cur_0 m3.2.2.2.2.2 (show tk k' ≠ 1 by omega)).1
        have qn := isName_r m3.2.2.2.2.2 (show tk k' ≠ 1 by omega) x16 (m := 8) (by decide)
        rw [if_pos (show tk k' = 7 + pm 8 from m6)] at qn
        refine ⟨e, r1, r2, s3, ?_, n1, n2, ?_, frQ_tr n3 w5, ?_⟩
        · rw [vv_lp, m7]
          exact w1
        · rw [vv_lp, ff_X12_oneLine_B294, if_pos q0, show (8 : Int32) = nI 8 from rfl, qn, Option.bind_some, if_neg (by decide), w2, Option.bind_some, w3, Option.bind_some]
          exact w4
        · rcases w6 with ⟨c2, y1, y2, y3, y4⟩ | ⟨c2, k2, y1, y2, y3, y4⟩
          · exact Or.inl ⟨c2, y1, frP_tr m2 y2, y3, y4⟩
          · exact Or.inr ⟨c2, k2, y1, frP_tr m2 y2, y3, y4⟩
      · refine ⟨e, r1, r2, r2, ?_, n1, n2, ?_, n3, Or.inr ⟨c', k', m8, m2, m3, m4⟩⟩
        · rw [vv_lp, m7]
        · by_cases g : tk k' = 1
          · rw [vv_lp, ff_X12_oneLine_B294, if_neg (bad_n (cur_1 m3.2.2.2.2.2 g)).1]
          · have q0 := (cur_0 m3.2.2.2.2.2 g).1
            have qn := isName_r m3.2.2.2.2.2 g x16 (m := 8) (by decide)
            rw [if_neg (show ¬ tk k' = 7 + pm 8 from m6)] at qn
            rw [vv_lp, ff_X12_oneLine_B294, if_pos q0, show (8 : Int32) = nI 8 from rfl, qn, Option.bind_some, if_pos rfl]
/-- is it told already -/
theorem told_two {b : Bool} {c r : vv_H} {l s kd f : Nat} {p : Int32} (hl : l ≤ 12) (hs : s = 1 ∨ s = 2) (hkd : kd < 100) (hf : f < 10000) (hc : c.1 (vv_rid b) 0 = nI l) (hr : r.1 0 34 = nI l) (hrl : ∀ i, i < l → rline c r (vv_rid b) 22 i) (h0 : r.1 0 19 = 0) (hp : r.1 0 22 = p) : ∃ z r', ff_X6_isTold c b (nI (s + 8)) (nI kd) (nI f) = some z ∧ vv_lp (fun (zs : Int32 × vv_H) => ff_X12_oneLine_B149 (nI f) (nI s) (nI kd) zs.1 zs.2) vv_F ((0 : Int32), r) = some r' ∧ ((z = 0 ∧ r' = r) ∨ (z = 1 ∧ r' = vv_iu (vv_iu r 0 19 5) 0 20 p)) := by
  have hsn : ¬ nI s = 0 := nI_ne0 (by omega) (by omega)
  have hb := rid_bd b
  obtain ⟨M, hM⟩ : ∃ M : Nat → Prop, M = fun i => c.1 (vv_rid b + 1) i = nI (s + 8) ∧ c.1 (vv_rid b + 3) i = nI kd ∧ c.1 (vv_rid b + 2) i = nI f := ⟨_, rfl⟩
  have hMi : ∀ i, M i ↔ c.1 (vv_rid b + 1) i = nI (s + 8) ∧ c.1 (vv_rid b + 3) i = nI kd ∧ c.1 (vv_rid b + 2) i = nI f := fun i => by rw [hM]
  have hC := lp_count (f := fun (zs : Int32) => ff_X6_isTold_B3 b (nI (s + 8)) (nI kd) (nI f) c zs) (fun i x => x = nI i ∧ ∀ j, j < i → ¬ M j) (fun a => (a = .inl () ∧ ∀ j, j < l → ¬ M j) ∨ (a = .inr () ∧ ∃ j, j < l ∧ M j)) l ?hs ?he vv_F 0 (0 : Int32) ⟨rfl, fun j hj => absurd hj (Nat.not_lt_zero j)⟩ (Nat.zero_le _) (vv_F_lt (by omega))
  case hs =>
    rintro i x hi ⟨rfl, hI⟩
    simp (disch := omega) only [ff_X6_isTold_B3, hc, if_neg (nI_nle' hi (show l < 2 ^ 31 by omega)), ck_lit, nI_clamp, vv_let, nI_1]
    have nx : ¬ M i → ∀ j, j < i + 1 → ¬ M j := fun h j hj => by
      rcases Nat.lt_succ_iff_lt_or_eq.mp hj with d | rfl
      · exact hI j d
      · exact h
    by_cases g1 : c.1 (vv_rid b + 1) i = nI (s + 8)
    · rw [if_pos g1]
      by_cases g2 : c.1 (vv_rid b + 3) i = nI kd
      · rw [if_pos g2]
        by_cases g3 : c.1 (vv_rid b + 2) i = nI f
        · rw [if_pos g3]
          exact Or.inr ⟨_, rfl, Or.inr ⟨rfl, i, hi, (hMi i).mpr ⟨g1, g2, g3⟩⟩⟩
        · rw [if_neg g3]
          exact Or.inl ⟨_, rfl, rfl, nx fun h => g3 ((hMi i).mp h).2.2⟩
      · rw [if_neg g2]
        exact Or.inl ⟨_, rfl, rfl, nx fun h => g2 ((hMi i).mp h).2.1⟩
    · rw [if_neg g1]
      exact Or.inl ⟨_, rfl, rfl, nx fun h => g1 ((hMi i).mp h).1⟩
  case he =>
    rintro x ⟨rfl, hI⟩
    simp only [ff_X6_isTold_B3, hc, if_pos (nI_le (Nat.le_refl l) (show l < 2 ^ 31 by omega))]
    exact ⟨_, rfl, Or.inl ⟨rfl, hI⟩⟩
  have hR := lp_count (f := fun (zs : Int32 × vv_H) => ff_X12_oneLine_B149 (nI f) (nI s) (nI kd) zs.1 zs.2) (fun i y => (y = (nI i, r) ∧ ∀ j, j < i → ¬ M j) ∨ (y = (nI i, vv_iu (vv_iu r 0 19 5) 0 20 p) ∧ ∃ j, j < l ∧ M j)) (fun g => (g = r ∧ ∀ j, j < l → ¬ M j) ∨ (g = vv_iu (vv_iu r 0 19 5) 0 20 p ∧ ∃ j, j < l ∧ M j)) l ?hs2 ?he2 vv_F 0 ((0 : Int32), r) (Or.inl ⟨rfl, fun j hj => absurd hj (Nat.not_lt_zero j)⟩) (Nat.zero_le _) (vv_F_lt (by omega))
  case hs2 =>
    rintro i y hi (⟨rfl, hI⟩ | ⟨rfl, hI⟩)
    · have old := hrl i hi
      unfold rline at old
      obtain ⟨⟨o1, _⟩, ⟨o2, _⟩, o3, _⟩ := old
      have e22 : (r.1 22 i = nI s) ↔ c.1 (vv_rid b + 1) i = nI (s + 8) := by
        rw [o1, show nI s = nI (s + 8) - 8 from by rw [show (8 : Int32) = nI 8 from rfl, pk_sub (by omega), Nat.add_sub_cancel], sub8]
      simp (disch := omega) only [ff_X12_oneLine_B149, hr, if_neg (nI_nle' hi (show l < 2 ^ 31 by omega)), if_pos h0, if_neg hsn, ck_lit, nI_clamp, e22, o3, o2, fails_0 h0 hp, Option.bind_some, vv_let, nI_1]
      have nx : ¬ M i → ∀ j, j < i + 1 → ¬ M j := fun h j hj => by
        rcases Nat.lt_succ_iff_lt_or_eq.mp hj with d | rfl
        · exact hI j d
        · exact h
      left
      by_cases g1 : c.1 (vv_rid b + 1) i = nI (s + 8)
      · rw [if_pos g1]
        by_cases g2 : c.1 (vv_rid b + 3) i = nI kd
        · rw [if_pos g2]
          by_cases g3 : c.1 (vv_rid b + 2) i = nI f
          · rw [if_pos g3]
            exact ⟨_, rfl, Or.inr ⟨rfl, i, hi, (hMi i).mpr ⟨g1, g2, g3⟩⟩⟩
          · rw [if_neg g3]
            exact ⟨_, rfl, Or.inl ⟨rfl, nx fun h => g3 ((hMi i).mp h).2.2⟩⟩
        · rw [if_neg g2]
          exact ⟨_, rfl, Or.inl ⟨rfl, nx fun h => g2 ((hMi i).mp h).2.1⟩⟩
      · rw [if_neg g1]
        exact ⟨_, rfl, Or.inl ⟨rfl, nx fun h => g1 ((hMi i).mp h).1⟩⟩
    · right
      have hb2 : bad (vv_iu (vv_iu r 0 19 5) 0 20 p) := bad_of (by decide)
      have h34 : (vv_iu (vv_iu r 0 19 5) 0 20 p).1 0 34 = nI l := by simp (disch := omega) only [vv_iu_nj]; exact hr
      refine ⟨vv_iu (vv_iu r 0 19 5) 0 20 p, ?_, Or.inr ⟨rfl, hI⟩⟩
      show ff_X12_oneLine_B149 _ _ _ (nI i) (vv_iu (vv_iu r 0 19 5) 0 20 p) = _
      unfold ff_X12_oneLine_B149
      rw [h34, if_neg (nI_nle' hi (show l < 2 ^ 31 by omega)), if_neg (bad_n hb2).1]
  case he2 =>
    rintro y (⟨rfl, hI⟩ | ⟨rfl, hI⟩)
    · refine ⟨r, ?_, Or.inl ⟨rfl, hI⟩⟩
      show ff_X12_oneLine_B149 _ _ _ (nI l) r = _
      unfold ff_X12_oneLine_B149
      rw [hr, if_pos (nI_le (Nat.le_refl l) (show l < 2 ^ 31 by omega))]
    · have h34 : (vv_iu (vv_iu r 0 19 5) 0 20 p).1 0 34 = nI l := by simp (disch := omega) only [vv_iu_nj]; exact hr
      refine ⟨vv_iu (vv_iu r 0 19 5) 0 20 p, ?_, Or.inr ⟨rfl, hI⟩⟩
      show ff_X12_oneLine_B149 _ _ _ (nI l) (vv_iu (vv_iu r 0 19 5) 0 20 p) = _
      unfold ff_X12_oneLine_B149
      rw [h34, if_pos (nI_le (Nat.le_refl l) (show l < 2 ^ 31 by omega))]
  obtain ⟨a, e1, hJ⟩ := hC
  obtain ⟨g, e2, hK⟩ := hR
  rw [ff_X6_isTold, e1, Option.bind_some]
  rcases hJ with ⟨rfl, j1⟩ | ⟨rfl, j, j1, j2⟩
  · rcases hK with ⟨rfl, k1⟩ | ⟨rfl, k, k1, k2⟩
    · exact ⟨0, _, rfl, e2, Or.inl ⟨rfl, rfl⟩⟩
    · exact absurd k2 (j1 k k1)
  · rcases hK with ⟨rfl, k1⟩ | ⟨rfl, k, k1, k2⟩
    · exact absurd j2 (k1 j j1)
    · exact ⟨1, _, rfl, e2, Or.inr ⟨rfl, rfl⟩⟩
theorem B149_e {r : vv_H} (h : bad r) (u1 u2 u3 : Int32) : vv_lp (fun (zs : Int32 × vv_H) => ff_X12_oneLine_B149 u1 u2 u3 zs.1 zs.2) vv_F ((0 : Int32), r) = some r := by
  have e : ff_X12_oneLine_B149 u1 u2 u3 0 r = some (.inr r) := by
    unfold ff_X12_oneLine_B149
    by_cases g : r.1 0 34 ≤ 0
    · rw [if_pos g]
    · rw [if_neg g, if_neg (bad_n h).1]
  show vv_lp _ (1048575 + 1) _ = _
  rw [vv_lp]
  simp only [e]
theorem B149_0 {r : vv_H} (h : r.1 0 19 = 0) (u1 u3 : Int32) : vv_lp (fun (zs : Int32 × vv_H) => ff_X12_oneLine_B149 u1 0 u3 zs.1 zs.2) vv_F ((0 : Int32), r) = some r := by
  have e : ff_X12_oneLine_B149 u1 0 u3 0 r = some (.inr r) := by
    unfold ff_X12_oneLine_B149
    by_cases g : r.1 0 34 ≤ 0
    · rw [if_pos g]
    · rw [if_neg g, if_pos h, if_pos rfl]
  show vv_lp _ (1048575 + 1) _ = _
  rw [vv_lp]
  simp only [e]
theorem j89_no {b : Bool} {c r : vv_H} {k : Nat} (h : ps w L n st tp tk tv c r k) (hn : ¬ (8 ≤ tk k ∧ tk k ≤ 10)) (u : Int32) : ff_X5_readLine_J89 b u c = (ff_X5_refuseToken c).bind (fun r8 => vv_zk r8.1 (some (r8.1, r8.2))) := by
  obtain ⟨h1, h2, h3, h4, h5, h6⟩ := h
  obtain ⟨l1, _⟩ := lex_k h2 h1
  have e8 : (nI (tk k) < (8 : Int32)) ↔ tk k < 8 := nI_ltI (show tk k < 2 ^ 31 by omega) (show 8 < 2 ^ 31 by decide)
  have e10 : (nI (tk k) ≤ (10 : Int32)) ↔ tk k ≤ 10 := nI_leI (show tk k < 2 ^ 31 by omega) (show 10 < 2 ^ 31 by decide)
  unfold ff_X5_readLine_J89
  rw [h4, (tokAt h3 h1).1, Option.bind_some]
  by_cases d : tk k < 8
  · rw [if_pos (e8.mpr d)]
  · rw [if_neg (fun z => d (e8.mp z)), if_neg (fun z => hn ⟨by omega, e10.mp z⟩)]
end
