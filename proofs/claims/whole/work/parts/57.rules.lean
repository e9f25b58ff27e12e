section
variable {w : Nat → Nat} {L n : Nat} {st tp tk tv : Nat → Nat}
/-- the draft: m lines, the component has nc, the reference nr of them counted -/
def dra (b : Bool) (c r : vv_H) (m nc nr : Nat) : Prop := c.1 (vv_rid b) 0 = nI nc ∧ r.1 0 34 = nI nr ∧ ∀ i, i < m → rline c r (vv_rid b) 22 i
theorem rl_cg {c r c' r' : vv_H} {q so i : Nat} (h : rline c r q so i) (hc : ∀ k j, ((q + 1 ≤ k ∧ k ≤ q + 5 ∧ j = i) ∨ k = q + 7 + i ∨ k = q + 20 + i ∨ k = q + 33 + i) → c'.1 k j = c.1 k j) (hi : i < 12) (hr : ∀ k, so ≤ k → k < so + 5 → r'.1 k i = r.1 k i) (hr2 : ∀ j, 9 * i ≤ j → j < 9 * i + 9 → r'.1 (so + 5) j = r.1 (so + 5) j) : rline c' r' q so i := by
  unfold rline at h ⊢
  rw [hc (q + 1) i (Or.inl ⟨by omega, by omega, rfl⟩), hc (q + 2) i (Or.inl ⟨by omega, by omega, rfl⟩), hc (q + 3) i (Or.inl ⟨by omega, by omega, rfl⟩), hc (q + 4) i (Or.inl ⟨by omega, by omega, rfl⟩), hc (q + 5) i (Or.inl ⟨by omega, by omega, rfl⟩), hr so (by omega) (by omega), hr (so + 1) (by omega) (by omega), hr (so + 2) (by omega) (by omega), hr (so + 3) (by omega) (by omega), hr (so + 4) (by omega) (by omega)]
  obtain ⟨g1, g2, g3, g4, g5, g6⟩ := h
  refine ⟨g1, g2, g3, g4, g5, fun t ht => ?_⟩
  rw [hc (q + 7 + i) t (Or.inr (Or.inl rfl)), hc (q + 20 + i) t (Or.inr (Or.inr (Or.inl rfl))), hc (q + 33 + i) t (Or.inr (Or.inr (Or.inr rfl))), hr2 _ (by omega) (by omega), hr2 _ (by omega) (by omega), hr2 _ (by omega) (by omega)]
  exact g6 t ht
theorem dra_fr {b : Bool} {c r c' r' : vv_H} {m nc nr : Nat} (h : dra b c r m nc nr) (hm : m ≤ 12) (hc : ∀ k j, k ≠ 55 → c'.1 k j = c.1 k j) (h34 : r'.1 0 34 = r.1 0 34) (hr : ∀ k i, 22 ≤ k → k < 27 → i < m → r'.1 k i = r.1 k i) (hr2 : ∀ j, j < 9 * m → r'.1 27 j = r.1 27 j) : dra b c' r' m nc nr := by
  have hb := rid_bd b
  refine ⟨by rw [hc _ _ (by omega)]; exact h.1, by rw [h34]; exact h.2.1, fun i hi => rl_cg (h.2.2 i hi) (fun k j q => hc k j (by omega)) (by omega) (fun k h1 h2 => hr k i h1 h2 hi) fun j h1 h2 => hr2 j (by omega)⟩
/-- a name in the reference -/
theorem isName_r {r : vv_H} {k : Nat} (h : cur r st tp tk tv k) (h1 : tk k ≠ 1) (h16 : tk k < 16) {m : Nat} (hm : m < 9) : ff_X12_isName r (nI m) = some (if tk k = 7 + pm m then 1 else 0) := by
  rcases h with q | q
  case inr => exact absurd q.1 h1
  obtain ⟨_, _, _, q4, q5, _⟩ := q
  have key : ∀ t, t < 16 → t ≠ 1 → ∀ m, m < 9 → (if tm t = (1 : Int32) then (if nI (vtb t) = nI m then some (1 : Int32) else some 0) else some 0) = some (if t = 7 + pm m then 1 else 0) := by decide +kernel
  simp only [ff_X12_isName, q4, q5]
  rw [← key (tk k) h16 h1 m hm]
  by_cases g : tk k = 2
  · rw [g]
    rw [if_neg (show ¬ tm 2 = 1 from by decide), if_neg (show ¬ tm 2 = 1 from by decide)]
  · rw [show vm (tk k) (tv k) = nI (vtb (tk k)) from if_neg g]
theorem isRule_r {r : vv_H} {k : Nat} (h : cur r st tp tk tv k) (h1 : tk k ≠ 1) (h16 : tk k < 16) : ff_X12_isRule r = some (if 8 ≤ tk k ∧ tk k ≤ 10 then 1 else 0) := by
  rcases h with q | q
  case inr => exact absurd q.1 h1
  obtain ⟨_, _, _, q4, q5, _⟩ := q
  have key : ∀ t, t < 16 → t ≠ 1 → (if tm t = (1 : Int32) then (if (2 : Int32) < nI (vtb t) then some (0 : Int32) else some 1) else some 0) = some (if 8 ≤ t ∧ t ≤ 10 then 1 else 0) := by decide +kernel
  simp only [ff_X12_isRule, q4, q5]
  rw [← key (tk k) h16 h1]
  by_cases g : tk k = 2
  · rw [g]
    rw [if_neg (show ¬ tm 2 = 1 from by decide), if_neg (show ¬ tm 2 = 1 from by decide)]
  · rw [show vm (tk k) (tv k) = nI (vtb (tk k)) from if_neg g]
theorem cur_0 {r : vv_H} {k : Nat} (h : cur r st tp tk tv k) (h1 : tk k ≠ 1) : r.1 0 19 = 0 ∧ r.1 0 22 = nI (tp k) ∧ r.1 0 23 = tm (tk k) ∧ r.1 0 24 = vm (tk k) (tv k) := by
  rcases h with q | q
  · exact ⟨q.2.1, q.2.2.1, q.2.2.2.1, q.2.2.2.2.1⟩
  · exact absurd q.1 h1
theorem cur_1 {r : vv_H} {k : Nat} (h : cur r st tp tk tv k) (h1 : tk k = 1) : bad r := by
  rcases h with q | q
  · exact absurd h1 q.1
  · unfold bad
    rw [q.2.1]
    decide
/-- what both sides make of a line, or of a part of it -/
def fin2 (w : Nat → Nat) (L n : Nat) (st tp tk tv : Nat → Nat) (b : Bool) (c r : vv_H) (E : Option (Int32 × vv_H)) (F : Option vv_H) (R : vv_H → vv_H → Nat → Prop) : Prop :=
  (∃ c' r' k, E = some (1, c') ∧ F = some r' ∧ frP b c c' ∧ frQ r r' ∧ ps w L n st tp tk tv c' r' k ∧ R c' r' k) ∨ (∃ c' r', E = some (0, c') ∧ F = some r' ∧ frP b c c' ∧ frQ r r' ∧ bad r' ∧ err c' r')
/-- the stop at the end of a line -/
theorem stop_two {b : Bool} {c r : vv_H} {k l : Nat} (h : ps w L n st tp tk tv c r k) (hl : l < 12) (hd : dra b c r (l + 1) (l + 1) l) : fin2 w L n st tp tk tv b c r (ff_X5_readLine_J175 c) (ff_X12_oneLine_J321 r) (fun c' r' _ => dra b c' r' (l + 1) (l + 1) (l + 1)) := by
  have hp := h
  obtain ⟨h1, h2, h3, h4, h5, h6⟩ := h
  obtain ⟨l1, l2, l3, l4⟩ := lex_k h2 h1
  obtain ⟨t1, t2, t3⟩ := tokAt h3 h1
  have e6 : (nI (tk k) = (6 : Int32)) ↔ tk k = 6 := nIk (j := 6) l1 (by decide)
  by_cases g : tk k = 6
  · have hc : frP b c (vv_iu c 55 2 (nI (k + 1))) := frP_iu (frP_rf b c) (Or.inl rfl)
    have hr : frQ r (vv_iu r 0 34 (nI (l + 1))) := frQ_iu (frQ_rf r) (by omega)
    obtain ⟨r2, n1, n2, n3⟩ := step_two hp (by omega) (by omega) hc vv_iu_eq hr (by rw [vv_iu_nj (by omega)]) (by rw [vv_iu_nj (by omega)])
    obtain ⟨q1, q2, q3, q4⟩ := cur_0 h6 (by omega)
    have q3' : r.1 0 23 = 3 := by rw [q3, g]; rfl
    have q4' : r.1 0 24 = 59 := by rw [q4, g]; rfl
    refine Or.inl ⟨_, r2, k + 1, ?_, ?_, hc, frQ_tr hr (frQ_N n2), n3, ?_⟩
    · simp only [ff_X5_readLine_J175, h4, t1, Option.bind_some, if_pos (e6.mpr g), vv_let, nI_1]
    · simp only [ff_X12_oneLine_J321, ff_X12_oneLine_J350, if_pos q1, if_pos q3', if_pos q4', hd.2.1, vv_let, nI_1, n1, Option.bind_some]
    · have d2 : dra b (vv_iu c 55 2 (nI (k + 1))) (vv_iu r 0 34 (nI (l + 1))) (l + 1) (l + 1) (l + 1) := by
        have hb := rid_bd b
        refine ⟨by rw [vv_iu_ne (by omega)]; exact hd.1, by rw [vv_iu_eq], fun i hi => rl_cg (hd.2.2 i hi) (fun k j q => by rw [vv_iu_ne (by omega)]) (by omega) (fun k h1 h2 => by rw [vv_iu_ne (by omega)]) fun j h1 h2 => by rw [vv_iu_ne (by omega)]⟩
      exact dra_fr d2 (by omega) (fun _ _ _ => rfl) (n2.2 0 34 (by omega)) (fun k i h1 h2 _ => n2.2 k i (by omega)) fun j _ => n2.2 27 j (by omega)
  · obtain ⟨c', r', w1, w2, w3, w4, w5, w6, w7⟩ := wrong_two hp
    refine Or.inr ⟨c', r', ?_, ?_, w6 b, frQ_N w7, w4, w5⟩
    · simp only [ff_X5_readLine_J175, h4, t1, Option.bind_some, if_neg (fun d => g (e6.mp d)), w1, zk0]
    · by_cases g1 : tk k = 1
      · have er := w2 g1
        rw [er] at w4 ⊢
        exact J321_e w4
      · obtain ⟨q1, q2, q3, q4⟩ := cur_0 h6 g1
        have J : ff_X12_oneLine_J345 r = some r' := by
          unfold ff_X12_oneLine_J345 ff_X12_oneLine_J350
          rw [w3 g1, Option.bind_some, if_neg (bad_n w4).1]
        have key : ∀ t, t < 16 → t ≠ 1 → t ≠ 6 → ¬ (tm t = (3 : Int32) ∧ nI (vtb t) = (59 : Int32)) := by decide +kernel
        unfold ff_X12_oneLine_J321
        rw [if_pos q1, q3, q4, J]
        by_cases d1 : tm (tk k) = 3
        · rw [if_pos d1]
          by_cases d2 : vm (tk k) (tv k) = 59
          · exfalso
            have n2 : tk k ≠ 2 := fun e => by
              rw [e] at d1
              exact absurd d1 (by decide)
            rw [show vm (tk k) (tv k) = nI (vtb (tk k)) from if_neg n2] at d2
            exact key (tk k) l1 g1 g ⟨d1, d2⟩
          · rw [if_neg d2]
        · rw [if_neg d1]
end
