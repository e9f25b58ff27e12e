section
variable {w : Nat → Nat} {L n : Nat} {st tp tk tv : Nat → Nat}
theorem tests_all {b : Bool} {l : Nat} (hl : l < 12) : ∀ (d t : Nat), t + d = 3 → ∀ (F1 F2 : Nat), d < F1 → d < F2 → ∀ (c r : vv_H) (k : Nat), ps w L n st tp tk tv c r k → (tk k = 11 ∨ tk k = 12) → dra b c r (l + 1) (l + 1) l → c.1 (vv_rid b + 5) l = nI t → ∃ e r1 r2 r3, vv_lp (fun (zs : Int32 × vv_H) => ff_X5_readTests_B2 b zs.1 zs.2) F1 (nI t, c) = some e ∧ ff_X12_next r = some r1 ∧ ff_X12_test r1 = some r2 ∧ vv_lp (fun (zs : vv_H) => ff_X12_oneLine_B294 zs) F2 r2 = some r3 ∧ frQ r r3 ∧ ((∃ c', tEL e = some (0, c') ∧ frP b c c' ∧ bad r3 ∧ err c' r3) ∨ (∃ c' k', tEL e = some (1, c') ∧ frP b c c' ∧ ps w L n st tp tk tv c' r3 k' ∧ dra b c' r3 (l + 1) (l + 1) l)) := by
  intro d
  induction d with
  | zero =>
    intro t htd F1 F2 h1 h2 c r k hp hk hd et
    obtain ⟨F1, rfl⟩ : ∃ f, F1 = f + 1 := ⟨F1 - 1, by omega⟩
    obtain ⟨F2, rfl⟩ : ∃ f, F2 = f + 1 := ⟨F2 - 1, by omega⟩
    obtain ⟨r1, r2, n1, n2, n3, n4⟩ := test_two hp hk hl (by omega) hd et
    rcases n4 with ⟨e, c', m1, m2, m3, m4, m5⟩ | ⟨c', k', m1, _⟩
    · refine ⟨e, r1, r2, r2, ?_, n1, n2, ?_, n3, Or.inl ⟨c', m2, m3, m4, m5⟩⟩
      · rw [vv_lp, m1]
      · rw [vv_lp, ff_X12_oneLine_B294, if_neg (bad_n m4).1]
    · omega
  | succ d ih =>
    intro t htd F1 F2 h1 h2 c r k hp hk hd et
    obtain ⟨F1, rfl⟩ : ∃ f, F1 = f + 1 := ⟨F1 - 1, by omega⟩
    obtain ⟨F2, rfl⟩ : ∃ f, F2 = f + 1 := ⟨F2 - 1, by omega⟩
    obtain ⟨r1, r2, n1, n2, n3, n4⟩ := test_two hp hk hl (by omega) hd et
    rcases n4 with ⟨e, c', m1, m2, m3, m4, m5⟩ | ⟨c', k', m1, m2, m3, m4, m5, m6⟩
    · refine ⟨e, r1, r2, r2, ?_, n1, n2, ?_, n3, Or.inl ⟨c', m2, m3, m4, m5⟩⟩
      · rw [vv_lp, m1]
      · rw [vv_lp, ff_X12_oneLine_B294, if_neg (bad_n m4).1]
    · obtain ⟨x16, _⟩ := lex_k m3.2.1 m3.1
      rcases m6 with ⟨m6, m7⟩ | ⟨m6, e, m7, m8⟩
      · obtain ⟨e, s1, s2, s3, w1, w2, w3, w4, w5, w6⟩ := ih (t + 1) (by omega) F1 F2 (by omega) (by omega) c' r2 k' m3 (Or.inr m6) m4 m5
        have q0 := (cur_0 m3.2.2.2.2.2 (show tk k' ≠ 1 by omega)).1
        have qn := isName_r m3.2.2.2.2.2 (show tk k' ≠ 1 by omega) x16 (m := 8) (by decide)
        rw [if_pos (show tk k' = 7 + pm 8 from m6)] at qn
        refine ⟨e, r1, r2, s3, ?_, n1, n2, ?_, frQ_tr n3 w5, ?_⟩
        · rw [vv_lp, m7]
          exact w1
        · rw [vv_lp, ff_X12_oneLine_B294, if_pos q0, show (8 : Int32) = nI 8 from rfl, qn, Option.bind_some, if_neg (by decide), w2, Option.bind_some, w3, Option.bind_some]
          exact w4
        · rcases w6 with ⟨c2, y1, y2, y3, y4⟩ | ⟨c2, k2, y1, y2, y3, y4⟩
          · exact Or.inl ⟨c2, y1, frP_tr m2 y2, y3, y4⟩
          · exact Or.inr ⟨c2, k2, y1, frP_tr m2 y2, y3, y4⟩
      · refine ⟨e, r1, r2, r2, ?_, n1, n2, ?_, n3, Or.inr ⟨c', k', m8, m2, m3, m4⟩⟩
        · rw [vv_lp, m7]
        · by_cases g : tk k' = 1
          · rw [vv_lp, ff_X12_oneLine_B294, if_neg (bad_n (cur_1 m3.2.2.2.2.2 g)).1]
          · have q0 := (cur_0 m3.2.2.2.2.2 g).1
            have qn := isName_r m3.2.2.2.2.2 g x16 (m := 8) (by decide)
            rw [if_neg (show ¬ tk k' = 7 + pm 8 from m6)] at qn
            rw [vv_lp, ff_X12_oneLine_B294, if_pos q0, show (8 : Int32) = nI 8 from rfl, qn, Option.bind_some, if_pos rfl]
/-- is it told already -/
theorem told_two {b : Bool} {c r : vv_H} {l s kd f : Nat} {p : Int32} (hl : l ≤ 12) (hs : s = 1 ∨ s = 2) (hkd : kd < 100) (hf : f < 10000) (hc : c.1 (vv_rid b) 0 = nI l) (hr : r.1 0 34 = nI l) (hrl : ∀ i, i < l → rline c r (vv_rid b) 22 i) (h0 : r.1 0 19 = 0) (hp : r.1 0 22 = p) : ∃ z r', ff_X6_isTold c b (nI (s + 8)) (nI kd) (nI f) = some z ∧ vv_lp (fun (zs : Int32 × vv_H) => ff_X12_oneLine_B149 (nI f) (nI s) (nI kd) zs.1 zs.2) vv_F ((0 : Int32), r) = some r' ∧ ((z = 0 ∧ r' = r) ∨ (z = 1 ∧ r' = vv_iu (vv_iu r 0 19 5) 0 20 p)) := by
  have hsn : ¬ nI s = 0 := nI_ne0 (by omega) (by omega)
  have hL := lp_two (f := fun (zs : Int32) => ff_X6_isTold_B3 b (nI (s + 8)) (nI kd) (nI f) c zs) (g := fun (zs : Int32 × vv_H) => ff_X12_oneLine_B149 (nI f) (nI s) (nI kd) zs.1 zs.2) (fun i x y => x = nI i ∧ y = (nI i, r) ∧ True) (fun a g => (a = .inl () ∧ g = r) ∨ (a = .inr () ∧ g = vv_iu (vv_iu r 0 19 5) 0 20 p)) l
  sorry
end
