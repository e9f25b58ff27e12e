section
variable {w : Nat → Nat} {L n : Nat} {st tp tk tv : Nat → Nat}
theorem line_two {b : Bool} {c r : vv_H} {k l : Nat} (hp : ps w L n st tp tk tv c r k) (h1k : tk k ≠ 1) (hl : l ≤ 12) (hd : dra b c r l l l) : fin2 w L n st tp tk tv b c r (ff_X5_readLine c b) (ff_X12_oneLine r) (fun c' r' _ => l < 12 ∧ dra b c' r' (l + 1) (l + 1) (l + 1)) := by
  have hp' := hp
  obtain ⟨h1, h2, h3, h4, h5, h6⟩ := hp
  obtain ⟨l1, _⟩ := lex_k h2 h1
  obtain ⟨t1, t2, t3⟩ := tokAt h3 h1
  obtain ⟨q1, q2, q3, q4⟩ := cur_0 h6 h1k
  have e7 : (nI (tk k) < (7 : Int32)) ↔ tk k < 7 := nI_ltI (show tk k < 2 ^ 31 by omega) (show 7 < 2 ^ 31 by decide)
  have e77 : (nI (tk k) = (7 : Int32)) ↔ tk k = 7 := nIk (j := 7) l1 (by decide)
  have e10 : (nI (tk k) ≤ (10 : Int32)) ↔ tk k ≤ 10 := nI_leI (show tk k < 2 ^ 31 by omega) (show 10 < 2 ^ 31 by decide)
  have e12 : (nI l < (12 : Int32)) ↔ l < 12 := nI_ltI (show l < 2 ^ 31 by omega) (show 12 < 2 ^ 31 by decide)
  have e12' : (nI l = (12 : Int32)) ↔ l = 12 := nI_eq (show l < 2 ^ 31 by omega) (show 12 < 2 ^ 31 by decide)
  have n6 := isName_r h6 h1k l1 (m := 6) (by decide)
  have nR := isRule_r h6 h1k l1
  rw [show nI 6 = (6 : Int32) from rfl, show 7 + pm 6 = 7 from rfl] at n6
  by_cases g : 7 ≤ tk k ∧ tk k ≤ 10
  case neg =>
    obtain ⟨c', r', w1, w2, w3, w4, w5, w6, w7⟩ := wrong_two hp'
    refine Or.inr ⟨c', r', ?_, ?_, w6 b, frQ_N w7, w4, w5⟩
    · unfold ff_X5_readLine
      rw [h4, t1, Option.bind_some]
      by_cases d : tk k < 7
      · rw [if_pos (e7.mpr d), w1, Option.bind_some, zk0]
      · rw [if_neg (fun z => d (e7.mp z)), if_neg (fun z => g ⟨by omega, e10.mp z⟩), w1, Option.bind_some, zk0]
    · unfold ff_X12_oneLine
      rw [n6, Option.bind_some, if_neg (show ¬ tk k = 7 by omega), if_pos rfl, nR, Option.bind_some, if_neg (show ¬ (8 ≤ tk k ∧ tk k ≤ 10) by omega), if_pos rfl, w3 h1k, Option.bind_some, J38_e w4]
  have O : ff_X12_oneLine r = ff_X12_oneLine_J24 r := by
    unfold ff_X12_oneLine
    rw [n6, Option.bind_some]
    by_cases d : tk k = 7
    · rw [if_pos d, if_neg (by decide)]
    · rw [if_neg d, if_pos rfl, nR, Option.bind_some, if_pos (show 8 ≤ tk k ∧ tk k ≤ 10 by omega), if_neg (by decide)]
  have Cc : ff_X5_readLine c b = if nI l < (12 : Int32) then (if nI (tk k) = (7 : Int32) then vv_let (vv_iu c 55 2 (nI (k + 1))) (fun g29 => (ff_X5_takeNumber g29 (0 : Int32) (9999 : Int32)).bind (fun r31 => (if r31.1 = 0 then some ((0 : Int32), r31.2) else vv_let (r31.2.1 55 3) (fun w33 => ff_X5_readLine_J89 b w33 r31.2)))) else ff_X5_readLine_J89 b (0 : Int32) c) else some (0, vv_iu (vv_iu c 55 1 4) 55 0 (nI (tp k))) := by
    unfold ff_X5_readLine
    rw [h4, t1, Option.bind_some, if_neg (fun z => by have := e7.mp z; omega), if_pos (e10.mpr g.2), hd.1, t2, Option.bind_some, refuse_c, Option.bind_some, zk0, nI_1]
  by_cases gl : l = 12
  · rw [if_neg (fun z => by have := e12.mp z; omega)] at Cc
    have hb2 : bad (vv_iu (vv_iu r 0 19 4) 0 20 (nI (tp k))) := bad_of (by decide)
    refine Or.inr ⟨_, _, Cc, ?_, frP_iu (frP_iu (frP_rf b c) (Or.inl rfl)) (Or.inl rfl), frQ_iu (frQ_iu (frQ_rf r) (by omega)) (by omega), hb2, err_of (by decide)⟩
    rw [O]
    unfold ff_X12_oneLine_J24
    rw [hd.2.1, if_pos (e12'.mpr gl), fails_0 q1 q2, Option.bind_some, J38_e hb2]
  have hl2 : l < 12 := by omega
  rw [if_pos (e12.mpr hl2)] at Cc
  have O2 : ff_X12_oneLine r = ff_X12_oneLine_J38 r := by
    rw [O]
    unfold ff_X12_oneLine_J24
    rw [hd.2.1, if_neg (fun z => gl (e12'.mp z))]
  by_cases g7 : tk k = 7
  case neg =>
    have O3 : ff_X12_oneLine r = ff_X12_oneLine_J92 (nI 0) r := by
      rw [O2]
      unfold ff_X12_oneLine_J38
      rw [if_pos q1, n6, Option.bind_some, if_neg g7, if_pos rfl]
      rfl
    rw [if_neg (fun z => g7 (e77.mp z)), show (0 : Int32) = nI 0 from rfl] at Cc
    rw [Cc, O3]
    rcases rule_full hp' (show 8 ≤ tk k ∧ tk k ≤ 10 by omega) hl2 (show 0 < 10000 by decide) hd with ⟨c', r', k', s1, s2, s3, s4, s5, s6⟩ | h
    · exact Or.inl ⟨c', r', k', s1, s2, s3, s4, s5, hl2, s6⟩
    · exact Or.inr h
  rw [if_pos (e77.mpr g7), vlE] at Cc
  obtain ⟨g29, eg⟩ : ∃ g, g = vv_iu c 55 2 (nI (k + 1)) := ⟨_, rfl⟩
  rw [← eg] at Cc
  have fc1 : ∀ b, frP b c g29 := fun b => by rw [eg]; exact frP_iu (frP_rf b c) (Or.inl rfl)
  have e29 : g29.1 55 2 = nI (k + 1) := by rw [eg]; exact vv_iu_eq
  obtain ⟨r69, n1, n2, p1⟩ := step_two hp' (by omega) h1k (fc1 b) e29 (frQ_rf r) rfl rfl
  have O3 : ff_X12_oneLine r = (ff_X12_number r69 (0 : Int32) (9999 : Int32)).bind (fun r71 => (ff_X12_next r71.2).bind (fun r73 => (if (r73.1 0 19) = 0 then (ff_X12_isRule r73).bind (fun r75 => (if r75 = 0 then (ff_X12_fails r73 (2 : Int32)).bind (fun r77 => ff_X12_oneLine_J92 r71.1 r77) else ff_X12_oneLine_J92 r71.1 r73)) else ff_X12_oneLine_J92 r71.1 r73))) := by
    rw [O2]
    unfold ff_X12_oneLine_J38
    rw [if_pos q1, n6, Option.bind_some, if_pos g7, if_neg (show ¬ (1 : Int32) = 0 from by decide), n1, Option.bind_some]
  have d69 : dra b g29 r69 l l l := dra_fr hd (by omega) (fun a j ha => fr55 fc1 a j ha) (n2.2 0 34 (by omega)) (fun a i y1 y2 _ => n2.2 a i (by omega)) fun j _ => n2.2 27 j (by omega)
  rcases num_two p1 (lo := 0) (hi := 9999) (by decide) (by decide) with ⟨c', i1, i2, i3, i4, i5, i6, i7, i8⟩ | ⟨c', x, r16, i1, i2, i3, i4, i5, i6⟩
  case inr =>
    rw [show nI 0 = (0 : Int32) from rfl, show nI 9999 = (9999 : Int32) from rfl] at i1 i2
    refine Or.inr ⟨c', r16, ?_, ?_, frP_tr (fc1 b) (i5 b), frQ_tr (frQ_N n2) (frQ_N i6), i3, i4⟩
    · rw [Cc, i1, Option.bind_some, if_pos rfl]
    · rw [O3, i2, Option.bind_some]
      show (ff_X12_next r16).bind _ = _
      rw [next_e i3, Option.bind_some, if_neg (bad_n i3).1, J92_e i3]
  rw [show nI 0 = (0 : Int32) from rfl, show nI 9999 = (9999 : Int32) from rfl] at i4 i5
  obtain ⟨r73, m1, m2, p2⟩ := step_two p1 (by omega) (by omega) (i8 b) i7 (frQ_rf r69) rfl rfl
  have p2' := p2
  obtain ⟨b1, b2, b3, b4, b5, b6⟩ := p2
  obtain ⟨o16, _⟩ := lex_k b2 b1
  have d73 : dra b c' r73 l l l := dra_fr d69 (by omega) (fun a j ha => fr55 i8 a j ha) (m2.2 0 34 (by omega)) (fun a i y1 y2 _ => m2.2 a i (by omega)) fun j _ => m2.2 27 j (by omega)
  have fP : frP b c c' := frP_tr (fc1 b) (i8 b)
  have fQ : frQ r r73 := frQ_tr (frQ_N n2) (frQ_N m2)
  have C2 : ff_X5_readLine c b = ff_X5_readLine_J89 b (nI (tv (k + 1))) c' := by
    rw [Cc, i4, Option.bind_some, if_neg (show ¬ (1 : Int32) = 0 from by decide)]
    show vv_let (c'.1 55 3) _ = _
    rw [vlE, i6]
  have O4 : ff_X12_oneLine r = (if (r73.1 0 19) = 0 then (ff_X12_isRule r73).bind (fun r75 => (if r75 = 0 then (ff_X12_fails r73 (2 : Int32)).bind (fun r77 => ff_X12_oneLine_J92 (nI (tv (k + 1))) r77) else ff_X12_oneLine_J92 (nI (tv (k + 1))) r73)) else ff_X12_oneLine_J92 (nI (tv (k + 1))) r73) := by
    rw [O3, i5, Option.bind_some]
    show (ff_X12_next r69).bind _ = _
    rw [m1, Option.bind_some]
  by_cases g8 : 8 ≤ tk (k + 1 + 1) ∧ tk (k + 1 + 1) ≤ 10
  · have z0 := (cur_0 b6 (show tk (k + 1 + 1) ≠ 1 by omega)).1
    rw [if_pos z0, isRule_r b6 (show tk (k + 1 + 1) ≠ 1 by omega) o16, Option.bind_some, if_pos g8, if_neg (show ¬ (1 : Int32) = 0 from by decide)] at O4
    rw [C2, O4]
    rcases rule_full p2' g8 hl2 (show tv (k + 1) < 10000 by omega) d73 with ⟨c2, r2, k2, s1, s2, s3, s4, s5, s6⟩ | ⟨c2, r2, s1, s2, s3, s4, s5, s6⟩
    · exact Or.inl ⟨c2, r2, k2, s1, s2, frP_tr fP s3, frQ_tr fQ s4, s5, hl2, s6⟩
    · exact Or.inr ⟨c2, r2, s1, s2, frP_tr fP s3, frQ_tr fQ s4, s5, s6⟩
  · obtain ⟨c2, r', w1, w2, w3, w4, w5, w6, w7⟩ := wrong_two p2'
    refine Or.inr ⟨c2, r', ?_, ?_, frP_tr fP (w6 b), frQ_tr fQ (frQ_N w7), w4, w5⟩
    · rw [C2, j89_no p2' g8, w1, Option.bind_some, zk0]
    · rw [O4]
      by_cases g1 : tk (k + 1 + 1) = 1
      · have er := w2 g1
        rw [er] at w4 ⊢
        rw [if_neg (bad_n w4).1, J92_e w4]
      · have z0 := (cur_0 b6 g1).1
        rw [if_pos z0, isRule_r b6 g1 o16, Option.bind_some, if_neg g8, if_pos rfl, w3 g1, Option.bind_some, J92_e w4]
def lres (b : Bool) (c r : vv_H) (E : Option (vv_H ⊕ vv_H)) (G : Option vv_H) : Prop := ∃ e r', E = some e ∧ G = some r' ∧ frQ r r' ∧ ((∃ c' m, e = .inl c' ∧ frP b c c' ∧ m ≤ 12 ∧ dra b c' r' m m m ∧ r'.1 0 19 = 0) ∨ (∃ c', e = .inr c' ∧ frP b c c' ∧ bad r' ∧ err c' r'))
theorem lines_step {b : Bool} {l F1 F2 : Nat} (hl : l ≤ 12) (hF : 0 < F2) (ih : l < 12 → ∀ (c r : vv_H) (k : Nat), ps w L n st tp tk tv c r k → dra b c r (l + 1) (l + 1) (l + 1) → lres b c r (vv_lp (fun (zs : Int32 × vv_H) => ff_X5_read_B17 b zs.1 zs.2) F1 (nI (l + 1), c)) (vv_lp (fun (zs : vv_H) => ff_X12_text_B19 zs) F2 r)) {c r : vv_H} {k : Nat} (hp : ps w L n st tp tk tv c r k) (hd : dra b c r l l l) : lres b c r (vv_lp (fun (zs : Int32 × vv_H) => ff_X5_read_B17 b zs.1 zs.2) (F1 + 1) (nI l, c)) (vv_lp (fun (zs : vv_H) => ff_X12_text_B19 zs) (F2 + 1) r) := by
  have hp' := hp
  obtain ⟨h1, h2, h3, h4, h5, h6⟩ := hp
  obtain ⟨l1, _⟩ := lex_k h2 h1
  obtain ⟨t1, t2, t3⟩ := tokAt h3 h1
  have e0 : (nI (tk k) = 0) ↔ tk k = 0 := nI_eq (show tk k < 2 ^ 31 by omega) (show 0 < 2 ^ 31 by decide)
  have e12 : ¬ (12 : Int32) < nI l := nI_nlt (show l ≤ 12 by omega) (by decide)
  have B : ff_X5_read_B17 b (nI l) c = if nI (tk k) = 0 then some (.inr (.inl c)) else (ff_X5_readLine c b).bind (fun r9 => (if r9.1 = 0 then some (.inr (.inr r9.2)) else some (.inl (nI (l + 1), r9.2)))) := by
    unfold ff_X5_read_B17
    rw [if_neg e12, h4, t1, Option.bind_some, nI_1]
    rfl
  by_cases g0 : tk k = 0
  · rw [if_pos (e0.mpr g0)] at B
    obtain ⟨q1, q2, q3, q4⟩ := cur_0 h6 (show tk k ≠ 1 by omega)
    have q3' : r.1 0 23 = 0 := by rw [q3, g0]; rfl
    refine ⟨.inl c, r, ?_, ?_, frQ_rf r, Or.inl ⟨c, l, rfl, frP_rf b c, hl, hd, q1⟩⟩
    · rw [vv_lp, B]
    · rw [vv_lp, ff_X12_text_B19, if_pos q1, if_pos q3']
  rw [if_neg (fun z => g0 (e0.mp z))] at B
  by_cases g1 : tk k = 1
  · obtain ⟨c', r', w1, w2, w3, w4, w5, w6, w7⟩ := wrong_two hp'
    have er := w2 g1
    rw [er] at w4 w5
    have e7 : nI (tk k) < (7 : Int32) := nI_lt (show tk k < 7 by omega) (by decide)
    have RL : ff_X5_readLine c b = some (0, c') := by
      unfold ff_X5_readLine
      rw [h4, t1, Option.bind_some, if_pos e7, w1, Option.bind_some, zk0]
    refine ⟨.inr c', r, ?_, ?_, frQ_rf r, Or.inr ⟨c', rfl, w6 b, w4, w5⟩⟩
    · rw [vv_lp, B, RL, Option.bind_some]
      rfl
    · rw [vv_lp, ff_X12_text_B19, if_neg (bad_n w4).1]
  obtain ⟨q1, q2, q3, q4⟩ := cur_0 h6 g1
  have q3' : ¬ r.1 0 23 = 0 := by
    have key : ∀ t, t < 16 → t ≠ 0 → ¬ tm t = 0 := by decide +kernel
    rw [q3]
    exact key _ l1 g0
  rcases line_two hp' g1 hl hd with ⟨c', r', k', s1, s2, s3, s4, s5, s6, s7⟩ | ⟨c', r', s1, s2, s3, s4, s5, s6⟩
  · obtain ⟨e, r2, y1, y2, y3, y4⟩ := ih s6 c' r' k' s5 s7
    refine ⟨e, r2, ?_, ?_, frQ_tr s4 y3, ?_⟩
    · rw [vv_lp, B, s1, Option.bind_some, if_neg (show ¬ (1 : Int32) = 0 from by decide)]
      exact y1
    · rw [vv_lp, ff_X12_text_B19, if_pos q1, if_neg q3', s2, Option.bind_some]
      exact y2
    · rcases y4 with ⟨c2, m, z1, z2, z3⟩ | ⟨c2, z1, z2, z3⟩
      · exact Or.inl ⟨c2, m, z1, frP_tr s3 z2, z3⟩
      · exact Or.inr ⟨c2, z1, frP_tr s3 z2, z3⟩
  · obtain ⟨F2, rfl⟩ : ∃ f, F2 = f + 1 := ⟨F2 - 1, by omega⟩
    refine ⟨.inr c', r', ?_, ?_, s4, Or.inr ⟨c', rfl, s3, s5, s6⟩⟩
    · rw [vv_lp, B, s1, Option.bind_some, if_pos rfl]
    · rw [vv_lp, ff_X12_text_B19, if_pos q1, if_neg q3', s2, Option.bind_some]
      show vv_lp _ (F2 + 1) r' = _
      rw [vv_lp, ff_X12_text_B19, if_neg (bad_n s5).1]
/-- all lines -/
theorem lines_all {b : Bool} : ∀ (d l : Nat), l + d = 12 → ∀ (F1 F2 : Nat), d < F1 → d + 1 < F2 → ∀ (c r : vv_H) (k : Nat), ps w L n st tp tk tv c r k → dra b c r l l l → lres b c r (vv_lp (fun (zs : Int32 × vv_H) => ff_X5_read_B17 b zs.1 zs.2) F1 (nI l, c)) (vv_lp (fun (zs : vv_H) => ff_X12_text_B19 zs) F2 r) := by
  intro d
  induction d with
  | zero =>
    intro l hld F1 F2 h1 h2 c r k hp hd
    obtain ⟨F1, rfl⟩ : ∃ f, F1 = f + 1 := ⟨F1 - 1, by omega⟩
    obtain ⟨F2, rfl⟩ : ∃ f, F2 = f + 1 := ⟨F2 - 1, by omega⟩
    exact lines_step (by omega) (by omega) (fun h => by omega) hp hd
  | succ d ih =>
    intro l hld F1 F2 h1 h2 c r k hp hd
    obtain ⟨F1, rfl⟩ : ∃ f, F1 = f + 1 := ⟨F1 - 1, by omega⟩
    obtain ⟨F2, rfl⟩ : ∃ f, F2 = f + 1 := ⟨F2 - 1, by omega⟩
    exact lines_step (by omega) (by omega) (fun _ c r k hp hd => ih (l + 1) (by omega) F1 F2 (by omega) (by omega) c r k hp hd) hp hd
end
theorem phf_27 {k j k' j' : Nat} (h : ph_f k j = some (k', j')) : ¬ (16 ≤ k' ∧ k' ≤ 21) ∧ ¬ (k' = 0 ∧ j' = 27) := by
  have hg := ph_fg h
  constructor
  · intro q
    have hz : ph_g k' j' = none := by
      have h3 : ∀ {p : Prop} [Decidable p] {A B : Option (Nat × Nat)}, ¬ p → (if p then A else B) = B := fun hp => if_neg hp
      unfold ph_g
      iterate 40 (first | (rw [h3 (by omega)]) | skip)
    rw [hz] at hg
    cases hg
  · intro q
    have hz : ph_g k' j' = none := by
      have h3 : ∀ {p : Prop} [Decidable p] {A B : Option (Nat × Nat)}, ¬ p → (if p then A else B) = B := fun hp => if_neg hp
      unfold ph_g
      iterate 40 (first | (rw [h3 (by omega)]) | skip)
    rw [hz] at hg
    cases hg
/-- the draft becomes the rules in force -/
theorem RR_swap {c c' r r' : vv_H} (H : RR c r) (hc : c'.1 = c.1) (hb : c'.2.2 1 = !(c'.2.2 0)) (hr : ∀ k j, ¬ (16 ≤ k ∧ k ≤ 21) → ¬ (k = 0 ∧ j = 27) → r'.1 k j = r.1 k j) {m : Nat} (hm : m ≤ 12) (e1 : r'.1 0 27 = nI m) (e2 : c'.1 (vv_rid (c'.2.2 0)) 0 = nI m) (e3 : ∀ i, i < m → rline c' r' (vv_rid (c'.2.2 0)) 16 i) : RR c' r' := by
  obtain ⟨a1, a2, a3, a4, a5, a6, a7⟩ := H
  refine ⟨fun k j k' j' e => ?_, fun k j lo hi e => ?_, ?_, fun j hj => ?_, ⟨hb, ⟨?_, ?_, ?_⟩, fun i hi => ?_⟩, fun k hk => ?_, fun j hj => ?_, fun j hj => ?_⟩
  · obtain ⟨o1, o2⟩ := phf_27 e
    rw [hc, hr k' j' o1 o2]
    exact a1 k j k' j' e
  · rw [hc]
    exact a2 k j lo hi e
  · refine wfp_of a3 ?_ ?_ ?_ ?_ ?_ ?_ ?_ ?_ fun a ha => ?_ <;> rw [hc]
  · rw [hc, hr 13 j (by omega) (by omega)]
    exact a4 j hj
  · rw [e1, e2]
  · rw [e2, nI_toInt (by omega)]
    omega
  · rw [e2, nI_toInt (by omega)]
    omega
  · rw [e2, nI_toInt (by omega)] at hi
    exact e3 i (by omega)
  · rw [hc, hr 53 k (by omega) (by omega), hr 54 k (by omega) (by omega)]
    rcases a6 k hk with h | ⟨g1, g2, g3, g4, g5, g6, g7⟩
    · exact Or.inl h
    · refine Or.inr ⟨g1, g2, g3, g4, g5, g6, fun j hj => ?_⟩
      rw [hr 55 _ (by omega) (by omega)]
      exact g7 j hj
  · rw [hr 14 j (by omega) (by omega)]
    exact a7.1 j hj
  · rw [hr 15 j (by omega) (by omega)]
    exact a7.2 j hj
