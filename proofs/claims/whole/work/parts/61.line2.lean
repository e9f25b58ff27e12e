section
variable {w : Nat → Nat} {L n : Nat} {st tp tk tv : Nat → Nat}
theorem rule_full {b : Bool} {c r : vv_H} {k l f : Nat} (hp : ps w L n st tp tk tv c r k) (h8 : 8 ≤ tk k ∧ tk k ≤ 10) (hl : l < 12) (hf : f < 10000) (hd : dra b c r l l l) : fin2 w L n st tp tk tv b c r (ff_X5_readLine_J89 b (nI f) c) (ff_X12_oneLine_J92 (nI f) r) (fun c' r' _ => dra b c' r' (l + 1) (l + 1) (l + 1)) := by
  have hp' := hp
  obtain ⟨h1, h2, h3, h4, h5, h6⟩ := hp
  obtain ⟨l1, _⟩ := lex_k h2 h1
  obtain ⟨s, hs⟩ : ∃ s, tk k = s + 8 := ⟨tk k - 8, by omega⟩
  have hs2 : s ≤ 2 := by omega
  obtain ⟨q1, q2, q3, q4⟩ := cur_0 h6 (show tk k ≠ 1 by omega)
  have q4' : r.1 0 24 = nI s := by
    rw [q4, hs]
    have hc : s = 0 ∨ s = 1 ∨ s = 2 := by omega
    rcases hc with rfl | rfl | rfl <;> rfl
  have hb := rid_bd b
  -- the component
  obtain ⟨g11, eg⟩ : ∃ g, g = vv_iu c 55 2 (nI (k + 1)) := ⟨_, rfl⟩
  have fc1 : ∀ b, frP b c g11 := fun b => by rw [eg]; exact frP_iu (frP_rf b c) (Or.inl rfl)
  have e11 : g11.1 55 2 = nI (k + 1) := by rw [eg]; exact vv_iu_eq
  have e8 : ¬ nI (s + 8) < (8 : Int32) := nI_nlt (show 8 ≤ s + 8 by omega) (by omega)
  have e10 : nI (s + 8) ≤ (10 : Int32) := nI_le (show s + 8 ≤ 10 by omega) (by decide)
  have e88 : (nI (s + 8) = (8 : Int32)) ↔ s = 0 := by
    rw [show (8 : Int32) = nI 8 from rfl, nI_eq (by omega) (by omega)]
    omega
  have B : ff_X5_readLine_J89 b (nI f) c = (ff_X5_readRule g11 b (nI (s + 8)) (nI f)).bind (fun r13 => (if r13.1 = 0 then some ((0 : Int32), r13.2) else (if nI (s + 8) = (8 : Int32) then (ff_X10_tokenAt r13.2 (r13.2.1 55 2)).bind (fun r22 => (if r22 = (11 : Int32) then (ff_X5_readTests r13.2 b).bind (fun r24 => (if r24.1 = 0 then some ((0 : Int32), r24.2) else ff_X5_readLine_J175 r24.2)) else ff_X5_readLine_J175 r13.2)) else ff_X5_readLine_J175 r13.2))) := by
    unfold ff_X5_readLine_J89
    rw [h4, (tokAt h3 h1).1, Option.bind_some, hs, if_neg e8, if_pos e10, vlE, nI_1, ← eg]
  -- the reference
  obtain ⟨A, eA⟩ : ∃ A, A = vv_iu (vv_iu (vv_iu r 22 l (nI s)) 23 l (nI f)) 26 l 0 := ⟨_, rfl⟩
  have kA : kp r A := by rw [eA]; exact kp_iu (kp_iu (kp_iu (kp_rf r) (by omega)) (by omega)) (by omega)
  obtain ⟨r14, n1, n2, p1⟩ := step_two hp' (by omega) (by omega) (fc1 b) e11 (kp_Q kA) (kA.2 0 19 (by omega)) (kA.2 0 21 (by omega))
  have f14 : frQ r r14 := frQ_tr (kp_Q kA) (frQ_N n2)
  have r14l : r14.1 0 34 = nI l := by rw [n2.2 0 34 (by omega), kA.2 0 34 (by omega), hd.2.1]
  obtain ⟨RS, eRS⟩ : ∃ RS : Int32 → vv_H → Option vv_H, RS = fun x e32 => vv_ck (e32.1 0 34) 12 (vv_let (vv_iu e32 24 (e32.1 0 34).toNatClampNeg x) (fun g34 => (ff_X12_next g34).bind (fun r36 => (if nI s = (1 : Int32) then ff_X12_oneLine_J246 (nI s) (1 : Int32) (r36.1 0 34) r36 else ff_X12_oneLine_J246 (nI s) (0 : Int32) (r36.1 0 34) r36)))) := ⟨_, rfl⟩
  have RSi : ∀ x e32, RS x e32 = vv_ck (e32.1 0 34) 12 (vv_let (vv_iu e32 24 (e32.1 0 34).toNatClampNeg x) (fun g34 => (ff_X12_next g34).bind (fun r36 => (if nI s = (1 : Int32) then ff_X12_oneLine_J246 (nI s) (1 : Int32) (r36.1 0 34) r36 else ff_X12_oneLine_J246 (nI s) (0 : Int32) (r36.1 0 34) r36)))) := fun x e32 => by rw [eRS]
  have F : ff_X12_oneLine_J92 (nI f) r = (ff_X12_number r14 0 3).bind (fun r16 => (vv_lp (fun (zs : Int32 × vv_H) => ff_X12_oneLine_B149 (nI f) (nI s) r16.1 zs.1 zs.2) vv_F ((0 : Int32), r16.2)).bind (fun (e32 : (vv_H)) => RS r16.1 e32)) := by
    rw [eRS]
    unfold ff_X12_oneLine_J92
    have x1 : (vv_iu r 22 l (nI s)).1 0 34 = nI l := by rw [vv_iu_ne (by omega), hd.2.1]
    have x2 : (vv_iu (vv_iu r 22 l (nI s)) 23 l (nI f)).1 0 34 = nI l := by rw [vv_iu_ne (by omega), x1]
    rw [if_pos (by rw [q1]; decide), vlE, hd.2.1, ck_lit hl (by decide), vlE, nI_clamp (by omega), q4', x1, ck_lit hl (by decide), vlE, nI_clamp (by omega), x2, ck_lit hl (by decide), vlE, nI_clamp (by omega), ← eA, n1, Option.bind_some]
  have p1' := p1
  obtain ⟨a1, a2, a3, a4, a5, a6⟩ := p1
  have PL : (ff_X10_placeAt g11 (g11.1 55 2)) = some (nI (tp (k + 1))) := by rw [a4]; exact (tokAt a3 a1).2.1
  -- when the reference has a fault before the number
  have late : ∀ (c' : vv_H) (x : Int32) (r16 : vv_H), ff_X5_readRule g11 b (nI (s + 8)) (nI f) = some (0, c') → (ff_X12_oneLine_J92 (nI f) r = RS x r16) → bad r16 → err c' r16 → frP b c c' → frQ r r16 → r16.1 0 34 = nI l → fin2 w L n st tp tk tv b c r (ff_X5_readLine_J89 b (nI f) c) (ff_X12_oneLine_J92 (nI f) r) (fun c' r' _ => dra b c' r' (l + 1) (l + 1) (l + 1)) := fun c' x r16 y1 y2 y3 y4 y5 y6 y7 => by
    obtain ⟨g, z1, z2⟩ := rest_e y3 hl y7 x (nI s)
    refine Or.inr ⟨c', g, ?_, ?_, y5, frQ_tr y6 (kp_Q z2), bad_kp y3 z2, err_kp y4 z2⟩
    · rw [B, y1, Option.bind_some, if_pos rfl]
    · rw [y2, RSi]
      exact z1
  rcases num_two p1' (lo := 0) (hi := 3) (by decide) (by decide) with ⟨c', i1, i2, i3, i4, i5, i6, i7, i8⟩ | ⟨c', x, r16, i1, i2, i3, i4, i5, i6⟩
  case inr =>
    rw [show nI 0 = (0 : Int32) from rfl, show nI 3 = (3 : Int32) from rfl] at i1 i2
    refine late c' x r16 ?_ ?_ i3 i4 (frP_tr (fc1 b) (i5 b)) (frQ_tr f14 (frQ_N i6)) (by rw [i6.2 0 34 (by omega), r14l])
    · unfold ff_X5_readRule
      rw [PL, Option.bind_some, i1, Option.bind_some, if_pos rfl]
    · rw [F, i2, Option.bind_some]
      show (vv_lp (fun (zs : Int32 × vv_H) => ff_X12_oneLine_B149 (nI f) (nI s) x zs.1 zs.2) vv_F ((0 : Int32), r16)).bind _ = _
      rw [B149_e i3, Option.bind_some]
  rw [show nI 0 = (0 : Int32) from rfl, show nI 3 = (3 : Int32) from rfl] at i4 i5
  obtain ⟨kd, ekd⟩ : ∃ kd, kd = tv (k + 1) := ⟨_, rfl⟩
  rw [← ekd] at i2 i3 i5 i6
  have hc' : ∀ a j, a ≠ 55 → c'.1 a j = c.1 a j := fun a j ha => by rw [fr55 i8 a j ha, fr55 fc1 a j ha]
  have rowA : ∀ a j, 22 ≤ a → a ≤ 27 → r14.1 a j = if a = 26 ∧ j = l then 0 else if a = 23 ∧ j = l then nI f else if a = 22 ∧ j = l then nI s else r.1 a j := fun a j y1 y2 => by
    rw [n2.2 a j (by omega), eA, vv_iu_e, vv_iu_e, vv_iu_e]
  have dc' : dra b c' r14 l l l := by
    refine ⟨by rw [hc' _ _ (by omega)]; exact hd.1, r14l, fun i hi => rl_cg (hd.2.2 i hi) (fun a j ha => hc' a j (by omega)) (by omega) (fun a y1 y2 => ?_) fun j y1 y2 => ?_⟩
    · rw [rowA a i y1 (by omega), if_neg (by omega), if_neg (by omega), if_neg (by omega)]
    · rw [rowA 27 j (by omega) (by omega), if_neg (by omega), if_neg (by omega), if_neg (by omega)]
  have fc' : frP b c c' := frP_tr (fc1 b) (i8 b)
  obtain ⟨u1, u2, _, _⟩ := cur_0 a6 (show tk (k + 1) ≠ 1 by omega)
  have RR1 : ff_X5_readRule g11 b (nI (s + 8)) (nI f) = if nI (s + 8) = (8 : Int32) then ff_X5_readRule_J54 b (nI (s + 8)) (nI f) (nI kd) c' else (ff_X6_isTold c' b (nI (s + 8)) (nI kd) (nI f)).bind (fun r11 => (if r11 = 0 then ff_X5_readRule_J54 b (nI (s + 8)) (nI f) (nI kd) c' else (ff_X5_refuse c' (5 : Int32) (nI (tp (k + 1)))).bind (fun r13 => vv_zk r13.1 (some (r13.1, r13.2))))) := by
    unfold ff_X5_readRule
    rw [PL, Option.bind_some, i4, Option.bind_some, if_neg (show ¬ (1 : Int32) = 0 from by decide)]
    show vv_let (c'.1 55 3) _ = _
    rw [vlE, i6]
  -- once it is known not to be told
  have go : ff_X5_readRule g11 b (nI (s + 8)) (nI f) = ff_X5_readRule_J54 b (nI (s + 8)) (nI f) (nI kd) c' → ff_X12_oneLine_J92 (nI f) r = RS (nI kd) r14 → fin2 w L n st tp tk tv b c r (ff_X5_readLine_J89 b (nI f) c) (ff_X12_oneLine_J92 (nI f) r) (fun c' r' _ => dra b c' r' (l + 1) (l + 1) (l + 1)) := fun y1 y2 => by
    obtain ⟨D, eD⟩ : ∃ D, D = vv_iu r14 24 l (nI kd) := ⟨_, rfl⟩
    have kD : kp r14 D := by rw [eD]; exact kp_iu (kp_rf r14) (by omega)
    obtain ⟨r36, m1, m2, p2⟩ := step_two p1' (by omega) (by omega) (i8 b) i7 (kp_Q kD) (kD.2 0 19 (by omega)) (kD.2 0 21 (by omega))
    have f36 : frQ r r36 := frQ_tr f14 (frQ_tr (kp_Q kD) (frQ_N m2))
    have rowD : ∀ a j, 22 ≤ a → a ≤ 27 → r36.1 a j = if a = 24 ∧ j = l then nI kd else r14.1 a j := fun a j z1 z2 => by
      rw [m2.2 a j (by omega), eD, vv_iu_e]
    have r36l : r36.1 0 34 = nI l := by rw [m2.2 0 34 (by omega), kD.2 0 34 (by omega), r14l]
    have d36 : dra b c' r36 l l l := by
      refine ⟨dc'.1, r36l, fun i hi => rl_cg (dc'.2.2 i hi) (fun _ _ _ => rfl) (by omega) (fun a z1 z2 => ?_) fun j z1 z2 => ?_⟩
      · rw [rowD a i z1 (by omega), if_neg (by omega)]
      · rw [rowD 27 j (by omega) (by omega), if_neg (by omega)]
    have RS1 : RS (nI kd) r14 = if nI s = (1 : Int32) then ff_X12_oneLine_J246 (nI s) 1 (nI l) r36 else ff_X12_oneLine_J246 (nI s) 0 (nI l) r36 := by
      rw [RSi, r14l, ck_lit hl (by decide), vlE, nI_clamp (by omega), ← eD, m1, Option.bind_some, r36l]
    have r22 : r36.1 22 l = nI s := by rw [rowD 22 l (by omega) (by omega), if_neg (by omega), rowA 22 l (by omega) (by omega), if_neg (by omega), if_neg (by omega), if_pos ⟨rfl, rfl⟩]
    have r23 : r36.1 23 l = nI f := by rw [rowD 23 l (by omega) (by omega), if_neg (by omega), rowA 23 l (by omega) (by omega), if_neg (by omega), if_pos ⟨rfl, rfl⟩]
    have r24 : r36.1 24 l = nI kd := by rw [rowD 24 l (by omega) (by omega), if_pos ⟨rfl, rfl⟩]
    have r26 : r36.1 26 l = 0 := by rw [rowD 26 l (by omega) (by omega), if_neg (by omega), rowA 26 l (by omega) (by omega), if_pos ⟨rfl, rfl⟩]
    rcases num2_two p2 hl hs2 hf i3 d36 r22 r23 r24 r26 with (⟨_, _, _, _, _, _, _, _, ff⟩ | ⟨c2, r2, z1, z2, z3, z4, z5, z6⟩) | ⟨c2, r2, k2, z1, z2, z3, z4, z5, z6, z7⟩
    · exact ff.elim
    · refine Or.inr ⟨c2, r2, ?_, ?_, frP_tr fc' z3, frQ_tr f36 z4, z5, z6⟩
      · rw [B, y1, z1, Option.bind_some, if_pos rfl]
      · rw [y2, RS1, z2]
    · rw [← RS1, ← y2] at z7
      have B2 : ff_X5_readLine_J89 b (nI f) c = if nI (s + 8) = (8 : Int32) then (if nI (tk k2) = (11 : Int32) then (ff_X5_readTests c2 b).bind (fun r24 => (if r24.1 = 0 then some ((0 : Int32), r24.2) else ff_X5_readLine_J175 r24.2)) else ff_X5_readLine_J175 c2) else ff_X5_readLine_J175 c2 := by
        rw [B, y1, z1, Option.bind_some, if_neg (show ¬ (1 : Int32) = 0 from by decide)]
        show (if nI (s + 8) = (8 : Int32) then (ff_X10_tokenAt c2 (c2.1 55 2)).bind _ else _) = _
        rw [z4.2.2.2.1, (tokAt z4.2.2.1 z4.1).1, Option.bind_some]
      obtain ⟨o16, _⟩ := lex_k z4.2.1 z4.1
      have e11 : (nI (tk k2) = (11 : Int32)) ↔ tk k2 = 11 := nIk (j := 11) o16 (by decide)
      have es0 : (nI s = 0) ↔ s = 0 := nI_eq (show s < 2 ^ 31 by omega) (show 0 < 2 ^ 31 by decide)
      have fP : frP b c c2 := frP_tr fc' z2
      have fQ : frQ r r2 := frQ_tr f36 z3
      -- nothing but the stop is left
      have stop : ff_X5_readLine_J89 b (nI f) c = ff_X5_readLine_J175 c2 → ff_X12_oneLine_J92 (nI f) r = ff_X12_oneLine_J321 r2 → fin2 w L n st tp tk tv b c r (ff_X5_readLine_J89 b (nI f) c) (ff_X12_oneLine_J92 (nI f) r) (fun c' r' _ => dra b c' r' (l + 1) (l + 1) (l + 1)) := fun v1 v2 => by
        rw [v1, v2]
        rcases stop_two z4 hl z5 with ⟨c3, r3, k3, s1, s2, s3, s4, s5, s6⟩ | ⟨c3, r3, s1, s2, s3, s4, s5, s6⟩
        · exact Or.inl ⟨c3, r3, k3, s1, s2, frP_tr fP s3, frQ_tr fQ s4, s5, s6⟩
        · exact Or.inr ⟨c3, r3, s1, s2, frP_tr fP s3, frQ_tr fQ s4, s5, s6⟩
      by_cases g0 : s = 0 ∧ tk k2 = 11
      · obtain ⟨g0, g11⟩ := g0
        rw [if_pos (e88.mpr g0), if_pos (e11.mpr g11)] at B2
        have w0 := (cur_0 z4.2.2.2.2.2 (show tk k2 ≠ 1 by omega)).1
        have qn := isName_r z4.2.2.2.2.2 (show tk k2 ≠ 1 by omega) o16 (m := 7) (by decide)
        rw [if_pos (show tk k2 = 7 + pm 7 from g11), show nI 7 = (7 : Int32) from rfl] at qn
        obtain ⟨e, s1, s2, s3, t1, t2, t3, t4, t5, t6⟩ := tests_all hl 3 0 rfl vv_F vv_F (vv_F_lt (by decide)) (vv_F_lt (by decide)) c2 r2 k2 z4 (Or.inl g11) z5 z6
        rw [if_pos w0, if_pos (es0.mpr g0), qn, Option.bind_some, if_neg (show ¬ (1 : Int32) = 0 from by decide), t2, Option.bind_some, t3, Option.bind_some, t4, Option.bind_some] at z7
        have RT : ff_X5_readTests c2 b = tEL e := by
          unfold ff_X5_readTests
          rw [show (0 : Int32) = nI 0 from rfl, t1, Option.bind_some]
          rfl
        rw [RT] at B2
        rcases t6 with ⟨c3, v1, v2, v3, v4⟩ | ⟨c3, k3, v1, v2, v3, v4⟩
        · refine Or.inr ⟨c3, s3, ?_, ?_, frP_tr fP v2, frQ_tr fQ t5, v3, v4⟩
          · rw [B2, v1, Option.bind_some, if_pos rfl]
          · rw [z7, J321_e v3]
        · rw [v1, Option.bind_some, if_neg (show ¬ (1 : Int32) = 0 from by decide)] at B2
          rw [B2, z7]
          rcases stop_two v3 hl v4 with ⟨c4, r4, k4, x1, x2, x3, x4, x5, x6⟩ | ⟨c4, r4, x1, x2, x3, x4, x5, x6⟩
          · exact Or.inl ⟨c4, r4, k4, x1, x2, frP_tr fP (frP_tr v2 x3), frQ_tr fQ (frQ_tr t5 x4), x5, x6⟩
          · exact Or.inr ⟨c4, r4, x1, x2, frP_tr fP (frP_tr v2 x3), frQ_tr fQ (frQ_tr t5 x4), x5, x6⟩
      · refine stop ?_ ?_
        · rw [B2]
          by_cases d : s = 0
          · rw [if_pos (e88.mpr d), if_neg (fun z => g0 ⟨d, e11.mp z⟩)]
          · rw [if_neg (fun z => d (e88.mp z))]
        · rw [z7]
          by_cases d1 : r2.1 0 19 = 0
          · rw [if_pos d1]
            by_cases d : s = 0
            · have n1 : tk k2 ≠ 1 := fun z => (bad_n (cur_1 z4.2.2.2.2.2 z)).1 d1
              have qn := isName_r z4.2.2.2.2.2 n1 o16 (m := 7) (by decide)
              rw [if_neg (show ¬ tk k2 = 7 + pm 7 from fun z => g0 ⟨d, z⟩), show nI 7 = (7 : Int32) from rfl] at qn
              rw [if_pos (es0.mpr d), qn, Option.bind_some, if_pos rfl]
            · rw [if_neg (fun z => d (es0.mp z))]
          · rw [if_neg d1]
  by_cases g0 : s = 0
  · rw [if_pos (e88.mpr g0)] at RR1
    refine go RR1 ?_
    rw [F, i5, Option.bind_some]
    show (vv_lp (fun (zs : Int32 × vv_H) => ff_X12_oneLine_B149 (nI f) (nI s) (nI kd) zs.1 zs.2) vv_F ((0 : Int32), r14)).bind _ = _
    rw [g0, show nI 0 = (0 : Int32) from rfl, B149_0 u1, Option.bind_some]
  · rw [if_neg (fun z => g0 (e88.mp z))] at RR1
    obtain ⟨z, r', t1, t2, t3⟩ := told_two (b := b) (c := c') (r := r14) (s := s) (kd := kd) (f := f) (l := l) (by omega) (by omega) (by omega) hf dc'.1 dc'.2.1 dc'.2.2 u1 u2
    have F2 : ff_X12_oneLine_J92 (nI f) r = RS (nI kd) r' := by
      rw [F, i5, Option.bind_some]
      show (vv_lp (fun (zs : Int32 × vv_H) => ff_X12_oneLine_B149 (nI f) (nI s) (nI kd) zs.1 zs.2) vv_F ((0 : Int32), r14)).bind _ = _
      rw [t2, Option.bind_some]
    rw [t1, Option.bind_some] at RR1
    rcases t3 with ⟨rfl, rfl⟩ | ⟨rfl, rfl⟩
    · rw [if_pos rfl] at RR1
      exact go RR1 F2
    · rw [if_neg (by decide), refuse_c, Option.bind_some, zk0] at RR1
      exact late _ _ _ RR1 F2 (bad_of (by decide)) (err_of (by decide)) (frP_tr fc' (frP_iu (frP_iu (frP_rf b c') (Or.inl rfl)) (Or.inl rfl))) (frQ_tr f14 (frQ_iu (frQ_iu (frQ_rf r14) (by omega)) (by omega))) (by simp (disch := omega) only [vv_iu_nj]; exact r14l)
end
