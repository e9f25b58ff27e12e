theorem fr55 {c c' : vv_H} (h : ∀ b, frP b c c') : ∀ k j, k ≠ 55 → c'.1 k j = c.1 k j := fun k j hk => by
  by_cases g : 56 ≤ k ∧ k < 101
  · exact (h true).2 k j hk (by show ¬ (101 ≤ k ∧ k < 101 + 45); omega)
  · exact (h false).2 k j hk (by show ¬ (56 ≤ k ∧ k < 56 + 45); omega)
def tEL (e : vv_H ⊕ vv_H ⊕ vv_H ⊕ vv_H ⊕ vv_H ⊕ vv_H) : Option (Int32 × vv_H) := Sum.elim (fun (e20 : (vv_H)) => some ((1 : Int32), e20)) (Sum.elim (fun (e21 : (vv_H)) => (ff_X5_refuseToken e21).bind (fun r22 => vv_zk r22.1 (some (r22.1, r22.2)))) (Sum.elim (fun (e25 : (vv_H)) => (ff_X10_placeAt e25 (e25.1 55 2)).bind (fun r26 => (ff_X5_refuse e25 (4 : Int32) r26).bind (fun r28 => vv_zk r28.1 (some (r28.1, r28.2))))) (Sum.elim (fun (e31 : (vv_H)) => (ff_X5_refuseToken e31).bind (fun r32 => vv_zk r32.1 (some (r32.1, r32.2)))) (Sum.elim (fun (e35 : (vv_H)) => some ((0 : Int32), e35)) (fun (e36 : (vv_H)) => some ((1 : Int32), e36)))))) e
theorem J135_e {r : vv_H} (h : bad r) {u l : Nat} (hu : u + 2 < 108) (hl : l < 12) (e : r.1 0 34 = nI l) : ∃ g, ff_X12_test_J135 (nI u) r = some g ∧ kp r g := by
  have k1 : kp r (vv_iu r 27 (u + 1) (r.1 0 24)) := kp_iu (kp_rf r) (by omega)
  have hb := bad_kp h k1
  obtain ⟨A, eA⟩ : ∃ A, A = vv_iu r 27 (u + 1) (r.1 0 24) := ⟨_, rfl⟩
  rw [← eA] at k1 hb
  have k2 : kp r (vv_iu A 27 (u + 2) (A.1 0 24)) := kp_iu k1 (by omega)
  have e34 : (vv_iu A 27 (u + 2) (A.1 0 24)).1 0 34 = nI l := by rw [k2.2 0 34 (by omega), e]
  have k3 : kp r (vv_iu (vv_iu A 27 (u + 2) (A.1 0 24)) 26 l ((vv_iu A 27 (u + 2) (A.1 0 24)).1 26 l + 1)) := kp_iu k2 (by omega)
  have e1 : nI u + (1 : Int32) = nI (u + 1) := nI_1 u
  have e2 : nI u + (2 : Int32) = nI (u + 2) := nI_add u 2
  have hb3 := bad_kp h k3
  refine ⟨_, ?_, k3⟩
  unfold ff_X12_test_J135
  rw [e1, e2, ck_lit (by omega) (by decide), vlE, nI_clamp (by omega), ← eA, next_e hb, Option.bind_some, number_e hb, Option.bind_some, ck_lit hu (by decide), vlE, nI_clamp (by omega)]
  show vv_ck ((vv_iu A 27 (u + 2) (A.1 0 24)).1 0 34) 12 _ = _
  rw [e34, ck_lit hl (by decide), ck_lit hl (by decide), vlE, nI_clamp (by omega), next_e hb3]
  rfl
section
variable {w : Nat → Nat} {L n : Nat} {st tp tk tv : Nat → Nat}
/-- a test behind 'if' or 'and' -/
theorem test_two {b : Bool} {c r : vv_H} {k l t : Nat} (h : ps w L n st tp tk tv c r k) (hk : tk k = 11 ∨ tk k = 12) (hl : l < 12) (ht : t ≤ 3) (hd : dra b c r (l + 1) (l + 1) l) (et : c.1 (vv_rid b + 5) l = nI t) : ∃ r1 r2, ff_X12_next r = some r1 ∧ ff_X12_test r1 = some r2 ∧ frQ r r2 ∧
    ((∃ e c', ff_X5_readTests_B2 b (nI t) c = some (.inr e) ∧ tEL e = some (0, c') ∧ frP b c c' ∧ bad r2 ∧ err c' r2) ∨
     (∃ c' k', t < 3 ∧ frP b c c' ∧ ps w L n st tp tk tv c' r2 k' ∧ dra b c' r2 (l + 1) (l + 1) l ∧ c'.1 (vv_rid b + 5) l = nI (t + 1) ∧ ((tk k' = 12 ∧ ff_X5_readTests_B2 b (nI t) c = some (.inl (nI (t + 1), c'))) ∨ (tk k' ≠ 12 ∧ ∃ e, ff_X5_readTests_B2 b (nI t) c = some (.inr e) ∧ tEL e = some (1, c'))))) := by
  have hb := rid_bd b
  obtain ⟨q, eq⟩ : ∃ q, q = vv_rid b := ⟨_, rfl⟩
  rw [← eq] at et hb
  have hp := h
  have h4 := h.2.2.2.1
  have hk1 : tk k ≠ 0 ∧ tk k ≠ 1 := by omega
  -- the trait
  have fc1 : frP b c (vv_iu c 55 2 (nI (k + 1))) := frP_iu (frP_rf b c) (Or.inl rfl)
  obtain ⟨r1, n1, n2, p1⟩ := step_two hp hk1.1 hk1.2 fc1 vv_iu_eq (frQ_rf r) rfl rfl
  have p1' := p1
  obtain ⟨a1, a2, a3, a4, a5, a6⟩ := p1
  obtain ⟨l1, l2, l3, l4⟩ := lex_k a2 a1
  obtain ⟨t1, t2, t3⟩ := tokAt a3 a1
  have r34 : r1.1 0 34 = nI l := by rw [n2.2 0 34 (by omega), hd.2.1]
  have hrl := hd.2.2 l (by omega)
  have r26 : r1.1 26 l = nI t := by
    rw [n2.2 26 l (by omega)]
    have := hrl.2.2.2.2.1.1
    rw [← eq] at this
    exact this.trans et
  have B : ff_X5_readTests_B2 b (nI t) c = if nI (tk (k + 1)) < (13 : Int32) then some (.inr (.inr (.inl (vv_iu c 55 2 (nI (k + 1)))))) else if nI (tk (k + 1)) ≤ (15 : Int32) then (if nI t < (3 : Int32) then (ff_X10_tokenAt (vv_iu c 55 2 (nI (k + 2))) (nI (k + 2))).bind (fun r7 => if r7 < (3 : Int32) then some (.inr (.inr (.inr (.inr (.inl (vv_iu c 55 2 (nI (k + 2)))))))) else if r7 ≤ (5 : Int32) then (ff_X5_takeNumber (vv_iu c 55 2 (nI (k + 3))) (0 : Int32) (9 : Int32)).bind (fun r11 => (if r11.1 = 0 then some (.inr (.inr (.inr (.inr (.inr (.inl r11.2)))))) else (ff_X6_addTest r11.2 b (nI (tk (k + 1)) - (13 : Int32)) r7 (r11.2.1 55 3)).bind (fun r13 => (ff_X10_tokenAt r13 (r13.1 55 2)).bind (fun r15 => (if r15 = (12 : Int32) then some (.inl (nI (t + 1), r13)) else some (.inr (.inr (.inr (.inr (.inr (.inr r13)))))))))) ) else some (.inr (.inr (.inr (.inr (.inl (vv_iu c 55 2 (nI (k + 2))))))))) else some (.inr (.inr (.inr (.inl (vv_iu c 55 2 (nI (k + 1)))))))) else some (.inr (.inr (.inl (vv_iu c 55 2 (nI (k + 1)))))) := by
    have e3 : ¬ (3 : Int32) < nI t := nI_nlt (show t ≤ 3 by omega) (by decide)
    simp only [ff_X5_readTests_B2, if_neg e3, vv_let, h4, nI_1, vv_iu_eq, t1, Option.bind_some, vv_iu_iu]
  have e13 : (nI (tk (k + 1)) < (13 : Int32)) ↔ tk (k + 1) < 13 := nI_ltI (show tk (k + 1) < 2 ^ 31 by omega) (show 13 < 2 ^ 31 by decide)
  have e15 : (nI (tk (k + 1)) ≤ (15 : Int32)) ↔ tk (k + 1) ≤ 15 := nI_leI (show tk (k + 1) < 2 ^ 31 by omega) (show 15 < 2 ^ 31 by decide)
  by_cases g1 : 13 ≤ tk (k + 1)
  case neg =>
    obtain ⟨c', r', w1, w2, w3, w4, w5, w6, w7⟩ := wrong_two p1'
    rw [if_pos (e13.mpr (by omega))] at B
    refine ⟨r1, r', n1, ?_, frQ_tr (frQ_N n2) (frQ_N w7), Or.inl ⟨_, c', B, ?_, frP_tr fc1 (w6 b), w4, w5⟩⟩
    · by_cases g : tk (k + 1) = 1
      · have er := w2 g
        rw [er] at w4 ⊢
        exact test_e w4
      · obtain ⟨q1, q2, q3, q4⟩ := cur_0 a6 g
        have J : ff_X12_test_J32 r1 = some r' := by
          unfold ff_X12_test_J32
          rw [w3 g, Option.bind_some, J37_e w4]
        have key : ∀ t, t < 13 → t ≠ 1 → ¬ (tm t = (1 : Int32) ∧ 3 ≤ vtb t ∧ vtb t ≤ 5) := by decide +kernel
        unfold ff_X12_test
        rw [if_pos q1, q3, q4]
        by_cases d1 : tm (tk (k + 1)) = 1
        · rw [if_pos d1]
          have n2 : tk (k + 1) ≠ 2 := fun e => by
            rw [e] at d1
            exact absurd d1 (by decide)
          have vl : ∀ t, t < 16 → vtb t < 256 := by decide
          rw [show vm (tk (k + 1)) (tv (k + 1)) = nI (vtb (tk (k + 1))) from if_neg n2, inN (vl _ l1) (a := 3) (b := 5) (by decide) (by decide) rfl rfl, Option.bind_some, if_neg (fun d => key _ (by omega) g ⟨d1, d⟩), if_pos rfl, J]
        · rw [if_neg d1, J]
    · show (ff_X5_refuseToken (vv_iu c 55 2 (nI (k + 1)))).bind _ = _
      rw [w1, Option.bind_some, zk0]
  have g2 : tk (k + 1) ≤ 15 := by omega
  rw [if_neg (fun d => by have := e13.mp d; omega), if_pos (e15.mpr g2)] at B
  obtain ⟨q1, q2, q3, q4⟩ := cur_0 a6 (show tk (k + 1) ≠ 1 by omega)
  have keyT : ∀ t, t < 16 → 13 ≤ t → tm t = (1 : Int32) ∧ 3 ≤ vtb t ∧ vtb t ≤ 5 ∧ nI (vtb t) - (3 : Int32) = nI (t - 13) ∧ nI t - (13 : Int32) = nI (t - 13) := by decide +kernel
  obtain ⟨y1, y2, y3, y4, y5⟩ := keyT _ l1 g1
  have q4' : r1.1 0 24 = nI (vtb (tk (k + 1))) := by rw [q4]; exact if_neg (show tk (k + 1) ≠ 2 by omega)
  have T1 : ff_X12_test r1 = ff_X12_test_J37 r1 := by
    unfold ff_X12_test
    rw [if_pos q1, if_pos (by rw [q3]; exact y1), q4', inN (show vtb (tk (k + 1)) < 256 by omega) (a := 3) (b := 5) (by decide) (by decide) rfl rfl, Option.bind_some, if_pos (show 3 ≤ vtb (tk (k + 1)) ∧ vtb (tk (k + 1)) ≤ 5 from ⟨y2, y3⟩), if_neg (by decide)]
  have e3 : (nI t = (3 : Int32)) ↔ t = 3 := nIk (j := 3) (show t < 16 by omega) (by decide)
  have e3l : (nI t < (3 : Int32)) ↔ t < 3 := nI_ltI (show t < 2 ^ 31 by omega) (show 3 < 2 ^ 31 by decide)
  by_cases g3 : t = 3
  · -- too many
    rw [if_neg (fun d => by have := e3l.mp d; omega)] at B
    have hbad : bad (vv_iu (vv_iu r1 0 19 4) 0 20 (nI (tp (k + 1)))) := bad_of (by decide)
    refine ⟨r1, _, n1, ?_, frQ_tr (frQ_N n2) (frQ_iu (frQ_iu (frQ_rf r1) (by omega)) (by omega)), Or.inl ⟨_, vv_iu (vv_iu (vv_iu c 55 2 (nI (k + 1))) 55 1 4) 55 0 (nI (tp (k + 1))), B, ?_, frP_iu (frP_iu fc1 (Or.inl rfl)) (Or.inl rfl), hbad, err_of (by decide)⟩⟩
    · rw [T1]
      unfold ff_X12_test_J37
      rw [if_pos q1, r34, ck_lit hl (by decide), nI_clamp (by omega), r26, if_pos (e3.mpr g3), fails_0 q1 q2, Option.bind_some, J62_e hbad]
    · show (ff_X10_placeAt (vv_iu c 55 2 (nI (k + 1))) ((vv_iu c 55 2 (nI (k + 1))).1 55 2)).bind _ = _
      rw [vv_iu_eq, t2, Option.bind_some, refuse_c, Option.bind_some, zk0]
  have ht3 : t < 3 := by omega
  rw [if_pos (e3l.mpr ht3)] at B
  have ew : (9 : Int32) * nI l + 3 * nI t = nI (9 * l + 3 * t) := by rw [show (9 : Int32) = nI 9 from rfl, show (3 : Int32) = nI 3 from rfl, pk_mul, pk_mul, nI_add]
  -- the sign
  obtain ⟨A, eA⟩ : ∃ A, A = vv_iu r1 27 (9 * l + 3 * t) (nI (tk (k + 1) - 13)) := ⟨_, rfl⟩
  have kA : kp r1 A := by rw [eA]; exact kp_iu (kp_rf r1) (by omega)
  have fc2 : frP b (vv_iu c 55 2 (nI (k + 1))) (vv_iu c 55 2 (nI (k + 2))) := by
    rw [show vv_iu c 55 2 (nI (k + 2)) = vv_iu (vv_iu c 55 2 (nI (k + 1))) 55 2 (nI (k + 2)) from vv_iu_iu.symm]
    exact frP_iu (frP_rf b _) (Or.inl rfl)
  obtain ⟨r7, m1, m2, p2⟩ := step_two p1' (by omega) (by omega) fc2 vv_iu_eq (kp_Q kA) (kA.2 0 19 (by omega)) (kA.2 0 21 (by omega))
  have p2' := p2
  obtain ⟨b1, b2, b3, b4, b5, b6⟩ := p2
  rw [show k + 1 + 1 = k + 2 from rfl] at b1 b6 p2'
  obtain ⟨u1, u2, u3, u4⟩ := lex_k b2 b1
  obtain ⟨s1, s2, s3⟩ := tokAt b3 b1
  have f7 : frQ r r7 := frQ_tr (frQ_N n2) (frQ_tr (kp_Q kA) (frQ_N m2))
  have r7l : r7.1 0 34 = nI l := by rw [m2.2 0 34 (by omega), kA.2 0 34 (by omega), r34]
  have T2 : ff_X12_test r1 = if r7.1 0 19 = 0 then (if r7.1 0 23 = (3 : Int32) then (if r7.1 0 24 = (59 : Int32) then ff_X12_test_J130 (nI (9 * l + 3 * t)) r7 else ff_X12_test_J135 (nI (9 * l + 3 * t)) r7) else ff_X12_test_J130 (nI (9 * l + 3 * t)) r7) else ff_X12_test_J135 (nI (9 * l + 3 * t)) r7 := by
    rw [T1]
    unfold ff_X12_test_J37
    rw [if_pos q1, r34, ck_lit hl (by decide), nI_clamp (by omega), r26, if_neg (fun d => g3 (e3.mp d))]
    unfold ff_X12_test_J62
    rw [if_pos (by rw [q1]; decide), r34, ck_lit hl (by decide), nI_clamp (by omega), r26, vlE, ew, ck_lit (by omega) (by decide), vlE, nI_clamp (by omega), q4', y4, ← eA, m1, Option.bind_some]
  rw [s1, Option.bind_some] at B
  have f3 : (nI (tk (k + 2)) < (3 : Int32)) ↔ tk (k + 2) < 3 := nI_ltI (show tk (k + 2) < 2 ^ 31 by omega) (show 3 < 2 ^ 31 by decide)
  have f5 : (nI (tk (k + 2)) ≤ (5 : Int32)) ↔ tk (k + 2) ≤ 5 := nI_leI (show tk (k + 2) < 2 ^ 31 by omega) (show 5 < 2 ^ 31 by decide)
  by_cases g4 : 3 ≤ tk (k + 2) ∧ tk (k + 2) ≤ 5
  case neg =>
    obtain ⟨c', r', w1, w2, w3, w4, w5, w6, w7⟩ := wrong_two p2'
    have B' : ff_X5_readTests_B2 b (nI t) c = some (.inr (.inr (.inr (.inr (.inl (vv_iu c 55 2 (nI (k + 2)))))))) := by
      rw [B]
      by_cases d : tk (k + 2) < 3
      · rw [if_pos (f3.mpr d)]
      · rw [if_neg (fun e => d (f3.mp e)), if_neg (fun e => g4 ⟨by omega, f5.mp e⟩)]
    have r34' : r'.1 0 34 = nI l := by rw [w7.2 0 34 (by omega), r7l]
    obtain ⟨g', j1, j2⟩ := J135_e w4 (u := 9 * l + 3 * t) (by omega) hl r34'
    refine ⟨r1, g', n1, ?_, frQ_tr f7 (frQ_tr (frQ_N w7) (kp_Q j2)), Or.inl ⟨_, c', B', ?_, frP_tr fc1 (frP_tr fc2 (w6 b)), bad_kp w4 j2, err_kp w5 j2⟩⟩
    · rw [T2]
      by_cases g : tk (k + 2) = 1
      · have er := w2 g
        rw [er] at w4 j1
        rw [if_neg (bad_n w4).1]
        exact j1
      · obtain ⟨z1, z2, z3, z4⟩ := cur_0 b6 g
        have J : ff_X12_test_J130 (nI (9 * l + 3 * t)) r7 = some g' := by
          unfold ff_X12_test_J130
          rw [w3 g, Option.bind_some, j1]
        have key : ∀ t, t < 16 → t ≠ 1 → ¬ (3 ≤ t ∧ t ≤ 5) → ¬ (tm t = (3 : Int32) ∧ nI (vtb t) ≠ (59 : Int32)) := by decide +kernel
        rw [if_pos z1, z3, z4, J]
        by_cases d1 : tm (tk (k + 2)) = 3
        · rw [if_pos d1]
          have n2 : tk (k + 2) ≠ 2 := fun e => by
            rw [e] at d1
            exact absurd d1 (by decide)
          rw [show vm (tk (k + 2)) (tv (k + 2)) = nI (vtb (tk (k + 2))) from if_neg n2]
          by_cases d2 : nI (vtb (tk (k + 2))) = (59 : Int32)
          · rw [if_pos d2]
          · exact absurd ⟨d1, d2⟩ (key _ u1 g g4)
        · rw [if_neg d1]
    · show (ff_X5_refuseToken (vv_iu c 55 2 (nI (k + 2)))).bind _ = _
      rw [w1, Option.bind_some, zk0]
  rw [if_neg (fun d => by have := f3.mp d; omega), if_pos (f5.mpr g4.2)] at B
  obtain ⟨z1, z2, z3, z4⟩ := cur_0 b6 (show tk (k + 2) ≠ 1 by omega)
  have keyS : ∀ t, t < 6 → 3 ≤ t → tm t = (3 : Int32) ∧ nI (vtb t) ≠ (59 : Int32) ∧ nI (vtb t) = nI t + 57 := by decide +kernel
  obtain ⟨v1, v2, v3⟩ := keyS (tk (k + 2)) (by omega) g4.1
  have z4' : r7.1 0 24 = nI (vtb (tk (k + 2))) := by rw [z4]; exact if_neg (show tk (k + 2) ≠ 2 by omega)
  rw [if_pos z1, if_pos (by rw [z3]; exact v1), if_neg (by rw [z4']; exact v2)] at T2
  -- the number
  obtain ⟨D, eD⟩ : ∃ D, D = vv_iu r7 27 (9 * l + 3 * t + 1) (nI (tk (k + 2)) + 57) := ⟨_, rfl⟩
  have kD : kp r7 D := by rw [eD]; exact kp_iu (kp_rf r7) (by omega)
  have fc3 : frP b (vv_iu c 55 2 (nI (k + 2))) (vv_iu c 55 2 (nI (k + 3))) := by
    rw [show vv_iu c 55 2 (nI (k + 3)) = vv_iu (vv_iu c 55 2 (nI (k + 2))) 55 2 (nI (k + 3)) from vv_iu_iu.symm]
    exact frP_iu (frP_rf b _) (Or.inl rfl)
  obtain ⟨r12, o1, o2, p3⟩ := step_two p2' (by omega) (by omega) fc3 vv_iu_eq (kp_Q kD) (kD.2 0 19 (by omega)) (kD.2 0 21 (by omega))
  rw [show k + 2 + 1 = k + 3 from rfl] at p3
  have f12 : frQ r r12 := frQ_tr f7 (frQ_tr (kp_Q kD) (frQ_N o2))
  have r12l : r12.1 0 34 = nI l := by rw [o2.2 0 34 (by omega), kD.2 0 34 (by omega), r7l]
  have fcs : frP b c (vv_iu c 55 2 (nI (k + 3))) := frP_tr fc1 (frP_tr fc2 fc3)
  have eu1 : nI (9 * l + 3 * t) + (1 : Int32) = nI (9 * l + 3 * t + 1) := nI_1 _
  have eu2 : nI (9 * l + 3 * t) + (2 : Int32) = nI (9 * l + 3 * t + 2) := nI_add _ 2
  have T3 : ∀ (x : Int32) (r14 : vv_H), ff_X12_number r12 0 9 = some (x, r14) → r14.1 0 34 = nI l → ff_X12_test r1 = (ff_X12_next (vv_iu (vv_iu r14 27 (9 * l + 3 * t + 2) x) 26 l (r14.1 26 l + 1))).bind (fun r23 => some r23) := fun x r14 hx h34 => by
    rw [T2]
    have e34 : (vv_iu r14 27 (9 * l + 3 * t + 2) x).1 0 34 = nI l := by rw [vv_iu_ne (by omega), h34]
    have e26 : (vv_iu r14 27 (9 * l + 3 * t + 2) x).1 26 l = r14.1 26 l := by rw [vv_iu_ne (by omega)]
    unfold ff_X12_test_J135
    rw [eu1, eu2, ck_lit (by omega) (by decide), vlE, nI_clamp (by omega), z4', v3, ← eD, o1, Option.bind_some, hx, Option.bind_some, ck_lit (by omega) (by decide), vlE, nI_clamp (by omega)]
    show vv_ck ((vv_iu r14 27 (9 * l + 3 * t + 2) x).1 0 34) 12 _ = _
    rw [e34, ck_lit hl (by decide), ck_lit hl (by decide), vlE, nI_clamp (by omega), e26]
  rcases num_two p3 (lo := 0) (hi := 9) (by decide) (by decide) with ⟨c', i1, i2, i3, i4, i5, i6, i7, i8⟩ | ⟨c', x, r14, i1, i2, i3, i4, i5, i6⟩
  case inr =>
    rw [show nI 0 = (0 : Int32) from rfl, show nI 9 = (9 : Int32) from rfl] at i1 i2
    have h34 : r14.1 0 34 = nI l := by rw [i6.2 0 34 (by omega), r12l]
    have kE : kp r14 (vv_iu (vv_iu r14 27 (9 * l + 3 * t + 2) x) 26 l (r14.1 26 l + 1)) := kp_iu (kp_iu (kp_rf r14) (by omega)) (by omega)
    refine ⟨r1, _, n1, ?_, frQ_tr f12 (frQ_tr (frQ_N i6) (kp_Q kE)), Or.inl ⟨.inr (.inr (.inr (.inr (.inl c')))), c', ?_, rfl, frP_tr fcs (i5 b), bad_kp i3 kE, err_kp i4 kE⟩⟩
    · rw [T3 x r14 i2 h34, next_e (bad_kp i3 kE)]
      rfl
    · rw [B, i1, Option.bind_some, if_pos rfl]
  rw [show nI 0 = (0 : Int32) from rfl, show nI 9 = (9 : Int32) from rfl] at i4 i5
  have hc' := fr55 i8
  have q55 : ∀ j, q + j ≠ 55 := fun j => by omega
  have cq : ∀ j i, c'.1 (q + j) i = c.1 (q + j) i := fun j i => by
    rw [hc' _ _ (q55 j), vv_iu_ne (q55 j)]
  have cl : c'.1 q 0 = nI (l + 1) := by
    have := cq 0 0
    rw [Nat.add_zero] at this
    rw [this, eq]
    exact hd.1
  have c5 : c'.1 (q + 5) l = nI t := by rw [cq 5 l, et]
  obtain ⟨E, eE⟩ : ∃ E, E = vv_iu (vv_iu (vv_iu (vv_iu c' (q + 7 + l) t (nI (tk (k + 1) - 13))) (q + 20 + l) t (nI (tk (k + 2)))) (q + 33 + l) t (nI (tv (k + 3)))) (q + 5) l (nI (t + 1)) := ⟨_, rfl⟩
  have add : ff_X6_addTest c' b (nI (tk (k + 1) - 13)) (nI (tk (k + 2))) (nI (tv (k + 3))) = some E := by
    unfold ff_X6_addTest
    rw [← eq, cl, vlE, nI_pred, if_neg (nI_pos (show l < 2 ^ 31 by omega)), ck_lit hl (by decide), nI_clamp (show l < 2 ^ 31 by omega), c5, if_neg (show ¬ (3 : Int32) ≤ nI t from nI_nle' ht3 (by decide)), ck_lit hl (by decide), vlE, ck_lit hl (by decide), ck_lit ht3 (by decide), vlE, nI_clamp (show t < 2 ^ 31 by omega), ck_lit hl (by decide), ck_lit ht3 (by decide), vlE, ck_lit hl (by decide), ck_lit ht3 (by decide), vlE, ck_lit hl (by decide), ck_lit hl (by decide), vlE, vv_iu_ne (by omega), vv_iu_ne (by omega), vv_iu_ne (by omega), c5, nI_1, ← eE]
  have fE : frP b c' E := by
    rw [eE]
    exact frP_iu (frP_iu (frP_iu (frP_iu (frP_rf b c') (Or.inr (by omega))) (Or.inr (by omega))) (Or.inr (by omega))) (Or.inr (by omega))
  have e552 : E.1 55 2 = nI (k + 4) := by
    rw [eE]
    simp (disch := omega) only [vv_iu_ne]
    exact i7
  obtain ⟨F, eF⟩ : ∃ F, F = vv_iu (vv_iu r12 27 (9 * l + 3 * t + 2) (nI (tv (k + 3)))) 26 l (nI (t + 1)) := ⟨_, rfl⟩
  have kF : kp r12 F := by rw [eF]; exact kp_iu (kp_iu (kp_rf r12) (by omega)) (by omega)
  have r12_26 : r12.1 26 l = nI t := by
    rw [o2.2 26 l (by omega), eD, vv_iu_ne (by omega), m2.2 26 l (by omega), eA, vv_iu_ne (by omega), r26]
  obtain ⟨r23, x1, x2, p4⟩ := step_two p3 (by omega) (by omega) (frP_tr (i8 b) fE) e552 (kp_Q kF) (kF.2 0 19 (by omega)) (kF.2 0 21 (by omega))
  rw [show k + 3 + 1 = k + 4 from rfl] at p4
  have f23 : frQ r r23 := frQ_tr f12 (frQ_tr (kp_Q kF) (frQ_N x2))
  have TT : ff_X12_test r1 = some r23 := by
    rw [T3 _ _ i5 r12l, r12_26, nI_1, ← eF, x1]
    rfl
  have row27 : ∀ j, r23.1 27 j = if j = 9 * l + 3 * t + 2 then nI (tv (k + 3)) else if j = 9 * l + 3 * t + 1 then nI (tk (k + 2)) + 57 else if j = 9 * l + 3 * t then nI (tk (k + 1) - 13) else r.1 27 j := fun j => by
    rw [x2.2 27 j (by omega), eF, vv_iu_ne (by omega), vv_iu_e]
    by_cases d1 : j = 9 * l + 3 * t + 2
    · rw [if_pos ⟨rfl, d1⟩, if_pos d1]
    · rw [if_neg (fun z => d1 z.2), if_neg d1, o2.2 27 j (by omega), eD, vv_iu_e]
      by_cases d2 : j = 9 * l + 3 * t + 1
      · rw [if_pos ⟨rfl, d2⟩, if_pos d2]
      · rw [if_neg (fun z => d2 z.2), if_neg d2, m2.2 27 j (by omega), eA, vv_iu_e]
        by_cases d3 : j = 9 * l + 3 * t
        · rw [if_pos ⟨rfl, d3⟩, if_pos d3]
        · rw [if_neg (fun z => d3 z.2), if_neg d3, n2.2 27 j (by omega)]
  have row26 : ∀ j, r23.1 26 j = if j = l then nI (t + 1) else r.1 26 j := fun j => by
    rw [x2.2 26 j (by omega), eF, vv_iu_e]
    by_cases d1 : j = l
    · rw [if_pos ⟨rfl, d1⟩, if_pos d1]
    · rw [if_neg (fun z => d1 z.2), if_neg d1, vv_iu_ne (by omega), o2.2 26 j (by omega), eD, vv_iu_ne (by omega), m2.2 26 j (by omega), eA, vv_iu_ne (by omega), n2.2 26 j (by omega)]
  have rows : ∀ a j, 22 ≤ a → a < 26 → r23.1 a j = r.1 a j := fun a j h1 h2 => by
    rw [x2.2 a j (by omega), eF, vv_iu_ne (by omega), vv_iu_ne (by omega), o2.2 a j (by omega), eD, vv_iu_ne (by omega), m2.2 a j (by omega), eA, vv_iu_ne (by omega), n2.2 a j (by omega)]
  have r23l : r23.1 0 34 = nI l := by rw [x2.2 0 34 (by omega), kF.2 0 34 (by omega), r12l]
  have ec : ∀ a i, E.1 (q + a) i = if a = 5 ∧ i = l then nI (t + 1) else if a = 33 + l ∧ i = t then nI (tv (k + 3)) else if a = 20 + l ∧ i = t then nI (tk (k + 2)) else if a = 7 + l ∧ i = t then nI (tk (k + 1) - 13) else c.1 (q + a) i := fun a i => by
    rw [eE, vv_iu_e, vv_iu_e, vv_iu_e, vv_iu_e, cq a i]
    by_cases d1 : a = 5 ∧ i = l
    · rw [if_pos d1, if_pos (by omega)]
    rw [if_neg d1, if_neg (by omega)]
    by_cases d2 : a = 33 + l ∧ i = t
    · rw [if_pos d2, if_pos (by omega)]
    rw [if_neg d2, if_neg (by omega)]
    by_cases d3 : a = 20 + l ∧ i = t
    · rw [if_pos d3, if_pos (by omega)]
    rw [if_neg d3, if_neg (by omega)]
    by_cases d4 : a = 7 + l ∧ i = t
    · rw [if_pos d4, if_pos (by omega)]
    rw [if_neg d4, if_neg (by omega)]
  have el5 : E.1 (q + 5) l = nI (t + 1) := by rw [ec, if_pos ⟨rfl, rfl⟩]
  have dE : dra b E r23 (l + 1) (l + 1) l := by
    refine ⟨?_, r23l, fun i hi => ?_⟩
    · rw [← eq]
      have := ec 0 0
      rw [Nat.add_zero, if_neg (by omega), if_neg (by omega), if_neg (by omega), if_neg (by omega)] at this
      rw [this, eq]
      exact hd.1
    · rw [← eq]
      have old := hd.2.2 i hi
      rw [← eq] at old
      rcases Nat.lt_or_ge i l with hil | hil
      · refine rl_cg old (fun a j ha => ?_) (by omega) (fun a h1 h2 => ?_) fun j h1 h2 => ?_
        · obtain ⟨d, rfl⟩ : ∃ d, a = q + d := ⟨a - q, by omega⟩
          rw [ec, if_neg (by omega), if_neg (by omega), if_neg (by omega), if_neg (by omega)]
        · by_cases d : a = 26
          · rw [d, row26, if_neg (by omega)]
          · exact rows a i h1 (by omega)
        · rw [row27, if_neg (by omega), if_neg (by omega), if_neg (by omega)]
      · obtain rfl : i = l := by omega
        unfold rline at old ⊢
        obtain ⟨y1, y2, y3, y4, y5, y6⟩ := old
        have z : ∀ a, a ≤ 4 → E.1 (q + a) i = c.1 (q + a) i := fun a ha => by rw [ec, if_neg (by omega), if_neg (by omega), if_neg (by omega), if_neg (by omega)]
        rw [z 1 (by omega), z 2 (by omega), z 3 (by omega), z 4 (by omega), el5, rows 22 i (by omega) (by omega), rows 23 i (by omega) (by omega), rows 24 i (by omega) (by omega), rows 25 i (by omega) (by omega), row26, if_pos rfl]
        refine ⟨y1, y2, y3, y4, ⟨rfl, by rw [nI_toInt (by omega)]; omega, by rw [nI_toInt (by omega)]; omega⟩, fun s hs => ?_⟩
        rw [nI_toInt (by omega)] at hs
        rw [show q + 7 + i = q + (7 + i) by omega, show q + 20 + i = q + (20 + i) by omega, show q + 33 + i = q + (33 + i) by omega, ec, ec, ec]
        rcases Nat.lt_or_ge s t with hst | hst
        · have := y6 s (by rw [et, nI_toInt (by omega)]; omega)
          rw [row27, row27, row27, if_neg (by omega), if_neg (by omega), if_neg (by omega), if_neg (by omega), if_neg (by omega), if_neg (by omega), if_neg (by omega), if_neg (by omega), if_neg (by omega), if_neg (by omega), if_neg (by omega), if_neg (by omega), if_neg (by omega), if_neg (by omega), if_neg (by omega), if_neg (by omega), if_neg (by omega), if_neg (by omega), if_neg (by omega), if_neg (by omega), if_neg (by omega)]
          rw [show q + 7 + i = q + (7 + i) by omega, show q + 20 + i = q + (20 + i) by omega, show q + 33 + i = q + (33 + i) by omega] at this
          exact this
        · obtain rfl : s = t := by omega
          have k1 : r23.1 27 (9 * i + 3 * s) = nI (tk (k + 1) - 13) := by rw [row27, if_neg (by omega), if_neg (by omega), if_pos rfl]
          have k2 : r23.1 27 (9 * i + 3 * s + 1) = nI (tk (k + 2)) + 57 := by rw [row27, if_neg (by omega), if_pos rfl]
          have k3 : r23.1 27 (9 * i + 3 * s + 2) = nI (tv (k + 3)) := by rw [row27, if_pos rfl]
          rw [k1, k2, k3]
          have j1 : (if 7 + i = 5 ∧ s = i then nI (s + 1) else if 7 + i = 33 + i ∧ s = s then nI (tv (k + 3)) else if 7 + i = 20 + i ∧ s = s then nI (tk (k + 2)) else if 7 + i = 7 + i ∧ s = s then nI (tk (k + 1) - 13) else c.1 (q + (7 + i)) s) = nI (tk (k + 1) - 13) := by rw [if_neg (by omega), if_neg (by omega), if_neg (by omega), if_pos ⟨rfl, rfl⟩]
          have j2 : (if 20 + i = 5 ∧ s = i then nI (s + 1) else if 20 + i = 33 + i ∧ s = s then nI (tv (k + 3)) else if 20 + i = 20 + i ∧ s = s then nI (tk (k + 2)) else if 20 + i = 7 + i ∧ s = s then nI (tk (k + 1) - 13) else c.1 (q + (20 + i)) s) = nI (tk (k + 2)) := by rw [if_neg (by omega), if_neg (by omega), if_pos ⟨rfl, rfl⟩]
          have j3 : (if 33 + i = 5 ∧ s = i then nI (s + 1) else if 33 + i = 33 + i ∧ s = s then nI (tv (k + 3)) else if 33 + i = 20 + i ∧ s = s then nI (tk (k + 2)) else if 33 + i = 7 + i ∧ s = s then nI (tk (k + 1) - 13) else c.1 (q + (33 + i)) s) = nI (tv (k + 3)) := by rw [if_neg (by omega), if_pos ⟨rfl, rfl⟩]
          rw [j1, j2, j3]
          refine ⟨⟨rfl, ?_, ?_⟩, ⟨rfl, ?_, ?_⟩, rfl⟩
          · rw [nI_toInt (by omega)]; omega
          · rw [nI_toInt (by omega)]; omega
          · rw [nI_toInt (by omega)]; omega
          · rw [nI_toInt (by omega)]; omega
  have hp4 := p4
  obtain ⟨g1', g2', g3', g4', g5', g6'⟩ := p4
  obtain ⟨o16, _, _, _⟩ := lex_k g2' g1'
  have e12 : (nI (tk (k + 4)) = (12 : Int32)) ↔ tk (k + 4) = 12 := nIk (j := 12) o16 (by decide)
  have B' : ff_X5_readTests_B2 b (nI t) c = if tk (k + 4) = 12 then some (.inl (nI (t + 1), E)) else some (.inr (.inr (.inr (.inr (.inr (.inr E)))))) := by
    rw [B, i4, Option.bind_some, if_neg (show ¬ (1 : Int32) = 0 from by decide)]
    show (ff_X6_addTest c' b (nI (tk (k + 1)) - 13) (nI (tk (k + 2))) (c'.1 55 3)).bind _ = _
    rw [i6, y5, add, Option.bind_some, e552, (tokAt g3' g1').1, Option.bind_some]
    by_cases d : tk (k + 4) = 12
    · rw [if_pos (e12.mpr d), if_pos d]
    · rw [if_neg (fun z => d (e12.mp z)), if_neg d]
  refine ⟨r1, r23, n1, TT, f23, Or.inr ⟨E, k + 4, ht3, frP_tr fcs (frP_tr (i8 b) fE), hp4, dE, by rw [← eq]; exact el5, ?_⟩⟩
  by_cases d : tk (k + 4) = 12
  · rw [if_pos d] at B'
    exact Or.inl ⟨d, B'⟩
  · rw [if_neg d] at B'
    exact Or.inr ⟨d, _, B', rfl⟩
end
