section
variable {w : Nat → Nat} {L n : Nat} {st tp tk tv : Nat → Nat}
/-- the rest of a line in the reference once the kind is read: z0 the number's least -/
theorem rest_e {r : vv_H} (h : bad r) {l : Nat} (hl : l < 12) (e : r.1 0 34 = nI l) (x w3 : Int32) : ∃ g, (vv_ck (r.1 0 34) 12 (vv_let (vv_iu r 24 (r.1 0 34).toNatClampNeg x) (fun g34 => (ff_X12_next g34).bind (fun r36 => (if w3 = (1 : Int32) then ff_X12_oneLine_J246 w3 (1 : Int32) (r36.1 0 34) r36 else ff_X12_oneLine_J246 w3 (0 : Int32) (r36.1 0 34) r36))))) = some g ∧ kp r g := by
  have k1 : kp r (vv_iu r 24 l x) := kp_iu (kp_rf r) (by omega)
  have hb := bad_kp h k1
  rw [e, ck_lit hl (by decide), vlE, nI_clamp (by omega), next_e hb, Option.bind_some, k1.2 0 34 (by omega), e]
  split
  · obtain ⟨g, h1, h2⟩ := J246_e hb w3 1 hl
    exact ⟨g, h1, kp_tr k1 h2⟩
  · obtain ⟨g, h1, h2⟩ := J246_e hb w3 0 hl
    exact ⟨g, h1, kp_tr k1 h2⟩
/-- kind and number -/
theorem num2_two {b : Bool} {c r : vv_H} {k l s f kd : Nat} (hp : ps w L n st tp tk tv c r k) (hl : l < 12) (hs : s ≤ 2) (hf : f < 10000) (hkd : kd ≤ 3) (hd : dra b c r l l l) (r22 : r.1 22 l = nI s) (r23 : r.1 23 l = nI f) (r24 : r.1 24 l = nI kd) (r26 : r.1 26 l = 0) : fin2 w L n st tp tk tv b c r (ff_X5_readRule_J54 b (nI (s + 8)) (nI f) (nI kd) c) (if nI s = (1 : Int32) then ff_X12_oneLine_J246 (nI s) 1 (nI l) r else ff_X12_oneLine_J246 (nI s) 0 (nI l) r) (fun _ _ _ => False) ∨
    ∃ c' r' k', ff_X5_readRule_J54 b (nI (s + 8)) (nI f) (nI kd) c = some (1, c') ∧ frP b c c' ∧ frQ r r' ∧ ps w L n st tp tk tv c' r' k' ∧ dra b c' r' (l + 1) (l + 1) l ∧ c'.1 (vv_rid b + 5) l = 0 ∧ (if nI s = (1 : Int32) then ff_X12_oneLine_J246 (nI s) 1 (nI l) r else ff_X12_oneLine_J246 (nI s) 0 (nI l) r) = (if r'.1 0 19 = 0 then (if nI s = 0 then (ff_X12_isName r' (7 : Int32)).bind (fun r51 => (if r51 = 0 then ff_X12_oneLine_J321 r' else (ff_X12_next r').bind (fun r53 => (ff_X12_test r53).bind (fun r55 => (vv_lp (fun (zs : vv_H) => ff_X12_oneLine_B294 zs) vv_F r55).bind (fun (e64 : (vv_H)) => ff_X12_oneLine_J321 e64))))) else ff_X12_oneLine_J321 r') else ff_X12_oneLine_J321 r') := by
  have hb := rid_bd b
  obtain ⟨q, eq⟩ : ∃ q, q = vv_rid b := ⟨_, rfl⟩
  rw [← eq] at hb
  obtain ⟨lo, elo⟩ : ∃ lo, lo = if s = 1 then 1 else 0 := ⟨_, rfl⟩
  obtain ⟨hi, ehi⟩ : ∃ hi, hi = if s = 0 then 9 else 9999 := ⟨_, rfl⟩
  have hlo : lo ≤ 1 ∧ (s = 1 → lo = 1) := by rw [elo]; split <;> omega
  have hhi : 9 ≤ hi ∧ hi ≤ 9999 := by rw [ehi]; split <;> omega
  have Cc : ff_X5_readRule_J54 b (nI (s + 8)) (nI f) (nI kd) c = (ff_X5_takeNumber c (nI lo) (nI hi)).bind (fun r7 => (if r7.1 = 0 then some ((0 : Int32), r7.2) else (ff_X6_add r7.2 b (nI (s + 8)) (nI f) (nI kd) (r7.2.1 55 3)).bind (fun r9 => some ((1 : Int32), r9)))) := by
    rw [elo, ehi]
    have hc : s = 0 ∨ s = 1 ∨ s = 2 := by omega
    rcases hc with rfl | rfl | rfl <;> rfl
  have Rr : (if nI s = (1 : Int32) then ff_X12_oneLine_J246 (nI s) 1 (nI l) r else ff_X12_oneLine_J246 (nI s) 0 (nI l) r) = ff_X12_oneLine_J258 (nI s) (nI hi) (nI lo) (nI l) r := by
    rw [elo, ehi]
    have hc : s = 0 ∨ s = 1 ∨ s = 2 := by omega
    rcases hc with rfl | rfl | rfl <;> rfl
  rw [Rr, Cc]
  rcases num_two hp (lo := lo) (hi := hi) (by omega) (by omega) with ⟨c', i1, i2, i3, i4, i5, i6, i7, i8⟩ | ⟨c', x, r14, i1, i2, i3, i4, i5, i6⟩
  case inr =>
    left
    have kE : kp r14 (vv_iu r14 25 l x) := kp_iu (kp_rf r14) (by omega)
    have hbE := bad_kp i3 kE
    refine Or.inr ⟨c', vv_iu r14 25 l x, ?_, ?_, i5 b, frQ_tr (frQ_N i6) (kp_Q kE), hbE, err_kp i4 kE⟩
    · rw [i1, Option.bind_some, if_pos rfl]
    · unfold ff_X12_oneLine_J258
      rw [i2, Option.bind_some, ck_lit hl (by decide), vlE, nI_clamp (by omega)]
      show (ff_X12_next (vv_iu r14 25 l x)).bind _ = _
      rw [next_e hbE, Option.bind_some, if_neg (bad_n hbE).1, J321_e hbE]
  right
  have hc' := fr55 i8
  have cq : ∀ j i, c'.1 (q + j) i = c.1 (q + j) i := fun j i => hc' _ _ (by omega)
  have cl : c'.1 q 0 = nI l := by
    rw [hc' q 0 (by omega), eq]
    exact hd.1
  obtain ⟨E, eE⟩ : ∃ E, E = vv_iu (vv_iu (vv_iu (vv_iu (vv_iu (vv_iu c' (q + 1) l (nI (s + 8))) (q + 2) l (nI f)) (q + 3) l (nI kd)) (q + 4) l (nI (tv k))) (q + 5) l 0) q 0 (nI (l + 1)) := ⟨_, rfl⟩
  have add : ff_X6_add c' b (nI (s + 8)) (nI f) (nI kd) (nI (tv k)) = some E := by
    have e12 : ¬ (12 : Int32) ≤ nI l := nI_nle' (show l < 12 by omega) (by decide)
    simp (disch := omega) only [ff_X6_add, ← eq, cl, if_neg e12, ck_lit, nI_clamp, vv_let, vv_iu_ne, nI_1, ← eE]
  have fE : frP b c' E := by
    rw [eE]
    exact frP_iu (frP_iu (frP_iu (frP_iu (frP_iu (frP_iu (frP_rf b c') (Or.inr (by omega))) (Or.inr (by omega))) (Or.inr (by omega))) (Or.inr (by omega))) (Or.inr (by omega))) (Or.inr (by omega))
  have e552 : E.1 55 2 = nI (k + 1) := by
    rw [eE]
    simp (disch := omega) only [vv_iu_ne]
    exact i7
  obtain ⟨C, eC⟩ : ∃ C, C = vv_iu r 25 l (nI (tv k)) := ⟨_, rfl⟩
  have kC : kp r C := by rw [eC]; exact kp_iu (kp_rf r) (by omega)
  obtain ⟨r43, x1, x2, p4⟩ := step_two hp (by omega) (by omega) (frP_tr (i8 b) fE) e552 (kp_Q kC) (kC.2 0 19 (by omega)) (kC.2 0 21 (by omega))
  have row : ∀ a j, 22 ≤ a → a ≤ 27 → r43.1 a j = if a = 25 ∧ j = l then nI (tv k) else r.1 a j := fun a j h1 h2 => by
    rw [x2.2 a j (by omega), eC, vv_iu_e]
  have h34 : r43.1 0 34 = nI l := by rw [x2.2 0 34 (by omega), kC.2 0 34 (by omega), hd.2.1]
  have ec : ∀ a i, 1 ≤ a → E.1 (q + a) i = if a = 5 ∧ i = l then 0 else if a = 4 ∧ i = l then nI (tv k) else if a = 3 ∧ i = l then nI kd else if a = 2 ∧ i = l then nI f else if a = 1 ∧ i = l then nI (s + 8) else c.1 (q + a) i := fun a i ha => by
    rw [eE, vv_iu_ne (by omega), vv_iu_e, vv_iu_e, vv_iu_e, vv_iu_e, vv_iu_e, cq a i]
    by_cases d1 : a = 5 ∧ i = l
    · rw [if_pos d1, if_pos (by omega)]
    rw [if_neg d1, if_neg (by omega)]
    by_cases d2 : a = 4 ∧ i = l
    · rw [if_pos d2, if_pos (by omega)]
    rw [if_neg d2, if_neg (by omega)]
    by_cases d3 : a = 3 ∧ i = l
    · rw [if_pos d3, if_pos (by omega)]
    rw [if_neg d3, if_neg (by omega)]
    by_cases d4 : a = 2 ∧ i = l
    · rw [if_pos d4, if_pos (by omega)]
    rw [if_neg d4, if_neg (by omega)]
    by_cases d5 : a = 1 ∧ i = l
    · rw [if_pos d5, if_pos (by omega)]
    rw [if_neg d5, if_neg (by omega)]
  have E5 : E.1 (q + 5) l = 0 := by rw [ec 5 l (by omega), if_pos ⟨rfl, rfl⟩]
  have dE : dra b E r43 (l + 1) (l + 1) l := by
    refine ⟨?_, h34, fun i hi => ?_⟩
    · rw [← eq, eE, vv_iu_eq]
    · rw [← eq]
      rcases Nat.lt_or_ge i l with hil | hil
      · have old := hd.2.2 i hil
        rw [← eq] at old
        refine rl_cg old (fun a j ha => ?_) (by omega) (fun a h1 h2 => ?_) fun j h1 h2 => ?_
        · obtain ⟨d, rfl⟩ : ∃ d, a = q + d := ⟨a - q, by omega⟩
          rw [ec d j (by omega), if_neg (by omega), if_neg (by omega), if_neg (by omega), if_neg (by omega), if_neg (by omega)]
        · rw [row a i h1 (by omega), if_neg (by omega)]
        · rw [row 27 j (by omega) (by omega), if_neg (by omega)]
      · obtain rfl : i = l := by omega
        have z1 : E.1 (q + 1) i = nI (s + 8) := by rw [ec 1 i (by omega), if_neg (by omega), if_neg (by omega), if_neg (by omega), if_neg (by omega), if_pos ⟨rfl, rfl⟩]
        have z2 : E.1 (q + 2) i = nI f := by rw [ec 2 i (by omega), if_neg (by omega), if_neg (by omega), if_neg (by omega), if_pos ⟨rfl, rfl⟩]
        have z3 : E.1 (q + 3) i = nI kd := by rw [ec 3 i (by omega), if_neg (by omega), if_neg (by omega), if_pos ⟨rfl, rfl⟩]
        have z4 : E.1 (q + 4) i = nI (tv k) := by rw [ec 4 i (by omega), if_neg (by omega), if_pos ⟨rfl, rfl⟩]
        unfold rline
        rw [z1, z2, z3, z4, E5, row 22 i (by omega) (by omega), if_neg (by omega), row 23 i (by omega) (by omega), if_neg (by omega), row 24 i (by omega) (by omega), if_neg (by omega), row 25 i (by omega) (by omega), if_pos ⟨rfl, rfl⟩, row 26 i (by omega) (by omega), if_neg (by omega), r22, r23, r24, r26]
        refine ⟨⟨?_, ?_, ?_⟩, ⟨rfl, ?_, ?_⟩, rfl, ⟨rfl, ?_, ?_, fun e9 => ?_⟩, ⟨rfl, by decide, by decide⟩, fun t ht => ?_⟩
        · rw [show (8 : Int32) = nI 8 from rfl, pk_sub (by omega), Nat.add_sub_cancel]
        · rw [nI_toInt (by omega)]; omega
        · rw [nI_toInt (by omega)]; omega
        · rw [nI_toInt (by omega)]; omega
        · rw [nI_toInt (by omega)]; omega
        · rw [nI_toInt (by omega)]; omega
        · rw [nI_toInt (by omega)]; omega
        · have : s + 8 = 9 := (nI_eq (show s + 8 < 2 ^ 31 by omega) (show 9 < 2 ^ 31 by decide)).mp e9
          rw [nI_toInt (by omega)]
          have := hlo.2 (by omega)
          omega
        · exact absurd ht (by rw [show (0 : Int32).toInt = 0 from rfl]; omega)
  refine ⟨E, r43, k + 1, ?_, frP_tr (i8 b) fE, frQ_tr (kp_Q kC) (frQ_N x2), p4, dE, by rw [← eq]; exact E5, ?_⟩
  · rw [i4, Option.bind_some, if_neg (show ¬ (1 : Int32) = 0 from by decide)]
    show (ff_X6_add c' b (nI (s + 8)) (nI f) (nI kd) (c'.1 55 3)).bind _ = _
    rw [i6, add, Option.bind_some]
  · unfold ff_X12_oneLine_J258
    rw [i5, Option.bind_some, ck_lit hl (by decide), vlE, nI_clamp (by omega)]
    show (ff_X12_next (vv_iu r 25 l (nI (tv k)))).bind _ = _
    rw [← eC, x1, Option.bind_some]
end
