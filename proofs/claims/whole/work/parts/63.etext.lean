theorem copy1 (h : vv_H) : ∃ g, vv_lp (fun (zs : Int32 × vv_H) => ff_X12_text_B78 zs.1 zs.2) vv_F ((0 : Int32), h) = some g ∧ g.2 = h.2 ∧ ∀ k j, g.1 k j = if 16 ≤ k ∧ k ≤ 20 ∧ j < 12 then h.1 (k + 6) j else h.1 k j := by
  have hL := lp_count (f := fun (zs : Int32 × vv_H) => ff_X12_text_B78 zs.1 zs.2) (fun i z => ∃ g, z = (nI i, g) ∧ g.2 = h.2 ∧ ∀ k j, g.1 k j = if 16 ≤ k ∧ k ≤ 20 ∧ j < i then h.1 (k + 6) j else h.1 k j) (fun g => g.2 = h.2 ∧ ∀ k j, g.1 k j = if 16 ≤ k ∧ k ≤ 20 ∧ j < 12 then h.1 (k + 6) j else h.1 k j) 12 ?hs ?he vv_F 0 ((0 : Int32), h) ⟨h, rfl, rfl, fun k j => by rw [if_neg (by omega)]⟩ (by decide) (vv_F_lt (by decide))
  case hs =>
    rintro i z hi ⟨g, rfl, g2, hg⟩
    left
    have e : ∀ a, 22 ≤ a → g.1 a i = h.1 a i := fun a ha => by rw [hg, if_neg (by omega)]
    have e12 : ¬ (12 : Int32) ≤ nI i := nI_nle' hi (by decide)
    have ck : ∀ {α : Type} {A : Option α}, vv_ck (nI i) 12 A = A := ck_lit hi (by decide)
    have cl : (nI i).toNatClampNeg = i := nI_clamp (by omega)
    unfold ff_X12_text_B78
    rw [if_neg e12, ck, ck, vlE, ck, ck, vlE, ck, ck, vlE, ck, ck, vlE, ck, ck, vlE, vlE, cl, nI_1]
    refine ⟨_, rfl, _, rfl, g2, fun k j => ?_⟩
    simp (disch := omega) only [vv_iu_ne, e]
    rw [vv_iu_e, vv_iu_e, vv_iu_e, vv_iu_e, vv_iu_e, hg]
    by_cases d1 : k = 20 ∧ j = i
    · rw [if_pos d1, if_pos (by omega), d1.1, d1.2]
    rw [if_neg d1]
    by_cases d2 : k = 19 ∧ j = i
    · rw [if_pos d2, if_pos (by omega), d2.1, d2.2]
    rw [if_neg d2]
    by_cases d3 : k = 18 ∧ j = i
    · rw [if_pos d3, if_pos (by omega), d3.1, d3.2]
    rw [if_neg d3]
    by_cases d4 : k = 17 ∧ j = i
    · rw [if_pos d4, if_pos (by omega), d4.1, d4.2]
    rw [if_neg d4]
    by_cases d5 : k = 16 ∧ j = i
    · rw [if_pos d5, if_pos (by omega), d5.1, d5.2]
    rw [if_neg d5]
    by_cases d6 : 16 ≤ k ∧ k ≤ 20 ∧ j < i
    · rw [if_pos d6, if_pos (by omega)]
    · rw [if_neg d6, if_neg (by omega)]
  case he =>
    rintro z ⟨g, rfl, g2, hg⟩
    simp only [ff_X12_text_B78, show (12 : Int32) = nI 12 from rfl, if_pos (nI_le (Nat.le_refl 12) (by decide))]
    exact ⟨_, rfl, g2, hg⟩
  exact hL
theorem copy2 (h : vv_H) : ∃ g, vv_lp (fun (zs : Int32 × vv_H) => ff_X12_text_B152 zs.1 zs.2) vv_F ((0 : Int32), h) = some g ∧ g.2 = h.2 ∧ ∀ k j, g.1 k j = if k = 21 ∧ j < 108 then h.1 27 j else h.1 k j := by
  have hL := lp_count (f := fun (zs : Int32 × vv_H) => ff_X12_text_B152 zs.1 zs.2) (fun i z => ∃ g, z = (nI i, g) ∧ g.2 = h.2 ∧ ∀ k j, g.1 k j = if k = 21 ∧ j < i then h.1 27 j else h.1 k j) (fun g => g.2 = h.2 ∧ ∀ k j, g.1 k j = if k = 21 ∧ j < 108 then h.1 27 j else h.1 k j) 108 ?hs ?he vv_F 0 ((0 : Int32), h) ⟨h, rfl, rfl, fun k j => by rw [if_neg (by omega)]⟩ (by decide) (vv_F_lt (by decide))
  case hs =>
    rintro i z hi ⟨g, rfl, g2, hg⟩
    left
    have e : g.1 27 i = h.1 27 i := by rw [hg, if_neg (by omega)]
    simp (disch := omega) only [ff_X12_text_B152, show (108 : Int32) ≤ nI i ↔ nI 108 ≤ nI i from Iff.rfl, if_neg (nI_nle' hi (by decide)), ck_lit, nI_clamp, vv_let, nI_1, e]
    refine ⟨_, rfl, _, rfl, g2, fun k j => ?_⟩
    rw [vv_iu_e, hg]
    by_cases d1 : k = 21 ∧ j = i
    · rw [if_pos d1, if_pos (by omega), d1.2]
    rw [if_neg d1]
    by_cases d6 : k = 21 ∧ j < i
    · rw [if_pos d6, if_pos (by omega)]
    · rw [if_neg d6, if_neg (by omega)]
  case he =>
    rintro z ⟨g, rfl, g2, hg⟩
    simp only [ff_X12_text_B152, show (108 : Int32) = nI 108 from rfl, if_pos (nI_le (Nat.le_refl 108) (by decide))]
    exact ⟨_, rfl, g2, hg⟩
  exact hL
theorem rl_16 {c r c' r' : vv_H} {q i : Nat} (h : rline c r q 22 i) (hi : i < 12) (hc : c'.1 = c.1) (e1 : ∀ a, a ≤ 4 → r'.1 (16 + a) i = r.1 (22 + a) i) (e2 : ∀ j, j < 108 → r'.1 21 j = r.1 27 j) : rline c' r' q 16 i := by
  unfold rline at h ⊢
  rw [hc]
  have a0 : r'.1 16 i = r.1 22 i := e1 0 (by decide)
  have a1 : r'.1 (16 + 1) i = r.1 (22 + 1) i := e1 1 (by decide)
  have a2 : r'.1 (16 + 2) i = r.1 (22 + 2) i := e1 2 (by decide)
  have a3 : r'.1 (16 + 3) i = r.1 (22 + 3) i := e1 3 (by decide)
  have a4 : r'.1 (16 + 4) i = r.1 (22 + 4) i := e1 4 (by decide)
  rw [a0, a1, a2, a3, a4]
  obtain ⟨g1, g2, g3, g4, g5, g6⟩ := h
  refine ⟨g1, g2, g3, g4, g5, fun t ht => ?_⟩
  have ht3 : t < 3 := by have := g5.2.2; omega
  have b : ∀ j, j < 108 → r'.1 (16 + 5) j = r.1 (22 + 5) j := e2
  rw [b _ (by omega), b _ (by omega), b _ (by omega)]
  exact g6 t ht
theorem e_text {c r : vv_H} (H : RR c r) : ∃ o c' r', ff_X11_text c = some (o, c') ∧ ff_X12_text r = some (o, r') ∧ RR c' r' := by
  have hl := H.b (k := 50) (j := 0) rfl
  obtain ⟨L, hL, eL⟩ := to_nI (n := 241) hl.1 (by omega) (by decide)
  have hbool : c.2.2 1 = !(c.2.2 0) := H.2.2.2.2.1.1
  have hby := byt_of H
  obtain ⟨c1, n, st, tp, tk, tv, k1, k2, k3, k4, k5⟩ := cut_c hby (by omega) eL
  obtain ⟨b, eb⟩ : ∃ b, b = c.2.2 1 := ⟨_, rfl⟩
  have eb1 : c1.2.2 1 = b := by rw [k2.1, eb]
  have hrb := rid_bd b
  obtain ⟨c3, e3⟩ : ∃ x, x = vv_iu (vv_iu c1 50 0 0) (vv_rid b) 0 0 := ⟨_, rfl⟩
  obtain ⟨c4, e4⟩ : ∃ x, x = vv_iu (vv_iu (vv_iu c3 55 1 0) 55 0 0) 55 2 0 := ⟨_, rfl⟩
  have c32 : c3.2 = c.2 := by rw [e3]; exact k2.1
  have c42 : c4.2 = c.2 := by rw [e4]; exact c32
  have tkc4 : tkc c4 n tp tk tv := by
    refine ⟨k5.2.2.1, ?_, fun k hk => ?_⟩
    · rw [e4, e3]
      simp (disch := omega) only [vv_iu_ne, vv_iu_nj]
      exact k3
    · rw [e4, e3]
      simp (disch := omega) only [vv_iu_ne]
      exact k4 k hk
  obtain ⟨r4, er4⟩ : ∃ x, x = vv_iu (vv_iu (vv_iu r 0 19 0) 0 21 0) 0 34 0 := ⟨_, rfl⟩
  have fr4 : frQ r r4 := by rw [er4]; exact frQ_iu (frQ_iu (frQ_iu (frQ_rf r) (by omega)) (by omega)) (by omega)
  have hlx : lxr r (wb r) L := ⟨by omega, by rw [rel_s50_0 H.1, eL], fun j hj => ⟨(hby j hj).1, (hby j hj).2.2⟩, H.2.2.2.2.2.2⟩
  have hlx4 := lxr_Q hlx fr4
  obtain ⟨r5, n1, n2, n3⟩ := next_r hlx4 k5 k5.2.1 (by rw [er4]; simp (disch := omega) only [vv_iu_nj, vv_iu_eq]) (by rw [er4, k5.1]; simp (disch := omega) only [vv_iu_nj, vv_iu_eq]; rfl)
  have hps : ps (wb r) L n st tp tk tv c4 r5 0 := ⟨k5.2.1, k5, tkc4, by rw [e4, vv_iu_eq]; rfl, lxr_N hlx4 n2, n3⟩
  have hdr : dra b c4 r5 0 0 0 := ⟨by rw [e4, e3]; simp (disch := omega) only [vv_iu_ne, vv_iu_eq]; rfl, by rw [n2.2 0 34 (by omega), er4, vv_iu_eq]; rfl, fun i hi => absurd hi (Nat.not_lt_zero i)⟩
  obtain ⟨e, r6, y1, y2, y3, y4⟩ := lines_all 12 0 rfl vv_F vv_F (vv_F_lt (by decide)) (vv_F_lt (by decide)) c4 r5 0 hps hdr
  have RD : ff_X5_read c3 b = Sum.elim (fun (e14 : (vv_H)) => some ((0 : Int32), e14)) (fun (e15 : (vv_H)) => some ((e15.1 55 1), e15)) e := by
    unfold ff_X5_read
    rw [vlE, vlE, vlE, ← e4, show (0 : Int32) = nI 0 from rfl, y1, Option.bind_some]
  have TX : ff_X11_text c = (ff_X5_read c3 b).bind (fun r7 => vv_let (vv_iu r7.2 0 1 r7.1) (fun g9 => (if (g9.1 0 1) = 0 then vv_let (vv_bu g9 0 (g9.2.2 1)) (fun g11 => vv_let (vv_bu g11 1 (g9.2.2 0)) (fun g13 => some ((g13.1 (vv_rid (g13.2.2 0)) 0), g13))) else some (((-10 : Int32) - (g9.1 55 0)), g9)))) := by
    unfold ff_X11_text
    have eb3 : (vv_iu c1 50 0 0).2.2 1 = b := eb1
    rw [k1, Option.bind_some, vlE, vlE, eb3, ← e3, show c3.2.2 1 = b by rw [c32, eb]]
  have TR : ff_X12_text r = vv_let (vv_iu r6 0 17 (0 : Int32)) (fun g13 => vv_let (vv_iu g13 0 18 (g13.1 0 19)) (fun g15 => (if (g15.1 0 19) ≤ 0 then vv_let (vv_iu g15 0 27 (g15.1 0 34)) (fun g17 => (vv_lp (fun (zs : Int32 × vv_H) => ff_X12_text_B78 zs.1 zs.2) vv_F ((0 : Int32), g17)).bind (fun (e42 : (vv_H)) => (vv_lp (fun (zs : Int32 × vv_H) => ff_X12_text_B152 zs.1 zs.2) vv_F ((0 : Int32), e42)).bind (fun (e50 : (vv_H)) => some ((e50.1 0 27), e50)))) else some (((-10 : Int32) - (g15.1 0 20)), g15)))) := by
    unfold ff_X12_text
    rw [vlE, vlE, vlE, ← er4, n1, Option.bind_some, y2, Option.bind_some]
  -- the cells with state
  have c4c : ∀ k j, ¬ scC (c.2.2 0) k j → c4.1 k j = (vv_iu c 50 0 0).1 k j := fun k j q => by
    have hrid : vv_rid b = vv_rid (!(c.2.2 0)) := by rw [eb, hbool]
    unfold scC at q
    rw [e4, e3, vv_iu_ne (by omega), vv_iu_ne (by omega), vv_iu_ne (by omega), vv_iu_ne (by omega), vv_iu_e, vv_iu_e]
    by_cases d : k = 50 ∧ j = 0
    · rw [if_pos d, if_pos d]
    · rw [if_neg d, if_neg d]
      exact k2.2 k j (by omega) (by omega)
  have core : ∀ (c5 : vv_H) (v : Int32), frP b c4 c5 → r6.1 0 19 = v → RR (vv_iu c5 0 1 v) (vv_iu (vv_iu r6 0 17 0) 0 18 v) := fun c5 v fp hv => by
    have H1 := RR_up (k := 0) (j := 1) (v := v) (RR_up (k := 50) (j := 0) (v := 0) H rfl (bd_in rfl (by decide) (by decide)) (wfp_ne H.2.2.1 (by omega))) rfl (bd_no rfl) (wfp_ne (wfp_ne H.2.2.1 (by omega)) (by omega))
    refine RR_core H1 ⟨?_, fun k j q => ?_⟩ fun k j q => ?_
    · show c5.2.2 = c.2.2
      rw [fp.1, c42]
    · have q' : ¬ scC (c.2.2 0) k j := q
      have hrid : vv_rid b = vv_rid (!(c.2.2 0)) := by rw [eb, hbool]
      rw [vv_iu_e, vv_iu_e]
      by_cases d : k = 0 ∧ j = 1
      · rw [if_pos d, if_pos d]
      · rw [if_neg d, if_neg d, fp.2 k j (by unfold scC at q'; omega) (by unfold scC at q'; omega)]
        exact c4c k j q'
    · rw [show (vv_iu (vv_iu r6 0 17 0) 0 18 v).1 k j = _ from vv_iu_e _ _, show (vv_iu (vv_iu r 0 17 0) 0 18 v).1 k j = _ from vv_iu_e _ _]
      by_cases d : k = 0 ∧ j = 18
      · rw [if_pos d, if_pos d]
      · rw [if_neg d, if_neg d, vv_iu_e, vv_iu_e]
        by_cases d2 : k = 0 ∧ j = 17
        · rw [if_pos d2, if_pos d2]
        · unfold scR at q
          rw [if_neg d2, if_neg d2, y3.2 k j (by omega) (by omega), n2.2 k j (by omega), fr4.2 k j (by omega) (by omega)]
  rcases y4 with ⟨c5, m, rfl, z2, z3, z4, z5⟩ | ⟨c5, rfl, z2, z3, z4⟩
  · have H2 := core c5 0 z2 z5
    obtain ⟨c6, e6⟩ : ∃ x, x = vv_iu c5 0 1 0 := ⟨_, rfl⟩
    obtain ⟨r8, e8⟩ : ∃ x, x = vv_iu (vv_iu r6 0 17 0) 0 18 0 := ⟨_, rfl⟩
    rw [← e6, ← e8] at H2
    have c62 : c6.2 = c.2 := by rw [e6]; exact z2.1.trans c42
    obtain ⟨c8, e9⟩ : ∃ x, x = vv_bu (vv_bu c6 0 (c6.2.2 1)) 1 (c6.2.2 0) := ⟨_, rfl⟩
    have c80 : c8.2.2 0 = b := by
      rw [e9]
      show (if 0 = 1 then c6.2.2 0 else if 0 = 0 then c6.2.2 1 else c6.2.2 0) = b
      rw [if_neg (by decide), if_pos rfl, c62, eb]
    have c81 : c8.2.2 1 = !b := by
      rw [e9]
      show (if 1 = 1 then c6.2.2 0 else if 1 = 0 then c6.2.2 1 else c6.2.2 1) = !b
      rw [if_pos rfl, c62, eb, hbool, Bool.not_not]
    have c8c : c8.1 = c6.1 := by rw [e9]; rfl
    have r819 : r8.1 0 19 = 0 := by rw [e8]; simp (disch := omega) only [vv_iu_nj]; exact z5
    have r834 : r8.1 0 34 = nI m := by rw [e8]; simp (disch := omega) only [vv_iu_nj]; exact z4.2.1
    obtain ⟨r10, p1, p2, p3⟩ := copy1 (vv_iu r8 0 27 (nI m))
    obtain ⟨r11, p4, p5, p6⟩ := copy2 r10
    have c6m : c6.1 (vv_rid b) 0 = nI m := by rw [e6, vv_iu_ne (by omega)]; exact z4.1
    have hr : ∀ k j, ¬ (16 ≤ k ∧ k ≤ 21) → ¬ (k = 0 ∧ j = 27) → r11.1 k j = r8.1 k j := fun k j q1 q2 => by
      rw [p6, if_neg (by omega), p3, if_neg (by omega), vv_iu_e, if_neg q2]
    have r1127 : r11.1 0 27 = nI m := by rw [p6, if_neg (by omega), p3, if_neg (by omega), vv_iu_eq]
    refine ⟨nI m, c8, r11, ?_, ?_, ?_⟩
    · rw [TX, RD]
      simp only [Sum.elim_inl, Option.bind_some]
      rw [vlE, ← e6]
      rw [show c6.1 0 1 = 0 by rw [e6, vv_iu_eq], if_pos rfl, vlE, vlE, ← e9, c80, c8c, c6m]
    · rw [TR, vlE, vlE, show (vv_iu r6 0 17 0).1 0 19 = 0 by rw [vv_iu_nj (by omega), z5], ← e8, r819, if_pos (by decide), vlE, r834, p1, Option.bind_some, p4, Option.bind_some, r1127]
    · refine RR_swap H2 c8c (by rw [c80, c81]) hr z3 r1127 (by rw [c80, c8c]; exact c6m) fun i hi => ?_
      rw [c80]
      have old := z4.2.2 i hi
      have r8o : ∀ k j, 22 ≤ k → r8.1 k j = r6.1 k j := fun k j hk => by rw [e8, vv_iu_ne (by omega), vv_iu_ne (by omega)]
      have old2 : rline c6 r6 (vv_rid b) 22 i := rl_cg old (fun k j q => by rw [e6, vv_iu_ne (by omega)]) (by omega) (fun _ _ _ => rfl) fun _ _ _ => rfl
      refine rl_16 old2 (by omega) c8c (fun a ha => ?_) fun j hj => ?_
      · rw [p6, if_neg (by omega), p3, if_pos (by omega), show 16 + a + 6 = 22 + a by omega, vv_iu_ne (by omega), r8o _ _ (by omega)]
      · rw [p6, if_pos ⟨rfl, hj⟩, p3, if_neg (by omega), vv_iu_ne (by omega), r8o _ _ (by omega)]
  · obtain ⟨v, ev⟩ : ∃ v, v = r6.1 0 19 := ⟨_, rfl⟩
    obtain ⟨s1, s2, s3⟩ := z4
    have H2 := core c5 v z2 ev.symm
    have hv := bad_n z3
    rw [← ev] at hv s2
    obtain ⟨o, eo⟩ : ∃ o : Int32, o = (-10 : Int32) - (r6.1 0 20) := ⟨_, rfl⟩
    refine ⟨o, _, _, ?_, ?_, H2⟩
    · rw [TX, RD]
      simp only [Sum.elim_inr, Option.bind_some]
      rw [vlE, s2, vv_iu_eq, if_neg hv.1, show (vv_iu c5 0 1 v).1 55 0 = r6.1 0 20 by rw [vv_iu_ne (by omega), s3], eo]
    · rw [TR, vlE, vlE, show (vv_iu r6 0 17 0).1 0 19 = v by rw [vv_iu_nj (by omega), ev]]
      rw [show (vv_iu (vv_iu r6 0 17 0) 0 18 v).1 0 19 = v by simp (disch := omega) only [vv_iu_nj]; exact ev.symm, if_neg hv.2, show (vv_iu (vv_iu r6 0 17 0) 0 18 v).1 0 20 = r6.1 0 20 by simp (disch := omega) only [vv_iu_nj], eo]
