theorem layParade_r {gr g : vv_H} {can : Nat → Nat → Prop} {P B a e m : Nat} (hP : P < 37) (hB : B < 13) (eR : gr.1 0 44 = nI P) (eB : gr.1 0 1 = nI B) (ha : a < 100) (he : e < 100) (hm : m ≤ 12) (fg : frG gr g) (hcan : ∀ b' x, b' < B → x < P → (¬ gr.1 39 (36 * b' + x) = 0 ↔ can b' x)) (hcP : ∀ b' x, can b' x → x < P) : ∃ g' Fs Ls res, ff_X12_layParade g (nI a) (nI e) (nI m) = some g' ∧ frG gr g' ∧ chnR can B Fs Ls res B ∧ Ls 0 = m ∧ (∀ x, Fs 0 x ↔ x < P ∧ frr g a e x) ∧ ∀ i, i < B → g'.1 45 i = res i := by
  have hL := lp_count (f := fun (zs : Int32 × Int32 × Int32 × vv_H) => ff_X12_layParade_B16 (nI a) (nI e) zs.1 zs.2.1 zs.2.2.1 zs.2.2.2) (fun b z => ∃ (g' : vv_H) (Fs : Nat → Nat → Prop) (Ls : Nat → Nat) (res : Nat → Int32), z = (nI (Ls b), nI (2 ^ B - 2 ^ b), nI b, g') ∧ frG gr g' ∧ chnR can B Fs Ls res b ∧ Ls 0 = m ∧ (∀ x, Fs 0 x ↔ x < P ∧ frr g a e x) ∧ (∀ i, i < b → g'.1 45 i = res i) ∧ (∀ x, x < P → (Fs b x ↔ frr g' a e x)) ∧ Ls b ≤ m) (fun g' => ∃ Fs Ls res, frG gr g' ∧ chnR can B Fs Ls res B ∧ Ls 0 = m ∧ (∀ x, Fs 0 x ↔ x < P ∧ frr g a e x) ∧ ∀ i, i < B → g'.1 45 i = res i) B ?hs ?he vv_F 0 (nI m, nI (2 ^ B - 2 ^ 0), (0 : Int32), g) ⟨g, fun _ x => x < P ∧ frr g a e x, fun _ => m, fun _ => 0, rfl, fg, fun i hi => absurd hi (Nat.not_lt_zero i), rfl, fun _ => Iff.rfl, fun i hi => absurd hi (Nat.not_lt_zero i), fun x hx => ⟨fun z => z.2, fun z => ⟨hx, z⟩⟩, Nat.le_refl _⟩ (Nat.zero_le _) (vv_F_lt (by omega))
  case he =>
    rintro z ⟨g', Fs, Ls, res, rfl, a1, a2, a3, a4, a5, _⟩
    refine ⟨g', ?_, Fs, Ls, res, a1, a2, a3, a4, a5⟩
    show ff_X12_layParade_B16 (nI a) (nI e) (nI (Ls B)) (nI (2 ^ B - 2 ^ B)) (nI B) g' = _
    unfold ff_X12_layParade_B16
    rw [a1.2 0 1 (by omega), eB, if_pos (nI_le (Nat.le_refl B) (by omega))]
  case hs =>
    rintro b z hb ⟨g', Fs, Ls, res, rfl, a1, a2, a3, a4, a5, a6, a7⟩
    left
    obtain ⟨g6, e6⟩ : ∃ g6, g6 = vv_iu g' 45 b (-4) := ⟨_, rfl⟩
    have f6 : frG gr g6 := by
      rw [e6]
      exact ⟨a1.1, fun k j hk => by rw [vv_iu_ne (by omega)]; exact a1.2 k j hk⟩
    have fr6 : ∀ x, frr g6 a e x ↔ frr g' a e x := fun x => by
      unfold frr
      rw [e6, vv_iu_ne (by omega), vv_iu_ne (by omega)]
    obtain ⟨R, g7, F', l', y1, y2, y3, y4, y5, y6⟩ := gets_b (b := b) (l := Ls b) (F := Fs b) hP hB eR eB ha he hb (by omega) f6 hcan hcP (fun x hx => by rw [a6 x hx, fr6]) (by rw [e6, vv_iu_eq])
    have hl' : l' ≤ Ls b ∧ (R = -4 ↔ l' = Ls b) ∧ (¬ R = -4 → l' + 1 = Ls b) := by
      rcases y5 with ⟨p, rfl, p1, _, _, _, p2⟩ | ⟨rfl, _, _, p2⟩
      · exact ⟨by omega, ⟨fun z => absurd z (m4 (by omega)), fun z => by omega⟩, fun _ => p2⟩
      · exact ⟨by omega, ⟨fun _ => p2, fun _ => rfl⟩, fun z => absurd rfl z⟩
    have E : ff_X12_layParade_B16 (nI a) (nI e) (nI (Ls b)) (nI (2 ^ B - 2 ^ b)) (nI b) g' = some (.inl (nI l', nI (2 ^ B - 2 ^ (b + 1)), nI (b + 1), g7)) := by
      unfold ff_X12_layParade_B16
      rw [a1.2 0 1 (by omega), eB, if_neg (nI_nle' hb (by omega)), vlE, all_an B hB b hb, ck_lit (show b < 12 by omega) (by decide), vlE, nI_clamp (show b < 2 ^ 31 by omega), ← e6, y1, Option.bind_some, ck_lit (show b < 12 by omega) (by decide), y3]
      by_cases d : R = -4
      · rw [if_pos d, vlE, nI_1, Int32.sub_zero, hl'.2.1.mp d]
      · have hk := hl'.2.2 d
        rw [if_neg d, vlE, nI_1, ← hk, nI_pred]
    have U := chn_up a2 y5
    refine ⟨_, E, g7, ptP Fs (b + 1) F', pt Ls (b + 1) l', ptI res b R, ?_, y2, U, ?_, fun x => ?_, fun i hi => ?_, fun x hx => ?_, ?_⟩
    · rw [show pt Ls (b + 1) l' (b + 1) = l' from if_pos rfl]
    · rw [show pt Ls (b + 1) l' 0 = Ls 0 from if_neg (by omega), a3]
    · rw [show ptP Fs (b + 1) F' 0 = Fs 0 from if_neg (by omega)]
      exact a4 x
    · rcases Nat.lt_succ_iff_lt_or_eq.mp hi with k | rfl
      · rw [show ptI res b R i = res i from if_neg (by omega), y4 i (by omega), e6, vv_iu_nj (by omega)]
        exact a5 i k
      · rw [show ptI res i R i = R from if_pos rfl]
        exact y3
    · rw [show ptP Fs (b + 1) F' (b + 1) = F' from if_pos rfl]
      exact y6 x hx
    · rw [show pt Ls (b + 1) l' (b + 1) = l' from if_pos rfl]
      omega
  obtain ⟨g', e1, Fs, Ls, res, hh⟩ := hL
  refine ⟨g', Fs, Ls, res, ?_, hh⟩
  unfold ff_X12_layParade
  rw [fg.2 0 1 (by omega), eB, vlE, all_1 B hB, e1, Option.bind_some]
theorem chn_mod {can can' : Nat → Nat → Prop} {B : Nat} {Fs : Nat → Nat → Prop} {Ls : Nat → Nat} {res : Nat → Int32} {b : Nat} {O : Nat → Prop} (h : chnR can B Fs Ls res b) (hb : b ≤ B) (hc : ∀ b' x, b' < B → (can b' x ↔ can' b' x)) (hO : ∀ b' x, b' < B → can' b' x → O x) : chnR can' B (fun i x => Fs i x ∧ O x) Ls res b := fun i hi => by
  have key : ∀ (F : Nat → Prop) (l p : Nat), cnd can B i F l p ↔ cnd can' B i (fun x => F x ∧ O x) l p := fun F l p => by
    have rl : ∀ b', i < b' ∧ b' < B → ∀ x, (can b' x ∧ F x ∧ x ≠ p) ↔ (can' b' x ∧ (F x ∧ O x) ∧ x ≠ p) := fun b' hb' x => by
      rw [hc b' x hb'.2]
      exact ⟨fun z => ⟨z.1, ⟨z.2.1, hO b' x hb'.2 z.1⟩, z.2.2⟩, fun z => ⟨z.1, z.2.1.1, z.2.2⟩⟩
    unfold cnd
    rw [hc i p (by omega)]
    constructor
    · rintro ⟨z1, z2, n, z3, z4⟩
      exact ⟨z1, ⟨z2, hO i p (by omega) z1⟩, n, good_X z3 rl, z4⟩
    · rintro ⟨z1, z2, n, z3, z4⟩
      exact ⟨z1, z2.1, n, good_X z3 fun b' hb' x => (rl b' hb' x).symm, z4⟩
  rcases h i hi with ⟨p, a1, a2, a3, a4, a5, a6⟩ | ⟨a1, a2, a3, a4⟩
  · exact Or.inl ⟨p, a1, a2, (key _ _ _).mp a3, fun q hq z => a4 q hq ((key _ _ _).mpr z), fun x => ⟨fun z => ⟨⟨((a5 x).mp z.1).1, z.2⟩, ((a5 x).mp z.1).2⟩, fun z => ⟨(a5 x).mpr ⟨z.1.1, z.2⟩, z.1.2⟩⟩, a6⟩
  · exact Or.inr ⟨a1, fun p z => a2 p ((key _ _ _).mpr z), fun x => ⟨fun z => ⟨(a3 x).mp z.1, z.2⟩, fun z => ⟨(a3 x).mpr z.1, z.2⟩⟩, a4⟩
theorem e_parade {c r : vv_H} (H : RR c r) (kind e what : Int32) : ∃ o c' r', ff_X11_parade c kind e what = some (o, c') ∧ ff_X12_parade r kind e what = some (o, r') ∧ RR c' r' := by
  have hb := H.b (k := 1) (j := 0) rfl
  have hz := H.b (k := 22) (j := 0) rfl
  have hp := H.b (k := 156) (j := 0) rfl
  obtain ⟨B, hB, eB⟩ := to_nI (n := 13) hb.1 (by omega) (by decide)
  obtain ⟨N, hN, eN⟩ := to_nI (n := 13) hz.1 (by omega) (by decide)
  obtain ⟨P, hP, eP⟩ := to_nI (n := 37) hp.1 (by omega) (by decide)
  have eBr : r.1 0 1 = nI B := by rw [rel_s1_0 H.1, eB]
  -- what is asked
  have hasked : ∀ (ok : Prop) [Decidable ok] (g1 : 0 ≤ kind.toInt ∧ kind.toInt ≤ 3) (g2 : 0 ≤ e.toInt ∧ e.toInt ≤ 99), (what = 0 ∨ what = 1 ∨ ∃ v, v < B ∧ what = nI (10 + v)) → ∃ o c' r', ff_X11_parade_J34 kind e what 1 c = some (o, c') ∧ ff_X12_parade_J55 kind e what r = some (o, r') ∧ RR c' r' := fun ok _ g1 g2 hw => by
    obtain ⟨ee, hee, rfl⟩ := to_nI (n := 100) g2.1 (by omega) (by decide)
    obtain ⟨gc, l1, l2, l3⟩ := layOut_c H hP eP hB eB hN eN kind
    obtain ⟨gr, i1, i2, i3, i4⟩ := init_r H hP eP hB eB kind (nI ee) what
    have Hg := frI_RR H i2
    have eRg : gr.1 0 44 = nI P := by rw [i2.2 0 44 (by omega) (by omega), rel_s156_0 H.1, eP]
    have eBg : gr.1 0 1 = nI B := by rw [i2.2 0 1 (by omega) (by omega), eBr]
    obtain ⟨g, b, s1, s2, m, sh, g', rfl, k1, k2, k3, k4, k5, k6, k7, k8⟩ := shade_two H Hg eN hN eP hP hB hee l2 eRg eBg i3 i4 what
    have CC : ff_X11_parade_J34 kind (nI ee) what 1 c = (if what = 0 then some (nI m, g) else (if what = 1 then (if nI m = 0 then some ((-4 : Int32), g) else some (nI sh, g)) else (ff_X3_pieceFor g (what - 10)).bind (fun r11 => some (r11.1, r11.2)))) := by
      unfold ff_X11_parade_J34
      rw [m_isKind, Option.bind_some, wi_ite, if_pos g1, m_isWithin, Option.bind_some, wi_ite, show (0 : Int32).toInt = 0 from rfl, show (99 : Int32).toInt = 99 from rfl, if_pos g2, if_neg (show ¬ (1 : Int32) = 0 from by decide), l1, Option.bind_some, s1, Option.bind_some, k3, k4]
    have RR1 : ff_X12_parade_J55 kind (nI ee) what r = (if what = 0 then some (nI m, g') else (if what = 1 then (if nI m = 0 then some ((-4 : Int32), g') else some (nI sh, g')) else (ff_X12_layParade g' (nI sh) (nI ee) (nI m)).bind (fun r53 => vv_ck (what - 10) 12 (some ((r53.1 45 (what - 10).toNatClampNeg), r53))))) := by
      unfold ff_X12_parade_J55
      rw [i1, Option.bind_some, vlE, eBg, all_1 B hB, s2, Option.bind_some]
    have RK : ∀ x, frK gc x → coC c x := fun x q => ⟨by rw [q.1, l2.1], fun k j hk => by
      rw [q.2.2.2 k j (by unfold scC at hk; omega) (by unfold scC at hk; omega)]
      exact l2.2.1 k j (by unfold scC at hk; omega)⟩
    have RJ : ∀ x, frG gr x → coR r x := fun x q k j hk => by
      rw [q.2 k j (by unfold scR at hk; omega)]
      exact i2.2 k j (by unfold scR at hk; omega) (by unfold scR at hk; omega)
    have J2 : frG gr g' := ⟨k2.1, fun k j hk => k2.2 k j (by omega)⟩
    have R2 : RR g g' := RR_core H (RK g k1) (RJ g' J2)
    rw [CC, RR1]
    by_cases w0 : what = 0
    · rw [if_pos w0, if_pos w0]
      exact ⟨_, _, _, rfl, rfl, R2⟩
    rw [if_neg w0, if_neg w0]
    by_cases w1 : what = 1
    · rw [if_pos w1, if_pos w1]
      by_cases d : nI m = 0
      · rw [if_pos d, if_pos d]
        exact ⟨_, _, _, rfl, rfl, R2⟩
      · rw [if_neg d, if_neg d]
        exact ⟨_, _, _, rfl, rfl, R2⟩
    rw [if_neg w1, if_neg w1]
    obtain ⟨v, hv, rfl⟩ : ∃ v, v < B ∧ what = nI (10 + v) := by
      rcases hw with k | k | k
      · exact absurd k w0
      · exact absurd k w1
      · exact k
    have ev : nI (10 + v) - (10 : Int32) = nI v := by rw [show (10 : Int32) = nI 10 from rfl, pk_sub (by omega), Nat.add_sub_cancel_left]
    rw [ev]
    have c36 : ∀ b p, b < 12 → tb (gc.2.1 171 b) p = true → p < 36 := fun b p hb hp => by
      have := ((l2.2.2.2.1 b p (by omega)).mp hp).2.1.1
      omega
    have hsz : ∀ x, off c P kind x → szo c x < N := fun x h1 => by
      have hx : (x : Int) < (c.1 156 0).toInt := by rw [eP, nI_toInt (by omega)]; have := h1.1; omega
      have hsz := (H.2.2.1.1 x hx).1
      have hz := H.b (k := 157) (j := x) rfl
      obtain ⟨sz, k1, k2⟩ := to_nI (n := 12) hz.1 (by omega) (by decide)
      rw [k2, eN, nI_toInt (by omega), nI_toInt (by omega)] at hsz
      unfold szo
      rw [k2, nI_clamp (by omega)]
      omega
    obtain ⟨w, ww⟩ : ∃ w, w = g.2.1 170 3 := ⟨_, rfl⟩
    -- the window
    have hwin : m = 0 ∨ ∀ x, tb w x = true ↔ off c P kind x ∧ (sh : Int) ≤ (c.1 159 x).toInt ∧ (c.1 159 x).toInt ≤ sh + ee := by
      rcases Nat.eq_zero_or_pos m with h | h
      · exact Or.inl h
      · right
        obtain ⟨w', x1, x2⟩ := window_l H eN hN eP hP l2 k5 hee
        have := k8 h
        rw [x1, ← ww] at this
        have e := Option.some.inj this
        rw [← e]
        exact x2
    have w36 : ∀ x, tb w x = true → x < 36 := fun x hx => by
      rcases hwin with h | h
      · rw [ww, (k7 h).2, tb_0] at hx
        cases hx
      · have := ((h x).mp hx).1.1
        omega
    obtain ⟨g2, Fs, Ls, res, p1, p2, p3, p4, p5⟩ := pieceFor_c (v := v) (m := m) k1 hB l2.2.2.1 hv k6 k3 ww.symm c36 w36
    obtain ⟨can, ecan⟩ : ∃ can : Nat → Nat → Prop, can = fun b x => b < B ∧ tb (gc.2.1 171 b) x = true := ⟨_, rfl⟩
    have cani : ∀ b x, can b x ↔ b < B ∧ tb (gc.2.1 171 b) x = true := fun b x => by rw [ecan]
    have canO : ∀ b x, can b x → off c P kind x := fun b x z => by
      obtain ⟨z1, z2⟩ := (cani b x).mp z
      exact ((l2.2.2.2.1 b x (by omega)).mp z2).2.1
    have hcan : ∀ b' x, b' < B → x < P → (¬ gr.1 39 (36 * b' + x) = 0 ↔ can b' x) := fun b' x hb' hx => by
      have h1 := i4 b' x hb' hx
      unfold cgo at h1
      rw [h1, cani, l2.2.2.2.1 b' x (by omega)]
      exact ⟨fun z => ⟨hb', hb', z.1, z.2, Or.inl (hsz x z.1)⟩, fun z => ⟨z.2.2.1, z.2.2.2.1⟩⟩
    obtain ⟨g3, Gs, Ks, sol, q1, q2, q3, q4, q5, q6⟩ := layParade_r (a := sh) (e := ee) (m := m) hP hB eRg eBg k5 hee k6 J2 hcan fun b' x z => (canO b' x z).1
    have C1 := chn_mod (can' := can) (O := off c P kind) p3 (by omega) (fun b' x hb' => by rw [cani]; exact ⟨fun z => ⟨hb', z⟩, fun z => z.2⟩) fun b' x _ z => canO b' x z
    have C2 := chn_mod (can' := can) (O := off c P kind) q3 (Nat.le_refl B) (fun _ _ _ => Iff.rfl) fun b' x _ z => canO b' x z
    have same := chn_one C1 (fun i hi => C2 i (by omega)) (by rw [p4, q4]) (by
      rcases hwin with h | h
      · exact Or.inl (by rw [p4, h])
      · refine Or.inr fun x => ?_
        show Fs 0 x ∧ off c P kind x ↔ Gs 0 x ∧ off c P kind x
        rw [p5 x, q5 x, h x]
        unfold frr
        constructor
        · rintro ⟨⟨z1, z2⟩, z3⟩
          refine ⟨⟨z1.1, ?_, ?_⟩, z3⟩
          · rw [k2.2 44 x (by omega)]
            exact i3 x z1.1
          · rw [k2.2 31 x (by omega), rel_a159 Hg.1]
            exact z2
        · rintro ⟨⟨z1, z2, z3⟩, z4⟩
          rw [k2.2 31 x (by omega), rel_a159 Hg.1] at z3
          exact ⟨⟨z4, z3⟩, z4⟩) v (Nat.lt_succ_self v)
    refine ⟨res v, g2, g3, ?_, ?_, RR_core H (RK g2 p2) (RJ g3 q2)⟩
    · rw [p1, Option.bind_some]
    · rw [q1, Option.bind_some, ck_lit (show v < 12 by omega) (by decide), nI_clamp (by omega), q6 v hv, same]
  have hbad : ff_X11_parade_J34 kind e what 0 c = some (-1, c) := by
    unfold ff_X11_parade_J34
    rw [m_isKind, Option.bind_some, wi_ite]
    split
    · rw [m_isWithin, Option.bind_some, wi_ite]
      split
      · rw [if_pos rfl]
      · rfl
    · rfl
  have hbadK : ¬ (0 ≤ kind.toInt ∧ kind.toInt ≤ 3) → ∀ z, ff_X11_parade_J34 kind e what z c = some (-1, c) := fun hk z => by
    unfold ff_X11_parade_J34
    rw [m_isKind, Option.bind_some, wi_ite, if_neg hk]
  have hbadE : ¬ (0 ≤ e.toInt ∧ e.toInt ≤ 99) → ∀ z, ff_X11_parade_J34 kind e what z c = some (-1, c) := fun hk z => by
    unfold ff_X11_parade_J34
    rw [m_isKind, Option.bind_some, wi_ite]
    split
    · rw [m_isWithin, Option.bind_some, wi_ite, show (0 : Int32).toInt = 0 from rfl, show (99 : Int32).toInt = 99 from rfl, if_neg hk]
    · rfl
  have t64 : (((9 : Int32) + nI B).toInt64).toInt = 9 + B := by
    rw [Int32.toInt_toInt64, show (9 : Int32) = nI 9 from rfl, nI_add, nI_toInt (by omega)]
    omega
  -- the component's question
  have CQ : ff_X11_parade c kind e what = if (0 ≤ what.toInt ∧ what.toInt ≤ 1) ∨ (10 ≤ what.toInt ∧ what.toInt ≤ 9 + B) then ff_X11_parade_J34 kind e what 1 c else ff_X11_parade_J34 kind e what 0 c := by
    unfold ff_X11_parade ff_X11_parade_J33 ff_X11_parade_J29
    rw [m_isWithin, Option.bind_some, wi_ite, show (0 : Int32).toInt = 0 from rfl, show (1 : Int32).toInt = 1 from rfl]
    by_cases d : 0 ≤ what.toInt ∧ what.toInt ≤ 1
    · rw [if_pos d, if_pos (Or.inl d)]
    · rw [if_neg d]
      by_cases d2 : what < 10
      · rw [if_pos d2, if_neg (fun z => by
          rw [Int32.lt_iff_toInt_lt, show (10 : Int32).toInt = 10 from rfl] at d2
          rcases z with z | z
          · exact d z
          · omega)]
      · have d3 : 10 ≤ what.toInt := by
          rw [Int32.lt_iff_toInt_lt, show (10 : Int32).toInt = 10 from rfl] at d2
          omega
        have t1 : (what - 10).toInt = what.toInt - 10 := by
          have h2 := Int32.toInt_lt what
          rw [Int32.toInt_sub, show (10 : Int32).toInt = 10 from rfl]
          exact Int.bmod_eq_of_le (by omega) (by omega)
        rw [if_neg d2, m_has0, Option.bind_some, wi_ite, t1, eB, nI_toInt (by omega)]
        by_cases d4 : what.toInt ≤ 9 + B
        · rw [if_pos (by omega), if_pos (Or.inr ⟨d3, d4⟩)]
        · rw [if_neg (by omega), if_neg (fun z => by rcases z with z | z <;> omega)]
  have RQ : ff_X12_parade r kind e what = if 0 ≤ kind.toInt ∧ kind.toInt ≤ 3 then (if 0 ≤ e.toInt ∧ e.toInt ≤ 99 then (if (0 ≤ what.toInt ∧ what.toInt ≤ 1) ∨ (10 ≤ what.toInt ∧ what.toInt ≤ 9 + B) then ff_X12_parade_J55 kind e what r else some (-1, r)) else some (-1, r)) else some (-1, r) := by
    unfold ff_X12_parade
    rw [m_in, Option.bind_some, wi_ite, m_in, Option.bind_some, wi_ite, m_in, Option.bind_some, wi_ite, m_in, Option.bind_some, wi_ite, eBr, t64]
    simp only [Int32.toInt_toInt64, show (0 : Int64).toInt = 0 from rfl, show (3 : Int64).toInt = 3 from rfl, show (99 : Int64).toInt = 99 from rfl, show (1 : Int64).toInt = 1 from rfl, show (10 : Int64).toInt = 10 from rfl]
    by_cases d : 0 ≤ what.toInt ∧ what.toInt ≤ 1
    · rw [if_pos d, if_pos (Or.inl d)]
    · rw [if_neg d]
      by_cases d2 : 10 ≤ what.toInt ∧ what.toInt ≤ 9 + B
      · rw [if_pos d2, if_pos (Or.inr d2)]
      · rw [if_neg d2, if_neg (show ¬ ((0 ≤ what.toInt ∧ what.toInt ≤ 1) ∨ (10 ≤ what.toInt ∧ what.toInt ≤ 9 + (B : Int))) from fun z => z.elim d d2)]
  rw [CQ, RQ]
  by_cases g1 : 0 ≤ kind.toInt ∧ kind.toInt ≤ 3
  case neg =>
    rw [if_neg g1]
    refine ⟨-1, c, r, ?_, rfl, H⟩
    split
    · exact hbadK g1 _
    · exact hbadK g1 _
  rw [if_pos g1]
  by_cases g2 : 0 ≤ e.toInt ∧ e.toInt ≤ 99
  case neg =>
    rw [if_neg g2]
    refine ⟨-1, c, r, ?_, rfl, H⟩
    split
    · exact hbadE g2 _
    · exact hbadE g2 _
  rw [if_pos g2]
  by_cases g3 : (0 ≤ what.toInt ∧ what.toInt ≤ 1) ∨ (10 ≤ what.toInt ∧ what.toInt ≤ 9 + B)
  · rw [if_pos g3, if_pos g3]
    refine hasked True g1 g2 ?_
    obtain ⟨v, hv, rfl⟩ := to_nI (x := what) (n := 22) (by omega) (by omega) (by decide)
    rw [nI_toInt (by omega)] at g3
    rcases g3 with k | k
    · have : v = 0 ∨ v = 1 := by omega
      rcases this with rfl | rfl
      · exact Or.inl rfl
      · exact Or.inr (Or.inl rfl)
    · exact Or.inr (Or.inr ⟨v - 10, by omega, by rw [show 10 + (v - 10) = v by omega]⟩)
  · rw [if_neg g3, if_neg g3]
    exact ⟨-1, c, r, hbad, rfl, H⟩
