/-- a run of the pieces given, body by body -/
def chnR (can : Nat → Nat → Prop) (B : Nat) (Fs : Nat → Nat → Prop) (Ls : Nat → Nat) (res : Nat → Int32) (b : Nat) : Prop := ∀ i, i < b → stR can B i (Fs i) (Ls i) (res i) (Fs (i + 1)) (Ls (i + 1))
theorem chn_one {can : Nat → Nat → Prop} {B : Nat} {Fs Gs : Nat → Nat → Prop} {Ls Ks : Nat → Nat} {res sol : Nat → Int32} {b : Nat} (h1 : chnR can B Fs Ls res b) (h2 : chnR can B Gs Ks sol b) (e : Ls 0 = Ks 0) (h : Ls 0 = 0 ∨ ∀ x, Fs 0 x ↔ Gs 0 x) : ∀ i, i < b → res i = sol i := by
  have key : ∀ i, i ≤ b → Ls i = Ks i ∧ (Ls i = 0 ∨ ∀ x, Fs i x ↔ Gs i x) := by
    intro i
    induction i with
    | zero => exact fun _ => ⟨e, h⟩
    | succ i ih =>
      intro hi
      obtain ⟨k1, k2⟩ := ih (by omega)
      have a := h1 i (by omega)
      have c := h2 i (by omega)
      rw [← k1] at c
      obtain ⟨_, s2, s3⟩ := stR_one a c k2
      exact ⟨s2, s3⟩
  intro i hi
  obtain ⟨k1, k2⟩ := key i (by omega)
  have a := h1 i hi
  have c := h2 i hi
  rw [← k1] at c
  exact (stR_one a c k2).1
def ptP (f : Nat → Nat → Prop) (k : Nat) (v : Nat → Prop) : Nat → Nat → Prop := fun i => if i = k then v else f i
def ptI (f : Nat → Int32) (k : Nat) (v : Int32) : Nat → Int32 := fun i => if i = k then v else f i
theorem chn_up {can : Nat → Nat → Prop} {B : Nat} {Fs : Nat → Nat → Prop} {Ls : Nat → Nat} {res : Nat → Int32} {b : Nat} (h : chnR can B Fs Ls res b) {R : Int32} {F' : Nat → Prop} {l' : Nat} (s : stR can B b (Fs b) (Ls b) R F' l') : chnR can B (ptP Fs (b + 1) F') (pt Ls (b + 1) l') (ptI res b R) (b + 1) := fun i hi => by
  have e1 : ∀ j, j ≤ b → ptP Fs (b + 1) F' j = Fs j := fun j hj => if_neg (by omega)
  have e2 : ∀ j, j ≤ b → pt Ls (b + 1) l' j = Ls j := fun j hj => if_neg (by omega)
  rw [e1 i (by omega), e2 i (by omega)]
  rcases Nat.lt_succ_iff_lt_or_eq.mp hi with k | rfl
  · rw [show ptI res b R i = res i from if_neg (by omega), e1 (i + 1) (by omega), e2 (i + 1) (by omega)]
    exact h i k
  · rw [show ptI res i R i = R from if_pos rfl, show ptP Fs (i + 1) F' (i + 1) = F' from if_pos rfl, show pt Ls (i + 1) l' (i + 1) = l' from if_pos rfl]
    exact s
theorem pieceFor_c {gc g : vv_H} {B m v : Nat} {w : Int64} (k : frK gc g) (hB : B < 13) (eB : gc.1 170 2 = nI B) (hv : v < B) (hm : m ≤ 12) (em : g.1 170 0 = nI m) (ew : g.2.1 170 3 = w) (h36 : ∀ b p, b < 12 → tb (gc.2.1 171 b) p = true → p < 36) (hw36 : ∀ x, tb w x = true → x < 36) : ∃ g' Fs Ls res, ff_X3_pieceFor g (nI v) = some (res v, g') ∧ frK gc g' ∧ chnR (fun b p => tb (gc.2.1 171 b) p = true) B Fs Ls res (v + 1) ∧ Ls 0 = m ∧ ∀ x, Fs 0 x ↔ tb w x = true := by
  have hL := lp_count (f := fun (zs : Int64 × Int32 × Int32 × Int32 × vv_H) => ff_X3_pieceFor_B18 (nI v) zs.1 zs.2.1 zs.2.2.1 zs.2.2.2.1 zs.2.2.2.2) (fun b z => ∃ (free : Int64) (gv : Int32) (g' : vv_H) (Fs : Nat → Nat → Prop) (Ls : Nat → Nat) (res : Nat → Int32), z = (free, nI (Ls b), gv, nI b, g') ∧ (0 < b → gv = res (b - 1)) ∧ frK gc g' ∧ chnR (fun b p => tb (gc.2.1 171 b) p = true) B Fs Ls res b ∧ Ls 0 = m ∧ (∀ x, Fs 0 x ↔ tb w x = true) ∧ (∀ x, tb free x = true ↔ Fs b x) ∧ (∀ x, Fs b x → x < 36) ∧ Ls b ≤ m) (fun a => ∃ g' Fs Ls res, a = (res v, g') ∧ frK gc g' ∧ chnR (fun b p => tb (gc.2.1 171 b) p = true) B Fs Ls res (v + 1) ∧ Ls 0 = m ∧ ∀ x, Fs 0 x ↔ tb w x = true) (v + 1) ?hs ?he vv_F 0 (w, nI m, (-4 : Int32), (0 : Int32), g) ⟨w, -4, g, fun _ x => tb w x = true, fun _ => m, fun _ => 0, rfl, fun z => absurd z (by decide), k, fun i hi => absurd hi (Nat.not_lt_zero i), rfl, fun _ => Iff.rfl, fun _ => Iff.rfl, hw36, Nat.le_refl _⟩ (Nat.zero_le _) (vv_F_lt (by omega))
  case hs =>
    rintro b z hb ⟨free, gv, g', Fs, Ls, res, rfl, a1, a2, a3, a4, a5, a6, a7, a8⟩
    left
    obtain ⟨R, g2, l1, l2, l3, l4⟩ := least_p (b := b) (l := Ls b) a2 hB eB (by omega) (by omega) h36 a6 a7
    have eB' : g'.1 170 2 = nI B := by rw [a2.2.2.2 170 2 (by omega) (by omega), eB]
    have E : ff_X3_pieceFor_B18 (nI v) free (nI (Ls b)) gv (nI b) g' = if R < 0 then some (.inl (free, nI (Ls b), R, nI (b + 1), g2)) else some (.inl (free &&& (((1 : Int64) <<< (R.toInt64 &&& 63)) ^^^ (-1 : Int64)), nI (Ls b) + (-1), R, nI (b + 1), g2)) := by
      unfold ff_X3_pieceFor_B18
      rw [if_neg (nI_nlt (show b ≤ v by omega) (by omega)), eB', if_neg (nI_nle' (show b < B by omega) (by omega)), l1, Option.bind_some]
      by_cases d : R < 0
      · rw [if_pos d, if_pos d, vlE, nI_1]
      · rw [if_neg d, if_neg d, vlE, vlE, vlE, nI_1]
    rcases l4 with ⟨p, rfl, p36, c1, c2⟩ | ⟨rfl, c1⟩
    · obtain ⟨n, n1, n2⟩ := c1.2.2
      rw [if_neg (nI_pos (show p < 2 ^ 31 by omega)), tb_pw p (by omega)] at E
      have eL : nI (Ls b) + (-1) = nI (Ls b - 1) := by
        obtain ⟨k, hk⟩ : ∃ k, Ls b = k + 1 := ⟨Ls b - 1, by omega⟩
        rw [hk, pk_m1, Nat.add_sub_cancel]
      have S : stR (fun b p => tb (gc.2.1 171 b) p = true) B b (Fs b) (Ls b) (nI p) (fun x => Fs b x ∧ x ≠ p) (Ls b - 1) := Or.inl ⟨p, rfl, p36, c1, c2, fun _ => Iff.rfl, by omega⟩
      have U := chn_up a3 S
      rw [eL] at E
      refine ⟨_, E, free &&& (lN (2 ^ p) ^^^ (-1)), nI p, g2, ptP Fs (b + 1) (fun x => Fs b x ∧ x ≠ p), pt Ls (b + 1) (Ls b - 1), ptI res b (nI p), ?_, fun _ => ?_, l2, U, ?_, fun x => ?_, fun x => ?_, fun x hx => ?_, ?_⟩
      · rw [show pt Ls (b + 1) (Ls b - 1) (b + 1) = Ls b - 1 from if_pos rfl]
      · rw [Nat.add_sub_cancel]
        exact (if_pos rfl).symm
      · rw [show pt Ls (b + 1) (Ls b - 1) 0 = Ls 0 from if_neg (by omega), a4]
      · rw [show ptP Fs (b + 1) (fun x => Fs b x ∧ x ≠ p) 0 = Fs 0 from if_neg (by omega)]
        exact a5 x
      · rw [show ptP Fs (b + 1) (fun x => Fs b x ∧ x ≠ p) (b + 1) = fun x => Fs b x ∧ x ≠ p from if_pos rfl]
        by_cases hx : x < 64
        · rw [tb_and, Bool.and_eq_true, tb_not _ hx, tb_p hx, a6]
          refine ⟨fun z => ⟨z.1, fun e => ?_⟩, fun z => ⟨z.1, ?_⟩⟩
          · rw [decide_eq_true e.symm] at z
            exact absurd z.2 (by decide)
          · rw [decide_eq_false (fun e => z.2 e.symm)]
            rfl
        · rw [tb_hi _ (by omega)]
          exact ⟨fun z => absurd z (by decide), fun z => by have := a7 x z.1; omega⟩
      · rw [show ptP Fs (b + 1) (fun x => Fs b x ∧ x ≠ p) (b + 1) = fun x => Fs b x ∧ x ≠ p from if_pos rfl] at hx
        exact a7 x hx.1
      · rw [show pt Ls (b + 1) (Ls b - 1) (b + 1) = Ls b - 1 from if_pos rfl]
        omega
    · rw [if_pos (by decide)] at E
      have S : stR (fun b p => tb (gc.2.1 171 b) p = true) B b (Fs b) (Ls b) (-4) (Fs b) (Ls b) := Or.inr ⟨rfl, c1, fun _ => Iff.rfl, rfl⟩
      have U := chn_up a3 S
      refine ⟨_, E, free, -4, g2, ptP Fs (b + 1) (Fs b), pt Ls (b + 1) (Ls b), ptI res b (-4), ?_, fun _ => ?_, l2, U, ?_, fun x => ?_, fun x => ?_, fun x hx => ?_, ?_⟩
      · rw [show pt Ls (b + 1) (Ls b) (b + 1) = Ls b from if_pos rfl]
      · rw [Nat.add_sub_cancel]
        exact (if_pos rfl).symm
      · rw [show pt Ls (b + 1) (Ls b) 0 = Ls 0 from if_neg (by omega), a4]
      · rw [show ptP Fs (b + 1) (Fs b) 0 = Fs 0 from if_neg (by omega)]
        exact a5 x
      · rw [show ptP Fs (b + 1) (Fs b) (b + 1) = Fs b from if_pos rfl]
        exact a6 x
      · rw [show ptP Fs (b + 1) (Fs b) (b + 1) = Fs b from if_pos rfl] at hx
        exact a7 x hx
      · rw [show pt Ls (b + 1) (Ls b) (b + 1) = Ls b from if_pos rfl]
        exact a8
  case he =>
    rintro z ⟨free, gv, g', Fs, Ls, res, rfl, a1, a2, a3, a4, a5, a6, a7, a8⟩
    refine ⟨(gv, g'), ?_, g', Fs, Ls, res, by rw [a1 (by omega), Nat.add_sub_cancel], a2, a3, a4, a5⟩
    show ff_X3_pieceFor_B18 (nI v) free (nI (Ls (v + 1))) gv (nI (v + 1)) g' = _
    unfold ff_X3_pieceFor_B18
    rw [if_pos (nI_lt (show v < v + 1 by omega) (by omega))]
  obtain ⟨a, e1, g', Fs, Ls, res, rfl, hh⟩ := hL
  refine ⟨g', Fs, Ls, res, ?_, hh⟩
  unfold ff_X3_pieceFor
  rw [vlE, vlE, ew, em, e1, Option.bind_some]
/-- the reference, body b -/
def frG (h g : vv_H) : Prop := g.2 = h.2 ∧ ∀ k j, ¬ (40 ≤ k ∧ k ≤ 45) → g.1 k j = h.1 k j
theorem gets_b {gr g : vv_H} {can : Nat → Nat → Prop} {P B a e b l : Nat} {F : Nat → Prop} (hP : P < 37) (hB : B < 13) (eR : gr.1 0 44 = nI P) (eB : gr.1 0 1 = nI B) (ha : a < 100) (he : e < 100) (hb : b < B) (hl : l < 100) (fg : frG gr g) (hcan : ∀ b' x, b' < B → x < P → (¬ gr.1 39 (36 * b' + x) = 0 ↔ can b' x)) (hcP : ∀ b' x, can b' x → x < P) (hF : ∀ x, x < P → (F x ↔ frr g a e x)) (h45 : g.1 45 b = -4) : ∃ (R : Int32) (g' : vv_H) (F' : Nat → Prop) (l' : Nat), vv_lp (fun (zs : Int32 × vv_H) => ff_X12_layParade_B48 (nI a) (nI e) (nI l) (nI (2 ^ B - 2 ^ (b + 1))) (nI b) zs.1 zs.2) vv_F ((0 : Int32), g) = some g' ∧ frG gr g' ∧ g'.1 45 b = R ∧ (∀ i, i ≠ b → g'.1 45 i = g.1 45 i) ∧ stR can B b F l R F' l' ∧ ∀ x, x < P → (F' x ↔ frr g' a e x) := by
  have hL := lp_count (f := fun (zs : Int32 × vv_H) => ff_X12_layParade_B48 (nI a) (nI e) (nI l) (nI (2 ^ B - 2 ^ (b + 1))) (nI b) zs.1 zs.2) (fun p z => ∃ g', z = (nI p, g') ∧ frG gr g' ∧ (∀ i, i ≠ b → g'.1 45 i = g.1 45 i) ∧ ((g'.1 45 b = -4 ∧ g'.1 44 = g.1 44 ∧ ∀ q, q < p → ¬ cnd can B b F l q) ∨ (∃ q, q < P ∧ g'.1 45 b = nI q ∧ cnd can B b F l q ∧ (∀ x, x < q → ¬ cnd can B b F l x) ∧ g'.1 44 q = 1 ∧ ∀ x, x ≠ q → g'.1 44 x = g.1 44 x))) (fun g' => frG gr g' ∧ (∀ i, i ≠ b → g'.1 45 i = g.1 45 i) ∧ ((g'.1 45 b = -4 ∧ g'.1 44 = g.1 44 ∧ ∀ q, q < P → ¬ cnd can B b F l q) ∨ (∃ q, q < P ∧ g'.1 45 b = nI q ∧ cnd can B b F l q ∧ (∀ x, x < q → ¬ cnd can B b F l x) ∧ g'.1 44 q = 1 ∧ ∀ x, x ≠ q → g'.1 44 x = g.1 44 x))) P ?hs ?he vv_F 0 ((0 : Int32), g) ⟨g, rfl, fg, fun _ _ => rfl, Or.inl ⟨h45, rfl, fun q hq => absurd hq (Nat.not_lt_zero q)⟩⟩ (Nat.zero_le _) (vv_F_lt (by omega))
  case he =>
    rintro z ⟨g', rfl, a1, a2⟩
    refine ⟨g', ?_, a1, a2⟩
    show ff_X12_layParade_B48 (nI a) (nI e) (nI l) (nI (2 ^ B - 2 ^ (b + 1))) (nI b) (nI P) g' = _
    unfold ff_X12_layParade_B48
    rw [a1.2 0 44 (by omega), eR, if_pos (nI_le (Nat.le_refl P) (by omega))]
  case hs =>
    rintro p z hp ⟨g', rfl, a1, a2, a3⟩
    have eP' : g'.1 0 44 = nI P := by rw [a1.2 0 44 (by omega), eR]
    have eB' : g'.1 0 1 = nI B := by rw [a1.2 0 1 (by omega), eB]
    have e1 : ¬ nI P ≤ nI p := nI_nle' hp (by omega)
    rcases a3 with ⟨c1, c2, c3⟩ | ⟨q, q1, q2, q3⟩
    case inr =>
      right
      refine ⟨g', ?_, a1, a2, Or.inr ⟨q, q1, q2, q3⟩⟩
      show ff_X12_layParade_B48 (nI a) (nI e) (nI l) (nI (2 ^ B - 2 ^ (b + 1))) (nI b) (nI p) g' = _
      unfold ff_X12_layParade_B48
      rw [eP', if_neg e1, ck_lit (show b < 12 by omega) (by decide), nI_clamp (show b < 2 ^ 31 by omega), q2, if_neg (m4 (show q < 256 by omega))]
    left
    have g39 : g'.1 39 (36 * b + p) = gr.1 39 (36 * b + p) := a1.2 39 _ (by omega)
    have g31 : ∀ x, g'.1 31 x = gr.1 31 x := fun x => a1.2 31 x (by omega)
    have gg31 : ∀ x, g.1 31 x = gr.1 31 x := fun x => fg.2 31 x (by omega)
    have ix : (36 : Int32) * nI b + nI p = nI (36 * b + p) := by rw [show (36 : Int32) = nI 36 from rfl, pk_mul, nI_add]
    -- the search without the piece p
    obtain ⟨g20, e20⟩ : ∃ g20, g20 = vv_iu g' 44 p 1 := ⟨_, rfl⟩
    obtain ⟨n, g22, d1, d2, d3, d4⟩ := most_r (h := g20) (P := P) (B := B) (a := a) (e := e) (s := 2 ^ B - 2 ^ (b + 1)) (by omega) (by rw [e20, vv_iu_ne (by omega), eP']) (by omega) (by rw [e20, vv_iu_ne (by omega), eB']) ha he (all_lt hB)
    have f20 : ∀ x, x < P → (frr g20 a e x ↔ F x ∧ x ≠ p) := fun x hx => by
      rw [hF x hx]
      unfold frr
      rw [e20, vv_iu_e, vv_iu_ne (by omega), g31, gg31, c2]
      by_cases d : x = p
      · rw [if_pos ⟨rfl, d⟩]
        exact ⟨fun z => absurd z.1 (by decide), fun z => absurd d z.2⟩
      · rw [if_neg (fun z => d z.2)]
        exact ⟨fun z => ⟨z, d⟩, fun z => z.1⟩
    have d3' : good (fun b' x => can b' x ∧ F x ∧ x ≠ p) (fun x => b < x ∧ x < B) n := by
      refine good_X (good_cg d3 (fun _ _ => Iff.rfl) fun x => ⟨fun z => ?_, fun z => ⟨z.2, ?_⟩⟩) fun b' hb' x => ?_
      · have h1 := all_dg B hB (b + 1) (by omega) x (by omega)
        rw [z.2] at h1
        by_cases k : b + 1 ≤ x ∧ x < B
        · exact ⟨by omega, k.2⟩
        · rw [if_neg k] at h1
          omega
      · rw [all_dg B hB (b + 1) (by omega) x (by omega), if_pos ⟨by omega, z.2⟩]
      · unfold rlr
        constructor
        · rintro ⟨h1, h2, h3⟩
          have e39 : g20.1 39 (36 * b' + x) = gr.1 39 (36 * b' + x) := by rw [e20, vv_iu_ne (by omega), a1.2 39 _ (by omega)]
          rw [e39] at h2
          exact ⟨(hcan b' x hb'.2 h1).mp h2, (f20 x h1).mp h3⟩
        · rintro ⟨h1, h2⟩
          have hx := hcP b' x h1
          have e39 : g20.1 39 (36 * b' + x) = gr.1 39 (36 * b' + x) := by rw [e20, vv_iu_ne (by omega), a1.2 39 _ (by omega)]
          refine ⟨hx, ?_, (f20 x hx).mpr h2⟩
          rw [e39]
          exact (hcan b' x hb'.2 hx).mpr h1
    have Cp : cnd can B b F l p ↔ can b p ∧ F p ∧ n + 1 = l := ⟨fun z => by
      obtain ⟨m, m1, m2⟩ := z.2.2
      exact ⟨z.1, z.2.1, by rw [good_one d3' m1]; exact m2⟩, fun z => ⟨z.1, z.2.1, n, d3', z.2.2⟩⟩
    have fF : F p ↔ g'.1 44 p = 0 ∧ (a : Int) ≤ (g'.1 31 p).toInt ∧ (g'.1 31 p).toInt ≤ a + e := by
      rw [hF p hp]
      unfold frr
      rw [c2, g31, gg31]
    have stay : ¬ cnd can B b F l p → ∀ q, q < p + 1 → ¬ cnd can B b F l q := fun hn q hq => by
      rcases Nat.lt_succ_iff_lt_or_eq.mp hq with k | rfl
      · exact c3 q k
      · exact hn
    have fr22 : frG gr g22 := by
      refine ⟨d2.1.trans (by rw [e20]; exact a1.1), fun k j hk => ?_⟩
      rw [d2.2 k j (by omega), e20, vv_iu_ne (by omega)]
      exact a1.2 k j hk
    have E : ff_X12_layParade_B48 (nI a) (nI e) (nI l) (nI (2 ^ B - 2 ^ (b + 1))) (nI b) (nI p) g' = if gr.1 39 (36 * b + p) = 0 then some (.inl (nI (p + 1), g')) else if g'.1 44 p = 0 then (if wi (g'.1 31 p).toInt a (a + e) = 0 then some (.inl (nI (p + 1), g')) else if n + 1 = l then some (.inl (nI (p + 1), vv_iu g22 45 b (nI p))) else some (.inl (nI (p + 1), vv_iu g22 44 p 0))) else some (.inl (nI (p + 1), g')) := by
      have pe := pred_eq (n := n) (l := l) (by omega) hl
      unfold ff_X12_layParade_B48
      rw [eP', if_neg e1, ck_lit (show b < 12 by omega) (by decide), nI_clamp (show b < 2 ^ 31 by omega), c1, if_pos rfl, ix, ck_lit (show 36 * b + p < 432 by omega) (by decide), nI_clamp (by omega), g39]
      by_cases k1 : gr.1 39 (36 * b + p) = 0
      · rw [if_pos k1, if_pos k1, vlE, nI_1]
      · rw [if_neg k1, if_neg k1, ck_lit (show p < 36 by omega) (by decide), nI_clamp (show p < 2 ^ 31 by omega)]
        by_cases k2 : g'.1 44 p = 0
        · rw [if_pos k2, if_pos k2, isIn_r (show p < 36 by omega) ha he, Option.bind_some]
          by_cases k3 : wi (g'.1 31 p).toInt a (a + e) = 0
          · rw [if_pos k3, if_pos k3, vlE, nI_1]
          · rw [if_neg k3, if_neg k3, ck_lit (show p < 36 by omega) (by decide), vlE, narb1, ← e20, d1, Option.bind_some]
            show (if nI n = nI l - 1 then _ else _) = _
            by_cases k4 : n + 1 = l
            · rw [if_pos (pe.mpr k4), if_pos k4, ck_lit (show b < 12 by omega) (by decide), vlE, vlE, nI_1]
            · rw [if_neg (fun z => k4 (pe.mp z)), if_neg k4, ck_lit (show p < 36 by omega) (by decide), vlE, vlE, narb0, nI_1]
        · rw [if_neg k2, if_neg k2, vlE, nI_1]
    show ∃ s', ff_X12_layParade_B48 (nI a) (nI e) (nI l) (nI (2 ^ B - 2 ^ (b + 1))) (nI b) (nI p) g' = some (.inl s') ∧ _
    rw [E]
    have hc39 := hcan b p hb hp
    have keep : ¬ cnd can B b F l p → ∃ s' : Int32 × vv_H, (some (.inl (nI (p + 1), g')) : Option ((Int32 × vv_H) ⊕ vv_H)) = some (.inl s') ∧ ∃ g', s' = (nI (p + 1), g') ∧ frG gr g' ∧ (∀ i, i ≠ b → g'.1 45 i = g.1 45 i) ∧ ((g'.1 45 b = -4 ∧ g'.1 44 = g.1 44 ∧ ∀ q, q < p + 1 → ¬ cnd can B b F l q) ∨ (∃ q, q < P ∧ g'.1 45 b = nI q ∧ cnd can B b F l q ∧ (∀ x, x < q → ¬ cnd can B b F l x) ∧ g'.1 44 q = 1 ∧ ∀ x, x ≠ q → g'.1 44 x = g.1 44 x)) := fun hn => ⟨_, rfl, g', rfl, a1, a2, Or.inl ⟨c1, c2, stay hn⟩⟩
    by_cases k1 : gr.1 39 (36 * b + p) = 0
    · rw [if_pos k1]
      exact keep fun z => absurd k1 (hc39.mpr z.1)
    rw [if_neg k1]
    by_cases k2 : g'.1 44 p = 0
    case neg =>
      rw [if_neg k2]
      exact keep fun z => k2 (fF.mp z.2.1).1
    rw [if_pos k2]
    rcases wi_01 (g'.1 31 p).toInt a (a + e) with ⟨k3, k4⟩ | ⟨k3, k4⟩
    case inr =>
      rw [k3, if_pos rfl]
      exact keep fun z => k4 (fF.mp z.2.1).2
    rw [k3, if_neg (by decide)]
    have g2245 : ∀ i, g22.1 45 i = g'.1 45 i := fun i => by rw [d2.2 45 i (by omega), e20, vv_iu_ne (by omega)]
    have g2244 : ∀ x, g22.1 44 x = if x = p then 1 else g.1 44 x := fun x => by
      rw [d2.2 44 x (by omega), e20, vv_iu_e, c2]
      by_cases d : x = p
      · rw [if_pos ⟨rfl, d⟩, if_pos d]
      · rw [if_neg (fun z => d z.2), if_neg d]
    by_cases k5 : n + 1 = l
    · rw [if_pos k5]
      refine ⟨_, rfl, vv_iu g22 45 b (nI p), rfl, ⟨fr22.1, fun k j hk => by rw [vv_iu_ne (by omega)]; exact fr22.2 k j hk⟩, fun i hi => by rw [vv_iu_nj hi, g2245]; exact a2 i hi, Or.inr ⟨p, hp, vv_iu_eq, Cp.mpr ⟨hc39.mp k1, fF.mpr ⟨k2, k4⟩, k5⟩, c3, by rw [vv_iu_ne (by omega), g2244, if_pos rfl], fun x hx => by rw [vv_iu_ne (by omega), g2244, if_neg hx]⟩⟩
    · rw [if_neg k5]
      refine ⟨_, rfl, vv_iu g22 44 p 0, rfl, ⟨fr22.1, fun k j hk => by rw [vv_iu_ne (by omega)]; exact fr22.2 k j hk⟩, fun i hi => by rw [vv_iu_ne (by omega), g2245]; exact a2 i hi, Or.inl ⟨by rw [vv_iu_ne (by omega), g2245]; exact c1, ?_, stay fun z => k5 (Cp.mp z).2.2⟩⟩
      funext x
      rw [vv_iu_e, g2244]
      by_cases d : x = p
      · rw [if_pos ⟨rfl, d⟩, d, ← c2, k2]
      · rw [if_neg (fun z => d z.2), if_neg d]
  obtain ⟨g', e1, f1, f2, f3⟩ := hL
  rcases f3 with ⟨h1, h2, h3⟩ | ⟨q, q1, q2, q3, q4, q5, q6⟩
  · refine ⟨-4, g', F, l, e1, f1, h1, f2, Or.inr ⟨rfl, fun p hp => h3 p (hcP b p hp.1) hp, fun _ => Iff.rfl, rfl⟩, fun x hx => ?_⟩
    rw [hF x hx]
    unfold frr
    rw [h2, f1.2 31 x (by omega), fg.2 31 x (by omega)]
  · obtain ⟨n, n1, n2⟩ := q3.2.2
    refine ⟨nI q, g', fun x => F x ∧ x ≠ q, l - 1, e1, f1, q2, f2, Or.inl ⟨q, rfl, by omega, q3, q4, fun _ => Iff.rfl, by omega⟩, fun x hx => ?_⟩
    show F x ∧ x ≠ q ↔ _
    rw [hF x hx]
    unfold frr
    rw [f1.2 31 x (by omega), fg.2 31 x (by omega)]
    by_cases d : x = q
    · rw [d, q5]
      exact ⟨fun z => absurd rfl z.2, fun z => absurd z.1 (by decide)⟩
    · rw [q6 x d]
      exact ⟨fun z => z.1, fun z => ⟨z, d⟩⟩
