/-- what the parade changes in the component behind laying out -/
def frK (h g : vv_H) : Prop := g.2.2 = h.2.2 ∧ g.2.1 171 = h.2.1 171 ∧ g.2.1 175 = h.2.1 175 ∧ (∀ k j, ¬ (k = 170 ∧ j ≤ 1) → ¬ (172 ≤ k ∧ k ≤ 174) → g.1 k j = h.1 k j)
theorem frK_rf (h : vv_H) : frK h h := ⟨rfl, rfl, rfl, fun _ _ _ _ => rfl⟩
theorem frK_D {h g g' : vv_H} (q : frK h g) (d : frD g g') : frK h g' := ⟨by rw [d.1]; exact q.1, by rw [d.1]; exact q.2.1, by rw [d.1]; exact q.2.2.1, fun k j h1 h2 => (d.2 k j h2).trans (q.2.2.2 k j h1 h2)⟩
theorem rlc_K {h g : vv_H} (q : g.2.1 171 = h.2.1 171) (w : Int64) : rlc g w = rlc h w := by
  funext b p
  unfold rlc
  rw [q]
theorem win_K {h g : vv_H} (q : g.2.1 175 = h.2.1 175) (a e : Int32) : ff_X3_windowFrom g a e = ff_X3_windowFrom h a e := by
  simp only [ff_X3_windowFrom, ff_X3_windowFrom_B5, q]
theorem tb_n {w : Int64} (h : ∀ i, 36 ≤ i → ¬ tb w i = true) : ∃ x, x < 2 ^ 36 ∧ w = lN x ∧ ∀ i, dg x i = 1 ↔ tb w i = true := by
  refine ⟨w.toBitVec.toNat, ?_, ?_, fun i => dg_tb _ i⟩
  · refine Nat.lt_pow_two_of_testBit _ fun i hi => ?_
    have := h i hi
    show tb w i = false
    cases e : tb w i
    · rfl
    · exact absurd e this
  · refine tb_ext fun i hi => ?_
    rw [tb_lN i hi]
    rfl
theorem all_dg : ∀ B, B < 13 → ∀ b, b ≤ B → ∀ x, x < 12 → dg (2 ^ B - 2 ^ b) x = if b ≤ x ∧ x < B then 1 else 0 := by decide +kernel
theorem all_an : ∀ B, B < 13 → ∀ b, b < B → nI (2 ^ B - 2 ^ b) &&& (((1 : Int32) <<< (nI b &&& 31)) ^^^ (-1 : Int32)) = nI (2 ^ B - 2 ^ (b + 1)) := by decide +kernel
theorem all_1 : ∀ B, B < 13 → ((1 : Int32) <<< (nI B &&& 31)) - 1 = nI (2 ^ B - 2 ^ 0) := by decide +kernel
theorem all_lt {B b : Nat} (hB : B < 13) : 2 ^ B - 2 ^ b < 2 ^ 31 := by
  have h1 : 2 ^ B ≤ 2 ^ 12 := Nat.pow_le_pow_right (by decide) (by omega)
  have h2 := Nat.sub_le (2 ^ B) (2 ^ b)
  omega
/-- both relations are one -/
theorem rel_eq {c r gc gr : vv_H} (H : RR c r) (Hg : RR c gr) {P B N a e : Nat} {kind : Int32} {w : Int64} (eN : c.1 22 0 = nI N) (hN : N < 13) (eP : c.1 156 0 = nI P) (hP : P < 37) (hB : B < 13) (hl : lay c gc P B kind N 0) (hw : ∀ x, tb w x = true ↔ off c P kind x ∧ (a : Int) ≤ (c.1 159 x).toInt ∧ (c.1 159 x).toInt ≤ a + e) (h44 : ∀ p, p < P → gr.1 44 p = 0) (h39 : ∀ b p, b < B → p < P → cgo c gr P kind b p) : ∀ b, b < B → ∀ p, rlr gr P a e b p ↔ rlc gc w b p := by
  have hsz : ∀ x, off c P kind x → szo c x < N := fun x h1 => by
    have hx : (x : Int) < (c.1 156 0).toInt := by rw [eP, nI_toInt (by omega)]; have := h1.1; omega
    have hsz := (H.2.2.1.1 x hx).1
    have hz := H.b (k := 157) (j := x) rfl
    obtain ⟨sz, k1, k2⟩ := to_nI (n := 12) hz.1 (by omega) (by decide)
    rw [k2, eN, nI_toInt (by omega), nI_toInt (by omega)] at hsz
    unfold szo
    rw [k2, nI_clamp (by omega)]
    omega
  intro b hb p
  unfold rlr rlc frr
  rw [hl.2.2.2.1 b p (by omega), hw p, rel_a159 Hg.1]
  constructor
  · rintro ⟨h1, h2, h3, h4⟩
    obtain ⟨k1, k2⟩ := (h39 b p hb h1).mp h2
    exact ⟨⟨hb, k1, k2, Or.inl (hsz p k1)⟩, k1, h4⟩
  · rintro ⟨⟨_, k1, k2, _⟩, _, k3⟩
    exact ⟨k1.1, (h39 b p hb k1.1).mpr ⟨k1, k2⟩, h44 p k1.1, k3⟩
theorem shade_two {c r gc gr : vv_H} (H : RR c r) (Hg : RR c gr) {P B N e : Nat} {kind : Int32} (eN : c.1 22 0 = nI N) (hN : N < 13) (eP : c.1 156 0 = nI P) (hP : P < 37) (hB : B < 13) (he : e < 100) (hl : lay c gc P B kind N 0) (eR : gr.1 0 44 = nI P) (eB : gr.1 0 1 = nI B) (h44 : ∀ p, p < P → gr.1 44 p = 0) (h39 : ∀ b p, b < B → p < P → cgo c gr P kind b p) (u3 : Int32) : ∃ (g : vv_H) (b : Int32 × Int32 × vv_H), ff_X3_findShade gc (nI e) = some g ∧ vv_lp (fun (zs : Int32 × Int32 × Int32 × vv_H) => ff_X12_parade_B175 (nI e) u3 (nI (2 ^ B - 2 ^ 0)) zs.1 zs.2.1 zs.2.2.1 zs.2.2.2) vv_F ((0 : Int32), (0 : Int32), (0 : Int32), gr) = some b ∧ ∃ m sh g', b = (nI sh, nI m, g') ∧ frK gc g ∧ frJ gr g' ∧ g.1 170 0 = nI m ∧ g.1 170 1 = nI sh ∧ sh < 100 ∧ m ≤ 12 ∧ (m = 0 → sh = 0 ∧ g.2.1 170 3 = 0) ∧ (0 < m → ff_X3_windowFrom gc (nI sh) (nI e) = some (g.2.1 170 3)) := by
  obtain ⟨g0, e0⟩ : ∃ g0, g0 = vv_lu (vv_iu (vv_iu gc 170 0 0) 170 1 0) 170 3 0 := ⟨_, rfl⟩
  have k0 : frK gc g0 := by
    rw [e0]
    refine ⟨rfl, ?_, ?_, fun k j h1 h2 => ?_⟩
    · funext x
      rw [lu_e2, if_neg (by omega)]
      rfl
    · funext x
      rw [lu_e2, if_neg (by omega)]
      rfl
    · show (vv_iu (vv_iu gc 170 0 0) 170 1 0).1 k j = _
      rw [vv_iu_e, if_neg (by omega), vv_iu_e, if_neg (by omega)]
  have c32 : ∀ b p, b < 12 → tb (gc.2.1 171 b) p = true → p < 36 := fun b p hb hp => by
    have := ((hl.2.2.2.1 b p (by omega)).mp hp).2.1.1
    omega
  have X0 : ∀ b, 0 ≤ b ∧ b < B ↔ b < B := fun b => ⟨fun z => z.2, fun z => ⟨Nat.zero_le _, z⟩⟩
  have hL := lp_two (f := fun (zs : Int64 × Int32 × vv_H) => ff_X3_findShade_B20 (nI e) zs.1 zs.2.1 zs.2.2) (g := fun (zs : Int32 × Int32 × Int32 × vv_H) => ff_X12_parade_B175 (nI e) u3 (nI (2 ^ B - 2 ^ 0)) zs.1 zs.2.1 zs.2.2.1 zs.2.2.2) (fun a s t => ∃ (before : Int64) (g g' : vv_H) (m sh : Nat), s = (before, nI a, g) ∧ t = (nI sh, nI m, nI a, g') ∧ frK gc g ∧ frJ gr g' ∧ g.1 170 0 = nI m ∧ g.1 170 1 = nI sh ∧ sh < 100 ∧ m ≤ 12 ∧ (m = 0 → sh = 0 ∧ g.2.1 170 3 = 0) ∧ (0 < m → ff_X3_windowFrom gc (nI sh) (nI e) = some (g.2.1 170 3)) ∧ ∀ n, good (rlc gc before) (fun b => b < B) n → n ≤ m) (fun g b => ∃ m sh g', b = (nI sh, nI m, g') ∧ frK gc g ∧ frJ gr g' ∧ g.1 170 0 = nI m ∧ g.1 170 1 = nI sh ∧ sh < 100 ∧ m ≤ 12 ∧ (m = 0 → sh = 0 ∧ g.2.1 170 3 = 0) ∧ (0 < m → ff_X3_windowFrom gc (nI sh) (nI e) = some (g.2.1 170 3))) 100 ?hs ?he vv_F 0 ((0 : Int64), (0 : Int32), g0) ((0 : Int32), (0 : Int32), (0 : Int32), gr) ⟨0, g0, gr, 0, 0, rfl, rfl, k0, frJ_rf gr, by rw [e0]; show (vv_iu (vv_iu gc 170 0 0) 170 1 0).1 170 0 = _; rw [vv_iu_nj (by omega), vv_iu_eq]; rfl, by rw [e0]; show (vv_iu (vv_iu gc 170 0 0) 170 1 0).1 170 1 = _; rw [vv_iu_eq]; rfl, by decide, by decide, fun _ => ⟨rfl, by rw [e0, lu_e2, if_pos ⟨rfl, rfl⟩]⟩, fun z => absurd z (by decide), fun n hn => ?h0⟩ (by decide) (vv_F_lt (by decide))
  case h0 =>
    have := good_pc hn (m := 36) (fun _ => False) fun b p hp => by
      have := hp.2
      rw [tb_0] at this
      cases this
    have z : ∀ k, cu (fun _ => ib False) k = 0 := fun k => by
      induction k with
      | zero => rfl
      | succ k ih =>
        show cu (fun _ => ib False) k + ib False = 0
        rw [ih, ib_0 id]
    have t : n ≤ cu (fun _ => ib False) 36 := this
    rw [z 36] at t
    omega
  case he =>
    rintro s t ⟨before, g, g', m, sh, rfl, rfl, a1, a2, a3, a4, a5, a6, a7, a8, _⟩
    refine ⟨g, (nI sh, nI m, g'), ?_, ?_, m, sh, g', rfl, a1, a2, a3, a4, a5, a6, a7, a8⟩
    · show ff_X3_findShade_B20 (nI e) before (nI 100) g = _
      unfold ff_X3_findShade_B20
      rw [if_pos (by decide)]
    · show ff_X12_parade_B175 (nI e) u3 (nI (2 ^ B - 2 ^ 0)) (nI sh) (nI m) (nI 100) g' = _
      unfold ff_X12_parade_B175
      rw [if_pos (by decide)]
  case hs =>
    rintro a s t ha ⟨before, g, g', m, sh, rfl, rfl, a1, a2, a3, a4, a5, a6, a7, a8, a9⟩
    left
    obtain ⟨w, w1, w2⟩ := window_l H eN hN eP hP hl ha he
    have w1' : ff_X3_windowFrom g (nI a) (nI e) = some w := by rw [win_K a1.2.2.1]; exact w1
    have e100 : ¬ (100 : Int32) ≤ nI a := nI_nle' ha (by decide)
    -- the reference's number
    obtain ⟨n, g2, m1, m2, m3, m4⟩ := most_r (h := g') (P := P) (B := B) (a := a) (e := e) (s := 2 ^ B - 2 ^ 0) (by omega) (by rw [a2.2 0 44 (by omega), eR]) (by omega) (by rw [a2.2 0 1 (by omega), eB]) ha he (all_lt hB)
    have relg : rlr g' P a e = rlr gr P a e := by
      funext b p
      unfold rlr frr
      rw [a2.2 39 _ (by omega), a2.2 44 _ (by omega), a2.2 31 _ (by omega)]
    rw [relg] at m3
    have G : good (rlc gc w) (fun b => b < B) n := by
      refine good_X (good_cg m3 (fun _ _ => Iff.rfl) fun b => ⟨fun z => z.1, fun z => ⟨z, ?_⟩⟩) fun b hb p => rel_eq H Hg eN hN eP hP hB hl w2 h44 h39 b hb p
      rw [all_dg B hB 0 (Nat.zero_le _) b (by omega), if_pos ⟨Nat.zero_le _, z⟩]
    have R : ff_X12_parade_B175 (nI e) u3 (nI (2 ^ B - 2 ^ 0)) (nI sh) (nI m) (nI a) g' = if n ≤ m then some (.inl (nI sh, nI m, nI (a + 1), g2)) else some (.inl (nI a, nI n, nI (a + 1), g2)) := by
      have le : (nI n ≤ nI m) ↔ n ≤ m := nI_leI (by omega) (by omega)
      unfold ff_X12_parade_B175
      rw [if_neg e100, m1, Option.bind_some]
      show (if nI n ≤ nI m then ff_X12_parade_J207 _ _ _ (nI m) (nI a) (nI n) (nI sh) g2 else ff_X12_parade_J207 _ _ _ (nI m) (nI a) (nI n) (nI a) g2) = _
      unfold ff_X12_parade_J207
      by_cases d : n ≤ m
      · rw [if_pos (le.mpr d), if_pos (le.mpr d), if_pos d, vlE, nI_1]
      · rw [if_neg (fun z => d (le.mp z)), if_neg (fun z => d (le.mp z)), if_neg d, vlE, nI_1]
    have ng : ∀ k, good (rlc gc w) (fun b => b < B) k → k = n := fun k hk => good_one hk G
    by_cases c0 : w = before
    · have hle : n ≤ m := a9 n (by rw [← c0]; exact G)
      have E : ff_X3_findShade_B20 (nI e) before (nI a) g = some (.inl (w, nI (a + 1), g)) := by
        unfold ff_X3_findShade_B20
        rw [if_neg e100, w1', Option.bind_some, if_pos ((lg_cmp_eq w before).mpr c0), vlE, nI_1]
      rw [if_pos hle] at R
      exact ⟨_, _, E, R, w, g, g2, m, sh, rfl, rfl, a1, frJ_tr a2 m2, a3, a4, a5, a6, a7, a8, fun k hk => by rw [ng k hk]; exact hle⟩
    · obtain ⟨x, x1, x2, x3⟩ := tb_n (w := w) fun i hi hb => by
        have := ((w2 i).mp hb).1.1
        omega
      have pop := pop_l x1
      rw [← x2] at pop
      have np : n ≤ cu (dg x) 36 := by
        have := good_pc G (m := 36) (fun p => tb w p = true) fun b p hp => ⟨by have := ((w2 p).mp hp.2).1.1; omega, hp.2⟩
        rwa [cu_eq 36 (g := dg x) fun i _ => by
          by_cases d : tb w i = true
          · rw [ib_1 d, (x3 i).mpr d]
          · rw [ib_0 d]
            have h1 := dg_1 x i
            have h2 := mt (x3 i).mp d
            omega] at this
      have p36 : cu (dg x) 36 ≤ 36 := cu_le 36 fun i _ => dg_1 x i
      have le1 : (nI (cu (dg x) 36) ≤ nI m) ↔ cu (dg x) 36 ≤ m := nI_leI (by omega) (by omega)
      by_cases c1 : cu (dg x) 36 ≤ m
      · have hle : n ≤ m := by omega
        have E : ff_X3_findShade_B20 (nI e) before (nI a) g = some (.inl (w, nI (a + 1), g)) := by
          unfold ff_X3_findShade_B20
          rw [if_neg e100, w1', Option.bind_some, if_neg (fun z => c0 ((lg_cmp_eq w before).mp z)), pop, Option.bind_some, a3, if_pos (le1.mpr c1), vlE, nI_1]
        rw [if_pos hle] at R
        exact ⟨_, _, E, R, w, g, g2, m, sh, rfl, rfl, a1, frJ_tr a2 m2, a3, a4, a5, a6, a7, a8, fun k hk => by rw [ng k hk]; exact hle⟩
      · obtain ⟨n', g3, d1, d2, d3, d4⟩ := dressable_c (h := g) (free := w) (f := 0) (B := B) (by omega) (by rw [a1.2.2.2 170 2 (by omega) (by omega)]; exact hl.2.2.1) (Nat.zero_le _) (fun b p hb hp => c32 b p hb (by rw [← a1.2.1]; exact hp)) (fun p hp => by have := ((w2 p).mp hp).1.1; omega)
        rw [rlc_K a1.2.1] at d3
        obtain rfl := ng n' (good_cg d3 (fun _ _ => Iff.rfl) X0)
        have g30 : g3.1 170 0 = nI m := by rw [d2.2 170 0 (by omega), a3]
        have le2 : (nI n' ≤ nI m) ↔ n' ≤ m := nI_leI (by omega) (by omega)
        have KB : ff_X3_keepBetter g (nI a) w = if n' ≤ m then some g3 else some (vv_lu (vv_iu (vv_iu g3 170 0 (nI n')) 170 1 (nI a)) 170 3 w) := by
          unfold ff_X3_keepBetter
          rw [show (0 : Int32) = nI 0 from rfl, d1, Option.bind_some]
          show (if nI n' ≤ g3.1 170 0 then _ else _) = _
          rw [g30]
          by_cases d : n' ≤ m
          · rw [if_pos (le2.mpr d), if_pos d]
          · rw [if_neg (fun z => d (le2.mp z)), if_neg d, vlE, vlE, vlE]
        have FS : ff_X3_findShade_B20 (nI e) before (nI a) g = (ff_X3_keepBetter g (nI a) w).bind (fun r15 => some (.inl (w, nI (a + 1), r15))) := by
          unfold ff_X3_findShade_B20
          rw [if_neg e100, w1', Option.bind_some, if_neg (fun z => c0 ((lg_cmp_eq w before).mp z)), pop, Option.bind_some, a3, if_neg (fun z => c1 (le1.mp z)), nI_1]
          rfl
        rw [KB] at FS
        by_cases d : n' ≤ m
        · rw [if_pos d, Option.bind_some] at FS
          rw [if_pos d] at R
          exact ⟨_, _, FS, R, w, g3, g2, m, sh, rfl, rfl, frK_D a1 d2, frJ_tr a2 m2, g30, by rw [d2.2 170 1 (by omega), a4], a5, a6, fun z => ⟨(a7 z).1, by rw [d2.1]; exact (a7 z).2⟩, fun z => by rw [d2.1]; exact a8 z, fun k hk => by rw [ng k hk]; exact d⟩
        · rw [if_neg d, Option.bind_some] at FS
          rw [if_neg d] at R
          have kD := frK_D a1 d2
          refine ⟨_, _, FS, R, w, _, g2, n', a, rfl, rfl, ⟨kD.1, ?_, ?_, fun k j h1 h2 => ?_⟩, frJ_tr a2 m2, ?_, ?_, ha, d4, fun z => absurd z (by omega), fun _ => by rw [lu_e2, if_pos ⟨rfl, rfl⟩]; exact w1, fun k hk => by rw [ng k hk]; exact Nat.le_refl _⟩
          · rw [← kD.2.1]
            funext y
            rw [lu_e2, if_neg (by omega)]
            rfl
          · rw [← kD.2.2.1]
            funext y
            rw [lu_e2, if_neg (by omega)]
            rfl
          · show (vv_iu (vv_iu g3 170 0 (nI n')) 170 1 (nI a)).1 k j = _
            rw [vv_iu_e, if_neg (by omega), vv_iu_e, if_neg (by omega)]
            exact kD.2.2.2 k j h1 h2
          · show (vv_iu (vv_iu g3 170 0 (nI n')) 170 1 (nI a)).1 170 0 = _
            rw [vv_iu_nj (by omega), vv_iu_eq]
          · show (vv_iu (vv_iu g3 170 0 (nI n')) 170 1 (nI a)).1 170 1 = _
            rw [vv_iu_eq]
  obtain ⟨g, b, e1, e2, hJ⟩ := hL
  refine ⟨g, b, ?_, e2, hJ⟩
  unfold ff_X3_findShade
  rw [vlE, vlE, vlE, ← e0, e1, Option.bind_some]
