/-- body b may have the piece p: then as many are dressed as should be -/
def cnd (can : Nat → Nat → Prop) (B b : Nat) (F : Nat → Prop) (l p : Nat) : Prop := can b p ∧ F p ∧ ∃ n, good (fun b' x => can b' x ∧ F x ∧ x ≠ p) (fun x => b < x ∧ x < B) n ∧ n + 1 = l
def stR (can : Nat → Nat → Prop) (B b : Nat) (F : Nat → Prop) (l : Nat) (R : Int32) (F' : Nat → Prop) (l' : Nat) : Prop :=
  (∃ p, R = nI p ∧ p < 36 ∧ cnd can B b F l p ∧ (∀ q, q < p → ¬ cnd can B b F l q) ∧ (∀ x, F' x ↔ F x ∧ x ≠ p) ∧ l' + 1 = l) ∨ (R = -4 ∧ (∀ p, ¬ cnd can B b F l p) ∧ (∀ x, F' x ↔ F x) ∧ l' = l)
theorem cnd_cg {can : Nat → Nat → Prop} {B b : Nat} {F G : Nat → Prop} {l p : Nat} (h : ∀ x, F x ↔ G x) : cnd can B b F l p ↔ cnd can B b G l p := by
  rw [show F = G from funext fun x => propext (h x)]
theorem stR_one {can : Nat → Nat → Prop} {B b : Nat} {F G : Nat → Prop} {l : Nat} {R R2 : Int32} {F' G' : Nat → Prop} {l' l2 : Nat} (h1 : stR can B b F l R F' l') (h2 : stR can B b G l R2 G' l2) (h : l = 0 ∨ ∀ x, F x ↔ G x) : R = R2 ∧ l' = l2 ∧ (l' = 0 ∨ ∀ x, F' x ↔ G' x) := by
  rcases h with rfl | h
  · rcases h1 with ⟨p, _, _, _, _, _, k⟩ | ⟨r1, _, _, r2⟩
    · omega
    rcases h2 with ⟨p, _, _, _, _, _, k⟩ | ⟨s1, _, _, s2⟩
    · omega
    exact ⟨r1.trans s1.symm, r2.trans s2.symm, Or.inl r2⟩
  · have hc : ∀ p, cnd can B b F l p ↔ cnd can B b G l p := fun p => cnd_cg h
    rcases h1 with ⟨p, a1, a2, a3, a4, a5, a6⟩ | ⟨a1, a2, a3, a4⟩ <;> rcases h2 with ⟨q, b1, b2, b3, b4, b5, b6⟩ | ⟨b1, b2, b3, b4⟩
    · have e : p = q := by
        rcases Nat.lt_trichotomy p q with k | k | k
        · exact absurd ((hc p).mp a3) (b4 p k)
        · exact k
        · exact absurd ((hc q).mpr b3) (a4 q k)
      subst e
      refine ⟨a1.trans b1.symm, by omega, Or.inr fun x => ?_⟩
      rw [a5, b5, h]
    · exact absurd ((hc p).mp a3) (b2 p)
    · exact absurd ((hc q).mpr b3) (a2 q)
    · refine ⟨a1.trans b1.symm, by omega, Or.inr fun x => ?_⟩
      rw [a3, b3, h]
theorem pred_eq {n l : Nat} (hn : n < 100) (hl : l < 100) : (nI n = nI l - 1) ↔ n + 1 = l := by
  rcases Nat.eq_zero_or_pos l with rfl | h
  · constructor
    · intro e
      have := nI_toInt (show n < 2 ^ 31 by omega)
      rw [e, show (nI 0 - 1).toInt = -1 from rfl] at this
      omega
    · intro e
      omega
  · obtain ⟨k, rfl⟩ : ∃ k, l = k + 1 := ⟨l - 1, by omega⟩
    rw [nI_pred, nI_eq (by omega) (by omega)]
    omega
theorem least_p {gc g : vv_H} {B b l : Nat} {free : Int64} {F : Nat → Prop} (k : frK gc g) (hB : B < 13) (eB : gc.1 170 2 = nI B) (hb : b < B) (hl : l < 100) (h36 : ∀ b p, b < 12 → tb (gc.2.1 171 b) p = true → p < 36) (hF : ∀ x, tb free x = true ↔ F x) (hF36 : ∀ x, F x → x < 36) : ∃ R g', ff_X3_leastPiece g (nI b) free (nI l) = some (R, g') ∧ frK gc g' ∧ frD g g' ∧ ((∃ p, R = nI p ∧ p < 36 ∧ cnd (fun b p => tb (gc.2.1 171 b) p = true) B b F l p ∧ ∀ q, q < p → ¬ cnd (fun b p => tb (gc.2.1 171 b) p = true) B b F l q) ∨ (R = -4 ∧ ∀ p, ¬ cnd (fun b p => tb (gc.2.1 171 b) p = true) B b F l p)) := by
  obtain ⟨C, hC⟩ : ∃ C : Nat → Prop, C = fun p => cnd (fun b p => tb (gc.2.1 171 b) p = true) B b F l p := ⟨_, rfl⟩
  have hCi : ∀ p, cnd (fun b p => tb (gc.2.1 171 b) p = true) B b F l p ↔ C p := fun p => by rw [hC]
  simp only [hCi]
  have hL := lp_count (f := fun (zs : Int64 × Int32 × vv_H) => ff_X3_leastPiece_B13 (nI b) free (nI l) zs.1 zs.2.1 zs.2.2) (fun t z => ∃ (tr : Int64) (g' : vv_H), z = (tr, nI t, g') ∧ frD g g' ∧ (∀ x, tb tr x = true → tb (gc.2.1 171 b) x = true ∧ F x ∧ t ≤ x) ∧ ∀ x, tb (gc.2.1 171 b) x = true → F x → ¬ tb tr x = true → ¬ C x) (fun a => (∃ g', a = .inl g' ∧ frD g g' ∧ ∀ p, ¬ C p) ∨ (∃ p g', a = .inr (lN (2 ^ p), g') ∧ frD g g' ∧ p < 36 ∧ C p ∧ ∀ q, q < p → ¬ C q)) 36 ?hs ?he vv_F 0 (g.2.1 171 b &&& free, (0 : Int32), g) ⟨_, g, rfl, frD_rf g, fun x hx => ?h0, fun x h1 h2 h3 => ?h1⟩ (by decide) (vv_F_lt (by decide))
  case h0 =>
    rw [tb_and, Bool.and_eq_true, k.2.1] at hx
    exact ⟨hx.1, (hF x).mp hx.2, Nat.zero_le _⟩
  case h1 =>
    refine absurd ?_ h3
    rw [tb_and, Bool.and_eq_true, k.2.1]
    exact ⟨h1, (hF x).mpr h2⟩
  case he =>
    rintro z ⟨tr, g', rfl, a1, a2, a3⟩
    refine ⟨.inl g', ?_, Or.inl ⟨g', rfl, a1, fun p hp => ?_⟩⟩
    · show ff_X3_leastPiece_B13 (nI b) free (nI l) tr (nI 36) g' = _
      unfold ff_X3_leastPiece_B13
      rw [if_pos (by decide)]
    · have hp' := (hCi p).mpr hp
      refine a3 p hp'.1 hp'.2.1 (fun q => ?_) hp
      have := (a2 p q).2.2
      have := hF36 p hp'.2.1
      omega
  case hs =>
    rintro t z ht ⟨tr, g', rfl, a1, a2, a3⟩
    have e36 : ¬ (36 : Int32) ≤ nI t := nI_nle' ht (by decide)
    by_cases c0 : tr = 0
    · right
      refine ⟨.inl g', ?_, Or.inl ⟨g', rfl, a1, fun p hp => ?_⟩⟩
      · show ff_X3_leastPiece_B13 (nI b) free (nI l) tr (nI t) g' = _
        unfold ff_X3_leastPiece_B13
        rw [if_neg e36, if_pos ((lg_cmp_eq tr 0).mpr c0)]
      · have hp' := (hCi p).mpr hp
        exact a3 p hp'.1 hp'.2.1 (by rw [c0, tb_0]; decide) hp
    · obtain ⟨p, p1, p2, p3, p4, p5, p6⟩ := low_b c0
      obtain ⟨q1, q2, q3⟩ := a2 p p2
      have p36 := hF36 p q2
      obtain ⟨fr', efr⟩ : ∃ w : Int64, w = free &&& (lN (2 ^ p) ^^^ (-1)) := ⟨_, rfl⟩
      have tfr : ∀ x, tb fr' x = true ↔ F x ∧ x ≠ p := fun x => by
        by_cases hx : x < 64
        · rw [efr, tb_and, Bool.and_eq_true, tb_not _ hx, tb_p hx, hF]
          refine ⟨fun z => ⟨z.1, fun e => ?_⟩, fun z => ⟨z.1, ?_⟩⟩
          · rw [decide_eq_true e.symm] at z
            exact absurd z.2 (by decide)
          · rw [decide_eq_false (fun e => z.2 e.symm)]
            rfl
        · rw [tb_hi _ (by omega)]
          exact ⟨fun z => absurd z (by decide), fun z => by have := hF36 x z.1; omega⟩
      have k' : frK gc g' := frK_D k a1
      obtain ⟨n, g3, d1, d2, d3, d4⟩ := dressable_c (h := g') (free := fr') (f := b + 1) (B := B) (by omega) (by rw [k'.2.2.2 170 2 (by omega) (by omega)]; exact eB) (by omega) (fun b p hb hp => h36 b p hb (by rw [← k'.2.1]; exact hp)) (fun x hx => hF36 x ((tfr x).mp hx).1)
      have d3' : good (fun b' x => tb (gc.2.1 171 b') x = true ∧ F x ∧ x ≠ p) (fun x => b < x ∧ x < B) n := good_cg d3 (fun b' x => by
        unfold rlc
        rw [k'.2.1, tfr]) fun x => ⟨fun z => ⟨by omega, z.2⟩, fun z => ⟨by omega, z.2⟩⟩
      have Cp : C p ↔ n + 1 = l := by
        rw [← hCi]
        exact ⟨fun z => by
          obtain ⟨m, m1, m2⟩ := z.2.2
          rw [good_one d3' m1]
          exact m2, fun z => ⟨q1, q2, n, d3', z⟩⟩
      have E : ff_X3_leastPiece_B13 (nI b) free (nI l) tr (nI t) g' = if n + 1 = l then some (.inr (.inr (lN (2 ^ p), g3))) else some (.inl (tr &&& (lN (2 ^ p) ^^^ (-1)), nI (t + 1), g3)) := by
        have pe := pred_eq (n := n) (l := l) (by omega) hl
        unfold ff_X3_leastPiece_B13
        rw [if_neg e36, if_neg (fun z => c0 ((lg_cmp_eq tr 0).mp z)), vlE, p4, nI_1, ← efr, d1, Option.bind_some]
        show (if nI n = nI l - 1 then _ else _) = _
        by_cases d : n + 1 = l
        · rw [if_pos (pe.mpr d), if_pos d]
        · rw [if_neg (fun z => d (pe.mp z)), if_neg d, vlE, vlE, nI_1]
      by_cases d : n + 1 = l
      · right
        rw [if_pos d] at E
        refine ⟨.inr (lN (2 ^ p), g3), E, Or.inr ⟨p, g3, rfl, frD_tr a1 d2, p36, Cp.mpr d, fun q hq hc => ?_⟩⟩
        have hq' := (hCi q).mpr hc
        exact a3 q hq'.1 hq'.2.1 (by rw [p3 q hq]; decide) hc
      · left
        rw [if_neg d] at E
        have tr' : ∀ x, tb (tr &&& (lN (2 ^ p) ^^^ (-1))) x = true ↔ tb tr x = true ∧ x ≠ p := fun x => by
          by_cases hx : x < 64
          · rw [tb_and, Bool.and_eq_true, tb_not _ hx, tb_p hx]
            refine ⟨fun z => ⟨z.1, fun e => ?_⟩, fun z => ⟨z.1, ?_⟩⟩
            · rw [decide_eq_true e.symm] at z
              exact absurd z.2 (by decide)
            · rw [decide_eq_false (fun e => z.2 e.symm)]
              rfl
          · rw [tb_hi _ (by omega), tb_hi _ (by omega)]
            exact ⟨fun z => absurd z (by decide), fun z => absurd z.1 (by decide)⟩
        refine ⟨_, E, _, g3, rfl, frD_tr a1 d2, fun x hx => ?_, fun x h1 h2 h3 => ?_⟩
        · obtain ⟨x1, x2⟩ := (tr' x).mp hx
          obtain ⟨y1, y2, y3⟩ := a2 x x1
          refine ⟨y1, y2, ?_⟩
          have : ¬ x < p := fun z => by
            rw [p3 x z] at x1
            cases x1
          omega
        · by_cases e : x = p
          · rw [e, Cp]
            exact d
          · exact a3 x h1 h2 fun z => h3 ((tr' x).mpr ⟨z, e⟩)
  obtain ⟨a, e1, hJ⟩ := hL
  have E : ff_X3_leastPiece g (nI b) free (nI l) = (some a).bind (Sum.elim (fun (e13 : (vv_H)) => some ((-4 : Int32), e13)) (fun (e14 : (Int64 × vv_H)) => (ff_J13_bitCount_95d88 (e14.1 - (1 : Int64))).bind (fun r15 => some (r15, e14.2)))) := by
    unfold ff_X3_leastPiece
    rw [ck_lit (show b < 32 by omega) (by decide), vlE, nI_clamp (by omega), e1]
  rw [Option.bind_some] at E
  rcases hJ with ⟨g', rfl, g1, g2⟩ | ⟨p, g', rfl, g1, g2, g3, g4⟩
  · exact ⟨-4, g', E, frK_D k g1, g1, Or.inr ⟨rfl, g2⟩⟩
  · rw [Sum.elim_inr, bcl p (by omega), Option.bind_some] at E
    exact ⟨nI p, g', E, frK_D k g1, g1, Or.inl ⟨p, rfl, g2, g3, g4⟩⟩
