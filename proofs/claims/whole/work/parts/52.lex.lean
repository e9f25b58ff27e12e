/-- the bytes of the tape -/
def wb (r : vv_H) (j : Nat) : Nat := (r.1 13 j).toNatClampNeg
def sx (x : Nat) : Int32 := (nI x).toInt8.toInt32
def LET (x : Nat) : Prop := 97 ≤ x ∧ x ≤ 122
def FIG (x : Nat) : Prop := 48 ≤ x ∧ x ≤ 57
theorem sx_a : ∀ x, x < 256 → (ff_X10_isLetter (sx x) = some (if 97 ≤ x ∧ x ≤ 122 then 1 else 0)) ∧ (ff_X10_isFigure (sx x) = some (if 48 ≤ x ∧ x ≤ 57 then 1 else 0)) := by decide +kernel
theorem sx_b : ∀ x, x < 256 → (sx x = 32 ↔ x = 32) ∧ (sx x = 59 ↔ x = 59) ∧ (sx x = 60 ↔ x = 60) ∧ (sx x = 61 ↔ x = 61) ∧ (sx x = 62 ↔ x = 62) := by decide +kernel
theorem sx_c : ∀ x, x < 256 → (x < 128 → sx x = nI x) ∧ (128 ≤ x → sx x < 0) := by decide +kernel
theorem sx_eq {x y : Nat} (hx : x < 256) (hy : y < 128) : sx x = nI y ↔ x = y := by
  rcases Nat.lt_or_ge x 128 with h | h
  · rw [(sx_c x hx).1 h]
    exact nI_eq (by omega) (by omega)
  · have := (sx_c x hx).2 h
    constructor
    · intro e
      rw [e] at this
      exact absurd this (nI_pos (by omega))
    · intro e
      omega
/-- the bytes, seen from both sides -/
def byt (c r : vv_H) (w : Nat → Nat) : Prop := ∀ j, j < 240 → w j < 256 ∧ c.1 51 j = sx (w j) ∧ r.1 13 j = nI (w j)
theorem byt_of {c r : vv_H} (H : RR c r) : byt c r (wb r) := fun j hj => by
  obtain ⟨h1, h2, h3⟩ := H.2.2.2.1 j hj
  obtain ⟨n, hn, e⟩ := to_nI (n := 256) h2 (by omega) (by decide)
  have : wb r j = n := by
    unfold wb
    rw [e, nI_clamp (by omega)]
  rw [this, h1, e]
  exact ⟨hn, rfl, rfl⟩
def slen (i : Nat) : Nat := vv_slen.getD i 0
def chw : List (List Nat) := [[102,114,111,109],[105,115,115,117,101],[108,105,102,101],[112,114,105,99,101],[105,102],[97,110,100],[114,97,110,107],[100,117,116,121],[99,108,105,109,97,116,101]]
def ch (i j : Nat) : Nat := (chw.getD i []).getD j 0
theorem ch_c : ∀ i, i < 9 → ∀ j, j < 8 → vv_sch i j = nI (ch i j) ∧ ch i j < 128 := by decide +kernel
theorem slen_c : ∀ i, i < 9 → slen i < 8 ∧ 0 < slen i := by decide
/-- the word i stands from a up to q -/
def spl (w : Nat → Nat) (i a q : Nat) : Prop := q - a = slen i ∧ ∀ j, j < slen i → w (a + j) = ch i j
theorem spl_a : ∀ i, i < 9 → ∀ k, k < 9 → slen i = slen k → (∀ j, j < slen i → ch i j = ch k j) → i = k := by decide +kernel
theorem spl_one {w : Nat → Nat} {i k a q : Nat} (hi : i < 9) (hk : k < 9) (h1 : spl w i a q) (h2 : spl w k a q) : i = k :=
  spl_a i hi k hk (h1.1.symm.trans h2.1) fun j hj => (h1.2 j hj).symm.trans (h2.2 j (by rw [← h2.1, h1.1]; exact hj))
/-- the run that begins at a goes on with x -/
def cls (w : Nat → Nat) (a x : Nat) : Prop := (LET (w a) ∧ LET x) ∨ (FIG (w a) ∧ FIG x)
def run (w : Nat → Nat) (L a q : Nat) : Prop := a < q ∧ q ≤ L ∧ (∀ j, a < j → j < q → cls w a (w j)) ∧ (q < L → ¬ cls w a (w q))
theorem runB_c {c r : vv_H} {w : Nat → Nat} {L a : Nat} (hb : byt c r w) (hL : L ≤ 240) (eL : c.1 50 0 = nI L) (ha : a < L) : ∃ q, ff_X10_runBehind c (nI a) = some (nI q) ∧ run w L a q := by
  obtain ⟨b1, b2, b3⟩ := hb a (by omega)
  obtain ⟨x1, x2⟩ := sx_a (w a) b1
  have nLF : ¬ (LET (w a) ∧ FIG (w a)) := fun h => by
    have := h.1.1
    have := h.2.2
    omega
  simp (disch := omega) only [ff_X10_runBehind, ck_lit, nI_clamp, b2, x1, x2, Option.bind_some, nI_1]
  have hL := lp_count (f := fun (zs : Int32) => ff_X10_runBehind_B25 (if 97 ≤ w a ∧ w a ≤ 122 then 1 else 0) (if 48 ≤ w a ∧ w a ≤ 57 then 1 else 0) c zs) (fun i s => s = nI (a + 1 + i) ∧ ∀ j, a < j → j < a + 1 + i → cls w a (w j)) (fun s => ∃ q, s = nI q ∧ run w L a q) (L - (a + 1)) ?hs ?he vv_F 0 (nI (a + 1)) ⟨rfl, fun j h1 h2 => by omega⟩ (Nat.zero_le _) (vv_F_lt (by omega))
  case hs =>
    rintro i s hi ⟨rfl, hI⟩
    obtain ⟨y1, y2, y3⟩ := hb (a + 1 + i) (by omega)
    obtain ⟨z1, z2⟩ := sx_a (w (a + 1 + i)) y1
    have stop : ¬ cls w a (w (a + 1 + i)) → ∃ q, nI (a + 1 + i) = nI q ∧ run w L a q := fun h => ⟨_, rfl, by omega, by omega, hI, fun _ => h⟩
    have go : cls w a (w (a + 1 + i)) → ∀ j, a < j → j < a + 1 + (i + 1) → cls w a (w j) := fun h j h1 h2 => by
      rcases Nat.lt_or_ge j (a + 1 + i) with q | q
      · exact hI j h1 q
      · rw [show j = a + 1 + i by omega]
        exact h
    simp (disch := omega) only [ff_X10_runBehind_B25, ff_X10_runBehind_J51, eL, if_neg (nI_nle' (show a + 1 + i < L by omega) (show L < 2 ^ 31 by omega)), ck_lit, nI_clamp, y2, z1, z2, Option.bind_some, vv_let, nI_1]
    by_cases c1 : 97 ≤ w a ∧ w a ≤ 122
    · have c2 : ¬ (48 ≤ w a ∧ w a ≤ 57) := fun h => nLF ⟨c1, h⟩
      simp only [if_pos c1, if_neg c2, show ((1 : Int32) = 0) = False from by decide, if_false, if_true]
      by_cases c3 : 97 ≤ w (a + 1 + i) ∧ w (a + 1 + i) ≤ 122
      · simp only [if_pos c3, show ((1 : Int32) = 0) = False from by decide, if_false]
        exact Or.inl ⟨_, rfl, rfl, go (Or.inl ⟨c1, c3⟩)⟩
      · simp only [if_neg c3, if_true]
        exact Or.inr ⟨_, rfl, stop fun h => h.elim (fun h => c3 h.2) (fun h => c2 h.1)⟩
    · simp only [if_neg c1, if_true]
      by_cases c2 : 48 ≤ w a ∧ w a ≤ 57
      · simp only [if_pos c2, show ((1 : Int32) = 0) = False from by decide, if_false]
        by_cases c3 : 48 ≤ w (a + 1 + i) ∧ w (a + 1 + i) ≤ 57
        · simp only [if_pos c3, show ((1 : Int32) = 0) = False from by decide, if_false]
          exact Or.inl ⟨_, rfl, rfl, go (Or.inr ⟨c2, c3⟩)⟩
        · simp only [if_neg c3, if_true]
          exact Or.inr ⟨_, rfl, stop fun h => h.elim (fun h => c1 h.1) (fun h => c3 h.2)⟩
      · simp only [if_neg c2, if_true]
        exact Or.inr ⟨_, rfl, stop fun h => h.elim (fun h => c1 h.1) (fun h => c2 h.1)⟩
  case he =>
    rintro s ⟨rfl, hI⟩
    have e : a + 1 + (L - (a + 1)) = L := by omega
    rw [e] at hI ⊢
    simp only [ff_X10_runBehind_B25, eL, if_pos (nI_le (Nat.le_refl L) (show L < 2 ^ 31 by omega))]
    exact ⟨_, rfl, L, rfl, ha, Nat.le_refl _, hI, fun h => absurd h (Nat.lt_irrefl _)⟩
  obtain ⟨s, e1, q, rfl, h⟩ := hL
  exact ⟨q, by rw [e1]; rfl, h⟩
theorem spells_c {c r : vv_H} {w : Nat → Nat} {L a q i : Nat} (hb : byt c r w) (hL : L ≤ 240) (hq : q ≤ L) (ha : a ≤ q) (hi : i < 9) : ∃ z, ff_X10_spells c i (nI a) (nI q) = some z ∧ ((z = 1 ∧ spl w i a q) ∨ (z = 0 ∧ ¬ spl w i a q)) := by
  have hs := slen_c i hi
  have el : Int32.ofNat (vv_slen.getD i 0) = nI (slen i) := rfl
  simp only [ff_X10_spells, el, pk_sub ha, nI_eq (show slen i < 2 ^ 31 by omega) (show q - a < 2 ^ 31 by omega)]
  by_cases g : slen i = q - a
  case neg =>
    rw [if_neg g]
    exact ⟨_, rfl, Or.inr ⟨rfl, fun h => g h.1.symm⟩⟩
  rw [if_pos g]
  have hL := lp_count (f := fun (zs : Int32) => ff_X10_spells_B15 i (nI a) c zs) (fun j s => s = nI j ∧ ∀ k, k < j → w (a + k) = ch i k) (fun s => (s = .inl () ∧ spl w i a q) ∨ (s = .inr () ∧ ¬ spl w i a q)) (slen i) ?hs ?he vv_F 0 (0 : Int32) ⟨rfl, fun k hk => absurd hk (Nat.not_lt_zero k)⟩ (Nat.zero_le _) (vv_F_lt (by omega))
  case hs =>
    rintro j s hj ⟨rfl, hI⟩
    obtain ⟨y1, y2, y3⟩ := hb (a + j) (by omega)
    obtain ⟨c1, c2⟩ := ch_c i hi j (by omega)
    have es : vv_slen.getD i 0 = slen i := rfl
    have el2 : Int32.ofNat (slen i) = nI (slen i) := rfl
    simp (disch := omega) only [ff_X10_spells_B15, es, el2, nI_add, if_neg (nI_nle' hj (by omega)), ck_lit, nI_clamp, y2, c1, sx_eq y1 c2, vv_let, nI_1]
    by_cases g2 : w (a + j) = ch i j
    · rw [if_pos g2]
      refine Or.inl ⟨_, rfl, rfl, fun k hk => ?_⟩
      rcases Nat.lt_succ_iff_lt_or_eq.mp hk with q | rfl
      · exact hI k q
      · exact g2
    · rw [if_neg g2]
      exact Or.inr ⟨_, rfl, Or.inr ⟨rfl, fun h => g2 (h.2 j hj)⟩⟩
  case he =>
    rintro s ⟨rfl, hI⟩
    simp only [ff_X10_spells_B15, el, if_pos (nI_le (Nat.le_refl (slen i)) (show slen i < 2 ^ 31 by omega))]
    exact ⟨_, rfl, Or.inl ⟨rfl, g.symm, hI⟩⟩
  obtain ⟨s, e1, h⟩ := hL
  rw [e1]
  rcases h with ⟨rfl, h⟩ | ⟨rfl, h⟩
  · exact ⟨1, rfl, Or.inl ⟨rfl, h⟩⟩
  · exact ⟨0, rfl, Or.inr ⟨rfl, h⟩⟩
/-- the token that the letters from a up to q are -/
def nam (w : Nat → Nat) (a q k : Nat) : Prop := (∃ i, i < 9 ∧ spl w i a q ∧ k = 7 + i) ∨ (k = 1 ∧ ∀ i, i < 9 → ¬ spl w i a q)
theorem name_c {c r : vv_H} {w : Nat → Nat} {L a q : Nat} (hb : byt c r w) (hL : L ≤ 240) (hq : q ≤ L) (ha : a ≤ q) : ∃ k, ff_X10_nameIn c (nI a) (nI q) = some (nI k) ∧ nam w a q k := by
  obtain ⟨z0, e0, h0⟩ := spells_c (i := 0) hb hL hq ha (by decide)
  obtain ⟨z1, e1, h1⟩ := spells_c (i := 1) hb hL hq ha (by decide)
  obtain ⟨z2, e2, h2⟩ := spells_c (i := 2) hb hL hq ha (by decide)
  obtain ⟨z3, e3, h3⟩ := spells_c (i := 3) hb hL hq ha (by decide)
  obtain ⟨z4, e4, h4⟩ := spells_c (i := 4) hb hL hq ha (by decide)
  obtain ⟨z5, e5, h5⟩ := spells_c (i := 5) hb hL hq ha (by decide)
  obtain ⟨z6, e6, h6⟩ := spells_c (i := 6) hb hL hq ha (by decide)
  obtain ⟨z7, e7, h7⟩ := spells_c (i := 7) hb hL hq ha (by decide)
  obtain ⟨z8, e8, h8⟩ := spells_c (i := 8) hb hL hq ha (by decide)
  have d10 : ((1 : Int32) = 0) = False := by decide
  simp only [ff_X10_nameIn, e0, e1, e2, e3, e4, e5, e6, e7, e8, Option.bind_some]
  rcases h0 with ⟨rfl, h0⟩ | ⟨rfl, h0⟩
  · exact ⟨7, rfl, Or.inl ⟨0, by decide, h0, rfl⟩⟩
  rcases h1 with ⟨rfl, h1⟩ | ⟨rfl, h1⟩
  · exact ⟨8, rfl, Or.inl ⟨1, by decide, h1, rfl⟩⟩
  rcases h2 with ⟨rfl, h2⟩ | ⟨rfl, h2⟩
  · exact ⟨9, rfl, Or.inl ⟨2, by decide, h2, rfl⟩⟩
  rcases h3 with ⟨rfl, h3⟩ | ⟨rfl, h3⟩
  · exact ⟨10, rfl, Or.inl ⟨3, by decide, h3, rfl⟩⟩
  rcases h4 with ⟨rfl, h4⟩ | ⟨rfl, h4⟩
  · exact ⟨11, rfl, Or.inl ⟨4, by decide, h4, rfl⟩⟩
  rcases h5 with ⟨rfl, h5⟩ | ⟨rfl, h5⟩
  · exact ⟨12, rfl, Or.inl ⟨5, by decide, h5, rfl⟩⟩
  rcases h6 with ⟨rfl, h6⟩ | ⟨rfl, h6⟩
  · exact ⟨13, rfl, Or.inl ⟨6, by decide, h6, rfl⟩⟩
  rcases h7 with ⟨rfl, h7⟩ | ⟨rfl, h7⟩
  · exact ⟨14, rfl, Or.inl ⟨7, by decide, h7, rfl⟩⟩
  rcases h8 with ⟨rfl, h8⟩ | ⟨rfl, h8⟩
  · exact ⟨15, rfl, Or.inl ⟨8, by decide, h8, rfl⟩⟩
  refine ⟨1, rfl, Or.inr ⟨rfl, fun i hi => ?_⟩⟩
  have hc : i = 0 ∨ i = 1 ∨ i = 2 ∨ i = 3 ∨ i = 4 ∨ i = 5 ∨ i = 6 ∨ i = 7 ∨ i = 8 := by omega
  rcases hc with rfl | rfl | rfl | rfl | rfl | rfl | rfl | rfl | rfl
  · exact h0
  · exact h1
  · exact h2
  · exact h3
  · exact h4
  · exact h5
  · exact h6
  · exact h7
  · exact h8
/-- the number of the first n figures from a on -/
def dv (w : Nat → Nat) (a : Nat) : Nat → Nat
  | 0 => 0
  | n + 1 => 10 * dv w a n + (w (a + n) - 48)
theorem dv_lt {w : Nat → Nat} {a n : Nat} (h : ∀ j, j < n → FIG (w (a + j))) : dv w a n < 10 ^ n := by
  induction n with
  | zero => exact Nat.zero_lt_one
  | succ n ih =>
    have h1 := ih fun j hj => h j (by omega)
    have h2 := (h n (by omega)).2
    rw [Nat.pow_succ]
    unfold dv
    omega
theorem dv_up {w : Nat → Nat} {a n : Nat} (h : FIG (w (a + n))) : (10 : Int32) * nI (dv w a n) + nI (w (a + n)) - 48 = nI (dv w a (n + 1)) := by
  have := h.1
  rw [show (10 : Int32) = nI 10 from rfl, show (48 : Int32) = nI 48 from rfl, pk_mul, nI_add, pk_sub (by omega)]
  congr 1
  have e : dv w a (n + 1) = 10 * dv w a n + (w (a + n) - 48) := rfl
  omega
theorem number_c {c r : vv_H} {w : Nat → Nat} {a q : Nat} (hb : byt c r w) (hq : q ≤ 240) (ha : a ≤ q) (hf : ∀ j, a ≤ j → j < q → FIG (w j)) : ff_X10_numberIn c (nI a) (nI q) = some (nI (dv w a (q - a))) := by
  have hL := lp_count (f := fun (zs : Int32 × Int32) => ff_X10_numberIn_B5 (nI q) c zs.1 zs.2) (fun i z => z = (nI (dv w a i), nI (a + i))) (fun z => z = nI (dv w a (q - a))) (q - a) ?hs ?he vv_F 0 ((0 : Int32), nI a) rfl (Nat.zero_le _) (vv_F_lt (by omega))
  case hs =>
    rintro i z hi rfl
    left
    obtain ⟨y1, y2, y3⟩ := hb (a + i) (by omega)
    have f1 := hf (a + i) (by omega) (by omega)
    have e := (sx_c _ y1).1 (by have := f1.2; omega)
    rw [e] at y2
    simp (disch := omega) only [ff_X10_numberIn_B5, if_neg (nI_nle' (show a + i < q by omega) (show q < 2 ^ 31 by omega)), ck_lit, nI_clamp, y2, dv_up f1, vv_let, nI_1]
    exact ⟨_, rfl, rfl⟩
  case he =>
    rintro z rfl
    rw [show a + (q - a) = q by omega]
    simp only [ff_X10_numberIn_B5, if_pos (nI_le (Nat.le_refl q) (show q < 2 ^ 31 by omega))]
    exact ⟨_, rfl, rfl⟩
  obtain ⟨z, e1, rfl⟩ := hL
  rw [ff_X10_numberIn, e1]
  rfl
/-- the token from a up to q: what it is, its number -/
def tok (w : Nat → Nat) (L a q k v : Nat) : Prop := run w L a q ∧ ((LET (w a) ∧ nam w a q k ∧ v = 0) ∨ (FIG (w a) ∧ ((q - a ≤ 4 ∧ k = 2 ∧ v = dv w a (q - a)) ∨ (4 < q - a ∧ k = 1 ∧ v = 0))) ∨
  (¬ LET (w a) ∧ ¬ FIG (w a) ∧ v = 0 ∧ ((w a = 60 ∧ k = 3) ∨ (w a = 61 ∧ k = 4) ∨ (w a = 62 ∧ k = 5) ∨ (w a = 59 ∧ k = 6) ∨ (w a ≠ 60 ∧ w a ≠ 61 ∧ w a ≠ 62 ∧ w a ≠ 59 ∧ k = 1))))
theorem run_fig {w : Nat → Nat} {L a q : Nat} (h : run w L a q) (ha : FIG (w a)) : ∀ j, a ≤ j → j < q → FIG (w j) := fun j h1 h2 => by
  rcases Nat.lt_or_eq_of_le h1 with g | rfl
  · rcases h.2.2.1 j g h2 with ⟨k, _⟩ | ⟨_, k⟩
    · have := k.1
      have := ha.2
      omega
    · exact k
  · exact ha
/-- what the component cuts at a: behind it, what it is, its number -/
theorem tok_c {c r : vv_H} {w : Nat → Nat} {L a : Nat} (hb : byt c r w) (hL : L ≤ 240) (eL : c.1 50 0 = nI L) (ha : a < L) : ∃ q k v, ff_X10_runBehind c (nI a) = some (nI q) ∧ ff_X10_kindOfRun c (nI a) (nI q) = some (nI k) ∧ k < 16 ∧ k ≠ 0 ∧ v < 10000 ∧ (k = 2 → ff_X10_numberIn c (nI a) (nI q) = some (nI v)) ∧ (k ≠ 2 → v = 0) ∧ tok w L a q k v := by
  obtain ⟨q, e1, hr⟩ := runB_c hb hL eL ha
  obtain ⟨b1, b2, b3⟩ := hb a (by omega)
  obtain ⟨x1, x2⟩ := sx_a (w a) b1
  obtain ⟨s0, s1, s2, s3, s4⟩ := sx_b (w a) b1
  have hq1 := hr.1
  have hq2 := hr.2.1
  obtain ⟨n, e2, hn⟩ := name_c hb hL hq2 (Nat.le_of_lt hq1)
  have kd : ff_X10_kindOfRun c (nI a) (nI q) = if 97 ≤ w a ∧ w a ≤ 122 then some (nI n) else if 48 ≤ w a ∧ w a ≤ 57 then (if q - a ≤ 4 then some 2 else some 1) else if w a = 59 then some 6 else if w a = 60 then some 3 else if w a = 61 then some 4 else if w a = 62 then some 5 else some 1 := by
    have e4 : (nI (q - a) ≤ (4 : Int32)) ↔ q - a ≤ 4 := nI_leI (show q - a < 2 ^ 31 by omega) (show 4 < 2 ^ 31 by decide)
    simp (disch := omega) only [ff_X10_kindOfRun, ck_lit, nI_clamp, b2, x1, x2, Option.bind_some, s1, s2, s3, s4, e2, pk_sub (Nat.le_of_lt hq1), e4]
    by_cases c1 : 97 ≤ w a ∧ w a ≤ 122
    · simp only [if_pos c1, show ((1 : Int32) = 0) = False from by decide, if_false]
    · simp only [if_neg c1, if_true]
      by_cases c2 : 48 ≤ w a ∧ w a ≤ 57
      · simp only [if_pos c2, show ((1 : Int32) = 0) = False from by decide, if_false]
      · simp only [if_neg c2, if_true]
  refine ⟨q, ?_⟩
  by_cases c1 : 97 ≤ w a ∧ w a ≤ 122
  · rw [if_pos c1] at kd
    refine ⟨n, 0, e1, kd, ?_, ?_, by decide, fun h => ?_, fun _ => rfl, hr, Or.inl ⟨c1, hn, rfl⟩⟩
    · rcases hn with ⟨i, hi, _, rfl⟩ | ⟨rfl, _⟩ <;> omega
    · rcases hn with ⟨i, hi, _, rfl⟩ | ⟨rfl, _⟩ <;> omega
    · rcases hn with ⟨i, hi, _, rfl⟩ | ⟨rfl, _⟩ <;> omega
  rw [if_neg c1] at kd
  by_cases c2 : 48 ≤ w a ∧ w a ≤ 57
  · rw [if_pos c2] at kd
    by_cases c3 : q - a ≤ 4
    · rw [if_pos c3] at kd
      refine ⟨2, dv w a (q - a), e1, kd, by decide, by decide, ?_, fun _ => number_c hb (by omega) (by omega) (run_fig hr c2), fun h => absurd rfl h, hr, Or.inr (Or.inl ⟨c2, Or.inl ⟨c3, rfl, rfl⟩⟩)⟩
      have h1 := dv_lt (w := w) (a := a) (n := q - a) fun j hj => run_fig hr c2 (a + j) (by omega) (by omega)
      have h2 : 10 ^ (q - a) ≤ 10 ^ 4 := Nat.pow_le_pow_right (by decide) c3
      omega
    · rw [if_neg c3] at kd
      exact ⟨1, 0, e1, kd, by decide, by decide, by decide, fun h => absurd h (by decide), fun _ => rfl, hr, Or.inr (Or.inl ⟨c2, Or.inr ⟨by omega, rfl, rfl⟩⟩)⟩
  rw [if_neg c2] at kd
  have fin : ∀ k, ff_X10_kindOfRun c (nI a) (nI q) = some (nI k) → k < 16 → k ≠ 0 → k ≠ 2 → ((w a = 60 ∧ k = 3) ∨ (w a = 61 ∧ k = 4) ∨ (w a = 62 ∧ k = 5) ∨ (w a = 59 ∧ k = 6) ∨ (w a ≠ 60 ∧ w a ≠ 61 ∧ w a ≠ 62 ∧ w a ≠ 59 ∧ k = 1)) → ∃ k' v, ff_X10_runBehind c (nI a) = some (nI q) ∧ ff_X10_kindOfRun c (nI a) (nI q) = some (nI k') ∧ k' < 16 ∧ k' ≠ 0 ∧ v < 10000 ∧ (k' = 2 → ff_X10_numberIn c (nI a) (nI q) = some (nI v)) ∧ (k' ≠ 2 → v = 0) ∧ tok w L a q k' v := fun k h0 h1 h2 h3 h4 => ⟨k, 0, e1, h0, h1, h2, by decide, fun h => absurd h h3, fun _ => rfl, hr, Or.inr (Or.inr ⟨c1, c2, rfl, h4⟩)⟩
  by_cases d1 : w a = 59
  · rw [if_pos d1] at kd
    exact fin 6 kd (by decide) (by decide) (by decide) (by omega)
  rw [if_neg d1] at kd
  by_cases d2 : w a = 60
  · rw [if_pos d2] at kd
    exact fin 3 kd (by decide) (by decide) (by decide) (by omega)
  rw [if_neg d2] at kd
  by_cases d3 : w a = 61
  · rw [if_pos d3] at kd
    exact fin 4 kd (by decide) (by decide) (by decide) (by omega)
  rw [if_neg d3] at kd
  by_cases d4 : w a = 62
  · rw [if_pos d4] at kd
    exact fin 5 kd (by decide) (by decide) (by decide) (by omega)
  rw [if_neg d4] at kd
  exact fin 1 kd (by decide) (by decide) (by decide) (by omega)
/-- the tokens: the k-th is looked for from st k, stands at tp k, is tk k with the number tv k -/
def lxk (w : Nat → Nat) (L : Nat) (st tp tk tv : Nat → Nat) (k : Nat) : Prop := st k ≤ tp k ∧ (∀ j, st k ≤ j → j < tp k → w j = 32) ∧ tp k < L ∧ w (tp k) ≠ 32 ∧ tok w L (tp k) (st (k + 1)) (tk k) (tv k) ∧ tk k < 16 ∧ tk k ≠ 0 ∧ tv k < 10000
def lxe (w : Nat → Nat) (L : Nat) (st tp tk tv : Nat → Nat) (k : Nat) : Prop := st k ≤ tp k ∧ (∀ j, st k ≤ j → j < tp k → w j = 32) ∧ tp k = L ∧ tk k = 0 ∧ tv k = 0
/-- all n tokens: the last is the end or a flaw -/
def lex (w : Nat → Nat) (L n : Nat) (st tp tk tv : Nat → Nat) : Prop := st 0 = 0 ∧ 0 < n ∧ n ≤ 241 ∧ (∀ k, k + 1 < n → lxk w L st tp tk tv k ∧ tk k ≠ 1) ∧ ((lxk w L st tp tk tv (n - 1) ∧ tk (n - 1) = 1) ∨ lxe w L st tp tk tv (n - 1))
def trow (c : vv_H) (n : Nat) (tp tk tv : Nat → Nat) : Prop := ∀ k, k < n → c.1 52 k = nI (tk k) ∧ c.1 53 k = nI (tp k) ∧ c.1 54 k = nI (tv k)
/-- what cutting changes -/
def frX (c c' : vv_H) : Prop := c'.2 = c.2 ∧ ∀ k j, ¬ (k = 50 ∧ j = 1) → ¬ (52 ≤ k ∧ k ≤ 54) → c'.1 k j = c.1 k j
theorem frX_iu {c g : vv_H} {k j : Nat} {v : Int32} (h : frX c g) (q : (k = 50 ∧ j = 1) ∨ (52 ≤ k ∧ k ≤ 54)) : frX c (vv_iu g k j v) := ⟨h.1, fun a b h1 h2 => by
  rw [vv_iu_e, if_neg (fun e => by omega)]
  exact h.2 a b h1 h2⟩
theorem keep_c {c : vv_H} {T : Nat} (hT : T < 241) (eT : c.1 50 1 = nI T) (k a v : Nat) {tp tk tv : Nat → Nat} (h : trow c T tp tk tv) : ∃ g, ff_X10_keep c (nI k) (nI a) (nI v) = some g ∧ frX c g ∧ g.1 50 1 = nI (T + 1) ∧ trow g (T + 1) (pt tp T a) (pt tk T k) (pt tv T v) := by
  simp (disch := omega) only [ff_X10_keep, eT, show Int32.ofNat 241 = nI 241 from rfl, if_neg (nI_nle' hT (by decide)), ck_lit, nI_clamp, vv_iu_ne, vv_let, nI_1]
  refine ⟨_, rfl, frX_iu (frX_iu (frX_iu (frX_iu ⟨rfl, fun _ _ _ _ => rfl⟩ (by omega)) (by omega)) (by omega)) (by omega), vv_iu_eq, fun i hi => ?_⟩
  unfold pt
  rcases Nat.lt_succ_iff_lt_or_eq.mp hi with q | rfl
  · rw [if_neg (by omega), if_neg (by omega), if_neg (by omega)]
    simp (disch := omega) only [vv_iu_ne, vv_iu_nj]
    exact h i q
  · rw [if_pos rfl, if_pos rfl, if_pos rfl]
    simp (disch := omega) only [vv_iu_ne, vv_iu_eq]
    exact ⟨trivial, trivial, trivial⟩
theorem byt_fr {c c' r : vv_H} {w : Nat → Nat} (h : byt c r w) (q : frX c c') : byt c' r w := fun j hj => by
  rw [q.2 51 j (by omega) (by omega)]
  exact h j hj
