/-- the best of the first sets: A what it fits, B how many sizes it has, at most n -/
def bst (A B : Nat → Nat) (n : Nat) : Nat → Nat
  | 0 => 0
  | j + 1 => if B j ≤ n ∧ (A (bst A B n j) < A j ∨ (A j = A (bst A B n j) ∧ B j < B (bst A B n j))) then j else bst A B n j
theorem bst_le (A B : Nat → Nat) (n : Nat) : ∀ j, bst A B n j ≤ j ∧ (0 < j → bst A B n j < j) := by
  intro j
  induction j with
  | zero => exact ⟨Nat.le_refl _, fun h => absurd h (Nat.lt_irrefl _)⟩
  | succ j ih =>
    unfold bst
    split <;> omega
theorem bst_1 (A B : Nat → Nat) (n : Nat) : bst A B n 1 = 0 := by
  have := (bst_le A B n 1).2 (by decide)
  omega
/-- who is fitted by the size s, of the first B bodies -/
def fbs (c : vv_H) (B s : Nat) : Nat := fn (fun b => if lw c (nI b) s = 0 then 2 ^ b else 0) B
theorem fbs_lt {c : vv_H} {B s : Nat} (hB : B ≤ 12) : fbs c B s < 2 ^ 12 := fn_lt fun i hi => by
  have : 2 ^ i < 2 ^ 12 := Nat.pow_lt_pow_right (by decide) (by omega)
  split <;> omega
theorem lw_0 {c c' r r' : vv_H} (H : RR c r) (H' : RR c' r') {t : Nat} (ht : t < 12) (b : Int32) (e : ff_X12_doesFit r (nI t) b 0 = ff_X12_doesFit r' (nI t) b 0) : lw c b t = 0 ↔ lw c' b t = 0 := by
  obtain ⟨a, e1, e2⟩ := fit_lw H ht b (e := 0) (by decide) (by decide)
  obtain ⟨a', e3, e4⟩ := fit_lw H' ht b (e := 0) (by decide) (by decide)
  rw [e1, e3] at e
  cases e
  have z : (0 : Int32).toInt = 0 := rfl
  rw [z] at e2 e4
  rcases e2 with ⟨e2, rfl⟩ | ⟨e2, rfl⟩ <;> rcases e4 with ⟨e4, h⟩ | ⟨e4, h⟩
  · omega
  · exact absurd h (by decide)
  · exact absurd h (by decide)
  · omega
theorem fitted_c {c c' r : vv_H} (H : RR c r) (H' : RR c' r) {B : Nat} (hB : B ≤ 12) (eB : c'.1 1 0 = nI B) {s : Nat} (hs : s < 12) : ff_X11_fittedBy c' (nI s) = some (nI (fbs c B s)) := by
  have hL := lp_count (f := fun (zs : Int32 × Int32) => ff_X11_fittedBy_B4 (nI s) c' zs.1 zs.2) (fun i z => z = (nI (fbs c i s), nI i)) (fun a => a = nI (fbs c B s)) B ?hs ?he vv_F 0 ((0 : Int32), (0 : Int32)) rfl (Nat.zero_le _) (vv_F_lt (by omega))
  case hs =>
    rintro i z hi rfl
    left
    obtain ⟨l1, l2, _⟩ := lw_of H'.2.1 hs (nI i)
    have q := lw_0 H H' hs (nI i) rfl
    have ez : (nI (lw c' (nI i) s) = 0) ↔ lw c' (nI i) s = 0 := nI_eq (by omega) (show 0 < 2 ^ 31 by decide)
    simp only [ff_X11_fittedBy_B4, eB, if_neg (nI_nle' hi (by omega)), l1, Option.bind_some, ez, vv_let, nI_1, shl1 i (by omega), nI_or]
    have e2 : fbs c (i + 1) s = fbs c i s ||| (if lw c (nI i) s = 0 then 2 ^ i else 0) := rfl
    rw [e2]
    by_cases g : lw c (nI i) s = 0
    · rw [if_pos (q.mp g), if_pos g]
      exact ⟨_, rfl, rfl⟩
    · rw [if_neg (fun w => g (q.mpr w)), if_neg g, Nat.or_zero]
      exact ⟨_, rfl, rfl⟩
  case he =>
    rintro z rfl
    simp only [ff_X11_fittedBy_B4, eB, if_pos (nI_le (Nat.le_refl B) (show B < 2 ^ 31 by omega))]
    exact ⟨_, rfl, rfl⟩
  obtain ⟨a, e1, rfl⟩ := hL
  rw [ff_X11_fittedBy, e1]
  rfl
/-- the sizes of the kind -/
def pk2 (c : vv_H) (kind : Int32) (l : Nat) : Bool := decide (c.1 23 l = kind)
def frC (c c' : vv_H) : Prop := c'.2 = c.2 ∧ ∀ k j, ¬ (167 ≤ k ∧ k ≤ 169) → c'.1 k j = c.1 k j
theorem frC_iu {c g : vv_H} {k j : Nat} {v : Int32} (h : frC c g) (q : 167 ≤ k ∧ k ≤ 169) : frC c (vv_iu g k j v) := ⟨h.1, fun a b h1 => by
  rw [vv_iu_ne (by omega)]
  exact h.2 a b h1⟩
theorem frC_RR {c c' r : vv_H} (H : RR c r) (h : frC c c') : RR c' r := RR_core H ⟨by rw [h.1], fun k j q => h.2 k j (by unfold scC at q; omega)⟩ (coR_rf r)
/-- what is offered -/
def offd (c c' : vv_H) (p : Nat → Bool) (B s : Nat) (ln : Nat → Nat) : Prop := frC c c' ∧ c'.1 167 1 = nI (ko p s) ∧ ∀ k, k < ko p s → c'.1 168 k = nI (ln k) ∧ c'.1 169 k = nI (fbs c B (ln k))
theorem offer_c {c r : vv_H} (H : RR c r) {B N : Nat} (hB : B ≤ 12) (eB : c.1 1 0 = nI B) (hN : N ≤ 12) (eN : c.1 22 0 = nI N) (u1 u2 u3 : Int32) {ln : Nat → Nat} (hln : ∀ l, l < N → pk2 c u1 l = true → ln (ko (pk2 c u1) l) = l) : ∃ a, vv_lp (fun (zs : Int32 × vv_H) => ff_X11_chosen_B38 u1 u2 u3 zs.1 zs.2) vv_F ((0 : Int32), vv_iu c 167 1 0) = some a ∧ ((ko (pk2 c u1) N ≤ 10 ∧ ∃ c', a = .inl c' ∧ offd c c' (pk2 c u1) B N ln) ∨ (10 < ko (pk2 c u1) N ∧ ∃ c', a = .inr c' ∧ frC c c')) := by
  refine lp_count (f := fun (zs : Int32 × vv_H) => ff_X11_chosen_B38 u1 u2 u3 zs.1 zs.2) (fun s z => ∃ c', z = (nI s, c') ∧ ko (pk2 c u1) s ≤ 10 ∧ offd c c' (pk2 c u1) B s ln) (fun a => (ko (pk2 c u1) N ≤ 10 ∧ ∃ c', a = .inl c' ∧ offd c c' (pk2 c u1) B N ln) ∨ (10 < ko (pk2 c u1) N ∧ ∃ c', a = .inr c' ∧ frC c c')) N ?hs ?he vv_F 0 _ ⟨_, rfl, Nat.zero_le _, ⟨frC_iu ⟨rfl, fun _ _ _ => rfl⟩ (by omega), vv_iu_eq, fun k hk => absurd hk (Nat.not_lt_zero k)⟩⟩ (Nat.zero_le _) (vv_F_lt (by omega))
  case hs =>
    rintro s z hs ⟨c', rfl, hk, f1, f2, f3⟩
    have eN' : c'.1 22 0 = nI N := by rw [f1.2 22 0 (by omega), eN]
    have eB' : c'.1 1 0 = nI B := by rw [f1.2 1 0 (by omega), eB]
    have e23 : c'.1 23 s = c.1 23 s := f1.2 23 s (by omega)
    simp (disch := omega) only [ff_X11_chosen_B38, ff_X8_isOf, eN', if_neg (nI_nle' hs (by omega)), ck_lit, nI_clamp, e23]
    by_cases g : c.1 23 s = u1
    · have hp : pk2 c u1 s = true := decide_eq_true g
      simp only [if_pos g, Option.bind_some, show ((1 : Int32) = 0) = False from by decide, if_false, fitted_c H (frC_RR H f1) hB eB' (show s < 12 by omega), ff_X1_offer, f2, show ∀ n, (nI n < (10 : Int32)) = (nI n < nI 10) from fun _ => rfl, nI_ltI (show ko (pk2 c u1) s < 2 ^ 31 by omega) (show 10 < 2 ^ 31 by decide)]
      by_cases g2 : ko (pk2 c u1) s < 10
      · left
        simp (disch := omega) only [if_pos g2, f2, vv_iu_ne, vv_iu_nj, ck_lit, nI_clamp, vv_let, Option.bind_some, show ((1 : Int32) = 0) = False from by decide, if_false, nI_1]
        refine ⟨_, rfl, _, rfl, by rw [ko_1 hp]; omega, frC_iu (frC_iu (frC_iu f1 (by omega)) (by omega)) (by omega), by rw [vv_iu_eq, ko_1 hp], fun k hk => ?_⟩
        rw [ko_1 hp] at hk
        rcases Nat.lt_succ_iff_lt_or_eq.mp hk with q | rfl
        · simp (disch := omega) only [vv_iu_ne, vv_iu_nj]
          exact f3 k q
        · simp (disch := omega) only [vv_iu_ne, vv_iu_eq]
          rw [hln s hs hp]
          exact ⟨rfl, rfl⟩
      · right
        simp only [if_neg g2, Option.bind_some, if_true]
        refine ⟨_, rfl, Or.inr ⟨?_, _, rfl, f1⟩⟩
        have := ko_lt hp hs
        omega
    · left
      have hp : ¬ pk2 c u1 s = true := fun q => g (of_decide_eq_true q)
      simp only [if_neg g, Option.bind_some, if_true, vv_let, nI_1]
      refine ⟨_, rfl, c', rfl, ?_⟩
      unfold offd
      rw [ko_0 hp]
      exact ⟨hk, f1, f2, f3⟩
  case he =>
    rintro z ⟨c', rfl, hk, hf⟩
    have eN' : c'.1 22 0 = nI N := by rw [hf.1.2 22 0 (by omega), eN]
    simp only [ff_X11_chosen_B38, eN', if_pos (nI_le (Nat.le_refl N) (show N < 2 ^ 31 by omega))]
    exact ⟨_, rfl, Or.inl ⟨hk, c', rfl, hf⟩⟩
/-- who is fitted by the set x -/
def uni (f : Nat → Nat) (K x : Nat) : Nat := fn (fun i => if dg x i = 0 then 0 else f i) K
theorem uni_lt {f : Nat → Nat} {K x : Nat} (h : ∀ i, i < K → f i < 2 ^ 12) : uni f K x < 2 ^ 12 := fn_lt fun i hi => by
  have := h i hi
  split <;> omega
theorem union_c {c' : vv_H} {K : Nat} (hK : K ≤ 10) (eK : c'.1 167 1 = nI K) {f : Nat → Nat} (hf : ∀ i, i < K → c'.1 169 i = nI (f i)) {x : Nat} (hx : x < 2 ^ 31) : ff_X1_unionOf c' (nI x) = some (nI (uni f K x)) := by
  have hL := lp_count (f := fun (zs : Int32 × Int32) => ff_X1_unionOf_B4 (nI x) c' zs.1 zs.2) (fun i z => z = (nI (uni f i x), nI i)) (fun a => a = nI (uni f K x)) K ?hs ?he vv_F 0 ((0 : Int32), (0 : Int32)) rfl (Nat.zero_le _) (vv_F_lt (by omega))
  case hs =>
    rintro i z hi rfl
    left
    have ez : (nI (dg x i) = 0) ↔ dg x i = 0 := nI_eq (by have := dg_1 x i; omega) (show 0 < 2 ^ 31 by decide)
    simp (disch := omega) only [ff_X1_unionOf_B4, eK, if_neg (nI_nle' hi (by omega)), shr_dg hx (show i < 16 by omega), ez, ck_lit, nI_clamp, hf i hi, nI_or, vv_let, nI_1]
    have e2 : uni f (i + 1) x = uni f i x ||| (if dg x i = 0 then 0 else f i) := rfl
    rw [e2]
    by_cases g : dg x i = 0
    · rw [if_pos g, if_pos g, Nat.or_zero]
      exact ⟨_, rfl, rfl⟩
    · rw [if_neg g, if_neg g]
      exact ⟨_, rfl, rfl⟩
  case he =>
    rintro z rfl
    simp only [ff_X1_unionOf_B4, eK, if_pos (nI_le (Nat.le_refl K) (show K < 2 ^ 31 by omega))]
    exact ⟨_, rfl, rfl⟩
  obtain ⟨a, e1, rfl⟩ := hL
  rw [ff_X1_unionOf, e1]
  rfl
theorem pcn_bd (x : Nat) : pcn x ≤ 16 := cu_le 16 fun i _ => dg_1 x i
theorem choose_c {c' : vv_H} {K : Nat} (hK : K ≤ 10) (eK : c'.1 167 1 = nI K) {f : Nat → Nat} (hf : ∀ i, i < K → c'.1 169 i = nI (f i)) (hfl : ∀ i, i < K → f i < 2 ^ 12) {n : Nat} (hn : n ≤ 10) : ∃ c2, ff_X1_choose c' (nI n) = some c2 ∧ c2.2 = c'.2 ∧ (∀ k j, ¬ (k = 167 ∧ j ≠ 1) → c2.1 k j = c'.1 k j) ∧ c2.1 167 2 = nI (bst (fun x => pcn (uni f K x)) pcn n (2 ^ K)) ∧ c2.1 167 0 = nI (uni f K (bst (fun x => pcn (uni f K x)) pcn n (2 ^ K))) := by
  have h2K : 2 ^ K ≤ 2 ^ 10 := Nat.pow_le_pow_right (by decide) hK
  have h1K : 1 ≤ 2 ^ K := Nat.pow_pos (by decide)
  obtain ⟨A, hA⟩ : ∃ A : Nat → Nat, A = fun x => pcn (uni f K x) := ⟨_, rfl⟩
  rw [← hA]
  have u0 : uni f K 0 = 0 := by
    have : ∀ m, uni f m 0 = 0 := fun m => by
      induction m with
      | zero => rfl
      | succ m ih =>
        show uni f m 0 ||| (if dg 0 m = 0 then 0 else f m) = 0
        rw [ih, if_pos (by unfold dg; rw [Nat.zero_div])]
        rfl
    exact this K
  have hL := lp_count (f := fun (zs : Int32 × vv_H) => ff_X1_choose_B12 (nI n) zs.1 zs.2) (fun j z => ∃ g : vv_H, z = (nI j, g) ∧ 1 ≤ j ∧ g.2 = c'.2 ∧ (∀ k i, ¬ (k = 167 ∧ i ≠ 1) → g.1 k i = c'.1 k i) ∧ g.1 167 2 = nI (bst A pcn n j) ∧ g.1 167 0 = nI (uni f K (bst A pcn n j))) (fun g => g.2 = c'.2 ∧ (∀ k i, ¬ (k = 167 ∧ i ≠ 1) → g.1 k i = c'.1 k i) ∧ g.1 167 2 = nI (bst A pcn n (2 ^ K)) ∧ g.1 167 0 = nI (uni f K (bst A pcn n (2 ^ K)))) (2 ^ K) ?hs ?he vv_F 1 ((1 : Int32), vv_iu (vv_iu c' 167 2 0) 167 0 0) ⟨_, rfl, Nat.le_refl _, rfl, fun k i q => by rw [vv_iu_e, if_neg (by omega), vv_iu_e, if_neg (by omega)], by rw [vv_iu_nj (by omega), vv_iu_eq, bst_1]; rfl, by rw [vv_iu_eq, bst_1, u0]; rfl⟩ h1K (vv_F_lt (by omega))
  case hs =>
    rintro j z hj ⟨g, rfl, h1, f1, f2, f3, f4⟩
    left
    have eK' : g.1 167 1 = nI K := by rw [f2 167 1 (by omega), eK]
    have hf' : ∀ i, i < K → g.1 169 i = nI (f i) := fun i hi => by rw [f2 169 i (by omega), hf i hi]
    have hb := (bst_le A pcn n j).2 (by omega)
    have ul := uni_lt (x := j) hfl
    have ul2 := uni_lt (x := bst A pcn n j) hfl
    have pj := pcn_bd j
    have pa := pcn_bd (uni f K j)
    have pb := pcn_bd (uni f K (bst A pcn n j))
    have pc := pcn_bd (bst A pcn n j)
    have es : bst A pcn n (j + 1) = if pcn j ≤ n ∧ (A (bst A pcn n j) < A j ∨ (A j = A (bst A pcn n j) ∧ pcn j < pcn (bst A pcn n j))) then j else bst A pcn n j := rfl
    have eA : ∀ x, A x = pcn (uni f K x) := fun x => by rw [hA]
    have esub := pk_sub_toInt (a := pcn (uni f K j)) (b := pcn (uni f K (bst A pcn n j))) (by omega) (by omega)
    have w1 : ((0 : Int32) < nI (pcn (uni f K j)) - nI (pcn (uni f K (bst A pcn n j)))) ↔ pcn (uni f K (bst A pcn n j)) < pcn (uni f K j) := by
      rw [Int32.lt_iff_toInt_lt, esub, show (0 : Int32).toInt = 0 from rfl]
      omega
    have w2 : (nI (pcn (uni f K j)) - nI (pcn (uni f K (bst A pcn n j))) = 0) ↔ pcn (uni f K j) = pcn (uni f K (bst A pcn n j)) := by
      rw [← Int32.toInt_inj, esub, show (0 : Int32).toInt = 0 from rfl]
      omega
    rw [eA, eA] at es
    simp only [ff_X1_choose_B12, eK', shl1 K (by omega), if_neg (nI_nle' hj (show 2 ^ K < 2 ^ 31 by omega)), bc_c (show j < 4096 by omega), Option.bind_some, nI_ltI (show n < 2 ^ 31 by omega) (show pcn j < 2 ^ 31 by omega), vv_let, nI_1]
    have keep : ¬ (pcn j ≤ n ∧ (pcn (uni f K (bst A pcn n j)) < pcn (uni f K j) ∨ (pcn (uni f K j) = pcn (uni f K (bst A pcn n j)) ∧ pcn j < pcn (bst A pcn n j)))) → ∃ s', (some (Sum.inl (nI (j + 1), g)) : Option ((Int32 × vv_H) ⊕ vv_H)) = some (Sum.inl s') ∧ ∃ g : vv_H, s' = (nI (j + 1), g) ∧ 1 ≤ j + 1 ∧ g.2 = c'.2 ∧ (∀ k i, ¬ (k = 167 ∧ i ≠ 1) → g.1 k i = c'.1 k i) ∧ g.1 167 2 = nI (bst A pcn n (j + 1)) ∧ g.1 167 0 = nI (uni f K (bst A pcn n (j + 1))) := fun q => by
      rw [if_neg q] at es
      rw [es]
      exact ⟨_, rfl, g, rfl, by omega, f1, f2, f3, f4⟩
    have take : (pcn j ≤ n ∧ (pcn (uni f K (bst A pcn n j)) < pcn (uni f K j) ∨ (pcn (uni f K j) = pcn (uni f K (bst A pcn n j)) ∧ pcn j < pcn (bst A pcn n j)))) → ∃ s', (some (Sum.inl (nI (j + 1), vv_iu (vv_iu g 167 2 (nI j)) 167 0 (nI (uni f K j)))) : Option ((Int32 × vv_H) ⊕ vv_H)) = some (Sum.inl s') ∧ ∃ g : vv_H, s' = (nI (j + 1), g) ∧ 1 ≤ j + 1 ∧ g.2 = c'.2 ∧ (∀ k i, ¬ (k = 167 ∧ i ≠ 1) → g.1 k i = c'.1 k i) ∧ g.1 167 2 = nI (bst A pcn n (j + 1)) ∧ g.1 167 0 = nI (uni f K (bst A pcn n (j + 1))) := fun q => by
      rw [if_pos q] at es
      rw [es]
      refine ⟨_, rfl, _, rfl, by omega, f1, fun k i q => ?_, ?_, ?_⟩
      · rw [vv_iu_e, if_neg (by omega), vv_iu_e, if_neg (by omega)]
        exact f2 k i q
      · rw [vv_iu_nj (by omega), vv_iu_eq]
      · rw [vv_iu_eq]
    by_cases c0 : n < pcn j
    · rw [if_pos c0]
      exact keep fun q => by omega
    simp only [if_neg c0, union_c hK eK' hf' (show j < 2 ^ 31 by omega), Option.bind_some, ff_X1_compare, bc_c ul, f4, f3, bc_c ul2, vv_let, ff_X1_compare_J35, w1, w2, bc_c (show j < 4096 by omega), bc_c (show bst A pcn n j < 4096 by omega)]
    by_cases c1 : pcn (uni f K (bst A pcn n j)) < pcn (uni f K j)
    · simp only [if_pos c1, Option.bind_some]
      exact take ⟨by omega, Or.inl c1⟩
    simp only [if_neg c1]
    by_cases c2 : pcn (uni f K j) = pcn (uni f K (bst A pcn n j))
    · simp only [if_pos c2, nI_leI (show pcn (bst A pcn n j) < 2 ^ 31 by omega) (show pcn j < 2 ^ 31 by omega)]
      by_cases c3 : pcn (bst A pcn n j) ≤ pcn j
      · simp only [if_pos c3, Option.bind_some]
        exact keep fun q => by omega
      · simp only [if_neg c3, Option.bind_some]
        exact take ⟨by omega, Or.inr ⟨c2, by omega⟩⟩
    · simp only [if_neg c2, Option.bind_some]
      exact keep fun q => by omega
  case he =>
    rintro z ⟨g, rfl, h1, f1, f2, f3, f4⟩
    have eK' : g.1 167 1 = nI K := by rw [f2 167 1 (by omega), eK]
    simp only [ff_X1_choose_B12, eK', shl1 K (by omega), if_pos (nI_le (Nat.le_refl (2 ^ K)) (show 2 ^ K < 2 ^ 31 by omega))]
    exact ⟨_, rfl, f1, f2, f3, f4⟩
  obtain ⟨c2, e1, h1, h2, h3, h4⟩ := hL
  exact ⟨c2, by simp only [ff_X1_choose, vv_let, e1, Option.bind_some], h1, h2, h3, h4⟩
theorem bits_c {c2 : vv_H} {p : Nat → Bool} {N x : Nat} {ln : Nat → Nat} (hN : N ≤ 12) (hln : ∀ l, l < N → p l = true → ln (ko p l) = l) (hK : ko p N ≤ 10) (eK : c2.1 167 1 = nI (ko p N)) (h8 : ∀ k, k < ko p N → c2.1 168 k = nI (ln k)) (hx : x < 2 ^ 31) (e2 : c2.1 167 2 = nI x) : ff_X1_sizeBits c2 = some (nI (ebs p N x)) := by
  have hll : ∀ k, k < ko p N → ln k < 12 := fun k hk => by
    obtain ⟨l, h1, h2, h3⟩ := ko_sur hk
    have := hln l h1 h2
    rw [h3] at this
    omega
  have hL := lp_count (f := fun (zs : Int32 × Int32) => ff_X1_sizeBits_B4 c2 zs.1 zs.2) (fun i z => z = (nI (fn (fun k => if dg x k = 0 then 0 else 2 ^ ln k) i), nI i)) (fun a => a = nI (fn (fun k => if dg x k = 0 then 0 else 2 ^ ln k) (ko p N))) (ko p N) ?hs ?he vv_F 0 ((0 : Int32), (0 : Int32)) rfl (Nat.zero_le _) (vv_F_lt (by omega))
  case hs =>
    rintro i z hi rfl
    left
    have ez : (nI (dg x i) = 0) ↔ dg x i = 0 := nI_eq (by have := dg_1 x i; omega) (show 0 < 2 ^ 31 by decide)
    have := hll i hi
    simp (disch := omega) only [ff_X1_sizeBits_B4, eK, e2, if_neg (nI_nle' hi (by omega)), shr_dg hx (show i < 16 by omega), ez, ck_lit, nI_clamp, h8 i hi, shl1, nI_or, vv_let, nI_1]
    have e3 : fn (fun k => if dg x k = 0 then 0 else 2 ^ ln k) (i + 1) = fn (fun k => if dg x k = 0 then 0 else 2 ^ ln k) i ||| (if dg x i = 0 then 0 else 2 ^ ln i) := rfl
    rw [e3]
    by_cases g : dg x i = 0
    · rw [if_pos g, if_pos g, Nat.or_zero]
      exact ⟨_, rfl, rfl⟩
    · rw [if_neg g, if_neg g]
      exact ⟨_, rfl, rfl⟩
  case he =>
    rintro z rfl
    simp only [ff_X1_sizeBits_B4, eK, if_pos (nI_le (Nat.le_refl (ko p N)) (show ko p N < 2 ^ 31 by omega))]
    exact ⟨_, rfl, rfl⟩
  obtain ⟨a, e1, rfl⟩ := hL
  rw [ff_X1_sizeBits, e1]
  show some _ = _
  rw [fn_emb, ebs, ← fn_bs N fun k _ => emb_1 (dg_1 x) k]
  congr 2
  refine fn_cg fun l hl => ?_
  unfold emb
  by_cases q : p l = true
  · rw [if_pos q, if_pos q, hln l hl q]
    have := dg_1 x (ko p l)
    by_cases g : dg x (ko p l) = 0
    · rw [if_pos g, g, Nat.zero_mul]
    · rw [if_neg g, show dg x (ko p l) = 1 by omega, Nat.one_mul]
  · rw [if_neg q, if_neg q, Nat.zero_mul]
