def fr12 (r g : vv_H) : Prop := g.2 = r.2 ∧ ∀ k, k ≠ 12 → g.1 k = r.1 k
theorem fr12_iu {r g : vv_H} {j : Nat} {v : Int32} (h : fr12 r g) : fr12 r (vv_iu g 12 j v) := ⟨h.1, fun k hk => by rw [vv_iu_ne hk]; exact h.2 k hk⟩
theorem fr12_RR {c r g : vv_H} (H : RR c r) (h : fr12 r g) : RR c g := RR_core H (coC_rf c) fun k j q => by rw [h.2 k (by unfold scR at q; omega)]
def ind (p : Nat → Bool) (l : Nat) : Nat := if p l = true then 1 else 0
theorem ind_1 (p : Nat → Bool) (l : Nat) : ind p l ≤ 1 := by
  unfold ind
  split <;> omega
/-- the reference's first loop: the sizes of the kind, and who fits which -/
theorem own_r {c r : vv_H} (H : RR c r) {B N : Nat} (hB : B ≤ 12) (eB : c.1 1 0 = nI B) (hN : N ≤ 12) (eN : c.1 22 0 = nI N) (u1 u2 u3 : Int32) : ∃ g, vv_lp (fun (zs : Int32 × Int32 × vv_H) => ff_X12_chosen_B44 u1 u2 u3 zs.1 zs.2.1 zs.2.2) vv_F ((0 : Int32), (0 : Int32), r) = some (nI (bs (ind (pk2 c u1)) N), g) ∧ fr12 r g ∧ ∀ s, s < N → g.1 12 s = nI (fbs c B s) := by
  have eNr : ∀ g, fr12 r g → g.1 0 12 = nI N := fun g h => by rw [h.2 0 (by omega), rel_s22_0 H.1, eN]
  have eBr : ∀ g, fr12 r g → g.1 0 1 = nI B := fun g h => by rw [h.2 0 (by omega), rel_s1_0 H.1, eB]
  have hL := lp_count (f := fun (zs : Int32 × Int32 × vv_H) => ff_X12_chosen_B44 u1 u2 u3 zs.1 zs.2.1 zs.2.2) (fun s z => ∃ g, z = (nI (bs (ind (pk2 c u1)) s), nI s, g) ∧ fr12 r g ∧ ∀ i, i < s → g.1 12 i = nI (fbs c B i)) (fun a => ∃ g, a = (nI (bs (ind (pk2 c u1)) N), g) ∧ fr12 r g ∧ ∀ i, i < N → g.1 12 i = nI (fbs c B i)) N ?hs ?he vv_F 0 ((0 : Int32), (0 : Int32), r) ⟨r, rfl, ⟨rfl, fun _ _ => rfl⟩, fun i hi => absurd hi (Nat.not_lt_zero i)⟩ (Nat.zero_le _) (vv_F_lt (by omega))
  case hs =>
    rintro s z hs ⟨g, rfl, f1, f2⟩
    left
    have b1 := bs_lt (z := ind (pk2 c u1)) (n := s) fun k _ => ind_1 _ k
    have J : ∀ (z0 : Int32), z0 = nI (ind (pk2 c u1) s * 2 ^ s) → ∃ s', ff_X12_chosen_J74 u1 u2 u3 (nI s) z0 (nI (bs (ind (pk2 c u1)) s)) g = some (.inl s') ∧ ∃ g, s' = (nI (bs (ind (pk2 c u1)) (s + 1)), nI (s + 1), g) ∧ fr12 r g ∧ ∀ i, i < s + 1 → g.1 12 i = nI (fbs c B i) := fun z0 hz => by
      obtain ⟨w8, hw⟩ : ∃ w8 : Int32, w8 = nI (bs (ind (pk2 c u1)) s) ||| z0 := ⟨_, rfl⟩
      have ew : w8 = nI (bs (ind (pk2 c u1)) (s + 1)) := by
        rw [hw, hz, nI_or]
        congr 1
        rw [bs, Nat.mul_comm (ind _ _), Nat.or_comm, ← Nat.two_pow_add_eq_or_of_lt b1, Nat.add_comm]
      have hI := lp_count (f := fun (zs : Int32 × vv_H) => ff_X12_chosen_B88 u1 u2 u3 w8 (nI s) zs.1 zs.2) (fun b z => ∃ g', z = (nI b, g') ∧ fr12 r g' ∧ (∀ i, i < s → g'.1 12 i = nI (fbs c B i)) ∧ g'.1 12 s = nI (fbs c b s)) (fun g' => fr12 r g' ∧ (∀ i, i < s → g'.1 12 i = nI (fbs c B i)) ∧ g'.1 12 s = nI (fbs c B s)) B ?hs2 ?he2 vv_F 0 ((0 : Int32), vv_iu g 12 s 0) ⟨_, rfl, fr12_iu f1, fun i hi => by rw [vv_iu_nj (by omega)]; exact f2 i hi, by rw [vv_iu_eq]; rfl⟩ (Nat.zero_le _) (vv_F_lt (by omega))
      case hs2 =>
        rintro b z hb ⟨g', rfl, k1, k2, k3⟩
        left
        have Hg := fr12_RR H k1
        obtain ⟨a, a1, a2⟩ := fit_lw Hg (show s < 12 by omega) (nI b) (e := 0) (by decide) (by decide)
        have e3 : fbs c (b + 1) s = fbs c b s ||| (if lw c (nI b) s = 0 then 2 ^ b else 0) := rfl
        simp (disch := omega) only [ff_X12_chosen_B88, eBr g' k1, if_neg (nI_nle' hb (by omega)), ck_lit, nI_clamp, a1, Option.bind_some, k3, vv_let, nI_1, shl1 b (by omega), nI_or, Int32.or_zero]
        rw [show (0 : Int32).toInt = 0 from rfl] at a2
        rcases a2 with ⟨a2, rfl⟩ | ⟨a2, rfl⟩
        · rw [if_neg (by decide)]
          refine ⟨_, rfl, _, rfl, fr12_iu k1, fun i hi => by rw [vv_iu_nj (by omega)]; exact k2 i hi, ?_⟩
          rw [vv_iu_eq, e3, if_pos (by omega)]
        · rw [if_pos rfl]
          refine ⟨_, rfl, _, rfl, fr12_iu k1, fun i hi => by rw [vv_iu_nj (by omega)]; exact k2 i hi, ?_⟩
          rw [vv_iu_eq, e3, if_neg (by omega), Nat.or_zero]
      case he2 =>
        rintro z ⟨g', rfl, k1, k2, k3⟩
        simp only [ff_X12_chosen_B88, eBr g' k1, if_pos (nI_le (Nat.le_refl B) (show B < 2 ^ 31 by omega))]
        exact ⟨_, rfl, k1, k2, k3⟩
      obtain ⟨g', e1, k1, k2, k3⟩ := hI
      simp (disch := omega) only [ff_X12_chosen_J74, ← hw, vv_let, ck_lit, nI_clamp, e1, Option.bind_some, nI_1]
      refine ⟨_, rfl, g', by rw [ew], k1, fun i hi => ?_⟩
      rcases Nat.lt_succ_iff_lt_or_eq.mp hi with q | rfl
      · exact k2 i q
      · exact k3
    have e10 : g.1 10 = c.1 23 := by rw [f1.2 10 (by omega), rel_a23 H.1]
    simp (disch := omega) only [ff_X12_chosen_B44, eNr g f1, if_neg (nI_nle' hs (by omega)), ck_lit, nI_clamp, e10]
    by_cases q : c.1 23 s = u1
    · rw [if_pos q]
      exact J _ (by rw [shl1 s (by omega), ind, if_pos (show pk2 c u1 s = true from decide_eq_true q), Nat.one_mul])
    · rw [if_neg q]
      exact J _ (by rw [ind, if_neg (show ¬ pk2 c u1 s = true from fun w => q (of_decide_eq_true w)), Nat.zero_mul]; rfl)
  case he =>
    rintro z ⟨g, rfl, f1, f2⟩
    simp only [ff_X12_chosen_B44, eNr g f1, if_pos (nI_le (Nat.le_refl N) (show N < 2 ^ 31 by omega))]
    exact ⟨_, rfl, g, rfl, f1, f2⟩
  obtain ⟨a, e1, g, rfl, h⟩ := hL
  exact ⟨g, e1, h⟩
theorem fitted_r {c g : vv_H} {B N : Nat} (hN : N ≤ 12) (eN : g.1 0 12 = nI N) (hf : ∀ s, s < N → g.1 12 s = nI (fbs c B s)) {x : Nat} (hx : x < 2 ^ 31) : ff_X12_fittedBy g (nI x) = some (nI (fn (fun l => if dg x l = 1 then fbs c B l else 0) N)) := by
  have hL := lp_count (f := fun (zs : Int32 × Int32) => ff_X12_fittedBy_B4 (nI x) g zs.1 zs.2) (fun i z => z = (nI (fn (fun l => if dg x l = 1 then fbs c B l else 0) i), nI i)) (fun a => a = nI (fn (fun l => if dg x l = 1 then fbs c B l else 0) N)) N ?hs ?he vv_F 0 ((0 : Int32), (0 : Int32)) rfl (Nat.zero_le _) (vv_F_lt (by omega))
  case hs =>
    rintro i z hi rfl
    left
    have ez : (nI (dg x i) = 1) ↔ dg x i = 1 := nI_eq (by have := dg_1 x i; omega) (show 1 < 2 ^ 31 by decide)
    simp (disch := omega) only [ff_X12_fittedBy_B4, eN, if_neg (nI_nle' hi (by omega)), shr_dg hx (show i < 16 by omega), ez, ck_lit, nI_clamp, hf i hi, nI_or, vv_let, nI_1, Int32.or_zero]
    have e2 : fn (fun l => if dg x l = 1 then fbs c B l else 0) (i + 1) = fn (fun l => if dg x l = 1 then fbs c B l else 0) i ||| (if dg x i = 1 then fbs c B i else 0) := rfl
    rw [e2]
    by_cases g : dg x i = 1
    · rw [if_pos g, if_pos g]
      exact ⟨_, rfl, rfl⟩
    · rw [if_neg g, if_neg g, Nat.or_zero]
      exact ⟨_, rfl, rfl⟩
  case he =>
    rintro z rfl
    simp only [ff_X12_fittedBy_B4, eN, if_pos (nI_le (Nat.le_refl N) (show N < 2 ^ 31 by omega))]
    exact ⟨_, rfl, rfl⟩
  obtain ⟨a, e1, rfl⟩ := hL
  rw [ff_X12_fittedBy, e1]
  rfl
theorem uni_ebs {c : vv_H} {B N x : Nat} {p : Nat → Bool} {ln : Nat → Nat} (hln : ∀ l, l < N → p l = true → ln (ko p l) = l) : fn (fun l => if dg (ebs p N x) l = 1 then fbs c B l else 0) N = uni (fun k => fbs c B (ln k)) (ko p N) x := by
  rw [uni, fn_emb]
  refine fn_cg fun l hl => ?_
  rw [ebs_dg hl, emb]
  by_cases q : p l = true
  · rw [if_pos q, if_pos q, hln l hl q]
    have := dg_1 x (ko p l)
    by_cases g : dg x (ko p l) = 0
    · rw [if_pos g, if_neg (by omega)]
    · rw [if_neg g, if_pos (by omega)]
  · rw [if_neg q, if_neg q, if_neg (by decide)]
theorem pcn_ebs {p : Nat → Bool} {N x : Nat} (hN : N ≤ 12) (hK : ko p N ≤ 16) (hx : x < 2 ^ ko p N) : pcn (ebs p N x) = pcn x := by
  rw [pcn_lt (ebs_lt p N x) (by omega), pcn_lt hx hK, emb_cu]
  exact cu_eq N fun l hl => ebs_dg hl
theorem ebs_0 (p : Nat → Bool) (N : Nat) : ebs p N 0 = 0 := by
  unfold ebs
  have : ∀ n, bs (emb p (dg 0)) n = 0 := fun n => by
    induction n with
    | zero => rfl
    | succ n ih =>
      have e : emb p (dg 0) n = 0 := by
        unfold emb
        split
        · unfold dg
          rw [Nat.zero_div]
        · rfl
      rw [bs, ih, e, Nat.zero_mul]
  exact this N
theorem st161 {h : vv_H} {n u3 own b m S a u v w : Int32} (hN : ¬ ((1 : Int32) <<< ((h.1 0 12) &&& 31)) ≤ S) (q : (S &&& (own ^^^ (-1 : Int32))) = 0) (z1 : ff_X12_sizeOf S = some a) (e1 : ff_X12_fittedBy h S = some u) (z2 : ff_X12_sizeOf u = some v) (z3 : ff_X12_sizeOf b = some w) : (a ≤ n ∧ (m < v ∨ (v = m ∧ a < w)) → ff_X12_chosen_B161 n u3 own h b m S = some (.inl (S, v, S + 1))) ∧ (¬ (a ≤ n ∧ (m < v ∨ (v = m ∧ a < w))) → ff_X12_chosen_B161 n u3 own h b m S = some (.inl (b, m, S + 1))) := by
  have t : ∀ x y : Int32, (¬ x < y) ↔ y ≤ x := fun x y => by rw [Int32.lt_iff_toInt_lt, Int32.le_iff_toInt_le]; omega
  unfold ff_X12_chosen_B161
  rw [if_neg hN, if_pos q, z1, Option.bind_some]
  by_cases c0 : n < a
  · rw [if_pos c0]
    exact ⟨fun h => absurd c0 ((t _ _).mpr h.1), fun _ => rfl⟩
  rw [if_neg c0, e1, Option.bind_some, z2, Option.bind_some]
  by_cases c1 : m < v
  · rw [if_pos c1]
    exact ⟨fun _ => rfl, fun h => absurd ⟨(t _ _).mp c0, Or.inl c1⟩ h⟩
  rw [if_neg c1]
  by_cases c2 : v = m
  · rw [if_pos c2, Option.bind_some, z3, Option.bind_some]
    by_cases c3 : w ≤ a
    · rw [if_pos c3]
      exact ⟨fun h => h.2.elim (fun k => absurd k c1) (fun k => absurd c3 (fun c => absurd k.2 ((t _ _).mpr c))), fun _ => rfl⟩
    · rw [if_neg c3]
      refine ⟨fun _ => rfl, fun h => absurd ⟨(t _ _).mp c0, Or.inr ⟨c2, ?_⟩⟩ h⟩
      rw [← t] at c3
      exact Classical.not_not.mp c3
  · rw [if_neg c2]
    exact ⟨fun h => h.2.elim (fun k => absurd k c1) (fun k => absurd k.1 c2), fun _ => rfl⟩
theorem best_r {c g : vv_H} {B N : Nat} (hB : B ≤ 12) (hN : N ≤ 12) (eN : g.1 0 12 = nI N) (hf : ∀ s, s < N → g.1 12 s = nI (fbs c B s)) {p : Nat → Bool} {ln : Nat → Nat} (hln : ∀ l, l < N → p l = true → ln (ko p l) = l) (hK : ko p N ≤ 10) {n : Nat} (hn : n ≤ 10) (u3 : Int32) : vv_lp (fun (zs : Int32 × Int32 × Int32) => ff_X12_chosen_B161 (nI n) u3 (nI (bs (ind p) N)) g zs.1 zs.2.1 zs.2.2) vv_F ((0 : Int32), (0 : Int32), (1 : Int32)) = some (nI (ebs p N (bst (fun x => pcn (uni (fun k => fbs c B (ln k)) (ko p N) x)) pcn n (2 ^ ko p N))), nI (pcn (uni (fun k => fbs c B (ln k)) (ko p N) (bst (fun x => pcn (uni (fun k => fbs c B (ln k)) (ko p N) x)) pcn n (2 ^ ko p N))))) := by
  obtain ⟨K, eK⟩ : ∃ K, K = ko p N := ⟨_, rfl⟩
  obtain ⟨f, ef⟩ : ∃ f : Nat → Nat, f = fun k => fbs c B (ln k) := ⟨_, rfl⟩
  obtain ⟨A, hA⟩ : ∃ A : Nat → Nat, A = fun x => pcn (uni f K x) := ⟨_, rfl⟩
  rw [← eK, ← ef, ← hA]
  rw [← eK] at hK
  have eA : ∀ x, A x = pcn (uni f K x) := fun x => by rw [hA]
  have h2N : 2 ^ N ≤ 2 ^ 12 := Nat.pow_le_pow_right (by decide) hN
  have h2K : 2 ^ K ≤ 2 ^ 10 := Nat.pow_le_pow_right (by decide) hK
  have h1K : 1 ≤ 2 ^ K := Nat.pow_pos (by decide)
  have h1N : 1 ≤ 2 ^ N := Nat.pow_pos (by decide)
  have hfl : ∀ i, i < K → f i < 2 ^ 12 := fun i _ => by rw [ef]; exact fbs_lt hB
  have u0 : uni f K 0 = 0 := by
    have : ∀ m, uni f m 0 = 0 := fun m => by
      induction m with
      | zero => rfl
      | succ m ih =>
        show uni f m 0 ||| (if dg 0 m = 0 then 0 else f m) = 0
        rw [ih, if_pos (by unfold dg; rw [Nat.zero_div])]
        rfl
    exact this K
  have mono : ∀ x y, y < 2 ^ K → x < y → ebs p N x < ebs p N y := fun x y h1 h2 => ebs_mono (by rw [← eK]; exact h1) h2
  have bl := bs_lt (z := ind p) (n := N) fun k _ => ind_1 p k
  obtain ⟨ow, eow⟩ : ∃ ow : Int32, ow = nI (bs (ind p) N) ^^^ (-1 : Int32) := ⟨_, rfl⟩
  have hsub : ∀ s, s < 2 ^ N → ((nI s &&& ow) = 0 ↔ ∃ x, x < 2 ^ K ∧ ebs p N x = s) := fun s hs => by
    rw [eow, sub_iff]
    constructor
    · intro h
      rw [eK]
      refine ebs_on hs fun l hl h1 => ?_
      have h2 := h l (by omega) h1
      rw [dg_bs N (fun k _ => ind_1 p k) l hl, ind] at h2
      by_cases q : p l = true
      · exact q
      · rw [if_neg q] at h2
        omega
    · rintro ⟨x, hx, rfl⟩ l _ h1
      rcases Nat.lt_or_ge l N with hl | hl
      · rw [ebs_dg hl, emb] at h1
        rw [dg_bs N (fun k _ => ind_1 p k) l hl, ind]
        by_cases q : p l = true
        · rw [if_pos q]
        · rw [if_neg q] at h1
          omega
      · rw [dg_hi (ebs_lt p N x) hl] at h1
        omega
  have p0 : pcn 0 = 0 := by decide +kernel
  have hL := lp_count (f := fun (zs : Int32 × Int32 × Int32) => ff_X12_chosen_B161 (nI n) u3 (nI (bs (ind p) N)) g zs.1 zs.2.1 zs.2.2) (fun s z => ∃ j, 1 ≤ j ∧ j ≤ 2 ^ K ∧ (∀ x, x < 2 ^ K → (ebs p N x < s ↔ x < j)) ∧ z = (nI (ebs p N (bst A pcn n j)), nI (pcn (uni f K (bst A pcn n j))), nI s)) (fun a => a = (nI (ebs p N (bst A pcn n (2 ^ K))), nI (pcn (uni f K (bst A pcn n (2 ^ K)))))) (2 ^ N) ?hs ?he vv_F 1 ((0 : Int32), (0 : Int32), (1 : Int32)) ⟨1, Nat.le_refl _, h1K, fun x hx => ?hz, by rw [bst_1, ebs_0, u0, p0]; rfl⟩ h1N (vv_F_lt (by omega))
  case hz =>
    rcases Nat.eq_zero_or_pos x with rfl | h
    · rw [ebs_0]
    · have := mono 0 x hx h
      omega
  case he =>
    rintro z ⟨j, h1, h2, h3, rfl⟩
    have : j = 2 ^ K := by
      rcases Nat.lt_or_eq_of_le h2 with h | h
      · have := (h3 j h).mp (ebs_lt p N j)
        omega
      · exact h
    subst this
    simp only [ff_X12_chosen_B161, eN, shl1 N (by omega), if_pos (nI_le (Nat.le_refl (2 ^ N)) (show 2 ^ N < 2 ^ 31 by omega))]
    exact ⟨_, rfl, rfl⟩
  case hs =>
    rintro s z hs ⟨j, h1, h2, h3, rfl⟩
    left
    have hNs : ¬ ((1 : Int32) <<< ((g.1 0 12) &&& 31)) ≤ nI s := by
      rw [eN, shl1 N (by omega)]
      exact nI_nle' hs (show 2 ^ N < 2 ^ 31 by omega)
    by_cases q : (nI s &&& ow) = 0
    case neg =>
      refine ⟨(nI (ebs p N (bst A pcn n j)), nI (pcn (uni f K (bst A pcn n j))), nI (s + 1)), ?_, j, h1, h2, fun x hx => ?_, rfl⟩
      · simp only [ff_X12_chosen_B161, if_neg hNs, ← eow, if_neg q, vv_let, nI_1]
      rw [← h3 x hx]
      have : ebs p N x ≠ s := fun w => q ((hsub s hs).mpr ⟨x, hx, w⟩)
      omega
    obtain ⟨x, hx, ex⟩ := (hsub s hs).mp q
    have hxj : x = j := by
      rcases Nat.lt_trichotomy x j with w | w | w
      · have := (h3 x hx).mpr w
        omega
      · exact w
      · have a1 := mono j x hx w
        have := (h3 j (by omega)).mp (by omega)
        omega
    subst hxj
    have hbj := (bst_le A pcn n x).2 (by omega)
    have nx : ∀ y, y < 2 ^ K → (ebs p N y < s + 1 ↔ y < x + 1) := fun y hy => by
      constructor
      · intro w
        rcases Nat.lt_or_ge x y with w2 | w2
        · have := mono x y hy w2
          omega
        · omega
      · intro w
        rcases Nat.lt_succ_iff_lt_or_eq.mp w with w2 | rfl
        · have := mono y x hx w2
          omega
        · omega
    have p1 : pcn s = pcn x := by rw [← ex]; exact pcn_ebs hN (by omega) (by rw [← eK]; exact hx)
    have p2 : pcn (ebs p N (bst A pcn n x)) = pcn (bst A pcn n x) := pcn_ebs hN (by omega) (by rw [← eK]; omega)
    have ul := uni_lt (x := x) hfl
    have ul2 := uni_lt (x := bst A pcn n x) hfl
    have el := ebs_lt p N (bst A pcn n x)
    have e1 : ff_X12_fittedBy g (nI s) = some (nI (uni f K x)) := by
      rw [fitted_r hN eN hf (by omega), ← ex, uni_ebs hln, ef, eK]
    have pj := pcn_bd x
    have pa := pcn_bd (uni f K x)
    have pb := pcn_bd (uni f K (bst A pcn n x))
    have pc := pcn_bd (bst A pcn n x)
    have es : bst A pcn n (x + 1) = if pcn x ≤ n ∧ (A (bst A pcn n x) < A x ∨ (A x = A (bst A pcn n x) ∧ pcn x < pcn (bst A pcn n x))) then x else bst A pcn n x := rfl
    rw [eA, eA] at es
    have z1 : ff_X12_sizeOf (nI s) = some (nI (pcn x)) := by rw [sizeOf_r (show s < 2 ^ 31 by omega), p1]
    have z2 : ff_X12_sizeOf (nI (uni f K x)) = some (nI (pcn (uni f K x))) := sizeOf_r (by omega)
    have z3 : ff_X12_sizeOf (nI (ebs p N (bst A pcn n x))) = some (nI (pcn (bst A pcn n x))) := by rw [sizeOf_r (show ebs p N (bst A pcn n x) < 2 ^ 31 by omega), p2]
    obtain ⟨w1, w2⟩ := st161 (n := nI n) (u3 := u3) (own := nI (bs (ind p) N)) (m := nI (pcn (uni f K (bst A pcn n x)))) hNs (by rw [← eow]; exact q) z1 e1 z2 z3
    have hcond : (nI (pcn x) ≤ nI n ∧ (nI (pcn (uni f K (bst A pcn n x))) < nI (pcn (uni f K x)) ∨ (nI (pcn (uni f K x)) = nI (pcn (uni f K (bst A pcn n x))) ∧ nI (pcn x) < nI (pcn (bst A pcn n x))))) ↔ (pcn x ≤ n ∧ (pcn (uni f K (bst A pcn n x)) < pcn (uni f K x) ∨ (pcn (uni f K x) = pcn (uni f K (bst A pcn n x)) ∧ pcn x < pcn (bst A pcn n x)))) := by
      rw [nI_leI (show pcn x < 2 ^ 31 by omega) (show n < 2 ^ 31 by omega), nI_ltI (show pcn (uni f K (bst A pcn n x)) < 2 ^ 31 by omega) (show pcn (uni f K x) < 2 ^ 31 by omega), nI_eq (show pcn (uni f K x) < 2 ^ 31 by omega) (show pcn (uni f K (bst A pcn n x)) < 2 ^ 31 by omega), nI_ltI (show pcn x < 2 ^ 31 by omega) (show pcn (bst A pcn n x) < 2 ^ 31 by omega)]
    rw [hcond] at w1 w2
    rw [nI_1] at w1 w2
    by_cases c0 : pcn x ≤ n ∧ (pcn (uni f K (bst A pcn n x)) < pcn (uni f K x) ∨ (pcn (uni f K x) = pcn (uni f K (bst A pcn n x)) ∧ pcn x < pcn (bst A pcn n x)))
    · rw [if_pos c0] at es
      exact ⟨_, w1 c0, x + 1, by omega, by omega, nx, by rw [es, ex]⟩
    · rw [if_neg c0] at es
      exact ⟨_, w2 c0, x + 1, by omega, by omega, nx, by rw [es]⟩
  obtain ⟨a, e1, rfl⟩ := hL
  exact e1
theorem e_chosen {c r : vv_H} (H : RR c r) (kind n what : Int32) : ∃ o c' r', ff_X11_chosen c kind n what = some (o, c') ∧ ff_X12_chosen r kind n what = some (o, r') ∧ RR c' r' := by
  have hb := H.b (k := 1) (j := 0) rfl
  have hz := H.b (k := 22) (j := 0) rfl
  obtain ⟨B, hB, eB⟩ := to_nI (n := 13) hb.1 (by omega) (by decide)
  obtain ⟨N, hN, eN⟩ := to_nI (n := 13) hz.1 (by omega) (by decide)
  simp only [ff_X11_chosen, ff_X12_chosen, m_isKind, m_isWithin, m_in, Option.bind_some, wi_ite, Int32.toInt_toInt64, show (0 : Int64).toInt = 0 from rfl, show (10 : Int64).toInt = 10 from rfl, show (0 : Int32).toInt = 0 from rfl, show (10 : Int32).toInt = 10 from rfl, show (2 : Int64).toInt = 2 from rfl, show (3 : Int64).toInt = 3 from rfl, show (2 : Int32).toInt = 2 from rfl]
  by_cases g1 : 0 ≤ kind.toInt ∧ kind.toInt ≤ 3
  case neg =>
    rw [if_neg g1, if_neg g1]
    exact ⟨_, _, _, rfl, rfl, H⟩
  rw [if_pos g1, if_pos g1]
  by_cases g2 : 0 ≤ n.toInt ∧ n.toInt ≤ 10
  case neg =>
    rw [if_neg g2, if_neg g2]
    exact ⟨_, _, _, rfl, rfl, H⟩
  rw [if_pos g2, if_pos g2]
  by_cases g3 : 0 ≤ what.toInt ∧ what.toInt ≤ 2
  case neg =>
    rw [if_neg g3, if_neg g3]
    exact ⟨_, _, _, rfl, rfl, H⟩
  rw [if_pos g3, if_pos g3]
  obtain ⟨m, hm, rfl⟩ := to_nI (n := 11) g2.1 (by omega) (by decide)
  obtain ⟨ln, hln⟩ := emb_of (p := pk2 c kind) (fun l => l) N
  obtain ⟨a, e1, e2⟩ := offer_c H (by omega) eB (by omega) eN kind (nI m) what hln
  obtain ⟨g, e3, f1, f2⟩ := own_r H (by omega) eB (by omega) eN kind (nI m) what
  have Hg := fr12_RR H f1
  have bl := bs_lt (z := ind (pk2 c kind)) (n := N) fun k _ => ind_1 (pk2 c kind) k
  have h2N : 2 ^ N ≤ 2 ^ 12 := Nat.pow_le_pow_right (by decide) (by omega)
  have po : pcn (bs (ind (pk2 c kind)) N) = ko (pk2 c kind) N := by
    rw [pcn_lt bl (by omega)]
    exact cu_eq N fun l hl => dg_bs N (fun k _ => ind_1 _ k) l hl
  have kN : ko (pk2 c kind) N ≤ N := cu_le N fun l _ => ind_1 (pk2 c kind) l
  have e10 : (nI (ko (pk2 c kind) N) ≤ 10) ↔ ko (pk2 c kind) N ≤ 10 := nI_leI (show ko (pk2 c kind) N < 2 ^ 31 by omega) (show 10 < 2 ^ 31 by decide)
  simp only [ff_X1_clear, vv_let, Option.bind_some, e1, e3, sizeOf_r (show bs (ind (pk2 c kind)) N < 2 ^ 31 by omega), po, e10]
  rcases e2 with ⟨hK, c1, rfl, o1, o2, o3⟩ | ⟨hK, c1, rfl, o1⟩
  case inr =>
    rw [if_neg (by omega)]
    simp only [Sum.elim_inr]
    exact ⟨_, _, _, rfl, rfl, frC_RR Hg o1⟩
  have eNg : g.1 0 12 = nI N := by rw [f1.2 0 (by omega), rel_s22_0 H.1, eN]
  have eBg : g.1 0 1 = nI B := by rw [f1.2 0 (by omega), rel_s1_0 H.1, eB]
  obtain ⟨c2, e4, x1, x2, x3, x4⟩ := choose_c hK o2 (f := fun k => fbs c B (ln k)) (fun i hi => (o3 i hi).2) (fun i _ => fbs_lt (by omega)) (n := m) (by omega)
  have hr := best_r (by omega) (by omega) eNg f2 hln hK (n := m) (by omega) what
  have hbl := (bst_le (fun x => pcn (uni (fun k => fbs c B (ln k)) (ko (pk2 c kind) N) x)) pcn m (2 ^ ko (pk2 c kind) N)).2 (Nat.pow_pos (by decide))
  have h2K : 2 ^ ko (pk2 c kind) N ≤ 2 ^ 10 := Nat.pow_le_pow_right (by decide) hK
  have ul := uni_lt (x := bst (fun x => pcn (uni (fun k => fbs c B (ln k)) (ko (pk2 c kind) N) x)) pcn m (2 ^ ko (pk2 c kind) N)) (f := fun k => fbs c B (ln k)) (K := ko (pk2 c kind) N) fun i _ => fbs_lt (by omega)
  have el := ebs_lt (pk2 c kind) N (bst (fun x => pcn (uni (fun k => fbs c B (ln k)) (ko (pk2 c kind) N) x)) pcn m (2 ^ ko (pk2 c kind) N))
  have hc2 : frC c c2 := ⟨x1.trans o1.1, fun k j q => (x2 k j (by omega)).trans (o1.2 k j q)⟩
  have eBc : c2.1 1 0 = nI B := by rw [hc2.2 1 0 (by omega), eB]
  have R2 := frC_RR Hg hc2
  have hsb := bits_c (c2 := c2) (by omega) hln hK (by rw [x2 167 1 (by omega), o2]) (fun k hk => by rw [x2 168 k (by omega), (o3 k hk).1]) (by omega) x3
  rw [if_pos hK]
  simp only [Sum.elim_inl, e4, Option.bind_some, hr, x4, bc_c ul, hsb, ff_X0_allBits, eBc, eBg, fitted_r (by omega) eNg f2 (show ebs (pk2 c kind) N (bst (fun x => pcn (uni (fun k => fbs c B (ln k)) (ko (pk2 c kind) N) x)) pcn m (2 ^ ko (pk2 c kind) N)) < 2 ^ 31 by omega), uni_ebs hln]
  by_cases g4 : what = 0
  · rw [if_pos g4, if_pos g4]
    exact ⟨_, _, _, rfl, rfl, R2⟩
  rw [if_neg g4, if_neg g4]
  by_cases g5 : what = 1
  · rw [if_pos g5, if_pos g5]
    exact ⟨_, _, _, rfl, rfl, R2⟩
  rw [if_neg g5, if_neg g5]
  exact ⟨_, _, _, rfl, rfl, R2⟩
