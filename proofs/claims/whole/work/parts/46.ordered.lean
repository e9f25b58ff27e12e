theorem digits_two {m : Nat} (hm : m ≤ 4) {c r : vv_H} (ec : c.1 146 0 = nI m) (er : r.1 0 42 = nI m) {v : Int32} (hv : ¬ v < 0) : ∃ a, ff_X12_areDigits r v = some a ∧ ((v >>> ((4 : Int32) * nI m &&& 31) = 0 ∧ a = 1) ∨ (¬ v >>> ((4 : Int32) * nI m &&& 31) = 0 ∧ a = 0)) := by
  obtain ⟨d, hd, rfl⟩ := nI_of hv
  have key : ∀ k : Nat, k ≤ 16 → ∀ s : Int32, (s.toBitVec.smod 32).toNat = k → ∀ b : Int64, b = lN (2 ^ k) → ∃ a, (if 0 ≤ lg_cmp (nI d).toInt64 b then some (0 : Int32) else some 1) = some a ∧ ((nI d >>> s = 0 ∧ a = 1) ∨ (¬ nI d >>> s = 0 ∧ a = 0)) := fun k hk s hs b hb => by
    have h1 : 2 ^ k ≤ 2 ^ 16 := Nat.pow_le_pow_right (by decide) hk
    have h3 : d / 2 ^ k ≤ d := Nat.div_le_self _ _
    have h4 : (d / 2 ^ k = 0) ↔ d < 2 ^ k := by
      rw [Nat.div_eq_zero_iff]
      have : 0 < 2 ^ k := Nat.pow_pos (by decide)
      omega
    have h5 : (nI (d / 2 ^ k) = 0) ↔ d / 2 ^ k = 0 := nI_eq (show d / 2 ^ k < 2 ^ 31 by omega) (show 0 < 2 ^ 31 by decide)
    rw [pk_shrN hd s k hs, hb, nI_l hd, h5, h4]
    simp only [lg_cmp_ge, pk_lLE (show 2 ^ k < 2 ^ 63 by omega) (show d < 2 ^ 63 by omega)]
    by_cases g : 2 ^ k ≤ d
    · rw [if_pos g]
      exact ⟨_, rfl, Or.inr ⟨by omega, rfl⟩⟩
    · rw [if_neg g]
      exact ⟨_, rfl, Or.inl ⟨by omega, rfl⟩⟩
  simp only [ff_X12_areDigits, if_neg hv, er]
  have hc : m = 0 ∨ m = 1 ∨ m = 2 ∨ m = 3 ∨ m = 4 := by omega
  rcases hc with rfl | rfl | rfl | rfl | rfl
  · exact key 0 (by decide) _ (by decide) _ (by decide)
  · exact key 4 (by decide) _ (by decide) _ (by decide)
  · exact key 8 (by decide) _ (by decide) _ (by decide)
  · exact key 12 (by decide) _ (by decide) _ (by decide)
  · exact key 16 (by decide) _ (by decide) _ (by decide)
/-- what is weighed, on both sides, of the first i stores -/
def wei (c r c' r' : vv_H) (i : Nat) (sp lk : Nat → Nat) (sum : Int32) : Prop := RR c' r' ∧ (c'.2 = c.2 ∧ ∀ k j, k ≠ 154 → k ≠ 155 → c'.1 k j = c.1 k j) ∧ (∀ k j, k ≠ 51 → r'.1 k j = r.1 k j) ∧ (∀ s, sp s ≤ 36 ∧ lk s ≤ 15 ∧ (sp s = 0 ∨ lk s = 0)) ∧ (∀ s, i ≤ s → sp s = 0 ∧ lk s = 0) ∧ (∀ s, s < i → c'.1 154 s = nI (sp s) ∧ c'.1 155 s = nI (lk s) ∧ r'.1 51 s = nI (sp s) - nI (lk s)) ∧ sum.toInt = (cu sp i : Int) - cu lk i ∧ -15 * (i : Int) ≤ sum.toInt ∧ sum.toInt ≤ 36 * i
theorem cu_pt2 {f : Nat → Nat} {i v : Nat} : cu (pt f i v) i = cu f i := cu_eq i fun k hk => if_neg (by omega)
theorem wei_two {c r : vv_H} (H : RR c r) {m : Nat} (hm : m ≤ 4) (em : c.1 146 0 = nI m) (kind digits : Int32) : ∃ (a b : Int32 × vv_H), vv_lp (fun (zs : Int32 × Int32 × vv_H) => ff_X11_planned_B32 kind digits zs.1 zs.2.1 zs.2.2) vv_F ((0 : Int32), (0 : Int32), c) = some a ∧ vv_lp (fun (zs : Int32 × Int32 × vv_H) => ff_X12_layMore_B5 kind digits zs.1 zs.2.1 zs.2.2) vv_F ((0 : Int32), (0 : Int32), r) = some b ∧ ∃ (sp lk : Nat → Nat) (sum : Int32) (c' r' : vv_H), a = (sum, c') ∧ b = (sum, r') ∧ wei c r c' r' m sp lk sum := by
  refine lp_two (f := fun (zs : Int32 × Int32 × vv_H) => ff_X11_planned_B32 kind digits zs.1 zs.2.1 zs.2.2) (g := fun (zs : Int32 × Int32 × vv_H) => ff_X12_layMore_B5 kind digits zs.1 zs.2.1 zs.2.2) (fun i s t => ∃ (sp lk : Nat → Nat) (sum : Int32) (c' r' : vv_H), s = (sum, nI i, c') ∧ t = (sum, nI i, r') ∧ wei c r c' r' i sp lk sum) (fun a b => ∃ (sp lk : Nat → Nat) (sum : Int32) (c' r' : vv_H), a = (sum, c') ∧ b = (sum, r') ∧ wei c r c' r' m sp lk sum) m ?hs ?he vv_F 0 _ _ ⟨fun _ => 0, fun _ => 0, 0, c, r, rfl, rfl, H, ⟨rfl, fun _ _ _ _ => rfl⟩, fun _ _ _ => rfl, fun _ => ⟨Nat.zero_le _, Nat.zero_le _, Or.inl rfl⟩, fun _ _ => ⟨rfl, rfl⟩, fun s hs => absurd hs (Nat.not_lt_zero s), by decide, by decide, by decide⟩ (Nat.zero_le _) (vv_F_lt (by omega))
  case hs =>
    rintro i s t hi ⟨sp, lk, sum, c', r', rfl, rfl, H', f1, f2, b1, b2, b3, b4, b5, b6⟩
    left
    have em' : c'.1 146 0 = nI m := by rw [f1.2 146 0 (by omega) (by omega), em]
    have er' : r'.1 0 42 = nI m := by rw [rel_s146_0 H'.1, em']
    obtain ⟨st, st1, st2, st3⟩ := stock_two H' (nI i) kind
    obtain ⟨dg, dg1, dg2⟩ := pk_andE (digits >>> ((4 : Int32) * nI i &&& 31)) (m := 15) 4 (by decide)
    have dg3 : dg < 16 := dg1
    have v1 : (if (0 : Int32) < nI st - nI dg then nI st - nI dg else (0 : Int32)) = nI (st - dg) := by
      by_cases g : dg < st
      · rw [pk_sub (by omega), if_pos (show (0 : Int32) < nI (st - dg) from nI_lt (show 0 < st - dg by omega) (by omega))]
      · rw [if_neg (fun q => by
          rw [Int32.lt_iff_toInt_lt, pk_sub_toInt (by omega) (by omega), show (0 : Int32).toInt = 0 from rfl] at q
          omega), show st - dg = 0 by omega]
        rfl
    have v2 : (if (0 : Int32) < nI dg - nI st then nI dg - nI st else (0 : Int32)) = nI (dg - st) := by
      by_cases g : st < dg
      · rw [pk_sub (by omega), if_pos (show (0 : Int32) < nI (dg - st) from nI_lt (show 0 < dg - st by omega) (by omega))]
      · rw [if_neg (fun q => by
          rw [Int32.lt_iff_toInt_lt, pk_sub_toInt (by omega) (by omega), show (0 : Int32).toInt = 0 from rfl] at q
          omega), show dg - st = 0 by omega]
        rfl
    have v3 : nI st - nI dg = nI (st - dg) - nI (dg - st) := by
      by_cases g : dg ≤ st
      · rw [pk_sub g, show dg - st = 0 by omega, pk_sub (Nat.zero_le _), Nat.sub_zero]
      · rw [show st - dg = 0 by omega, show dg - st = dg - st from rfl]
        apply Int32.toInt_inj.mp
        rw [pk_sub_toInt (by omega) (by omega), pk_sub_toInt (by omega) (by omega)]
        omega
    have hi0 : (i : Int) < (c'.1 146 0).toInt := by rw [em', nI_toInt (by omega)]; omega
    have H1 := RR_154 H' (k := 154) (s := i) (v := nI (st - dg)) (Or.inl rfl) hi0
    have H2 := RR_154 H1 (k := 155) (s := i) (v := nI (dg - st)) (Or.inr rfl) (by rw [vv_iu_ne (by omega)]; exact hi0)
    have H3 : RR (vv_iu (vv_iu c' 154 i (nI (st - dg))) 155 i (nI (dg - st))) (vv_iu r' 51 i (nI st - nI dg)) := RR_core H2 (coC_rf _) (coR_iu (coR_rf r') (by unfold scR; omega))
    simp (disch := omega) only [ff_X11_planned_B32, ff_X12_layMore_B5, em', er', if_neg (nI_nle' hi (by omega)), st2, st3, dg2, Option.bind_some, vv_let, ff_X9_weigh, ck_lit, nI_clamp, v1, v2, vv_iu_eq, nI_1]
    have e1 : (nI st - nI dg).toInt = (st : Int) - dg := pk_sub_toInt (by omega) (by omega)
    have e2 : (sum + (nI st - nI dg)).toInt = sum.toInt + ((st : Int) - dg) := by
      rw [toInt_add_s (by omega) (by omega), e1]
    refine ⟨_, _, rfl, rfl, pt sp i (st - dg), pt lk i (dg - st), _, _, _, rfl, rfl, H3, ⟨f1.1, fun k j h1 h2 => by rw [vv_iu_ne h2, vv_iu_ne h1]; exact f1.2 k j h1 h2⟩, fun k j h1 => by rw [vv_iu_ne h1]; exact f2 k j h1, fun s => ?_, fun s hs => ?_, fun s hs => ?_, ?_, ?_, ?_⟩
    · unfold pt
      by_cases g : s = i
      · rw [if_pos g, if_pos g]
        omega
      · rw [if_neg g, if_neg g]
        exact b1 s
    · rw [pt, if_neg (by omega), pt, if_neg (by omega)]
      exact b2 s (by omega)
    · unfold pt
      by_cases g : s = i
      · subst g
        rw [if_pos rfl, if_pos rfl, vv_iu_eq, vv_iu_eq, vv_iu_ne (by omega), vv_iu_eq]
        exact ⟨rfl, rfl, v3⟩
      · rw [if_neg g, if_neg g]
        simp only [vv_iu_nj g]
        exact b3 s (by omega)
    · rw [e2, b4]
      show _ = ((cu (pt sp i (st - dg)) i + pt sp i (st - dg) i : Nat) : Int) - ((cu (pt lk i (dg - st)) i + pt lk i (dg - st) i : Nat) : Int)
      rw [cu_pt2, cu_pt2, pt, if_pos rfl, pt, if_pos rfl]
      omega
    · omega
    · omega
  case he =>
    rintro s t ⟨sp, lk, sum, c', r', rfl, rfl, hw⟩
    have em' : c'.1 146 0 = nI m := by rw [hw.2.1.2 146 0 (by omega) (by omega), em]
    have er' : r'.1 0 42 = nI m := by rw [rel_s146_0 hw.1.1, em']
    simp only [ff_X11_planned_B32, ff_X12_layMore_B5, em', er', if_pos (nI_le (Nat.le_refl m) (show m < 2 ^ 31 by omega))]
    exact ⟨_, _, rfl, rfl, sp, lk, sum, c', r', rfl, rfl, hw⟩
/-- lanes by pair -/
theorem ln_ex (p : Nat → Bool) : ∃ ln : Nat → Nat, ∀ l, l < 16 → p l = true → ln (ko p l) = l := emb_of (p := p) (fun l => l) 16
/-- the plan, on both sides -/
theorem plan_two {c r : vv_H} (H : RR c r) (kind digits : Int32) : (∃ o : Int32, o < 0 ∧ ∃ c' r', ff_X11_planned c kind digits = some (o, c') ∧ RR c' r' ∧ (ff_X12_in kind.toInt64 (0 : Int64) (3 : Int64)).bind (fun r1 => if r1 = 0 then some (-1, r) else (ff_X12_areDigits r digits).bind fun r3 => if r3 = 0 then some (-1, r) else (ff_X12_layMore r kind digits).bind fun r5 => if r5.1 = 0 then some (-4, r5.2) else none) = some (o, r')) ∨
    (∃ (c' r5 r' : vv_H) (b : Nat) (s : Int32) (sp lk ln mo z bz : Nat → Nat), ff_X11_planned c kind digits = some (0, c') ∧ RR c' r' ∧ ff_X12_in kind.toInt64 (0 : Int64) (3 : Int64) = some 1 ∧ ff_X12_areDigits r digits = some 1 ∧ ff_X12_layMore r kind digits = some (1, r5) ∧ ff_X12_leastCost r5 = some (s, r') ∧ s = nI b ∧ c'.1 146 1 = nI b ∧ ko (pq sp lk) 16 ≤ 4 ∧ ord r5 r' (ko (pq sp lk) 16) ln mo z ∧ nrow r' 50 (ko (pq sp lk) 16) bz ∧ (∀ l, l < 16 → pq sp lk l = true → ln (ko (pq sp lk) l) = l) ∧ ∀ l, l < 16 → c'.1 152 l = nI (emb (pq sp lk) bz l)) := by
  have hm0 := H.b (k := 146) (j := 0) rfl
  obtain ⟨m, hm, em⟩ := to_nI (n := 5) hm0.1 (by omega) (by decide)
  have er : r.1 0 42 = nI m := by rw [rel_s146_0 H.1, em]
  simp only [m_in, Int32.toInt_toInt64, show (0 : Int64).toInt = 0 from rfl, show (3 : Int64).toInt = 3 from rfl, Option.bind_some, wi_ite, ff_X11_planned, m_isKind, em]
  by_cases g1 : 0 ≤ kind.toInt ∧ kind.toInt ≤ 3
  case neg =>
    left
    rw [if_neg g1, if_neg g1]
    exact ⟨-1, by decide, _, _, rfl, H, rfl⟩
  rw [if_pos g1, if_pos g1]
  by_cases g2 : digits < 0
  · left
    rw [if_pos g2]
    refine ⟨-1, by decide, _, _, rfl, H, ?_⟩
    simp only [ff_X12_areDigits, if_pos g2, Option.bind_some, if_true]
  rw [if_neg g2]
  obtain ⟨a, a1, a2⟩ := digits_two (by omega) em er g2
  simp only [a1, Option.bind_some]
  rcases a2 with ⟨a2, rfl⟩ | ⟨a2, rfl⟩
  case inr =>
    left
    rw [if_neg a2]
    exact ⟨-1, by decide, _, _, rfl, H, rfl⟩
  rw [if_pos a2]
  obtain ⟨x, y, e1, e2, sp, lk, sum, c', r', rfl, rfl, hw⟩ := wei_two H (by omega) em kind digits
  simp only [e1, ff_X12_layMore, e2, Option.bind_some, show ((1 : Int32) = 0) = False from by decide, if_false]
  obtain ⟨H', f1, f2, b1, b2, b3, b4, b5, b6⟩ := hw
  by_cases g3 : sum < 0
  · left
    rw [if_pos g3, if_neg (fun q => by rw [Int32.le_iff_toInt_le] at q; rw [Int32.lt_iff_toInt_lt] at g3; omega)]
    exact ⟨-4, by decide, _, _, rfl, H', rfl⟩
  right
  have g3' : 0 ≤ sum := by rw [Int32.le_iff_toInt_le]; rw [Int32.lt_iff_toInt_lt] at g3; omega
  rw [if_neg g3, if_pos g3']
  have em' : c'.1 146 0 = nI m := by rw [f1.2 146 0 (by omega) (by omega), em]
  have er' : r'.1 0 42 = nI m := by rw [rel_s146_0 H'.1, em']
  obtain ⟨ln, hln⟩ := ln_ex (pq sp lk)
  -- the roads
  have hro : ∀ f t, f < 4 → t < 4 → ∃ n, n ≤ 99 ∧ c.1 (148 + f) t = nI n := fun f t hf ht => by
    have q : wfb (148 + f) t = some (0, 99) := (by decide +kernel : ∀ f, f < 4 → ∀ t, t < 4 → wfb (148 + f) t = some (0, 99)) f hf t ht
    have := H.b q
    obtain ⟨n, h1, h2⟩ := to_nI (n := 100) this.1 (by omega) (by decide)
    exact ⟨n, by omega, h2⟩
  obtain ⟨rd, hrdE⟩ : ∃ rd : Nat → Nat, rd = fun l => (c.1 (148 + l / 4) (l % 4)).toNatClampNeg := ⟨_, rfl⟩
  have hrd : ∀ l, l < 16 → rd l ≤ 99 ∧ c.1 (148 + l / 4) (l % 4) = nI (rd l) := fun l hl => by
    obtain ⟨n, h1, h2⟩ := hro (l / 4) (l % 4) (by omega) (by omega)
    have : rd l = n := by
      rw [hrdE]
      show (c.1 (148 + l / 4) (l % 4)).toNatClampNeg = n
      rw [h2, nI_clamp (by omega)]
    rw [this]
    exact ⟨h1, h2⟩
  have hsto : sto r' m sp lk ln rd := ⟨by omega, er', fun s => (b1 s).1, fun s => (b1 s).2.1, fun s => (b1 s).2.2, b2, fun s hs => (b3 s hs).2.2, hln, fun l hl => (hrd l hl).1, fun l hl hp => by
    obtain ⟨f, t, hf, ht, rfl⟩ : ∃ f t, f < 4 ∧ t < 4 ∧ l = 4 * f + t := ⟨l / 4, l % 4, by omega, by omega, by omega⟩
    have h1 := (pq_iff ht).mp hp
    have h2 := (b1 f).2.2
    have hne : f ≠ t := fun q => by
      subst q
      omega
    rw [rel_ro H'.1 hf ht hne, f1.2 _ _ (by omega) (by omega)]
    have := (hrd (4 * f + t) hl).2
    rwa [show (4 * f + t) / 4 = f by omega, show (4 * f + t) % 4 = t by omega] at this⟩
  obtain ⟨s, r2, b, mm, z, l1, l2, l3, l4⟩ := least_r hsto
  -- the component's search
  have hz : ∀ s, (¬ s < m → c'.1 154 s = nI (sp s) ∧ c'.1 155 s = nI (lk s)) := fun s hs => by
    obtain ⟨z1, z2⟩ := b2 s (by omega)
    obtain ⟨z3, z4⟩ := H'.2.2.1.2.2.2.2 s (by rw [em', nI_toInt (by omega)]; omega)
    rw [z1, z2, z3, z4]
    exact ⟨rfl, rfl⟩
  have hA : ∀ s, c'.1 154 s = nI (sp s) ∧ c'.1 155 s = nI (lk s) := fun s => by
    by_cases q : s < m
    · exact ⟨(b3 s q).1, (b3 s q).2.1⟩
    · exact hz s q
  obtain ⟨mo0, hmo0⟩ : ∃ mo0 : Nat → Nat, ∀ l, c'.1 152 l = nI (mo0 l) := ⟨fun l => Classical.choose (nI_all (c'.1 152 l)), fun l => Classical.choose_spec (nI_all (c'.1 152 l))⟩
  obtain ⟨c3, b', m', t1, t2, t3, t4, t5⟩ := try_c (sp := sp) (lk := lk) (rd := rd) (fun s _ => (b1 s).1) (fun s _ => (b1 s).2.1) (fun l hl => (hrd l hl).1) 16 0 rfl (fun _ => 0) sp lk (vv_iu c' 146 1 1000000) 1000000 mo0
    ⟨fun _ _ => rfl, fun f _ => (by show 0 + 0 + 0 + 0 + sp f = sp f; omega), fun t _ => (by show 0 + 0 + 0 + 0 + lk t = lk t; omega), fun t _ h => absurd h (Nat.not_lt_zero _)⟩
    ⟨fun l _ => by rw [vv_iu_ne (by omega)]; exact H'.2.2.1.2.2.2.1 l, fun f _ => by rw [vv_iu_ne (by omega)]; exact (hA f).1, fun t _ => by rw [vv_iu_ne (by omega)]; exact (hA t).2⟩
    (fun f t hf ht => by
      rw [vv_iu_ne (by omega), f1.2 _ _ (by omega) (by omega)]
      have := (hrd (4 * f + t) (by omega)).2
      rwa [show (4 * f + t) / 4 = f by omega, show (4 * f + t) % 4 = t by omega] at this)
    (Nat.le_refl _) ⟨by rw [vv_iu_eq]; rfl, fun l _ => by rw [vv_iu_ne (by omega)]; exact hmo0 l⟩
  have ec0 : nI (cst rd fun _ => 0) = 0 := by
    have : cst rd (fun _ => 0) = 0 := by
      unfold cst
      rw [cu_eq 16 (g := fun _ => 0) fun i _ => Nat.zero_mul _]
      rfl
    rw [this]
    rfl
  have ex : ∃ x, feas sp lk x := by
    refine feas_ex ?_
    have h1 : 0 ≤ sum.toInt := by rw [Int32.le_iff_toInt_le] at g3'; exact g3'
    rw [b4] at h1
    have full : ∀ f : Nat → Nat, (∀ s, m ≤ s → f s = 0) → cu f m = f 0 + f 1 + f 2 + f 3 := fun f hf => by
      have hc : m = 0 ∨ m = 1 ∨ m = 2 ∨ m = 3 ∨ m = 4 := by omega
      rcases hc with rfl | rfl | rfl | rfl | rfl
      · rw [hf 0 (by omega), hf 1 (by omega), hf 2 (by omega), hf 3 (by omega)]
        rfl
      · rw [hf 1 (by omega), hf 2 (by omega), hf 3 (by omega)]
        show 0 + f 0 = _
        omega
      · rw [hf 2 (by omega), hf 3 (by omega)]
        show 0 + f 0 + f 1 = _
        omega
      · rw [hf 3 (by omega)]
        show 0 + f 0 + f 1 + f 2 = _
        omega
      · show 0 + f 0 + f 1 + f 2 + f 3 = _
        omega
    have h2 := full sp fun s hs => (b2 s hs).1
    have h3 := full lk fun s hs => (b2 s hs).2
    omega
  have t6 : out rd (feas sp lk) 1000000 mo0 b' m' := out_iff t5 fun y => ⟨fun q => ⟨q, fun l hl => absurd hl (Nat.not_lt_zero l)⟩, fun q => q.1⟩
  obtain ⟨u1, u2, u3, u4⟩ := out_one (fun t _ => (b1 t).2.1) (fun l hl => (hrd l hl).1) ex t6 l4
  rcases l3 with ⟨rfl, q⟩ | ⟨rfl, q, bz, rfl, q2⟩
  · omega
  refine ⟨c3, r', r2, b, nI b, sp, lk, ln, _, z, bz, ?_, ?_, by rw [show wi kind.toInt 0 3 = 1 from if_pos g1], (by first | exact True.intro | rfl), (by first | exact True.intro | rfl), l1, rfl, by rw [t3.1, u1], ko_4 fun s _ => (b1 s).2.2, l2, q2, hln, fun l hl => by rw [t3.2 l hl, u3 l hl]⟩
  · rw [ec0] at t1
    simp only [ff_X9_plan, vv_let]
    rw [show ff_X9_tryLane 17 0 0 (vv_iu c' 146 1 1000000) = some c3 from t1]
    rfl
  · refine RR_core2 H' ⟨by rw [t2.1]; rfl, fun k j h1 h2 => ?_⟩ (fun k j h1 => ?_) ⟨fun j => ?_, fun j hj => ?_⟩
    · have hk : k ≠ 152 ∧ ¬ (k = 146 ∧ j = 1) := by
        unfold scC at h1
        omega
      rw [t2.2 k j hk.1 hk.2, vv_iu_e, if_neg hk.2]
    · unfold scR at h1
      exact l2.1.2 k j (by omega) (by omega)
    · rw [t2.2 153 j (by omega) (by omega), vv_iu_ne (by omega)]
      exact H'.2.2.1.2.2.2.1 j
    · rw [t2.2 146 0 (by omega) (by omega), vv_iu_nj (by omega)] at hj
      rw [t2.2 154 j (by omega) (by omega), t2.2 155 j (by omega) (by omega), vv_iu_ne (by omega), vv_iu_ne (by omega)]
      exact H'.2.2.1.2.2.2.2 j hj
