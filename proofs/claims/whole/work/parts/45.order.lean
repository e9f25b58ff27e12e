theorem pv_le {x y : Nat → Nat} {n : Nat} (h : ∀ k, k < n → x k ≤ y k) : pv x n ≤ pv y n := by
  induction n with
  | zero => exact Nat.le_refl 0
  | succ n ih =>
    have h1 := ih fun k hk => h k (by omega)
    have h2 := h n (by omega)
    unfold pv
    omega
theorem pv_16 {x : Nat → Nat} {n : Nat} (h : ∀ k, k < n → x k ≤ 15) : pv x n < 16 ^ n := by
  induction n with
  | zero => exact Nat.zero_lt_one
  | succ n ih =>
    have h1 := ih fun k hk => h k (by omega)
    have h2 := h n (by omega)
    rw [Nat.pow_succ]
    unfold pv
    omega
/-- the next numbers: k0 grows by one, those behind begin anew -/
def nxt (z : Nat → Nat) (k0 : Nat) : Nat → Nat := fun k => if k < k0 then z k else if k = k0 then z k0 + 1 else 0
theorem nxt_lt {z : Nat → Nat} {k0 P : Nat} (hk : k0 < P) (h : ∀ k, k < P → z k ≤ 15) : pv z P < pv (nxt z k0) P :=
  pv_lt (k := k0) (fun l hl => by rw [nxt, if_pos hl]) (by rw [nxt, if_neg (Nat.lt_irrefl _), if_pos rfl]; omega) hk h
theorem nxt_no {z mk y : Nat → Nat} {k0 P : Nat} (hk : k0 < P) (hm : ∀ k, k < P → mk k ≤ 15) (hz : ∀ k, k < P → z k ≤ mk k) (h0 : z k0 ≠ mk k0) (h1 : ∀ k, k0 < k → k < P → z k = mk k) (hy : ∀ k, k < P → y k ≤ mk k) (hlt : pv y P < pv (nxt z k0) P) : pv y P ≤ pv z P := by
  have z15 : ∀ k, k < P → z k ≤ 15 := fun k hk => Nat.le_trans (hz k hk) (hm k hk)
  have y15 : ∀ k, k < P → y k ≤ 15 := fun k hk => Nat.le_trans (hy k hk) (hm k hk)
  have en : pv (nxt z k0) k0 = pv z k0 := pv_eq fun l hl => by rw [nxt, if_pos hl]
  have n15 : ∀ k, k < P → nxt z k0 k ≤ 15 := fun k hkP => by
    unfold nxt
    have a1 := z15 k hkP
    have a2 := hz k0 hk
    have a3 := hm k0 hk
    split
    · exact a1
    · split <;> omega
  obtain ⟨d, rfl⟩ : ∃ d, P = k0 + d := ⟨P - k0, by omega⟩
  rcases Nat.lt_trichotomy (pv y k0) (pv z k0) with q | q | q
  · exact Nat.le_of_lt (pv_up q d y15)
  · have e := pv_inj (fun k hk2 => y15 k (by omega)) (fun k hk2 => z15 k (by omega)) q
    rcases Nat.lt_trichotomy (y k0) (z k0) with g | g | g
    · exact Nat.le_of_lt (pv_lt e g hk y15)
    · refine pv_le fun k hk2 => ?_
      rcases Nat.lt_trichotomy k k0 with w | w | w
      · rw [e k w]
        exact Nat.le_refl _
      · rw [w, g]
        exact Nat.le_refl _
      · rw [h1 k w hk2]
        exact hy k hk2
    · exfalso
      have : pv (nxt z k0) (k0 + d) ≤ pv y (k0 + d) := by
        by_cases g2 : z k0 + 1 = y k0
        · refine pv_le fun k hk2 => ?_
          unfold nxt
          by_cases w : k < k0
          · rw [if_pos w, e k w]
            exact Nat.le_refl _
          · rw [if_neg w]
            by_cases w2 : k = k0
            · rw [if_pos w2, w2, g2]
              exact Nat.le_refl _
            · rw [if_neg w2]
              exact Nat.zero_le _
        · refine Nat.le_of_lt (pv_lt (k := k0) (fun l hl => ?_) ?_ hk n15)
          · rw [nxt, if_pos hl, e l hl]
          · rw [nxt, if_neg (Nat.lt_irrefl _), if_pos rfl]
            omega
      omega
  · exfalso
    rw [← en] at q
    have := pv_up q d n15
    omega
theorem ord_cg {r g : vv_H} {P : Nat} {ln mo z z' : Nat → Nat} (h : ord r g P ln mo z) (e : ∀ k, k < P → z k = z' k) : ord r g P ln mo z' := ⟨h.1, h.2.1, h.2.2.1, fun k hk => by rw [h.2.2.2 k hk, e k hk]⟩
/-- the odometer of the reference -/
theorem odo_r {r h : vv_H} {P : Nat} {ln mo z : Nat → Nat} (hP : P ≤ 4) (hg : ord r h P ln mo z) (hm : ∀ k, k < P → mo (ln k) ≤ 15) (hz : ∀ k, k < P → z k ≤ mo (ln k)) (m1 : Int32) : ∃ (s : Int32) (g : vv_H), ff_X12_leastCost_J64 m1 h = some (.inl (m1, s, g)) ∧ g.1 50 = h.1 50 ∧ ((s = 0 ∧ (∀ k, k < P → z k = mo (ln k)) ∧ ∃ z', ord r g P ln mo z') ∨ (s = 1 ∧ ∃ k0, k0 < P ∧ z k0 ≠ mo (ln k0) ∧ (∀ k, k0 < k → k < P → z k = mo (ln k)) ∧ ord r g P ln mo (nxt z k0))) := by
  have hL := lp_count (f := fun (zs : Int32 × vv_H) => ff_X12_leastCost_B72 m1 zs.1 zs.2) (fun i t => ∃ g, t = (nI (P - i) + (-1), g) ∧ i ≤ P ∧ g.1 50 = h.1 50 ∧ ord r g P ln mo (fun k => if k < P - i then z k else 0) ∧ ∀ k, P - i ≤ k → k < P → z k = mo (ln k)) (fun a => a.2.1 50 = h.1 50 ∧ ((a.1 = -1 ∧ (∀ k, k < P → z k = mo (ln k)) ∧ ∃ z', ord r a.2 P ln mo z') ∨ ∃ k0, k0 < P ∧ a.1 = nI k0 ∧ z k0 ≠ mo (ln k0) ∧ (∀ k, k0 < k → k < P → z k = mo (ln k)) ∧ ord r a.2 P ln mo (fun k => if k < k0 + 1 then z k else 0))) P ?hs ?he vv_F 0 (nI P + (-1), h) ⟨h, rfl, Nat.zero_le _, rfl, ord_cg hg fun k hk => (if_pos (by omega)).symm, fun k h1 h2 => by omega⟩ (Nat.zero_le _) (vv_F_lt (by omega))
  case hs =>
    rintro i t hi ⟨g, rfl, _, e50, f, hmx⟩
    obtain ⟨d, hd⟩ : ∃ d, P - i = d + 1 := ⟨P - i - 1, by omega⟩
    have hdP : d < P := by omega
    have ez := f.2.2.2 d hdP
    have em := (f.2.2.1 d hdP).2.2
    rw [hd] at ez
    replace ez : g.1 49 d = nI (z d) := ez.trans (congrArg nI (if_pos (show d < d + 1 by omega)))
    have b1 := hm d hdP
    have b2 := hz d hdP
    simp (disch := omega) only [ff_X12_leastCost_B72, hd, pk_m1, if_neg (nI_pos (show d < 2 ^ 31 by omega)), ck_lit, nI_clamp, ez, em, nI_eq, vv_let]
    by_cases c : z d = mo (ln d)
    · rw [if_pos c]
      left
      refine ⟨_, rfl, vv_iu g 49 d (nI 0), by rw [show P - (i + 1) = d by omega]; rfl, by omega, by rw [vv_iu_ne (by omega), e50], ord_cg (ord_49 (k := d) (v := 0) f) fun k hk => ?_, fun k h1 h2 => ?_⟩
      · unfold pt
        by_cases w : k = d
        · rw [if_pos w, if_neg (by omega)]
        · rw [if_neg w]
          by_cases w2 : k < P - i
          · show (if k < P - i then z k else 0) = _
            rw [if_pos w2, if_pos (by omega)]
          · show (if k < P - i then z k else 0) = _
            rw [if_neg w2, if_neg (by omega)]
      · by_cases w : k = d
        · rw [w, c]
        · exact hmx k (by omega) h2
    · rw [if_neg c]
      right
      rw [hd] at f hmx
      exact ⟨_, rfl, e50, Or.inr ⟨d, hdP, rfl, c, fun k h1 h2 => hmx k (by omega) h2, f⟩⟩
  case he =>
    rintro t ⟨g, rfl, _, e50, f, hmx⟩
    simp only [ff_X12_leastCost_B72, Nat.sub_self, show nI 0 + (-1 : Int32) < 0 from by decide, if_true]
    refine ⟨_, rfl, e50, Or.inl ⟨rfl, fun k hk => hmx k (by omega) hk, _, f⟩⟩
  obtain ⟨⟨s, g⟩, e1, e50, hJ⟩ := hL
  have ep : nI P - 1 = nI P + (-1) := Int32.sub_eq_add_neg _ _
  simp only [ff_X12_leastCost_J64, hg.2.1, ep, vv_let, e1, Option.bind_some]
  rcases hJ with ⟨rfl, hmx, z', f⟩ | ⟨k0, hk0, rfl, hne, hmx, f⟩
  · simp only [show ((-1 : Int32) < 0) = True from by decide, if_true, ff_X12_leastCost_J118]
    exact ⟨_, _, rfl, e50, Or.inl ⟨rfl, hmx, z', f⟩⟩
  · have ez := f.2.2.2 k0 hk0
    replace ez : g.1 49 k0 = nI (z k0) := ez.trans (congrArg nI (if_pos (show k0 < k0 + 1 by omega)))
    have b1 := hm k0 hk0
    have b2 := hz k0 hk0
    simp (disch := omega) only [if_neg (nI_pos (show k0 < 2 ^ 31 by omega)), ff_X12_leastCost_J118, show ((1 : Int32) = 0) = False from by decide, if_false, ck_lit, nI_clamp, ez, nI_1, vv_let]
    refine ⟨_, _, rfl, by rw [vv_iu_ne (by omega)]; exact e50, Or.inr ⟨rfl, k0, hk0, hne, hmx, ord_cg (ord_49 f) fun k hk => ?_⟩⟩
    unfold pt nxt
    by_cases w : k = k0
    · rw [if_pos w, if_neg (by omega), if_pos w]
    · rw [if_neg w]
      by_cases w2 : k < k0
      · show (if k < k0 + 1 then z k else 0) = _
        rw [if_pos w2, if_pos (by omega)]
      · show (if k < k0 + 1 then z k else 0) = _
        rw [if_neg w2, if_neg (by omega), if_neg w]
theorem copy_r {r h : vv_H} {P : Nat} {ln mo z : Nat → Nat} (hP : P ≤ 4) (hg : ord r h P ln mo z) (m3 : Int32) : ∃ g, vv_lp (fun (zs : Int32 × vv_H) => ff_X12_leastCost_B35 m3 zs.1 zs.2) vv_F ((0 : Int32), h) = some g ∧ ord r g P ln mo z ∧ nrow g 50 P z := by
  have hL := lp_count (f := fun (zs : Int32 × vv_H) => ff_X12_leastCost_B35 m3 zs.1 zs.2) (fun i t => ∃ g, t = (nI i, g) ∧ ord r g P ln mo z ∧ nrow g 50 i z) (fun g => ord r g P ln mo z ∧ nrow g 50 P z) P ?hs ?he vv_F 0 ((0 : Int32), h) ⟨h, rfl, hg, fun k hk => absurd hk (Nat.not_lt_zero k)⟩ (Nat.zero_le _) (vv_F_lt (by omega))
  case hs =>
    rintro i t hi ⟨g, rfl, f, f2⟩
    left
    simp (disch := omega) only [ff_X12_leastCost_B35, f.2.1, if_neg (nI_nle' hi (by omega)), ck_lit, nI_clamp, f.2.2.2 i hi, vv_let, nI_1]
    refine ⟨_, rfl, _, rfl, ord_50 f, fun k hk => ?_⟩
    rw [vv_iu_e]
    by_cases w : k = i
    · rw [if_pos ⟨rfl, w⟩, w]
    · rw [if_neg (fun q => w q.2)]
      exact f2 k (by omega)
  case he =>
    rintro t ⟨g, rfl, f, f2⟩
    simp only [ff_X12_leastCost_B35, f.2.1, if_pos (nI_le (Nat.le_refl P) (show P < 2 ^ 31 by omega))]
    exact ⟨_, rfl, f, f2⟩
  exact hL
/-- the best so far in the reference -/
def bsR (g : vv_H) (P : Nat) (p : Nat → Bool) (s1 : Int32) (b : Nat) (m : Nat → Nat) : Prop := (s1 = -1 ∧ b = 1000000) ∨ (s1 = nI b ∧ b ≤ 5940 ∧ ∃ bz, m = emb p bz ∧ nrow g 50 P bz)
theorem bsR_cg {g g' : vv_H} {P : Nat} {p : Nat → Bool} {s1 : Int32} {b : Nat} {m : Nat → Nat} (h : bsR g P p s1 b m) (e : g'.1 50 = g.1 50) : bsR g' P p s1 b m := by
  rcases h with h | ⟨h1, h2, bz, h3, h4⟩
  · exact Or.inl h
  · exact Or.inr ⟨h1, h2, bz, h3, fun k hk => by rw [e]; exact h4 k hk⟩
/-- the plans by numbers below z -/
def plo (sp lk ln z : Nat → Nat) (y : Nat → Nat) : Prop := feas sp lk y ∧ ∃ x : Nat → Nat, (∀ k, k < ko (pq sp lk) 16 → x k ≤ min (sp (ln k / 4)) (lk (ln k % 4))) ∧ pv x (ko (pq sp lk) 16) < pv z (ko (pq sp lk) 16) ∧ ∀ l, l < 16 → y l = emb (pq sp lk) x l
def pla (sp lk z : Nat → Nat) (y : Nat → Nat) : Prop := feas sp lk y ∧ ∀ l, l < 16 → y l = emb (pq sp lk) z l
theorem emb_cg {p : Nat → Bool} {x z : Nat → Nat} (h : ∀ k, k < ko p 16 → x k = z k) : ∀ l, l < 16 → emb p x l = emb p z l := fun l hl => by
  unfold emb
  by_cases q : p l = true
  · rw [if_pos q, if_pos q]
    exact h _ (ko_lt q hl)
  · rw [if_neg q, if_neg q]
theorem pla_out {sp lk rd z : Nat → Nat} {b : Nat} {m : Nat → Nat} : (feas sp lk (emb (pq sp lk) z) ∧ cst rd (emb (pq sp lk) z) < b → out rd (pla sp lk z) b m (cst rd (emb (pq sp lk) z)) (emb (pq sp lk) z)) ∧ (¬ (feas sp lk (emb (pq sp lk) z) ∧ cst rd (emb (pq sp lk) z) < b) → out rd (pla sp lk z) b m b m) := by
  constructor
  · rintro ⟨h1, h2⟩
    exact Or.inr ⟨h2, ⟨h1, fun _ _ => rfl⟩, rfl, fun y hy => Or.inr ⟨cst_eq fun l hl => (hy.2 l hl).symm, Nat.le_of_eq (pv_eq fun l hl => (hy.2 l hl).symm)⟩⟩
  · intro h
    refine out_no fun y hy => ?_
    have e1 : cst rd y = cst rd (emb (pq sp lk) z) := cst_eq hy.2
    have e2 : feas sp lk (emb (pq sp lk) z) := by
      refine ⟨fun f hf => ?_, fun t ht => ?_⟩
      · have := hy.1.1 f hf
        unfold row at this ⊢
        rw [hy.2 _ (by omega), hy.2 _ (by omega), hy.2 _ (by omega), hy.2 _ (by omega)] at this
        exact this
      · have := hy.1.2 t ht
        unfold col at this ⊢
        rw [hy.2 _ (by omega), hy.2 _ (by omega), hy.2 _ (by omega), hy.2 _ (by omega)] at this
        exact this
    rw [e1]
    exact Nat.le_of_not_lt fun q => h ⟨e2, q⟩
theorem feas_emb {sp lk ln y : Nat → Nat} (hln : ∀ l, l < 16 → pq sp lk l = true → ln (ko (pq sp lk) l) = l) (hy : feas sp lk y) : ∃ x : Nat → Nat, (∀ k, k < ko (pq sp lk) 16 → x k ≤ min (sp (ln k / 4)) (lk (ln k % 4))) ∧ ∀ l, l < 16 → y l = emb (pq sp lk) x l := by
  have bd : ∀ l, l < 16 → y l ≤ min (sp (l / 4)) (lk (l % 4)) := fun l hl => by
    have h1 := hy.1 (l / 4) (by omega)
    have h2 := hy.2 (l % 4) (by omega)
    obtain ⟨f, t, hf, ht, rfl⟩ : ∃ f t, f < 4 ∧ t < 4 ∧ l = 4 * f + t := ⟨l / 4, l % 4, by omega, by omega, by omega⟩
    rw [show (4 * f + t) / 4 = f by omega] at h1 ⊢
    rw [show (4 * f + t) % 4 = t by omega] at h2 ⊢
    have a1 : y (4 * f + t) ≤ row y f := by
      unfold row
      rcases lt4 ht with rfl | rfl | rfl | rfl <;> omega
    have a2 : y (4 * f + t) ≤ col y t := by
      unfold col
      rcases lt4 hf with rfl | rfl | rfl | rfl <;> omega
    omega
  obtain ⟨x, hx⟩ := emb_of (p := pq sp lk) y 16
  refine ⟨x, fun k hk => ?_, fun l hl => ?_⟩
  · obtain ⟨l1, l2, l3⟩ := ln_of hln hk
    have := hx _ l1 l2
    rw [l3] at this
    rw [this]
    exact bd _ l1
  · unfold emb
    by_cases q : pq sp lk l = true
    · rw [if_pos q, hx l hl q]
    · rw [if_neg q]
      have := bd l hl
      have h3 := pq_iff (sp := sp) (lk := lk) (f := l / 4) (show l % 4 < 4 by omega)
      rw [show 4 * (l / 4) + l % 4 = l by omega] at h3
      have : ¬ (0 < sp (l / 4) ∧ 0 < lk (l % 4)) := fun w => q (h3.mpr w)
      omega
theorem least_r {r : vv_H} {S : Nat} {sp lk ln rd : Nat → Nat} (hs : sto r S sp lk ln rd) : ∃ (s : Int32) (g : vv_H) (b : Nat) (m : Nat → Nat) (z : Nat → Nat), ff_X12_leastCost r = some (s, g) ∧ ord r g (ko (pq sp lk) 16) ln (fun l => min (sp (l / 4)) (lk (l % 4))) z ∧ bsR g (ko (pq sp lk) 16) (pq sp lk) s b m ∧ out rd (feas sp lk) 1000000 (fun _ => 0) b m := by
  have hs0 := hs
  obtain ⟨hS, eS, hsp, hlk, h0, hzz, hm, hln, hrd, hro⟩ := hs
  have k4 := ko_4 (sp := sp) (lk := lk) fun s _ => h0 s
  obtain ⟨g0, e0, f1, f2, f3, f4⟩ := pairs_r hS eS (fun s => by have := hsp s; omega) (fun s => by have := hlk s; omega) h0 hzz hm hln
  have m15 : ∀ k, k < ko (pq sp lk) 16 → (fun l => min (sp (l / 4)) (lk (l % 4))) (ln k) ≤ 15 := fun k _ => by
    show min (sp (ln k / 4)) (lk (ln k % 4)) ≤ 15
    have := hlk (ln k % 4)
    omega
  obtain ⟨P, hP⟩ : ∃ P, P = ko (pq sp lk) 16 := ⟨_, rfl⟩
  have hL := lp_count (f := fun (zs : Int32 × Int32 × vv_H) => ff_X12_leastCost_B8 zs.1 zs.2.1 zs.2.2) (fun i t => ∃ (s s2 : Int32) (g : vv_H) (b : Nat) (m z : Nat → Nat), t = (s, s2, g) ∧ ord r g P ln (fun l => min (sp (l / 4)) (lk (l % 4))) z ∧ bsR g P (pq sp lk) s b m ∧ ((s2 = 1 ∧ (∀ k, k < P → z k ≤ min (sp (ln k / 4)) (lk (ln k % 4))) ∧ i ≤ pv z P ∧ out rd (plo sp lk ln z) 1000000 (fun _ => 0) b m) ∨ (s2 = 0 ∧ out rd (feas sp lk) 1000000 (fun _ => 0) b m))) (fun a => ∃ (b : Nat) (m z : Nat → Nat), ord r a.2 P ln (fun l => min (sp (l / 4)) (lk (l % 4))) z ∧ bsR a.2 P (pq sp lk) a.1 b m ∧ out rd (feas sp lk) 1000000 (fun _ => 0) b m) 65537 ?hs ?he vv_F 0 ((-1 : Int32), (1 : Int32), g0) ⟨-1, 1, g0, 1000000, fun _ => 0, fun _ => 0, rfl, by rw [hP]; exact ⟨f1, f2, f3, f4⟩, Or.inl ⟨rfl, rfl⟩, Or.inl ⟨rfl, fun _ _ => Nat.zero_le _, Nat.zero_le _, out_no fun y hy => ?hz⟩⟩ (Nat.zero_le _) (vv_F_lt (by decide))
  case hz =>
    obtain ⟨_, x, _, hx, _⟩ := hy
    have : pv (fun _ => 0) (ko (pq sp lk) 16) ≤ pv x (ko (pq sp lk) 16) := pv_le fun _ _ => Nat.zero_le _
    omega
  case he =>
    rintro t ⟨s, s2, g, b, m, z, rfl, q1, q2, ⟨rfl, q3, q4, q5⟩ | ⟨rfl, q3⟩⟩
    · exfalso
      have h1 : pv z P < 16 ^ P := pv_16 fun k hk => Nat.le_trans (q3 k hk) (by have := hlk (ln k % 4); omega)
      have h2 : 16 ^ P ≤ 16 ^ 4 := Nat.pow_le_pow_right (by decide) (by omega)
      omega
    · simp only [ff_X12_leastCost_B8, if_true]
      exact ⟨_, rfl, b, m, z, q1, q2, q3⟩
  case hs =>
    rintro i t hi ⟨s, s2, g, b, m, z, rfl, q1, q2, ⟨rfl, q3, q4, q5⟩ | ⟨rfl, q3⟩⟩
    case inr =>
      right
      simp only [ff_X12_leastCost_B8, if_true]
      exact ⟨_, rfl, b, m, z, q1, q2, q3⟩
    left
    have z15 : ∀ k, k < P → z k ≤ 15 := fun k hk => Nat.le_trans (q3 k hk) (by have := hlk (ln k % 4); omega)
    obtain ⟨a, c1, c2⟩ := cost_r hs0 (by rw [hP] at q1; exact q1) (by rw [hP] at z15; exact z15)
    -- what follows when the best is settled
    have fin : ∀ (s' : Int32) (g' : vv_H) (b' : Nat) (m' : Nat → Nat), ord r g' P ln (fun l => min (sp (l / 4)) (lk (l % 4))) z → bsR g' P (pq sp lk) s' b' m' → out rd (pla sp lk z) b m b' m' → ∃ t', ff_X12_leastCost_J64 s' g' = some (.inl t') ∧ ∃ (s s2 : Int32) (g : vv_H) (b : Nat) (m z : Nat → Nat), t' = (s, s2, g) ∧ ord r g P ln (fun l => min (sp (l / 4)) (lk (l % 4))) z ∧ bsR g P (pq sp lk) s b m ∧ ((s2 = 1 ∧ (∀ k, k < P → z k ≤ min (sp (ln k / 4)) (lk (ln k % 4))) ∧ i + 1 ≤ pv z P ∧ out rd (plo sp lk ln z) 1000000 (fun _ => 0) b m) ∨ (s2 = 0 ∧ out rd (feas sp lk) 1000000 (fun _ => 0) b m)) := fun s' g' b' m' w1 w2 w3 => by
      obtain ⟨s2, g2, j1, j2, j3⟩ := odo_r (by omega) w1 (by rw [hP]; exact m15) q3 s'
      have cross : ∀ x y, plo sp lk ln z x → pla sp lk z y → pv x 16 ≤ pv y 16 := fun x y hx hy => by
        obtain ⟨_, x', a1, a2, a3⟩ := hx
        rw [pv_eq a3, pv_eq hy.2]
        refine Nat.le_of_lt ((emb_pv 16 (fun k hk => ?_) (fun k hk => ?_)).1 a2)
        · exact Nat.le_trans (a1 k hk) (by have := hlk (ln k % 4); omega)
        · rw [← hP] at hk
          exact z15 k hk
      have eqz : ∀ x : Nat → Nat, (∀ k, k < P → x k ≤ min (sp (ln k / 4)) (lk (ln k % 4))) → pv x P ≤ pv z P → ∀ y, feas sp lk y → (∀ l, l < 16 → y l = emb (pq sp lk) x l) → plo sp lk ln z y ∨ pla sp lk z y := fun x hx hle y hy hyx => by
        rcases Nat.lt_or_eq_of_le hle with h | h
        · exact Or.inl ⟨hy, x, by rw [← hP]; exact hx, by rw [← hP]; exact h, hyx⟩
        · refine Or.inr ⟨hy, fun l hl => ?_⟩
          rw [hyx l hl]
          refine emb_cg (fun k hk => ?_) l hl
          rw [← hP] at hk
          exact pv_inj (fun k hk => Nat.le_trans (hx k hk) (by have := hlk (ln k % 4); omega)) z15 h k hk
      rcases j3 with ⟨rfl, j4, z', j5⟩ | ⟨rfl, k0, j4, j5, j6, j7⟩
      · refine ⟨_, j1, s', 0, g2, b', m', z', rfl, j5, bsR_cg w2 j2, Or.inr ⟨rfl, out_seq q5 w3 (fun y => ⟨fun hy => ?_, fun hy => hy.elim (fun q => q.1) (fun q => q.1)⟩) cross⟩⟩
        obtain ⟨x, x1, x2⟩ := feas_emb hln hy
        rw [← hP] at x1
        exact eqz x x1 (pv_le fun k hk => by rw [j4 k hk]; exact x1 k hk) y hy x2
      · have lt1 := nxt_lt (z := z) j4 z15
        refine ⟨_, j1, s', 1, g2, b', m', nxt z k0, rfl, j7, bsR_cg w2 j2, Or.inl ⟨rfl, fun k hk => ?_, by omega, out_seq q5 w3 (fun y => ⟨fun hy => ?_, fun hy => ?_⟩) cross⟩⟩
        · have a1 := q3 k hk
          unfold nxt
          by_cases w : k < k0
          · rw [if_pos w]
            exact a1
          · rw [if_neg w]
            by_cases w2 : k = k0
            · rw [if_pos w2, w2]
              rw [w2] at a1
              have : z k0 ≠ min (sp (ln k0 / 4)) (lk (ln k0 % 4)) := j5
              omega
            · rw [if_neg w2]
              exact Nat.zero_le _
        · obtain ⟨y1, x, y2, y3, y4⟩ := hy
          rw [← hP] at y2 y3
          exact eqz x y2 (nxt_no j4 (by rw [hP]; exact m15) q3 j5 j6 y2 y3) y y1 y4
        · rcases hy with ⟨y1, x, y2, y3, y4⟩ | ⟨y1, y2⟩
          · refine ⟨y1, x, y2, ?_, y4⟩
            rw [← hP] at y3 ⊢
            omega
          · refine ⟨y1, z, by rw [← hP]; exact q3, by rw [← hP]; exact lt1, y2⟩
    simp only [ff_X12_leastCost_B8, show ((1 : Int32) = 0) = False from by decide, if_false, c1, Option.bind_some]
    rcases c2 with ⟨c2, rfl⟩ | ⟨c2, rfl⟩
    case inr =>
      rw [if_pos (by decide)]
      exact fin s g b m q1 q2 (pla_out.2 fun q => c2 q.1)
    have cb : cst rd (emb (pq sp lk) z) ≤ 5940 := cst_bd hrd fun t ht => by
      have := c2.2 t ht
      have := hlk t
      omega
    rw [if_neg (nI_pos (show cst rd (emb (pq sp lk) z) < 2 ^ 31 by omega))]
    have take : cst rd (emb (pq sp lk) z) < b → ∃ t', ff_X12_leastCost_J30 (nI (cst rd (emb (pq sp lk) z))) g = some (.inl t') ∧ ∃ (s s2 : Int32) (g : vv_H) (b : Nat) (m z : Nat → Nat), t' = (s, s2, g) ∧ ord r g P ln (fun l => min (sp (l / 4)) (lk (l % 4))) z ∧ bsR g P (pq sp lk) s b m ∧ ((s2 = 1 ∧ (∀ k, k < P → z k ≤ min (sp (ln k / 4)) (lk (ln k % 4))) ∧ i + 1 ≤ pv z P ∧ out rd (plo sp lk ln z) 1000000 (fun _ => 0) b m) ∨ (s2 = 0 ∧ out rd (feas sp lk) 1000000 (fun _ => 0) b m)) := fun lt => by
      obtain ⟨g', k1, k2, k3⟩ := copy_r (by omega) q1 (nI (cst rd (emb (pq sp lk) z)))
      simp only [ff_X12_leastCost_J30, k1, Option.bind_some]
      exact fin _ g' _ _ k2 (Or.inr ⟨rfl, cb, z, rfl, k3⟩) (pla_out.1 ⟨c2, lt⟩)
    have q2' := q2
    rcases q2 with ⟨rfl, rfl⟩ | ⟨rfl, hb, bz, rfl, hbz⟩
    · rw [if_pos (by decide)]
      exact take (by omega)
    · rw [if_neg (nI_pos (show b < 2 ^ 31 by omega))]
      simp only [nI_leI (show b < 2 ^ 31 by omega) (show cst rd (emb (pq sp lk) z) < 2 ^ 31 by omega)]
      by_cases lt : b ≤ cst rd (emb (pq sp lk) z)
      · rw [if_pos lt]
        exact fin _ g b _ q1 q2' (pla_out.2 fun q => by omega)
      · rw [if_neg lt]
        exact take (by omega)
  obtain ⟨⟨s, g⟩, e1, b, m, z, w1, w2, w3⟩ := hL
  rw [hP] at w1 w2
  refine ⟨s, g, b, m, z, ?_, w1, w2, w3⟩
  simp only [ff_X12_leastCost, e0, Option.bind_some, e1]
