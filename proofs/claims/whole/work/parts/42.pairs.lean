/-- how many of the first lanes p picks -/
def ko (p : Nat → Bool) : Nat → Nat := cu (fun l => if p l = true then 1 else 0)
/-- numbers by pair, as numbers by lane -/
def emb (p : Nat → Bool) (z : Nat → Nat) (l : Nat) : Nat := if p l = true then z (ko p l) else 0
theorem ko_1 {p : Nat → Bool} {l : Nat} (h : p l = true) : ko p (l + 1) = ko p l + 1 := by
  show ko p l + (if p l = true then 1 else 0) = _
  rw [if_pos h]
theorem ko_0 {p : Nat → Bool} {l : Nat} (h : ¬ p l = true) : ko p (l + 1) = ko p l := by
  show ko p l + (if p l = true then 1 else 0) = _
  rw [if_neg h, Nat.add_zero]
theorem ko_le {p : Nat → Bool} {a : Nat} (d : Nat) : ko p a ≤ ko p (a + d) := by
  induction d with
  | zero => exact Nat.le_refl _
  | succ d ih => exact Nat.le_trans ih (Nat.le_add_right _ _)
theorem ko_mono {p : Nat → Bool} {a b : Nat} (h : a ≤ b) : ko p a ≤ ko p b := by
  have := ko_le (p := p) (a := a) (b - a)
  rwa [show a + (b - a) = b by omega] at this
theorem ko_lt {p : Nat → Bool} {a b : Nat} (hp : p a = true) (h : a < b) : ko p a < ko p b := by
  have := ko_mono (p := p) (show a + 1 ≤ b by omega)
  rw [ko_1 hp] at this
  omega
theorem ko_skip {p : Nat → Bool} {a : Nat} (d : Nat) (h : ∀ l, a ≤ l → l < a + d → ¬ p l = true) : ko p (a + d) = ko p a := by
  induction d with
  | zero => rfl
  | succ d ih =>
    have e : ko p (a + d + 1) = ko p (a + d) := ko_0 (h (a + d) (by omega) (by omega))
    exact e.trans (ih fun l h1 h2 => h l h1 (by omega))
theorem ko_sur {p : Nat → Bool} : ∀ {n k : Nat}, k < ko p n → ∃ l, l < n ∧ p l = true ∧ ko p l = k := by
  intro n
  induction n with
  | zero => exact fun h => absurd h (Nat.not_lt_zero _)
  | succ n ih =>
    intro k h
    by_cases hp : p n = true
    · rw [ko_1 hp] at h
      rcases Nat.lt_succ_iff_lt_or_eq.mp h with h1 | h1
      · obtain ⟨l, h2, h3⟩ := ih h1
        exact ⟨l, by omega, h3⟩
      · exact ⟨n, by omega, hp, h1.symm⟩
    · rw [ko_0 hp] at h
      obtain ⟨l, h2, h3⟩ := ih h
      exact ⟨l, by omega, h3⟩
theorem emb_cu (p : Nat → Bool) (F : Nat → Nat) : ∀ n, cu F (ko p n) = cu (fun l => if p l = true then F (ko p l) else 0) n := by
  intro n
  induction n with
  | zero => rfl
  | succ n ih =>
    show _ = cu (fun l => if p l = true then F (ko p l) else 0) n + (if p n = true then F (ko p n) else 0)
    rw [← ih]
    by_cases hp : p n = true
    · rw [ko_1 hp, if_pos hp]
      rfl
    · rw [ko_0 hp, if_neg hp, Nat.add_zero]
theorem emb_pv {p : Nat → Bool} {x y : Nat → Nat} : ∀ n, (∀ k, k < ko p n → x k ≤ 15) → (∀ k, k < ko p n → y k ≤ 15) → (pv x (ko p n) < pv y (ko p n) → pv (emb p x) n < pv (emb p y) n) ∧ (pv x (ko p n) = pv y (ko p n) → pv (emb p x) n = pv (emb p y) n) := by
  intro n
  induction n with
  | zero => exact fun _ _ => ⟨fun h => absurd h (Nat.lt_irrefl _), fun _ => rfl⟩
  | succ n ih =>
    intro hx hy
    show (_ → pv (emb p x) n * 16 + emb p x n < pv (emb p y) n * 16 + emb p y n) ∧ (_ → pv (emb p x) n * 16 + emb p x n = pv (emb p y) n * 16 + emb p y n)
    by_cases hp : p n = true
    · rw [ko_1 hp] at hx hy
      obtain ⟨i1, i2⟩ := ih (fun k hk => hx k (by omega)) (fun k hk => hy k (by omega))
      have h1 := hx (ko p n) (by omega)
      have h2 := hy (ko p n) (by omega)
      rw [ko_1 hp, show emb p x n = x (ko p n) from if_pos hp, show emb p y n = y (ko p n) from if_pos hp]
      show (pv x (ko p n) * 16 + x (ko p n) < pv y (ko p n) * 16 + y (ko p n) → _) ∧ (pv x (ko p n) * 16 + x (ko p n) = pv y (ko p n) * 16 + y (ko p n) → _)
      constructor
      · intro h
        rcases Nat.lt_trichotomy (pv x (ko p n)) (pv y (ko p n)) with q | q | q
        · have := i1 q
          omega
        · have := i2 q
          omega
        · omega
      · intro h
        have := i2 (by omega)
        omega
    · rw [ko_0 hp] at hx hy ⊢
      obtain ⟨i1, i2⟩ := ih hx hy
      rw [show emb p x n = 0 from if_neg hp, show emb p y n = 0 from if_neg hp]
      exact ⟨fun h => by have := i1 h; omega, fun h => by have := i2 h; omega⟩
/-- every plan that moves on the lanes p alone comes from numbers by pair -/
theorem emb_of {p : Nat → Bool} (y : Nat → Nat) : ∀ n, ∃ z : Nat → Nat, ∀ l, l < n → p l = true → z (ko p l) = y l := by
  intro n
  induction n with
  | zero => exact ⟨fun _ => 0, fun l h => absurd h (Nat.not_lt_zero l)⟩
  | succ n ih =>
    obtain ⟨z, hz⟩ := ih
    refine ⟨pt z (ko p n) (y n), fun l hl hp => ?_⟩
    rcases Nat.lt_succ_iff_lt_or_eq.mp hl with h | rfl
    · have := ko_lt hp h
      rw [pt, if_neg (by omega)]
      exact hz l h hp
    · rw [pt, if_pos rfl]
/-- the lanes from a store that has more to one that has less -/
def pq (sp lk : Nat → Nat) (l : Nat) : Bool := decide (0 < sp (l / 4)) && decide (0 < lk (l % 4))
theorem pq_iff {sp lk : Nat → Nat} {f t : Nat} (ht : t < 4) : pq sp lk (4 * f + t) = true ↔ 0 < sp f ∧ 0 < lk t := by
  unfold pq
  rw [show (4 * f + t) / 4 = f by omega, show (4 * f + t) % 4 = t by omega, Bool.and_eq_true, decide_eq_true_eq, decide_eq_true_eq]
theorem ko_4 {sp lk : Nat → Nat} (h : ∀ s, s < 4 → sp s = 0 ∨ lk s = 0) : ko (pq sp lk) 16 ≤ 4 := by
  have key : ∀ a0 a1 a2 a3 b0 b1 b2 b3 : Bool, (a0 && b0) = false → (a1 && b1) = false → (a2 && b2) = false → (a3 && b3) = false →
      0 + (if (a0 && b0) = true then 1 else 0) + (if (a0 && b1) = true then 1 else 0) + (if (a0 && b2) = true then 1 else 0) + (if (a0 && b3) = true then 1 else 0) + (if (a1 && b0) = true then 1 else 0) + (if (a1 && b1) = true then 1 else 0) + (if (a1 && b2) = true then 1 else 0) + (if (a1 && b3) = true then 1 else 0) + (if (a2 && b0) = true then 1 else 0) + (if (a2 && b1) = true then 1 else 0) + (if (a2 && b2) = true then 1 else 0) + (if (a2 && b3) = true then 1 else 0) + (if (a3 && b0) = true then 1 else 0) + (if (a3 && b1) = true then 1 else 0) + (if (a3 && b2) = true then 1 else 0) + (if (a3 && b3) = true then 1 else 0) ≤ 4 := by decide
  have no : ∀ s, s < 4 → (decide (0 < sp s) && decide (0 < lk s)) = false := fun s hs => by
    rcases h s hs with q | q
    · rw [q]
      rfl
    · rw [q, show decide (0 < 0) = false from rfl, Bool.and_false]
  exact key (decide (0 < sp 0)) (decide (0 < sp 1)) (decide (0 < sp 2)) (decide (0 < sp 3)) (decide (0 < lk 0)) (decide (0 < lk 1)) (decide (0 < lk 2)) (decide (0 < lk 3)) (no 0 (by decide)) (no 1 (by decide)) (no 2 (by decide)) (no 3 (by decide))
theorem sum_rc (e : Nat → Nat) {s : Nat} (hs : s < 4) (h : e (4 * s + s) = 0) : cu (fun l => if l / 4 = s ∨ l % 4 = s then e l else 0) 16 = row e s + col e s := by
  rcases lt4 hs with rfl | rfl | rfl | rfl
  · show 0 + e 0 + e 1 + e 2 + e 3 + e 4 + 0 + 0 + 0 + e 8 + 0 + 0 + 0 + e 12 + 0 + 0 + 0 = e 0 + e 1 + e 2 + e 3 + (e 0 + e 4 + e 8 + e 12)
    replace h : e 0 = 0 := h
    omega
  · show 0 + 0 + e 1 + 0 + 0 + e 4 + e 5 + e 6 + e 7 + 0 + e 9 + 0 + 0 + 0 + e 13 + 0 + 0 = e 4 + e 5 + e 6 + e 7 + (e 1 + e 5 + e 9 + e 13)
    replace h : e 5 = 0 := h
    omega
  · show 0 + 0 + 0 + e 2 + 0 + 0 + 0 + e 6 + 0 + e 8 + e 9 + e 10 + e 11 + 0 + 0 + e 14 + 0 = e 8 + e 9 + e 10 + e 11 + (e 2 + e 6 + e 10 + e 14)
    replace h : e 10 = 0 := h
    omega
  · show 0 + 0 + 0 + 0 + e 3 + 0 + 0 + 0 + e 7 + 0 + 0 + 0 + e 11 + e 12 + e 13 + e 14 + e 15 = e 12 + e 13 + e 14 + e 15 + (e 3 + e 7 + e 11 + e 15)
    replace h : e 15 = 0 := h
    omega
theorem nI_all (x : Int32) : ∃ n : Nat, x = nI n := ⟨x.toBitVec.toNat, by
  apply Int32.toBitVec_inj.mp
  show x.toBitVec = BitVec.ofNat 32 x.toBitVec.toNat
  rw [BitVec.ofNat_toNat, BitVec.setWidth_eq]⟩
/-- the reference's pairs: P of them, the k-th on the lane ln k, at most mo k -/
def prs (g : vv_H) (P : Nat) (ln mo : Nat → Nat) : Prop := ∀ k, k < P → g.1 46 k = nI (ln k / 4) ∧ g.1 47 k = nI (ln k % 4) ∧ g.1 48 k = nI (mo (ln k))
def nrow (g : vv_H) (a P : Nat) (z : Nat → Nat) : Prop := ∀ k, k < P → g.1 a k = nI (z k)
/-- what a store has more than it is to have -/
def mor (g : vv_H) (S : Nat) (sp lk : Nat → Nat) : Prop := ∀ s, s < S → g.1 51 s = nI (sp s) - nI (lk s)
/-- the frame: what 'order' changes in the reference -/
def frR (r g : vv_H) : Prop := g.2 = r.2 ∧ ∀ k j, ¬ (46 ≤ k ∧ k ≤ 50) → ¬ (k = 0 ∧ j = 62) → g.1 k j = r.1 k j
theorem frR_rf (r : vv_H) : frR r r := ⟨rfl, fun _ _ _ _ => rfl⟩
theorem frR_iu {r g : vv_H} {k j : Nat} {v : Int32} (h : frR r g) (q : (46 ≤ k ∧ k ≤ 50) ∨ (k = 0 ∧ j = 62)) : frR r (vv_iu g k j v) := ⟨h.1, fun a b h1 h2 => by
  rw [vv_iu_e, if_neg (fun e => by omega)]
  exact h.2 a b h1 h2⟩
theorem mor_sg {a b : Nat} (ha : a < 100) (hb : b < 100) (h : a = 0 ∨ b = 0) : ((nI a - nI b ≤ 0) ↔ a = 0) ∧ ((0 ≤ nI a - nI b) ↔ b = 0) ∧ (b = 0 → nI a - nI b = nI a) ∧ (a = 0 → -(nI a - nI b) = nI b) := by
  have e := pk_sub_toInt (a := a) (b := b) (by omega) (by omega)
  refine ⟨?_, ?_, fun q => ?_, fun q => ?_⟩
  · rw [Int32.le_iff_toInt_le, e, show (0 : Int32).toInt = 0 from rfl]
    omega
  · rw [Int32.le_iff_toInt_le, e, show (0 : Int32).toInt = 0 from rfl]
    omega
  · rw [q, pk_sub (Nat.zero_le _), Nat.sub_zero]
  · rw [q, show nI 0 = (0 : Int32) from rfl, Int32.zero_sub, Int32.neg_neg]
theorem pairs_r {r : vv_H} {sp lk ln : Nat → Nat} {S : Nat} (hS : S ≤ 4) (eS : r.1 0 42 = nI S) (hsp : ∀ s, sp s < 100) (hlk : ∀ s, lk s < 100) (h0 : ∀ s, sp s = 0 ∨ lk s = 0) (hz : ∀ s, S ≤ s → sp s = 0 ∧ lk s = 0) (hm : mor r S sp lk) (hln : ∀ l, l < 16 → pq sp lk l = true → ln (ko (pq sp lk) l) = l) : ∃ g, ff_X12_layPairs r = some g ∧ frR r g ∧ g.1 0 62 = nI (ko (pq sp lk) 16) ∧ prs g (ko (pq sp lk) 16) ln (fun l => min (sp (l / 4)) (lk (l % 4))) ∧ nrow g 49 (ko (pq sp lk) 16) (fun _ => 0) := by
  have k4 := ko_4 (sp := sp) (lk := lk) fun s _ => h0 s
  have kle : ∀ l, l ≤ 16 → ko (pq sp lk) l ≤ 4 := fun l hl => Nat.le_trans (ko_mono hl) k4
  obtain ⟨mo, hmo⟩ : ∃ mo : Nat → Nat, mo = fun l => min (sp (l / 4)) (lk (l % 4)) := ⟨_, rfl⟩
  rw [← hmo]
  have hO := lp_count (f := fun (zs : Int32 × vv_H) => ff_X12_layPairs_B7 zs.1 zs.2) (fun i z => ∃ g, z = (nI i, g) ∧ frR r g ∧ g.1 0 62 = nI (ko (pq sp lk) (4 * i)) ∧ prs g (ko (pq sp lk) (4 * i)) ln mo ∧ nrow g 49 (ko (pq sp lk) (4 * i)) (fun _ => 0)) (fun g => frR r g ∧ g.1 0 62 = nI (ko (pq sp lk) 16) ∧ prs g (ko (pq sp lk) 16) ln mo ∧ nrow g 49 (ko (pq sp lk) 16) (fun _ => 0)) S ?hs ?he vv_F 0 ((0 : Int32), vv_iu r 0 62 0) ⟨_, rfl, frR_iu (frR_rf r) (by omega), by rw [vv_iu_eq]; rfl, fun k hk => absurd hk (Nat.not_lt_zero k), fun k hk => absurd hk (Nat.not_lt_zero k)⟩ (Nat.zero_le _) (vv_F_lt (by omega))
  case hs =>
    rintro s z hs ⟨g, rfl, f1, f2, f3, f4⟩
    left
    have eS' : g.1 0 42 = nI S := by rw [f1.2 0 42 (by omega) (by omega), eS]
    have hI := lp_count (f := fun (zs : Int32 × vv_H) => ff_X12_layPairs_B17 (nI s) zs.1 zs.2) (fun t z => ∃ g, z = (nI t, g) ∧ frR r g ∧ g.1 0 62 = nI (ko (pq sp lk) (4 * s + t)) ∧ prs g (ko (pq sp lk) (4 * s + t)) ln mo ∧ nrow g 49 (ko (pq sp lk) (4 * s + t)) (fun _ => 0)) (fun g => frR r g ∧ g.1 0 62 = nI (ko (pq sp lk) (4 * s + S)) ∧ prs g (ko (pq sp lk) (4 * s + S)) ln mo ∧ nrow g 49 (ko (pq sp lk) (4 * s + S)) (fun _ => 0)) S ?hs2 ?he2 vv_F 0 ((0 : Int32), g) ⟨g, rfl, f1, f2, f3, f4⟩ (Nat.zero_le _) (vv_F_lt (by omega))
    case hs2 =>
      rintro t z ht ⟨g, rfl, f1, f2, f3, f4⟩
      left
      have eS' : g.1 0 42 = nI S := by rw [f1.2 0 42 (by omega) (by omega), eS]
      have m1 : g.1 51 s = nI (sp s) - nI (lk s) := by rw [f1.2 51 s (by omega) (by omega), hm s hs]
      have m2 : g.1 51 t = nI (sp t) - nI (lk t) := by rw [f1.2 51 t (by omega) (by omega), hm t ht]
      obtain ⟨s1, s2, s3, s4⟩ := mor_sg (hsp s) (hlk s) (h0 s)
      obtain ⟨t1, t2, t3, t4⟩ := mor_sg (hsp t) (hlk t) (h0 t)
      have hk := kle (4 * s + t) (by omega)
      have e4 : 4 * s + t + 1 = 4 * s + (t + 1) := by omega
      have hpq := pq_iff (sp := sp) (lk := lk) (f := s) (show t < 4 by omega)
      have hb := h0 s
      have hbt := h0 t
      simp (disch := omega) only [ff_X12_layPairs_B17, eS', if_neg (nI_nle' ht (by omega)), ck_lit, nI_clamp, m1, m2, s1, t2, vv_let, nI_1]
      by_cases c1 : sp s = 0
      · rw [if_pos c1]
        have np : ¬ pq sp lk (4 * s + t) = true := fun q => by have := hpq.mp q; omega
        rw [← e4, ko_0 np]
        exact ⟨_, rfl, g, rfl, f1, f2, f3, f4⟩
      rw [if_neg c1]
      by_cases c2 : lk t = 0
      · rw [if_pos c2]
        have np : ¬ pq sp lk (4 * s + t) = true := fun q => by have := hpq.mp q; omega
        rw [← e4, ko_0 np]
        exact ⟨_, rfl, g, rfl, f1, f2, f3, f4⟩
      rw [if_neg c2]
      have yp : pq sp lk (4 * s + t) = true := hpq.mpr ⟨by omega, by omega⟩
      have eln := hln (4 * s + t) (by omega) yp
      rw [← e4, ko_1 yp]
      obtain ⟨K, hK⟩ : ∃ K, K = ko (pq sp lk) (4 * s + t) := ⟨_, rfl⟩
      rw [← hK] at f2 f3 f4 eln hk ⊢
      have lsp := hsp s
      have llk := hlk t
      have emo : mo (4 * s + t) = min (sp s) (lk t) := by rw [hmo]; show min (sp ((4 * s + t) / 4)) (lk ((4 * s + t) % 4)) = _; rw [show (4 * s + t) / 4 = s by omega, show (4 * s + t) % 4 = t by omega]
      simp (disch := omega) only [f2, ck_lit, nI_clamp, vv_iu_ne, vv_iu_nj, m1, m2, s3 (by omega), t4 (by omega), nI_leI, ff_X12_layPairs_J103, vv_let, nI_1, vv_iu_eq]
      have fin : ∀ v : Int32, v = nI (min (sp s) (lk t)) → frR r (vv_iu (vv_iu (vv_iu (vv_iu (vv_iu g 46 K (nI s)) 47 K (nI t)) 48 K v) 49 K 0) 0 62 (nI (K + 1))) ∧ (vv_iu (vv_iu (vv_iu (vv_iu (vv_iu g 46 K (nI s)) 47 K (nI t)) 48 K v) 49 K 0) 0 62 (nI (K + 1))).1 0 62 = nI (K + 1) ∧ prs (vv_iu (vv_iu (vv_iu (vv_iu (vv_iu g 46 K (nI s)) 47 K (nI t)) 48 K v) 49 K 0) 0 62 (nI (K + 1))) (K + 1) ln mo ∧ nrow (vv_iu (vv_iu (vv_iu (vv_iu (vv_iu g 46 K (nI s)) 47 K (nI t)) 48 K v) 49 K 0) 0 62 (nI (K + 1))) 49 (K + 1) (fun _ => 0) := fun v hv => by
        refine ⟨frR_iu (frR_iu (frR_iu (frR_iu (frR_iu f1 (by omega)) (by omega)) (by omega)) (by omega)) (by omega), vv_iu_eq, fun k hk => ?_, fun k hk => ?_⟩
        · rcases Nat.lt_succ_iff_lt_or_eq.mp hk with q | rfl
          · simp (disch := omega) only [vv_iu_ne, vv_iu_nj]
            exact f3 k q
          · simp (disch := omega) only [vv_iu_ne, vv_iu_eq]
            rw [eln, emo, show (4 * s + t) / 4 = s by omega, show (4 * s + t) % 4 = t by omega]
            exact ⟨rfl, rfl, hv⟩
        · rcases Nat.lt_succ_iff_lt_or_eq.mp hk with q | rfl
          · simp (disch := omega) only [vv_iu_ne, vv_iu_nj]
            exact f4 k q
          · simp (disch := omega) only [vv_iu_ne, vv_iu_eq]
            rfl
      by_cases c3 : lk t ≤ sp s
      · rw [if_pos c3]
        exact ⟨_, rfl, _, rfl, fin _ (by rw [Nat.min_eq_right c3])⟩
      · rw [if_neg c3]
        exact ⟨_, rfl, _, rfl, fin _ (by rw [Nat.min_eq_left (by omega)])⟩
    case he2 =>
      rintro z ⟨g, rfl, f1, f2, f3, f4⟩
      have eS' : g.1 0 42 = nI S := by rw [f1.2 0 42 (by omega) (by omega), eS]
      simp only [ff_X12_layPairs_B17, eS', if_pos (nI_le (Nat.le_refl S) (show S < 2 ^ 31 by omega))]
      exact ⟨_, rfl, f1, f2, f3, f4⟩
    obtain ⟨g', e1, q1, q2, q3, q4⟩ := hI
    have eko : ko (pq sp lk) (4 * (s + 1)) = ko (pq sp lk) (4 * s + S) := by
      rw [show 4 * (s + 1) = 4 * s + S + (4 - S) by omega]
      refine ko_skip _ fun l h1 h2 h3 => ?_
      have := hz (l % 4) (by omega)
      rw [show l = 4 * (l / 4) + l % 4 by omega, pq_iff (by omega)] at h3
      omega
    rw [← eko] at q2 q3 q4
    simp only [ff_X12_layPairs_B7, eS', if_neg (nI_nle' hs (by omega)), e1, Option.bind_some, vv_let, nI_1]
    exact ⟨_, rfl, g', rfl, q1, q2, q3, q4⟩
  case he =>
    rintro z ⟨g, rfl, f1, f2, f3, f4⟩
    have eS' : g.1 0 42 = nI S := by rw [f1.2 0 42 (by omega) (by omega), eS]
    have eko : ko (pq sp lk) 16 = ko (pq sp lk) (4 * S) := by
      rw [show 16 = 4 * S + (16 - 4 * S) by omega]
      refine ko_skip _ fun l h1 h2 h3 => ?_
      have := hz (l / 4) (by omega)
      rw [show l = 4 * (l / 4) + l % 4 by omega, pq_iff (by omega)] at h3
      omega
    rw [← eko] at f2 f3 f4
    simp only [ff_X12_layPairs_B7, eS', if_pos (nI_le (Nat.le_refl S) (show S < 2 ^ 31 by omega))]
    exact ⟨_, rfl, f1, f2, f3, f4⟩
  obtain ⟨g, e1, hg⟩ := hO
  exact ⟨g, by simp only [ff_X12_layPairs, vv_let, e1, Option.bind_some], hg⟩
