/-- what the stores have yet (A), lack yet (B), when T is tried on the lanes below lane -/
def inv (sp lk : Nat → Nat) (lane : Nat) (T A B : Nat → Nat) : Prop := (∀ l, lane ≤ l → T l = 0) ∧ (∀ f, f < 4 → row T f + A f = sp f) ∧ (∀ t, t < 4 → col T t + B t = lk t) ∧ ∀ t, t < 4 → 12 + t < lane → B t = 0
def sb (A : Nat → Nat) (f : Nat) : Nat := cu (fun i => A (f + 1 + i)) (3 - f)
def pln (sp lk : Nat → Nat) (lane : Nat) (T y : Nat → Nat) : Prop := feas sp lk y ∧ ∀ l, l < lane → y l = T l
theorem pln_A {sp lk T A B y : Nat → Nat} {f t : Nat} (hf : f < 4) (ht : t < 4) (hI : inv sp lk (4 * f + t) T A B) (hy : pln sp lk (4 * f + t) T y) : y (4 * f + t) ≤ A f := by
  have h1 := hI.2.1 f hf
  have h2 := hy.1.1 f hf
  have e : ∀ i, (i < t → y (4 * f + i) = T (4 * f + i)) ∧ (t ≤ i → T (4 * f + i) = 0) := fun i => ⟨fun q => hy.2 _ (by omega), fun q => hI.1 _ (by omega)⟩
  have e0 := e 0
  have e1 := e 1
  have e2 := e 2
  have e3 := e 3
  unfold row at h1 h2
  rcases lt4 ht with rfl | rfl | rfl | rfl <;> omega
theorem pln_B {sp lk T A B y : Nat → Nat} {f t : Nat} (hf : f < 4) (ht : t < 4) (hI : inv sp lk (4 * f + t) T A B) (hy : pln sp lk (4 * f + t) T y) : y (4 * f + t) ≤ B t ∧ B t ≤ y (4 * f + t) + sb A f := by
  have h1 := hI.2.2.1 t ht
  have h2 := hy.1.2 t ht
  have e : ∀ i, (i < f → y (4 * i + t) = T (4 * i + t)) ∧ (f ≤ i → T (4 * i + t) = 0) := fun i => ⟨fun q => hy.2 _ (by omega), fun q => hI.1 _ (by omega)⟩
  have e0 := e 0
  have e1 := e 1
  have e2 := e 2
  have e3 := e 3
  have g : ∀ i, f < i → i < 4 → y (4 * i + t) ≤ A i := fun i q1 q2 => by
    have k1 := hI.2.1 i q2
    have k2 := hy.1.1 i q2
    have k3 : row T i = 0 := by
      have a0 := hI.1 (4 * i + 0) (by omega)
      have a1 := hI.1 (4 * i + 1) (by omega)
      have a2 := hI.1 (4 * i + 2) (by omega)
      have a3 := hI.1 (4 * i + 3) (by omega)
      unfold row
      omega
    have k4 : y (4 * i + t) ≤ row y i := by
      unfold row
      rcases lt4 ht with rfl | rfl | rfl | rfl <;> omega
    omega
  unfold col at h1 h2
  rcases lt4 hf with rfl | rfl | rfl | rfl
  · have g1 := g 1 (by decide) (by decide)
    have g2 := g 2 (by decide) (by decide)
    have g3 := g 3 (by decide) (by decide)
    have : sb A 0 = 0 + A 1 + A 2 + A 3 := rfl
    omega
  · have g2 := g 2 (by decide) (by decide)
    have g3 := g 3 (by decide) (by decide)
    have : sb A 1 = 0 + A 2 + A 3 := rfl
    omega
  · have g3 := g 3 (by decide) (by decide)
    have : sb A 2 = 0 + A 3 := rfl
    omega
  · have : sb A 3 = 0 := rfl
    omega
theorem inv_up {sp lk T A B : Nat → Nat} {f t n : Nat} (hf : f < 4) (ht : t < 4) (hI : inv sp lk (4 * f + t) T A B) (hA : n ≤ A f) (hB : n ≤ B t) (hb : B t ≤ n + sb A f) : inv sp lk (4 * f + t + 1) (pt T (4 * f + t) n) (pt A f (A f - n)) (pt B t (B t - n)) := by
  have h0 := hI.1 (4 * f + t) (Nat.le_refl _)
  refine ⟨fun l hl => ?_, fun g hg => ?_, fun u hu => ?_, fun u hu hl => ?_⟩
  · rw [pt, if_neg (by omega)]
    exact hI.1 l (by omega)
  · have h1 := hI.2.1 g hg
    by_cases e : g = f
    · subst e
      rw [row_pt ht h0, pt, if_pos rfl]
      omega
    · rw [row_ne ht e, pt, if_neg e]
      exact h1
  · have h1 := hI.2.2.1 u hu
    by_cases e : u = t
    · subst e
      rw [col_pt hf h0, pt, if_pos rfl]
      omega
    · rw [col_ne ht hu hf e, pt, if_neg e]
      exact h1
  · by_cases e : u = t
    · subst e
      obtain rfl : f = 3 := by omega
      have : sb A 3 = 0 := rfl
      rw [pt, if_pos rfl]
      omega
    · rw [pt, if_neg e]
      exact hI.2.2.2 u hu (by omega)
def stT (h : vv_H) (T A B : Nat → Nat) : Prop := (∀ l, l < 16 → h.1 153 l = nI (T l)) ∧ (∀ f, f < 4 → h.1 154 f = nI (A f)) ∧ ∀ t, t < 4 → h.1 155 t = nI (B t)
def rdT (h : vv_H) (rd : Nat → Nat) : Prop := ∀ f t, f < 4 → t < 4 → h.1 (148 + f) t = nI (rd (4 * f + t))
/-- the best so far, as it stands in the heap -/
def bsT (h : vv_H) (b : Nat) (m : Nat → Nat) : Prop := h.1 146 1 = nI b ∧ ∀ l, l < 16 → h.1 152 l = nI (m l)
def frT (h h' : vv_H) : Prop := h'.2 = h.2 ∧ ∀ k j, k ≠ 152 → ¬ (k = 146 ∧ j = 1) → h'.1 k j = h.1 k j
theorem frT_tr {a b c : vv_H} (h1 : frT a b) (h2 : frT b c) : frT a c := ⟨h2.1.trans h1.1, fun k j q1 q2 => (h2.2 k j q1 q2).trans (h1.2 k j q1 q2)⟩
theorem stT_fr {h h' : vv_H} {T A B : Nat → Nat} (q : frT h h') (s : stT h T A B) : stT h' T A B := ⟨fun l hl => by rw [q.2 153 l (by omega) (by omega)]; exact s.1 l hl, fun l hl => by rw [q.2 154 l (by omega) (by omega)]; exact s.2.1 l hl, fun l hl => by rw [q.2 155 l (by omega) (by omega)]; exact s.2.2 l hl⟩
theorem rdT_fr {h h' : vv_H} {rd : Nat → Nat} (q : frT h h') (s : rdT h rd) : rdT h' rd := fun f t hf ht => by rw [q.2 (148 + f) t (by omega) (by omega)]; exact s f t hf ht
/-- what 'send' leaves -/
def snd (h : vv_H) (f t : Nat) (v : Int32) : vv_H := vv_iu (vv_iu (vv_iu h 153 (4 * f + t) (h.1 153 (4 * f + t) + v)) 154 f (h.1 154 f - v)) 155 t (h.1 155 t - v)
theorem vvnz4 {α : Type} {A : Option α} : vv_nz (4 : Int32) A = A := by
  unfold vv_nz
  rw [if_neg (by decide)]
theorem send_c {h : vv_H} {f t : Nat} (hf : f < 4) (ht : t < 4) (v : Int32) : ff_X9_send h (nI (4 * f + t)) v = some (snd h f t v) := by
  have d1 : nI (4 * f + t) / (4 : Int32) = nI f := by
    rw [show (4 : Int32) = nI 4 from rfl, pk_div (by omega) (by omega) (by omega)]
    congr 1
    omega
  have d2 : nI (4 * f + t) - nI f * (4 : Int32) = nI t := by
    rw [show (4 : Int32) = nI 4 from rfl, pk_mul, pk_sub (by omega)]
    congr 1
    omega
  simp (disch := omega) only [ff_X9_send, d1, d2, vvnz4, ck_lit, nI_clamp, vv_let, vv_iu_ne]
  rfl
theorem snd_st {h : vv_H} {T A B : Nat → Nat} {f t n : Nat} (hf : f < 4) (ht : t < 4) (s : stT h T A B) (h0 : T (4 * f + t) = 0) (hA : n ≤ A f) (hB : n ≤ B t) : stT (snd h f t (nI n)) (pt T (4 * f + t) n) (pt A f (A f - n)) (pt B t (B t - n)) := by
  unfold snd
  refine ⟨fun l hl => ?_, fun g hg => ?_, fun u hu => ?_⟩
  · rw [vv_iu_ne (by omega), vv_iu_ne (by omega), vv_iu_e, pt]
    by_cases e : l = 4 * f + t
    · rw [if_pos ⟨rfl, e⟩, if_pos e, s.1 _ (by omega), h0, nI_add, Nat.zero_add]
    · rw [if_neg (fun q => e q.2), if_neg e]
      exact s.1 l hl
  · rw [vv_iu_ne (by omega), vv_iu_e, vv_iu_ne (by omega), pt]
    by_cases e : g = f
    · rw [if_pos ⟨rfl, e⟩, if_pos e, s.2.1 _ hf, pk_sub hA]
    · rw [if_neg (fun q => e q.2), if_neg e]
      exact s.2.1 g hg
  · rw [vv_iu_e, vv_iu_ne (by omega), vv_iu_ne (by omega), pt]
    by_cases e : u = t
    · rw [if_pos ⟨rfl, e⟩, if_pos e, s.2.2 _ ht, pk_sub hB]
    · rw [if_neg (fun q => e q.2), if_neg e]
      exact s.2.2 u hu
theorem i_back (a v : Int32) : a + v + -v = a := by rw [Int32.add_assoc, Int32.add_right_neg, Int32.add_zero]
theorem i_back2 (a v : Int32) : a - v - -v = a := by rw [Int32.sub_eq_add_neg, Int32.sub_eq_add_neg, Int32.neg_neg, Int32.add_assoc, Int32.add_left_neg, Int32.add_zero]
/-- there and back: as before -/
theorem snd_bk {h g : vv_H} {f t : Nat} {v : Int32} (hf : f < 4) (ht : t < 4) (q : frT (snd h f t v) g) : frT h (snd g f t (-v)) := by
  refine ⟨q.1, fun k j h1 h2 => ?_⟩
  have e1 : g.1 153 (4 * f + t) = h.1 153 (4 * f + t) + v := by
    rw [q.2 153 _ (by omega) (by omega), snd, vv_iu_ne (by omega), vv_iu_ne (by omega), vv_iu_eq]
  have e2 : g.1 154 f = h.1 154 f - v := by
    rw [q.2 154 _ (by omega) (by omega), snd, vv_iu_ne (by omega), vv_iu_eq]
  have e3 : g.1 155 t = h.1 155 t - v := by
    rw [q.2 155 _ (by omega) (by omega), snd, vv_iu_eq]
  have e4 := q.2 k j h1 h2
  unfold snd at e4 ⊢
  rw [vv_iu_e, vv_iu_e, vv_iu_e, e1, e2, e3, i_back, i_back2, i_back2]
  by_cases c3 : k = 155 ∧ j = t
  · rw [if_pos c3, c3.1, c3.2]
  rw [if_neg c3]
  by_cases c2 : k = 154 ∧ j = f
  · rw [if_pos c2, c2.1, c2.2]
  rw [if_neg c2]
  by_cases c1 : k = 153 ∧ j = 4 * f + t
  · rw [if_pos c1, c1.1, c1.2]
  rw [if_neg c1, e4, vv_iu_e, if_neg c3, vv_iu_e, if_neg c2, vv_iu_e, if_neg c1]
theorem sb_c {h : vv_H} {T A B : Nat → Nat} (s : stT h T A B) {f : Nat} (hf : f < 4) : ff_X9_spareBehind h (nI f) = some (nI (sb A f)) := by
  have hL := lp_count (f := fun (zs : Int32 × Int32) => ff_X9_spareBehind_B6 h zs.1 zs.2) (fun i z => z = (nI (cu (fun i => A (f + 1 + i)) i), nI (f + 1 + i))) (fun a => a = nI (sb A f)) (3 - f) ?hs ?he vv_F 0 ((0 : Int32), nI (f + 1)) rfl (Nat.zero_le _) (vv_F_lt (by omega))
  case hs =>
    rintro i z hi rfl
    left
    simp (disch := omega) only [ff_X9_spareBehind_B6, show (4 : Int32) ≤ nI (f + 1 + i) ↔ nI 4 ≤ nI (f + 1 + i) from Iff.rfl, if_neg (nI_nle' (show f + 1 + i < 4 by omega) (by decide)), ck_lit, nI_clamp, vv_let, nI_1, s.2.1, nI_add]
    exact ⟨_, rfl, rfl⟩
  case he =>
    rintro z rfl
    simp only [ff_X9_spareBehind_B6, show (4 : Int32) = nI 4 from rfl, if_pos (nI_le (show 4 ≤ f + 1 + (3 - f) by omega) (by omega))]
    exact ⟨_, rfl, rfl⟩
  obtain ⟨a, e1, rfl⟩ := hL
  simp only [ff_X9_spareBehind, nI_1, e1, Option.bind_some]
theorem col_15 {sp lk T A B : Nat → Nat} {lane : Nat} (hI : inv sp lk lane T A B) (hlk : ∀ t, t < 4 → lk t ≤ 15) : ∀ t, t < 4 → col T t ≤ 15 := fun t ht => by
  have := hI.2.2.1 t ht
  have := hlk t ht
  omega
theorem T_le {sp lk T A B y : Nat → Nat} {lane : Nat} (hI : inv sp lk lane T A B) (hy : pln sp lk lane T y) : ∀ l, l < 16 → T l ≤ y l := fun l _ => by
  rcases Nat.lt_or_ge l lane with h | h
  · rw [hy.2 l h]
    exact Nat.le_refl _
  · rw [hI.1 l h]
    exact Nat.zero_le _
theorem try_c {sp lk rd : Nat → Nat} (hsp : ∀ f, f < 4 → sp f ≤ 36) (hlk : ∀ t, t < 4 → lk t ≤ 15) (hrd : ∀ l, l < 16 → rd l ≤ 99) : ∀ (d lane : Nat), lane + d = 16 → ∀ (T A B : Nat → Nat) (h : vv_H) (b : Nat) (m : Nat → Nat), inv sp lk lane T A B → stT h T A B → rdT h rd → b ≤ 1000000 → bsT h b m → ∃ (h' : vv_H) (b' : Nat) (m' : Nat → Nat), ff_X9_tryLane (d + 1) (nI lane) (nI (cst rd T)) h = some h' ∧ frT h h' ∧ bsT h' b' m' ∧ b' ≤ 1000000 ∧ out rd (pln sp lk lane T) b m b' m' := by
  intro d
  induction d with
  | zero =>
    intro lane hl T A B h b m hI hS hR hb hB
    obtain rfl : lane = 16 := by omega
    have hc := cst_bd hrd (col_15 hI hlk)
    rw [show ff_X9_tryLane (0 + 1) (nI 16) (nI (cst rd T)) h = ff_X9_tryLane_F (ff_X9_tryLane 0) h (nI 16) (nI (cst rd T)) from rfl]
    simp only [ff_X9_tryLane_F, hB.1, nI_ltI (show cst rd T < 2 ^ 31 by omega) (show b < 2 ^ 31 by omega)]
    by_cases g : cst rd T < b
    case neg =>
      rw [if_neg g]
      exact ⟨h, b, m, rfl, ⟨rfl, fun _ _ _ _ => rfl⟩, hB, hb, out_no fun y hy => Nat.le_trans (by omega) (cst_le (T_le hI hy))⟩
    rw [if_pos g, if_neg (show ¬ nI 16 < (16 : Int32) from by decide)]
    refine ⟨_, cst rd T, T, rfl, ⟨rfl, fun k j h1 h2 => ?_⟩, ⟨?_, fun l hl => ?_⟩, by omega, Or.inr ⟨g, ⟨⟨fun f hf => ?_, fun t ht => ?_⟩, fun _ _ => rfl⟩, rfl, fun y hy => Or.inr ⟨cst_eq fun l hl => (hy.2 l hl).symm, Nat.le_of_eq (pv_eq fun l hl => (hy.2 l hl).symm)⟩⟩⟩
    · show (if k = 152 then va_cpy ((vv_iu h 146 1 (nI (cst rd T))).1 153) ((vv_iu h 146 1 (nI (cst rd T))).1 152) 0 0 16 else (vv_iu h 146 1 (nI (cst rd T))).1 k) j = _
      rw [if_neg h1, vv_iu_e, if_neg h2]
    · show (if 146 = 152 then va_cpy ((vv_iu h 146 1 (nI (cst rd T))).1 153) ((vv_iu h 146 1 (nI (cst rd T))).1 152) 0 0 16 else (vv_iu h 146 1 (nI (cst rd T))).1 146) 1 = _
      rw [if_neg (by decide), vv_iu_eq]
    · show (if 152 = 152 then va_cpy ((vv_iu h 146 1 (nI (cst rd T))).1 153) ((vv_iu h 146 1 (nI (cst rd T))).1 152) 0 0 16 else (vv_iu h 146 1 (nI (cst rd T))).1 152) l = _
      rw [if_pos rfl, pk_cpy_in (by omega) (by omega), vv_iu_ne (by omega), show 0 + (l - 0) = l by omega]
      exact hS.1 l hl
    · have := hI.2.1 f hf
      omega
    · have := hI.2.2.1 t ht
      have := hI.2.2.2 t ht (by omega)
      omega
  | succ d ih =>
    intro lane hl T A B h b m hI hS hR hb hB
    obtain ⟨f, t, hf, ht, rfl⟩ : ∃ f t, f < 4 ∧ t < 4 ∧ lane = 4 * f + t := ⟨lane / 4, lane % 4, by omega, by omega, by omega⟩
    have hc := cst_bd hrd (col_15 hI hlk)
    rw [show ff_X9_tryLane (d + 1 + 1) (nI (4 * f + t)) (nI (cst rd T)) h = ff_X9_tryLane_F (ff_X9_tryLane (d + 1)) h (nI (4 * f + t)) (nI (cst rd T)) from rfl]
    have d1 : nI (4 * f + t) / (4 : Int32) = nI f := by
      rw [show (4 : Int32) = nI 4 from rfl, pk_div (by omega) (by omega) (by omega)]
      congr 1
      omega
    have d2 : nI (4 * f + t) - nI f * (4 : Int32) = nI t := by
      rw [show (4 : Int32) = nI 4 from rfl, pk_mul, pk_sub (by omega)]
      congr 1
      omega
    simp only [ff_X9_tryLane_F, hB.1, nI_ltI (show cst rd T < 2 ^ 31 by omega) (show b < 2 ^ 31 by omega)]
    by_cases g : cst rd T < b
    case neg =>
      rw [if_neg g]
      exact ⟨h, b, m, rfl, ⟨rfl, fun _ _ _ _ => rfl⟩, hB, hb, out_no fun y hy => Nat.le_trans (by omega) (cst_le (T_le hI hy))⟩
    have hAs := hI.2.1 f hf
    have hBs := hI.2.2.1 t ht
    have hsf := hsp f hf
    have hlt := hlk t ht
    rw [if_pos g, if_pos (show nI (4 * f + t) < (16 : Int32) from nI_lt (show 4 * f + t < 16 by omega) (by decide))]
    have hsbv : sb A f ≤ 108 := by
      have q : ∀ i, i < 4 → A i ≤ 36 := fun i hi => by
        have := hI.2.1 i hi
        have := hsp i hi
        omega
      have q1 := q 1 (by decide)
      have q2 := q 2 (by decide)
      have q3 := q 3 (by decide)
      rcases lt4 hf with rfl | rfl | rfl | rfl
      · show 0 + A 1 + A 2 + A 3 ≤ 108
        omega
      · show 0 + A 2 + A 3 ≤ 108
        omega
      · show 0 + A 3 ≤ 108
        omega
      · exact Nat.zero_le _
    have em : (if nI (B t) < nI (A f) then nI (B t) else nI (A f)) = nI (min (B t) (A f)) := by
      simp only [nI_ltI (show B t < 2 ^ 31 by omega) (show A f < 2 ^ 31 by omega)]
      by_cases g : B t < A f
      · rw [if_pos g, Nat.min_eq_left (by omega)]
      · rw [if_neg g, Nat.min_eq_right (by omega)]
    have el : (if (0 : Int32) < nI (B t) - nI (sb A f) then nI (B t) - nI (sb A f) else (0 : Int32)) = nI (B t - sb A f) := by
      by_cases g : sb A f ≤ B t
      · rw [pk_sub g]
        by_cases g2 : B t - sb A f = 0
        · rw [g2, if_neg (by decide)]
          rfl
        · rw [if_pos (show (0 : Int32) < nI (B t - sb A f) from nI_lt (show 0 < B t - sb A f by omega) (by omega))]
      · rw [if_neg (fun q => by
          have := pk_sneg (a := B t) (b := sb A f) (by omega) (by omega)
          exact absurd (Int32.lt_trans q this) (by decide))]
        rw [show B t - sb A f = 0 by omega]
        rfl
    simp (disch := omega) only [vvnz4, d1, d2, vv_let, ck_lit, nI_clamp, hS.2.1, hS.2.2, em, sb_c hS hf, Option.bind_some, el]
    have hL := lp_count (f := fun (zs : Int32 × vv_H) => ff_X9_tryLane_B82 (ff_X9_tryLane (d + 1)) (nI (4 * f + t)) (nI (cst rd T)) (nI f) (nI t) (nI (min (B t) (A f))) zs.1 zs.2) (fun i z => ∃ (g : vv_H) (b1 : Nat) (m1 : Nat → Nat), z = (nI (B t - sb A f + i), g) ∧ frT h g ∧ bsT g b1 m1 ∧ b1 ≤ 1000000 ∧ out rd (fun y => pln sp lk (4 * f + t) T y ∧ y (4 * f + t) < B t - sb A f + i) b m b1 m1) (fun g => ∃ (b1 : Nat) (m1 : Nat → Nat), frT h g ∧ bsT g b1 m1 ∧ b1 ≤ 1000000 ∧ out rd (pln sp lk (4 * f + t) T) b m b1 m1) (min (B t) (A f) + 1 - (B t - sb A f)) ?hs ?he vv_F 0 (nI (B t - sb A f), h) ⟨h, b, m, rfl, ⟨rfl, fun _ _ _ _ => rfl⟩, hB, hb, out_no fun y hy => ?hz⟩ (Nat.zero_le _) (vv_F_lt (by omega))
    case hz =>
      have := (pln_B hf ht hI hy.1).2
      have := hy.2
      omega
    case hs =>
      rintro i z hi ⟨g1, b1, m1, rfl, k1, k2, k3, k4⟩
      left
      obtain ⟨n, hn⟩ : ∃ n, n = B t - sb A f + i := ⟨_, rfl⟩
      rw [← hn] at k4
      have hS1 := stT_fr k1 hS
      have h0 := hI.1 (4 * f + t) (Nat.le_refl _)
      have hI2 := inv_up (n := n) hf ht hI (by omega) (by omega) (by omega)
      have hS2 := snd_st (n := n) hf ht hS1 h0 (by omega) (by omega)
      have hR1 : rdT (snd g1 f t (nI n)) rd := fun a c ha hc => by
        unfold snd
        rw [vv_iu_ne (by omega), vv_iu_ne (by omega), vv_iu_ne (by omega)]
        exact rdT_fr k1 hR a c ha hc
      have hB2 : bsT (snd g1 f t (nI n)) b1 m1 := by
        unfold snd
        refine ⟨?_, fun l hl => ?_⟩
        · rw [vv_iu_ne (by omega), vv_iu_ne (by omega), vv_iu_ne (by omega)]
          exact k2.1
        · rw [vv_iu_ne (by omega), vv_iu_ne (by omega), vv_iu_ne (by omega)]
          exact k2.2 l hl
      obtain ⟨g2, b2, m2, j1, j2, j3, j4, j5⟩ := ih (4 * f + t + 1) (by omega) _ _ _ _ b1 m1 hI2 hS2 hR1 k3 hB2
      rw [cst_pt h0 (by omega)] at j1
      have ec : nI (cst rd T) + nI n * nI (rd (4 * f + t)) = nI (cst rd T + n * rd (4 * f + t)) := by rw [pk_mul, nI_add]
      simp (disch := omega) only [ff_X9_tryLane_B82, ← hn, if_neg (nI_nlt (show n ≤ min (B t) (A f) by omega) (show min (B t) (A f) < 2 ^ 31 by omega)), send_c hf ht, Option.bind_some, ck_lit, nI_clamp, hR1 f t hf ht, ec, nI_1, j1, vv_let]
      refine ⟨_, rfl, _, b2, m2, (by rw [show B t - sb A f + (i + 1) = n + 1 by omega]), frT_tr k1 (snd_bk hf ht j2), ?_, j4, ?_⟩
      · unfold snd
        refine ⟨?_, fun l hl => ?_⟩
        · rw [vv_iu_ne (by omega), vv_iu_ne (by omega), vv_iu_ne (by omega)]
          exact j3.1
        · rw [vv_iu_ne (by omega), vv_iu_ne (by omega), vv_iu_ne (by omega)]
          exact j3.2 l hl
      · have hsp : ∀ y, pln sp lk (4 * f + t + 1) (pt T (4 * f + t) n) y ↔ pln sp lk (4 * f + t) T y ∧ y (4 * f + t) = n := fun y => by
          constructor
          · rintro ⟨q1, q2⟩
            refine ⟨⟨q1, fun l hl => ?_⟩, ?_⟩
            · rw [q2 l (by omega), pt, if_neg (by omega)]
            · rw [q2 _ (by omega), pt, if_pos rfl]
          · rintro ⟨⟨q1, q2⟩, q3⟩
            refine ⟨q1, fun l hl => ?_⟩
            by_cases e : l = 4 * f + t
            · rw [e, q3, pt, if_pos rfl]
            · rw [q2 l (by omega), pt, if_neg e]
        refine out_seq k4 j5 (fun y => ?_) (fun x y hx hy => ?_)
        · rw [hsp y]
          constructor
          · rintro ⟨q1, q2⟩
            by_cases e : y (4 * f + t) = n
            · exact Or.inr ⟨q1, e⟩
            · exact Or.inl ⟨q1, by omega⟩
          · rintro (⟨q1, q2⟩ | ⟨q1, q2⟩)
            · exact ⟨q1, by omega⟩
            · exact ⟨q1, by omega⟩
        · rw [hsp y] at hy
          refine Nat.le_of_lt (pv_lt (k := 4 * f + t) (fun l hl => ?_) ?_ (by omega) (feas_15 hlk hx.1.1))
          · rw [hx.1.2 l hl, hy.1.2 l hl]
          · have := hx.2
            have := hy.2
            omega
    case he =>
      rintro z ⟨g1, b1, m1, rfl, k1, k2, k3, k4⟩
      simp only [ff_X9_tryLane_B82, if_pos (nI_lt (show min (B t) (A f) < B t - sb A f + (min (B t) (A f) + 1 - (B t - sb A f)) by omega) (by omega))]
      refine ⟨_, rfl, b1, m1, k1, k2, k3, out_iff k4 fun y => ⟨fun q => ⟨q, ?_⟩, fun q => q.1⟩⟩
      have := pln_A hf ht hI q
      have := (pln_B hf ht hI q).1
      omega
    obtain ⟨g1, e1, b1, m1, k1, k2, k3, k4⟩ := hL
    rw [e1]
    exact ⟨_, b1, m1, rfl, k1, k2, k3, k4⟩
