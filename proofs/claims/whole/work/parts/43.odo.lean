/-- the reference's heap with the numbers z tried -/
def ord (r g : vv_H) (P : Nat) (ln mo z : Nat → Nat) : Prop := frR r g ∧ g.1 0 62 = nI P ∧ prs g P ln mo ∧ nrow g 49 P z
theorem ord_50 {r g : vv_H} {P k : Nat} {ln mo z : Nat → Nat} {v : Int32} (h : ord r g P ln mo z) : ord r (vv_iu g 50 k v) P ln mo z := ⟨frR_iu h.1 (by omega), by rw [vv_iu_ne (by omega)]; exact h.2.1, fun j hj => by simp (disch := omega) only [vv_iu_ne]; exact h.2.2.1 j hj, fun j hj => by rw [vv_iu_ne (by omega)]; exact h.2.2.2 j hj⟩
theorem ord_49 {r g : vv_H} {P k v : Nat} {ln mo z : Nat → Nat} (h : ord r g P ln mo z) : ord r (vv_iu g 49 k (nI v)) P ln mo (pt z k v) := ⟨frR_iu h.1 (by omega), by rw [vv_iu_ne (by omega)]; exact h.2.1, fun j hj => by simp (disch := omega) only [vv_iu_ne]; exact h.2.2.1 j hj, fun j hj => by
  rw [vv_iu_e, pt]
  by_cases e : j = k
  · rw [if_pos ⟨rfl, e⟩, if_pos e]
  · rw [if_neg (fun q => e q.2), if_neg e]
    exact h.2.2.2 j hj⟩
/-- the picture of the stores: S stores, sp more, lk less, roads rd -/
def sto (r : vv_H) (S : Nat) (sp lk ln rd : Nat → Nat) : Prop := S ≤ 4 ∧ r.1 0 42 = nI S ∧ (∀ s, sp s ≤ 36) ∧ (∀ s, lk s ≤ 15) ∧ (∀ s, sp s = 0 ∨ lk s = 0) ∧ (∀ s, S ≤ s → sp s = 0 ∧ lk s = 0) ∧ mor r S sp lk ∧ (∀ l, l < 16 → pq sp lk l = true → ln (ko (pq sp lk) l) = l) ∧ (∀ l, l < 16 → rd l ≤ 99) ∧ ∀ l, l < 16 → pq sp lk l = true → r.1 28 l = nI (rd l)
theorem ln_of {sp lk ln : Nat → Nat} (h : ∀ l, l < 16 → pq sp lk l = true → ln (ko (pq sp lk) l) = l) {k : Nat} (hk : k < ko (pq sp lk) 16) : ln k < 16 ∧ pq sp lk (ln k) = true ∧ ko (pq sp lk) (ln k) = k := by
  obtain ⟨l, h1, h2, h3⟩ := ko_sur hk
  have := h l h1 h2
  rw [h3] at this
  rw [this]
  exact ⟨h1, h2, h3⟩
theorem emb_row {sp lk z : Nat → Nat} {s : Nat} (hs : s < 4) : (sp s = 0 → row (emb (pq sp lk) z) s = 0) ∧ (lk s = 0 → col (emb (pq sp lk) z) s = 0) := by
  constructor
  · intro h
    have q : ∀ t, t < 4 → emb (pq sp lk) z (4 * s + t) = 0 := fun t ht => if_neg (fun q => by have := (pq_iff ht).mp q; omega)
    have q0 := q 0 (by decide)
    have q1 := q 1 (by decide)
    have q2 := q 2 (by decide)
    have q3 := q 3 (by decide)
    unfold row
    omega
  · intro h
    have q : ∀ f, emb (pq sp lk) z (4 * f + s) = 0 := fun f => if_neg (fun q => by have := (pq_iff hs).mp q; omega)
    have q0 := q 0
    have q1 := q 1
    have q2 := q 2
    have q3 := q 3
    unfold col
    omega
theorem cost_r {r g : vv_H} {S : Nat} {sp lk ln rd z : Nat → Nat} (hs : sto r S sp lk ln rd) (hg : ord r g (ko (pq sp lk) 16) ln (fun l => min (sp (l / 4)) (lk (l % 4))) z) (hz : ∀ k, k < ko (pq sp lk) 16 → z k ≤ 15) : ∃ a, ff_X12_costNow g = some a ∧ ((feas sp lk (emb (pq sp lk) z) ∧ a = nI (cst rd (emb (pq sp lk) z))) ∨ (¬ feas sp lk (emb (pq sp lk) z) ∧ a = -1)) := by
  obtain ⟨hS, eS, hsp, hlk, h0, hzz, hm, hln, hrd, hro⟩ := hs
  obtain ⟨f1, f2, f3, f4⟩ := hg
  have k4 := ko_4 (sp := sp) (lk := lk) fun s _ => h0 s
  have eS' : g.1 0 42 = nI S := by rw [f1.2 0 42 (by omega) (by omega), eS]
  obtain ⟨P, hP⟩ : ∃ P, P = ko (pq sp lk) 16 := ⟨_, rfl⟩
  obtain ⟨e, he⟩ : ∃ e, e = emb (pq sp lk) z := ⟨_, rfl⟩
  rw [← he]
  have hln2 : ∀ k, k < P → ln k < 16 ∧ pq sp lk (ln k) = true ∧ ko (pq sp lk) (ln k) = k := fun k hk => ln_of hln (by rw [← hP]; exact hk)
  have e15 : ∀ l, l < 16 → e l ≤ 15 := fun l hl => by
    rw [he]
    unfold emb
    by_cases q : pq sp lk l = true
    · rw [if_pos q]
      exact hz _ (ko_lt q hl)
    · rw [if_neg q]
      exact Nat.zero_le _
  rw [← hP] at f2 f3 f4 k4
  -- the sum at one store
  have hsum : ∀ s, s < 4 → vv_lp (fun (zs : Int32 × Int32) => ff_X12_costNow_B17 0 (nI s) g zs.1 zs.2) vv_F ((0 : Int32), (0 : Int32)) = some (nI (row e s + col e s)) := fun s hs => by
    have hL := lp_count (f := fun (zs : Int32 × Int32) => ff_X12_costNow_B17 0 (nI s) g zs.1 zs.2) (fun i t => t = (nI (cu (fun k => if ln k / 4 = s ∨ ln k % 4 = s then z k else 0) i), nI i)) (fun a => a = nI (cu (fun k => if ln k / 4 = s ∨ ln k % 4 = s then z k else 0) P)) P ?hs ?he vv_F 0 ((0 : Int32), (0 : Int32)) rfl (Nat.zero_le _) (vv_F_lt (by omega))
    case hs =>
      rintro i t hi rfl
      left
      obtain ⟨a1, a2, a3⟩ := f3 i hi
      have l1 := (hln2 i hi).1
      have ecu : cu (fun k => if ln k / 4 = s ∨ ln k % 4 = s then z k else 0) (i + 1) = cu (fun k => if ln k / 4 = s ∨ ln k % 4 = s then z k else 0) i + (if ln i / 4 = s ∨ ln i % 4 = s then z i else 0) := rfl
      rw [ecu]
      simp (disch := omega) only [ff_X12_costNow_B17, f2, if_neg (nI_nle' hi (by omega)), ck_lit, nI_clamp, a1, a2, f4 i hi, nI_eq, vv_let, nI_1, nI_add, Int32.add_zero]
      by_cases c1 : ln i / 4 = s
      · rw [if_pos c1, if_pos (Or.inl c1)]
        exact ⟨_, rfl, rfl⟩
      rw [if_neg c1]
      by_cases c2 : ln i % 4 = s
      · rw [if_pos c2, if_pos (Or.inr c2)]
        exact ⟨_, rfl, rfl⟩
      rw [if_neg c2, if_neg (fun q => q.elim c1 c2)]
      exact ⟨_, rfl, rfl⟩
    case he =>
      rintro t rfl
      simp only [ff_X12_costNow_B17, f2, if_pos (nI_le (Nat.le_refl P) (show P < 2 ^ 31 by omega))]
      exact ⟨_, rfl, rfl⟩
    obtain ⟨a, e1, rfl⟩ := hL
    rw [e1, hP, emb_cu, ← sum_rc e hs (by
      rw [he]
      exact if_neg (fun q => by have := (pq_iff hs).mp q; have := h0 s; omega))]
    congr 2
    refine cu_eq 16 fun l hl => ?_
    by_cases q : pq sp lk l = true
    · rw [if_pos q, hln l hl q, he, emb, if_pos q]
    · rw [if_neg q, he, emb, if_neg q]
      split <;> rfl
  have hrow : ∀ s, s < 4 → row e s ≤ 60 ∧ col e s ≤ 60 := fun s hs => by
    have a0 := e15 (4 * s + 0) (by omega)
    have a1 := e15 (4 * s + 1) (by omega)
    have a2 := e15 (4 * s + 2) (by omega)
    have a3 := e15 (4 * s + 3) (by omega)
    have b0 := e15 (4 * 0 + s) (by omega)
    have b1 := e15 (4 * 1 + s) (by omega)
    have b2 := e15 (4 * 2 + s) (by omega)
    have b3 := e15 (4 * 3 + s) (by omega)
    unfold row col
    omega
  have hA := lp_count (f := fun (zs : Int32) => ff_X12_costNow_B4 0 g zs) (fun i t => t = nI i ∧ ∀ s, s < i → row e s ≤ sp s ∧ col e s = lk s) (fun a => (a = .inl () ∧ feas sp lk e) ∨ ((a = .inr (.inl ()) ∨ a = .inr (.inr ())) ∧ ¬ feas sp lk e)) S ?hs ?he vv_F 0 (0 : Int32) ⟨rfl, fun s hs => absurd hs (Nat.not_lt_zero s)⟩ (Nat.zero_le _) (vv_F_lt (by omega))
  case hs =>
    rintro s t hs ⟨rfl, hI⟩
    have m1 : g.1 51 s = nI (sp s) - nI (lk s) := by rw [f1.2 51 s (by omega) (by omega), hm s hs]
    have bs := hsp s
    have bl := hlk s
    have hb := h0 s
    obtain ⟨s1, s2, s3, s4⟩ := mor_sg (show sp s < 100 by omega) (show lk s < 100 by omega) hb
    obtain ⟨r1, r2⟩ := emb_row (sp := sp) (lk := lk) (z := z) (show s < 4 by omega)
    rw [← he] at r1 r2
    obtain ⟨w1, w2⟩ := hrow s (by omega)
    have nf : ¬ (row e s ≤ sp s ∧ col e s = lk s) → ¬ feas sp lk e := fun q1 q2 => q1 ⟨q2.1 s (by omega), q2.2 s (by omega)⟩
    have nx : row e s ≤ sp s ∧ col e s = lk s → ∀ u, u < s + 1 → row e u ≤ sp u ∧ col e u = lk u := fun q u hu => by
      rcases Nat.lt_succ_iff_lt_or_eq.mp hu with h | rfl
      · exact hI u h
      · exact q
    simp (disch := omega) only [ff_X12_costNow_B4, eS', if_neg (nI_nle' hs (by omega)), hsum, Option.bind_some, ck_lit, nI_clamp, m1, s1, s2, vv_let, nI_1]
    by_cases c1 : lk s = 0
    · rw [if_pos c1]
      by_cases c2 : sp s = 0
      · rw [if_pos c2]
        left
        have := r1 c2
        have := r2 c1
        rw [if_pos (show nI (row e s + col e s) ≤ (0 : Int32) from nI_le (show row e s + col e s ≤ 0 by omega) (by decide))]
        exact ⟨_, rfl, rfl, nx ⟨by omega, by omega⟩⟩
      · have := r2 c1
        simp only [if_neg c2, s3 c1, nI_leI (show row e s + col e s < 2 ^ 31 by omega) (show sp s < 2 ^ 31 by omega)]
        by_cases c3 : row e s + col e s ≤ sp s
        · rw [if_pos c3]
          exact Or.inl ⟨_, rfl, rfl, nx ⟨by omega, by omega⟩⟩
        · rw [if_neg c3]
          exact Or.inr ⟨_, rfl, Or.inr ⟨Or.inr rfl, nf (fun q => by omega)⟩⟩
    · have := r1 (by omega)
      simp only [if_neg c1, s4 (by omega), nI_eq (show row e s + col e s < 2 ^ 31 by omega) (show lk s < 2 ^ 31 by omega)]
      by_cases c3 : row e s + col e s = lk s
      · rw [if_pos c3]
        exact Or.inl ⟨_, rfl, rfl, nx ⟨by omega, by omega⟩⟩
      · rw [if_neg c3]
        exact Or.inr ⟨_, rfl, Or.inr ⟨Or.inl rfl, nf (fun q => by omega)⟩⟩
  case he =>
    rintro t ⟨rfl, hI⟩
    simp only [ff_X12_costNow_B4, eS', if_pos (nI_le (Nat.le_refl S) (show S < 2 ^ 31 by omega))]
    have all : ∀ s, s < 4 → row e s ≤ sp s ∧ col e s = lk s := fun s hs => by
      rcases Nat.lt_or_ge s S with h | h
      · exact hI s h
      · obtain ⟨z1, z2⟩ := hzz s h
        obtain ⟨r1, r2⟩ := emb_row (sp := sp) (lk := lk) (z := z) hs
        rw [← he] at r1 r2
        have := r1 z1
        have := r2 z2
        omega
    exact ⟨_, rfl, Or.inl ⟨rfl, fun s hs => (all s hs).1, fun s hs => (all s hs).2⟩⟩
  obtain ⟨a, e1, hJ⟩ := hA
  rw [ff_X12_costNow, e1]
  rcases hJ with ⟨rfl, hf⟩ | ⟨rfl | rfl, hf⟩
  · have hL := lp_count (f := fun (zs : Int32 × Int32) => ff_X12_costNow_B124 g zs.1 zs.2) (fun i t => t = (nI (cu (fun k => z k * rd (ln k)) i), nI i)) (fun a => a = nI (cu (fun k => z k * rd (ln k)) P)) P ?hs2 ?he2 vv_F 0 ((0 : Int32), (0 : Int32)) rfl (Nat.zero_le _) (vv_F_lt (by omega))
    case hs2 =>
      rintro i t hi rfl
      left
      obtain ⟨a1, a2, a3⟩ := f3 i hi
      obtain ⟨l1, l2, l3⟩ := hln2 i hi
      have e4 : (4 : Int32) * nI (ln i / 4) + nI (ln i % 4) = nI (ln i) := by
        rw [show (4 : Int32) = nI 4 from rfl, pk_mul, nI_add]
        congr 1
        omega
      have ecu : cu (fun k => z k * rd (ln k)) (i + 1) = cu (fun k => z k * rd (ln k)) i + z i * rd (ln i) := rfl
      have er : g.1 28 (ln i) = nI (rd (ln i)) := by rw [f1.2 28 _ (by omega) (by omega), hro _ l1 l2]
      rw [ecu]
      simp (disch := omega) only [ff_X12_costNow_B124, f2, if_neg (nI_nle' hi (by omega)), ck_lit, nI_clamp, a1, a2, e4, er, f4 i hi, vv_let, nI_1, pk_mul, nI_add]
      exact ⟨_, rfl, rfl⟩
    case he2 =>
      rintro t rfl
      simp only [ff_X12_costNow_B124, f2, if_pos (nI_le (Nat.le_refl P) (show P < 2 ^ 31 by omega))]
      exact ⟨_, rfl, rfl⟩
    obtain ⟨a, e2, rfl⟩ := hL
    refine ⟨nI (cu (fun k => z k * rd (ln k)) P), by simp only [Option.bind_some, Sum.elim_inl, e2], Or.inl ⟨hf, ?_⟩⟩
    rw [hP, emb_cu]
    congr 1
    refine cu_eq 16 fun l hl => ?_
    show _ = e l * rd l
    by_cases q : pq sp lk l = true
    · rw [if_pos q, hln l hl q, he, emb, if_pos q]
    · rw [if_neg q, he, emb, if_neg q, Nat.zero_mul]
  · exact ⟨-1, rfl, Or.inr ⟨hf, rfl⟩⟩
  · exact ⟨-1, rfl, Or.inr ⟨hf, rfl⟩⟩
