theorem wfb_153 {k j : Nat} {lo hi : Int} (h : wfb k j = some (lo, hi)) : ¬ (153 ≤ k ∧ k ≤ 155) := by
  intro q
  unfold wfb at h
  have h3 : ∀ {p : Prop} [Decidable p] {A B : Option (Int × Int)}, ¬ p → (if p then A else B) = some (lo, hi) → B = some (lo, hi) := fun hp hh => by rwa [if_neg hp] at hh
  iterate 25 (first | (replace h := h3 (by omega) h) | skip)
  cases h
theorem phf_153 {k j k' j' : Nat} (h : ph_f k j = some (k', j')) : ¬ (153 ≤ k ∧ k ≤ 155) := by
  intro q
  have hz : ph_f k j = none := by
    have h3 : ∀ {p : Prop} [Decidable p] {A B : Option (Nat × Nat)}, ¬ p → (if p then A else B) = B := fun hp => if_neg hp
    unfold ph_f
    iterate 40 (first | (rw [h3 (by omega)]) | skip)
  rw [hz] at h
  cases h
theorem RR_core2 {c c' r r' : vv_H} (H : RR c r) (h1 : c'.2.2 = c.2.2 ∧ ∀ k j, ¬ scC (c.2.2 0) k j → ¬ (153 ≤ k ∧ k ≤ 155) → c'.1 k j = c.1 k j) (h2 : coR r r') (hp : plan0 c') : RR c' r' := by
  obtain ⟨a1, a2, a3, a4, a5, a6, a7⟩ := H
  have hb := rid_bd (c.2.2 0)
  have hb2 := rid_bd (!(c.2.2 0))
  have hap := rid_ap (c.2.2 0)
  have e1 : ∀ k j, ¬ scC (c.2.2 0) k j → ¬ (153 ≤ k ∧ k ≤ 155) → c'.1 k j = c.1 k j := h1.2
  have n1 : ∀ k j, ((¬ (k = 50 ∧ j ≠ 0)) ∧ ¬ (52 ≤ k ∧ k ≤ 55) ∧ ¬ (vv_rid (!(c.2.2 0)) ≤ k ∧ k < vv_rid (!(c.2.2 0)) + 45) ∧ ¬ (k = 146 ∧ j ≠ 0) ∧ ¬ (152 ≤ k ∧ k ≤ 155) ∧ ¬ (167 ≤ k ∧ k ≤ 175)) → c'.1 k j = c.1 k j := fun k j hh => e1 k j (by unfold scC; omega) (by omega)
  have n2 : ∀ k j, ((¬ (k = 0 ∧ (19 ≤ j ∧ j ≤ 24 ∨ j = 34 ∨ j = 41 ∨ j = 62))) ∧ k ≠ 12 ∧ ¬ (22 ≤ k ∧ k ≤ 27) ∧ ¬ (39 ≤ k ∧ k ≤ 52)) → r'.1 k j = r.1 k j := fun k j hh => h2 k j (by unfold scR; omega)
  refine ⟨?_, ?_, ?_, ?_, ?_, ?_, ?_⟩
  · intro k j k' j' e
    rw [e1 k j (phf_sc e).1 (phf_153 e), h2 k' j' (phf_sc (b := c.2.2 0) e).2]
    exact a1 k j k' j' e
  · intro k j lo hi e
    rw [e1 k j (wfb_ok e) (wfb_153 e)]
    exact a2 k j lo hi e
  · refine ⟨fun p hq => ?_, fun j hj => ?_, fun j hj => ?_, hp⟩
    · rw [n1 156 0 (by omega)] at hq
      rw [n1 157 p (by omega), n1 22 0 (by omega), n1 160 p (by omega), n1 161 p (by omega), n1 146 0 (by omega), n1 1 0 (by omega)]
      exact a3.1 p hq
    · rw [n1 1 0 (by omega)] at hj
      rw [n1 15 j (by omega)]
      exact a3.2.1 j hj
    · rw [n1 156 0 (by omega)] at hj
      rw [n1 163 j (by omega), n1 164 j (by omega), n1 165 j (by omega), n1 166 j (by omega)]
      exact a3.2.2.1 j hj
  · intro j hj
    rw [n1 51 j (by omega), n2 13 j (by omega)]
    exact a4 j hj
  · obtain ⟨b1, b2, b3⟩ := a5
    have hq : ∀ k j, vv_rid (c.2.2 0) ≤ k → k < vv_rid (c.2.2 0) + 45 → c'.1 k j = c.1 k j := fun k j q1 q2 => n1 k j (by omega)
    refine ⟨by rw [h1.1]; exact b1, ?_, ?_⟩
    · rw [h1.1, hq _ _ (Nat.le_refl _) (by omega), n2 0 27 (by omega)]
      exact b2
    · intro i hi
      rw [h1.1] at hi ⊢
      rw [hq _ _ (Nat.le_refl _) (by omega)] at hi
      have hi12 : i < 12 := by have := b2.2.2; omega
      have := b3 i hi
      unfold rline at this ⊢
      rw [hq _ i (by omega) (by omega), hq _ i (by omega) (by omega), hq _ i (by omega) (by omega), hq _ i (by omega) (by omega), hq _ i (by omega) (by omega), n2 16 i (by omega), n2 17 i (by omega), n2 18 i (by omega), n2 19 i (by omega), n2 20 i (by omega)]
      obtain ⟨g1, g2, g3, g4, g5, g6⟩ := this
      refine ⟨g1, g2, g3, g4, g5, fun t ht => ?_⟩
      rw [hq (vv_rid (c.2.2 0) + 7 + i) t (by omega) (by omega), hq (vv_rid (c.2.2 0) + 20 + i) t (by omega) (by omega), hq (vv_rid (c.2.2 0) + 33 + i) t (by omega) (by omega), n2 21 _ (by omega), n2 21 _ (by omega), n2 21 _ (by omega)]
      exact g6 t ht
  · intro k hk
    rw [n1 178 k (by omega), n1 177 k (by omega), n2 53 k (by omega), n2 54 k (by omega)]
    rcases a6 k hk with h | ⟨g1, g2, g3, g4, g5, g6, g7⟩
    · exact Or.inl h
    · refine Or.inr ⟨g1, g2, g3, g4, g5, g6, fun j hj => ?_⟩
      rw [n1 _ j (by omega), n2 55 _ (by omega)]
      exact g7 j hj
  · refine ⟨fun j hj => ?_, fun j hj => ?_⟩
    · rw [n2 14 j (by omega)]
      exact a7.1 j hj
    · rw [n2 15 j (by omega)]
      exact a7.2 j hj
/-- a write of the same to two cells that belong together -/
theorem RR_154 {c r : vv_H} (H : RR c r) {k s : Nat} {v : Int32} (hk : k = 154 ∨ k = 155) (hs : (s : Int) < (c.1 146 0).toInt) : RR (vv_iu c k s v) r := by
  refine RR_core2 H ⟨rfl, fun a j _ h2 => by rw [vv_iu_ne (by omega)]⟩ (coR_rf r) ⟨fun j => ?_, fun j hj => ?_⟩
  · rw [vv_iu_ne (by omega)]
    exact H.2.2.1.2.2.2.1 j
  · rw [vv_iu_ne (by omega)] at hj
    rw [vv_iu_nj (by omega), vv_iu_nj (by omega)]
    exact H.2.2.1.2.2.2.2 j hj
