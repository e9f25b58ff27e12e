theorem rid_bd (b : Bool) : 56 ≤ vv_rid b ∧ vv_rid b + 45 ≤ 146 := by cases b <;> decide
theorem rid_ap (b : Bool) : vv_rid (!b) + 45 ≤ vv_rid b ∨ vv_rid b + 45 ≤ vv_rid (!b) := by cases b <;> decide
theorem wfp_of {c c' : vv_H} (h : wfp c) (e1 : c'.1 156 0 = c.1 156 0) (e2 : c'.1 157 = c.1 157) (e3 : c'.1 22 0 = c.1 22 0) (e4 : c'.1 160 = c.1 160) (e5 : c'.1 146 0 = c.1 146 0) (e6 : c'.1 161 = c.1 161) (e7 : c'.1 1 0 = c.1 1 0) (e8 : c'.1 15 = c.1 15) (e9 : ∀ a, 163 ≤ a ∧ a ≤ 166 ∨ 153 ≤ a ∧ a ≤ 155 → c'.1 a = c.1 a) : wfp c' := by
  refine ⟨fun p hp => ?_, fun j hj => ?_, fun j hj => ?_, plan0_of h.2.2.2 (e9 _ (by omega)) (e9 _ (by omega)) (e9 _ (by omega)) (by rw [e5]; exact Int.le_refl _)⟩
  · rw [e1] at hp
    rw [e2, e3, e4, e5, e6, e7]
    exact h.1 p hp
  · rw [e8]
    rw [e7] at hj
    exact h.2.1 j hj
  · rw [e9 163 (by omega), e9 164 (by omega), e9 165 (by omega), e9 166 (by omega)]
    rw [e1] at hj
    exact h.2.2.1 j hj
theorem RR_core {c c' r r' : vv_H} (H : RR c r) (h1 : coC c c') (h2 : coR r r') : RR c' r' := by
  obtain ⟨a1, a2, a3, a4, a5, a6, a7⟩ := H
  have hb := rid_bd (c.2.2 0)
  have hb2 := rid_bd (!(c.2.2 0))
  have hap := rid_ap (c.2.2 0)
  have e1 : ∀ k j, ¬ scC (c.2.2 0) k j → c'.1 k j = c.1 k j := h1.2
  have n1 : ∀ k j, ((¬ (k = 50 ∧ j ≠ 0)) ∧ ¬ (52 ≤ k ∧ k ≤ 55) ∧ ¬ (vv_rid (!(c.2.2 0)) ≤ k ∧ k < vv_rid (!(c.2.2 0)) + 45) ∧ ¬ (k = 146 ∧ j ≠ 0) ∧ ¬ k = 152 ∧ ¬ (167 ≤ k ∧ k ≤ 175)) → c'.1 k j = c.1 k j := fun k j hh => e1 k j (by unfold scC; omega)
  have n2 : ∀ k j, ((¬ (k = 0 ∧ (19 ≤ j ∧ j ≤ 24 ∨ j = 34 ∨ j = 41 ∨ j = 62))) ∧ k ≠ 12 ∧ ¬ (22 ≤ k ∧ k ≤ 27) ∧ ¬ (39 ≤ k ∧ k ≤ 52)) → r'.1 k j = r.1 k j := fun k j hh => h2 k j (by unfold scR; omega)
  refine ⟨?_, ?_, ?_, ?_, ?_, ?_, ?_⟩
  · intro k j k' j' e
    rw [e1 k j (phf_sc e).1, h2 k' j' (phf_sc (b := c.2.2 0) e).2]
    exact a1 k j k' j' e
  · intro k j lo hi e
    rw [e1 k j (wfb_ok e)]
    exact a2 k j lo hi e
  · exact wfp_of a3 (n1 156 0 (by omega)) (funext fun j => n1 157 j (by omega)) (n1 22 0 (by omega)) (funext fun j => n1 160 j (by omega)) (n1 146 0 (by omega)) (funext fun j => n1 161 j (by omega)) (n1 1 0 (by omega)) (funext fun j => n1 15 j (by omega)) (fun a ha => funext fun j => n1 a j (by omega))
  · intro j hj
    rw [n1 51 j (by omega), n2 13 j (by omega)]
    exact a4 j hj
  · obtain ⟨b1, b2, b3⟩ := a5
    have hq : ∀ k j, vv_rid (c.2.2 0) ≤ k → k < vv_rid (c.2.2 0) + 45 → c'.1 k j = c.1 k j := fun k j q1 q2 => n1 k j (by omega)
    refine ⟨by rw [h1.1]; exact b1, ?_, ?_⟩
    · rw [h1.1, hq _ _ (Nat.le_refl _) (by omega), n2 0 27 (by omega)]
      exact b2
    · intro i hi
      rw [h1.1] at hi ⊢
      rw [hq _ _ (Nat.le_refl _) (by omega)] at hi
      have hi12 : i < 12 := by have := b2.2.2; omega
      have := b3 i hi
      unfold rline at this ⊢
      rw [hq _ i (by omega) (by omega), hq _ i (by omega) (by omega), hq _ i (by omega) (by omega), hq _ i (by omega) (by omega), hq _ i (by omega) (by omega), n2 16 i (by omega), n2 17 i (by omega), n2 18 i (by omega), n2 19 i (by omega), n2 20 i (by omega)]
      obtain ⟨g1, g2, g3, g4, g5, g6⟩ := this
      refine ⟨g1, g2, g3, g4, g5, fun t ht => ?_⟩
      rw [hq (vv_rid (c.2.2 0) + 7 + i) t (by omega) (by omega), hq (vv_rid (c.2.2 0) + 20 + i) t (by omega) (by omega), hq (vv_rid (c.2.2 0) + 33 + i) t (by omega) (by omega), n2 21 _ (by omega), n2 21 _ (by omega), n2 21 _ (by omega)]
      exact g6 t ht
  · intro k hk
    rw [n1 178 k (by omega), n1 177 k (by omega), n2 53 k (by omega), n2 54 k (by omega)]
    rcases a6 k hk with h | ⟨g1, g2, g3, g4, g5, g6, g7⟩
    · exact Or.inl h
    · refine Or.inr ⟨g1, g2, g3, g4, g5, g6, fun j hj => ?_⟩
      rw [n1 _ j (by omega), n2 55 _ (by omega)]
      exact g7 j hj
  · refine ⟨fun j hj => ?_, fun j hj => ?_⟩
    · rw [n2 14 j (by omega)]
      exact a7.1 j hj
    · rw [n2 15 j (by omega)]
      exact a7.2 j hj
/-- a write of the same to two cells that belong together -/
theorem RR_up {c r : vv_H} {k j k' j' : Nat} {v : Int32} (H : RR c r) (e : ph_f k j = some (k', j')) (hb : ∀ lo hi, wfb k j = some (lo, hi) → lo ≤ v.toInt ∧ v.toInt ≤ hi) (hw : wfp (vv_iu c k j v)) : RR (vv_iu c k j v) (vv_iu r k' j' v) := by
  obtain ⟨a1, a2, a3, a4, a5, a6, a7⟩ := H
  obtain ⟨o1, o2, o3, o4, o5, o6⟩ := ph_ok e
  have hbd := rid_bd (c.2.2 0)
  have n1 : ∀ a i, a ≠ k → (vv_iu c k j v).1 a i = c.1 a i := fun a i q => by rw [vv_iu_ne q]
  have n2 : ∀ a i, (a ≠ k' ∨ i ≠ j') → (vv_iu r k' j' v).1 a i = r.1 a i := fun a i q => by
    rw [vv_iu_e, if_neg]
    rintro ⟨rfl, rfl⟩
    rcases q with q | q <;> exact q rfl
  refine ⟨rel_up a1 e, wf0_up a2 hb, hw, ?_, ?_, ?_, ?_⟩
  · intro i hi
    rw [n1 51 i (by omega), n2 13 i (by omega)]
    exact a4 i hi
  · obtain ⟨b1, b2, b3⟩ := a5
    have hq : ∀ a i, vv_rid (c.2.2 0) ≤ a → a < vv_rid (c.2.2 0) + 45 → (vv_iu c k j v).1 a i = c.1 a i := fun a i q1 q2 => n1 a i (by omega)
    refine ⟨b1, ?_, ?_⟩
    · show (vv_iu r k' j' v).1 0 27 = (vv_iu c k j v).1 (vv_rid (c.2.2 0)) 0 ∧ 0 ≤ ((vv_iu c k j v).1 (vv_rid (c.2.2 0)) 0).toInt ∧ ((vv_iu c k j v).1 (vv_rid (c.2.2 0)) 0).toInt ≤ 12
      rw [hq _ _ (Nat.le_refl _) (by omega), n2 0 27 (by omega)]
      exact b2
    · intro i hi
      have hi' : (i : Int) < (c.1 (vv_rid (c.2.2 0)) 0).toInt := by
        rw [← hq _ 0 (Nat.le_refl _) (by omega)]
        exact hi
      have hi12 : i < 12 := by have := b2.2.2; omega
      have := b3 i hi'
      show rline (vv_iu c k j v) (vv_iu r k' j' v) (vv_rid (c.2.2 0)) 16 i
      unfold rline at this ⊢
      rw [hq _ i (by omega) (by omega), hq _ i (by omega) (by omega), hq _ i (by omega) (by omega), hq _ i (by omega) (by omega), hq _ i (by omega) (by omega), n2 16 i (by omega), n2 17 i (by omega), n2 18 i (by omega), n2 19 i (by omega), n2 20 i (by omega)]
      obtain ⟨g1, g2, g3, g4, g5, g6⟩ := this
      refine ⟨g1, g2, g3, g4, g5, fun t ht => ?_⟩
      rw [hq (vv_rid (c.2.2 0) + 7 + i) t (by omega) (by omega), hq (vv_rid (c.2.2 0) + 20 + i) t (by omega) (by omega), hq (vv_rid (c.2.2 0) + 33 + i) t (by omega) (by omega), n2 21 _ (by omega), n2 21 _ (by omega), n2 21 _ (by omega)]
      exact g6 t ht
  · intro a ha
    rw [n1 178 a (by omega), n1 177 a (by omega), n2 53 a (by omega), n2 54 a (by omega)]
    rcases a6 a ha with h | ⟨g1, g2, g3, g4, g5, g6, g7⟩
    · exact Or.inl h
    · refine Or.inr ⟨g1, g2, g3, g4, g5, g6, fun i hi => ?_⟩
      rw [n1 _ i (by omega), n2 55 _ (by omega)]
      exact g7 i hi
  · refine ⟨fun i hi => ?_, fun i hi => ?_⟩
    · rw [n2 14 i (by omega)]
      exact a7.1 i hi
    · rw [n2 15 i (by omega)]
      exact a7.2 i hi
theorem bd_in {k j : Nat} {v : Int32} {lo hi : Int} (e : wfb k j = some (lo, hi)) (h1 : lo ≤ v.toInt) (h2 : v.toInt ≤ hi) : ∀ lo hi, wfb k j = some (lo, hi) → lo ≤ v.toInt ∧ v.toInt ≤ hi := fun lo' hi' e' => by
  rw [e] at e'
  cases e'
  exact ⟨h1, h2⟩
theorem bd_no {k j : Nat} {v : Int32} (e : wfb k j = none) : ∀ lo hi, wfb k j = some (lo, hi) → lo ≤ v.toInt ∧ v.toInt ≤ hi := fun lo' hi' e' => by
  rw [e] at e'
  cases e'
theorem wfp_ne {c : vv_H} {k j : Nat} {v : Int32} (h : wfp c) (q : k ≠ 156 ∧ k ≠ 157 ∧ k ≠ 22 ∧ k ≠ 160 ∧ k ≠ 146 ∧ k ≠ 161 ∧ k ≠ 1 ∧ k ≠ 15 ∧ ¬ (163 ≤ k ∧ k ≤ 166) ∧ ¬ (153 ≤ k ∧ k ≤ 155)) : wfp (vv_iu c k j v) :=
  wfp_of h (by rw [vv_iu_ne (by omega)]) (vv_iu_ne (by omega)) (by rw [vv_iu_ne (by omega)]) (vv_iu_ne (by omega)) (by rw [vv_iu_ne (by omega)]) (vv_iu_ne (by omega)) (by rw [vv_iu_ne (by omega)]) (vv_iu_ne (by omega)) (fun a ha => vv_iu_ne (by omega))
/-- more bodies, sizes, stores than before -/
theorem wfp_more {c : vv_H} {k : Nat} {v : Int32} (h : wfp c) (q : k = 1 ∨ k = 22 ∨ k = 146) (hv : (c.1 k 0).toInt ≤ v.toInt) : wfp (vv_iu c k 0 v) := by
  have m : ∀ a, a = 1 ∨ a = 22 ∨ a = 146 → (c.1 a 0).toInt ≤ ((vv_iu c k 0 v).1 a 0).toInt := fun a ha => by
    rw [vv_iu_e]
    split
    · rename_i z
      rw [z.1]
      exact hv
    · exact Int.le_refl _
  have m1 := m 1 (by omega)
  have m2 := m 22 (by omega)
  have m3 := m 146 (by omega)
  refine ⟨fun p hp => ?_, fun j hj => ?_, fun j hj => ?_, plan0_of h.2.2.2 (vv_iu_ne (by omega)) (vv_iu_ne (by omega)) (vv_iu_ne (by omega)) m3⟩
  · have := h.1 p (by rw [vv_iu_ne (by omega)] at hp; exact hp)
    obtain ⟨g1, g2, g3⟩ := this
    rw [vv_iu_ne (a := 157) (by omega), vv_iu_ne (a := 160) (by omega), vv_iu_ne (a := 161) (by omega)]
    refine ⟨by omega, ?_, ?_⟩
    · rcases g2 with g2 | ⟨g2, g4, g5⟩
      · exact Or.inl g2
      · exact Or.inr ⟨g2, by omega, g5⟩
    · rcases g3 with g3 | ⟨g3, g4⟩
      · exact Or.inl g3
      · exact Or.inr ⟨g3, by omega⟩
  · rw [vv_iu_ne (by omega)]
    exact h.2.1 j (by omega)
  · rw [vv_iu_ne (by omega), vv_iu_ne (by omega), vv_iu_ne (by omega), vv_iu_ne (by omega)]
    exact h.2.2.1 j (by rw [vv_iu_ne (by omega)] at hj; exact hj)
theorem RR.b {c r : vv_H} (H : RR c r) {k j : Nat} {lo hi : Int} (e : wfb k j = some (lo, hi)) : lo ≤ (c.1 k j).toInt ∧ (c.1 k j).toInt ≤ hi := H.2.1 k j lo hi e
