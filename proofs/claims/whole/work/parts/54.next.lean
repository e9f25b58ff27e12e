/-- the reference's tape -/
def lxr (r : vv_H) (w : Nat → Nat) (L : Nat) : Prop := L ≤ 240 ∧ r.1 0 17 = nI L ∧ (∀ j, j < 240 → w j < 256 ∧ r.1 13 j = nI (w j)) ∧ rcon r
/-- what reading changes in the reference -/
def frN (r g : vv_H) : Prop := g.2 = r.2 ∧ ∀ k j, ¬ (k = 0 ∧ 19 ≤ j ∧ j ≤ 24) → g.1 k j = r.1 k j
theorem frN_rf (r : vv_H) : frN r r := ⟨rfl, fun _ _ _ => rfl⟩
theorem frN_tr {a b c : vv_H} (h1 : frN a b) (h2 : frN b c) : frN a c := ⟨h2.1.trans h1.1, fun k j q => (h2.2 k j q).trans (h1.2 k j q)⟩
theorem frN_iu {r g : vv_H} {j : Nat} {v : Int32} (h : frN r g) (q : 19 ≤ j ∧ j ≤ 24) : frN r (vv_iu g 0 j v) := ⟨h.1, fun a b h1 => by
  rw [vv_iu_e, if_neg (fun e => by omega)]
  exact h.2 a b h1⟩
theorem lxr_fr {r g : vv_H} {w : Nat → Nat} {L : Nat} (h : lxr r w L) (e : ∀ k j, ¬ (k = 0 ∧ 19 ≤ j) → ¬ (22 ≤ k ∧ k ≤ 27) → g.1 k j = r.1 k j) : lxr g w L := ⟨h.1, by rw [e 0 17 (by omega) (by omega)]; exact h.2.1, fun j hj => by rw [e 13 j (by omega) (by omega)]; exact h.2.2.1 j hj, fun j hj => by rw [e 14 j (by omega) (by omega)]; exact h.2.2.2.1 j hj, fun j hj => by rw [e 15 j (by omega) (by omega)]; exact h.2.2.2.2 j hj⟩
theorem lxr_N {r g : vv_H} {w : Nat → Nat} {L : Nat} (h : lxr r w L) (e : frN r g) : lxr g w L := lxr_fr h fun k j h1 _ => e.2 k j (by omega)
theorem byteAt_r {r : vv_H} {w : Nat → Nat} {L : Nat} (h : lxr r w L) {p : Nat} (hp : p ≤ L) : ff_X12_byteAt r (nI p) = some (if p < L then nI (w p) else -4) := by
  have hL := h.1
  simp only [ff_X12_byteAt, h.2.1, nI_leI (show L < 2 ^ 31 by omega) (show p < 2 ^ 31 by omega)]
  by_cases g : p < L
  · simp (disch := omega) only [if_neg (show ¬ L ≤ p by omega), if_pos g, ck_lit, nI_clamp, (h.2.2.1 p (by omega)).2]
  · rw [if_pos (by omega), if_neg g]
def pm (n : Nat) : Nat := ([1, 2, 3, 6, 7, 8, 0, 4, 5] : List Nat).getD n 0
theorem pm_9 : ∀ n, n < 9 → pm n < 9 := by decide
theorem pm_on : ∀ i, i < 9 → ∃ n, n < 9 ∧ pm n = i := by decide
def cfe (n : Nat) : Nat := ([0, 5, 9, 14, 18, 22, 29, 33, 35, 38] : List Nat).getD n 0
theorem cfe_a : ∀ n, n < 10 → cf_ends.getD n 0 = nI (cfe n) ∧ cfe n ≤ 38 := by decide +kernel
theorem cfe_b : ∀ n, n < 9 → cfe n + slen (pm n) = cfe (n + 1) := by decide +kernel
theorem cfl_a : ∀ n, n < 9 → ∀ j, j < 8 → j < slen (pm n) → cf_lets.getD (cfe n + j) 0 = nI (ch (pm n) j) := by decide +kernel
theorem nameAt_r {r : vv_H} {w : Nat → Nat} {L a q : Nat} (h : lxr r w L) (ha : a < q) (hq : q ≤ L) : ∃ z, ff_X12_nameAt r (nI a) (nI q) = some z ∧ ((∃ n, n < 9 ∧ z = nI n ∧ spl w (pm n) a q) ∨ (z = -4 ∧ ∀ i, i < 9 → ¬ spl w i a q)) := by
  have hL := h.1
  have hO := lp_count (f := fun (zs : Int32) => ff_X12_nameAt_B2 (nI a) (nI q) r zs) (fun n s => s = nI n ∧ ∀ m, m < n → ¬ spl w (pm m) a q) (fun s => (∃ n, n < 9 ∧ s = .inr (nI n) ∧ spl w (pm n) a q) ∨ (s = .inl () ∧ ∀ m, m < 9 → ¬ spl w (pm m) a q)) 9 ?hs ?he vv_F 0 (0 : Int32) ⟨rfl, fun m hm => absurd hm (Nat.not_lt_zero m)⟩ (by decide) (vv_F_lt (by decide))
  case hs =>
    rintro n s hn ⟨rfl, hI⟩
    obtain ⟨a1, a2⟩ := cfe_a n (by omega)
    obtain ⟨a3, a4⟩ := cfe_a (n + 1) (by omega)
    have a5 := cfe_b n hn
    have s8 := (slen_c (pm n) (pm_9 n hn)).1
    have r1 : r.1 14 n = nI (cfe n) := by rw [h.2.2.2.1 n (by omega), a1]
    have r2 : r.1 14 (n + 1) = nI (cfe (n + 1)) := by rw [h.2.2.2.1 (n + 1) (by omega), a3]
    have el : (nI (q - a) = nI (cfe (n + 1) - cfe n)) ↔ q - a = cfe (n + 1) - cfe n := nI_eq (show q - a < 2 ^ 31 by omega) (show cfe (n + 1) - cfe n < 2 ^ 31 by omega)
    have J : ∀ z0 : Int32, ((z0 = 1 ∧ q - a = slen (pm n)) ∨ (z0 = 0 ∧ q - a ≠ slen (pm n))) → (∃ s', ff_X12_nameAt_J34 (nI a) (nI q) (nI n) z0 r = some (.inl s') ∧ s' = nI (n + 1) ∧ ∀ m, m < n + 1 → ¬ spl w (pm m) a q) ∨ (∃ s', ff_X12_nameAt_J34 (nI a) (nI q) (nI n) z0 r = some (.inr s') ∧ ((∃ n, n < 9 ∧ s' = .inr (nI n) ∧ spl w (pm n) a q) ∨ (s' = .inl () ∧ ∀ m, m < 9 → ¬ spl w (pm m) a q))) := fun z0 hz => by
      have hI2 := lp_count (f := fun (zs : Int32 × Int32) => ff_X12_nameAt_B39 (nI a) (nI q) (nI n) r zs.1 zs.2) (fun j s => ∃ z, s = (z, nI j) ∧ ((z = 1 ∧ q - a = slen (pm n) ∧ ∀ k, k < j → w (a + k) = ch (pm n) k) ∨ (z = 0 ∧ ¬ spl w (pm n) a q))) (fun z => (z = 1 ∧ spl w (pm n) a q) ∨ (z = 0 ∧ ¬ spl w (pm n) a q)) (q - a) ?hs2 ?he2 vv_F 0 (z0, (0 : Int32)) ⟨z0, rfl, hz.elim (fun k => Or.inl ⟨k.1, k.2, fun _ hk => absurd hk (Nat.not_lt_zero _)⟩) (fun k => Or.inr ⟨k.1, fun e => k.2 e.1⟩)⟩ (Nat.zero_le _) (vv_F_lt (by omega))
      case hs2 =>
        rintro j s hj ⟨z, rfl, hz⟩
        simp only [ff_X12_nameAt_B39, pk_sub (Nat.le_of_lt ha), if_neg (nI_nle' hj (show q - a < 2 ^ 31 by omega))]
        rcases hz with ⟨rfl, z1, z2⟩ | ⟨rfl, z1⟩
        · left
          obtain ⟨c1, c2⟩ := ch_c (pm n) (pm_9 n hn) j (by omega)
          have w1 := (h.2.2.1 (a + j) (by omega)).1
          have r3 : r.1 15 (cfe n + j) = nI (ch (pm n) j) := by rw [h.2.2.2.2 (cfe n + j) (by omega), cfl_a n hn j (by omega) (by omega)]
          have e3 : (nI (w (a + j)) = nI (ch (pm n) j)) ↔ w (a + j) = ch (pm n) j := nI_eq (by omega) (by omega)
          simp (disch := omega) only [show ((1 : Int32) = 0) = False from by decide, if_false, nI_add, byteAt_r h (show a + j ≤ L by omega), if_pos (show a + j < L by omega), Option.bind_some, ck_lit, nI_clamp, r1, r3, e3, vv_let, nI_1]
          by_cases g : w (a + j) = ch (pm n) j
          · rw [if_pos g]
            refine ⟨_, rfl, 1, rfl, Or.inl ⟨rfl, z1, fun k hk => ?_⟩⟩
            rcases Nat.lt_succ_iff_lt_or_eq.mp hk with d | rfl
            · exact z2 k d
            · exact g
          · rw [if_neg g]
            exact ⟨_, rfl, 0, rfl, Or.inr ⟨rfl, fun e => g (e.2 j (by omega))⟩⟩
        · right
          rw [if_pos rfl]
          exact ⟨_, rfl, Or.inr ⟨rfl, z1⟩⟩
      case he2 =>
        rintro s ⟨z, rfl, hz⟩
        simp only [ff_X12_nameAt_B39, pk_sub (Nat.le_of_lt ha), if_pos (nI_le (Nat.le_refl (q - a)) (show q - a < 2 ^ 31 by omega))]
        exact ⟨_, rfl, hz.elim (fun k => Or.inl ⟨k.1, k.2.1, fun i hi => k.2.2 i (by have := k.2.1; omega)⟩) Or.inr⟩
      obtain ⟨z, e1, hz2⟩ := hI2
      simp only [ff_X12_nameAt_J34, e1, Option.bind_some, vv_let, nI_1]
      rcases hz2 with ⟨rfl, k⟩ | ⟨rfl, k⟩
      · exact Or.inr ⟨_, rfl, Or.inl ⟨n, hn, rfl, k⟩⟩
      · refine Or.inl ⟨_, rfl, rfl, fun m hm => ?_⟩
        rcases Nat.lt_succ_iff_lt_or_eq.mp hm with d | rfl
        · exact hI m d
        · exact k
    simp (disch := omega) only [ff_X12_nameAt_B2, show (9 : Int32) ≤ nI n ↔ nI 9 ≤ nI n from Iff.rfl, if_neg (nI_nle' hn (by decide)), nI_1, ck_lit, nI_clamp, r1, r2, pk_sub, el]
    by_cases g : q - a = cfe (n + 1) - cfe n
    · rw [if_pos g]
      exact J 1 (Or.inl ⟨rfl, by omega⟩)
    · rw [if_neg g]
      exact J 0 (Or.inr ⟨rfl, by omega⟩)
  case he =>
    rintro s ⟨rfl, hI⟩
    simp only [ff_X12_nameAt_B2, show (9 : Int32) = nI 9 from rfl, if_pos (nI_le (Nat.le_refl 9) (by decide))]
    exact ⟨_, rfl, Or.inr ⟨rfl, hI⟩⟩
  obtain ⟨s, e1, hJ⟩ := hO
  rw [ff_X12_nameAt, e1]
  rcases hJ with ⟨n, hn, rfl, k⟩ | ⟨rfl, k⟩
  · exact ⟨nI n, rfl, Or.inl ⟨n, hn, rfl, k⟩⟩
  · refine ⟨-4, rfl, Or.inr ⟨rfl, fun i hi => ?_⟩⟩
    obtain ⟨n, hn, rfl⟩ := pm_on i hi
    exact k n hn
