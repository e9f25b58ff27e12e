theorem cnt_0 : cnt (fun _ => none) = 0 := by
  have : ∀ k, cu (fun b => ib (mtd (fun _ => none) b)) k = 0 := fun k => by
    induction k with
    | zero => rfl
    | succ k ih =>
      show cu (fun b => ib (mtd (fun _ => none) b)) k + ib (mtd (fun _ => none) k) = 0
      rw [ih, ib_0 (fun ⟨p, hp⟩ => by cases hp)]
  exact this 12
theorem stm_0 (rel : Nat → Nat → Prop) : stm rel (fun _ => False) 0 (fun _ => none) (fun _ => False) := ⟨⟨fun p b h => (by cases h), fun p q b h => (by cases h)⟩, fun b h => h.elim, fun b h => h.elim, cnt_0.symm⟩
theorem stm_X {rel : Nat → Nat → Prop} {X Y : Nat → Prop} {n : Nat} {hd : Nat → Option Nat} {D : Nat → Prop} (h : stm rel X n hd D) (e : ∀ b, X b ↔ Y b) : stm rel Y n hd D := by
  rw [← funext fun b => propext (e b)]
  exact h
theorem cnt_12 (hd : Nat → Option Nat) : cnt hd ≤ 12 := cu_le 12 fun i _ => ib_le _
theorem rlc_fr {h g : vv_H} (e : g.2 = h.2) (free : Int64) : rlc g free = rlc h free := by
  funext b p
  unfold rlc
  rw [e]
theorem dressable_c {h : vv_H} {free : Int64} {f B : Nat} (hB : B ≤ 12) (eB : h.1 170 2 = nI B) (hf : f ≤ B) (h36 : ∀ b p, b < 12 → tb (h.2.1 171 b) p = true → p < 36) (hfr : ∀ p, tb free p = true → p < 36) : ∃ n g, ff_X3_dressable h (nI f) free = some (nI n, g) ∧ frD h g ∧ good (rlc h free) (fun b => f ≤ b ∧ b < B) n ∧ n ≤ 12 := by
  obtain ⟨m1, em⟩ : ∃ m1 : Int32, m1 = -1 := ⟨_, rfl⟩
  obtain ⟨h1, e1, f1, g1⟩ := fill_i h 172 (n := 32) (by decide) m1
  obtain ⟨h2, e2, f2, g2⟩ := fill_i h1 173 (n := 64) (by decide) m1
  have fd2 : frD h h2 := ⟨g2.trans g1, fun k j hk => by rw [f2, if_neg (by omega), f1, if_neg (by omega)]⟩
  have hh2 : hol h2 (fun _ => none) none := by
    refine ⟨fun p hp _ => ?_, fun b hb => ⟨fun p hp => (by cases hp), fun _ => ?_⟩⟩
    · rw [f2, if_pos ⟨rfl, by omega⟩, em]
      rfl
    · rw [f2, if_neg (by omega), f1, if_pos ⟨rfl, by omega⟩, em]
  have hL := lp_count (f := fun (zs : Int32 × Int32 × vv_H) => ff_X3_dressable_B22 free zs.1 zs.2.1 zs.2.2) (fun i z => ∃ n g hd D, z = (nI n, nI (f + i), g) ∧ frD h g ∧ hol g hd none ∧ stm (rlc h free) (fun b => f ≤ b ∧ b < f + i) n hd D) (fun a => ∃ n g hd D, a = (nI n, g) ∧ frD h g ∧ hol g hd none ∧ stm (rlc h free) (fun b => f ≤ b ∧ b < B) n hd D) (B - f) ?hs ?he vv_F 0 ((0 : Int32), nI f, h2) ⟨0, h2, fun _ => none, fun _ => False, rfl, fd2, hh2, stm_X (stm_0 _) fun b => ⟨fun q => q.elim, fun q => by omega⟩⟩ (Nat.zero_le _) (vv_F_lt (by omega))
  case hs =>
    rintro i z hi ⟨n, g, hd, D, rfl, a1, a2, a3⟩
    left
    have eB' : g.1 170 2 = nI B := by rw [a1.2 170 2 (by omega), eB]
    have er := rlc_fr a1.1 free
    have n12 : n ≤ 12 := by rw [a3.2.2.2]; exact cnt_12 hd
    obtain ⟨z, g', hd', D', n', d1, d2, d3, d4, d5⟩ := dress_c (h := g) (free := free) (b0 := f + i) (by omega) (fun b p hb hp => h36 b p hb (by rw [← a1.1]; exact hp)) (by rw [er]; exact a3) a2 (fun q => by omega) (fun b p hr => hfr p hr.2)
    rw [er] at d4
    have d4' := stm_X d4 (Y := fun b => f ≤ b ∧ b < f + (i + 1)) fun b => ⟨fun q => by omega, fun q => by omega⟩
    have E : ff_X3_dressable_B22 free (nI n) (nI (f + i)) g = some (.inl (nI n', nI (f + (i + 1)), g')) := by
      unfold ff_X3_dressable_B22
      rw [eB', if_neg (nI_nle' (show f + i < B by omega) (by omega)), d1, Option.bind_some]
      rcases d5 with ⟨rfl, rfl⟩ | ⟨rfl, rfl⟩
      · rw [if_pos rfl, vlE, nI_1, Int32.add_zero, Nat.add_assoc]
      · rw [if_neg (show ¬ (1 : Int32) = 0 from by decide), vlE, nI_1, nI_1, Nat.add_assoc]
    exact ⟨_, E, n', g', hd', D', rfl, frD_tr a1 d2, d3, d4'⟩
  case he =>
    rintro z ⟨n, g, hd, D, rfl, a1, a2, a3⟩
    have eB' : g.1 170 2 = nI B := by rw [a1.2 170 2 (by omega), eB]
    refine ⟨(nI n, g), ?_, n, g, hd, D, rfl, a1, a2, stm_X a3 fun b => ⟨fun q => by omega, fun q => by omega⟩⟩
    show ff_X3_dressable_B22 free (nI n) (nI (f + (B - f))) g = _
    unfold ff_X3_dressable_B22
    rw [eB', if_pos (nI_le (show B ≤ f + (B - f) by omega) (by omega))]
  obtain ⟨a, e3, n, g, hd, D, rfl, a1, a2, a3⟩ := hL
  refine ⟨n, g, ?_, a1, ⟨hd, D, a3⟩, by rw [a3.2.2.2]; exact cnt_12 hd⟩
  unfold ff_X3_dressable
  rw [← em, e1, Option.bind_some, e2, Option.bind_some, e3, Option.bind_some]
