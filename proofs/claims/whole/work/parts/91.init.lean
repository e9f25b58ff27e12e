/-! the initial pure heaps belong together -/
theorem i0_c {k j : Nat} (h : k ≠ 178) (h2 : ¬ (148 ≤ k ∧ k ≤ 151)) : h0C.1 k j = 0 := by
  have e1 : Nat.beq k 178 = false := Bool.eq_false_iff.mpr (fun q => h (Nat.eq_of_beq_eq_true q))
  have e2 : (Nat.ble 148 k && Nat.ble k 151) = false := Bool.eq_false_iff.mpr (fun q => h2 (by
    have := Bool.and_eq_true_iff.mp q
    exact ⟨Nat.le_of_ble_eq_true this.1, Nat.le_of_ble_eq_true this.2⟩))
  show (cond (Nat.beq k 178) (qfl (-1) (fun _ => 0) 4) (cond (Nat.ble 148 k && Nat.ble k 151) (qfl 50 (fun _ => 0) 4) (fun _ => 0))) j = 0
  rw [e1, e2]
  rfl
theorem i0_r {k j : Nat} (h1 : k ≠ 14) (h2 : k ≠ 15) (h3 : k ≠ 28) (h4 : k ≠ 53) : h0R.1 k j = 0 := by
  have e : ∀ n, k ≠ n → Nat.beq k n = false := fun n h => Bool.eq_false_iff.mpr (fun q => h (Nat.eq_of_beq_eq_true q))
  show (cond (Nat.beq k 14) (ls cf_ends 10) (cond (Nat.beq k 15) (ls cf_lets 38) (cond (Nat.beq k 28) (ls cf_road 16) (cond (Nat.beq k 53) (ls cf_lane 4) (fun _ => 0))))) j = 0
  rw [e 14 h1, e 15 h2, e 28 h3, e 53 h4]
  rfl
theorem i0_c5 {k j : Nat} (h : 148 ≤ k ∧ k ≤ 151) : h0C.1 k j = 50 ∨ h0C.1 k j = 0 := by
  have key : qfl 50 (fun _ => 0) 4 j = 50 ∨ qfl 50 (fun _ => 0) 4 j = 0 := by
    unfold qfl
    by_cases hj : j < 4
    · rw [if_pos hj]
      exact Or.inl rfl
    · rw [if_neg hj]
      exact Or.inr rfl
  obtain rfl | rfl | rfl | rfl : k = 148 ∨ k = 149 ∨ k = 150 ∨ k = 151 := by omega
  · exact key
  · exact key
  · exact key
  · exact key
theorem ph_28 {k j j' : Nat} (h : ph_f k j = some (28, j')) : 148 ≤ k ∧ k < 152 := by
  have h4 : ∀ {p : Prop} [Decidable p] {a b : Nat} {B : Option (Nat × Nat)}, a ≠ 28 → (if p then some (a, b) else B) = some (28, j') → B = some (28, j') := by
    intro p _ a b B ha hh
    split at hh
    · cases hh
      exact absurd rfl ha
    · exact hh
  unfold ph_f at h
  iterate 40 (first | (replace h := h4 (by decide) h) | skip)
  split at h
  · rename_i q
    exact ⟨q.1, q.2.1⟩
  · cases h
theorem ph_r {k j k' j' : Nat} (hk : 148 ≤ k ∧ k < 152) (h : ph_f k j = some (k', j')) : j < 4 ∧ k - 148 ≠ j ∧ k' = 28 ∧ j' = 4 * (k - 148) + j := by
  have h3 : ∀ {p : Prop} [Decidable p] {A B : Option (Nat × Nat)}, ¬ p → (if p then A else B) = some (k', j') → B = some (k', j') := fun hp hh => by rwa [if_neg hp] at hh
  unfold ph_f at h
  iterate 30 (replace h := h3 (by omega) h)
  split at h
  · rename_i q
    cases h
    exact ⟨q.2.2.1, q.2.2.2, rfl, rfl⟩
  · cases h
theorem i0_rel : rel h0C h0R := by
  intro k j k' j' e
  obtain ⟨o1, o2, o3, o4, o5, o6⟩ := ph_ok e
  by_cases hk : 148 ≤ k ∧ k < 152
  · obtain ⟨hj, hn, rfl, rfl⟩ := ph_r hk e
    clear e o1 o2 o3 o4 o5 o6
    obtain rfl | rfl | rfl | rfl : k = 148 ∨ k = 149 ∨ k = 150 ∨ k = 151 := by omega
    all_goals
      obtain rfl | rfl | rfl | rfl : j = 0 ∨ j = 1 ∨ j = 2 ∨ j = 3 := by omega
      all_goals first | decide +kernel | (exfalso; exact hn rfl)
  · have h28 : k' ≠ 28 := fun q => hk (by rw [q] at e; exact ph_28 e)
    rw [i0_c (k := k) (j := j) (by omega) (by omega), i0_r (k := k') (j := j') (by omega) (by omega) h28 (by omega)]
theorem wfb_0 {k j : Nat} {lo hi : Int} (h : wfb k j = some (lo, hi)) : lo ≤ 0 ∧ 0 ≤ hi := by
  have h5 : ∀ {p : Prop} [Decidable p] {a b : Int} {B : Option (Int × Int)}, (a ≤ 0 ∧ 0 ≤ b) → (if p then some (a, b) else B) = some (lo, hi) → (lo ≤ 0 ∧ 0 ≤ hi) ∨ B = some (lo, hi) := by
    intro p _ a b B hab hh
    split at hh
    · cases hh
      exact Or.inl hab
    · exact Or.inr hh
  unfold wfb at h
  iterate 25
    replace h := h5 (by decide) h
    rcases h with g | h
    · exact g
  cases h
theorem wfb_k {k j : Nat} {lo hi : Int} (hk : 166 ≤ k) (h : wfb k j = some (lo, hi)) : False := by
  have h3 : ∀ {p : Prop} [Decidable p] {A B : Option (Int × Int)}, ¬ p → (if p then A else B) = some (lo, hi) → B = some (lo, hi) := fun hp hh => by rwa [if_neg hp] at hh
  unfold wfb at h
  iterate 25 (replace h := h3 (by omega) h)
  cases h
theorem wfb_r {k j : Nat} {lo hi : Int} (hk : 148 ≤ k ∧ k < 152) (h : wfb k j = some (lo, hi)) : lo = 0 ∧ hi = 99 := by
  have h3 : ∀ {p : Prop} [Decidable p] {A B : Option (Int × Int)}, ¬ p → (if p then A else B) = some (lo, hi) → B = some (lo, hi) := fun hp hh => by rwa [if_neg hp] at hh
  unfold wfb at h
  iterate 25 (first | (replace h := h3 (by omega) h) | skip)
  rw [if_pos (by omega)] at h
  cases h
  exact ⟨rfl, rfl⟩
theorem i0_wf0 : wf0 h0C := by
  intro k j lo hi h
  by_cases hk : 148 ≤ k ∧ k < 152
  · obtain ⟨rfl, rfl⟩ := wfb_r hk h
    rcases i0_c5 (k := k) (j := j) (by omega) with e | e
    · rw [e]
      decide
    · rw [e]
      decide
  · have h166 : k < 166 := Nat.not_le.mp fun q => wfb_k q h
    rw [i0_c (k := k) (j := j) (by omega) (by omega)]
    exact wfb_0 h
theorem i0_wfp : wfp h0C := by
  have z : ∀ k j, k ≠ 178 → ¬ (148 ≤ k ∧ k ≤ 151) → h0C.1 k j = 0 := fun k j h1 h2 => i0_c h1 h2
  refine ⟨fun p hp => ?_, fun j _ => z 15 j (by decide) (by decide), fun j _ => ⟨z 163 j (by decide) (by decide), z 164 j (by decide) (by decide), z 165 j (by decide) (by decide), z 166 j (by decide) (by decide)⟩, fun j => z 153 j (by decide) (by decide), fun j _ => ⟨z 154 j (by decide) (by decide), z 155 j (by decide) (by decide)⟩⟩
  rw [z 156 0 (by decide) (by decide)] at hp
  have : ((0 : Int32).toInt) = 0 := rfl
  omega
theorem i0_RR : RR h0C h0R := by
  refine ⟨i0_rel, i0_wf0, i0_wfp, ?_, ?_, ?_, ?_, ?_⟩
  · intro j _
    rw [i0_c (k := 51) (j := j) (by decide) (by decide), i0_r (k := 13) (j := j) (by decide) (by decide) (by decide) (by decide)]
    decide
  · refine ⟨rfl, ⟨by decide +kernel, by decide +kernel, by decide +kernel⟩, fun i hi => ?_⟩
    have e : h0C.1 (vv_rid (h0C.2.2 0)) 0 = 0 := by decide +kernel
    rw [e] at hi
    have : ((0 : Int32).toInt) = 0 := rfl
    omega
  · intro k hk
    refine Or.inl ?_
    obtain rfl | rfl | rfl | rfl : k = 0 ∨ k = 1 ∨ k = 2 ∨ k = 3 := by omega
    all_goals exact ⟨by decide +kernel, by decide +kernel⟩
  · intro j hj
    show ls cf_ends 10 j = _
    unfold ls
    rw [if_pos hj]
  · intro j hj
    show ls cf_lets 38 j = _
    unfold ls
    rw [if_pos hj]
/-! from the constructors' worlds to the methods' -/
theorem vf_get {b : Nat} {h : vv_H} {k : Nat} : ∀ (fs : List (Nat × Nat)) (j i : Nat), (vf b h k j fs)[i]? = (fs[i]?).map (fun d => vfv b h k (j + i) d) := by
  intro fs
  induction fs with
  | nil => intro j i; simp [vf]
  | cons d ds ih =>
    intro j i
    cases i with
    | zero => simp [vf]
    | succ i =>
      show (vf b h k (j + 1) ds)[i]? = (ds[i]?).map _
      rw [ih, show j + 1 + i = j + (i + 1) by omega]
theorem vf_eq {x : vv_E} {b : Nat} {h : vv_H} {k : Nat} {fs : List (Nat × Nat)} (had : ∀ k, vv_ad x k = b + k) : vf b h k 0 fs = vv_fs x h k fs := by
  apply List.ext_getElem?
  intro i
  rw [vf_get, vv_fs, List.getElem?_mapIdx]
  cases fs[i]? with
  | none => rfl
  | some d =>
    obtain ⟨d1, d2⟩ := d
    simp only [Option.map_some, Option.some.injEq, Nat.zero_add]
    match d1 with
    | 0 => rfl
    | 1 => exact congrArg Value.ref (had d2).symm
    | 2 => exact congrArg Value.ref (had (vv_rid (h.2.2 d2))).symm
    | n + 3 => rfl
theorem arrV_cong {cI : ClassId} {N : Nat} {f g : Nat → Value} (h : ∀ i, i < N → f i = g i) : arrV cI N f = arrV cI N g := by
  unfold arrV
  congr 1
  apply Array.ext
  · simp
  · intro i h1 h2
    simp only [Array.getElem_ofFn]
    exact h i (by simpa using h1)
theorem va_conv {x : vv_E} {b : Nat} {T : vv_T} {h : vv_H} {H : Heap} (had : ∀ k, vv_ad x k = b + k) (hP : va_P x.2.1 vwCl (ii_w b T.2 (vc x b T h)) H) : va_P x.2.1 vwCl (vv_w x T h) H := by
  intro k q hq
  obtain ⟨hk, rfl⟩ := vv_w_at hq
  have h1 := hP k _ (ii_get hk)
  rw [had k]
  unfold vc at h1
  unfold vv_c
  generalize T.1 k = y at h1 ⊢
  obtain ⟨kd, N, fs⟩ := y
  match kd, h1 with
  | 0, h1 =>
    have e : vf b h k 0 fs = vv_fs x h k fs := vf_eq had
    show va_at x.2.1 vwCl (b + k, .inr (N, vv_fs x h k fs)) H
    rw [← e]
    exact h1
  | 1, h1 => exact h1
  | 2, h1 => exact h1
  | 3, h1 => exact h1
  | 4, h1 => exact h1
  | n + 5, h1 =>
    refine Eq.trans h1 (congrArg some ?_)
    show arrV (x.2.2.1 4) N (fun i => va_rf (if i < N then some (b + (fs.getD 0 (0, 0)).1 + i) else none)) = arrV (x.2.2.1 4) N (fun i => va_rf (vv_row x fs i))
    refine arrV_cong fun i hi => ?_
    show va_rf (if i < N then some (b + (fs.getD 0 (0, 0)).1 + i) else none) = va_rf (vv_row x fs i)
    rw [if_pos hi]
    unfold vv_row
    rw [had, Nat.add_assoc]
