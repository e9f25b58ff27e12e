theorem ph_ok {k j k' j' : Nat} (h : ph_f k j = some (k', j')) : k ≠ 51 ∧ ¬ (56 ≤ k ∧ k < 146) ∧ k < 177 ∧ ¬ (13 ≤ k' ∧ k' ≤ 27) ∧ ¬ (k' = 0 ∧ j' = 27) ∧ k' < 39 := by
  unfold ph_f at h
  by_cases q : k = 0 ∧ j = 0
  · rw [if_pos q] at h
    cases h
    omega
  rw [if_neg q] at h
  clear q
  by_cases q : k = 0 ∧ j = 1
  · rw [if_pos q] at h
    cases h
    omega
  rw [if_neg q] at h
  clear q
  by_cases q : k = 1 ∧ j = 0
  · rw [if_pos q] at h
    cases h
    omega
  rw [if_neg q] at h
  clear q
  by_cases q : k = 16 ∧ j = 0
  · rw [if_pos q] at h
    cases h
    omega
  rw [if_neg q] at h
  clear q
  by_cases q : k = 22 ∧ j = 0
  · rw [if_pos q] at h
    cases h
    omega
  rw [if_neg q] at h
  clear q
  by_cases q : k = 50 ∧ j = 0
  · rw [if_pos q] at h
    cases h
    omega
  rw [if_neg q] at h
  clear q
  by_cases q : k = 146 ∧ j = 0
  · rw [if_pos q] at h
    cases h
    omega
  rw [if_neg q] at h
  clear q
  by_cases q : k = 156 ∧ j = 0
  · rw [if_pos q] at h
    cases h
    omega
  rw [if_neg q] at h
  clear q
  by_cases q : k = 15
  · rw [if_pos q] at h
    cases h
    omega
  rw [if_neg q] at h
  clear q
  by_cases q : k = 17
  · rw [if_pos q] at h
    cases h
    omega
  rw [if_neg q] at h
  clear q
  by_cases q : k = 18
  · rw [if_pos q] at h
    cases h
    omega
  rw [if_neg q] at h
  clear q
  by_cases q : k = 19
  · rw [if_pos q] at h
    cases h
    omega
  rw [if_neg q] at h
  clear q
  by_cases q : k = 20
  · rw [if_pos q] at h
    cases h
    omega
  rw [if_neg q] at h
  clear q
  by_cases q : k = 21
  · rw [if_pos q] at h
    cases h
    omega
  rw [if_neg q] at h
  clear q
  by_cases q : k = 23
  · rw [if_pos q] at h
    cases h
    omega
  rw [if_neg q] at h
  clear q
  by_cases q : k = 157
  · rw [if_pos q] at h
    cases h
    omega
  rw [if_neg q] at h
  clear q
  by_cases q : k = 158
  · rw [if_pos q] at h
    cases h
    omega
  rw [if_neg q] at h
  clear q
  by_cases q : k = 159
  · rw [if_pos q] at h
    cases h
    omega
  rw [if_neg q] at h
  clear q
  by_cases q : k = 160
  · rw [if_pos q] at h
    cases h
    omega
  rw [if_neg q] at h
  clear q
  by_cases q : k = 161
  · rw [if_pos q] at h
    cases h
    omega
  rw [if_neg q] at h
  clear q
  by_cases q : k = 162
  · rw [if_pos q] at h
    cases h
    omega
  rw [if_neg q] at h
  clear q
  by_cases q : k = 163
  · rw [if_pos q] at h
    cases h
    omega
  rw [if_neg q] at h
  clear q
  by_cases q : k = 164
  · rw [if_pos q] at h
    cases h
    omega
  rw [if_neg q] at h
  clear q
  by_cases q : k = 165
  · rw [if_pos q] at h
    cases h
    omega
  rw [if_neg q] at h
  clear q
  by_cases q : k = 166
  · rw [if_pos q] at h
    cases h
    omega
  rw [if_neg q] at h
  clear q
  by_cases q : 3 ≤ k ∧ k < 15 ∧ j = 0
  · rw [if_pos q] at h
    cases h
    omega
  rw [if_neg q] at h
  clear q
  by_cases q : 3 ≤ k ∧ k < 15 ∧ j = 1
  · rw [if_pos q] at h
    cases h
    omega
  rw [if_neg q] at h
  clear q
  by_cases q : 3 ≤ k ∧ k < 15 ∧ j = 2
  · rw [if_pos q] at h
    cases h
    omega
  rw [if_neg q] at h
  clear q
  by_cases q : 25 ≤ k ∧ k < 37 ∧ j < 3
  · rw [if_pos q] at h
    cases h
    omega
  rw [if_neg q] at h
  clear q
  by_cases q : 38 ≤ k ∧ k < 50 ∧ j < 3
  · rw [if_pos q] at h
    cases h
    omega
  rw [if_neg q] at h
  clear q
  by_cases q : 148 ≤ k ∧ k < 152 ∧ j < 4 ∧ k - 148 ≠ j
  · rw [if_pos q] at h
    cases h
    omega
  · rw [if_neg q] at h
    cases h
/-- the tape: bytes with a sign and without -/
def rtape (c r : vv_H) : Prop := ∀ j, j < 240 → c.1 51 j = (r.1 13 j).toInt8.toInt32 ∧ 0 ≤ (r.1 13 j).toInt ∧ (r.1 13 j).toInt ≤ 255
/-- line i of the Rules cell q is line i of the reference's rows from so on -/
def rline (c r : vv_H) (q so i : Nat) : Prop :=
  (r.1 so i = c.1 (q + 1) i - 8 ∧ 8 ≤ (c.1 (q + 1) i).toInt ∧ (c.1 (q + 1) i).toInt ≤ 10) ∧ (r.1 (so + 1) i = c.1 (q + 2) i ∧ 0 ≤ (c.1 (q + 2) i).toInt ∧ (c.1 (q + 2) i).toInt ≤ 9999) ∧ r.1 (so + 2) i = c.1 (q + 3) i ∧ (r.1 (so + 3) i = c.1 (q + 4) i ∧ 0 ≤ (c.1 (q + 4) i).toInt ∧ (c.1 (q + 4) i).toInt ≤ 9999 ∧ (c.1 (q + 1) i = 9 → 1 ≤ (c.1 (q + 4) i).toInt)) ∧
  (r.1 (so + 4) i = c.1 (q + 5) i ∧ 0 ≤ (c.1 (q + 5) i).toInt ∧ (c.1 (q + 5) i).toInt ≤ 3) ∧
  ∀ t : Nat, (t : Int) < (c.1 (q + 5) i).toInt → (r.1 (so + 5) (9 * i + 3 * t) = c.1 (q + 7 + i) t ∧ 0 ≤ (c.1 (q + 7 + i) t).toInt ∧ (c.1 (q + 7 + i) t).toInt ≤ 2) ∧ (r.1 (so + 5) (9 * i + 3 * t + 1) = c.1 (q + 20 + i) t + 57 ∧ 3 ≤ (c.1 (q + 20 + i) t).toInt ∧ (c.1 (q + 20 + i) t).toInt ≤ 5) ∧ r.1 (so + 5) (9 * i + 3 * t + 2) = c.1 (q + 33 + i) t
def rrule (c r : vv_H) : Prop := c.2.2 1 = !(c.2.2 0) ∧ (r.1 0 27 = c.1 (vv_rid (c.2.2 0)) 0 ∧ 0 ≤ (c.1 (vv_rid (c.2.2 0)) 0).toInt ∧ (c.1 (vv_rid (c.2.2 0)) 0).toInt ≤ 12) ∧ ∀ i : Nat, (i : Int) < (c.1 (vv_rid (c.2.2 0)) 0).toInt → rline c r (vv_rid (c.2.2 0)) 16 i
def rsheet (c r : vv_H) : Prop := ∀ k, k < 4 → (c.1 178 k = -1 ∧ r.1 53 k = -4) ∨ (c.1 178 k = r.1 54 k ∧ 0 ≤ (c.1 178 k).toInt ∧ (c.1 178 k).toInt ≤ 60 ∧ c.1 177 k = r.1 53 k ∧ 0 ≤ (c.1 177 k).toInt ∧ (c.1 177 k).toInt ≤ 2 ∧ ∀ j, j < 60 → c.1 (180 + k) j = r.1 55 (60 * k + j))
def cf_ends : List Int32 := [0, 5, 9, 14, 18, 22, 29, 33, 35, 38]
def cf_lets : List Int32 := [105, 115, 115, 117, 101, 108, 105, 102, 101, 112, 114, 105, 99, 101, 114, 97, 110, 107, 100, 117, 116, 121, 99, 108, 105, 109, 97, 116, 101, 102, 114, 111, 109, 105, 102, 97, 110, 100]
def rcon (r : vv_H) : Prop := (∀ j, j < 10 → r.1 14 j = cf_ends.getD j 0) ∧ ∀ j, j < 38 → r.1 15 j = cf_lets.getD j 0
def RR (c r : vv_H) : Prop := rel c r ∧ wf0 c ∧ wfp c ∧ rtape c r ∧ rrule c r ∧ rsheet c r ∧ rcon r
/-- cells that hold no state: of the component (b: which Rules cell is in force), of the reference -/
def scC (b : Bool) (k j : Nat) : Prop := (k = 50 ∧ j ≠ 0) ∨ (52 ≤ k ∧ k ≤ 55) ∨ (vv_rid (!b) ≤ k ∧ k < vv_rid (!b) + 45) ∨ (k = 146 ∧ j ≠ 0) ∨ k = 152 ∨ (167 ≤ k ∧ k ≤ 175)
def scR (k j : Nat) : Prop := (k = 0 ∧ (19 ≤ j ∧ j ≤ 24 ∨ j = 34 ∨ j = 41 ∨ j = 62)) ∨ k = 12 ∨ (22 ≤ k ∧ k ≤ 27) ∨ (39 ≤ k ∧ k ≤ 52)
def coC (c c' : vv_H) : Prop := c'.2.2 = c.2.2 ∧ ∀ k j, ¬ scC (c.2.2 0) k j → c'.1 k j = c.1 k j
def coR (r r' : vv_H) : Prop := ∀ k j, ¬ scR k j → r'.1 k j = r.1 k j
theorem coC_rf (c : vv_H) : coC c c := ⟨rfl, fun _ _ _ => rfl⟩
theorem coR_rf (r : vv_H) : coR r r := fun _ _ _ => rfl
theorem coC_tr {a b c : vv_H} (h1 : coC a b) (h2 : coC b c) : coC a c := ⟨h2.1.trans h1.1, fun k j q => (h2.2 k j (by rw [h1.1]; exact q)).trans (h1.2 k j q)⟩
theorem coR_tr {a b c : vv_H} (h1 : coR a b) (h2 : coR b c) : coR a c := fun k j q => (h2 k j q).trans (h1 k j q)
theorem coC_iu {a c : vv_H} {k j : Nat} {v : Int32} (h : coC a c) (q : scC (a.2.2 0) k j) : coC a (vv_iu c k j v) := coC_tr h ⟨rfl, fun k2 j2 q2 => by
  rw [vv_iu_e, if_neg]
  rintro ⟨rfl, rfl⟩
  rw [h.1] at q2
  exact q2 q⟩
theorem coC_lu {a c : vv_H} {k j : Nat} {v : Int64} (h : coC a c) : coC a (vv_lu c k j v) := coC_tr h ⟨rfl, fun k2 j2 q2 => rfl⟩
theorem coR_iu {a c : vv_H} {k j : Nat} {v : Int32} (h : coR a c) (q : scR k j) : coR a (vv_iu c k j v) := coR_tr h fun k2 j2 q2 => by
  rw [vv_iu_e, if_neg]
  rintro ⟨rfl, rfl⟩
  exact q2 q
theorem coR_lu {a c : vv_H} {k j : Nat} {v : Int64} (h : coR a c) : coR a (vv_lu c k j v) := coR_tr h fun k2 j2 q2 => rfl
theorem wfb_ok {b : Bool} {k j : Nat} {lo hi : Int} (h : wfb k j = some (lo, hi)) : ¬ scC b k j := by
  intro q
  have hr : 56 ≤ vv_rid (!b) ∧ vv_rid (!b) + 45 ≤ 146 := by cases b <;> decide
  unfold wfb at h
  unfold scC at q
  have h3 : ∀ {p : Prop} [Decidable p] {A B : Option (Int × Int)}, ¬ p → (if p then A else B) = some (lo, hi) → B = some (lo, hi) := fun hp hh => by rwa [if_neg hp] at hh
  iterate 25 (first | (replace h := h3 (by omega) h) | skip)
  cases h
theorem phf_sc {b : Bool} {k j k' j' : Nat} (h : ph_f k j = some (k', j')) : ¬ scC b k j ∧ ¬ scR k' j' := by
  obtain ⟨h1, h2, h3, h4, h5, h6⟩ := ph_ok h
  have hr : 56 ≤ vv_rid (!b) ∧ vv_rid (!b) + 45 ≤ 146 := by cases b <;> decide
  constructor
  · intro q
    have hz : ph_f k j = none := by
      unfold scC at q
      have h3 : ∀ {p : Prop} [Decidable p] {A B : Option (Nat × Nat)}, ¬ p → (if p then A else B) = B := fun hp => if_neg hp
      unfold ph_f
      iterate 40 (first | (rw [h3 (by omega)]) | skip)
    rw [hz] at h
    cases h
  · intro q
    have hg := ph_fg h
    have hz : ph_g k' j' = none := by
      unfold scR at q
      have h3 : ∀ {p : Prop} [Decidable p] {A B : Option (Nat × Nat)}, ¬ p → (if p then A else B) = B := fun hp => if_neg hp
      unfold ph_g
      iterate 40 (first | (rw [h3 (by omega)]) | skip)
    rw [hz] at hg
    cases hg

