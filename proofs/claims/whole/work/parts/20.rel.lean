def ph_f (k j : Nat) : Option (Nat × Nat) :=
  if k = 0 ∧ j = 0 then some (0, 0) else
  if k = 0 ∧ j = 1 then some (0, 18) else
  if k = 1 ∧ j = 0 then some (0, 1) else
  if k = 16 ∧ j = 0 then some (0, 6) else
  if k = 22 ∧ j = 0 then some (0, 12) else
  if k = 50 ∧ j = 0 then some (0, 17) else
  if k = 146 ∧ j = 0 then some (0, 42) else
  if k = 156 ∧ j = 0 then some (0, 44) else
  if k = 15 then some (4, j) else
  if k = 17 then some (5, j) else
  if k = 18 then some (6, j) else
  if k = 19 then some (7, j) else
  if k = 20 then some (8, j) else
  if k = 21 then some (9, j) else
  if k = 23 then some (10, j) else
  if k = 157 then some (29, j) else
  if k = 158 then some (30, j) else
  if k = 159 then some (31, j) else
  if k = 160 then some (32, j) else
  if k = 161 then some (33, j) else
  if k = 162 then some (38, j) else
  if k = 163 then some (36, j) else
  if k = 164 then some (37, j) else
  if k = 165 then some (34, j) else
  if k = 166 then some (35, j) else
  if 3 ≤ k ∧ k < 15 ∧ j = 0 then some (1, k - 3) else
  if 3 ≤ k ∧ k < 15 ∧ j = 1 then some (2, k - 3) else
  if 3 ≤ k ∧ k < 15 ∧ j = 2 then some (3, k - 3) else
  if 25 ≤ k ∧ k < 37 ∧ j < 3 then some (11, 6 * (k - 25) + 2 * j) else
  if 38 ≤ k ∧ k < 50 ∧ j < 3 then some (11, 6 * (k - 38) + 2 * j + 1) else
  if 148 ≤ k ∧ k < 152 ∧ j < 4 ∧ k - 148 ≠ j then some (28, 4 * (k - 148) + j) else none
def ph_g (k j : Nat) : Option (Nat × Nat) :=
  if k = 0 ∧ j = 0 then some (0, 0) else
  if k = 0 ∧ j = 18 then some (0, 1) else
  if k = 0 ∧ j = 1 then some (1, 0) else
  if k = 0 ∧ j = 6 then some (16, 0) else
  if k = 0 ∧ j = 12 then some (22, 0) else
  if k = 0 ∧ j = 17 then some (50, 0) else
  if k = 0 ∧ j = 42 then some (146, 0) else
  if k = 0 ∧ j = 44 then some (156, 0) else
  if k = 4 then some (15, j) else
  if k = 5 then some (17, j) else
  if k = 6 then some (18, j) else
  if k = 7 then some (19, j) else
  if k = 8 then some (20, j) else
  if k = 9 then some (21, j) else
  if k = 10 then some (23, j) else
  if k = 29 then some (157, j) else
  if k = 30 then some (158, j) else
  if k = 31 then some (159, j) else
  if k = 32 then some (160, j) else
  if k = 33 then some (161, j) else
  if k = 38 then some (162, j) else
  if k = 36 then some (163, j) else
  if k = 37 then some (164, j) else
  if k = 34 then some (165, j) else
  if k = 35 then some (166, j) else
  if k = 1 ∧ j < 12 then some (3 + j, 0) else
  if k = 2 ∧ j < 12 then some (3 + j, 1) else
  if k = 3 ∧ j < 12 then some (3 + j, 2) else
  if k = 11 ∧ j < 72 ∧ j % 2 = 0 then some (25 + j / 6, j % 6 / 2) else
  if k = 11 ∧ j < 72 ∧ j % 2 = 1 then some (38 + j / 6, j % 6 / 2) else
  if k = 28 ∧ j < 16 ∧ j / 4 ≠ j % 4 then some (148 + j / 4, j % 4) else none
theorem ph_fg {k j k' j' : Nat} (h : ph_f k j = some (k', j')) : ph_g k' j' = some (k, j) := by
  unfold ph_f at h
  by_cases q : k = 0 ∧ j = 0
  · rw [if_pos q] at h
    obtain ⟨rfl, rfl⟩ := q
    cases h
    rfl
  rw [if_neg q] at h
  clear q
  by_cases q : k = 0 ∧ j = 1
  · rw [if_pos q] at h
    obtain ⟨rfl, rfl⟩ := q
    cases h
    rfl
  rw [if_neg q] at h
  clear q
  by_cases q : k = 1 ∧ j = 0
  · rw [if_pos q] at h
    obtain ⟨rfl, rfl⟩ := q
    cases h
    rfl
  rw [if_neg q] at h
  clear q
  by_cases q : k = 16 ∧ j = 0
  · rw [if_pos q] at h
    obtain ⟨rfl, rfl⟩ := q
    cases h
    rfl
  rw [if_neg q] at h
  clear q
  by_cases q : k = 22 ∧ j = 0
  · rw [if_pos q] at h
    obtain ⟨rfl, rfl⟩ := q
    cases h
    rfl
  rw [if_neg q] at h
  clear q
  by_cases q : k = 50 ∧ j = 0
  · rw [if_pos q] at h
    obtain ⟨rfl, rfl⟩ := q
    cases h
    rfl
  rw [if_neg q] at h
  clear q
  by_cases q : k = 146 ∧ j = 0
  · rw [if_pos q] at h
    obtain ⟨rfl, rfl⟩ := q
    cases h
    rfl
  rw [if_neg q] at h
  clear q
  by_cases q : k = 156 ∧ j = 0
  · rw [if_pos q] at h
    obtain ⟨rfl, rfl⟩ := q
    cases h
    rfl
  rw [if_neg q] at h
  clear q
  by_cases q : k = 15
  · rw [if_pos q] at h
    subst q
    cases h
    rfl
  rw [if_neg q] at h
  clear q
  by_cases q : k = 17
  · rw [if_pos q] at h
    subst q
    cases h
    rfl
  rw [if_neg q] at h
  clear q
  by_cases q : k = 18
  · rw [if_pos q] at h
    subst q
    cases h
    rfl
  rw [if_neg q] at h
  clear q
  by_cases q : k = 19
  · rw [if_pos q] at h
    subst q
    cases h
    rfl
  rw [if_neg q] at h
  clear q
  by_cases q : k = 20
  · rw [if_pos q] at h
    subst q
    cases h
    rfl
  rw [if_neg q] at h
  clear q
  by_cases q : k = 21
  · rw [if_pos q] at h
    subst q
    cases h
    rfl
  rw [if_neg q] at h
  clear q
  by_cases q : k = 23
  · rw [if_pos q] at h
    subst q
    cases h
    rfl
  rw [if_neg q] at h
  clear q
  by_cases q : k = 157
  · rw [if_pos q] at h
    subst q
    cases h
    rfl
  rw [if_neg q] at h
  clear q
  by_cases q : k = 158
  · rw [if_pos q] at h
    subst q
    cases h
    rfl
  rw [if_neg q] at h
  clear q
  by_cases q : k = 159
  · rw [if_pos q] at h
    subst q
    cases h
    rfl
  rw [if_neg q] at h
  clear q
  by_cases q : k = 160
  · rw [if_pos q] at h
    subst q
    cases h
    rfl
  rw [if_neg q] at h
  clear q
  by_cases q : k = 161
  · rw [if_pos q] at h
    subst q
    cases h
    rfl
  rw [if_neg q] at h
  clear q
  by_cases q : k = 162
  · rw [if_pos q] at h
    subst q
    cases h
    rfl
  rw [if_neg q] at h
  clear q
  by_cases q : k = 163
  · rw [if_pos q] at h
    subst q
    cases h
    rfl
  rw [if_neg q] at h
  clear q
  by_cases q : k = 164
  · rw [if_pos q] at h
    subst q
    cases h
    rfl
  rw [if_neg q] at h
  clear q
  by_cases q : k = 165
  · rw [if_pos q] at h
    subst q
    cases h
    rfl
  rw [if_neg q] at h
  clear q
  by_cases q : k = 166
  · rw [if_pos q] at h
    subst q
    cases h
    rfl
  rw [if_neg q] at h
  clear q
  by_cases q : 3 ≤ k ∧ k < 15 ∧ j = 0
  · rw [if_pos q] at h
    obtain ⟨q1, q2, rfl⟩ := q
    cases h
    obtain ⟨b, rfl⟩ : ∃ b, k = 3 + b := ⟨k - 3, by omega⟩
    exact (by decide +kernel : ∀ b, b < 12 → ph_g 1 (3 + b - 3) = some (3 + b, 0)) b (by omega)
  rw [if_neg q] at h
  clear q
  by_cases q : 3 ≤ k ∧ k < 15 ∧ j = 1
  · rw [if_pos q] at h
    obtain ⟨q1, q2, rfl⟩ := q
    cases h
    obtain ⟨b, rfl⟩ : ∃ b, k = 3 + b := ⟨k - 3, by omega⟩
    exact (by decide +kernel : ∀ b, b < 12 → ph_g 2 (3 + b - 3) = some (3 + b, 1)) b (by omega)
  rw [if_neg q] at h
  clear q
  by_cases q : 3 ≤ k ∧ k < 15 ∧ j = 2
  · rw [if_pos q] at h
    obtain ⟨q1, q2, rfl⟩ := q
    cases h
    obtain ⟨b, rfl⟩ : ∃ b, k = 3 + b := ⟨k - 3, by omega⟩
    exact (by decide +kernel : ∀ b, b < 12 → ph_g 3 (3 + b - 3) = some (3 + b, 2)) b (by omega)
  rw [if_neg q] at h
  clear q
  by_cases q : 25 ≤ k ∧ k < 37 ∧ j < 3
  · rw [if_pos q] at h
    obtain ⟨q1, q2, q3⟩ := q
    cases h
    obtain ⟨b, rfl⟩ : ∃ b, k = 25 + b := ⟨k - 25, by omega⟩
    exact (by decide +kernel : ∀ b, b < 12 → ∀ j, j < 3 → ph_g 11 (6 * (25 + b - 25) + 2 * j) = some (25 + b, j)) b (by omega) j q3
  rw [if_neg q] at h
  clear q
  by_cases q : 38 ≤ k ∧ k < 50 ∧ j < 3
  · rw [if_pos q] at h
    obtain ⟨q1, q2, q3⟩ := q
    cases h
    obtain ⟨b, rfl⟩ : ∃ b, k = 38 + b := ⟨k - 38, by omega⟩
    exact (by decide +kernel : ∀ b, b < 12 → ∀ j, j < 3 → ph_g 11 (6 * (38 + b - 38) + 2 * j + 1) = some (38 + b, j)) b (by omega) j q3
  rw [if_neg q] at h
  clear q
  by_cases q : 148 ≤ k ∧ k < 152 ∧ j < 4 ∧ k - 148 ≠ j
  · rw [if_pos q] at h
    obtain ⟨q1, q2, q3, q4⟩ := q
    cases h
    obtain ⟨b, rfl⟩ : ∃ b, k = 148 + b := ⟨k - 148, by omega⟩
    exact (by decide +kernel : ∀ b, b < 4 → ∀ j, j < 4 → 148 + b - 148 ≠ j → ph_g 28 (4 * (148 + b - 148) + j) = some (148 + b, j)) b (by omega) j q3 q4
  · rw [if_neg q] at h
    cases h
def rel (c r : vv_H) : Prop := ∀ k j k' j', ph_f k j = some (k', j') → c.1 k j = r.1 k' j'
theorem vv_iu_e {h : vv_H} {k j : Nat} {v : Int32} (a i : Nat) : (vv_iu h k j v).1 a i = if a = k ∧ i = j then v else h.1 a i := by
  unfold vv_iu upd
  by_cases e : a = k
  · subst e
    by_cases e2 : i = j <;> simp [e2]
  · simp [e]
theorem rel_up {c r : vv_H} {k j k' j' : Nat} {v : Int32} (h : rel c r) (e : ph_f k j = some (k', j')) : rel (vv_iu c k j v) (vv_iu r k' j' v) := by
  intro a i a' i' ea
  rw [vv_iu_e, vv_iu_e]
  by_cases q : a = k ∧ i = j
  · obtain ⟨rfl, rfl⟩ := q
    rw [e] at ea
    cases ea
    simp
  · rw [if_neg q, if_neg, h a i a' i' ea]
    rintro ⟨rfl, rfl⟩
    have h1 := ph_fg ea
    have h2 := ph_fg e
    rw [h1] at h2
    cases h2
    exact q ⟨rfl, rfl⟩
theorem rel_l {c r : vv_H} {k j : Nat} {v : Int32} (h : rel c r) (e : ph_f k j = none) : rel (vv_iu c k j v) r := by
  intro a i a' i' ea
  rw [vv_iu_e, if_neg, h a i a' i' ea]
  rintro ⟨rfl, rfl⟩
  rw [e] at ea
  cases ea
theorem rel_r {c r : vv_H} {k' j' : Nat} {v : Int32} (h : rel c r) (e : ph_g k' j' = none) : rel c (vv_iu r k' j' v) := by
  intro a i a' i' ea
  rw [vv_iu_e, if_neg, h a i a' i' ea]
  rintro ⟨rfl, rfl⟩
  rw [ph_fg ea] at e
  cases e
theorem rel_ll {c r : vv_H} {k j : Nat} {v : Int64} (h : rel c r) : rel (vv_lu c k j v) r := h
theorem rel_lr {c r : vv_H} {k j : Nat} {v : Int64} (h : rel c r) : rel c (vv_lu r k j v) := h
theorem rel_s0_0 {c r : vv_H} (h : rel c r) : r.1 0 0 = c.1 0 0 := (h 0 0 0 0 rfl).symm
theorem rel_s0_1 {c r : vv_H} (h : rel c r) : r.1 0 18 = c.1 0 1 := (h 0 1 0 18 rfl).symm
theorem rel_s1_0 {c r : vv_H} (h : rel c r) : r.1 0 1 = c.1 1 0 := (h 1 0 0 1 rfl).symm
theorem rel_s16_0 {c r : vv_H} (h : rel c r) : r.1 0 6 = c.1 16 0 := (h 16 0 0 6 rfl).symm
theorem rel_s22_0 {c r : vv_H} (h : rel c r) : r.1 0 12 = c.1 22 0 := (h 22 0 0 12 rfl).symm
theorem rel_s50_0 {c r : vv_H} (h : rel c r) : r.1 0 17 = c.1 50 0 := (h 50 0 0 17 rfl).symm
theorem rel_s146_0 {c r : vv_H} (h : rel c r) : r.1 0 42 = c.1 146 0 := (h 146 0 0 42 rfl).symm
theorem rel_s156_0 {c r : vv_H} (h : rel c r) : r.1 0 44 = c.1 156 0 := (h 156 0 0 44 rfl).symm
theorem rel_a15 {c r : vv_H} (h : rel c r) : r.1 4 = c.1 15 := funext fun j => (h 15 j 4 j rfl).symm
theorem rel_a17 {c r : vv_H} (h : rel c r) : r.1 5 = c.1 17 := funext fun j => (h 17 j 5 j rfl).symm
theorem rel_a18 {c r : vv_H} (h : rel c r) : r.1 6 = c.1 18 := funext fun j => (h 18 j 6 j rfl).symm
theorem rel_a19 {c r : vv_H} (h : rel c r) : r.1 7 = c.1 19 := funext fun j => (h 19 j 7 j rfl).symm
theorem rel_a20 {c r : vv_H} (h : rel c r) : r.1 8 = c.1 20 := funext fun j => (h 20 j 8 j rfl).symm
theorem rel_a21 {c r : vv_H} (h : rel c r) : r.1 9 = c.1 21 := funext fun j => (h 21 j 9 j rfl).symm
theorem rel_a23 {c r : vv_H} (h : rel c r) : r.1 10 = c.1 23 := funext fun j => (h 23 j 10 j rfl).symm
theorem rel_a157 {c r : vv_H} (h : rel c r) : r.1 29 = c.1 157 := funext fun j => (h 157 j 29 j rfl).symm
theorem rel_a158 {c r : vv_H} (h : rel c r) : r.1 30 = c.1 158 := funext fun j => (h 158 j 30 j rfl).symm
theorem rel_a159 {c r : vv_H} (h : rel c r) : r.1 31 = c.1 159 := funext fun j => (h 159 j 31 j rfl).symm
theorem rel_a160 {c r : vv_H} (h : rel c r) : r.1 32 = c.1 160 := funext fun j => (h 160 j 32 j rfl).symm
theorem rel_a161 {c r : vv_H} (h : rel c r) : r.1 33 = c.1 161 := funext fun j => (h 161 j 33 j rfl).symm
theorem rel_a162 {c r : vv_H} (h : rel c r) : r.1 38 = c.1 162 := funext fun j => (h 162 j 38 j rfl).symm
theorem rel_a163 {c r : vv_H} (h : rel c r) : r.1 36 = c.1 163 := funext fun j => (h 163 j 36 j rfl).symm
theorem rel_a164 {c r : vv_H} (h : rel c r) : r.1 37 = c.1 164 := funext fun j => (h 164 j 37 j rfl).symm
theorem rel_a165 {c r : vv_H} (h : rel c r) : r.1 34 = c.1 165 := funext fun j => (h 165 j 34 j rfl).symm
theorem rel_a166 {c r : vv_H} (h : rel c r) : r.1 35 = c.1 166 := funext fun j => (h 166 j 35 j rfl).symm
theorem rel_t0 {c r : vv_H} (h : rel c r) {b : Nat} (hb : b < 12) : r.1 1 b = c.1 (3 + b) 0 := (h (3 + b) 0 1 b ((by decide : ∀ b, b < 12 → ph_f (3 + b) 0 = some (1, b)) b hb)).symm
theorem rel_t1 {c r : vv_H} (h : rel c r) {b : Nat} (hb : b < 12) : r.1 2 b = c.1 (3 + b) 1 := (h (3 + b) 1 2 b ((by decide : ∀ b, b < 12 → ph_f (3 + b) 1 = some (2, b)) b hb)).symm
theorem rel_t2 {c r : vv_H} (h : rel c r) {b : Nat} (hb : b < 12) : r.1 3 b = c.1 (3 + b) 2 := (h (3 + b) 2 3 b ((by decide : ∀ b, b < 12 → ph_f (3 + b) 2 = some (3, b)) b hb)).symm
theorem rel_le {c r : vv_H} (h : rel c r) {s w : Nat} (hs : s < 12) (hw : w < 3) : r.1 11 (6 * s + 2 * w) = c.1 (25 + s) w := (h (25 + s) w 11 (6 * s + 2 * w) ((by decide +kernel : ∀ s, s < 12 → ∀ w, w < 3 → ph_f (25 + s) w = some (11, 6 * s + 2 * w)) s hs w hw)).symm
theorem rel_gr {c r : vv_H} (h : rel c r) {s w : Nat} (hs : s < 12) (hw : w < 3) : r.1 11 (6 * s + 2 * w + 1) = c.1 (38 + s) w := (h (38 + s) w 11 (6 * s + 2 * w + 1) ((by decide +kernel : ∀ s, s < 12 → ∀ w, w < 3 → ph_f (38 + s) w = some (11, 6 * s + 2 * w + 1)) s hs w hw)).symm
theorem rel_ro {c r : vv_H} (h : rel c r) {s t : Nat} (hs : s < 4) (ht : t < 4) (hst : s ≠ t) : r.1 28 (4 * s + t) = c.1 (148 + s) t := (h (148 + s) t 28 (4 * s + t) ((by decide +kernel : ∀ s, s < 4 → ∀ t, t < 4 → s ≠ t → ph_f (148 + s) t = some (28, 4 * s + t)) s hs t ht hst)).symm
