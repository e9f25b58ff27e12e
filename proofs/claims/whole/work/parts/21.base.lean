/-! well formed: what the component's cells keep to -/
def wi (x a b : Int) : Int32 := if a ≤ x ∧ x ≤ b then 1 else 0
theorem wi_zk {α : Type} {x a b : Int} {A : Option α} : vv_zk (wi x a b) A = A := by
  unfold vv_zk wi
  split <;> simp
theorem wi_ite {α : Type} {x a b : Int} {A B : α} : (if wi x a b = 0 then A else B) = if a ≤ x ∧ x ≤ b then B else A := by
  unfold wi
  split <;> simp
theorem wi_iteN {α : Type} {x a b : Int} {A B : α} : (if wi x a b = 1 then A else B) = if a ≤ x ∧ x ≤ b then A else B := by
  unfold wi
  split <;> simp
theorem m_isWithin (v a b : Int32) : ff_X11_isWithin v a b = some (wi v.toInt a.toInt b.toInt) := by
  unfold ff_X11_isWithin wi
  simp only [Int32.lt_iff_toInt_lt]
  by_cases h1 : v.toInt < a.toInt
  · rw [if_pos h1, if_neg (by omega)]
  · rw [if_neg h1]
    by_cases h2 : b.toInt < v.toInt
    · rw [if_pos h2, if_neg (by omega)]
    · rw [if_neg h2, if_pos (by omega)]
theorem m_in (v a b : Int64) : ff_X12_in v a b = some (wi v.toInt a.toInt b.toInt) := by
  unfold ff_X12_in wi
  simp only [lg_cmp_lt, lg_cmp_gt, Int64.lt_iff_toInt_lt]
  by_cases h1 : v.toInt < a.toInt
  · rw [if_pos h1, if_neg (by omega)]
  · rw [if_neg h1]
    by_cases h2 : b.toInt < v.toInt
    · rw [if_pos h2, if_neg (by omega)]
    · rw [if_neg h2, if_pos (by omega)]
theorem ck_ok {α : Type} {x : Int32} {n : Nat} {A : Option α} (h0 : 0 ≤ x.toInt) (h1 : x.toInt < n) : vv_ck x n A = A := vv_ck_in (vp_in_iff.mpr ⟨h0, h1⟩)
theorem ck_lit {α : Type} {n k : Nat} {A : Option α} (h : k < n) (hn : n < 2 ^ 31) : vv_ck (nI k) n A = A := vv_ck_in (vp_in_nI h hn)
def wfb (k j : Nat) : Option (Int × Int) :=
  if k = 0 ∧ j = 0 then some (0, 9999) else
  if k = 1 ∧ j = 0 then some (0, 12) else
  if k = 16 ∧ j = 0 then some (0, 60) else
  if k = 22 ∧ j = 0 then some (0, 12) else
  if k = 50 ∧ j = 0 then some (0, 240) else
  if k = 146 ∧ j = 0 then some (0, 4) else
  if k = 156 ∧ j = 0 then some (0, 36) else
  if k = 17 then some (0, 11) else
  if k = 18 then some (0, 2) else
  if k = 19 then some (0, 250) else
  if k = 20 then some (0, 9999) else
  if k = 21 then some (0, 9999) else
  if k = 23 then some (0, 3) else
  if 25 ≤ k ∧ k < 37 then some (0, 250) else
  if 38 ≤ k ∧ k < 50 then some (0, 250) else
  if 3 ≤ k ∧ k < 15 then some (0, 9) else
  if 148 ≤ k ∧ k < 152 then some (0, 99) else
  if k = 157 then some (0, 11) else
  if k = 158 then some (0, 5) else
  if k = 159 then some (0, 99) else
  if k = 160 then some (-4, 3) else
  if k = 161 then some (-4, 11) else
  if k = 162 then some (-4, 11) else
  if k = 164 then some (0, 1) else
  if k = 165 then some (0, 9999) else none
def wf0 (c : vv_H) : Prop := ∀ k j lo hi, wfb k j = some (lo, hi) → lo ≤ (c.1 k j).toInt ∧ (c.1 k j).toInt ≤ hi
theorem wf0_up {c : vv_H} {k j : Nat} {v : Int32} (h : wf0 c) (hv : ∀ lo hi, wfb k j = some (lo, hi) → lo ≤ v.toInt ∧ v.toInt ≤ hi) : wf0 (vv_iu c k j v) := by
  intro a i lo hi e
  rw [vv_iu_e]
  by_cases q : a = k ∧ i = j
  · rw [if_pos q]
    obtain ⟨rfl, rfl⟩ := q
    exact hv lo hi e
  · rw [if_neg q]
    exact h a i lo hi e
theorem wf0_in {c : vv_H} {k j : Nat} {v : Int32} {lo hi : Int} (h : wf0 c) (e : wfb k j = some (lo, hi)) (h1 : lo ≤ v.toInt) (h2 : v.toInt ≤ hi) : wf0 (vv_iu c k j v) := wf0_up h fun lo' hi' e' => by
  rw [e] at e'
  cases e'
  exact ⟨h1, h2⟩
theorem wf0_no {c : vv_H} {k j : Nat} {v : Int32} (h : wf0 c) (e : wfb k j = none) : wf0 (vv_iu c k j v) := wf0_up h fun lo' hi' e' => by
  rw [e] at e'
  cases e'
theorem vv_iu_ne {h : vv_H} {k j : Nat} {v : Int32} {a : Nat} (e : a ≠ k) : (vv_iu h k j v).1 a = h.1 a := if_neg e
/-- between two calls nothing is tried, and stores that are not there have neither more nor less -/
def plan0 (c : vv_H) : Prop := (∀ j, c.1 153 j = 0) ∧ ∀ j : Nat, (c.1 146 0).toInt ≤ j → c.1 154 j = 0 ∧ c.1 155 j = 0
theorem plan0_of {c c' : vv_H} (h : plan0 c) (e1 : c'.1 153 = c.1 153) (e2 : c'.1 154 = c.1 154) (e3 : c'.1 155 = c.1 155) (e4 : (c.1 146 0).toInt ≤ (c'.1 146 0).toInt) : plan0 c' := by
  refine ⟨fun j => ?_, fun j hj => ?_⟩
  · rw [e1]
    exact h.1 j
  · rw [e2, e3]
    exact h.2 j (by omega)
/-- the pieces' own sense: sizes, stores and bodies that are there -/
def wfp (c : vv_H) : Prop := (∀ p : Nat, (p : Int) < (c.1 156 0).toInt → (c.1 157 p).toInt < (c.1 22 0).toInt ∧ (c.1 160 p = -4 ∨ (0 ≤ (c.1 160 p).toInt ∧ (c.1 160 p).toInt < (c.1 146 0).toInt ∧ c.1 161 p = -4)) ∧ (c.1 161 p = -4 ∨ (0 ≤ (c.1 161 p).toInt ∧ (c.1 161 p).toInt < (c.1 1 0).toInt))) ∧
  (∀ j : Nat, (c.1 1 0).toInt ≤ j → c.1 15 j = 0) ∧ (∀ j : Nat, (c.1 156 0).toInt ≤ j → c.1 163 j = 0 ∧ c.1 164 j = 0 ∧ c.1 165 j = 0 ∧ c.1 166 j = 0) ∧ plan0 c
theorem vv_iu_nj {h : vv_H} {k j : Nat} {v : Int32} {a i : Nat} (e : i ≠ j) : (vv_iu h k j v).1 a i = h.1 a i := by
  rw [vv_iu_e, if_neg (fun q => e q.2)]
theorem vv_iu_eq {h : vv_H} {k j : Nat} {v : Int32} : (vv_iu h k j v).1 k j = v := by
  rw [vv_iu_e, if_pos ⟨rfl, rfl⟩]
theorem vv_iu_self {h : vv_H} {k j : Nat} {v : Int32} (e : h.1 k j = v) : vv_iu h k j v = h := by
  have : (vv_iu h k j v).1 = h.1 := by
    funext a i
    rw [vv_iu_e]
    split
    · rename_i q
      rw [q.1, q.2, e]
    · rfl
  exact Prod.ext this rfl
theorem ck03 {α : Type} {A : Option α} : vv_ck (0 : Int32) 3 A = A := rfl
theorem ck13 {α : Type} {A : Option α} : vv_ck (1 : Int32) 3 A = A := rfl
theorem ck23 {α : Type} {A : Option α} : vv_ck (2 : Int32) 3 A = A := rfl
theorem cl_0 : (0 : Int32).toNatClampNeg = 0 := rfl
theorem cl_1 : (1 : Int32).toNatClampNeg = 1 := rfl
theorem cl_2 : (2 : Int32).toNatClampNeg = 2 := rfl
theorem toInt_succ {x : Int32} {n : Int} (h0 : 0 ≤ x.toInt) (h1 : x.toInt ≤ n) (hn : n < 2147483647) : (x + 1).toInt = x.toInt + 1 := by
  rw [Int32.toInt_add, show (1 : Int32).toInt = 1 from rfl]
  exact Int.bmod_eq_of_le (by omega) (by omega)
theorem toInt_pred {x : Int32} {n : Int} (h0 : 0 ≤ x.toInt) (h1 : x.toInt ≤ n) (hn : n < 2147483647) : (x - 1).toInt = x.toInt - 1 := by
  rw [Int32.toInt_sub, show (1 : Int32).toInt = 1 from rfl]
  exact Int.bmod_eq_of_le (by omega) (by omega)
theorem m_has0 (h : vv_H) (v : Int32) : ff_X0_has h v = some (wi v.toInt 0 ((h.1 1 0).toInt - 1)) := by
  unfold ff_X0_has wi
  simp only [Int32.lt_iff_toInt_lt, Int32.le_iff_toInt_le, show (0 : Int32).toInt = 0 from rfl]
  split
  · rw [if_neg (by omega)]
  · split
    · rw [if_neg (by omega)]
    · rw [if_pos (by omega)]
theorem m_has8 (h : vv_H) (v : Int32) : ff_X8_has h v = some (wi v.toInt 0 ((h.1 22 0).toInt - 1)) := by
  unfold ff_X8_has wi
  simp only [Int32.lt_iff_toInt_lt, Int32.le_iff_toInt_le, show (0 : Int32).toInt = 0 from rfl]
  split
  · rw [if_neg (by omega)]
  · split
    · rw [if_neg (by omega)]
    · rw [if_pos (by omega)]
theorem m_has9 (h : vv_H) (v : Int32) : ff_X9_has h v = some (wi v.toInt 0 ((h.1 146 0).toInt - 1)) := by
  unfold ff_X9_has wi
  simp only [Int32.lt_iff_toInt_lt, Int32.le_iff_toInt_le, show (0 : Int32).toInt = 0 from rfl]
  split
  · rw [if_neg (by omega)]
  · split
    · rw [if_neg (by omega)]
    · rw [if_pos (by omega)]
theorem m_has4 (h : vv_H) (v : Int32) : ff_X4_has h v = some (wi v.toInt 0 ((h.1 156 0).toInt - 1)) := by
  unfold ff_X4_has wi
  simp only [Int32.lt_iff_toInt_lt, Int32.le_iff_toInt_le, show (0 : Int32).toInt = 0 from rfl]
  split
  · rw [if_neg (by omega)]
  · split
    · rw [if_neg (by omega)]
    · rw [if_pos (by omega)]
theorem m_isDay (v : Int32) : ff_X11_isDay v = some (wi v.toInt 0 9999) := by
  simp only [ff_X11_isDay, m_isWithin, Option.bind_some, wi_zk]; rfl
theorem m_isDayR (v : Int32) : ff_X12_isDay v = some (wi v.toInt 0 9999) := by
  simp only [ff_X12_isDay, m_in, Option.bind_some, wi_zk, Int32.toInt_toInt64]; rfl
theorem m_isBodyR {h : vv_H} (h0 : 0 ≤ (h.1 0 1).toInt) (h1 : (h.1 0 1).toInt ≤ 12) (v : Int32) : ff_X12_isBody h v = some (wi v.toInt 0 ((h.1 0 1).toInt - 1)) := by
  simp only [ff_X12_isBody, m_in, Option.bind_some, wi_zk, Int32.toInt_toInt64, toInt_pred h0 h1 (by decide)]; rfl
theorem m_isStoreR {h : vv_H} (h0 : 0 ≤ (h.1 0 42).toInt) (h1 : (h.1 0 42).toInt ≤ 4) (v : Int32) : ff_X12_isStore h v = some (wi v.toInt 0 ((h.1 0 42).toInt - 1)) := by
  simp only [ff_X12_isStore, m_in, Option.bind_some, wi_zk, Int32.toInt_toInt64, toInt_pred h0 h1 (by decide)]; rfl
theorem m_isPieceR {h : vv_H} (h0 : 0 ≤ (h.1 0 44).toInt) (h1 : (h.1 0 44).toInt ≤ 36) (v : Int32) : ff_X12_isPiece h v = some (wi v.toInt 0 ((h.1 0 44).toInt - 1)) := by
  simp only [ff_X12_isPiece, m_in, Option.bind_some, wi_zk, Int32.toInt_toInt64, toInt_pred h0 h1 (by decide)]; rfl
theorem m_isKind (v : Int32) : ff_X11_isKind v = some (wi v.toInt 0 3) := by
  simp only [ff_X11_isKind, m_isWithin, Option.bind_some, wi_zk]; rfl
theorem m_isMeasureKind (v : Int32) : ff_X11_isMeasureKind v = some (wi v.toInt 0 2) := by
  simp only [ff_X11_isMeasureKind, m_isWithin, Option.bind_some, wi_zk]; rfl
theorem m_isMeasure (v : Int32) : ff_X11_isMeasure v = some (wi v.toInt 0 250) := by
  simp only [ff_X11_isMeasure, m_isWithin, Option.bind_some, wi_zk]; rfl
