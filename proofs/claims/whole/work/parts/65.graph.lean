noncomputable def ib (P : Prop) : Nat := @ite _ P (Classical.propDecidable P) 1 0
theorem ib_1 {P : Prop} (h : P) : ib P = 1 := if_pos h
theorem ib_0 {P : Prop} (h : ¬ P) : ib P = 0 := if_neg h
theorem ib_le (P : Prop) : ib P ≤ 1 := by
  by_cases h : P
  · rw [ib_1 h]
    exact Nat.le_refl _
  · rw [ib_0 h]
    exact Nat.zero_le _
theorem ib_of {P : Prop} (h : ib P = 1) : P := by
  by_cases g : P
  · exact g
  · rw [ib_0 g] at h
    omega
theorem ib_cg {P Q : Prop} (h : P ↔ Q) : ib P = ib Q := by rw [propext h]
/-- hd: which body holds the piece; rel: what could be held; X: the bodies that count -/
def mat (rel : Nat → Nat → Prop) (X : Nat → Prop) (hd : Nat → Option Nat) : Prop := (∀ p b, hd p = some b → p < 36 ∧ b < 12 ∧ X b ∧ rel b p) ∧ ∀ p q b, hd p = some b → hd q = some b → p = q
def mtd (hd : Nat → Option Nat) (b : Nat) : Prop := ∃ p, hd p = some b
def clo (rel : Nat → Nat → Prop) (D : Nat → Prop) (hd : Nat → Option Nat) : Prop := ∀ b, D b → ∀ p, rel b p → ∃ b', D b' ∧ hd p = some b'
noncomputable def cnt (hd : Nat → Option Nat) : Nat := cu (fun b => ib (mtd hd b)) 12
/-- a matching with a set D that shows that there is none larger -/
def stm (rel : Nat → Nat → Prop) (X : Nat → Prop) (n : Nat) (hd : Nat → Option Nat) (D : Nat → Prop) : Prop := mat rel X hd ∧ clo rel D hd ∧ (∀ b, X b → ¬ D b → mtd hd b) ∧ n = cnt hd
def good (rel : Nat → Nat → Prop) (X : Nat → Prop) (n : Nat) : Prop := ∃ hd D, stm rel X n hd D
theorem good_le {rel : Nat → Nat → Prop} {X : Nat → Prop} {n m : Nat} (h1 : good rel X n) (h2 : good rel X m) : n ≤ m := by
  obtain ⟨h, D, m1, c1, v1, rfl⟩ := h1
  obtain ⟨g, E, m2, c2, v2, rfl⟩ := h2
  have ch : ∀ b, ∃ v, mtd h b → (E b → ∃ p, h p = some b ∧ g p = some v ∧ E v) ∧ (¬ E b → v = b) := fun b => by
    by_cases q : mtd h b
    · obtain ⟨p, hp⟩ := q
      by_cases e : E b
      · obtain ⟨v, v1, v2⟩ := c2 b e p (m1.1 p b hp).2.2.2
        exact ⟨v, fun _ => ⟨fun _ => ⟨p, hp, v2, v1⟩, fun k => absurd e k⟩⟩
      · exact ⟨b, fun _ => ⟨fun k => absurd k e, fun _ => rfl⟩⟩
    · exact ⟨b, fun k => absurd k q⟩
  obtain ⟨f, hf⟩ := Classical.axiomOfChoice ch
  refine cu_inj 12 _ _ f (fun i _ => ib_le _) (fun i hi hA => ?_) (fun i j hi hj hA hB e => ?_)
  · have q := ib_of hA
    obtain ⟨k1, k2⟩ := hf i q
    by_cases e : E i
    · obtain ⟨p, p1, p2, p3⟩ := k1 e
      exact ⟨(m2.1 p _ p2).2.1, ib_1 ⟨p, p2⟩⟩
    · rw [k2 e]
      obtain ⟨p, hp⟩ := q
      exact ⟨hi, ib_1 (v2 i (m1.1 p i hp).2.2.1 e)⟩
  · have qi := ib_of hA
    have qj := ib_of hB
    obtain ⟨i1, i2⟩ := hf i qi
    obtain ⟨j1, j2⟩ := hf j qj
    by_cases ei : E i
    · obtain ⟨p, p1, p2, p3⟩ := i1 ei
      by_cases ej : E j
      · obtain ⟨q, q1, q2, q3⟩ := j1 ej
        rw [e] at p2
        have := m2.2 p q _ p2 q2
        subst this
        rw [p1] at q1
        exact Option.some.inj q1
      · rw [e, j2 ej] at p3
        exact absurd p3 ej
    · rw [i2 ei] at e
      by_cases ej : E j
      · obtain ⟨q, q1, q2, q3⟩ := j1 ej
        rw [← e] at q3
        exact absurd q3 ei
      · rw [j2 ej] at e
        exact e
theorem good_one {rel : Nat → Nat → Prop} {X : Nat → Prop} {n m : Nat} (h1 : good rel X n) (h2 : good rel X m) : n = m := Nat.le_antisymm (good_le h1 h2) (good_le h2 h1)
theorem good_cg {rel rel' : Nat → Nat → Prop} {X X' : Nat → Prop} {n : Nat} (h : good rel X n) (e : ∀ b p, rel b p ↔ rel' b p) (e2 : ∀ b, X b ↔ X' b) : good rel' X' n := by
  have a : rel = rel' := funext fun b => funext fun p => propext (e b p)
  have b : X = X' := funext fun b => propext (e2 b)
  rw [← a, ← b]
  exact h
/-- no more than there are pieces -/
theorem good_pc {rel : Nat → Nat → Prop} {X : Nat → Prop} {n m : Nat} (h : good rel X n) (S : Nat → Prop) (hS : ∀ b p, rel b p → p < m ∧ S p) : n ≤ cu (fun p => ib (S p)) m := by
  obtain ⟨h, D, m1, c1, v1, rfl⟩ := h
  have ch : ∀ b, ∃ p, mtd h b → h p = some b := fun b => by
    by_cases q : mtd h b
    · exact ⟨q.choose, fun _ => q.choose_spec⟩
    · exact ⟨0, fun k => absurd k q⟩
  obtain ⟨f, hf⟩ := Classical.axiomOfChoice ch
  refine cu_inj 12 _ _ f (fun i _ => ib_le _) (fun i hi hA => ?_) (fun i j hi hj hA hB e => ?_)
  · have k := hf i (ib_of hA)
    have r := (m1.1 _ _ k).2.2.2
    exact ⟨(hS _ _ r).1, ib_1 (hS _ _ r).2⟩
  · have k1 := hf i (ib_of hA)
    have k2 := hf j (ib_of hB)
    rw [e, k2] at k1
    exact (Option.some.inj k1).symm
/-- a body that can have nothing: R shows it -/
theorem stm_no {rel : Nat → Nat → Prop} {X : Nat → Prop} {n b0 : Nat} {hd : Nat → Option Nat} {D R : Nat → Prop} (h : stm rel X n hd D) (hR : clo rel R hd) (h0 : R b0) : stm rel (fun b => X b ∨ b = b0) n hd (fun b => D b ∨ R b) := by
  obtain ⟨m1, c1, v1, e1⟩ := h
  refine ⟨⟨fun p b hp => ?_, m1.2⟩, fun b hb p hp => ?_, fun b hb hn => ?_, e1⟩
  · obtain ⟨a1, a2, a3, a4⟩ := m1.1 p b hp
    exact ⟨a1, a2, Or.inl a3, a4⟩
  · rcases hb with hb | hb
    · obtain ⟨b', b1, b2⟩ := c1 b hb p hp
      exact ⟨b', Or.inl b1, b2⟩
    · obtain ⟨b', b1, b2⟩ := hR b hb p hp
      exact ⟨b', Or.inr b1, b2⟩
  · rcases hb with hb | rfl
    · exact v1 b hb fun k => hn (Or.inl k)
    · exact absurd (Or.inr h0) hn
theorem cnt_up {hd hd' : Nat → Option Nat} {b0 : Nat} (hb : b0 < 12) (h0 : ¬ mtd hd b0) (h : ∀ b, mtd hd' b ↔ mtd hd b ∨ b = b0) : cnt hd' = cnt hd + 1 := by
  have key : ∀ k, cu (fun b => ib (mtd hd' b)) k = cu (fun b => ib (mtd hd b)) k + (if b0 < k then 1 else 0) := fun k => by
    induction k with
    | zero => rfl
    | succ k ih =>
      show cu (fun b => ib (mtd hd' b)) k + ib (mtd hd' k) = cu (fun b => ib (mtd hd b)) k + ib (mtd hd k) + _
      rw [ih]
      by_cases e : k = b0
      · subst e
        rw [if_neg (Nat.lt_irrefl _), if_pos (by omega), ib_1 ((h k).mpr (Or.inr rfl)), ib_0 h0]
      · have : ib (mtd hd' k) = ib (mtd hd k) := ib_cg ⟨fun q => ((h k).mp q).elim id fun q => absurd q e, fun q => (h k).mpr (Or.inl q)⟩
        rw [this]
        by_cases g : b0 < k
        · rw [if_pos g, if_pos (by omega)]
          omega
        · rw [if_neg g, if_neg (by omega)]
          omega
  have := key 12
  rw [if_pos hb] at this
  exact this
/-- a body more -/
theorem stm_yes {rel : Nat → Nat → Prop} {X : Nat → Prop} {n b0 : Nat} {hd hd' : Nat → Option Nat} {D : Nat → Prop} (h : stm rel X n hd D) (hb : b0 < 12) (h0 : ¬ mtd hd b0) (hm : mat rel (fun b => X b ∨ b = b0) hd') (hc : clo rel D hd') (he : ∀ b, mtd hd' b ↔ mtd hd b ∨ b = b0) : stm rel (fun b => X b ∨ b = b0) (n + 1) hd' D := by
  obtain ⟨m1, c1, v1, e1⟩ := h
  refine ⟨hm, hc, fun b hb hn => ?_, by rw [cnt_up hb h0 he, e1]⟩
  rcases hb with hb | rfl
  · exact (he b).mpr (Or.inl (v1 b hb hn))
  · exact (he b).mpr (Or.inr rfl)
/-- the body b takes the free piece p and leaves q -/
def mv (hd : Nat → Option Nat) (b p : Nat) : Nat → Option Nat := fun x => if x = p then some b else if hd x = some b then none else hd x
theorem mv_p {hd : Nat → Option Nat} {b p : Nat} : mv hd b p p = some b := if_pos rfl
theorem mv_q {hd : Nat → Option Nat} {b p x : Nat} (h : x ≠ p) (h2 : hd x = some b) : mv hd b p x = none := by
  unfold mv
  rw [if_neg h]
  exact if_pos h2
theorem mv_x {hd : Nat → Option Nat} {b p x : Nat} (h : x ≠ p) (h2 : hd x ≠ some b) : mv hd b p x = hd x := by
  unfold mv
  rw [if_neg h]
  exact if_neg h2
theorem mv_some {hd : Nat → Option Nat} {b p x c : Nat} (h : mv hd b p x = some c) : (x = p ∧ c = b) ∨ (x ≠ p ∧ c ≠ b ∧ hd x = some c) := by
  by_cases e : x = p
  · subst e
    rw [mv_p] at h
    exact Or.inl ⟨rfl, (Option.some.inj h).symm⟩
  · by_cases e2 : hd x = some b
    · rw [mv_q e e2] at h
      cases h
    · rw [mv_x e e2] at h
      exact Or.inr ⟨e, fun k => e2 (by rw [← k]; exact h), h⟩
theorem mv_mat {rel : Nat → Nat → Prop} {X : Nat → Prop} {hd : Nat → Option Nat} {b p : Nat} (h : mat rel X hd) (hp : p < 36) (hb : b < 12) (hX : X b) (hr : rel b p) (h0 : hd p = none) : mat rel X (mv hd b p) := by
  refine ⟨fun x c hx => ?_, fun x y c hx hy => ?_⟩
  · rcases mv_some hx with ⟨rfl, rfl⟩ | ⟨_, _, k⟩
    · exact ⟨hp, hb, hX, hr⟩
    · exact h.1 x c k
  · rcases mv_some hx with ⟨rfl, rfl⟩ | ⟨x1, x2, x3⟩ <;> rcases mv_some hy with ⟨rfl, y2⟩ | ⟨y1, y2, y3⟩
    · rfl
    · exact absurd rfl y2
    · exact absurd y2 x2
    · exact h.2 x y c x3 y3
theorem mv_clo {rel : Nat → Nat → Prop} {D : Nat → Prop} {hd : Nat → Option Nat} {b p : Nat} (h : clo rel D hd) (hr : rel b p) (h0 : hd p = none) : ¬ D b ∧ clo rel D (mv hd b p) := by
  have hb : ¬ D b := fun k => by
    obtain ⟨b', _, e⟩ := h b k p hr
    rw [h0] at e
    cases e
  refine ⟨hb, fun c hc x hx => ?_⟩
  obtain ⟨b', b1, b2⟩ := h c hc x hx
  refine ⟨b', b1, ?_⟩
  rw [mv_x (fun e => by rw [e, h0] at b2; cases b2) (fun e => by
    rw [b2] at e
    exact hb (Option.some.inj e ▸ b1))]
  exact b2
theorem mv_mtd {hd : Nat → Option Nat} {b p : Nat} (h0 : hd p = none) : ∀ c, mtd (mv hd b p) c ↔ mtd hd c ∨ c = b := fun c => by
  constructor
  · rintro ⟨x, hx⟩
    rcases mv_some hx with ⟨rfl, rfl⟩ | ⟨_, _, k⟩
    · exact Or.inr rfl
    · exact Or.inl ⟨x, k⟩
  · rintro (⟨x, hx⟩ | rfl)
    · by_cases e : c = b
      · subst e
        exact ⟨p, mv_p⟩
      · exact ⟨x, by rw [mv_x (fun k => by rw [k, h0] at hx; cases hx) (fun k => by rw [hx] at k; exact e (Option.some.inj k))]; exact hx⟩
    · exact ⟨p, mv_p⟩
