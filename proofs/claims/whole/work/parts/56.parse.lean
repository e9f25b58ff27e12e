theorem vlE {α β : Type} (x : α) (f : α → β) : vv_let x f = f x := rfl
theorem zk0 {α : Type} {A : Option α} : vv_zk (0 : Int32) A = A := rfl
/-- the component's tokens -/
def tkc (c : vv_H) (n : Nat) (tp tk tv : Nat → Nat) : Prop := n ≤ 241 ∧ c.1 50 1 = nI n ∧ trow c n tp tk tv
/-- what the reader changes -/
def frP (b : Bool) (c c' : vv_H) : Prop := c'.2 = c.2 ∧ ∀ k j, k ≠ 55 → ¬ (vv_rid b ≤ k ∧ k < vv_rid b + 45) → c'.1 k j = c.1 k j
theorem frP_rf (b : Bool) (c : vv_H) : frP b c c := ⟨rfl, fun _ _ _ _ => rfl⟩
theorem frP_tr {b : Bool} {x y z : vv_H} (h1 : frP b x y) (h2 : frP b y z) : frP b x z := ⟨h2.1.trans h1.1, fun k j q1 q2 => (h2.2 k j q1 q2).trans (h1.2 k j q1 q2)⟩
theorem frP_iu {b : Bool} {c g : vv_H} {k j : Nat} {v : Int32} (h : frP b c g) (q : k = 55 ∨ (vv_rid b ≤ k ∧ k < vv_rid b + 45)) : frP b c (vv_iu g k j v) := ⟨h.1, fun a i h1 h2 => by
  rw [vv_iu_ne (fun e => by rw [e] at h1 h2; exact q.elim h1 h2)]
  exact h.2 a i h1 h2⟩
theorem tkc_fr {b : Bool} {c c' : vv_H} {n : Nat} {tp tk tv : Nat → Nat} (h : tkc c n tp tk tv) (q : frP b c c') : tkc c' n tp tk tv := by
  have hr := rid_bd b
  refine ⟨h.1, by rw [q.2 50 1 (by omega) (by omega)]; exact h.2.1, fun k hk => ?_⟩
  rw [q.2 52 k (by omega) (by omega), q.2 53 k (by omega) (by omega), q.2 54 k (by omega) (by omega)]
  exact h.2.2 k hk
theorem tokAt {c : vv_H} {n k : Nat} {tp tk tv : Nat → Nat} (h : tkc c n tp tk tv) (hk : k < n) : ff_X10_tokenAt c (nI k) = some (nI (tk k)) ∧ ff_X10_placeAt c (nI k) = some (nI (tp k)) ∧ ff_X10_valueAt c (nI k) = some (nI (tv k)) := by
  have hn := h.1
  obtain ⟨h1, h2, h3⟩ := h.2.2 k hk
  simp (disch := omega) only [ff_X10_tokenAt, ff_X10_placeAt, ff_X10_valueAt, if_neg (nI_pos (show k < 2 ^ 31 by omega)), h.2.1, if_neg (nI_nle' hk (show n < 2 ^ 31 by omega)), ck_lit, nI_clamp, h1, h2, h3]
  exact ⟨trivial, trivial, trivial⟩
/-- both stand before the token k -/
def ps (w : Nat → Nat) (L n : Nat) (st tp tk tv : Nat → Nat) (c r : vv_H) (k : Nat) : Prop := k < n ∧ lex w L n st tp tk tv ∧ tkc c n tp tk tv ∧ c.1 55 2 = nI k ∧ lxr r w L ∧ cur r st tp tk tv k
/-- both have the same fault -/
def err (c r : vv_H) : Prop := 0 < (r.1 0 19).toInt ∧ c.1 55 1 = r.1 0 19 ∧ c.1 55 0 = r.1 0 20
/-- what reading changes in the reference: frN and the new lines -/
def frQ (r g : vv_H) : Prop := g.2 = r.2 ∧ ∀ k j, ¬ (k = 0 ∧ (19 ≤ j ∧ j ≤ 24 ∨ j = 34)) → ¬ (22 ≤ k ∧ k ≤ 27) → g.1 k j = r.1 k j
theorem frQ_rf (r : vv_H) : frQ r r := ⟨rfl, fun _ _ _ _ => rfl⟩
theorem frQ_tr {a b c : vv_H} (h1 : frQ a b) (h2 : frQ b c) : frQ a c := ⟨h2.1.trans h1.1, fun k j q1 q2 => (h2.2 k j q1 q2).trans (h1.2 k j q1 q2)⟩
theorem frQ_N {r g : vv_H} (h : frN r g) : frQ r g := ⟨h.1, fun k j q1 q2 => h.2 k j (by omega)⟩
theorem frQ_iu {r g : vv_H} {k j : Nat} {v : Int32} (h : frQ r g) (q : (22 ≤ k ∧ k ≤ 27) ∨ (k = 0 ∧ (19 ≤ j ∧ j ≤ 24 ∨ j = 34))) : frQ r (vv_iu g k j v) := ⟨h.1, fun a b h1 h2 => by
  rw [vv_iu_e, if_neg (fun e => by omega)]
  exact h.2 a b h1 h2⟩
theorem lxr_Q {r g : vv_H} {w : Nat → Nat} {L : Nat} (h : lxr r w L) (e : frQ r g) : lxr g w L := lxr_fr h fun k j h1 h2 => e.2 k j (by omega) h2
/-- only the new lines' rows -/
def kp (r g : vv_H) : Prop := g.2 = r.2 ∧ ∀ k j, ¬ (22 ≤ k ∧ k ≤ 27) → g.1 k j = r.1 k j
theorem kp_rf (r : vv_H) : kp r r := ⟨rfl, fun _ _ _ => rfl⟩
theorem kp_tr {a b c : vv_H} (h1 : kp a b) (h2 : kp b c) : kp a c := ⟨h2.1.trans h1.1, fun k j q => (h2.2 k j q).trans (h1.2 k j q)⟩
theorem kp_iu {r g : vv_H} {k j : Nat} {v : Int32} (h : kp r g) (q : 22 ≤ k ∧ k ≤ 27) : kp r (vv_iu g k j v) := ⟨h.1, fun a b h1 => by
  rw [vv_iu_ne (by omega)]
  exact h.2 a b h1⟩
theorem kp_Q {r g : vv_H} (h : kp r g) : frQ r g := ⟨h.1, fun k j _ q => h.2 k j q⟩
theorem err_kp {c r g : vv_H} (h : err c r) (q : kp r g) : err c g := by
  unfold err
  rw [q.2 0 19 (by omega), q.2 0 20 (by omega)]
  exact h
theorem cur_kp {r g : vv_H} {st tp tk tv : Nat → Nat} {k : Nat} (h : cur r st tp tk tv k) (q : kp r g) : cur g st tp tk tv k := by
  unfold cur
  rw [q.2 0 19 (by omega), q.2 0 20 (by omega), q.2 0 21 (by omega), q.2 0 22 (by omega), q.2 0 23 (by omega), q.2 0 24 (by omega)]
  exact h
/-- a fault in the reference: nothing more is read -/
def bad (r : vv_H) : Prop := 0 < (r.1 0 19).toInt
theorem bad_n {r : vv_H} (h : bad r) : ¬ r.1 0 19 = 0 ∧ ¬ r.1 0 19 ≤ 0 := by
  unfold bad at h
  constructor
  · intro e
    rw [e] at h
    exact absurd h (by decide)
  · rw [Int32.le_iff_toInt_le, show (0 : Int32).toInt = 0 from rfl]
    omega
theorem bad_kp {r g : vv_H} (h : bad r) (q : kp r g) : bad g := by
  unfold bad
  rw [q.2 0 19 (by omega)]
  exact h
theorem next_e {r : vv_H} (h : bad r) : ff_X12_next r = some r := by
  unfold ff_X12_next
  rw [if_neg (bad_n h).2]
theorem number_e {r : vv_H} (h : bad r) (a b : Int32) : ff_X12_number r a b = some (r.1 0 24, r) := by
  simp only [ff_X12_number, ff_X12_number_J23, if_neg (bad_n h).1]
theorem J92_e {r : vv_H} (h : bad r) (u : Int32) : ff_X12_oneLine_J92 u r = some r := by
  unfold ff_X12_oneLine_J92
  rw [if_neg (bad_n h).2]
theorem J38_e {r : vv_H} (h : bad r) : ff_X12_oneLine_J38 r = some r := by
  unfold ff_X12_oneLine_J38
  rw [if_neg (bad_n h).1, J92_e h]
theorem J321_e {r : vv_H} (h : bad r) : ff_X12_oneLine_J321 r = some r := by
  simp only [ff_X12_oneLine_J321, ff_X12_oneLine_J350, if_neg (bad_n h).1]
theorem J258_e {r : vv_H} (h : bad r) (u2 z0 z1 : Int32) {i : Nat} (hi : i < 12) : ∃ g, ff_X12_oneLine_J258 u2 z0 z1 (nI i) r = some g ∧ kp r g := by
  have k1 : kp r (vv_iu r 25 i (r.1 0 24)) := kp_iu (kp_rf r) (by omega)
  have hb := bad_kp h k1
  unfold ff_X12_oneLine_J258
  rw [number_e h, Option.bind_some, ck_lit hi (by decide), vlE, nI_clamp (by omega)]
  show ∃ g, (ff_X12_next (vv_iu r 25 i (r.1 0 24))).bind _ = some g ∧ _
  rw [next_e hb, Option.bind_some, if_neg (bad_n hb).1, J321_e hb]
  exact ⟨_, rfl, k1⟩
theorem J246_e {r : vv_H} (h : bad r) (u2 z0 : Int32) {i : Nat} (hi : i < 12) : ∃ g, ff_X12_oneLine_J246 u2 z0 (nI i) r = some g ∧ kp r g := by
  unfold ff_X12_oneLine_J246
  split
  · exact J258_e h _ _ _ hi
  · exact J258_e h _ _ _ hi
theorem J62_e {r : vv_H} (h : bad r) : ff_X12_test_J62 r = some r := by
  unfold ff_X12_test_J62
  rw [if_neg (bad_n h).2]
theorem J37_e {r : vv_H} (h : bad r) : ff_X12_test_J37 r = some r := by
  unfold ff_X12_test_J37
  rw [if_neg (bad_n h).1, J62_e h]
theorem test_e {r : vv_H} (h : bad r) : ff_X12_test r = some r := by
  unfold ff_X12_test
  rw [if_neg (bad_n h).1, J37_e h]
/-- a fault of the token k, on both sides -/
theorem bad_of {r : vv_H} {e p : Int32} (he : 0 < e.toInt) : bad (vv_iu (vv_iu r 0 19 e) 0 20 p) := by
  unfold bad
  rw [vv_iu_nj (by omega), vv_iu_eq]
  exact he
theorem err_of {c r : vv_H} {e p : Int32} (he : 0 < e.toInt) : err (vv_iu (vv_iu c 55 1 e) 55 0 p) (vv_iu (vv_iu r 0 19 e) 0 20 p) := by
  unfold err
  rw [vv_iu_nj (by omega), vv_iu_eq, vv_iu_nj (by omega), vv_iu_eq, vv_iu_eq, vv_iu_eq]
  exact ⟨he, rfl, rfl⟩
theorem refuse_c (c : vv_H) (e p : Int32) : ff_X5_refuse c e p = some (0, vv_iu (vv_iu c 55 1 e) 55 0 p) := rfl
theorem lex_k {w : Nat → Nat} {L n k : Nat} {st tp tk tv : Nat → Nat} (h : lex w L n st tp tk tv) (hk : k < n) : tk k < 16 ∧ tv k < 10000 ∧ tp k ≤ L ∧ (tk k ≠ 0 → tk k ≠ 1 → k + 1 < n) := by
  obtain ⟨_, _, h3, h4, h5⟩ := h
  by_cases g : k + 1 < n
  · obtain ⟨q, _⟩ := h4 k g
    exact ⟨q.2.2.2.2.2.1, q.2.2.2.2.2.2.2, Nat.le_of_lt q.2.2.1, fun _ _ => g⟩
  · have e : n - 1 = k := by omega
    rw [e] at h5
    rcases h5 with ⟨q, q2⟩ | q
    · exact ⟨q.2.2.2.2.2.1, q.2.2.2.2.2.2.2, Nat.le_of_lt q.2.2.1, fun _ w2 => absurd q2 w2⟩
    · obtain ⟨_, _, q3, q4, q5⟩ := q
      rw [q4, q5]
      exact ⟨by decide, by decide, Nat.le_of_eq q3, fun w2 => absurd rfl w2⟩
section
variable {w : Nat → Nat} {L n : Nat} {st tp tk tv : Nat → Nat}
theorem nIk {k j : Nat} (hk : k < 16) (hj : j < 100) : (nI k = nI j) ↔ k = j := nI_eq (by omega) (by omega)
theorem refTok_c {c : vv_H} {k : Nat} (h : tkc c n tp tk tv) (hk : k < n) (h16 : tk k < 16) (e : c.1 55 2 = nI k) : ff_X5_refuseToken c = some (0, vv_iu (vv_iu c 55 1 (if tk k = 1 then 1 else 2)) 55 0 (nI (tp k))) := by
  obtain ⟨t1, t2, t3⟩ := tokAt h hk
  have e1 : (nI (tk k) = (1 : Int32)) ↔ tk k = 1 := nIk (j := 1) h16 (by decide)
  simp only [ff_X5_refuseToken, ff_X5_refuseToken_J18, e, t1, t2, Option.bind_some, refuse_c, zk0, e1]
  by_cases g : tk k = 1
  · rw [if_pos g, if_pos g]
  · rw [if_neg g, if_neg g]
/-- the token k is no good: both refuse it -/
theorem wrong_two {c r : vv_H} {k : Nat} (h : ps w L n st tp tk tv c r k) : ∃ c' r', ff_X5_refuseToken c = some (0, c') ∧ (tk k = 1 → r' = r) ∧ (tk k ≠ 1 → ff_X12_fails r 2 = some r') ∧ bad r' ∧ err c' r' ∧ (∀ b, frP b c c') ∧ frN r r' := by
  obtain ⟨h1, h2, h3, h4, h5, h6⟩ := h
  obtain ⟨l1, l2, l3, l4⟩ := lex_k h2 h1
  refine ⟨_, if tk k = 1 then r else vv_iu (vv_iu r 0 19 2) 0 20 (nI (tp k)), refTok_c h3 h1 l1 h4, fun g => if_pos g, fun g => ?_, ?_, ?_, fun b => frP_iu (frP_iu (frP_rf b c) (Or.inl rfl)) (Or.inl rfl), ?_⟩
  · rcases h6 with q | q
    · rw [if_neg g]
      exact fails_0 q.2.1 q.2.2.1 2
    · exact absurd q.1 g
  · rcases h6 with q | q
    · rw [if_neg q.1]
      exact bad_of (by decide)
    · rw [if_pos q.1]
      unfold bad
      rw [q.2.1]
      decide
  · rcases h6 with q | q
    · rw [if_neg q.1, if_neg q.1]
      exact err_of (by decide)
    · rw [if_pos q.1, if_pos q.1]
      unfold err
      rw [vv_iu_nj (by omega), vv_iu_eq, vv_iu_eq, q.2.1, q.2.2]
      exact ⟨by decide, rfl, rfl⟩
  · rcases h6 with q | q
    · rw [if_neg q.1]
      exact frN_iu (frN_iu (frN_rf r) (by omega)) (by omega)
    · rw [if_pos q.1]
      exact frN_rf r
/-- a step on: the component's at is k + 1, the reference reads on -/
theorem step_two {c c' r r' : vv_H} {k : Nat} (h : ps w L n st tp tk tv c r k) (h0 : tk k ≠ 0) (h1 : tk k ≠ 1) {b : Bool} (hc : frP b c c') (e : c'.1 55 2 = nI (k + 1)) (hr : frQ r r') (e19 : r'.1 0 19 = r.1 0 19) (e21 : r'.1 0 21 = r.1 0 21) : ∃ r2, ff_X12_next r' = some r2 ∧ frN r' r2 ∧ ps w L n st tp tk tv c' r2 (k + 1) := by
  obtain ⟨a1, a2, a3, a4, a5, a6⟩ := h
  obtain ⟨l1, l2, l3, l4⟩ := lex_k a2 a1
  have hk := l4 h0 h1
  have hl := lxr_Q a5 hr
  rcases a6 with q | q
  · obtain ⟨r2, n1, n2, n3⟩ := next_r hl a2 hk (by rw [e19]; exact q.2.1) (by rw [e21]; exact q.2.2.2.2.2 h0)
    exact ⟨r2, n1, n2, hk, a2, tkc_fr a3 hc, e, lxr_N hl n2, n3⟩
  · exact absurd q.1 h1
/-- a number within bounds -/
theorem num_two {c r : vv_H} {k lo hi : Nat} (h : ps w L n st tp tk tv c r k) (hhi : hi < 2 ^ 31) (hlo : lo ≤ hi) : (∃ c', tk k = 2 ∧ lo ≤ tv k ∧ tv k ≤ hi ∧ ff_X5_takeNumber c (nI lo) (nI hi) = some (1, c') ∧ ff_X12_number r (nI lo) (nI hi) = some (nI (tv k), r) ∧ c'.1 55 3 = nI (tv k) ∧ c'.1 55 2 = nI (k + 1) ∧ ∀ b, frP b c c') ∨
    (∃ c' x r', ff_X5_takeNumber c (nI lo) (nI hi) = some (0, c') ∧ ff_X12_number r (nI lo) (nI hi) = some (x, r') ∧ bad r' ∧ err c' r' ∧ (∀ b, frP b c c') ∧ frN r r') := by
  have h' := h
  obtain ⟨h1, h2, h3, h4, h5, h6⟩ := h
  obtain ⟨l1, l2, l3, l4⟩ := lex_k h2 h1
  obtain ⟨t1, t2, t3⟩ := tokAt h3 h1
  have e2 : (nI (tk k) = (2 : Int32)) ↔ tk k = 2 := nIk (j := 2) l1 (by decide)
  by_cases g : tk k = 2
  · rcases h6 with q | q
    case inr => omega
    obtain ⟨q1, q2, q3, q4, q5, q6⟩ := q
    have q4' : r.1 0 23 = 2 := by rw [q4, g]; rfl
    have q5' : r.1 0 24 = nI (tv k) := by rw [q5, g]; rfl
    have ein : ff_X12_in (nI (tv k)).toInt64 (nI lo).toInt64 (nI hi).toInt64 = some (if lo ≤ tv k ∧ tv k ≤ hi then 1 else 0) := by
      rw [m_in, Int32.toInt_toInt64, Int32.toInt_toInt64, Int32.toInt_toInt64, nI_toInt (by omega), nI_toInt (by omega), nI_toInt (by omega)]
      unfold wi
      by_cases d : lo ≤ tv k ∧ tv k ≤ hi
      · rw [if_pos d, if_pos (by omega)]
      · rw [if_neg d, if_neg (by omega)]
    have ek : (vv_iu c 55 3 (nI (tv k))).1 55 2 = nI k := by rw [vv_iu_nj (by omega), h4]
    have h3' : tkc (vv_iu c 55 3 (nI (tv k))) n tp tk tv := tkc_fr (b := false) h3 (frP_iu (frP_rf _ c) (Or.inl rfl))
    have tk' := (tokAt h3' h1).2.1
    have fc : ∀ b, frP b c (vv_iu c 55 3 (nI (tv k))) := fun b => frP_iu (frP_rf b c) (Or.inl rfl)
    have hn : ff_X12_number r (nI lo) (nI hi) = if lo ≤ tv k ∧ tv k ≤ hi then some (nI (tv k), r) else some (nI (tv k), vv_iu (vv_iu r 0 19 3) 0 20 (nI (tp k))) := by
      simp (disch := omega) only [ff_X12_number, ff_X12_number_J23, if_pos q2, if_pos q4', q5', ein, Option.bind_some, fails_0 q2 q3, vv_iu_nj]
      by_cases d : lo ≤ tv k ∧ tv k ≤ hi
      · rw [if_pos d, if_pos d, if_neg (by decide)]
      · rw [if_neg d, if_neg d, if_pos rfl]
    have ht : ff_X5_takeNumber c (nI lo) (nI hi) = if lo ≤ tv k ∧ tv k ≤ hi then some (1, vv_iu (vv_iu c 55 3 (nI (tv k))) 55 2 (nI (k + 1))) else some (0, vv_iu (vv_iu (vv_iu c 55 3 (nI (tv k))) 55 1 3) 55 0 (nI (tp k))) := by
      unfold ff_X5_takeNumber
      rw [h4, t1, Option.bind_some, if_pos (e2.mpr g), t3, Option.bind_some, vlE, vv_iu_eq]
      simp only [nI_ltI (show tv k < 2 ^ 31 by omega) (show lo < 2 ^ 31 by omega), nI_leI (show tv k < 2 ^ 31 by omega) (show hi < 2 ^ 31 by omega), ff_X5_takeNumber_J46, ek, tk', Option.bind_some, refuse_c, zk0, vlE, nI_1]
      by_cases d1 : tv k < lo
      · rw [if_pos d1, if_neg (by omega)]
      · rw [if_neg d1]
        by_cases d2 : tv k ≤ hi
        · rw [if_pos d2, if_pos (by omega)]
        · rw [if_neg d2, if_neg (by omega)]
    by_cases d : lo ≤ tv k ∧ tv k ≤ hi
    · rw [if_pos d] at hn ht
      exact Or.inl ⟨_, g, d.1, d.2, ht, hn, by rw [vv_iu_nj (by omega), vv_iu_eq], vv_iu_eq, fun b => frP_iu (fc b) (Or.inl rfl)⟩
    · rw [if_neg d] at hn ht
      exact Or.inr ⟨_, _, _, ht, hn, bad_of (by decide), err_of (by decide), fun b => frP_iu (frP_iu (fc b) (Or.inl rfl)) (Or.inl rfl), frN_iu (frN_iu (frN_rf r) (by omega)) (by omega)⟩
  · right
    obtain ⟨c', r', w1, w2, w3, w4, w5, w6, w7⟩ := wrong_two h'
    have ht : ff_X5_takeNumber c (nI lo) (nI hi) = some (0, c') := by
      unfold ff_X5_takeNumber
      rw [h4, t1, Option.bind_some, if_neg (fun d => g (e2.mp d)), w1, Option.bind_some, zk0]
    rcases h6 with q | q
    · obtain ⟨q1, q2, q3, q4, q5, q6⟩ := q
      have q4' : ¬ r.1 0 23 = 2 := by
        rw [q4]
        unfold tm
        by_cases d0 : tk k = 0
        · rw [if_pos d0]
          decide
        · rw [if_neg d0, if_neg g]
          split <;> decide
      refine ⟨c', r'.1 0 24, r', ht, ?_, w4, w5, w6, w7⟩
      · simp only [ff_X12_number, if_pos q2, if_neg q4', w3 q1, Option.bind_some]
    · have hb := w4
      have er := w2 q.1
      refine ⟨c', _, r', ht, by rw [er, number_e (by rw [← er]; exact hb)], w4, w5, w6, w7⟩
end
