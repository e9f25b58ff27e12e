/-- body b could have the piece p, which is free -/
def rlc (h : vv_H) (free : Int64) (b p : Nat) : Prop := tb (h.2.1 171 b) p = true ∧ tb free p = true
theorem inner_c {h g : vv_H} {hd : Nat → Option Nat} {X : Nat → Prop} {rel : Nat → Nat → Prop} {w8 w10 : Int64} {u7 op : Int32} {b : Nat} (hb : b < 12) (hm : mat rel X hd) (hh : hol h hd none) (fg : frD h g) (g173 : g.1 173 = h.1 173) (h36 : ∀ p, tb w8 p = true → p < 36) :
    (∃ op' g', vv_lp (fun (zs : Int32 × Int64 × Int32 × vv_H) => ff_X3_dress_B71 w10 u7 (nI b) zs.1 zs.2.1 zs.2.2.1 zs.2.2.2) vv_F (op, w8, (0 : Int32), g) = some (.inl (op', g')) ∧ g'.2 = g.2 ∧ (∀ k j, k ≠ 174 → g'.1 k j = g.1 k j) ∧ (∀ p, (tb w8 p = true → g'.1 174 p = nI b) ∧ (¬ tb w8 p = true → g'.1 174 p = g.1 174 p)) ∧ (∀ x, x < 32 → (ti op' x = true ↔ ti op x = true ∨ ∃ p, tb w8 p = true ∧ hd p = some x)) ∧ ∀ p, tb w8 p = true → ∃ x, hd p = some x) ∨
    (∃ p g', vv_lp (fun (zs : Int32 × Int64 × Int32 × vv_H) => ff_X3_dress_B71 w10 u7 (nI b) zs.1 zs.2.1 zs.2.2.1 zs.2.2.2) vv_F (op, w8, (0 : Int32), g) = some (.inr (nI p, g')) ∧ g'.2 = g.2 ∧ (∀ k j, k ≠ 174 → g'.1 k j = g.1 k j) ∧ (∀ x, ¬ tb w8 x = true → g'.1 174 x = g.1 174 x) ∧ tb w8 p = true ∧ hd p = none ∧ g'.1 174 p = nI b) := by
  have hL := lp_count (f := fun (zs : Int32 × Int64 × Int32 × vv_H) => ff_X3_dress_B71 w10 u7 (nI b) zs.1 zs.2.1 zs.2.2.1 zs.2.2.2) (fun s z => ∃ (o : Int32) (rem : Int64) (g' : vv_H), z = (o, rem, nI s, g') ∧ g'.2 = g.2 ∧ (∀ k j, k ≠ 174 → g'.1 k j = g.1 k j) ∧ (∀ p, tb rem p = true → tb w8 p = true ∧ s ≤ p) ∧ (∀ p, (tb w8 p = true → ¬ tb rem p = true → g'.1 174 p = nI b) ∧ (¬ tb w8 p = true → g'.1 174 p = g.1 174 p)) ∧ (∀ x, x < 32 → (ti o x = true ↔ ti op x = true ∨ ∃ p, tb w8 p = true ∧ ¬ tb rem p = true ∧ hd p = some x)) ∧ ∀ p, tb w8 p = true → ¬ tb rem p = true → ∃ x, hd p = some x)
    (fun a => (∃ op' g', a = .inl (op', g') ∧ g'.2 = g.2 ∧ (∀ k j, k ≠ 174 → g'.1 k j = g.1 k j) ∧ (∀ p, (tb w8 p = true → g'.1 174 p = nI b) ∧ (¬ tb w8 p = true → g'.1 174 p = g.1 174 p)) ∧ (∀ x, x < 32 → (ti op' x = true ↔ ti op x = true ∨ ∃ p, tb w8 p = true ∧ hd p = some x)) ∧ ∀ p, tb w8 p = true → ∃ x, hd p = some x) ∨ (∃ p g', a = .inr (nI p, g') ∧ g'.2 = g.2 ∧ (∀ k j, k ≠ 174 → g'.1 k j = g.1 k j) ∧ (∀ x, ¬ tb w8 x = true → g'.1 174 x = g.1 174 x) ∧ tb w8 p = true ∧ hd p = none ∧ g'.1 174 p = nI b)) 36 ?hs ?he vv_F 0 (op, w8, (0 : Int32), g) ⟨op, w8, g, rfl, rfl, fun _ _ _ => rfl, fun p q => ⟨q, Nat.zero_le _⟩, fun p => ⟨fun q k => absurd q k, fun _ => rfl⟩, fun x _ => ⟨Or.inl, fun q => q.elim id fun ⟨p, q1, q2, _⟩ => absurd q1 q2⟩, fun p q k => absurd q k⟩ (by decide) (vv_F_lt (by decide))
  case hs =>
    rintro s z hs ⟨o, rem, g', rfl, a1, a2, a3, a4, a5, a6⟩
    have e36 : ¬ (36 : Int32) ≤ nI s := nI_nle' hs (by decide)
    by_cases c0 : rem = 0
    · right
      refine ⟨.inl (o, g'), ?_, Or.inl ⟨o, g', rfl, a1, a2, fun p => ⟨fun q => (a4 p).1 q (by rw [c0, tb_0]; decide), (a4 p).2⟩, fun x hx => ?_, fun p q => a6 p q (by rw [c0, tb_0]; decide)⟩⟩
      · show ff_X3_dress_B71 w10 u7 (nI b) o rem (nI s) g' = _
        unfold ff_X3_dress_B71
        rw [if_neg e36, if_pos ((lg_cmp_eq rem 0).mpr c0)]
      · rw [a5 x hx]
        exact ⟨fun q => q.elim Or.inl fun ⟨p, q1, _, q3⟩ => Or.inr ⟨p, q1, q3⟩, fun q => q.elim Or.inl fun ⟨p, q1, q3⟩ => Or.inr ⟨p, q1, by rw [c0, tb_0]; decide, q3⟩⟩
    · obtain ⟨p, p1, p2, p3, p4, p5, p6⟩ := low_b c0
      obtain ⟨q1, q2⟩ := a3 p p2
      have hp36 := h36 p q1
      have e173 : (vv_iu g' 174 p (nI b)).1 173 p = ov (hd p) := by
        rw [vv_iu_ne (by omega), a2 173 p (by omega), g173, hh.1 p hp36 (by intro e; cases e)]
      have B : ff_X3_dress_B71 w10 u7 (nI b) o rem (nI s) g' = if 0 ≤ ov (hd p) then some (.inl (o ||| ((1 : Int32) <<< (ov (hd p) &&& 31)), rem &&& (rem - 1), nI (s + 1), vv_iu g' 174 p (nI b))) else some (.inr (.inr (nI p, vv_iu g' 174 p (nI b)))) := by
        unfold ff_X3_dress_B71
        rw [if_neg e36, if_neg (fun q => c0 ((lg_cmp_eq rem 0).mp q)), p5, Option.bind_some, vlE, ck_lit (by omega) (by decide), vlE, nI_clamp (by omega), ck_lit (by omega) (by decide), e173, ck_lit (by omega) (by decide), vlE, vlE, nI_1]
      have n174 : ∀ x, x ≠ p → (vv_iu g' 174 p (nI b)).1 174 x = g'.1 174 x := fun x hx => vv_iu_nj hx
      cases hp : hd p with
      | none =>
        right
        rw [hp, if_neg (show ¬ (0 : Int32) ≤ ov none from by decide)] at B
        refine ⟨.inr (nI p, vv_iu g' 174 p (nI b)), B, Or.inr ⟨p, _, rfl, a1, fun k j hk => by rw [vv_iu_ne hk]; exact a2 k j hk, fun x hx => ?_, q1, hp, vv_iu_eq⟩⟩
        rw [n174 x (fun e => hx (by rw [e]; exact q1))]
        exact (a4 x).2 hx
      | some y =>
        left
        have hy := (hm.1 p y hp).2.1
        rw [hp, if_pos (show (0 : Int32) ≤ ov (some y) from nI_pos' (show y < 2 ^ 31 by omega)), show ov (some y) = nI y from rfl, ti_pw y (by omega)] at B
        have tr : ∀ i, tb (rem &&& (rem - 1)) i = true ↔ tb rem i = true ∧ i ≠ p := fun i => by
          rw [p6, Bool.and_eq_true, decide_eq_true_eq]
        refine ⟨_, B, o ||| nI (2 ^ y), rem &&& (rem - 1), vv_iu g' 174 p (nI b), rfl, a1, fun k j hk => by rw [vv_iu_ne hk]; exact a2 k j hk, fun i hi => ?_, fun i => ⟨fun k1 k2 => ?_, fun k => ?_⟩, fun x hx => ?_, fun i k1 k2 => ?_⟩
        · obtain ⟨r1, r2⟩ := (tr i).mp hi
          obtain ⟨r3, r4⟩ := a3 i r1
          refine ⟨r3, ?_⟩
          have : ¬ i < p := fun q => by
            rw [p3 i q] at r1
            cases r1
          omega
        · by_cases e : i = p
          · rw [e, vv_iu_eq]
          · rw [n174 i e]
            exact (a4 i).1 k1 fun q => k2 ((tr i).mpr ⟨q, e⟩)
        · rw [n174 i (fun e => k (by rw [e]; exact q1))]
          exact (a4 i).2 k
        · rw [ti_or, Bool.or_eq_true, a5 x hx, ti_p hx, decide_eq_true_eq]
          constructor
          · rintro ((k | ⟨i, k1, k2, k3⟩) | rfl)
            · exact Or.inl k
            · exact Or.inr ⟨i, k1, fun q => k2 ((tr i).mp q).1, k3⟩
            · exact Or.inr ⟨p, q1, fun q => ((tr p).mp q).2 rfl, hp⟩
          · rintro (k | ⟨i, k1, k2, k3⟩)
            · exact Or.inl (Or.inl k)
            · by_cases e : i = p
              · rw [e, hp] at k3
                exact Or.inr (Option.some.inj k3)
              · exact Or.inl (Or.inr ⟨i, k1, fun q => k2 ((tr i).mpr ⟨q, e⟩), k3⟩)
        · by_cases e : i = p
          · exact ⟨y, by rw [e]; exact hp⟩
          · exact a6 i k1 fun q => k2 ((tr i).mpr ⟨q, e⟩)
  case he =>
    rintro z ⟨o, rem, g', rfl, a1, a2, a3, a4, a5, a6⟩
    have c0 : ∀ p, ¬ tb rem p = true := fun p q => by
      obtain ⟨r1, r2⟩ := a3 p q
      have := h36 p r1
      omega
    refine ⟨.inl (o, g'), ?_, Or.inl ⟨o, g', rfl, a1, a2, fun p => ⟨fun q => (a4 p).1 q (c0 p), (a4 p).2⟩, fun x hx => ?_, fun p q => a6 p q (c0 p)⟩⟩
    · show ff_X3_dress_B71 w10 u7 (nI b) o rem (nI 36) g' = _
      unfold ff_X3_dress_B71
      rw [if_pos (by decide)]
    · rw [a5 x hx]
      exact ⟨fun q => q.elim Or.inl fun ⟨p, q1, _, q3⟩ => Or.inr ⟨p, q1, q3⟩, fun q => q.elim Or.inl fun ⟨p, q1, q3⟩ => Or.inr ⟨p, q1, c0 p, q3⟩⟩
  obtain ⟨a, e1, h1⟩ := hL
  rcases h1 with ⟨op', g', rfl, h1⟩ | ⟨p, g', rfl, h1⟩
  · exact Or.inl ⟨op', g', e1, h1⟩
  · exact Or.inr ⟨p, g', e1, h1⟩
/-- the search at its turn t -/
def bfs (h : vv_H) (free : Int64) (hd : Nat → Option Nat) (b0 t : Nat) (fresh : Int64) (op : Int32) (g : vv_H) (pb : Nat → Nat) : Prop :=
  (∀ i, i < t → pb i < 12) ∧ (∀ i j, i < t → j < t → pb i = pb j → i = j) ∧ (0 < t → pb 0 = b0) ∧ g.2 = h.2 ∧ (∀ k j, k ≠ 174 → g.1 k j = h.1 k j) ∧
  (∀ p, p < 64 → (tb fresh p = true ↔ tb free p = true ∧ ∀ i, i < t → ¬ tb (h.2.1 171 (pb i)) p = true)) ∧
  (∀ b, b < 32 → ti op b = true → b < 12 ∧ (∀ i, i < t → pb i ≠ b) ∧ (t = 0 → b = b0) ∧ (0 < t → chn hd (rlc h free) g pb t b)) ∧
  (∀ i, 0 < i → i < t → chn hd (rlc h free) g pb i (pb i)) ∧
  (∀ i, i < t → ∀ p, rlc h free (pb i) p → ∃ b', hd p = some b' ∧ (ti op b' = true ∨ ∃ j, j < t ∧ pb j = b')) ∧ (t = 0 → ti op b0 = true)
theorem dress_c {h : vv_H} {free : Int64} {X : Nat → Prop} {n b0 : Nat} {hd : Nat → Option Nat} {D : Nat → Prop} (hb0 : b0 < 12) (h36 : ∀ b p, b < 12 → tb (h.2.1 171 b) p = true → p < 36) (hs : stm (rlc h free) X n hd D) (hh : hol h hd none) (hX : ¬ X b0) (hX12 : ∀ b p, rlc h free b p → p < 36) : ∃ z g hd' D' n', ff_X3_dress h (nI b0) free = some (z, g) ∧ frD h g ∧ hol g hd' none ∧ stm (rlc h free) (fun b => X b ∨ b = b0) n' hd' D' ∧ ((z = 0 ∧ n' = n) ∨ (z = 1 ∧ n' = n + 1)) := by
  obtain ⟨hm, hc, hv, hn⟩ := hs
  have hu : ¬ mtd hd b0 := fun ⟨p, hp⟩ => hX (hm.1 p b0 hp).2.2.1
  -- nothing is open any more
  have closed : ∀ (t : Nat) (fresh : Int64) (g : vv_H) (pb : Nat → Nat) (op : Int32), bfs h free hd b0 t fresh op g pb → (∀ b, b < 32 → ¬ ti op b = true) → clo (rlc h free) (fun x => ∃ i, i < t ∧ pb i = x) hd ∧ ∃ i, i < t ∧ pb i = b0 := fun t fresh g pb op q k => by
    obtain ⟨a1, a2, a3, a4, a5, a6, a7, a8, a9, a10⟩ := q
    refine ⟨fun x ⟨i, hi, ex⟩ p hp => ?_, ?_⟩
    · rw [← ex] at hp
      obtain ⟨b', e1, e2⟩ := a9 i hi p hp
      refine ⟨b', ?_, e1⟩
      rcases e2 with e2 | e2
      · have := (hm.1 p b' e1).2.1
        exact absurd e2 (k b' (by omega))
      · exact e2
    · rcases Nat.eq_zero_or_pos t with rfl | ht
      · exact absurd (a10 rfl) (k b0 (by omega))
      · exact ⟨0, ht, a3 ht⟩
  have hL := lp_count (f := fun (zs : Int64 × Int32 × Int32 × vv_H) => ff_X3_dress_B11 zs.1 zs.2.1 zs.2.2.1 zs.2.2.2) (fun t z => ∃ fresh op g pb, z = (fresh, op, nI t, g) ∧ bfs h free hd b0 t fresh op g pb)
    (fun a => (∃ g R, a = .inl g ∧ g.2 = h.2 ∧ (∀ k j, k ≠ 174 → g.1 k j = h.1 k j) ∧ clo (rlc h free) R hd ∧ R b0) ∨ (∃ p g g2 hd', a = .inr (nI p, g) ∧ ff_X3_handOn g (nI p) = some g2 ∧ frD h g2 ∧ hol g2 hd' none ∧ mat (rlc h free) (fun b => X b ∨ b = b0) hd' ∧ clo (rlc h free) D hd' ∧ ∀ b, mtd hd' b ↔ mtd hd b ∨ b = b0)) 12 ?hs ?he vv_F 0 (free, nI (2 ^ b0), (0 : Int32), h) ⟨free, nI (2 ^ b0), h, fun _ => 0, rfl, fun i hi => absurd hi (Nat.not_lt_zero i), fun i j hi => absurd hi (Nat.not_lt_zero i), fun q => absurd q (Nat.lt_irrefl 0), rfl, fun _ _ _ => rfl, fun p _ => ⟨fun q => ⟨q, fun i hi => absurd hi (Nat.not_lt_zero i)⟩, fun q => q.1⟩, fun b hb32 hb => ?h1, fun i _ hi => absurd hi (Nat.not_lt_zero i), fun i hi => absurd hi (Nat.not_lt_zero i), fun _ => by rw [ti_p (by omega), decide_eq_true rfl]⟩ (by decide) (vv_F_lt (by decide))
  case h1 =>
    rw [ti_p hb32, decide_eq_true_eq] at hb
    subst hb
    exact ⟨hb0, fun i hi => absurd hi (Nat.not_lt_zero i), fun _ => rfl, fun q => absurd q (Nat.lt_irrefl 0)⟩
  case he =>
    rintro z ⟨fresh, op, g, pb, rfl, q⟩
    have k : ∀ b, b < 32 → ¬ ti op b = true := fun b hb32 hb => by
      obtain ⟨a1, a2, a3, a4, a5, a6, a7, a8, a9, a10⟩ := q
      obtain ⟨b1, b2, _⟩ := a7 b hb32 hb
      have := cu_inj (m := 12) 13 (fun _ => 1) (fun _ => 1) (fun i => if i < 12 then pb i else b) (fun _ _ => Nat.le_refl _) (fun i hi _ => by
        refine ⟨?_, rfl⟩
        show (if i < 12 then pb i else b) < 12
        by_cases d : i < 12
        · rw [if_pos d]
          exact a1 i d
        · rw [if_neg d]
          exact b1) (fun i j hi hj _ _ e => by
        by_cases d : i < 12 <;> by_cases d2 : j < 12
        · rw [if_pos d, if_pos d2] at e
          exact a2 i j d d2 e
        · rw [if_pos d, if_neg d2] at e
          exact absurd e (b2 i d)
        · rw [if_neg d, if_pos d2] at e
          exact absurd e.symm (b2 j d2)
        · omega)
      exact absurd this (by decide)
    obtain ⟨c1, c2⟩ := closed 12 fresh g pb op q k
    refine ⟨.inl g, ?_, Or.inl ⟨g, _, rfl, q.2.2.2.1, q.2.2.2.2.1, c1, c2⟩⟩
    show ff_X3_dress_B11 fresh op (nI 12) g = _
    unfold ff_X3_dress_B11
    rw [if_pos (by decide)]
  case hs =>
    rintro t z ht ⟨fresh, op, g, pb, rfl, q⟩
    have q' := q
    obtain ⟨a1, a2, a3, a4, a5, a6, a7, a8, a9, a10⟩ := q
    have e12 : ¬ (12 : Int32) ≤ nI t := nI_nle' ht (by decide)
    by_cases c0 : op = 0
    · right
      obtain ⟨c1, c2⟩ := closed t fresh g pb op q' fun b _ hb => by
        rw [c0, ti_0] at hb
        cases hb
      refine ⟨.inl g, ?_, Or.inl ⟨g, _, rfl, a4, a5, c1, c2⟩⟩
      show ff_X3_dress_B11 fresh op (nI t) g = _
      unfold ff_X3_dress_B11
      rw [if_neg e12, if_pos c0]
    · obtain ⟨b, b1, b2, b3, b4, b5⟩ := low_i c0
      obtain ⟨d1, d2, d3, d4⟩ := a7 b b1 b2
      obtain ⟨w8, e8⟩ : ∃ w : Int64, w = h.2.1 171 b &&& fresh := ⟨_, rfl⟩
      have tw8 : ∀ p, tb w8 p = true ↔ tb (h.2.1 171 b) p = true ∧ tb fresh p = true := fun p => by rw [e8, tb_and, Bool.and_eq_true]
      have fd : frD h g := ⟨a4, fun k j hk => a5 k j (by omega)⟩
      have h36' : ∀ p, tb w8 p = true → p < 36 := fun p hp => h36 b p d1 ((tw8 p).mp hp).1
      have w8rel : ∀ p, tb w8 p = true → rlc h free b p := fun p hp => ⟨((tw8 p).mp hp).1, ((a6 p (by have := h36' p hp; omega)).mp ((tw8 p).mp hp).2).1⟩
      have notold : ∀ p i, tb w8 p = true → i < t → ¬ rlc h free (pb i) p := fun p i hp hi hr => ((a6 p (by have := h36' p hp; omega)).mp ((tw8 p).mp hp).2).2 i hi hr.1
      have hO := inner_c (w10 := fresh &&& (w8 ^^^ (-1))) (u7 := nI t) (op := op &&& (op - 1)) d1 hm hh fd (funext fun j => a5 173 j (by omega)) h36'
      have B : ff_X3_dress_B11 fresh op (nI t) g = (vv_lp (fun (zs : Int32 × Int64 × Int32 × vv_H) => ff_X3_dress_B71 (fresh &&& (w8 ^^^ (-1))) (nI t) (nI b) zs.1 zs.2.1 zs.2.2.1 zs.2.2.2) vv_F (op &&& (op - 1), w8, (0 : Int32), g)).bind (Sum.elim (fun (e26 : (Int32 × vv_H)) => some (.inl (fresh &&& (w8 ^^^ (-1)), e26.1, nI (t + 1), e26.2))) (fun (e29 : (Int32 × vv_H)) => some (.inr (.inr (e29.1, e29.2))))) := by
        have eg : g.2.1 171 b &&& fresh = w8 := by rw [a4, e8]
        unfold ff_X3_dress_B11
        rw [if_neg e12, if_neg c0, b4, Option.bind_some, vlE, ck_lit (by omega) (by decide), vlE, nI_clamp (by omega), vlE, eg, nI_1]
        rfl
      -- pieces come to before keep what they were come to by
      have keep : ∀ (g' : vv_H), (∀ x, ¬ tb w8 x = true → g'.1 174 x = g.1 174 x) → ∀ i x, i ≤ t → chn hd (rlc h free) g pb i x → chn hd (rlc h free) g' (pt pb t b) i x := fun g' hg i x hi hx => by
        obtain ⟨q, j, j1, j2, j3, j4⟩ := hx
        have e : pt pb t b j = pb j := if_neg (by omega)
        exact ⟨q, j, j1, j2, by rw [hg q (fun k => notold q j k (by omega) j4), e]; exact j3, by rw [e]; exact j4⟩
      have ptt : pt pb t b t = b := if_pos rfl
      have pti : ∀ i, i < t → pt pb t b i = pb i := fun i hi => if_neg (by omega)
      rcases hO with ⟨op', g', i1, i2, i3, i4, i5, i6⟩ | ⟨p, g', i1, i2, i3, i4, i5, i6, i7⟩
      · left
        rw [i1, Option.bind_some] at B
        refine ⟨_, B, _, op', g', pt pb t b, rfl, fun i hi => ?_, fun i j hi hj e => ?_, fun _ => ?_, i2.trans a4, fun k j hk => (i3 k j hk).trans (a5 k j hk), fun p hp => ?_, fun x hx32 hx => ?_, fun i i0 hi => ?_, fun i hi p hp => ?_, fun e => absurd e (by omega)⟩
        · rcases Nat.lt_succ_iff_lt_or_eq.mp hi with k | rfl
          · rw [pti i k]
            exact a1 i k
          · rw [ptt]
            exact d1
        · rcases Nat.lt_succ_iff_lt_or_eq.mp hi with k | rfl <;> rcases Nat.lt_succ_iff_lt_or_eq.mp hj with k2 | rfl
          · rw [pti i k, pti j k2] at e
            exact a2 i j k k2 e
          · rw [pti i k, ptt] at e
            exact absurd e (d2 i k)
          · rw [pti j k2, ptt] at e
            exact absurd e.symm (d2 j k2)
          · rfl
        · rcases Nat.eq_zero_or_pos t with h0 | h0
          · rw [← h0, ptt]
            exact d3 h0
          · rw [pti 0 h0]
            exact a3 h0
        · rw [tb_and, Bool.and_eq_true, tb_not w8 hp, a6 p hp]
          constructor
          · rintro ⟨⟨k1, k2⟩, k3⟩
            refine ⟨k1, fun i hi hf => ?_⟩
            rcases Nat.lt_succ_iff_lt_or_eq.mp hi with k | rfl
            · rw [pti i k] at hf
              exact k2 i k hf
            · rw [ptt] at hf
              have : tb w8 p = true := (tw8 p).mpr ⟨hf, (a6 p hp).mpr ⟨k1, k2⟩⟩
              rw [this] at k3
              cases k3
          · rintro ⟨k1, k2⟩
            refine ⟨⟨k1, fun i hi => by have := k2 i (by omega); rwa [pti i hi] at this⟩, ?_⟩
            cases e : tb w8 p
            · rfl
            · exact absurd ((tw8 p).mp e).1 (by have := k2 t (by omega); rwa [ptt] at this)
        · rcases (i5 x hx32).mp hx with hx | ⟨p, hp, hx⟩
          · rw [b5, Bool.and_eq_true, decide_eq_true_eq] at hx
            obtain ⟨x1, x2, x3, x4⟩ := a7 x hx32 hx.1
            refine ⟨x1, fun i hi e => ?_, fun e => absurd e (by omega), fun _ => ?_⟩
            · rcases Nat.lt_succ_iff_lt_or_eq.mp hi with k | rfl
              · rw [pti i k] at e
                exact x2 i k e
              · rw [ptt] at e
                exact hx.2 e.symm
            · rcases Nat.eq_zero_or_pos t with h0 | h0
              · exact absurd ((x3 h0).trans (d3 h0).symm) hx.2
              · obtain ⟨q, j, j1, j2, j3, j4⟩ := keep g' (fun y hy => (i4 y).2 hy) t x (Nat.le_refl _) (x4 h0)
                exact ⟨q, j, by omega, j2, j3, j4⟩
          · refine ⟨(hm.1 p x hx).2.1, fun i hi e => ?_, fun e => absurd e (by omega), fun _ => ⟨p, t, by omega, hx, by rw [ptt]; exact (i4 p).1 hp, by rw [ptt]; exact w8rel p hp⟩⟩
            have one : ∀ i, i ≤ t → chn hd (rlc h free) g pb i x → False := fun i hi hch => by
              obtain ⟨q, j, j1, j2, j3, j4⟩ := hch
              have := hm.2 p q x hx j2
              subst this
              exact notold p j hp (by omega) j4
            rcases Nat.lt_succ_iff_lt_or_eq.mp hi with k | rfl
            · rw [pti i k] at e
              rcases Nat.eq_zero_or_pos i with h0 | h0
              · rw [h0, a3 (by omega)] at e
                exact hu (by rw [e]; exact ⟨p, hx⟩)
              · exact one i (by omega) (by rw [← e]; exact a8 i h0 k)
            · rw [ptt] at e
              rcases Nat.eq_zero_or_pos i with h0 | h0
              · rw [d3 h0] at e
                exact hu (by rw [e]; exact ⟨p, hx⟩)
              · exact one i (Nat.le_refl _) (by rw [← e]; exact d4 h0)
        · rcases Nat.lt_succ_iff_lt_or_eq.mp hi with k | rfl
          · rw [pti i k]
            exact keep g' (fun y hy => (i4 y).2 hy) i (pb i) (by omega) (a8 i i0 k)
          · rw [ptt]
            exact keep g' (fun y hy => (i4 y).2 hy) i b (Nat.le_refl _) (d4 i0)
        · have old : ∀ i, i < t → rlc h free (pb i) p → ∃ b', hd p = some b' ∧ (ti op' b' = true ∨ ∃ j, j < t + 1 ∧ pt pb t b j = b') := fun i hi hr => by
            obtain ⟨b', e1, e2⟩ := a9 i hi p hr
            have b12 := (hm.1 p b' e1).2.1
            refine ⟨b', e1, ?_⟩
            rcases e2 with e2 | ⟨j, j1, j2⟩
            · by_cases eb : b' = b
              · exact Or.inr ⟨t, by omega, by rw [ptt, eb]⟩
              · refine Or.inl ((i5 b' (by omega)).mpr (Or.inl ?_))
                rw [b5, e2, decide_eq_true eb]
                rfl
            · exact Or.inr ⟨j, by omega, by rw [pti j j1]; exact j2⟩
          rcases Nat.lt_succ_iff_lt_or_eq.mp hi with k | rfl
          · rw [pti i k] at hp
            exact old i k hp
          · rw [ptt] at hp
            by_cases f : tb fresh p = true
            · have hw : tb w8 p = true := (tw8 p).mpr ⟨hp.1, f⟩
              obtain ⟨x, hx⟩ := i6 p hw
              have := (hm.1 p x hx).2.1
              exact ⟨x, hx, Or.inl ((i5 x (by omega)).mpr (Or.inr ⟨p, hw, hx⟩))⟩
            · have p64 : p < 64 := Nat.lt_of_not_le fun q => by
                have := hp.2
                rw [tb_hi _ q] at this
                cases this
              rw [a6 p p64] at f
              refine Classical.byContradiction fun nn => f ⟨hp.2, fun j hj hf => nn (old j hj ⟨hf, hp.2⟩)⟩
      · right
        rw [i1, Option.bind_some] at B
        have p36 := h36' p i5
        have fg' : frD h g' := ⟨i2.trans a4, fun k j hk => (i3 k j (by omega)).trans (a5 k j (by omega))⟩
        have hh' : hol g' hd none := by
          refine ⟨fun x hx hne => ?_, fun x hx => ?_⟩
          · rw [i3 173 x (by omega), a5 173 x (by omega)]
            exact hh.1 x hx hne
          · rw [i3 172 x (by omega), a5 172 x (by omega)]
            exact hh.2 x hx
        obtain ⟨g2, hd', y1, y2, y3, y4, y5, y6⟩ := handOn_c (rel := rlc h free) (X := X) (D := D) (hd := hd) (h := g') (pb := pt pb t b) (t := t) (p0 := p) (b0 := b0) ht p36 (fun i hi => by
            rcases Nat.lt_or_eq_of_le hi with k | rfl
            · rw [pti i k]
              exact a1 i k
            · rw [ptt]
              exact d1) (fun i j hi hj e => by
            rcases Nat.lt_or_eq_of_le hi with k | rfl <;> rcases Nat.lt_or_eq_of_le hj with k2 | rfl
            · rw [pti i k, pti j k2] at e
              exact a2 i j k k2 e
            · rw [pti i k, ptt] at e
              exact absurd e (d2 i k)
            · rw [pti j k2, ptt] at e
              exact absurd e.symm (d2 j k2)
            · rfl) (by
            rcases Nat.eq_zero_or_pos t with h0 | h0
            · rw [← h0, ptt]
              exact d3 h0
            · rw [pti 0 h0]
              exact a3 h0) hX12 hm hc hu hh' i6 (by rw [ptt]; exact i7) (by rw [ptt]; exact w8rel p i5) (fun i i0 hi => by
            rcases Nat.lt_or_eq_of_le hi with k | rfl
            · rw [pti i k]
              exact keep g' i4 i (pb i) (by omega) (a8 i i0 k)
            · rw [ptt]
              exact keep g' i4 i b (Nat.le_refl _) (d4 i0))
        exact ⟨.inr (nI p, g'), B, Or.inr ⟨p, g', g2, hd', rfl, y1, frD_tr fg' y2, y3, y4, y5, y6⟩⟩
  obtain ⟨a, e1, hJ⟩ := hL
  have E : ff_X3_dress h (nI b0) free = (some a).bind (Sum.elim (fun (e32 : (vv_H)) => some ((0 : Int32), e32)) (fun (e33 : (Int32 × vv_H)) => (ff_X3_handOn e33.2 e33.1).bind (fun r34 => some ((1 : Int32), r34)))) := by
    unfold ff_X3_dress
    rw [vlE, ti_pw b0 (by omega), e1]
  rw [Option.bind_some] at E
  rcases hJ with ⟨g, R, rfl, g2, g3, c1, c2⟩ | ⟨p, g, g2, hd', rfl, y1, y2, y3, y4, y5, y6⟩
  · refine ⟨0, g, hd, _, n, E, ⟨g2, fun k j hk => g3 k j (by omega)⟩, ⟨fun x hx hne => ?_, fun x hx => ?_⟩, stm_no ⟨hm, hc, hv, hn⟩ c1 c2, Or.inl ⟨rfl, rfl⟩⟩
    · rw [g3 173 x (by omega)]
      exact hh.1 x hx hne
    · rw [g3 172 x (by omega)]
      exact hh.2 x hx
  · refine ⟨1, g2, hd', D, n + 1, ?_, y2, y3, stm_yes ⟨hm, hc, hv, hn⟩ hb0 hu y4 y5 y6, Or.inr ⟨rfl, rfl⟩⟩
    rw [E, Sum.elim_inr, y1, Option.bind_some]
