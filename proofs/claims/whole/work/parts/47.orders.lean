theorem e_order {c r : vv_H} (H : RR c r) (kind digits : Int32) : ∃ o c' r', ff_X11_order c kind digits = some (o, c') ∧ ff_X12_order r kind digits = some (o, r') ∧ RR c' r' := by
  rcases plan_two H kind digits with ⟨o, ho, c', r', e1, e2, e3⟩ | ⟨c', r5, r', b, s, sp, lk, ln, mo, z, bz, e1, e2, e3, e4, e5, e6, rfl, e7, e8, e9, e10, e11, e12⟩
  · have hn : ¬ 0 ≤ o := fun q => by
      rw [Int32.le_iff_toInt_le] at q
      rw [Int32.lt_iff_toInt_lt] at ho
      omega
    refine ⟨o, c', r', ?_, ?_, e2⟩
    · simp only [ff_X11_order, e1, Option.bind_some, if_neg hn]
    · rw [m_in] at e3
      simp only [ff_X12_order, m_in, Option.bind_some] at e3 ⊢
      by_cases q1 : wi kind.toInt64.toInt (0 : Int64).toInt (3 : Int64).toInt = 0
      · rw [if_pos q1] at e3 ⊢
        exact e3
      · rw [if_neg q1] at e3 ⊢
        cases hd : ff_X12_areDigits r digits with
        | none => rw [hd] at e3; cases e3
        | some a =>
          rw [hd] at e3
          simp only [Option.bind_some] at e3 ⊢
          by_cases q2 : a = 0
          · rw [if_pos q2] at e3 ⊢
            exact e3
          · rw [if_neg q2] at e3 ⊢
            cases hm : ff_X12_layMore r kind digits with
            | none => rw [hm] at e3; cases e3
            | some w =>
              rw [hm] at e3
              simp only [Option.bind_some] at e3 ⊢
              by_cases q3 : w.1 = 0
              · rw [if_pos q3] at e3 ⊢
                exact e3
              · rw [if_neg q3] at e3
                cases e3
  · refine ⟨nI b, c', r', ?_, ?_, e2⟩
    · simp only [ff_X11_order, e1, Option.bind_some, show (0 : Int32) ≤ 0 from by decide, if_true, e7]
    · simp only [ff_X12_order, e3, e4, e5, e6, Option.bind_some, show ((1 : Int32) = 0) = False from by decide, if_false]
theorem e_ordered {c r : vv_H} (H : RR c r) (kind digits f t : Int32) : ∃ o c' r', ff_X11_ordered c kind digits f t = some (o, c') ∧ ff_X12_ordered r kind digits f t = some (o, r') ∧ RR c' r' := by
  have hm0 := H.b (k := 146) (j := 0) rfl
  have iS : ∀ v, ff_X12_isStore r v = some (wi v.toInt 0 ((c.1 146 0).toInt - 1)) := fun v => by
    rw [m_isStoreR (h := r) (by rw [rel_s146_0 H.1]; exact hm0.1) (by rw [rel_s146_0 H.1]; exact hm0.2), rel_s146_0 H.1]
  by_cases g1 : 0 ≤ f.toInt ∧ f.toInt ≤ (c.1 146 0).toInt - 1 ∧ 0 ≤ t.toInt ∧ t.toInt ≤ (c.1 146 0).toInt - 1
  case neg =>
    have hc : ff_X11_ordered c kind digits f t = some (-1, c) := by
      simp only [ff_X11_ordered, m_has9, Option.bind_some, wi_ite]
      by_cases q : 0 ≤ f.toInt ∧ f.toInt ≤ (c.1 146 0).toInt - 1
      · rw [if_pos q, if_neg (fun q2 => g1 ⟨q.1, q.2, q2.1, q2.2⟩)]
      · rw [if_neg q]
    rcases plan_two H kind digits with ⟨o, ho, c', r', e1, e2, e3⟩ | ⟨c', r5, r', b, s, sp, lk, ln, mo, z, bz, e1, e2, e3, e4, e5, e6, rfl, e7, e8, e9, e10, e11, e12⟩
    · refine ⟨-1, c, r, hc, ?_, H⟩
      rw [m_in] at e3
      simp only [ff_X12_ordered, m_in, Option.bind_some, iS, wi_ite] at e3 ⊢
      split at e3
      · rename_i q1
        rw [if_pos q1]
        cases hd : ff_X12_areDigits r digits with
        | none => rw [hd] at e3; cases e3
        | some a =>
          simp only [Option.bind_some]
          by_cases q2 : a = 0
          · rw [if_pos q2]
          · rw [if_neg q2]
            by_cases q : 0 ≤ f.toInt ∧ f.toInt ≤ (c.1 146 0).toInt - 1
            · rw [if_pos q, if_neg (fun q2 => g1 ⟨q.1, q.2, q2.1, q2.2⟩)]
            · rw [if_neg q]
      · rename_i q1
        rw [if_neg q1]
    · refine ⟨-1, c, r, hc, ?_, H⟩
      simp only [ff_X12_ordered, e3, e4, Option.bind_some, iS, wi_ite, show ((1 : Int32) = 0) = False from by decide, if_false]
      by_cases q : 0 ≤ f.toInt ∧ f.toInt ≤ (c.1 146 0).toInt - 1
      · rw [if_pos q, if_neg (fun q2 => g1 ⟨q.1, q.2, q2.1, q2.2⟩)]
      · rw [if_neg q]
  obtain ⟨f1, f2, f3, f4⟩ := g1
  simp only [ff_X11_ordered, ff_X12_ordered, m_has9, iS, Option.bind_some, wi_ite, if_pos (show 0 ≤ f.toInt ∧ f.toInt ≤ (c.1 146 0).toInt - 1 from ⟨f1, f2⟩), if_pos (show 0 ≤ t.toInt ∧ t.toInt ≤ (c.1 146 0).toInt - 1 from ⟨f3, f4⟩)]
  rcases plan_two H kind digits with ⟨o, ho, c', r', e1, e2, e3⟩ | ⟨c', r5, r', b, s, sp, lk, ln, mo, z, bz, e1, e2, e3, e4, e5, e6, rfl, e7, e8, e9, e10, e11, e12⟩
  · have hn : ¬ 0 ≤ o := fun q => by
      rw [Int32.le_iff_toInt_le] at q
      rw [Int32.lt_iff_toInt_lt] at ho
      omega
    refine ⟨o, c', r', ?_, ?_, e2⟩
    · simp only [e1, Option.bind_some, if_neg hn]
    · rw [m_in] at e3 ⊢
      simp only [Option.bind_some] at e3 ⊢
      by_cases q1 : wi kind.toInt64.toInt (0 : Int64).toInt (3 : Int64).toInt = 0
      · rw [if_pos q1] at e3 ⊢
        exact e3
      · rw [if_neg q1] at e3 ⊢
        cases hd : ff_X12_areDigits r digits with
        | none => rw [hd] at e3; cases e3
        | some a =>
          rw [hd] at e3
          simp only [Option.bind_some] at e3 ⊢
          by_cases q2 : a = 0
          · rw [if_pos q2] at e3 ⊢
            exact e3
          · rw [if_neg q2] at e3 ⊢
            cases hm : ff_X12_layMore r kind digits with
            | none => rw [hm] at e3; cases e3
            | some w =>
              rw [hm] at e3
              simp only [Option.bind_some] at e3 ⊢
              by_cases q3 : w.1 = 0
              · rw [if_pos q3] at e3 ⊢
                exact e3
              · rw [if_neg q3] at e3
                cases e3
  · obtain ⟨f, hf, rfl⟩ := to_nI (n := 4) f1 (by omega) (by decide)
    obtain ⟨t, ht, rfl⟩ := to_nI (n := 4) f3 (by omega) (by decide)
    have e44 : (4 : Int32) * nI f + nI t = nI (4 * f + t) := by rw [show (4 : Int32) = nI 4 from rfl, pk_mul, nI_add]
    obtain ⟨P, hP⟩ : ∃ P, P = ko (pq sp lk) 16 := ⟨_, rfl⟩
    rw [← hP] at e8 e9 e10
    have hL := lp_count (f := fun (zs : Int32 × Int32) => ff_X12_ordered_B62 (nI f) (nI t) r' zs.1 zs.2) (fun i x => x = (nI (if pq sp lk (4 * f + t) = true ∧ ko (pq sp lk) (4 * f + t) < i then bz (ko (pq sp lk) (4 * f + t)) else 0), nI i)) (fun a => a = nI (emb (pq sp lk) bz (4 * f + t))) P ?hs ?he vv_F 0 ((0 : Int32), (0 : Int32)) (by rw [if_neg (fun q => Nat.not_lt_zero _ q.2)]; rfl) (Nat.zero_le _) (vv_F_lt (by omega))
    case hs =>
      rintro i x hi rfl
      left
      obtain ⟨a1, a2, a3⟩ := e9.2.2.1 i hi
      obtain ⟨l1, l2, l3⟩ := ln_of e11 (by rw [← hP]; exact hi)
      simp (disch := omega) only [ff_X12_ordered_B62, e9.2.1, if_neg (nI_nle' hi (by omega)), ck_lit, nI_clamp, a1, a2, e10 i hi, nI_eq, vv_let, nI_1]
      by_cases q : ln i = 4 * f + t
      · rw [if_pos (by omega), if_pos (by omega)]
        rw [q] at l2 l3
        rw [if_pos ⟨l2, by omega⟩, l3]
        exact ⟨_, rfl, rfl⟩
      · have nk : pq sp lk (4 * f + t) = true → ko (pq sp lk) (4 * f + t) ≠ i := fun w1 w2 => by
          have := e11 _ (by omega) w1
          rw [w2] at this
          exact q this
        have eq : (if pq sp lk (4 * f + t) = true ∧ ko (pq sp lk) (4 * f + t) < i + 1 then bz (ko (pq sp lk) (4 * f + t)) else 0) = (if pq sp lk (4 * f + t) = true ∧ ko (pq sp lk) (4 * f + t) < i then bz (ko (pq sp lk) (4 * f + t)) else 0) := by
          by_cases w : pq sp lk (4 * f + t) = true ∧ ko (pq sp lk) (4 * f + t) < i
          · rw [if_pos w, if_pos ⟨w.1, by omega⟩]
          · rw [if_neg w, if_neg (fun w2 => w ⟨w2.1, by have := nk w2.1; omega⟩)]
        rw [eq]
        by_cases q2 : ln i / 4 = f
        · rw [if_pos q2, if_neg (by omega)]
          exact ⟨_, rfl, rfl⟩
        · rw [if_neg q2]
          exact ⟨_, rfl, rfl⟩
    case he =>
      rintro x rfl
      simp only [ff_X12_ordered_B62, e9.2.1, if_pos (nI_le (Nat.le_refl P) (show P < 2 ^ 31 by omega))]
      refine ⟨_, rfl, ?_⟩
      congr 1
      unfold emb
      by_cases w : pq sp lk (4 * f + t) = true
      · rw [if_pos w, if_pos ⟨w, by rw [hP]; exact ko_lt w (by omega)⟩]
      · rw [if_neg w, if_neg (fun q => w q.1)]
    obtain ⟨a, e13, rfl⟩ := hL
    refine ⟨nI (emb (pq sp lk) bz (4 * f + t)), c', r', ?_, ?_, e2⟩
    · simp (disch := omega) only [e1, Option.bind_some, show (0 : Int32) ≤ 0 from by decide, if_true, ff_X9_movedBetween, ff_X9_laneOf, e44, ck_lit, nI_clamp, e12]
    · simp only [e3, e4, e5, e6, Option.bind_some, show ((1 : Int32) = 0) = False from by decide, if_false, e13]
