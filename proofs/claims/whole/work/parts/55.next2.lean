/-- the token in the reference's words -/
def tm (k : Nat) : Int32 := if k = 0 then 0 else if k = 2 then 2 else if k ≤ 6 then 3 else 1
def vtb (k : Nat) : Nat := ([0, 0, 0, 60, 61, 62, 59, 6, 0, 1, 2, 7, 8, 3, 4, 5] : List Nat).getD k 0
def vm (k v : Nat) : Int32 := if k = 2 then nI v else nI (vtb k)
theorem vtb_pm : ∀ n, n < 9 → vtb (7 + pm n) = n := by decide
/-- the reference has read the token k -/
def cur (r : vv_H) (st tp tk tv : Nat → Nat) (k : Nat) : Prop := (tk k ≠ 1 ∧ r.1 0 19 = 0 ∧ r.1 0 22 = nI (tp k) ∧ r.1 0 23 = tm (tk k) ∧ r.1 0 24 = vm (tk k) (tv k) ∧ (tk k ≠ 0 → r.1 0 21 = nI (st (k + 1)))) ∨ (tk k = 1 ∧ r.1 0 19 = 1 ∧ r.1 0 20 = nI (tp k))
theorem fails_0 {r : vv_H} {p : Int32} (h : r.1 0 19 = 0) (hp : r.1 0 22 = p) (e : Int32) : ff_X12_fails r e = some (vv_iu (vv_iu r 0 19 e) 0 20 p) := by
  simp (disch := omega) only [ff_X12_fails, if_pos h, vv_let, vv_iu_nj, hp]
theorem fails_1 {r : vv_H} (h : ¬ r.1 0 19 = 0) (e : Int32) : ff_X12_fails r e = some r := by
  simp only [ff_X12_fails, if_neg h]
theorem inN {x : Nat} (hx : x < 256) {a b : Nat} (ha : a < 256) (hb : b < 256) {A B : Int64} (hA : A.toInt = a) (hB : B.toInt = b) : ff_X12_in (nI x).toInt64 A B = some (if a ≤ x ∧ x ≤ b then 1 else 0) := by
  rw [m_in, Int32.toInt_toInt64, nI_toInt (by omega), hA, hB]
  unfold wi
  by_cases g : a ≤ x ∧ x ≤ b
  · rw [if_pos g, if_pos (by omega)]
  · rw [if_neg g, if_neg (by omega)]
theorem in4 {a b : Nat} {A B : Int64} (hA : A.toInt = a) (hB : B.toInt = b) : ff_X12_in (-4 : Int32).toInt64 A B = some 0 := by
  rw [m_in, Int32.toInt_toInt64, hA, hB]
  unfold wi
  rw [if_neg (fun h => by
    have := h.1
    rw [show (-4 : Int32).toInt = -4 from rfl] at this
    omega)]
theorem m4 {x : Nat} (hx : x < 256) : ¬ nI x = (-4 : Int32) := fun h => by
  have := nI_toInt (show x < 2 ^ 31 by omega)
  rw [h, show (-4 : Int32).toInt = -4 from rfl] at this
  omega
/-- the byte at p in the class lo .. hi, or the end -/
theorem clsAt {r : vv_H} {w : Nat → Nat} {L p : Nat} (h : lxr r w L) (hp : p ≤ L) {a b : Nat} (ha : a < 256) (hb : b < 256) {A B : Int64} (hA : A.toInt = a) (hB : B.toInt = b) : ∃ x, ff_X12_byteAt r (nI p) = some x ∧ ((p < L ∧ x = nI (w p) ∧ ff_X12_in x.toInt64 A B = some (if a ≤ w p ∧ w p ≤ b then 1 else 0)) ∨ (p = L ∧ ff_X12_in x.toInt64 A B = some 0)) := by
  have hL := h.1
  rw [byteAt_r h hp]
  by_cases g : p < L
  · rw [if_pos g]
    exact ⟨_, rfl, Or.inl ⟨g, rfl, inN (h.2.2.1 p (by omega)).1 ha hb hA hB⟩⟩
  · rw [if_neg g]
    exact ⟨_, rfl, Or.inr ⟨by omega, in4 hA hB⟩⟩
theorem next_r {r : vv_H} {w : Nat → Nat} {L n k : Nat} {st tp tk tv : Nat → Nat} (h : lxr r w L) (hx : lex w L n st tp tk tv) (hk : k < n) (h0 : r.1 0 19 = 0) (h1 : r.1 0 21 = nI (st k)) : ∃ r', ff_X12_next r = some r' ∧ frN r r' ∧ cur r' st tp tk tv k := by
  have hL := h.1
  have hkk : (lxk w L st tp tk tv k) ∨ lxe w L st tp tk tv k := by
    by_cases g : k + 1 < n
    · exact Or.inl (hx.2.2.2.1 k g).1
    · have e : k = n - 1 := by omega
      rw [e]
      exact hx.2.2.2.2.elim (fun q => Or.inl q.1) Or.inr
  have hsp : st k ≤ tp k ∧ tp k ≤ L ∧ (∀ j, st k ≤ j → j < tp k → w j = 32) ∧ (tp k < L → w (tp k) ≠ 32) := by
    rcases hkk with q | q
    · exact ⟨q.1, Nat.le_of_lt q.2.2.1, q.2.1, fun _ => q.2.2.2.1⟩
    · exact ⟨q.1, Nat.le_of_eq q.2.2.1, q.2.1, fun h => by have := q.2.2.1; omega⟩
  obtain ⟨p1, p2, p3, p4⟩ := hsp
  obtain ⟨a, ea⟩ : ∃ a, a = tp k := ⟨_, rfl⟩
  -- past the spaces
  have hS := lp_count (f := fun (zs : vv_H) => ff_X12_next_B8 zs) (fun i g => g = vv_iu r 0 21 (nI (st k + i))) (fun g => g = vv_iu r 0 21 (nI a)) (a - st k) ?hs ?he vv_F 0 r (vv_iu_self h1).symm (Nat.zero_le _) (vv_F_lt (by omega))
  case hs =>
    rintro i g hi rfl
    left
    have hg : lxr (vv_iu r 0 21 (nI (st k + i))) w L := lxr_N h (frN_iu (frN_rf r) (by omega))
    have e32 : (nI (w (st k + i)) = (32 : Int32)) := by rw [p3 (st k + i) (by omega) (by omega)]; rfl
    simp only [ff_X12_next_B8, vv_iu_eq, byteAt_r hg (show st k + i ≤ L by omega), if_pos (show st k + i < L by omega), Option.bind_some, if_pos e32, vv_let, nI_1, vv_iu_iu]
    exact ⟨_, rfl, rfl⟩
  case he =>
    rintro g rfl
    rw [show st k + (a - st k) = a by omega]
    have hg : lxr (vv_iu r 0 21 (nI a)) w L := lxr_N h (frN_iu (frN_rf r) (by omega))
    simp only [ff_X12_next_B8, vv_iu_eq, byteAt_r hg (show a ≤ L by omega), Option.bind_some]
    by_cases g : a < L
    · have e32 : ¬ (nI (w a) = (32 : Int32)) := fun q => by
        have := (nI_eq (show w a < 2 ^ 31 by have := (h.2.2.1 a (by omega)).1; omega) (show 32 < 2 ^ 31 by decide)).mp q
        rw [ea] at this g
        exact p4 g this
      rw [if_pos g, if_neg e32]
      exact ⟨_, rfl, rfl⟩
    · rw [if_neg g, if_neg (by decide)]
      exact ⟨_, rfl, rfl⟩
  obtain ⟨g0, e0, rfl⟩ := hS
  have hn0 : r.1 0 19 ≤ 0 := by rw [h0]; decide
  obtain ⟨G, eG⟩ : ∃ G, G = vv_iu (vv_iu (vv_iu r 0 21 (nI a)) 0 22 (nI a)) 0 24 0 := ⟨_, rfl⟩
  have hG1 : frN r G := by rw [eG]; exact frN_iu (frN_iu (frN_iu (frN_rf r) (by omega)) (by omega)) (by omega)
  have hG := lxr_N h hG1
  have h7 : lxr (vv_iu (vv_iu r 0 21 (nI a)) 0 22 (nI a)) w L := lxr_N h (frN_iu (frN_iu (frN_rf r) (by omega)) (by omega))
  have G19 : G.1 0 19 = 0 := by rw [eG]; simp (disch := omega) only [vv_iu_nj]; exact h0
  have G21 : G.1 0 21 = nI a := by rw [eG]; simp (disch := omega) only [vv_iu_nj, vv_iu_eq]
  have G22 : G.1 0 22 = nI a := by rw [eG]; simp (disch := omega) only [vv_iu_nj, vv_iu_eq]
  have G24 : G.1 0 24 = 0 := by rw [eG, vv_iu_eq]
  have e21 : (vv_iu r 0 21 (nI a)).1 0 21 = nI a := vv_iu_eq
  have e22 : (vv_iu (vv_iu r 0 21 (nI a)) 0 22 (nI a)).1 0 21 = nI a := by rw [vv_iu_nj (by omega), vv_iu_eq]
  have bA := byteAt_r h7 (show a ≤ L by omega)
  simp only [ff_X12_next, if_pos hn0, e0, Option.bind_some, vv_let, e21, e22, bA, ← eG]
  rcases hkk with ⟨_, _, q3, q4, q5, q6, q7, q8⟩ | ⟨_, _, q3, q4, q5⟩
  case inr =>
    rw [if_neg (show ¬ a < L by omega), if_pos rfl]
    refine ⟨_, rfl, frN_iu hG1 (by omega), Or.inl ⟨by omega, ?_, ?_, ?_, ?_, fun q => absurd q4 q⟩⟩
    · rw [vv_iu_nj (by omega), G19]
    · rw [vv_iu_nj (by omega), G22, ea]
    · rw [vv_iu_eq, q4]
      rfl
    · rw [vv_iu_nj (by omega), G24, q4, q5]
      rfl
  rw [← ea] at q3 q4 q5
  obtain ⟨b1, b2⟩ := h.2.2.1 a (by omega)
  obtain ⟨rn, cs⟩ := q5
  obtain ⟨r1, r2, r3, r4⟩ := rn
  obtain ⟨q, eq⟩ : ∃ q, q = st (k + 1) := ⟨_, rfl⟩
  rw [← eq] at r1 r2 r3 r4 cs
  simp only [if_pos q3, if_neg (m4 b1), inN b1 (a := 97) (b := 122) (by decide) (by decide) (A := 97) (B := 122) rfl rfl, inN b1 (a := 48) (b := 57) (by decide) (by decide) (A := 48) (B := 57) rfl rfl, Option.bind_some]
  -- a heap with the token read
  have fin : ∀ (t v x : Int32) (g : vv_H), frN r g → g.1 0 19 = 0 → g.1 0 22 = nI a → g.1 0 23 = tm (tk k) → g.1 0 24 = vm (tk k) (tv k) → g.1 0 21 = nI q → tk k ≠ 1 → frN r g ∧ cur g st tp tk tv k := fun t v x g a1 a2 a3 a4 a5 a6 a7 => ⟨a1, Or.inl ⟨a7, a2, by rw [a3, ea], a4, a5, fun _ => by rw [a6, eq]⟩⟩
  have bad : ∀ (g : vv_H), frN r g → g.1 0 19 = 0 → g.1 0 22 = nI a → tk k = 1 → ∃ r', ff_X12_fails g 1 = some r' ∧ frN r r' ∧ cur r' st tp tk tv k := fun g a1 a2 a3 a4 => ⟨_, fails_0 a2 a3 1, frN_iu (frN_iu a1 (by omega)) (by omega), Or.inr ⟨a4, by rw [vv_iu_nj (by omega), vv_iu_eq], by rw [vv_iu_eq, ea]⟩⟩
  rcases cs with ⟨l1, l2, l3⟩ | ⟨l1, l2⟩ | ⟨l1, l2, l3, l4⟩
  · -- letters
    rw [if_pos (show 97 ≤ w a ∧ w a ≤ 122 from l1), if_neg (show ¬ ((1 : Int32) = 0) from by decide)]
    have hL2 := lp_count (f := fun (zs : vv_H) => ff_X12_next_B84 zs) (fun i g => g = vv_iu G 0 21 (nI (a + i))) (fun g => g = vv_iu G 0 21 (nI q)) (q - a) ?hs2 ?he2 vv_F 0 G (vv_iu_self G21).symm (Nat.zero_le _) (vv_F_lt (by omega))
    case hs2 =>
      rintro i g hi rfl
      left
      have hg : lxr (vv_iu G 0 21 (nI (a + i))) w L := lxr_N hG (frN_iu (frN_rf G) (by omega))
      obtain ⟨x, x1, x2⟩ := clsAt hg (show a + i ≤ L by omega) (a := 97) (b := 122) (by decide) (by decide) (A := 97) (B := 122) rfl rfl
      have hlet : 97 ≤ w (a + i) ∧ w (a + i) ≤ 122 := by
        rcases Nat.eq_zero_or_pos i with rfl | hi0
        · exact l1
        · rcases r3 (a + i) (by omega) (by omega) with c | c
          · exact c.2
          · have := c.1.2
            have := l1.1
            omega
      rcases x2 with ⟨x2, x3, x4⟩ | ⟨x2, x3⟩
      · simp only [ff_X12_next_B84, vv_iu_eq, x1, Option.bind_some, x4, if_pos hlet, show ((1 : Int32) = 0) = False from by decide, if_false, vv_let, nI_1, vv_iu_iu]
        exact ⟨_, rfl, rfl⟩
      · omega
    case he2 =>
      rintro g rfl
      rw [show a + (q - a) = q by omega]
      have hg : lxr (vv_iu G 0 21 (nI q)) w L := lxr_N hG (frN_iu (frN_rf G) (by omega))
      obtain ⟨x, x1, x2⟩ := clsAt hg r2 (a := 97) (b := 122) (by decide) (by decide) (A := 97) (B := 122) rfl rfl
      rcases x2 with ⟨x2, x3, x4⟩ | ⟨x2, x3⟩
      · have : ¬ (97 ≤ w q ∧ w q ≤ 122) := fun c => r4 x2 (Or.inl ⟨l1, c⟩)
        simp only [ff_X12_next_B84, vv_iu_eq, x1, Option.bind_some, x4, if_neg this, if_true]
        exact ⟨_, rfl, rfl⟩
      · simp only [ff_X12_next_B84, vv_iu_eq, x1, Option.bind_some, x3, if_true]
        exact ⟨_, rfl, rfl⟩
    obtain ⟨g1, e1, rfl⟩ := hL2
    have hg : lxr (vv_iu (vv_iu G 0 21 (nI q)) 0 23 1) w L := lxr_N hG (frN_iu (frN_iu (frN_rf G) (by omega)) (by omega))
    obtain ⟨z, z1, z2⟩ := nameAt_r hg r1 r2
    simp (disch := omega) only [e1, Option.bind_some, vv_iu_nj, vv_iu_eq, G22, z1]
    have ff1 : frN r (vv_iu (vv_iu (vv_iu G 0 21 (nI q)) 0 23 1) 0 24 z) := frN_iu (frN_iu (frN_iu hG1 (by omega)) (by omega)) (by omega)
    rcases z2 with ⟨n, hn, rfl, z2⟩ | ⟨rfl, z2⟩
    · rw [if_neg (m4 (show n < 256 by omega))]
      have ek : tk k = 7 + pm n := by
        rcases l2 with ⟨i, hi, i1, i2⟩ | ⟨_, i2⟩
        · rw [i2, spl_one hi (pm_9 n hn) i1 z2]
        · exact absurd z2 (i2 _ (pm_9 n hn))
      have hp9 := pm_9 n hn
      refine ⟨_, rfl, fin 0 0 0 _ ff1 ?_ ?_ ?_ ?_ ?_ (by omega)⟩
      · simp (disch := omega) only [vv_iu_nj, G19]
      · simp (disch := omega) only [vv_iu_nj, G22]
      · rw [vv_iu_nj (by omega), vv_iu_eq, ek]
        unfold tm
        rw [if_neg (by omega), if_neg (by omega), if_neg (by omega)]
      · rw [vv_iu_eq, ek]
        unfold vm
        rw [if_neg (by omega), vtb_pm n hn]
      · simp (disch := omega) only [vv_iu_nj, vv_iu_eq]
    · rw [if_pos rfl]
      have ek : tk k = 1 := by
        rcases l2 with ⟨i, hi, i1, i2⟩ | ⟨i1, _⟩
        · exact absurd i1 (z2 i hi)
        · exact i1
      obtain ⟨r', y1, y2⟩ := bad _ ff1 (by simp (disch := omega) only [vv_iu_nj, G19]) (by simp (disch := omega) only [vv_iu_nj, G22]) ek
      exact ⟨r', by rw [y1]; rfl, y2⟩
  · -- figures
    have nl : ¬ (97 ≤ w a ∧ w a ≤ 122) := fun c => by have := l1.2; omega
    have hfg : ∀ j, a ≤ j → j < q → FIG (w j) := run_fig ⟨r1, r2, r3, r4⟩ l1
    rw [if_neg nl, if_pos rfl, if_pos (show 48 ≤ w a ∧ w a ≤ 57 from l1), if_neg (show ¬ ((1 : Int32) = 0) from by decide)]
    have hL2 := lp_count (f := fun (zs : vv_H) => ff_X12_next_B170 zs) (fun i g => ∃ v : Int32, g = vv_iu (vv_iu G 0 24 v) 0 21 (nI (a + i)) ∧ (i ≤ 4 → v = nI (dv w a i))) (fun g => ∃ v : Int32, g = vv_iu (vv_iu G 0 24 v) 0 21 (nI q) ∧ (q - a ≤ 4 → v = nI (dv w a (q - a)))) (q - a) ?hs2 ?he2 vv_F 0 G ⟨0, by rw [vv_iu_self G24]; exact (vv_iu_self G21).symm, fun _ => rfl⟩ (Nat.zero_le _) (vv_F_lt (by omega))
    case hs2 =>
      rintro i g hi ⟨v, rfl, hv⟩
      left
      have hg : lxr (vv_iu (vv_iu G 0 24 v) 0 21 (nI (a + i))) w L := lxr_N hG (frN_iu (frN_iu (frN_rf G) (by omega)) (by omega))
      obtain ⟨x, x1, x2⟩ := clsAt hg (show a + i ≤ L by omega) (a := 48) (b := 57) (by decide) (by decide) (A := 48) (B := 57) rfl rfl
      have hf := hfg (a + i) (by omega) (by omega)
      have e4 : ((4 : Int32) ≤ nI i) ↔ 4 ≤ i := nI_leI (show 4 < 2 ^ 31 by decide) (show i < 2 ^ 31 by omega)
      have es : nI (a + i) - nI a = nI i := by rw [pk_sub (by omega)]; congr 1; omega
      have upd : ∀ v' : Int32, vv_iu (vv_iu (vv_iu (vv_iu G 0 24 v) 0 21 (nI (a + i))) 0 24 v') 0 21 (nI (a + (i + 1))) = vv_iu (vv_iu G 0 24 v') 0 21 (nI (a + (i + 1))) := fun v' => by
        apply Prod.ext
        · funext k j
          rw [vv_iu_e, vv_iu_e, vv_iu_e, vv_iu_e, vv_iu_e, vv_iu_e]
          by_cases d1 : k = 0 ∧ j = 21
          · rw [if_pos d1, if_pos d1]
          · rw [if_neg d1, if_neg d1]
            by_cases d2 : k = 0 ∧ j = 24
            · rw [if_pos d2, if_pos d2, if_neg d1]
            · rw [if_neg d2, if_neg d2, if_neg d1, if_neg d2]
        · rfl
      rcases x2 with ⟨x2, x3, x4⟩ | ⟨x2, x3⟩
      · rw [x3] at x1 x4
        simp (disch := omega) only [ff_X12_next_B170, vv_iu_eq, vv_iu_nj, x1, Option.bind_some, x4, if_pos (show 48 ≤ w (a + i) ∧ w (a + i) ≤ 57 from hf), show ((1 : Int32) = 0) = False from by decide, if_false, G22, es, e4, ff_X12_next_J231, vv_let, nI_1]
        by_cases g : 4 ≤ i
        · rw [if_pos g]
          exact ⟨_, rfl, v, upd v, fun h => by omega⟩
        · rw [if_neg g, hv (by omega), dv_up hf]
          exact ⟨_, rfl, _, by rw [← hv (by omega)]; exact upd _, fun _ => rfl⟩
      · omega
    case he2 =>
      rintro g ⟨v, rfl, hv⟩
      rw [show a + (q - a) = q by omega]
      have hg : lxr (vv_iu (vv_iu G 0 24 v) 0 21 (nI q)) w L := lxr_N hG (frN_iu (frN_iu (frN_rf G) (by omega)) (by omega))
      obtain ⟨x, x1, x2⟩ := clsAt hg r2 (a := 48) (b := 57) (by decide) (by decide) (A := 48) (B := 57) rfl rfl
      rcases x2 with ⟨x2, x3, x4⟩ | ⟨x2, x3⟩
      · have : ¬ (48 ≤ w q ∧ w q ≤ 57) := fun c => r4 x2 (Or.inr ⟨l1, c⟩)
        simp only [ff_X12_next_B170, vv_iu_eq, x1, Option.bind_some, x4, if_neg this, if_true]
        exact ⟨_, rfl, v, rfl, hv⟩
      · simp only [ff_X12_next_B170, vv_iu_eq, x1, Option.bind_some, x3, if_true]
        exact ⟨_, rfl, v, rfl, hv⟩
    obtain ⟨g1, e1, v, rfl, hv⟩ := hL2
    have e4 : (nI (q - a) ≤ (4 : Int32)) ↔ q - a ≤ 4 := nI_leI (show q - a < 2 ^ 31 by omega) (show 4 < 2 ^ 31 by decide)
    simp (disch := omega) only [e1, Option.bind_some, vv_iu_nj, vv_iu_eq, G22, pk_sub (Nat.le_of_lt r1), e4]
    have ff1 : frN r (vv_iu (vv_iu (vv_iu G 0 24 v) 0 21 (nI q)) 0 23 2) := frN_iu (frN_iu (frN_iu hG1 (by omega)) (by omega)) (by omega)
    rcases l2 with ⟨k1, k2, k3⟩ | ⟨k1, k2, k3⟩
    · rw [if_pos k1]
      refine ⟨_, rfl, fin 0 0 0 _ ff1 ?_ ?_ ?_ ?_ ?_ (by omega)⟩
      · simp (disch := omega) only [vv_iu_nj, G19]
      · simp (disch := omega) only [vv_iu_nj, G22]
      · rw [vv_iu_eq, k2]
        rfl
      · simp (disch := omega) only [vv_iu_nj, vv_iu_eq]
        rw [hv k1, k2, k3]
        rfl
      · simp (disch := omega) only [vv_iu_nj, vv_iu_eq]
    · rw [if_neg (by omega)]
      obtain ⟨r', y1, y2⟩ := bad _ ff1 (by simp (disch := omega) only [vv_iu_nj, G19]) (by simp (disch := omega) only [vv_iu_nj, G22]) k2
      exact ⟨r', by rw [y1]; rfl, y2⟩
  · -- signs
    rw [if_neg (show ¬ (97 ≤ w a ∧ w a ≤ 122) from l1), if_pos rfl, if_neg (show ¬ (48 ≤ w a ∧ w a ≤ 57) from l2), if_pos rfl]
    have hq1 : q = a + 1 := by
      rcases Nat.lt_or_ge (a + 1) q with c | c
      · rcases r3 (a + 1) (by omega) c with d | d
        · exact absurd d.1 l1
        · exact absurd d.1 l2
      · omega
    have ff1 : frN r (vv_iu (vv_iu (vv_iu G 0 23 3) 0 24 (nI (w a))) 0 21 (nI (a + 1))) := frN_iu (frN_iu (frN_iu hG1 (by omega)) (by omega)) (by omega)
    have E : ∀ y : Nat, y < 256 → ((nI (w a) = nI y) ↔ w a = y) := fun y hy => nI_eq (by omega) (by omega)
    have e60 : (nI (w a) = (60 : Int32)) ↔ w a = 60 := E 60 (by decide)
    have e61 : (nI (w a) = (61 : Int32)) ↔ w a = 61 := E 61 (by decide)
    have e62 : (nI (w a) = (62 : Int32)) ↔ w a = 62 := E 62 (by decide)
    have e59 : (nI (w a) = (59 : Int32)) ↔ w a = 59 := E 59 (by decide)
    have good : ∀ kk : Nat, tk k = kk → kk ≠ 1 → tm kk = 3 → vm kk 0 = nI (w a) → frN r (vv_iu (vv_iu (vv_iu G 0 23 3) 0 24 (nI (w a))) 0 21 (nI (a + 1))) ∧ cur (vv_iu (vv_iu (vv_iu G 0 23 3) 0 24 (nI (w a))) 0 21 (nI (a + 1))) st tp tk tv k := fun kk c1 c2 c3 c4 => by
      refine fin 0 0 0 _ ff1 ?_ ?_ ?_ ?_ ?_ (by omega)
      · simp (disch := omega) only [vv_iu_nj, G19]
      · simp (disch := omega) only [vv_iu_nj, G22]
      · simp (disch := omega) only [vv_iu_nj, vv_iu_eq]
        rw [c1, c3]
      · simp (disch := omega) only [vv_iu_nj, vv_iu_eq]
        rw [c1, l3, c4]
      · rw [vv_iu_eq, hq1]
    simp (disch := omega) only [vv_iu_nj, G21, nI_1, e60, e61, e62, e59]
    rcases l4 with ⟨d, d2⟩ | ⟨d, d2⟩ | ⟨d, d2⟩ | ⟨d, d2⟩ | ⟨d3, d4, d5, d6, d2⟩
    · rw [if_pos d]
      exact ⟨_, rfl, good 3 d2 (by decide) rfl (by rw [d]; rfl)⟩
    · rw [if_neg (by omega), if_neg (by omega), if_pos d]
      exact ⟨_, rfl, good 4 d2 (by decide) rfl (by rw [d]; rfl)⟩
    · rw [if_neg (by omega), if_pos d]
      exact ⟨_, rfl, good 5 d2 (by decide) rfl (by rw [d]; rfl)⟩
    · rw [if_neg (by omega), if_neg (by omega), if_neg (by omega), if_pos d]
      exact ⟨_, rfl, good 6 d2 (by decide) rfl (by rw [d]; rfl)⟩
    · rw [if_neg d3, if_neg d5, if_neg d4, if_neg d6]
      obtain ⟨r', y1, y2⟩ := bad _ ff1 (by simp (disch := omega) only [vv_iu_nj, G19]) (by simp (disch := omega) only [vv_iu_nj, G22]) d2
      exact ⟨r', by rw [y1]; rfl, y2⟩
