theorem dJ0_length_8abf5_0 : decode cJ0_length_8abf5 0 = .ok (.aload_n 0, 1) := by decide +kernel
theorem dJ0_length_8abf5_1 : decode cJ0_length_8abf5 1 = .ok (.getfield 9, 3) := by decide +kernel
theorem dJ0_length_8abf5_4 : decode cJ0_length_8abf5 4 = .ok (.arraylength, 1) := by decide +kernel
theorem dJ0_length_8abf5_5 : decode cJ0_length_8abf5 5 = .ok (.aload_n 0, 1) := by decide +kernel
theorem dJ0_length_8abf5_6 : decode cJ0_length_8abf5 6 = .ok (.invokevirtual 335, 3) := by decide +kernel
theorem dJ0_length_8abf5_9 : decode cJ0_length_8abf5 9 = .ok (.ishr, 1) := by decide +kernel
theorem dJ0_length_8abf5_10 : decode cJ0_length_8abf5 10 = .ok (.ireturn, 1) := by decide +kernel
theorem dJ0_coder_7d493_0 : decode cJ0_coder_7d493 0 = .ok (.getstatic 38, 3) := by decide +kernel
theorem dJ0_coder_7d493_3 : decode cJ0_coder_7d493 3 = .ok (.ifCond .eq 10, 3) := by decide +kernel
theorem dJ0_coder_7d493_6 : decode cJ0_coder_7d493 6 = .ok (.aload_n 0, 1) := by decide +kernel
theorem dJ0_coder_7d493_7 : decode cJ0_coder_7d493 7 = .ok (.getfield 15, 3) := by decide +kernel
theorem dJ0_coder_7d493_10 : decode cJ0_coder_7d493 10 = .ok (.goto 4, 3) := by decide +kernel
theorem dJ0_coder_7d493_13 : decode cJ0_coder_7d493 13 = .ok (.iconst 1, 1) := by decide +kernel
theorem dJ0_coder_7d493_14 : decode cJ0_coder_7d493 14 = .ok (.ireturn, 1) := by decide +kernel
theorem dJ0_isLatin1_aae02_0 : decode cJ0_isLatin1_aae02 0 = .ok (.getstatic 38, 3) := by decide +kernel
theorem dJ0_isLatin1_aae02_3 : decode cJ0_isLatin1_aae02 3 = .ok (.ifCond .eq 14, 3) := by decide +kernel
theorem dJ0_isLatin1_aae02_6 : decode cJ0_isLatin1_aae02 6 = .ok (.aload_n 0, 1) := by decide +kernel
theorem dJ0_isLatin1_aae02_7 : decode cJ0_isLatin1_aae02 7 = .ok (.getfield 15, 3) := by decide +kernel
theorem dJ0_isLatin1_aae02_10 : decode cJ0_isLatin1_aae02 10 = .ok (.ifCond .ne 7, 3) := by decide +kernel
theorem dJ0_isLatin1_aae02_13 : decode cJ0_isLatin1_aae02 13 = .ok (.iconst 1, 1) := by decide +kernel
theorem dJ0_isLatin1_aae02_14 : decode cJ0_isLatin1_aae02 14 = .ok (.goto 4, 3) := by decide +kernel
theorem dJ0_isLatin1_aae02_17 : decode cJ0_isLatin1_aae02 17 = .ok (.iconst 0, 1) := by decide +kernel
theorem dJ0_isLatin1_aae02_18 : decode cJ0_isLatin1_aae02 18 = .ok (.ireturn, 1) := by decide +kernel
theorem dJ0_charAt_5068e_0 : decode cJ0_charAt_5068e 0 = .ok (.aload_n 0, 1) := by decide +kernel
theorem dJ0_charAt_5068e_1 : decode cJ0_charAt_5068e 1 = .ok (.invokevirtual 492, 3) := by decide +kernel
theorem dJ0_charAt_5068e_4 : decode cJ0_charAt_5068e 4 = .ok (.ifCond .eq 12, 3) := by decide +kernel
theorem dJ0_charAt_5068e_7 : decode cJ0_charAt_5068e 7 = .ok (.aload_n 0, 1) := by decide +kernel
theorem dJ0_charAt_5068e_8 : decode cJ0_charAt_5068e 8 = .ok (.getfield 9, 3) := by decide +kernel
theorem dJ0_charAt_5068e_11 : decode cJ0_charAt_5068e 11 = .ok (.iload_n 1, 1) := by decide +kernel
theorem dJ0_charAt_5068e_12 : decode cJ0_charAt_5068e 12 = .ok (.invokestatic 495, 3) := by decide +kernel
theorem dJ0_charAt_5068e_15 : decode cJ0_charAt_5068e 15 = .ok (.ireturn, 1) := by decide +kernel
theorem dJ0_charAt_5068e_16 : decode cJ0_charAt_5068e 16 = .ok (.aload_n 0, 1) := by decide +kernel
theorem dJ0_charAt_5068e_17 : decode cJ0_charAt_5068e 17 = .ok (.getfield 9, 3) := by decide +kernel
theorem dJ0_charAt_5068e_20 : decode cJ0_charAt_5068e 20 = .ok (.iload_n 1, 1) := by decide +kernel
theorem dJ0_charAt_5068e_21 : decode cJ0_charAt_5068e 21 = .ok (.invokestatic 498, 3) := by decide +kernel
theorem dJ0_charAt_5068e_24 : decode cJ0_charAt_5068e 24 = .ok (.ireturn, 1) := by decide +kernel
theorem dJ1_charAt_3b067_0 : decode cJ1_charAt_3b067 0 = .ok (.iload_n 1, 1) := by decide +kernel
theorem dJ1_charAt_3b067_1 : decode cJ1_charAt_3b067 1 = .ok (.aload_n 0, 1) := by decide +kernel
theorem dJ1_charAt_3b067_2 : decode cJ1_charAt_3b067 2 = .ok (.arraylength, 1) := by decide +kernel
theorem dJ1_charAt_3b067_3 : decode cJ1_charAt_3b067 3 = .ok (.invokestatic 9, 3) := by decide +kernel
theorem dJ1_charAt_3b067_6 : decode cJ1_charAt_3b067 6 = .ok (.aload_n 0, 1) := by decide +kernel
theorem dJ1_charAt_3b067_7 : decode cJ1_charAt_3b067 7 = .ok (.iload_n 1, 1) := by decide +kernel
theorem dJ1_charAt_3b067_8 : decode cJ1_charAt_3b067 8 = .ok (.baload, 1) := by decide +kernel
theorem dJ1_charAt_3b067_9 : decode cJ1_charAt_3b067 9 = .ok (.sipush 255, 3) := by decide +kernel
theorem dJ1_charAt_3b067_12 : decode cJ1_charAt_3b067 12 = .ok (.iand, 1) := by decide +kernel
theorem dJ1_charAt_3b067_13 : decode cJ1_charAt_3b067 13 = .ok (.i2c, 1) := by decide +kernel
theorem dJ1_charAt_3b067_14 : decode cJ1_charAt_3b067 14 = .ok (.ireturn, 1) := by decide +kernel
theorem dJ0_checkIndex_df160_0 : decode cJ0_checkIndex_df160 0 = .ok (.iload_n 0, 1) := by decide +kernel
theorem dJ0_checkIndex_df160_1 : decode cJ0_checkIndex_df160 1 = .ok (.iload_n 1, 1) := by decide +kernel
theorem dJ0_checkIndex_df160_2 : decode cJ0_checkIndex_df160 2 = .ok (.getstatic 1053, 3) := by decide +kernel
theorem dJ0_checkIndex_df160_5 : decode cJ0_checkIndex_df160 5 = .ok (.invokestatic 1059, 3) := by decide +kernel
theorem dJ0_checkIndex_df160_8 : decode cJ0_checkIndex_df160 8 = .ok (.pop, 1) := by decide +kernel
theorem dJ0_checkIndex_df160_9 : decode cJ0_checkIndex_df160 9 = .ok (.return_, 1) := by decide +kernel
theorem dJ3_checkIndex_8e157_0 : decode cJ3_checkIndex_8e157 0 = .ok (.iload_n 0, 1) := by decide +kernel
theorem dJ3_checkIndex_8e157_1 : decode cJ3_checkIndex_8e157 1 = .ok (.ifCond .lt 8, 3) := by decide +kernel
theorem dJ3_checkIndex_8e157_4 : decode cJ3_checkIndex_8e157 4 = .ok (.iload_n 0, 1) := by decide +kernel
theorem dJ3_checkIndex_8e157_5 : decode cJ3_checkIndex_8e157 5 = .ok (.iload_n 1, 1) := by decide +kernel
theorem dJ3_checkIndex_8e157_6 : decode cJ3_checkIndex_8e157 6 = .ok (.if_icmp .lt 10, 3) := by decide +kernel
theorem dJ3_checkIndex_8e157_9 : decode cJ3_checkIndex_8e157 9 = .ok (.aload_n 2, 1) := by decide +kernel
theorem dJ3_checkIndex_8e157_10 : decode cJ3_checkIndex_8e157 10 = .ok (.iload_n 0, 1) := by decide +kernel
theorem dJ3_checkIndex_8e157_11 : decode cJ3_checkIndex_8e157 11 = .ok (.iload_n 1, 1) := by decide +kernel
theorem dJ3_checkIndex_8e157_12 : decode cJ3_checkIndex_8e157 12 = .ok (.invokestatic 95, 3) := by decide +kernel
theorem dJ3_checkIndex_8e157_15 : decode cJ3_checkIndex_8e157 15 = .ok (.athrow, 1) := by decide +kernel
theorem dJ3_checkIndex_8e157_16 : decode cJ3_checkIndex_8e157 16 = .ok (.iload_n 0, 1) := by decide +kernel
theorem dJ3_checkIndex_8e157_17 : decode cJ3_checkIndex_8e157 17 = .ok (.ireturn, 1) := by decide +kernel
def jd_ws : List Cond := [.fieldLink RJ0 38 "java/lang/String" "COMPACT_STRINGS" "Z", .fieldLink RJ0 15 "java/lang/String" "coder" "B", .fieldLink RJ0 9 "java/lang/String" "value" "[B", .fieldLink RJ0 1053 "jdk/internal/util/Preconditions" "SIOOBE_FORMATTER" "Ljava/util/function/BiFunction;",
  .methodLink RX10 79 yJ0_length_8abf5, .methodLink RX10 84 yJ0_charAt_5068e, .methodLink RJ0 335 yJ0_coder_7d493, .methodLink RJ0 492 yJ0_isLatin1_aae02, .methodLink RJ0 495 yJ1_charAt_3b067, .methodLink RJ1 9 yJ0_checkIndex_df160, .methodLink RJ0 1059 yJ3_checkIndex_8e157,
  .initialized RJ0, .initialized RJ1, .initialized RJ3]
theorem jd_in : ∀ w ∈ jd_ws, w ∈ vv_Tg := by decide +kernel
theorem jd_at {w : Cond} (i : Nat) (h : jd_ws[i]? = some w) : w ∈ vv_Tg := jd_in w (List.mem_of_getElem? h)
def jd_rm (d : Nat) : Room := { frames := d, cells := 0, slots := 0, locals := 64 * d }
abbrev mm_coder : vv_M := (cJ0_coder_7d493, 1, RJ0, some .byte, jd_rm 0)
abbrev mm_lat : vv_M := (cJ0_isLatin1_aae02, 1, RJ0, some .boolean, jd_rm 0)
abbrev mm_length : vv_M := (cJ0_length_8abf5, 1, RJ0, some .int, jd_rm 1)
abbrev mm_ci3 : vv_M := (cJ3_checkIndex_8e157, 3, RJ3, some .int, jd_rm 0)
abbrev mm_ci0 : vv_M := (cJ0_checkIndex_df160, 2, RJ0, none, jd_rm 1)
abbrev mm_ch1 : vv_M := (cJ1_charAt_3b067, 2, RJ1, some .char, jd_rm 2)
abbrev mm_ch0 : vv_M := (cJ0_charAt_5068e, 2, RJ0, some .char, jd_rm 3)
def jd_wm : List Cond := [.code yJ0_coder_7d493 cJ0_coder_7d493 1 (some .byte), .code yJ0_isLatin1_aae02 cJ0_isLatin1_aae02 1 (some .boolean), .code yJ0_length_8abf5 cJ0_length_8abf5 1 (some .int), .code yJ3_checkIndex_8e157 cJ3_checkIndex_8e157 3 (some .int), .code yJ0_checkIndex_df160 cJ0_checkIndex_df160 2 none, .code yJ1_charAt_3b067 cJ1_charAt_3b067 2 (some .char), .code yJ0_charAt_5068e cJ0_charAt_5068e 2 (some .char),
  .instanceMethod yJ0_coder_7d493, .instanceMethod yJ0_isLatin1_aae02, .instanceMethod yJ0_length_8abf5, .instanceMethod yJ0_charAt_5068e, .static yJ3_checkIndex_8e157, .static yJ0_checkIndex_df160, .static yJ1_charAt_3b067,
  .selects RJ0 yJ0_coder_7d493 yJ0_coder_7d493, .selects RJ0 yJ0_isLatin1_aae02 yJ0_isLatin1_aae02, .selects RJ0 yJ0_length_8abf5 yJ0_length_8abf5, .selects RJ0 yJ0_charAt_5068e yJ0_charAt_5068e]
theorem jd_im : ∀ w ∈ jd_wm, w ∈ vv_Tg := by decide +kernel
theorem jd_am {w : Cond} (i : Nat) (h : jd_wm[i]? = some w) : w ∈ vv_Tg := jd_im w (List.mem_of_getElem? h)
theorem vy_coder : vv_cyV yJ0_coder_7d493 mm_coder 0 := ⟨⟨jd_at 11 rfl, jd_am 0 rfl, ⟨by decide +kernel, by decide +kernel, by decide +kernel⟩, rfl, rfl⟩, jd_am 7 rfl, jd_am 14 rfl⟩
theorem vy_lat : vv_cyV yJ0_isLatin1_aae02 mm_lat 0 := ⟨⟨jd_at 11 rfl, jd_am 1 rfl, ⟨by decide +kernel, by decide +kernel, by decide +kernel⟩, rfl, rfl⟩, jd_am 8 rfl, jd_am 15 rfl⟩
theorem vy_length : vv_cyV yJ0_length_8abf5 mm_length 0 := ⟨⟨jd_at 11 rfl, jd_am 2 rfl, ⟨by decide +kernel, by decide +kernel, by decide +kernel⟩, rfl, rfl⟩, jd_am 9 rfl, jd_am 16 rfl⟩
theorem vy_ch0 : vv_cyV yJ0_charAt_5068e mm_ch0 1 := ⟨⟨jd_at 11 rfl, jd_am 6 rfl, ⟨by decide +kernel, by decide +kernel, by decide +kernel⟩, rfl, rfl⟩, jd_am 10 rfl, jd_am 17 rfl⟩
theorem vy_ci3 : vv_cyS yJ3_checkIndex_8e157 mm_ci3 3 := ⟨⟨jd_at 13 rfl, jd_am 3 rfl, ⟨by decide +kernel, by decide +kernel, by decide +kernel⟩, rfl, rfl⟩, jd_am 11 rfl⟩
theorem vy_ci0 : vv_cyS yJ0_checkIndex_df160 mm_ci0 2 := ⟨⟨jd_at 11 rfl, jd_am 4 rfl, ⟨by decide +kernel, by decide +kernel, by decide +kernel⟩, rfl, rfl⟩, jd_am 12 rfl⟩
theorem vy_ch1 : vv_cyS yJ1_charAt_3b067 mm_ch1 2 := ⟨⟨jd_at 12 rfl, jd_am 5 rfl, ⟨by decide +kernel, by decide +kernel, by decide +kernel⟩, rfl, rfl⟩, jd_am 13 rfl⟩
section RJ
variable {x : vv_E} {T : vv_T} {M M' : vv_M} {post : Option Value → vv_H → Prop} {pc q : Nat} {lo : List (Option Value)} {st st0 : List Value} {h h' : vv_H} {y : MethodName} {As : List Value} {idx i : Nat} {w : Option Value}
theorem rj_callV (hi : i < 9) (hy : y.cls = RJ0) (hc : vv_C x T y M' (.ref (x.2.2.2.2.1 i) :: As) h (fun v g => v = w ∧ g = h')) (hst : st0 = As.reverse ++ .ref (x.2.2.2.2.1 i) :: st) (hY : vv_cyV y M' As.length) (hml : Cond.methodLink M.2.2.1 idx y ∈ vv_Tg)
    (hR : M'.2.2.2.2.frames + 1 ≤ M.2.2.2.2.frames ∧ 8 + (M'.2.1 + 11) + M'.2.2.2.2.locals ≤ M.2.2.2.2.locals) (hW : (st.map fun v => v.category).sum ≤ 8) (d : decode M.1 pc = .ok (.invokevirtual idx, 3)) (eq : pc + 3 = q) (kk : vv_V x T M post q lo (w.toList ++ st) h') : vv_V x T M post pc lo st0 h := by
  subst eq
  subst hst
  intro p e s m args below meth c H locs ls A P S L
  have hK := A.2.2.2.2.2.1
  have hts := A.2.2.2.2.1
  have hZ := A.2.2.2.2.2.2.2.2.2
  have cb : CallB M.2.2.2.2 s args M.2.2.1 idx y M'.1 M'.2.1 M'.2.2.2.1 (Cond.code y M'.1 M'.2.1 M'.2.2.2.1 :: vv_Tg) M'.2.2.2.2 0 0 As.length := callB_of _ hts (vv_goodIn hY.1.2.1) rfl hY.1.2.2.2.1 hY.1.2.2.2.2 (hts _ hY.1.1) (hts _ hml) hY.1.2.2.1 hR
  exact vv_goes A S L (va_runV (C := y.cls) ⟨A.1, A.2.1, A.2.2.1, A.2.2.2.1, hts⟩ hc ⟨cb, hts _ hY.2.1, hts _ hY.2.2⟩ ⟨vv_blind, by rw [hy]; exact vk_recv hZ.1.1 hi S, fun U hU hWm => ⟨rfl, by rw [hU]; exact P, va_K.moved hWm.alike hK, A.2.2.2.2.2.2.1, vv_Z_at hZ S hU hWm⟩⟩ rfl rfl L.1 rfl (lv_room hW) d ⟨Nat.zero_le _, Nat.zero_le _⟩) kk
theorem rj_compact (hw : Cond.fieldLink M.2.2.1 idx "java/lang/String" "COMPACT_STRINGS" "Z" ∈ vv_Tg) (d : decode M.1 pc = .ok (.getstatic idx, 3)) (eq : pc + 3 = q) (kk : vv_V x T M post q lo (.int 1 :: st) h) : vv_V x T M post pc lo st h := by
  subst eq
  intro p e s m args below meth c H locs ls A P S L
  exact va_gets A.1 A.2.1 A.2.2.2.2.2.2.2.2.2.1.2.1 S A.2.2.2.1 (A.2.2.2.2.1 _ hw) (fun _ z => z) d (kk p e s m args below meth c H locs ls A P S L)
theorem rj_form (hw : Cond.fieldLink M.2.2.1 idx "jdk/internal/util/Preconditions" "SIOOBE_FORMATTER" "Ljava/util/function/BiFunction;" ∈ vv_Tg) (d : decode M.1 pc = .ok (.getstatic idx, 3)) (eq : pc + 3 = q) (kk : ∀ a : Value, a.isRef = true → vv_V x T M post q lo (a :: st) h) : vv_V x T M post pc lo st h := by
  subst eq
  intro p e s m args below meth c H locs ls A P S L
  obtain ⟨a, hr, ha⟩ := A.2.2.2.2.2.2.2.2.2.1.2.2
  exact va_gets A.1 A.2.1 ha S A.2.2.2.1 (A.2.2.2.2.1 _ hw) (fun _ z => z) d (kk a hr p e s m args below meth c H locs ls A P S L)
theorem rj_cod (hi : i < 9) (hw : Cond.fieldLink M.2.2.1 idx "java/lang/String" "coder" "B" ∈ vv_Tg) (d : decode M.1 pc = .ok (.getfield idx, 3)) (eq : pc + 3 = q) (kk : vv_V x T M post q lo (.int 0 :: st) h) : vv_V x T M post pc lo (.ref (x.2.2.2.2.1 i) :: st) h := by
  subst eq
  intro p e s m args below meth c H locs ls A P S L
  exact vk_getf A.1 A.2.1 (A.2.2.2.2.2.2.2.2.2.1.1.1 i hi).2.1 S A.2.2.2.1 (A.2.2.2.2.1 _ hw) (fun _ z => z) d (kk p e s m args below meth c H locs ls A P S L)
theorem rj_val (hi : i < 9) (hw : Cond.fieldLink M.2.2.1 idx "java/lang/String" "value" "[B" ∈ vv_Tg) (d : decode M.1 pc = .ok (.getfield idx, 3)) (eq : pc + 3 = q) (kk : vv_V x T M post q lo (.ref (x.2.2.2.2.2 i) :: st) h) : vv_V x T M post pc lo (.ref (x.2.2.2.2.1 i) :: st) h := by
  subst eq
  intro p e s m args below meth c H locs ls A P S L
  exact vk_getf A.1 A.2.1 (A.2.2.2.2.2.2.2.2.2.1.1.1 i hi).2.2.1 S A.2.2.2.1 (A.2.2.2.2.1 _ hw) (fun _ z => z) d (kk p e s m args below meth c H locs ls A P S L)
theorem rj_len (hi : i < 9) (d : decode M.1 pc = .ok (.arraylength, 1)) (eq : pc + 1 = q) (kk : vv_V x T M post q lo (.int (Int32.ofNat (vv_slen.getD i 0)) :: st) h) : vv_V x T M post pc lo (.ref (x.2.2.2.2.2 i) :: st) h := by
  subst eq
  intro p e s m args below meth c H locs ls A P S L
  exact va_tlen A.1 A.2.1 (A.2.2.2.2.2.2.2.2.2.1.1.1 i hi).2.2.2 S rfl d (kk p e s m args below meth c H locs ls A P S L)
theorem rj_bald {j : Int32} (hi : i < 9) (hj : vp_in j (vv_slen.getD i 0)) (d : decode M.1 pc = .ok (.baload, 1)) (eq : pc + 1 = q) (kk : vv_V x T M post q lo (.int ((vv_sbyt.getD i []).getD j.toNatClampNeg 0) :: st) h) : vv_V x T M post pc lo (.int j :: .ref (x.2.2.2.2.2 i) :: st) h := by
  subst eq
  intro p e s m args below meth c H locs ls A P S L
  exact va_tb A.1 A.2.1 (A.2.2.2.2.2.2.2.2.2.1.1.1 i hi).2.2.2 S hj rfl d (kk p e s m args below meth c H locs ls A P S L)
theorem rj_i2c {a : Int32} (d : decode M.1 pc = .ok (.i2c, 1)) (eq : pc + 1 = q) (k : vv_V x T M post q lo (.int (a.toUInt32 % 65536).toInt32 :: st) h) : vv_V x T M post pc lo (.int a :: st) h := by
  subst eq
  intro p e s m args below meth c H locs ls A P S L
  exact lv_i2c A.1 A.2.1 d rfl (k p e s m args below meth c H locs ls A P S L)
theorem rj_ret {v : Int32} {ty : FieldType} (d : decode M.1 pc = .ok (.ireturn, 1)) (hr : M.2.2.2.1 = some ty) (hn : narrow ty (.int v) = .int v) (hp : post (some (.int v)) h) : vv_V x T M post pc lo [.int v] h := by
  intro p e s m args below meth c H locs ls A P S L
  have hlocks : meth.locks = false := A.2.2.2.2.2.2.2.2.1
  exact W.zret A.1 A.2.1 (A.2.2.2.2.2.2.2.1.trans hr) hn (fun t ht _ => ⟨⟨_, h, rfl, hp, by rw [ht]; exact P⟩, S.F ht⟩) S.2.2 d
theorem jd_t {p : Prop} [Decidable p] (hp : p) : (if p then some () else none) = some () := if_pos hp
theorem jd_f {p : Prop} [Decidable p] (hp : ¬ p) : (if p then none else some ()) = some () := if_neg hp
theorem jd_no {p : Prop} (e : (none : Option Unit) = some ()) : p := by cases e
/-- String.coder -/
theorem jc_coder (hi : i < 9) : vv_C x T yJ0_coder_7d493 mm_coder [.ref (x.2.2.2.2.1 i)] h (fun v g => v = some (.int 0) ∧ g = h) := by
  refine vv_entry (by decide +kernel) rfl (Nat.le_of_ble_eq_true rfl) rfl ?_
  refine rj_compact (q := 3) (jd_at 0 rfl) dJ0_coder_7d493_0 rfl ?_
  refine rr_if_eq (q := 6) (tgt := 13) dJ0_coder_7d493_3 (by decide) rfl (jd_f (by decide)) jd_no (fun _ => ?_)
  refine rr_aload_n (q := 7) dJ0_coder_7d493_6 rfl rfl ?_
  refine rj_cod (q := 10) hi (jd_at 1 rfl) dJ0_coder_7d493_7 rfl ?_
  refine rr_goto (tgt := 14) dJ0_coder_7d493_10 (by decide) ?_
  exact rj_ret dJ0_coder_7d493_14 rfl rfl ⟨rfl, rfl⟩
/-- String.isLatin1 -/
theorem jc_lat (hi : i < 9) : vv_C x T yJ0_isLatin1_aae02 mm_lat [.ref (x.2.2.2.2.1 i)] h (fun v g => v = some (.int 1) ∧ g = h) := by
  refine vv_entry (by decide +kernel) rfl (Nat.le_of_ble_eq_true rfl) rfl ?_
  refine rj_compact (q := 3) (jd_at 0 rfl) dJ0_isLatin1_aae02_0 rfl ?_
  refine rr_if_eq (q := 6) (tgt := 17) dJ0_isLatin1_aae02_3 (by decide) rfl (jd_f (by decide)) jd_no (fun _ => ?_)
  refine rr_aload_n (q := 7) dJ0_isLatin1_aae02_6 rfl rfl ?_
  refine rj_cod (q := 10) hi (jd_at 1 rfl) dJ0_isLatin1_aae02_7 rfl ?_
  refine rr_if_ne (q := 13) (tgt := 17) dJ0_isLatin1_aae02_10 (by decide) rfl (jd_t rfl) jd_no (fun _ => ?_)
  refine rr_iconst (q := 14) (v := 1) dJ0_isLatin1_aae02_13 rfl (by decide) ?_
  refine rr_goto (tgt := 18) dJ0_isLatin1_aae02_14 (by decide) ?_
  exact rj_ret dJ0_isLatin1_aae02_18 rfl rfl ⟨rfl, rfl⟩
/-- String.length -/
theorem jd_sh (n : Int32) : n >>> ((0 : Int32) &&& 31) = n := by
  apply Int32.toBitVec_inj.mp
  rw [Int32.toBitVec_shiftRight]
  show n.toBitVec.sshiftRight 0 = n.toBitVec
  exact BitVec.sshiftRight_zero
theorem jc_length (hi : i < 9) : vv_C x T yJ0_length_8abf5 mm_length [.ref (x.2.2.2.2.1 i)] h (fun v g => v = some (.int (Int32.ofNat (vv_slen.getD i 0))) ∧ g = h) := by
  refine vv_entry (by decide +kernel) rfl (Nat.le_of_ble_eq_true rfl) rfl ?_
  refine rr_aload_n (q := 1) dJ0_length_8abf5_0 rfl rfl ?_
  refine rj_val (q := 4) hi (jd_at 2 rfl) dJ0_length_8abf5_1 rfl ?_
  refine rj_len (q := 5) hi dJ0_length_8abf5_4 rfl ?_
  refine rr_aload_n (q := 6) dJ0_length_8abf5_5 rfl rfl ?_
  refine rj_callV (q := 9) (As := []) hi rfl (jc_coder hi) rfl vy_coder (jd_at 6 rfl) ⟨Nat.le_of_ble_eq_true rfl, Nat.le_of_ble_eq_true rfl⟩ (Nat.le_of_ble_eq_true rfl) dJ0_length_8abf5_6 rfl ?_
  refine rr_ishr (q := 10) dJ0_length_8abf5_9 rfl ?_
  rw [jd_sh]
  exact rr_iret dJ0_length_8abf5_10 rfl ⟨rfl, rfl⟩
/-- Preconditions.checkIndex -/
theorem jc_ci3 {a b : Int32} {f : Nat} (h0 : ¬ a < 0) (h1 : a < b) : vv_C x T yJ3_checkIndex_8e157 mm_ci3 [.int a, .int b, .ref f] h (fun v g => v = some (.int a) ∧ g = h) := by
  refine vv_entry (by decide +kernel) rfl (Nat.le_of_ble_eq_true rfl) rfl ?_
  refine rr_iload_n (q := 1) dJ3_checkIndex_8e157_0 rfl rfl ?_
  refine rr_if_lt (q := 4) (tgt := 9) dJ3_checkIndex_8e157_1 (by decide) rfl (jd_f h0) jd_no (fun _ => ?_)
  refine rr_iload_n (q := 5) dJ3_checkIndex_8e157_4 rfl rfl ?_
  refine rr_iload_n (q := 6) dJ3_checkIndex_8e157_5 rfl rfl ?_
  refine rr_icmp_lt (q := 9) (tgt := 16) dJ3_checkIndex_8e157_6 (by decide) rfl (jd_t h1) (fun _ => ?_) jd_no
  refine rr_iload_n (q := 17) dJ3_checkIndex_8e157_16 rfl rfl ?_
  exact rr_iret dJ3_checkIndex_8e157_17 rfl ⟨rfl, rfl⟩
theorem jc_ci3n {a b : Int32} (h0 : ¬ a < 0) (h1 : a < b) : vv_C x T yJ3_checkIndex_8e157 mm_ci3 [.int a, .int b, .null] h (fun v g => v = some (.int a) ∧ g = h) := by
  refine vv_entry (by decide +kernel) rfl (Nat.le_of_ble_eq_true rfl) rfl ?_
  refine rr_iload_n (q := 1) dJ3_checkIndex_8e157_0 rfl rfl ?_
  refine rr_if_lt (q := 4) (tgt := 9) dJ3_checkIndex_8e157_1 (by decide) rfl (jd_f h0) jd_no (fun _ => ?_)
  refine rr_iload_n (q := 5) dJ3_checkIndex_8e157_4 rfl rfl ?_
  refine rr_iload_n (q := 6) dJ3_checkIndex_8e157_5 rfl rfl ?_
  refine rr_icmp_lt (q := 9) (tgt := 16) dJ3_checkIndex_8e157_6 (by decide) rfl (jd_t h1) (fun _ => ?_) jd_no
  refine rr_iload_n (q := 17) dJ3_checkIndex_8e157_16 rfl rfl ?_
  exact rr_iret dJ3_checkIndex_8e157_17 rfl ⟨rfl, rfl⟩
/-- String.checkIndex -/
theorem jc_ci0 {a b : Int32} (h0 : ¬ a < 0) (h1 : a < b) : vv_C x T yJ0_checkIndex_df160 mm_ci0 [.int a, .int b] h (fun v g => v = none ∧ g = h) := by
  refine vv_entry (by decide +kernel) rfl (Nat.le_of_ble_eq_true rfl) rfl ?_
  refine rr_iload_n (q := 1) dJ0_checkIndex_df160_0 rfl rfl ?_
  refine rr_iload_n (q := 2) dJ0_checkIndex_df160_1 rfl rfl ?_
  refine rj_form (q := 5) (jd_at 3 rfl) dJ0_checkIndex_df160_2 rfl (fun v hv => ?_)
  cases v with
  | ref f =>
    refine rr_callS (q := 8) (As := [.int a, .int b, .ref f]) (st := []) (jc_ci3 h0 h1) rfl vy_ci3 (jd_at 10 rfl) ⟨Nat.le_of_ble_eq_true rfl, Nat.le_of_ble_eq_true rfl⟩ (Nat.le_of_ble_eq_true rfl) dJ0_checkIndex_df160_5 rfl ?_
    refine rr_pop (q := 9) dJ0_checkIndex_df160_8 rfl rfl ?_
    exact rr_vret dJ0_checkIndex_df160_9 rfl ⟨rfl, rfl⟩
  | null =>
    refine rr_callS (q := 8) (As := [.int a, .int b, .null]) (st := []) (jc_ci3n h0 h1) rfl vy_ci3 (jd_at 10 rfl) ⟨Nat.le_of_ble_eq_true rfl, Nat.le_of_ble_eq_true rfl⟩ (Nat.le_of_ble_eq_true rfl) dJ0_checkIndex_df160_5 rfl ?_
    refine rr_pop (q := 9) dJ0_checkIndex_df160_8 rfl rfl ?_
    exact rr_vret dJ0_checkIndex_df160_9 rfl ⟨rfl, rfl⟩
  | _ => exact Bool.noConfusion (show false = true from hv)
theorem jd_by : ∀ i, i < 9 → ((vv_sbyt.getD i []).length = vv_slen.getD i 0 ∧ ∀ b ∈ vv_sbyt.getD i [], ((b &&& 255).toUInt32 % 65536).toInt32 = b ∧ narrow .char (.int b) = .int b) := by decide +kernel
theorem jd_ln : ∀ i, i < 9 → vv_slen.getD i 0 < 1024 := by decide +kernel
theorem jd_mem {l : List Int32} {k : Nat} (hk : k < l.length) : l.getD k 0 ∈ l := by
  rw [List.getD_eq_getElem?_getD, List.getElem?_eq_getElem hk]
  exact List.getElem_mem hk
theorem jd_byt {j : Int32} (hi : i < 9) (hj : vp_in j (vv_slen.getD i 0)) : ((((vv_sbyt.getD i []).getD j.toNatClampNeg 0) &&& 255).toUInt32 % 65536).toInt32 = (vv_sbyt.getD i []).getD j.toNatClampNeg 0 ∧ narrow .char (.int ((vv_sbyt.getD i []).getD j.toNatClampNeg 0)) = .int ((vv_sbyt.getD i []).getD j.toNatClampNeg 0) := by
  obtain ⟨hl, hb⟩ := jd_by i hi
  have hlt : j.toNatClampNeg < (vv_sbyt.getD i []).length := by rw [hl]; exact Nat.not_le.mp fun q => hj (Or.inr q)
  exact hb _ (jd_mem hlt)
theorem jd_lt {j : Int32} {n : Nat} (hn : n < 1024) (hj : vp_in j n) : ¬ j < 0 ∧ j < Int32.ofNat n := by
  have h0 : ¬ j < 0 := fun q => hj (Or.inl q)
  refine ⟨h0, ?_⟩
  have h1 : j.toNatClampNeg < n := Nat.not_le.mp fun q => hj (Or.inr q)
  have h2 : (0 : Int) ≤ j.toInt := by
    have := Int32.not_lt.mp h0
    simpa using Int32.le_iff_toInt_le.mp this
  have h3 : j.toInt.toNat < n := h1
  have h4 : (Int32.ofNat n).toInt = (n : Int) := Int32.toInt_ofNat_of_lt (by omega)
  rw [Int32.lt_iff_toInt_lt, h4]
  omega
/-- StringLatin1.charAt -/
theorem jc_ch1 {j : Int32} (hi : i < 9) (hj : vp_in j (vv_slen.getD i 0)) : vv_C x T yJ1_charAt_3b067 mm_ch1 [.ref (x.2.2.2.2.2 i), .int j] h (fun v g => v = some (.int ((vv_sbyt.getD i []).getD j.toNatClampNeg 0)) ∧ g = h) := by
  obtain ⟨g0, g1⟩ := jd_lt (jd_ln i hi) hj
  obtain ⟨b0, b1⟩ := jd_byt hi hj
  refine vv_entry (by decide +kernel) rfl (Nat.le_of_ble_eq_true rfl) rfl ?_
  refine rr_iload_n (q := 1) dJ1_charAt_3b067_0 rfl rfl ?_
  refine rr_aload_n (q := 2) dJ1_charAt_3b067_1 rfl rfl ?_
  refine rj_len (q := 3) hi dJ1_charAt_3b067_2 rfl ?_
  refine rr_callS (q := 6) (As := [.int j, .int (Int32.ofNat (vv_slen.getD i 0))]) (st := []) (jc_ci0 g0 g1) rfl vy_ci0 (jd_at 9 rfl) ⟨Nat.le_of_ble_eq_true rfl, Nat.le_of_ble_eq_true rfl⟩ (Nat.le_of_ble_eq_true rfl) dJ1_charAt_3b067_3 rfl ?_
  refine rr_aload_n (q := 7) dJ1_charAt_3b067_6 rfl rfl ?_
  refine rr_iload_n (q := 8) dJ1_charAt_3b067_7 rfl rfl ?_
  refine rj_bald (q := 9) hi hj dJ1_charAt_3b067_8 rfl ?_
  refine rr_sipush (q := 12) (v := 255) dJ1_charAt_3b067_9 rfl (by decide) ?_
  refine rr_iand (q := 13) dJ1_charAt_3b067_12 rfl ?_
  refine rj_i2c (q := 14) dJ1_charAt_3b067_13 rfl ?_
  rw [b0]
  exact rj_ret dJ1_charAt_3b067_14 rfl b1 ⟨rfl, rfl⟩
/-- String.charAt -/
theorem jc_ch0 {j : Int32} (hi : i < 9) (hj : vp_in j (vv_slen.getD i 0)) : vv_C x T yJ0_charAt_5068e mm_ch0 [.ref (x.2.2.2.2.1 i), .int j] h (fun v g => v = some (.int ((vv_sbyt.getD i []).getD j.toNatClampNeg 0)) ∧ g = h) := by
  obtain ⟨b0, b1⟩ := jd_byt hi hj
  refine vv_entry (by decide +kernel) rfl (Nat.le_of_ble_eq_true rfl) rfl ?_
  refine rr_aload_n (q := 1) dJ0_charAt_5068e_0 rfl rfl ?_
  refine rj_callV (q := 4) (As := []) hi rfl (jc_lat hi) rfl vy_lat (jd_at 7 rfl) ⟨Nat.le_of_ble_eq_true rfl, Nat.le_of_ble_eq_true rfl⟩ (Nat.le_of_ble_eq_true rfl) dJ0_charAt_5068e_1 rfl ?_
  refine rr_if_eq (q := 7) (tgt := 16) dJ0_charAt_5068e_4 (by decide) rfl (jd_f (by decide)) jd_no (fun _ => ?_)
  refine rr_aload_n (q := 8) dJ0_charAt_5068e_7 rfl rfl ?_
  refine rj_val (q := 11) hi (jd_at 2 rfl) dJ0_charAt_5068e_8 rfl ?_
  refine rr_iload_n (q := 12) dJ0_charAt_5068e_11 rfl rfl ?_
  refine rr_callS (q := 15) (As := [.ref (x.2.2.2.2.2 i), .int j]) (st := []) (jc_ch1 hi hj) rfl vy_ch1 (jd_at 8 rfl) ⟨Nat.le_of_ble_eq_true rfl, Nat.le_of_ble_eq_true rfl⟩ (Nat.le_of_ble_eq_true rfl) dJ0_charAt_5068e_12 rfl ?_
  exact rj_ret dJ0_charAt_5068e_15 rfl b1 ⟨rfl, rfl⟩
end RJ
