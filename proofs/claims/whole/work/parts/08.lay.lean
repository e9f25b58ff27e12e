def vv_lC : List vv_Y := [(0, 11, [(0, 0), (0, 0), (1, 1), (1, 16), (1, 22), (1, 50), (1, 55), (2, 0), (2, 1), (1, 146), (1, 156), (1, 167), (1, 170), (1, 176)]), (0, 0, [(0, 0), (1, 2), (1, 15)]), (5, 12, [(3, 0)]), (1, 3, []), (1, 3, []), (1, 3, []), (1, 3, []), (1, 3, []), (1, 3, []), (1, 3, []), (1, 3, []), (1, 3, []), (1, 3, []), (1, 3, []), (1, 3, []), (1, 12, []), (0, 2, [(0, 0), (1, 17), (1, 18), (1, 19), (1, 20), (1, 21)]), (1, 60, []), (1, 60, []), (1, 60, []), (1, 60, []), (1, 60, []), (0, 8, [(0, 0), (1, 23), (1, 24), (1, 37)]), (1, 12, []), (5, 12, [(25, 0)]), (1, 3, []), (1, 3, []), (1, 3, []), (1, 3, []), (1, 3, []), (1, 3, []), (1, 3, []), (1, 3, []), (1, 3, []), (1, 3, []), (1, 3, []), (1, 3, []), (5, 12, [(38, 0)]), (1, 3, []), (1, 3, []), (1, 3, []), (1, 3, []), (1, 3, []), (1, 3, []), (1, 3, []), (1, 3, []), (1, 3, []), (1, 3, []), (1, 3, []), (1, 3, []), (0, 10, [(0, 0), (0, 0), (1, 51), (1, 52), (1, 53), (1, 54)]), (3, 240, []), (1, 241, []), (1, 241, []), (1, 241, []), (0, 5, [(0, 0), (0, 0), (0, 0), (0, 0)]), (0, 6, [(0, 0), (1, 57), (1, 58), (1, 59), (1, 60), (1, 61), (1, 62), (1, 75), (1, 88)]), (1, 12, []), (1, 12, []), (1, 12, []), (1, 12, []), (1, 12, []), (5, 12, [(63, 0)]), (1, 3, []), (1, 3, []), (1, 3, []), (1, 3, []), (1, 3, []), (1, 3, []), (1, 3, []), (1, 3, []), (1, 3, []), (1, 3, []), (1, 3, []), (1, 3, []), (5, 12, [(76, 0)]), (1, 3, []), (1, 3, []), (1, 3, []), (1, 3, []), (1, 3, []), (1, 3, []), (1, 3, []), (1, 3, []), (1, 3, []), (1, 3, []), (1, 3, []), (1, 3, []), (5, 12, [(89, 0)]), (1, 3, []), (1, 3, []), (1, 3, []), (1, 3, []), (1, 3, []), (1, 3, []), (1, 3, []), (1, 3, []), (1, 3, []), (1, 3, []), (1, 3, []), (1, 3, []), (0, 6, [(0, 0), (1, 102), (1, 103), (1, 104), (1, 105), (1, 106), (1, 107), (1, 120), (1, 133)]), (1, 12, []), (1, 12, []), (1, 12, []), (1, 12, []), (1, 12, []), (5, 12, [(108, 0)]), (1, 3, []), (1, 3, []), (1, 3, []), (1, 3, []), (1, 3, []), (1, 3, []), (1, 3, []), (1, 3, []), (1, 3, []), (1, 3, []), (1, 3, []), (1, 3, []), (5, 12, [(121, 0)]), (1, 3, []), (1, 3, []), (1, 3, []), (1, 3, []), (1, 3, []), (1, 3, []), (1, 3, []), (1, 3, []), (1, 3, []), (1, 3, []), (1, 3, []), (1, 3, []), (5, 12, [(134, 0)]), (1, 3, []), (1, 3, []), (1, 3, []), (1, 3, []), (1, 3, []), (1, 3, []), (1, 3, []), (1, 3, []), (1, 3, []), (1, 3, []), (1, 3, []), (1, 3, []), (0, 9, [(0, 0), (0, 0), (1, 147), (1, 152), (1, 153), (1, 154), (1, 155)]), (5, 4, [(148, 0)]), (1, 4, []), (1, 4, []), (1, 4, []), (1, 4, []), (1, 16, []), (1, 16, []), (1, 4, []), (1, 4, []), (0, 4, [(0, 0), (1, 157), (1, 158), (1, 159), (1, 160), (1, 161), (1, 162), (1, 163), (1, 164), (1, 165), (1, 166)]), (1, 36, []), (1, 36, []), (1, 36, []), (1, 36, []), (1, 36, []), (1, 36, []), (1, 36, []), (1, 36, []), (1, 36, []), (1, 36, []), (0, 1, [(0, 0), (0, 0), (0, 0), (1, 168), (1, 169)]), (1, 10, []), (1, 10, []), (0, 3, [(0, 0), (0, 0), (0, 0), (3, 0), (1, 171), (1, 172), (1, 173), (1, 174), (1, 175)]), (2, 32, []), (1, 32, []), (1, 64, []), (1, 64, []), (2, 100, []), (0, 7, [(1, 177), (1, 178), (1, 179)]), (1, 4, []), (1, 4, []), (5, 4, [(180, 0)]), (1, 60, []), (1, 60, []), (1, 60, []), (1, 60, [])]
def vv_TC : vv_T := (fun k => vv_lC.getD k (9, 0, []), 184)
theorem ylC_0 : vv_TC.1 0 = (0, 11, [(0, 0), (0, 0), (1, 1), (1, 16), (1, 22), (1, 50), (1, 55), (2, 0), (2, 1), (1, 146), (1, 156), (1, 167), (1, 170), (1, 176)]) := rfl
theorem ynC_0 : 0 < vv_TC.2 := Nat.le_of_ble_eq_true rfl
theorem ylC_1 : vv_TC.1 1 = (0, 0, [(0, 0), (1, 2), (1, 15)]) := rfl
theorem ynC_1 : 1 < vv_TC.2 := Nat.le_of_ble_eq_true rfl
theorem ylC_2 : vv_TC.1 2 = (5, 12, [(3, 0)]) := rfl
theorem ynC_2 : 2 < vv_TC.2 := Nat.le_of_ble_eq_true rfl
theorem ywC_2_a : ∀ j, j < 12 → vv_TC.1 (3 + j) = (1, 3, []) ∧ 3 + j < vv_TC.2 := by decide +kernel
theorem ywC_2 {i : Int32} (h : vp_in i 12) : vv_TC.1 (3 + i.toNatClampNeg) = (1, 3, []) ∧ 3 + i.toNatClampNeg < vv_TC.2 := ywC_2_a _ (Nat.not_le.mp fun z => h (Or.inr z))
theorem ylC_15 : vv_TC.1 15 = (1, 12, []) := rfl
theorem ynC_15 : 15 < vv_TC.2 := Nat.le_of_ble_eq_true rfl
theorem ylC_16 : vv_TC.1 16 = (0, 2, [(0, 0), (1, 17), (1, 18), (1, 19), (1, 20), (1, 21)]) := rfl
theorem ynC_16 : 16 < vv_TC.2 := Nat.le_of_ble_eq_true rfl
theorem ylC_17 : vv_TC.1 17 = (1, 60, []) := rfl
theorem ynC_17 : 17 < vv_TC.2 := Nat.le_of_ble_eq_true rfl
theorem ylC_18 : vv_TC.1 18 = (1, 60, []) := rfl
theorem ynC_18 : 18 < vv_TC.2 := Nat.le_of_ble_eq_true rfl
theorem ylC_19 : vv_TC.1 19 = (1, 60, []) := rfl
theorem ynC_19 : 19 < vv_TC.2 := Nat.le_of_ble_eq_true rfl
theorem ylC_20 : vv_TC.1 20 = (1, 60, []) := rfl
theorem ynC_20 : 20 < vv_TC.2 := Nat.le_of_ble_eq_true rfl
theorem ylC_21 : vv_TC.1 21 = (1, 60, []) := rfl
theorem ynC_21 : 21 < vv_TC.2 := Nat.le_of_ble_eq_true rfl
theorem ylC_22 : vv_TC.1 22 = (0, 8, [(0, 0), (1, 23), (1, 24), (1, 37)]) := rfl
theorem ynC_22 : 22 < vv_TC.2 := Nat.le_of_ble_eq_true rfl
theorem ylC_23 : vv_TC.1 23 = (1, 12, []) := rfl
theorem ynC_23 : 23 < vv_TC.2 := Nat.le_of_ble_eq_true rfl
theorem ylC_24 : vv_TC.1 24 = (5, 12, [(25, 0)]) := rfl
theorem ynC_24 : 24 < vv_TC.2 := Nat.le_of_ble_eq_true rfl
theorem ywC_24_a : ∀ j, j < 12 → vv_TC.1 (25 + j) = (1, 3, []) ∧ 25 + j < vv_TC.2 := by decide +kernel
theorem ywC_24 {i : Int32} (h : vp_in i 12) : vv_TC.1 (25 + i.toNatClampNeg) = (1, 3, []) ∧ 25 + i.toNatClampNeg < vv_TC.2 := ywC_24_a _ (Nat.not_le.mp fun z => h (Or.inr z))
theorem ylC_37 : vv_TC.1 37 = (5, 12, [(38, 0)]) := rfl
theorem ynC_37 : 37 < vv_TC.2 := Nat.le_of_ble_eq_true rfl
theorem ywC_37_a : ∀ j, j < 12 → vv_TC.1 (38 + j) = (1, 3, []) ∧ 38 + j < vv_TC.2 := by decide +kernel
theorem ywC_37 {i : Int32} (h : vp_in i 12) : vv_TC.1 (38 + i.toNatClampNeg) = (1, 3, []) ∧ 38 + i.toNatClampNeg < vv_TC.2 := ywC_37_a _ (Nat.not_le.mp fun z => h (Or.inr z))
theorem ylC_50 : vv_TC.1 50 = (0, 10, [(0, 0), (0, 0), (1, 51), (1, 52), (1, 53), (1, 54)]) := rfl
theorem ynC_50 : 50 < vv_TC.2 := Nat.le_of_ble_eq_true rfl
theorem ylC_51 : vv_TC.1 51 = (3, 240, []) := rfl
theorem ynC_51 : 51 < vv_TC.2 := Nat.le_of_ble_eq_true rfl
theorem ylC_52 : vv_TC.1 52 = (1, 241, []) := rfl
theorem ynC_52 : 52 < vv_TC.2 := Nat.le_of_ble_eq_true rfl
theorem ylC_53 : vv_TC.1 53 = (1, 241, []) := rfl
theorem ynC_53 : 53 < vv_TC.2 := Nat.le_of_ble_eq_true rfl
theorem ylC_54 : vv_TC.1 54 = (1, 241, []) := rfl
theorem ynC_54 : 54 < vv_TC.2 := Nat.le_of_ble_eq_true rfl
theorem ylC_55 : vv_TC.1 55 = (0, 5, [(0, 0), (0, 0), (0, 0), (0, 0)]) := rfl
theorem ynC_55 : 55 < vv_TC.2 := Nat.le_of_ble_eq_true rfl
theorem ylC_56 : vv_TC.1 56 = (0, 6, [(0, 0), (1, 57), (1, 58), (1, 59), (1, 60), (1, 61), (1, 62), (1, 75), (1, 88)]) := rfl
theorem ynC_56 : 56 < vv_TC.2 := Nat.le_of_ble_eq_true rfl
theorem ylC_57 : vv_TC.1 57 = (1, 12, []) := rfl
theorem ynC_57 : 57 < vv_TC.2 := Nat.le_of_ble_eq_true rfl
theorem ylC_58 : vv_TC.1 58 = (1, 12, []) := rfl
theorem ynC_58 : 58 < vv_TC.2 := Nat.le_of_ble_eq_true rfl
theorem ylC_59 : vv_TC.1 59 = (1, 12, []) := rfl
theorem ynC_59 : 59 < vv_TC.2 := Nat.le_of_ble_eq_true rfl
theorem ylC_60 : vv_TC.1 60 = (1, 12, []) := rfl
theorem ynC_60 : 60 < vv_TC.2 := Nat.le_of_ble_eq_true rfl
theorem ylC_61 : vv_TC.1 61 = (1, 12, []) := rfl
theorem ynC_61 : 61 < vv_TC.2 := Nat.le_of_ble_eq_true rfl
theorem ylC_62 : vv_TC.1 62 = (5, 12, [(63, 0)]) := rfl
theorem ynC_62 : 62 < vv_TC.2 := Nat.le_of_ble_eq_true rfl
theorem ywC_62_a : ∀ j, j < 12 → vv_TC.1 (63 + j) = (1, 3, []) ∧ 63 + j < vv_TC.2 := by decide +kernel
theorem ywC_62 {i : Int32} (h : vp_in i 12) : vv_TC.1 (63 + i.toNatClampNeg) = (1, 3, []) ∧ 63 + i.toNatClampNeg < vv_TC.2 := ywC_62_a _ (Nat.not_le.mp fun z => h (Or.inr z))
theorem ylC_75 : vv_TC.1 75 = (5, 12, [(76, 0)]) := rfl
theorem ynC_75 : 75 < vv_TC.2 := Nat.le_of_ble_eq_true rfl
theorem ywC_75_a : ∀ j, j < 12 → vv_TC.1 (76 + j) = (1, 3, []) ∧ 76 + j < vv_TC.2 := by decide +kernel
theorem ywC_75 {i : Int32} (h : vp_in i 12) : vv_TC.1 (76 + i.toNatClampNeg) = (1, 3, []) ∧ 76 + i.toNatClampNeg < vv_TC.2 := ywC_75_a _ (Nat.not_le.mp fun z => h (Or.inr z))
theorem ylC_88 : vv_TC.1 88 = (5, 12, [(89, 0)]) := rfl
theorem ynC_88 : 88 < vv_TC.2 := Nat.le_of_ble_eq_true rfl
theorem ywC_88_a : ∀ j, j < 12 → vv_TC.1 (89 + j) = (1, 3, []) ∧ 89 + j < vv_TC.2 := by decide +kernel
theorem ywC_88 {i : Int32} (h : vp_in i 12) : vv_TC.1 (89 + i.toNatClampNeg) = (1, 3, []) ∧ 89 + i.toNatClampNeg < vv_TC.2 := ywC_88_a _ (Nat.not_le.mp fun z => h (Or.inr z))
theorem ylC_101 : vv_TC.1 101 = (0, 6, [(0, 0), (1, 102), (1, 103), (1, 104), (1, 105), (1, 106), (1, 107), (1, 120), (1, 133)]) := rfl
theorem ynC_101 : 101 < vv_TC.2 := Nat.le_of_ble_eq_true rfl
theorem ylC_102 : vv_TC.1 102 = (1, 12, []) := rfl
theorem ynC_102 : 102 < vv_TC.2 := Nat.le_of_ble_eq_true rfl
theorem ylC_103 : vv_TC.1 103 = (1, 12, []) := rfl
theorem ynC_103 : 103 < vv_TC.2 := Nat.le_of_ble_eq_true rfl
theorem ylC_104 : vv_TC.1 104 = (1, 12, []) := rfl
theorem ynC_104 : 104 < vv_TC.2 := Nat.le_of_ble_eq_true rfl
theorem ylC_105 : vv_TC.1 105 = (1, 12, []) := rfl
theorem ynC_105 : 105 < vv_TC.2 := Nat.le_of_ble_eq_true rfl
theorem ylC_106 : vv_TC.1 106 = (1, 12, []) := rfl
theorem ynC_106 : 106 < vv_TC.2 := Nat.le_of_ble_eq_true rfl
theorem ylC_107 : vv_TC.1 107 = (5, 12, [(108, 0)]) := rfl
theorem ynC_107 : 107 < vv_TC.2 := Nat.le_of_ble_eq_true rfl
theorem ywC_107_a : ∀ j, j < 12 → vv_TC.1 (108 + j) = (1, 3, []) ∧ 108 + j < vv_TC.2 := by decide +kernel
theorem ywC_107 {i : Int32} (h : vp_in i 12) : vv_TC.1 (108 + i.toNatClampNeg) = (1, 3, []) ∧ 108 + i.toNatClampNeg < vv_TC.2 := ywC_107_a _ (Nat.not_le.mp fun z => h (Or.inr z))
theorem ylC_120 : vv_TC.1 120 = (5, 12, [(121, 0)]) := rfl
theorem ynC_120 : 120 < vv_TC.2 := Nat.le_of_ble_eq_true rfl
theorem ywC_120_a : ∀ j, j < 12 → vv_TC.1 (121 + j) = (1, 3, []) ∧ 121 + j < vv_TC.2 := by decide +kernel
theorem ywC_120 {i : Int32} (h : vp_in i 12) : vv_TC.1 (121 + i.toNatClampNeg) = (1, 3, []) ∧ 121 + i.toNatClampNeg < vv_TC.2 := ywC_120_a _ (Nat.not_le.mp fun z => h (Or.inr z))
theorem ylC_133 : vv_TC.1 133 = (5, 12, [(134, 0)]) := rfl
theorem ynC_133 : 133 < vv_TC.2 := Nat.le_of_ble_eq_true rfl
theorem ywC_133_a : ∀ j, j < 12 → vv_TC.1 (134 + j) = (1, 3, []) ∧ 134 + j < vv_TC.2 := by decide +kernel
theorem ywC_133 {i : Int32} (h : vp_in i 12) : vv_TC.1 (134 + i.toNatClampNeg) = (1, 3, []) ∧ 134 + i.toNatClampNeg < vv_TC.2 := ywC_133_a _ (Nat.not_le.mp fun z => h (Or.inr z))
theorem ylC_146 : vv_TC.1 146 = (0, 9, [(0, 0), (0, 0), (1, 147), (1, 152), (1, 153), (1, 154), (1, 155)]) := rfl
theorem ynC_146 : 146 < vv_TC.2 := Nat.le_of_ble_eq_true rfl
theorem ylC_147 : vv_TC.1 147 = (5, 4, [(148, 0)]) := rfl
theorem ynC_147 : 147 < vv_TC.2 := Nat.le_of_ble_eq_true rfl
theorem ywC_147_a : ∀ j, j < 4 → vv_TC.1 (148 + j) = (1, 4, []) ∧ 148 + j < vv_TC.2 := by decide +kernel
theorem ywC_147 {i : Int32} (h : vp_in i 4) : vv_TC.1 (148 + i.toNatClampNeg) = (1, 4, []) ∧ 148 + i.toNatClampNeg < vv_TC.2 := ywC_147_a _ (Nat.not_le.mp fun z => h (Or.inr z))
theorem ylC_152 : vv_TC.1 152 = (1, 16, []) := rfl
theorem ynC_152 : 152 < vv_TC.2 := Nat.le_of_ble_eq_true rfl
theorem ylC_153 : vv_TC.1 153 = (1, 16, []) := rfl
theorem ynC_153 : 153 < vv_TC.2 := Nat.le_of_ble_eq_true rfl
theorem ylC_154 : vv_TC.1 154 = (1, 4, []) := rfl
theorem ynC_154 : 154 < vv_TC.2 := Nat.le_of_ble_eq_true rfl
theorem ylC_155 : vv_TC.1 155 = (1, 4, []) := rfl
theorem ynC_155 : 155 < vv_TC.2 := Nat.le_of_ble_eq_true rfl
theorem ylC_156 : vv_TC.1 156 = (0, 4, [(0, 0), (1, 157), (1, 158), (1, 159), (1, 160), (1, 161), (1, 162), (1, 163), (1, 164), (1, 165), (1, 166)]) := rfl
theorem ynC_156 : 156 < vv_TC.2 := Nat.le_of_ble_eq_true rfl
theorem ylC_157 : vv_TC.1 157 = (1, 36, []) := rfl
theorem ynC_157 : 157 < vv_TC.2 := Nat.le_of_ble_eq_true rfl
theorem ylC_158 : vv_TC.1 158 = (1, 36, []) := rfl
theorem ynC_158 : 158 < vv_TC.2 := Nat.le_of_ble_eq_true rfl
theorem ylC_159 : vv_TC.1 159 = (1, 36, []) := rfl
theorem ynC_159 : 159 < vv_TC.2 := Nat.le_of_ble_eq_true rfl
theorem ylC_160 : vv_TC.1 160 = (1, 36, []) := rfl
theorem ynC_160 : 160 < vv_TC.2 := Nat.le_of_ble_eq_true rfl
theorem ylC_161 : vv_TC.1 161 = (1, 36, []) := rfl
theorem ynC_161 : 161 < vv_TC.2 := Nat.le_of_ble_eq_true rfl
theorem ylC_162 : vv_TC.1 162 = (1, 36, []) := rfl
theorem ynC_162 : 162 < vv_TC.2 := Nat.le_of_ble_eq_true rfl
theorem ylC_163 : vv_TC.1 163 = (1, 36, []) := rfl
theorem ynC_163 : 163 < vv_TC.2 := Nat.le_of_ble_eq_true rfl
theorem ylC_164 : vv_TC.1 164 = (1, 36, []) := rfl
theorem ynC_164 : 164 < vv_TC.2 := Nat.le_of_ble_eq_true rfl
theorem ylC_165 : vv_TC.1 165 = (1, 36, []) := rfl
theorem ynC_165 : 165 < vv_TC.2 := Nat.le_of_ble_eq_true rfl
theorem ylC_166 : vv_TC.1 166 = (1, 36, []) := rfl
theorem ynC_166 : 166 < vv_TC.2 := Nat.le_of_ble_eq_true rfl
theorem ylC_167 : vv_TC.1 167 = (0, 1, [(0, 0), (0, 0), (0, 0), (1, 168), (1, 169)]) := rfl
theorem ynC_167 : 167 < vv_TC.2 := Nat.le_of_ble_eq_true rfl
theorem ylC_168 : vv_TC.1 168 = (1, 10, []) := rfl
theorem ynC_168 : 168 < vv_TC.2 := Nat.le_of_ble_eq_true rfl
theorem ylC_169 : vv_TC.1 169 = (1, 10, []) := rfl
theorem ynC_169 : 169 < vv_TC.2 := Nat.le_of_ble_eq_true rfl
theorem ylC_170 : vv_TC.1 170 = (0, 3, [(0, 0), (0, 0), (0, 0), (3, 0), (1, 171), (1, 172), (1, 173), (1, 174), (1, 175)]) := rfl
theorem ynC_170 : 170 < vv_TC.2 := Nat.le_of_ble_eq_true rfl
theorem ylC_171 : vv_TC.1 171 = (2, 32, []) := rfl
theorem ynC_171 : 171 < vv_TC.2 := Nat.le_of_ble_eq_true rfl
theorem ylC_172 : vv_TC.1 172 = (1, 32, []) := rfl
theorem ynC_172 : 172 < vv_TC.2 := Nat.le_of_ble_eq_true rfl
theorem ylC_173 : vv_TC.1 173 = (1, 64, []) := rfl
theorem ynC_173 : 173 < vv_TC.2 := Nat.le_of_ble_eq_true rfl
theorem ylC_174 : vv_TC.1 174 = (1, 64, []) := rfl
theorem ynC_174 : 174 < vv_TC.2 := Nat.le_of_ble_eq_true rfl
theorem ylC_175 : vv_TC.1 175 = (2, 100, []) := rfl
theorem ynC_175 : 175 < vv_TC.2 := Nat.le_of_ble_eq_true rfl
theorem ylC_176 : vv_TC.1 176 = (0, 7, [(1, 177), (1, 178), (1, 179)]) := rfl
theorem ynC_176 : 176 < vv_TC.2 := Nat.le_of_ble_eq_true rfl
theorem ylC_177 : vv_TC.1 177 = (1, 4, []) := rfl
theorem ynC_177 : 177 < vv_TC.2 := Nat.le_of_ble_eq_true rfl
theorem ylC_178 : vv_TC.1 178 = (1, 4, []) := rfl
theorem ynC_178 : 178 < vv_TC.2 := Nat.le_of_ble_eq_true rfl
theorem ylC_179 : vv_TC.1 179 = (5, 4, [(180, 0)]) := rfl
theorem ynC_179 : 179 < vv_TC.2 := Nat.le_of_ble_eq_true rfl
theorem ywC_179_a : ∀ j, j < 4 → vv_TC.1 (180 + j) = (1, 60, []) ∧ 180 + j < vv_TC.2 := by decide +kernel
theorem ywC_179 {i : Int32} (h : vp_in i 4) : vv_TC.1 (180 + i.toNatClampNeg) = (1, 60, []) ∧ 180 + i.toNatClampNeg < vv_TC.2 := ywC_179_a _ (Nat.not_le.mp fun z => h (Or.inr z))
def vv_lR : List vv_Y := [(0, 12, [(0, 0), (0, 0), (1, 1), (1, 2), (1, 3), (1, 4), (0, 0), (1, 5), (1, 6), (1, 7), (1, 8), (1, 9), (0, 0), (1, 10), (1, 11), (1, 12), (1, 13), (0, 0), (0, 0), (0, 0), (0, 0), (0, 0), (0, 0), (0, 0), (0, 0), (1, 14), (1, 15), (0, 0), (1, 16), (1, 17), (1, 18), (1, 19), (1, 20), (1, 21), (0, 0), (1, 22), (1, 23), (1, 24), (1, 25), (1, 26), (1, 27), (0, 0), (0, 0), (1, 28), (0, 0), (1, 29), (1, 30), (1, 31), (1, 32), (1, 33), (1, 34), (1, 35), (1, 36), (1, 37), (1, 38), (1, 39), (1, 40), (1, 41), (1, 42), (1, 43), (1, 44), (1, 45), (0, 0), (1, 46), (1, 47), (1, 48), (1, 49), (1, 50), (1, 51), (1, 52), (1, 53), (1, 54), (1, 55)]), (1, 12, []), (1, 12, []), (1, 12, []), (1, 12, []), (1, 60, []), (1, 60, []), (1, 60, []), (1, 60, []), (1, 60, []), (1, 12, []), (1, 72, []), (1, 12, []), (1, 240, []), (1, 10, []), (1, 38, []), (1, 12, []), (1, 12, []), (1, 12, []), (1, 12, []), (1, 12, []), (1, 108, []), (1, 12, []), (1, 12, []), (1, 12, []), (1, 12, []), (1, 12, []), (1, 108, []), (1, 16, []), (1, 36, []), (1, 36, []), (1, 36, []), (1, 36, []), (1, 36, []), (1, 36, []), (1, 36, []), (1, 36, []), (1, 36, []), (1, 36, []), (4, 432, []), (1, 36, []), (1, 36, []), (1, 36, []), (4, 36, []), (4, 36, []), (1, 12, []), (1, 12, []), (1, 12, []), (1, 12, []), (1, 12, []), (1, 12, []), (1, 4, []), (2, 1369, []), (1, 4, []), (1, 4, []), (1, 240, [])]
def vv_TR : vv_T := (fun k => vv_lR.getD k (9, 0, []), 56)
theorem ylR_0 : vv_TR.1 0 = (0, 12, [(0, 0), (0, 0), (1, 1), (1, 2), (1, 3), (1, 4), (0, 0), (1, 5), (1, 6), (1, 7), (1, 8), (1, 9), (0, 0), (1, 10), (1, 11), (1, 12), (1, 13), (0, 0), (0, 0), (0, 0), (0, 0), (0, 0), (0, 0), (0, 0), (0, 0), (1, 14), (1, 15), (0, 0), (1, 16), (1, 17), (1, 18), (1, 19), (1, 20), (1, 21), (0, 0), (1, 22), (1, 23), (1, 24), (1, 25), (1, 26), (1, 27), (0, 0), (0, 0), (1, 28), (0, 0), (1, 29), (1, 30), (1, 31), (1, 32), (1, 33), (1, 34), (1, 35), (1, 36), (1, 37), (1, 38), (1, 39), (1, 40), (1, 41), (1, 42), (1, 43), (1, 44), (1, 45), (0, 0), (1, 46), (1, 47), (1, 48), (1, 49), (1, 50), (1, 51), (1, 52), (1, 53), (1, 54), (1, 55)]) := rfl
theorem ynR_0 : 0 < vv_TR.2 := Nat.le_of_ble_eq_true rfl
theorem ylR_1 : vv_TR.1 1 = (1, 12, []) := rfl
theorem ynR_1 : 1 < vv_TR.2 := Nat.le_of_ble_eq_true rfl
theorem ylR_2 : vv_TR.1 2 = (1, 12, []) := rfl
theorem ynR_2 : 2 < vv_TR.2 := Nat.le_of_ble_eq_true rfl
theorem ylR_3 : vv_TR.1 3 = (1, 12, []) := rfl
theorem ynR_3 : 3 < vv_TR.2 := Nat.le_of_ble_eq_true rfl
theorem ylR_4 : vv_TR.1 4 = (1, 12, []) := rfl
theorem ynR_4 : 4 < vv_TR.2 := Nat.le_of_ble_eq_true rfl
theorem ylR_5 : vv_TR.1 5 = (1, 60, []) := rfl
theorem ynR_5 : 5 < vv_TR.2 := Nat.le_of_ble_eq_true rfl
theorem ylR_6 : vv_TR.1 6 = (1, 60, []) := rfl
theorem ynR_6 : 6 < vv_TR.2 := Nat.le_of_ble_eq_true rfl
theorem ylR_7 : vv_TR.1 7 = (1, 60, []) := rfl
theorem ynR_7 : 7 < vv_TR.2 := Nat.le_of_ble_eq_true rfl
theorem ylR_8 : vv_TR.1 8 = (1, 60, []) := rfl
theorem ynR_8 : 8 < vv_TR.2 := Nat.le_of_ble_eq_true rfl
theorem ylR_9 : vv_TR.1 9 = (1, 60, []) := rfl
theorem ynR_9 : 9 < vv_TR.2 := Nat.le_of_ble_eq_true rfl
theorem ylR_10 : vv_TR.1 10 = (1, 12, []) := rfl
theorem ynR_10 : 10 < vv_TR.2 := Nat.le_of_ble_eq_true rfl
theorem ylR_11 : vv_TR.1 11 = (1, 72, []) := rfl
theorem ynR_11 : 11 < vv_TR.2 := Nat.le_of_ble_eq_true rfl
theorem ylR_12 : vv_TR.1 12 = (1, 12, []) := rfl
theorem ynR_12 : 12 < vv_TR.2 := Nat.le_of_ble_eq_true rfl
theorem ylR_13 : vv_TR.1 13 = (1, 240, []) := rfl
theorem ynR_13 : 13 < vv_TR.2 := Nat.le_of_ble_eq_true rfl
theorem ylR_14 : vv_TR.1 14 = (1, 10, []) := rfl
theorem ynR_14 : 14 < vv_TR.2 := Nat.le_of_ble_eq_true rfl
theorem ylR_15 : vv_TR.1 15 = (1, 38, []) := rfl
theorem ynR_15 : 15 < vv_TR.2 := Nat.le_of_ble_eq_true rfl
theorem ylR_16 : vv_TR.1 16 = (1, 12, []) := rfl
theorem ynR_16 : 16 < vv_TR.2 := Nat.le_of_ble_eq_true rfl
theorem ylR_17 : vv_TR.1 17 = (1, 12, []) := rfl
theorem ynR_17 : 17 < vv_TR.2 := Nat.le_of_ble_eq_true rfl
theorem ylR_18 : vv_TR.1 18 = (1, 12, []) := rfl
theorem ynR_18 : 18 < vv_TR.2 := Nat.le_of_ble_eq_true rfl
theorem ylR_19 : vv_TR.1 19 = (1, 12, []) := rfl
theorem ynR_19 : 19 < vv_TR.2 := Nat.le_of_ble_eq_true rfl
theorem ylR_20 : vv_TR.1 20 = (1, 12, []) := rfl
theorem ynR_20 : 20 < vv_TR.2 := Nat.le_of_ble_eq_true rfl
theorem ylR_21 : vv_TR.1 21 = (1, 108, []) := rfl
theorem ynR_21 : 21 < vv_TR.2 := Nat.le_of_ble_eq_true rfl
theorem ylR_22 : vv_TR.1 22 = (1, 12, []) := rfl
theorem ynR_22 : 22 < vv_TR.2 := Nat.le_of_ble_eq_true rfl
theorem ylR_23 : vv_TR.1 23 = (1, 12, []) := rfl
theorem ynR_23 : 23 < vv_TR.2 := Nat.le_of_ble_eq_true rfl
theorem ylR_24 : vv_TR.1 24 = (1, 12, []) := rfl
theorem ynR_24 : 24 < vv_TR.2 := Nat.le_of_ble_eq_true rfl
theorem ylR_25 : vv_TR.1 25 = (1, 12, []) := rfl
theorem ynR_25 : 25 < vv_TR.2 := Nat.le_of_ble_eq_true rfl
theorem ylR_26 : vv_TR.1 26 = (1, 12, []) := rfl
theorem ynR_26 : 26 < vv_TR.2 := Nat.le_of_ble_eq_true rfl
theorem ylR_27 : vv_TR.1 27 = (1, 108, []) := rfl
theorem ynR_27 : 27 < vv_TR.2 := Nat.le_of_ble_eq_true rfl
theorem ylR_28 : vv_TR.1 28 = (1, 16, []) := rfl
theorem ynR_28 : 28 < vv_TR.2 := Nat.le_of_ble_eq_true rfl
theorem ylR_29 : vv_TR.1 29 = (1, 36, []) := rfl
theorem ynR_29 : 29 < vv_TR.2 := Nat.le_of_ble_eq_true rfl
theorem ylR_30 : vv_TR.1 30 = (1, 36, []) := rfl
theorem ynR_30 : 30 < vv_TR.2 := Nat.le_of_ble_eq_true rfl
theorem ylR_31 : vv_TR.1 31 = (1, 36, []) := rfl
theorem ynR_31 : 31 < vv_TR.2 := Nat.le_of_ble_eq_true rfl
theorem ylR_32 : vv_TR.1 32 = (1, 36, []) := rfl
theorem ynR_32 : 32 < vv_TR.2 := Nat.le_of_ble_eq_true rfl
theorem ylR_33 : vv_TR.1 33 = (1, 36, []) := rfl
theorem ynR_33 : 33 < vv_TR.2 := Nat.le_of_ble_eq_true rfl
theorem ylR_34 : vv_TR.1 34 = (1, 36, []) := rfl
theorem ynR_34 : 34 < vv_TR.2 := Nat.le_of_ble_eq_true rfl
theorem ylR_35 : vv_TR.1 35 = (1, 36, []) := rfl
theorem ynR_35 : 35 < vv_TR.2 := Nat.le_of_ble_eq_true rfl
theorem ylR_36 : vv_TR.1 36 = (1, 36, []) := rfl
theorem ynR_36 : 36 < vv_TR.2 := Nat.le_of_ble_eq_true rfl
theorem ylR_37 : vv_TR.1 37 = (1, 36, []) := rfl
theorem ynR_37 : 37 < vv_TR.2 := Nat.le_of_ble_eq_true rfl
theorem ylR_38 : vv_TR.1 38 = (1, 36, []) := rfl
theorem ynR_38 : 38 < vv_TR.2 := Nat.le_of_ble_eq_true rfl
theorem ylR_39 : vv_TR.1 39 = (4, 432, []) := rfl
theorem ynR_39 : 39 < vv_TR.2 := Nat.le_of_ble_eq_true rfl
theorem ylR_40 : vv_TR.1 40 = (1, 36, []) := rfl
theorem ynR_40 : 40 < vv_TR.2 := Nat.le_of_ble_eq_true rfl
theorem ylR_41 : vv_TR.1 41 = (1, 36, []) := rfl
theorem ynR_41 : 41 < vv_TR.2 := Nat.le_of_ble_eq_true rfl
theorem ylR_42 : vv_TR.1 42 = (1, 36, []) := rfl
theorem ynR_42 : 42 < vv_TR.2 := Nat.le_of_ble_eq_true rfl
theorem ylR_43 : vv_TR.1 43 = (4, 36, []) := rfl
theorem ynR_43 : 43 < vv_TR.2 := Nat.le_of_ble_eq_true rfl
theorem ylR_44 : vv_TR.1 44 = (4, 36, []) := rfl
theorem ynR_44 : 44 < vv_TR.2 := Nat.le_of_ble_eq_true rfl
theorem ylR_45 : vv_TR.1 45 = (1, 12, []) := rfl
theorem ynR_45 : 45 < vv_TR.2 := Nat.le_of_ble_eq_true rfl
theorem ylR_46 : vv_TR.1 46 = (1, 12, []) := rfl
theorem ynR_46 : 46 < vv_TR.2 := Nat.le_of_ble_eq_true rfl
theorem ylR_47 : vv_TR.1 47 = (1, 12, []) := rfl
theorem ynR_47 : 47 < vv_TR.2 := Nat.le_of_ble_eq_true rfl
theorem ylR_48 : vv_TR.1 48 = (1, 12, []) := rfl
theorem ynR_48 : 48 < vv_TR.2 := Nat.le_of_ble_eq_true rfl
theorem ylR_49 : vv_TR.1 49 = (1, 12, []) := rfl
theorem ynR_49 : 49 < vv_TR.2 := Nat.le_of_ble_eq_true rfl
theorem ylR_50 : vv_TR.1 50 = (1, 12, []) := rfl
theorem ynR_50 : 50 < vv_TR.2 := Nat.le_of_ble_eq_true rfl
theorem ylR_51 : vv_TR.1 51 = (1, 4, []) := rfl
theorem ynR_51 : 51 < vv_TR.2 := Nat.le_of_ble_eq_true rfl
theorem ylR_52 : vv_TR.1 52 = (2, 1369, []) := rfl
theorem ynR_52 : 52 < vv_TR.2 := Nat.le_of_ble_eq_true rfl
theorem ylR_53 : vv_TR.1 53 = (1, 4, []) := rfl
theorem ynR_53 : 53 < vv_TR.2 := Nat.le_of_ble_eq_true rfl
theorem ylR_54 : vv_TR.1 54 = (1, 4, []) := rfl
theorem ynR_54 : 54 < vv_TR.2 := Nat.le_of_ble_eq_true rfl
theorem ylR_55 : vv_TR.1 55 = (1, 240, []) := rfl
theorem ynR_55 : 55 < vv_TR.2 := Nat.le_of_ble_eq_true rfl
theorem yr_0 (b : Bool) : vv_TC.1 (vv_rid b) = (0, 6, [(0, 0), (1, vv_rid b + 1), (1, vv_rid b + 2), (1, vv_rid b + 3), (1, vv_rid b + 4), (1, vv_rid b + 5), (1, vv_rid b + 6), (1, vv_rid b + 19), (1, vv_rid b + 32)]) ∧ vv_rid b < vv_TC.2 := by cases b <;> exact ⟨rfl, Nat.le_of_ble_eq_true rfl⟩
theorem yr_1 (b : Bool) : vv_TC.1 (vv_rid b + 1) = (1, 12, []) ∧ vv_rid b + 1 < vv_TC.2 := by cases b <;> exact ⟨rfl, Nat.le_of_ble_eq_true rfl⟩
theorem yr_2 (b : Bool) : vv_TC.1 (vv_rid b + 2) = (1, 12, []) ∧ vv_rid b + 2 < vv_TC.2 := by cases b <;> exact ⟨rfl, Nat.le_of_ble_eq_true rfl⟩
theorem yr_3 (b : Bool) : vv_TC.1 (vv_rid b + 3) = (1, 12, []) ∧ vv_rid b + 3 < vv_TC.2 := by cases b <;> exact ⟨rfl, Nat.le_of_ble_eq_true rfl⟩
theorem yr_4 (b : Bool) : vv_TC.1 (vv_rid b + 4) = (1, 12, []) ∧ vv_rid b + 4 < vv_TC.2 := by cases b <;> exact ⟨rfl, Nat.le_of_ble_eq_true rfl⟩
theorem yr_5 (b : Bool) : vv_TC.1 (vv_rid b + 5) = (1, 12, []) ∧ vv_rid b + 5 < vv_TC.2 := by cases b <;> exact ⟨rfl, Nat.le_of_ble_eq_true rfl⟩
theorem yr_6 (b : Bool) : vv_TC.1 (vv_rid b + 6) = (5, 12, [(vv_rid b + 7, 0)]) ∧ vv_rid b + 6 < vv_TC.2 := by cases b <;> exact ⟨rfl, Nat.le_of_ble_eq_true rfl⟩
theorem ywr_6_a : ∀ b : Bool, ∀ j, j < 12 → vv_TC.1 ((vv_rid b + 7) + j) = (1, 3, []) ∧ (vv_rid b + 7) + j < vv_TC.2 := by decide +kernel
theorem ywr_6 (b : Bool) {i : Int32} (h : vp_in i 12) : vv_TC.1 ((vv_rid b + 7) + i.toNatClampNeg) = (1, 3, []) ∧ (vv_rid b + 7) + i.toNatClampNeg < vv_TC.2 := ywr_6_a b _ (Nat.not_le.mp fun z => h (Or.inr z))
theorem yr_19 (b : Bool) : vv_TC.1 (vv_rid b + 19) = (5, 12, [(vv_rid b + 20, 0)]) ∧ vv_rid b + 19 < vv_TC.2 := by cases b <;> exact ⟨rfl, Nat.le_of_ble_eq_true rfl⟩
theorem ywr_19_a : ∀ b : Bool, ∀ j, j < 12 → vv_TC.1 ((vv_rid b + 20) + j) = (1, 3, []) ∧ (vv_rid b + 20) + j < vv_TC.2 := by decide +kernel
theorem ywr_19 (b : Bool) {i : Int32} (h : vp_in i 12) : vv_TC.1 ((vv_rid b + 20) + i.toNatClampNeg) = (1, 3, []) ∧ (vv_rid b + 20) + i.toNatClampNeg < vv_TC.2 := ywr_19_a b _ (Nat.not_le.mp fun z => h (Or.inr z))
theorem yr_32 (b : Bool) : vv_TC.1 (vv_rid b + 32) = (5, 12, [(vv_rid b + 33, 0)]) ∧ vv_rid b + 32 < vv_TC.2 := by cases b <;> exact ⟨rfl, Nat.le_of_ble_eq_true rfl⟩
theorem ywr_32_a : ∀ b : Bool, ∀ j, j < 12 → vv_TC.1 ((vv_rid b + 33) + j) = (1, 3, []) ∧ (vv_rid b + 33) + j < vv_TC.2 := by decide +kernel
theorem ywr_32 (b : Bool) {i : Int32} (h : vp_in i 12) : vv_TC.1 ((vv_rid b + 33) + i.toNatClampNeg) = (1, 3, []) ∧ (vv_rid b + 33) + i.toNatClampNeg < vv_TC.2 := ywr_32_a b _ (Nat.not_le.mp fun z => h (Or.inr z))
theorem yu_0 : ∀ a, a ≠ 0 → ∀ (i d : Nat), (vv_TC.1 a).2.2[i]? = some (2, d) → d ≠ 0 := by
  intro a ha i d hh
  have key : ∀ a, a < 184 → a ≠ 0 → ∀ e ∈ (vv_TC.1 a).2.2, e.1 ≠ 2 := by decide +kernel
  by_cases hl : a < 184
  · exact absurd rfl (key a hl ha (2, d) (List.mem_of_getElem? hh))
  · have e : vv_TC.1 a = (9, 0, []) := by
      show vv_lC.getD a (9, 0, []) = _
      rw [List.getD_eq_getElem?_getD, List.getElem?_eq_none (by show 184 ≤ a; omega)]
      rfl
    rw [e] at hh
    simp at hh
theorem yu2_0 : ∀ i, i ≠ 7 → ∀ d : Nat, ([(0, 0), (0, 0), (1, 1), (1, 16), (1, 22), (1, 50), (1, 55), (2, 0), (2, 1), (1, 146), (1, 156), (1, 167), (1, 170), (1, 176)] : List (Nat × Nat))[i]? = some (2, d) → d ≠ 0 := by
  intro i hi d hh he
  subst he
  have key : ∀ i, i < 14 → i ≠ 7 → ([(0, 0), (0, 0), (1, 1), (1, 16), (1, 22), (1, 50), (1, 55), (2, 0), (2, 1), (1, 146), (1, 156), (1, 167), (1, 170), (1, 176)] : List (Nat × Nat))[i]? ≠ some (2, 0) := by decide +kernel
  by_cases hl : i < 14
  · exact key i hl hi hh
  · rw [List.getElem?_eq_none (by show 14 ≤ i; omega)] at hh
    cases hh
theorem yu_1 : ∀ a, a ≠ 0 → ∀ (i d : Nat), (vv_TC.1 a).2.2[i]? = some (2, d) → d ≠ 1 := by
  intro a ha i d hh
  have key : ∀ a, a < 184 → a ≠ 0 → ∀ e ∈ (vv_TC.1 a).2.2, e.1 ≠ 2 := by decide +kernel
  by_cases hl : a < 184
  · exact absurd rfl (key a hl ha (2, d) (List.mem_of_getElem? hh))
  · have e : vv_TC.1 a = (9, 0, []) := by
      show vv_lC.getD a (9, 0, []) = _
      rw [List.getD_eq_getElem?_getD, List.getElem?_eq_none (by show 184 ≤ a; omega)]
      rfl
    rw [e] at hh
    simp at hh
theorem yu2_1 : ∀ i, i ≠ 8 → ∀ d : Nat, ([(0, 0), (0, 0), (1, 1), (1, 16), (1, 22), (1, 50), (1, 55), (2, 0), (2, 1), (1, 146), (1, 156), (1, 167), (1, 170), (1, 176)] : List (Nat × Nat))[i]? = some (2, d) → d ≠ 1 := by
  intro i hi d hh he
  subst he
  have key : ∀ i, i < 14 → i ≠ 8 → ([(0, 0), (0, 0), (1, 1), (1, 16), (1, 22), (1, 50), (1, 55), (2, 0), (2, 1), (1, 146), (1, 156), (1, 167), (1, 170), (1, 176)] : List (Nat × Nat))[i]? ≠ some (2, 1) := by decide +kernel
  by_cases hl : i < 14
  · exact key i hl hi hh
  · rw [List.getElem?_eq_none (by show 14 ≤ i; omega)] at hh
    cases hh
theorem inX0 : ∀ w ∈ u_ws RX0 TX0 3, w ∈ vv_Tg := by decide +kernel
theorem inX1 : ∀ w ∈ u_ws RX1 TX1 5, w ∈ vv_Tg := by decide +kernel
theorem inX2 : ∀ w ∈ u_ws RX2 TX2 6, w ∈ vv_Tg := by decide +kernel
theorem inX3 : ∀ w ∈ u_ws RX3 TX3 9, w ∈ vv_Tg := by decide +kernel
theorem inX4 : ∀ w ∈ u_ws RX4 TX4 11, w ∈ vv_Tg := by decide +kernel
theorem inX5 : ∀ w ∈ u_ws RX5 TX5 4, w ∈ vv_Tg := by decide +kernel
theorem inX6 : ∀ w ∈ u_ws RX6 TX6 9, w ∈ vv_Tg := by decide +kernel
theorem inX7 : ∀ w ∈ u_ws RX7 TX7 3, w ∈ vv_Tg := by decide +kernel
theorem inX8 : ∀ w ∈ u_ws RX8 TX8 4, w ∈ vv_Tg := by decide +kernel
theorem inX9 : ∀ w ∈ u_ws RX9 TX9 7, w ∈ vv_Tg := by decide +kernel
theorem inX10 : ∀ w ∈ u_ws RX10 TX10 6, w ∈ vv_Tg := by decide +kernel
theorem inX11 : ∀ w ∈ u_ws RX11 TX11 14, w ∈ vv_Tg := by decide +kernel
theorem inX12 : ∀ w ∈ u_ws RX12 TX12 73, w ∈ vv_Tg := by decide +kernel
def vv_F : Nat := 1048576
theorem vv_F_eq : vv_F = 1048576 := rfl
def vv_rm (d : Nat) : Room := { frames := d, cells := 0, slots := 0, locals := 64 * d }
def vv_let {α β : Type} (a : α) (f : α → β) : β := f a
theorem vv_let_of {α β : Type} {a : α} {f : α → Option β} {r : β} (hm : vv_let a f = some r) : ∃ y, y = a ∧ f y = some r := ⟨a, rfl, hm⟩
theorem vv_letE {α β : Type} {a y : α} {f : α → Option β} {r : β} (hm : vv_let a f = some r) (e : y = a) : f y = some r := e ▸ hm
def vv_sa (x : vv_E) (k : Nat) : Nat := x.2.2.2.2.1 k
def vv_sch (k j : Nat) : Int32 := (vv_sbyt.getD k []).getD j 0
def vv_cp (h : vv_H) (a b : Nat) : vv_H := (fun k => if k = b then va_cpy (h.1 a) (h.1 b) 0 0 16 else h.1 k, h.2)
section RX
variable {x : vv_E} {T : vv_T} {M : vv_M} {post : Option Value → vv_H → Prop} {pc q : Nat} {lo : List (Option Value)} {st : List Value} {h : vv_H}
theorem rr_alenP {k n : Nat} {fs : List (Nat × Nat)} (hl : T.1 k = (1, n, fs)) (hk : k < T.2) (d : decode M.1 pc = .ok (.arraylength, 1)) (eq : pc + 1 = q) (kk : vv_V x T M post q lo (.int (Int32.ofNat n) :: st) h) : vv_V x T M post pc lo (.ref (vv_ad x k) :: st) h :=
  rr_alen (t0 := 0) (cA := x.2.2.1 0) (y := (n, .inl (h.1 k))) (ty := .int) hk (by simp only [vv_c, hl]) rfl rfl d eq kk
theorem rr_alenL {k n : Nat} {fs : List (Nat × Nat)} (hl : T.1 k = (2, n, fs)) (hk : k < T.2) (d : decode M.1 pc = .ok (.arraylength, 1)) (eq : pc + 1 = q) (kk : vv_V x T M post q lo (.int (Int32.ofNat n) :: st) h) : vv_V x T M post pc lo (.ref (vv_ad x k) :: st) h :=
  rr_alen (t0 := 1) (cA := x.2.2.1 1) (y := (n, .inr (.inl (h.2.1 k)))) (ty := .long) hk (by simp only [vv_c, hl]) rfl rfl d eq kk
theorem rr_ldcw {idx : Nat} {v : Int32} (d : decode M.1 pc = .ok (.ldc_w idx, 3)) (eq : pc + 3 = q) (hw : Cond.constant M.2.2.1 idx v ∈ vv_Tg) (k : vv_V x T M post q lo (.int v :: st) h) : vv_V x T M post pc lo st h := by
  subst eq
  intro p e s m args below meth c H locs ls A P S L
  exact lv_ldcw A.1 A.2.1 A.2.2.2.1 (A.2.2.2.2.1 _ hw) d (k p e s m args below meth c H locs ls A P S L)
theorem rr_ldcs (i : Nat) (hi : i < 9) (hM : M.2.2.1 = RX10) (d : decode M.1 pc = .ok (.ldc (vv_sidx.getD i 0), 2)) (eq : pc + 2 = q) (kk : vv_V x T M post q lo (.ref (vv_sa x i) :: st) h) : vv_V x T M post pc lo st h := by
  subst eq
  intro p e s m args below meth c H locs ls A P S L
  exact va_ldcS A.1 A.2.1 (A.2.2.2.1) (by rw [hM]; exact A.2.2.2.2.2.2.2.2.2.2.2 i hi) d (kk p e s m args below meth c H locs ls A P S L)
theorem rr_copy {a b idx : Nat} {fa fb : List (Nat × Nat)} (hla : T.1 a = (1, 16, fa)) (hka : a < T.2) (hlb : T.1 b = (1, 16, fb)) (hkb : b < T.2) (hab : a ≠ b) (hw : Cond.methodLink M.2.2.1 idx arraycopyName ∈ vv_Tg) (h1 : Cond.native arraycopyName ∈ vv_Tg) (h2 : Cond.static arraycopyName ∈ vv_Tg) (h3 : Cond.initialized "java/lang/System" ∈ vv_Tg) (hR : 1 ≤ M.2.2.2.2.frames ∧ (st.map fun v => v.category).sum + (nativeFrameWords "java/lang/System" "arraycopy" 5 + 11) ≤ M.2.2.2.2.locals) (d : decode M.1 pc = .ok (.invokestatic idx, 3)) (eq : pc + 3 = q) (kk : vv_V x T M post q lo st (vv_cp h a b)) : vv_V x T M post pc lo (.int 16 :: .int 0 :: .ref (vv_ad x b) :: .int 0 :: .ref (vv_ad x a) :: st) h := by
  subst eq
  intro p e s m args below meth c H locs ls A P S L
  have hts := A.2.2.2.2.1
  refine va_copyi (n0 := 16) (n1 := 16) (f := h.1 a) (g := h.1 b) (ty := .int) A.1 A.2.1 (A.2.2.1.trans L.1.symm) A.2.2.2.1 (hts _ hw) (hts _ h1) (hts _ h2) (hts _ h3) A.2.2.2.2.2.1 P (vv_D A.2.2.2.2.2.2.1 h) S a b 0 0 (by rw [vv_w_get hka]; simp only [vv_c, hla]) (by rw [vv_w_get hkb]; simp only [vv_c, hlb]) rfl rfl rfl (by decide) (by decide) (by decide) (by decide) (by decide) (fun i _ => rfl) hR.1 hR.2 d (fun H1 locs1 P1 _ S1 => ?_)
  rw [vv_w_set hkb (h' := vv_cp h a b) (by simp only [vv_c, hlb, vv_cp]; rfl) (fun j hj => ?_)] at P1
  · exact kk p e s m args below meth c H1 locs1 ls A P1 S1 L
  · have e1 : (vv_cp h a b).1 j = h.1 j := if_neg hj
    simp only [vv_c, vv_fs, vv_fv, e1]
    rfl
theorem rr_slen {i : Nat} (hi : i < 9) (hM : (M.2.2.1, M.2.2.2.2) = (RX10, jd_rm 6)) (d : decode M.1 pc = .ok (.invokevirtual 79, 3)) (eq : pc + 3 = q) (kk : vv_V x T M post q lo (.int (Int32.ofNat (vv_slen.getD i 0)) :: st) h) (hW : (st.map fun v => v.category).sum ≤ 8 := by exact Nat.le_of_ble_eq_true rfl) : vv_V x T M post pc lo (.ref (vv_sa x i) :: st) h := by
  obtain ⟨h1, h2⟩ := Prod.mk.inj hM
  refine rj_callV (As := []) (st := st) hi rfl (jc_length hi) rfl vy_length (by rw [h1]; exact jd_at 4 rfl) (by rw [h2]; exact ⟨Nat.le_of_ble_eq_true rfl, Nat.le_of_ble_eq_true rfl⟩) hW d eq kk
theorem rr_sch {i : Nat} {j : Int32} (hi : i < 9) (hj : vp_in j (vv_slen.getD i 0)) (hM : (M.2.2.1, M.2.2.2.2) = (RX10, jd_rm 6)) (d : decode M.1 pc = .ok (.invokevirtual 84, 3)) (eq : pc + 3 = q) (kk : vv_V x T M post q lo (.int (vv_sch i j.toNatClampNeg) :: st) h) (hW : (st.map fun v => v.category).sum ≤ 8 := by exact Nat.le_of_ble_eq_true rfl) : vv_V x T M post pc lo (.int j :: .ref (vv_sa x i) :: st) h := by
  obtain ⟨h1, h2⟩ := Prod.mk.inj hM
  refine rj_callV (As := [.int j]) (st := st) hi rfl (jc_ch0 hi hj) rfl vy_ch0 (by rw [h1]; exact jd_at 5 rfl) (by rw [h2]; exact ⟨Nat.le_of_ble_eq_true rfl, Nat.le_of_ble_eq_true rfl⟩) hW d eq kk
end RX
