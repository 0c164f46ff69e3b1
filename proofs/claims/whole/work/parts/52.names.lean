/-! ===== statement: the names as the model asks them ===== -/
theorem ty2_e {h : sd_H} {n : Nat} (hn : n ≤ 5) (e2 : h.1 126 20 = nI n) {a b : Int32} : YM_isTyped h a b 0 0 0 = some (bi (decide (n = 2) && (decide (a = h.1 142 0) && (decide (b = h.1 142 1) && true)))) := by
  have en : (nI n = 2) = (n = 2) := nI_eqI (a := n) (b := 2) (by omega) (by omega)
  unfold YM_isTyped YM_isTyped_B27 YM_isTyped_B62 YM_isTyped_B63 YM_isTyped_B86 YM_isTyped_B103 YM_isTyped_B107 YM_isTyped_B108 YM_isTyped_B132
  have z : ((0 : Int32) ≤ 0) = True := by decide
  have l23 : ((2 : Int32) < 3) = True := by decide
  have l24 : ((2 : Int32) < 4) = True := by decide
  have l25 : ((2 : Int32) < 5) = True := by decide
  have l33 : ((3 : Int32) < 3) = False := by decide
  have l34 : ((3 : Int32) < 4) = True := by decide
  have l35 : ((3 : Int32) < 5) = True := by decide
  have l43 : ((4 : Int32) < 3) = False := by decide
  have l44 : ((4 : Int32) < 4) = False := by decide
  have l45 : ((4 : Int32) < 5) = True := by decide
  have l53 : ((5 : Int32) < 3) = False := by decide
  have l54 : ((5 : Int32) < 4) = False := by decide
  have l55 : ((5 : Int32) < 5) = False := by decide
  simp only [e2, en, i0, i1, i2, i3, i4, z, l23, l24, l25, l33, l34, l35, l43, l44, l45, l53, l54, l55, z10, if_true, if_false, eq_comm (a := h.1 142 0), eq_comm (a := h.1 142 1), eq_comm (a := h.1 142 2), eq_comm (a := h.1 142 3), eq_comm (a := h.1 142 4)]
  by_cases q : n = 2
  · by_cases c0 : a = h.1 142 0
    · by_cases c1 : b = h.1 142 1
      · simp [q, c0, c1, bi]
      · simp [q, c0, c1, bi]
    · simp [q, c0, bi]
  · simp [q, bi]
theorem ty3_e {h : sd_H} {n : Nat} (hn : n ≤ 5) (e2 : h.1 126 20 = nI n) {a b c : Int32} (p2 : ¬ c ≤ 0) : YM_isTyped h a b c 0 0 = some (bi (decide (n = 3) && (decide (a = h.1 142 0) && (decide (b = h.1 142 1) && (decide (c = h.1 142 2) && true))))) := by
  have en : (nI n = 3) = (n = 3) := nI_eqI (a := n) (b := 3) (by omega) (by omega)
  unfold YM_isTyped YM_isTyped_B27 YM_isTyped_B62 YM_isTyped_B63 YM_isTyped_B86 YM_isTyped_B103 YM_isTyped_B107 YM_isTyped_B108 YM_isTyped_B132
  have z : ((0 : Int32) ≤ 0) = True := by decide
  have l23 : ((2 : Int32) < 3) = True := by decide
  have l24 : ((2 : Int32) < 4) = True := by decide
  have l25 : ((2 : Int32) < 5) = True := by decide
  have l33 : ((3 : Int32) < 3) = False := by decide
  have l34 : ((3 : Int32) < 4) = True := by decide
  have l35 : ((3 : Int32) < 5) = True := by decide
  have l43 : ((4 : Int32) < 3) = False := by decide
  have l44 : ((4 : Int32) < 4) = False := by decide
  have l45 : ((4 : Int32) < 5) = True := by decide
  have l53 : ((5 : Int32) < 3) = False := by decide
  have l54 : ((5 : Int32) < 4) = False := by decide
  have l55 : ((5 : Int32) < 5) = False := by decide
  simp only [e2, en, i0, i1, i2, i3, i4, z, l23, l24, l25, l33, l34, l35, l43, l44, l45, l53, l54, l55, z10, if_true, if_false, p2, eq_comm (a := h.1 142 0), eq_comm (a := h.1 142 1), eq_comm (a := h.1 142 2), eq_comm (a := h.1 142 3), eq_comm (a := h.1 142 4)]
  by_cases q : n = 3
  · by_cases c0 : a = h.1 142 0
    · by_cases c1 : b = h.1 142 1
      · by_cases c2 : c = h.1 142 2
        · simp [q, c0, c1, c2, bi]
        · simp [q, c0, c1, c2, bi]
      · simp [q, c0, c1, bi]
    · simp [q, c0, bi]
  · simp [q, bi]
theorem ty4_e {h : sd_H} {n : Nat} (hn : n ≤ 5) (e2 : h.1 126 20 = nI n) {a b c d : Int32} (p2 : ¬ c ≤ 0) (p3 : ¬ d ≤ 0) : YM_isTyped h a b c d 0 = some (bi (decide (n = 4) && (decide (a = h.1 142 0) && (decide (b = h.1 142 1) && (decide (c = h.1 142 2) && (decide (d = h.1 142 3) && true)))))) := by
  have en : (nI n = 4) = (n = 4) := nI_eqI (a := n) (b := 4) (by omega) (by omega)
  unfold YM_isTyped YM_isTyped_B27 YM_isTyped_B62 YM_isTyped_B63 YM_isTyped_B86 YM_isTyped_B103 YM_isTyped_B107 YM_isTyped_B108 YM_isTyped_B132
  have z : ((0 : Int32) ≤ 0) = True := by decide
  have l23 : ((2 : Int32) < 3) = True := by decide
  have l24 : ((2 : Int32) < 4) = True := by decide
  have l25 : ((2 : Int32) < 5) = True := by decide
  have l33 : ((3 : Int32) < 3) = False := by decide
  have l34 : ((3 : Int32) < 4) = True := by decide
  have l35 : ((3 : Int32) < 5) = True := by decide
  have l43 : ((4 : Int32) < 3) = False := by decide
  have l44 : ((4 : Int32) < 4) = False := by decide
  have l45 : ((4 : Int32) < 5) = True := by decide
  have l53 : ((5 : Int32) < 3) = False := by decide
  have l54 : ((5 : Int32) < 4) = False := by decide
  have l55 : ((5 : Int32) < 5) = False := by decide
  simp only [e2, en, i0, i1, i2, i3, i4, z, l23, l24, l25, l33, l34, l35, l43, l44, l45, l53, l54, l55, z10, if_true, if_false, p2, p3, eq_comm (a := h.1 142 0), eq_comm (a := h.1 142 1), eq_comm (a := h.1 142 2), eq_comm (a := h.1 142 3), eq_comm (a := h.1 142 4)]
  by_cases q : n = 4
  · by_cases c0 : a = h.1 142 0
    · by_cases c1 : b = h.1 142 1
      · by_cases c2 : c = h.1 142 2
        · by_cases c3 : d = h.1 142 3
          · simp [q, c0, c1, c2, c3, bi]
          · simp [q, c0, c1, c2, c3, bi]
        · simp [q, c0, c1, c2, bi]
      · simp [q, c0, c1, bi]
    · simp [q, c0, bi]
  · simp [q, bi]
theorem ty5_e {h : sd_H} {n : Nat} (hn : n ≤ 5) (e2 : h.1 126 20 = nI n) {a b c d e : Int32} (p2 : ¬ c ≤ 0) (p3 : ¬ d ≤ 0) (p4 : ¬ e ≤ 0) : YM_isTyped h a b c d e = some (bi (decide (n = 5) && (decide (a = h.1 142 0) && (decide (b = h.1 142 1) && (decide (c = h.1 142 2) && (decide (d = h.1 142 3) && (decide (e = h.1 142 4) && true))))))) := by
  have en : (nI n = 5) = (n = 5) := nI_eqI (a := n) (b := 5) (by omega) (by omega)
  unfold YM_isTyped YM_isTyped_B27 YM_isTyped_B62 YM_isTyped_B63 YM_isTyped_B86 YM_isTyped_B103 YM_isTyped_B107 YM_isTyped_B108 YM_isTyped_B132
  have z : ((0 : Int32) ≤ 0) = True := by decide
  have l23 : ((2 : Int32) < 3) = True := by decide
  have l24 : ((2 : Int32) < 4) = True := by decide
  have l25 : ((2 : Int32) < 5) = True := by decide
  have l33 : ((3 : Int32) < 3) = False := by decide
  have l34 : ((3 : Int32) < 4) = True := by decide
  have l35 : ((3 : Int32) < 5) = True := by decide
  have l43 : ((4 : Int32) < 3) = False := by decide
  have l44 : ((4 : Int32) < 4) = False := by decide
  have l45 : ((4 : Int32) < 5) = True := by decide
  have l53 : ((5 : Int32) < 3) = False := by decide
  have l54 : ((5 : Int32) < 4) = False := by decide
  have l55 : ((5 : Int32) < 5) = False := by decide
  simp only [e2, en, i0, i1, i2, i3, i4, z, l23, l24, l25, l33, l34, l35, l43, l44, l45, l53, l54, l55, z10, if_true, if_false, p2, p3, p4, eq_comm (a := h.1 142 0), eq_comm (a := h.1 142 1), eq_comm (a := h.1 142 2), eq_comm (a := h.1 142 3), eq_comm (a := h.1 142 4)]
  by_cases q : n = 5
  · by_cases c0 : a = h.1 142 0
    · by_cases c1 : b = h.1 142 1
      · by_cases c2 : c = h.1 142 2
        · by_cases c3 : d = h.1 142 3
          · by_cases c4 : e = h.1 142 4
            · simp [q, c0, c1, c2, c3, c4, bi]
            · simp [q, c0, c1, c2, c3, c4, bi]
          · simp [q, c0, c1, c2, c3, bi]
        · simp [q, c0, c1, c2, bi]
      · simp [q, c0, c1, bi]
    · simp [q, c0, bi]
  · simp [q, bi]
theorem YM_isName_e {h : sd_H} {n j : Nat} (hn : n ≤ 5) (e2 : h.1 126 20 = nI n) (hj : j < 13) : YM_isName h (nI j) = some (bi (mt (h.1 142) n j)) := by
  have c : j = 0 ∨ j = 1 ∨ j = 2 ∨ j = 3 ∨ j = 4 ∨ j = 5 ∨ j = 6 ∨ j = 7 ∨ j = 8 ∨ j = 9 ∨ j = 10 ∨ j = 11 ∨ j = 12 := by omega
  unfold YM_isName
  rcases c with rfl | rfl | rfl | rfl | rfl | rfl | rfl | rfl | rfl | rfl | rfl | rfl | rfl
  · rw [if_pos (show nI 0 = 0 from rfl), ty3_e hn e2 (by decide), b1_s, gd_h (bi_B _)]
    by_cases q : n = 3
    · subst q
      rfl
    · rw [show mt (h.1 142) n 0 = false by unfold mt; rw [decide_eq_false (show ¬ sd_len.getD 0 0 = n from fun z => q (z.symm.trans rfl)), Bool.false_and], decide_eq_false q, Bool.false_and]
  · rw [if_neg (by decide), if_pos (show nI 1 = 1 from rfl), ty3_e hn e2 (by decide), b1_s, gd_h (bi_B _)]
    by_cases q : n = 3
    · subst q
      rfl
    · rw [show mt (h.1 142) n 1 = false by unfold mt; rw [decide_eq_false (show ¬ sd_len.getD 1 0 = n from fun z => q (z.symm.trans rfl)), Bool.false_and], decide_eq_false q, Bool.false_and]
  · rw [if_neg (by decide), if_neg (by decide), if_pos (show nI 2 = 2 from rfl), ty3_e hn e2 (by decide), b1_s, gd_h (bi_B _)]
    by_cases q : n = 3
    · subst q
      rfl
    · rw [show mt (h.1 142) n 2 = false by unfold mt; rw [decide_eq_false (show ¬ sd_len.getD 2 0 = n from fun z => q (z.symm.trans rfl)), Bool.false_and], decide_eq_false q, Bool.false_and]
  · rw [if_neg (by decide), if_neg (by decide), if_neg (by decide), if_pos (show nI 3 = 3 from rfl), ty3_e hn e2 (by decide), b1_s, gd_h (bi_B _)]
    by_cases q : n = 3
    · subst q
      rfl
    · rw [show mt (h.1 142) n 3 = false by unfold mt; rw [decide_eq_false (show ¬ sd_len.getD 3 0 = n from fun z => q (z.symm.trans rfl)), Bool.false_and], decide_eq_false q, Bool.false_and]
  · rw [if_neg (by decide), if_neg (by decide), if_neg (by decide), if_neg (by decide), if_pos (show nI 4 = 4 from rfl), ty3_e hn e2 (by decide), b1_s, gd_h (bi_B _)]
    by_cases q : n = 3
    · subst q
      rfl
    · rw [show mt (h.1 142) n 4 = false by unfold mt; rw [decide_eq_false (show ¬ sd_len.getD 4 0 = n from fun z => q (z.symm.trans rfl)), Bool.false_and], decide_eq_false q, Bool.false_and]
  · rw [if_neg (by decide), if_neg (by decide), if_neg (by decide), if_neg (by decide), if_neg (by decide), if_pos (show nI 5 = 5 from rfl), ty3_e hn e2 (by decide), b1_s, gd_h (bi_B _)]
    by_cases q : n = 3
    · subst q
      rfl
    · rw [show mt (h.1 142) n 5 = false by unfold mt; rw [decide_eq_false (show ¬ sd_len.getD 5 0 = n from fun z => q (z.symm.trans rfl)), Bool.false_and], decide_eq_false q, Bool.false_and]
  · rw [if_neg (by decide), if_neg (by decide), if_neg (by decide), if_neg (by decide), if_neg (by decide), if_neg (by decide), if_pos (show nI 6 = 6 from rfl), ty3_e hn e2 (by decide), b1_s, gd_h (bi_B _)]
    by_cases q : n = 3
    · subst q
      rfl
    · rw [show mt (h.1 142) n 6 = false by unfold mt; rw [decide_eq_false (show ¬ sd_len.getD 6 0 = n from fun z => q (z.symm.trans rfl)), Bool.false_and], decide_eq_false q, Bool.false_and]
  · rw [if_neg (by decide), if_neg (by decide), if_neg (by decide), if_neg (by decide), if_neg (by decide), if_neg (by decide), if_neg (by decide), if_pos (show nI 7 = 7 from rfl), ty2_e hn e2, b1_s, gd_h (bi_B _)]
    by_cases q : n = 2
    · subst q
      rfl
    · rw [show mt (h.1 142) n 7 = false by unfold mt; rw [decide_eq_false (show ¬ sd_len.getD 7 0 = n from fun z => q (z.symm.trans rfl)), Bool.false_and], decide_eq_false q, Bool.false_and]
  · rw [if_neg (by decide), if_neg (by decide), if_neg (by decide), if_neg (by decide), if_neg (by decide), if_neg (by decide), if_neg (by decide), if_neg (by decide), if_pos (show nI 8 = 8 from rfl), ty3_e hn e2 (by decide), b1_s, gd_h (bi_B _)]
    by_cases q : n = 3
    · subst q
      rfl
    · rw [show mt (h.1 142) n 8 = false by unfold mt; rw [decide_eq_false (show ¬ sd_len.getD 8 0 = n from fun z => q (z.symm.trans rfl)), Bool.false_and], decide_eq_false q, Bool.false_and]
  · rw [if_neg (by decide), if_neg (by decide), if_neg (by decide), if_neg (by decide), if_neg (by decide), if_neg (by decide), if_neg (by decide), if_neg (by decide), if_neg (by decide), if_pos (show nI 9 = 9 from rfl), ty4_e hn e2 (by decide) (by decide), b1_s, gd_h (bi_B _)]
    by_cases q : n = 4
    · subst q
      rfl
    · rw [show mt (h.1 142) n 9 = false by unfold mt; rw [decide_eq_false (show ¬ sd_len.getD 9 0 = n from fun z => q (z.symm.trans rfl)), Bool.false_and], decide_eq_false q, Bool.false_and]
  · rw [if_neg (by decide), if_neg (by decide), if_neg (by decide), if_neg (by decide), if_neg (by decide), if_neg (by decide), if_neg (by decide), if_neg (by decide), if_neg (by decide), if_neg (by decide), if_pos (show nI 10 = 10 from rfl), ty4_e hn e2 (by decide) (by decide), b1_s, gd_h (bi_B _)]
    by_cases q : n = 4
    · subst q
      rfl
    · rw [show mt (h.1 142) n 10 = false by unfold mt; rw [decide_eq_false (show ¬ sd_len.getD 10 0 = n from fun z => q (z.symm.trans rfl)), Bool.false_and], decide_eq_false q, Bool.false_and]
  · rw [if_neg (by decide), if_neg (by decide), if_neg (by decide), if_neg (by decide), if_neg (by decide), if_neg (by decide), if_neg (by decide), if_neg (by decide), if_neg (by decide), if_neg (by decide), if_neg (by decide), if_pos (show nI 11 = 11 from rfl), ty4_e hn e2 (by decide) (by decide), b1_s, gd_h (bi_B _)]
    by_cases q : n = 4
    · subst q
      rfl
    · rw [show mt (h.1 142) n 11 = false by unfold mt; rw [decide_eq_false (show ¬ sd_len.getD 11 0 = n from fun z => q (z.symm.trans rfl)), Bool.false_and], decide_eq_false q, Bool.false_and]
  · rw [if_neg (by decide), if_neg (by decide), if_neg (by decide), if_neg (by decide), if_neg (by decide), if_neg (by decide), if_neg (by decide), if_neg (by decide), if_neg (by decide), if_neg (by decide), if_neg (by decide), if_neg (by decide), ty5_e hn e2 (by decide) (by decide) (by decide), b1_s, gd_h (bi_B _)]
    by_cases q : n = 5
    · subst q
      rfl
    · rw [show mt (h.1 142) n 12 = false by unfold mt; rw [decide_eq_false (show ¬ sd_len.getD 12 0 = n from fun z => q (z.symm.trans rfl)), Bool.false_and], decide_eq_false q, Bool.false_and]
