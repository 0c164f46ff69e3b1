/-! ===== rows ===== -/
theorem XR_make_L20_e {r P : Nat} (hr : r < 6) : ∀ (m n : Nat) (h : sd_H) (l : Nat), l + m = 24 * r + 24 → m < n → XR_make_L20 n h P (nI r) (nI l) = some (fI (fD h (P + 3) l (24 * r + 24) FP.dconst0) (P + 4) l (24 * r + 24) (-1))
  | _, 0, _, _, _, q => absurd q (Nat.not_lt_zero _)
  | 0, n + 1, h, l, e, _ => by
    unfold XR_make_L20
    simp (disch := omega) only [lit 2, lit 3, lit 4, lit 5, lit 6, lit 9, lit 10, lit 11, lit 12, lit 18, lit 20, lit 22, lit 23, lit 24, lit 60, lit 63, lit 64, lit 100, lit 120, lit 144, lit 240, lit 255, lit 1440, nI_leI, nI_ltI, nI_eqI, nI_add, nI_1, nI_1a, nI_m1, pk_mul, pk_sub, pk_rem, pk_div, nI_clamp, inB_n, nI_ne_m1, m1_ne_nI, nI_nle0, nI_nlt0, n0lt, n0le, n0eq, n1eq, nle0, nlt0, gd_t, b1_s, b2_s, hb_s, sd_isB_0, sd_isB_1]
    rw [if_pos (by omega), fD_nil _ _ (by omega), fI_nil _ _ (by omega)]
  | m + 1, n + 1, h, l, e, q => by
    unfold XR_make_L20
    simp (disch := omega) only [lit 2, lit 3, lit 4, lit 5, lit 6, lit 9, lit 10, lit 11, lit 12, lit 18, lit 20, lit 22, lit 23, lit 24, lit 60, lit 63, lit 64, lit 100, lit 120, lit 144, lit 240, lit 255, lit 1440, nI_leI, nI_ltI, nI_eqI, nI_add, nI_1, nI_1a, nI_m1, pk_mul, pk_sub, pk_rem, pk_div, nI_clamp, inB_n, nI_ne_m1, m1_ne_nI, nI_nle0, nI_nlt0, n0lt, n0le, n0eq, n1eq, nle0, nlt0, gd_t, b1_s, b2_s, hb_s, sd_isB_0, sd_isB_1]
    rw [if_neg (by omega), XR_make_L20_e hr m n _ (l + 1) (by omega) (by omega), fD_wI, fI_st (by omega), fD_st (by omega)]
theorem XR_make_e {r P : Nat} (h : sd_H) (hr : r < 6) (f z : Int32) : XR_make h P (nI r) f z = some (fI (fD (wI (wI h (P + 1) r f) (P + 2) r z) (P + 3) (24 * r) (24 * r + 24) FP.dconst0) (P + 4) (24 * r) (24 * r + 24) (-1)) := by
  unfold XR_make
  simp (disch := omega) only [lit 2, lit 3, lit 4, lit 5, lit 6, lit 9, lit 10, lit 11, lit 12, lit 18, lit 20, lit 22, lit 23, lit 24, lit 60, lit 63, lit 64, lit 100, lit 120, lit 144, lit 240, lit 255, lit 1440, nI_leI, nI_ltI, nI_eqI, nI_add, nI_1, nI_1a, nI_m1, pk_mul, pk_sub, pk_rem, pk_div, nI_clamp, inB_n, nI_ne_m1, m1_ne_nI, nI_nle0, nI_nlt0, n0lt, n0le, n0eq, n1eq, nle0, nlt0, gd_t, b1_s, b2_s, hb_s, sd_isB_0, sd_isB_1]
  rw [Nat.mul_comm r 24, XR_make_L20_e hr 24 FU _ _ (by omega) (by decide)]
theorem YM_row_L52_e {r : Nat} (hr : r < 6) (z : Int32) : ∀ (m n : Nat) (h : sd_H) (l : Nat), l + m = 24 → m < n → YM_row_L52 n h (nI r) z (nI l) = some (fI (fD h 129 (24 * r + l) (24 * r + 24) FP.dconst0) 130 (24 * r + l) (24 * r + 24) (-1), z)
  | _, 0, _, _, _, q => absurd q (Nat.not_lt_zero _)
  | 0, n + 1, h, l, e, _ => by
    unfold YM_row_L52
    simp (disch := omega) only [lit 2, lit 3, lit 4, lit 5, lit 6, lit 9, lit 10, lit 11, lit 12, lit 18, lit 20, lit 22, lit 23, lit 24, lit 60, lit 63, lit 64, lit 100, lit 120, lit 144, lit 240, lit 255, lit 1440, nI_leI, nI_ltI, nI_eqI, nI_add, nI_1, nI_1a, nI_m1, pk_mul, pk_sub, pk_rem, pk_div, nI_clamp, inB_n, nI_ne_m1, m1_ne_nI, nI_nle0, nI_nlt0, n0lt, n0le, n0eq, n1eq, nle0, nlt0, gd_t, b1_s, b2_s, hb_s, sd_isB_0, sd_isB_1]
    rw [if_pos (by omega), fD_nil _ _ (by omega), fI_nil _ _ (by omega)]
  | m + 1, n + 1, h, l, e, q => by
    unfold YM_row_L52
    simp (disch := omega) only [lit 2, lit 3, lit 4, lit 5, lit 6, lit 9, lit 10, lit 11, lit 12, lit 18, lit 20, lit 22, lit 23, lit 24, lit 60, lit 63, lit 64, lit 100, lit 120, lit 144, lit 240, lit 255, lit 1440, nI_leI, nI_ltI, nI_eqI, nI_add, nI_1, nI_1a, nI_m1, pk_mul, pk_sub, pk_rem, pk_div, nI_clamp, inB_n, nI_ne_m1, m1_ne_nI, nI_nle0, nI_nlt0, n0lt, n0le, n0eq, n1eq, nle0, nlt0, gd_t, b1_s, b2_s, hb_s, sd_isB_0, sd_isB_1]
    rw [if_neg (by omega), YM_row_L52_e hr z m n _ (l + 1) (by omega) (by omega), fD_wI, ← Nat.add_assoc, fI_st (by omega), fD_st (by omega)]
theorem YM_lose_L35_e {r : Nat} (hr : r < 6) : ∀ (m n : Nat) (h : sd_H) (l : Nat), l + m = 24 → m < n → YM_lose_L35 n h (nI r) (nI l) = some (fI h 130 (24 * r + l) (24 * r + 24) (-1), h.1 128 r)
  | _, 0, _, _, _, q => absurd q (Nat.not_lt_zero _)
  | 0, n + 1, h, l, e, _ => by
    unfold YM_lose_L35
    simp (disch := omega) only [lit 2, lit 3, lit 4, lit 5, lit 6, lit 9, lit 10, lit 11, lit 12, lit 18, lit 20, lit 22, lit 23, lit 24, lit 60, lit 63, lit 64, lit 100, lit 120, lit 144, lit 240, lit 255, lit 1440, nI_leI, nI_ltI, nI_eqI, nI_add, nI_1, nI_1a, nI_m1, pk_mul, pk_sub, pk_rem, pk_div, nI_clamp, inB_n, nI_ne_m1, m1_ne_nI, nI_nle0, nI_nlt0, n0lt, n0le, n0eq, n1eq, nle0, nlt0, gd_t, b1_s, b2_s, hb_s, sd_isB_0, sd_isB_1]
    rw [if_pos (by omega), fI_nil _ _ (by omega)]
  | m + 1, n + 1, h, l, e, q => by
    unfold YM_lose_L35
    simp (disch := omega) only [lit 2, lit 3, lit 4, lit 5, lit 6, lit 9, lit 10, lit 11, lit 12, lit 18, lit 20, lit 22, lit 23, lit 24, lit 60, lit 63, lit 64, lit 100, lit 120, lit 144, lit 240, lit 255, lit 1440, nI_leI, nI_ltI, nI_eqI, nI_add, nI_1, nI_1a, nI_m1, pk_mul, pk_sub, pk_rem, pk_div, nI_clamp, inB_n, nI_ne_m1, m1_ne_nI, nI_nle0, nI_nlt0, n0lt, n0le, n0eq, n1eq, nle0, nlt0, gd_t, b1_s, b2_s, hb_s, sd_isB_0, sd_isB_1]
    rw [if_neg (by omega), YM_lose_L35_e hr m n _ (l + 1) (by omega) (by omega), ← Nat.add_assoc, fI_st (by omega)]
    simp (disch := omega) only [wI_d, wD_i, fI_d, fD_i, wI_eq, wD_eq, wI_ne, wD_ne, fI_ne, fD_ne, wI_ns, wD_ns, fI_eq, fD_eq, fI_ns, fD_ns]
