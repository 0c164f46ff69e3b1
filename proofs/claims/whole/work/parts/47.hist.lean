/-! ===== the history ===== -/
def IHx (g : sd_H) (o n : Nat) : Prop := o < 20 ∧ n ≤ 20 ∧ g.1 33 1 = nI o ∧ g.1 33 2 = nI n
/-- x's cells but those of the history are the same -/
def FHx (g1 g : sd_H) : Prop := (∀ c, ¬ c = 33 → (c < 35 ∨ 54 < c) → g1.1 c = g.1 c) ∧ g1.2 = g.2
theorem sh_t (j : Nat) : sd_SH (35 + j % 20) = (100, 6) := by
  have := sha_34 (j := j % 20) (Nat.mod_lt _ (by omega))
  rw [Nat.one_mul] at this
  exact this
theorem i0 : ((0 : Int32)).toNatClampNeg = 0 := by decide
theorem i1 : ((1 : Int32)).toNatClampNeg = 1 := by decide
theorem i2 : ((2 : Int32)).toNatClampNeg = 2 := by decide
theorem i3 : ((3 : Int32)).toNatClampNeg = 3 := by decide
theorem i4 : ((4 : Int32)).toNatClampNeg = 4 := by decide
theorem i5 : ((5 : Int32)).toNatClampNeg = 5 := by decide
theorem XH_latest_e {g : sd_H} {o n : Nat} (x : IHx g o n) : XH_latest g = some (35 + (o + n + 19) % 20) := by
  obtain ⟨a, b, c, d⟩ := x
  unfold XH_latest
  simp (disch := omega) only [lit 2, lit 3, lit 4, lit 5, lit 6, lit 9, lit 10, lit 11, lit 12, lit 18, lit 20, lit 22, lit 23, lit 24, lit 60, lit 63, lit 64, lit 100, lit 120, lit 144, lit 240, lit 255, lit 1440, nI_leI, nI_ltI, nI_eqI, nI_add, nI_1, nI_1a, nI_m1, pk_mul, pk_sub, pk_rem, pk_div, nI_clamp, inB_n, nI_ne_m1, m1_ne_nI, nI_nle0, nI_nlt0, n0lt, n0le, n0eq, n1eq, nle0, nlt0, gd_t, b1_s, b2_s, hb_s, sd_isB_0, sd_isB_1, c, d]
  congr 1
  omega
def xN (g : sd_H) (t : Nat) (a k w : Int32) : sd_H := wI (wI (wI g t 0 a) t 1 k) t 2 w
theorem XH_note_B35_e {g : sd_H} {o n : Nat} (x : IHx g o n) (a k w : Int32) : XH_note_B35 g a k w = some (wI (wI (wI g (35 + (o + n + 19) % 20) 0 a) (35 + (o + n + 19) % 20) 1 k) (35 + (o + n + 19) % 20) 2 w) := by
  unfold XH_note_B35
  rw [XH_latest_e x, b1_s, gd_h (decide_eq_true (sh_t _)), i0, i1, i2]
  rfl
theorem XH_keep_e {g : sd_H} {o n : Nat} (x : IHx g o n) (h1 : 1 ≤ n) (a b c : Int32) : ∃ g1, XH_keep g a b c = some g1 ∧ IHx g1 o n ∧ FHx g1 g ∧
    (∀ p, p + 1 < n → g1.1 (35 + (o + p) % 20) = g.1 (35 + (o + p) % 20)) ∧
    (∀ j, j < 3 → g1.1 (35 + (o + (n - 1)) % 20) j = g.1 (35 + (o + (n - 1)) % 20) j) ∧
    g1.1 (35 + (o + (n - 1)) % 20) 3 = a ∧ g1.1 (35 + (o + (n - 1)) % 20) 4 = b ∧ g1.1 (35 + (o + (n - 1)) % 20) 5 = c := by
  have e := XH_latest_e x
  rw [show (o + n + 19) % 20 = (o + (n - 1)) % 20 by omega] at e
  refine ⟨wI (wI (wI g (35 + (o + (n - 1)) % 20) 3 a) (35 + (o + (n - 1)) % 20) 4 b) (35 + (o + (n - 1)) % 20) 5 c, ?_, ?_, ⟨fun c h h' => ?_, rfl⟩, fun p hp => ?_, fun j hj => ?_, ?_, ?_, ?_⟩
  · unfold XH_keep
    rw [e, b1_s, gd_h (decide_eq_true (sh_t _)), i3, i4, i5]
    rfl
  · obtain ⟨x1, x2, x3, x4⟩ := x
    refine ⟨x1, x2, ?_, ?_⟩ <;> simp (disch := omega) only [wI_d, wD_i, fI_d, fD_i, wI_eq, wD_eq, wI_ne, wD_ne, fI_ne, fD_ne, wI_ns, wD_ns, fI_eq, fD_eq, fI_ns, fD_ns] <;> assumption
  · simp (disch := omega) only [wI_d, wD_i, fI_d, fD_i, wI_eq, wD_eq, wI_ne, wD_ne, fI_ne, fD_ne, wI_ns, wD_ns, fI_eq, fD_eq, fI_ns, fD_ns]
  · have := x.1
    have := x.2.1
    simp (disch := omega) only [wI_d, wD_i, fI_d, fD_i, wI_eq, wD_eq, wI_ne, wD_ne, fI_ne, fD_ne, wI_ns, wD_ns, fI_eq, fD_eq, fI_ns, fD_ns]
  · simp (disch := omega) only [wI_d, wD_i, fI_d, fD_i, wI_eq, wD_eq, wI_ne, wD_ne, fI_ne, fD_ne, wI_ns, wD_ns, fI_eq, fD_eq, fI_ns, fD_ns]
  · simp (disch := omega) only [wI_d, wD_i, fI_d, fD_i, wI_eq, wD_eq, wI_ne, wD_ne, fI_ne, fD_ne, wI_ns, wD_ns, fI_eq, fD_eq, fI_ns, fD_ns]
  · simp (disch := omega) only [wI_d, wD_i, fI_d, fD_i, wI_eq, wD_eq, wI_ne, wD_ne, fI_ne, fD_ne, wI_ns, wD_ns, fI_eq, fD_eq, fI_ns, fD_ns]
  · simp (disch := omega) only [wI_d, wD_i, fI_d, fD_i, wI_eq, wD_eq, wI_ne, wD_ne, fI_ne, fD_ne, wI_ns, wD_ns, fI_eq, fD_eq, fI_ns, fD_ns]
theorem XH_note_e {g : sd_H} {o n : Nat} (x : IHx g o n) (a k w : Int32) : ∃ g1 o' n' d, XH_note g a k w = some g1 ∧ IHx g1 o' n' ∧ FHx g1 g ∧ n' + d = n + 1 ∧ (d = 0 ∧ n < 20 ∨ d = 1 ∧ n = 20) ∧
    (∀ p, p + 1 < n' → g1.1 (35 + (o' + p) % 20) = g.1 (35 + (o + (p + d)) % 20)) ∧
    g1.1 (35 + (o' + (n' - 1)) % 20) 0 = a ∧ g1.1 (35 + (o' + (n' - 1)) % 20) 1 = k ∧ g1.1 (35 + (o' + (n' - 1)) % 20) 2 = w := by
  obtain ⟨x1, x2, x3, x4⟩ := x
  by_cases hn : n = 20
  · subst hn
    have y : IHx (wI g 33 1 (nI ((o + 1) % 20))) ((o + 1) % 20) 20 := ⟨by omega, by omega, by simp (disch := omega) only [wI_d, wD_i, fI_d, fD_i, wI_eq, wD_eq, wI_ne, wD_ne, fI_ne, fD_ne, wI_ns, wD_ns, fI_eq, fD_eq, fI_ns, fD_ns], by simp (disch := omega) only [wI_d, wD_i, fI_d, fD_i, wI_eq, wD_eq, wI_ne, wD_ne, fI_ne, fD_ne, wI_ns, wD_ns, fI_eq, fD_eq, fI_ns, fD_ns]; exact x4⟩
    refine ⟨xN (wI g 33 1 (nI ((o + 1) % 20))) (35 + ((o + 1) % 20 + 20 + 19) % 20) a k w, (o + 1) % 20, 20, 1, ?_, ?_, ⟨fun c h h' => ?_, rfl⟩, rfl, Or.inr ⟨rfl, rfl⟩, fun p hp => ?_, ?_, ?_, ?_⟩
    · unfold XH_note
      simp (disch := omega) only [lit 2, lit 3, lit 4, lit 5, lit 6, lit 9, lit 10, lit 11, lit 12, lit 18, lit 20, lit 22, lit 23, lit 24, lit 60, lit 63, lit 64, lit 100, lit 120, lit 144, lit 240, lit 255, lit 1440, nI_leI, nI_ltI, nI_eqI, nI_add, nI_1, nI_1a, nI_m1, pk_mul, pk_sub, pk_rem, pk_div, nI_clamp, inB_n, nI_ne_m1, m1_ne_nI, nI_nle0, nI_nlt0, n0lt, n0le, n0eq, n1eq, nle0, nlt0, gd_t, b1_s, b2_s, hb_s, sd_isB_0, sd_isB_1, x3, x4]
      rw [if_pos trivial, show o + 1 - (o + 1) / 20 * 20 = (o + 1) % 20 by omega, XH_note_B35_e y]
      rfl
    · refine ⟨by omega, by omega, ?_, ?_⟩
      · simp (disch := omega) only [wI_d, wD_i, fI_d, fD_i, wI_eq, wD_eq, wI_ne, wD_ne, fI_ne, fD_ne, wI_ns, wD_ns, fI_eq, fD_eq, fI_ns, fD_ns, xN]
      · simp (disch := omega) only [wI_d, wD_i, fI_d, fD_i, wI_eq, wD_eq, wI_ne, wD_ne, fI_ne, fD_ne, wI_ns, wD_ns, fI_eq, fD_eq, fI_ns, fD_ns, xN]
        exact x4
    · simp (disch := omega) only [wI_d, wD_i, fI_d, fD_i, wI_eq, wD_eq, wI_ne, wD_ne, fI_ne, fD_ne, wI_ns, wD_ns, fI_eq, fD_eq, fI_ns, fD_ns, xN]
    · simp (disch := omega) only [wI_d, wD_i, fI_d, fD_i, wI_eq, wD_eq, wI_ne, wD_ne, fI_ne, fD_ne, wI_ns, wD_ns, fI_eq, fD_eq, fI_ns, fD_ns, xN]
      rw [show ((o + 1) % 20 + p) % 20 = (o + (p + 1)) % 20 by omega]
    · rw [show ((o + 1) % 20 + (20 - 1)) % 20 = ((o + 1) % 20 + 20 + 19) % 20 by omega]
      simp (disch := omega) only [wI_d, wD_i, fI_d, fD_i, wI_eq, wD_eq, wI_ne, wD_ne, fI_ne, fD_ne, wI_ns, wD_ns, fI_eq, fD_eq, fI_ns, fD_ns, xN]
    · rw [show ((o + 1) % 20 + (20 - 1)) % 20 = ((o + 1) % 20 + 20 + 19) % 20 by omega]
      simp (disch := omega) only [wI_d, wD_i, fI_d, fD_i, wI_eq, wD_eq, wI_ne, wD_ne, fI_ne, fD_ne, wI_ns, wD_ns, fI_eq, fD_eq, fI_ns, fD_ns, xN]
    · rw [show ((o + 1) % 20 + (20 - 1)) % 20 = ((o + 1) % 20 + 20 + 19) % 20 by omega]
      simp (disch := omega) only [wI_d, wD_i, fI_d, fD_i, wI_eq, wD_eq, wI_ne, wD_ne, fI_ne, fD_ne, wI_ns, wD_ns, fI_eq, fD_eq, fI_ns, fD_ns, xN]
  · have y : IHx (wI g 33 2 (nI (n + 1))) o (n + 1) := ⟨x1, by omega, by simp (disch := omega) only [wI_d, wD_i, fI_d, fD_i, wI_eq, wD_eq, wI_ne, wD_ne, fI_ne, fD_ne, wI_ns, wD_ns, fI_eq, fD_eq, fI_ns, fD_ns]; exact x3, by simp (disch := omega) only [wI_d, wD_i, fI_d, fD_i, wI_eq, wD_eq, wI_ne, wD_ne, fI_ne, fD_ne, wI_ns, wD_ns, fI_eq, fD_eq, fI_ns, fD_ns]⟩
    refine ⟨xN (wI g 33 2 (nI (n + 1))) (35 + (o + (n + 1) + 19) % 20) a k w, o, n + 1, 0, ?_, ?_, ⟨fun c h h' => ?_, rfl⟩, rfl, Or.inl ⟨rfl, by omega⟩, fun p hp => ?_, ?_, ?_, ?_⟩
    · unfold XH_note
      simp (disch := omega) only [lit 2, lit 3, lit 4, lit 5, lit 6, lit 9, lit 10, lit 11, lit 12, lit 18, lit 20, lit 22, lit 23, lit 24, lit 60, lit 63, lit 64, lit 100, lit 120, lit 144, lit 240, lit 255, lit 1440, nI_leI, nI_ltI, nI_eqI, nI_add, nI_1, nI_1a, nI_m1, pk_mul, pk_sub, pk_rem, pk_div, nI_clamp, inB_n, nI_ne_m1, m1_ne_nI, nI_nle0, nI_nlt0, n0lt, n0le, n0eq, n1eq, nle0, nlt0, gd_t, b1_s, b2_s, hb_s, sd_isB_0, sd_isB_1, x3, x4]
      rw [if_neg hn, XH_note_B35_e y]
      rfl
    · refine ⟨x1, by omega, ?_, ?_⟩
      · simp (disch := omega) only [wI_d, wD_i, fI_d, fD_i, wI_eq, wD_eq, wI_ne, wD_ne, fI_ne, fD_ne, wI_ns, wD_ns, fI_eq, fD_eq, fI_ns, fD_ns, xN]
        exact x3
      · simp (disch := omega) only [wI_d, wD_i, fI_d, fD_i, wI_eq, wD_eq, wI_ne, wD_ne, fI_ne, fD_ne, wI_ns, wD_ns, fI_eq, fD_eq, fI_ns, fD_ns, xN]
    · simp (disch := omega) only [wI_d, wD_i, fI_d, fD_i, wI_eq, wD_eq, wI_ne, wD_ne, fI_ne, fD_ne, wI_ns, wD_ns, fI_eq, fD_eq, fI_ns, fD_ns, xN]
    · simp (disch := omega) only [wI_d, wD_i, fI_d, fD_i, wI_eq, wD_eq, wI_ne, wD_ne, fI_ne, fD_ne, wI_ns, wD_ns, fI_eq, fD_eq, fI_ns, fD_ns, xN]
      rw [Nat.add_zero]
    · rw [show (o + (n + 1 - 1)) % 20 = (o + (n + 1) + 19) % 20 by omega]
      simp (disch := omega) only [wI_d, wD_i, fI_d, fD_i, wI_eq, wD_eq, wI_ne, wD_ne, fI_ne, fD_ne, wI_ns, wD_ns, fI_eq, fD_eq, fI_ns, fD_ns, xN]
    · rw [show (o + (n + 1 - 1)) % 20 = (o + (n + 1) + 19) % 20 by omega]
      simp (disch := omega) only [wI_d, wD_i, fI_d, fD_i, wI_eq, wD_eq, wI_ne, wD_ne, fI_ne, fD_ne, wI_ns, wD_ns, fI_eq, fD_eq, fI_ns, fD_ns, xN]
    · rw [show (o + (n + 1 - 1)) % 20 = (o + (n + 1) + 19) % 20 by omega]
      simp (disch := omega) only [wI_d, wD_i, fI_d, fD_i, wI_eq, wD_eq, wI_ne, wD_ne, fI_ne, fD_ne, wI_ns, wD_ns, fI_eq, fD_eq, fI_ns, fD_ns, xN]
/-- the model's cells but those of the log are the same -/
def FHm (v1 v : sd_H) : Prop := (∀ c, ¬ c = 126 → ¬ c = 141 → v1.1 c = v.1 c) ∧ (∀ k, ¬ k = 18 → v1.1 126 k = v.1 126 k) ∧ v1.2 = v.2
def mL (v : sd_H) (n : Nat) (a b c d e : Int32) : sd_H := wI (wI (wI (wI (wI (wI v 141 (6 * n) a) 141 (6 * n + 1) b) 141 (6 * n + 2) c) 141 (6 * n + 3) d) 141 (6 * n + 4) e) 126 18 (nI (n + 1))
theorem YM_logs_B53_e {v : sd_H} {n : Nat} (hn : n < 20) (x : v.1 126 18 = nI n) (a b c d e : Int32) :
    YM_logs_B53 v a b c d e = some (mL v n a b c d e) := by
  unfold YM_logs_B53
  simp only [gd_t, hb_s]
  simp (disch := omega) only [wI_ne, x, lit 6, lit 2, lit 3, lit 4, pk_mul, nI_add, nI_1, nI_clamp, inB_n, gd_t]
  rfl
/-- the log's first m places gone down by six -/
def sh6 (v : sd_H) (m : Nat) : sd_H := (fun c k => if c = 141 ∧ k < m then v.1 141 (k + 6) else v.1 c k, v.2)
theorem sh6_st (v : sd_H) (m : Nat) : wI (sh6 v m) 141 m ((sh6 v m).1 141 (m + 6)) = sh6 v (m + 1) := by
  refine H_ext (fun c k => ?_) (fun _ _ => rfl) rfl
  rw [wI_i]
  show (if c = 141 ∧ k = m then (if 141 = 141 ∧ m + 6 < m then v.1 141 (m + 6 + 6) else v.1 141 (m + 6)) else (if c = 141 ∧ k < m then v.1 141 (k + 6) else v.1 c k)) = (if c = 141 ∧ k < m + 1 then v.1 141 (k + 6) else v.1 c k)
  rw [if_neg (c := 141 = 141 ∧ m + 6 < m) (by omega)]
  by_cases h1 : c = 141 ∧ k = m
  · rw [if_pos h1, if_pos (by omega), h1.2]
  · rw [if_neg h1]
    by_cases h2 : c = 141 ∧ k < m
    · rw [if_pos h2, if_pos (by omega)]
    · rw [if_neg h2, if_neg (by omega)]
theorem sh6_0 (v : sd_H) : sh6 v 0 = v := by
  refine H_ext (fun c k => ?_) (fun _ _ => rfl) rfl
  show (if c = 141 ∧ k < 0 then v.1 141 (k + 6) else v.1 c k) = v.1 c k
  rw [if_neg (by omega)]
theorem YM_logs_L13_e {v : sd_H} (a b c d e : Int32) : ∀ (m n l : Nat), l + m = 114 → m < n → YM_logs_L13 n (sh6 v l) a b c d e (nI (l + 6)) = hb (wI (sh6 v 114) 126 18 ((sh6 v 114).1 126 18 - 1)) (fun g => YM_logs_B53 g a b c d e)
  | _, 0, _, _, q => absurd q (Nat.not_lt_zero _)
  | 0, n + 1, l, e, _ => by
    obtain rfl : l = 114 := by omega
    unfold YM_logs_L13
    simp (disch := omega) only [lit 2, lit 3, lit 4, lit 5, lit 6, lit 9, lit 10, lit 11, lit 12, lit 18, lit 20, lit 22, lit 23, lit 24, lit 60, lit 63, lit 64, lit 100, lit 120, lit 144, lit 240, lit 255, lit 1440, nI_leI, nI_ltI, nI_eqI, nI_add, nI_1, nI_1a, nI_m1, pk_mul, pk_sub, pk_rem, pk_div, nI_clamp, inB_n, nI_ne_m1, m1_ne_nI, nI_nle0, nI_nlt0, n0lt, n0le, n0eq, n1eq, nle0, nlt0, gd_t, b1_s, b2_s, hb_s, sd_isB_0, sd_isB_1]
    rw [if_pos (by decide)]
  | m + 1, n + 1, l, e, q => by
    unfold YM_logs_L13
    simp (disch := omega) only [lit 2, lit 3, lit 4, lit 5, lit 6, lit 9, lit 10, lit 11, lit 12, lit 18, lit 20, lit 22, lit 23, lit 24, lit 60, lit 63, lit 64, lit 100, lit 120, lit 144, lit 240, lit 255, lit 1440, nI_leI, nI_ltI, nI_eqI, nI_add, nI_1, nI_1a, nI_m1, pk_mul, pk_sub, pk_rem, pk_div, nI_clamp, inB_n, nI_ne_m1, m1_ne_nI, nI_nle0, nI_nlt0, n0lt, n0le, n0eq, n1eq, nle0, nlt0, gd_t, b1_s, b2_s, hb_s, sd_isB_0, sd_isB_1, Nat.add_sub_cancel]
    rw [if_neg (by omega), sh6_st, show l + 6 + 1 = l + 1 + 6 by omega]
    exact YM_logs_L13_e _ _ _ _ _ m n (l + 1) (by omega) (by omega)
theorem YM_logs_e {v : sd_H} {n : Nat} (hn : n ≤ 20) (x : v.1 126 18 = nI n) (a b c d e : Int32) : ∃ v1 n' t, YM_logs v a b c d e = some v1 ∧ v1.1 126 18 = nI n' ∧ FHm v1 v ∧ n' + t = n + 1 ∧ (t = 0 ∧ n < 20 ∨ t = 1 ∧ n = 20) ∧
    (∀ p, p + 1 < n' → ∀ q, q < 5 → v1.1 141 (6 * p + q) = v.1 141 (6 * (p + t) + q)) ∧
    v1.1 141 (6 * (n' - 1)) = a ∧ v1.1 141 (6 * (n' - 1) + 1) = b ∧ v1.1 141 (6 * (n' - 1) + 2) = c ∧ v1.1 141 (6 * (n' - 1) + 3) = d ∧ v1.1 141 (6 * (n' - 1) + 4) = e := by
  by_cases h20 : n = 20
  · subst h20
    have y : (wI (sh6 v 114) 126 18 ((sh6 v 114).1 126 18 - 1)).1 126 18 = nI 19 := by
      rw [wI_eq]
      show (if 126 = 141 ∧ 18 < 114 then v.1 141 (18 + 6) else v.1 126 18) - 1 = nI 19
      rw [if_neg (by omega), x]
      decide
    refine ⟨mL (wI (sh6 v 114) 126 18 ((sh6 v 114).1 126 18 - 1)) 19 a b c d e, 20, 1, ?_, ?_, ⟨fun c h h' => ?_, fun k hk => ?_, rfl⟩, rfl, Or.inr ⟨rfl, rfl⟩, fun p hp q hq => ?_, ?_, ?_, ?_, ?_, ?_⟩
    · unfold YM_logs
      simp (disch := omega) only [lit 2, lit 3, lit 4, lit 5, lit 6, lit 9, lit 10, lit 11, lit 12, lit 18, lit 20, lit 22, lit 23, lit 24, lit 60, lit 63, lit 64, lit 100, lit 120, lit 144, lit 240, lit 255, lit 1440, nI_leI, nI_ltI, nI_eqI, nI_add, nI_1, nI_1a, nI_m1, pk_mul, pk_sub, pk_rem, pk_div, nI_clamp, inB_n, nI_ne_m1, m1_ne_nI, nI_nle0, nI_nlt0, n0lt, n0le, n0eq, n1eq, nle0, nlt0, gd_t, b1_s, b2_s, hb_s, sd_isB_0, sd_isB_1, x]
      rw [if_pos trivial]
      have := YM_logs_L13_e (v := v) a b c d e 114 FU 0 (by omega) (by decide)
      rw [sh6_0] at this
      rw [this, hb_s, YM_logs_B53_e (n := 19) (by omega) y]
    · simp (disch := omega) only [wI_d, wD_i, fI_d, fD_i, wI_eq, wD_eq, wI_ne, wD_ne, fI_ne, fD_ne, wI_ns, wD_ns, fI_eq, fD_eq, fI_ns, fD_ns, mL]
    · simp (disch := omega) only [wI_d, wD_i, fI_d, fD_i, wI_eq, wD_eq, wI_ne, wD_ne, fI_ne, fD_ne, wI_ns, wD_ns, fI_eq, fD_eq, fI_ns, fD_ns, mL]
      refine funext fun k => ?_
      show (if c = 141 ∧ k < 114 then v.1 141 (k + 6) else v.1 c k) = v.1 c k
      rw [if_neg (by omega)]
    · simp (disch := omega) only [wI_d, wD_i, fI_d, fD_i, wI_eq, wD_eq, wI_ne, wD_ne, fI_ne, fD_ne, wI_ns, wD_ns, fI_eq, fD_eq, fI_ns, fD_ns, mL]
      show (if 126 = 141 ∧ k < 114 then v.1 141 (k + 6) else v.1 126 k) = v.1 126 k
      rw [if_neg (by omega)]
    · simp (disch := omega) only [wI_d, wD_i, fI_d, fD_i, wI_eq, wD_eq, wI_ne, wD_ne, fI_ne, fD_ne, wI_ns, wD_ns, fI_eq, fD_eq, fI_ns, fD_ns, mL]
      show (if 141 = 141 ∧ 6 * p + q < 114 then v.1 141 (6 * p + q + 6) else v.1 141 (6 * p + q)) = _
      rw [if_pos ⟨rfl, by omega⟩, show 6 * p + q + 6 = 6 * (p + 1) + q by omega]
    · simp (disch := omega) only [wI_d, wD_i, fI_d, fD_i, wI_eq, wD_eq, wI_ne, wD_ne, fI_ne, fD_ne, wI_ns, wD_ns, fI_eq, fD_eq, fI_ns, fD_ns, mL]
    · simp (disch := omega) only [wI_d, wD_i, fI_d, fD_i, wI_eq, wD_eq, wI_ne, wD_ne, fI_ne, fD_ne, wI_ns, wD_ns, fI_eq, fD_eq, fI_ns, fD_ns, mL]
    · simp (disch := omega) only [wI_d, wD_i, fI_d, fD_i, wI_eq, wD_eq, wI_ne, wD_ne, fI_ne, fD_ne, wI_ns, wD_ns, fI_eq, fD_eq, fI_ns, fD_ns, mL]
    · simp (disch := omega) only [wI_d, wD_i, fI_d, fD_i, wI_eq, wD_eq, wI_ne, wD_ne, fI_ne, fD_ne, wI_ns, wD_ns, fI_eq, fD_eq, fI_ns, fD_ns, mL]
    · simp (disch := omega) only [wI_d, wD_i, fI_d, fD_i, wI_eq, wD_eq, wI_ne, wD_ne, fI_ne, fD_ne, wI_ns, wD_ns, fI_eq, fD_eq, fI_ns, fD_ns, mL]
  · refine ⟨mL v n a b c d e, n + 1, 0, ?_, ?_, ⟨fun c h h' => ?_, fun k hk => ?_, rfl⟩, rfl, Or.inl ⟨rfl, by omega⟩, fun p hp q hq => ?_, ?_, ?_, ?_, ?_, ?_⟩
    · unfold YM_logs
      simp (disch := omega) only [lit 2, lit 3, lit 4, lit 5, lit 6, lit 9, lit 10, lit 11, lit 12, lit 18, lit 20, lit 22, lit 23, lit 24, lit 60, lit 63, lit 64, lit 100, lit 120, lit 144, lit 240, lit 255, lit 1440, nI_leI, nI_ltI, nI_eqI, nI_add, nI_1, nI_1a, nI_m1, pk_mul, pk_sub, pk_rem, pk_div, nI_clamp, inB_n, nI_ne_m1, m1_ne_nI, nI_nle0, nI_nlt0, n0lt, n0le, n0eq, n1eq, nle0, nlt0, gd_t, b1_s, b2_s, hb_s, sd_isB_0, sd_isB_1, x]
      rw [if_neg h20, YM_logs_B53_e (n := n) (by omega) x]
    · simp (disch := omega) only [wI_d, wD_i, fI_d, fD_i, wI_eq, wD_eq, wI_ne, wD_ne, fI_ne, fD_ne, wI_ns, wD_ns, fI_eq, fD_eq, fI_ns, fD_ns, mL]
    · simp (disch := omega) only [wI_d, wD_i, fI_d, fD_i, wI_eq, wD_eq, wI_ne, wD_ne, fI_ne, fD_ne, wI_ns, wD_ns, fI_eq, fD_eq, fI_ns, fD_ns, mL]
    · simp (disch := omega) only [wI_d, wD_i, fI_d, fD_i, wI_eq, wD_eq, wI_ne, wD_ne, fI_ne, fD_ne, wI_ns, wD_ns, fI_eq, fD_eq, fI_ns, fD_ns, mL]
    · simp (disch := omega) only [wI_d, wD_i, fI_d, fD_i, wI_eq, wD_eq, wI_ne, wD_ne, fI_ne, fD_ne, wI_ns, wD_ns, fI_eq, fD_eq, fI_ns, fD_ns, mL, Nat.add_zero]
    · rw [Nat.add_sub_cancel]
      simp (disch := omega) only [wI_d, wD_i, fI_d, fD_i, wI_eq, wD_eq, wI_ne, wD_ne, fI_ne, fD_ne, wI_ns, wD_ns, fI_eq, fD_eq, fI_ns, fD_ns, mL]
    · rw [Nat.add_sub_cancel]
      simp (disch := omega) only [wI_d, wD_i, fI_d, fD_i, wI_eq, wD_eq, wI_ne, wD_ne, fI_ne, fD_ne, wI_ns, wD_ns, fI_eq, fD_eq, fI_ns, fD_ns, mL]
    · rw [Nat.add_sub_cancel]
      simp (disch := omega) only [wI_d, wD_i, fI_d, fD_i, wI_eq, wD_eq, wI_ne, wD_ne, fI_ne, fD_ne, wI_ns, wD_ns, fI_eq, fD_eq, fI_ns, fD_ns, mL]
    · rw [Nat.add_sub_cancel]
      simp (disch := omega) only [wI_d, wD_i, fI_d, fD_i, wI_eq, wD_eq, wI_ne, wD_ne, fI_ne, fD_ne, wI_ns, wD_ns, fI_eq, fD_eq, fI_ns, fD_ns, mL]
    · rw [Nat.add_sub_cancel]
      simp (disch := omega) only [wI_d, wD_i, fI_d, fD_i, wI_eq, wD_eq, wI_ne, wD_ne, fI_ne, fD_ne, wI_ns, wD_ns, fI_eq, fD_eq, fI_ns, fD_ns, mL]
theorem IHs_push {g v g2 v2 : sd_H} {o n o' n' d S' : Nat} {cs : Nat → Nat} (i : IHs g v o n cs) (hd : n' + d = n + 1) (h1 : 1 ≤ n')
    (hx : ∀ p, p + 1 < n' → g2.1 (35 + (o' + p) % 20) = g.1 (35 + (o + (p + d)) % 20))
    (hm : ∀ p, p + 1 < n' → ∀ q, q < 5 → v2.1 141 (6 * p + q) = v.1 141 (6 * (p + d) + q))
    (hl : IHe (g2.1 (35 + (o' + (n' - 1)) % 20)) (v2.1 141 (6 * (n' - 1))) (v2.1 141 (6 * (n' - 1) + 1)) (v2.1 141 (6 * (n' - 1) + 2)) (v2.1 141 (6 * (n' - 1) + 3)) (v2.1 141 (6 * (n' - 1) + 4)) (cs n) S') :
    ∃ cs' : Nat → Nat, cs' n' = S' ∧ IHs g2 v2 o' n' cs' := by
  refine ⟨fun p => if p < n' then cs (p + d) else S', if_neg (by omega), fun p hp => ?_⟩
  dsimp only
  rw [if_pos hp]
  by_cases e : p + 1 < n'
  · rw [if_pos e, hx p e, hm p e 1 (by omega), hm p e 2 (by omega), hm p e 3 (by omega), hm p e 4 (by omega)]
    have := hm p e 0 (by omega)
    rw [Nat.add_zero, Nat.add_zero] at this
    rw [this, show p + 1 + d = p + d + 1 by omega]
    exact i (p + d) (by omega)
  · obtain rfl : p = n' - 1 := by omega
    rw [if_neg e, show n' - 1 + d = n by omega]
    exact hl
theorem push_e {g v : sd_H} {S : Nat} (i : IH g v S) (act k w : Int32) : ∃ g1, XH_note g act k w = some g1 ∧ FHx g1 g ∧
    ∀ a b c, ∃ g2, XH_keep g1 a b c = some g2 ∧ FHx g2 g ∧
    ∀ v' what at_ p q s, v'.1 126 18 = v.1 126 18 → v'.1 141 = v.1 141 → ∃ v2, YM_logs v' what at_ p q s = some v2 ∧ FHm v2 v' ∧
    ∀ gg vv S', gg.1 33 = g2.1 33 → (∀ c, 35 ≤ c → c ≤ 54 → gg.1 c = g2.1 c) → vv.1 141 = v2.1 141 → vv.1 126 18 = v2.1 126 18 →
    (∀ x : Nat → Int32, x 0 = act → x 1 = k → x 2 = w → x 3 = a → x 4 = b → x 5 = c → IHe x what at_ p q s S S') → IH gg vv S' := by
  obtain ⟨o, n, cs, ho, hn, e1, e2, e3, e4, i⟩ := i
  obtain ⟨g1, o', n', d, n1, n2, n3, n4, n5, n6, n7, n8, n9⟩ := XH_note_e ⟨ho, hn, e1, e2⟩ act k w
  refine ⟨g1, n1, n3, fun a b c => ?_⟩
  obtain ⟨g2, k1, k2, k3, k4, k5, k6, k7, k8⟩ := XH_keep_e n2 (by omega) a b c
  refine ⟨g2, k1, ⟨fun c h h' => (k3.1 c h h').trans (n3.1 c h h'), k3.2.trans n3.2⟩, fun v' what at_ p q s f1 f2 => ?_⟩
  obtain ⟨v2, n'', t, l1, l2, l3, l4, l5, l6, l7, l8, l9, l10, l11⟩ := YM_logs_e hn (f1.trans e3) what at_ p q s
  obtain rfl : n'' = n' := by omega
  obtain rfl : t = d := by omega
  refine ⟨v2, l1, l3, fun gg vv S' q1 q2 q3 q4 q5 => ?_⟩
  have hc := IHs_push (g2 := g2) (v2 := v2) (S' := S') i n4 (by omega) (fun p hp => (k4 p hp).trans (n6 p hp)) (fun p hp q hq => by rw [l6 p hp q hq, f2])
    (by
      rw [l7, l8, l9, l10, l11, e4]
      exact q5 _ ((k5 0 (by omega)).trans n7) ((k5 1 (by omega)).trans n8) ((k5 2 (by omega)).trans n9) k6 k7 k8)
  obtain ⟨cs', c1, c2⟩ := hc
  obtain ⟨y1, y2, y3, y4⟩ := k2
  exact IH_c q1 q2 q3 q4 ⟨o', n'', cs', y1, y2, y3, y4, l2, c1, c2⟩
/-- the loop and the history have changed, the summary is stale, all else is the same -/
theorem Iv_l {g v g' v' : sd_H} (i : Iv g v) (il : ∃ N S, IL g' v' N S ∧ IH g' v' S)
    (x2 : g'.1 2 = g.1 2) (x3 : g'.1 3 = g.1 3) (x4 : g'.2.1 4 = g.2.1 4) (x5 : g'.1 5 = g.1 5)
    (x55 : g'.1 55 = g.1 55) (x015 : g'.1 0 15 = g.1 0 15) (fi1 : g'.1 0 16 = g.1 0 16)
    (xo : g'.1 107 = g.1 107) (xo8 : g'.1 108 = g.1 108) (xo9 : g'.1 109 = g.1 109) (xs : g'.1 56 5 = 1)
    (m7 : v'.1 127 = v.1 127) (m8 : v'.1 128 = v.1 128) (m9 : v'.2.1 129 = v.2.1 129) (m0 : v'.1 130 = v.1 130)
    (t1 : v'.1 126 20 = v.1 126 20) (t2 : v'.1 142 = v.1 142) (fi2 : v'.1 126 4 = v.1 126 4)
    (o1 : v'.1 126 34 = v.1 126 34) (o2 : v'.1 126 37 = v.1 126 37) (o3 : v'.1 150 = v.1 150) (o4 : v'.1 151 = v.1 151) : Iv g' v' := by
  obtain ⟨a, b, c, d, _, k, l, m, n⟩ := i
  unfold Iv
  rw [x2, x3, x4, x5, m7, m8, m9, m0, x55, x015, t1, t2, xo, xo8, xo9, o1, o2, o3, o4, fi1, fi2]
  exact ⟨a, b, c, d, il, k, l, m, Or.inl xs⟩
