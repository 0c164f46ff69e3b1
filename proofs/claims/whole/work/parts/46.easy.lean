/-! ===== small questions of rows ===== -/
theorem row_cs {g v : sd_H} (i : Iv g v) {r : Nat} (hr : r < 6) :
    (g.1 2 r = -1 ∧ v.1 127 r = -1 ∧ g.1 3 r = 0) ∨
    ∃ f n, f ≤ 4 ∧ n ≤ 24 ∧ g.1 2 r = nI f ∧ v.1 127 r = nI f ∧ g.1 3 r = nI n ∧ v.1 128 r = nI n ∧
      ∀ j, j < 24 → g.2.1 4 (24 * r + j) = v.2.1 129 (24 * r + j) ∧ g.1 5 (24 * r + j) = v.1 130 (24 * r + j) := by
  obtain ⟨a, b⟩ := i.1 r hr
  rcases b with ⟨b, c, d⟩ | ⟨⟨f, hf, b⟩, c, d⟩
  · exact Or.inl ⟨a.trans b, b, c⟩
  · obtain ⟨n, hn, e⟩ := i.2.2.1 r hr
    exact Or.inr ⟨f, n, hf, hn, a.trans b, b, c.trans e, e, fun j hj => ⟨d j hj, i.2.1 r hr (by rw [b, nI_ne_m1 (by omega)]; exact fun q => q) j hj⟩⟩
theorem wn_out {a : Int32} {n : Nat} (hn : n < 2 ^ 30) (o : a < 0 ∨ nI n ≤ a) : wn a 0 (nI n - 1) = 0 := by
  unfold wn
  by_cases h0 : a < 0
  · exact if_pos h0
  · have o := o.resolve_left h0
    rw [if_neg h0, if_pos]
    cases n with
    | zero => exact Int32.lt_of_lt_of_le (by decide) (Int32.not_lt.mp h0)
    | succ n =>
      rw [nI_pred]
      exact Int32.lt_of_lt_of_le ((nI_ltI (by omega) (by omega)).mpr (by omega)) o
theorem wn_inn {j n : Nat} (h : j < n) (hn : n < 2 ^ 30) : wn (nI j) 0 (nI n - 1) = 1 := by
  rw [nI_m1 (by omega)]
  exact wn_n (by omega) (by omega)
theorem XR_isMissing_t {g : sd_H} {P r : Nat} (hr : r < 6) (e : g.1 (P + 1) r = -1) : XR_isMissing g P (nI r) = some 1 := by
  unfold XR_isMissing
  simp (disch := omega) only [lit 2, lit 3, lit 4, lit 5, lit 6, lit 9, lit 10, lit 11, lit 12, lit 18, lit 20, lit 22, lit 23, lit 24, lit 60, lit 63, lit 64, lit 100, lit 120, lit 144, lit 240, lit 255, lit 1440, nI_leI, nI_ltI, nI_eqI, nI_add, nI_1, nI_1a, nI_m1, pk_mul, pk_sub, pk_rem, pk_div, nI_clamp, inB_n, nI_ne_m1, m1_ne_nI, nI_nle0, nI_nlt0, n0lt, n0le, n0eq, n1eq, nle0, nlt0, gd_t, b1_s, b2_s, hb_s, sd_isB_0, sd_isB_1, e]
  rfl
theorem XR_isMissing_f {g : sd_H} {P r f : Nat} (hr : r < 6) (hf : f ≤ 4) (e : g.1 (P + 1) r = nI f) : XR_isMissing g P (nI r) = some 0 := by
  unfold XR_isMissing
  simp (disch := omega) only [lit 2, lit 3, lit 4, lit 5, lit 6, lit 9, lit 10, lit 11, lit 12, lit 18, lit 20, lit 22, lit 23, lit 24, lit 60, lit 63, lit 64, lit 100, lit 120, lit 144, lit 240, lit 255, lit 1440, nI_leI, nI_ltI, nI_eqI, nI_add, nI_1, nI_1a, nI_m1, pk_mul, pk_sub, pk_rem, pk_div, nI_clamp, inB_n, nI_ne_m1, m1_ne_nI, nI_nle0, nI_nlt0, n0lt, n0le, n0eq, n1eq, nle0, nlt0, gd_t, b1_s, b2_s, hb_s, sd_isB_0, sd_isB_1, e]
  exact if_neg (fun q => q)
theorem XR_hasCell_f {g : sd_H} {P r n : Nat} {a : Int32} (hr : r < 6) (e : g.1 (P + 2) r = nI n) (o : a < 0 ∨ nI n ≤ a) : XR_hasCell g P (nI r) a = some 0 := by
  unfold XR_hasCell
  by_cases h0 : a < 0
  · exact if_pos h0
  · rw [if_neg h0, inB_n hr (by omega), gd_t, nI_clamp (by omega), e, if_pos (o.resolve_left h0)]
theorem XR_hasCell_t {g : sd_H} {P r n j : Nat} (hr : r < 6) (e : g.1 (P + 2) r = nI n) (hn : n ≤ 24) (o : j < n) : XR_hasCell g P (nI r) (nI j) = some 1 := by
  unfold XR_hasCell
  rw [if_neg (nI_pos (by omega)), inB_n hr (by omega), gd_t, nI_clamp (by omega), e, if_neg (nI_ge o (by omega))]
theorem YM_lacks_m {v : sd_H} {r : Nat} {a : Int32} (hr : r < 6) (e : v.1 127 r = -1) : YM_lacks v (nI r) a = some 1 := by
  unfold YM_lacks
  rw [inB_n hr (by omega), gd_t, nI_clamp (by omega), e, if_pos rfl]
theorem YM_lacks_o {v : sd_H} {r f n : Nat} {a : Int32} (hr : r < 6) (hf : f ≤ 4) (hn : n ≤ 24) (e : v.1 127 r = nI f) (e2 : v.1 128 r = nI n) (o : a < 0 ∨ nI n ≤ a) : YM_lacks v (nI r) a = some 2 := by
  unfold YM_lacks
  rw [inB_n hr (by omega), gd_t, nI_clamp (by omega), e, if_neg (by rw [nI_ne_m1 (by omega)]; exact fun q => q), gd_t, e2, YM_in_e, b1_s, wn_out (by omega) o]
  rfl
theorem YM_lacks_i {v : sd_H} {r f n j : Nat} (hr : r < 6) (hf : f ≤ 4) (hn : n ≤ 24) (e : v.1 127 r = nI f) (e2 : v.1 128 r = nI n) (o : j < n) : YM_lacks v (nI r) (nI j) = some 0 := by
  unfold YM_lacks
  rw [inB_n hr (by omega), gd_t, nI_clamp (by omega), e, if_neg (by rw [nI_ne_m1 (by omega)]; exact fun q => q), gd_t, e2, YM_in_e, b1_s, wn_inn o (by omega)]
  rfl
/-! ===== writer ===== -/
theorem E_writer {h : sd_H} (i : Iv h h) (a b : Int32) : EE (XT_writer h a b) (fun g => YM_writer g a b) := by
  unfold XT_writer YM_writer
  simp only [XT_isRow_e, YM_isRow_e, b1_s]
  rcases wn_c a 5 (by omega) with hz | ⟨r, hr, rfl, h1⟩
  · rw [show (5 : Int32) = nI 5 from rfl, hz]
    exact EE_i (if_pos rfl) (if_pos rfl) i
  rw [show (5 : Int32) = nI 5 from rfl, h1]
  simp only [if_neg z10.mp]
  rcases row_cs i (show r < 6 by omega) with ⟨e1, e2, e3⟩ | ⟨f, n, hf, hn, e1, e2, e3, e4, e5⟩
  · rw [XR_isMissing_t (by omega) e1]
    refine EE_i (h1 := wI h 0 16 1) (h2 := wI (wI h 0 16 1) 126 4 1) (r := -11) rfl ?_ (Iv_f 1 i)
    rw [YM_lacks_m (by omega) (by simp (disch := omega) only [wI_d, wD_i, fI_d, fD_i, wI_eq, wD_eq, wI_ne, wD_ne, fI_ne, fD_ne, wI_ns, wD_ns, fI_eq, fD_eq, fI_ns, fD_ns]; exact e2)]
    rfl
  · rw [XR_isMissing_f (by omega) hf e1]
    rcases pk_ix b (show n < 2 ^ 31 by omega) with o | o | ⟨j, hj, rfl⟩
    · refine EE_i (h1 := wI h 0 16 2) (h2 := wI (wI h 0 16 2) 126 4 2) (r := -12) ?_ ?_ (Iv_f 2 i)
      · rw [b1_s, if_pos rfl, XR_hasCell_f (by omega) e3 (Or.inl o)]
        rfl
      · rw [YM_lacks_o (f := f) (n := n) (by omega) hf hn (by simp (disch := omega) only [wI_d, wD_i, fI_d, fD_i, wI_eq, wD_eq, wI_ne, wD_ne, fI_ne, fD_ne, wI_ns, wD_ns, fI_eq, fD_eq, fI_ns, fD_ns]; exact e2) (by simp (disch := omega) only [wI_d, wD_i, fI_d, fD_i, wI_eq, wD_eq, wI_ne, wD_ne, fI_ne, fD_ne, wI_ns, wD_ns, fI_eq, fD_eq, fI_ns, fD_ns]; exact e4) (Or.inl o)]
        rfl
    · refine EE_i (h1 := wI h 0 16 2) (h2 := wI (wI h 0 16 2) 126 4 2) (r := -12) ?_ ?_ (Iv_f 2 i)
      · rw [b1_s, if_pos rfl, XR_hasCell_f (by omega) e3 (Or.inr o)]
        rfl
      · rw [YM_lacks_o (f := f) (n := n) (by omega) hf hn (by simp (disch := omega) only [wI_d, wD_i, fI_d, fD_i, wI_eq, wD_eq, wI_ne, wD_ne, fI_ne, fD_ne, wI_ns, wD_ns, fI_eq, fD_eq, fI_ns, fD_ns]; exact e2) (by simp (disch := omega) only [wI_d, wD_i, fI_d, fD_i, wI_eq, wD_eq, wI_ne, wD_ne, fI_ne, fD_ne, wI_ns, wD_ns, fI_eq, fD_eq, fI_ns, fD_ns]; exact e4) (Or.inr o)]
        rfl
    · refine EE_i (h1 := h) (h2 := h) (r := h.1 5 (24 * r + j)) ?_ ?_ i
      · rw [b1_s, if_pos rfl, XR_hasCell_t (by omega) e3 hn hj, b1_s, if_neg z10.mp]
        simp (disch := omega) only [lit 2, lit 3, lit 4, lit 5, lit 6, lit 9, lit 10, lit 11, lit 12, lit 18, lit 20, lit 22, lit 23, lit 24, lit 60, lit 63, lit 64, lit 100, lit 120, lit 144, lit 240, lit 255, lit 1440, nI_leI, nI_ltI, nI_eqI, nI_add, nI_1, nI_1a, nI_m1, pk_mul, pk_sub, pk_rem, pk_div, nI_clamp, inB_n, nI_ne_m1, m1_ne_nI, nI_nle0, nI_nlt0, n0lt, n0le, n0eq, n1eq, nle0, nlt0, gd_t, b1_s, b2_s, hb_s, sd_isB_0, sd_isB_1, Nat.mul_comm r 24]
      · rw [YM_lacks_i (by omega) hf hn e2 e4 hj, b1_s, if_pos (by decide), (e5 j (by omega)).2]
        simp (disch := omega) only [lit 2, lit 3, lit 4, lit 5, lit 6, lit 9, lit 10, lit 11, lit 12, lit 18, lit 20, lit 22, lit 23, lit 24, lit 60, lit 63, lit 64, lit 100, lit 120, lit 144, lit 240, lit 255, lit 1440, nI_leI, nI_ltI, nI_eqI, nI_add, nI_1, nI_1a, nI_m1, pk_mul, pk_sub, pk_rem, pk_div, nI_clamp, inB_n, nI_ne_m1, m1_ne_nI, nI_nle0, nI_nlt0, n0lt, n0le, n0eq, n1eq, nle0, nlt0, gd_t, b1_s, b2_s, hb_s, sd_isB_0, sd_isB_1]
/-! ===== ended, faults ===== -/
theorem E_ended {h : sd_H} (i : Iv h h) (a : Int32) : ∃ r, XT_ended h a = some r ∧ YM_ended h a = some r := by
  unfold XT_ended YM_ended
  simp only [XT_within_e, YM_in_e, b1_s]
  rcases wn_c a 9 (by omega) with hz | ⟨p, hp, rfl, h1⟩
  · rw [show (9 : Int32) = nI 9 from rfl, hz]
    exact ⟨-2, rfl, rfl⟩
  rw [show (9 : Int32) = nI 9 from rfl, h1]
  obtain ⟨_, ⟨n, hn, e1, e2, e3⟩, _⟩ := i.2.2.2.2.2.2.2.1
  simp only [if_neg z10.mp, e1, e2, inB_n (show p < 10 by omega) (by omega), gd_t, nI_clamp (show p < 2 ^ 31 by omega)]
  by_cases hq : p < n
  · rw [if_neg (nI_ge hq (by omega)), if_neg (nI_ge hq (by omega)), e3 p hq]
    exact ⟨_, rfl, rfl⟩
  · rw [if_pos (nI_le (by omega) (by omega)), if_pos (nI_le (by omega) (by omega))]
    exact ⟨_, rfl, rfl⟩
theorem E_faults {h : sd_H} (i : Iv h h) (a : Int32) : ∃ r, XT_faults h a = some r ∧ YM_faults h a = some r := by
  unfold XT_faults YM_faults
  simp only [XT_within_e, YM_in_e, b1_s]
  rcases wn_c a 2 (by omega) with hz | ⟨p, hp, rfl, h1⟩
  · rw [show (2 : Int32) = nI 2 from rfl, hz]
    exact ⟨-2, rfl, rfl⟩
  rw [show (2 : Int32) = nI 2 from rfl, h1]
  have e := i.2.2.2.2.2.2.2.1.2.2 p (by omega)
  simp only [if_neg z10.mp, inB_n (show p < 3 by omega) (by omega), gd_t, nI_clamp (show p < 2 ^ 31 by omega), e]
  exact ⟨_, rfl, rfl⟩
/-! ===== lose ===== -/
theorem E_lose {h : sd_H} (i : Iv h h) (a : Int32) : EE (XT_lose h a) (fun g => YM_lose g a) := by
  unfold XT_lose YM_lose
  simp only [XT_isRow_e, YM_isRow_e, b1_s]
  rcases wn_c a 5 (by omega) with hz | ⟨r, hr, rfl, h1⟩
  · rw [show (5 : Int32) = nI 5 from rfl, hz]
    exact EE_i (if_pos rfl) (if_pos rfl) i
  rw [show (5 : Int32) = nI 5 from rfl, h1]
  simp only [if_neg z10.mp, inB_n (show r < 6 by omega) (by omega), gd_t, nI_clamp (show r < 2 ^ 31 by omega)]
  rcases row_cs i (show r < 6 by omega) with ⟨e1, e2, e3⟩ | ⟨f, n, hf, hn, e1, e2, e3, e4, e5⟩
  · rw [XR_isMissing_t (by omega) e1]
    refine EE_i (h1 := wI h 0 16 1) (h2 := wI (wI h 0 16 1) 126 4 1) (r := -11) rfl ?_ (Iv_f 1 i)
    rw [if_pos (by simp (disch := omega) only [wI_d, wD_i, fI_d, fD_i, wI_eq, wD_eq, wI_ne, wD_ne, fI_ne, fD_ne, wI_ns, wD_ns, fI_eq, fD_eq, fI_ns, fD_ns]; exact e2)]
    rfl
  · rw [XR_isMissing_f (by omega) hf e1, b1_s, if_pos rfl]
    simp only [XR_make_e h (show r < 6 by omega), b1_s, hb_s]
    have e := fun g => YM_lose_L35_e (r := r) (by omega) 24 FU g 0 (by omega) (by decide)
    rw [show (nI 0 : Int32) = 0 from rfl, Nat.add_zero] at e
    refine EE_i rfl ?_ (Iv_k (v' := fI (wI (wI (fI (fD (wI (wI h (1 + 1) r (-1)) (1 + 2) r 0) (1 + 3) (24 * r) (24 * r + 24) FP.dconst0) (1 + 4) (24 * r) (24 * r + 24) (-1)) 56 5 1) 127 r (-1)) 130 (24 * r) (24 * r + 24) (-1)) (g' := fI (wI (wI (fI (fD (wI (wI h (1 + 1) r (-1)) (1 + 2) r 0) (1 + 3) (24 * r) (24 * r + 24) FP.dconst0) (1 + 4) (24 * r) (24 * r + 24) (-1)) 56 5 1) 127 r (-1)) 130 (24 * r) (24 * r + 24) (-1)) i ?_ ?_ ?_ ?_ ?_ ?_ ?_ ?_ ?_ ?_ ?_ ?_ ?_ ?_ ?_ ?_ ?_ ?_ ?_ ?_ ?_ ?_ ?_ ?_ ?_ ?_ ?_ ?_ ?_ ?_ ?_ ?_ ?_ ?_)
    · rw [if_neg (by simp (disch := omega) only [wI_d, wD_i, fI_d, fD_i, wI_eq, wD_eq, wI_ne, wD_ne, fI_ne, fD_ne, wI_ns, wD_ns, fI_eq, fD_eq, fI_ns, fD_ns]; rw [e2, nI_ne_m1 (by omega)]; exact fun q => q), e]
      simp (disch := omega) only [wI_d, wD_i, fI_d, fD_i, wI_eq, wD_eq, wI_ne, wD_ne, fI_ne, fD_ne, wI_ns, wD_ns, fI_eq, fD_eq, fI_ns, fD_ns]
      rw [e3, e4]
    · refine IR_s (r := r) i.1 (fun q hq hn => ?_) ?_
      · refine ⟨?_, ?_, ?_, ?_, fun j hj => ⟨?_, ?_⟩⟩ <;> simp (disch := omega) only [wI_d, wD_i, fI_d, fD_i, wI_eq, wD_eq, wI_ne, wD_ne, fI_ne, fD_ne, wI_ns, wD_ns, fI_eq, fD_eq, fI_ns, fD_ns]
      · simp (disch := omega) only [wI_d, wD_i, fI_d, fD_i, wI_eq, wD_eq, wI_ne, wD_ne, fI_ne, fD_ne, wI_ns, wD_ns, fI_eq, fD_eq, fI_ns, fD_ns]
        refine ⟨trivial, Or.inl ⟨trivial, trivial, fun j hj => ?_⟩⟩
        simp (disch := omega) only [wI_d, wD_i, fI_d, fD_i, wI_eq, wD_eq, wI_ne, wD_ne, fI_ne, fD_ne, wI_ns, wD_ns, fI_eq, fD_eq, fI_ns, fD_ns]
    · refine IW_s (r := r) i.2.1 (fun q hq hn => ?_) (fun j hj => ?_)
      · refine ⟨?_, fun j hj => ⟨?_, ?_⟩⟩ <;> simp (disch := omega) only [wI_d, wD_i, fI_d, fD_i, wI_eq, wD_eq, wI_ne, wD_ne, fI_ne, fD_ne, wI_ns, wD_ns, fI_eq, fD_eq, fI_ns, fD_ns]
      · simp (disch := omega) only [wI_d, wD_i, fI_d, fD_i, wI_eq, wD_eq, wI_ne, wD_ne, fI_ne, fD_ne, wI_ns, wD_ns, fI_eq, fD_eq, fI_ns, fD_ns]
    · simp (disch := omega) only [wI_d, wD_i, fI_d, fD_i, wI_eq, wD_eq, wI_ne, wD_ne, fI_ne, fD_ne, wI_ns, wD_ns, fI_eq, fD_eq, fI_ns, fD_ns]
      exact i.2.2.1
    · simp (disch := omega) only [wI_d, wD_i, fI_d, fD_i, wI_eq, wD_eq, wI_ne, wD_ne, fI_ne, fD_ne, wI_ns, wD_ns, fI_eq, fD_eq, fI_ns, fD_ns]
      exact i.2.2.2.1
    all_goals first | (simp (disch := omega) only [wI_d, wD_i, fI_d, fD_i, wI_eq, wD_eq, wI_ne, wD_ne, fI_ne, fD_ne, wI_ns, wD_ns, fI_eq, fD_eq, fI_ns, fD_ns]; done) | (intro c h1 h2; simp (disch := omega) only [wI_d, wD_i, fI_d, fD_i, wI_eq, wD_eq, wI_ne, wD_ne, fI_ne, fD_ne, wI_ns, wD_ns, fI_eq, fD_eq, fI_ns, fD_ns]; done) | (intro c h1; simp (disch := omega) only [wI_d, wD_i, fI_d, fD_i, wI_eq, wD_eq, wI_ne, wD_ne, fI_ne, fD_ne, wI_ns, wD_ns, fI_eq, fD_eq, fI_ns, fD_ns]; done)
