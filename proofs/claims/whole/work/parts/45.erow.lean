/-! ===== the calls on rows ===== -/
theorem IR_s {r : Nat} {fx zx fm zm fx' zx' fm' zm' : Nat → Int32} {cx cm cx' cm' : Nat → UInt64} (i : IR fx zx cx fm zm cm)
    (o : ∀ q, q < 6 → ¬ q = r → fx' q = fx q ∧ zx' q = zx q ∧ fm' q = fm q ∧ zm' q = zm q ∧ ∀ j, j < 24 → cx' (24 * q + j) = cx (24 * q + j) ∧ cm' (24 * q + j) = cm (24 * q + j))
    (n : fx' r = fm' r ∧ ((fm' r = -1 ∧ zx' r = 0 ∧ ∀ i, i < 24 → cx' (24 * r + i) = FP.dconst0) ∨
    ((∃ f, f ≤ 4 ∧ fm' r = nI f) ∧ zx' r = zm' r ∧ ∀ i, i < 24 → cx' (24 * r + i) = cm' (24 * r + i)))) : IR fx' zx' cx' fm' zm' cm' := fun q hq => by
  by_cases e : q = r
  · rw [e]
    exact n
  · obtain ⟨o1, o2, o3, o4, o5⟩ := o q hq e
    rw [o1, o2, o3, o4]
    obtain ⟨a, b⟩ := i q hq
    refine ⟨a, ?_⟩
    rcases b with ⟨b, c, d⟩ | ⟨b, c, d⟩
    · exact Or.inl ⟨b, c, fun j hj => (o5 j hj).1.trans (d j hj)⟩
    · exact Or.inr ⟨b, c, fun j hj => by rw [(o5 j hj).1, (o5 j hj).2]; exact d j hj⟩
theorem IW_s {r : Nat} {fm wx wm fm' wx' wm' : Nat → Int32} (i : IW fm wx wm)
    (o : ∀ q, q < 6 → ¬ q = r → fm' q = fm q ∧ ∀ j, j < 24 → wx' (24 * q + j) = wx (24 * q + j) ∧ wm' (24 * q + j) = wm (24 * q + j))
    (n : ∀ j, j < 24 → wx' (24 * r + j) = wm' (24 * r + j)) : IW fm' wx' wm' := fun q hq hn j hj => by
  by_cases e : q = r
  · rw [e]
    exact n j hj
  · obtain ⟨o1, o2⟩ := o q hq e
    rw [(o2 j hj).1, (o2 j hj).2]
    exact i q hq (by rw [← o1]; exact hn) j hj
theorem IZ_s {r : Nat} {zm zm' : Nat → Int32} (i : IZ zm) (o : ∀ q, q < 6 → ¬ q = r → zm' q = zm q) (n : ∃ n, n ≤ 24 ∧ zm' r = nI n) : IZ zm' := fun q hq => by
  by_cases e : q = r
  · rw [e]
    exact n
  · rw [o q hq e]
    exact i q hq
theorem okc_0 : okc FP.dconst0 := by unfold okc; decide +kernel
/-- the rows have changed, the summary is stale, all else is the same -/
theorem Iv_k {g v g' v' : sd_H} (i : Iv g v)
    (ir : IR (g'.1 2) (g'.1 3) (g'.2.1 4) (v'.1 127) (v'.1 128) (v'.2.1 129)) (iw : IW (v'.1 127) (g'.1 5) (v'.1 130)) (iz : IZ (v'.1 128)) (ic : IC (v'.2.1 129))
    (xl : ∀ c, 6 ≤ c → c ≤ 32 → g'.1 c = g.1 c)
    (x33 : g'.1 33 = g.1 33) (xh : ∀ c, 35 ≤ c → c ≤ 54 → g'.1 c = g.1 c) (x55 : g'.1 55 = g.1 55) (x015 : g'.1 0 15 = g.1 0 15) (fi1 : g'.1 0 16 = g.1 0 16)
    (xo : g'.1 107 = g.1 107) (xo8 : g'.1 108 = g.1 108) (xo9 : g'.1 109 = g.1 109) (xs : g'.1 56 5 = 1)
    (h2 : v'.1 132 = v.1 132) (h3 : v'.1 133 = v.1 133) (h4 : v'.1 134 = v.1 134) (h5 : v'.1 135 = v.1 135) (h6 : v'.1 136 = v.1 136)
    (h7 : v'.1 137 = v.1 137) (h8 : v'.1 138 = v.1 138) (h9 : v'.1 139 = v.1 139) (h0 : v'.1 140 = v.1 140)
    (hn : v'.1 126 6 = v.1 126 6) (hs : v'.1 126 7 = v.1 126 7) (l1 : v'.1 141 = v.1 141) (l2 : v'.1 126 18 = v.1 126 18)
    (t1 : v'.1 126 20 = v.1 126 20) (t2 : v'.1 142 = v.1 142) (fi2 : v'.1 126 4 = v.1 126 4)
    (o1 : v'.1 126 34 = v.1 126 34) (o2 : v'.1 126 37 = v.1 126 37) (o3 : v'.1 150 = v.1 150) (o4 : v'.1 151 = v.1 151) : Iv g' v' := by
  obtain ⟨a, b, c, d, ⟨N, S, e, f⟩, k, l, m, n⟩ := i
  refine ⟨ir, iw, iz, ic, ⟨N, S, IL_c xl h2 h3 h4 h5 h6 h7 h8 h9 h0 hn hs e, IH_c x33 xh l1 l2 f⟩, ?_, ?_, ?_, Or.inl xs⟩
  · rw [x55, x015, t1, t2]
    exact k
  · rw [fi1, fi2]
    exact l
  · rw [xo, xo8, xo9, o1, o2, o3, o4]
    exact m
theorem E_row {h : sd_H} (i : Iv h h) (a b c : Int32) : EE (XT_row h a b c) (fun g => YM_row g a b c) := by
  unfold XT_row YM_row
  simp only [XT_isRow_e, YM_isRow_e, XT_within_e, YM_in_e, b1_s]
  rcases wn_c a 5 (by omega) with hz | ⟨r, hr, rfl, h1⟩
  · rw [show (5 : Int32) = nI 5 from rfl, hz]
    exact EE_i (if_pos rfl) (if_pos rfl) i
  rw [show (5 : Int32) = nI 5 from rfl, h1]
  rcases wn_c b 4 (by omega) with hz | ⟨f, hf, rfl, h2⟩
  · rw [show (4 : Int32) = nI 4 from rfl, hz]
    exact EE_i ((if_neg z10.mp).trans (if_pos rfl)) ((if_neg z10.mp).trans (if_pos rfl)) i
  rw [show (4 : Int32) = nI 4 from rfl, h2]
  simp only [if_neg z10.mp]
  by_cases hc : c ≤ 24
  · by_cases hc0 : 0 ≤ c
    · obtain ⟨n, hn, rfl⟩ := nI_of2 (M := 24) (n := 24) (by decide) (Int32.not_lt.mpr hc0) hc
      simp only [if_pos hc, if_pos hc0, XR_make_e h (show r < 6 by omega), b1_s, hb_s, inB_n (show r < 6 by omega) (by omega), gd_t, nI_clamp (show r < 2 ^ 31 by omega)]
      have e := fun g => YM_row_L52_e (r := r) (by omega) (nI n) 24 FU g 0 (by omega) (by decide)
      rw [show (nI 0 : Int32) = 0 from rfl, Nat.add_zero] at e
      refine EE_i rfl (e _) (Iv_k i ?_ ?_ ?_ ?_ ?_ ?_ ?_ ?_ ?_ ?_ ?_ ?_ ?_ ?_ ?_ ?_ ?_ ?_ ?_ ?_ ?_ ?_ ?_ ?_ ?_ ?_ ?_ ?_ ?_ ?_ ?_ ?_ ?_ ?_)
      · refine IR_s (r := r) i.1 (fun q hq hn => ?_) ?_
        · refine ⟨?_, ?_, ?_, ?_, fun j hj => ⟨?_, ?_⟩⟩ <;> simp (disch := omega) only [wI_d, wD_i, fI_d, fD_i, wI_eq, wD_eq, wI_ne, wD_ne, fI_ne, fD_ne, wI_ns, wD_ns, fI_eq, fD_eq, fI_ns, fD_ns]
        · simp (disch := omega) only [wI_d, wD_i, fI_d, fD_i, wI_eq, wD_eq, wI_ne, wD_ne, fI_ne, fD_ne, wI_ns, wD_ns, fI_eq, fD_eq, fI_ns, fD_ns]
          refine ⟨trivial, Or.inr ⟨⟨f, hf, rfl⟩, trivial, fun j hj => ?_⟩⟩
          simp (disch := omega) only [wI_d, wD_i, fI_d, fD_i, wI_eq, wD_eq, wI_ne, wD_ne, fI_ne, fD_ne, wI_ns, wD_ns, fI_eq, fD_eq, fI_ns, fD_ns]
      · refine IW_s (r := r) i.2.1 (fun q hq hn => ?_) (fun j hj => ?_)
        · refine ⟨?_, fun j hj => ⟨?_, ?_⟩⟩ <;> simp (disch := omega) only [wI_d, wD_i, fI_d, fD_i, wI_eq, wD_eq, wI_ne, wD_ne, fI_ne, fD_ne, wI_ns, wD_ns, fI_eq, fD_eq, fI_ns, fD_ns]
        · simp (disch := omega) only [wI_d, wD_i, fI_d, fD_i, wI_eq, wD_eq, wI_ne, wD_ne, fI_ne, fD_ne, wI_ns, wD_ns, fI_eq, fD_eq, fI_ns, fD_ns]
      · refine IZ_s (r := r) i.2.2.1 (fun q hq hn => ?_) ⟨n, hn, ?_⟩ <;> simp (disch := omega) only [wI_d, wD_i, fI_d, fD_i, wI_eq, wD_eq, wI_ne, wD_ne, fI_ne, fD_ne, wI_ns, wD_ns, fI_eq, fD_eq, fI_ns, fD_ns]
      · intro j hj
        by_cases hh : 24 * r ≤ j ∧ j < 24 * r + 24
        · simp (disch := omega) only [wI_d, wD_i, fI_d, fD_i, wI_eq, wD_eq, wI_ne, wD_ne, fI_ne, fD_ne, wI_ns, wD_ns, fI_eq, fD_eq, fI_ns, fD_ns]
          exact okc_0
        · simp (disch := omega) only [wI_d, wD_i, fI_d, fD_i, wI_eq, wD_eq, wI_ne, wD_ne, fI_ne, fD_ne, wI_ns, wD_ns, fI_eq, fD_eq, fI_ns, fD_ns]
          exact i.2.2.2.1 j hj
      all_goals first | (simp (disch := omega) only [wI_d, wD_i, fI_d, fD_i, wI_eq, wD_eq, wI_ne, wD_ne, fI_ne, fD_ne, wI_ns, wD_ns, fI_eq, fD_eq, fI_ns, fD_ns]; done) | (intro c h1 h2; simp (disch := omega) only [wI_d, wD_i, fI_d, fD_i, wI_eq, wD_eq, wI_ne, wD_ne, fI_ne, fD_ne, wI_ns, wD_ns, fI_eq, fD_eq, fI_ns, fD_ns]; done) | (intro c h1; simp (disch := omega) only [wI_d, wD_i, fI_d, fD_i, wI_eq, wD_eq, wI_ne, wD_ne, fI_ne, fD_ne, wI_ns, wD_ns, fI_eq, fD_eq, fI_ns, fD_ns]; done)
    · simp only [if_pos hc, if_neg hc0]
      exact EE_i rfl rfl (Iv_f 5 i)
  · simp only [if_neg hc]
    exact EE_i rfl rfl i
