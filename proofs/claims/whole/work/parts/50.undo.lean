/-! ===== undo ===== -/
theorem E_undo {h : sd_H} (i : Iv h h) : EE (XT_undo h) (fun g => YM_undo g) := by
  obtain ⟨N, S, il, ih⟩ := i.2.2.2.2.1
  obtain ⟨o, n, cs, ho, hn, e1, e2, e3, e4, is⟩ := ih
  obtain ⟨a1, a2, a3, a4, a5, a6, a7⟩ := il
  cases n with
  | zero =>
    refine EE_i (h1 := h) (h2 := h) (r := -3) ?_ ?_ i
    · unfold XT_undo
      rw [e2]
      exact if_pos nI_0
    · unfold YM_undo
      rw [e3]
      exact if_pos nI_0
  | succ m =>
  have hl := XH_latest_e ⟨ho, hn, e1, e2⟩
  rw [show (o + (m + 1) + 19) % 20 = (o + m) % 20 by omega] at hl
  have sT := sh_t (o + m)
  have he := is m (by omega)
  obtain ⟨T, eT⟩ : ∃ T, 35 + (o + m) % 20 = T := ⟨_, rfl⟩
  rw [eT] at hl sT he
  have t1 : 35 ≤ T := by omega
  have t2 : T ≤ 54 := by omega
  have pop : ∀ (gg vv : sd_H) (S' : Nat), gg.1 33 1 = nI o → gg.1 33 2 = nI m → (∀ c, 35 ≤ c → c ≤ 54 → gg.1 c = h.1 c) → vv.1 141 = h.1 141 → vv.1 126 18 = nI m → cs m = S' → IH gg vv S' :=
    fun gg vv S' q1 q2 q3 q4 q5 q6 => ⟨o, m, cs, ho, by omega, q1, q2, q5, q6, IHs_c q3 q4 (fun p hp => is p (by omega))⟩
  have nz1 : ¬ nI (m + 1) = 0 := nI_ne0 (by omega) (by omega)
  obtain ⟨x0, he⟩ := he
  have X : XT_undo h = b2 (XH_takeBack h) (fun h3 t4 => hb (wI h3 56 5 1) (fun h5 => some (h5, t4))) := by
    unfold XT_undo
    rw [e2, if_neg nz1]
  unfold XH_takeBack XH_takeBack_B171 at X
  rw [hl, b1_s, gd_h (decide_eq_true sT), hb_s, e2] at X
  rcases he with ⟨ea, x3, ⟨M, hM, ep⟩, ec⟩ | ⟨ea, x1, ec⟩ | ⟨ea, ec, x3, k, w, hk, hw, x1, x2, eb, ep⟩ | ⟨ea, ec, x3, x4, x5, ⟨k, w, hk, hw, x1, x2, eb⟩, ep, eq, es⟩ | ⟨ea, ec, x3, x4, ⟨k, hk, x1, eb⟩, ep, eq⟩ | ⟨ea, ec, x3, ⟨k, hk, x1, eb⟩, ep⟩
  · rw [ea] at x0
    refine EE_i (h1 := wI (wI (wI h 33 2 (nI m)) 6 1 (nI M)) 56 5 1) (r := nI 0) (h2 := wI (wI (wI (wI (wI h 33 2 (nI m)) 6 1 (nI M)) 56 5 1) 126 18 (nI m)) 126 6 (nI M)) ?_ ?_ (Iv_l i ⟨M, S, ?_, ?_⟩ ?_ ?_ ?_ ?_ ?_ ?_ ?_ ?_ ?_ ?_ ?_ ?_ ?_ ?_ ?_ ?_ ?_ ?_ ?_ ?_ ?_ ?_)
    · rw [X]
      simp (disch := omega) only [wI_ne, wI_ns, wI_eq, i0, i1, i2, i3, i4, i5, hb_s, b1_s, b2_s, gd_t, nI_m1, Nat.add_sub_cancel, nI_clamp, inB_n, nI_add, nI_1, pk_mul, lit 6, x0, ea, x3, ep]
      rw [if_pos nI_0]
      simp (disch := omega) only [wI_ne, wI_ns, wI_eq, i0, i1, i2, i3, i4, i5, hb_s, b1_s, b2_s, gd_t, nI_m1, Nat.add_sub_cancel, nI_clamp, inB_n, nI_add, nI_1, pk_mul, lit 6, x0, ea, x3, ep]
    · unfold YM_undo
      simp (disch := omega) only [wI_ne, wI_ns, wI_eq, i0, i1, i2, i3, i4, i5, hb_s, b1_s, b2_s, gd_t, nI_m1, Nat.add_sub_cancel, nI_clamp, inB_n, nI_add, nI_1, pk_mul, lit 6, lit 2, lit 3, lit 4, e3, ea, ep]
      rw [if_neg nz1, if_pos nI_0]
    · refine ⟨hM, a2, ?_, ?_, ?_, ?_, fun t ht => ILk_c (by omega) (fun c h1 h2 => ?_) ?_ ?_ ?_ ?_ ?_ ?_ ?_ ?_ ?_ (a7 t ht)⟩
      · simp (disch := omega) only [wI_d, wD_i, fI_d, fD_i, wI_eq, wD_eq, wI_ne, wD_ne, fI_ne, fD_ne, wI_ns, wD_ns, fI_eq, fD_eq, fI_ns, fD_ns]
      · simp (disch := omega) only [wI_d, wD_i, fI_d, fD_i, wI_eq, wD_eq, wI_ne, wD_ne, fI_ne, fD_ne, wI_ns, wD_ns, fI_eq, fD_eq, fI_ns, fD_ns]
      · simp (disch := omega) only [wI_d, wD_i, fI_d, fD_i, wI_eq, wD_eq, wI_ne, wD_ne, fI_ne, fD_ne, wI_ns, wD_ns, fI_eq, fD_eq, fI_ns, fD_ns]
        exact a5
      · simp (disch := omega) only [wI_d, wD_i, fI_d, fD_i, wI_eq, wD_eq, wI_ne, wD_ne, fI_ne, fD_ne, wI_ns, wD_ns, fI_eq, fD_eq, fI_ns, fD_ns]
        exact a6
      all_goals simp (disch := omega) only [wI_d, wD_i, fI_d, fD_i, wI_eq, wD_eq, wI_ne, wD_ne, fI_ne, fD_ne, wI_ns, wD_ns, fI_eq, fD_eq, fI_ns, fD_ns]
    · refine pop _ _ _ ?_ ?_ (fun c h1 h2 => ?_) ?_ ?_ (ec.symm.trans e4)
      · simp (disch := omega) only [wI_d, wD_i, fI_d, fD_i, wI_eq, wD_eq, wI_ne, wD_ne, fI_ne, fD_ne, wI_ns, wD_ns, fI_eq, fD_eq, fI_ns, fD_ns]
        exact e1
      · simp (disch := omega) only [wI_d, wD_i, fI_d, fD_i, wI_eq, wD_eq, wI_ne, wD_ne, fI_ne, fD_ne, wI_ns, wD_ns, fI_eq, fD_eq, fI_ns, fD_ns]
      · simp (disch := omega) only [wI_d, wD_i, fI_d, fD_i, wI_eq, wD_eq, wI_ne, wD_ne, fI_ne, fD_ne, wI_ns, wD_ns, fI_eq, fD_eq, fI_ns, fD_ns]
      · simp (disch := omega) only [wI_d, wD_i, fI_d, fD_i, wI_eq, wD_eq, wI_ne, wD_ne, fI_ne, fD_ne, wI_ns, wD_ns, fI_eq, fD_eq, fI_ns, fD_ns]
      · simp (disch := omega) only [wI_d, wD_i, fI_d, fD_i, wI_eq, wD_eq, wI_ne, wD_ne, fI_ne, fD_ne, wI_ns, wD_ns, fI_eq, fD_eq, fI_ns, fD_ns]
    all_goals simp (disch := omega) only [wI_d, wD_i, fI_d, fD_i, wI_eq, wD_eq, wI_ne, wD_ne, fI_ne, fD_ne, wI_ns, wD_ns, fI_eq, fD_eq, fI_ns, fD_ns]
  · rw [ea] at x0
    have eS : S = cs m + 1 := by omega
    refine EE_i (h1 := wI (wI (wI h 33 2 (nI m)) 6 2 (nI (cs m))) 56 5 1) (r := nI 1) (h2 := wI (wI (wI (wI (wI h 33 2 (nI m)) 6 2 (nI (cs m))) 56 5 1) 126 18 (nI m)) 126 7 (nI (cs m))) ?_ ?_ (Iv_l i ⟨N, cs m, ?_, ?_⟩ ?_ ?_ ?_ ?_ ?_ ?_ ?_ ?_ ?_ ?_ ?_ ?_ ?_ ?_ ?_ ?_ ?_ ?_ ?_ ?_ ?_ ?_)
    · rw [X]
      simp (disch := omega) only [wI_ne, wI_ns, wI_eq, i0, i1, i2, i3, i4, i5, hb_s, b1_s, b2_s, gd_t, nI_m1, Nat.add_sub_cancel, nI_clamp, inB_n, nI_add, nI_1, pk_mul, lit 6, x0, ea, x1]
      rw [if_neg (by decide), if_pos (show nI 1 = 1 from rfl)]
      simp (disch := omega) only [wI_ne, wI_ns, wI_eq, i0, i1, i2, i3, i4, i5, hb_s, b1_s, b2_s, gd_t, nI_m1, Nat.add_sub_cancel, nI_clamp, inB_n, nI_add, nI_1, pk_mul, lit 6, x0, ea, x1]
    · unfold YM_undo
      simp (disch := omega) only [wI_ne, wI_ns, wI_eq, i0, i1, i2, i3, i4, i5, hb_s, b1_s, b2_s, gd_t, nI_m1, Nat.add_sub_cancel, nI_clamp, inB_n, nI_add, nI_1, pk_mul, lit 6, lit 2, lit 3, lit 4, e3, ea, a6, eS]
      rw [if_neg nz1, if_neg (by decide), if_pos (show nI 1 = 1 from rfl)]
    · refine ⟨a1, by omega, ?_, ?_, ?_, ?_, fun t ht => ILk_c (by omega) (fun c h1 h2 => ?_) ?_ ?_ ?_ ?_ ?_ ?_ ?_ ?_ ?_ (a7 t (by omega))⟩
      · simp (disch := omega) only [wI_d, wD_i, fI_d, fD_i, wI_eq, wD_eq, wI_ne, wD_ne, fI_ne, fD_ne, wI_ns, wD_ns, fI_eq, fD_eq, fI_ns, fD_ns]
        exact a3
      · simp (disch := omega) only [wI_d, wD_i, fI_d, fD_i, wI_eq, wD_eq, wI_ne, wD_ne, fI_ne, fD_ne, wI_ns, wD_ns, fI_eq, fD_eq, fI_ns, fD_ns]
        exact a4
      · simp (disch := omega) only [wI_d, wD_i, fI_d, fD_i, wI_eq, wD_eq, wI_ne, wD_ne, fI_ne, fD_ne, wI_ns, wD_ns, fI_eq, fD_eq, fI_ns, fD_ns]
      · simp (disch := omega) only [wI_d, wD_i, fI_d, fD_i, wI_eq, wD_eq, wI_ne, wD_ne, fI_ne, fD_ne, wI_ns, wD_ns, fI_eq, fD_eq, fI_ns, fD_ns]
      all_goals simp (disch := omega) only [wI_d, wD_i, fI_d, fD_i, wI_eq, wD_eq, wI_ne, wD_ne, fI_ne, fD_ne, wI_ns, wD_ns, fI_eq, fD_eq, fI_ns, fD_ns]
    · refine pop _ _ _ ?_ ?_ (fun c h1 h2 => ?_) ?_ ?_ rfl
      · simp (disch := omega) only [wI_d, wD_i, fI_d, fD_i, wI_eq, wD_eq, wI_ne, wD_ne, fI_ne, fD_ne, wI_ns, wD_ns, fI_eq, fD_eq, fI_ns, fD_ns]
        exact e1
      · simp (disch := omega) only [wI_d, wD_i, fI_d, fD_i, wI_eq, wD_eq, wI_ne, wD_ne, fI_ne, fD_ne, wI_ns, wD_ns, fI_eq, fD_eq, fI_ns, fD_ns]
      · simp (disch := omega) only [wI_d, wD_i, fI_d, fD_i, wI_eq, wD_eq, wI_ne, wD_ne, fI_ne, fD_ne, wI_ns, wD_ns, fI_eq, fD_eq, fI_ns, fD_ns]
      · simp (disch := omega) only [wI_d, wD_i, fI_d, fD_i, wI_eq, wD_eq, wI_ne, wD_ne, fI_ne, fD_ne, wI_ns, wD_ns, fI_eq, fD_eq, fI_ns, fD_ns]
      · simp (disch := omega) only [wI_d, wD_i, fI_d, fD_i, wI_eq, wD_eq, wI_ne, wD_ne, fI_ne, fD_ne, wI_ns, wD_ns, fI_eq, fD_eq, fI_ns, fD_ns]
    all_goals simp (disch := omega) only [wI_d, wD_i, fI_d, fD_i, wI_eq, wD_eq, wI_ne, wD_ne, fI_ne, fD_ne, wI_ns, wD_ns, fI_eq, fD_eq, fI_ns, fD_ns]
  · rw [ea] at x0
    have en : 8 + 5 * k + 1 + 1 + w = 10 + 5 * k + w := by omega
    refine EE_i (h1 := wI (wI (wI h 33 2 (nI m)) (10 + 5 * k + w) 0 (h.1 141 (6 * m + 2))) 56 5 1) (r := nI 2) (h2 := wI (wI (wI (wI (wI h 33 2 (nI m)) (10 + 5 * k + w) 0 (h.1 141 (6 * m + 2))) 56 5 1) 126 18 (nI m)) 137 (3 * k + w) (h.1 141 (6 * m + 2))) ?_ ?_ (Iv_l i ⟨N, S, ?_, ?_⟩ ?_ ?_ ?_ ?_ ?_ ?_ ?_ ?_ ?_ ?_ ?_ ?_ ?_ ?_ ?_ ?_ ?_ ?_ ?_ ?_ ?_ ?_)
    · rw [X]
      simp (disch := omega) only [wI_ne, wI_ns, wI_eq, i0, i1, i2, i3, i4, i5, hb_s, b1_s, b2_s, gd_t, nI_m1, Nat.add_sub_cancel, nI_clamp, inB_n, nI_add, nI_1, pk_mul, lit 6, x0, ea, x1, x2, x3, en]
      rw [if_neg (by decide), if_neg (by decide), if_pos (show nI 2 = 2 from rfl)]
      simp (disch := omega) only [wI_ne, wI_ns, wI_eq, i0, i1, i2, i3, i4, i5, hb_s, b1_s, b2_s, gd_t, nI_m1, Nat.add_sub_cancel, nI_clamp, inB_n, nI_add, nI_1, pk_mul, lit 6, x0, ea, x1, x2, x3, en]
    · unfold YM_undo
      simp (disch := omega) only [wI_ne, wI_ns, wI_eq, i0, i1, i2, i3, i4, i5, hb_s, b1_s, b2_s, gd_t, nI_m1, Nat.add_sub_cancel, nI_clamp, inB_n, nI_add, nI_1, pk_mul, lit 6, lit 2, lit 3, lit 4, e3, ea, eb]
      rw [if_neg nz1, if_neg (by decide), if_neg (by decide), if_pos trivial]
    · refine ⟨a1, a2, ?_, ?_, ?_, ?_, fun t ht => ?_⟩
      · simp (disch := omega) only [wI_d, wD_i, fI_d, fD_i, wI_eq, wD_eq, wI_ne, wD_ne, fI_ne, fD_ne, wI_ns, wD_ns, fI_eq, fD_eq, fI_ns, fD_ns]
        exact a3
      · simp (disch := omega) only [wI_d, wD_i, fI_d, fD_i, wI_eq, wD_eq, wI_ne, wD_ne, fI_ne, fD_ne, wI_ns, wD_ns, fI_eq, fD_eq, fI_ns, fD_ns]
        exact a4
      · simp (disch := omega) only [wI_d, wD_i, fI_d, fD_i, wI_eq, wD_eq, wI_ne, wD_ne, fI_ne, fD_ne, wI_ns, wD_ns, fI_eq, fD_eq, fI_ns, fD_ns]
        exact a5
      · simp (disch := omega) only [wI_d, wD_i, fI_d, fD_i, wI_eq, wD_eq, wI_ne, wD_ne, fI_ne, fD_ne, wI_ns, wD_ns, fI_eq, fD_eq, fI_ns, fD_ns]
        exact a6
      · have kk : t < 5 := by omega
        have tt := a7 t ht
        refine ⟨?_, fun u hu => ?_⟩
        · simp (disch := omega) only [wI_d, wD_i, fI_d, fD_i, wI_eq, wD_eq, wI_ne, wD_ne, fI_ne, fD_ne, wI_ns, wD_ns, fI_eq, fD_eq, fI_ns, fD_ns]
          exact tt.1
        · by_cases e : t = k ∧ u = w
          · obtain ⟨rfl, rfl⟩ := e
            obtain ⟨r1, r2, r3, r4, r5, r6, r7, r8⟩ := tt.2 u hu
            refine ⟨?_, ?_, ?_, ?_, ?_, ?_, ?_, ?_⟩ <;> simp (disch := omega) only [wI_d, wD_i, fI_d, fD_i, wI_eq, wD_eq, wI_ne, wD_ne, fI_ne, fD_ne, wI_ns, wD_ns, fI_eq, fD_eq, fI_ns, fD_ns] <;> assumption
          · have tu := tt.2 u hu
            have d1 : ¬ 10 + 5 * t + u = 10 + 5 * k + w := by omega
            have d2 : ¬ 3 * t + u = 3 * k + w := by omega
            simp (disch := omega) only [wI_d, wD_i, fI_d, fD_i, wI_eq, wD_eq, wI_ne, wD_ne, fI_ne, fD_ne, wI_ns, wD_ns, fI_eq, fD_eq, fI_ns, fD_ns]
            exact tu
    · refine pop _ _ _ ?_ ?_ (fun c h1 h2 => ?_) ?_ ?_ (ec.symm.trans e4)
      · simp (disch := omega) only [wI_d, wD_i, fI_d, fD_i, wI_eq, wD_eq, wI_ne, wD_ne, fI_ne, fD_ne, wI_ns, wD_ns, fI_eq, fD_eq, fI_ns, fD_ns]
        exact e1
      · simp (disch := omega) only [wI_d, wD_i, fI_d, fD_i, wI_eq, wD_eq, wI_ne, wD_ne, fI_ne, fD_ne, wI_ns, wD_ns, fI_eq, fD_eq, fI_ns, fD_ns]
      · simp (disch := omega) only [wI_d, wD_i, fI_d, fD_i, wI_eq, wD_eq, wI_ne, wD_ne, fI_ne, fD_ne, wI_ns, wD_ns, fI_eq, fD_eq, fI_ns, fD_ns]
      · simp (disch := omega) only [wI_d, wD_i, fI_d, fD_i, wI_eq, wD_eq, wI_ne, wD_ne, fI_ne, fD_ne, wI_ns, wD_ns, fI_eq, fD_eq, fI_ns, fD_ns]
      · simp (disch := omega) only [wI_d, wD_i, fI_d, fD_i, wI_eq, wD_eq, wI_ne, wD_ne, fI_ne, fD_ne, wI_ns, wD_ns, fI_eq, fD_eq, fI_ns, fD_ns]
    all_goals simp (disch := omega) only [wI_d, wD_i, fI_d, fD_i, wI_eq, wD_eq, wI_ne, wD_ne, fI_ne, fD_ne, wI_ns, wD_ns, fI_eq, fD_eq, fI_ns, fD_ns]
  · rw [ea] at x0
    have en : 8 + 5 * k + 1 + 1 + w = 10 + 5 * k + w := by omega
    refine EE_i (h1 := wI (wI (wI (wI (wI h 33 2 (nI m)) (10 + 5 * k + w) 1 (h.1 141 (6 * m + 2))) (10 + 5 * k + w) 2 (h.1 141 (6 * m + 3))) (10 + 5 * k + w) 3 (h.1 141 (6 * m + 4))) 56 5 1) (r := nI 3) (h2 := wI (wI (wI (wI (wI (wI (wI (wI (wI h 33 2 (nI m)) (10 + 5 * k + w) 1 (h.1 141 (6 * m + 2))) (10 + 5 * k + w) 2 (h.1 141 (6 * m + 3))) (10 + 5 * k + w) 3 (h.1 141 (6 * m + 4))) 56 5 1) 126 18 (nI m)) 138 (3 * k + w) (h.1 141 (6 * m + 2))) 139 (3 * k + w) (h.1 141 (6 * m + 3))) 140 (3 * k + w) (h.1 141 (6 * m + 4))) ?_ ?_ (Iv_l i ⟨N, S, ?_, ?_⟩ ?_ ?_ ?_ ?_ ?_ ?_ ?_ ?_ ?_ ?_ ?_ ?_ ?_ ?_ ?_ ?_ ?_ ?_ ?_ ?_ ?_ ?_)
    · rw [X]
      simp (disch := omega) only [wI_ne, wI_ns, wI_eq, i0, i1, i2, i3, i4, i5, hb_s, b1_s, b2_s, gd_t, nI_m1, Nat.add_sub_cancel, nI_clamp, inB_n, nI_add, nI_1, pk_mul, lit 6, x0, ea, x1, x2, x3, x4, x5, en, XF_lie]
      rw [if_neg (by decide), if_neg (by decide), if_neg (by decide), if_pos (show nI 3 = 3 from rfl)]
      simp (disch := omega) only [wI_ne, wI_ns, wI_eq, i0, i1, i2, i3, i4, i5, hb_s, b1_s, b2_s, gd_t, nI_m1, Nat.add_sub_cancel, nI_clamp, inB_n, nI_add, nI_1, pk_mul, lit 6, x0, ea, x1, x2, x3, x4, x5, en, XF_lie]
    · unfold YM_undo
      simp (disch := omega) only [wI_ne, wI_ns, wI_eq, i0, i1, i2, i3, i4, i5, hb_s, b1_s, b2_s, gd_t, nI_m1, Nat.add_sub_cancel, nI_clamp, inB_n, nI_add, nI_1, pk_mul, lit 6, lit 2, lit 3, lit 4, e3, ea, eb]
      rw [if_neg nz1, if_neg (by decide), if_neg (by decide), if_neg (by decide), if_pos trivial]
    · refine ⟨a1, a2, ?_, ?_, ?_, ?_, fun t ht => ?_⟩
      · simp (disch := omega) only [wI_d, wD_i, fI_d, fD_i, wI_eq, wD_eq, wI_ne, wD_ne, fI_ne, fD_ne, wI_ns, wD_ns, fI_eq, fD_eq, fI_ns, fD_ns]
        exact a3
      · simp (disch := omega) only [wI_d, wD_i, fI_d, fD_i, wI_eq, wD_eq, wI_ne, wD_ne, fI_ne, fD_ne, wI_ns, wD_ns, fI_eq, fD_eq, fI_ns, fD_ns]
        exact a4
      · simp (disch := omega) only [wI_d, wD_i, fI_d, fD_i, wI_eq, wD_eq, wI_ne, wD_ne, fI_ne, fD_ne, wI_ns, wD_ns, fI_eq, fD_eq, fI_ns, fD_ns]
        exact a5
      · simp (disch := omega) only [wI_d, wD_i, fI_d, fD_i, wI_eq, wD_eq, wI_ne, wD_ne, fI_ne, fD_ne, wI_ns, wD_ns, fI_eq, fD_eq, fI_ns, fD_ns]
        exact a6
      · have kk : t < 5 := by omega
        have tt := a7 t ht
        refine ⟨?_, fun u hu => ?_⟩
        · simp (disch := omega) only [wI_d, wD_i, fI_d, fD_i, wI_eq, wD_eq, wI_ne, wD_ne, fI_ne, fD_ne, wI_ns, wD_ns, fI_eq, fD_eq, fI_ns, fD_ns]
          exact tt.1
        · by_cases e : t = k ∧ u = w
          · obtain ⟨rfl, rfl⟩ := e
            obtain ⟨r1, r2, r3, r4, r5, r6, r7, r8⟩ := tt.2 u hu
            refine ⟨?_, ?_, ?_, ?_, ?_, ⟨?_, ?_⟩, ⟨?_, ?_⟩, ⟨?_, ?_⟩⟩ <;> simp (disch := omega) only [wI_d, wD_i, fI_d, fD_i, wI_eq, wD_eq, wI_ne, wD_ne, fI_ne, fD_ne, wI_ns, wD_ns, fI_eq, fD_eq, fI_ns, fD_ns] <;> first | assumption | omega
          · have tu := tt.2 u hu
            have d1 : ¬ 10 + 5 * t + u = 10 + 5 * k + w := by omega
            have d2 : ¬ 3 * t + u = 3 * k + w := by omega
            simp (disch := omega) only [wI_d, wD_i, fI_d, fD_i, wI_eq, wD_eq, wI_ne, wD_ne, fI_ne, fD_ne, wI_ns, wD_ns, fI_eq, fD_eq, fI_ns, fD_ns]
            exact tu
    · refine pop _ _ _ ?_ ?_ (fun c h1 h2 => ?_) ?_ ?_ (ec.symm.trans e4)
      · simp (disch := omega) only [wI_d, wD_i, fI_d, fD_i, wI_eq, wD_eq, wI_ne, wD_ne, fI_ne, fD_ne, wI_ns, wD_ns, fI_eq, fD_eq, fI_ns, fD_ns]
        exact e1
      · simp (disch := omega) only [wI_d, wD_i, fI_d, fD_i, wI_eq, wD_eq, wI_ne, wD_ne, fI_ne, fD_ne, wI_ns, wD_ns, fI_eq, fD_eq, fI_ns, fD_ns]
      · simp (disch := omega) only [wI_d, wD_i, fI_d, fD_i, wI_eq, wD_eq, wI_ne, wD_ne, fI_ne, fD_ne, wI_ns, wD_ns, fI_eq, fD_eq, fI_ns, fD_ns]
      · simp (disch := omega) only [wI_d, wD_i, fI_d, fD_i, wI_eq, wD_eq, wI_ne, wD_ne, fI_ne, fD_ne, wI_ns, wD_ns, fI_eq, fD_eq, fI_ns, fD_ns]
      · simp (disch := omega) only [wI_d, wD_i, fI_d, fD_i, wI_eq, wD_eq, wI_ne, wD_ne, fI_ne, fD_ne, wI_ns, wD_ns, fI_eq, fD_eq, fI_ns, fD_ns]
    all_goals simp (disch := omega) only [wI_d, wD_i, fI_d, fD_i, wI_eq, wD_eq, wI_ne, wD_ne, fI_ne, fD_ne, wI_ns, wD_ns, fI_eq, fD_eq, fI_ns, fD_ns]
  · rw [ea] at x0
    refine EE_i (h1 := wI (wI (wI (wI h 33 2 (nI m)) (8 + 5 * k) 3 (h.1 141 (6 * m + 2))) (8 + 5 * k) 4 (h.1 141 (6 * m + 3))) 56 5 1) (r := nI 4) (h2 := wI (wI (wI (wI (wI (wI (wI h 33 2 (nI m)) (8 + 5 * k) 3 (h.1 141 (6 * m + 2))) (8 + 5 * k) 4 (h.1 141 (6 * m + 3))) 56 5 1) 126 18 (nI m)) 134 k (h.1 141 (6 * m + 2))) 135 k (h.1 141 (6 * m + 3))) ?_ ?_ (Iv_l i ⟨N, S, ?_, ?_⟩ ?_ ?_ ?_ ?_ ?_ ?_ ?_ ?_ ?_ ?_ ?_ ?_ ?_ ?_ ?_ ?_ ?_ ?_ ?_ ?_ ?_ ?_)
    · rw [X]
      simp (disch := omega) only [wI_ne, wI_ns, wI_eq, i0, i1, i2, i3, i4, i5, hb_s, b1_s, b2_s, gd_t, nI_m1, Nat.add_sub_cancel, nI_clamp, inB_n, nI_add, nI_1, pk_mul, lit 6, x0, ea, x1, x3, x4]
      rw [if_neg (by decide), if_neg (by decide), if_neg (by decide), if_neg (by decide), if_pos (show nI 4 = 4 from rfl)]
      simp (disch := omega) only [wI_ne, wI_ns, wI_eq, i0, i1, i2, i3, i4, i5, hb_s, b1_s, b2_s, gd_t, nI_m1, Nat.add_sub_cancel, nI_clamp, inB_n, nI_add, nI_1, pk_mul, lit 6, x0, ea, x1, x3, x4]
    · unfold YM_undo
      simp (disch := omega) only [wI_ne, wI_ns, wI_eq, i0, i1, i2, i3, i4, i5, hb_s, b1_s, b2_s, gd_t, nI_m1, Nat.add_sub_cancel, nI_clamp, inB_n, nI_add, nI_1, pk_mul, lit 6, lit 2, lit 3, lit 4, e3, ea, eb]
      rw [if_neg nz1, if_neg (by decide), if_neg (by decide), if_neg (by decide), if_neg (by decide), if_pos trivial]
    · refine ⟨a1, a2, ?_, ?_, ?_, ?_, fun t ht => ?_⟩
      · simp (disch := omega) only [wI_d, wD_i, fI_d, fD_i, wI_eq, wD_eq, wI_ne, wD_ne, fI_ne, fD_ne, wI_ns, wD_ns, fI_eq, fD_eq, fI_ns, fD_ns]
        exact a3
      · simp (disch := omega) only [wI_d, wD_i, fI_d, fD_i, wI_eq, wD_eq, wI_ne, wD_ne, fI_ne, fD_ne, wI_ns, wD_ns, fI_eq, fD_eq, fI_ns, fD_ns]
        exact a4
      · simp (disch := omega) only [wI_d, wD_i, fI_d, fD_i, wI_eq, wD_eq, wI_ne, wD_ne, fI_ne, fD_ne, wI_ns, wD_ns, fI_eq, fD_eq, fI_ns, fD_ns]
        exact a5
      · simp (disch := omega) only [wI_d, wD_i, fI_d, fD_i, wI_eq, wD_eq, wI_ne, wD_ne, fI_ne, fD_ne, wI_ns, wD_ns, fI_eq, fD_eq, fI_ns, fD_ns]
        exact a6
      · have kk : t < 5 := by omega
        have tt := a7 t ht
        by_cases e : t = k
        · subst e
          obtain ⟨⟨s1, s2, s3, s4, s5, s6, s7, s8, s9, s10⟩, s11⟩ := tt
          refine ⟨⟨?_, ?_, ?_, ?_, ?_, ?_, ?_, ?_, ?_, ?_⟩, fun w hw => ?_⟩ <;> simp (disch := omega) only [wI_d, wD_i, fI_d, fD_i, wI_eq, wD_eq, wI_ne, wD_ne, fI_ne, fD_ne, wI_ns, wD_ns, fI_eq, fD_eq, fI_ns, fD_ns] <;> first | assumption | exact s11 w hw
        · refine ⟨?_, fun w hw => ?_⟩ <;> simp (disch := omega) only [wI_d, wD_i, fI_d, fD_i, wI_eq, wD_eq, wI_ne, wD_ne, fI_ne, fD_ne, wI_ns, wD_ns, fI_eq, fD_eq, fI_ns, fD_ns] <;> first | exact tt.1 | exact tt.2 w hw
    · refine pop _ _ _ ?_ ?_ (fun c h1 h2 => ?_) ?_ ?_ (ec.symm.trans e4)
      · simp (disch := omega) only [wI_d, wD_i, fI_d, fD_i, wI_eq, wD_eq, wI_ne, wD_ne, fI_ne, fD_ne, wI_ns, wD_ns, fI_eq, fD_eq, fI_ns, fD_ns]
        exact e1
      · simp (disch := omega) only [wI_d, wD_i, fI_d, fD_i, wI_eq, wD_eq, wI_ne, wD_ne, fI_ne, fD_ne, wI_ns, wD_ns, fI_eq, fD_eq, fI_ns, fD_ns]
      · simp (disch := omega) only [wI_d, wD_i, fI_d, fD_i, wI_eq, wD_eq, wI_ne, wD_ne, fI_ne, fD_ne, wI_ns, wD_ns, fI_eq, fD_eq, fI_ns, fD_ns]
      · simp (disch := omega) only [wI_d, wD_i, fI_d, fD_i, wI_eq, wD_eq, wI_ne, wD_ne, fI_ne, fD_ne, wI_ns, wD_ns, fI_eq, fD_eq, fI_ns, fD_ns]
      · simp (disch := omega) only [wI_d, wD_i, fI_d, fD_i, wI_eq, wD_eq, wI_ne, wD_ne, fI_ne, fD_ne, wI_ns, wD_ns, fI_eq, fD_eq, fI_ns, fD_ns]
    all_goals simp (disch := omega) only [wI_d, wD_i, fI_d, fD_i, wI_eq, wD_eq, wI_ne, wD_ne, fI_ne, fD_ne, wI_ns, wD_ns, fI_eq, fD_eq, fI_ns, fD_ns]
  · rw [ea] at x0
    refine EE_i (h1 := wI (wI (wI h 33 2 (nI m)) (8 + 5 * k) 5 (h.1 141 (6 * m + 2))) 56 5 1) (r := nI 5) (h2 := wI (wI (wI (wI (wI h 33 2 (nI m)) (8 + 5 * k) 5 (h.1 141 (6 * m + 2))) 56 5 1) 126 18 (nI m)) 136 k (h.1 141 (6 * m + 2))) ?_ ?_ (Iv_l i ⟨N, S, ?_, ?_⟩ ?_ ?_ ?_ ?_ ?_ ?_ ?_ ?_ ?_ ?_ ?_ ?_ ?_ ?_ ?_ ?_ ?_ ?_ ?_ ?_ ?_ ?_)
    · rw [X]
      simp (disch := omega) only [wI_ne, wI_ns, wI_eq, i0, i1, i2, i3, i4, i5, hb_s, b1_s, b2_s, gd_t, nI_m1, Nat.add_sub_cancel, nI_clamp, inB_n, nI_add, nI_1, pk_mul, lit 6, x0, ea, x1, x3]
      rw [if_neg (by decide), if_neg (by decide), if_neg (by decide), if_neg (by decide), if_neg (by decide)]
      simp (disch := omega) only [wI_ne, wI_ns, wI_eq, i0, i1, i2, i3, i4, i5, hb_s, b1_s, b2_s, gd_t, nI_m1, Nat.add_sub_cancel, nI_clamp, inB_n, nI_add, nI_1, pk_mul, lit 6, x0, ea, x1, x3]
    · unfold YM_undo
      simp (disch := omega) only [wI_ne, wI_ns, wI_eq, i0, i1, i2, i3, i4, i5, hb_s, b1_s, b2_s, gd_t, nI_m1, Nat.add_sub_cancel, nI_clamp, inB_n, nI_add, nI_1, pk_mul, lit 6, lit 2, lit 3, lit 4, e3, ea, eb]
      rw [if_neg nz1, if_neg (by decide), if_neg (by decide), if_neg (by decide), if_neg (by decide), if_neg (by decide)]
    · refine ⟨a1, a2, ?_, ?_, ?_, ?_, fun t ht => ?_⟩
      · simp (disch := omega) only [wI_d, wD_i, fI_d, fD_i, wI_eq, wD_eq, wI_ne, wD_ne, fI_ne, fD_ne, wI_ns, wD_ns, fI_eq, fD_eq, fI_ns, fD_ns]
        exact a3
      · simp (disch := omega) only [wI_d, wD_i, fI_d, fD_i, wI_eq, wD_eq, wI_ne, wD_ne, fI_ne, fD_ne, wI_ns, wD_ns, fI_eq, fD_eq, fI_ns, fD_ns]
        exact a4
      · simp (disch := omega) only [wI_d, wD_i, fI_d, fD_i, wI_eq, wD_eq, wI_ne, wD_ne, fI_ne, fD_ne, wI_ns, wD_ns, fI_eq, fD_eq, fI_ns, fD_ns]
        exact a5
      · simp (disch := omega) only [wI_d, wD_i, fI_d, fD_i, wI_eq, wD_eq, wI_ne, wD_ne, fI_ne, fD_ne, wI_ns, wD_ns, fI_eq, fD_eq, fI_ns, fD_ns]
        exact a6
      · have kk : t < 5 := by omega
        have tt := a7 t ht
        by_cases e : t = k
        · subst e
          obtain ⟨⟨s1, s2, s3, s4, s5, s6, s7, s8, s9, s10⟩, s11⟩ := tt
          refine ⟨⟨?_, ?_, ?_, ?_, ?_, ?_, ?_, ?_, ?_, ?_⟩, fun w hw => ?_⟩ <;> simp (disch := omega) only [wI_d, wD_i, fI_d, fD_i, wI_eq, wD_eq, wI_ne, wD_ne, fI_ne, fD_ne, wI_ns, wD_ns, fI_eq, fD_eq, fI_ns, fD_ns] <;> first | assumption | exact s11 w hw
        · refine ⟨?_, fun w hw => ?_⟩ <;> simp (disch := omega) only [wI_d, wD_i, fI_d, fD_i, wI_eq, wD_eq, wI_ne, wD_ne, fI_ne, fD_ne, wI_ns, wD_ns, fI_eq, fD_eq, fI_ns, fD_ns] <;> first | exact tt.1 | exact tt.2 w hw
    · refine pop _ _ _ ?_ ?_ (fun c h1 h2 => ?_) ?_ ?_ (ec.symm.trans e4)
      · simp (disch := omega) only [wI_d, wD_i, fI_d, fD_i, wI_eq, wD_eq, wI_ne, wD_ne, fI_ne, fD_ne, wI_ns, wD_ns, fI_eq, fD_eq, fI_ns, fD_ns]
        exact e1
      · simp (disch := omega) only [wI_d, wD_i, fI_d, fD_i, wI_eq, wD_eq, wI_ne, wD_ne, fI_ne, fD_ne, wI_ns, wD_ns, fI_eq, fD_eq, fI_ns, fD_ns]
      · simp (disch := omega) only [wI_d, wD_i, fI_d, fD_i, wI_eq, wD_eq, wI_ne, wD_ne, fI_ne, fD_ne, wI_ns, wD_ns, fI_eq, fD_eq, fI_ns, fD_ns]
      · simp (disch := omega) only [wI_d, wD_i, fI_d, fD_i, wI_eq, wD_eq, wI_ne, wD_ne, fI_ne, fD_ne, wI_ns, wD_ns, fI_eq, fD_eq, fI_ns, fD_ns]
      · simp (disch := omega) only [wI_d, wD_i, fI_d, fD_i, wI_eq, wD_eq, wI_ne, wD_ne, fI_ne, fD_ne, wI_ns, wD_ns, fI_eq, fD_eq, fI_ns, fD_ns]
    all_goals simp (disch := omega) only [wI_d, wD_i, fI_d, fD_i, wI_eq, wD_eq, wI_ne, wD_ne, fI_ne, fD_ne, wI_ns, wD_ns, fI_eq, fD_eq, fI_ns, fD_ns]
