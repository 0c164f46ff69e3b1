/-! ===== same ===== -/
theorem eq_ok {a b : UInt64} (oa : okc a) (ob : okc b) : (Op.cmpValue (FP.dcmp a b) .l = 0) = (a = b) := by
  rw [okc_iff] at oa
  obtain ⟨s, m, ha, _⟩ := id oa
  by_cases e : a = b
  · subst e
    rw [Sv_cmp ha ha, cv_eq]
    exact propext ⟨fun _ => rfl, fun _ => rfl⟩
  · have ob' := ob
    rw [okc_iff] at ob'
    obtain ⟨t, k, hb, _⟩ := ob'
    rw [Sv_cmp ha hb, cv_eq]
    exact propext ⟨fun q => absurd (okc_inj (by rw [okc_iff]; exact oa) ob ha hb q) e, fun q => absurd q e⟩
/-- all of m from a on -/
def alb (e : Nat → Bool) : Nat → Nat → Bool
  | _, 0 => true
  | a, m + 1 => e a && alb e (a + 1) m
theorem alb_c {e e' : Nat → Bool} : ∀ m a, (∀ i, a ≤ i → i < a + m → e i = e' i) → alb e a m = alb e' a m
  | 0, _, _ => rfl
  | m + 1, a, h => by
    show (e a && alb e (a + 1) m) = (e' a && alb e' (a + 1) m)
    rw [h a (Nat.le_refl _) (by omega), alb_c m (a + 1) (fun i h1 h2 => h i (by omega) (by omega))]
theorem rows_alike_e {h : sd_H} {p q : Nat} (op : ∀ a, a < 144 → okc (h.2.1 (p + 3) a)) (oq : ∀ a, a < 144 → okc (h.2.1 (q + 3) a)) : ∀ m fu a, a + m = 144 → m < fu → XR_alike_L2 h fu p q (nI a) = some (bi (alb (fun i => decide (h.2.1 (p + 3) i = h.2.1 (q + 3) i)) a m))
  | _, 0, _, _, z => absurd z (Nat.not_lt_zero _)
  | 0, fu + 1, a, e, _ => by
    unfold XR_alike_L2
    rw [lit 144, if_pos (nI_le (by omega) (by omega))]
    rfl
  | m + 1, fu + 1, a, e, z => by
    have e1 : alb (fun i => decide (h.2.1 (p + 3) i = h.2.1 (q + 3) i)) a (m + 1) = (decide (h.2.1 (p + 3) a = h.2.1 (q + 3) a) && alb (fun i => decide (h.2.1 (p + 3) i = h.2.1 (q + 3) i)) (a + 1) m) := rfl
    unfold XR_alike_L2
    rw [lit 144, if_neg (show ¬ nI 144 ≤ nI a from nI_ge (by omega) (by omega)), inB_n (show a < 144 by omega) (by omega), gd_t, gd_t, nI_clamp (by omega), itp (eq_ok (op a (by omega)) (oq a (by omega))), nI_1, e1]
    by_cases c : h.2.1 (p + 3) a = h.2.1 (q + 3) a
    · rw [if_pos c, decide_eq_true c, Bool.true_and]
      exact rows_alike_e op oq m fu (a + 1) (by omega) (by omega)
    · rw [if_neg c, decide_eq_false c, Bool.false_and]
      rfl
theorem outs_alike_e {h : sd_H} {p q : Nat} : ∀ m fu a, a + m = 3 → m < fu → XO_alike_L2 h fu p q (nI a) = some (bi (alb (fun i => decide (h.1 (p + 1) i = h.1 (q + 1) i)) a m && decide (h.1 p 3 = h.1 q 3)))
  | _, 0, _, _, z => absurd z (Nat.not_lt_zero _)
  | 0, fu + 1, a, e, _ => by
    unfold XO_alike_L2
    rw [lit 3, if_pos (nI_le (by omega) (by omega))]
    by_cases c : h.1 p 3 = h.1 q 3
    · rw [if_pos c, decide_eq_true c]
      rfl
    · rw [if_neg c, decide_eq_false c]
      rfl
  | m + 1, fu + 1, a, e, z => by
    have e1 : alb (fun i => decide (h.1 (p + 1) i = h.1 (q + 1) i)) a (m + 1) = (decide (h.1 (p + 1) a = h.1 (q + 1) a) && alb (fun i => decide (h.1 (p + 1) i = h.1 (q + 1) i)) (a + 1) m) := rfl
    unfold XO_alike_L2
    rw [lit 3, if_neg (show ¬ nI 3 ≤ nI a from nI_ge (by omega) (by omega)), inB_n (show a < 3 by omega) (by omega), gd_t, gd_t, nI_clamp (by omega), nI_1, e1]
    by_cases c : h.1 (p + 1) a = h.1 (q + 1) a
    · rw [if_pos c, decide_eq_true c, Bool.true_and]
      exact outs_alike_e m fu (a + 1) (by omega) (by omega)
    · rw [if_neg c, decide_eq_false c, Bool.false_and, Bool.false_and]
      rfl
/-- x's rows taken -/
def tk (h : sd_H) (P : Nat) : sd_H := cpD (cpI (cpI h 2 0 (P + 1) 0 6) 3 0 (P + 2) 0 6) 4 0 (P + 3) 0 144
theorem take_e (h : sd_H) (P : Nat) : XR_take h P 1 = some (tk h P) := by
  unfold XR_take
  rw [show acOK 0 0 6 6 6 = true by decide, show acOK 0 0 144 144 144 = true by decide]
  rfl
theorem tk_f {h : sd_H} {P : Nat} (hP : P = 110 ∨ P = 115) : (∀ c, ¬ (P + 1 ≤ c ∧ c ≤ P + 2) → (tk h P).1 c = h.1 c) ∧ (∀ c, ¬ c = P + 3 → (tk h P).2.1 c = h.2.1 c) ∧ (∀ r, r < 6 → (tk h P).1 (P + 1) r = h.1 2 r ∧ (tk h P).1 (P + 2) r = h.1 3 r) ∧ ∀ a, a < 144 → (tk h P).2.1 (P + 3) a = h.2.1 4 a := by
  have ci : ∀ (g : sd_H) (a b k : Nat), k < 6 → (cpI g a 0 b 0 6).1 b k = g.1 a k := fun g a b k hk => by
    show (if b = b then va_cpy (g.1 a) (g.1 b) (0 : Int32).toNatClampNeg (0 : Int32).toNatClampNeg (6 : Int32).toNatClampNeg k else g.1 b k) = _
    rw [if_pos rfl, show (0 : Int32).toNatClampNeg = 0 from rfl, show (6 : Int32).toNatClampNeg = 6 from rfl, pk_cpy_in (Nat.zero_le _) (by omega), Nat.sub_zero, Nat.zero_add]
  have cn : ∀ (g : sd_H) (a b c : Nat), ¬ c = b → (cpI g a 0 b 0 6).1 c = g.1 c := fun g a b c hc => funext fun k => if_neg hc
  unfold tk
  refine ⟨fun c hc => ?_, fun c hc => ?_, fun r hr => ⟨?_, ?_⟩, fun a ha => ?_⟩
  · rw [cpD_i, cn _ _ _ _ (by omega), cn _ _ _ _ (by omega)]
  · rw [cpD_d hc]
    rfl
  · rw [cpD_i, cn _ _ _ _ (by omega), ci _ _ _ _ hr]
  · rw [cpD_i, ci _ _ _ _ hr, cn _ _ _ _ (by omega)]
  · show (cpD (cpI (cpI h 2 0 (P + 1) 0 6) 3 0 (P + 2) 0 6) 4 (nI 0) (P + 3) (nI 0) (nI 144)).2.1 (P + 3) a = _
    rw [cpD_in (by omega) (by omega) (by omega) ⟨Nat.zero_le _, by omega⟩, Nat.sub_zero, Nat.zero_add]
    rfl
/-! the model keeps and restores -/
theorem ME_cI {v g : sd_H} {c d lo hi : Nat} (m : ME v g) (hc : 143 ≤ c) : ME (cI v c d lo hi) g := by
  obtain ⟨x, y, e, k4, k6, k7, k18, k20⟩ := m
  exact ⟨fun j h1 h2 h3 => by rw [cI_ne (by omega)]; exact x j h1 h2 h3, y, e, by rw [cI_ne (by omega)]; exact k4, by rw [cI_ne (by omega)]; exact k6, by rw [cI_ne (by omega)]; exact k7, by rw [cI_ne (by omega)]; exact k18, by rw [cI_ne (by omega)]; exact k20⟩
theorem ME_cD {v g : sd_H} {c d lo hi : Nat} (m : ME v g) (hc : 143 ≤ c) : ME (cD v c d lo hi) g := by
  obtain ⟨x, y, e, k4, k6, k7, k18, k20⟩ := m
  exact ⟨x, fun a ha => by rw [cD_ne (by omega)]; exact y a ha, fun r hr i hi => by rw [cD_ne (by omega)]; exact e r hr i hi, k4, k6, k7, k18, k20⟩
theorem cD_wI {h : sd_H} {c d lo hi c' k : Nat} {x : Int32} : cD (wI h c' k x) c d lo hi = wI (cD h c d lo hi) c' k x := rfl
theorem cI_wD {h : sd_H} {c d lo hi c' k : Nat} {x : UInt64} : cI (wD h c' k x) c d lo hi = wD (cI h c d lo hi) c' k x := rfl
theorem same_15_e {l1 l2 l3 l4 l5 : Int32} : ∀ m fu a h, a + m = 144 → m < fu → YM_sameNow_L15 fu h l1 l2 l3 l4 l5 (nI a) = YM_sameNow_L60 FU (cI (cD h 153 129 a 144) 155 130 a 144) l1 l2 l3 l4 l5 0
  | _, 0, _, _, _, q => absurd q (Nat.not_lt_zero _)
  | 0, fu + 1, a, h, e, _ => by
    unfold YM_sameNow_L15
    rw [lit 144, if_pos (nI_le (by omega) (by omega)), cD_nil h (by omega), cI_nil h (by omega)]
  | m + 1, fu + 1, a, h, e, q => by
    have k : cI (cD (wI (wD h 153 a (h.2.1 129 a)) 155 a (h.1 130 a)) 153 129 (a + 1) 144) 155 130 (a + 1) 144 = cI (cD h 153 129 a 144) 155 130 a 144 := by
      rw [cD_wI, cD_st (by omega) (by omega)]
      exact cI_st (h := cD h 153 129 a 144) (c := 155) (d := 130) (by omega) (by omega)
    unfold YM_sameNow_L15
    rw [lit 144, if_neg (show ¬ nI 144 ≤ nI a from nI_ge (by omega) (by omega)), inB_n (show a < 144 by omega) (by omega), gd_t, gd_t, hb_s, gd_t, gd_t, hb_s, nI_clamp (by omega), nI_1, same_15_e m fu (a + 1) _ (by omega) (by omega), wD_i, k]
theorem same_60_e {l1 l2 l3 l4 l5 : Int32} : ∀ m fu a h, a + m = 10 → m < fu → YM_sameNow_L60 fu h l1 l2 l3 l4 l5 (nI a) = YM_sameNow_L90 FU (cI h 156 151 a 10) l1 l2 l3 l4 l5 0
  | _, 0, _, _, _, q => absurd q (Nat.not_lt_zero _)
  | 0, fu + 1, a, h, e, _ => by
    unfold YM_sameNow_L60
    rw [lit 10, if_pos (nI_le (by omega) (by omega)), cI_nil h (by omega)]
  | m + 1, fu + 1, a, h, e, q => by
    unfold YM_sameNow_L60
    rw [lit 10, if_neg (show ¬ nI 10 ≤ nI a from nI_ge (by omega) (by omega)), inB_n (show a < 10 by omega) (by omega), gd_t, gd_t, hb_s, nI_clamp (by omega), nI_1, same_60_e m fu (a + 1) _ (by omega) (by omega), cI_st (by omega) (by omega)]
theorem same_90_e {l1 l2 l3 l4 l5 : Int32} : ∀ m fu a h, a + m = 3 → m < fu → YM_sameNow_L90 fu h l1 l2 l3 l4 l5 (nI a) = b2 (YM_runNow (cI h 157 150 a 3)) (fun h5 t6 => YM_sameNow_L125 FU h5 l1 l2 l3 l4 l5 t6 0)
  | _, 0, _, _, _, q => absurd q (Nat.not_lt_zero _)
  | 0, fu + 1, a, h, e, _ => by
    unfold YM_sameNow_L90
    rw [lit 3, if_pos (nI_le (by omega) (by omega)), cI_nil h (by omega)]
  | m + 1, fu + 1, a, h, e, q => by
    unfold YM_sameNow_L90
    rw [lit 3, if_neg (show ¬ nI 3 ≤ nI a from nI_ge (by omega) (by omega)), inB_n (show a < 3 by omega) (by omega), gd_t, gd_t, hb_s, nI_clamp (by omega), nI_1, same_90_e m fu (a + 1) _ (by omega) (by omega), cI_st (by omega) (by omega)]
theorem same_125_e {l1 l2 l3 l4 l5 l6 : Int32} : ∀ m fu a h, a + m = 3 → m < fu → YM_sameNow_L125 fu h l1 l2 l3 l4 l5 l6 (nI a) = YM_sameNow_L154 FU (cI h 158 150 a 3) l1 l2 l3 l4 l5 l6 0
  | _, 0, _, _, _, q => absurd q (Nat.not_lt_zero _)
  | 0, fu + 1, a, h, e, _ => by
    unfold YM_sameNow_L125
    rw [lit 3, if_pos (nI_le (by omega) (by omega)), cI_nil h (by omega)]
  | m + 1, fu + 1, a, h, e, q => by
    unfold YM_sameNow_L125
    rw [lit 3, if_neg (show ¬ nI 3 ≤ nI a from nI_ge (by omega) (by omega)), inB_n (show a < 3 by omega) (by omega), gd_t, gd_t, hb_s, nI_clamp (by omega), nI_1, same_125_e m fu (a + 1) _ (by omega) (by omega), cI_st (by omega) (by omega)]
theorem same_154_e {l1 l2 l3 l4 l5 l6 : Int32} : ∀ m fu a h, a + m = 144 → m < fu → YM_sameNow_L154 fu h l1 l2 l3 l4 l5 l6 (nI a) = b2 (YM_mixes (cD (cD h 154 129 a 144) 129 153 a 144) l1 l2 l3) (fun h10 t11 => if t11 = l6 then YM_sameNow_B213 h10 l4 l5 1 else YM_sameNow_B213 h10 l4 l5 0)
  | _, 0, _, _, _, q => absurd q (Nat.not_lt_zero _)
  | 0, fu + 1, a, h, e, _ => by
    unfold YM_sameNow_L154
    rw [lit 144, if_pos (nI_le (by omega) (by omega)), cD_nil h (by omega), cD_nil h (by omega)]
  | m + 1, fu + 1, a, h, e, q => by
    have k : cD (cD (wD (wD h 154 a (h.2.1 129 a)) 129 a (h.2.1 153 a)) 154 129 (a + 1) 144) 129 153 (a + 1) 144 = cD (cD h 154 129 a 144) 129 153 a 144 := by
      refine H_ext (fun _ _ => rfl) (fun c' k' => ?_) rfl
      simp only [cD_d, wD_d]
      repeat' split
      all_goals first | rfl | (exfalso; omega) | (have hk : k' = a := by omega
                                                  subst hk
                                                  rfl)
    unfold YM_sameNow_L154
    rw [lit 144, if_neg (show ¬ nI 144 ≤ nI a from nI_ge (by omega) (by omega)), inB_n (show a < 144 by omega) (by omega), gd_t, gd_t, hb_s, gd_t, gd_t, hb_s, nI_clamp (by omega), nI_1, same_154_e m fu (a + 1) _ (by omega) (by omega), show (wD h 154 a (h.2.1 129 a)).2.1 153 a = h.2.1 153 a by rw [wD_ne (by omega)], k]
theorem same_218_e {l4 l5 : Int32} : ∀ m fu a b h, a + m = 3 → m < fu → YM_sameNow_L218 fu h l4 l5 (bi b) (nI a) = YM_sameNow_L276 FU (cI h 150 157 a 3) l4 l5 (bi (b && alb (fun i => decide (h.1 158 i = h.1 150 i)) a m)) 0
  | _, 0, _, _, _, _, q => absurd q (Nat.not_lt_zero _)
  | 0, fu + 1, a, b, h, e, _ => by
    unfold YM_sameNow_L218
    rw [lit 3, if_pos (nI_le (by omega) (by omega)), cI_nil h (by omega)]
    cases b <;> rfl
  | m + 1, fu + 1, a, b, h, e, q => by
    have e1 : alb (fun i => decide (h.1 158 i = h.1 150 i)) a (m + 1) = (decide (h.1 158 a = h.1 150 a) && alb (fun i => decide (h.1 158 i = h.1 150 i)) (a + 1) m) := rfl
    have e2 : alb (fun i => decide ((wI h 150 a (h.1 157 a)).1 158 i = (wI h 150 a (h.1 157 a)).1 150 i)) (a + 1) m = alb (fun i => decide (h.1 158 i = h.1 150 i)) (a + 1) m := alb_c m (a + 1) (fun i h1 h2 => by rw [wI_ne (by omega), wI_ns (by omega)])
    have R := fun b => same_218_e (l4 := l4) (l5 := l5) m fu (a + 1) b (wI h 150 a (h.1 157 a)) (by omega) (by omega)
    rw [e2, cI_st (by omega) (by omega)] at R
    unfold YM_sameNow_L218 YM_sameNow_B250 YM_sameNow_B251
    rw [lit 3, if_neg (show ¬ nI 3 ≤ nI a from nI_ge (by omega) (by omega)), inB_n (show a < 3 by omega) (by omega)]
    simp only [gd_t]
    rw [hb_s, nI_clamp (by omega), nI_1, itp (bi_0 b), e1]
    cases b
    · rw [if_pos rfl, Bool.false_and]
      have := R false
      rw [Bool.false_and] at this
      exact this
    · rw [if_neg (by decide), Bool.true_and]
      by_cases c : h.1 158 a = h.1 150 a
      · rw [if_pos c, decide_eq_true c, Bool.true_and]
        have := R true
        rw [Bool.true_and] at this
        exact this
      · rw [if_neg c, decide_eq_false c, Bool.false_and]
        have := R false
        rw [Bool.false_and] at this
        exact this
theorem same_276_e {l4 l5 : Int32} : ∀ m fu a b h, a + m = 144 → m < fu → (∀ i, i < 144 → okc (h.2.1 129 i)) → (∀ i, i < 144 → okc (h.2.1 153 i)) → (∀ i, i < 144 → okc (h.2.1 154 i)) → YM_sameNow_L276 fu h l4 l5 (bi b) (nI a) = YM_sameNow_L351 FU (cI (cD h 129 153 a 144) 130 155 a 144) l4 l5 (bi (b && alb (fun i => decide (h.2.1 129 i = h.2.1 154 i)) a m)) 0
  | _, 0, _, _, _, _, q, _, _, _ => absurd q (Nat.not_lt_zero _)
  | 0, fu + 1, a, b, h, e, _, _, _, _ => by
    unfold YM_sameNow_L276
    rw [lit 144, if_pos (nI_le (by omega) (by omega)), cD_nil h (by omega), cI_nil h (by omega)]
    cases b <;> rfl
  | m + 1, fu + 1, a, b, h, e, q, o9, o3, o4 => by
    have e1 : alb (fun i => decide (h.2.1 129 i = h.2.1 154 i)) a (m + 1) = (decide (h.2.1 129 a = h.2.1 154 a) && alb (fun i => decide (h.2.1 129 i = h.2.1 154 i)) (a + 1) m) := rfl
    have e2 : alb (fun i => decide ((wD h 129 a (h.2.1 153 a)).2.1 129 i = (wD h 129 a (h.2.1 153 a)).2.1 154 i)) (a + 1) m = alb (fun i => decide (h.2.1 129 i = h.2.1 154 i)) (a + 1) m := alb_c m (a + 1) (fun i h1 h2 => by rw [wD_ne (show ¬ 154 = 129 by omega), wD_ns (by omega)])
    have k : cI (cD (wI (wD h 129 a (h.2.1 153 a)) 130 a (h.1 155 a)) 129 153 (a + 1) 144) 130 155 (a + 1) 144 = cI (cD h 129 153 a 144) 130 155 a 144 := by
      rw [cD_wI, cD_st (by omega) (by omega)]
      exact cI_st (h := cD h 129 153 a 144) (c := 130) (d := 155) (by omega) (by omega)
    have R := fun b => same_276_e (l4 := l4) (l5 := l5) m fu (a + 1) b (wI (wD h 129 a (h.2.1 153 a)) 130 a (h.1 155 a)) (by omega) (by omega)
      (fun i hi => by
        rw [wI_d]
        by_cases c : i = a
        · subst c
          rw [wD_eq]
          exact o3 i hi
        · rw [wD_ns c]
          exact o9 i hi) (fun i hi => by rw [wI_d, wD_ne (by omega)]; exact o3 i hi) (fun i hi => by rw [wI_d, wD_ne (by omega)]; exact o4 i hi)
    rw [wI_d, e2, k] at R
    unfold YM_sameNow_L276 YM_sameNow_B311 YM_sameNow_B312
    rw [lit 144, if_neg (show ¬ nI 144 ≤ nI a from nI_ge (by omega) (by omega)), inB_n (show a < 144 by omega) (by omega)]
    simp only [gd_t]
    rw [hb_s, hb_s, nI_clamp (by omega), nI_1, itp (bi_0 b), itp (eq_ok (o9 a (by omega)) (o4 a (by omega))), e1, wD_i]
    cases b
    · rw [if_pos rfl, Bool.false_and]
      have := R false
      rw [Bool.false_and] at this
      exact this
    · rw [if_neg (by decide), Bool.true_and]
      by_cases c : h.2.1 129 a = h.2.1 154 a
      · rw [if_pos c, decide_eq_true c, Bool.true_and]
        have := R true
        rw [Bool.true_and] at this
        exact this
      · rw [if_neg c, decide_eq_false c, Bool.false_and]
        have := R false
        rw [Bool.false_and] at this
        exact this
theorem same_351_e {l4 l5 : Int32} {b : Bool} : ∀ m fu a h, a + m = 10 → m < fu → YM_sameNow_L351 fu h l4 l5 (bi b) (nI a) = some (wI (wI (cI h 151 156 a 10) 126 34 l4) 126 37 l5, bi b)
  | _, 0, _, _, _, q => absurd q (Nat.not_lt_zero _)
  | 0, fu + 1, a, h, e, _ => by
    unfold YM_sameNow_L351
    rw [lit 10, if_pos (nI_le (by omega) (by omega)), cI_nil h (by omega), hb_s, hb_s, itp (bi_0 b)]
    cases b <;> rfl
  | m + 1, fu + 1, a, h, e, q => by
    unfold YM_sameNow_L351
    rw [lit 10, if_neg (show ¬ nI 10 ≤ nI a from nI_ge (by omega) (by omega)), inB_n (show a < 10 by omega) (by omega), gd_t, gd_t, hb_s, nI_clamp (by omega), nI_1, same_351_e m fu (a + 1) _ (by omega) (by omega), cI_st (by omega) (by omega)]
/-- the model's heap before its first run -/
def sa1 (v : sd_H) : sd_H := cI (cI (cI (cD v 153 129 0 144) 155 130 0 144) 156 151 0 10) 157 150 0 3
def sa2 (w : sd_H) : sd_H := cD (cD (cI w 158 150 0 3) 154 129 0 144) 129 153 0 144
def sa3 (w : sd_H) (l4 l5 : Int32) : sd_H := wI (wI (cI (cI (cD (cI w 150 157 0 3) 129 153 0 144) 130 155 0 144) 151 156 0 10) 126 34 l4) 126 37 l5
theorem sameNow_e {v w1 w2 : sd_H} {a0 a1 a2 r1 r2 : Int32} (R : YM_runNow (sa1 v) = some (w1, r1)) (M : YM_mixes (sa2 w1) a0 a1 a2 = some (w2, r2)) (o9 : ∀ i, i < 144 → okc (w2.2.1 129 i)) (o3 : ∀ i, i < 144 → okc (w2.2.1 153 i)) (o4 : ∀ i, i < 144 → okc (w2.2.1 154 i)) :
    YM_sameNow v a0 a1 a2 = some (sa3 w2 (v.1 126 34) (v.1 126 37), bi ((decide (r2 = r1) && alb (fun i => decide (w2.1 158 i = w2.1 150 i)) 0 3) && alb (fun i => decide (w2.2.1 129 i = w2.2.1 154 i)) 0 144)) := by
  have F : ∀ b, YM_sameNow_B213 w2 (v.1 126 34) (v.1 126 37) (bi b) = some (sa3 w2 (v.1 126 34) (v.1 126 37), bi ((b && alb (fun i => decide (w2.1 158 i = w2.1 150 i)) 0 3) && alb (fun i => decide (w2.2.1 129 i = w2.2.1 154 i)) 0 144)) := fun b => by
    unfold YM_sameNow_B213
    rw [← nI_0, same_218_e 3 FU 0 b w2 (by omega) (by rw [FU_s]; omega), ← nI_0, same_276_e 144 FU 0 _ (cI w2 150 157 0 3) (by omega) (by rw [FU_s]; omega) o9 o3 o4, ← nI_0, same_351_e 10 FU 0 _ (by omega) (by rw [FU_s]; omega)]
    rfl
  unfold YM_sameNow
  rw [← nI_0, same_15_e 144 FU 0 v (by omega) (by rw [FU_s]; omega), ← nI_0, same_60_e 10 FU 0 _ (by omega) (by rw [FU_s]; omega), ← nI_0, same_90_e 3 FU 0 _ (by omega) (by rw [FU_s]; omega)]
  show b2 (YM_runNow (sa1 v)) _ = _
  rw [R, b2_s, ← nI_0, same_125_e 3 FU 0 _ (by omega) (by rw [FU_s]; omega), ← nI_0, same_154_e 144 FU 0 _ (by omega) (by rw [FU_s]; omega)]
  show b2 (YM_mixes (sa2 w1) a0 a1 a2) _ = _
  rw [M, b2_s]
  by_cases c : r2 = r1
  · rw [if_pos c, decide_eq_true c]
    exact F true
  · rw [if_neg c, decide_eq_false c]
    exact F false
