/-! ===== guard, refer, place ===== -/
theorem wn_16 (a : Int32) : wn a 1 6 = 0 ∨ ∃ p, 1 ≤ p ∧ p ≤ 6 ∧ a = nI p ∧ wn a 1 6 = 1 := by
  rcases wn_ti (a := a) (lo := 1) (hi := 6) (l := 1) (u := 6) (by decide) (by decide) with e | ⟨e1, e2, e3⟩
  · exact Or.inl e
  · exact Or.inr ⟨a.toInt.toNat, by omega, by omega, of_ti (by omega) (by omega), e3⟩
theorem E_guard {h : sd_H} (i : Iv h h) (a b c : Int32) : EE (XT_guard h a b c) (fun g => YM_guard g a b c) := by
  unfold XT_guard YM_guard
  simp only [XT_within_e, YM_in_e, XT_isStatement_e, YM_isStatement_e, b1_s]
  obtain ⟨N, S, il, ih⟩ := i.2.2.2.2.1
  obtain ⟨a1, a2, a3, a4, a5, a6, a7⟩ := il
  rw [a5]
  rcases wn_cs a (show S < 2 ^ 30 by omega) with hz | ⟨k, hk, rfl, h1⟩
  · rw [hz]
    exact EE_i (if_pos rfl) (by rw [a6, hz]; exact if_pos rfl) i
  rw [h1]
  simp only [if_neg z10.mp]
  rcases wn_16 b with hz | ⟨p, hp1, hp6, rfl, h2⟩
  · rw [hz]
    exact EE_i (if_pos rfl) (by rw [a6, h1, if_neg z10.mp]; exact if_pos rfl) i
  rw [h2]
  simp only [if_neg z10.mp]
  rcases wn_cs c (show p < 2 ^ 30 by omega) with hz | ⟨q, hq, rfl, h3⟩
  · rw [hz]
    exact EE_i (if_pos rfl) (by rw [a6, h1, if_neg z10.mp]; exact if_pos rfl) i
  rw [h3]
  simp only [if_neg z10.mp, inB_n (show k < 5 by omega) (by omega), gd_t, nI_clamp (show k < 2 ^ 31 by omega)]
  obtain ⟨⟨s1, s2, s3, s4, s5, s6, s7, s8, s9, s10⟩, s11⟩ := a7 k hk
  obtain ⟨g1, n1, n2, n3⟩ := push_e ih 4 (nI k) (-1)
  obtain ⟨g2, k1, k2, k3⟩ := n3 (h.1 (8 + 5 * k) 3) (h.1 (8 + 5 * k) 4) 0
  obtain ⟨v2, l1, l2, l3⟩ := k3 (wI (wI (wI g2 (8 + 5 * k) 3 (nI p)) (8 + 5 * k) 4 (nI q)) 56 5 1) 4 (nI k) (h.1 134 k) (h.1 135 k) 0 (by simp (disch := omega) only [wI_d, wD_i, fI_d, fD_i, wI_eq, wD_eq, wI_ne, wD_ne, fI_ne, fD_ne, wI_ns, wD_ns, fI_eq, fD_eq, fI_ns, fD_ns, k2.1]) (by simp (disch := omega) only [wI_d, wD_i, fI_d, fD_i, wI_eq, wD_eq, wI_ne, wD_ne, fI_ne, fD_ne, wI_ns, wD_ns, fI_eq, fD_eq, fI_ns, fD_ns, k2.1])
  refine EE_i (h1 := wI (wI (wI g2 (8 + 5 * k) 3 (nI p)) (8 + 5 * k) 4 (nI q)) 56 5 1) (r := 1) (h2 := wI (wI v2 134 k (nI p)) 135 k (nI q)) ?_ ?_ (Iv_l i ⟨N, S, ?_, ?_⟩ ?_ ?_ ?_ ?_ ?_ ?_ ?_ ?_ ?_ ?_ ?_ ?_ ?_ ?_ ?_ ?_ ?_ ?_ ?_ ?_ ?_ ?_)
  · rw [n1, b1_s, n2.1 (8 + 5 * k) (by omega) (by omega), k1, b1_s]
    rfl
  · rw [show (wI (wI (wI g2 (8 + 5 * k) 3 (nI p)) (8 + 5 * k) 4 (nI q)) 56 5 1).1 126 7 = h.1 126 7 by simp (disch := omega) only [wI_d, wD_i, fI_d, fD_i, wI_eq, wD_eq, wI_ne, wD_ne, fI_ne, fD_ne, wI_ns, wD_ns, fI_eq, fD_eq, fI_ns, fD_ns, k2.1],
      show (wI (wI (wI g2 (8 + 5 * k) 3 (nI p)) (8 + 5 * k) 4 (nI q)) 56 5 1).1 134 k = h.1 134 k by simp (disch := omega) only [wI_d, wD_i, fI_d, fD_i, wI_eq, wD_eq, wI_ne, wD_ne, fI_ne, fD_ne, wI_ns, wD_ns, fI_eq, fD_eq, fI_ns, fD_ns, k2.1],
      show (wI (wI (wI g2 (8 + 5 * k) 3 (nI p)) (8 + 5 * k) 4 (nI q)) 56 5 1).1 135 k = h.1 135 k by simp (disch := omega) only [wI_d, wD_i, fI_d, fD_i, wI_eq, wD_eq, wI_ne, wD_ne, fI_ne, fD_ne, wI_ns, wD_ns, fI_eq, fD_eq, fI_ns, fD_ns, k2.1], a6, h1, if_neg z10.mp, l1, b1_s]
    rfl
  · refine ⟨a1, a2, ?_, ?_, ?_, ?_, fun t ht => ?_⟩
    · simp (disch := omega) only [wI_d, wD_i, fI_d, fD_i, wI_eq, wD_eq, wI_ne, wD_ne, fI_ne, fD_ne, wI_ns, wD_ns, fI_eq, fD_eq, fI_ns, fD_ns, l2.1, l2.2.1, k2.1]
      exact a3
    · simp (disch := omega) only [wI_d, wD_i, fI_d, fD_i, wI_eq, wD_eq, wI_ne, wD_ne, fI_ne, fD_ne, wI_ns, wD_ns, fI_eq, fD_eq, fI_ns, fD_ns, l2.1, l2.2.1, k2.1]
      exact a4
    · simp (disch := omega) only [wI_d, wD_i, fI_d, fD_i, wI_eq, wD_eq, wI_ne, wD_ne, fI_ne, fD_ne, wI_ns, wD_ns, fI_eq, fD_eq, fI_ns, fD_ns, l2.1, l2.2.1, k2.1]
      exact a5
    · simp (disch := omega) only [wI_d, wD_i, fI_d, fD_i, wI_eq, wD_eq, wI_ne, wD_ne, fI_ne, fD_ne, wI_ns, wD_ns, fI_eq, fD_eq, fI_ns, fD_ns, l2.1, l2.2.1, k2.1]
      exact a6
    · by_cases e : t = k
      · subst e
        refine ⟨⟨?_, ?_, ?_, ?_, ?_, ?_, ?_, ⟨p, hp1, hp6, ?_⟩, ⟨q, by omega, ?_⟩, ?_⟩, fun w hw => ?_⟩ <;> simp (disch := omega) only [wI_d, wD_i, fI_d, fD_i, wI_eq, wD_eq, wI_ne, wD_ne, fI_ne, fD_ne, wI_ns, wD_ns, fI_eq, fD_eq, fI_ns, fD_ns, l2.1, l2.2.1, k2.1] <;> first | assumption | exact s11 w hw
      · obtain ⟨t1, t2⟩ := a7 t ht
        refine ⟨?_, fun w hw => ?_⟩ <;> simp (disch := omega) only [wI_d, wD_i, fI_d, fD_i, wI_eq, wD_eq, wI_ne, wD_ne, fI_ne, fD_ne, wI_ns, wD_ns, fI_eq, fD_eq, fI_ns, fD_ns, l2.1, l2.2.1, k2.1] <;> first | exact t1 | exact t2 w hw
  · refine l3 _ _ S ?_ (fun c h1 h2 => ?_) ?_ ?_ (fun x x0 x1 x2 x3 x4 x5 => ⟨x0, Or.inr (Or.inr (Or.inr (Or.inr (Or.inl ⟨rfl, rfl, x3.trans s3, x4.trans s4, ⟨k, by omega, x1, rfl⟩, s8, s9⟩))))⟩)
    all_goals simp (disch := omega) only [wI_d, wD_i, fI_d, fD_i, wI_eq, wD_eq, wI_ne, wD_ne, fI_ne, fD_ne, wI_ns, wD_ns, fI_eq, fD_eq, fI_ns, fD_ns, l2.1, l2.2.1]
  all_goals simp (disch := omega) only [wI_d, wD_i, fI_d, fD_i, wI_eq, wD_eq, wI_ne, wD_ne, fI_ne, fD_ne, wI_ns, wD_ns, fI_eq, fD_eq, fI_ns, fD_ns, l2.1, l2.2.1, l2.2.2, k2.1, k2.2]
/-- the row that a reference may have -/
def rg (w : Nat) (c : Int32) : Prop := (c = -1 ∧ ¬ w = 0) ∨ ∃ r, r < 6 ∧ c = nI r
theorem wn_rg {w : Nat} {c : Int32} : wn c (if w = 0 then 0 else -1) 5 = 0 ∨ (rg w c ∧ wn c (if w = 0 then 0 else -1) 5 = 1) := by
  by_cases hw : w = 0
  · rw [if_pos hw]
    rcases wn_c c 5 (by omega) with e | ⟨r, hr, e1, e2⟩
    · exact Or.inl e
    · exact Or.inr ⟨Or.inr ⟨r, by omega, e1⟩, e2⟩
  · rw [if_neg hw]
    rcases wn_row (a := c) with e | ⟨e1 | e1, e2⟩
    · exact Or.inl e
    · exact Or.inr ⟨Or.inl ⟨e1, hw⟩, e2⟩
    · exact Or.inr ⟨Or.inr e1, e2⟩
theorem E_refer {h : sd_H} (i : Iv h h) (a b c : Int32) : EE (XT_refer h a b c) (fun g => YM_refer g a b c) := by
  unfold XT_refer YM_refer
  simp only [YM_in_e, XT_isReference_e, YM_isStatement_e, b1_s]
  obtain ⟨N, S, il, ih⟩ := i.2.2.2.2.1
  obtain ⟨a1, a2, a3, a4, a5, a6, a7⟩ := il
  rw [a5]
  rcases wn_cs a (show S < 2 ^ 30 by omega) with hz | ⟨k, hk, rfl, h1⟩
  · rw [hz, if_pos rfl]
    exact EE_i (if_pos rfl) (by rw [a6, hz]; exact if_pos rfl) i
  rw [h1, if_neg z10.mp]
  rcases wn_c b 2 (by omega) with hz | ⟨w, hw, rfl, h2⟩
  · rw [show (2 : Int32) = nI 2 from rfl, hz]
    exact EE_i (if_pos rfl) (by rw [a6, h1, if_neg z10.mp]; exact if_pos rfl) i
  rw [show (2 : Int32) = nI 2 from rfl, h2]
  simp only [if_neg z10.mp]
  have ex : ∀ g, (if nI w = 0 then XT_refer_B19 g (nI k) (nI w) c 0 c else XT_refer_B19 g (nI k) (nI w) c (-1) c) = XT_refer_B19 g (nI k) (nI w) c (if w = 0 then 0 else -1) c := fun g => by
    by_cases q : w = 0
    · subst q
      rw [if_pos nI_0, if_pos rfl]
    · rw [if_neg (by rw [n0eq (by omega)]; exact q), if_neg q]
  have ey : ∀ g, (if nI w = 0 then YM_refer_B27 g (nI k) (nI w) c 0 c else YM_refer_B27 g (nI k) (nI w) c (-1) c) = YM_refer_B27 g (nI k) (nI w) c (if w = 0 then 0 else -1) c := fun g => by
    by_cases q : w = 0
    · subst q
      rw [if_pos nI_0, if_pos rfl]
    · rw [if_neg (by rw [n0eq (by omega)]; exact q), if_neg q]
  rw [ex]
  simp only [ey]
  unfold XT_refer_B19 YM_refer_B27
  simp only [XT_within_e, YM_in_e, b1_s]
  rcases wn_rg (w := w) (c := c) with hz | ⟨hc, h3⟩
  · rw [hz]
    exact EE_i (if_pos rfl) (by rw [a6, h1, if_neg z10.mp]; exact if_pos rfl) i
  rw [h3]
  simp (disch := omega) only [if_neg z10.mp, inB_n, gd_t, nI_clamp, lit 3, pk_mul, nI_add, show 8 + 5 * k + 1 + 1 + w = 10 + 5 * k + w by omega]
  obtain ⟨⟨s1, s2, s3, s4, s5, s6, s7, s8, s9, s10⟩, s11⟩ := a7 k hk
  obtain ⟨r1, r2, r3, r4, r5, r6, r7, r8⟩ := s11 w (by omega)
  obtain ⟨g1, n1, n2, n3⟩ := push_e ih 2 (nI k) (nI w)
  obtain ⟨g2, k1, k2, k3⟩ := n3 (h.1 (10 + 5 * k + w) 0) 0 0
  obtain ⟨v2, l1, l2, l3⟩ := k3 (wI (wI g2 (10 + 5 * k + w) 0 c) 56 5 1) 2 (nI (3 * k + w)) (h.1 137 (3 * k + w)) 0 0 (by simp (disch := omega) only [wI_d, wD_i, fI_d, fD_i, wI_eq, wD_eq, wI_ne, wD_ne, fI_ne, fD_ne, wI_ns, wD_ns, fI_eq, fD_eq, fI_ns, fD_ns, k2.1]) (by simp (disch := omega) only [wI_d, wD_i, fI_d, fD_i, wI_eq, wD_eq, wI_ne, wD_ne, fI_ne, fD_ne, wI_ns, wD_ns, fI_eq, fD_eq, fI_ns, fD_ns, k2.1])
  refine EE_i (h1 := wI (wI g2 (10 + 5 * k + w) 0 c) 56 5 1) (r := h.1 137 (3 * k + w)) (h2 := wI v2 137 (3 * k + w) c) ?_ ?_ (Iv_l i ⟨N, S, ?_, ?_⟩ ?_ ?_ ?_ ?_ ?_ ?_ ?_ ?_ ?_ ?_ ?_ ?_ ?_ ?_ ?_ ?_ ?_ ?_ ?_ ?_ ?_ ?_)
  · rw [n1, b1_s, k1, b1_s, r1]
    rfl
  · rw [show (wI (wI g2 (10 + 5 * k + w) 0 c) 56 5 1).1 126 7 = h.1 126 7 by simp (disch := omega) only [wI_d, wD_i, fI_d, fD_i, wI_eq, wD_eq, wI_ne, wD_ne, fI_ne, fD_ne, wI_ns, wD_ns, fI_eq, fD_eq, fI_ns, fD_ns, k2.1],
      show (wI (wI g2 (10 + 5 * k + w) 0 c) 56 5 1).1 137 (3 * k + w) = h.1 137 (3 * k + w) by simp (disch := omega) only [wI_d, wD_i, fI_d, fD_i, wI_eq, wD_eq, wI_ne, wD_ne, fI_ne, fD_ne, wI_ns, wD_ns, fI_eq, fD_eq, fI_ns, fD_ns, k2.1], a6, h1, if_neg z10.mp]
    rw [l1, b1_s]
    rfl
  · refine ⟨a1, a2, ?_, ?_, ?_, ?_, fun t ht => ?_⟩
    · simp (disch := omega) only [wI_d, wD_i, fI_d, fD_i, wI_eq, wD_eq, wI_ne, wD_ne, fI_ne, fD_ne, wI_ns, wD_ns, fI_eq, fD_eq, fI_ns, fD_ns, l2.1, l2.2.1, k2.1]
      exact a3
    · simp (disch := omega) only [wI_d, wD_i, fI_d, fD_i, wI_eq, wD_eq, wI_ne, wD_ne, fI_ne, fD_ne, wI_ns, wD_ns, fI_eq, fD_eq, fI_ns, fD_ns, l2.1, l2.2.1, k2.1]
      exact a4
    · simp (disch := omega) only [wI_d, wD_i, fI_d, fD_i, wI_eq, wD_eq, wI_ne, wD_ne, fI_ne, fD_ne, wI_ns, wD_ns, fI_eq, fD_eq, fI_ns, fD_ns, l2.1, l2.2.1, k2.1]
      exact a5
    · simp (disch := omega) only [wI_d, wD_i, fI_d, fD_i, wI_eq, wD_eq, wI_ne, wD_ne, fI_ne, fD_ne, wI_ns, wD_ns, fI_eq, fD_eq, fI_ns, fD_ns, l2.1, l2.2.1, k2.1]
      exact a6
    · obtain ⟨t1, t2⟩ := a7 t ht
      refine ⟨?_, fun u hu => ?_⟩
      · simp (disch := omega) only [wI_d, wD_i, fI_d, fD_i, wI_eq, wD_eq, wI_ne, wD_ne, fI_ne, fD_ne, wI_ns, wD_ns, fI_eq, fD_eq, fI_ns, fD_ns, l2.1, l2.2.1, k2.1]
        exact t1
      · by_cases e : t = k ∧ u = w
        · obtain ⟨rfl, rfl⟩ := e
          refine ⟨?_, ?_, ?_, ?_, ?_, ?_, ?_, ?_⟩ <;> simp (disch := omega) only [wI_d, wD_i, fI_d, fD_i, wI_eq, wD_eq, wI_ne, wD_ne, fI_ne, fD_ne, wI_ns, wD_ns, fI_eq, fD_eq, fI_ns, fD_ns, l2.1, l2.2.1, k2.1] <;> first | exact hc | assumption
        · have := t2 u hu
          have d1 : ¬ 10 + 5 * t + u = 10 + 5 * k + w := by omega
          have d2 : ¬ 3 * t + u = 3 * k + w := by omega
          simp (disch := omega) only [wI_d, wD_i, fI_d, fD_i, wI_eq, wD_eq, wI_ne, wD_ne, fI_ne, fD_ne, wI_ns, wD_ns, fI_eq, fD_eq, fI_ns, fD_ns, l2.1, l2.2.1, k2.1]
          exact this
  · refine l3 _ _ S ?_ (fun c h1 h2 => ?_) ?_ ?_ (fun x x0 x1 x2 x3 x4 x5 => ⟨x0, Or.inr (Or.inr (Or.inl ⟨rfl, rfl, x3.trans r1, k, w, by omega, by omega, x1, x2, rfl, r5⟩))⟩)
    all_goals simp (disch := omega) only [wI_d, wD_i, fI_d, fD_i, wI_eq, wD_eq, wI_ne, wD_ne, fI_ne, fD_ne, wI_ns, wD_ns, fI_eq, fD_eq, fI_ns, fD_ns, l2.1, l2.2.1]
  all_goals simp (disch := omega) only [wI_d, wD_i, fI_d, fD_i, wI_eq, wD_eq, wI_ne, wD_ne, fI_ne, fD_ne, wI_ns, wD_ns, fI_eq, fD_eq, fI_ns, fD_ns, l2.1, l2.2.1, l2.2.2, k2.1, k2.2]
theorem E_place {h : sd_H} (i : Iv h h) (a b c d e : Int32) : EE (XT_place h a b c d e) (fun g => YM_place g a b c d e) := by
  unfold XT_place YM_place
  simp only [XT_within_e, YM_in_e, XT_isReference_e, YM_isStatement_e, b1_s]
  obtain ⟨N, S, il, ih⟩ := i.2.2.2.2.1
  obtain ⟨a1, a2, a3, a4, a5, a6, a7⟩ := il
  rw [a5]
  rcases wn_cs a (show S < 2 ^ 30 by omega) with hz | ⟨k, hk, rfl, h1⟩
  · rw [hz, if_pos rfl]
    exact EE_i (if_pos rfl) (by rw [a6, hz]; exact if_pos rfl) i
  rw [h1, if_neg z10.mp]
  rcases wn_c b 2 (by omega) with hz | ⟨w, hw, rfl, h2⟩
  · rw [show (2 : Int32) = nI 2 from rfl, hz]
    exact EE_i (if_pos rfl) (by rw [a6, h1, if_neg z10.mp]; exact if_pos rfl) i
  rw [show (2 : Int32) = nI 2 from rfl, h2]
  simp only [if_neg z10.mp]
  rcases wn_ti (a := c) (lo := -60) (hi := 60) (l := -60) (u := 60) (by decide) (by decide) with hz | ⟨c1, c2, h3⟩
  · rw [hz]
    exact EE_i (if_pos rfl) (by rw [a6, h1, if_neg z10.mp]; exact if_pos rfl) i
  rw [h3]
  simp only [if_neg z10.mp]
  rcases wn_ti (a := d) (lo := -6) (hi := 6) (l := -6) (u := 6) (by decide) (by decide) with hz | ⟨d1, d2, h4⟩
  · rw [hz]
    exact EE_i (if_pos rfl) (by rw [a6, h1, if_neg z10.mp]; exact if_pos rfl) i
  rw [h4]
  simp only [if_neg z10.mp]
  rcases wn_ti (a := e) (lo := -6) (hi := 6) (l := -6) (u := 6) (by decide) (by decide) with hz | ⟨e1, e2, h5⟩
  · rw [hz]
    exact EE_i (if_pos rfl) (by rw [a6, h1, if_neg z10.mp]; exact if_pos rfl) i
  rw [h5]
  unfold XF_lie
  simp (disch := omega) only [if_neg z10.mp, inB_n, gd_t, nI_clamp, lit 3, pk_mul, nI_add, show 8 + 5 * k + 1 + 1 + w = 10 + 5 * k + w by omega]
  obtain ⟨⟨s1, s2, s3, s4, s5, s6, s7, s8, s9, s10⟩, s11⟩ := a7 k hk
  obtain ⟨r1, r2, r3, r4, r5, r6, r7, r8⟩ := s11 w (by omega)
  obtain ⟨g1, n1, n2, n3⟩ := push_e ih (nI 3) (nI k) (nI w)
  obtain ⟨g2, k1, k2, k3⟩ := n3 (h.1 (10 + 5 * k + w) 1) (h.1 (10 + 5 * k + w) 2) (h.1 (10 + 5 * k + w) 3)
  obtain ⟨v2, l1, l2, l3⟩ := k3 (wI (wI (wI (wI g2 (10 + 5 * k + w) 1 c) (10 + 5 * k + w) 2 d) (10 + 5 * k + w) 3 e) 56 5 1) (nI 3) (nI (3 * k + w)) (h.1 138 (3 * k + w)) (h.1 139 (3 * k + w)) (h.1 140 (3 * k + w)) (by simp (disch := omega) only [wI_d, wD_i, fI_d, fD_i, wI_eq, wD_eq, wI_ne, wD_ne, fI_ne, fD_ne, wI_ns, wD_ns, fI_eq, fD_eq, fI_ns, fD_ns, k2.1]) (by simp (disch := omega) only [wI_d, wD_i, fI_d, fD_i, wI_eq, wD_eq, wI_ne, wD_ne, fI_ne, fD_ne, wI_ns, wD_ns, fI_eq, fD_eq, fI_ns, fD_ns, k2.1])
  refine EE_i (h1 := wI (wI (wI (wI g2 (10 + 5 * k + w) 1 c) (10 + 5 * k + w) 2 d) (10 + 5 * k + w) 3 e) 56 5 1) (r := 1) (h2 := wI (wI (wI v2 138 (3 * k + w) c) 139 (3 * k + w) d) 140 (3 * k + w) e) ?_ ?_ (Iv_l i ⟨N, S, ?_, ?_⟩ ?_ ?_ ?_ ?_ ?_ ?_ ?_ ?_ ?_ ?_ ?_ ?_ ?_ ?_ ?_ ?_ ?_ ?_ ?_ ?_ ?_ ?_)
  · rw [n1, b1_s, n2.1 (10 + 5 * k + w) (by omega) (by omega), k1, b1_s]
    rfl
  · rw [show (wI (wI (wI (wI g2 (10 + 5 * k + w) 1 c) (10 + 5 * k + w) 2 d) (10 + 5 * k + w) 3 e) 56 5 1).1 126 7 = h.1 126 7 by simp (disch := omega) only [wI_d, wD_i, fI_d, fD_i, wI_eq, wD_eq, wI_ne, wD_ne, fI_ne, fD_ne, wI_ns, wD_ns, fI_eq, fD_eq, fI_ns, fD_ns, k2.1],
      show (wI (wI (wI (wI g2 (10 + 5 * k + w) 1 c) (10 + 5 * k + w) 2 d) (10 + 5 * k + w) 3 e) 56 5 1).1 138 (3 * k + w) = h.1 138 (3 * k + w) by simp (disch := omega) only [wI_d, wD_i, fI_d, fD_i, wI_eq, wD_eq, wI_ne, wD_ne, fI_ne, fD_ne, wI_ns, wD_ns, fI_eq, fD_eq, fI_ns, fD_ns, k2.1],
      show (wI (wI (wI (wI g2 (10 + 5 * k + w) 1 c) (10 + 5 * k + w) 2 d) (10 + 5 * k + w) 3 e) 56 5 1).1 139 (3 * k + w) = h.1 139 (3 * k + w) by simp (disch := omega) only [wI_d, wD_i, fI_d, fD_i, wI_eq, wD_eq, wI_ne, wD_ne, fI_ne, fD_ne, wI_ns, wD_ns, fI_eq, fD_eq, fI_ns, fD_ns, k2.1],
      show (wI (wI (wI (wI g2 (10 + 5 * k + w) 1 c) (10 + 5 * k + w) 2 d) (10 + 5 * k + w) 3 e) 56 5 1).1 140 (3 * k + w) = h.1 140 (3 * k + w) by simp (disch := omega) only [wI_d, wD_i, fI_d, fD_i, wI_eq, wD_eq, wI_ne, wD_ne, fI_ne, fD_ne, wI_ns, wD_ns, fI_eq, fD_eq, fI_ns, fD_ns, k2.1], a6, h1, if_neg z10.mp, l1, b1_s]
    rfl
  · refine ⟨a1, a2, ?_, ?_, ?_, ?_, fun t ht => ?_⟩
    · simp (disch := omega) only [wI_d, wD_i, fI_d, fD_i, wI_eq, wD_eq, wI_ne, wD_ne, fI_ne, fD_ne, wI_ns, wD_ns, fI_eq, fD_eq, fI_ns, fD_ns, l2.1, l2.2.1, k2.1]
      exact a3
    · simp (disch := omega) only [wI_d, wD_i, fI_d, fD_i, wI_eq, wD_eq, wI_ne, wD_ne, fI_ne, fD_ne, wI_ns, wD_ns, fI_eq, fD_eq, fI_ns, fD_ns, l2.1, l2.2.1, k2.1]
      exact a4
    · simp (disch := omega) only [wI_d, wD_i, fI_d, fD_i, wI_eq, wD_eq, wI_ne, wD_ne, fI_ne, fD_ne, wI_ns, wD_ns, fI_eq, fD_eq, fI_ns, fD_ns, l2.1, l2.2.1, k2.1]
      exact a5
    · simp (disch := omega) only [wI_d, wD_i, fI_d, fD_i, wI_eq, wD_eq, wI_ne, wD_ne, fI_ne, fD_ne, wI_ns, wD_ns, fI_eq, fD_eq, fI_ns, fD_ns, l2.1, l2.2.1, k2.1]
      exact a6
    · obtain ⟨t1, t2⟩ := a7 t ht
      refine ⟨?_, fun u hu => ?_⟩
      · simp (disch := omega) only [wI_d, wD_i, fI_d, fD_i, wI_eq, wD_eq, wI_ne, wD_ne, fI_ne, fD_ne, wI_ns, wD_ns, fI_eq, fD_eq, fI_ns, fD_ns, l2.1, l2.2.1, k2.1]
        exact t1
      · by_cases e : t = k ∧ u = w
        · obtain ⟨rfl, rfl⟩ := e
          refine ⟨?_, ?_, ?_, ?_, ?_, ⟨?_, ?_⟩, ⟨?_, ?_⟩, ⟨?_, ?_⟩⟩ <;> simp (disch := omega) only [wI_d, wD_i, fI_d, fD_i, wI_eq, wD_eq, wI_ne, wD_ne, fI_ne, fD_ne, wI_ns, wD_ns, fI_eq, fD_eq, fI_ns, fD_ns, l2.1, l2.2.1, k2.1] <;> assumption
        · have := t2 u hu
          have d1 : ¬ 10 + 5 * t + u = 10 + 5 * k + w := by omega
          have d2 : ¬ 3 * t + u = 3 * k + w := by omega
          simp (disch := omega) only [wI_d, wD_i, fI_d, fD_i, wI_eq, wD_eq, wI_ne, wD_ne, fI_ne, fD_ne, wI_ns, wD_ns, fI_eq, fD_eq, fI_ns, fD_ns, l2.1, l2.2.1, k2.1]
          exact this
  · refine l3 _ _ S ?_ (fun c h1 h2 => ?_) ?_ ?_ (fun x x0 x1 x2 x3 x4 x5 => ⟨x0, Or.inr (Or.inr (Or.inr (Or.inl ⟨rfl, rfl, x3.trans r2, x4.trans r3, x5.trans r4, ⟨k, w, by omega, by omega, x1, x2, rfl⟩, r6, r7, r8⟩)))⟩)
    all_goals simp (disch := omega) only [wI_d, wD_i, fI_d, fD_i, wI_eq, wD_eq, wI_ne, wD_ne, fI_ne, fD_ne, wI_ns, wD_ns, fI_eq, fD_eq, fI_ns, fD_ns, l2.1, l2.2.1]
  all_goals simp (disch := omega) only [wI_d, wD_i, fI_d, fD_i, wI_eq, wD_eq, wI_ne, wD_ne, fI_ne, fD_ne, wI_ns, wD_ns, fI_eq, fD_eq, fI_ns, fD_ns, l2.1, l2.2.1, l2.2.2, k2.1, k2.2]
