/-! ===== the calls on the loop ===== -/
theorem E_turns {h : sd_H} (i : Iv h h) (a : Int32) : EE (XT_turns h a) (fun g => YM_turns g a) := by
  unfold XT_turns YM_turns
  simp only [XT_within_e, YM_in_e, b1_s]
  rcases wn_c a 10 (by omega) with hz | ⟨M, hM, rfl, h1⟩
  · rw [show (10 : Int32) = nI 10 from rfl, hz]
    exact EE_i (if_pos rfl) (if_pos rfl) i
  rw [show (10 : Int32) = nI 10 from rfl, h1]
  simp only [if_neg z10.mp]
  obtain ⟨N, S, il, ih⟩ := i.2.2.2.2.1
  obtain ⟨g1, n1, n2, n3⟩ := push_e ih 0 (-1) (-1)
  obtain ⟨g2, k1, k2, k3⟩ := n3 (h.1 6 1) 0 0
  obtain ⟨v2, l1, l2, l3⟩ := k3 (wI (wI g2 6 1 (nI M)) 56 5 1) 0 0 (h.1 126 6) 0 0 (by simp (disch := omega) only [wI_d, wD_i, fI_d, fD_i, wI_eq, wD_eq, wI_ne, wD_ne, fI_ne, fD_ne, wI_ns, wD_ns, fI_eq, fD_eq, fI_ns, fD_ns, k2.1]) (by simp (disch := omega) only [wI_d, wD_i, fI_d, fD_i, wI_eq, wD_eq, wI_ne, wD_ne, fI_ne, fD_ne, wI_ns, wD_ns, fI_eq, fD_eq, fI_ns, fD_ns, k2.1])
  refine EE_i (h1 := wI (wI g2 6 1 (nI M)) 56 5 1) (r := nI N) (h2 := wI v2 126 6 (nI M)) ?_ ?_ (Iv_l i ⟨M, S, ?_, ?_⟩ ?_ ?_ ?_ ?_ ?_ ?_ ?_ ?_ ?_ ?_ ?_ ?_ ?_ ?_ ?_ ?_ ?_ ?_ ?_ ?_ ?_ ?_)
  · rw [n1, b1_s, k1, b1_s, hb_s, hb_s, il.2.2.1]
  · rw [show (wI (wI g2 6 1 (nI M)) 56 5 1).1 126 6 = h.1 126 6 by simp (disch := omega) only [wI_d, wD_i, fI_d, fD_i, wI_eq, wD_eq, wI_ne, wD_ne, fI_ne, fD_ne, wI_ns, wD_ns, fI_eq, fD_eq, fI_ns, fD_ns, k2.1], l1, b1_s, hb_s, il.2.2.2.1]
  · obtain ⟨a1, a2, a3, a4, a5, a6, a7⟩ := il
    refine ⟨hM, a2, ?_, ?_, ?_, ?_, fun k hk => ILk_c (by omega) (fun c h1 h2 => ?_) ?_ ?_ ?_ ?_ ?_ ?_ ?_ ?_ ?_ (a7 k hk)⟩
    · simp (disch := omega) only [wI_d, wD_i, fI_d, fD_i, wI_eq, wD_eq, wI_ne, wD_ne, fI_ne, fD_ne, wI_ns, wD_ns, fI_eq, fD_eq, fI_ns, fD_ns, l2.1, k2.1]
    · simp (disch := omega) only [wI_d, wD_i, fI_d, fD_i, wI_eq, wD_eq, wI_ne, wD_ne, fI_ne, fD_ne, wI_ns, wD_ns, fI_eq, fD_eq, fI_ns, fD_ns, l2.1, l2.2.1, k2.1]
    · simp (disch := omega) only [wI_d, wD_i, fI_d, fD_i, wI_eq, wD_eq, wI_ne, wD_ne, fI_ne, fD_ne, wI_ns, wD_ns, fI_eq, fD_eq, fI_ns, fD_ns, l2.1, l2.2.1, k2.1]
      exact a5
    · simp (disch := omega) only [wI_d, wD_i, fI_d, fD_i, wI_eq, wD_eq, wI_ne, wD_ne, fI_ne, fD_ne, wI_ns, wD_ns, fI_eq, fD_eq, fI_ns, fD_ns, l2.1, l2.2.1, k2.1]
      exact a6
    all_goals simp (disch := omega) only [wI_d, wD_i, fI_d, fD_i, wI_eq, wD_eq, wI_ne, wD_ne, fI_ne, fD_ne, wI_ns, wD_ns, fI_eq, fD_eq, fI_ns, fD_ns, l2.1, l2.2.1, k2.1]
  · refine l3 _ _ S ?_ (fun c h1 h2 => ?_) ?_ ?_ (fun x x0 x1 x2 x3 x4 x5 => ⟨x0, Or.inl ⟨rfl, x3.trans (il.2.2.1.trans il.2.2.2.1.symm), ⟨N, il.1, il.2.2.2.1⟩, rfl⟩⟩)
    all_goals simp (disch := omega) only [wI_d, wD_i, fI_d, fD_i, wI_eq, wD_eq, wI_ne, wD_ne, fI_ne, fD_ne, wI_ns, wD_ns, fI_eq, fD_eq, fI_ns, fD_ns, l2.1, l2.2.1]
  all_goals simp (disch := omega) only [wI_d, wD_i, fI_d, fD_i, wI_eq, wD_eq, wI_ne, wD_ne, fI_ne, fD_ne, wI_ns, wD_ns, fI_eq, fD_eq, fI_ns, fD_ns, l2.1, l2.2.1, l2.2.2, k2.1, k2.2]
theorem wn_cs (a : Int32) {n : Nat} (hn : n < 2 ^ 30) : wn a 0 (nI n - 1) = 0 ∨ ∃ k, k < n ∧ a = nI k ∧ wn a 0 (nI n - 1) = 1 := by
  rcases pk_ix a (show n < 2 ^ 31 by omega) with o | o | ⟨j, hj, rfl⟩
  · exact Or.inl (wn_out hn (Or.inl o))
  · exact Or.inl (wn_out hn (Or.inr o))
  · exact Or.inr ⟨j, hj, rfl, wn_inn hj hn⟩
theorem XT_isStatement_e (h : sd_H) (a : Int32) : XT_isStatement h a = some (wn a 0 (h.1 6 2 - 1)) := by
  unfold XT_isStatement
  rw [XT_within_e, b1_s, gd_h (wn_B _ _ _)]
theorem YM_isStatement_e (h : sd_H) (a : Int32) : YM_isStatement h a = some (wn a 0 (h.1 126 7 - 1)) := by
  unfold YM_isStatement
  rw [YM_in_e, b1_s, gd_h (wn_B _ _ _)]
theorem XT_isReference_e (h : sd_H) (a b : Int32) : XT_isReference h a b = some (if wn a 0 (h.1 6 2 - 1) = 0 then 0 else wn b 0 2) := by
  unfold XT_isReference
  rw [XT_isStatement_e, b1_s, XT_within_e]
  split
  · rfl
  · rw [b1_s]
    rcases wn_01 b 0 2 with e | e <;> rw [e] <;> rfl
/-- between two ends, the lower one perhaps below 0 -/
theorem wn_ti {a lo hi : Int32} {l u : Int} (hl : lo.toInt = l) (hu : hi.toInt = u) : wn a lo hi = 0 ∨ (l ≤ a.toInt ∧ a.toInt ≤ u ∧ wn a lo hi = 1) := by
  unfold wn
  by_cases h1 : a < lo
  · exact Or.inl (if_pos h1)
  · by_cases h2 : hi < a
    · exact Or.inl (by rw [if_neg h1, if_pos h2])
    · refine Or.inr ⟨?_, ?_, by rw [if_neg h1, if_neg h2]⟩
      · rw [Int32.lt_iff_toInt_lt] at h1
        omega
      · rw [Int32.lt_iff_toInt_lt] at h2
        omega
theorem of_ti {a : Int32} {k : Nat} (hk : k < 2 ^ 31) (h : a.toInt = (k : Int)) : a = nI k := Int32.toInt_inj.mp (h.trans (nI_toInt hk).symm)
/-- the row of a mask, of a reference -/
theorem wn_row {a : Int32} : wn a (-1) 5 = 0 ∨ ((a = -1 ∨ ∃ r, r < 6 ∧ a = nI r) ∧ wn a (-1) 5 = 1) := by
  rcases wn_ti (a := a) (lo := -1) (hi := 5) (l := -1) (u := 5) (by decide) (by decide) with e | ⟨e1, e2, e3⟩
  · exact Or.inl e
  · refine Or.inr ⟨?_, e3⟩
    by_cases hm : a.toInt = -1
    · exact Or.inl (Int32.toInt_inj.mp (hm.trans m1_ti.symm))
    · exact Or.inr ⟨a.toInt.toNat, by omega, of_ti (by omega) (by omega)⟩
theorem E_mask {h : sd_H} (i : Iv h h) (a b : Int32) : EE (XT_mask h a b) (fun g => YM_mask g a b) := by
  unfold XT_mask YM_mask
  simp only [XT_within_e, YM_in_e, XT_isStatement_e, YM_isStatement_e, b1_s]
  obtain ⟨N, S, il, ih⟩ := i.2.2.2.2.1
  have il' := il
  obtain ⟨a1, a2, a3, a4, a5, a6, a7⟩ := il
  rw [a5]
  rcases wn_cs a (show S < 2 ^ 30 by omega) with hz | ⟨k, hk, rfl, h1⟩
  · rw [hz]
    exact EE_i (if_pos rfl) (by rw [a6, hz]; exact if_pos rfl) i
  rw [h1]
  simp only [if_neg z10.mp]
  rcases wn_row (a := b) with hz | ⟨hb, h2⟩
  · rw [hz]
    exact EE_i (if_pos rfl) (by rw [a6, h1, if_neg z10.mp]; exact if_pos rfl) i
  rw [h2]
  simp only [if_neg z10.mp, inB_n (show k < 5 by omega) (by omega), gd_t, nI_clamp (show k < 2 ^ 31 by omega)]
  obtain ⟨⟨s1, s2, s3, s4, s5, s6, s7, s8, s9, s10⟩, s11⟩ := a7 k hk
  obtain ⟨g1, n1, n2, n3⟩ := push_e ih 5 (nI k) (-1)
  obtain ⟨g2, k1, k2, k3⟩ := n3 (h.1 (8 + 5 * k) 5) 0 0
  obtain ⟨v2, l1, l2, l3⟩ := k3 (wI (wI g2 (8 + 5 * k) 5 b) 56 5 1) 5 (nI k) (h.1 136 k) 0 0 (by simp (disch := omega) only [wI_d, wD_i, fI_d, fD_i, wI_eq, wD_eq, wI_ne, wD_ne, fI_ne, fD_ne, wI_ns, wD_ns, fI_eq, fD_eq, fI_ns, fD_ns, k2.1]) (by simp (disch := omega) only [wI_d, wD_i, fI_d, fD_i, wI_eq, wD_eq, wI_ne, wD_ne, fI_ne, fD_ne, wI_ns, wD_ns, fI_eq, fD_eq, fI_ns, fD_ns, k2.1])
  refine EE_i (h1 := wI (wI g2 (8 + 5 * k) 5 b) 56 5 1) (r := h.1 136 k) (h2 := wI v2 136 k b) ?_ ?_ (Iv_l i ⟨N, S, ?_, ?_⟩ ?_ ?_ ?_ ?_ ?_ ?_ ?_ ?_ ?_ ?_ ?_ ?_ ?_ ?_ ?_ ?_ ?_ ?_ ?_ ?_ ?_ ?_)
  · rw [n1, b1_s, k1, b1_s, hb_s, hb_s, s5]
  · rw [show (wI (wI g2 (8 + 5 * k) 5 b) 56 5 1).1 126 7 = h.1 126 7 by simp (disch := omega) only [wI_d, wD_i, fI_d, fD_i, wI_eq, wD_eq, wI_ne, wD_ne, fI_ne, fD_ne, wI_ns, wD_ns, fI_eq, fD_eq, fI_ns, fD_ns, k2.1], show (wI (wI g2 (8 + 5 * k) 5 b) 56 5 1).1 136 k = h.1 136 k by simp (disch := omega) only [wI_d, wD_i, fI_d, fD_i, wI_eq, wD_eq, wI_ne, wD_ne, fI_ne, fD_ne, wI_ns, wD_ns, fI_eq, fD_eq, fI_ns, fD_ns, k2.1], a6, h1, if_neg z10.mp, l1, b1_s, hb_s]
  · refine ⟨a1, a2, ?_, ?_, ?_, ?_, fun q hq => ?_⟩
    · simp (disch := omega) only [wI_d, wD_i, fI_d, fD_i, wI_eq, wD_eq, wI_ne, wD_ne, fI_ne, fD_ne, wI_ns, wD_ns, fI_eq, fD_eq, fI_ns, fD_ns, l2.1, l2.2.1, k2.1]
      exact a3
    · simp (disch := omega) only [wI_d, wD_i, fI_d, fD_i, wI_eq, wD_eq, wI_ne, wD_ne, fI_ne, fD_ne, wI_ns, wD_ns, fI_eq, fD_eq, fI_ns, fD_ns, l2.1, l2.2.1, k2.1]
      exact a4
    · simp (disch := omega) only [wI_d, wD_i, fI_d, fD_i, wI_eq, wD_eq, wI_ne, wD_ne, fI_ne, fD_ne, wI_ns, wD_ns, fI_eq, fD_eq, fI_ns, fD_ns, l2.1, l2.2.1, k2.1]
      exact a5
    · simp (disch := omega) only [wI_d, wD_i, fI_d, fD_i, wI_eq, wD_eq, wI_ne, wD_ne, fI_ne, fD_ne, wI_ns, wD_ns, fI_eq, fD_eq, fI_ns, fD_ns, l2.1, l2.2.1, k2.1]
      exact a6
    · by_cases e : q = k
      · subst e
        refine ⟨⟨?_, ?_, ?_, ?_, ?_, ?_, ?_, ?_, ?_, ?_⟩, fun w hw => ?_⟩ <;> simp (disch := omega) only [wI_d, wD_i, fI_d, fD_i, wI_eq, wD_eq, wI_ne, wD_ne, fI_ne, fD_ne, wI_ns, wD_ns, fI_eq, fD_eq, fI_ns, fD_ns, l2.1, l2.2.1, k2.1] <;> first | assumption | exact s11 w hw
      · obtain ⟨t1, t2⟩ := a7 q hq
        refine ⟨?_, fun w hw => ?_⟩ <;> simp (disch := omega) only [wI_d, wD_i, fI_d, fD_i, wI_eq, wD_eq, wI_ne, wD_ne, fI_ne, fD_ne, wI_ns, wD_ns, fI_eq, fD_eq, fI_ns, fD_ns, l2.1, l2.2.1, k2.1] <;> first | exact t1 | exact t2 w hw
  · refine l3 _ _ S ?_ (fun c h1 h2 => ?_) ?_ ?_ (fun x x0 x1 x2 x3 x4 x5 => ⟨x0, Or.inr (Or.inr (Or.inr (Or.inr (Or.inr ⟨rfl, rfl, x3.trans s5, ⟨k, by omega, x1, rfl⟩, s10⟩))))⟩)
    all_goals simp (disch := omega) only [wI_d, wD_i, fI_d, fD_i, wI_eq, wD_eq, wI_ne, wD_ne, fI_ne, fD_ne, wI_ns, wD_ns, fI_eq, fD_eq, fI_ns, fD_ns, l2.1, l2.2.1]
  all_goals simp (disch := omega) only [wI_d, wD_i, fI_d, fD_i, wI_eq, wD_eq, wI_ne, wD_ne, fI_ne, fD_ne, wI_ns, wD_ns, fI_eq, fD_eq, fI_ns, fD_ns, l2.1, l2.2.1, l2.2.2, k2.1, k2.2]
