/-! ===== the calls on the loop ===== -/
theorem E_turns {h : sd_H} (i : Iv h h) (a : Int32) : EE (XT_turns h a) (fun g => YM_turns g a) := by
  unfold XT_turns YM_turns
  simp only [XT_within_e, YM_in_e, b1_s]
  rcases wn_c a 10 (by omega) with hz | ⟨M, hM, rfl, h1⟩
  · rw [show (10 : Int32) = nI 10 from rfl, hz]
    exact EE_i (if_pos rfl) (if_pos rfl) i
  rw [show (10 : Int32) = nI 10 from rfl, h1]
  simp only [if_neg z10.mp]
  obtain ⟨N, S, il, ih⟩ := i.2.2.2.2.1
  obtain ⟨g1, n1, n2, n3⟩ := push_e ih 0 (-1) (-1)
  obtain ⟨g2, k1, k2, k3⟩ := n3 (h.1 6 1) 0 0
  obtain ⟨v2, l1, l2, l3⟩ := k3 (wI (wI g2 6 1 (nI M)) 56 5 1) 0 0 (h.1 126 6) 0 0 (by simp (disch := omega) only [wI_d, wD_i, fI_d, fD_i, wI_eq, wD_eq, wI_ne, wD_ne, fI_ne, fD_ne, wI_ns, wD_ns, fI_eq, fD_eq, fI_ns, fD_ns, k2.1]) (by simp (disch := omega) only [wI_d, wD_i, fI_d, fD_i, wI_eq, wD_eq, wI_ne, wD_ne, fI_ne, fD_ne, wI_ns, wD_ns, fI_eq, fD_eq, fI_ns, fD_ns, k2.1])
  refine EE_i (h1 := wI (wI g2 6 1 (nI M)) 56 5 1) (r := nI N) (h2 := wI v2 126 6 (nI M)) ?_ ?_ (Iv_l i ⟨M, S, ?_, ?_⟩ ?_ ?_ ?_ ?_ ?_ ?_ ?_ ?_ ?_ ?_ ?_ ?_ ?_ ?_ ?_ ?_ ?_ ?_ ?_ ?_ ?_ ?_)
  · rw [n1, b1_s, k1, b1_s, hb_s, hb_s, il.2.2.1]
  · rw [show (wI (wI g2 6 1 (nI M)) 56 5 1).1 126 6 = h.1 126 6 by simp (disch := omega) only [wI_d, wD_i, fI_d, fD_i, wI_eq, wD_eq, wI_ne, wD_ne, fI_ne, fD_ne, wI_ns, wD_ns, fI_eq, fD_eq, fI_ns, fD_ns, k2.1], l1, b1_s, hb_s, il.2.2.2.1]
  · obtain ⟨a1, a2, a3, a4, a5, a6, a7⟩ := il
    refine ⟨hM, a2, ?_, ?_, ?_, ?_, fun k hk => ILk_c (by omega) (fun c h1 h2 => ?_) ?_ ?_ ?_ ?_ ?_ ?_ ?_ ?_ ?_ (a7 k hk)⟩
    · simp (disch := omega) only [wI_d, wD_i, fI_d, fD_i, wI_eq, wD_eq, wI_ne, wD_ne, fI_ne, fD_ne, wI_ns, wD_ns, fI_eq, fD_eq, fI_ns, fD_ns, l2.1, k2.1]
    · simp (disch := omega) only [wI_d, wD_i, fI_d, fD_i, wI_eq, wD_eq, wI_ne, wD_ne, fI_ne, fD_ne, wI_ns, wD_ns, fI_eq, fD_eq, fI_ns, fD_ns, l2.1, l2.2.1, k2.1]
    · simp (disch := omega) only [wI_d, wD_i, fI_d, fD_i, wI_eq, wD_eq, wI_ne, wD_ne, fI_ne, fD_ne, wI_ns, wD_ns, fI_eq, fD_eq, fI_ns, fD_ns, l2.1, l2.2.1, k2.1]
      exact a5
    · simp (disch := omega) only [wI_d, wD_i, fI_d, fD_i, wI_eq, wD_eq, wI_ne, wD_ne, fI_ne, fD_ne, wI_ns, wD_ns, fI_eq, fD_eq, fI_ns, fD_ns, l2.1, l2.2.1, k2.1]
      exact a6
    all_goals simp (disch := omega) only [wI_d, wD_i, fI_d, fD_i, wI_eq, wD_eq, wI_ne, wD_ne, fI_ne, fD_ne, wI_ns, wD_ns, fI_eq, fD_eq, fI_ns, fD_ns, l2.1, l2.2.1, k2.1]
  · refine l3 _ _ S ?_ (fun c h1 h2 => ?_) ?_ ?_ (fun x x0 x1 x2 x3 x4 x5 => ⟨x0, Or.inl ⟨rfl, x3.trans (il.2.2.1.trans il.2.2.2.1.symm), ⟨N, il.1, il.2.2.2.1⟩, rfl⟩⟩)
    all_goals simp (disch := omega) only [wI_d, wD_i, fI_d, fD_i, wI_eq, wD_eq, wI_ne, wD_ne, fI_ne, fD_ne, wI_ns, wD_ns, fI_eq, fD_eq, fI_ns, fD_ns, l2.1, l2.2.1]
  all_goals simp (disch := omega) only [wI_d, wD_i, fI_d, fD_i, wI_eq, wD_eq, wI_ne, wD_ne, fI_ne, fD_ne, wI_ns, wD_ns, fI_eq, fD_eq, fI_ns, fD_ns, l2.1, l2.2.1, l2.2.2, k2.1, k2.2]
