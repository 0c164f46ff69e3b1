/-! ===== the call statement ===== -/
theorem wn_15 (a : Int32) : wn a 1 5 = 0 ∨ ∃ p, 1 ≤ p ∧ p ≤ 5 ∧ a = nI p ∧ wn a 1 5 = 1 := by
  rcases wn_ti (a := a) (lo := 1) (hi := 5) (l := 1) (u := 5) (by decide) (by decide) with e | ⟨e1, e2, e3⟩
  · exact Or.inl e
  · exact Or.inr ⟨a.toInt.toNat, by omega, by omega, of_ti (by omega) (by omega), e3⟩
/-- the names of both texts are the same -/
theorem mt_c {t u : Nat → Int32} {n : Nat} (h : ∀ i, i < n → t i = u i) (j : Nat) : mt t n j = mt u n j := by
  unfold mt
  rw [ck_c h n 0 (by omega)]
theorem E_statement {h : sd_H} (i : Iv h h) (a : Int32) : EE (XT_statement h a) (fun g => YM_statement g a) := by
  unfold XT_statement YM_statement
  simp only [XT_within_e, YM_in_e, b1_s]
  rcases wn_15 a with hz | ⟨c, hc1, hc5, rfl, h1⟩
  · rw [hz]
    exact EE_i (if_pos rfl) (if_pos rfl) i
  rw [h1]
  simp only [if_neg z10.mp]
  obtain ⟨N, S, il, ih⟩ := i.2.2.2.2.1
  obtain ⟨a1, a2, a3, a4, a5, a6, a7⟩ := il
  obtain ⟨n, hn, t1, t2, t3⟩ := i.2.2.2.2.2.1
  have ex : XT_operationTyped h = some (ft (h.1 55) n 0 13) := XT_operationTyped_L2_e hn t1 13 FU 0 rfl (by decide)
  have ey : ∀ g : sd_H, g.1 126 20 = nI n → YM_statement_L16 FU g (nI c) (-1) 0 = YM_statement_L16 99987 g (nI c) (fy (g.1 142) n (-1) 0 13) (nI 13) := fun g hg => YM_statement_L16_e hn hg (nI c) 13 99987 0 (-1) rfl
  rw [ex, b1_s]
  rcases ft_c (t := h.1 55) (n := n) 13 0 rfl with ⟨f1, f2⟩ | ⟨j, _, hj, f1, f2⟩
  · refine EE_i (h1 := h) (r := -3) (h2 := h) ?_ ?_ i
    · rw [f1, if_pos rfl]
    · rw [ey h t2, fy_n 13 0 (-1) rfl (fun j h1 h2 => by rw [← mt_c t3]; exact f2 j h1 h2)]
      rfl
  have ef : ∀ g : sd_H, g.1 142 = h.1 142 → fy (g.1 142) n (-1) 0 13 = nI j := fun g hg => by
    rw [hg]
    exact fy_j hj (by rw [← mt_c t3]; exact f2) 13 0 (-1) rfl (Or.inl (by omega))
  rw [f1, if_neg (by rw [nI_ne_m1 (by omega)]; exact fun q => q)]
  have ez : ∀ g : sd_H, g.1 126 20 = nI n → g.1 142 = h.1 142 → YM_statement_L16 FU g (nI c) (-1) 0 = YM_statement_L16 (99986 + 1) g (nI c) (nI j) (nI 13) := fun g hg hg2 => by
    rw [ey g hg, ef g hg2]
  by_cases h5 : S = 5
  · subst h5
    refine EE_i (h1 := h) (r := -4) (h2 := h) ?_ ?_ i
    · rw [a5, if_neg (by decide)]
    · rw [ez h t2 rfl]
      unfold YM_statement_L16
      rw [if_pos (by decide), if_neg (by rw [nI_ne_m1 (by omega)]; exact fun q => q), a6]
      rfl
  have hS : S < 5 := by omega
  rw [a5, if_pos (show nI S < 5 from (nI_ltI (a := S) (b := 5) (by omega) (by omega)).mpr hS), hb_s, inB_n hS (by omega), gd_t, nI_clamp (by omega), XA_begin_e, b1_s, nI_1]
  have ih' : IH (xB (wI h 6 2 (nI (S + 1))) (8 + 5 * S) (nI j) (nI c)) h S := IH_c (by simp (disch := omega) only [wI_d, wD_i, fI_d, fD_i, wI_eq, wD_eq, wI_ne, wD_ne, fI_ne, fD_ne, wI_ns, wD_ns, fI_eq, fD_eq, fI_ns, fD_ns, xB, xR]) (fun c h1 h2 => by simp (disch := omega) only [wI_d, wD_i, fI_d, fD_i, wI_eq, wD_eq, wI_ne, wD_ne, fI_ne, fD_ne, wI_ns, wD_ns, fI_eq, fD_eq, fI_ns, fD_ns, xB, xR]) rfl rfl ih
  obtain ⟨g1, n1, n2, n3⟩ := push_n ih' 1 (nI S) (-1)
  obtain ⟨v2, l1, l2, l3⟩ := n3 (wI (wI (wI g1 0 15 0) 56 5 1) 126 20 0) 1 (nI S) 0 0 0 (by simp (disch := omega) only [wI_d, wD_i, fI_d, fD_i, wI_eq, wD_eq, wI_ne, wD_ne, fI_ne, fD_ne, wI_ns, wD_ns, fI_eq, fD_eq, fI_ns, fD_ns, n2.1, xB, xR]) (by simp (disch := omega) only [wI_d, wD_i, fI_d, fD_i, wI_eq, wD_eq, wI_ne, wD_ne, fI_ne, fD_ne, wI_ns, wD_ns, fI_eq, fD_eq, fI_ns, fD_ns, n2.1, xB, xR])
  refine EE_i (h1 := wI (wI g1 0 15 0) 56 5 1) (r := nI S) (h2 := wI (mB (mB (mB (wI (wI (wI (wI (wI v2 132 S (nI j)) 133 S (nI c)) 134 S 1) 135 S 0) 136 S (-1)) (3 * S) 0) (3 * S + 1) (-1)) (3 * S + 2) (-1)) 126 7 (nI (S + 1))) ?_ ?_ ?_
  · rw [n1, b1_s]
    rfl
  · rw [ez _ (by simp (disch := omega) only [wI_d, wD_i, fI_d, fD_i, wI_eq, wD_eq, wI_ne, wD_ne, fI_ne, fD_ne, wI_ns, wD_ns, fI_eq, fD_eq, fI_ns, fD_ns, n2.1, xB, xR]; exact t2) (by simp (disch := omega) only [wI_d, wD_i, fI_d, fD_i, wI_eq, wD_eq, wI_ne, wD_ne, fI_ne, fD_ne, wI_ns, wD_ns, fI_eq, fD_eq, fI_ns, fD_ns, n2.1, xB, xR])]
    unfold YM_statement_L16
    have s7 : (wI (wI g1 0 15 0) 56 5 1).1 126 7 = nI S := by
      simp (disch := omega) only [wI_d, wD_i, fI_d, fD_i, wI_eq, wD_eq, wI_ne, wD_ne, fI_ne, fD_ne, wI_ns, wD_ns, fI_eq, fD_eq, fI_ns, fD_ns, n2.1, xB, xR]
      exact a6
    rw [if_pos (by decide), if_neg (by rw [nI_ne_m1 (by omega)]; exact fun q => q), s7, if_neg (show ¬ nI S = 5 from fun q => h5 ((nI_eq (a := S) (b := 5) (by omega) (by omega)).mp q)), hb_s, show (wI (wI (wI g1 0 15 0) 56 5 1) 126 20 0).1 126 7 = nI S by rw [wI_ns (by omega)]; exact s7, l1, b1_s]
    have s8 : v2.1 126 7 = nI S := by
      rw [l2.2.1 7 (by omega), wI_ns (by omega)]
      exact s7
    simp (disch := omega) only [wI_ne, s8, hb_s, inB_n, gd_t, nI_clamp, lit 3, pk_mul]
    refine YM_statement_L135_e hS ?_
    simp (disch := omega) only [wI_d, wD_i, fI_d, fD_i, wI_eq, wD_eq, wI_ne, wD_ne, fI_ne, fD_ne, wI_ns, wD_ns, fI_eq, fD_eq, fI_ns, fD_ns]
    exact s8
  · have il : IL (wI (mB (mB (mB (wI (wI (wI (wI (wI v2 132 S (nI j)) 133 S (nI c)) 134 S 1) 135 S 0) 136 S (-1)) (3 * S) 0) (3 * S + 1) (-1)) (3 * S + 2) (-1)) 126 7 (nI (S + 1))) (wI (mB (mB (mB (wI (wI (wI (wI (wI v2 132 S (nI j)) 133 S (nI c)) 134 S 1) 135 S 0) 136 S (-1)) (3 * S) 0) (3 * S + 1) (-1)) (3 * S + 2) (-1)) 126 7 (nI (S + 1))) N (S + 1) := by
      refine ⟨a1, by omega, ?_, ?_, ?_, ?_, fun t ht => ?_⟩
      · simp (disch := omega) only [wI_d, wD_i, fI_d, fD_i, wI_eq, wD_eq, wI_ne, wD_ne, fI_ne, fD_ne, wI_ns, wD_ns, fI_eq, fD_eq, fI_ns, fD_ns, mB, l2.1, l2.2.1, n2.1, xB, xR]
        exact a3
      · simp (disch := omega) only [wI_d, wD_i, fI_d, fD_i, wI_eq, wD_eq, wI_ne, wD_ne, fI_ne, fD_ne, wI_ns, wD_ns, fI_eq, fD_eq, fI_ns, fD_ns, mB, l2.1, l2.2.1, n2.1, xB, xR]
        exact a4
      · simp (disch := omega) only [wI_d, wD_i, fI_d, fD_i, wI_eq, wD_eq, wI_ne, wD_ne, fI_ne, fD_ne, wI_ns, wD_ns, fI_eq, fD_eq, fI_ns, fD_ns, mB, l2.1, l2.2.1, n2.1, xB, xR]
      · simp (disch := omega) only [wI_d, wD_i, fI_d, fD_i, wI_eq, wD_eq, wI_ne, wD_ne, fI_ne, fD_ne, wI_ns, wD_ns, fI_eq, fD_eq, fI_ns, fD_ns, mB, l2.1, l2.2.1, n2.1, xB, xR]
      · by_cases e : t = S
        · subst e
          refine ⟨⟨?_, ?_, ?_, ?_, ?_, ⟨j, by omega, ?_⟩, ⟨c, hc1, hc5, ?_⟩, ⟨1, by omega, by omega, ?_⟩, ⟨0, by omega, ?_⟩, Or.inl ?_⟩, fun w hw => ?_⟩
          iterate 7 (simp (disch := omega) only [wI_d, wD_i, fI_d, fD_i, wI_eq, wD_eq, wI_ne, wD_ne, fI_ne, fD_ne, wI_ns, wD_ns, fI_eq, fD_eq, fI_ns, fD_ns, mB, l2.1, l2.2.1, n2.1, xB, xR])
          · simp (disch := omega) only [wI_d, wD_i, fI_d, fD_i, wI_eq, wD_eq, wI_ne, wD_ne, fI_ne, fD_ne, wI_ns, wD_ns, fI_eq, fD_eq, fI_ns, fD_ns, mB, l2.1, l2.2.1, n2.1, xB, xR]
            rfl
          · simp (disch := omega) only [wI_d, wD_i, fI_d, fD_i, wI_eq, wD_eq, wI_ne, wD_ne, fI_ne, fD_ne, wI_ns, wD_ns, fI_eq, fD_eq, fI_ns, fD_ns, mB, l2.1, l2.2.1, n2.1, xB, xR]
            rfl
          · simp (disch := omega) only [wI_d, wD_i, fI_d, fD_i, wI_eq, wD_eq, wI_ne, wD_ne, fI_ne, fD_ne, wI_ns, wD_ns, fI_eq, fD_eq, fI_ns, fD_ns, mB, l2.1, l2.2.1, n2.1, xB, xR]
          · have hw3 : w = 0 ∨ w = 1 ∨ w = 2 := by omega
            rcases hw3 with rfl | rfl | rfl
            · refine ⟨?_, ?_, ?_, ?_, Or.inr ⟨0, by omega, ?_⟩, ⟨?_, ?_⟩, ⟨?_, ?_⟩, ⟨?_, ?_⟩⟩ <;> simp (disch := omega) only [wI_d, wD_i, fI_d, fD_i, wI_eq, wD_eq, wI_ne, wD_ne, fI_ne, fD_ne, wI_ns, wD_ns, fI_eq, fD_eq, fI_ns, fD_ns, mB, l2.1, l2.2.1, n2.1, xB, xR, Nat.add_zero, show 10 + 5 * t = 8 + 5 * t + 2 by omega] <;> decide
            · refine ⟨?_, ?_, ?_, ?_, Or.inl ⟨?_, by omega⟩, ⟨?_, ?_⟩, ⟨?_, ?_⟩, ⟨?_, ?_⟩⟩ <;> simp (disch := omega) only [wI_d, wD_i, fI_d, fD_i, wI_eq, wD_eq, wI_ne, wD_ne, fI_ne, fD_ne, wI_ns, wD_ns, fI_eq, fD_eq, fI_ns, fD_ns, mB, l2.1, l2.2.1, n2.1, xB, xR, show 10 + 5 * t + 1 = 8 + 5 * t + 3 by omega] <;> decide
            · refine ⟨?_, ?_, ?_, ?_, Or.inl ⟨?_, by omega⟩, ⟨?_, ?_⟩, ⟨?_, ?_⟩, ⟨?_, ?_⟩⟩ <;> simp (disch := omega) only [wI_d, wD_i, fI_d, fD_i, wI_eq, wD_eq, wI_ne, wD_ne, fI_ne, fD_ne, wI_ns, wD_ns, fI_eq, fD_eq, fI_ns, fD_ns, mB, l2.1, l2.2.1, n2.1, xB, xR, show 10 + 5 * t + 2 = 8 + 5 * t + 4 by omega] <;> decide
        · have tt := a7 t (by omega)
          refine ⟨?_, fun w hw => ?_⟩
          · simp (disch := omega) only [wI_d, wD_i, fI_d, fD_i, wI_eq, wD_eq, wI_ne, wD_ne, fI_ne, fD_ne, wI_ns, wD_ns, fI_eq, fD_eq, fI_ns, fD_ns, mB, l2.1, l2.2.1, n2.1, xB, xR]
            exact tt.1
          · simp (disch := omega) only [wI_d, wD_i, fI_d, fD_i, wI_eq, wD_eq, wI_ne, wD_ne, fI_ne, fD_ne, wI_ns, wD_ns, fI_eq, fD_eq, fI_ns, fD_ns, mB, l2.1, l2.2.1, n2.1, xB, xR]
            exact tt.2 w hw
    have ihn : IH (wI (mB (mB (mB (wI (wI (wI (wI (wI v2 132 S (nI j)) 133 S (nI c)) 134 S 1) 135 S 0) 136 S (-1)) (3 * S) 0) (3 * S + 1) (-1)) (3 * S + 2) (-1)) 126 7 (nI (S + 1))) (wI (mB (mB (mB (wI (wI (wI (wI (wI v2 132 S (nI j)) 133 S (nI c)) 134 S 1) 135 S 0) 136 S (-1)) (3 * S) 0) (3 * S + 1) (-1)) (3 * S + 2) (-1)) 126 7 (nI (S + 1))) (S + 1) := by
      refine l3 _ _ _ ?_ (fun c h1 h2 => ?_) ?_ ?_ (fun x x0 x1 x2 => ⟨x0, Or.inr (Or.inl ⟨rfl, x1, rfl⟩)⟩)
      all_goals simp (disch := omega) only [wI_d, wD_i, fI_d, fD_i, wI_eq, wD_eq, wI_ne, wD_ne, fI_ne, fD_ne, wI_ns, wD_ns, fI_eq, fD_eq, fI_ns, fD_ns, mB, l2.1, l2.2.1]
    obtain ⟨b1, b2, b3, b4, _, _, b7, b8, b9⟩ := i
    refine ⟨?_, ?_, ?_, ?_, ⟨N, S + 1, il, ihn⟩, ⟨0, by omega, ?_, ?_, fun j hj => absurd hj (Nat.not_lt_zero _)⟩, ?_, ⟨?_, ?_⟩, Or.inl ?_⟩
    · simp (disch := omega) only [wI_d, wD_i, fI_d, fD_i, wI_eq, wD_eq, wI_ne, wD_ne, fI_ne, fD_ne, wI_ns, wD_ns, fI_eq, fD_eq, fI_ns, fD_ns, mB, l2.1, l2.2.1, l2.2.2, n2.1, n2.2, xB, xR]
      exact b1
    · simp (disch := omega) only [wI_d, wD_i, fI_d, fD_i, wI_eq, wD_eq, wI_ne, wD_ne, fI_ne, fD_ne, wI_ns, wD_ns, fI_eq, fD_eq, fI_ns, fD_ns, mB, l2.1, l2.2.1, l2.2.2, n2.1, n2.2, xB, xR]
      exact b2
    · simp (disch := omega) only [wI_d, wD_i, fI_d, fD_i, wI_eq, wD_eq, wI_ne, wD_ne, fI_ne, fD_ne, wI_ns, wD_ns, fI_eq, fD_eq, fI_ns, fD_ns, mB, l2.1, l2.2.1, l2.2.2, n2.1, n2.2, xB, xR]
      exact b3
    · simp (disch := omega) only [wI_d, wD_i, fI_d, fD_i, wI_eq, wD_eq, wI_ne, wD_ne, fI_ne, fD_ne, wI_ns, wD_ns, fI_eq, fD_eq, fI_ns, fD_ns, mB, l2.1, l2.2.1, l2.2.2, n2.1, n2.2, xB, xR]
      exact b4
    · simp (disch := omega) only [wI_d, wD_i, fI_d, fD_i, wI_eq, wD_eq, wI_ne, wD_ne, fI_ne, fD_ne, wI_ns, wD_ns, fI_eq, fD_eq, fI_ns, fD_ns, mB, l2.1, l2.2.1, l2.2.2, n2.1, n2.2, xB, xR]
      rfl
    · simp (disch := omega) only [wI_d, wD_i, fI_d, fD_i, wI_eq, wD_eq, wI_ne, wD_ne, fI_ne, fD_ne, wI_ns, wD_ns, fI_eq, fD_eq, fI_ns, fD_ns, mB, l2.1, l2.2.1, l2.2.2, n2.1, n2.2, xB, xR]
      rfl
    · simp (disch := omega) only [wI_d, wD_i, fI_d, fD_i, wI_eq, wD_eq, wI_ne, wD_ne, fI_ne, fD_ne, wI_ns, wD_ns, fI_eq, fD_eq, fI_ns, fD_ns, mB, l2.1, l2.2.1, l2.2.2, n2.1, n2.2, xB, xR]
      exact b7
    · simp (disch := omega) only [wI_d, wD_i, fI_d, fD_i, wI_eq, wD_eq, wI_ne, wD_ne, fI_ne, fD_ne, wI_ns, wD_ns, fI_eq, fD_eq, fI_ns, fD_ns, mB, l2.1, l2.2.1, l2.2.2, n2.1, n2.2, xB, xR]
      exact b8.1
    · simp (disch := omega) only [wI_d, wD_i, fI_d, fD_i, wI_eq, wD_eq, wI_ne, wD_ne, fI_ne, fD_ne, wI_ns, wD_ns, fI_eq, fD_eq, fI_ns, fD_ns, mB, l2.1, l2.2.1, l2.2.2, n2.1, n2.2, xB, xR]
      exact b8.2
    · simp (disch := omega) only [wI_d, wD_i, fI_d, fD_i, wI_eq, wD_eq, wI_ne, wD_ne, fI_ne, fD_ne, wI_ns, wD_ns, fI_eq, fD_eq, fI_ns, fD_ns, mB, l2.1, l2.2.1, l2.2.2, n2.1, n2.2, xB, xR]
