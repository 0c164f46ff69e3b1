/-! ===== the call copy ===== -/
theorem YM_copy_L159_e {h1 : sd_H} {t j n : Nat} (ht : t < 6) (hj : j + n ≤ 24) : ∀ m f l, l + m = n → m < f → YM_copy_L159 f (mD h1 129 (24 * t + j) l (fun k => h1.2.1 131 k)) (nI t) (nI j) (nI n) (nI l) = some (mD h1 129 (24 * t + j) n (fun k => h1.2.1 131 k), 1)
  | _, 0, _, _, q => absurd q (Nat.not_lt_zero _)
  | 0, f + 1, l, e, _ => by
    obtain rfl : l = n := by omega
    unfold YM_copy_L159
    rw [if_pos (nI_le (by omega) (by omega))]
  | m + 1, f + 1, l, e, q => by
    unfold YM_copy_L159
    rw [if_neg (nI_ge (by omega) (by omega))]
    simp (disch := omega) only [lit 24, pk_mul, nI_add, nI_1, inB_n, gd_t, nI_clamp, hb_s, mD_ne]
    rw [mD_st h1 129 (24 * t + j) l (fun k => h1.2.1 131 k)]
    exact YM_copy_L159_e ht hj m f (l + 1) (by omega) (by omega)
theorem YM_copy_L122_e {h0 : sd_H} {r i t j n : Nat} (hr : r < 6) (hi : i + n ≤ 24) : ∀ m f l, l + m = n → m < f → YM_copy_L122 f (mD h0 131 0 l (fun k => h0.2.1 129 (24 * r + i + k))) (nI r) (nI i) (nI t) (nI j) (nI n) (nI l) = YM_copy_L159 FU (mD h0 131 0 n (fun k => h0.2.1 129 (24 * r + i + k))) (nI t) (nI j) (nI n) 0
  | _, 0, _, _, q => absurd q (Nat.not_lt_zero _)
  | 0, f + 1, l, e, _ => by
    obtain rfl : l = n := by omega
    unfold YM_copy_L122
    rw [if_pos (nI_le (by omega) (by omega))]
  | m + 1, f + 1, l, e, q => by
    unfold YM_copy_L122
    rw [if_neg (nI_ge (by omega) (by omega))]
    simp (disch := omega) only [lit 24, pk_mul, nI_add, nI_1, inB_n, gd_t, nI_clamp, hb_s, mD_ne]
    have := mD_st h0 131 0 l (fun k => h0.2.1 129 (24 * r + i + k))
    rw [Nat.zero_add] at this
    rw [this]
    exact YM_copy_L122_e hr hi m f (l + 1) (by omega) (by omega)
theorem cpD_d {h : sd_H} {a : Nat} {sp : Int32} {b : Nat} {dp n : Int32} {c : Nat} (q : ¬ c = b) : (cpD h a sp b dp n).2.1 c = h.2.1 c := funext fun k => if_neg q
theorem cpD_i {h : sd_H} {a : Nat} {sp : Int32} {b : Nat} {dp n : Int32} : (cpD h a sp b dp n).1 = h.1 := rfl
theorem cpD_in {h : sd_H} {a b sp dp n k : Nat} (h1 : sp < 2 ^ 31) (h2 : dp < 2 ^ 31) (h3 : n < 2 ^ 31) (q : dp ≤ k ∧ k < dp + n) : (cpD h a (nI sp) b (nI dp) (nI n)).2.1 b k = h.2.1 a (sp + (k - dp)) := by
  show (if b = b then va_cpy (h.2.1 a) (h.2.1 b) (nI sp).toNatClampNeg (nI dp).toNatClampNeg (nI n).toNatClampNeg k else h.2.1 b k) = _
  rw [if_pos rfl, nI_clamp h1, nI_clamp h2, nI_clamp h3, pk_cpy_in q.1 q.2]
theorem cpD_out {h : sd_H} {a b sp dp n k : Nat} (h1 : sp < 2 ^ 31) (h2 : dp < 2 ^ 31) (h3 : n < 2 ^ 31) (q : k < dp ∨ dp + n ≤ k) : (cpD h a (nI sp) b (nI dp) (nI n)).2.1 b k = h.2.1 b k := by
  show (if b = b then va_cpy (h.2.1 a) (h.2.1 b) (nI sp).toNatClampNeg (nI dp).toNatClampNeg (nI n).toNatClampNeg k else h.2.1 b k) = _
  rw [if_pos rfl, nI_clamp h1, nI_clamp h2, nI_clamp h3, pk_cpy_out q]
theorem acOK_n {sp dp n N M : Nat} (h1 : sp + n ≤ N) (h2 : dp + n ≤ M) (hN : N < 2 ^ 31) (hM : M < 2 ^ 31) : acOK (nI sp) (nI dp) (nI n) N M = true := by
  unfold acOK
  simp only [Bool.and_eq_true, decide_eq_true_eq, nI_clamp (show sp < 2 ^ 31 by omega), nI_clamp (show dp < 2 ^ 31 by omega), nI_clamp (show n < 2 ^ 31 by omega)]
  exact ⟨nI_pos (by omega), nI_pos (by omega), nI_pos (by omega), h1, h2⟩
theorem E_copy {h : sd_H} (iv : Iv h h) (a b c d e : Int32) : EE (XT_copy h a b c d e) (fun g => YM_copy g a b c d e) := by
  unfold XT_copy YM_copy
  simp only [XT_isRow_e, YM_isRow_e, b1_s]
  rcases wn_c a 5 (by omega) with hz | ⟨r, hr, rfl, h1⟩
  · rw [show (5 : Int32) = nI 5 from rfl, hz]
    exact EE_i (if_pos rfl) (if_pos rfl) iv
  rw [show (5 : Int32) = nI 5 from rfl, h1]
  simp only [if_neg z10.mp]
  rcases wn_c c 5 (by omega) with hz | ⟨t, ht, rfl, h2⟩
  · rw [hz]
    exact EE_i (if_pos rfl) (if_pos rfl) iv
  rw [h2]
  simp only [if_neg z10.mp, inB_n (show r < 6 by omega) (by omega), inB_n (show t < 6 by omega) (by omega), gd_t, nI_clamp (show r < 2 ^ 31 by omega), nI_clamp (show t < 2 ^ 31 by omega)]
  rcases row_cs iv (show r < 6 by omega) with ⟨e1, e2, e3⟩ | ⟨f, z1, hf, hz1, e1, e2, e3, e4, e5⟩
  · rw [XR_isMissing_t (by omega) e1]
    refine EE_i (h1 := wI h 0 16 1) (h2 := wI (wI h 0 16 1) 126 4 1) (r := -11) rfl ?_ (Iv_f 1 iv)
    rw [if_pos (by simp (disch := omega) only [wI_d, wD_i, fI_d, fD_i, wI_eq, wD_eq, wI_ne, wD_ne, fI_ne, fD_ne, wI_ns, wD_ns, fI_eq, fD_eq, fI_ns, fD_ns]; exact e2)]
    rfl
  rw [XR_isMissing_f (by omega) hf e1, b1_s, if_pos rfl]
  have y1 : ∀ g : sd_H, g.1 127 r = h.1 127 r → ¬ g.1 127 r = -1 := fun g hg => by
    rw [hg, e2, nI_ne_m1 (by omega)]
    exact fun q => q
  rcases row_cs iv (show t < 6 by omega) with ⟨f1, f2, f3⟩ | ⟨f', z2, hf', hz2, f1, f2, f3, f4, f5⟩
  · rw [XR_isMissing_t (by omega) f1]
    refine EE_i (h1 := wI h 0 16 1) (h2 := wI (wI h 0 16 1) 126 4 1) (r := -11) rfl ?_ (Iv_f 1 iv)
    rw [if_neg (y1 _ (by simp (disch := omega) only [wI_d, wD_i, fI_d, fD_i, wI_eq, wD_eq, wI_ne, wD_ne, fI_ne, fD_ne, wI_ns, wD_ns, fI_eq, fD_eq, fI_ns, fD_ns])), if_pos (by simp (disch := omega) only [wI_d, wD_i, fI_d, fD_i, wI_eq, wD_eq, wI_ne, wD_ne, fI_ne, fD_ne, wI_ns, wD_ns, fI_eq, fD_eq, fI_ns, fD_ns]; exact f2)]
    rfl
  rw [XR_isMissing_f (by omega) hf' f1, b1_s, if_pos rfl]
  have y2 : ∀ g : sd_H, g.1 127 t = h.1 127 t → ¬ g.1 127 t = -1 := fun g hg => by
    rw [hg, f2, nI_ne_m1 (by omega)]
    exact fun q => q
  by_cases hff : ¬ f = f'
  · refine EE_i (h1 := wI h 0 16 4) (h2 := wI (wI h 0 16 4) 126 4 4) (r := -14) ?_ ?_ (Iv_f 4 iv)
    · rw [if_neg (by rw [e1, f1, nI_eqI (by omega) (by omega)]; exact hff)]
      rfl
    · rw [if_neg (y1 _ (by simp (disch := omega) only [wI_d, wD_i, fI_d, fD_i, wI_eq, wD_eq, wI_ne, wD_ne, fI_ne, fD_ne, wI_ns, wD_ns, fI_eq, fD_eq, fI_ns, fD_ns])), if_neg (y2 _ (by simp (disch := omega) only [wI_d, wD_i, fI_d, fD_i, wI_eq, wD_eq, wI_ne, wD_ne, fI_ne, fD_ne, wI_ns, wD_ns, fI_eq, fD_eq, fI_ns, fD_ns])), if_neg (by simp (disch := omega) only [wI_d, wD_i, fI_d, fD_i, wI_eq, wD_eq, wI_ne, wD_ne, fI_ne, fD_ne, wI_ns, wD_ns, fI_eq, fD_eq, fI_ns, fD_ns]; rw [e2, f2, nI_eqI (by omega) (by omega)]; exact hff)]
      rfl
  obtain rfl := Classical.not_not.mp hff
  rw [if_pos (e1.trans f1.symm)]
  have x3 := XR_hasCells_01 (P := 1) (show r < 6 by omega) hz1 e3 b e
  have x4 := XR_hasCells_01 (P := 1) (show t < 6 by omega) hz2 f3 d e
  have bad : (XR_hasCells h 1 (nI r) b e = some 0 ∨ ((∃ w, XR_hasCells h 1 (nI r) b e = some w) ∧ XR_hasCells h 1 (nI t) d e = some 0)) →
      ((b < 0 ∨ e < 0 ∨ ∃ i n, i < 2 ^ 31 ∧ n < 2 ^ 31 ∧ b = nI i ∧ e = nI n ∧ z1 < i + n) ∨ (d < 0 ∨ e < 0 ∨ ∃ i n, i < 2 ^ 31 ∧ n < 2 ^ 31 ∧ d = nI i ∧ e = nI n ∧ z2 < i + n)) →
      EE (b1 (XR_hasCells h 1 (nI r) b e) fun t20 => if t20 = 0 then XT_copy_B101 h else b1 (XR_hasCells h 1 (nI t) d e) fun t26 => if t26 = 0 then XT_copy_B101 h else gd (acOK (nI r * 24 + b) (nI t * 24 + d) e 144 144) (hb (cpD h 4 (nI r * 24 + b) 4 (nI t * 24 + d) e) fun h29 => hb (wI h29 56 5 1) fun h31 => some (h31, 1)))
        (fun g => YM_copy g (nI r) b (nI t) d e) := fun p q => by
    refine EE_i (h1 := wI h 0 16 2) (h2 := wI (wI h 0 16 2) 126 4 2) (r := -12) ?_ ?_ (Iv_f 2 iv)
    · rcases p with p | ⟨⟨w, p⟩, p2⟩
      · rw [p]
        rfl
      · rw [p, b1_s, p2]
        split <;> rfl
    · unfold YM_copy
      simp only [YM_isRow_e, b1_s]
      rw [show (5 : Int32) = nI 5 from rfl, h1, h2]
      simp only [if_neg z10.mp, inB_n (show r < 6 by omega) (by omega), inB_n (show t < 6 by omega) (by omega), gd_t, nI_clamp (show r < 2 ^ 31 by omega), nI_clamp (show t < 2 ^ 31 by omega)]
      rw [if_neg (y1 _ (by simp (disch := omega) only [wI_d, wD_i, fI_d, fD_i, wI_eq, wD_eq, wI_ne, wD_ne, fI_ne, fD_ne, wI_ns, wD_ns, fI_eq, fD_eq, fI_ns, fD_ns])), if_neg (y2 _ (by simp (disch := omega) only [wI_d, wD_i, fI_d, fD_i, wI_eq, wD_eq, wI_ne, wD_ne, fI_ne, fD_ne, wI_ns, wD_ns, fI_eq, fD_eq, fI_ns, fD_ns])), if_pos (by simp (disch := omega) only [wI_d, wD_i, fI_d, fD_i, wI_eq, wD_eq, wI_ne, wD_ne, fI_ne, fD_ne, wI_ns, wD_ns, fI_eq, fD_eq, fI_ns, fD_ns]; exact e2.trans f2.symm)]
      simp (disch := omega) only [wI_d, wD_i, fI_d, fD_i, wI_eq, wD_eq, wI_ne, wD_ne, fI_ne, fD_ne, wI_ns, wD_ns, fI_eq, fD_eq, fI_ns, fD_ns, e4, f4]
      rw [ybad _ _ hz1 hz2 q]
      rfl
  rcases x3 with ⟨x3, p3⟩ | ⟨i, n, rfl, rfl, p3, x3⟩
  · have := bad (Or.inl x3) (Or.inl p3)
    unfold YM_copy at this
    simp only [YM_isRow_e, b1_s] at this
    rw [show (5 : Int32) = nI 5 from rfl, h1, h2] at this
    simp only [if_neg z10.mp, inB_n (show r < 6 by omega) (by omega), inB_n (show t < 6 by omega) (by omega), gd_t, nI_clamp (show r < 2 ^ 31 by omega), nI_clamp (show t < 2 ^ 31 by omega)] at this
    exact this
  rcases x4 with ⟨x4, p4⟩ | ⟨j, n', rfl, en, p4, x4⟩
  · have := bad (Or.inr ⟨⟨_, x3⟩, x4⟩) (Or.inr p4)
    unfold YM_copy at this
    simp only [YM_isRow_e, b1_s] at this
    rw [show (5 : Int32) = nI 5 from rfl, h1, h2] at this
    simp only [if_neg z10.mp, inB_n (show r < 6 by omega) (by omega), inB_n (show t < 6 by omega) (by omega), gd_t, nI_clamp (show r < 2 ^ 31 by omega), nI_clamp (show t < 2 ^ 31 by omega)] at this
    exact this
  have en' : n' < 2 ^ 31 := by omega
  obtain rfl : n = n' := (nI_eq (by omega) en').mp en
  have sp : nI r * 24 + nI i = nI (24 * r + i) := by rw [lit 24, pk_mul, nI_add, Nat.mul_comm]
  have dp : nI t * 24 + nI j = nI (24 * t + j) := by rw [lit 24, pk_mul, nI_add, Nat.mul_comm]
  rw [x3, b1_s, if_neg z10.mp, x4, b1_s, if_neg z10.mp, sp, dp, gd_h (acOK_n (by omega) (by omega) (by omega) (by omega)), hb_s, hb_s]
  refine EE_i (h1 := wI (cpD h 4 (nI (24 * r + i)) 4 (nI (24 * t + j)) (nI n)) 56 5 1) (r := 1)
    (h2 := mD (mD (wI (cpD h 4 (nI (24 * r + i)) 4 (nI (24 * t + j)) (nI n)) 56 5 1) 131 0 n (fun k => h.2.1 129 (24 * r + i + k))) 129 (24 * t + j) n (fun k => (mD (wI (cpD h 4 (nI (24 * r + i)) 4 (nI (24 * t + j)) (nI n)) 56 5 1) 131 0 n (fun k => h.2.1 129 (24 * r + i + k))).2.1 131 k)) rfl ?_ (Iv_k iv ?_ ?_ ?_ ?_ ?_ ?_ ?_ ?_ ?_ ?_ ?_ ?_ ?_ ?_ ?_ ?_ ?_ ?_ ?_ ?_ ?_ ?_ ?_ ?_ ?_ ?_ ?_ ?_ ?_ ?_ ?_ ?_ ?_ ?_)
  · rw [if_neg (y1 _ (by simp (disch := omega) only [wI_d, wD_i, fI_d, fD_i, wI_eq, wD_eq, wI_ne, wD_ne, fI_ne, fD_ne, wI_ns, wD_ns, fI_eq, fD_eq, fI_ns, fD_ns, cpD_i])), if_neg (y2 _ (by simp (disch := omega) only [wI_d, wD_i, fI_d, fD_i, wI_eq, wD_eq, wI_ne, wD_ne, fI_ne, fD_ne, wI_ns, wD_ns, fI_eq, fD_eq, fI_ns, fD_ns, cpD_i])), if_pos (by simp (disch := omega) only [wI_d, wD_i, fI_d, fD_i, wI_eq, wD_eq, wI_ne, wD_ne, fI_ne, fD_ne, wI_ns, wD_ns, fI_eq, fD_eq, fI_ns, fD_ns, cpD_i]; exact e2.trans f2.symm)]
    simp (disch := omega) only [wI_d, wD_i, fI_d, fD_i, wI_eq, wD_eq, wI_ne, wD_ne, fI_ne, fD_ne, wI_ns, wD_ns, fI_eq, fD_eq, fI_ns, fD_ns, cpD_i, e4, f4]
    rw [ygood _ _ hz1 hz2 p3 p4]
    have L1 := YM_copy_L122_e (h0 := wI (cpD h 4 (nI (24 * r + i)) 4 (nI (24 * t + j)) (nI n)) 56 5 1) (r := r) (i := i) (t := t) (j := j) (n := n) (by omega) (by omega) n FU 0 (by omega) (by rw [FU_s]; omega)
    have L2 := YM_copy_L159_e (h1 := mD (wI (cpD h 4 (nI (24 * r + i)) 4 (nI (24 * t + j)) (nI n)) 56 5 1) 131 0 n (fun k => h.2.1 129 (24 * r + i + k))) (t := t) (j := j) (n := n) (by omega) (by omega) n FU 0 (by omega) (by rw [FU_s]; omega)
    rw [mD_0] at L1 L2
    exact L1.trans L2
  · refine IR_s (r := t) iv.1 (fun q hq hn => ?_) ?_
    · refine ⟨?_, ?_, ?_, ?_, fun k hk => ⟨?_, ?_⟩⟩ <;> simp (disch := omega) only [wI_d, wD_i, fI_d, fD_i, wI_eq, wD_eq, wI_ne, wD_ne, fI_ne, fD_ne, wI_ns, wD_ns, fI_eq, fD_eq, fI_ns, fD_ns, mD_i, mD_ne, mD_ns, cpD_i, cpD_d, cpD_out]
    · simp (disch := omega) only [wI_d, wD_i, fI_d, fD_i, wI_eq, wD_eq, wI_ne, wD_ne, fI_ne, fD_ne, wI_ns, wD_ns, fI_eq, fD_eq, fI_ns, fD_ns, mD_i, cpD_i]
      refine ⟨f1.trans f2.symm, Or.inr ⟨⟨f, hf, f2⟩, f3.trans f4.symm, fun k hk => ?_⟩⟩
      by_cases q : j ≤ k ∧ k < j + n
      · simp (disch := omega) only [wI_d, wD_i, fI_d, fD_i, wI_eq, wD_eq, wI_ne, wD_ne, fI_ne, fD_ne, wI_ns, wD_ns, fI_eq, fD_eq, fI_ns, fD_ns, mD_eq, mD_ne, cpD_in]
        have := (e5 (i + (k - j)) (by omega)).1
        rw [Nat.sub_zero, show 24 * r + i + (24 * t + k - (24 * t + j)) = 24 * r + (i + (k - j)) by omega]
        exact this
      · simp (disch := omega) only [wI_d, wD_i, fI_d, fD_i, wI_eq, wD_eq, wI_ne, wD_ne, fI_ne, fD_ne, wI_ns, wD_ns, fI_eq, fD_eq, fI_ns, fD_ns, mD_ns, mD_ne, cpD_out]
        exact (f5 k hk).1
  · simp (disch := omega) only [wI_d, wD_i, fI_d, fD_i, wI_eq, wD_eq, wI_ne, wD_ne, fI_ne, fD_ne, wI_ns, wD_ns, fI_eq, fD_eq, fI_ns, fD_ns, mD_i, cpD_i]
    exact iv.2.1
  · simp (disch := omega) only [wI_d, wD_i, fI_d, fD_i, wI_eq, wD_eq, wI_ne, wD_ne, fI_ne, fD_ne, wI_ns, wD_ns, fI_eq, fD_eq, fI_ns, fD_ns, mD_i, cpD_i]
    exact iv.2.2.1
  · intro k hk
    by_cases q : 24 * t + j ≤ k ∧ k < 24 * t + j + n
    · simp (disch := omega) only [wI_d, wD_i, fI_d, fD_i, wI_eq, wD_eq, wI_ne, wD_ne, fI_ne, fD_ne, wI_ns, wD_ns, fI_eq, fD_eq, fI_ns, fD_ns, mD_eq, mD_ne, cpD_d]
      exact iv.2.2.2.1 _ (by omega)
    · simp (disch := omega) only [wI_d, wD_i, fI_d, fD_i, wI_eq, wD_eq, wI_ne, wD_ne, fI_ne, fD_ne, wI_ns, wD_ns, fI_eq, fD_eq, fI_ns, fD_ns, mD_ns, mD_ne, cpD_d]
      exact iv.2.2.2.1 k hk
  all_goals first | (simp (disch := omega) only [wI_d, wD_i, fI_d, fD_i, wI_eq, wD_eq, wI_ne, wD_ne, fI_ne, fD_ne, wI_ns, wD_ns, fI_eq, fD_eq, fI_ns, fD_ns, mD_i, cpD_i]; done) | (intro c h1 h2; simp (disch := omega) only [wI_d, wD_i, fI_d, fD_i, wI_eq, wD_eq, wI_ne, wD_ne, fI_ne, fD_ne, wI_ns, wD_ns, fI_eq, fD_eq, fI_ns, fD_ns, mD_i, cpD_i]; done)
