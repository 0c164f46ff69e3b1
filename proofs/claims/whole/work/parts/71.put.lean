/-! ===== put ===== -/
theorem Sf_bits {a : UInt32} {s : Bool} {m : Nat} (h : Sf a s m) : FP.Core.unitsOf FP.Core.b32 (a.toNat % 2 ^ 31) = m := by
  have z1 := (Sd_zmag h).1
  have hn := (FP.Core.ne_nan32 a).mp (Sd_nn h)
  rw [← FP.Core.mag_toNat32, ← FP.Core.infBits_b32] at hn
  have := FP.Core.zmag_decode FP.Core.good_b32 hn
  rw [FP.Core.mag_toNat32] at this
  exact this.symm.trans z1
theorem Sf_lt {a : UInt32} {s : Bool} {m K : Nat} (h : Sf a s m) (hK : 1 ≤ K) : (a.toNat % 2 ^ 31 < K * 2 ^ 23) = (m < 2 ^ (23 + (K - 1))) := by
  have b := Sf_bits h
  have u := FP.Core.unitsOf_start (f := FP.Core.b32) hK
  rw [FP.Core.tails_b32] at u
  rw [← b, Nat.pow_add, ← u]
  exact propext FP.Core.unitsOf_lt_iff.symm
theorem v32_8 : FP.Core.val32 1090519040 = .fin false FP.Core.b32.tails (((3 : Nat) : Int) - ((FP.Core.b32.p : Int) - 1)) := by decide +kernel
theorem v64_8 : FP.Core.val64 4620693217682128896 = .fin false FP.Core.b64.tails (((3 : Nat) : Int) - ((FP.Core.b64.p : Int) - 1)) := by decide +kernel
theorem v64_2 : FP.Core.val64 4611686018427387904 = .fin false FP.Core.b64.tails (((1 : Nat) : Int) - ((FP.Core.b64.p : Int) - 1)) := by decide +kernel
theorem fdiv8 (v : Int32) : ∃ s n, Sf (FP.fdiv (FP.i2f v) 1090519040) s n ∧ n < 2 ^ 179 ∧ (n = 0 → s = false) := by
  by_cases c : v = 0
  · subst c
    rw [show FP.fdiv (FP.i2f 0) 1090519040 = FP.fconst0 by decide +kernel]
    exact ⟨false, 0, ⟨0, _, FP.Core.val32_zero, FP.Core.zero_fits FP.Core.good_b32 false, by unfold FP.Core.inUnits; rw [Nat.zero_mul]⟩, Nat.two_pow_pos _, fun _ => rfl⟩
  · obtain ⟨s, m, h⟩ := Sf_of (FP.Core.i2f_fin v)
    have b1 := FP.Core.i2f_big (FP.Core.int32_ne c)
    have b2 := FP.Core.i2f_mag v
    have l1 := Sf_lt h (K := 127) (by decide)
    have l2 := Sf_lt h (K := 160) (by decide)
    rw [show FP.Core.i2f v = FP.i2f v from rfl] at b1 b2
    have hm : 2 ^ 149 ≤ m := Nat.le_of_not_lt fun z => by
      have : (FP.i2f v).toNat % 2 ^ 31 < 127 * 2 ^ 23 := by rw [l1]; exact z
      omega
    have hm2 : m < 2 ^ 182 := by rw [l2] at b2; exact b2
    obtain ⟨d, n, hd, e⟩ := Sd_shr FP.Core.good_b32 (k := 3) h (Nat.le_trans (by decide) hm)
    rw [e] at h
    have q := Sd_div FP.Core.good_b32 h rfl hd
    refine ⟨s, n, ?_, ?_, fun z => ?_⟩
    · unfold Sf
      rw [show FP.fdiv (FP.i2f v) 1090519040 = FP.Core.fdiv (FP.i2f v) 1090519040 from rfl, FP.Core.val32_fdiv, v32_8, q]
      exact hd
    · rw [e, show (182 : Nat) = 179 + 3 from rfl, Nat.pow_add] at hm2
      exact Nat.lt_of_mul_lt_mul_right hm2
    · rw [z, Nat.zero_mul] at e
      have := Nat.two_pow_pos 149
      omega
theorem ddiv8 (v : Int32) : ∃ s n, Sv (FP.ddiv (FP.i2d v) 4620693217682128896) s n ∧ n ≤ 2 ^ 1107 ∧ (n = 0 → s = false) := by
  by_cases c : v = 0
  · subst c
    rw [show FP.ddiv (FP.i2d 0) 4620693217682128896 = FP.dconst0 by decide +kernel]
    exact ⟨false, 0, dc0_v, Nat.zero_le _, fun _ => rfl⟩
  · obtain ⟨m, h, em⟩ := i2d_v v
    have hx := FP.Core.int32_ne c
    have ha := FP.Core.int32_abs v
    have hm : 2 ^ 1074 ≤ m := by
      rw [em]
      exact Nat.le_mul_of_pos_left _ (by omega)
    have hm2 : m ≤ 2 ^ 1105 := by
      rw [em, show (1105 : Nat) = 31 + 1074 from rfl, Nat.pow_add]
      exact Nat.mul_le_mul_right _ ha
    obtain ⟨d, n, hd, e⟩ := Sd_shr FP.Core.good_b64 (k := 3) h (Nat.le_trans (Nat.pow_le_pow_right (by decide) (by decide)) hm)
    rw [e] at h
    have q := Sd_div FP.Core.good_b64 h rfl hd
    refine ⟨decide (v.toInt < 0), n, ?_, ?_, fun z => ?_⟩
    · unfold Sv
      rw [show FP.ddiv (FP.i2d v) 4620693217682128896 = FP.Core.ddiv (FP.i2d v) 4620693217682128896 from rfl, FP.Core.val64_ddiv, v64_8, q]
      exact hd
    · refine Nat.le_trans (Nat.le_mul_of_pos_right _ (Nat.two_pow_pos 3)) ?_
      rw [← e]
      exact Nat.le_trans hm2 (Nat.pow_le_pow_right (by decide) (by decide))
    · rw [z, Nat.zero_mul] at e
      have := Nat.two_pow_pos 1074
      omega
theorem told_e {f : Nat} (hf : f ≤ 4) (v : Int32) : ∃ x, XN_told (nI f) v = some x ∧ okc x ∧ ∀ (h : sd_H) (a b : Int32), YM_put_B68 h a (nI f) b v 0 = YM_put_B149 h x (24 * a + b) := by
  obtain ⟨s2, n2, h2, l2, z2⟩ := fdiv8 v
  obtain ⟨s3, n3, h3, l3, z3⟩ := ddiv8 v
  have f2 := f2d_v h2
  have ff : f = 0 ∨ f = 1 ∨ f = 2 ∨ f = 3 ∨ f = 4 := by omega
  rcases ff with rfl | rfl | rfl | rfl | rfl
  · exact ⟨_, rfl, okc_i2d _, fun _ _ _ => rfl⟩
  · exact ⟨_, rfl, okc_i2d _, fun _ _ _ => rfl⟩
  · refine ⟨FP.f2d (FP.fdiv (FP.i2f v) 1090519040), ?_, ?_, fun h a b => ?_⟩
    · show gd (nf (FP.fdiv (FP.i2f v) 1090519040)) _ = _
      rw [Sf_nf h2, gd_t, Sv_nd f2, gd_t]
    · rw [okc_iff]
      refine ⟨_, _, f2, ?_, fun z => ?_⟩
      · rw [show (1107 : Nat) = 182 + 925 from rfl, Nat.pow_add]
        exact Nat.mul_le_mul_right _ (Nat.le_trans (Nat.le_of_lt l2) (Nat.pow_le_pow_right (by decide) (by decide)))
      · rcases Nat.mul_eq_zero.mp z with z | z
        · exact z2 z
        · exact absurd z (Nat.ne_of_gt (Nat.two_pow_pos _))
    · show gd (nf (FP.fdiv (FP.i2f v) 1090519040)) _ = _
      rw [Sf_nf h2, gd_t, Sv_nd f2, gd_t]
  · refine ⟨FP.ddiv (FP.i2d v) 4620693217682128896, ?_, ?_, fun h a b => ?_⟩
    · show gd (nd (FP.ddiv (FP.i2d v) 4620693217682128896)) _ = _
      rw [Sv_nd h3, gd_t]
    · rw [okc_iff]
      exact ⟨_, _, h3, l3, z3⟩
    · show gd (nd (FP.ddiv (FP.i2d v) 4620693217682128896)) _ = _
      rw [Sv_nd h3, gd_t]
  · exact ⟨_, rfl, okc_i2d _, fun _ _ _ => rfl⟩
theorem E_put {h : sd_H} (i : Iv h h) (a b c d : Int32) : EE (XT_put h a b c d) (fun g => YM_put g a b c d) := by
  unfold XT_put YM_put
  simp only [XT_isRow_e, YM_isRow_e, XT_within_e, YM_in_e, b1_s]
  rcases wn_c a 5 (by omega) with hz | ⟨r, hr, rfl, h1⟩
  · rw [show (5 : Int32) = nI 5 from rfl, hz]
    exact EE_i (if_pos rfl) (if_pos rfl) i
  rw [show (5 : Int32) = nI 5 from rfl, h1]
  rcases wn_c b 4 (by omega) with hz | ⟨f, hf, rfl, h2⟩
  · rw [show (4 : Int32) = nI 4 from rfl, hz]
    exact EE_i ((if_neg z10.mp).trans (if_pos rfl)) ((if_neg z10.mp).trans (if_pos rfl)) i
  rw [show (4 : Int32) = nI 4 from rfl, h2]
  simp only [if_neg z10.mp, inB_n (show r < 6 by omega) (by omega), gd_t, nI_clamp (show r < 2 ^ 31 by omega)]
  rcases row_cs i (show r < 6 by omega) with ⟨e1, e2, e3⟩ | ⟨f', n, hf', hn, e1, e2, e3, e4, e5⟩
  · rw [XR_isMissing_t (by omega) e1]
    refine EE_i (h1 := wI h 0 16 1) (h2 := wI (wI h 0 16 1) 126 4 1) (r := -11) rfl ?_ (Iv_f 1 i)
    rw [if_pos (by simp (disch := omega) only [wI_d, wD_i, fI_d, fD_i, wI_eq, wD_eq, wI_ne, wD_ne, fI_ne, fD_ne, wI_ns, wD_ns, fI_eq, fD_eq, fI_ns, fD_ns]; exact e2)]
    rfl
  rw [XR_isMissing_f (by omega) hf' e1, b1_s, if_pos rfl, e1]
  by_cases ef : f' = f
  · subst ef
    rw [if_pos rfl]
    have out : (c < 0 ∨ nI n ≤ c) → EE (b1 (XR_hasCell h 1 (nI r) c) (fun t13 => if t13 = 0 then b2 (XT_found h 2) (fun h23 t24 => some (h23, t24)) else b1 (XN_told (nI f') d) (fun t16 => gd (sd_inB ((nI r * 24) + c) 144) (hb (wD h 4 (((nI r * 24) + c) : Int32).toNatClampNeg t16) (fun h18 => hb (wI h18 56 5 1) (fun h20 => some (h20, 1)))))))
        (fun g => if g.1 127 r = -1 then YM_put_B68 g (nI r) (nI f') c d 1 else if g.1 127 r = nI f' then (if wn c 0 (g.1 128 r - 1) = 0 then YM_put_B68 g (nI r) (nI f') c d 2 else YM_put_B68 g (nI r) (nI f') c d 0) else YM_put_B68 g (nI r) (nI f') c d 3) := fun o => by
      rw [XR_hasCell_f (by omega) e3 o]
      refine EE_i (h1 := wI h 0 16 2) (h2 := wI (wI h 0 16 2) 126 4 2) (r := -12) rfl ?_ (Iv_f 2 i)
      try dsimp only
      rw [show (wI h 0 16 2).1 127 r = nI f' by simp (disch := omega) only [wI_d, wD_i, fI_d, fD_i, wI_eq, wD_eq, wI_ne, wD_ne, fI_ne, fD_ne, wI_ns, wD_ns, fI_eq, fD_eq, fI_ns, fD_ns]; exact e2, show (wI h 0 16 2).1 128 r = nI n by simp (disch := omega) only [wI_d, wD_i, fI_d, fD_i, wI_eq, wD_eq, wI_ne, wD_ne, fI_ne, fD_ne, wI_ns, wD_ns, fI_eq, fD_eq, fI_ns, fD_ns]; exact e4, if_neg (nm1 (k := f') (by omega)), if_pos rfl, wn_out (by omega) o, if_pos rfl]
      rfl
    rcases pk_ix c (show n < 2 ^ 31 by omega) with o | o | ⟨j, hj, rfl⟩
    · exact out (Or.inl o)
    · exact out (Or.inr o)
    · obtain ⟨x, x1, x2, x3⟩ := told_e hf d
      have e24 : nI r * 24 + nI j = nI (24 * r + j) := by rw [lit 24, pk_mul, nI_add, Nat.mul_comm]
      have e24' : 24 * nI r + nI j = nI (24 * r + j) := by rw [lit 24, pk_mul, nI_add]
      rw [XR_hasCell_t (by omega) e3 hn hj, b1_s, if_neg z10.mp, x1, b1_s, e24, inB_n (by omega) (by omega), gd_t, nI_clamp (by omega), hb_s, hb_s]
      refine EE_i (h1 := wI (wD h 4 (24 * r + j) x) 56 5 1) (h2 := wD (wI (wD h 4 (24 * r + j) x) 56 5 1) 129 (24 * r + j) x) (r := 1) rfl ?_ (Iv_k i ?_ ?_ ?_ ?_ ?_ ?_ ?_ ?_ ?_ ?_ ?_ ?_ ?_ ?_ ?_ ?_ ?_ ?_ ?_ ?_ ?_ ?_ ?_ ?_ ?_ ?_ ?_ ?_ ?_ ?_ ?_ ?_ ?_ ?_)
      · try dsimp only
        rw [show (wI (wD h 4 (24 * r + j) x) 56 5 1).1 127 r = nI f' by simp (disch := omega) only [wI_d, wD_i, fI_d, fD_i, wI_eq, wD_eq, wI_ne, wD_ne, fI_ne, fD_ne, wI_ns, wD_ns, fI_eq, fD_eq, fI_ns, fD_ns]; exact e2, show (wI (wD h 4 (24 * r + j) x) 56 5 1).1 128 r = nI n by simp (disch := omega) only [wI_d, wD_i, fI_d, fD_i, wI_eq, wD_eq, wI_ne, wD_ne, fI_ne, fD_ne, wI_ns, wD_ns, fI_eq, fD_eq, fI_ns, fD_ns]; exact e4, if_neg (nm1 (k := f') (by omega)), if_pos rfl, wn_inn hj (by omega), if_neg z10.mp, x3, e24']
        unfold YM_put_B149
        rw [inB_n (by omega) (by omega), gd_t, nI_clamp (by omega), hb_s]
      · refine IR_s (r := r) i.1 (fun q hq hn => ?_) ?_
        · refine ⟨?_, ?_, ?_, ?_, fun j hj => ⟨?_, ?_⟩⟩ <;> simp (disch := omega) only [wI_d, wD_i, fI_d, fD_i, wI_eq, wD_eq, wI_ne, wD_ne, fI_ne, fD_ne, wI_ns, wD_ns, fI_eq, fD_eq, fI_ns, fD_ns]
        · simp (disch := omega) only [wI_d, wD_i, fI_d, fD_i, wI_eq, wD_eq, wI_ne, wD_ne, fI_ne, fD_ne, wI_ns, wD_ns, fI_eq, fD_eq, fI_ns, fD_ns]
          refine ⟨e1.trans e2.symm, Or.inr ⟨⟨f', hf', e2⟩, e3.trans e4.symm, fun k hk => ?_⟩⟩
          by_cases ek : k = j
          · subst ek
            simp (disch := omega) only [wI_d, wD_i, fI_d, fD_i, wI_eq, wD_eq, wI_ne, wD_ne, fI_ne, fD_ne, wI_ns, wD_ns, fI_eq, fD_eq, fI_ns, fD_ns]
          · simp (disch := omega) only [wI_d, wD_i, fI_d, fD_i, wI_eq, wD_eq, wI_ne, wD_ne, fI_ne, fD_ne, wI_ns, wD_ns, fI_eq, fD_eq, fI_ns, fD_ns]
            exact (e5 k hk).1
      · simp (disch := omega) only [wI_d, wD_i, fI_d, fD_i, wI_eq, wD_eq, wI_ne, wD_ne, fI_ne, fD_ne, wI_ns, wD_ns, fI_eq, fD_eq, fI_ns, fD_ns]
        exact i.2.1
      · simp (disch := omega) only [wI_d, wD_i, fI_d, fD_i, wI_eq, wD_eq, wI_ne, wD_ne, fI_ne, fD_ne, wI_ns, wD_ns, fI_eq, fD_eq, fI_ns, fD_ns]
        exact i.2.2.1
      · intro k hk
        by_cases ek : k = 24 * r + j
        · subst ek
          simp (disch := omega) only [wI_d, wD_i, fI_d, fD_i, wI_eq, wD_eq, wI_ne, wD_ne, fI_ne, fD_ne, wI_ns, wD_ns, fI_eq, fD_eq, fI_ns, fD_ns]
          exact x2
        · simp (disch := omega) only [wI_d, wD_i, fI_d, fD_i, wI_eq, wD_eq, wI_ne, wD_ne, fI_ne, fD_ne, wI_ns, wD_ns, fI_eq, fD_eq, fI_ns, fD_ns]
          exact i.2.2.2.1 k hk
      all_goals first | (simp (disch := omega) only [wI_d, wD_i, fI_d, fD_i, wI_eq, wD_eq, wI_ne, wD_ne, fI_ne, fD_ne, wI_ns, wD_ns, fI_eq, fD_eq, fI_ns, fD_ns]; done) | (intro c h1 h2; simp (disch := omega) only [wI_d, wD_i, fI_d, fD_i, wI_eq, wD_eq, wI_ne, wD_ne, fI_ne, fD_ne, wI_ns, wD_ns, fI_eq, fD_eq, fI_ns, fD_ns]; done) | (intro c h1; simp (disch := omega) only [wI_d, wD_i, fI_d, fD_i, wI_eq, wD_eq, wI_ne, wD_ne, fI_ne, fD_ne, wI_ns, wD_ns, fI_eq, fD_eq, fI_ns, fD_ns]; done)
  · have nf : ¬ nI f' = nI f := fun z => ef ((nI_eq (by omega) (by omega)).mp z)
    rw [if_neg nf]
    refine EE_i (h1 := wI h 0 16 3) (h2 := wI (wI h 0 16 3) 126 4 3) (r := -13) rfl ?_ (Iv_f 3 i)
    try dsimp only
    rw [show (wI h 0 16 3).1 127 r = nI f' by simp (disch := omega) only [wI_d, wD_i, fI_d, fD_i, wI_eq, wD_eq, wI_ne, wD_ne, fI_ne, fD_ne, wI_ns, wD_ns, fI_eq, fD_eq, fI_ns, fD_ns]; exact e2, if_neg (nm1 (k := f') (by omega)), if_neg nf]
    rfl
