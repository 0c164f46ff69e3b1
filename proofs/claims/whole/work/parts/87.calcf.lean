/-! ===== what an item computes in floats ===== -/
theorem Sf_160 {a : UInt32} {s : Bool} {n : Nat} (h : Sf a s n) (hn : n ≤ 2 ^ 182) : a.toNat % 2 ^ 31 < 161 * 2 ^ 23 := by
  have := Sf_le h (K := 160) (by decide)
  have : a.toNat % 2 ^ 31 ≤ 160 * 2 ^ 23 := by rw [this]; exact hn
  omega
theorem f0_v : Sf FP.fconst0 false 0 := ⟨0, _, FP.Core.val32_zero, FP.Core.zero_fits FP.Core.good_b32 false, by unfold FP.Core.inUnits; rw [Nat.zero_mul]⟩
/-- a float as x has it: nothing is +0 -/
theorem fx_v {l : UInt64} {s : Bool} {n : Nat} (h : Sf (FP.d2f l) s n) : Ze (FP.d2f l) (FP.d2f (if n = 0 then FP.dconst0 else FP.f2d (FP.d2f l))) ∧ Sf (FP.d2f (if n = 0 then FP.dconst0 else FP.f2d (FP.d2f l))) (s && !decide (n = 0)) n := by
  have e0 : FP.d2f FP.dconst0 = FP.fconst0 := by decide +kernel
  by_cases c : n = 0
  · subst c
    rw [if_pos rfl, e0, show (s && !decide ((0 : Nat) = 0)) = false by cases s <;> rfl]
    exact ⟨⟨s, false, 0, h, f0_v, fun z => absurd rfl z⟩, f0_v⟩
  · rw [if_neg c, decide_eq_false c, Bool.not_false, Bool.and_true]
    have hn : FP.Core.fIsNaN (FP.d2f l) = false := (Sf_fin h).notNaN
    have e : FP.d2f (FP.f2d (FP.d2f l)) = FP.d2f l := by
      have f2 := f2d_v h
      have hn2 : FP.Core.dIsNaN (FP.f2d (FP.d2f l)) = false := (Sv_fin f2).notNaN
      rw [FP.d2f_core hn2, FP.f2d_core hn]
      exact FP.Core.d2f_f2d (Sd_nn h)
    rw [e]
    exact ⟨Ze_r h, h⟩
/-- the remainder by 1024, of a float -/
theorem rem1024f {a a' : UInt32} (z : Ze a a') : ∃ t, (XN_calculate_B138 (FP.f2d a') = some t ∧ nd (FP.f2d a') = true) ∧ nf a = true ∧ nf a' = true ∧ nf (FP.frem a 1149239296) = true ∧ nd (FP.f2d (FP.frem a 1149239296)) = true ∧ YM_zeroed (FP.f2d (FP.frem a 1149239296)) = some t ∧ okc t := by
  obtain ⟨s, t, n, h1, h2, h3⟩ := z
  have r := frem_v h1 f1024 (Nat.two_pow_pos _)
  have r2 := f2d_v r
  have d' := f2d_v h2
  have d := f2d_v h1
  have e1084 : (2 : Nat) ^ 1084 = 2 ^ 159 * 2 ^ 925 := by rw [← Nat.pow_add]
  have big : n % 2 ^ 159 * 2 ^ 925 ≤ 2 ^ 1107 := by
    refine Nat.le_trans (Nat.mul_le_mul_right _ (Nat.le_of_lt (Nat.mod_lt _ (Nat.two_pow_pos _)))) ?_
    rw [← Nat.pow_add]
    exact Nat.pow_le_pow_right (by decide) (by decide)
  refine ⟨if n % 2 ^ 159 * 2 ^ 925 = 0 then FP.dconst0 else FP.f2d (FP.frem a 1149239296), ⟨?_, Sv_nd d'⟩, Sf_nf h1, Sf_nf h2, Sf_nf r, Sv_nd r2, zeroed_e r2, okc_rem r2 big⟩
  unfold XN_calculate_B138
  have hb : n * 2 ^ 925 < 2 ^ 1290 := by
    have b := Sf_bits h1
    have ft := Sd_fits h1
    obtain ⟨c, q, e, ft, u⟩ := h1
    have := FP.Core.zmag_lt_top FP.Core.good_b32 ft
    rw [u, show FP.Core.b32.tails * 2 ^ (FP.Core.b32.exps - 2) = 2 ^ 277 by decide] at this
    refine Nat.lt_of_lt_of_le (Nat.mul_lt_mul_of_pos_right this (Nat.two_pow_pos _)) ?_
    rw [← Nat.pow_add]
    exact Nat.pow_le_pow_right (by decide) (by decide)
  obtain ⟨z', e, hz⟩ := remainder_e d' v1024 hb (Nat.two_pow_pos _)
  rw [e1084, Nat.mul_mod_mul_right] at e hz
  rw [e, b1_s]
  refine congrArg some ?_
  by_cases c : n % 2 ^ 159 * 2 ^ 925 = 0
  · rw [if_pos c, if_pos c]
  · rw [if_neg c, if_neg c]
    have nz : ¬ n = 0 := fun q => c (by rw [q, Nat.zero_mod, Nat.zero_mul])
    have ea := h3 nz
    subst ea
    have := (Sd_u FP.Core.good_b32 h1 h2).1
    subst this
    exact Sv_inj hz r2
theorem DO_2 (h : sd_H) (o : Int32) (l r : UInt64) : DO h (nI 2) o l r = gd (nf (FP.d2f l)) (gd (nf (FP.d2f r)) (b2 (YM_byFloats h o (FP.d2f l) (FP.d2f r)) (fun h13 t14 => gd (nd (FP.f2d t14)) (b1 (YM_zeroed (FP.f2d t14)) (fun t17 => some (h13, t17)))))) := rfl
theorem XN_calc_2 {k : Nat} (a b : UInt64) (hk : k ≤ 2) : XN_calculate (nI k) (nI 2) a b = gd (nf (FP.d2f a)) (gd (nf (FP.d2f b)) (b1 (XN_calculateFloats (nI k) (FP.d2f a) (FP.d2f b)) (fun t14 => gd (nd (FP.f2d t14)) (XN_calculate_B138 (FP.f2d t14))))) := by
  have kk : k = 0 ∨ k = 1 ∨ k = 2 := by omega
  rcases kk with rfl | rfl | rfl <;> rfl
theorem XN_calc_3 (a b : UInt64) : XN_calculate (nI 3) (nI 2) a b = (if (Op.cmpValue (FP.dcmp b FP.dconst0) .l) = 0 then some FP.dconst0 else b1 (XN_remainder a b) (fun t18 => some t18)) := rfl
/-- a sum, a difference, a product -/
theorem CA_f3 {k : Nat} (hk : k ≤ 2) {l r lx rx : UInt64} {S S' : UInt32} (e1 : XN_cast (nI 2) l = some lx) (e2 : XN_cast (nI 2) r = some rx) (n1 : nf (FP.d2f l) = true) (n2 : nf (FP.d2f r) = true) (n3 : nf (FP.d2f lx) = true) (n4 : nf (FP.d2f rx) = true)
    (hS : XN_calculateFloats (nI k) (FP.d2f lx) (FP.d2f rx) = gd (nf S') (some S')) (hM : ∀ h, YM_byFloats h (nI k) (FP.d2f l) (FP.d2f r) = gd (nf S) (gd (nf (FP.frem S 1149239296)) (some (h, FP.frem S 1149239296)))) (z : Ze S S') : CA k 2 l r := by
  obtain ⟨t, x1, x2, x3, x4, x5, x6, x7⟩ := rem1024f z
  obtain ⟨y1, y2⟩ := x1
  refine CA_easy (by omega) e1 e2 (t := t) ?_ x7 (fun h => ?_)
  · rw [XN_calc_2 _ _ hk, n3, gd_t, n4, gd_t, hS, x3, gd_t, b1_s, y2, gd_t, y1]
  · rw [DO_2, n1, gd_t, n2, gd_t, hM, x2, gd_t, x4, gd_t, b2_s, x5, gd_t, x6, b1_s]
theorem signed_925 (s : Bool) (n : Nat) : FP.Core.signed (s && !decide (n = 0)) (n * 2 ^ 925) = FP.Core.signed s n * ((2 ^ 925 : Nat) : Int) := by
  rw [FP.Core.signed_mul]
  by_cases c : n = 0
  · rw [c, FP.Core.signed_zero, FP.Core.signed_zero]
  · rw [decide_eq_false c, Bool.not_false, Bool.and_true]
theorem lt_925 {a b : Int} : (a * ((2 ^ 925 : Nat) : Int) < b * ((2 ^ 925 : Nat) : Int)) = (a < b) := by
  have h : (0 : Int) < ((2 ^ 925 : Nat) : Int) := Int.ofNat_lt.mpr (Nat.two_pow_pos _)
  exact propext (Int.mul_lt_mul_right h)
theorem CA_flt {o : Nat} (ho : o ≤ 12) (hn : ¬ (6 ≤ o ∧ o ≤ 8 ∨ 11 ≤ o)) {l r : UInt64} (ol : okc l) (or : okc r) : CA o 2 l r := by
  obtain ⟨s, n, fl, ln, el, vl⟩ := fl_v ol
  obtain ⟨t, k, fr, lk, er, vr⟩ := fl_v or
  obtain ⟨zl, xl⟩ := fx_v fl
  obtain ⟨zr, xr⟩ := fx_v fr
  have okl : okc (if n = 0 then FP.dconst0 else FP.f2d (FP.d2f l)) := by
    obtain ⟨x, e, o'⟩ := castTo_ok (f := 2) (by omega) ol
    rw [show nI 2 = 2 from rfl, el] at e
    cases e
    exact o'
  have okr : okc (if k = 0 then FP.dconst0 else FP.f2d (FP.d2f r)) := by
    obtain ⟨x, e, o'⟩ := castTo_ok (f := 2) (by omega) or
    rw [show nI 2 = 2 from rfl, er] at e
    cases e
    exact o'
  have zdl : YM_zeroed (FP.f2d (FP.d2f l)) = some (if n = 0 then FP.dconst0 else FP.f2d (FP.d2f l)) := by
    rw [zeroed_e (f2d_v fl)]
    have z0 : (n * 2 ^ 925 = 0) = (n = 0) := propext ⟨fun q => (Nat.mul_eq_zero.mp q).resolve_right (Nat.ne_of_gt (Nat.two_pow_pos _)), fun q => by rw [q, Nat.zero_mul]⟩
    rw [itp z0]
  have zdr : YM_zeroed (FP.f2d (FP.d2f r)) = some (if k = 0 then FP.dconst0 else FP.f2d (FP.d2f r)) := by
    rw [zeroed_e (f2d_v fr)]
    have z0 : (k * 2 ^ 925 = 0) = (k = 0) := propext ⟨fun q => (Nat.mul_eq_zero.mp q).resolve_right (Nat.ne_of_gt (Nat.two_pow_pos _)), fun q => by rw [q, Nat.zero_mul]⟩
    rw [itp z0]
  have ndl := Sv_nd (f2d_v fl)
  have ndr := Sv_nd (f2d_v fr)
  have bl := Sf_160 fl ln
  have br := Sf_160 fr lk
  have cl : XN_cast (nI 2) l = some (if n = 0 then FP.dconst0 else FP.f2d (FP.d2f l)) := el
  have cr : XN_cast (nI 2) r = some (if k = 0 then FP.dconst0 else FP.f2d (FP.d2f r)) := er
  generalize (if n = 0 then FP.dconst0 else FP.f2d (FP.d2f l)) = lx at *
  generalize (if k = 0 then FP.dconst0 else FP.f2d (FP.d2f r)) = rx at *
  have nfl := Sf_nf fl
  have nfr := Sf_nf fr
  have cmpx : FP.dcmp lx rx = some (compare (FP.Core.signed s n * ((2 ^ 925 : Nat) : Int)) (FP.Core.signed t k * ((2 ^ 925 : Nat) : Int))) := by
    rw [Sv_cmp vl vr, signed_925, signed_925]
  have cmpm := Sf_cmp fl fr
  have eqv : FP.Core.signed s n = FP.Core.signed t k → lx = rx := fun e => okc_inj okl okr vl vr (by rw [signed_925, signed_925, e])
  have o8 : o = 0 ∨ o = 1 ∨ o = 2 ∨ o = 3 ∨ o = 4 ∨ o = 5 ∨ o = 9 ∨ o = 10 := by omega
  rcases o8 with rfl | rfl | rfl | rfl | rfl | rfl | rfl | rfl
  · exact CA_f3 (by omega) cl cr nfl nfr (Sf_nf xl) (Sf_nf xr) rfl (fun _ => rfl) (Ze_add zl zr (FP.Core.fin_of_lt32 (FP.Core.fadd_mag bl br (by decide)) (by decide)))
  · exact CA_f3 (by omega) cl cr nfl nfr (Sf_nf xl) (Sf_nf xr) rfl (fun _ => rfl) (Ze_sub zl zr (FP.Core.fin_of_lt32 (FP.Core.fsub_mag bl br (by decide)) (by decide)))
  · exact CA_f3 (by omega) cl cr nfl nfr (Sf_nf xl) (Sf_nf xr) rfl (fun _ => rfl) (Ze_mul zl zr (FP.Core.fin_of_lt32 (FP.Core.fmul_mag bl br (by decide) (by decide)) (by decide)))
  · have z0 : (Op.cmpValue (FP.dcmp rx FP.dconst0) .l = 0) = (k = 0) := by
      rw [Sv_cmp vr dc0_v, cv_eq, show FP.Core.signed false 0 = 0 from rfl]
      refine propext ((FP.Core.signed_eq_zero _ _).trans ⟨fun q => (Nat.mul_eq_zero.mp q).resolve_right (Nat.ne_of_gt (Nat.two_pow_pos _)), fun q => by rw [q, Nat.zero_mul]⟩)
    have z1 : (Op.cmpValue (FP.fcmp (FP.d2f r) FP.fconst0) .l = 0) = (k = 0) := by
      rw [Sf_cmp fr f0_v, cv_eq, show FP.Core.signed false 0 = 0 from rfl]
      exact propext (FP.Core.signed_eq_zero _ _)
    have m3 : ∀ h, YM_byFloats h (nI 3) (FP.d2f l) (FP.d2f r) = if (Op.cmpValue (FP.fcmp (FP.d2f r) FP.fconst0) .l) = 0 then some (h, FP.fconst0) else gd (nf (FP.frem (FP.d2f l) (FP.d2f r))) (some (h, FP.frem (FP.d2f l) (FP.d2f r))) := fun _ => rfl
    by_cases c : k = 0
    · refine CA_easy (by decide) cl cr (t := FP.dconst0) ?_ okc_0 (fun h => ?_)
      · rw [XN_calc_3, itp z0, if_pos c]
      · rw [DO_2, nfl, gd_t, nfr, gd_t, m3, itp z1, if_pos c, b2_s, show FP.f2d FP.fconst0 = FP.dconst0 by decide +kernel, Sv_nd dc0_v, gd_t, okc_zeroed okc_0, b1_s]
    · have fm := frem_v fl fr (by omega)
      have fd := f2d_v fm
      obtain ⟨z', e, hz⟩ := remainder_e vl vr (Nat.lt_of_le_of_lt (pow_le_f ln) (Nat.pow_lt_pow_right (by decide) (by decide))) (Nat.mul_pos (by omega) (Nat.two_pow_pos _))
      rw [Nat.mul_mod_mul_right] at e hz
      have big : n % k * 2 ^ 925 ≤ 2 ^ 1107 := pow_le_f (Nat.le_trans (Nat.mod_le _ _) ln)
      have same : (if n % k * 2 ^ 925 = 0 then FP.dconst0 else z') = (if n % k * 2 ^ 925 = 0 then FP.dconst0 else FP.f2d (FP.frem (FP.d2f l) (FP.d2f r))) := by
        by_cases q : n % k * 2 ^ 925 = 0
        · rw [if_pos q, if_pos q]
        · have nz : ¬ n = 0 := fun y => q (by rw [y, Nat.zero_mod, Nat.zero_mul])
          rw [decide_eq_false nz, Bool.not_false, Bool.and_true] at hz
          rw [if_neg q, if_neg q]
          exact Sv_inj hz fd
      refine CA_easy (by decide) cl cr (t := if n % k * 2 ^ 925 = 0 then FP.dconst0 else FP.f2d (FP.frem (FP.d2f l) (FP.d2f r))) ?_ (okc_rem fd big) (fun h => ?_)
      · rw [XN_calc_3, itp z0, if_neg c, e, b1_s, same]
      · rw [DO_2, nfl, gd_t, nfr, gd_t, m3, itp z1, if_neg c, Sf_nf fm, gd_t, b2_s, Sv_nd fd, gd_t, zeroed_e fd, b1_s]
  · have m4 : ∀ h, YM_byFloats h (nI 4) (FP.d2f l) (FP.d2f r) = if (Op.cmpValue (FP.fcmp (FP.d2f l) (FP.d2f r)) .l) ≤ 0 then some (h, FP.d2f r) else some (h, FP.d2f l) := fun _ => rfl
    refine CA_easy (by decide) cl cr (t := if FP.Core.signed s n < FP.Core.signed t k then rx else lx) ?_ (by split; exact okr; exact okl) (fun h => ?_)
    · rw [XN_calc_4, cmpx, itp cv_lt, itp lt_925]
      split <;> rfl
    · rw [DO_2, nfl, gd_t, nfr, gd_t, m4, cmpm, itp cv_le]
      by_cases c : FP.Core.signed s n < FP.Core.signed t k
      · rw [if_pos c, if_pos (by omega), b2_s, ndr, gd_t, zdr, b1_s]
      · rw [if_neg c]
        by_cases d : FP.Core.signed s n ≤ FP.Core.signed t k
        · rw [if_pos d, b2_s, ndr, gd_t, zdr, b1_s, eqv (by omega)]
        · rw [if_neg d, b2_s, ndl, gd_t, zdl, b1_s]
  · have m5 : ∀ h, YM_byFloats h (nI 5) (FP.d2f l) (FP.d2f r) = if 0 ≤ (Op.cmpValue (FP.fcmp (FP.d2f l) (FP.d2f r)) .g) then some (h, FP.d2f r) else some (h, FP.d2f l) := fun _ => rfl
    refine CA_easy (by decide) cl cr (t := if FP.Core.signed t k < FP.Core.signed s n then rx else lx) ?_ (by split; exact okr; exact okl) (fun h => ?_)
    · rw [XN_calc_5, cmpx, itp cv_gt, itp lt_925]
      split <;> rfl
    · rw [DO_2, nfl, gd_t, nfr, gd_t, m5, cmpm, itp cv_ge]
      by_cases c : FP.Core.signed t k < FP.Core.signed s n
      · rw [if_pos c, if_pos (by omega), b2_s, ndr, gd_t, zdr, b1_s]
      · rw [if_neg c]
        by_cases d : FP.Core.signed t k ≤ FP.Core.signed s n
        · rw [if_pos d, b2_s, ndr, gd_t, zdr, b1_s, eqv (by omega)]
        · rw [if_neg d, b2_s, ndl, gd_t, zdl, b1_s]
  · have m9 : ∀ h, YM_byFloats h (nI 9) (FP.d2f l) (FP.d2f r) = some (h, FP.d2f l) := fun _ => rfl
    refine CA_easy (by decide) cl cr (t := lx) rfl okl (fun h => ?_)
    rw [DO_2, nfl, gd_t, nfr, gd_t, m9, b2_s, ndl, gd_t, zdl, b1_s]
  · have m10 : ∀ h, YM_byFloats h (nI 10) (FP.d2f l) (FP.d2f r) = if 0 < (Op.cmpValue (FP.fcmp (FP.d2f l) (FP.d2f r)) .g) then YM_byFloats_B134 h (FP.d2f l) 0 else YM_byFloats_B134 h (FP.d2f l) 1 := fun _ => rfl
    refine ⟨lx, rx, cl, cr, false, decide (FP.Core.signed t k < FP.Core.signed s n), fun q => absurd q (by omega), fun _ => rfl, fun _ => ?_, fun q => absurd rfl q, lx, fun _ _ => ⟨rfl, okl⟩, fun h => ?_⟩
    · rw [cmpx, cv_le, decide_eq_false_iff_not]
      have := lt_925 (a := FP.Core.signed t k) (b := FP.Core.signed s n)
      rw [← this]
      exact propext ⟨fun q => by omega, fun q => by omega⟩
    · rw [if_pos rfl, DO_2, nfl, gd_t, nfr, gd_t, m10, cmpm, itp cv_gt]
      unfold YM_byFloats_B134
      by_cases c : FP.Core.signed t k < FP.Core.signed s n
      · rw [if_pos c, decide_eq_true c, sd_isB_0, gd_t, hb_s, b2_s, ndl, gd_t, zdl]
        rfl
      · rw [if_neg c, decide_eq_false c, sd_isB_1, gd_t, hb_s, b2_s, ndl, gd_t, zdl]
        rfl
/-- an item's computing, at the width that is asked -/
theorem CA_all {o w : Nat} (ho : o ≤ 12) (hw : w = 1 ∨ w = 2 ∨ w = 3) (hi : (6 ≤ o ∧ o ≤ 8 ∨ 11 ≤ o) → w = 1) {l r : UInt64} (ol : okc l) (or : okc r) : CA o w l r := by
  rcases hw with rfl | rfl | rfl
  · exact CA_int ho l r
  · exact CA_flt ho (fun q => absurd (hi q) (by decide)) ol or
  · exact CA_dbl ho (fun q => absurd (hi q) (by decide)) ol or
