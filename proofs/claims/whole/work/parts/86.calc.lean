/-! ===== what an item computes ===== -/
/-- the model's computing, at a width -/
def DO (h : sd_H) (w o : Int32) (l r : UInt64) : Option (sd_H × UInt64) :=
  (if w = 1 then b2 (YM_byInts h o (FP.d2i l) (FP.d2i r)) (fun h8 t9 => some (h8, (FP.i2d t9))) else (if w = 2 then gd (nf (FP.d2f l)) (gd (nf (FP.d2f r)) (b2 (YM_byFloats h o (FP.d2f l) (FP.d2f r)) (fun h13 t14 => gd (nd (FP.f2d t14)) (b1 (YM_zeroed (FP.f2d t14)) (fun t17 => some (h13, t17)))))) else (b2 (YM_byDoubles h o l r) (fun h19 t20 => b1 (YM_zeroed t20) (fun t22 => some (h19, t22))))))
/-- what comes of it: not over; whether it is taken; the value -/
def CA (o w : Nat) (l r : UInt64) : Prop := ∃ lx rx, XN_cast (nI w) l = some lx ∧ XN_cast (nI w) r = some rx ∧
  ∃ ov tk : Bool, (11 ≤ o → XN_isOver (nI o) (FP.d2i lx) (FP.d2i rx) = some (bi ov)) ∧ (o < 11 → ov = false) ∧
    (o = 10 → (Op.cmpValue (FP.dcmp lx rx) .l ≤ 0) = (tk = false)) ∧ (¬ o = 10 → tk = true) ∧
    ∃ t, (ov = false → tk = true → XN_calculate (nI o) (nI w) lx rx = some t ∧ okc t) ∧
      ∀ h, DO h (nI w) (nI o) l r = some (if o = 10 then wI h 126 39 (bi (!tk)) else if 11 ≤ o then wI h 126 38 (if ov = true then 2 else -1) else h, t)
theorem cmp_i2d (x y : Int32) : FP.dcmp (FP.i2d x) (FP.i2d y) = some (compare x.toInt y.toInt) := FP.Core.dcmp_int (FP.Core.i2d_int x) (FP.Core.i2d_int y)
theorem isOver_e (s : Int64) : XN_isOver_B19 s = some (bi (!decide (-2147483648 ≤ s.toInt ∧ s.toInt ≤ 2147483647))) ∧ YM_isInt s = some (bi (decide (-2147483648 ≤ s.toInt ∧ s.toInt ≤ 2147483647))) := by
  constructor
  · unfold XN_isOver_B19
    have e : (lg_cmp s (Int32.toInt64 (Int64.toInt32 s)) = 0) = (-2147483648 ≤ s.toInt ∧ s.toInt ≤ 2147483647) := by
      rw [propext (lg_cmp_eq _ _), ← Int64.toInt_inj, Int32.toInt_toInt64, Int64.toInt_toInt32]
      have := Int.bmod_lt (x := s.toInt) (m := 2 ^ 32) (by decide)
      have := Int.le_bmod (x := s.toInt) (m := 2 ^ 32) (by decide)
      refine propext ⟨fun q => by omega, fun q => ?_⟩
      exact (Int.bmod_eq_of_le (by omega) (by omega)).symm
    rw [itp e]
    by_cases c : -2147483648 ≤ s.toInt ∧ s.toInt ≤ 2147483647
    · rw [if_pos c, decide_eq_true c]
      rfl
    · rw [if_neg c, decide_eq_false c]
      rfl
  · unfold YM_isInt
    have a1 : (lg_cmp s (-2147483648) < 0) = (s.toInt < -2147483648) := by
      rw [propext (lg_cmp_lt _ _), Int64.lt_iff_toInt_lt]
      rfl
    have a2 : (0 < lg_cmp s 2147483647) = (2147483647 < s.toInt) := by
      rw [propext (lg_cmp_gt _ _), Int64.lt_iff_toInt_lt]
      rfl
    rw [itp a1, itp a2]
    by_cases c : s.toInt < -2147483648
    · rw [if_pos c, decide_eq_false (by omega)]
      rfl
    · rw [if_neg c]
      by_cases d : 2147483647 < s.toInt
      · rw [if_pos d, decide_eq_false (by omega)]
        rfl
      · rw [if_neg d, decide_eq_true (by omega)]
        rfl
theorem d2i_i2d_e (x : Int32) : FP.d2i (FP.i2d x) = x := FP.Core.d2i_i2d x
theorem DO_1 (h : sd_H) (o : Int32) (l r : UInt64) : DO h (nI 1) o l r = b2 (YM_byInts h o (FP.d2i l) (FP.d2i r)) (fun h8 t9 => some (h8, FP.i2d t9)) := by
  unfold DO
  exact if_pos rfl
theorem XN_calc_1 {k : Nat} (a b : UInt64) (hk : k ≤ 3 ∨ 6 ≤ k ∧ k ≤ 8 ∨ k = 11 ∨ k = 12) : XN_calculate (nI k) (nI 1) a b = b1 (XN_calculateInts (nI k) (FP.d2i a) (FP.d2i b)) (fun t => some (FP.i2d t)) := by
  have kk : k = 0 ∨ k = 1 ∨ k = 2 ∨ k = 3 ∨ k = 6 ∨ k = 7 ∨ k = 8 ∨ k = 11 ∨ k = 12 := by omega
  rcases kk with rfl | rfl | rfl | rfl | rfl | rfl | rfl | rfl | rfl <;> rfl
theorem XN_cast_1 (l : UInt64) : XN_cast (nI 1) l = some (FP.i2d (FP.d2i l)) := rfl
/-- ints, what is neither picked nor over -/
theorem CA_i {o : Nat} (ho : o < 10) {l r : UInt64} {x y : Int32} (ex : FP.d2i l = x) (ey : FP.d2i r = y) (t : Int32) (h1 : XN_calculate (nI o) (nI 1) (FP.i2d x) (FP.i2d y) = some (FP.i2d t)) (h2 : ∀ h, YM_byInts h (nI o) x y = some (h, t)) : CA o 1 l r := by
  refine ⟨FP.i2d x, FP.i2d y, by rw [← ex, XN_cast_1], by rw [← ey, XN_cast_1], false, true, fun q => absurd q (by omega), fun _ => rfl, fun q => absurd q (by omega), fun _ => rfl, FP.i2d t, fun _ _ => ⟨h1, okc_i2d t⟩, fun h => ?_⟩
  rw [DO_1, ex, ey, h2, b2_s, if_neg (by omega), if_neg (by omega)]
theorem byInts_11 (h : sd_H) (x y : Int32) : YM_byInts h (nI 11) x y = b1 (YM_isInt (Int32.toInt64 x + Int32.toInt64 y)) (fun t12 => if t12 = 0 then YM_byInts_B170 h (Int32.toInt64 x + Int32.toInt64 y) 2 else YM_byInts_B170 h (Int32.toInt64 x + Int32.toInt64 y) (-1)) := rfl
theorem byInts_12 (h : sd_H) (x y : Int32) : YM_byInts h (nI 12) x y = b1 (YM_isInt (Int32.toInt64 x * Int32.toInt64 y)) (fun t12 => if t12 = 0 then YM_byInts_B170 h (Int32.toInt64 x * Int32.toInt64 y) 2 else YM_byInts_B170 h (Int32.toInt64 x * Int32.toInt64 y) (-1)) := rfl
theorem B170_e (h : sd_H) (s : Int64) (b : Bool) : b2 (b1 (some (bi b)) (fun t12 => if t12 = 0 then YM_byInts_B170 h s 2 else YM_byInts_B170 h s (-1))) (fun h8 t9 => some (h8, FP.i2d t9)) = some (wI h 126 38 (if (!b) = true then 2 else -1), FP.i2d (Int64.toInt32 s)) := by
  cases b <;> rfl
theorem CA_11 (l r : UInt64) : CA 11 1 l r := by
  obtain ⟨x, ex⟩ : ∃ x, FP.d2i l = x := ⟨_, rfl⟩
  obtain ⟨y, ey⟩ : ∃ y, FP.d2i r = y := ⟨_, rfl⟩
  have s0 : Int64.toInt32 (Int32.toInt64 x + Int32.toInt64 y) = x + y := by
    rw [Int64.toInt32_add, Int32.toInt32_toInt64, Int32.toInt32_toInt64]
  obtain ⟨i1, i2⟩ := isOver_e (Int32.toInt64 x + Int32.toInt64 y)
  generalize decide (-2147483648 ≤ (Int32.toInt64 x + Int32.toInt64 y).toInt ∧ (Int32.toInt64 x + Int32.toInt64 y).toInt ≤ 2147483647) = b at i1 i2
  refine ⟨FP.i2d x, FP.i2d y, by rw [← ex, XN_cast_1], by rw [← ey, XN_cast_1], !b, true, fun _ => ?_, fun q => absurd q (by omega), fun q => absurd q (by omega), fun _ => rfl, FP.i2d (x + y), fun _ _ => ⟨?_, okc_i2d _⟩, fun h => ?_⟩
  · rw [d2i_i2d_e, d2i_i2d_e]
    exact i1
  · rw [XN_calc_1 _ _ (by omega), d2i_i2d_e, d2i_i2d_e]
    rfl
  · rw [DO_1, ex, ey, byInts_11, i2, B170_e, s0]
    rfl
theorem CA_12 (l r : UInt64) : CA 12 1 l r := by
  obtain ⟨x, ex⟩ : ∃ x, FP.d2i l = x := ⟨_, rfl⟩
  obtain ⟨y, ey⟩ : ∃ y, FP.d2i r = y := ⟨_, rfl⟩
  have s0 : Int64.toInt32 (Int32.toInt64 x * Int32.toInt64 y) = x * y := by
    rw [Int64.toInt32_mul, Int32.toInt32_toInt64, Int32.toInt32_toInt64]
  obtain ⟨i1, i2⟩ := isOver_e (Int32.toInt64 x * Int32.toInt64 y)
  generalize decide (-2147483648 ≤ (Int32.toInt64 x * Int32.toInt64 y).toInt ∧ (Int32.toInt64 x * Int32.toInt64 y).toInt ≤ 2147483647) = b at i1 i2
  refine ⟨FP.i2d x, FP.i2d y, by rw [← ex, XN_cast_1], by rw [← ey, XN_cast_1], !b, true, fun _ => ?_, fun q => absurd q (by omega), fun q => absurd q (by omega), fun _ => rfl, FP.i2d (x * y), fun _ _ => ⟨?_, okc_i2d _⟩, fun h => ?_⟩
  · rw [d2i_i2d_e, d2i_i2d_e]
    exact i1
  · rw [XN_calc_1 _ _ (by omega), d2i_i2d_e, d2i_i2d_e]
    rfl
  · rw [DO_1, ex, ey, byInts_12, i2, B170_e, s0]
    rfl
theorem CA_10 (l r : UInt64) : CA 10 1 l r := by
  obtain ⟨x, ex⟩ : ∃ x, FP.d2i l = x := ⟨_, rfl⟩
  obtain ⟨y, ey⟩ : ∃ y, FP.d2i r = y := ⟨_, rfl⟩
  refine ⟨FP.i2d x, FP.i2d y, by rw [← ex, XN_cast_1], by rw [← ey, XN_cast_1], false, decide (y < x), fun q => absurd q (by omega), fun _ => rfl, fun _ => ?_, fun q => absurd rfl q, FP.i2d x, fun _ _ => ⟨rfl, okc_i2d x⟩, fun h => ?_⟩
  · rw [cmp_i2d, cv_le, decide_eq_false_iff_not, Int32.lt_iff_toInt_lt]
    exact propext ⟨fun q => by omega, fun q => by omega⟩
  · rw [if_pos rfl, DO_1, ex, ey]
    show b2 (if y < x then YM_byInts_B151 h x 0 else YM_byInts_B151 h x 1) _ = _
    by_cases c : y < x
    · rw [if_pos c, decide_eq_true c]
      rfl
    · rw [if_neg c, decide_eq_false c]
      rfl
theorem CA_3 (l r : UInt64) : CA 3 1 l r := by
  obtain ⟨x, ex⟩ : ∃ x, FP.d2i l = x := ⟨_, rfl⟩
  obtain ⟨y, ey⟩ : ∃ y, FP.d2i r = y := ⟨_, rfl⟩
  have c := XN_calc_1 (k := 3) (FP.i2d x) (FP.i2d y) (by omega)
  rw [d2i_i2d_e, d2i_i2d_e] at c
  by_cases z : y = 0
  · refine CA_i (by omega) ex ey 0 (c.trans ?_) (fun h => ?_)
    · show b1 (if y = 0 then some 0 else _) _ = _
      rw [if_pos z]
      rfl
    · show (if y = 0 then some (h, (0 : Int32)) else _) = _
      rw [if_pos z]
  · refine CA_i (by omega) ex ey (x - x / y * y) (c.trans ?_) (fun h => ?_)
    · show b1 (if y = 0 then some 0 else gd (nz y) (some (x - x / y * y))) _ = _
      rw [if_neg z, show nz y = true from decide_eq_true z]
      rfl
    · show (if y = 0 then some (h, (0 : Int32)) else gd (nz y) (some (h, x - x / y * y))) = _
      rw [if_neg z, show nz y = true from decide_eq_true z]
      rfl
theorem XN_calc_4 (w : Int32) (a b : UInt64) : XN_calculate (nI 4) w a b = if (Op.cmpValue (FP.dcmp a b) .l) < 0 then some b else some a := rfl
theorem XN_calc_5 (w : Int32) (a b : UInt64) : XN_calculate (nI 5) w a b = if 0 < (Op.cmpValue (FP.dcmp a b) .g) then some b else some a := rfl
theorem CA_45 (l r : UInt64) : CA 4 1 l r ∧ CA 5 1 l r := by
  obtain ⟨x, ex⟩ : ∃ x, FP.d2i l = x := ⟨_, rfl⟩
  obtain ⟨y, ey⟩ : ∃ y, FP.d2i r = y := ⟨_, rfl⟩
  refine ⟨CA_i (by omega) ex ey (if x ≤ y then y else x) ?_ (fun h => ?_), CA_i (by omega) ex ey (if y ≤ x then y else x) ?_ (fun h => ?_)⟩
  · rw [XN_calc_4, cmp_i2d, itp cv_lt]
    by_cases c : x.toInt < y.toInt
    · rw [if_pos c, if_pos (by rw [Int32.le_iff_toInt_le]; omega)]
    · rw [if_neg c]
      by_cases d : x ≤ y
      · rw [Int32.le_iff_toInt_le] at d
        rw [show x = y from Int32.toInt_inj.mp (by omega)]
        split <;> rfl
      · rw [if_neg d]
  · show (if x ≤ y then some (h, y) else some (h, x)) = _
    split <;> rfl
  · rw [XN_calc_5, cmp_i2d, itp cv_gt]
    by_cases c : y.toInt < x.toInt
    · rw [if_pos c, if_pos (by rw [Int32.le_iff_toInt_le]; omega)]
    · rw [if_neg c]
      by_cases d : y ≤ x
      · rw [Int32.le_iff_toInt_le] at d
        rw [show x = y from Int32.toInt_inj.mp (by omega)]
        split <;> rfl
      · rw [if_neg d]
  · show (if y ≤ x then some (h, y) else some (h, x)) = _
    split <;> rfl
theorem CA_int {o : Nat} (ho : o ≤ 12) (l r : UInt64) : CA o 1 l r := by
  obtain ⟨x, ex⟩ : ∃ x, FP.d2i l = x := ⟨_, rfl⟩
  obtain ⟨y, ey⟩ : ∃ y, FP.d2i r = y := ⟨_, rfl⟩
  have calc0 : ∀ k, k ≤ 3 ∨ 6 ≤ k ∧ k ≤ 8 ∨ k = 11 ∨ k = 12 → XN_calculate (nI k) (nI 1) (FP.i2d x) (FP.i2d y) = b1 (XN_calculateInts (nI k) x y) (fun t => some (FP.i2d t)) := fun k hk => by
    have := XN_calc_1 (FP.i2d x) (FP.i2d y) hk
    rw [d2i_i2d_e, d2i_i2d_e] at this
    exact this
  have o13 : o = 0 ∨ o = 1 ∨ o = 2 ∨ o = 3 ∨ o = 4 ∨ o = 5 ∨ o = 6 ∨ o = 7 ∨ o = 8 ∨ o = 9 ∨ o = 10 ∨ o = 11 ∨ o = 12 := by omega
  rcases o13 with rfl | rfl | rfl | rfl | rfl | rfl | rfl | rfl | rfl | rfl | rfl | rfl | rfl
  · exact CA_i (by omega) ex ey (x + y) (calc0 0 (by omega)) (fun _ => rfl)
  · exact CA_i (by omega) ex ey (x - y) (calc0 1 (by omega)) (fun _ => rfl)
  · exact CA_i (by omega) ex ey (x * y) (calc0 2 (by omega)) (fun _ => rfl)
  · exact CA_3 l r
  · exact (CA_45 l r).1
  · exact (CA_45 l r).2
  · exact CA_i (by omega) ex ey (x &&& y) (calc0 6 (by omega)) (fun _ => rfl)
  · exact CA_i (by omega) ex ey (x ||| y) (calc0 7 (by omega)) (fun _ => rfl)
  · exact CA_i (by omega) ex ey (x ^^^ y) (calc0 8 (by omega)) (fun _ => rfl)
  · exact CA_i (by omega) ex ey x rfl (fun _ => rfl)
  · exact CA_10 l r
  · exact CA_11 l r
  · exact CA_12 l r
/-! of floats and doubles: what is easy -/
theorem CA_easy {o w : Nat} {l r lx rx t : UInt64} (ho : o < 10) (e1 : XN_cast (nI w) l = some lx) (e2 : XN_cast (nI w) r = some rx) (h1 : XN_calculate (nI o) (nI w) lx rx = some t) (h2 : okc t) (h3 : ∀ h, DO h (nI w) (nI o) l r = some (h, t)) : CA o w l r :=
  ⟨lx, rx, e1, e2, false, true, fun q => absurd q (by omega), fun _ => rfl, fun q => absurd q (by omega), fun _ => rfl, t, fun _ _ => ⟨h1, h2⟩, fun h => by rw [h3, if_neg (by omega), if_neg (by omega)]⟩
theorem v1024 : Sv 4652218415073722368 false (2 ^ 1084) := by
  have ft := FP.Core.val64_fits 4652218415073722368
  have e : FP.Core.val64 4652218415073722368 = .fin false (2 ^ 52) (-42) := by decide +kernel
  rw [e] at ft
  refine ⟨2 ^ 52, -42, e, ft, ?_⟩
  unfold FP.Core.inUnits
  rw [show ((-42 : Int) - FP.Core.b64.qmin).toNat = 1032 by decide, ← Nat.pow_add]
theorem f1024 : Sf 1149239296 false (2 ^ 159) := by
  have ft := FP.Core.val32_fits 1149239296
  have e : FP.Core.val32 1149239296 = .fin false (2 ^ 23) (-13) := by decide +kernel
  rw [e] at ft
  refine ⟨2 ^ 23, -13, e, ft, ?_⟩
  unfold FP.Core.inUnits
  rw [show ((-13 : Int) - FP.Core.b32.qmin).toNat = 136 by decide, ← Nat.pow_add]
theorem okc_rem {z : UInt64} {s : Bool} {n : Nat} (h : Sv z s n) (hn : n ≤ 2 ^ 1107) : okc (if n = 0 then FP.dconst0 else z) := by
  by_cases c : n = 0
  · rw [if_pos c]
    exact okc_0
  · rw [if_neg c, okc_iff]
    exact ⟨s, n, h, hn, fun q => absurd q c⟩
/-- the remainder by 1024 -/
theorem rem1024 {a : UInt64} {s : Bool} {m : Nat} (h : Sv a s m) (hm : m < 2 ^ 1290) : ∃ t, XN_calculate_B138 a = some t ∧ YM_zeroed (FP.drem a 4652218415073722368) = some t ∧ nd (FP.drem a 4652218415073722368) = true ∧ okc t := by
  obtain ⟨r1, r2⟩ := rem_z h v1024 hm (Nat.two_pow_pos _)
  have d := drem_v h v1024 (Nat.two_pow_pos _)
  refine ⟨_, ?_, r2, Sv_nd d, okc_rem d (Nat.le_of_lt (Nat.lt_of_lt_of_le (Nat.mod_lt _ (Nat.two_pow_pos _)) (Nat.pow_le_pow_right (by decide) (by decide))))⟩
  unfold XN_calculate_B138
  rw [r1, r2, b1_s]
theorem okc_lt {l : UInt64} (o : okc l) : l.toNat % 2 ^ 63 < 1057 * 2 ^ 52 := by
  have := o.1
  omega
theorem Sv_lt {a : UInt64} {s : Bool} {m K : Nat} (h : Sv a s m) (hK : 1 ≤ K) (q : a.toNat % 2 ^ 63 < K * 2 ^ 52) : m < 2 ^ (52 + (K - 1)) := by
  have b := (Sv_bits h).1
  have u := FP.Core.unitsOf_start (f := FP.Core.b64) hK
  rw [FP.Core.tails_b64] at u
  rw [← b, Nat.pow_add, ← u]
  exact FP.Core.unitsOf_lt_iff.mpr q
theorem okc_zeroed {l : UInt64} (o : okc l) : YM_zeroed l = some l := by
  rw [okc_iff] at o
  obtain ⟨s, m, h, hm, hz⟩ := o
  rw [zeroed_e h]
  by_cases c : m = 0
  · subst c
    rw [if_pos rfl]
    rw [hz rfl] at h
    rw [Sv_inj h dc0_v]
  · rw [if_neg c]
theorem okc_inj {l r : UInt64} (ol : okc l) (or : okc r) {s t : Bool} {m k : Nat} (hl : Sv l s m) (hr : Sv r t k) (e : FP.Core.signed s m = FP.Core.signed t k) : l = r := by
  have zl := (okc_nz ol hl).2
  have zr := (okc_nz or hr).2
  have h1 := congrArg Int.natAbs e
  rw [FP.Core.natAbs_signed, FP.Core.natAbs_signed] at h1
  subst h1
  by_cases c : m = 0
  · rw [zl c] at hl
    rw [zr c] at hr
    exact Sv_inj hl hr
  · have : s = t := by
      cases s <;> cases t <;> simp only [FP.Core.signed, if_true, Bool.false_eq_true, if_false] at e
      · rfl
      · omega
      · omega
      · rfl
    subst this
    exact Sv_inj hl hr
theorem CA_dbl {o : Nat} (ho : o ≤ 12) (hn : ¬ (6 ≤ o ∧ o ≤ 8 ∨ 11 ≤ o)) {l r : UInt64} (ol : okc l) (or : okc r) : CA o 3 l r := by
  have ol' := ol
  have or' := or
  rw [okc_iff] at ol' or'
  obtain ⟨s, m, hl, lm, zl⟩ := ol'
  obtain ⟨t, k, hr, lk, zr⟩ := or'
  have bl := okc_lt ol
  have br := okc_lt or
  have o8 : o = 0 ∨ o = 1 ∨ o = 2 ∨ o = 3 ∨ o = 4 ∨ o = 5 ∨ o = 9 ∨ o = 10 := by omega
  rcases o8 with rfl | rfl | rfl | rfl | rfl | rfl | rfl | rfl
  · have bd := FP.Core.dadd_mag bl br (by decide)
    obtain ⟨u, n, hd⟩ : ∃ u n, Sv (FP.dadd l r) u n := Sv_of (FP.Core.fin_of_lt bd (by decide))
    have nl := Sv_lt hd (by decide) bd
    obtain ⟨x, x1, x2, x3, x4⟩ := rem1024 hd (Nat.lt_of_lt_of_le nl (Nat.pow_le_pow_right (by decide) (by decide)))
    refine CA_easy (by decide) rfl rfl (t := x) ?_ x4 (fun h => ?_)
    · show b1 (gd (nd (FP.dadd l r)) (some (FP.dadd l r))) (fun t8 => XN_calculate_B138 t8) = _
      rw [Sv_nd hd, gd_t, b1_s, x1]
    · show b2 (gd (nd (FP.dadd l r)) (gd (nd (FP.drem (FP.dadd l r) 4652218415073722368)) (some (h, FP.drem (FP.dadd l r) 4652218415073722368)))) (fun h19 t20 => b1 (YM_zeroed t20) (fun t22 => some (h19, t22))) = _
      rw [Sv_nd hd, gd_t, x3, gd_t, b2_s, x2, b1_s]
  · have bd := FP.Core.dsub_mag bl br (by decide)
    obtain ⟨u, n, hd⟩ : ∃ u n, Sv (FP.dsub l r) u n := Sv_of (FP.Core.fin_of_lt bd (by decide))
    have nl := Sv_lt hd (by decide) bd
    obtain ⟨x, x1, x2, x3, x4⟩ := rem1024 hd (Nat.lt_of_lt_of_le nl (Nat.pow_le_pow_right (by decide) (by decide)))
    refine CA_easy (by decide) rfl rfl (t := x) ?_ x4 (fun h => ?_)
    · show b1 (gd (nd (FP.dsub l r)) (some (FP.dsub l r))) (fun t8 => XN_calculate_B138 t8) = _
      rw [Sv_nd hd, gd_t, b1_s, x1]
    · show b2 (gd (nd (FP.dsub l r)) (gd (nd (FP.drem (FP.dsub l r) 4652218415073722368)) (some (h, FP.drem (FP.dsub l r) 4652218415073722368)))) (fun h19 t20 => b1 (YM_zeroed t20) (fun t22 => some (h19, t22))) = _
      rw [Sv_nd hd, gd_t, x3, gd_t, b2_s, x2, b1_s]
  · have bd := FP.Core.dmul_mag bl br (by decide) (by decide)
    obtain ⟨u, n, hd⟩ : ∃ u n, Sv (FP.dmul l r) u n := Sv_of (FP.Core.fin_of_lt bd (by decide))
    have nl := Sv_lt hd (by decide) bd
    obtain ⟨x, x1, x2, x3, x4⟩ := rem1024 hd (Nat.lt_of_lt_of_le nl (Nat.pow_le_pow_right (by decide) (by decide)))
    refine CA_easy (by decide) rfl rfl (t := x) ?_ x4 (fun h => ?_)
    · show b1 (gd (nd (FP.dmul l r)) (some (FP.dmul l r))) (fun t8 => XN_calculate_B138 t8) = _
      rw [Sv_nd hd, gd_t, b1_s, x1]
    · show b2 (gd (nd (FP.dmul l r)) (gd (nd (FP.drem (FP.dmul l r) 4652218415073722368)) (some (h, FP.drem (FP.dmul l r) 4652218415073722368)))) (fun h19 t20 => b1 (YM_zeroed t20) (fun t22 => some (h19, t22))) = _
      rw [Sv_nd hd, gd_t, x3, gd_t, b2_s, x2, b1_s]
  · have z0 : (Op.cmpValue (FP.dcmp r FP.dconst0) .l = 0) = (k = 0) := by
      rw [Sv_cmp hr dc0_v, cv_eq, show FP.Core.signed false 0 = 0 from rfl]
      exact propext (FP.Core.signed_eq_zero _ _)
    by_cases c : k = 0
    · refine CA_easy (by decide) rfl rfl (t := FP.dconst0) ?_ okc_0 (fun h => ?_)
      · show (if (Op.cmpValue (FP.dcmp r FP.dconst0) .l) = 0 then some FP.dconst0 else _) = _
        rw [itp z0, if_pos c]
      · show b2 (if (Op.cmpValue (FP.dcmp r FP.dconst0) .l) = 0 then some (h, FP.dconst0) else gd (nd (FP.drem l r)) (some (h, FP.drem l r))) (fun h19 t20 => b1 (YM_zeroed t20) (fun t22 => some (h19, t22))) = _
        rw [itp z0, if_pos c, b2_s, okc_zeroed okc_0, b1_s]
    · obtain ⟨r1, r2⟩ := rem_z hl hr (Nat.lt_of_le_of_lt lm (Nat.pow_lt_pow_right (by decide) (by decide))) (by omega)
      have d := drem_v hl hr (by omega)
      refine CA_easy (by decide) rfl rfl (t := if m % k = 0 then FP.dconst0 else FP.drem l r) ?_ (okc_rem d (Nat.le_trans (Nat.mod_le _ _) lm)) (fun h => ?_)
      · show (if (Op.cmpValue (FP.dcmp r FP.dconst0) .l) = 0 then some FP.dconst0 else b1 (XN_remainder l r) (fun t18 => some t18)) = _
        rw [itp z0, if_neg c, r1, r2, b1_s]
      · show b2 (if (Op.cmpValue (FP.dcmp r FP.dconst0) .l) = 0 then some (h, FP.dconst0) else gd (nd (FP.drem l r)) (some (h, FP.drem l r))) (fun h19 t20 => b1 (YM_zeroed t20) (fun t22 => some (h19, t22))) = _
        rw [itp z0, if_neg c, Sv_nd d, gd_t, b2_s, r2, b1_s]
  · refine CA_easy (by decide) rfl rfl (t := if FP.Core.signed s m < FP.Core.signed t k then r else l) ?_ (by split; exact or; exact ol) (fun h => ?_)
    · show (if (Op.cmpValue (FP.dcmp l r) .l) < 0 then some r else some l) = _
      rw [Sv_cmp hl hr, itp cv_lt]
      split <;> rfl
    · show b2 (if (Op.cmpValue (FP.dcmp l r) .l) ≤ 0 then some (h, r) else some (h, l)) (fun h19 t20 => b1 (YM_zeroed t20) (fun t22 => some (h19, t22))) = _
      rw [Sv_cmp hl hr, itp cv_le]
      by_cases c : FP.Core.signed s m < FP.Core.signed t k
      · rw [if_pos c, if_pos (by omega), b2_s, okc_zeroed or, b1_s]
      · rw [if_neg c]
        by_cases d : FP.Core.signed s m ≤ FP.Core.signed t k
        · rw [if_pos d, b2_s, okc_zeroed or, b1_s, okc_inj ol or hl hr (by omega)]
        · rw [if_neg d, b2_s, okc_zeroed ol, b1_s]
  · refine CA_easy (by decide) rfl rfl (t := if FP.Core.signed t k < FP.Core.signed s m then r else l) ?_ (by split; exact or; exact ol) (fun h => ?_)
    · show (if 0 < (Op.cmpValue (FP.dcmp l r) .g) then some r else some l) = _
      rw [Sv_cmp hl hr, itp cv_gt]
      split <;> rfl
    · show b2 (if 0 ≤ (Op.cmpValue (FP.dcmp l r) .g) then some (h, r) else some (h, l)) (fun h19 t20 => b1 (YM_zeroed t20) (fun t22 => some (h19, t22))) = _
      rw [Sv_cmp hl hr, itp cv_ge]
      by_cases c : FP.Core.signed t k < FP.Core.signed s m
      · rw [if_pos c, if_pos (by omega), b2_s, okc_zeroed or, b1_s]
      · rw [if_neg c]
        by_cases d : FP.Core.signed t k ≤ FP.Core.signed s m
        · rw [if_pos d, b2_s, okc_zeroed or, b1_s, okc_inj ol or hl hr (by omega)]
        · rw [if_neg d, b2_s, okc_zeroed ol, b1_s]
  · refine CA_easy (by decide) rfl rfl (t := l) rfl ol (fun h => ?_)
    show b1 (YM_zeroed l) (fun t22 => some (h, t22)) = _
    rw [okc_zeroed ol, b1_s]
  · refine ⟨l, r, rfl, rfl, false, decide (FP.Core.signed t k < FP.Core.signed s m), fun q => absurd q (by omega), fun _ => rfl, fun _ => ?_, fun q => absurd rfl q, l, fun _ _ => ⟨rfl, ol⟩, fun h => ?_⟩
    · rw [Sv_cmp hl hr, cv_le, decide_eq_false_iff_not]
      exact propext ⟨fun q => by omega, fun q => by omega⟩
    · rw [if_pos rfl]
      show b2 (if 0 < (Op.cmpValue (FP.dcmp l r) .g) then YM_byDoubles_B144 h l 0 else YM_byDoubles_B144 h l 1) (fun h19 t20 => b1 (YM_zeroed t20) (fun t22 => some (h19, t22))) = _
      rw [Sv_cmp hl hr, itp cv_gt]
      unfold YM_byDoubles_B144
      by_cases c : FP.Core.signed t k < FP.Core.signed s m
      · rw [if_pos c, decide_eq_true c, sd_isB_0, gd_t, hb_s, b2_s, okc_zeroed ol]
        rfl
      · rw [if_neg c, decide_eq_false c, sd_isB_1, gd_t, hb_s, b2_s, okc_zeroed ol]
        rfl
