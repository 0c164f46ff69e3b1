/-! ===== get: the bits ===== -/
theorem dc1_v : Sv FP.dconst1 false (2 ^ 1074) := by
  refine ⟨2 ^ 52, -52, FP.Core.val64_dconst1, ?_, ?_⟩
  · have := FP.Core.val64_fits FP.dconst1
    rw [show FP.Core.val64 FP.dconst1 = .fin false (2 ^ 52) (-52) from FP.Core.val64_dconst1] at this
    exact this
  · unfold FP.Core.inUnits
    rw [show ((-52 : Int) - FP.Core.b64.qmin).toNat = 1022 by decide, ← Nat.pow_add]
theorem two_v : Sv 4611686018427387904 false (2 ^ 1075) := by
  have ft := FP.Core.val64_fits 4611686018427387904
  have e : FP.Core.val64 4611686018427387904 = .fin false (2 ^ 52) (-51) := by decide +kernel
  rw [e] at ft
  refine ⟨2 ^ 52, -51, e, ft, ?_⟩
  unfold FP.Core.inUnits
  rw [show ((-51 : Int) - FP.Core.b64.qmin).toNat = 1023 by decide, ← Nat.pow_add]
/-- twice, half -/
theorem Sv_dbl {a : UInt64} {m : Nat} (h : Sv a false m) (hm : m < 2 ^ 1300) : Sv (FP.dmul a 4611686018427387904) false (m * 2) := by
  obtain ⟨d, hd⟩ := Sd_shl FP.Core.good_b64 (k := 1) (B := 1300) h hm (by decide)
  have q := Sd_mul FP.Core.good_b64 h rfl hd
  unfold Sv
  rw [show FP.dmul a 4611686018427387904 = FP.Core.dmul a 4611686018427387904 from rfl, FP.Core.val64_dmul, v64_2, q]
  exact hd
theorem Sv_half {a b : UInt64} {m : Nat} (h : Sv a false (m * 2)) (h' : Sv b false m) : Sv (FP.ddiv a 4611686018427387904) false m := by
  have q := Sd_div FP.Core.good_b64 (k := 1) h rfl h'
  unfold Sv
  rw [show FP.ddiv a 4611686018427387904 = FP.Core.ddiv a 4611686018427387904 from rfl, FP.Core.val64_ddiv, v64_2, q]
  exact h'
theorem Sv_half2 {a : UInt64} {m : Nat} (h : Sv a false m) (hm : 2 ^ 1075 ≤ m) : ∃ n, m = n * 2 ∧ Sv (FP.ddiv a 4611686018427387904) false n := by
  obtain ⟨d, n, hd, e⟩ := Sd_shr FP.Core.good_b64 (k := 1) h (Nat.le_trans (Nat.pow_le_pow_right (by decide) (by decide)) hm)
  obtain ⟨b, hb⟩ := Sv_d hd
  subst e
  exact ⟨n, rfl, Sv_half h hb⟩
theorem d2l_v {a : UInt64} {m : Nat} (h : Sv a false m) (hm : m / 2 ^ 1074 < 2 ^ 63) : FP.d2l a = lN (m / 2 ^ 1074) := by
  refine Int64.toInt_inj.mp ?_
  rw [show FP.d2l a = FP.Core.d2l a from rfl, FP.Core.d2l_val (Sd_nn h), (Sd_zmag h).1, (Sd_zmag h).2, pk_lT hm, show FP.Core.one64 = 2 ^ 1074 from rfl]
  unfold FP.Core.signed
  simp only [Bool.false_eq_true, if_false]
  omega
theorem L_ti {L : Int32} (h1 : -1100 ≤ L.toInt) (h2 : L.toInt ≤ 0) {d : Nat} (hd : d < 4000) : (L + nI d).toInt = L.toInt + d := by
  rw [Int32.toInt_add, nI_toInt (by omega)]
  refine Int.bmod_eq_of_le ?_ ?_ <;> omega
theorem L_le {L : Int32} (h1 : -1100 ≤ L.toInt) (h2 : L.toInt ≤ 0) {d : Nat} (hd : d < 4000) : (L + nI d ≤ L) = (d = 0) := by
  rw [Int32.le_iff_toInt_le, L_ti h1 h2 hd]
  exact propext ⟨fun q => by omega, fun q => by omega⟩
theorem L_m1 (L : Int32) (d : Nat) : L + nI (d + 1) + -1 = L + nI d := by
  rw [Int32.add_assoc, pk_m1]
theorem L_sub (L : Int32) (d : Nat) : L + nI d - L = nI d := by
  rw [Int32.add_comm, Int32.add_sub_cancel]
theorem bits1 (L fb : Int32) : ∀ j f1 f2 (a : UInt64) m e, Sv a false m → 0 < m → m < 2 ^ (1075 + j) → e + j ≤ 2000 → j < f1 → j < f2 →
    ∃ a' m' e', Sv a' false m' ∧ 0 < m' ∧ m' < 2 ^ 1075 ∧ e' ≤ e + j ∧ XN_bits_L17 f1 L fb a (nI e) = XN_bits_L48 FU L fb a' (nI e') ∧ YM_bitsOf_L17 f2 fb L a (nI e) = YM_bitsOf_L40 FU fb L a' (nI e')
  | _, 0, _, _, _, _, _, _, _, _, q, _ => absurd q (Nat.not_lt_zero _)
  | _, _, 0, _, _, _, _, _, _, _, _, q => absurd q (Nat.not_lt_zero _)
  | j, f1 + 1, f2 + 1, a, m, e, h, h0, hm, he, q1, q2 => by
    unfold XN_bits_L17 YM_bitsOf_L17
    rw [show (2200 : Int32) = nI 2200 from rfl, if_neg (nI_ge (by omega) (by omega)), Sv_cmp h two_v, itp cv_lt, itp cv_lt]
    by_cases c : m < 2 ^ 1075
    · rw [if_pos (by unfold FP.Core.signed; simp only [Bool.false_eq_true, if_false]; exact Int.ofNat_lt.mpr c)]
      exact ⟨a, m, e, h, h0, c, by omega, rfl, by rw [if_pos (by unfold FP.Core.signed; simp only [Bool.false_eq_true, if_false]; exact Int.ofNat_lt.mpr c)]⟩
    · have nc : ¬ FP.Core.signed false m < FP.Core.signed false (2 ^ 1075) := by
        unfold FP.Core.signed
        simp only [Bool.false_eq_true, if_false]
        exact fun z => c (Int.ofNat_lt.mp z)
      rw [if_neg nc, if_neg nc]
      obtain ⟨n, rfl, hn⟩ := Sv_half2 h (by omega)
      obtain ⟨j, rfl⟩ : ∃ k, j = k + 1 := by
        cases j with
        | zero => exact absurd hm c
        | succ k => exact ⟨k, rfl⟩
      rw [Sv_nd hn, gd_t, gd_t, nI_1]
      obtain ⟨a', m', e', r1, r2, r3, r4, r5, r6⟩ := bits1 L fb j f1 f2 _ n (e + 1) hn (by omega) (by rw [show 1075 + (j + 1) = 1075 + j + 1 by omega, Nat.pow_succ] at hm; omega) (by omega) (by omega) (by omega)
      exact ⟨a', m', e', r1, r2, r3, by omega, r5, r6⟩
theorem bits2 {L : Int32} (h1 : -1100 ≤ L.toInt) (h2 : L.toInt ≤ 0) (fb : Int32) : ∀ d f1 f2 (a : UInt64) m, Sv a false m → 0 < m → m < 2 ^ 1075 → d < 4000 → d < f1 → d < f2 →
    ∃ a' m' d', Sv a' false m' ∧ 0 < m' ∧ m' < 2 ^ 1075 ∧ d' ≤ d ∧ (d' = 0 ∨ 2 ^ 1074 ≤ m') ∧ XN_bits_L48 f1 L fb a (L + nI d) = XN_bits_B75 L fb a' (L + nI d') ∧ YM_bitsOf_L40 f2 fb L a (L + nI d) = YM_bitsOf_B74 fb L a' (L + nI d')
  | _, 0, _, _, _, _, _, _, _, q, _ => absurd q (Nat.not_lt_zero _)
  | _, _, 0, _, _, _, _, _, _, _, q => absurd q (Nat.not_lt_zero _)
  | d, f1 + 1, f2 + 1, a, m, h, h0, hm, hd, q1, q2 => by
    unfold XN_bits_L48 YM_bitsOf_L40
    rw [Sv_cmp h dc1_v, Sv_cmp h dc0_v, itp (L_le h1 h2 hd), itp (L_le h1 h2 hd), itp cv_ge, itp cv_ge, itp cv_le]
    have g0 : ¬ FP.Core.signed false m ≤ FP.Core.signed false 0 := by
      unfold FP.Core.signed
      simp only [Bool.false_eq_true, if_false]
      omega
    have g1 : (FP.Core.signed false (2 ^ 1074) ≤ FP.Core.signed false m) = (2 ^ 1074 ≤ m) := by
      unfold FP.Core.signed
      simp only [Bool.false_eq_true, if_false]
      exact propext Int.ofNat_le
    rw [if_neg g0, itp g1, itp g1]
    cases d with
    | zero =>
      rw [if_pos rfl, if_pos (show (0 : Nat) = 0 from rfl)]
      refine ⟨a, m, 0, h, h0, hm, Nat.le_refl _, Or.inl rfl, rfl, ?_⟩
      split <;> rfl
    | succ d =>
      rw [if_neg (by omega)]
      by_cases c : 2 ^ 1074 ≤ m
      · rw [if_pos c, if_pos c]
        exact ⟨a, m, d + 1, h, h0, hm, Nat.le_refl _, Or.inr c, rfl, rfl⟩
      · rw [if_neg c, if_neg c, if_neg (show ¬ d + 1 = 0 by omega)]
        have hn := Sv_dbl h (Nat.lt_trans hm (Nat.pow_lt_pow_right (by decide) (by decide)))
        rw [Sv_nd hn, gd_t, gd_t, L_m1]
        obtain ⟨a', m', d', r1, r2, r3, r4, r5, r6, r7⟩ := bits2 h1 h2 fb d f1 f2 _ (m * 2) hn (by omega) (by rw [Nat.pow_succ]; omega) (by omega) (by omega) (by omega)
        exact ⟨a', m', d', r1, r2, r3, by omega, r5, r6, r7⟩
/-- what is asked of the width of a fraction -/
def FB (fb : Nat) : Prop := fb ≤ 52 ∧ lshl 1 (nI fb) = lN (2 ^ fb) ∧ (∀ x, lshl x (nI fb) = x * lN (2 ^ fb)) ∧ FP.Core.val64 (FP.l2d (lshl 1 (nI fb))) = .fin false FP.Core.b64.tails (((fb : Nat) : Int) - ((FP.Core.b64.p : Int) - 1))
theorem FB_23 : FB 23 := by
  refine ⟨by decide, by decide +kernel, fun x => ?_, by decide +kernel⟩
  unfold lshl
  rw [show ((nI 23).toInt64 &&& 63) = (23 : Int64) by decide +kernel]
  refine Int64.toBitVec_inj.mp ?_
  rw [Int64.toBitVec_shiftLeft, Int64.toBitVec_mul, show ((23 : Int64).toBitVec.smod 64) = 23#64 by decide +kernel, show (lN (2 ^ 23)).toBitVec = BitVec.twoPow 64 23 by decide +kernel]
  exact BitVec.shiftLeft_eq_mul_twoPow _ _
theorem FB_52 : FB 52 := by
  refine ⟨by decide, by decide +kernel, fun x => ?_, by decide +kernel⟩
  unfold lshl
  rw [show ((nI 52).toInt64 &&& 63) = (52 : Int64) by decide +kernel]
  refine Int64.toBitVec_inj.mp ?_
  rw [Int64.toBitVec_shiftLeft, Int64.toBitVec_mul, show ((52 : Int64).toBitVec.smod 64) = 52#64 by decide +kernel, show (lN (2 ^ 52)).toBitVec = BitVec.twoPow 64 52 by decide +kernel]
  exact BitVec.shiftLeft_eq_mul_twoPow _ _
theorem bits3 {fb d : Nat} {L : Int32} {a : UInt64} {m : Nat} (h : Sv a false m) (hm : m < 2 ^ 1075) (hb : fb ≤ 52) :
    ∀ k f (x : UInt64) j, j + k = fb → k < f → Sv x false (m * 2 ^ j) → ∃ y, Sv y false (m * 2 ^ fb) ∧ YM_bitsOf_L81 f (nI fb) L a (L + nI d) x (nI j) = some (if 2 ^ 1074 ≤ m then FP.d2l y - lshl 1 (nI fb) + lshl (Int32.toInt64 (L + nI d - L + 1)) (nI fb) else FP.d2l y)
  | _, 0, _, _, _, q, _ => absurd q (Nat.not_lt_zero _)
  | 0, f + 1, x, j, e, _, hx => by
    obtain rfl : j = fb := by omega
    unfold YM_bitsOf_L81
    rw [if_pos (nI_le (by omega) (by omega)), Sv_cmp h dc1_v, itp cv_ge]
    have g1 : (FP.Core.signed false (2 ^ 1074) ≤ FP.Core.signed false m) = (2 ^ 1074 ≤ m) := by
      unfold FP.Core.signed
      simp only [Bool.false_eq_true, if_false]
      exact propext Int.ofNat_le
    rw [itp g1]
    refine ⟨x, hx, ?_⟩
    split <;> rfl
  | k + 1, f + 1, x, j, e, q, hx => by
    unfold YM_bitsOf_L81
    have hx2 : m * 2 ^ j < 2 ^ 1300 := by
      refine Nat.lt_of_lt_of_le (Nat.mul_lt_mul_of_pos_right hm (Nat.two_pow_pos j)) ?_
      rw [← Nat.pow_add]
      exact Nat.pow_le_pow_right (by decide) (by omega)
    have hn := Sv_dbl hx hx2
    rw [if_neg (nI_ge (by omega) (by omega)), Sv_nd hn, gd_t, nI_1]
    exact bits3 h hm hb k f _ (j + 1) (by omega) (by omega) (by rw [Nat.pow_succ, ← Nat.mul_assoc]; exact hn)
/-- the bits of a number above 0 -/
theorem bits_p {fb e0 : Nat} {L : Int32} (B : FB fb) (hL : L.toInt = -(e0 : Int)) (he : e0 ≤ 1100) {a : UInt64} {m : Nat} (h : Sv a false m) (h0 : 0 < m) (hm : m ≤ 2 ^ 1107) :
    ∃ T, XN_bits_L17 FU L (nI fb) a 0 = some (lN T) ∧ YM_bitsOf_L17 FU (nI fb) L a 0 = some (lN T) ∧ T < (e0 + 36) * 2 ^ fb := by
  obtain ⟨b1', b2', b3', b4'⟩ := B
  have l1 : -1100 ≤ L.toInt := by omega
  have l2 : L.toInt ≤ 0 := by omega
  obtain ⟨a1, m1, e1, r1, r2, r3, r4, r5, r6⟩ := bits1 L (nI fb) 33 FU FU a m 0 h h0 (Nat.lt_of_le_of_lt hm (Nat.pow_lt_pow_right (by decide) (by decide))) (by omega) (by rw [FU_s]; omega) (by rw [FU_s]; omega)
  have ee : nI e1 = L + nI (e0 + e1) := by
    refine Int32.toInt_inj.mp ?_
    rw [L_ti l1 l2 (by omega), nI_toInt (by omega), hL]
    omega
  rw [nI_0, ee] at r5 r6
  obtain ⟨a2, m2, d, t1, t2, t3, t4, t5, t6, t7⟩ := bits2 l1 l2 (nI fb) (e0 + e1) FU FU a1 m1 r1 r2 r3 (by omega) (by rw [FU_s]; omega) (by rw [FU_s]; omega)
  obtain ⟨y, y1, y2⟩ := bits3 (fb := fb) (d := d) (L := L) t1 t3 b1' fb FU a2 0 (by omega) (by rw [FU_s]; omega) (by rw [Nat.pow_zero, Nat.mul_one]; exact t1)
  rw [nI_0] at y2
  obtain ⟨z, hz⟩ := Sd_shl FP.Core.good_b64 (k := fb) (B := 1075) t1 t3 (by rw [show FP.Core.b64.qmax - FP.Core.b64.qmin = 2045 by decide]; omega)
  have q := Sd_mul FP.Core.good_b64 t1 rfl hz
  have hp : Sv (FP.dmul a2 (FP.l2d (lshl 1 (nI fb)))) false (m2 * 2 ^ fb) := by
    unfold Sv
    rw [show FP.dmul a2 (FP.l2d (lshl 1 (nI fb))) = FP.Core.dmul a2 (FP.l2d (lshl 1 (nI fb))) from rfl, FP.Core.val64_dmul, b4', q]
    exact hz
  have ey := Sv_inj hp y1
  have hP := Nat.two_pow_pos fb
  have hP2 : 2 ^ fb ≤ 2 ^ 52 := Nat.pow_le_pow_right (by decide) b1'
  have hD : m2 * 2 ^ fb / 2 ^ 1074 < 2 * 2 ^ fb := by
    rw [Nat.div_lt_iff_lt_mul (Nat.two_pow_pos _)]
    rw [show (1075 : Nat) = 1074 + 1 from rfl, Nat.pow_succ] at t3
    have := Nat.mul_lt_mul_of_pos_right t3 hP
    rw [Nat.mul_right_comm, Nat.mul_comm (2 ^ 1074), Nat.mul_right_comm, Nat.mul_comm (2 ^ fb)] at this
    exact this
  have dl := d2l_v y1 (Nat.lt_of_lt_of_le hD (by omega))
  refine ⟨d * 2 ^ fb + m2 * 2 ^ fb / 2 ^ 1074, ?_, ?_, ?_⟩
  · rw [r5, t6]
    unfold XN_bits_B75
    rw [Sv_nd hp, gd_t, ey, dl, L_sub, nI_l (by omega), b3', lN_mul, lN_add]
  · rw [r6, t7]
    unfold YM_bitsOf_B74
    rw [y2, dl]
    refine congrArg some ?_
    by_cases c : 2 ^ 1074 ≤ m2
    · have hD2 : 2 ^ fb ≤ m2 * 2 ^ fb / 2 ^ 1074 := by
        rw [Nat.le_div_iff_mul_le (Nat.two_pow_pos _), Nat.mul_comm]
        exact Nat.mul_le_mul_right _ c
      rw [if_pos c, L_sub, nI_1, nI_l (by omega), b2', b3', lN_sub hD2, lN_mul, lN_add]
      refine congrArg lN ?_
      rw [Nat.add_mul, Nat.one_mul]
      omega
    · rw [if_neg c]
      rcases t5 with rfl | t5
      · rw [Nat.zero_mul, Nat.zero_add]
      · exact absurd t5 c
  · have : d ≤ e0 + 33 := by omega
    have : d * 2 ^ fb ≤ (e0 + 33) * 2 ^ fb := Nat.mul_le_mul_right _ this
    rw [Nat.add_mul] at this ⊢
    omega
/-- of nothing -/
theorem bits_0 {fb e0 : Nat} {L : Int32} (B : FB fb) (hL : L.toInt = -(e0 : Int)) (h1 : 1 ≤ e0) (he : e0 ≤ 1100) : YM_bitsOf_L17 FU (nI fb) L FP.dconst0 0 = some (lN 0) := by
  obtain ⟨y, y1, y2⟩ := bits3 (fb := fb) (d := e0) (L := L) dc0_v (Nat.two_pow_pos _) B.1 fb FU FP.dconst0 0 (by omega) (by have hb := B.1; rw [FU_s]; omega) (by rw [Nat.pow_zero, Nat.mul_one]; exact dc0_v)
  have ee : (0 : Int32) = L + nI e0 := by
    refine Int32.toInt_inj.mp ?_
    rw [L_ti (by omega) (by omega) (by omega), hL, Int32.toInt_zero]
    omega
  have c2 : FP.Core.signed false 0 < FP.Core.signed false (2 ^ 1075) := by
    unfold FP.Core.signed
    simp only [Bool.false_eq_true, if_false]
    exact Int.ofNat_lt.mpr (Nat.two_pow_pos _)
  have c1 : ¬ FP.Core.signed false (2 ^ 1074) ≤ FP.Core.signed false 0 := by
    unfold FP.Core.signed
    simp only [Bool.false_eq_true, if_false]
    have := Nat.two_pow_pos 1074
    exact fun z => absurd (Int.ofNat_le.mp z) (by omega)
  rw [show FU = 99999 + 1 from rfl]
  unfold YM_bitsOf_L17
  rw [Sv_cmp dc0_v two_v, itp cv_lt, if_pos c2, show FU = 99999 + 1 from rfl]
  unfold YM_bitsOf_L40
  rw [Sv_cmp dc0_v dc1_v, itp cv_ge, if_neg c1, Sv_cmp dc0_v dc0_v, itp cv_le, if_pos (show FP.Core.signed false 0 ≤ FP.Core.signed false 0 from Int.le_refl _)]
  unfold YM_bitsOf_B74
  rw [nI_0, ← ee] at y2
  rw [if_neg (by have := Nat.two_pow_pos 1074; omega)] at y2
  rw [Nat.zero_mul] at y1
  have dl := d2l_v y1 (by rw [Nat.zero_div]; decide)
  rw [Nat.zero_div] at dl
  rw [dl] at y2
  have nl : ¬ (0 : Int32) ≤ L := by
    rw [Int32.le_iff_toInt_le, hL, Int32.toInt_zero]
    omega
  rw [if_neg nl]
  exact y2
theorem or32 {T : Nat} (h : T < 2 ^ 31) : nI T ||| (-2147483648) = nI T + (-2147483648) := by
  refine Int32.toBitVec_inj.mp (BitVec.eq_of_toNat_eq ?_)
  rw [Int32.toBitVec_or, Int32.toBitVec_add, BitVec.toNat_or, BitVec.toNat_add, pk_tn (by omega), show ((-2147483648 : Int32)).toBitVec.toNat = 2 ^ 31 by decide +kernel, Nat.or_comm]
  have := Nat.two_pow_add_eq_or_of_lt h 1
  rw [Nat.mul_one] at this
  rw [← this]
  omega
theorem lN_tn {n : Nat} (h : n < 2 ^ 64) : (lN n).toBitVec.toNat = n := Nat.mod_eq_of_lt h
theorem or64 {T : Nat} (h : T < 2 ^ 63) : lN T ||| (-9223372036854775808) = lN T + (-9223372036854775808) := by
  refine Int64.toBitVec_inj.mp (BitVec.eq_of_toNat_eq ?_)
  rw [Int64.toBitVec_or, Int64.toBitVec_add, BitVec.toNat_or, BitVec.toNat_add, lN_tn (by omega), show ((-9223372036854775808 : Int64)).toBitVec.toNat = 2 ^ 63 by decide +kernel, Nat.or_comm]
  have := Nat.two_pow_add_eq_or_of_lt h 1
  rw [Nat.mul_one] at this
  rw [← this]
  omega
theorem sx32 {T : Nat} (h : T < 2 ^ 31) : Int32.toInt64 (nI T + (-2147483648)) = lN T + Int32.toInt64 (-2147483648) := by
  refine Int64.toInt_inj.mp ?_
  rw [Int32.toInt_toInt64, Int32.toInt_add, Int64.toInt_add, Int32.toInt_toInt64, nI_toInt h, pk_lT (by omega), show ((-2147483648 : Int32)).toInt = -2147483648 by decide +kernel]
  rw [Int.bmod_eq_of_le (by omega) (by omega), Int.bmod_eq_of_le (by omega) (by omega)]
/-- both find the same bits, of a number of either sign -/
theorem bits_e {fb e0 : Nat} {L : Int32} (B : FB fb) (hL : L.toInt = -(e0 : Int)) (h1 : 1 ≤ e0) (he : e0 ≤ 1100) {v : UInt64} (o : okc v) :
    ∃ T, XN_bits v L (nI fb) = some (lN T) ∧ YM_bitsOf v (nI fb) L = some (lN T) ∧ T < (e0 + 36) * 2 ^ fb := by
  rw [okc_iff] at o
  obtain ⟨s, m, h, hm, hz⟩ := o
  unfold XN_bits YM_bitsOf YM_bitsOf_B12
  rw [Sv_cmp h dc0_v, itp cv_eq, itp cv_ge, show FP.Core.signed false 0 = 0 from rfl, itp (propext (FP.Core.signed_eq_zero _ _))]
  by_cases z : m = 0
  · subst z
    rw [hz rfl] at h ⊢
    rw [if_pos rfl, if_pos (by unfold FP.Core.signed; simp), Sv_inj h dc0_v]
    refine ⟨0, rfl, bits_0 B hL h1 he, ?_⟩
    exact Nat.mul_pos (by omega) (Nat.two_pow_pos _)
  · rw [if_neg z]
    obtain ⟨a, x1, x2⟩ := sizeOf_e h (fun q => absurd q z)
    rw [x1, b1_s]
    obtain ⟨T, t1, t2, t3⟩ := bits_p B hL he x2 (by omega) hm
    refine ⟨T, t1, ?_, t3⟩
    cases s
    · rw [if_pos (by unfold FP.Core.signed; simp), Sv_inj h x2]
      exact t2
    · rw [if_neg (by unfold FP.Core.signed; simp only [if_true]; omega), Sv_inj (dneg_v h) x2]
      exact t2
theorem shown_e {h : sd_H} {r i f : Nat} (hr : r < 6) (hi : i < 24) (hf : f ≤ 4) (e : h.1 127 r = nI f) (o : okc (h.2.1 129 (24 * r + i))) :
    ∃ T, XN_shown (nI f) (h.2.1 129 (24 * r + i)) = some T ∧ YM_toldOf h (nI (24 * r + i)) = some T := by
  generalize hv : h.2.1 129 (24 * r + i) = v at *
  have q : nI (24 * r + i) / 24 = nI r := by
    rw [lit 24, pk_div (by omega) (by omega) (by omega)]
    exact congrArg nI (by omega)
  unfold XN_shown YM_toldOf
  rw [q, inB_n hr (by omega), gd_t, inB_n (by omega) (by omega), gd_t, nI_clamp (by omega), nI_clamp (by omega), e, hv]
  by_cases f2 : f = 2
  · subst f2
    rw [if_pos (show nI 2 = 2 from rfl), if_pos (show nI 2 = 2 from rfl)]
    obtain ⟨T, t1, t2, t3⟩ := bits_e FB_23 (L := -126) (e0 := 126) (by decide +kernel) (by decide) (by decide) o
    have t4 : T < 2 ^ 31 := Nat.lt_of_lt_of_le t3 (by decide)
    rw [show (23 : Int32) = nI 23 from rfl, t1, t2, b1_s, b1_s]
    by_cases c : 0 ≤ Op.cmpValue (FP.dcmp v FP.dconst0) CmpOp.g
    · rw [if_pos c, if_pos c, lN_i, nI_l t4]
      refine ⟨_, rfl, ?_⟩
      refine congrArg some ?_
      rw [show Int32.toInt64 0 = 0 by decide +kernel, Int64.add_zero]
    · rw [if_neg c, if_neg c, lN_i, or32 t4, sx32 t4]
      exact ⟨_, rfl, rfl⟩
  · have n2 : ¬ nI f = 2 := fun z => f2 ((nI_eq (by omega) (by omega)).mp z)
    rw [if_neg n2, if_neg n2]
    by_cases f3 : f = 3
    · subst f3
      rw [if_pos (show nI 3 = 3 from rfl), if_pos (show nI 3 = 3 from rfl)]
      obtain ⟨T, t1, t2, t3⟩ := bits_e FB_52 (L := -1022) (e0 := 1022) (by decide +kernel) (by decide) (by decide) o
      have t4 : T < 2 ^ 63 := Nat.lt_of_lt_of_le t3 (by decide)
      rw [show (52 : Int32) = nI 52 from rfl, t1, t2, b1_s, b1_s]
      by_cases c : 0 ≤ Op.cmpValue (FP.dcmp v FP.dconst0) CmpOp.g
      · rw [if_pos c, if_pos c]
        refine ⟨_, rfl, ?_⟩
        refine congrArg some ?_
        rw [Int64.add_zero]
      · rw [if_neg c, if_neg c, or64 t4]
        exact ⟨_, rfl, rfl⟩
    · have n3 : ¬ nI f = 3 := fun z => f3 ((nI_eq (by omega) (by omega)).mp z)
      rw [if_neg n3, if_neg n3]
      exact ⟨_, rfl, rfl⟩
theorem E_get {h : sd_H} (i : Iv h h) (a b : Int32) : EE (XT_get h a b) (fun g => YM_get g a b) := by
  unfold XT_get YM_get
  simp only [XT_isRow_e, YM_isRow_e, b1_s]
  rcases wn_c a 5 (by omega) with hz | ⟨r, hr, rfl, h1⟩
  · rw [show (5 : Int32) = nI 5 from rfl, hz]
    exact EE_i rfl rfl i
  rw [show (5 : Int32) = nI 5 from rfl, h1]
  simp only [if_neg z10.mp]
  rcases row_cs i (show r < 6 by omega) with ⟨e1, e2, e3⟩ | ⟨f, n, hf, hn, e1, e2, e3, e4, e5⟩
  · rw [XR_isMissing_t (by omega) e1]
    refine EE_i (h1 := wI h 0 16 1) (h2 := wI (wI h 0 16 1) 126 4 1) rfl ?_ (Iv_f 1 i)
    rw [YM_lacks_m (by omega) (by simp (disch := omega) only [wI_d, wD_i, fI_d, fD_i, wI_eq, wD_eq, wI_ne, wD_ne, fI_ne, fD_ne, wI_ns, wD_ns, fI_eq, fD_eq, fI_ns, fD_ns]; exact e2)]
    rfl
  · rw [XR_isMissing_f (by omega) hf e1]
    have out : (b < 0 ∨ nI n ≤ b) → EE (b1 (some (0 : Int32)) (fun t5 => if t5 = 0 then b1 (XR_hasCell h 1 (nI r) b) (fun t8 => if t8 = 0 then b2 (XT_found h 2) (fun h15 t16 => b1 (XT_longRefusal t16) (fun t18 => some (h15, t18))) else gd (sd_inB (nI r) 6) (gd (sd_inB ((nI r * 24) + b) 144) (b1 (XN_shown (h.1 2 (nI r : Int32).toNatClampNeg) (h.2.1 4 (((nI r * 24) + b) : Int32).toNatClampNeg)) (fun t13 => some (h, t13))))) else b2 (XT_found h 1) (fun h20 t21 => b1 (XT_longRefusal t21) (fun t23 => some (h20, t23)))))
        (fun g => b1 (YM_lacks g (nI r) b) (fun t5 => if t5 ≤ 0 then b1 (YM_toldOf g ((24 * nI r) + b)) (fun t8 => some (g, t8)) else b2 (YM_meets g t5) (fun h10 t11 => b1 (YM_no t11) (fun t13 => some (h10, t13))))) := fun o => by
      rw [b1_s, if_pos rfl, XR_hasCell_f (by omega) e3 o]
      refine EE_i (h1 := wI h 0 16 2) (h2 := wI (wI h 0 16 2) 126 4 2) rfl ?_ (Iv_f 2 i)
      try dsimp only
      rw [YM_lacks_o (f := f) (n := n) (by omega) hf hn (by simp (disch := omega) only [wI_d, wD_i, fI_d, fD_i, wI_eq, wD_eq, wI_ne, wD_ne, fI_ne, fD_ne, wI_ns, wD_ns, fI_eq, fD_eq, fI_ns, fD_ns]; exact e2) (by simp (disch := omega) only [wI_d, wD_i, fI_d, fD_i, wI_eq, wD_eq, wI_ne, wD_ne, fI_ne, fD_ne, wI_ns, wD_ns, fI_eq, fD_eq, fI_ns, fD_ns]; exact e4) o]
      rfl
    rcases pk_ix b (show n < 2 ^ 31 by omega) with o | o | ⟨j, hj, rfl⟩
    · exact out (Or.inl o)
    · exact out (Or.inr o)
    · have e24 : nI r * 24 + nI j = nI (24 * r + j) := by rw [lit 24, pk_mul, nI_add, Nat.mul_comm]
      have e24' : 24 * nI r + nI j = nI (24 * r + j) := by rw [lit 24, pk_mul, nI_add]
      obtain ⟨T, t1, t2⟩ := shown_e (show r < 6 by omega) (show j < 24 by omega) hf e2 (i.2.2.2.1 _ (by omega))
      refine EE_i (h1 := h) (h2 := h) (r := T) ?_ ?_ i
      · rw [b1_s, if_pos rfl, XR_hasCell_t (by omega) e3 hn hj, b1_s, if_neg z10.mp, e24, inB_n (by omega) (by omega), gd_t, inB_n (by omega) (by omega), gd_t, nI_clamp (by omega), nI_clamp (by omega), e1, (e5 j (by omega)).1, t1, b1_s]
      · rw [YM_lacks_i (by omega) hf hn e2 e4 hj, b1_s, if_pos (by decide), e24', t2, b1_s]
