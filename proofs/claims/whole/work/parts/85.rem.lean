/-! ===== the remainder by steps ===== -/
theorem Sd_shl2 {f : FP.Core.Fmt} (hf : FP.Core.Good f) {x : FP.Core.Datum} {s : Bool} {m k B : Nat} (hx : Sd f x s m) (hm : m * 2 ^ k < 2 ^ B) (hB : (B : Int) ≤ f.qmax - f.qmin) : ∃ d, Sd f d s (m * 2 ^ k) := by
  obtain ⟨c, q, rfl, hfit, hu⟩ := hx
  have hq := hfit.2.1
  have hp := hf.2
  by_cases z : c = 0
  · subst z
    obtain ⟨d, hd⟩ := Sd_mk hf s (c := 0) (q := f.qmin) (Nat.two_pow_pos _) (Int.le_refl _) (by have := FP.Core.qmax_qmin f; have := FP.Core.emax_pos hf; omega)
    refine ⟨d, ?_⟩
    have e : m * 2 ^ k = FP.Core.inUnits 0 f.qmin f.qmin := by
      rw [← hu]
      unfold FP.Core.inUnits
      rw [Nat.zero_mul, Nat.zero_mul, Nat.zero_mul]
    rw [e]
    exact hd
  · have e : m * 2 ^ k = FP.Core.inUnits c (q + (k : Int)) f.qmin := by
      rw [← hu]
      unfold FP.Core.inUnits
      rw [show (q + (k : Int) - f.qmin).toNat = (q - f.qmin).toNat + k by omega, Nat.pow_add, Nat.mul_assoc]
    have hb : (q + (k : Int) - f.qmin).toNat < B := by
      refine (Nat.pow_lt_pow_iff_right (by decide : 1 < 2)).mp (Nat.lt_of_le_of_lt ?_ hm)
      rw [e]
      exact Nat.le_mul_of_pos_left _ (by omega)
    obtain ⟨d, hd⟩ := Sd_mk hf s (c := c) (q := q + (k : Int)) hfit.1 (by omega) (by omega)
    refine ⟨d, ?_⟩
    rw [e]
    exact hd
theorem sg_le {m k : Nat} : (FP.Core.signed false m ≤ FP.Core.signed false k) = (m ≤ k) := by
  unfold FP.Core.signed
  simp only [Bool.false_eq_true, if_false]
  exact propext Int.ofNat_le
theorem sg_lt {m k : Nat} : (FP.Core.signed false m < FP.Core.signed false k) = (m < k) := by
  unfold FP.Core.signed
  simp only [Bool.false_eq_true, if_false]
  exact propext Int.ofNat_lt
theorem rem_up {a r : UInt64} {m k : Nat} (hr : Sv r false m) (hm : m < 2 ^ 1290) : ∀ n f (p : UInt64) j, Sv p false (k * 2 ^ j) → m < k * 2 ^ (j + n) → j + n ≤ 2190 → n < f →
    ∃ p' j', j' ≤ j + n ∧ Sv p' false (k * 2 ^ j') ∧ m < k * 2 ^ j' ∧ (j' = j ∨ k * 2 ^ j' < 2 ^ 1292) ∧ XN_remainder_L15 f a r p (nI j) = XN_remainder_L45 FU a r p' (nI j')
  | _, 0, _, _, _, _, _, q => absurd q (Nat.not_lt_zero _)
  | n, f + 1, p, j, hp, hk, hj, q => by
    unfold XN_remainder_L15
    rw [show (2200 : Int32) = nI 2200 from rfl, if_neg (nI_ge (by omega) (by omega)), Sv_cmp hp hr, itp cv_gt, itp sg_lt]
    by_cases c : m < k * 2 ^ j
    · rw [if_pos c]
      exact ⟨p, j, by omega, hp, c, Or.inl rfl, rfl⟩
    · rw [if_neg c]
      obtain ⟨n, rfl⟩ : ∃ i, n = i + 1 := by
        cases n with
        | zero => exact absurd hk c
        | succ i => exact ⟨i, rfl⟩
      have hd := Sv_dbl hp (Nat.lt_of_le_of_lt (Nat.le_of_not_lt c) (Nat.lt_trans hm (Nat.pow_lt_pow_right (by decide) (by decide))))
      rw [Nat.mul_assoc, ← Nat.pow_succ] at hd
      rw [Sv_nd hd, gd_t, nI_1]
      obtain ⟨p', j', h1, h2, h3, h4, h5⟩ := rem_up hr hm n f _ (j + 1) hd (by rw [show j + 1 + n = j + (n + 1) by omega]; exact hk) (by omega) (by omega)
      refine ⟨p', j', by omega, h2, h3, Or.inr ?_, h5⟩
      rcases h4 with h4 | h4
      · rw [h4, Nat.pow_succ, ← Nat.mul_assoc]
        have := Nat.le_of_not_lt c
        rw [show (1292 : Nat) = 1290 + 2 from rfl, Nat.pow_add]
        omega
      · exact h4
theorem mod_sub {x y k : Nat} (h : k * y ≤ x) : (x - k * y) % k = x % k := by
  obtain ⟨z, rfl⟩ := Nat.exists_eq_add_of_le h
  rw [Nat.add_sub_cancel_left, Nat.mul_add_mod]
theorem rem_dn {a b : UInt64} {k : Nat} (hb : Sv b false k) : ∀ j f (r p : UInt64) x, Sv r false x → Sv p false (k * 2 ^ j) → x < k * 2 ^ j → (j = 0 ∨ k * 2 ^ j < 2 ^ 1292) → j < 2200 → j < f →
    ∃ y, Sv y false (x % k) ∧ XN_remainder_L45 f a r p (nI j) = if 0 ≤ Op.cmpValue (FP.dcmp a FP.dconst0) .g then XN_remainder_B93 y else XN_remainder_B93 (FP.dneg y)
  | _, 0, _, _, _, _, _, _, _, _, q => absurd q (Nat.not_lt_zero _)
  | 0, f + 1, r, p, x, hr, hp, hx, _, _, _ => by
    unfold XN_remainder_L45
    rw [if_pos (show nI 0 ≤ 0 by decide)]
    rw [Nat.pow_zero, Nat.mul_one] at hx
    rw [Nat.mod_eq_of_lt hx]
    exact ⟨r, hr, rfl⟩
  | j + 1, f + 1, r, p, x, hr, hp, hx, hB, hj, q => by
    have hB := hB.resolve_left (by omega)
    have hB2 : k * 2 ^ j < 2 ^ 1292 := by
      rw [Nat.pow_succ, ← Nat.mul_assoc] at hB
      omega
    obtain ⟨d, hd⟩ := Sd_shl2 FP.Core.good_b64 (k := j) (B := 1292) hb hB2 (by decide)
    obtain ⟨p', hp'⟩ := Sv_d hd
    have hh : Sv (FP.ddiv p 4611686018427387904) false (k * 2 ^ j) := by
      rw [Nat.pow_succ, ← Nat.mul_assoc] at hp
      exact Sv_half hp hp'
    unfold XN_remainder_L45 XN_remainder_B73
    rw [if_neg (nI_nle (by omega) (by omega)), Sv_nd hh, gd_t, pk_m1, Sv_cmp hr hh, itp cv_lt, itp sg_lt]
    by_cases c : x < k * 2 ^ j
    · rw [if_pos c]
      exact rem_dn hb j f r _ x hr hh c (Or.inr hB2) (by omega) (by omega)
    · rw [if_neg c]
      have hx2 : x < 2 * (k * 2 ^ j) := by
        rw [Nat.pow_succ] at hx
        have : k * (2 ^ j * 2) = 2 * (k * 2 ^ j) := by rw [← Nat.mul_assoc, Nat.mul_comm]
        omega
      have hs : Sv (FP.dsub r (FP.ddiv p 4611686018427387904)) false (x - k * 2 ^ j) := by
        by_cases e : x = k * 2 ^ j
        · subst e
          rw [Sv_inj hr hh, Nat.sub_self]
          obtain ⟨c', q', v, _, _⟩ := hh
          rw [show FP.dsub (FP.ddiv p 4611686018427387904) (FP.ddiv p 4611686018427387904) = FP.dconst0 from FP.Core.dsub_self v]
          exact dc0_v
        · obtain ⟨z, hz⟩ := Sd_diff FP.Core.good_b64 hr hh (by omega) (by omega)
          have := Sd_sub FP.Core.good_b64 hr hh (by omega) hz
          unfold Sv
          rw [show FP.dsub r (FP.ddiv p 4611686018427387904) = FP.Core.dsub r (FP.ddiv p 4611686018427387904) from rfl, FP.Core.val64_dsub, this]
          exact hz
      rw [Sv_nd hs, gd_t]
      obtain ⟨y, y1, y2⟩ := rem_dn (a := a) hb j f _ _ (x - k * 2 ^ j) hs hh (by omega) (Or.inr hB2) (by omega) (by omega)
      rw [mod_sub (by omega)] at y1
      exact ⟨y, y1, y2⟩
theorem B93_e {y : UInt64} {s : Bool} {n : Nat} (h : Sv y s n) : XN_remainder_B93 y = some (if n = 0 then FP.dconst0 else y) := by
  unfold XN_remainder_B93
  rw [XN_plain_e h, b1_s]
/-- x's remainder -/
theorem remainder_e {a b : UInt64} {s t : Bool} {m k : Nat} (ha : Sv a s m) (hb : Sv b t k) (hm : m < 2 ^ 1290) (hk : 0 < k) : ∃ z, XN_remainder a b = some (if m % k = 0 then FP.dconst0 else z) ∧ Sv z s (m % k) := by
  obtain ⟨b', eb, hb'⟩ := sizeOf_e hb (fun q => by omega)
  unfold XN_remainder
  by_cases z : m = 0
  · subst z
    have ea : XN_sizeOf a = some a := by
      unfold XN_sizeOf
      rw [Sv_cmp ha dc0_v, itp cv_ge, if_pos (by unfold FP.Core.signed; cases s <;> simp)]
    have g0 : ¬ FP.Core.signed false k ≤ FP.Core.signed s 0 := by
      unfold FP.Core.signed
      cases s <;> simp <;> omega
    rw [ea, b1_s, eb, b1_s, show FU = 99999 + 1 from rfl]
    unfold XN_remainder_L15
    rw [if_neg (show ¬ (2200 : Int32) ≤ 0 by decide), Sv_cmp hb' ha, itp cv_gt, if_pos (by omega), show FU = 99999 + 1 from rfl]
    unfold XN_remainder_L45
    rw [if_pos (show (0 : Int32) ≤ 0 by decide), Sv_cmp ha dc0_v, itp cv_ge, if_pos (by unfold FP.Core.signed; cases s <;> simp), B93_e ha, if_pos rfl, Nat.zero_mod]
    exact ⟨a, rfl, ha⟩
  · obtain ⟨a', ea, ha'⟩ := sizeOf_e ha (fun q => absurd q z)
    rw [ea, b1_s, eb, b1_s]
    have big : m < k * 2 ^ (0 + 1290) := by
      rw [Nat.zero_add]
      exact Nat.lt_of_lt_of_le hm (Nat.le_mul_of_pos_left _ hk)
    obtain ⟨p', j', h1, h2, h3, h4, h5⟩ := rem_up (a := a) ha' hm 1290 FU b' 0 (by rw [Nat.pow_zero, Nat.mul_one]; exact hb') big (by omega) (by rw [FU_s]; omega)
    rw [nI_0] at h5
    obtain ⟨y, y1, y2⟩ := rem_dn (a := a) hb' j' FU a' p' m ha' h2 h3 h4 (by omega) (by rw [FU_s]; omega)
    rw [h5, y2, Sv_cmp ha dc0_v, itp cv_ge, show FP.Core.signed false 0 = 0 from rfl]
    cases s
    · rw [if_pos (by unfold FP.Core.signed; simp), B93_e y1]
      exact ⟨y, rfl, y1⟩
    · rw [if_neg (by unfold FP.Core.signed; simp only [if_true]; omega), B93_e (dneg_v y1)]
      exact ⟨_, rfl, dneg_v y1⟩
theorem drem_v {a b : UInt64} {s t : Bool} {m k : Nat} (ha : Sv a s m) (hb : Sv b t k) (hk : 0 < k) : Sv (FP.drem a b) s (m % k) := by
  obtain ⟨c, q, e1, f1, u1⟩ := ha
  obtain ⟨d, r, e2, f2, u2⟩ := hb
  have hd : d ≠ 0 := fun z => by
    rw [z] at u2
    unfold FP.Core.inUnits at u2
    rw [Nat.zero_mul] at u2
    omega
  obtain ⟨c', q', e3, u3⟩ := FP.Core.drem_exact e1 e2 hd
  have ft := FP.Core.val64_fits (FP.Core.drem a b)
  rw [e3] at ft
  exact ⟨c', q', e3, ft, by rw [u3, u1, u2]⟩
theorem frem_v {a b : UInt32} {s t : Bool} {m k : Nat} (ha : Sf a s m) (hb : Sf b t k) (hk : 0 < k) : Sf (FP.frem a b) s (m % k) := by
  obtain ⟨c, q, e1, f1, u1⟩ := ha
  obtain ⟨d, r, e2, f2, u2⟩ := hb
  have hd : d ≠ 0 := fun z => by
    rw [z] at u2
    unfold FP.Core.inUnits at u2
    rw [Nat.zero_mul] at u2
    omega
  obtain ⟨c', q', e3, u3⟩ := FP.Core.frem_exact e1 e2 hd
  have ft := FP.Core.val32_fits (FP.Core.frem a b)
  rw [e3] at ft
  exact ⟨c', q', e3, ft, by rw [u3, u1, u2]⟩
/-- x's remainder is the machine's, but for the sign of nothing -/
theorem rem_z {a b : UInt64} {s t : Bool} {m k : Nat} (ha : Sv a s m) (hb : Sv b t k) (hm : m < 2 ^ 1290) (hk : 0 < k) : XN_remainder a b = YM_zeroed (FP.drem a b) ∧ YM_zeroed (FP.drem a b) = some (if m % k = 0 then FP.dconst0 else FP.drem a b) := by
  obtain ⟨z, e, hz⟩ := remainder_e ha hb hm hk
  have hd := drem_v ha hb hk
  rw [zeroed_e hd, e, Sv_inj hz hd]
  exact ⟨rfl, rfl⟩
/-! ===== from double to float ===== -/
theorem d2f_v {l : UInt64} {s : Bool} {m : Nat} (h : Sv l s m) (hm : m ≤ 2 ^ 1107) : ∃ n, Sf (FP.d2f l) s n ∧ n ≤ 2 ^ 182 := by
  have hn : FP.Core.dIsNaN l = false := (Sv_fin h).notNaN
  obtain ⟨c, q, e, ft, u⟩ := h
  obtain ⟨V, hV⟩ := Sd_mk FP.Core.good_b32 false (c := 1) (q := 33) (by decide) (by decide) (by decide)
  have uV : FP.Core.inUnits 1 33 FP.Core.b32.qmin = 2 ^ 182 := by
    unfold FP.Core.inUnits
    rw [show ((33 : Int) - FP.Core.b32.qmin).toNat = 182 by decide, Nat.one_mul]
  rw [uV] at hV
  have ev : FP.Core.val32 (FP.Core.d2f l) = FP.Core.roundRatio FP.Core.b32 s c 1 q := by
    rw [FP.Core.val32_d2f, e]
    rfl
  have zl := FP.Core.zmag_roundRatio_le FP.Core.good_b32 (s := s) (A := c) (B := 1) (e := q) (e0 := FP.Core.b64.qmin) (V := V) (by decide) (Sd_fits hV) (Sd_nn hV) (by decide) ft.2.1 (by
    rw [(Sd_zmag hV).1, u, show (FP.Core.b32.qmin - FP.Core.b64.qmin).toNat = 925 by decide, Nat.mul_one, ← Nat.pow_add]
    exact hm)
  rw [(Sd_zmag hV).1, ← ev] at zl
  have ft32 := FP.Core.val32_fits (FP.Core.d2f l)
  rw [FP.d2f_core hn]
  rcases FP.Core.roundRatio_cases FP.Core.b32 s c 1 q with ⟨c', q', ec⟩ | ec
  · rw [← ev] at ec
    rw [ec] at ft32 zl
    exact ⟨_, ⟨c', q', ec, ft32, rfl⟩, zl⟩
  · rw [← ev] at ec
    rw [ec, show FP.Core.zmag FP.Core.b32 (.inf s) = FP.Core.b32.tails * 2 ^ (FP.Core.b32.exps - 2) from rfl] at zl
    exact absurd zl (by decide)
theorem Sf_le {a : UInt32} {s : Bool} {m K : Nat} (h : Sf a s m) (hK : 1 ≤ K) : (a.toNat % 2 ^ 31 ≤ K * 2 ^ 23) = (m ≤ 2 ^ (23 + (K - 1))) := by
  have b := Sf_bits h
  have u := FP.Core.unitsOf_start (f := FP.Core.b32) hK
  rw [FP.Core.tails_b32] at u
  rw [← b, Nat.pow_add, ← u]
  exact propext FP.Core.unitsOf_le_iff.symm
/-- x's cast to floats, and back -/
theorem fl_v {l : UInt64} (o : okc l) : ∃ s n, Sf (FP.d2f l) s n ∧ n ≤ 2 ^ 182 ∧ YM_castTo 2 l = some (if n = 0 then FP.dconst0 else FP.f2d (FP.d2f l)) ∧ Sv (if n = 0 then FP.dconst0 else FP.f2d (FP.d2f l)) (s && !decide (n = 0)) (n * 2 ^ 925) := by
  rw [okc_iff] at o
  obtain ⟨s, m, h, hm, hz⟩ := o
  obtain ⟨n, hn, ln⟩ := d2f_v h hm
  have f2 := f2d_v hn
  have z0 : (n * 2 ^ 925 = 0) = (n = 0) := propext ⟨fun q => (Nat.mul_eq_zero.mp q).resolve_right (Nat.ne_of_gt (Nat.two_pow_pos _)), fun q => by rw [q, Nat.zero_mul]⟩
  refine ⟨s, n, hn, ln, ?_, ?_⟩
  · show gd (nf (FP.d2f l)) (gd (nd (FP.f2d (FP.d2f l))) (b1 (YM_zeroed (FP.f2d (FP.d2f l))) (fun t5 => some t5))) = _
    rw [Sf_nf hn, gd_t, Sv_nd f2, gd_t, zeroed_e f2, b1_s, itp z0]
  · by_cases c : n = 0
    · rw [if_pos c, decide_eq_true c, c, Nat.zero_mul, Bool.not_true, Bool.and_false]
      exact dc0_v
    · rw [if_neg c, decide_eq_false c, Bool.not_false, Bool.and_true]
      exact f2
theorem pow_le_f {n : Nat} (h : n ≤ 2 ^ 182) : n * 2 ^ 925 ≤ 2 ^ 1107 := by
  rw [show (1107 : Nat) = 182 + 925 from rfl, Nat.pow_add]
  exact Nat.mul_le_mul_right _ h
theorem castTo_ok {f : Nat} (hf : f ≤ 3) {l : UInt64} (o : okc l) : ∃ x, YM_castTo (nI f) l = some x ∧ okc x := by
  have ff : f = 0 ∨ f = 1 ∨ f = 2 ∨ f = 3 := by omega
  rcases ff with rfl | rfl | rfl | rfl
  · exact ⟨_, rfl, okc_i2d _⟩
  · exact ⟨_, rfl, okc_i2d _⟩
  · obtain ⟨s, n, hn, ln, e, v⟩ := fl_v o
    refine ⟨_, e, ?_⟩
    rw [okc_iff]
    refine ⟨_, _, v, pow_le_f ln, fun z => ?_⟩
    have : n = 0 := (Nat.mul_eq_zero.mp z).resolve_right (Nat.ne_of_gt (Nat.two_pow_pos _))
    rw [decide_eq_true this, Bool.not_true, Bool.and_false]
  · exact ⟨l, rfl, o⟩
/-! what floats give, but for the sign of nothing -/
theorem sum_z {f : FP.Core.Fmt} (hf : FP.Core.Good f) {x y : FP.Core.Datum} {s t : Bool} {k : Nat} (hx : Sd f x s 0) (hy : Sd f y t k) : ∃ u, Sd f (FP.Core.round f (FP.Core.exactSum x y)) u k ∧ (¬ k = 0 → u = t) := by
  have zx := Sd_zval hx
  have zy := Sd_zval hy
  have hy' := hy
  obtain ⟨c, q, rfl, hfit, hu⟩ := hx
  obtain ⟨d, r, rfl, hfit2, hv⟩ := hy
  obtain ⟨sg, n, e, p1, p2, p3⟩ := FP.Core.sum_units hfit hfit2
  rw [p1]
  rw [zx, zy, FP.Core.signed_zero, Int.zero_add] at p3
  have hs : FP.Core.inUnits n e f.qmin = k ∧ (¬ k = 0 → sg = t) := by
    have h1 := congrArg Int.natAbs p3
    rw [FP.Core.natAbs_signed, FP.Core.natAbs_signed] at h1
    refine ⟨h1, fun z => ?_⟩
    rw [h1] at p3
    cases sg <;> cases t <;> simp only [FP.Core.signed, if_true, Bool.false_eq_true, if_false] at p3
    · rfl
    · omega
    · omega
    · rfl
  obtain ⟨hn, hs⟩ := hs
  obtain ⟨d', hd'⟩ := Sd_sgn hy' sg
  refine ⟨sg, ?_, hs⟩
  have : FP.Core.round f (.fin sg n e) = d' := by
    unfold FP.Core.round
    dsimp only
    refine RRx (e0 := f.qmin) hf hd' (by decide) p2 (Int.le_refl _) ?_
    rw [Int.sub_self, Int.toNat_zero, Nat.pow_zero, Nat.mul_one, Nat.mul_one, ← hn]
    rfl
  rw [this]
  exact hd'
theorem mul_z {f : FP.Core.Fmt} (hf : FP.Core.Good f) {x y : FP.Core.Datum} {s t : Bool} {k : Nat} (hx : Sd f x s 0) (hy : Sd f y t k) : ∃ u, Sd f (FP.Core.round f (FP.Core.exactProduct x y)) u 0 := by
  obtain ⟨c, q, rfl, hfit, hu⟩ := hx
  obtain ⟨d, r, rfl, hfit2, hv⟩ := hy
  have c0 : c = 0 := (Nat.mul_eq_zero.mp (show c * 2 ^ (q - f.qmin).toNat = 0 from hu)).resolve_right (Nat.ne_of_gt (Nat.two_pow_pos _))
  subst c0
  refine ⟨s != t, 0, f.qmin, ?_, FP.Core.zero_fits hf _, by unfold FP.Core.inUnits; rw [Nat.zero_mul]⟩
  show FP.Core.roundRatio f (s != t) (0 * d) 1 (q + r) = _
  unfold FP.Core.roundRatio
  rw [if_pos (Nat.zero_mul d)]
/-- two floats of the same worth -/
def Ze (a b : UInt32) : Prop := ∃ s t n, Sf a s n ∧ Sf b t n ∧ (¬ n = 0 → a = b)
theorem Ze_r {a : UInt32} {s : Bool} {n : Nat} (h : Sf a s n) : Ze a a := ⟨s, s, n, h, h, fun _ => rfl⟩
theorem Ze_of {a b : UInt32} {s t : Bool} {n : Nat} (h : Sf a s n) (h' : Sf b t n) (e : ¬ n = 0 → s = t) : Ze a b := ⟨s, t, n, h, h', fun z => by
  have := e z
  subst this
  exact Sf_inj h h'⟩
theorem Ze_add {a b a' b' : UInt32} (ha : Ze a a') (hb : Ze b b') (hf : FP.Core.FFin (FP.fadd a b)) : Ze (FP.fadd a b) (FP.fadd a' b') := by
  obtain ⟨s, s', n, a1, a2, a3⟩ := ha
  obtain ⟨t, t', k, b1', b2', b3⟩ := hb
  by_cases z : n = 0
  · subst z
    obtain ⟨u, h1, h2⟩ := sum_z FP.Core.good_b32 a1 b1'
    obtain ⟨u', h3, h4⟩ := sum_z FP.Core.good_b32 a2 b2'
    have e1 : Sf (FP.fadd a b) u k := by
      unfold Sf
      rw [show FP.fadd a b = FP.Core.fadd a b from rfl, FP.Core.val32_fadd]
      exact h1
    have e2 : Sf (FP.fadd a' b') u' k := by
      unfold Sf
      rw [show FP.fadd a' b' = FP.Core.fadd a' b' from rfl, FP.Core.val32_fadd]
      exact h3
    refine Ze_of e1 e2 fun z => ?_
    rw [h2 z, h4 z]
    have := b3 z
    subst this
    exact (Sd_u FP.Core.good_b32 b1' b2').1
  · have := a3 z
    subst this
    by_cases y : k = 0
    · subst y
      obtain ⟨u, h1, h2⟩ := sum_z FP.Core.good_b32 b1' a1
      obtain ⟨u', h3, h4⟩ := sum_z FP.Core.good_b32 b2' a1
      have e1 : Sf (FP.fadd a b) u n := by
        unfold Sf
        rw [show FP.fadd a b = FP.Core.fadd a b from rfl, FP.Core.val32_fadd, FP.Core.exactSum_comm]
        exact h1
      have e2 : Sf (FP.fadd a b') u' n := by
        unfold Sf
        rw [show FP.fadd a b' = FP.Core.fadd a b' from rfl, FP.Core.val32_fadd, FP.Core.exactSum_comm]
        exact h3
      exact Ze_of e1 e2 fun z => by rw [h2 z, h4 z]
    · have := b3 y
      subst this
      obtain ⟨u, m, h⟩ := Sf_of hf
      exact Ze_r h
theorem Ze_neg {a b : UInt32} (h : Ze a b) : Ze (FP.Core.fneg a) (FP.Core.fneg b) := by
  obtain ⟨s, t, n, h1, h2, h3⟩ := h
  refine ⟨!s, !t, n, ?_, ?_, fun z => by rw [h3 z]⟩
  · unfold Sf
    rw [FP.Core.val32_fneg]
    exact Sd_neg h1
  · unfold Sf
    rw [FP.Core.val32_fneg]
    exact Sd_neg h2
theorem Ze_sub {a b a' b' : UInt32} (ha : Ze a a') (hb : Ze b b') (hf : FP.Core.FFin (FP.fsub a b)) : Ze (FP.fsub a b) (FP.fsub a' b') := by
  rw [show FP.fsub a b = FP.fadd a (FP.Core.fneg b) from FP.Core.fsub_eq a b] at hf ⊢
  rw [show FP.fsub a' b' = FP.fadd a' (FP.Core.fneg b') from FP.Core.fsub_eq a' b']
  exact Ze_add ha (Ze_neg hb) hf
theorem Ze_mul {a b a' b' : UInt32} (ha : Ze a a') (hb : Ze b b') (hf : FP.Core.FFin (FP.fmul a b)) : Ze (FP.fmul a b) (FP.fmul a' b') := by
  obtain ⟨s, s', n, a1, a2, a3⟩ := ha
  obtain ⟨t, t', k, b1', b2', b3⟩ := hb
  by_cases z : n = 0
  · subst z
    obtain ⟨u, h1⟩ := mul_z FP.Core.good_b32 a1 b1'
    obtain ⟨u', h3⟩ := mul_z FP.Core.good_b32 a2 b2'
    refine ⟨u, u', 0, ?_, ?_, fun z => absurd rfl z⟩
    · unfold Sf
      rw [show FP.fmul a b = FP.Core.fmul a b from rfl, FP.Core.val32_fmul]
      exact h1
    · unfold Sf
      rw [show FP.fmul a' b' = FP.Core.fmul a' b' from rfl, FP.Core.val32_fmul]
      exact h3
  · have := a3 z
    subst this
    by_cases y : k = 0
    · subst y
      obtain ⟨u, h1⟩ := mul_z FP.Core.good_b32 b1' a1
      obtain ⟨u', h3⟩ := mul_z FP.Core.good_b32 b2' a1
      refine ⟨u, u', 0, ?_, ?_, fun z => absurd rfl z⟩
      · unfold Sf
        rw [show FP.fmul a b = FP.Core.fmul a b from rfl, FP.Core.val32_fmul, FP.Core.exactProduct_comm]
        exact h1
      · unfold Sf
        rw [show FP.fmul a b' = FP.Core.fmul a b' from rfl, FP.Core.val32_fmul, FP.Core.exactProduct_comm]
        exact h3
    · have := b3 y
      subst this
      obtain ⟨u, m, h⟩ := Sf_of hf
      exact Ze_r h
