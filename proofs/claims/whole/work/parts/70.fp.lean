/-! ===== numbers in units of the least one ===== -/
/-- a datum of sign s and m units -/
def Sd (f : FP.Core.Fmt) (d : FP.Core.Datum) (s : Bool) (m : Nat) : Prop := ∃ c q, d = .fin s c q ∧ FP.Core.fits f (.fin s c q) ∧ FP.Core.inUnits c q f.qmin = m
theorem U_eq {A B : Nat} {e q e0 : Int} (h1 : e0 ≤ e) (h2 : e0 ≤ q) (h : A * 2 ^ (e - e0).toNat = B * 2 ^ (q - e0).toNat) : A * 2 ^ (e - q).toNat = B * 2 ^ (q - e).toNat := by
  by_cases c : q ≤ e
  · rw [show (q - e).toNat = 0 by omega, Nat.pow_zero, Nat.mul_one]
    rw [show (e - e0).toNat = (e - q).toNat + (q - e0).toNat by omega, Nat.pow_add, ← Nat.mul_assoc] at h
    exact Nat.eq_of_mul_eq_mul_right (Nat.two_pow_pos _) h
  · rw [show (e - q).toNat = 0 by omega, Nat.pow_zero, Nat.mul_one]
    rw [show (q - e0).toNat = (q - e).toNat + (e - e0).toNat by omega, Nat.pow_add, ← Nat.mul_assoc] at h
    exact Nat.eq_of_mul_eq_mul_right (Nat.two_pow_pos _) h
theorem RRx {f : FP.Core.Fmt} (hf : FP.Core.Good f) {d : FP.Core.Datum} {s : Bool} {n A B : Nat} {e e0 : Int} (hd : Sd f d s n) (hB : 0 < B) (h1 : e0 ≤ e) (h2 : e0 ≤ f.qmin)
    (h : A * 2 ^ (e - e0).toNat = n * 2 ^ (f.qmin - e0).toNat * B) : FP.Core.roundRatio f s A B e = d := by
  obtain ⟨c, q, rfl, hfit, hu⟩ := hd
  have hq := hfit.2.1
  refine FP.Core.roundRatio_exact hf hB hfit ?_
  refine (U_eq (A := A) (B := c * B) h1 (show e0 ≤ q by omega) ?_)
  rw [h, ← hu]
  unfold FP.Core.inUnits
  rw [show (q - e0).toNat = (q - f.qmin).toNat + (f.qmin - e0).toNat by omega, Nat.pow_add]
  simp only [Nat.mul_assoc, Nat.mul_comm B]
theorem Sd_inj {f : FP.Core.Fmt} (hf : FP.Core.Good f) {d d' : FP.Core.Datum} {s : Bool} {m : Nat} (h : Sd f d s m) (h' : Sd f d' s m) : d = d' := by
  obtain ⟨c, q, rfl, hfit, hu⟩ := h
  rw [← FP.Core.round_of_fits hf hfit]
  refine RRx (e0 := f.qmin) hf h' (by decide) hfit.2.1 (Int.le_refl _) ?_
  rw [Int.sub_self, Int.toNat_zero, Nat.pow_zero, Nat.mul_one, Nat.mul_one, ← hu]
  rfl
theorem Sd_mk {f : FP.Core.Fmt} (hf : FP.Core.Good f) (s : Bool) {c : Nat} {q : Int} (hc : c < 2 ^ f.p) (h1 : f.qmin ≤ q) (h2 : q ≤ f.qmax) : ∃ d, Sd f d s (FP.Core.inUnits c q f.qmin) := by
  obtain ⟨c', q', e, u⟩ := FP.Core.round_exact hf s hc h1 h2
  have ft := FP.Core.round_fits hf (.fin s c q)
  rw [e] at ft
  exact ⟨_, c', q', rfl, ft, u⟩
theorem Sd_fits {f : FP.Core.Fmt} {d : FP.Core.Datum} {s : Bool} {m : Nat} (h : Sd f d s m) : FP.Core.fits f d := by
  obtain ⟨c, q, rfl, hfit, hu⟩ := h
  exact hfit
theorem Sd_sgn {f : FP.Core.Fmt} {d : FP.Core.Datum} {s : Bool} {m : Nat} (h : Sd f d s m) (t : Bool) : ∃ d', Sd f d' t m := by
  obtain ⟨c, q, rfl, hfit, hu⟩ := h
  exact ⟨.fin t c q, c, q, rfl, hfit, hu⟩
theorem Sd_neg {f : FP.Core.Fmt} {d : FP.Core.Datum} {s : Bool} {m : Nat} (h : Sd f d s m) : Sd f (FP.Core.negate d) (!s) m := by
  obtain ⟨c, q, rfl, hfit, hu⟩ := h
  exact ⟨c, q, rfl, hfit, hu⟩
theorem Sd_nn {f : FP.Core.Fmt} {d : FP.Core.Datum} {s : Bool} {m : Nat} (h : Sd f d s m) : d ≠ .nan := by
  obtain ⟨c, q, rfl, hfit, hu⟩ := h
  exact FP.Core.Datum.noConfusion
theorem Sd_zval {f : FP.Core.Fmt} {d : FP.Core.Datum} {s : Bool} {m : Nat} (h : Sd f d s m) : FP.Core.zval f d = FP.Core.signed s m := by
  obtain ⟨c, q, rfl, hfit, hu⟩ := h
  show FP.Core.signed s (FP.Core.inUnits c q f.qmin) = _
  rw [hu]
theorem Sd_zmag {f : FP.Core.Fmt} {d : FP.Core.Datum} {s : Bool} {m : Nat} (h : Sd f d s m) : FP.Core.zmag f d = m ∧ FP.Core.sgn d = s := by
  obtain ⟨c, q, rfl, hfit, hu⟩ := h
  exact ⟨hu, rfl⟩
theorem Sd_u {f : FP.Core.Fmt} (hf : FP.Core.Good f) {d : FP.Core.Datum} {s t : Bool} {m n : Nat} (h : Sd f d s m) (h' : Sd f d t n) : s = t ∧ m = n := by
  obtain ⟨a, b⟩ := Sd_zmag h
  obtain ⟨a', b'⟩ := Sd_zmag h'
  exact ⟨b.symm.trans b', a.symm.trans a'⟩
/-- by 2^k -/
theorem Sd_div {f : FP.Core.Fmt} (hf : FP.Core.Good f) {x d : FP.Core.Datum} {s : Bool} {m k : Nat} {r : Int} (hx : Sd f x s (m * 2 ^ k)) (hr : r = (k : Int) - ((f.p : Int) - 1)) (hd : Sd f d s m) :
    FP.Core.quotient f x (.fin false f.tails r) = d := by
  obtain ⟨c, q, rfl, hfit, hu⟩ := hx
  have hq := hfit.2.1
  have ht := FP.Core.tails_pos f
  have hp := hf.2
  show (if f.tails = 0 then _ else FP.Core.roundRatio f (s != false) c f.tails (q - r)) = d
  rw [if_neg (by omega), show (s != false) = s by cases s <;> rfl]
  refine RRx (e0 := f.qmin - (k : Int)) hf hd ht (by omega) (by omega) ?_
  rw [show (q - r - (f.qmin - (k : Int))).toNat = (q - f.qmin).toNat + (f.p - 1) by omega, Nat.pow_add, ← Nat.mul_assoc, show (f.qmin - (f.qmin - (k : Int))).toNat = k by omega]
  unfold FP.Core.inUnits at hu
  rw [hu]
  rfl
/-- times 2^k -/
theorem Sd_mul {f : FP.Core.Fmt} (hf : FP.Core.Good f) {x d : FP.Core.Datum} {s : Bool} {m k : Nat} {r : Int} (hx : Sd f x s m) (hr : r = (k : Int) - ((f.p : Int) - 1)) (hd : Sd f d s (m * 2 ^ k)) :
    FP.Core.round f (FP.Core.exactProduct x (.fin false f.tails r)) = d := by
  obtain ⟨c, q, rfl, hfit, hu⟩ := hx
  have hq := hfit.2.1
  have hp := hf.2
  unfold FP.Core.exactProduct FP.Core.round
  dsimp only
  rw [show (s != false) = s by cases s <;> rfl]
  refine RRx (e0 := f.qmin - ((f.p : Int) - 1)) hf hd (by decide) (by omega) (by omega) ?_
  rw [show (q + r - (f.qmin - ((f.p : Int) - 1))).toNat = (q - f.qmin).toNat + k by omega, Nat.pow_add, show (f.qmin - (f.qmin - ((f.p : Int) - 1))).toNat = f.p - 1 by omega, Nat.mul_one, ← hu]
  unfold FP.Core.inUnits FP.Core.Fmt.tails
  simp only [Nat.mul_assoc, Nat.mul_comm, Nat.mul_left_comm]
theorem Sd_shl {f : FP.Core.Fmt} (hf : FP.Core.Good f) {x : FP.Core.Datum} {s : Bool} {m k B : Nat} (hx : Sd f x s m) (hm : m < 2 ^ B) (hB : (B : Int) + (k : Int) ≤ f.qmax - f.qmin) : ∃ d, Sd f d s (m * 2 ^ k) := by
  obtain ⟨c, q, rfl, hfit, hu⟩ := hx
  have hq := hfit.2.1
  have hp := hf.2
  by_cases z : c = 0
  · subst z
    obtain ⟨d, hd⟩ := Sd_mk hf s (c := 0) (q := f.qmin) (Nat.two_pow_pos _) (Int.le_refl _) (by have := FP.Core.qmax_qmin f; have := FP.Core.emax_pos hf; omega)
    refine ⟨d, ?_⟩
    have e : m * 2 ^ k = FP.Core.inUnits 0 f.qmin f.qmin := by
      rw [← hu]
      unfold FP.Core.inUnits
      rw [Nat.zero_mul, Nat.zero_mul, Nat.zero_mul]
    rw [e]
    exact hd
  · have hb : (q - f.qmin).toNat < B := by
      refine (Nat.pow_lt_pow_iff_right (by decide : 1 < 2)).mp (Nat.lt_of_le_of_lt ?_ hm)
      rw [← hu]
      exact Nat.le_mul_of_pos_left _ (by omega)
    obtain ⟨d, hd⟩ := Sd_mk hf s (c := c) (q := q + (k : Int)) hfit.1 (by omega) (by omega)
    refine ⟨d, ?_⟩
    have e : m * 2 ^ k = FP.Core.inUnits c (q + (k : Int)) f.qmin := by
      rw [← hu]
      unfold FP.Core.inUnits
      rw [show (q + (k : Int) - f.qmin).toNat = (q - f.qmin).toNat + k by omega, Nat.pow_add, Nat.mul_assoc]
    rw [e]
    exact hd
/-- what is great enough has a 2^k-th part -/
theorem Sd_shr {f : FP.Core.Fmt} (hf : FP.Core.Good f) {x : FP.Core.Datum} {s : Bool} {m k : Nat} (hx : Sd f x s m) (hm : 2 ^ (f.p + k) ≤ m) : ∃ d n, Sd f d s n ∧ m = n * 2 ^ k := by
  obtain ⟨c, q, rfl, hfit, hu⟩ := hx
  have hq := hfit.2.1
  have hp := hf.2
  have hb : k < (q - f.qmin).toNat := by
    have h1 : 2 ^ (f.p + k) < 2 ^ (f.p + (q - f.qmin).toNat) := by
      refine Nat.lt_of_le_of_lt hm ?_
      rw [← hu, Nat.pow_add]
      exact Nat.mul_lt_mul_of_pos_right hfit.1 (Nat.two_pow_pos _)
    have := (Nat.pow_lt_pow_iff_right (by decide : 1 < 2)).mp h1
    omega
  obtain ⟨d, hd⟩ := Sd_mk hf s (c := c) (q := q - (k : Int)) hfit.1 (by omega) (by have := hfit.2.2.1; omega)
  refine ⟨d, _, hd, ?_⟩
  rw [← hu]
  unfold FP.Core.inUnits
  rw [show (q - f.qmin).toNat = (q - (k : Int) - f.qmin).toNat + k by omega, Nat.pow_add, Nat.mul_assoc]
theorem Sd_diff {f : FP.Core.Fmt} (hf : FP.Core.Good f) {x y : FP.Core.Datum} {m k : Nat} (hx : Sd f x false m) (hy : Sd f y false k) (h1 : k ≤ m) (h2 : m ≤ 2 * k) : ∃ d, Sd f d false (m - k) := by
  obtain ⟨c, q, rfl, hfit, hu⟩ := hx
  obtain ⟨d, r, rfl, hfit2, hv⟩ := hy
  have hq := hfit.2.1
  have hr := hfit2.2.1
  have hq2 := hfit.2.2.1
  have hr2 := hfit2.2.2.1
  have e1 := FP.Core.inUnits_move c (q := q) (e := f.qmin) (r := min q r) (by omega) (by omega)
  have e2 := FP.Core.inUnits_move d (q := r) (e := f.qmin) (r := min q r) (by omega) (by omega)
  rw [hu] at e1
  rw [hv] at e2
  have hP := Nat.two_pow_pos (min q r - f.qmin).toNat
  have l1 : FP.Core.inUnits d r (min q r) ≤ FP.Core.inUnits c q (min q r) := by
    refine Nat.le_of_mul_le_mul_right ?_ hP
    rw [← e1, ← e2]
    exact h1
  have l2 : FP.Core.inUnits c q (min q r) ≤ 2 * FP.Core.inUnits d r (min q r) := by
    refine Nat.le_of_mul_le_mul_right ?_ hP
    rw [← e1, Nat.mul_assoc, ← e2]
    exact h2
  have hn : FP.Core.inUnits c q (min q r) - FP.Core.inUnits d r (min q r) < 2 ^ f.p := by
    by_cases z : q ≤ r
    · have : FP.Core.inUnits c q (min q r) = c := by
        unfold FP.Core.inUnits
        rw [show (q - min q r).toNat = 0 by omega, Nat.pow_zero, Nat.mul_one]
      have := hfit.1
      omega
    · have : FP.Core.inUnits d r (min q r) = d := by
        unfold FP.Core.inUnits
        rw [show (r - min q r).toNat = 0 by omega, Nat.pow_zero, Nat.mul_one]
      have := hfit2.1
      omega
  obtain ⟨z, hz⟩ := Sd_mk hf false hn (show f.qmin ≤ min q r by omega) (show min q r ≤ f.qmax by omega)
  refine ⟨z, ?_⟩
  have e : m - k = FP.Core.inUnits (FP.Core.inUnits c q (min q r) - FP.Core.inUnits d r (min q r)) (min q r) f.qmin := by
    rw [e1, e2, ← Nat.sub_mul]
    rfl
  rw [e]
  exact hz
theorem Sd_sub {f : FP.Core.Fmt} (hf : FP.Core.Good f) {x y d : FP.Core.Datum} {m k : Nat} (hx : Sd f x false m) (hy : Sd f y false k) (h1 : k < m) (hd : Sd f d false (m - k)) :
    FP.Core.round f (FP.Core.exactSum x (FP.Core.negate y)) = d := by
  have zx := Sd_zval hx
  have zy := Sd_zval (Sd_neg hy)
  obtain ⟨c, q, rfl, hfit, hu⟩ := hx
  obtain ⟨d', r, rfl, hfit2, hv⟩ := hy
  obtain ⟨sg, n, e, p1, p2, p3⟩ := FP.Core.sum_units hfit (show FP.Core.fits f (.fin (!false) d' r) from hfit2)
  rw [show FP.Core.negate (.fin false d' r) = .fin (!false) d' r from rfl] at zy ⊢
  rw [p1]
  rw [zx, zy] at p3
  have hs : sg = false ∧ FP.Core.inUnits n e f.qmin = m - k := by
    cases sg <;> simp only [FP.Core.signed, if_true, Bool.false_eq_true, if_false, Bool.not_false] at p3
    · exact ⟨rfl, by omega⟩
    · omega
  obtain ⟨rfl, hn⟩ := hs
  unfold FP.Core.round
  dsimp only
  refine RRx (e0 := f.qmin) hf hd (by decide) p2 (Int.le_refl _) ?_
  rw [Int.sub_self, Int.toNat_zero, Nat.pow_zero, Nat.mul_one, Nat.mul_one, ← hn]
  rfl
/-! ===== doubles ===== -/
def Sv (a : UInt64) (s : Bool) (m : Nat) : Prop := Sd FP.Core.b64 (FP.Core.val64 a) s m
def Sf (a : UInt32) (s : Bool) (m : Nat) : Prop := Sd FP.Core.b32 (FP.Core.val32 a) s m
theorem Sv_inj {a b : UInt64} {s : Bool} {m : Nat} (h : Sv a s m) (h' : Sv b s m) : a = b := FP.Core.val64_inj (Sd_nn h) (Sd_inj FP.Core.good_b64 h h')
theorem Sf_inj {a b : UInt32} {s : Bool} {m : Nat} (h : Sf a s m) (h' : Sf b s m) : a = b := FP.Core.val32_inj (Sd_nn h) (Sd_inj FP.Core.good_b32 h h')
theorem Sv_of {a : UInt64} (h : FP.Core.DFin a) : ∃ s m, Sv a s m := by
  obtain ⟨s, c, q, h⟩ := h
  have := FP.Core.val64_fits a
  rw [h] at this
  exact ⟨s, _, c, q, h, this, rfl⟩
theorem Sf_of {a : UInt32} (h : FP.Core.FFin a) : ∃ s m, Sf a s m := by
  obtain ⟨s, c, q, h⟩ := h
  have := FP.Core.val32_fits a
  rw [h] at this
  exact ⟨s, _, c, q, h, this, rfl⟩
theorem Sv_fin {a : UInt64} {s : Bool} {m : Nat} (h : Sv a s m) : FP.Core.DFin a := by
  obtain ⟨c, q, h, _, _⟩ := h
  exact ⟨s, c, q, h⟩
theorem Sf_fin {a : UInt32} {s : Bool} {m : Nat} (h : Sf a s m) : FP.Core.FFin a := by
  obtain ⟨c, q, h, _, _⟩ := h
  exact ⟨s, c, q, h⟩
theorem Sv_d {d : FP.Core.Datum} {s : Bool} {m : Nat} (h : Sd FP.Core.b64 d s m) : ∃ a, Sv a s m := ⟨FP.Core.of64 d, by unfold Sv; rw [FP.Core.val64_of64 (Sd_fits h)]; exact h⟩
theorem Sv_cmp {a b : UInt64} {s t : Bool} {m k : Nat} (h : Sv a s m) (h' : Sv b t k) : FP.dcmp a b = some (compare (FP.Core.signed s m) (FP.Core.signed t k)) := by
  rw [show FP.dcmp a b = FP.Core.dcmp a b from rfl, FP.Core.dcmp_zval (Sd_nn h) (Sd_nn h'), Sd_zval h, Sd_zval h']
theorem Sf_cmp {a b : UInt32} {s t : Bool} {m k : Nat} (h : Sf a s m) (h' : Sf b t k) : FP.fcmp a b = some (compare (FP.Core.signed s m) (FP.Core.signed t k)) := by
  rw [show FP.fcmp a b = FP.Core.order (FP.Core.val32 a) (FP.Core.val32 b) from rfl, FP.Core.order_zval FP.Core.good_b32 (FP.Core.val32_fits a) (FP.Core.val32_fits b) (Sd_nn h) (Sd_nn h'), Sd_zval h, Sd_zval h']
theorem cv_lt {a b : Int} {op : CmpOp} : (Op.cmpValue (some (compare a b)) op < 0) = (a < b) := by
  rw [FP.Core.compare_ite]
  by_cases h : a < b
  · rw [if_pos h]
    exact propext ⟨fun _ => h, fun _ => by cases op <;> decide⟩
  · rw [if_neg h]
    refine propext ⟨fun q => ?_, fun q => absurd q h⟩
    split at q <;> exact absurd q (by cases op <;> decide)
theorem cv_eq {a b : Int} {op : CmpOp} : (Op.cmpValue (some (compare a b)) op = 0) = (a = b) := by
  rw [FP.Core.compare_ite]
  by_cases h : a < b
  · rw [if_pos h]
    exact propext ⟨fun q => absurd q (by cases op <;> decide), fun q => by omega⟩
  · rw [if_neg h]
    by_cases e : a = b
    · rw [if_pos e]
      exact propext ⟨fun _ => e, fun _ => rfl⟩
    · rw [if_neg e]
      exact propext ⟨fun q => absurd q (by cases op <;> decide), fun q => absurd q e⟩
theorem cv_ge {a b : Int} {op : CmpOp} : (0 ≤ Op.cmpValue (some (compare a b)) op) = (b ≤ a) := by
  have := cv_lt (a := a) (b := b) (op := op)
  refine propext ⟨fun q => ?_, fun q => ?_⟩
  · refine Int.not_lt.mp fun z => ?_
    rw [← this] at z
    exact absurd z (Int32.not_lt.mpr q)
  · refine Int32.not_lt.mp fun z => ?_
    rw [this] at z
    omega
theorem cv_le {a b : Int} {op : CmpOp} : (Op.cmpValue (some (compare a b)) op ≤ 0) = (a ≤ b) := by
  rw [FP.Core.compare_ite]
  by_cases h : a < b
  · rw [if_pos h]
    exact propext ⟨fun _ => by omega, fun _ => by cases op <;> decide⟩
  · rw [if_neg h]
    by_cases e : a = b
    · rw [if_pos e]
      exact propext ⟨fun _ => by omega, fun _ => by cases op <;> decide⟩
    · rw [if_neg e]
      exact propext ⟨fun q => absurd q (by cases op <;> decide), fun q => by omega⟩
theorem cv_gt {a b : Int} {op : CmpOp} : (0 < Op.cmpValue (some (compare a b)) op) = (b < a) := by
  have := cv_le (a := a) (b := b) (op := op)
  refine propext ⟨fun q => ?_, fun q => ?_⟩
  · refine Int.not_le.mp fun z => ?_
    rw [← this] at z
    exact absurd z (Int32.not_le.mpr q)
  · refine Int32.not_le.mp fun z => ?_
    rw [this] at z
    omega
theorem nd_iff (a : UInt64) : (nd a = true) = (FP.Core.val64 a ≠ .nan) := by
  unfold nd
  rw [decide_eq_true_eq, UInt64.le_iff_toNat_le, FP.Core.mask_toNat]
  exact propext (FP.Core.ne_nan a).symm
theorem Sv_nd {a : UInt64} {s : Bool} {m : Nat} (h : Sv a s m) : nd a = true := by
  rw [nd_iff]
  exact Sd_nn h
theorem nf_iff (a : UInt32) : (nf a = true) = (FP.Core.val32 a ≠ .nan) := by
  unfold nf
  rw [decide_eq_true_eq, UInt32.le_iff_toNat_le, FP.Core.ne_nan32, UInt32.toNat_and, show (0x7fffffff : UInt32).toNat = 2 ^ 31 - 1 from rfl, Nat.and_two_pow_sub_one_eq_mod]
  rfl
theorem Sf_nf {a : UInt32} {s : Bool} {m : Nat} (h : Sf a s m) : nf a = true := by
  rw [nf_iff]
  exact Sd_nn h
/-! bounds -/
theorem Sv_bits {a : UInt64} {s : Bool} {m : Nat} (h : Sv a s m) : FP.Core.unitsOf FP.Core.b64 (a.toNat % 2 ^ 63) = m ∧ s = decide (2 ^ 63 ≤ a.toNat) := by
  obtain ⟨z1, z2⟩ := Sd_zmag h
  exact ⟨(FP.Core.zmag_bits (Sd_nn h)).symm.trans z1, z2.symm.trans (FP.Core.sgn_bits (Sd_nn h))⟩
theorem Sv_le {a : UInt64} {s : Bool} {m K : Nat} (h : Sv a s m) (hK : 1 ≤ K) : (a.toNat % 2 ^ 63 ≤ K * 2 ^ 52) = (m ≤ 2 ^ (52 + (K - 1))) := by
  have b := (Sv_bits h).1
  have u := FP.Core.unitsOf_start (f := FP.Core.b64) hK
  rw [FP.Core.tails_b64] at u
  rw [← b, Nat.pow_add, ← u]
  exact propext FP.Core.unitsOf_le_iff.symm
theorem okc_iff (a : UInt64) : okc a = ∃ s m, Sv a s m ∧ m ≤ 2 ^ 1107 ∧ (m = 0 → s = false) := by
  have hl := a.toNat_lt
  unfold okc
  refine propext ⟨fun ⟨h1, h2⟩ => ?_, fun ⟨s, m, h, h1, h2⟩ => ?_⟩
  · obtain ⟨s, m, h⟩ := Sv_of ((FP.Core.fin_bits a).mpr (by omega))
    refine ⟨s, m, h, by rw [Sv_le h (by decide)] at h1; exact h1, fun z => ?_⟩
    obtain ⟨b, c⟩ := Sv_bits h
    rw [z, FP.Core.unitsOf_eq_zero] at b
    rw [c]
    exact decide_eq_false (by omega)
  · refine ⟨by rw [Sv_le h (by decide)]; exact h1, fun z => ?_⟩
    obtain ⟨b, c⟩ := Sv_bits h
    have : m = 0 := by
      rw [← b, z]
      exact FP.Core.unitsOf_zero _
    have := h2 this
    rw [c, z] at this
    exact absurd this (by decide)
theorem dc0_v : Sv FP.dconst0 false 0 := ⟨0, _, FP.Core.val64_zero, FP.Core.zero_fits FP.Core.good_b64 false, by unfold FP.Core.inUnits; rw [Nat.zero_mul]⟩
theorem okc_nz {v : UInt64} {s : Bool} {m : Nat} (o : okc v) (h : Sv v s m) : m ≤ 2 ^ 1107 ∧ (m = 0 → s = false) := by
  rw [okc_iff] at o
  obtain ⟨s', m', h', h1, h2⟩ := o
  obtain ⟨rfl, rfl⟩ := Sd_u FP.Core.good_b64 h h'
  exact ⟨h1, h2⟩
/-- plain -/
theorem XN_plain_e {a : UInt64} {s : Bool} {m : Nat} (h : Sv a s m) : XN_plain a = some (if m = 0 then FP.dconst0 else a) := by
  unfold XN_plain
  rw [Sv_cmp h dc0_v, itp cv_eq, show FP.Core.signed false 0 = 0 from rfl, itp (propext (FP.Core.signed_eq_zero _ _))]
  split <;> rfl
theorem zeroed_e {a : UInt64} {s : Bool} {m : Nat} (h : Sv a s m) : YM_zeroed a = some (if m = 0 then FP.dconst0 else a) := by
  unfold YM_zeroed
  rw [Sv_cmp h dc0_v, itp cv_eq, show FP.Core.signed false 0 = 0 from rfl, itp (propext (FP.Core.signed_eq_zero _ _))]
  split <;> rfl
theorem XN_cast_e (f : Int32) (v : UInt64) : XN_cast f v = YM_castTo f v := rfl
theorem dneg_v {a : UInt64} {s : Bool} {m : Nat} (h : Sv a s m) : Sv (FP.dneg a) (!s) m := by
  unfold Sv
  rw [FP.val64_dneg]
  exact Sd_neg h
theorem sizeOf_e {a : UInt64} {s : Bool} {m : Nat} (h : Sv a s m) (hz : m = 0 → s = false) : ∃ b, XN_sizeOf a = some b ∧ Sv b false m := by
  unfold XN_sizeOf
  rw [Sv_cmp h dc0_v, itp cv_ge, show FP.Core.signed false 0 = 0 from rfl]
  cases s
  · rw [if_pos (by unfold FP.Core.signed; simp)]
    exact ⟨a, rfl, h⟩
  · rw [if_neg (by unfold FP.Core.signed; simp only [if_true]; have : ¬ m = 0 := fun z => absurd (hz z) (by decide); omega)]
    exact ⟨_, rfl, dneg_v h⟩
/-! numbers of ints -/
theorem i2d_v (x : Int32) : ∃ m, Sv (FP.i2d x) (decide (x.toInt < 0)) m ∧ m = x.toInt.natAbs * 2 ^ 1074 := by
  obtain ⟨s, m, h⟩ : ∃ s m, Sv (FP.i2d x) s m := Sv_of (FP.Core.i2d_fin x)
  have z := FP.Core.whole_zval FP.Core.good_b64 (FP.Core.val64_fits _) (FP.Core.i2d_int x)
  rw [Sd_zval h, FP.Core.pow_qmin64] at z
  have zm : m = x.toInt.natAbs * 2 ^ 1074 := by
    have := congrArg Int.natAbs z
    rw [FP.Core.natAbs_signed, Int.natAbs_mul] at this
    exact this
  refine ⟨m, ?_, zm⟩
  by_cases c : x = 0
  · subst c
    rw [show FP.i2d 0 = FP.dconst0 by decide +kernel] at h ⊢
    have := Sd_u FP.Core.good_b64 h dc0_v
    rw [this.2]
    exact dc0_v
  · have hs : s = decide (x.toInt < 0) := by
      have hx := FP.Core.int32_ne c
      have hm : 0 < m := by
        rw [zm]
        exact Nat.mul_pos (by omega) (Nat.two_pow_pos _)
      have ho : (0 : Int) < (FP.Core.one64 : Int) := by
        have := FP.Core.one64_pos
        omega
      cases s
      · refine (decide_eq_false fun q => ?_).symm
        have : x.toInt * (FP.Core.one64 : Int) < 0 := Int.mul_neg_of_neg_of_pos q ho
        rw [← z] at this
        unfold FP.Core.signed at this
        simp at this
        omega
      · refine (decide_eq_true ?_).symm
        refine Int.not_le.mp fun q => ?_
        have : 0 ≤ x.toInt * (FP.Core.one64 : Int) := Int.mul_nonneg q (by omega)
        rw [← z] at this
        unfold FP.Core.signed at this
        simp at this
        omega
    rw [← hs]
    exact h
theorem okc_i2d (x : Int32) : okc (FP.i2d x) := by
  rw [okc_iff]
  obtain ⟨m, h, e⟩ := i2d_v x
  refine ⟨_, m, h, ?_, fun z => ?_⟩
  · have := FP.Core.int32_abs x
    rw [e, show (1107 : Nat) = 33 + 1074 from rfl, Nat.pow_add]
    refine Nat.mul_le_mul_right _ ?_
    omega
  · rw [e] at z
    refine decide_eq_false ?_
    rcases Nat.mul_eq_zero.mp z with z | z
    · omega
    · exact absurd z (Nat.ne_of_gt (Nat.two_pow_pos _))
/-- a float as a double -/
theorem f2d_v {a : UInt32} {s : Bool} {m : Nat} (h : Sf a s m) : Sv (FP.f2d a) s (m * 2 ^ 925) := by
  have hn : FP.Core.fIsNaN a = false := (Sf_fin h).notNaN
  rw [FP.f2d_core hn]
  unfold Sv
  rw [FP.Core.val64_f2d]
  obtain ⟨c, q, e, ft, u⟩ := h
  rw [e]
  obtain ⟨d, hd⟩ := Sd_mk FP.Core.good_b64 s (c := c) (q := q) (Nat.lt_of_lt_of_le ft.1 (by decide)) (Int.le_trans (by decide) ft.2.1) (Int.le_trans ft.2.2.1 (by decide))
  have hu : FP.Core.inUnits c q FP.Core.b64.qmin = m * 2 ^ 925 := by
    rw [← u, FP.Core.inUnits_move c (q := q) (e := FP.Core.b64.qmin) (r := FP.Core.b32.qmin) (by decide) ft.2.1]
    unfold FP.Core.inUnits
    rw [show (FP.Core.b32.qmin - FP.Core.b64.qmin).toNat = 925 by decide]
  rw [hu] at hd
  have : FP.Core.round FP.Core.b64 (.fin s c q) = d := by
    refine RRx (e0 := FP.Core.b64.qmin) FP.Core.good_b64 hd (by decide) (Int.le_trans (by decide) ft.2.1) (Int.le_refl _) ?_
    rw [Int.sub_self, Int.toNat_zero, Nat.pow_zero, Nat.mul_one, Nat.mul_one, ← hu]
    rfl
  rw [this]
  exact hd
