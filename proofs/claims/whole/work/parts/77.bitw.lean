/-! ===== words of bits ===== -/
theorem nI_tb (m : Nat) : (nI m).toBitVec = BitVec.ofNat 32 m := rfl
theorem nI_or (a b : Nat) : nI a ||| nI b = nI (a ||| b) := by
  refine Int32.toBitVec_inj.mp ?_
  rw [Int32.toBitVec_or, nI_tb, nI_tb, nI_tb]
  exact (BitVec.ofNat_or ..).symm
theorem nI_and (a b : Nat) : nI a &&& nI b = nI (a &&& b) := by
  refine Int32.toBitVec_inj.mp ?_
  rw [Int32.toBitVec_and, nI_tb, nI_tb, nI_tb]
  exact (BitVec.ofNat_and ..).symm
theorem sm32 : ∀ i, i < 24 → ((nI i &&& 31).toBitVec.smod 32).toNat = i := by decide +kernel
theorem bit_e {m i : Nat} (hm : m < 2 ^ 31) (hi : i < 24) : (nI m >>> (nI i &&& 31)) &&& 1 = bi (m.testBit i) := by
  rw [pk_shrN hm _ i (sm32 i hi), pk_and (nI (m / 2 ^ i)) 1 (by decide), pk_tn (Nat.lt_of_le_of_lt (Nat.div_le_self _ _) (by omega))]
  unfold Nat.testBit
  rw [Nat.shiftRight_eq_div_pow]
  rcases Nat.mod_two_eq_zero_or_one (m / 2 ^ i) with h | h
  · rw [h, Nat.and_comm, Nat.and_one_is_mod, h]
    rfl
  · rw [h, Nat.and_comm, Nat.and_one_is_mod, h]
    rfl
/-- a word without a bit -/
def clr (m i : Nat) : Nat := m &&& (2 ^ 24 - 1 - 2 ^ i)
theorem clr_e {m i : Nat} (hm : m < 2 ^ 24) (hi : i < 24) : nI m &&& ((1 <<< (nI i &&& 31)) ^^^ (-1)) = nI (clr m i) := by
  have h : ∀ i, i < 24 → ((1 : Int32) <<< (nI i &&& 31)) ^^^ (-1) = nI (2 ^ 32 - 1 - 2 ^ i) := by decide +kernel
  rw [h i hi, nI_and]
  refine congrArg nI ?_
  unfold clr
  refine Nat.eq_of_testBit_eq fun j => ?_
  have e1 : (2 ^ 32 - 1 - 2 ^ i).testBit j = (decide (j < 32) && !decide (j = i)) := by
    have : ∀ i, i < 24 → ∀ j, j < 32 → (2 ^ 32 - 1 - 2 ^ i).testBit j = !decide (j = i) := by decide +kernel
    by_cases q : j < 32
    · rw [this i hi j q, decide_eq_true q, Bool.true_and]
    · rw [decide_eq_false q, Bool.false_and]
      exact Nat.testBit_lt_two_pow (Nat.lt_of_lt_of_le (by have := Nat.two_pow_pos i; omega) (Nat.pow_le_pow_right (by decide) (show 32 ≤ j by omega)))
  have e2 : (2 ^ 24 - 1 - 2 ^ i).testBit j = (decide (j < 24) && !decide (j = i)) := by
    have : ∀ i, i < 24 → ∀ j, j < 24 → (2 ^ 24 - 1 - 2 ^ i).testBit j = !decide (j = i) := by decide +kernel
    by_cases q : j < 24
    · rw [this i hi j q, decide_eq_true q, Bool.true_and]
    · rw [decide_eq_false q, Bool.false_and]
      exact Nat.testBit_lt_two_pow (Nat.lt_of_lt_of_le (by have := Nat.two_pow_pos i; omega) (Nat.pow_le_pow_right (by decide) (show 24 ≤ j by omega)))
  rw [Nat.testBit_and, Nat.testBit_and, e1, e2]
  by_cases q : j < 24
  · rw [decide_eq_true q, decide_eq_true (show j < 32 by omega)]
  · have : m.testBit j = false := Nat.testBit_lt_two_pow (Nat.lt_of_lt_of_le hm (Nat.pow_le_pow_right (by decide) (show 24 ≤ j by omega)))
    rw [this, Bool.false_and, Bool.false_and]
theorem clr_t {m i : Nat} (hm : m < 2 ^ 24) (hi : i < 24) (j : Nat) : (clr m i).testBit j = (m.testBit j && !decide (j = i)) := by
  unfold clr
  have e2 : (2 ^ 24 - 1 - 2 ^ i).testBit j = (decide (j < 24) && !decide (j = i)) := by
    have : ∀ i, i < 24 → ∀ j, j < 24 → (2 ^ 24 - 1 - 2 ^ i).testBit j = !decide (j = i) := by decide +kernel
    by_cases q : j < 24
    · rw [this i hi j q, decide_eq_true q, Bool.true_and]
    · rw [decide_eq_false q, Bool.false_and]
      exact Nat.testBit_lt_two_pow (Nat.lt_of_lt_of_le (by have := Nat.two_pow_pos i; omega) (Nat.pow_le_pow_right (by decide) (show 24 ≤ j by omega)))
  rw [Nat.testBit_and, e2]
  by_cases q : j < 24
  · rw [decide_eq_true q, Bool.true_and]
  · have : m.testBit j = false := Nat.testBit_lt_two_pow (Nat.lt_of_lt_of_le hm (Nat.pow_le_pow_right (by decide) (show 24 ≤ j by omega)))
    rw [this, Bool.false_and, Bool.false_and]
theorem clr_lt {m i : Nat} (hm : m < 2 ^ 24) : clr m i < 2 ^ 24 := Nat.lt_of_le_of_lt Nat.and_le_left hm
theorem tb_hi {m j : Nat} (hm : m < 2 ^ 24) (h : m.testBit j = true) : j < 24 := Nat.lt_of_not_le fun q => by
  rw [Nat.testBit_lt_two_pow (Nat.lt_of_lt_of_le hm (Nat.pow_le_pow_right (by decide) q))] at h
  exact absurd h (by decide)
/-- how many bits there are from l on, of n -/
def pc (m : Nat) : Nat → Nat → Nat
  | _, 0 => 0
  | l, n + 1 => (m.testBit l).toNat + pc m (l + 1) n
theorem pc_le (m : Nat) : ∀ n l, pc m l n ≤ n
  | 0, _ => Nat.le_refl _
  | n + 1, l => by
    have := pc_le m n (l + 1)
    have : (m.testBit l).toNat ≤ 1 := by cases m.testBit l <;> decide
    unfold pc
    omega
theorem YM_size_L4_e {m : Nat} (hm : m < 2 ^ 24) : ∀ n f l s, l + n = 24 → n < f → YM_size_L4 f (nI m) (nI s) (nI l) = some (nI (s + pc m l n))
  | _, 0, _, _, _, q => absurd q (Nat.not_lt_zero _)
  | 0, f + 1, l, s, e, _ => by
    unfold YM_size_L4
    rw [show (24 : Int32) = nI 24 from rfl, if_pos (nI_le (by omega) (by omega))]
    rfl
  | n + 1, f + 1, l, s, e, q => by
    unfold YM_size_L4
    have b : bi (m.testBit l) = nI (m.testBit l).toNat := by cases m.testBit l <;> rfl
    rw [show (24 : Int32) = nI 24 from rfl, if_neg (nI_ge (by omega) (by omega)), bit_e (by omega) (by omega), b, nI_add, nI_1, YM_size_L4_e hm n f (l + 1) _ (by omega) (by omega)]
    refine congrArg some (congrArg nI ?_)
    show _ = s + ((m.testBit l).toNat + pc m (l + 1) n)
    omega
theorem YM_size_e {m : Nat} (hm : m < 2 ^ 24) : YM_size (nI m) = some (nI (pc m 0 24)) := by
  unfold YM_size
  have := YM_size_L4_e hm 24 FU 0 0 (by omega) (by rw [FU_s]; omega)
  rw [Nat.zero_add] at this
  exact this
/-! the library's own count -/
theorem iushr_n {a : Nat} (ha : a < 2 ^ 32) (k : Nat) (hk : k < 24) : iushr (nI a) (nI k) = nI (a / 2 ^ k) := by
  have : ∀ k, k < 24 → (((nI k).toUInt32 &&& Int32.toUInt32 31).toBitVec % 32).toNat = k := by decide +kernel
  exact pk_ushrN ha _ k (this k hk)
theorem and_split {a b p q : Nat} (ha : a < 2 ^ 8) (hp : p < 2 ^ 8) : (2 ^ 8 * b + a) &&& (2 ^ 8 * q + p) = 2 ^ 8 * (b &&& q) + (a &&& p) := by
  refine Nat.eq_of_testBit_eq fun j => ?_
  rw [Nat.testBit_and, Nat.testBit_two_pow_mul_add b ha, Nat.testBit_two_pow_mul_add q hp, Nat.testBit_two_pow_mul_add _ (Nat.lt_of_le_of_lt Nat.and_le_left ha)]
  split
  · rw [Nat.testBit_and]
  · rw [Nat.testBit_and]
def p1 (a : Nat) : Nat := a - (a / 2 &&& 85)
def p2 (a : Nat) : Nat := (p1 a &&& 51) + (p1 a / 4 &&& 51)
def p3 (a : Nat) : Nat := (p2 a + p2 a / 16) &&& 15
theorem pby : ∀ a, a < 256 → (a / 2 &&& 85 ≤ a ∧ p1 a < 256 ∧ p2 a < 69 ∧ p2 a % 16 ≤ 4 ∧ p3 a = pc a 0 8 ∧ (∀ x, x < 2 → (a / 2 + 128 * x) &&& 85 = (a / 2 &&& 85)) ∧ (∀ x, x < 4 → (p1 a / 4 + 64 * x) &&& 51 = (p1 a / 4 &&& 51)) ∧ (∀ x, x < 5 → (p2 a + p2 a / 16 + 16 * x) &&& 15 = p3 a ∧ p2 a + p2 a / 16 + 16 * x < 256)) := by decide +kernel
theorem pc_sh (m : Nat) (k : Nat) : ∀ n l, pc m (l + k) n = pc (m / 2 ^ k) l n
  | 0, _ => rfl
  | n + 1, l => by
    unfold pc
    rw [show l + k + 1 = (l + 1) + k by omega, pc_sh m k n (l + 1), Nat.testBit_div_two_pow]
theorem pc_cut (m : Nat) : ∀ n a l, pc m l (n + a) = pc m l n + pc m (l + n) a
  | 0, a, l => by
    rw [Nat.zero_add, Nat.add_zero]
    unfold pc
    omega
  | n + 1, a, l => by
    rw [show n + 1 + a = (n + a) + 1 by omega]
    show (m.testBit l).toNat + pc m (l + 1) (n + a) = (m.testBit l).toNat + pc m (l + 1) n + _
    rw [pc_cut m n a (l + 1), show l + 1 + n = l + (n + 1) by omega]
    omega
theorem pc_mod (m : Nat) (k : Nat) : ∀ n l, l + n ≤ k → pc (m % 2 ^ k) l n = pc m l n
  | 0, _, _ => rfl
  | n + 1, l, h => by
    unfold pc
    rw [pc_mod m k n (l + 1) (by omega), Nat.testBit_mod_two_pow, decide_eq_true (show l < k by omega), Bool.true_and]
