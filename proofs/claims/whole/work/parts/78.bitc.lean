theorem bc_nat {a b c : Nat} (ha : a < 256) (hb : b < 256) (hc : c < 256) :
    ∃ x1 x2 x3, (2 ^ 8 * (2 ^ 8 * c + b) + a) / 2 &&& 1431655765 = 2 ^ 8 * (2 ^ 8 * (c / 2 &&& 85) + (b / 2 &&& 85)) + (a / 2 &&& 85) ∧
      x1 = 2 ^ 8 * (2 ^ 8 * p1 c + p1 b) + p1 a ∧ (x1 &&& 858993459) + (x1 / 4 &&& 858993459) = x2 ∧ x2 = 2 ^ 8 * (2 ^ 8 * p2 c + p2 b) + p2 a ∧
      (x2 + x2 / 16) &&& 252645135 = x3 ∧ x3 = 2 ^ 8 * (2 ^ 8 * p3 c + p3 b) + p3 a := by
  obtain ⟨a1, a2, a3, a4, a5, a6, a7, a8⟩ := pby a ha
  obtain ⟨b1', b2', b3, b4, b5, b6, b7, b8⟩ := pby b hb
  obtain ⟨c1, c2, c3, c4, c5, c6, c7, c8⟩ := pby c hc
  refine ⟨_, _, _, ?_, rfl, ?_, rfl, ?_, rfl⟩
  · rw [show (2 ^ 8 * (2 ^ 8 * c + b) + a) / 2 = 2 ^ 8 * (2 ^ 8 * (2 ^ 8 * 0 + c / 2) + (b / 2 + 128 * (c % 2))) + (a / 2 + 128 * (b % 2)) by omega, show (1431655765 : Nat) = 2 ^ 8 * (2 ^ 8 * (2 ^ 8 * 85 + 85) + 85) + 85 from rfl, and_split (by omega) (by decide), and_split (by omega) (by decide), and_split (by omega) (by decide), a6 _ (by omega), b6 _ (by omega), Nat.zero_and, Nat.mul_zero, Nat.zero_add]
  · rw [show (2 ^ 8 * (2 ^ 8 * p1 c + p1 b) + p1 a) / 4 = 2 ^ 8 * (2 ^ 8 * (2 ^ 8 * 0 + p1 c / 4) + (p1 b / 4 + 64 * (p1 c % 4))) + (p1 a / 4 + 64 * (p1 b % 4)) by omega,
      show (2 ^ 8 * (2 ^ 8 * p1 c + p1 b) + p1 a) = (2 ^ 8 * (2 ^ 8 * (2 ^ 8 * 0 + p1 c) + p1 b) + p1 a) by omega, show (858993459 : Nat) = 2 ^ 8 * (2 ^ 8 * (2 ^ 8 * 51 + 51) + 51) + 51 from rfl,
      and_split (by omega) (by decide), and_split (by omega) (by decide), and_split (by omega) (by decide), and_split (by omega) (by decide), and_split (by omega) (by decide), and_split (by omega) (by decide), a7 _ (by omega), b7 _ (by omega), Nat.zero_and]
    unfold p2
    omega
  · obtain ⟨a9, a10⟩ := a8 (p2 b % 16) (by omega)
    obtain ⟨b9, b10⟩ := b8 (p2 c % 16) (by omega)
    obtain ⟨c9, c10⟩ := c8 0 (by omega)
    rw [show (2 ^ 8 * (2 ^ 8 * p2 c + p2 b) + p2 a) + (2 ^ 8 * (2 ^ 8 * p2 c + p2 b) + p2 a) / 16 = 2 ^ 8 * (2 ^ 8 * (2 ^ 8 * 0 + (p2 c + p2 c / 16 + 16 * 0)) + (p2 b + p2 b / 16 + 16 * (p2 c % 16))) + (p2 a + p2 a / 16 + 16 * (p2 b % 16)) by omega, show (252645135 : Nat) = 2 ^ 8 * (2 ^ 8 * (2 ^ 8 * 15 + 15) + 15) + 15 from rfl,
      and_split a10 (by decide), and_split b10 (by decide), and_split c10 (by decide), a9, b9, c9, Nat.zero_and, Nat.mul_zero, Nat.zero_add]
theorem JI_bitCount_e {m : Nat} (hm : m < 2 ^ 24) : JI_bitCount (nI m) = some (nI (pc m 0 24)) := by
  obtain ⟨a, ea⟩ : ∃ a, a = m % 256 := ⟨_, rfl⟩
  obtain ⟨b, eb⟩ : ∃ b, b = m / 256 % 256 := ⟨_, rfl⟩
  obtain ⟨c, ec⟩ : ∃ c, c = m / 65536 := ⟨_, rfl⟩
  have ha : a < 256 := by omega
  have hb : b < 256 := by omega
  have hc : c < 256 := by omega
  have em : m = 2 ^ 8 * (2 ^ 8 * c + b) + a := by omega
  obtain ⟨a1, a2, a3, a4, a5, a6, a7, a8⟩ := pby a ha
  obtain ⟨b1', b2', b3, b4, b5, b6, b7, b8⟩ := pby b hb
  obtain ⟨c1, c2, c3, c4, c5, c6, c7, c8⟩ := pby c hc
  obtain ⟨x1, x2, x3, h1, h2, h3, h4, h5, h6⟩ := bc_nat ha hb hc
  have pa := pc_le a 8 0
  have pb := pc_le b 8 0
  have pcc := pc_le c 8 0
  have i1 : iushr (nI m) 1 &&& 1431655765 = nI (2 ^ 8 * (2 ^ 8 * (c / 2 &&& 85) + (b / 2 &&& 85)) + (a / 2 &&& 85)) := by
    rw [show (1 : Int32) = nI 1 from rfl, iushr_n (by omega) 1 (by omega), show (1431655765 : Int32) = nI 1431655765 from rfl, nI_and, ← h1, ← em]
  have i2 : nI m - (iushr (nI m) 1 &&& 1431655765) = nI x1 := by
    rw [i1, pk_sub (by omega), h2]
    refine congrArg nI ?_
    unfold p1
    omega
  have i3 : (nI x1 &&& 858993459) + (iushr (nI x1) 2 &&& 858993459) = nI x2 := by
    rw [show (2 : Int32) = nI 2 from rfl, iushr_n (by omega) 2 (by omega), show (858993459 : Int32) = nI 858993459 from rfl, nI_and, nI_and, nI_add, ← h3]
  have i4 : (nI x2 + iushr (nI x2) 4) &&& 252645135 = nI x3 := by
    rw [show (4 : Int32) = nI 4 from rfl, iushr_n (by omega) 4 (by omega), nI_add, show (252645135 : Int32) = nI 252645135 from rfl, nI_and, ← h5]
  unfold JI_bitCount
  rw [i2, i3, i4, show (8 : Int32) = nI 8 from rfl, iushr_n (by omega) 8 (by omega), nI_add, show (16 : Int32) = nI 16 from rfl, iushr_n (by omega) 16 (by omega), nI_add, pk_andN (by omega) 6 (by decide +kernel)]
  refine congrArg some (congrArg nI ?_)
  have t : pc m 0 24 = pc a 0 8 + (pc b 0 8 + pc c 0 8) := by
    have e1 := pc_cut m 8 16 0
    have e2 := pc_cut m 8 8 (0 + 8)
    have f0 := pc_mod m 8 8 0 (by omega)
    have f1 := pc_sh m 8 8 0
    have f2 := pc_mod (m / 2 ^ 8) 8 8 0 (by omega)
    have f3 := pc_sh m 16 8 0
    rw [show m % 2 ^ 8 = a by omega] at f0
    rw [show m / 2 ^ 8 % 2 ^ 8 = b by omega] at f2
    rw [show m / 2 ^ 16 = c by omega] at f3
    rw [show 8 + 16 = 24 from rfl] at e1
    rw [show 8 + 8 = 16 from rfl] at e2
    rw [e1, e2, f0, f2, ← f1, ← f3]
  rw [t, ← a5, ← b5, ← c5, h6]
  have A8 : p3 a ≤ 8 := by omega
  have B8 : p3 b ≤ 8 := by omega
  have C8 : p3 c ≤ 8 := by omega
  clear h1 h2 h3 h4 h5 h6 i1 i2 i3 i4
  generalize p3 a = A at *
  generalize p3 b = B at *
  generalize p3 c = C at *
  have q1 : (2 ^ 8 * (2 ^ 8 * C + B) + A) / 2 ^ 8 = 2 ^ 8 * C + B := by omega
  rw [q1]
  have q2 : (2 ^ 8 * (2 ^ 8 * C + B) + A + (2 ^ 8 * C + B)) / 2 ^ 16 = C := by omega
  rw [q2]
  omega
/-! the least bit -/
def nx (m : Nat) : Nat → Nat → Option Nat
  | _, 0 => none
  | l, n + 1 => if m.testBit l = true then some l else nx m (l + 1) n
theorem nx_c (m : Nat) : ∀ n l, (nx m l n = none ∧ ∀ j, l ≤ j → j < l + n → m.testBit j = false) ∨ ∃ f, nx m l n = some f ∧ l ≤ f ∧ f < l + n ∧ m.testBit f = true ∧ ∀ j, l ≤ j → j < f → m.testBit j = false
  | 0, l => Or.inl ⟨rfl, fun j h1 h2 => absurd h2 (by omega)⟩
  | n + 1, l => by
    unfold nx
    by_cases q : m.testBit l = true
    · rw [if_pos q]
      exact Or.inr ⟨l, rfl, by omega, by omega, q, fun j h1 h2 => absurd h2 (by omega)⟩
    · rw [if_neg q]
      have q0 := Bool.eq_false_iff.mpr q
      rcases nx_c m n (l + 1) with ⟨h1, h2⟩ | ⟨f, h1, h2, h3, h4, h5⟩
      · refine Or.inl ⟨h1, fun j j1 j2 => ?_⟩
        by_cases e : j = l
        · rw [e]
          exact q0
        · exact h2 j (by omega) (by omega)
      · refine Or.inr ⟨f, h1, by omega, by omega, h4, fun j j1 j2 => ?_⟩
        by_cases e : j = l
        · rw [e]
          exact q0
        · exact h5 j (by omega) (by omega)
theorem nx_none {m : Nat} (hm : m < 2 ^ 24) (h : ∀ j, j < 24 → m.testBit j = false) : m = 0 := by
  refine Nat.eq_of_testBit_eq fun j => ?_
  rw [Nat.zero_testBit]
  by_cases q : j < 24
  · exact h j q
  · exact Nat.testBit_lt_two_pow (Nat.lt_of_lt_of_le hm (Nat.pow_le_pow_right (by decide) (show 24 ≤ j by omega)))
theorem nx_some {m : Nat} (hm : m < 2 ^ 24) (h : ¬ m = 0) : ∃ f, nx m 0 24 = some f ∧ f < 24 ∧ m.testBit f = true ∧ ∀ j, j < f → m.testBit j = false := by
  rcases nx_c m 24 0 with ⟨h1, h2⟩ | ⟨f, h1, h2, h3, h4, h5⟩
  · exact absurd (nx_none hm fun j hj => h2 j (by omega) (by omega)) h
  · exact ⟨f, h1, by omega, h4, fun j hj => h5 j (by omega) hj⟩
theorem XS_leastCell_L2_e {m f : Nat} (hm : m < 2 ^ 24) (hf : f < 24) (h1 : m.testBit f = true) (h2 : ∀ j, j < f → m.testBit j = false) : ∀ n g l, l + n = f → n < g → XS_leastCell_L2 g (nI m) (nI l) = some (nI f)
  | _, 0, _, _, q => absurd q (Nat.not_lt_zero _)
  | 0, g + 1, l, e, _ => by
    obtain rfl : l = f := by omega
    unfold XS_leastCell_L2
    rw [show (23 : Int32) = nI 23 from rfl, bit_e (by omega) (by omega), h1, if_neg (show ¬ bi true = 0 by decide)]
    split <;> rfl
  | n + 1, g + 1, l, e, q => by
    unfold XS_leastCell_L2
    rw [show (23 : Int32) = nI 23 from rfl, if_neg (nI_ge (by omega) (by omega)), bit_e (by omega) (by omega), h2 l (by omega), if_pos (show bi false = 0 from rfl), nI_1]
    exact XS_leastCell_L2_e hm hf h1 h2 n g (l + 1) (by omega) (by omega)
theorem XS_leastCell_e {m f : Nat} (hm : m < 2 ^ 24) (hf : f < 24) (h1 : m.testBit f = true) (h2 : ∀ j, j < f → m.testBit j = false) : XS_leastCell (nI m) = some (nI f) := by
  unfold XS_leastCell
  exact XS_leastCell_L2_e hm hf h1 h2 f FU 0 (by omega) (by rw [FU_s]; omega)
/-- the model's next bit from l on -/
def nxI (o : Option Nat) : Int32 := match o with
  | none => -1
  | some f => nI f
theorem nx_step (m l : Nat) : ∀ n j, l ≤ j → nx m j n = nx m j n := fun _ _ _ => rfl
theorem YM_nextBit_L5_e {m l : Nat} (hm : m < 2 ^ 24) : ∀ n f (o : Option Nat), l + n ≤ 24 → n < f → YM_nextBit_L5 f (nI m) (nI l) (nxI o) (nI (l + n) - 1) = some (nxI (match nx m l n with | none => o | some g => some g))
  | _, 0, _, _, q => absurd q (Nat.not_lt_zero _)
  | 0, f + 1, o, e, _ => by
    unfold YM_nextBit_L5
    rw [if_pos]
    · rfl
    · rw [Int32.lt_iff_toInt_lt, Nat.add_zero]
      cases l with
      | zero => decide
      | succ l =>
        rw [nI_pred, nI_toInt (by omega), nI_toInt (by omega)]
        omega
  | n + 1, f + 1, o, e, q => by
    unfold YM_nextBit_L5 YM_nextBit_B24
    rw [show l + (n + 1) = (l + n) + 1 by omega, nI_pred, if_neg (nI_nlt (by omega) (by omega)), bit_e (by omega) (by omega)]
    have e1 : nI (l + n) + -1 = nI (l + n) - 1 := by
      rw [Int32.sub_eq_add_neg]
    have rec_ := fun o => YM_nextBit_L5_e (l := l) hm n f o (by omega) (by omega)
    have key : ∀ n l, nx m l (n + 1) = match nx m l n with | none => (if m.testBit (l + n) = true then some (l + n) else none) | some g => some g := by
      intro n
      induction n with
      | zero =>
        intro l
        rw [Nat.add_zero]
        unfold nx nx
        rfl
      | succ n ih =>
        intro l
        have a : nx m l (n + 1 + 1) = if m.testBit l = true then some l else nx m (l + 1) (n + 1) := rfl
        have b : nx m l (n + 1) = if m.testBit l = true then some l else nx m (l + 1) n := rfl
        rw [a, b, ih (l + 1)]
        by_cases c : m.testBit l = true
        · rw [if_pos c, if_pos c]
        · rw [if_neg c, if_neg c, show l + 1 + n = l + (n + 1) by omega]
    rw [key, e1]
    by_cases c : m.testBit (l + n) = true
    · rw [c, if_pos (show bi true = 1 from rfl), if_pos rfl]
      have r := rec_ (some (l + n))
      rw [show nxI (some (l + n)) = nI (l + n) from rfl] at r
      rw [r]
      cases nx m l n <;> rfl
    · rw [Bool.eq_false_iff.mpr c, if_neg (show ¬ bi false = 1 by decide), if_neg (show ¬ false = true by decide), rec_ o]
      cases nx m l n <;> rfl
theorem YM_nextBit_e {m l : Nat} (hm : m < 2 ^ 24) (hl : l ≤ 24) : YM_nextBit (nI m) (nI l) = some (nxI (nx m l (24 - l))) := by
  unfold YM_nextBit
  have e := YM_nextBit_L5_e (l := l) hm (24 - l) FU none (by omega) (by rw [FU_s]; omega)
  rw [show l + (24 - l) = 24 by omega, show nI 24 - 1 = 23 from rfl, show nxI none = -1 from rfl] at e
  rw [e]
  cases nx m l (24 - l) <;> rfl
