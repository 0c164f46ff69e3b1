/-! ===== reference ===== -/
theorem E_reference {h : sd_H} (i : Iv h h) (a b c : Int32) : ∃ r, XT_reference h a b c = some r ∧ YM_reference h a b c = some r := by
  unfold XT_reference YM_reference
  simp only [YM_in_e, XT_isReference_e, YM_isStatement_e, b1_s]
  obtain ⟨N, S, il, ih⟩ := i.2.2.2.2.1
  obtain ⟨a1, a2, a3, a4, a5, a6, a7⟩ := il
  rw [a5, a6]
  rcases wn_cs a (show S < 2 ^ 30 by omega) with hz | ⟨k, hk, rfl, h1⟩
  · rw [hz, if_pos rfl]
    exact ⟨_, if_pos rfl, if_pos rfl⟩
  rw [h1, if_neg z10.mp, if_neg z10.mp]
  rcases wn_c b 2 (by omega) with hz | ⟨w, hw, rfl, h2⟩
  · rw [show (2 : Int32) = nI 2 from rfl, hz]
    exact ⟨_, if_pos rfl, if_pos rfl⟩
  rw [show wn (nI w) 0 2 = 1 from h2]
  obtain ⟨s0, s11⟩ := a7 k hk
  obtain ⟨r1, r2, r3, r4, r5, r6, r7, r8⟩ := s11 w (by omega)
  rw [if_neg z10.mp, if_neg z10.mp]
  simp (disch := omega) only [inB_n, gd_t, nI_clamp, show 8 + 5 * k + 1 + 1 + w = 10 + 5 * k + w by omega, r1, r2, r3, r4]
  have eY : ∀ d : Int32, YM_referenceOf h (3 * nI k + nI w) d = some (if d = 0 then h.1 137 (3 * k + w) else if d = 1 then h.1 138 (3 * k + w) else if d = 2 then h.1 139 (3 * k + w) else h.1 140 (3 * k + w)) := fun d => by
    unfold YM_referenceOf
    simp (disch := omega) only [lit 3, pk_mul, nI_add, inB_n, gd_t, nI_clamp]
    by_cases d0 : d = 0
    · rw [if_pos d0, if_pos d0]
    by_cases d1 : d = 1
    · rw [if_neg d0, if_pos d1, if_neg d0, if_pos d1]
    by_cases d2 : d = 2
    · rw [if_neg d0, if_neg d1, if_pos d2, if_neg d0, if_neg d1, if_pos d2]
    · rw [if_neg d0, if_neg d1, if_neg d2, if_neg d0, if_neg d1, if_neg d2]
  rw [eY]
  rcases wn_c c 3 (by omega) with hz | ⟨d, hd, rfl, h3⟩
  · rw [show (3 : Int32) = nI 3 from rfl, hz]
    refine ⟨_, ?_, if_pos rfl⟩
    have n0 : ∀ q, q ≤ 3 → ¬ c = nI q := fun q hq z => by
      rw [z, wn_n hq (by omega)] at hz
      exact absurd hz (by decide)
    rw [if_neg (show ¬ c = 0 from n0 0 (by omega)), if_neg (show ¬ c = 1 from n0 1 (by omega)), if_neg (show ¬ c = 2 from n0 2 (by omega)), if_neg (n0 3 (by omega))]
  · rw [show wn (nI d) 0 3 = 1 from h3, if_neg z10.mp, b1_s]
    refine ⟨_, ?_, rfl⟩
    have dd : d = 0 ∨ d = 1 ∨ d = 2 ∨ d = 3 := by omega
    rcases dd with rfl | rfl | rfl | rfl
    · rfl
    · rfl
    · rfl
    · rfl
/-! ===== places ===== -/
theorem mulb {x : Int} {i m n : Nat} (h1 : -(m : Int) ≤ x) (h2 : x ≤ m) (hi : i ≤ n) : -((m * n : Nat) : Int) ≤ x * i ∧ x * i ≤ ((m * n : Nat) : Int) := by
  have p : (0 : Int) ≤ (i : Int) := Int.natCast_nonneg i
  have a := Int.mul_le_mul_of_nonneg_right h2 p
  have b := Int.mul_le_mul_of_nonneg_right h1 p
  have c : m * i ≤ m * n := Nat.mul_le_mul_left m hi
  have d : (m : Int) * i ≤ ((m * n : Nat) : Int) := by
    rw [← Int.natCast_mul]
    exact Int.ofNat_le.mpr c
  rw [Int.neg_mul] at b
  omega
theorem mul_ti {b : Int32} {i : Nat} (h1 : -6 ≤ b.toInt) (h2 : b.toInt ≤ 6) (hi : i ≤ 10) : (b * nI i).toInt = b.toInt * i ∧ -60 ≤ b.toInt * i ∧ b.toInt * i ≤ 60 := by
  have m := mulb (m := 6) (n := 10) h1 h2 hi
  refine ⟨?_, m.1, m.2⟩
  rw [Int32.toInt_mul, nI_toInt (by omega)]
  refine Int.bmod_eq_of_le ?_ ?_ <;> omega
theorem add_ti {a b : Int32} (h1 : -1000 ≤ a.toInt ∧ a.toInt ≤ 1000) (h2 : -1000 ≤ b.toInt ∧ b.toInt ≤ 1000) : (a + b).toInt = a.toInt + b.toInt := by
  rw [Int32.toInt_add]
  refine Int.bmod_eq_of_le ?_ ?_ <;> omega
/-- what the place of a reference is -/
theorem pl_ti {v : sd_H} {e i j : Nat} (f : -60 ≤ (v.1 138 e).toInt ∧ (v.1 138 e).toInt ≤ 60) (b : -6 ≤ (v.1 139 e).toInt ∧ (v.1 139 e).toInt ≤ 6) (s : -6 ≤ (v.1 140 e).toInt ∧ (v.1 140 e).toInt ≤ 6) (hi : i ≤ 10) (hj : j ≤ 10) :
    (pl v e i j).toInt = (v.1 138 e).toInt + (v.1 139 e).toInt * i + (v.1 140 e).toInt * j ∧ -180 ≤ (pl v e i j).toInt ∧ (pl v e i j).toInt ≤ 180 := by
  obtain ⟨b1, b2, b3⟩ := mul_ti b.1 b.2 hi
  obtain ⟨s1, s2, s3⟩ := mul_ti s.1 s.2 hj
  unfold pl
  have e1 : (v.1 138 e + v.1 139 e * nI i).toInt = (v.1 138 e).toInt + (v.1 139 e).toInt * i := by
    rw [add_ti (by omega) (by omega), b1]
  have e2 : (v.1 138 e + v.1 139 e * nI i + v.1 140 e * nI j).toInt = (v.1 138 e).toInt + (v.1 139 e).toInt * i + (v.1 140 e).toInt * j := by
    rw [add_ti (by omega) (by omega), e1, s1]
  omega
