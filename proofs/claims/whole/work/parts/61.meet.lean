/-! ===== where two sections meet ===== -/
/-- one of m places from l on is x -/
def anyI (f : Nat → Int32) (x : Int32) : Nat → Nat → Bool
  | _, 0 => false
  | l, m + 1 => decide (f l = x) || anyI f x (l + 1) m
theorem anyI_iff {f : Nat → Int32} {x : Int32} : ∀ m l, (anyI f x l m = true) = (∃ j, l ≤ j ∧ j < l + m ∧ f j = x)
  | 0, l => propext ⟨fun q => absurd (show false = true from q) (by decide), fun ⟨j, h1, h2, _⟩ => absurd h2 (by omega)⟩
  | m + 1, l => by
    unfold anyI
    rw [Bool.or_eq_true, decide_eq_true_eq, anyI_iff m (l + 1)]
    refine propext ⟨fun q => ?_, fun ⟨j, h1, h2, h3⟩ => ?_⟩
    · rcases q with q | ⟨j, h1, h2, h3⟩
      · exact ⟨l, by omega, by omega, q⟩
      · exact ⟨j, by omega, by omega, h3⟩
    · by_cases e : j = l
      · exact Or.inl (e ▸ h3)
      · exact Or.inr ⟨j, by omega, by omega, h3⟩
/-- the place of a section -/
def sP (v : sd_H) (e i n : Nat) : Int32 := sF v e i + nI n * sD v e
theorem sM_n {v : sd_H} {e c : Nat} (r : RR v e c) : ∃ M, 1 ≤ M ∧ M ≤ 5 ∧ sM v e = nI M ∧ (M = 1 ∧ (v.1 140 e = 0 ∨ c = 1) ∨ M = c ∧ ¬ v.1 140 e = 0 ∧ ¬ c = 1) := by
  have m1 := sM_1 r
  obtain ⟨⟨r0, r1, r2⟩, _⟩ := r
  by_cases q : v.1 140 e = 0 ∨ c = 1
  · exact ⟨1, by omega, by omega, by rw [← m1] at q; exact q, Or.inl ⟨rfl, q⟩⟩
  · have q1 : ¬ v.1 140 e = 0 := fun z => q (Or.inl z)
    have q2 : ¬ c = 1 := fun z => q (Or.inr z)
    refine ⟨c, r1, r2, ?_, Or.inr ⟨rfl, q1, q2⟩⟩
    unfold sM
    rw [if_neg q1, r0]
theorem sM_pos {x : Int32} : (x = 0) = (x.toInt = 0) := propext ⟨fun q => by rw [q]; decide, fun q => Int32.toInt_inj.mp (by rw [q]; decide)⟩
theorem places {v : sd_H} {e i c M : Nat} (r : RR v e c) (hi : i ≤ 10) (hM : sM v e = nI M) (h1 : 1 ≤ M) (h5 : M ≤ 5) (hc : M = 1 ∧ (v.1 140 e = 0 ∨ c = 1) ∨ M = c ∧ ¬ v.1 140 e = 0 ∧ ¬ c = 1) (x : Int32) :
    anyI (sP v e i) x 0 M = anyI (pl v e i) x 0 c := by
  have sl := sL_e (i := i) r
  have m1 := sM_1 r
  obtain ⟨⟨r0, r1, r2⟩, r3, r4, r5⟩ := r
  have pt : ∀ j, j ≤ 10 → (pl v e i j).toInt = (v.1 138 e).toInt + (v.1 139 e).toInt * i + (v.1 140 e).toInt * j ∧ -180 ≤ (pl v e i j).toInt ∧ (pl v e i j).toInt ≤ 180 := fun j hj => pl_ti r3 r4 r5 hi hj
  have z0 := pt 0 (by omega)
  have zl := pt (c - 1) (by omega)
  refine Bool.eq_iff_iff.mpr ?_
  rw [anyI_iff, anyI_iff]
  rcases hc with ⟨rfl, q⟩ | ⟨rfl, q1, q2⟩
  · have pe : ∀ j, j < c → pl v e i j = pl v e i 0 := fun j hj => by
      refine Int32.toInt_inj.mp ?_
      rw [(pt j (by omega)).1, z0.1]
      rcases q with q | q
      · rw [q, Int32.toInt_zero, Int.zero_mul, Int.zero_mul]
      · rw [show j = 0 by omega]
    have fe : sF v e i = pl v e i 0 := by
      unfold sF
      rw [sl, pe (c - 1) (by omega)]
      split <;> rfl
    have s0 : sP v e i 0 = pl v e i 0 := by
      unfold sP
      rw [fe, nI_0, Int32.zero_mul, Int32.add_zero]
    refine ⟨fun ⟨j, a, b, d⟩ => ⟨0, by omega, by omega, ?_⟩, fun ⟨j, a, b, d⟩ => ⟨0, by omega, by omega, ?_⟩⟩
    · rw [← s0, ← d, show j = 0 by omega]
    · rw [s0, ← pe j (by omega), d]
  · have d1 : ¬ sM v e = 1 := by
      rw [m1]
      exact fun z => z.elim q1 q2
    rw [sM_pos] at q1
    by_cases sg : 0 ≤ v.1 140 e
    · rw [Int32.le_iff_toInt_le, Int32.toInt_zero] at sg
      have fe : sF v e i = pl v e i 0 := by
        unfold sF
        rw [sl]
        have : ¬ pl v e i (M - 1) ≤ pl v e i 0 := by
          rw [Int32.le_iff_toInt_le, zl.1, z0.1]
          have cc : M = 2 ∨ M = 3 ∨ M = 4 ∨ M = 5 := by omega
          rcases cc with rfl | rfl | rfl | rfl <;> simp only [Int.natCast_zero, Int.mul_zero] <;> omega
        rw [if_neg this]
      have sp : ∀ j, j < M → sP v e i j = pl v e i j := fun j hj => by
        unfold sP sD
        rw [fe, if_neg d1, if_pos (by rw [Int32.le_iff_toInt_le, Int32.toInt_zero]; exact sg)]
        unfold pl
        rw [show nI 0 = 0 from rfl, Int32.mul_zero, Int32.add_zero, Int32.mul_comm (nI j)]
      exact ⟨fun ⟨j, a, b, d⟩ => ⟨j, a, b, by rw [← sp j (by omega)]; exact d⟩, fun ⟨j, a, b, d⟩ => ⟨j, a, b, by rw [sp j (by omega)]; exact d⟩⟩
    · have sg' := sg
      rw [Int32.le_iff_toInt_le, Int32.toInt_zero] at sg
      have fe : sF v e i = pl v e i (M - 1) := by
        unfold sF
        rw [sl]
        have : pl v e i (M - 1) ≤ pl v e i 0 := by
          rw [Int32.le_iff_toInt_le, zl.1, z0.1]
          have cc : M = 2 ∨ M = 3 ∨ M = 4 ∨ M = 5 := by omega
          rcases cc with rfl | rfl | rfl | rfl <;> simp only [Int.natCast_zero, Int.mul_zero] <;> omega
        rw [if_pos this]
      have sp : ∀ j, j < M → sP v e i j = pl v e i (M - 1 - j) := fun j hj => by
        unfold sP sD
        rw [fe, if_neg d1, if_neg sg']
        refine Int32.toInt_inj.mp ?_
        have nt : (-(v.1 140 e)).toInt = -(v.1 140 e).toInt := by
          rw [Int32.toInt_neg]
          refine Int.bmod_eq_of_le ?_ ?_ <;> omega
        have mt := mul_ti (b := -(v.1 140 e)) (i := j) (by omega) (by omega) (by omega)
        rw [Int32.mul_comm, add_ti (by omega) (by omega), mt.1, nt, zl.1, (pt (M - 1 - j) (by omega)).1]
        have cc : M = 2 ∨ M = 3 ∨ M = 4 ∨ M = 5 := by omega
        have jj : j = 0 ∨ j = 1 ∨ j = 2 ∨ j = 3 ∨ j = 4 := by omega
        rcases cc with rfl | rfl | rfl | rfl <;> rcases jj with rfl | rfl | rfl | rfl | rfl <;> first | omega | (simp; omega)
      refine ⟨fun ⟨j, a, b, d⟩ => ⟨M - 1 - j, by omega, by omega, by rw [← sp j (by omega)]; exact d⟩, fun ⟨j, a, b, d⟩ => ⟨M - 1 - j, by omega, by omega, ?_⟩⟩
      rw [sp (M - 1 - j) (by omega), show M - 1 - (M - 1 - j) = j by omega]
      exact d
