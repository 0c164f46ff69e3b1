/-! ===== whether a statement is done in a turn ===== -/
/-- a truth of a row -/
def tru (v : sd_H) (r i : Nat) : Bool := decide (v.1 127 r = 4) && decide (nI i < v.1 128 r) && nzc (v.2.1 129 (24 * r + i))
theorem nzc_i {α : Type} {x : UInt64} {a b : α} : (if Op.cmpValue (FP.dcmp x FP.dconst0) .l = 0 then a else b) = (if nzc x = true then b else a) := by
  unfold nzc
  by_cases q : Op.cmpValue (FP.dcmp x FP.dconst0) .l = 0
  · rw [if_pos q, if_neg (by rw [decide_eq_true_eq]; exact fun z => z q)]
  · rw [if_neg q, if_pos (decide_eq_true q)]
theorem nm1 {k : Nat} (h : k < 2 ^ 31) : ¬ nI k = -1 := by
  rw [nI_ne_m1 h]
  exact fun q => q
theorem XR_isTrue_e {g v : sd_H} {P r i : Nat} (ir : IR (g.1 (P + 1)) (g.1 (P + 2)) (g.2.1 (P + 3)) (v.1 127) (v.1 128) (v.2.1 129)) (iz : IZ (v.1 128)) (hr : r < 6) (hi : i < 10) : XR_isTrue g P (nI r) (nI i) = some (bi (tru v r i)) := by
  obtain ⟨a, b⟩ := ir r hr
  obtain ⟨z, hz, ez⟩ := iz r hr
  unfold XR_isTrue tru
  rw [inB_n hr (by omega), gd_t, gd_t, nI_clamp (by omega), a, if_neg (nI_pos (by omega))]
  rcases b with ⟨b, c, d⟩ | ⟨⟨f, hf, b⟩, c, d⟩
  · rw [b, if_neg (by decide), decide_eq_false (by decide), Bool.false_and, Bool.false_and]
    rfl
  · by_cases q : v.1 127 r = 4
    · rw [if_pos q, decide_eq_true q, Bool.true_and, c, ez]
      by_cases l : i < z
      · rw [if_neg (nI_ge l (by omega)), decide_eq_true ((nI_ltI (by omega) (by omega)).mpr l), Bool.true_and, show nI r * 24 + nI i = nI (24 * r + i) by rw [lit 24, pk_mul, nI_add, Nat.mul_comm], inB_n (by omega) (by omega), gd_t, nI_clamp (by omega), d i (by omega), nzc_i]
        cases nzc (v.2.1 129 (24 * r + i)) <;> rfl
      · rw [if_pos (nI_le (by omega) (by omega)), decide_eq_false (fun z => l ((nI_ltI (by omega) (by omega)).mp z)), Bool.false_and]
        rfl
    · rw [if_neg q, decide_eq_false q, Bool.false_and, Bool.false_and]
      rfl
/-- done: as guard and mask say it -/
theorem dn_e {g v : sd_H} {k i S : Nat} (ik : ILk g v k) (hk : k < S) (hS : S ≤ 5) (e7 : v.1 126 7 = nI S) (hi : i < 10) :
    (v.1 136 k = -1 ∧ dn v k i = decide (nI i - nI i / v.1 134 k * v.1 134 k = v.1 135 k)) ∨
    ∃ r, r < 6 ∧ v.1 136 k = nI r ∧ dn v k i = (decide (nI i - nI i / v.1 134 k * v.1 134 k = v.1 135 k) && tru v r i) := by
  unfold dn tru
  rw [e7, decide_eq_true ((nI_ltI (by omega) (by omega)).mpr hk), decide_eq_true hi, Bool.true_and, Bool.true_and]
  rcases ik.1.2.2.2.2.2.2.2.2.2 with m | ⟨r, hr, m⟩
  · exact Or.inl ⟨m, by rw [decide_eq_true m, Bool.true_or, Bool.and_true]⟩
  · refine Or.inr ⟨r, hr, m, ?_⟩
    rw [m, nI_clamp (by omega), decide_eq_false (nm1 (k := r) (by omega)), Bool.false_or]
theorem XA_isDone_e {g v : sd_H} {P k i S : Nat} (ir : IR (g.1 (P + 1)) (g.1 (P + 2)) (g.2.1 (P + 3)) (v.1 127) (v.1 128) (v.2.1 129)) (iz : IZ (v.1 128)) (ik : ILk g v k) (hk : k < S) (hS : S ≤ 5) (e7 : v.1 126 7 = nI S) (hi : i < 10) :
    XA_isDone g (8 + 5 * k) (nI i) P = some (bi (dn v k i)) := by
  have de := dn_e ik hk hS e7 hi
  obtain ⟨s1, s2, s3, s4, s5, s6, s7, ⟨p, p1, p6, s8⟩, s9, s10⟩ := ik.1
  unfold XA_isDone XA_isDone_B33
  rw [s3, s4, s5, show nz (v.1 134 k) = true by rw [s8]; exact decide_eq_true (nI_ne0 (by omega) (by omega)), gd_t]
  rcases de with ⟨m, de⟩ | ⟨r, hr, m, de⟩
  · rw [de, m, if_pos rfl]
    by_cases q : nI i - nI i / v.1 134 k * v.1 134 k = v.1 135 k
    · rw [if_pos q, decide_eq_true q]
      rfl
    · rw [if_neg q, decide_eq_false q]
      rfl
  · rw [de, m, if_neg (nm1 (k := r) (by omega)), XR_isTrue_e ir iz hr hi, b1_s]
    by_cases q : nI i - nI i / v.1 134 k * v.1 134 k = v.1 135 k
    · rw [if_pos q, decide_eq_true q, Bool.true_and]
      cases tru v r i
      · rfl
      · rfl
    · rw [if_neg q, decide_eq_false q, Bool.false_and]
      rfl
/-- the model's -/
theorem YM_isDone_e {g v : sd_H} {k i S : Nat} (iz : IZ (v.1 128)) (ik : ILk g v k) (hk : k < S) (hS : S ≤ 5) (e7 : v.1 126 7 = nI S) (hi : i < 10) :
    YM_isDone v (nI k) (nI i) = some (bi (dn v k i)) := by
  have de := dn_e ik hk hS e7 hi
  obtain ⟨s1, s2, s3, s4, s5, s6, s7, ⟨p, p1, p6, s8⟩, s9, s10⟩ := ik.1
  have B : YM_isDone_B48 v (nI k) (nI i) = some (if nI i - nI i / v.1 134 k * v.1 134 k = v.1 135 k then 1 else 0) := by
    unfold YM_isDone_B48 YM_isDone_B53
    rw [if_neg z10.mp]
    simp (disch := omega) only [inB_n, gd_t, nI_clamp]
    rw [show nz (v.1 134 k) = true by rw [s8]; exact decide_eq_true (nI_ne0 (by omega) (by omega)), gd_t]
    split <;> rfl
  unfold YM_isDone YM_isDone_B52 YM_isDone_B53
  rw [B, inB_n (by omega) (by omega), gd_t, nI_clamp (by omega)]
  rcases de with ⟨m, de⟩ | ⟨r, hr, m, de⟩
  · rw [de, m, if_pos rfl]
    by_cases q : nI i - nI i / v.1 134 k * v.1 134 k = v.1 135 k
    · rw [if_pos q, decide_eq_true q]
      rfl
    · rw [if_neg q, decide_eq_false q]
      rfl
  · obtain ⟨z, hz, ez⟩ := iz r hr
    rw [de, m, if_neg (nm1 (k := r) (by omega)), inB_n hr (by omega), gd_t, gd_t, nI_clamp (by omega)]
    unfold tru
    by_cases f : v.1 127 r = 4
    · rw [if_pos f, decide_eq_true f, Bool.true_and, ez]
      by_cases l : i < z
      · rw [if_neg (nI_ge l (by omega)), decide_eq_true ((nI_ltI (by omega) (by omega)).mpr l), Bool.true_and, show 24 * nI r + nI i = nI (24 * r + i) by rw [lit 24, pk_mul, nI_add], inB_n (by omega) (by omega), gd_t, nI_clamp (by omega), nzc_i]
        cases nzc (v.2.1 129 (24 * r + i))
        · rw [if_neg (show ¬ false = true by decide), Bool.and_false]
          rfl
        · rw [if_pos (show true = true from rfl), Bool.and_true]
          by_cases q : nI i - nI i / v.1 134 k * v.1 134 k = v.1 135 k
          · rw [if_pos q, decide_eq_true q]
            rfl
          · rw [if_neg q, decide_eq_false q]
            rfl
      · rw [if_pos (nI_le (by omega) (by omega)), decide_eq_false (fun z => l ((nI_ltI (by omega) (by omega)).mp z)), Bool.false_and, Bool.and_false]
        rfl
    · rw [if_neg f, decide_eq_false f, Bool.false_and, Bool.false_and, Bool.and_false]
      rfl
