/-! ===== sections ===== -/
def sM (v : sd_H) (e : Nat) : Int32 := if v.1 140 e = 0 then 1 else v.1 133 (e / 3)
def sD (v : sd_H) (e : Nat) : Int32 := if sM v e = 1 then 1 else if 0 ≤ v.1 140 e then v.1 140 e else -(v.1 140 e)
def sL (v : sd_H) (e i : Nat) : Int32 := pl v e i ((v.1 133 (e / 3)).toNatClampNeg - 1)
def sF (v : sd_H) (e i : Nat) : Int32 := if sL v e i ≤ pl v e i 0 then sL v e i else pl v e i 0
/-- a section laid -/
def xL (g : sd_H) (s : Nat) (a b c : Int32) : sd_H := wI (wI (wI g s 0 a) s 1 b) s 2 c
/-- a reference that is there, with its statement's items -/
def RR (v : sd_H) (e c : Nat) : Prop := (v.1 133 (e / 3) = nI c ∧ 1 ≤ c ∧ c ≤ 5) ∧ (-60 ≤ (v.1 138 e).toInt ∧ (v.1 138 e).toInt ≤ 60) ∧ (-6 ≤ (v.1 139 e).toInt ∧ (v.1 139 e).toInt ≤ 6) ∧ (-6 ≤ (v.1 140 e).toInt ∧ (v.1 140 e).toInt ≤ 6)
theorem RR_of {g v : sd_H} {k w : Nat} (i : ILk g v k) (hw : w < 3) : ∃ c, RR v (3 * k + w) c := by
  obtain ⟨⟨s1, s2, s3, s4, s5, s6, ⟨c, c1, c5, s7⟩, s8, s9, s10⟩, s11⟩ := i
  obtain ⟨r1, r2, r3, r4, r5, r6, r7, r8⟩ := s11 w hw
  exact ⟨c, ⟨by rw [show (3 * k + w) / 3 = k by omega]; exact s7, c1, c5⟩, r6, r7, r8⟩
theorem sL_e {v : sd_H} {e i c : Nat} (r : RR v e c) : sL v e i = pl v e i (c - 1) := by
  unfold sL
  rw [r.1.1, nI_clamp (by have := r.1.2.2; omega)]
theorem sM_1 {v : sd_H} {e c : Nat} (r : RR v e c) : (sM v e = 1) = (v.1 140 e = 0 ∨ c = 1) := by
  unfold sM
  have := r.1.2.2
  by_cases h : v.1 140 e = 0
  · rw [if_pos h]
    exact propext ⟨fun _ => Or.inl h, fun _ => rfl⟩
  · rw [if_neg h, r.1.1, n1eq (by omega)]
    exact propext ⟨fun q => Or.inr q, fun q => q.resolve_left h⟩
theorem alone {v : sd_H} {e i c : Nat} (r : RR v e c) (hi : i ≤ 10) : (pl v e i 0 = pl v e i (c - 1)) = (sM v e = 1) := by
  rw [sM_1 r]
  obtain ⟨⟨r0, r1, r2⟩, r3, r4, r5⟩ := r
  have a := (pl_ti (v := v) (e := e) (i := i) (j := 0) r3 r4 r5 hi (by omega)).1
  have b := (pl_ti (v := v) (e := e) (i := i) (j := c - 1) r3 r4 r5 hi (by omega)).1
  refine propext ⟨fun q => ?_, fun q => ?_⟩
  · rw [q, b] at a
    by_cases hc : c = 1
    · exact Or.inr hc
    · refine Or.inl (Int32.toInt_inj.mp ?_)
      have cc : c = 2 ∨ c = 3 ∨ c = 4 ∨ c = 5 := by omega
      rcases cc with rfl | rfl | rfl | rfl <;> simp only [Int32.toInt_zero] <;> omega
  · refine Int32.toInt_inj.mp ?_
    rw [a, b]
    rcases q with q | q
    · rw [q, Int32.toInt_zero, Int.zero_mul, Int.zero_mul]
    · rw [q]
theorem XF_at_e {g v : sd_H} {k w : Nat} (R : IRef (g.1 (10 + 5 * k + w)) w (v.1 137 (3 * k + w)) (v.1 138 (3 * k + w)) (v.1 139 (3 * k + w)) (v.1 140 (3 * k + w))) (i j : Nat) : XF_at g (10 + 5 * k + w) (nI i) (nI j) = some (pl v (3 * k + w) i j) := by
  unfold XF_at pl
  rw [R.2.1, R.2.2.1, R.2.2.2.1]
theorem XS_lay_e {g v : sd_H} {s k w i c : Nat} (R : IRef (g.1 (10 + 5 * k + w)) w (v.1 137 (3 * k + w)) (v.1 138 (3 * k + w)) (v.1 139 (3 * k + w)) (v.1 140 (3 * k + w))) (r : RR v (3 * k + w) c) (hi : i ≤ 10) (hs : ¬ 10 + 5 * k + w = s) :
    XS_lay g s (10 + 5 * k + w) (nI i) (nI c) = some (xL g s (sF v (3 * k + w) i) (sD v (3 * k + w)) (sM v (3 * k + w))) := by
  have al := alone r hi
  have sl := sL_e (i := i) r
  have h1 := r.1.2.1
  have h5 := r.1.2.2
  have m1 := sM_1 r
  unfold XS_lay XS_lay_B30 XS_lay_B60 XS_lay_B74
  rw [show XF_at g (10 + 5 * k + w) (nI i) 0 = some (pl v (3 * k + w) i 0) from XF_at_e R i 0, nI_m1 h1, XF_at_e R i (c - 1), b1_s, b1_s, ← sl]
  rw [← sl] at al
  have fF : (if sL v (3 * k + w) i < pl v (3 * k + w) i 0 then sL v (3 * k + w) i else pl v (3 * k + w) i 0) = sF v (3 * k + w) i := by
    unfold sF
    by_cases q : sL v (3 * k + w) i < pl v (3 * k + w) i 0
    · rw [if_pos q, if_pos (Int32.le_of_lt q)]
    · rw [if_neg q]
      split
      · rename_i q2
        exact Int32.le_antisymm (Int32.not_lt.mp q) q2
      · rfl
  rw [fF]
  by_cases q : sM v (3 * k + w) = 1
  · rw [if_pos (by rw [al]; exact q), hb_s, if_neg (show ¬ (1 : Int32) = 0 by decide), hb_s, if_neg (show ¬ (1 : Int32) = 0 by decide), hb_s]
    unfold sD
    rw [if_pos q, q]
    rfl
  · rw [if_neg (by rw [al]; exact q), hb_s, if_pos (show (0 : Int32) = 0 from rfl), hb_s, if_pos (show (0 : Int32) = 0 from rfl), hb_s, wI_ne hs, R.2.2.2.1, Int32.zero_sub]
    have q2 : ¬ v.1 140 (3 * k + w) = 0 := fun z => q (by rw [m1]; exact Or.inl z)
    unfold sD
    rw [if_neg q]
    unfold sM
    rw [if_neg q2, r.1.1]
    rfl
/-! the model's -/
theorem YM_placeOf_e {v : sd_H} {e : Nat} (he : e < 15) (i j : Nat) : YM_placeOf v (nI e) (nI i) (nI j) = some (pl v e i j) := by
  unfold YM_placeOf pl
  rw [inB_n he (by omega), gd_t, gd_t, gd_t, nI_clamp (by omega)]
theorem YM_manyOf_e {v : sd_H} {e : Nat} (he : e < 15) : YM_manyOf v (nI e) = some (sM v e) := by
  unfold YM_manyOf sM
  simp (disch := omega) only [inB_n, gd_t, nI_clamp, lit 3, pk_div]
  split <;> rfl
theorem YM_strideOf_e {v : sd_H} {e : Nat} (he : e < 15) : YM_strideOf v (nI e) = some (sD v e) := by
  unfold YM_strideOf sD
  rw [YM_manyOf_e he, b1_s]
  simp (disch := omega) only [inB_n, gd_t, nI_clamp]
  split
  · rfl
  · split <;> rfl
theorem YM_firstOf_e {v : sd_H} {e c : Nat} (he : e < 15) (r : RR v e c) (i : Nat) : YM_firstOf v (nI e) (nI i) = some (sF v e i) := by
  have h1 := r.1.2.1
  unfold YM_firstOf sF
  simp (disch := omega) only [inB_n, gd_t, nI_clamp, lit 3, pk_div]
  rw [r.1.1, nI_m1 h1, YM_placeOf_e he, b1_s, show YM_placeOf v (nI e) (nI i) 0 = some (pl v e i 0) from YM_placeOf_e he i 0, b1_s, ← sL_e r]
  split <;> rfl
