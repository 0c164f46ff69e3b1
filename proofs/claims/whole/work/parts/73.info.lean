/-! ===== the family by which a statement gathers ===== -/
theorem wn_nb (x : Int32) : wn x 0 3 = bi (nb x) := by
  unfold wn nb
  by_cases a : x < 0
  · rw [if_pos a, decide_eq_false (Int32.not_le.mpr a)]
    rfl
  · rw [if_neg a, decide_eq_true (Int32.not_lt.mp a)]
    by_cases b : 3 < x
    · rw [if_pos b, decide_eq_false (Int32.not_le.mpr b)]
      rfl
    · rw [if_neg b, decide_eq_true (Int32.not_lt.mp b)]
      rfl
theorem YM_isNumbers_e (x : Int32) : YM_isNumbers x = some (bi (nb x)) := by
  unfold YM_isNumbers
  rw [YM_in_e, b1_s, gd_h (wn_B _ _ _), wn_nb]
theorem nb_n {f : Nat} (hf : f < 2 ^ 31) : nb (nI f) = decide (f ≤ 3) := by
  unfold nb
  rw [decide_eq_true (nI_pos' hf), Bool.true_and]
  by_cases c : f ≤ 3
  · rw [decide_eq_true c]
    exact decide_eq_true (nI_le c (by decide))
  · rw [decide_eq_false c]
    exact decide_eq_false (fun z => c ((nI_leI hf (by decide)).mp z))
theorem nb_of {x : Int32} (h : nb x = true) : ∃ f, f ≤ 3 ∧ x = nI f := by
  unfold nb at h
  rw [Bool.and_eq_true, decide_eq_true_eq, decide_eq_true_eq] at h
  exact nI_of2 (M := 3) (n := 3) (by decide) (Int32.not_lt.mpr h.1) h.2
theorem nb_m1 : nb (-1) = false := by decide
def ff (o a b : Int32) : Int32 := (XY_familyFor o a b).getD 0
theorem ff_e (o a b : Int32) : XY_familyFor o a b = some (ff o a b) := by
  unfold ff
  have : (XY_familyFor o a b).isSome = true := by
    unfold XY_familyFor XY_familyFor_B10
    repeat' split
    all_goals rfl
  cases h : XY_familyFor o a b with
  | none => rw [h] at this; exact absurd this (by decide)
  | some x => rfl
def al (v : sd_H) (k : Nat) : Bool := decide (v.1 137 (3 * k + 1) = v.1 137 (3 * k)) && (decide (v.1 138 (3 * k + 1) = v.1 138 (3 * k)) && (decide (v.1 139 (3 * k + 1) = v.1 139 (3 * k)) && decide (v.1 140 (3 * k + 1) = v.1 140 (3 * k))))
def FAM (v : sd_H) (k : Nat) (F : Int32) : Int32 :=
  if nb F = true then if al v k = true then if v.1 137 (3 * k + 2) = v.1 137 (3 * k) then 0 else
    if v.1 137 (3 * k + 2) = -1 then ff (v.1 132 k) F 0 else if nb (v.1 127 (gr v (3 * k + 2))) = true then ff (v.1 132 k) F (v.1 127 (gr v (3 * k + 2))) else 0 else 0 else 0
theorem fp_r {v : sd_H} {o f q : Nat} {R : Int32} (ho : o ≤ 12) (hf : f ≤ 3) (hq : q ≤ 3) (hR : ¬ R = -1) :
    (if nI o = 4 then YM_familyAs_B187 v R (nI f) (nI q) (nI o) else if nI o = 5 then YM_familyAs_B187 v R (nI f) (nI q) (nI o) else YM_familyAs_B192 v R (nI f) (nI q) (nI o) 0) = some (ff (nI o) (nI f) (nI q)) := by
  unfold YM_familyAs_B187 YM_familyAs_B192
  simp only [hR, if_false]
  have f4 : f = 0 ∨ f = 1 ∨ f = 2 ∨ f = 3 := by omega
  have q4 : q = 0 ∨ q = 1 ∨ q = 2 ∨ q = 3 := by omega
  have o13 : o = 0 ∨ o = 1 ∨ o = 2 ∨ o = 3 ∨ o = 4 ∨ o = 5 ∨ o = 6 ∨ o = 7 ∨ o = 8 ∨ o = 9 ∨ o = 10 ∨ o = 11 ∨ o = 12 := by omega
  rcases o13 with rfl | rfl | rfl | rfl | rfl | rfl | rfl | rfl | rfl | rfl | rfl | rfl | rfl <;> rcases f4 with rfl | rfl | rfl | rfl <;> rcases q4 with rfl | rfl | rfl | rfl <;> rfl
theorem fp_c {v : sd_H} {o f : Nat} (ho : o ≤ 12) (hf : f ≤ 3) :
    (if nI o = 4 then YM_familyAs_B187 v (-1) (nI f) 1 (nI o) else if nI o = 5 then YM_familyAs_B187 v (-1) (nI f) 1 (nI o) else YM_familyAs_B192 v (-1) (nI f) 1 (nI o) 0) = some (ff (nI o) (nI f) 0) := by
  unfold YM_familyAs_B187 YM_familyAs_B192
  have f4 : f = 0 ∨ f = 1 ∨ f = 2 ∨ f = 3 := by omega
  have o13 : o = 0 ∨ o = 1 ∨ o = 2 ∨ o = 3 ∨ o = 4 ∨ o = 5 ∨ o = 6 ∨ o = 7 ∨ o = 8 ∨ o = 9 ∨ o = 10 ∨ o = 11 ∨ o = 12 := by omega
  rcases o13 with rfl | rfl | rfl | rfl | rfl | rfl | rfl | rfl | rfl | rfl | rfl | rfl | rfl <;> rcases f4 with rfl | rfl | rfl | rfl <;> rfl
theorem XR_isOfNumbers_e {g v : sd_H} {P r : Nat} (hr : r < 6) (e : g.1 (P + 1) r = v.1 127 r) : XR_isOfNumbers g P (nI r) = some (bi (nb (v.1 127 r))) := by
  unfold XR_isOfNumbers nb
  rw [inB_n hr (by omega), gd_t, gd_t, nI_clamp (by omega), e]
  by_cases a : v.1 127 r < 0
  · rw [if_pos a, decide_eq_false (Int32.not_le.mpr a)]
    rfl
  · rw [if_neg a, decide_eq_true (Int32.not_lt.mp a)]
    by_cases b : 3 < v.1 127 r
    · rw [if_pos b, decide_eq_false (Int32.not_le.mpr b)]
      rfl
    · rw [if_neg b, decide_eq_true (Int32.not_lt.mp b)]
      rfl
/-- rows of references -/
theorem ref_row {g v : sd_H} {k w : Nat} (ik : ILk g v k) (hw : w < 3) : (v.1 137 (3 * k + w) = -1 ∧ ¬ w = 0) ∨ ∃ r, r < 6 ∧ v.1 137 (3 * k + w) = nI r ∧ gr v (3 * k + w) = r := by
  obtain ⟨r1, r2, r3, r4, r5, r6, r7, r8⟩ := ik.2 w hw
  rcases r5 with r5 | ⟨r, hr, r5⟩
  · exact Or.inl r5
  · exact Or.inr ⟨r, hr, r5, by unfold gr; rw [r5, nI_clamp (by omega)]⟩
theorem XY_familyOf_e {g v : sd_H} {k : Nat} (ik : ILk g v k) (hfm : ∀ r, r < 6 → g.1 2 r = v.1 127 r) (F : Int32) : XY_familyOf g (8 + 5 * k) F = some (FAM v k F) := by
  have t := ik.2 0 (by omega)
  have l := ik.2 1 (by omega)
  have q := ik.2 2 (by omega)
  simp only [Nat.add_zero] at t
  unfold XY_familyOf FAM
  rw [XT_within_e, b1_s, wn_nb, show 8 + 5 * k + 1 + 1 + 1 = 10 + 5 * k + 1 by omega, show 8 + 5 * k + 1 + 1 + 2 = 10 + 5 * k + 2 by omega, show 8 + 5 * k + 1 + 1 + 0 = 10 + 5 * k by omega]
  by_cases n : nb F = true
  · rw [n, if_neg (show ¬ bi true = 0 by decide), if_pos rfl]
    have la : XF_liesAs g (10 + 5 * k + 1) (10 + 5 * k) = some (bi (al v k)) := by
      unfold XF_liesAs al
      rw [t.1, t.2.1, t.2.2.1, t.2.2.2.1, l.1, l.2.1, l.2.2.1, l.2.2.2.1]
      by_cases c0 : v.1 137 (3 * k + 1) = v.1 137 (3 * k)
      · rw [if_pos c0, decide_eq_true c0]
        by_cases c1 : v.1 138 (3 * k + 1) = v.1 138 (3 * k)
        · rw [if_pos c1, decide_eq_true c1]
          by_cases c2 : v.1 139 (3 * k + 1) = v.1 139 (3 * k)
          · rw [if_pos c2, decide_eq_true c2]
            by_cases c3 : v.1 140 (3 * k + 1) = v.1 140 (3 * k)
            · rw [if_pos c3, decide_eq_true c3]
              rfl
            · rw [if_neg c3, decide_eq_false c3]
              rfl
          · rw [if_neg c2, decide_eq_false c2]
            rfl
        · rw [if_neg c1, decide_eq_false c1]
          rfl
      · rw [if_neg c0, decide_eq_false c0]
        rfl
    rw [la, b1_s]
    by_cases a : al v k = true
    · rw [a, if_neg (show ¬ bi true = 0 by decide), if_pos rfl, t.1, q.1]
      by_cases e : v.1 137 (3 * k + 2) = v.1 137 (3 * k)
      · rw [if_pos e, if_pos e]
      · rw [if_neg e, if_neg e]
        unfold XF_isConstant
        rw [q.1]
        rcases ref_row ik (show 2 < 3 by omega) with ⟨c, _⟩ | ⟨r, hr, c, gc⟩
        · rw [if_pos c, if_pos c, b1_s, if_neg (show ¬ (1 : Int32) = 0 by decide), ik.1.1, ff_e, b1_s]
        · have nc : ¬ v.1 137 (3 * k + 2) = -1 := by rw [c]; exact nm1 (by omega)
          rw [if_neg nc, if_neg nc, b1_s, if_pos rfl, c, XR_isOfNumbers_e (g := g) (v := v) hr (hfm r hr), b1_s, gc]
          by_cases m : nb (v.1 127 r) = true
          · rw [m, if_neg (show ¬ bi true = 0 by decide), if_pos rfl, inB_n hr (by omega), gd_t, nI_clamp (by omega), hfm r hr, ik.1.1, ff_e, b1_s]
          · rw [Bool.eq_false_iff.mpr m, if_pos (show bi false = 0 from rfl), if_neg (show ¬ false = true by decide)]
    · rw [Bool.eq_false_iff.mpr a, if_pos (show bi false = 0 from rfl), if_neg (show ¬ false = true by decide)]
  · rw [Bool.eq_false_iff.mpr n, if_pos (show bi false = 0 from rfl), if_neg (show ¬ false = true by decide)]
/-! the model's -/
theorem YM_familyAs_0 {v : sd_H} {k : Nat} (hk : k < 5) (a b : Int32) : YM_familyAs v (nI k) a b = YM_familyAs_B105 v (nI k) a b (v.1 137 (3 * k)) (v.1 137 (3 * k + 2)) (bi (al v k)) := by
  unfold YM_familyAs YM_familyAs_B104 al
  simp (disch := omega) only [lit 3, lit 2, pk_mul, nI_add, nI_1, inB_n, gd_t, nI_clamp]
  by_cases c0 : v.1 137 (3 * k + 1) = v.1 137 (3 * k)
  · rw [if_pos c0, decide_eq_true c0]
    by_cases c1 : v.1 138 (3 * k) = v.1 138 (3 * k + 1)
    · rw [if_pos c1, decide_eq_true c1.symm]
      by_cases c2 : v.1 139 (3 * k) = v.1 139 (3 * k + 1)
      · rw [if_pos c2, decide_eq_true c2.symm]
        by_cases c3 : v.1 140 (3 * k) = v.1 140 (3 * k + 1)
        · rw [if_pos c3, decide_eq_true c3.symm]
          rfl
        · rw [if_neg c3, decide_eq_false (fun z => c3 z.symm)]
          rfl
      · rw [if_neg c2, decide_eq_false (fun z => c2 z.symm)]
        rfl
    · rw [if_neg c1, decide_eq_false (fun z => c1 z.symm)]
      rfl
  · rw [if_neg c0, decide_eq_false c0]
    rfl
theorem YM_familyAs_B135_e {v : sd_H} {k : Nat} {T R l7 s0 : Int32} {a : Bool} (hk : k < 5) : YM_familyAs_B135 v (nI k) T R (bi a) l7 s0 =
    if a = true then if nb l7 = true then if nb s0 = true then if R = T then some 0 else
      (if v.1 132 k = 4 then YM_familyAs_B187 v R l7 s0 (v.1 132 k) else if v.1 132 k = 5 then YM_familyAs_B187 v R l7 s0 (v.1 132 k) else YM_familyAs_B192 v R l7 s0 (v.1 132 k) 0) else some 0 else some 0 else some 0 := by
  unfold YM_familyAs_B135
  rw [YM_isNumbers_e, YM_isNumbers_e, b1_s, b1_s, inB_n hk (by omega), gd_t, nI_clamp (by omega)]
  cases a
  · rfl
  · rw [if_neg (show ¬ bi true = 0 by decide), if_pos rfl]
    cases nb l7
    · rfl
    · rw [if_neg (show ¬ bi true = 0 by decide), if_pos rfl]
      cases nb s0
      · rfl
      · rw [if_neg (show ¬ bi true = 0 by decide), if_pos rfl]
/-- the family, of a row as it is, or as of another form -/
theorem YM_familyAs_e {g v : sd_H} {k : Nat} (ik : ILk g v k) (hk : k < 5) {a b F : Int32} (hF : v.1 137 (3 * k) = a ∧ F = b ∨ ¬ v.1 137 (3 * k) = a ∧ ¬ v.1 137 (3 * k + 2) = a ∧ F = v.1 127 (gr v (3 * k)) ∨ a = -1 ∧ F = v.1 127 (gr v (3 * k))) : YM_familyAs v (nI k) a b = some (FAM v k F) := by
  obtain ⟨o, ho, eo⟩ := ik.1.2.2.2.2.2.1
  obtain ⟨r0, hr0, t0, gt⟩ := (ref_row ik (show 0 < 3 by omega)).resolve_left (fun z => z.2 rfl)
  rw [Nat.add_zero] at t0 gt
  rw [YM_familyAs_0 hk]
  unfold YM_familyAs_B105 FAM
  have fa : YM_formAs v (v.1 137 (3 * k)) a b = some F := by
    unfold YM_formAs
    rcases hF with ⟨h1, h2⟩ | ⟨h1, h2, h3⟩ | ⟨h1, h2⟩
    · rw [if_pos h1, h2]
    · rw [if_neg h1, t0, inB_n hr0 (by omega), gd_t, nI_clamp (by omega), h3, gt]
    · rw [if_neg (by rw [h1, t0]; exact nm1 (by omega)), t0, inB_n hr0 (by omega), gd_t, nI_clamp (by omega), h2, gt]
  rw [fa, b1_s]
  rcases ref_row ik (show 2 < 3 by omega) with ⟨c, _⟩ | ⟨r, hr, c, gc⟩
  · rw [if_pos c, YM_familyAs_B135_e hk, if_pos c, c]
    by_cases n : nb F = true
    · obtain ⟨f, hf, rfl⟩ := nb_of n
      rw [if_pos n, if_pos n, if_pos (show nb 1 = true by decide), eo]
      by_cases q : -1 = v.1 137 (3 * k)
      · rw [if_pos q, if_pos q]
        split <;> rfl
      · rw [if_neg q, if_neg q]
        split
        · exact fp_c ho hf
        · rfl
    · rw [if_neg n, if_neg n]
      split <;> rfl
  · have nc : ¬ v.1 137 (3 * k + 2) = -1 := by rw [c]; exact nm1 (by omega)
    by_cases q : v.1 137 (3 * k + 2) = v.1 137 (3 * k)
    · rw [if_neg nc, if_pos q]
      have : ∃ x, YM_formAs v (v.1 137 (3 * k + 2)) a b = some x := by
        rw [q]
        exact ⟨F, fa⟩
      obtain ⟨x, hx⟩ := this
      rw [hx, b1_s, YM_familyAs_B135_e hk, if_pos q]
      repeat' split
      all_goals rfl
    · have fr : YM_formAs v (v.1 137 (3 * k + 2)) a b = some (v.1 127 r) := by
        unfold YM_formAs
        have na : ¬ v.1 137 (3 * k + 2) = a := by
          rcases hF with ⟨h1, h2⟩ | ⟨h1, h2, h3⟩ | ⟨h1, h2⟩
          · rw [← h1]
            exact q
          · exact h2
          · rw [h1]
            exact nc
        rw [if_neg na, c, inB_n hr (by omega), gd_t, nI_clamp (by omega)]
      rw [if_neg nc, fr, b1_s, YM_familyAs_B135_e hk, if_neg q, if_neg nc, gc]
      by_cases n : nb F = true
      · obtain ⟨f, hf, rfl⟩ := nb_of n
        rw [if_pos n, if_pos n]
        by_cases m : nb (v.1 127 r) = true
        · obtain ⟨p, hp, ep⟩ := nb_of m
          rw [if_pos m, if_pos m, eo, ep, if_neg q, fp_r ho hf hp nc]
          split <;> rfl
        · rw [if_neg m, if_neg m]
          repeat' split
          all_goals rfl
      · rw [if_neg n, if_neg n]
        split <;> rfl
theorem YM_familyAs_some {g v : sd_H} {k : Nat} (ik : ILk g v k) (hk : k < 5) {a b : Int32} (hb : nb b = true) : ∃ x, YM_familyAs v (nI k) a b = some x := by
  obtain ⟨o, ho, eo⟩ := ik.1.2.2.2.2.2.1
  obtain ⟨r0, hr0, t0, gt⟩ := (ref_row ik (show 0 < 3 by omega)).resolve_left (fun z => z.2 rfl)
  rw [Nat.add_zero] at t0 gt
  by_cases h1 : v.1 137 (3 * k) = a
  · exact ⟨_, YM_familyAs_e ik hk (Or.inl ⟨h1, rfl⟩)⟩
  by_cases h2 : v.1 137 (3 * k + 2) = a
  · rw [YM_familyAs_0 hk]
    unfold YM_familyAs_B105
    have fa : YM_formAs v (v.1 137 (3 * k)) a b = some (v.1 127 r0) := by
      unfold YM_formAs
      rw [if_neg h1, t0, inB_n hr0 (by omega), gd_t, nI_clamp (by omega)]
    have fr : YM_formAs v (v.1 137 (3 * k + 2)) a b = some b := by
      unfold YM_formAs
      rw [if_pos h2]
    rw [fa, b1_s, fr, b1_s, YM_familyAs_B135_e hk, YM_familyAs_B135_e hk, eo]
    have dd : ∀ s0 : Int32, nb s0 = true → (v.1 137 (3 * k + 2) = -1 → s0 = 1) → ∃ x, (if al v k = true then if nb (v.1 127 r0) = true then if nb s0 = true then if v.1 137 (3 * k + 2) = v.1 137 (3 * k) then some 0 else
      (if nI o = 4 then YM_familyAs_B187 v (v.1 137 (3 * k + 2)) (v.1 127 r0) s0 (nI o) else if nI o = 5 then YM_familyAs_B187 v (v.1 137 (3 * k + 2)) (v.1 127 r0) s0 (nI o) else YM_familyAs_B192 v (v.1 137 (3 * k + 2)) (v.1 127 r0) s0 (nI o) 0) else some 0 else some 0 else some 0) = some x := fun s0 hs hc => by
      by_cases a' : al v k = true
      · rw [if_pos a']
        by_cases m : nb (v.1 127 r0) = true
        · rw [if_pos m, if_pos hs]
          by_cases e' : v.1 137 (3 * k + 2) = v.1 137 (3 * k)
          · rw [if_pos e']
            exact ⟨_, rfl⟩
          · rw [if_neg e']
            obtain ⟨f, hf, ef⟩ := nb_of m
            obtain ⟨p, hp, ep⟩ := nb_of hs
            rw [ef]
            by_cases c : v.1 137 (3 * k + 2) = -1
            · rw [c, hc c]
              exact ⟨_, fp_c ho hf⟩
            · rw [ep]
              exact ⟨_, fp_r ho hf hp c⟩
        · rw [if_neg m]
          exact ⟨_, rfl⟩
      · rw [if_neg a']
        exact ⟨_, rfl⟩
    split
    · exact dd 1 (by decide) (fun _ => rfl)
    · rename_i c
      have z := dd b hb (fun z => absurd z c)
      rw [if_pos hb] at z
      exact z
  · exact ⟨_, YM_familyAs_e ik hk (Or.inr (Or.inl ⟨h1, h2, rfl⟩))⟩
/-! in how many turns a statement is done -/
def cd (v : sd_H) (k : Nat) : Nat → Nat → Int32 → Int32
  | _, 0, s => s
  | i, m + 1, s => cd v k (i + 1) m (if dn v k i = true then s + 1 else s)
theorem cd_e {h : sd_H} (iv : Iv h h) {N S k : Nat} (il : IL h h N S) (hk : k < S) : ∀ m f1 f2 i s, i + m = N → m < f1 → m < f2 →
    XL_turnsDone_L5 h f1 (8 + 5 * k) 1 s (nI i) = some (cd h k i m s) ∧ YM_doneMany_L4 h f2 (nI k) s (nI i) = some (cd h k i m s)
  | _, 0, _, _, _, _, q, _ => absurd q (Nat.not_lt_zero _)
  | _, _, 0, _, _, _, _, q => absurd q (Nat.not_lt_zero _)
  | 0, f1 + 1, f2 + 1, i, s, e, _, _ => by
    have hN := il.1
    unfold XL_turnsDone_L5 YM_doneMany_L4
    rw [il.2.2.1, il.2.2.2.1, if_pos (nI_le (by omega) (by omega)), if_pos (nI_le (by omega) (by omega))]
    exact ⟨rfl, rfl⟩
  | m + 1, f1 + 1, f2 + 1, i, s, e, q1, q2 => by
    have hN := il.1
    have ik := il.2.2.2.2.2.2 k hk
    unfold XL_turnsDone_L5 YM_doneMany_L4 XL_turnsDone_B27 YM_doneMany_B27
    rw [il.2.2.1, il.2.2.2.1, if_neg (nI_ge (by omega) (by omega)), if_neg (nI_ge (by omega) (by omega)), XA_isDone_e iv.1 iv.2.2.1 ik hk il.2.1 il.2.2.2.2.2.1 (by omega), YM_isDone_e iv.2.2.1 ik hk il.2.1 il.2.2.2.2.2.1 (by omega), b1_s, b1_s, nI_1]
    have r := cd_e iv il hk m f1 f2 (i + 1) (if dn h k i = true then s + 1 else s) (by omega) (by omega) (by omega)
    unfold cd
    by_cases d : dn h k i = true
    · rw [d, if_neg (show ¬ bi true = 0 by decide), if_neg (show ¬ bi true = 0 by decide), if_pos rfl]
      rw [if_pos d] at r
      exact r
    · rw [if_neg d] at r
      rw [Bool.eq_false_iff.mpr d, if_pos (show bi false = 0 from rfl), if_pos (show bi false = 0 from rfl), if_neg (show ¬ false = true by decide), Int32.add_zero]
      exact r
theorem E_info {h : sd_H} (iv : Iv h h) (a b : Int32) : ∃ r, XT_info h a b = some r ∧ YM_info h a b = some r := by
  obtain ⟨N, S, il, ih⟩ := iv.2.2.2.2.1
  have hS := il.2.1
  have hN := il.1
  unfold XT_info YM_info
  rw [XT_isStatement_e, YM_isStatement_e, b1_s, b1_s, il.2.2.2.2.1, il.2.2.2.2.2.1, YM_in_e, b1_s]
  rcases wn_cs a (show S < 2 ^ 30 by omega) with hz | ⟨k, hk, rfl, h1⟩
  · rw [hz]
    exact ⟨-2, rfl, rfl⟩
  rw [h1, if_neg z10.mp, if_neg z10.mp, inB_n (show k < 5 by omega) (by omega), gd_t, nI_clamp (by omega)]
  have ik := il.2.2.2.2.2.2 k hk
  rcases wn_c b 6 (by omega) with hz | ⟨z, hz6, rfl, h4⟩
  · have n0 : ∀ q, q ≤ 6 → ¬ b = nI q := fun q hq z => by
      rw [z, wn_n hq (by omega)] at hz
      exact absurd hz (by decide)
    rw [show (6 : Int32) = nI 6 from rfl, hz, if_neg (show ¬ b = 0 from n0 0 (by omega)), if_neg (show ¬ b = 1 from n0 1 (by omega)), if_neg (show ¬ b = 2 from n0 2 (by omega)), if_neg (show ¬ b = 3 from n0 3 (by omega)), if_neg (show ¬ b = 4 from n0 4 (by omega)), if_neg (show ¬ b = 5 from n0 5 (by omega)), if_neg (show ¬ b = nI 6 from n0 6 (by omega))]
    exact ⟨-2, rfl, rfl⟩
  · rw [show wn (nI z) 0 6 = 1 from h4, if_neg z10.mp]
    unfold YM_infoOf
    rw [inB_n (show k < 5 by omega) (by omega), gd_t, gd_t, gd_t, gd_t, gd_t, nI_clamp (by omega), ik.1.1, ik.1.2.1, ik.1.2.2.1, ik.1.2.2.2.1, ik.1.2.2.2.2.1]
    obtain ⟨r0, hr0, t0, gt⟩ := (ref_row ik (show 0 < 3 by omega)).resolve_left (fun z => z.2 rfl)
    have tr := (ik.2 0 (by omega)).1
    rw [t0] at tr
    rw [Nat.add_zero] at t0 gt
    have zz : z = 0 ∨ z = 1 ∨ z = 2 ∨ z = 3 ∨ z = 4 ∨ z = 5 ∨ z = 6 := by omega
    rcases zz with rfl | rfl | rfl | rfl | rfl | rfl | rfl
    · exact ⟨_, rfl, rfl⟩
    · exact ⟨_, rfl, rfl⟩
    · exact ⟨_, rfl, rfl⟩
    · exact ⟨_, rfl, rfl⟩
    · exact ⟨_, rfl, rfl⟩
    · refine ⟨FAM h k (h.1 127 r0), ?_, ?_⟩
      · show gd _ _ = _
        rw [show 8 + 5 * k + 1 + 1 + 0 = 10 + 5 * k + 0 by omega, tr, inB_n hr0 (by omega), gd_t, nI_clamp (by omega), (iv.1 r0 hr0).1, XY_familyOf_e ik (fun r hr => (iv.1 r hr).1), b1_s]
      · show b1 (b1 _ _) _ = _
        rw [YM_familyAs_e ik (by omega) (F := h.1 127 r0) (Or.inr (Or.inr ⟨rfl, by rw [gt]⟩)), b1_s, b1_s]
    · obtain ⟨c1, c2⟩ := cd_e iv il hk N FU FU 0 0 (by omega) (by rw [FU_s]; omega) (by rw [FU_s]; omega)
      refine ⟨cd h k 0 N 0, ?_, ?_⟩
      · show b1 (XL_turnsDone h (8 + 5 * k) 1) _ = _
        unfold XL_turnsDone
        rw [show (0 : Int32) = nI 0 from rfl] at c1 ⊢
        rw [c1, b1_s]
      · show b1 (b1 (YM_doneMany h (nI k)) _) _ = _
        unfold YM_doneMany
        rw [show (0 : Int32) = nI 0 from rfl] at c2 ⊢
        rw [c2, b1_s, b1_s]
