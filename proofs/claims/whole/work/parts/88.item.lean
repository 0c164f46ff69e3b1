/-! ===== an item: faults, width ===== -/
theorem op_e {β : Type} {o : Option Nat} {t n c : Nat} {k : Nat → Option β} (h : o = some c) (hs : sd_SH c = (t, n)) : op o t n k = k c := by
  rw [h]
  unfold op
  exact if_pos hs
/-- the fault of an item, or -1 -/
def FO (v : sd_H) (k t j : Nat) : Int32 :=
  if ok v (3 * k + 1) t j = true then if ok v (3 * k + 2) t j = true then fa v (gr v (3 * k)) (pl v (3 * k) t j) else fa v (gr v (3 * k + 2)) (pl v (3 * k + 2) t j) else fa v (gr v (3 * k + 1)) (pl v (3 * k + 1) t j)
theorem XU_faultOf_s {g v : sd_H} {P k w t j : Nat} (hP : g.2.2 0 = some P) (hS : sd_SH P = (6, 4)) (ir : IR (g.1 (P + 1)) (g.1 (P + 2)) (g.2.1 (P + 3)) (v.1 127) (v.1 128) (v.2.1 129)) (ik : ILk g v k) (hw : w < 3) (n : Nat) :
    XU_faultOf_L3 g (n + 1) (8 + 5 * k) (nI t) (nI j) (nI w) = if ok v (3 * k + w) t j = true then XU_faultOf_L3 g n (8 + 5 * k) (nI t) (nI j) (nI (w + 1)) else some (fa v (gr v (3 * k + w)) (pl v (3 * k + w) t j)) := by
  have R := ik.2 w hw
  conv => lhs; unfold XU_faultOf_L3
  unfold XU_faultOf_B65
  rw [show (3 : Int32) = nI 3 from rfl, if_neg (nI_ge hw (by omega)), inB_n hw (by omega), gd_t, nI_clamp (by omega), show 8 + 5 * k + 1 + 1 + w = 10 + 5 * k + w by omega, XA_looksAt_e ik hw, b1_s, nI_1, op_e hP hS, XF_at_e R, b1_s]
  unfold XF_isConstant
  rw [R.1]
  rcases ref_row ik hw with ⟨c, _⟩ | ⟨r, hr, c, gc⟩
  · have l : lk v (3 * k + w) = false := by
      unfold lk
      rw [c]
      rfl
    have o : ok v (3 * k + w) t j = true := by
      unfold ok
      rw [l]
      rfl
    rw [if_pos o, if_pos c, b1_s, if_neg (show ¬ (1 : Int32) = 0 by decide)]
    split <;> rfl
  · have l := lk_w hw hr c
    rw [if_neg (c := v.1 137 (3 * k + w) = -1) (by rw [c]; exact nm1 (by omega)), b1_s, if_pos (show (0 : Int32) = 0 from rfl), c, XR_faultAt_e ir hr, b1_s, gc]
    unfold ok
    rw [l, gc]
    cases (decide (w < 2) || !decide (v.1 132 k = 9))
    · rw [if_pos (show bi false = 0 from rfl)]
      rfl
    · rw [if_neg (show ¬ bi true = 0 by decide), itp fa_m1]
      rfl
theorem XU_faultOf_e {g v : sd_H} {P k t j : Nat} (hP : g.2.2 0 = some P) (hS : sd_SH P = (6, 4)) (ir : IR (g.1 (P + 1)) (g.1 (P + 2)) (g.2.1 (P + 3)) (v.1 127) (v.1 128) (v.2.1 129)) (ik : ILk g v k) : XU_faultOf g (8 + 5 * k) (nI t) (nI j) = some (FO v k t j) := by
  unfold XU_faultOf FO
  rw [show FU = 99997 + 1 + 1 + 1 from rfl, show (1 : Int32) = nI 1 from rfl, XU_faultOf_s hP hS ir ik (by omega), XU_faultOf_s hP hS ir ik (by omega)]
  by_cases o1 : ok v (3 * k + 1) t j = true
  · rw [if_pos o1, if_pos o1]
    by_cases o2 : ok v (3 * k + 2) t j = true
    · rw [if_pos o2, if_pos o2]
      obtain ⟨r, hr, c, gc⟩ := (ref_row ik (show 0 < 3 by omega)).resolve_left (fun z => z.2 rfl)
      rw [Nat.add_zero] at c gc
      have R := ik.2 0 (by omega)
      have at0 := XF_at_e (g := g) (v := v) (k := k) (w := 0) R t j
      have r0 := R.1
      rw [Nat.add_zero] at at0
      rw [Nat.add_zero] at at0
      simp only [Nat.add_zero] at r0
      unfold XU_faultOf_L3
      rw [show (3 : Int32) = nI 3 from rfl, if_pos (nI_le (by omega) (by omega)), op_e hP hS, show 8 + 5 * k + 1 + 1 + 0 = 10 + 5 * k by omega, at0, b1_s, r0, c, XR_faultAt_e ir hr, b1_s, gc]
    · rw [if_neg o2, if_neg o2]
  · rw [if_neg o1, if_neg o1]
/-- no fault: what is looked at is there -/
theorem FO_ok {v : sd_H} {k t j : Nat} (h : FO v k t j = -1) : (∀ w, w < 3 → ok v (3 * k + w) t j = true) ∧ hp v (gr v (3 * k)) (pl v (3 * k) t j) = true := by
  unfold FO at h
  by_cases o1 : ok v (3 * k + 1) t j = true
  · rw [if_pos o1] at h
    by_cases o2 : ok v (3 * k + 2) t j = true
    · rw [if_pos o2, fa_m1] at h
      refine ⟨fun w hw => ?_, h⟩
      have ww : w = 0 ∨ w = 1 ∨ w = 2 := by omega
      rcases ww with rfl | rfl | rfl
      · unfold ok
        rw [Nat.add_zero, h, Bool.or_true]
      · exact o1
      · exact o2
    · rw [if_neg o2, fa_m1] at h
      have : ok v (3 * k + 2) t j = true := by
        unfold ok
        rw [h, Bool.or_true]
      exact absurd this o2
  · rw [if_neg o1, fa_m1] at h
    have : ok v (3 * k + 1) t j = true := by
      unfold ok
      rw [h, Bool.or_true]
    exact absurd this o1
theorem FO_cs (v : sd_H) (k t j : Nat) : FO v k t j = -1 ∨ FO v k t j = 0 ∨ FO v k t j = 1 := by
  have f : ∀ r p, fa v r p = -1 ∨ fa v r p = 0 ∨ fa v r p = 1 := fun r p => by
    unfold fa
    split
    · exact Or.inl rfl
    · split
      · exact Or.inr (Or.inr rfl)
      · exact Or.inr (Or.inl rfl)
  unfold FO
  split
  · split
    · exact f _ _
    · exact f _ _
  · exact f _ _
/-! the width -/
def wf (v : sd_H) (e : Nat) : Nat := if lk v e = true then (v.1 127 (gr v e)).toNatClampNeg else 1
/-- forms of numbers where something is looked at -/
def NF (v : sd_H) (k : Nat) : Prop := ∀ w, w < 3 → lk v (3 * k + w) = true → ∃ f, f ≤ 3 ∧ v.1 127 (gr v (3 * k + w)) = nI f ∧ wf v (3 * k + w) = f
theorem NF_of {v : sd_H} {k t j : Nat} (h : FO v k t j = -1) : NF v k := fun w hw l => by
  have o := (FO_ok h).1 w hw
  unfold ok at o
  rw [l] at o
  have o : hp v (gr v (3 * k + w)) (pl v (3 * k + w) t j) = true := o
  unfold hp at o
  rw [Bool.and_eq_true] at o
  obtain ⟨f, hf, e⟩ := nb_of o.1
  refine ⟨f, hf, e, ?_⟩
  unfold wf
  rw [if_pos l, e, nI_clamp (by omega)]
theorem wf_le {v : sd_H} {k w : Nat} (n : NF v k) (hw : w < 3) : wf v (3 * k + w) ≤ 3 := by
  by_cases l : lk v (3 * k + w) = true
  · obtain ⟨f, h1, _, h3⟩ := n w hw l
    omega
  · unfold wf
    rw [if_neg l]
    decide
def WDn (v : sd_H) (k : Nat) : Nat := max (max (max 1 (wf v (3 * k))) (wf v (3 * k + 1))) (wf v (3 * k + 2))
def IA (v : sd_H) (k : Nat) : Bool := decide (6 ≤ v.1 132 k ∧ v.1 132 k ≤ 8 ∨ 11 ≤ v.1 132 k)
def WD (v : sd_H) (k : Nat) : Nat := if IA v k = true then 1 else WDn v k
theorem XR_widthOf_s {g v : sd_H} {P k w a : Nat} (ir : IR (g.1 (P + 1)) (g.1 (P + 2)) (g.2.1 (P + 3)) (v.1 127) (v.1 128) (v.2.1 129)) (ik : ILk g v k) (nf : NF v k) (hw : w < 3) (h1 : 1 ≤ a) (h3 : a ≤ 3) (n : Nat) :
    XR_widthOf_L13 g (n + 1) P (8 + 5 * k) (nI a) (nI w) = XR_widthOf_L13 g n P (8 + 5 * k) (nI (max a (wf v (3 * k + w)))) (nI (w + 1)) := by
  have R := ik.2 w hw
  conv => lhs; unfold XR_widthOf_L13
  unfold XR_widthOf_B57
  rw [show (3 : Int32) = nI 3 from rfl, if_neg (nI_ge hw (by omega)), inB_n hw (by omega), gd_t, nI_clamp (by omega), show 8 + 5 * k + 1 + 1 + w = 10 + 5 * k + w by omega, XA_looksAt_e ik hw, b1_s, nI_1]
  unfold XF_isConstant
  rw [R.1]
  rcases ref_row ik hw with ⟨c, _⟩ | ⟨r, hr, c, gc⟩
  · have l : lk v (3 * k + w) = false := by
      unfold lk
      rw [c]
      rfl
    have e : max a (wf v (3 * k + w)) = a := by
      unfold wf
      rw [l, if_neg (by decide)]
      omega
    rw [e, if_pos c, b1_s, if_neg (show ¬ (1 : Int32) = 0 by decide)]
    split <;> rfl
  · have l := lk_w hw hr c
    rw [if_neg (c := v.1 137 (3 * k + w) = -1) (by rw [c]; exact nm1 (by omega)), b1_s, if_pos (show (0 : Int32) = 0 from rfl), c, inB_n hr (by omega), gd_t, nI_clamp (by omega), (ir r hr).1]
    cases lk' : (decide (w < 2) || !decide (v.1 132 k = 9)) with
    | false =>
      rw [lk'] at l
      have e : max a (wf v (3 * k + w)) = a := by
        unfold wf
        rw [l, if_neg (by decide)]
        omega
      rw [if_pos (show bi false = 0 from rfl), e]
    | true =>
      rw [lk'] at l
      obtain ⟨f, hf, e1, e2⟩ := nf w hw l
      rw [gc] at e1
      rw [if_neg (show ¬ bi true = 0 by decide), e1, e2, itp (propext (nI_ltI (a := a) (b := f) (by omega) (by omega)))]
      by_cases q : a < f
      · rw [if_pos q, show max a f = f by omega]
      · rw [if_neg q, show max a f = a by omega]
theorem XA_isOfIntsAlways_e {g v : sd_H} {k : Nat} (ik : ILk g v k) : XA_isOfIntsAlways g (8 + 5 * k) = some (bi (IA v k)) := by
  obtain ⟨o, ho, eo⟩ := ik.1.2.2.2.2.2.1
  unfold XA_isOfIntsAlways XA_isOfIntsAlways_B18 XA_isOfIntsAlways_B25 IA
  rw [XA_mayBeOver_e ik, b1_s, ik.1.1]
  by_cases a : v.1 132 k < 6
  · have n6 : ¬ 6 ≤ v.1 132 k := Int32.not_le.mpr a
    rw [if_pos a]
    by_cases b : 11 ≤ v.1 132 k
    · rw [decide_eq_true b, decide_eq_true (Or.inr b)]
      rfl
    · rw [decide_eq_false b, decide_eq_false (fun z => z.elim (fun y => n6 y.1) b)]
      rfl
  · have n6 : 6 ≤ v.1 132 k := Int32.not_lt.mp a
    rw [if_neg a]
    by_cases c : v.1 132 k ≤ 8
    · rw [if_pos c, decide_eq_true (Or.inl ⟨n6, c⟩)]
      rfl
    · rw [if_neg c]
      by_cases b : 11 ≤ v.1 132 k
      · rw [decide_eq_true b, decide_eq_true (Or.inr b)]
        rfl
      · rw [decide_eq_false b, decide_eq_false (fun z => z.elim (fun y => c y.2) b)]
        rfl
theorem XR_widthOf_e {g v : sd_H} {P k : Nat} (ir : IR (g.1 (P + 1)) (g.1 (P + 2)) (g.2.1 (P + 3)) (v.1 127) (v.1 128) (v.2.1 129)) (ik : ILk g v k) (nf : NF v k) : XR_widthOf g P (8 + 5 * k) = some (nI (WD v k)) := by
  have w0 := wf_le nf (show 0 < 3 by omega)
  have w1 := wf_le nf (show 1 < 3 by omega)
  have w2 := wf_le nf (show 2 < 3 by omega)
  rw [Nat.add_zero] at w0
  have s0 := fun n => XR_widthOf_s (w := 0) (a := 1) ir ik nf (by omega) (by omega) (by omega) n
  rw [Nat.add_zero] at s0
  unfold XR_widthOf WD
  rw [XA_isOfIntsAlways_e ik, b1_s, itp (bi_0 _)]
  cases IA v k
  · rw [if_pos rfl, if_neg (show ¬ false = true by decide), show FU = 99996 + 1 + 1 + 1 + 1 from rfl, show (1 : Int32) = nI 1 from rfl, show (0 : Int32) = nI 0 from rfl, s0, XR_widthOf_s (w := 1) ir ik nf (by omega) (by omega) (by omega), XR_widthOf_s (w := 2) ir ik nf (by omega) (by omega) (by omega)]
    unfold XR_widthOf_L13
    rw [show (3 : Int32) = nI 3 from rfl, if_pos (nI_le (by omega) (by omega))]
    rfl
  · rw [if_neg (show ¬ true = false by decide), if_pos rfl]
    rfl
theorem YM_widthOf_s {g v : sd_H} {k w a : Nat} {o : Int32} (ik : ILk g v k) (hk : k < 5) (nf : NF v k) (hw : w < 3) (h1 : 1 ≤ a) (h3 : a ≤ 3) (eo : v.1 132 k = o) (n : Nat) :
    YM_widthOf_L14 v (n + 1) (nI k) o (nI a) (nI (3 * k + w)) = YM_widthOf_L14 v n (nI k) o (nI (max a (wf v (3 * k + w)))) (nI (3 * k + w + 1)) := by
  have fb : YM_formBy v (nI (3 * k + w)) = some (if v.1 137 (3 * k + w) = -1 then 1 else v.1 127 (gr v (3 * k + w))) := by
    unfold YM_formBy
    rw [inB_n (by omega) (by omega), gd_t, gd_t, nI_clamp (by omega)]
    rcases ref_row ik hw with ⟨c, _⟩ | ⟨r, hr, c, gc⟩
    · rw [if_pos c, if_pos c]
    · have nc : ¬ v.1 137 (3 * k + w) = -1 := by rw [c]; exact nm1 (by omega)
      rw [if_neg nc, if_neg nc, c, inB_n hr (by omega), gd_t, nI_clamp (by omega), gc]
  have m3 : nI (3 * k + w) - nI (3 * k + w) / 3 * 3 = nI w := by
    rw [lit 3, pk_div (by omega) (by omega) (by omega), pk_mul, pk_sub (by omega)]
    exact congrArg nI (by omega)
  have B : YM_widthOf_B43 v (YM_widthOf_L14 v n) (nI k) o (nI a) (nI (3 * k + w)) 1 = YM_widthOf_L14 v n (nI k) o (nI (max a (if v.1 137 (3 * k + w) = -1 then 1 else wf v (3 * k + w)))) (nI (3 * k + w + 1)) ∨ lk v (3 * k + w) = false := by
    unfold YM_widthOf_B43 YM_widthOf_B69 YM_widthOf_B70
    rw [if_neg (show ¬ (1 : Int32) = 0 by decide), fb, b1_s, b1_s, nI_1]
    rcases ref_row ik hw with ⟨c, _⟩ | ⟨r, hr, c, gc⟩
    · refine Or.inl ?_
      rw [if_pos c, if_pos c, if_pos (show (1 : Int32) ≤ nI a from nI_le (a := 1) h1 (by omega)), show max a 1 = a by omega]
    · have nc : ¬ v.1 137 (3 * k + w) = -1 := by rw [c]; exact nm1 (by omega)
      cases l : lk v (3 * k + w) with
      | false => exact Or.inr rfl
      | true =>
        refine Or.inl ?_
        obtain ⟨f, hf, e1, e2⟩ := nf w hw l
        rw [if_neg nc, if_neg nc, e1, e2, itp (propext (nI_leI (a := f) (b := a) (by omega) (by omega)))]
        by_cases q : f ≤ a
        · rw [if_pos q, show max a f = a by omega]
        · rw [if_neg q, show max a f = f by omega]
  have lw : lk v (3 * k + w) = (!decide (v.1 137 (3 * k + w) = -1) && (decide (w < 2) || !decide (o = 9))) := by
    unfold lk
    rw [show (3 * k + w) % 3 = w by omega, show (3 * k + w) / 3 = k by omega, eo]
  conv => lhs; unfold YM_widthOf_L14
  unfold YM_widthOf_B38
  rw [show 3 * nI k + 3 = nI (3 * k + 3) by rw [lit 3, pk_mul, nI_add], if_neg (nI_ge (by omega) (by omega)), m3, show (2 : Int32) = nI 2 from rfl, itp (propext (nI_ltI (a := w) (b := 2) (by omega) (by omega)))]
  have fin : (decide (w < 2) || !decide (o = 9)) = true → YM_widthOf_B43 v (YM_widthOf_L14 v n) (nI k) o (nI a) (nI (3 * k + w)) 1 = YM_widthOf_L14 v n (nI k) o (nI (max a (wf v (3 * k + w)))) (nI (3 * k + w + 1)) := fun q => by
    rw [q, Bool.and_true] at lw
    rcases B with B | B
    · rw [B]
      by_cases c : v.1 137 (3 * k + w) = -1
      · rw [if_pos c]
        have : wf v (3 * k + w) = 1 := by
          unfold wf
          rw [lw, decide_eq_true c]
          rfl
        rw [this]
      · rw [if_neg c]
    · rw [lw] at B
      have c : v.1 137 (3 * k + w) = -1 := by
        cases d : decide (v.1 137 (3 * k + w) = -1) with
        | false => rw [d] at B; exact absurd B (by decide)
        | true => exact of_decide_eq_true d
      have : wf v (3 * k + w) = 1 := by
        unfold wf
        rw [lw, decide_eq_true c]
        rfl
      unfold YM_widthOf_B43 YM_widthOf_B69 YM_widthOf_B70
      rw [this, if_neg (show ¬ (1 : Int32) = 0 by decide), fb, b1_s, nI_1, if_pos c, if_pos (show (1 : Int32) ≤ nI a from nI_le (a := 1) h1 (by omega)), show max a 1 = a by omega]
  by_cases w2 : w < 2
  · rw [if_pos w2]
    exact fin (by rw [decide_eq_true w2]; rfl)
  · rw [if_neg w2]
    by_cases o9 : o = 9
    · rw [if_pos o9]
      have : wf v (3 * k + w) = 1 := by
        unfold wf
        rw [lw, decide_eq_false w2, decide_eq_true o9, Bool.not_true, Bool.or_false, Bool.and_false]
        rfl
      unfold YM_widthOf_B43 YM_widthOf_B69 YM_widthOf_B70
      rw [this, if_pos (show (0 : Int32) = 0 from rfl), nI_1, show max a 1 = a by omega]
    · rw [if_neg o9]
      exact fin (by rw [decide_eq_false o9, Bool.not_false, Bool.or_true])
theorem YM_widthOf_e {g v : sd_H} {k : Nat} (ik : ILk g v k) (hk : k < 5) (nf : NF v k) : YM_widthOf v (nI k) = some (nI (WD v k)) := by
  have w0 := wf_le nf (show 0 < 3 by omega)
  have w1 := wf_le nf (show 1 < 3 by omega)
  have w2 := wf_le nf (show 2 < 3 by omega)
  rw [Nat.add_zero] at w0
  obtain ⟨o, ho, eo⟩ := ik.1.2.2.2.2.2.1
  have s0 := fun n => YM_widthOf_s (w := 0) (a := 1) ik hk nf (by omega) (by omega) (by omega) eo n
  rw [Nat.add_zero] at s0
  unfold YM_widthOf WD IA
  rw [inB_n hk (by omega), gd_t, nI_clamp (by omega), eo, show FU = 99996 + 1 + 1 + 1 + 1 from rfl, show (3 : Int32) * nI k = nI (3 * k) by rw [lit 3, pk_mul], show (1 : Int32) = nI 1 from rfl, s0, YM_widthOf_s ik hk nf (by omega) (by omega) (by omega) eo, show 3 * k + 1 + 1 = 3 * k + 2 by omega, YM_widthOf_s ik hk nf (by omega) (by omega) (by omega) eo]
  unfold YM_widthOf_L14 YM_widthOf_B94
  rw [show 3 * nI k + 3 = nI (3 * k + 3) by rw [lit 3, pk_mul, nI_add], if_pos (nI_le (by omega) (by omega)), YM_in_e, b1_s]
  unfold wn
  have e1 : (nI o < 6) = (o < 6) := propext (nI_ltI (b := 6) (by omega) (by omega))
  have e2 : (8 < nI o) = (8 < o) := propext (nI_ltI (a := 8) (by omega) (by omega))
  have e3 : (nI o < 11) = (o < 11) := propext (nI_ltI (b := 11) (by omega) (by omega))
  have e4 : (6 ≤ nI o ∧ nI o ≤ 8 ∨ 11 ≤ nI o) = (6 ≤ o ∧ o ≤ 8 ∨ 11 ≤ o) := by
    rw [show (6 ≤ nI o) = (6 ≤ o) from propext (nI_leI (a := 6) (by omega) (by omega)), show (nI o ≤ 8) = (o ≤ 8) from propext (nI_leI (b := 8) (by omega) (by omega)), show (11 ≤ nI o) = (11 ≤ o) from propext (nI_leI (a := 11) (by omega) (by omega))]
  rw [itp e1, itp e2, itp e3, decide_eq_decide.mpr (Iff.of_eq e4)]
  by_cases a : o < 6
  · rw [if_pos a, if_pos rfl, if_pos (show o < 11 by omega), decide_eq_false (by omega), if_neg (by decide)]
    rfl
  · rw [if_neg a]
    by_cases b : 8 < o
    · rw [if_pos b, if_pos rfl]
      by_cases c : o < 11
      · rw [if_pos c, decide_eq_false (by omega), if_neg (by decide)]
        rfl
      · rw [if_neg c, decide_eq_true (by omega), if_pos rfl]
        rfl
    · rw [if_neg b, if_neg (show ¬ (1 : Int32) = 0 by decide), decide_eq_true (by omega), if_pos rfl]
      rfl
theorem WD_cs {v : sd_H} {k : Nat} (nf : NF v k) : (WD v k = 1 ∨ WD v k = 2 ∨ WD v k = 3) := by
  have w0 := wf_le nf (show 0 < 3 by omega)
  have w1 := wf_le nf (show 1 < 3 by omega)
  have w2 := wf_le nf (show 2 < 3 by omega)
  rw [Nat.add_zero] at w0
  unfold WD WDn
  split
  · exact Or.inl rfl
  · omega
