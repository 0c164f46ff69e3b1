/-! ===== the call section ===== -/
/-- one call whose model leaves the heap -/
def E1 {α : Type} (o : Option (sd_H × α)) (f : sd_H → Option α) : Prop := ∃ h1 r, o = some (h1, r) ∧ f h1 = some r ∧ Iv h1 h1
theorem E1_i {α : Type} {o : Option (sd_H × α)} {f : sd_H → Option α} {h1 : sd_H} {r : α} (a : o = some (h1, r)) (b : f h1 = some r) (i : Iv h1 h1) : E1 o f := ⟨h1, r, a, b, i⟩
theorem Iv_x {h : sd_H} {s : Nat} {a b c : Int32} (hs : 97 ≤ s ∧ s ≤ 99) (i : Iv h h) : Iv (xL h s a b c) (xL h s a b c) := by
  refine Iv_c ?_ ?_ ?_ ?_ ?_ ?_ ?_ ?_ ?_ ?_ ?_ ?_ ?_ ?_ ?_ ?_ ?_ ?_ ?_ ?_ ?_ ?_ ?_ ?_ ?_ ?_ ?_ ?_ ?_ ?_ ?_ ?_ ?_ ?_ ?_ ?_ ?_ ?_ i
  all_goals first | (simp (disch := omega) only [wI_d, wD_i, fI_d, fD_i, wI_eq, wD_eq, wI_ne, wD_ne, fI_ne, fD_ne, wI_ns, wD_ns, fI_eq, fD_eq, fI_ns, fD_ns, xL]; done) | (intro c h1 h2; simp (disch := omega) only [wI_d, wD_i, fI_d, fD_i, wI_eq, wD_eq, wI_ne, wD_ne, fI_ne, fD_ne, wI_ns, wD_ns, fI_eq, fD_eq, fI_ns, fD_ns, xL]; done) | (intro c h1; simp (disch := omega) only [wI_d, wD_i, fI_d, fD_i, wI_eq, wD_eq, wI_ne, wD_ne, fI_ne, fD_ne, wI_ns, wD_ns, fI_eq, fD_eq, fI_ns, fD_ns, xL]; done) | (simp (disch := omega) only [wI_d, wD_i, fI_d, fD_i, wI_eq, wD_eq, wI_ne, wD_ne, fI_ne, fD_ne, wI_ns, wD_ns, fI_eq, fD_eq, fI_ns, fD_ns, xL]; exact i.2.2.2.2.2.2.1)
theorem sect_c {v v' : sd_H} (h3 : v'.1 133 = v.1 133) (h8 : v'.1 138 = v.1 138) (h9 : v'.1 139 = v.1 139) (h0 : v'.1 140 = v.1 140) (e i : Nat) : sF v' e i = sF v e i ∧ sD v' e = sD v e ∧ sM v' e = sM v e := by
  unfold sF sD sL sM pl
  rw [h3, h8, h9, h0]
  exact ⟨rfl, rfl, rfl⟩
theorem RR_c {v v' : sd_H} (h3 : v'.1 133 = v.1 133) (h8 : v'.1 138 = v.1 138) (h9 : v'.1 139 = v.1 139) (h0 : v'.1 140 = v.1 140) {e c : Nat} (r : RR v e c) : RR v' e c := by
  unfold RR
  rw [h3, h8, h9, h0]
  exact r
/-- a section's number -/
theorem hsec {h : sd_H} {N S : Nat} (il : IL h h N S) (a : Int32) :
    (XT_hasSection h a = some 0 ∧ (wn a 0 (nI (3 * S) - 1) = 0 ∨ ∃ e, e < 3 * S ∧ a = nI e ∧ h.1 137 e = -1)) ∨
    ∃ k w, k < S ∧ w < 3 ∧ a = nI (3 * k + w) ∧ ¬ h.1 137 (3 * k + w) = -1 ∧ XT_hasSection h a = some 1 := by
  obtain ⟨a1, a2, a3, a4, a5, a6, a7⟩ := il
  unfold XT_hasSection
  by_cases h0 : a < 0
  · exact Or.inl ⟨if_pos h0, Or.inl (wn_out (by omega) (Or.inl h0))⟩
  rw [if_neg h0]
  obtain ⟨e, he, rfl⟩ := nI_of h0
  simp (disch := omega) only [lit 3, pk_div, pk_mul, pk_sub, nI_clamp]
  rw [XT_isStatement_e, b1_s, a5, show e - e / 3 * 3 = e % 3 by omega]
  by_cases q : e / 3 < S
  · rw [wn_inn q (by omega), if_neg z10.mp, inB_n (by omega) (by omega), gd_t, inB_n (by omega) (by omega), gd_t]
    obtain ⟨r1, r2, r3, r4, r5, r6, r7, r8⟩ := (a7 (e / 3) q).2 (e % 3) (by omega)
    unfold XF_isConstant
    rw [show 8 + 5 * (e / 3) + 1 + 1 + e % 3 = 10 + 5 * (e / 3) + e % 3 by omega, r1]
    by_cases g : h.1 137 (3 * (e / 3) + e % 3) = -1
    · rw [if_pos g]
      exact Or.inl ⟨rfl, Or.inr ⟨e, by omega, rfl, by rw [show 3 * (e / 3) + e % 3 = e by omega] at g; exact g⟩⟩
    · rw [if_neg g]
      exact Or.inr ⟨e / 3, e % 3, q, by omega, by rw [show 3 * (e / 3) + e % 3 = e by omega], g, rfl⟩
  · rw [wn_out (by omega) (Or.inr (nI_le (by omega) (by omega)))]
    exact Or.inl ⟨rfl, Or.inl (wn_out (by omega) (Or.inr (nI_le (by omega) (by omega))))⟩
theorem YM_isSection_e {v : sd_H} {N S : Nat} (hS : S ≤ 5) (e6 : v.1 126 6 = nI N) (e7 : v.1 126 7 = nI S) (a b : Int32) :
    ((wn a 0 (nI (3 * S) - 1) = 0 ∨ ∃ e, e < 3 * S ∧ a = nI e ∧ v.1 137 e = -1) → YM_isSection v a b = some 0) ∧
    (∀ k w, k < S → w < 3 → a = nI (3 * k + w) → ¬ v.1 137 (3 * k + w) = -1 → YM_isSection v a b = some (wn b 0 (nI N - 1))) := by
  unfold YM_isSection
  rw [YM_in_e, b1_s, YM_in_e, e6, e7, show 3 * nI S = nI (3 * S) by rw [lit 3, pk_mul]]
  refine ⟨fun q => ?_, fun k w hk hw e g => ?_⟩
  · rcases q with q | ⟨e, he, rfl, g⟩
    · rw [if_pos q]
    · rw [wn_inn he (by omega), if_neg z10.mp, b1_s]
      rcases wn_01 b 0 (nI N - 1) with q | q
      · rw [if_pos q]
      · rw [q, if_neg z10.mp, inB_n (by omega) (by omega), gd_t, nI_clamp (by omega), if_pos g]
  · subst e
    rw [wn_inn (by omega) (by omega), if_neg z10.mp, b1_s]
    rcases wn_01 b 0 (nI N - 1) with q | q
    · rw [if_pos q, q]
    · rw [q, if_neg z10.mp, inB_n (by omega) (by omega), gd_t, nI_clamp (by omega), if_neg g]
theorem XT_isTurn_e (h : sd_H) (a : Int32) : XT_isTurn h a = some (wn a 0 (h.1 6 1 - 1)) := by
  unfold XT_isTurn
  rw [XT_within_e, b1_s, gd_h (wn_B _ _ _)]
theorem XT_lay_e {h v : sd_H} {N S s k w i : Nat} (il : IL h v N S) (hk : k < S) (hw : w < 3) (hi : i ≤ 10) (hs : 97 ≤ s) :
    XT_lay h s (nI (3 * k + w)) (nI i) = some (xL h s (sF v (3 * k + w) i) (sD v (3 * k + w)) (sM v (3 * k + w))) := by
  have hS := il.2.1
  have ik := il.2.2.2.2.2.2 k hk
  obtain ⟨c, r⟩ := RR_of ik hw
  have c5 := r.1.2.2
  have sc : h.1 (8 + 5 * k) 2 = nI c := by
    rw [ik.1.2.1]
    have := r.1.1
    rw [show (3 * k + w) / 3 = k by omega] at this
    exact this
  unfold XT_lay
  simp (disch := omega) only [lit 3, pk_div, pk_mul, pk_sub, nI_clamp]
  rw [show 3 * k + w - (3 * k + w) / 3 * 3 = w by omega, show (3 * k + w) / 3 = k by omega, inB_n (by omega) (by omega), gd_t, inB_n hw (by omega), gd_t, show 8 + 5 * k + 1 + 1 + w = 10 + 5 * k + w by omega, sc,
    XS_lay_e (ik.2 w hw) r hi (by omega), b1_s]
theorem E_section {h : sd_H} (i : Iv h h) (a b c : Int32) : E1 (XT_section h a b c) (fun g => YM_section g a b c) := by
  obtain ⟨N, S, il, ih⟩ := i.2.2.2.2.1
  have il' := il
  obtain ⟨a1, a2, a3, a4, a5, a6, a7⟩ := il
  unfold XT_section YM_section
  have ys := YM_isSection_e (v := h) a2 a4 a6 a b
  rcases hsec il' a with ⟨hx, hy⟩ | ⟨k, w, hk, hw, rfl, hg, hx⟩
  · exact E1_i (h1 := h) (r := -2147483648) (by rw [hx]; rfl) (by rw [ys.1 hy]; rfl) i
  rw [hx, b1_s, if_neg z10.mp, XT_isTurn_e, b1_s, a3]
  rcases wn_cs b (show N < 2 ^ 30 by omega) with hz | ⟨t, ht, rfl, h1⟩
  · exact E1_i (h1 := h) (r := -2147483648) (by rw [hz]; rfl) (by rw [ys.2 k w hk hw rfl hg, hz]; rfl) i
  rw [h1, if_neg z10.mp, XT_lay_e il' hk hw (by omega) (by omega), b1_s]
  obtain ⟨cc, r⟩ := RR_of (a7 k hk) hw
  have e3 : 3 * k + w < 15 := by omega
  obtain ⟨z1, z2, z3⟩ := sect_c (v := h) (v' := xL h 97 (sF h (3 * k + w) t) (sD h (3 * k + w)) (sM h (3 * k + w))) (by simp (disch := omega) only [wI_d, wD_i, fI_d, fD_i, wI_eq, wD_eq, wI_ne, wD_ne, fI_ne, fD_ne, wI_ns, wD_ns, fI_eq, fD_eq, fI_ns, fD_ns, xL]) (by simp (disch := omega) only [wI_d, wD_i, fI_d, fD_i, wI_eq, wD_eq, wI_ne, wD_ne, fI_ne, fD_ne, wI_ns, wD_ns, fI_eq, fD_eq, fI_ns, fD_ns, xL]) (by simp (disch := omega) only [wI_d, wD_i, fI_d, fD_i, wI_eq, wD_eq, wI_ne, wD_ne, fI_ne, fD_ne, wI_ns, wD_ns, fI_eq, fD_eq, fI_ns, fD_ns, xL]) (by simp (disch := omega) only [wI_d, wD_i, fI_d, fD_i, wI_eq, wD_eq, wI_ne, wD_ne, fI_ne, fD_ne, wI_ns, wD_ns, fI_eq, fD_eq, fI_ns, fD_ns, xL]) (3 * k + w) t
  have rr := RR_c (v := h) (v' := xL h 97 (sF h (3 * k + w) t) (sD h (3 * k + w)) (sM h (3 * k + w))) (by simp (disch := omega) only [wI_d, wD_i, fI_d, fD_i, wI_eq, wD_eq, wI_ne, wD_ne, fI_ne, fD_ne, wI_ns, wD_ns, fI_eq, fD_eq, fI_ns, fD_ns, xL]) (by simp (disch := omega) only [wI_d, wD_i, fI_d, fD_i, wI_eq, wD_eq, wI_ne, wD_ne, fI_ne, fD_ne, wI_ns, wD_ns, fI_eq, fD_eq, fI_ns, fD_ns, xL]) (by simp (disch := omega) only [wI_d, wD_i, fI_d, fD_i, wI_eq, wD_eq, wI_ne, wD_ne, fI_ne, fD_ne, wI_ns, wD_ns, fI_eq, fD_eq, fI_ns, fD_ns, xL]) (by simp (disch := omega) only [wI_d, wD_i, fI_d, fD_i, wI_eq, wD_eq, wI_ne, wD_ne, fI_ne, fD_ne, wI_ns, wD_ns, fI_eq, fD_eq, fI_ns, fD_ns, xL]) r
  have ys' := (YM_isSection_e (v := xL h 97 (sF h (3 * k + w) t) (sD h (3 * k + w)) (sM h (3 * k + w))) (N := N) (S := S) a2 (by simp (disch := omega) only [wI_d, wD_i, fI_d, fD_i, wI_eq, wD_eq, wI_ne, wD_ne, fI_ne, fD_ne, wI_ns, wD_ns, fI_eq, fD_eq, fI_ns, fD_ns, xL]; exact a4) (by simp (disch := omega) only [wI_d, wD_i, fI_d, fD_i, wI_eq, wD_eq, wI_ne, wD_ne, fI_ne, fD_ne, wI_ns, wD_ns, fI_eq, fD_eq, fI_ns, fD_ns, xL]; exact a6) (nI (3 * k + w)) (nI t)).2 k w hk hw rfl (by simp (disch := omega) only [wI_d, wD_i, fI_d, fD_i, wI_eq, wD_eq, wI_ne, wD_ne, fI_ne, fD_ne, wI_ns, wD_ns, fI_eq, fD_eq, fI_ns, fD_ns, xL]; exact hg)
  have x0 : (xL h 97 (sF h (3 * k + w) t) (sD h (3 * k + w)) (sM h (3 * k + w))).1 97 0 = sF h (3 * k + w) t := by simp (disch := omega) only [wI_d, wD_i, fI_d, fD_i, wI_eq, wD_eq, wI_ne, wD_ne, fI_ne, fD_ne, wI_ns, wD_ns, fI_eq, fD_eq, fI_ns, fD_ns, xL]
  have x1 : (xL h 97 (sF h (3 * k + w) t) (sD h (3 * k + w)) (sM h (3 * k + w))).1 97 1 = sD h (3 * k + w) := by simp (disch := omega) only [wI_d, wD_i, fI_d, fD_i, wI_eq, wD_eq, wI_ne, wD_ne, fI_ne, fD_ne, wI_ns, wD_ns, fI_eq, fD_eq, fI_ns, fD_ns, xL]
  have x2 : (xL h 97 (sF h (3 * k + w) t) (sD h (3 * k + w)) (sM h (3 * k + w))).1 97 2 = sM h (3 * k + w) := by simp (disch := omega) only [wI_d, wD_i, fI_d, fD_i, wI_eq, wD_eq, wI_ne, wD_ne, fI_ne, fD_ne, wI_ns, wD_ns, fI_eq, fD_eq, fI_ns, fD_ns, xL]
  have eY : ∀ d : Int32, YM_sectionOf (xL h 97 (sF h (3 * k + w) t) (sD h (3 * k + w)) (sM h (3 * k + w))) (nI (3 * k + w)) (nI t) d = some (if d = 0 then sF h (3 * k + w) t else if d = 1 then sD h (3 * k + w) else sM h (3 * k + w)) := fun d => by
    unfold YM_sectionOf
    rw [YM_firstOf_e e3 rr, YM_strideOf_e e3, YM_manyOf_e e3, z1, z2, z3]
    by_cases d0 : d = 0
    · rw [if_pos d0, if_pos d0]
      rfl
    by_cases d1 : d = 1
    · rw [if_neg d0, if_pos d1, if_neg d0, if_pos d1]
      rfl
    · rw [if_neg d0, if_neg d1, if_neg d0, if_neg d1]
      rfl
  rcases wn_c c 2 (by omega) with hz | ⟨d, hd, rfl, h3⟩
  · refine E1_i (h1 := xL h 97 (sF h (3 * k + w) t) (sD h (3 * k + w)) (sM h (3 * k + w))) (r := -2147483648) ?_ ?_ (Iv_x (by omega) i)
    · have n0 : ∀ q, q ≤ 2 → ¬ c = nI q := fun q hq z => by
        rw [z, wn_n hq (by omega)] at hz
        exact absurd hz (by decide)
      unfold XS_part
      rw [if_neg (show ¬ c = 0 from n0 0 (by omega)), if_neg (show ¬ c = 1 from n0 1 (by omega)), if_neg (show ¬ c = 2 from n0 2 (by omega))]
      rfl
    · rw [ys', b1_s, h1, if_neg z10.mp, YM_in_e, b1_s, show (2 : Int32) = nI 2 from rfl, hz]
      rfl
  · refine E1_i (h1 := xL h 97 (sF h (3 * k + w) t) (sD h (3 * k + w)) (sM h (3 * k + w))) (r := if nI d = 0 then sF h (3 * k + w) t else if nI d = 1 then sD h (3 * k + w) else sM h (3 * k + w)) ?_ ?_ (Iv_x (by omega) i)
    · unfold XS_part
      rw [x0, x1, x2]
      have dd : d = 0 ∨ d = 1 ∨ d = 2 := by omega
      rcases dd with rfl | rfl | rfl <;> rfl
    · rw [ys', b1_s, h1, if_neg z10.mp, YM_in_e, b1_s, show wn (nI d) 0 2 = 1 from h3, if_neg z10.mp, eY]
      rfl
