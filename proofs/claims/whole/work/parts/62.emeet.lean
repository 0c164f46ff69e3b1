/-! ===== the call meet ===== -/
theorem XS_holds_L2_e {g : sd_H} {s M : Nat} {F D : Int32} (hM : M < 100) (e0 : g.1 s 0 = F) (e1 : g.1 s 1 = D) (e2 : g.1 s 2 = nI M) (x : Int32) : ∀ m f l, l + m = M → m < f → XS_holds_L2 g f s x (nI l) = some (bi (anyI (fun n => F + nI n * D) x l m))
  | _, 0, _, _, q => absurd q (Nat.not_lt_zero _)
  | 0, f + 1, l, e, _ => by
    unfold XS_holds_L2
    rw [e2, if_pos (nI_le (by omega) (by omega))]
    rfl
  | m + 1, f + 1, l, e, q => by
    unfold XS_holds_L2 anyI
    rw [e2, if_neg (nI_ge (by omega) (by omega)), e0, e1, nI_1, XS_holds_L2_e hM e0 e1 e2 x m f (l + 1) (by omega) (by omega)]
    by_cases c : F + nI l * D = x
    · rw [if_pos c, decide_eq_true c, Bool.true_or]
      rfl
    · rw [if_neg c, decide_eq_false c, Bool.false_or]
theorem YM_hasPlace_L6_e {v : sd_H} {e c i : Nat} (he : e < 15) (r : RR v e c) (x : Int32) : ∀ m f l b, l + m = c → m < f → YM_hasPlace_L6 v f (nI e) (nI i) x (bi b) (nI l) = some (bi (b || anyI (pl v e i) x l m))
  | _, 0, _, _, _, q => absurd q (Nat.not_lt_zero _)
  | 0, f + 1, l, b, e', _ => by
    have := r.1.2.2
    unfold YM_hasPlace_L6 anyI
    simp (disch := omega) only [lit 3, pk_div, nI_clamp, inB_n, gd_t]
    rw [r.1.1, if_pos (nI_le (by omega) (by omega)), gd_h (bi_B b), Bool.or_false]
  | m + 1, f + 1, l, b, e', q => by
    have := r.1.2.2
    unfold YM_hasPlace_L6 YM_hasPlace_B36 YM_hasPlace_B41 anyI
    simp (disch := omega) only [lit 3, pk_div, nI_clamp, inB_n, gd_t]
    rw [r.1.1, if_neg (nI_ge (by omega) (by omega)), YM_placeOf_e he, b1_s, nI_1]
    have t := YM_hasPlace_L6_e he r x (i := i) m f (l + 1) true (by omega) (by omega)
    have u := YM_hasPlace_L6_e he r x (i := i) m f (l + 1) false (by omega) (by omega)
    rw [bi_t] at t
    rw [bi_f] at u
    cases b
    · rw [if_pos (show bi false = 0 from rfl), Bool.false_or]
      by_cases c : pl v e i l = x
      · rw [if_pos c, decide_eq_true c, t]
      · rw [if_neg c, decide_eq_false c, u]
    · rw [if_neg (show ¬ bi true = 0 by decide), t]
      rfl
/-- the places at which two meet: first, stride, many -/
def cr (f : Nat → Int32) (h : Int32 → Bool) : Nat → Nat → Int32 × Int32 × Int32 → Int32 × Int32 × Int32
  | _, 0, s => s
  | l, m + 1, s => cr f h (l + 1) m (if h (f l) = true then (if s.2.2 = 0 then f l else s.1, if s.2.2 = 1 then f l - s.1 else s.2.1, s.2.2 + 1) else s)
theorem XS_addBehind_e {g : sd_H} {s : Nat} {a b c : Int32} {h0 : sd_H} (e : g = xL h0 s a b c) (x : Int32) : XS_addBehind g s x = some (xL h0 s (if c = 0 then x else a) (if c = 1 then x - a else b) (c + 1)) := by
  subst e
  have ex : ∀ p q r p' q' r', wI (wI (wI (xL h0 s p q r) s 0 p') s 1 q') s 2 r' = xL h0 s p' q' r' := fun p q r p' q' r' => by
    refine H_ext (fun k j => ?_) (fun _ _ => rfl) rfl
    unfold xL
    simp only [wI_i]
    by_cases k0 : k = s
    · by_cases j2 : j = 2
      · simp only [k0, j2, and_self, if_true]
      · by_cases j1 : j = 1
        · simp only [k0, j1, and_self, if_true]
        · by_cases j0 : j = 0
          · simp only [k0, j0, and_self, if_true]
          · simp only [k0, j0, j1, j2, and_false, if_false]
    · simp only [k0, false_and, if_false]
  have e0 : (xL h0 s a b c).1 s 0 = a := by simp (disch := omega) only [wI_d, wD_i, fI_d, fD_i, wI_eq, wD_eq, wI_ne, wD_ne, fI_ne, fD_ne, wI_ns, wD_ns, fI_eq, fD_eq, fI_ns, fD_ns, xL]
  have e1 : (xL h0 s a b c).1 s 1 = b := by simp (disch := omega) only [wI_d, wD_i, fI_d, fD_i, wI_eq, wD_eq, wI_ne, wD_ne, fI_ne, fD_ne, wI_ns, wD_ns, fI_eq, fD_eq, fI_ns, fD_ns, xL]
  have e2 : (xL h0 s a b c).1 s 2 = c := by simp (disch := omega) only [wI_d, wD_i, fI_d, fD_i, wI_eq, wD_eq, wI_ne, wD_ne, fI_ne, fD_ne, wI_ns, wD_ns, fI_eq, fD_eq, fI_ns, fD_ns, xL]
  unfold XS_addBehind XS_addBehind_B33
  rw [e2, e0]
  by_cases c0 : c = 0
  · subst c0
    rw [if_pos rfl, if_pos rfl, if_neg (show ¬ (0 : Int32) = 1 by decide), hb_s, hb_s, wI_ns (by omega), e2]
    refine congrArg some ?_
    rw [← ex a b 0 x b (0 + 1)]
    refine H_ext (fun k j => ?_) (fun _ _ => rfl) rfl
    simp only [wI_i]
    by_cases k0 : k = s ∧ j = 1
    · obtain ⟨rfl, rfl⟩ := k0
      simp (disch := omega) only [wI_d, wD_i, fI_d, fD_i, wI_eq, wD_eq, wI_ne, wD_ne, fI_ne, fD_ne, wI_ns, wD_ns, fI_eq, fD_eq, fI_ns, fD_ns, xL]
      simp
    · rw [if_neg (c := k = s ∧ j = 1) k0]
  · rw [if_neg c0, if_neg c0]
    by_cases c1 : c = 1
    · subst c1
      rw [if_pos rfl, if_pos rfl, hb_s, hb_s, wI_ns (by omega), e2]
      refine congrArg some ?_
      rw [← ex a b 1 a (x - a) (1 + 1)]
      refine H_ext (fun k j => ?_) (fun _ _ => rfl) rfl
      simp only [wI_i]
      by_cases k0 : k = s ∧ j = 0
      · obtain ⟨rfl, rfl⟩ := k0
        simp (disch := omega) only [wI_d, wD_i, fI_d, fD_i, wI_eq, wD_eq, wI_ne, wD_ne, fI_ne, fD_ne, wI_ns, wD_ns, fI_eq, fD_eq, fI_ns, fD_ns, xL]
        simp
      · rw [if_neg (c := k = s ∧ j = 0) k0]
    · rw [if_neg c1, if_neg c1, hb_s]
      refine congrArg some ?_
      rw [← ex a b c a b (c + 1)]
      refine H_ext (fun k j => ?_) (fun _ _ => rfl) rfl
      simp only [wI_i]
      by_cases k0 : k = s ∧ j = 0
      · obtain ⟨rfl, rfl⟩ := k0
        simp (disch := omega) only [wI_d, wD_i, fI_d, fD_i, wI_eq, wD_eq, wI_ne, wD_ne, fI_ne, fD_ne, wI_ns, wD_ns, fI_eq, fD_eq, fI_ns, fD_ns, xL]
        simp
      · rw [if_neg (c := k = s ∧ j = 0) k0]
        by_cases k1 : k = s ∧ j = 1
        · obtain ⟨rfl, rfl⟩ := k1
          simp (disch := omega) only [wI_d, wD_i, fI_d, fD_i, wI_eq, wD_eq, wI_ne, wD_ne, fI_ne, fD_ne, wI_ns, wD_ns, fI_eq, fD_eq, fI_ns, fD_ns, xL]
          simp
        · rw [if_neg (c := k = s ∧ j = 1) k1]
