/-! ===== meet: the walk over one section ===== -/
theorem XS_cross_L17_e {h0 : sd_H} {M1 M2 : Nat} {F1 D1 F2 D2 : Int32} (h1 : M1 < 100) (h2 : M2 < 100) (a0 : h0.1 97 0 = F1) (a1 : h0.1 97 1 = D1) (a2 : h0.1 97 2 = nI M1) (b0 : h0.1 98 0 = F2) (b1' : h0.1 98 1 = D2) (b2' : h0.1 98 2 = nI M2) :
    ∀ m f l (s : Int32 × Int32 × Int32), l + m = M1 → m < f → XS_cross_L17 f (xL h0 99 s.1 s.2.1 s.2.2) 99 97 98 (nI l) =
      some (let q := cr (fun n => F1 + nI n * D1) (fun x => anyI (fun n => F2 + nI n * D2) x 0 M2) l m s; xL h0 99 q.1 q.2.1 q.2.2)
  | _, 0, _, _, _, q => absurd q (Nat.not_lt_zero _)
  | 0, f + 1, l, s, e, _ => by
    unfold XS_cross_L17
    rw [show (xL h0 99 s.1 s.2.1 s.2.2).1 97 2 = nI M1 by simp (disch := omega) only [wI_d, wD_i, fI_d, fD_i, wI_eq, wD_eq, wI_ne, wD_ne, fI_ne, fD_ne, wI_ns, wD_ns, fI_eq, fD_eq, fI_ns, fD_ns, xL]; exact a2, if_pos (nI_le (by omega) (by omega))]
    rfl
  | m + 1, f + 1, l, s, e, q => by
    unfold XS_cross_L17 XS_cross_B53
    rw [show (xL h0 99 s.1 s.2.1 s.2.2).1 97 2 = nI M1 by simp (disch := omega) only [wI_d, wD_i, fI_d, fD_i, wI_eq, wD_eq, wI_ne, wD_ne, fI_ne, fD_ne, wI_ns, wD_ns, fI_eq, fD_eq, fI_ns, fD_ns, xL]; exact a2, if_neg (nI_ge (by omega) (by omega)),
      show (xL h0 99 s.1 s.2.1 s.2.2).1 97 0 = F1 by simp (disch := omega) only [wI_d, wD_i, fI_d, fD_i, wI_eq, wD_eq, wI_ne, wD_ne, fI_ne, fD_ne, wI_ns, wD_ns, fI_eq, fD_eq, fI_ns, fD_ns, xL]; exact a0, show (xL h0 99 s.1 s.2.1 s.2.2).1 97 1 = D1 by simp (disch := omega) only [wI_d, wD_i, fI_d, fD_i, wI_eq, wD_eq, wI_ne, wD_ne, fI_ne, fD_ne, wI_ns, wD_ns, fI_eq, fD_eq, fI_ns, fD_ns, xL]; exact a1]
    unfold XS_holds
    have hh := XS_holds_L2_e (g := xL h0 99 s.1 s.2.1 s.2.2) (s := 98) h2 (by simp (disch := omega) only [wI_d, wD_i, fI_d, fD_i, wI_eq, wD_eq, wI_ne, wD_ne, fI_ne, fD_ne, wI_ns, wD_ns, fI_eq, fD_eq, fI_ns, fD_ns, xL]; exact b0) (by simp (disch := omega) only [wI_d, wD_i, fI_d, fD_i, wI_eq, wD_eq, wI_ne, wD_ne, fI_ne, fD_ne, wI_ns, wD_ns, fI_eq, fD_eq, fI_ns, fD_ns, xL]; exact b1') (by simp (disch := omega) only [wI_d, wD_i, fI_d, fD_i, wI_eq, wD_eq, wI_ne, wD_ne, fI_ne, fD_ne, wI_ns, wD_ns, fI_eq, fD_eq, fI_ns, fD_ns, xL]; exact b2') (F1 + nI l * D1) M2 FU 0 (by omega) (by rw [FU_s]; omega)
    rw [nI_0] at hh
    rw [hh, b1_s, nI_1]
    unfold cr
    by_cases c : anyI (fun n => F2 + nI n * D2) (F1 + nI l * D1) 0 M2 = true
    · rw [c, if_neg (show ¬ bi true = 0 by decide), XS_addBehind_e rfl, b1_s, if_pos rfl]
      exact XS_cross_L17_e h1 h2 a0 a1 a2 b0 b1' b2' m f (l + 1) (_, _, _) (by omega) (by omega)
    · rw [Bool.eq_false_iff.mpr c, if_pos (show bi false = 0 from rfl), if_neg (show ¬ false = true by decide)]
      exact XS_cross_L17_e h1 h2 a0 a1 a2 b0 b1' b2' m f (l + 1) s (by omega) (by omega)
/-- the model's walk -/
theorem YM_meetOf_L12_e {v : sd_H} {e c i d c' j M : Nat} (he : e < 15) (hd : d < 15) (r : RR v e c) (r' : RR v d c') (hM : sM v e = nI M) (h5 : M ≤ 5) (p : Int32) :
    ∀ m f l (s : Int32 × Int32 × Int32), l + m = M → m < f → YM_meetOf_L12 v f (nI e) (nI i) (nI d) (nI j) p s.1 s.2.1 s.2.2 (nI l) =
      some (let q := cr (sP v e i) (fun x => anyI (pl v d j) x 0 c') l m s; if p = 0 then q.1 else if p = 1 then q.2.1 else if p = 2 then q.2.2 else nI M - q.2.2)
  | _, 0, _, _, _, q => absurd q (Nat.not_lt_zero _)
  | 0, f + 1, l, s, e', _ => by
    unfold YM_meetOf_L12
    rw [YM_manyOf_e he, b1_s, hM, if_pos (nI_le (by omega) (by omega)), b1_s]
    show _ = some (if p = 0 then s.1 else if p = 1 then s.2.1 else if p = 2 then s.2.2 else nI M - s.2.2)
    by_cases p0 : p = 0
    · rw [if_pos p0, if_pos p0]
    by_cases p1 : p = 1
    · rw [if_neg p0, if_pos p1, if_neg p0, if_pos p1]
    by_cases p2 : p = 2
    · rw [if_neg p0, if_neg p1, if_pos p2, if_neg p0, if_neg p1, if_pos p2]
    · rw [if_neg p0, if_neg p1, if_neg p2, if_neg p0, if_neg p1, if_neg p2]
  | m + 1, f + 1, l, s, e', q => by
    have c5 := r'.1.2.2
    unfold YM_meetOf_L12 YM_meetOf_B67 YM_meetOf_B81 YM_meetOf_B86
    rw [YM_manyOf_e he, b1_s, hM, if_neg (nI_ge (by omega) (by omega)), YM_firstOf_e he r, b1_s, YM_strideOf_e he, b1_s, show sF v e i + sD v e * nI l = sP v e i l by unfold sP; rw [Int32.mul_comm]]
    unfold YM_hasPlace
    have hh := YM_hasPlace_L6_e (i := j) hd r' (sP v e i l) c' FU 0 false (by omega) (by rw [FU_s]; omega)
    rw [nI_0, bi_f, Bool.false_or] at hh
    rw [hh, b1_s, nI_1]
    unfold cr
    by_cases c : anyI (pl v d j) (sP v e i l) 0 c' = true
    · rw [c, if_neg (show ¬ bi true = 0 by decide), if_pos rfl]
      have rec_ := YM_meetOf_L12_e (i := i) (j := j) he hd r r' hM h5 p m f (l + 1) (if s.2.2 = 0 then sP v e i l else s.1, if s.2.2 = 1 then sP v e i l - s.1 else s.2.1, s.2.2 + 1) (by omega) (by omega)
      rw [← rec_]
      by_cases s1 : s.2.2 = 1
      · rw [if_pos s1, if_pos s1, if_neg (by rw [s1]; decide), if_neg (by rw [s1]; decide)]
      · rw [if_neg s1, if_neg s1]
        by_cases s0 : s.2.2 = 0
        · rw [if_pos s0, if_pos s0]
        · rw [if_neg s0, if_neg s0]
    · rw [Bool.eq_false_iff.mpr c, if_pos (show bi false = 0 from rfl), if_neg (show ¬ false = true by decide)]
      exact YM_meetOf_L12_e he hd r r' hM h5 p m f (l + 1) s (by omega) (by omega)
