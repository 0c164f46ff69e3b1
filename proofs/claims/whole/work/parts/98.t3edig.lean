/-! ===== digest ===== -/
section
variable {h : sd_H} {N S : Nat}
theorem get_v {g : sd_H} (q : QQ g h) {r f n j : Nat} (hr : r < 6) (hf : f ≤ 4) (hn : n ≤ 24) (hj : j < n) (e1 : h.1 127 r = nI f) (e2 : h.1 128 r = nI n) {T : Int64} (t : XN_shown (nI f) (h.2.1 129 (24 * r + j)) = some T) :
    XT_get g (nI r) (nI j) = some (g, T) ∧ XT_writer g (nI r) (nI j) = some (g, h.1 130 (24 * r + j)) := by
  have c := q.2.2.1
  have e24 : nI r * 24 + nI j = nI (24 * r + j) := by rw [lit 24, pk_mul, nI_add, Nat.mul_comm]
  rcases row_cs q.1 hr with ⟨_, z, _⟩ | ⟨f', n', hf', hn', x1, x2, x3, x4, x5⟩
  · rw [c 127 (by omega) (by omega), e1] at z
    exact absurd z (nm1 (by omega))
  · rw [c 127 (by omega) (by omega), e1] at x2
    rw [c 128 (by omega) (by omega), e2] at x4
    have ff : f = f' := (nI_eq (by omega) (by omega)).mp x2
    have nn : n = n' := (nI_eq (by omega) (by omega)).mp x4
    subst ff
    subst nn
    obtain ⟨y1, y2⟩ := x5 j (by omega)
    rw [q.2.1] at y1
    rw [c 130 (by omega) (by omega)] at y2
    refine ⟨?_, ?_⟩
    · unfold XT_get
      rw [XT_isRow_e, b1_s, show wn (nI r) 0 5 = 1 from wn_n (m := 5) (by omega) (by omega), if_neg z10.mp, XR_isMissing_f hr hf x1, b1_s, if_pos rfl, XR_hasCell_t hr x3 hn hj, b1_s, if_neg z10.mp, e24, inB_n hr (by omega), gd_t, inB_n (by omega) (by omega), gd_t, nI_clamp (by omega), nI_clamp (by omega), x1, q.2.1, y1, t, b1_s]
    · unfold XT_writer
      rw [XT_isRow_e, b1_s, show wn (nI r) 0 5 = 1 from wn_n (m := 5) (by omega) (by omega), if_neg z10.mp, XR_isMissing_f hr hf x1, b1_s, if_pos rfl, XR_hasCell_t hr x3 hn hj, b1_s, if_neg z10.mp, e24, inB_n (by omega) (by omega), gd_t, nI_clamp (by omega), y2]
theorem dg_cells (iv : Iv h h) (il : IL h h N S) {r f n : Nat} (hr : r < 6) (hf : f ≤ 4) (hn : n ≤ 24) (e1 : h.1 127 r = nI f) (e2 : h.1 128 r = nI n) : ∀ m fu fu2 i, i + m = n → m < fu → m < fu2 → DV h (fun g a => XT_withCells_L6 fu g (nI r) a (nI i)) (fun v a => YM_cellsDigest_L6 fu2 v (nI r) a (nI i))
  | _, 0, _, _, _, q, _ => absurd q (Nat.not_lt_zero _)
  | _, _, 0, _, _, _, q => absurd q (Nat.not_lt_zero _)
  | 0, fu + 1, fu2 + 1, i, e, _, _ => by
    refine DV_x (DV_r h) (fun g a q => ?_) (fun v a q => ?_)
    · have x3 : g.1 3 r = nI n := by
        rcases row_cs q.1 hr with ⟨_, z, _⟩ | ⟨f', n', hf', hn', x1, x2, x3, x4, x5⟩
        · rw [q.2.2.1 127 (by omega) (by omega), e1] at z
          exact absurd z (nm1 (by omega))
        · rw [q.2.2.1 128 (by omega) (by omega), e2] at x4
          rw [x3, ← x4]
      unfold XT_withCells_L6
      rw [inB_n hr (by omega), gd_t, nI_clamp (by omega), x3, if_pos (nI_le (by omega) (by omega))]
    · unfold YM_cellsDigest_L6
      rw [inB_n hr (by omega), gd_t, nI_clamp (by omega), q.2.2.1 128 (by omega) (by omega), e2, if_pos (nI_le (by omega) (by omega))]
  | m + 1, fu + 1, fu2 + 1, i, e, q1, q2 => fun a => by
    obtain ⟨T, t1, t2⟩ := shown_e (h := h) hr (show i < 24 by omega) hf e1 (iv.2.2.2.1 _ (by omega))
    obtain ⟨l1, lx1, lm1⟩ := D_last il (s := 1) (r := r) (c := i) (by omega) (by omega) hr (by omega)
    obtain ⟨l2, lx2, lm2⟩ := D_last il (s := 2) (r := r) (c := i) (by omega) (by omega) hr (by omega)
    obtain ⟨b, x, mm⟩ := dg_cells iv il hr hf hn e1 e2 m fu fu2 (i + 1) (by omega) (by omega) (by omega) ((31 * ((31 * ((31 * ((31 * a) + T)) + (Int32.toInt64 (h.1 130 (24 * r + i))))) + (Int32.toInt64 l1))) + (Int32.toInt64 l2))
    refine ⟨b, fun g q => ?_, fun w q => ?_⟩
    · have x3 : g.1 3 r = nI n := by
        rcases row_cs q.1 hr with ⟨_, z, _⟩ | ⟨f', n', hf', hn', x1, x2, x3, x4, x5⟩
        · rw [q.2.2.1 127 (by omega) (by omega), e1] at z
          exact absurd z (nm1 (by omega))
        · rw [q.2.2.1 128 (by omega) (by omega), e2] at x4
          rw [x3, ← x4]
      obtain ⟨gv1, gv2⟩ := get_v q hr hf hn (show i < n by omega) e1 e2 t1
      obtain ⟨g1, s1, k1⟩ := lx1 g q
      obtain ⟨g2, s2, k2⟩ := lx2 g1 k1
      have s1' : XT_last g 1 (nI r) (nI i) = some (g1, l1) := s1
      have s2' : XT_last g1 2 (nI r) (nI i) = some (g2, l2) := s2
      show ∃ g', XT_withCells_L6 (fu + 1) g (nI r) a (nI i) = _ ∧ _
      conv => enter [1, g', 1, 1]; unfold XT_withCells_L6
      rw [inB_n hr (by omega), gd_t, nI_clamp (by omega), x3, if_neg (nI_ge (by omega) (by omega)), gv1, b2_s, gv2, b2_s, s1', b2_s, s2', b2_s, nI_1]
      exact x g2 k2
    · have e24' : 24 * nI r + nI i = nI (24 * r + i) := by rw [lit 24, pk_mul, nI_add]
      obtain ⟨T', t1', t2'⟩ := shown_e (h := w) hr (show i < 24 by omega) hf (by rw [q.2.2.1 127 (by omega) (by omega)]; exact e1) (q.1.2.2.2.1 _ (by omega))
      rw [q.2.1, t1] at t1'
      have tt : T = T' := Option.some.inj t1'
      subst tt
      obtain ⟨w1, s1, k1⟩ := lm1 w q
      obtain ⟨w2, s2, k2⟩ := lm2 w1 k1
      have s1' : YM_lastOf w 1 (nI r) (nI i) = some (w1, l1) := s1
      have s2' : YM_lastOf w1 2 (nI r) (nI i) = some (w2, l2) := s2
      show ∃ g', YM_cellsDigest_L6 (fu2 + 1) w (nI r) a (nI i) = _ ∧ _
      conv => enter [1, g', 1, 1]; unfold YM_cellsDigest_L6
      rw [inB_n hr (by omega), gd_t, gd_t, nI_clamp (show r < 2 ^ 31 by omega), q.2.2.1 128 (by omega) (by omega), e2, if_neg (nI_ge (by omega) (by omega)), q.2.2.1 127 (by omega) (by omega), e1, if_neg (nm1 (by omega)), e24', t2', b1_s, inB_n (by omega) (by omega), gd_t, s1', b2_s, s2', b2_s, nI_clamp (by omega), q.2.2.1 130 (by omega) (by omega), nI_1]
      exact mm w2 k2
theorem dg_rowCells (iv : Iv h h) (il : IL h h N S) {r : Nat} (hr : r < 6) : DV h (fun g a => XT_withCells g a (nI r)) (fun v a => YM_cellsDigest v a (nI r)) := by
  rcases row_cs iv hr with ⟨z1, z2, z3⟩ | ⟨f, n, hf, hn, x1, x2, x3, x4, x5⟩
  · refine DV_x (DV_r h) (fun g a q => ?_) (fun v a q => ?_)
    · have g3 : g.1 3 r = 0 := by
        rcases row_cs q.1 hr with ⟨_, _, z⟩ | ⟨f', n', hf', hn', y1, y2, _⟩
        · exact z
        · rw [q.2.2.1 127 (by omega) (by omega), z2] at y2
          exact absurd y2.symm (nm1 (by omega))
      unfold XT_withCells
      rw [FU_s]
      unfold XT_withCells_L6
      rw [inB_n hr (by omega), gd_t, nI_clamp (by omega), g3, if_pos (by decide)]
    · unfold YM_cellsDigest
      rw [FU_s]
      unfold YM_cellsDigest_L6
      rw [inB_n hr (by omega), gd_t, gd_t, nI_clamp (by omega), q.2.2.1 127 (by omega) (by omega), z2, if_pos rfl]
      split <;> rfl
  · refine DV_x (dg_cells iv il hr hf hn x2 x4 n FU FU 0 (by omega) (by rw [FU_s]; omega) (by rw [FU_s]; omega)) (fun g a _ => ?_) (fun v a _ => ?_)
    · unfold XT_withCells
      rw [← nI_0]
    · unfold YM_cellsDigest
      rw [← nI_0]
theorem dg_ended (il : IL h h N S) : ∀ m fu fu2 p, p + m = 10 → m < fu → m < fu2 → DV h (fun g a => XT_digest_L127 fu g a (nI p)) (fun v a => YM_digest_L125 fu2 v a (nI p))
  | _, 0, _, _, _, q, _ => absurd q (Nat.not_lt_zero _)
  | _, _, 0, _, _, _, q => absurd q (Nat.not_lt_zero _)
  | 0, fu + 1, fu2 + 1, p, e, _, _ => by
    refine DV_x (DV_r h) (fun g a _ => ?_) (fun v a _ => ?_)
    · unfold XT_digest_L127
      rw [lit 10, if_pos (nI_le (by omega) (by omega))]
    · unfold YM_digest_L125
      rw [lit 10, if_pos (nI_le (by omega) (by omega))]
  | m + 1, fu + 1, fu2 + 1, p, e, q1, q2 => by
    refine DV_x (DV_p (D_ended il (nI p)) (dg_ended il m fu fu2 (p + 1) (by omega) (by omega) (by omega))) (fun g a _ => ?_) (fun v a _ => ?_)
    · conv => lhs; unfold XT_digest_L127
      rw [lit 10, if_neg (show ¬ nI 10 ≤ nI p from nI_ge (by omega) (by omega)), nI_1]
    · conv => lhs; unfold YM_digest_L125
      rw [lit 10, if_neg (show ¬ nI 10 ≤ nI p from nI_ge (by omega) (by omega)), nI_1]
theorem D_faults {f : Nat} (hf : f < 3) : DP h (fun g => XT_faults g (nI f)) (fun v => some (v.1 150 f)) :=
  ⟨h.1 150 f, fun g q => (faults_v q.1 hf).trans (by rw [q.2.2.2.1.1]), fun v q => by show some (v.1 150 f) = _; rw [q.2.2.2.1.1]⟩
theorem dg_faults (il : IL h h N S) : ∀ m fu fu2 f, f + m = 3 → m < fu → m < fu2 → DV h (fun g a => XT_digest_L101 fu g a (nI f)) (fun v a => YM_digest_L98 fu2 v a (nI f))
  | _, 0, _, _, _, q, _ => absurd q (Nat.not_lt_zero _)
  | _, _, 0, _, _, _, q => absurd q (Nat.not_lt_zero _)
  | 0, fu + 1, fu2 + 1, f, e, _, _ => by
    refine DV_x (dg_ended il 10 FU FU 0 (by omega) (by rw [FU_s]; omega) (by rw [FU_s]; omega)) (fun g a _ => ?_) (fun v a _ => ?_)
    · unfold XT_digest_L101
      rw [lit 3, if_pos (nI_le (by omega) (by omega)), ← nI_0]
    · unfold YM_digest_L98
      rw [lit 3, if_pos (nI_le (by omega) (by omega)), ← nI_0]
  | m + 1, fu + 1, fu2 + 1, f, e, q1, q2 => by
    refine DV_x (DV_p (D_faults (show f < 3 by omega)) (dg_faults il m fu fu2 (f + 1) (by omega) (by omega) (by omega))) (fun g a _ => ?_) (fun v a _ => ?_)
    · conv => lhs; unfold XT_digest_L101
      rw [lit 3, if_neg (show ¬ nI 3 ≤ nI f from nI_ge (by omega) (by omega)), nI_1]
    · conv => lhs; unfold YM_digest_L98
      rw [lit 3, if_neg (show ¬ nI 3 ≤ nI f from nI_ge (by omega) (by omega)), inB_n (show f < 3 by omega) (by omega), gd_t, nI_clamp (by omega), nI_1, b1_s]
theorem dg_80 (iv : Iv h h) (il : IL h h N S) : ∀ m fu fu2 r, r + m = 6 → m < fu → m < fu2 → DV h (fun g a => XT_digest_L80 fu g a (nI r)) (fun v a => YM_digest_L77 fu2 v a (nI r))
  | _, 0, _, _, _, q, _ => absurd q (Nat.not_lt_zero _)
  | _, _, 0, _, _, _, q => absurd q (Nat.not_lt_zero _)
  | 0, fu + 1, fu2 + 1, r, e, _, _ => by
    refine DV_x (dg_faults il 3 FU FU 0 (by omega) (by rw [FU_s]; omega) (by rw [FU_s]; omega)) (fun g a _ => ?_) (fun v a _ => ?_)
    · unfold XT_digest_L80
      rw [lit 6, if_pos (nI_le (by omega) (by omega)), ← nI_0]
    · unfold YM_digest_L77
      rw [lit 6, if_pos (nI_le (by omega) (by omega)), ← nI_0]
  | m + 1, fu + 1, fu2 + 1, r, e, q1, q2 => by
    refine DV_x (DV_v (dg_rowCells iv il (show r < 6 by omega)) (dg_80 iv il m fu fu2 (r + 1) (by omega) (by omega) (by omega))) (fun g a _ => ?_) (fun v a _ => ?_)
    · conv => lhs; unfold XT_digest_L80
      rw [lit 6, if_neg (show ¬ nI 6 ≤ nI r from nI_ge (by omega) (by omega)), nI_1]
    · conv => lhs; unfold YM_digest_L77
      rw [lit 6, if_neg (show ¬ nI 6 ≤ nI r from nI_ge (by omega) (by omega)), nI_1]
theorem dg_59 (iv : Iv h h) (il : IL h h N S) : ∀ m fu fu2 r, r + m = 6 → m < fu → m < fu2 → DV h (fun g a => XT_digest_L59 fu g a (nI r)) (fun v a => YM_digest_L56 fu2 v a (nI r))
  | _, 0, _, _, _, q, _ => absurd q (Nat.not_lt_zero _)
  | _, _, 0, _, _, _, q => absurd q (Nat.not_lt_zero _)
  | 0, fu + 1, fu2 + 1, r, e, _, _ => by
    refine DV_x (dg_80 iv il 6 FU FU 0 (by omega) (by rw [FU_s]; omega) (by rw [FU_s]; omega)) (fun g a _ => ?_) (fun v a _ => ?_)
    · unfold XT_digest_L59
      rw [lit 6, if_pos (nI_le (by omega) (by omega)), ← nI_0]
    · unfold YM_digest_L56
      rw [lit 6, if_pos (nI_le (by omega) (by omega)), ← nI_0]
  | m + 1, fu + 1, fu2 + 1, r, e, q1, q2 => by
    refine DV_x (DV_v (dg_row iv il (show r < 6 by omega)) (dg_59 iv il m fu fu2 (r + 1) (by omega) (by omega) (by omega))) (fun g a _ => ?_) (fun v a _ => ?_)
    · conv => lhs; unfold XT_digest_L59
      rw [lit 6, if_neg (show ¬ nI 6 ≤ nI r from nI_ge (by omega) (by omega)), nI_1]
    · conv => lhs; unfold YM_digest_L56
      rw [lit 6, if_neg (show ¬ nI 6 ≤ nI r from nI_ge (by omega) (by omega)), nI_1]
theorem dg_33 (iv : Iv h h) (il : IL h h N S) : ∀ m fu fu2 k, k + m = S → m < fu → m < fu2 → DV h (fun g a => XT_digest_L33 fu g a (nI k)) (fun v a => YM_digest_L33 fu2 v a (nI k))
  | _, 0, _, _, _, q, _ => absurd q (Nat.not_lt_zero _)
  | _, _, 0, _, _, _, q => absurd q (Nat.not_lt_zero _)
  | 0, fu + 1, fu2 + 1, k, e, _, _ => by
    have hS := il.2.1
    refine DV_x (dg_59 iv il 6 FU FU 0 (by omega) (by rw [FU_s]; omega) (by rw [FU_s]; omega)) (fun g a q => ?_) (fun v a q => ?_)
    · unfold XT_digest_L33
      rw [(QQ_il q il).2.2.2.2.1, if_pos (nI_le (by omega) (by omega)), ← nI_0]
    · unfold YM_digest_L33
      rw [(QQ_il q il).2.2.2.2.2.1, if_pos (nI_le (by omega) (by omega)), ← nI_0]
  | m + 1, fu + 1, fu2 + 1, k, e, q1, q2 => by
    have hS := il.2.1
    refine DV_x (DV_v (dg_stmt il (show k < S by omega)) (dg_33 iv il m fu fu2 (k + 1) (by omega) (by omega) (by omega))) (fun g a q => ?_) (fun v a q => ?_)
    · conv => lhs; unfold XT_digest_L33
      rw [(QQ_il q il).2.2.2.2.1, if_neg (nI_ge (by omega) (by omega)), nI_1]
    · conv => lhs; unfold YM_digest_L33
      rw [(QQ_il q il).2.2.2.2.2.1, if_neg (nI_ge (by omega) (by omega)), nI_1]
theorem dg_6 (iv : Iv h h) (il : IL h h N S) : ∀ m fu fu2 k, k + m = 8 → m < fu → m < fu2 → DV h (fun g a => XT_digest_L6 fu g a (nI k)) (fun v a => YM_digest_L6 fu2 v a (nI k))
  | _, 0, _, _, _, q, _ => absurd q (Nat.not_lt_zero _)
  | _, _, 0, _, _, _, q => absurd q (Nat.not_lt_zero _)
  | 0, fu + 1, fu2 + 1, k, e, _, _ => by
    have hS := il.2.1
    refine DV_x (dg_33 iv il S FU FU 0 (by omega) (by rw [FU_s]; omega) (by rw [FU_s]; omega)) (fun g a q => ?_) (fun v a q => ?_)
    · unfold XT_digest_L6
      rw [lit 7, if_pos (show nI 7 < nI k by rw [nI_ltI (by omega) (by omega)]; omega), ← nI_0]
    · unfold YM_digest_L6
      rw [lit 8, if_pos (nI_le (by omega) (by omega)), ← nI_0]
  | m + 1, fu + 1, fu2 + 1, k, e, q1, q2 => by
    refine DV_x (DV_i (D_count il (nI k)) (dg_6 iv il m fu fu2 (k + 1) (by omega) (by omega) (by omega))) (fun g a q => ?_) (fun v a q => ?_)
    · conv => lhs; unfold XT_digest_L6
      rw [lit 7, if_neg (show ¬ nI 7 < nI k by rw [nI_ltI (by omega) (by omega)]; omega), nI_1]
    · conv => lhs; unfold YM_digest_L6
      rw [lit 8, if_neg (show ¬ nI 8 ≤ nI k from nI_ge (by omega) (by omega)), nI_1]
end
theorem E_digest {h : sd_H} (iv : Iv h h) : EE (XT_digest h) (fun g => YM_digest g) := by
  obtain ⟨N, S, il, _⟩ := iv.2.2.2.2.1
  obtain ⟨b, x, m⟩ := dg_6 iv il 8 FU FU 0 (by omega) (by rw [FU_s]; omega) (by rw [FU_s]; omega) 17
  obtain ⟨g, e, q⟩ := x h (QQ_r iv)
  obtain ⟨w, f, q'⟩ := m g q
  refine EE_i (h1 := g) (h2 := w) (r := b) ?_ ?_ q'.1
  · unfold XT_digest
    rw [← nI_0]
    exact e
  · show YM_digest g = _
    unfold YM_digest
    rw [← nI_0]
    exact f
