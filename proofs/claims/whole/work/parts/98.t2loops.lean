/-! ===== digest: the loops ===== -/
theorem b2_b2 {α β γ : Type} (o : Option (sd_H × α)) (k : sd_H → α → Option (sd_H × β)) (f : sd_H → β → Option γ) : b2 (b2 o k) f = b2 o (fun g t => b2 (k g t) f) := by
  cases o <;> rfl
theorem b2_b1 {α β γ : Type} (o : Option α) (k : α → Option (sd_H × β)) (f : sd_H → β → Option γ) : b2 (b1 o k) f = b1 o (fun t => b2 (k t) f) := by
  cases o <;> rfl
section
variable {h : sd_H} {N S : Nat}
theorem dg_kinds (il : IL h h N S) {k : Nat} (hk : k < S) : ∀ m fu fu2 r, r + m = 6 → m < fu → m < fu2 → DV h (fun g a => XT_withStatement_L65 fu g (nI k) a (nI r)) (fun v a => YM_statementDigest_L145 fu2 v (nI k) a (nI r))
  | _, 0, _, _, _, q, _ => absurd q (Nat.not_lt_zero _)
  | _, _, 0, _, _, _, q => absurd q (Nat.not_lt_zero _)
  | 0, fu + 1, fu2 + 1, r, e, _, _ => by
    refine DV_x (DV_r h) (fun g a _ => ?_) (fun v a _ => ?_)
    · unfold XT_withStatement_L65
      rw [lit 6, if_pos (nI_le (by omega) (by omega))]
    · unfold YM_statementDigest_L145
      rw [lit 6, if_pos (nI_le (by omega) (by omega))]
  | m + 1, fu + 1, fu2 + 1, r, e, q1, q2 => by
    refine DV_x (DV_i (D_kinds il hk (show r < 6 by omega)) (dg_kinds il hk m fu fu2 (r + 1) (by omega) (by omega) (by omega))) (fun g a _ => ?_) (fun v a _ => ?_)
    · conv => lhs; unfold XT_withStatement_L65
      rw [lit 6, if_neg (show ¬ nI 6 ≤ nI r from nI_ge (by omega) (by omega)), nI_1]
    · conv => lhs; unfold YM_statementDigest_L145
      rw [lit 6, if_neg (show ¬ nI 6 ≤ nI r from nI_ge (by omega) (by omega)), nI_1]
theorem dg_sect (il : IL h h N S) {k w : Nat} (hk : k < S) (hw : w < 3) (h0 : ¬ N = 0) (ht : ¬ h.1 137 (3 * k + w) = -1) {F : sd_H → Int64 → Option (sd_H × Int64)} {K : sd_H → Int32 → Int64 → Int32 → Option (sd_H × Int64)} (c : DV h F (fun v a => K v (nI k) a (nI (3 * k + w + 1)))) :
    ∀ m fu fu2 d, d + m = 3 → m < fu → m < fu2 → DV h (fun g a => b2 (XT_withReference_L62 fu g (nI k) (nI w) a (nI d)) F) (fun v a => YM_statementDigest_L87 K fu2 v (nI k) a (nI (3 * k + w)) (nI d))
  | _, 0, _, _, _, q, _ => absurd q (Nat.not_lt_zero _)
  | _, _, 0, _, _, _, q => absurd q (Nat.not_lt_zero _)
  | 0, fu + 1, fu2 + 1, d, e, _, _ => by
    refine DV_x c (fun g a _ => ?_) (fun v a _ => ?_)
    · unfold XT_withReference_L62
      rw [lit 2, if_pos (show nI 2 < nI d by rw [nI_ltI (by omega) (by omega)]; omega), b2_s]
    · unfold YM_statementDigest_L87 YM_statementDigest_B136
      rw [lit 3, if_pos (nI_le (by omega) (by omega)), nI_1]
  | m + 1, fu + 1, fu2 + 1, d, e, q1, q2 => by
    have hS := il.2.1
    have hN := il.1
    refine DV_x (DV_i (D_sect il hk hw (show d ≤ 2 by omega) h0 ht) (dg_sect il hk hw h0 ht c m fu fu2 (d + 1) (by omega) (by omega) (by omega))) (fun g a _ => ?_) (fun v a q => ?_)
    · conv => lhs; unfold XT_withReference_L62
      rw [lit 2, if_neg (show ¬ nI 2 < nI d by rw [nI_ltI (by omega) (by omega)]; omega), b2_b2, nI_1, lit 3, pk_mul, nI_add]
    · conv => lhs; unfold YM_statementDigest_L87
      rw [lit 3, if_neg (show ¬ nI 3 ≤ nI d from nI_ge (by omega) (by omega)), inB_n (show 3 * k + w < 15 by omega) (by omega), gd_t, nI_clamp (by omega), q.2.2.1 137 (by omega) (by omega), if_neg ht, (QQ_il q il).2.2.2.1, itp (nle0 (show N < 2 ^ 31 by omega)), if_neg h0, nI_1, b2_b1]
      rfl
theorem dg_ref (il : IL h h N S) {k w : Nat} (hk : k < S) (hw : w < 3) {F : sd_H → Int64 → Option (sd_H × Int64)} {K : sd_H → Int32 → Int64 → Int32 → Option (sd_H × Int64)} (c : DV h F (fun v a => K v (nI k) a (nI (3 * k + w + 1)))) :
    ∀ m fu fu2 z, z + m = 4 → m < fu → m < fu2 → DV h (fun g a => b2 (XT_withReference_L6 fu g (nI k) (nI w) a (nI z)) F) (fun v a => YM_statementDigest_L54 K fu2 v (nI k) a (nI (3 * k + w)) (nI z))
  | _, 0, _, _, _, q, _ => absurd q (Nat.not_lt_zero _)
  | _, _, 0, _, _, _, q => absurd q (Nat.not_lt_zero _)
  | 0, fu + 1, fu2 + 1, z, e, _, _ => by
    have hS := il.2.1
    have hN := il.1
    have r0 : ∀ g, QQ g h → XT_reference g (nI k) (nI w) 0 = some (h.1 137 (3 * k + w)) := fun g q => by
      have := (ref_v (z := 0) (QQ_il q il) hk hw (by omega)).1
      rw [nI_0] at this
      rw [this]
      show some (g.1 137 (3 * k + w)) = _
      rw [q.2.2.1 137 (by omega) (by omega)]
    have xe : ∀ g a, QQ g h → b2 (XT_withReference_L6 (fu + 1) g (nI k) (nI w) a (nI z)) F = if h.1 137 (3 * k + w) = -1 then F g a else if N = 0 then F g a else b2 (XT_withReference_L62 FU g (nI k) (nI w) a 0) F := fun g a q => by
      unfold XT_withReference_L6
      rw [lit 3, if_pos (show nI 3 < nI z by rw [nI_ltI (by omega) (by omega)]; omega), r0 g q, b1_s, (QQ_il q il).2.2.1, itp (nle0 (show N < 2 ^ 31 by omega))]
      by_cases c1 : h.1 137 (3 * k + w) = -1
      · rw [if_pos c1, if_pos c1]
        rfl
      rw [if_neg c1, if_neg c1]
      by_cases c2 : N = 0
      · rw [if_pos c2, if_pos c2]
        rfl
      rw [if_neg c2, if_neg c2]
    have me : ∀ v a, QQ v h → YM_statementDigest_L54 K (fu2 + 1) v (nI k) a (nI (3 * k + w)) (nI z) = if h.1 137 (3 * k + w) = -1 then K v (nI k) a (nI (3 * k + w + 1)) else if N = 0 then K v (nI k) a (nI (3 * k + w + 1)) else YM_statementDigest_L87 K FU v (nI k) a (nI (3 * k + w)) 0 := fun v a q => by
      unfold YM_statementDigest_L54
      rw [lit 4, if_pos (nI_le (by omega) (by omega))]
      by_cases c1 : h.1 137 (3 * k + w) = -1
      · rw [if_pos c1, FU_s]
        unfold YM_statementDigest_L87 YM_statementDigest_B136
        rw [if_neg (show ¬ (3 : Int32) ≤ 0 by decide), inB_n (show 3 * k + w < 15 by omega) (by omega), gd_t, nI_clamp (by omega), q.2.2.1 137 (by omega) (by omega), if_pos c1, nI_1]
      rw [if_neg c1]
      by_cases c2 : N = 0
      · rw [if_pos c2, FU_s]
        unfold YM_statementDigest_L87 YM_statementDigest_B136
        rw [if_neg (show ¬ (3 : Int32) ≤ 0 by decide), inB_n (show 3 * k + w < 15 by omega) (by omega), gd_t, nI_clamp (by omega), q.2.2.1 137 (by omega) (by omega), if_neg c1, (QQ_il q il).2.2.2.1, itp (nle0 (show N < 2 ^ 31 by omega)), if_pos c2, nI_1]
      rw [if_neg c2]
    by_cases c1 : h.1 137 (3 * k + w) = -1
    · exact DV_x c (fun g a q => by rw [xe g a q, if_pos c1]) (fun v a q => by rw [me v a q, if_pos c1])
    by_cases c2 : N = 0
    · exact DV_x c (fun g a q => by rw [xe g a q, if_neg c1, if_pos c2]) (fun v a q => by rw [me v a q, if_neg c1, if_pos c2])
    have s := dg_sect il hk hw c2 c1 c 3 FU FU 0 (by omega) (by rw [FU_s]; omega) (by rw [FU_s]; omega)
    exact DV_x s (fun g a q => by rw [xe g a q, if_neg c1, if_neg c2, ← nI_0]) (fun v a q => by rw [me v a q, if_neg c1, if_neg c2, ← nI_0])
  | m + 1, fu + 1, fu2 + 1, z, e, q1, q2 => by
    refine DV_x (DV_p (D_ref il hk hw (show z ≤ 3 by omega)) (dg_ref il hk hw c m fu fu2 (z + 1) (by omega) (by omega) (by omega))) (fun g a _ => ?_) (fun v a q => ?_)
    · conv => lhs; unfold XT_withReference_L6
      rw [lit 3, if_neg (show ¬ nI 3 < nI z by rw [nI_ltI (by omega) (by omega)]; omega), b2_b1, nI_1]
    · conv => lhs; unfold YM_statementDigest_L54
      rw [lit 4, if_neg (show ¬ nI 4 ≤ nI z from nI_ge (by omega) (by omega)), nI_1]
theorem dg_refs (il : IL h h N S) {k : Nat} (hk : k < S) : ∀ m fu fu2 w, w + m = 3 → m < fu → m < fu2 → DV h (fun g a => XT_withStatement_L39 fu g (nI k) a (nI w)) (fun v a => YM_statementDigest_L41 fu2 v (nI k) a (nI (3 * k + w)))
  | _, 0, _, _, _, q, _ => absurd q (Nat.not_lt_zero _)
  | _, _, 0, _, _, _, q => absurd q (Nat.not_lt_zero _)
  | 0, fu + 1, fu2 + 1, w, e, _, _ => by
    have hS := il.2.1
    refine DV_x (dg_kinds il hk 6 FU FU 0 (by omega) (by rw [FU_s]; omega) (by rw [FU_s]; omega)) (fun g a _ => ?_) (fun v a _ => ?_)
    · unfold XT_withStatement_L39
      rw [lit 3, if_pos (nI_le (by omega) (by omega)), ← nI_0]
    · unfold YM_statementDigest_L41
      rw [lit 3, pk_mul, nI_add, if_pos (nI_le (by omega) (by omega)), ← nI_0]
  | m + 1, fu + 1, fu2 + 1, w, e, q1, q2 => by
    have hS := il.2.1
    have c := dg_ref il hk (show w < 3 by omega) (F := fun g t => XT_withStatement_L39 fu g (nI k) t (nI (w + 1))) (K := YM_statementDigest_L41 fu2) (dg_refs il hk m fu fu2 (w + 1) (by omega) (by omega) (by omega)) 4 FU FU 0 (by omega) (by rw [FU_s]; omega) (by rw [FU_s]; omega)
    refine DV_x c (fun g a _ => ?_) (fun v a _ => ?_)
    · conv => lhs; unfold XT_withStatement_L39 XT_withReference
      rw [lit 3, if_neg (show ¬ nI 3 ≤ nI w from nI_ge (by omega) (by omega)), nI_1, ← nI_0]
    · conv => lhs; unfold YM_statementDigest_L41
      rw [lit 3, pk_mul, nI_add, if_neg (show ¬ nI (3 * k + 3) ≤ nI (3 * k + w) from nI_ge (by omega) (by omega)), ← nI_0]
theorem dg_info (il : IL h h N S) {k : Nat} (hk : k < S) : ∀ m fu fu2 z, z + m = 7 → m < fu → m < fu2 → DV h (fun g a => XT_withStatement_L6 fu g (nI k) a (nI z)) (fun v a => YM_statementDigest_L6 fu2 v (nI k) a (nI z))
  | _, 0, _, _, _, q, _ => absurd q (Nat.not_lt_zero _)
  | _, _, 0, _, _, _, q => absurd q (Nat.not_lt_zero _)
  | 0, fu + 1, fu2 + 1, z, e, _, _ => by
    have hS := il.2.1
    refine DV_x (dg_refs il hk 3 FU FU 0 (by omega) (by rw [FU_s]; omega) (by rw [FU_s]; omega)) (fun g a _ => ?_) (fun v a _ => ?_)
    · unfold XT_withStatement_L6
      rw [lit 6, if_pos (show nI 6 < nI z by rw [nI_ltI (by omega) (by omega)]; omega), ← nI_0]
    · unfold YM_statementDigest_L6
      rw [lit 7, if_pos (nI_le (by omega) (by omega)), lit 3, pk_mul]
      rfl
  | m + 1, fu + 1, fu2 + 1, z, e, q1, q2 => by
    refine DV_x (DV_p (D_info il hk (show z ≤ 6 by omega)) (dg_info il hk m fu fu2 (z + 1) (by omega) (by omega) (by omega))) (fun g a _ => ?_) (fun v a _ => ?_)
    · conv => lhs; unfold XT_withStatement_L6
      rw [lit 6, if_neg (show ¬ nI 6 < nI z by rw [nI_ltI (by omega) (by omega)]; omega), nI_1]
    · conv => lhs; unfold YM_statementDigest_L6
      rw [lit 7, if_neg (show ¬ nI 7 ≤ nI z from nI_ge (by omega) (by omega)), nI_1]
theorem dg_stmt (il : IL h h N S) {k : Nat} (hk : k < S) : DV h (fun g a => XT_withStatement g a (nI k)) (fun v a => YM_statementDigest v a (nI k)) := by
  refine DV_x (dg_info il hk 7 FU FU 0 (by omega) (by rw [FU_s]; omega) (by rw [FU_s]; omega)) (fun g a _ => ?_) (fun v a _ => ?_)
  · unfold XT_withStatement
    rw [← nI_0]
  · unfold YM_statementDigest
    rw [← nI_0]
/-! sets -/
theorem isSet1 (il : IL h h N S) {s r : Nat} (hs : s < 4) (hr : r < 6) (o : Option Nat) (ho : ∀ t, o = some t → t < N) : XT_isSet h (nI s) (nI r) (tI o) = some 1 := by
  have hN := il.1
  unfold XT_isSet XT_isSet_B29
  rw [XT_within_e, b1_s, show wn (nI s) 0 3 = 1 from wn_n (m := 3) (by omega) (by omega), if_neg z10.mp, XT_isRow_e, b1_s, show wn (nI r) 0 5 = 1 from wn_n (m := 5) (by omega) (by omega), if_neg z10.mp]
  cases o with
  | none => exact if_pos rfl
  | some t =>
    have ht := ho t rfl
    show (if nI t = -1 then some 1 else _) = _
    rw [if_neg (nm1 (by omega)), show tI (some t) = nI t from rfl, XT_isTurn_e, b1_s, il.2.2.1, wn_inn ht (by omega), if_neg z10.mp]
theorem D_many_x (il : IL h h N S) {s r : Nat} (hs : s < 4) (hr : r < 6) (o : Option Nat) (ho : ∀ t, o = some t → t < N) : ∀ g, QQ g h → ∃ g', XT_many g (nI s) (nI r) (tI o) = some (g', nI (pc (cw h N s r o) 0 24)) ∧ QQ g' h := fun g q => by
  obtain ⟨g', e, q'⟩ := X_many q.1 (QQ_il q il) hs hr o ho (isSet1 (QQ_il q il) hs hr o ho)
  exact ⟨g', e.trans (by rw [cw_c q]), QQ_t q' q⟩
/-- the sets stand in the model's heap -/
def MSt (w h : sd_H) : Prop := ∀ a, a < 240 → w.1 144 a = q_al h a
theorem bitsOfSet_s (iv : Iv h h) (il : IL h h N S) {s r : Nat} (hs : s < 4) (hr : r < 6) (o : Option Nat) (ho : ∀ t, o = some t → t < N) :
    ∃ w, YM_bitsOfSet h (nI s) (nI r) (tI o) = some (w, nI (cw h N s r o)) ∧ QQ w h ∧ MSt w h := by
  obtain ⟨w, e, i, j⟩ := findsSets_e iv
  have l := YM_bitsOfSet_L10_e (g := w) iv.2.2.1 il i.2.2.2 (by rw [i.2.1 6 (by omega)]; exact il.2.2.2.1) hs hr o ho N FU 0 (by omega) (by have := il.1; rw [FU_s]; omega)
  refine ⟨w, ?_, QQ_ma j i, i.2.2.2⟩
  unfold YM_bitsOfSet
  rw [e, b1_s]
  cases o with
  | none => exact l
  | some i =>
    dsimp only at l
    rw [if_neg (Nat.not_lt_zero _)] at l
    exact l
theorem dg_turns (iv : Iv h h) (il : IL h h N S) {s r : Nat} (hs : s < 4) (hr : r < 6) {F G : sd_H → Int32 → Int64 → Int32 → Option (sd_H × Int64)} (c : DV h (fun g a => F g (nI r) a (nI (s + 1))) (fun v a => G v (nI r) a (nI (s + 1)))) :
    ∀ m fu fu2 t, t + m = N → m < fu → m < fu2 → ∀ a, ∃ b, (∀ g, QQ g h → ∃ g', XT_withSets_L94 F fu g (nI r) a (nI s) (nI t) = some (g', b) ∧ QQ g' h) ∧ ∀ w, QQ w h → MSt w h → ∃ w', YM_rowDigest_L99 G fu2 w (nI r) a (nI s) (nI t) = some (w', b) ∧ QQ w' h
  | _, 0, _, _, _, q, _, _ => absurd q (Nat.not_lt_zero _)
  | _, _, 0, _, _, _, q, _ => absurd q (Nat.not_lt_zero _)
  | 0, fu + 1, fu2 + 1, t, e, _, _, a => by
    have hN := il.1
    obtain ⟨b, x, m⟩ := c a
    refine ⟨b, fun g q => ?_, fun w q _ => ?_⟩
    · unfold XT_withSets_L94
      rw [(QQ_il q il).2.2.1, if_pos (nI_le (by omega) (by omega)), nI_1]
      exact x g q
    · unfold YM_rowDigest_L99
      rw [(QQ_il q il).2.2.2.1, if_pos (nI_le (by omega) (by omega)), nI_1]
      exact m w q
  | m + 1, fu + 1, fu2 + 1, t, e, q1, q2, a => by
    have hN := il.1
    obtain ⟨b, x, mm⟩ := dg_turns iv il hs hr c m fu fu2 (t + 1) (by omega) (by omega) (by omega) ((31 * a) + (Int32.toInt64 (nI (pc (ws h s r t) 0 24))))
    refine ⟨b, fun g q => ?_, fun w q ms => ?_⟩
    · obtain ⟨g', e1, q'⟩ := D_many_x il hs hr (some t) (fun t' ht' => by cases ht'; omega) g q
      have e1' : XT_many g (nI s) (nI r) (nI t) = some (g', nI (pc (ws h s r t) 0 24)) := e1
      unfold XT_withSets_L94
      rw [(QQ_il q il).2.2.1, if_neg (nI_ge (by omega) (by omega)), e1', b2_s, nI_1]
      exact x g' q'
    · have bt := YM_bitsOfTurn_e (g := w) (v := h) (s := s) (r := r) (t := t) iv.2.2.1 il ms hs hr (by omega)
      unfold YM_rowDigest_L99
      rw [(QQ_il q il).2.2.2.1, if_neg (nI_ge (by omega) (by omega)), bt, b1_s, YM_size_e (ws_e iv.2.2.1 il s r t).2, b1_s, nI_1]
      exact mm w q ms
theorem dg_sets (iv : Iv h h) (il : IL h h N S) {r : Nat} (hr : r < 6) : ∀ m fu fu2 s, s + m = 4 → m < fu → m < fu2 → DV h (fun g a => XT_withSets_L49 fu g (nI r) a (nI s)) (fun v a => YM_rowDigest_L49 fu2 v (nI r) a (nI s))
  | _, 0, _, _, _, q, _ => absurd q (Nat.not_lt_zero _)
  | _, _, 0, _, _, _, q => absurd q (Nat.not_lt_zero _)
  | 0, fu + 1, fu2 + 1, s, e, _, _ => by
    refine DV_x (DV_r h) (fun g a _ => ?_) (fun v a _ => ?_)
    · unfold XT_withSets_L49
      rw [lit 4, if_pos (nI_le (by omega) (by omega))]
    · unfold YM_rowDigest_L49
      rw [lit 4, if_pos (nI_le (by omega) (by omega))]
  | m + 1, fu + 1, fu2 + 1, s, e, q1, q2 => fun a => by
    have hN := il.1
    have hl := cw_lt iv.2.2.1 il s r none
    obtain ⟨b, x, mm⟩ := dg_turns iv il (show s < 4 by omega) hr (F := XT_withSets_L49 fu) (G := YM_rowDigest_L49 fu2) (dg_sets iv il hr m fu fu2 (s + 1) (by omega) (by omega) (by omega)) N FU FU 0 (by omega) (by rw [FU_s]; omega) (by rw [FU_s]; omega) ((31 * ((31 * a) + (Int32.toInt64 (nI (pc (cw h N s r none) 0 24))))) + (Int32.toInt64 (nI (np 24 (cw h N s r none)))))
    refine ⟨b, fun g q => ?_, fun w q => ?_⟩
    · obtain ⟨g1, e1, k1⟩ := D_many_x il (show s < 4 by omega) hr none (fun t ht => by cases ht) g q
      obtain ⟨g2, e2, k2⟩ := X_pieces k1.1 (QQ_il k1 il) (show s < 4 by omega) hr none (fun t ht => by cases ht) (isSet1 (QQ_il k1 il) (by omega) hr none (fun t ht => by cases ht))
      have e1' : XT_many g (nI s) (nI r) (-1) = some (g1, nI (pc (cw h N s r none) 0 24)) := e1
      have e2' : XT_pieces g1 (nI s) (nI r) (-1) = some (g2, nI (np 24 (cw g1 N s r none))) := e2
      rw [cw_c k1] at e2'
      show ∃ g', XT_withSets_L49 (fu + 1) g (nI r) a (nI s) = _ ∧ _
      conv => enter [1, g', 1, 1]; unfold XT_withSets_L49
      rw [lit 4, if_neg (show ¬ nI 4 ≤ nI s from nI_ge (by omega) (by omega)), e1', b2_s, e2', b2_s, ← nI_0]
      exact x g2 (QQ_t k2 k1)
    · obtain ⟨w1, e1, k1, ms⟩ := bitsOfSet_s q.1 (QQ_il q il) (show s < 4 by omega) hr none (fun t ht => by cases ht)
      have e1' : YM_bitsOfSet w (nI s) (nI r) (-1) = some (w1, nI (cw w N s r none)) := e1
      rw [cw_c q] at e1'
      obtain ⟨w2, e2, o2⟩ := YM_piecesOf_e (h := w1) hl
      have k1' := QQ_t k1 q
      have k2 := QQ_t (OM_q o2 k1.1) k1'
      show ∃ g', YM_rowDigest_L49 (fu2 + 1) w (nI r) a (nI s) = _ ∧ _
      conv => enter [1, g', 1, 1]; unfold YM_rowDigest_L49
      rw [lit 4, if_neg (show ¬ nI 4 ≤ nI s from nI_ge (by omega) (by omega)), e1', b2_s, YM_size_e hl, b1_s, e2, b2_s, ← nI_0]
      exact mm w2 k2 (fun a ha => by rw [o2.1 144 (by omega), ms a ha, q_al_c (QQ_sl q)])
theorem dg_wit (iv : Iv h h) (il : IL h h N S) {r : Nat} (hr : r < 6) : ∀ m fu fu2 d, d + m = 3 → m < fu → m < fu2 → DV h (fun g a => XT_withSets_L17 fu g (nI r) a (nI d)) (fun v a => YM_rowDigest_L17 fu2 v (nI r) a (nI d))
  | _, 0, _, _, _, q, _ => absurd q (Nat.not_lt_zero _)
  | _, _, 0, _, _, _, q => absurd q (Nat.not_lt_zero _)
  | 0, fu + 1, fu2 + 1, d, e, _, _ => by
    refine DV_x (dg_sets iv il hr 4 FU FU 0 (by omega) (by rw [FU_s]; omega) (by rw [FU_s]; omega)) (fun g a _ => ?_) (fun v a _ => ?_)
    · unfold XT_withSets_L17
      rw [lit 2, if_pos (show nI 2 < nI d by rw [nI_ltI (by omega) (by omega)]; omega), ← nI_0]
    · unfold YM_rowDigest_L17
      rw [lit 3, if_pos (nI_le (by omega) (by omega)), ← nI_0]
  | m + 1, fu + 1, fu2 + 1, d, e, q1, q2 => by
    refine DV_x (DV_i (D_witness il hr (show d ≤ 2 by omega)) (dg_wit iv il hr m fu fu2 (d + 1) (by omega) (by omega) (by omega))) (fun g a _ => ?_) (fun v a _ => ?_)
    · conv => lhs; unfold XT_withSets_L17
      rw [lit 2, if_neg (show ¬ nI 2 < nI d by rw [nI_ltI (by omega) (by omega)]; omega), nI_1]
    · conv => lhs; unfold YM_rowDigest_L17
      rw [lit 3, if_neg (show ¬ nI 3 ≤ nI d from nI_ge (by omega) (by omega)), nI_1]
theorem dg_row (iv : Iv h h) (il : IL h h N S) {r : Nat} (hr : r < 6) : DV h (fun g a => XT_withSets g a (nI r)) (fun v a => YM_rowDigest v a (nI r)) := by
  refine DV_x (DV_i (D_verdict il hr) (dg_wit iv il hr 3 FU FU 0 (by omega) (by rw [FU_s]; omega) (by rw [FU_s]; omega))) (fun g a _ => ?_) (fun v a _ => ?_)
  · unfold XT_withSets
    rw [← nI_0]
  · unfold YM_rowDigest
    rw [← nI_0]
end
