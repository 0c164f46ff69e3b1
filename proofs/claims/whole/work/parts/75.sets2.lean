/-! ===== the sets: x's walk over items, statements, turns ===== -/
theorem XY_items_e {h : sd_H} (iv : Iv h h) {k t b : Nat} {D K0 : Bool} (ik : ILk h h k) (hk : k < 5) (ht : t < 10) (hb5 : b ≤ 5) (hD : D = (K0 || decide (11 ≤ h.1 132 k))) (KK : sd_H → Int32 → Int32 → Option sd_H) :
    ∀ m f j (g : sd_H) A C K, j + m = b → m < f → RX g h A C D → D = (K || decide (11 ≤ h.1 132 k)) →
    ∃ g', XY_addTurn_L100 KK f g (nI t) (nI k) (8 + 5 * k) (nI b) (nI j) = (if (q_its h k t m j (A, C, K, true)).2.2.2 = true then KK g' (nI t) (nI (k + 1)) else some g') ∧
      RX g' h (q_its h k t m j (A, C, K, true)).1 (q_its h k t m j (A, C, K, true)).2.1 D ∧ ((q_its h k t m j (A, C, K, true)).2.2.2 = true → (q_its h k t m j (A, C, K, true)).2.2.1 = if m = 0 then K else D)
  | _, 0, _, _, _, _, _, _, q, _, _ => absurd q (Nat.not_lt_zero _)
  | 0, f + 1, j, g, A, C, K, e, _, i, _ => by
    unfold XY_addTurn_L100
    rw [if_pos (nI_le (by omega) (by omega)), nI_1]
    exact ⟨g, rfl, i, fun _ => rfl⟩
  | m + 1, f + 1, j, g, A, C, K, e, q, i, hd => by
    unfold XY_addTurn_L100 q_its
    rw [if_neg (nI_ge (by omega) (by omega)), nI_1]
    obtain ⟨g1, e1, i1, c1⟩ := XY_addItem_e (j := j) iv i hd ik hk ht
    rw [e1, b2_s, itp (bi_0 _)]
    dsimp only
    obtain ⟨A', C', K', F', es⟩ : ∃ A' C' K' F', q_it h k t j (A, C, K, true) = (A', C', K', F') := ⟨_, _, _, _, rfl⟩
    rw [es] at i1 c1 ⊢
    dsimp only at i1 c1 ⊢
    cases F'
    · rw [if_pos rfl, if_neg (show ¬ false = true by decide)]
      exact ⟨g1, rfl, i1, fun z => absurd (show false = true from z) (by decide)⟩
    · rw [if_neg (show ¬ true = false by decide), if_pos rfl]
      have ck := c1 rfl
      subst ck
      have hd2 : K' = (K' || decide (11 ≤ h.1 132 k)) := by
        rw [hd]
        cases K <;> cases decide (11 ≤ h.1 132 k) <;> rfl
      obtain ⟨g2, e2, i2, c2⟩ := XY_items_e iv ik hk ht hb5 hD KK m f (j + 1) g1 A' C' K' (by omega) (by omega) i1 hd2
      refine ⟨g2, e2, i2, fun z => ?_⟩
      rw [c2 z, if_neg (show ¬ m + 1 = 0 by omega)]
      split <;> rfl
theorem q_sts_RX {h : sd_H} (iv : Iv h h) {N S t : Nat} (il : IL h h N S) (ht : t < 10) :
    ∀ m f k (g : sd_H) A C K, k + m = S → m < f → RX g h A C K →
    ∃ g' C' K', XY_addTurn_L28 f g (nI t) (nI k) = some g' ∧ RX g' h (q_sts h t m k (A, C, K, true)).1 C' K'
  | _, 0, _, _, _, _, _, _, q, _ => absurd q (Nat.not_lt_zero _)
  | 0, f + 1, k, g, A, C, K, e, _, i => by
    have hS := il.2.1
    unfold XY_addTurn_L28
    rw [i.1.1 6 (by omega) (by omega), il.2.2.2.2.1, if_pos (nI_le (by omega) (by omega))]
    exact ⟨g, C, K, rfl, i⟩
  | m + 1, f + 1, k, g, A, C, K, e, q, i => by
    have hS := il.2.1
    have ik := il.2.2.2.2.2.2 k (by omega)
    have ik' := RX_ik i.1 (by omega) ik
    obtain ⟨b, b1', b5, eb⟩ := ik.1.2.2.2.2.2.2.1
    have hd := XA_isDone_e (g := g) (v := h) (P := 1) (k := k) (i := t) (S := S) (RX_ir i.1 iv) iv.2.2.1 ik' (by omega) hS il.2.2.2.2.2.1 ht
    unfold XY_addTurn_L28 q_sts XY_addTurn_B69 XY_addTurn_B92 XY_addTurn_B93
    rw [i.1.1 6 (by omega) (by omega), il.2.2.2.2.1, if_neg (nI_ge (by omega) (by omega)), inB_n (show k < 5 by omega) (by omega), gd_t, nI_clamp (by omega), hd, b1_s]
    dsimp only
    by_cases d : dn h k t = true
    · rw [d, if_neg (show ¬ bi true = 0 by decide), if_pos rfl, ik'.1.2.1, eb, if_neg (nI_nle (by omega) (by omega)), XA_mayBeOver_e ik', b1_s, itp (bi_0 _), i.2.2]
      have step : ∀ D : Bool, D = (K || decide (11 ≤ h.1 132 k)) → ∃ g' C' K', XY_addTurn_L100 (XY_addTurn_L28 f) FU (wI g 56 4 (bi D)) (nI t) (nI k) (8 + 5 * k) (nI b) 0 = some g' ∧
          RX g' h (if (q_its h k t (nI b).toNatClampNeg 0 (A, C, K, true)).2.2.2 = true then q_sts h t m (k + 1) (q_its h k t (nI b).toNatClampNeg 0 (A, C, K, true)) else q_its h k t (nI b).toNatClampNeg 0 (A, C, K, true)).1 C' K' := fun D hD => by
        obtain ⟨g1, e1, i1, c1⟩ := XY_items_e iv ik (by omega) ht b5 hD (XY_addTurn_L28 f) b FU 0 _ A C K (by omega) (by rw [FU_s]; omega) (RX_k (b := D) i) hD
        rw [nI_0] at e1
        rw [nI_clamp (show b < 2 ^ 31 by omega), e1]
        obtain ⟨A', C', K', F', es⟩ : ∃ A' C' K' F', q_its h k t b 0 (A, C, K, true) = (A', C', K', F') := ⟨_, _, _, _, rfl⟩
        rw [es] at i1 c1 ⊢
        dsimp only at i1 c1 ⊢
        cases F'
        · rw [if_neg (show ¬ false = true by decide), if_neg (show ¬ false = true by decide)]
          exact ⟨g1, _, _, rfl, i1⟩
        · rw [if_pos rfl, if_pos rfl]
          have ck := c1 rfl
          rw [if_neg (by omega)] at ck
          subst ck
          exact q_sts_RX iv il ht m f (k + 1) g1 A' C' K' (by omega) (by omega) i1
      cases o : decide (11 ≤ h.1 132 k)
      · rw [if_pos rfl]
        have s := step K (by rw [o, Bool.or_false])
        have eK : bi K ||| 0 = bi K := by cases K <;> rfl
        rw [eK, bi_B, gd_t, hb_s]
        exact s
      · rw [if_neg (show ¬ true = false by decide)]
        have s := step true (by rw [o, Bool.or_true])
        have eK : bi K ||| 1 = bi true := by cases K <;> rfl
        rw [eK, bi_B, gd_t, hb_s]
        exact s
    · rw [Bool.eq_false_iff.mpr d, if_pos (show bi false = 0 from rfl), if_pos (show (0 : Int32) ≤ 0 by decide), if_neg (show ¬ false = true by decide), i.2.2, if_pos rfl]
      have eK : bi K ||| 0 = bi K := by cases K <;> rfl
      rw [eK, bi_B, gd_t, hb_s, show FU = 99999 + 1 from rfl]
      unfold XY_addTurn_L100
      rw [if_pos (show (0 : Int32) ≤ 0 by decide), nI_1]
      exact q_sts_RX iv il ht m f (k + 1) _ A C K (by omega) (by omega) (RX_k (b := K) i)
theorem XY_addTurn_L2_e {h : sd_H} {t : Nat} : ∀ m f r (g : sd_H), r + m = 6 → m < f → XY_addTurn_L2 f g (nI t) (nI r) = hb (wI (fI g 62 r 6 0) 56 4 0) (fun h2 => XY_addTurn_L28 FU h2 (nI t) 0)
  | _, 0, _, _, _, q => absurd q (Nat.not_lt_zero _)
  | 0, f + 1, r, g, e, _ => by
    unfold XY_addTurn_L2
    simp (disch := omega) only [lit 2, lit 3, lit 4, lit 5, lit 6, lit 9, lit 10, lit 11, lit 12, lit 18, lit 20, lit 22, lit 23, lit 24, lit 60, lit 63, lit 64, lit 100, lit 120, lit 144, lit 240, lit 255, lit 1440, nI_leI, nI_ltI, nI_eqI, nI_add, nI_1, nI_1a, nI_m1, pk_mul, pk_sub, pk_rem, pk_div, nI_clamp, inB_n, nI_ne_m1, m1_ne_nI, nI_nle0, nI_nlt0, n0lt, n0le, n0eq, n1eq, nle0, nlt0, gd_t, b1_s, b2_s, hb_s, sd_isB_0, sd_isB_1]
    rw [if_pos (by omega), fI_nil _ _ (by omega)]
  | m + 1, f + 1, r, g, e, q => by
    unfold XY_addTurn_L2
    simp (disch := omega) only [lit 2, lit 3, lit 4, lit 5, lit 6, lit 9, lit 10, lit 11, lit 12, lit 18, lit 20, lit 22, lit 23, lit 24, lit 60, lit 63, lit 64, lit 100, lit 120, lit 144, lit 240, lit 255, lit 1440, nI_leI, nI_ltI, nI_eqI, nI_add, nI_1, nI_1a, nI_m1, pk_mul, pk_sub, pk_rem, pk_div, nI_clamp, inB_n, nI_ne_m1, m1_ne_nI, nI_nle0, nI_nlt0, n0lt, n0le, n0eq, n1eq, nle0, nlt0, gd_t, b1_s, b2_s, hb_s, sd_isB_0, sd_isB_1]
    rw [if_neg (by omega), XY_addTurn_L2_e (h := h) m f (r + 1) _ (by omega) (by omega), fI_st (by omega)]
    rfl
theorem XY_addTurn_e {g h : sd_H} (iv : Iv h h) {N S t : Nat} {A : Nat → Int32} (il : IL h h N S) (ht : t < 10) (i : RA g h A) : ∃ g', XY_addTurn g (nI t) = some g' ∧ RA g' h (q_tn h t A) := by
  obtain ⟨a, b, c, d⟩ := i
  have i0 : RX (wI (fI g 62 0 6 0) 56 4 0) h A (fun _ => 0) false := by
    refine ⟨⟨fun c' h1 h2 => ?_, fun k hk => ?_, c, fun s' a' hs' ha' => ?_⟩, fun q hq => ?_, ?_⟩
    · simp (disch := omega) only [wI_d, wD_i, fI_d, fD_i, wI_eq, wD_eq, wI_ne, wD_ne, fI_ne, fD_ne, wI_ns, wD_ns, fI_eq, fD_eq, fI_ns, fD_ns]
      exact a c' h1 h2
    · simp (disch := omega) only [wI_d, wD_i, fI_d, fD_i, wI_eq, wD_eq, wI_ne, wD_ne, fI_ne, fD_ne, wI_ns, wD_ns, fI_eq, fD_eq, fI_ns, fD_ns]
      exact b k hk
    · simp (disch := omega) only [wI_d, wD_i, fI_d, fD_i, wI_eq, wD_eq, wI_ne, wD_ne, fI_ne, fD_ne, wI_ns, wD_ns, fI_eq, fD_eq, fI_ns, fD_ns]
      exact d s' a' hs' ha'
    · simp (disch := omega) only [wI_d, wD_i, fI_d, fD_i, wI_eq, wD_eq, wI_ne, wD_ne, fI_ne, fD_ne, wI_ns, wD_ns, fI_eq, fD_eq, fI_ns, fD_ns]
    · simp (disch := omega) only [wI_d, wD_i, fI_d, fD_i, wI_eq, wD_eq, wI_ne, wD_ne, fI_ne, fD_ne, wI_ns, wD_ns, fI_eq, fD_eq, fI_ns, fD_ns]
      rfl
  obtain ⟨g', C', K', e, i'⟩ := q_sts_RX iv il ht S FU 0 _ A _ _ (by omega) (by have := il.2.1; rw [FU_s]; omega) i0
  refine ⟨g', ?_, ?_⟩
  · unfold XY_addTurn
    rw [show (0 : Int32) = nI 0 from rfl, XY_addTurn_L2_e (h := h) 6 FU 0 g (by omega) (by rw [FU_s]; omega), hb_s]
    exact e
  · unfold q_tn
    rw [il.2.2.2.2.2.1, nI_clamp (by have := il.2.1; omega)]
    exact i'.1
theorem XY_refresh_L46_e {h : sd_H} (iv : Iv h h) {N S : Nat} (il : IL h h N S) : ∀ m f t (g : sd_H) A, t + m = N → m < f → RA g h A →
    ∃ g', XY_refresh_L46 f g (nI t) = some (wI g' 56 5 0) ∧ RA g' h (q_tns h m t A)
  | _, 0, _, _, _, _, q, _ => absurd q (Nat.not_lt_zero _)
  | 0, f + 1, t, g, A, e, _, i => by
    have hN := il.1
    unfold XY_refresh_L46
    rw [i.1 6 (by omega) (by omega), il.2.2.1, if_pos (nI_le (by omega) (by omega)), hb_s]
    exact ⟨g, rfl, i⟩
  | m + 1, f + 1, t, g, A, e, q, i => by
    have hN := il.1
    unfold XY_refresh_L46
    rw [i.1 6 (by omega) (by omega), il.2.2.1, if_neg (nI_ge (by omega) (by omega))]
    obtain ⟨g1, e1, i1⟩ := XY_addTurn_e iv il (show t < 10 by omega) i
    rw [e1, b1_s, nI_1]
    exact XY_refresh_L46_e iv il m f (t + 1) g1 _ (by omega) (by omega) i1
theorem XY_refresh_L17_e (K10 : sd_H → Int32 → Option sd_H) {s : Nat} (hs : s < 4) : ∀ m f a (g : sd_H), a + m = 60 → m < f → XY_refresh_L17 K10 f g (nI s) (nI a) = K10 (fI g (58 + s) a 60 0) (nI (s + 1))
  | _, 0, _, _, _, q => absurd q (Nat.not_lt_zero _)
  | 0, f + 1, a, g, e, _ => by
    unfold XY_refresh_L17
    simp (disch := omega) only [lit 2, lit 3, lit 4, lit 5, lit 6, lit 9, lit 10, lit 11, lit 12, lit 18, lit 20, lit 22, lit 23, lit 24, lit 60, lit 63, lit 64, lit 100, lit 120, lit 144, lit 240, lit 255, lit 1440, nI_leI, nI_ltI, nI_eqI, nI_add, nI_1, nI_1a, nI_m1, pk_mul, pk_sub, pk_rem, pk_div, nI_clamp, inB_n, nI_ne_m1, m1_ne_nI, nI_nle0, nI_nlt0, n0lt, n0le, n0eq, n1eq, nle0, nlt0, gd_t, b1_s, b2_s, hb_s, sd_isB_0, sd_isB_1]
    rw [if_pos (by omega), fI_nil _ _ (by omega)]
  | m + 1, f + 1, a, g, e, q => by
    unfold XY_refresh_L17
    simp (disch := omega) only [lit 2, lit 3, lit 4, lit 5, lit 6, lit 9, lit 10, lit 11, lit 12, lit 18, lit 20, lit 22, lit 23, lit 24, lit 60, lit 63, lit 64, lit 100, lit 120, lit 144, lit 240, lit 255, lit 1440, nI_leI, nI_ltI, nI_eqI, nI_add, nI_1, nI_1a, nI_m1, pk_mul, pk_sub, pk_rem, pk_div, nI_clamp, inB_n, nI_ne_m1, m1_ne_nI, nI_nle0, nI_nlt0, n0lt, n0le, n0eq, n1eq, nle0, nlt0, gd_t, b1_s, b2_s, hb_s, sd_isB_0, sd_isB_1, Nat.one_mul]
    rw [if_neg (by omega), XY_refresh_L17_e K10 hs m f (a + 1) _ (by omega) (by omega), fI_st (by omega)]
theorem XY_refresh_L10_s {s : Nat} (hs : s < 4) (f : Nat) (g : sd_H) : XY_refresh_L10 (f + 1) g (nI s) = XY_refresh_L10 f (fI g (58 + s) 0 60 0) (nI (s + 1)) := by
  conv => lhs; unfold XY_refresh_L10
  have e := XY_refresh_L17_e (XY_refresh_L10 f) hs 60 FU 0 g (by omega) (by rw [FU_s]; omega)
  rw [nI_0] at e
  rw [show (4 : Int32) = nI 4 from rfl, if_neg (nI_ge hs (by omega)), e]
/-- the summary is made anew, or stands -/
def XF (g h : sd_H) : Prop := (∀ c, ¬ c = 56 → (c < 58 ∨ 62 < c) → g.1 c = h.1 c) ∧ g.2 = h.2
/-- the sets stand in g -/
def FS (g : sd_H) (A : Nat → Int32) : Prop := ∀ s a, s < 4 → a < 60 → g.1 (58 + s) a = A (24 * (a / 6) + 6 * s + a % 6)
theorem refresh_e {h : sd_H} (iv : Iv h h) : ∃ g, XY_refresh h = some g ∧ Iv g g ∧ XF g h ∧ FS g (q_al h) ∧ g.1 56 5 = 0 := by
  obtain ⟨N, S, il, ih⟩ := iv.2.2.2.2.1
  have hN := il.1
  unfold XY_refresh
  rcases iv.2.2.2.2.2.2.2.2 with s | ⟨s, t⟩
  · rw [if_neg (by rw [s]; decide), show FU = 99995 + 5 from rfl, show XY_refresh_L10 (99995 + 5) h 0 = XY_refresh_L10 (99995 + 5) h (nI 0) from rfl, XY_refresh_L10_s (by omega), XY_refresh_L10_s (by omega), XY_refresh_L10_s (by omega), XY_refresh_L10_s (by omega)]
    unfold XY_refresh_L10
    rw [show (4 : Int32) = nI 4 from rfl, if_pos (nI_le (by omega) (by omega))]
    have i0 : RA (fI (fI (fI (fI h (58 + 0) 0 60 0) (58 + (0 + 1)) 0 60 0) (58 + (0 + 1 + 1)) 0 60 0) (58 + (0 + 1 + 1 + 1)) 0 60 0) h (fun _ => 0) := by
      refine ⟨fun c' h1 h2 => ?_, fun k hk => ?_, rfl, fun s' a' hs' ha' => ?_⟩
      · simp (disch := omega) only [wI_d, wD_i, fI_d, fD_i, wI_eq, wD_eq, wI_ne, wD_ne, fI_ne, fD_ne, wI_ns, wD_ns, fI_eq, fD_eq, fI_ns, fD_ns]
      · simp (disch := omega) only [wI_d, wD_i, fI_d, fD_i, wI_eq, wD_eq, wI_ne, wD_ne, fI_ne, fD_ne, wI_ns, wD_ns, fI_eq, fD_eq, fI_ns, fD_ns]
      · have ss : s' = 0 ∨ s' = 1 ∨ s' = 2 ∨ s' = 3 := by omega
        rcases ss with rfl | rfl | rfl | rfl <;> simp (disch := omega) only [wI_d, wD_i, fI_d, fD_i, wI_eq, wD_eq, wI_ne, wD_ne, fI_ne, fD_ne, wI_ns, wD_ns, fI_eq, fD_eq, fI_ns, fD_ns]
    obtain ⟨g', e, i⟩ := XY_refresh_L46_e iv il N FU 0 _ _ (by omega) (by rw [FU_s]; omega) i0
    rw [nI_0] at e
    rw [e]
    obtain ⟨a, b, c, d⟩ := i
    have qa : q_tns h N 0 (fun _ => 0) = q_al h := by
      unfold q_al
      rw [il.2.2.2.1, nI_clamp (by omega)]
    rw [qa] at d
    have xf : XF (wI g' 56 5 0) h := ⟨fun q h1 h2 => by simp (disch := omega) only [wI_d, wD_i, fI_d, fD_i, wI_eq, wD_eq, wI_ne, wD_ne, fI_ne, fD_ne, wI_ns, wD_ns, fI_eq, fD_eq, fI_ns, fD_ns]; exact a q h1 h2, c⟩
    have fs : FS (wI g' 56 5 0) (q_al h) := fun s a hs ha => by simp (disch := omega) only [wI_d, wD_i, fI_d, fD_i, wI_eq, wD_eq, wI_ne, wD_ne, fI_ne, fD_ne, wI_ns, wD_ns, fI_eq, fD_eq, fI_ns, fD_ns]; exact d s a hs ha
    have cc := xf.1
    refine ⟨wI g' 56 5 0, rfl, ?_, xf, fs, by simp (disch := omega) only [wI_d, wD_i, fI_d, fD_i, wI_eq, wD_eq, wI_ne, wD_ne, fI_ne, fD_ne, wI_ns, wD_ns, fI_eq, fD_eq, fI_ns, fD_ns]⟩
    have sl : SL (wI g' 56 5 0) h := ⟨dn_c (cc 127 (by omega) (by omega)) (cc 128 (by omega) (by omega)) (by rw [show (wI g' 56 5 0).2 = h.2 from c]) (cc 134 (by omega) (by omega)) (cc 135 (by omega) (by omega)) (cc 136 (by omega) (by omega)) (by rw [cc 126 (by omega) (by omega)]), cc 127 (by omega) (by omega), cc 128 (by omega) (by omega), cc 132 (by omega) (by omega), cc 133 (by omega) (by omega), cc 137 (by omega) (by omega), cc 138 (by omega) (by omega), cc 139 (by omega) (by omega), cc 140 (by omega) (by omega), by rw [cc 126 (by omega) (by omega)], by rw [cc 126 (by omega) (by omega)]⟩
    obtain ⟨i1, i2, i3, i4, i5, i6, i7, i8, _⟩ := iv
    unfold Iv
    rw [cc 2 (by omega) (by omega), cc 3 (by omega) (by omega), show (wI g' 56 5 0).2 = h.2 from c, cc 127 (by omega) (by omega), cc 128 (by omega) (by omega), cc 5 (by omega) (by omega), cc 130 (by omega) (by omega), cc 0 (by omega) (by omega), cc 55 (by omega) (by omega), cc 126 (by omega) (by omega), cc 142 (by omega) (by omega), cc 107 (by omega) (by omega), cc 108 (by omega) (by omega), cc 109 (by omega) (by omega), cc 150 (by omega) (by omega), cc 151 (by omega) (by omega)]
    refine ⟨i1, i2, i3, i4, ⟨N, S, IL_c (fun q h1 h2 => cc q (by omega) (by omega)) (cc 132 (by omega) (by omega)) (cc 133 (by omega) (by omega)) (cc 134 (by omega) (by omega)) (cc 135 (by omega) (by omega)) (cc 136 (by omega) (by omega)) (cc 137 (by omega) (by omega)) (cc 138 (by omega) (by omega)) (cc 139 (by omega) (by omega)) (cc 140 (by omega) (by omega)) (by rw [cc 126 (by omega) (by omega)]) (by rw [cc 126 (by omega) (by omega)]) il, IH_c (cc 33 (by omega) (by omega)) (fun q h1 h2 => cc q (by omega) (by omega)) (cc 141 (by omega) (by omega)) (by rw [cc 126 (by omega) (by omega)]) ih⟩, i6, i7, i8, Or.inr ⟨by simp (disch := omega) only [wI_d, wD_i, fI_d, fD_i, wI_eq, wD_eq, wI_ne, wD_ne, fI_ne, fD_ne, wI_ns, wD_ns, fI_eq, fD_eq, fI_ns, fD_ns], fun s hs a ha => ?_⟩⟩
    rw [q_al_c sl]
    exact fs s a hs ha
  · rw [if_pos s]
    exact ⟨h, rfl, iv, ⟨fun _ _ _ => rfl, rfl⟩, fun s' a hs ha => t s' hs a ha, s⟩
