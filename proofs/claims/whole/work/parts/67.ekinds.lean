/-! ===== the calls kinds and kind ===== -/
def kl (v : sd_H) (k r w : Nat) : Bool := lk v (3 * k + w) && decide (v.1 137 (3 * k + w) = nI r)
theorem kl_iff {v : sd_H} {k r w : Nat} : (kl v k r w = true) = (lk v (3 * k + w) = true ∧ v.1 137 (3 * k + w) = nI r) := by
  unfold kl
  rw [Bool.and_eq_true, decide_eq_true_eq]
theorem XA_looksAtRow_s {g v : sd_H} {k r w : Nat} (ik : ILk g v k) (hr : r < 6) (hw : w < 3) (f : Nat) :
    XA_looksAtRow_L2 g (f + 1) (8 + 5 * k) (nI r) (nI w) = if kl v k r w = true then some 1 else XA_looksAtRow_L2 g f (8 + 5 * k) (nI r) (nI (w + 1)) := by
  conv => lhs; unfold XA_looksAtRow_L2
  unfold XA_looksAtRow_B30
  rw [lit 3, if_neg (nI_ge hw (by omega)), XA_looksAt_e ik hw, b1_s, inB_n hw (by omega), gd_t, nI_clamp (by omega), show 8 + 5 * k + 1 + 1 + w = 10 + 5 * k + w by omega, (ik.2 w hw).1, nI_1]
  by_cases c : v.1 137 (3 * k + w) = nI r
  · have l := lk_w hw hr c
    rw [if_pos c]
    unfold kl
    rw [l, decide_eq_true c, Bool.and_true]
    cases decide (w < 2) || !decide (v.1 132 k = 9)
    · rw [if_pos (show bi false = 0 from rfl), if_neg (show ¬ false = true by decide)]
    · rw [if_neg (show ¬ bi true = 0 by decide), if_pos (show true = true from rfl)]
  · rw [if_neg c, if_neg (c := kl v k r w = true) (by rw [kl_iff]; exact fun z => c z.2)]
    split <;> rfl
def lr (v : sd_H) (k r : Nat) : Bool := kl v k r 0 || (kl v k r 1 || kl v k r 2)
theorem XA_looksAtRow_e {g v : sd_H} {k r : Nat} (ik : ILk g v k) (hr : r < 6) : XA_looksAtRow g (8 + 5 * k) (nI r) = some (bi (lr v k r)) := by
  unfold XA_looksAtRow lr
  rw [show FU = 99996 + 4 from rfl, show (0 : Int32) = nI 0 from rfl, XA_looksAtRow_s ik hr (by omega), XA_looksAtRow_s ik hr (by omega), XA_looksAtRow_s ik hr (by omega)]
  cases kl v k r 0
  · rw [if_neg (show ¬ false = true by decide), Bool.false_or]
    cases kl v k r 1
    · rw [if_neg (show ¬ false = true by decide), Bool.false_or]
      cases kl v k r 2
      · rw [if_neg (show ¬ false = true by decide)]
        unfold XA_looksAtRow_L2
        rfl
      · rfl
    · rfl
  · rfl
theorem kA_0 {v : sd_H} {k r : Nat} (q : lr v k r = false) : ∀ m i s, kA v k (nI r) m i s = s
  | 0, _, _ => rfl
  | m + 1, i, s => by
    have z : ∀ w, w < 3 → ∀ s, kS v (nI r) i (3 * k + w) s = s := fun w hw s => by
      refine if_neg fun y => ?_
      have : kl v k r w = true := by rw [kl_iff]; exact y
      unfold lr at q
      have cc : w = 0 ∨ w = 1 ∨ w = 2 := by omega
      rcases cc with rfl | rfl | rfl <;> rw [this] at q <;> simp at q
    have kt : kT v k (nI r) i s = s := by
      unfold kT
      split
      · have z0 := z 0 (by omega) s
        rw [z 1 (by omega), z 2 (by omega)]
        exact z0
      · rfl
    unfold kA
    rw [kt]
    exact kA_0 q m (i + 1) s
theorem kA_c {v v' : sd_H} (s : SL v' v) (k : Nat) (r : Int32) : ∀ m i t, kA v' k r m i t = kA v k r m i t
  | 0, _, _ => rfl
  | m + 1, i, t => by
    have ks : ∀ e t, kS v' r i e t = kS v r i e t := fun e t => by
      obtain ⟨s1, s2, s3⟩ := sect_c (v := v) (v' := v') s.2.2.2.2.1 s.2.2.2.2.2.2.1 s.2.2.2.2.2.2.2.1 s.2.2.2.2.2.2.2.2.1 e i
      unfold kS
      rw [lk_c s, s.2.2.2.2.2.1, s1, s2, s3]
    unfold kA kT
    rw [s.1, ks, ks, ks]
    exact kA_c s k r m (i + 1) _
theorem Iv_kx {g h : sd_H} {s : Nat × (Nat → Nat → Int32)} (k : KX g h s) (i : Iv h h) : Iv g g := by
  have c := k.1
  have d := k.2.1
  refine Iv_c (c 2 (by omega)) (c 3 (by omega)) (by rw [d]) (c 5 (by omega)) (fun q h1 h2 => c q (by omega)) (c 33 (by omega)) (fun q h1 h2 => c q (by omega)) (c 55 (by omega)) (by rw [c 0 (by omega)])
    (c 107 (by omega)) (c 108 (by omega)) (c 109 (by omega)) (by rw [c 56 (by omega)]) (fun q h1 => c (58 + q) (by omega))
    (c 127 (by omega)) (c 128 (by omega)) (by rw [d]) (c 130 (by omega)) (c 132 (by omega)) (c 133 (by omega)) (c 134 (by omega)) (c 135 (by omega)) (c 136 (by omega)) (c 137 (by omega)) (c 138 (by omega)) (c 139 (by omega)) (c 140 (by omega))
    (by rw [c 126 (by omega)]) (by rw [c 126 (by omega)]) (c 141 (by omega)) (by rw [c 126 (by omega)]) (by rw [c 126 (by omega)]) (c 142 (by omega)) (by rw [c 0 (by omega), c 126 (by omega)]; exact i.2.2.2.2.2.2.1)
    (by rw [c 126 (by omega)]) (by rw [c 126 (by omega)]) (c 150 (by omega)) (c 151 (by omega)) i
theorem Iv_km {g h : sd_H} {s : Nat × (Nat → Nat → Int32)} (k : KM g h s) (i : Iv h h) : Iv g g := by
  obtain ⟨c, e, d, _, _⟩ := k
  refine Iv_c (c 2 (by omega) (by omega)) (c 3 (by omega) (by omega)) (by rw [d]) (c 5 (by omega) (by omega)) (fun q h1 h2 => c q (by omega) (by omega)) (c 33 (by omega) (by omega)) (fun q h1 h2 => c q (by omega) (by omega)) (c 55 (by omega) (by omega)) (by rw [c 0 (by omega) (by omega)])
    (c 107 (by omega) (by omega)) (c 108 (by omega) (by omega)) (c 109 (by omega) (by omega)) (by rw [c 56 (by omega) (by omega)]) (fun q h1 => c (58 + q) (by omega) (by omega))
    (c 127 (by omega) (by omega)) (c 128 (by omega) (by omega)) (by rw [d]) (c 130 (by omega) (by omega)) (c 132 (by omega) (by omega)) (c 133 (by omega) (by omega)) (c 134 (by omega) (by omega)) (c 135 (by omega) (by omega)) (c 136 (by omega) (by omega)) (c 137 (by omega) (by omega)) (c 138 (by omega) (by omega)) (c 139 (by omega) (by omega)) (c 140 (by omega) (by omega))
    (e 6 (by omega)) (e 7 (by omega)) (c 141 (by omega) (by omega)) (e 18 (by omega)) (e 20 (by omega)) (c 142 (by omega) (by omega)) (by rw [c 0 (by omega) (by omega), e 4 (by omega)]; exact i.2.2.2.2.2.2.1)
    (e 34 (by omega)) (e 37 (by omega)) (c 150 (by omega) (by omega)) (c 151 (by omega) (by omega)) i
theorem kA_n {v : sd_H} {k : Nat} {r : Int32} : ∀ m i s, (kA v k r m i s).1 ≤ s.1 + 3 * m
  | 0, _, _ => Nat.le_refl _
  | m + 1, i, s => by
    have a := kT_n (v := v) (k := k) (r := r) (i := i) (s := s)
    have b := kA_n (v := v) (k := k) (r := r) m (i + 1) (kT v k r i s)
    unfold kA
    omega
/-- both collect the same kinds -/
theorem collect_e {h : sd_H} (iv : Iv h h) {N S k r : Nat} (il : IL h h N S) (hk : k < S) (hr : r < 6) :
    ∃ g' g2, ∃ s : Nat × (Nat → Nat → Int32), XK_collect h 1 (8 + 5 * k) (nI r) = some g' ∧ KX g' h s ∧ s.1 ≤ 30 ∧ YM_findsKinds g' (nI k) (nI r) = some (g2, nI s.1) ∧ KM g2 g' s ∧ Iv g2 g2 := by
  have hN := il.1
  have hS := il.2.1
  have kx0 : KX (wI h 63 3 0) h (0, fun _ _ => 0) := ⟨fun c hc => by simp (disch := omega) only [wI_d, wD_i, fI_d, fD_i, wI_eq, wD_eq, wI_ne, wD_ne, fI_ne, fD_ne, wI_ns, wD_ns, fI_eq, fD_eq, fI_ns, fD_ns], rfl, by simp (disch := omega) only [wI_d, wD_i, fI_d, fD_i, wI_eq, wD_eq, wI_ne, wD_ne, fI_ne, fD_ne, wI_ns, wD_ns, fI_eq, fD_eq, fI_ns, fD_ns]; rfl, fun j hj => absurd hj (Nat.not_lt_zero _)⟩
  have ik := il.2.2.2.2.2.2 k hk
  have ik' : ILk (wI h 63 3 0) h k := ILk_c (by omega) (fun c h1 h2 => kx0.1 c (Or.inl (by omega))) rfl rfl rfl rfl rfl rfl rfl rfl rfl ik
  have xe : ∃ g', XK_collect h 1 (8 + 5 * k) (nI r) = some g' ∧ KX g' h (kA h k (nI r) N 0 (0, fun _ _ => 0)) := by
    unfold XK_collect
    rw [hb_s, XA_looksAtRow_e ik' hr, b1_s]
    by_cases q : lr h k r = true
    · rw [q, if_neg (show ¬ bi true = 0 by decide)]
      have l := XK_collect_L18_e iv il hk hr N FU 0 _ _ (by omega) (by rw [FU_s]; omega) (by show (0 : Nat) ≤ 3 * 0; omega) kx0
      rw [nI_0] at l
      exact l
    · rw [kA_0 (Bool.eq_false_iff.mpr q), Bool.eq_false_iff.mpr q, if_pos (show bi false = 0 from rfl)]
      exact ⟨_, rfl, kx0⟩
  obtain ⟨g', ex, kx⟩ := xe
  have iv' := Iv_kx kx iv
  have c := kx.1
  have il' : IL g' g' N S := IL_c (fun q h1 h2 => c q (by omega)) (c 132 (by omega)) (c 133 (by omega)) (c 134 (by omega)) (c 135 (by omega)) (c 136 (by omega)) (c 137 (by omega)) (c 138 (by omega)) (c 139 (by omega)) (c 140 (by omega)) (by rw [c 126 (by omega)]) (by rw [c 126 (by omega)]) il
  have sl : SL g' h := ⟨dn_c (c 127 (by omega)) (c 128 (by omega)) (by rw [kx.2.1]) (c 134 (by omega)) (c 135 (by omega)) (c 136 (by omega)) (by rw [c 126 (by omega)]), c 127 (by omega), c 128 (by omega), c 132 (by omega), c 133 (by omega), c 137 (by omega), c 138 (by omega), c 139 (by omega), c 140 (by omega), by rw [c 126 (by omega)], by rw [c 126 (by omega)]⟩
  have km0 : KM (wI g' 126 22 0) g' (0, fun _ _ => 0) := ⟨fun c h1 h2 => by simp (disch := omega) only [wI_d, wD_i, fI_d, fD_i, wI_eq, wD_eq, wI_ne, wD_ne, fI_ne, fD_ne, wI_ns, wD_ns, fI_eq, fD_eq, fI_ns, fD_ns], fun k h1 => by simp (disch := omega) only [wI_d, wD_i, fI_d, fD_i, wI_eq, wD_eq, wI_ne, wD_ne, fI_ne, fD_ne, wI_ns, wD_ns, fI_eq, fD_eq, fI_ns, fD_ns], rfl, by simp (disch := omega) only [wI_d, wD_i, fI_d, fD_i, wI_eq, wD_eq, wI_ne, wD_ne, fI_ne, fD_ne, wI_ns, wD_ns, fI_eq, fD_eq, fI_ns, fD_ns]; rfl, fun j hj => absurd hj (Nat.not_lt_zero _)⟩
  obtain ⟨g2, e2, k2⟩ := YM_findsKinds_L7_e iv'.2.2.1 il' hk (r := r) N FU 0 _ _ (by omega) (by rw [FU_s]; omega) (by show (0 : Nat) ≤ 3 * 0; omega) (fun i j hi => absurd hi (Nat.not_lt_zero _)) km0
  rw [kA_c sl] at e2 k2
  rw [nI_0] at e2
  refine ⟨g', g2, _, ex, kx, ?_, e2, k2, Iv_km k2 iv'⟩
  have := kA_n (v := h) (k := k) (r := nI r) N 0 (0, fun _ _ => 0)
  simp only [Nat.zero_add] at this
  omega
theorem E_kinds {h : sd_H} (iv : Iv h h) (a b : Int32) : EE (XT_kinds h a b) (fun g => YM_kinds g a b) := by
  obtain ⟨N, S, il, ih⟩ := iv.2.2.2.2.1
  have hS := il.2.1
  unfold XT_kinds YM_kinds
  rw [XT_isStatement_e, b1_s, il.2.2.2.2.1, XT_isRow_e, YM_isRow_e]
  rcases wn_cs a (show S < 2 ^ 30 by omega) with hz | ⟨k, hk, rfl, h1⟩
  · refine EE_i (h1 := h) (h2 := h) (r := -2) (by rw [hz]; rfl) ?_ iv
    show b1 (YM_isStatement h a) _ = _
    rw [YM_isStatement_e, b1_s, il.2.2.2.2.2.1, hz]
    rfl
  rw [h1, if_neg z10.mp, b1_s]
  rcases wn_c b 5 (by omega) with hz | ⟨r, hr, rfl, h2⟩
  · rw [show (5 : Int32) = nI 5 from rfl, hz]
    refine EE_i (h1 := h) (h2 := h) (r := -2) rfl ?_ iv
    show b1 (YM_isStatement h (nI k)) _ = _
    rw [YM_isStatement_e, b1_s, il.2.2.2.2.2.1, h1]
    rfl
  rw [show (5 : Int32) = nI 5 from rfl, h2, if_neg z10.mp, inB_n (by omega) (by omega), gd_t, nI_clamp (by omega)]
  obtain ⟨g', g2, s, e1, kx, hs, e2, km, iv2⟩ := collect_e iv il hk (show r < 6 by omega)
  rw [e1, b1_s, kx.2.2.1]
  refine EE_i (h1 := g') (h2 := g2) (r := nI s.1) rfl ?_ iv2
  show b1 (YM_isStatement g' (nI k)) _ = _
  rw [YM_isStatement_e, b1_s, kx.1 126 (by omega), il.2.2.2.2.2.1, h1, if_neg z10.mp, b1_s, if_neg z10.mp, e2, b2_s]
theorem YM_kind_e {g g2 : sd_H} {k r n : Nat} {c d t : Int32} (ys : YM_isStatement g (nI k) = some 1) (hr : r < 6) (e2 : YM_findsKinds g (nI k) (nI r) = some (g2, nI n)) (ht : YM_in d 0 3 = some t) :
    YM_kind g (nI k) (nI r) c d = if t = 0 then some (g, (-2147483648)) else if wn c 0 (nI n - 1) = 0 then some (g2, (-2147483648)) else gd (sd_inB ((4 * c) + d) 120) (some (g2, (g2.1 143 (((4 * c) + d) : Int32).toNatClampNeg))) := by
  unfold YM_kind
  rw [ys, b1_s, if_neg z10.mp, YM_isRow_e, b1_s, show wn (nI r) 0 5 = 1 from wn_n (m := 5) (by omega) (by omega), if_neg z10.mp, ht, b1_s, e2, b2_s, YM_in_e, b1_s]
theorem E_kind {h : sd_H} (iv : Iv h h) (a b c d : Int32) : EE (XT_kind h a b c d) (fun g => YM_kind g a b c d) := by
  obtain ⟨N, S, il, ih⟩ := iv.2.2.2.2.1
  have hS := il.2.1
  unfold XT_kind
  rw [XT_isStatement_e, b1_s, il.2.2.2.2.1, XT_isRow_e]
  rcases wn_cs a (show S < 2 ^ 30 by omega) with hz | ⟨k, hk, rfl, h1⟩
  · refine EE_i (h1 := h) (h2 := h) (r := -2147483648) (by rw [hz]; rfl) ?_ iv
    show b1 (YM_isStatement h a) _ = _
    rw [YM_isStatement_e, b1_s, il.2.2.2.2.2.1, hz]
    rfl
  rw [h1, if_neg z10.mp, b1_s]
  rcases wn_c b 5 (by omega) with hz | ⟨r, hr, rfl, h2⟩
  · rw [show (5 : Int32) = nI 5 from rfl, hz]
    refine EE_i (h1 := h) (h2 := h) (r := -2147483648) rfl ?_ iv
    show b1 (YM_isStatement h (nI k)) _ = _
    rw [YM_isStatement_e, b1_s, il.2.2.2.2.2.1, h1, if_neg z10.mp, YM_isRow_e, b1_s, show wn b 0 5 = 0 from hz]
    rfl
  rw [show (5 : Int32) = nI 5 from rfl, h2, if_neg z10.mp, inB_n (by omega) (by omega), gd_t, nI_clamp (by omega)]
  obtain ⟨g', g2, s, e1, kx, hs, e2, km, iv2⟩ := collect_e iv il hk (show r < 6 by omega)
  have iv' := Iv_kx kx iv
  rw [e1, b1_s, kx.2.2.1, XT_within_e, b1_s]
  have ys : YM_isStatement g' (nI k) = some 1 := by rw [YM_isStatement_e, kx.1 126 (by omega), il.2.2.2.2.2.1, h1]
  have Y := fun t ht => YM_kind_e (c := c) (d := d) (t := t) ys (show r < 6 by omega) e2 ht
  rcases wn_cs c (show s.1 < 2 ^ 30 by omega) with hz | ⟨n, hn, rfl, h3⟩
  · rw [hz]
    rcases wn_01 d 0 3 with q | q
    · refine EE_i (h1 := g') (h2 := g') (r := -2147483648) rfl ?_ iv'
      rw [Y 0 (by rw [YM_in_e, q])]
      rfl
    · refine EE_i (h1 := g') (h2 := g2) (r := -2147483648) rfl ?_ iv2
      rw [Y 1 (by rw [YM_in_e, q]), hz]
      rfl
  rw [h3, if_neg z10.mp]
  obtain ⟨x0, x1, x2, x3⟩ := kx.2.2.2 n hn
  obtain ⟨y0, y1, y2, y3⟩ := km.2.2.2.2 n hn
  rcases wn_c d 3 (by omega) with hz | ⟨z, hz3, rfl, h4⟩
  · have n0 : ∀ q, q ≤ 3 → ¬ d = nI q := fun q hq z => by
      rw [z, wn_n hq (by omega)] at hz
      exact absurd hz (by decide)
    rw [if_neg (show ¬ d = 3 from n0 3 (by omega)), inB_n (by omega) (by omega), gd_t]
    unfold XS_part
    rw [if_neg (show ¬ d = 0 from n0 0 (by omega)), if_neg (show ¬ d = 1 from n0 1 (by omega)), if_neg (show ¬ d = 2 from n0 2 (by omega))]
    refine EE_i (h1 := g') (h2 := g') (r := -2147483648) rfl ?_ iv'
    rw [Y 0 (by rw [YM_in_e]; exact congrArg some hz)]
    rfl
  · rw [inB_n (by omega) (by omega), gd_t, gd_t, nI_clamp (by omega), Nat.one_mul]
    unfold XS_part
    rw [x0, x1, x2, x3]
    have yy : 4 * nI n + nI z = nI (4 * n + z) := by rw [lit 4, pk_mul, nI_add]
    have zz : z = 0 ∨ z = 1 ∨ z = 2 ∨ z = 3 := by omega
    refine EE_i (h1 := g') (h2 := g2) (r := if nI z = 3 then s.2 n 3 else if nI z = 0 then s.2 n 0 else if nI z = 1 then s.2 n 1 else s.2 n 2) ?_ ?_ iv2
    · rcases zz with rfl | rfl | rfl | rfl <;> rfl
    · rw [Y 1 (by rw [YM_in_e]; exact congrArg some h4), if_neg z10.mp, h3, if_neg z10.mp, yy, inB_n (by omega) (by omega), gd_t, nI_clamp (by omega)]
      rcases zz with rfl | rfl | rfl | rfl
      · rw [Nat.add_zero, y0]
        rfl
      · rw [y1]
        rfl
      · rw [y2]
        rfl
      · rw [y3]
        rfl
