/-! ===== verdict, would, witness, last ===== -/
theorem IL_xf {g h : sd_H} {N S : Nat} (x : XF g h) (il : IL h h N S) : IL g h N S := IL_c (fun c h1 h2 => x.1 c (by omega) (by omega)) rfl rfl rfl rfl rfl rfl rfl rfl rfl rfl rfl il
/-- x's side, with the summary made -/
theorem X_ref {h : sd_H} (iv : Iv h h) {N S : Nat} (il : IL h h N S) : ∃ g, XY_refresh h = some g ∧ QQ g h ∧ XF g h ∧ FS g (q_al h) ∧ IL g h N S ∧ (∀ r, r < 6 → g.1 2 r = h.1 127 r) ∧ g.1 56 5 = 0 := by
  obtain ⟨g, e, i, xf, fs, z⟩ := refresh_e iv
  exact ⟨g, e, QQ_xf i xf, xf, fs, IL_xf xf il, fun r hr => by rw [xf.1 2 (by omega) (by omega)]; exact (iv.1 r hr).1, z⟩
theorem X_verdict {h : sd_H} (iv : Iv h h) {N S : Nat} (il : IL h h N S) {r : Nat} (hr : r < 6) : ∃ g, XT_verdict h (nI r) = some (g, JU h N S r (h.1 127 r)) ∧ QQ g h := by
  obtain ⟨g, e, q, xf, fs, ilg, fm, _⟩ := X_ref iv il
  refine ⟨g, ?_, q⟩
  unfold XT_verdict
  rw [XT_isRow_e, b1_s, show wn (nI r) 0 5 = 1 from wn_n (m := 5) (by omega) (by omega), if_neg z10.mp, e, b1_s, inB_n hr (by omega), gd_t, nI_clamp (by omega), fm r hr, XY_judge_e iv.2.2.1 il ilg fm fs hr, b1_s]
theorem M_verdictOf {h : sd_H} (iv : Iv h h) {N S : Nat} (il : IL h h N S) {r : Nat} (hr : r < 6) : ∃ w, YM_verdictOf h (nI r) = some (w, JU h N S r (h.1 127 r)) ∧ QQ w h := by
  obtain ⟨w, e, q⟩ := YM_verdictAs_e iv il (r := r) (a := -1) (b := 0) (F := h.1 127 r) ⟨by decide, Or.inl ⟨rfl, rfl⟩⟩ hr
  refine ⟨w, ?_, q⟩
  unfold YM_verdictOf
  rw [e, b2_s]
/-- what is asked is the same where what stands is the same -/
theorem FAM_c {g h : sd_H} (q : QQ g h) (k : Nat) (F : Int32) : FAM g k F = FAM h k F := by
  have sl := QQ_sl q
  unfold FAM al
  rw [sl.2.1, sl.2.2.2.1, sl.2.2.2.2.2.1, sl.2.2.2.2.2.2.1, sl.2.2.2.2.2.2.2.1, sl.2.2.2.2.2.2.2.2.1, gr_c sl]
theorem ga_c {g h : sd_H} (q : QQ g h) (r : Nat) (F : Int32) : ∀ m k x, ga g r F k m x = ga h r F k m x := by
  have sl := QQ_sl q
  intro m
  induction m with
  | zero => exact fun _ _ => rfl
  | succ m ih =>
    intro k x
    have oc : ow g r k F = ow h r k F := by
      unfold ow
      rw [FAM_c q, sl.2.2.2.2.2.1]
    have lc : lr g k r = lr h k r := by
      unfold lr kl
      rw [lk_c sl, sl.2.2.2.2.2.1]
    unfold ga
    rw [oc, lc, ih, ih]
theorem JU_c {g h : sd_H} (q : QQ g h) (N S r : Nat) (F : Int32) : JU g N S r F = JU h N S r F := by
  unfold JU
  rw [ws_c q, ga_c q]
theorem E_verdict {h : sd_H} (iv : Iv h h) (a : Int32) : EE (XT_verdict h a) (fun g => YM_verdict g a) := by
  obtain ⟨N, S, il, ih⟩ := iv.2.2.2.2.1
  rcases wn_c a 5 (by omega) with hz | ⟨r, hr, rfl, h1⟩
  · refine EE_i (h1 := h) (h2 := h) (r := -2) ?_ ?_ iv
    · unfold XT_verdict
      rw [XT_isRow_e, b1_s, show (5 : Int32) = nI 5 from rfl, hz]
      rfl
    · show YM_verdict h a = _
      unfold YM_verdict
      rw [YM_isRow_e, b1_s, show (5 : Int32) = nI 5 from rfl, hz]
      rfl
  · refine EE_q (X_verdict iv il (by omega)) fun g q => ?_
    obtain ⟨w, e, q2⟩ := M_verdictOf q.1 (QQ_il q il) (show r < 6 by omega)
    refine ⟨w, ?_, q2⟩
    unfold YM_verdict
    rw [YM_isRow_e, b1_s, show (5 : Int32) = nI 5 from rfl, h1, if_neg z10.mp, e, b2_s, JU_c q, (QQ_sl q).2.1]
theorem E_would {h : sd_H} (iv : Iv h h) (a b : Int32) : EE (XT_would h a b) (fun g => YM_would g a b) := by
  obtain ⟨N, S, il, ih⟩ := iv.2.2.2.2.1
  unfold XT_would YM_would
  simp only [XT_isRow_e, YM_isRow_e, XT_within_e, YM_in_e, b1_s]
  rcases wn_c a 5 (by omega) with hz | ⟨r, hr, rfl, h1⟩
  · rw [show (5 : Int32) = nI 5 from rfl, hz]
    exact EE_i (if_pos rfl) (if_pos rfl) iv
  rw [show (5 : Int32) = nI 5 from rfl, h1]
  rcases wn_c b 3 (by omega) with hz | ⟨f, hf, rfl, h2⟩
  · rw [show (3 : Int32) = nI 3 from rfl, hz]
    exact EE_i ((if_neg z10.mp).trans (if_pos rfl)) ((if_neg z10.mp).trans (if_pos rfl)) iv
  rw [show (3 : Int32) = nI 3 from rfl, h2]
  have hr6 : r < 6 := by omega
  simp only [if_neg z10.mp, inB_n hr6 (by omega), gd_t, nI_clamp (show r < 2 ^ 31 by omega)]
  rcases row_cs iv hr6 with ⟨e1, e2, e3⟩ | ⟨f', n, hf', hn, e1, e2, e3, e4, e5⟩
  · rw [XR_isMissing_t hr6 e1]
    refine EE_i (h1 := wI h 0 16 1) (h2 := wI (wI h 0 16 1) 126 4 1) (r := -11) rfl ?_ (Iv_f 1 iv)
    rw [if_pos (by simp (disch := omega) only [wI_d, wD_i, fI_d, fD_i, wI_eq, wD_eq, wI_ne, wD_ne, fI_ne, fD_ne, wI_ns, wD_ns, fI_eq, fD_eq, fI_ns, fD_ns]; exact e2)]
    rfl
  rw [XR_isMissing_f hr6 hf' e1, b1_s, if_pos rfl, e1]
  have nm : ∀ g, QQ g h → g.1 127 r = nI f' := fun g q => by rw [(QQ_sl q).2.1]; exact e2
  by_cases t : nI f' = 4
  · rw [if_pos t]
    refine EE_i (h1 := h) (h2 := h) (r := -3) rfl ?_ iv
    rw [e2, if_neg (nm1 (by omega)), if_pos t]
    rfl
  · rw [if_neg t]
    obtain ⟨g, e, q, xf, fs, ilg, fm, _⟩ := X_ref iv il
    refine EE_q (a := JU h N S r (nI f)) ⟨g, ?_, q⟩ fun g q => ?_
    · rw [e, b1_s, XY_judge_e iv.2.2.1 il ilg fm fs hr6, b1_s]
    · have nbf : nb (nI f) = true := by
        rw [nb_n (by omega)]
        exact decide_eq_true hf
      obtain ⟨w, e, q2⟩ := YM_verdictAs_e q.1 (QQ_il q il) (r := r) (a := nI r) (b := nI f) (F := nI f) ⟨nbf, Or.inr ⟨rfl, rfl⟩⟩ hr6
      refine ⟨w, ?_, q2⟩
      try dsimp only
      rw [nm g q, if_neg (nm1 (by omega)), if_neg t, e, b2_s, JU_c q]
/-- the last turn ahead of n that has a cell -/
def la (w : Nat → Nat) (c : Nat) : Nat → Option Nat
  | 0 => none
  | n + 1 => if (w n).testBit c = true then some n else la w c n
theorem la_lt (w : Nat → Nat) (c : Nat) : ∀ n i, la w c n = some i → i < n
  | 0, i, h => by cases h
  | n + 1, i, h => by
    unfold la at h
    split at h
    · cases h
      exact Nat.lt_succ_self _
    · have := la_lt w c n i h
      omega
theorem XY_lastTurn_L6_e {g v : sd_H} {N S s r c : Nat} (iz : IZ (v.1 128)) (il : IL v v N S) (f : FS g (q_al v)) (hs : s < 4) (hr : r < 6) (hc : c < 24) : ∀ n fu, n ≤ 10 → n < fu →
    XY_lastTurn_L6 g fu (nI s) (nI r) (nI c) (nI n - 1) = some (nxI (la (ws v s r) c n))
  | _, 0, _, q => absurd q (Nat.not_lt_zero _)
  | 0, fu + 1, _, _ => by
    unfold XY_lastTurn_L6
    rw [if_pos (by decide)]
    rfl
  | n + 1, fu + 1, hn, q => by
    have w := FS_ws iz il f hs hr (show n < 10 by omega)
    unfold XY_lastTurn_L6 la
    rw [nI_pred, if_neg (nI_pos (by omega)), inB_n hs (by omega), gd_t, e_tr, inB_n (by omega) (by omega), gd_t, nI_clamp (by omega), nI_clamp (by omega), Nat.one_mul, w, bit_e (Nat.lt_trans (ws_e iz il s r n).2 (by decide)) hc, itp (bi_0 _)]
    by_cases b : (ws v s r n).testBit c = true
    · rw [if_neg (by rw [b]; decide), if_pos b]
      rfl
    · rw [if_pos (Bool.eq_false_iff.mpr b), if_neg b, ← Int32.sub_eq_add_neg]
      exact XY_lastTurn_L6_e iz il f hs hr hc n fu (by omega) (by omega)
theorem YM_lastOf_L10_e {g v : sd_H} {N S s r c : Nat} (iz : IZ (v.1 128)) (il : IL v v N S) (f : MS g v N) (hs : s < 4) (hr : r < 6) (hc : c < 24) : ∀ m fu t, t + m = N → m < fu →
    YM_lastOf_L10 fu g (nI s) (nI r) (nI c) (nxI (la (ws v s r) c t)) (nI t) = some (g, nxI (la (ws v s r) c N))
  | _, 0, _, _, q => absurd q (Nat.not_lt_zero _)
  | 0, fu + 1, t, e, _ => by
    have hN := il.1
    obtain rfl : t = N := by omega
    unfold YM_lastOf_L10
    rw [f.2, if_pos (nI_le (by omega) (by omega))]
  | m + 1, fu + 1, t, e, q => by
    have hN := il.1
    have rec_ := YM_lastOf_L10_e iz il f hs hr hc m fu (t + 1) (by omega) (by omega)
    unfold YM_lastOf_L10 YM_lastOf_B42
    rw [f.2, if_neg (nI_ge (by omega) (by omega)), YM_bitsOfTurn_e iz il f.1 hs hr (by omega), b1_s, bit_e (Nat.lt_trans (ws_e iz il s r t).2 (by decide)) hc, nI_1]
    by_cases b : (ws v s r t).testBit c = true
    · have : la (ws v s r) c (t + 1) = some t := if_pos b
      rw [this] at rec_
      rw [b, if_pos (show bi true = 1 from rfl)]
      exact rec_
    · have : la (ws v s r) c (t + 1) = la (ws v s r) c t := if_neg b
      rw [this] at rec_
      rw [Bool.eq_false_iff.mpr b, if_neg (show ¬ bi false = 1 by decide)]
      exact rec_
/-- the witness -/
def WI (v : sd_H) (N r : Nat) (d : Int32) : Int32 :=
  match fe (ws v 1 r) (ws v 3 r) 0 N with
  | none => -1
  | some t => if d = 0 then nxI (la (ws v 1 r) (tpF (ws v 3 r t &&& ort (ws v 1 r) t)) t) else if d = 1 then nI t else nI (tpF (ws v 3 r t &&& ort (ws v 1 r) t))
theorem XY_exposedCell_L5_e {g v : sd_H} {N S r i : Nat} (iz : IZ (v.1 128)) (il : IL v v N S) (f : FS g (q_al v)) (hr : r < 6) (hi : i < 10) (hz : ¬ ws v 3 r i &&& ort (ws v 1 r) i = 0) : ∀ m fu t, t + m = i → m < fu →
    XY_exposedCell_L5 g fu (nI r) (nI i) (nI (ort (ws v 1 r) t)) (nI t) = some (nI (tpF (ws v 3 r i &&& ort (ws v 1 r) i)))
  | _, 0, _, _, q => absurd q (Nat.not_lt_zero _)
  | 0, fu + 1, t, e, _ => by
    obtain rfl : t = i := by omega
    have w3 := FS_ws iz il f (s := 3) (by omega) hr hi
    have l3 := (ws_e iz il 3 r t).2
    have lt : ws v 3 r t &&& ort (ws v 1 r) t < 2 ^ 24 := Nat.lt_of_le_of_lt Nat.and_le_left l3
    obtain ⟨f1, f2, f3, f4⟩ := tp_F lt hz
    unfold XY_exposedCell_L5
    rw [if_pos (nI_le (by omega) (by omega)), e_tr, inB_n (by omega) (by omega), gd_t, nI_clamp (by omega), show g.1 61 (t * 6 + r) = nI (ws v 3 r t) from w3, nI_and, XS_leastCell_e lt f2 f3 f4, b1_s]
  | m + 1, fu + 1, t, e, q => by
    have w1 := FS_ws iz il f (s := 1) (by omega) hr (show t < 10 by omega)
    unfold XY_exposedCell_L5
    rw [if_neg (nI_ge (by omega) (by omega)), e_tr, inB_n (by omega) (by omega), gd_t, nI_clamp (by omega), show g.1 59 (t * 6 + r) = nI (ws v 1 r t) from w1, nI_or, nI_1]
    exact XY_exposedCell_L5_e iz il f hr hi hz m fu (t + 1) (by omega) (by omega)
theorem X_witness {h : sd_H} (iv : Iv h h) {N S : Nat} (il : IL h h N S) {r d : Nat} (hr : r < 6) (hd : d ≤ 2) : ∃ g, XT_witness h (nI r) (nI d) = some (g, WI h N r (nI d)) ∧ QQ g h := by
  have hN := il.1
  obtain ⟨g, e, q, xf, fs, ilg, fm, _⟩ := X_ref iv il
  refine ⟨g, ?_, q⟩
  unfold XT_witness WI XY_exposedTurn
  have s3 := XY_exposedTurn_L4_e iv.2.2.1 il fs ilg.2.2.1 hr N FU 0 (by omega) (by rw [FU_s]; omega)
  rw [show ort (ws h 1 r) 0 = 0 from rfl, nI_0] at s3
  rw [XT_isRow_e, b1_s, show wn (nI r) 0 5 = 1 from wn_n (m := 5) (by omega) (by omega), if_neg z10.mp, XT_within_e, b1_s, show wn (nI d) 0 2 = 1 from wn_n (m := 2) hd (by omega), if_neg z10.mp, e, b1_s, s3, b1_s]
  rcases fe_c (ws h 1 r) (ws h 3 r) N 0 with z | ⟨i, z, h1, h2, h3⟩
  · rw [z]
    rfl
  · rw [z]
    dsimp only
    have ec := XY_exposedCell_L5_e iv.2.2.1 il fs hr (show i < 10 by omega) h3 i FU 0 (by omega) (by rw [FU_s]; omega)
    rw [show ort (ws h 1 r) 0 = 0 from rfl, nI_0] at ec
    have lt : ws h 3 r i &&& ort (ws h 1 r) i < 2 ^ 24 := Nat.lt_of_le_of_lt Nat.and_le_left (ws_e iv.2.2.1 il 3 r i).2
    obtain ⟨f1, f2, f3, f4⟩ := tp_F lt h3
    have el := XY_lastTurn_L6_e iv.2.2.1 il fs (s := 1) (by omega) hr f2 i FU (by omega) (by rw [FU_s]; omega)
    rw [if_neg (show ¬ nxI (some i) = -1 from nm1 (k := i) (by omega)), show nxI (some i) = nI i from rfl]
    unfold XY_exposedCell XY_lastTurn
    rw [ec, b1_s, show (1 : Int32) = nI 1 from rfl] at *
    rw [show nI 1 = 1 from rfl] at *
    have dd : d = 0 ∨ d = 1 ∨ d = 2 := by omega
    rcases dd with rfl | rfl | rfl
    · rw [if_neg (show ¬ nI 0 = 1 by decide), if_neg (show ¬ nI 0 = 2 by decide), if_pos (show nI 0 = 0 from rfl)]
      rw [el, b1_s]
    · rfl
    · rfl
theorem YM_witnessOf_L46_e {g v : sd_H} {N S r c i d : Nat} (iz : IZ (v.1 128)) (il : IL v v N S) (f : MS g v N) (hr : r < 6) (hc : c < 24) (hi : i < 10) : ∀ m fu t, t + m = i → m < fu →
    YM_witnessOf_L46 fu g (nI r) (nI d) (nI i) (nI c) (nxI (la (ws v 1 r) c t)) (nI t) = some (g, if nI d = 0 then nxI (la (ws v 1 r) c i) else if nI d = 1 then nI i else nI c)
  | _, 0, _, _, q => absurd q (Nat.not_lt_zero _)
  | 0, fu + 1, t, e, _ => by
    obtain rfl : t = i := by omega
    unfold YM_witnessOf_L46
    rw [if_pos (nI_le (by omega) (by omega))]
    split
    · rfl
    · split <;> rfl
  | m + 1, fu + 1, t, e, q => by
    have rec_ := YM_witnessOf_L46_e (d := d) iz il f hr hc hi m fu (t + 1) (by omega) (by omega)
    unfold YM_witnessOf_L46 YM_witnessOf_B77
    rw [if_neg (nI_ge (by omega) (by omega)), show YM_bitsOfTurn g 1 (nI r) (nI t) = some (nI (ws v 1 r t)) from YM_bitsOfTurn_e (s := 1) iz il f.1 (by omega) hr (by omega), b1_s, bit_e (Nat.lt_trans (ws_e iz il 1 r t).2 (by decide)) hc, nI_1]
    by_cases b : (ws v 1 r t).testBit c = true
    · have : la (ws v 1 r) c (t + 1) = some t := if_pos b
      rw [this] at rec_
      rw [b, if_pos (show bi true = 1 from rfl)]
      exact rec_
    · have : la (ws v 1 r) c (t + 1) = la (ws v 1 r) c t := if_neg b
      rw [this] at rec_
      rw [Bool.eq_false_iff.mpr b, if_neg (show ¬ bi false = 1 by decide)]
      exact rec_
theorem YM_witnessOf_L9_e {g v : sd_H} {N S r d : Nat} (iz : IZ (v.1 128)) (il : IL v v N S) (f : MS g v N) (hr : r < 6) : ∀ m fu t, t + m = N → m < fu →
    YM_witnessOf_L9 fu g (nI r) (nI d) (nI (ort (ws v 1 r) t)) (nI t) = some (g, match fe (ws v 1 r) (ws v 3 r) t m with
      | none => -1
      | some t => if nI d = 0 then nxI (la (ws v 1 r) (tpF (ws v 3 r t &&& ort (ws v 1 r) t)) t) else if nI d = 1 then nI t else nI (tpF (ws v 3 r t &&& ort (ws v 1 r) t)))
  | _, 0, _, _, q => absurd q (Nat.not_lt_zero _)
  | 0, fu + 1, t, e, _ => by
    have hN := il.1
    unfold YM_witnessOf_L9
    rw [f.2, if_pos (nI_le (by omega) (by omega))]
    rfl
  | m + 1, fu + 1, t, e, q => by
    have hN := il.1
    have lt : ws v 3 r t &&& ort (ws v 1 r) t < 2 ^ 24 := Nat.lt_of_le_of_lt Nat.and_le_left (ws_e iz il 3 r t).2
    unfold YM_witnessOf_L9 fe
    rw [f.2, if_neg (nI_ge (by omega) (by omega)), show YM_bitsOfTurn g 3 (nI r) (nI t) = some (nI (ws v 3 r t)) from YM_bitsOfTurn_e (s := 3) iz il f.1 (by omega) hr (by omega), b1_s, nI_and, show (0 : Int32) = nI 0 from rfl, YM_nextBit_e lt (by omega), b1_s, Nat.sub_zero]
    rw [show nI 0 = 0 from rfl]
    by_cases z : ws v 3 r t &&& ort (ws v 1 r) t = 0
    · have : nx (ws v 3 r t &&& ort (ws v 1 r) t) 0 24 = none := by
        rw [z]
        rcases nx_c 0 24 0 with ⟨h1, _⟩ | ⟨j, _, _, _, h4, _⟩
        · exact h1
        · rw [Nat.zero_testBit] at h4
          exact absurd h4 (by decide)
      rw [this, if_pos (show nxI none = -1 from rfl), show YM_bitsOfTurn g 1 (nI r) (nI t) = some (nI (ws v 1 r t)) from YM_bitsOfTurn_e (s := 1) iz il f.1 (by omega) hr (by omega), b1_s, nI_or, nI_1, if_pos z]
      exact YM_witnessOf_L9_e iz il f hr m fu (t + 1) (by omega) (by omega)
    · obtain ⟨f1, f2, f3, f4⟩ := tp_F lt z
      have l := YM_witnessOf_L46_e (d := d) iz il f hr f2 (show t < 10 by omega) t FU 0 (by omega) (by rw [FU_s]; omega)
      rw [f1, if_neg (show ¬ nxI (some (tpF (ws v 3 r t &&& ort (ws v 1 r) t))) = -1 from nm1 (k := tpF (ws v 3 r t &&& ort (ws v 1 r) t)) (by omega)), if_neg z]
      exact l
theorem M_witnessOf {h : sd_H} (iv : Iv h h) {N S : Nat} (il : IL h h N S) {r d : Nat} (hr : r < 6) : ∃ w, YM_witnessOf h (nI r) (nI d) = some (w, WI h N r (nI d)) ∧ QQ w h := by
  obtain ⟨w, e, i, j⟩ := findsSets_e iv
  have q := QQ_ma j i
  have l := YM_witnessOf_L9_e (d := d) iv.2.2.1 il ⟨i.2.2.2, (QQ_il q il).2.2.2.1⟩ hr N FU 0 (by omega) (by have := il.1; rw [FU_s]; omega)
  rw [show ort (ws h 1 r) 0 = 0 from rfl, nI_0] at l
  refine ⟨w, ?_, q⟩
  unfold YM_witnessOf
  rw [e, b1_s]
  exact l
theorem WI_c {g h : sd_H} (q : QQ g h) (N r : Nat) (d : Int32) : WI g N r d = WI h N r d := by
  unfold WI
  rw [ws_c q]
theorem E_witness {h : sd_H} (iv : Iv h h) (a b : Int32) : EE (XT_witness h a b) (fun g => YM_witness g a b) := by
  obtain ⟨N, S, il, ih⟩ := iv.2.2.2.2.1
  rcases wn_c a 5 (by omega) with hz | ⟨r, hr, rfl, h1⟩
  · refine EE_i (h1 := h) (h2 := h) (r := -2) ?_ ?_ iv
    · unfold XT_witness
      rw [XT_isRow_e, b1_s, show (5 : Int32) = nI 5 from rfl, hz]
      rfl
    · show YM_witness h a b = _
      unfold YM_witness
      rw [YM_isRow_e, b1_s, show (5 : Int32) = nI 5 from rfl, hz]
      rfl
  rcases wn_c b 2 (by omega) with hz | ⟨d, hd, rfl, h2⟩
  · refine EE_i (h1 := h) (h2 := h) (r := -2) ?_ ?_ iv
    · unfold XT_witness
      rw [XT_isRow_e, b1_s, show (5 : Int32) = nI 5 from rfl, h1, if_neg z10.mp, XT_within_e, b1_s, show (2 : Int32) = nI 2 from rfl, hz]
      rfl
    · show YM_witness h (nI r) b = _
      unfold YM_witness
      rw [YM_isRow_e, b1_s, show (5 : Int32) = nI 5 from rfl, h1, if_neg z10.mp, YM_in_e, b1_s, show (2 : Int32) = nI 2 from rfl, hz]
      rfl
  · refine EE_q (X_witness iv il (by omega) hd) fun g q => ?_
    obtain ⟨w, e, q2⟩ := M_witnessOf (d := d) q.1 (QQ_il q il) (show r < 6 by omega)
    refine ⟨w, ?_, q2⟩
    unfold YM_witness
    rw [YM_isRow_e, b1_s, show (5 : Int32) = nI 5 from rfl, h1, if_neg z10.mp, YM_in_e, b1_s, show (2 : Int32) = nI 2 from rfl, h2, if_neg z10.mp, e, b2_s, WI_c q]
theorem X_last {h : sd_H} (iv : Iv h h) {N S : Nat} (il : IL h h N S) {s r c : Nat} (h1 : 1 ≤ s) (hs : s ≤ 2) (hr : r < 6) (hc : c < 24) : ∃ g, XT_last h (nI s) (nI r) (nI c) = some (g, nxI (la (ws h s r) c N)) ∧ QQ g h := by
  have hN := il.1
  obtain ⟨g, e, q, xf, fs, ilg, fm, _⟩ := X_ref iv il
  have el := XY_lastTurn_L6_e iv.2.2.1 il fs (show s < 4 by omega) hr hc N FU (by omega) (by rw [FU_s]; omega)
  refine ⟨g, ?_, q⟩
  unfold XT_last XY_lastTurn
  have w12 : wn (nI s) 1 2 = 1 := by
    have : s = 1 ∨ s = 2 := by omega
    rcases this with rfl | rfl <;> decide
  rw [XT_within_e, b1_s, w12, if_neg z10.mp, XT_isRow_e, b1_s, show wn (nI r) 0 5 = 1 from wn_n (m := 5) (by omega) (by omega), if_neg z10.mp, XT_within_e, b1_s, show wn (nI c) 0 23 = 1 from wn_n (m := 23) (by omega) (by omega), if_neg z10.mp, e, b1_s, ilg.2.2.1, el, b1_s]
theorem M_lastOf {h : sd_H} (iv : Iv h h) {N S : Nat} (il : IL h h N S) {s r c : Nat} (hs : s < 4) (hr : r < 6) (hc : c < 24) : ∃ w, YM_lastOf h (nI s) (nI r) (nI c) = some (w, nxI (la (ws h s r) c N)) ∧ QQ w h := by
  obtain ⟨w, e, i, j⟩ := findsSets_e iv
  have q := QQ_ma j i
  have l := YM_lastOf_L10_e iv.2.2.1 il ⟨i.2.2.2, (QQ_il q il).2.2.2.1⟩ hs hr hc N FU 0 (by omega) (by have := il.1; rw [FU_s]; omega)
  rw [nI_0] at l
  refine ⟨w, ?_, q⟩
  unfold YM_lastOf
  rw [e, b1_s]
  exact l
theorem E_last {h : sd_H} (iv : Iv h h) (a b c : Int32) : EE (XT_last h a b c) (fun g => YM_last g a b c) := by
  obtain ⟨N, S, il, ih⟩ := iv.2.2.2.2.1
  have a12 : wn a 1 2 = 0 ∨ ∃ s, 1 ≤ s ∧ s ≤ 2 ∧ a = nI s ∧ wn a 1 2 = 1 := by
    rcases wn_ti (a := a) (show ((1 : Int32)).toInt = 1 by decide) (show ((2 : Int32)).toInt = 2 by decide) with h | ⟨h1, h2, h3⟩
    · exact Or.inl h
    · by_cases e : a.toInt = 1
      · exact Or.inr ⟨1, by omega, by omega, of_ti (by omega) e, h3⟩
      · exact Or.inr ⟨2, by omega, by omega, of_ti (by omega) (by omega), h3⟩
  rcases a12 with hz | ⟨s, s1, s2, rfl, h0⟩
  · refine EE_i (h1 := h) (h2 := h) (r := -2) ?_ ?_ iv
    · unfold XT_last
      rw [XT_within_e, b1_s, hz]
      rfl
    · show YM_last h a b c = _
      unfold YM_last
      rw [YM_in_e, b1_s, hz]
      rfl
  rcases wn_c b 5 (by omega) with hz | ⟨r, hr, rfl, h1⟩
  · refine EE_i (h1 := h) (h2 := h) (r := -2) ?_ ?_ iv
    · unfold XT_last
      rw [XT_within_e, b1_s, h0, if_neg z10.mp, XT_isRow_e, b1_s, show (5 : Int32) = nI 5 from rfl, hz]
      rfl
    · show YM_last h (nI s) b c = _
      unfold YM_last
      rw [YM_in_e, b1_s, h0, if_neg z10.mp, YM_isRow_e, b1_s, show (5 : Int32) = nI 5 from rfl, hz]
      rfl
  rcases wn_c c 23 (by omega) with hz | ⟨d, hd, rfl, h2⟩
  · refine EE_i (h1 := h) (h2 := h) (r := -2) ?_ ?_ iv
    · unfold XT_last
      rw [XT_within_e, b1_s, h0, if_neg z10.mp, XT_isRow_e, b1_s, show (5 : Int32) = nI 5 from rfl, h1, if_neg z10.mp, XT_within_e, b1_s, show (23 : Int32) = nI 23 from rfl, hz]
      rfl
    · show YM_last h (nI s) (nI r) c = _
      unfold YM_last
      rw [YM_in_e, b1_s, h0, if_neg z10.mp, YM_isRow_e, b1_s, show (5 : Int32) = nI 5 from rfl, h1, if_neg z10.mp, YM_in_e, b1_s, show (23 : Int32) = nI 23 from rfl, hz]
      rfl
  · refine EE_q (X_last iv il s1 s2 (show r < 6 by omega) (show d < 24 by omega)) fun g q => ?_
    obtain ⟨w, e, q2⟩ := M_lastOf q.1 (QQ_il q il) (show s < 4 by omega) (show r < 6 by omega) (show d < 24 by omega)
    refine ⟨w, ?_, q2⟩
    unfold YM_last
    rw [YM_in_e, b1_s, h0, if_neg z10.mp, YM_isRow_e, b1_s, show (5 : Int32) = nI 5 from rfl, h1, if_neg z10.mp, YM_in_e, b1_s, show (23 : Int32) = nI 23 from rfl, h2, if_neg z10.mp, e, b2_s, ws_c q]
