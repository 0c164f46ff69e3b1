/-! ===== verdicts ===== -/
theorem and0 (a b : Nat) : (a &&& b = 0) = (∀ j, ¬ (a.testBit j = true ∧ b.testBit j = true)) := by
  refine propext ⟨fun q j ⟨h1, h2⟩ => ?_, fun q => Nat.eq_of_testBit_eq fun j => ?_⟩
  · have := congrArg (fun x => x.testBit j) q
    have this : (a &&& b).testBit j = (0 : Nat).testBit j := this
    rw [Nat.testBit_and, h1, h2, Nat.zero_testBit] at this
    exact absurd this (by decide)
  · rw [Nat.testBit_and, Nat.zero_testBit]
    have := q j
    cases h1 : a.testBit j
    · rfl
    · cases h2 : b.testBit j
      · rfl
      · exact absurd ⟨h1, h2⟩ this
/-- a turn that is in the way of none before it -/
def gd1 (R W : Nat → Nat) (t : Nat) : Bool := decide (W t &&& (ort R t ||| ort W t) = 0) && decide (R t &&& ort W t = 0)
def sh1 (R W : Nat → Nat) : Nat → Nat → Bool
  | _, 0 => true
  | t, m + 1 => gd1 R W t && sh1 R W (t + 1) m
theorem sh1_iff (R W : Nat → Nat) : ∀ m t, (sh1 R W t m = true) = (∀ i, t ≤ i → i < t + m → gd1 R W i = true)
  | 0, t => propext ⟨fun _ i h1 h2 => absurd h2 (by omega), fun _ => rfl⟩
  | m + 1, t => by
    show ((gd1 R W t && sh1 R W (t + 1) m) = true) = _
    rw [Bool.and_eq_true, sh1_iff R W m (t + 1)]
    refine propext ⟨fun ⟨a, b⟩ i h1 h2 => ?_, fun q => ⟨q t (by omega) (by omega), fun i h1 h2 => q i (by omega) (by omega)⟩⟩
    by_cases e : i = t
    · rw [e]
      exact a
    · exact b i (by omega) (by omega)
/-- two turns of which neither is in the way of the other's reading -/
def pr (R W : Nat → Nat) (i j : Nat) : Bool := decide (i = j) || decide (W i &&& (R j ||| W j) = 0)
theorem sh_eq (R W : Nat → Nat) (N : Nat) : (sh1 R W 0 N = true) = (∀ i j, i < N → j < N → pr R W i j = true) := by
  rw [sh1_iff]
  have g : ∀ t, (gd1 R W t = true) = ((∀ b, ¬ ((W t).testBit b = true ∧ ((∃ i, i < t ∧ (R i).testBit b = true) ∨ ∃ i, i < t ∧ (W i).testBit b = true))) ∧ ∀ b, ¬ ((R t).testBit b = true ∧ ∃ i, i < t ∧ (W i).testBit b = true)) := fun t => by
    unfold gd1
    rw [Bool.and_eq_true, decide_eq_true_eq, decide_eq_true_eq, and0, and0]
    simp only [Nat.testBit_or, Bool.or_eq_true, ort_t]
  have p : ∀ i j, (pr R W i j = true) = (i = j ∨ ∀ b, ¬ ((W i).testBit b = true ∧ ((R j).testBit b = true ∨ (W j).testBit b = true))) := fun i j => by
    unfold pr
    rw [Bool.or_eq_true, decide_eq_true_eq, decide_eq_true_eq, and0]
    simp only [Nat.testBit_or, Bool.or_eq_true]
  refine propext ⟨fun q i j hi hj => ?_, fun q t _ ht => ?_⟩
  · rw [p]
    by_cases e : i = j
    · exact Or.inl e
    · refine Or.inr fun b ⟨h1, h2⟩ => ?_
      by_cases l : j < i
      · have := q i (by omega) (by omega)
        rw [g] at this
        rcases h2 with h2 | h2
        · exact this.1 b ⟨h1, Or.inl ⟨j, l, h2⟩⟩
        · exact this.1 b ⟨h1, Or.inr ⟨j, l, h2⟩⟩
      · have := q j (by omega) (by omega)
        rw [g] at this
        rcases h2 with h2 | h2
        · exact this.2 b ⟨h2, i, by omega, h1⟩
        · exact this.1 b ⟨h2, Or.inr ⟨i, by omega, h1⟩⟩
  · rw [g]
    refine ⟨fun b ⟨h1, h2⟩ => ?_, fun b ⟨h1, i, h2, h3⟩ => ?_⟩
    · rcases h2 with ⟨i, h2, h3⟩ | ⟨i, h2, h3⟩
      · have := q t i (by omega) (by omega)
        rw [p] at this
        rcases this with z | z
        · omega
        · exact z b ⟨h1, Or.inl h3⟩
      · have := q t i (by omega) (by omega)
        rw [p] at this
        rcases this with z | z
        · omega
        · exact z b ⟨h1, Or.inr h3⟩
    · have := q i t (by omega) (by omega)
      rw [p] at this
      rcases this with z | z
      · omega
      · exact z b ⟨h3, Or.inl h1⟩
theorem XY_isShared_L7_e {g v : sd_H} {N S r : Nat} (iz : IZ (v.1 128)) (il : IL v v N S) (f : FS g (q_al v)) (e6 : g.1 6 1 = nI N) (hr : r < 6) : ∀ m fu t, t + m = N → m < fu →
    XY_isShared_L7 g fu (nI r) (nI (ort (ws v 0 r) t)) (nI (ort (ws v 1 r) t)) (nI t) = some (bi (sh1 (ws v 0 r) (ws v 1 r) t m))
  | _, 0, _, _, q => absurd q (Nat.not_lt_zero _)
  | 0, fu + 1, t, e, _ => by
    have hN := il.1
    unfold XY_isShared_L7
    rw [e6, if_pos (nI_le (by omega) (by omega))]
    rfl
  | m + 1, fu + 1, t, e, q => by
    have hN := il.1
    have w0 := FS_ws iz il f (s := 0) (by omega) hr (show t < 10 by omega)
    have w1 := FS_ws iz il f (s := 1) (by omega) hr (show t < 10 by omega)
    have l0 := (ws_e iz il 0 r t).2
    have l1 := (ws_e iz il 1 r t).2
    have rec_ := XY_isShared_L7_e iz il f e6 hr m fu (t + 1) (by omega) (by omega)
    unfold XY_isShared_L7 sh1 gd1
    rw [e6, if_neg (nI_ge (by omega) (by omega)), e_tr, inB_n (by omega) (by omega), gd_t, gd_t, nI_clamp (by omega), show (59 : Nat) = 58 + 1 from rfl, w1, show g.1 58 (t * 6 + r) = nI (ws v 0 r t) from w0, nI_or, nI_and, nI_and, nI_or, nI_or, nI_1,
      itp (n0eq (k := ws v 1 r t &&& (ort (ws v 0 r) t ||| ort (ws v 1 r) t)) (Nat.lt_of_le_of_lt Nat.and_le_left (by omega))), itp (n0eq (k := ws v 0 r t &&& ort (ws v 1 r) t) (Nat.lt_of_le_of_lt Nat.and_le_left (by omega)))]
    by_cases a : ws v 1 r t &&& (ort (ws v 0 r) t ||| ort (ws v 1 r) t) = 0
    · rw [if_pos a, decide_eq_true a]
      by_cases b : ws v 0 r t &&& ort (ws v 1 r) t = 0
      · rw [if_pos b, decide_eq_true b]
        exact rec_
      · rw [if_neg b, decide_eq_false b]
        rfl
    · rw [if_neg a, decide_eq_false a]
      rfl
/-! the model's pairs -/
def pj (R W : Nat → Nat) (i : Nat) : Nat → Nat → Bool → Bool
  | _, 0, b => b
  | j, m + 1, b => pj R W i (j + 1) m (b && pr R W i j)
def pi (R W : Nat → Nat) (N : Nat) : Nat → Nat → Bool → Bool
  | _, 0, b => b
  | i, m + 1, b => pi R W N (i + 1) m (pj R W i 0 N b)
theorem pj_iff (R W : Nat → Nat) (i : Nat) : ∀ m j b, (pj R W i j m b = true) = (b = true ∧ ∀ k, j ≤ k → k < j + m → pr R W i k = true)
  | 0, j, b => propext ⟨fun q => ⟨q, fun k h1 h2 => absurd h2 (by omega)⟩, fun q => q.1⟩
  | m + 1, j, b => by
    show (pj R W i (j + 1) m (b && pr R W i j) = true) = _
    rw [pj_iff R W i m (j + 1), Bool.and_eq_true]
    refine propext ⟨fun ⟨⟨a, b⟩, c⟩ => ⟨a, fun k h1 h2 => ?_⟩, fun ⟨a, q⟩ => ⟨⟨a, q j (by omega) (by omega)⟩, fun k h1 h2 => q k (by omega) (by omega)⟩⟩
    by_cases e : k = j
    · rw [e]
      exact b
    · exact c k (by omega) (by omega)
theorem pi_iff (R W : Nat → Nat) (N : Nat) : ∀ m i b, (pi R W N i m b = true) = (b = true ∧ ∀ k, i ≤ k → k < i + m → ∀ j, j < N → pr R W k j = true)
  | 0, i, b => propext ⟨fun q => ⟨q, fun k h1 h2 => absurd h2 (by omega)⟩, fun q => q.1⟩
  | m + 1, i, b => by
    show (pi R W N (i + 1) m (pj R W i 0 N b) = true) = _
    rw [pi_iff R W N m (i + 1), pj_iff]
    refine propext ⟨fun ⟨⟨a, b⟩, c⟩ => ⟨a, fun k h1 h2 j hj => ?_⟩, fun ⟨a, q⟩ => ⟨⟨a, fun k h1 h2 => q i (by omega) (by omega) k (by omega)⟩, fun k h1 h2 => q k (by omega) (by omega)⟩⟩
    by_cases e : k = i
    · rw [e]
      exact b j (by omega) (by omega)
    · exact c k (by omega) (by omega) j hj
/-- the model's sets stand -/
def MS (g v : sd_H) (N : Nat) : Prop := (∀ a, a < 240 → g.1 144 a = q_al v a) ∧ g.1 126 6 = nI N
theorem YM_isShared_L15_e {g v : sd_H} {N S r i : Nat} (iz : IZ (v.1 128)) (il : IL v v N S) (f : MS g v N) (hr : r < 6) (hi : i < 10) (K4 : Int32 → Int32 → Int32 → Option Int32) : ∀ m fu j b, j + m = N → m < fu →
    YM_isShared_L15 g K4 fu (nI r) (bi b) (nI i) (nI j) = K4 (nI r) (bi (pj (ws v 0 r) (ws v 1 r) i j m b)) (nI (i + 1))
  | _, 0, _, _, _, q => absurd q (Nat.not_lt_zero _)
  | 0, fu + 1, j, b, e, _ => by
    have hN := il.1
    unfold YM_isShared_L15
    rw [f.2, if_pos (nI_le (by omega) (by omega)), nI_1]
    rfl
  | m + 1, fu + 1, j, b, e, q => by
    have hN := il.1
    have l0 := (ws_e iz il 0 r j).2
    have l1 := (ws_e iz il 1 r i).2
    have rec_ := fun b => YM_isShared_L15_e iz il f hr hi K4 m fu (j + 1) b (by omega) (by omega)
    have rt := rec_ true
    have rf := rec_ false
    rw [bi_t] at rt
    rw [bi_f] at rf
    unfold YM_isShared_L15 YM_isShared_B70 YM_isShared_B66 YM_isShared_B71 pj pr
    rw [f.2, if_neg (nI_ge (by omega) (by omega)), show (0 : Int32) = nI 0 from rfl, show (1 : Int32) = nI 1 from rfl, YM_bitsOfTurn_e iz il f.1 (by omega) hr (by omega), b1_s, YM_bitsOfTurn_e iz il f.1 (by omega) hr (by omega), b1_s, YM_bitsOfTurn_e iz il f.1 (by omega) hr hi, b1_s, nI_or, nI_and, nI_add, itp (nI_eqI (a := i) (b := j) (by omega) (by omega)), itp (nI_eqI (b := 0) (a := ws v 1 r i &&& (ws v 0 r j ||| ws v 1 r j)) (Nat.lt_of_le_of_lt Nat.and_le_left (by omega)) (by omega))]
    rw [show nI 0 = 0 from rfl, show nI 1 = 1 from rfl]
    cases b
    · rw [if_pos (show bi false = 0 from rfl), Bool.false_and]
      exact rf
    · rw [if_neg (show ¬ bi true = 0 by decide), Bool.true_and]
      by_cases c : i = j
      · rw [if_pos c, decide_eq_true c, Bool.true_or]
        exact rt
      · rw [if_neg c, decide_eq_false c, Bool.false_or]
        by_cases d : ws v 1 r i &&& (ws v 0 r j ||| ws v 1 r j) = 0
        · rw [if_pos d, decide_eq_true d]
          exact rt
        · rw [if_neg d, decide_eq_false d]
          exact rf
theorem YM_isShared_L4_e {g v : sd_H} {N S r : Nat} (iz : IZ (v.1 128)) (il : IL v v N S) (f : MS g v N) (hr : r < 6) : ∀ m fu i b, i + m = N → m < fu →
    YM_isShared_L4 g fu (nI r) (bi b) (nI i) = some (bi (pi (ws v 0 r) (ws v 1 r) N i m b))
  | _, 0, _, _, _, q => absurd q (Nat.not_lt_zero _)
  | 0, fu + 1, i, b, e, _ => by
    have hN := il.1
    unfold YM_isShared_L4
    rw [f.2, if_pos (nI_le (by omega) (by omega)), gd_h (bi_B b)]
    rfl
  | m + 1, fu + 1, i, b, e, q => by
    have hN := il.1
    have l := YM_isShared_L15_e iz il f hr (show i < 10 by omega) (YM_isShared_L4 g fu) N FU 0 b (by omega) (by rw [FU_s]; omega)
    rw [nI_0] at l
    unfold YM_isShared_L4
    rw [f.2, if_neg (nI_ge (by omega) (by omega)), l]
    exact YM_isShared_L4_e iz il f hr m fu (i + 1) _ (by omega) (by omega)
theorem YM_isShared_e {g v : sd_H} {N S r : Nat} (iz : IZ (v.1 128)) (il : IL v v N S) (f : MS g v N) (hr : r < 6) : YM_isShared g (nI r) = some (bi (sh1 (ws v 0 r) (ws v 1 r) 0 N)) := by
  unfold YM_isShared
  have l := YM_isShared_L4_e iz il f hr N FU 0 true (by omega) (by have := il.1; rw [FU_s]; omega)
  rw [nI_0, bi_t] at l
  rw [l]
  refine congrArg (fun b => some (bi b)) (Bool.eq_iff_iff.mpr ?_)
  rw [sh_eq, pi_iff]
  exact ⟨fun q i j hi hj => q.2 i (by omega) (by omega) j hj, fun q => ⟨rfl, fun k _ hk j hj => q k j (by omega) hj⟩⟩
/-! the first turn with what an earlier one writes -/
def fe (W E : Nat → Nat) : Nat → Nat → Option Nat
  | _, 0 => none
  | t, m + 1 => if E t &&& ort W t = 0 then fe W E (t + 1) m else some t
theorem fe_c (W E : Nat → Nat) : ∀ m t, fe W E t m = none ∨ ∃ i, fe W E t m = some i ∧ t ≤ i ∧ i < t + m ∧ ¬ E i &&& ort W i = 0
  | 0, _ => Or.inl rfl
  | m + 1, t => by
    unfold fe
    by_cases c : E t &&& ort W t = 0
    · rw [if_pos c]
      rcases fe_c W E m (t + 1) with h | ⟨i, h1, h2, h3, h4⟩
      · exact Or.inl h
      · exact Or.inr ⟨i, h1, by omega, by omega, h4⟩
    · rw [if_neg c]
      exact Or.inr ⟨t, rfl, by omega, by omega, c⟩
theorem XY_exposedTurn_L4_e {g v : sd_H} {N S r : Nat} (iz : IZ (v.1 128)) (il : IL v v N S) (f : FS g (q_al v)) (e6 : g.1 6 1 = nI N) (hr : r < 6) : ∀ m fu t, t + m = N → m < fu →
    XY_exposedTurn_L4 g fu (nI r) (nI (ort (ws v 1 r) t)) (nI t) = some (nxI (fe (ws v 1 r) (ws v 3 r) t m))
  | _, 0, _, _, q => absurd q (Nat.not_lt_zero _)
  | 0, fu + 1, t, e, _ => by
    have hN := il.1
    unfold XY_exposedTurn_L4
    rw [e6, if_pos (nI_le (by omega) (by omega))]
    rfl
  | m + 1, fu + 1, t, e, q => by
    have hN := il.1
    have w1 := FS_ws iz il f (s := 1) (by omega) hr (show t < 10 by omega)
    have w3 := FS_ws iz il f (s := 3) (by omega) hr (show t < 10 by omega)
    have l3 := (ws_e iz il 3 r t).2
    unfold XY_exposedTurn_L4 fe
    rw [e6, if_neg (nI_ge (by omega) (by omega)), e_tr, inB_n (by omega) (by omega), gd_t, gd_t, nI_clamp (by omega), show g.1 61 (t * 6 + r) = nI (ws v 3 r t) from w3, show g.1 59 (t * 6 + r) = nI (ws v 1 r t) from w1, nI_and, nI_or, nI_1, itp (n0eq (k := ws v 3 r t &&& ort (ws v 1 r) t) (Nat.lt_of_le_of_lt Nat.and_le_left (by omega)))]
    by_cases c : ws v 3 r t &&& ort (ws v 1 r) t = 0
    · rw [if_pos c, if_pos c]
      exact XY_exposedTurn_L4_e iz il f e6 hr m fu (t + 1) (by omega) (by omega)
    · rw [if_neg c, if_neg c]
      rfl
theorem YM_isCopied_L7_e {g v : sd_H} {N S r : Nat} (iz : IZ (v.1 128)) (il : IL v v N S) (f : MS g v N) (hr : r < 6) : ∀ m fu t b, t + m = N → m < fu →
    YM_isCopied_L7 g fu (nI r) (bi b) (nI (ort (ws v 1 r) t)) (nI t) = some (bi (b && (fe (ws v 1 r) (ws v 3 r) t m).isNone))
  | _, 0, _, _, _, q => absurd q (Nat.not_lt_zero _)
  | 0, fu + 1, t, b, e, _ => by
    have hN := il.1
    unfold YM_isCopied_L7
    rw [f.2, if_pos (nI_le (by omega) (by omega)), gd_h (bi_B b)]
    cases b <;> rfl
  | m + 1, fu + 1, t, b, e, q => by
    have hN := il.1
    have l3 := (ws_e iz il 3 r t).2
    have rec_ := fun b => YM_isCopied_L7_e iz il f hr m fu (t + 1) b (by omega) (by omega)
    have rt := rec_ true
    have rf := rec_ false
    rw [bi_t] at rt
    rw [bi_f] at rf
    unfold YM_isCopied_L7 YM_isCopied_B37 YM_isCopied_B38 fe
    rw [f.2, if_neg (nI_ge (by omega) (by omega)), show (3 : Int32) = nI 3 from rfl, YM_bitsOfTurn_e iz il f.1 (by omega) hr (by omega), b1_s, show YM_bitsOfTurn g 1 (nI r) (nI t) = some (nI (ws v 1 r t)) from YM_bitsOfTurn_e (s := 1) iz il f.1 (by omega) hr (by omega), b1_s, b1_s, nI_and, nI_or, nI_1, itp (n0eq (k := ws v 3 r t &&& ort (ws v 1 r) t) (Nat.lt_of_le_of_lt Nat.and_le_left (by omega)))]
    cases b
    · rw [if_pos (show bi false = 0 from rfl)]
      exact rf
    · rw [if_neg (show ¬ bi true = 0 by decide)]
      by_cases c : ws v 3 r t &&& ort (ws v 1 r) t = 0
      · rw [if_pos c, if_pos c]
        exact rt
      · rw [if_neg c, if_neg c]
        exact rf
theorem YM_isWritten_L4_e {g v : sd_H} {N S r : Nat} (iz : IZ (v.1 128)) (il : IL v v N S) (f : MS g v N) (hr : r < 6) : ∀ m fu t, t + m = N → m < fu →
    YM_isWritten_L4 g fu (nI r) (nI (ort (ws v 1 r) t)) (nI t) = some (bi (!decide (ort (ws v 1 r) N = 0)))
  | _, 0, _, _, q => absurd q (Nat.not_lt_zero _)
  | 0, fu + 1, t, e, _ => by
    have hN := il.1
    obtain rfl : t = N := by omega
    have l := ort_lt (fun n => (ws_e iz il 1 r n).2) t
    unfold YM_isWritten_L4
    rw [f.2, if_pos (nI_le (by omega) (by omega)), itp (n0eq (k := ort (ws v 1 r) t) (by omega))]
    by_cases c : ort (ws v 1 r) t = 0
    · rw [if_pos c, decide_eq_true c]
      rfl
    · rw [if_neg c, decide_eq_false c]
      rfl
  | m + 1, fu + 1, t, e, q => by
    have hN := il.1
    unfold YM_isWritten_L4
    rw [f.2, if_neg (nI_ge (by omega) (by omega)), show YM_bitsOfTurn g 1 (nI r) (nI t) = some (nI (ws v 1 r t)) from YM_bitsOfTurn_e (s := 1) iz il f.1 (by omega) hr (by omega), b1_s, nI_or, nI_1]
    exact YM_isWritten_L4_e iz il f hr m fu (t + 1) (by omega) (by omega)
/-! gathered -/
theorem ff_n (o a b : Int32) : ∃ n, n ≤ 7 ∧ ff o a b = nI n := by
  have key : ∀ P : Option Int32 → Prop, (∀ n, n ≤ 7 → P (some (nI n))) → P (XY_familyFor o a b) := by
    intro P hP
    unfold XY_familyFor XY_familyFor_B10
    repeat' split
    all_goals first | exact hP 0 (by decide) | exact hP 1 (by decide) | exact hP 2 (by decide) | exact hP 3 (by decide) | exact hP 4 (by decide) | exact hP 5 (by decide) | exact hP 6 (by decide) | exact hP 7 (by decide)
  have : ∃ n, n ≤ 7 ∧ XY_familyFor o a b = some (nI n) := key (fun x => ∃ n, n ≤ 7 ∧ x = some (nI n)) fun n hn => ⟨n, hn, rfl⟩
  obtain ⟨n, hn, e⟩ := this
  refine ⟨n, hn, ?_⟩
  unfold ff
  rw [e]
  rfl
theorem FAM_n (v : sd_H) (k : Nat) (F : Int32) : ∃ n, n ≤ 7 ∧ FAM v k F = nI n := by
  unfold FAM
  repeat' split
  all_goals first | exact ff_n _ _ _ | exact ⟨0, by decide, rfl⟩
/-- what statement k gathers by, of row r -/
def ow (v : sd_H) (r k : Nat) (F : Int32) : Int32 := if v.1 137 (3 * k) = nI r then FAM v k F else 0
def ga (v : sd_H) (r : Nat) (F : Int32) : Nat → Nat → Int32 → Bool
  | _, 0, x => !decide (x = 0)
  | k, m + 1, x => if lr v k r = true then if ow v r k F = 0 then false else if x = 0 then ga v r F (k + 1) m (ow v r k F) else if ow v r k F = x then ga v r F (k + 1) m (ow v r k F) else false else ga v r F (k + 1) m x
theorem XY_isGathered_L5_e {g v : sd_H} {N S r : Nat} {F : Int32} (il : IL g v N S) (hfm : ∀ r, r < 6 → g.1 2 r = v.1 127 r) (hr : r < 6) : ∀ m fu k x, k + m = S → m < fu →
    XY_isGathered_L5 g fu (nI r) F x (nI k) = some (bi (ga v r F k m x))
  | _, 0, _, _, _, q => absurd q (Nat.not_lt_zero _)
  | 0, fu + 1, k, x, e, _ => by
    have hS := il.2.1
    unfold XY_isGathered_L5 ga
    rw [il.2.2.2.2.1, if_pos (nI_le (by omega) (by omega))]
    by_cases c : x = 0
    · rw [if_pos c, decide_eq_true c]
      rfl
    · rw [if_neg c, decide_eq_false c]
      rfl
  | m + 1, fu + 1, k, x, e, q => by
    have hS := il.2.1
    have ik := il.2.2.2.2.2.2 k (by omega)
    have r0 := (ik.2 0 (by omega)).1
    simp only [Nat.add_zero] at r0
    have rec_ := fun x => XY_isGathered_L5_e (F := F) il hfm hr m fu (k + 1) x (by omega) (by omega)
    unfold XY_isGathered_L5 XY_isGathered_B63 XY_isGathered_B82 XY_isGathered_B85 ga
    rw [il.2.2.2.2.1, if_neg (nI_ge (by omega) (by omega)), inB_n (by omega) (by omega), gd_t, nI_clamp (by omega), XA_looksAtRow_e ik hr, b1_s, nI_1, itp (bi_0 _)]
    cases lr v k r
    · rw [if_pos rfl, if_neg (show ¬ false = true by decide)]
      exact rec_ x
    · rw [if_neg (show ¬ true = false by decide), if_pos rfl, show 8 + 5 * k + 1 + 1 + 0 = 10 + 5 * k by omega, r0, XY_familyOf_e ik hfm, b1_s]
      unfold ow
      by_cases c : v.1 137 (3 * k) = nI r
      · rw [if_pos c, if_pos c]
        by_cases d : FAM v k F = 0
        · rw [if_pos d, if_pos d]
          rfl
        · rw [if_neg d, if_neg d]
          by_cases y : x = 0
          · rw [if_pos y, if_pos y]
            exact rec_ _
          · rw [if_neg y, if_neg y]
            by_cases z : FAM v k F = x
            · rw [if_pos z, if_pos z]
              exact rec_ _
            · rw [if_neg z, if_neg z]
              rfl
      · rw [if_neg c, if_neg c, if_pos rfl, if_pos rfl]
        rfl
theorem YM_isAbout_e {g v : sd_H} {k r : Nat} (ik : ILk g v k) (hk : k < 5) (hr : r < 6) : YM_isAbout v (nI k) (nI r) = some (bi (lr v k r)) := by
  have l : ∀ w, w < 3 → kl v k r w = ((decide (w < 2) || !decide (v.1 132 k = 9)) && decide (v.1 137 (3 * k + w) = nI r)) := fun w hw => by
    unfold kl
    by_cases c : v.1 137 (3 * k + w) = nI r
    · rw [lk_w hw hr c]
    · rw [decide_eq_false c, Bool.and_false, Bool.and_false]
  unfold YM_isAbout YM_isAbout_B51 lr
  simp (disch := omega) only [lit 3, lit 2, pk_mul, nI_add, nI_1, inB_n, gd_t, nI_clamp]
  have l0 := l 0 (by omega)
  rw [Nat.add_zero] at l0
  rw [l0, l 1 (by omega), l 2 (by omega), show decide (0 < 2) = true from rfl, show decide (1 < 2) = true from rfl, show decide (2 < 2) = false from rfl, Bool.true_or, Bool.true_and, Bool.true_and, Bool.false_or]
  by_cases a : v.1 137 (3 * k) = nI r
  · rw [if_pos a, decide_eq_true a]
    rfl
  · rw [if_neg a, decide_eq_false a]
    by_cases b : v.1 137 (3 * k + 1) = nI r
    · rw [if_pos b, decide_eq_true b]
      rfl
    · rw [if_neg b, decide_eq_false b]
      by_cases c : v.1 137 (3 * k + 2) = nI r
      · rw [if_pos c, decide_eq_true c]
        by_cases d : v.1 132 k = 9
        · rw [if_pos d, decide_eq_true d]
          rfl
        · rw [if_neg d, decide_eq_false d]
          rfl
      · rw [if_neg c, decide_eq_false c, Bool.and_false]
        rfl
/-- a row as it is, or as of a form -/
def HF (v : sd_H) (r : Nat) (a b F : Int32) : Prop := nb b = true ∧ (a = -1 ∧ F = v.1 127 r ∨ a = nI r ∧ F = b)
theorem YM_isGathered_L9_e {v : sd_H} {N S r : Nat} {a b F : Int32} (il : IL v v N S) (hf : HF v r a b F) (hr : r < 6) : ∀ m fu k x (ok : Bool), k + m = S → m < fu → (∃ n, n ≤ 7 ∧ x = nI n) →
    YM_isGathered_L9 v fu (nI r) a b x (bi ok) (nI k) = some (bi (ok && ga v r F k m x))
  | _, 0, _, _, _, _, q, _ => absurd q (Nat.not_lt_zero _)
  | 0, fu + 1, k, x, ok, e, _, hx => by
    have hS := il.2.1
    obtain ⟨n, hn, rfl⟩ := hx
    unfold YM_isGathered_L9 ga
    rw [il.2.2.2.2.2.1, if_pos (nI_le (by omega) (by omega)), itp (bi_0 _), itp (nle0 (k := n) (by omega)), decide_eq_decide.mpr (Iff.of_eq (n0eq (k := n) (by omega)))]
    cases ok
    · rfl
    · rw [if_neg (show ¬ true = false by decide), Bool.true_and]
      by_cases c : n = 0
      · rw [if_pos c, decide_eq_true c]
        rfl
      · rw [if_neg c, decide_eq_false c]
        rfl
  | m + 1, fu + 1, k, x, ok, e, q, hx => by
    have hS := il.2.1
    have ik := il.2.2.2.2.2.2 k (by omega)
    have hk : k < 5 := by omega
    have rec_ := fun x ok hx => YM_isGathered_L9_e il hf hr m fu (k + 1) x ok (by omega) (by omega) hx
    unfold YM_isGathered_L9 YM_isGathered_B73 YM_isGathered_B77 YM_isGathered_B78 YM_isGathered_B84 ga
    rw [il.2.2.2.2.2.1, if_neg (nI_ge (by omega) (by omega)), YM_isAbout_e ik hk hr, b1_s, nI_1, itp (bi_0 _)]
    cases lr v k r
    · rw [if_pos rfl, if_neg (show ¬ false = true by decide)]
      exact rec_ x ok hx
    · rw [if_neg (show ¬ true = false by decide), if_pos rfl]
      by_cases c : v.1 137 (3 * k) = nI r
      · have fe : YM_familyAs v (nI k) a b = some (FAM v k F) := by
          refine YM_familyAs_e ik hk ?_
          rcases hf.2 with ⟨h1, h2⟩ | ⟨h1, h2⟩
          · refine Or.inr (Or.inr ⟨h1, ?_⟩)
            unfold gr
            rw [c, nI_clamp (by omega), h2]
          · exact Or.inl ⟨by rw [h1]; exact c, h2⟩
        have hF := FAM_n v k F
        have rt := rec_ (FAM v k F) true hF
        have rf := rec_ (FAM v k F) false hF
        rw [bi_t] at rt
        rw [bi_f] at rf
        unfold ow
        rw [fe, b1_s, show (3 : Int32) * nI k = nI (3 * k) by rw [lit 3, pk_mul], inB_n (by omega) (by omega), gd_t, nI_clamp (by omega), if_pos c, if_pos c, itp (bi_0 _)]
        cases ok
        · rw [if_pos rfl, rf]
          rfl
        · rw [if_neg (show ¬ true = false by decide), Bool.true_and]
          rw [Bool.true_and] at rt
          rw [Bool.false_and] at rf
          obtain ⟨n, hn, en⟩ := hF
          have z0 : (FAM v k F ≤ 0) = (FAM v k F = 0) := by
            rw [en, nle0 (by omega), n0eq (by omega)]
          rw [itp z0]
          by_cases d : FAM v k F = 0
          · rw [if_pos d, if_pos d, rf]
          · rw [if_neg d, if_neg d]
            by_cases y : x = 0
            · rw [if_pos y, if_pos y, rt]
            · rw [if_neg y, if_neg y, itp (show (x = FAM v k F) = (FAM v k F = x) from propext ⟨Eq.symm, Eq.symm⟩)]
              by_cases z : FAM v k F = x
              · rw [if_pos z, if_pos z, rt]
              · rw [if_neg z, if_neg z, rf]
      · obtain ⟨y, hy⟩ := YM_familyAs_some ik hk (a := a) (b := b) hf.1
        have fin : ∀ fu k m (y : Int32), k + m = S → m < fu → YM_isGathered_L9 v fu (nI r) a b y 0 (nI k) = some 0 := by
          intro fu
          induction fu with
          | zero => exact fun k m y _ q => absurd q (Nat.not_lt_zero _)
          | succ fu ih =>
            intro k m y e q
            unfold YM_isGathered_L9 YM_isGathered_B77 YM_isGathered_B78 YM_isGathered_B84
            cases m with
            | zero =>
              rw [il.2.2.2.2.2.1, if_pos (nI_le (by omega) (by omega)), if_pos rfl]
            | succ m =>
              obtain ⟨y', hy'⟩ := YM_familyAs_some (il.2.2.2.2.2.2 k (by omega)) (show k < 5 by omega) (a := a) (b := b) hf.1
              rw [il.2.2.2.2.2.1, if_neg (nI_ge (by omega) (by omega)), YM_isAbout_e (il.2.2.2.2.2.2 k (by omega)) (by omega) hr, b1_s, nI_1, hy', b1_s, if_pos (show (0 : Int32) = 0 from rfl), ih (k + 1) m y (by omega) (by omega), ih (k + 1) m y' (by omega) (by omega)]
              split <;> rfl
        unfold ow
        rw [hy, b1_s, show (3 : Int32) * nI k = nI (3 * k) by rw [lit 3, pk_mul], inB_n (by omega) (by omega), gd_t, nI_clamp (by omega), if_neg c, if_neg c, if_pos (show (0 : Int32) = 0 from rfl), Bool.and_false, fin fu (k + 1) m y (by omega) (by omega)]
        split <;> rfl
/-- the verdict -/
def JU (v : sd_H) (N S r : Nat) (F : Int32) : Int32 :=
  if ort (ws v 1 r) N = 0 then 0 else if sh1 (ws v 0 r) (ws v 1 r) 0 N = true then 1 else if ga v r F 0 S 0 = true then 2 else if (fe (ws v 1 r) (ws v 3 r) 0 N).isNone = true then 3 else 4
theorem XY_judge_e {g v : sd_H} {N S r : Nat} {F : Int32} (iz : IZ (v.1 128)) (il : IL v v N S) (ilg : IL g v N S) (hfm : ∀ r, r < 6 → g.1 2 r = v.1 127 r) (f : FS g (q_al v)) (hr : r < 6) : XY_judge g (nI r) F = some (JU v N S r F) := by
  have hN := il.1
  have hS := il.2.1
  unfold XY_judge JU
  have c := XY_cellsOf_e iz il f ilg.2.2.1 (s := 1) (by omega) hr none (fun t q => by cases q)
  have l := ort_lt (fun n => (ws_e iz il 1 r n).2) N
  rw [show tI none = -1 from rfl, show nI 1 = 1 from rfl] at c
  rw [c, b1_s]
  show (if nI (ort (ws v 1 r) N) = 0 then _ else _) = _
  rw [itp (n0eq (k := ort (ws v 1 r) N) (by omega))]
  by_cases a : ort (ws v 1 r) N = 0
  · rw [if_pos a, if_pos a]
  · rw [if_neg a, if_neg a]
    unfold XY_isShared
    have s1 := XY_isShared_L7_e iz il f ilg.2.2.1 hr N FU 0 (by omega) (by rw [FU_s]; omega)
    rw [show ort (ws v 0 r) 0 = 0 from rfl, show ort (ws v 1 r) 0 = 0 from rfl, nI_0] at s1
    rw [s1, b1_s, itp (bi_0 _)]
    cases sh1 (ws v 0 r) (ws v 1 r) 0 N
    · rw [if_pos rfl, if_neg (show ¬ false = true by decide)]
      unfold XY_isGathered
      have s2 := XY_isGathered_L5_e (F := F) ilg hfm hr S FU 0 0 (by omega) (by rw [FU_s]; omega)
      rw [nI_0] at s2
      rw [s2, b1_s, itp (bi_0 _)]
      cases ga v r F 0 S 0
      · rw [if_pos rfl, if_neg (show ¬ false = true by decide)]
        unfold XY_exposedTurn
        have s3 := XY_exposedTurn_L4_e iz il f ilg.2.2.1 hr N FU 0 (by omega) (by rw [FU_s]; omega)
        rw [show ort (ws v 1 r) 0 = 0 from rfl, nI_0] at s3
        rw [s3, b1_s]
        rcases fe_c (ws v 1 r) (ws v 3 r) N 0 with z | ⟨i, z, h1, h2, h3⟩
        · rw [z]
          rfl
        · rw [z, if_neg (show ¬ nxI (some i) = -1 from nm1 (k := i) (by omega))]
          rfl
      · rw [if_neg (show ¬ true = false by decide), if_pos rfl]
    · rw [if_neg (show ¬ true = false by decide), if_pos rfl]
theorem YM_verdictAs_w {v : sd_H} (iz : IZ (v.1 128)) {N S r : Nat} {a b F : Int32} (il : IL v v N S) (hf : HF v r a b F) (hr : r < 6) : ∃ w, YM_verdictAs v (nI r) a b = some (w, JU v N S r F) ∧ MA w v (q_al v) := by
  have hN := il.1
  have hS := il.2.1
  obtain ⟨w, e, i⟩ := findsSets_w iz il
  refine ⟨w, ?_, i⟩
  have il' := MA_il i il
  have ms : MS w v N := ⟨i.2.2.2, il'.2.2.2.1⟩
  have sl := MA_sl i
  unfold YM_verdictAs JU
  unfold YM_isWritten YM_isCopied
  have s0 := YM_isWritten_L4_e iz il ms hr N FU 0 (by omega) (by rw [FU_s]; omega)
  rw [show ort (ws v 1 r) 0 = 0 from rfl, nI_0] at s0
  have s3 := YM_isCopied_L7_e iz il ms hr N FU 0 true (by omega) (by rw [FU_s]; omega)
  rw [show ort (ws v 1 r) 0 = 0 from rfl, nI_0, Bool.true_and, bi_t] at s3
  have hf' : HF w r a b F := by
    unfold HF
    rw [sl.2.1]
    exact hf
  have s2 := YM_isGathered_L9_e il' hf' hr S FU 0 0 true (by omega) (by rw [FU_s]; omega) ⟨0, by omega, rfl⟩
  have gc : ∀ m k x, ga w r F k m x = ga v r F k m x := by
    intro m
    induction m with
    | zero => exact fun _ _ => rfl
    | succ m ih =>
      intro k x
      have fc : FAM w k F = FAM v k F := by
        unfold FAM al
        rw [sl.2.1, sl.2.2.2.1, sl.2.2.2.2.2.1, sl.2.2.2.2.2.2.1, sl.2.2.2.2.2.2.2.1, sl.2.2.2.2.2.2.2.2.1, gr_c sl]
      have oc : ow w r k F = ow v r k F := by
        unfold ow
        rw [fc, sl.2.2.2.2.2.1]
      have lc : lr w k r = lr v k r := by
        unfold lr kl
        rw [lk_c sl, sl.2.2.2.2.2.1]
      unfold ga
      rw [oc, lc, ih, ih]
  rw [nI_0, Bool.true_and, bi_t, gc] at s2
  rw [e, b1_s, s0, b1_s, itp (bi_0 _), YM_isShared_e iz il ms hr, b1_s]
  by_cases a' : ort (ws v 1 r) N = 0
  · rw [if_pos a', decide_eq_true a']
    rfl
  · rw [if_neg a', decide_eq_false a', if_neg (show ¬ (!false) = false by decide), itp (bi_0 _)]
    cases sh1 (ws v 0 r) (ws v 1 r) 0 N
    · rw [if_pos rfl, if_neg (show ¬ false = true by decide)]
      unfold YM_isGathered
      rw [s2, b1_s, itp (bi_0 _)]
      cases ga v r F 0 S 0
      · rw [if_pos rfl, if_neg (show ¬ false = true by decide), s3, b1_s, itp (bi_0 _)]
        cases (fe (ws v 1 r) (ws v 3 r) 0 N).isNone
        · rfl
        · rfl
      · rw [if_neg (show ¬ true = false by decide), if_pos rfl]
    · rw [if_neg (show ¬ true = false by decide), if_pos rfl]
theorem YM_verdictAs_e {v : sd_H} (iv : Iv v v) {N S r : Nat} {a b F : Int32} (il : IL v v N S) (hf : HF v r a b F) (hr : r < 6) : ∃ w, YM_verdictAs v (nI r) a b = some (w, JU v N S r F) ∧ QQ w v := by
  obtain ⟨w, e, i⟩ := YM_verdictAs_w iv.2.2.1 il hf hr
  exact ⟨w, e, QQ_ma (MA_iv i iv) i⟩
