/-! ===== pieces ===== -/
theorem pc_clr_le {m i : Nat} (hm : m < 2 ^ 24) (hi : i < 24) : ∀ n l, pc (clr m i) l n ≤ pc m l n
  | 0, _ => Nat.le_refl _
  | n + 1, l => by
    have := pc_clr_le hm hi n (l + 1)
    unfold pc
    rw [clr_t hm hi]
    have : (m.testBit l && !decide (l = i)).toNat ≤ (m.testBit l).toNat := by cases m.testBit l <;> cases decide (l = i) <;> decide
    omega
theorem pc_clr_lt {m i : Nat} (hm : m < 2 ^ 24) (hi : i < 24) (hb : m.testBit i = true) : ∀ n l, l ≤ i → i < l + n → pc (clr m i) l n < pc m l n
  | 0, l, h1, h2 => absurd h2 (by omega)
  | n + 1, l, h1, h2 => by
    unfold pc
    rw [clr_t hm hi]
    by_cases e : l = i
    · have := pc_clr_le hm hi n (l + 1)
      subst e
      rw [hb, decide_eq_true rfl]
      show 0 + _ < 1 + _
      omega
    · have := pc_clr_lt hm hi hb n (l + 1) (by omega) (by omega)
      rw [decide_eq_false e]
      have : (m.testBit l && !false).toNat = (m.testBit l).toNat := by cases m.testBit l <;> rfl
      omega
/-- the walk over a piece: what is left, how many -/
def wk (m d : Nat) : Nat → Nat → Nat → Nat → Nat × Nat
  | 0, _, left, n => (left, n)
  | g + 1, p, left, n => if p < 24 then if m.testBit p = true then wk m d g (p + d) (clr left p) (n + 1) else (left, n) else (left, n)
theorem wk_lt {m d : Nat} : ∀ g p left n, left < 2 ^ 24 → (wk m d g p left n).1 < 2 ^ 24 ∧ pc (wk m d g p left n).1 0 24 ≤ pc left 0 24
  | 0, _, left, n, h => ⟨h, Nat.le_refl _⟩
  | g + 1, p, left, n, h => by
    unfold wk
    by_cases a : p < 24
    · rw [if_pos a]
      by_cases b : m.testBit p = true
      · rw [if_pos b]
        obtain ⟨r1, r2⟩ := wk_lt (m := m) (d := d) g (p + d) (clr left p) (n + 1) (clr_lt h)
        exact ⟨r1, Nat.le_trans r2 (pc_clr_le h a 24 0)⟩
      · rw [if_neg b]
        exact ⟨h, Nat.le_refl _⟩
    · rw [if_neg a]
      exact ⟨h, Nat.le_refl _⟩
theorem wk_n {m d : Nat} : ∀ g p left n, (wk m d g p left n).2 ≤ n + g
  | 0, _, _, _ => Nat.le_refl _
  | g + 1, p, left, n => by
    have := wk_n (m := m) (d := d) g (p + d) (clr left p) (n + 1)
    unfold wk
    split
    · split
      · omega
      · show n ≤ _
        omega
    · show n ≤ _
      omega
theorem wI_wI (h : sd_H) (c k : Nat) (a b : Int32) : wI (wI h c k a) c k b = wI h c k b := by
  refine H_ext (fun c' k' => ?_) (fun _ _ => rfl) rfl
  rw [wI_i, wI_i, wI_i]
  split <;> rfl
theorem wI_self (h : sd_H) (c k : Nat) : wI h c k (h.1 c k) = h := by
  refine H_ext (fun c' k' => ?_) (fun _ _ => rfl) rfl
  rw [wI_i]
  split
  · rename_i q
    rw [q.1, q.2]
  · rfl
theorem XS_takePiece_L56_e {m d : Nat} (hm : m < 2 ^ 24) (h1 : 1 ≤ d) (hd : d < 24) : ∀ g f (h : sd_H) p left n, g + n = 24 → g < f → left < 2 ^ 24 → n ≤ p → p < 48 → (∀ j, p ≤ j → left.testBit j = m.testBit j) → h.1 97 1 = nI d → h.1 97 2 = nI n →
    XS_takePiece_L56 f h 97 (nI left) (nI p) (nI n) = some (wI h 97 2 (nI (wk m d g p left n).2), nI (wk m d g p left n).1)
  | _, 0, _, _, _, _, _, q, _, _, _, _, _, _ => absurd q (Nat.not_lt_zero _)
  | 0, f + 1, h, p, left, n, e, _, hl, hp, hp2, hb, e1, e2 => by
    unfold XS_takePiece_L56 wk
    rw [show (24 : Int32) = nI 24 from rfl, if_pos (nI_le (by omega) (by omega)), ← e2, wI_self]
  | g + 1, f + 1, h, p, left, n, e, q, hl, hp, hp2, hb, e1, e2 => by
    unfold XS_takePiece_L56 wk
    rw [show (24 : Int32) = nI 24 from rfl, if_neg (nI_ge (by omega) (by omega))]
    by_cases a : p < 24
    · rw [if_neg (nI_ge a (by omega)), if_pos a, bit_e (by omega) a, hb p (Nat.le_refl _)]
      by_cases b : m.testBit p = true
      · rw [b, if_neg (show ¬ bi true = 0 by decide), if_pos rfl, hb_s, e2, nI_1, wI_ns (by omega), e1, nI_add, clr_e hl a]
        rw [XS_takePiece_L56_e hm h1 hd g f _ (p + d) (clr left p) (n + 1) (by omega) (by omega) (clr_lt hl) (by omega) (by omega) (fun j hj => ?_) (by simp (disch := omega) only [wI_d, wD_i, fI_d, fD_i, wI_eq, wD_eq, wI_ne, wD_ne, fI_ne, fD_ne, wI_ns, wD_ns, fI_eq, fD_eq, fI_ns, fD_ns]; exact e1) (by simp (disch := omega) only [wI_d, wD_i, fI_d, fD_i, wI_eq, wD_eq, wI_ne, wD_ne, fI_ne, fD_ne, wI_ns, wD_ns, fI_eq, fD_eq, fI_ns, fD_ns]), wI_wI]
        rw [clr_t hl a, hb j (by omega), decide_eq_false (by omega)]
        cases m.testBit j <;> rfl
      · rw [Bool.eq_false_iff.mpr b, if_pos (show bi false = 0 from rfl), if_neg (show ¬ false = true by decide), ← e2, wI_self]
    · rw [if_pos (nI_le (by omega) (by omega)), if_neg a, ← e2, wI_self]
theorem YM_without_L52_e {m d : Nat} (hm : m < 2 ^ 24) (h1 : 1 ≤ d) (hd : d < 24) : ∀ g f (h : sd_H) p left n, g + n = 24 → g < f → left < 2 ^ 24 → n ≤ p → p < 48 → h.1 126 27 = nI d → h.1 126 28 = nI n →
    YM_without_L52 f h (nI m) (nI left) (nI p) = some (wI h 126 28 (nI (wk m d g p left n).2), nI (wk m d g p left n).1)
  | _, 0, _, _, _, _, _, q, _, _, _, _, _ => absurd q (Nat.not_lt_zero _)
  | 0, f + 1, h, p, left, n, e, _, hl, hp, hp2, e1, e2 => by
    unfold YM_without_L52 wk
    rw [show (24 : Int32) = nI 24 from rfl, if_pos (nI_le (by omega) (by omega)), ← e2, wI_self]
  | g + 1, f + 1, h, p, left, n, e, q, hl, hp, hp2, e1, e2 => by
    unfold YM_without_L52 wk
    rw [show (24 : Int32) = nI 24 from rfl]
    by_cases a : p < 24
    · rw [if_neg (nI_ge a (by omega)), if_pos a, bit_e (by omega) a]
      by_cases b : m.testBit p = true
      · rw [b, if_pos (show bi true = 1 from rfl), if_pos rfl, hb_s, e2, nI_1, wI_ns (by omega), e1, nI_add, clr_e hl a]
        rw [YM_without_L52_e hm h1 hd g f _ (p + d) (clr left p) (n + 1) (by omega) (by omega) (clr_lt hl) (by omega) (by omega) (by simp (disch := omega) only [wI_d, wD_i, fI_d, fD_i, wI_eq, wD_eq, wI_ne, wD_ne, fI_ne, fD_ne, wI_ns, wD_ns, fI_eq, fD_eq, fI_ns, fD_ns]; exact e1) (by simp (disch := omega) only [wI_d, wD_i, fI_d, fD_i, wI_eq, wD_eq, wI_ne, wD_ne, fI_ne, fD_ne, wI_ns, wD_ns, fI_eq, fD_eq, fI_ns, fD_ns]), wI_wI]
      · rw [Bool.eq_false_iff.mpr b, if_neg (show ¬ bi false = 1 by decide), if_neg (show ¬ false = true by decide), ← e2, wI_self]
    · rw [if_pos (nI_le (by omega) (by omega)), if_neg a, ← e2, wI_self]
def tpF (m : Nat) : Nat := (nx m 0 24).getD 0
def tpD (m : Nat) : Nat := match nx m (tpF m + 1) (23 - tpF m) with
  | none => 1
  | some g => g - tpF m
def tpL (m : Nat) : Nat := (wk m (tpD m) 24 (tpF m) m 0).1
def tpN (m : Nat) : Nat := (wk m (tpD m) 24 (tpF m) m 0).2
theorem tp_F {m : Nat} (hm : m < 2 ^ 24) (h : ¬ m = 0) : nx m 0 24 = some (tpF m) ∧ tpF m < 24 ∧ m.testBit (tpF m) = true ∧ ∀ j, j < tpF m → m.testBit j = false := by
  obtain ⟨f, e, h1, h2, h3⟩ := nx_some hm h
  have : tpF m = f := by
    unfold tpF
    rw [e]
    rfl
  rw [this]
  exact ⟨e, h1, h2, h3⟩
theorem tp_D {m : Nat} (hm : m < 2 ^ 24) (h : ¬ m = 0) : (clr m (tpF m) = 0 ∧ nx m (tpF m + 1) (23 - tpF m) = none ∧ tpD m = 1) ∨
    ∃ g, ¬ clr m (tpF m) = 0 ∧ nx m (tpF m + 1) (23 - tpF m) = some g ∧ tpD m = g - tpF m ∧ tpF m < g ∧ g < 24 ∧ XS_leastCell (nI (clr m (tpF m))) = some (nI g) := by
  obtain ⟨f1, f2, f3, f4⟩ := tp_F hm h
  unfold tpD
  rcases nx_c m (23 - tpF m) (tpF m + 1) with ⟨h1, h2⟩ | ⟨g, h1, h2, h3, h4, h5⟩
  · refine Or.inl ⟨?_, h1, by rw [h1]⟩
    refine nx_none (clr_lt hm) fun j hj => ?_
    rw [clr_t hm f2]
    by_cases a : j = tpF m
    · rw [decide_eq_true a, Bool.not_true, Bool.and_false]
    · by_cases b : j < tpF m
      · rw [f4 j b, Bool.false_and]
      · rw [h2 j (by omega) (by omega), Bool.false_and]
  · have tg : (clr m (tpF m)).testBit g = true := by
      rw [clr_t hm f2, h4, decide_eq_false (by omega)]
      rfl
    refine Or.inr ⟨g, fun z => ?_, h1, by rw [h1], by omega, by omega, ?_⟩
    · rw [z, Nat.zero_testBit] at tg
      exact absurd tg (by decide)
    · refine XS_leastCell_e (clr_lt hm) (by omega) tg fun j hj => ?_
      rw [clr_t hm f2]
      by_cases a : j = tpF m
      · rw [decide_eq_true a, Bool.not_true, Bool.and_false]
      · by_cases b : j < tpF m
        · rw [f4 j b, Bool.false_and]
        · rw [h5 j (by omega) (by omega), Bool.false_and]
theorem tp_L {m : Nat} (hm : m < 2 ^ 24) (h : ¬ m = 0) : tpL m < 2 ^ 24 ∧ pc (tpL m) 0 24 < pc m 0 24 := by
  obtain ⟨f1, f2, f3, f4⟩ := tp_F hm h
  unfold tpL
  rw [show (24 : Nat) = 23 + 1 from rfl]
  unfold wk
  rw [if_pos f2, if_pos f3]
  obtain ⟨r1, r2⟩ := wk_lt (m := m) (d := tpD m) 23 (tpF m + tpD m) (clr m (tpF m)) (0 + 1) (clr_lt hm)
  exact ⟨r1, Nat.lt_of_le_of_lt r2 (pc_clr_lt hm f2 f3 24 0 (by omega) (by omega))⟩
theorem tp_N (m : Nat) : tpN m ≤ 24 := by
  have := wk_n (m := m) (d := tpD m) 24 (tpF m) m 0
  unfold tpN
  omega
theorem XS_takePiece_e {h : sd_H} {m : Nat} (hm : m < 2 ^ 24) (hz : ¬ m = 0) : XS_takePiece h 97 (nI m) = some (xL h 97 (nI (tpF m)) (nI (tpD m)) (nI (tpN m)), nI (tpL m)) := by
  obtain ⟨f1, f2, f3, f4⟩ := tp_F hm hz
  unfold XS_takePiece
  rw [XS_leastCell_e hm f2 f3 f4, b1_s, hb_s, show (wI h 97 0 (nI (tpF m))).1 97 0 = nI (tpF m) by simp (disch := omega) only [wI_d, wD_i, fI_d, fD_i, wI_eq, wD_eq, wI_ne, wD_ne, fI_ne, fD_ne, wI_ns, wD_ns, fI_eq, fD_eq, fI_ns, fD_ns], clr_e hm f2]
  have fin : ∀ D, 1 ≤ D → D < 24 → D = tpD m → XS_takePiece_B37 (wI h 97 0 (nI (tpF m))) 97 (nI m) (nI D) 97 = some (xL h 97 (nI (tpF m)) (nI (tpD m)) (nI (tpN m)), nI (tpL m)) := fun D d1 d2 d3 => by
    unfold XS_takePiece_B37
    rw [hb_s, hb_s, show (wI (wI (wI h 97 0 (nI (tpF m))) 97 1 (nI D)) 97 2 0).1 97 0 = nI (tpF m) by simp (disch := omega) only [wI_d, wD_i, fI_d, fD_i, wI_eq, wD_eq, wI_ne, wD_ne, fI_ne, fD_ne, wI_ns, wD_ns, fI_eq, fD_eq, fI_ns, fD_ns], show (0 : Int32) = nI 0 from rfl, XS_takePiece_L56_e hm d1 d2 24 FU _ (tpF m) m 0 (by omega) (by rw [FU_s]; omega) hm (by omega) (by omega) (fun j _ => rfl) (by simp (disch := omega) only [wI_d, wD_i, fI_d, fD_i, wI_eq, wD_eq, wI_ne, wD_ne, fI_ne, fD_ne, wI_ns, wD_ns, fI_eq, fD_eq, fI_ns, fD_ns]) (by simp (disch := omega) only [wI_d, wD_i, fI_d, fD_i, wI_eq, wD_eq, wI_ne, wD_ne, fI_ne, fD_ne, wI_ns, wD_ns, fI_eq, fD_eq, fI_ns, fD_ns]), wI_wI]
    subst d3
    rfl
  rcases tp_D hm hz with ⟨a, b, c⟩ | ⟨g, a, b, c, d, e, l⟩
  · rw [if_pos (by rw [a]; rfl)]
    exact fin 1 (by omega) (by omega) c.symm
  · rw [if_neg (nI_ne0 (by omega) (Nat.lt_trans (clr_lt hm) (by decide))), l, b1_s, pk_sub (by omega)]
    exact fin (g - tpF m) (by omega) (by omega) c.symm
/-- the model's piece laid -/
def mL3 (h : sd_H) (a b c : Int32) : sd_H := wI (wI (wI h 126 26 a) 126 27 b) 126 28 c
theorem YM_without_e {h : sd_H} {m : Nat} (hm : m < 2 ^ 24) (hz : ¬ m = 0) : YM_without h (nI m) = some (mL3 h (nI (tpF m)) (nI (tpD m)) (nI (tpN m)), nI (tpL m)) := by
  obtain ⟨f1, f2, f3, f4⟩ := tp_F hm hz
  unfold YM_without
  rw [show (0 : Int32) = nI 0 from rfl, YM_nextBit_e hm (by omega), Nat.sub_zero, f1, show nxI (some (tpF m)) = nI (tpF m) from rfl, b1_s, hb_s]
  rw [show (wI h 126 26 (nI (tpF m))).1 126 26 = nI (tpF m) by simp (disch := omega) only [wI_d, wD_i, fI_d, fD_i, wI_eq, wD_eq, wI_ne, wD_ne, fI_ne, fD_ne, wI_ns, wD_ns, fI_eq, fD_eq, fI_ns, fD_ns], nI_1, YM_nextBit_e hm (by omega), show 24 - (tpF m + 1) = 23 - tpF m by omega, b1_s]
  have fin : ∀ D, 1 ≤ D → D < 24 → D = tpD m → YM_without_B36 (wI h 126 26 (nI (tpF m))) (nI m) (nI D) = some (mL3 h (nI (tpF m)) (nI (tpD m)) (nI (tpN m)), nI (tpL m)) := fun D d1 d2 d3 => by
    unfold YM_without_B36
    rw [hb_s, hb_s, show (wI (wI (wI h 126 26 (nI (tpF m))) 126 27 (nI D)) 126 28 0).1 126 26 = nI (tpF m) by simp (disch := omega) only [wI_d, wD_i, fI_d, fD_i, wI_eq, wD_eq, wI_ne, wD_ne, fI_ne, fD_ne, wI_ns, wD_ns, fI_eq, fD_eq, fI_ns, fD_ns], YM_without_L52_e hm d1 d2 24 FU _ (tpF m) m 0 (by omega) (by rw [FU_s]; omega) hm (by omega) (by omega) (by simp (disch := omega) only [wI_d, wD_i, fI_d, fD_i, wI_eq, wD_eq, wI_ne, wD_ne, fI_ne, fD_ne, wI_ns, wD_ns, fI_eq, fD_eq, fI_ns, fD_ns]) (by simp (disch := omega) only [wI_d, wD_i, fI_d, fD_i, wI_eq, wD_eq, wI_ne, wD_ne, fI_ne, fD_ne, wI_ns, wD_ns, fI_eq, fD_eq, fI_ns, fD_ns]; rfl), wI_wI]
    subst d3
    rfl
  rcases tp_D hm hz with ⟨a, b, c⟩ | ⟨g, a, b, c, d, e, l⟩
  · rw [b, if_pos (show nxI none = -1 from rfl)]
    exact fin 1 (by omega) (by omega) c.symm
  · rw [b, if_neg (show ¬ nxI (some g) = -1 from nm1 (k := g) (by omega)), show nxI (some g) = nI g from rfl, pk_sub (by omega)]
    exact fin (g - tpF m) (by omega) (by omega) c.symm
