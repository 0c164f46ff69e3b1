/-! ===== the text ===== -/
/-- the text has changed (and the statement count with it, perhaps not), all else is the same -/
theorem Iv_t {g v g' v' : sd_H} (it : IT (g'.1 0 15) (g'.1 55) (v'.1 126 20) (v'.1 142))
    (x2 : g'.1 2 = g.1 2) (x3 : g'.1 3 = g.1 3) (x4 : g'.2.1 4 = g.2.1 4) (x5 : g'.1 5 = g.1 5) (xl : ∀ c, 6 ≤ c → c ≤ 32 → g'.1 c = g.1 c)
    (x33 : g'.1 33 = g.1 33) (xh : ∀ c, 35 ≤ c → c ≤ 54 → g'.1 c = g.1 c)
    (xo : g'.1 107 = g.1 107) (xo8 : g'.1 108 = g.1 108) (xo9 : g'.1 109 = g.1 109) (xs : g'.1 56 5 = g.1 56 5) (xt : ∀ s, s < 4 → g'.1 (58 + s) = g.1 (58 + s))
    (m7 : v'.1 127 = v.1 127) (m8 : v'.1 128 = v.1 128) (m9 : v'.2.1 129 = v.2.1 129) (m0 : v'.1 130 = v.1 130)
    (h2 : v'.1 132 = v.1 132) (h3 : v'.1 133 = v.1 133) (h4 : v'.1 134 = v.1 134) (h5 : v'.1 135 = v.1 135) (h6 : v'.1 136 = v.1 136)
    (h7 : v'.1 137 = v.1 137) (h8 : v'.1 138 = v.1 138) (h9 : v'.1 139 = v.1 139) (h0 : v'.1 140 = v.1 140)
    (hn : v'.1 126 6 = v.1 126 6) (hs : v'.1 126 7 = v.1 126 7) (l1 : v'.1 141 = v.1 141) (l2 : v'.1 126 18 = v.1 126 18)
    (fi1 : g'.1 0 16 = g.1 0 16) (fi2 : v'.1 126 4 = v.1 126 4)
    (o1 : v'.1 126 34 = v.1 126 34) (o2 : v'.1 126 37 = v.1 126 37) (o3 : v'.1 150 = v.1 150) (o4 : v'.1 151 = v.1 151) (i : Iv g v) : Iv g' v' := by
  obtain ⟨a, b, c, d, ⟨N, S, e, f⟩, k, l, m, n⟩ := i
  unfold Iv
  rw [x2, x3, x4, x5, m7, m8, m9, m0, xo, xo8, xo9, o1, o2, o3, o4, fi1, fi2]
  exact ⟨a, b, c, d, ⟨N, S, IL_c xl h2 h3 h4 h5 h6 h7 h8 h9 h0 hn hs e, IH_c x33 xh l1 l2 f⟩, it, l, m,
    IS_c xs xt ⟨dn_c m7 m8 m9 h4 h5 h6 hs, m7, m8, h2, h3, h7, h8, h9, h0, hn, hs⟩ n⟩
theorem E_wipe {h : sd_H} (i : Iv h h) : EE (XT_wipe h) (fun g => YM_wipe g) := by
  obtain ⟨n, hn, e1, e2, e3⟩ := i.2.2.2.2.2.1
  refine EE_i (h1 := wI h 0 15 0) (r := nI n) (h2 := wI (wI h 0 15 0) 126 20 0) ?_ ?_ (Iv_t ⟨0, by omega, ?_, ?_, fun j hj => absurd hj (Nat.not_lt_zero _)⟩ ?_ ?_ ?_ ?_ ?_ ?_ ?_ ?_ ?_ ?_ ?_ ?_ ?_ ?_ ?_ ?_ ?_ ?_ ?_ ?_ ?_ ?_ ?_ ?_ ?_ ?_ ?_ ?_ ?_ ?_ ?_ ?_ ?_ ?_ ?_ i)
  · unfold XT_wipe
    rw [hb_s, e1]
  · unfold YM_wipe
    rw [hb_s, show (wI h 0 15 0).1 126 20 = h.1 126 20 by simp (disch := omega) only [wI_d, wD_i, fI_d, fD_i, wI_eq, wD_eq, wI_ne, wD_ne, fI_ne, fD_ne, wI_ns, wD_ns, fI_eq, fD_eq, fI_ns, fD_ns], e2]
  · simp (disch := omega) only [wI_d, wD_i, fI_d, fD_i, wI_eq, wD_eq, wI_ne, wD_ne, fI_ne, fD_ne, wI_ns, wD_ns, fI_eq, fD_eq, fI_ns, fD_ns]
    rfl
  · simp (disch := omega) only [wI_d, wD_i, fI_d, fD_i, wI_eq, wD_eq, wI_ne, wD_ne, fI_ne, fD_ne, wI_ns, wD_ns, fI_eq, fD_eq, fI_ns, fD_ns]
    rfl
  all_goals first | (simp (disch := omega) only [wI_d, wD_i, fI_d, fD_i, wI_eq, wD_eq, wI_ne, wD_ne, fI_ne, fD_ne, wI_ns, wD_ns, fI_eq, fD_eq, fI_ns, fD_ns]; done) | (intro c h1 h2; simp (disch := omega) only [wI_d, wD_i, fI_d, fD_i, wI_eq, wD_eq, wI_ne, wD_ne, fI_ne, fD_ne, wI_ns, wD_ns, fI_eq, fD_eq, fI_ns, fD_ns]; done) | (intro c h1; simp (disch := omega) only [wI_d, wD_i, fI_d, fD_i, wI_eq, wD_eq, wI_ne, wD_ne, fI_ne, fD_ne, wI_ns, wD_ns, fI_eq, fD_eq, fI_ns, fD_ns]; done)
theorem E_type {h : sd_H} (i : Iv h h) (a : Int32) : EE (XT_type h a) (fun g => YM_type g a) := by
  unfold XT_type YM_type
  simp only [XT_within_e, YM_in_e, b1_s]
  rcases wn_01 a 0 255 with hz | h1
  · rw [hz]
    exact EE_i (if_pos rfl) (if_pos rfl) i
  rw [h1]
  simp only [if_neg z10.mp]
  obtain ⟨n, hn, e1, e2, e3⟩ := i.2.2.2.2.2.1
  by_cases h5 : n = 5
  · subst h5
    refine EE_i (h1 := h) (r := -4) (h2 := h) ?_ ?_ i
    · rw [e1, if_neg (by decide)]
    · rw [e2, if_pos (show nI 5 = 5 from rfl)]
  · refine EE_i (h1 := wI (wI h 0 15 (nI (n + 1))) 55 n a) (r := nI (n + 1)) (h2 := wI (wI (wI (wI h 0 15 (nI (n + 1))) 55 n a) 142 n a) 126 20 (nI (n + 1))) ?_ ?_ (Iv_t ⟨n + 1, by omega, ?_, ?_, fun j hj => ?_⟩ ?_ ?_ ?_ ?_ ?_ ?_ ?_ ?_ ?_ ?_ ?_ ?_ ?_ ?_ ?_ ?_ ?_ ?_ ?_ ?_ ?_ ?_ ?_ ?_ ?_ ?_ ?_ ?_ ?_ ?_ ?_ ?_ ?_ ?_ ?_ i)
    · rw [e1, if_pos (show nI n < 5 from (nI_ltI (a := n) (b := 5) (by omega) (by omega)).mpr (by omega))]
      simp (disch := omega) only [hb_s, gd_t, inB_n, nI_clamp, nI_1, wI_ne, wI_eq]
    · simp (disch := omega) only [hb_s, gd_t, inB_n, nI_clamp, nI_1, wI_ne, wI_eq, e2]
      rw [if_neg (show ¬ nI n = 5 from fun q => h5 ((nI_eq (a := n) (b := 5) (by omega) (by omega)).mp q))]
    · simp (disch := omega) only [wI_d, wD_i, fI_d, fD_i, wI_eq, wD_eq, wI_ne, wD_ne, fI_ne, fD_ne, wI_ns, wD_ns, fI_eq, fD_eq, fI_ns, fD_ns]
    · simp (disch := omega) only [wI_d, wD_i, fI_d, fD_i, wI_eq, wD_eq, wI_ne, wD_ne, fI_ne, fD_ne, wI_ns, wD_ns, fI_eq, fD_eq, fI_ns, fD_ns]
    · by_cases e : j = n
      · subst e
        simp (disch := omega) only [wI_d, wD_i, fI_d, fD_i, wI_eq, wD_eq, wI_ne, wD_ne, fI_ne, fD_ne, wI_ns, wD_ns, fI_eq, fD_eq, fI_ns, fD_ns]
      · simp (disch := omega) only [wI_d, wD_i, fI_d, fD_i, wI_eq, wD_eq, wI_ne, wD_ne, fI_ne, fD_ne, wI_ns, wD_ns, fI_eq, fD_eq, fI_ns, fD_ns]
        exact e3 j (by omega)
    all_goals first | (simp (disch := omega) only [wI_d, wD_i, fI_d, fD_i, wI_eq, wD_eq, wI_ne, wD_ne, fI_ne, fD_ne, wI_ns, wD_ns, fI_eq, fD_eq, fI_ns, fD_ns]; done) | (intro c h1 h2; simp (disch := omega) only [wI_d, wD_i, fI_d, fD_i, wI_eq, wD_eq, wI_ne, wD_ne, fI_ne, fD_ne, wI_ns, wD_ns, fI_eq, fD_eq, fI_ns, fD_ns]; done) | (intro c h1; simp (disch := omega) only [wI_d, wD_i, fI_d, fD_i, wI_eq, wD_eq, wI_ne, wD_ne, fI_ne, fD_ne, wI_ns, wD_ns, fI_eq, fD_eq, fI_ns, fD_ns]; done)
/-- so many of the text's bytes, from l on, are those of name j -/
def ck (t : Nat → Int32) (j : Nat) : Nat → Nat → Bool
  | _, 0 => true
  | l, m + 1 => decide (schr j (nI l) = t l) && ck t j (l + 1) m
/-- the text is name j -/
def mt (t : Nat → Int32) (n j : Nat) : Bool := decide (sd_len.getD j 0 = n) && ck t j 0 n
theorem ck_c {t u : Nat → Int32} {j n : Nat} (h : ∀ i, i < n → t i = u i) : ∀ m l, l + m ≤ n → ck t j l m = ck u j l m
  | 0, _, _ => rfl
  | m + 1, l, e => by
    unfold ck
    rw [h l (by omega), ck_c h m (l + 1) (by omega)]
theorem ck_ok {t : Nat → Int32} {j : Nat} : ∀ m l, ck t j l m = true → ∀ i, l ≤ i → i < l + m → schr j (nI i) = t i
  | 0, _, _, i, h1, h2 => absurd h2 (by omega)
  | m + 1, l, e, i, h1, h2 => by
    unfold ck at e
    rw [Bool.and_eq_true, decide_eq_true_eq] at e
    by_cases q : i = l
    · rw [q]
      exact e.1
    · exact ck_ok m (l + 1) e.2 i (by omega) (by omega)
theorem mt_u0 : ∀ a, a < 13 → ∀ b, b < 13 → sd_len.getD a 0 = sd_len.getD b 0 → ((List.range (sd_len.getD a 0)).all fun i => decide (schr a (nI i) = schr b (nI i))) = true → a = b := by decide +kernel
theorem mt_u {t : Nat → Int32} {n a b : Nat} (ha : a < 13) (hb : b < 13) (h1 : mt t n a = true) (h2 : mt t n b = true) : a = b := by
  unfold mt at h1 h2
  rw [Bool.and_eq_true, decide_eq_true_eq] at h1 h2
  refine mt_u0 a ha b hb (h1.1.trans h2.1.symm) (List.all_eq_true.mpr fun i hi => decide_eq_true ?_)
  have hi := List.mem_range.mp hi
  rw [h1.1] at hi
  rw [ck_ok n 0 h1.2 i (by omega) (by omega), ck_ok n 0 h2.2 i (by omega) (by omega)]
theorem XT_isTyped_L15_e {h : sd_H} {n j : Nat} (hn : n ≤ 5) (e1 : h.1 0 15 = nI n) (hj : j < 13) (hl : sd_len.getD j 0 = n) : ∀ m f l, l + m = n → m < f → XT_isTyped_L15 h f j (nI l) = some (bi (ck (h.1 55) j l m))
  | _, 0, _, _, q => absurd q (Nat.not_lt_zero _)
  | 0, f + 1, l, e, _ => by
    unfold XT_isTyped_L15
    rw [e1, if_pos (nI_le (by omega) (by omega))]
    rfl
  | m + 1, f + 1, l, e, q => by
    unfold XT_isTyped_L15 ck
    rw [e1, if_neg (nI_ge (by omega) (by omega)), gd_h (decide_eq_true hj), hl, inB_n (by omega) (by omega), gd_t, inB_n (by omega) (by omega), gd_t, nI_clamp (by omega), nI_1, XT_isTyped_L15_e hn e1 hj hl m f (l + 1) (by omega) (by omega)]
    by_cases c : schr j (nI l) = h.1 55 l
    · rw [if_pos c, decide_eq_true c, Bool.true_and]
    · rw [if_neg c, decide_eq_false c, Bool.false_and]
      rfl
theorem XT_isTyped_e {h : sd_H} {n j : Nat} (hn : n ≤ 5) (e1 : h.1 0 15 = nI n) (hj : j < 13) : XT_isTyped h j = some (bi (mt (h.1 55) n j)) := by
  unfold XT_isTyped mt
  have hl : sd_len.getD j 0 < 100 := by revert j; decide
  rw [gd_h (decide_eq_true hj), e1]
  by_cases c : sd_len.getD j 0 = n
  · rw [if_pos (show slen j = nI n from congrArg nI c), decide_eq_true c, Bool.true_and]
    exact XT_isTyped_L15_e hn e1 hj c n FU 0 (by omega) (by rw [FU_s]; omega)
  · rw [if_neg (show ¬ slen j = nI n from fun q => c ((nI_eq (by omega) (by omega)).mp q)), decide_eq_false c, Bool.false_and]
    rfl
theorem XT_nameOf_e {j : Nat} (hj : j < 13) : XT_nameOf (nI j) = some j := by
  revert j
  decide
/-- the first name from l on, of m -/
def ft (t : Nat → Int32) (n : Nat) : Nat → Nat → Int32
  | _, 0 => -1
  | l, m + 1 => if mt t n l = true then nI l else ft t n (l + 1) m
theorem XT_operationTyped_L2_e {h : sd_H} {n : Nat} (hn : n ≤ 5) (e1 : h.1 0 15 = nI n) : ∀ m f l, l + m = 13 → m < f → XT_operationTyped_L2 h f (nI l) = some (ft (h.1 55) n l m)
  | _, 0, _, _, q => absurd q (Nat.not_lt_zero _)
  | 0, f + 1, l, e, _ => by
    obtain rfl : l = 13 := by omega
    unfold XT_operationTyped_L2
    rw [if_pos (by decide)]
    rfl
  | m + 1, f + 1, l, e, q => by
    unfold XT_operationTyped_L2 ft
    rw [if_neg (show ¬ (13 : Int32) ≤ nI l from nI_ge (b := 13) (by omega) (by omega)), XT_nameOf_e (by omega), b1_s, XT_isTyped_e hn e1 (by omega), b1_s, nI_1, XT_operationTyped_L2_e hn e1 m f (l + 1) (by omega) (by omega)]
    cases mt (h.1 55) n l <;> rfl
theorem ft_c {t : Nat → Int32} {n : Nat} : ∀ m l, l + m = 13 → (ft t n l m = -1 ∧ ∀ j, l ≤ j → j < 13 → mt t n j = false) ∨ ∃ j, l ≤ j ∧ j < 13 ∧ ft t n l m = nI j ∧ mt t n j = true
  | 0, l, e => Or.inl ⟨rfl, fun j h1 h2 => absurd h1 (by omega)⟩
  | m + 1, l, e => by
    unfold ft
    by_cases c : mt t n l = true
    · exact Or.inr ⟨l, by omega, by omega, by rw [if_pos c], c⟩
    · rw [if_neg c]
      rcases ft_c (t := t) (n := n) m (l + 1) (by omega) with ⟨a, b⟩ | ⟨j, a, b, d⟩
      · refine Or.inl ⟨a, fun j h1 h2 => ?_⟩
        by_cases q : j = l
        · rw [q]
          exact Bool.eq_false_iff.mpr c
        · exact b j (by omega) h2
      · exact Or.inr ⟨j, by omega, b, d⟩
