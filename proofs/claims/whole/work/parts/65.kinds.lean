/-! ===== kinds ===== -/
theorem itp {α : Type} {p q : Prop} [dp : Decidable p] [dq : Decidable q] (h : p = q) {a b : α} : (if p then a else b) = (if q then a else b) := by
  subst h
  rw [Subsingleton.elim dp dq]
/-- kind j is (a, b, c) -/
def km (T : Nat → Nat → Int32) (a b c : Int32) (j : Nat) : Bool := decide (T j 0 = a) && (decide (T j 1 = b) && decide (T j 2 = c))
theorem km_iff {T : Nat → Nat → Int32} {a b c : Int32} {j : Nat} : (km T a b c j = true) = (T j 0 = a ∧ T j 1 = b ∧ T j 2 = c) := by
  unfold km
  rw [Bool.and_eq_true, Bool.and_eq_true, decide_eq_true_eq, decide_eq_true_eq, decide_eq_true_eq]
/-- the first kind from l on, of m, that is (a, b, c) -/
def kf (T : Nat → Nat → Int32) (a b c : Int32) : Nat → Nat → Nat
  | l, 0 => l
  | l, m + 1 => if km T a b c l = true then l else kf T a b c (l + 1) m
theorem kf_c {T : Nat → Nat → Int32} {a b c : Int32} : ∀ m l, (kf T a b c l m = l + m ∧ ∀ j, l ≤ j → j < l + m → km T a b c j = false) ∨ (l ≤ kf T a b c l m ∧ kf T a b c l m < l + m ∧ km T a b c (kf T a b c l m) = true)
  | 0, l => Or.inl ⟨rfl, fun j h1 h2 => absurd h2 (by omega)⟩
  | m + 1, l => by
    unfold kf
    by_cases q : km T a b c l = true
    · rw [if_pos q]
      exact Or.inr ⟨by omega, by omega, q⟩
    · rw [if_neg q]
      rcases kf_c (T := T) (a := a) (b := b) (c := c) m (l + 1) with ⟨h1, h2⟩ | ⟨h1, h2, h3⟩
      · refine Or.inl ⟨by omega, fun j j1 j2 => ?_⟩
        by_cases e : j = l
        · rw [e]
          exact Bool.eq_false_iff.mpr q
        · exact h2 j (by omega) (by omega)
      · exact Or.inr ⟨by omega, by omega, h3⟩
/-- the kinds are unlike -/
def kd (n : Nat) (T : Nat → Nat → Int32) : Prop := ∀ i j, i < n → j < n → T i 0 = T j 0 → T i 1 = T j 1 → T i 2 = T j 2 → i = j
/-- (a, b, c) comes once more -/
def ka (s : Nat × (Nat → Nat → Int32)) (a b c : Int32) : Nat × (Nat → Nat → Int32) :=
  if kf s.2 a b c 0 s.1 < s.1 then (s.1, fun q k => if q = kf s.2 a b c 0 s.1 ∧ k = 3 then s.2 q k + 1 else s.2 q k)
  else (s.1 + 1, fun q k => if q = s.1 then (if k = 0 then a else if k = 1 then b else if k = 2 then c else 0 + 1) else s.2 q k)
theorem ka_d {s : Nat × (Nat → Nat → Int32)} {a b c : Int32} (d : kd s.1 s.2) : kd (ka s a b c).1 (ka s a b c).2 := by
  unfold ka
  have hc := kf_c (T := s.2) (a := a) (b := b) (c := c) s.1 0
  by_cases q : kf s.2 a b c 0 s.1 < s.1
  · rw [if_pos q]
    intro i j hi hj h0 h1 h2
    dsimp only at hi hj h0 h1 h2
    rw [if_neg (by omega), if_neg (by omega)] at h0 h1 h2
    exact d i j hi hj h0 h1 h2
  · rw [if_neg q]
    have hn : ∀ j, j < s.1 → km s.2 a b c j = false := by
      rcases hc with ⟨h1, h2⟩ | ⟨h1, h2, h3⟩
      · exact fun j hj => h2 j (by omega) (by omega)
      · exact absurd (by omega) q
    have hf : ∀ j, j < s.1 → ¬ (s.2 j 0 = a ∧ s.2 j 1 = b ∧ s.2 j 2 = c) := fun j hj z => by
      rw [← km_iff, hn j hj] at z
      exact absurd z (by decide)
    intro i j hi hj h0 h1 h2
    dsimp only at hi hj h0 h1 h2
    by_cases ei : i = s.1
    · by_cases ej : j = s.1
      · rw [ei, ej]
      · rw [if_pos ei, if_neg ej] at h0 h1 h2
        exact absurd ⟨h0.symm, h1.symm, h2.symm⟩ (hf j (by omega))
    · by_cases ej : j = s.1
      · rw [if_neg ei, if_pos ej] at h0 h1 h2
        exact absurd ⟨h0, h1, h2⟩ (hf i (by omega))
      · rw [if_neg ei, if_neg ej] at h0 h1 h2
        exact d i j (by omega) (by omega) h0 h1 h2
theorem ka_n {s : Nat × (Nat → Nat → Int32)} {a b c : Int32} : (ka s a b c).1 ≤ s.1 + 1 := by
  unfold ka
  split
  · exact Nat.le_succ _
  · exact Nat.le_refl _
/-- x's kinds -/
def KX (g h : sd_H) (s : Nat × (Nat → Nat → Int32)) : Prop := (∀ c, (c < 63 ∨ 96 < c) → g.1 c = h.1 c) ∧ g.2 = h.2 ∧ g.1 63 3 = nI s.1 ∧
  ∀ j, j < s.1 → g.1 (67 + j) 0 = s.2 j 0 ∧ g.1 (67 + j) 1 = s.2 j 1 ∧ g.1 (67 + j) 2 = s.2 j 2 ∧ g.1 65 j = s.2 j 3
/-- the model's kinds -/
def KM (g h : sd_H) (s : Nat × (Nat → Nat → Int32)) : Prop := (∀ c, ¬ c = 126 → ¬ c = 143 → g.1 c = h.1 c) ∧ (∀ k, ¬ k = 22 → g.1 126 k = h.1 126 k) ∧ g.2 = h.2 ∧ g.1 126 22 = nI s.1 ∧
  ∀ j, j < s.1 → g.1 143 (4 * j) = s.2 j 0 ∧ g.1 143 (4 * j + 1) = s.2 j 1 ∧ g.1 143 (4 * j + 2) = s.2 j 2 ∧ g.1 143 (4 * j + 3) = s.2 j 3
theorem XK_addFrom_L44_e {g : sd_H} {n : Nat} {T : Nat → Nat → Int32} {a b c : Int32} (hn : n ≤ 30) (e : g.1 63 3 = nI n) (a0 : g.1 66 0 = a) (a1 : g.1 66 1 = b) (a2 : g.1 66 2 = c)
    (t : ∀ j, j < n → g.1 (67 + j) 0 = T j 0 ∧ g.1 (67 + j) 1 = T j 1 ∧ g.1 (67 + j) 2 = T j 2) : ∀ m f l, l + m = n → m < f → XK_addFrom_L44 f g (nI l) = XK_addFrom_B76 g (nI (kf T a b c l m))
  | _, 0, _, _, q => absurd q (Nat.not_lt_zero _)
  | 0, f + 1, l, e', _ => by
    unfold XK_addFrom_L44
    rw [e, if_pos (nI_le (by omega) (by omega))]
    rfl
  | m + 1, f + 1, l, e', q => by
    obtain ⟨t0, t1, t2⟩ := t l (by omega)
    unfold XK_addFrom_L44 XS_liesAs kf km
    rw [e, if_neg (nI_ge (by omega) (by omega)), inB_n (by omega) (by omega), gd_t, nI_clamp (by omega), Nat.one_mul, t0, t1, t2, a0, a1, a2, nI_1]
    have r := XK_addFrom_L44_e hn e a0 a1 a2 t m f (l + 1) (by omega) (by omega)
    by_cases c0 : T l 0 = a
    · rw [if_pos c0, decide_eq_true c0]
      by_cases c1 : T l 1 = b
      · rw [if_pos c1, decide_eq_true c1]
        by_cases c2 : T l 2 = c
        · rw [if_pos c2, decide_eq_true c2]
          rfl
        · rw [if_neg c2, decide_eq_false c2]
          exact r
      · rw [if_neg c1, decide_eq_false c1]
        exact r
    · rw [if_neg c0, decide_eq_false c0]
      exact r
theorem XK_add {g h : sd_H} {s : Nat × (Nat → Nat → Int32)} {a b c : Int32} (hn : s.1 < 30) (k : KX g h s) (a0 : g.1 66 0 = a) (a1 : g.1 66 1 = b) (a2 : g.1 66 2 = c) :
    ∃ g', XK_addFrom_L44 FU g 0 = some g' ∧ KX g' h (ka s a b c) := by
  obtain ⟨k1, k2, k3, k4⟩ := k
  have L := XK_addFrom_L44_e (T := s.2) (by omega) k3 a0 a1 a2 (fun j hj => ⟨(k4 j hj).1, (k4 j hj).2.1, (k4 j hj).2.2.1⟩) s.1 FU 0 (by omega) (by rw [FU_s]; omega)
  rw [nI_0] at L
  rw [L]
  have hc := kf_c (T := s.2) (a := a) (b := b) (c := c) s.1 0
  unfold XK_addFrom_B76 XK_addFrom_B117 XS_take ka
  obtain ⟨j, ej⟩ : ∃ j, kf s.2 a b c 0 s.1 = j := ⟨_, rfl⟩
  rw [ej] at hc ⊢
  rcases hc with ⟨h1, h2⟩ | ⟨h1, h2, h3⟩
  · obtain rfl : j = s.1 := by omega
    rw [k3, if_pos rfl, if_neg (by omega)]
    simp (disch := omega) only [inB_n, gd_t, nI_clamp, hb_s, b1_s, Nat.one_mul, a0, a1, a2]
    refine ⟨_, rfl, ?_⟩
    refine ⟨fun c hc => ?_, ?_, ?_, fun q hq => ?_⟩
    · simp (disch := omega) only [wI_d, wD_i, fI_d, fD_i, wI_eq, wD_eq, wI_ne, wD_ne, fI_ne, fD_ne, wI_ns, wD_ns, fI_eq, fD_eq, fI_ns, fD_ns]
      exact k1 c hc
    · exact k2
    · simp (disch := omega) only [wI_d, wD_i, fI_d, fD_i, wI_eq, wD_eq, wI_ne, wD_ne, fI_ne, fD_ne, wI_ns, wD_ns, fI_eq, fD_eq, fI_ns, fD_ns]
      rw [k3, nI_1]
    · dsimp only at hq ⊢
      by_cases e : q = s.1
      · subst e
        simp (disch := omega) only [wI_d, wD_i, fI_d, fD_i, wI_eq, wD_eq, wI_ne, wD_ne, fI_ne, fD_ne, wI_ns, wD_ns, fI_eq, fD_eq, fI_ns, fD_ns, a0, a1, a2]
        simp
      · obtain ⟨q0, q1, q2, q3⟩ := k4 q (by omega)
        simp only [if_neg e]
        simp (disch := omega) only [wI_d, wD_i, fI_d, fD_i, wI_eq, wD_eq, wI_ne, wD_ne, fI_ne, fD_ne, wI_ns, wD_ns, fI_eq, fD_eq, fI_ns, fD_ns]
        exact ⟨q0, q1, q2, q3⟩
  · have hj : j < s.1 := by omega
    rw [k3, if_neg (fun z => by have := (nI_eq (by omega) (by omega)).mp z; omega), if_pos hj]
    simp (disch := omega) only [inB_n, gd_t, nI_clamp, hb_s, b1_s]
    refine ⟨_, rfl, ?_⟩
    refine ⟨fun c hc => ?_, ?_, ?_, fun q hq => ?_⟩
    · simp (disch := omega) only [wI_d, wD_i, fI_d, fD_i, wI_eq, wD_eq, wI_ne, wD_ne, fI_ne, fD_ne, wI_ns, wD_ns, fI_eq, fD_eq, fI_ns, fD_ns]
      exact k1 c hc
    · exact k2
    · simp (disch := omega) only [wI_d, wD_i, fI_d, fD_i, wI_eq, wD_eq, wI_ne, wD_ne, fI_ne, fD_ne, wI_ns, wD_ns, fI_eq, fD_eq, fI_ns, fD_ns]
      exact k3
    · dsimp only at hq ⊢
      obtain ⟨q0, q1, q2, q3⟩ := k4 q hq
      by_cases e : q = j
      · subst e
        simp (disch := omega) only [wI_d, wD_i, fI_d, fD_i, wI_eq, wD_eq, wI_ne, wD_ne, fI_ne, fD_ne, wI_ns, wD_ns, fI_eq, fD_eq, fI_ns, fD_ns]
        simp
        exact ⟨q0, q1, q2, q3⟩
      · rw [if_neg (fun z => e z.1)]
        simp (disch := omega) only [wI_d, wD_i, fI_d, fD_i, wI_eq, wD_eq, wI_ne, wD_ne, fI_ne, fD_ne, wI_ns, wD_ns, fI_eq, fD_eq, fI_ns, fD_ns]
        simp [e]
        exact ⟨q0, q1, q2, q3⟩
