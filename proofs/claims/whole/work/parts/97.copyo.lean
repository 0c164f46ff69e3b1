/-! ===== the copies of the turns come out ===== -/
/-- the last of k from t on -/
def laf (b : Nat → Bool) : Nat → Nat → Option Nat
  | _, 0 => none
  | t, k + 1 => match laf b (t + 1) k with | some x => some x | none => if b t = true then some t else none
def oz (o : Option Nat) (d : Int32) : Int32 := match o with | none => d | some t => nI t
def od (o : Option Nat) (d : UInt64) (f : Nat → UInt64) : UInt64 := match o with | none => d | some t => f t
theorem laf_s (b : Nat → Bool) : ∀ k t x, laf b t k = some x → t ≤ x ∧ x < t + k ∧ b x = true
  | 0, _, _, h => by cases h
  | k + 1, t, x, h => by
    have e : laf b t (k + 1) = match laf b (t + 1) k with | some x => some x | none => if b t = true then some t else none := rfl
    rw [e] at h
    cases y : laf b (t + 1) k with
    | some x' =>
      rw [y] at h
      have := Option.some.inj h
      subst this
      obtain ⟨h1, h2, h3⟩ := laf_s b k (t + 1) x' y
      exact ⟨by omega, by omega, h3⟩
    | none =>
      rw [y] at h
      by_cases c : b t = true
      · have h' : (if b t = true then some t else none) = some x := h
        rw [if_pos c] at h'
        have := Option.some.inj h'
        subst this
        exact ⟨Nat.le_refl _, by omega, c⟩
      · have h' : (if b t = true then some t else none) = some x := h
        rw [if_neg c] at h'
        cases h'
theorem laf_n (b : Nat → Bool) (h : ∀ t, b t = false) : ∀ k t, laf b t k = none
  | 0, _ => rfl
  | k + 1, t => by
    have e : laf b t (k + 1) = match laf b (t + 1) k with | some x => some x | none => if b t = true then some t else none := rfl
    rw [e, laf_n b h k (t + 1), h t]
    rfl
theorem laf_z (b : Nat → Bool) (t k : Nat) (d : Int32) : oz (laf b (t + 1) k) (if b t = true then nI t else d) = oz (laf b t (k + 1)) d := by
  have e : laf b t (k + 1) = match laf b (t + 1) k with | some x => some x | none => if b t = true then some t else none := rfl
  rw [e]
  cases laf b (t + 1) k with
  | some x => rfl
  | none =>
    show (if b t = true then nI t else d) = oz (if b t = true then some t else none) d
    by_cases c : b t = true
    · rw [if_pos c, if_pos c]
      rfl
    · rw [if_neg c, if_neg c]
      rfl
theorem laf_d (b : Nat → Bool) (f : Nat → UInt64) (t k : Nat) (d : UInt64) : od (laf b (t + 1) k) (if b t = true then f t else d) f = od (laf b t (k + 1)) d f := by
  have e : laf b t (k + 1) = match laf b (t + 1) k with | some x => some x | none => if b t = true then some t else none := rfl
  rw [e]
  cases laf b (t + 1) k with
  | some x => rfl
  | none =>
    show (if b t = true then f t else d) = od (if b t = true then some t else none) d f
    by_cases c : b t = true
    · rw [if_pos c, if_pos c]
      rfl
    · rw [if_neg c, if_neg c]
      rfl
/-- x's rows with a turn's copies in them -/
def CR (P t : Nat) (C : Nat → Prop) [DecidablePred C] (h' h : sd_H) : Prop :=
  (∀ c, ¬ c = P + 4 → h'.1 c = h.1 c) ∧ (∀ c, ¬ c = P + 3 → h'.2.1 c = h.2.1 c) ∧ h'.2.2 = h.2.2 ∧
  (∀ a, h'.1 (P + 4) a = if C a then nI t else h.1 (P + 4) a) ∧ ∀ a, h'.2.1 (P + 3) a = if C a then h.2.1 102 (144 * t + a) else h.2.1 (P + 3) a
theorem sm32' : ∀ i, i < 25 → ((nI i &&& 31).toBitVec.smod 32).toNat = i := by decide +kernel
theorem copyRow_L_e {P t r m : Nat} (hP : P = 1 ∨ P = 110 ∨ P = 115) (ht : t < 10) (hr : r < 6) (hm : m < 2 ^ 24) : ∀ k fu i h, i + k = 24 → k < fu → h.2.2 0 = some P →
    ∃ h', XU_copyOutRow_L15 fu h (nI t) (nI r) (nI m) (nI i) = some h' ∧ CR P t (fun a => 24 * r + i ≤ a ∧ a < 24 * r + 24 ∧ m.testBit (a - 24 * r) = true) h' h
  | _, 0, _, _, _, q, _ => absurd q (Nat.not_lt_zero _)
  | k, fu + 1, i, h, e, q, s2 => by
    unfold XU_copyOutRow_L15 XU_copyOutRow_B86
    rw [pk_shrN (show m < 2 ^ 31 by omega) _ i (sm32' i (by omega)), itp (n0eq (show m / 2 ^ i < 2 ^ 31 from Nat.lt_of_le_of_lt (Nat.div_le_self _ _) (by omega)))]
    by_cases c : m / 2 ^ i = 0
    · rw [if_pos c]
      have z : ∀ a, ¬ (24 * r + i ≤ a ∧ a < 24 * r + 24 ∧ m.testBit (a - 24 * r) = true) := fun a hc => by
        have hlt : m < 2 ^ i := by
          rcases Nat.lt_or_ge m (2 ^ i) with h | h
          · exact h
          · have := Nat.div_pos h (Nat.two_pow_pos i)
            omega
        have : m.testBit (a - 24 * r) = false := Nat.testBit_lt_two_pow (Nat.lt_of_lt_of_le hlt (Nat.pow_le_pow_right (by decide) (by omega)))
        rw [this] at hc
        exact absurd hc.2.2 (by decide)
      exact ⟨h, rfl, fun _ _ => rfl, fun _ _ => rfl, rfl, fun a => by rw [if_neg (z a)], fun a => by rw [if_neg (z a)]⟩
    · rw [if_neg c]
      cases k with
      | zero =>
        have : i = 24 := by omega
        subst this
        exact absurd (Nat.div_eq_of_lt hm) c
      | succ k =>
        have b := bit_e (m := m) (i := i) (by omega) (by omega)
        rw [pk_shrN (show m < 2 ^ 31 by omega) _ i (sm32' i (by omega))] at b
        rw [lit 24, if_neg (show ¬ nI 24 ≤ nI i from nI_ge (by omega) (by omega)), b, itp (bi_0 _), nI_1]
        by_cases tb : m.testBit i = true
        · have pq : ¬ P + 4 = P + 3 := by omega
          have n102 : ¬ (102 : Nat) = P + 3 := by omega
          have s2' : (wI (wD h (P + 3) (24 * r + i) (h.2.1 102 (144 * t + (24 * r + i)))) (P + 4) (24 * r + i) (nI t)).2.2 0 = some P := s2
          obtain ⟨h', X, f1, f2, f3, f4, f5⟩ := copyRow_L_e hP ht hr hm k fu (i + 1) (wI (wD h (P + 3) (24 * r + i) (h.2.1 102 (144 * t + (24 * r + i)))) (P + 4) (24 * r + i) (nI t)) (by omega) (by omega) s2'
          have e1 : (nI t * 6 + nI r) * nI 24 + nI i = nI (144 * t + (24 * r + i)) := by
            rw [lit 6, pk_mul, nI_add, pk_mul, nI_add]
            exact congrArg nI (by omega)
          have e2 : nI r * nI 24 + nI i = nI (24 * r + i) := by
            rw [pk_mul, nI_add]
            exact congrArg nI (by omega)
          refine ⟨h', ?_, fun c hc => ?_, fun c hc => ?_, f3, fun a => ?_, fun a => ?_⟩
          · rw [if_neg (by rw [tb]; decide), op_e s2 (P_sh hP), e1, e2, inB_n (show 144 * t + (24 * r + i) < 1440 by omega) (by omega), gd_t, inB_n (show 24 * r + i < 144 by omega) (by omega), gd_t, hb_s, nI_clamp (by omega), nI_clamp (by omega), op_e (c := P) (show (wD h (P + 3) (24 * r + i) (h.2.1 102 (144 * t + (24 * r + i)))).2.2 0 = some P from s2) (P_sh hP), gd_t, hb_s]
            exact X
          · rw [f1 c hc, wI_ne hc]
            rfl
          · rw [f2 c hc]
            exact wD_ne hc
          · rw [f4]
            by_cases c1 : 24 * r + (i + 1) ≤ a ∧ a < 24 * r + 24 ∧ m.testBit (a - 24 * r) = true
            · rw [if_pos c1, if_pos ⟨by omega, c1.2⟩]
            · rw [if_neg c1]
              by_cases c2 : a = 24 * r + i
              · subst c2
                rw [wI_eq, if_pos ⟨Nat.le_refl _, by omega, by rw [Nat.add_sub_cancel_left]; exact tb⟩]
              · rw [wI_ns c2, if_neg (fun q => c1 ⟨by omega, q.2⟩)]
                rfl
          · rw [f5]
            show (if _ then (wD h (P + 3) (24 * r + i) (h.2.1 102 (144 * t + (24 * r + i)))).2.1 102 (144 * t + a) else (wD h (P + 3) (24 * r + i) (h.2.1 102 (144 * t + (24 * r + i)))).2.1 (P + 3) a) = _
            by_cases c1 : 24 * r + (i + 1) ≤ a ∧ a < 24 * r + 24 ∧ m.testBit (a - 24 * r) = true
            · rw [if_pos c1, if_pos ⟨by omega, c1.2⟩, wD_ne n102]
            · rw [if_neg c1]
              by_cases c2 : a = 24 * r + i
              · subst c2
                rw [wD_eq, if_pos ⟨Nat.le_refl _, by omega, by rw [Nat.add_sub_cancel_left]; exact tb⟩]
              · rw [wD_ns c2, if_neg (fun q => c1 ⟨by omega, q.2⟩)]
        · obtain ⟨h', X, f1, f2, f3, f4, f5⟩ := copyRow_L_e hP ht hr hm k fu (i + 1) h (by omega) (by omega) s2
          have cc : ∀ a, (24 * r + (i + 1) ≤ a ∧ a < 24 * r + 24 ∧ m.testBit (a - 24 * r) = true) = (24 * r + i ≤ a ∧ a < 24 * r + 24 ∧ m.testBit (a - 24 * r) = true) := fun a => propext ⟨fun q => ⟨by omega, q.2⟩, fun q => ⟨by
            rcases Nat.lt_or_ge (24 * r + i) a with h | h
            · omega
            · have : a = 24 * r + i := by omega
              subst this
              rw [Nat.add_sub_cancel_left] at q
              exact absurd q.2.2 tb, q.2⟩⟩
          refine ⟨h', ?_, f1, f2, f3, fun a => ?_, fun a => ?_⟩
          · rw [if_pos (Bool.eq_false_iff.mpr tb)]
            exact X
          · rw [f4, itp (cc a)]
          · rw [f5, itp (cc a)]
/-- all rows of a turn -/
theorem copyTurn_e {P t : Nat} {B : Nat → Bool} {K2 : sd_H → Int32 → Option sd_H} (hP : P = 1 ∨ P = 110 ∨ P = 115) (ht : t < 10) : ∀ k fu r h, r + k = 6 → k < fu → h.2.2 0 = some P → (∀ r, r < 6 → ∃ m, m < 2 ^ 24 ∧ h.1 103 (t * 6 + r) = nI m ∧ ∀ i, i < 24 → B (24 * r + i) = m.testBit i) →
    ∃ h', XU_copyOut_L15 K2 fu h (nI t) (nI r) = K2 h' (nI (t + 1)) ∧ CR P t (fun a => 24 * r ≤ a ∧ a < 144 ∧ B a = true) h' h
  | _, 0, _, _, _, q, _, _ => absurd q (Nat.not_lt_zero _)
  | 0, fu + 1, r, h, e, _, _, _ => by
    refine ⟨h, ?_, fun _ _ => rfl, fun _ _ => rfl, rfl, fun a => by rw [if_neg (by omega)], fun a => by rw [if_neg (by omega)]⟩
    unfold XU_copyOut_L15
    rw [lit 6, if_pos (nI_le (by omega) (by omega)), nI_1]
  | k + 1, fu + 1, r, h, e, q, s2, hw => by
    obtain ⟨m, hm, em, hb⟩ := hw r (by omega)
    obtain ⟨h1, X1, f1, f2, f3, f4, f5⟩ := copyRow_L_e (m := m) (r := r) hP ht (by omega) hm 24 FU 0 h (by omega) (by rw [FU_s]; omega) s2
    have n102 : ¬ (102 : Nat) = P + 3 := by omega
    obtain ⟨h', X, e1, e2, e3, e4, e5⟩ := copyTurn_e (K2 := K2) (B := B) hP ht k fu (r + 1) h1 (by omega) (by omega) (by rw [f3]; exact s2) (fun r' hr' => by rw [f1 103 (by omega)]; exact hw r' hr')
    have B1 : ∀ a, 24 * r ≤ a → a < 24 * r + 24 → B a = m.testBit (a - 24 * r) := fun a h1 h2 => by
      have := hb (a - 24 * r) (by omega)
      rw [show 24 * r + (a - 24 * r) = a by omega] at this
      exact this
    have cc : ∀ a, (24 * r + 0 ≤ a ∧ a < 24 * r + 24 ∧ m.testBit (a - 24 * r) = true) = (24 * r ≤ a ∧ a < 24 * r + 24 ∧ B a = true) := fun a => propext ⟨fun q => ⟨by omega, q.2.1, by rw [B1 a (by omega) q.2.1]; exact q.2.2⟩, fun q => ⟨by omega, q.2.1, by rw [← B1 a q.1 q.2.1]; exact q.2.2⟩⟩
    refine ⟨h', ?_, fun c hc => (e1 c hc).trans (f1 c hc), fun c hc => (e2 c hc).trans (f2 c hc), e3.trans f3, fun a => ?_, fun a => ?_⟩
    · unfold XU_copyOut_L15 XU_copyOutRow
      rw [lit 6, if_neg (show ¬ nI 6 ≤ nI r from nI_ge (by omega) (by omega)), pk_mul, nI_add, inB_n (show t * 6 + r < 60 by omega) (by omega), gd_t, nI_clamp (by omega), em, ← nI_0, X1, b1_s, nI_1]
      exact X
    · rw [e4, f4, itp (cc a)]
      by_cases c1 : 24 * (r + 1) ≤ a ∧ a < 144 ∧ B a = true
      · rw [if_pos c1, if_pos ⟨by omega, c1.2⟩]
      · rw [if_neg c1]
        by_cases c2 : 24 * r ≤ a ∧ a < 24 * r + 24 ∧ B a = true
        · rw [if_pos c2, if_pos ⟨c2.1, by omega, c2.2.2⟩]
        · rw [if_neg c2, if_neg (fun q => by
            rcases Nat.lt_or_ge a (24 * r + 24) with h | h
            · exact c2 ⟨q.1, h, q.2.2⟩
            · exact c1 ⟨by omega, q.2⟩)]
    · rw [e5, f5, itp (cc a), f2 102 n102]
      by_cases c1 : 24 * (r + 1) ≤ a ∧ a < 144 ∧ B a = true
      · rw [if_pos c1, if_pos ⟨by omega, c1.2⟩]
      · rw [if_neg c1]
        by_cases c2 : 24 * r ≤ a ∧ a < 24 * r + 24 ∧ B a = true
        · rw [if_pos c2, if_pos ⟨c2.1, by omega, c2.2.2⟩]
        · rw [if_neg c2, if_neg (fun q => by
            rcases Nat.lt_or_ge a (24 * r + 24) with h | h
            · exact c2 ⟨q.1, h, q.2.2⟩
            · exact c1 ⟨by omega, q.2⟩)]
theorem copyOut_L_e {P N : Nat} {B : Nat → Nat → Bool} (hP : P = 1 ∨ P = 110 ∨ P = 115) (hN : N ≤ 10) : ∀ k fu t h, t + k = N → k < fu → h.2.2 0 = some P → h.1 6 1 = nI N → (∀ t r, t < 10 → r < 6 → ∃ m, m < 2 ^ 24 ∧ h.1 103 (t * 6 + r) = nI m ∧ ∀ i, i < 24 → B t (24 * r + i) = m.testBit i) →
    ∃ h', XU_copyOut_L2 fu h (nI t) = some h' ∧ (∀ c, ¬ c = P + 4 → h'.1 c = h.1 c) ∧ (∀ c, ¬ c = P + 3 → h'.2.1 c = h.2.1 c) ∧ h'.2.2 = h.2.2 ∧
      ∀ a, a < 144 → h'.1 (P + 4) a = oz (laf (fun t => B t a) t k) (h.1 (P + 4) a) ∧ h'.2.1 (P + 3) a = od (laf (fun t => B t a) t k) (h.2.1 (P + 3) a) (fun t => h.2.1 102 (144 * t + a))
  | _, 0, _, _, _, q, _, _, _ => absurd q (Nat.not_lt_zero _)
  | 0, fu + 1, t, h, e, _, _, e6, _ => by
    unfold XU_copyOut_L2
    rw [e6, if_pos (nI_le (by omega) (by omega))]
    exact ⟨h, rfl, fun _ _ => rfl, fun _ _ => rfl, rfl, fun a ha => ⟨rfl, rfl⟩⟩
  | k + 1, fu + 1, t, h, e, q, s2, e6, hw => by
    have n102 : ¬ (102 : Nat) = P + 3 := by omega
    obtain ⟨h1, X1, f1, f2, f3, f4, f5⟩ := copyTurn_e (B := B t) (K2 := XU_copyOut_L2 fu) (t := t) hP (by omega) 6 FU 0 h (by omega) (by rw [FU_s]; omega) s2 (fun r hr => hw t r (by omega) hr)
    obtain ⟨h', X, e1, e2, e3, e4⟩ := copyOut_L_e (B := B) hP hN k fu (t + 1) h1 (by omega) (by omega) (by rw [f3]; exact s2) (by rw [f1 6 (by omega)]; exact e6) (fun t r ht hr => by rw [f1 103 (by omega)]; exact hw t r ht hr)
    refine ⟨h', ?_, fun c hc => (e1 c hc).trans (f1 c hc), fun c hc => (e2 c hc).trans (f2 c hc), e3.trans f3, fun a ha => ?_⟩
    · unfold XU_copyOut_L2
      rw [e6, if_neg (nI_ge (by omega) (by omega)), ← nI_0, X1]
      exact X
    · obtain ⟨g1, g2⟩ := e4 a ha
      have cc : (24 * 0 ≤ a ∧ a < 144 ∧ B t a = true) = (B t a = true) := propext ⟨fun q => q.2.2, fun q => ⟨by omega, ha, q⟩⟩
      refine ⟨?_, ?_⟩
      · rw [g1, f4, itp cc]
        exact laf_z (fun t => B t a) t k _
      · rw [g2, f5, itp cc, f2 102 n102]
        exact laf_d (fun t => B t a) (fun t => h.2.1 102 (144 * t + a)) t k _
/-- the model's copies of a cell -/
theorem copiesCell_e {N a : Nat} {K2 : sd_H → Int32 → Option sd_H} (hN : N ≤ 10) (ha : a < 144) : ∀ k fu t h, t + k = N → k < fu → h.1 126 6 = nI N →
    ∃ h', YM_copiesOut_L11 K2 fu h (nI a) (nI t) = K2 h' (nI (a + 1)) ∧ (∀ c, ¬ c = 130 → h'.1 c = h.1 c) ∧ (∀ c, ¬ c = 129 → h'.2.1 c = h.2.1 c) ∧ h'.2.2 = h.2.2 ∧ (∀ b, ¬ b = a → h'.1 130 b = h.1 130 b ∧ h'.2.1 129 b = h.2.1 129 b) ∧
      h'.1 130 a = oz (laf (fun t => !decide (h.1 149 (144 * t + a) = 0)) t k) (h.1 130 a) ∧ h'.2.1 129 a = od (laf (fun t => !decide (h.1 149 (144 * t + a) = 0)) t k) (h.2.1 129 a) (fun t => h.2.1 148 (144 * t + a))
  | _, 0, _, _, _, q, _ => absurd q (Nat.not_lt_zero _)
  | 0, fu + 1, t, h, e, _, e6 => by
    refine ⟨h, ?_, fun _ _ => rfl, fun _ _ => rfl, rfl, fun _ _ => ⟨rfl, rfl⟩, rfl, rfl⟩
    unfold YM_copiesOut_L11
    rw [e6, if_pos (nI_le (by omega) (by omega)), nI_1]
  | k + 1, fu + 1, t, h, e, q, e6 => by
    have la := laf_z (fun t => !decide (h.1 149 (144 * t + a) = 0)) t k (h.1 130 a)
    have lb := laf_d (fun t => !decide (h.1 149 (144 * t + a) = 0)) (fun t => h.2.1 148 (144 * t + a)) t k (h.2.1 129 a)
    unfold YM_copiesOut_L11 YM_copiesOut_B59
    rw [e6, if_neg (nI_ge (by omega) (by omega)), lit 144, pk_mul, nI_add, inB_n (show 144 * t + a < 1440 by omega) (by omega), gd_t, gd_t, nI_clamp (by omega), inB_n ha (by omega), gd_t, hb_s, gd_t, hb_s, nI_clamp (by omega), nI_1]
    by_cases c : h.1 149 (144 * t + a) = 0
    · obtain ⟨h', X, e1, e2, e3, e4, e5, e6'⟩ := copiesCell_e (K2 := K2) hN ha k fu (t + 1) h (by omega) (by omega) e6
      have la' : (!decide (h.1 149 (144 * t + a) = 0)) = false := by rw [decide_eq_true c]; rfl
      rw [if_pos c]
      refine ⟨h', X, e1, e2, e3, e4, ?_, ?_⟩
      · rw [e5, ← la, la', if_neg (by decide)]
      · rw [e6', ← lb, la', if_neg (by decide)]
    · obtain ⟨h', X, e1, e2, e3, e4, e5, e6'⟩ := copiesCell_e (K2 := K2) hN ha k fu (t + 1) (wI (wD h 129 a (h.2.1 148 (144 * t + a))) 130 a (nI t)) (by omega) (by omega) (by rw [wI_ne (by omega)]; exact e6)
      have la' : (!decide (h.1 149 (144 * t + a) = 0)) = true := by rw [decide_eq_false c]; rfl
      rw [if_neg c]
      have e149 : (wI (wD h 129 a (h.2.1 148 (144 * t + a))) 130 a (nI t)).1 149 = h.1 149 := wI_ne (by omega)
      have e148 : (wI (wD h 129 a (h.2.1 148 (144 * t + a))) 130 a (nI t)).2.1 148 = h.2.1 148 := wD_ne (by omega)
      rw [e149] at e5 e6'
      rw [e148] at e6'
      refine ⟨h', X, fun c hc => (e1 c hc).trans (wI_ne hc), fun c hc => (e2 c hc).trans (wD_ne hc), e3, fun b hb => ?_, ?_, ?_⟩
      · obtain ⟨x1, x2⟩ := e4 b hb
        exact ⟨x1.trans (wI_ns hb), x2.trans (wD_ns hb)⟩
      · rw [e5, wI_eq, ← la, la', if_pos rfl]
      · rw [e6', show (wI (wD h 129 a (h.2.1 148 (144 * t + a))) 130 a (nI t)).2.1 129 a = h.2.1 148 (144 * t + a) from wD_eq, ← lb, la', if_pos rfl]
theorem copies_L_e {N : Nat} (hN : N ≤ 10) : ∀ k fu a h, a + k = 144 → k < fu → h.1 126 6 = nI N →
    ∃ h', YM_copiesOut_L2 fu h (nI a) = some h' ∧ (∀ c, ¬ c = 130 → h'.1 c = h.1 c) ∧ (∀ c, ¬ c = 129 → h'.2.1 c = h.2.1 c) ∧ h'.2.2 = h.2.2 ∧ (∀ b, (b < a ∨ 144 ≤ b) → h'.1 130 b = h.1 130 b ∧ h'.2.1 129 b = h.2.1 129 b) ∧
      ∀ b, a ≤ b → b < 144 → h'.1 130 b = oz (laf (fun t => !decide (h.1 149 (144 * t + b) = 0)) 0 N) (h.1 130 b) ∧ h'.2.1 129 b = od (laf (fun t => !decide (h.1 149 (144 * t + b) = 0)) 0 N) (h.2.1 129 b) (fun t => h.2.1 148 (144 * t + b))
  | _, 0, _, _, _, q, _ => absurd q (Nat.not_lt_zero _)
  | 0, fu + 1, a, h, e, _, _ => by
    refine ⟨h, ?_, fun _ _ => rfl, fun _ _ => rfl, rfl, fun _ _ => ⟨rfl, rfl⟩, fun b h1 h2 => absurd h2 (by omega)⟩
    unfold YM_copiesOut_L2
    rw [lit 144, if_pos (nI_le (by omega) (by omega))]
  | k + 1, fu + 1, a, h, e, q, e6 => by
    obtain ⟨h1, X1, f1, f2, f3, f4, f5, f6⟩ := copiesCell_e (K2 := YM_copiesOut_L2 fu) (a := a) hN (by omega) N FU 0 h (by omega) (by rw [FU_s]; omega) e6
    obtain ⟨h', X, e1, e2, e3, e4, e5⟩ := copies_L_e hN k fu (a + 1) h1 (by omega) (by omega) (by rw [f1 126 (by omega)]; exact e6)
    rw [f1 149 (by omega), f2 148 (by omega)] at e5
    refine ⟨h', ?_, fun c hc => (e1 c hc).trans (f1 c hc), fun c hc => (e2 c hc).trans (f2 c hc), e3.trans f3, fun b hb => ?_, fun b h1 h2 => ?_⟩
    · unfold YM_copiesOut_L2
      rw [lit 144, if_neg (show ¬ nI 144 ≤ nI a from nI_ge (by omega) (by omega)), ← nI_0, X1]
      exact X
    · obtain ⟨x1, x2⟩ := e4 b (by omega)
      obtain ⟨y1, y2⟩ := f4 b (by omega)
      exact ⟨x1.trans y1, x2.trans y2⟩
    · by_cases c : b = a
      · subst c
        obtain ⟨x1, x2⟩ := e4 b (by omega)
        exact ⟨x1.trans f5, x2.trans f6⟩
      · obtain ⟨x1, x2⟩ := e5 b (by omega) h2
        obtain ⟨y1, y2⟩ := f4 b c
        rw [y1] at x1
        rw [y2] at x2
        exact ⟨x1, x2⟩
