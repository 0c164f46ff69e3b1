/-! ===== the sets: x's walk ===== -/
theorem up_s {A : Nat → Int32} {i : Nat} {x : Int32} : up A i x i = x := if_pos rfl
theorem up_n {A : Nat → Int32} {i j : Nat} {x : Int32} (h : ¬ j = i) : up A i x j = A j := if_neg h
/-- x's sets in g; all else as in h -/
def RA (g h : sd_H) (A : Nat → Int32) : Prop :=
  (∀ c, ¬ c = 56 → (c < 58 ∨ 62 < c) → g.1 c = h.1 c) ∧ (∀ k, ¬ k = 4 → g.1 56 k = h.1 56 k) ∧ g.2 = h.2 ∧
  (∀ s a, s < 4 → a < 60 → g.1 (58 + s) a = A (24 * (a / 6) + 6 * s + a % 6))
def RX (g h : sd_H) (A C : Nat → Int32) (K : Bool) : Prop := RA g h A ∧ (∀ r, r < 6 → g.1 62 r = C r) ∧ g.1 56 4 = bi K
theorem RX_w {g h : sd_H} {A C : Nat → Int32} {K : Bool} {s r t : Nat} {x : Int32} (i : RX g h A C K) (hs : s < 4) (hr : r < 6) (ht : t < 10) : RX (wI g (58 + s) (t * 6 + r) x) h (up A (24 * t + 6 * s + r) x) C K := by
  obtain ⟨⟨a, b, c, d⟩, e, f⟩ := i
  refine ⟨⟨fun c' h1 h2 => ?_, fun k hk => ?_, c, fun s' a' hs' ha' => ?_⟩, fun q hq => ?_, ?_⟩
  · simp (disch := omega) only [wI_d, wD_i, fI_d, fD_i, wI_eq, wD_eq, wI_ne, wD_ne, fI_ne, fD_ne, wI_ns, wD_ns, fI_eq, fD_eq, fI_ns, fD_ns]
    exact a c' h1 h2
  · simp (disch := omega) only [wI_d, wD_i, fI_d, fD_i, wI_eq, wD_eq, wI_ne, wD_ne, fI_ne, fD_ne, wI_ns, wD_ns, fI_eq, fD_eq, fI_ns, fD_ns]
    exact b k hk
  · by_cases z : s' = s ∧ a' = t * 6 + r
    · obtain ⟨rfl, rfl⟩ := z
      rw [wI_eq, show 24 * ((t * 6 + r) / 6) + 6 * s' + (t * 6 + r) % 6 = 24 * t + 6 * s' + r by omega, up_s]
    · rw [up_n (by omega), wI_i, if_neg (by omega)]
      exact d s' a' hs' ha'
  · simp (disch := omega) only [wI_d, wD_i, fI_d, fD_i, wI_eq, wD_eq, wI_ne, wD_ne, fI_ne, fD_ne, wI_ns, wD_ns, fI_eq, fD_eq, fI_ns, fD_ns]
    exact e q hq
  · simp (disch := omega) only [wI_d, wD_i, fI_d, fD_i, wI_eq, wD_eq, wI_ne, wD_ne, fI_ne, fD_ne, wI_ns, wD_ns, fI_eq, fD_eq, fI_ns, fD_ns]
    exact f
theorem RX_c {g h : sd_H} {A C : Nat → Int32} {K : Bool} {r : Nat} {x : Int32} (i : RX g h A C K) (hr : r < 6) : RX (wI g 62 r x) h A (up C r x) K := by
  obtain ⟨⟨a, b, c, d⟩, e, f⟩ := i
  refine ⟨⟨fun c' h1 h2 => ?_, fun k hk => ?_, c, fun s' a' hs' ha' => ?_⟩, fun q hq => ?_, ?_⟩
  · simp (disch := omega) only [wI_d, wD_i, fI_d, fD_i, wI_eq, wD_eq, wI_ne, wD_ne, fI_ne, fD_ne, wI_ns, wD_ns, fI_eq, fD_eq, fI_ns, fD_ns]
    exact a c' h1 h2
  · simp (disch := omega) only [wI_d, wD_i, fI_d, fD_i, wI_eq, wD_eq, wI_ne, wD_ne, fI_ne, fD_ne, wI_ns, wD_ns, fI_eq, fD_eq, fI_ns, fD_ns]
    exact b k hk
  · simp (disch := omega) only [wI_d, wD_i, fI_d, fD_i, wI_eq, wD_eq, wI_ne, wD_ne, fI_ne, fD_ne, wI_ns, wD_ns, fI_eq, fD_eq, fI_ns, fD_ns]
    exact d s' a' hs' ha'
  · by_cases z : q = r
    · subst z
      rw [wI_eq, up_s]
    · rw [up_n z, wI_ns z]
      exact e q hq
  · simp (disch := omega) only [wI_d, wD_i, fI_d, fD_i, wI_eq, wD_eq, wI_ne, wD_ne, fI_ne, fD_ne, wI_ns, wD_ns, fI_eq, fD_eq, fI_ns, fD_ns]
    exact f
theorem RX_k {g h : sd_H} {A C : Nat → Int32} {K : Bool} {b : Bool} (i : RX g h A C K) : RX (wI g 56 4 (bi b)) h A C b := by
  obtain ⟨⟨a, b', c, d⟩, e, f⟩ := i
  refine ⟨⟨fun c' h1 h2 => ?_, fun k hk => ?_, c, fun s' a' hs' ha' => ?_⟩, fun q hq => ?_, ?_⟩
  · simp (disch := omega) only [wI_d, wD_i, fI_d, fD_i, wI_eq, wD_eq, wI_ne, wD_ne, fI_ne, fD_ne, wI_ns, wD_ns, fI_eq, fD_eq, fI_ns, fD_ns]
    exact a c' h1 h2
  · simp (disch := omega) only [wI_d, wD_i, fI_d, fD_i, wI_eq, wD_eq, wI_ne, wD_ne, fI_ne, fD_ne, wI_ns, wD_ns, fI_eq, fD_eq, fI_ns, fD_ns]
    exact b' k hk
  · simp (disch := omega) only [wI_d, wD_i, fI_d, fD_i, wI_eq, wD_eq, wI_ne, wD_ne, fI_ne, fD_ne, wI_ns, wD_ns, fI_eq, fD_eq, fI_ns, fD_ns]
    exact d s' a' hs' ha'
  · simp (disch := omega) only [wI_d, wD_i, fI_d, fD_i, wI_eq, wD_eq, wI_ne, wD_ne, fI_ne, fD_ne, wI_ns, wD_ns, fI_eq, fD_eq, fI_ns, fD_ns]
    exact e q hq
  · simp (disch := omega) only [wI_d, wD_i, fI_d, fD_i, wI_eq, wD_eq, wI_ne, wD_ne, fI_ne, fD_ne, wI_ns, wD_ns, fI_eq, fD_eq, fI_ns, fD_ns]
theorem RX_ik {g h : sd_H} {A : Nat → Int32} {k : Nat} (i : RA g h A) (hk : k < 5) (ik : ILk h h k) : ILk g h k := ILk_c hk (fun c h1 h2 => i.1 c (by omega) (by omega)) rfl rfl rfl rfl rfl rfl rfl rfl rfl ik
theorem RX_ir {g h : sd_H} {A : Nat → Int32} (i : RA g h A) (iv : Iv h h) : IR (g.1 2) (g.1 3) (g.2.1 4) (h.1 127) (h.1 128) (h.2.1 129) := by
  rw [i.1 2 (by omega) (by omega), i.1 3 (by omega) (by omega), i.2.2.1]
  exact iv.1
/-- the fault at a place -/
def fa (v : sd_H) (r : Nat) (p : Int32) : Int32 := if hp v r p = true then -1 else if nb (v.1 127 r) = true then 1 else 0
theorem XR_faultAt_e {g v : sd_H} {P r : Nat} {p : Int32} (ir : IR (g.1 (P + 1)) (g.1 (P + 2)) (g.2.1 (P + 3)) (v.1 127) (v.1 128) (v.2.1 129)) (hr : r < 6) : XR_faultAt g P (nI r) p = some (fa v r p) := by
  obtain ⟨a, b⟩ := ir r hr
  unfold XR_faultAt fa hp
  rw [inB_n hr (by omega), gd_t, gd_t, gd_t, nI_clamp (by omega), a]
  unfold nb
  by_cases c0 : v.1 127 r < 0
  · rw [if_pos c0, decide_eq_false (Int32.not_le.mpr c0)]
    rfl
  · rw [if_neg c0, decide_eq_true (Int32.not_lt.mp c0)]
    by_cases c1 : v.1 127 r ≤ 3
    · have sz : g.1 (P + 2) r = v.1 128 r := by
        rcases b with ⟨b, _, _⟩ | ⟨_, b, _⟩
        · rw [b] at c0
          exact absurd (by decide) c0
        · exact b
      rw [if_pos c1, decide_eq_true c1, sz]
      by_cases c2 : p < 0
      · rw [if_pos c2, decide_eq_false (Int32.not_le.mpr c2)]
        rfl
      · rw [if_neg c2, decide_eq_true (Int32.not_lt.mp c2)]
        by_cases c3 : v.1 128 r ≤ p
        · rw [if_pos c3, decide_eq_false (Int32.not_lt.mpr c3)]
          rfl
        · rw [if_neg c3, decide_eq_true (Int32.not_le.mp c3)]
          rfl
    · rw [if_neg c1, decide_eq_false c1]
      rfl
theorem fa_m1 {v : sd_H} {r : Nat} {p : Int32} : (fa v r p = -1) = (hp v r p = true) := by
  unfold fa
  by_cases c : hp v r p = true
  · rw [if_pos c]
    exact propext ⟨fun _ => c, fun _ => rfl⟩
  · rw [if_neg c]
    refine propext ⟨fun q => ?_, fun q => absurd q c⟩
    split at q <;> exact absurd q (by decide)
theorem hp_in {v : sd_H} {r : Nat} {p : Int32} (iz : IZ (v.1 128)) (hr : r < 6) (h : hp v r p = true) : ∃ i z, i < z ∧ z ≤ 24 ∧ p = nI i ∧ v.1 128 r = nI z := by
  obtain ⟨z, hz, ez⟩ := iz r hr
  unfold hp at h
  rw [Bool.and_eq_true, Bool.and_eq_true, decide_eq_true_eq, decide_eq_true_eq, ez] at h
  obtain ⟨i, hi, rfl⟩ := nI_of (Int32.not_lt.mpr h.2.1)
  exact ⟨i, z, (nI_ltI hi (by omega)).mp h.2.2, hz, rfl, ez⟩
theorem bt_t {v : sd_H} {e t j : Nat} (h : hp v (gr v e) (pl v e t j) = true) : bt v e t j = 1 <<< (pl v e t j &&& 31) := if_pos h
theorem bt_f {v : sd_H} {e t j : Nat} (h : ¬ hp v (gr v e) (pl v e t j) = true) : bt v e t j = 0 := if_neg h
theorem q_rd_no {v : sd_H} {e t j : Nat} {C A : Nat → Int32} (h : ok v e t j = false) : q_rd v e t j C A = A := by
  unfold ok at h
  rw [Bool.or_eq_false_iff] at h
  have b0 := bt_f (v := v) (e := e) (t := t) (j := j) (by rw [h.2]; decide)
  unfold q_rd
  rw [b0]
  refine funext fun i => ?_
  split
  · unfold up
    by_cases c1 : i = 24 * t + 18 + gr v e
    · rw [if_pos c1, c1, Int32.zero_and, Int32.or_zero]
    · rw [if_neg c1]
      by_cases c2 : i = 24 * t + gr v e
      · rw [if_pos c2, c2, Int32.or_zero]
      · rw [if_neg c2]
  · rfl
theorem XY_addRead_e {g h : sd_H} {A C : Nat → Int32} {K : Bool} {r t : Nat} (b : Int32) (i : RX g h A C K) (hr : r < 6) (ht : t < 10) :
    ∃ g', XY_addRead g (nI r) (nI t) b = some g' ∧ RX g' h (up (up A (24 * t + r) (A (24 * t + r) ||| b)) (24 * t + 18 + r) (A (24 * t + 18 + r) ||| (b &&& (C r ^^^ (-1))))) C K := by
  unfold XY_addRead
  have e : nI t * 6 + nI r = nI (t * 6 + r) := by rw [lit 6, pk_mul, nI_add]
  rw [e, inB_n (show t * 6 + r < 60 by omega) (by omega), inB_n hr (by omega), gd_t, gd_t, hb_s, gd_t, gd_t, gd_t, hb_s, nI_clamp (by omega), nI_clamp (by omega)]
  have i1 := RX_w (s := 0) (x := g.1 58 (t * 6 + r) ||| b) i (by omega) hr ht
  have i2 := RX_w (s := 3) (x := (wI g 58 (t * 6 + r) (g.1 58 (t * 6 + r) ||| b)).1 61 (t * 6 + r) ||| (b &&& ((wI g 58 (t * 6 + r) (g.1 58 (t * 6 + r) ||| b)).1 62 r ^^^ (-1)))) i1 (by omega) hr ht
  refine ⟨_, rfl, ?_⟩
  have e0 : g.1 58 (t * 6 + r) = A (24 * t + r) := by
    have := i.1.2.2.2 0 (t * 6 + r) (by omega) (by omega)
    rw [show 24 * ((t * 6 + r) / 6) + 6 * 0 + (t * 6 + r) % 6 = 24 * t + r by omega] at this
    exact this
  have e3 : (wI g 58 (t * 6 + r) (g.1 58 (t * 6 + r) ||| b)).1 61 (t * 6 + r) = A (24 * t + 18 + r) := by
    simp (disch := omega) only [wI_d, wD_i, fI_d, fD_i, wI_eq, wD_eq, wI_ne, wD_ne, fI_ne, fD_ne, wI_ns, wD_ns, fI_eq, fD_eq, fI_ns, fD_ns]
    have := i.1.2.2.2 3 (t * 6 + r) (by omega) (by omega)
    rw [show 24 * ((t * 6 + r) / 6) + 6 * 3 + (t * 6 + r) % 6 = 24 * t + 18 + r by omega] at this
    exact this
  have ec : (wI g 58 (t * 6 + r) (g.1 58 (t * 6 + r) ||| b)).1 62 r = C r := by
    simp (disch := omega) only [wI_d, wD_i, fI_d, fD_i, wI_eq, wD_eq, wI_ne, wD_ne, fI_ne, fD_ne, wI_ns, wD_ns, fI_eq, fD_eq, fI_ns, fD_ns]
    exact i.2.1 r hr
  rw [e3, ec, e0] at i2
  rw [e3, ec, e0]
  exact i2
theorem XA_mayBeOver_e {g v : sd_H} {k : Nat} (ik : ILk g v k) : XA_mayBeOver g (8 + 5 * k) = some (bi (decide (11 ≤ v.1 132 k))) := by
  obtain ⟨o, ho, eo⟩ := ik.1.2.2.2.2.2.1
  unfold XA_mayBeOver XA_mayBeOver_B18
  rw [ik.1.1, eo, show (11 : Int32) = nI 11 from rfl, show (12 : Int32) = nI 12 from rfl, itp (nI_eqI (by omega) (by omega)), itp (nI_eqI (by omega) (by omega)), decide_eq_decide.mpr (nI_leI (by omega) (by omega))]
  by_cases a : o = 11
  · rw [if_pos a, decide_eq_true (by omega)]
    rfl
  · rw [if_neg a]
    by_cases b : o = 12
    · rw [if_pos b, decide_eq_true (by omega)]
      rfl
    · rw [if_neg b, decide_eq_false (by omega)]
      rfl
theorem XY_addWrite_e {g h : sd_H} {A C : Nat → Int32} {K : Bool} {k r t : Nat} (b : Int32) (i : RX g h A C K) (ik : ILk h h k) (hk : k < 5) (hr : r < 6) (ht : t < 10) (er : h.1 137 (3 * k) = nI r) :
    ∃ g', XY_addWrite g (8 + 5 * k) (nI t) b = some g' ∧
      RX g' h (if h.1 132 k = 10 then up A (24 * t + 6 + r) (A (24 * t + 6 + r) ||| b) else if K = true then up A (24 * t + 6 + r) (A (24 * t + 6 + r) ||| b) else up (up A (24 * t + 6 + r) (A (24 * t + 6 + r) ||| b)) (24 * t + 12 + r) (A (24 * t + 12 + r) ||| b))
        (if h.1 132 k = 10 then C else up C r (C r ||| b)) K := by
  have ik' := RX_ik i.1 hk ik
  have r0 := (ik'.2 0 (by omega)).1
  rw [Nat.add_zero, Nat.add_zero, er] at r0
  have e : nI t * 6 + nI r = nI (t * 6 + r) := by rw [lit 6, pk_mul, nI_add]
  unfold XY_addWrite
  rw [show 8 + 5 * k + 1 + 1 + 0 = 10 + 5 * k by omega, r0, e, inB_n (show t * 6 + r < 60 by omega) (by omega), inB_n hr (by omega), nI_clamp (by omega), nI_clamp (by omega)]
  simp only [gd_t, hb_s]
  have i1 := RX_w (s := 1) (x := g.1 59 (t * 6 + r) ||| b) i (by omega) hr ht
  have ik1 := RX_ik i1.1 hk ik
  have e1 : g.1 59 (t * 6 + r) = A (24 * t + 6 + r) := by
    have := i.1.2.2.2 1 (t * 6 + r) (by omega) (by omega)
    rw [show 24 * ((t * 6 + r) / 6) + 6 * 1 + (t * 6 + r) % 6 = 24 * t + 6 + r by omega] at this
    exact this
  rw [e1] at i1 ik1 ⊢
  rw [show 58 + 1 = 59 from rfl] at i1 ik1
  rw [show 24 * t + 6 * 1 + r = 24 * t + 6 + r by omega] at i1
  rw [ik1.1.1]
  by_cases o : h.1 132 k = 10
  · rw [if_pos o, if_pos o, if_pos o]
    exact ⟨_, rfl, i1⟩
  · rw [if_neg o, if_neg o, if_neg o]
    have i2 := RX_c (r := r) (x := (wI g 59 (t * 6 + r) (A (24 * t + 6 + r) ||| b)).1 62 r ||| b) i1 hr
    rw [i1.2.1 r hr] at i2 ⊢
    rw [i2.2.2, itp (bi_0 _)]
    cases K
    · rw [if_pos rfl, if_neg (show ¬ false = true by decide)]
      have e2 : (wI (wI g 59 (t * 6 + r) (A (24 * t + 6 + r) ||| b)) 62 r (C r ||| b)).1 60 (t * 6 + r) = A (24 * t + 12 + r) := by
        simp (disch := omega) only [wI_d, wD_i, fI_d, fD_i, wI_eq, wD_eq, wI_ne, wD_ne, fI_ne, fD_ne, wI_ns, wD_ns, fI_eq, fD_eq, fI_ns, fD_ns]
        have := i.1.2.2.2 2 (t * 6 + r) (by omega) (by omega)
        rw [show 24 * ((t * 6 + r) / 6) + 6 * 2 + (t * 6 + r) % 6 = 24 * t + 12 + r by omega] at this
        exact this
      have i3 := RX_w (s := 2) (x := (wI (wI g 59 (t * 6 + r) (A (24 * t + 6 + r) ||| b)) 62 r (C r ||| b)).1 60 (t * 6 + r) ||| b) i2 (by omega) hr ht
      rw [e2] at i3 ⊢
      rw [show 24 * t + 6 * 2 + r = 24 * t + 12 + r by omega] at i3
      exact ⟨_, rfl, i3⟩
    · rw [if_neg (show ¬ true = false by decide), if_pos rfl]
      exact ⟨_, rfl, i2⟩
/-! an item -/
theorem XY_addItem_s {g h : sd_H} {A C : Nat → Int32} {D : Bool} {k w t j : Nat} (iv : Iv h h) (i : RX g h A C D) (ik : ILk h h k) (hk : k < 5) (h1 : 1 ≤ w) (hw : w < 3) (ht : t < 10) (n : Nat) :
    ∃ g', XY_addItem_L3 (n + 1) g (8 + 5 * k) (nI t) (nI j) (nI w) = (if ok h (3 * k + w) t j = true then XY_addItem_L3 n g' (8 + 5 * k) (nI t) (nI j) (nI (w + 1)) else some (g', 0)) ∧ RX g' h (q_rd h (3 * k + w) t j C A) C D := by
  have ik' := RX_ik i.1 hk ik
  have R := ik'.2 w hw
  conv => enter [1, g', 1, 1]; unfold XY_addItem_L3
  unfold XY_addItem_B78
  rw [show (3 : Int32) = nI 3 from rfl, if_neg (nI_ge hw (by omega)), inB_n hw (by omega), gd_t, nI_clamp (by omega), show 8 + 5 * k + 1 + 1 + w = 10 + 5 * k + w by omega, XF_at_e R, b1_s, XA_looksAt_e ik' hw, b1_s, nI_1]
  unfold XF_isConstant
  rw [R.1]
  rcases ref_row ik hw with ⟨c, _⟩ | ⟨r, hr, c, gc⟩
  · have l : lk h (3 * k + w) = false := by
      unfold lk
      rw [c]
      rfl
    have o : ok h (3 * k + w) t j = true := by
      unfold ok
      rw [l]
      rfl
    have q : q_rd h (3 * k + w) t j C A = A := by
      unfold q_rd
      rw [l]
      rfl
    rw [q]
    refine ⟨g, ?_, i⟩
    rw [if_pos o, if_pos c, b1_s, if_neg (show ¬ (1 : Int32) = 0 by decide)]
    split <;> rfl
  · have l := lk_w hw hr c
    rw [if_neg (c := h.1 137 (3 * k + w) = -1) (by rw [c]; exact nm1 (by omega)), b1_s, if_pos (show (0 : Int32) = 0 from rfl), c, XR_faultAt_e (RX_ir i.1 iv) hr, b1_s]
    cases lk' : (decide (w < 2) || !decide (h.1 132 k = 9)) with
    | false =>
      rw [lk'] at l
      rw [if_pos (show bi false = 0 from rfl)]
      have o : ok h (3 * k + w) t j = true := by
        unfold ok
        rw [l]
        rfl
      have q : q_rd h (3 * k + w) t j C A = A := by
        unfold q_rd
        rw [l]
        rfl
      rw [q]
      exact ⟨g, (if_pos o).symm, i⟩
    | true =>
      rw [lk'] at l
      rw [if_neg (show ¬ bi true = 0 by decide), itp fa_m1]
      have oe : ok h (3 * k + w) t j = hp h r (pl h (3 * k + w) t j) := by
        unfold ok
        rw [l, gc]
        rfl
      by_cases hh : hp h r (pl h (3 * k + w) t j) = true
      · rw [if_pos hh]
        obtain ⟨g', e1, e2⟩ := XY_addRead_e (1 <<< (pl h (3 * k + w) t j &&& 31)) i hr ht
        rw [e1, b1_s]
        refine ⟨g', (if_pos (oe.trans hh)).symm, ?_⟩
        unfold q_rd
        rw [if_pos l, gc, bt_t (by rw [gc]; exact hh)]
        exact e2
      · rw [if_neg hh, q_rd_no (by rw [oe]; exact Bool.eq_false_iff.mpr hh)]
        exact ⟨g, (if_neg (by rw [oe]; exact hh)).symm, i⟩
theorem XY_addItem_e {g h : sd_H} {A C : Nat → Int32} {D K : Bool} {k t j : Nat} (iv : Iv h h) (i : RX g h A C D) (hD : D = (K || decide (11 ≤ h.1 132 k))) (ik : ILk h h k) (hk : k < 5) (ht : t < 10) :
    ∃ g', XY_addItem g (8 + 5 * k) (nI t) (nI j) = some (g', bi (q_it h k t j (A, C, K, true)).2.2.2) ∧ RX g' h (q_it h k t j (A, C, K, true)).1 (q_it h k t j (A, C, K, true)).2.1 D ∧
      ((q_it h k t j (A, C, K, true)).2.2.2 = true → (q_it h k t j (A, C, K, true)).2.2.1 = D) := by
  unfold XY_addItem q_it
  obtain ⟨r, hr, c, gc⟩ := (ref_row ik (show 0 < 3 by omega)).resolve_left (fun z => z.2 rfl)
  rw [Nat.add_zero] at c gc
  obtain ⟨g1, s1, i1⟩ := XY_addItem_s iv i ik hk (w := 1) (by omega) (by omega) ht (j := j) 99999
  rw [show FU = 99999 + 1 from rfl, show (1 : Int32) = nI 1 from rfl, s1]
  dsimp only
  by_cases o1 : ok h (3 * k + 1) t j = true
  · rw [if_pos o1, if_pos o1]
    obtain ⟨g2, s2, i2⟩ := XY_addItem_s iv i1 ik hk (w := 2) (by omega) (by omega) ht (j := j) 99998
    rw [show (99999 : Nat) = 99998 + 1 from rfl, s2]
    by_cases o2 : ok h (3 * k + 2) t j = true
    · rw [if_pos o2, if_pos o2, show (99998 : Nat) = 99997 + 1 from rfl]
      unfold XY_addItem_L3
      have ik2 := RX_ik i2.1 hk ik
      have R := ik2.2 0 (by omega)
      rw [Nat.add_zero, Nat.add_zero] at R
      have at0 := XF_at_e (w := 0) (k := k) (v := h) (g := g2) (by rw [Nat.add_zero, Nat.add_zero]; exact R) t j
      rw [Nat.add_zero, Nat.add_zero] at at0
      rw [show (3 : Int32) = nI 3 from rfl, if_pos (nI_le (by omega) (by omega)), show 8 + 5 * k + 1 + 1 + 0 = 10 + 5 * k by omega, at0, b1_s, R.1, c, XR_faultAt_e (RX_ir i2.1 iv) hr, b1_s, itp fa_m1, gc]
      by_cases hh : hp h r (pl h (3 * k) t j) = true
      · rw [if_pos hh, if_pos hh, bt_t (by rw [gc]; exact hh)]
        obtain ⟨g3, e3, i3⟩ := XY_addWrite_e (1 <<< (pl h (3 * k) t j &&& 31)) i2 ik hk hr ht c
        rw [e3, b1_s, ← hD]
        refine ⟨g3, rfl, ?_, fun _ => rfl⟩
        have e12 : up (q_rd h (3 * k + 2) t j C (q_rd h (3 * k + 1) t j C A)) (24 * t + 6 + r) (q_rd h (3 * k + 2) t j C (q_rd h (3 * k + 1) t j C A) (24 * t + 6 + r) ||| 1 <<< (pl h (3 * k) t j &&& 31)) (24 * t + 12 + r) = q_rd h (3 * k + 2) t j C (q_rd h (3 * k + 1) t j C A) (24 * t + 12 + r) := up_n (by omega)
        rw [e12]
        exact i3
      · rw [if_neg hh, if_neg hh]
        exact ⟨g2, rfl, i2, fun z => absurd (show false = true from z) (by decide)⟩
    · rw [if_neg o2, if_neg o2]
      exact ⟨g2, rfl, i2, fun z => absurd (show false = true from z) (by decide)⟩
  · rw [if_neg o1, if_neg o1]
    exact ⟨g1, rfl, i1, fun z => absurd (show false = true from z) (by decide)⟩
