/-! ===== reading and writing in a run ===== -/
/-- a turn's own copy of a row: x's word, the model's truths, the numbers -/
def CWr (g v : sd_H) (T : Nat → Int32) (t r : Nat) : Prop :=
  ∃ m, m < 2 ^ 24 ∧ g.1 103 (t * 6 + r) = nI m ∧ (m = 0 ∨ (T r = 3 ∧ nb (v.1 127 r) = true)) ∧ ∀ i, i < 24 → v.1 149 (144 * t + (24 * r + i)) = bi (m.testBit i) ∧
    (m.testBit i = true → g.2.1 102 ((t * 6 + r) * 24 + i) = v.2.1 148 (144 * t + (24 * r + i)) ∧ okc (v.2.1 148 (144 * t + (24 * r + i))))
/-- what both have of the rows in a run; w: the model's cells at the beginning -/
def RD (P : Nat) (T : Nat → Int32) (mx : Bool) (w g v : sd_H) : Prop :=
  IR (g.1 (P + 1)) (g.1 (P + 2)) (g.2.1 (P + 3)) (v.1 127) (v.1 128) (v.2.1 129) ∧ IC (v.2.1 129) ∧
  (∀ r, ¬ nb (v.1 127 r) = true → ∀ i, i < 24 → v.2.1 129 (24 * r + i) = w.2.1 129 (24 * r + i)) ∧
  (∀ a, a < 144 → g.1 (P + 4) a = v.1 130 a) ∧ (∀ t r, t < 10 → r < 6 → CWr g v T t r) ∧
  (mx = true → ∀ r, r < 6 → T r = 3 → ∀ i, i < 24 → v.2.1 147 (24 * r + i) = v.2.1 129 (24 * r + i))
/-- what stands all through a run -/
def RS (P : Nat) (T : Nat → Int32) (mx : Bool) (N S : Nat) (g v : sd_H) : Prop :=
  (P = 1 ∨ P = 110 ∨ P = 115) ∧ g.2.2 0 = some P ∧ IL g v N S ∧ IZ (v.1 128) ∧ (∀ r, r < 6 → g.1 101 r = T r) ∧ v.1 126 33 = bi mx ∧
  (mx = false → ∀ r, r < 6 → T r = 1) ∧ (mx = true → ∀ r, r < 6 → v.1 146 r = T r)
theorem P_sh {P : Nat} (h : P = 1 ∨ P = 110 ∨ P = 115) : sd_SH P = (6, 4) := by
  rcases h with rfl | rfl | rfl <;> decide
/-- what an item changes -/
def FX (P : Nat) (g' g : sd_H) : Prop := (∀ c, ¬ c = 103 → ¬ c = P + 4 → g'.1 c = g.1 c) ∧ (∀ c, ¬ c = 102 → ¬ c = P + 3 → g'.2.1 c = g.2.1 c) ∧ g'.2.2 = g.2.2
def FM (v' v : sd_H) : Prop := (∀ c, ¬ c = 126 → ¬ c = 130 → ¬ c = 149 → ¬ c = 150 → v'.1 c = v.1 c) ∧ (∀ k, ¬ k = 34 → ¬ k = 38 → ¬ k = 39 → v'.1 126 k = v.1 126 k) ∧ (∀ c, ¬ c = 129 → ¬ c = 148 → v'.2.1 c = v.2.1 c) ∧ v'.2.2 = v.2.2
/-- the model's scratch alone has changed -/
def MSc (v' v : sd_H) : Prop := (∀ c, ¬ c = 126 → v'.1 c = v.1 c) ∧ (∀ k, ¬ k = 38 → ¬ k = 39 → v'.1 126 k = v.1 126 k) ∧ v'.2 = v.2
theorem MSc_r (v : sd_H) : MSc v v := ⟨fun _ _ => rfl, fun _ _ _ => rfl, rfl⟩
theorem MSc_w {v' v : sd_H} {k : Nat} {x : Int32} (h : MSc v' v) (hk : k = 38 ∨ k = 39) : MSc (wI v' 126 k x) v := ⟨fun c hc => by rw [wI_ne hc]; exact h.1 c hc, fun j h1 h2 => by rw [wI_ns (by omega)]; exact h.2.1 j h1 h2, h.2.2⟩
theorem MSc_sl {v' v : sd_H} (h : MSc v' v) : SL v' v := by
  obtain ⟨c, e, d⟩ := h
  exact ⟨dn_c (c 127 (by omega)) (c 128 (by omega)) (by rw [d]) (c 134 (by omega)) (c 135 (by omega)) (c 136 (by omega)) (e 7 (by omega) (by omega)), c 127 (by omega), c 128 (by omega), c 132 (by omega), c 133 (by omega), c 137 (by omega), c 138 (by omega), c 139 (by omega), c 140 (by omega), e 6 (by omega) (by omega), e 7 (by omega) (by omega)⟩
theorem MSc_ik {g v' v : sd_H} {k : Nat} (h : MSc v' v) (hk : k < 5) (ik : ILk g v k) : ILk g v' k := by
  have c := h.1
  exact ILk_c hk (fun c h1 h2 => rfl) (c 132 (by omega)) (c 133 (by omega)) (c 134 (by omega)) (c 135 (by omega)) (c 136 (by omega)) (c 137 (by omega)) (c 138 (by omega)) (c 139 (by omega)) (c 140 (by omega)) ik
/-- the value that is read -/
def RV (g v : sd_H) (t r i : Nat) : UInt64 := if (g.1 103 (t * 6 + r)).toBitVec.toNat.testBit i = true then v.2.1 148 (144 * t + (24 * r + i)) else v.2.1 129 (24 * r + i)
theorem e_ri (r i : Nat) : nI r * 24 + nI i = nI (24 * r + i) := by rw [lit 24, pk_mul, nI_add, Nat.mul_comm]
theorem e_24 (r i : Nat) : 24 * nI r + nI i = nI (24 * r + i) := by rw [lit 24, pk_mul, nI_add]
theorem e_144 (t a : Nat) : 144 * nI t + nI a = nI (144 * t + a) := by rw [lit 144, pk_mul, nI_add]
theorem XU_read_e {P : Nat} {T : Nat → Int32} {mx : Bool} {N S : Nat} {w0 g v : sd_H} {k w t j r i : Nat} (rs : RS P T mx N S g v) (rd : RD P T mx w0 g v) (hk : k < S) (hw : w < 3) (ht : t < 10) (hr : r < 6) (hi : i < 24) (er : v.1 137 (3 * k + w) = nI r) (l : lk v (3 * k + w) = true) (ep : pl v (3 * k + w) t j = nI i) (hn : nb (v.1 127 r) = true) :
    XU_read g (8 + 5 * k) (nI w) (nI t) (nI j) = some (RV g v t r i) ∧ okc (RV g v t r i) := by
  obtain ⟨s1, s2, s3, s4, s5, s6, s7, s8⟩ := rs
  obtain ⟨d1, d2, d3, d4, d5, d6⟩ := rd
  have ik := s3.2.2.2.2.2.2 k hk
  have R := ik.2 w hw
  obtain ⟨m, hm, em, z, hc⟩ := d5 t r ht hr
  have lw := lk_w hw hr er
  rw [l] at lw
  have ex : g.2.1 (P + 3) (24 * r + i) = v.2.1 129 (24 * r + i) := by
    rcases (d1 r hr).2 with ⟨b, _, _⟩ | ⟨_, _, b⟩
    · rw [b] at hn
      exact absurd hn (by decide)
    · exact b i hi
  unfold XU_read RV
  rw [inB_n hw (by omega), gd_t, nI_clamp (by omega), show 8 + 5 * k + 1 + 1 + w = 10 + 5 * k + w by omega, XA_looksAt_e ik hw, b1_s, ← lw, if_neg (show ¬ bi true = 0 by decide)]
  unfold XF_isConstant
  rw [R.1, er, if_neg (nm1 (by omega)), b1_s, if_pos (show (0 : Int32) = 0 from rfl), XF_at_e R, b1_s, ep, e_tr, inB_n (by omega) (by omega), gd_t, nI_clamp (by omega), em, pk_tn (by omega), bit_e (by omega) hi, op_e s2 (P_sh s1), e_ri, inB_n (by omega) (by omega), gd_t, nI_clamp (by omega), ex, show nI (t * 6 + r) * 24 + nI i = nI ((t * 6 + r) * 24 + i) by rw [lit 24, pk_mul, nI_add], inB_n (by omega) (by omega), gd_t, nI_clamp (by omega)]
  by_cases b : m.testBit i = true
  · obtain ⟨h1, h2⟩ := hc i hi
    obtain ⟨h3, h4⟩ := h2 b
    rw [if_pos b, b, if_neg (show ¬ bi true = 0 by decide), h3]
    exact ⟨rfl, h4⟩
  · rw [if_neg b, Bool.eq_false_iff.mpr b, if_pos (show bi false = 0 from rfl)]
    exact ⟨rfl, d2 _ (by omega)⟩
theorem YM_lacksPlace_e {v : sd_H} {e t j r : Nat} (iz : IZ (v.1 128)) (he : e < 15) (hr : r < 6) (er : v.1 137 e = nI r) : YM_lacksPlace v (nI e) (nI t) (nI j) = some (fa v r (pl v e t j)) := by
  unfold YM_lacksPlace fa hp
  rw [inB_n he (by omega), gd_t, nI_clamp (by omega), er, inB_n hr (by omega)]
  simp only [gd_t]
  rw [nI_clamp (by omega), YM_isNumbers_e, b1_s, YM_placeOf_e he, b1_s, YM_in_e, b1_s, in_hp iz hr]
  cases nb (v.1 127 r)
  · rfl
  · rw [if_neg (show ¬ bi true = 0 by decide), Bool.true_and]
    cases decide (0 ≤ pl v e t j) && decide (pl v e t j < v.1 128 r) <;> rfl
theorem YM_read_e {P : Nat} {T : Nat → Int32} {mx : Bool} {N S : Nat} {w0 g v v' : sd_H} {k w t j r i : Nat} (rs : RS P T mx N S g v) (rd : RD P T mx w0 g v) (mc : MSc v' v) (hk : k < S) (hw : w < 3) (ht : t < 10) (hr : r < 6) (hi : i < 24) (er : v.1 137 (3 * k + w) = nI r) (l : lk v (3 * k + w) = true) (ep : pl v (3 * k + w) t j = nI i) (hn : hp v r (nI i) = true) :
    YM_read v' (nI (3 * k + w)) (nI t) (nI j) = some (wI v' 126 38 (-1), RV g v t r i) := by
  obtain ⟨s1, s2, s3, s4, s5, s6, s7, s8⟩ := rs
  obtain ⟨d1, d2, d3, d4, d5, d6⟩ := rd
  have hS := s3.2.1
  have sl := MSc_sl mc
  have mc2 := MSc_w (k := 38) (x := -1) mc (Or.inl rfl)
  have sl2 := MSc_sl mc2
  obtain ⟨m, hm, em, z, hc⟩ := d5 t r ht hr
  obtain ⟨h1, h2⟩ := hc i hi
  have er' : v'.1 137 (3 * k + w) = nI r := by rw [sl.2.2.2.2.2.1]; exact er
  have er2 : (wI v' 126 38 (-1)).1 137 (3 * k + w) = nI r := by rw [sl2.2.2.2.2.2.1]; exact er
  have c33 : (wI v' 126 38 (-1)).1 126 33 = bi mx := by rw [mc2.2.1 33 (by omega) (by omega)]; exact s6
  have f1 : fa v' r (pl v' (3 * k + w) t j) = -1 := by
    rw [fa_m1, hp_c sl, pl_c sl, ep]
    exact hn
  unfold YM_read YM_read_B78 RV
  rw [YM_isLooked_e (by omega) hw, b1_s, lk_c sl, l, if_neg (show ¬ bi true = 0 by decide), YM_lacksPlace_e (by rw [sl.2.2.1]; exact s4) (by omega) hr er', b1_s, f1, hb_s, wI_eq, if_pos rfl, inB_n (by omega) (by omega), gd_t, YM_placeOf_e (by omega), b1_s, pl_c sl2, ep, nI_clamp (by omega), er2, e_24, e_144, inB_n hr (by omega), nI_clamp (by omega), inB_n (show 144 * t + (24 * r + i) < 1440 by omega) (by omega), inB_n (show 24 * r + i < 144 by omega) (by omega), nI_clamp (by omega), nI_clamp (by omega)]
  simp only [gd_t]
  rw [mc2.1 146 (by omega), mc2.1 149 (by omega), mc2.2.2, c33, itp (bi_0 _), em, pk_tn (by omega), h1, itp (bi_0 _)]
  cases mx
  · rw [if_pos rfl]
    have m0 : m = 0 := z.resolve_right (fun q => absurd q.1 (by rw [s7 rfl r hr]; decide))
    rw [m0, Nat.zero_testBit, if_neg (by decide)]
  · rw [if_neg (show ¬ true = false by decide), s8 rfl r hr]
    by_cases t3 : T r = 3
    · rw [if_pos t3]
      by_cases b : m.testBit i = true
      · rw [if_neg (by rw [b]; decide), if_pos b]
      · rw [if_pos (Bool.eq_false_iff.mpr b), if_neg b, d6 rfl r hr t3 i hi]
    · rw [if_neg t3, z.resolve_right (fun q => t3 q.1), Nat.zero_testBit, if_neg (by decide)]
/-! writing -/
theorem RD_w {P : Nat} {T : Nat → Int32} {mx : Bool} {N S : Nat} {w0 g v v' : sd_H} {t r i : Nat} {x : UInt64} (rs : RS P T mx N S g v) (rd : RD P T mx w0 g v) (ht : t < 10) (hr : r < 6) (hi : i < 24) (ox : okc x) (hn : nb (v.1 127 r) = true) (mc : MSc v' v) (m : Nat) (em : g.1 103 (t * 6 + r) = nI m) (hm : m < 2 ^ 24)
    {g' vv : sd_H} (hg : g' = if T r = 3 then wD (wI g 103 (t * 6 + r) (nI (m ||| 2 ^ i))) 102 ((t * 6 + r) * 24 + i) x else wI (wD g (P + 3) (24 * r + i) x) (P + 4) (24 * r + i) (if T r = 2 then (if g.1 (P + 4) (24 * r + i) < nI t then nI t else g.1 (P + 4) (24 * r + i)) else nI t))
    (hv : vv = if T r = 3 then wI (wD v' 148 (144 * t + (24 * r + i)) x) 149 (144 * t + (24 * r + i)) 1 else wI (wD v' 129 (24 * r + i) x) 130 (24 * r + i) (if T r = 2 then (if v.1 130 (24 * r + i) ≤ nI t then nI t else v.1 130 (24 * r + i)) else nI t)) : RD P T mx w0 g' vv := by
  obtain ⟨s1, s2, s3, s4, s5, s6, s7, s8⟩ := rs
  obtain ⟨d1, d2, d3, d4, d5, d6⟩ := rd
  obtain ⟨c1, c2, c3⟩ := mc
  have hp1 : P < 120 := by omega
  have pne : ¬ P + 3 = 102 ∧ ¬ P + 1 = 103 ∧ ¬ P + 2 = 103 ∧ ¬ P + 4 = 103 := by omega
  by_cases t3 : T r = 3
  · rw [if_pos t3] at hg hv
    subst hg
    subst hv
    refine ⟨?_, ?_, ?_, ?_, ?_, ?_⟩
    · simp (disch := omega) only [wI_d, wD_i, fI_d, fD_i, wI_eq, wD_eq, wI_ne, wD_ne, fI_ne, fD_ne, wI_ns, wD_ns, fI_eq, fD_eq, fI_ns, fD_ns]
      rw [c1 127 (by omega), c1 128 (by omega), c3]
      exact d1
    · simp (disch := omega) only [wI_d, wD_i, fI_d, fD_i, wI_eq, wD_eq, wI_ne, wD_ne, fI_ne, fD_ne, wI_ns, wD_ns, fI_eq, fD_eq, fI_ns, fD_ns]
      rw [c3]
      exact d2
    · simp (disch := omega) only [wI_d, wD_i, fI_d, fD_i, wI_eq, wD_eq, wI_ne, wD_ne, fI_ne, fD_ne, wI_ns, wD_ns, fI_eq, fD_eq, fI_ns, fD_ns]
      rw [c1 127 (by omega), c3]
      exact d3
    · simp (disch := omega) only [wI_d, wD_i, fI_d, fD_i, wI_eq, wD_eq, wI_ne, wD_ne, fI_ne, fD_ne, wI_ns, wD_ns, fI_eq, fD_eq, fI_ns, fD_ns]
      rw [c1 130 (by omega)]
      exact d4
    · intro t' r' ht' hr'
      obtain ⟨m', hm', em', z', hc'⟩ := d5 t' r' ht' hr'
      by_cases e : t' = t ∧ r' = r
      · obtain ⟨rfl, rfl⟩ := e
        rw [em] at em'
        have := (nI_eq (by omega) (by omega)).mp em'
        subst this
        refine ⟨m ||| 2 ^ i, Nat.or_lt_two_pow hm (Nat.pow_lt_pow_right (by decide) hi), by simp (disch := omega) only [wI_d, wD_i, fI_d, fD_i, wI_eq, wD_eq, wI_ne, wD_ne, fI_ne, fD_ne, wI_ns, wD_ns, fI_eq, fD_eq, fI_ns, fD_ns], Or.inr ⟨t3, by simp (disch := omega) only [wI_d, wD_i, fI_d, fD_i, wI_eq, wD_eq, wI_ne, wD_ne, fI_ne, fD_ne, wI_ns, wD_ns, fI_eq, fD_eq, fI_ns, fD_ns]; rw [c1 127 (by omega)]; exact hn⟩, fun i' hi' => ?_⟩
        obtain ⟨h1, h2⟩ := hc' i' hi'
        rw [Nat.testBit_or, Nat.testBit_two_pow]
        by_cases ei : i' = i
        · subst ei
          rw [decide_eq_true rfl, Bool.or_true]
          simp (disch := omega) only [wI_d, wD_i, fI_d, fD_i, wI_eq, wD_eq, wI_ne, wD_ne, fI_ne, fD_ne, wI_ns, wD_ns, fI_eq, fD_eq, fI_ns, fD_ns]
          exact ⟨rfl, fun _ => ⟨trivial, ox⟩⟩
        · rw [decide_eq_false (fun q => ei q.symm), Bool.or_false]
          simp (disch := omega) only [wI_d, wD_i, fI_d, fD_i, wI_eq, wD_eq, wI_ne, wD_ne, fI_ne, fD_ne, wI_ns, wD_ns, fI_eq, fD_eq, fI_ns, fD_ns]
          rw [c1 149 (by omega), c3]
          exact ⟨h1, h2⟩
      · have n1 : ¬ t' * 6 + r' = t * 6 + r := by omega
        refine ⟨m', hm', by simp (disch := omega) only [wI_d, wD_i, fI_d, fD_i, wI_eq, wD_eq, wI_ne, wD_ne, fI_ne, fD_ne, wI_ns, wD_ns, fI_eq, fD_eq, fI_ns, fD_ns]; exact em', Or.imp_right (fun q => ⟨q.1, by simp (disch := omega) only [wI_d, wD_i, fI_d, fD_i, wI_eq, wD_eq, wI_ne, wD_ne, fI_ne, fD_ne, wI_ns, wD_ns, fI_eq, fD_eq, fI_ns, fD_ns]; rw [c1 127 (by omega)]; exact q.2⟩) z', fun i' hi' => ?_⟩
        obtain ⟨h1, h2⟩ := hc' i' hi'
        simp (disch := omega) only [wI_d, wD_i, fI_d, fD_i, wI_eq, wD_eq, wI_ne, wD_ne, fI_ne, fD_ne, wI_ns, wD_ns, fI_eq, fD_eq, fI_ns, fD_ns]
        rw [c1 149 (by omega), c3]
        exact ⟨h1, h2⟩
    · intro hmx r' hr' t3' i' hi'
      simp (disch := omega) only [wI_d, wD_i, fI_d, fD_i, wI_eq, wD_eq, wI_ne, wD_ne, fI_ne, fD_ne, wI_ns, wD_ns, fI_eq, fD_eq, fI_ns, fD_ns]
      rw [c3]
      exact d6 hmx r' hr' t3' i' hi'
  · rw [if_neg t3] at hg hv
    subst hg
    subst hv
    refine ⟨?_, ?_, ?_, ?_, ?_, ?_⟩
    · simp (disch := omega) only [wI_d, wD_i, fI_d, fD_i, wI_eq, wD_eq, wI_ne, wD_ne, fI_ne, fD_ne, wI_ns, wD_ns, fI_eq, fD_eq, fI_ns, fD_ns]
      rw [c1 127 (by omega), c1 128 (by omega)]
      intro r' hr'
      obtain ⟨a, b⟩ := d1 r' hr'
      refine ⟨a, ?_⟩
      rcases b with ⟨b, c, d⟩ | ⟨b, c, d⟩
      · refine Or.inl ⟨b, c, fun i' hi' => ?_⟩
        have : ¬ r' = r := fun e => by
          rw [e] at b
          rw [b] at hn
          exact absurd hn (by decide)
        simp (disch := omega) only [wI_d, wD_i, fI_d, fD_i, wI_eq, wD_eq, wI_ne, wD_ne, fI_ne, fD_ne, wI_ns, wD_ns, fI_eq, fD_eq, fI_ns, fD_ns]
        exact d i' hi'
      · refine Or.inr ⟨b, c, fun i' hi' => ?_⟩
        by_cases e : 24 * r' + i' = 24 * r + i
        · rw [e]
          simp (disch := omega) only [wI_d, wD_i, fI_d, fD_i, wI_eq, wD_eq, wI_ne, wD_ne, fI_ne, fD_ne, wI_ns, wD_ns, fI_eq, fD_eq, fI_ns, fD_ns]
        · simp (disch := omega) only [wI_d, wD_i, fI_d, fD_i, wI_eq, wD_eq, wI_ne, wD_ne, fI_ne, fD_ne, wI_ns, wD_ns, fI_eq, fD_eq, fI_ns, fD_ns]
          rw [c3]
          exact d i' hi'
    · intro a ha
      by_cases e : a = 24 * r + i
      · subst e
        simp (disch := omega) only [wI_d, wD_i, fI_d, fD_i, wI_eq, wD_eq, wI_ne, wD_ne, fI_ne, fD_ne, wI_ns, wD_ns, fI_eq, fD_eq, fI_ns, fD_ns]
        exact ox
      · simp (disch := omega) only [wI_d, wD_i, fI_d, fD_i, wI_eq, wD_eq, wI_ne, wD_ne, fI_ne, fD_ne, wI_ns, wD_ns, fI_eq, fD_eq, fI_ns, fD_ns]
        rw [c3]
        exact d2 a ha
    · intro r' hn' i' hi'
      have : ¬ r' = r := fun e => by
        rw [e] at hn'
        rw [show (wI (wD v' 129 (24 * r + i) x) 130 (24 * r + i) (if T r = 2 then (if v.1 130 (24 * r + i) ≤ nI t then nI t else v.1 130 (24 * r + i)) else nI t)).1 127 = v'.1 127 by simp (disch := omega) only [wI_d, wD_i, fI_d, fD_i, wI_eq, wD_eq, wI_ne, wD_ne, fI_ne, fD_ne, wI_ns, wD_ns, fI_eq, fD_eq, fI_ns, fD_ns], c1 127 (by omega)] at hn'
        exact hn' hn
      simp (disch := omega) only [wI_d, wD_i, fI_d, fD_i, wI_eq, wD_eq, wI_ne, wD_ne, fI_ne, fD_ne, wI_ns, wD_ns, fI_eq, fD_eq, fI_ns, fD_ns]
      rw [c3]
      exact d3 r' (by
        intro q
        apply hn'
        simp (disch := omega) only [wI_d, wD_i, fI_d, fD_i, wI_eq, wD_eq, wI_ne, wD_ne, fI_ne, fD_ne, wI_ns, wD_ns, fI_eq, fD_eq, fI_ns, fD_ns]
        rw [c1 127 (by omega)]
        exact q) i' hi'
    · intro a ha
      by_cases e : a = 24 * r + i
      · subst e
        have ew := d4 (24 * r + i) ha
        simp (disch := omega) only [wI_d, wD_i, fI_d, fD_i, wI_eq, wD_eq, wI_ne, wD_ne, fI_ne, fD_ne, wI_ns, wD_ns, fI_eq, fD_eq, fI_ns, fD_ns]
        rw [ew]
        by_cases t2 : T r = 2
        · rw [if_pos t2, if_pos t2]
          by_cases q : v.1 130 (24 * r + i) < nI t
          · rw [if_pos q, if_pos (Int32.le_of_lt q)]
          · rw [if_neg q]
            by_cases q2 : v.1 130 (24 * r + i) ≤ nI t
            · rw [if_pos q2]
              exact Int32.le_antisymm q2 (Int32.not_lt.mp q)
            · rw [if_neg q2]
        · rw [if_neg t2, if_neg t2]
      · simp (disch := omega) only [wI_d, wD_i, fI_d, fD_i, wI_eq, wD_eq, wI_ne, wD_ne, fI_ne, fD_ne, wI_ns, wD_ns, fI_eq, fD_eq, fI_ns, fD_ns]
        rw [c1 130 (by omega)]
        exact d4 a ha
    · intro t' r' ht' hr'
      obtain ⟨m', hm', em', z', hc'⟩ := d5 t' r' ht' hr'
      refine ⟨m', hm', by simp (disch := omega) only [wI_d, wD_i, fI_d, fD_i, wI_eq, wD_eq, wI_ne, wD_ne, fI_ne, fD_ne, wI_ns, wD_ns, fI_eq, fD_eq, fI_ns, fD_ns]; exact em', Or.imp_right (fun q => ⟨q.1, by simp (disch := omega) only [wI_d, wD_i, fI_d, fD_i, wI_eq, wD_eq, wI_ne, wD_ne, fI_ne, fD_ne, wI_ns, wD_ns, fI_eq, fD_eq, fI_ns, fD_ns]; rw [c1 127 (by omega)]; exact q.2⟩) z', fun i' hi' => ?_⟩
      obtain ⟨h1, h2⟩ := hc' i' hi'
      simp (disch := omega) only [wI_d, wD_i, fI_d, fD_i, wI_eq, wD_eq, wI_ne, wD_ne, fI_ne, fD_ne, wI_ns, wD_ns, fI_eq, fD_eq, fI_ns, fD_ns]
      rw [c1 149 (by omega), c3]
      exact ⟨h1, h2⟩
    · intro hmx r' hr' t3' i' hi'
      have : ¬ r' = r := fun e => t3 (e ▸ t3')
      simp (disch := omega) only [wI_d, wD_i, fI_d, fD_i, wI_eq, wD_eq, wI_ne, wD_ne, fI_ne, fD_ne, wI_ns, wD_ns, fI_eq, fD_eq, fI_ns, fD_ns]
      rw [c3]
      exact d6 hmx r' hr' t3' i' hi'
