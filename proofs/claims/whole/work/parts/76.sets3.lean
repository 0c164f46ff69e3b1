/-! ===== the sets: the model's walk ===== -/
def MA (g h : sd_H) (A : Nat → Int32) : Prop :=
  (∀ c, ¬ c = 126 → ¬ c = 144 → ¬ c = 145 → g.1 c = h.1 c) ∧ (∀ k, ¬ k = 25 → g.1 126 k = h.1 126 k) ∧ g.2 = h.2 ∧ ∀ a, a < 240 → g.1 144 a = A a
def RM (g h : sd_H) (A C : Nat → Int32) (K : Bool) : Prop := MA g h A ∧ (∀ r, r < 6 → g.1 145 r = C r) ∧ g.1 126 25 = bi K
theorem RM_w {g h : sd_H} {A C : Nat → Int32} {K : Bool} {a : Nat} {x : Int32} (i : RM g h A C K) : RM (wI g 144 a x) h (up A a x) C K := by
  obtain ⟨⟨i1, i2, i3, i4⟩, e, f⟩ := i
  refine ⟨⟨fun c h1 h2 h3 => ?_, fun k hk => ?_, i3, fun b hb => ?_⟩, fun q hq => ?_, ?_⟩
  · simp (disch := omega) only [wI_d, wD_i, fI_d, fD_i, wI_eq, wD_eq, wI_ne, wD_ne, fI_ne, fD_ne, wI_ns, wD_ns, fI_eq, fD_eq, fI_ns, fD_ns]
    exact i1 c h1 h2 h3
  · simp (disch := omega) only [wI_d, wD_i, fI_d, fD_i, wI_eq, wD_eq, wI_ne, wD_ne, fI_ne, fD_ne, wI_ns, wD_ns, fI_eq, fD_eq, fI_ns, fD_ns]
    exact i2 k hk
  · by_cases z : b = a
    · subst z
      rw [wI_eq, up_s]
    · rw [up_n z, wI_ns z]
      exact i4 b hb
  · simp (disch := omega) only [wI_d, wD_i, fI_d, fD_i, wI_eq, wD_eq, wI_ne, wD_ne, fI_ne, fD_ne, wI_ns, wD_ns, fI_eq, fD_eq, fI_ns, fD_ns]
    exact e q hq
  · simp (disch := omega) only [wI_d, wD_i, fI_d, fD_i, wI_eq, wD_eq, wI_ne, wD_ne, fI_ne, fD_ne, wI_ns, wD_ns, fI_eq, fD_eq, fI_ns, fD_ns]
    exact f
theorem RM_c {g h : sd_H} {A C : Nat → Int32} {K : Bool} {r : Nat} {x : Int32} (i : RM g h A C K) : RM (wI g 145 r x) h A (up C r x) K := by
  obtain ⟨⟨i1, i2, i3, i4⟩, e, f⟩ := i
  refine ⟨⟨fun c h1 h2 h3 => ?_, fun k hk => ?_, i3, fun b hb => ?_⟩, fun q hq => ?_, ?_⟩
  · simp (disch := omega) only [wI_d, wD_i, fI_d, fD_i, wI_eq, wD_eq, wI_ne, wD_ne, fI_ne, fD_ne, wI_ns, wD_ns, fI_eq, fD_eq, fI_ns, fD_ns]
    exact i1 c h1 h2 h3
  · simp (disch := omega) only [wI_d, wD_i, fI_d, fD_i, wI_eq, wD_eq, wI_ne, wD_ne, fI_ne, fD_ne, wI_ns, wD_ns, fI_eq, fD_eq, fI_ns, fD_ns]
    exact i2 k hk
  · simp (disch := omega) only [wI_d, wD_i, fI_d, fD_i, wI_eq, wD_eq, wI_ne, wD_ne, fI_ne, fD_ne, wI_ns, wD_ns, fI_eq, fD_eq, fI_ns, fD_ns]
    exact i4 b hb
  · by_cases z : q = r
    · subst z
      rw [wI_eq, up_s]
    · rw [up_n z, wI_ns z]
      exact e q hq
  · simp (disch := omega) only [wI_d, wD_i, fI_d, fD_i, wI_eq, wD_eq, wI_ne, wD_ne, fI_ne, fD_ne, wI_ns, wD_ns, fI_eq, fD_eq, fI_ns, fD_ns]
    exact f
theorem RM_k {g h : sd_H} {A C : Nat → Int32} {K b : Bool} (i : RM g h A C K) : RM (wI g 126 25 (bi b)) h A C b := by
  obtain ⟨⟨i1, i2, i3, i4⟩, e, f⟩ := i
  refine ⟨⟨fun c h1 h2 h3 => ?_, fun k hk => ?_, i3, fun b hb => ?_⟩, fun q hq => ?_, ?_⟩
  · simp (disch := omega) only [wI_d, wD_i, fI_d, fD_i, wI_eq, wD_eq, wI_ne, wD_ne, fI_ne, fD_ne, wI_ns, wD_ns, fI_eq, fD_eq, fI_ns, fD_ns]
    exact i1 c h1 h2 h3
  · simp (disch := omega) only [wI_d, wD_i, fI_d, fD_i, wI_eq, wD_eq, wI_ne, wD_ne, fI_ne, fD_ne, wI_ns, wD_ns, fI_eq, fD_eq, fI_ns, fD_ns]
    exact i2 k hk
  · simp (disch := omega) only [wI_d, wD_i, fI_d, fD_i, wI_eq, wD_eq, wI_ne, wD_ne, fI_ne, fD_ne, wI_ns, wD_ns, fI_eq, fD_eq, fI_ns, fD_ns]
    exact i4 b hb
  · simp (disch := omega) only [wI_d, wD_i, fI_d, fD_i, wI_eq, wD_eq, wI_ne, wD_ne, fI_ne, fD_ne, wI_ns, wD_ns, fI_eq, fD_eq, fI_ns, fD_ns]
    exact e q hq
  · simp (disch := omega) only [wI_d, wD_i, fI_d, fD_i, wI_eq, wD_eq, wI_ne, wD_ne, fI_ne, fD_ne, wI_ns, wD_ns, fI_eq, fD_eq, fI_ns, fD_ns]
theorem MA_sl {g h : sd_H} {A : Nat → Int32} (i : MA g h A) : SL g h := by
  obtain ⟨c, k, d, _⟩ := i
  exact ⟨dn_c (c 127 (by omega) (by omega) (by omega)) (c 128 (by omega) (by omega) (by omega)) (by rw [d]) (c 134 (by omega) (by omega) (by omega)) (c 135 (by omega) (by omega) (by omega)) (c 136 (by omega) (by omega) (by omega)) (k 7 (by omega)), c 127 (by omega) (by omega) (by omega), c 128 (by omega) (by omega) (by omega), c 132 (by omega) (by omega) (by omega), c 133 (by omega) (by omega) (by omega), c 137 (by omega) (by omega) (by omega), c 138 (by omega) (by omega) (by omega), c 139 (by omega) (by omega) (by omega), c 140 (by omega) (by omega) (by omega), k 6 (by omega), k 7 (by omega)⟩
theorem MA_ik {g h : sd_H} {A : Nat → Int32} {k : Nat} (i : MA g h A) (hk : k < 5) (ik : ILk h h k) : ILk h g k := by
  have c := i.1
  exact ILk_c hk (fun c h1 h2 => rfl) (c 132 (by omega) (by omega) (by omega)) (c 133 (by omega) (by omega) (by omega)) (c 134 (by omega) (by omega) (by omega)) (c 135 (by omega) (by omega) (by omega)) (c 136 (by omega) (by omega) (by omega)) (c 137 (by omega) (by omega) (by omega)) (c 138 (by omega) (by omega) (by omega)) (c 139 (by omega) (by omega) (by omega)) (c 140 (by omega) (by omega) (by omega)) ik
theorem in_hp {v : sd_H} {r : Nat} {p : Int32} (iz : IZ (v.1 128)) (hr : r < 6) : wn p 0 (v.1 128 r - 1) = bi (decide (0 ≤ p) && decide (p < v.1 128 r)) := by
  obtain ⟨z, hz, ez⟩ := iz r hr
  rw [ez]
  by_cases a : 0 ≤ p
  · rw [decide_eq_true a]
    by_cases b : p < nI z
    · rw [decide_eq_true b]
      obtain ⟨j, hj, rfl⟩ := nI_of (Int32.not_lt.mpr a)
      rw [wn_inn ((nI_ltI hj (by omega)).mp b) (by omega)]
      rfl
    · rw [decide_eq_false b, wn_out (by omega) (Or.inr (Int32.not_lt.mp b))]
      rfl
  · rw [decide_eq_false a, wn_out (by omega) (Or.inl (Int32.not_le.mp a))]
    rfl
theorem YM_bitAt_e {v : sd_H} {e t j : Nat} (iz : IZ (v.1 128)) (he : e < 15) {r : Nat} (hr : r < 6) (er : v.1 137 e = nI r) : YM_bitAt v (nI e) (nI t) (nI j) = some (bt v e t j) := by
  have gr' : gr v e = r := by unfold gr; rw [er, nI_clamp (by omega)]
  unfold YM_bitAt
  rw [inB_n he (by omega), gd_t, YM_placeOf_e he, b1_s, nI_clamp (by omega), er, inB_n hr (by omega), gd_t, gd_t, nI_clamp (by omega), YM_isNumbers_e, b1_s, YM_in_e, b1_s, in_hp iz hr]
  unfold bt hp
  rw [gr']
  cases nb (v.1 127 r)
  · rfl
  · rw [if_neg (show ¬ bi true = 0 by decide), Bool.true_and]
    cases decide (0 ≤ pl v e t j) && decide (pl v e t j < v.1 128 r) <;> rfl
theorem bt_0 {v : sd_H} {e t j : Nat} {r : Nat} (iz : IZ (v.1 128)) (hr : r < 6) (er : gr v e = r) : (bt v e t j = 0) = (hp v r (pl v e t j) = false) := by
  by_cases c : hp v r (pl v e t j) = true
  · rw [bt_t (by rw [er]; exact c), c]
    obtain ⟨i, z, h1, h2, h3, h4⟩ := hp_in iz hr c
    rw [h3]
    have : ∀ i, i < 24 → ¬ (1 : Int32) <<< (nI i &&& 31) = 0 := by decide +kernel
    exact propext ⟨fun q => absurd q (this i (by omega)), fun q => absurd q (by decide)⟩
  · rw [bt_f (by rw [er]; exact c)]
    exact propext ⟨fun _ => Bool.eq_false_iff.mpr c, fun _ => rfl⟩
theorem YM_reads_e {g h : sd_H} {A C : Nat → Int32} {K : Bool} {k w t j : Nat} (iz : IZ (h.1 128)) (i : RM g h A C K) (ik : ILk h h k) (hk : k < 5) (hw : w < 3) (ht : t < 10) :
    ∃ g', YM_reads g (nI (3 * k + w)) (nI t) (nI j) = some (g', bi (ok h (3 * k + w) t j)) ∧ RM g' h (q_rd h (3 * k + w) t j C A) C K := by
  have sl := MA_sl i.1
  unfold YM_reads q_rd ok
  rw [YM_isLooked_e hk hw, b1_s, lk_c sl]
  by_cases l : lk h (3 * k + w) = true
  · rw [l, if_neg (show ¬ bi true = 0 by decide), if_pos rfl]
    obtain ⟨r, hr, c, gc⟩ := (ref_row ik hw).resolve_left (fun z => by
      have : lk h (3 * k + w) = false := by
        unfold lk
        rw [z.1]
        rfl
      rw [this] at l
      exact absurd l (by decide))
    have cg : g.1 137 (3 * k + w) = nI r := by rw [sl.2.2.2.2.2.1]; exact c
    rw [YM_bitAt_e (by rw [sl.2.2.1]; exact iz) (by omega) hr cg, b1_s, bt_c sl, inB_n (by omega) (by omega), gd_t, nI_clamp (by omega), cg, gc]
    have e1 : 24 * nI t + nI r = nI (24 * t + r) := by rw [lit 24, pk_mul, nI_add]
    have e2 : 24 * nI t + 18 + nI r = nI (24 * t + 18 + r) := by rw [lit 24, lit 18, pk_mul, nI_add, nI_add]
    have c2 : ∀ x, (wI g 144 (24 * t + r) x).1 137 (3 * k + w) = nI r := fun x => by simp (disch := omega) only [wI_d, wD_i, fI_d, fD_i, wI_eq, wD_eq, wI_ne, wD_ne, fI_ne, fD_ne, wI_ns, wD_ns, fI_eq, fD_eq, fI_ns, fD_ns]; exact cg
    rw [e1, e2, inB_n (show 24 * t + r < 240 by omega) (by omega), inB_n (show 24 * t + 18 + r < 240 by omega) (by omega), inB_n hr (by omega), gd_t, gd_t, nI_clamp (by omega), hb_s, gd_t, gd_t, gd_t, nI_clamp (by omega), nI_clamp (by omega), hb_s]
    have i1 := RM_w (a := 24 * t + r) (x := g.1 144 (24 * t + r) ||| bt h (3 * k + w) t j) i
    have i2 := RM_w (a := 24 * t + 18 + r) (x := (wI g 144 (24 * t + r) (g.1 144 (24 * t + r) ||| bt h (3 * k + w) t j)).1 144 (24 * t + 18 + r) ||| (bt h (3 * k + w) t j &&& ((wI g 144 (24 * t + r) (g.1 144 (24 * t + r) ||| bt h (3 * k + w) t j)).1 145 r ^^^ (-1)))) i1
    have f1 : g.1 144 (24 * t + r) = A (24 * t + r) := i.1.2.2.2 _ (by omega)
    have f2 : (wI g 144 (24 * t + r) (g.1 144 (24 * t + r) ||| bt h (3 * k + w) t j)).1 144 (24 * t + 18 + r) = A (24 * t + 18 + r) := by
      simp (disch := omega) only [wI_d, wD_i, fI_d, fD_i, wI_eq, wD_eq, wI_ne, wD_ne, fI_ne, fD_ne, wI_ns, wD_ns, fI_eq, fD_eq, fI_ns, fD_ns]
      exact i.1.2.2.2 _ (by omega)
    have f3 : (wI g 144 (24 * t + r) (g.1 144 (24 * t + r) ||| bt h (3 * k + w) t j)).1 145 r = C r := by
      simp (disch := omega) only [wI_d, wD_i, fI_d, fD_i, wI_eq, wD_eq, wI_ne, wD_ne, fI_ne, fD_ne, wI_ns, wD_ns, fI_eq, fD_eq, fI_ns, fD_ns]
      exact i.2.1 r hr
    rw [f2, f3, f1] at i2
    rw [f2, f3, f1, itp (bt_0 iz hr gc)]
    refine ⟨_, ?_, i2⟩
    cases hp h r (pl h (3 * k + w) t j) <;> rfl
  · rw [Bool.eq_false_iff.mpr l, if_pos (show bi false = 0 from rfl), if_neg (show ¬ false = true by decide)]
    exact ⟨g, rfl, i⟩
theorem up_or0 {A : Nat → Int32} {i : Nat} : up A i (A i ||| 0) = A := by
  refine funext fun j => ?_
  unfold up
  split
  · rename_i h
    rw [h, Int32.or_zero]
  · rfl
theorem YM_knows_e {g h : sd_H} {A C : Nat → Int32} {K : Bool} {k t j : Nat} (iz : IZ (h.1 128)) (i : RM g h A C K) (ik : ILk h h k) (hk : k < 5) (ht : t < 10) :
    ∃ g', YM_knows g (nI k) (nI t) (nI j) = some (g', bi (q_it h k t j (A, C, K, true)).2.2.2) ∧ RM g' h (q_it h k t j (A, C, K, true)).1 (q_it h k t j (A, C, K, true)).2.1 (q_it h k t j (A, C, K, true)).2.2.1 := by
  obtain ⟨r, hr, c, gc⟩ := (ref_row ik (show 0 < 3 by omega)).resolve_left (fun z => z.2 rfl)
  rw [Nat.add_zero] at c gc
  unfold YM_knows q_it
  rw [show (3 : Int32) * nI k = nI (3 * k) by rw [lit 3, pk_mul], show nI (3 * k) + 2 = nI (3 * k + 2) by rw [lit 2, nI_add], nI_1]
  obtain ⟨g1, e1, i1⟩ := YM_reads_e (j := j) iz i ik hk (show 1 < 3 by omega) ht
  rw [e1, b2_s, itp (bi_0 _)]
  dsimp only
  cases o1 : ok h (3 * k + 1) t j
  · rw [if_pos rfl, if_neg (show ¬ false = true by decide)]
    exact ⟨g1, rfl, i1⟩
  rw [if_neg (show ¬ true = false by decide), if_pos rfl]
  obtain ⟨g2, e2, i2⟩ := YM_reads_e (j := j) iz i1 ik hk (show 2 < 3 by omega) ht
  rw [e2, b2_s, itp (bi_0 _)]
  cases o2 : ok h (3 * k + 2) t j
  · rw [if_pos rfl, if_neg (show ¬ false = true by decide)]
    exact ⟨g2, rfl, i2⟩
  rw [if_neg (show ¬ true = false by decide), if_pos rfl]
  have sl := MA_sl i2.1
  have cg : g2.1 137 (3 * k) = nI r := by rw [sl.2.2.2.2.2.1]; exact c
  obtain ⟨o, ho, eo⟩ := ik.1.2.2.2.2.2.1
  have co : g2.1 132 k = h.1 132 k := by rw [sl.2.2.2.1]
  rw [YM_bitAt_e (by rw [sl.2.2.1]; exact iz) (show 3 * k < 15 by omega) hr cg, b1_s, bt_c sl, inB_n (by omega) (by omega), gd_t, inB_n hk (by omega), gd_t, nI_clamp (by omega), nI_clamp (by omega), cg, co, i2.2.2, itp (bi_0 _), gc]
  obtain ⟨A2, hA2⟩ : ∃ A2, q_rd h (3 * k + 2) t j C (q_rd h (3 * k + 1) t j C A) = A2 := ⟨_, rfl⟩
  rw [hA2] at i2 ⊢
  have b0 := bt_0 (v := h) (e := 3 * k) (t := t) (j := j) iz hr gc
  obtain ⟨b, hb⟩ : ∃ b, bt h (3 * k) t j = b := ⟨_, rfl⟩
  rw [hb] at b0 ⊢
  have B84 : ∀ D : Bool, ∃ g', YM_knows_B84 g2 (nI t) b (nI r) (h.1 132 k) (bi D) = some (g', bi (hp h r (pl h (3 * k) t j))) ∧
      RM g' h (if h.1 132 k = 10 then up A2 (24 * t + 6 + r) (A2 (24 * t + 6 + r) ||| b) else if D = true then up A2 (24 * t + 6 + r) (A2 (24 * t + 6 + r) ||| b) else up (up A2 (24 * t + 6 + r) (A2 (24 * t + 6 + r) ||| b)) (24 * t + 12 + r) ((up A2 (24 * t + 6 + r) (A2 (24 * t + 6 + r) ||| b)) (24 * t + 12 + r) ||| b))
        (if h.1 132 k = 10 then C else up C r (C r ||| b)) D := fun D => by
    unfold YM_knows_B84 YM_knows_B137 YM_knows_B143 YM_knows_B166
    have f1 : 24 * nI t + 6 + nI r = nI (24 * t + 6 + r) := by rw [lit 24, lit 6, pk_mul, nI_add, nI_add]
    have f2 : 24 * nI t + 12 + nI r = nI (24 * t + 12 + r) := by rw [lit 24, lit 12, pk_mul, nI_add, nI_add]
    rw [f1, f2, inB_n (show 24 * t + 6 + r < 240 by omega) (by omega), inB_n (show 24 * t + 12 + r < 240 by omega) (by omega), inB_n hr (by omega), bi_B, gd_t, hb_s, gd_t, gd_t, hb_s, gd_t, nI_clamp (by omega), nI_clamp (by omega), nI_clamp (by omega), gd_t]
    simp only [gd_t, hb_s]
    have j1 := RM_k (b := D) i2
    have j2 := RM_w (a := 24 * t + 6 + r) (x := (wI g2 126 25 (bi D)).1 144 (24 * t + 6 + r) ||| b) j1
    have k1 : (wI g2 126 25 (bi D)).1 144 (24 * t + 6 + r) = A2 (24 * t + 6 + r) := by
      simp (disch := omega) only [wI_d, wD_i, fI_d, fD_i, wI_eq, wD_eq, wI_ne, wD_ne, fI_ne, fD_ne, wI_ns, wD_ns, fI_eq, fD_eq, fI_ns, fD_ns]
      exact i2.1.2.2.2 _ (by omega)
    rw [k1] at j2 ⊢
    obtain ⟨A3, hA3⟩ : ∃ A3, up A2 (24 * t + 6 + r) (A2 (24 * t + 6 + r) ||| b) = A3 := ⟨_, rfl⟩
    rw [hA3] at j2 ⊢
    obtain ⟨g3, hg3⟩ : ∃ g3, wI (wI g2 126 25 (bi D)) 144 (24 * t + 6 + r) (A2 (24 * t + 6 + r) ||| b) = g3 := ⟨_, rfl⟩
    rw [hg3] at j2 ⊢
    have l0 : ∀ G : sd_H, (if b = 0 then some (G, (0 : Int32)) else some (G, 1)) = some (G, bi (hp h r (pl h (3 * k) t j))) := fun G => by
      rw [itp b0]
      cases hp h r (pl h (3 * k) t j) <;> rfl
    have or0 : ∀ x : Int32, x ||| 0 = x := fun x => Int32.or_zero
    have s0 : g3.1 144 (24 * t + 12 + r) = A3 (24 * t + 12 + r) := j2.1.2.2.2 _ (by omega)
    have nb' : ∀ (X : Int32), RM (wI (wI g3 144 (24 * t + 12 + r) (g3.1 144 (24 * t + 12 + r) ||| 0)) 145 r X) h A3 (up C r X) D := fun X => by
      have := RM_w (a := 24 * t + 12 + r) (x := g3.1 144 (24 * t + 12 + r) ||| 0) j2
      rw [s0, up_or0] at this
      rw [s0]
      exact RM_c this
    have rc : ∀ y : Int32, (wI g3 144 (24 * t + 12 + r) y).1 145 r = C r := fun y => by
      simp (disch := omega) only [wI_d, wD_i, fI_d, fD_i, wI_eq, wD_eq, wI_ne, wD_ne, fI_ne, fD_ne, wI_ns, wD_ns, fI_eq, fD_eq, fI_ns, fD_ns]
      exact j2.2.1 r hr
    by_cases p : h.1 132 k = 10
    · rw [if_pos p, if_pos p, if_pos p, if_pos p, l0, rc]
      refine ⟨_, rfl, ?_⟩
      have := nb' (C r ||| 0)
      rw [up_or0] at this
      exact this
    · rw [if_neg p, if_neg p, if_neg p, j2.2.2, itp (bi_0 _)]
      cases D
      · rw [if_pos rfl, if_neg (show ¬ false = true by decide), if_neg p, if_neg p, l0, rc]
        refine ⟨_, rfl, ?_⟩
        have := RM_w (a := 24 * t + 12 + r) (x := g3.1 144 (24 * t + 12 + r) ||| b) j2
        rw [s0] at this ⊢
        exact RM_c this
      · rw [if_neg (show ¬ true = false by decide), if_pos rfl, if_neg p, if_neg p, l0, rc]
        exact ⟨_, rfl, nb' _⟩
  unfold YM_knows_B83 YM_knows_B79
  by_cases hh : hp h r (pl h (3 * k) t j) = true
  · have nb0 : ¬ b = 0 := by
      rw [b0, hh]
      decide
    obtain ⟨g', x1, x2⟩ := B84 (K || decide (11 ≤ h.1 132 k))
    rw [hh] at x1
    rw [if_pos hh, if_neg nb0]
    refine ⟨g', ?_, x2⟩
    cases K
    · rw [if_pos rfl]
      by_cases q : 11 ≤ h.1 132 k
      · rw [if_neg (Int32.not_lt.mpr q)]
        rw [decide_eq_true q] at x1
        exact x1
      · rw [if_pos (Int32.not_le.mp q)]
        rw [decide_eq_false q] at x1
        exact x1
    · rw [if_neg (show ¬ true = false by decide)]
      exact x1
  · have hf := Bool.eq_false_iff.mpr hh
    have bz : b = 0 := by
      rw [b0]
      exact hf
    obtain ⟨g', x1, x2⟩ := B84 K
    rw [hf] at x1
    rw [if_neg hh, if_pos bz]
    refine ⟨g', ?_, ?_⟩
    · cases K
      · rw [if_pos rfl]
        exact x1
      · rw [if_neg (show ¬ true = false by decide)]
        exact x1
    · rw [bz] at x2
      simp only [up_or0, ite_self] at x2
      exact x2
theorem q_items_RM {h : sd_H} (iz : IZ (h.1 128)) {k t b S : Nat} (ik : ILk h h k) (hk : k < S) (hS : S ≤ 5) (e7 : h.1 126 7 = nI S) (ht : t < 10) (hb5 : b ≤ 5) (eb : h.1 133 k = nI b) (d : dn h k t = true) (KK : sd_H → Int32 → Int32 → Int32 → Option sd_H) :
    ∀ m f j (g : sd_H) A C K, j + m = b → m < f → RM g h A C K →
    ∃ g', YM_findsTurn_L45 KK f g (nI t) 1 (nI k) (nI j) = KK g' (nI t) (bi (q_its h k t m j (A, C, K, true)).2.2.2) (nI (k + 1)) ∧
      RM g' h (q_its h k t m j (A, C, K, true)).1 (q_its h k t m j (A, C, K, true)).2.1 (q_its h k t m j (A, C, K, true)).2.2.1
  | _, 0, _, _, _, _, _, _, q, _ => absurd q (Nat.not_lt_zero _)
  | 0, f + 1, j, g, A, C, K, e, _, i => by
    have sl := MA_sl i.1
    unfold YM_findsTurn_L45 YM_findsTurn_B84
    rw [inB_n (by omega) (by omega), gd_t, nI_clamp (by omega), sl.2.2.2.2.1, eb, if_pos (nI_le (by omega) (by omega)), nI_1]
    exact ⟨g, rfl, i⟩
  | m + 1, f + 1, j, g, A, C, K, e, q, i => by
    have sl := MA_sl i.1
    have ik' := MA_ik i.1 (by omega) ik
    unfold YM_findsTurn_L45 YM_findsTurn_B84 q_its
    rw [inB_n (by omega) (by omega), gd_t, nI_clamp (by omega), sl.2.2.2.2.1, eb, if_neg (nI_ge (by omega) (by omega)), if_neg (show ¬ (1 : Int32) = 0 by decide), YM_isDone_e (S := S) (by rw [sl.2.2.1]; exact iz) ik' hk hS (by rw [sl.2.2.2.2.2.2.2.2.2.2]; exact e7) ht, b1_s, sl.1, d, if_neg (show ¬ bi true = 0 by decide), nI_1]
    obtain ⟨g1, e1, i1⟩ := YM_knows_e (j := j) iz i ik (by omega) ht
    rw [e1, b2_s]
    dsimp only
    obtain ⟨A', C', K', F', es⟩ : ∃ A' C' K' F', q_it h k t j (A, C, K, true) = (A', C', K', F') := ⟨_, _, _, _, rfl⟩
    rw [es] at i1 ⊢
    dsimp only at i1 ⊢
    cases F'
    · rw [if_neg (show ¬ false = true by decide)]
      obtain ⟨f, rfl⟩ : ∃ f', f = f' + 1 := ⟨f - 1, by omega⟩
      unfold YM_findsTurn_L45 YM_findsTurn_B84
      rw [inB_n (by omega) (by omega), gd_t, if_pos (show bi false = 0 from rfl), nI_1]
      refine ⟨g1, ?_, i1⟩
      split <;> rfl
    · rw [if_pos rfl, bi_t]
      exact q_items_RM iz ik hk hS e7 ht hb5 eb d KK m f (j + 1) g1 A' C' K' (by omega) (by omega) i1
theorem q_sts_RM {h : sd_H} (iz : IZ (h.1 128)) {N S t : Nat} (il : IL h h N S) (ht : t < 10) :
    ∀ m f k (g : sd_H) A C K, k + m = S → m < f → RM g h A C K →
    ∃ g' C' K', YM_findsTurn_L30 f g (nI t) 1 (nI k) = some g' ∧ RM g' h (q_sts h t m k (A, C, K, true)).1 C' K'
  | _, 0, _, _, _, _, _, _, q, _ => absurd q (Nat.not_lt_zero _)
  | 0, f + 1, k, g, A, C, K, e, _, i => by
    have hS := il.2.1
    have sl := MA_sl i.1
    unfold YM_findsTurn_L30
    rw [sl.2.2.2.2.2.2.2.2.2.2, il.2.2.2.2.2.1, if_pos (nI_le (by omega) (by omega))]
    exact ⟨g, C, K, rfl, i⟩
  | m + 1, f + 1, k, g, A, C, K, e, q, i => by
    have hS := il.2.1
    have sl := MA_sl i.1
    have ik := il.2.2.2.2.2.2 k (by omega)
    have ik' := MA_ik i.1 (by omega) ik
    obtain ⟨b, b1', b5, eb⟩ := ik.1.2.2.2.2.2.2.1
    unfold YM_findsTurn_L30 q_sts
    rw [sl.2.2.2.2.2.2.2.2.2.2, il.2.2.2.2.2.1, if_neg (nI_ge (by omega) (by omega)), if_neg (show ¬ (1 : Int32) = 0 by decide), eb, nI_clamp (by omega)]
    dsimp only
    by_cases d : dn h k t = true
    · rw [if_pos d]
      obtain ⟨g1, e1, i1⟩ := q_items_RM iz ik (show k < S by omega) hS il.2.2.2.2.2.1 ht b5 eb d (YM_findsTurn_L30 f) b FU 0 g A C K (by omega) (by rw [FU_s]; omega) i
      rw [nI_0] at e1
      rw [e1]
      obtain ⟨A', C', K', F', es⟩ : ∃ A' C' K' F', q_its h k t b 0 (A, C, K, true) = (A', C', K', F') := ⟨_, _, _, _, rfl⟩
      rw [es] at i1 ⊢
      dsimp only at i1 ⊢
      cases F'
      · rw [if_neg (show ¬ false = true by decide)]
        refine ⟨g1, _, _, ?_, i1⟩
        obtain ⟨f, rfl⟩ : ∃ f', f = f' + 1 := ⟨f - 1, by omega⟩
        unfold YM_findsTurn_L30
        rw [if_pos (show bi false = 0 from rfl)]
        split <;> rfl
      · rw [if_pos rfl, bi_t]
        exact q_sts_RM iz il ht m f (k + 1) g1 A' C' K' (by omega) (by omega) i1
    · rw [if_neg d, if_pos rfl, show FU = 99999 + 1 from rfl]
      unfold YM_findsTurn_L45 YM_findsTurn_B84
      rw [inB_n (by omega) (by omega), gd_t, nI_clamp (by omega), sl.2.2.2.2.1, eb, if_neg (show ¬ nI b ≤ 0 from nI_nle (by omega) (by omega)), if_neg (show ¬ (1 : Int32) = 0 by decide), YM_isDone_e (S := S) (by rw [sl.2.2.1]; exact iz) ik' (by omega) hS (by rw [sl.2.2.2.2.2.2.2.2.2.2]; exact il.2.2.2.2.2.1) ht, b1_s, sl.1, Bool.eq_false_iff.mpr d, if_pos (show bi false = 0 from rfl), nI_1]
      exact q_sts_RM iz il ht m f (k + 1) g A C K (by omega) (by omega) i
theorem YM_findsTurn_L7_e {t : Nat} : ∀ m f r (g : sd_H), r + m = 6 → m < f → YM_findsTurn_L7 f g (nI t) (nI r) = YM_findsTurn_L30 FU (fI g 145 r 6 0) (nI t) 1 0
  | _, 0, _, _, _, q => absurd q (Nat.not_lt_zero _)
  | 0, f + 1, r, g, e, _ => by
    unfold YM_findsTurn_L7
    simp (disch := omega) only [lit 2, lit 3, lit 4, lit 5, lit 6, lit 9, lit 10, lit 11, lit 12, lit 18, lit 20, lit 22, lit 23, lit 24, lit 60, lit 63, lit 64, lit 100, lit 120, lit 144, lit 240, lit 255, lit 1440, nI_leI, nI_ltI, nI_eqI, nI_add, nI_1, nI_1a, nI_m1, pk_mul, pk_sub, pk_rem, pk_div, nI_clamp, inB_n, nI_ne_m1, m1_ne_nI, nI_nle0, nI_nlt0, n0lt, n0le, n0eq, n1eq, nle0, nlt0, gd_t, b1_s, b2_s, hb_s, sd_isB_0, sd_isB_1]
    rw [if_pos (by omega), fI_nil _ _ (by omega)]
  | m + 1, f + 1, r, g, e, q => by
    unfold YM_findsTurn_L7
    simp (disch := omega) only [lit 2, lit 3, lit 4, lit 5, lit 6, lit 9, lit 10, lit 11, lit 12, lit 18, lit 20, lit 22, lit 23, lit 24, lit 60, lit 63, lit 64, lit 100, lit 120, lit 144, lit 240, lit 255, lit 1440, nI_leI, nI_ltI, nI_eqI, nI_add, nI_1, nI_1a, nI_m1, pk_mul, pk_sub, pk_rem, pk_div, nI_clamp, inB_n, nI_ne_m1, m1_ne_nI, nI_nle0, nI_nlt0, n0lt, n0le, n0eq, n1eq, nle0, nlt0, gd_t, b1_s, b2_s, hb_s, sd_isB_0, sd_isB_1]
    rw [if_neg (by omega), YM_findsTurn_L7_e m f (r + 1) _ (by omega) (by omega), fI_st (by omega)]
theorem YM_findsTurn_e {g h : sd_H} (iz : IZ (h.1 128)) {N S t : Nat} {A : Nat → Int32} (il : IL h h N S) (ht : t < 10) (i : MA g h A) : ∃ g', YM_findsTurn g (nI t) = some g' ∧ MA g' h (q_tn h t A) := by
  obtain ⟨a, b, c, d⟩ := i
  have i0 : RM (fI (wI g 126 25 0) 145 0 6 0) h A (fun _ => 0) false := by
    refine ⟨⟨fun c' h1 h2 h3 => ?_, fun k hk => ?_, c, fun a' ha' => ?_⟩, fun q hq => ?_, ?_⟩
    · simp (disch := omega) only [wI_d, wD_i, fI_d, fD_i, wI_eq, wD_eq, wI_ne, wD_ne, fI_ne, fD_ne, wI_ns, wD_ns, fI_eq, fD_eq, fI_ns, fD_ns]
      exact a c' h1 h2 h3
    · simp (disch := omega) only [wI_d, wD_i, fI_d, fD_i, wI_eq, wD_eq, wI_ne, wD_ne, fI_ne, fD_ne, wI_ns, wD_ns, fI_eq, fD_eq, fI_ns, fD_ns]
      exact b k hk
    · simp (disch := omega) only [wI_d, wD_i, fI_d, fD_i, wI_eq, wD_eq, wI_ne, wD_ne, fI_ne, fD_ne, wI_ns, wD_ns, fI_eq, fD_eq, fI_ns, fD_ns]
      exact d a' ha'
    · simp (disch := omega) only [wI_d, wD_i, fI_d, fD_i, wI_eq, wD_eq, wI_ne, wD_ne, fI_ne, fD_ne, wI_ns, wD_ns, fI_eq, fD_eq, fI_ns, fD_ns]
    · simp (disch := omega) only [wI_d, wD_i, fI_d, fD_i, wI_eq, wD_eq, wI_ne, wD_ne, fI_ne, fD_ne, wI_ns, wD_ns, fI_eq, fD_eq, fI_ns, fD_ns]
      rfl
  obtain ⟨g', C', K', e, i'⟩ := q_sts_RM iz il ht S FU 0 _ A _ _ (by omega) (by have := il.2.1; rw [FU_s]; omega) i0
  refine ⟨g', ?_, ?_⟩
  · unfold YM_findsTurn
    rw [hb_s, show (0 : Int32) = nI 0 from rfl, YM_findsTurn_L7_e 6 FU 0 _ (by omega) (by rw [FU_s]; omega)]
    exact e
  · unfold q_tn
    rw [il.2.2.2.2.2.1, nI_clamp (by have := il.2.1; omega)]
    exact i'.1
theorem YM_findsSets_L24_e {h : sd_H} (iz : IZ (h.1 128)) {N S : Nat} (il : IL h h N S) : ∀ m f t (g : sd_H) A, t + m = N → m < f → MA g h A →
    ∃ g', YM_findsSets_L24 f g (nI t) = some g' ∧ MA g' h (q_tns h m t A)
  | _, 0, _, _, _, _, q, _ => absurd q (Nat.not_lt_zero _)
  | 0, f + 1, t, g, A, e, _, i => by
    have hN := il.1
    unfold YM_findsSets_L24
    rw [i.2.1 6 (by omega), il.2.2.2.1, if_pos (nI_le (by omega) (by omega))]
    exact ⟨g, rfl, i⟩
  | m + 1, f + 1, t, g, A, e, q, i => by
    have hN := il.1
    unfold YM_findsSets_L24
    rw [i.2.1 6 (by omega), il.2.2.2.1, if_neg (nI_ge (by omega) (by omega))]
    obtain ⟨g1, e1, i1⟩ := YM_findsTurn_e iz il (show t < 10 by omega) i
    rw [e1, b1_s, nI_1]
    exact YM_findsSets_L24_e iz il m f (t + 1) g1 _ (by omega) (by omega) i1
theorem YM_findsSets_L2_e : ∀ m f a (g : sd_H), a + m = 240 → m < f → YM_findsSets_L2 f g (nI a) = YM_findsSets_L24 FU (fI g 144 a 240 0) 0
  | _, 0, _, _, _, q => absurd q (Nat.not_lt_zero _)
  | 0, f + 1, a, g, e, _ => by
    unfold YM_findsSets_L2
    simp (disch := omega) only [lit 2, lit 3, lit 4, lit 5, lit 6, lit 9, lit 10, lit 11, lit 12, lit 18, lit 20, lit 22, lit 23, lit 24, lit 60, lit 63, lit 64, lit 100, lit 120, lit 144, lit 240, lit 255, lit 1440, nI_leI, nI_ltI, nI_eqI, nI_add, nI_1, nI_1a, nI_m1, pk_mul, pk_sub, pk_rem, pk_div, nI_clamp, inB_n, nI_ne_m1, m1_ne_nI, nI_nle0, nI_nlt0, n0lt, n0le, n0eq, n1eq, nle0, nlt0, gd_t, b1_s, b2_s, hb_s, sd_isB_0, sd_isB_1]
    rw [if_pos (by omega), fI_nil _ _ (by omega)]
  | m + 1, f + 1, a, g, e, q => by
    unfold YM_findsSets_L2
    simp (disch := omega) only [lit 2, lit 3, lit 4, lit 5, lit 6, lit 9, lit 10, lit 11, lit 12, lit 18, lit 20, lit 22, lit 23, lit 24, lit 60, lit 63, lit 64, lit 100, lit 120, lit 144, lit 240, lit 255, lit 1440, nI_leI, nI_ltI, nI_eqI, nI_add, nI_1, nI_1a, nI_m1, pk_mul, pk_sub, pk_rem, pk_div, nI_clamp, inB_n, nI_ne_m1, m1_ne_nI, nI_nle0, nI_nlt0, n0lt, n0le, n0eq, n1eq, nle0, nlt0, gd_t, b1_s, b2_s, hb_s, sd_isB_0, sd_isB_1]
    rw [if_neg (by omega), YM_findsSets_L2_e m f (a + 1) _ (by omega) (by omega), fI_st (by omega)]
/-- the model's own cells of the sets have changed -/
theorem MA_iv {g h : sd_H} {A : Nat → Int32} (i : MA g h A) (iv : Iv h h) : Iv g g := by
  obtain ⟨c, e, d, _⟩ := i
  refine Iv_c (c 2 (by omega) (by omega) (by omega)) (c 3 (by omega) (by omega) (by omega)) (by rw [d]) (c 5 (by omega) (by omega) (by omega)) (fun q h1 h2 => c q (by omega) (by omega) (by omega)) (c 33 (by omega) (by omega) (by omega)) (fun q h1 h2 => c q (by omega) (by omega) (by omega)) (c 55 (by omega) (by omega) (by omega)) (by rw [c 0 (by omega) (by omega) (by omega)])
    (c 107 (by omega) (by omega) (by omega)) (c 108 (by omega) (by omega) (by omega)) (c 109 (by omega) (by omega) (by omega)) (by rw [c 56 (by omega) (by omega) (by omega)]) (fun q h1 => c (58 + q) (by omega) (by omega) (by omega))
    (c 127 (by omega) (by omega) (by omega)) (c 128 (by omega) (by omega) (by omega)) (by rw [d]) (c 130 (by omega) (by omega) (by omega)) (c 132 (by omega) (by omega) (by omega)) (c 133 (by omega) (by omega) (by omega)) (c 134 (by omega) (by omega) (by omega)) (c 135 (by omega) (by omega) (by omega)) (c 136 (by omega) (by omega) (by omega)) (c 137 (by omega) (by omega) (by omega)) (c 138 (by omega) (by omega) (by omega)) (c 139 (by omega) (by omega) (by omega)) (c 140 (by omega) (by omega) (by omega))
    (e 6 (by omega)) (e 7 (by omega)) (c 141 (by omega) (by omega) (by omega)) (e 18 (by omega)) (e 20 (by omega)) (c 142 (by omega) (by omega) (by omega)) (by rw [c 0 (by omega) (by omega) (by omega), e 4 (by omega)]; exact iv.2.2.2.2.2.2.1)
    (e 34 (by omega)) (e 37 (by omega)) (c 150 (by omega) (by omega) (by omega)) (c 151 (by omega) (by omega) (by omega)) iv
/-- the model finds the sets -/
theorem findsSets_w {h : sd_H} {N S : Nat} (iz : IZ (h.1 128)) (il : IL h h N S) : ∃ g, YM_findsSets h = some g ∧ MA g h (q_al h) := by
  have i0 : MA (fI h 144 0 240 0) h (fun _ => 0) := by
    refine ⟨fun c' h1 h2 h3 => ?_, fun k hk => ?_, rfl, fun a' ha' => ?_⟩
    · simp (disch := omega) only [wI_d, wD_i, fI_d, fD_i, wI_eq, wD_eq, wI_ne, wD_ne, fI_ne, fD_ne, wI_ns, wD_ns, fI_eq, fD_eq, fI_ns, fD_ns]
    · simp (disch := omega) only [wI_d, wD_i, fI_d, fD_i, wI_eq, wD_eq, wI_ne, wD_ne, fI_ne, fD_ne, wI_ns, wD_ns, fI_eq, fD_eq, fI_ns, fD_ns]
    · simp (disch := omega) only [wI_d, wD_i, fI_d, fD_i, wI_eq, wD_eq, wI_ne, wD_ne, fI_ne, fD_ne, wI_ns, wD_ns, fI_eq, fD_eq, fI_ns, fD_ns]
  obtain ⟨g, e, i⟩ := YM_findsSets_L24_e iz il N FU 0 _ _ (by omega) (by have := il.1; rw [FU_s]; omega) i0
  have qa : q_tns h N 0 (fun _ => 0) = q_al h := by
    unfold q_al
    rw [il.2.2.2.1, nI_clamp (by have := il.1; omega)]
  rw [qa] at i
  refine ⟨g, ?_, i⟩
  unfold YM_findsSets
  rw [show (0 : Int32) = nI 0 from rfl, YM_findsSets_L2_e 240 FU 0 h (by omega) (by rw [FU_s]; omega)]
  exact e
theorem MA_il {g h : sd_H} {A : Nat → Int32} {N S : Nat} (i : MA g h A) (il : IL h h N S) : IL g g N S := by
  obtain ⟨c, e, d, _⟩ := i
  exact IL_c (fun c' h1 h2 => c c' (by omega) (by omega) (by omega)) (c 132 (by omega) (by omega) (by omega)) (c 133 (by omega) (by omega) (by omega)) (c 134 (by omega) (by omega) (by omega)) (c 135 (by omega) (by omega) (by omega)) (c 136 (by omega) (by omega) (by omega)) (c 137 (by omega) (by omega) (by omega)) (c 138 (by omega) (by omega) (by omega)) (c 139 (by omega) (by omega) (by omega)) (c 140 (by omega) (by omega) (by omega)) (e 6 (by omega)) (e 7 (by omega)) il
theorem findsSets_e {h : sd_H} (iv : Iv h h) : ∃ g, YM_findsSets h = some g ∧ MA g h (q_al h) ∧ Iv g g := by
  obtain ⟨N, S, il, ih⟩ := iv.2.2.2.2.1
  have i0 : MA (fI h 144 0 240 0) h (fun _ => 0) := by
    refine ⟨fun c' h1 h2 h3 => ?_, fun k hk => ?_, rfl, fun a' ha' => ?_⟩
    · simp (disch := omega) only [wI_d, wD_i, fI_d, fD_i, wI_eq, wD_eq, wI_ne, wD_ne, fI_ne, fD_ne, wI_ns, wD_ns, fI_eq, fD_eq, fI_ns, fD_ns]
    · simp (disch := omega) only [wI_d, wD_i, fI_d, fD_i, wI_eq, wD_eq, wI_ne, wD_ne, fI_ne, fD_ne, wI_ns, wD_ns, fI_eq, fD_eq, fI_ns, fD_ns]
    · simp (disch := omega) only [wI_d, wD_i, fI_d, fD_i, wI_eq, wD_eq, wI_ne, wD_ne, fI_ne, fD_ne, wI_ns, wD_ns, fI_eq, fD_eq, fI_ns, fD_ns]
  obtain ⟨g, e, i⟩ := YM_findsSets_L24_e iv.2.2.1 il N FU 0 _ _ (by omega) (by have := il.1; rw [FU_s]; omega) i0
  have qa : q_tns h N 0 (fun _ => 0) = q_al h := by
    unfold q_al
    rw [il.2.2.2.1, nI_clamp (by have := il.1; omega)]
  rw [qa] at i
  refine ⟨g, ?_, i, MA_iv i iv⟩
  unfold YM_findsSets
  rw [show (0 : Int32) = nI 0 from rfl, YM_findsSets_L2_e 240 FU 0 h (by omega) (by rw [FU_s]; omega)]
  exact e
