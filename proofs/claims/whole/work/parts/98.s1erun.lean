/-! ===== run ===== -/
theorem treat_L_e : ∀ m fu a h, a + m = 6 → m < fu → XU_treatAsTheyAre_L2 fu h (nI a) = some (fI h 101 a 6 1)
  | _, 0, _, _, _, q => absurd q (Nat.not_lt_zero _)
  | 0, fu + 1, a, h, e, _ => by
    unfold XU_treatAsTheyAre_L2
    rw [lit 6, if_pos (nI_le (by omega) (by omega)), fI_nil h 1 (by omega)]
  | m + 1, fu + 1, a, h, e, q => by
    unfold XU_treatAsTheyAre_L2
    rw [lit 6, if_neg (show ¬ nI 6 ≤ nI a from nI_ge (by omega) (by omega)), inB_n (show a < 6 by omega) (by omega), gd_t, hb_s, nI_clamp (by omega), nI_1, treat_L_e m fu (a + 1) _ (by omega) (by omega), fI_st (by omega)]
theorem treat_e (h : sd_H) : XU_treatAsTheyAre h = some (fI h 101 0 6 1) := by
  unfold XU_treatAsTheyAre
  rw [← nI_0]
  exact treat_L_e 6 FU 0 h (by omega) (by rw [FU_s]; omega)
/-- cells of a run that no one asks about -/
theorem Iv_rx {h g : sd_H} (iv : Iv h h) (x : ∀ c, c < 100 ∨ 106 < c → ¬ (110 ≤ c ∧ c ≤ 125) → g.1 c = h.1 c) (d : ∀ c, ¬ c = 102 → ¬ (110 ≤ c ∧ c ≤ 125) → g.2.1 c = h.2.1 c) : Iv g g :=
  Iv_c (x 2 (by omega) (by omega)) (x 3 (by omega) (by omega)) (d 4 (by omega) (by omega)) (x 5 (by omega) (by omega)) (fun c h1 h2 => x c (by omega) (by omega)) (x 33 (by omega) (by omega)) (fun c h1 h2 => x c (by omega) (by omega)) (x 55 (by omega) (by omega)) (by rw [x 0 (by omega) (by omega)])
    (x 107 (by omega) (by omega)) (x 108 (by omega) (by omega)) (x 109 (by omega) (by omega)) (by rw [x 56 (by omega) (by omega)]) (fun s hs => x (58 + s) (by omega) (by omega)) (x 127 (by omega) (by omega)) (x 128 (by omega) (by omega)) (d 129 (by omega) (by omega)) (x 130 (by omega) (by omega))
    (x 132 (by omega) (by omega)) (x 133 (by omega) (by omega)) (x 134 (by omega) (by omega)) (x 135 (by omega) (by omega)) (x 136 (by omega) (by omega)) (x 137 (by omega) (by omega)) (x 138 (by omega) (by omega)) (x 139 (by omega) (by omega)) (x 140 (by omega) (by omega)) (by rw [x 126 (by omega) (by omega)]) (by rw [x 126 (by omega) (by omega)]) (x 141 (by omega) (by omega)) (by rw [x 126 (by omega) (by omega)])
    (by rw [x 126 (by omega) (by omega)]) (x 142 (by omega) (by omega)) (by rw [x 126 (by omega) (by omega), x 0 (by omega) (by omega)]; exact iv.2.2.2.2.2.2.1) (by rw [x 126 (by omega) (by omega)]) (by rw [x 126 (by omega) (by omega)]) (x 150 (by omega) (by omega)) (x 151 (by omega) (by omega)) iv
/-- the model's cells that say what the loop and the rows are -/
def ME (v g : sd_H) : Prop := (∀ c, 127 ≤ c → c ≤ 142 → ¬ c = 130 → v.1 c = g.1 c) ∧ (∀ a, a < 144 → v.2.1 129 a = g.2.1 129 a) ∧ (∀ r, ¬ nb (g.1 127 r) = true → ∀ i, i < 24 → v.2.1 129 (24 * r + i) = g.2.1 129 (24 * r + i)) ∧
  v.1 126 4 = g.1 126 4 ∧ v.1 126 6 = g.1 126 6 ∧ v.1 126 7 = g.1 126 7 ∧ v.1 126 18 = g.1 126 18 ∧ v.1 126 20 = g.1 126 20
theorem ME_sl {v g : sd_H} (m : ME v g) : SL v g := by
  obtain ⟨c, d, e, k4, k6, k7, _⟩ := m
  refine ⟨dn_t (c 127 (by omega) (by omega) (by omega)) (c 128 (by omega) (by omega) (by omega)) (c 134 (by omega) (by omega) (by omega)) (c 135 (by omega) (by omega) (by omega)) (c 136 (by omega) (by omega) (by omega)) k7 (fun r hr i hi => e r (by rw [← c 127 (by omega) (by omega) (by omega)]; exact hr) i hi), c 127 (by omega) (by omega) (by omega), c 128 (by omega) (by omega) (by omega), c 132 (by omega) (by omega) (by omega), c 133 (by omega) (by omega) (by omega), c 137 (by omega) (by omega) (by omega), c 138 (by omega) (by omega) (by omega), c 139 (by omega) (by omega) (by omega), c 140 (by omega) (by omega) (by omega), k6, k7⟩
theorem ME_il {v g h : sd_H} {N S : Nat} (m : ME v g) (il : IL h g N S) : IL h v N S := by
  obtain ⟨c, d, e, k4, k6, k7, _⟩ := m
  exact IL_c (fun _ _ _ => rfl) (c 132 (by omega) (by omega) (by omega)) (c 133 (by omega) (by omega) (by omega)) (c 134 (by omega) (by omega) (by omega)) (c 135 (by omega) (by omega) (by omega)) (c 136 (by omega) (by omega) (by omega)) (c 137 (by omega) (by omega) (by omega)) (c 138 (by omega) (by omega) (by omega)) (c 139 (by omega) (by omega) (by omega)) (c 140 (by omega) (by omega) (by omega)) k6 k7 il
theorem RB_i {P : Nat} {T : Nat → Int32} {mx : Bool} {N S : Nat} {h v : sd_H} (iv : Iv h h) (il : IL h h N S) (hP : P = 1 ∨ P = 110 ∨ P = 115) (rows : ∀ r, r < 6 → h.1 (P + 1) r = h.1 2 r ∧ h.1 (P + 2) r = h.1 3 r ∧ ∀ i, i < 24 → h.2.1 (P + 3) (24 * r + i) = h.2.1 4 (24 * r + i)) (m : ME v h)
    (t : ∀ r, r < 6 → h.1 101 r = T r) (e33 : v.1 126 33 = bi mx) (tf : mx = false → ∀ r, r < 6 → T r = 1) (tt : mx = true → ∀ r, r < 6 → v.1 146 r = T r) : RB P T mx N S h v := by
  refine ⟨hP, fun r hr => ?_, fun a ha => ?_, ME_il m il, ?_, t, e33, tf, tt⟩
  · obtain ⟨r1, r2, r3⟩ := rows r hr
    obtain ⟨a, b⟩ := iv.1 r hr
    rw [m.1 127 (by omega) (by omega) (by omega), m.1 128 (by omega) (by omega) (by omega)]
    refine ⟨r1.trans a, ?_⟩
    rcases b with ⟨b1, b2, b3⟩ | ⟨b1, b2, b3⟩
    · exact Or.inl ⟨b1, r2.trans b2, fun i hi => (r3 i hi).trans (b3 i hi)⟩
    · exact Or.inr ⟨b1, r2.trans b2, fun i hi => by rw [m.2.1 _ (by omega)]; exact (r3 i hi).trans (b3 i hi)⟩
  · rw [m.2.1 a ha]
    exact iv.2.2.2.1 a ha
  · rw [m.1 128 (by omega) (by omega) (by omega)]
    exact iv.2.2.1
/-- what stands behind a run of the rows themselves -/
theorem Iv_fin {gx vx g' v' : sd_H} (iv : Iv gx gx) (re : RE 1 107 g' v' gx vx) (m : ME vx gx) (x1 : ∀ c, c ≤ 125 → v'.1 c = g'.1 c) (x2 : ∀ c, c ≤ 125 → v'.2.1 c = g'.2.1 c) : Iv v' v' := by
  obtain ⟨a1, a2, a3, a4, a5, a6, a7, a8, a9, b1, b2, b3⟩ := re
  have c : ∀ c, 127 ≤ c → c ≤ 142 → ¬ c = 130 → v'.1 c = gx.1 c := fun c h1 h2 h3 => (a3 c (by omega) h3 (by omega)).trans (m.1 c h1 h2 h3)
  have y : ∀ c, c ≤ 62 → ¬ c = 5 → v'.1 c = gx.1 c := fun c h1 h2 => (x1 c (by omega)).trans (a1 c (by omega) (by omega) (by omega) (by omega))
  have k : ∀ k, ¬ k = 34 → ¬ k = 37 → ¬ k = 38 → ¬ k = 39 → v'.1 126 k = vx.1 126 k := a4
  obtain ⟨m1, m2, m3, m4, m6, m7, m18, m20⟩ := m
  have sl : SL v' gx := by
    refine ⟨dn_t (c 127 (by omega) (by omega) (by omega)) (c 128 (by omega) (by omega) (by omega)) (c 134 (by omega) (by omega) (by omega)) (c 135 (by omega) (by omega) (by omega)) (c 136 (by omega) (by omega) (by omega)) ((k 7 (by omega) (by omega) (by omega) (by omega)).trans m7) (fun r hr i hi => (a9 r hr i hi).trans (m3 r (by rw [← c 127 (by omega) (by omega) (by omega)]; exact hr) i hi)), c 127 (by omega) (by omega) (by omega), c 128 (by omega) (by omega) (by omega), c 132 (by omega) (by omega) (by omega), c 133 (by omega) (by omega) (by omega), c 137 (by omega) (by omega) (by omega), c 138 (by omega) (by omega) (by omega), c 139 (by omega) (by omega) (by omega), c 140 (by omega) (by omega) (by omega), (k 6 (by omega) (by omega) (by omega) (by omega)).trans m6, (k 7 (by omega) (by omega) (by omega) (by omega)).trans m7⟩
  obtain ⟨i1, i2, i3, i4, ⟨N, S, il, ih⟩, it, i16, _, is_⟩ := iv
  refine ⟨?_, fun r hr _ i hi => ?_, ?_, a8, ⟨N, S, ?_, ?_⟩, ?_, ?_, ⟨?_, ?_⟩, ?_⟩
  · rw [x1 2 (by omega), x1 3 (by omega), x2 4 (by omega)]
    exact a7
  · rw [x1 5 (by omega)]
    exact b1 _ (by omega)
  · rw [c 128 (by omega) (by omega) (by omega)]
    exact i3
  · exact IL_c (fun c h1 h2 => y c (by omega) (by omega)) (c 132 (by omega) (by omega) (by omega)) (c 133 (by omega) (by omega) (by omega)) (c 134 (by omega) (by omega) (by omega)) (c 135 (by omega) (by omega) (by omega)) (c 136 (by omega) (by omega) (by omega)) (c 137 (by omega) (by omega) (by omega)) (c 138 (by omega) (by omega) (by omega)) (c 139 (by omega) (by omega) (by omega)) (c 140 (by omega) (by omega) (by omega)) ((k 6 (by omega) (by omega) (by omega) (by omega)).trans m6) ((k 7 (by omega) (by omega) (by omega) (by omega)).trans m7) il
  · exact IH_c (y 33 (by omega) (by omega)) (fun c h1 h2 => y c (by omega) (by omega)) (c 141 (by omega) (by omega) (by omega)) ((k 18 (by omega) (by omega) (by omega) (by omega)).trans m18) ih
  · rw [y 0 (by omega) (by omega), y 55 (by omega) (by omega), k 20 (by omega) (by omega) (by omega) (by omega), m20, c 142 (by omega) (by omega) (by omega)]
    exact it
  · rw [y 0 (by omega) (by omega), k 4 (by omega) (by omega) (by omega) (by omega), m4]
    exact i16
  · rw [x1 107 (by omega)]
    exact b2
  · rw [x1 107 (by omega), x1 108 (by omega), x1 109 (by omega)]
    exact b3
  · exact IS_c (by rw [y 56 (by omega) (by omega)]) (fun s hs => y (58 + s) (by omega) (by omega)) sl is_
theorem ME_x {P Q : Nat} {g' v' g v : sd_H} (hP : P = 1 ∨ P = 110 ∨ P = 115) (hQ : Q = 107 ∨ Q = 120 ∨ Q = 123) (re : RE P Q g' v' g v) : ME g' g := by
  obtain ⟨a1, a2, _⟩ := re
  have e : g'.1 126 = g.1 126 := a1 126 (by omega) (by omega) (by omega) (by omega)
  have d : g'.2.1 129 = g.2.1 129 := a2 129 (by omega) (by omega)
  exact ⟨fun c h1 h2 h3 => a1 c (by omega) (by omega) (by omega) (by omega), fun a _ => by rw [d], fun r _ i _ => by rw [d], by rw [e], by rw [e], by rw [e], by rw [e], by rw [e]⟩
theorem ME_r (g : sd_H) : ME g g := ⟨fun _ _ _ _ => rfl, fun _ _ => rfl, fun _ _ _ _ => rfl, rfl, rfl, rfl, rfl, rfl⟩
theorem ME_w {v g : sd_H} {x : Int32} (m : ME v g) : ME (wI v 126 33 x) g := by
  obtain ⟨c, d, e, k4, k6, k7, k18, k20⟩ := m
  exact ⟨fun j h1 h2 h3 => by rw [wI_ne (by omega)]; exact c j h1 h2 h3, d, e, by rw [wI_ns (by omega)]; exact k4, by rw [wI_ns (by omega)]; exact k6, by rw [wI_ns (by omega)]; exact k7, by rw [wI_ns (by omega)]; exact k18, by rw [wI_ns (by omega)]; exact k20⟩
theorem E_run {h : sd_H} (iv : Iv h h) : EE (XT_run h) (fun g => YM_run g) := by
  have iv1 : Iv (fI h 101 0 6 1) (fI h 101 0 6 1) := Iv_rx iv (fun c h1 _ => fI_ne (by omega)) (fun _ _ _ => rfl)
  obtain ⟨N, S, il, _⟩ := iv1.2.2.2.2.1
  have rb : ∀ v, ME v (fI h 101 0 6 1) → RB 1 (fun _ => 1) false N S (fI h 101 0 6 1) (wI v 126 33 0) := fun v m =>
    RB_i iv1 il (Or.inl rfl) (fun r hr => ⟨rfl, rfl, fun _ _ => rfl⟩) (ME_w m) (fun r hr => fI_eq ⟨Nat.zero_le _, hr⟩) wI_eq (fun _ _ _ => rfl) (fun q => by cases q)
  obtain ⟨g', v1, X, _, re1⟩ := run_one (Q := 107) (rb _ (ME_r _)) (Or.inl rfl)
  have me := ME_x (Or.inl rfl) (Or.inl rfl) re1
  obtain ⟨g2, v', X2, M, re⟩ := run_one (Q := 107) (rb g' me) (Or.inl rfl)
  have eg : g' = g2 := Option.some.inj (X.symm.trans X2)
  subst eg
  have re' := re
  obtain ⟨a1, a2, a3, a4, a5, a6, a7, a8, a9, b1, b2, b3⟩ := re'
  refine EE_i (h1 := g') (h2 := v') (r := g'.1 107 3) ?_ ?_ (Iv_fin iv1 re (ME_w me) (fun c hc => (a3 c (by omega) (by omega) (by omega)).trans (wI_ne (by omega))) (fun c hc => a5 c (by omega) (by omega) (by omega)))
  · unfold XT_run
    rw [treat_e, b1_s, X, b1_s]
  · show YM_run g' = _
    unfold YM_run
    rw [M, b2_s, b2]
