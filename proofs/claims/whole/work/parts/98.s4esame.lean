/-! ===== same, put together ===== -/
theorem sa1_f {v : sd_H} : (∀ c, ¬ (155 ≤ c ∧ c ≤ 157) → (sa1 v).1 c = v.1 c) ∧ (∀ c, ¬ c = 153 → (sa1 v).2.1 c = v.2.1 c) ∧ (∀ a, a < 144 → (sa1 v).2.1 153 a = v.2.1 129 a ∧ (sa1 v).1 155 a = v.1 130 a) ∧ (∀ a, a < 10 → (sa1 v).1 156 a = v.1 151 a) ∧ ∀ a, a < 3 → (sa1 v).1 157 a = v.1 150 a := by
  unfold sa1
  refine ⟨fun c hc => ?_, fun c hc => ?_, fun a ha => ⟨?_, ?_⟩, fun a ha => ?_, fun a ha => ?_⟩
  · rw [cI_ne (by omega), cI_ne (by omega), cI_ne (by omega), cD_ii]
  · rw [cI_dd, cI_dd, cI_dd, cD_ne hc]
  · rw [cI_dd, cI_dd, cI_dd, cD_eq ⟨Nat.zero_le _, ha⟩]
  · rw [cI_ne (by omega), cI_ne (by omega), cI_eq ⟨Nat.zero_le _, ha⟩, cD_ii]
  · rw [cI_ne (by omega), cI_eq ⟨Nat.zero_le _, ha⟩, cI_ne (by omega), cD_ii]
  · rw [cI_eq ⟨Nat.zero_le _, ha⟩, cI_ne (by omega), cI_ne (by omega), cD_ii]
theorem sa2_f {v : sd_H} : (∀ c, ¬ c = 158 → (sa2 v).1 c = v.1 c) ∧ (∀ c, ¬ c = 154 → ¬ c = 129 → (sa2 v).2.1 c = v.2.1 c) ∧ (∀ a, a < 144 → (sa2 v).2.1 154 a = v.2.1 129 a ∧ (sa2 v).2.1 129 a = v.2.1 153 a) ∧ (∀ a, 144 ≤ a → (sa2 v).2.1 129 a = v.2.1 129 a) ∧ ∀ a, a < 3 → (sa2 v).1 158 a = v.1 150 a := by
  unfold sa2
  refine ⟨fun c hc => ?_, fun c hc h2 => ?_, fun a ha => ⟨?_, ?_⟩, fun a ha => ?_, fun a ha => ?_⟩
  · rw [cD_ii, cD_ii, cI_ne hc]
  · rw [cD_ne h2, cD_ne hc, cI_dd]
  · rw [cD_ne (by omega), cD_eq ⟨Nat.zero_le _, ha⟩, cI_dd]
  · rw [cD_eq ⟨Nat.zero_le _, ha⟩, cD_ne (by omega), cI_dd]
  · rw [cD_ns (by omega), cD_ne (by omega), cI_dd]
  · rw [cD_ii, cD_ii, cI_eq ⟨Nat.zero_le _, ha⟩]
theorem sa3_f {v : sd_H} {l4 l5 : Int32} : (∀ c, ¬ c = 126 → ¬ c = 130 → ¬ c = 150 → ¬ c = 151 → (sa3 v l4 l5).1 c = v.1 c) ∧ (∀ k, ¬ k = 34 → ¬ k = 37 → (sa3 v l4 l5).1 126 k = v.1 126 k) ∧ (sa3 v l4 l5).1 126 34 = l4 ∧ (sa3 v l4 l5).1 126 37 = l5 ∧ (∀ a, a < 3 → (sa3 v l4 l5).1 150 a = v.1 157 a) ∧ (∀ a, a < 10 → (sa3 v l4 l5).1 151 a = v.1 156 a) ∧
    (∀ a, a < 144 → (sa3 v l4 l5).1 130 a = v.1 155 a ∧ (sa3 v l4 l5).2.1 129 a = v.2.1 153 a) ∧ (∀ a, 144 ≤ a → (sa3 v l4 l5).2.1 129 a = v.2.1 129 a) ∧ ∀ c, ¬ c = 129 → (sa3 v l4 l5).2.1 c = v.2.1 c := by
  unfold sa3
  refine ⟨fun c h1 h2 h3 h4 => ?_, fun k h1 h2 => ?_, ?_, ?_, fun a ha => ?_, fun a ha => ?_, fun a ha => ⟨?_, ?_⟩, fun a ha => ?_, fun c hc => ?_⟩
  · rw [wI_ne h1, wI_ne h1, cI_ne h4, cI_ne h2, cD_ii, cI_ne h3]
  · rw [wI_ns h2, wI_ns h1, cI_ne (by omega), cI_ne (by omega), cD_ii, cI_ne (by omega)]
  · rw [wI_ns (by omega), wI_eq]
  · rw [wI_eq]
  · rw [wI_ne (by omega), wI_ne (by omega), cI_ne (by omega), cI_ne (by omega), cD_ii, cI_eq ⟨Nat.zero_le _, ha⟩]
  · rw [wI_ne (by omega), wI_ne (by omega), cI_eq ⟨Nat.zero_le _, ha⟩, cI_ne (by omega), cD_ii, cI_ne (by omega)]
  · rw [wI_ne (by omega), wI_ne (by omega), cI_ne (by omega), cI_eq ⟨Nat.zero_le _, ha⟩, cD_ii, cI_ne (by omega)]
  · rw [wI_d, wI_d, cI_dd, cI_dd, cD_eq ⟨Nat.zero_le _, ha⟩, cI_dd]
  · rw [wI_d, wI_d, cI_dd, cI_dd, cD_ns (by omega), cI_dd]
  · rw [wI_d, wI_d, cI_dd, cI_dd, cD_ne hc, cI_dd]
theorem ME_of {v g : sd_H} (x : ∀ c, 126 ≤ c → v.1 c = g.1 c) (d : ∀ c, 126 ≤ c → v.2.1 c = g.2.1 c) : ME v g :=
  ⟨fun c h1 h2 h3 => x c (by omega), fun a _ => by rw [d 129 (by omega)], fun r _ i _ => by rw [d 129 (by omega)], by rw [x 126 (by omega)], by rw [x 126 (by omega)], by rw [x 126 (by omega)], by rw [x 126 (by omega)], by rw [x 126 (by omega)]⟩
theorem ME_il2 {v g : sd_H} {N S : Nat} (m : ME v g) (x : ∀ c, 6 ≤ c → c ≤ 32 → v.1 c = g.1 c) (il : IL g g N S) : IL v v N S := by
  have a : IL g v N S := ME_il m il
  exact IL_c x rfl rfl rfl rfl rfl rfl rfl rfl rfl rfl rfl a
/-- all is as it was -/
theorem Iv_me {g v : sd_H} (iv : Iv g g) (m : ME v g) (x1 : ∀ c, c ≤ 125 → v.1 c = g.1 c) (x2 : ∀ c, c ≤ 125 → v.2.1 c = g.2.1 c) (w : ∀ a, a < 144 → v.1 130 a = g.1 130 a) (o1 : v.1 126 34 = g.1 126 34) (o2 : v.1 126 37 = g.1 126 37) (o3 : ∀ f, f < 3 → v.1 150 f = g.1 150 f) (o4 : ∀ p, p < 10 → v.1 151 p = g.1 151 p) : Iv v v := by
  have sl := ME_sl m
  have m' := m
  obtain ⟨c, d, _, k4, k6, k7, k18, k20⟩ := m
  obtain ⟨i1, i2, i3, i4, ⟨N, S, il, ih⟩, it, i16, ⟨j1, ⟨n, hn, j2, j3, j4⟩, j5⟩, is_⟩ := iv
  refine ⟨fun r hr => ?_, fun r hr hf i hi => ?_, ?_, fun a ha => ?_, ⟨N, S, ME_il2 m' (fun c h1 h2 => x1 c (by omega)) il, IH_c (x1 33 (by omega)) (fun c h1 h2 => x1 c (by omega)) (c 141 (by omega) (by omega) (by omega)) k18 ih⟩, ?_, ?_, ⟨?_, ⟨n, hn, ?_, ?_, fun p hp => ?_⟩, fun f hf => ?_⟩, IS_c (by rw [x1 56 (by omega)]) (fun s hs => x1 (58 + s) (by omega)) sl is_⟩
  · rw [x1 2 (by omega), x1 3 (by omega), x2 4 (by omega), c 127 (by omega) (by omega) (by omega), c 128 (by omega) (by omega) (by omega)]
    obtain ⟨a, b⟩ := i1 r hr
    refine ⟨a, ?_⟩
    rcases b with ⟨b1, b2, b3⟩ | ⟨b1, b2, b3⟩
    · exact Or.inl ⟨b1, b2, b3⟩
    · exact Or.inr ⟨b1, b2, fun i hi => by rw [d _ (by omega)]; exact b3 i hi⟩
  · rw [c 127 (by omega) (by omega) (by omega)] at hf
    rw [x1 5 (by omega), w _ (by omega)]
    exact i2 r hr hf i hi
  · rw [c 128 (by omega) (by omega) (by omega)]
    exact i3
  · rw [d a ha]
    exact i4 a ha
  · rw [x1 0 (by omega), x1 55 (by omega), k20, c 142 (by omega) (by omega) (by omega)]
    exact it
  · rw [x1 0 (by omega), k4]
    exact i16
  · rw [x1 107 (by omega), o1]
    exact j1
  · rw [x1 107 (by omega)]
    exact j2
  · rw [o2]
    exact j3
  · rw [x1 109 (by omega), o4 p (by omega)]
    exact j4 p hp
  · rw [x1 108 (by omega), o3 f hf]
    exact j5 f hf
theorem E_same {h : sd_H} (iv : Iv h h) (a0 a1 a2 a3 : Int32) : EE (XT_same h a0 a1 a2 a3) (fun g => YM_same g a0 a1 a2 a3) := by
  obtain ⟨N, S, il, _⟩ := iv.2.2.2.2.1
  obtain ⟨h2, e, q⟩ := X_refusal iv il a0 a1 a2 a3
  have iv2 := q.1
  have il2 := QQ_il q il
  have sl2 := QQ_sl q
  rcases RF_c h N S a0 a1 a2 a3 with ⟨rf, W, dl, x, hW1, hW, hd, hx, rfl, rfl, rfl⟩ | ⟨rf, rn⟩
  · rw [rf] at e
    -- x's first run
    obtain ⟨t1, t2, t3, t4⟩ := tk_f (h := h2) (P := 110) (Or.inl rfl)
    have x8 : ∀ c, ¬ c = 101 → ¬ (111 ≤ c ∧ c ≤ 112) → (fI (tk h2 110) 101 0 6 1).1 c = h2.1 c := fun c h1 h2 => (fI_ne h1).trans (t1 c h2)
    obtain ⟨h8, e8⟩ : ∃ h8, fI (tk h2 110) 101 0 6 1 = h8 := ⟨_, rfl⟩
    have y8 : ∀ c, ¬ c = 113 → h8.2.1 c = h2.2.1 c := fun c hc => by rw [← e8]; exact t2 c hc
    have z8 : ∀ r, r < 6 → h8.1 111 r = h8.1 2 r ∧ h8.1 112 r = h8.1 3 r ∧ ∀ i, i < 24 → h8.2.1 113 (24 * r + i) = h8.2.1 4 (24 * r + i) := fun r hr => by
      rw [← e8]
      refine ⟨?_, ?_, fun i hi => ?_⟩
      · rw [fI_ne (by omega), fI_ne (by omega), (t3 r hr).1, t1 2 (by omega)]
      · rw [fI_ne (by omega), fI_ne (by omega), (t3 r hr).2, t1 3 (by omega)]
      · rw [fI_d, t4 _ (by omega), t2 4 (by omega)]
    have w8 : ∀ r, r < 6 → h8.1 101 r = 1 := fun r hr => by
      rw [← e8]
      exact fI_eq ⟨Nat.zero_le _, hr⟩
    rw [e8] at x8
    have iv8 : Iv h8 h8 := Iv_rx iv2 (fun c h1 h2 => x8 c (by omega) (by omega)) (fun c h1 h2 => y8 c (by omega))
    have m8 : ME h8 h2 := ME_of (fun c hc => x8 c (by omega) (by omega)) (fun c hc => y8 c (by omega))
    have il8 : IL h8 h8 N S := ME_il2 m8 (fun c h1 h2 => x8 c (by omega) (by omega)) il2
    have rb1 : ∀ v, ME v h8 → RB 110 (fun _ => 1) false N S h8 (wI v 126 33 0) := fun v m =>
      RB_i iv8 il8 (Or.inr (Or.inl rfl)) z8 (ME_w m) w8 wI_eq (fun _ _ _ => rfl) (fun q => by cases q)
    obtain ⟨h10, v1, X1, _, re1⟩ := run_one (Q := 120) (rb1 _ (ME_r _)) (Or.inr (Or.inl rfl))
    -- x's second run
    obtain ⟨u1, u2, u3, u4⟩ := tk_f (h := h10) (P := 115) (Or.inr rfl)
    obtain ⟨h12, e12⟩ : ∃ h12, tk h10 115 = h12 := ⟨_, rfl⟩
    rw [e12] at u1 u2 u3 u4
    have x12 : ∀ c, c < 100 ∨ 106 < c → ¬ (110 ≤ c ∧ c ≤ 125) → h12.1 c = h8.1 c := fun c h1 h2 => (u1 c (by omega)).trans (re1.1 c (by omega) (by omega) (by omega) (by omega))
    have y12 : ∀ c, ¬ c = 102 → ¬ (110 ≤ c ∧ c ≤ 125) → h12.2.1 c = h8.2.1 c := fun c h1 h2 => (u2 c (by omega)).trans (re1.2.1 c h1 (by omega))
    have iv12 : Iv h12 h12 := Iv_rx iv8 x12 y12
    have m12 : ME h12 h8 := ME_of (fun c hc => x12 c (by omega) (by omega)) (fun c hc => y12 c (by omega) (by omega))
    have il12 : IL h12 h12 N S := ME_il2 m12 (fun c h1 h2 => x12 c (by omega) (by omega)) il8
    obtain ⟨h14, e14, iv14, x14, y14, t14⟩ := treatV_e iv12 il12
    have m14 : ME h14 h12 := ME_of (fun c hc => x14 c (by omega) (by omega)) (fun c hc => by rw [y14])
    have il14 : IL h14 h14 N S := ME_il2 m14 (fun c h1 h2 => x14 c (by omega) (by omega)) il12
    have z14 : ∀ r, r < 6 → h14.1 116 r = h14.1 2 r ∧ h14.1 117 r = h14.1 3 r ∧ ∀ i, i < 24 → h14.2.1 118 (24 * r + i) = h14.2.1 4 (24 * r + i) := fun r hr => by
      refine ⟨?_, ?_, fun i hi => ?_⟩
      · rw [x14 116 (by omega) (by omega), x14 2 (by omega) (by omega), (u3 r hr).1, u1 2 (by omega)]
      · rw [x14 117 (by omega) (by omega), x14 3 (by omega) (by omega), (u3 r hr).2, u1 3 (by omega)]
      · rw [y14, u4 _ (by omega), u2 4 (by omega)]
    have rb2 : ∀ w, ME w h14 → (∀ i, i < 6 → w.1 146 i = JU h12 N S i (h12.1 127 i)) → RB 115 (fun i => JU h12 N S i (h12.1 127 i)) true N S h14 (wI w 126 33 1) := fun w m t =>
      RB_i iv14 il14 (Or.inr (Or.inr rfl)) z14 (ME_w m) t14 wI_eq (fun q => by cases q) (fun _ r hr => by rw [wI_ne (by omega)]; exact t r hr)
    obtain ⟨h16, v2, X2, _, re2⟩ := run_mix (Q := 123) (rb2 (fun c k => if c = 146 then JU h12 N S k (h12.1 127 k) else h14.1 c k, h14.2) ⟨fun c h1 h2 h3 => funext fun k => if_neg (by omega), fun _ _ => rfl, fun _ _ _ _ => rfl, rfl, rfl, rfl, rfl, rfl⟩ (fun i _ => show (if (146 : Nat) = 146 then JU h12 N S i (h12.1 127 i) else h14.1 146 i) = JU h12 N S i (h12.1 127 i) from if_pos rfl)) (Or.inr (Or.inr rfl)) hW1 hW hd hx
    have x16 : ∀ c, c < 100 ∨ 106 < c → ¬ (110 ≤ c ∧ c ≤ 125) → h16.1 c = h14.1 c := fun c h1 h2 => re2.1 c (by omega) (by omega) (by omega) (by omega)
    have y16 : ∀ c, ¬ c = 102 → ¬ (110 ≤ c ∧ c ≤ 125) → h16.2.1 c = h14.2.1 c := fun c h1 h2 => re2.2.1 c h1 (by omega)
    have iv16 : Iv h16 h16 := Iv_rx iv14 x16 y16
    have m16 : ME h16 h14 := ME_of (fun c hc => x16 c (by omega) (by omega)) (fun c hc => y16 c (by omega) (by omega))
    have m168 : ME h16 h8 := ME_of (fun c hc => ((x16 c (by omega) (by omega)).trans (x14 c (by omega) (by omega))).trans (x12 c (by omega) (by omega))) (fun c hc => ((y16 c (by omega) (by omega)).trans (by rw [y14])).trans (y12 c (by omega) (by omega)))
    have il16 : IL h16 h16 N S := ME_il2 m16 (fun c h1 h2 => x16 c (by omega) (by omega)) il14
    -- the model
    obtain ⟨w0, f0, q0⟩ := M_refusal iv16.2.2.1 il16 (nI W) (nI dl) (nI x) a3
    have sl168 := ME_sl m168
    have sl8 := ME_sl m8
    rw [RF_sl sl168, RF_sl sl8, RF_sl sl2, rf] at f0
    obtain ⟨sa, sb, sc, sd, se⟩ := sa1_f (v := w0)
    have mw0 := WQ_me q0 m168
    have ms1 : ME (sa1 w0) h8 := ME_cI (ME_cI (ME_cI (ME_cD mw0 (by omega)) (by omega)) (by omega)) (by omega)
    obtain ⟨h10', w1, X1', R, re1'⟩ := run_one (Q := 120) (rb1 _ ms1) (Or.inr (Or.inl rfl))
    have eg : h10 = h10' := Option.some.inj (X1.symm.trans X1')
    subst eg
    obtain ⟨ra1, ra2, ra3, ra4, ra5, ra6, ra7, ra8, ra9, rb1', rb2', rb3'⟩ := re1'
    obtain ⟨sf, sg, sh, si, sj⟩ := sa2_f (v := w1)
    -- cells of the heap before the second run
    have i1c : ∀ c, ¬ c = 126 → ¬ c = 130 → ¬ (144 ≤ c ∧ c ≤ 146) → ¬ (149 ≤ c ∧ c ≤ 152) → ¬ (155 ≤ c ∧ c ≤ 158) → (sa2 w1).1 c = h16.1 c := fun c h1 h2 h3 h4 h5 => by
      rw [sf c (by omega), ra3 c h1 h2 h4, wI_ne h1, sa c (by omega), q0.1 c h1 h3]
    have i1k : ∀ k, ¬ k = 25 → ¬ k = 33 → ¬ k = 34 → ¬ k = 37 → ¬ k = 38 → ¬ k = 39 → (sa2 w1).1 126 k = h16.1 126 k := fun k h0 h1 h2 h3 h4 h5 => by
      rw [sf 126 (by omega), ra4 k h2 h3 h4 h5, wI_ns h1, sa 126 (by omega), q0.2.1 k h0 h1]
    have d129 : ∀ a, a < 144 → (sa2 w1).2.1 129 a = h16.2.1 129 a := fun a ha => by
      rw [(sh a ha).2, ra5 153 (by omega) (by omega) (by omega), wI_d, (sc a ha).1, q0.2.2]
    have d129b : ∀ r, ¬ nb (h16.1 127 r) = true → ∀ i, i < 24 → (sa2 w1).2.1 129 (24 * r + i) = h16.2.1 129 (24 * r + i) := fun r hr i hi => by
      by_cases c : 24 * r + i < 144
      · exact d129 _ c
      · rw [si _ (by omega), ra9 r (by rw [ra3 127 (by omega) (by omega) (by omega), wI_ne (by omega), sa 127 (by omega), q0.1 127 (by omega) (by omega)]; exact hr) i hi, wI_d, sb 129 (by omega), q0.2.2]
    have ms2 : ME (sa2 w1) h16 := ⟨fun c h1 h2 h3 => i1c c (by omega) h3 (by omega) (by omega) (by omega), d129, d129b, i1k 4 (by omega) (by omega) (by omega) (by omega) (by omega) (by omega), i1k 6 (by omega) (by omega) (by omega) (by omega) (by omega) (by omega), i1k 7 (by omega) (by omega) (by omega) (by omega) (by omega) (by omega), i1k 18 (by omega) (by omega) (by omega) (by omega) (by omega) (by omega), i1k 20 (by omega) (by omega) (by omega) (by omega) (by omega) (by omega)⟩
    have ils : IL (sa2 w1) (sa2 w1) N S := ME_il2 ms2 (fun c h1 h2 => i1c c (by omega) (by omega) (by omega) (by omega) (by omega)) il16
    obtain ⟨w', fm, qm, tm⟩ := mixes_e (nI W) (nI dl) (nI x) (ME_iz ms2 iv16.2.2.1) ils
    have trME : ∀ v, ME v h16 → ME v h14 := fun v m => by
      obtain ⟨a1, a2, a3, a4, a5, a6, a7, a8⟩ := m
      obtain ⟨b1, b2, b3, b4, b5, b6, b7, b8⟩ := m16
      exact ⟨fun c h1 h2 h3 => (a1 c h1 h2 h3).trans (b1 c h1 h2 h3), fun a ha => (a2 a ha).trans (b2 a ha), fun r hr i hi => (a3 r (by rw [b1 127 (by omega) (by omega) (by omega)]; exact hr) i hi).trans (b3 r hr i hi), a4.trans b4, a5.trans b5, a6.trans b6, a7.trans b7, a8.trans b8⟩
    have mw' : ME w' h14 := WQ_me qm (trME _ ms2)
    have slA := ME_sl (trME _ ms2)
    have slB := ME_sl m14
    obtain ⟨h16', w2, X2', M, re2'⟩ := run_mix (Q := 123) (x := x) (rb2 w' mw' (fun i hi => by rw [tm i hi, slA.2.1, slB.2.1, JU_sl slA, JU_sl slB])) (Or.inr (Or.inr rfl)) hW1 hW hd hx
    have eg2 : h16 = h16' := Option.some.inj (X2.symm.trans X2')
    subst eg2
    obtain ⟨rc1, rc2, rc3, rc4, rc5, rc6, rc7, rc8, rc9, rd1, rd2, rd3⟩ := re2'
    rw [← fm] at M
    have i2c : ∀ c, ¬ c = 126 → ¬ c = 130 → ¬ (144 ≤ c ∧ c ≤ 146) → ¬ (149 ≤ c ∧ c ≤ 152) → w2.1 c = (sa2 w1).1 c := fun c h1 h2 h3 h4 => by
      rw [rc3 c h1 h2 h4, wI_ne h1, qm.1 c h1 h3]
    have i2k : ∀ k, ¬ k = 25 → ¬ k = 33 → ¬ k = 34 → ¬ k = 37 → ¬ k = 38 → ¬ k = 39 → w2.1 126 k = (sa2 w1).1 126 k := fun k h0 h1 h2 h3 h4 h5 => by
      rw [rc4 k h2 h3 h4 h5, wI_ns h1, qm.2.1 k h0 h1]
    have d2c : ∀ c, ¬ c = 129 → ¬ c = 147 → ¬ c = 148 → w2.2.1 c = (sa2 w1).2.1 c := fun c h1 h2 h3 => by
      rw [rc5 c h1 h2 h3, wI_d, qm.2.2]
    have e153 : ∀ a, a < 144 → w2.2.1 153 a = h16.2.1 129 a := fun a ha => by
      rw [d2c 153 (by omega) (by omega) (by omega), sg 153 (by omega) (by omega), ra5 153 (by omega) (by omega) (by omega), wI_d, (sc a ha).1, q0.2.2]
    have e154 : ∀ a, a < 144 → w2.2.1 154 a = w1.2.1 129 a := fun a ha => by
      rw [d2c 154 (by omega) (by omega) (by omega), (sh a ha).1]
    have SN := sameNow_e R M rc8 (fun a ha => by rw [e153 a ha]; exact iv16.2.2.2.1 a ha) (fun a ha => by rw [e154 a ha]; exact ra8 a ha)
    -- both answers
    have n127 : ∀ r, w2.1 127 r = w1.1 127 r := fun r => by
      rw [i2c 127 (by omega) (by omega) (by omega) (by omega), sf 127 (by omega)]
    have x113 : h16.2.1 113 = h10.2.1 113 := by
      rw [rc2 113 (by omega) (by omega), y14, u2 113 (by omega)]
    have cell : ∀ r i, r < 6 → i < 24 → (okc (h16.2.1 113 (24 * r + i)) ∧ okc (h16.2.1 118 (24 * r + i))) ∧ (decide (h16.2.1 113 (24 * r + i) = h16.2.1 118 (24 * r + i)) = decide (w2.2.1 129 (24 * r + i) = w2.2.1 154 (24 * r + i))) := fun r i hr hi => by
      obtain ⟨_, A⟩ := ra7 r hr
      obtain ⟨_, B⟩ := rc7 r hr
      rw [x113]
      rcases A with ⟨A1, _, A3⟩ | ⟨⟨f, f4, A1⟩, _, A3⟩
      · rcases B with ⟨B1, _, B3⟩ | ⟨⟨f', f4', B1⟩, _, B3⟩
        · have n1 : ¬ nb (w1.1 127 r) = true := by rw [A1]; decide
          have n2 : ¬ nb (w2.1 127 r) = true := by rw [B1]; decide
          have l1 : w2.2.1 129 (24 * r + i) = h16.2.1 129 (24 * r + i) := by
            rw [rc9 r n2 i hi, wI_d, qm.2.2, d129 _ (by omega)]
          have l2 : w2.2.1 154 (24 * r + i) = h16.2.1 129 (24 * r + i) := by
            rw [e154 _ (by omega), ra9 r n1 i hi, wI_d, sb 129 (by omega), q0.2.2]
          have a3 := A3 i hi
          have b3 := B3 i hi
          rw [show h10.2.1 (110 + 3) = h10.2.1 113 from rfl] at a3
          rw [show h16.2.1 (115 + 3) = h16.2.1 118 from rfl] at b3
          rw [a3, b3, l1, l2, decide_eq_true rfl, decide_eq_true rfl]
          exact ⟨⟨okc_0, okc_0⟩, rfl⟩
        · rw [n127 r, A1] at B1
          exact absurd B1.symm (nm1 (by omega))
      · rcases B with ⟨B1, _, B3⟩ | ⟨_, _, B3⟩
        · rw [n127 r, A1] at B1
          exact absurd B1 (nm1 (by omega))
        · have a3 := A3 i hi
          have b3 := B3 i hi
          rw [show h10.2.1 (110 + 3) = h10.2.1 113 from rfl] at a3
          rw [show h16.2.1 (115 + 3) = h16.2.1 118 from rfl] at b3
          rw [a3, b3, e154 _ (by omega)]
          refine ⟨⟨ra8 _ (by omega), rc8 _ (by omega)⟩, ?_⟩
          exact decide_eq_decide.mpr ⟨fun q => q.symm, fun q => q.symm⟩
    have cell' : ∀ a, a < 144 → (okc (h16.2.1 113 a) ∧ okc (h16.2.1 118 a)) ∧ (decide (h16.2.1 113 a = h16.2.1 118 a) = decide (w2.2.1 129 a = w2.2.1 154 a)) := fun a ha => by
      have := cell (a / 24) (a % 24) (by omega) (by omega)
      rw [show 24 * (a / 24) + a % 24 = a by omega] at this
      exact this
    have XR := rows_alike_e (h := h16) (p := 110) (q := 115) (fun a ha => (cell' a ha).1.1) (fun a ha => (cell' a ha).1.2) 144 FU 0 (by omega) (by rw [FU_s]; omega)
    have XO := outs_alike_e (h := h16) (p := 120) (q := 123) 3 FU 0 (by omega) (by rw [FU_s]; omega)
    have x120 : h16.1 120 = h10.1 120 := by
      rw [rc1 120 (by omega) (by omega) (by omega) (by omega), x14 120 (by omega) (by omega), u1 120 (by omega)]
    have x121 : h16.1 121 = h10.1 121 := by
      rw [rc1 121 (by omega) (by omega) (by omega) (by omega), x14 121 (by omega) (by omega), u1 121 (by omega)]
    have A1 : alb (fun i => decide (h16.2.1 (110 + 3) i = h16.2.1 (115 + 3) i)) 0 144 = alb (fun i => decide (w2.2.1 129 i = w2.2.1 154 i)) 0 144 := alb_c 144 0 (fun i _ hi => (cell' i (by omega)).2)
    have A2 : alb (fun i => decide (h16.1 (120 + 1) i = h16.1 (123 + 1) i)) 0 3 = alb (fun i => decide (w2.1 158 i = w2.1 150 i)) 0 3 := alb_c 3 0 (fun i _ hi => by
      have a : h16.1 121 i = w2.1 158 i := by
        rw [x121, i2c 158 (by omega) (by omega) (by omega) (by omega), sj i (by omega)]
        exact rb3'.2 i (by omega)
      have b : h16.1 124 i = w2.1 150 i := rd3.2 i (by omega)
      show decide (h16.1 121 i = h16.1 124 i) = _
      rw [a, b])
    have A3 : decide (h16.1 120 3 = h16.1 123 3) = decide (w2.1 126 34 = w1.1 126 34) := by
      rw [x120, rb2', rd2]
      exact decide_eq_decide.mpr ⟨fun q => q.symm, fun q => q.symm⟩
    rw [A1] at XR
    rw [A2, A3] at XO
    obtain ⟨s3a, s3b, s3c, s3d, s3e, s3f, s3g, s3h, s3i⟩ := sa3_f (v := w2) (l4 := w0.1 126 34) (l5 := w0.1 126 37)
    have ic : ∀ c, ¬ c = 126 → ¬ c = 130 → ¬ (144 ≤ c ∧ c ≤ 146) → ¬ (149 ≤ c ∧ c ≤ 152) → ¬ (155 ≤ c ∧ c ≤ 158) → (sa3 w2 (w0.1 126 34) (w0.1 126 37)).1 c = h16.1 c := fun c h1 h2 h3 h4 h5 => by
      rw [s3a c h1 h2 (by omega) (by omega), i2c c h1 h2 h3 h4, i1c c h1 h2 h3 h4 h5]
    have ik : ∀ k, ¬ k = 25 → ¬ k = 33 → ¬ k = 34 → ¬ k = 37 → ¬ k = 38 → ¬ k = 39 → (sa3 w2 (w0.1 126 34) (w0.1 126 37)).1 126 k = h16.1 126 k := fun k h0 h1 h2 h3 h4 h5 => by
      rw [s3b k h2 h3, i2k k h0 h1 h2 h3 h4 h5, i1k k h0 h1 h2 h3 h4 h5]
    have me3 : ME (sa3 w2 (w0.1 126 34) (w0.1 126 37)) h16 := by
      refine ⟨fun c h1 h2 h3 => ic c (by omega) h3 (by omega) (by omega) (by omega), fun a ha => by rw [(s3g a ha).2, e153 a ha], fun r hr i hi => ?_, ik 4 (by omega) (by omega) (by omega) (by omega) (by omega) (by omega), ik 6 (by omega) (by omega) (by omega) (by omega) (by omega) (by omega), ik 7 (by omega) (by omega) (by omega) (by omega) (by omega) (by omega), ik 18 (by omega) (by omega) (by omega) (by omega) (by omega) (by omega), ik 20 (by omega) (by omega) (by omega) (by omega) (by omega) (by omega)⟩
      by_cases c : 24 * r + i < 144
      · rw [(s3g _ c).2, e153 _ c]
      · rw [s3h _ (by omega), rc9 r (by rw [i2c 127 (by omega) (by omega) (by omega) (by omega), i1c 127 (by omega) (by omega) (by omega) (by omega) (by omega)]; exact hr) i hi, wI_d, qm.2.2, d129b r hr i hi]
    have IV : Iv (sa3 w2 (w0.1 126 34) (w0.1 126 37)) (sa3 w2 (w0.1 126 34) (w0.1 126 37)) := by
      refine Iv_me iv16 me3 (fun c hc => ic c (by omega) (by omega) (by omega) (by omega) (by omega)) (fun c hc => ?_) (fun a ha => ?_) ?_ ?_ (fun f hf => ?_) (fun p hp => ?_)
      · rw [s3i c (by omega), d2c c (by omega) (by omega) (by omega), sg c (by omega) (by omega), ra5 c (by omega) (by omega) (by omega), wI_d, sb c (by omega), q0.2.2]
      · rw [(s3g a ha).1, i2c 155 (by omega) (by omega) (by omega) (by omega), sf 155 (by omega), ra3 155 (by omega) (by omega) (by omega), wI_ne (by omega), (sc a ha).2, q0.1 130 (by omega) (by omega)]
      · rw [s3c, q0.2.1 34 (by omega) (by omega)]
      · rw [s3d, q0.2.1 37 (by omega) (by omega)]
      · rw [s3e f hf, i2c 157 (by omega) (by omega) (by omega) (by omega), sf 157 (by omega), ra3 157 (by omega) (by omega) (by omega), wI_ne (by omega), se f hf, q0.1 150 (by omega) (by omega)]
      · rw [s3f p hp, i2c 156 (by omega) (by omega) (by omega) (by omega), sf 156 (by omega), ra3 156 (by omega) (by omega) (by omega), wI_ne (by omega), sd p hp, q0.1 151 (by omega) (by omega)]
    refine EE_i (h1 := h16) (h2 := sa3 w2 (w0.1 126 34) (w0.1 126 37)) (r := bi ((decide (w2.1 126 34 = w1.1 126 34) && alb (fun i => decide (w2.1 158 i = w2.1 150 i)) 0 3) && alb (fun i => decide (w2.2.1 129 i = w2.2.1 154 i)) 0 144)) ?_ ?_ IV
    · unfold XT_same
      rw [e, b2_s, if_pos rfl, take_e, b1_s, treat_e, b1_s, e8, X1, b1_s, take_e, b1_s, e12, e14, b1_s, X2, b1_s]
      unfold XR_alike XO_alike
      rw [← nI_0, XR, b1_s, XO, b1_s, nI_0, itp (bi_0 _), itp (bi_0 _)]
      cases alb (fun i => decide (w2.2.1 129 i = w2.2.1 154 i)) 0 144
      · rw [if_pos rfl, Bool.and_false]
        rfl
      · rw [if_neg (by decide), Bool.and_true, Bool.and_comm]
        cases (decide (w2.1 126 34 = w1.1 126 34) && alb (fun i => decide (w2.1 158 i = w2.1 150 i)) 0 3) <;> rfl
    · show YM_same h16 (nI W) (nI dl) (nI x) a3 = _
      unfold YM_same
      rw [f0, b2_s, if_pos (by decide), SN, b2_s]
  · obtain ⟨w, f, qw⟩ := M_refusal iv2.2.2.1 il2 a0 a1 a2 a3
    rw [RF_sl sl2] at f
    refine EE_i (h1 := h2) (h2 := w) (r := RF h N S a0 a1 a2 a3) ?_ ?_ (WQ_iv qw iv2)
    · unfold XT_same
      rw [e, b2_s, if_neg rf]
    · show YM_same h2 a0 a1 a2 a3 = _
      unfold YM_same
      rw [f, b2_s, if_neg rn]
