/-! ===== mixed ===== -/
/-- the model's scratch of questions alone has changed; x's side need not stand -/
def WQ (w v : sd_H) : Prop := (∀ c, ¬ c = 126 → ¬ (144 ≤ c ∧ c ≤ 146) → w.1 c = v.1 c) ∧ (∀ k, ¬ k = 25 → ¬ k = 33 → w.1 126 k = v.1 126 k) ∧ w.2 = v.2
theorem WQ_r (v : sd_H) : WQ v v := ⟨fun _ _ _ => rfl, fun _ _ _ => rfl, rfl⟩
theorem WQ_t {a b c : sd_H} (x : WQ a b) (y : WQ b c) : WQ a c := ⟨fun k h1 h2 => (x.1 k h1 h2).trans (y.1 k h1 h2), fun k h1 h2 => (x.2.1 k h1 h2).trans (y.2.1 k h1 h2), x.2.2.trans y.2.2⟩
theorem WQ_ma {w v : sd_H} {A : Nat → Int32} (x : MA w v A) : WQ w v := ⟨fun c h1 h2 => x.1 c h1 (by omega) (by omega), fun k h1 _ => x.2.1 k h1, x.2.2.1⟩
theorem WQ_146 {w v : sd_H} {r : Nat} {x : Int32} (q : WQ w v) : WQ (wI w 146 r x) v := ⟨fun c h1 h2 => by rw [wI_ne (by omega)]; exact q.1 c h1 h2, fun k h1 h2 => by rw [wI_ne (by omega)]; exact q.2.1 k h1 h2, q.2.2⟩
theorem WQ_33 {w v : sd_H} {x : Int32} (q : WQ w v) : WQ (wI w 126 33 x) v := ⟨fun c h1 h2 => by rw [wI_ne h1]; exact q.1 c h1 h2, fun k h1 h2 => by rw [wI_ns h2]; exact q.2.1 k h1 h2, q.2.2⟩
theorem WQ_me {w v g : sd_H} (q : WQ w v) (m : ME v g) : ME w g := by
  obtain ⟨c, d, e, k4, k6, k7, k18, k20⟩ := m
  exact ⟨fun j h1 h2 h3 => (q.1 j (by omega) (by omega)).trans (c j h1 h2 h3), fun a ha => by rw [q.2.2]; exact d a ha, fun r hr i hi => by rw [q.2.2]; exact e r hr i hi, (q.2.1 4 (by omega) (by omega)).trans k4, (q.2.1 6 (by omega) (by omega)).trans k6, (q.2.1 7 (by omega) (by omega)).trans k7, (q.2.1 18 (by omega) (by omega)).trans k18, (q.2.1 20 (by omega) (by omega)).trans k20⟩
theorem WQ_sl {w v : sd_H} (q : WQ w v) : SL w v := ME_sl (WQ_me q (ME_r v))
theorem WQ_il {w v : sd_H} {N S : Nat} (q : WQ w v) (il : IL v v N S) : IL w w N S := by
  have a : IL v w N S := ME_il (WQ_me q (ME_r v)) il
  exact IL_c (fun c h1 h2 => q.1 c (by omega) (by omega)) rfl rfl rfl rfl rfl rfl rfl rfl rfl rfl rfl a
theorem WQ_iv {w v : sd_H} (q : WQ w v) (iv : Iv v v) : Iv w w := by
  have c := fun c h1 h2 => q.1 c h1 h2
  exact Iv_c (c 2 (by omega) (by omega)) (c 3 (by omega) (by omega)) (by rw [q.2.2]) (c 5 (by omega) (by omega)) (fun j h1 h2 => c j (by omega) (by omega)) (c 33 (by omega) (by omega)) (fun j h1 h2 => c j (by omega) (by omega)) (c 55 (by omega) (by omega)) (by rw [c 0 (by omega) (by omega)])
    (c 107 (by omega) (by omega)) (c 108 (by omega) (by omega)) (c 109 (by omega) (by omega)) (by rw [c 56 (by omega) (by omega)]) (fun s hs => c (58 + s) (by omega) (by omega)) (c 127 (by omega) (by omega)) (c 128 (by omega) (by omega)) (by rw [q.2.2]) (c 130 (by omega) (by omega))
    (c 132 (by omega) (by omega)) (c 133 (by omega) (by omega)) (c 134 (by omega) (by omega)) (c 135 (by omega) (by omega)) (c 136 (by omega) (by omega)) (c 137 (by omega) (by omega)) (c 138 (by omega) (by omega)) (c 139 (by omega) (by omega)) (c 140 (by omega) (by omega)) (q.2.1 6 (by omega) (by omega)) (q.2.1 7 (by omega) (by omega)) (c 141 (by omega) (by omega)) (q.2.1 18 (by omega) (by omega))
    (q.2.1 20 (by omega) (by omega)) (c 142 (by omega) (by omega)) (by rw [q.2.1 4 (by omega) (by omega), c 0 (by omega) (by omega)]; exact iv.2.2.2.2.2.2.1) (q.2.1 34 (by omega) (by omega)) (q.2.1 37 (by omega) (by omega)) (c 150 (by omega) (by omega)) (c 151 (by omega) (by omega)) iv
theorem JU_sl {g h : sd_H} (sl : SL g h) (N S r : Nat) (F : Int32) : JU g N S r F = JU h N S r F := by
  have ga_ : ∀ m k x, ga g r F k m x = ga h r F k m x := by
    intro m
    induction m with
    | zero => exact fun _ _ => rfl
    | succ m ih =>
      intro k x
      have fc : FAM g k F = FAM h k F := by
        unfold FAM al
        rw [sl.2.1, sl.2.2.2.1, sl.2.2.2.2.2.1, sl.2.2.2.2.2.2.1, sl.2.2.2.2.2.2.2.1, sl.2.2.2.2.2.2.2.2.1, gr_c sl]
      have oc : ow g r k F = ow h r k F := by
        unfold ow
        rw [fc, sl.2.2.2.2.2.1]
      have lc : lr g k r = lr h k r := by
        unfold lr kl
        rw [lk_c sl, sl.2.2.2.2.2.1]
      unfold ga
      rw [oc, lc, ih, ih]
  have wsc : ws g = ws h := by
    refine funext fun s => funext fun r => funext fun t => ?_
    unfold ws
    rw [q_al_c sl]
  unfold JU
  rw [wsc, ga_]
theorem sr_sl {g h : sd_H} (sl : SL g h) (N S : Nat) : ∀ m r, sr g N S r m = sr h N S r m := by
  intro m
  induction m with
  | zero => exact fun _ => rfl
  | succ m ih =>
    intro r
    unfold sr
    rw [JU_sl sl, sl.2.1, ih]
theorem verdictOf_w {v : sd_H} {N S r : Nat} (iz : IZ (v.1 128)) (il : IL v v N S) (hr : r < 6) : ∃ w, YM_verdictOf v (nI r) = some (w, JU v N S r (v.1 127 r)) ∧ WQ w v ∧ w.1 146 = v.1 146 := by
  obtain ⟨w, e, q⟩ := YM_verdictAs_w iz il (r := r) (a := -1) (b := 0) (F := v.1 127 r) ⟨by decide, Or.inl ⟨rfl, rfl⟩⟩ hr
  refine ⟨w, ?_, WQ_ma q, q.1 146 (by omega) (by omega) (by omega)⟩
  unfold YM_verdictOf
  rw [e, b2_s]
theorem serials_L_w {h : sd_H} {N S : Nat} (iz : IZ (h.1 128)) (il : IL h h N S) : ∀ m fu r n (x : sd_H), r + m = 6 → m < fu → WQ x h → ∃ w, YM_serials_L4 fu x (nI n) (nI r) = some (w, nI (n + sr h N S r m)) ∧ WQ w h
  | _, 0, _, _, _, _, q, _ => absurd q (Nat.not_lt_zero _)
  | 0, fu + 1, r, n, x, e, _, k => by
    unfold YM_serials_L4
    rw [show (6 : Int32) = nI 6 from rfl, if_pos (nI_le (by omega) (by omega))]
    exact ⟨x, rfl, k⟩
  | m + 1, fu + 1, r, n, x, e, q, k => by
    have sl := WQ_sl k
    obtain ⟨w, e1, q1, q146⟩ := verdictOf_w (r := r) (by rw [sl.2.2.1]; exact iz) (WQ_il k il) (show r < 6 by omega)
    have k1 := WQ_t q1 k
    unfold YM_serials_L4 YM_serials_B25 sr
    rw [show (6 : Int32) = nI 6 from rfl, if_neg (nI_ge (by omega) (by omega)), e1, b2_s, JU_sl sl, sl.2.1, nI_1, nI_1]
    by_cases c : JU h N S r (h.1 127 r) = 4
    · rw [if_pos c, if_pos c]
      obtain ⟨w', e2, q2⟩ := serials_L_w iz il m fu (r + 1) (n + 1) w (by omega) (by omega) k1
      exact ⟨w', by rw [e2]; exact congrArg (fun a => some (w', nI a)) (by omega), q2⟩
    · rw [if_neg c, if_neg c, Int32.add_zero]
      obtain ⟨w', e2, q2⟩ := serials_L_w iz il m fu (r + 1) n w (by omega) (by omega) k1
      exact ⟨w', by rw [e2]; exact congrArg (fun a => some (w', nI a)) (by omega), q2⟩
theorem serials_w {h : sd_H} {N S : Nat} (iz : IZ (h.1 128)) (il : IL h h N S) : ∃ w, YM_serials h = some (w, nI (sr h N S 0 6)) ∧ WQ w h := by
  obtain ⟨w, e, q⟩ := serials_L_w iz il 6 FU 0 0 h (by omega) (by rw [FU_s]; omega) (WQ_r h)
  rw [Nat.zero_add, nI_0] at e
  exact ⟨w, e, q⟩
/-- what is said before a mixed run -/
def RF (v : sd_H) (N S : Nat) (a0 a1 a2 a3 : Int32) : Int32 :=
  if wn a0 1 4 = 0 then -2 else if wn a1 0 2 = 0 then -2 else if wn a2 0 63 = 0 then -2 else if wn a3 0 1 = 0 then -2 else if a3 = 0 then (if sr v N S 0 6 = 0 then 0 else -3) else 0
theorem RF_sl {g h : sd_H} (sl : SL g h) (N S : Nat) (a0 a1 a2 a3 : Int32) : RF g N S a0 a1 a2 a3 = RF h N S a0 a1 a2 a3 := by
  unfold RF
  rw [sr_sl sl]
theorem RF_c (v : sd_H) (N S : Nat) (a0 a1 a2 a3 : Int32) : (RF v N S a0 a1 a2 a3 = 0 ∧ ∃ W dl x, 1 ≤ W ∧ W ≤ 4 ∧ dl ≤ 2 ∧ x < 64 ∧ a0 = nI W ∧ a1 = nI dl ∧ a2 = nI x) ∨ (¬ RF v N S a0 a1 a2 a3 = 0 ∧ ¬ 0 ≤ RF v N S a0 a1 a2 a3) := by
  unfold RF
  rcases wn_ti (a := a0) (show ((1 : Int32)).toInt = 1 by decide) (show ((4 : Int32)).toInt = 4 by decide) with c0 | ⟨l0, u0, c0⟩
  · rw [if_pos c0]
    exact Or.inr ⟨by decide, by decide⟩
  rw [if_neg (by rw [c0]; decide)]
  rcases wn_ti (a := a1) (show ((0 : Int32)).toInt = 0 by decide) (show ((2 : Int32)).toInt = 2 by decide) with c1 | ⟨l1, u1, c1⟩
  · rw [if_pos c1]
    exact Or.inr ⟨by decide, by decide⟩
  rw [if_neg (by rw [c1]; decide)]
  rcases wn_ti (a := a2) (show ((0 : Int32)).toInt = 0 by decide) (show ((63 : Int32)).toInt = 63 by decide) with c2 | ⟨l2, u2, c2⟩
  · rw [if_pos c2]
    exact Or.inr ⟨by decide, by decide⟩
  rw [if_neg (by rw [c2]; decide)]
  have pars : ∃ W dl x, 1 ≤ W ∧ W ≤ 4 ∧ dl ≤ 2 ∧ x < 64 ∧ a0 = nI W ∧ a1 = nI dl ∧ a2 = nI x := ⟨a0.toInt.toNat, a1.toInt.toNat, a2.toInt.toNat, by omega, by omega, by omega, by omega, of_ti (by omega) (by omega), of_ti (by omega) (by omega), of_ti (by omega) (by omega)⟩
  by_cases c3 : wn a3 0 1 = 0
  · rw [if_pos c3]
    exact Or.inr ⟨by decide, by decide⟩
  rw [if_neg c3]
  by_cases c4 : a3 = 0
  · rw [if_pos c4]
    by_cases c5 : sr v N S 0 6 = 0
    · rw [if_pos c5]
      exact Or.inl ⟨rfl, pars⟩
    · rw [if_neg c5]
      exact Or.inr ⟨by decide, by decide⟩
  · rw [if_neg c4]
    exact Or.inl ⟨rfl, pars⟩
theorem X_refusal {h : sd_H} (iv : Iv h h) {N S : Nat} (il : IL h h N S) (a0 a1 a2 a3 : Int32) : ∃ g, XT_mixedRefusal h a0 a1 a2 a3 = some (g, RF h N S a0 a1 a2 a3) ∧ QQ g h := by
  unfold XT_mixedRefusal RF
  simp only [XT_within_e, b1_s]
  by_cases c0 : wn a0 1 4 = 0
  · rw [if_pos c0, if_pos c0]
    exact ⟨h, rfl, QQ_r iv⟩
  rw [if_neg c0, if_neg c0]
  by_cases c1 : wn a1 0 2 = 0
  · rw [if_pos c1, if_pos c1]
    exact ⟨h, rfl, QQ_r iv⟩
  rw [if_neg c1, if_neg c1]
  by_cases c2 : wn a2 0 63 = 0
  · rw [if_pos c2, if_pos c2]
    exact ⟨h, rfl, QQ_r iv⟩
  rw [if_neg c2, if_neg c2]
  by_cases c3 : wn a3 0 1 = 0
  · rw [if_pos c3, if_pos c3]
    exact ⟨h, rfl, QQ_r iv⟩
  rw [if_neg c3, if_neg c3]
  by_cases c4 : a3 = 0
  · obtain ⟨g, e, q⟩ := X_serials iv il
    have l := sr_le h N S 6 0
    rw [if_pos c4, if_pos c4, e, b2_s, itp (nle0 (show sr h N S 0 6 < 2 ^ 31 by omega))]
    by_cases c5 : sr h N S 0 6 = 0
    · rw [if_pos c5, if_pos c5]
      exact ⟨g, rfl, q⟩
    · rw [if_neg c5, if_neg c5]
      exact ⟨g, rfl, q⟩
  · rw [if_neg c4, if_neg c4]
    exact ⟨h, rfl, QQ_r iv⟩
theorem M_refusal {h : sd_H} {N S : Nat} (iz : IZ (h.1 128)) (il : IL h h N S) (a0 a1 a2 a3 : Int32) : ∃ w, YM_mayMix h a0 a1 a2 a3 = some (w, RF h N S a0 a1 a2 a3) ∧ WQ w h := by
  unfold YM_mayMix RF
  simp only [YM_in_e, b1_s]
  by_cases c0 : wn a0 1 4 = 0
  · rw [if_pos c0, if_pos c0]
    exact ⟨h, rfl, WQ_r h⟩
  rw [if_neg c0, if_neg c0]
  by_cases c1 : wn a1 0 2 = 0
  · rw [if_pos c1, if_pos c1]
    exact ⟨h, rfl, WQ_r h⟩
  rw [if_neg c1, if_neg c1]
  by_cases c2 : wn a2 0 63 = 0
  · rw [if_pos c2, if_pos c2]
    exact ⟨h, rfl, WQ_r h⟩
  rw [if_neg c2, if_neg c2]
  by_cases c3 : wn a3 0 1 = 0
  · rw [if_pos c3, if_pos c3]
    exact ⟨h, rfl, WQ_r h⟩
  rw [if_neg c3, if_neg c3]
  by_cases c4 : a3 = 0
  · obtain ⟨g, e, q⟩ := serials_w iz il
    have l := sr_le h N S 6 0
    rw [if_pos c4, if_pos c4, e, b2_s, itp (nle0 (show sr h N S 0 6 < 2 ^ 31 by omega))]
    by_cases c5 : sr h N S 0 6 = 0
    · rw [if_pos c5, if_pos c5]
      exact ⟨g, rfl, q⟩
    · rw [if_neg c5, if_neg c5]
      exact ⟨g, rfl, q⟩
  · rw [if_neg c4, if_neg c4]
    exact ⟨h, rfl, WQ_r h⟩
/-- x treats each row by its verdict -/
theorem treatV_L_e {h g0 : sd_H} {N S : Nat} (iz : IZ (h.1 128)) (il : IL h h N S) (ilg : IL g0 h N S) (fm : ∀ r, r < 6 → g0.1 2 r = h.1 127 r) (fs : FS g0 (q_al h)) : ∀ m fu r (x : sd_H), r + m = 6 → m < fu → (∀ c, ¬ c = 101 → x.1 c = g0.1 c) → x.2 = g0.2 → (∀ i, i < r → x.1 101 i = JU h N S i (h.1 127 i)) →
    ∃ g, XU_treatByVerdict_L6 fu x (nI r) = some g ∧ (∀ c, ¬ c = 101 → g.1 c = g0.1 c) ∧ g.2 = g0.2 ∧ ∀ i, i < 6 → g.1 101 i = JU h N S i (h.1 127 i)
  | _, 0, _, _, _, q, _, _, _ => absurd q (Nat.not_lt_zero _)
  | 0, fu + 1, r, x, e, _, f1, f2, f3 => by
    unfold XU_treatByVerdict_L6
    rw [lit 6, if_pos (nI_le (by omega) (by omega))]
    exact ⟨x, rfl, f1, f2, fun i hi => f3 i (by omega)⟩
  | m + 1, fu + 1, r, x, e, q, f1, f2, f3 => by
    have ilx : IL x h N S := IL_c (fun c h1 h2 => f1 c (by omega)) rfl rfl rfl rfl rfl rfl rfl rfl rfl rfl rfl ilg
    have J := XY_judge_e (g := x) (F := h.1 127 r) iz il ilx (fun r hr => by rw [f1 2 (by omega)]; exact fm r hr) (fun s a h1 h2 => by rw [f1 (58 + s) (by omega)]; exact fs s a h1 h2) (show r < 6 by omega)
    unfold XU_treatByVerdict_L6
    rw [lit 6, if_neg (show ¬ nI 6 ≤ nI r from nI_ge (by omega) (by omega)), inB_n (show r < 6 by omega) (by omega), gd_t, nI_clamp (by omega), f1 2 (by omega), fm r (by omega), J, b1_s, gd_t, hb_s, nI_1]
    exact treatV_L_e iz il ilg fm fs m fu (r + 1) _ (by omega) (by omega) (fun c hc => by rw [wI_ne hc]; exact f1 c hc) f2 (fun i hi => by
      by_cases c : i = r
      · subst c
        exact wI_eq
      · rw [wI_ns c]
        exact f3 i (by omega))
theorem treatV_e {h : sd_H} (iv : Iv h h) {N S : Nat} (il : IL h h N S) : ∃ g, XU_treatByVerdict h = some g ∧ Iv g g ∧ (∀ c, ¬ c = 101 → (c < 56 ∨ 62 < c) → g.1 c = h.1 c) ∧ g.2 = h.2 ∧ ∀ i, i < 6 → g.1 101 i = JU h N S i (h.1 127 i) := by
  obtain ⟨g0, e, q, xf, fs, ilg, fm, _⟩ := X_ref iv il
  obtain ⟨g, X, f1, f2, f3⟩ := treatV_L_e iv.2.2.1 il ilg fm fs 6 FU 0 g0 (by omega) (by rw [FU_s]; omega) (fun _ _ => rfl) rfl (fun i hi => absurd hi (Nat.not_lt_zero _))
  refine ⟨g, ?_, Iv_rx q.1 (fun c h1 _ => f1 c (by omega)) (fun c _ _ => by rw [f2]), fun c h1 h2 => (f1 c h1).trans (xf.1 c (by omega) (by omega)), f2.trans xf.2, f3⟩
  unfold XU_treatByVerdict
  rw [e, b1_s, ← nI_0]
  exact X
/-- the model's verdicts before a mixed run -/
theorem mixes_L3_e {v : sd_H} {N S : Nat} {a0 a1 a2 : Int32} (iz : IZ (v.1 128)) (il : IL v v N S) : ∀ m fu r (x : sd_H), r + m = 6 → m < fu → WQ x v → (∀ i, i < r → x.1 146 i = JU v N S i (v.1 127 i)) →
    ∃ w, YM_mixes_L3 fu x a0 a1 a2 (nI r) = b1 (YM_begins (wI w 126 33 1)) (fun h5 => b1 (YM_left h5 a0 a1) (fun t7 => YM_mixes_L49 FU h5 a0 a1 a2 t7)) ∧ WQ w v ∧ ∀ i, i < 6 → w.1 146 i = JU v N S i (v.1 127 i)
  | _, 0, _, _, _, q, _, _ => absurd q (Nat.not_lt_zero _)
  | 0, fu + 1, r, x, e, _, k, f3 => by
    unfold YM_mixes_L3
    rw [lit 6, if_pos (nI_le (by omega) (by omega)), hb_s]
    exact ⟨x, rfl, k, fun i hi => f3 i (by omega)⟩
  | m + 1, fu + 1, r, x, e, q, k, f3 => by
    have sl := WQ_sl k
    obtain ⟨w, e1, q1, q146⟩ := verdictOf_w (r := r) (by rw [sl.2.2.1]; exact iz) (WQ_il k il) (show r < 6 by omega)
    have k1 := WQ_t q1 k
    unfold YM_mixes_L3
    rw [lit 6, if_neg (show ¬ nI 6 ≤ nI r from nI_ge (by omega) (by omega)), e1, b2_s, JU_sl sl, sl.2.1, inB_n (show r < 6 by omega) (by omega), gd_t, hb_s, nI_clamp (by omega), nI_1]
    exact mixes_L3_e iz il m fu (r + 1) _ (by omega) (by omega) (WQ_146 k1) (fun i hi => by
      by_cases c : i = r
      · subst c
        exact wI_eq
      · rw [wI_ns c, q146]
        exact f3 i (by omega))
theorem mixes_e {v : sd_H} {N S : Nat} (a0 a1 a2 : Int32) (iz : IZ (v.1 128)) (il : IL v v N S) : ∃ w, YM_mixes v a0 a1 a2 = b1 (YM_begins (wI w 126 33 1)) (fun h5 => b1 (YM_left h5 a0 a1) (fun t7 => YM_mixes_L49 FU h5 a0 a1 a2 t7)) ∧ WQ w v ∧ ∀ i, i < 6 → w.1 146 i = JU v N S i (v.1 127 i) := by
  obtain ⟨w, e, q, f⟩ := mixes_L3_e (a0 := a0) (a1 := a1) (a2 := a2) iz il 6 FU 0 v (by omega) (by rw [FU_s]; omega) (WQ_r v) (fun i hi => absurd hi (Nat.not_lt_zero _))
  refine ⟨w, ?_, q, f⟩
  unfold YM_mixes
  rw [← nI_0]
  exact e
/-- the loop and the rows, where the model's cells are as they were -/
theorem ME_iz {v g : sd_H} (m : ME v g) (iz : IZ (g.1 128)) : IZ (v.1 128) := by
  rw [m.1 128 (by omega) (by omega) (by omega)]
  exact iz
theorem E_mixed {h : sd_H} (iv : Iv h h) (a0 a1 a2 a3 : Int32) : EE (XT_mixed h a0 a1 a2 a3) (fun g => YM_mixed g a0 a1 a2 a3) := by
  obtain ⟨N, S, il, _⟩ := iv.2.2.2.2.1
  obtain ⟨h2, e, q⟩ := X_refusal iv il a0 a1 a2 a3
  have iv2 := q.1
  have il2 := QQ_il q il
  have sl2 := QQ_sl q
  rcases RF_c h N S a0 a1 a2 a3 with ⟨rf, W, dl, x, hW1, hW, hd, hx, rfl, rfl, rfl⟩ | ⟨rf, rn⟩
  · rw [rf] at e
    obtain ⟨g1, e1, iv1, x1, x2, x3⟩ := treatV_e iv2 il2
    have m1 : ME g1 h2 := ⟨fun c h1 h2 h3 => x1 c (by omega) (by omega), fun a _ => by rw [x2], fun r _ i _ => by rw [x2], by rw [x1 126 (by omega) (by omega)], by rw [x1 126 (by omega) (by omega)], by rw [x1 126 (by omega) (by omega)], by rw [x1 126 (by omega) (by omega)], by rw [x1 126 (by omega) (by omega)]⟩
    have il1 : IL g1 g1 N S := by
      have a : IL h2 g1 N S := ME_il m1 il2
      exact IL_c (fun c h1 h2 => x1 c (by omega) (by omega)) rfl rfl rfl rfl rfl rfl rfl rfl rfl rfl rfl a
    have rb : ∀ w, ME w g1 → (∀ i, i < 6 → w.1 146 i = JU h2 N S i (h2.1 127 i)) → RB 1 (fun i => JU h2 N S i (h2.1 127 i)) true N S g1 (wI w 126 33 1) := fun w m t =>
      RB_i iv1 il1 (Or.inl rfl) (fun r hr => ⟨rfl, rfl, fun _ _ => rfl⟩) (ME_w m) x3 wI_eq (fun q => by cases q) (fun _ r hr => by rw [wI_ne (by omega)]; exact t r hr)
    obtain ⟨g', v1, X, _, re1⟩ := run_mix (Q := 107) (rb (fun c k => if c = 146 then JU h2 N S k (h2.1 127 k) else g1.1 c k, g1.2) ⟨fun c h1 h2 h3 => funext fun k => if_neg (by omega), fun _ _ => rfl, fun _ _ _ _ => rfl, rfl, rfl, rfl, rfl, rfl⟩ (fun i _ => show (if (146 : Nat) = 146 then JU h2 N S i (h2.1 127 i) else g1.1 146 i) = JU h2 N S i (h2.1 127 i) from if_pos rfl)) (Or.inl rfl) hW1 hW hd hx
    have me := ME_x (Or.inl rfl) (Or.inl rfl) re1
    have ilg : IL g' g' N S := by
      have a : IL g1 g' N S := ME_il me il1
      exact IL_c (fun c h1 h2 => re1.1 c (by omega) (by omega) (by omega) (by omega)) rfl rfl rfl rfl rfl rfl rfl rfl rfl rfl rfl a
    have izg := ME_iz me iv1.2.2.1
    obtain ⟨w1, f1, q1⟩ := M_refusal izg ilg (nI W) (nI dl) (nI x) a3
    have slg1 := ME_sl me
    have sl1 := ME_sl m1
    rw [RF_sl slg1, RF_sl sl1, RF_sl sl2, rf] at f1
    have slw1 := WQ_sl q1
    obtain ⟨w2, f2, q2, t2⟩ := mixes_e (nI W) (nI dl) (nI x) (by rw [slw1.2.2.1]; exact izg) (WQ_il q1 ilg)
    have mw : ME w2 g1 := WQ_me (WQ_t q2 q1) me
    obtain ⟨g2, v', X2, M, re⟩ := run_mix (Q := 107) (x := x) (rb w2 mw (fun i hi => by rw [t2 i hi, slw1.2.1, slg1.2.1, sl1.2.1, JU_sl slw1, JU_sl slg1, JU_sl sl1])) (Or.inl rfl) hW1 hW hd hx
    have eg : g' = g2 := Option.some.inj (X.symm.trans X2)
    subst eg
    have q12 := WQ_t q2 q1
    have re' := re
    obtain ⟨a1, a2, a3', a4, a5, a6, a7, a8, a9, b1', b2', b3'⟩ := re'
    refine EE_i (h1 := g') (h2 := v') (r := g'.1 107 3) ?_ ?_ (Iv_fin iv1 re (ME_w mw) (fun c hc => ((a3' c (by omega) (by omega) (by omega)).trans (wI_ne (by omega))).trans (q12.1 c (by omega) (by omega))) (fun c hc => (a5 c (by omega) (by omega) (by omega)).trans (by rw [wI_d, q12.2.2])))
    · unfold XT_mixed
      rw [e, b2_s, if_pos rfl, e1, b1_s, X, b1_s]
    · show YM_mixed g' (nI W) (nI dl) (nI x) a3 = _
      unfold YM_mixed
      rw [f1, b2_s, if_pos (by decide), f2, M, b2_s, b2']
  · obtain ⟨w, f, qw⟩ := M_refusal iv2.2.2.1 il2 a0 a1 a2 a3
    rw [RF_sl sl2] at f
    refine EE_i (h1 := h2) (h2 := w) (r := RF h N S a0 a1 a2 a3) ?_ ?_ (WQ_iv qw iv2)
    · unfold XT_mixed
      rw [e, b2_s, if_neg rf]
    · show YM_mixed h2 a0 a1 a2 a3 = _
      unfold YM_mixed
      rw [f, b2_s, if_neg rn]
