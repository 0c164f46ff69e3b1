/-! ===== a run from its beginning to its end ===== -/
section
variable {P Q N S W dl : Nat} {T : Nat → Int32} {mx : Bool} {g0 v0 g v : sd_H} {s : Nat → Option (Nat × Nat)}
theorem go_0 (fu : Nat) (g : sd_H) (x l8 : Int32) : XU_go_L22 (fu + 1) g x (nI 0) l8 = XU_copyOut g := by
  unfold XU_go_L22 XU_go_B73
  rw [if_pos (show nI 0 ≤ 0 by decide)]
  have e : b1 (XU_copyOut g) (fun h7 => some h7) = XU_copyOut g := by
    cases XU_copyOut g <;> rfl
  rw [e]
  split <;> rfl
theorem bcw_0 (h : ∀ i, i < N → s i = none) : bcw s N 1 0 = 0 := by
  have e : bcw s N 1 0 = (if bw s N 1 0 0 = true then 1 else 0) + 0 := rfl
  rw [e]
  unfold bw
  obtain ⟨z, _⟩ | ⟨q2, z, _, hq2, pq, _⟩ := fps_c (ps s N 1 0 0) N 0
  · rw [z]
    rfl
  · unfold ps at pq
    have t0 : tq N 0 q2 = q2 := rfl
    rw [t0, h q2 (by omega), Bool.and_eq_true] at pq
    exact absurd pq.2 (by decide)
theorem go_runs (sb : SB P Q N S 1 0 T mx g0 v0) : ∀ (K l : Nat) (g v : sd_H) (s : Nat → Option (Nat × Nat)) (fu x l8 fu2 fu3 : Nat), SS P Q N S 1 0 T mx g0 v0 g v s → sm (fun t => mz (s t)) N + (N - l) ≤ K → l < N → (∀ i, i < l → s i = none) → x < 64 → sm (fun t => mz (s t)) N + l8 ≤ 250 → sm (fun t => mz (s t)) N < fu → N - l ≤ fu2 → sm (fun t => mz (s t)) N < fu3 →
    ∃ g' v' s', SS P Q N S 1 0 T mx g0 v0 g' v' s' ∧ XU_go_L22 fu g (nI x) (nI (bcw s N 1 0)) (nI l8) = XU_copyOut g' ∧ YM_runNow_L19 (YM_runNow_L11 fu2) fu3 v (nI l) = some (v', v'.1 126 34) := by
  intro K
  have hN := sb.1.2.2.1.1
  have hS := sb.1.2.2.1.2.1
  induction K with
  | zero =>
    intro l g v s fu x l8 fu2 fu3 ss hK hl
    exact absurd hK (by omega)
  | succ K ih =>
    intro l g v s fu x l8 fu2 fu3 ss hK hl hb hx hm h1 h2 h3
    obtain ⟨fu, rfl⟩ : ∃ f, fu = f + 1 := ⟨fu - 1, by omega⟩
    obtain ⟨fu2, rfl⟩ : ∃ f, fu2 = f + 1 := ⟨fu2 - 1, by omega⟩
    obtain ⟨fu3, rfl⟩ : ∃ f, fu3 = f + 1 := ⟨fu3 - 1, by omega⟩
    have e152 := ss.2.2.2.2.2.2.1 l hl
    have e6 : v.1 126 6 = nI N := (RS_f sb.2.1 ss.1 ss.2.1 sb.1).2.2.1.2.2.2.1
    conv => enter [1, g', 1, v', 1, s', 2, 2, 1]; unfold YM_runNow_L19
    rw [inB_n (show l < 10 by omega) (by omega), gd_t, nI_clamp (by omega), e152, nI_1]
    cases y : s l with
    | none =>
      rw [if_pos (show cdo none = -1 from rfl)]
      have hb' : ∀ i, i < l + 1 → s i = none := fun i hi => by
        by_cases c : i = l
        · rw [c]
          exact y
        · exact hb i (by omega)
      conv => enter [1, g', 1, v', 1, s', 2, 2, 1]; unfold YM_runNow_L11
      rw [e6]
      by_cases c : N ≤ l + 1
      · rw [if_pos (nI_le c (by omega)), bcw_0 (fun i hi => hb' i (by omega)), go_0]
        exact ⟨g, v, s, ss, rfl, rfl⟩
      · rw [if_neg (nI_ge (by omega) (by omega))]
        exact ih (l + 1) g v s (fu + 1) x l8 fu2 FU ss (by omega) (by omega) hb' hx hm h1 (by omega) (by rw [FU_s]; omega)
    | some kj =>
      obtain ⟨v1, v2, _⟩ := ss.2.2.2.2.2.2.2.1 l kj.1 kj.2 hl y
      rw [if_neg (cdo_ne (by omega) (by omega))]
      have psl : ps s N 1 0 0 l = true := by
        unfold ps
        rw [show tq N 0 l = l from rfl, y]
        unfold wk1
        rw [if_neg (by omega), Nat.mod_one]
        rfl
      have pos : fp (ps s N 1 0 0) 0 N = some l := by
        obtain ⟨z, zz⟩ | ⟨q2, z, _, hq2, pq, bf⟩ := fps_c (ps s N 1 0 0) N 0
        · rw [zz l (by omega) (by omega)] at psl
          cases psl
        · rw [z]
          rcases Nat.lt_trichotomy q2 l with c | c | c
          · unfold ps at pq
            rw [show tq N 0 q2 = q2 from rfl, hb q2 c, Bool.and_eq_true] at pq
            exact absurd pq.2 (by decide)
          · rw [c]
          · rw [bf l (by omega) c] at psl
            cases psl
      have hbc : 0 < bcw s N 1 0 := by
        have e : bcw s N 1 0 = (if bw s N 1 0 0 = true then 1 else 0) + 0 := rfl
        rw [e]
        unfold bw
        rw [pos, if_pos (show (some l).isSome = true from rfl)]
        omega
      obtain ⟨w, q, g1, v1', s1, hw, _, pos', M, ss1, ml, sf, X⟩ := go_step (fu := fu) (x := x) (l8 := l8) sb ss hx hbc hm
      have w0 : w = 0 := by omega
      subst w0
      rw [pos] at pos'
      have ql : l = q := Option.some.inj pos'
      subst ql
      rw [show tq N 0 l = l from rfl] at M sf
      rw [M, b1_s]
      obtain ⟨g', v', s', ss', X', M'⟩ := ih l g1 v1' s1 fu (sdn x) (l8 + 1) (fu2 + 1) fu3 ss1 (by omega) hl (fun i hi => by rw [sf i (by omega)]; exact hb i hi) (sdn_lt x) (by omega) (by omega) h2 (by omega)
      exact ⟨g', v', s', ss', X.trans X', M'⟩
/-- the model's heap with copies out -/
def CF (N : Nat) (v' v : sd_H) : Prop := (∀ c, ¬ c = 130 → v'.1 c = v.1 c) ∧ (∀ c, ¬ c = 129 → v'.2.1 c = v.2.1 c) ∧ v'.2.2 = v.2.2 ∧
  (∀ b, 144 ≤ b → v'.2.1 129 b = v.2.1 129 b) ∧ ∀ b, b < 144 → v'.1 130 b = oz (laf (fun t => !decide (v.1 149 (144 * t + b) = 0)) 0 N) (v.1 130 b) ∧ v'.2.1 129 b = od (laf (fun t => !decide (v.1 149 (144 * t + b) = 0)) 0 N) (v.2.1 129 b) (fun t => v.2.1 148 (144 * t + b))
/-- what a run has left -/
def RE (P Q : Nat) (g' v' g v : sd_H) : Prop :=
  (∀ c, ¬ c = 100 → ¬ (103 ≤ c ∧ c ≤ 106) → ¬ c = P + 4 → ¬ (Q ≤ c ∧ c ≤ Q + 2) → g'.1 c = g.1 c) ∧ (∀ c, ¬ c = 102 → ¬ c = P + 3 → g'.2.1 c = g.2.1 c) ∧
  (∀ c, ¬ c = 126 → ¬ c = 130 → ¬ (149 ≤ c ∧ c ≤ 152) → v'.1 c = v.1 c) ∧ (∀ k, ¬ k = 34 → ¬ k = 37 → ¬ k = 38 → ¬ k = 39 → v'.1 126 k = v.1 126 k) ∧ (∀ c, ¬ c = 129 → ¬ c = 147 → ¬ c = 148 → v'.2.1 c = v.2.1 c) ∧ v'.2.2 = v.2.2 ∧
  IR (g'.1 (P + 1)) (g'.1 (P + 2)) (g'.2.1 (P + 3)) (v'.1 127) (v'.1 128) (v'.2.1 129) ∧ IC (v'.2.1 129) ∧ (∀ r, ¬ nb (v'.1 127 r) = true → ∀ i, i < 24 → v'.2.1 129 (24 * r + i) = v.2.1 129 (24 * r + i)) ∧ (∀ a, a < 144 → g'.1 (P + 4) a = v'.1 130 a) ∧
  g'.1 Q 3 = v'.1 126 34 ∧ IO (g'.1 Q 2) (g'.1 (Q + 1)) (g'.1 (Q + 2)) (v'.1 126 37) (v'.1 150) (v'.1 151)
theorem fin_e (sb : SB P Q N S W dl T mx g0 v0) (ss : SS P Q N S W dl T mx g0 v0 g v s) : ∃ g', XU_copyOut g = some g' ∧ ∀ v', CF N v' v → RE P Q g' v' g0 v0 := by
  have rs := RS_f sb.2.1 ss.1 ss.2.1 sb.1
  obtain ⟨s1, s2, s3, s4, s5, s6, s7, s8⟩ := rs
  have hQ := sb.2.1
  have hN := s3.1
  obtain ⟨xf, mf, ⟨d1, d2, d3, d4, d5, d6⟩, i3, ⟨n, nl, n2, n37, no⟩, i1, _⟩ := ss
  have hw : ∀ t r, t < 10 → r < 6 → ∃ m, m < 2 ^ 24 ∧ g.1 103 (t * 6 + r) = nI m ∧ ∀ i, i < 24 → (!decide (v.1 149 (144 * t + (24 * r + i)) = 0)) = m.testBit i := fun t r ht hr => by
    obtain ⟨m, hm, em, _, hc⟩ := d5 t r ht hr
    refine ⟨m, hm, em, fun i hi => ?_⟩
    rw [(hc i hi).1]
    cases m.testBit i <;> rfl
  obtain ⟨g', X, e1, e2, e3, e4⟩ := copyOut_L_e (B := fun t a => !decide (v.1 149 (144 * t + a) = 0)) s1 hN N FU 0 g (by omega) (by rw [FU_s]; omega) s2 s3.2.2.1 hw
  refine ⟨g', X, fun v' ⟨c1, c2, c3, c5, c4⟩ => ?_⟩
  have key : ∀ r i t, r < 6 → i < 24 → laf (fun t => !decide (v.1 149 (144 * t + (24 * r + i)) = 0)) 0 N = some t → t < 10 ∧ nb (v.1 127 r) = true ∧ g.2.1 102 (144 * t + (24 * r + i)) = v.2.1 148 (144 * t + (24 * r + i)) ∧ okc (v.2.1 148 (144 * t + (24 * r + i))) := fun r i t hr hi h => by
    obtain ⟨_, h2, h3⟩ := laf_s _ _ _ _ h
    have ht : t < 10 := by omega
    obtain ⟨m, hm, em, hz, hc⟩ := d5 t r ht hr
    obtain ⟨hc1, hc2⟩ := hc i hi
    have tb : m.testBit i = true := by
      cases y : m.testBit i with
      | true => rfl
      | false =>
        rw [hc1, y] at h3
        exact absurd h3 (by decide)
    obtain ⟨hc3, hc4⟩ := hc2 tb
    have hnb : nb (v.1 127 r) = true := by
      rcases hz with hz | hz
      · rw [hz, Nat.zero_testBit] at tb
        cases tb
      · exact hz.2
    refine ⟨ht, hnb, ?_, hc4⟩
    rw [← hc3]
    exact congrArg _ (by omega)
  have dbl : ∀ r i, r < 6 → i < 24 → ((laf (fun t => !decide (v.1 149 (144 * t + (24 * r + i)) = 0)) 0 N = none ∧ g'.2.1 (P + 3) (24 * r + i) = g.2.1 (P + 3) (24 * r + i) ∧ v'.2.1 129 (24 * r + i) = v.2.1 129 (24 * r + i)) ∨ (nb (v.1 127 r) = true ∧ g'.2.1 (P + 3) (24 * r + i) = v'.2.1 129 (24 * r + i) ∧ okc (v'.2.1 129 (24 * r + i)))) := fun r i hr hi => by
    obtain ⟨_, x2⟩ := e4 (24 * r + i) (by omega)
    obtain ⟨_, y2⟩ := c4 (24 * r + i) (by omega)
    cases z : laf (fun t => !decide (v.1 149 (144 * t + (24 * r + i)) = 0)) 0 N with
    | none =>
      rw [z] at x2 y2
      exact Or.inl ⟨rfl, x2, y2⟩
    | some t =>
      rw [z] at x2 y2
      obtain ⟨_, k2, k3, k4⟩ := key r i t hr hi z
      refine Or.inr ⟨k2, ?_, ?_⟩
      · rw [x2, y2]
        exact k3
      · rw [y2]
        exact k4
  refine ⟨fun c h1 h2 h3 h4 => (e1 c h3).trans (xf.1 c h2 h3 h4), fun c h1 h2 => (e2 c h2).trans (xf.2.1 c h1 h2), fun c h1 h2 h3 => (c1 c h2).trans (mf.1 c h1 h2 h3), fun k h1 h2 h3 h4 => by rw [c1 126 (by omega)]; exact mf.2.1 k h1 h2 h3 h4, fun c h1 h2 h3 => (c2 c h1).trans (mf.2.2.1 c h1 h3), c3.trans mf.2.2.2, fun r hr => ?_, fun a ha => ?_, fun r hr i hi => ?_, fun a ha => ?_, ?_, ⟨n, by omega, ?_, ?_, fun p hp => ?_⟩, fun f hf => ?_⟩
  · obtain ⟨f1, f2⟩ := d1 r hr
    rw [e1 (P + 1) (by omega), e1 (P + 2) (by omega), c1 127 (by omega), c1 128 (by omega)]
    refine ⟨f1, ?_⟩
    rcases f2 with ⟨f3, f4, f5⟩ | ⟨f3, f4, f5⟩
    · refine Or.inl ⟨f3, f4, fun i hi => ?_⟩
      rcases dbl r i hr hi with ⟨_, a, _⟩ | ⟨a, _⟩
      · rw [a]
        exact f5 i hi
      · rw [f3] at a
        exact absurd a (by decide)
    · refine Or.inr ⟨f3, f4, fun i hi => ?_⟩
      rcases dbl r i hr hi with ⟨_, a, b⟩ | ⟨_, a, _⟩
      · rw [a, b]
        exact f5 i hi
      · exact a
  · have := dbl (a / 24) (a % 24) (by omega) (by omega)
    rw [show 24 * (a / 24) + a % 24 = a by omega] at this
    rcases this with ⟨_, _, b⟩ | ⟨_, _, b⟩
    · rw [b]
      exact d2 a ha
    · exact b
  · rw [c1 127 (by omega)] at hr
    by_cases hr6 : r < 6
    · rcases dbl r i hr6 hi with ⟨_, _, b⟩ | ⟨a, _⟩
      · rw [b]
        exact d3 r hr i hi
      · exact absurd a hr
    · rw [c5 _ (by omega)]
      exact d3 r hr i hi
  · rw [(e4 a ha).1, (c4 a ha).1, d4 a ha]
  · rw [e1 Q (by omega), c1 126 (by omega)]
    exact i3
  · rw [e1 Q (by omega)]
    exact n2
  · rw [c1 126 (by omega)]
    exact n37
  · rw [e1 (Q + 2) (by omega), c1 151 (by omega)]
    exact no p hp
  · rw [e1 (Q + 1) (by omega), c1 150 (by omega)]
    exact i1 f hf
end
theorem CF_r {N : Nat} {v : sd_H} (h : ∀ a, a < 1440 → v.1 149 a = 0) (hN : N ≤ 10) : CF N v v := by
  refine ⟨fun _ _ => rfl, fun _ _ => rfl, rfl, fun _ _ => rfl, fun b hb => ?_⟩
  have z : laf (fun t => !decide (v.1 149 (144 * t + b) = 0)) 0 N = none := by
    cases y : laf (fun t => !decide (v.1 149 (144 * t + b) = 0)) 0 N with
    | none => rfl
    | some t =>
      obtain ⟨_, h2, h3⟩ := laf_s _ _ _ _ y
      rw [h (144 * t + b) (by omega)] at h3
      exact absurd h3 (by decide)
  rw [z]
  exact ⟨rfl, rfl⟩
/-- frames put together -/
theorem RE_b {P Q : Nat} {g' v' g1 v1 g v : sd_H} (re : RE P Q g' v' g1 v1) (x1 : ∀ c, ¬ c = 100 → ¬ (103 ≤ c ∧ c ≤ 106) → ¬ c = P + 4 → ¬ (Q ≤ c ∧ c ≤ Q + 1) → g1.1 c = g.1 c) (x2 : g1.2.1 = g.2.1) (c1 : ∀ c, ¬ c = 126 → ¬ c = 130 → ¬ (149 ≤ c ∧ c ≤ 152) → v1.1 c = v.1 c) (k1 : ∀ k, ¬ k = 34 → ¬ k = 37 → v1.1 126 k = v.1 126 k) (d1 : ∀ c, ¬ c = 147 → v1.2.1 c = v.2.1 c) (w : v1.2.2 = v.2.2) : RE P Q g' v' g v := by
  obtain ⟨a1, a2, a3, a4, a5, a6, a7, a8, a9, b1⟩ := re
  exact ⟨fun c h1 h2 h3 h4 => (a1 c h1 h2 h3 h4).trans (x1 c h1 h2 h3 (by omega)), fun c h1 h2 => by rw [a2 c h1 h2, x2], fun c h1 h2 h3 => (a3 c h1 h2 h3).trans (c1 c h1 h2 h3), fun k h1 h2 h3 h4 => (a4 k h1 h2 h3 h4).trans (k1 k h1 h2), fun c h1 h2 h3 => (a5 c h1 h2 h3).trans (d1 c h2), a6.trans w, a7, a8, fun r hr i hi => by rw [a9 r hr i hi, d1 129 (by omega)], b1⟩
theorem msm {s : Nat → Option (Nat × Nat)} {N : Nat} (hN : N ≤ 10) : sm (fun t => mz (s t)) N ≤ 250 := by
  have := sm_le (f := fun t => mz (s t)) (b := 25) N (fun i _ => by
    show mz (s i) ≤ 25
    cases s i with
    | none => exact Nat.zero_le _
    | some x => exact Nat.sub_le _ _)
  omega
/-- several workers -/
theorem run_mix {P Q N S W dl x : Nat} {T : Nat → Int32} {g v : sd_H} (rb : RB P T true N S g v) (hQ : Q = 107 ∨ Q = 120 ∨ Q = 123) (h1 : 1 ≤ W) (hW : W ≤ 4) (hd : dl ≤ 2) (hx : x < 64) :
    ∃ g' v', XU_go g P Q (nI W) (nI dl) (nI x) = some g' ∧ b1 (YM_begins v) (fun h5 => b1 (YM_left h5 (nI W) (nI dl)) (fun t7 => YM_mixes_L49 FU h5 (nI W) (nI dl) (nI x) t7)) = some (v', v'.1 126 34) ∧ RE P Q g' v' g v := by
  have hN := rb.2.2.2.1.1
  obtain ⟨g1, v1, X1, M1, sb, ss, x1, x2, c1, k1, d1, w1⟩ := begin_e (Q := Q) (W := W) (dl := dl) rb hQ h1 hW hd
  have m0 := msm (s := st v1 S) hN
  obtain ⟨g2, v2, s2, ss2, X2, M2⟩ := go_mixes sb FU FU x 0 g1 v1 (st v1 S) ss hx (by omega) (by rw [FU_s]; omega) (by rw [FU_s]; omega)
  obtain ⟨g', X3, fin⟩ := fin_e sb ss2
  have il2 := (RS_f hQ ss2.1 ss2.2.1 sb.1).2.2.1
  obtain ⟨v', M3, f1, f2, f3, f4, f5⟩ := copies_L_e hN 144 FU 0 v2 (by omega) (by rw [FU_s]; omega) il2.2.2.2.1
  have re := fin v' ⟨f1, f2, f3, fun b hb => (f4 b (Or.inr hb)).2, fun b hb => f5 b (Nat.zero_le _) hb⟩
  refine ⟨g', v', ?_, ?_, RE_b re x1 x2 c1 k1 d1 w1⟩
  · unfold XU_go
    rw [X1, b1_s, busyWorkers_e sb ss, b1_s, ← nI_0, X2, X3]
  · rw [M1, b1_s, left_e sb ss, b1_s, M2]
    unfold YM_copiesOut
    rw [← nI_0, M3, b1_s]
/-- one worker, as the loop says -/
theorem run_one {P Q N S : Nat} {T : Nat → Int32} {g v : sd_H} (rb : RB P T false N S g (wI v 126 33 0)) (hQ : Q = 107 ∨ Q = 120 ∨ Q = 123) :
    ∃ g' v', XU_go g P Q 1 0 0 = some g' ∧ YM_runNow v = some (v', v'.1 126 34) ∧ RE P Q g' v' g (wI v 126 33 0) := by
  have hN := rb.2.2.2.1.1
  have rt := rb.2.2.2.2.2.2.2.1
  obtain ⟨g1, v1, X1, M1, sb, ss, x1, x2, c1, k1, d1, w1⟩ := begin_e (Q := Q) (W := 1) (dl := 0) rb hQ (by omega) (by omega) (by omega)
  have m0 := msm (s := st v1 S) hN
  have e6 : v1.1 126 6 = nI N := sb.1.2.2.1.2.2.2.1
  have L : ∃ g2 v2 s2, SS P Q N S 1 0 T false g1 v1 g2 v2 s2 ∧ XU_go_L22 FU g1 (nI 0) (nI (bcw (st v1 S) N 1 0)) (nI 0) = XU_copyOut g2 ∧ YM_runNow_L11 FU v1 (nI 0) = some (v2, v2.1 126 34) := by
    rw [FU_s]
    conv => enter [1, g', 1, v', 1, s', 2, 2, 1]; unfold YM_runNow_L11
    rw [e6]
    by_cases c : N = 0
    · subst c
      rw [if_pos (nI_le (Nat.le_refl _) (by omega)), bcw_0 (fun i hi => absurd hi (Nat.not_lt_zero _)), go_0]
      exact ⟨g1, v1, _, ss, rfl, rfl⟩
    · rw [if_neg (nI_ge (by omega) (by omega))]
      exact go_runs sb _ 0 g1 v1 (st v1 S) (99999 + 1) 0 0 99999 FU ss (Nat.le_refl _) (by omega) (fun i hi => absurd hi (Nat.not_lt_zero _)) (by omega) (by omega) (by omega) (by omega) (by rw [FU_s]; omega)
  obtain ⟨g2, v2, s2, ss2, X2, M2⟩ := L
  obtain ⟨g', X3, fin⟩ := fin_e sb ss2
  have z149 : ∀ a, a < 1440 → v2.1 149 a = 0 := fun a ha => by
    obtain ⟨m, hm, em, hz, hc⟩ := ss2.2.2.1.2.2.2.2.1 (a / 144) (a % 144 / 24) (by omega) (by omega)
    obtain ⟨h1, _⟩ := hc (a % 24) (by omega)
    rw [show 144 * (a / 144) + (24 * (a % 144 / 24) + a % 24) = a by omega] at h1
    rcases hz with hz | hz
    · rw [h1, hz, Nat.zero_testBit]
      rfl
    · rw [rt rfl _ (by omega)] at hz
      exact absurd hz.1 (by decide)
  refine ⟨g', v2, ?_, ?_, RE_b (fin v2 (CF_r z149 hN)) x1 x2 c1 k1 d1 w1⟩
  · unfold XU_go
    rw [show (1 : Int32) = nI 1 from rfl, show (0 : Int32) = nI 0 from rfl, X1, b1_s, busyWorkers_e sb ss, b1_s, X2, X3]
  · unfold YM_runNow
    rw [hb_s, M1, b1_s, ← nI_0, M2]
