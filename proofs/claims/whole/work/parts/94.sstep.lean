/-! ===== a step of a run keeps what both have ===== -/
/-- the state of a run -/
def SS (P Q N S W dl : Nat) (T : Nat → Int32) (mx : Bool) (g0 v0 g v : sd_H) (s : Nat → Option (Nat × Nat)) : Prop :=
  XFR P Q g g0 ∧ MFR v v0 ∧ RD P T mx v0 g v ∧ g.1 Q 3 = v.1 126 34 ∧ (∃ n, n + sm (fun t => lz (s t)) N ≤ N ∧ g.1 Q 2 = nI n ∧ v.1 126 37 = nI n ∧ ∀ p, p < n → g.1 (Q + 2) p = v.1 151 p) ∧ (∀ f, f < 3 → g.1 (Q + 1) f = v.1 150 f) ∧
  (∀ t, t < N → v.1 152 t = cdo (s t)) ∧ (∀ t k j, t < N → s t = some (k, j) → k < S ∧ j < 5 ∧ ∃ n, n ≤ 5 ∧ j < n ∧ v0.1 133 k = nI n) ∧ ∀ w, w < W → PW N S W dl v0 g s w
/-- where a run stands -/
def SB (P Q N S W dl : Nat) (T : Nat → Int32) (mx : Bool) (g0 v0 : sd_H) : Prop :=
  RS P T mx N S g0 v0 ∧ (Q = 107 ∨ Q = 120 ∨ Q = 123) ∧ g0.2.2 1 = some Q ∧ g0.1 100 9 = nI W ∧ g0.1 100 10 = nI dl ∧ 1 ≤ W ∧ W ≤ 4 ∧ dl ≤ 2 ∧ ∀ k, k < S → ∃ n, 1 ≤ n ∧ n ≤ 5 ∧ v0.1 133 k = nI n
theorem en_f {g v : sd_H} {N S dl w : Nat} {o : Option Nat} : (∀ c, ¬ c = 104 → ¬ c = 105 → ¬ c = 106 → (en g v N S dl w o).1 c = g.1 c) ∧ (en g v N S dl w o).2 = g.2 ∧ ∀ s, ¬ s = w → (en g v N S dl w o).1 104 s = g.1 104 s ∧ (en g v N S dl w o).1 105 s = g.1 105 s ∧ (en g v N S dl w o).1 106 s = g.1 106 s := by
  unfold en
  cases o with
  | none => exact ⟨fun c h1 h2 h3 => wI_ne h1, rfl, fun s hs => ⟨wI_ns hs, by rw [wI_ne (by omega)], by rw [wI_ne (by omega)]⟩⟩
  | some q =>
    refine ⟨fun c h1 h2 h3 => ?_, rfl, fun s hs => ⟨?_, ?_, ?_⟩⟩
    · show (wI (wI (wI (wI _ _ _ _) _ _ _) _ _ _) _ _ _).1 c = _
      rw [wI_ne h3, wI_ne h2, wI_ne h1, wI_ne h1]
    · show (wI (wI (wI (wI _ _ _ _) _ _ _) _ _ _) _ _ _).1 104 s = _
      rw [wI_ns hs, wI_ns hs, wI_ns hs, wI_ns hs]
    · show (wI (wI (wI (wI _ _ _ _) _ _ _) _ _ _) _ _ _).1 105 s = _
      rw [wI_ns hs, wI_ns hs, wI_ns hs, wI_ns hs]
    · show (wI (wI (wI (wI _ _ _ _) _ _ _) _ _ _) _ _ _).1 106 s = _
      rw [wI_ns hs, wI_ns hs, wI_ns hs, wI_ns hs]
theorem en_w {g v : sd_H} {N S dl w q : Nat} : (en g v N S dl w (some q)).1 104 w = nI (tq N dl q) ∧ (en g v N S dl w (some q)).1 105 w = nxI (fd v (tq N dl q) 0 S) ∧ (en g v N S dl w (some q)).1 106 w = 0 := by
  unfold en
  refine ⟨?_, ?_, wI_eq⟩
  · show (wI (wI (wI (wI _ _ _ _) _ _ _) _ _ _) _ _ _).1 104 w = _
    rw [wI_ne (by omega), wI_ne (by omega), wI_eq]
  · show (wI (wI (wI (wI _ _ _ _) _ _ _) _ _ _) _ _ _).1 105 w = _
    rw [wI_ne (by omega), wI_eq]
theorem en_n {g v : sd_H} {N S dl w : Nat} : (en g v N S dl w none).1 104 w = -1 := wI_eq
theorem pw_d {v v' : sd_H} (h : dn v = dn v') (N S W dl w : Nat) : pw v N S W dl w = pw v' N S W dl w := funext fun q => by
  unfold pw
  rw [fd_d h]
theorem st_i {v : sd_H} {S t : Nat} : (st v S t).isSome = (fd v t 0 S).isSome := by
  unfold st
  cases fd v t 0 S <;> rfl
/-- the model's heap behind a step -/
theorem mend_f {v : sd_H} {t e : Nat} {o : Option (Nat × Nat)} : (∀ c, ¬ c = 126 → ¬ c = 151 → ¬ c = 152 → (mend v t e o).1 c = v.1 c) ∧ (∀ k, ¬ k = 37 → (mend v t e o).1 126 k = v.1 126 k) ∧ (mend v t e o).2 = v.2 ∧ (∀ i, (mend v t e o).1 152 i = if i = t then cdo o else v.1 152 i) := by
  cases o with
  | none =>
    refine ⟨fun c h1 h2 h3 => ?_, fun k hk => ?_, rfl, fun i => ?_⟩
    · show (wI (wI (wI _ _ _ _) _ _ _) _ _ _).1 c = _
      rw [wI_ne h1, wI_ne h2, wI_ne h3]
    · show (wI (wI (wI _ _ _ _) _ _ _) _ _ _).1 126 k = _
      rw [wI_ns hk, wI_ne (by omega), wI_ne (by omega)]
    · show (wI (wI (wI _ _ _ _) _ _ _) _ _ _).1 152 i = _
      rw [wI_ne (by omega), wI_ne (by omega)]
      by_cases c : i = t
      · rw [if_pos c, c, wI_eq]
        rfl
      · rw [if_neg c, wI_ns c]
  | some x =>
    refine ⟨fun c h1 h2 h3 => wI_ne h3, fun k hk => by show (wI _ _ _ _).1 126 k = _; rw [wI_ne (by omega)], rfl, fun i => ?_⟩
    show (wI _ _ _ _).1 152 i = _
    by_cases c : i = t
    · rw [if_pos c, c, wI_eq]
    · rw [if_neg c, wI_ns c]
/-- x's heap behind a step -/
def GF (Q w t e : Nat) (g' p : sd_H) (o : Option (Nat × Nat)) : Prop :=
  (∀ c, ¬ (104 ≤ c ∧ c ≤ 106) → ¬ c = Q → ¬ c = Q + 2 → g'.1 c = p.1 c) ∧ g'.2 = p.2 ∧ (∀ s, ¬ s = w → g'.1 104 s = p.1 104 s ∧ g'.1 105 s = p.1 105 s ∧ g'.1 106 s = p.1 106 s) ∧ g'.1 Q 3 = p.1 Q 3 ∧
  (match o with | none => g'.1 Q 2 = nI (e + 1) ∧ ∀ i, g'.1 (Q + 2) i = if i = e then nI t else p.1 (Q + 2) i | some _ => g'.1 Q 2 = p.1 Q 2 ∧ g'.1 (Q + 2) = p.1 (Q + 2))
theorem SS_step {P Q N S W dl : Nat} {T : Nat → Int32} {mx : Bool} {g0 v0 g v : sd_H} {s : Nat → Option (Nat × Nat)} {w q : Nat} (sb : SB P Q N S W dl T mx g0 v0) (ss : SS P Q N S W dl T mx g0 v0 g v s) (hw : w < W) (pos : fp (ps s N W dl w) 0 N = some q) :
    ∃ g' v' s', XU_step g (nI w) = some g' ∧ YM_steps v (nI (tq N dl q)) = some v' ∧ SS P Q N S W dl T mx g0 v0 g' v' s' ∧ sm (fun t => mz (s' t)) N < sm (fun t => mz (s t)) N ∧ ∀ i, ¬ i = tq N dl q → s' i = s i := by
  obtain ⟨rs, hQ, sq, b9, b10, hW1, hW, hd, b133⟩ := sb
  obtain ⟨xf, mf, rd, i3, ⟨e, el, e2, e37, eo⟩, i1, i152, iv, ip⟩ := ss
  have rs' := RS_f hQ xf mf rs
  have s1 := rs.1
  have hS := rs.2.2.1.2.1
  have hN := rs.2.2.1.1
  obtain ⟨z, _⟩ | ⟨q1, k, j, z, sk, g4, g5, g6, later⟩ := ip w hw
  · rw [z] at pos
    cases pos
  rw [pos] at z
  cases z
  obtain ⟨z, _⟩ | ⟨q1, z, _, hq, pq, before⟩ := fps_c (ps s N W dl w) N 0
  · rw [z] at pos
    cases pos
  rw [pos] at z
  cases z
  rw [Nat.zero_add] at hq
  obtain ⟨t, et⟩ : ∃ t, tq N dl q = t := ⟨_, rfl⟩
  have ht : t < N := by
    rw [← et]
    exact tq_lt hq
  have wt : wk1 N W dl t = w := by
    unfold ps at pq
    rw [et, Bool.and_eq_true] at pq
    exact of_decide_eq_true pq.1
  rw [et] at sk g4
  obtain ⟨hk, hj, n, hn, jn, en'⟩ := iv t k j ht sk
  have he : e < N := by
    have := sm_g (f := fun t => lz (s t)) N ht
    rw [show lz (s t) = 1 by rw [sk]; rfl] at this
    omega
  obtain ⟨g1, f, ei, fx, v1, em, fm, rd1, co⟩ := item_e (k := k) (t := t) (j := j) rs' rd hk (by omega)
  have xf1 := XFR_x fx xf
  have mf1 := MFR_x fm mf
  have d1 := dn_r mf1 rd1
  have rs1 := RS_f hQ xf1 mf1 rs
  have co' : f = -1 ∨ ∃ q, q < 3 ∧ f = nI q := by
    rcases co with ⟨a, _⟩ | ⟨q, a, b, _⟩
    · exact Or.inl a
    · exact Or.inr ⟨q, a, b⟩
  have e37' : v1.1 126 37 = nI e := by
    rw [fm.2.1 37 (by omega) (by omega) (by omega)]
    exact e37
  have M := YM_steps_e (e := e) hQ rs xf1 mf1 rd1 em fm hk (show t < 10 by omega) jn hn en' (by rw [i152 t ht, sk]; rfl) (by omega) e37'
  obtain ⟨p, pf, xc, pn, X⟩ := XU_step_e hQ rs xf1 mf1 rd1 sq ei fx co' hk (show t < 10 by omega) jn hn en' (show w < 4 by omega) g4 g5 g6
  obtain ⟨o, eo'⟩ : ∃ o, nxo v0 S t k j n (decide (f = -1)) = o := ⟨_, rfl⟩
  have om : mz o < mz (s t) := by
    rw [← eo', sk]
    exact nxo_m hS hk hj
  have ov : ∀ k' j', o = some (k', j') → k' < S ∧ j' < 5 ∧ ∃ n, n ≤ 5 ∧ j' < n ∧ v0.1 133 k' = nI n := by
    intro k' j' h
    rw [← eo'] at h
    unfold nxo at h
    split at h
    · split at h
      · cases y : fd v0 t (k + 1) (S - (k + 1)) with
        | none =>
          rw [y] at h
          cases h
        | some k2 =>
          rw [y] at h
          cases h
          have := (fd_c v0 t _ _ _ y).2.1
          obtain ⟨n', a, b, c⟩ := b133 k' (by omega)
          exact ⟨by omega, by omega, n', b, by omega, c⟩
      · cases h
        exact ⟨hk, by omega, n, hn, by omega, en'⟩
    · cases h
  rw [eo'] at M pn
  obtain ⟨p1, p2, p3, p4⟩ := pf
  have pP : ¬ P + 1 = 105 ∧ ¬ P + 1 = 106 ∧ ¬ P + 1 = Q ∧ ¬ P + 1 = Q + 1 ∧ ¬ P + 2 = 105 ∧ ¬ P + 2 = 106 ∧ ¬ P + 2 = Q ∧ ¬ P + 2 = Q + 1 ∧ ¬ P + 4 = 105 ∧ ¬ P + 4 = 106 ∧ ¬ P + 4 = Q ∧ ¬ P + 4 = Q + 1 := by omega
  obtain ⟨n1, n2, n3, n4, n5, n6, n7, n8, n9, na, nb', nc⟩ := pP
  have rdp : RD P T mx v0 p v1 := RD_g rd1 (p1 _ n1 n2 n3 n4) (p1 _ n5 n6 n7 n8) (p1 _ n9 na nb' nc) (p1 103 (by omega) (by omega) (by omega) (by omega)) p4
  have xfp : XFR P Q p g0 := ⟨fun c h1 h2 h3 => (p1 c (by omega) (by omega) (by omega) (by omega)).trans (xf1.1 c h1 h2 h3), by rw [p4]; exact xf1.2.1, by rw [p4]; exact xf1.2.2⟩
  have p2e : p.1 Q 2 = nI e := by
    rw [p3, fx.1 Q (by omega) (by omega)]
    exact e2
  -- the places of the turns after the step
  have pbf : ∀ i, i < q → ps (upt s t o) N W dl w i = false := fun i hi => by
    have b := before i (Nat.zero_le _) hi
    have ne : ¬ tq N dl i = t := fun h => by
      have := tq_inj (N := N) (dl := dl) (q := i) (q' := q) (by omega) hq (h.trans et.symm)
      omega
    unfold ps at b ⊢
    rw [upt_n ne]
    exact b
  have paf : ∀ i, q < i → i < N → wk1 N W dl (tq N dl i) = w → upt s t o (tq N dl i) = st v0 S (tq N dl i) := fun i hi hN' hwk => by
    have ne : ¬ tq N dl i = t := fun h => by
      have := tq_inj (N := N) (dl := dl) (q := i) (q' := q) hN' hq (h.trans et.symm)
      omega
    rw [upt_n ne]
    exact later i hi hN' hwk
  have G : ∃ g', XU_step g (nI w) = some g' ∧ GF Q w t e g' p o ∧ PW N S W dl v0 g' (upt s t o) w := by
    cases o with
    | none =>
      have E := XU_step_end (e := e) (q := q) (dl := dl) (W := W) (N := N) (S := S) (v := v1) (p := p) (w := w) hQ s1 (by rw [p4]; exact rs1.2.1) (by rw [p4, xf1.2.2]; exact sq) rdp.1 rs1.2.2.2.1 (RS_f hQ xfp mf1 rs).2.2.1 (by rw [xfp.1 100 (by omega) (by omega) (by omega)]; exact b9) (by rw [xfp.1 100 (by omega) (by omega) (by omega)]; exact b10) hW1 hW hd hw hq (by omega) p2e pn
      rw [et] at E
      refine ⟨_, X.trans E, ?_, ?_⟩
      · obtain ⟨f1, f2, f3⟩ := en_f (g := wI (wI p Q 2 (nI (e + 1))) (Q + 2) e (nI t)) (v := v1) (N := N) (S := S) (dl := dl) (w := w) (o := fp (pw v1 N S W dl w) (q + 1) (N - (q + 1)))
        refine ⟨fun c h1 h2 h3 => ?_, f2, fun i hi => ?_, ?_, ?_, fun i => ?_⟩
        · rw [f1 c (by omega) (by omega) (by omega), wI_ne h3, wI_ne h2]
        · obtain ⟨f4, f5, f6⟩ := f3 i hi
          rw [f4, f5, f6, wI_ne (by omega), wI_ne (by omega), wI_ne (by omega), wI_ne (by omega), wI_ne (by omega), wI_ne (by omega)]
          exact ⟨rfl, rfl, rfl⟩
        · rw [f1 Q (by omega) (by omega) (by omega), wI_ne (by omega), wI_ns (by omega)]
        · rw [f1 Q (by omega) (by omega) (by omega), wI_ne (by omega), wI_eq]
        · rw [f1 (Q + 2) (by omega) (by omega) (by omega)]
          by_cases c : i = e
          · rw [if_pos c, c, wI_eq]
          · rw [if_neg c, wI_ns c, wI_ne (by omega)]
      · have sk1 : fp (ps (upt s t none) N W dl w) 0 N = fp (pw v1 N S W dl w) (q + 1) (N - (q + 1)) := by
          have a := fps_skip (ps (upt s t none) N W dl w) (N - (q + 1)) (q + 1) 0 (fun i h1 h2 => by
            by_cases c : i = q
            · subst c
              unfold ps
              rw [et, upt_s]
              exact Bool.and_false _
            · exact pbf i (by omega))
          rw [show q + 1 + (N - (q + 1)) = N by omega, Nat.zero_add] at a
          rw [a, pw_d d1]
          refine fps_congr _ _ fun i h1 h2 => ?_
          unfold ps pw
          by_cases c : wk1 N W dl (tq N dl i) = w
          · rw [paf i (by omega) (by omega) c, st_i]
          · rw [decide_eq_false c, Bool.false_and, Bool.false_and]
        cases y : fp (pw v1 N S W dl w) (q + 1) (N - (q + 1)) with
        | none => exact Or.inl ⟨sk1.trans y, en_n⟩
        | some q2 =>
          obtain ⟨y1, _⟩ | ⟨q3, y1, y2, y3, y4, _⟩ := fps_c (pw v1 N S W dl w) (N - (q + 1)) (q + 1)
          · rw [y1] at y
            cases y
          rw [y1] at y
          cases y
          unfold pw at y4
          rw [Bool.and_eq_true] at y4
          have wk := of_decide_eq_true y4.1
          have af := paf q2 (by omega) (by omega) wk
          obtain ⟨x1, x2, x3⟩ := en_w (g := wI (wI p Q 2 (nI (e + 1))) (Q + 2) e (nI t)) (v := v1) (N := N) (S := S) (dl := dl) (w := w) (q := q2)
          rw [fd_d d1] at x2 y4
          cases y5 : fd v0 (tq N dl q2) 0 S with
          | none =>
            rw [y5] at y4
            exact absurd y4.2 (by decide)
          | some k2 =>
            rw [y5] at x2
            refine Or.inr ⟨q2, k2, 0, sk1.trans y1, ?_, x1, x2, x3, fun q' h1 h2 h3 => paf q' (by omega) h2 h3⟩
            rw [af]
            unfold st
            rw [y5]
            rfl
    | some x =>
      obtain ⟨q5, q6⟩ := pn
      have xv := ov x.1 x.2 rfl
      refine ⟨p, X.trans ?_, ⟨fun c h1 h2 h3 => rfl, rfl, fun _ _ => ⟨rfl, rfl, rfl⟩, rfl, rfl, rfl⟩, Or.inr ⟨q, x.1, x.2, ?_, ?_, ?_, q5, q6, paf⟩⟩
      · unfold XU_step_B86
        rw [inB_n (show w < 4 by omega) (by omega), gd_t, nI_clamp (by omega), q5, if_neg (nm1 (by omega))]
      · rw [← pos]
        refine fps_congr _ _ fun i h1 h2 => ?_
        unfold ps
        by_cases c : tq N dl i = t
        · rw [c, upt_s, sk]
          rfl
        · rw [upt_n c]
      · rw [et, upt_s]
      · rw [et, p1 104 (by omega) (by omega) (by omega) (by omega), fx.1 104 (by omega) (by omega)]
        exact g4
  obtain ⟨g', X', ⟨gf1, gf2, gf3, gf4, gf5⟩, pw'⟩ := G
  obtain ⟨m1, m2, m3, m4⟩ := mend_f (v := v1) (t := t) (e := e) (o := o)
  have m152 : ∀ i, i < N → (mend v1 t e o).1 152 i = cdo (upt s t o i) := fun i hi => by
    rw [m4]
    by_cases c : i = t
    · rw [if_pos c, c, upt_s]
    · rw [if_neg c, upt_n c, fm.1 152 (by omega) (by omega) (by omega) (by omega)]
      exact i152 i hi
  have cnt := sm_u (f := fun t => lz (s t)) (f' := fun i => lz (upt s t o i)) N ht (fun i _ h => by rw [upt_n h])
  rw [show lz (s t) = 1 by rw [sk]; rfl, show lz (upt s t o t) = lz o by rw [upt_s]] at cnt
  have mcnt := sm_u (f := fun t => mz (s t)) (f' := fun i => mz (upt s t o i)) N ht (fun i _ h => by rw [upt_n h])
  rw [show mz (upt s t o t) = mz o by rw [upt_s]] at mcnt
  have r2 : g1.1 (Q + 2) = g.1 (Q + 2) := fx.1 (Q + 2) (by omega) (by omega)
  have r3 : p.1 (Q + 2) = g.1 (Q + 2) := (p1 (Q + 2) (by omega) (by omega) (by omega) (by omega)).trans r2
  refine ⟨g', mend v1 t e o, upt s t o, X', by rw [et]; exact M, ⟨?_, ?_, ?_, ?_, ?_, ?_, m152, ?_, ?_⟩, by omega, fun i hi => upt_n (by rw [← et]; exact hi)⟩
  · exact ⟨fun c h1 h2 h3 => (gf1 c (by omega) (by omega) (by omega)).trans (xfp.1 c h1 h2 h3), by rw [gf2]; exact xfp.2.1, by rw [gf2]; exact xfp.2.2⟩
  · refine ⟨fun c h1 h2 h3 => (m1 c h1 (by omega) (by omega)).trans (mf1.1 c h1 h2 h3), fun k h1 h2 h3 h4 => (m2 k h2).trans (mf1.2.1 k h1 h2 h3 h4), by rw [m3]; exact mf1.2.2.1, by rw [m3]; exact mf1.2.2.2⟩
  · exact RD_m (RD_g rdp (gf1 (P + 1) (by omega) (by omega) (by omega)) (gf1 (P + 2) (by omega) (by omega) (by omega)) (gf1 (P + 4) (by omega) (by omega) (by omega)) (gf1 103 (by omega) (by omega) (by omega)) gf2) (m1 127 (by omega) (by omega) (by omega)) (m1 128 (by omega) (by omega) (by omega)) (m1 130 (by omega) (by omega) (by omega)) (m1 149 (by omega) (by omega) (by omega)) m3
  · rw [gf4, m2 34 (by omega)]
    rcases co with ⟨a, b, _⟩ | ⟨y, _, a, b, _⟩
    · rcases xc with ⟨_, c, _⟩ | ⟨y, hy, c, _⟩
      · rw [b, c, fx.1 Q (by omega) (by omega), i3]
      · rw [a] at c
        exact absurd c.symm (nm1 (by omega))
    · rcases xc with ⟨c, _⟩ | ⟨y', _, _, c, _⟩
      · rw [a] at c
        exact absurd c (nm1 (by omega))
      · rw [b, c, fx.1 Q (by omega) (by omega), i3]
  · cases o with
    | none =>
      obtain ⟨h1, h2⟩ := gf5
      refine ⟨e + 1, ?_, h1, wI_eq, fun i hi => ?_⟩
      · rw [show lz none = 0 from rfl] at cnt
        omega
      · rw [h2, r3]
        show _ = (wI (wI (wI _ _ _ _) _ _ _) _ _ _).1 151 i
        rw [wI_ne (by omega)]
        by_cases c : i = e
        · rw [if_pos c, c, wI_eq]
        · rw [if_neg c, wI_ns c, wI_ne (by omega), fm.1 151 (by omega) (by omega) (by omega) (by omega)]
          exact eo i (by omega)
    | some x =>
      obtain ⟨h1, h2⟩ := gf5
      refine ⟨e, ?_, h1.trans p2e, ?_, fun i hi => ?_⟩
      · rw [show lz (some x) = 1 from rfl] at cnt
        omega
      · show (wI _ _ _ _).1 126 37 = _
        rw [wI_ne (by omega)]
        exact e37'
      · rw [h2, r3]
        show _ = (wI _ _ _ _).1 151 i
        rw [wI_ne (by omega), fm.1 151 (by omega) (by omega) (by omega) (by omega)]
        exact eo i hi
  · intro a ha
    rw [gf1 (Q + 1) (by omega) (by omega) (by omega), m1 150 (by omega) (by omega) (by omega)]
    have i1' : ∀ f, f < 3 → g1.1 (Q + 1) f = v.1 150 f := by
      rw [fx.1 (Q + 1) (by omega) (by omega)]
      exact i1
    rcases co with ⟨a1, _, b⟩ | ⟨y, y3, a1, _, b⟩
    · rcases xc with ⟨_, _, c⟩ | ⟨y, hy, c, _⟩
      · rw [b, c]
        exact i1' a ha
      · rw [a1] at c
        exact absurd c.symm (nm1 (by omega))
    · rcases xc with ⟨c, _⟩ | ⟨y', y3', c0, _, c⟩
      · rw [a1] at c
        exact absurd c (nm1 (by omega))
      · have : y' = y := (nI_eq (by omega) (by omega)).mp (c0.symm.trans a1)
        subst this
        rw [b, c]
        unfold up
        rw [i1' a ha, i1' y' y3]
  · intro t' k' j' h1 h2
    by_cases c : t' = t
    · rw [c, upt_s] at h2
      exact ov k' j' h2
    · rw [upt_n c] at h2
      exact iv t' k' j' h1 h2
  · intro w' hw'
    by_cases c : w' = w
    · subst c
      exact pw'
    · have same : ps (upt s t o) N W dl w' = ps s N W dl w' := funext fun i => by
        unfold ps
        by_cases d : tq N dl i = t
        · rw [d, wt, decide_eq_false (fun h => c h.symm), Bool.false_and, Bool.false_and]
        · rw [upt_n d]
      obtain ⟨gc4, gc5, gc6⟩ := gf3 w' c
      obtain ⟨pc5, pc6⟩ := p2 w' c
      have c4 : g'.1 104 w' = g.1 104 w' := by rw [gc4, p1 104 (by omega) (by omega) (by omega) (by omega), fx.1 104 (by omega) (by omega)]
      have c5 : g'.1 105 w' = g.1 105 w' := by rw [gc5, pc5, fx.1 105 (by omega) (by omega)]
      have c6 : g'.1 106 w' = g.1 106 w' := by rw [gc6, pc6, fx.1 106 (by omega) (by omega)]
      obtain ⟨a1, a2⟩ | ⟨q1, k1, j1, a1, a2, a3, a4, a5, a6⟩ := ip w' hw'
      · exact Or.inl ⟨by rw [same]; exact a1, by rw [c4]; exact a2⟩
      · obtain ⟨z, _⟩ | ⟨q2, z, _, hq2, pq2, _⟩ := fps_c (ps s N W dl w') N 0
        · rw [z] at a1
          cases a1
        rw [a1] at z
        cases z
        have wq : wk1 N W dl (tq N dl q1) = w' := by
          unfold ps at pq2
          rw [Bool.and_eq_true] at pq2
          exact of_decide_eq_true pq2.1
        have nt : ∀ i, wk1 N W dl (tq N dl i) = w' → ¬ tq N dl i = t := fun i h d => by
          rw [d, wt] at h
          exact c h.symm
        refine Or.inr ⟨q1, k1, j1, by rw [same]; exact a1, by rw [upt_n (nt q1 wq)]; exact a2, by rw [c4]; exact a3, by rw [c5]; exact a4, by rw [c6]; exact a5, fun q' h1 h2 h3 => by rw [upt_n (nt q' h3)]; exact a6 q' h1 h2 h3⟩
