/-! ===== steps of a run: what is kept ===== -/
theorem fps_skip (p : Nat → Bool) (m : Nat) : ∀ a q, (∀ i, q ≤ i → i < q + a → p i = false) → fp p q (a + m) = fp p (q + a) m
  | 0, q, _ => by rw [Nat.zero_add, Nat.add_zero]
  | a + 1, q, h => by
    have e : fp p q (a + m + 1) = if p q = true then some q else fp p (q + 1) (a + m) := rfl
    rw [show a + 1 + m = a + m + 1 by omega, e, h q (Nat.le_refl _) (by omega), if_neg (by decide), fps_skip p m a (q + 1) (fun i h1 h2 => h i (by omega) (by omega)), show q + 1 + a = q + (a + 1) by omega]
theorem fps_congr {p p' : Nat → Bool} : ∀ m q, (∀ i, q ≤ i → i < q + m → p i = p' i) → fp p q m = fp p' q m
  | 0, _, _ => rfl
  | m + 1, q, h => by
    have e : ∀ p, fp p q (m + 1) = if p q = true then some q else fp p (q + 1) m := fun _ => rfl
    rw [e, e, h q (Nat.le_refl _) (by omega), fps_congr m (q + 1) (fun i h1 h2 => h i (by omega) (by omega))]
/-- a sum -/
def sm (f : Nat → Nat) : Nat → Nat
  | 0 => 0
  | n + 1 => sm f n + f n
theorem sm_c {f f' : Nat → Nat} : ∀ n, (∀ i, i < n → f i = f' i) → sm f n = sm f' n
  | 0, _ => rfl
  | n + 1, h => by
    show sm f n + f n = sm f' n + f' n
    rw [sm_c n (fun i hi => h i (by omega)), h n (by omega)]
theorem sm_u {f f' : Nat → Nat} {t : Nat} : ∀ n, t < n → (∀ i, i < n → ¬ i = t → f' i = f i) → sm f' n + f t = sm f n + f' t
  | 0, h, _ => absurd h (Nat.not_lt_zero _)
  | n + 1, h, c => by
    show sm f' n + f' n + f t = sm f n + f n + f' t
    by_cases e : t = n
    · subst e
      rw [sm_c (f := f') (f' := f) t (fun i hi => c i (by omega) (by omega))]
      omega
    · have ih := sm_u n (by omega) (fun i hi => c i (by omega))
      have := c n (by omega) (fun q => e q.symm)
      omega
theorem sm_le {f : Nat → Nat} {b : Nat} : ∀ n, (∀ i, i < n → f i ≤ b) → sm f n ≤ n * b
  | 0, _ => Nat.zero_le _
  | n + 1, h => by
    have ih := sm_le n (fun i hi => h i (by omega))
    have := h n (by omega)
    show sm f n + f n ≤ _
    rw [Nat.succ_mul]
    omega
theorem sm_g {f : Nat → Nat} {t : Nat} : ∀ n, t < n → f t ≤ sm f n
  | 0, h => absurd h (Nat.not_lt_zero _)
  | n + 1, h => by
    show f t ≤ sm f n + f n
    by_cases e : t = n
    · subst e
      omega
    · have := sm_g (f := f) n (show t < n by omega)
      omega
/-- how far the turns are -/
def cdo : Option (Nat × Nat) → Int32
  | none => -1
  | some x => nI (10 * x.1 + x.2)
def mz : Option (Nat × Nat) → Nat
  | none => 0
  | some x => 25 - (5 * x.1 + x.2)
def lz (o : Option (Nat × Nat)) : Nat := if o.isSome = true then 1 else 0
def upt (s : Nat → Option (Nat × Nat)) (t : Nat) (o : Option (Nat × Nat)) : Nat → Option (Nat × Nat) := fun i => if i = t then o else s i
theorem upt_s {s : Nat → Option (Nat × Nat)} {t : Nat} {o : Option (Nat × Nat)} : upt s t o t = o := if_pos rfl
theorem upt_n {s : Nat → Option (Nat × Nat)} {t i : Nat} {o : Option (Nat × Nat)} (h : ¬ i = t) : upt s t o i = s i := if_neg h
def st (v : sd_H) (S t : Nat) : Option (Nat × Nat) := (fd v t 0 S).map (fun k => (k, 0))
def ps (s : Nat → Option (Nat × Nat)) (N W dl w q : Nat) : Bool := decide (wk1 N W dl (tq N dl q) = w) && (s (tq N dl q)).isSome
/-- a worker's place -/
def PW (N S W dl : Nat) (v0 g : sd_H) (s : Nat → Option (Nat × Nat)) (w : Nat) : Prop :=
  (fp (ps s N W dl w) 0 N = none ∧ g.1 104 w = -1) ∨ ∃ q k j, fp (ps s N W dl w) 0 N = some q ∧ s (tq N dl q) = some (k, j) ∧ g.1 104 w = nI (tq N dl q) ∧ g.1 105 w = nI k ∧ g.1 106 w = nI j ∧
    ∀ q', q < q' → q' < N → wk1 N W dl (tq N dl q') = w → s (tq N dl q') = st v0 S (tq N dl q')
/-- frames -/
def XFR (P Q : Nat) (g g0 : sd_H) : Prop := (∀ c, ¬ (103 ≤ c ∧ c ≤ 106) → ¬ c = P + 4 → ¬ (Q ≤ c ∧ c ≤ Q + 2) → g.1 c = g0.1 c) ∧ (∀ c, ¬ c = 102 → ¬ c = P + 3 → g.2.1 c = g0.2.1 c) ∧ g.2.2 = g0.2.2
def MFR (v v0 : sd_H) : Prop := (∀ c, ¬ c = 126 → ¬ c = 130 → ¬ (149 ≤ c ∧ c ≤ 152) → v.1 c = v0.1 c) ∧ (∀ k, ¬ k = 34 → ¬ k = 37 → ¬ k = 38 → ¬ k = 39 → v.1 126 k = v0.1 126 k) ∧ (∀ c, ¬ c = 129 → ¬ c = 148 → v.2.1 c = v0.2.1 c) ∧ v.2.2 = v0.2.2
theorem XFR_r (P Q : Nat) (g : sd_H) : XFR P Q g g := ⟨fun _ _ _ _ => rfl, fun _ _ _ => rfl, rfl⟩
theorem MFR_r (v : sd_H) : MFR v v := ⟨fun _ _ _ _ => rfl, fun _ _ _ _ _ => rfl, fun _ _ _ => rfl, rfl⟩
theorem XFR_x {P Q : Nat} {g' g g0 : sd_H} (x : FX P g' g) (h : XFR P Q g g0) : XFR P Q g' g0 :=
  ⟨fun c h1 h2 h3 => (x.1 c (by omega) h2).trans (h.1 c h1 h2 h3), fun c h1 h2 => (x.2.1 c h1 h2).trans (h.2.1 c h1 h2), x.2.2.trans h.2.2⟩
theorem MFR_x {v' v v0 : sd_H} (x : FM v' v) (h : MFR v v0) : MFR v' v0 :=
  ⟨fun c h1 h2 h3 => (x.1 c h1 h2 (by omega) (by omega)).trans (h.1 c h1 h2 h3), fun k h1 h2 h3 h4 => (x.2.1 k h1 h3 h4).trans (h.2.1 k h1 h2 h3 h4), fun c h1 h2 => (x.2.2.1 c h1 h2).trans (h.2.2.1 c h1 h2), x.2.2.2.trans h.2.2.2⟩
theorem XFR_w {P Q c s : Nat} {x : Int32} {g g0 : sd_H} (h : XFR P Q g g0) (hc : (103 ≤ c ∧ c ≤ 106) ∨ (Q ≤ c ∧ c ≤ Q + 2)) : XFR P Q (wI g c s x) g0 :=
  ⟨fun c' h1 h2 h3 => by rw [wI_ne (by omega)]; exact h.1 c' h1 h2 h3, h.2.1, h.2.2⟩
theorem MFR_w {c s : Nat} {x : Int32} {v v0 : sd_H} (h : MFR v v0) (hc : 149 ≤ c ∧ c ≤ 152) : MFR (wI v c s x) v0 :=
  ⟨fun c' h1 h2 h3 => by rw [wI_ne (by omega)]; exact h.1 c' h1 h2 h3, fun k h1 h2 h3 h4 => by rw [wI_ne (by omega)]; exact h.2.1 k h1 h2 h3 h4, h.2.2.1, h.2.2.2⟩
theorem MFR_w37 {x : Int32} {v v0 : sd_H} (h : MFR v v0) : MFR (wI v 126 37 x) v0 :=
  ⟨fun c' h1 h2 h3 => by rw [wI_ne h1]; exact h.1 c' h1 h2 h3, fun k h1 h2 h3 h4 => by rw [wI_ns h2]; exact h.2.1 k h1 h2 h3 h4, h.2.2.1, h.2.2.2⟩
theorem RD_g {P : Nat} {T : Nat → Int32} {mx : Bool} {w0 g g' v : sd_H} (rd : RD P T mx w0 g v) (c1 : g'.1 (P + 1) = g.1 (P + 1)) (c2 : g'.1 (P + 2) = g.1 (P + 2)) (c4 : g'.1 (P + 4) = g.1 (P + 4)) (c3 : g'.1 103 = g.1 103) (d : g'.2 = g.2) : RD P T mx w0 g' v := by
  obtain ⟨d1, d2, d3, d4, d5, d6⟩ := rd
  refine ⟨by rw [c1, c2, d]; exact d1, d2, d3, by rw [c4]; exact d4, fun t r ht hr => ?_, d6⟩
  obtain ⟨m, a, b, c, e⟩ := d5 t r ht hr
  exact ⟨m, a, by rw [c3]; exact b, c, fun i hi => by rw [d]; exact e i hi⟩
theorem RS_f {P Q : Nat} {T : Nat → Int32} {mx : Bool} {N S : Nat} {g g0 v v0 : sd_H} (hQ : Q = 107 ∨ Q = 120 ∨ Q = 123) (x : XFR P Q g g0) (m : MFR v v0) (rs : RS P T mx N S g0 v0) : RS P T mx N S g v := by
  obtain ⟨s1, s2, s3, s4, s5, s6, s7, s8⟩ := rs
  have c := m.1
  refine ⟨s1, by rw [x.2.2]; exact s2, IL_c (fun c h1 h2 => x.1 c (by omega) (by omega) (by omega)) (c 132 (by omega) (by omega) (by omega)) (c 133 (by omega) (by omega) (by omega)) (c 134 (by omega) (by omega) (by omega)) (c 135 (by omega) (by omega) (by omega)) (c 136 (by omega) (by omega) (by omega)) (c 137 (by omega) (by omega) (by omega)) (c 138 (by omega) (by omega) (by omega)) (c 139 (by omega) (by omega) (by omega)) (c 140 (by omega) (by omega) (by omega)) (m.2.1 6 (by omega) (by omega) (by omega) (by omega)) (m.2.1 7 (by omega) (by omega) (by omega) (by omega)) s3, ?_, fun r hr => ?_, ?_, s7, fun e r hr => ?_⟩
  · rw [c 128 (by omega) (by omega) (by omega)]
    exact s4
  · rw [x.1 101 (by omega) (by omega) (by omega)]
    exact s5 r hr
  · rw [m.2.1 33 (by omega) (by omega) (by omega) (by omega)]
    exact s6
  · rw [c 146 (by omega) (by omega) (by omega)]
    exact s8 e r hr
theorem dn_r {P : Nat} {T : Nat → Int32} {mx : Bool} {g v v0 : sd_H} (m : MFR v v0) (rd : RD P T mx v0 g v) : dn v = dn v0 := by
  have c := m.1
  exact dn_t (c 127 (by omega) (by omega) (by omega)) (c 128 (by omega) (by omega) (by omega)) (c 134 (by omega) (by omega) (by omega)) (c 135 (by omega) (by omega) (by omega)) (c 136 (by omega) (by omega) (by omega)) (m.2.1 7 (by omega) (by omega) (by omega) (by omega)) rd.2.2.1
theorem fd_d {v v' : sd_H} (h : dn v = dn v') (t : Nat) : ∀ m k, fd v t k m = fd v' t k m
  | 0, _ => rfl
  | m + 1, k => by
    have e : ∀ v, fd v t k (m + 1) = if dn v k t = true then some k else fd v t (k + 1) m := fun _ => rfl
    rw [e, e, h, fd_d h t m (k + 1)]
/-- where a turn goes after its item (k, j) -/
def nxo (v : sd_H) (S t k j n : Nat) (ok : Bool) : Option (Nat × Nat) := if ok = true then (if j + 1 = n then (fd v t (k + 1) (S - (k + 1))).map (fun k => (k, 0)) else some (k, j + 1)) else none
theorem nxo_m {v : sd_H} {S t k j n : Nat} {ok : Bool} (hS : S ≤ 5) (hk : k < S) (hj : j < 5) : mz (nxo v S t k j n ok) < mz (some (k, j)) := by
  unfold nxo
  have h0 : 0 < mz (some (k, j)) := by
    show 0 < 25 - (5 * k + j)
    omega
  cases ok
  · exact h0
  · rw [if_pos rfl]
    by_cases c : j + 1 = n
    · rw [if_pos c]
      cases z : fd v t (k + 1) (S - (k + 1)) with
      | none => exact h0
      | some k' =>
        have := (fd_c v t _ _ _ z).1
        show 25 - (5 * k' + 0) < 25 - (5 * k + j)
        omega
    · rw [if_neg c]
      show 25 - (5 * k + (j + 1)) < 25 - (5 * k + j)
      omega
theorem cdo_ne {x : Nat × Nat} (h : x.1 < 5) (h2 : x.2 < 10) : ¬ cdo (some x) = -1 := nm1 (k := 10 * x.1 + x.2) (by omega)
/-- the model's turn goes on or ends -/
def mend (v : sd_H) (t e : Nat) (o : Option (Nat × Nat)) : sd_H := match o with
  | none => wI (wI (wI v 152 t (-1)) 151 e (nI t)) 126 37 (nI (e + 1))
  | some x => wI v 152 t (cdo (some x))
theorem steps_end {v : sd_H} {t e : Nat} (ht : t < 10) (he : e < 10) (e37 : v.1 126 37 = nI e) (o : Option (Nat × Nat)) (ho : ∀ x, o = some x → x.1 < 5 ∧ x.2 < 10) : YM_steps_B74 v (nI t) (cdo o) (nI t) = some (mend v t e o) := by
  unfold YM_steps_B74 mend
  rw [inB_n ht (by omega), gd_t, hb_s, gd_t, nI_clamp (by omega), wI_eq, wI_ne (by omega), e37, inB_n he (by omega), gd_t, hb_s, nI_clamp (by omega), hb_s, wI_ne (by omega), wI_ne (by omega), e37, nI_1]
  cases o with
  | none => rfl
  | some x =>
    obtain ⟨h1, h2⟩ := ho x rfl
    rw [if_neg (cdo_ne h1 h2)]
theorem YM_steps_e {P Q : Nat} {T : Nat → Int32} {mx : Bool} {N S : Nat} {g0 v0 g1 v v1 : sd_H} {k t j n e : Nat} {f : Int32} (hQ : Q = 107 ∨ Q = 120 ∨ Q = 123) (rs : RS P T mx N S g0 v0) (xf : XFR P Q g1 g0) (mf : MFR v1 v0) (rd : RD P T mx v0 g1 v1)
    (ei : YM_item v (nI k) (nI t) (nI j) = some (v1, bi (decide (f = -1)))) (fm : FM v1 v) (hk : k < S) (ht : t < 10) (hj : j < n) (hn : n ≤ 5) (en : v0.1 133 k = nI n) (et : v.1 152 t = nI (10 * k + j)) (he : e < 10) (e37 : v1.1 126 37 = nI e) :
    YM_steps v (nI t) = some (mend v1 t e (nxo v0 S t k j n (decide (f = -1)))) := by
  have rs1 := RS_f hQ xf mf rs
  obtain ⟨s1, s2, s3, s4, s5, s6, s7, s8⟩ := rs1
  have hS := s3.2.1
  have d0 := dn_r mf rd
  have kd : nI (10 * k + j) / 10 = nI k := by
    rw [lit 10, pk_div (by omega) (by omega) (by omega)]
    exact congrArg nI (by omega)
  have jd : nI (10 * k + j) - nI k * 10 = nI j := by
    rw [lit 10, pk_mul, pk_sub (by omega)]
    exact congrArg nI (by omega)
  have e1 : v1.1 133 k = nI n := by
    rw [mf.1 133 (by omega) (by omega) (by omega)]
    exact en
  have e2 : v1.1 152 t = nI (10 * k + j) := by
    rw [fm.1 152 (by omega) (by omega) (by omega) (by omega)]
    exact et
  have E := fun o ho => steps_end (v := v1) (t := t) (e := e) ht he e37 o ho
  unfold YM_steps nxo
  rw [inB_n ht (by omega), gd_t, gd_t, nI_clamp (by omega), et, kd, jd, ei, b2_s]
  by_cases c : f = -1
  · rw [decide_eq_true c, if_neg (show ¬ bi true = 0 by decide), inB_n (show k < 5 by omega) (by omega), gd_t, nI_clamp (show k < 2 ^ 31 by omega), e1, nI_1, gd_t, nI_1, YM_firstFrom_e s4 s3 ht (by omega), b1_s, e2, nI_1]
    rw [show ((if true = true then (if j + 1 = n then (fd v0 t (k + 1) (S - (k + 1))).map (fun k => (k, 0)) else some (k, j + 1)) else none) : Option (Nat × Nat)) = (if j + 1 = n then (fd v0 t (k + 1) (S - (k + 1))).map (fun k => (k, 0)) else some (k, j + 1)) from if_pos rfl]
    by_cases c2 : j + 1 = n
    · rw [if_pos (nI_le (by omega) (by omega)), if_pos c2, fd_d d0]
      cases z : fd v0 t (k + 1) (S - (k + 1)) with
      | none => exact E none (fun x h => by cases h)
      | some k' =>
        have := (fd_c v0 t _ _ _ z).2.1
        have h2 := E (some (k', 0)) (fun x h => by cases h; exact ⟨by omega, by omega⟩)
        exact h2
    · rw [if_neg (nI_ge (by omega) (by omega)), if_neg c2]
      have h2 := E (some (k, j + 1)) (fun x h => by cases h; exact ⟨by omega, by omega⟩)
      rw [show 10 * k + j + 1 = 10 * k + (j + 1) by omega]
      exact h2
  · rw [decide_eq_false c, if_pos (show bi false = 0 from rfl), if_neg (show ¬ false = true by decide)]
    exact E none (fun x h => by cases h)
/-- x's heap before a worker looks for its next turn -/
def PF (Q w : Nat) (p g : sd_H) : Prop := (∀ c, ¬ c = 105 → ¬ c = 106 → ¬ c = Q → ¬ c = Q + 1 → p.1 c = g.1 c) ∧ (∀ s, ¬ s = w → p.1 105 s = g.1 105 s ∧ p.1 106 s = g.1 106 s) ∧ p.1 Q 2 = g.1 Q 2 ∧ p.2 = g.2
def XCt (Q : Nat) (p g : sd_H) (f : Int32) : Prop :=
  (f = -1 ∧ p.1 Q 3 = g.1 Q 3 + 1 ∧ p.1 (Q + 1) = g.1 (Q + 1)) ∨ (∃ q, q < 3 ∧ f = nI q ∧ p.1 Q 3 = g.1 Q 3 ∧ p.1 (Q + 1) = up (g.1 (Q + 1)) q (g.1 (Q + 1) q + 1))
theorem Q_sh {Q : Nat} (h : Q = 107 ∨ Q = 120 ∨ Q = 123) : sd_SH Q = (4, 4) := by
  rcases h with rfl | rfl | rfl <;> decide
theorem XU_step_e {P Q : Nat} {T : Nat → Int32} {mx : Bool} {N S : Nat} {g0 v0 g g1 v1 : sd_H} {k t j n w : Nat} {f : Int32} (hQ : Q = 107 ∨ Q = 120 ∨ Q = 123) (rs : RS P T mx N S g0 v0) (xf : XFR P Q g1 g0) (mf : MFR v1 v0) (rd : RD P T mx v0 g1 v1) (sq : g0.2.2 1 = some Q)
    (ei : XU_doItem g (8 + 5 * k) (nI t) (nI j) = some (g1, f)) (fx : FX P g1 g) (co : f = -1 ∨ ∃ q, q < 3 ∧ f = nI q) (hk : k < S) (ht : t < 10) (hj : j < n) (hn : n ≤ 5) (en : v0.1 133 k = nI n) (hw : w < 4) (e4 : g.1 104 w = nI t) (e5 : g.1 105 w = nI k) (e6 : g.1 106 w = nI j) :
    ∃ p, PF Q w p g1 ∧ XCt Q p g1 f ∧ (match nxo v0 S t k j n (decide (f = -1)) with | none => p.1 105 w = -1 | some x => p.1 105 w = nI x.1 ∧ p.1 106 w = nI x.2) ∧ XU_step g (nI w) = XU_step_B86 p (nI w) (nI t) := by
  have rs1 := RS_f hQ xf mf rs
  obtain ⟨s1, s2, s3, s4, s5, s6, s7, s8⟩ := rs1
  have hS := s3.2.1
  have d0 := dn_r mf rd
  have sq1 : g1.2.2 1 = some Q := by rw [xf.2.2]; exact sq
  have pn : ¬ 104 = P + 4 ∧ ¬ 105 = P + 4 ∧ ¬ 106 = P + 4 ∧ ¬ P + 1 = 105 ∧ ¬ P + 1 = 106 ∧ ¬ P + 2 = 105 ∧ ¬ P + 2 = 106 ∧ ¬ P + 1 = Q ∧ ¬ P + 2 = Q := by omega
  have e5' : g1.1 105 w = nI k := by rw [fx.1 105 (by omega) (by omega)]; exact e5
  have e6' : g1.1 106 w = nI j := by rw [fx.1 106 (by omega) (by omega)]; exact e6
  have e2 : g1.1 (8 + 5 * k) 2 = nI n := by
    rw [(s3.2.2.2.2.2.2 k hk).1.2.1, mf.1 133 (by omega) (by omega) (by omega)]
    exact en
  unfold XU_step nxo
  rw [inB_n hw (by omega), gd_t, gd_t, gd_t, nI_clamp (by omega), e4, e5, e6, inB_n (show k < 5 by omega) (by omega), gd_t, nI_clamp (by omega), ei, b2_s, op_e sq1 (Q_sh hQ), op_e sq1 (Q_sh hQ)]
  by_cases c : f = -1
  · rw [if_pos c, decide_eq_true c, hb_s]
    rw [show ((if true = true then (if j + 1 = n then (fd v0 t (k + 1) (S - (k + 1))).map (fun k => (k, 0)) else some (k, j + 1)) else none) : Option (Nat × Nat)) = (if j + 1 = n then (fd v0 t (k + 1) (S - (k + 1))).map (fun k => (k, 0)) else some (k, j + 1)) from if_pos rfl]
    unfold XU_goOn
    rw [inB_n hw (by omega), nI_clamp (show w < 2 ^ 31 by omega)]
    simp only [gd_t, hb_s]
    rw [wI_eq, wI_ne (by omega), e6', nI_1]
    have e2' : (wI (wI g1 Q 3 (g1.1 Q 3 + 1)) 106 w (nI (j + 1))).1 (8 + 5 * k) 2 = nI n := by
      rw [wI_ne (by omega), wI_ne (by omega)]
      exact e2
    rw [e2', itp (nI_eqI (a := j + 1) (b := n) (by omega) (by omega))]
    by_cases c2 : j + 1 = n
    · rw [if_pos c2, if_pos c2]
      have sP : (wI (wI (wI g1 Q 3 (g1.1 Q 3 + 1)) 106 w (nI (j + 1))) 106 w 0).2.2 0 = some P := s2
      have e5'' : (wI (wI (wI g1 Q 3 (g1.1 Q 3 + 1)) 106 w (nI (j + 1))) 106 w 0).1 105 w = nI k := by
        rw [wI_ne (by omega), wI_ne (by omega), wI_ne (by omega)]
        exact e5'
      have il' : IL (wI (wI (wI g1 Q 3 (g1.1 Q 3 + 1)) 106 w (nI (j + 1))) 106 w 0) v1 N S := IL_c (fun c a b => by rw [wI_ne (by omega), wI_ne (by omega), wI_ne (by omega)]) rfl rfl rfl rfl rfl rfl rfl rfl rfl rfl rfl s3
      have ndn := XL_nextDone_e (t := t) (k := k + 1) (g := wI (wI (wI g1 Q 3 (g1.1 Q 3 + 1)) 106 w (nI (j + 1))) 106 w 0) (P := P) (by rw [wI_ne pn.2.2.2.2.1, wI_ne pn.2.2.2.2.1, wI_ne pn.2.2.2.2.2.2.2.1, wI_ne pn.2.2.2.2.2.2.1, wI_ne pn.2.2.2.2.2.2.1, wI_ne pn.2.2.2.2.2.2.2.2]; exact rd.1) s4 il' ht (by omega)
      rw [op_e sP (P_sh s1), e5'', nI_1, ndn, b1_s, b1_s, fd_d d0]
      refine ⟨wI (wI (wI (wI g1 Q 3 (g1.1 Q 3 + 1)) 106 w (nI (j + 1))) 106 w 0) 105 w (nxI (fd v0 t (k + 1) (S - (k + 1)))), ⟨fun c h1 h2 h3 h4 => ?_, fun s hs => ⟨?_, ?_⟩, ?_, rfl⟩, Or.inl ⟨c, ?_, ?_⟩, ?_, rfl⟩
      · rw [wI_ne h1, wI_ne h2, wI_ne h2, wI_ne h3]
      · rw [wI_ns hs, wI_ne (by omega), wI_ne (by omega), wI_ne (by omega)]
      · rw [wI_ne (by omega), wI_ns hs, wI_ns hs, wI_ne (by omega)]
      · rw [wI_ne (by omega), wI_ne (by omega), wI_ne (by omega), wI_ns (by omega)]
      · rw [wI_ne (by omega), wI_ne (by omega), wI_ne (by omega), wI_eq]
      · rw [wI_ne (by omega), wI_ne (by omega), wI_ne (by omega), wI_ne (by omega)]
      · cases fd v0 t (k + 1) (S - (k + 1)) with
        | none => exact wI_eq
        | some k' => exact ⟨wI_eq, by rw [wI_ne (by omega), wI_eq]; rfl⟩
    · rw [if_neg c2, if_neg c2, b1_s]
      refine ⟨wI (wI g1 Q 3 (g1.1 Q 3 + 1)) 106 w (nI (j + 1)), ⟨fun c h1 h2 h3 h4 => ?_, fun s hs => ⟨?_, ?_⟩, ?_, rfl⟩, Or.inl ⟨c, ?_, ?_⟩, ⟨?_, wI_eq⟩, rfl⟩
      · rw [wI_ne h2, wI_ne h3]
      · rw [wI_ne (by omega), wI_ne (by omega)]
      · rw [wI_ns hs, wI_ne (by omega)]
      · rw [wI_ne (by omega), wI_ns (by omega)]
      · rw [wI_ne (by omega), wI_eq]
      · rw [wI_ne (by omega), wI_ne (by omega)]
      · rw [wI_ne (by omega), wI_ne (by omega)]
        exact e5'
  · obtain ⟨q, hq, ef⟩ := co.resolve_left c
    rw [if_neg c, decide_eq_false c, if_neg (show ¬ false = true by decide), ef, inB_n hq (by omega), gd_t, gd_t, hb_s, gd_t, hb_s, nI_clamp (show q < 2 ^ 31 by omega)]
    refine ⟨wI (wI g1 (Q + 1) q (g1.1 (Q + 1) q + 1)) 105 w (-1), ⟨fun c h1 h2 h3 h4 => ?_, fun s hs => ⟨?_, ?_⟩, ?_, rfl⟩, Or.inr ⟨q, hq, rfl, ?_, ?_⟩, wI_eq, rfl⟩
    · rw [wI_ne h1, wI_ne h4]
    · rw [wI_ns hs, wI_ne (by omega)]
    · rw [wI_ne (by omega), wI_ne (by omega)]
    · rw [wI_ne (by omega), wI_ne (by omega)]
    · rw [wI_ne (by omega), wI_ne (by omega)]
    · rw [wI_ne (by omega)]
      refine funext fun i => ?_
      unfold up
      by_cases ei : i = q
      · rw [if_pos ei, ei, wI_eq]
      · rw [if_neg ei, wI_ns ei]
/-- a worker at the end of its turn -/
theorem XU_step_end {P Q : Nat} {N S W dl w q e : Nat} {p v : sd_H} (hQ : Q = 107 ∨ Q = 120 ∨ Q = 123) (hP : P = 1 ∨ P = 110 ∨ P = 115) (s2 : p.2.2 0 = some P) (sq : p.2.2 1 = some Q) (ir : IR (p.1 (P + 1)) (p.1 (P + 2)) (p.2.1 (P + 3)) (v.1 127) (v.1 128) (v.2.1 129)) (iz : IZ (v.1 128)) (il : IL p v N S) (e9 : p.1 100 9 = nI W) (e10 : p.1 100 10 = nI dl) (h1 : 1 ≤ W) (hW : W ≤ 4) (hd : dl ≤ 2) (hw : w < W) (hq : q < N) (he : e < 10) (ee : p.1 Q 2 = nI e) (e5 : p.1 105 w = -1) :
    XU_step_B86 p (nI w) (nI (tq N dl q)) = some (en (wI (wI p Q 2 (nI (e + 1))) (Q + 2) e (nI (tq N dl q))) v N S dl w (fp (pw v N S W dl w) (q + 1) (N - (q + 1)))) := by
  have hN := il.1
  have pn : ¬ P + 1 = Q ∧ ¬ P + 2 = Q ∧ ¬ P + 1 = Q + 2 ∧ ¬ P + 2 = Q + 2 := by omega
  have il' : IL (wI (wI p Q 2 (nI (e + 1))) (Q + 2) e (nI (tq N dl q))) v N S := IL_c (fun c a b => by rw [wI_ne (by omega), wI_ne (by omega)]) rfl rfl rfl rfl rfl rfl rfl rfl rfl rfl rfl il
  have E := XU_enter_e (g := wI (wI p Q 2 (nI (e + 1))) (Q + 2) e (nI (tq N dl q))) (w := w) (q := q + 1) hP s2 (by rw [wI_ne pn.2.2.1, wI_ne pn.1, wI_ne pn.2.2.2, wI_ne pn.2.1]; exact ir) iz il' (by rw [wI_ne (by omega), wI_ne (by omega)]; exact e9) (by rw [wI_ne (by omega), wI_ne (by omega)]; exact e10) h1 hW hd hw (by omega)
  unfold XU_step_B86 XO_end XU_step_B123
  rw [inB_n (show w < 4 by omega) (by omega), gd_t, nI_clamp (by omega), e5, if_pos rfl, op_e sq (Q_sh hQ), ee, lit 10, if_neg (show ¬ nI 10 ≤ nI e from nI_ge (by omega) (by omega)), hb_s, inB_n he (by omega), gd_t, hb_s, b1_s, nI_clamp (by omega), nI_1, wI_ne (by omega), wI_ne (by omega), e10, itp (show (nI dl = 2) = (dl = 2) from nI_eqI (b := 2) (by omega) (by omega))]
  by_cases c : dl = 2
  · rw [if_pos c] at E
    have et : tq N dl q = N - (q + 1) := by
      unfold tq
      rw [if_pos c]
      omega
    rw [if_pos c, show nI (tq N dl q) - 1 = nI (N - (q + 1)) - 1 by rw [et], E, b1_s]
  · rw [if_neg c] at E
    have et : tq N dl q = q := by
      unfold tq
      rw [if_neg c]
    rw [if_neg c, show nI (tq N dl q) + 1 = nI (q + 1) by rw [et, nI_1], E, b1_s]
