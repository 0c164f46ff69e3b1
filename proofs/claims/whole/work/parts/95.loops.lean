/-! ===== the loops of a run ===== -/
/-- busy workers -/
def bw (s : Nat → Option (Nat × Nat)) (N W dl w : Nat) : Bool := (fp (ps s N W dl w) 0 N).isSome
def bcn (b : Nat → Bool) : Nat → Nat → Nat
  | _, 0 => 0
  | w, m + 1 => (if b w = true then 1 else 0) + bcn b (w + 1) m
def ith (b : Nat → Bool) : Nat → Nat → Nat → Option Nat
  | _, _, 0 => none
  | i, w, m + 1 => if b w = true then (if i = 0 then some w else ith b (i - 1) (w + 1) m) else ith b i (w + 1) m
theorem bcn_le (b : Nat → Bool) : ∀ m w, bcn b w m ≤ m
  | 0, _ => Nat.le_refl _
  | m + 1, w => by
    have := bcn_le b m (w + 1)
    show (if b w = true then 1 else 0) + bcn b (w + 1) m ≤ _
    split <;> omega
theorem ith_s (b : Nat → Bool) : ∀ m i w, i < bcn b w m → ∃ w', ith b i w m = some w' ∧ w ≤ w' ∧ w' < w + m ∧ b w' = true
  | 0, i, w, h => absurd h (Nat.not_lt_zero _)
  | m + 1, i, w, h => by
    have e : bcn b w (m + 1) = (if b w = true then 1 else 0) + bcn b (w + 1) m := rfl
    have e2 : ith b i w (m + 1) = if b w = true then (if i = 0 then some w else ith b (i - 1) (w + 1) m) else ith b i (w + 1) m := rfl
    rw [e] at h
    rw [e2]
    by_cases c : b w = true
    · rw [if_pos c] at h ⊢
      by_cases z : i = 0
      · rw [if_pos z]
        exact ⟨w, rfl, Nat.le_refl _, by omega, c⟩
      · rw [if_neg z]
        obtain ⟨w', h1, h2, h3, h4⟩ := ith_s b m (i - 1) (w + 1) (by omega)
        exact ⟨w', h1, by omega, by omega, h4⟩
    · rw [if_neg c] at h ⊢
      obtain ⟨w', h1, h2, h3, h4⟩ := ith_s b m i (w + 1) (by omega)
      exact ⟨w', h1, by omega, by omega, h4⟩
section
variable {P Q N S W dl : Nat} {T : Nat → Int32} {mx : Bool} {g0 v0 g v : sd_H} {s : Nat → Option (Nat × Nat)}
theorem SS_busy (sb : SB P Q N S W dl T mx g0 v0) (ss : SS P Q N S W dl T mx g0 v0 g v s) {w : Nat} (hw : w < W) : (g.1 104 w = -1) = (bw s N W dl w = false) := by
  have hN := sb.1.2.2.1.1
  obtain ⟨a, b⟩ | ⟨q, k, j, a, _, b, _⟩ := ss.2.2.2.2.2.2.2.2 w hw
  · unfold bw
    rw [a, b]
    exact propext ⟨fun _ => rfl, fun _ => rfl⟩
  · obtain ⟨z, _⟩ | ⟨q2, z, _, hq2, _, _⟩ := fps_c (ps s N W dl w) N 0
    · rw [z] at a
      cases a
    rw [a] at z
    cases z
    have := tq_lt (N := N) (dl := dl) (q := q) (by omega)
    unfold bw
    rw [a, b]
    exact propext ⟨fun h => absurd h (nm1 (by omega)), fun h => by cases h⟩
theorem SS_9 (sb : SB P Q N S W dl T mx g0 v0) (ss : SS P Q N S W dl T mx g0 v0 g v s) : g.1 100 9 = nI W := by
  have := sb.2.1
  have := sb.1.1
  rw [ss.1.1 100 (by omega) (by omega) (by omega)]
  exact sb.2.2.2.1
theorem busyWorkers_L_e (sb : SB P Q N S W dl T mx g0 v0) (ss : SS P Q N S W dl T mx g0 v0 g v s) : ∀ m fu w c, w + m = W → m < fu → c ≤ 100 →
    XU_busyWorkers_L4 g fu (nI c) (nI w) = some (nI (c + bcn (bw s N W dl) w m))
  | _, 0, _, _, _, q, _ => absurd q (Nat.not_lt_zero _)
  | 0, fu + 1, w, c, e, _, _ => by
    have hW := sb.2.2.2.2.2.2.1
    unfold XU_busyWorkers_L4
    rw [SS_9 sb ss, if_pos (nI_le (by omega) (by omega))]
    rfl
  | m + 1, fu + 1, w, c, e, q, hc => by
    have hW := sb.2.2.2.2.2.2.1
    have e1 : bcn (bw s N W dl) w (m + 1) = (if bw s N W dl w = true then 1 else 0) + bcn (bw s N W dl) (w + 1) m := rfl
    unfold XU_busyWorkers_L4 XU_busyWorkers_B25
    rw [SS_9 sb ss, if_neg (nI_ge (by omega) (by omega)), inB_n (show w < 4 by omega) (by omega), gd_t, nI_clamp (by omega), itp (SS_busy sb ss (by omega)), nI_1, nI_1, e1]
    by_cases z : bw s N W dl w = true
    · by_cases c1 : c = 100
      · subst c1
        rw [if_neg (by rw [z]; decide), if_pos z, show 100 + (1 + bcn (bw s N W dl) (w + 1) m) = 101 + bcn (bw s N W dl) (w + 1) m by omega]
        have gen : ∀ m fu w c, w + m = W → m < fu → XU_busyWorkers_L4 g fu (nI c) (nI w) = some (nI (c + bcn (bw s N W dl) w m)) := by
          intro m
          induction m with
          | zero =>
            intro fu w c e q
            obtain ⟨fu, rfl⟩ : ∃ f, fu = f + 1 := ⟨fu - 1, by omega⟩
            unfold XU_busyWorkers_L4
            rw [SS_9 sb ss, if_pos (nI_le (by omega) (by omega))]
            rfl
          | succ m ih =>
            intro fu w c e q
            obtain ⟨fu, rfl⟩ : ∃ f, fu = f + 1 := ⟨fu - 1, by omega⟩
            have e1 : bcn (bw s N W dl) w (m + 1) = (if bw s N W dl w = true then 1 else 0) + bcn (bw s N W dl) (w + 1) m := rfl
            unfold XU_busyWorkers_L4 XU_busyWorkers_B25
            rw [SS_9 sb ss, if_neg (nI_ge (by omega) (by omega)), inB_n (show w < 4 by omega) (by omega), gd_t, nI_clamp (by omega), itp (SS_busy sb ss (by omega)), nI_1, nI_1, e1]
            by_cases z : bw s N W dl w = true
            · rw [if_neg (by rw [z]; decide), if_pos z, ih fu (w + 1) (c + 1) (by omega) (by omega), show c + 1 + bcn (bw s N W dl) (w + 1) m = c + (1 + bcn (bw s N W dl) (w + 1) m) by omega]
            · rw [if_pos (Bool.eq_false_iff.mpr z), if_neg z, ih fu (w + 1) c (by omega) (by omega), Nat.zero_add]
        exact gen m fu (w + 1) 101 (by omega) (by omega)
      · rw [if_neg (by rw [z]; decide), if_pos z, busyWorkers_L_e sb ss m fu (w + 1) (c + 1) (by omega) (by omega) (by omega), show c + 1 + bcn (bw s N W dl) (w + 1) m = c + (1 + bcn (bw s N W dl) (w + 1) m) by omega]
    · rw [if_pos (Bool.eq_false_iff.mpr z), if_neg z, busyWorkers_L_e sb ss m fu (w + 1) c (by omega) (by omega) hc, Nat.zero_add]
/-- how many are busy -/
def bcw (s : Nat → Option (Nat × Nat)) (N W dl : Nat) : Nat := bcn (bw s N W dl) 0 W
theorem busyWorkers_e (sb : SB P Q N S W dl T mx g0 v0) (ss : SS P Q N S W dl T mx g0 v0 g v s) : XU_busyWorkers g = some (nI (bcw s N W dl)) := by
  have hW := sb.2.2.2.2.2.2.1
  have := busyWorkers_L_e sb ss W FU 0 0 (by omega) (by rw [FU_s]; omega) (by omega)
  rw [Nat.zero_add] at this
  exact this
theorem busyWorker_L_e (sb : SB P Q N S W dl T mx g0 v0) (ss : SS P Q N S W dl T mx g0 v0 g v s) {w' : Nat} : ∀ m fu w i, w + m = W → m < fu → i < 100 → ith (bw s N W dl) i w m = some w' →
    XU_busyWorker_L4 g fu (nI i) (nI w) = some (nI w')
  | _, 0, _, _, _, q, _, _ => absurd q (Nat.not_lt_zero _)
  | 0, fu + 1, w, i, e, _, _, h => by cases h
  | m + 1, fu + 1, w, i, e, q, hi, h => by
    have hW := sb.2.2.2.2.2.2.1
    have e2 : ith (bw s N W dl) i w (m + 1) = if bw s N W dl w = true then (if i = 0 then some w else ith (bw s N W dl) (i - 1) (w + 1) m) else ith (bw s N W dl) i (w + 1) m := rfl
    rw [e2] at h
    unfold XU_busyWorker_L4 XU_busyWorker_B31
    rw [SS_9 sb ss, if_neg (nI_ge (by omega) (by omega)), inB_n (show w < 4 by omega) (by omega), gd_t, nI_clamp (by omega), itp (SS_busy sb ss (by omega)), nI_1, itp (n0eq (show i < 2 ^ 31 by omega))]
    by_cases z : bw s N W dl w = true
    · rw [if_pos z] at h
      rw [if_neg (by rw [z]; decide)]
      by_cases c : i = 0
      · rw [if_pos c] at h ⊢
        cases h
        rfl
      · rw [if_neg c] at h ⊢
        rw [← Int32.sub_eq_add_neg, nI_m1 (by omega)]
        exact busyWorker_L_e sb ss m fu (w + 1) (i - 1) (by omega) (by omega) (by omega) h
    · rw [if_neg z] at h
      rw [if_pos (Bool.eq_false_iff.mpr z)]
      exact busyWorker_L_e sb ss m fu (w + 1) i (by omega) (by omega) hi h
/-- the model's worker -/
theorem turnOf_s (sb : SB P Q N S W dl T mx g0 v0) (ss : SS P Q N S W dl T mx g0 v0 g v s) {w : Nat} (hw : w < W) : YM_turnOf v (nI w) (nI W) (nI dl) = some (nxI ((fp (ps s N W dl w) 0 N).map (tq N dl))) := by
  obtain ⟨rs, hQ, sq, b9, b10, hW1, hW, hd, b133⟩ := sb
  have rs' := RS_f hQ ss.1 ss.2.1 rs
  have hN := rs.2.2.1.1
  have hS := rs.2.2.1.2.1
  rw [turnOf_pos rs'.2.2.1.2.2.2.1 hN hW1 hW hd hw, fps_congr (p' := ps s N W dl w) N 0 (fun i _ hi => ?_)]
  have ht := tq_lt (N := N) (dl := dl) (q := i) (by omega)
  unfold tl ps
  rw [ss.2.2.2.2.2.2.1 _ ht]
  cases y : s (tq N dl i) with
  | none => rfl
  | some x =>
    obtain ⟨h1, h2, _⟩ := ss.2.2.2.2.2.2.2.1 _ x.1 x.2 ht y
    rw [decide_eq_false (cdo_ne (by omega) (by omega))]
    rfl
theorem left_L_e (sb : SB P Q N S W dl T mx g0 v0) (ss : SS P Q N S W dl T mx g0 v0 g v s) : ∀ m fu w c, w + m = W → m < fu →
    YM_left_L5 v fu (nI W) (nI dl) (nI c) (nI w) = some (nI (c + bcn (bw s N W dl) w m))
  | _, 0, _, _, _, q => absurd q (Nat.not_lt_zero _)
  | 0, fu + 1, w, c, e, _ => by
    have hW := sb.2.2.2.2.2.2.1
    unfold YM_left_L5
    rw [if_pos (nI_le (by omega) (by omega))]
    rfl
  | m + 1, fu + 1, w, c, e, q => by
    have hW := sb.2.2.2.2.2.2.1
    have hN := sb.1.2.2.1.1
    have e1 : bcn (bw s N W dl) w (m + 1) = (if bw s N W dl w = true then 1 else 0) + bcn (bw s N W dl) (w + 1) m := rfl
    unfold YM_left_L5 YM_left_B29
    rw [if_neg (nI_ge (by omega) (by omega)), turnOf_s sb ss (by omega), b1_s, nI_1, nI_1, e1]
    unfold bw
    obtain ⟨z, _⟩ | ⟨q2, z, _, hq2, _, _⟩ := fps_c (ps s N W dl w) N 0
    · rw [z, if_pos (show nxI ((none : Option Nat).map (tq N dl)) = -1 from rfl), if_neg (show ¬ (none : Option Nat).isSome = true by decide), show nI c + 0 = nI c by rw [← nI_0, nI_add, Nat.add_zero], Nat.zero_add]
      exact left_L_e sb ss m fu (w + 1) c (by omega) (by omega)
    · have := tq_lt (N := N) (dl := dl) (q := q2) (by omega)
      rw [z, if_neg (show ¬ nxI ((some q2).map (tq N dl)) = -1 from nm1 (k := tq N dl q2) (by omega)), if_pos (show (some q2).isSome = true from rfl)]
      rw [show c + (1 + bcn (fun w => (fp (ps s N W dl w) 0 N).isSome) (w + 1) m) = c + 1 + bcn (fun w => (fp (ps s N W dl w) 0 N).isSome) (w + 1) m by omega]
      exact left_L_e sb ss m fu (w + 1) (c + 1) (by omega) (by omega)
theorem left_e (sb : SB P Q N S W dl T mx g0 v0) (ss : SS P Q N S W dl T mx g0 v0 g v s) : YM_left v (nI W) (nI dl) = some (nI (bcw s N W dl)) := by
  have hW := sb.2.2.2.2.2.2.1
  have := left_L_e sb ss W FU 0 0 (by omega) (by rw [FU_s]; omega)
  rw [Nat.zero_add] at this
  exact this
/-- the next seed -/
def sdn (x : Nat) : Nat := 13 * x + 7 - (13 * x + 7) / 64 * 64
theorem sdn_e {x : Nat} (h : x < 64) : ((13 : Int32) * nI x + 7) - ((13 : Int32) * nI x + 7) / 64 * 64 = nI (sdn x) := by
  rw [lit 13, lit 7, lit 64, pk_mul, nI_add, pk_div (by omega) (by omega) (by omega), pk_mul, pk_sub (by omega)]
  rfl
theorem sdn_lt (x : Nat) : sdn x < 64 := by
  unfold sdn
  omega
theorem smod_e {x b : Nat} (h : x < 64) (hb : 0 < b) (hb4 : b ≤ 4) : nI x - nI x / nI b * nI b = nI (x - x / b * b) := by
  rw [pk_div (by omega) hb (by omega), pk_mul, pk_sub (Nat.div_mul_le_self x b)]
theorem smod_lt {x b : Nat} (hb : 0 < b) : x - x / b * b < b := by
  have := Nat.mod_lt x hb
  rw [Nat.mod_def, Nat.mul_comm b] at this
  exact this
/-- less than nothing -/
def ngs : Nat → Int32
  | 0 => -1
  | n + 1 => ngs n - 1
theorem ngs_ne {a : Nat} (h : a < 5) : ¬ ngs a = 0 := by
  have : a = 0 ∨ a = 1 ∨ a = 2 ∨ a = 3 ∨ a = 4 := by omega
  rcases this with rfl | rfl | rfl | rfl | rfl <;> decide
theorem mixes_found (sb : SB P Q N S W dl T mx g0 v0) (ss : SS P Q N S W dl T mx g0 v0 g v s) {K : sd_H → Int32 → Int32 → Int32 → Int32 → Option (sd_H × Int32)} {x : Nat} (hx : x < 64) {l7 : Int32} : ∀ m fu w a, w + m = W → m < fu → a + m ≤ 4 →
    YM_mixes_L67 K fu v (nI W) (nI dl) (nI x) (ngs a) l7 (nI w) = b1 (YM_steps v l7) (fun h14 => b1 (YM_left h14 (nI W) (nI dl)) (fun t16 => K h14 (nI W) (nI dl) (nI (sdn x)) t16))
  | _, 0, _, _, _, q, _ => absurd q (Nat.not_lt_zero _)
  | 0, fu + 1, w, a, e, _, _ => by
    have hW := sb.2.2.2.2.2.2.1
    unfold YM_mixes_L67
    rw [if_pos (nI_le (by omega) (by omega)), sdn_e hx]
  | m + 1, fu + 1, w, a, e, q, ha => by
    have hW := sb.2.2.2.2.2.2.1
    have hN := sb.1.2.2.1.1
    unfold YM_mixes_L67 YM_mixes_B99 YM_mixes_B101 YM_mixes_B116
    rw [if_neg (nI_ge (by omega) (by omega)), turnOf_s sb ss (by omega), b1_s, nI_1]
    obtain ⟨z, _⟩ | ⟨q2, z, _, hq2, _, _⟩ := fps_c (ps s N W dl w) N 0
    · rw [z, if_pos (show nxI ((none : Option Nat).map (tq N dl)) = -1 from rfl), if_pos (show nxI ((none : Option Nat).map (tq N dl)) = -1 from rfl), show ngs a - 0 = ngs a from Int32.sub_zero _]
      exact mixes_found sb ss hx m fu (w + 1) a (by omega) (by omega) (by omega)
    · have := tq_lt (N := N) (dl := dl) (q := q2) (by omega)
      have nn : ¬ nxI ((some q2).map (tq N dl)) = -1 := nm1 (k := tq N dl q2) (by omega)
      rw [z, if_neg nn, if_neg (ngs_ne (by omega)), if_neg nn]
      exact mixes_found sb ss hx m fu (w + 1) (a + 1) (by omega) (by omega) (by omega)
theorem mixes_find (sb : SB P Q N S W dl T mx g0 v0) (ss : SS P Q N S W dl T mx g0 v0 g v s) {K : sd_H → Int32 → Int32 → Int32 → Int32 → Option (sd_H × Int32)} {x : Nat} (hx : x < 64) {l7 : Int32} {w' : Nat} : ∀ m fu w i, w + m = W → m < fu → i < 100 → ith (bw s N W dl) i w m = some w' →
    YM_mixes_L67 K fu v (nI W) (nI dl) (nI x) (nI i) l7 (nI w) = b1 (YM_steps v (nxI ((fp (ps s N W dl w') 0 N).map (tq N dl)))) (fun h14 => b1 (YM_left h14 (nI W) (nI dl)) (fun t16 => K h14 (nI W) (nI dl) (nI (sdn x)) t16))
  | _, 0, _, _, _, q, _, _ => absurd q (Nat.not_lt_zero _)
  | 0, fu + 1, w, i, e, _, _, h => by cases h
  | m + 1, fu + 1, w, i, e, q, hi, h => by
    have hW := sb.2.2.2.2.2.2.1
    have hN := sb.1.2.2.1.1
    have e2 : ith (bw s N W dl) i w (m + 1) = if bw s N W dl w = true then (if i = 0 then some w else ith (bw s N W dl) (i - 1) (w + 1) m) else ith (bw s N W dl) i (w + 1) m := rfl
    rw [e2] at h
    unfold YM_mixes_L67 YM_mixes_B99 YM_mixes_B101 YM_mixes_B116
    rw [if_neg (nI_ge (by omega) (by omega)), turnOf_s sb ss (by omega), b1_s, nI_1, itp (n0eq (show i < 2 ^ 31 by omega))]
    obtain ⟨z, _⟩ | ⟨q2, z, _, hq2, _, _⟩ := fps_c (ps s N W dl w) N 0
    · have bf : ¬ bw s N W dl w = true := by
        unfold bw
        rw [z]
        decide
      rw [if_neg bf] at h
      rw [z, if_pos (show nxI ((none : Option Nat).map (tq N dl)) = -1 from rfl), if_pos (show nxI ((none : Option Nat).map (tq N dl)) = -1 from rfl), show nI i - 0 = nI i from Int32.sub_zero _]
      exact mixes_find sb ss hx m fu (w + 1) i (by omega) (by omega) hi h
    · have := tq_lt (N := N) (dl := dl) (q := q2) (by omega)
      have nn : ¬ nxI ((some q2).map (tq N dl)) = -1 := nm1 (k := tq N dl q2) (by omega)
      have bt : bw s N W dl w = true := by
        unfold bw
        rw [z]
        rfl
      rw [if_pos bt] at h
      by_cases c : i = 0
      · rw [if_pos c] at h
        have hh : w = w' := Option.some.inj h
        subst hh
        subst c
        rw [z, if_neg nn, if_pos rfl, if_neg nn, show nI 0 - 1 = ngs 0 by decide]
        exact mixes_found sb ss hx m fu (w + 1) 0 (by omega) (by omega) (by omega)
      · rw [if_neg c] at h
        rw [z, if_neg nn, if_neg c, if_neg nn, nI_m1 (by omega)]
        exact mixes_find sb ss hx m fu (w + 1) (i - 1) (by omega) (by omega) (by omega) h
/-- a busy worker has something left to do -/
theorem busy_m (sb : SB P Q N S W dl T mx g0 v0) (ss : SS P Q N S W dl T mx g0 v0 g v s) {w q : Nat} (pos : fp (ps s N W dl w) 0 N = some q) : 0 < sm (fun t => mz (s t)) N ∧ q < N ∧ (s (tq N dl q)).isSome = true := by
  have hS := sb.1.2.2.1.2.1
  obtain ⟨z, _⟩ | ⟨q2, z, _, hq2, pq, _⟩ := fps_c (ps s N W dl w) N 0
  · rw [z] at pos
    cases pos
  rw [pos] at z
  cases z
  have ht := tq_lt (N := N) (dl := dl) (q := q) (by omega)
  unfold ps at pq
  rw [Bool.and_eq_true] at pq
  refine ⟨?_, by omega, pq.2⟩
  cases y : s (tq N dl q) with
  | none =>
    rw [y] at pq
    exact absurd pq.2 (by decide)
  | some x =>
    obtain ⟨h1, h2, _⟩ := ss.2.2.2.2.2.2.2.1 _ x.1 x.2 ht y
    have := sm_g (f := fun t => mz (s t)) N ht
    have e : mz (s (tq N dl q)) = 25 - (5 * x.1 + x.2) := by rw [y]; rfl
    rw [e] at this
    omega
/-- x's loop, one step -/
theorem go_step (sb : SB P Q N S W dl T mx g0 v0) (ss : SS P Q N S W dl T mx g0 v0 g v s) {x l8 fu : Nat} (hx : x < 64) (hb : 0 < bcw s N W dl) (hm : sm (fun t => mz (s t)) N + l8 ≤ 250) :
    ∃ w q g' v' s', w < W ∧ ith (bw s N W dl) (x - x / bcw s N W dl * bcw s N W dl) 0 W = some w ∧ fp (ps s N W dl w) 0 N = some q ∧ YM_steps v (nI (tq N dl q)) = some v' ∧ SS P Q N S W dl T mx g0 v0 g' v' s' ∧ sm (fun t => mz (s' t)) N < sm (fun t => mz (s t)) N ∧ (∀ i, ¬ i = tq N dl q → s' i = s i) ∧
      XU_go_L22 (fu + 1) g (nI x) (nI (bcw s N W dl)) (nI l8) = XU_go_L22 fu g' (nI (sdn x)) (nI (bcw s' N W dl)) (nI (l8 + 1)) := by
  have hW := sb.2.2.2.2.2.2.1
  have b4 : bcw s N W dl ≤ W := bcn_le _ W 0
  have hi := smod_lt (x := x) hb
  obtain ⟨w, iw, _, hw, bt⟩ := ith_s (bw s N W dl) W (x - x / bcw s N W dl * bcw s N W dl) 0 hi
  rw [Nat.zero_add] at hw
  unfold bw at bt
  obtain ⟨q, pos⟩ := Option.isSome_iff_exists.mp bt
  obtain ⟨m0, hq, _⟩ := busy_m sb ss pos
  obtain ⟨g', v', s', X, M, ss', ml, sf⟩ := SS_step sb ss hw pos
  refine ⟨w, q, g', v', s', hw, iw, pos, M, ss', ml, sf, ?_⟩
  have B := busyWorker_L_e sb ss W FU 0 (x - x / bcw s N W dl * bcw s N W dl) (by omega) (by rw [FU_s]; omega) (by omega) iw
  conv => lhs; unfold XU_go_L22
  rw [lit 250, if_neg (show ¬ nI 250 ≤ nI l8 from nI_ge (by omega) (by omega)), itp (nle0 (show bcw s N W dl < 2 ^ 31 by omega)), if_neg (by omega), show nz (nI (bcw s N W dl)) = true from decide_eq_true (nI_ne0 hb (by omega)), gd_t, smod_e hx hb (by omega)]
  unfold XU_busyWorker
  rw [← nI_0, B, b1_s, X, b1_s, busyWorkers_e sb ss', b1_s, nI_1, sdn_e hx]
theorem go_mixes (sb : SB P Q N S W dl T mx g0 v0) : ∀ (fu fu2 x l8 : Nat) (g v : sd_H) (s : Nat → Option (Nat × Nat)), SS P Q N S W dl T mx g0 v0 g v s → x < 64 → sm (fun t => mz (s t)) N + l8 ≤ 250 → sm (fun t => mz (s t)) N < fu → sm (fun t => mz (s t)) N < fu2 →
    ∃ g' v' s', SS P Q N S W dl T mx g0 v0 g' v' s' ∧ XU_go_L22 fu g (nI x) (nI (bcw s N W dl)) (nI l8) = XU_copyOut g' ∧ YM_mixes_L49 fu2 v (nI W) (nI dl) (nI x) (nI (bcw s N W dl)) = b1 (YM_copiesOut v') (fun h10 => some (h10, h10.1 126 34))
  | 0, _, _, _, _, _, _, _, _, _, h, _ => absurd h (Nat.not_lt_zero _)
  | _, 0, _, _, _, _, _, _, _, _, _, h => absurd h (Nat.not_lt_zero _)
  | fu + 1, fu2 + 1, x, l8, g, v, s, ss, hx, hm, h1, h2 => by
    have hW := sb.2.2.2.2.2.2.1
    have b4 : bcw s N W dl ≤ W := bcn_le _ W 0
    by_cases hb : bcw s N W dl = 0
    · refine ⟨g, v, s, ss, ?_, ?_⟩
      · unfold XU_go_L22 XU_go_B73
        rw [hb, if_pos (show nI 0 ≤ 0 by decide)]
        have e : b1 (XU_copyOut g) (fun h7 => some h7) = XU_copyOut g := by
          cases XU_copyOut g <;> rfl
        rw [e]
        split <;> rfl
      · unfold YM_mixes_L49
        rw [hb, if_pos (show nI 0 ≤ 0 by decide)]
    · obtain ⟨w, q, g1, v1, s1, hw, iw, pos, M, ss1, ml, sf, X⟩ := go_step (fu := fu) (x := x) (l8 := l8) sb ss hx (by omega) hm
      obtain ⟨g', v', s', ss', X', M'⟩ := go_mixes sb fu fu2 (sdn x) (l8 + 1) g1 v1 s1 ss1 (sdn_lt x) (by omega) (by omega) (by omega)
      have hi := smod_lt (x := x) (b := bcw s N W dl) (by omega)
      refine ⟨g', v', s', ss', X.trans X', ?_⟩
      have F := mixes_find sb ss hx (K := YM_mixes_L49 fu2) (l7 := -1) W FU 0 (x - x / bcw s N W dl * bcw s N W dl) (by omega) (by rw [FU_s]; omega) (by omega) iw
      conv => lhs; unfold YM_mixes_L49
      rw [itp (nle0 (show bcw s N W dl < 2 ^ 31 by omega)), if_neg hb, show nz (nI (bcw s N W dl)) = true from decide_eq_true (nI_ne0 (by omega) (by omega)), gd_t, smod_e hx (by omega) (by omega), ← nI_0, F, pos]
      show b1 (YM_steps v (nI (tq N dl q))) _ = _
      rw [M, b1_s, left_e sb ss1, b1_s]
      exact M'
end
