/-! ===== who does what: the turns of workers ===== -/
theorem dn_t {v v0 : sd_H} (h7 : v.1 127 = v0.1 127) (h8 : v.1 128 = v0.1 128) (h4 : v.1 134 = v0.1 134) (h5 : v.1 135 = v0.1 135) (h6 : v.1 136 = v0.1 136) (hs : v.1 126 7 = v0.1 126 7)
    (d : ∀ r, ¬ nb (v.1 127 r) = true → ∀ i, i < 24 → v.2.1 129 (24 * r + i) = v0.2.1 129 (24 * r + i)) : dn v = dn v0 := by
  refine funext fun k => funext fun i => ?_
  unfold dn
  rw [← h7, h8, h4, h5, h6, hs]
  by_cases a : i < 10
  · by_cases b : v.1 127 (v0.1 136 k).toNatClampNeg = 4
    · have e := d (v0.1 136 k).toNatClampNeg (by rw [b]; decide) i (by omega)
      rw [e]
    · rw [decide_eq_false b]
      simp only [Bool.false_and]
  · rw [decide_eq_false a]
    simp only [Bool.false_and, Bool.and_false]
/-- the first statement done in a turn, of m from k on -/
def fd (v : sd_H) (t : Nat) : Nat → Nat → Option Nat
  | _, 0 => none
  | k, m + 1 => if dn v k t = true then some k else fd v t (k + 1) m
theorem fd_c (v : sd_H) (t : Nat) : ∀ m k k', fd v t k m = some k' → k ≤ k' ∧ k' < k + m ∧ dn v k' t = true
  | 0, _, _, h => by cases h
  | m + 1, k, k', h => by
    unfold fd at h
    by_cases d : dn v k t = true
    · rw [if_pos d] at h
      cases h
      exact ⟨by omega, by omega, d⟩
    · rw [if_neg d] at h
      obtain ⟨a, b, c⟩ := fd_c v t m (k + 1) k' h
      exact ⟨by omega, by omega, c⟩
theorem XL_nextDone_L3_e {g v : sd_H} {P N S t : Nat} (ir : IR (g.1 (P + 1)) (g.1 (P + 2)) (g.2.1 (P + 3)) (v.1 127) (v.1 128) (v.2.1 129)) (iz : IZ (v.1 128)) (il : IL g v N S) (ht : t < 10) : ∀ m fu k, k + m = S → m < fu →
    XL_nextDone_L3 g fu (nI t) P (nI k) = some (nxI (fd v t k m))
  | _, 0, _, _, q => absurd q (Nat.not_lt_zero _)
  | 0, fu + 1, k, e, _ => by
    have hS := il.2.1
    unfold XL_nextDone_L3
    rw [il.2.2.2.2.1, if_pos (nI_le (by omega) (by omega))]
    rfl
  | m + 1, fu + 1, k, e, q => by
    have hS := il.2.1
    unfold XL_nextDone_L3 fd
    rw [il.2.2.2.2.1, if_neg (nI_ge (by omega) (by omega)), inB_n (by omega) (by omega), gd_t, nI_clamp (by omega), XA_isDone_e ir iz (il.2.2.2.2.2.2 k (by omega)) (by omega) hS il.2.2.2.2.2.1 ht, b1_s, itp (bi_0 _), nI_1]
    cases dn v k t
    · rw [if_pos rfl, if_neg (by decide)]
      exact XL_nextDone_L3_e ir iz il ht m fu (k + 1) (by omega) (by omega)
    · rfl
theorem XL_nextDone_e {g v : sd_H} {P N S t k : Nat} (ir : IR (g.1 (P + 1)) (g.1 (P + 2)) (g.2.1 (P + 3)) (v.1 127) (v.1 128) (v.2.1 129)) (iz : IZ (v.1 128)) (il : IL g v N S) (ht : t < 10) (hk : k ≤ S) : XL_nextDone g (nI t) (nI k) P = some (nxI (fd v t k (S - k))) := by
  unfold XL_nextDone
  exact XL_nextDone_L3_e ir iz il ht (S - k) FU k (by omega) (by have := il.2.1; rw [FU_s]; omega)
/-- how far a turn is: the item that is next -/
def pt : Option Nat → Int32
  | none => -1
  | some k => nI (10 * k)
theorem YM_firstFrom_L10_e {g v : sd_H} {N S t k : Nat} (iz : IZ (v.1 128)) (il : IL g v N S) (ht : t < 10) : ∀ m fu (o : Option Nat), k + m ≤ S → m < fu →
    YM_firstFrom_L10 v fu (nI k) (nI t) (pt o) (nI (k + m) - 1) = some (pt (match fd v t k m with | none => o | some x => some x))
  | _, 0, _, _, q => absurd q (Nat.not_lt_zero _)
  | 0, fu + 1, o, e, _ => by
    have hS := il.2.1
    unfold YM_firstFrom_L10
    rw [if_pos]
    · rfl
    · rw [Int32.lt_iff_toInt_lt, Nat.add_zero]
      cases k with
      | zero => decide
      | succ l =>
        rw [nI_pred, nI_toInt (by omega), nI_toInt (by omega)]
        omega
  | m + 1, fu + 1, o, e, q => by
    have hS := il.2.1
    have key : ∀ m k, fd v t k (m + 1) = match fd v t k m with | none => (if dn v (k + m) t = true then some (k + m) else none) | some g => some g := by
      intro m
      induction m with
      | zero =>
        intro k
        rw [Nat.add_zero]
        unfold fd fd
        rfl
      | succ m ih =>
        intro k
        have a : fd v t k (m + 1 + 1) = if dn v k t = true then some k else fd v t (k + 1) (m + 1) := rfl
        have b : fd v t k (m + 1) = if dn v k t = true then some k else fd v t (k + 1) m := rfl
        rw [a, b, ih (k + 1)]
        by_cases c : dn v k t = true
        · rw [if_pos c, if_pos c]
        · rw [if_neg c, if_neg c, show k + 1 + m = k + (m + 1) by omega]
    have rec_ := fun o => YM_firstFrom_L10_e (k := k) iz il ht m fu o (by omega) (by omega)
    unfold YM_firstFrom_L10 YM_firstFrom_B35
    rw [show k + (m + 1) = (k + m) + 1 by omega, nI_pred, if_neg (nI_nlt (by omega) (by omega)), YM_isDone_e iz (il.2.2.2.2.2.2 (k + m) (by omega)) (by omega) hS il.2.2.2.2.2.1 ht, b1_s, itp (bi_0 _), key, ← Int32.sub_eq_add_neg]
    by_cases c : dn v (k + m) t = true
    · have r := rec_ (some (k + m))
      rw [if_neg (by rw [c]; decide), if_pos c, show 10 * nI (k + m) = nI (10 * (k + m)) by rw [lit 10, pk_mul]]
      rw [show pt (some (k + m)) = nI (10 * (k + m)) from rfl] at r
      rw [r]
      cases fd v t k m <;> rfl
    · rw [if_pos (Bool.eq_false_iff.mpr c), if_neg c, rec_ o]
      cases fd v t k m <;> rfl
theorem YM_firstFrom_e {g v : sd_H} {N S t k : Nat} (iz : IZ (v.1 128)) (il : IL g v N S) (ht : t < 10) (hk : k ≤ S) : YM_firstFrom v (nI k) (nI t) = some (pt (fd v t k (S - k))) := by
  unfold YM_firstFrom
  have e := YM_firstFrom_L10_e (k := k) iz il ht (S - k) FU none (by omega) (by have := il.2.1; rw [FU_s]; omega)
  rw [show k + (S - k) = S by omega] at e
  rw [il.2.2.2.2.2.1, show (-1 : Int32) = pt none from rfl, e]
  cases fd v t k (S - k) <;> rfl
/-- the worker of a turn -/
def wk1 (N W dl t : Nat) : Nat := if dl = 1 then t / ((N + W - 1) / W) else t % W
/-- the turn at a place in the order -/
def tq (N dl q : Nat) : Nat := if dl = 2 then N - 1 - q else q
theorem tq_lt {N dl q : Nat} (h : q < N) : tq N dl q < N := by
  unfold tq
  split <;> omega
theorem tq_inj {N dl q q' : Nat} (h : q < N) (h' : q' < N) (e : tq N dl q = tq N dl q') : q = q' := by
  unfold tq at e
  split at e <;> omega
theorem tq_of {N dl t : Nat} (h : t < N) : ∃ q, q < N ∧ tq N dl q = t := by
  unfold tq
  by_cases c : dl = 2
  · exact ⟨N - 1 - t, by omega, by rw [if_pos c]; omega⟩
  · exact ⟨t, h, by rw [if_neg c]⟩
theorem share_pos {N W : Nat} (hN : 0 < N) (hW : 1 ≤ W) : 0 < (N + W - 1) / W := Nat.div_pos (by omega) (by omega)
theorem XU_workerOf_e {g : sd_H} {N W dl t : Nat} (e6 : g.1 6 1 = nI N) (e9 : g.1 100 9 = nI W) (e10 : g.1 100 10 = nI dl) (hN : N ≤ 10) (h1 : 1 ≤ W) (hW : W ≤ 4) (hd : dl ≤ 2) (ht : t < N) : XU_workerOf g (nI t) = some (nI (wk1 N W dl t)) := by
  have sp := share_pos (N := N) (W := W) (by omega) h1
  have sl : (N + W - 1) / W ≤ 20 := Nat.le_trans (Nat.div_le_self _ _) (by omega)
  unfold XU_workerOf wk1
  rw [e6, e9, e10, show nz (nI W) = true from decide_eq_true (nI_ne0 (by omega) (by omega)), gd_t, gd_t, itp (show (nI dl = 1) = (dl = 1) from nI_eqI (b := 1) (by omega) (by omega)), nI_add, nI_m1 (by omega), pk_div (by omega) (by omega) (by omega), if_neg (nI_ne0 sp (by omega)), show nz (nI ((N + W - 1) / W)) = true from decide_eq_true (nI_ne0 sp (by omega)), gd_t, pk_div (by omega) sp (by omega), pk_rem (by omega) (by omega) (by omega)]
  split <;> rfl
/-- the first place from q on, of m -/
def fp (p : Nat → Bool) : Nat → Nat → Option Nat
  | _, 0 => none
  | q, m + 1 => if p q = true then some q else fp p (q + 1) m
theorem fps_c (p : Nat → Bool) : ∀ m q, (fp p q m = none ∧ ∀ i, q ≤ i → i < q + m → p i = false) ∨ ∃ i, fp p q m = some i ∧ q ≤ i ∧ i < q + m ∧ p i = true ∧ ∀ i', q ≤ i' → i' < i → p i' = false
  | 0, q => Or.inl ⟨rfl, fun i h1 h2 => absurd h2 (by omega)⟩
  | m + 1, q => by
    unfold fp
    by_cases c : p q = true
    · rw [if_pos c]
      exact Or.inr ⟨q, rfl, by omega, by omega, c, fun i h1 h2 => absurd h2 (by omega)⟩
    · rw [if_neg c]
      have c0 := Bool.eq_false_iff.mpr c
      rcases fps_c p m (q + 1) with ⟨h1, h2⟩ | ⟨i, h1, h2, h3, h4, h5⟩
      · refine Or.inl ⟨h1, fun i i1 i2 => ?_⟩
        by_cases e : i = q
        · rw [e]
          exact c0
        · exact h2 i (by omega) (by omega)
      · refine Or.inr ⟨i, h1, by omega, by omega, h4, fun i' i1 i2 => ?_⟩
        by_cases e : i' = q
        · rw [e]
          exact c0
        · exact h5 i' (by omega) (by omega)
/-- a worker comes to the next of its turns -/
def en (g : sd_H) (v : sd_H) (N S dl w : Nat) : Option Nat → sd_H
  | none => wI g 104 w (-1)
  | some q => wI (wI (wI (wI g 104 w (-1)) 104 w (nI (tq N dl q))) 105 w (nxI (fd v (tq N dl q) 0 S))) 106 w 0
/-- turns of a worker in which something is done -/
def pw (v : sd_H) (N S W dl w q : Nat) : Bool := decide (wk1 N W dl (tq N dl q) = w) && (fd v (tq N dl q) 0 S).isSome
theorem XU_enter_L24_e {P Q0 N S W dl w : Nat} {g g0 v : sd_H} (hP : P = 1 ∨ P = 110 ∨ P = 115) (s2 : g.2.2 0 = some P) (ir : IR (g.1 (P + 1)) (g.1 (P + 2)) (g.2.1 (P + 3)) (v.1 127) (v.1 128) (v.2.1 129)) (iz : IZ (v.1 128)) (il : IL g v N S) (e9 : g.1 100 9 = nI W) (e10 : g.1 100 10 = nI dl) (h1 : 1 ≤ W) (hW : W ≤ 4) (hd : dl ≤ 2) (hw : w < W) :
    ∀ m fu q, q + m = N → m < fu → XU_enter_L24 fu g (nI w) (if dl = 2 then -1 else 1) (if dl = 2 then nI (N - q) - 1 else nI q) =
      some (match fp (pw v N S W dl w) q m with | none => g | some q' => wI (wI (wI g 104 w (nI (tq N dl q'))) 105 w (nxI (fd v (tq N dl q') 0 S))) 106 w 0)
  | _, 0, _, _, q => absurd q (Nat.not_lt_zero _)
  | 0, fu + 1, q, e, _ => by
    have hN := il.1
    unfold XU_enter_L24
    by_cases c : dl = 2
    · rw [if_pos c, if_pos c, show N - q = 0 by omega, if_pos (by decide)]
      rfl
    · rw [if_neg c, if_neg c, if_neg (nI_pos (by omega)), il.2.2.1, if_pos (nI_le (by omega) (by omega))]
      rfl
  | m + 1, fu + 1, q, e, hq => by
    have hN := il.1
    have ht : tq N dl q < N := tq_lt (by omega)
    have rec_ := XU_enter_L24_e (Q0 := Q0) (g0 := g0) hP s2 ir iz il e9 e10 h1 hW hd hw m fu (q + 1) (by omega) (by omega)
    have eq : (if dl = 2 then nI (N - q) - 1 else nI q) = nI (tq N dl q) := by
      unfold tq
      by_cases c : dl = 2
      · rw [if_pos c, if_pos c, nI_m1 (by omega)]
        exact congrArg nI (by omega)
      · rw [if_neg c, if_neg c]
    have en' : nI (tq N dl q) + (if dl = 2 then -1 else 1) = (if dl = 2 then nI (N - (q + 1)) - 1 else nI (q + 1)) := by
      unfold tq
      by_cases c : dl = 2
      · rw [if_pos c, if_pos c, if_pos c, ← Int32.sub_eq_add_neg, show N - 1 - q = N - (q + 1) by omega]
      · rw [if_neg c, if_neg c, if_neg c, nI_1]
    rw [eq]
    have pe : fp (pw v N S W dl w) q (m + 1) = if pw v N S W dl w q = true then some q else fp (pw v N S W dl w) (q + 1) m := rfl
    have pwe : pw v N S W dl w q = (decide (wk1 N W dl (tq N dl q) = w) && (fd v (tq N dl q) 0 S).isSome) := rfl
    have nd : XL_nextDone g (nI (tq N dl q)) 0 P = some (nxI (fd v (tq N dl q) 0 (S - 0))) := XL_nextDone_e (k := 0) ir iz il (Nat.lt_of_lt_of_le ht hN) (Nat.zero_le _)
    rw [pe]
    unfold XU_enter_L24 XU_enter_B69
    rw [if_neg (nI_pos (by omega)), il.2.2.1, if_neg (nI_ge (by omega) (by omega)), XU_workerOf_e il.2.2.1 e9 e10 hN h1 hW hd ht, b1_s, op_e s2 (P_sh hP), nd, b1_s, Nat.sub_zero, en']
    have wle : wk1 N W dl (tq N dl q) < 2 ^ 31 := by
      unfold wk1
      split
      · exact Nat.lt_of_le_of_lt (Nat.div_le_self _ _) (by omega)
      · exact Nat.lt_of_le_of_lt (Nat.mod_le _ _) (by omega)
    rw [itp (nI_eqI (a := wk1 N W dl (tq N dl q)) (b := w) wle (by omega))]
    by_cases c : wk1 N W dl (tq N dl q) = w
    · rw [decide_eq_true c, Bool.true_and] at pwe
      rw [if_pos c]
      cases z : fd v (tq N dl q) 0 S with
      | none =>
        have pf : pw v N S W dl w q = false := by
          rw [pwe, z]
          rfl
        rw [if_pos (show nxI none = -1 from rfl), if_neg (show ¬ pw v N S W dl w q = true by rw [pf]; decide)]
        exact rec_
      | some k =>
        have fk := (fd_c v (tq N dl q) S 0 k z).2.1
        have := il.2.1
        have pf : pw v N S W dl w q = true := by
          rw [pwe, z]
          rfl
        rw [if_neg (show ¬ nxI (some k) = -1 from nm1 (k := k) (by omega)), if_pos pf, inB_n (show w < 4 by omega) (by omega), gd_t, hb_s, gd_t, hb_s, gd_t, hb_s, nI_clamp (by omega)]
        show some _ = some (wI (wI (wI g 104 w (nI (tq N dl q))) 105 w (nxI (fd v (tq N dl q) 0 S))) 106 w 0)
        rw [z]
    · rw [decide_eq_false c, Bool.false_and] at pwe
      rw [if_neg c, if_pos rfl, if_neg (show ¬ pw v N S W dl w q = true by rw [pwe]; decide)]
      exact rec_
theorem XU_enter_e {P N S W dl w q : Nat} {g v : sd_H} (hP : P = 1 ∨ P = 110 ∨ P = 115) (s2 : g.2.2 0 = some P) (ir : IR (g.1 (P + 1)) (g.1 (P + 2)) (g.2.1 (P + 3)) (v.1 127) (v.1 128) (v.2.1 129)) (iz : IZ (v.1 128)) (il : IL g v N S) (e9 : g.1 100 9 = nI W) (e10 : g.1 100 10 = nI dl) (h1 : 1 ≤ W) (hW : W ≤ 4) (hd : dl ≤ 2) (hw : w < W) (hq : q ≤ N) :
    XU_enter g (nI w) (if dl = 2 then nI (N - q) - 1 else nI q) = some (en g v N S dl w (fp (pw v N S W dl w) q (N - q))) := by
  have hN := il.1
  have pn : ¬ P + 1 = 104 ∧ ¬ P + 2 = 104 := by omega
  have il' : IL (wI g 104 w (-1)) v N S := IL_c (fun c a b => by simp (disch := omega) only [wI_d, wD_i, fI_d, fD_i, wI_eq, wD_eq, wI_ne, wD_ne, fI_ne, fD_ne, wI_ns, wD_ns, fI_eq, fD_eq, fI_ns, fD_ns]) rfl rfl rfl rfl rfl rfl rfl rfl rfl rfl rfl il
  have l := XU_enter_L24_e (Q0 := 0) (g0 := g) (g := wI g 104 w (-1)) hP s2 (by rw [wI_ne pn.1, wI_ne pn.2]; exact ir) iz il' (by simp (disch := omega) only [wI_d, wD_i, fI_d, fD_i, wI_eq, wD_eq, wI_ne, wD_ne, fI_ne, fD_ne, wI_ns, wD_ns, fI_eq, fD_eq, fI_ns, fD_ns]; exact e9) (by simp (disch := omega) only [wI_d, wD_i, fI_d, fD_i, wI_eq, wD_eq, wI_ne, wD_ne, fI_ne, fD_ne, wI_ns, wD_ns, fI_eq, fD_eq, fI_ns, fD_ns]; exact e10) h1 hW hd hw (N - q) FU q (by omega) (by rw [FU_s]; omega)
  unfold XU_enter XU_enter_B13
  rw [e10, itp (show (nI dl = 2) = (dl = 2) from nI_eqI (b := 2) (by omega) (by omega)), inB_n (show w < 4 by omega) (by omega), gd_t, gd_t, hb_s, hb_s, nI_clamp (by omega)]
  by_cases c : dl = 2
  · rw [if_pos c] at l
    rw [if_pos c, l]
    unfold en
    cases fp (pw v N S W dl w) q (N - q) <;> rfl
  · rw [if_neg c] at l
    rw [if_neg c, l]
    unfold en
    cases fp (pw v N S W dl w) q (N - q) <;> rfl
/-! the model's turn of a worker -/
/-- the last of the first n that is asked -/
def lo (p : Nat → Bool) (c : Nat → Nat) : Nat → Option Nat
  | 0 => none
  | n + 1 => if p (c n) = true then some (c n) else lo p c n
/-- a turn of a worker that is not at its end -/
def tl (v : sd_H) (N W dl w t : Nat) : Bool := decide (wk1 N W dl t = w) && !decide (v.1 152 t = -1)
theorem YM_turnOf_L18_e {v : sd_H} {N W dl w : Nat} (e6 : v.1 126 6 = nI N) (hN : N ≤ 10) (h1 : 1 ≤ W) (hW : W ≤ 4) (hd : dl ≤ 2) (hw : w < W) : ∀ m fu n, n + m = N → m < fu →
    YM_turnOf_L18 v fu (nI w) (nI W) (nI dl) (nI ((N + W - 1) / W)) (nxI (lo (tl v N W dl w) (fun l => tq N dl (N - 1 - l)) n)) (nI n) = some (nxI (lo (tl v N W dl w) (fun l => tq N dl (N - 1 - l)) N))
  | _, 0, _, _, q => absurd q (Nat.not_lt_zero _)
  | 0, fu + 1, n, e, _ => by
    obtain rfl : n = N := by omega
    unfold YM_turnOf_L18
    rw [e6, if_pos (nI_le (by omega) (by omega))]
  | m + 1, fu + 1, n, e, q => by
    have sp := share_pos (N := N) (W := W) (by omega) h1
    have sl : (N + W - 1) / W ≤ 20 := Nat.le_trans (Nat.div_le_self _ _) (by omega)
    have rec_ := YM_turnOf_L18_e (w := w) e6 hN h1 hW hd hw m fu (n + 1) (by omega) (by omega)
    have et : (if dl = 2 then nI n else nI (N - 1 - n)) = nI (tq N dl (N - 1 - n)) := by
      unfold tq
      split
      · exact congrArg nI (by omega)
      · rfl
    have ht : tq N dl (N - 1 - n) < N := tq_lt (by omega)
    obtain ⟨t, et'⟩ : ∃ t, tq N dl (N - 1 - n) = t := ⟨_, rfl⟩
    rw [et'] at et ht
    have lo1 : lo (tl v N W dl w) (fun l => tq N dl (N - 1 - l)) (n + 1) = if tl v N W dl w t = true then some t else lo (tl v N W dl w) (fun l => tq N dl (N - 1 - l)) n := by
      show (if tl v N W dl w (tq N dl (N - 1 - n)) = true then some (tq N dl (N - 1 - n)) else _) = _
      rw [et']
    rw [lo1] at rec_
    have B : YM_turnOf_B46 v (YM_turnOf_L18 v fu) (nI w) (nI W) (nI dl) (nI ((N + W - 1) / W)) (nxI (lo (tl v N W dl w) (fun l => tq N dl (N - 1 - l)) n)) (nI n) (nI t) = some (nxI (lo (tl v N W dl w) (fun l => tq N dl (N - 1 - l)) N)) := by
      unfold YM_turnOf_B46 YM_turnOf_B83 YM_turnOf_B106 YM_turnOf_B108
      rw [show nz (nI W) = true from decide_eq_true (nI_ne0 (by omega) (by omega)), show nz (nI ((N + W - 1) / W)) = true from decide_eq_true (nI_ne0 sp (by omega)), gd_t, gd_t, itp (show (nI dl = 1) = (dl = 1) from nI_eqI (b := 1) (by omega) (by omega)), pk_div (by omega) sp (by omega), pk_rem (by omega) (by omega) (by omega), inB_n (show t < 10 by omega) (by omega), gd_t, nI_clamp (by omega), nI_1, if_neg (show ¬ (1 : Int32) = 0 by decide), if_pos (show (0 : Int32) = 0 from rfl),
        itp (nI_eqI (a := t / ((N + W - 1) / W)) (b := w) (Nat.lt_of_le_of_lt (Nat.div_le_self _ _) (by omega)) (by omega)), itp (nI_eqI (a := t % W) (b := w) (Nat.lt_of_le_of_lt (Nat.mod_le _ _) (by omega)) (by omega))]
      unfold tl wk1 at rec_
      have fin : ∀ z : Nat, (if dl = 1 then t / ((N + W - 1) / W) else t % W) = z → (if z = w then (if v.1 152 t = -1 then YM_turnOf_L18 v fu (nI w) (nI W) (nI dl) (nI ((N + W - 1) / W)) (nxI (lo (tl v N W dl w) (fun l => tq N dl (N - 1 - l)) n)) (nI (n + 1)) else YM_turnOf_L18 v fu (nI w) (nI W) (nI dl) (nI ((N + W - 1) / W)) (nI t) (nI (n + 1))) else YM_turnOf_L18 v fu (nI w) (nI W) (nI dl) (nI ((N + W - 1) / W)) (nxI (lo (tl v N W dl w) (fun l => tq N dl (N - 1 - l)) n)) (nI (n + 1))) = some (nxI (lo (tl v N W dl w) (fun l => tq N dl (N - 1 - l)) N)) := fun z hz => by
        rw [hz] at rec_
        by_cases c : z = w
        · rw [if_pos c]
          rw [decide_eq_true c, Bool.true_and] at rec_
          by_cases d : v.1 152 t = -1
          · rw [if_pos d]
            rw [decide_eq_true d, if_neg (by decide)] at rec_
            exact rec_
          · rw [if_neg d]
            rw [decide_eq_false d, if_pos (by decide)] at rec_
            exact rec_
        · rw [if_neg c]
          rw [decide_eq_false c, Bool.false_and, if_neg (by decide)] at rec_
          exact rec_
      by_cases c : dl = 1
      · rw [if_pos c]
        exact fin _ (if_pos c)
      · rw [if_neg c]
        exact fin _ (if_neg c)
    unfold YM_turnOf_L18
    rw [e6, if_neg (nI_ge (by omega) (by omega)), itp (show (nI dl = 2) = (dl = 2) from nI_eqI (b := 2) (by omega) (by omega)), nI_m1 (by omega), pk_sub (by omega)]
    by_cases c : dl = 2
    · rw [if_pos c] at et
      have et0 : n = t := (nI_eq (by omega) (by omega)).mp et
      rw [if_pos c]
      have B0 := B
      rw [show nI t = nI n from congrArg nI et0.symm] at B0
      exact B0
    · rw [if_neg c] at et
      rw [if_neg c, et]
      exact B
theorem YM_turnOf_e {v : sd_H} {N W dl w : Nat} (e6 : v.1 126 6 = nI N) (hN : N ≤ 10) (h1 : 1 ≤ W) (hW : W ≤ 4) (hd : dl ≤ 2) (hw : w < W) : YM_turnOf v (nI w) (nI W) (nI dl) = some (nxI (lo (tl v N W dl w) (fun l => tq N dl (N - 1 - l)) N)) := by
  unfold YM_turnOf
  rw [show nz (nI W) = true from decide_eq_true (nI_ne0 (by omega) (by omega)), gd_t, e6, nI_add, nI_m1 (by omega), pk_div (by omega) (by omega) (by omega)]
  exact YM_turnOf_L18_e e6 hN h1 hW hd hw N FU 0 (by omega) (by rw [FU_s]; omega)
/-- by places in the order -/
theorem lo_pos (p : Nat → Bool) (N dl : Nat) : ∀ n, n ≤ N → lo p (fun l => tq N dl (N - 1 - l)) n = (fp (fun q => p (tq N dl q)) (N - n) n).map (tq N dl)
  | 0, _ => rfl
  | n + 1, h => by
    have e : lo p (fun l => tq N dl (N - 1 - l)) (n + 1) = if p (tq N dl (N - 1 - n)) = true then some (tq N dl (N - 1 - n)) else lo p (fun l => tq N dl (N - 1 - l)) n := rfl
    have e2 : fp (fun q => p (tq N dl q)) (N - (n + 1)) (n + 1) = if p (tq N dl (N - (n + 1))) = true then some (N - (n + 1)) else fp (fun q => p (tq N dl q)) (N - (n + 1) + 1) n := rfl
    rw [e, lo_pos p N dl n (by omega), e2, show N - (n + 1) = N - 1 - n by omega, show N - 1 - n + 1 = N - n by omega]
    by_cases c : p (tq N dl (N - 1 - n)) = true
    · rw [if_pos c, if_pos c]
      rfl
    · rw [if_neg c, if_neg c]
theorem turnOf_pos {v : sd_H} {N W dl w : Nat} (e6 : v.1 126 6 = nI N) (hN : N ≤ 10) (h1 : 1 ≤ W) (hW : W ≤ 4) (hd : dl ≤ 2) (hw : w < W) : YM_turnOf v (nI w) (nI W) (nI dl) = some (nxI ((fp (fun q => tl v N W dl w (tq N dl q)) 0 N).map (tq N dl))) := by
  rw [YM_turnOf_e e6 hN h1 hW hd hw, lo_pos _ N dl N (Nat.le_refl _), Nat.sub_self]
