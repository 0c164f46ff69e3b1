/-! ===== the sets are words of 24 bits ===== -/
def W24 (x : Int32) : Prop := ∃ m, m < 2 ^ 24 ∧ x = nI m
theorem W24_0 : W24 0 := ⟨0, by decide, rfl⟩
theorem W24_or {x y : Int32} (h : W24 x) (h' : W24 y) : W24 (x ||| y) := by
  obtain ⟨m, hm, rfl⟩ := h
  obtain ⟨n, hn, rfl⟩ := h'
  exact ⟨m ||| n, Nat.or_lt_two_pow hm hn, nI_or m n⟩
theorem nI_of_any (y : Int32) : y = nI y.toBitVec.toNat := by
  refine Int32.toBitVec_inj.mp (BitVec.eq_of_toNat_eq ?_)
  rw [pk_tn y.toBitVec.isLt]
theorem W24_and {x : Int32} (h : W24 x) (y : Int32) : W24 (x &&& y) := by
  obtain ⟨m, hm, rfl⟩ := h
  rw [nI_of_any y, nI_and]
  exact ⟨_, Nat.lt_of_le_of_lt Nat.and_le_left hm, rfl⟩
theorem W24_bt {v : sd_H} (iz : IZ (v.1 128)) {e t j r : Nat} (hr : r < 6) (er : gr v e = r) : W24 (bt v e t j) := by
  unfold bt
  rw [er]
  by_cases c : hp v r (pl v e t j) = true
  · rw [if_pos c]
    obtain ⟨i, z, h1, h2, h3, h4⟩ := hp_in iz hr c
    rw [h3]
    have : ∀ i, i < 24 → (1 : Int32) <<< (nI i &&& 31) = nI (2 ^ i) := by decide +kernel
    exact ⟨2 ^ i, Nat.pow_lt_pow_right (by decide) (by omega), this i (by omega)⟩
  · rw [if_neg c]
    exact W24_0
theorem W24_up {A : Nat → Int32} {i : Nat} {x : Int32} (h : ∀ a, W24 (A a)) (hx : W24 x) (a : Nat) : W24 (up A i x a) := by
  unfold up
  split
  · exact hx
  · exact h a
theorem W24_rd {g v : sd_H} (iz : IZ (v.1 128)) {k w t j : Nat} {C A : Nat → Int32} (ik : ILk g v k) (hw : w < 3) (h : ∀ a, W24 (A a)) : ∀ a, W24 (q_rd v (3 * k + w) t j C A a) := by
  unfold q_rd
  by_cases l : lk v (3 * k + w) = true
  · rw [if_pos l]
    rcases ref_row ik hw with ⟨c, _⟩ | ⟨r, hr, c, gc⟩
    · unfold lk at l
      rw [c, show (!decide ((-1 : Int32) = -1)) = false by decide, Bool.false_and] at l
      exact absurd l (by decide)
    · have b := W24_bt iz (e := 3 * k + w) (t := t) (j := j) hr gc
      exact fun a => W24_up (fun a => W24_up h (W24_or (h _) b) a) (W24_or (h _) (W24_and b _)) a
  · rw [if_neg l]
    exact h
theorem W24_it {g v : sd_H} (iz : IZ (v.1 128)) {k t j : Nat} (ik : ILk g v k) (s : ((Nat → Int32) × (Nat → Int32) × Bool × Bool)) (h : ∀ a, W24 (s.1 a)) : ∀ a, W24 ((q_it v k t j s).1 a) := by
  have h1 := W24_rd iz (t := t) (j := j) (C := s.2.1) ik (show 1 < 3 by omega) h
  have h2 := W24_rd iz (t := t) (j := j) (C := s.2.1) ik (show 2 < 3 by omega) h1
  obtain ⟨r, hr, c, gc⟩ := (ref_row ik (show 0 < 3 by omega)).resolve_left (fun z => z.2 rfl)
  rw [Nat.add_zero] at c gc
  have b := W24_bt iz (e := 3 * k) (t := t) (j := j) hr gc
  unfold q_it
  dsimp only
  split
  · split
    · split
      · have h3 : ∀ a, W24 (up (q_rd v (3 * k + 2) t j s.2.1 (q_rd v (3 * k + 1) t j s.2.1 s.1)) (24 * t + 6 + gr v (3 * k)) (q_rd v (3 * k + 2) t j s.2.1 (q_rd v (3 * k + 1) t j s.2.1 s.1) (24 * t + 6 + gr v (3 * k)) ||| bt v (3 * k) t j) a) := fun a => W24_up h2 (W24_or (h2 _) b) a
        dsimp only
        split
        · exact h3
        · split
          · exact h3
          · exact fun a => W24_up h3 (W24_or (h3 _) b) a
      · exact h2
    · exact h2
  · exact h1
theorem W24_its {g v : sd_H} (iz : IZ (v.1 128)) {k t : Nat} (ik : ILk g v k) : ∀ n j (s : ((Nat → Int32) × (Nat → Int32) × Bool × Bool)), (∀ a, W24 (s.1 a)) → ∀ a, W24 ((q_its v k t n j s).1 a)
  | 0, _, _, h => h
  | n + 1, j, s, h => by
    unfold q_its
    dsimp only
    have h1 := W24_it iz (t := t) (j := j) ik s h
    split
    · exact W24_its iz ik n (j + 1) _ h1
    · exact h1
theorem W24_sts {g v : sd_H} (iz : IZ (v.1 128)) {N S t : Nat} (il : IL g v N S) : ∀ n k (s : ((Nat → Int32) × (Nat → Int32) × Bool × Bool)), k + n ≤ S → (∀ a, W24 (s.1 a)) → ∀ a, W24 ((q_sts v t n k s).1 a)
  | 0, _, _, _, h => h
  | n + 1, k, s, hk, h => by
    unfold q_sts
    dsimp only
    have h1 : ∀ a, W24 ((if dn v k t = true then q_its v k t (v.1 133 k).toNatClampNeg 0 s else s).1 a) := by
      split
      · exact W24_its iz (il.2.2.2.2.2.2 k (by omega)) _ _ s h
      · exact h
    generalize (if dn v k t = true then q_its v k t (v.1 133 k).toNatClampNeg 0 s else s) = s1 at h1 ⊢
    split
    · exact W24_sts iz il n (k + 1) _ (by omega) h1
    · exact h1
theorem W24_tns {g v : sd_H} (iz : IZ (v.1 128)) {N S : Nat} (il : IL g v N S) : ∀ n t (A : Nat → Int32), (∀ a, W24 (A a)) → ∀ a, W24 (q_tns v n t A a)
  | 0, _, _, h => h
  | n + 1, t, A, h => by
    unfold q_tns
    refine W24_tns iz il n (t + 1) _ ?_
    unfold q_tn
    rw [il.2.2.2.2.2.1, nI_clamp (by have := il.2.1; omega)]
    exact W24_sts iz il S 0 _ (by omega) h
theorem W24_al {g v : sd_H} (iz : IZ (v.1 128)) {N S : Nat} (il : IL g v N S) (a : Nat) : W24 (q_al v a) := W24_tns iz il _ 0 _ (fun _ => W24_0) a
/-- a set of a row in a turn, as a number -/
def ws (v : sd_H) (s r t : Nat) : Nat := (q_al v (24 * t + 6 * s + r)).toBitVec.toNat
theorem ws_e {g v : sd_H} (iz : IZ (v.1 128)) {N S : Nat} (il : IL g v N S) (s r t : Nat) : q_al v (24 * t + 6 * s + r) = nI (ws v s r t) ∧ ws v s r t < 2 ^ 24 := by
  obtain ⟨m, hm, e⟩ := W24_al iz il (24 * t + 6 * s + r)
  have : ws v s r t = m := by
    unfold ws
    rw [e, pk_tn (by omega)]
  rw [this]
  exact ⟨e, hm⟩
/-- what stands where nothing is told -/
def QQ (g h : sd_H) : Prop := Iv g g ∧ g.2 = h.2 ∧ (∀ c, 127 ≤ c → c ≤ 142 → g.1 c = h.1 c) ∧ (g.1 150 = h.1 150 ∧ g.1 151 = h.1 151) ∧
  ∀ k, ¬ k = 22 → (k < 25 ∨ 28 < k) → g.1 126 k = h.1 126 k
theorem QQ_r {h : sd_H} (iv : Iv h h) : QQ h h := ⟨iv, rfl, fun _ _ _ => rfl, ⟨rfl, rfl⟩, fun _ _ _ => rfl⟩
theorem QQ_t {a b c : sd_H} (x : QQ a b) (y : QQ b c) : QQ a c := ⟨x.1, x.2.1.trans y.2.1, fun k h1 h2 => (x.2.2.1 k h1 h2).trans (y.2.2.1 k h1 h2), ⟨x.2.2.2.1.1.trans y.2.2.2.1.1, x.2.2.2.1.2.trans y.2.2.2.1.2⟩, fun k h1 h2 => (x.2.2.2.2 k h1 h2).trans (y.2.2.2.2 k h1 h2)⟩
theorem QQ_sl {g h : sd_H} (x : QQ g h) : SL g h := by
  obtain ⟨_, d, c, _, e⟩ := x
  exact ⟨dn_c (c 127 (by omega) (by omega)) (c 128 (by omega) (by omega)) (by rw [d]) (c 134 (by omega) (by omega)) (c 135 (by omega) (by omega)) (c 136 (by omega) (by omega)) (e 7 (by omega) (by omega)), c 127 (by omega) (by omega), c 128 (by omega) (by omega), c 132 (by omega) (by omega), c 133 (by omega) (by omega), c 137 (by omega) (by omega), c 138 (by omega) (by omega), c 139 (by omega) (by omega), c 140 (by omega) (by omega), e 6 (by omega) (by omega), e 7 (by omega) (by omega)⟩
theorem ws_c {g h : sd_H} (x : QQ g h) : ws g = ws h := by
  refine funext fun s => funext fun r => funext fun t => ?_
  unfold ws
  rw [q_al_c (QQ_sl x)]
theorem QQ_xf {g h : sd_H} (i : Iv g g) (x : XF g h) : QQ g h := ⟨i, x.2, fun c h1 h2 => x.1 c (by omega) (by omega), ⟨x.1 150 (by omega) (by omega), x.1 151 (by omega) (by omega)⟩, fun k _ _ => by rw [x.1 126 (by omega) (by omega)]⟩
theorem QQ_ma {g h : sd_H} {A : Nat → Int32} (i : Iv g g) (x : MA g h A) : QQ g h := ⟨i, x.2.2.1, fun c h1 h2 => x.1 c (by omega) (by omega) (by omega), ⟨x.1 150 (by omega) (by omega) (by omega), x.1 151 (by omega) (by omega) (by omega)⟩, fun k _ h2 => x.2.1 k (by omega)⟩
/-- a call that asks: x's, the model's -/
theorem EE_q {α : Type} {o : Option (sd_H × α)} {f : sd_H → Option (sd_H × α)} {h : sd_H} {a : α} (x : ∃ g, o = some (g, a) ∧ QQ g h) (y : ∀ g, QQ g h → ∃ w, f g = some (w, a) ∧ QQ w g) : EE o f := by
  obtain ⟨g, x1, x2⟩ := x
  obtain ⟨w, y1, y2⟩ := y g x2
  exact ⟨g, a, w, x1, y1, y2.1⟩
/-- the words of several turns together -/
def ort (w : Nat → Nat) : Nat → Nat
  | 0 => 0
  | n + 1 => ort w n ||| w n
theorem ort_lt {w : Nat → Nat} (h : ∀ n, w n < 2 ^ 24) : ∀ n, ort w n < 2 ^ 24
  | 0 => Nat.two_pow_pos _
  | n + 1 => Nat.or_lt_two_pow (ort_lt h n) (h n)
theorem ort_t (w : Nat → Nat) (j : Nat) : ∀ n, ((ort w n).testBit j = true) = (∃ i, i < n ∧ (w i).testBit j = true)
  | 0 => propext ⟨fun q => by
      rw [show ort w 0 = 0 from rfl, Nat.zero_testBit] at q
      exact absurd q (by decide), fun ⟨i, h, _⟩ => absurd h (Nat.not_lt_zero _)⟩
  | n + 1 => by
    show ((ort w n ||| w n).testBit j = true) = _
    rw [Nat.testBit_or, Bool.or_eq_true, ort_t w j n]
    refine propext ⟨fun q => ?_, fun ⟨i, h, q⟩ => ?_⟩
    · rcases q with ⟨i, h, q⟩ | q
      · exact ⟨i, by omega, q⟩
      · exact ⟨n, by omega, q⟩
    · by_cases e : i = n
      · exact Or.inr (e ▸ q)
      · exact Or.inl ⟨i, by omega, q⟩
/-- x's word -/
theorem FS_ws {g v : sd_H} {N S : Nat} (iz : IZ (v.1 128)) (il : IL v v N S) (f : FS g (q_al v)) {s r t : Nat} (hs : s < 4) (hr : r < 6) (ht : t < 10) : g.1 (58 + s) (t * 6 + r) = nI (ws v s r t) := by
  rw [f s (t * 6 + r) hs (by omega), show 24 * ((t * 6 + r) / 6) + 6 * s + (t * 6 + r) % 6 = 24 * t + 6 * s + r by omega]
  exact (ws_e iz il s r t).1
theorem e_tr (t r : Nat) : nI t * 6 + nI r = nI (t * 6 + r) := by rw [lit 6, pk_mul, nI_add]
theorem XY_cellsOf_L25_e {g v : sd_H} {N S : Nat} (iz : IZ (v.1 128)) (il : IL v v N S) (f : FS g (q_al v)) (e6 : g.1 6 1 = nI N) {s r : Nat} (hs : s < 4) (hr : r < 6) : ∀ m fu t, t + m = N → m < fu → XY_cellsOf_L25 g fu (nI s) (nI r) (nI (ort (ws v s r) t)) (nI t) = some (nI (ort (ws v s r) N))
  | _, 0, _, _, q => absurd q (Nat.not_lt_zero _)
  | 0, fu + 1, t, e, _ => by
    have hN := il.1
    unfold XY_cellsOf_L25
    rw [e6, if_pos (nI_le (by omega) (by omega)), show t = N by omega]
  | m + 1, fu + 1, t, e, q => by
    have hN := il.1
    unfold XY_cellsOf_L25
    rw [e6, if_neg (nI_ge (by omega) (by omega)), inB_n hs (by omega), gd_t, e_tr, inB_n (by omega) (by omega), gd_t, nI_clamp (by omega), nI_clamp (by omega), Nat.one_mul, FS_ws iz il f hs hr (by omega), nI_or, nI_1]
    exact XY_cellsOf_L25_e iz il f e6 hs hr m fu (t + 1) (by omega) (by omega)
/-- the word that is asked of -/
def cw (v : sd_H) (N s r : Nat) : Option Nat → Nat
  | none => ort (ws v s r) N
  | some t => ws v s r t
def tI : Option Nat → Int32
  | none => -1
  | some t => nI t
theorem cw_lt {g v : sd_H} {N S : Nat} (iz : IZ (v.1 128)) (il : IL g v N S) (s r : Nat) (o : Option Nat) : cw v N s r o < 2 ^ 24 := by
  cases o with
  | none => exact ort_lt (fun n => (ws_e iz il s r n).2) N
  | some t => exact (ws_e iz il s r t).2
theorem XY_cellsOf_e {g v : sd_H} {N S : Nat} (iz : IZ (v.1 128)) (il : IL v v N S) (f : FS g (q_al v)) (e6 : g.1 6 1 = nI N) {s r : Nat} (hs : s < 4) (hr : r < 6) (o : Option Nat) (ho : ∀ t, o = some t → t < N) : XY_cellsOf g (nI s) (nI r) (tI o) = some (nI (cw v N s r o)) := by
  have hN := il.1
  unfold XY_cellsOf
  cases o with
  | none =>
    rw [if_pos (show tI none = -1 from rfl)]
    exact XY_cellsOf_L25_e iz il f e6 hs hr N FU 0 (by omega) (by rw [FU_s]; omega)
  | some t =>
    have := ho t rfl
    rw [show tI (some t) = nI t from rfl, if_neg (nm1 (by omega)), inB_n hs (by omega), gd_t, e_tr, inB_n (by omega) (by omega), gd_t, nI_clamp (by omega), nI_clamp (by omega), Nat.one_mul, FS_ws iz il f hs hr (by omega)]
    rfl
/-! the model's word -/
theorem YM_bitsOfTurn_e {g v : sd_H} {N S : Nat} (iz : IZ (v.1 128)) (il : IL v v N S) (f : ∀ a, a < 240 → g.1 144 a = q_al v a) {s r t : Nat} (hs : s < 4) (hr : r < 6) (ht : t < 10) : YM_bitsOfTurn g (nI s) (nI r) (nI t) = some (nI (ws v s r t)) := by
  unfold YM_bitsOfTurn
  rw [show 24 * nI t + 6 * nI s + nI r = nI (24 * t + 6 * s + r) by rw [lit 24, lit 6, pk_mul, pk_mul, nI_add, nI_add], inB_n (by omega) (by omega), gd_t, nI_clamp (by omega), f _ (by omega), (ws_e iz il s r t).1]
theorem YM_bitsOfSet_L10_e {g v : sd_H} {N S : Nat} (iz : IZ (v.1 128)) (il : IL v v N S) (f : ∀ a, a < 240 → g.1 144 a = q_al v a) (e6 : g.1 126 6 = nI N) {s r : Nat} (hs : s < 4) (hr : r < 6) (o : Option Nat) (ho : ∀ t, o = some t → t < N) :
    ∀ m fu t, t + m = N → m < fu → YM_bitsOfSet_L10 fu g (nI s) (nI r) (tI o) (nI (match o with | none => ort (ws v s r) t | some i => if i < t then ws v s r i else 0)) (nI t) = some (g, nI (cw v N s r o))
  | _, 0, _, _, q => absurd q (Nat.not_lt_zero _)
  | 0, fu + 1, t, e, _ => by
    have hN := il.1
    obtain rfl : t = N := by omega
    unfold YM_bitsOfSet_L10
    rw [e6, if_pos (nI_le (by omega) (by omega))]
    cases o with
    | none => rfl
    | some i =>
      have := ho i rfl
      dsimp only
      rw [if_pos this]
      rfl
  | m + 1, fu + 1, t, e, q => by
    have hN := il.1
    have rec_ := YM_bitsOfSet_L10_e iz il f e6 hs hr o ho m fu (t + 1) (by omega) (by omega)
    unfold YM_bitsOfSet_L10 YM_bitsOfSet_B32 YM_bitsOfSet_B44
    rw [e6, if_neg (nI_ge (by omega) (by omega)), YM_bitsOfTurn_e iz il f hs hr (by omega), b1_s, nI_1]
    cases o with
    | none =>
      rw [if_pos (show tI none = -1 from rfl), nI_or]
      exact rec_
    | some i =>
      have := ho i rfl
      have ei : (nI i = nI t) = (i = t) := nI_eqI (by omega) (by omega)
      rw [show tI (some i) = nI i from rfl] at rec_ ⊢
      rw [if_neg (nm1 (by omega)), itp ei, nI_or]
      dsimp only at rec_ ⊢
      by_cases c : i = t
      · subst c
        rw [if_pos rfl, if_neg (Nat.lt_irrefl _), Nat.zero_or]
        rw [if_pos (Nat.lt_succ_self _)] at rec_
        exact rec_
      · rw [if_neg c, Int32.or_zero]
        by_cases d : i < t
        · rw [if_pos (show i < t + 1 by omega)] at rec_
          rw [if_pos d]
          exact rec_
        · rw [if_neg (show ¬ i < t + 1 by omega)] at rec_
          rw [if_neg d]
          exact rec_
theorem YM_bitsOfSet_e {v : sd_H} (iv : Iv v v) {N S : Nat} (il : IL v v N S) {s r : Nat} (hs : s < 4) (hr : r < 6) (o : Option Nat) (ho : ∀ t, o = some t → t < N) :
    ∃ w, YM_bitsOfSet v (nI s) (nI r) (tI o) = some (w, nI (cw v N s r o)) ∧ QQ w v := by
  obtain ⟨w, e, i, j⟩ := findsSets_e iv
  have l := YM_bitsOfSet_L10_e (g := w) iv.2.2.1 il i.2.2.2 (by rw [i.2.1 6 (by omega)]; exact il.2.2.2.1) hs hr o ho N FU 0 (by omega) (by have := il.1; rw [FU_s]; omega)
  refine ⟨w, ?_, QQ_ma j i⟩
  unfold YM_bitsOfSet
  rw [e, b1_s]
  cases o with
  | none => exact l
  | some i =>
    dsimp only at l
    rw [if_neg (Nat.not_lt_zero _)] at l
    exact l
