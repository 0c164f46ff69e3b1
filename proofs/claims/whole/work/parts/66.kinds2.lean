/-! ===== kinds: the model's adding ===== -/
theorem km_l {n : Nat} {T : Nat → Nat → Int32} {a b c : Int32} (d : kd n T) {l : Nat} (hl : l < n) : (km T a b c l = true) = (l = kf T a b c 0 n) := by
  have hc := kf_c (T := T) (a := a) (b := b) (c := c) n 0
  refine propext ⟨fun q => ?_, fun q => ?_⟩
  · rcases hc with ⟨h1, h2⟩ | ⟨h1, h2, h3⟩
    · rw [h2 l (by omega) (by omega)] at q
      exact absurd q (by decide)
    · rw [km_iff] at q h3
      exact d l _ hl (by omega) (q.1.trans h3.1.symm) (q.2.1.trans h3.2.1.symm) (q.2.2.trans h3.2.2.symm)
  · rcases hc with ⟨h1, h2⟩ | ⟨h1, h2, h3⟩
    · omega
    · rw [q]
      exact h3
theorem YM_addsKind_L5_e {g : sd_H} {e i n : Nat} {T : Nat → Nat → Int32} {a b c : Int32} (hn : n < 30) (e22 : g.1 126 22 = nI n)
    (F : YM_firstOf g (nI e) (nI i) = some a) (D : YM_strideOf g (nI e) = some b) (M : YM_manyOf g (nI e) = some c)
    (t : ∀ j, j < n → g.1 143 (4 * j) = T j 0 ∧ g.1 143 (4 * j + 1) = T j 1 ∧ g.1 143 (4 * j + 2) = T j 2) (d : kd n T) :
    ∀ m f l, l + m = n → m < f → YM_addsKind_L5 f g (nI e) (nI i) (if kf T a b c 0 n < l then nI (kf T a b c 0 n) else -1) (nI l) = YM_addsKind_L5 1 g (nI e) (nI i) (if kf T a b c 0 n < n then nI (kf T a b c 0 n) else -1) (nI n)
  | _, 0, _, _, q => absurd q (Nat.not_lt_zero _)
  | 0, f + 1, l, e', _ => by
    obtain rfl : l = n := by omega
    unfold YM_addsKind_L5
    rw [e22, if_pos (nI_le (by omega) (by omega)), if_pos (nI_le (by omega) (by omega))]
  | m + 1, f + 1, l, e', q => by
    obtain ⟨t0, t1, t2⟩ := t l (by omega)
    have rec_ := YM_addsKind_L5_e hn e22 F D M t d m f (l + 1) (by omega) (by omega)
    have kl := km_l (a := a) (b := b) (c := c) d (show l < n by omega)
    rw [← rec_]
    have st : ∀ x : Bool, (x = true) = (km T a b c l = true) → YM_addsKind_B75 g (YM_addsKind_L5 f) (nI e) (nI i) (if kf T a b c 0 n < l then nI (kf T a b c 0 n) else -1) (nI l) (bi x) = YM_addsKind_L5 f g (nI e) (nI i) (if kf T a b c 0 n < l + 1 then nI (kf T a b c 0 n) else -1) (nI (l + 1)) := fun x hx => by
      unfold YM_addsKind_B75 YM_addsKind_B88
      rw [kl] at hx
      cases x
      · have hx : ¬ l = kf T a b c 0 n := fun z => absurd (hx.mpr z) (by decide)
        rw [if_pos (show bi false = 0 from rfl), nI_1]
        by_cases y : kf T a b c 0 n < l
        · rw [if_pos y, if_pos (by omega)]
        · rw [if_neg y, if_neg (by omega)]
      · have hx : l = kf T a b c 0 n := hx.mp rfl
        rw [if_neg (show ¬ bi true = 0 by decide), nI_1, if_pos (by omega), ← hx]
    have s1 := st true
    have s0 := st false
    rw [bi_t] at s1
    rw [bi_f] at s0
    conv => lhs; unfold YM_addsKind_L5
    unfold YM_addsKind_B74
    rw [e22, if_neg (nI_ge (by omega) (by omega)), F, D, M]
    simp (disch := omega) only [lit 4, lit 2, pk_mul, nI_add, nI_1, inB_n, gd_t, nI_clamp, b1_s]
    rw [t0, t1, t2]
    by_cases c0 : T l 0 = a
    · rw [if_pos c0]
      by_cases c1 : T l 1 = b
      · rw [if_pos c1]
        by_cases c2 : T l 2 = c
        · rw [if_pos c2]
          exact s1 (by rw [km_iff]; exact propext ⟨fun _ => ⟨c0, c1, c2⟩, fun _ => rfl⟩)
        · rw [if_neg c2]
          exact s0 (by rw [km_iff]; exact propext ⟨fun z => absurd z (by decide), fun z => absurd z.2.2 c2⟩)
      · rw [if_neg c1]
        exact s0 (by rw [km_iff]; exact propext ⟨fun z => absurd z (by decide), fun z => absurd z.2.1 c1⟩)
    · rw [if_neg c0]
      exact s0 (by rw [km_iff]; exact propext ⟨fun z => absurd z (by decide), fun z => absurd z.1 c0⟩)
theorem YM_add {g h : sd_H} {s : Nat × (Nat → Nat → Int32)} {e i cc : Nat} (he : e < 15) (hn : s.1 < 30) (k : KM g h s) (d : kd s.1 s.2) (r : RR h e cc) :
    ∃ g', YM_addsKind g (nI e) (nI i) = some g' ∧ KM g' h (ka s (sF h e i) (sD h e) (sM h e)) := by
  obtain ⟨k1, k2, k3, k4, k5⟩ := k
  have c3 := k1 133 (by omega) (by omega)
  have c8 := k1 138 (by omega) (by omega)
  have c9 := k1 139 (by omega) (by omega)
  have c0 := k1 140 (by omega) (by omega)
  have rr := RR_c c3 c8 c9 c0 r
  have sc := sect_c c3 c8 c9 c0 e i
  have F := YM_firstOf_e he rr i
  have D := YM_strideOf_e (v := g) he
  have M := YM_manyOf_e (v := g) he
  rw [sc.1] at F
  rw [sc.2.1] at D
  rw [sc.2.2] at M
  have L := YM_addsKind_L5_e hn k4 F D M (fun j hj => ⟨(k5 j hj).1, (k5 j hj).2.1, (k5 j hj).2.2.1⟩) d s.1 FU 0 (by omega) (by rw [FU_s]; omega)
  rw [if_neg (Nat.not_lt_zero _), nI_0] at L
  unfold YM_addsKind
  rw [L]
  have hc := kf_c (T := s.2) (a := sF h e i) (b := sD h e) (c := sM h e) s.1 0
  generalize sF h e i = a at *
  generalize hb : sD h e = b at *
  generalize hm : sM h e = c at *
  unfold ka
  obtain ⟨j, ej⟩ : ∃ j, kf s.2 a b c 0 s.1 = j := ⟨_, rfl⟩
  rw [ej] at hc ⊢
  unfold YM_addsKind_L5 YM_addsKind_B170
  rw [k4, if_pos (nI_le (by omega) (by omega))]
  rcases hc with ⟨h1, h2⟩ | ⟨h1, h2, h3⟩
  · obtain rfl : j = s.1 := by omega
    rw [if_neg (Nat.lt_irrefl _), if_neg (Nat.lt_irrefl _), if_pos rfl]
    simp (disch := omega) only [F, b1_s, lit 4, lit 2, lit 3, pk_mul, nI_add, nI_1, inB_n, gd_t, nI_clamp, hb_s]
    have D' : YM_strideOf (wI g 143 (4 * s.1) a) (nI e) = some b := by
      rw [YM_strideOf_e he, (sect_c (v := g) (by simp (disch := omega) only [wI_d, wD_i, fI_d, fD_i, wI_eq, wD_eq, wI_ne, wD_ne, fI_ne, fD_ne, wI_ns, wD_ns, fI_eq, fD_eq, fI_ns, fD_ns]) (by simp (disch := omega) only [wI_d, wD_i, fI_d, fD_i, wI_eq, wD_eq, wI_ne, wD_ne, fI_ne, fD_ne, wI_ns, wD_ns, fI_eq, fD_eq, fI_ns, fD_ns]) (by simp (disch := omega) only [wI_d, wD_i, fI_d, fD_i, wI_eq, wD_eq, wI_ne, wD_ne, fI_ne, fD_ne, wI_ns, wD_ns, fI_eq, fD_eq, fI_ns, fD_ns]) (by simp (disch := omega) only [wI_d, wD_i, fI_d, fD_i, wI_eq, wD_eq, wI_ne, wD_ne, fI_ne, fD_ne, wI_ns, wD_ns, fI_eq, fD_eq, fI_ns, fD_ns]) e i).2.1, sc.2.1]
    have M' : YM_manyOf (wI (wI g 143 (4 * s.1) a) 143 (4 * s.1 + 1) b) (nI e) = some c := by
      rw [YM_manyOf_e he, (sect_c (v := g) (by simp (disch := omega) only [wI_d, wD_i, fI_d, fD_i, wI_eq, wD_eq, wI_ne, wD_ne, fI_ne, fD_ne, wI_ns, wD_ns, fI_eq, fD_eq, fI_ns, fD_ns]) (by simp (disch := omega) only [wI_d, wD_i, fI_d, fD_i, wI_eq, wD_eq, wI_ne, wD_ne, fI_ne, fD_ne, wI_ns, wD_ns, fI_eq, fD_eq, fI_ns, fD_ns]) (by simp (disch := omega) only [wI_d, wD_i, fI_d, fD_i, wI_eq, wD_eq, wI_ne, wD_ne, fI_ne, fD_ne, wI_ns, wD_ns, fI_eq, fD_eq, fI_ns, fD_ns]) (by simp (disch := omega) only [wI_d, wD_i, fI_d, fD_i, wI_eq, wD_eq, wI_ne, wD_ne, fI_ne, fD_ne, wI_ns, wD_ns, fI_eq, fD_eq, fI_ns, fD_ns]) e i).2.2, sc.2.2]
    simp only [D', M', b1_s]
    refine ⟨_, rfl, ?_⟩
    refine ⟨fun c q1 q2 => ?_, fun k q1 => ?_, ?_, ?_, fun q hq => ?_⟩
    · simp (disch := omega) only [wI_d, wD_i, fI_d, fD_i, wI_eq, wD_eq, wI_ne, wD_ne, fI_ne, fD_ne, wI_ns, wD_ns, fI_eq, fD_eq, fI_ns, fD_ns]
      exact k1 c q1 q2
    · simp (disch := omega) only [wI_d, wD_i, fI_d, fD_i, wI_eq, wD_eq, wI_ne, wD_ne, fI_ne, fD_ne, wI_ns, wD_ns, fI_eq, fD_eq, fI_ns, fD_ns]
      exact k2 k q1
    · exact k3
    · simp (disch := omega) only [wI_d, wD_i, fI_d, fD_i, wI_eq, wD_eq, wI_ne, wD_ne, fI_ne, fD_ne, wI_ns, wD_ns, fI_eq, fD_eq, fI_ns, fD_ns, k4, nI_1]
    · dsimp only at hq ⊢
      by_cases e' : q = s.1
      · subst e'
        simp (disch := omega) only [wI_d, wD_i, fI_d, fD_i, wI_eq, wD_eq, wI_ne, wD_ne, fI_ne, fD_ne, wI_ns, wD_ns, fI_eq, fD_eq, fI_ns, fD_ns]
        simp
      · obtain ⟨q0, q1, q2, q3⟩ := k5 q (by omega)
        simp only [if_neg e']
        simp (disch := omega) only [wI_d, wD_i, fI_d, fD_i, wI_eq, wD_eq, wI_ne, wD_ne, fI_ne, fD_ne, wI_ns, wD_ns, fI_eq, fD_eq, fI_ns, fD_ns]
        exact ⟨q0, q1, q2, q3⟩
  · have hj : j < s.1 := by omega
    rw [if_pos hj, if_pos hj, if_neg (nm1 (k := j) (by omega))]
    simp (disch := omega) only [b1_s, lit 4, lit 2, lit 3, pk_mul, nI_add, nI_1, inB_n, gd_t, nI_clamp, hb_s]
    refine ⟨_, rfl, ?_⟩
    refine ⟨fun c q1 q2 => ?_, fun k q1 => ?_, ?_, ?_, fun q hq => ?_⟩
    · simp (disch := omega) only [wI_d, wD_i, fI_d, fD_i, wI_eq, wD_eq, wI_ne, wD_ne, fI_ne, fD_ne, wI_ns, wD_ns, fI_eq, fD_eq, fI_ns, fD_ns]
      exact k1 c q1 q2
    · simp (disch := omega) only [wI_d, wD_i, fI_d, fD_i, wI_eq, wD_eq, wI_ne, wD_ne, fI_ne, fD_ne, wI_ns, wD_ns, fI_eq, fD_eq, fI_ns, fD_ns]
      exact k2 k q1
    · exact k3
    · simp (disch := omega) only [wI_d, wD_i, fI_d, fD_i, wI_eq, wD_eq, wI_ne, wD_ne, fI_ne, fD_ne, wI_ns, wD_ns, fI_eq, fD_eq, fI_ns, fD_ns, k4]
    · dsimp only at hq ⊢
      obtain ⟨q0, q1, q2, q3⟩ := k5 q hq
      by_cases e' : q = j
      · subst e'
        simp (disch := omega) only [wI_d, wD_i, fI_d, fD_i, wI_eq, wD_eq, wI_ne, wD_ne, fI_ne, fD_ne, wI_ns, wD_ns, fI_eq, fD_eq, fI_ns, fD_ns]
        simp
        exact ⟨q0, q1, q2, q3⟩
      · rw [if_neg (fun z => e' z.1)]
        simp (disch := omega) only [wI_d, wD_i, fI_d, fD_i, wI_eq, wD_eq, wI_ne, wD_ne, fI_ne, fD_ne, wI_ns, wD_ns, fI_eq, fD_eq, fI_ns, fD_ns]
        simp [e']
        exact ⟨q0, q1, q2, q3⟩
/-! ===== the kinds of a statement to a row ===== -/
def kS (v : sd_H) (r : Int32) (i e : Nat) (s : Nat × (Nat → Nat → Int32)) : Nat × (Nat → Nat → Int32) :=
  if lk v e = true ∧ v.1 137 e = r then ka s (sF v e i) (sD v e) (sM v e) else s
def kT (v : sd_H) (k : Nat) (r : Int32) (i : Nat) (s : Nat × (Nat → Nat → Int32)) : Nat × (Nat → Nat → Int32) :=
  if dn v k i = true then kS v r i (3 * k) (kS v r i (3 * k + 2) (kS v r i (3 * k + 1) s)) else s
def kA (v : sd_H) (k : Nat) (r : Int32) : Nat → Nat → Nat × (Nat → Nat → Int32) → Nat × (Nat → Nat → Int32)
  | 0, _, s => s
  | m + 1, i, s => kA v k r m (i + 1) (kT v k r i s)
theorem kS_n {v : sd_H} {r : Int32} {i e : Nat} {s : Nat × (Nat → Nat → Int32)} : (kS v r i e s).1 ≤ s.1 + 1 := by
  unfold kS
  split
  · exact ka_n
  · exact Nat.le_succ _
theorem kS_d {v : sd_H} {r : Int32} {i e : Nat} {s : Nat × (Nat → Nat → Int32)} (d : kd s.1 s.2) : kd (kS v r i e s).1 (kS v r i e s).2 := by
  unfold kS
  split
  · exact ka_d d
  · exact d
theorem kT_n {v : sd_H} {k : Nat} {r : Int32} {i : Nat} {s : Nat × (Nat → Nat → Int32)} : (kT v k r i s).1 ≤ s.1 + 3 := by
  unfold kT
  split
  · have a := kS_n (v := v) (r := r) (i := i) (e := 3 * k) (s := (kS v r i (3 * k + 2) (kS v r i (3 * k + 1) s)))
    have b := kS_n (v := v) (r := r) (i := i) (e := 3 * k + 2) (s := (kS v r i (3 * k + 1) s))
    have c := kS_n (v := v) (r := r) (i := i) (e := 3 * k + 1) (s := s)
    omega
  · omega
theorem kT_d {v : sd_H} {k : Nat} {r : Int32} {i : Nat} {s : Nat × (Nat → Nat → Int32)} (d : kd s.1 s.2) : kd (kT v k r i s).1 (kT v k r i s).2 := by
  unfold kT
  split
  · exact kS_d (kS_d (kS_d d))
  · exact d
/-- x adds, if the reference is looked at -/
theorem lk_w {v : sd_H} {k w r : Nat} (hw : w < 3) (hr : r < 6) (e : v.1 137 (3 * k + w) = nI r) : lk v (3 * k + w) = (decide (w < 2) || !decide (v.1 132 k = 9)) := by
  unfold lk
  rw [e, decide_eq_false (nm1 (k := r) (by omega)), show (3 * k + w) % 3 = w by omega, show (3 * k + w) / 3 = k by omega]
  rfl
theorem XA_looksAt_e {g v : sd_H} {k w : Nat} (ik : ILk g v k) (hw : w < 3) : XA_looksAt g (8 + 5 * k) (nI w) = some (bi (decide (w < 2) || !decide (v.1 132 k = 9))) := by
  unfold XA_looksAt XA_looksAt_B14
  have e2 : (nI w = 2) = (w = 2) := by
    rw [lit 2]
    exact nI_eqI (by omega) (by omega)
  rw [ik.1.1, itp e2]
  by_cases q : w = 2
  · rw [if_pos q, decide_eq_false (by omega)]
    by_cases c : v.1 132 k = 9
    · rw [if_pos c, decide_eq_true c]
      rfl
    · rw [if_neg c, decide_eq_false c]
      rfl
  · rw [if_neg q, decide_eq_true (by omega)]
    rfl
theorem XK_addFrom_e {g h v : sd_H} {k w r i : Nat} {s : Nat × (Nat → Nat → Int32)} (ik : ILk h v k) (hk : k < 5) (hw : w < 3) (hr : r < 6) (hi : i ≤ 10) (hn : s.1 < 30) (kx : KX g h s) :
    ∃ g', XK_addFrom g (8 + 5 * k) (nI w) (nI r) (nI i) = some g' ∧ KX g' h (kS v (nI r) i (3 * k + w) s) := by
  have ik' : ILk g v k := ILk_c hk (fun c h1 h2 => kx.1 c (Or.inl (by omega))) rfl rfl rfl rfl rfl rfl rfl rfl rfl ik
  obtain ⟨cc, rr⟩ := RR_of ik hw
  have sc : g.1 (8 + 5 * k) 2 = nI cc := by
    rw [ik'.1.2.1]
    have := rr.1.1
    rw [show (3 * k + w) / 3 = k by omega] at this
    exact this
  unfold XK_addFrom kS
  rw [XA_looksAt_e ik' hw, b1_s, inB_n hw (by omega), gd_t, gd_t, nI_clamp (by omega), show 8 + 5 * k + 1 + 1 + w = 10 + 5 * k + w by omega, (ik'.2 w hw).1, sc]
  by_cases c : v.1 137 (3 * k + w) = nI r
  · rw [if_pos c, XS_lay_e (ik'.2 w hw) rr hi (by omega), b1_s, lk_w hw hr c]
    cases decide (w < 2) || !decide (v.1 132 k = 9)
    · rw [if_pos (show bi false = 0 from rfl), if_neg (fun z => absurd z.1 (by decide))]
      exact ⟨g, rfl, kx⟩
    · rw [if_neg (show ¬ bi true = 0 by decide), if_pos ⟨rfl, c⟩]
      refine XK_add hn ⟨fun c hc => ?_, kx.2.1, ?_, fun j hj => ?_⟩ ?_ ?_ ?_
      · simp (disch := omega) only [wI_d, wD_i, fI_d, fD_i, wI_eq, wD_eq, wI_ne, wD_ne, fI_ne, fD_ne, wI_ns, wD_ns, fI_eq, fD_eq, fI_ns, fD_ns, xL]
        exact kx.1 c hc
      · simp (disch := omega) only [wI_d, wD_i, fI_d, fD_i, wI_eq, wD_eq, wI_ne, wD_ne, fI_ne, fD_ne, wI_ns, wD_ns, fI_eq, fD_eq, fI_ns, fD_ns, xL]
        exact kx.2.2.1
      · simp (disch := omega) only [wI_d, wD_i, fI_d, fD_i, wI_eq, wD_eq, wI_ne, wD_ne, fI_ne, fD_ne, wI_ns, wD_ns, fI_eq, fD_eq, fI_ns, fD_ns, xL]
        exact kx.2.2.2 j hj
      · simp (disch := omega) only [wI_d, wD_i, fI_d, fD_i, wI_eq, wD_eq, wI_ne, wD_ne, fI_ne, fD_ne, wI_ns, wD_ns, fI_eq, fD_eq, fI_ns, fD_ns, xL]
      · simp (disch := omega) only [wI_d, wD_i, fI_d, fD_i, wI_eq, wD_eq, wI_ne, wD_ne, fI_ne, fD_ne, wI_ns, wD_ns, fI_eq, fD_eq, fI_ns, fD_ns, xL]
      · simp (disch := omega) only [wI_d, wD_i, fI_d, fD_i, wI_eq, wD_eq, wI_ne, wD_ne, fI_ne, fD_ne, wI_ns, wD_ns, fI_eq, fD_eq, fI_ns, fD_ns, xL]
  · rw [if_neg c, if_neg (c := lk v (3 * k + w) = true ∧ v.1 137 (3 * k + w) = nI r) (fun z => c z.2)]
    refine ⟨g, ?_, kx⟩
    split <;> rfl
theorem YM_isLooked_e {v : sd_H} {k w : Nat} (hk : k < 5) (hw : w < 3) : YM_isLooked v (nI (3 * k + w)) = some (bi (lk v (3 * k + w))) := by
  unfold YM_isLooked YM_isLooked_B30 lk
  simp (disch := omega) only [lit 3, lit 2, pk_div, pk_mul, pk_sub, nI_clamp, inB_n, gd_t, nI_ltI]
  rw [show 3 * k + w - (3 * k + w) / 3 * 3 = w by omega, show (3 * k + w) % 3 = w by omega]
  by_cases a : v.1 137 (3 * k + w) = -1
  · rw [if_pos a, decide_eq_true a]
    rfl
  · rw [if_neg a, decide_eq_false a]
    by_cases b : w < 2
    · rw [if_pos b, decide_eq_true b]
      rfl
    · rw [if_neg b, decide_eq_false b]
      by_cases c : v.1 132 ((3 * k + w) / 3) = 9
      · rw [if_pos c, decide_eq_true c]
        rfl
      · rw [if_neg c, decide_eq_false c]
        rfl
theorem YM_addsIf_e {g h : sd_H} {k w i cc : Nat} {r : Int32} {s : Nat × (Nat → Nat → Int32)} (hk : k < 5) (hw : w < 3) (rr : RR h (3 * k + w) cc) (hn : s.1 < 30) (d : kd s.1 s.2) (km : KM g h s) :
    ∃ g', YM_addsIf g (nI (3 * k + w)) (nI i) r = some g' ∧ KM g' h (kS h r i (3 * k + w) s) := by
  have c7 := km.1 137 (by omega) (by omega)
  have c2 := km.1 132 (by omega) (by omega)
  have le : lk g (3 * k + w) = lk h (3 * k + w) := by
    unfold lk
    rw [c7, c2]
  unfold YM_addsIf kS
  rw [YM_isLooked_e hk hw, b1_s, le, inB_n (by omega) (by omega), gd_t, nI_clamp (by omega), c7]
  by_cases a : lk h (3 * k + w) = true
  · rw [a, if_neg (show ¬ bi true = 0 by decide)]
    by_cases b : h.1 137 (3 * k + w) = r
    · rw [if_pos b, if_pos ⟨rfl, b⟩]
      obtain ⟨g', e, q⟩ := YM_add (i := i) (show 3 * k + w < 15 by omega) hn km d rr
      exact ⟨g', by rw [e]; rfl, q⟩
    · rw [if_neg b, if_neg (fun z => b z.2)]
      exact ⟨g, rfl, km⟩
  · rw [Bool.eq_false_iff.mpr a, if_pos (show bi false = 0 from rfl), if_neg (fun z => absurd z.1 (by decide))]
    exact ⟨g, rfl, km⟩
/-! the walks over the turns -/
theorem IL_N {g v : sd_H} {N S : Nat} (i : IL g v N S) : N ≤ 10 := i.1
theorem XK_collect_L18_e {h : sd_H} (iv : Iv h h) {N S k r : Nat} (il : IL h h N S) (hk : k < S) (hr : r < 6) :
    ∀ m f i (g : sd_H) (s : Nat × (Nat → Nat → Int32)), i + m = N → m < f → s.1 ≤ 3 * i → KX g h s → ∃ g', XK_collect_L18 f g 1 (8 + 5 * k) (nI r) (nI i) = some g' ∧ KX g' h (kA h k (nI r) m i s)
  | _, 0, _, _, _, _, q, _, _ => absurd q (Nat.not_lt_zero _)
  | 0, f + 1, i, g, s, e, _, _, kx => by
    have hN := il.1
    unfold XK_collect_L18
    rw [kx.1 6 (by omega), il.2.2.1, if_pos (nI_le (by omega) (by omega))]
    exact ⟨g, rfl, kx⟩
  | m + 1, f + 1, i, g, s, e, q, hs, kx => by
    have hN := il.1
    have hS := il.2.1
    have ik := il.2.2.2.2.2.2 k hk
    have ik' : ILk g h k := ILk_c (by omega) (fun c h1 h2 => kx.1 c (Or.inl (by omega))) rfl rfl rfl rfl rfl rfl rfl rfl rfl ik
    unfold XK_collect_L18 XK_collect_B67
    have hd := XA_isDone_e (g := g) (v := h) (P := 1) (k := k) (i := i) (S := S) (by rw [kx.1 2 (by omega), kx.1 3 (by omega), kx.2.1]; exact iv.1) iv.2.2.1 ik' hk hS il.2.2.2.2.2.1 (by omega)
    rw [kx.1 6 (by omega), il.2.2.1, if_neg (nI_ge (by omega) (by omega)), hd, b1_s]
    have n := kT_n (v := h) (k := k) (r := nI r) (i := i) (s := s)
    by_cases d : dn h k i = true
    · rw [d, if_neg (show ¬ bi true = 0 by decide)]
      obtain ⟨g1, e1, k1⟩ := XK_addFrom_e (w := 1) ik (by omega) (by omega) hr (show i ≤ 10 by omega) (by omega) kx
      have n1 := kS_n (v := h) (r := nI r) (i := i) (e := 3 * k + 1) (s := s)
      obtain ⟨g2, e2, k2⟩ := XK_addFrom_e (w := 2) ik (by omega) (by omega) hr (show i ≤ 10 by omega) (by omega) k1
      have n2 := kS_n (v := h) (r := nI r) (i := i) (e := 3 * k + 2) (s := kS h (nI r) i (3 * k + 1) s)
      obtain ⟨g3, e3, k3⟩ := XK_addFrom_e (w := 0) ik (by omega) (by omega) hr (show i ≤ 10 by omega) (by omega) k2
      rw [show (1 : Int32) = nI 1 from rfl, show (2 : Int32) = nI 2 from rfl, show (0 : Int32) = nI 0 from rfl, e1, b1_s, e2, b1_s, e3, b1_s, nI_add]
      have kt : kT h k (nI r) i s = kS h (nI r) i (3 * k + 0) (kS h (nI r) i (3 * k + 2) (kS h (nI r) i (3 * k + 1) s)) := if_pos d
      rw [← kt] at k3
      exact XK_collect_L18_e iv il hk hr m f (i + 1) g3 _ (by omega) (by omega) (by omega) k3
    · rw [Bool.eq_false_iff.mpr d, if_pos (show bi false = 0 from rfl), nI_1]
      have kt : kT h k (nI r) i s = s := if_neg d
      unfold kA
      rw [kt] at n ⊢
      exact XK_collect_L18_e iv il hk hr m f (i + 1) g s (by omega) (by omega) (by omega) kx
theorem YM_findsKinds_L7_e {h : sd_H} {N S k r : Nat} (iz : IZ (h.1 128)) (il : IL h h N S) (hk : k < S) :
    ∀ m f i (g : sd_H) (s : Nat × (Nat → Nat → Int32)), i + m = N → m < f → s.1 ≤ 3 * i → kd s.1 s.2 → KM g h s → ∃ g', YM_findsKinds_L7 f g (nI k) (nI r) (nI i) = some (g', nI (kA h k (nI r) m i s).1) ∧ KM g' h (kA h k (nI r) m i s)
  | _, 0, _, _, _, _, q, _, _, _ => absurd q (Nat.not_lt_zero _)
  | 0, f + 1, i, g, s, e, _, _, _, kx => by
    have hN := il.1
    unfold YM_findsKinds_L7
    rw [kx.2.1 6 (by omega), il.2.2.2.1, if_pos (nI_le (by omega) (by omega)), kx.2.2.2.1]
    exact ⟨g, rfl, kx⟩
  | m + 1, f + 1, i, g, s, e, q, hs, d, kx => by
    have hN := il.1
    have hS := il.2.1
    have ik := il.2.2.2.2.2.2 k hk
    have cc := fun c h1 h2 => kx.1 c h1 h2
    have sd : dn g = dn h := dn_c (cc 127 (by omega) (by omega)) (cc 128 (by omega) (by omega)) (by rw [kx.2.2.1]) (cc 134 (by omega) (by omega)) (cc 135 (by omega) (by omega)) (cc 136 (by omega) (by omega)) (kx.2.1 7 (by omega))
    have ik' : ILk h g k := ILk_c (by omega) (fun c h1 h2 => rfl) (cc 132 (by omega) (by omega)) (cc 133 (by omega) (by omega)) (cc 134 (by omega) (by omega)) (cc 135 (by omega) (by omega)) (cc 136 (by omega) (by omega)) (cc 137 (by omega) (by omega)) (cc 138 (by omega) (by omega)) (cc 139 (by omega) (by omega)) (cc 140 (by omega) (by omega)) ik
    have hd := YM_isDone_e (g := h) (v := g) (k := k) (i := i) (S := S) (by rw [cc 128 (by omega) (by omega)]; exact iz) ik' hk hS (by rw [kx.2.1 7 (by omega)]; exact il.2.2.2.2.2.1) (by omega)
    unfold YM_findsKinds_L7 YM_findsKinds_B55
    rw [kx.2.1 6 (by omega), il.2.2.2.1, if_neg (nI_ge (by omega) (by omega)), hd, b1_s, sd]
    have n := kT_n (v := h) (k := k) (r := nI r) (i := i) (s := s)
    have dd := kT_d (v := h) (k := k) (r := nI r) (i := i) d
    by_cases b : dn h k i = true
    · rw [b, if_neg (show ¬ bi true = 0 by decide)]
      obtain ⟨r1, R1⟩ := RR_of ik (show 1 < 3 by omega)
      obtain ⟨r2, R2⟩ := RR_of ik (show 2 < 3 by omega)
      obtain ⟨r3, R3⟩ := RR_of ik (show 0 < 3 by omega)
      obtain ⟨g1, e1, k1⟩ := YM_addsIf_e (i := i) (r := nI r) (show k < 5 by omega) (by omega) R1 (by omega) d kx
      have n1 := kS_n (v := h) (r := nI r) (i := i) (e := 3 * k + 1) (s := s)
      obtain ⟨g2, e2, k2⟩ := YM_addsIf_e (i := i) (r := nI r) (show k < 5 by omega) (by omega) R2 (by omega) (kS_d d) k1
      have n2 := kS_n (v := h) (r := nI r) (i := i) (e := 3 * k + 2) (s := kS h (nI r) i (3 * k + 1) s)
      obtain ⟨g3, e3, k3⟩ := YM_addsIf_e (i := i) (r := nI r) (show k < 5 by omega) (by omega) R3 (by omega) (kS_d (kS_d d)) k2
      rw [Nat.add_zero] at e3
      rw [show (3 : Int32) * nI k = nI (3 * k) by rw [lit 3, pk_mul], show nI (3 * k) + 2 = nI (3 * k + 2) by rw [lit 2, nI_add], nI_1, e1, b1_s, e2, b1_s, e3, b1_s, nI_1]
      have kt : kT h k (nI r) i s = kS h (nI r) i (3 * k + 0) (kS h (nI r) i (3 * k + 2) (kS h (nI r) i (3 * k + 1) s)) := if_pos b
      rw [← kt] at k3
      exact YM_findsKinds_L7_e iz il hk m f (i + 1) g3 _ (by omega) (by omega) (by omega) dd k3
    · rw [Bool.eq_false_iff.mpr b, if_pos (show bi false = 0 from rfl), nI_1]
      have kt : kT h k (nI r) i s = s := if_neg b
      unfold kA
      rw [kt] at n ⊢
      exact YM_findsKinds_L7_e iz il hk m f (i + 1) g s (by omega) (by omega) (by omega) d kx
