/-! ===== digest: what both put in ===== -/
def DI (h : sd_H) (f m : sd_H → Option (sd_H × Int32)) : Prop := ∃ v, (∀ g, QQ g h → ∃ g', f g = some (g', v) ∧ QQ g' h) ∧ ∀ w, QQ w h → ∃ w', m w = some (w', v) ∧ QQ w' h
def DP (h : sd_H) (f m : sd_H → Option Int32) : Prop := ∃ v, (∀ g, QQ g h → f g = some v) ∧ ∀ w, QQ w h → m w = some v
def DV (h : sd_H) (F G : sd_H → Int64 → Option (sd_H × Int64)) : Prop := ∀ a, ∃ b, (∀ g, QQ g h → ∃ g', F g a = some (g', b) ∧ QQ g' h) ∧ ∀ w, QQ w h → ∃ w', G w a = some (w', b) ∧ QQ w' h
theorem DV_r (h : sd_H) : DV h (fun g a => some (g, a)) (fun w a => some (w, a)) := fun a => ⟨a, fun g q => ⟨g, rfl, q⟩, fun w q => ⟨w, rfl, q⟩⟩
theorem DV_x {h : sd_H} {F G F' G' : sd_H → Int64 → Option (sd_H × Int64)} (d : DV h F G) (ex : ∀ g a, QQ g h → F' g a = F g a) (em : ∀ w a, QQ w h → G' w a = G w a) : DV h F' G' := fun a => by
  obtain ⟨b, x, m⟩ := d a
  exact ⟨b, fun g q => by rw [ex g a q]; exact x g q, fun w q => by rw [em w a q]; exact m w q⟩
theorem DV_i {h : sd_H} {f m : sd_H → Option (sd_H × Int32)} {F G : sd_H → Int64 → Option (sd_H × Int64)} (d : DI h f m) (c : DV h F G) : DV h (fun g a => b2 (f g) (fun g' t => F g' ((31 * a) + (Int32.toInt64 t)))) (fun w a => b2 (m w) (fun w' t => G w' ((31 * a) + (Int32.toInt64 t)))) := fun a => by
  obtain ⟨v, x, y⟩ := d
  obtain ⟨b, x2, y2⟩ := c ((31 * a) + (Int32.toInt64 v))
  refine ⟨b, fun g q => ?_, fun w q => ?_⟩
  · obtain ⟨g', e, q'⟩ := x g q
    show ∃ g', b2 (f g) _ = _ ∧ _
    rw [e, b2_s]
    exact x2 g' q'
  · obtain ⟨w', e, q'⟩ := y w q
    show ∃ g', b2 (m w) _ = _ ∧ _
    rw [e, b2_s]
    exact y2 w' q'
theorem DV_p {h : sd_H} {f m : sd_H → Option Int32} {F G : sd_H → Int64 → Option (sd_H × Int64)} (d : DP h f m) (c : DV h F G) : DV h (fun g a => b1 (f g) (fun t => F g ((31 * a) + (Int32.toInt64 t)))) (fun w a => b1 (m w) (fun t => G w ((31 * a) + (Int32.toInt64 t)))) := fun a => by
  obtain ⟨v, x, y⟩ := d
  obtain ⟨b, x2, y2⟩ := c ((31 * a) + (Int32.toInt64 v))
  refine ⟨b, fun g q => ?_, fun w q => ?_⟩
  · show ∃ g', b1 (f g) _ = _ ∧ _
    rw [x g q, b1_s]
    exact x2 g q
  · show ∃ g', b1 (m w) _ = _ ∧ _
    rw [y w q, b1_s]
    exact y2 w q
theorem DV_v {h : sd_H} {F1 G1 F G : sd_H → Int64 → Option (sd_H × Int64)} (d : DV h F1 G1) (c : DV h F G) : DV h (fun g a => b2 (F1 g a) (fun g' t => F g' t)) (fun w a => b2 (G1 w a) (fun w' t => G w' t)) := fun a => by
  obtain ⟨v, x, y⟩ := d a
  obtain ⟨b, x2, y2⟩ := c v
  refine ⟨b, fun g q => ?_, fun w q => ?_⟩
  · obtain ⟨g', e, q'⟩ := x g q
    show ∃ g', b2 (F1 g a) _ = _ ∧ _
    rw [e, b2_s]
    exact x2 g' q'
  · obtain ⟨w', e, q'⟩ := y w q
    show ∃ g', b2 (G1 w a) _ = _ ∧ _
    rw [e, b2_s]
    exact y2 w' q'
section
variable {h : sd_H} {N S : Nat}
theorem D_count (il : IL h h N S) (a : Int32) : DI h (fun g => XT_count g a) (fun w => YM_count w a) := ⟨CT h N S a, fun g q => by
    obtain ⟨g', e, q'⟩ := X_count q.1 (QQ_il q il) a
    exact ⟨g', e.trans (by rw [CT_c q]), QQ_t q' q⟩, fun w q => by
    obtain ⟨w', e, q'⟩ := M_count q.1 (QQ_il q il) a
    exact ⟨w', e.trans (by rw [CT_c q]), QQ_t q' q⟩⟩
/-- what is told of a statement -/
def IFO (v : sd_H) (N k z : Nat) : Int32 := if z = 0 then v.1 132 k else if z = 1 then v.1 133 k else if z = 2 then v.1 134 k else if z = 3 then v.1 135 k else if z = 4 then v.1 136 k else if z = 5 then FAM v k (v.1 127 (gr v (3 * k))) else cd v k 0 N 0
theorem cd_c {g : sd_H} (d : dn g = dn h) (k : Nat) : ∀ m i s, cd g k i m s = cd h k i m s
  | 0, _, _ => rfl
  | m + 1, i, s => by
    unfold cd
    rw [d, cd_c d k m]
theorem IFO_c {g : sd_H} (q : QQ g h) (N k z : Nat) : IFO g N k z = IFO h N k z := by
  have sl := QQ_sl q
  have c := q.2.2.1
  unfold IFO
  rw [c 132 (by omega) (by omega), c 133 (by omega) (by omega), c 134 (by omega) (by omega), c 135 (by omega) (by omega), c 136 (by omega) (by omega), c 127 (by omega) (by omega), FAM_c q, gr_c sl, cd_c sl.1]
theorem info_v (iv : Iv h h) (il : IL h h N S) {k z : Nat} (hk : k < S) (hz : z ≤ 6) : XT_info h (nI k) (nI z) = some (IFO h N k z) ∧ YM_infoOf h (nI k) (nI z) = some (IFO h N k z) := by
  have hS := il.2.1
  have hN := il.1
  unfold XT_info
  rw [XT_isStatement_e, b1_s, il.2.2.2.2.1, wn_inn hk (by omega), if_neg z10.mp, inB_n (show k < 5 by omega) (by omega), gd_t, nI_clamp (by omega)]
  have ik := il.2.2.2.2.2.2 k hk
  unfold YM_infoOf
  rw [inB_n (show k < 5 by omega) (by omega), gd_t, gd_t, gd_t, gd_t, gd_t, nI_clamp (by omega), ik.1.1, ik.1.2.1, ik.1.2.2.1, ik.1.2.2.2.1, ik.1.2.2.2.2.1]
  obtain ⟨r0, hr0, t0, gt⟩ := (ref_row ik (show 0 < 3 by omega)).resolve_left (fun z => z.2 rfl)
  have tr := (ik.2 0 (by omega)).1
  rw [t0] at tr
  rw [Nat.add_zero] at t0 gt
  have zz : z = 0 ∨ z = 1 ∨ z = 2 ∨ z = 3 ∨ z = 4 ∨ z = 5 ∨ z = 6 := by omega
  rcases zz with rfl | rfl | rfl | rfl | rfl | rfl | rfl
  · exact ⟨rfl, rfl⟩
  · exact ⟨rfl, rfl⟩
  · exact ⟨rfl, rfl⟩
  · exact ⟨rfl, rfl⟩
  · exact ⟨rfl, rfl⟩
  · have e : IFO h N k 5 = FAM h k (h.1 127 r0) := by
      show FAM h k (h.1 127 (gr h (3 * k))) = _
      rw [gt]
    rw [e]
    refine ⟨?_, ?_⟩
    · show gd _ _ = _
      rw [show 8 + 5 * k + 1 + 1 + 0 = 10 + 5 * k + 0 by omega, tr, inB_n hr0 (by omega), gd_t, nI_clamp (by omega), (iv.1 r0 hr0).1, XY_familyOf_e ik (fun r hr => (iv.1 r hr).1), b1_s]
    · show b1 _ _ = _
      rw [YM_familyAs_e ik (by omega) (F := h.1 127 r0) (Or.inr (Or.inr ⟨rfl, by rw [gt]⟩)), b1_s]
  · obtain ⟨c1, c2⟩ := cd_e iv il hk N FU FU 0 0 (by omega) (by rw [FU_s]; omega) (by rw [FU_s]; omega)
    have e : IFO h N k 6 = cd h k 0 N 0 := rfl
    rw [e]
    refine ⟨?_, ?_⟩
    · show b1 (XL_turnsDone h (8 + 5 * k) 1) _ = _
      unfold XL_turnsDone
      rw [show (0 : Int32) = nI 0 from rfl] at c1 ⊢
      rw [c1, b1_s]
    · show b1 (YM_doneMany h (nI k)) _ = _
      unfold YM_doneMany
      rw [show (0 : Int32) = nI 0 from rfl] at c2 ⊢
      rw [c2, b1_s]
theorem D_info (il : IL h h N S) {k z : Nat} (hk : k < S) (hz : z ≤ 6) : DP h (fun g => XT_info g (nI k) (nI z)) (fun w => YM_infoOf w (nI k) (nI z)) :=
  ⟨IFO h N k z, fun g q => (info_v q.1 (QQ_il q il) hk hz).1.trans (by rw [IFO_c q]), fun w q => (info_v q.1 (QQ_il q il) hk hz).2.trans (by rw [IFO_c q])⟩
/-- what is told of a reference -/
def RFO (v : sd_H) (e z : Nat) : Int32 := if z = 0 then v.1 137 e else if z = 1 then v.1 138 e else if z = 2 then v.1 139 e else v.1 140 e
theorem ref_v (il : IL h h N S) {k w z : Nat} (hk : k < S) (hw : w < 3) (hz : z ≤ 3) : XT_reference h (nI k) (nI w) (nI z) = some (RFO h (3 * k + w) z) ∧ YM_referenceOf h (nI (3 * k + w)) (nI z) = some (RFO h (3 * k + w) z) := by
  have hS := il.2.1
  obtain ⟨r1, r2, r3, r4, _⟩ := (il.2.2.2.2.2.2 k hk).2 w hw
  unfold XT_reference YM_referenceOf
  rw [XT_isReference_e, il.2.2.2.2.1, wn_inn hk (by omega), if_neg z10.mp, b1_s, show wn (nI w) 0 2 = 1 from wn_n (m := 2) (by omega) (by omega), if_neg z10.mp, inB_n (show k < 5 by omega) (by omega), gd_t, inB_n hw (by omega), gd_t, nI_clamp (by omega), nI_clamp (by omega), show 8 + 5 * k + 1 + 1 + w = 10 + 5 * k + w by omega, r1, r2, r3, r4, inB_n (show 3 * k + w < 15 by omega) (by omega), gd_t, gd_t, gd_t, gd_t, nI_clamp (by omega)]
  have zz : z = 0 ∨ z = 1 ∨ z = 2 ∨ z = 3 := by omega
  rcases zz with rfl | rfl | rfl | rfl <;> exact ⟨rfl, rfl⟩
theorem D_ref (il : IL h h N S) {k w z : Nat} (hk : k < S) (hw : w < 3) (hz : z ≤ 3) : DP h (fun g => XT_reference g (nI k) (nI w) (nI z)) (fun v => YM_referenceOf v (nI (3 * k + w)) (nI z)) := by
  have c : ∀ g, QQ g h → RFO g (3 * k + w) z = RFO h (3 * k + w) z := fun g q => by
    unfold RFO
    rw [q.2.2.1 137 (by omega) (by omega), q.2.2.1 138 (by omega) (by omega), q.2.2.1 139 (by omega) (by omega), q.2.2.1 140 (by omega) (by omega)]
  exact ⟨RFO h (3 * k + w) z, fun g q => (ref_v (QQ_il q il) hk hw hz).1.trans (by rw [c g q]), fun v q => (ref_v (QQ_il q il) hk hw hz).2.trans (by rw [c v q])⟩
/-- a section of the first turn -/
def SVA (v : sd_H) (e d : Nat) : Int32 := if nI d = 0 then sF v e 0 else if nI d = 1 then sD v e else sM v e
theorem sect_x (iv : Iv h h) (il : IL h h N S) {k w d : Nat} (hk : k < S) (hw : w < 3) (hd : d ≤ 2) (h0 : ¬ N = 0) (ht : ¬ h.1 137 (3 * k + w) = -1) : ∃ g', XT_section h (nI (3 * k + w)) 0 (nI d) = some (g', SVA h (3 * k + w) d) ∧ QQ g' h := by
  have hS := il.2.1
  have hN := il.1
  have hx : XT_hasSection h (nI (3 * k + w)) = some 1 := by
    rcases hsec il (nI (3 * k + w)) with ⟨_, hy⟩ | ⟨_, _, _, _, _, _, hx⟩
    · rcases hy with hy | ⟨e, he, ee, hy⟩
      · rw [wn_inn (show 3 * k + w < 3 * S by omega) (by omega)] at hy
        exact absurd hy (by decide)
      · have : 3 * k + w = e := (nI_eq (by omega) (by omega)).mp ee
        subst this
        exact absurd hy ht
    · exact hx
  refine ⟨xL h 97 (sF h (3 * k + w) 0) (sD h (3 * k + w)) (sM h (3 * k + w)), ?_, OX_q (OX_l ⟨fun _ _ => rfl, rfl⟩) iv⟩
  have x0 : (xL h 97 (sF h (3 * k + w) 0) (sD h (3 * k + w)) (sM h (3 * k + w))).1 97 0 = sF h (3 * k + w) 0 := by simp (disch := omega) only [wI_d, wD_i, fI_d, fD_i, wI_eq, wD_eq, wI_ne, wD_ne, fI_ne, fD_ne, wI_ns, wD_ns, fI_eq, fD_eq, fI_ns, fD_ns, xL]
  have x1 : (xL h 97 (sF h (3 * k + w) 0) (sD h (3 * k + w)) (sM h (3 * k + w))).1 97 1 = sD h (3 * k + w) := by simp (disch := omega) only [wI_d, wD_i, fI_d, fD_i, wI_eq, wD_eq, wI_ne, wD_ne, fI_ne, fD_ne, wI_ns, wD_ns, fI_eq, fD_eq, fI_ns, fD_ns, xL]
  have x2 : (xL h 97 (sF h (3 * k + w) 0) (sD h (3 * k + w)) (sM h (3 * k + w))).1 97 2 = sM h (3 * k + w) := by simp (disch := omega) only [wI_d, wD_i, fI_d, fD_i, wI_eq, wD_eq, wI_ne, wD_ne, fI_ne, fD_ne, wI_ns, wD_ns, fI_eq, fD_eq, fI_ns, fD_ns, xL]
  unfold XT_section
  rw [hx, b1_s, if_neg z10.mp, XT_isTurn_e, b1_s, il.2.2.1, show wn 0 0 (nI N - 1) = 1 from wn_inn (j := 0) (show 0 < N by omega) (by omega), if_neg z10.mp, show XT_lay h 97 (nI (3 * k + w)) 0 = XT_lay h 97 (nI (3 * k + w)) (nI 0) from rfl, XT_lay_e il hk hw (by omega) (by omega), b1_s]
  unfold XS_part
  rw [x0, x1, x2]
  have dd : d = 0 ∨ d = 1 ∨ d = 2 := by omega
  rcases dd with rfl | rfl | rfl <;> rfl
theorem sect_m (il : IL h h N S) {k w d : Nat} (hk : k < S) (hw : w < 3) (hd : d ≤ 2) : YM_sectionOf h (nI (3 * k + w)) 0 (nI d) = some (SVA h (3 * k + w) d) := by
  have hS := il.2.1
  have e3 : 3 * k + w < 15 := by omega
  obtain ⟨cc, rr⟩ := RR_of (il.2.2.2.2.2.2 k hk) hw
  unfold YM_sectionOf SVA
  rw [show (0 : Int32) = nI 0 from rfl, YM_firstOf_e e3 rr, YM_strideOf_e e3, YM_manyOf_e e3]
  have dd : d = 0 ∨ d = 1 ∨ d = 2 := by omega
  rcases dd with rfl | rfl | rfl <;> rfl
theorem SVA_c {g : sd_H} (q : QQ g h) (e d : Nat) : SVA g e d = SVA h e d := by
  have s := QQ_sl q
  obtain ⟨s1, s2, s3⟩ := sect_c (v := h) (v' := g) s.2.2.2.2.1 s.2.2.2.2.2.2.1 s.2.2.2.2.2.2.2.1 s.2.2.2.2.2.2.2.2.1 e 0
  unfold SVA
  rw [s1, s2, s3]
theorem D_sect (il : IL h h N S) {k w d : Nat} (hk : k < S) (hw : w < 3) (hd : d ≤ 2) (h0 : ¬ N = 0) (ht : ¬ h.1 137 (3 * k + w) = -1) : DI h (fun g => XT_section g (nI (3 * k + w)) 0 (nI d)) (fun v => b1 (YM_sectionOf v (nI (3 * k + w)) 0 (nI d)) (fun t => some (v, t))) :=
  ⟨SVA h (3 * k + w) d, fun g q => by
    obtain ⟨g', e, q'⟩ := sect_x q.1 (QQ_il q il) hk hw hd h0 (by rw [q.2.2.1 137 (by omega) (by omega)]; exact ht)
    exact ⟨g', e.trans (by rw [SVA_c q]), QQ_t q' q⟩, fun v q => ⟨v, by show b1 (YM_sectionOf v (nI (3 * k + w)) 0 (nI d)) _ = _; rw [sect_m (QQ_il q il) hk hw hd, b1_s, SVA_c q], q⟩⟩
/-- kinds -/
def KV (v : sd_H) (N k r : Nat) : Int32 := nI (kA v k (nI r) N 0 (0, fun _ _ => 0)).1
theorem kinds_x (iv : Iv h h) (il : IL h h N S) {k r : Nat} (hk : k < S) (hr : r < 6) : ∃ g', XT_kinds h (nI k) (nI r) = some (g', KV h N k r) ∧ QQ g' h := by
  have hN := il.1
  have hS := il.2.1
  have kx0 : KX (wI h 63 3 0) h (0, fun _ _ => 0) := ⟨fun c hc => by simp (disch := omega) only [wI_d, wD_i, fI_d, fD_i, wI_eq, wD_eq, wI_ne, wD_ne, fI_ne, fD_ne, wI_ns, wD_ns, fI_eq, fD_eq, fI_ns, fD_ns], rfl, by simp (disch := omega) only [wI_d, wD_i, fI_d, fD_i, wI_eq, wD_eq, wI_ne, wD_ne, fI_ne, fD_ne, wI_ns, wD_ns, fI_eq, fD_eq, fI_ns, fD_ns]; rfl, fun j hj => absurd hj (Nat.not_lt_zero _)⟩
  have ik := il.2.2.2.2.2.2 k hk
  have ik' : ILk (wI h 63 3 0) h k := ILk_c (by omega) (fun c h1 h2 => kx0.1 c (Or.inl (by omega))) rfl rfl rfl rfl rfl rfl rfl rfl rfl ik
  have xe : ∃ g', XK_collect h 1 (8 + 5 * k) (nI r) = some g' ∧ KX g' h (kA h k (nI r) N 0 (0, fun _ _ => 0)) := by
    unfold XK_collect
    rw [hb_s, XA_looksAtRow_e ik' hr, b1_s]
    by_cases q : lr h k r = true
    · rw [q, if_neg (show ¬ bi true = 0 by decide)]
      have l := XK_collect_L18_e iv il hk hr N FU 0 _ _ (by omega) (by rw [FU_s]; omega) (by show (0 : Nat) ≤ 3 * 0; omega) kx0
      rw [nI_0] at l
      exact l
    · rw [kA_0 (Bool.eq_false_iff.mpr q), Bool.eq_false_iff.mpr q, if_pos (show bi false = 0 from rfl)]
      exact ⟨_, rfl, kx0⟩
  obtain ⟨g', ex, kx⟩ := xe
  refine ⟨g', ?_, Iv_kx kx iv, kx.2.1, fun c h1 h2 => kx.1 c (by omega), ⟨kx.1 150 (by omega), kx.1 151 (by omega)⟩, fun k _ _ => by rw [kx.1 126 (by omega)]⟩
  unfold XT_kinds
  rw [XT_isStatement_e, b1_s, il.2.2.2.2.1, wn_inn hk (by omega), if_neg z10.mp, XT_isRow_e, b1_s, show wn (nI r) 0 5 = 1 from wn_n (m := 5) (by omega) (by omega), if_neg z10.mp, inB_n (show k < 5 by omega) (by omega), gd_t, nI_clamp (by omega), ex, b1_s, kx.2.2.1]
  rfl
theorem kinds_m (iv : Iv h h) (il : IL h h N S) {k r : Nat} (hk : k < S) (hr : r < 6) : ∃ g', YM_findsKinds h (nI k) (nI r) = some (g', KV h N k r) ∧ QQ g' h := by
  have hN := il.1
  have km0 : KM (wI h 126 22 0) h (0, fun _ _ => 0) := ⟨fun c h1 h2 => by simp (disch := omega) only [wI_d, wD_i, fI_d, fD_i, wI_eq, wD_eq, wI_ne, wD_ne, fI_ne, fD_ne, wI_ns, wD_ns, fI_eq, fD_eq, fI_ns, fD_ns], fun k h1 => by simp (disch := omega) only [wI_d, wD_i, fI_d, fD_i, wI_eq, wD_eq, wI_ne, wD_ne, fI_ne, fD_ne, wI_ns, wD_ns, fI_eq, fD_eq, fI_ns, fD_ns], rfl, by simp (disch := omega) only [wI_d, wD_i, fI_d, fD_i, wI_eq, wD_eq, wI_ne, wD_ne, fI_ne, fD_ne, wI_ns, wD_ns, fI_eq, fD_eq, fI_ns, fD_ns]; rfl, fun j hj => absurd hj (Nat.not_lt_zero _)⟩
  obtain ⟨g2, e2, k2⟩ := YM_findsKinds_L7_e iv.2.2.1 il hk (r := r) N FU 0 _ _ (by omega) (by rw [FU_s]; omega) (by show (0 : Nat) ≤ 3 * 0; omega) (fun i j hi => absurd hi (Nat.not_lt_zero _)) km0
  rw [nI_0] at e2
  exact ⟨g2, e2, Iv_km k2 iv, k2.2.2.1, fun c h1 h2 => k2.1 c (by omega) (by omega), ⟨k2.1 150 (by omega) (by omega), k2.1 151 (by omega) (by omega)⟩, fun k h1 _ => k2.2.1 k h1⟩
theorem KV_c {g : sd_H} (q : QQ g h) (N k r : Nat) : KV g N k r = KV h N k r := by
  unfold KV
  rw [kA_c (QQ_sl q)]
theorem D_kinds (il : IL h h N S) {k r : Nat} (hk : k < S) (hr : r < 6) : DI h (fun g => XT_kinds g (nI k) (nI r)) (fun v => YM_findsKinds v (nI k) (nI r)) :=
  ⟨KV h N k r, fun g q => by
    obtain ⟨g', e, q'⟩ := kinds_x q.1 (QQ_il q il) hk hr
    exact ⟨g', e.trans (by rw [KV_c q]), QQ_t q' q⟩, fun v q => by
    obtain ⟨g', e, q'⟩ := kinds_m q.1 (QQ_il q il) hk hr
    exact ⟨g', e.trans (by rw [KV_c q]), QQ_t q' q⟩⟩
theorem D_verdict (il : IL h h N S) {r : Nat} (hr : r < 6) : DI h (fun g => XT_verdict g (nI r)) (fun v => YM_verdictOf v (nI r)) :=
  ⟨JU h N S r (h.1 127 r), fun g q => by
    obtain ⟨g', e, q'⟩ := X_verdict q.1 (QQ_il q il) hr
    exact ⟨g', e.trans (by rw [JU_c q, (QQ_sl q).2.1]), QQ_t q' q⟩, fun v q => by
    obtain ⟨g', e, q'⟩ := M_verdictOf q.1 (QQ_il q il) hr
    exact ⟨g', e.trans (by rw [JU_c q, (QQ_sl q).2.1]), QQ_t q' q⟩⟩
theorem D_witness (il : IL h h N S) {r d : Nat} (hr : r < 6) (hd : d ≤ 2) : DI h (fun g => XT_witness g (nI r) (nI d)) (fun v => YM_witnessOf v (nI r) (nI d)) :=
  ⟨WI h N r (nI d), fun g q => by
    obtain ⟨g', e, q'⟩ := X_witness q.1 (QQ_il q il) hr hd
    exact ⟨g', e.trans (by rw [WI_c q]), QQ_t q' q⟩, fun v q => by
    obtain ⟨g', e, q'⟩ := M_witnessOf q.1 (QQ_il q il) hr
    exact ⟨g', e.trans (by rw [WI_c q]), QQ_t q' q⟩⟩
theorem D_last (il : IL h h N S) {s r c : Nat} (h1 : 1 ≤ s) (hs : s ≤ 2) (hr : r < 6) (hc : c < 24) : DI h (fun g => XT_last g (nI s) (nI r) (nI c)) (fun v => YM_lastOf v (nI s) (nI r) (nI c)) :=
  ⟨nxI (la (ws h s r) c N), fun g q => by
    obtain ⟨g', e, q'⟩ := X_last q.1 (QQ_il q il) h1 hs hr hc
    exact ⟨g', e.trans (by rw [ws_c q]), QQ_t q' q⟩, fun v q => by
    obtain ⟨g', e, q'⟩ := M_lastOf q.1 (QQ_il q il) (show s < 4 by omega) hr hc
    exact ⟨g', e.trans (by rw [ws_c q]), QQ_t q' q⟩⟩
theorem D_ended (il : IL h h N S) (a : Int32) : DP h (fun g => XT_ended g a) (fun v => YM_ended v a) := by
  have c : ∀ g, QQ g h → YM_ended g a = YM_ended h a := fun g q => by
    unfold YM_ended
    rw [q.2.2.2.1.2, q.2.2.2.2 37 (by omega) (by omega)]
  by_cases e : ∃ v, YM_ended h a = some v
  · obtain ⟨v, e⟩ := e
    refine ⟨v, fun g q => ?_, fun g q => (c g q).trans e⟩
    obtain ⟨r, x, m⟩ := E_ended q.1 a
    rw [c g q, e] at m
    exact x.trans m.symm
  · refine ⟨0, fun g q => ?_, fun g q => ?_⟩
    · obtain ⟨r, x, m⟩ := E_ended q.1 a
      exact absurd ⟨r, (c g q).symm.trans m⟩ e
    · obtain ⟨r, x, m⟩ := E_ended q.1 a
      exact absurd ⟨r, (c g q).symm.trans m⟩ e
theorem faults_v (iv : Iv h h) {f : Nat} (hf : f < 3) : XT_faults h (nI f) = some (h.1 150 f) := by
  obtain ⟨r, x, m⟩ := E_faults iv (nI f)
  unfold YM_faults at m
  rw [YM_in_e, b1_s, show wn (nI f) 0 2 = 1 from wn_n (m := 2) (by omega) (by omega), if_neg z10.mp, inB_n hf (by omega), gd_t, nI_clamp (by omega)] at m
  rw [x, m]
end
