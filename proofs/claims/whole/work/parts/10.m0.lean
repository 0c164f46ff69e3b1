def M_XT_within : sd_MX := (yX11_within, cX11_within, 3, (some .boolean), { frames := 1, cells := 0, slots := 0, locals := 40 })
def XT_within (a0 : Int32) (a1 : Int32) (a2 : Int32) : Option Int32 :=
  (if a0 < a1 then some 0 else (if a2 < a0 then some 0 else some 1))
set_option maxHeartbeats 4000000 in
set_option maxRecDepth 100000 in
theorem T_XT_within {G : sd_GX} {h : sd_H} {a0 : Int32} {a1 : Int32} {a2 : Int32} {r : Int32} (hf : XT_within a0 a1 a2 = some r) : sd_RunF G M_XT_within [.int a0, .int a1, .int a2] h (some (.int r)) h := by
  refine sF_run ⟨rfl, rfl⟩ (by decide +kernel) (Nat.le_of_ble_eq_true rfl) (lo := [(0, .int a0), (1, .int a1), (2, .int a2)]) rfl (fun X hE => ?_)
  unfold XT_within at hf
  refine sd_iload_n (k := 0) (i := 0) (q := 0) (pc' := 1) (by decide +kernel) rfl rfl ?_
  refine sd_iload_n (k := 1) (i := 1) (q := 1) (pc' := 2) (by decide +kernel) rfl rfl ?_
  refine sd_icmp_lt (off := 12) (tgt := 14) (pc' := 5) (by decide +kernel) (fun c1 => ?_) (fun c1 => ?_)
  · replace hf := ite_p c1 hf
    refine sd_iconst (n := 0) (v := 0) (pc' := 15) (by decide +kernel) (by decide) ?_
    obtain rfl := Option.some.inj hf
    exact sd_zret (by decide +kernel) rfl rfl (hE _)
  · replace hf := ite_n c1 hf
    refine sd_iload_n (k := 0) (i := 0) (q := 0) (pc' := 6) (by decide +kernel) rfl rfl ?_
    refine sd_iload_n (k := 2) (i := 2) (q := 2) (pc' := 7) (by decide +kernel) rfl rfl ?_
    refine sd_icmp_gt (off := 7) (tgt := 14) (pc' := 10) (by decide +kernel) (fun c2 => ?_) (fun c2 => ?_)
    · replace hf := ite_p c2 hf
      refine sd_iconst (n := 0) (v := 0) (pc' := 15) (by decide +kernel) (by decide) ?_
      obtain rfl := Option.some.inj hf
      exact sd_zret (by decide +kernel) rfl rfl (hE _)
    · replace hf := ite_n c2 hf
      refine sd_iconst (n := 1) (v := 1) (pc' := 11) (by decide +kernel) (by decide) ?_
      refine sd_goto (off := 4) (tgt := 15) (pc' := 14) (by decide +kernel) ?_
      obtain rfl := Option.some.inj hf
      exact sd_zret (by decide +kernel) rfl rfl (hE _)

theorem ml_X11_97 : Cond.methodLink RX11 97 yX11_within ∈ sd_tb := sd_mem (i := 483) (by decide +kernel)
theorem mv_XT_within : sd_mS M_XT_within 3 := ⟨sd_mem (i := 484) (by decide +kernel), ⟨sd_mem (i := 485) (by decide +kernel), sd_mem (i := 108) (by decide +kernel), by decide +kernel, by decide +kernel, by decide +kernel⟩⟩
def M_XT_isRow : sd_MX := (yX11_isRow, cX11_isRow, 1, (some .boolean), { frames := 2, cells := 0, slots := 0, locals := 62 })
def XT_isRow (a0 : Int32) : Option Int32 :=
  b1 (XT_within a0 0 5) (fun t2 => gd (sd_isB t2) (some t2))
set_option maxHeartbeats 4000000 in
set_option maxRecDepth 100000 in
theorem T_XT_isRow {G : sd_GX} {h : sd_H} {a0 : Int32} {r : Int32} (hf : XT_isRow a0 = some r) : sd_RunF G M_XT_isRow [.int a0] h (some (.int r)) h := by
  refine sF_run ⟨rfl, rfl⟩ (by decide +kernel) (Nat.le_of_ble_eq_true rfl) (lo := [(0, .int a0)]) rfl (fun X hE => ?_)
  unfold XT_isRow at hf
  refine sd_iload_n (k := 0) (i := 0) (q := 0) (pc' := 1) (by decide +kernel) rfl rfl ?_
  refine sd_iconst (n := 0) (v := 0) (pc' := 2) (by decide +kernel) (by decide) ?_
  refine sd_iconst (n := 5) (v := 5) (pc' := 3) (by decide +kernel) (by decide) ?_
  obtain ⟨t2, q1, hf⟩ := b1_some hf
  refine sF_callS (idx := 97) (As := [.int a0, .int 0, .int 5]) (pc' := 6) 3 (T_XT_within (G := G) (h := h)  q1) (by decide +kernel) mv_XT_within ml_X11_97 (by decide +kernel) rfl rfl (Nat.le_of_ble_eq_true rfl) rfl ?_
  obtain ⟨g3, hf⟩ := gd_some hf
  obtain rfl := Option.some.inj hf
  exact sd_zret (by decide +kernel) rfl g3 (hE _)

theorem fl_X11_348 : sd_fl RX11 348 11 16 := ⟨sd_mem (i := 440) (by decide +kernel), by decide, by decide⟩
def M_XT_found : sd_MX := (yX11_found, cX11_found, 2, (some .int), { frames := 1, cells := 0, slots := 0, locals := 40 })
def XT_found (h : sd_H) (a0 : Int32) : Option (sd_H × Int32) :=
  hb (wI h 0 16 a0) (fun h1 => some (h1, ((-10) - a0)))
set_option maxHeartbeats 4000000 in
set_option maxRecDepth 100000 in
theorem T_XT_found {G : sd_GX} {h : sd_H} {a0 : Int32} {r : (sd_H × Int32)} (hf : XT_found h a0 = some r) : sd_RunF G M_XT_found [.ref (G.1 + 0), .int a0] h (some (.int r.2)) r.1 := by
  refine sF_run ⟨rfl, rfl⟩ (by decide +kernel) (Nat.le_of_ble_eq_true rfl) (lo := [(0, .ref (G.1 + 0)), (1, .int a0)]) rfl (fun X hE => ?_)
  unfold XT_found at hf
  refine sd_aload_n (k := 0) (i := 0) (q := 0) (pc' := 1) (by decide +kernel) rfl rfl ?_
  refine sd_iload_n (k := 1) (i := 1) (q := 1) (pc' := 2) (by decide +kernel) rfl rfl ?_
  obtain ⟨h1, e2, hf⟩ := hb_some hf
  refine sF_pi (idx := 348) (ci := 11) (k := 16) (n := 17) (pc' := 5) (by decide +kernel) fl_X11_348 (by decide +kernel) rfl rfl rfl SH_0 ?_
  rw [← e2]; clear e2
  refine sd_bipush (n := -10) (v := (-10)) (pc' := 7) (by decide +kernel) (by decide) ?_
  refine sd_iload_n (k := 1) (i := 1) (q := 1) (pc' := 8) (by decide +kernel) rfl rfl ?_
  refine sd_isub (pc' := 9) (by decide +kernel) ?_
  obtain rfl := Option.some.inj hf
  exact sd_iret (by decide +kernel) rfl (hE _)

theorem fl_X6_9 : sd_fl RX6 9 6 0 := ⟨sd_mem (i := 142) (by decide +kernel), by decide, by decide⟩
theorem fl_X6_15 : sd_fl RX6 15 6 1 := ⟨sd_mem (i := 146) (by decide +kernel), by decide, by decide⟩
theorem fl_X6_18 : sd_fl RX6 18 6 2 := ⟨sd_mem (i := 148) (by decide +kernel), by decide, by decide⟩
theorem fl_X6_22 : sd_fl RX6 22 6 3 := ⟨sd_mem (i := 151) (by decide +kernel), by decide, by decide⟩
def M_XR_make : sd_MX := (yX6_make, cX6_make, 5, none, { frames := 1, cells := 0, slots := 0, locals := 40 })
def XR_make_L20 : Nat → sd_H → Nat → Int32 → Int32 → Option sd_H
  | 0, _, _, _, _ => none
  | n + 1, h, l0, l1, l4 =>
  (if ((l1 + 1) * 24) ≤ l4 then some h else gd (sd_inB l4 144) (hb (wD h (l0 + 3) (l4 : Int32).toNatClampNeg FP.dconst0) (fun h9 => gd (sd_inB l4 144) (hb (wI h9 (l0 + 4) (l4 : Int32).toNatClampNeg (-1)) (fun h12 => XR_make_L20 n h12 l0 l1 (l4 + 1))))))
set_option maxHeartbeats 4000000 in
set_option maxRecDepth 100000 in
theorem J_XR_make_L20 {G : sd_GX} {X : sd_CX} (hE : ∀ g : sd_H, sd_end G X M_XR_make (sd_F g))  {r : sd_H} : ∀ (n : Nat) (h : sd_H) (l0 : Nat) (l1 : Int32) (l4 : Int32), sd_SH l0 = (6, 4) → XR_make_L20 n h l0 l1 l4 = some r → sd_J G X (sd_QR G X M_XR_make (none, sd_F r)) M_XR_make 20 [(0, .ref (G.1 + l0)), (1, .int l1), (4, .int l4)] [] (sd_F h) := by
  intro n
  induction n with
  | zero =>
    intro h l0 l1 l4 p0 hf
    rw [XR_make_L20] at hf
    cases hf
  | succ n ih =>
    intro h l0 l1 l4 p0 hf
    rw [XR_make_L20] at hf
    refine sd_iload (i := 4) (q := 2) (pc' := 22) (by decide +kernel) rfl ?_
    refine sd_iload_n (k := 1) (i := 1) (q := 1) (pc' := 23) (by decide +kernel) rfl rfl ?_
    refine sd_iconst (n := 1) (v := 1) (pc' := 24) (by decide +kernel) (by decide) ?_
    refine sd_iadd (pc' := 25) (by decide +kernel) ?_
    refine sd_bipush (n := 24) (v := 24) (pc' := 27) (by decide +kernel) (by decide) ?_
    refine sd_imul (pc' := 28) (by decide +kernel) ?_
    refine sd_icmp_ge (off := 25) (tgt := 53) (pc' := 31) (by decide +kernel) (fun c7 => ?_) (fun c7 => ?_)
    · replace hf := ite_p c7 hf
      obtain rfl := Option.some.inj hf
      exact sd_vret (by decide +kernel) rfl (hE _)
    · replace hf := ite_n c7 hf
      refine sd_aload_n (k := 0) (i := 0) (q := 0) (pc' := 32) (by decide +kernel) rfl rfl ?_
      refine sF_gr (idx := 18) (ci := 6) (k := 2) (n := 4) (r := (l0 + 3)) (pc' := 35) (by decide +kernel) fl_X6_18 (by decide +kernel) rfl p0 (by decide) (rt_6_2 p0) ?_
      refine sd_iload (i := 4) (q := 2) (pc' := 37) (by decide +kernel) rfl ?_
      refine sd_dconst0 (pc' := 38) (by decide +kernel) ?_
      obtain ⟨g8, hf⟩ := gd_some hf
      obtain ⟨h9, e10, hf⟩ := hb_some hf
      refine sF_dast (n := 144) (pc' := 39) (by decide +kernel) (sh_6_2 p0) g8 ?_
      rw [← e10]; clear e10
      refine sd_aload_n (k := 0) (i := 0) (q := 0) (pc' := 40) (by decide +kernel) rfl rfl ?_
      refine sF_gr (idx := 22) (ci := 6) (k := 3) (n := 4) (r := (l0 + 4)) (pc' := 43) (by decide +kernel) fl_X6_22 (by decide +kernel) rfl p0 (by decide) (rt_6_3 p0) ?_
      refine sd_iload (i := 4) (q := 2) (pc' := 45) (by decide +kernel) rfl ?_
      refine sd_iconst (n := -1) (v := (-1)) (pc' := 46) (by decide +kernel) (by decide) ?_
      obtain ⟨g11, hf⟩ := gd_some hf
      obtain ⟨h12, e13, hf⟩ := hb_some hf
      refine sF_iast (n := 144) (pc' := 47) (by decide +kernel) (sh_6_3 p0) g11 ?_
      rw [← e13]; clear e13
      refine sd_iinc (i := 4) (q := 2) (n := 1) (v := (l4 + 1)) (pc' := 50) (lo' := [(4, .int (l4 + 1)), (0, .ref (G.1 + l0)), (1, .int l1)]) (by decide +kernel) rfl rfl (by decide) rfl ?_
      refine sd_goto (off := -30) (tgt := 20) (pc' := 53) (by decide +kernel) ?_
      refine sd_J.sub (lo' := [(0, .ref (G.1 + l0)), (1, .int l1), (4, .int (l4 + 1))]) [1, 2, 0] rfl ?_
      exact ih _ _ _ _ p0 hf
def XR_make (h : sd_H) (this : Nat) (a0 : Int32) (a1 : Int32) (a2 : Int32) : Option sd_H :=
  gd (sd_inB a0 6) (hb (wI h (this + 1) (a0 : Int32).toNatClampNeg a1) (fun h2 => gd (sd_inB a0 6) (hb (wI h2 (this + 2) (a0 : Int32).toNatClampNeg a2) (fun h5 => XR_make_L20 FU h5 this a0 (a0 * 24)))))
set_option maxHeartbeats 4000000 in
set_option maxRecDepth 100000 in
theorem T_XR_make {G : sd_GX} {h : sd_H} {this : Nat} {a0 : Int32} {a1 : Int32} {a2 : Int32} {r : sd_H} (pt : sd_SH this = (6, 4)) (hf : XR_make h this a0 a1 a2 = some r) : sd_RunF G M_XR_make [.ref (G.1 + this), .int a0, .int a1, .int a2] h none r := by
  refine sF_run ⟨rfl, rfl⟩ (by decide +kernel) (Nat.le_of_ble_eq_true rfl) (lo := [(0, .ref (G.1 + this)), (1, .int a0), (2, .int a1), (3, .int a2)]) rfl (fun X hE => ?_)
  unfold XR_make at hf
  refine sd_aload_n (k := 0) (i := 0) (q := 0) (pc' := 1) (by decide +kernel) rfl rfl ?_
  refine sF_gr (idx := 9) (ci := 6) (k := 0) (n := 4) (r := (this + 1)) (pc' := 4) (by decide +kernel) fl_X6_9 (by decide +kernel) rfl pt (by decide) (rt_6_0 pt) ?_
  refine sd_iload_n (k := 1) (i := 1) (q := 1) (pc' := 5) (by decide +kernel) rfl rfl ?_
  refine sd_iload_n (k := 2) (i := 2) (q := 2) (pc' := 6) (by decide +kernel) rfl rfl ?_
  obtain ⟨g1, hf⟩ := gd_some hf
  obtain ⟨h2, e3, hf⟩ := hb_some hf
  refine sF_iast (n := 6) (pc' := 7) (by decide +kernel) (sh_6_0 pt) g1 ?_
  rw [← e3]; clear e3
  refine sd_aload_n (k := 0) (i := 0) (q := 0) (pc' := 8) (by decide +kernel) rfl rfl ?_
  refine sF_gr (idx := 15) (ci := 6) (k := 1) (n := 4) (r := (this + 2)) (pc' := 11) (by decide +kernel) fl_X6_15 (by decide +kernel) rfl pt (by decide) (rt_6_1 pt) ?_
  refine sd_iload_n (k := 1) (i := 1) (q := 1) (pc' := 12) (by decide +kernel) rfl rfl ?_
  refine sd_iload_n (k := 3) (i := 3) (q := 3) (pc' := 13) (by decide +kernel) rfl rfl ?_
  obtain ⟨g4, hf⟩ := gd_some hf
  obtain ⟨h5, e6, hf⟩ := hb_some hf
  refine sF_iast (n := 6) (pc' := 14) (by decide +kernel) (sh_6_1 pt) g4 ?_
  rw [← e6]; clear e6
  refine sd_iload_n (k := 1) (i := 1) (q := 1) (pc' := 15) (by decide +kernel) rfl rfl ?_
  refine sd_bipush (n := 24) (v := 24) (pc' := 17) (by decide +kernel) (by decide) ?_
  refine sd_imul (pc' := 18) (by decide +kernel) ?_
  refine sd_istore (i := 4) (pc' := 20) (lo' := [(4, .int (a0 * 24)), (0, .ref (G.1 + this)), (1, .int a0), (2, .int a1), (3, .int a2)]) (by decide +kernel) (by decide) rfl ?_
  refine sd_J.sub (lo' := [(0, .ref (G.1 + this)), (1, .int a0), (4, .int (a0 * 24))]) [1, 2, 0] rfl ?_
  exact J_XR_make_L20 hE _ _ _ _ _ pt hf

theorem ml_X11_93 : Cond.methodLink RX11 93 yX11_isRow ∈ sd_tb := sd_mem (i := 480) (by decide +kernel)
theorem mv_XT_isRow : sd_mS M_XT_isRow 1 := ⟨sd_mem (i := 481) (by decide +kernel), ⟨sd_mem (i := 482) (by decide +kernel), sd_mem (i := 108) (by decide +kernel), by decide +kernel, by decide +kernel, by decide +kernel⟩⟩
theorem fl_X11_12 : sd_fl RX11 12 11 0 := ⟨sd_mem (i := 424) (by decide +kernel), by decide, by decide⟩
theorem ml_X11_105 : Cond.methodLink RX11 105 yX6_make ∈ sd_tb := sd_mem (i := 490) (by decide +kernel)
theorem mv_XR_make : sd_mV M_XR_make 3 := ⟨sd_mem (i := 491) (by decide +kernel), sd_mem (i := 492) (by decide +kernel), ⟨sd_mem (i := 493) (by decide +kernel), sd_mem (i := 109) (by decide +kernel), by decide +kernel, by decide +kernel, by decide +kernel⟩⟩
theorem fl_X11_41 : sd_fl RX11 41 11 4 := ⟨sd_mem (i := 428) (by decide +kernel), by decide, by decide⟩
theorem fl_X11_109 : sd_fl RX11 109 10 5 := ⟨sd_mem (i := 303) (by decide +kernel), by decide, by decide⟩
theorem ml_X11_101 : Cond.methodLink RX11 101 yX11_found ∈ sd_tb := sd_mem (i := 486) (by decide +kernel)
theorem mv_XT_found : sd_mV M_XT_found 1 := ⟨sd_mem (i := 488) (by decide +kernel), sd_mem (i := 0) (by decide +kernel), ⟨sd_mem (i := 489) (by decide +kernel), sd_mem (i := 108) (by decide +kernel), by decide +kernel, by decide +kernel, by decide +kernel⟩⟩
def M_XT_row : sd_MX := (yX11_row, cX11_row, 4, (some .int), { frames := 3, cells := 0, slots := 0, locals := 82 })
def XT_row (h : sd_H) (a0 : Int32) (a1 : Int32) (a2 : Int32) : Option (sd_H × Int32) :=
  b1 (XT_isRow a0) (fun t2 => (if t2 = 0 then some (h, (-2)) else b1 (XT_within a1 0 4) (fun t5 => (if t5 = 0 then some (h, (-2)) else (if a2 ≤ 24 then (if 0 ≤ a2 then b1 (XR_make h 1 a0 a1 a2) (fun h10 => hb (wI h10 56 5 1) (fun h11 => some (h11, a2))) else b2 (XT_found h 5) (fun h14 t15 => some (h14, t15))) else some (h, (-2)))))))
set_option maxHeartbeats 4000000 in
set_option maxRecDepth 100000 in
theorem T_XT_row {G : sd_GX} {h : sd_H} {a0 : Int32} {a1 : Int32} {a2 : Int32} {r : (sd_H × Int32)} (hf : XT_row h a0 a1 a2 = some r) : sd_RunF G M_XT_row [.ref (G.1 + 0), .int a0, .int a1, .int a2] h (some (.int r.2)) r.1 := by
  refine sF_run ⟨rfl, rfl⟩ (by decide +kernel) (Nat.le_of_ble_eq_true rfl) (lo := [(0, .ref (G.1 + 0)), (1, .int a0), (2, .int a1), (3, .int a2)]) rfl (fun X hE => ?_)
  unfold XT_row at hf
  refine sd_iload_n (k := 1) (i := 1) (q := 1) (pc' := 1) (by decide +kernel) rfl rfl ?_
  obtain ⟨t2, q1, hf⟩ := b1_some hf
  refine sF_callS (idx := 93) (As := [.int a0]) (pc' := 4) 1 (T_XT_isRow (G := G) (h := h)  q1) (by decide +kernel) mv_XT_isRow ml_X11_93 (by decide +kernel) rfl rfl (Nat.le_of_ble_eq_true rfl) rfl ?_
  refine sd_if_eq (off := 18) (tgt := 22) (pc' := 7) (by decide +kernel) (fun c3 => ?_) (fun c3 => ?_)
  · replace hf := ite_p c3 hf
    refine sd_bipush (n := -2) (v := (-2)) (pc' := 24) (by decide +kernel) (by decide) ?_
    obtain rfl := Option.some.inj hf
    exact sd_iret (by decide +kernel) rfl (hE _)
  · replace hf := ite_n c3 hf
    refine sd_iload_n (k := 2) (i := 2) (q := 2) (pc' := 8) (by decide +kernel) rfl rfl ?_
    refine sd_iconst (n := 0) (v := 0) (pc' := 9) (by decide +kernel) (by decide) ?_
    refine sd_iconst (n := 4) (v := 4) (pc' := 10) (by decide +kernel) (by decide) ?_
    obtain ⟨t5, q4, hf⟩ := b1_some hf
    refine sF_callS (idx := 97) (As := [.int a1, .int 0, .int 4]) (pc' := 13) 3 (T_XT_within (G := G) (h := h)  q4) (by decide +kernel) mv_XT_within ml_X11_97 (by decide +kernel) rfl rfl (Nat.le_of_ble_eq_true rfl) rfl ?_
    refine sd_if_eq (off := 9) (tgt := 22) (pc' := 16) (by decide +kernel) (fun c6 => ?_) (fun c6 => ?_)
    · replace hf := ite_p c6 hf
      refine sd_bipush (n := -2) (v := (-2)) (pc' := 24) (by decide +kernel) (by decide) ?_
      obtain rfl := Option.some.inj hf
      exact sd_iret (by decide +kernel) rfl (hE _)
    · replace hf := ite_n c6 hf
      refine sd_iload_n (k := 3) (i := 3) (q := 3) (pc' := 17) (by decide +kernel) rfl rfl ?_
      refine sd_bipush (n := 24) (v := 24) (pc' := 19) (by decide +kernel) (by decide) ?_
      refine sd_icmp_le (off := 6) (tgt := 25) (pc' := 22) (by decide +kernel) (fun c7 => ?_) (fun c7 => ?_)
      · replace hf := ite_p c7 hf
        refine sd_iload_n (k := 3) (i := 3) (q := 3) (pc' := 26) (by decide +kernel) rfl rfl ?_
        refine sd_if_ge (off := 9) (tgt := 35) (pc' := 29) (by decide +kernel) (fun c8 => ?_) (fun c8 => ?_)
        · replace hf := ite_p c8 hf
          refine sd_aload_n (k := 0) (i := 0) (q := 0) (pc' := 36) (by decide +kernel) rfl rfl ?_
          refine sF_gr (idx := 12) (ci := 11) (k := 0) (n := 17) (r := 1) (pc' := 39) (by decide +kernel) fl_X11_12 (by decide +kernel) rfl SH_0 (by decide) (by decide +kernel) ?_
          refine sd_iload_n (k := 1) (i := 1) (q := 1) (pc' := 40) (by decide +kernel) rfl rfl ?_
          refine sd_iload_n (k := 2) (i := 2) (q := 2) (pc' := 41) (by decide +kernel) rfl rfl ?_
          refine sd_iload_n (k := 3) (i := 3) (q := 3) (pc' := 42) (by decide +kernel) rfl rfl ?_
          obtain ⟨h10, q9, hf⟩ := b1_some hf
          refine sF_callV0 (idx := 105) (b := 1) (As := [.int a0, .int a1, .int a2]) (ci := 6) (nn := 4) (pc' := 45) 3 (T_XR_make (G := G) (h := h) SH_1 q9) (by decide +kernel) mv_XR_make ml_X11_105 (by decide +kernel) rfl rfl (Nat.le_of_ble_eq_true rfl) SH_1 rfl (by decide) rfl rfl ?_
          refine sd_aload_n (k := 0) (i := 0) (q := 0) (pc' := 46) (by decide +kernel) rfl rfl ?_
          refine sF_gr (idx := 41) (ci := 11) (k := 4) (n := 17) (r := 56) (pc' := 49) (by decide +kernel) fl_X11_41 (by decide +kernel) rfl SH_0 (by decide) (by decide +kernel) ?_
          refine sd_iconst (n := 1) (v := 1) (pc' := 50) (by decide +kernel) (by decide) ?_
          obtain ⟨h11, e12, hf⟩ := hb_some hf
          refine sF_pz (idx := 109) (ci := 10) (k := 5) (n := 6) (pc' := 53) (by decide +kernel) fl_X11_109 (by decide +kernel) rfl rfl rfl SH_56 (by decide) ?_
          rw [← e12]; clear e12
          refine sd_iload_n (k := 3) (i := 3) (q := 3) (pc' := 54) (by decide +kernel) rfl rfl ?_
          obtain rfl := Option.some.inj hf
          exact sd_iret (by decide +kernel) rfl (hE _)
        · replace hf := ite_n c8 hf
          refine sd_aload_n (k := 0) (i := 0) (q := 0) (pc' := 30) (by decide +kernel) rfl rfl ?_
          refine sd_iconst (n := 5) (v := 5) (pc' := 31) (by decide +kernel) (by decide) ?_
          obtain ⟨h14, t15, q13, hf⟩ := b2_some hf
          refine sF_callV (idx := 101) (b := 0) (As := [.int 5]) (ci := 11) (nn := 17) (pc' := 34) 1 (T_XT_found (G := G) (h := h)  q13) (by decide +kernel) mv_XT_found ml_X11_101 (by decide +kernel) rfl rfl (Nat.le_of_ble_eq_true rfl) SH_0 rfl (by decide) rfl rfl ?_
          obtain rfl := Option.some.inj hf
          exact sd_iret (by decide +kernel) rfl (hE _)
      · replace hf := ite_n c7 hf
        refine sd_bipush (n := -2) (v := (-2)) (pc' := 24) (by decide +kernel) (by decide) ?_
        obtain rfl := Option.some.inj hf
        exact sd_iret (by decide +kernel) rfl (hE _)

def M_XR_isMissing : sd_MX := (yX6_isMissing, cX6_isMissing, 2, (some .boolean), { frames := 1, cells := 0, slots := 0, locals := 40 })
def XR_isMissing (h : sd_H) (this : Nat) (a0 : Int32) : Option Int32 :=
  gd (sd_inB a0 6) ((if (h.1 (this + 1) (a0 : Int32).toNatClampNeg) = (-1) then some 1 else some 0))
set_option maxHeartbeats 4000000 in
set_option maxRecDepth 100000 in
theorem T_XR_isMissing {G : sd_GX} {h : sd_H} {this : Nat} {a0 : Int32} {r : Int32} (pt : sd_SH this = (6, 4)) (hf : XR_isMissing h this a0 = some r) : sd_RunF G M_XR_isMissing [.ref (G.1 + this), .int a0] h (some (.int r)) h := by
  refine sF_run ⟨rfl, rfl⟩ (by decide +kernel) (Nat.le_of_ble_eq_true rfl) (lo := [(0, .ref (G.1 + this)), (1, .int a0)]) rfl (fun X hE => ?_)
  unfold XR_isMissing at hf
  refine sd_aload_n (k := 0) (i := 0) (q := 0) (pc' := 1) (by decide +kernel) rfl rfl ?_
  refine sF_gr (idx := 9) (ci := 6) (k := 0) (n := 4) (r := (this + 1)) (pc' := 4) (by decide +kernel) fl_X6_9 (by decide +kernel) rfl pt (by decide) (rt_6_0 pt) ?_
  refine sd_iload_n (k := 1) (i := 1) (q := 1) (pc' := 5) (by decide +kernel) rfl rfl ?_
  obtain ⟨g1, hf⟩ := gd_some hf
  refine sF_iald (n := 6) (pc' := 6) (by decide +kernel) (sh_6_0 pt) g1 ?_
  refine sd_iconst (n := -1) (v := (-1)) (pc' := 7) (by decide +kernel) (by decide) ?_
  refine sd_icmp_ne (off := 7) (tgt := 14) (pc' := 10) (by decide +kernel) (fun c2 => ?_) (fun c2 => ?_)
  · replace hf := ite_n c2 hf
    refine sd_iconst (n := 0) (v := 0) (pc' := 15) (by decide +kernel) (by decide) ?_
    obtain rfl := Option.some.inj hf
    exact sd_zret (by decide +kernel) rfl rfl (hE _)
  · replace hf := ite_p c2 hf
    refine sd_iconst (n := 1) (v := 1) (pc' := 11) (by decide +kernel) (by decide) ?_
    refine sd_goto (off := 4) (tgt := 15) (pc' := 14) (by decide +kernel) ?_
    obtain rfl := Option.some.inj hf
    exact sd_zret (by decide +kernel) rfl rfl (hE _)

theorem ml_X11_113 : Cond.methodLink RX11 113 yX6_isMissing ∈ sd_tb := sd_mem (i := 498) (by decide +kernel)
theorem mv_XR_isMissing : sd_mV M_XR_isMissing 1 := ⟨sd_mem (i := 499) (by decide +kernel), sd_mem (i := 500) (by decide +kernel), ⟨sd_mem (i := 501) (by decide +kernel), sd_mem (i := 109) (by decide +kernel), by decide +kernel, by decide +kernel, by decide +kernel⟩⟩
theorem fl_X11_116 : sd_fl RX11 116 6 1 := ⟨sd_mem (i := 147) (by decide +kernel), by decide, by decide⟩
def M_XT_lose : sd_MX := (yX11_lose, cX11_lose, 3, (some .int), { frames := 3, cells := 0, slots := 0, locals := 82 })
def XT_lose (h : sd_H) (a0 : Int32) : Option (sd_H × Int32) :=
  b1 (XT_isRow a0) (fun t2 => (if t2 = 0 then some (h, (-2)) else b1 (XR_isMissing h 1 a0) (fun t5 => (if t5 = 0 then gd (sd_inB a0 6) (b1 (XR_make h 1 a0 (-1) 0) (fun h9 => hb (wI h9 56 5 1) (fun h10 => some (h10, (h.1 3 (a0 : Int32).toNatClampNeg))))) else b2 (XT_found h 1) (fun h13 t14 => some (h13, t14))))))
set_option maxHeartbeats 4000000 in
set_option maxRecDepth 100000 in
theorem T_XT_lose {G : sd_GX} {h : sd_H} {a0 : Int32} {r : (sd_H × Int32)} (hf : XT_lose h a0 = some r) : sd_RunF G M_XT_lose [.ref (G.1 + 0), .int a0] h (some (.int r.2)) r.1 := by
  refine sF_run ⟨rfl, rfl⟩ (by decide +kernel) (Nat.le_of_ble_eq_true rfl) (lo := [(0, .ref (G.1 + 0)), (1, .int a0)]) rfl (fun X hE => ?_)
  unfold XT_lose at hf
  refine sd_iload_n (k := 1) (i := 1) (q := 1) (pc' := 1) (by decide +kernel) rfl rfl ?_
  obtain ⟨t2, q1, hf⟩ := b1_some hf
  refine sF_callS (idx := 93) (As := [.int a0]) (pc' := 4) 1 (T_XT_isRow (G := G) (h := h)  q1) (by decide +kernel) mv_XT_isRow ml_X11_93 (by decide +kernel) rfl rfl (Nat.le_of_ble_eq_true rfl) rfl ?_
  refine sd_if_ne (off := 6) (tgt := 10) (pc' := 7) (by decide +kernel) (fun c3 => ?_) (fun c3 => ?_)
  · replace hf := ite_n c3 hf
    refine sd_aload_n (k := 0) (i := 0) (q := 0) (pc' := 11) (by decide +kernel) rfl rfl ?_
    refine sF_gr (idx := 12) (ci := 11) (k := 0) (n := 17) (r := 1) (pc' := 14) (by decide +kernel) fl_X11_12 (by decide +kernel) rfl SH_0 (by decide) (by decide +kernel) ?_
    refine sd_iload_n (k := 1) (i := 1) (q := 1) (pc' := 15) (by decide +kernel) rfl rfl ?_
    obtain ⟨t5, q4, hf⟩ := b1_some hf
    refine sF_callV (idx := 113) (b := 1) (As := [.int a0]) (ci := 6) (nn := 4) (pc' := 18) 1 (T_XR_isMissing (G := G) (h := h) SH_1 q4) (by decide +kernel) mv_XR_isMissing ml_X11_113 (by decide +kernel) rfl rfl (Nat.le_of_ble_eq_true rfl) SH_1 rfl (by decide) rfl rfl ?_
    refine sd_if_eq (off := 9) (tgt := 27) (pc' := 21) (by decide +kernel) (fun c6 => ?_) (fun c6 => ?_)
    · replace hf := ite_p c6 hf
      refine sd_aload_n (k := 0) (i := 0) (q := 0) (pc' := 28) (by decide +kernel) rfl rfl ?_
      refine sF_gr (idx := 12) (ci := 11) (k := 0) (n := 17) (r := 1) (pc' := 31) (by decide +kernel) fl_X11_12 (by decide +kernel) rfl SH_0 (by decide) (by decide +kernel) ?_
      refine sF_gr (idx := 116) (ci := 6) (k := 1) (n := 4) (r := 3) (pc' := 34) (by decide +kernel) fl_X11_116 (by decide +kernel) rfl SH_1 (by decide) (by decide +kernel) ?_
      refine sd_iload_n (k := 1) (i := 1) (q := 1) (pc' := 35) (by decide +kernel) rfl rfl ?_
      obtain ⟨g7, hf⟩ := gd_some hf
      refine sF_iald (n := 6) (pc' := 36) (by decide +kernel) SH_3 g7 ?_
      refine sd_istore_n (k := 2) (i := 2) (pc' := 37) (lo' := [(2, .int (h.1 3 (a0 : Int32).toNatClampNeg)), (0, .ref (G.1 + 0)), (1, .int a0)]) (by decide +kernel) rfl (by decide) rfl ?_
      refine sd_aload_n (k := 0) (i := 0) (q := 1) (pc' := 38) (by decide +kernel) rfl rfl ?_
      refine sF_gr (idx := 12) (ci := 11) (k := 0) (n := 17) (r := 1) (pc' := 41) (by decide +kernel) fl_X11_12 (by decide +kernel) rfl SH_0 (by decide) (by decide +kernel) ?_
      refine sd_iload_n (k := 1) (i := 1) (q := 2) (pc' := 42) (by decide +kernel) rfl rfl ?_
      refine sd_iconst (n := -1) (v := (-1)) (pc' := 43) (by decide +kernel) (by decide) ?_
      refine sd_iconst (n := 0) (v := 0) (pc' := 44) (by decide +kernel) (by decide) ?_
      obtain ⟨h9, q8, hf⟩ := b1_some hf
      refine sF_callV0 (idx := 105) (b := 1) (As := [.int a0, .int (-1), .int 0]) (ci := 6) (nn := 4) (pc' := 47) 3 (T_XR_make (G := G) (h := h) SH_1 q8) (by decide +kernel) mv_XR_make ml_X11_105 (by decide +kernel) rfl rfl (Nat.le_of_ble_eq_true rfl) SH_1 rfl (by decide) rfl rfl ?_
      refine sd_aload_n (k := 0) (i := 0) (q := 1) (pc' := 48) (by decide +kernel) rfl rfl ?_
      refine sF_gr (idx := 41) (ci := 11) (k := 4) (n := 17) (r := 56) (pc' := 51) (by decide +kernel) fl_X11_41 (by decide +kernel) rfl SH_0 (by decide) (by decide +kernel) ?_
      refine sd_iconst (n := 1) (v := 1) (pc' := 52) (by decide +kernel) (by decide) ?_
      obtain ⟨h10, e11, hf⟩ := hb_some hf
      refine sF_pz (idx := 109) (ci := 10) (k := 5) (n := 6) (pc' := 55) (by decide +kernel) fl_X11_109 (by decide +kernel) rfl rfl rfl SH_56 (by decide) ?_
      rw [← e11]; clear e11
      refine sd_iload_n (k := 2) (i := 2) (q := 0) (pc' := 56) (by decide +kernel) rfl rfl ?_
      obtain rfl := Option.some.inj hf
      exact sd_iret (by decide +kernel) rfl (hE _)
    · replace hf := ite_n c6 hf
      refine sd_aload_n (k := 0) (i := 0) (q := 0) (pc' := 22) (by decide +kernel) rfl rfl ?_
      refine sd_iconst (n := 1) (v := 1) (pc' := 23) (by decide +kernel) (by decide) ?_
      obtain ⟨h13, t14, q12, hf⟩ := b2_some hf
      refine sF_callV (idx := 101) (b := 0) (As := [.int 1]) (ci := 11) (nn := 17) (pc' := 26) 1 (T_XT_found (G := G) (h := h)  q12) (by decide +kernel) mv_XT_found ml_X11_101 (by decide +kernel) rfl rfl (Nat.le_of_ble_eq_true rfl) SH_0 rfl (by decide) rfl rfl ?_
      obtain rfl := Option.some.inj hf
      exact sd_iret (by decide +kernel) rfl (hE _)
  · replace hf := ite_p c3 hf
    refine sd_bipush (n := -2) (v := (-2)) (pc' := 9) (by decide +kernel) (by decide) ?_
    obtain rfl := Option.some.inj hf
    exact sd_iret (by decide +kernel) rfl (hE _)

def M_XR_hasCell : sd_MX := (yX6_hasCell, cX6_hasCell, 3, (some .boolean), { frames := 1, cells := 0, slots := 0, locals := 40 })
def XR_hasCell (h : sd_H) (this : Nat) (a0 : Int32) (a1 : Int32) : Option Int32 :=
  (if a1 < 0 then some 0 else gd (sd_inB a0 6) ((if (h.1 (this + 2) (a0 : Int32).toNatClampNeg) ≤ a1 then some 0 else some 1)))
set_option maxHeartbeats 4000000 in
set_option maxRecDepth 100000 in
theorem T_XR_hasCell {G : sd_GX} {h : sd_H} {this : Nat} {a0 : Int32} {a1 : Int32} {r : Int32} (pt : sd_SH this = (6, 4)) (hf : XR_hasCell h this a0 a1 = some r) : sd_RunF G M_XR_hasCell [.ref (G.1 + this), .int a0, .int a1] h (some (.int r)) h := by
  refine sF_run ⟨rfl, rfl⟩ (by decide +kernel) (Nat.le_of_ble_eq_true rfl) (lo := [(0, .ref (G.1 + this)), (1, .int a0), (2, .int a1)]) rfl (fun X hE => ?_)
  unfold XR_hasCell at hf
  refine sd_iload_n (k := 2) (i := 2) (q := 2) (pc' := 1) (by decide +kernel) rfl rfl ?_
  refine sd_if_lt (off := 17) (tgt := 18) (pc' := 4) (by decide +kernel) (fun c1 => ?_) (fun c1 => ?_)
  · replace hf := ite_p c1 hf
    refine sd_iconst (n := 0) (v := 0) (pc' := 19) (by decide +kernel) (by decide) ?_
    obtain rfl := Option.some.inj hf
    exact sd_zret (by decide +kernel) rfl rfl (hE _)
  · replace hf := ite_n c1 hf
    refine sd_iload_n (k := 2) (i := 2) (q := 2) (pc' := 5) (by decide +kernel) rfl rfl ?_
    refine sd_aload_n (k := 0) (i := 0) (q := 0) (pc' := 6) (by decide +kernel) rfl rfl ?_
    refine sF_gr (idx := 15) (ci := 6) (k := 1) (n := 4) (r := (this + 2)) (pc' := 9) (by decide +kernel) fl_X6_15 (by decide +kernel) rfl pt (by decide) (rt_6_1 pt) ?_
    refine sd_iload_n (k := 1) (i := 1) (q := 1) (pc' := 10) (by decide +kernel) rfl rfl ?_
    obtain ⟨g2, hf⟩ := gd_some hf
    refine sF_iald (n := 6) (pc' := 11) (by decide +kernel) (sh_6_1 pt) g2 ?_
    refine sd_icmp_ge (off := 7) (tgt := 18) (pc' := 14) (by decide +kernel) (fun c3 => ?_) (fun c3 => ?_)
    · replace hf := ite_p c3 hf
      refine sd_iconst (n := 0) (v := 0) (pc' := 19) (by decide +kernel) (by decide) ?_
      obtain rfl := Option.some.inj hf
      exact sd_zret (by decide +kernel) rfl rfl (hE _)
    · replace hf := ite_n c3 hf
      refine sd_iconst (n := 1) (v := 1) (pc' := 15) (by decide +kernel) (by decide) ?_
      refine sd_goto (off := 4) (tgt := 19) (pc' := 18) (by decide +kernel) ?_
      obtain rfl := Option.some.inj hf
      exact sd_zret (by decide +kernel) rfl rfl (hE _)

def M_XN_told : sd_MX := (yX3_told, cX3_told, 2, (some .double), { frames := 1, cells := 0, slots := 0, locals := 40 })
def XN_told (a0 : Int32) (a1 : Int32) : Option UInt64 :=
  (if a0 = 0 then some (FP.i2d (i2s a1)) else (if a0 = 1 then some (FP.i2d a1) else (if a0 = 2 then gd (nf (FP.fdiv (FP.i2f a1) 1090519040)) (gd (nd (FP.f2d (FP.fdiv (FP.i2f a1) 1090519040))) (some (FP.f2d (FP.fdiv (FP.i2f a1) 1090519040)))) else (if a0 = 3 then gd (nd (FP.ddiv (FP.i2d a1) 4620693217682128896)) (some (FP.ddiv (FP.i2d a1) 4620693217682128896)) else (some (FP.i2d (a1 &&& 1)))))))
set_option maxHeartbeats 4000000 in
set_option maxRecDepth 100000 in
theorem T_XN_told {G : sd_GX} {h : sd_H} {a0 : Int32} {a1 : Int32} {r : UInt64} (hf : XN_told a0 a1 = some r) : sd_RunF G M_XN_told [.int a0, .int a1] h (some (.double r)) h := by
  refine sF_run ⟨rfl, rfl⟩ (by decide +kernel) (Nat.le_of_ble_eq_true rfl) (lo := [(0, .int a0), (1, .int a1)]) rfl (fun X hE => ?_)
  unfold XN_told at hf
  refine sd_iload_n (k := 0) (i := 0) (q := 0) (pc' := 1) (by decide +kernel) rfl rfl ?_
  by_cases c1_0 : a0 = 0
  · replace hf := ite_p c1_0 hf
    refine sd_tswIn (dflt := 52) (lo0 := 0) (hi0 := 3) (offs := #[31, 35, 38, 45]) (len := 31) (off := 31) (tgt := 32) (pc' := 32) (by decide +kernel) (by rw [c1_0]; decide) (by rw [c1_0]; decide) (by rw [c1_0]; decide) ?_
    refine sd_iload_n (k := 1) (i := 1) (q := 1) (pc' := 33) (by decide +kernel) rfl rfl ?_
    refine sd_i2s (pc' := 34) (by decide +kernel) rfl ?_
    refine sd_i2d (pc' := 35) (by decide +kernel) ?_
    obtain rfl := Option.some.inj hf
    exact sd_dret (by decide +kernel) rfl (hE _)
  · replace hf := ite_n c1_0 hf
    by_cases c1_1 : a0 = 1
    · replace hf := ite_p c1_1 hf
      refine sd_tswIn (dflt := 52) (lo0 := 0) (hi0 := 3) (offs := #[31, 35, 38, 45]) (len := 31) (off := 35) (tgt := 36) (pc' := 32) (by decide +kernel) (by rw [c1_1]; decide) (by rw [c1_1]; decide) (by rw [c1_1]; decide) ?_
      refine sd_iload_n (k := 1) (i := 1) (q := 1) (pc' := 37) (by decide +kernel) rfl rfl ?_
      refine sd_i2d (pc' := 38) (by decide +kernel) ?_
      obtain rfl := Option.some.inj hf
      exact sd_dret (by decide +kernel) rfl (hE _)
    · replace hf := ite_n c1_1 hf
      by_cases c1_2 : a0 = 2
      · replace hf := ite_p c1_2 hf
        refine sd_tswIn (dflt := 52) (lo0 := 0) (hi0 := 3) (offs := #[31, 35, 38, 45]) (len := 31) (off := 38) (tgt := 39) (pc' := 32) (by decide +kernel) (by rw [c1_2]; decide) (by rw [c1_2]; decide) (by rw [c1_2]; decide) ?_
        refine sd_iload_n (k := 1) (i := 1) (q := 1) (pc' := 40) (by decide +kernel) rfl rfl ?_
        refine sd_i2f (pc' := 41) (by decide +kernel) ?_
        refine sd_ldcf (idx := 9) (v := 1090519040) (pc' := 43) (by decide +kernel) (sd_mem (i := 513) (by decide +kernel)) ?_
        obtain ⟨g2, hf⟩ := gd_some hf
        refine sd_fdiv (pc' := 44) (by decide +kernel) (nf_of g2) ?_
        obtain ⟨g3, hf⟩ := gd_some hf
        refine sd_f2d (pc' := 45) (by decide +kernel) (nd_of g3) ?_
        obtain rfl := Option.some.inj hf
        exact sd_dret (by decide +kernel) rfl (hE _)
      · replace hf := ite_n c1_2 hf
        by_cases c1_3 : a0 = 3
        · replace hf := ite_p c1_3 hf
          refine sd_tswIn (dflt := 52) (lo0 := 0) (hi0 := 3) (offs := #[31, 35, 38, 45]) (len := 31) (off := 45) (tgt := 46) (pc' := 32) (by decide +kernel) (by rw [c1_3]; decide) (by rw [c1_3]; decide) (by rw [c1_3]; decide) ?_
          refine sd_iload_n (k := 1) (i := 1) (q := 1) (pc' := 47) (by decide +kernel) rfl rfl ?_
          refine sd_i2d (pc' := 48) (by decide +kernel) ?_
          refine sd_ldc2d (idx := 10) (v := 4620693217682128896) (pc' := 51) (by decide +kernel) (sd_mem (i := 514) (by decide +kernel)) ?_
          obtain ⟨g4, hf⟩ := gd_some hf
          refine sd_ddiv (pc' := 52) (by decide +kernel) (nd_of g4) ?_
          obtain rfl := Option.some.inj hf
          exact sd_dret (by decide +kernel) rfl (hE _)
        · replace hf := ite_n c1_3 hf
          have nc1_0 := ne_ti c1_0 (n := 0) (by decide)
          have nc1_1 := ne_ti c1_1 (n := 1) (by decide)
          have nc1_2 := ne_ti c1_2 (n := 2) (by decide)
          have nc1_3 := ne_ti c1_3 (n := 3) (by decide)
          refine sd_tswOut (dflt := 52) (lo0 := 0) (hi0 := 3) (offs := #[31, 35, 38, 45]) (len := 31) (tgt := 53) (pc' := 32) (by decide +kernel) (by omega) ?_
          refine sd_iload_n (k := 1) (i := 1) (q := 1) (pc' := 54) (by decide +kernel) rfl rfl ?_
          refine sd_iconst (n := 1) (v := 1) (pc' := 55) (by decide +kernel) (by decide) ?_
          refine sd_iand (pc' := 56) (by decide +kernel) ?_
          refine sd_i2d (pc' := 57) (by decide +kernel) ?_
          obtain rfl := Option.some.inj hf
          exact sd_dret (by decide +kernel) rfl (hE _)

theorem fl_X11_119 : sd_fl RX11 119 6 0 := ⟨sd_mem (i := 144) (by decide +kernel), by decide, by decide⟩
theorem ml_X11_122 : Cond.methodLink RX11 122 yX6_hasCell ∈ sd_tb := sd_mem (i := 506) (by decide +kernel)
theorem mv_XR_hasCell : sd_mV M_XR_hasCell 2 := ⟨sd_mem (i := 507) (by decide +kernel), sd_mem (i := 508) (by decide +kernel), ⟨sd_mem (i := 509) (by decide +kernel), sd_mem (i := 109) (by decide +kernel), by decide +kernel, by decide +kernel, by decide +kernel⟩⟩
theorem fl_X11_126 : sd_fl RX11 126 6 2 := ⟨sd_mem (i := 149) (by decide +kernel), by decide, by decide⟩
theorem ml_X11_130 : Cond.methodLink RX11 130 yX3_told ∈ sd_tb := sd_mem (i := 510) (by decide +kernel)
theorem mv_XN_told : sd_mS M_XN_told 2 := ⟨sd_mem (i := 511) (by decide +kernel), ⟨sd_mem (i := 512) (by decide +kernel), sd_mem (i := 120) (by decide +kernel), by decide +kernel, by decide +kernel, by decide +kernel⟩⟩
def M_XT_put : sd_MX := (yX11_put, cX11_put, 5, (some .int), { frames := 3, cells := 0, slots := 0, locals := 82 })
def XT_put (h : sd_H) (a0 : Int32) (a1 : Int32) (a2 : Int32) (a3 : Int32) : Option (sd_H × Int32) :=
  b1 (XT_isRow a0) (fun t2 => (if t2 = 0 then some (h, (-2)) else b1 (XT_within a1 0 4) (fun t5 => (if t5 = 0 then some (h, (-2)) else b1 (XR_isMissing h 1 a0) (fun t8 => (if t8 = 0 then gd (sd_inB a0 6) ((if (h.1 2 (a0 : Int32).toNatClampNeg) = a1 then b1 (XR_hasCell h 1 a0 a2) (fun t13 => (if t13 = 0 then b2 (XT_found h 2) (fun h23 t24 => some (h23, t24)) else b1 (XN_told a1 a3) (fun t16 => gd (sd_inB ((a0 * 24) + a2) 144) (hb (wD h 4 (((a0 * 24) + a2) : Int32).toNatClampNeg t16) (fun h18 => hb (wI h18 56 5 1) (fun h20 => some (h20, 1))))))) else b2 (XT_found h 3) (fun h26 t27 => some (h26, t27)))) else b2 (XT_found h 1) (fun h29 t30 => some (h29, t30))))))))
set_option maxHeartbeats 4000000 in
set_option maxRecDepth 100000 in
theorem T_XT_put {G : sd_GX} {h : sd_H} {a0 : Int32} {a1 : Int32} {a2 : Int32} {a3 : Int32} {r : (sd_H × Int32)} (hf : XT_put h a0 a1 a2 a3 = some r) : sd_RunF G M_XT_put [.ref (G.1 + 0), .int a0, .int a1, .int a2, .int a3] h (some (.int r.2)) r.1 := by
  refine sF_run ⟨rfl, rfl⟩ (by decide +kernel) (Nat.le_of_ble_eq_true rfl) (lo := [(0, .ref (G.1 + 0)), (1, .int a0), (2, .int a1), (3, .int a2), (4, .int a3)]) rfl (fun X hE => ?_)
  unfold XT_put at hf
  refine sd_iload_n (k := 1) (i := 1) (q := 1) (pc' := 1) (by decide +kernel) rfl rfl ?_
  obtain ⟨t2, q1, hf⟩ := b1_some hf
  refine sF_callS (idx := 93) (As := [.int a0]) (pc' := 4) 1 (T_XT_isRow (G := G) (h := h)  q1) (by decide +kernel) mv_XT_isRow ml_X11_93 (by decide +kernel) rfl rfl (Nat.le_of_ble_eq_true rfl) rfl ?_
  refine sd_if_eq (off := 12) (tgt := 16) (pc' := 7) (by decide +kernel) (fun c3 => ?_) (fun c3 => ?_)
  · replace hf := ite_p c3 hf
    refine sd_bipush (n := -2) (v := (-2)) (pc' := 18) (by decide +kernel) (by decide) ?_
    obtain rfl := Option.some.inj hf
    exact sd_iret (by decide +kernel) rfl (hE _)
  · replace hf := ite_n c3 hf
    refine sd_iload_n (k := 2) (i := 2) (q := 2) (pc' := 8) (by decide +kernel) rfl rfl ?_
    refine sd_iconst (n := 0) (v := 0) (pc' := 9) (by decide +kernel) (by decide) ?_
    refine sd_iconst (n := 4) (v := 4) (pc' := 10) (by decide +kernel) (by decide) ?_
    obtain ⟨t5, q4, hf⟩ := b1_some hf
    refine sF_callS (idx := 97) (As := [.int a1, .int 0, .int 4]) (pc' := 13) 3 (T_XT_within (G := G) (h := h)  q4) (by decide +kernel) mv_XT_within ml_X11_97 (by decide +kernel) rfl rfl (Nat.le_of_ble_eq_true rfl) rfl ?_
    refine sd_if_ne (off := 6) (tgt := 19) (pc' := 16) (by decide +kernel) (fun c6 => ?_) (fun c6 => ?_)
    · replace hf := ite_n c6 hf
      refine sd_aload_n (k := 0) (i := 0) (q := 0) (pc' := 20) (by decide +kernel) rfl rfl ?_
      refine sF_gr (idx := 12) (ci := 11) (k := 0) (n := 17) (r := 1) (pc' := 23) (by decide +kernel) fl_X11_12 (by decide +kernel) rfl SH_0 (by decide) (by decide +kernel) ?_
      refine sd_iload_n (k := 1) (i := 1) (q := 1) (pc' := 24) (by decide +kernel) rfl rfl ?_
      obtain ⟨t8, q7, hf⟩ := b1_some hf
      refine sF_callV (idx := 113) (b := 1) (As := [.int a0]) (ci := 6) (nn := 4) (pc' := 27) 1 (T_XR_isMissing (G := G) (h := h) SH_1 q7) (by decide +kernel) mv_XR_isMissing ml_X11_113 (by decide +kernel) rfl rfl (Nat.le_of_ble_eq_true rfl) SH_1 rfl (by decide) rfl rfl ?_
      refine sd_if_eq (off := 9) (tgt := 36) (pc' := 30) (by decide +kernel) (fun c9 => ?_) (fun c9 => ?_)
      · replace hf := ite_p c9 hf
        refine sd_aload_n (k := 0) (i := 0) (q := 0) (pc' := 37) (by decide +kernel) rfl rfl ?_
        refine sF_gr (idx := 12) (ci := 11) (k := 0) (n := 17) (r := 1) (pc' := 40) (by decide +kernel) fl_X11_12 (by decide +kernel) rfl SH_0 (by decide) (by decide +kernel) ?_
        refine sF_gr (idx := 119) (ci := 6) (k := 0) (n := 4) (r := 2) (pc' := 43) (by decide +kernel) fl_X11_119 (by decide +kernel) rfl SH_1 (by decide) (by decide +kernel) ?_
        refine sd_iload_n (k := 1) (i := 1) (q := 1) (pc' := 44) (by decide +kernel) rfl rfl ?_
        obtain ⟨g10, hf⟩ := gd_some hf
        refine sF_iald (n := 6) (pc' := 45) (by decide +kernel) SH_2 g10 ?_
        refine sd_iload_n (k := 2) (i := 2) (q := 2) (pc' := 46) (by decide +kernel) rfl rfl ?_
        refine sd_icmp_eq (off := 9) (tgt := 55) (pc' := 49) (by decide +kernel) (fun c11 => ?_) (fun c11 => ?_)
        · replace hf := ite_p c11 hf
          refine sd_aload_n (k := 0) (i := 0) (q := 0) (pc' := 56) (by decide +kernel) rfl rfl ?_
          refine sF_gr (idx := 12) (ci := 11) (k := 0) (n := 17) (r := 1) (pc' := 59) (by decide +kernel) fl_X11_12 (by decide +kernel) rfl SH_0 (by decide) (by decide +kernel) ?_
          refine sd_iload_n (k := 1) (i := 1) (q := 1) (pc' := 60) (by decide +kernel) rfl rfl ?_
          refine sd_iload_n (k := 3) (i := 3) (q := 3) (pc' := 61) (by decide +kernel) rfl rfl ?_
          obtain ⟨t13, q12, hf⟩ := b1_some hf
          refine sF_callV (idx := 122) (b := 1) (As := [.int a0, .int a2]) (ci := 6) (nn := 4) (pc' := 64) 2 (T_XR_hasCell (G := G) (h := h) SH_1 q12) (by decide +kernel) mv_XR_hasCell ml_X11_122 (by decide +kernel) rfl rfl (Nat.le_of_ble_eq_true rfl) SH_1 rfl (by decide) rfl rfl ?_
          refine sd_if_ne (off := 9) (tgt := 73) (pc' := 67) (by decide +kernel) (fun c14 => ?_) (fun c14 => ?_)
          · replace hf := ite_n c14 hf
            refine sd_aload_n (k := 0) (i := 0) (q := 0) (pc' := 74) (by decide +kernel) rfl rfl ?_
            refine sF_gr (idx := 12) (ci := 11) (k := 0) (n := 17) (r := 1) (pc' := 77) (by decide +kernel) fl_X11_12 (by decide +kernel) rfl SH_0 (by decide) (by decide +kernel) ?_
            refine sF_gr (idx := 126) (ci := 6) (k := 2) (n := 4) (r := 4) (pc' := 80) (by decide +kernel) fl_X11_126 (by decide +kernel) rfl SH_1 (by decide) (by decide +kernel) ?_
            refine sd_iload_n (k := 1) (i := 1) (q := 1) (pc' := 81) (by decide +kernel) rfl rfl ?_
            refine sd_bipush (n := 24) (v := 24) (pc' := 83) (by decide +kernel) (by decide) ?_
            refine sd_imul (pc' := 84) (by decide +kernel) ?_
            refine sd_iload_n (k := 3) (i := 3) (q := 3) (pc' := 85) (by decide +kernel) rfl rfl ?_
            refine sd_iadd (pc' := 86) (by decide +kernel) ?_
            refine sd_iload_n (k := 2) (i := 2) (q := 2) (pc' := 87) (by decide +kernel) rfl rfl ?_
            refine sd_iload (i := 4) (q := 4) (pc' := 89) (by decide +kernel) rfl ?_
            obtain ⟨t16, q15, hf⟩ := b1_some hf
            refine sF_callS (idx := 130) (As := [.int a1, .int a3]) (pc' := 92) 2 (T_XN_told (G := G) (h := h)  q15) (by decide +kernel) mv_XN_told ml_X11_130 (by decide +kernel) rfl rfl (Nat.le_of_ble_eq_true rfl) rfl ?_
            obtain ⟨g17, hf⟩ := gd_some hf
            obtain ⟨h18, e19, hf⟩ := hb_some hf
            refine sF_dast (n := 144) (pc' := 93) (by decide +kernel) SH_4 g17 ?_
            rw [← e19]; clear e19
            refine sd_aload_n (k := 0) (i := 0) (q := 0) (pc' := 94) (by decide +kernel) rfl rfl ?_
            refine sF_gr (idx := 41) (ci := 11) (k := 4) (n := 17) (r := 56) (pc' := 97) (by decide +kernel) fl_X11_41 (by decide +kernel) rfl SH_0 (by decide) (by decide +kernel) ?_
            refine sd_iconst (n := 1) (v := 1) (pc' := 98) (by decide +kernel) (by decide) ?_
            obtain ⟨h20, e21, hf⟩ := hb_some hf
            refine sF_pz (idx := 109) (ci := 10) (k := 5) (n := 6) (pc' := 101) (by decide +kernel) fl_X11_109 (by decide +kernel) rfl rfl rfl SH_56 (by decide) ?_
            rw [← e21]; clear e21
            refine sd_iconst (n := 1) (v := 1) (pc' := 102) (by decide +kernel) (by decide) ?_
            obtain rfl := Option.some.inj hf
            exact sd_iret (by decide +kernel) rfl (hE _)
          · replace hf := ite_p c14 hf
            refine sd_aload_n (k := 0) (i := 0) (q := 0) (pc' := 68) (by decide +kernel) rfl rfl ?_
            refine sd_iconst (n := 2) (v := 2) (pc' := 69) (by decide +kernel) (by decide) ?_
            obtain ⟨h23, t24, q22, hf⟩ := b2_some hf
            refine sF_callV (idx := 101) (b := 0) (As := [.int 2]) (ci := 11) (nn := 17) (pc' := 72) 1 (T_XT_found (G := G) (h := h)  q22) (by decide +kernel) mv_XT_found ml_X11_101 (by decide +kernel) rfl rfl (Nat.le_of_ble_eq_true rfl) SH_0 rfl (by decide) rfl rfl ?_
            obtain rfl := Option.some.inj hf
            exact sd_iret (by decide +kernel) rfl (hE _)
        · replace hf := ite_n c11 hf
          refine sd_aload_n (k := 0) (i := 0) (q := 0) (pc' := 50) (by decide +kernel) rfl rfl ?_
          refine sd_iconst (n := 3) (v := 3) (pc' := 51) (by decide +kernel) (by decide) ?_
          obtain ⟨h26, t27, q25, hf⟩ := b2_some hf
          refine sF_callV (idx := 101) (b := 0) (As := [.int 3]) (ci := 11) (nn := 17) (pc' := 54) 1 (T_XT_found (G := G) (h := h)  q25) (by decide +kernel) mv_XT_found ml_X11_101 (by decide +kernel) rfl rfl (Nat.le_of_ble_eq_true rfl) SH_0 rfl (by decide) rfl rfl ?_
          obtain rfl := Option.some.inj hf
          exact sd_iret (by decide +kernel) rfl (hE _)
      · replace hf := ite_n c9 hf
        refine sd_aload_n (k := 0) (i := 0) (q := 0) (pc' := 31) (by decide +kernel) rfl rfl ?_
        refine sd_iconst (n := 1) (v := 1) (pc' := 32) (by decide +kernel) (by decide) ?_
        obtain ⟨h29, t30, q28, hf⟩ := b2_some hf
        refine sF_callV (idx := 101) (b := 0) (As := [.int 1]) (ci := 11) (nn := 17) (pc' := 35) 1 (T_XT_found (G := G) (h := h)  q28) (by decide +kernel) mv_XT_found ml_X11_101 (by decide +kernel) rfl rfl (Nat.le_of_ble_eq_true rfl) SH_0 rfl (by decide) rfl rfl ?_
        obtain rfl := Option.some.inj hf
        exact sd_iret (by decide +kernel) rfl (hE _)
    · replace hf := ite_p c6 hf
      refine sd_bipush (n := -2) (v := (-2)) (pc' := 18) (by decide +kernel) (by decide) ?_
      obtain rfl := Option.some.inj hf
      exact sd_iret (by decide +kernel) rfl (hE _)

def M_XT_longRefusal : sd_MX := (yX11_longRefusal, cX11_longRefusal, 1, (some .long), { frames := 1, cells := 0, slots := 0, locals := 40 })
def XT_longRefusal (a0 : Int32) : Option Int64 :=
  some ((-9223372036854775808) - (Int32.toInt64 a0))
set_option maxHeartbeats 4000000 in
set_option maxRecDepth 100000 in
theorem T_XT_longRefusal {G : sd_GX} {h : sd_H} {a0 : Int32} {r : Int64} (hf : XT_longRefusal a0 = some r) : sd_RunF G M_XT_longRefusal [.int a0] h (some (.long r)) h := by
  refine sF_run ⟨rfl, rfl⟩ (by decide +kernel) (Nat.le_of_ble_eq_true rfl) (lo := [(0, .int a0)]) rfl (fun X hE => ?_)
  unfold XT_longRefusal at hf
  refine sd_ldc2 (idx := 421) (v := (-9223372036854775808)) (pc' := 3) (by decide +kernel) (sd_mem (i := 522) (by decide +kernel)) ?_
  refine sd_iload_n (k := 0) (i := 0) (q := 0) (pc' := 4) (by decide +kernel) rfl rfl ?_
  refine sd_i2l (pc' := 5) (by decide +kernel) rfl ?_
  refine sd_lsub (pc' := 6) (by decide +kernel) ?_
  obtain rfl := Option.some.inj hf
  exact sd_lret (by decide +kernel) rfl (hE _)

def M_XN_sizeOf : sd_MX := (yX3_sizeOf, cX3_sizeOf, 2, (some .double), { frames := 1, cells := 0, slots := 0, locals := 40 })
def XN_sizeOf (a0 : UInt64) : Option UInt64 :=
  (if 0 ≤ (Op.cmpValue (FP.dcmp a0 FP.dconst0) .g) then some a0 else some (FP.dneg a0))
set_option maxHeartbeats 4000000 in
set_option maxRecDepth 100000 in
theorem T_XN_sizeOf {G : sd_GX} {h : sd_H} {a0 : UInt64} {r : UInt64} (hf : XN_sizeOf a0 = some r) : sd_RunF G M_XN_sizeOf [.double a0] h (some (.double r)) h := by
  refine sF_run ⟨rfl, rfl⟩ (by decide +kernel) (Nat.le_of_ble_eq_true rfl) (lo := [(0, .double a0)]) rfl (fun X hE => ?_)
  unfold XN_sizeOf at hf
  refine sd_dload_n (k := 0) (i := 0) (q := 0) (pc' := 1) (by decide +kernel) rfl rfl ?_
  refine sd_dconst0 (pc' := 2) (by decide +kernel) ?_
  refine sd_dcmp (op := .g) (pc' := 3) (by decide +kernel) ?_
  refine sd_if_ge (off := 8) (tgt := 11) (pc' := 6) (by decide +kernel) (fun c1 => ?_) (fun c1 => ?_)
  · replace hf := ite_p c1 hf
    refine sd_dload_n (k := 0) (i := 0) (q := 0) (pc' := 12) (by decide +kernel) rfl rfl ?_
    obtain rfl := Option.some.inj hf
    exact sd_dret (by decide +kernel) rfl (hE _)
  · replace hf := ite_n c1 hf
    refine sd_dload_n (k := 0) (i := 0) (q := 0) (pc' := 7) (by decide +kernel) rfl rfl ?_
    refine sd_dneg (pc' := 8) (by decide +kernel) ?_
    refine sd_goto (off := 4) (tgt := 12) (pc' := 11) (by decide +kernel) ?_
    obtain rfl := Option.some.inj hf
    exact sd_dret (by decide +kernel) rfl (hE _)

theorem ml_X3_25 : Cond.methodLink RX3 25 yX3_sizeOf ∈ sd_tb := sd_mem (i := 529) (by decide +kernel)
theorem mv_XN_sizeOf : sd_mS M_XN_sizeOf 1 := ⟨sd_mem (i := 530) (by decide +kernel), ⟨sd_mem (i := 531) (by decide +kernel), sd_mem (i := 120) (by decide +kernel), by decide +kernel, by decide +kernel, by decide +kernel⟩⟩
def M_XN_bits : sd_MX := (yX3_bits, cX3_bits, 9, (some .long), { frames := 2, cells := 0, slots := 0, locals := 61 })
def XN_bits_B75 (l2 : Int32) (l3 : Int32) (l4 : UInt64) (l6 : Int32) : Option Int64 :=
  gd (nd (FP.dmul l4 (FP.l2d (lshl 1 l3)))) (some ((lshl (Int32.toInt64 (l6 - l2)) l3) + (FP.d2l (FP.dmul l4 (FP.l2d (lshl 1 l3))))))
set_option maxHeartbeats 4000000 in
set_option maxRecDepth 100000 in
theorem J_XN_bits_B75 {G : sd_GX} {X : sd_CX} (hE : ∀ g : sd_H, sd_end G X M_XN_bits (sd_F g)) {h : sd_H} {r : Int64} {l2 : Int32} {l3 : Int32} {l4 : UInt64} {l6 : Int32} (hf : XN_bits_B75 l2 l3 l4 l6 = some r) : sd_J G X (sd_QR G X M_XN_bits (some (.long r), sd_F h)) M_XN_bits 75 [(2, .int l2), (3, .int l3), (4, .double l4), (6, .int l6)] [] (sd_F h) := by
  unfold XN_bits_B75 at hf
  refine sd_dload (i := 4) (q := 2) (pc' := 77) (by decide +kernel) rfl ?_
  refine sd_lconst (n := 1) (v := 1) (pc' := 78) (by decide +kernel) (by decide) ?_
  refine sd_iload_n (k := 3) (i := 3) (q := 1) (pc' := 79) (by decide +kernel) rfl rfl ?_
  refine sd_lshl (pc' := 80) (by decide +kernel) rfl ?_
  refine sd_l2d (pc' := 81) (by decide +kernel) ?_
  obtain ⟨g6, hf⟩ := gd_some hf
  refine sd_dmul (pc' := 82) (by decide +kernel) (nd_of g6) ?_
  refine sd_d2l (pc' := 83) (by decide +kernel) ?_
  refine sd_lstore (i := 7) (pc' := 85) (lo' := [(7, .long (FP.d2l (FP.dmul l4 (FP.l2d (lshl 1 l3))))), (2, .int l2), (3, .int l3), (4, .double l4), (6, .int l6)]) (by decide +kernel) (by decide) rfl ?_
  refine sd_iload (i := 6) (q := 4) (pc' := 87) (by decide +kernel) rfl ?_
  refine sd_iload_n (k := 2) (i := 2) (q := 1) (pc' := 88) (by decide +kernel) rfl rfl ?_
  refine sd_isub (pc' := 89) (by decide +kernel) ?_
  refine sd_i2l (pc' := 90) (by decide +kernel) rfl ?_
  refine sd_iload_n (k := 3) (i := 3) (q := 2) (pc' := 91) (by decide +kernel) rfl rfl ?_
  refine sd_lshl (pc' := 92) (by decide +kernel) rfl ?_
  refine sd_lload (i := 7) (q := 0) (pc' := 94) (by decide +kernel) rfl ?_
  refine sd_ladd (pc' := 95) (by decide +kernel) ?_
  obtain rfl := Option.some.inj hf
  exact sd_lret (by decide +kernel) rfl (hE _)
def XN_bits_L48 : Nat → Int32 → Int32 → UInt64 → Int32 → Option Int64
  | 0, _, _, _, _ => none
  | n + 1, l2, l3, l4, l6 =>
  (if l6 ≤ l2 then XN_bits_B75 l2 l3 l4 l6 else (if 0 ≤ (Op.cmpValue (FP.dcmp l4 FP.dconst1) .g) then XN_bits_B75 l2 l3 l4 l6 else gd (nd (FP.dmul l4 4611686018427387904)) (XN_bits_L48 n l2 l3 (FP.dmul l4 4611686018427387904) (l6 + (-1)))))
set_option maxHeartbeats 4000000 in
set_option maxRecDepth 100000 in
theorem J_XN_bits_L48 {G : sd_GX} {X : sd_CX} (hE : ∀ g : sd_H, sd_end G X M_XN_bits (sd_F g)) {h : sd_H} {r : Int64} : ∀ (n : Nat) (l2 : Int32) (l3 : Int32) (l4 : UInt64) (l6 : Int32), XN_bits_L48 n l2 l3 l4 l6 = some r → sd_J G X (sd_QR G X M_XN_bits (some (.long r), sd_F h)) M_XN_bits 48 [(2, .int l2), (3, .int l3), (4, .double l4), (6, .int l6)] [] (sd_F h) := by
  intro n
  induction n with
  | zero =>
    intro l2 l3 l4 l6 hf
    rw [XN_bits_L48] at hf
    cases hf
  | succ n ih =>
    intro l2 l3 l4 l6 hf
    rw [XN_bits_L48] at hf
    refine sd_iload (i := 6) (q := 3) (pc' := 50) (by decide +kernel) rfl ?_
    refine sd_iload_n (k := 2) (i := 2) (q := 0) (pc' := 51) (by decide +kernel) rfl rfl ?_
    refine sd_icmp_le (off := 24) (tgt := 75) (pc' := 54) (by decide +kernel) (fun c5 => ?_) (fun c5 => ?_)
    · replace hf := ite_p c5 hf
      refine sd_J.sub (lo' := [(2, .int l2), (3, .int l3), (4, .double l4), (6, .int l6)]) [0, 1, 2, 3] rfl ?_
      exact J_XN_bits_B75 hE (h := h) hf
    · replace hf := ite_n c5 hf
      refine sd_dload (i := 4) (q := 2) (pc' := 56) (by decide +kernel) rfl ?_
      refine sd_dconst1 (pc' := 57) (by decide +kernel) ?_
      refine sd_dcmp (op := .g) (pc' := 58) (by decide +kernel) ?_
      refine sd_if_ge (off := 17) (tgt := 75) (pc' := 61) (by decide +kernel) (fun c7 => ?_) (fun c7 => ?_)
      · replace hf := ite_p c7 hf
        refine sd_J.sub (lo' := [(2, .int l2), (3, .int l3), (4, .double l4), (6, .int l6)]) [0, 1, 2, 3] rfl ?_
        exact J_XN_bits_B75 hE (h := h) hf
      · replace hf := ite_n c7 hf
        refine sd_dload (i := 4) (q := 2) (pc' := 63) (by decide +kernel) rfl ?_
        refine sd_ldc2d (idx := 29) (v := 4611686018427387904) (pc' := 66) (by decide +kernel) (sd_mem (i := 532) (by decide +kernel)) ?_
        obtain ⟨g8, hf⟩ := gd_some hf
        refine sd_dmul (pc' := 67) (by decide +kernel) (nd_of g8) ?_
        refine sd_dstore (i := 4) (pc' := 69) (lo' := [(4, .double (FP.dmul l4 4611686018427387904)), (2, .int l2), (3, .int l3), (6, .int l6)]) (by decide +kernel) (by decide) rfl ?_
        refine sd_iinc (i := 6) (q := 3) (n := -1) (v := (l6 + (-1))) (pc' := 72) (lo' := [(6, .int (l6 + (-1))), (4, .double (FP.dmul l4 4611686018427387904)), (2, .int l2), (3, .int l3)]) (by decide +kernel) rfl rfl (by decide) rfl ?_
        refine sd_goto (off := -24) (tgt := 48) (pc' := 75) (by decide +kernel) ?_
        refine sd_J.sub (lo' := [(2, .int l2), (3, .int l3), (4, .double (FP.dmul l4 4611686018427387904)), (6, .int (l6 + (-1)))]) [2, 3, 1, 0] rfl ?_
        exact ih _ _ _ _ hf
def XN_bits_L17 : Nat → Int32 → Int32 → UInt64 → Int32 → Option Int64
  | 0, _, _, _, _ => none
  | n + 1, l2, l3, l4, l6 =>
  (if 2200 ≤ l6 then XN_bits_L48 FU l2 l3 l4 l6 else (if (Op.cmpValue (FP.dcmp l4 4611686018427387904) .l) < 0 then XN_bits_L48 FU l2 l3 l4 l6 else gd (nd (FP.ddiv l4 4611686018427387904)) (XN_bits_L17 n l2 l3 (FP.ddiv l4 4611686018427387904) (l6 + 1))))
set_option maxHeartbeats 4000000 in
set_option maxRecDepth 100000 in
theorem J_XN_bits_L17 {G : sd_GX} {X : sd_CX} (hE : ∀ g : sd_H, sd_end G X M_XN_bits (sd_F g)) {h : sd_H} {r : Int64} : ∀ (n : Nat) (l2 : Int32) (l3 : Int32) (l4 : UInt64) (l6 : Int32), XN_bits_L17 n l2 l3 l4 l6 = some r → sd_J G X (sd_QR G X M_XN_bits (some (.long r), sd_F h)) M_XN_bits 17 [(2, .int l2), (3, .int l3), (4, .double l4), (6, .int l6)] [] (sd_F h) := by
  intro n
  induction n with
  | zero =>
    intro l2 l3 l4 l6 hf
    rw [XN_bits_L17] at hf
    cases hf
  | succ n ih =>
    intro l2 l3 l4 l6 hf
    rw [XN_bits_L17] at hf
    refine sd_iload (i := 6) (q := 3) (pc' := 19) (by decide +kernel) rfl ?_
    refine sd_sipush (n := 2200) (v := 2200) (pc' := 22) (by decide +kernel) (by decide) ?_
    refine sd_icmp_ge (off := 26) (tgt := 48) (pc' := 25) (by decide +kernel) (fun c4 => ?_) (fun c4 => ?_)
    · replace hf := ite_p c4 hf
      refine sd_J.sub (lo' := [(2, .int l2), (3, .int l3), (4, .double l4), (6, .int l6)]) [0, 1, 2, 3] rfl ?_
      exact J_XN_bits_L48 hE (h := h) _ _ _ _ _ hf
    · replace hf := ite_n c4 hf
      refine sd_dload (i := 4) (q := 2) (pc' := 27) (by decide +kernel) rfl ?_
      refine sd_ldc2d (idx := 29) (v := 4611686018427387904) (pc' := 30) (by decide +kernel) (sd_mem (i := 532) (by decide +kernel)) ?_
      refine sd_dcmp (op := .l) (pc' := 31) (by decide +kernel) ?_
      refine sd_if_lt (off := 17) (tgt := 48) (pc' := 34) (by decide +kernel) (fun c9 => ?_) (fun c9 => ?_)
      · replace hf := ite_p c9 hf
        refine sd_J.sub (lo' := [(2, .int l2), (3, .int l3), (4, .double l4), (6, .int l6)]) [0, 1, 2, 3] rfl ?_
        exact J_XN_bits_L48 hE (h := h) _ _ _ _ _ hf
      · replace hf := ite_n c9 hf
        refine sd_dload (i := 4) (q := 2) (pc' := 36) (by decide +kernel) rfl ?_
        refine sd_ldc2d (idx := 29) (v := 4611686018427387904) (pc' := 39) (by decide +kernel) (sd_mem (i := 532) (by decide +kernel)) ?_
        obtain ⟨g10, hf⟩ := gd_some hf
        refine sd_ddiv (pc' := 40) (by decide +kernel) (nd_of g10) ?_
        refine sd_dstore (i := 4) (pc' := 42) (lo' := [(4, .double (FP.ddiv l4 4611686018427387904)), (2, .int l2), (3, .int l3), (6, .int l6)]) (by decide +kernel) (by decide) rfl ?_
        refine sd_iinc (i := 6) (q := 3) (n := 1) (v := (l6 + 1)) (pc' := 45) (lo' := [(6, .int (l6 + 1)), (4, .double (FP.ddiv l4 4611686018427387904)), (2, .int l2), (3, .int l3)]) (by decide +kernel) rfl rfl (by decide) rfl ?_
        refine sd_goto (off := -28) (tgt := 17) (pc' := 48) (by decide +kernel) ?_
        refine sd_J.sub (lo' := [(2, .int l2), (3, .int l3), (4, .double (FP.ddiv l4 4611686018427387904)), (6, .int (l6 + 1))]) [2, 3, 1, 0] rfl ?_
        exact ih _ _ _ _ hf
def XN_bits (a0 : UInt64) (a1 : Int32) (a2 : Int32) : Option Int64 :=
  (if (Op.cmpValue (FP.dcmp a0 FP.dconst0) .l) = 0 then some 0 else b1 (XN_sizeOf a0) (fun t3 => XN_bits_L17 FU a1 a2 t3 0))
set_option maxHeartbeats 4000000 in
set_option maxRecDepth 100000 in
theorem T_XN_bits {G : sd_GX} {h : sd_H} {a0 : UInt64} {a1 : Int32} {a2 : Int32} {r : Int64} (hf : XN_bits a0 a1 a2 = some r) : sd_RunF G M_XN_bits [.double a0, .int a1, .int a2] h (some (.long r)) h := by
  refine sF_run ⟨rfl, rfl⟩ (by decide +kernel) (Nat.le_of_ble_eq_true rfl) (lo := [(0, .double a0), (2, .int a1), (3, .int a2)]) rfl (fun X hE => ?_)
  unfold XN_bits at hf
  refine sd_dload_n (k := 0) (i := 0) (q := 0) (pc' := 1) (by decide +kernel) rfl rfl ?_
  refine sd_dconst0 (pc' := 2) (by decide +kernel) ?_
  refine sd_dcmp (op := .l) (pc' := 3) (by decide +kernel) ?_
  refine sd_if_ne (off := 5) (tgt := 8) (pc' := 6) (by decide +kernel) (fun c1 => ?_) (fun c1 => ?_)
  · replace hf := ite_n c1 hf
    refine sd_dload_n (k := 0) (i := 0) (q := 0) (pc' := 9) (by decide +kernel) rfl rfl ?_
    obtain ⟨t3, q2, hf⟩ := b1_some hf
    refine sF_callS (idx := 25) (As := [.double a0]) (pc' := 12) 1 (T_XN_sizeOf (G := G) (h := h)  q2) (by decide +kernel) mv_XN_sizeOf ml_X3_25 (by decide +kernel) rfl rfl (Nat.le_of_ble_eq_true rfl) rfl ?_
    refine sd_dstore (i := 4) (pc' := 14) (lo' := [(4, .double t3), (0, .double a0), (2, .int a1), (3, .int a2)]) (by decide +kernel) (by decide) rfl ?_
    refine sd_iconst (n := 0) (v := 0) (pc' := 15) (by decide +kernel) (by decide) ?_
    refine sd_istore (i := 6) (pc' := 17) (lo' := [(6, .int 0), (4, .double t3), (0, .double a0), (2, .int a1), (3, .int a2)]) (by decide +kernel) (by decide) rfl ?_
    refine sd_J.sub (lo' := [(2, .int a1), (3, .int a2), (4, .double t3), (6, .int 0)]) [3, 4, 1, 0] rfl ?_
    exact J_XN_bits_L17 hE (h := h) _ _ _ _ _ hf
  · replace hf := ite_p c1 hf
    refine sd_lconst (n := 0) (v := 0) (pc' := 7) (by decide +kernel) (by decide) ?_
    obtain rfl := Option.some.inj hf
    exact sd_lret (by decide +kernel) rfl (hE _)

theorem ml_X3_12 : Cond.methodLink RX3 12 yX3_bits ∈ sd_tb := sd_mem (i := 526) (by decide +kernel)
theorem mv_XN_bits : sd_mS M_XN_bits 3 := ⟨sd_mem (i := 527) (by decide +kernel), ⟨sd_mem (i := 528) (by decide +kernel), sd_mem (i := 120) (by decide +kernel), by decide +kernel, by decide +kernel, by decide +kernel⟩⟩
def M_XN_shown : sd_MX := (yX3_shown, cX3_shown, 3, (some .long), { frames := 3, cells := 0, slots := 0, locals := 89 })
def XN_shown (a0 : Int32) (a1 : UInt64) : Option Int64 :=
  (if a0 = 2 then b1 (XN_bits a1 (-126) 23) (fun t3 => (if 0 ≤ (Op.cmpValue (FP.dcmp a1 FP.dconst0) .g) then some (t3 + (Int32.toInt64 0)) else some (t3 + (Int32.toInt64 (-2147483648))))) else (if a0 = 3 then b1 (XN_bits a1 (-1022) 52) (fun t6 => (if 0 ≤ (Op.cmpValue (FP.dcmp a1 FP.dconst0) .g) then some (t6 + 0) else some (t6 + (-9223372036854775808)))) else (some (FP.d2l a1))))
set_option maxHeartbeats 4000000 in
set_option maxRecDepth 100000 in
theorem T_XN_shown {G : sd_GX} {h : sd_H} {a0 : Int32} {a1 : UInt64} {r : Int64} (hf : XN_shown a0 a1 = some r) : sd_RunF G M_XN_shown [.int a0, .double a1] h (some (.long r)) h := by
  refine sF_run ⟨rfl, rfl⟩ (by decide +kernel) (Nat.le_of_ble_eq_true rfl) (lo := [(0, .int a0), (1, .double a1)]) rfl (fun X hE => ?_)
  unfold XN_shown at hf
  refine sd_iload_n (k := 0) (i := 0) (q := 0) (pc' := 1) (by decide +kernel) rfl rfl ?_
  by_cases c1_2 : a0 = 2
  · replace hf := ite_p c1_2 hf
    refine sd_lsw (dflt := 74) (ps := #[(2, 27), (3, 50)]) (len := 27) (off := 27) (tgt := 28) (pc' := 28) (by decide +kernel) (by decide) (by rw [c1_2]; decide) ?_
    refine sd_dload_n (k := 1) (i := 1) (q := 1) (pc' := 29) (by decide +kernel) rfl rfl ?_
    refine sd_bipush (n := -126) (v := (-126)) (pc' := 31) (by decide +kernel) (by decide) ?_
    refine sd_bipush (n := 23) (v := 23) (pc' := 33) (by decide +kernel) (by decide) ?_
    obtain ⟨t3, q2, hf⟩ := b1_some hf
    refine sF_callS (idx := 12) (As := [.double a1, .int (-126), .int 23]) (pc' := 36) 3 (T_XN_bits (G := G) (h := h)  q2) (by decide +kernel) mv_XN_bits ml_X3_12 (by decide +kernel) rfl rfl (Nat.le_of_ble_eq_true rfl) rfl ?_
    refine sd_dload_n (k := 1) (i := 1) (q := 1) (pc' := 37) (by decide +kernel) rfl rfl ?_
    refine sd_dconst0 (pc' := 38) (by decide +kernel) ?_
    refine sd_dcmp (op := .g) (pc' := 39) (by decide +kernel) ?_
    refine sd_if_ge (off := 8) (tgt := 47) (pc' := 42) (by decide +kernel) (fun c4 => ?_) (fun c4 => ?_)
    · replace hf := ite_p c4 hf
      refine sd_iconst (n := 0) (v := 0) (pc' := 48) (by decide +kernel) (by decide) ?_
      refine sd_i2l (pc' := 49) (by decide +kernel) rfl ?_
      refine sd_ladd (pc' := 50) (by decide +kernel) ?_
      obtain rfl := Option.some.inj hf
      exact sd_lret (by decide +kernel) rfl (hE _)
    · replace hf := ite_n c4 hf
      refine sd_ldc (idx := 20) (v := (-2147483648)) (pc' := 44) (by decide +kernel) (sd_mem (i := 533) (by decide +kernel)) ?_
      refine sd_goto (off := 4) (tgt := 48) (pc' := 47) (by decide +kernel) ?_
      refine sd_i2l (pc' := 49) (by decide +kernel) rfl ?_
      refine sd_ladd (pc' := 50) (by decide +kernel) ?_
      obtain rfl := Option.some.inj hf
      exact sd_lret (by decide +kernel) rfl (hE _)
  · replace hf := ite_n c1_2 hf
    by_cases c1_3 : a0 = 3
    · replace hf := ite_p c1_3 hf
      refine sd_lsw (dflt := 74) (ps := #[(2, 27), (3, 50)]) (len := 27) (off := 50) (tgt := 51) (pc' := 28) (by decide +kernel) (by decide) (by rw [c1_3]; decide) ?_
      refine sd_dload_n (k := 1) (i := 1) (q := 1) (pc' := 52) (by decide +kernel) rfl rfl ?_
      refine sd_sipush (n := -1022) (v := (-1022)) (pc' := 55) (by decide +kernel) (by decide) ?_
      refine sd_bipush (n := 52) (v := 52) (pc' := 57) (by decide +kernel) (by decide) ?_
      obtain ⟨t6, q5, hf⟩ := b1_some hf
      refine sF_callS (idx := 12) (As := [.double a1, .int (-1022), .int 52]) (pc' := 60) 3 (T_XN_bits (G := G) (h := h)  q5) (by decide +kernel) mv_XN_bits ml_X3_12 (by decide +kernel) rfl rfl (Nat.le_of_ble_eq_true rfl) rfl ?_
      refine sd_dload_n (k := 1) (i := 1) (q := 1) (pc' := 61) (by decide +kernel) rfl rfl ?_
      refine sd_dconst0 (pc' := 62) (by decide +kernel) ?_
      refine sd_dcmp (op := .g) (pc' := 63) (by decide +kernel) ?_
      refine sd_if_ge (off := 9) (tgt := 72) (pc' := 66) (by decide +kernel) (fun c7 => ?_) (fun c7 => ?_)
      · replace hf := ite_p c7 hf
        refine sd_lconst (n := 0) (v := 0) (pc' := 73) (by decide +kernel) (by decide) ?_
        refine sd_ladd (pc' := 74) (by decide +kernel) ?_
        obtain rfl := Option.some.inj hf
        exact sd_lret (by decide +kernel) rfl (hE _)
      · replace hf := ite_n c7 hf
        refine sd_ldc2 (idx := 23) (v := (-9223372036854775808)) (pc' := 69) (by decide +kernel) (sd_mem (i := 534) (by decide +kernel)) ?_
        refine sd_goto (off := 4) (tgt := 73) (pc' := 72) (by decide +kernel) ?_
        refine sd_ladd (pc' := 74) (by decide +kernel) ?_
        obtain rfl := Option.some.inj hf
        exact sd_lret (by decide +kernel) rfl (hE _)
    · replace hf := ite_n c1_3 hf
      refine sd_lsw (dflt := 74) (ps := #[(2, 27), (3, 50)]) (len := 27) (off := 74) (tgt := 75) (pc' := 28) (by decide +kernel) (by decide) (by show Op.lookupswitch.offset [(2, 27), (3, 50)] 74 (a0 : Int32).toInt = 74; rw [lv_osw c1_2 (by decide), lv_osw c1_3 (by decide)]; rfl) ?_
      refine sd_dload_n (k := 1) (i := 1) (q := 1) (pc' := 76) (by decide +kernel) rfl rfl ?_
      refine sd_d2l (pc' := 77) (by decide +kernel) ?_
      obtain rfl := Option.some.inj hf
      exact sd_lret (by decide +kernel) rfl (hE _)

theorem ml_X11_140 : Cond.methodLink RX11 140 yX3_shown ∈ sd_tb := sd_mem (i := 523) (by decide +kernel)
theorem mv_XN_shown : sd_mS M_XN_shown 2 := ⟨sd_mem (i := 524) (by decide +kernel), ⟨sd_mem (i := 525) (by decide +kernel), sd_mem (i := 120) (by decide +kernel), by decide +kernel, by decide +kernel, by decide +kernel⟩⟩
theorem ml_X11_136 : Cond.methodLink RX11 136 yX11_longRefusal ∈ sd_tb := sd_mem (i := 519) (by decide +kernel)
theorem mv_XT_longRefusal : sd_mS M_XT_longRefusal 1 := ⟨sd_mem (i := 520) (by decide +kernel), ⟨sd_mem (i := 521) (by decide +kernel), sd_mem (i := 108) (by decide +kernel), by decide +kernel, by decide +kernel, by decide +kernel⟩⟩
def M_XT_get : sd_MX := (yX11_get, cX11_get, 3, (some .long), { frames := 4, cells := 0, slots := 0, locals := 111 })
def XT_get (h : sd_H) (a0 : Int32) (a1 : Int32) : Option (sd_H × Int64) :=
  b1 (XT_isRow a0) (fun t2 => (if t2 = 0 then b1 (XT_longRefusal (-2)) (fun t25 => some (h, t25)) else b1 (XR_isMissing h 1 a0) (fun t5 => (if t5 = 0 then b1 (XR_hasCell h 1 a0 a1) (fun t8 => (if t8 = 0 then b2 (XT_found h 2) (fun h15 t16 => b1 (XT_longRefusal t16) (fun t18 => some (h15, t18))) else gd (sd_inB a0 6) (gd (sd_inB ((a0 * 24) + a1) 144) (b1 (XN_shown (h.1 2 (a0 : Int32).toNatClampNeg) (h.2.1 4 (((a0 * 24) + a1) : Int32).toNatClampNeg)) (fun t13 => some (h, t13)))))) else b2 (XT_found h 1) (fun h20 t21 => b1 (XT_longRefusal t21) (fun t23 => some (h20, t23)))))))
set_option maxHeartbeats 4000000 in
set_option maxRecDepth 100000 in
theorem T_XT_get {G : sd_GX} {h : sd_H} {a0 : Int32} {a1 : Int32} {r : (sd_H × Int64)} (hf : XT_get h a0 a1 = some r) : sd_RunF G M_XT_get [.ref (G.1 + 0), .int a0, .int a1] h (some (.long r.2)) r.1 := by
  refine sF_run ⟨rfl, rfl⟩ (by decide +kernel) (Nat.le_of_ble_eq_true rfl) (lo := [(0, .ref (G.1 + 0)), (1, .int a0), (2, .int a1)]) rfl (fun X hE => ?_)
  unfold XT_get at hf
  refine sd_iload_n (k := 1) (i := 1) (q := 1) (pc' := 1) (by decide +kernel) rfl rfl ?_
  obtain ⟨t2, q1, hf⟩ := b1_some hf
  refine sF_callS (idx := 93) (As := [.int a0]) (pc' := 4) 1 (T_XT_isRow (G := G) (h := h)  q1) (by decide +kernel) mv_XT_isRow ml_X11_93 (by decide +kernel) rfl rfl (Nat.le_of_ble_eq_true rfl) rfl ?_
  refine sd_if_ne (off := 9) (tgt := 13) (pc' := 7) (by decide +kernel) (fun c3 => ?_) (fun c3 => ?_)
  · replace hf := ite_n c3 hf
    refine sd_aload_n (k := 0) (i := 0) (q := 0) (pc' := 14) (by decide +kernel) rfl rfl ?_
    refine sF_gr (idx := 12) (ci := 11) (k := 0) (n := 17) (r := 1) (pc' := 17) (by decide +kernel) fl_X11_12 (by decide +kernel) rfl SH_0 (by decide) (by decide +kernel) ?_
    refine sd_iload_n (k := 1) (i := 1) (q := 1) (pc' := 18) (by decide +kernel) rfl rfl ?_
    obtain ⟨t5, q4, hf⟩ := b1_some hf
    refine sF_callV (idx := 113) (b := 1) (As := [.int a0]) (ci := 6) (nn := 4) (pc' := 21) 1 (T_XR_isMissing (G := G) (h := h) SH_1 q4) (by decide +kernel) mv_XR_isMissing ml_X11_113 (by decide +kernel) rfl rfl (Nat.le_of_ble_eq_true rfl) SH_1 rfl (by decide) rfl rfl ?_
    refine sd_if_eq (off := 12) (tgt := 33) (pc' := 24) (by decide +kernel) (fun c6 => ?_) (fun c6 => ?_)
    · replace hf := ite_p c6 hf
      refine sd_aload_n (k := 0) (i := 0) (q := 0) (pc' := 34) (by decide +kernel) rfl rfl ?_
      refine sF_gr (idx := 12) (ci := 11) (k := 0) (n := 17) (r := 1) (pc' := 37) (by decide +kernel) fl_X11_12 (by decide +kernel) rfl SH_0 (by decide) (by decide +kernel) ?_
      refine sd_iload_n (k := 1) (i := 1) (q := 1) (pc' := 38) (by decide +kernel) rfl rfl ?_
      refine sd_iload_n (k := 2) (i := 2) (q := 2) (pc' := 39) (by decide +kernel) rfl rfl ?_
      obtain ⟨t8, q7, hf⟩ := b1_some hf
      refine sF_callV (idx := 122) (b := 1) (As := [.int a0, .int a1]) (ci := 6) (nn := 4) (pc' := 42) 2 (T_XR_hasCell (G := G) (h := h) SH_1 q7) (by decide +kernel) mv_XR_hasCell ml_X11_122 (by decide +kernel) rfl rfl (Nat.le_of_ble_eq_true rfl) SH_1 rfl (by decide) rfl rfl ?_
      refine sd_if_ne (off := 12) (tgt := 54) (pc' := 45) (by decide +kernel) (fun c9 => ?_) (fun c9 => ?_)
      · replace hf := ite_n c9 hf
        refine sd_aload_n (k := 0) (i := 0) (q := 0) (pc' := 55) (by decide +kernel) rfl rfl ?_
        refine sF_gr (idx := 12) (ci := 11) (k := 0) (n := 17) (r := 1) (pc' := 58) (by decide +kernel) fl_X11_12 (by decide +kernel) rfl SH_0 (by decide) (by decide +kernel) ?_
        refine sF_gr (idx := 119) (ci := 6) (k := 0) (n := 4) (r := 2) (pc' := 61) (by decide +kernel) fl_X11_119 (by decide +kernel) rfl SH_1 (by decide) (by decide +kernel) ?_
        refine sd_iload_n (k := 1) (i := 1) (q := 1) (pc' := 62) (by decide +kernel) rfl rfl ?_
        obtain ⟨g10, hf⟩ := gd_some hf
        refine sF_iald (n := 6) (pc' := 63) (by decide +kernel) SH_2 g10 ?_
        refine sd_aload_n (k := 0) (i := 0) (q := 0) (pc' := 64) (by decide +kernel) rfl rfl ?_
        refine sF_gr (idx := 12) (ci := 11) (k := 0) (n := 17) (r := 1) (pc' := 67) (by decide +kernel) fl_X11_12 (by decide +kernel) rfl SH_0 (by decide) (by decide +kernel) ?_
        refine sF_gr (idx := 126) (ci := 6) (k := 2) (n := 4) (r := 4) (pc' := 70) (by decide +kernel) fl_X11_126 (by decide +kernel) rfl SH_1 (by decide) (by decide +kernel) ?_
        refine sd_iload_n (k := 1) (i := 1) (q := 1) (pc' := 71) (by decide +kernel) rfl rfl ?_
        refine sd_bipush (n := 24) (v := 24) (pc' := 73) (by decide +kernel) (by decide) ?_
        refine sd_imul (pc' := 74) (by decide +kernel) ?_
        refine sd_iload_n (k := 2) (i := 2) (q := 2) (pc' := 75) (by decide +kernel) rfl rfl ?_
        refine sd_iadd (pc' := 76) (by decide +kernel) ?_
        obtain ⟨g11, hf⟩ := gd_some hf
        refine sF_dald (n := 144) (pc' := 77) (by decide +kernel) SH_4 g11 ?_
        obtain ⟨t13, q12, hf⟩ := b1_some hf
        refine sF_callS (idx := 140) (As := [.int (h.1 2 (a0 : Int32).toNatClampNeg), .double (h.2.1 4 (((a0 * 24) + a1) : Int32).toNatClampNeg)]) (pc' := 80) 2 (T_XN_shown (G := G) (h := h)  q12) (by decide +kernel) mv_XN_shown ml_X11_140 (by decide +kernel) rfl rfl (Nat.le_of_ble_eq_true rfl) rfl ?_
        obtain rfl := Option.some.inj hf
        exact sd_lret (by decide +kernel) rfl (hE _)
      · replace hf := ite_p c9 hf
        refine sd_aload_n (k := 0) (i := 0) (q := 0) (pc' := 46) (by decide +kernel) rfl rfl ?_
        refine sd_iconst (n := 2) (v := 2) (pc' := 47) (by decide +kernel) (by decide) ?_
        obtain ⟨h15, t16, q14, hf⟩ := b2_some hf
        refine sF_callV (idx := 101) (b := 0) (As := [.int 2]) (ci := 11) (nn := 17) (pc' := 50) 1 (T_XT_found (G := G) (h := h)  q14) (by decide +kernel) mv_XT_found ml_X11_101 (by decide +kernel) rfl rfl (Nat.le_of_ble_eq_true rfl) SH_0 rfl (by decide) rfl rfl ?_
        obtain ⟨t18, q17, hf⟩ := b1_some hf
        refine sF_callS (idx := 136) (As := [.int t16]) (pc' := 53) 1 (T_XT_longRefusal (G := G) (h := h15)  q17) (by decide +kernel) mv_XT_longRefusal ml_X11_136 (by decide +kernel) rfl rfl (Nat.le_of_ble_eq_true rfl) rfl ?_
        obtain rfl := Option.some.inj hf
        exact sd_lret (by decide +kernel) rfl (hE _)
    · replace hf := ite_n c6 hf
      refine sd_aload_n (k := 0) (i := 0) (q := 0) (pc' := 25) (by decide +kernel) rfl rfl ?_
      refine sd_iconst (n := 1) (v := 1) (pc' := 26) (by decide +kernel) (by decide) ?_
      obtain ⟨h20, t21, q19, hf⟩ := b2_some hf
      refine sF_callV (idx := 101) (b := 0) (As := [.int 1]) (ci := 11) (nn := 17) (pc' := 29) 1 (T_XT_found (G := G) (h := h)  q19) (by decide +kernel) mv_XT_found ml_X11_101 (by decide +kernel) rfl rfl (Nat.le_of_ble_eq_true rfl) SH_0 rfl (by decide) rfl rfl ?_
      obtain ⟨t23, q22, hf⟩ := b1_some hf
      refine sF_callS (idx := 136) (As := [.int t21]) (pc' := 32) 1 (T_XT_longRefusal (G := G) (h := h20)  q22) (by decide +kernel) mv_XT_longRefusal ml_X11_136 (by decide +kernel) rfl rfl (Nat.le_of_ble_eq_true rfl) rfl ?_
      obtain rfl := Option.some.inj hf
      exact sd_lret (by decide +kernel) rfl (hE _)
  · replace hf := ite_p c3 hf
    refine sd_bipush (n := -2) (v := (-2)) (pc' := 9) (by decide +kernel) (by decide) ?_
    obtain ⟨t25, q24, hf⟩ := b1_some hf
    refine sF_callS (idx := 136) (As := [.int (-2)]) (pc' := 12) 1 (T_XT_longRefusal (G := G) (h := h)  q24) (by decide +kernel) mv_XT_longRefusal ml_X11_136 (by decide +kernel) rfl rfl (Nat.le_of_ble_eq_true rfl) rfl ?_
    obtain rfl := Option.some.inj hf
    exact sd_lret (by decide +kernel) rfl (hE _)

def M_XR_hasCells : sd_MX := (yX6_hasCells, cX6_hasCells, 4, (some .boolean), { frames := 1, cells := 0, slots := 0, locals := 40 })
def XR_hasCells (h : sd_H) (this : Nat) (a0 : Int32) (a1 : Int32) (a2 : Int32) : Option Int32 :=
  (if a1 < 0 then some 0 else (if a2 < 0 then some 0 else gd (sd_inB a0 6) ((if ((h.1 (this + 2) (a0 : Int32).toNatClampNeg) - a2) < a1 then some 0 else some 1))))
set_option maxHeartbeats 4000000 in
set_option maxRecDepth 100000 in
theorem T_XR_hasCells {G : sd_GX} {h : sd_H} {this : Nat} {a0 : Int32} {a1 : Int32} {a2 : Int32} {r : Int32} (pt : sd_SH this = (6, 4)) (hf : XR_hasCells h this a0 a1 a2 = some r) : sd_RunF G M_XR_hasCells [.ref (G.1 + this), .int a0, .int a1, .int a2] h (some (.int r)) h := by
  refine sF_run ⟨rfl, rfl⟩ (by decide +kernel) (Nat.le_of_ble_eq_true rfl) (lo := [(0, .ref (G.1 + this)), (1, .int a0), (2, .int a1), (3, .int a2)]) rfl (fun X hE => ?_)
  unfold XR_hasCells at hf
  refine sd_iload_n (k := 2) (i := 2) (q := 2) (pc' := 1) (by decide +kernel) rfl rfl ?_
  refine sd_if_lt (off := 23) (tgt := 24) (pc' := 4) (by decide +kernel) (fun c1 => ?_) (fun c1 => ?_)
  · replace hf := ite_p c1 hf
    refine sd_iconst (n := 0) (v := 0) (pc' := 25) (by decide +kernel) (by decide) ?_
    obtain rfl := Option.some.inj hf
    exact sd_zret (by decide +kernel) rfl rfl (hE _)
  · replace hf := ite_n c1 hf
    refine sd_iload_n (k := 3) (i := 3) (q := 3) (pc' := 5) (by decide +kernel) rfl rfl ?_
    refine sd_if_lt (off := 19) (tgt := 24) (pc' := 8) (by decide +kernel) (fun c2 => ?_) (fun c2 => ?_)
    · replace hf := ite_p c2 hf
      refine sd_iconst (n := 0) (v := 0) (pc' := 25) (by decide +kernel) (by decide) ?_
      obtain rfl := Option.some.inj hf
      exact sd_zret (by decide +kernel) rfl rfl (hE _)
    · replace hf := ite_n c2 hf
      refine sd_iload_n (k := 2) (i := 2) (q := 2) (pc' := 9) (by decide +kernel) rfl rfl ?_
      refine sd_aload_n (k := 0) (i := 0) (q := 0) (pc' := 10) (by decide +kernel) rfl rfl ?_
      refine sF_gr (idx := 15) (ci := 6) (k := 1) (n := 4) (r := (this + 2)) (pc' := 13) (by decide +kernel) fl_X6_15 (by decide +kernel) rfl pt (by decide) (rt_6_1 pt) ?_
      refine sd_iload_n (k := 1) (i := 1) (q := 1) (pc' := 14) (by decide +kernel) rfl rfl ?_
      obtain ⟨g3, hf⟩ := gd_some hf
      refine sF_iald (n := 6) (pc' := 15) (by decide +kernel) (sh_6_1 pt) g3 ?_
      refine sd_iload_n (k := 3) (i := 3) (q := 3) (pc' := 16) (by decide +kernel) rfl rfl ?_
      refine sd_isub (pc' := 17) (by decide +kernel) ?_
      refine sd_icmp_gt (off := 7) (tgt := 24) (pc' := 20) (by decide +kernel) (fun c4 => ?_) (fun c4 => ?_)
      · replace hf := ite_p c4 hf
        refine sd_iconst (n := 0) (v := 0) (pc' := 25) (by decide +kernel) (by decide) ?_
        obtain rfl := Option.some.inj hf
        exact sd_zret (by decide +kernel) rfl rfl (hE _)
      · replace hf := ite_n c4 hf
        refine sd_iconst (n := 1) (v := 1) (pc' := 21) (by decide +kernel) (by decide) ?_
        refine sd_goto (off := 4) (tgt := 25) (pc' := 24) (by decide +kernel) ?_
        obtain rfl := Option.some.inj hf
        exact sd_zret (by decide +kernel) rfl rfl (hE _)

theorem ml_X11_144 : Cond.methodLink RX11 144 yX6_hasCells ∈ sd_tb := sd_mem (i := 539) (by decide +kernel)
theorem mv_XR_hasCells : sd_mV M_XR_hasCells 3 := ⟨sd_mem (i := 540) (by decide +kernel), sd_mem (i := 541) (by decide +kernel), ⟨sd_mem (i := 542) (by decide +kernel), sd_mem (i := 109) (by decide +kernel), by decide +kernel, by decide +kernel, by decide +kernel⟩⟩
theorem ac_X11_147 : sd_ac RX11 147 := ⟨sd_mem (i := 543) (by decide +kernel), sd_mem (i := 545) (by decide +kernel), sd_mem (i := 544) (by decide +kernel), sd_mem (i := 121) (by decide +kernel)⟩
def M_XT_copy : sd_MX := (yX11_copy, cX11_copy, 6, (some .int), { frames := 3, cells := 0, slots := 0, locals := 82 })
def XT_copy_B39 (h : sd_H) : Option (sd_H × Int32) :=
  b2 (XT_found h 1) (fun h11 t12 => some (h11, t12))
set_option maxHeartbeats 4000000 in
set_option maxRecDepth 100000 in
theorem J_XT_copy_B39 {G : sd_GX} {X : sd_CX} (hE : ∀ g : sd_H, sd_end G X M_XT_copy (sd_F g)) {h : sd_H} {r : (sd_H × Int32)} (hf : XT_copy_B39 h = some r) : sd_J G X (sd_QR G X M_XT_copy (some (.int r.2), sd_F r.1)) M_XT_copy 39 [(0, .ref (G.1 + 0))] [] (sd_F h) := by
  unfold XT_copy_B39 at hf
  refine sd_aload_n (k := 0) (i := 0) (q := 0) (pc' := 40) (by decide +kernel) rfl rfl ?_
  refine sd_iconst (n := 1) (v := 1) (pc' := 41) (by decide +kernel) (by decide) ?_
  obtain ⟨h11, t12, q10, hf⟩ := b2_some hf
  refine sF_callV (idx := 101) (b := 0) (As := [.int 1]) (ci := 11) (nn := 17) (pc' := 44) 1 (T_XT_found (G := G) (h := h)  q10) (by decide +kernel) mv_XT_found ml_X11_101 (by decide +kernel) rfl rfl (Nat.le_of_ble_eq_true rfl) SH_0 rfl (by decide) rfl rfl ?_
  obtain rfl := Option.some.inj hf
  exact sd_iret (by decide +kernel) rfl (hE _)
def XT_copy_B101 (h : sd_H) : Option (sd_H × Int32) :=
  b2 (XT_found h 2) (fun h23 t24 => some (h23, t24))
set_option maxHeartbeats 4000000 in
set_option maxRecDepth 100000 in
theorem J_XT_copy_B101 {G : sd_GX} {X : sd_CX} (hE : ∀ g : sd_H, sd_end G X M_XT_copy (sd_F g)) {h : sd_H} {r : (sd_H × Int32)} (hf : XT_copy_B101 h = some r) : sd_J G X (sd_QR G X M_XT_copy (some (.int r.2), sd_F r.1)) M_XT_copy 101 [(0, .ref (G.1 + 0))] [] (sd_F h) := by
  unfold XT_copy_B101 at hf
  refine sd_aload_n (k := 0) (i := 0) (q := 0) (pc' := 102) (by decide +kernel) rfl rfl ?_
  refine sd_iconst (n := 2) (v := 2) (pc' := 103) (by decide +kernel) (by decide) ?_
  obtain ⟨h23, t24, q22, hf⟩ := b2_some hf
  refine sF_callV (idx := 101) (b := 0) (As := [.int 2]) (ci := 11) (nn := 17) (pc' := 106) 1 (T_XT_found (G := G) (h := h)  q22) (by decide +kernel) mv_XT_found ml_X11_101 (by decide +kernel) rfl rfl (Nat.le_of_ble_eq_true rfl) SH_0 rfl (by decide) rfl rfl ?_
  obtain rfl := Option.some.inj hf
  exact sd_iret (by decide +kernel) rfl (hE _)
def XT_copy (h : sd_H) (a0 : Int32) (a1 : Int32) (a2 : Int32) (a3 : Int32) (a4 : Int32) : Option (sd_H × Int32) :=
  b1 (XT_isRow a0) (fun t2 => (if t2 = 0 then some (h, (-2)) else b1 (XT_isRow a2) (fun t5 => (if t5 = 0 then some (h, (-2)) else b1 (XR_isMissing h 1 a0) (fun t8 => (if t8 = 0 then b1 (XR_isMissing h 1 a2) (fun t14 => (if t14 = 0 then gd (sd_inB a0 6) (gd (sd_inB a2 6) ((if (h.1 2 (a0 : Int32).toNatClampNeg) = (h.1 2 (a2 : Int32).toNatClampNeg) then b1 (XR_hasCells h 1 a0 a1 a4) (fun t20 => (if t20 = 0 then XT_copy_B101 h else b1 (XR_hasCells h 1 a2 a3 a4) (fun t26 => (if t26 = 0 then XT_copy_B101 h else gd (acOK ((a0 * 24) + a1) ((a2 * 24) + a3) a4 144 144) (hb (cpD h 4 ((a0 * 24) + a1) 4 ((a2 * 24) + a3) a4) (fun h29 => hb (wI h29 56 5 1) (fun h31 => some (h31, 1)))))))) else b2 (XT_found h 4) (fun h34 t35 => some (h34, t35))))) else XT_copy_B39 h)) else XT_copy_B39 h))))))
set_option maxHeartbeats 4000000 in
set_option maxRecDepth 100000 in
theorem T_XT_copy {G : sd_GX} {h : sd_H} {a0 : Int32} {a1 : Int32} {a2 : Int32} {a3 : Int32} {a4 : Int32} {r : (sd_H × Int32)} (hf : XT_copy h a0 a1 a2 a3 a4 = some r) : sd_RunF G M_XT_copy [.ref (G.1 + 0), .int a0, .int a1, .int a2, .int a3, .int a4] h (some (.int r.2)) r.1 := by
  refine sF_run ⟨rfl, rfl⟩ (by decide +kernel) (Nat.le_of_ble_eq_true rfl) (lo := [(0, .ref (G.1 + 0)), (1, .int a0), (2, .int a1), (3, .int a2), (4, .int a3), (5, .int a4)]) rfl (fun X hE => ?_)
  unfold XT_copy at hf
  refine sd_iload_n (k := 1) (i := 1) (q := 1) (pc' := 1) (by decide +kernel) rfl rfl ?_
  obtain ⟨t2, q1, hf⟩ := b1_some hf
  refine sF_callS (idx := 93) (As := [.int a0]) (pc' := 4) 1 (T_XT_isRow (G := G) (h := h)  q1) (by decide +kernel) mv_XT_isRow ml_X11_93 (by decide +kernel) rfl rfl (Nat.le_of_ble_eq_true rfl) rfl ?_
  refine sd_if_eq (off := 10) (tgt := 14) (pc' := 7) (by decide +kernel) (fun c3 => ?_) (fun c3 => ?_)
  · replace hf := ite_p c3 hf
    refine sd_bipush (n := -2) (v := (-2)) (pc' := 16) (by decide +kernel) (by decide) ?_
    obtain rfl := Option.some.inj hf
    exact sd_iret (by decide +kernel) rfl (hE _)
  · replace hf := ite_n c3 hf
    refine sd_iload_n (k := 3) (i := 3) (q := 3) (pc' := 8) (by decide +kernel) rfl rfl ?_
    obtain ⟨t5, q4, hf⟩ := b1_some hf
    refine sF_callS (idx := 93) (As := [.int a2]) (pc' := 11) 1 (T_XT_isRow (G := G) (h := h)  q4) (by decide +kernel) mv_XT_isRow ml_X11_93 (by decide +kernel) rfl rfl (Nat.le_of_ble_eq_true rfl) rfl ?_
    refine sd_if_ne (off := 6) (tgt := 17) (pc' := 14) (by decide +kernel) (fun c6 => ?_) (fun c6 => ?_)
    · replace hf := ite_n c6 hf
      refine sd_aload_n (k := 0) (i := 0) (q := 0) (pc' := 18) (by decide +kernel) rfl rfl ?_
      refine sF_gr (idx := 12) (ci := 11) (k := 0) (n := 17) (r := 1) (pc' := 21) (by decide +kernel) fl_X11_12 (by decide +kernel) rfl SH_0 (by decide) (by decide +kernel) ?_
      refine sd_iload_n (k := 1) (i := 1) (q := 1) (pc' := 22) (by decide +kernel) rfl rfl ?_
      obtain ⟨t8, q7, hf⟩ := b1_some hf
      refine sF_callV (idx := 113) (b := 1) (As := [.int a0]) (ci := 6) (nn := 4) (pc' := 25) 1 (T_XR_isMissing (G := G) (h := h) SH_1 q7) (by decide +kernel) mv_XR_isMissing ml_X11_113 (by decide +kernel) rfl rfl (Nat.le_of_ble_eq_true rfl) SH_1 rfl (by decide) rfl rfl ?_
      refine sd_if_ne (off := 14) (tgt := 39) (pc' := 28) (by decide +kernel) (fun c9 => ?_) (fun c9 => ?_)
      · replace hf := ite_n c9 hf
        refine sd_J.sub (lo' := [(0, .ref (G.1 + 0))]) [0] rfl ?_
        exact J_XT_copy_B39 hE hf
      · replace hf := ite_p c9 hf
        refine sd_aload_n (k := 0) (i := 0) (q := 0) (pc' := 29) (by decide +kernel) rfl rfl ?_
        refine sF_gr (idx := 12) (ci := 11) (k := 0) (n := 17) (r := 1) (pc' := 32) (by decide +kernel) fl_X11_12 (by decide +kernel) rfl SH_0 (by decide) (by decide +kernel) ?_
        refine sd_iload_n (k := 3) (i := 3) (q := 3) (pc' := 33) (by decide +kernel) rfl rfl ?_
        obtain ⟨t14, q13, hf⟩ := b1_some hf
        refine sF_callV (idx := 113) (b := 1) (As := [.int a2]) (ci := 6) (nn := 4) (pc' := 36) 1 (T_XR_isMissing (G := G) (h := h) SH_1 q13) (by decide +kernel) mv_XR_isMissing ml_X11_113 (by decide +kernel) rfl rfl (Nat.le_of_ble_eq_true rfl) SH_1 rfl (by decide) rfl rfl ?_
        refine sd_if_eq (off := 9) (tgt := 45) (pc' := 39) (by decide +kernel) (fun c15 => ?_) (fun c15 => ?_)
        · replace hf := ite_p c15 hf
          refine sd_aload_n (k := 0) (i := 0) (q := 0) (pc' := 46) (by decide +kernel) rfl rfl ?_
          refine sF_gr (idx := 12) (ci := 11) (k := 0) (n := 17) (r := 1) (pc' := 49) (by decide +kernel) fl_X11_12 (by decide +kernel) rfl SH_0 (by decide) (by decide +kernel) ?_
          refine sF_gr (idx := 119) (ci := 6) (k := 0) (n := 4) (r := 2) (pc' := 52) (by decide +kernel) fl_X11_119 (by decide +kernel) rfl SH_1 (by decide) (by decide +kernel) ?_
          refine sd_iload_n (k := 1) (i := 1) (q := 1) (pc' := 53) (by decide +kernel) rfl rfl ?_
          obtain ⟨g16, hf⟩ := gd_some hf
          refine sF_iald (n := 6) (pc' := 54) (by decide +kernel) SH_2 g16 ?_
          refine sd_aload_n (k := 0) (i := 0) (q := 0) (pc' := 55) (by decide +kernel) rfl rfl ?_
          refine sF_gr (idx := 12) (ci := 11) (k := 0) (n := 17) (r := 1) (pc' := 58) (by decide +kernel) fl_X11_12 (by decide +kernel) rfl SH_0 (by decide) (by decide +kernel) ?_
          refine sF_gr (idx := 119) (ci := 6) (k := 0) (n := 4) (r := 2) (pc' := 61) (by decide +kernel) fl_X11_119 (by decide +kernel) rfl SH_1 (by decide) (by decide +kernel) ?_
          refine sd_iload_n (k := 3) (i := 3) (q := 3) (pc' := 62) (by decide +kernel) rfl rfl ?_
          obtain ⟨g17, hf⟩ := gd_some hf
          refine sF_iald (n := 6) (pc' := 63) (by decide +kernel) SH_2 g17 ?_
          refine sd_icmp_eq (off := 9) (tgt := 72) (pc' := 66) (by decide +kernel) (fun c18 => ?_) (fun c18 => ?_)
          · replace hf := ite_p c18 hf
            refine sd_aload_n (k := 0) (i := 0) (q := 0) (pc' := 73) (by decide +kernel) rfl rfl ?_
            refine sF_gr (idx := 12) (ci := 11) (k := 0) (n := 17) (r := 1) (pc' := 76) (by decide +kernel) fl_X11_12 (by decide +kernel) rfl SH_0 (by decide) (by decide +kernel) ?_
            refine sd_iload_n (k := 1) (i := 1) (q := 1) (pc' := 77) (by decide +kernel) rfl rfl ?_
            refine sd_iload_n (k := 2) (i := 2) (q := 2) (pc' := 78) (by decide +kernel) rfl rfl ?_
            refine sd_iload (i := 5) (q := 5) (pc' := 80) (by decide +kernel) rfl ?_
            obtain ⟨t20, q19, hf⟩ := b1_some hf
            refine sF_callV (idx := 144) (b := 1) (As := [.int a0, .int a1, .int a4]) (ci := 6) (nn := 4) (pc' := 83) 3 (T_XR_hasCells (G := G) (h := h) SH_1 q19) (by decide +kernel) mv_XR_hasCells ml_X11_144 (by decide +kernel) rfl rfl (Nat.le_of_ble_eq_true rfl) SH_1 rfl (by decide) rfl rfl ?_
            refine sd_if_eq (off := 18) (tgt := 101) (pc' := 86) (by decide +kernel) (fun c21 => ?_) (fun c21 => ?_)
            · replace hf := ite_p c21 hf
              refine sd_J.sub (lo' := [(0, .ref (G.1 + 0))]) [0] rfl ?_
              exact J_XT_copy_B101 hE hf
            · replace hf := ite_n c21 hf
              refine sd_aload_n (k := 0) (i := 0) (q := 0) (pc' := 87) (by decide +kernel) rfl rfl ?_
              refine sF_gr (idx := 12) (ci := 11) (k := 0) (n := 17) (r := 1) (pc' := 90) (by decide +kernel) fl_X11_12 (by decide +kernel) rfl SH_0 (by decide) (by decide +kernel) ?_
              refine sd_iload_n (k := 3) (i := 3) (q := 3) (pc' := 91) (by decide +kernel) rfl rfl ?_
              refine sd_iload (i := 4) (q := 4) (pc' := 93) (by decide +kernel) rfl ?_
              refine sd_iload (i := 5) (q := 5) (pc' := 95) (by decide +kernel) rfl ?_
              obtain ⟨t26, q25, hf⟩ := b1_some hf
              refine sF_callV (idx := 144) (b := 1) (As := [.int a2, .int a3, .int a4]) (ci := 6) (nn := 4) (pc' := 98) 3 (T_XR_hasCells (G := G) (h := h) SH_1 q25) (by decide +kernel) mv_XR_hasCells ml_X11_144 (by decide +kernel) rfl rfl (Nat.le_of_ble_eq_true rfl) SH_1 rfl (by decide) rfl rfl ?_
              refine sd_if_ne (off := 9) (tgt := 107) (pc' := 101) (by decide +kernel) (fun c27 => ?_) (fun c27 => ?_)
              · replace hf := ite_n c27 hf
                refine sd_aload_n (k := 0) (i := 0) (q := 0) (pc' := 108) (by decide +kernel) rfl rfl ?_
                refine sF_gr (idx := 12) (ci := 11) (k := 0) (n := 17) (r := 1) (pc' := 111) (by decide +kernel) fl_X11_12 (by decide +kernel) rfl SH_0 (by decide) (by decide +kernel) ?_
                refine sF_gr (idx := 126) (ci := 6) (k := 2) (n := 4) (r := 4) (pc' := 114) (by decide +kernel) fl_X11_126 (by decide +kernel) rfl SH_1 (by decide) (by decide +kernel) ?_
                refine sd_iload_n (k := 1) (i := 1) (q := 1) (pc' := 115) (by decide +kernel) rfl rfl ?_
                refine sd_bipush (n := 24) (v := 24) (pc' := 117) (by decide +kernel) (by decide) ?_
                refine sd_imul (pc' := 118) (by decide +kernel) ?_
                refine sd_iload_n (k := 2) (i := 2) (q := 2) (pc' := 119) (by decide +kernel) rfl rfl ?_
                refine sd_iadd (pc' := 120) (by decide +kernel) ?_
                refine sd_aload_n (k := 0) (i := 0) (q := 0) (pc' := 121) (by decide +kernel) rfl rfl ?_
                refine sF_gr (idx := 12) (ci := 11) (k := 0) (n := 17) (r := 1) (pc' := 124) (by decide +kernel) fl_X11_12 (by decide +kernel) rfl SH_0 (by decide) (by decide +kernel) ?_
                refine sF_gr (idx := 126) (ci := 6) (k := 2) (n := 4) (r := 4) (pc' := 127) (by decide +kernel) fl_X11_126 (by decide +kernel) rfl SH_1 (by decide) (by decide +kernel) ?_
                refine sd_iload_n (k := 3) (i := 3) (q := 3) (pc' := 128) (by decide +kernel) rfl rfl ?_
                refine sd_bipush (n := 24) (v := 24) (pc' := 130) (by decide +kernel) (by decide) ?_
                refine sd_imul (pc' := 131) (by decide +kernel) ?_
                refine sd_iload (i := 4) (q := 4) (pc' := 133) (by decide +kernel) rfl ?_
                refine sd_iadd (pc' := 134) (by decide +kernel) ?_
                refine sd_iload (i := 5) (q := 5) (pc' := 136) (by decide +kernel) rfl ?_
                obtain ⟨g28, hf⟩ := gd_some hf
                obtain ⟨h29, e30, hf⟩ := hb_some hf
                refine sF_copyd (idx := 147) (n0 := 144) (n1 := 144) (pc' := 139) (by decide +kernel) rfl ac_X11_147 SH_4 SH_4 g28 (by decide) (Nat.le_of_ble_eq_true rfl) ?_
                rw [← e30]; clear e30
                refine sd_aload_n (k := 0) (i := 0) (q := 0) (pc' := 140) (by decide +kernel) rfl rfl ?_
                refine sF_gr (idx := 41) (ci := 11) (k := 4) (n := 17) (r := 56) (pc' := 143) (by decide +kernel) fl_X11_41 (by decide +kernel) rfl SH_0 (by decide) (by decide +kernel) ?_
                refine sd_iconst (n := 1) (v := 1) (pc' := 144) (by decide +kernel) (by decide) ?_
                obtain ⟨h31, e32, hf⟩ := hb_some hf
                refine sF_pz (idx := 109) (ci := 10) (k := 5) (n := 6) (pc' := 147) (by decide +kernel) fl_X11_109 (by decide +kernel) rfl rfl rfl SH_56 (by decide) ?_
                rw [← e32]; clear e32
                refine sd_iconst (n := 1) (v := 1) (pc' := 148) (by decide +kernel) (by decide) ?_
                obtain rfl := Option.some.inj hf
                exact sd_iret (by decide +kernel) rfl (hE _)
              · replace hf := ite_p c27 hf
                refine sd_J.sub (lo' := [(0, .ref (G.1 + 0))]) [0] rfl ?_
                exact J_XT_copy_B101 hE hf
          · replace hf := ite_n c18 hf
            refine sd_aload_n (k := 0) (i := 0) (q := 0) (pc' := 67) (by decide +kernel) rfl rfl ?_
            refine sd_iconst (n := 4) (v := 4) (pc' := 68) (by decide +kernel) (by decide) ?_
            obtain ⟨h34, t35, q33, hf⟩ := b2_some hf
            refine sF_callV (idx := 101) (b := 0) (As := [.int 4]) (ci := 11) (nn := 17) (pc' := 71) 1 (T_XT_found (G := G) (h := h)  q33) (by decide +kernel) mv_XT_found ml_X11_101 (by decide +kernel) rfl rfl (Nat.le_of_ble_eq_true rfl) SH_0 rfl (by decide) rfl rfl ?_
            obtain rfl := Option.some.inj hf
            exact sd_iret (by decide +kernel) rfl (hE _)
        · replace hf := ite_n c15 hf
          refine sd_J.sub (lo' := [(0, .ref (G.1 + 0))]) [0] rfl ?_
          exact J_XT_copy_B39 hE hf
    · replace hf := ite_p c6 hf
      refine sd_bipush (n := -2) (v := (-2)) (pc' := 16) (by decide +kernel) (by decide) ?_
      obtain rfl := Option.some.inj hf
      exact sd_iret (by decide +kernel) rfl (hE _)

theorem fl_X0_13 : sd_fl RX0 13 0 0 := ⟨sd_mem (i := 278) (by decide +kernel), by decide, by decide⟩
theorem fl_X0_20 : sd_fl RX0 20 0 1 := ⟨sd_mem (i := 279) (by decide +kernel), by decide, by decide⟩
theorem fl_X0_16 : sd_fl RX0 16 0 2 := ⟨sd_mem (i := 280) (by decide +kernel), by decide, by decide⟩
def M_XH_latest : sd_MX := (yX0_latest, cX0_latest, 1, (some (.array .int)), { frames := 1, cells := 0, slots := 0, locals := 40 })
def XH_latest (h : sd_H) : Option Nat :=
  gd (sd_inB (((((h.1 33 1) + (h.1 33 2)) + 20) - 1) - ((((h.1 33 1) + (h.1 33 2)) + 20) - 1) / 20 * 20) 20) (some (35 + 1 * ((((((h.1 33 1) + (h.1 33 2)) + 20) - 1) - ((((h.1 33 1) + (h.1 33 2)) + 20) - 1) / 20 * 20) : Int32).toNatClampNeg))
set_option maxHeartbeats 4000000 in
set_option maxRecDepth 100000 in
theorem T_XH_latest {G : sd_GX} {h : sd_H} {r : Nat} (hf : XH_latest h = some r) : sd_RunF G M_XH_latest [.ref (G.1 + 33)] h (some (.ref (G.1 + r))) h := by
  refine sF_run ⟨rfl, rfl⟩ (by decide +kernel) (Nat.le_of_ble_eq_true rfl) (lo := [(0, .ref (G.1 + 33))]) rfl (fun X hE => ?_)
  unfold XH_latest at hf
  refine sd_aload_n (k := 0) (i := 0) (q := 0) (pc' := 1) (by decide +kernel) rfl rfl ?_
  refine sF_gr (idx := 13) (ci := 0) (k := 0) (n := 3) (r := 34) (pc' := 4) (by decide +kernel) fl_X0_13 (by decide +kernel) rfl SH_33 (by decide) (by decide +kernel) ?_
  refine sd_aload_n (k := 0) (i := 0) (q := 0) (pc' := 5) (by decide +kernel) rfl rfl ?_
  refine sF_gi (idx := 20) (ci := 0) (k := 1) (n := 3) (pc' := 8) (by decide +kernel) fl_X0_20 (by decide +kernel) rfl SH_33 ?_
  refine sd_aload_n (k := 0) (i := 0) (q := 0) (pc' := 9) (by decide +kernel) rfl rfl ?_
  refine sF_gi (idx := 16) (ci := 0) (k := 2) (n := 3) (pc' := 12) (by decide +kernel) fl_X0_16 (by decide +kernel) rfl SH_33 ?_
  refine sd_iadd (pc' := 13) (by decide +kernel) ?_
  refine sd_bipush (n := 20) (v := 20) (pc' := 15) (by decide +kernel) (by decide) ?_
  refine sd_iadd (pc' := 16) (by decide +kernel) ?_
  refine sd_iconst (n := 1) (v := 1) (pc' := 17) (by decide +kernel) (by decide) ?_
  refine sd_isub (pc' := 18) (by decide +kernel) ?_
  refine sd_bipush (n := 20) (v := 20) (pc' := 20) (by decide +kernel) (by decide) ?_
  refine sd_irem (pc' := 21) (by decide +kernel) (by decide) ?_
  obtain ⟨g1, hf⟩ := gd_some hf
  refine sF_aald2 (n := 20) (r := (35 + 1 * ((((((h.1 33 1) + (h.1 33 2)) + 20) - 1) - ((((h.1 33 1) + (h.1 33 2)) + 20) - 1) / 20 * 20) : Int32).toNatClampNeg)) (pc' := 22) (by decide +kernel) SH_34 g1 (rta_34 (inB_lt g1)) ?_
  obtain rfl := Option.some.inj hf
  exact sd_aret (by decide +kernel) rfl (Or.inr ⟨_, rfl⟩) (hE _)

theorem ml_X0_23 : Cond.methodLink RX0 23 yX0_latest ∈ sd_tb := sd_mem (i := 554) (by decide +kernel)
theorem mv_XH_latest : sd_mV M_XH_latest 0 := ⟨sd_mem (i := 556) (by decide +kernel), sd_mem (i := 1) (by decide +kernel), ⟨sd_mem (i := 557) (by decide +kernel), sd_mem (i := 113) (by decide +kernel), by decide +kernel, by decide +kernel, by decide +kernel⟩⟩
def M_XH_note : sd_MX := (yX0_note, cX0_note, 5, none, { frames := 2, cells := 0, slots := 0, locals := 60 })
def XH_note_B35 (h : sd_H) (l1 : Int32) (l2 : Int32) (l3 : Int32) : Option sd_H :=
  b1 (XH_latest h) (fun t5 => gd (decide (sd_SH t5 = (100, 6))) (hb (wI h t5 (0 : Int32).toNatClampNeg l1) (fun h7 => hb (wI h7 t5 (1 : Int32).toNatClampNeg l2) (fun h9 => hb (wI h9 t5 (2 : Int32).toNatClampNeg l3) (fun h11 => some h11)))))
set_option maxHeartbeats 4000000 in
set_option maxRecDepth 100000 in
theorem J_XH_note_B35 {G : sd_GX} {X : sd_CX} (hE : ∀ g : sd_H, sd_end G X M_XH_note (sd_F g)) {h : sd_H} {r : sd_H} {l1 : Int32} {l2 : Int32} {l3 : Int32} (hf : XH_note_B35 h l1 l2 l3 = some r) : sd_J G X (sd_QR G X M_XH_note (none, sd_F r)) M_XH_note 35 [(0, .ref (G.1 + 33)), (1, .int l1), (2, .int l2), (3, .int l3)] [] (sd_F h) := by
  unfold XH_note_B35 at hf
  refine sd_aload_n (k := 0) (i := 0) (q := 0) (pc' := 36) (by decide +kernel) rfl rfl ?_
  obtain ⟨t5, q4, hf⟩ := b1_some hf
  refine sF_callV (idx := 23) (b := 33) (As := []) (ci := 0) (nn := 3) (pc' := 39) 0 (T_XH_latest (G := G) (h := h)  q4) (by decide +kernel) mv_XH_latest ml_X0_23 (by decide +kernel) rfl rfl (Nat.le_of_ble_eq_true rfl) SH_33 rfl (by decide) rfl rfl ?_
  obtain ⟨g6, hf⟩ := gd_some hf
  have g6 := of_decide_eq_true g6
  refine sd_astore (i := 4) (pc' := 41) (lo' := [(4, .ref (G.1 + t5)), (0, .ref (G.1 + 33)), (1, .int l1), (2, .int l2), (3, .int l3)]) (by decide +kernel) (by decide) rfl ?_
  refine sd_aload (i := 4) (q := 0) (pc' := 43) (by decide +kernel) rfl ?_
  refine sd_iconst (n := 0) (v := 0) (pc' := 44) (by decide +kernel) (by decide) ?_
  refine sd_iload_n (k := 1) (i := 1) (q := 2) (pc' := 45) (by decide +kernel) rfl rfl ?_
  obtain ⟨h7, e8, hf⟩ := hb_some hf
  refine sF_iast (n := 6) (pc' := 46) (by decide +kernel) g6 (by decide) ?_
  rw [← e8]; clear e8
  refine sd_aload (i := 4) (q := 0) (pc' := 48) (by decide +kernel) rfl ?_
  refine sd_iconst (n := 1) (v := 1) (pc' := 49) (by decide +kernel) (by decide) ?_
  refine sd_iload_n (k := 2) (i := 2) (q := 3) (pc' := 50) (by decide +kernel) rfl rfl ?_
  obtain ⟨h9, e10, hf⟩ := hb_some hf
  refine sF_iast (n := 6) (pc' := 51) (by decide +kernel) g6 (by decide) ?_
  rw [← e10]; clear e10
  refine sd_aload (i := 4) (q := 0) (pc' := 53) (by decide +kernel) rfl ?_
  refine sd_iconst (n := 2) (v := 2) (pc' := 54) (by decide +kernel) (by decide) ?_
  refine sd_iload_n (k := 3) (i := 3) (q := 4) (pc' := 55) (by decide +kernel) rfl rfl ?_
  obtain ⟨h11, e12, hf⟩ := hb_some hf
  refine sF_iast (n := 6) (pc' := 56) (by decide +kernel) g6 (by decide) ?_
  rw [← e12]; clear e12
  obtain rfl := Option.some.inj hf
  exact sd_vret (by decide +kernel) rfl (hE _)
def XH_note (h : sd_H) (a0 : Int32) (a1 : Int32) (a2 : Int32) : Option sd_H :=
  (if (h.1 33 2) = 20 then hb (wI h 33 1 (((h.1 33 1) + 1) - ((h.1 33 1) + 1) / 20 * 20)) (fun h13 => XH_note_B35 h13 a0 a1 a2) else hb (wI h 33 2 ((h.1 33 2) + 1)) (fun h2 => XH_note_B35 h2 a0 a1 a2))
set_option maxHeartbeats 4000000 in
set_option maxRecDepth 100000 in
theorem T_XH_note {G : sd_GX} {h : sd_H} {a0 : Int32} {a1 : Int32} {a2 : Int32} {r : sd_H} (hf : XH_note h a0 a1 a2 = some r) : sd_RunF G M_XH_note [.ref (G.1 + 33), .int a0, .int a1, .int a2] h none r := by
  refine sF_run ⟨rfl, rfl⟩ (by decide +kernel) (Nat.le_of_ble_eq_true rfl) (lo := [(0, .ref (G.1 + 33)), (1, .int a0), (2, .int a1), (3, .int a2)]) rfl (fun X hE => ?_)
  unfold XH_note at hf
  refine sd_aload_n (k := 0) (i := 0) (q := 0) (pc' := 1) (by decide +kernel) rfl rfl ?_
  refine sF_gi (idx := 16) (ci := 0) (k := 2) (n := 3) (pc' := 4) (by decide +kernel) fl_X0_16 (by decide +kernel) rfl SH_33 ?_
  refine sd_bipush (n := 20) (v := 20) (pc' := 6) (by decide +kernel) (by decide) ?_
  refine sd_icmp_ne (off := 19) (tgt := 25) (pc' := 9) (by decide +kernel) (fun c1 => ?_) (fun c1 => ?_)
  · replace hf := ite_n c1 hf
    refine sd_aload_n (k := 0) (i := 0) (q := 0) (pc' := 26) (by decide +kernel) rfl rfl ?_
    refine sd_dup (pc' := 27) (by decide +kernel) rfl ?_
    refine sF_gi (idx := 16) (ci := 0) (k := 2) (n := 3) (pc' := 30) (by decide +kernel) fl_X0_16 (by decide +kernel) rfl SH_33 ?_
    refine sd_iconst (n := 1) (v := 1) (pc' := 31) (by decide +kernel) (by decide) ?_
    refine sd_iadd (pc' := 32) (by decide +kernel) ?_
    obtain ⟨h2, e3, hf⟩ := hb_some hf
    refine sF_pi (idx := 16) (ci := 0) (k := 2) (n := 3) (pc' := 35) (by decide +kernel) fl_X0_16 (by decide +kernel) rfl rfl rfl SH_33 ?_
    rw [← e3]; clear e3
    refine sd_J.sub (lo' := [(0, .ref (G.1 + 33)), (1, .int a0), (2, .int a1), (3, .int a2)]) [0, 1, 2, 3] rfl ?_
    exact J_XH_note_B35 hE hf
  · replace hf := ite_p c1 hf
    refine sd_aload_n (k := 0) (i := 0) (q := 0) (pc' := 10) (by decide +kernel) rfl rfl ?_
    refine sd_aload_n (k := 0) (i := 0) (q := 0) (pc' := 11) (by decide +kernel) rfl rfl ?_
    refine sF_gi (idx := 20) (ci := 0) (k := 1) (n := 3) (pc' := 14) (by decide +kernel) fl_X0_20 (by decide +kernel) rfl SH_33 ?_
    refine sd_iconst (n := 1) (v := 1) (pc' := 15) (by decide +kernel) (by decide) ?_
    refine sd_iadd (pc' := 16) (by decide +kernel) ?_
    refine sd_bipush (n := 20) (v := 20) (pc' := 18) (by decide +kernel) (by decide) ?_
    refine sd_irem (pc' := 19) (by decide +kernel) (by decide) ?_
    obtain ⟨h13, e14, hf⟩ := hb_some hf
    refine sF_pi (idx := 20) (ci := 0) (k := 1) (n := 3) (pc' := 22) (by decide +kernel) fl_X0_20 (by decide +kernel) rfl rfl rfl SH_33 ?_
    rw [← e14]; clear e14
    refine sd_goto (off := 13) (tgt := 35) (pc' := 25) (by decide +kernel) ?_
    refine sd_J.sub (lo' := [(0, .ref (G.1 + 33)), (1, .int a0), (2, .int a1), (3, .int a2)]) [0, 1, 2, 3] rfl ?_
    exact J_XH_note_B35 hE hf

def M_XH_keep : sd_MX := (yX0_keep, cX0_keep, 5, none, { frames := 2, cells := 0, slots := 0, locals := 60 })
def XH_keep (h : sd_H) (a0 : Int32) (a1 : Int32) (a2 : Int32) : Option sd_H :=
  b1 (XH_latest h) (fun t2 => gd (decide (sd_SH t2 = (100, 6))) (hb (wI h t2 (3 : Int32).toNatClampNeg a0) (fun h4 => hb (wI h4 t2 (4 : Int32).toNatClampNeg a1) (fun h6 => hb (wI h6 t2 (5 : Int32).toNatClampNeg a2) (fun h8 => some h8)))))
set_option maxHeartbeats 4000000 in
set_option maxRecDepth 100000 in
theorem T_XH_keep {G : sd_GX} {h : sd_H} {a0 : Int32} {a1 : Int32} {a2 : Int32} {r : sd_H} (hf : XH_keep h a0 a1 a2 = some r) : sd_RunF G M_XH_keep [.ref (G.1 + 33), .int a0, .int a1, .int a2] h none r := by
  refine sF_run ⟨rfl, rfl⟩ (by decide +kernel) (Nat.le_of_ble_eq_true rfl) (lo := [(0, .ref (G.1 + 33)), (1, .int a0), (2, .int a1), (3, .int a2)]) rfl (fun X hE => ?_)
  unfold XH_keep at hf
  refine sd_aload_n (k := 0) (i := 0) (q := 0) (pc' := 1) (by decide +kernel) rfl rfl ?_
  obtain ⟨t2, q1, hf⟩ := b1_some hf
  refine sF_callV (idx := 23) (b := 33) (As := []) (ci := 0) (nn := 3) (pc' := 4) 0 (T_XH_latest (G := G) (h := h)  q1) (by decide +kernel) mv_XH_latest ml_X0_23 (by decide +kernel) rfl rfl (Nat.le_of_ble_eq_true rfl) SH_33 rfl (by decide) rfl rfl ?_
  obtain ⟨g3, hf⟩ := gd_some hf
  have g3 := of_decide_eq_true g3
  refine sd_astore (i := 4) (pc' := 6) (lo' := [(4, .ref (G.1 + t2)), (0, .ref (G.1 + 33)), (1, .int a0), (2, .int a1), (3, .int a2)]) (by decide +kernel) (by decide) rfl ?_
  refine sd_aload (i := 4) (q := 0) (pc' := 8) (by decide +kernel) rfl ?_
  refine sd_iconst (n := 3) (v := 3) (pc' := 9) (by decide +kernel) (by decide) ?_
  refine sd_iload_n (k := 1) (i := 1) (q := 2) (pc' := 10) (by decide +kernel) rfl rfl ?_
  obtain ⟨h4, e5, hf⟩ := hb_some hf
  refine sF_iast (n := 6) (pc' := 11) (by decide +kernel) g3 (by decide) ?_
  rw [← e5]; clear e5
  refine sd_aload (i := 4) (q := 0) (pc' := 13) (by decide +kernel) rfl ?_
  refine sd_iconst (n := 4) (v := 4) (pc' := 14) (by decide +kernel) (by decide) ?_
  refine sd_iload_n (k := 2) (i := 2) (q := 3) (pc' := 15) (by decide +kernel) rfl rfl ?_
  obtain ⟨h6, e7, hf⟩ := hb_some hf
  refine sF_iast (n := 6) (pc' := 16) (by decide +kernel) g3 (by decide) ?_
  rw [← e7]; clear e7
  refine sd_aload (i := 4) (q := 0) (pc' := 18) (by decide +kernel) rfl ?_
  refine sd_iconst (n := 5) (v := 5) (pc' := 19) (by decide +kernel) (by decide) ?_
  refine sd_iload_n (k := 3) (i := 3) (q := 4) (pc' := 20) (by decide +kernel) rfl rfl ?_
  obtain ⟨h8, e9, hf⟩ := hb_some hf
  refine sF_iast (n := 6) (pc' := 21) (by decide +kernel) g3 (by decide) ?_
  rw [← e9]; clear e9
  obtain rfl := Option.some.inj hf
  exact sd_vret (by decide +kernel) rfl (hE _)

theorem fl_X11_21 : sd_fl RX11 21 11 1 := ⟨sd_mem (i := 425) (by decide +kernel), by decide, by decide⟩
theorem fl_X11_153 : sd_fl RX11 153 2 1 := ⟨sd_mem (i := 258) (by decide +kernel), by decide, by decide⟩
theorem fl_X11_28 : sd_fl RX11 28 11 2 := ⟨sd_mem (i := 426) (by decide +kernel), by decide, by decide⟩
theorem ml_X11_157 : Cond.methodLink RX11 157 yX0_note ∈ sd_tb := sd_mem (i := 550) (by decide +kernel)
theorem mv_XH_note : sd_mV M_XH_note 3 := ⟨sd_mem (i := 551) (by decide +kernel), sd_mem (i := 552) (by decide +kernel), ⟨sd_mem (i := 553) (by decide +kernel), sd_mem (i := 113) (by decide +kernel), by decide +kernel, by decide +kernel, by decide +kernel⟩⟩
theorem ml_X11_160 : Cond.methodLink RX11 160 yX0_keep ∈ sd_tb := sd_mem (i := 558) (by decide +kernel)
theorem mv_XH_keep : sd_mV M_XH_keep 3 := ⟨sd_mem (i := 559) (by decide +kernel), sd_mem (i := 560) (by decide +kernel), ⟨sd_mem (i := 561) (by decide +kernel), sd_mem (i := 113) (by decide +kernel), by decide +kernel, by decide +kernel, by decide +kernel⟩⟩
def M_XT_turns : sd_MX := (yX11_turns, cX11_turns, 3, (some .int), { frames := 3, cells := 0, slots := 0, locals := 84 })
def XT_turns (h : sd_H) (a0 : Int32) : Option (sd_H × Int32) :=
  b1 (XT_within a0 0 10) (fun t2 => (if t2 = 0 then some (h, (-2)) else b1 (XH_note h 0 (-1) (-1)) (fun h5 => b1 (XH_keep h5 (h.1 6 1) 0 0) (fun h7 => hb (wI h7 6 1 a0) (fun h8 => hb (wI h8 56 5 1) (fun h10 => some (h10, (h.1 6 1))))))))
set_option maxHeartbeats 4000000 in
set_option maxRecDepth 100000 in
theorem T_XT_turns {G : sd_GX} {h : sd_H} {a0 : Int32} {r : (sd_H × Int32)} (hf : XT_turns h a0 = some r) : sd_RunF G M_XT_turns [.ref (G.1 + 0), .int a0] h (some (.int r.2)) r.1 := by
  refine sF_run ⟨rfl, rfl⟩ (by decide +kernel) (Nat.le_of_ble_eq_true rfl) (lo := [(0, .ref (G.1 + 0)), (1, .int a0)]) rfl (fun X hE => ?_)
  unfold XT_turns at hf
  refine sd_iload_n (k := 1) (i := 1) (q := 1) (pc' := 1) (by decide +kernel) rfl rfl ?_
  refine sd_iconst (n := 0) (v := 0) (pc' := 2) (by decide +kernel) (by decide) ?_
  refine sd_bipush (n := 10) (v := 10) (pc' := 4) (by decide +kernel) (by decide) ?_
  obtain ⟨t2, q1, hf⟩ := b1_some hf
  refine sF_callS (idx := 97) (As := [.int a0, .int 0, .int 10]) (pc' := 7) 3 (T_XT_within (G := G) (h := h)  q1) (by decide +kernel) mv_XT_within ml_X11_97 (by decide +kernel) rfl rfl (Nat.le_of_ble_eq_true rfl) rfl ?_
  refine sd_if_ne (off := 6) (tgt := 13) (pc' := 10) (by decide +kernel) (fun c3 => ?_) (fun c3 => ?_)
  · replace hf := ite_n c3 hf
    refine sd_aload_n (k := 0) (i := 0) (q := 0) (pc' := 14) (by decide +kernel) rfl rfl ?_
    refine sF_gr (idx := 21) (ci := 11) (k := 1) (n := 17) (r := 6) (pc' := 17) (by decide +kernel) fl_X11_21 (by decide +kernel) rfl SH_0 (by decide) (by decide +kernel) ?_
    refine sF_gi (idx := 153) (ci := 2) (k := 1) (n := 3) (pc' := 20) (by decide +kernel) fl_X11_153 (by decide +kernel) rfl SH_6 ?_
    refine sd_istore_n (k := 2) (i := 2) (pc' := 21) (lo' := [(2, .int (h.1 6 1)), (0, .ref (G.1 + 0)), (1, .int a0)]) (by decide +kernel) rfl (by decide) rfl ?_
    refine sd_aload_n (k := 0) (i := 0) (q := 1) (pc' := 22) (by decide +kernel) rfl rfl ?_
    refine sF_gr (idx := 28) (ci := 11) (k := 2) (n := 17) (r := 33) (pc' := 25) (by decide +kernel) fl_X11_28 (by decide +kernel) rfl SH_0 (by decide) (by decide +kernel) ?_
    refine sd_iconst (n := 0) (v := 0) (pc' := 26) (by decide +kernel) (by decide) ?_
    refine sd_iconst (n := -1) (v := (-1)) (pc' := 27) (by decide +kernel) (by decide) ?_
    refine sd_iconst (n := -1) (v := (-1)) (pc' := 28) (by decide +kernel) (by decide) ?_
    obtain ⟨h5, q4, hf⟩ := b1_some hf
    refine sF_callV0 (idx := 157) (b := 33) (As := [.int 0, .int (-1), .int (-1)]) (ci := 0) (nn := 3) (pc' := 31) 3 (T_XH_note (G := G) (h := h)  q4) (by decide +kernel) mv_XH_note ml_X11_157 (by decide +kernel) rfl rfl (Nat.le_of_ble_eq_true rfl) SH_33 rfl (by decide) rfl rfl ?_
    refine sd_aload_n (k := 0) (i := 0) (q := 1) (pc' := 32) (by decide +kernel) rfl rfl ?_
    refine sF_gr (idx := 28) (ci := 11) (k := 2) (n := 17) (r := 33) (pc' := 35) (by decide +kernel) fl_X11_28 (by decide +kernel) rfl SH_0 (by decide) (by decide +kernel) ?_
    refine sd_iload_n (k := 2) (i := 2) (q := 0) (pc' := 36) (by decide +kernel) rfl rfl ?_
    refine sd_iconst (n := 0) (v := 0) (pc' := 37) (by decide +kernel) (by decide) ?_
    refine sd_iconst (n := 0) (v := 0) (pc' := 38) (by decide +kernel) (by decide) ?_
    obtain ⟨h7, q6, hf⟩ := b1_some hf
    refine sF_callV0 (idx := 160) (b := 33) (As := [.int (h.1 6 1), .int 0, .int 0]) (ci := 0) (nn := 3) (pc' := 41) 3 (T_XH_keep (G := G) (h := h5)  q6) (by decide +kernel) mv_XH_keep ml_X11_160 (by decide +kernel) rfl rfl (Nat.le_of_ble_eq_true rfl) SH_33 rfl (by decide) rfl rfl ?_
    refine sd_aload_n (k := 0) (i := 0) (q := 1) (pc' := 42) (by decide +kernel) rfl rfl ?_
    refine sF_gr (idx := 21) (ci := 11) (k := 1) (n := 17) (r := 6) (pc' := 45) (by decide +kernel) fl_X11_21 (by decide +kernel) rfl SH_0 (by decide) (by decide +kernel) ?_
    refine sd_iload_n (k := 1) (i := 1) (q := 2) (pc' := 46) (by decide +kernel) rfl rfl ?_
    obtain ⟨h8, e9, hf⟩ := hb_some hf
    refine sF_pi (idx := 153) (ci := 2) (k := 1) (n := 3) (pc' := 49) (by decide +kernel) fl_X11_153 (by decide +kernel) rfl rfl rfl SH_6 ?_
    rw [← e9]; clear e9
    refine sd_aload_n (k := 0) (i := 0) (q := 1) (pc' := 50) (by decide +kernel) rfl rfl ?_
    refine sF_gr (idx := 41) (ci := 11) (k := 4) (n := 17) (r := 56) (pc' := 53) (by decide +kernel) fl_X11_41 (by decide +kernel) rfl SH_0 (by decide) (by decide +kernel) ?_
    refine sd_iconst (n := 1) (v := 1) (pc' := 54) (by decide +kernel) (by decide) ?_
    obtain ⟨h10, e11, hf⟩ := hb_some hf
    refine sF_pz (idx := 109) (ci := 10) (k := 5) (n := 6) (pc' := 57) (by decide +kernel) fl_X11_109 (by decide +kernel) rfl rfl rfl SH_56 (by decide) ?_
    rw [← e11]; clear e11
    refine sd_iload_n (k := 2) (i := 2) (q := 0) (pc' := 58) (by decide +kernel) rfl rfl ?_
    obtain rfl := Option.some.inj hf
    exact sd_iret (by decide +kernel) rfl (hE _)
  · replace hf := ite_p c3 hf
    refine sd_bipush (n := -2) (v := (-2)) (pc' := 12) (by decide +kernel) (by decide) ?_
    obtain rfl := Option.some.inj hf
    exact sd_iret (by decide +kernel) rfl (hE _)

theorem fl_X11_163 : sd_fl RX11 163 11 15 := ⟨sd_mem (i := 439) (by decide +kernel), by decide, by decide⟩
theorem fl_X11_32 : sd_fl RX11 32 11 3 := ⟨sd_mem (i := 427) (by decide +kernel), by decide, by decide⟩
def M_XT_type : sd_MX := (yX11_type, cX11_type, 2, (some .int), { frames := 2, cells := 0, slots := 0, locals := 62 })
def XT_type (h : sd_H) (a0 : Int32) : Option (sd_H × Int32) :=
  b1 (XT_within a0 0 255) (fun t2 => (if t2 = 0 then some (h, (-2)) else (if (h.1 0 15) < 5 then hb (wI h 0 15 ((h.1 0 15) + 1)) (fun h5 => gd (sd_inB (h.1 0 15) 5) (hb (wI h5 55 ((h.1 0 15) : Int32).toNatClampNeg a0) (fun h8 => some (h8, (h8.1 0 15))))) else some (h, (-4)))))
set_option maxHeartbeats 4000000 in
set_option maxRecDepth 100000 in
theorem T_XT_type {G : sd_GX} {h : sd_H} {a0 : Int32} {r : (sd_H × Int32)} (hf : XT_type h a0 = some r) : sd_RunF G M_XT_type [.ref (G.1 + 0), .int a0] h (some (.int r.2)) r.1 := by
  refine sF_run ⟨rfl, rfl⟩ (by decide +kernel) (Nat.le_of_ble_eq_true rfl) (lo := [(0, .ref (G.1 + 0)), (1, .int a0)]) rfl (fun X hE => ?_)
  unfold XT_type at hf
  refine sd_iload_n (k := 1) (i := 1) (q := 1) (pc' := 1) (by decide +kernel) rfl rfl ?_
  refine sd_iconst (n := 0) (v := 0) (pc' := 2) (by decide +kernel) (by decide) ?_
  refine sd_sipush (n := 255) (v := 255) (pc' := 5) (by decide +kernel) (by decide) ?_
  obtain ⟨t2, q1, hf⟩ := b1_some hf
  refine sF_callS (idx := 97) (As := [.int a0, .int 0, .int 255]) (pc' := 8) 3 (T_XT_within (G := G) (h := h)  q1) (by decide +kernel) mv_XT_within ml_X11_97 (by decide +kernel) rfl rfl (Nat.le_of_ble_eq_true rfl) rfl ?_
  refine sd_if_ne (off := 6) (tgt := 14) (pc' := 11) (by decide +kernel) (fun c3 => ?_) (fun c3 => ?_)
  · replace hf := ite_n c3 hf
    refine sd_aload_n (k := 0) (i := 0) (q := 0) (pc' := 15) (by decide +kernel) rfl rfl ?_
    refine sF_gi (idx := 163) (ci := 11) (k := 15) (n := 17) (pc' := 18) (by decide +kernel) fl_X11_163 (by decide +kernel) rfl SH_0 ?_
    refine sd_iconst (n := 5) (v := 5) (pc' := 19) (by decide +kernel) (by decide) ?_
    refine sd_icmp_lt (off := 6) (tgt := 25) (pc' := 22) (by decide +kernel) (fun c4 => ?_) (fun c4 => ?_)
    · replace hf := ite_p c4 hf
      refine sd_aload_n (k := 0) (i := 0) (q := 0) (pc' := 26) (by decide +kernel) rfl rfl ?_
      refine sF_gr (idx := 32) (ci := 11) (k := 3) (n := 17) (r := 55) (pc' := 29) (by decide +kernel) fl_X11_32 (by decide +kernel) rfl SH_0 (by decide) (by decide +kernel) ?_
      refine sd_aload_n (k := 0) (i := 0) (q := 0) (pc' := 30) (by decide +kernel) rfl rfl ?_
      refine sd_dup (pc' := 31) (by decide +kernel) rfl ?_
      refine sF_gi (idx := 163) (ci := 11) (k := 15) (n := 17) (pc' := 34) (by decide +kernel) fl_X11_163 (by decide +kernel) rfl SH_0 ?_
      refine sd_dup_x1 (pc' := 35) (by decide +kernel) rfl rfl ?_
      refine sd_iconst (n := 1) (v := 1) (pc' := 36) (by decide +kernel) (by decide) ?_
      refine sd_iadd (pc' := 37) (by decide +kernel) ?_
      obtain ⟨h5, e6, hf⟩ := hb_some hf
      refine sF_pi (idx := 163) (ci := 11) (k := 15) (n := 17) (pc' := 40) (by decide +kernel) fl_X11_163 (by decide +kernel) rfl rfl rfl SH_0 ?_
      rw [← e6]; clear e6
      refine sd_iload_n (k := 1) (i := 1) (q := 1) (pc' := 41) (by decide +kernel) rfl rfl ?_
      obtain ⟨g7, hf⟩ := gd_some hf
      obtain ⟨h8, e9, hf⟩ := hb_some hf
      refine sF_iast (n := 5) (pc' := 42) (by decide +kernel) SH_55 g7 ?_
      rw [← e9]; clear e9
      refine sd_aload_n (k := 0) (i := 0) (q := 0) (pc' := 43) (by decide +kernel) rfl rfl ?_
      refine sF_gi (idx := 163) (ci := 11) (k := 15) (n := 17) (pc' := 46) (by decide +kernel) fl_X11_163 (by decide +kernel) rfl SH_0 ?_
      obtain rfl := Option.some.inj hf
      exact sd_iret (by decide +kernel) rfl (hE _)
    · replace hf := ite_n c4 hf
      refine sd_bipush (n := -4) (v := (-4)) (pc' := 24) (by decide +kernel) (by decide) ?_
      obtain rfl := Option.some.inj hf
      exact sd_iret (by decide +kernel) rfl (hE _)
  · replace hf := ite_p c3 hf
    refine sd_bipush (n := -2) (v := (-2)) (pc' := 13) (by decide +kernel) (by decide) ?_
    obtain rfl := Option.some.inj hf
    exact sd_iret (by decide +kernel) rfl (hE _)

def M_XT_wipe : sd_MX := (yX11_wipe, cX11_wipe, 2, (some .int), { frames := 1, cells := 0, slots := 0, locals := 40 })
def XT_wipe (h : sd_H) : Option (sd_H × Int32) :=
  hb (wI h 0 15 0) (fun h1 => some (h1, (h.1 0 15)))
set_option maxHeartbeats 4000000 in
set_option maxRecDepth 100000 in
theorem T_XT_wipe {G : sd_GX} {h : sd_H} {r : (sd_H × Int32)} (hf : XT_wipe h = some r) : sd_RunF G M_XT_wipe [.ref (G.1 + 0)] h (some (.int r.2)) r.1 := by
  refine sF_run ⟨rfl, rfl⟩ (by decide +kernel) (Nat.le_of_ble_eq_true rfl) (lo := [(0, .ref (G.1 + 0))]) rfl (fun X hE => ?_)
  unfold XT_wipe at hf
  refine sd_aload_n (k := 0) (i := 0) (q := 0) (pc' := 1) (by decide +kernel) rfl rfl ?_
  refine sF_gi (idx := 163) (ci := 11) (k := 15) (n := 17) (pc' := 4) (by decide +kernel) fl_X11_163 (by decide +kernel) rfl SH_0 ?_
  refine sd_istore_n (k := 1) (i := 1) (pc' := 5) (lo' := [(1, .int (h.1 0 15)), (0, .ref (G.1 + 0))]) (by decide +kernel) rfl (by decide) rfl ?_
  refine sd_aload_n (k := 0) (i := 0) (q := 1) (pc' := 6) (by decide +kernel) rfl rfl ?_
  refine sd_iconst (n := 0) (v := 0) (pc' := 7) (by decide +kernel) (by decide) ?_
  obtain ⟨h1, e2, hf⟩ := hb_some hf
  refine sF_pi (idx := 163) (ci := 11) (k := 15) (n := 17) (pc' := 10) (by decide +kernel) fl_X11_163 (by decide +kernel) rfl rfl rfl SH_0 ?_
  rw [← e2]; clear e2
  refine sd_iload_n (k := 1) (i := 1) (q := 0) (pc' := 11) (by decide +kernel) rfl rfl ?_
  obtain rfl := Option.some.inj hf
  exact sd_iret (by decide +kernel) rfl (hE _)

def M_XT_nameOf : sd_MX := (yX11_nameOf, cX11_nameOf, 1, (some (.object "java/lang/String")), { frames := 1, cells := 0, slots := 0, locals := 40 })
def XT_nameOf (a0 : Int32) : Option Nat :=
  (if a0 = 0 then some 0 else (if a0 = 1 then some 1 else (if a0 = 2 then some 2 else (if a0 = 3 then some 3 else (if a0 = 4 then some 4 else (if a0 = 5 then some 5 else (if a0 = 6 then some 6 else (if a0 = 7 then some 7 else (if a0 = 8 then some 8 else (if a0 = 9 then some 9 else (if a0 = 10 then some 10 else (if a0 = 11 then some 11 else (some 12)))))))))))))
set_option maxHeartbeats 4000000 in
set_option maxRecDepth 100000 in
theorem T_XT_nameOf {G : sd_GX} {h : sd_H} {a0 : Int32} {r : Nat} (hf : XT_nameOf a0 = some r) : sd_RunF G M_XT_nameOf [.int a0] h (some (.ref (G.2.2.2.2.1 r))) h := by
  refine sF_run ⟨rfl, rfl⟩ (by decide +kernel) (Nat.le_of_ble_eq_true rfl) (lo := [(0, .int a0)]) rfl (fun X hE => ?_)
  unfold XT_nameOf at hf
  refine sd_iload_n (k := 0) (i := 0) (q := 0) (pc' := 1) (by decide +kernel) rfl rfl ?_
  by_cases c1_0 : a0 = 0
  · replace hf := ite_p c1_0 hf
    refine sd_tswIn (dflt := 111) (lo0 := 0) (hi0 := 11) (offs := #[63, 67, 71, 75, 79, 83, 87, 91, 95, 99, 103, 107]) (len := 63) (off := 63) (tgt := 64) (pc' := 64) (by decide +kernel) (by rw [c1_0]; decide) (by rw [c1_0]; decide) (by rw [c1_0]; decide) ?_
    refine sF_ldcS (j := 0) (idx := 439) (pc' := 67) (by decide +kernel) rfl (by decide) (by decide) ?_
    obtain rfl := Option.some.inj hf
    exact sd_aret (by decide +kernel) rfl (Or.inl ⟨_, rfl⟩) (hE _)
  · replace hf := ite_n c1_0 hf
    by_cases c1_1 : a0 = 1
    · replace hf := ite_p c1_1 hf
      refine sd_tswIn (dflt := 111) (lo0 := 0) (hi0 := 11) (offs := #[63, 67, 71, 75, 79, 83, 87, 91, 95, 99, 103, 107]) (len := 63) (off := 67) (tgt := 68) (pc' := 64) (by decide +kernel) (by rw [c1_1]; decide) (by rw [c1_1]; decide) (by rw [c1_1]; decide) ?_
      refine sF_ldcS (j := 1) (idx := 441) (pc' := 71) (by decide +kernel) rfl (by decide) (by decide) ?_
      obtain rfl := Option.some.inj hf
      exact sd_aret (by decide +kernel) rfl (Or.inl ⟨_, rfl⟩) (hE _)
    · replace hf := ite_n c1_1 hf
      by_cases c1_2 : a0 = 2
      · replace hf := ite_p c1_2 hf
        refine sd_tswIn (dflt := 111) (lo0 := 0) (hi0 := 11) (offs := #[63, 67, 71, 75, 79, 83, 87, 91, 95, 99, 103, 107]) (len := 63) (off := 71) (tgt := 72) (pc' := 64) (by decide +kernel) (by rw [c1_2]; decide) (by rw [c1_2]; decide) (by rw [c1_2]; decide) ?_
        refine sF_ldcS (j := 2) (idx := 443) (pc' := 75) (by decide +kernel) rfl (by decide) (by decide) ?_
        obtain rfl := Option.some.inj hf
        exact sd_aret (by decide +kernel) rfl (Or.inl ⟨_, rfl⟩) (hE _)
      · replace hf := ite_n c1_2 hf
        by_cases c1_3 : a0 = 3
        · replace hf := ite_p c1_3 hf
          refine sd_tswIn (dflt := 111) (lo0 := 0) (hi0 := 11) (offs := #[63, 67, 71, 75, 79, 83, 87, 91, 95, 99, 103, 107]) (len := 63) (off := 75) (tgt := 76) (pc' := 64) (by decide +kernel) (by rw [c1_3]; decide) (by rw [c1_3]; decide) (by rw [c1_3]; decide) ?_
          refine sF_ldcS (j := 3) (idx := 445) (pc' := 79) (by decide +kernel) rfl (by decide) (by decide) ?_
          obtain rfl := Option.some.inj hf
          exact sd_aret (by decide +kernel) rfl (Or.inl ⟨_, rfl⟩) (hE _)
        · replace hf := ite_n c1_3 hf
          by_cases c1_4 : a0 = 4
          · replace hf := ite_p c1_4 hf
            refine sd_tswIn (dflt := 111) (lo0 := 0) (hi0 := 11) (offs := #[63, 67, 71, 75, 79, 83, 87, 91, 95, 99, 103, 107]) (len := 63) (off := 79) (tgt := 80) (pc' := 64) (by decide +kernel) (by rw [c1_4]; decide) (by rw [c1_4]; decide) (by rw [c1_4]; decide) ?_
            refine sF_ldcS (j := 4) (idx := 447) (pc' := 83) (by decide +kernel) rfl (by decide) (by decide) ?_
            obtain rfl := Option.some.inj hf
            exact sd_aret (by decide +kernel) rfl (Or.inl ⟨_, rfl⟩) (hE _)
          · replace hf := ite_n c1_4 hf
            by_cases c1_5 : a0 = 5
            · replace hf := ite_p c1_5 hf
              refine sd_tswIn (dflt := 111) (lo0 := 0) (hi0 := 11) (offs := #[63, 67, 71, 75, 79, 83, 87, 91, 95, 99, 103, 107]) (len := 63) (off := 83) (tgt := 84) (pc' := 64) (by decide +kernel) (by rw [c1_5]; decide) (by rw [c1_5]; decide) (by rw [c1_5]; decide) ?_
              refine sF_ldcS (j := 5) (idx := 449) (pc' := 87) (by decide +kernel) rfl (by decide) (by decide) ?_
              obtain rfl := Option.some.inj hf
              exact sd_aret (by decide +kernel) rfl (Or.inl ⟨_, rfl⟩) (hE _)
            · replace hf := ite_n c1_5 hf
              by_cases c1_6 : a0 = 6
              · replace hf := ite_p c1_6 hf
                refine sd_tswIn (dflt := 111) (lo0 := 0) (hi0 := 11) (offs := #[63, 67, 71, 75, 79, 83, 87, 91, 95, 99, 103, 107]) (len := 63) (off := 87) (tgt := 88) (pc' := 64) (by decide +kernel) (by rw [c1_6]; decide) (by rw [c1_6]; decide) (by rw [c1_6]; decide) ?_
                refine sF_ldcS (j := 6) (idx := 451) (pc' := 91) (by decide +kernel) rfl (by decide) (by decide) ?_
                obtain rfl := Option.some.inj hf
                exact sd_aret (by decide +kernel) rfl (Or.inl ⟨_, rfl⟩) (hE _)
              · replace hf := ite_n c1_6 hf
                by_cases c1_7 : a0 = 7
                · replace hf := ite_p c1_7 hf
                  refine sd_tswIn (dflt := 111) (lo0 := 0) (hi0 := 11) (offs := #[63, 67, 71, 75, 79, 83, 87, 91, 95, 99, 103, 107]) (len := 63) (off := 91) (tgt := 92) (pc' := 64) (by decide +kernel) (by rw [c1_7]; decide) (by rw [c1_7]; decide) (by rw [c1_7]; decide) ?_
                  refine sF_ldcS (j := 7) (idx := 453) (pc' := 95) (by decide +kernel) rfl (by decide) (by decide) ?_
                  obtain rfl := Option.some.inj hf
                  exact sd_aret (by decide +kernel) rfl (Or.inl ⟨_, rfl⟩) (hE _)
                · replace hf := ite_n c1_7 hf
                  by_cases c1_8 : a0 = 8
                  · replace hf := ite_p c1_8 hf
                    refine sd_tswIn (dflt := 111) (lo0 := 0) (hi0 := 11) (offs := #[63, 67, 71, 75, 79, 83, 87, 91, 95, 99, 103, 107]) (len := 63) (off := 95) (tgt := 96) (pc' := 64) (by decide +kernel) (by rw [c1_8]; decide) (by rw [c1_8]; decide) (by rw [c1_8]; decide) ?_
                    refine sF_ldcS (j := 8) (idx := 455) (pc' := 99) (by decide +kernel) rfl (by decide) (by decide) ?_
                    obtain rfl := Option.some.inj hf
                    exact sd_aret (by decide +kernel) rfl (Or.inl ⟨_, rfl⟩) (hE _)
                  · replace hf := ite_n c1_8 hf
                    by_cases c1_9 : a0 = 9
                    · replace hf := ite_p c1_9 hf
                      refine sd_tswIn (dflt := 111) (lo0 := 0) (hi0 := 11) (offs := #[63, 67, 71, 75, 79, 83, 87, 91, 95, 99, 103, 107]) (len := 63) (off := 99) (tgt := 100) (pc' := 64) (by decide +kernel) (by rw [c1_9]; decide) (by rw [c1_9]; decide) (by rw [c1_9]; decide) ?_
                      refine sF_ldcS (j := 9) (idx := 457) (pc' := 103) (by decide +kernel) rfl (by decide) (by decide) ?_
                      obtain rfl := Option.some.inj hf
                      exact sd_aret (by decide +kernel) rfl (Or.inl ⟨_, rfl⟩) (hE _)
                    · replace hf := ite_n c1_9 hf
                      by_cases c1_10 : a0 = 10
                      · replace hf := ite_p c1_10 hf
                        refine sd_tswIn (dflt := 111) (lo0 := 0) (hi0 := 11) (offs := #[63, 67, 71, 75, 79, 83, 87, 91, 95, 99, 103, 107]) (len := 63) (off := 103) (tgt := 104) (pc' := 64) (by decide +kernel) (by rw [c1_10]; decide) (by rw [c1_10]; decide) (by rw [c1_10]; decide) ?_
                        refine sF_ldcS (j := 10) (idx := 459) (pc' := 107) (by decide +kernel) rfl (by decide) (by decide) ?_
                        obtain rfl := Option.some.inj hf
                        exact sd_aret (by decide +kernel) rfl (Or.inl ⟨_, rfl⟩) (hE _)
                      · replace hf := ite_n c1_10 hf
                        by_cases c1_11 : a0 = 11
                        · replace hf := ite_p c1_11 hf
                          refine sd_tswIn (dflt := 111) (lo0 := 0) (hi0 := 11) (offs := #[63, 67, 71, 75, 79, 83, 87, 91, 95, 99, 103, 107]) (len := 63) (off := 107) (tgt := 108) (pc' := 64) (by decide +kernel) (by rw [c1_11]; decide) (by rw [c1_11]; decide) (by rw [c1_11]; decide) ?_
                          refine sF_ldcS (j := 11) (idx := 461) (pc' := 111) (by decide +kernel) rfl (by decide) (by decide) ?_
                          obtain rfl := Option.some.inj hf
                          exact sd_aret (by decide +kernel) rfl (Or.inl ⟨_, rfl⟩) (hE _)
                        · replace hf := ite_n c1_11 hf
                          have nc1_0 := ne_ti c1_0 (n := 0) (by decide)
                          have nc1_1 := ne_ti c1_1 (n := 1) (by decide)
                          have nc1_2 := ne_ti c1_2 (n := 2) (by decide)
                          have nc1_3 := ne_ti c1_3 (n := 3) (by decide)
                          have nc1_4 := ne_ti c1_4 (n := 4) (by decide)
                          have nc1_5 := ne_ti c1_5 (n := 5) (by decide)
                          have nc1_6 := ne_ti c1_6 (n := 6) (by decide)
                          have nc1_7 := ne_ti c1_7 (n := 7) (by decide)
                          have nc1_8 := ne_ti c1_8 (n := 8) (by decide)
                          have nc1_9 := ne_ti c1_9 (n := 9) (by decide)
                          have nc1_10 := ne_ti c1_10 (n := 10) (by decide)
                          have nc1_11 := ne_ti c1_11 (n := 11) (by decide)
                          refine sd_tswOut (dflt := 111) (lo0 := 0) (hi0 := 11) (offs := #[63, 67, 71, 75, 79, 83, 87, 91, 95, 99, 103, 107]) (len := 63) (tgt := 112) (pc' := 64) (by decide +kernel) (by omega) ?_
                          refine sF_ldcS (j := 12) (idx := 463) (pc' := 115) (by decide +kernel) rfl (by decide) (by decide) ?_
                          obtain rfl := Option.some.inj hf
                          exact sd_aret (by decide +kernel) rfl (Or.inl ⟨_, rfl⟩) (hE _)

def M_XT_isTyped : sd_MX := (yX11_isTyped, cX11_isTyped, 3, (some .boolean), { frames := 6, cells := 0, slots := 0, locals := 140 })
def XT_isTyped_L15 (h : sd_H) : Nat → Nat → Int32 → Option Int32
  | 0, _, _ => none
  | n + 1, l1, l2 =>
  (if (h.1 0 15) ≤ l2 then some 1 else gd (decide (l1 < 13)) (gd (sd_inB l2 (sd_len.getD l1 0)) (gd (sd_inB l2 5) ((if (schr l1 l2) = (h.1 55 (l2 : Int32).toNatClampNeg) then XT_isTyped_L15 h n l1 (l2 + 1) else some 0)))))
set_option maxHeartbeats 4000000 in
set_option maxRecDepth 100000 in
theorem J_XT_isTyped_L15 {G : sd_GX} {X : sd_CX} (hE : ∀ g : sd_H, sd_end G X M_XT_isTyped (sd_F g)) {h : sd_H} {r : Int32} : ∀ (n : Nat) (l1 : Nat) (l2 : Int32), XT_isTyped_L15 h n l1 l2 = some r → sd_J G X (sd_QR G X M_XT_isTyped (some (.int r), sd_F h)) M_XT_isTyped 15 [(0, .ref (G.1 + 0)), (1, .ref (G.2.2.2.2.1 l1)), (2, .int l2)] [] (sd_F h) := by
  intro n
  induction n with
  | zero =>
    intro l1 l2 hf
    rw [XT_isTyped_L15] at hf
    cases hf
  | succ n ih =>
    intro l1 l2 hf
    rw [XT_isTyped_L15] at hf
    refine sd_iload_n (k := 2) (i := 2) (q := 2) (pc' := 16) (by decide +kernel) rfl rfl ?_
    refine sd_aload_n (k := 0) (i := 0) (q := 0) (pc' := 17) (by decide +kernel) rfl rfl ?_
    refine sF_gi (idx := 163) (ci := 11) (k := 15) (n := 17) (pc' := 20) (by decide +kernel) fl_X11_163 (by decide +kernel) rfl SH_0 ?_
    refine sd_icmp_ge (off := 25) (tgt := 45) (pc' := 23) (by decide +kernel) (fun c3 => ?_) (fun c3 => ?_)
    · replace hf := ite_p c3 hf
      refine sd_iconst (n := 1) (v := 1) (pc' := 46) (by decide +kernel) (by decide) ?_
      obtain rfl := Option.some.inj hf
      exact sd_zret (by decide +kernel) rfl rfl (hE _)
    · replace hf := ite_n c3 hf
      refine sd_aload_n (k := 1) (i := 1) (q := 1) (pc' := 24) (by decide +kernel) rfl rfl ?_
      refine sd_iload_n (k := 2) (i := 2) (q := 2) (pc' := 25) (by decide +kernel) rfl rfl ?_
      obtain ⟨g4, hf⟩ := gd_some hf
      obtain ⟨g5, hf⟩ := gd_some hf
      refine sF_schr (j := l1) (pc' := 28) (by decide +kernel) rfl rfl (by decide +kernel) (Nat.le_of_ble_eq_true rfl) (of_decide_eq_true g4) g5 ?_
      refine sd_aload_n (k := 0) (i := 0) (q := 0) (pc' := 29) (by decide +kernel) rfl rfl ?_
      refine sF_gr (idx := 32) (ci := 11) (k := 3) (n := 17) (r := 55) (pc' := 32) (by decide +kernel) fl_X11_32 (by decide +kernel) rfl SH_0 (by decide) (by decide +kernel) ?_
      refine sd_iload_n (k := 2) (i := 2) (q := 2) (pc' := 33) (by decide +kernel) rfl rfl ?_
      obtain ⟨g6, hf⟩ := gd_some hf
      refine sF_iald (n := 5) (pc' := 34) (by decide +kernel) SH_55 g6 ?_
      refine sd_icmp_eq (off := 5) (tgt := 39) (pc' := 37) (by decide +kernel) (fun c7 => ?_) (fun c7 => ?_)
      · replace hf := ite_p c7 hf
        refine sd_iinc (i := 2) (q := 2) (n := 1) (v := (l2 + 1)) (pc' := 42) (lo' := [(2, .int (l2 + 1)), (0, .ref (G.1 + 0)), (1, .ref (G.2.2.2.2.1 l1))]) (by decide +kernel) rfl rfl (by decide) rfl ?_
        refine sd_goto (off := -27) (tgt := 15) (pc' := 45) (by decide +kernel) ?_
        refine sd_J.sub (lo' := [(0, .ref (G.1 + 0)), (1, .ref (G.2.2.2.2.1 l1)), (2, .int (l2 + 1))]) [1, 2, 0] rfl ?_
        exact ih _ _ hf
      · replace hf := ite_n c7 hf
        refine sd_iconst (n := 0) (v := 0) (pc' := 38) (by decide +kernel) (by decide) ?_
        obtain rfl := Option.some.inj hf
        exact sd_zret (by decide +kernel) rfl rfl (hE _)
def XT_isTyped (h : sd_H) (a0 : Nat) : Option Int32 :=
  gd (decide (a0 < 13)) ((if (slen a0) = (h.1 0 15) then XT_isTyped_L15 h FU a0 0 else some 0))
set_option maxHeartbeats 4000000 in
set_option maxRecDepth 100000 in
theorem T_XT_isTyped {G : sd_GX} {h : sd_H} {a0 : Nat} {r : Int32} (hf : XT_isTyped h a0 = some r) : sd_RunF G M_XT_isTyped [.ref (G.1 + 0), .ref (G.2.2.2.2.1 a0)] h (some (.int r)) h := by
  refine sF_run ⟨rfl, rfl⟩ (by decide +kernel) (Nat.le_of_ble_eq_true rfl) (lo := [(0, .ref (G.1 + 0)), (1, .ref (G.2.2.2.2.1 a0))]) rfl (fun X hE => ?_)
  unfold XT_isTyped at hf
  refine sd_aload_n (k := 1) (i := 1) (q := 1) (pc' := 1) (by decide +kernel) rfl rfl ?_
  obtain ⟨g1, hf⟩ := gd_some hf
  refine sF_slen (j := a0) (pc' := 4) (by decide +kernel) rfl rfl (by decide +kernel) (Nat.le_of_ble_eq_true rfl) (of_decide_eq_true g1) ?_
  refine sd_aload_n (k := 0) (i := 0) (q := 0) (pc' := 5) (by decide +kernel) rfl rfl ?_
  refine sF_gi (idx := 163) (ci := 11) (k := 15) (n := 17) (pc' := 8) (by decide +kernel) fl_X11_163 (by decide +kernel) rfl SH_0 ?_
  refine sd_icmp_eq (off := 5) (tgt := 13) (pc' := 11) (by decide +kernel) (fun c2 => ?_) (fun c2 => ?_)
  · replace hf := ite_p c2 hf
    refine sd_iconst (n := 0) (v := 0) (pc' := 14) (by decide +kernel) (by decide) ?_
    refine sd_istore_n (k := 2) (i := 2) (pc' := 15) (lo' := [(2, .int 0), (0, .ref (G.1 + 0)), (1, .ref (G.2.2.2.2.1 a0))]) (by decide +kernel) rfl (by decide) rfl ?_
    refine sd_J.sub (lo' := [(0, .ref (G.1 + 0)), (1, .ref (G.2.2.2.2.1 a0)), (2, .int 0)]) [1, 2, 0] rfl ?_
    exact J_XT_isTyped_L15 hE _ _ _ hf
  · replace hf := ite_n c2 hf
    refine sd_iconst (n := 0) (v := 0) (pc' := 12) (by decide +kernel) (by decide) ?_
    obtain rfl := Option.some.inj hf
    exact sd_zret (by decide +kernel) rfl rfl (hE _)

theorem ml_X11_423 : Cond.methodLink RX11 423 yX11_nameOf ∈ sd_tb := sd_mem (i := 578) (by decide +kernel)
theorem mv_XT_nameOf : sd_mS M_XT_nameOf 1 := ⟨sd_mem (i := 579) (by decide +kernel), ⟨sd_mem (i := 580) (by decide +kernel), sd_mem (i := 108) (by decide +kernel), by decide +kernel, by decide +kernel, by decide +kernel⟩⟩
theorem ml_X11_427 : Cond.methodLink RX11 427 yX11_isTyped ∈ sd_tb := sd_mem (i := 594) (by decide +kernel)
theorem mv_XT_isTyped : sd_mV M_XT_isTyped 1 := ⟨sd_mem (i := 596) (by decide +kernel), sd_mem (i := 3) (by decide +kernel), ⟨sd_mem (i := 597) (by decide +kernel), sd_mem (i := 108) (by decide +kernel), by decide +kernel, by decide +kernel, by decide +kernel⟩⟩
def M_XT_operationTyped : sd_MX := (yX11_operationTyped, cX11_operationTyped, 2, (some .int), { frames := 7, cells := 0, slots := 0, locals := 162 })
def XT_operationTyped_L2 (h : sd_H) : Nat → Int32 → Option Int32
  | 0, _ => none
  | n + 1, l1 =>
  (if 13 ≤ l1 then some (-1) else b1 (XT_nameOf l1) (fun t3 => b1 (XT_isTyped h t3) (fun t5 => (if t5 = 0 then XT_operationTyped_L2 h n (l1 + 1) else some l1))))
set_option maxHeartbeats 4000000 in
set_option maxRecDepth 100000 in
theorem J_XT_operationTyped_L2 {G : sd_GX} {X : sd_CX} (hE : ∀ g : sd_H, sd_end G X M_XT_operationTyped (sd_F g)) {h : sd_H} {r : Int32} : ∀ (n : Nat) (l1 : Int32), XT_operationTyped_L2 h n l1 = some r → sd_J G X (sd_QR G X M_XT_operationTyped (some (.int r), sd_F h)) M_XT_operationTyped 2 [(0, .ref (G.1 + 0)), (1, .int l1)] [] (sd_F h) := by
  intro n
  induction n with
  | zero =>
    intro l1 hf
    rw [XT_operationTyped_L2] at hf
    cases hf
  | succ n ih =>
    intro l1 hf
    rw [XT_operationTyped_L2] at hf
    refine sd_iload_n (k := 1) (i := 1) (q := 1) (pc' := 3) (by decide +kernel) rfl rfl ?_
    refine sd_bipush (n := 13) (v := 13) (pc' := 5) (by decide +kernel) (by decide) ?_
    refine sd_icmp_ge (off := 22) (tgt := 27) (pc' := 8) (by decide +kernel) (fun c1 => ?_) (fun c1 => ?_)
    · replace hf := ite_p c1 hf
      refine sd_iconst (n := -1) (v := (-1)) (pc' := 28) (by decide +kernel) (by decide) ?_
      obtain rfl := Option.some.inj hf
      exact sd_iret (by decide +kernel) rfl (hE _)
    · replace hf := ite_n c1 hf
      refine sd_aload_n (k := 0) (i := 0) (q := 0) (pc' := 9) (by decide +kernel) rfl rfl ?_
      refine sd_iload_n (k := 1) (i := 1) (q := 1) (pc' := 10) (by decide +kernel) rfl rfl ?_
      obtain ⟨t3, q2, hf⟩ := b1_some hf
      refine sF_callS (idx := 423) (As := [.int l1]) (pc' := 13) 1 (T_XT_nameOf (G := G) (h := h)  q2) (by decide +kernel) mv_XT_nameOf ml_X11_423 (by decide +kernel) rfl rfl (Nat.le_of_ble_eq_true rfl) rfl ?_
      obtain ⟨t5, q4, hf⟩ := b1_some hf
      refine sF_callV (idx := 427) (b := 0) (As := [.ref (G.2.2.2.2.1 t3)]) (ci := 11) (nn := 17) (pc' := 16) 1 (T_XT_isTyped (G := G) (h := h)  q4) (by decide +kernel) mv_XT_isTyped ml_X11_427 (by decide +kernel) rfl rfl (Nat.le_of_ble_eq_true rfl) SH_0 rfl (by decide) rfl rfl ?_
      refine sd_if_eq (off := 5) (tgt := 21) (pc' := 19) (by decide +kernel) (fun c6 => ?_) (fun c6 => ?_)
      · replace hf := ite_p c6 hf
        refine sd_iinc (i := 1) (q := 1) (n := 1) (v := (l1 + 1)) (pc' := 24) (lo' := [(1, .int (l1 + 1)), (0, .ref (G.1 + 0))]) (by decide +kernel) rfl rfl (by decide) rfl ?_
        refine sd_goto (off := -22) (tgt := 2) (pc' := 27) (by decide +kernel) ?_
        refine sd_J.sub (lo' := [(0, .ref (G.1 + 0)), (1, .int (l1 + 1))]) [1, 0] rfl ?_
        exact ih _ hf
      · replace hf := ite_n c6 hf
        refine sd_iload_n (k := 1) (i := 1) (q := 1) (pc' := 20) (by decide +kernel) rfl rfl ?_
        obtain rfl := Option.some.inj hf
        exact sd_iret (by decide +kernel) rfl (hE _)
def XT_operationTyped (h : sd_H) : Option Int32 :=
  XT_operationTyped_L2 h FU 0
set_option maxHeartbeats 4000000 in
set_option maxRecDepth 100000 in
theorem T_XT_operationTyped {G : sd_GX} {h : sd_H} {r : Int32} (hf : XT_operationTyped h = some r) : sd_RunF G M_XT_operationTyped [.ref (G.1 + 0)] h (some (.int r)) h := by
  refine sF_run ⟨rfl, rfl⟩ (by decide +kernel) (Nat.le_of_ble_eq_true rfl) (lo := [(0, .ref (G.1 + 0))]) rfl (fun X hE => ?_)
  unfold XT_operationTyped at hf
  refine sd_iconst (n := 0) (v := 0) (pc' := 1) (by decide +kernel) (by decide) ?_
  refine sd_istore_n (k := 1) (i := 1) (pc' := 2) (lo' := [(1, .int 0), (0, .ref (G.1 + 0))]) (by decide +kernel) rfl (by decide) rfl ?_
  refine sd_J.sub (lo' := [(0, .ref (G.1 + 0)), (1, .int 0)]) [1, 0] rfl ?_
  exact J_XT_operationTyped_L2 hE _ _ hf
