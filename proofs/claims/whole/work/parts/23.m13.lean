def M_YM_writes : sd_MX := (yX12_writes, cX12_writes, 6, none, { frames := 1, cells := 0, slots := 0, locals := 40 })
def YM_writes_B95 (h : sd_H) (s0 : Int32) (s1 : Int32) : Option sd_H :=
  gd (sd_inB s1 144) (hb (wI h 130 (s1 : Int32).toNatClampNeg s0) (fun h8 => some h8))
set_option maxHeartbeats 4000000 in
set_option maxRecDepth 100000 in
theorem J_YM_writes_B95 {G : sd_GX} {X : sd_CX} (hE : ∀ g : sd_H, sd_end G X M_YM_writes (sd_F g)) {h : sd_H} {r : sd_H} {s0 : Int32} {s1 : Int32} (hf : YM_writes_B95 h s0 s1 = some r) : sd_J G X (sd_QR G X M_YM_writes (none, sd_F r)) M_YM_writes 95 [] [.int s0, .int s1, .ref (G.1 + 130)] (sd_F h) := by
  unfold YM_writes_B95 at hf
  obtain ⟨g7, hf⟩ := gd_some hf
  obtain ⟨h8, e9, hf⟩ := hb_some hf
  refine sF_iast (n := 144) (pc' := 96) (by decide +kernel) SH_130 g7 ?_
  rw [← e9]; clear e9
  obtain rfl := Option.some.inj hf
  exact sd_vret (by decide +kernel) rfl (hE _)
def YM_writes_B94 (h : sd_H) (l2 : Int32) (s0 : Int32) : Option sd_H :=
  YM_writes_B95 h l2 s0
set_option maxHeartbeats 4000000 in
set_option maxRecDepth 100000 in
theorem J_YM_writes_B94 {G : sd_GX} {X : sd_CX} (hE : ∀ g : sd_H, sd_end G X M_YM_writes (sd_F g)) {h : sd_H} {r : sd_H} {l2 : Int32} {s0 : Int32} (hf : YM_writes_B94 h l2 s0 = some r) : sd_J G X (sd_QR G X M_YM_writes (none, sd_F r)) M_YM_writes 94 [(2, .int l2)] [.int s0, .ref (G.1 + 130)] (sd_F h) := by
  unfold YM_writes_B94 at hf
  refine sd_iload_n (k := 2) (i := 2) (q := 0) (pc' := 95) (by decide +kernel) rfl rfl ?_
  refine sd_J.sub (lo' := []) [] rfl ?_
  exact J_YM_writes_B95 hE hf
def YM_writes_B20 (h : sd_H) (l1 : Int32) (l2 : Int32) (l3 : UInt64) (s0 : Int32) : Option sd_H :=
  (if s0 = 3 then gd (sd_inB ((144 * l2) + l1) 1440) (hb (wD h 148 (((144 * l2) + l1) : Int32).toNatClampNeg l3) (fun h14 => gd (sd_inB ((144 * l2) + l1) 1440) (hb (wI h14 149 (((144 * l2) + l1) : Int32).toNatClampNeg 1) (fun h17 => some h17)))) else gd (sd_inB l1 144) (hb (wD h 129 (l1 : Int32).toNatClampNeg l3) (fun h4 => (if s0 = 2 then gd (sd_inB l1 144) ((if (h4.1 130 (l1 : Int32).toNatClampNeg) ≤ l2 then YM_writes_B94 h4 l2 l1 else gd (sd_inB l1 144) (YM_writes_B95 h4 (h4.1 130 (l1 : Int32).toNatClampNeg) l1))) else YM_writes_B94 h4 l2 l1))))
set_option maxHeartbeats 4000000 in
set_option maxRecDepth 100000 in
theorem J_YM_writes_B20 {G : sd_GX} {X : sd_CX} (hE : ∀ g : sd_H, sd_end G X M_YM_writes (sd_F g)) {h : sd_H} {r : sd_H} {l1 : Int32} {l2 : Int32} {l3 : UInt64} {s0 : Int32} (hf : YM_writes_B20 h l1 l2 l3 s0 = some r) : sd_J G X (sd_QR G X M_YM_writes (none, sd_F r)) M_YM_writes 20 [(0, .ref (G.1 + 126)), (1, .int l1), (2, .int l2), (3, .double l3)] [.int s0] (sd_F h) := by
  unfold YM_writes_B20 at hf
  refine sd_istore (i := 5) (pc' := 22) (lo' := [(5, .int s0), (0, .ref (G.1 + 126)), (1, .int l1), (2, .int l2), (3, .double l3)]) (by decide +kernel) (by decide) rfl ?_
  refine sd_iload (i := 5) (q := 0) (pc' := 24) (by decide +kernel) rfl ?_
  refine sd_iconst (n := 3) (v := 3) (pc' := 25) (by decide +kernel) (by decide) ?_
  refine sd_icmp_ne (off := 32) (tgt := 57) (pc' := 28) (by decide +kernel) (fun c2 => ?_) (fun c2 => ?_)
  · replace hf := ite_n c2 hf
    refine sd_aload_n (k := 0) (i := 0) (q := 1) (pc' := 58) (by decide +kernel) rfl rfl ?_
    refine sF_gr (idx := 16) (ci := 12) (k := 2) (n := 47) (r := 129) (pc' := 61) (by decide +kernel) fl_X12_16 (by decide +kernel) rfl SH_126 (by decide) (by decide +kernel) ?_
    refine sd_iload_n (k := 1) (i := 1) (q := 2) (pc' := 62) (by decide +kernel) rfl rfl ?_
    refine sd_dload_n (k := 3) (i := 3) (q := 4) (pc' := 63) (by decide +kernel) rfl rfl ?_
    obtain ⟨g3, hf⟩ := gd_some hf
    obtain ⟨h4, e5, hf⟩ := hb_some hf
    refine sF_dast (n := 144) (pc' := 64) (by decide +kernel) SH_129 g3 ?_
    rw [← e5]; clear e5
    refine sd_aload_n (k := 0) (i := 0) (q := 1) (pc' := 65) (by decide +kernel) rfl rfl ?_
    refine sF_gr (idx := 20) (ci := 12) (k := 3) (n := 47) (r := 130) (pc' := 68) (by decide +kernel) fl_X12_20 (by decide +kernel) rfl SH_126 (by decide) (by decide +kernel) ?_
    refine sd_iload_n (k := 1) (i := 1) (q := 2) (pc' := 69) (by decide +kernel) rfl rfl ?_
    refine sd_iload (i := 5) (q := 0) (pc' := 71) (by decide +kernel) rfl ?_
    refine sd_iconst (n := 2) (v := 2) (pc' := 72) (by decide +kernel) (by decide) ?_
    refine sd_icmp_ne (off := 22) (tgt := 94) (pc' := 75) (by decide +kernel) (fun c6 => ?_) (fun c6 => ?_)
    · replace hf := ite_n c6 hf
      refine sd_J.sub (lo' := [(2, .int l2)]) [3] rfl ?_
      exact J_YM_writes_B94 hE hf
    · replace hf := ite_p c6 hf
      refine sd_aload_n (k := 0) (i := 0) (q := 1) (pc' := 76) (by decide +kernel) rfl rfl ?_
      refine sF_gr (idx := 20) (ci := 12) (k := 3) (n := 47) (r := 130) (pc' := 79) (by decide +kernel) fl_X12_20 (by decide +kernel) rfl SH_126 (by decide) (by decide +kernel) ?_
      refine sd_iload_n (k := 1) (i := 1) (q := 2) (pc' := 80) (by decide +kernel) rfl rfl ?_
      obtain ⟨g10, hf⟩ := gd_some hf
      refine sF_iald (n := 144) (pc' := 81) (by decide +kernel) SH_130 g10 ?_
      refine sd_iload_n (k := 2) (i := 2) (q := 3) (pc' := 82) (by decide +kernel) rfl rfl ?_
      refine sd_icmp_le (off := 12) (tgt := 94) (pc' := 85) (by decide +kernel) (fun c11 => ?_) (fun c11 => ?_)
      · replace hf := ite_p c11 hf
        refine sd_J.sub (lo' := [(2, .int l2)]) [3] rfl ?_
        exact J_YM_writes_B94 hE hf
      · replace hf := ite_n c11 hf
        refine sd_aload_n (k := 0) (i := 0) (q := 1) (pc' := 86) (by decide +kernel) rfl rfl ?_
        refine sF_gr (idx := 20) (ci := 12) (k := 3) (n := 47) (r := 130) (pc' := 89) (by decide +kernel) fl_X12_20 (by decide +kernel) rfl SH_126 (by decide) (by decide +kernel) ?_
        refine sd_iload_n (k := 1) (i := 1) (q := 2) (pc' := 90) (by decide +kernel) rfl rfl ?_
        obtain ⟨g12, hf⟩ := gd_some hf
        refine sF_iald (n := 144) (pc' := 91) (by decide +kernel) SH_130 g12 ?_
        refine sd_goto (off := 4) (tgt := 95) (pc' := 94) (by decide +kernel) ?_
        refine sd_J.sub (lo' := []) [] rfl ?_
        exact J_YM_writes_B95 hE hf
  · replace hf := ite_p c2 hf
    refine sd_aload_n (k := 0) (i := 0) (q := 1) (pc' := 29) (by decide +kernel) rfl rfl ?_
    refine sF_gr (idx := 74) (ci := 12) (k := 31) (n := 47) (r := 148) (pc' := 32) (by decide +kernel) fl_X12_74 (by decide +kernel) rfl SH_126 (by decide) (by decide +kernel) ?_
    refine sd_sipush (n := 144) (v := 144) (pc' := 35) (by decide +kernel) (by decide) ?_
    refine sd_iload_n (k := 2) (i := 2) (q := 3) (pc' := 36) (by decide +kernel) rfl rfl ?_
    refine sd_imul (pc' := 37) (by decide +kernel) ?_
    refine sd_iload_n (k := 1) (i := 1) (q := 2) (pc' := 38) (by decide +kernel) rfl rfl ?_
    refine sd_iadd (pc' := 39) (by decide +kernel) ?_
    refine sd_dload_n (k := 3) (i := 3) (q := 4) (pc' := 40) (by decide +kernel) rfl rfl ?_
    obtain ⟨g13, hf⟩ := gd_some hf
    obtain ⟨h14, e15, hf⟩ := hb_some hf
    refine sF_dast (n := 1440) (pc' := 41) (by decide +kernel) SH_148 g13 ?_
    rw [← e15]; clear e15
    refine sd_aload_n (k := 0) (i := 0) (q := 1) (pc' := 42) (by decide +kernel) rfl rfl ?_
    refine sF_gr (idx := 77) (ci := 12) (k := 32) (n := 47) (r := 149) (pc' := 45) (by decide +kernel) fl_X12_77 (by decide +kernel) rfl SH_126 (by decide) (by decide +kernel) ?_
    refine sd_sipush (n := 144) (v := 144) (pc' := 48) (by decide +kernel) (by decide) ?_
    refine sd_iload_n (k := 2) (i := 2) (q := 3) (pc' := 49) (by decide +kernel) rfl rfl ?_
    refine sd_imul (pc' := 50) (by decide +kernel) ?_
    refine sd_iload_n (k := 1) (i := 1) (q := 2) (pc' := 51) (by decide +kernel) rfl rfl ?_
    refine sd_iadd (pc' := 52) (by decide +kernel) ?_
    refine sd_iconst (n := 1) (v := 1) (pc' := 53) (by decide +kernel) (by decide) ?_
    obtain ⟨g16, hf⟩ := gd_some hf
    obtain ⟨h17, e18, hf⟩ := hb_some hf
    refine sF_zast (n := 1440) (pc' := 54) (by decide +kernel) SH_149 g16 (by decide) ?_
    rw [← e18]; clear e18
    refine sd_goto (off := 42) (tgt := 96) (pc' := 57) (by decide +kernel) ?_
    obtain rfl := Option.some.inj hf
    exact sd_vret (by decide +kernel) rfl (hE _)
def YM_writes (h : sd_H) (a0 : Int32) (a1 : Int32) (a2 : UInt64) : Option sd_H :=
  (if (h.1 126 33) = 0 then YM_writes_B20 h a0 a1 a2 (-1) else gd (sd_inB (a0 / 24) 6) (YM_writes_B20 h a0 a1 a2 (h.1 146 ((a0 / 24) : Int32).toNatClampNeg)))
set_option maxHeartbeats 4000000 in
set_option maxRecDepth 100000 in
theorem T_YM_writes {G : sd_GX} {h : sd_H} {a0 : Int32} {a1 : Int32} {a2 : UInt64} {r : sd_H} (hf : YM_writes h a0 a1 a2 = some r) : sd_RunF G M_YM_writes [.ref (G.1 + 126), .int a0, .int a1, .double a2] h none r := by
  refine sF_run ⟨rfl, rfl⟩ (by decide +kernel) (Nat.le_of_ble_eq_true rfl) (lo := [(0, .ref (G.1 + 126)), (1, .int a0), (2, .int a1), (3, .double a2)]) rfl (fun X hE => ?_)
  unfold YM_writes at hf
  refine sd_aload_n (k := 0) (i := 0) (q := 0) (pc' := 1) (by decide +kernel) rfl rfl ?_
  refine sF_gi (idx := 359) (ci := 12) (k := 33) (n := 47) (pc' := 4) (by decide +kernel) fl_X12_359 (by decide +kernel) rfl SH_126 ?_
  refine sd_if_eq (off := 15) (tgt := 19) (pc' := 7) (by decide +kernel) (fun c1 => ?_) (fun c1 => ?_)
  · replace hf := ite_p c1 hf
    refine sd_iconst (n := -1) (v := (-1)) (pc' := 20) (by decide +kernel) (by decide) ?_
    refine sd_J.sub (lo' := [(0, .ref (G.1 + 126)), (1, .int a0), (2, .int a1), (3, .double a2)]) [0, 1, 2, 3] rfl ?_
    exact J_YM_writes_B20 hE hf
  · replace hf := ite_n c1 hf
    refine sd_aload_n (k := 0) (i := 0) (q := 0) (pc' := 8) (by decide +kernel) rfl rfl ?_
    refine sF_gr (idx := 68) (ci := 12) (k := 29) (n := 47) (r := 146) (pc' := 11) (by decide +kernel) fl_X12_68 (by decide +kernel) rfl SH_126 (by decide) (by decide +kernel) ?_
    refine sd_iload_n (k := 1) (i := 1) (q := 1) (pc' := 12) (by decide +kernel) rfl rfl ?_
    refine sd_bipush (n := 24) (v := 24) (pc' := 14) (by decide +kernel) (by decide) ?_
    refine sd_idiv (pc' := 15) (by decide +kernel) (by decide) ?_
    obtain ⟨g19, hf⟩ := gd_some hf
    refine sF_iald (n := 6) (pc' := 16) (by decide +kernel) SH_146 g19 ?_
    refine sd_goto (off := 4) (tgt := 20) (pc' := 19) (by decide +kernel) ?_
    refine sd_J.sub (lo' := [(0, .ref (G.1 + 126)), (1, .int a0), (2, .int a1), (3, .double a2)]) [0, 1, 2, 3] rfl ?_
    exact J_YM_writes_B20 hE hf

theorem ml_X12_362 : Cond.methodLink RX12 362 yX12_read ∈ sd_tb := sd_mem (i := 1629) (by decide +kernel)
theorem mv_YM_read : sd_mV M_YM_read 3 := ⟨sd_mem (i := 1631) (by decide +kernel), sd_mem (i := 87) (by decide +kernel), ⟨sd_mem (i := 1632) (by decide +kernel), sd_mem (i := 119) (by decide +kernel), by decide +kernel, by decide +kernel, by decide +kernel⟩⟩
theorem fl_X12_377 : sd_fl RX12 377 12 34 := ⟨sd_mem (i := 1182) (by decide +kernel), by decide, by decide⟩
theorem ml_X12_369 : Cond.methodLink RX12 369 yX12_castTo ∈ sd_tb := sd_mem (i := 1671) (by decide +kernel)
theorem mv_YM_castTo : sd_mS M_YM_castTo 2 := ⟨sd_mem (i := 1672) (by decide +kernel), ⟨sd_mem (i := 1673) (by decide +kernel), sd_mem (i := 119) (by decide +kernel), by decide +kernel, by decide +kernel, by decide +kernel⟩⟩
theorem ml_X12_373 : Cond.methodLink RX12 373 yX12_writes ∈ sd_tb := sd_mem (i := 1674) (by decide +kernel)
theorem mv_YM_writes : sd_mV M_YM_writes 3 := ⟨sd_mem (i := 1676) (by decide +kernel), sd_mem (i := 95) (by decide +kernel), ⟨sd_mem (i := 1677) (by decide +kernel), sd_mem (i := 119) (by decide +kernel), by decide +kernel, by decide +kernel, by decide +kernel⟩⟩
theorem fl_X12_81 : sd_fl RX12 81 12 35 := ⟨sd_mem (i := 1183) (by decide +kernel), by decide, by decide⟩
theorem ml_X12_366 : Cond.methodLink RX12 366 yX12_does ∈ sd_tb := sd_mem (i := 1637) (by decide +kernel)
theorem mv_YM_does : sd_mV M_YM_does 3 := ⟨sd_mem (i := 1639) (by decide +kernel), sd_mem (i := 89) (by decide +kernel), ⟨sd_mem (i := 1640) (by decide +kernel), sd_mem (i := 119) (by decide +kernel), by decide +kernel, by decide +kernel, by decide +kernel⟩⟩
def M_YM_item : sd_MX := (yX12_item, cX12_item, 11, (some .boolean), { frames := 5, cells := 0, slots := 0, locals := 130 })
def YM_item_B172 (h : sd_H) : Option (sd_H × Int32) :=
  hb (wI h 126 34 ((h.1 126 34) + 1)) (fun h13 => some (h13, 1))
set_option maxHeartbeats 4000000 in
set_option maxRecDepth 100000 in
theorem J_YM_item_B172 {G : sd_GX} {X : sd_CX} (hE : ∀ g : sd_H, sd_end G X M_YM_item (sd_F g)) {h : sd_H} {r : (sd_H × Int32)} (hf : YM_item_B172 h = some r) : sd_J G X (sd_QR G X M_YM_item (some (.int r.2), sd_F r.1)) M_YM_item 172 [(0, .ref (G.1 + 126))] [] (sd_F h) := by
  unfold YM_item_B172 at hf
  refine sd_aload_n (k := 0) (i := 0) (q := 0) (pc' := 173) (by decide +kernel) rfl rfl ?_
  refine sd_dup (pc' := 174) (by decide +kernel) rfl ?_
  refine sF_gi (idx := 377) (ci := 12) (k := 34) (n := 47) (pc' := 177) (by decide +kernel) fl_X12_377 (by decide +kernel) rfl SH_126 ?_
  refine sd_iconst (n := 1) (v := 1) (pc' := 178) (by decide +kernel) (by decide) ?_
  refine sd_iadd (pc' := 179) (by decide +kernel) ?_
  obtain ⟨h13, e14, hf⟩ := hb_some hf
  refine sF_pi (idx := 377) (ci := 12) (k := 34) (n := 47) (pc' := 182) (by decide +kernel) fl_X12_377 (by decide +kernel) rfl rfl rfl SH_126 ?_
  rw [← e14]; clear e14
  refine sd_iconst (n := 1) (v := 1) (pc' := 183) (by decide +kernel) (by decide) ?_
  obtain rfl := Option.some.inj hf
  exact sd_zret (by decide +kernel) rfl rfl (hE _)
def YM_item_B92 (h : sd_H) (l1 : Int32) (l2 : Int32) (l3 : Int32) (s0 : UInt64) : Option (sd_H × Int32) :=
  (if (h.1 126 38) = (-1) then (if (h.1 126 39) = 0 then gd (sd_inB (3 * l1) 15) (b1 (YM_placeOf h (3 * l1) l2 l3) (fun t17 => gd (sd_inB (3 * l1) 15) (gd (sd_inB (h.1 137 ((3 * l1) : Int32).toNatClampNeg) 6) (b1 (YM_castTo (h.1 127 ((h.1 137 ((3 * l1) : Int32).toNatClampNeg) : Int32).toNatClampNeg) s0) (fun t21 => b1 (YM_writes h ((24 * (h.1 137 ((3 * l1) : Int32).toNatClampNeg)) + t17) l2 t21) (fun h23 => YM_item_B172 h23)))))) else YM_item_B172 h) else gd (sd_inB (h.1 126 38) 3) (gd (sd_inB (h.1 126 38) 3) (hb (wI h 150 ((h.1 126 38) : Int32).toNatClampNeg ((h.1 150 ((h.1 126 38) : Int32).toNatClampNeg) + 1)) (fun h26 => some (h26, 0)))))
set_option maxHeartbeats 4000000 in
set_option maxRecDepth 100000 in
theorem J_YM_item_B92 {G : sd_GX} {X : sd_CX} (hE : ∀ g : sd_H, sd_end G X M_YM_item (sd_F g)) {h : sd_H} {r : (sd_H × Int32)} {l1 : Int32} {l2 : Int32} {l3 : Int32} {s0 : UInt64} (hf : YM_item_B92 h l1 l2 l3 s0 = some r) : sd_J G X (sd_QR G X M_YM_item (some (.int r.2), sd_F r.1)) M_YM_item 92 [(0, .ref (G.1 + 126)), (1, .int l1), (2, .int l2), (3, .int l3)] [.double s0] (sd_F h) := by
  unfold YM_item_B92 at hf
  refine sd_dstore (i := 8) (pc' := 94) (lo' := [(8, .double s0), (0, .ref (G.1 + 126)), (1, .int l1), (2, .int l2), (3, .int l3)]) (by decide +kernel) (by decide) rfl ?_
  refine sd_aload_n (k := 0) (i := 0) (q := 1) (pc' := 95) (by decide +kernel) rfl rfl ?_
  refine sF_gi (idx := 338) (ci := 12) (k := 38) (n := 47) (pc' := 98) (by decide +kernel) fl_X12_338 (by decide +kernel) rfl SH_126 ?_
  refine sd_iconst (n := -1) (v := (-1)) (pc' := 99) (by decide +kernel) (by decide) ?_
  refine sd_icmp_eq (off := 18) (tgt := 117) (pc' := 102) (by decide +kernel) (fun c11 => ?_) (fun c11 => ?_)
  · replace hf := ite_p c11 hf
    refine sd_aload_n (k := 0) (i := 0) (q := 1) (pc' := 118) (by decide +kernel) rfl rfl ?_
    refine sF_gi (idx := 331) (ci := 12) (k := 39) (n := 47) (pc' := 121) (by decide +kernel) fl_X12_331 (by decide +kernel) rfl SH_126 ?_
    refine sd_if_ne (off := 51) (tgt := 172) (pc' := 124) (by decide +kernel) (fun c12 => ?_) (fun c12 => ?_)
    · replace hf := ite_n c12 hf
      refine sd_J.sub (lo' := [(0, .ref (G.1 + 126))]) [1] rfl ?_
      exact J_YM_item_B172 hE hf
    · replace hf := ite_p c12 hf
      refine sd_bipush (n := 24) (v := 24) (pc' := 126) (by decide +kernel) (by decide) ?_
      refine sd_aload_n (k := 0) (i := 0) (q := 1) (pc' := 127) (by decide +kernel) rfl rfl ?_
      refine sF_gr (idx := 41) (ci := 12) (k := 13) (n := 47) (r := 137) (pc' := 130) (by decide +kernel) fl_X12_41 (by decide +kernel) rfl SH_126 (by decide) (by decide +kernel) ?_
      refine sd_iconst (n := 3) (v := 3) (pc' := 131) (by decide +kernel) (by decide) ?_
      refine sd_iload_n (k := 1) (i := 1) (q := 2) (pc' := 132) (by decide +kernel) rfl rfl ?_
      refine sd_imul (pc' := 133) (by decide +kernel) ?_
      obtain ⟨g15, hf⟩ := gd_some hf
      refine sF_iald (n := 15) (pc' := 134) (by decide +kernel) SH_137 g15 ?_
      refine sd_imul (pc' := 135) (by decide +kernel) ?_
      refine sd_aload_n (k := 0) (i := 0) (q := 1) (pc' := 136) (by decide +kernel) rfl rfl ?_
      refine sd_iconst (n := 3) (v := 3) (pc' := 137) (by decide +kernel) (by decide) ?_
      refine sd_iload_n (k := 1) (i := 1) (q := 2) (pc' := 138) (by decide +kernel) rfl rfl ?_
      refine sd_imul (pc' := 139) (by decide +kernel) ?_
      refine sd_iload_n (k := 2) (i := 2) (q := 3) (pc' := 140) (by decide +kernel) rfl rfl ?_
      refine sd_iload_n (k := 3) (i := 3) (q := 4) (pc' := 141) (by decide +kernel) rfl rfl ?_
      obtain ⟨t17, q16, hf⟩ := b1_some hf
      refine sF_callV (idx := 200) (b := 126) (As := [.int (3 * l1), .int l2, .int l3]) (ci := 12) (nn := 47) (pc' := 144) 3 (T_YM_placeOf (G := G) (h := h)  q16) (by decide +kernel) mv_YM_placeOf ml_X12_200 (by decide +kernel) rfl rfl (Nat.le_of_ble_eq_true rfl) SH_126 rfl (by decide) rfl rfl ?_
      refine sd_iadd (pc' := 145) (by decide +kernel) ?_
      refine sd_istore (i := 10) (pc' := 147) (lo' := [(10, .int ((24 * (h.1 137 ((3 * l1) : Int32).toNatClampNeg)) + t17)), (8, .double s0), (0, .ref (G.1 + 126)), (1, .int l1), (2, .int l2), (3, .int l3)]) (by decide +kernel) (by decide) rfl ?_
      refine sd_aload_n (k := 0) (i := 0) (q := 2) (pc' := 148) (by decide +kernel) rfl rfl ?_
      refine sd_iload (i := 10) (q := 0) (pc' := 150) (by decide +kernel) rfl ?_
      refine sd_iload_n (k := 2) (i := 2) (q := 4) (pc' := 151) (by decide +kernel) rfl rfl ?_
      refine sd_aload_n (k := 0) (i := 0) (q := 2) (pc' := 152) (by decide +kernel) rfl rfl ?_
      refine sF_gr (idx := 7) (ci := 12) (k := 0) (n := 47) (r := 127) (pc' := 155) (by decide +kernel) fl_X12_7 (by decide +kernel) rfl SH_126 (by decide) (by decide +kernel) ?_
      refine sd_aload_n (k := 0) (i := 0) (q := 2) (pc' := 156) (by decide +kernel) rfl rfl ?_
      refine sF_gr (idx := 41) (ci := 12) (k := 13) (n := 47) (r := 137) (pc' := 159) (by decide +kernel) fl_X12_41 (by decide +kernel) rfl SH_126 (by decide) (by decide +kernel) ?_
      refine sd_iconst (n := 3) (v := 3) (pc' := 160) (by decide +kernel) (by decide) ?_
      refine sd_iload_n (k := 1) (i := 1) (q := 3) (pc' := 161) (by decide +kernel) rfl rfl ?_
      refine sd_imul (pc' := 162) (by decide +kernel) ?_
      obtain ⟨g18, hf⟩ := gd_some hf
      refine sF_iald (n := 15) (pc' := 163) (by decide +kernel) SH_137 g18 ?_
      obtain ⟨g19, hf⟩ := gd_some hf
      refine sF_iald (n := 6) (pc' := 164) (by decide +kernel) SH_127 g19 ?_
      refine sd_dload (i := 8) (q := 1) (pc' := 166) (by decide +kernel) rfl ?_
      obtain ⟨t21, q20, hf⟩ := b1_some hf
      refine sF_callS (idx := 369) (As := [.int (h.1 127 ((h.1 137 ((3 * l1) : Int32).toNatClampNeg) : Int32).toNatClampNeg), .double s0]) (pc' := 169) 2 (T_YM_castTo (G := G) (h := h)  q20) (by decide +kernel) mv_YM_castTo ml_X12_369 (by decide +kernel) rfl rfl (Nat.le_of_ble_eq_true rfl) rfl ?_
      obtain ⟨h23, q22, hf⟩ := b1_some hf
      refine sF_callV0 (idx := 373) (b := 126) (As := [.int ((24 * (h.1 137 ((3 * l1) : Int32).toNatClampNeg)) + t17), .int l2, .double t21]) (ci := 12) (nn := 47) (pc' := 172) 3 (T_YM_writes (G := G) (h := h)  q22) (by decide +kernel) mv_YM_writes ml_X12_373 (by decide +kernel) rfl rfl (Nat.le_of_ble_eq_true rfl) SH_126 rfl (by decide) rfl rfl ?_
      refine sd_J.sub (lo' := [(0, .ref (G.1 + 126))]) [2] rfl ?_
      exact J_YM_item_B172 hE hf
  · replace hf := ite_n c11 hf
    refine sd_aload_n (k := 0) (i := 0) (q := 1) (pc' := 103) (by decide +kernel) rfl rfl ?_
    refine sF_gr (idx := 81) (ci := 12) (k := 35) (n := 47) (r := 150) (pc' := 106) (by decide +kernel) fl_X12_81 (by decide +kernel) rfl SH_126 (by decide) (by decide +kernel) ?_
    refine sd_aload_n (k := 0) (i := 0) (q := 1) (pc' := 107) (by decide +kernel) rfl rfl ?_
    refine sF_gi (idx := 338) (ci := 12) (k := 38) (n := 47) (pc' := 110) (by decide +kernel) fl_X12_338 (by decide +kernel) rfl SH_126 ?_
    refine sd_dup2 (pc' := 111) (by decide +kernel) rfl rfl ?_
    obtain ⟨g24, hf⟩ := gd_some hf
    refine sF_iald (n := 3) (pc' := 112) (by decide +kernel) SH_150 g24 ?_
    refine sd_iconst (n := 1) (v := 1) (pc' := 113) (by decide +kernel) (by decide) ?_
    refine sd_iadd (pc' := 114) (by decide +kernel) ?_
    obtain ⟨g25, hf⟩ := gd_some hf
    obtain ⟨h26, e27, hf⟩ := hb_some hf
    refine sF_iast (n := 3) (pc' := 115) (by decide +kernel) SH_150 g25 ?_
    rw [← e27]; clear e27
    refine sd_iconst (n := 0) (v := 0) (pc' := 116) (by decide +kernel) (by decide) ?_
    obtain rfl := Option.some.inj hf
    exact sd_zret (by decide +kernel) rfl rfl (hE _)
def YM_item_B68 (h : sd_H) (l1 : Int32) (l2 : Int32) (l3 : Int32) (l4 : UInt64) (l6 : UInt64) (s0 : Int32) : Option (sd_H × Int32) :=
  hb (wI h 126 38 s0) (fun h8 => (if (h8.1 126 38) = (-1) then b2 (YM_does h8 l1 l4 l6) (fun h29 t30 => YM_item_B92 h29 l1 l2 l3 t30) else YM_item_B92 h8 l1 l2 l3 FP.dconst0))
set_option maxHeartbeats 4000000 in
set_option maxRecDepth 100000 in
theorem J_YM_item_B68 {G : sd_GX} {X : sd_CX} (hE : ∀ g : sd_H, sd_end G X M_YM_item (sd_F g)) {h : sd_H} {r : (sd_H × Int32)} {l1 : Int32} {l2 : Int32} {l3 : Int32} {l4 : UInt64} {l6 : UInt64} {s0 : Int32} (hf : YM_item_B68 h l1 l2 l3 l4 l6 s0 = some r) : sd_J G X (sd_QR G X M_YM_item (some (.int r.2), sd_F r.1)) M_YM_item 68 [(0, .ref (G.1 + 126)), (1, .int l1), (2, .int l2), (3, .int l3), (4, .double l4), (6, .double l6)] [.int s0, .ref (G.1 + 126)] (sd_F h) := by
  unfold YM_item_B68 at hf
  obtain ⟨h8, e9, hf⟩ := hb_some hf
  refine sF_pi (idx := 338) (ci := 12) (k := 38) (n := 47) (pc' := 71) (by decide +kernel) fl_X12_338 (by decide +kernel) rfl rfl rfl SH_126 ?_
  rw [← e9]; clear e9
  refine sd_aload_n (k := 0) (i := 0) (q := 0) (pc' := 72) (by decide +kernel) rfl rfl ?_
  refine sF_gi (idx := 338) (ci := 12) (k := 38) (n := 47) (pc' := 75) (by decide +kernel) fl_X12_338 (by decide +kernel) rfl SH_126 ?_
  refine sd_iconst (n := -1) (v := (-1)) (pc' := 76) (by decide +kernel) (by decide) ?_
  refine sd_icmp_ne (off := 15) (tgt := 91) (pc' := 79) (by decide +kernel) (fun c10 => ?_) (fun c10 => ?_)
  · replace hf := ite_n c10 hf
    refine sd_dconst0 (pc' := 92) (by decide +kernel) ?_
    refine sd_J.sub (lo' := [(0, .ref (G.1 + 126)), (1, .int l1), (2, .int l2), (3, .int l3)]) [0, 1, 2, 3] rfl ?_
    exact J_YM_item_B92 hE hf
  · replace hf := ite_p c10 hf
    refine sd_aload_n (k := 0) (i := 0) (q := 0) (pc' := 80) (by decide +kernel) rfl rfl ?_
    refine sd_iload_n (k := 1) (i := 1) (q := 1) (pc' := 81) (by decide +kernel) rfl rfl ?_
    refine sd_dload (i := 4) (q := 4) (pc' := 83) (by decide +kernel) rfl ?_
    refine sd_dload (i := 6) (q := 5) (pc' := 85) (by decide +kernel) rfl ?_
    obtain ⟨h29, t30, q28, hf⟩ := b2_some hf
    refine sF_callV (idx := 366) (b := 126) (As := [.int l1, .double l4, .double l6]) (ci := 12) (nn := 47) (pc' := 88) 3 (T_YM_does (G := G) (h := h8)  q28) (by decide +kernel) mv_YM_does ml_X12_366 (by decide +kernel) rfl rfl (Nat.le_of_ble_eq_true rfl) SH_126 rfl (by decide) rfl rfl ?_
    refine sd_goto (off := 4) (tgt := 92) (pc' := 91) (by decide +kernel) ?_
    refine sd_J.sub (lo' := [(0, .ref (G.1 + 126)), (1, .int l1), (2, .int l2), (3, .int l3)]) [0, 1, 2, 3] rfl ?_
    exact J_YM_item_B92 hE hf
def YM_item_B41 (h : sd_H) (l1 : Int32) (l2 : Int32) (l3 : Int32) (l4 : UInt64) (s0 : UInt64) : Option (sd_H × Int32) :=
  (if (h.1 126 38) = (-1) then b1 (YM_lacksPlace h (3 * l1) l2 l3) (fun t32 => YM_item_B68 h l1 l2 l3 l4 s0 t32) else YM_item_B68 h l1 l2 l3 l4 s0 (h.1 126 38))
set_option maxHeartbeats 4000000 in
set_option maxRecDepth 100000 in
theorem J_YM_item_B41 {G : sd_GX} {X : sd_CX} (hE : ∀ g : sd_H, sd_end G X M_YM_item (sd_F g)) {h : sd_H} {r : (sd_H × Int32)} {l1 : Int32} {l2 : Int32} {l3 : Int32} {l4 : UInt64} {s0 : UInt64} (hf : YM_item_B41 h l1 l2 l3 l4 s0 = some r) : sd_J G X (sd_QR G X M_YM_item (some (.int r.2), sd_F r.1)) M_YM_item 41 [(0, .ref (G.1 + 126)), (1, .int l1), (2, .int l2), (3, .int l3), (4, .double l4)] [.double s0] (sd_F h) := by
  unfold YM_item_B41 at hf
  refine sd_dstore (i := 6) (pc' := 43) (lo' := [(6, .double s0), (0, .ref (G.1 + 126)), (1, .int l1), (2, .int l2), (3, .int l3), (4, .double l4)]) (by decide +kernel) (by decide) rfl ?_
  refine sd_aload_n (k := 0) (i := 0) (q := 1) (pc' := 44) (by decide +kernel) rfl rfl ?_
  refine sd_aload_n (k := 0) (i := 0) (q := 1) (pc' := 45) (by decide +kernel) rfl rfl ?_
  refine sF_gi (idx := 338) (ci := 12) (k := 38) (n := 47) (pc' := 48) (by decide +kernel) fl_X12_338 (by decide +kernel) rfl SH_126 ?_
  refine sd_iconst (n := -1) (v := (-1)) (pc' := 49) (by decide +kernel) (by decide) ?_
  refine sd_icmp_ne (off := 15) (tgt := 64) (pc' := 52) (by decide +kernel) (fun c7 => ?_) (fun c7 => ?_)
  · replace hf := ite_n c7 hf
    refine sd_aload_n (k := 0) (i := 0) (q := 1) (pc' := 65) (by decide +kernel) rfl rfl ?_
    refine sF_gi (idx := 338) (ci := 12) (k := 38) (n := 47) (pc' := 68) (by decide +kernel) fl_X12_338 (by decide +kernel) rfl SH_126 ?_
    refine sd_J.sub (lo' := [(0, .ref (G.1 + 126)), (1, .int l1), (2, .int l2), (3, .int l3), (4, .double l4), (6, .double s0)]) [1, 2, 3, 4, 5, 0] rfl ?_
    exact J_YM_item_B68 hE hf
  · replace hf := ite_p c7 hf
    refine sd_aload_n (k := 0) (i := 0) (q := 1) (pc' := 53) (by decide +kernel) rfl rfl ?_
    refine sd_iconst (n := 3) (v := 3) (pc' := 54) (by decide +kernel) (by decide) ?_
    refine sd_iload_n (k := 1) (i := 1) (q := 2) (pc' := 55) (by decide +kernel) rfl rfl ?_
    refine sd_imul (pc' := 56) (by decide +kernel) ?_
    refine sd_iload_n (k := 2) (i := 2) (q := 3) (pc' := 57) (by decide +kernel) rfl rfl ?_
    refine sd_iload_n (k := 3) (i := 3) (q := 4) (pc' := 58) (by decide +kernel) rfl rfl ?_
    obtain ⟨t32, q31, hf⟩ := b1_some hf
    refine sF_callV (idx := 356) (b := 126) (As := [.int (3 * l1), .int l2, .int l3]) (ci := 12) (nn := 47) (pc' := 61) 3 (T_YM_lacksPlace (G := G) (h := h)  q31) (by decide +kernel) mv_YM_lacksPlace ml_X12_356 (by decide +kernel) rfl rfl (Nat.le_of_ble_eq_true rfl) SH_126 rfl (by decide) rfl rfl ?_
    refine sd_goto (off := 7) (tgt := 68) (pc' := 64) (by decide +kernel) ?_
    refine sd_J.sub (lo' := [(0, .ref (G.1 + 126)), (1, .int l1), (2, .int l2), (3, .int l3), (4, .double l4), (6, .double s0)]) [1, 2, 3, 4, 5, 0] rfl ?_
    exact J_YM_item_B68 hE hf
def YM_item (h : sd_H) (a0 : Int32) (a1 : Int32) (a2 : Int32) : Option (sd_H × Int32) :=
  hb (wI h 126 38 (-1)) (fun h1 => b2 (YM_read h1 ((3 * a0) + 1) a1 a2) (fun h4 t5 => (if (h4.1 126 38) = (-1) then b2 (YM_read h4 ((3 * a0) + 2) a1 a2) (fun h34 t35 => YM_item_B41 h34 a0 a1 a2 t5 t35) else YM_item_B41 h4 a0 a1 a2 t5 FP.dconst0)))
set_option maxHeartbeats 4000000 in
set_option maxRecDepth 100000 in
theorem T_YM_item {G : sd_GX} {h : sd_H} {a0 : Int32} {a1 : Int32} {a2 : Int32} {r : (sd_H × Int32)} (hf : YM_item h a0 a1 a2 = some r) : sd_RunF G M_YM_item [.ref (G.1 + 126), .int a0, .int a1, .int a2] h (some (.int r.2)) r.1 := by
  refine sF_run ⟨rfl, rfl⟩ (by decide +kernel) (Nat.le_of_ble_eq_true rfl) (lo := [(0, .ref (G.1 + 126)), (1, .int a0), (2, .int a1), (3, .int a2)]) rfl (fun X hE => ?_)
  unfold YM_item at hf
  refine sd_aload_n (k := 0) (i := 0) (q := 0) (pc' := 1) (by decide +kernel) rfl rfl ?_
  refine sd_iconst (n := -1) (v := (-1)) (pc' := 2) (by decide +kernel) (by decide) ?_
  obtain ⟨h1, e2, hf⟩ := hb_some hf
  refine sF_pi (idx := 338) (ci := 12) (k := 38) (n := 47) (pc' := 5) (by decide +kernel) fl_X12_338 (by decide +kernel) rfl rfl rfl SH_126 ?_
  rw [← e2]; clear e2
  refine sd_aload_n (k := 0) (i := 0) (q := 0) (pc' := 6) (by decide +kernel) rfl rfl ?_
  refine sd_iconst (n := 3) (v := 3) (pc' := 7) (by decide +kernel) (by decide) ?_
  refine sd_iload_n (k := 1) (i := 1) (q := 1) (pc' := 8) (by decide +kernel) rfl rfl ?_
  refine sd_imul (pc' := 9) (by decide +kernel) ?_
  refine sd_iconst (n := 1) (v := 1) (pc' := 10) (by decide +kernel) (by decide) ?_
  refine sd_iadd (pc' := 11) (by decide +kernel) ?_
  refine sd_iload_n (k := 2) (i := 2) (q := 2) (pc' := 12) (by decide +kernel) rfl rfl ?_
  refine sd_iload_n (k := 3) (i := 3) (q := 3) (pc' := 13) (by decide +kernel) rfl rfl ?_
  obtain ⟨h4, t5, q3, hf⟩ := b2_some hf
  refine sF_callV (idx := 362) (b := 126) (As := [.int ((3 * a0) + 1), .int a1, .int a2]) (ci := 12) (nn := 47) (pc' := 16) 3 (T_YM_read (G := G) (h := h1)  q3) (by decide +kernel) mv_YM_read ml_X12_362 (by decide +kernel) rfl rfl (Nat.le_of_ble_eq_true rfl) SH_126 rfl (by decide) rfl rfl ?_
  refine sd_dstore (i := 4) (pc' := 18) (lo' := [(4, .double t5), (0, .ref (G.1 + 126)), (1, .int a0), (2, .int a1), (3, .int a2)]) (by decide +kernel) (by decide) rfl ?_
  refine sd_aload_n (k := 0) (i := 0) (q := 1) (pc' := 19) (by decide +kernel) rfl rfl ?_
  refine sF_gi (idx := 338) (ci := 12) (k := 38) (n := 47) (pc' := 22) (by decide +kernel) fl_X12_338 (by decide +kernel) rfl SH_126 ?_
  refine sd_iconst (n := -1) (v := (-1)) (pc' := 23) (by decide +kernel) (by decide) ?_
  refine sd_icmp_ne (off := 17) (tgt := 40) (pc' := 26) (by decide +kernel) (fun c6 => ?_) (fun c6 => ?_)
  · replace hf := ite_n c6 hf
    refine sd_dconst0 (pc' := 41) (by decide +kernel) ?_
    refine sd_J.sub (lo' := [(0, .ref (G.1 + 126)), (1, .int a0), (2, .int a1), (3, .int a2), (4, .double t5)]) [1, 2, 3, 4, 0] rfl ?_
    exact J_YM_item_B41 hE hf
  · replace hf := ite_p c6 hf
    refine sd_aload_n (k := 0) (i := 0) (q := 1) (pc' := 27) (by decide +kernel) rfl rfl ?_
    refine sd_iconst (n := 3) (v := 3) (pc' := 28) (by decide +kernel) (by decide) ?_
    refine sd_iload_n (k := 1) (i := 1) (q := 2) (pc' := 29) (by decide +kernel) rfl rfl ?_
    refine sd_imul (pc' := 30) (by decide +kernel) ?_
    refine sd_iconst (n := 2) (v := 2) (pc' := 31) (by decide +kernel) (by decide) ?_
    refine sd_iadd (pc' := 32) (by decide +kernel) ?_
    refine sd_iload_n (k := 2) (i := 2) (q := 3) (pc' := 33) (by decide +kernel) rfl rfl ?_
    refine sd_iload_n (k := 3) (i := 3) (q := 4) (pc' := 34) (by decide +kernel) rfl rfl ?_
    obtain ⟨h34, t35, q33, hf⟩ := b2_some hf
    refine sF_callV (idx := 362) (b := 126) (As := [.int ((3 * a0) + 2), .int a1, .int a2]) (ci := 12) (nn := 47) (pc' := 37) 3 (T_YM_read (G := G) (h := h4)  q33) (by decide +kernel) mv_YM_read ml_X12_362 (by decide +kernel) rfl rfl (Nat.le_of_ble_eq_true rfl) SH_126 rfl (by decide) rfl rfl ?_
    refine sd_goto (off := 4) (tgt := 41) (pc' := 40) (by decide +kernel) ?_
    refine sd_J.sub (lo' := [(0, .ref (G.1 + 126)), (1, .int a0), (2, .int a1), (3, .int a2), (4, .double t5)]) [1, 2, 3, 4, 0] rfl ?_
    exact J_YM_item_B41 hE hf

def M_YM_firstFrom : sd_MX := (yX12_firstFrom, cX12_firstFrom, 5, (some .int), { frames := 2, cells := 0, slots := 0, locals := 64 })
def YM_firstFrom_B35 (h : sd_H) (K10 : Int32 → Int32 → Int32 → Int32 → Option Int32) (l1 : Int32) (l2 : Int32) (l4 : Int32) (s0 : Int32) : Option Int32 :=
  K10 l1 l2 s0 (l4 + (-1))
set_option maxHeartbeats 4000000 in
set_option maxRecDepth 100000 in
theorem J_YM_firstFrom_B35 {G : sd_GX} {X : sd_CX} (hE : ∀ g : sd_H, sd_end G X M_YM_firstFrom (sd_F g)) {h : sd_H} {K10 : Int32 → Int32 → Int32 → Int32 → Option Int32} {r : Int32} (hK10 : ∀ (l1 : Int32) (l2 : Int32) (l3 : Int32) (l4 : Int32), K10 l1 l2 l3 l4 = some r → sd_J G X (sd_QR G X M_YM_firstFrom (some (.int r), sd_F h)) M_YM_firstFrom 10 [(0, .ref (G.1 + 126)), (1, .int l1), (2, .int l2), (3, .int l3), (4, .int l4)] [] (sd_F h)) {l1 : Int32} {l2 : Int32} {l4 : Int32} {s0 : Int32} (hf : YM_firstFrom_B35 h K10 l1 l2 l4 s0 = some r) : sd_J G X (sd_QR G X M_YM_firstFrom (some (.int r), sd_F h)) M_YM_firstFrom 35 [(0, .ref (G.1 + 126)), (1, .int l1), (2, .int l2), (4, .int l4)] [.int s0] (sd_F h) := by
  unfold YM_firstFrom_B35 at hf
  refine sd_istore_n (k := 3) (i := 3) (pc' := 36) (lo' := [(3, .int s0), (0, .ref (G.1 + 126)), (1, .int l1), (2, .int l2), (4, .int l4)]) (by decide +kernel) rfl (by decide) rfl ?_
  refine sd_iinc (i := 4) (q := 4) (n := -1) (v := (l4 + (-1))) (pc' := 39) (lo' := [(4, .int (l4 + (-1))), (3, .int s0), (0, .ref (G.1 + 126)), (1, .int l1), (2, .int l2)]) (by decide +kernel) rfl rfl (by decide) rfl ?_
  refine sd_goto (off := -29) (tgt := 10) (pc' := 42) (by decide +kernel) ?_
  refine sd_J.sub (lo' := [(0, .ref (G.1 + 126)), (1, .int l1), (2, .int l2), (3, .int s0), (4, .int (l4 + (-1)))]) [2, 3, 4, 1, 0] rfl ?_
  exact hK10 _ _ _ _ hf
def YM_firstFrom_L10 (h : sd_H) : Nat → Int32 → Int32 → Int32 → Int32 → Option Int32
  | 0, _, _, _, _ => none
  | n + 1, l1, l2, l3, l4 =>
  (if l4 < l1 then some l3 else b1 (YM_isDone h l4 l2) (fun t3 => (if t3 = 0 then YM_firstFrom_B35 h (YM_firstFrom_L10 h n) l1 l2 l4 l3 else YM_firstFrom_B35 h (YM_firstFrom_L10 h n) l1 l2 l4 (10 * l4))))
set_option maxHeartbeats 4000000 in
set_option maxRecDepth 100000 in
theorem J_YM_firstFrom_L10 {G : sd_GX} {X : sd_CX} (hE : ∀ g : sd_H, sd_end G X M_YM_firstFrom (sd_F g)) {h : sd_H} {r : Int32} : ∀ (n : Nat) (l1 : Int32) (l2 : Int32) (l3 : Int32) (l4 : Int32), YM_firstFrom_L10 h n l1 l2 l3 l4 = some r → sd_J G X (sd_QR G X M_YM_firstFrom (some (.int r), sd_F h)) M_YM_firstFrom 10 [(0, .ref (G.1 + 126)), (1, .int l1), (2, .int l2), (3, .int l3), (4, .int l4)] [] (sd_F h) := by
  intro n
  induction n with
  | zero =>
    intro l1 l2 l3 l4 hf
    rw [YM_firstFrom_L10] at hf
    cases hf
  | succ n ih =>
    intro l1 l2 l3 l4 hf
    rw [YM_firstFrom_L10] at hf
    refine sd_iload (i := 4) (q := 4) (pc' := 12) (by decide +kernel) rfl ?_
    refine sd_iload_n (k := 1) (i := 1) (q := 1) (pc' := 13) (by decide +kernel) rfl rfl ?_
    refine sd_icmp_lt (off := 29) (tgt := 42) (pc' := 16) (by decide +kernel) (fun c1 => ?_) (fun c1 => ?_)
    · replace hf := ite_p c1 hf
      refine sd_iload_n (k := 3) (i := 3) (q := 3) (pc' := 43) (by decide +kernel) rfl rfl ?_
      obtain rfl := Option.some.inj hf
      exact sd_iret (by decide +kernel) rfl (hE _)
    · replace hf := ite_n c1 hf
      refine sd_aload_n (k := 0) (i := 0) (q := 0) (pc' := 17) (by decide +kernel) rfl rfl ?_
      refine sd_iload (i := 4) (q := 4) (pc' := 19) (by decide +kernel) rfl ?_
      refine sd_iload_n (k := 2) (i := 2) (q := 2) (pc' := 20) (by decide +kernel) rfl rfl ?_
      obtain ⟨t3, q2, hf⟩ := b1_some hf
      refine sF_callV (idx := 177) (b := 126) (As := [.int l4, .int l2]) (ci := 12) (nn := 47) (pc' := 23) 2 (T_YM_isDone (G := G) (h := h)  q2) (by decide +kernel) mv_YM_isDone ml_X12_177 (by decide +kernel) rfl rfl (Nat.le_of_ble_eq_true rfl) SH_126 rfl (by decide) rfl rfl ?_
      refine sd_if_eq (off := 11) (tgt := 34) (pc' := 26) (by decide +kernel) (fun c4 => ?_) (fun c4 => ?_)
      · replace hf := ite_p c4 hf
        refine sd_iload_n (k := 3) (i := 3) (q := 3) (pc' := 35) (by decide +kernel) rfl rfl ?_
        refine sd_J.sub (lo' := [(0, .ref (G.1 + 126)), (1, .int l1), (2, .int l2), (4, .int l4)]) [0, 1, 2, 4] rfl ?_
        exact J_YM_firstFrom_B35 hE ih hf
      · replace hf := ite_n c4 hf
        refine sd_bipush (n := 10) (v := 10) (pc' := 28) (by decide +kernel) (by decide) ?_
        refine sd_iload (i := 4) (q := 4) (pc' := 30) (by decide +kernel) rfl ?_
        refine sd_imul (pc' := 31) (by decide +kernel) ?_
        refine sd_goto (off := 4) (tgt := 35) (pc' := 34) (by decide +kernel) ?_
        refine sd_J.sub (lo' := [(0, .ref (G.1 + 126)), (1, .int l1), (2, .int l2), (4, .int l4)]) [0, 1, 2, 4] rfl ?_
        exact J_YM_firstFrom_B35 hE ih hf
def YM_firstFrom (h : sd_H) (a0 : Int32) (a1 : Int32) : Option Int32 :=
  YM_firstFrom_L10 h FU a0 a1 (-1) ((h.1 126 7) - 1)
set_option maxHeartbeats 4000000 in
set_option maxRecDepth 100000 in
theorem T_YM_firstFrom {G : sd_GX} {h : sd_H} {a0 : Int32} {a1 : Int32} {r : Int32} (hf : YM_firstFrom h a0 a1 = some r) : sd_RunF G M_YM_firstFrom [.ref (G.1 + 126), .int a0, .int a1] h (some (.int r)) h := by
  refine sF_run ⟨rfl, rfl⟩ (by decide +kernel) (Nat.le_of_ble_eq_true rfl) (lo := [(0, .ref (G.1 + 126)), (1, .int a0), (2, .int a1)]) rfl (fun X hE => ?_)
  unfold YM_firstFrom at hf
  refine sd_iconst (n := -1) (v := (-1)) (pc' := 1) (by decide +kernel) (by decide) ?_
  refine sd_istore_n (k := 3) (i := 3) (pc' := 2) (lo' := [(3, .int (-1)), (0, .ref (G.1 + 126)), (1, .int a0), (2, .int a1)]) (by decide +kernel) rfl (by decide) rfl ?_
  refine sd_aload_n (k := 0) (i := 0) (q := 1) (pc' := 3) (by decide +kernel) rfl rfl ?_
  refine sF_gi (idx := 171) (ci := 12) (k := 7) (n := 47) (pc' := 6) (by decide +kernel) fl_X12_171 (by decide +kernel) rfl SH_126 ?_
  refine sd_iconst (n := 1) (v := 1) (pc' := 7) (by decide +kernel) (by decide) ?_
  refine sd_isub (pc' := 8) (by decide +kernel) ?_
  refine sd_istore (i := 4) (pc' := 10) (lo' := [(4, .int ((h.1 126 7) - 1)), (3, .int (-1)), (0, .ref (G.1 + 126)), (1, .int a0), (2, .int a1)]) (by decide +kernel) (by decide) rfl ?_
  refine sd_J.sub (lo' := [(0, .ref (G.1 + 126)), (1, .int a0), (2, .int a1), (3, .int (-1)), (4, .int ((h.1 126 7) - 1))]) [2, 3, 4, 1, 0] rfl ?_
  exact J_YM_firstFrom_L10 hE _ _ _ _ _ hf

theorem fl_X12_380 : sd_fl RX12 380 12 37 := ⟨sd_mem (i := 1185) (by decide +kernel), by decide, by decide⟩
theorem fl_X12_87 : sd_fl RX12 87 12 40 := ⟨sd_mem (i := 1188) (by decide +kernel), by decide, by decide⟩
theorem ml_X12_383 : Cond.methodLink RX12 383 yX12_firstFrom ∈ sd_tb := sd_mem (i := 1617) (by decide +kernel)
theorem mv_YM_firstFrom : sd_mV M_YM_firstFrom 2 := ⟨sd_mem (i := 1619) (by decide +kernel), sd_mem (i := 84) (by decide +kernel), ⟨sd_mem (i := 1620) (by decide +kernel), sd_mem (i := 119) (by decide +kernel), by decide +kernel, by decide +kernel, by decide +kernel⟩⟩
def M_YM_begins : sd_MX := (yX12_begins, cX12_begins, 2, none, { frames := 3, cells := 0, slots := 0, locals := 88 })
def YM_begins_L88 : Nat → sd_H → Int32 → Option sd_H
  | 0, _, _ => none
  | n + 1, h, l1 =>
  (if (h.1 126 6) ≤ l1 then some h else b1 (YM_firstFrom h 0 l1) (fun t10 => gd (sd_inB l1 10) (hb (wI h 152 (l1 : Int32).toNatClampNeg t10) (fun h12 => YM_begins_L88 n h12 (l1 + 1)))))
set_option maxHeartbeats 4000000 in
set_option maxRecDepth 100000 in
theorem J_YM_begins_L88 {G : sd_GX} {X : sd_CX} (hE : ∀ g : sd_H, sd_end G X M_YM_begins (sd_F g))  {r : sd_H} : ∀ (n : Nat) (h : sd_H) (l1 : Int32), YM_begins_L88 n h l1 = some r → sd_J G X (sd_QR G X M_YM_begins (none, sd_F r)) M_YM_begins 88 [(0, .ref (G.1 + 126)), (1, .int l1)] [] (sd_F h) := by
  intro n
  induction n with
  | zero =>
    intro h l1 hf
    rw [YM_begins_L88] at hf
    cases hf
  | succ n ih =>
    intro h l1 hf
    rw [YM_begins_L88] at hf
    refine sd_iload_n (k := 1) (i := 1) (q := 1) (pc' := 89) (by decide +kernel) rfl rfl ?_
    refine sd_aload_n (k := 0) (i := 0) (q := 0) (pc' := 90) (by decide +kernel) rfl rfl ?_
    refine sF_gi (idx := 154) (ci := 12) (k := 6) (n := 47) (pc' := 93) (by decide +kernel) fl_X12_154 (by decide +kernel) rfl SH_126 ?_
    refine sd_icmp_ge (off := 21) (tgt := 114) (pc' := 96) (by decide +kernel) (fun c8 => ?_) (fun c8 => ?_)
    · replace hf := ite_p c8 hf
      obtain rfl := Option.some.inj hf
      exact sd_vret (by decide +kernel) rfl (hE _)
    · replace hf := ite_n c8 hf
      refine sd_aload_n (k := 0) (i := 0) (q := 0) (pc' := 97) (by decide +kernel) rfl rfl ?_
      refine sF_gr (idx := 87) (ci := 12) (k := 40) (n := 47) (r := 152) (pc' := 100) (by decide +kernel) fl_X12_87 (by decide +kernel) rfl SH_126 (by decide) (by decide +kernel) ?_
      refine sd_iload_n (k := 1) (i := 1) (q := 1) (pc' := 101) (by decide +kernel) rfl rfl ?_
      refine sd_aload_n (k := 0) (i := 0) (q := 0) (pc' := 102) (by decide +kernel) rfl rfl ?_
      refine sd_iconst (n := 0) (v := 0) (pc' := 103) (by decide +kernel) (by decide) ?_
      refine sd_iload_n (k := 1) (i := 1) (q := 1) (pc' := 104) (by decide +kernel) rfl rfl ?_
      obtain ⟨t10, q9, hf⟩ := b1_some hf
      refine sF_callV (idx := 383) (b := 126) (As := [.int 0, .int l1]) (ci := 12) (nn := 47) (pc' := 107) 2 (T_YM_firstFrom (G := G) (h := h)  q9) (by decide +kernel) mv_YM_firstFrom ml_X12_383 (by decide +kernel) rfl rfl (Nat.le_of_ble_eq_true rfl) SH_126 rfl (by decide) rfl rfl ?_
      obtain ⟨g11, hf⟩ := gd_some hf
      obtain ⟨h12, e13, hf⟩ := hb_some hf
      refine sF_iast (n := 10) (pc' := 108) (by decide +kernel) SH_152 g11 ?_
      rw [← e13]; clear e13
      refine sd_iinc (i := 1) (q := 1) (n := 1) (v := (l1 + 1)) (pc' := 111) (lo' := [(1, .int (l1 + 1)), (0, .ref (G.1 + 126))]) (by decide +kernel) rfl rfl (by decide) rfl ?_
      refine sd_goto (off := -23) (tgt := 88) (pc' := 114) (by decide +kernel) ?_
      refine sd_J.sub (lo' := [(0, .ref (G.1 + 126)), (1, .int (l1 + 1))]) [1, 0] rfl ?_
      exact ih _ _ hf
def YM_begins_L66 : Nat → sd_H → Int32 → Option sd_H
  | 0, _, _ => none
  | n + 1, h, l1 =>
  (if 1440 ≤ l1 then YM_begins_L88 FU h 0 else gd (sd_inB l1 1440) (hb (wI h 149 (l1 : Int32).toNatClampNeg 0) (fun h15 => YM_begins_L66 n h15 (l1 + 1))))
set_option maxHeartbeats 4000000 in
set_option maxRecDepth 100000 in
theorem J_YM_begins_L66 {G : sd_GX} {X : sd_CX} (hE : ∀ g : sd_H, sd_end G X M_YM_begins (sd_F g))  {r : sd_H} : ∀ (n : Nat) (h : sd_H) (l1 : Int32), YM_begins_L66 n h l1 = some r → sd_J G X (sd_QR G X M_YM_begins (none, sd_F r)) M_YM_begins 66 [(0, .ref (G.1 + 126)), (1, .int l1)] [] (sd_F h) := by
  intro n
  induction n with
  | zero =>
    intro h l1 hf
    rw [YM_begins_L66] at hf
    cases hf
  | succ n ih =>
    intro h l1 hf
    rw [YM_begins_L66] at hf
    refine sd_iload_n (k := 1) (i := 1) (q := 1) (pc' := 67) (by decide +kernel) rfl rfl ?_
    refine sd_sipush (n := 1440) (v := 1440) (pc' := 70) (by decide +kernel) (by decide) ?_
    refine sd_icmp_ge (off := 16) (tgt := 86) (pc' := 73) (by decide +kernel) (fun c7 => ?_) (fun c7 => ?_)
    · replace hf := ite_p c7 hf
      refine sd_iconst (n := 0) (v := 0) (pc' := 87) (by decide +kernel) (by decide) ?_
      refine sd_istore_n (k := 1) (i := 1) (pc' := 88) (lo' := [(1, .int 0), (0, .ref (G.1 + 126))]) (by decide +kernel) rfl (by decide) rfl ?_
      refine sd_J.sub (lo' := [(0, .ref (G.1 + 126)), (1, .int 0)]) [1, 0] rfl ?_
      exact J_YM_begins_L88 hE _ _ _ hf
    · replace hf := ite_n c7 hf
      refine sd_aload_n (k := 0) (i := 0) (q := 0) (pc' := 74) (by decide +kernel) rfl rfl ?_
      refine sF_gr (idx := 77) (ci := 12) (k := 32) (n := 47) (r := 149) (pc' := 77) (by decide +kernel) fl_X12_77 (by decide +kernel) rfl SH_126 (by decide) (by decide +kernel) ?_
      refine sd_iload_n (k := 1) (i := 1) (q := 1) (pc' := 78) (by decide +kernel) rfl rfl ?_
      refine sd_iconst (n := 0) (v := 0) (pc' := 79) (by decide +kernel) (by decide) ?_
      obtain ⟨g14, hf⟩ := gd_some hf
      obtain ⟨h15, e16, hf⟩ := hb_some hf
      refine sF_zast (n := 1440) (pc' := 80) (by decide +kernel) SH_149 g14 (by decide) ?_
      rw [← e16]; clear e16
      refine sd_iinc (i := 1) (q := 1) (n := 1) (v := (l1 + 1)) (pc' := 83) (lo' := [(1, .int (l1 + 1)), (0, .ref (G.1 + 126))]) (by decide +kernel) rfl rfl (by decide) rfl ?_
      refine sd_goto (off := -17) (tgt := 66) (pc' := 86) (by decide +kernel) ?_
      refine sd_J.sub (lo' := [(0, .ref (G.1 + 126)), (1, .int (l1 + 1))]) [1, 0] rfl ?_
      exact ih _ _ hf
def YM_begins_L32 : Nat → sd_H → Int32 → Option sd_H
  | 0, _, _ => none
  | n + 1, h, l1 =>
  (if 144 ≤ l1 then YM_begins_L66 FU h 0 else gd (sd_inB l1 144) (hb (wI h 130 (l1 : Int32).toNatClampNeg (-1)) (fun h18 => gd (sd_inB l1 144) (gd (sd_inB l1 144) (hb (wD h18 147 (l1 : Int32).toNatClampNeg (h18.2.1 129 (l1 : Int32).toNatClampNeg)) (fun h22 => YM_begins_L32 n h22 (l1 + 1)))))))
set_option maxHeartbeats 4000000 in
set_option maxRecDepth 100000 in
theorem J_YM_begins_L32 {G : sd_GX} {X : sd_CX} (hE : ∀ g : sd_H, sd_end G X M_YM_begins (sd_F g))  {r : sd_H} : ∀ (n : Nat) (h : sd_H) (l1 : Int32), YM_begins_L32 n h l1 = some r → sd_J G X (sd_QR G X M_YM_begins (none, sd_F r)) M_YM_begins 32 [(0, .ref (G.1 + 126)), (1, .int l1)] [] (sd_F h) := by
  intro n
  induction n with
  | zero =>
    intro h l1 hf
    rw [YM_begins_L32] at hf
    cases hf
  | succ n ih =>
    intro h l1 hf
    rw [YM_begins_L32] at hf
    refine sd_iload_n (k := 1) (i := 1) (q := 1) (pc' := 33) (by decide +kernel) rfl rfl ?_
    refine sd_sipush (n := 144) (v := 144) (pc' := 36) (by decide +kernel) (by decide) ?_
    refine sd_icmp_ge (off := 28) (tgt := 64) (pc' := 39) (by decide +kernel) (fun c6 => ?_) (fun c6 => ?_)
    · replace hf := ite_p c6 hf
      refine sd_iconst (n := 0) (v := 0) (pc' := 65) (by decide +kernel) (by decide) ?_
      refine sd_istore_n (k := 1) (i := 1) (pc' := 66) (lo' := [(1, .int 0), (0, .ref (G.1 + 126))]) (by decide +kernel) rfl (by decide) rfl ?_
      refine sd_J.sub (lo' := [(0, .ref (G.1 + 126)), (1, .int 0)]) [1, 0] rfl ?_
      exact J_YM_begins_L66 hE _ _ _ hf
    · replace hf := ite_n c6 hf
      refine sd_aload_n (k := 0) (i := 0) (q := 0) (pc' := 40) (by decide +kernel) rfl rfl ?_
      refine sF_gr (idx := 20) (ci := 12) (k := 3) (n := 47) (r := 130) (pc' := 43) (by decide +kernel) fl_X12_20 (by decide +kernel) rfl SH_126 (by decide) (by decide +kernel) ?_
      refine sd_iload_n (k := 1) (i := 1) (q := 1) (pc' := 44) (by decide +kernel) rfl rfl ?_
      refine sd_iconst (n := -1) (v := (-1)) (pc' := 45) (by decide +kernel) (by decide) ?_
      obtain ⟨g17, hf⟩ := gd_some hf
      obtain ⟨h18, e19, hf⟩ := hb_some hf
      refine sF_iast (n := 144) (pc' := 46) (by decide +kernel) SH_130 g17 ?_
      rw [← e19]; clear e19
      refine sd_aload_n (k := 0) (i := 0) (q := 0) (pc' := 47) (by decide +kernel) rfl rfl ?_
      refine sF_gr (idx := 71) (ci := 12) (k := 30) (n := 47) (r := 147) (pc' := 50) (by decide +kernel) fl_X12_71 (by decide +kernel) rfl SH_126 (by decide) (by decide +kernel) ?_
      refine sd_iload_n (k := 1) (i := 1) (q := 1) (pc' := 51) (by decide +kernel) rfl rfl ?_
      refine sd_aload_n (k := 0) (i := 0) (q := 0) (pc' := 52) (by decide +kernel) rfl rfl ?_
      refine sF_gr (idx := 16) (ci := 12) (k := 2) (n := 47) (r := 129) (pc' := 55) (by decide +kernel) fl_X12_16 (by decide +kernel) rfl SH_126 (by decide) (by decide +kernel) ?_
      refine sd_iload_n (k := 1) (i := 1) (q := 1) (pc' := 56) (by decide +kernel) rfl rfl ?_
      obtain ⟨g20, hf⟩ := gd_some hf
      refine sF_dald (n := 144) (pc' := 57) (by decide +kernel) SH_129 g20 ?_
      obtain ⟨g21, hf⟩ := gd_some hf
      obtain ⟨h22, e23, hf⟩ := hb_some hf
      refine sF_dast (n := 144) (pc' := 58) (by decide +kernel) SH_147 g21 ?_
      rw [← e23]; clear e23
      refine sd_iinc (i := 1) (q := 1) (n := 1) (v := (l1 + 1)) (pc' := 61) (lo' := [(1, .int (l1 + 1)), (0, .ref (G.1 + 126))]) (by decide +kernel) rfl rfl (by decide) rfl ?_
      refine sd_goto (off := -29) (tgt := 32) (pc' := 64) (by decide +kernel) ?_
      refine sd_J.sub (lo' := [(0, .ref (G.1 + 126)), (1, .int (l1 + 1))]) [1, 0] rfl ?_
      exact ih _ _ hf
def YM_begins_L12 : Nat → sd_H → Int32 → Option sd_H
  | 0, _, _ => none
  | n + 1, h, l1 =>
  (if 3 ≤ l1 then YM_begins_L32 FU h 0 else gd (sd_inB l1 3) (hb (wI h 150 (l1 : Int32).toNatClampNeg 0) (fun h25 => YM_begins_L12 n h25 (l1 + 1))))
set_option maxHeartbeats 4000000 in
set_option maxRecDepth 100000 in
theorem J_YM_begins_L12 {G : sd_GX} {X : sd_CX} (hE : ∀ g : sd_H, sd_end G X M_YM_begins (sd_F g))  {r : sd_H} : ∀ (n : Nat) (h : sd_H) (l1 : Int32), YM_begins_L12 n h l1 = some r → sd_J G X (sd_QR G X M_YM_begins (none, sd_F r)) M_YM_begins 12 [(0, .ref (G.1 + 126)), (1, .int l1)] [] (sd_F h) := by
  intro n
  induction n with
  | zero =>
    intro h l1 hf
    rw [YM_begins_L12] at hf
    cases hf
  | succ n ih =>
    intro h l1 hf
    rw [YM_begins_L12] at hf
    refine sd_iload_n (k := 1) (i := 1) (q := 1) (pc' := 13) (by decide +kernel) rfl rfl ?_
    refine sd_iconst (n := 3) (v := 3) (pc' := 14) (by decide +kernel) (by decide) ?_
    refine sd_icmp_ge (off := 16) (tgt := 30) (pc' := 17) (by decide +kernel) (fun c5 => ?_) (fun c5 => ?_)
    · replace hf := ite_p c5 hf
      refine sd_iconst (n := 0) (v := 0) (pc' := 31) (by decide +kernel) (by decide) ?_
      refine sd_istore_n (k := 1) (i := 1) (pc' := 32) (lo' := [(1, .int 0), (0, .ref (G.1 + 126))]) (by decide +kernel) rfl (by decide) rfl ?_
      refine sd_J.sub (lo' := [(0, .ref (G.1 + 126)), (1, .int 0)]) [1, 0] rfl ?_
      exact J_YM_begins_L32 hE _ _ _ hf
    · replace hf := ite_n c5 hf
      refine sd_aload_n (k := 0) (i := 0) (q := 0) (pc' := 18) (by decide +kernel) rfl rfl ?_
      refine sF_gr (idx := 81) (ci := 12) (k := 35) (n := 47) (r := 150) (pc' := 21) (by decide +kernel) fl_X12_81 (by decide +kernel) rfl SH_126 (by decide) (by decide +kernel) ?_
      refine sd_iload_n (k := 1) (i := 1) (q := 1) (pc' := 22) (by decide +kernel) rfl rfl ?_
      refine sd_iconst (n := 0) (v := 0) (pc' := 23) (by decide +kernel) (by decide) ?_
      obtain ⟨g24, hf⟩ := gd_some hf
      obtain ⟨h25, e26, hf⟩ := hb_some hf
      refine sF_iast (n := 3) (pc' := 24) (by decide +kernel) SH_150 g24 ?_
      rw [← e26]; clear e26
      refine sd_iinc (i := 1) (q := 1) (n := 1) (v := (l1 + 1)) (pc' := 27) (lo' := [(1, .int (l1 + 1)), (0, .ref (G.1 + 126))]) (by decide +kernel) rfl rfl (by decide) rfl ?_
      refine sd_goto (off := -15) (tgt := 12) (pc' := 30) (by decide +kernel) ?_
      refine sd_J.sub (lo' := [(0, .ref (G.1 + 126)), (1, .int (l1 + 1))]) [1, 0] rfl ?_
      exact ih _ _ hf
def YM_begins (h : sd_H) : Option sd_H :=
  hb (wI h 126 34 0) (fun h1 => hb (wI h1 126 37 0) (fun h3 => YM_begins_L12 FU h3 0))
set_option maxHeartbeats 4000000 in
set_option maxRecDepth 100000 in
theorem T_YM_begins {G : sd_GX} {h : sd_H} {r : sd_H} (hf : YM_begins h = some r) : sd_RunF G M_YM_begins [.ref (G.1 + 126)] h none r := by
  refine sF_run ⟨rfl, rfl⟩ (by decide +kernel) (Nat.le_of_ble_eq_true rfl) (lo := [(0, .ref (G.1 + 126))]) rfl (fun X hE => ?_)
  unfold YM_begins at hf
  refine sd_aload_n (k := 0) (i := 0) (q := 0) (pc' := 1) (by decide +kernel) rfl rfl ?_
  refine sd_iconst (n := 0) (v := 0) (pc' := 2) (by decide +kernel) (by decide) ?_
  obtain ⟨h1, e2, hf⟩ := hb_some hf
  refine sF_pi (idx := 377) (ci := 12) (k := 34) (n := 47) (pc' := 5) (by decide +kernel) fl_X12_377 (by decide +kernel) rfl rfl rfl SH_126 ?_
  rw [← e2]; clear e2
  refine sd_aload_n (k := 0) (i := 0) (q := 0) (pc' := 6) (by decide +kernel) rfl rfl ?_
  refine sd_iconst (n := 0) (v := 0) (pc' := 7) (by decide +kernel) (by decide) ?_
  obtain ⟨h3, e4, hf⟩ := hb_some hf
  refine sF_pi (idx := 380) (ci := 12) (k := 37) (n := 47) (pc' := 10) (by decide +kernel) fl_X12_380 (by decide +kernel) rfl rfl rfl SH_126 ?_
  rw [← e4]; clear e4
  refine sd_iconst (n := 0) (v := 0) (pc' := 11) (by decide +kernel) (by decide) ?_
  refine sd_istore_n (k := 1) (i := 1) (pc' := 12) (lo' := [(1, .int 0), (0, .ref (G.1 + 126))]) (by decide +kernel) rfl (by decide) rfl ?_
  refine sd_J.sub (lo' := [(0, .ref (G.1 + 126)), (1, .int 0)]) [1, 0] rfl ?_
  exact J_YM_begins_L12 hE _ _ _ hf

theorem ml_X12_386 : Cond.methodLink RX12 386 yX12_item ∈ sd_tb := sd_mem (i := 1625) (by decide +kernel)
theorem mv_YM_item : sd_mV M_YM_item 3 := ⟨sd_mem (i := 1627) (by decide +kernel), sd_mem (i := 86) (by decide +kernel), ⟨sd_mem (i := 1628) (by decide +kernel), sd_mem (i := 119) (by decide +kernel), by decide +kernel, by decide +kernel, by decide +kernel⟩⟩
theorem fl_X12_84 : sd_fl RX12 84 12 36 := ⟨sd_mem (i := 1184) (by decide +kernel), by decide, by decide⟩
def M_YM_steps : sd_MX := (yX12_steps, cX12_steps, 5, none, { frames := 6, cells := 0, slots := 0, locals := 160 })
def YM_steps_B74 (h : sd_H) (l1 : Int32) (s0 : Int32) (s1 : Int32) : Option sd_H :=
  gd (sd_inB s1 10) (hb (wI h 152 (s1 : Int32).toNatClampNeg s0) (fun h12 => gd (sd_inB l1 10) ((if (h12.1 152 (l1 : Int32).toNatClampNeg) = (-1) then gd (sd_inB (h12.1 126 37) 10) (hb (wI h12 151 ((h12.1 126 37) : Int32).toNatClampNeg l1) (fun h17 => hb (wI h17 126 37 ((h17.1 126 37) + 1)) (fun h19 => some h19))) else some h12))))
set_option maxHeartbeats 4000000 in
set_option maxRecDepth 100000 in
theorem J_YM_steps_B74 {G : sd_GX} {X : sd_CX} (hE : ∀ g : sd_H, sd_end G X M_YM_steps (sd_F g)) {h : sd_H} {r : sd_H} {l1 : Int32} {s0 : Int32} {s1 : Int32} (hf : YM_steps_B74 h l1 s0 s1 = some r) : sd_J G X (sd_QR G X M_YM_steps (none, sd_F r)) M_YM_steps 74 [(0, .ref (G.1 + 126)), (1, .int l1)] [.int s0, .int s1, .ref (G.1 + 152)] (sd_F h) := by
  unfold YM_steps_B74 at hf
  obtain ⟨g11, hf⟩ := gd_some hf
  obtain ⟨h12, e13, hf⟩ := hb_some hf
  refine sF_iast (n := 10) (pc' := 75) (by decide +kernel) SH_152 g11 ?_
  rw [← e13]; clear e13
  refine sd_aload_n (k := 0) (i := 0) (q := 0) (pc' := 76) (by decide +kernel) rfl rfl ?_
  refine sF_gr (idx := 87) (ci := 12) (k := 40) (n := 47) (r := 152) (pc' := 79) (by decide +kernel) fl_X12_87 (by decide +kernel) rfl SH_126 (by decide) (by decide +kernel) ?_
  refine sd_iload_n (k := 1) (i := 1) (q := 1) (pc' := 80) (by decide +kernel) rfl rfl ?_
  obtain ⟨g14, hf⟩ := gd_some hf
  refine sF_iald (n := 10) (pc' := 81) (by decide +kernel) SH_152 g14 ?_
  refine sd_iconst (n := -1) (v := (-1)) (pc' := 82) (by decide +kernel) (by decide) ?_
  refine sd_icmp_ne (off := 23) (tgt := 105) (pc' := 85) (by decide +kernel) (fun c15 => ?_) (fun c15 => ?_)
  · replace hf := ite_n c15 hf
    obtain rfl := Option.some.inj hf
    exact sd_vret (by decide +kernel) rfl (hE _)
  · replace hf := ite_p c15 hf
    refine sd_aload_n (k := 0) (i := 0) (q := 0) (pc' := 86) (by decide +kernel) rfl rfl ?_
    refine sF_gr (idx := 84) (ci := 12) (k := 36) (n := 47) (r := 151) (pc' := 89) (by decide +kernel) fl_X12_84 (by decide +kernel) rfl SH_126 (by decide) (by decide +kernel) ?_
    refine sd_aload_n (k := 0) (i := 0) (q := 0) (pc' := 90) (by decide +kernel) rfl rfl ?_
    refine sF_gi (idx := 380) (ci := 12) (k := 37) (n := 47) (pc' := 93) (by decide +kernel) fl_X12_380 (by decide +kernel) rfl SH_126 ?_
    refine sd_iload_n (k := 1) (i := 1) (q := 1) (pc' := 94) (by decide +kernel) rfl rfl ?_
    obtain ⟨g16, hf⟩ := gd_some hf
    obtain ⟨h17, e18, hf⟩ := hb_some hf
    refine sF_iast (n := 10) (pc' := 95) (by decide +kernel) SH_151 g16 ?_
    rw [← e18]; clear e18
    refine sd_aload_n (k := 0) (i := 0) (q := 0) (pc' := 96) (by decide +kernel) rfl rfl ?_
    refine sd_dup (pc' := 97) (by decide +kernel) rfl ?_
    refine sF_gi (idx := 380) (ci := 12) (k := 37) (n := 47) (pc' := 100) (by decide +kernel) fl_X12_380 (by decide +kernel) rfl SH_126 ?_
    refine sd_iconst (n := 1) (v := 1) (pc' := 101) (by decide +kernel) (by decide) ?_
    refine sd_iadd (pc' := 102) (by decide +kernel) ?_
    obtain ⟨h19, e20, hf⟩ := hb_some hf
    refine sF_pi (idx := 380) (ci := 12) (k := 37) (n := 47) (pc' := 105) (by decide +kernel) fl_X12_380 (by decide +kernel) rfl rfl rfl SH_126 ?_
    rw [← e20]; clear e20
    obtain rfl := Option.some.inj hf
    exact sd_vret (by decide +kernel) rfl (hE _)
def YM_steps (h : sd_H) (a0 : Int32) : Option sd_H :=
  gd (sd_inB a0 10) (gd (sd_inB a0 10) (b2 (YM_item h ((h.1 152 (a0 : Int32).toNatClampNeg) / 10) a0 ((h.1 152 (a0 : Int32).toNatClampNeg) - (h.1 152 (a0 : Int32).toNatClampNeg) / 10 * 10)) (fun h4 t5 => (if t5 = 0 then YM_steps_B74 h4 a0 (-1) a0 else gd (sd_inB ((h.1 152 (a0 : Int32).toNatClampNeg) / 10) 5) ((if (h4.1 133 (((h.1 152 (a0 : Int32).toNatClampNeg) / 10) : Int32).toNatClampNeg) ≤ (((h.1 152 (a0 : Int32).toNatClampNeg) - (h.1 152 (a0 : Int32).toNatClampNeg) / 10 * 10) + 1) then b1 (YM_firstFrom h4 (((h.1 152 (a0 : Int32).toNatClampNeg) / 10) + 1) a0) (fun t10 => YM_steps_B74 h4 a0 t10 a0) else gd (sd_inB a0 10) (YM_steps_B74 h4 a0 ((h4.1 152 (a0 : Int32).toNatClampNeg) + 1) a0)))))))
set_option maxHeartbeats 4000000 in
set_option maxRecDepth 100000 in
theorem T_YM_steps {G : sd_GX} {h : sd_H} {a0 : Int32} {r : sd_H} (hf : YM_steps h a0 = some r) : sd_RunF G M_YM_steps [.ref (G.1 + 126), .int a0] h none r := by
  refine sF_run ⟨rfl, rfl⟩ (by decide +kernel) (Nat.le_of_ble_eq_true rfl) (lo := [(0, .ref (G.1 + 126)), (1, .int a0)]) rfl (fun X hE => ?_)
  unfold YM_steps at hf
  refine sd_aload_n (k := 0) (i := 0) (q := 0) (pc' := 1) (by decide +kernel) rfl rfl ?_
  refine sF_gr (idx := 87) (ci := 12) (k := 40) (n := 47) (r := 152) (pc' := 4) (by decide +kernel) fl_X12_87 (by decide +kernel) rfl SH_126 (by decide) (by decide +kernel) ?_
  refine sd_iload_n (k := 1) (i := 1) (q := 1) (pc' := 5) (by decide +kernel) rfl rfl ?_
  obtain ⟨g1, hf⟩ := gd_some hf
  refine sF_iald (n := 10) (pc' := 6) (by decide +kernel) SH_152 g1 ?_
  refine sd_bipush (n := 10) (v := 10) (pc' := 8) (by decide +kernel) (by decide) ?_
  refine sd_idiv (pc' := 9) (by decide +kernel) (by decide) ?_
  refine sd_istore_n (k := 2) (i := 2) (pc' := 10) (lo' := [(2, .int ((h.1 152 (a0 : Int32).toNatClampNeg) / 10)), (0, .ref (G.1 + 126)), (1, .int a0)]) (by decide +kernel) rfl (by decide) rfl ?_
  refine sd_aload_n (k := 0) (i := 0) (q := 1) (pc' := 11) (by decide +kernel) rfl rfl ?_
  refine sF_gr (idx := 87) (ci := 12) (k := 40) (n := 47) (r := 152) (pc' := 14) (by decide +kernel) fl_X12_87 (by decide +kernel) rfl SH_126 (by decide) (by decide +kernel) ?_
  refine sd_iload_n (k := 1) (i := 1) (q := 2) (pc' := 15) (by decide +kernel) rfl rfl ?_
  obtain ⟨g2, hf⟩ := gd_some hf
  refine sF_iald (n := 10) (pc' := 16) (by decide +kernel) SH_152 g2 ?_
  refine sd_bipush (n := 10) (v := 10) (pc' := 18) (by decide +kernel) (by decide) ?_
  refine sd_irem (pc' := 19) (by decide +kernel) (by decide) ?_
  refine sd_istore_n (k := 3) (i := 3) (pc' := 20) (lo' := [(3, .int ((h.1 152 (a0 : Int32).toNatClampNeg) - (h.1 152 (a0 : Int32).toNatClampNeg) / 10 * 10)), (2, .int ((h.1 152 (a0 : Int32).toNatClampNeg) / 10)), (0, .ref (G.1 + 126)), (1, .int a0)]) (by decide +kernel) rfl (by decide) rfl ?_
  refine sd_aload_n (k := 0) (i := 0) (q := 2) (pc' := 21) (by decide +kernel) rfl rfl ?_
  refine sd_iload_n (k := 2) (i := 2) (q := 1) (pc' := 22) (by decide +kernel) rfl rfl ?_
  refine sd_iload_n (k := 1) (i := 1) (q := 3) (pc' := 23) (by decide +kernel) rfl rfl ?_
  refine sd_iload_n (k := 3) (i := 3) (q := 0) (pc' := 24) (by decide +kernel) rfl rfl ?_
  obtain ⟨h4, t5, q3, hf⟩ := b2_some hf
  refine sF_callV (idx := 386) (b := 126) (As := [.int ((h.1 152 (a0 : Int32).toNatClampNeg) / 10), .int a0, .int ((h.1 152 (a0 : Int32).toNatClampNeg) - (h.1 152 (a0 : Int32).toNatClampNeg) / 10 * 10)]) (ci := 12) (nn := 47) (pc' := 27) 3 (T_YM_item (G := G) (h := h)  q3) (by decide +kernel) mv_YM_item ml_X12_386 (by decide +kernel) rfl rfl (Nat.le_of_ble_eq_true rfl) SH_126 rfl (by decide) rfl rfl ?_
  refine sd_istore (i := 4) (pc' := 29) (lo' := [(4, .int t5), (3, .int ((h.1 152 (a0 : Int32).toNatClampNeg) - (h.1 152 (a0 : Int32).toNatClampNeg) / 10 * 10)), (2, .int ((h.1 152 (a0 : Int32).toNatClampNeg) / 10)), (0, .ref (G.1 + 126)), (1, .int a0)]) (by decide +kernel) (by decide) rfl ?_
  refine sd_aload_n (k := 0) (i := 0) (q := 3) (pc' := 30) (by decide +kernel) rfl rfl ?_
  refine sF_gr (idx := 87) (ci := 12) (k := 40) (n := 47) (r := 152) (pc' := 33) (by decide +kernel) fl_X12_87 (by decide +kernel) rfl SH_126 (by decide) (by decide +kernel) ?_
  refine sd_iload_n (k := 1) (i := 1) (q := 4) (pc' := 34) (by decide +kernel) rfl rfl ?_
  refine sd_iload (i := 4) (q := 0) (pc' := 36) (by decide +kernel) rfl ?_
  refine sd_if_ne (off := 7) (tgt := 43) (pc' := 39) (by decide +kernel) (fun c6 => ?_) (fun c6 => ?_)
  · replace hf := ite_n c6 hf
    refine sd_iload_n (k := 3) (i := 3) (q := 1) (pc' := 44) (by decide +kernel) rfl rfl ?_
    refine sd_iconst (n := 1) (v := 1) (pc' := 45) (by decide +kernel) (by decide) ?_
    refine sd_iadd (pc' := 46) (by decide +kernel) ?_
    refine sd_aload_n (k := 0) (i := 0) (q := 3) (pc' := 47) (by decide +kernel) rfl rfl ?_
    refine sF_gr (idx := 29) (ci := 12) (k := 9) (n := 47) (r := 133) (pc' := 50) (by decide +kernel) fl_X12_29 (by decide +kernel) rfl SH_126 (by decide) (by decide +kernel) ?_
    refine sd_iload_n (k := 2) (i := 2) (q := 2) (pc' := 51) (by decide +kernel) rfl rfl ?_
    obtain ⟨g7, hf⟩ := gd_some hf
    refine sF_iald (n := 5) (pc' := 52) (by decide +kernel) SH_133 g7 ?_
    refine sd_icmp_ge (off := 14) (tgt := 66) (pc' := 55) (by decide +kernel) (fun c8 => ?_) (fun c8 => ?_)
    · replace hf := ite_p c8 hf
      refine sd_aload_n (k := 0) (i := 0) (q := 3) (pc' := 67) (by decide +kernel) rfl rfl ?_
      refine sd_iload_n (k := 2) (i := 2) (q := 2) (pc' := 68) (by decide +kernel) rfl rfl ?_
      refine sd_iconst (n := 1) (v := 1) (pc' := 69) (by decide +kernel) (by decide) ?_
      refine sd_iadd (pc' := 70) (by decide +kernel) ?_
      refine sd_iload_n (k := 1) (i := 1) (q := 4) (pc' := 71) (by decide +kernel) rfl rfl ?_
      obtain ⟨t10, q9, hf⟩ := b1_some hf
      refine sF_callV (idx := 383) (b := 126) (As := [.int (((h.1 152 (a0 : Int32).toNatClampNeg) / 10) + 1), .int a0]) (ci := 12) (nn := 47) (pc' := 74) 2 (T_YM_firstFrom (G := G) (h := h4)  q9) (by decide +kernel) mv_YM_firstFrom ml_X12_383 (by decide +kernel) rfl rfl (Nat.le_of_ble_eq_true rfl) SH_126 rfl (by decide) rfl rfl ?_
      refine sd_J.sub (lo' := [(0, .ref (G.1 + 126)), (1, .int a0)]) [3, 4] rfl ?_
      exact J_YM_steps_B74 hE hf
    · replace hf := ite_n c8 hf
      refine sd_aload_n (k := 0) (i := 0) (q := 3) (pc' := 56) (by decide +kernel) rfl rfl ?_
      refine sF_gr (idx := 87) (ci := 12) (k := 40) (n := 47) (r := 152) (pc' := 59) (by decide +kernel) fl_X12_87 (by decide +kernel) rfl SH_126 (by decide) (by decide +kernel) ?_
      refine sd_iload_n (k := 1) (i := 1) (q := 4) (pc' := 60) (by decide +kernel) rfl rfl ?_
      obtain ⟨g21, hf⟩ := gd_some hf
      refine sF_iald (n := 10) (pc' := 61) (by decide +kernel) SH_152 g21 ?_
      refine sd_iconst (n := 1) (v := 1) (pc' := 62) (by decide +kernel) (by decide) ?_
      refine sd_iadd (pc' := 63) (by decide +kernel) ?_
      refine sd_goto (off := 11) (tgt := 74) (pc' := 66) (by decide +kernel) ?_
      refine sd_J.sub (lo' := [(0, .ref (G.1 + 126)), (1, .int a0)]) [3, 4] rfl ?_
      exact J_YM_steps_B74 hE hf
  · replace hf := ite_p c6 hf
    refine sd_iconst (n := -1) (v := (-1)) (pc' := 40) (by decide +kernel) (by decide) ?_
    refine sd_goto (off := 34) (tgt := 74) (pc' := 43) (by decide +kernel) ?_
    refine sd_J.sub (lo' := [(0, .ref (G.1 + 126)), (1, .int a0)]) [3, 4] rfl ?_
    exact J_YM_steps_B74 hE hf

theorem ml_X12_389 : Cond.methodLink RX12 389 yX12_begins ∈ sd_tb := sd_mem (i := 1613) (by decide +kernel)
theorem mv_YM_begins : sd_mV M_YM_begins 0 := ⟨sd_mem (i := 1615) (by decide +kernel), sd_mem (i := 83) (by decide +kernel), ⟨sd_mem (i := 1616) (by decide +kernel), sd_mem (i := 119) (by decide +kernel), by decide +kernel, by decide +kernel, by decide +kernel⟩⟩
theorem ml_X12_392 : Cond.methodLink RX12 392 yX12_steps ∈ sd_tb := sd_mem (i := 1621) (by decide +kernel)
theorem mv_YM_steps : sd_mV M_YM_steps 1 := ⟨sd_mem (i := 1623) (by decide +kernel), sd_mem (i := 85) (by decide +kernel), ⟨sd_mem (i := 1624) (by decide +kernel), sd_mem (i := 119) (by decide +kernel), by decide +kernel, by decide +kernel, by decide +kernel⟩⟩
def M_YM_runNow : sd_MX := (yX12_runNow, cX12_runNow, 2, (some .int), { frames := 7, cells := 0, slots := 0, locals := 184 })
def YM_runNow_L19 (K11 : sd_H → Int32 → Option (sd_H × Int32)) : Nat → sd_H → Int32 → Option (sd_H × Int32)
  | 0, _, _ => none
  | n + 1, h, l1 =>
  gd (sd_inB l1 10) ((if (h.1 152 (l1 : Int32).toNatClampNeg) = (-1) then K11 h (l1 + 1) else b1 (YM_steps h l1) (fun h9 => YM_runNow_L19 K11 n h9 l1)))
set_option maxHeartbeats 4000000 in
set_option maxRecDepth 100000 in
theorem J_YM_runNow_L19 {G : sd_GX} {X : sd_CX} (hE : ∀ g : sd_H, sd_end G X M_YM_runNow (sd_F g))  {K11 : sd_H → Int32 → Option (sd_H × Int32)} {r : (sd_H × Int32)} (hK11 : ∀ (g : sd_H) (l1 : Int32), K11 g l1 = some r → sd_J G X (sd_QR G X M_YM_runNow (some (.int r.2), sd_F r.1)) M_YM_runNow 11 [(0, .ref (G.1 + 126)), (1, .int l1)] [] (sd_F g)) : ∀ (n : Nat) (h : sd_H) (l1 : Int32), YM_runNow_L19 K11 n h l1 = some r → sd_J G X (sd_QR G X M_YM_runNow (some (.int r.2), sd_F r.1)) M_YM_runNow 19 [(0, .ref (G.1 + 126)), (1, .int l1)] [] (sd_F h) := by
  intro n
  induction n with
  | zero =>
    intro h l1 hf
    rw [YM_runNow_L19] at hf
    cases hf
  | succ n ih =>
    intro h l1 hf
    rw [YM_runNow_L19] at hf
    refine sd_aload_n (k := 0) (i := 0) (q := 0) (pc' := 20) (by decide +kernel) rfl rfl ?_
    refine sF_gr (idx := 87) (ci := 12) (k := 40) (n := 47) (r := 152) (pc' := 23) (by decide +kernel) fl_X12_87 (by decide +kernel) rfl SH_126 (by decide) (by decide +kernel) ?_
    refine sd_iload_n (k := 1) (i := 1) (q := 1) (pc' := 24) (by decide +kernel) rfl rfl ?_
    obtain ⟨g6, hf⟩ := gd_some hf
    refine sF_iald (n := 10) (pc' := 25) (by decide +kernel) SH_152 g6 ?_
    refine sd_iconst (n := -1) (v := (-1)) (pc' := 26) (by decide +kernel) (by decide) ?_
    refine sd_icmp_eq (off := 11) (tgt := 37) (pc' := 29) (by decide +kernel) (fun c7 => ?_) (fun c7 => ?_)
    · replace hf := ite_p c7 hf
      refine sd_iinc (i := 1) (q := 1) (n := 1) (v := (l1 + 1)) (pc' := 40) (lo' := [(1, .int (l1 + 1)), (0, .ref (G.1 + 126))]) (by decide +kernel) rfl rfl (by decide) rfl ?_
      refine sd_goto (off := -29) (tgt := 11) (pc' := 43) (by decide +kernel) ?_
      refine sd_J.sub (lo' := [(0, .ref (G.1 + 126)), (1, .int (l1 + 1))]) [1, 0] rfl ?_
      exact hK11 _ _ hf
    · replace hf := ite_n c7 hf
      refine sd_aload_n (k := 0) (i := 0) (q := 0) (pc' := 30) (by decide +kernel) rfl rfl ?_
      refine sd_iload_n (k := 1) (i := 1) (q := 1) (pc' := 31) (by decide +kernel) rfl rfl ?_
      obtain ⟨h9, q8, hf⟩ := b1_some hf
      refine sF_callV0 (idx := 392) (b := 126) (As := [.int l1]) (ci := 12) (nn := 47) (pc' := 34) 1 (T_YM_steps (G := G) (h := h)  q8) (by decide +kernel) mv_YM_steps ml_X12_392 (by decide +kernel) rfl rfl (Nat.le_of_ble_eq_true rfl) SH_126 rfl (by decide) rfl rfl ?_
      refine sd_goto (off := -15) (tgt := 19) (pc' := 37) (by decide +kernel) ?_
      refine sd_J.sub (lo' := [(0, .ref (G.1 + 126)), (1, .int l1)]) [0, 1] rfl ?_
      exact ih _ _ hf
def YM_runNow_L11 : Nat → sd_H → Int32 → Option (sd_H × Int32)
  | 0, _, _ => none
  | n + 1, h, l1 =>
  (if (h.1 126 6) ≤ l1 then some (h, (h.1 126 34)) else YM_runNow_L19 (YM_runNow_L11 n) FU h l1)
set_option maxHeartbeats 4000000 in
set_option maxRecDepth 100000 in
theorem J_YM_runNow_L11 {G : sd_GX} {X : sd_CX} (hE : ∀ g : sd_H, sd_end G X M_YM_runNow (sd_F g))  {r : (sd_H × Int32)} : ∀ (n : Nat) (h : sd_H) (l1 : Int32), YM_runNow_L11 n h l1 = some r → sd_J G X (sd_QR G X M_YM_runNow (some (.int r.2), sd_F r.1)) M_YM_runNow 11 [(0, .ref (G.1 + 126)), (1, .int l1)] [] (sd_F h) := by
  intro n
  induction n with
  | zero =>
    intro h l1 hf
    rw [YM_runNow_L11] at hf
    cases hf
  | succ n ih =>
    intro h l1 hf
    rw [YM_runNow_L11] at hf
    refine sd_iload_n (k := 1) (i := 1) (q := 1) (pc' := 12) (by decide +kernel) rfl rfl ?_
    refine sd_aload_n (k := 0) (i := 0) (q := 0) (pc' := 13) (by decide +kernel) rfl rfl ?_
    refine sF_gi (idx := 154) (ci := 12) (k := 6) (n := 47) (pc' := 16) (by decide +kernel) fl_X12_154 (by decide +kernel) rfl SH_126 ?_
    refine sd_icmp_ge (off := 27) (tgt := 43) (pc' := 19) (by decide +kernel) (fun c5 => ?_) (fun c5 => ?_)
    · replace hf := ite_p c5 hf
      refine sd_aload_n (k := 0) (i := 0) (q := 0) (pc' := 44) (by decide +kernel) rfl rfl ?_
      refine sF_gi (idx := 377) (ci := 12) (k := 34) (n := 47) (pc' := 47) (by decide +kernel) fl_X12_377 (by decide +kernel) rfl SH_126 ?_
      obtain rfl := Option.some.inj hf
      exact sd_iret (by decide +kernel) rfl (hE _)
    · replace hf := ite_n c5 hf
      refine sd_J.sub (lo' := [(0, .ref (G.1 + 126)), (1, .int l1)]) [0, 1] rfl ?_
      exact J_YM_runNow_L19 hE ih _ _ _ hf
def YM_runNow (h : sd_H) : Option (sd_H × Int32) :=
  hb (wI h 126 33 0) (fun h1 => b1 (YM_begins h1) (fun h4 => YM_runNow_L11 FU h4 0))
set_option maxHeartbeats 4000000 in
set_option maxRecDepth 100000 in
theorem T_YM_runNow {G : sd_GX} {h : sd_H} {r : (sd_H × Int32)} (hf : YM_runNow h = some r) : sd_RunF G M_YM_runNow [.ref (G.1 + 126)] h (some (.int r.2)) r.1 := by
  refine sF_run ⟨rfl, rfl⟩ (by decide +kernel) (Nat.le_of_ble_eq_true rfl) (lo := [(0, .ref (G.1 + 126))]) rfl (fun X hE => ?_)
  unfold YM_runNow at hf
  refine sd_aload_n (k := 0) (i := 0) (q := 0) (pc' := 1) (by decide +kernel) rfl rfl ?_
  refine sd_iconst (n := 0) (v := 0) (pc' := 2) (by decide +kernel) (by decide) ?_
  obtain ⟨h1, e2, hf⟩ := hb_some hf
  refine sF_pz (idx := 359) (ci := 12) (k := 33) (n := 47) (pc' := 5) (by decide +kernel) fl_X12_359 (by decide +kernel) rfl rfl rfl SH_126 (by decide) ?_
  rw [← e2]; clear e2
  refine sd_aload_n (k := 0) (i := 0) (q := 0) (pc' := 6) (by decide +kernel) rfl rfl ?_
  obtain ⟨h4, q3, hf⟩ := b1_some hf
  refine sF_callV0 (idx := 389) (b := 126) (As := []) (ci := 12) (nn := 47) (pc' := 9) 0 (T_YM_begins (G := G) (h := h1)  q3) (by decide +kernel) mv_YM_begins ml_X12_389 (by decide +kernel) rfl rfl (Nat.le_of_ble_eq_true rfl) SH_126 rfl (by decide) rfl rfl ?_
  refine sd_iconst (n := 0) (v := 0) (pc' := 10) (by decide +kernel) (by decide) ?_
  refine sd_istore_n (k := 1) (i := 1) (pc' := 11) (lo' := [(1, .int 0), (0, .ref (G.1 + 126))]) (by decide +kernel) rfl (by decide) rfl ?_
  refine sd_J.sub (lo' := [(0, .ref (G.1 + 126)), (1, .int 0)]) [1, 0] rfl ?_
  exact J_YM_runNow_L11 hE _ _ _ hf

theorem ml_X12_394 : Cond.methodLink RX12 394 yX12_runNow ∈ sd_tb := sd_mem (i := 1609) (by decide +kernel)
theorem mv_YM_runNow : sd_mV M_YM_runNow 0 := ⟨sd_mem (i := 1611) (by decide +kernel), sd_mem (i := 82) (by decide +kernel), ⟨sd_mem (i := 1612) (by decide +kernel), sd_mem (i := 119) (by decide +kernel), by decide +kernel, by decide +kernel, by decide +kernel⟩⟩
def M_YM_run : sd_MX := (yX12_run, cX12_run, 1, (some .int), { frames := 8, cells := 0, slots := 0, locals := 205 })
def YM_run (h : sd_H) : Option (sd_H × Int32) :=
  b2 (YM_runNow h) (fun h2 t3 => some (h2, t3))
set_option maxHeartbeats 4000000 in
set_option maxRecDepth 100000 in
theorem T_YM_run {G : sd_GX} {h : sd_H} {r : (sd_H × Int32)} (hf : YM_run h = some r) : sd_RunF G M_YM_run [.ref (G.1 + 126)] h (some (.int r.2)) r.1 := by
  refine sF_run ⟨rfl, rfl⟩ (by decide +kernel) (Nat.le_of_ble_eq_true rfl) (lo := [(0, .ref (G.1 + 126))]) rfl (fun X hE => ?_)
  unfold YM_run at hf
  refine sd_aload_n (k := 0) (i := 0) (q := 0) (pc' := 1) (by decide +kernel) rfl rfl ?_
  obtain ⟨h2, t3, q1, hf⟩ := b2_some hf
  refine sF_callV (idx := 394) (b := 126) (As := []) (ci := 12) (nn := 47) (pc' := 4) 0 (T_YM_runNow (G := G) (h := h)  q1) (by decide +kernel) mv_YM_runNow ml_X12_394 (by decide +kernel) rfl rfl (Nat.le_of_ble_eq_true rfl) SH_126 rfl (by decide) rfl rfl ?_
  obtain rfl := Option.some.inj hf
  exact sd_iret (by decide +kernel) rfl (hE _)

def M_YM_turnOf : sd_MX := (yX12_turnOf, cX12_turnOf, 9, (some .int), { frames := 1, cells := 0, slots := 0, locals := 40 })
def YM_turnOf_B108 (h : sd_H) (K18 : Int32 → Int32 → Int32 → Int32 → Int32 → Int32 → Option Int32) (l1 : Int32) (l2 : Int32) (l3 : Int32) (l4 : Int32) (l6 : Int32) (s0 : Int32) : Option Int32 :=
  K18 l1 l2 l3 l4 s0 (l6 + 1)
set_option maxHeartbeats 4000000 in
set_option maxRecDepth 100000 in
theorem J_YM_turnOf_B108 {G : sd_GX} {X : sd_CX} (hE : ∀ g : sd_H, sd_end G X M_YM_turnOf (sd_F g)) {h : sd_H} {K18 : Int32 → Int32 → Int32 → Int32 → Int32 → Int32 → Option Int32} {r : Int32} (hK18 : ∀ (l1 : Int32) (l2 : Int32) (l3 : Int32) (l4 : Int32) (l5 : Int32) (l6 : Int32), K18 l1 l2 l3 l4 l5 l6 = some r → sd_J G X (sd_QR G X M_YM_turnOf (some (.int r), sd_F h)) M_YM_turnOf 18 [(0, .ref (G.1 + 126)), (1, .int l1), (2, .int l2), (3, .int l3), (4, .int l4), (5, .int l5), (6, .int l6)] [] (sd_F h)) {l1 : Int32} {l2 : Int32} {l3 : Int32} {l4 : Int32} {l6 : Int32} {s0 : Int32} (hf : YM_turnOf_B108 h K18 l1 l2 l3 l4 l6 s0 = some r) : sd_J G X (sd_QR G X M_YM_turnOf (some (.int r), sd_F h)) M_YM_turnOf 108 [(0, .ref (G.1 + 126)), (1, .int l1), (2, .int l2), (3, .int l3), (4, .int l4), (6, .int l6)] [.int s0] (sd_F h) := by
  unfold YM_turnOf_B108 at hf
  refine sd_istore (i := 5) (pc' := 110) (lo' := [(5, .int s0), (0, .ref (G.1 + 126)), (1, .int l1), (2, .int l2), (3, .int l3), (4, .int l4), (6, .int l6)]) (by decide +kernel) (by decide) rfl ?_
  refine sd_iinc (i := 6) (q := 6) (n := 1) (v := (l6 + 1)) (pc' := 113) (lo' := [(6, .int (l6 + 1)), (5, .int s0), (0, .ref (G.1 + 126)), (1, .int l1), (2, .int l2), (3, .int l3), (4, .int l4)]) (by decide +kernel) rfl rfl (by decide) rfl ?_
  refine sd_goto (off := -95) (tgt := 18) (pc' := 116) (by decide +kernel) ?_
  refine sd_J.sub (lo' := [(0, .ref (G.1 + 126)), (1, .int l1), (2, .int l2), (3, .int l3), (4, .int l4), (5, .int s0), (6, .int (l6 + 1))]) [2, 3, 4, 5, 6, 1, 0] rfl ?_
  exact hK18 _ _ _ _ _ _ hf
def YM_turnOf_B106 (h : sd_H) (K18 : Int32 → Int32 → Int32 → Int32 → Int32 → Int32 → Option Int32) (l1 : Int32) (l2 : Int32) (l3 : Int32) (l4 : Int32) (l5 : Int32) (l6 : Int32) : Option Int32 :=
  YM_turnOf_B108 h K18 l1 l2 l3 l4 l6 l5
set_option maxHeartbeats 4000000 in
set_option maxRecDepth 100000 in
theorem J_YM_turnOf_B106 {G : sd_GX} {X : sd_CX} (hE : ∀ g : sd_H, sd_end G X M_YM_turnOf (sd_F g)) {h : sd_H} {K18 : Int32 → Int32 → Int32 → Int32 → Int32 → Int32 → Option Int32} {r : Int32} (hK18 : ∀ (l1 : Int32) (l2 : Int32) (l3 : Int32) (l4 : Int32) (l5 : Int32) (l6 : Int32), K18 l1 l2 l3 l4 l5 l6 = some r → sd_J G X (sd_QR G X M_YM_turnOf (some (.int r), sd_F h)) M_YM_turnOf 18 [(0, .ref (G.1 + 126)), (1, .int l1), (2, .int l2), (3, .int l3), (4, .int l4), (5, .int l5), (6, .int l6)] [] (sd_F h)) {l1 : Int32} {l2 : Int32} {l3 : Int32} {l4 : Int32} {l5 : Int32} {l6 : Int32} (hf : YM_turnOf_B106 h K18 l1 l2 l3 l4 l5 l6 = some r) : sd_J G X (sd_QR G X M_YM_turnOf (some (.int r), sd_F h)) M_YM_turnOf 106 [(0, .ref (G.1 + 126)), (1, .int l1), (2, .int l2), (3, .int l3), (4, .int l4), (5, .int l5), (6, .int l6)] [] (sd_F h) := by
  unfold YM_turnOf_B106 at hf
  refine sd_iload (i := 5) (q := 5) (pc' := 108) (by decide +kernel) rfl ?_
  refine sd_J.sub (lo' := [(0, .ref (G.1 + 126)), (1, .int l1), (2, .int l2), (3, .int l3), (4, .int l4), (6, .int l6)]) [0, 1, 2, 3, 4, 6] rfl ?_
  exact J_YM_turnOf_B108 hE hK18 hf
def YM_turnOf_B83 (h : sd_H) (K18 : Int32 → Int32 → Int32 → Int32 → Int32 → Int32 → Option Int32) (l1 : Int32) (l2 : Int32) (l3 : Int32) (l4 : Int32) (l5 : Int32) (l6 : Int32) (l7 : Int32) (s0 : Int32) : Option Int32 :=
  (if s0 = 0 then YM_turnOf_B106 h K18 l1 l2 l3 l4 l5 l6 else gd (sd_inB l7 10) ((if (h.1 152 (l7 : Int32).toNatClampNeg) = (-1) then YM_turnOf_B106 h K18 l1 l2 l3 l4 l5 l6 else YM_turnOf_B108 h K18 l1 l2 l3 l4 l6 l7)))
set_option maxHeartbeats 4000000 in
set_option maxRecDepth 100000 in
theorem J_YM_turnOf_B83 {G : sd_GX} {X : sd_CX} (hE : ∀ g : sd_H, sd_end G X M_YM_turnOf (sd_F g)) {h : sd_H} {K18 : Int32 → Int32 → Int32 → Int32 → Int32 → Int32 → Option Int32} {r : Int32} (hK18 : ∀ (l1 : Int32) (l2 : Int32) (l3 : Int32) (l4 : Int32) (l5 : Int32) (l6 : Int32), K18 l1 l2 l3 l4 l5 l6 = some r → sd_J G X (sd_QR G X M_YM_turnOf (some (.int r), sd_F h)) M_YM_turnOf 18 [(0, .ref (G.1 + 126)), (1, .int l1), (2, .int l2), (3, .int l3), (4, .int l4), (5, .int l5), (6, .int l6)] [] (sd_F h)) {l1 : Int32} {l2 : Int32} {l3 : Int32} {l4 : Int32} {l5 : Int32} {l6 : Int32} {l7 : Int32} {s0 : Int32} (hf : YM_turnOf_B83 h K18 l1 l2 l3 l4 l5 l6 l7 s0 = some r) : sd_J G X (sd_QR G X M_YM_turnOf (some (.int r), sd_F h)) M_YM_turnOf 83 [(0, .ref (G.1 + 126)), (1, .int l1), (2, .int l2), (3, .int l3), (4, .int l4), (5, .int l5), (6, .int l6), (7, .int l7)] [.int s0] (sd_F h) := by
  unfold YM_turnOf_B83 at hf
  refine sd_istore (i := 8) (pc' := 85) (lo' := [(8, .int s0), (0, .ref (G.1 + 126)), (1, .int l1), (2, .int l2), (3, .int l3), (4, .int l4), (5, .int l5), (6, .int l6), (7, .int l7)]) (by decide +kernel) (by decide) rfl ?_
  refine sd_iload (i := 8) (q := 0) (pc' := 87) (by decide +kernel) rfl ?_
  refine sd_if_eq (off := 19) (tgt := 106) (pc' := 90) (by decide +kernel) (fun c7 => ?_) (fun c7 => ?_)
  · replace hf := ite_p c7 hf
    refine sd_J.sub (lo' := [(0, .ref (G.1 + 126)), (1, .int l1), (2, .int l2), (3, .int l3), (4, .int l4), (5, .int l5), (6, .int l6)]) [1, 2, 3, 4, 5, 6, 7] rfl ?_
    exact J_YM_turnOf_B106 hE hK18 hf
  · replace hf := ite_n c7 hf
    refine sd_aload_n (k := 0) (i := 0) (q := 1) (pc' := 91) (by decide +kernel) rfl rfl ?_
    refine sF_gr (idx := 87) (ci := 12) (k := 40) (n := 47) (r := 152) (pc' := 94) (by decide +kernel) fl_X12_87 (by decide +kernel) rfl SH_126 (by decide) (by decide +kernel) ?_
    refine sd_iload (i := 7) (q := 8) (pc' := 96) (by decide +kernel) rfl ?_
    obtain ⟨g8, hf⟩ := gd_some hf
    refine sF_iald (n := 10) (pc' := 97) (by decide +kernel) SH_152 g8 ?_
    refine sd_iconst (n := -1) (v := (-1)) (pc' := 98) (by decide +kernel) (by decide) ?_
    refine sd_icmp_eq (off := 8) (tgt := 106) (pc' := 101) (by decide +kernel) (fun c9 => ?_) (fun c9 => ?_)
    · replace hf := ite_p c9 hf
      refine sd_J.sub (lo' := [(0, .ref (G.1 + 126)), (1, .int l1), (2, .int l2), (3, .int l3), (4, .int l4), (5, .int l5), (6, .int l6)]) [1, 2, 3, 4, 5, 6, 7] rfl ?_
      exact J_YM_turnOf_B106 hE hK18 hf
    · replace hf := ite_n c9 hf
      refine sd_iload (i := 7) (q := 8) (pc' := 103) (by decide +kernel) rfl ?_
      refine sd_goto (off := 5) (tgt := 108) (pc' := 106) (by decide +kernel) ?_
      refine sd_J.sub (lo' := [(0, .ref (G.1 + 126)), (1, .int l1), (2, .int l2), (3, .int l3), (4, .int l4), (6, .int l6)]) [1, 2, 3, 4, 5, 7] rfl ?_
      exact J_YM_turnOf_B108 hE hK18 hf
def YM_turnOf_B46 (h : sd_H) (K18 : Int32 → Int32 → Int32 → Int32 → Int32 → Int32 → Option Int32) (l1 : Int32) (l2 : Int32) (l3 : Int32) (l4 : Int32) (l5 : Int32) (l6 : Int32) (s0 : Int32) : Option Int32 :=
  (if l3 = 1 then gd (nz l4) ((if (s0 / l4) = l1 then YM_turnOf_B83 h K18 l1 l2 l3 l4 l5 l6 s0 1 else YM_turnOf_B83 h K18 l1 l2 l3 l4 l5 l6 s0 0)) else gd (nz l2) ((if (s0 - s0 / l2 * l2) = l1 then YM_turnOf_B83 h K18 l1 l2 l3 l4 l5 l6 s0 1 else YM_turnOf_B83 h K18 l1 l2 l3 l4 l5 l6 s0 0)))
set_option maxHeartbeats 4000000 in
set_option maxRecDepth 100000 in
theorem J_YM_turnOf_B46 {G : sd_GX} {X : sd_CX} (hE : ∀ g : sd_H, sd_end G X M_YM_turnOf (sd_F g)) {h : sd_H} {K18 : Int32 → Int32 → Int32 → Int32 → Int32 → Int32 → Option Int32} {r : Int32} (hK18 : ∀ (l1 : Int32) (l2 : Int32) (l3 : Int32) (l4 : Int32) (l5 : Int32) (l6 : Int32), K18 l1 l2 l3 l4 l5 l6 = some r → sd_J G X (sd_QR G X M_YM_turnOf (some (.int r), sd_F h)) M_YM_turnOf 18 [(0, .ref (G.1 + 126)), (1, .int l1), (2, .int l2), (3, .int l3), (4, .int l4), (5, .int l5), (6, .int l6)] [] (sd_F h)) {l1 : Int32} {l2 : Int32} {l3 : Int32} {l4 : Int32} {l5 : Int32} {l6 : Int32} {s0 : Int32} (hf : YM_turnOf_B46 h K18 l1 l2 l3 l4 l5 l6 s0 = some r) : sd_J G X (sd_QR G X M_YM_turnOf (some (.int r), sd_F h)) M_YM_turnOf 46 [(0, .ref (G.1 + 126)), (1, .int l1), (2, .int l2), (3, .int l3), (4, .int l4), (5, .int l5), (6, .int l6)] [.int s0] (sd_F h) := by
  unfold YM_turnOf_B46 at hf
  refine sd_istore (i := 7) (pc' := 48) (lo' := [(7, .int s0), (0, .ref (G.1 + 126)), (1, .int l1), (2, .int l2), (3, .int l3), (4, .int l4), (5, .int l5), (6, .int l6)]) (by decide +kernel) (by decide) rfl ?_
  refine sd_iload_n (k := 3) (i := 3) (q := 4) (pc' := 49) (by decide +kernel) rfl rfl ?_
  refine sd_iconst (n := 1) (v := 1) (pc' := 50) (by decide +kernel) (by decide) ?_
  refine sd_icmp_ne (off := 20) (tgt := 70) (pc' := 53) (by decide +kernel) (fun c4 => ?_) (fun c4 => ?_)
  · replace hf := ite_n c4 hf
    refine sd_iload (i := 7) (q := 0) (pc' := 72) (by decide +kernel) rfl ?_
    refine sd_iload_n (k := 2) (i := 2) (q := 3) (pc' := 73) (by decide +kernel) rfl rfl ?_
    obtain ⟨g5, hf⟩ := gd_some hf
    refine sd_irem (pc' := 74) (by decide +kernel) (nz_of g5) ?_
    refine sd_iload_n (k := 1) (i := 1) (q := 2) (pc' := 75) (by decide +kernel) rfl rfl ?_
    refine sd_icmp_ne (off := 7) (tgt := 82) (pc' := 78) (by decide +kernel) (fun c6 => ?_) (fun c6 => ?_)
    · replace hf := ite_n c6 hf
      refine sd_iconst (n := 0) (v := 0) (pc' := 83) (by decide +kernel) (by decide) ?_
      refine sd_J.sub (lo' := [(0, .ref (G.1 + 126)), (1, .int l1), (2, .int l2), (3, .int l3), (4, .int l4), (5, .int l5), (6, .int l6), (7, .int s0)]) [1, 2, 3, 4, 5, 6, 7, 0] rfl ?_
      exact J_YM_turnOf_B83 hE hK18 hf
    · replace hf := ite_p c6 hf
      refine sd_iconst (n := 1) (v := 1) (pc' := 79) (by decide +kernel) (by decide) ?_
      refine sd_goto (off := 4) (tgt := 83) (pc' := 82) (by decide +kernel) ?_
      refine sd_J.sub (lo' := [(0, .ref (G.1 + 126)), (1, .int l1), (2, .int l2), (3, .int l3), (4, .int l4), (5, .int l5), (6, .int l6), (7, .int s0)]) [1, 2, 3, 4, 5, 6, 7, 0] rfl ?_
      exact J_YM_turnOf_B83 hE hK18 hf
  · replace hf := ite_p c4 hf
    refine sd_iload (i := 7) (q := 0) (pc' := 55) (by decide +kernel) rfl ?_
    refine sd_iload (i := 4) (q := 5) (pc' := 57) (by decide +kernel) rfl ?_
    obtain ⟨g10, hf⟩ := gd_some hf
    refine sd_idiv (pc' := 58) (by decide +kernel) (nz_of g10) ?_
    refine sd_iload_n (k := 1) (i := 1) (q := 2) (pc' := 59) (by decide +kernel) rfl rfl ?_
    refine sd_icmp_ne (off := 7) (tgt := 66) (pc' := 62) (by decide +kernel) (fun c11 => ?_) (fun c11 => ?_)
    · replace hf := ite_n c11 hf
      refine sd_iconst (n := 0) (v := 0) (pc' := 67) (by decide +kernel) (by decide) ?_
      refine sd_goto (off := 16) (tgt := 83) (pc' := 70) (by decide +kernel) ?_
      refine sd_J.sub (lo' := [(0, .ref (G.1 + 126)), (1, .int l1), (2, .int l2), (3, .int l3), (4, .int l4), (5, .int l5), (6, .int l6), (7, .int s0)]) [1, 2, 3, 4, 5, 6, 7, 0] rfl ?_
      exact J_YM_turnOf_B83 hE hK18 hf
    · replace hf := ite_p c11 hf
      refine sd_iconst (n := 1) (v := 1) (pc' := 63) (by decide +kernel) (by decide) ?_
      refine sd_goto (off := 20) (tgt := 83) (pc' := 66) (by decide +kernel) ?_
      refine sd_J.sub (lo' := [(0, .ref (G.1 + 126)), (1, .int l1), (2, .int l2), (3, .int l3), (4, .int l4), (5, .int l5), (6, .int l6), (7, .int s0)]) [1, 2, 3, 4, 5, 6, 7, 0] rfl ?_
      exact J_YM_turnOf_B83 hE hK18 hf
def YM_turnOf_L18 (h : sd_H) : Nat → Int32 → Int32 → Int32 → Int32 → Int32 → Int32 → Option Int32
  | 0, _, _, _, _, _, _ => none
  | n + 1, l1, l2, l3, l4, l5, l6 =>
  (if (h.1 126 6) ≤ l6 then some l5 else (if l3 = 2 then YM_turnOf_B46 h (YM_turnOf_L18 h n) l1 l2 l3 l4 l5 l6 l6 else YM_turnOf_B46 h (YM_turnOf_L18 h n) l1 l2 l3 l4 l5 l6 (((h.1 126 6) - 1) - l6)))
set_option maxHeartbeats 4000000 in
set_option maxRecDepth 100000 in
theorem J_YM_turnOf_L18 {G : sd_GX} {X : sd_CX} (hE : ∀ g : sd_H, sd_end G X M_YM_turnOf (sd_F g)) {h : sd_H} {r : Int32} : ∀ (n : Nat) (l1 : Int32) (l2 : Int32) (l3 : Int32) (l4 : Int32) (l5 : Int32) (l6 : Int32), YM_turnOf_L18 h n l1 l2 l3 l4 l5 l6 = some r → sd_J G X (sd_QR G X M_YM_turnOf (some (.int r), sd_F h)) M_YM_turnOf 18 [(0, .ref (G.1 + 126)), (1, .int l1), (2, .int l2), (3, .int l3), (4, .int l4), (5, .int l5), (6, .int l6)] [] (sd_F h) := by
  intro n
  induction n with
  | zero =>
    intro l1 l2 l3 l4 l5 l6 hf
    rw [YM_turnOf_L18] at hf
    cases hf
  | succ n ih =>
    intro l1 l2 l3 l4 l5 l6 hf
    rw [YM_turnOf_L18] at hf
    refine sd_iload (i := 6) (q := 6) (pc' := 20) (by decide +kernel) rfl ?_
    refine sd_aload_n (k := 0) (i := 0) (q := 0) (pc' := 21) (by decide +kernel) rfl rfl ?_
    refine sF_gi (idx := 154) (ci := 12) (k := 6) (n := 47) (pc' := 24) (by decide +kernel) fl_X12_154 (by decide +kernel) rfl SH_126 ?_
    refine sd_icmp_ge (off := 92) (tgt := 116) (pc' := 27) (by decide +kernel) (fun c2 => ?_) (fun c2 => ?_)
    · replace hf := ite_p c2 hf
      refine sd_iload (i := 5) (q := 5) (pc' := 118) (by decide +kernel) rfl ?_
      obtain rfl := Option.some.inj hf
      exact sd_iret (by decide +kernel) rfl (hE _)
    · replace hf := ite_n c2 hf
      refine sd_iload_n (k := 3) (i := 3) (q := 3) (pc' := 28) (by decide +kernel) rfl rfl ?_
      refine sd_iconst (n := 2) (v := 2) (pc' := 29) (by decide +kernel) (by decide) ?_
      refine sd_icmp_ne (off := 8) (tgt := 37) (pc' := 32) (by decide +kernel) (fun c3 => ?_) (fun c3 => ?_)
      · replace hf := ite_n c3 hf
        refine sd_aload_n (k := 0) (i := 0) (q := 0) (pc' := 38) (by decide +kernel) rfl rfl ?_
        refine sF_gi (idx := 154) (ci := 12) (k := 6) (n := 47) (pc' := 41) (by decide +kernel) fl_X12_154 (by decide +kernel) rfl SH_126 ?_
        refine sd_iconst (n := 1) (v := 1) (pc' := 42) (by decide +kernel) (by decide) ?_
        refine sd_isub (pc' := 43) (by decide +kernel) ?_
        refine sd_iload (i := 6) (q := 6) (pc' := 45) (by decide +kernel) rfl ?_
        refine sd_isub (pc' := 46) (by decide +kernel) ?_
        refine sd_J.sub (lo' := [(0, .ref (G.1 + 126)), (1, .int l1), (2, .int l2), (3, .int l3), (4, .int l4), (5, .int l5), (6, .int l6)]) [0, 1, 2, 3, 4, 5, 6] rfl ?_
        exact J_YM_turnOf_B46 hE ih hf
      · replace hf := ite_p c3 hf
        refine sd_iload (i := 6) (q := 6) (pc' := 34) (by decide +kernel) rfl ?_
        refine sd_goto (off := 12) (tgt := 46) (pc' := 37) (by decide +kernel) ?_
        refine sd_J.sub (lo' := [(0, .ref (G.1 + 126)), (1, .int l1), (2, .int l2), (3, .int l3), (4, .int l4), (5, .int l5), (6, .int l6)]) [0, 1, 2, 3, 4, 5, 6] rfl ?_
        exact J_YM_turnOf_B46 hE ih hf
def YM_turnOf (h : sd_H) (a0 : Int32) (a1 : Int32) (a2 : Int32) : Option Int32 :=
  gd (nz a1) (YM_turnOf_L18 h FU a0 a1 a2 ((((h.1 126 6) + a1) - 1) / a1) (-1) 0)
set_option maxHeartbeats 4000000 in
set_option maxRecDepth 100000 in
theorem T_YM_turnOf {G : sd_GX} {h : sd_H} {a0 : Int32} {a1 : Int32} {a2 : Int32} {r : Int32} (hf : YM_turnOf h a0 a1 a2 = some r) : sd_RunF G M_YM_turnOf [.ref (G.1 + 126), .int a0, .int a1, .int a2] h (some (.int r)) h := by
  refine sF_run ⟨rfl, rfl⟩ (by decide +kernel) (Nat.le_of_ble_eq_true rfl) (lo := [(0, .ref (G.1 + 126)), (1, .int a0), (2, .int a1), (3, .int a2)]) rfl (fun X hE => ?_)
  unfold YM_turnOf at hf
  refine sd_aload_n (k := 0) (i := 0) (q := 0) (pc' := 1) (by decide +kernel) rfl rfl ?_
  refine sF_gi (idx := 154) (ci := 12) (k := 6) (n := 47) (pc' := 4) (by decide +kernel) fl_X12_154 (by decide +kernel) rfl SH_126 ?_
  refine sd_iload_n (k := 2) (i := 2) (q := 2) (pc' := 5) (by decide +kernel) rfl rfl ?_
  refine sd_iadd (pc' := 6) (by decide +kernel) ?_
  refine sd_iconst (n := 1) (v := 1) (pc' := 7) (by decide +kernel) (by decide) ?_
  refine sd_isub (pc' := 8) (by decide +kernel) ?_
  refine sd_iload_n (k := 2) (i := 2) (q := 2) (pc' := 9) (by decide +kernel) rfl rfl ?_
  obtain ⟨g1, hf⟩ := gd_some hf
  refine sd_idiv (pc' := 10) (by decide +kernel) (nz_of g1) ?_
  refine sd_istore (i := 4) (pc' := 12) (lo' := [(4, .int ((((h.1 126 6) + a1) - 1) / a1)), (0, .ref (G.1 + 126)), (1, .int a0), (2, .int a1), (3, .int a2)]) (by decide +kernel) (by decide) rfl ?_
  refine sd_iconst (n := -1) (v := (-1)) (pc' := 13) (by decide +kernel) (by decide) ?_
  refine sd_istore (i := 5) (pc' := 15) (lo' := [(5, .int (-1)), (4, .int ((((h.1 126 6) + a1) - 1) / a1)), (0, .ref (G.1 + 126)), (1, .int a0), (2, .int a1), (3, .int a2)]) (by decide +kernel) (by decide) rfl ?_
  refine sd_iconst (n := 0) (v := 0) (pc' := 16) (by decide +kernel) (by decide) ?_
  refine sd_istore (i := 6) (pc' := 18) (lo' := [(6, .int 0), (5, .int (-1)), (4, .int ((((h.1 126 6) + a1) - 1) / a1)), (0, .ref (G.1 + 126)), (1, .int a0), (2, .int a1), (3, .int a2)]) (by decide +kernel) (by decide) rfl ?_
  refine sd_J.sub (lo' := [(0, .ref (G.1 + 126)), (1, .int a0), (2, .int a1), (3, .int a2), (4, .int ((((h.1 126 6) + a1) - 1) / a1)), (5, .int (-1)), (6, .int 0)]) [3, 4, 5, 6, 2, 1, 0] rfl ?_
  exact J_YM_turnOf_L18 hE _ _ _ _ _ _ _ hf

theorem ml_X12_398 : Cond.methodLink RX12 398 yX12_turnOf ∈ sd_tb := sd_mem (i := 1698) (by decide +kernel)
theorem mv_YM_turnOf : sd_mV M_YM_turnOf 3 := ⟨sd_mem (i := 1700) (by decide +kernel), sd_mem (i := 100) (by decide +kernel), ⟨sd_mem (i := 1701) (by decide +kernel), sd_mem (i := 119) (by decide +kernel), by decide +kernel, by decide +kernel, by decide +kernel⟩⟩
def M_YM_left : sd_MX := (yX12_left, cX12_left, 5, (some .int), { frames := 2, cells := 0, slots := 0, locals := 68 })
def YM_left_B29 (h : sd_H) (K5 : Int32 → Int32 → Int32 → Int32 → Option Int32) (l1 : Int32) (l2 : Int32) (l4 : Int32) (s0 : Int32) (s1 : Int32) : Option Int32 :=
  K5 l1 l2 (s1 + s0) (l4 + 1)
set_option maxHeartbeats 4000000 in
set_option maxRecDepth 100000 in
theorem J_YM_left_B29 {G : sd_GX} {X : sd_CX} (hE : ∀ g : sd_H, sd_end G X M_YM_left (sd_F g)) {h : sd_H} {K5 : Int32 → Int32 → Int32 → Int32 → Option Int32} {r : Int32} (hK5 : ∀ (l1 : Int32) (l2 : Int32) (l3 : Int32) (l4 : Int32), K5 l1 l2 l3 l4 = some r → sd_J G X (sd_QR G X M_YM_left (some (.int r), sd_F h)) M_YM_left 5 [(0, .ref (G.1 + 126)), (1, .int l1), (2, .int l2), (3, .int l3), (4, .int l4)] [] (sd_F h)) {l1 : Int32} {l2 : Int32} {l4 : Int32} {s0 : Int32} {s1 : Int32} (hf : YM_left_B29 h K5 l1 l2 l4 s0 s1 = some r) : sd_J G X (sd_QR G X M_YM_left (some (.int r), sd_F h)) M_YM_left 29 [(0, .ref (G.1 + 126)), (1, .int l1), (2, .int l2), (4, .int l4)] [.int s0, .int s1] (sd_F h) := by
  unfold YM_left_B29 at hf
  refine sd_iadd (pc' := 30) (by decide +kernel) ?_
  refine sd_istore_n (k := 3) (i := 3) (pc' := 31) (lo' := [(3, .int (s1 + s0)), (0, .ref (G.1 + 126)), (1, .int l1), (2, .int l2), (4, .int l4)]) (by decide +kernel) rfl (by decide) rfl ?_
  refine sd_iinc (i := 4) (q := 4) (n := 1) (v := (l4 + 1)) (pc' := 34) (lo' := [(4, .int (l4 + 1)), (3, .int (s1 + s0)), (0, .ref (G.1 + 126)), (1, .int l1), (2, .int l2)]) (by decide +kernel) rfl rfl (by decide) rfl ?_
  refine sd_goto (off := -29) (tgt := 5) (pc' := 37) (by decide +kernel) ?_
  refine sd_J.sub (lo' := [(0, .ref (G.1 + 126)), (1, .int l1), (2, .int l2), (3, .int (s1 + s0)), (4, .int (l4 + 1))]) [2, 3, 4, 1, 0] rfl ?_
  exact hK5 _ _ _ _ hf
def YM_left_L5 (h : sd_H) : Nat → Int32 → Int32 → Int32 → Int32 → Option Int32
  | 0, _, _, _, _ => none
  | n + 1, l1, l2, l3, l4 =>
  (if l1 ≤ l4 then some l3 else b1 (YM_turnOf h l4 l1 l2) (fun t3 => (if t3 = (-1) then YM_left_B29 h (YM_left_L5 h n) l1 l2 l4 0 l3 else YM_left_B29 h (YM_left_L5 h n) l1 l2 l4 1 l3)))
set_option maxHeartbeats 4000000 in
set_option maxRecDepth 100000 in
theorem J_YM_left_L5 {G : sd_GX} {X : sd_CX} (hE : ∀ g : sd_H, sd_end G X M_YM_left (sd_F g)) {h : sd_H} {r : Int32} : ∀ (n : Nat) (l1 : Int32) (l2 : Int32) (l3 : Int32) (l4 : Int32), YM_left_L5 h n l1 l2 l3 l4 = some r → sd_J G X (sd_QR G X M_YM_left (some (.int r), sd_F h)) M_YM_left 5 [(0, .ref (G.1 + 126)), (1, .int l1), (2, .int l2), (3, .int l3), (4, .int l4)] [] (sd_F h) := by
  intro n
  induction n with
  | zero =>
    intro l1 l2 l3 l4 hf
    rw [YM_left_L5] at hf
    cases hf
  | succ n ih =>
    intro l1 l2 l3 l4 hf
    rw [YM_left_L5] at hf
    refine sd_iload (i := 4) (q := 4) (pc' := 7) (by decide +kernel) rfl ?_
    refine sd_iload_n (k := 1) (i := 1) (q := 1) (pc' := 8) (by decide +kernel) rfl rfl ?_
    refine sd_icmp_ge (off := 29) (tgt := 37) (pc' := 11) (by decide +kernel) (fun c1 => ?_) (fun c1 => ?_)
    · replace hf := ite_p c1 hf
      refine sd_iload_n (k := 3) (i := 3) (q := 3) (pc' := 38) (by decide +kernel) rfl rfl ?_
      obtain rfl := Option.some.inj hf
      exact sd_iret (by decide +kernel) rfl (hE _)
    · replace hf := ite_n c1 hf
      refine sd_iload_n (k := 3) (i := 3) (q := 3) (pc' := 12) (by decide +kernel) rfl rfl ?_
      refine sd_aload_n (k := 0) (i := 0) (q := 0) (pc' := 13) (by decide +kernel) rfl rfl ?_
      refine sd_iload (i := 4) (q := 4) (pc' := 15) (by decide +kernel) rfl ?_
      refine sd_iload_n (k := 1) (i := 1) (q := 1) (pc' := 16) (by decide +kernel) rfl rfl ?_
      refine sd_iload_n (k := 2) (i := 2) (q := 2) (pc' := 17) (by decide +kernel) rfl rfl ?_
      obtain ⟨t3, q2, hf⟩ := b1_some hf
      refine sF_callV (idx := 398) (b := 126) (As := [.int l4, .int l1, .int l2]) (ci := 12) (nn := 47) (pc' := 20) 3 (T_YM_turnOf (G := G) (h := h)  q2) (by decide +kernel) mv_YM_turnOf ml_X12_398 (by decide +kernel) rfl rfl (Nat.le_of_ble_eq_true rfl) SH_126 rfl (by decide) rfl rfl ?_
      refine sd_iconst (n := -1) (v := (-1)) (pc' := 21) (by decide +kernel) (by decide) ?_
      refine sd_icmp_ne (off := 7) (tgt := 28) (pc' := 24) (by decide +kernel) (fun c4 => ?_) (fun c4 => ?_)
      · replace hf := ite_n c4 hf
        refine sd_iconst (n := 1) (v := 1) (pc' := 29) (by decide +kernel) (by decide) ?_
        refine sd_J.sub (lo' := [(0, .ref (G.1 + 126)), (1, .int l1), (2, .int l2), (4, .int l4)]) [0, 1, 2, 4] rfl ?_
        exact J_YM_left_B29 hE ih hf
      · replace hf := ite_p c4 hf
        refine sd_iconst (n := 0) (v := 0) (pc' := 25) (by decide +kernel) (by decide) ?_
        refine sd_goto (off := 4) (tgt := 29) (pc' := 28) (by decide +kernel) ?_
        refine sd_J.sub (lo' := [(0, .ref (G.1 + 126)), (1, .int l1), (2, .int l2), (4, .int l4)]) [0, 1, 2, 4] rfl ?_
        exact J_YM_left_B29 hE ih hf
def YM_left (h : sd_H) (a0 : Int32) (a1 : Int32) : Option Int32 :=
  YM_left_L5 h FU a0 a1 0 0
set_option maxHeartbeats 4000000 in
set_option maxRecDepth 100000 in
theorem T_YM_left {G : sd_GX} {h : sd_H} {a0 : Int32} {a1 : Int32} {r : Int32} (hf : YM_left h a0 a1 = some r) : sd_RunF G M_YM_left [.ref (G.1 + 126), .int a0, .int a1] h (some (.int r)) h := by
  refine sF_run ⟨rfl, rfl⟩ (by decide +kernel) (Nat.le_of_ble_eq_true rfl) (lo := [(0, .ref (G.1 + 126)), (1, .int a0), (2, .int a1)]) rfl (fun X hE => ?_)
  unfold YM_left at hf
  refine sd_iconst (n := 0) (v := 0) (pc' := 1) (by decide +kernel) (by decide) ?_
  refine sd_istore_n (k := 3) (i := 3) (pc' := 2) (lo' := [(3, .int 0), (0, .ref (G.1 + 126)), (1, .int a0), (2, .int a1)]) (by decide +kernel) rfl (by decide) rfl ?_
  refine sd_iconst (n := 0) (v := 0) (pc' := 3) (by decide +kernel) (by decide) ?_
  refine sd_istore (i := 4) (pc' := 5) (lo' := [(4, .int 0), (3, .int 0), (0, .ref (G.1 + 126)), (1, .int a0), (2, .int a1)]) (by decide +kernel) (by decide) rfl ?_
  refine sd_J.sub (lo' := [(0, .ref (G.1 + 126)), (1, .int a0), (2, .int a1), (3, .int 0), (4, .int 0)]) [2, 3, 4, 1, 0] rfl ?_
  exact J_YM_left_L5 hE _ _ _ _ _ hf

def M_YM_copiesOut : sd_MX := (yX12_copiesOut, cX12_copiesOut, 3, none, { frames := 1, cells := 0, slots := 0, locals := 40 })
def YM_copiesOut_B59 (h : sd_H) (K2 : sd_H → Int32 → Option sd_H) (K11 : sd_H → Int32 → Int32 → Option sd_H) (l1 : Int32) (l2 : Int32) : Option sd_H :=
  K11 h l1 (l2 + 1)
set_option maxHeartbeats 4000000 in
set_option maxRecDepth 100000 in
theorem J_YM_copiesOut_B59 {G : sd_GX} {X : sd_CX} (hE : ∀ g : sd_H, sd_end G X M_YM_copiesOut (sd_F g)) {h : sd_H} {K2 : sd_H → Int32 → Option sd_H} {K11 : sd_H → Int32 → Int32 → Option sd_H} {r : sd_H} (hK2 : ∀ (g : sd_H) (l1 : Int32), K2 g l1 = some r → sd_J G X (sd_QR G X M_YM_copiesOut (none, sd_F r)) M_YM_copiesOut 2 [(0, .ref (G.1 + 126)), (1, .int l1)] [] (sd_F g)) (hK11 : ∀ (g : sd_H) (l1 : Int32) (l2 : Int32), K11 g l1 l2 = some r → sd_J G X (sd_QR G X M_YM_copiesOut (none, sd_F r)) M_YM_copiesOut 11 [(0, .ref (G.1 + 126)), (1, .int l1), (2, .int l2)] [] (sd_F g)) {l1 : Int32} {l2 : Int32} (hf : YM_copiesOut_B59 h K2 K11 l1 l2 = some r) : sd_J G X (sd_QR G X M_YM_copiesOut (none, sd_F r)) M_YM_copiesOut 59 [(0, .ref (G.1 + 126)), (1, .int l1), (2, .int l2)] [] (sd_F h) := by
  unfold YM_copiesOut_B59 at hf
  refine sd_iinc (i := 2) (q := 2) (n := 1) (v := (l2 + 1)) (pc' := 62) (lo' := [(2, .int (l2 + 1)), (0, .ref (G.1 + 126)), (1, .int l1)]) (by decide +kernel) rfl rfl (by decide) rfl ?_
  refine sd_goto (off := -51) (tgt := 11) (pc' := 65) (by decide +kernel) ?_
  refine sd_J.sub (lo' := [(0, .ref (G.1 + 126)), (1, .int l1), (2, .int (l2 + 1))]) [1, 2, 0] rfl ?_
  exact hK11 _ _ _ hf
def YM_copiesOut_L11 (K2 : sd_H → Int32 → Option sd_H) : Nat → sd_H → Int32 → Int32 → Option sd_H
  | 0, _, _, _ => none
  | n + 1, h, l1, l2 =>
  (if (h.1 126 6) ≤ l2 then K2 h (l1 + 1) else gd (sd_inB ((144 * l2) + l1) 1440) ((if (h.1 149 (((144 * l2) + l1) : Int32).toNatClampNeg) = 0 then YM_copiesOut_B59 h K2 (YM_copiesOut_L11 K2 n) l1 l2 else gd (sd_inB ((144 * l2) + l1) 1440) (gd (sd_inB l1 144) (hb (wD h 129 (l1 : Int32).toNatClampNeg (h.2.1 148 (((144 * l2) + l1) : Int32).toNatClampNeg)) (fun h7 => gd (sd_inB l1 144) (hb (wI h7 130 (l1 : Int32).toNatClampNeg l2) (fun h10 => YM_copiesOut_B59 h10 K2 (YM_copiesOut_L11 K2 n) l1 l2))))))))
set_option maxHeartbeats 4000000 in
set_option maxRecDepth 100000 in
theorem J_YM_copiesOut_L11 {G : sd_GX} {X : sd_CX} (hE : ∀ g : sd_H, sd_end G X M_YM_copiesOut (sd_F g))  {K2 : sd_H → Int32 → Option sd_H} {r : sd_H} (hK2 : ∀ (g : sd_H) (l1 : Int32), K2 g l1 = some r → sd_J G X (sd_QR G X M_YM_copiesOut (none, sd_F r)) M_YM_copiesOut 2 [(0, .ref (G.1 + 126)), (1, .int l1)] [] (sd_F g)) : ∀ (n : Nat) (h : sd_H) (l1 : Int32) (l2 : Int32), YM_copiesOut_L11 K2 n h l1 l2 = some r → sd_J G X (sd_QR G X M_YM_copiesOut (none, sd_F r)) M_YM_copiesOut 11 [(0, .ref (G.1 + 126)), (1, .int l1), (2, .int l2)] [] (sd_F h) := by
  intro n
  induction n with
  | zero =>
    intro h l1 l2 hf
    rw [YM_copiesOut_L11] at hf
    cases hf
  | succ n ih =>
    intro h l1 l2 hf
    rw [YM_copiesOut_L11] at hf
    refine sd_iload_n (k := 2) (i := 2) (q := 2) (pc' := 12) (by decide +kernel) rfl rfl ?_
    refine sd_aload_n (k := 0) (i := 0) (q := 0) (pc' := 13) (by decide +kernel) rfl rfl ?_
    refine sF_gi (idx := 154) (ci := 12) (k := 6) (n := 47) (pc' := 16) (by decide +kernel) fl_X12_154 (by decide +kernel) rfl SH_126 ?_
    refine sd_icmp_ge (off := 49) (tgt := 65) (pc' := 19) (by decide +kernel) (fun c2 => ?_) (fun c2 => ?_)
    · replace hf := ite_p c2 hf
      refine sd_iinc (i := 1) (q := 1) (n := 1) (v := (l1 + 1)) (pc' := 68) (lo' := [(1, .int (l1 + 1)), (0, .ref (G.1 + 126)), (2, .int l2)]) (by decide +kernel) rfl rfl (by decide) rfl ?_
      refine sd_goto (off := -66) (tgt := 2) (pc' := 71) (by decide +kernel) ?_
      refine sd_J.sub (lo' := [(0, .ref (G.1 + 126)), (1, .int (l1 + 1))]) [1, 0] rfl ?_
      exact hK2 _ _ hf
    · replace hf := ite_n c2 hf
      refine sd_aload_n (k := 0) (i := 0) (q := 0) (pc' := 20) (by decide +kernel) rfl rfl ?_
      refine sF_gr (idx := 77) (ci := 12) (k := 32) (n := 47) (r := 149) (pc' := 23) (by decide +kernel) fl_X12_77 (by decide +kernel) rfl SH_126 (by decide) (by decide +kernel) ?_
      refine sd_sipush (n := 144) (v := 144) (pc' := 26) (by decide +kernel) (by decide) ?_
      refine sd_iload_n (k := 2) (i := 2) (q := 2) (pc' := 27) (by decide +kernel) rfl rfl ?_
      refine sd_imul (pc' := 28) (by decide +kernel) ?_
      refine sd_iload_n (k := 1) (i := 1) (q := 1) (pc' := 29) (by decide +kernel) rfl rfl ?_
      refine sd_iadd (pc' := 30) (by decide +kernel) ?_
      obtain ⟨g3, hf⟩ := gd_some hf
      refine sF_zald (n := 1440) (pc' := 31) (by decide +kernel) SH_149 g3 ?_
      refine sd_if_eq (off := 28) (tgt := 59) (pc' := 34) (by decide +kernel) (fun c4 => ?_) (fun c4 => ?_)
      · replace hf := ite_p c4 hf
        refine sd_J.sub (lo' := [(0, .ref (G.1 + 126)), (1, .int l1), (2, .int l2)]) [0, 1, 2] rfl ?_
        exact J_YM_copiesOut_B59 hE hK2 ih hf
      · replace hf := ite_n c4 hf
        refine sd_aload_n (k := 0) (i := 0) (q := 0) (pc' := 35) (by decide +kernel) rfl rfl ?_
        refine sF_gr (idx := 16) (ci := 12) (k := 2) (n := 47) (r := 129) (pc' := 38) (by decide +kernel) fl_X12_16 (by decide +kernel) rfl SH_126 (by decide) (by decide +kernel) ?_
        refine sd_iload_n (k := 1) (i := 1) (q := 1) (pc' := 39) (by decide +kernel) rfl rfl ?_
        refine sd_aload_n (k := 0) (i := 0) (q := 0) (pc' := 40) (by decide +kernel) rfl rfl ?_
        refine sF_gr (idx := 74) (ci := 12) (k := 31) (n := 47) (r := 148) (pc' := 43) (by decide +kernel) fl_X12_74 (by decide +kernel) rfl SH_126 (by decide) (by decide +kernel) ?_
        refine sd_sipush (n := 144) (v := 144) (pc' := 46) (by decide +kernel) (by decide) ?_
        refine sd_iload_n (k := 2) (i := 2) (q := 2) (pc' := 47) (by decide +kernel) rfl rfl ?_
        refine sd_imul (pc' := 48) (by decide +kernel) ?_
        refine sd_iload_n (k := 1) (i := 1) (q := 1) (pc' := 49) (by decide +kernel) rfl rfl ?_
        refine sd_iadd (pc' := 50) (by decide +kernel) ?_
        obtain ⟨g5, hf⟩ := gd_some hf
        refine sF_dald (n := 1440) (pc' := 51) (by decide +kernel) SH_148 g5 ?_
        obtain ⟨g6, hf⟩ := gd_some hf
        obtain ⟨h7, e8, hf⟩ := hb_some hf
        refine sF_dast (n := 144) (pc' := 52) (by decide +kernel) SH_129 g6 ?_
        rw [← e8]; clear e8
        refine sd_aload_n (k := 0) (i := 0) (q := 0) (pc' := 53) (by decide +kernel) rfl rfl ?_
        refine sF_gr (idx := 20) (ci := 12) (k := 3) (n := 47) (r := 130) (pc' := 56) (by decide +kernel) fl_X12_20 (by decide +kernel) rfl SH_126 (by decide) (by decide +kernel) ?_
        refine sd_iload_n (k := 1) (i := 1) (q := 1) (pc' := 57) (by decide +kernel) rfl rfl ?_
        refine sd_iload_n (k := 2) (i := 2) (q := 2) (pc' := 58) (by decide +kernel) rfl rfl ?_
        obtain ⟨g9, hf⟩ := gd_some hf
        obtain ⟨h10, e11, hf⟩ := hb_some hf
        refine sF_iast (n := 144) (pc' := 59) (by decide +kernel) SH_130 g9 ?_
        rw [← e11]; clear e11
        refine sd_J.sub (lo' := [(0, .ref (G.1 + 126)), (1, .int l1), (2, .int l2)]) [0, 1, 2] rfl ?_
        exact J_YM_copiesOut_B59 hE hK2 ih hf
def YM_copiesOut_L2 : Nat → sd_H → Int32 → Option sd_H
  | 0, _, _ => none
  | n + 1, h, l1 =>
  (if 144 ≤ l1 then some h else YM_copiesOut_L11 (YM_copiesOut_L2 n) FU h l1 0)
set_option maxHeartbeats 4000000 in
set_option maxRecDepth 100000 in
theorem J_YM_copiesOut_L2 {G : sd_GX} {X : sd_CX} (hE : ∀ g : sd_H, sd_end G X M_YM_copiesOut (sd_F g))  {r : sd_H} : ∀ (n : Nat) (h : sd_H) (l1 : Int32), YM_copiesOut_L2 n h l1 = some r → sd_J G X (sd_QR G X M_YM_copiesOut (none, sd_F r)) M_YM_copiesOut 2 [(0, .ref (G.1 + 126)), (1, .int l1)] [] (sd_F h) := by
  intro n
  induction n with
  | zero =>
    intro h l1 hf
    rw [YM_copiesOut_L2] at hf
    cases hf
  | succ n ih =>
    intro h l1 hf
    rw [YM_copiesOut_L2] at hf
    refine sd_iload_n (k := 1) (i := 1) (q := 1) (pc' := 3) (by decide +kernel) rfl rfl ?_
    refine sd_sipush (n := 144) (v := 144) (pc' := 6) (by decide +kernel) (by decide) ?_
    refine sd_icmp_ge (off := 65) (tgt := 71) (pc' := 9) (by decide +kernel) (fun c1 => ?_) (fun c1 => ?_)
    · replace hf := ite_p c1 hf
      obtain rfl := Option.some.inj hf
      exact sd_vret (by decide +kernel) rfl (hE _)
    · replace hf := ite_n c1 hf
      refine sd_iconst (n := 0) (v := 0) (pc' := 10) (by decide +kernel) (by decide) ?_
      refine sd_istore_n (k := 2) (i := 2) (pc' := 11) (lo' := [(2, .int 0), (0, .ref (G.1 + 126)), (1, .int l1)]) (by decide +kernel) rfl (by decide) rfl ?_
      refine sd_J.sub (lo' := [(0, .ref (G.1 + 126)), (1, .int l1), (2, .int 0)]) [1, 2, 0] rfl ?_
      exact J_YM_copiesOut_L11 hE ih _ _ _ _ hf
def YM_copiesOut (h : sd_H) : Option sd_H :=
  YM_copiesOut_L2 FU h 0
set_option maxHeartbeats 4000000 in
set_option maxRecDepth 100000 in
theorem T_YM_copiesOut {G : sd_GX} {h : sd_H} {r : sd_H} (hf : YM_copiesOut h = some r) : sd_RunF G M_YM_copiesOut [.ref (G.1 + 126)] h none r := by
  refine sF_run ⟨rfl, rfl⟩ (by decide +kernel) (Nat.le_of_ble_eq_true rfl) (lo := [(0, .ref (G.1 + 126))]) rfl (fun X hE => ?_)
  unfold YM_copiesOut at hf
  refine sd_iconst (n := 0) (v := 0) (pc' := 1) (by decide +kernel) (by decide) ?_
  refine sd_istore_n (k := 1) (i := 1) (pc' := 2) (lo' := [(1, .int 0), (0, .ref (G.1 + 126))]) (by decide +kernel) rfl (by decide) rfl ?_
  refine sd_J.sub (lo' := [(0, .ref (G.1 + 126)), (1, .int 0)]) [1, 0] rfl ?_
  exact J_YM_copiesOut_L2 hE _ _ _ hf

theorem ml_X12_401 : Cond.methodLink RX12 401 yX12_left ∈ sd_tb := sd_mem (i := 1694) (by decide +kernel)
theorem mv_YM_left : sd_mV M_YM_left 2 := ⟨sd_mem (i := 1696) (by decide +kernel), sd_mem (i := 99) (by decide +kernel), ⟨sd_mem (i := 1697) (by decide +kernel), sd_mem (i := 119) (by decide +kernel), by decide +kernel, by decide +kernel, by decide +kernel⟩⟩
theorem ml_X12_404 : Cond.methodLink RX12 404 yX12_copiesOut ∈ sd_tb := sd_mem (i := 1702) (by decide +kernel)
theorem mv_YM_copiesOut : sd_mV M_YM_copiesOut 0 := ⟨sd_mem (i := 1704) (by decide +kernel), sd_mem (i := 101) (by decide +kernel), ⟨sd_mem (i := 1705) (by decide +kernel), sd_mem (i := 119) (by decide +kernel), by decide +kernel, by decide +kernel, by decide +kernel⟩⟩
def M_YM_mixes : sd_MX := (yX12_mixes, cX12_mixes, 10, (some .int), { frames := 10, cells := 0, slots := 0, locals := 247 })
def YM_mixes_B116 (h : sd_H) (K49 : sd_H → Int32 → Int32 → Int32 → Int32 → Option (sd_H × Int32)) (K67 : sd_H → Int32 → Int32 → Int32 → Int32 → Int32 → Int32 → Option (sd_H × Int32)) (l1 : Int32) (l2 : Int32) (l4 : Int32) (l7 : Int32) (l8 : Int32) (s0 : Int32) (s1 : Int32) : Option (sd_H × Int32) :=
  K67 h l1 l2 l4 (s1 - s0) l7 (l8 + 1)
set_option maxHeartbeats 4000000 in
set_option maxRecDepth 100000 in
theorem J_YM_mixes_B116 {G : sd_GX} {X : sd_CX} (hE : ∀ g : sd_H, sd_end G X M_YM_mixes (sd_F g)) {h : sd_H} {K49 : sd_H → Int32 → Int32 → Int32 → Int32 → Option (sd_H × Int32)} {K67 : sd_H → Int32 → Int32 → Int32 → Int32 → Int32 → Int32 → Option (sd_H × Int32)} {r : (sd_H × Int32)} (hK49 : ∀ (g : sd_H) (l1 : Int32) (l2 : Int32) (l4 : Int32) (l5 : Int32), K49 g l1 l2 l4 l5 = some r → sd_J G X (sd_QR G X M_YM_mixes (some (.int r.2), sd_F r.1)) M_YM_mixes 49 [(0, .ref (G.1 + 126)), (1, .int l1), (2, .int l2), (4, .int l4), (5, .int l5)] [] (sd_F g)) (hK67 : ∀ (g : sd_H) (l1 : Int32) (l2 : Int32) (l4 : Int32) (l6 : Int32) (l7 : Int32) (l8 : Int32), K67 g l1 l2 l4 l6 l7 l8 = some r → sd_J G X (sd_QR G X M_YM_mixes (some (.int r.2), sd_F r.1)) M_YM_mixes 67 [(0, .ref (G.1 + 126)), (1, .int l1), (2, .int l2), (4, .int l4), (6, .int l6), (7, .int l7), (8, .int l8)] [] (sd_F g)) {l1 : Int32} {l2 : Int32} {l4 : Int32} {l7 : Int32} {l8 : Int32} {s0 : Int32} {s1 : Int32} (hf : YM_mixes_B116 h K49 K67 l1 l2 l4 l7 l8 s0 s1 = some r) : sd_J G X (sd_QR G X M_YM_mixes (some (.int r.2), sd_F r.1)) M_YM_mixes 116 [(0, .ref (G.1 + 126)), (1, .int l1), (2, .int l2), (4, .int l4), (7, .int l7), (8, .int l8)] [.int s0, .int s1] (sd_F h) := by
  unfold YM_mixes_B116 at hf
  refine sd_isub (pc' := 117) (by decide +kernel) ?_
  refine sd_istore (i := 6) (pc' := 119) (lo' := [(6, .int (s1 - s0)), (0, .ref (G.1 + 126)), (1, .int l1), (2, .int l2), (4, .int l4), (7, .int l7), (8, .int l8)]) (by decide +kernel) (by decide) rfl ?_
  refine sd_iinc (i := 8) (q := 6) (n := 1) (v := (l8 + 1)) (pc' := 122) (lo' := [(8, .int (l8 + 1)), (6, .int (s1 - s0)), (0, .ref (G.1 + 126)), (1, .int l1), (2, .int l2), (4, .int l4), (7, .int l7)]) (by decide +kernel) rfl rfl (by decide) rfl ?_
  refine sd_goto (off := -55) (tgt := 67) (pc' := 125) (by decide +kernel) ?_
  refine sd_J.sub (lo' := [(0, .ref (G.1 + 126)), (1, .int l1), (2, .int l2), (4, .int l4), (6, .int (s1 - s0)), (7, .int l7), (8, .int (l8 + 1))]) [2, 3, 4, 5, 1, 6, 0] rfl ?_
  exact hK67 _ _ _ _ _ _ _ hf
def YM_mixes_B101 (h : sd_H) (K49 : sd_H → Int32 → Int32 → Int32 → Int32 → Option (sd_H × Int32)) (K67 : sd_H → Int32 → Int32 → Int32 → Int32 → Int32 → Int32 → Option (sd_H × Int32)) (l1 : Int32) (l2 : Int32) (l4 : Int32) (l6 : Int32) (l8 : Int32) (l9 : Int32) (s0 : Int32) : Option (sd_H × Int32) :=
  (if l9 = (-1) then YM_mixes_B116 h K49 K67 l1 l2 l4 s0 l8 0 l6 else YM_mixes_B116 h K49 K67 l1 l2 l4 s0 l8 1 l6)
set_option maxHeartbeats 4000000 in
set_option maxRecDepth 100000 in
theorem J_YM_mixes_B101 {G : sd_GX} {X : sd_CX} (hE : ∀ g : sd_H, sd_end G X M_YM_mixes (sd_F g)) {h : sd_H} {K49 : sd_H → Int32 → Int32 → Int32 → Int32 → Option (sd_H × Int32)} {K67 : sd_H → Int32 → Int32 → Int32 → Int32 → Int32 → Int32 → Option (sd_H × Int32)} {r : (sd_H × Int32)} (hK49 : ∀ (g : sd_H) (l1 : Int32) (l2 : Int32) (l4 : Int32) (l5 : Int32), K49 g l1 l2 l4 l5 = some r → sd_J G X (sd_QR G X M_YM_mixes (some (.int r.2), sd_F r.1)) M_YM_mixes 49 [(0, .ref (G.1 + 126)), (1, .int l1), (2, .int l2), (4, .int l4), (5, .int l5)] [] (sd_F g)) (hK67 : ∀ (g : sd_H) (l1 : Int32) (l2 : Int32) (l4 : Int32) (l6 : Int32) (l7 : Int32) (l8 : Int32), K67 g l1 l2 l4 l6 l7 l8 = some r → sd_J G X (sd_QR G X M_YM_mixes (some (.int r.2), sd_F r.1)) M_YM_mixes 67 [(0, .ref (G.1 + 126)), (1, .int l1), (2, .int l2), (4, .int l4), (6, .int l6), (7, .int l7), (8, .int l8)] [] (sd_F g)) {l1 : Int32} {l2 : Int32} {l4 : Int32} {l6 : Int32} {l8 : Int32} {l9 : Int32} {s0 : Int32} (hf : YM_mixes_B101 h K49 K67 l1 l2 l4 l6 l8 l9 s0 = some r) : sd_J G X (sd_QR G X M_YM_mixes (some (.int r.2), sd_F r.1)) M_YM_mixes 101 [(0, .ref (G.1 + 126)), (1, .int l1), (2, .int l2), (4, .int l4), (6, .int l6), (8, .int l8), (9, .int l9)] [.int s0] (sd_F h) := by
  unfold YM_mixes_B101 at hf
  refine sd_istore (i := 7) (pc' := 103) (lo' := [(7, .int s0), (0, .ref (G.1 + 126)), (1, .int l1), (2, .int l2), (4, .int l4), (6, .int l6), (8, .int l8), (9, .int l9)]) (by decide +kernel) (by decide) rfl ?_
  refine sd_iload (i := 6) (q := 5) (pc' := 105) (by decide +kernel) rfl ?_
  refine sd_iload (i := 9) (q := 7) (pc' := 107) (by decide +kernel) rfl ?_
  refine sd_iconst (n := -1) (v := (-1)) (pc' := 108) (by decide +kernel) (by decide) ?_
  refine sd_icmp_ne (off := 7) (tgt := 115) (pc' := 111) (by decide +kernel) (fun c20 => ?_) (fun c20 => ?_)
  · replace hf := ite_n c20 hf
    refine sd_iconst (n := 1) (v := 1) (pc' := 116) (by decide +kernel) (by decide) ?_
    refine sd_J.sub (lo' := [(0, .ref (G.1 + 126)), (1, .int l1), (2, .int l2), (4, .int l4), (7, .int s0), (8, .int l8)]) [1, 2, 3, 4, 0, 6] rfl ?_
    exact J_YM_mixes_B116 hE hK49 hK67 hf
  · replace hf := ite_p c20 hf
    refine sd_iconst (n := 0) (v := 0) (pc' := 112) (by decide +kernel) (by decide) ?_
    refine sd_goto (off := 4) (tgt := 116) (pc' := 115) (by decide +kernel) ?_
    refine sd_J.sub (lo' := [(0, .ref (G.1 + 126)), (1, .int l1), (2, .int l2), (4, .int l4), (7, .int s0), (8, .int l8)]) [1, 2, 3, 4, 0, 6] rfl ?_
    exact J_YM_mixes_B116 hE hK49 hK67 hf
def YM_mixes_B99 (h : sd_H) (K49 : sd_H → Int32 → Int32 → Int32 → Int32 → Option (sd_H × Int32)) (K67 : sd_H → Int32 → Int32 → Int32 → Int32 → Int32 → Int32 → Option (sd_H × Int32)) (l1 : Int32) (l2 : Int32) (l4 : Int32) (l6 : Int32) (l7 : Int32) (l8 : Int32) (l9 : Int32) : Option (sd_H × Int32) :=
  YM_mixes_B101 h K49 K67 l1 l2 l4 l6 l8 l9 l7
set_option maxHeartbeats 4000000 in
set_option maxRecDepth 100000 in
theorem J_YM_mixes_B99 {G : sd_GX} {X : sd_CX} (hE : ∀ g : sd_H, sd_end G X M_YM_mixes (sd_F g)) {h : sd_H} {K49 : sd_H → Int32 → Int32 → Int32 → Int32 → Option (sd_H × Int32)} {K67 : sd_H → Int32 → Int32 → Int32 → Int32 → Int32 → Int32 → Option (sd_H × Int32)} {r : (sd_H × Int32)} (hK49 : ∀ (g : sd_H) (l1 : Int32) (l2 : Int32) (l4 : Int32) (l5 : Int32), K49 g l1 l2 l4 l5 = some r → sd_J G X (sd_QR G X M_YM_mixes (some (.int r.2), sd_F r.1)) M_YM_mixes 49 [(0, .ref (G.1 + 126)), (1, .int l1), (2, .int l2), (4, .int l4), (5, .int l5)] [] (sd_F g)) (hK67 : ∀ (g : sd_H) (l1 : Int32) (l2 : Int32) (l4 : Int32) (l6 : Int32) (l7 : Int32) (l8 : Int32), K67 g l1 l2 l4 l6 l7 l8 = some r → sd_J G X (sd_QR G X M_YM_mixes (some (.int r.2), sd_F r.1)) M_YM_mixes 67 [(0, .ref (G.1 + 126)), (1, .int l1), (2, .int l2), (4, .int l4), (6, .int l6), (7, .int l7), (8, .int l8)] [] (sd_F g)) {l1 : Int32} {l2 : Int32} {l4 : Int32} {l6 : Int32} {l7 : Int32} {l8 : Int32} {l9 : Int32} (hf : YM_mixes_B99 h K49 K67 l1 l2 l4 l6 l7 l8 l9 = some r) : sd_J G X (sd_QR G X M_YM_mixes (some (.int r.2), sd_F r.1)) M_YM_mixes 99 [(0, .ref (G.1 + 126)), (1, .int l1), (2, .int l2), (4, .int l4), (6, .int l6), (7, .int l7), (8, .int l8), (9, .int l9)] [] (sd_F h) := by
  unfold YM_mixes_B99 at hf
  refine sd_iload (i := 7) (q := 5) (pc' := 101) (by decide +kernel) rfl ?_
  refine sd_J.sub (lo' := [(0, .ref (G.1 + 126)), (1, .int l1), (2, .int l2), (4, .int l4), (6, .int l6), (8, .int l8), (9, .int l9)]) [0, 1, 2, 3, 4, 6, 7] rfl ?_
  exact J_YM_mixes_B101 hE hK49 hK67 hf
def YM_mixes_L67 (K49 : sd_H → Int32 → Int32 → Int32 → Int32 → Option (sd_H × Int32)) : Nat → sd_H → Int32 → Int32 → Int32 → Int32 → Int32 → Int32 → Option (sd_H × Int32)
  | 0, _, _, _, _, _, _, _ => none
  | n + 1, h, l1, l2, l4, l6, l7, l8 =>
  (if l1 ≤ l8 then b1 (YM_steps h l7) (fun h14 => b1 (YM_left h14 l1 l2) (fun t16 => K49 h14 l1 l2 (((13 * l4) + 7) - ((13 * l4) + 7) / 64 * 64) t16)) else b1 (YM_turnOf h l8 l1 l2) (fun t18 => (if t18 = (-1) then YM_mixes_B99 h K49 (YM_mixes_L67 K49 n) l1 l2 l4 l6 l7 l8 t18 else (if l6 = 0 then YM_mixes_B101 h K49 (YM_mixes_L67 K49 n) l1 l2 l4 l6 l8 t18 t18 else YM_mixes_B99 h K49 (YM_mixes_L67 K49 n) l1 l2 l4 l6 l7 l8 t18))))
set_option maxHeartbeats 4000000 in
set_option maxRecDepth 100000 in
theorem J_YM_mixes_L67 {G : sd_GX} {X : sd_CX} (hE : ∀ g : sd_H, sd_end G X M_YM_mixes (sd_F g))  {K49 : sd_H → Int32 → Int32 → Int32 → Int32 → Option (sd_H × Int32)} {r : (sd_H × Int32)} (hK49 : ∀ (g : sd_H) (l1 : Int32) (l2 : Int32) (l4 : Int32) (l5 : Int32), K49 g l1 l2 l4 l5 = some r → sd_J G X (sd_QR G X M_YM_mixes (some (.int r.2), sd_F r.1)) M_YM_mixes 49 [(0, .ref (G.1 + 126)), (1, .int l1), (2, .int l2), (4, .int l4), (5, .int l5)] [] (sd_F g)) : ∀ (n : Nat) (h : sd_H) (l1 : Int32) (l2 : Int32) (l4 : Int32) (l6 : Int32) (l7 : Int32) (l8 : Int32), YM_mixes_L67 K49 n h l1 l2 l4 l6 l7 l8 = some r → sd_J G X (sd_QR G X M_YM_mixes (some (.int r.2), sd_F r.1)) M_YM_mixes 67 [(0, .ref (G.1 + 126)), (1, .int l1), (2, .int l2), (4, .int l4), (6, .int l6), (7, .int l7), (8, .int l8)] [] (sd_F h) := by
  intro n
  induction n with
  | zero =>
    intro h l1 l2 l4 l6 l7 l8 hf
    rw [YM_mixes_L67] at hf
    cases hf
  | succ n ih =>
    intro h l1 l2 l4 l6 l7 l8 hf
    rw [YM_mixes_L67] at hf
    refine sd_iload (i := 8) (q := 6) (pc' := 69) (by decide +kernel) rfl ?_
    refine sd_iload_n (k := 1) (i := 1) (q := 1) (pc' := 70) (by decide +kernel) rfl rfl ?_
    refine sd_icmp_ge (off := 55) (tgt := 125) (pc' := 73) (by decide +kernel) (fun c12 => ?_) (fun c12 => ?_)
    · replace hf := ite_p c12 hf
      refine sd_aload_n (k := 0) (i := 0) (q := 0) (pc' := 126) (by decide +kernel) rfl rfl ?_
      refine sd_iload (i := 7) (q := 5) (pc' := 128) (by decide +kernel) rfl ?_
      obtain ⟨h14, q13, hf⟩ := b1_some hf
      refine sF_callV0 (idx := 392) (b := 126) (As := [.int l7]) (ci := 12) (nn := 47) (pc' := 131) 1 (T_YM_steps (G := G) (h := h)  q13) (by decide +kernel) mv_YM_steps ml_X12_392 (by decide +kernel) rfl rfl (Nat.le_of_ble_eq_true rfl) SH_126 rfl (by decide) rfl rfl ?_
      refine sd_bipush (n := 13) (v := 13) (pc' := 133) (by decide +kernel) (by decide) ?_
      refine sd_iload (i := 4) (q := 3) (pc' := 135) (by decide +kernel) rfl ?_
      refine sd_imul (pc' := 136) (by decide +kernel) ?_
      refine sd_bipush (n := 7) (v := 7) (pc' := 138) (by decide +kernel) (by decide) ?_
      refine sd_iadd (pc' := 139) (by decide +kernel) ?_
      refine sd_bipush (n := 64) (v := 64) (pc' := 141) (by decide +kernel) (by decide) ?_
      refine sd_irem (pc' := 142) (by decide +kernel) (by decide) ?_
      refine sd_istore (i := 4) (pc' := 144) (lo' := [(4, .int (((13 * l4) + 7) - ((13 * l4) + 7) / 64 * 64)), (0, .ref (G.1 + 126)), (1, .int l1), (2, .int l2), (6, .int l6), (7, .int l7), (8, .int l8)]) (by decide +kernel) (by decide) rfl ?_
      refine sd_aload_n (k := 0) (i := 0) (q := 1) (pc' := 145) (by decide +kernel) rfl rfl ?_
      refine sd_iload_n (k := 1) (i := 1) (q := 2) (pc' := 146) (by decide +kernel) rfl rfl ?_
      refine sd_iload_n (k := 2) (i := 2) (q := 3) (pc' := 147) (by decide +kernel) rfl rfl ?_
      obtain ⟨t16, q15, hf⟩ := b1_some hf
      refine sF_callV (idx := 401) (b := 126) (As := [.int l1, .int l2]) (ci := 12) (nn := 47) (pc' := 150) 2 (T_YM_left (G := G) (h := h14)  q15) (by decide +kernel) mv_YM_left ml_X12_401 (by decide +kernel) rfl rfl (Nat.le_of_ble_eq_true rfl) SH_126 rfl (by decide) rfl rfl ?_
      refine sd_istore (i := 5) (pc' := 152) (lo' := [(5, .int t16), (4, .int (((13 * l4) + 7) - ((13 * l4) + 7) / 64 * 64)), (0, .ref (G.1 + 126)), (1, .int l1), (2, .int l2), (6, .int l6), (7, .int l7), (8, .int l8)]) (by decide +kernel) (by decide) rfl ?_
      refine sd_goto (off := -103) (tgt := 49) (pc' := 155) (by decide +kernel) ?_
      refine sd_J.sub (lo' := [(0, .ref (G.1 + 126)), (1, .int l1), (2, .int l2), (4, .int (((13 * l4) + 7) - ((13 * l4) + 7) / 64 * 64)), (5, .int t16)]) [2, 3, 4, 1, 0] rfl ?_
      exact hK49 _ _ _ _ _ hf
    · replace hf := ite_n c12 hf
      refine sd_aload_n (k := 0) (i := 0) (q := 0) (pc' := 74) (by decide +kernel) rfl rfl ?_
      refine sd_iload (i := 8) (q := 6) (pc' := 76) (by decide +kernel) rfl ?_
      refine sd_iload_n (k := 1) (i := 1) (q := 1) (pc' := 77) (by decide +kernel) rfl rfl ?_
      refine sd_iload_n (k := 2) (i := 2) (q := 2) (pc' := 78) (by decide +kernel) rfl rfl ?_
      obtain ⟨t18, q17, hf⟩ := b1_some hf
      refine sF_callV (idx := 398) (b := 126) (As := [.int l8, .int l1, .int l2]) (ci := 12) (nn := 47) (pc' := 81) 3 (T_YM_turnOf (G := G) (h := h)  q17) (by decide +kernel) mv_YM_turnOf ml_X12_398 (by decide +kernel) rfl rfl (Nat.le_of_ble_eq_true rfl) SH_126 rfl (by decide) rfl rfl ?_
      refine sd_istore (i := 9) (pc' := 83) (lo' := [(9, .int t18), (0, .ref (G.1 + 126)), (1, .int l1), (2, .int l2), (4, .int l4), (6, .int l6), (7, .int l7), (8, .int l8)]) (by decide +kernel) (by decide) rfl ?_
      refine sd_iload (i := 9) (q := 0) (pc' := 85) (by decide +kernel) rfl ?_
      refine sd_iconst (n := -1) (v := (-1)) (pc' := 86) (by decide +kernel) (by decide) ?_
      refine sd_icmp_eq (off := 13) (tgt := 99) (pc' := 89) (by decide +kernel) (fun c19 => ?_) (fun c19 => ?_)
      · replace hf := ite_p c19 hf
        refine sd_J.sub (lo' := [(0, .ref (G.1 + 126)), (1, .int l1), (2, .int l2), (4, .int l4), (6, .int l6), (7, .int l7), (8, .int l8), (9, .int t18)]) [1, 2, 3, 4, 5, 6, 7, 0] rfl ?_
        exact J_YM_mixes_B99 hE hK49 ih hf
      · replace hf := ite_n c19 hf
        refine sd_iload (i := 6) (q := 5) (pc' := 91) (by decide +kernel) rfl ?_
        refine sd_if_ne (off := 8) (tgt := 99) (pc' := 94) (by decide +kernel) (fun c21 => ?_) (fun c21 => ?_)
        · replace hf := ite_n c21 hf
          refine sd_J.sub (lo' := [(0, .ref (G.1 + 126)), (1, .int l1), (2, .int l2), (4, .int l4), (6, .int l6), (7, .int l7), (8, .int l8), (9, .int t18)]) [1, 2, 3, 4, 5, 6, 7, 0] rfl ?_
          exact J_YM_mixes_B99 hE hK49 ih hf
        · replace hf := ite_p c21 hf
          refine sd_iload (i := 9) (q := 0) (pc' := 96) (by decide +kernel) rfl ?_
          refine sd_goto (off := 5) (tgt := 101) (pc' := 99) (by decide +kernel) ?_
          refine sd_J.sub (lo' := [(0, .ref (G.1 + 126)), (1, .int l1), (2, .int l2), (4, .int l4), (6, .int l6), (8, .int l8), (9, .int t18)]) [1, 2, 3, 4, 5, 7, 0] rfl ?_
          exact J_YM_mixes_B101 hE hK49 ih hf
def YM_mixes_L49 : Nat → sd_H → Int32 → Int32 → Int32 → Int32 → Option (sd_H × Int32)
  | 0, _, _, _, _, _ => none
  | n + 1, h, l1, l2, l4, l5 =>
  (if l5 ≤ 0 then b1 (YM_copiesOut h) (fun h10 => some (h10, (h10.1 126 34))) else gd (nz l5) (YM_mixes_L67 (YM_mixes_L49 n) FU h l1 l2 l4 (l4 - l4 / l5 * l5) (-1) 0))
set_option maxHeartbeats 4000000 in
set_option maxRecDepth 100000 in
theorem J_YM_mixes_L49 {G : sd_GX} {X : sd_CX} (hE : ∀ g : sd_H, sd_end G X M_YM_mixes (sd_F g))  {r : (sd_H × Int32)} : ∀ (n : Nat) (h : sd_H) (l1 : Int32) (l2 : Int32) (l4 : Int32) (l5 : Int32), YM_mixes_L49 n h l1 l2 l4 l5 = some r → sd_J G X (sd_QR G X M_YM_mixes (some (.int r.2), sd_F r.1)) M_YM_mixes 49 [(0, .ref (G.1 + 126)), (1, .int l1), (2, .int l2), (4, .int l4), (5, .int l5)] [] (sd_F h) := by
  intro n
  induction n with
  | zero =>
    intro h l1 l2 l4 l5 hf
    rw [YM_mixes_L49] at hf
    cases hf
  | succ n ih =>
    intro h l1 l2 l4 l5 hf
    rw [YM_mixes_L49] at hf
    refine sd_iload (i := 5) (q := 4) (pc' := 51) (by decide +kernel) rfl ?_
    refine sd_if_le (off := 104) (tgt := 155) (pc' := 54) (by decide +kernel) (fun c8 => ?_) (fun c8 => ?_)
    · replace hf := ite_p c8 hf
      refine sd_aload_n (k := 0) (i := 0) (q := 0) (pc' := 156) (by decide +kernel) rfl rfl ?_
      obtain ⟨h10, q9, hf⟩ := b1_some hf
      refine sF_callV0 (idx := 404) (b := 126) (As := []) (ci := 12) (nn := 47) (pc' := 159) 0 (T_YM_copiesOut (G := G) (h := h)  q9) (by decide +kernel) mv_YM_copiesOut ml_X12_404 (by decide +kernel) rfl rfl (Nat.le_of_ble_eq_true rfl) SH_126 rfl (by decide) rfl rfl ?_
      refine sd_aload_n (k := 0) (i := 0) (q := 0) (pc' := 160) (by decide +kernel) rfl rfl ?_
      refine sF_gi (idx := 377) (ci := 12) (k := 34) (n := 47) (pc' := 163) (by decide +kernel) fl_X12_377 (by decide +kernel) rfl SH_126 ?_
      obtain rfl := Option.some.inj hf
      exact sd_iret (by decide +kernel) rfl (hE _)
    · replace hf := ite_n c8 hf
      refine sd_iload (i := 4) (q := 3) (pc' := 56) (by decide +kernel) rfl ?_
      refine sd_iload (i := 5) (q := 4) (pc' := 58) (by decide +kernel) rfl ?_
      obtain ⟨g11, hf⟩ := gd_some hf
      refine sd_irem (pc' := 59) (by decide +kernel) (nz_of g11) ?_
      refine sd_istore (i := 6) (pc' := 61) (lo' := [(6, .int (l4 - l4 / l5 * l5)), (0, .ref (G.1 + 126)), (1, .int l1), (2, .int l2), (4, .int l4), (5, .int l5)]) (by decide +kernel) (by decide) rfl ?_
      refine sd_iconst (n := -1) (v := (-1)) (pc' := 62) (by decide +kernel) (by decide) ?_
      refine sd_istore (i := 7) (pc' := 64) (lo' := [(7, .int (-1)), (6, .int (l4 - l4 / l5 * l5)), (0, .ref (G.1 + 126)), (1, .int l1), (2, .int l2), (4, .int l4), (5, .int l5)]) (by decide +kernel) (by decide) rfl ?_
      refine sd_iconst (n := 0) (v := 0) (pc' := 65) (by decide +kernel) (by decide) ?_
      refine sd_istore (i := 8) (pc' := 67) (lo' := [(8, .int 0), (7, .int (-1)), (6, .int (l4 - l4 / l5 * l5)), (0, .ref (G.1 + 126)), (1, .int l1), (2, .int l2), (4, .int l4), (5, .int l5)]) (by decide +kernel) (by decide) rfl ?_
      refine sd_J.sub (lo' := [(0, .ref (G.1 + 126)), (1, .int l1), (2, .int l2), (4, .int l4), (6, .int (l4 - l4 / l5 * l5)), (7, .int (-1)), (8, .int 0)]) [3, 4, 5, 6, 2, 1, 0] rfl ?_
      exact J_YM_mixes_L67 hE ih _ _ _ _ _ _ _ _ hf
def YM_mixes_L3 : Nat → sd_H → Int32 → Int32 → Int32 → Int32 → Option (sd_H × Int32)
  | 0, _, _, _, _, _ => none
  | n + 1, h, l1, l2, l3, l4 =>
  (if 6 ≤ l4 then hb (wI h 126 33 1) (fun h2 => b1 (YM_begins h2) (fun h5 => b1 (YM_left h5 l1 l2) (fun t7 => YM_mixes_L49 FU h5 l1 l2 l3 t7))) else b2 (YM_verdictOf h l4) (fun h23 t24 => gd (sd_inB l4 6) (hb (wI h23 146 (l4 : Int32).toNatClampNeg t24) (fun h26 => YM_mixes_L3 n h26 l1 l2 l3 (l4 + 1)))))
set_option maxHeartbeats 4000000 in
set_option maxRecDepth 100000 in
theorem J_YM_mixes_L3 {G : sd_GX} {X : sd_CX} (hE : ∀ g : sd_H, sd_end G X M_YM_mixes (sd_F g))  {r : (sd_H × Int32)} : ∀ (n : Nat) (h : sd_H) (l1 : Int32) (l2 : Int32) (l3 : Int32) (l4 : Int32), YM_mixes_L3 n h l1 l2 l3 l4 = some r → sd_J G X (sd_QR G X M_YM_mixes (some (.int r.2), sd_F r.1)) M_YM_mixes 3 [(0, .ref (G.1 + 126)), (1, .int l1), (2, .int l2), (3, .int l3), (4, .int l4)] [] (sd_F h) := by
  intro n
  induction n with
  | zero =>
    intro h l1 l2 l3 l4 hf
    rw [YM_mixes_L3] at hf
    cases hf
  | succ n ih =>
    intro h l1 l2 l3 l4 hf
    rw [YM_mixes_L3] at hf
    refine sd_iload (i := 4) (q := 4) (pc' := 5) (by decide +kernel) rfl ?_
    refine sd_bipush (n := 6) (v := 6) (pc' := 7) (by decide +kernel) (by decide) ?_
    refine sd_icmp_ge (off := 22) (tgt := 29) (pc' := 10) (by decide +kernel) (fun c1 => ?_) (fun c1 => ?_)
    · replace hf := ite_p c1 hf
      refine sd_aload_n (k := 0) (i := 0) (q := 0) (pc' := 30) (by decide +kernel) rfl rfl ?_
      refine sd_iconst (n := 1) (v := 1) (pc' := 31) (by decide +kernel) (by decide) ?_
      obtain ⟨h2, e3, hf⟩ := hb_some hf
      refine sF_pz (idx := 359) (ci := 12) (k := 33) (n := 47) (pc' := 34) (by decide +kernel) fl_X12_359 (by decide +kernel) rfl rfl rfl SH_126 (by decide) ?_
      rw [← e3]; clear e3
      refine sd_aload_n (k := 0) (i := 0) (q := 0) (pc' := 35) (by decide +kernel) rfl rfl ?_
      obtain ⟨h5, q4, hf⟩ := b1_some hf
      refine sF_callV0 (idx := 389) (b := 126) (As := []) (ci := 12) (nn := 47) (pc' := 38) 0 (T_YM_begins (G := G) (h := h2)  q4) (by decide +kernel) mv_YM_begins ml_X12_389 (by decide +kernel) rfl rfl (Nat.le_of_ble_eq_true rfl) SH_126 rfl (by decide) rfl rfl ?_
      refine sd_iload_n (k := 3) (i := 3) (q := 3) (pc' := 39) (by decide +kernel) rfl rfl ?_
      refine sd_istore (i := 4) (pc' := 41) (lo' := [(4, .int l3), (0, .ref (G.1 + 126)), (1, .int l1), (2, .int l2), (3, .int l3)]) (by decide +kernel) (by decide) rfl ?_
      refine sd_aload_n (k := 0) (i := 0) (q := 1) (pc' := 42) (by decide +kernel) rfl rfl ?_
      refine sd_iload_n (k := 1) (i := 1) (q := 2) (pc' := 43) (by decide +kernel) rfl rfl ?_
      refine sd_iload_n (k := 2) (i := 2) (q := 3) (pc' := 44) (by decide +kernel) rfl rfl ?_
      obtain ⟨t7, q6, hf⟩ := b1_some hf
      refine sF_callV (idx := 401) (b := 126) (As := [.int l1, .int l2]) (ci := 12) (nn := 47) (pc' := 47) 2 (T_YM_left (G := G) (h := h5)  q6) (by decide +kernel) mv_YM_left ml_X12_401 (by decide +kernel) rfl rfl (Nat.le_of_ble_eq_true rfl) SH_126 rfl (by decide) rfl rfl ?_
      refine sd_istore (i := 5) (pc' := 49) (lo' := [(5, .int t7), (4, .int l3), (0, .ref (G.1 + 126)), (1, .int l1), (2, .int l2), (3, .int l3)]) (by decide +kernel) (by decide) rfl ?_
      refine sd_J.sub (lo' := [(0, .ref (G.1 + 126)), (1, .int l1), (2, .int l2), (4, .int l3), (5, .int t7)]) [2, 3, 4, 1, 0] rfl ?_
      exact J_YM_mixes_L49 hE _ _ _ _ _ _ hf
    · replace hf := ite_n c1 hf
      refine sd_aload_n (k := 0) (i := 0) (q := 0) (pc' := 11) (by decide +kernel) rfl rfl ?_
      refine sF_gr (idx := 68) (ci := 12) (k := 29) (n := 47) (r := 146) (pc' := 14) (by decide +kernel) fl_X12_68 (by decide +kernel) rfl SH_126 (by decide) (by decide +kernel) ?_
      refine sd_iload (i := 4) (q := 4) (pc' := 16) (by decide +kernel) rfl ?_
      refine sd_aload_n (k := 0) (i := 0) (q := 0) (pc' := 17) (by decide +kernel) rfl rfl ?_
      refine sd_iload (i := 4) (q := 4) (pc' := 19) (by decide +kernel) rfl ?_
      obtain ⟨h23, t24, q22, hf⟩ := b2_some hf
      refine sF_callV (idx := 313) (b := 126) (As := [.int l4]) (ci := 12) (nn := 47) (pc' := 22) 1 (T_YM_verdictOf (G := G) (h := h)  q22) (by decide +kernel) mv_YM_verdictOf ml_X12_313 (by decide +kernel) rfl rfl (Nat.le_of_ble_eq_true rfl) SH_126 rfl (by decide) rfl rfl ?_
      obtain ⟨g25, hf⟩ := gd_some hf
      obtain ⟨h26, e27, hf⟩ := hb_some hf
      refine sF_iast (n := 6) (pc' := 23) (by decide +kernel) SH_146 g25 ?_
      rw [← e27]; clear e27
      refine sd_iinc (i := 4) (q := 4) (n := 1) (v := (l4 + 1)) (pc' := 26) (lo' := [(4, .int (l4 + 1)), (0, .ref (G.1 + 126)), (1, .int l1), (2, .int l2), (3, .int l3)]) (by decide +kernel) rfl rfl (by decide) rfl ?_
      refine sd_goto (off := -23) (tgt := 3) (pc' := 29) (by decide +kernel) ?_
      refine sd_J.sub (lo' := [(0, .ref (G.1 + 126)), (1, .int l1), (2, .int l2), (3, .int l3), (4, .int (l4 + 1))]) [1, 2, 3, 4, 0] rfl ?_
      exact ih _ _ _ _ _ hf
def YM_mixes (h : sd_H) (a0 : Int32) (a1 : Int32) (a2 : Int32) : Option (sd_H × Int32) :=
  YM_mixes_L3 FU h a0 a1 a2 0
set_option maxHeartbeats 4000000 in
set_option maxRecDepth 100000 in
theorem T_YM_mixes {G : sd_GX} {h : sd_H} {a0 : Int32} {a1 : Int32} {a2 : Int32} {r : (sd_H × Int32)} (hf : YM_mixes h a0 a1 a2 = some r) : sd_RunF G M_YM_mixes [.ref (G.1 + 126), .int a0, .int a1, .int a2] h (some (.int r.2)) r.1 := by
  refine sF_run ⟨rfl, rfl⟩ (by decide +kernel) (Nat.le_of_ble_eq_true rfl) (lo := [(0, .ref (G.1 + 126)), (1, .int a0), (2, .int a1), (3, .int a2)]) rfl (fun X hE => ?_)
  unfold YM_mixes at hf
  refine sd_iconst (n := 0) (v := 0) (pc' := 1) (by decide +kernel) (by decide) ?_
  refine sd_istore (i := 4) (pc' := 3) (lo' := [(4, .int 0), (0, .ref (G.1 + 126)), (1, .int a0), (2, .int a1), (3, .int a2)]) (by decide +kernel) (by decide) rfl ?_
  refine sd_J.sub (lo' := [(0, .ref (G.1 + 126)), (1, .int a0), (2, .int a1), (3, .int a2), (4, .int 0)]) [1, 2, 3, 4, 0] rfl ?_
  exact J_YM_mixes_L3 hE _ _ _ _ _ _ hf

theorem ml_X12_407 : Cond.methodLink RX12 407 yX12_serials ∈ sd_tb := sd_mem (i := 1686) (by decide +kernel)
theorem mv_YM_serials : sd_mV M_YM_serials 0 := ⟨sd_mem (i := 1688) (by decide +kernel), sd_mem (i := 97) (by decide +kernel), ⟨sd_mem (i := 1689) (by decide +kernel), sd_mem (i := 119) (by decide +kernel), by decide +kernel, by decide +kernel, by decide +kernel⟩⟩
def M_YM_mayMix : sd_MX := (yX12_mayMix, cX12_mayMix, 5, (some .int), { frames := 11, cells := 0, slots := 0, locals := 269 })
def YM_mayMix (h : sd_H) (a0 : Int32) (a1 : Int32) (a2 : Int32) (a3 : Int32) : Option (sd_H × Int32) :=
  b1 (YM_in a0 1 4) (fun t2 => (if t2 = 0 then some (h, (-2)) else b1 (YM_in a1 0 2) (fun t5 => (if t5 = 0 then some (h, (-2)) else b1 (YM_in a2 0 63) (fun t8 => (if t8 = 0 then some (h, (-2)) else b1 (YM_in a3 0 1) (fun t11 => (if t11 = 0 then some (h, (-2)) else (if a3 = 0 then b2 (YM_serials h) (fun h15 t16 => (if t16 ≤ 0 then some (h15, 0) else some (h15, (-3)))) else some (h, 0))))))))))
set_option maxHeartbeats 4000000 in
set_option maxRecDepth 100000 in
theorem T_YM_mayMix {G : sd_GX} {h : sd_H} {a0 : Int32} {a1 : Int32} {a2 : Int32} {a3 : Int32} {r : (sd_H × Int32)} (hf : YM_mayMix h a0 a1 a2 a3 = some r) : sd_RunF G M_YM_mayMix [.ref (G.1 + 126), .int a0, .int a1, .int a2, .int a3] h (some (.int r.2)) r.1 := by
  refine sF_run ⟨rfl, rfl⟩ (by decide +kernel) (Nat.le_of_ble_eq_true rfl) (lo := [(0, .ref (G.1 + 126)), (1, .int a0), (2, .int a1), (3, .int a2), (4, .int a3)]) rfl (fun X hE => ?_)
  unfold YM_mayMix at hf
  refine sd_iload_n (k := 1) (i := 1) (q := 1) (pc' := 1) (by decide +kernel) rfl rfl ?_
  refine sd_iconst (n := 1) (v := 1) (pc' := 2) (by decide +kernel) (by decide) ?_
  refine sd_iconst (n := 4) (v := 4) (pc' := 3) (by decide +kernel) (by decide) ?_
  obtain ⟨t2, q1, hf⟩ := b1_some hf
  refine sF_callS (idx := 114) (As := [.int a0, .int 1, .int 4]) (pc' := 6) 3 (T_YM_in (G := G) (h := h)  q1) (by decide +kernel) mv_YM_in ml_X12_114 (by decide +kernel) rfl rfl (Nat.le_of_ble_eq_true rfl) rfl ?_
  refine sd_if_eq (off := 32) (tgt := 38) (pc' := 9) (by decide +kernel) (fun c3 => ?_) (fun c3 => ?_)
  · replace hf := ite_p c3 hf
    refine sd_bipush (n := -2) (v := (-2)) (pc' := 40) (by decide +kernel) (by decide) ?_
    obtain rfl := Option.some.inj hf
    exact sd_iret (by decide +kernel) rfl (hE _)
  · replace hf := ite_n c3 hf
    refine sd_iload_n (k := 2) (i := 2) (q := 2) (pc' := 10) (by decide +kernel) rfl rfl ?_
    refine sd_iconst (n := 0) (v := 0) (pc' := 11) (by decide +kernel) (by decide) ?_
    refine sd_iconst (n := 2) (v := 2) (pc' := 12) (by decide +kernel) (by decide) ?_
    obtain ⟨t5, q4, hf⟩ := b1_some hf
    refine sF_callS (idx := 114) (As := [.int a1, .int 0, .int 2]) (pc' := 15) 3 (T_YM_in (G := G) (h := h)  q4) (by decide +kernel) mv_YM_in ml_X12_114 (by decide +kernel) rfl rfl (Nat.le_of_ble_eq_true rfl) rfl ?_
    refine sd_if_eq (off := 23) (tgt := 38) (pc' := 18) (by decide +kernel) (fun c6 => ?_) (fun c6 => ?_)
    · replace hf := ite_p c6 hf
      refine sd_bipush (n := -2) (v := (-2)) (pc' := 40) (by decide +kernel) (by decide) ?_
      obtain rfl := Option.some.inj hf
      exact sd_iret (by decide +kernel) rfl (hE _)
    · replace hf := ite_n c6 hf
      refine sd_iload_n (k := 3) (i := 3) (q := 3) (pc' := 19) (by decide +kernel) rfl rfl ?_
      refine sd_iconst (n := 0) (v := 0) (pc' := 20) (by decide +kernel) (by decide) ?_
      refine sd_bipush (n := 63) (v := 63) (pc' := 22) (by decide +kernel) (by decide) ?_
      obtain ⟨t8, q7, hf⟩ := b1_some hf
      refine sF_callS (idx := 114) (As := [.int a2, .int 0, .int 63]) (pc' := 25) 3 (T_YM_in (G := G) (h := h)  q7) (by decide +kernel) mv_YM_in ml_X12_114 (by decide +kernel) rfl rfl (Nat.le_of_ble_eq_true rfl) rfl ?_
      refine sd_if_eq (off := 13) (tgt := 38) (pc' := 28) (by decide +kernel) (fun c9 => ?_) (fun c9 => ?_)
      · replace hf := ite_p c9 hf
        refine sd_bipush (n := -2) (v := (-2)) (pc' := 40) (by decide +kernel) (by decide) ?_
        obtain rfl := Option.some.inj hf
        exact sd_iret (by decide +kernel) rfl (hE _)
      · replace hf := ite_n c9 hf
        refine sd_iload (i := 4) (q := 4) (pc' := 30) (by decide +kernel) rfl ?_
        refine sd_iconst (n := 0) (v := 0) (pc' := 31) (by decide +kernel) (by decide) ?_
        refine sd_iconst (n := 1) (v := 1) (pc' := 32) (by decide +kernel) (by decide) ?_
        obtain ⟨t11, q10, hf⟩ := b1_some hf
        refine sF_callS (idx := 114) (As := [.int a3, .int 0, .int 1]) (pc' := 35) 3 (T_YM_in (G := G) (h := h)  q10) (by decide +kernel) mv_YM_in ml_X12_114 (by decide +kernel) rfl rfl (Nat.le_of_ble_eq_true rfl) rfl ?_
        refine sd_if_ne (off := 6) (tgt := 41) (pc' := 38) (by decide +kernel) (fun c12 => ?_) (fun c12 => ?_)
        · replace hf := ite_n c12 hf
          refine sd_iload (i := 4) (q := 4) (pc' := 43) (by decide +kernel) rfl ?_
          refine sd_if_ne (off := 15) (tgt := 58) (pc' := 46) (by decide +kernel) (fun c13 => ?_) (fun c13 => ?_)
          · replace hf := ite_n c13 hf
            refine sd_iconst (n := 0) (v := 0) (pc' := 59) (by decide +kernel) (by decide) ?_
            obtain rfl := Option.some.inj hf
            exact sd_iret (by decide +kernel) rfl (hE _)
          · replace hf := ite_p c13 hf
            refine sd_aload_n (k := 0) (i := 0) (q := 0) (pc' := 47) (by decide +kernel) rfl rfl ?_
            obtain ⟨h15, t16, q14, hf⟩ := b2_some hf
            refine sF_callV (idx := 407) (b := 126) (As := []) (ci := 12) (nn := 47) (pc' := 50) 0 (T_YM_serials (G := G) (h := h)  q14) (by decide +kernel) mv_YM_serials ml_X12_407 (by decide +kernel) rfl rfl (Nat.le_of_ble_eq_true rfl) SH_126 rfl (by decide) rfl rfl ?_
            refine sd_if_le (off := 8) (tgt := 58) (pc' := 53) (by decide +kernel) (fun c17 => ?_) (fun c17 => ?_)
            · replace hf := ite_p c17 hf
              refine sd_iconst (n := 0) (v := 0) (pc' := 59) (by decide +kernel) (by decide) ?_
              obtain rfl := Option.some.inj hf
              exact sd_iret (by decide +kernel) rfl (hE _)
            · replace hf := ite_n c17 hf
              refine sd_bipush (n := -3) (v := (-3)) (pc' := 55) (by decide +kernel) (by decide) ?_
              refine sd_goto (off := 4) (tgt := 59) (pc' := 58) (by decide +kernel) ?_
              obtain rfl := Option.some.inj hf
              exact sd_iret (by decide +kernel) rfl (hE _)
        · replace hf := ite_p c12 hf
          refine sd_bipush (n := -2) (v := (-2)) (pc' := 40) (by decide +kernel) (by decide) ?_
          obtain rfl := Option.some.inj hf
          exact sd_iret (by decide +kernel) rfl (hE _)
