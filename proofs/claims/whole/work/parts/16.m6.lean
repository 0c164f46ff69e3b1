theorem fl_X7_128 : sd_fl RX7 128 9 2 := ⟨sd_mem (i := 224) (by decide +kernel), by decide, by decide⟩
def M_XU_goOn : sd_MX := (yX7_goOn, cX7_goOn, 4, none, { frames := 4, cells := 0, slots := 0, locals := 108 })
def XU_goOn (h : sd_H) (a0 : Int32) (a1 : Nat) (a2 : Int32) : Option sd_H :=
  gd (sd_inB a0 4) (gd (sd_inB a0 4) (hb (wI h 106 (a0 : Int32).toNatClampNeg ((h.1 106 (a0 : Int32).toNatClampNeg) + 1)) (fun h3 => gd (sd_inB a0 4) ((if (h3.1 106 (a0 : Int32).toNatClampNeg) = (h3.1 a1 2) then gd (sd_inB a0 4) (hb (wI h3 106 (a0 : Int32).toNatClampNeg 0) (fun h8 => gd (sd_inB a0 4) (op (h8.2.2 0) 6 4 (fun w11 => b1 (XL_nextDone h8 a2 ((h8.1 105 (a0 : Int32).toNatClampNeg) + 1) w11) (fun t15 => gd (sd_inB a0 4) (hb (wI h8 105 (a0 : Int32).toNatClampNeg t15) (fun h17 => some h17))))))) else some h3)))))
set_option maxHeartbeats 4000000 in
set_option maxRecDepth 100000 in
theorem T_XU_goOn {G : sd_GX} {h : sd_H} {a0 : Int32} {a1 : Nat} {a2 : Int32} {r : sd_H} (pa1 : sd_SH a1 = (9, 6)) (hf : XU_goOn h a0 a1 a2 = some r) : sd_RunF G M_XU_goOn [.ref (G.1 + 100), .int a0, .ref (G.1 + a1), .int a2] h none r := by
  refine sF_run ⟨rfl, rfl⟩ (by decide +kernel) (Nat.le_of_ble_eq_true rfl) (lo := [(0, .ref (G.1 + 100)), (1, .int a0), (2, .ref (G.1 + a1)), (3, .int a2)]) rfl (fun X hE => ?_)
  unfold XU_goOn at hf
  refine sd_aload_n (k := 0) (i := 0) (q := 0) (pc' := 1) (by decide +kernel) rfl rfl ?_
  refine sF_gr (idx := 28) (ci := 7) (k := 6) (n := 11) (r := 106) (pc' := 4) (by decide +kernel) fl_X7_28 (by decide +kernel) rfl SH_100 (by decide) (by decide +kernel) ?_
  refine sd_iload_n (k := 1) (i := 1) (q := 1) (pc' := 5) (by decide +kernel) rfl rfl ?_
  refine sd_dup2 (pc' := 6) (by decide +kernel) rfl rfl ?_
  obtain ⟨g1, hf⟩ := gd_some hf
  refine sF_iald (n := 4) (pc' := 7) (by decide +kernel) SH_106 g1 ?_
  refine sd_iconst (n := 1) (v := 1) (pc' := 8) (by decide +kernel) (by decide) ?_
  refine sd_iadd (pc' := 9) (by decide +kernel) ?_
  obtain ⟨g2, hf⟩ := gd_some hf
  obtain ⟨h3, e4, hf⟩ := hb_some hf
  refine sF_iast (n := 4) (pc' := 10) (by decide +kernel) SH_106 g2 ?_
  rw [← e4]; clear e4
  refine sd_aload_n (k := 0) (i := 0) (q := 0) (pc' := 11) (by decide +kernel) rfl rfl ?_
  refine sF_gr (idx := 28) (ci := 7) (k := 6) (n := 11) (r := 106) (pc' := 14) (by decide +kernel) fl_X7_28 (by decide +kernel) rfl SH_100 (by decide) (by decide +kernel) ?_
  refine sd_iload_n (k := 1) (i := 1) (q := 1) (pc' := 15) (by decide +kernel) rfl rfl ?_
  obtain ⟨g5, hf⟩ := gd_some hf
  refine sF_iald (n := 4) (pc' := 16) (by decide +kernel) SH_106 g5 ?_
  refine sd_aload_n (k := 2) (i := 2) (q := 2) (pc' := 17) (by decide +kernel) rfl rfl ?_
  refine sF_gi (idx := 128) (ci := 9) (k := 2) (n := 6) (pc' := 20) (by decide +kernel) fl_X7_128 (by decide +kernel) rfl pa1 ?_
  refine sd_icmp_ne (off := 36) (tgt := 56) (pc' := 23) (by decide +kernel) (fun c6 => ?_) (fun c6 => ?_)
  · replace hf := ite_n c6 hf
    obtain rfl := Option.some.inj hf
    exact sd_vret (by decide +kernel) rfl (hE _)
  · replace hf := ite_p c6 hf
    refine sd_aload_n (k := 0) (i := 0) (q := 0) (pc' := 24) (by decide +kernel) rfl rfl ?_
    refine sF_gr (idx := 28) (ci := 7) (k := 6) (n := 11) (r := 106) (pc' := 27) (by decide +kernel) fl_X7_28 (by decide +kernel) rfl SH_100 (by decide) (by decide +kernel) ?_
    refine sd_iload_n (k := 1) (i := 1) (q := 1) (pc' := 28) (by decide +kernel) rfl rfl ?_
    refine sd_iconst (n := 0) (v := 0) (pc' := 29) (by decide +kernel) (by decide) ?_
    obtain ⟨g7, hf⟩ := gd_some hf
    obtain ⟨h8, e9, hf⟩ := hb_some hf
    refine sF_iast (n := 4) (pc' := 30) (by decide +kernel) SH_106 g7 ?_
    rw [← e9]; clear e9
    refine sd_aload_n (k := 0) (i := 0) (q := 0) (pc' := 31) (by decide +kernel) rfl rfl ?_
    refine sF_gr (idx := 25) (ci := 7) (k := 5) (n := 11) (r := 105) (pc' := 34) (by decide +kernel) fl_X7_25 (by decide +kernel) rfl SH_100 (by decide) (by decide +kernel) ?_
    refine sd_iload_n (k := 1) (i := 1) (q := 1) (pc' := 35) (by decide +kernel) rfl rfl ?_
    refine sd_aload_n (k := 0) (i := 0) (q := 0) (pc' := 36) (by decide +kernel) rfl rfl ?_
    refine sF_gr (idx := 35) (ci := 7) (k := 0) (n := 11) (r := 6) (pc' := 39) (by decide +kernel) fl_X7_35 (by decide +kernel) rfl SH_100 (by decide) (by decide +kernel) ?_
    refine sd_iload_n (k := 3) (i := 3) (q := 3) (pc' := 40) (by decide +kernel) rfl rfl ?_
    refine sd_aload_n (k := 0) (i := 0) (q := 0) (pc' := 41) (by decide +kernel) rfl rfl ?_
    refine sF_gr (idx := 25) (ci := 7) (k := 5) (n := 11) (r := 105) (pc' := 44) (by decide +kernel) fl_X7_25 (by decide +kernel) rfl SH_100 (by decide) (by decide +kernel) ?_
    refine sd_iload_n (k := 1) (i := 1) (q := 1) (pc' := 45) (by decide +kernel) rfl rfl ?_
    obtain ⟨g10, hf⟩ := gd_some hf
    refine sF_iald (n := 4) (pc' := 46) (by decide +kernel) SH_105 g10 ?_
    refine sd_iconst (n := 1) (v := 1) (pc' := 47) (by decide +kernel) (by decide) ?_
    refine sd_iadd (pc' := 48) (by decide +kernel) ?_
    refine sd_aload_n (k := 0) (i := 0) (q := 0) (pc' := 49) (by decide +kernel) rfl rfl ?_
    obtain ⟨w11, e12, pw13, hf⟩ := op_some hf
    refine sF_gm (idx := 76) (k := 7) (w := 0) (r := w11) (pc' := 52) (by decide +kernel) fl_X7_76 (by decide) e12 ?_
    obtain ⟨t15, q14, hf⟩ := b1_some hf
    refine sF_callV (idx := 103) (b := 6) (As := [.int a2, .int ((h8.1 105 (a0 : Int32).toNatClampNeg) + 1), .ref (G.1 + w11)]) (ci := 2) (nn := 3) (pc' := 55) 3 (T_XL_nextDone (G := G) (h := h8) pw13 q14) (by decide +kernel) mv_XL_nextDone ml_X7_103 (by decide +kernel) rfl rfl (Nat.le_of_ble_eq_true rfl) SH_6 rfl (by decide) rfl rfl ?_
    obtain ⟨g16, hf⟩ := gd_some hf
    obtain ⟨h17, e18, hf⟩ := hb_some hf
    refine sF_iast (n := 4) (pc' := 56) (by decide +kernel) SH_105 g16 ?_
    rw [← e18]; clear e18
    obtain rfl := Option.some.inj hf
    exact sd_vret (by decide +kernel) rfl (hE _)

theorem fl_X4_15 : sd_fl RX4 15 4 1 := ⟨sd_mem (i := 408) (by decide +kernel), by decide, by decide⟩
def M_XO_end : sd_MX := (yX4_end, cX4_end, 2, none, { frames := 1, cells := 0, slots := 0, locals := 40 })
def XO_end (h : sd_H) (this : Nat) (a0 : Int32) : Option sd_H :=
  (if 10 ≤ (h.1 this 2) then some h else hb (wI h this 2 ((h.1 this 2) + 1)) (fun h2 => gd (sd_inB (h.1 this 2) 10) (hb (wI h2 (this + 2) ((h.1 this 2) : Int32).toNatClampNeg a0) (fun h5 => some h5))))
set_option maxHeartbeats 4000000 in
set_option maxRecDepth 100000 in
theorem T_XO_end {G : sd_GX} {h : sd_H} {this : Nat} {a0 : Int32} {r : sd_H} (pt : sd_SH this = (4, 4)) (hf : XO_end h this a0 = some r) : sd_RunF G M_XO_end [.ref (G.1 + this), .int a0] h none r := by
  refine sF_run ⟨rfl, rfl⟩ (by decide +kernel) (Nat.le_of_ble_eq_true rfl) (lo := [(0, .ref (G.1 + this)), (1, .int a0)]) rfl (fun X hE => ?_)
  unfold XO_end at hf
  refine sd_aload_n (k := 0) (i := 0) (q := 0) (pc' := 1) (by decide +kernel) rfl rfl ?_
  refine sF_gi (idx := 22) (ci := 4) (k := 2) (n := 4) (pc' := 4) (by decide +kernel) fl_X4_22 (by decide +kernel) rfl pt ?_
  refine sd_bipush (n := 10) (v := 10) (pc' := 6) (by decide +kernel) (by decide) ?_
  refine sd_icmp_ge (off := 20) (tgt := 26) (pc' := 9) (by decide +kernel) (fun c1 => ?_) (fun c1 => ?_)
  · replace hf := ite_p c1 hf
    obtain rfl := Option.some.inj hf
    exact sd_vret (by decide +kernel) rfl (hE _)
  · replace hf := ite_n c1 hf
    refine sd_aload_n (k := 0) (i := 0) (q := 0) (pc' := 10) (by decide +kernel) rfl rfl ?_
    refine sF_gr (idx := 15) (ci := 4) (k := 1) (n := 4) (r := (this + 2)) (pc' := 13) (by decide +kernel) fl_X4_15 (by decide +kernel) rfl pt (by decide) (rt_4_1 pt) ?_
    refine sd_aload_n (k := 0) (i := 0) (q := 0) (pc' := 14) (by decide +kernel) rfl rfl ?_
    refine sd_dup (pc' := 15) (by decide +kernel) rfl ?_
    refine sF_gi (idx := 22) (ci := 4) (k := 2) (n := 4) (pc' := 18) (by decide +kernel) fl_X4_22 (by decide +kernel) rfl pt ?_
    refine sd_dup_x1 (pc' := 19) (by decide +kernel) rfl rfl ?_
    refine sd_iconst (n := 1) (v := 1) (pc' := 20) (by decide +kernel) (by decide) ?_
    refine sd_iadd (pc' := 21) (by decide +kernel) ?_
    obtain ⟨h2, e3, hf⟩ := hb_some hf
    refine sF_pi (idx := 22) (ci := 4) (k := 2) (n := 4) (pc' := 24) (by decide +kernel) fl_X4_22 (by decide +kernel) rfl rfl rfl pt ?_
    rw [← e3]; clear e3
    refine sd_iload_n (k := 1) (i := 1) (q := 1) (pc' := 25) (by decide +kernel) rfl rfl ?_
    obtain ⟨g4, hf⟩ := gd_some hf
    obtain ⟨h5, e6, hf⟩ := hb_some hf
    refine sF_iast (n := 10) (pc' := 26) (by decide +kernel) (sh_4_1 pt) g4 ?_
    rw [← e6]; clear e6
    obtain rfl := Option.some.inj hf
    exact sd_vret (by decide +kernel) rfl (hE _)

theorem fl_X7_107 : sd_fl RX7 107 2 0 := ⟨sd_mem (i := 251) (by decide +kernel), by decide, by decide⟩
theorem ml_X7_111 : Cond.methodLink RX7 111 yX7_doItem ∈ sd_tb := sd_mem (i := 973) (by decide +kernel)
theorem mv_XU_doItem : sd_mV M_XU_doItem 3 := ⟨sd_mem (i := 975) (by decide +kernel), sd_mem (i := 24) (by decide +kernel), ⟨sd_mem (i := 976) (by decide +kernel), sd_mem (i := 117) (by decide +kernel), by decide +kernel, by decide +kernel, by decide +kernel⟩⟩
theorem fl_X7_118 : sd_fl RX7 118 4 3 := ⟨sd_mem (i := 413) (by decide +kernel), by decide, by decide⟩
theorem ml_X7_121 : Cond.methodLink RX7 121 yX7_goOn ∈ sd_tb := sd_mem (i := 1034) (by decide +kernel)
theorem mv_XU_goOn : sd_mV M_XU_goOn 3 := ⟨sd_mem (i := 1036) (by decide +kernel), sd_mem (i := 28) (by decide +kernel), ⟨sd_mem (i := 1037) (by decide +kernel), sd_mem (i := 117) (by decide +kernel), by decide +kernel, by decide +kernel, by decide +kernel⟩⟩
theorem ml_X7_125 : Cond.methodLink RX7 125 yX4_end ∈ sd_tb := sd_mem (i := 1038) (by decide +kernel)
theorem mv_XO_end : sd_mV M_XO_end 1 := ⟨sd_mem (i := 1039) (by decide +kernel), sd_mem (i := 1040) (by decide +kernel), ⟨sd_mem (i := 1041) (by decide +kernel), sd_mem (i := 118) (by decide +kernel), by decide +kernel, by decide +kernel, by decide +kernel⟩⟩
theorem fl_X7_115 : sd_fl RX7 115 4 0 := ⟨sd_mem (i := 406) (by decide +kernel), by decide, by decide⟩
def M_XU_step : sd_MX := (yX7_step, cX7_step, 5, none, { frames := 5, cells := 0, slots := 0, locals := 143 })
def XU_step_B123 (h : sd_H) (s0 : Int32) (s1 : Int32) : Option sd_H :=
  b1 (XU_enter h s1 s0) (fun h25 => some h25)
set_option maxHeartbeats 4000000 in
set_option maxRecDepth 100000 in
theorem J_XU_step_B123 {G : sd_GX} {X : sd_CX} (hE : ∀ g : sd_H, sd_end G X M_XU_step (sd_F g)) {h : sd_H} {r : sd_H} {s0 : Int32} {s1 : Int32} (hf : XU_step_B123 h s0 s1 = some r) : sd_J G X (sd_QR G X M_XU_step (none, sd_F r)) M_XU_step 123 [] [.int s0, .int s1, .ref (G.1 + 100)] (sd_F h) := by
  unfold XU_step_B123 at hf
  obtain ⟨h25, q24, hf⟩ := b1_some hf
  refine sF_callV0 (idx := 96) (b := 100) (As := [.int s1, .int s0]) (ci := 7) (nn := 11) (pc' := 126) 2 (T_XU_enter (G := G) (h := h)  q24) (by decide +kernel) mv_XU_enter ml_X7_96 (by decide +kernel) rfl rfl (Nat.le_of_ble_eq_true rfl) SH_100 rfl (by decide) rfl rfl ?_
  obtain rfl := Option.some.inj hf
  exact sd_vret (by decide +kernel) rfl (hE _)
def XU_step_B86 (h : sd_H) (l1 : Int32) (l2 : Int32) : Option sd_H :=
  gd (sd_inB l1 4) ((if (h.1 105 (l1 : Int32).toNatClampNeg) = (-1) then op (h.2.2 1) 4 4 (fun w18 => b1 (XO_end h w18 l2) (fun h22 => (if (h22.1 100 10) = 2 then XU_step_B123 h22 (l2 - 1) l1 else XU_step_B123 h22 (l2 + 1) l1))) else some h))
set_option maxHeartbeats 4000000 in
set_option maxRecDepth 100000 in
theorem J_XU_step_B86 {G : sd_GX} {X : sd_CX} (hE : ∀ g : sd_H, sd_end G X M_XU_step (sd_F g)) {h : sd_H} {r : sd_H} {l1 : Int32} {l2 : Int32} (hf : XU_step_B86 h l1 l2 = some r) : sd_J G X (sd_QR G X M_XU_step (none, sd_F r)) M_XU_step 86 [(0, .ref (G.1 + 100)), (1, .int l1), (2, .int l2)] [] (sd_F h) := by
  unfold XU_step_B86 at hf
  refine sd_aload_n (k := 0) (i := 0) (q := 0) (pc' := 87) (by decide +kernel) rfl rfl ?_
  refine sF_gr (idx := 25) (ci := 7) (k := 5) (n := 11) (r := 105) (pc' := 90) (by decide +kernel) fl_X7_25 (by decide +kernel) rfl SH_100 (by decide) (by decide +kernel) ?_
  refine sd_iload_n (k := 1) (i := 1) (q := 1) (pc' := 91) (by decide +kernel) rfl rfl ?_
  obtain ⟨g16, hf⟩ := gd_some hf
  refine sF_iald (n := 4) (pc' := 92) (by decide +kernel) SH_105 g16 ?_
  refine sd_iconst (n := -1) (v := (-1)) (pc' := 93) (by decide +kernel) (by decide) ?_
  refine sd_icmp_ne (off := 33) (tgt := 126) (pc' := 96) (by decide +kernel) (fun c17 => ?_) (fun c17 => ?_)
  · replace hf := ite_n c17 hf
    obtain rfl := Option.some.inj hf
    exact sd_vret (by decide +kernel) rfl (hE _)
  · replace hf := ite_p c17 hf
    refine sd_aload_n (k := 0) (i := 0) (q := 0) (pc' := 97) (by decide +kernel) rfl rfl ?_
    obtain ⟨w18, e19, pw20, hf⟩ := op_some hf
    refine sF_gm (idx := 77) (k := 8) (w := 1) (r := w18) (pc' := 100) (by decide +kernel) fl_X7_77 (by decide) e19 ?_
    refine sd_iload_n (k := 2) (i := 2) (q := 2) (pc' := 101) (by decide +kernel) rfl rfl ?_
    obtain ⟨h22, q21, hf⟩ := b1_some hf
    refine sF_callV0 (idx := 125) (b := w18) (As := [.int l2]) (ci := 4) (nn := 4) (pc' := 104) 1 (T_XO_end (G := G) (h := h) pw20 q21) (by decide +kernel) mv_XO_end ml_X7_125 (by decide +kernel) rfl rfl (Nat.le_of_ble_eq_true rfl) pw20 rfl (by decide) rfl rfl ?_
    refine sd_aload_n (k := 0) (i := 0) (q := 0) (pc' := 105) (by decide +kernel) rfl rfl ?_
    refine sd_iload_n (k := 1) (i := 1) (q := 1) (pc' := 106) (by decide +kernel) rfl rfl ?_
    refine sd_aload_n (k := 0) (i := 0) (q := 0) (pc' := 107) (by decide +kernel) rfl rfl ?_
    refine sF_gi (idx := 81) (ci := 7) (k := 10) (n := 11) (pc' := 110) (by decide +kernel) fl_X7_81 (by decide +kernel) rfl SH_100 ?_
    refine sd_iconst (n := 2) (v := 2) (pc' := 111) (by decide +kernel) (by decide) ?_
    refine sd_icmp_ne (off := 9) (tgt := 120) (pc' := 114) (by decide +kernel) (fun c23 => ?_) (fun c23 => ?_)
    · replace hf := ite_n c23 hf
      refine sd_iload_n (k := 2) (i := 2) (q := 2) (pc' := 121) (by decide +kernel) rfl rfl ?_
      refine sd_iconst (n := 1) (v := 1) (pc' := 122) (by decide +kernel) (by decide) ?_
      refine sd_iadd (pc' := 123) (by decide +kernel) ?_
      refine sd_J.sub (lo' := []) [] rfl ?_
      exact J_XU_step_B123 hE hf
    · replace hf := ite_p c23 hf
      refine sd_iload_n (k := 2) (i := 2) (q := 2) (pc' := 115) (by decide +kernel) rfl rfl ?_
      refine sd_iconst (n := 1) (v := 1) (pc' := 116) (by decide +kernel) (by decide) ?_
      refine sd_isub (pc' := 117) (by decide +kernel) ?_
      refine sd_goto (off := 6) (tgt := 123) (pc' := 120) (by decide +kernel) ?_
      refine sd_J.sub (lo' := []) [] rfl ?_
      exact J_XU_step_B123 hE hf
def XU_step (h : sd_H) (a0 : Int32) : Option sd_H :=
  gd (sd_inB a0 4) (gd (sd_inB a0 4) (gd (sd_inB (h.1 105 (a0 : Int32).toNatClampNeg) 5) (gd (sd_inB a0 4) (b2 (XU_doItem h (8 + 5 * ((h.1 105 (a0 : Int32).toNatClampNeg) : Int32).toNatClampNeg) (h.1 104 (a0 : Int32).toNatClampNeg) (h.1 106 (a0 : Int32).toNatClampNeg)) (fun h6 t7 => (if t7 = (-1) then op (h6.2.2 1) 4 4 (fun w9 => hb (wI h6 w9 3 ((h6.1 w9 3) + 1)) (fun h12 => b1 (XU_goOn h12 a0 (8 + 5 * ((h.1 105 (a0 : Int32).toNatClampNeg) : Int32).toNatClampNeg) (h.1 104 (a0 : Int32).toNatClampNeg)) (fun h15 => XU_step_B86 h15 a0 (h.1 104 (a0 : Int32).toNatClampNeg)))) else op (h6.2.2 1) 4 4 (fun w26 => gd (sd_inB t7 3) (gd (sd_inB t7 3) (hb (wI h6 (w26 + 1) (t7 : Int32).toNatClampNeg ((h6.1 (w26 + 1) (t7 : Int32).toNatClampNeg) + 1)) (fun h31 => gd (sd_inB a0 4) (hb (wI h31 105 (a0 : Int32).toNatClampNeg (-1)) (fun h34 => XU_step_B86 h34 a0 (h.1 104 (a0 : Int32).toNatClampNeg)))))))))))))
set_option maxHeartbeats 4000000 in
set_option maxRecDepth 100000 in
theorem T_XU_step {G : sd_GX} {h : sd_H} {a0 : Int32} {r : sd_H} (hf : XU_step h a0 = some r) : sd_RunF G M_XU_step [.ref (G.1 + 100), .int a0] h none r := by
  refine sF_run ⟨rfl, rfl⟩ (by decide +kernel) (Nat.le_of_ble_eq_true rfl) (lo := [(0, .ref (G.1 + 100)), (1, .int a0)]) rfl (fun X hE => ?_)
  unfold XU_step at hf
  refine sd_aload_n (k := 0) (i := 0) (q := 0) (pc' := 1) (by decide +kernel) rfl rfl ?_
  refine sF_gr (idx := 22) (ci := 7) (k := 4) (n := 11) (r := 104) (pc' := 4) (by decide +kernel) fl_X7_22 (by decide +kernel) rfl SH_100 (by decide) (by decide +kernel) ?_
  refine sd_iload_n (k := 1) (i := 1) (q := 1) (pc' := 5) (by decide +kernel) rfl rfl ?_
  obtain ⟨g1, hf⟩ := gd_some hf
  refine sF_iald (n := 4) (pc' := 6) (by decide +kernel) SH_104 g1 ?_
  refine sd_istore_n (k := 2) (i := 2) (pc' := 7) (lo' := [(2, .int (h.1 104 (a0 : Int32).toNatClampNeg)), (0, .ref (G.1 + 100)), (1, .int a0)]) (by decide +kernel) rfl (by decide) rfl ?_
  refine sd_aload_n (k := 0) (i := 0) (q := 1) (pc' := 8) (by decide +kernel) rfl rfl ?_
  refine sF_gr (idx := 35) (ci := 7) (k := 0) (n := 11) (r := 6) (pc' := 11) (by decide +kernel) fl_X7_35 (by decide +kernel) rfl SH_100 (by decide) (by decide +kernel) ?_
  refine sF_gr (idx := 107) (ci := 2) (k := 0) (n := 3) (r := 7) (pc' := 14) (by decide +kernel) fl_X7_107 (by decide +kernel) rfl SH_6 (by decide) (by decide +kernel) ?_
  refine sd_aload_n (k := 0) (i := 0) (q := 1) (pc' := 15) (by decide +kernel) rfl rfl ?_
  refine sF_gr (idx := 25) (ci := 7) (k := 5) (n := 11) (r := 105) (pc' := 18) (by decide +kernel) fl_X7_25 (by decide +kernel) rfl SH_100 (by decide) (by decide +kernel) ?_
  refine sd_iload_n (k := 1) (i := 1) (q := 2) (pc' := 19) (by decide +kernel) rfl rfl ?_
  obtain ⟨g2, hf⟩ := gd_some hf
  refine sF_iald (n := 4) (pc' := 20) (by decide +kernel) SH_105 g2 ?_
  obtain ⟨g3, hf⟩ := gd_some hf
  refine sF_aald (n := 5) (r := (8 + 5 * ((h.1 105 (a0 : Int32).toNatClampNeg) : Int32).toNatClampNeg)) (pc' := 21) (by decide +kernel) SH_7 (by decide) g3 (rta_7 (inB_lt g3)) ?_
  refine sd_astore_n (k := 3) (i := 3) (pc' := 22) (lo' := [(3, .ref (G.1 + (8 + 5 * ((h.1 105 (a0 : Int32).toNatClampNeg) : Int32).toNatClampNeg))), (2, .int (h.1 104 (a0 : Int32).toNatClampNeg)), (0, .ref (G.1 + 100)), (1, .int a0)]) (by decide +kernel) rfl (by decide) rfl ?_
  refine sd_aload_n (k := 0) (i := 0) (q := 2) (pc' := 23) (by decide +kernel) rfl rfl ?_
  refine sd_aload_n (k := 3) (i := 3) (q := 0) (pc' := 24) (by decide +kernel) rfl rfl ?_
  refine sd_iload_n (k := 2) (i := 2) (q := 1) (pc' := 25) (by decide +kernel) rfl rfl ?_
  refine sd_aload_n (k := 0) (i := 0) (q := 2) (pc' := 26) (by decide +kernel) rfl rfl ?_
  refine sF_gr (idx := 28) (ci := 7) (k := 6) (n := 11) (r := 106) (pc' := 29) (by decide +kernel) fl_X7_28 (by decide +kernel) rfl SH_100 (by decide) (by decide +kernel) ?_
  refine sd_iload_n (k := 1) (i := 1) (q := 3) (pc' := 30) (by decide +kernel) rfl rfl ?_
  obtain ⟨g4, hf⟩ := gd_some hf
  refine sF_iald (n := 4) (pc' := 31) (by decide +kernel) SH_106 g4 ?_
  obtain ⟨h6, t7, q5, hf⟩ := b2_some hf
  refine sF_callV (idx := 111) (b := 100) (As := [.ref (G.1 + (8 + 5 * ((h.1 105 (a0 : Int32).toNatClampNeg) : Int32).toNatClampNeg)), .int (h.1 104 (a0 : Int32).toNatClampNeg), .int (h.1 106 (a0 : Int32).toNatClampNeg)]) (ci := 7) (nn := 11) (pc' := 34) 3 (T_XU_doItem (G := G) (h := h) (sha_7 (inB_lt g3)) q5) (by decide +kernel) mv_XU_doItem ml_X7_111 (by decide +kernel) rfl rfl (Nat.le_of_ble_eq_true rfl) SH_100 rfl (by decide) rfl rfl ?_
  refine sd_istore (i := 4) (pc' := 36) (lo' := [(4, .int t7), (3, .ref (G.1 + (8 + 5 * ((h.1 105 (a0 : Int32).toNatClampNeg) : Int32).toNatClampNeg))), (2, .int (h.1 104 (a0 : Int32).toNatClampNeg)), (0, .ref (G.1 + 100)), (1, .int a0)]) (by decide +kernel) (by decide) rfl ?_
  refine sd_iload (i := 4) (q := 0) (pc' := 38) (by decide +kernel) rfl ?_
  refine sd_iconst (n := -1) (v := (-1)) (pc' := 39) (by decide +kernel) (by decide) ?_
  refine sd_icmp_eq (off := 27) (tgt := 66) (pc' := 42) (by decide +kernel) (fun c8 => ?_) (fun c8 => ?_)
  · replace hf := ite_p c8 hf
    refine sd_aload_n (k := 0) (i := 0) (q := 3) (pc' := 67) (by decide +kernel) rfl rfl ?_
    obtain ⟨w9, e10, pw11, hf⟩ := op_some hf
    refine sF_gm (idx := 77) (k := 8) (w := 1) (r := w9) (pc' := 70) (by decide +kernel) fl_X7_77 (by decide) e10 ?_
    refine sd_dup (pc' := 71) (by decide +kernel) rfl ?_
    refine sF_gi (idx := 118) (ci := 4) (k := 3) (n := 4) (pc' := 74) (by decide +kernel) fl_X7_118 (by decide +kernel) rfl pw11 ?_
    refine sd_iconst (n := 1) (v := 1) (pc' := 75) (by decide +kernel) (by decide) ?_
    refine sd_iadd (pc' := 76) (by decide +kernel) ?_
    obtain ⟨h12, e13, hf⟩ := hb_some hf
    refine sF_pi (idx := 118) (ci := 4) (k := 3) (n := 4) (pc' := 79) (by decide +kernel) fl_X7_118 (by decide +kernel) rfl rfl rfl pw11 ?_
    rw [← e13]; clear e13
    refine sd_aload_n (k := 0) (i := 0) (q := 3) (pc' := 80) (by decide +kernel) rfl rfl ?_
    refine sd_iload_n (k := 1) (i := 1) (q := 4) (pc' := 81) (by decide +kernel) rfl rfl ?_
    refine sd_aload_n (k := 3) (i := 3) (q := 1) (pc' := 82) (by decide +kernel) rfl rfl ?_
    refine sd_iload_n (k := 2) (i := 2) (q := 2) (pc' := 83) (by decide +kernel) rfl rfl ?_
    obtain ⟨h15, q14, hf⟩ := b1_some hf
    refine sF_callV0 (idx := 121) (b := 100) (As := [.int a0, .ref (G.1 + (8 + 5 * ((h.1 105 (a0 : Int32).toNatClampNeg) : Int32).toNatClampNeg)), .int (h.1 104 (a0 : Int32).toNatClampNeg)]) (ci := 7) (nn := 11) (pc' := 86) 3 (T_XU_goOn (G := G) (h := h12) (sha_7 (inB_lt g3)) q14) (by decide +kernel) mv_XU_goOn ml_X7_121 (by decide +kernel) rfl rfl (Nat.le_of_ble_eq_true rfl) SH_100 rfl (by decide) rfl rfl ?_
    refine sd_J.sub (lo' := [(0, .ref (G.1 + 100)), (1, .int a0), (2, .int (h.1 104 (a0 : Int32).toNatClampNeg))]) [3, 4, 2] rfl ?_
    exact J_XU_step_B86 hE hf
  · replace hf := ite_n c8 hf
    refine sd_aload_n (k := 0) (i := 0) (q := 3) (pc' := 43) (by decide +kernel) rfl rfl ?_
    obtain ⟨w26, e27, pw28, hf⟩ := op_some hf
    refine sF_gm (idx := 77) (k := 8) (w := 1) (r := w26) (pc' := 46) (by decide +kernel) fl_X7_77 (by decide) e27 ?_
    refine sF_gr (idx := 115) (ci := 4) (k := 0) (n := 4) (r := (w26 + 1)) (pc' := 49) (by decide +kernel) fl_X7_115 (by decide +kernel) rfl pw28 (by decide) (rt_4_0 pw28) ?_
    refine sd_iload (i := 4) (q := 0) (pc' := 51) (by decide +kernel) rfl ?_
    refine sd_dup2 (pc' := 52) (by decide +kernel) rfl rfl ?_
    obtain ⟨g29, hf⟩ := gd_some hf
    refine sF_iald (n := 3) (pc' := 53) (by decide +kernel) (sh_4_0 pw28) g29 ?_
    refine sd_iconst (n := 1) (v := 1) (pc' := 54) (by decide +kernel) (by decide) ?_
    refine sd_iadd (pc' := 55) (by decide +kernel) ?_
    obtain ⟨g30, hf⟩ := gd_some hf
    obtain ⟨h31, e32, hf⟩ := hb_some hf
    refine sF_iast (n := 3) (pc' := 56) (by decide +kernel) (sh_4_0 pw28) g30 ?_
    rw [← e32]; clear e32
    refine sd_aload_n (k := 0) (i := 0) (q := 3) (pc' := 57) (by decide +kernel) rfl rfl ?_
    refine sF_gr (idx := 25) (ci := 7) (k := 5) (n := 11) (r := 105) (pc' := 60) (by decide +kernel) fl_X7_25 (by decide +kernel) rfl SH_100 (by decide) (by decide +kernel) ?_
    refine sd_iload_n (k := 1) (i := 1) (q := 4) (pc' := 61) (by decide +kernel) rfl rfl ?_
    refine sd_iconst (n := -1) (v := (-1)) (pc' := 62) (by decide +kernel) (by decide) ?_
    obtain ⟨g33, hf⟩ := gd_some hf
    obtain ⟨h34, e35, hf⟩ := hb_some hf
    refine sF_iast (n := 4) (pc' := 63) (by decide +kernel) SH_105 g33 ?_
    rw [← e35]; clear e35
    refine sd_goto (off := 23) (tgt := 86) (pc' := 66) (by decide +kernel) ?_
    refine sd_J.sub (lo' := [(0, .ref (G.1 + 100)), (1, .int a0), (2, .int (h.1 104 (a0 : Int32).toNatClampNeg))]) [3, 4, 2] rfl ?_
    exact J_XU_step_B86 hE hf

def M_XU_copyOutRow : sd_MX := (yX7_copyOutRow, cX7_copyOutRow, 5, none, { frames := 1, cells := 0, slots := 0, locals := 40 })
def XU_copyOutRow_B86 (h : sd_H) (K15 : sd_H → Int32 → Int32 → Int32 → Int32 → Option sd_H) (l1 : Int32) (l2 : Int32) (l3 : Int32) (l4 : Int32) : Option sd_H :=
  K15 h l1 l2 l3 (l4 + 1)
set_option maxHeartbeats 4000000 in
set_option maxRecDepth 100000 in
theorem J_XU_copyOutRow_B86 {G : sd_GX} {X : sd_CX} (hE : ∀ g : sd_H, sd_end G X M_XU_copyOutRow (sd_F g)) {h : sd_H} {K15 : sd_H → Int32 → Int32 → Int32 → Int32 → Option sd_H} {r : sd_H} (hK15 : ∀ (g : sd_H) (l1 : Int32) (l2 : Int32) (l3 : Int32) (l4 : Int32), K15 g l1 l2 l3 l4 = some r → sd_J G X (sd_QR G X M_XU_copyOutRow (none, sd_F r)) M_XU_copyOutRow 15 [(0, .ref (G.1 + 100)), (1, .int l1), (2, .int l2), (3, .int l3), (4, .int l4)] [] (sd_F g)) {l1 : Int32} {l2 : Int32} {l3 : Int32} {l4 : Int32} (hf : XU_copyOutRow_B86 h K15 l1 l2 l3 l4 = some r) : sd_J G X (sd_QR G X M_XU_copyOutRow (none, sd_F r)) M_XU_copyOutRow 86 [(0, .ref (G.1 + 100)), (1, .int l1), (2, .int l2), (3, .int l3), (4, .int l4)] [] (sd_F h) := by
  unfold XU_copyOutRow_B86 at hf
  refine sd_iinc (i := 4) (q := 4) (n := 1) (v := (l4 + 1)) (pc' := 89) (lo' := [(4, .int (l4 + 1)), (0, .ref (G.1 + 100)), (1, .int l1), (2, .int l2), (3, .int l3)]) (by decide +kernel) rfl rfl (by decide) rfl ?_
  refine sd_goto (off := -74) (tgt := 15) (pc' := 92) (by decide +kernel) ?_
  refine sd_J.sub (lo' := [(0, .ref (G.1 + 100)), (1, .int l1), (2, .int l2), (3, .int l3), (4, .int (l4 + 1))]) [1, 2, 3, 4, 0] rfl ?_
  exact hK15 _ _ _ _ _ hf
def XU_copyOutRow_L15 : Nat → sd_H → Int32 → Int32 → Int32 → Int32 → Option sd_H
  | 0, _, _, _, _, _ => none
  | n + 1, h, l1, l2, l3, l4 =>
  (if (l3 >>> (l4 &&& 31)) = 0 then some h else (if 24 ≤ l4 then some h else (if ((l3 >>> (l4 &&& 31)) &&& 1) = 0 then XU_copyOutRow_B86 h (XU_copyOutRow_L15 n) l1 l2 l3 l4 else op (h.2.2 0) 6 4 (fun w5 => gd (sd_inB ((((l1 * 6) + l2) * 24) + l4) 1440) (gd (sd_inB ((l2 * 24) + l4) 144) (hb (wD h (w5 + 3) (((l2 * 24) + l4) : Int32).toNatClampNeg (h.2.1 102 (((((l1 * 6) + l2) * 24) + l4) : Int32).toNatClampNeg)) (fun h10 => op (h10.2.2 0) 6 4 (fun w12 => gd (sd_inB ((l2 * 24) + l4) 144) (hb (wI h10 (w12 + 4) (((l2 * 24) + l4) : Int32).toNatClampNeg l1) (fun h16 => XU_copyOutRow_B86 h16 (XU_copyOutRow_L15 n) l1 l2 l3 l4))))))))))
set_option maxHeartbeats 4000000 in
set_option maxRecDepth 100000 in
theorem J_XU_copyOutRow_L15 {G : sd_GX} {X : sd_CX} (hE : ∀ g : sd_H, sd_end G X M_XU_copyOutRow (sd_F g))  {r : sd_H} : ∀ (n : Nat) (h : sd_H) (l1 : Int32) (l2 : Int32) (l3 : Int32) (l4 : Int32), XU_copyOutRow_L15 n h l1 l2 l3 l4 = some r → sd_J G X (sd_QR G X M_XU_copyOutRow (none, sd_F r)) M_XU_copyOutRow 15 [(0, .ref (G.1 + 100)), (1, .int l1), (2, .int l2), (3, .int l3), (4, .int l4)] [] (sd_F h) := by
  intro n
  induction n with
  | zero =>
    intro h l1 l2 l3 l4 hf
    rw [XU_copyOutRow_L15] at hf
    cases hf
  | succ n ih =>
    intro h l1 l2 l3 l4 hf
    rw [XU_copyOutRow_L15] at hf
    refine sd_iload_n (k := 3) (i := 3) (q := 3) (pc' := 16) (by decide +kernel) rfl rfl ?_
    refine sd_iload (i := 4) (q := 4) (pc' := 18) (by decide +kernel) rfl ?_
    refine sd_ishr (pc' := 19) (by decide +kernel) ?_
    refine sd_if_eq (off := 73) (tgt := 92) (pc' := 22) (by decide +kernel) (fun c2 => ?_) (fun c2 => ?_)
    · replace hf := ite_p c2 hf
      obtain rfl := Option.some.inj hf
      exact sd_vret (by decide +kernel) rfl (hE _)
    · replace hf := ite_n c2 hf
      refine sd_iload (i := 4) (q := 4) (pc' := 24) (by decide +kernel) rfl ?_
      refine sd_bipush (n := 24) (v := 24) (pc' := 26) (by decide +kernel) (by decide) ?_
      refine sd_icmp_ge (off := 66) (tgt := 92) (pc' := 29) (by decide +kernel) (fun c3 => ?_) (fun c3 => ?_)
      · replace hf := ite_p c3 hf
        obtain rfl := Option.some.inj hf
        exact sd_vret (by decide +kernel) rfl (hE _)
      · replace hf := ite_n c3 hf
        refine sd_iload_n (k := 3) (i := 3) (q := 3) (pc' := 30) (by decide +kernel) rfl rfl ?_
        refine sd_iload (i := 4) (q := 4) (pc' := 32) (by decide +kernel) rfl ?_
        refine sd_ishr (pc' := 33) (by decide +kernel) ?_
        refine sd_iconst (n := 1) (v := 1) (pc' := 34) (by decide +kernel) (by decide) ?_
        refine sd_iand (pc' := 35) (by decide +kernel) ?_
        refine sd_if_eq (off := 51) (tgt := 86) (pc' := 38) (by decide +kernel) (fun c4 => ?_) (fun c4 => ?_)
        · replace hf := ite_p c4 hf
          refine sd_J.sub (lo' := [(0, .ref (G.1 + 100)), (1, .int l1), (2, .int l2), (3, .int l3), (4, .int l4)]) [0, 1, 2, 3, 4] rfl ?_
          exact J_XU_copyOutRow_B86 hE ih hf
        · replace hf := ite_n c4 hf
          refine sd_aload_n (k := 0) (i := 0) (q := 0) (pc' := 39) (by decide +kernel) rfl rfl ?_
          obtain ⟨w5, e6, pw7, hf⟩ := op_some hf
          refine sF_gm (idx := 76) (k := 7) (w := 0) (r := w5) (pc' := 42) (by decide +kernel) fl_X7_76 (by decide) e6 ?_
          refine sF_gr (idx := 192) (ci := 6) (k := 2) (n := 4) (r := (w5 + 3)) (pc' := 45) (by decide +kernel) fl_X7_192 (by decide +kernel) rfl pw7 (by decide) (rt_6_2 pw7) ?_
          refine sd_iload_n (k := 2) (i := 2) (q := 2) (pc' := 46) (by decide +kernel) rfl rfl ?_
          refine sd_bipush (n := 24) (v := 24) (pc' := 48) (by decide +kernel) (by decide) ?_
          refine sd_imul (pc' := 49) (by decide +kernel) ?_
          refine sd_iload (i := 4) (q := 4) (pc' := 51) (by decide +kernel) rfl ?_
          refine sd_iadd (pc' := 52) (by decide +kernel) ?_
          refine sd_aload_n (k := 0) (i := 0) (q := 0) (pc' := 53) (by decide +kernel) rfl rfl ?_
          refine sF_gr (idx := 15) (ci := 7) (k := 2) (n := 11) (r := 102) (pc' := 56) (by decide +kernel) fl_X7_15 (by decide +kernel) rfl SH_100 (by decide) (by decide +kernel) ?_
          refine sd_iload_n (k := 1) (i := 1) (q := 1) (pc' := 57) (by decide +kernel) rfl rfl ?_
          refine sd_bipush (n := 6) (v := 6) (pc' := 59) (by decide +kernel) (by decide) ?_
          refine sd_imul (pc' := 60) (by decide +kernel) ?_
          refine sd_iload_n (k := 2) (i := 2) (q := 2) (pc' := 61) (by decide +kernel) rfl rfl ?_
          refine sd_iadd (pc' := 62) (by decide +kernel) ?_
          refine sd_bipush (n := 24) (v := 24) (pc' := 64) (by decide +kernel) (by decide) ?_
          refine sd_imul (pc' := 65) (by decide +kernel) ?_
          refine sd_iload (i := 4) (q := 4) (pc' := 67) (by decide +kernel) rfl ?_
          refine sd_iadd (pc' := 68) (by decide +kernel) ?_
          obtain ⟨g8, hf⟩ := gd_some hf
          refine sF_dald (n := 1440) (pc' := 69) (by decide +kernel) SH_102 g8 ?_
          obtain ⟨g9, hf⟩ := gd_some hf
          obtain ⟨h10, e11, hf⟩ := hb_some hf
          refine sF_dast (n := 144) (pc' := 70) (by decide +kernel) (sh_6_2 pw7) g9 ?_
          rw [← e11]; clear e11
          refine sd_aload_n (k := 0) (i := 0) (q := 0) (pc' := 71) (by decide +kernel) rfl rfl ?_
          obtain ⟨w12, e13, pw14, hf⟩ := op_some hf
          refine sF_gm (idx := 76) (k := 7) (w := 0) (r := w12) (pc' := 74) (by decide +kernel) fl_X7_76 (by decide) e13 ?_
          refine sF_gr (idx := 195) (ci := 6) (k := 3) (n := 4) (r := (w12 + 4)) (pc' := 77) (by decide +kernel) fl_X7_195 (by decide +kernel) rfl pw14 (by decide) (rt_6_3 pw14) ?_
          refine sd_iload_n (k := 2) (i := 2) (q := 2) (pc' := 78) (by decide +kernel) rfl rfl ?_
          refine sd_bipush (n := 24) (v := 24) (pc' := 80) (by decide +kernel) (by decide) ?_
          refine sd_imul (pc' := 81) (by decide +kernel) ?_
          refine sd_iload (i := 4) (q := 4) (pc' := 83) (by decide +kernel) rfl ?_
          refine sd_iadd (pc' := 84) (by decide +kernel) ?_
          refine sd_iload_n (k := 1) (i := 1) (q := 1) (pc' := 85) (by decide +kernel) rfl rfl ?_
          obtain ⟨g15, hf⟩ := gd_some hf
          obtain ⟨h16, e17, hf⟩ := hb_some hf
          refine sF_iast (n := 144) (pc' := 86) (by decide +kernel) (sh_6_3 pw14) g15 ?_
          rw [← e17]; clear e17
          refine sd_J.sub (lo' := [(0, .ref (G.1 + 100)), (1, .int l1), (2, .int l2), (3, .int l3), (4, .int l4)]) [0, 1, 2, 3, 4] rfl ?_
          exact J_XU_copyOutRow_B86 hE ih hf
def XU_copyOutRow (h : sd_H) (a0 : Int32) (a1 : Int32) : Option sd_H :=
  gd (sd_inB ((a0 * 6) + a1) 60) (XU_copyOutRow_L15 FU h a0 a1 (h.1 103 (((a0 * 6) + a1) : Int32).toNatClampNeg) 0)
set_option maxHeartbeats 4000000 in
set_option maxRecDepth 100000 in
theorem T_XU_copyOutRow {G : sd_GX} {h : sd_H} {a0 : Int32} {a1 : Int32} {r : sd_H} (hf : XU_copyOutRow h a0 a1 = some r) : sd_RunF G M_XU_copyOutRow [.ref (G.1 + 100), .int a0, .int a1] h none r := by
  refine sF_run ⟨rfl, rfl⟩ (by decide +kernel) (Nat.le_of_ble_eq_true rfl) (lo := [(0, .ref (G.1 + 100)), (1, .int a0), (2, .int a1)]) rfl (fun X hE => ?_)
  unfold XU_copyOutRow at hf
  refine sd_aload_n (k := 0) (i := 0) (q := 0) (pc' := 1) (by decide +kernel) rfl rfl ?_
  refine sF_gr (idx := 19) (ci := 7) (k := 3) (n := 11) (r := 103) (pc' := 4) (by decide +kernel) fl_X7_19 (by decide +kernel) rfl SH_100 (by decide) (by decide +kernel) ?_
  refine sd_iload_n (k := 1) (i := 1) (q := 1) (pc' := 5) (by decide +kernel) rfl rfl ?_
  refine sd_bipush (n := 6) (v := 6) (pc' := 7) (by decide +kernel) (by decide) ?_
  refine sd_imul (pc' := 8) (by decide +kernel) ?_
  refine sd_iload_n (k := 2) (i := 2) (q := 2) (pc' := 9) (by decide +kernel) rfl rfl ?_
  refine sd_iadd (pc' := 10) (by decide +kernel) ?_
  obtain ⟨g1, hf⟩ := gd_some hf
  refine sF_iald (n := 60) (pc' := 11) (by decide +kernel) SH_103 g1 ?_
  refine sd_istore_n (k := 3) (i := 3) (pc' := 12) (lo' := [(3, .int (h.1 103 (((a0 * 6) + a1) : Int32).toNatClampNeg)), (0, .ref (G.1 + 100)), (1, .int a0), (2, .int a1)]) (by decide +kernel) rfl (by decide) rfl ?_
  refine sd_iconst (n := 0) (v := 0) (pc' := 13) (by decide +kernel) (by decide) ?_
  refine sd_istore (i := 4) (pc' := 15) (lo' := [(4, .int 0), (3, .int (h.1 103 (((a0 * 6) + a1) : Int32).toNatClampNeg)), (0, .ref (G.1 + 100)), (1, .int a0), (2, .int a1)]) (by decide +kernel) (by decide) rfl ?_
  refine sd_J.sub (lo' := [(0, .ref (G.1 + 100)), (1, .int a0), (2, .int a1), (3, .int (h.1 103 (((a0 * 6) + a1) : Int32).toNatClampNeg)), (4, .int 0)]) [2, 3, 4, 1, 0] rfl ?_
  exact J_XU_copyOutRow_L15 hE _ _ _ _ _ _ hf

theorem ml_X7_203 : Cond.methodLink RX7 203 yX7_copyOutRow ∈ sd_tb := sd_mem (i := 1046) (by decide +kernel)
theorem mv_XU_copyOutRow : sd_mV M_XU_copyOutRow 2 := ⟨sd_mem (i := 1048) (by decide +kernel), sd_mem (i := 30) (by decide +kernel), ⟨sd_mem (i := 1049) (by decide +kernel), sd_mem (i := 117) (by decide +kernel), by decide +kernel, by decide +kernel, by decide +kernel⟩⟩
def M_XU_copyOut : sd_MX := (yX7_copyOut, cX7_copyOut, 3, none, { frames := 2, cells := 0, slots := 0, locals := 64 })
def XU_copyOut_L15 (K2 : sd_H → Int32 → Option sd_H) : Nat → sd_H → Int32 → Int32 → Option sd_H
  | 0, _, _, _ => none
  | n + 1, h, l1, l2 =>
  (if 6 ≤ l2 then K2 h (l1 + 1) else b1 (XU_copyOutRow h l1 l2) (fun h4 => XU_copyOut_L15 K2 n h4 l1 (l2 + 1)))
set_option maxHeartbeats 4000000 in
set_option maxRecDepth 100000 in
theorem J_XU_copyOut_L15 {G : sd_GX} {X : sd_CX} (hE : ∀ g : sd_H, sd_end G X M_XU_copyOut (sd_F g))  {K2 : sd_H → Int32 → Option sd_H} {r : sd_H} (hK2 : ∀ (g : sd_H) (l1 : Int32), K2 g l1 = some r → sd_J G X (sd_QR G X M_XU_copyOut (none, sd_F r)) M_XU_copyOut 2 [(0, .ref (G.1 + 100)), (1, .int l1)] [] (sd_F g)) : ∀ (n : Nat) (h : sd_H) (l1 : Int32) (l2 : Int32), XU_copyOut_L15 K2 n h l1 l2 = some r → sd_J G X (sd_QR G X M_XU_copyOut (none, sd_F r)) M_XU_copyOut 15 [(0, .ref (G.1 + 100)), (1, .int l1), (2, .int l2)] [] (sd_F h) := by
  intro n
  induction n with
  | zero =>
    intro h l1 l2 hf
    rw [XU_copyOut_L15] at hf
    cases hf
  | succ n ih =>
    intro h l1 l2 hf
    rw [XU_copyOut_L15] at hf
    refine sd_iload_n (k := 2) (i := 2) (q := 2) (pc' := 16) (by decide +kernel) rfl rfl ?_
    refine sd_bipush (n := 6) (v := 6) (pc' := 18) (by decide +kernel) (by decide) ?_
    refine sd_icmp_ge (off := 15) (tgt := 33) (pc' := 21) (by decide +kernel) (fun c2 => ?_) (fun c2 => ?_)
    · replace hf := ite_p c2 hf
      refine sd_iinc (i := 1) (q := 1) (n := 1) (v := (l1 + 1)) (pc' := 36) (lo' := [(1, .int (l1 + 1)), (0, .ref (G.1 + 100)), (2, .int l2)]) (by decide +kernel) rfl rfl (by decide) rfl ?_
      refine sd_goto (off := -34) (tgt := 2) (pc' := 39) (by decide +kernel) ?_
      refine sd_J.sub (lo' := [(0, .ref (G.1 + 100)), (1, .int (l1 + 1))]) [1, 0] rfl ?_
      exact hK2 _ _ hf
    · replace hf := ite_n c2 hf
      refine sd_aload_n (k := 0) (i := 0) (q := 0) (pc' := 22) (by decide +kernel) rfl rfl ?_
      refine sd_iload_n (k := 1) (i := 1) (q := 1) (pc' := 23) (by decide +kernel) rfl rfl ?_
      refine sd_iload_n (k := 2) (i := 2) (q := 2) (pc' := 24) (by decide +kernel) rfl rfl ?_
      obtain ⟨h4, q3, hf⟩ := b1_some hf
      refine sF_callV0 (idx := 203) (b := 100) (As := [.int l1, .int l2]) (ci := 7) (nn := 11) (pc' := 27) 2 (T_XU_copyOutRow (G := G) (h := h)  q3) (by decide +kernel) mv_XU_copyOutRow ml_X7_203 (by decide +kernel) rfl rfl (Nat.le_of_ble_eq_true rfl) SH_100 rfl (by decide) rfl rfl ?_
      refine sd_iinc (i := 2) (q := 2) (n := 1) (v := (l2 + 1)) (pc' := 30) (lo' := [(2, .int (l2 + 1)), (0, .ref (G.1 + 100)), (1, .int l1)]) (by decide +kernel) rfl rfl (by decide) rfl ?_
      refine sd_goto (off := -15) (tgt := 15) (pc' := 33) (by decide +kernel) ?_
      refine sd_J.sub (lo' := [(0, .ref (G.1 + 100)), (1, .int l1), (2, .int (l2 + 1))]) [1, 2, 0] rfl ?_
      exact ih _ _ _ hf
def XU_copyOut_L2 : Nat → sd_H → Int32 → Option sd_H
  | 0, _, _ => none
  | n + 1, h, l1 =>
  (if (h.1 6 1) ≤ l1 then some h else XU_copyOut_L15 (XU_copyOut_L2 n) FU h l1 0)
set_option maxHeartbeats 4000000 in
set_option maxRecDepth 100000 in
theorem J_XU_copyOut_L2 {G : sd_GX} {X : sd_CX} (hE : ∀ g : sd_H, sd_end G X M_XU_copyOut (sd_F g))  {r : sd_H} : ∀ (n : Nat) (h : sd_H) (l1 : Int32), XU_copyOut_L2 n h l1 = some r → sd_J G X (sd_QR G X M_XU_copyOut (none, sd_F r)) M_XU_copyOut 2 [(0, .ref (G.1 + 100)), (1, .int l1)] [] (sd_F h) := by
  intro n
  induction n with
  | zero =>
    intro h l1 hf
    rw [XU_copyOut_L2] at hf
    cases hf
  | succ n ih =>
    intro h l1 hf
    rw [XU_copyOut_L2] at hf
    refine sd_iload_n (k := 1) (i := 1) (q := 1) (pc' := 3) (by decide +kernel) rfl rfl ?_
    refine sd_aload_n (k := 0) (i := 0) (q := 0) (pc' := 4) (by decide +kernel) rfl rfl ?_
    refine sF_gr (idx := 35) (ci := 7) (k := 0) (n := 11) (r := 6) (pc' := 7) (by decide +kernel) fl_X7_35 (by decide +kernel) rfl SH_100 (by decide) (by decide +kernel) ?_
    refine sF_gi (idx := 91) (ci := 2) (k := 1) (n := 3) (pc' := 10) (by decide +kernel) fl_X7_91 (by decide +kernel) rfl SH_6 ?_
    refine sd_icmp_ge (off := 29) (tgt := 39) (pc' := 13) (by decide +kernel) (fun c1 => ?_) (fun c1 => ?_)
    · replace hf := ite_p c1 hf
      obtain rfl := Option.some.inj hf
      exact sd_vret (by decide +kernel) rfl (hE _)
    · replace hf := ite_n c1 hf
      refine sd_iconst (n := 0) (v := 0) (pc' := 14) (by decide +kernel) (by decide) ?_
      refine sd_istore_n (k := 2) (i := 2) (pc' := 15) (lo' := [(2, .int 0), (0, .ref (G.1 + 100)), (1, .int l1)]) (by decide +kernel) rfl (by decide) rfl ?_
      refine sd_J.sub (lo' := [(0, .ref (G.1 + 100)), (1, .int l1), (2, .int 0)]) [1, 2, 0] rfl ?_
      exact J_XU_copyOut_L15 hE ih _ _ _ _ hf
def XU_copyOut (h : sd_H) : Option sd_H :=
  XU_copyOut_L2 FU h 0
set_option maxHeartbeats 4000000 in
set_option maxRecDepth 100000 in
theorem T_XU_copyOut {G : sd_GX} {h : sd_H} {r : sd_H} (hf : XU_copyOut h = some r) : sd_RunF G M_XU_copyOut [.ref (G.1 + 100)] h none r := by
  refine sF_run ⟨rfl, rfl⟩ (by decide +kernel) (Nat.le_of_ble_eq_true rfl) (lo := [(0, .ref (G.1 + 100))]) rfl (fun X hE => ?_)
  unfold XU_copyOut at hf
  refine sd_iconst (n := 0) (v := 0) (pc' := 1) (by decide +kernel) (by decide) ?_
  refine sd_istore_n (k := 1) (i := 1) (pc' := 2) (lo' := [(1, .int 0), (0, .ref (G.1 + 100))]) (by decide +kernel) rfl (by decide) rfl ?_
  refine sd_J.sub (lo' := [(0, .ref (G.1 + 100)), (1, .int 0)]) [1, 0] rfl ?_
  exact J_XU_copyOut_L2 hE _ _ _ hf

theorem ml_X7_57 : Cond.methodLink RX7 57 yX7_begin ∈ sd_tb := sd_mem (i := 937) (by decide +kernel)
theorem mv_XU_begin : sd_mV M_XU_begin 4 := ⟨sd_mem (i := 939) (by decide +kernel), sd_mem (i := 18) (by decide +kernel), ⟨sd_mem (i := 940) (by decide +kernel), sd_mem (i := 117) (by decide +kernel), by decide +kernel, by decide +kernel, by decide +kernel⟩⟩
theorem ml_X7_61 : Cond.methodLink RX7 61 yX7_busyWorkers ∈ sd_tb := sd_mem (i := 961) (by decide +kernel)
theorem mv_XU_busyWorkers : sd_mV M_XU_busyWorkers 0 := ⟨sd_mem (i := 963) (by decide +kernel), sd_mem (i := 21) (by decide +kernel), ⟨sd_mem (i := 964) (by decide +kernel), sd_mem (i := 117) (by decide +kernel), by decide +kernel, by decide +kernel, by decide +kernel⟩⟩
theorem ml_X7_73 : Cond.methodLink RX7 73 yX7_copyOut ∈ sd_tb := sd_mem (i := 1042) (by decide +kernel)
theorem mv_XU_copyOut : sd_mV M_XU_copyOut 0 := ⟨sd_mem (i := 1044) (by decide +kernel), sd_mem (i := 29) (by decide +kernel), ⟨sd_mem (i := 1045) (by decide +kernel), sd_mem (i := 117) (by decide +kernel), by decide +kernel, by decide +kernel, by decide +kernel⟩⟩
theorem ml_X7_65 : Cond.methodLink RX7 65 yX7_busyWorker ∈ sd_tb := sd_mem (i := 965) (by decide +kernel)
theorem mv_XU_busyWorker : sd_mV M_XU_busyWorker 1 := ⟨sd_mem (i := 967) (by decide +kernel), sd_mem (i := 22) (by decide +kernel), ⟨sd_mem (i := 968) (by decide +kernel), sd_mem (i := 117) (by decide +kernel), by decide +kernel, by decide +kernel, by decide +kernel⟩⟩
theorem ml_X7_69 : Cond.methodLink RX7 69 yX7_step ∈ sd_tb := sd_mem (i := 969) (by decide +kernel)
theorem mv_XU_step : sd_mV M_XU_step 1 := ⟨sd_mem (i := 971) (by decide +kernel), sd_mem (i := 23) (by decide +kernel), ⟨sd_mem (i := 972) (by decide +kernel), sd_mem (i := 117) (by decide +kernel), by decide +kernel, by decide +kernel, by decide +kernel⟩⟩
def M_XU_go : sd_MX := (yX7_go, cX7_go, 9, none, { frames := 6, cells := 0, slots := 0, locals := 167 })
def XU_go_B73 (h : sd_H) : Option sd_H :=
  b1 (XU_copyOut h) (fun h7 => some h7)
set_option maxHeartbeats 4000000 in
set_option maxRecDepth 100000 in
theorem J_XU_go_B73 {G : sd_GX} {X : sd_CX} (hE : ∀ g : sd_H, sd_end G X M_XU_go (sd_F g)) {h : sd_H} {r : sd_H} (hf : XU_go_B73 h = some r) : sd_J G X (sd_QR G X M_XU_go (none, sd_F r)) M_XU_go 73 [(0, .ref (G.1 + 100))] [] (sd_F h) := by
  unfold XU_go_B73 at hf
  refine sd_aload_n (k := 0) (i := 0) (q := 0) (pc' := 74) (by decide +kernel) rfl rfl ?_
  obtain ⟨h7, q6, hf⟩ := b1_some hf
  refine sF_callV0 (idx := 73) (b := 100) (As := []) (ci := 7) (nn := 11) (pc' := 77) 0 (T_XU_copyOut (G := G) (h := h)  q6) (by decide +kernel) mv_XU_copyOut ml_X7_73 (by decide +kernel) rfl rfl (Nat.le_of_ble_eq_true rfl) SH_100 rfl (by decide) rfl rfl ?_
  obtain rfl := Option.some.inj hf
  exact sd_vret (by decide +kernel) rfl (hE _)
def XU_go_L22 : Nat → sd_H → Int32 → Int32 → Int32 → Option sd_H
  | 0, _, _, _, _ => none
  | n + 1, h, l6, l7, l8 =>
  (if 250 ≤ l8 then XU_go_B73 h else (if l7 ≤ 0 then XU_go_B73 h else gd (nz l7) (b1 (XU_busyWorker h (l6 - l6 / l7 * l7)) (fun t11 => b1 (XU_step h t11) (fun h13 => b1 (XU_busyWorkers h13) (fun t15 => XU_go_L22 n h13 (((13 * l6) + 7) - ((13 * l6) + 7) / 64 * 64) t15 (l8 + 1)))))))
set_option maxHeartbeats 4000000 in
set_option maxRecDepth 100000 in
theorem J_XU_go_L22 {G : sd_GX} {X : sd_CX} (hE : ∀ g : sd_H, sd_end G X M_XU_go (sd_F g))  {r : sd_H} : ∀ (n : Nat) (h : sd_H) (l6 : Int32) (l7 : Int32) (l8 : Int32), XU_go_L22 n h l6 l7 l8 = some r → sd_J G X (sd_QR G X M_XU_go (none, sd_F r)) M_XU_go 22 [(0, .ref (G.1 + 100)), (6, .int l6), (7, .int l7), (8, .int l8)] [] (sd_F h) := by
  intro n
  induction n with
  | zero =>
    intro h l6 l7 l8 hf
    rw [XU_go_L22] at hf
    cases hf
  | succ n ih =>
    intro h l6 l7 l8 hf
    rw [XU_go_L22] at hf
    refine sd_iload (i := 8) (q := 3) (pc' := 24) (by decide +kernel) rfl ?_
    refine sd_sipush (n := 250) (v := 250) (pc' := 27) (by decide +kernel) (by decide) ?_
    refine sd_icmp_ge (off := 46) (tgt := 73) (pc' := 30) (by decide +kernel) (fun c5 => ?_) (fun c5 => ?_)
    · replace hf := ite_p c5 hf
      refine sd_J.sub (lo' := [(0, .ref (G.1 + 100))]) [0] rfl ?_
      exact J_XU_go_B73 hE hf
    · replace hf := ite_n c5 hf
      refine sd_iload (i := 7) (q := 2) (pc' := 32) (by decide +kernel) rfl ?_
      refine sd_if_le (off := 41) (tgt := 73) (pc' := 35) (by decide +kernel) (fun c8 => ?_) (fun c8 => ?_)
      · replace hf := ite_p c8 hf
        refine sd_J.sub (lo' := [(0, .ref (G.1 + 100))]) [0] rfl ?_
        exact J_XU_go_B73 hE hf
      · replace hf := ite_n c8 hf
        refine sd_aload_n (k := 0) (i := 0) (q := 0) (pc' := 36) (by decide +kernel) rfl rfl ?_
        refine sd_aload_n (k := 0) (i := 0) (q := 0) (pc' := 37) (by decide +kernel) rfl rfl ?_
        refine sd_iload (i := 6) (q := 1) (pc' := 39) (by decide +kernel) rfl ?_
        refine sd_iload (i := 7) (q := 2) (pc' := 41) (by decide +kernel) rfl ?_
        obtain ⟨g9, hf⟩ := gd_some hf
        refine sd_irem (pc' := 42) (by decide +kernel) (nz_of g9) ?_
        obtain ⟨t11, q10, hf⟩ := b1_some hf
        refine sF_callV (idx := 65) (b := 100) (As := [.int (l6 - l6 / l7 * l7)]) (ci := 7) (nn := 11) (pc' := 45) 1 (T_XU_busyWorker (G := G) (h := h)  q10) (by decide +kernel) mv_XU_busyWorker ml_X7_65 (by decide +kernel) rfl rfl (Nat.le_of_ble_eq_true rfl) SH_100 rfl (by decide) rfl rfl ?_
        obtain ⟨h13, q12, hf⟩ := b1_some hf
        refine sF_callV0 (idx := 69) (b := 100) (As := [.int t11]) (ci := 7) (nn := 11) (pc' := 48) 1 (T_XU_step (G := G) (h := h)  q12) (by decide +kernel) mv_XU_step ml_X7_69 (by decide +kernel) rfl rfl (Nat.le_of_ble_eq_true rfl) SH_100 rfl (by decide) rfl rfl ?_
        refine sd_bipush (n := 13) (v := 13) (pc' := 50) (by decide +kernel) (by decide) ?_
        refine sd_iload (i := 6) (q := 1) (pc' := 52) (by decide +kernel) rfl ?_
        refine sd_imul (pc' := 53) (by decide +kernel) ?_
        refine sd_bipush (n := 7) (v := 7) (pc' := 55) (by decide +kernel) (by decide) ?_
        refine sd_iadd (pc' := 56) (by decide +kernel) ?_
        refine sd_bipush (n := 64) (v := 64) (pc' := 58) (by decide +kernel) (by decide) ?_
        refine sd_irem (pc' := 59) (by decide +kernel) (by decide) ?_
        refine sd_istore (i := 6) (pc' := 61) (lo' := [(6, .int (((13 * l6) + 7) - ((13 * l6) + 7) / 64 * 64)), (0, .ref (G.1 + 100)), (7, .int l7), (8, .int l8)]) (by decide +kernel) (by decide) rfl ?_
        refine sd_aload_n (k := 0) (i := 0) (q := 1) (pc' := 62) (by decide +kernel) rfl rfl ?_
        obtain ⟨t15, q14, hf⟩ := b1_some hf
        refine sF_callV (idx := 61) (b := 100) (As := []) (ci := 7) (nn := 11) (pc' := 65) 0 (T_XU_busyWorkers (G := G) (h := h13)  q14) (by decide +kernel) mv_XU_busyWorkers ml_X7_61 (by decide +kernel) rfl rfl (Nat.le_of_ble_eq_true rfl) SH_100 rfl (by decide) rfl rfl ?_
        refine sd_istore (i := 7) (pc' := 67) (lo' := [(7, .int t15), (6, .int (((13 * l6) + 7) - ((13 * l6) + 7) / 64 * 64)), (0, .ref (G.1 + 100)), (8, .int l8)]) (by decide +kernel) (by decide) rfl ?_
        refine sd_iinc (i := 8) (q := 3) (n := 1) (v := (l8 + 1)) (pc' := 70) (lo' := [(8, .int (l8 + 1)), (7, .int t15), (6, .int (((13 * l6) + 7) - ((13 * l6) + 7) / 64 * 64)), (0, .ref (G.1 + 100))]) (by decide +kernel) rfl rfl (by decide) rfl ?_
        refine sd_goto (off := -48) (tgt := 22) (pc' := 73) (by decide +kernel) ?_
        refine sd_J.sub (lo' := [(0, .ref (G.1 + 100)), (6, .int (((13 * l6) + 7) - ((13 * l6) + 7) / 64 * 64)), (7, .int t15), (8, .int (l8 + 1))]) [3, 2, 1, 0] rfl ?_
        exact ih _ _ _ _ hf
def XU_go (h : sd_H) (a0 : Nat) (a1 : Nat) (a2 : Int32) (a3 : Int32) (a4 : Int32) : Option sd_H :=
  b1 (XU_begin h a0 a1 a2 a3) (fun h2 => b1 (XU_busyWorkers h2) (fun t4 => XU_go_L22 FU h2 a4 t4 0))
set_option maxHeartbeats 4000000 in
set_option maxRecDepth 100000 in
theorem T_XU_go {G : sd_GX} {h : sd_H} {a0 : Nat} {a1 : Nat} {a2 : Int32} {a3 : Int32} {a4 : Int32} {r : sd_H} (pa0 : sd_SH a0 = (6, 4)) (pa1 : sd_SH a1 = (4, 4)) (hf : XU_go h a0 a1 a2 a3 a4 = some r) : sd_RunF G M_XU_go [.ref (G.1 + 100), .ref (G.1 + a0), .ref (G.1 + a1), .int a2, .int a3, .int a4] h none r := by
  refine sF_run ⟨rfl, rfl⟩ (by decide +kernel) (Nat.le_of_ble_eq_true rfl) (lo := [(0, .ref (G.1 + 100)), (1, .ref (G.1 + a0)), (2, .ref (G.1 + a1)), (3, .int a2), (4, .int a3), (5, .int a4)]) rfl (fun X hE => ?_)
  unfold XU_go at hf
  refine sd_aload_n (k := 0) (i := 0) (q := 0) (pc' := 1) (by decide +kernel) rfl rfl ?_
  refine sd_aload_n (k := 1) (i := 1) (q := 1) (pc' := 2) (by decide +kernel) rfl rfl ?_
  refine sd_aload_n (k := 2) (i := 2) (q := 2) (pc' := 3) (by decide +kernel) rfl rfl ?_
  refine sd_iload_n (k := 3) (i := 3) (q := 3) (pc' := 4) (by decide +kernel) rfl rfl ?_
  refine sd_iload (i := 4) (q := 4) (pc' := 6) (by decide +kernel) rfl ?_
  obtain ⟨h2, q1, hf⟩ := b1_some hf
  refine sF_callV0 (idx := 57) (b := 100) (As := [.ref (G.1 + a0), .ref (G.1 + a1), .int a2, .int a3]) (ci := 7) (nn := 11) (pc' := 9) 4 (T_XU_begin (G := G) (h := h) pa0 pa1 q1) (by decide +kernel) mv_XU_begin ml_X7_57 (by decide +kernel) rfl rfl (Nat.le_of_ble_eq_true rfl) SH_100 rfl (by decide) rfl rfl ?_
  refine sd_iload (i := 5) (q := 5) (pc' := 11) (by decide +kernel) rfl ?_
  refine sd_istore (i := 6) (pc' := 13) (lo' := [(6, .int a4), (0, .ref (G.1 + 100)), (1, .ref (G.1 + a0)), (2, .ref (G.1 + a1)), (3, .int a2), (4, .int a3), (5, .int a4)]) (by decide +kernel) (by decide) rfl ?_
  refine sd_aload_n (k := 0) (i := 0) (q := 1) (pc' := 14) (by decide +kernel) rfl rfl ?_
  obtain ⟨t4, q3, hf⟩ := b1_some hf
  refine sF_callV (idx := 61) (b := 100) (As := []) (ci := 7) (nn := 11) (pc' := 17) 0 (T_XU_busyWorkers (G := G) (h := h2)  q3) (by decide +kernel) mv_XU_busyWorkers ml_X7_61 (by decide +kernel) rfl rfl (Nat.le_of_ble_eq_true rfl) SH_100 rfl (by decide) rfl rfl ?_
  refine sd_istore (i := 7) (pc' := 19) (lo' := [(7, .int t4), (6, .int a4), (0, .ref (G.1 + 100)), (1, .ref (G.1 + a0)), (2, .ref (G.1 + a1)), (3, .int a2), (4, .int a3), (5, .int a4)]) (by decide +kernel) (by decide) rfl ?_
  refine sd_iconst (n := 0) (v := 0) (pc' := 20) (by decide +kernel) (by decide) ?_
  refine sd_istore (i := 8) (pc' := 22) (lo' := [(8, .int 0), (7, .int t4), (6, .int a4), (0, .ref (G.1 + 100)), (1, .ref (G.1 + a0)), (2, .ref (G.1 + a1)), (3, .int a2), (4, .int a3), (5, .int a4)]) (by decide +kernel) (by decide) rfl ?_
  refine sd_J.sub (lo' := [(0, .ref (G.1 + 100)), (6, .int a4), (7, .int t4), (8, .int 0)]) [3, 2, 1, 0] rfl ?_
  exact J_XU_go_L22 hE _ _ _ _ _ hf

theorem fl_X11_70 : sd_fl RX11 70 11 9 := ⟨sd_mem (i := 433) (by decide +kernel), by decide, by decide⟩
theorem ml_X11_304 : Cond.methodLink RX11 304 yX7_treatAsTheyAre ∈ sd_tb := sd_mem (i := 929) (by decide +kernel)
theorem mv_XU_treatAsTheyAre : sd_mV M_XU_treatAsTheyAre 0 := ⟨sd_mem (i := 930) (by decide +kernel), sd_mem (i := 931) (by decide +kernel), ⟨sd_mem (i := 932) (by decide +kernel), sd_mem (i := 117) (by decide +kernel), by decide +kernel, by decide +kernel, by decide +kernel⟩⟩
theorem fl_X11_77 : sd_fl RX11 77 11 10 := ⟨sd_mem (i := 434) (by decide +kernel), by decide, by decide⟩
theorem ml_X11_307 : Cond.methodLink RX11 307 yX7_go ∈ sd_tb := sd_mem (i := 933) (by decide +kernel)
theorem mv_XU_go : sd_mV M_XU_go 5 := ⟨sd_mem (i := 934) (by decide +kernel), sd_mem (i := 935) (by decide +kernel), ⟨sd_mem (i := 936) (by decide +kernel), sd_mem (i := 117) (by decide +kernel), by decide +kernel, by decide +kernel, by decide +kernel⟩⟩
theorem fl_X11_311 : sd_fl RX11 311 4 3 := ⟨sd_mem (i := 414) (by decide +kernel), by decide, by decide⟩
def M_XT_run : sd_MX := (yX11_run, cX11_run, 1, (some .int), { frames := 7, cells := 0, slots := 0, locals := 195 })
def XT_run (h : sd_H) : Option (sd_H × Int32) :=
  b1 (XU_treatAsTheyAre h) (fun h2 => b1 (XU_go h2 1 107 1 0 0) (fun h4 => some (h4, (h4.1 107 3))))
set_option maxHeartbeats 4000000 in
set_option maxRecDepth 100000 in
theorem T_XT_run {G : sd_GX} {h : sd_H} {r : (sd_H × Int32)} (hf : XT_run h = some r) : sd_RunF G M_XT_run [.ref (G.1 + 0)] h (some (.int r.2)) r.1 := by
  refine sF_run ⟨rfl, rfl⟩ (by decide +kernel) (Nat.le_of_ble_eq_true rfl) (lo := [(0, .ref (G.1 + 0))]) rfl (fun X hE => ?_)
  unfold XT_run at hf
  refine sd_aload_n (k := 0) (i := 0) (q := 0) (pc' := 1) (by decide +kernel) rfl rfl ?_
  refine sF_gr (idx := 70) (ci := 11) (k := 9) (n := 17) (r := 100) (pc' := 4) (by decide +kernel) fl_X11_70 (by decide +kernel) rfl SH_0 (by decide) (by decide +kernel) ?_
  obtain ⟨h2, q1, hf⟩ := b1_some hf
  refine sF_callV0 (idx := 304) (b := 100) (As := []) (ci := 7) (nn := 11) (pc' := 7) 0 (T_XU_treatAsTheyAre (G := G) (h := h)  q1) (by decide +kernel) mv_XU_treatAsTheyAre ml_X11_304 (by decide +kernel) rfl rfl (Nat.le_of_ble_eq_true rfl) SH_100 rfl (by decide) rfl rfl ?_
  refine sd_aload_n (k := 0) (i := 0) (q := 0) (pc' := 8) (by decide +kernel) rfl rfl ?_
  refine sF_gr (idx := 70) (ci := 11) (k := 9) (n := 17) (r := 100) (pc' := 11) (by decide +kernel) fl_X11_70 (by decide +kernel) rfl SH_0 (by decide) (by decide +kernel) ?_
  refine sd_aload_n (k := 0) (i := 0) (q := 0) (pc' := 12) (by decide +kernel) rfl rfl ?_
  refine sF_gr (idx := 12) (ci := 11) (k := 0) (n := 17) (r := 1) (pc' := 15) (by decide +kernel) fl_X11_12 (by decide +kernel) rfl SH_0 (by decide) (by decide +kernel) ?_
  refine sd_aload_n (k := 0) (i := 0) (q := 0) (pc' := 16) (by decide +kernel) rfl rfl ?_
  refine sF_gr (idx := 77) (ci := 11) (k := 10) (n := 17) (r := 107) (pc' := 19) (by decide +kernel) fl_X11_77 (by decide +kernel) rfl SH_0 (by decide) (by decide +kernel) ?_
  refine sd_iconst (n := 1) (v := 1) (pc' := 20) (by decide +kernel) (by decide) ?_
  refine sd_iconst (n := 0) (v := 0) (pc' := 21) (by decide +kernel) (by decide) ?_
  refine sd_iconst (n := 0) (v := 0) (pc' := 22) (by decide +kernel) (by decide) ?_
  obtain ⟨h4, q3, hf⟩ := b1_some hf
  refine sF_callV0 (idx := 307) (b := 100) (As := [.ref (G.1 + 1), .ref (G.1 + 107), .int 1, .int 0, .int 0]) (ci := 7) (nn := 11) (pc' := 25) 5 (T_XU_go (G := G) (h := h2) SH_1 SH_107 q3) (by decide +kernel) mv_XU_go ml_X11_307 (by decide +kernel) rfl rfl (Nat.le_of_ble_eq_true rfl) SH_100 rfl (by decide) rfl rfl ?_
  refine sd_aload_n (k := 0) (i := 0) (q := 0) (pc' := 26) (by decide +kernel) rfl rfl ?_
  refine sF_gr (idx := 77) (ci := 11) (k := 10) (n := 17) (r := 107) (pc' := 29) (by decide +kernel) fl_X11_77 (by decide +kernel) rfl SH_0 (by decide) (by decide +kernel) ?_
  refine sF_gi (idx := 311) (ci := 4) (k := 3) (n := 4) (pc' := 32) (by decide +kernel) fl_X11_311 (by decide +kernel) rfl SH_107 ?_
  obtain rfl := Option.some.inj hf
  exact sd_iret (by decide +kernel) rfl (hE _)

def M_XT_serialRows : sd_MX := (yX11_serialRows, cX11_serialRows, 3, (some .int), { frames := 5, cells := 0, slots := 0, locals := 137 })
def XT_serialRows_B41 (h : sd_H) (K11 : sd_H → Int32 → Int32 → Option (sd_H × Int32)) (l1 : Int32) (l2 : Int32) : Option (sd_H × Int32) :=
  K11 h l1 (l2 + 1)
set_option maxHeartbeats 4000000 in
set_option maxRecDepth 100000 in
theorem J_XT_serialRows_B41 {G : sd_GX} {X : sd_CX} (hE : ∀ g : sd_H, sd_end G X M_XT_serialRows (sd_F g)) {h : sd_H} {K11 : sd_H → Int32 → Int32 → Option (sd_H × Int32)} {r : (sd_H × Int32)} (hK11 : ∀ (g : sd_H) (l1 : Int32) (l2 : Int32), K11 g l1 l2 = some r → sd_J G X (sd_QR G X M_XT_serialRows (some (.int r.2), sd_F r.1)) M_XT_serialRows 11 [(0, .ref (G.1 + 0)), (1, .int l1), (2, .int l2)] [] (sd_F g)) {l1 : Int32} {l2 : Int32} (hf : XT_serialRows_B41 h K11 l1 l2 = some r) : sd_J G X (sd_QR G X M_XT_serialRows (some (.int r.2), sd_F r.1)) M_XT_serialRows 41 [(0, .ref (G.1 + 0)), (1, .int l1), (2, .int l2)] [] (sd_F h) := by
  unfold XT_serialRows_B41 at hf
  refine sd_iinc (i := 2) (q := 2) (n := 1) (v := (l2 + 1)) (pc' := 44) (lo' := [(2, .int (l2 + 1)), (0, .ref (G.1 + 0)), (1, .int l1)]) (by decide +kernel) rfl rfl (by decide) rfl ?_
  refine sd_goto (off := -33) (tgt := 11) (pc' := 47) (by decide +kernel) ?_
  refine sd_J.sub (lo' := [(0, .ref (G.1 + 0)), (1, .int l1), (2, .int (l2 + 1))]) [1, 2, 0] rfl ?_
  exact hK11 _ _ _ hf
def XT_serialRows_L11 : Nat → sd_H → Int32 → Int32 → Option (sd_H × Int32)
  | 0, _, _, _ => none
  | n + 1, h, l1, l2 =>
  (if 6 ≤ l2 then some (h, l1) else gd (sd_inB l2 6) (b1 (XY_judge h l2 (h.1 2 (l2 : Int32).toNatClampNeg)) (fun t6 => (if t6 = 4 then XT_serialRows_B41 h (XT_serialRows_L11 n) (l1 + 1) l2 else XT_serialRows_B41 h (XT_serialRows_L11 n) l1 l2))))
set_option maxHeartbeats 4000000 in
set_option maxRecDepth 100000 in
theorem J_XT_serialRows_L11 {G : sd_GX} {X : sd_CX} (hE : ∀ g : sd_H, sd_end G X M_XT_serialRows (sd_F g))  {r : (sd_H × Int32)} : ∀ (n : Nat) (h : sd_H) (l1 : Int32) (l2 : Int32), XT_serialRows_L11 n h l1 l2 = some r → sd_J G X (sd_QR G X M_XT_serialRows (some (.int r.2), sd_F r.1)) M_XT_serialRows 11 [(0, .ref (G.1 + 0)), (1, .int l1), (2, .int l2)] [] (sd_F h) := by
  intro n
  induction n with
  | zero =>
    intro h l1 l2 hf
    rw [XT_serialRows_L11] at hf
    cases hf
  | succ n ih =>
    intro h l1 l2 hf
    rw [XT_serialRows_L11] at hf
    refine sd_iload_n (k := 2) (i := 2) (q := 2) (pc' := 12) (by decide +kernel) rfl rfl ?_
    refine sd_bipush (n := 6) (v := 6) (pc' := 14) (by decide +kernel) (by decide) ?_
    refine sd_icmp_ge (off := 33) (tgt := 47) (pc' := 17) (by decide +kernel) (fun c3 => ?_) (fun c3 => ?_)
    · replace hf := ite_p c3 hf
      refine sd_iload_n (k := 1) (i := 1) (q := 1) (pc' := 48) (by decide +kernel) rfl rfl ?_
      obtain rfl := Option.some.inj hf
      exact sd_iret (by decide +kernel) rfl (hE _)
    · replace hf := ite_n c3 hf
      refine sd_aload_n (k := 0) (i := 0) (q := 0) (pc' := 18) (by decide +kernel) rfl rfl ?_
      refine sF_gr (idx := 41) (ci := 11) (k := 4) (n := 17) (r := 56) (pc' := 21) (by decide +kernel) fl_X11_41 (by decide +kernel) rfl SH_0 (by decide) (by decide +kernel) ?_
      refine sd_iload_n (k := 2) (i := 2) (q := 2) (pc' := 22) (by decide +kernel) rfl rfl ?_
      refine sd_aload_n (k := 0) (i := 0) (q := 0) (pc' := 23) (by decide +kernel) rfl rfl ?_
      refine sF_gr (idx := 12) (ci := 11) (k := 0) (n := 17) (r := 1) (pc' := 26) (by decide +kernel) fl_X11_12 (by decide +kernel) rfl SH_0 (by decide) (by decide +kernel) ?_
      refine sF_gr (idx := 119) (ci := 6) (k := 0) (n := 4) (r := 2) (pc' := 29) (by decide +kernel) fl_X11_119 (by decide +kernel) rfl SH_1 (by decide) (by decide +kernel) ?_
      refine sd_iload_n (k := 2) (i := 2) (q := 2) (pc' := 30) (by decide +kernel) rfl rfl ?_
      obtain ⟨g4, hf⟩ := gd_some hf
      refine sF_iald (n := 6) (pc' := 31) (by decide +kernel) SH_2 g4 ?_
      obtain ⟨t6, q5, hf⟩ := b1_some hf
      refine sF_callV (idx := 291) (b := 56) (As := [.int l2, .int (h.1 2 (l2 : Int32).toNatClampNeg)]) (ci := 10) (nn := 6) (pc' := 34) 2 (T_XY_judge (G := G) (h := h)  q5) (by decide +kernel) mv_XY_judge ml_X11_291 (by decide +kernel) rfl rfl (Nat.le_of_ble_eq_true rfl) SH_56 rfl (by decide) rfl rfl ?_
      refine sd_iconst (n := 4) (v := 4) (pc' := 35) (by decide +kernel) (by decide) ?_
      refine sd_icmp_ne (off := 6) (tgt := 41) (pc' := 38) (by decide +kernel) (fun c7 => ?_) (fun c7 => ?_)
      · replace hf := ite_n c7 hf
        refine sd_J.sub (lo' := [(0, .ref (G.1 + 0)), (1, .int l1), (2, .int l2)]) [0, 1, 2] rfl ?_
        exact J_XT_serialRows_B41 hE ih hf
      · replace hf := ite_p c7 hf
        refine sd_iinc (i := 1) (q := 1) (n := 1) (v := (l1 + 1)) (pc' := 41) (lo' := [(1, .int (l1 + 1)), (0, .ref (G.1 + 0)), (2, .int l2)]) (by decide +kernel) rfl rfl (by decide) rfl ?_
        refine sd_J.sub (lo' := [(0, .ref (G.1 + 0)), (1, .int (l1 + 1)), (2, .int l2)]) [1, 0, 2] rfl ?_
        exact J_XT_serialRows_B41 hE ih hf
def XT_serialRows (h : sd_H) : Option (sd_H × Int32) :=
  b1 (XY_refresh h) (fun h2 => XT_serialRows_L11 FU h2 0 0)
set_option maxHeartbeats 4000000 in
set_option maxRecDepth 100000 in
theorem T_XT_serialRows {G : sd_GX} {h : sd_H} {r : (sd_H × Int32)} (hf : XT_serialRows h = some r) : sd_RunF G M_XT_serialRows [.ref (G.1 + 0)] h (some (.int r.2)) r.1 := by
  refine sF_run ⟨rfl, rfl⟩ (by decide +kernel) (Nat.le_of_ble_eq_true rfl) (lo := [(0, .ref (G.1 + 0))]) rfl (fun X hE => ?_)
  unfold XT_serialRows at hf
  refine sd_aload_n (k := 0) (i := 0) (q := 0) (pc' := 1) (by decide +kernel) rfl rfl ?_
  refine sF_gr (idx := 41) (ci := 11) (k := 4) (n := 17) (r := 56) (pc' := 4) (by decide +kernel) fl_X11_41 (by decide +kernel) rfl SH_0 (by decide) (by decide +kernel) ?_
  obtain ⟨h2, q1, hf⟩ := b1_some hf
  refine sF_callV0 (idx := 278) (b := 56) (As := []) (ci := 10) (nn := 6) (pc' := 7) 0 (T_XY_refresh (G := G) (h := h)  q1) (by decide +kernel) mv_XY_refresh ml_X11_278 (by decide +kernel) rfl rfl (Nat.le_of_ble_eq_true rfl) SH_56 rfl (by decide) rfl rfl ?_
  refine sd_iconst (n := 0) (v := 0) (pc' := 8) (by decide +kernel) (by decide) ?_
  refine sd_istore_n (k := 1) (i := 1) (pc' := 9) (lo' := [(1, .int 0), (0, .ref (G.1 + 0))]) (by decide +kernel) rfl (by decide) rfl ?_
  refine sd_iconst (n := 0) (v := 0) (pc' := 10) (by decide +kernel) (by decide) ?_
  refine sd_istore_n (k := 2) (i := 2) (pc' := 11) (lo' := [(2, .int 0), (1, .int 0), (0, .ref (G.1 + 0))]) (by decide +kernel) rfl (by decide) rfl ?_
  refine sd_J.sub (lo' := [(0, .ref (G.1 + 0)), (1, .int 0), (2, .int 0)]) [2, 1, 0] rfl ?_
  exact J_XT_serialRows_L11 hE _ _ _ _ hf

theorem ml_X11_342 : Cond.methodLink RX11 342 yX11_serialRows ∈ sd_tb := sd_mem (i := 1058) (by decide +kernel)
theorem mv_XT_serialRows : sd_mV M_XT_serialRows 0 := ⟨sd_mem (i := 1060) (by decide +kernel), sd_mem (i := 32) (by decide +kernel), ⟨sd_mem (i := 1061) (by decide +kernel), sd_mem (i := 108) (by decide +kernel), by decide +kernel, by decide +kernel, by decide +kernel⟩⟩
def M_XT_mixedRefusal : sd_MX := (yX11_mixedRefusal, cX11_mixedRefusal, 5, (some .int), { frames := 6, cells := 0, slots := 0, locals := 159 })
def XT_mixedRefusal (h : sd_H) (a0 : Int32) (a1 : Int32) (a2 : Int32) (a3 : Int32) : Option (sd_H × Int32) :=
  b1 (XT_within a0 1 4) (fun t2 => (if t2 = 0 then some (h, (-2)) else b1 (XT_within a1 0 2) (fun t5 => (if t5 = 0 then some (h, (-2)) else b1 (XT_within a2 0 63) (fun t8 => (if t8 = 0 then some (h, (-2)) else b1 (XT_within a3 0 1) (fun t11 => (if t11 = 0 then some (h, (-2)) else (if a3 = 0 then b2 (XT_serialRows h) (fun h15 t16 => (if t16 ≤ 0 then some (h15, 0) else some (h15, (-3)))) else some (h, 0))))))))))
set_option maxHeartbeats 4000000 in
set_option maxRecDepth 100000 in
theorem T_XT_mixedRefusal {G : sd_GX} {h : sd_H} {a0 : Int32} {a1 : Int32} {a2 : Int32} {a3 : Int32} {r : (sd_H × Int32)} (hf : XT_mixedRefusal h a0 a1 a2 a3 = some r) : sd_RunF G M_XT_mixedRefusal [.ref (G.1 + 0), .int a0, .int a1, .int a2, .int a3] h (some (.int r.2)) r.1 := by
  refine sF_run ⟨rfl, rfl⟩ (by decide +kernel) (Nat.le_of_ble_eq_true rfl) (lo := [(0, .ref (G.1 + 0)), (1, .int a0), (2, .int a1), (3, .int a2), (4, .int a3)]) rfl (fun X hE => ?_)
  unfold XT_mixedRefusal at hf
  refine sd_iload_n (k := 1) (i := 1) (q := 1) (pc' := 1) (by decide +kernel) rfl rfl ?_
  refine sd_iconst (n := 1) (v := 1) (pc' := 2) (by decide +kernel) (by decide) ?_
  refine sd_iconst (n := 4) (v := 4) (pc' := 3) (by decide +kernel) (by decide) ?_
  obtain ⟨t2, q1, hf⟩ := b1_some hf
  refine sF_callS (idx := 97) (As := [.int a0, .int 1, .int 4]) (pc' := 6) 3 (T_XT_within (G := G) (h := h)  q1) (by decide +kernel) mv_XT_within ml_X11_97 (by decide +kernel) rfl rfl (Nat.le_of_ble_eq_true rfl) rfl ?_
  refine sd_if_eq (off := 32) (tgt := 38) (pc' := 9) (by decide +kernel) (fun c3 => ?_) (fun c3 => ?_)
  · replace hf := ite_p c3 hf
    refine sd_bipush (n := -2) (v := (-2)) (pc' := 40) (by decide +kernel) (by decide) ?_
    obtain rfl := Option.some.inj hf
    exact sd_iret (by decide +kernel) rfl (hE _)
  · replace hf := ite_n c3 hf
    refine sd_iload_n (k := 2) (i := 2) (q := 2) (pc' := 10) (by decide +kernel) rfl rfl ?_
    refine sd_iconst (n := 0) (v := 0) (pc' := 11) (by decide +kernel) (by decide) ?_
    refine sd_iconst (n := 2) (v := 2) (pc' := 12) (by decide +kernel) (by decide) ?_
    obtain ⟨t5, q4, hf⟩ := b1_some hf
    refine sF_callS (idx := 97) (As := [.int a1, .int 0, .int 2]) (pc' := 15) 3 (T_XT_within (G := G) (h := h)  q4) (by decide +kernel) mv_XT_within ml_X11_97 (by decide +kernel) rfl rfl (Nat.le_of_ble_eq_true rfl) rfl ?_
    refine sd_if_eq (off := 23) (tgt := 38) (pc' := 18) (by decide +kernel) (fun c6 => ?_) (fun c6 => ?_)
    · replace hf := ite_p c6 hf
      refine sd_bipush (n := -2) (v := (-2)) (pc' := 40) (by decide +kernel) (by decide) ?_
      obtain rfl := Option.some.inj hf
      exact sd_iret (by decide +kernel) rfl (hE _)
    · replace hf := ite_n c6 hf
      refine sd_iload_n (k := 3) (i := 3) (q := 3) (pc' := 19) (by decide +kernel) rfl rfl ?_
      refine sd_iconst (n := 0) (v := 0) (pc' := 20) (by decide +kernel) (by decide) ?_
      refine sd_bipush (n := 63) (v := 63) (pc' := 22) (by decide +kernel) (by decide) ?_
      obtain ⟨t8, q7, hf⟩ := b1_some hf
      refine sF_callS (idx := 97) (As := [.int a2, .int 0, .int 63]) (pc' := 25) 3 (T_XT_within (G := G) (h := h)  q7) (by decide +kernel) mv_XT_within ml_X11_97 (by decide +kernel) rfl rfl (Nat.le_of_ble_eq_true rfl) rfl ?_
      refine sd_if_eq (off := 13) (tgt := 38) (pc' := 28) (by decide +kernel) (fun c9 => ?_) (fun c9 => ?_)
      · replace hf := ite_p c9 hf
        refine sd_bipush (n := -2) (v := (-2)) (pc' := 40) (by decide +kernel) (by decide) ?_
        obtain rfl := Option.some.inj hf
        exact sd_iret (by decide +kernel) rfl (hE _)
      · replace hf := ite_n c9 hf
        refine sd_iload (i := 4) (q := 4) (pc' := 30) (by decide +kernel) rfl ?_
        refine sd_iconst (n := 0) (v := 0) (pc' := 31) (by decide +kernel) (by decide) ?_
        refine sd_iconst (n := 1) (v := 1) (pc' := 32) (by decide +kernel) (by decide) ?_
        obtain ⟨t11, q10, hf⟩ := b1_some hf
        refine sF_callS (idx := 97) (As := [.int a3, .int 0, .int 1]) (pc' := 35) 3 (T_XT_within (G := G) (h := h)  q10) (by decide +kernel) mv_XT_within ml_X11_97 (by decide +kernel) rfl rfl (Nat.le_of_ble_eq_true rfl) rfl ?_
        refine sd_if_ne (off := 6) (tgt := 41) (pc' := 38) (by decide +kernel) (fun c12 => ?_) (fun c12 => ?_)
        · replace hf := ite_n c12 hf
          refine sd_iload (i := 4) (q := 4) (pc' := 43) (by decide +kernel) rfl ?_
          refine sd_if_ne (off := 15) (tgt := 58) (pc' := 46) (by decide +kernel) (fun c13 => ?_) (fun c13 => ?_)
          · replace hf := ite_n c13 hf
            refine sd_iconst (n := 0) (v := 0) (pc' := 59) (by decide +kernel) (by decide) ?_
            obtain rfl := Option.some.inj hf
            exact sd_iret (by decide +kernel) rfl (hE _)
          · replace hf := ite_p c13 hf
            refine sd_aload_n (k := 0) (i := 0) (q := 0) (pc' := 47) (by decide +kernel) rfl rfl ?_
            obtain ⟨h15, t16, q14, hf⟩ := b2_some hf
            refine sF_callV (idx := 342) (b := 0) (As := []) (ci := 11) (nn := 17) (pc' := 50) 0 (T_XT_serialRows (G := G) (h := h)  q14) (by decide +kernel) mv_XT_serialRows ml_X11_342 (by decide +kernel) rfl rfl (Nat.le_of_ble_eq_true rfl) SH_0 rfl (by decide) rfl rfl ?_
            refine sd_if_le (off := 8) (tgt := 58) (pc' := 53) (by decide +kernel) (fun c17 => ?_) (fun c17 => ?_)
            · replace hf := ite_p c17 hf
              refine sd_iconst (n := 0) (v := 0) (pc' := 59) (by decide +kernel) (by decide) ?_
              obtain rfl := Option.some.inj hf
              exact sd_iret (by decide +kernel) rfl (hE _)
            · replace hf := ite_n c17 hf
              refine sd_bipush (n := -3) (v := (-3)) (pc' := 55) (by decide +kernel) (by decide) ?_
              refine sd_goto (off := 4) (tgt := 59) (pc' := 58) (by decide +kernel) ?_
              obtain rfl := Option.some.inj hf
              exact sd_iret (by decide +kernel) rfl (hE _)
        · replace hf := ite_p c12 hf
          refine sd_bipush (n := -2) (v := (-2)) (pc' := 40) (by decide +kernel) (by decide) ?_
          obtain rfl := Option.some.inj hf
          exact sd_iret (by decide +kernel) rfl (hE _)

theorem ml_X7_39 : Cond.methodLink RX7 39 yX10_refresh ∈ sd_tb := sd_mem (i := 1066) (by decide +kernel)
theorem fl_X7_44 : Cond.fieldLinkNest RX7 44 RX10 "rows" "LStrideTurns$Rows;" RX11 ∈ lw_tbl := List.mem_of_getElem? (i := 297) (by decide +kernel)
theorem ml_X7_53 : Cond.methodLink RX7 53 yX10_judge ∈ sd_tb := sd_mem (i := 1067) (by decide +kernel)
def M_XU_treatByVerdict : sd_MX := (yX7_treatByVerdict, cX7_treatByVerdict, 3, none, { frames := 5, cells := 0, slots := 0, locals := 137 })
def XU_treatByVerdict_L6 : Nat → sd_H → Int32 → Option sd_H
  | 0, _, _ => none
  | n + 1, h, l2 =>
  (if 6 ≤ l2 then some h else gd (sd_inB l2 6) (b1 (XY_judge h l2 (h.1 2 (l2 : Int32).toNatClampNeg)) (fun t6 => gd (sd_inB l2 6) (hb (wI h 101 (l2 : Int32).toNatClampNeg t6) (fun h8 => XU_treatByVerdict_L6 n h8 (l2 + 1))))))
set_option maxHeartbeats 4000000 in
set_option maxRecDepth 100000 in
theorem J_XU_treatByVerdict_L6 {G : sd_GX} {X : sd_CX} (hE : ∀ g : sd_H, sd_end G X M_XU_treatByVerdict (sd_F g))  {r : sd_H} : ∀ (n : Nat) (h : sd_H) (l2 : Int32), XU_treatByVerdict_L6 n h l2 = some r → sd_J G X (sd_QR G X M_XU_treatByVerdict (none, sd_F r)) M_XU_treatByVerdict 6 [(0, .ref (G.1 + 100)), (1, .ref (G.1 + 56)), (2, .int l2)] [] (sd_F h) := by
  intro n
  induction n with
  | zero =>
    intro h l2 hf
    rw [XU_treatByVerdict_L6] at hf
    cases hf
  | succ n ih =>
    intro h l2 hf
    rw [XU_treatByVerdict_L6] at hf
    refine sd_iload_n (k := 2) (i := 2) (q := 2) (pc' := 7) (by decide +kernel) rfl rfl ?_
    refine sd_bipush (n := 6) (v := 6) (pc' := 9) (by decide +kernel) (by decide) ?_
    refine sd_icmp_ge (off := 29) (tgt := 38) (pc' := 12) (by decide +kernel) (fun c3 => ?_) (fun c3 => ?_)
    · replace hf := ite_p c3 hf
      obtain rfl := Option.some.inj hf
      exact sd_vret (by decide +kernel) rfl (hE _)
    · replace hf := ite_n c3 hf
      refine sd_aload_n (k := 0) (i := 0) (q := 0) (pc' := 13) (by decide +kernel) rfl rfl ?_
      refine sF_gr (idx := 9) (ci := 7) (k := 1) (n := 11) (r := 101) (pc' := 16) (by decide +kernel) fl_X7_9 (by decide +kernel) rfl SH_100 (by decide) (by decide +kernel) ?_
      refine sd_iload_n (k := 2) (i := 2) (q := 2) (pc' := 17) (by decide +kernel) rfl rfl ?_
      refine sd_aload_n (k := 1) (i := 1) (q := 1) (pc' := 18) (by decide +kernel) rfl rfl ?_
      refine sd_iload_n (k := 2) (i := 2) (q := 2) (pc' := 19) (by decide +kernel) rfl rfl ?_
      refine sd_aload_n (k := 1) (i := 1) (q := 1) (pc' := 20) (by decide +kernel) rfl rfl ?_
      refine sF_grN (idx := 44) (ci := 10) (k := 0) (n := 6) (r := 1) (pc' := 23) (by decide +kernel) fl_X7_44 (by decide) (by decide) (by decide +kernel) rfl SH_56 (by decide) (by decide +kernel) ?_
      refine sF_gr (idx := 48) (ci := 6) (k := 0) (n := 4) (r := 2) (pc' := 26) (by decide +kernel) fl_X7_48 (by decide +kernel) rfl SH_1 (by decide) (by decide +kernel) ?_
      refine sd_iload_n (k := 2) (i := 2) (q := 2) (pc' := 27) (by decide +kernel) rfl rfl ?_
      obtain ⟨g4, hf⟩ := gd_some hf
      refine sF_iald (n := 6) (pc' := 28) (by decide +kernel) SH_2 g4 ?_
      obtain ⟨t6, q5, hf⟩ := b1_some hf
      refine sF_callV (idx := 53) (b := 56) (As := [.int l2, .int (h.1 2 (l2 : Int32).toNatClampNeg)]) (ci := 10) (nn := 6) (pc' := 31) 2 (T_XY_judge (G := G) (h := h)  q5) (by decide +kernel) mv_XY_judge ml_X7_53 (by decide +kernel) rfl rfl (Nat.le_of_ble_eq_true rfl) SH_56 rfl (by decide) rfl rfl ?_
      obtain ⟨g7, hf⟩ := gd_some hf
      obtain ⟨h8, e9, hf⟩ := hb_some hf
      refine sF_iast (n := 6) (pc' := 32) (by decide +kernel) SH_101 g7 ?_
      rw [← e9]; clear e9
      refine sd_iinc (i := 2) (q := 2) (n := 1) (v := (l2 + 1)) (pc' := 35) (lo' := [(2, .int (l2 + 1)), (0, .ref (G.1 + 100)), (1, .ref (G.1 + 56))]) (by decide +kernel) rfl rfl (by decide) rfl ?_
      refine sd_goto (off := -29) (tgt := 6) (pc' := 38) (by decide +kernel) ?_
      refine sd_J.sub (lo' := [(0, .ref (G.1 + 100)), (1, .ref (G.1 + 56)), (2, .int (l2 + 1))]) [1, 2, 0] rfl ?_
      exact ih _ _ hf
def XU_treatByVerdict (h : sd_H) : Option sd_H :=
  b1 (XY_refresh h) (fun h2 => XU_treatByVerdict_L6 FU h2 0)
set_option maxHeartbeats 4000000 in
set_option maxRecDepth 100000 in
theorem T_XU_treatByVerdict {G : sd_GX} {h : sd_H} {r : sd_H} (hf : XU_treatByVerdict h = some r) : sd_RunF G M_XU_treatByVerdict [.ref (G.1 + 100), .ref (G.1 + 56)] h none r := by
  refine sF_run ⟨rfl, rfl⟩ (by decide +kernel) (Nat.le_of_ble_eq_true rfl) (lo := [(0, .ref (G.1 + 100)), (1, .ref (G.1 + 56))]) rfl (fun X hE => ?_)
  unfold XU_treatByVerdict at hf
  refine sd_aload_n (k := 1) (i := 1) (q := 1) (pc' := 1) (by decide +kernel) rfl rfl ?_
  obtain ⟨h2, q1, hf⟩ := b1_some hf
  refine sF_callV0 (idx := 39) (b := 56) (As := []) (ci := 10) (nn := 6) (pc' := 4) 0 (T_XY_refresh (G := G) (h := h)  q1) (by decide +kernel) mv_XY_refresh ml_X7_39 (by decide +kernel) rfl rfl (Nat.le_of_ble_eq_true rfl) SH_56 rfl (by decide) rfl rfl ?_
  refine sd_iconst (n := 0) (v := 0) (pc' := 5) (by decide +kernel) (by decide) ?_
  refine sd_istore_n (k := 2) (i := 2) (pc' := 6) (lo' := [(2, .int 0), (0, .ref (G.1 + 100)), (1, .ref (G.1 + 56))]) (by decide +kernel) rfl (by decide) rfl ?_
  refine sd_J.sub (lo' := [(0, .ref (G.1 + 100)), (1, .ref (G.1 + 56)), (2, .int 0)]) [1, 2, 0] rfl ?_
  exact J_XU_treatByVerdict_L6 hE _ _ _ hf

theorem ml_X11_312 : Cond.methodLink RX11 312 yX11_mixedRefusal ∈ sd_tb := sd_mem (i := 1054) (by decide +kernel)
theorem mv_XT_mixedRefusal : sd_mV M_XT_mixedRefusal 4 := ⟨sd_mem (i := 1056) (by decide +kernel), sd_mem (i := 31) (by decide +kernel), ⟨sd_mem (i := 1057) (by decide +kernel), sd_mem (i := 108) (by decide +kernel), by decide +kernel, by decide +kernel, by decide +kernel⟩⟩
theorem ml_X11_315 : Cond.methodLink RX11 315 yX7_treatByVerdict ∈ sd_tb := sd_mem (i := 1062) (by decide +kernel)
theorem mv_XU_treatByVerdict : sd_mV M_XU_treatByVerdict 1 := ⟨sd_mem (i := 1063) (by decide +kernel), sd_mem (i := 1064) (by decide +kernel), ⟨sd_mem (i := 1065) (by decide +kernel), sd_mem (i := 117) (by decide +kernel), by decide +kernel, by decide +kernel, by decide +kernel⟩⟩
def M_XT_mixed : sd_MX := (yX11_mixed, cX11_mixed, 6, (some .int), { frames := 7, cells := 0, slots := 0, locals := 195 })
def XT_mixed (h : sd_H) (a0 : Int32) (a1 : Int32) (a2 : Int32) (a3 : Int32) : Option (sd_H × Int32) :=
  b2 (XT_mixedRefusal h a0 a1 a2 a3) (fun h2 t3 => (if t3 = 0 then b1 (XU_treatByVerdict h2) (fun h6 => b1 (XU_go h6 1 107 a0 a1 a2) (fun h8 => some (h8, (h8.1 107 3)))) else some (h2, t3)))
set_option maxHeartbeats 4000000 in
set_option maxRecDepth 100000 in
theorem T_XT_mixed {G : sd_GX} {h : sd_H} {a0 : Int32} {a1 : Int32} {a2 : Int32} {a3 : Int32} {r : (sd_H × Int32)} (hf : XT_mixed h a0 a1 a2 a3 = some r) : sd_RunF G M_XT_mixed [.ref (G.1 + 0), .int a0, .int a1, .int a2, .int a3] h (some (.int r.2)) r.1 := by
  refine sF_run ⟨rfl, rfl⟩ (by decide +kernel) (Nat.le_of_ble_eq_true rfl) (lo := [(0, .ref (G.1 + 0)), (1, .int a0), (2, .int a1), (3, .int a2), (4, .int a3)]) rfl (fun X hE => ?_)
  unfold XT_mixed at hf
  refine sd_aload_n (k := 0) (i := 0) (q := 0) (pc' := 1) (by decide +kernel) rfl rfl ?_
  refine sd_iload_n (k := 1) (i := 1) (q := 1) (pc' := 2) (by decide +kernel) rfl rfl ?_
  refine sd_iload_n (k := 2) (i := 2) (q := 2) (pc' := 3) (by decide +kernel) rfl rfl ?_
  refine sd_iload_n (k := 3) (i := 3) (q := 3) (pc' := 4) (by decide +kernel) rfl rfl ?_
  refine sd_iload (i := 4) (q := 4) (pc' := 6) (by decide +kernel) rfl ?_
  obtain ⟨h2, t3, q1, hf⟩ := b2_some hf
  refine sF_callV (idx := 312) (b := 0) (As := [.int a0, .int a1, .int a2, .int a3]) (ci := 11) (nn := 17) (pc' := 9) 4 (T_XT_mixedRefusal (G := G) (h := h)  q1) (by decide +kernel) mv_XT_mixedRefusal ml_X11_312 (by decide +kernel) rfl rfl (Nat.le_of_ble_eq_true rfl) SH_0 rfl (by decide) rfl rfl ?_
  refine sd_istore (i := 5) (pc' := 11) (lo' := [(5, .int t3), (0, .ref (G.1 + 0)), (1, .int a0), (2, .int a1), (3, .int a2), (4, .int a3)]) (by decide +kernel) (by decide) rfl ?_
  refine sd_iload (i := 5) (q := 0) (pc' := 13) (by decide +kernel) rfl ?_
  refine sd_if_eq (off := 6) (tgt := 19) (pc' := 16) (by decide +kernel) (fun c4 => ?_) (fun c4 => ?_)
  · replace hf := ite_p c4 hf
    refine sd_aload_n (k := 0) (i := 0) (q := 1) (pc' := 20) (by decide +kernel) rfl rfl ?_
    refine sF_gr (idx := 70) (ci := 11) (k := 9) (n := 17) (r := 100) (pc' := 23) (by decide +kernel) fl_X11_70 (by decide +kernel) rfl SH_0 (by decide) (by decide +kernel) ?_
    refine sd_aload_n (k := 0) (i := 0) (q := 1) (pc' := 24) (by decide +kernel) rfl rfl ?_
    refine sF_gr (idx := 41) (ci := 11) (k := 4) (n := 17) (r := 56) (pc' := 27) (by decide +kernel) fl_X11_41 (by decide +kernel) rfl SH_0 (by decide) (by decide +kernel) ?_
    obtain ⟨h6, q5, hf⟩ := b1_some hf
    refine sF_callV0 (idx := 315) (b := 100) (As := [.ref (G.1 + 56)]) (ci := 7) (nn := 11) (pc' := 30) 1 (T_XU_treatByVerdict (G := G) (h := h2)  q5) (by decide +kernel) mv_XU_treatByVerdict ml_X11_315 (by decide +kernel) rfl rfl (Nat.le_of_ble_eq_true rfl) SH_100 rfl (by decide) rfl rfl ?_
    refine sd_aload_n (k := 0) (i := 0) (q := 1) (pc' := 31) (by decide +kernel) rfl rfl ?_
    refine sF_gr (idx := 70) (ci := 11) (k := 9) (n := 17) (r := 100) (pc' := 34) (by decide +kernel) fl_X11_70 (by decide +kernel) rfl SH_0 (by decide) (by decide +kernel) ?_
    refine sd_aload_n (k := 0) (i := 0) (q := 1) (pc' := 35) (by decide +kernel) rfl rfl ?_
    refine sF_gr (idx := 12) (ci := 11) (k := 0) (n := 17) (r := 1) (pc' := 38) (by decide +kernel) fl_X11_12 (by decide +kernel) rfl SH_0 (by decide) (by decide +kernel) ?_
    refine sd_aload_n (k := 0) (i := 0) (q := 1) (pc' := 39) (by decide +kernel) rfl rfl ?_
    refine sF_gr (idx := 77) (ci := 11) (k := 10) (n := 17) (r := 107) (pc' := 42) (by decide +kernel) fl_X11_77 (by decide +kernel) rfl SH_0 (by decide) (by decide +kernel) ?_
    refine sd_iload_n (k := 1) (i := 1) (q := 2) (pc' := 43) (by decide +kernel) rfl rfl ?_
    refine sd_iload_n (k := 2) (i := 2) (q := 3) (pc' := 44) (by decide +kernel) rfl rfl ?_
    refine sd_iload_n (k := 3) (i := 3) (q := 4) (pc' := 45) (by decide +kernel) rfl rfl ?_
    obtain ⟨h8, q7, hf⟩ := b1_some hf
    refine sF_callV0 (idx := 307) (b := 100) (As := [.ref (G.1 + 1), .ref (G.1 + 107), .int a0, .int a1, .int a2]) (ci := 7) (nn := 11) (pc' := 48) 5 (T_XU_go (G := G) (h := h6) SH_1 SH_107 q7) (by decide +kernel) mv_XU_go ml_X11_307 (by decide +kernel) rfl rfl (Nat.le_of_ble_eq_true rfl) SH_100 rfl (by decide) rfl rfl ?_
    refine sd_aload_n (k := 0) (i := 0) (q := 1) (pc' := 49) (by decide +kernel) rfl rfl ?_
    refine sF_gr (idx := 77) (ci := 11) (k := 10) (n := 17) (r := 107) (pc' := 52) (by decide +kernel) fl_X11_77 (by decide +kernel) rfl SH_0 (by decide) (by decide +kernel) ?_
    refine sF_gi (idx := 311) (ci := 4) (k := 3) (n := 4) (pc' := 55) (by decide +kernel) fl_X11_311 (by decide +kernel) rfl SH_107 ?_
    obtain rfl := Option.some.inj hf
    exact sd_iret (by decide +kernel) rfl (hE _)
  · replace hf := ite_n c4 hf
    refine sd_iload (i := 5) (q := 0) (pc' := 18) (by decide +kernel) rfl ?_
    obtain rfl := Option.some.inj hf
    exact sd_iret (by decide +kernel) rfl (hE _)

theorem ac_X6_25 : sd_ac RX6 25 := ⟨sd_mem (i := 1076) (by decide +kernel), sd_mem (i := 545) (by decide +kernel), sd_mem (i := 544) (by decide +kernel), sd_mem (i := 121) (by decide +kernel)⟩
def M_XR_take : sd_MX := (yX6_take, cX6_take, 2, none, { frames := 1, cells := 0, slots := 0, locals := 40 })
def XR_take (h : sd_H) (this : Nat) (a0 : Nat) : Option sd_H :=
  gd (acOK 0 0 6 6 6) (hb (cpI h (a0 + 1) 0 (this + 1) 0 6) (fun h2 => gd (acOK 0 0 6 6 6) (hb (cpI h2 (a0 + 2) 0 (this + 2) 0 6) (fun h5 => gd (acOK 0 0 144 144 144) (hb (cpD h5 (a0 + 3) 0 (this + 3) 0 144) (fun h8 => some h8))))))
set_option maxHeartbeats 4000000 in
set_option maxRecDepth 100000 in
theorem T_XR_take {G : sd_GX} {h : sd_H} {this : Nat} {a0 : Nat} {r : sd_H} (pt : sd_SH this = (6, 4)) (pa0 : sd_SH a0 = (6, 4)) (hf : XR_take h this a0 = some r) : sd_RunF G M_XR_take [.ref (G.1 + this), .ref (G.1 + a0)] h none r := by
  refine sF_run ⟨rfl, rfl⟩ (by decide +kernel) (Nat.le_of_ble_eq_true rfl) (lo := [(0, .ref (G.1 + this)), (1, .ref (G.1 + a0))]) rfl (fun X hE => ?_)
  unfold XR_take at hf
  refine sd_aload_n (k := 1) (i := 1) (q := 1) (pc' := 1) (by decide +kernel) rfl rfl ?_
  refine sF_gr (idx := 9) (ci := 6) (k := 0) (n := 4) (r := (a0 + 1)) (pc' := 4) (by decide +kernel) fl_X6_9 (by decide +kernel) rfl pa0 (by decide) (rt_6_0 pa0) ?_
  refine sd_iconst (n := 0) (v := 0) (pc' := 5) (by decide +kernel) (by decide) ?_
  refine sd_aload_n (k := 0) (i := 0) (q := 0) (pc' := 6) (by decide +kernel) rfl rfl ?_
  refine sF_gr (idx := 9) (ci := 6) (k := 0) (n := 4) (r := (this + 1)) (pc' := 9) (by decide +kernel) fl_X6_9 (by decide +kernel) rfl pt (by decide) (rt_6_0 pt) ?_
  refine sd_iconst (n := 0) (v := 0) (pc' := 10) (by decide +kernel) (by decide) ?_
  refine sd_bipush (n := 6) (v := 6) (pc' := 12) (by decide +kernel) (by decide) ?_
  obtain ⟨g1, hf⟩ := gd_some hf
  obtain ⟨h2, e3, hf⟩ := hb_some hf
  refine sF_copyi (idx := 25) (n0 := 6) (n1 := 6) (pc' := 15) (by decide +kernel) rfl ac_X6_25 (sh_6_0 pa0) (sh_6_0 pt) g1 (by decide) (Nat.le_of_ble_eq_true rfl) ?_
  rw [← e3]; clear e3
  refine sd_aload_n (k := 1) (i := 1) (q := 1) (pc' := 16) (by decide +kernel) rfl rfl ?_
  refine sF_gr (idx := 15) (ci := 6) (k := 1) (n := 4) (r := (a0 + 2)) (pc' := 19) (by decide +kernel) fl_X6_15 (by decide +kernel) rfl pa0 (by decide) (rt_6_1 pa0) ?_
  refine sd_iconst (n := 0) (v := 0) (pc' := 20) (by decide +kernel) (by decide) ?_
  refine sd_aload_n (k := 0) (i := 0) (q := 0) (pc' := 21) (by decide +kernel) rfl rfl ?_
  refine sF_gr (idx := 15) (ci := 6) (k := 1) (n := 4) (r := (this + 2)) (pc' := 24) (by decide +kernel) fl_X6_15 (by decide +kernel) rfl pt (by decide) (rt_6_1 pt) ?_
  refine sd_iconst (n := 0) (v := 0) (pc' := 25) (by decide +kernel) (by decide) ?_
  refine sd_bipush (n := 6) (v := 6) (pc' := 27) (by decide +kernel) (by decide) ?_
  obtain ⟨g4, hf⟩ := gd_some hf
  obtain ⟨h5, e6, hf⟩ := hb_some hf
  refine sF_copyi (idx := 25) (n0 := 6) (n1 := 6) (pc' := 30) (by decide +kernel) rfl ac_X6_25 (sh_6_1 pa0) (sh_6_1 pt) g4 (by decide) (Nat.le_of_ble_eq_true rfl) ?_
  rw [← e6]; clear e6
  refine sd_aload_n (k := 1) (i := 1) (q := 1) (pc' := 31) (by decide +kernel) rfl rfl ?_
  refine sF_gr (idx := 18) (ci := 6) (k := 2) (n := 4) (r := (a0 + 3)) (pc' := 34) (by decide +kernel) fl_X6_18 (by decide +kernel) rfl pa0 (by decide) (rt_6_2 pa0) ?_
  refine sd_iconst (n := 0) (v := 0) (pc' := 35) (by decide +kernel) (by decide) ?_
  refine sd_aload_n (k := 0) (i := 0) (q := 0) (pc' := 36) (by decide +kernel) rfl rfl ?_
  refine sF_gr (idx := 18) (ci := 6) (k := 2) (n := 4) (r := (this + 3)) (pc' := 39) (by decide +kernel) fl_X6_18 (by decide +kernel) rfl pt (by decide) (rt_6_2 pt) ?_
  refine sd_iconst (n := 0) (v := 0) (pc' := 40) (by decide +kernel) (by decide) ?_
  refine sd_sipush (n := 144) (v := 144) (pc' := 43) (by decide +kernel) (by decide) ?_
  obtain ⟨g7, hf⟩ := gd_some hf
  obtain ⟨h8, e9, hf⟩ := hb_some hf
  refine sF_copyd (idx := 25) (n0 := 144) (n1 := 144) (pc' := 46) (by decide +kernel) rfl ac_X6_25 (sh_6_2 pa0) (sh_6_2 pt) g7 (by decide) (Nat.le_of_ble_eq_true rfl) ?_
  rw [← e9]; clear e9
  obtain rfl := Option.some.inj hf
  exact sd_vret (by decide +kernel) rfl (hE _)

def M_XR_alike : sd_MX := (yX6_alike, cX6_alike, 3, (some .boolean), { frames := 1, cells := 0, slots := 0, locals := 40 })
def XR_alike_L2 (h : sd_H) : Nat → Nat → Nat → Int32 → Option Int32
  | 0, _, _, _ => none
  | n + 1, l0, l1, l2 =>
  (if 144 ≤ l2 then some 1 else gd (sd_inB l2 144) (gd (sd_inB l2 144) ((if (Op.cmpValue (FP.dcmp (h.2.1 (l0 + 3) (l2 : Int32).toNatClampNeg) (h.2.1 (l1 + 3) (l2 : Int32).toNatClampNeg)) .l) = 0 then XR_alike_L2 h n l0 l1 (l2 + 1) else some 0))))
set_option maxHeartbeats 4000000 in
set_option maxRecDepth 100000 in
theorem J_XR_alike_L2 {G : sd_GX} {X : sd_CX} (hE : ∀ g : sd_H, sd_end G X M_XR_alike (sd_F g)) {h : sd_H} {r : Int32} : ∀ (n : Nat) (l0 : Nat) (l1 : Nat) (l2 : Int32), sd_SH l0 = (6, 4) → sd_SH l1 = (6, 4) → XR_alike_L2 h n l0 l1 l2 = some r → sd_J G X (sd_QR G X M_XR_alike (some (.int r), sd_F h)) M_XR_alike 2 [(0, .ref (G.1 + l0)), (1, .ref (G.1 + l1)), (2, .int l2)] [] (sd_F h) := by
  intro n
  induction n with
  | zero =>
    intro l0 l1 l2 p0 p1 hf
    rw [XR_alike_L2] at hf
    cases hf
  | succ n ih =>
    intro l0 l1 l2 p0 p1 hf
    rw [XR_alike_L2] at hf
    refine sd_iload_n (k := 2) (i := 2) (q := 2) (pc' := 3) (by decide +kernel) rfl rfl ?_
    refine sd_sipush (n := 144) (v := 144) (pc' := 6) (by decide +kernel) (by decide) ?_
    refine sd_icmp_ge (off := 27) (tgt := 33) (pc' := 9) (by decide +kernel) (fun c1 => ?_) (fun c1 => ?_)
    · replace hf := ite_p c1 hf
      refine sd_iconst (n := 1) (v := 1) (pc' := 34) (by decide +kernel) (by decide) ?_
      obtain rfl := Option.some.inj hf
      exact sd_zret (by decide +kernel) rfl rfl (hE _)
    · replace hf := ite_n c1 hf
      refine sd_aload_n (k := 0) (i := 0) (q := 0) (pc' := 10) (by decide +kernel) rfl rfl ?_
      refine sF_gr (idx := 18) (ci := 6) (k := 2) (n := 4) (r := (l0 + 3)) (pc' := 13) (by decide +kernel) fl_X6_18 (by decide +kernel) rfl p0 (by decide) (rt_6_2 p0) ?_
      refine sd_iload_n (k := 2) (i := 2) (q := 2) (pc' := 14) (by decide +kernel) rfl rfl ?_
      obtain ⟨g2, hf⟩ := gd_some hf
      refine sF_dald (n := 144) (pc' := 15) (by decide +kernel) (sh_6_2 p0) g2 ?_
      refine sd_aload_n (k := 1) (i := 1) (q := 1) (pc' := 16) (by decide +kernel) rfl rfl ?_
      refine sF_gr (idx := 18) (ci := 6) (k := 2) (n := 4) (r := (l1 + 3)) (pc' := 19) (by decide +kernel) fl_X6_18 (by decide +kernel) rfl p1 (by decide) (rt_6_2 p1) ?_
      refine sd_iload_n (k := 2) (i := 2) (q := 2) (pc' := 20) (by decide +kernel) rfl rfl ?_
      obtain ⟨g3, hf⟩ := gd_some hf
      refine sF_dald (n := 144) (pc' := 21) (by decide +kernel) (sh_6_2 p1) g3 ?_
      refine sd_dcmp (op := .l) (pc' := 22) (by decide +kernel) ?_
      refine sd_if_eq (off := 5) (tgt := 27) (pc' := 25) (by decide +kernel) (fun c4 => ?_) (fun c4 => ?_)
      · replace hf := ite_p c4 hf
        refine sd_iinc (i := 2) (q := 2) (n := 1) (v := (l2 + 1)) (pc' := 30) (lo' := [(2, .int (l2 + 1)), (0, .ref (G.1 + l0)), (1, .ref (G.1 + l1))]) (by decide +kernel) rfl rfl (by decide) rfl ?_
        refine sd_goto (off := -28) (tgt := 2) (pc' := 33) (by decide +kernel) ?_
        refine sd_J.sub (lo' := [(0, .ref (G.1 + l0)), (1, .ref (G.1 + l1)), (2, .int (l2 + 1))]) [1, 2, 0] rfl ?_
        exact ih _ _ _ p0 p1 hf
      · replace hf := ite_n c4 hf
        refine sd_iconst (n := 0) (v := 0) (pc' := 26) (by decide +kernel) (by decide) ?_
        obtain rfl := Option.some.inj hf
        exact sd_zret (by decide +kernel) rfl rfl (hE _)
def XR_alike (h : sd_H) (this : Nat) (a0 : Nat) : Option Int32 :=
  XR_alike_L2 h FU this a0 0
set_option maxHeartbeats 4000000 in
set_option maxRecDepth 100000 in
theorem T_XR_alike {G : sd_GX} {h : sd_H} {this : Nat} {a0 : Nat} {r : Int32} (pt : sd_SH this = (6, 4)) (pa0 : sd_SH a0 = (6, 4)) (hf : XR_alike h this a0 = some r) : sd_RunF G M_XR_alike [.ref (G.1 + this), .ref (G.1 + a0)] h (some (.int r)) h := by
  refine sF_run ⟨rfl, rfl⟩ (by decide +kernel) (Nat.le_of_ble_eq_true rfl) (lo := [(0, .ref (G.1 + this)), (1, .ref (G.1 + a0))]) rfl (fun X hE => ?_)
  unfold XR_alike at hf
  refine sd_iconst (n := 0) (v := 0) (pc' := 1) (by decide +kernel) (by decide) ?_
  refine sd_istore_n (k := 2) (i := 2) (pc' := 2) (lo' := [(2, .int 0), (0, .ref (G.1 + this)), (1, .ref (G.1 + a0))]) (by decide +kernel) rfl (by decide) rfl ?_
  refine sd_J.sub (lo' := [(0, .ref (G.1 + this)), (1, .ref (G.1 + a0)), (2, .int 0)]) [1, 2, 0] rfl ?_
  exact J_XR_alike_L2 hE _ _ _ _ pt pa0 hf

def M_XO_alike : sd_MX := (yX4_alike, cX4_alike, 3, (some .boolean), { frames := 1, cells := 0, slots := 0, locals := 40 })
def XO_alike_L2 (h : sd_H) : Nat → Nat → Nat → Int32 → Option Int32
  | 0, _, _, _ => none
  | n + 1, l0, l1, l2 =>
  (if 3 ≤ l2 then (if (h.1 l0 3) = (h.1 l1 3) then some 1 else some 0) else gd (sd_inB l2 3) (gd (sd_inB l2 3) ((if (h.1 (l0 + 1) (l2 : Int32).toNatClampNeg) = (h.1 (l1 + 1) (l2 : Int32).toNatClampNeg) then XO_alike_L2 h n l0 l1 (l2 + 1) else some 0))))
set_option maxHeartbeats 4000000 in
set_option maxRecDepth 100000 in
theorem J_XO_alike_L2 {G : sd_GX} {X : sd_CX} (hE : ∀ g : sd_H, sd_end G X M_XO_alike (sd_F g)) {h : sd_H} {r : Int32} : ∀ (n : Nat) (l0 : Nat) (l1 : Nat) (l2 : Int32), sd_SH l0 = (4, 4) → sd_SH l1 = (4, 4) → XO_alike_L2 h n l0 l1 l2 = some r → sd_J G X (sd_QR G X M_XO_alike (some (.int r), sd_F h)) M_XO_alike 2 [(0, .ref (G.1 + l0)), (1, .ref (G.1 + l1)), (2, .int l2)] [] (sd_F h) := by
  intro n
  induction n with
  | zero =>
    intro l0 l1 l2 p0 p1 hf
    rw [XO_alike_L2] at hf
    cases hf
  | succ n ih =>
    intro l0 l1 l2 p0 p1 hf
    rw [XO_alike_L2] at hf
    refine sd_iload_n (k := 2) (i := 2) (q := 2) (pc' := 3) (by decide +kernel) rfl rfl ?_
    refine sd_iconst (n := 3) (v := 3) (pc' := 4) (by decide +kernel) (by decide) ?_
    refine sd_icmp_ge (off := 26) (tgt := 30) (pc' := 7) (by decide +kernel) (fun c1 => ?_) (fun c1 => ?_)
    · replace hf := ite_p c1 hf
      refine sd_aload_n (k := 0) (i := 0) (q := 0) (pc' := 31) (by decide +kernel) rfl rfl ?_
      refine sF_gi (idx := 18) (ci := 4) (k := 3) (n := 4) (pc' := 34) (by decide +kernel) fl_X4_18 (by decide +kernel) rfl p0 ?_
      refine sd_aload_n (k := 1) (i := 1) (q := 1) (pc' := 35) (by decide +kernel) rfl rfl ?_
      refine sF_gi (idx := 18) (ci := 4) (k := 3) (n := 4) (pc' := 38) (by decide +kernel) fl_X4_18 (by decide +kernel) rfl p1 ?_
      refine sd_icmp_ne (off := 7) (tgt := 45) (pc' := 41) (by decide +kernel) (fun c2 => ?_) (fun c2 => ?_)
      · replace hf := ite_n c2 hf
        refine sd_iconst (n := 0) (v := 0) (pc' := 46) (by decide +kernel) (by decide) ?_
        obtain rfl := Option.some.inj hf
        exact sd_zret (by decide +kernel) rfl rfl (hE _)
      · replace hf := ite_p c2 hf
        refine sd_iconst (n := 1) (v := 1) (pc' := 42) (by decide +kernel) (by decide) ?_
        refine sd_goto (off := 4) (tgt := 46) (pc' := 45) (by decide +kernel) ?_
        obtain rfl := Option.some.inj hf
        exact sd_zret (by decide +kernel) rfl rfl (hE _)
    · replace hf := ite_n c1 hf
      refine sd_aload_n (k := 0) (i := 0) (q := 0) (pc' := 8) (by decide +kernel) rfl rfl ?_
      refine sF_gr (idx := 9) (ci := 4) (k := 0) (n := 4) (r := (l0 + 1)) (pc' := 11) (by decide +kernel) fl_X4_9 (by decide +kernel) rfl p0 (by decide) (rt_4_0 p0) ?_
      refine sd_iload_n (k := 2) (i := 2) (q := 2) (pc' := 12) (by decide +kernel) rfl rfl ?_
      obtain ⟨g3, hf⟩ := gd_some hf
      refine sF_iald (n := 3) (pc' := 13) (by decide +kernel) (sh_4_0 p0) g3 ?_
      refine sd_aload_n (k := 1) (i := 1) (q := 1) (pc' := 14) (by decide +kernel) rfl rfl ?_
      refine sF_gr (idx := 9) (ci := 4) (k := 0) (n := 4) (r := (l1 + 1)) (pc' := 17) (by decide +kernel) fl_X4_9 (by decide +kernel) rfl p1 (by decide) (rt_4_0 p1) ?_
      refine sd_iload_n (k := 2) (i := 2) (q := 2) (pc' := 18) (by decide +kernel) rfl rfl ?_
      obtain ⟨g4, hf⟩ := gd_some hf
      refine sF_iald (n := 3) (pc' := 19) (by decide +kernel) (sh_4_0 p1) g4 ?_
      refine sd_icmp_eq (off := 5) (tgt := 24) (pc' := 22) (by decide +kernel) (fun c5 => ?_) (fun c5 => ?_)
      · replace hf := ite_p c5 hf
        refine sd_iinc (i := 2) (q := 2) (n := 1) (v := (l2 + 1)) (pc' := 27) (lo' := [(2, .int (l2 + 1)), (0, .ref (G.1 + l0)), (1, .ref (G.1 + l1))]) (by decide +kernel) rfl rfl (by decide) rfl ?_
        refine sd_goto (off := -25) (tgt := 2) (pc' := 30) (by decide +kernel) ?_
        refine sd_J.sub (lo' := [(0, .ref (G.1 + l0)), (1, .ref (G.1 + l1)), (2, .int (l2 + 1))]) [1, 2, 0] rfl ?_
        exact ih _ _ _ p0 p1 hf
      · replace hf := ite_n c5 hf
        refine sd_iconst (n := 0) (v := 0) (pc' := 23) (by decide +kernel) (by decide) ?_
        obtain rfl := Option.some.inj hf
        exact sd_zret (by decide +kernel) rfl rfl (hE _)
def XO_alike (h : sd_H) (this : Nat) (a0 : Nat) : Option Int32 :=
  XO_alike_L2 h FU this a0 0
set_option maxHeartbeats 4000000 in
set_option maxRecDepth 100000 in
theorem T_XO_alike {G : sd_GX} {h : sd_H} {this : Nat} {a0 : Nat} {r : Int32} (pt : sd_SH this = (4, 4)) (pa0 : sd_SH a0 = (4, 4)) (hf : XO_alike h this a0 = some r) : sd_RunF G M_XO_alike [.ref (G.1 + this), .ref (G.1 + a0)] h (some (.int r)) h := by
  refine sF_run ⟨rfl, rfl⟩ (by decide +kernel) (Nat.le_of_ble_eq_true rfl) (lo := [(0, .ref (G.1 + this)), (1, .ref (G.1 + a0))]) rfl (fun X hE => ?_)
  unfold XO_alike at hf
  refine sd_iconst (n := 0) (v := 0) (pc' := 1) (by decide +kernel) (by decide) ?_
  refine sd_istore_n (k := 2) (i := 2) (pc' := 2) (lo' := [(2, .int 0), (0, .ref (G.1 + this)), (1, .ref (G.1 + a0))]) (by decide +kernel) rfl (by decide) rfl ?_
  refine sd_J.sub (lo' := [(0, .ref (G.1 + this)), (1, .ref (G.1 + a0)), (2, .int 0)]) [1, 2, 0] rfl ?_
  exact J_XO_alike_L2 hE _ _ _ _ pt pa0 hf

theorem fl_X11_81 : sd_fl RX11 81 11 11 := ⟨sd_mem (i := 435) (by decide +kernel), by decide, by decide⟩
theorem ml_X11_319 : Cond.methodLink RX11 319 yX6_take ∈ sd_tb := sd_mem (i := 1072) (by decide +kernel)
theorem mv_XR_take : sd_mV M_XR_take 1 := ⟨sd_mem (i := 1073) (by decide +kernel), sd_mem (i := 1074) (by decide +kernel), ⟨sd_mem (i := 1075) (by decide +kernel), sd_mem (i := 109) (by decide +kernel), by decide +kernel, by decide +kernel, by decide +kernel⟩⟩
theorem fl_X11_87 : sd_fl RX11 87 11 13 := ⟨sd_mem (i := 437) (by decide +kernel), by decide, by decide⟩
theorem fl_X11_84 : sd_fl RX11 84 11 12 := ⟨sd_mem (i := 436) (by decide +kernel), by decide, by decide⟩
theorem fl_X11_90 : sd_fl RX11 90 11 14 := ⟨sd_mem (i := 438) (by decide +kernel), by decide, by decide⟩
theorem ml_X11_323 : Cond.methodLink RX11 323 yX6_alike ∈ sd_tb := sd_mem (i := 1077) (by decide +kernel)
theorem mv_XR_alike : sd_mV M_XR_alike 1 := ⟨sd_mem (i := 1078) (by decide +kernel), sd_mem (i := 1079) (by decide +kernel), ⟨sd_mem (i := 1080) (by decide +kernel), sd_mem (i := 109) (by decide +kernel), by decide +kernel, by decide +kernel, by decide +kernel⟩⟩
theorem ml_X11_327 : Cond.methodLink RX11 327 yX4_alike ∈ sd_tb := sd_mem (i := 1081) (by decide +kernel)
theorem mv_XO_alike : sd_mV M_XO_alike 1 := ⟨sd_mem (i := 1082) (by decide +kernel), sd_mem (i := 1083) (by decide +kernel), ⟨sd_mem (i := 1084) (by decide +kernel), sd_mem (i := 118) (by decide +kernel), by decide +kernel, by decide +kernel, by decide +kernel⟩⟩
def M_XT_same : sd_MX := (yX11_same, cX11_same, 6, (some .int), { frames := 7, cells := 0, slots := 0, locals := 195 })
def XT_same (h : sd_H) (a0 : Int32) (a1 : Int32) (a2 : Int32) (a3 : Int32) : Option (sd_H × Int32) :=
  b2 (XT_mixedRefusal h a0 a1 a2 a3) (fun h2 t3 => (if t3 = 0 then b1 (XR_take h2 110 1) (fun h6 => b1 (XU_treatAsTheyAre h6) (fun h8 => b1 (XU_go h8 110 120 1 0 0) (fun h10 => b1 (XR_take h10 115 1) (fun h12 => b1 (XU_treatByVerdict h12) (fun h14 => b1 (XU_go h14 115 123 a0 a1 a2) (fun h16 => b1 (XR_alike h16 110 115) (fun t18 => (if t18 = 0 then some (h16, 0) else b1 (XO_alike h16 120 123) (fun t21 => (if t21 = 0 then some (h16, 0) else some (h16, 1))))))))))) else some (h2, t3)))
set_option maxHeartbeats 4000000 in
set_option maxRecDepth 100000 in
theorem T_XT_same {G : sd_GX} {h : sd_H} {a0 : Int32} {a1 : Int32} {a2 : Int32} {a3 : Int32} {r : (sd_H × Int32)} (hf : XT_same h a0 a1 a2 a3 = some r) : sd_RunF G M_XT_same [.ref (G.1 + 0), .int a0, .int a1, .int a2, .int a3] h (some (.int r.2)) r.1 := by
  refine sF_run ⟨rfl, rfl⟩ (by decide +kernel) (Nat.le_of_ble_eq_true rfl) (lo := [(0, .ref (G.1 + 0)), (1, .int a0), (2, .int a1), (3, .int a2), (4, .int a3)]) rfl (fun X hE => ?_)
  unfold XT_same at hf
  refine sd_aload_n (k := 0) (i := 0) (q := 0) (pc' := 1) (by decide +kernel) rfl rfl ?_
  refine sd_iload_n (k := 1) (i := 1) (q := 1) (pc' := 2) (by decide +kernel) rfl rfl ?_
  refine sd_iload_n (k := 2) (i := 2) (q := 2) (pc' := 3) (by decide +kernel) rfl rfl ?_
  refine sd_iload_n (k := 3) (i := 3) (q := 3) (pc' := 4) (by decide +kernel) rfl rfl ?_
  refine sd_iload (i := 4) (q := 4) (pc' := 6) (by decide +kernel) rfl ?_
  obtain ⟨h2, t3, q1, hf⟩ := b2_some hf
  refine sF_callV (idx := 312) (b := 0) (As := [.int a0, .int a1, .int a2, .int a3]) (ci := 11) (nn := 17) (pc' := 9) 4 (T_XT_mixedRefusal (G := G) (h := h)  q1) (by decide +kernel) mv_XT_mixedRefusal ml_X11_312 (by decide +kernel) rfl rfl (Nat.le_of_ble_eq_true rfl) SH_0 rfl (by decide) rfl rfl ?_
  refine sd_istore (i := 5) (pc' := 11) (lo' := [(5, .int t3), (0, .ref (G.1 + 0)), (1, .int a0), (2, .int a1), (3, .int a2), (4, .int a3)]) (by decide +kernel) (by decide) rfl ?_
  refine sd_iload (i := 5) (q := 0) (pc' := 13) (by decide +kernel) rfl ?_
  refine sd_if_eq (off := 6) (tgt := 19) (pc' := 16) (by decide +kernel) (fun c4 => ?_) (fun c4 => ?_)
  · replace hf := ite_p c4 hf
    refine sd_aload_n (k := 0) (i := 0) (q := 1) (pc' := 20) (by decide +kernel) rfl rfl ?_
    refine sF_gr (idx := 81) (ci := 11) (k := 11) (n := 17) (r := 110) (pc' := 23) (by decide +kernel) fl_X11_81 (by decide +kernel) rfl SH_0 (by decide) (by decide +kernel) ?_
    refine sd_aload_n (k := 0) (i := 0) (q := 1) (pc' := 24) (by decide +kernel) rfl rfl ?_
    refine sF_gr (idx := 12) (ci := 11) (k := 0) (n := 17) (r := 1) (pc' := 27) (by decide +kernel) fl_X11_12 (by decide +kernel) rfl SH_0 (by decide) (by decide +kernel) ?_
    obtain ⟨h6, q5, hf⟩ := b1_some hf
    refine sF_callV0 (idx := 319) (b := 110) (As := [.ref (G.1 + 1)]) (ci := 6) (nn := 4) (pc' := 30) 1 (T_XR_take (G := G) (h := h2) SH_110 SH_1 q5) (by decide +kernel) mv_XR_take ml_X11_319 (by decide +kernel) rfl rfl (Nat.le_of_ble_eq_true rfl) SH_110 rfl (by decide) rfl rfl ?_
    refine sd_aload_n (k := 0) (i := 0) (q := 1) (pc' := 31) (by decide +kernel) rfl rfl ?_
    refine sF_gr (idx := 70) (ci := 11) (k := 9) (n := 17) (r := 100) (pc' := 34) (by decide +kernel) fl_X11_70 (by decide +kernel) rfl SH_0 (by decide) (by decide +kernel) ?_
    obtain ⟨h8, q7, hf⟩ := b1_some hf
    refine sF_callV0 (idx := 304) (b := 100) (As := []) (ci := 7) (nn := 11) (pc' := 37) 0 (T_XU_treatAsTheyAre (G := G) (h := h6)  q7) (by decide +kernel) mv_XU_treatAsTheyAre ml_X11_304 (by decide +kernel) rfl rfl (Nat.le_of_ble_eq_true rfl) SH_100 rfl (by decide) rfl rfl ?_
    refine sd_aload_n (k := 0) (i := 0) (q := 1) (pc' := 38) (by decide +kernel) rfl rfl ?_
    refine sF_gr (idx := 70) (ci := 11) (k := 9) (n := 17) (r := 100) (pc' := 41) (by decide +kernel) fl_X11_70 (by decide +kernel) rfl SH_0 (by decide) (by decide +kernel) ?_
    refine sd_aload_n (k := 0) (i := 0) (q := 1) (pc' := 42) (by decide +kernel) rfl rfl ?_
    refine sF_gr (idx := 81) (ci := 11) (k := 11) (n := 17) (r := 110) (pc' := 45) (by decide +kernel) fl_X11_81 (by decide +kernel) rfl SH_0 (by decide) (by decide +kernel) ?_
    refine sd_aload_n (k := 0) (i := 0) (q := 1) (pc' := 46) (by decide +kernel) rfl rfl ?_
    refine sF_gr (idx := 87) (ci := 11) (k := 13) (n := 17) (r := 120) (pc' := 49) (by decide +kernel) fl_X11_87 (by decide +kernel) rfl SH_0 (by decide) (by decide +kernel) ?_
    refine sd_iconst (n := 1) (v := 1) (pc' := 50) (by decide +kernel) (by decide) ?_
    refine sd_iconst (n := 0) (v := 0) (pc' := 51) (by decide +kernel) (by decide) ?_
    refine sd_iconst (n := 0) (v := 0) (pc' := 52) (by decide +kernel) (by decide) ?_
    obtain ⟨h10, q9, hf⟩ := b1_some hf
    refine sF_callV0 (idx := 307) (b := 100) (As := [.ref (G.1 + 110), .ref (G.1 + 120), .int 1, .int 0, .int 0]) (ci := 7) (nn := 11) (pc' := 55) 5 (T_XU_go (G := G) (h := h8) SH_110 SH_120 q9) (by decide +kernel) mv_XU_go ml_X11_307 (by decide +kernel) rfl rfl (Nat.le_of_ble_eq_true rfl) SH_100 rfl (by decide) rfl rfl ?_
    refine sd_aload_n (k := 0) (i := 0) (q := 1) (pc' := 56) (by decide +kernel) rfl rfl ?_
    refine sF_gr (idx := 84) (ci := 11) (k := 12) (n := 17) (r := 115) (pc' := 59) (by decide +kernel) fl_X11_84 (by decide +kernel) rfl SH_0 (by decide) (by decide +kernel) ?_
    refine sd_aload_n (k := 0) (i := 0) (q := 1) (pc' := 60) (by decide +kernel) rfl rfl ?_
    refine sF_gr (idx := 12) (ci := 11) (k := 0) (n := 17) (r := 1) (pc' := 63) (by decide +kernel) fl_X11_12 (by decide +kernel) rfl SH_0 (by decide) (by decide +kernel) ?_
    obtain ⟨h12, q11, hf⟩ := b1_some hf
    refine sF_callV0 (idx := 319) (b := 115) (As := [.ref (G.1 + 1)]) (ci := 6) (nn := 4) (pc' := 66) 1 (T_XR_take (G := G) (h := h10) SH_115 SH_1 q11) (by decide +kernel) mv_XR_take ml_X11_319 (by decide +kernel) rfl rfl (Nat.le_of_ble_eq_true rfl) SH_115 rfl (by decide) rfl rfl ?_
    refine sd_aload_n (k := 0) (i := 0) (q := 1) (pc' := 67) (by decide +kernel) rfl rfl ?_
    refine sF_gr (idx := 70) (ci := 11) (k := 9) (n := 17) (r := 100) (pc' := 70) (by decide +kernel) fl_X11_70 (by decide +kernel) rfl SH_0 (by decide) (by decide +kernel) ?_
    refine sd_aload_n (k := 0) (i := 0) (q := 1) (pc' := 71) (by decide +kernel) rfl rfl ?_
    refine sF_gr (idx := 41) (ci := 11) (k := 4) (n := 17) (r := 56) (pc' := 74) (by decide +kernel) fl_X11_41 (by decide +kernel) rfl SH_0 (by decide) (by decide +kernel) ?_
    obtain ⟨h14, q13, hf⟩ := b1_some hf
    refine sF_callV0 (idx := 315) (b := 100) (As := [.ref (G.1 + 56)]) (ci := 7) (nn := 11) (pc' := 77) 1 (T_XU_treatByVerdict (G := G) (h := h12)  q13) (by decide +kernel) mv_XU_treatByVerdict ml_X11_315 (by decide +kernel) rfl rfl (Nat.le_of_ble_eq_true rfl) SH_100 rfl (by decide) rfl rfl ?_
    refine sd_aload_n (k := 0) (i := 0) (q := 1) (pc' := 78) (by decide +kernel) rfl rfl ?_
    refine sF_gr (idx := 70) (ci := 11) (k := 9) (n := 17) (r := 100) (pc' := 81) (by decide +kernel) fl_X11_70 (by decide +kernel) rfl SH_0 (by decide) (by decide +kernel) ?_
    refine sd_aload_n (k := 0) (i := 0) (q := 1) (pc' := 82) (by decide +kernel) rfl rfl ?_
    refine sF_gr (idx := 84) (ci := 11) (k := 12) (n := 17) (r := 115) (pc' := 85) (by decide +kernel) fl_X11_84 (by decide +kernel) rfl SH_0 (by decide) (by decide +kernel) ?_
    refine sd_aload_n (k := 0) (i := 0) (q := 1) (pc' := 86) (by decide +kernel) rfl rfl ?_
    refine sF_gr (idx := 90) (ci := 11) (k := 14) (n := 17) (r := 123) (pc' := 89) (by decide +kernel) fl_X11_90 (by decide +kernel) rfl SH_0 (by decide) (by decide +kernel) ?_
    refine sd_iload_n (k := 1) (i := 1) (q := 2) (pc' := 90) (by decide +kernel) rfl rfl ?_
    refine sd_iload_n (k := 2) (i := 2) (q := 3) (pc' := 91) (by decide +kernel) rfl rfl ?_
    refine sd_iload_n (k := 3) (i := 3) (q := 4) (pc' := 92) (by decide +kernel) rfl rfl ?_
    obtain ⟨h16, q15, hf⟩ := b1_some hf
    refine sF_callV0 (idx := 307) (b := 100) (As := [.ref (G.1 + 115), .ref (G.1 + 123), .int a0, .int a1, .int a2]) (ci := 7) (nn := 11) (pc' := 95) 5 (T_XU_go (G := G) (h := h14) SH_115 SH_123 q15) (by decide +kernel) mv_XU_go ml_X11_307 (by decide +kernel) rfl rfl (Nat.le_of_ble_eq_true rfl) SH_100 rfl (by decide) rfl rfl ?_
    refine sd_aload_n (k := 0) (i := 0) (q := 1) (pc' := 96) (by decide +kernel) rfl rfl ?_
    refine sF_gr (idx := 81) (ci := 11) (k := 11) (n := 17) (r := 110) (pc' := 99) (by decide +kernel) fl_X11_81 (by decide +kernel) rfl SH_0 (by decide) (by decide +kernel) ?_
    refine sd_aload_n (k := 0) (i := 0) (q := 1) (pc' := 100) (by decide +kernel) rfl rfl ?_
    refine sF_gr (idx := 84) (ci := 11) (k := 12) (n := 17) (r := 115) (pc' := 103) (by decide +kernel) fl_X11_84 (by decide +kernel) rfl SH_0 (by decide) (by decide +kernel) ?_
    obtain ⟨t18, q17, hf⟩ := b1_some hf
    refine sF_callV (idx := 323) (b := 110) (As := [.ref (G.1 + 115)]) (ci := 6) (nn := 4) (pc' := 106) 1 (T_XR_alike (G := G) (h := h16) SH_110 SH_115 q17) (by decide +kernel) mv_XR_alike ml_X11_323 (by decide +kernel) rfl rfl (Nat.le_of_ble_eq_true rfl) SH_110 rfl (by decide) rfl rfl ?_
    refine sd_if_eq (off := 21) (tgt := 127) (pc' := 109) (by decide +kernel) (fun c19 => ?_) (fun c19 => ?_)
    · replace hf := ite_p c19 hf
      refine sd_iconst (n := 0) (v := 0) (pc' := 128) (by decide +kernel) (by decide) ?_
      obtain rfl := Option.some.inj hf
      exact sd_iret (by decide +kernel) rfl (hE _)
    · replace hf := ite_n c19 hf
      refine sd_aload_n (k := 0) (i := 0) (q := 1) (pc' := 110) (by decide +kernel) rfl rfl ?_
      refine sF_gr (idx := 87) (ci := 11) (k := 13) (n := 17) (r := 120) (pc' := 113) (by decide +kernel) fl_X11_87 (by decide +kernel) rfl SH_0 (by decide) (by decide +kernel) ?_
      refine sd_aload_n (k := 0) (i := 0) (q := 1) (pc' := 114) (by decide +kernel) rfl rfl ?_
      refine sF_gr (idx := 90) (ci := 11) (k := 14) (n := 17) (r := 123) (pc' := 117) (by decide +kernel) fl_X11_90 (by decide +kernel) rfl SH_0 (by decide) (by decide +kernel) ?_
      obtain ⟨t21, q20, hf⟩ := b1_some hf
      refine sF_callV (idx := 327) (b := 120) (As := [.ref (G.1 + 123)]) (ci := 4) (nn := 4) (pc' := 120) 1 (T_XO_alike (G := G) (h := h16) SH_120 SH_123 q20) (by decide +kernel) mv_XO_alike ml_X11_327 (by decide +kernel) rfl rfl (Nat.le_of_ble_eq_true rfl) SH_120 rfl (by decide) rfl rfl ?_
      refine sd_if_eq (off := 7) (tgt := 127) (pc' := 123) (by decide +kernel) (fun c22 => ?_) (fun c22 => ?_)
      · replace hf := ite_p c22 hf
        refine sd_iconst (n := 0) (v := 0) (pc' := 128) (by decide +kernel) (by decide) ?_
        obtain rfl := Option.some.inj hf
        exact sd_iret (by decide +kernel) rfl (hE _)
      · replace hf := ite_n c22 hf
        refine sd_iconst (n := 1) (v := 1) (pc' := 124) (by decide +kernel) (by decide) ?_
        refine sd_goto (off := 4) (tgt := 128) (pc' := 127) (by decide +kernel) ?_
        obtain rfl := Option.some.inj hf
        exact sd_iret (by decide +kernel) rfl (hE _)
  · replace hf := ite_n c4 hf
    refine sd_iload (i := 5) (q := 0) (pc' := 18) (by decide +kernel) rfl ?_
    obtain rfl := Option.some.inj hf
    exact sd_iret (by decide +kernel) rfl (hE _)

theorem fl_X11_330 : sd_fl RX11 330 4 0 := ⟨sd_mem (i := 407) (by decide +kernel), by decide, by decide⟩
def M_XT_faults : sd_MX := (yX11_faults, cX11_faults, 2, (some .int), { frames := 2, cells := 0, slots := 0, locals := 62 })
def XT_faults (h : sd_H) (a0 : Int32) : Option Int32 :=
  b1 (XT_within a0 0 2) (fun t2 => (if t2 = 0 then some (-2) else gd (sd_inB a0 3) (some (h.1 108 (a0 : Int32).toNatClampNeg))))
set_option maxHeartbeats 4000000 in
set_option maxRecDepth 100000 in
theorem T_XT_faults {G : sd_GX} {h : sd_H} {a0 : Int32} {r : Int32} (hf : XT_faults h a0 = some r) : sd_RunF G M_XT_faults [.ref (G.1 + 0), .int a0] h (some (.int r)) h := by
  refine sF_run ⟨rfl, rfl⟩ (by decide +kernel) (Nat.le_of_ble_eq_true rfl) (lo := [(0, .ref (G.1 + 0)), (1, .int a0)]) rfl (fun X hE => ?_)
  unfold XT_faults at hf
  refine sd_iload_n (k := 1) (i := 1) (q := 1) (pc' := 1) (by decide +kernel) rfl rfl ?_
  refine sd_iconst (n := 0) (v := 0) (pc' := 2) (by decide +kernel) (by decide) ?_
  refine sd_iconst (n := 2) (v := 2) (pc' := 3) (by decide +kernel) (by decide) ?_
  obtain ⟨t2, q1, hf⟩ := b1_some hf
  refine sF_callS (idx := 97) (As := [.int a0, .int 0, .int 2]) (pc' := 6) 3 (T_XT_within (G := G) (h := h)  q1) (by decide +kernel) mv_XT_within ml_X11_97 (by decide +kernel) rfl rfl (Nat.le_of_ble_eq_true rfl) rfl ?_
  refine sd_if_eq (off := 15) (tgt := 21) (pc' := 9) (by decide +kernel) (fun c3 => ?_) (fun c3 => ?_)
  · replace hf := ite_p c3 hf
    refine sd_bipush (n := -2) (v := (-2)) (pc' := 23) (by decide +kernel) (by decide) ?_
    obtain rfl := Option.some.inj hf
    exact sd_iret (by decide +kernel) rfl (hE _)
  · replace hf := ite_n c3 hf
    refine sd_aload_n (k := 0) (i := 0) (q := 0) (pc' := 10) (by decide +kernel) rfl rfl ?_
    refine sF_gr (idx := 77) (ci := 11) (k := 10) (n := 17) (r := 107) (pc' := 13) (by decide +kernel) fl_X11_77 (by decide +kernel) rfl SH_0 (by decide) (by decide +kernel) ?_
    refine sF_gr (idx := 330) (ci := 4) (k := 0) (n := 4) (r := 108) (pc' := 16) (by decide +kernel) fl_X11_330 (by decide +kernel) rfl SH_107 (by decide) (by decide +kernel) ?_
    refine sd_iload_n (k := 1) (i := 1) (q := 1) (pc' := 17) (by decide +kernel) rfl rfl ?_
    obtain ⟨g4, hf⟩ := gd_some hf
    refine sF_iald (n := 3) (pc' := 18) (by decide +kernel) SH_108 g4 ?_
    refine sd_goto (off := 5) (tgt := 23) (pc' := 21) (by decide +kernel) ?_
    obtain rfl := Option.some.inj hf
    exact sd_iret (by decide +kernel) rfl (hE _)

theorem fl_X11_333 : sd_fl RX11 333 4 2 := ⟨sd_mem (i := 411) (by decide +kernel), by decide, by decide⟩
theorem fl_X11_336 : sd_fl RX11 336 4 1 := ⟨sd_mem (i := 409) (by decide +kernel), by decide, by decide⟩
def M_XT_ended : sd_MX := (yX11_ended, cX11_ended, 2, (some .int), { frames := 2, cells := 0, slots := 0, locals := 62 })
def XT_ended (h : sd_H) (a0 : Int32) : Option Int32 :=
  b1 (XT_within a0 0 9) (fun t2 => (if t2 = 0 then some (-2) else (if (h.1 107 2) ≤ a0 then some (-1) else gd (sd_inB a0 10) (some (h.1 109 (a0 : Int32).toNatClampNeg)))))
set_option maxHeartbeats 4000000 in
set_option maxRecDepth 100000 in
theorem T_XT_ended {G : sd_GX} {h : sd_H} {a0 : Int32} {r : Int32} (hf : XT_ended h a0 = some r) : sd_RunF G M_XT_ended [.ref (G.1 + 0), .int a0] h (some (.int r)) h := by
  refine sF_run ⟨rfl, rfl⟩ (by decide +kernel) (Nat.le_of_ble_eq_true rfl) (lo := [(0, .ref (G.1 + 0)), (1, .int a0)]) rfl (fun X hE => ?_)
  unfold XT_ended at hf
  refine sd_iload_n (k := 1) (i := 1) (q := 1) (pc' := 1) (by decide +kernel) rfl rfl ?_
  refine sd_iconst (n := 0) (v := 0) (pc' := 2) (by decide +kernel) (by decide) ?_
  refine sd_bipush (n := 9) (v := 9) (pc' := 4) (by decide +kernel) (by decide) ?_
  obtain ⟨t2, q1, hf⟩ := b1_some hf
  refine sF_callS (idx := 97) (As := [.int a0, .int 0, .int 9]) (pc' := 7) 3 (T_XT_within (G := G) (h := h)  q1) (by decide +kernel) mv_XT_within ml_X11_97 (by decide +kernel) rfl rfl (Nat.le_of_ble_eq_true rfl) rfl ?_
  refine sd_if_ne (off := 6) (tgt := 13) (pc' := 10) (by decide +kernel) (fun c3 => ?_) (fun c3 => ?_)
  · replace hf := ite_n c3 hf
    refine sd_iload_n (k := 1) (i := 1) (q := 1) (pc' := 14) (by decide +kernel) rfl rfl ?_
    refine sd_aload_n (k := 0) (i := 0) (q := 0) (pc' := 15) (by decide +kernel) rfl rfl ?_
    refine sF_gr (idx := 77) (ci := 11) (k := 10) (n := 17) (r := 107) (pc' := 18) (by decide +kernel) fl_X11_77 (by decide +kernel) rfl SH_0 (by decide) (by decide +kernel) ?_
    refine sF_gi (idx := 333) (ci := 4) (k := 2) (n := 4) (pc' := 21) (by decide +kernel) fl_X11_333 (by decide +kernel) rfl SH_107 ?_
    refine sd_icmp_ge (off := 15) (tgt := 36) (pc' := 24) (by decide +kernel) (fun c4 => ?_) (fun c4 => ?_)
    · replace hf := ite_p c4 hf
      refine sd_iconst (n := -1) (v := (-1)) (pc' := 37) (by decide +kernel) (by decide) ?_
      obtain rfl := Option.some.inj hf
      exact sd_iret (by decide +kernel) rfl (hE _)
    · replace hf := ite_n c4 hf
      refine sd_aload_n (k := 0) (i := 0) (q := 0) (pc' := 25) (by decide +kernel) rfl rfl ?_
      refine sF_gr (idx := 77) (ci := 11) (k := 10) (n := 17) (r := 107) (pc' := 28) (by decide +kernel) fl_X11_77 (by decide +kernel) rfl SH_0 (by decide) (by decide +kernel) ?_
      refine sF_gr (idx := 336) (ci := 4) (k := 1) (n := 4) (r := 109) (pc' := 31) (by decide +kernel) fl_X11_336 (by decide +kernel) rfl SH_107 (by decide) (by decide +kernel) ?_
      refine sd_iload_n (k := 1) (i := 1) (q := 1) (pc' := 32) (by decide +kernel) rfl rfl ?_
      obtain ⟨g5, hf⟩ := gd_some hf
      refine sF_iald (n := 10) (pc' := 33) (by decide +kernel) SH_109 g5 ?_
      refine sd_goto (off := 4) (tgt := 37) (pc' := 36) (by decide +kernel) ?_
      obtain rfl := Option.some.inj hf
      exact sd_iret (by decide +kernel) rfl (hE _)
  · replace hf := ite_p c3 hf
    refine sd_bipush (n := -2) (v := (-2)) (pc' := 12) (by decide +kernel) (by decide) ?_
    obtain rfl := Option.some.inj hf
    exact sd_iret (by decide +kernel) rfl (hE _)

theorem fl_X11_339 : sd_fl RX11 339 6 3 := ⟨sd_mem (i := 153) (by decide +kernel), by decide, by decide⟩
def M_XT_writer : sd_MX := (yX11_writer, cX11_writer, 3, (some .int), { frames := 3, cells := 0, slots := 0, locals := 82 })
def XT_writer (h : sd_H) (a0 : Int32) (a1 : Int32) : Option (sd_H × Int32) :=
  b1 (XT_isRow a0) (fun t2 => (if t2 = 0 then some (h, (-2)) else b1 (XR_isMissing h 1 a0) (fun t5 => (if t5 = 0 then b1 (XR_hasCell h 1 a0 a1) (fun t8 => (if t8 = 0 then b2 (XT_found h 2) (fun h12 t13 => some (h12, t13)) else gd (sd_inB ((a0 * 24) + a1) 144) (some (h, (h.1 5 (((a0 * 24) + a1) : Int32).toNatClampNeg))))) else b2 (XT_found h 1) (fun h15 t16 => some (h15, t16))))))
set_option maxHeartbeats 4000000 in
set_option maxRecDepth 100000 in
theorem T_XT_writer {G : sd_GX} {h : sd_H} {a0 : Int32} {a1 : Int32} {r : (sd_H × Int32)} (hf : XT_writer h a0 a1 = some r) : sd_RunF G M_XT_writer [.ref (G.1 + 0), .int a0, .int a1] h (some (.int r.2)) r.1 := by
  refine sF_run ⟨rfl, rfl⟩ (by decide +kernel) (Nat.le_of_ble_eq_true rfl) (lo := [(0, .ref (G.1 + 0)), (1, .int a0), (2, .int a1)]) rfl (fun X hE => ?_)
  unfold XT_writer at hf
  refine sd_iload_n (k := 1) (i := 1) (q := 1) (pc' := 1) (by decide +kernel) rfl rfl ?_
  obtain ⟨t2, q1, hf⟩ := b1_some hf
  refine sF_callS (idx := 93) (As := [.int a0]) (pc' := 4) 1 (T_XT_isRow (G := G) (h := h)  q1) (by decide +kernel) mv_XT_isRow ml_X11_93 (by decide +kernel) rfl rfl (Nat.le_of_ble_eq_true rfl) rfl ?_
  refine sd_if_ne (off := 6) (tgt := 10) (pc' := 7) (by decide +kernel) (fun c3 => ?_) (fun c3 => ?_)
  · replace hf := ite_n c3 hf
    refine sd_aload_n (k := 0) (i := 0) (q := 0) (pc' := 11) (by decide +kernel) rfl rfl ?_
    refine sF_gr (idx := 12) (ci := 11) (k := 0) (n := 17) (r := 1) (pc' := 14) (by decide +kernel) fl_X11_12 (by decide +kernel) rfl SH_0 (by decide) (by decide +kernel) ?_
    refine sd_iload_n (k := 1) (i := 1) (q := 1) (pc' := 15) (by decide +kernel) rfl rfl ?_
    obtain ⟨t5, q4, hf⟩ := b1_some hf
    refine sF_callV (idx := 113) (b := 1) (As := [.int a0]) (ci := 6) (nn := 4) (pc' := 18) 1 (T_XR_isMissing (G := G) (h := h) SH_1 q4) (by decide +kernel) mv_XR_isMissing ml_X11_113 (by decide +kernel) rfl rfl (Nat.le_of_ble_eq_true rfl) SH_1 rfl (by decide) rfl rfl ?_
    refine sd_if_eq (off := 9) (tgt := 27) (pc' := 21) (by decide +kernel) (fun c6 => ?_) (fun c6 => ?_)
    · replace hf := ite_p c6 hf
      refine sd_aload_n (k := 0) (i := 0) (q := 0) (pc' := 28) (by decide +kernel) rfl rfl ?_
      refine sF_gr (idx := 12) (ci := 11) (k := 0) (n := 17) (r := 1) (pc' := 31) (by decide +kernel) fl_X11_12 (by decide +kernel) rfl SH_0 (by decide) (by decide +kernel) ?_
      refine sd_iload_n (k := 1) (i := 1) (q := 1) (pc' := 32) (by decide +kernel) rfl rfl ?_
      refine sd_iload_n (k := 2) (i := 2) (q := 2) (pc' := 33) (by decide +kernel) rfl rfl ?_
      obtain ⟨t8, q7, hf⟩ := b1_some hf
      refine sF_callV (idx := 122) (b := 1) (As := [.int a0, .int a1]) (ci := 6) (nn := 4) (pc' := 36) 2 (T_XR_hasCell (G := G) (h := h) SH_1 q7) (by decide +kernel) mv_XR_hasCell ml_X11_122 (by decide +kernel) rfl rfl (Nat.le_of_ble_eq_true rfl) SH_1 rfl (by decide) rfl rfl ?_
      refine sd_if_ne (off := 9) (tgt := 45) (pc' := 39) (by decide +kernel) (fun c9 => ?_) (fun c9 => ?_)
      · replace hf := ite_n c9 hf
        refine sd_aload_n (k := 0) (i := 0) (q := 0) (pc' := 46) (by decide +kernel) rfl rfl ?_
        refine sF_gr (idx := 12) (ci := 11) (k := 0) (n := 17) (r := 1) (pc' := 49) (by decide +kernel) fl_X11_12 (by decide +kernel) rfl SH_0 (by decide) (by decide +kernel) ?_
        refine sF_gr (idx := 339) (ci := 6) (k := 3) (n := 4) (r := 5) (pc' := 52) (by decide +kernel) fl_X11_339 (by decide +kernel) rfl SH_1 (by decide) (by decide +kernel) ?_
        refine sd_iload_n (k := 1) (i := 1) (q := 1) (pc' := 53) (by decide +kernel) rfl rfl ?_
        refine sd_bipush (n := 24) (v := 24) (pc' := 55) (by decide +kernel) (by decide) ?_
        refine sd_imul (pc' := 56) (by decide +kernel) ?_
        refine sd_iload_n (k := 2) (i := 2) (q := 2) (pc' := 57) (by decide +kernel) rfl rfl ?_
        refine sd_iadd (pc' := 58) (by decide +kernel) ?_
        obtain ⟨g10, hf⟩ := gd_some hf
        refine sF_iald (n := 144) (pc' := 59) (by decide +kernel) SH_5 g10 ?_
        obtain rfl := Option.some.inj hf
        exact sd_iret (by decide +kernel) rfl (hE _)
      · replace hf := ite_p c9 hf
        refine sd_aload_n (k := 0) (i := 0) (q := 0) (pc' := 40) (by decide +kernel) rfl rfl ?_
        refine sd_iconst (n := 2) (v := 2) (pc' := 41) (by decide +kernel) (by decide) ?_
        obtain ⟨h12, t13, q11, hf⟩ := b2_some hf
        refine sF_callV (idx := 101) (b := 0) (As := [.int 2]) (ci := 11) (nn := 17) (pc' := 44) 1 (T_XT_found (G := G) (h := h)  q11) (by decide +kernel) mv_XT_found ml_X11_101 (by decide +kernel) rfl rfl (Nat.le_of_ble_eq_true rfl) SH_0 rfl (by decide) rfl rfl ?_
        obtain rfl := Option.some.inj hf
        exact sd_iret (by decide +kernel) rfl (hE _)
    · replace hf := ite_n c6 hf
      refine sd_aload_n (k := 0) (i := 0) (q := 0) (pc' := 22) (by decide +kernel) rfl rfl ?_
      refine sd_iconst (n := 1) (v := 1) (pc' := 23) (by decide +kernel) (by decide) ?_
      obtain ⟨h15, t16, q14, hf⟩ := b2_some hf
      refine sF_callV (idx := 101) (b := 0) (As := [.int 1]) (ci := 11) (nn := 17) (pc' := 26) 1 (T_XT_found (G := G) (h := h)  q14) (by decide +kernel) mv_XT_found ml_X11_101 (by decide +kernel) rfl rfl (Nat.le_of_ble_eq_true rfl) SH_0 rfl (by decide) rfl rfl ?_
      obtain rfl := Option.some.inj hf
      exact sd_iret (by decide +kernel) rfl (hE _)
  · replace hf := ite_p c3 hf
    refine sd_bipush (n := -2) (v := (-2)) (pc' := 9) (by decide +kernel) (by decide) ?_
    obtain rfl := Option.some.inj hf
    exact sd_iret (by decide +kernel) rfl (hE _)

theorem ml_X6_31 : Cond.methodLink RX6 31 yX6_isMissing ∈ sd_tb := sd_mem (i := 1105) (by decide +kernel)
def M_XR_missing : sd_MX := (yX6_missing, cX6_missing, 3, (some .int), { frames := 2, cells := 0, slots := 0, locals := 61 })
def XR_missing_B21 (h : sd_H) (K4 : Nat → Int32 → Int32 → Option Int32) (l0 : Nat) (l1 : Int32) (l2 : Int32) : Option Int32 :=
  K4 l0 l1 (l2 + 1)
set_option maxHeartbeats 4000000 in
set_option maxRecDepth 100000 in
theorem J_XR_missing_B21 {G : sd_GX} {X : sd_CX} (hE : ∀ g : sd_H, sd_end G X M_XR_missing (sd_F g)) {h : sd_H} {K4 : Nat → Int32 → Int32 → Option Int32} {r : Int32} (hK4 : ∀ (l0 : Nat) (l1 : Int32) (l2 : Int32), sd_SH l0 = (6, 4) → K4 l0 l1 l2 = some r → sd_J G X (sd_QR G X M_XR_missing (some (.int r), sd_F h)) M_XR_missing 4 [(0, .ref (G.1 + l0)), (1, .int l1), (2, .int l2)] [] (sd_F h)) {l0 : Nat} {l1 : Int32} {l2 : Int32} (p0 : sd_SH l0 = (6, 4)) (hf : XR_missing_B21 h K4 l0 l1 l2 = some r) : sd_J G X (sd_QR G X M_XR_missing (some (.int r), sd_F h)) M_XR_missing 21 [(0, .ref (G.1 + l0)), (1, .int l1), (2, .int l2)] [] (sd_F h) := by
  unfold XR_missing_B21 at hf
  refine sd_iinc (i := 2) (q := 2) (n := 1) (v := (l2 + 1)) (pc' := 24) (lo' := [(2, .int (l2 + 1)), (0, .ref (G.1 + l0)), (1, .int l1)]) (by decide +kernel) rfl rfl (by decide) rfl ?_
  refine sd_goto (off := -20) (tgt := 4) (pc' := 27) (by decide +kernel) ?_
  refine sd_J.sub (lo' := [(0, .ref (G.1 + l0)), (1, .int l1), (2, .int (l2 + 1))]) [1, 2, 0] rfl ?_
  exact hK4 _ _ _ p0 hf
def XR_missing_L4 (h : sd_H) : Nat → Nat → Int32 → Int32 → Option Int32
  | 0, _, _, _ => none
  | n + 1, l0, l1, l2 =>
  (if 6 ≤ l2 then some l1 else b1 (XR_isMissing h l0 l2) (fun t3 => (if t3 = 0 then XR_missing_B21 h (XR_missing_L4 h n) l0 l1 l2 else XR_missing_B21 h (XR_missing_L4 h n) l0 (l1 + 1) l2)))
set_option maxHeartbeats 4000000 in
set_option maxRecDepth 100000 in
theorem J_XR_missing_L4 {G : sd_GX} {X : sd_CX} (hE : ∀ g : sd_H, sd_end G X M_XR_missing (sd_F g)) {h : sd_H} {r : Int32} : ∀ (n : Nat) (l0 : Nat) (l1 : Int32) (l2 : Int32), sd_SH l0 = (6, 4) → XR_missing_L4 h n l0 l1 l2 = some r → sd_J G X (sd_QR G X M_XR_missing (some (.int r), sd_F h)) M_XR_missing 4 [(0, .ref (G.1 + l0)), (1, .int l1), (2, .int l2)] [] (sd_F h) := by
  intro n
  induction n with
  | zero =>
    intro l0 l1 l2 p0 hf
    rw [XR_missing_L4] at hf
    cases hf
  | succ n ih =>
    intro l0 l1 l2 p0 hf
    rw [XR_missing_L4] at hf
    refine sd_iload_n (k := 2) (i := 2) (q := 2) (pc' := 5) (by decide +kernel) rfl rfl ?_
    refine sd_bipush (n := 6) (v := 6) (pc' := 7) (by decide +kernel) (by decide) ?_
    refine sd_icmp_ge (off := 20) (tgt := 27) (pc' := 10) (by decide +kernel) (fun c1 => ?_) (fun c1 => ?_)
    · replace hf := ite_p c1 hf
      refine sd_iload_n (k := 1) (i := 1) (q := 1) (pc' := 28) (by decide +kernel) rfl rfl ?_
      obtain rfl := Option.some.inj hf
      exact sd_iret (by decide +kernel) rfl (hE _)
    · replace hf := ite_n c1 hf
      refine sd_aload_n (k := 0) (i := 0) (q := 0) (pc' := 11) (by decide +kernel) rfl rfl ?_
      refine sd_iload_n (k := 2) (i := 2) (q := 2) (pc' := 12) (by decide +kernel) rfl rfl ?_
      obtain ⟨t3, q2, hf⟩ := b1_some hf
      refine sF_callV (idx := 31) (b := l0) (As := [.int l2]) (ci := 6) (nn := 4) (pc' := 15) 1 (T_XR_isMissing (G := G) (h := h) p0 q2) (by decide +kernel) mv_XR_isMissing ml_X6_31 (by decide +kernel) rfl rfl (Nat.le_of_ble_eq_true rfl) p0 rfl (by decide) rfl rfl ?_
      refine sd_if_eq (off := 6) (tgt := 21) (pc' := 18) (by decide +kernel) (fun c4 => ?_) (fun c4 => ?_)
      · replace hf := ite_p c4 hf
        refine sd_J.sub (lo' := [(0, .ref (G.1 + l0)), (1, .int l1), (2, .int l2)]) [0, 1, 2] rfl ?_
        exact J_XR_missing_B21 hE ih p0 hf
      · replace hf := ite_n c4 hf
        refine sd_iinc (i := 1) (q := 1) (n := 1) (v := (l1 + 1)) (pc' := 21) (lo' := [(1, .int (l1 + 1)), (0, .ref (G.1 + l0)), (2, .int l2)]) (by decide +kernel) rfl rfl (by decide) rfl ?_
        refine sd_J.sub (lo' := [(0, .ref (G.1 + l0)), (1, .int (l1 + 1)), (2, .int l2)]) [1, 0, 2] rfl ?_
        exact J_XR_missing_B21 hE ih p0 hf
def XR_missing (h : sd_H) (this : Nat) : Option Int32 :=
  XR_missing_L4 h FU this 0 0
set_option maxHeartbeats 4000000 in
set_option maxRecDepth 100000 in
theorem T_XR_missing {G : sd_GX} {h : sd_H} {this : Nat} {r : Int32} (pt : sd_SH this = (6, 4)) (hf : XR_missing h this = some r) : sd_RunF G M_XR_missing [.ref (G.1 + this)] h (some (.int r)) h := by
  refine sF_run ⟨rfl, rfl⟩ (by decide +kernel) (Nat.le_of_ble_eq_true rfl) (lo := [(0, .ref (G.1 + this))]) rfl (fun X hE => ?_)
  unfold XR_missing at hf
  refine sd_iconst (n := 0) (v := 0) (pc' := 1) (by decide +kernel) (by decide) ?_
  refine sd_istore_n (k := 1) (i := 1) (pc' := 2) (lo' := [(1, .int 0), (0, .ref (G.1 + this))]) (by decide +kernel) rfl (by decide) rfl ?_
  refine sd_iconst (n := 0) (v := 0) (pc' := 3) (by decide +kernel) (by decide) ?_
  refine sd_istore_n (k := 2) (i := 2) (pc' := 4) (lo' := [(2, .int 0), (1, .int 0), (0, .ref (G.1 + this))]) (by decide +kernel) rfl (by decide) rfl ?_
  refine sd_J.sub (lo' := [(0, .ref (G.1 + this)), (1, .int 0), (2, .int 0)]) [2, 1, 0] rfl ?_
  exact J_XR_missing_L4 hE _ _ _ _ pt hf

theorem ml_X11_345 : Cond.methodLink RX11 345 yX6_missing ∈ sd_tb := sd_mem (i := 1101) (by decide +kernel)
theorem mv_XR_missing : sd_mV M_XR_missing 0 := ⟨sd_mem (i := 1102) (by decide +kernel), sd_mem (i := 1103) (by decide +kernel), ⟨sd_mem (i := 1104) (by decide +kernel), sd_mem (i := 109) (by decide +kernel), by decide +kernel, by decide +kernel, by decide +kernel⟩⟩
def M_XT_count : sd_MX := (yX11_count, cX11_count, 2, (some .int), { frames := 6, cells := 0, slots := 0, locals := 159 })
def XT_count (h : sd_H) (a0 : Int32) : Option (sd_H × Int32) :=
  (if a0 = 0 then some (h, (h.1 6 1)) else (if a0 = 1 then some (h, (h.1 6 2)) else (if a0 = 2 then some (h, (h.1 33 2)) else (if a0 = 3 then some (h, (h.1 0 15)) else (if a0 = 4 then b2 (XT_serialRows h) (fun h3 t4 => (if t4 = 0 then some (h3, 1) else some (h3, 0))) else (if a0 = 5 then b2 (XT_serialRows h) (fun h7 t8 => some (h7, t8)) else (if a0 = 6 then some (h, (h.1 107 3)) else (if a0 = 7 then b1 (XR_missing h 1) (fun t10 => some (h, t10)) else (if a0 = 8 then some (h, (h.1 0 16)) else (some (h, (-2))))))))))))
set_option maxHeartbeats 4000000 in
set_option maxRecDepth 100000 in
theorem T_XT_count {G : sd_GX} {h : sd_H} {a0 : Int32} {r : (sd_H × Int32)} (hf : XT_count h a0 = some r) : sd_RunF G M_XT_count [.ref (G.1 + 0), .int a0] h (some (.int r.2)) r.1 := by
  refine sF_run ⟨rfl, rfl⟩ (by decide +kernel) (Nat.le_of_ble_eq_true rfl) (lo := [(0, .ref (G.1 + 0)), (1, .int a0)]) rfl (fun X hE => ?_)
  unfold XT_count at hf
  refine sd_iload_n (k := 1) (i := 1) (q := 1) (pc' := 1) (by decide +kernel) rfl rfl ?_
  by_cases c1_0 : a0 = 0
  · replace hf := ite_p c1_0 hf
    refine sd_tswIn (dflt := 119) (lo0 := 0) (hi0 := 8) (offs := #[51, 59, 67, 75, 80, 93, 98, 106, 114]) (len := 51) (off := 51) (tgt := 52) (pc' := 52) (by decide +kernel) (by rw [c1_0]; decide) (by rw [c1_0]; decide) (by rw [c1_0]; decide) ?_
    refine sd_aload_n (k := 0) (i := 0) (q := 0) (pc' := 53) (by decide +kernel) rfl rfl ?_
    refine sF_gr (idx := 21) (ci := 11) (k := 1) (n := 17) (r := 6) (pc' := 56) (by decide +kernel) fl_X11_21 (by decide +kernel) rfl SH_0 (by decide) (by decide +kernel) ?_
    refine sF_gi (idx := 153) (ci := 2) (k := 1) (n := 3) (pc' := 59) (by decide +kernel) fl_X11_153 (by decide +kernel) rfl SH_6 ?_
    obtain rfl := Option.some.inj hf
    exact sd_iret (by decide +kernel) rfl (hE _)
  · replace hf := ite_n c1_0 hf
    by_cases c1_1 : a0 = 1
    · replace hf := ite_p c1_1 hf
      refine sd_tswIn (dflt := 119) (lo0 := 0) (hi0 := 8) (offs := #[51, 59, 67, 75, 80, 93, 98, 106, 114]) (len := 51) (off := 59) (tgt := 60) (pc' := 52) (by decide +kernel) (by rw [c1_1]; decide) (by rw [c1_1]; decide) (by rw [c1_1]; decide) ?_
      refine sd_aload_n (k := 0) (i := 0) (q := 0) (pc' := 61) (by decide +kernel) rfl rfl ?_
      refine sF_gr (idx := 21) (ci := 11) (k := 1) (n := 17) (r := 6) (pc' := 64) (by decide +kernel) fl_X11_21 (by decide +kernel) rfl SH_0 (by decide) (by decide +kernel) ?_
      refine sF_gi (idx := 170) (ci := 2) (k := 2) (n := 3) (pc' := 67) (by decide +kernel) fl_X11_170 (by decide +kernel) rfl SH_6 ?_
      obtain rfl := Option.some.inj hf
      exact sd_iret (by decide +kernel) rfl (hE _)
    · replace hf := ite_n c1_1 hf
      by_cases c1_2 : a0 = 2
      · replace hf := ite_p c1_2 hf
        refine sd_tswIn (dflt := 119) (lo0 := 0) (hi0 := 8) (offs := #[51, 59, 67, 75, 80, 93, 98, 106, 114]) (len := 51) (off := 67) (tgt := 68) (pc' := 52) (by decide +kernel) (by rw [c1_2]; decide) (by rw [c1_2]; decide) (by rw [c1_2]; decide) ?_
        refine sd_aload_n (k := 0) (i := 0) (q := 0) (pc' := 69) (by decide +kernel) rfl rfl ?_
        refine sF_gr (idx := 28) (ci := 11) (k := 2) (n := 17) (r := 33) (pc' := 72) (by decide +kernel) fl_X11_28 (by decide +kernel) rfl SH_0 (by decide) (by decide +kernel) ?_
        refine sF_gi (idx := 219) (ci := 0) (k := 2) (n := 3) (pc' := 75) (by decide +kernel) fl_X11_219 (by decide +kernel) rfl SH_33 ?_
        obtain rfl := Option.some.inj hf
        exact sd_iret (by decide +kernel) rfl (hE _)
      · replace hf := ite_n c1_2 hf
        by_cases c1_3 : a0 = 3
        · replace hf := ite_p c1_3 hf
          refine sd_tswIn (dflt := 119) (lo0 := 0) (hi0 := 8) (offs := #[51, 59, 67, 75, 80, 93, 98, 106, 114]) (len := 51) (off := 75) (tgt := 76) (pc' := 52) (by decide +kernel) (by rw [c1_3]; decide) (by rw [c1_3]; decide) (by rw [c1_3]; decide) ?_
          refine sd_aload_n (k := 0) (i := 0) (q := 0) (pc' := 77) (by decide +kernel) rfl rfl ?_
          refine sF_gi (idx := 163) (ci := 11) (k := 15) (n := 17) (pc' := 80) (by decide +kernel) fl_X11_163 (by decide +kernel) rfl SH_0 ?_
          obtain rfl := Option.some.inj hf
          exact sd_iret (by decide +kernel) rfl (hE _)
        · replace hf := ite_n c1_3 hf
          by_cases c1_4 : a0 = 4
          · replace hf := ite_p c1_4 hf
            refine sd_tswIn (dflt := 119) (lo0 := 0) (hi0 := 8) (offs := #[51, 59, 67, 75, 80, 93, 98, 106, 114]) (len := 51) (off := 80) (tgt := 81) (pc' := 52) (by decide +kernel) (by rw [c1_4]; decide) (by rw [c1_4]; decide) (by rw [c1_4]; decide) ?_
            refine sd_aload_n (k := 0) (i := 0) (q := 0) (pc' := 82) (by decide +kernel) rfl rfl ?_
            obtain ⟨h3, t4, q2, hf⟩ := b2_some hf
            refine sF_callV (idx := 342) (b := 0) (As := []) (ci := 11) (nn := 17) (pc' := 85) 0 (T_XT_serialRows (G := G) (h := h)  q2) (by decide +kernel) mv_XT_serialRows ml_X11_342 (by decide +kernel) rfl rfl (Nat.le_of_ble_eq_true rfl) SH_0 rfl (by decide) rfl rfl ?_
            refine sd_if_ne (off := 7) (tgt := 92) (pc' := 88) (by decide +kernel) (fun c5 => ?_) (fun c5 => ?_)
            · replace hf := ite_n c5 hf
              refine sd_iconst (n := 0) (v := 0) (pc' := 93) (by decide +kernel) (by decide) ?_
              obtain rfl := Option.some.inj hf
              exact sd_iret (by decide +kernel) rfl (hE _)
            · replace hf := ite_p c5 hf
              refine sd_iconst (n := 1) (v := 1) (pc' := 89) (by decide +kernel) (by decide) ?_
              refine sd_goto (off := 4) (tgt := 93) (pc' := 92) (by decide +kernel) ?_
              obtain rfl := Option.some.inj hf
              exact sd_iret (by decide +kernel) rfl (hE _)
          · replace hf := ite_n c1_4 hf
            by_cases c1_5 : a0 = 5
            · replace hf := ite_p c1_5 hf
              refine sd_tswIn (dflt := 119) (lo0 := 0) (hi0 := 8) (offs := #[51, 59, 67, 75, 80, 93, 98, 106, 114]) (len := 51) (off := 93) (tgt := 94) (pc' := 52) (by decide +kernel) (by rw [c1_5]; decide) (by rw [c1_5]; decide) (by rw [c1_5]; decide) ?_
              refine sd_aload_n (k := 0) (i := 0) (q := 0) (pc' := 95) (by decide +kernel) rfl rfl ?_
              obtain ⟨h7, t8, q6, hf⟩ := b2_some hf
              refine sF_callV (idx := 342) (b := 0) (As := []) (ci := 11) (nn := 17) (pc' := 98) 0 (T_XT_serialRows (G := G) (h := h)  q6) (by decide +kernel) mv_XT_serialRows ml_X11_342 (by decide +kernel) rfl rfl (Nat.le_of_ble_eq_true rfl) SH_0 rfl (by decide) rfl rfl ?_
              obtain rfl := Option.some.inj hf
              exact sd_iret (by decide +kernel) rfl (hE _)
            · replace hf := ite_n c1_5 hf
              by_cases c1_6 : a0 = 6
              · replace hf := ite_p c1_6 hf
                refine sd_tswIn (dflt := 119) (lo0 := 0) (hi0 := 8) (offs := #[51, 59, 67, 75, 80, 93, 98, 106, 114]) (len := 51) (off := 98) (tgt := 99) (pc' := 52) (by decide +kernel) (by rw [c1_6]; decide) (by rw [c1_6]; decide) (by rw [c1_6]; decide) ?_
                refine sd_aload_n (k := 0) (i := 0) (q := 0) (pc' := 100) (by decide +kernel) rfl rfl ?_
                refine sF_gr (idx := 77) (ci := 11) (k := 10) (n := 17) (r := 107) (pc' := 103) (by decide +kernel) fl_X11_77 (by decide +kernel) rfl SH_0 (by decide) (by decide +kernel) ?_
                refine sF_gi (idx := 311) (ci := 4) (k := 3) (n := 4) (pc' := 106) (by decide +kernel) fl_X11_311 (by decide +kernel) rfl SH_107 ?_
                obtain rfl := Option.some.inj hf
                exact sd_iret (by decide +kernel) rfl (hE _)
              · replace hf := ite_n c1_6 hf
                by_cases c1_7 : a0 = 7
                · replace hf := ite_p c1_7 hf
                  refine sd_tswIn (dflt := 119) (lo0 := 0) (hi0 := 8) (offs := #[51, 59, 67, 75, 80, 93, 98, 106, 114]) (len := 51) (off := 106) (tgt := 107) (pc' := 52) (by decide +kernel) (by rw [c1_7]; decide) (by rw [c1_7]; decide) (by rw [c1_7]; decide) ?_
                  refine sd_aload_n (k := 0) (i := 0) (q := 0) (pc' := 108) (by decide +kernel) rfl rfl ?_
                  refine sF_gr (idx := 12) (ci := 11) (k := 0) (n := 17) (r := 1) (pc' := 111) (by decide +kernel) fl_X11_12 (by decide +kernel) rfl SH_0 (by decide) (by decide +kernel) ?_
                  obtain ⟨t10, q9, hf⟩ := b1_some hf
                  refine sF_callV (idx := 345) (b := 1) (As := []) (ci := 6) (nn := 4) (pc' := 114) 0 (T_XR_missing (G := G) (h := h) SH_1 q9) (by decide +kernel) mv_XR_missing ml_X11_345 (by decide +kernel) rfl rfl (Nat.le_of_ble_eq_true rfl) SH_1 rfl (by decide) rfl rfl ?_
                  obtain rfl := Option.some.inj hf
                  exact sd_iret (by decide +kernel) rfl (hE _)
                · replace hf := ite_n c1_7 hf
                  by_cases c1_8 : a0 = 8
                  · replace hf := ite_p c1_8 hf
                    refine sd_tswIn (dflt := 119) (lo0 := 0) (hi0 := 8) (offs := #[51, 59, 67, 75, 80, 93, 98, 106, 114]) (len := 51) (off := 114) (tgt := 115) (pc' := 52) (by decide +kernel) (by rw [c1_8]; decide) (by rw [c1_8]; decide) (by rw [c1_8]; decide) ?_
                    refine sd_aload_n (k := 0) (i := 0) (q := 0) (pc' := 116) (by decide +kernel) rfl rfl ?_
                    refine sF_gi (idx := 348) (ci := 11) (k := 16) (n := 17) (pc' := 119) (by decide +kernel) fl_X11_348 (by decide +kernel) rfl SH_0 ?_
                    obtain rfl := Option.some.inj hf
                    exact sd_iret (by decide +kernel) rfl (hE _)
                  · replace hf := ite_n c1_8 hf
                    have nc1_0 := ne_ti c1_0 (n := 0) (by decide)
                    have nc1_1 := ne_ti c1_1 (n := 1) (by decide)
                    have nc1_2 := ne_ti c1_2 (n := 2) (by decide)
                    have nc1_3 := ne_ti c1_3 (n := 3) (by decide)
                    have nc1_4 := ne_ti c1_4 (n := 4) (by decide)
                    have nc1_5 := ne_ti c1_5 (n := 5) (by decide)
                    have nc1_6 := ne_ti c1_6 (n := 6) (by decide)
                    have nc1_7 := ne_ti c1_7 (n := 7) (by decide)
                    have nc1_8 := ne_ti c1_8 (n := 8) (by decide)
                    refine sd_tswOut (dflt := 119) (lo0 := 0) (hi0 := 8) (offs := #[51, 59, 67, 75, 80, 93, 98, 106, 114]) (len := 51) (tgt := 120) (pc' := 52) (by decide +kernel) (by omega) ?_
                    refine sd_bipush (n := -2) (v := (-2)) (pc' := 122) (by decide +kernel) (by decide) ?_
                    obtain rfl := Option.some.inj hf
                    exact sd_iret (by decide +kernel) rfl (hE _)
