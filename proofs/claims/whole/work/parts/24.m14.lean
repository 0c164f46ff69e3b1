theorem ml_X12_410 : Cond.methodLink RX12 410 yX12_mayMix ∈ sd_tb := sd_mem (i := 1682) (by decide +kernel)
theorem mv_YM_mayMix : sd_mV M_YM_mayMix 4 := ⟨sd_mem (i := 1684) (by decide +kernel), sd_mem (i := 96) (by decide +kernel), ⟨sd_mem (i := 1685) (by decide +kernel), sd_mem (i := 119) (by decide +kernel), by decide +kernel, by decide +kernel, by decide +kernel⟩⟩
theorem ml_X12_414 : Cond.methodLink RX12 414 yX12_mixes ∈ sd_tb := sd_mem (i := 1690) (by decide +kernel)
theorem mv_YM_mixes : sd_mV M_YM_mixes 3 := ⟨sd_mem (i := 1692) (by decide +kernel), sd_mem (i := 98) (by decide +kernel), ⟨sd_mem (i := 1693) (by decide +kernel), sd_mem (i := 119) (by decide +kernel), by decide +kernel, by decide +kernel, by decide +kernel⟩⟩
def M_YM_mixed : sd_MX := (yX12_mixed, cX12_mixed, 6, (some .int), { frames := 12, cells := 0, slots := 0, locals := 293 })
def YM_mixed (h : sd_H) (a0 : Int32) (a1 : Int32) (a2 : Int32) (a3 : Int32) : Option (sd_H × Int32) :=
  b2 (YM_mayMix h a0 a1 a2 a3) (fun h2 t3 => (if 0 ≤ t3 then b2 (YM_mixes h2 a0 a1 a2) (fun h6 t7 => some (h6, t7)) else some (h2, t3)))
set_option maxHeartbeats 4000000 in
set_option maxRecDepth 100000 in
theorem T_YM_mixed {G : sd_GX} {h : sd_H} {a0 : Int32} {a1 : Int32} {a2 : Int32} {a3 : Int32} {r : (sd_H × Int32)} (hf : YM_mixed h a0 a1 a2 a3 = some r) : sd_RunF G M_YM_mixed [.ref (G.1 + 126), .int a0, .int a1, .int a2, .int a3] h (some (.int r.2)) r.1 := by
  refine sF_run ⟨rfl, rfl⟩ (by decide +kernel) (Nat.le_of_ble_eq_true rfl) (lo := [(0, .ref (G.1 + 126)), (1, .int a0), (2, .int a1), (3, .int a2), (4, .int a3)]) rfl (fun X hE => ?_)
  unfold YM_mixed at hf
  refine sd_aload_n (k := 0) (i := 0) (q := 0) (pc' := 1) (by decide +kernel) rfl rfl ?_
  refine sd_iload_n (k := 1) (i := 1) (q := 1) (pc' := 2) (by decide +kernel) rfl rfl ?_
  refine sd_iload_n (k := 2) (i := 2) (q := 2) (pc' := 3) (by decide +kernel) rfl rfl ?_
  refine sd_iload_n (k := 3) (i := 3) (q := 3) (pc' := 4) (by decide +kernel) rfl rfl ?_
  refine sd_iload (i := 4) (q := 4) (pc' := 6) (by decide +kernel) rfl ?_
  obtain ⟨h2, t3, q1, hf⟩ := b2_some hf
  refine sF_callV (idx := 410) (b := 126) (As := [.int a0, .int a1, .int a2, .int a3]) (ci := 12) (nn := 47) (pc' := 9) 4 (T_YM_mayMix (G := G) (h := h)  q1) (by decide +kernel) mv_YM_mayMix ml_X12_410 (by decide +kernel) rfl rfl (Nat.le_of_ble_eq_true rfl) SH_126 rfl (by decide) rfl rfl ?_
  refine sd_istore (i := 5) (pc' := 11) (lo' := [(5, .int t3), (0, .ref (G.1 + 126)), (1, .int a0), (2, .int a1), (3, .int a2), (4, .int a3)]) (by decide +kernel) (by decide) rfl ?_
  refine sd_iload (i := 5) (q := 0) (pc' := 13) (by decide +kernel) rfl ?_
  refine sd_if_ge (off := 8) (tgt := 21) (pc' := 16) (by decide +kernel) (fun c4 => ?_) (fun c4 => ?_)
  · replace hf := ite_p c4 hf
    refine sd_aload_n (k := 0) (i := 0) (q := 1) (pc' := 22) (by decide +kernel) rfl rfl ?_
    refine sd_iload_n (k := 1) (i := 1) (q := 2) (pc' := 23) (by decide +kernel) rfl rfl ?_
    refine sd_iload_n (k := 2) (i := 2) (q := 3) (pc' := 24) (by decide +kernel) rfl rfl ?_
    refine sd_iload_n (k := 3) (i := 3) (q := 4) (pc' := 25) (by decide +kernel) rfl rfl ?_
    obtain ⟨h6, t7, q5, hf⟩ := b2_some hf
    refine sF_callV (idx := 414) (b := 126) (As := [.int a0, .int a1, .int a2]) (ci := 12) (nn := 47) (pc' := 28) 3 (T_YM_mixes (G := G) (h := h2)  q5) (by decide +kernel) mv_YM_mixes ml_X12_414 (by decide +kernel) rfl rfl (Nat.le_of_ble_eq_true rfl) SH_126 rfl (by decide) rfl rfl ?_
    obtain rfl := Option.some.inj hf
    exact sd_iret (by decide +kernel) rfl (hE _)
  · replace hf := ite_n c4 hf
    refine sd_iload (i := 5) (q := 0) (pc' := 18) (by decide +kernel) rfl ?_
    refine sd_goto (off := 10) (tgt := 28) (pc' := 21) (by decide +kernel) ?_
    obtain rfl := Option.some.inj hf
    exact sd_iret (by decide +kernel) rfl (hE _)

theorem fl_X12_99 : sd_fl RX12 99 12 44 := ⟨sd_mem (i := 1192) (by decide +kernel), by decide, by decide⟩
theorem fl_X12_90 : sd_fl RX12 90 12 41 := ⟨sd_mem (i := 1189) (by decide +kernel), by decide, by decide⟩
theorem fl_X12_96 : sd_fl RX12 96 12 43 := ⟨sd_mem (i := 1191) (by decide +kernel), by decide, by decide⟩
theorem fl_X12_93 : sd_fl RX12 93 12 42 := ⟨sd_mem (i := 1190) (by decide +kernel), by decide, by decide⟩
theorem fl_X12_102 : sd_fl RX12 102 12 45 := ⟨sd_mem (i := 1193) (by decide +kernel), by decide, by decide⟩
theorem fl_X12_105 : sd_fl RX12 105 12 46 := ⟨sd_mem (i := 1194) (by decide +kernel), by decide, by decide⟩
def M_YM_sameNow : sd_MX := (yX12_sameNow, cX12_sameNow, 9, (some .int), { frames := 11, cells := 0, slots := 0, locals := 276 })
def YM_sameNow_L351 : Nat → sd_H → Int32 → Int32 → Int32 → Int32 → Option (sd_H × Int32)
  | 0, _, _, _, _, _ => none
  | n + 1, h, l4, l5, l7, l8 =>
  (if 10 ≤ l8 then hb (wI h 126 34 l4) (fun h16 => hb (wI h16 126 37 l5) (fun h18 => (if l7 = 0 then some (h18, 0) else some (h18, 1)))) else gd (sd_inB l8 10) (gd (sd_inB l8 10) (hb (wI h 151 (l8 : Int32).toNatClampNeg (h.1 156 (l8 : Int32).toNatClampNeg)) (fun h23 => YM_sameNow_L351 n h23 l4 l5 l7 (l8 + 1)))))
set_option maxHeartbeats 4000000 in
set_option maxRecDepth 100000 in
theorem J_YM_sameNow_L351 {G : sd_GX} {X : sd_CX} (hE : ∀ g : sd_H, sd_end G X M_YM_sameNow (sd_F g))  {r : (sd_H × Int32)} : ∀ (n : Nat) (h : sd_H) (l4 : Int32) (l5 : Int32) (l7 : Int32) (l8 : Int32), YM_sameNow_L351 n h l4 l5 l7 l8 = some r → sd_J G X (sd_QR G X M_YM_sameNow (some (.int r.2), sd_F r.1)) M_YM_sameNow 351 [(0, .ref (G.1 + 126)), (4, .int l4), (5, .int l5), (7, .int l7), (8, .int l8)] [] (sd_F h) := by
  intro n
  induction n with
  | zero =>
    intro h l4 l5 l7 l8 hf
    rw [YM_sameNow_L351] at hf
    cases hf
  | succ n ih =>
    intro h l4 l5 l7 l8 hf
    rw [YM_sameNow_L351] at hf
    refine sd_iload (i := 8) (q := 4) (pc' := 353) (by decide +kernel) rfl ?_
    refine sd_bipush (n := 10) (v := 10) (pc' := 355) (by decide +kernel) (by decide) ?_
    refine sd_icmp_ge (off := 23) (tgt := 378) (pc' := 358) (by decide +kernel) (fun c15 => ?_) (fun c15 => ?_)
    · replace hf := ite_p c15 hf
      refine sd_aload_n (k := 0) (i := 0) (q := 0) (pc' := 379) (by decide +kernel) rfl rfl ?_
      refine sd_iload (i := 4) (q := 1) (pc' := 381) (by decide +kernel) rfl ?_
      obtain ⟨h16, e17, hf⟩ := hb_some hf
      refine sF_pi (idx := 377) (ci := 12) (k := 34) (n := 47) (pc' := 384) (by decide +kernel) fl_X12_377 (by decide +kernel) rfl rfl rfl SH_126 ?_
      rw [← e17]; clear e17
      refine sd_aload_n (k := 0) (i := 0) (q := 0) (pc' := 385) (by decide +kernel) rfl rfl ?_
      refine sd_iload (i := 5) (q := 2) (pc' := 387) (by decide +kernel) rfl ?_
      obtain ⟨h18, e19, hf⟩ := hb_some hf
      refine sF_pi (idx := 380) (ci := 12) (k := 37) (n := 47) (pc' := 390) (by decide +kernel) fl_X12_380 (by decide +kernel) rfl rfl rfl SH_126 ?_
      rw [← e19]; clear e19
      refine sd_iload (i := 7) (q := 3) (pc' := 392) (by decide +kernel) rfl ?_
      refine sd_if_eq (off := 7) (tgt := 399) (pc' := 395) (by decide +kernel) (fun c20 => ?_) (fun c20 => ?_)
      · replace hf := ite_p c20 hf
        refine sd_iconst (n := 0) (v := 0) (pc' := 400) (by decide +kernel) (by decide) ?_
        obtain rfl := Option.some.inj hf
        exact sd_iret (by decide +kernel) rfl (hE _)
      · replace hf := ite_n c20 hf
        refine sd_iconst (n := 1) (v := 1) (pc' := 396) (by decide +kernel) (by decide) ?_
        refine sd_goto (off := 4) (tgt := 400) (pc' := 399) (by decide +kernel) ?_
        obtain rfl := Option.some.inj hf
        exact sd_iret (by decide +kernel) rfl (hE _)
    · replace hf := ite_n c15 hf
      refine sd_aload_n (k := 0) (i := 0) (q := 0) (pc' := 359) (by decide +kernel) rfl rfl ?_
      refine sF_gr (idx := 84) (ci := 12) (k := 36) (n := 47) (r := 151) (pc' := 362) (by decide +kernel) fl_X12_84 (by decide +kernel) rfl SH_126 (by decide) (by decide +kernel) ?_
      refine sd_iload (i := 8) (q := 4) (pc' := 364) (by decide +kernel) rfl ?_
      refine sd_aload_n (k := 0) (i := 0) (q := 0) (pc' := 365) (by decide +kernel) rfl rfl ?_
      refine sF_gr (idx := 99) (ci := 12) (k := 44) (n := 47) (r := 156) (pc' := 368) (by decide +kernel) fl_X12_99 (by decide +kernel) rfl SH_126 (by decide) (by decide +kernel) ?_
      refine sd_iload (i := 8) (q := 4) (pc' := 370) (by decide +kernel) rfl ?_
      obtain ⟨g21, hf⟩ := gd_some hf
      refine sF_iald (n := 10) (pc' := 371) (by decide +kernel) SH_156 g21 ?_
      obtain ⟨g22, hf⟩ := gd_some hf
      obtain ⟨h23, e24, hf⟩ := hb_some hf
      refine sF_iast (n := 10) (pc' := 372) (by decide +kernel) SH_151 g22 ?_
      rw [← e24]; clear e24
      refine sd_iinc (i := 8) (q := 4) (n := 1) (v := (l8 + 1)) (pc' := 375) (lo' := [(8, .int (l8 + 1)), (0, .ref (G.1 + 126)), (4, .int l4), (5, .int l5), (7, .int l7)]) (by decide +kernel) rfl rfl (by decide) rfl ?_
      refine sd_goto (off := -24) (tgt := 351) (pc' := 378) (by decide +kernel) ?_
      refine sd_J.sub (lo' := [(0, .ref (G.1 + 126)), (4, .int l4), (5, .int l5), (7, .int l7), (8, .int (l8 + 1))]) [1, 2, 3, 4, 0] rfl ?_
      exact ih _ _ _ _ _ hf
def YM_sameNow_B312 (h : sd_H) (K276 : sd_H → Int32 → Int32 → Int32 → Int32 → Option (sd_H × Int32)) (l4 : Int32) (l5 : Int32) (l8 : Int32) (s0 : Int32) : Option (sd_H × Int32) :=
  gd (sd_inB l8 144) (gd (sd_inB l8 144) (hb (wD h 129 (l8 : Int32).toNatClampNeg (h.2.1 153 (l8 : Int32).toNatClampNeg)) (fun h28 => gd (sd_inB l8 144) (gd (sd_inB l8 144) (hb (wI h28 130 (l8 : Int32).toNatClampNeg (h28.1 155 (l8 : Int32).toNatClampNeg)) (fun h32 => K276 h32 l4 l5 s0 (l8 + 1)))))))
set_option maxHeartbeats 4000000 in
set_option maxRecDepth 100000 in
theorem J_YM_sameNow_B312 {G : sd_GX} {X : sd_CX} (hE : ∀ g : sd_H, sd_end G X M_YM_sameNow (sd_F g)) {h : sd_H} {K276 : sd_H → Int32 → Int32 → Int32 → Int32 → Option (sd_H × Int32)} {r : (sd_H × Int32)} (hK276 : ∀ (g : sd_H) (l4 : Int32) (l5 : Int32) (l7 : Int32) (l8 : Int32), K276 g l4 l5 l7 l8 = some r → sd_J G X (sd_QR G X M_YM_sameNow (some (.int r.2), sd_F r.1)) M_YM_sameNow 276 [(0, .ref (G.1 + 126)), (4, .int l4), (5, .int l5), (7, .int l7), (8, .int l8)] [] (sd_F g)) {l4 : Int32} {l5 : Int32} {l8 : Int32} {s0 : Int32} (hf : YM_sameNow_B312 h K276 l4 l5 l8 s0 = some r) : sd_J G X (sd_QR G X M_YM_sameNow (some (.int r.2), sd_F r.1)) M_YM_sameNow 312 [(0, .ref (G.1 + 126)), (4, .int l4), (5, .int l5), (8, .int l8)] [.int s0] (sd_F h) := by
  unfold YM_sameNow_B312 at hf
  refine sd_istore (i := 7) (pc' := 314) (lo' := [(7, .int s0), (0, .ref (G.1 + 126)), (4, .int l4), (5, .int l5), (8, .int l8)]) (by decide +kernel) (by decide) rfl ?_
  refine sd_aload_n (k := 0) (i := 0) (q := 1) (pc' := 315) (by decide +kernel) rfl rfl ?_
  refine sF_gr (idx := 16) (ci := 12) (k := 2) (n := 47) (r := 129) (pc' := 318) (by decide +kernel) fl_X12_16 (by decide +kernel) rfl SH_126 (by decide) (by decide +kernel) ?_
  refine sd_iload (i := 8) (q := 4) (pc' := 320) (by decide +kernel) rfl ?_
  refine sd_aload_n (k := 0) (i := 0) (q := 1) (pc' := 321) (by decide +kernel) rfl rfl ?_
  refine sF_gr (idx := 90) (ci := 12) (k := 41) (n := 47) (r := 153) (pc' := 324) (by decide +kernel) fl_X12_90 (by decide +kernel) rfl SH_126 (by decide) (by decide +kernel) ?_
  refine sd_iload (i := 8) (q := 4) (pc' := 326) (by decide +kernel) rfl ?_
  obtain ⟨g26, hf⟩ := gd_some hf
  refine sF_dald (n := 144) (pc' := 327) (by decide +kernel) SH_153 g26 ?_
  obtain ⟨g27, hf⟩ := gd_some hf
  obtain ⟨h28, e29, hf⟩ := hb_some hf
  refine sF_dast (n := 144) (pc' := 328) (by decide +kernel) SH_129 g27 ?_
  rw [← e29]; clear e29
  refine sd_aload_n (k := 0) (i := 0) (q := 1) (pc' := 329) (by decide +kernel) rfl rfl ?_
  refine sF_gr (idx := 20) (ci := 12) (k := 3) (n := 47) (r := 130) (pc' := 332) (by decide +kernel) fl_X12_20 (by decide +kernel) rfl SH_126 (by decide) (by decide +kernel) ?_
  refine sd_iload (i := 8) (q := 4) (pc' := 334) (by decide +kernel) rfl ?_
  refine sd_aload_n (k := 0) (i := 0) (q := 1) (pc' := 335) (by decide +kernel) rfl rfl ?_
  refine sF_gr (idx := 96) (ci := 12) (k := 43) (n := 47) (r := 155) (pc' := 338) (by decide +kernel) fl_X12_96 (by decide +kernel) rfl SH_126 (by decide) (by decide +kernel) ?_
  refine sd_iload (i := 8) (q := 4) (pc' := 340) (by decide +kernel) rfl ?_
  obtain ⟨g30, hf⟩ := gd_some hf
  refine sF_iald (n := 144) (pc' := 341) (by decide +kernel) SH_155 g30 ?_
  obtain ⟨g31, hf⟩ := gd_some hf
  obtain ⟨h32, e33, hf⟩ := hb_some hf
  refine sF_iast (n := 144) (pc' := 342) (by decide +kernel) SH_130 g31 ?_
  rw [← e33]; clear e33
  refine sd_iinc (i := 8) (q := 4) (n := 1) (v := (l8 + 1)) (pc' := 345) (lo' := [(8, .int (l8 + 1)), (7, .int s0), (0, .ref (G.1 + 126)), (4, .int l4), (5, .int l5)]) (by decide +kernel) rfl rfl (by decide) rfl ?_
  refine sd_goto (off := -69) (tgt := 276) (pc' := 348) (by decide +kernel) ?_
  refine sd_J.sub (lo' := [(0, .ref (G.1 + 126)), (4, .int l4), (5, .int l5), (7, .int s0), (8, .int (l8 + 1))]) [2, 3, 4, 1, 0] rfl ?_
  exact hK276 _ _ _ _ _ hf
def YM_sameNow_B311 (h : sd_H) (K276 : sd_H → Int32 → Int32 → Int32 → Int32 → Option (sd_H × Int32)) (l4 : Int32) (l5 : Int32) (l8 : Int32) : Option (sd_H × Int32) :=
  YM_sameNow_B312 h K276 l4 l5 l8 0
set_option maxHeartbeats 4000000 in
set_option maxRecDepth 100000 in
theorem J_YM_sameNow_B311 {G : sd_GX} {X : sd_CX} (hE : ∀ g : sd_H, sd_end G X M_YM_sameNow (sd_F g)) {h : sd_H} {K276 : sd_H → Int32 → Int32 → Int32 → Int32 → Option (sd_H × Int32)} {r : (sd_H × Int32)} (hK276 : ∀ (g : sd_H) (l4 : Int32) (l5 : Int32) (l7 : Int32) (l8 : Int32), K276 g l4 l5 l7 l8 = some r → sd_J G X (sd_QR G X M_YM_sameNow (some (.int r.2), sd_F r.1)) M_YM_sameNow 276 [(0, .ref (G.1 + 126)), (4, .int l4), (5, .int l5), (7, .int l7), (8, .int l8)] [] (sd_F g)) {l4 : Int32} {l5 : Int32} {l8 : Int32} (hf : YM_sameNow_B311 h K276 l4 l5 l8 = some r) : sd_J G X (sd_QR G X M_YM_sameNow (some (.int r.2), sd_F r.1)) M_YM_sameNow 311 [(0, .ref (G.1 + 126)), (4, .int l4), (5, .int l5), (8, .int l8)] [] (sd_F h) := by
  unfold YM_sameNow_B311 at hf
  refine sd_iconst (n := 0) (v := 0) (pc' := 312) (by decide +kernel) (by decide) ?_
  refine sd_J.sub (lo' := [(0, .ref (G.1 + 126)), (4, .int l4), (5, .int l5), (8, .int l8)]) [0, 1, 2, 3] rfl ?_
  exact J_YM_sameNow_B312 hE hK276 hf
def YM_sameNow_L276 : Nat → sd_H → Int32 → Int32 → Int32 → Int32 → Option (sd_H × Int32)
  | 0, _, _, _, _, _ => none
  | n + 1, h, l4, l5, l7, l8 =>
  (if 144 ≤ l8 then YM_sameNow_L351 FU h l4 l5 l7 0 else (if l7 = 0 then YM_sameNow_B311 h (YM_sameNow_L276 n) l4 l5 l8 else gd (sd_inB l8 144) (gd (sd_inB l8 144) ((if (Op.cmpValue (FP.dcmp (h.2.1 129 (l8 : Int32).toNatClampNeg) (h.2.1 154 (l8 : Int32).toNatClampNeg)) .l) = 0 then YM_sameNow_B312 h (YM_sameNow_L276 n) l4 l5 l8 1 else YM_sameNow_B311 h (YM_sameNow_L276 n) l4 l5 l8)))))
set_option maxHeartbeats 4000000 in
set_option maxRecDepth 100000 in
theorem J_YM_sameNow_L276 {G : sd_GX} {X : sd_CX} (hE : ∀ g : sd_H, sd_end G X M_YM_sameNow (sd_F g))  {r : (sd_H × Int32)} : ∀ (n : Nat) (h : sd_H) (l4 : Int32) (l5 : Int32) (l7 : Int32) (l8 : Int32), YM_sameNow_L276 n h l4 l5 l7 l8 = some r → sd_J G X (sd_QR G X M_YM_sameNow (some (.int r.2), sd_F r.1)) M_YM_sameNow 276 [(0, .ref (G.1 + 126)), (4, .int l4), (5, .int l5), (7, .int l7), (8, .int l8)] [] (sd_F h) := by
  intro n
  induction n with
  | zero =>
    intro h l4 l5 l7 l8 hf
    rw [YM_sameNow_L276] at hf
    cases hf
  | succ n ih =>
    intro h l4 l5 l7 l8 hf
    rw [YM_sameNow_L276] at hf
    refine sd_iload (i := 8) (q := 4) (pc' := 278) (by decide +kernel) rfl ?_
    refine sd_sipush (n := 144) (v := 144) (pc' := 281) (by decide +kernel) (by decide) ?_
    refine sd_icmp_ge (off := 67) (tgt := 348) (pc' := 284) (by decide +kernel) (fun c14 => ?_) (fun c14 => ?_)
    · replace hf := ite_p c14 hf
      refine sd_iconst (n := 0) (v := 0) (pc' := 349) (by decide +kernel) (by decide) ?_
      refine sd_istore (i := 8) (pc' := 351) (lo' := [(8, .int 0), (0, .ref (G.1 + 126)), (4, .int l4), (5, .int l5), (7, .int l7)]) (by decide +kernel) (by decide) rfl ?_
      refine sd_J.sub (lo' := [(0, .ref (G.1 + 126)), (4, .int l4), (5, .int l5), (7, .int l7), (8, .int 0)]) [1, 2, 3, 4, 0] rfl ?_
      exact J_YM_sameNow_L351 hE _ _ _ _ _ _ hf
    · replace hf := ite_n c14 hf
      refine sd_iload (i := 7) (q := 3) (pc' := 286) (by decide +kernel) rfl ?_
      refine sd_if_eq (off := 25) (tgt := 311) (pc' := 289) (by decide +kernel) (fun c25 => ?_) (fun c25 => ?_)
      · replace hf := ite_p c25 hf
        refine sd_J.sub (lo' := [(0, .ref (G.1 + 126)), (4, .int l4), (5, .int l5), (8, .int l8)]) [0, 1, 2, 4] rfl ?_
        exact J_YM_sameNow_B311 hE ih hf
      · replace hf := ite_n c25 hf
        refine sd_aload_n (k := 0) (i := 0) (q := 0) (pc' := 290) (by decide +kernel) rfl rfl ?_
        refine sF_gr (idx := 16) (ci := 12) (k := 2) (n := 47) (r := 129) (pc' := 293) (by decide +kernel) fl_X12_16 (by decide +kernel) rfl SH_126 (by decide) (by decide +kernel) ?_
        refine sd_iload (i := 8) (q := 4) (pc' := 295) (by decide +kernel) rfl ?_
        obtain ⟨g34, hf⟩ := gd_some hf
        refine sF_dald (n := 144) (pc' := 296) (by decide +kernel) SH_129 g34 ?_
        refine sd_aload_n (k := 0) (i := 0) (q := 0) (pc' := 297) (by decide +kernel) rfl rfl ?_
        refine sF_gr (idx := 93) (ci := 12) (k := 42) (n := 47) (r := 154) (pc' := 300) (by decide +kernel) fl_X12_93 (by decide +kernel) rfl SH_126 (by decide) (by decide +kernel) ?_
        refine sd_iload (i := 8) (q := 4) (pc' := 302) (by decide +kernel) rfl ?_
        obtain ⟨g35, hf⟩ := gd_some hf
        refine sF_dald (n := 144) (pc' := 303) (by decide +kernel) SH_154 g35 ?_
        refine sd_dcmp (op := .l) (pc' := 304) (by decide +kernel) ?_
        refine sd_if_ne (off := 7) (tgt := 311) (pc' := 307) (by decide +kernel) (fun c36 => ?_) (fun c36 => ?_)
        · replace hf := ite_n c36 hf
          refine sd_J.sub (lo' := [(0, .ref (G.1 + 126)), (4, .int l4), (5, .int l5), (8, .int l8)]) [0, 1, 2, 4] rfl ?_
          exact J_YM_sameNow_B311 hE ih hf
        · replace hf := ite_p c36 hf
          refine sd_iconst (n := 1) (v := 1) (pc' := 308) (by decide +kernel) (by decide) ?_
          refine sd_goto (off := 4) (tgt := 312) (pc' := 311) (by decide +kernel) ?_
          refine sd_J.sub (lo' := [(0, .ref (G.1 + 126)), (4, .int l4), (5, .int l5), (8, .int l8)]) [0, 1, 2, 4] rfl ?_
          exact J_YM_sameNow_B312 hE ih hf
def YM_sameNow_B251 (h : sd_H) (K218 : sd_H → Int32 → Int32 → Int32 → Int32 → Option (sd_H × Int32)) (l4 : Int32) (l5 : Int32) (l8 : Int32) (s0 : Int32) : Option (sd_H × Int32) :=
  gd (sd_inB l8 3) (gd (sd_inB l8 3) (hb (wI h 150 (l8 : Int32).toNatClampNeg (h.1 157 (l8 : Int32).toNatClampNeg)) (fun h40 => K218 h40 l4 l5 s0 (l8 + 1))))
set_option maxHeartbeats 4000000 in
set_option maxRecDepth 100000 in
theorem J_YM_sameNow_B251 {G : sd_GX} {X : sd_CX} (hE : ∀ g : sd_H, sd_end G X M_YM_sameNow (sd_F g)) {h : sd_H} {K218 : sd_H → Int32 → Int32 → Int32 → Int32 → Option (sd_H × Int32)} {r : (sd_H × Int32)} (hK218 : ∀ (g : sd_H) (l4 : Int32) (l5 : Int32) (l7 : Int32) (l8 : Int32), K218 g l4 l5 l7 l8 = some r → sd_J G X (sd_QR G X M_YM_sameNow (some (.int r.2), sd_F r.1)) M_YM_sameNow 218 [(0, .ref (G.1 + 126)), (4, .int l4), (5, .int l5), (7, .int l7), (8, .int l8)] [] (sd_F g)) {l4 : Int32} {l5 : Int32} {l8 : Int32} {s0 : Int32} (hf : YM_sameNow_B251 h K218 l4 l5 l8 s0 = some r) : sd_J G X (sd_QR G X M_YM_sameNow (some (.int r.2), sd_F r.1)) M_YM_sameNow 251 [(0, .ref (G.1 + 126)), (4, .int l4), (5, .int l5), (8, .int l8)] [.int s0] (sd_F h) := by
  unfold YM_sameNow_B251 at hf
  refine sd_istore (i := 7) (pc' := 253) (lo' := [(7, .int s0), (0, .ref (G.1 + 126)), (4, .int l4), (5, .int l5), (8, .int l8)]) (by decide +kernel) (by decide) rfl ?_
  refine sd_aload_n (k := 0) (i := 0) (q := 1) (pc' := 254) (by decide +kernel) rfl rfl ?_
  refine sF_gr (idx := 81) (ci := 12) (k := 35) (n := 47) (r := 150) (pc' := 257) (by decide +kernel) fl_X12_81 (by decide +kernel) rfl SH_126 (by decide) (by decide +kernel) ?_
  refine sd_iload (i := 8) (q := 4) (pc' := 259) (by decide +kernel) rfl ?_
  refine sd_aload_n (k := 0) (i := 0) (q := 1) (pc' := 260) (by decide +kernel) rfl rfl ?_
  refine sF_gr (idx := 102) (ci := 12) (k := 45) (n := 47) (r := 157) (pc' := 263) (by decide +kernel) fl_X12_102 (by decide +kernel) rfl SH_126 (by decide) (by decide +kernel) ?_
  refine sd_iload (i := 8) (q := 4) (pc' := 265) (by decide +kernel) rfl ?_
  obtain ⟨g38, hf⟩ := gd_some hf
  refine sF_iald (n := 3) (pc' := 266) (by decide +kernel) SH_157 g38 ?_
  obtain ⟨g39, hf⟩ := gd_some hf
  obtain ⟨h40, e41, hf⟩ := hb_some hf
  refine sF_iast (n := 3) (pc' := 267) (by decide +kernel) SH_150 g39 ?_
  rw [← e41]; clear e41
  refine sd_iinc (i := 8) (q := 4) (n := 1) (v := (l8 + 1)) (pc' := 270) (lo' := [(8, .int (l8 + 1)), (7, .int s0), (0, .ref (G.1 + 126)), (4, .int l4), (5, .int l5)]) (by decide +kernel) rfl rfl (by decide) rfl ?_
  refine sd_goto (off := -52) (tgt := 218) (pc' := 273) (by decide +kernel) ?_
  refine sd_J.sub (lo' := [(0, .ref (G.1 + 126)), (4, .int l4), (5, .int l5), (7, .int s0), (8, .int (l8 + 1))]) [2, 3, 4, 1, 0] rfl ?_
  exact hK218 _ _ _ _ _ hf
def YM_sameNow_B250 (h : sd_H) (K218 : sd_H → Int32 → Int32 → Int32 → Int32 → Option (sd_H × Int32)) (l4 : Int32) (l5 : Int32) (l8 : Int32) : Option (sd_H × Int32) :=
  YM_sameNow_B251 h K218 l4 l5 l8 0
set_option maxHeartbeats 4000000 in
set_option maxRecDepth 100000 in
theorem J_YM_sameNow_B250 {G : sd_GX} {X : sd_CX} (hE : ∀ g : sd_H, sd_end G X M_YM_sameNow (sd_F g)) {h : sd_H} {K218 : sd_H → Int32 → Int32 → Int32 → Int32 → Option (sd_H × Int32)} {r : (sd_H × Int32)} (hK218 : ∀ (g : sd_H) (l4 : Int32) (l5 : Int32) (l7 : Int32) (l8 : Int32), K218 g l4 l5 l7 l8 = some r → sd_J G X (sd_QR G X M_YM_sameNow (some (.int r.2), sd_F r.1)) M_YM_sameNow 218 [(0, .ref (G.1 + 126)), (4, .int l4), (5, .int l5), (7, .int l7), (8, .int l8)] [] (sd_F g)) {l4 : Int32} {l5 : Int32} {l8 : Int32} (hf : YM_sameNow_B250 h K218 l4 l5 l8 = some r) : sd_J G X (sd_QR G X M_YM_sameNow (some (.int r.2), sd_F r.1)) M_YM_sameNow 250 [(0, .ref (G.1 + 126)), (4, .int l4), (5, .int l5), (8, .int l8)] [] (sd_F h) := by
  unfold YM_sameNow_B250 at hf
  refine sd_iconst (n := 0) (v := 0) (pc' := 251) (by decide +kernel) (by decide) ?_
  refine sd_J.sub (lo' := [(0, .ref (G.1 + 126)), (4, .int l4), (5, .int l5), (8, .int l8)]) [0, 1, 2, 3] rfl ?_
  exact J_YM_sameNow_B251 hE hK218 hf
def YM_sameNow_L218 : Nat → sd_H → Int32 → Int32 → Int32 → Int32 → Option (sd_H × Int32)
  | 0, _, _, _, _, _ => none
  | n + 1, h, l4, l5, l7, l8 =>
  (if 3 ≤ l8 then YM_sameNow_L276 FU h l4 l5 l7 0 else (if l7 = 0 then YM_sameNow_B250 h (YM_sameNow_L218 n) l4 l5 l8 else gd (sd_inB l8 3) (gd (sd_inB l8 3) ((if (h.1 158 (l8 : Int32).toNatClampNeg) = (h.1 150 (l8 : Int32).toNatClampNeg) then YM_sameNow_B251 h (YM_sameNow_L218 n) l4 l5 l8 1 else YM_sameNow_B250 h (YM_sameNow_L218 n) l4 l5 l8)))))
set_option maxHeartbeats 4000000 in
set_option maxRecDepth 100000 in
theorem J_YM_sameNow_L218 {G : sd_GX} {X : sd_CX} (hE : ∀ g : sd_H, sd_end G X M_YM_sameNow (sd_F g))  {r : (sd_H × Int32)} : ∀ (n : Nat) (h : sd_H) (l4 : Int32) (l5 : Int32) (l7 : Int32) (l8 : Int32), YM_sameNow_L218 n h l4 l5 l7 l8 = some r → sd_J G X (sd_QR G X M_YM_sameNow (some (.int r.2), sd_F r.1)) M_YM_sameNow 218 [(0, .ref (G.1 + 126)), (4, .int l4), (5, .int l5), (7, .int l7), (8, .int l8)] [] (sd_F h) := by
  intro n
  induction n with
  | zero =>
    intro h l4 l5 l7 l8 hf
    rw [YM_sameNow_L218] at hf
    cases hf
  | succ n ih =>
    intro h l4 l5 l7 l8 hf
    rw [YM_sameNow_L218] at hf
    refine sd_iload (i := 8) (q := 4) (pc' := 220) (by decide +kernel) rfl ?_
    refine sd_iconst (n := 3) (v := 3) (pc' := 221) (by decide +kernel) (by decide) ?_
    refine sd_icmp_ge (off := 52) (tgt := 273) (pc' := 224) (by decide +kernel) (fun c13 => ?_) (fun c13 => ?_)
    · replace hf := ite_p c13 hf
      refine sd_iconst (n := 0) (v := 0) (pc' := 274) (by decide +kernel) (by decide) ?_
      refine sd_istore (i := 8) (pc' := 276) (lo' := [(8, .int 0), (0, .ref (G.1 + 126)), (4, .int l4), (5, .int l5), (7, .int l7)]) (by decide +kernel) (by decide) rfl ?_
      refine sd_J.sub (lo' := [(0, .ref (G.1 + 126)), (4, .int l4), (5, .int l5), (7, .int l7), (8, .int 0)]) [1, 2, 3, 4, 0] rfl ?_
      exact J_YM_sameNow_L276 hE _ _ _ _ _ _ hf
    · replace hf := ite_n c13 hf
      refine sd_iload (i := 7) (q := 3) (pc' := 226) (by decide +kernel) rfl ?_
      refine sd_if_eq (off := 24) (tgt := 250) (pc' := 229) (by decide +kernel) (fun c37 => ?_) (fun c37 => ?_)
      · replace hf := ite_p c37 hf
        refine sd_J.sub (lo' := [(0, .ref (G.1 + 126)), (4, .int l4), (5, .int l5), (8, .int l8)]) [0, 1, 2, 4] rfl ?_
        exact J_YM_sameNow_B250 hE ih hf
      · replace hf := ite_n c37 hf
        refine sd_aload_n (k := 0) (i := 0) (q := 0) (pc' := 230) (by decide +kernel) rfl rfl ?_
        refine sF_gr (idx := 105) (ci := 12) (k := 46) (n := 47) (r := 158) (pc' := 233) (by decide +kernel) fl_X12_105 (by decide +kernel) rfl SH_126 (by decide) (by decide +kernel) ?_
        refine sd_iload (i := 8) (q := 4) (pc' := 235) (by decide +kernel) rfl ?_
        obtain ⟨g42, hf⟩ := gd_some hf
        refine sF_iald (n := 3) (pc' := 236) (by decide +kernel) SH_158 g42 ?_
        refine sd_aload_n (k := 0) (i := 0) (q := 0) (pc' := 237) (by decide +kernel) rfl rfl ?_
        refine sF_gr (idx := 81) (ci := 12) (k := 35) (n := 47) (r := 150) (pc' := 240) (by decide +kernel) fl_X12_81 (by decide +kernel) rfl SH_126 (by decide) (by decide +kernel) ?_
        refine sd_iload (i := 8) (q := 4) (pc' := 242) (by decide +kernel) rfl ?_
        obtain ⟨g43, hf⟩ := gd_some hf
        refine sF_iald (n := 3) (pc' := 243) (by decide +kernel) SH_150 g43 ?_
        refine sd_icmp_ne (off := 7) (tgt := 250) (pc' := 246) (by decide +kernel) (fun c44 => ?_) (fun c44 => ?_)
        · replace hf := ite_n c44 hf
          refine sd_J.sub (lo' := [(0, .ref (G.1 + 126)), (4, .int l4), (5, .int l5), (8, .int l8)]) [0, 1, 2, 4] rfl ?_
          exact J_YM_sameNow_B250 hE ih hf
        · replace hf := ite_p c44 hf
          refine sd_iconst (n := 1) (v := 1) (pc' := 247) (by decide +kernel) (by decide) ?_
          refine sd_goto (off := 4) (tgt := 251) (pc' := 250) (by decide +kernel) ?_
          refine sd_J.sub (lo' := [(0, .ref (G.1 + 126)), (4, .int l4), (5, .int l5), (8, .int l8)]) [0, 1, 2, 4] rfl ?_
          exact J_YM_sameNow_B251 hE ih hf
def YM_sameNow_B213 (h : sd_H) (l4 : Int32) (l5 : Int32) (s0 : Int32) : Option (sd_H × Int32) :=
  YM_sameNow_L218 FU h l4 l5 s0 0
set_option maxHeartbeats 4000000 in
set_option maxRecDepth 100000 in
theorem J_YM_sameNow_B213 {G : sd_GX} {X : sd_CX} (hE : ∀ g : sd_H, sd_end G X M_YM_sameNow (sd_F g)) {h : sd_H} {r : (sd_H × Int32)} {l4 : Int32} {l5 : Int32} {s0 : Int32} (hf : YM_sameNow_B213 h l4 l5 s0 = some r) : sd_J G X (sd_QR G X M_YM_sameNow (some (.int r.2), sd_F r.1)) M_YM_sameNow 213 [(0, .ref (G.1 + 126)), (4, .int l4), (5, .int l5)] [.int s0] (sd_F h) := by
  unfold YM_sameNow_B213 at hf
  refine sd_istore (i := 7) (pc' := 215) (lo' := [(7, .int s0), (0, .ref (G.1 + 126)), (4, .int l4), (5, .int l5)]) (by decide +kernel) (by decide) rfl ?_
  refine sd_iconst (n := 0) (v := 0) (pc' := 216) (by decide +kernel) (by decide) ?_
  refine sd_istore (i := 8) (pc' := 218) (lo' := [(8, .int 0), (7, .int s0), (0, .ref (G.1 + 126)), (4, .int l4), (5, .int l5)]) (by decide +kernel) (by decide) rfl ?_
  refine sd_J.sub (lo' := [(0, .ref (G.1 + 126)), (4, .int l4), (5, .int l5), (7, .int s0), (8, .int 0)]) [2, 3, 4, 1, 0] rfl ?_
  exact J_YM_sameNow_L218 hE _ _ _ _ _ _ hf
def YM_sameNow_L154 : Nat → sd_H → Int32 → Int32 → Int32 → Int32 → Int32 → Int32 → Int32 → Option (sd_H × Int32)
  | 0, _, _, _, _, _, _, _, _ => none
  | n + 1, h, l1, l2, l3, l4, l5, l6, l7 =>
  (if 144 ≤ l7 then b2 (YM_mixes h l1 l2 l3) (fun h10 t11 => (if t11 = l6 then YM_sameNow_B213 h10 l4 l5 1 else YM_sameNow_B213 h10 l4 l5 0)) else gd (sd_inB l7 144) (gd (sd_inB l7 144) (hb (wD h 154 (l7 : Int32).toNatClampNeg (h.2.1 129 (l7 : Int32).toNatClampNeg)) (fun h47 => gd (sd_inB l7 144) (gd (sd_inB l7 144) (hb (wD h47 129 (l7 : Int32).toNatClampNeg (h47.2.1 153 (l7 : Int32).toNatClampNeg)) (fun h51 => YM_sameNow_L154 n h51 l1 l2 l3 l4 l5 l6 (l7 + 1))))))))
set_option maxHeartbeats 4000000 in
set_option maxRecDepth 100000 in
theorem J_YM_sameNow_L154 {G : sd_GX} {X : sd_CX} (hE : ∀ g : sd_H, sd_end G X M_YM_sameNow (sd_F g))  {r : (sd_H × Int32)} : ∀ (n : Nat) (h : sd_H) (l1 : Int32) (l2 : Int32) (l3 : Int32) (l4 : Int32) (l5 : Int32) (l6 : Int32) (l7 : Int32), YM_sameNow_L154 n h l1 l2 l3 l4 l5 l6 l7 = some r → sd_J G X (sd_QR G X M_YM_sameNow (some (.int r.2), sd_F r.1)) M_YM_sameNow 154 [(0, .ref (G.1 + 126)), (1, .int l1), (2, .int l2), (3, .int l3), (4, .int l4), (5, .int l5), (6, .int l6), (7, .int l7)] [] (sd_F h) := by
  intro n
  induction n with
  | zero =>
    intro h l1 l2 l3 l4 l5 l6 l7 hf
    rw [YM_sameNow_L154] at hf
    cases hf
  | succ n ih =>
    intro h l1 l2 l3 l4 l5 l6 l7 hf
    rw [YM_sameNow_L154] at hf
    refine sd_iload (i := 7) (q := 7) (pc' := 156) (by decide +kernel) rfl ?_
    refine sd_sipush (n := 144) (v := 144) (pc' := 159) (by decide +kernel) (by decide) ?_
    refine sd_icmp_ge (off := 37) (tgt := 196) (pc' := 162) (by decide +kernel) (fun c8 => ?_) (fun c8 => ?_)
    · replace hf := ite_p c8 hf
      refine sd_aload_n (k := 0) (i := 0) (q := 0) (pc' := 197) (by decide +kernel) rfl rfl ?_
      refine sd_iload_n (k := 1) (i := 1) (q := 1) (pc' := 198) (by decide +kernel) rfl rfl ?_
      refine sd_iload_n (k := 2) (i := 2) (q := 2) (pc' := 199) (by decide +kernel) rfl rfl ?_
      refine sd_iload_n (k := 3) (i := 3) (q := 3) (pc' := 200) (by decide +kernel) rfl rfl ?_
      obtain ⟨h10, t11, q9, hf⟩ := b2_some hf
      refine sF_callV (idx := 414) (b := 126) (As := [.int l1, .int l2, .int l3]) (ci := 12) (nn := 47) (pc' := 203) 3 (T_YM_mixes (G := G) (h := h)  q9) (by decide +kernel) mv_YM_mixes ml_X12_414 (by decide +kernel) rfl rfl (Nat.le_of_ble_eq_true rfl) SH_126 rfl (by decide) rfl rfl ?_
      refine sd_iload (i := 6) (q := 6) (pc' := 205) (by decide +kernel) rfl ?_
      refine sd_icmp_ne (off := 7) (tgt := 212) (pc' := 208) (by decide +kernel) (fun c12 => ?_) (fun c12 => ?_)
      · replace hf := ite_n c12 hf
        refine sd_iconst (n := 0) (v := 0) (pc' := 213) (by decide +kernel) (by decide) ?_
        refine sd_J.sub (lo' := [(0, .ref (G.1 + 126)), (4, .int l4), (5, .int l5)]) [0, 4, 5] rfl ?_
        exact J_YM_sameNow_B213 hE hf
      · replace hf := ite_p c12 hf
        refine sd_iconst (n := 1) (v := 1) (pc' := 209) (by decide +kernel) (by decide) ?_
        refine sd_goto (off := 4) (tgt := 213) (pc' := 212) (by decide +kernel) ?_
        refine sd_J.sub (lo' := [(0, .ref (G.1 + 126)), (4, .int l4), (5, .int l5)]) [0, 4, 5] rfl ?_
        exact J_YM_sameNow_B213 hE hf
    · replace hf := ite_n c8 hf
      refine sd_aload_n (k := 0) (i := 0) (q := 0) (pc' := 163) (by decide +kernel) rfl rfl ?_
      refine sF_gr (idx := 93) (ci := 12) (k := 42) (n := 47) (r := 154) (pc' := 166) (by decide +kernel) fl_X12_93 (by decide +kernel) rfl SH_126 (by decide) (by decide +kernel) ?_
      refine sd_iload (i := 7) (q := 7) (pc' := 168) (by decide +kernel) rfl ?_
      refine sd_aload_n (k := 0) (i := 0) (q := 0) (pc' := 169) (by decide +kernel) rfl rfl ?_
      refine sF_gr (idx := 16) (ci := 12) (k := 2) (n := 47) (r := 129) (pc' := 172) (by decide +kernel) fl_X12_16 (by decide +kernel) rfl SH_126 (by decide) (by decide +kernel) ?_
      refine sd_iload (i := 7) (q := 7) (pc' := 174) (by decide +kernel) rfl ?_
      obtain ⟨g45, hf⟩ := gd_some hf
      refine sF_dald (n := 144) (pc' := 175) (by decide +kernel) SH_129 g45 ?_
      obtain ⟨g46, hf⟩ := gd_some hf
      obtain ⟨h47, e48, hf⟩ := hb_some hf
      refine sF_dast (n := 144) (pc' := 176) (by decide +kernel) SH_154 g46 ?_
      rw [← e48]; clear e48
      refine sd_aload_n (k := 0) (i := 0) (q := 0) (pc' := 177) (by decide +kernel) rfl rfl ?_
      refine sF_gr (idx := 16) (ci := 12) (k := 2) (n := 47) (r := 129) (pc' := 180) (by decide +kernel) fl_X12_16 (by decide +kernel) rfl SH_126 (by decide) (by decide +kernel) ?_
      refine sd_iload (i := 7) (q := 7) (pc' := 182) (by decide +kernel) rfl ?_
      refine sd_aload_n (k := 0) (i := 0) (q := 0) (pc' := 183) (by decide +kernel) rfl rfl ?_
      refine sF_gr (idx := 90) (ci := 12) (k := 41) (n := 47) (r := 153) (pc' := 186) (by decide +kernel) fl_X12_90 (by decide +kernel) rfl SH_126 (by decide) (by decide +kernel) ?_
      refine sd_iload (i := 7) (q := 7) (pc' := 188) (by decide +kernel) rfl ?_
      obtain ⟨g49, hf⟩ := gd_some hf
      refine sF_dald (n := 144) (pc' := 189) (by decide +kernel) SH_153 g49 ?_
      obtain ⟨g50, hf⟩ := gd_some hf
      obtain ⟨h51, e52, hf⟩ := hb_some hf
      refine sF_dast (n := 144) (pc' := 190) (by decide +kernel) SH_129 g50 ?_
      rw [← e52]; clear e52
      refine sd_iinc (i := 7) (q := 7) (n := 1) (v := (l7 + 1)) (pc' := 193) (lo' := [(7, .int (l7 + 1)), (0, .ref (G.1 + 126)), (1, .int l1), (2, .int l2), (3, .int l3), (4, .int l4), (5, .int l5), (6, .int l6)]) (by decide +kernel) rfl rfl (by decide) rfl ?_
      refine sd_goto (off := -39) (tgt := 154) (pc' := 196) (by decide +kernel) ?_
      refine sd_J.sub (lo' := [(0, .ref (G.1 + 126)), (1, .int l1), (2, .int l2), (3, .int l3), (4, .int l4), (5, .int l5), (6, .int l6), (7, .int (l7 + 1))]) [1, 2, 3, 4, 5, 6, 7, 0] rfl ?_
      exact ih _ _ _ _ _ _ _ _ hf
def YM_sameNow_L125 : Nat → sd_H → Int32 → Int32 → Int32 → Int32 → Int32 → Int32 → Int32 → Option (sd_H × Int32)
  | 0, _, _, _, _, _, _, _, _ => none
  | n + 1, h, l1, l2, l3, l4, l5, l6, l7 =>
  (if 3 ≤ l7 then YM_sameNow_L154 FU h l1 l2 l3 l4 l5 l6 0 else gd (sd_inB l7 3) (gd (sd_inB l7 3) (hb (wI h 158 (l7 : Int32).toNatClampNeg (h.1 150 (l7 : Int32).toNatClampNeg)) (fun h55 => YM_sameNow_L125 n h55 l1 l2 l3 l4 l5 l6 (l7 + 1)))))
set_option maxHeartbeats 4000000 in
set_option maxRecDepth 100000 in
theorem J_YM_sameNow_L125 {G : sd_GX} {X : sd_CX} (hE : ∀ g : sd_H, sd_end G X M_YM_sameNow (sd_F g))  {r : (sd_H × Int32)} : ∀ (n : Nat) (h : sd_H) (l1 : Int32) (l2 : Int32) (l3 : Int32) (l4 : Int32) (l5 : Int32) (l6 : Int32) (l7 : Int32), YM_sameNow_L125 n h l1 l2 l3 l4 l5 l6 l7 = some r → sd_J G X (sd_QR G X M_YM_sameNow (some (.int r.2), sd_F r.1)) M_YM_sameNow 125 [(0, .ref (G.1 + 126)), (1, .int l1), (2, .int l2), (3, .int l3), (4, .int l4), (5, .int l5), (6, .int l6), (7, .int l7)] [] (sd_F h) := by
  intro n
  induction n with
  | zero =>
    intro h l1 l2 l3 l4 l5 l6 l7 hf
    rw [YM_sameNow_L125] at hf
    cases hf
  | succ n ih =>
    intro h l1 l2 l3 l4 l5 l6 l7 hf
    rw [YM_sameNow_L125] at hf
    refine sd_iload (i := 7) (q := 7) (pc' := 127) (by decide +kernel) rfl ?_
    refine sd_iconst (n := 3) (v := 3) (pc' := 128) (by decide +kernel) (by decide) ?_
    refine sd_icmp_ge (off := 23) (tgt := 151) (pc' := 131) (by decide +kernel) (fun c7 => ?_) (fun c7 => ?_)
    · replace hf := ite_p c7 hf
      refine sd_iconst (n := 0) (v := 0) (pc' := 152) (by decide +kernel) (by decide) ?_
      refine sd_istore (i := 7) (pc' := 154) (lo' := [(7, .int 0), (0, .ref (G.1 + 126)), (1, .int l1), (2, .int l2), (3, .int l3), (4, .int l4), (5, .int l5), (6, .int l6)]) (by decide +kernel) (by decide) rfl ?_
      refine sd_J.sub (lo' := [(0, .ref (G.1 + 126)), (1, .int l1), (2, .int l2), (3, .int l3), (4, .int l4), (5, .int l5), (6, .int l6), (7, .int 0)]) [1, 2, 3, 4, 5, 6, 7, 0] rfl ?_
      exact J_YM_sameNow_L154 hE _ _ _ _ _ _ _ _ _ hf
    · replace hf := ite_n c7 hf
      refine sd_aload_n (k := 0) (i := 0) (q := 0) (pc' := 132) (by decide +kernel) rfl rfl ?_
      refine sF_gr (idx := 105) (ci := 12) (k := 46) (n := 47) (r := 158) (pc' := 135) (by decide +kernel) fl_X12_105 (by decide +kernel) rfl SH_126 (by decide) (by decide +kernel) ?_
      refine sd_iload (i := 7) (q := 7) (pc' := 137) (by decide +kernel) rfl ?_
      refine sd_aload_n (k := 0) (i := 0) (q := 0) (pc' := 138) (by decide +kernel) rfl rfl ?_
      refine sF_gr (idx := 81) (ci := 12) (k := 35) (n := 47) (r := 150) (pc' := 141) (by decide +kernel) fl_X12_81 (by decide +kernel) rfl SH_126 (by decide) (by decide +kernel) ?_
      refine sd_iload (i := 7) (q := 7) (pc' := 143) (by decide +kernel) rfl ?_
      obtain ⟨g53, hf⟩ := gd_some hf
      refine sF_iald (n := 3) (pc' := 144) (by decide +kernel) SH_150 g53 ?_
      obtain ⟨g54, hf⟩ := gd_some hf
      obtain ⟨h55, e56, hf⟩ := hb_some hf
      refine sF_iast (n := 3) (pc' := 145) (by decide +kernel) SH_158 g54 ?_
      rw [← e56]; clear e56
      refine sd_iinc (i := 7) (q := 7) (n := 1) (v := (l7 + 1)) (pc' := 148) (lo' := [(7, .int (l7 + 1)), (0, .ref (G.1 + 126)), (1, .int l1), (2, .int l2), (3, .int l3), (4, .int l4), (5, .int l5), (6, .int l6)]) (by decide +kernel) rfl rfl (by decide) rfl ?_
      refine sd_goto (off := -23) (tgt := 125) (pc' := 151) (by decide +kernel) ?_
      refine sd_J.sub (lo' := [(0, .ref (G.1 + 126)), (1, .int l1), (2, .int l2), (3, .int l3), (4, .int l4), (5, .int l5), (6, .int l6), (7, .int (l7 + 1))]) [1, 2, 3, 4, 5, 6, 7, 0] rfl ?_
      exact ih _ _ _ _ _ _ _ _ hf
def YM_sameNow_L90 : Nat → sd_H → Int32 → Int32 → Int32 → Int32 → Int32 → Int32 → Option (sd_H × Int32)
  | 0, _, _, _, _, _, _, _ => none
  | n + 1, h, l1, l2, l3, l4, l5, l6 =>
  (if 3 ≤ l6 then b2 (YM_runNow h) (fun h5 t6 => YM_sameNow_L125 FU h5 l1 l2 l3 l4 l5 t6 0) else gd (sd_inB l6 3) (gd (sd_inB l6 3) (hb (wI h 157 (l6 : Int32).toNatClampNeg (h.1 150 (l6 : Int32).toNatClampNeg)) (fun h59 => YM_sameNow_L90 n h59 l1 l2 l3 l4 l5 (l6 + 1)))))
set_option maxHeartbeats 4000000 in
set_option maxRecDepth 100000 in
theorem J_YM_sameNow_L90 {G : sd_GX} {X : sd_CX} (hE : ∀ g : sd_H, sd_end G X M_YM_sameNow (sd_F g))  {r : (sd_H × Int32)} : ∀ (n : Nat) (h : sd_H) (l1 : Int32) (l2 : Int32) (l3 : Int32) (l4 : Int32) (l5 : Int32) (l6 : Int32), YM_sameNow_L90 n h l1 l2 l3 l4 l5 l6 = some r → sd_J G X (sd_QR G X M_YM_sameNow (some (.int r.2), sd_F r.1)) M_YM_sameNow 90 [(0, .ref (G.1 + 126)), (1, .int l1), (2, .int l2), (3, .int l3), (4, .int l4), (5, .int l5), (6, .int l6)] [] (sd_F h) := by
  intro n
  induction n with
  | zero =>
    intro h l1 l2 l3 l4 l5 l6 hf
    rw [YM_sameNow_L90] at hf
    cases hf
  | succ n ih =>
    intro h l1 l2 l3 l4 l5 l6 hf
    rw [YM_sameNow_L90] at hf
    refine sd_iload (i := 6) (q := 6) (pc' := 92) (by decide +kernel) rfl ?_
    refine sd_iconst (n := 3) (v := 3) (pc' := 93) (by decide +kernel) (by decide) ?_
    refine sd_icmp_ge (off := 23) (tgt := 116) (pc' := 96) (by decide +kernel) (fun c3 => ?_) (fun c3 => ?_)
    · replace hf := ite_p c3 hf
      refine sd_aload_n (k := 0) (i := 0) (q := 0) (pc' := 117) (by decide +kernel) rfl rfl ?_
      obtain ⟨h5, t6, q4, hf⟩ := b2_some hf
      refine sF_callV (idx := 394) (b := 126) (As := []) (ci := 12) (nn := 47) (pc' := 120) 0 (T_YM_runNow (G := G) (h := h)  q4) (by decide +kernel) mv_YM_runNow ml_X12_394 (by decide +kernel) rfl rfl (Nat.le_of_ble_eq_true rfl) SH_126 rfl (by decide) rfl rfl ?_
      refine sd_istore (i := 6) (pc' := 122) (lo' := [(6, .int t6), (0, .ref (G.1 + 126)), (1, .int l1), (2, .int l2), (3, .int l3), (4, .int l4), (5, .int l5)]) (by decide +kernel) (by decide) rfl ?_
      refine sd_iconst (n := 0) (v := 0) (pc' := 123) (by decide +kernel) (by decide) ?_
      refine sd_istore (i := 7) (pc' := 125) (lo' := [(7, .int 0), (6, .int t6), (0, .ref (G.1 + 126)), (1, .int l1), (2, .int l2), (3, .int l3), (4, .int l4), (5, .int l5)]) (by decide +kernel) (by decide) rfl ?_
      refine sd_J.sub (lo' := [(0, .ref (G.1 + 126)), (1, .int l1), (2, .int l2), (3, .int l3), (4, .int l4), (5, .int l5), (6, .int t6), (7, .int 0)]) [2, 3, 4, 5, 6, 7, 1, 0] rfl ?_
      exact J_YM_sameNow_L125 hE _ _ _ _ _ _ _ _ _ hf
    · replace hf := ite_n c3 hf
      refine sd_aload_n (k := 0) (i := 0) (q := 0) (pc' := 97) (by decide +kernel) rfl rfl ?_
      refine sF_gr (idx := 102) (ci := 12) (k := 45) (n := 47) (r := 157) (pc' := 100) (by decide +kernel) fl_X12_102 (by decide +kernel) rfl SH_126 (by decide) (by decide +kernel) ?_
      refine sd_iload (i := 6) (q := 6) (pc' := 102) (by decide +kernel) rfl ?_
      refine sd_aload_n (k := 0) (i := 0) (q := 0) (pc' := 103) (by decide +kernel) rfl rfl ?_
      refine sF_gr (idx := 81) (ci := 12) (k := 35) (n := 47) (r := 150) (pc' := 106) (by decide +kernel) fl_X12_81 (by decide +kernel) rfl SH_126 (by decide) (by decide +kernel) ?_
      refine sd_iload (i := 6) (q := 6) (pc' := 108) (by decide +kernel) rfl ?_
      obtain ⟨g57, hf⟩ := gd_some hf
      refine sF_iald (n := 3) (pc' := 109) (by decide +kernel) SH_150 g57 ?_
      obtain ⟨g58, hf⟩ := gd_some hf
      obtain ⟨h59, e60, hf⟩ := hb_some hf
      refine sF_iast (n := 3) (pc' := 110) (by decide +kernel) SH_157 g58 ?_
      rw [← e60]; clear e60
      refine sd_iinc (i := 6) (q := 6) (n := 1) (v := (l6 + 1)) (pc' := 113) (lo' := [(6, .int (l6 + 1)), (0, .ref (G.1 + 126)), (1, .int l1), (2, .int l2), (3, .int l3), (4, .int l4), (5, .int l5)]) (by decide +kernel) rfl rfl (by decide) rfl ?_
      refine sd_goto (off := -23) (tgt := 90) (pc' := 116) (by decide +kernel) ?_
      refine sd_J.sub (lo' := [(0, .ref (G.1 + 126)), (1, .int l1), (2, .int l2), (3, .int l3), (4, .int l4), (5, .int l5), (6, .int (l6 + 1))]) [1, 2, 3, 4, 5, 6, 0] rfl ?_
      exact ih _ _ _ _ _ _ _ hf
def YM_sameNow_L60 : Nat → sd_H → Int32 → Int32 → Int32 → Int32 → Int32 → Int32 → Option (sd_H × Int32)
  | 0, _, _, _, _, _, _, _ => none
  | n + 1, h, l1, l2, l3, l4, l5, l6 =>
  (if 10 ≤ l6 then YM_sameNow_L90 FU h l1 l2 l3 l4 l5 0 else gd (sd_inB l6 10) (gd (sd_inB l6 10) (hb (wI h 156 (l6 : Int32).toNatClampNeg (h.1 151 (l6 : Int32).toNatClampNeg)) (fun h63 => YM_sameNow_L60 n h63 l1 l2 l3 l4 l5 (l6 + 1)))))
set_option maxHeartbeats 4000000 in
set_option maxRecDepth 100000 in
theorem J_YM_sameNow_L60 {G : sd_GX} {X : sd_CX} (hE : ∀ g : sd_H, sd_end G X M_YM_sameNow (sd_F g))  {r : (sd_H × Int32)} : ∀ (n : Nat) (h : sd_H) (l1 : Int32) (l2 : Int32) (l3 : Int32) (l4 : Int32) (l5 : Int32) (l6 : Int32), YM_sameNow_L60 n h l1 l2 l3 l4 l5 l6 = some r → sd_J G X (sd_QR G X M_YM_sameNow (some (.int r.2), sd_F r.1)) M_YM_sameNow 60 [(0, .ref (G.1 + 126)), (1, .int l1), (2, .int l2), (3, .int l3), (4, .int l4), (5, .int l5), (6, .int l6)] [] (sd_F h) := by
  intro n
  induction n with
  | zero =>
    intro h l1 l2 l3 l4 l5 l6 hf
    rw [YM_sameNow_L60] at hf
    cases hf
  | succ n ih =>
    intro h l1 l2 l3 l4 l5 l6 hf
    rw [YM_sameNow_L60] at hf
    refine sd_iload (i := 6) (q := 6) (pc' := 62) (by decide +kernel) rfl ?_
    refine sd_bipush (n := 10) (v := 10) (pc' := 64) (by decide +kernel) (by decide) ?_
    refine sd_icmp_ge (off := 23) (tgt := 87) (pc' := 67) (by decide +kernel) (fun c2 => ?_) (fun c2 => ?_)
    · replace hf := ite_p c2 hf
      refine sd_iconst (n := 0) (v := 0) (pc' := 88) (by decide +kernel) (by decide) ?_
      refine sd_istore (i := 6) (pc' := 90) (lo' := [(6, .int 0), (0, .ref (G.1 + 126)), (1, .int l1), (2, .int l2), (3, .int l3), (4, .int l4), (5, .int l5)]) (by decide +kernel) (by decide) rfl ?_
      refine sd_J.sub (lo' := [(0, .ref (G.1 + 126)), (1, .int l1), (2, .int l2), (3, .int l3), (4, .int l4), (5, .int l5), (6, .int 0)]) [1, 2, 3, 4, 5, 6, 0] rfl ?_
      exact J_YM_sameNow_L90 hE _ _ _ _ _ _ _ _ hf
    · replace hf := ite_n c2 hf
      refine sd_aload_n (k := 0) (i := 0) (q := 0) (pc' := 68) (by decide +kernel) rfl rfl ?_
      refine sF_gr (idx := 99) (ci := 12) (k := 44) (n := 47) (r := 156) (pc' := 71) (by decide +kernel) fl_X12_99 (by decide +kernel) rfl SH_126 (by decide) (by decide +kernel) ?_
      refine sd_iload (i := 6) (q := 6) (pc' := 73) (by decide +kernel) rfl ?_
      refine sd_aload_n (k := 0) (i := 0) (q := 0) (pc' := 74) (by decide +kernel) rfl rfl ?_
      refine sF_gr (idx := 84) (ci := 12) (k := 36) (n := 47) (r := 151) (pc' := 77) (by decide +kernel) fl_X12_84 (by decide +kernel) rfl SH_126 (by decide) (by decide +kernel) ?_
      refine sd_iload (i := 6) (q := 6) (pc' := 79) (by decide +kernel) rfl ?_
      obtain ⟨g61, hf⟩ := gd_some hf
      refine sF_iald (n := 10) (pc' := 80) (by decide +kernel) SH_151 g61 ?_
      obtain ⟨g62, hf⟩ := gd_some hf
      obtain ⟨h63, e64, hf⟩ := hb_some hf
      refine sF_iast (n := 10) (pc' := 81) (by decide +kernel) SH_156 g62 ?_
      rw [← e64]; clear e64
      refine sd_iinc (i := 6) (q := 6) (n := 1) (v := (l6 + 1)) (pc' := 84) (lo' := [(6, .int (l6 + 1)), (0, .ref (G.1 + 126)), (1, .int l1), (2, .int l2), (3, .int l3), (4, .int l4), (5, .int l5)]) (by decide +kernel) rfl rfl (by decide) rfl ?_
      refine sd_goto (off := -24) (tgt := 60) (pc' := 87) (by decide +kernel) ?_
      refine sd_J.sub (lo' := [(0, .ref (G.1 + 126)), (1, .int l1), (2, .int l2), (3, .int l3), (4, .int l4), (5, .int l5), (6, .int (l6 + 1))]) [1, 2, 3, 4, 5, 6, 0] rfl ?_
      exact ih _ _ _ _ _ _ _ hf
def YM_sameNow_L15 : Nat → sd_H → Int32 → Int32 → Int32 → Int32 → Int32 → Int32 → Option (sd_H × Int32)
  | 0, _, _, _, _, _, _, _ => none
  | n + 1, h, l1, l2, l3, l4, l5, l6 =>
  (if 144 ≤ l6 then YM_sameNow_L60 FU h l1 l2 l3 l4 l5 0 else gd (sd_inB l6 144) (gd (sd_inB l6 144) (hb (wD h 153 (l6 : Int32).toNatClampNeg (h.2.1 129 (l6 : Int32).toNatClampNeg)) (fun h67 => gd (sd_inB l6 144) (gd (sd_inB l6 144) (hb (wI h67 155 (l6 : Int32).toNatClampNeg (h67.1 130 (l6 : Int32).toNatClampNeg)) (fun h71 => YM_sameNow_L15 n h71 l1 l2 l3 l4 l5 (l6 + 1))))))))
set_option maxHeartbeats 4000000 in
set_option maxRecDepth 100000 in
theorem J_YM_sameNow_L15 {G : sd_GX} {X : sd_CX} (hE : ∀ g : sd_H, sd_end G X M_YM_sameNow (sd_F g))  {r : (sd_H × Int32)} : ∀ (n : Nat) (h : sd_H) (l1 : Int32) (l2 : Int32) (l3 : Int32) (l4 : Int32) (l5 : Int32) (l6 : Int32), YM_sameNow_L15 n h l1 l2 l3 l4 l5 l6 = some r → sd_J G X (sd_QR G X M_YM_sameNow (some (.int r.2), sd_F r.1)) M_YM_sameNow 15 [(0, .ref (G.1 + 126)), (1, .int l1), (2, .int l2), (3, .int l3), (4, .int l4), (5, .int l5), (6, .int l6)] [] (sd_F h) := by
  intro n
  induction n with
  | zero =>
    intro h l1 l2 l3 l4 l5 l6 hf
    rw [YM_sameNow_L15] at hf
    cases hf
  | succ n ih =>
    intro h l1 l2 l3 l4 l5 l6 hf
    rw [YM_sameNow_L15] at hf
    refine sd_iload (i := 6) (q := 6) (pc' := 17) (by decide +kernel) rfl ?_
    refine sd_sipush (n := 144) (v := 144) (pc' := 20) (by decide +kernel) (by decide) ?_
    refine sd_icmp_ge (off := 37) (tgt := 57) (pc' := 23) (by decide +kernel) (fun c1 => ?_) (fun c1 => ?_)
    · replace hf := ite_p c1 hf
      refine sd_iconst (n := 0) (v := 0) (pc' := 58) (by decide +kernel) (by decide) ?_
      refine sd_istore (i := 6) (pc' := 60) (lo' := [(6, .int 0), (0, .ref (G.1 + 126)), (1, .int l1), (2, .int l2), (3, .int l3), (4, .int l4), (5, .int l5)]) (by decide +kernel) (by decide) rfl ?_
      refine sd_J.sub (lo' := [(0, .ref (G.1 + 126)), (1, .int l1), (2, .int l2), (3, .int l3), (4, .int l4), (5, .int l5), (6, .int 0)]) [1, 2, 3, 4, 5, 6, 0] rfl ?_
      exact J_YM_sameNow_L60 hE _ _ _ _ _ _ _ _ hf
    · replace hf := ite_n c1 hf
      refine sd_aload_n (k := 0) (i := 0) (q := 0) (pc' := 24) (by decide +kernel) rfl rfl ?_
      refine sF_gr (idx := 90) (ci := 12) (k := 41) (n := 47) (r := 153) (pc' := 27) (by decide +kernel) fl_X12_90 (by decide +kernel) rfl SH_126 (by decide) (by decide +kernel) ?_
      refine sd_iload (i := 6) (q := 6) (pc' := 29) (by decide +kernel) rfl ?_
      refine sd_aload_n (k := 0) (i := 0) (q := 0) (pc' := 30) (by decide +kernel) rfl rfl ?_
      refine sF_gr (idx := 16) (ci := 12) (k := 2) (n := 47) (r := 129) (pc' := 33) (by decide +kernel) fl_X12_16 (by decide +kernel) rfl SH_126 (by decide) (by decide +kernel) ?_
      refine sd_iload (i := 6) (q := 6) (pc' := 35) (by decide +kernel) rfl ?_
      obtain ⟨g65, hf⟩ := gd_some hf
      refine sF_dald (n := 144) (pc' := 36) (by decide +kernel) SH_129 g65 ?_
      obtain ⟨g66, hf⟩ := gd_some hf
      obtain ⟨h67, e68, hf⟩ := hb_some hf
      refine sF_dast (n := 144) (pc' := 37) (by decide +kernel) SH_153 g66 ?_
      rw [← e68]; clear e68
      refine sd_aload_n (k := 0) (i := 0) (q := 0) (pc' := 38) (by decide +kernel) rfl rfl ?_
      refine sF_gr (idx := 96) (ci := 12) (k := 43) (n := 47) (r := 155) (pc' := 41) (by decide +kernel) fl_X12_96 (by decide +kernel) rfl SH_126 (by decide) (by decide +kernel) ?_
      refine sd_iload (i := 6) (q := 6) (pc' := 43) (by decide +kernel) rfl ?_
      refine sd_aload_n (k := 0) (i := 0) (q := 0) (pc' := 44) (by decide +kernel) rfl rfl ?_
      refine sF_gr (idx := 20) (ci := 12) (k := 3) (n := 47) (r := 130) (pc' := 47) (by decide +kernel) fl_X12_20 (by decide +kernel) rfl SH_126 (by decide) (by decide +kernel) ?_
      refine sd_iload (i := 6) (q := 6) (pc' := 49) (by decide +kernel) rfl ?_
      obtain ⟨g69, hf⟩ := gd_some hf
      refine sF_iald (n := 144) (pc' := 50) (by decide +kernel) SH_130 g69 ?_
      obtain ⟨g70, hf⟩ := gd_some hf
      obtain ⟨h71, e72, hf⟩ := hb_some hf
      refine sF_iast (n := 144) (pc' := 51) (by decide +kernel) SH_155 g70 ?_
      rw [← e72]; clear e72
      refine sd_iinc (i := 6) (q := 6) (n := 1) (v := (l6 + 1)) (pc' := 54) (lo' := [(6, .int (l6 + 1)), (0, .ref (G.1 + 126)), (1, .int l1), (2, .int l2), (3, .int l3), (4, .int l4), (5, .int l5)]) (by decide +kernel) rfl rfl (by decide) rfl ?_
      refine sd_goto (off := -39) (tgt := 15) (pc' := 57) (by decide +kernel) ?_
      refine sd_J.sub (lo' := [(0, .ref (G.1 + 126)), (1, .int l1), (2, .int l2), (3, .int l3), (4, .int l4), (5, .int l5), (6, .int (l6 + 1))]) [1, 2, 3, 4, 5, 6, 0] rfl ?_
      exact ih _ _ _ _ _ _ _ hf
def YM_sameNow (h : sd_H) (a0 : Int32) (a1 : Int32) (a2 : Int32) : Option (sd_H × Int32) :=
  YM_sameNow_L15 FU h a0 a1 a2 (h.1 126 34) (h.1 126 37) 0
set_option maxHeartbeats 4000000 in
set_option maxRecDepth 100000 in
theorem T_YM_sameNow {G : sd_GX} {h : sd_H} {a0 : Int32} {a1 : Int32} {a2 : Int32} {r : (sd_H × Int32)} (hf : YM_sameNow h a0 a1 a2 = some r) : sd_RunF G M_YM_sameNow [.ref (G.1 + 126), .int a0, .int a1, .int a2] h (some (.int r.2)) r.1 := by
  refine sF_run ⟨rfl, rfl⟩ (by decide +kernel) (Nat.le_of_ble_eq_true rfl) (lo := [(0, .ref (G.1 + 126)), (1, .int a0), (2, .int a1), (3, .int a2)]) rfl (fun X hE => ?_)
  unfold YM_sameNow at hf
  refine sd_aload_n (k := 0) (i := 0) (q := 0) (pc' := 1) (by decide +kernel) rfl rfl ?_
  refine sF_gi (idx := 377) (ci := 12) (k := 34) (n := 47) (pc' := 4) (by decide +kernel) fl_X12_377 (by decide +kernel) rfl SH_126 ?_
  refine sd_istore (i := 4) (pc' := 6) (lo' := [(4, .int (h.1 126 34)), (0, .ref (G.1 + 126)), (1, .int a0), (2, .int a1), (3, .int a2)]) (by decide +kernel) (by decide) rfl ?_
  refine sd_aload_n (k := 0) (i := 0) (q := 1) (pc' := 7) (by decide +kernel) rfl rfl ?_
  refine sF_gi (idx := 380) (ci := 12) (k := 37) (n := 47) (pc' := 10) (by decide +kernel) fl_X12_380 (by decide +kernel) rfl SH_126 ?_
  refine sd_istore (i := 5) (pc' := 12) (lo' := [(5, .int (h.1 126 37)), (4, .int (h.1 126 34)), (0, .ref (G.1 + 126)), (1, .int a0), (2, .int a1), (3, .int a2)]) (by decide +kernel) (by decide) rfl ?_
  refine sd_iconst (n := 0) (v := 0) (pc' := 13) (by decide +kernel) (by decide) ?_
  refine sd_istore (i := 6) (pc' := 15) (lo' := [(6, .int 0), (5, .int (h.1 126 37)), (4, .int (h.1 126 34)), (0, .ref (G.1 + 126)), (1, .int a0), (2, .int a1), (3, .int a2)]) (by decide +kernel) (by decide) rfl ?_
  refine sd_J.sub (lo' := [(0, .ref (G.1 + 126)), (1, .int a0), (2, .int a1), (3, .int a2), (4, .int (h.1 126 34)), (5, .int (h.1 126 37)), (6, .int 0)]) [3, 4, 5, 6, 2, 1, 0] rfl ?_
  exact J_YM_sameNow_L15 hE _ _ _ _ _ _ _ _ hf

theorem ml_X12_417 : Cond.methodLink RX12 417 yX12_sameNow ∈ sd_tb := sd_mem (i := 1710) (by decide +kernel)
theorem mv_YM_sameNow : sd_mV M_YM_sameNow 3 := ⟨sd_mem (i := 1712) (by decide +kernel), sd_mem (i := 102) (by decide +kernel), ⟨sd_mem (i := 1713) (by decide +kernel), sd_mem (i := 119) (by decide +kernel), by decide +kernel, by decide +kernel, by decide +kernel⟩⟩
def M_YM_same : sd_MX := (yX12_same, cX12_same, 6, (some .int), { frames := 12, cells := 0, slots := 0, locals := 304 })
def YM_same (h : sd_H) (a0 : Int32) (a1 : Int32) (a2 : Int32) (a3 : Int32) : Option (sd_H × Int32) :=
  b2 (YM_mayMix h a0 a1 a2 a3) (fun h2 t3 => (if 0 ≤ t3 then b2 (YM_sameNow h2 a0 a1 a2) (fun h6 t7 => some (h6, t7)) else some (h2, t3)))
set_option maxHeartbeats 4000000 in
set_option maxRecDepth 100000 in
theorem T_YM_same {G : sd_GX} {h : sd_H} {a0 : Int32} {a1 : Int32} {a2 : Int32} {a3 : Int32} {r : (sd_H × Int32)} (hf : YM_same h a0 a1 a2 a3 = some r) : sd_RunF G M_YM_same [.ref (G.1 + 126), .int a0, .int a1, .int a2, .int a3] h (some (.int r.2)) r.1 := by
  refine sF_run ⟨rfl, rfl⟩ (by decide +kernel) (Nat.le_of_ble_eq_true rfl) (lo := [(0, .ref (G.1 + 126)), (1, .int a0), (2, .int a1), (3, .int a2), (4, .int a3)]) rfl (fun X hE => ?_)
  unfold YM_same at hf
  refine sd_aload_n (k := 0) (i := 0) (q := 0) (pc' := 1) (by decide +kernel) rfl rfl ?_
  refine sd_iload_n (k := 1) (i := 1) (q := 1) (pc' := 2) (by decide +kernel) rfl rfl ?_
  refine sd_iload_n (k := 2) (i := 2) (q := 2) (pc' := 3) (by decide +kernel) rfl rfl ?_
  refine sd_iload_n (k := 3) (i := 3) (q := 3) (pc' := 4) (by decide +kernel) rfl rfl ?_
  refine sd_iload (i := 4) (q := 4) (pc' := 6) (by decide +kernel) rfl ?_
  obtain ⟨h2, t3, q1, hf⟩ := b2_some hf
  refine sF_callV (idx := 410) (b := 126) (As := [.int a0, .int a1, .int a2, .int a3]) (ci := 12) (nn := 47) (pc' := 9) 4 (T_YM_mayMix (G := G) (h := h)  q1) (by decide +kernel) mv_YM_mayMix ml_X12_410 (by decide +kernel) rfl rfl (Nat.le_of_ble_eq_true rfl) SH_126 rfl (by decide) rfl rfl ?_
  refine sd_istore (i := 5) (pc' := 11) (lo' := [(5, .int t3), (0, .ref (G.1 + 126)), (1, .int a0), (2, .int a1), (3, .int a2), (4, .int a3)]) (by decide +kernel) (by decide) rfl ?_
  refine sd_iload (i := 5) (q := 0) (pc' := 13) (by decide +kernel) rfl ?_
  refine sd_if_ge (off := 8) (tgt := 21) (pc' := 16) (by decide +kernel) (fun c4 => ?_) (fun c4 => ?_)
  · replace hf := ite_p c4 hf
    refine sd_aload_n (k := 0) (i := 0) (q := 1) (pc' := 22) (by decide +kernel) rfl rfl ?_
    refine sd_iload_n (k := 1) (i := 1) (q := 2) (pc' := 23) (by decide +kernel) rfl rfl ?_
    refine sd_iload_n (k := 2) (i := 2) (q := 3) (pc' := 24) (by decide +kernel) rfl rfl ?_
    refine sd_iload_n (k := 3) (i := 3) (q := 4) (pc' := 25) (by decide +kernel) rfl rfl ?_
    obtain ⟨h6, t7, q5, hf⟩ := b2_some hf
    refine sF_callV (idx := 417) (b := 126) (As := [.int a0, .int a1, .int a2]) (ci := 12) (nn := 47) (pc' := 28) 3 (T_YM_sameNow (G := G) (h := h2)  q5) (by decide +kernel) mv_YM_sameNow ml_X12_417 (by decide +kernel) rfl rfl (Nat.le_of_ble_eq_true rfl) SH_126 rfl (by decide) rfl rfl ?_
    obtain rfl := Option.some.inj hf
    exact sd_iret (by decide +kernel) rfl (hE _)
  · replace hf := ite_n c4 hf
    refine sd_iload (i := 5) (q := 0) (pc' := 18) (by decide +kernel) rfl ?_
    refine sd_goto (off := 10) (tgt := 28) (pc' := 21) (by decide +kernel) ?_
    obtain rfl := Option.some.inj hf
    exact sd_iret (by decide +kernel) rfl (hE _)

def M_YM_faults : sd_MX := (yX12_faults, cX12_faults, 2, (some .int), { frames := 2, cells := 0, slots := 0, locals := 62 })
def YM_faults (h : sd_H) (a0 : Int32) : Option Int32 :=
  b1 (YM_in a0 0 2) (fun t2 => (if t2 = 0 then some (-2) else gd (sd_inB a0 3) (some (h.1 150 (a0 : Int32).toNatClampNeg))))
set_option maxHeartbeats 4000000 in
set_option maxRecDepth 100000 in
theorem T_YM_faults {G : sd_GX} {h : sd_H} {a0 : Int32} {r : Int32} (hf : YM_faults h a0 = some r) : sd_RunF G M_YM_faults [.ref (G.1 + 126), .int a0] h (some (.int r)) h := by
  refine sF_run ⟨rfl, rfl⟩ (by decide +kernel) (Nat.le_of_ble_eq_true rfl) (lo := [(0, .ref (G.1 + 126)), (1, .int a0)]) rfl (fun X hE => ?_)
  unfold YM_faults at hf
  refine sd_iload_n (k := 1) (i := 1) (q := 1) (pc' := 1) (by decide +kernel) rfl rfl ?_
  refine sd_iconst (n := 0) (v := 0) (pc' := 2) (by decide +kernel) (by decide) ?_
  refine sd_iconst (n := 2) (v := 2) (pc' := 3) (by decide +kernel) (by decide) ?_
  obtain ⟨t2, q1, hf⟩ := b1_some hf
  refine sF_callS (idx := 114) (As := [.int a0, .int 0, .int 2]) (pc' := 6) 3 (T_YM_in (G := G) (h := h)  q1) (by decide +kernel) mv_YM_in ml_X12_114 (by decide +kernel) rfl rfl (Nat.le_of_ble_eq_true rfl) rfl ?_
  refine sd_if_eq (off := 12) (tgt := 18) (pc' := 9) (by decide +kernel) (fun c3 => ?_) (fun c3 => ?_)
  · replace hf := ite_p c3 hf
    refine sd_bipush (n := -2) (v := (-2)) (pc' := 20) (by decide +kernel) (by decide) ?_
    obtain rfl := Option.some.inj hf
    exact sd_iret (by decide +kernel) rfl (hE _)
  · replace hf := ite_n c3 hf
    refine sd_aload_n (k := 0) (i := 0) (q := 0) (pc' := 10) (by decide +kernel) rfl rfl ?_
    refine sF_gr (idx := 81) (ci := 12) (k := 35) (n := 47) (r := 150) (pc' := 13) (by decide +kernel) fl_X12_81 (by decide +kernel) rfl SH_126 (by decide) (by decide +kernel) ?_
    refine sd_iload_n (k := 1) (i := 1) (q := 1) (pc' := 14) (by decide +kernel) rfl rfl ?_
    obtain ⟨g4, hf⟩ := gd_some hf
    refine sF_iald (n := 3) (pc' := 15) (by decide +kernel) SH_150 g4 ?_
    refine sd_goto (off := 5) (tgt := 20) (pc' := 18) (by decide +kernel) ?_
    obtain rfl := Option.some.inj hf
    exact sd_iret (by decide +kernel) rfl (hE _)

def M_YM_ended : sd_MX := (yX12_ended, cX12_ended, 2, (some .int), { frames := 2, cells := 0, slots := 0, locals := 62 })
def YM_ended (h : sd_H) (a0 : Int32) : Option Int32 :=
  b1 (YM_in a0 0 9) (fun t2 => (if t2 = 0 then some (-2) else (if (h.1 126 37) ≤ a0 then some (-1) else gd (sd_inB a0 10) (some (h.1 151 (a0 : Int32).toNatClampNeg)))))
set_option maxHeartbeats 4000000 in
set_option maxRecDepth 100000 in
theorem T_YM_ended {G : sd_GX} {h : sd_H} {a0 : Int32} {r : Int32} (hf : YM_ended h a0 = some r) : sd_RunF G M_YM_ended [.ref (G.1 + 126), .int a0] h (some (.int r)) h := by
  refine sF_run ⟨rfl, rfl⟩ (by decide +kernel) (Nat.le_of_ble_eq_true rfl) (lo := [(0, .ref (G.1 + 126)), (1, .int a0)]) rfl (fun X hE => ?_)
  unfold YM_ended at hf
  refine sd_iload_n (k := 1) (i := 1) (q := 1) (pc' := 1) (by decide +kernel) rfl rfl ?_
  refine sd_iconst (n := 0) (v := 0) (pc' := 2) (by decide +kernel) (by decide) ?_
  refine sd_bipush (n := 9) (v := 9) (pc' := 4) (by decide +kernel) (by decide) ?_
  obtain ⟨t2, q1, hf⟩ := b1_some hf
  refine sF_callS (idx := 114) (As := [.int a0, .int 0, .int 9]) (pc' := 7) 3 (T_YM_in (G := G) (h := h)  q1) (by decide +kernel) mv_YM_in ml_X12_114 (by decide +kernel) rfl rfl (Nat.le_of_ble_eq_true rfl) rfl ?_
  refine sd_if_ne (off := 8) (tgt := 15) (pc' := 10) (by decide +kernel) (fun c3 => ?_) (fun c3 => ?_)
  · replace hf := ite_n c3 hf
    refine sd_iload_n (k := 1) (i := 1) (q := 1) (pc' := 16) (by decide +kernel) rfl rfl ?_
    refine sd_aload_n (k := 0) (i := 0) (q := 0) (pc' := 17) (by decide +kernel) rfl rfl ?_
    refine sF_gi (idx := 380) (ci := 12) (k := 37) (n := 47) (pc' := 20) (by decide +kernel) fl_X12_380 (by decide +kernel) rfl SH_126 ?_
    refine sd_icmp_ge (off := 12) (tgt := 32) (pc' := 23) (by decide +kernel) (fun c4 => ?_) (fun c4 => ?_)
    · replace hf := ite_p c4 hf
      refine sd_iconst (n := -1) (v := (-1)) (pc' := 33) (by decide +kernel) (by decide) ?_
      obtain rfl := Option.some.inj hf
      exact sd_iret (by decide +kernel) rfl (hE _)
    · replace hf := ite_n c4 hf
      refine sd_aload_n (k := 0) (i := 0) (q := 0) (pc' := 24) (by decide +kernel) rfl rfl ?_
      refine sF_gr (idx := 84) (ci := 12) (k := 36) (n := 47) (r := 151) (pc' := 27) (by decide +kernel) fl_X12_84 (by decide +kernel) rfl SH_126 (by decide) (by decide +kernel) ?_
      refine sd_iload_n (k := 1) (i := 1) (q := 1) (pc' := 28) (by decide +kernel) rfl rfl ?_
      obtain ⟨g5, hf⟩ := gd_some hf
      refine sF_iald (n := 10) (pc' := 29) (by decide +kernel) SH_151 g5 ?_
      refine sd_goto (off := 4) (tgt := 33) (pc' := 32) (by decide +kernel) ?_
      obtain rfl := Option.some.inj hf
      exact sd_iret (by decide +kernel) rfl (hE _)
  · replace hf := ite_p c3 hf
    refine sd_bipush (n := -2) (v := (-2)) (pc' := 12) (by decide +kernel) (by decide) ?_
    refine sd_goto (off := 21) (tgt := 33) (pc' := 15) (by decide +kernel) ?_
    obtain rfl := Option.some.inj hf
    exact sd_iret (by decide +kernel) rfl (hE _)

def M_YM_writer : sd_MX := (yX12_writer, cX12_writer, 4, (some .int), { frames := 3, cells := 0, slots := 0, locals := 84 })
def YM_writer (h : sd_H) (a0 : Int32) (a1 : Int32) : Option (sd_H × Int32) :=
  b1 (YM_isRow a0) (fun t2 => (if t2 = 0 then some (h, (-2)) else b1 (YM_lacks h a0 a1) (fun t5 => (if t5 ≤ 0 then gd (sd_inB ((24 * a0) + a1) 144) (some (h, (h.1 130 (((24 * a0) + a1) : Int32).toNatClampNeg))) else b2 (YM_meets h t5) (fun h9 t10 => some (h9, t10))))))
set_option maxHeartbeats 4000000 in
set_option maxRecDepth 100000 in
theorem T_YM_writer {G : sd_GX} {h : sd_H} {a0 : Int32} {a1 : Int32} {r : (sd_H × Int32)} (hf : YM_writer h a0 a1 = some r) : sd_RunF G M_YM_writer [.ref (G.1 + 126), .int a0, .int a1] h (some (.int r.2)) r.1 := by
  refine sF_run ⟨rfl, rfl⟩ (by decide +kernel) (Nat.le_of_ble_eq_true rfl) (lo := [(0, .ref (G.1 + 126)), (1, .int a0), (2, .int a1)]) rfl (fun X hE => ?_)
  unfold YM_writer at hf
  refine sd_iload_n (k := 1) (i := 1) (q := 1) (pc' := 1) (by decide +kernel) rfl rfl ?_
  obtain ⟨t2, q1, hf⟩ := b1_some hf
  refine sF_callS (idx := 122) (As := [.int a0]) (pc' := 4) 1 (T_YM_isRow (G := G) (h := h)  q1) (by decide +kernel) mv_YM_isRow ml_X12_122 (by decide +kernel) rfl rfl (Nat.le_of_ble_eq_true rfl) rfl ?_
  refine sd_if_ne (off := 6) (tgt := 10) (pc' := 7) (by decide +kernel) (fun c3 => ?_) (fun c3 => ?_)
  · replace hf := ite_n c3 hf
    refine sd_aload_n (k := 0) (i := 0) (q := 0) (pc' := 11) (by decide +kernel) rfl rfl ?_
    refine sd_iload_n (k := 1) (i := 1) (q := 1) (pc' := 12) (by decide +kernel) rfl rfl ?_
    refine sd_iload_n (k := 2) (i := 2) (q := 2) (pc' := 13) (by decide +kernel) rfl rfl ?_
    obtain ⟨t5, q4, hf⟩ := b1_some hf
    refine sF_callV (idx := 144) (b := 126) (As := [.int a0, .int a1]) (ci := 12) (nn := 47) (pc' := 16) 2 (T_YM_lacks (G := G) (h := h)  q4) (by decide +kernel) mv_YM_lacks ml_X12_144 (by decide +kernel) rfl rfl (Nat.le_of_ble_eq_true rfl) SH_126 rfl (by decide) rfl rfl ?_
    refine sd_istore_n (k := 3) (i := 3) (pc' := 17) (lo' := [(3, .int t5), (0, .ref (G.1 + 126)), (1, .int a0), (2, .int a1)]) (by decide +kernel) rfl (by decide) rfl ?_
    refine sd_iload_n (k := 3) (i := 3) (q := 0) (pc' := 18) (by decide +kernel) rfl rfl ?_
    refine sd_if_le (off := 11) (tgt := 29) (pc' := 21) (by decide +kernel) (fun c6 => ?_) (fun c6 => ?_)
    · replace hf := ite_p c6 hf
      refine sd_aload_n (k := 0) (i := 0) (q := 1) (pc' := 30) (by decide +kernel) rfl rfl ?_
      refine sF_gr (idx := 20) (ci := 12) (k := 3) (n := 47) (r := 130) (pc' := 33) (by decide +kernel) fl_X12_20 (by decide +kernel) rfl SH_126 (by decide) (by decide +kernel) ?_
      refine sd_bipush (n := 24) (v := 24) (pc' := 35) (by decide +kernel) (by decide) ?_
      refine sd_iload_n (k := 1) (i := 1) (q := 2) (pc' := 36) (by decide +kernel) rfl rfl ?_
      refine sd_imul (pc' := 37) (by decide +kernel) ?_
      refine sd_iload_n (k := 2) (i := 2) (q := 3) (pc' := 38) (by decide +kernel) rfl rfl ?_
      refine sd_iadd (pc' := 39) (by decide +kernel) ?_
      obtain ⟨g7, hf⟩ := gd_some hf
      refine sF_iald (n := 144) (pc' := 40) (by decide +kernel) SH_130 g7 ?_
      obtain rfl := Option.some.inj hf
      exact sd_iret (by decide +kernel) rfl (hE _)
    · replace hf := ite_n c6 hf
      refine sd_aload_n (k := 0) (i := 0) (q := 1) (pc' := 22) (by decide +kernel) rfl rfl ?_
      refine sd_iload_n (k := 3) (i := 3) (q := 0) (pc' := 23) (by decide +kernel) rfl rfl ?_
      obtain ⟨h9, t10, q8, hf⟩ := b2_some hf
      refine sF_callV (idx := 126) (b := 126) (As := [.int t5]) (ci := 12) (nn := 47) (pc' := 26) 1 (T_YM_meets (G := G) (h := h)  q8) (by decide +kernel) mv_YM_meets ml_X12_126 (by decide +kernel) rfl rfl (Nat.le_of_ble_eq_true rfl) SH_126 rfl (by decide) rfl rfl ?_
      refine sd_goto (off := 14) (tgt := 40) (pc' := 29) (by decide +kernel) ?_
      obtain rfl := Option.some.inj hf
      exact sd_iret (by decide +kernel) rfl (hE _)
  · replace hf := ite_p c3 hf
    refine sd_bipush (n := -2) (v := (-2)) (pc' := 9) (by decide +kernel) (by decide) ?_
    obtain rfl := Option.some.inj hf
    exact sd_iret (by decide +kernel) rfl (hE _)

def M_YM_missing : sd_MX := (yX12_missing, cX12_missing, 3, (some .int), { frames := 1, cells := 0, slots := 0, locals := 40 })
def YM_missing_B26 (h : sd_H) (K4 : Int32 → Int32 → Option Int32) (l2 : Int32) (s0 : Int32) (s1 : Int32) : Option Int32 :=
  K4 (s1 + s0) (l2 + 1)
set_option maxHeartbeats 4000000 in
set_option maxRecDepth 100000 in
theorem J_YM_missing_B26 {G : sd_GX} {X : sd_CX} (hE : ∀ g : sd_H, sd_end G X M_YM_missing (sd_F g)) {h : sd_H} {K4 : Int32 → Int32 → Option Int32} {r : Int32} (hK4 : ∀ (l1 : Int32) (l2 : Int32), K4 l1 l2 = some r → sd_J G X (sd_QR G X M_YM_missing (some (.int r), sd_F h)) M_YM_missing 4 [(0, .ref (G.1 + 126)), (1, .int l1), (2, .int l2)] [] (sd_F h)) {l2 : Int32} {s0 : Int32} {s1 : Int32} (hf : YM_missing_B26 h K4 l2 s0 s1 = some r) : sd_J G X (sd_QR G X M_YM_missing (some (.int r), sd_F h)) M_YM_missing 26 [(0, .ref (G.1 + 126)), (2, .int l2)] [.int s0, .int s1] (sd_F h) := by
  unfold YM_missing_B26 at hf
  refine sd_iadd (pc' := 27) (by decide +kernel) ?_
  refine sd_istore_n (k := 1) (i := 1) (pc' := 28) (lo' := [(1, .int (s1 + s0)), (0, .ref (G.1 + 126)), (2, .int l2)]) (by decide +kernel) rfl (by decide) rfl ?_
  refine sd_iinc (i := 2) (q := 2) (n := 1) (v := (l2 + 1)) (pc' := 31) (lo' := [(2, .int (l2 + 1)), (1, .int (s1 + s0)), (0, .ref (G.1 + 126))]) (by decide +kernel) rfl rfl (by decide) rfl ?_
  refine sd_goto (off := -27) (tgt := 4) (pc' := 34) (by decide +kernel) ?_
  refine sd_J.sub (lo' := [(0, .ref (G.1 + 126)), (1, .int (s1 + s0)), (2, .int (l2 + 1))]) [2, 1, 0] rfl ?_
  exact hK4 _ _ hf
def YM_missing_L4 (h : sd_H) : Nat → Int32 → Int32 → Option Int32
  | 0, _, _ => none
  | n + 1, l1, l2 =>
  (if 6 ≤ l2 then some l1 else gd (sd_inB l2 6) ((if (h.1 127 (l2 : Int32).toNatClampNeg) = (-1) then YM_missing_B26 h (YM_missing_L4 h n) l2 1 l1 else YM_missing_B26 h (YM_missing_L4 h n) l2 0 l1)))
set_option maxHeartbeats 4000000 in
set_option maxRecDepth 100000 in
theorem J_YM_missing_L4 {G : sd_GX} {X : sd_CX} (hE : ∀ g : sd_H, sd_end G X M_YM_missing (sd_F g)) {h : sd_H} {r : Int32} : ∀ (n : Nat) (l1 : Int32) (l2 : Int32), YM_missing_L4 h n l1 l2 = some r → sd_J G X (sd_QR G X M_YM_missing (some (.int r), sd_F h)) M_YM_missing 4 [(0, .ref (G.1 + 126)), (1, .int l1), (2, .int l2)] [] (sd_F h) := by
  intro n
  induction n with
  | zero =>
    intro l1 l2 hf
    rw [YM_missing_L4] at hf
    cases hf
  | succ n ih =>
    intro l1 l2 hf
    rw [YM_missing_L4] at hf
    refine sd_iload_n (k := 2) (i := 2) (q := 2) (pc' := 5) (by decide +kernel) rfl rfl ?_
    refine sd_bipush (n := 6) (v := 6) (pc' := 7) (by decide +kernel) (by decide) ?_
    refine sd_icmp_ge (off := 27) (tgt := 34) (pc' := 10) (by decide +kernel) (fun c1 => ?_) (fun c1 => ?_)
    · replace hf := ite_p c1 hf
      refine sd_iload_n (k := 1) (i := 1) (q := 1) (pc' := 35) (by decide +kernel) rfl rfl ?_
      obtain rfl := Option.some.inj hf
      exact sd_iret (by decide +kernel) rfl (hE _)
    · replace hf := ite_n c1 hf
      refine sd_iload_n (k := 1) (i := 1) (q := 1) (pc' := 11) (by decide +kernel) rfl rfl ?_
      refine sd_aload_n (k := 0) (i := 0) (q := 0) (pc' := 12) (by decide +kernel) rfl rfl ?_
      refine sF_gr (idx := 7) (ci := 12) (k := 0) (n := 47) (r := 127) (pc' := 15) (by decide +kernel) fl_X12_7 (by decide +kernel) rfl SH_126 (by decide) (by decide +kernel) ?_
      refine sd_iload_n (k := 2) (i := 2) (q := 2) (pc' := 16) (by decide +kernel) rfl rfl ?_
      obtain ⟨g2, hf⟩ := gd_some hf
      refine sF_iald (n := 6) (pc' := 17) (by decide +kernel) SH_127 g2 ?_
      refine sd_iconst (n := -1) (v := (-1)) (pc' := 18) (by decide +kernel) (by decide) ?_
      refine sd_icmp_ne (off := 7) (tgt := 25) (pc' := 21) (by decide +kernel) (fun c3 => ?_) (fun c3 => ?_)
      · replace hf := ite_n c3 hf
        refine sd_iconst (n := 0) (v := 0) (pc' := 26) (by decide +kernel) (by decide) ?_
        refine sd_J.sub (lo' := [(0, .ref (G.1 + 126)), (2, .int l2)]) [0, 2] rfl ?_
        exact J_YM_missing_B26 hE ih hf
      · replace hf := ite_p c3 hf
        refine sd_iconst (n := 1) (v := 1) (pc' := 22) (by decide +kernel) (by decide) ?_
        refine sd_goto (off := 4) (tgt := 26) (pc' := 25) (by decide +kernel) ?_
        refine sd_J.sub (lo' := [(0, .ref (G.1 + 126)), (2, .int l2)]) [0, 2] rfl ?_
        exact J_YM_missing_B26 hE ih hf
def YM_missing (h : sd_H) : Option Int32 :=
  YM_missing_L4 h FU 0 0
set_option maxHeartbeats 4000000 in
set_option maxRecDepth 100000 in
theorem T_YM_missing {G : sd_GX} {h : sd_H} {r : Int32} (hf : YM_missing h = some r) : sd_RunF G M_YM_missing [.ref (G.1 + 126)] h (some (.int r)) h := by
  refine sF_run ⟨rfl, rfl⟩ (by decide +kernel) (Nat.le_of_ble_eq_true rfl) (lo := [(0, .ref (G.1 + 126))]) rfl (fun X hE => ?_)
  unfold YM_missing at hf
  refine sd_iconst (n := 0) (v := 0) (pc' := 1) (by decide +kernel) (by decide) ?_
  refine sd_istore_n (k := 1) (i := 1) (pc' := 2) (lo' := [(1, .int 0), (0, .ref (G.1 + 126))]) (by decide +kernel) rfl (by decide) rfl ?_
  refine sd_iconst (n := 0) (v := 0) (pc' := 3) (by decide +kernel) (by decide) ?_
  refine sd_istore_n (k := 2) (i := 2) (pc' := 4) (lo' := [(2, .int 0), (1, .int 0), (0, .ref (G.1 + 126))]) (by decide +kernel) rfl (by decide) rfl ?_
  refine sd_J.sub (lo' := [(0, .ref (G.1 + 126)), (1, .int 0), (2, .int 0)]) [2, 1, 0] rfl ?_
  exact J_YM_missing_L4 hE _ _ _ hf

theorem ml_X12_420 : Cond.methodLink RX12 420 yX12_missing ∈ sd_tb := sd_mem (i := 1730) (by decide +kernel)
theorem mv_YM_missing : sd_mV M_YM_missing 0 := ⟨sd_mem (i := 1732) (by decide +kernel), sd_mem (i := 103) (by decide +kernel), ⟨sd_mem (i := 1733) (by decide +kernel), sd_mem (i := 119) (by decide +kernel), by decide +kernel, by decide +kernel, by decide +kernel⟩⟩
def M_YM_count : sd_MX := (yX12_count, cX12_count, 2, (some .int), { frames := 11, cells := 0, slots := 0, locals := 269 })
def YM_count (h : sd_H) (a0 : Int32) : Option (sd_H × Int32) :=
  (if a0 = 0 then some (h, (h.1 126 6)) else (if a0 = 1 then some (h, (h.1 126 7)) else (if a0 = 2 then some (h, (h.1 126 18)) else (if a0 = 3 then some (h, (h.1 126 20)) else (if a0 = 4 then b2 (YM_serials h) (fun h3 t4 => (if t4 = 0 then some (h3, 1) else some (h3, 0))) else (if a0 = 5 then b2 (YM_serials h) (fun h7 t8 => some (h7, t8)) else (if a0 = 6 then some (h, (h.1 126 34)) else (if a0 = 7 then b1 (YM_missing h) (fun t10 => some (h, t10)) else (if a0 = 8 then some (h, (h.1 126 4)) else (some (h, (-2))))))))))))
set_option maxHeartbeats 4000000 in
set_option maxRecDepth 100000 in
theorem T_YM_count {G : sd_GX} {h : sd_H} {a0 : Int32} {r : (sd_H × Int32)} (hf : YM_count h a0 = some r) : sd_RunF G M_YM_count [.ref (G.1 + 126), .int a0] h (some (.int r.2)) r.1 := by
  refine sF_run ⟨rfl, rfl⟩ (by decide +kernel) (Nat.le_of_ble_eq_true rfl) (lo := [(0, .ref (G.1 + 126)), (1, .int a0)]) rfl (fun X hE => ?_)
  unfold YM_count at hf
  refine sd_iload_n (k := 1) (i := 1) (q := 1) (pc' := 1) (by decide +kernel) rfl rfl ?_
  by_cases c1_0 : a0 = 0
  · replace hf := ite_p c1_0 hf
    refine sd_tswIn (dflt := 104) (lo0 := 0) (hi0 := 8) (offs := #[51, 56, 61, 66, 71, 84, 89, 94, 99]) (len := 51) (off := 51) (tgt := 52) (pc' := 52) (by decide +kernel) (by rw [c1_0]; decide) (by rw [c1_0]; decide) (by rw [c1_0]; decide) ?_
    refine sd_aload_n (k := 0) (i := 0) (q := 0) (pc' := 53) (by decide +kernel) rfl rfl ?_
    refine sF_gi (idx := 154) (ci := 12) (k := 6) (n := 47) (pc' := 56) (by decide +kernel) fl_X12_154 (by decide +kernel) rfl SH_126 ?_
    obtain rfl := Option.some.inj hf
    exact sd_iret (by decide +kernel) rfl (hE _)
  · replace hf := ite_n c1_0 hf
    by_cases c1_1 : a0 = 1
    · replace hf := ite_p c1_1 hf
      refine sd_tswIn (dflt := 104) (lo0 := 0) (hi0 := 8) (offs := #[51, 56, 61, 66, 71, 84, 89, 94, 99]) (len := 51) (off := 56) (tgt := 57) (pc' := 52) (by decide +kernel) (by rw [c1_1]; decide) (by rw [c1_1]; decide) (by rw [c1_1]; decide) ?_
      refine sd_aload_n (k := 0) (i := 0) (q := 0) (pc' := 58) (by decide +kernel) rfl rfl ?_
      refine sF_gi (idx := 171) (ci := 12) (k := 7) (n := 47) (pc' := 61) (by decide +kernel) fl_X12_171 (by decide +kernel) rfl SH_126 ?_
      obtain rfl := Option.some.inj hf
      exact sd_iret (by decide +kernel) rfl (hE _)
    · replace hf := ite_n c1_1 hf
      by_cases c1_2 : a0 = 2
      · replace hf := ite_p c1_2 hf
        refine sd_tswIn (dflt := 104) (lo0 := 0) (hi0 := 8) (offs := #[51, 56, 61, 66, 71, 84, 89, 94, 99]) (len := 51) (off := 61) (tgt := 62) (pc' := 52) (by decide +kernel) (by rw [c1_2]; decide) (by rw [c1_2]; decide) (by rw [c1_2]; decide) ?_
        refine sd_aload_n (k := 0) (i := 0) (q := 0) (pc' := 63) (by decide +kernel) rfl rfl ?_
        refine sF_gi (idx := 151) (ci := 12) (k := 18) (n := 47) (pc' := 66) (by decide +kernel) fl_X12_151 (by decide +kernel) rfl SH_126 ?_
        obtain rfl := Option.some.inj hf
        exact sd_iret (by decide +kernel) rfl (hE _)
      · replace hf := ite_n c1_2 hf
        by_cases c1_3 : a0 = 3
        · replace hf := ite_p c1_3 hf
          refine sd_tswIn (dflt := 104) (lo0 := 0) (hi0 := 8) (offs := #[51, 56, 61, 66, 71, 84, 89, 94, 99]) (len := 51) (off := 66) (tgt := 67) (pc' := 52) (by decide +kernel) (by rw [c1_3]; decide) (by rw [c1_3]; decide) (by rw [c1_3]; decide) ?_
          refine sd_aload_n (k := 0) (i := 0) (q := 0) (pc' := 68) (by decide +kernel) rfl rfl ?_
          refine sF_gi (idx := 161) (ci := 12) (k := 20) (n := 47) (pc' := 71) (by decide +kernel) fl_X12_161 (by decide +kernel) rfl SH_126 ?_
          obtain rfl := Option.some.inj hf
          exact sd_iret (by decide +kernel) rfl (hE _)
        · replace hf := ite_n c1_3 hf
          by_cases c1_4 : a0 = 4
          · replace hf := ite_p c1_4 hf
            refine sd_tswIn (dflt := 104) (lo0 := 0) (hi0 := 8) (offs := #[51, 56, 61, 66, 71, 84, 89, 94, 99]) (len := 51) (off := 71) (tgt := 72) (pc' := 52) (by decide +kernel) (by rw [c1_4]; decide) (by rw [c1_4]; decide) (by rw [c1_4]; decide) ?_
            refine sd_aload_n (k := 0) (i := 0) (q := 0) (pc' := 73) (by decide +kernel) rfl rfl ?_
            obtain ⟨h3, t4, q2, hf⟩ := b2_some hf
            refine sF_callV (idx := 407) (b := 126) (As := []) (ci := 12) (nn := 47) (pc' := 76) 0 (T_YM_serials (G := G) (h := h)  q2) (by decide +kernel) mv_YM_serials ml_X12_407 (by decide +kernel) rfl rfl (Nat.le_of_ble_eq_true rfl) SH_126 rfl (by decide) rfl rfl ?_
            refine sd_if_ne (off := 7) (tgt := 83) (pc' := 79) (by decide +kernel) (fun c5 => ?_) (fun c5 => ?_)
            · replace hf := ite_n c5 hf
              refine sd_iconst (n := 0) (v := 0) (pc' := 84) (by decide +kernel) (by decide) ?_
              obtain rfl := Option.some.inj hf
              exact sd_iret (by decide +kernel) rfl (hE _)
            · replace hf := ite_p c5 hf
              refine sd_iconst (n := 1) (v := 1) (pc' := 80) (by decide +kernel) (by decide) ?_
              refine sd_goto (off := 4) (tgt := 84) (pc' := 83) (by decide +kernel) ?_
              obtain rfl := Option.some.inj hf
              exact sd_iret (by decide +kernel) rfl (hE _)
          · replace hf := ite_n c1_4 hf
            by_cases c1_5 : a0 = 5
            · replace hf := ite_p c1_5 hf
              refine sd_tswIn (dflt := 104) (lo0 := 0) (hi0 := 8) (offs := #[51, 56, 61, 66, 71, 84, 89, 94, 99]) (len := 51) (off := 84) (tgt := 85) (pc' := 52) (by decide +kernel) (by rw [c1_5]; decide) (by rw [c1_5]; decide) (by rw [c1_5]; decide) ?_
              refine sd_aload_n (k := 0) (i := 0) (q := 0) (pc' := 86) (by decide +kernel) rfl rfl ?_
              obtain ⟨h7, t8, q6, hf⟩ := b2_some hf
              refine sF_callV (idx := 407) (b := 126) (As := []) (ci := 12) (nn := 47) (pc' := 89) 0 (T_YM_serials (G := G) (h := h)  q6) (by decide +kernel) mv_YM_serials ml_X12_407 (by decide +kernel) rfl rfl (Nat.le_of_ble_eq_true rfl) SH_126 rfl (by decide) rfl rfl ?_
              obtain rfl := Option.some.inj hf
              exact sd_iret (by decide +kernel) rfl (hE _)
            · replace hf := ite_n c1_5 hf
              by_cases c1_6 : a0 = 6
              · replace hf := ite_p c1_6 hf
                refine sd_tswIn (dflt := 104) (lo0 := 0) (hi0 := 8) (offs := #[51, 56, 61, 66, 71, 84, 89, 94, 99]) (len := 51) (off := 89) (tgt := 90) (pc' := 52) (by decide +kernel) (by rw [c1_6]; decide) (by rw [c1_6]; decide) (by rw [c1_6]; decide) ?_
                refine sd_aload_n (k := 0) (i := 0) (q := 0) (pc' := 91) (by decide +kernel) rfl rfl ?_
                refine sF_gi (idx := 377) (ci := 12) (k := 34) (n := 47) (pc' := 94) (by decide +kernel) fl_X12_377 (by decide +kernel) rfl SH_126 ?_
                obtain rfl := Option.some.inj hf
                exact sd_iret (by decide +kernel) rfl (hE _)
              · replace hf := ite_n c1_6 hf
                by_cases c1_7 : a0 = 7
                · replace hf := ite_p c1_7 hf
                  refine sd_tswIn (dflt := 104) (lo0 := 0) (hi0 := 8) (offs := #[51, 56, 61, 66, 71, 84, 89, 94, 99]) (len := 51) (off := 94) (tgt := 95) (pc' := 52) (by decide +kernel) (by rw [c1_7]; decide) (by rw [c1_7]; decide) (by rw [c1_7]; decide) ?_
                  refine sd_aload_n (k := 0) (i := 0) (q := 0) (pc' := 96) (by decide +kernel) rfl rfl ?_
                  obtain ⟨t10, q9, hf⟩ := b1_some hf
                  refine sF_callV (idx := 420) (b := 126) (As := []) (ci := 12) (nn := 47) (pc' := 99) 0 (T_YM_missing (G := G) (h := h)  q9) (by decide +kernel) mv_YM_missing ml_X12_420 (by decide +kernel) rfl rfl (Nat.le_of_ble_eq_true rfl) SH_126 rfl (by decide) rfl rfl ?_
                  obtain rfl := Option.some.inj hf
                  exact sd_iret (by decide +kernel) rfl (hE _)
                · replace hf := ite_n c1_7 hf
                  by_cases c1_8 : a0 = 8
                  · replace hf := ite_p c1_8 hf
                    refine sd_tswIn (dflt := 104) (lo0 := 0) (hi0 := 8) (offs := #[51, 56, 61, 66, 71, 84, 89, 94, 99]) (len := 51) (off := 99) (tgt := 100) (pc' := 52) (by decide +kernel) (by rw [c1_8]; decide) (by rw [c1_8]; decide) (by rw [c1_8]; decide) ?_
                    refine sd_aload_n (k := 0) (i := 0) (q := 0) (pc' := 101) (by decide +kernel) rfl rfl ?_
                    refine sF_gi (idx := 110) (ci := 12) (k := 4) (n := 47) (pc' := 104) (by decide +kernel) fl_X12_110 (by decide +kernel) rfl SH_126 ?_
                    obtain rfl := Option.some.inj hf
                    exact sd_iret (by decide +kernel) rfl (hE _)
                  · replace hf := ite_n c1_8 hf
                    have nc1_0 := ne_ti c1_0 (n := 0) (by decide)
                    have nc1_1 := ne_ti c1_1 (n := 1) (by decide)
                    have nc1_2 := ne_ti c1_2 (n := 2) (by decide)
                    have nc1_3 := ne_ti c1_3 (n := 3) (by decide)
                    have nc1_4 := ne_ti c1_4 (n := 4) (by decide)
                    have nc1_5 := ne_ti c1_5 (n := 5) (by decide)
                    have nc1_6 := ne_ti c1_6 (n := 6) (by decide)
                    have nc1_7 := ne_ti c1_7 (n := 7) (by decide)
                    have nc1_8 := ne_ti c1_8 (n := 8) (by decide)
                    refine sd_tswOut (dflt := 104) (lo0 := 0) (hi0 := 8) (offs := #[51, 56, 61, 66, 71, 84, 89, 94, 99]) (len := 51) (tgt := 105) (pc' := 52) (by decide +kernel) (by omega) ?_
                    refine sd_bipush (n := -2) (v := (-2)) (pc' := 107) (by decide +kernel) (by decide) ?_
                    obtain rfl := Option.some.inj hf
                    exact sd_iret (by decide +kernel) rfl (hE _)

def M_YM_statementDigest : sd_MX := (yX12_statementDigest, cX12_statementDigest, 8, (some .long), { frames := 6, cells := 0, slots := 0, locals := 158 })
def YM_statementDigest_L145 : Nat → sd_H → Int32 → Int64 → Int32 → Option (sd_H × Int64)
  | 0, _, _, _, _ => none
  | n + 1, h, l3, l4, l6 =>
  (if 6 ≤ l6 then some (h, l4) else b2 (YM_findsKinds h l3 l6) (fun h5 t6 => YM_statementDigest_L145 n h5 l3 ((31 * l4) + (Int32.toInt64 t6)) (l6 + 1)))
set_option maxHeartbeats 4000000 in
set_option maxRecDepth 100000 in
theorem J_YM_statementDigest_L145 {G : sd_GX} {X : sd_CX} (hE : ∀ g : sd_H, sd_end G X M_YM_statementDigest (sd_F g))  {r : (sd_H × Int64)} : ∀ (n : Nat) (h : sd_H) (l3 : Int32) (l4 : Int64) (l6 : Int32), YM_statementDigest_L145 n h l3 l4 l6 = some r → sd_J G X (sd_QR G X M_YM_statementDigest (some (.long r.2), sd_F r.1)) M_YM_statementDigest 145 [(0, .ref (G.1 + 126)), (3, .int l3), (4, .long l4), (6, .int l6)] [] (sd_F h) := by
  intro n
  induction n with
  | zero =>
    intro h l3 l4 l6 hf
    rw [YM_statementDigest_L145] at hf
    cases hf
  | succ n ih =>
    intro h l3 l4 l6 hf
    rw [YM_statementDigest_L145] at hf
    refine sd_iload (i := 6) (q := 3) (pc' := 147) (by decide +kernel) rfl ?_
    refine sd_bipush (n := 6) (v := 6) (pc' := 149) (by decide +kernel) (by decide) ?_
    refine sd_icmp_ge (off := 26) (tgt := 175) (pc' := 152) (by decide +kernel) (fun c3 => ?_) (fun c3 => ?_)
    · replace hf := ite_p c3 hf
      refine sd_lload (i := 4) (q := 2) (pc' := 177) (by decide +kernel) rfl ?_
      obtain rfl := Option.some.inj hf
      exact sd_lret (by decide +kernel) rfl (hE _)
    · replace hf := ite_n c3 hf
      refine sd_ldc2 (idx := 423) (v := 31) (pc' := 155) (by decide +kernel) (sd_mem (i := 1739) (by decide +kernel)) ?_
      refine sd_lload (i := 4) (q := 2) (pc' := 157) (by decide +kernel) rfl ?_
      refine sd_lmul (pc' := 158) (by decide +kernel) ?_
      refine sd_aload_n (k := 0) (i := 0) (q := 0) (pc' := 159) (by decide +kernel) rfl rfl ?_
      refine sd_iload_n (k := 3) (i := 3) (q := 1) (pc' := 160) (by decide +kernel) rfl rfl ?_
      refine sd_iload (i := 6) (q := 3) (pc' := 162) (by decide +kernel) rfl ?_
      obtain ⟨h5, t6, q4, hf⟩ := b2_some hf
      refine sF_callV (idx := 239) (b := 126) (As := [.int l3, .int l6]) (ci := 12) (nn := 47) (pc' := 165) 2 (T_YM_findsKinds (G := G) (h := h)  q4) (by decide +kernel) mv_YM_findsKinds ml_X12_239 (by decide +kernel) rfl rfl (Nat.le_of_ble_eq_true rfl) SH_126 rfl (by decide) rfl rfl ?_
      refine sd_i2l (pc' := 166) (by decide +kernel) rfl ?_
      refine sd_ladd (pc' := 167) (by decide +kernel) ?_
      refine sd_lstore (i := 4) (pc' := 169) (lo' := [(4, .long ((31 * l4) + (Int32.toInt64 t6))), (0, .ref (G.1 + 126)), (3, .int l3), (6, .int l6)]) (by decide +kernel) (by decide) rfl ?_
      refine sd_iinc (i := 6) (q := 3) (n := 1) (v := (l6 + 1)) (pc' := 172) (lo' := [(6, .int (l6 + 1)), (4, .long ((31 * l4) + (Int32.toInt64 t6))), (0, .ref (G.1 + 126)), (3, .int l3)]) (by decide +kernel) rfl rfl (by decide) rfl ?_
      refine sd_goto (off := -27) (tgt := 145) (pc' := 175) (by decide +kernel) ?_
      refine sd_J.sub (lo' := [(0, .ref (G.1 + 126)), (3, .int l3), (4, .long ((31 * l4) + (Int32.toInt64 t6))), (6, .int (l6 + 1))]) [2, 3, 1, 0] rfl ?_
      exact ih _ _ _ _ hf
def YM_statementDigest_B136 (h : sd_H) (K41 : sd_H → Int32 → Int64 → Int32 → Option (sd_H × Int64)) (l3 : Int32) (l4 : Int64) (l6 : Int32) : Option (sd_H × Int64) :=
  K41 h l3 l4 (l6 + 1)
set_option maxHeartbeats 4000000 in
set_option maxRecDepth 100000 in
theorem J_YM_statementDigest_B136 {G : sd_GX} {X : sd_CX} (hE : ∀ g : sd_H, sd_end G X M_YM_statementDigest (sd_F g)) {h : sd_H} {K41 : sd_H → Int32 → Int64 → Int32 → Option (sd_H × Int64)} {r : (sd_H × Int64)} (hK41 : ∀ (g : sd_H) (l3 : Int32) (l4 : Int64) (l6 : Int32), K41 g l3 l4 l6 = some r → sd_J G X (sd_QR G X M_YM_statementDigest (some (.long r.2), sd_F r.1)) M_YM_statementDigest 41 [(0, .ref (G.1 + 126)), (3, .int l3), (4, .long l4), (6, .int l6)] [] (sd_F g)) {l3 : Int32} {l4 : Int64} {l6 : Int32} (hf : YM_statementDigest_B136 h K41 l3 l4 l6 = some r) : sd_J G X (sd_QR G X M_YM_statementDigest (some (.long r.2), sd_F r.1)) M_YM_statementDigest 136 [(0, .ref (G.1 + 126)), (3, .int l3), (4, .long l4), (6, .int l6)] [] (sd_F h) := by
  unfold YM_statementDigest_B136 at hf
  refine sd_iinc (i := 6) (q := 3) (n := 1) (v := (l6 + 1)) (pc' := 139) (lo' := [(6, .int (l6 + 1)), (0, .ref (G.1 + 126)), (3, .int l3), (4, .long l4)]) (by decide +kernel) rfl rfl (by decide) rfl ?_
  refine sd_goto (off := -98) (tgt := 41) (pc' := 142) (by decide +kernel) ?_
  refine sd_J.sub (lo' := [(0, .ref (G.1 + 126)), (3, .int l3), (4, .long l4), (6, .int (l6 + 1))]) [1, 2, 3, 0] rfl ?_
  exact hK41 _ _ _ _ hf
def YM_statementDigest_L87 (K41 : sd_H → Int32 → Int64 → Int32 → Option (sd_H × Int64)) : Nat → sd_H → Int32 → Int64 → Int32 → Int32 → Option (sd_H × Int64)
  | 0, _, _, _, _, _ => none
  | n + 1, h, l3, l4, l6, l7 =>
  (if 3 ≤ l7 then YM_statementDigest_B136 h K41 l3 l4 l6 else gd (sd_inB l6 15) ((if (h.1 137 (l6 : Int32).toNatClampNeg) = (-1) then YM_statementDigest_B136 h K41 l3 l4 l6 else (if (h.1 126 6) ≤ 0 then YM_statementDigest_B136 h K41 l3 l4 l6 else b1 (YM_sectionOf h l6 0 l7) (fun t13 => YM_statementDigest_L87 K41 n h l3 ((31 * l4) + (Int32.toInt64 t13)) l6 (l7 + 1))))))
set_option maxHeartbeats 4000000 in
set_option maxRecDepth 100000 in
theorem J_YM_statementDigest_L87 {G : sd_GX} {X : sd_CX} (hE : ∀ g : sd_H, sd_end G X M_YM_statementDigest (sd_F g))  {K41 : sd_H → Int32 → Int64 → Int32 → Option (sd_H × Int64)} {r : (sd_H × Int64)} (hK41 : ∀ (g : sd_H) (l3 : Int32) (l4 : Int64) (l6 : Int32), K41 g l3 l4 l6 = some r → sd_J G X (sd_QR G X M_YM_statementDigest (some (.long r.2), sd_F r.1)) M_YM_statementDigest 41 [(0, .ref (G.1 + 126)), (3, .int l3), (4, .long l4), (6, .int l6)] [] (sd_F g)) : ∀ (n : Nat) (h : sd_H) (l3 : Int32) (l4 : Int64) (l6 : Int32) (l7 : Int32), YM_statementDigest_L87 K41 n h l3 l4 l6 l7 = some r → sd_J G X (sd_QR G X M_YM_statementDigest (some (.long r.2), sd_F r.1)) M_YM_statementDigest 87 [(0, .ref (G.1 + 126)), (3, .int l3), (4, .long l4), (6, .int l6), (7, .int l7)] [] (sd_F h) := by
  intro n
  induction n with
  | zero =>
    intro h l3 l4 l6 l7 hf
    rw [YM_statementDigest_L87] at hf
    cases hf
  | succ n ih =>
    intro h l3 l4 l6 l7 hf
    rw [YM_statementDigest_L87] at hf
    refine sd_iload (i := 7) (q := 4) (pc' := 89) (by decide +kernel) rfl ?_
    refine sd_iconst (n := 3) (v := 3) (pc' := 90) (by decide +kernel) (by decide) ?_
    refine sd_icmp_ge (off := 46) (tgt := 136) (pc' := 93) (by decide +kernel) (fun c8 => ?_) (fun c8 => ?_)
    · replace hf := ite_p c8 hf
      refine sd_J.sub (lo' := [(0, .ref (G.1 + 126)), (3, .int l3), (4, .long l4), (6, .int l6)]) [0, 1, 2, 3] rfl ?_
      exact J_YM_statementDigest_B136 hE hK41 hf
    · replace hf := ite_n c8 hf
      refine sd_aload_n (k := 0) (i := 0) (q := 0) (pc' := 94) (by decide +kernel) rfl rfl ?_
      refine sF_gr (idx := 41) (ci := 12) (k := 13) (n := 47) (r := 137) (pc' := 97) (by decide +kernel) fl_X12_41 (by decide +kernel) rfl SH_126 (by decide) (by decide +kernel) ?_
      refine sd_iload (i := 6) (q := 3) (pc' := 99) (by decide +kernel) rfl ?_
      obtain ⟨g9, hf⟩ := gd_some hf
      refine sF_iald (n := 15) (pc' := 100) (by decide +kernel) SH_137 g9 ?_
      refine sd_iconst (n := -1) (v := (-1)) (pc' := 101) (by decide +kernel) (by decide) ?_
      refine sd_icmp_eq (off := 35) (tgt := 136) (pc' := 104) (by decide +kernel) (fun c10 => ?_) (fun c10 => ?_)
      · replace hf := ite_p c10 hf
        refine sd_J.sub (lo' := [(0, .ref (G.1 + 126)), (3, .int l3), (4, .long l4), (6, .int l6)]) [0, 1, 2, 3] rfl ?_
        exact J_YM_statementDigest_B136 hE hK41 hf
      · replace hf := ite_n c10 hf
        refine sd_aload_n (k := 0) (i := 0) (q := 0) (pc' := 105) (by decide +kernel) rfl rfl ?_
        refine sF_gi (idx := 154) (ci := 12) (k := 6) (n := 47) (pc' := 108) (by decide +kernel) fl_X12_154 (by decide +kernel) rfl SH_126 ?_
        refine sd_if_le (off := 28) (tgt := 136) (pc' := 111) (by decide +kernel) (fun c11 => ?_) (fun c11 => ?_)
        · replace hf := ite_p c11 hf
          refine sd_J.sub (lo' := [(0, .ref (G.1 + 126)), (3, .int l3), (4, .long l4), (6, .int l6)]) [0, 1, 2, 3] rfl ?_
          exact J_YM_statementDigest_B136 hE hK41 hf
        · replace hf := ite_n c11 hf
          refine sd_ldc2 (idx := 423) (v := 31) (pc' := 114) (by decide +kernel) (sd_mem (i := 1739) (by decide +kernel)) ?_
          refine sd_lload (i := 4) (q := 2) (pc' := 116) (by decide +kernel) rfl ?_
          refine sd_lmul (pc' := 117) (by decide +kernel) ?_
          refine sd_aload_n (k := 0) (i := 0) (q := 0) (pc' := 118) (by decide +kernel) rfl rfl ?_
          refine sd_iload (i := 6) (q := 3) (pc' := 120) (by decide +kernel) rfl ?_
          refine sd_iconst (n := 0) (v := 0) (pc' := 121) (by decide +kernel) (by decide) ?_
          refine sd_iload (i := 7) (q := 4) (pc' := 123) (by decide +kernel) rfl ?_
          obtain ⟨t13, q12, hf⟩ := b1_some hf
          refine sF_callV (idx := 215) (b := 126) (As := [.int l6, .int 0, .int l7]) (ci := 12) (nn := 47) (pc' := 126) 3 (T_YM_sectionOf (G := G) (h := h)  q12) (by decide +kernel) mv_YM_sectionOf ml_X12_215 (by decide +kernel) rfl rfl (Nat.le_of_ble_eq_true rfl) SH_126 rfl (by decide) rfl rfl ?_
          refine sd_i2l (pc' := 127) (by decide +kernel) rfl ?_
          refine sd_ladd (pc' := 128) (by decide +kernel) ?_
          refine sd_lstore (i := 4) (pc' := 130) (lo' := [(4, .long ((31 * l4) + (Int32.toInt64 t13))), (0, .ref (G.1 + 126)), (3, .int l3), (6, .int l6), (7, .int l7)]) (by decide +kernel) (by decide) rfl ?_
          refine sd_iinc (i := 7) (q := 4) (n := 1) (v := (l7 + 1)) (pc' := 133) (lo' := [(7, .int (l7 + 1)), (4, .long ((31 * l4) + (Int32.toInt64 t13))), (0, .ref (G.1 + 126)), (3, .int l3), (6, .int l6)]) (by decide +kernel) rfl rfl (by decide) rfl ?_
          refine sd_goto (off := -46) (tgt := 87) (pc' := 136) (by decide +kernel) ?_
          refine sd_J.sub (lo' := [(0, .ref (G.1 + 126)), (3, .int l3), (4, .long ((31 * l4) + (Int32.toInt64 t13))), (6, .int l6), (7, .int (l7 + 1))]) [2, 3, 1, 4, 0] rfl ?_
          exact ih _ _ _ _ _ hf
def YM_statementDigest_L54 (K41 : sd_H → Int32 → Int64 → Int32 → Option (sd_H × Int64)) : Nat → sd_H → Int32 → Int64 → Int32 → Int32 → Option (sd_H × Int64)
  | 0, _, _, _, _, _ => none
  | n + 1, h, l3, l4, l6, l7 =>
  (if 4 ≤ l7 then YM_statementDigest_L87 K41 FU h l3 l4 l6 0 else b1 (YM_referenceOf h l6 l7) (fun t15 => YM_statementDigest_L54 K41 n h l3 ((31 * l4) + (Int32.toInt64 t15)) l6 (l7 + 1)))
set_option maxHeartbeats 4000000 in
set_option maxRecDepth 100000 in
theorem J_YM_statementDigest_L54 {G : sd_GX} {X : sd_CX} (hE : ∀ g : sd_H, sd_end G X M_YM_statementDigest (sd_F g))  {K41 : sd_H → Int32 → Int64 → Int32 → Option (sd_H × Int64)} {r : (sd_H × Int64)} (hK41 : ∀ (g : sd_H) (l3 : Int32) (l4 : Int64) (l6 : Int32), K41 g l3 l4 l6 = some r → sd_J G X (sd_QR G X M_YM_statementDigest (some (.long r.2), sd_F r.1)) M_YM_statementDigest 41 [(0, .ref (G.1 + 126)), (3, .int l3), (4, .long l4), (6, .int l6)] [] (sd_F g)) : ∀ (n : Nat) (h : sd_H) (l3 : Int32) (l4 : Int64) (l6 : Int32) (l7 : Int32), YM_statementDigest_L54 K41 n h l3 l4 l6 l7 = some r → sd_J G X (sd_QR G X M_YM_statementDigest (some (.long r.2), sd_F r.1)) M_YM_statementDigest 54 [(0, .ref (G.1 + 126)), (3, .int l3), (4, .long l4), (6, .int l6), (7, .int l7)] [] (sd_F h) := by
  intro n
  induction n with
  | zero =>
    intro h l3 l4 l6 l7 hf
    rw [YM_statementDigest_L54] at hf
    cases hf
  | succ n ih =>
    intro h l3 l4 l6 l7 hf
    rw [YM_statementDigest_L54] at hf
    refine sd_iload (i := 7) (q := 4) (pc' := 56) (by decide +kernel) rfl ?_
    refine sd_iconst (n := 4) (v := 4) (pc' := 57) (by decide +kernel) (by decide) ?_
    refine sd_icmp_ge (off := 27) (tgt := 84) (pc' := 60) (by decide +kernel) (fun c7 => ?_) (fun c7 => ?_)
    · replace hf := ite_p c7 hf
      refine sd_iconst (n := 0) (v := 0) (pc' := 85) (by decide +kernel) (by decide) ?_
      refine sd_istore (i := 7) (pc' := 87) (lo' := [(7, .int 0), (0, .ref (G.1 + 126)), (3, .int l3), (4, .long l4), (6, .int l6)]) (by decide +kernel) (by decide) rfl ?_
      refine sd_J.sub (lo' := [(0, .ref (G.1 + 126)), (3, .int l3), (4, .long l4), (6, .int l6), (7, .int 0)]) [1, 2, 3, 4, 0] rfl ?_
      exact J_YM_statementDigest_L87 hE hK41 _ _ _ _ _ _ hf
    · replace hf := ite_n c7 hf
      refine sd_ldc2 (idx := 423) (v := 31) (pc' := 63) (by decide +kernel) (sd_mem (i := 1739) (by decide +kernel)) ?_
      refine sd_lload (i := 4) (q := 2) (pc' := 65) (by decide +kernel) rfl ?_
      refine sd_lmul (pc' := 66) (by decide +kernel) ?_
      refine sd_aload_n (k := 0) (i := 0) (q := 0) (pc' := 67) (by decide +kernel) rfl rfl ?_
      refine sd_iload (i := 6) (q := 3) (pc' := 69) (by decide +kernel) rfl ?_
      refine sd_iload (i := 7) (q := 4) (pc' := 71) (by decide +kernel) rfl ?_
      obtain ⟨t15, q14, hf⟩ := b1_some hf
      refine sF_callV (idx := 197) (b := 126) (As := [.int l6, .int l7]) (ci := 12) (nn := 47) (pc' := 74) 2 (T_YM_referenceOf (G := G) (h := h)  q14) (by decide +kernel) mv_YM_referenceOf ml_X12_197 (by decide +kernel) rfl rfl (Nat.le_of_ble_eq_true rfl) SH_126 rfl (by decide) rfl rfl ?_
      refine sd_i2l (pc' := 75) (by decide +kernel) rfl ?_
      refine sd_ladd (pc' := 76) (by decide +kernel) ?_
      refine sd_lstore (i := 4) (pc' := 78) (lo' := [(4, .long ((31 * l4) + (Int32.toInt64 t15))), (0, .ref (G.1 + 126)), (3, .int l3), (6, .int l6), (7, .int l7)]) (by decide +kernel) (by decide) rfl ?_
      refine sd_iinc (i := 7) (q := 4) (n := 1) (v := (l7 + 1)) (pc' := 81) (lo' := [(7, .int (l7 + 1)), (4, .long ((31 * l4) + (Int32.toInt64 t15))), (0, .ref (G.1 + 126)), (3, .int l3), (6, .int l6)]) (by decide +kernel) rfl rfl (by decide) rfl ?_
      refine sd_goto (off := -27) (tgt := 54) (pc' := 84) (by decide +kernel) ?_
      refine sd_J.sub (lo' := [(0, .ref (G.1 + 126)), (3, .int l3), (4, .long ((31 * l4) + (Int32.toInt64 t15))), (6, .int l6), (7, .int (l7 + 1))]) [2, 3, 1, 4, 0] rfl ?_
      exact ih _ _ _ _ _ hf
def YM_statementDigest_L41 : Nat → sd_H → Int32 → Int64 → Int32 → Option (sd_H × Int64)
  | 0, _, _, _, _ => none
  | n + 1, h, l3, l4, l6 =>
  (if ((3 * l3) + 3) ≤ l6 then YM_statementDigest_L145 FU h l3 l4 0 else YM_statementDigest_L54 (YM_statementDigest_L41 n) FU h l3 l4 l6 0)
set_option maxHeartbeats 4000000 in
set_option maxRecDepth 100000 in
theorem J_YM_statementDigest_L41 {G : sd_GX} {X : sd_CX} (hE : ∀ g : sd_H, sd_end G X M_YM_statementDigest (sd_F g))  {r : (sd_H × Int64)} : ∀ (n : Nat) (h : sd_H) (l3 : Int32) (l4 : Int64) (l6 : Int32), YM_statementDigest_L41 n h l3 l4 l6 = some r → sd_J G X (sd_QR G X M_YM_statementDigest (some (.long r.2), sd_F r.1)) M_YM_statementDigest 41 [(0, .ref (G.1 + 126)), (3, .int l3), (4, .long l4), (6, .int l6)] [] (sd_F h) := by
  intro n
  induction n with
  | zero =>
    intro h l3 l4 l6 hf
    rw [YM_statementDigest_L41] at hf
    cases hf
  | succ n ih =>
    intro h l3 l4 l6 hf
    rw [YM_statementDigest_L41] at hf
    refine sd_iload (i := 6) (q := 3) (pc' := 43) (by decide +kernel) rfl ?_
    refine sd_iconst (n := 3) (v := 3) (pc' := 44) (by decide +kernel) (by decide) ?_
    refine sd_iload_n (k := 3) (i := 3) (q := 1) (pc' := 45) (by decide +kernel) rfl rfl ?_
    refine sd_imul (pc' := 46) (by decide +kernel) ?_
    refine sd_iconst (n := 3) (v := 3) (pc' := 47) (by decide +kernel) (by decide) ?_
    refine sd_iadd (pc' := 48) (by decide +kernel) ?_
    refine sd_icmp_ge (off := 94) (tgt := 142) (pc' := 51) (by decide +kernel) (fun c2 => ?_) (fun c2 => ?_)
    · replace hf := ite_p c2 hf
      refine sd_iconst (n := 0) (v := 0) (pc' := 143) (by decide +kernel) (by decide) ?_
      refine sd_istore (i := 6) (pc' := 145) (lo' := [(6, .int 0), (0, .ref (G.1 + 126)), (3, .int l3), (4, .long l4)]) (by decide +kernel) (by decide) rfl ?_
      refine sd_J.sub (lo' := [(0, .ref (G.1 + 126)), (3, .int l3), (4, .long l4), (6, .int 0)]) [1, 2, 3, 0] rfl ?_
      exact J_YM_statementDigest_L145 hE _ _ _ _ _ hf
    · replace hf := ite_n c2 hf
      refine sd_iconst (n := 0) (v := 0) (pc' := 52) (by decide +kernel) (by decide) ?_
      refine sd_istore (i := 7) (pc' := 54) (lo' := [(7, .int 0), (0, .ref (G.1 + 126)), (3, .int l3), (4, .long l4), (6, .int l6)]) (by decide +kernel) (by decide) rfl ?_
      refine sd_J.sub (lo' := [(0, .ref (G.1 + 126)), (3, .int l3), (4, .long l4), (6, .int l6), (7, .int 0)]) [1, 2, 3, 4, 0] rfl ?_
      exact J_YM_statementDigest_L54 hE ih _ _ _ _ _ _ hf
def YM_statementDigest_L6 : Nat → sd_H → Int32 → Int64 → Int32 → Option (sd_H × Int64)
  | 0, _, _, _, _ => none
  | n + 1, h, l3, l4, l6 =>
  (if 7 ≤ l6 then YM_statementDigest_L41 FU h l3 l4 (3 * l3) else b1 (YM_infoOf h l3 l6) (fun t17 => YM_statementDigest_L6 n h l3 ((31 * l4) + (Int32.toInt64 t17)) (l6 + 1)))
set_option maxHeartbeats 4000000 in
set_option maxRecDepth 100000 in
theorem J_YM_statementDigest_L6 {G : sd_GX} {X : sd_CX} (hE : ∀ g : sd_H, sd_end G X M_YM_statementDigest (sd_F g))  {r : (sd_H × Int64)} : ∀ (n : Nat) (h : sd_H) (l3 : Int32) (l4 : Int64) (l6 : Int32), YM_statementDigest_L6 n h l3 l4 l6 = some r → sd_J G X (sd_QR G X M_YM_statementDigest (some (.long r.2), sd_F r.1)) M_YM_statementDigest 6 [(0, .ref (G.1 + 126)), (3, .int l3), (4, .long l4), (6, .int l6)] [] (sd_F h) := by
  intro n
  induction n with
  | zero =>
    intro h l3 l4 l6 hf
    rw [YM_statementDigest_L6] at hf
    cases hf
  | succ n ih =>
    intro h l3 l4 l6 hf
    rw [YM_statementDigest_L6] at hf
    refine sd_iload (i := 6) (q := 3) (pc' := 8) (by decide +kernel) rfl ?_
    refine sd_bipush (n := 7) (v := 7) (pc' := 10) (by decide +kernel) (by decide) ?_
    refine sd_icmp_ge (off := 26) (tgt := 36) (pc' := 13) (by decide +kernel) (fun c1 => ?_) (fun c1 => ?_)
    · replace hf := ite_p c1 hf
      refine sd_iconst (n := 3) (v := 3) (pc' := 37) (by decide +kernel) (by decide) ?_
      refine sd_iload_n (k := 3) (i := 3) (q := 1) (pc' := 38) (by decide +kernel) rfl rfl ?_
      refine sd_imul (pc' := 39) (by decide +kernel) ?_
      refine sd_istore (i := 6) (pc' := 41) (lo' := [(6, .int (3 * l3)), (0, .ref (G.1 + 126)), (3, .int l3), (4, .long l4)]) (by decide +kernel) (by decide) rfl ?_
      refine sd_J.sub (lo' := [(0, .ref (G.1 + 126)), (3, .int l3), (4, .long l4), (6, .int (3 * l3))]) [1, 2, 3, 0] rfl ?_
      exact J_YM_statementDigest_L41 hE _ _ _ _ _ hf
    · replace hf := ite_n c1 hf
      refine sd_ldc2 (idx := 423) (v := 31) (pc' := 16) (by decide +kernel) (sd_mem (i := 1739) (by decide +kernel)) ?_
      refine sd_lload (i := 4) (q := 2) (pc' := 18) (by decide +kernel) rfl ?_
      refine sd_lmul (pc' := 19) (by decide +kernel) ?_
      refine sd_aload_n (k := 0) (i := 0) (q := 0) (pc' := 20) (by decide +kernel) rfl rfl ?_
      refine sd_iload_n (k := 3) (i := 3) (q := 1) (pc' := 21) (by decide +kernel) rfl rfl ?_
      refine sd_iload (i := 6) (q := 3) (pc' := 23) (by decide +kernel) rfl ?_
      obtain ⟨t17, q16, hf⟩ := b1_some hf
      refine sF_callV (idx := 194) (b := 126) (As := [.int l3, .int l6]) (ci := 12) (nn := 47) (pc' := 26) 2 (T_YM_infoOf (G := G) (h := h)  q16) (by decide +kernel) mv_YM_infoOf ml_X12_194 (by decide +kernel) rfl rfl (Nat.le_of_ble_eq_true rfl) SH_126 rfl (by decide) rfl rfl ?_
      refine sd_i2l (pc' := 27) (by decide +kernel) rfl ?_
      refine sd_ladd (pc' := 28) (by decide +kernel) ?_
      refine sd_lstore (i := 4) (pc' := 30) (lo' := [(4, .long ((31 * l4) + (Int32.toInt64 t17))), (0, .ref (G.1 + 126)), (3, .int l3), (6, .int l6)]) (by decide +kernel) (by decide) rfl ?_
      refine sd_iinc (i := 6) (q := 3) (n := 1) (v := (l6 + 1)) (pc' := 33) (lo' := [(6, .int (l6 + 1)), (4, .long ((31 * l4) + (Int32.toInt64 t17))), (0, .ref (G.1 + 126)), (3, .int l3)]) (by decide +kernel) rfl rfl (by decide) rfl ?_
      refine sd_goto (off := -27) (tgt := 6) (pc' := 36) (by decide +kernel) ?_
      refine sd_J.sub (lo' := [(0, .ref (G.1 + 126)), (3, .int l3), (4, .long ((31 * l4) + (Int32.toInt64 t17))), (6, .int (l6 + 1))]) [2, 3, 1, 0] rfl ?_
      exact ih _ _ _ _ hf
def YM_statementDigest (h : sd_H) (a0 : Int64) (a1 : Int32) : Option (sd_H × Int64) :=
  YM_statementDigest_L6 FU h a1 a0 0
set_option maxHeartbeats 4000000 in
set_option maxRecDepth 100000 in
theorem T_YM_statementDigest {G : sd_GX} {h : sd_H} {a0 : Int64} {a1 : Int32} {r : (sd_H × Int64)} (hf : YM_statementDigest h a0 a1 = some r) : sd_RunF G M_YM_statementDigest [.ref (G.1 + 126), .long a0, .int a1] h (some (.long r.2)) r.1 := by
  refine sF_run ⟨rfl, rfl⟩ (by decide +kernel) (Nat.le_of_ble_eq_true rfl) (lo := [(0, .ref (G.1 + 126)), (1, .long a0), (3, .int a1)]) rfl (fun X hE => ?_)
  unfold YM_statementDigest at hf
  refine sd_lload_n (k := 1) (i := 1) (q := 1) (pc' := 1) (by decide +kernel) rfl rfl ?_
  refine sd_lstore (i := 4) (pc' := 3) (lo' := [(4, .long a0), (0, .ref (G.1 + 126)), (1, .long a0), (3, .int a1)]) (by decide +kernel) (by decide) rfl ?_
  refine sd_iconst (n := 0) (v := 0) (pc' := 4) (by decide +kernel) (by decide) ?_
  refine sd_istore (i := 6) (pc' := 6) (lo' := [(6, .int 0), (4, .long a0), (0, .ref (G.1 + 126)), (1, .long a0), (3, .int a1)]) (by decide +kernel) (by decide) rfl ?_
  refine sd_J.sub (lo' := [(0, .ref (G.1 + 126)), (3, .int a1), (4, .long a0), (6, .int 0)]) [2, 4, 1, 0] rfl ?_
  exact J_YM_statementDigest_L6 hE _ _ _ _ _ hf

def M_YM_rowDigest : sd_MX := (yX12_rowDigest, cX12_rowDigest, 9, (some .long), { frames := 10, cells := 0, slots := 0, locals := 247 })
def YM_rowDigest_L99 (K49 : sd_H → Int32 → Int64 → Int32 → Option (sd_H × Int64)) : Nat → sd_H → Int32 → Int64 → Int32 → Int32 → Option (sd_H × Int64)
  | 0, _, _, _, _, _ => none
  | n + 1, h, l3, l4, l6, l8 =>
  (if (h.1 126 6) ≤ l8 then K49 h l3 l4 (l6 + 1) else b1 (YM_bitsOfTurn h l6 l3 l8) (fun t16 => b1 (YM_size t16) (fun t18 => YM_rowDigest_L99 K49 n h l3 ((31 * l4) + (Int32.toInt64 t18)) l6 (l8 + 1))))
set_option maxHeartbeats 4000000 in
set_option maxRecDepth 100000 in
theorem J_YM_rowDigest_L99 {G : sd_GX} {X : sd_CX} (hE : ∀ g : sd_H, sd_end G X M_YM_rowDigest (sd_F g))  {K49 : sd_H → Int32 → Int64 → Int32 → Option (sd_H × Int64)} {r : (sd_H × Int64)} (hK49 : ∀ (g : sd_H) (l3 : Int32) (l4 : Int64) (l6 : Int32), K49 g l3 l4 l6 = some r → sd_J G X (sd_QR G X M_YM_rowDigest (some (.long r.2), sd_F r.1)) M_YM_rowDigest 49 [(0, .ref (G.1 + 126)), (3, .int l3), (4, .long l4), (6, .int l6)] [] (sd_F g)) : ∀ (n : Nat) (h : sd_H) (l3 : Int32) (l4 : Int64) (l6 : Int32) (l8 : Int32), YM_rowDigest_L99 K49 n h l3 l4 l6 l8 = some r → sd_J G X (sd_QR G X M_YM_rowDigest (some (.long r.2), sd_F r.1)) M_YM_rowDigest 99 [(0, .ref (G.1 + 126)), (3, .int l3), (4, .long l4), (6, .int l6), (8, .int l8)] [] (sd_F h) := by
  intro n
  induction n with
  | zero =>
    intro h l3 l4 l6 l8 hf
    rw [YM_rowDigest_L99] at hf
    cases hf
  | succ n ih =>
    intro h l3 l4 l6 l8 hf
    rw [YM_rowDigest_L99] at hf
    refine sd_iload (i := 8) (q := 4) (pc' := 101) (by decide +kernel) rfl ?_
    refine sd_aload_n (k := 0) (i := 0) (q := 0) (pc' := 102) (by decide +kernel) rfl rfl ?_
    refine sF_gi (idx := 154) (ci := 12) (k := 6) (n := 47) (pc' := 105) (by decide +kernel) fl_X12_154 (by decide +kernel) rfl SH_126 ?_
    refine sd_icmp_ge (off := 31) (tgt := 136) (pc' := 108) (by decide +kernel) (fun c14 => ?_) (fun c14 => ?_)
    · replace hf := ite_p c14 hf
      refine sd_iinc (i := 6) (q := 3) (n := 1) (v := (l6 + 1)) (pc' := 139) (lo' := [(6, .int (l6 + 1)), (0, .ref (G.1 + 126)), (3, .int l3), (4, .long l4), (8, .int l8)]) (by decide +kernel) rfl rfl (by decide) rfl ?_
      refine sd_goto (off := -90) (tgt := 49) (pc' := 142) (by decide +kernel) ?_
      refine sd_J.sub (lo' := [(0, .ref (G.1 + 126)), (3, .int l3), (4, .long l4), (6, .int (l6 + 1))]) [1, 2, 3, 0] rfl ?_
      exact hK49 _ _ _ _ hf
    · replace hf := ite_n c14 hf
      refine sd_ldc2 (idx := 423) (v := 31) (pc' := 111) (by decide +kernel) (sd_mem (i := 1739) (by decide +kernel)) ?_
      refine sd_lload (i := 4) (q := 2) (pc' := 113) (by decide +kernel) rfl ?_
      refine sd_lmul (pc' := 114) (by decide +kernel) ?_
      refine sd_aload_n (k := 0) (i := 0) (q := 0) (pc' := 115) (by decide +kernel) rfl rfl ?_
      refine sd_iload (i := 6) (q := 3) (pc' := 117) (by decide +kernel) rfl ?_
      refine sd_iload_n (k := 3) (i := 3) (q := 1) (pc' := 118) (by decide +kernel) rfl rfl ?_
      refine sd_iload (i := 8) (q := 4) (pc' := 120) (by decide +kernel) rfl ?_
      obtain ⟨t16, q15, hf⟩ := b1_some hf
      refine sF_callV (idx := 262) (b := 126) (As := [.int l6, .int l3, .int l8]) (ci := 12) (nn := 47) (pc' := 123) 3 (T_YM_bitsOfTurn (G := G) (h := h)  q15) (by decide +kernel) mv_YM_bitsOfTurn ml_X12_262 (by decide +kernel) rfl rfl (Nat.le_of_ble_eq_true rfl) SH_126 rfl (by decide) rfl rfl ?_
      obtain ⟨t18, q17, hf⟩ := b1_some hf
      refine sF_callS (idx := 271) (As := [.int t16]) (pc' := 126) 1 (T_YM_size (G := G) (h := h)  q17) (by decide +kernel) mv_YM_size ml_X12_271 (by decide +kernel) rfl rfl (Nat.le_of_ble_eq_true rfl) rfl ?_
      refine sd_i2l (pc' := 127) (by decide +kernel) rfl ?_
      refine sd_ladd (pc' := 128) (by decide +kernel) ?_
      refine sd_lstore (i := 4) (pc' := 130) (lo' := [(4, .long ((31 * l4) + (Int32.toInt64 t18))), (0, .ref (G.1 + 126)), (3, .int l3), (6, .int l6), (8, .int l8)]) (by decide +kernel) (by decide) rfl ?_
      refine sd_iinc (i := 8) (q := 4) (n := 1) (v := (l8 + 1)) (pc' := 133) (lo' := [(8, .int (l8 + 1)), (4, .long ((31 * l4) + (Int32.toInt64 t18))), (0, .ref (G.1 + 126)), (3, .int l3), (6, .int l6)]) (by decide +kernel) rfl rfl (by decide) rfl ?_
      refine sd_goto (off := -34) (tgt := 99) (pc' := 136) (by decide +kernel) ?_
      refine sd_J.sub (lo' := [(0, .ref (G.1 + 126)), (3, .int l3), (4, .long ((31 * l4) + (Int32.toInt64 t18))), (6, .int l6), (8, .int (l8 + 1))]) [2, 3, 1, 4, 0] rfl ?_
      exact ih _ _ _ _ _ hf
def YM_rowDigest_L49 : Nat → sd_H → Int32 → Int64 → Int32 → Option (sd_H × Int64)
  | 0, _, _, _, _ => none
  | n + 1, h, l3, l4, l6 =>
  (if 4 ≤ l6 then some (h, l4) else b2 (YM_bitsOfSet h l6 l3 (-1)) (fun h7 t8 => b1 (YM_size t8) (fun t10 => b2 (YM_piecesOf h7 t8) (fun h12 t13 => YM_rowDigest_L99 (YM_rowDigest_L49 n) FU h12 l3 ((31 * ((31 * l4) + (Int32.toInt64 t10))) + (Int32.toInt64 t13)) l6 0))))
set_option maxHeartbeats 4000000 in
set_option maxRecDepth 100000 in
theorem J_YM_rowDigest_L49 {G : sd_GX} {X : sd_CX} (hE : ∀ g : sd_H, sd_end G X M_YM_rowDigest (sd_F g))  {r : (sd_H × Int64)} : ∀ (n : Nat) (h : sd_H) (l3 : Int32) (l4 : Int64) (l6 : Int32), YM_rowDigest_L49 n h l3 l4 l6 = some r → sd_J G X (sd_QR G X M_YM_rowDigest (some (.long r.2), sd_F r.1)) M_YM_rowDigest 49 [(0, .ref (G.1 + 126)), (3, .int l3), (4, .long l4), (6, .int l6)] [] (sd_F h) := by
  intro n
  induction n with
  | zero =>
    intro h l3 l4 l6 hf
    rw [YM_rowDigest_L49] at hf
    cases hf
  | succ n ih =>
    intro h l3 l4 l6 hf
    rw [YM_rowDigest_L49] at hf
    refine sd_iload (i := 6) (q := 3) (pc' := 51) (by decide +kernel) rfl ?_
    refine sd_iconst (n := 4) (v := 4) (pc' := 52) (by decide +kernel) (by decide) ?_
    refine sd_icmp_ge (off := 90) (tgt := 142) (pc' := 55) (by decide +kernel) (fun c5 => ?_) (fun c5 => ?_)
    · replace hf := ite_p c5 hf
      refine sd_lload (i := 4) (q := 2) (pc' := 144) (by decide +kernel) rfl ?_
      obtain rfl := Option.some.inj hf
      exact sd_lret (by decide +kernel) rfl (hE _)
    · replace hf := ite_n c5 hf
      refine sd_aload_n (k := 0) (i := 0) (q := 0) (pc' := 56) (by decide +kernel) rfl rfl ?_
      refine sd_iload (i := 6) (q := 3) (pc' := 58) (by decide +kernel) rfl ?_
      refine sd_iload_n (k := 3) (i := 3) (q := 1) (pc' := 59) (by decide +kernel) rfl rfl ?_
      refine sd_iconst (n := -1) (v := (-1)) (pc' := 60) (by decide +kernel) (by decide) ?_
      obtain ⟨h7, t8, q6, hf⟩ := b2_some hf
      refine sF_callV (idx := 268) (b := 126) (As := [.int l6, .int l3, .int (-1)]) (ci := 12) (nn := 47) (pc' := 63) 3 (T_YM_bitsOfSet (G := G) (h := h)  q6) (by decide +kernel) mv_YM_bitsOfSet ml_X12_268 (by decide +kernel) rfl rfl (Nat.le_of_ble_eq_true rfl) SH_126 rfl (by decide) rfl rfl ?_
      refine sd_istore (i := 7) (pc' := 65) (lo' := [(7, .int t8), (0, .ref (G.1 + 126)), (3, .int l3), (4, .long l4), (6, .int l6)]) (by decide +kernel) (by decide) rfl ?_
      refine sd_ldc2 (idx := 423) (v := 31) (pc' := 68) (by decide +kernel) (sd_mem (i := 1739) (by decide +kernel)) ?_
      refine sd_lload (i := 4) (q := 3) (pc' := 70) (by decide +kernel) rfl ?_
      refine sd_lmul (pc' := 71) (by decide +kernel) ?_
      refine sd_iload (i := 7) (q := 0) (pc' := 73) (by decide +kernel) rfl ?_
      obtain ⟨t10, q9, hf⟩ := b1_some hf
      refine sF_callS (idx := 271) (As := [.int t8]) (pc' := 76) 1 (T_YM_size (G := G) (h := h7)  q9) (by decide +kernel) mv_YM_size ml_X12_271 (by decide +kernel) rfl rfl (Nat.le_of_ble_eq_true rfl) rfl ?_
      refine sd_i2l (pc' := 77) (by decide +kernel) rfl ?_
      refine sd_ladd (pc' := 78) (by decide +kernel) ?_
      refine sd_lstore (i := 4) (pc' := 80) (lo' := [(4, .long ((31 * l4) + (Int32.toInt64 t10))), (7, .int t8), (0, .ref (G.1 + 126)), (3, .int l3), (6, .int l6)]) (by decide +kernel) (by decide) rfl ?_
      refine sd_ldc2 (idx := 423) (v := 31) (pc' := 83) (by decide +kernel) (sd_mem (i := 1739) (by decide +kernel)) ?_
      refine sd_lload (i := 4) (q := 0) (pc' := 85) (by decide +kernel) rfl ?_
      refine sd_lmul (pc' := 86) (by decide +kernel) ?_
      refine sd_aload_n (k := 0) (i := 0) (q := 2) (pc' := 87) (by decide +kernel) rfl rfl ?_
      refine sd_iload (i := 7) (q := 1) (pc' := 89) (by decide +kernel) rfl ?_
      obtain ⟨h12, t13, q11, hf⟩ := b2_some hf
      refine sF_callV (idx := 289) (b := 126) (As := [.int t8]) (ci := 12) (nn := 47) (pc' := 92) 1 (T_YM_piecesOf (G := G) (h := h7)  q11) (by decide +kernel) mv_YM_piecesOf ml_X12_289 (by decide +kernel) rfl rfl (Nat.le_of_ble_eq_true rfl) SH_126 rfl (by decide) rfl rfl ?_
      refine sd_i2l (pc' := 93) (by decide +kernel) rfl ?_
      refine sd_ladd (pc' := 94) (by decide +kernel) ?_
      refine sd_lstore (i := 4) (pc' := 96) (lo' := [(4, .long ((31 * ((31 * l4) + (Int32.toInt64 t10))) + (Int32.toInt64 t13))), (7, .int t8), (0, .ref (G.1 + 126)), (3, .int l3), (6, .int l6)]) (by decide +kernel) (by decide) rfl ?_
      refine sd_iconst (n := 0) (v := 0) (pc' := 97) (by decide +kernel) (by decide) ?_
      refine sd_istore (i := 8) (pc' := 99) (lo' := [(8, .int 0), (4, .long ((31 * ((31 * l4) + (Int32.toInt64 t10))) + (Int32.toInt64 t13))), (7, .int t8), (0, .ref (G.1 + 126)), (3, .int l3), (6, .int l6)]) (by decide +kernel) (by decide) rfl ?_
      refine sd_J.sub (lo' := [(0, .ref (G.1 + 126)), (3, .int l3), (4, .long ((31 * ((31 * l4) + (Int32.toInt64 t10))) + (Int32.toInt64 t13))), (6, .int l6), (8, .int 0)]) [3, 4, 1, 5, 0] rfl ?_
      exact J_YM_rowDigest_L99 hE ih _ _ _ _ _ _ hf
def YM_rowDigest_L17 : Nat → sd_H → Int32 → Int64 → Int32 → Option (sd_H × Int64)
  | 0, _, _, _, _ => none
  | n + 1, h, l3, l4, l6 =>
  (if 3 ≤ l6 then YM_rowDigest_L49 FU h l3 l4 0 else b2 (YM_witnessOf h l3 l6) (fun h20 t21 => YM_rowDigest_L17 n h20 l3 ((31 * l4) + (Int32.toInt64 t21)) (l6 + 1)))
set_option maxHeartbeats 4000000 in
set_option maxRecDepth 100000 in
theorem J_YM_rowDigest_L17 {G : sd_GX} {X : sd_CX} (hE : ∀ g : sd_H, sd_end G X M_YM_rowDigest (sd_F g))  {r : (sd_H × Int64)} : ∀ (n : Nat) (h : sd_H) (l3 : Int32) (l4 : Int64) (l6 : Int32), YM_rowDigest_L17 n h l3 l4 l6 = some r → sd_J G X (sd_QR G X M_YM_rowDigest (some (.long r.2), sd_F r.1)) M_YM_rowDigest 17 [(0, .ref (G.1 + 126)), (3, .int l3), (4, .long l4), (6, .int l6)] [] (sd_F h) := by
  intro n
  induction n with
  | zero =>
    intro h l3 l4 l6 hf
    rw [YM_rowDigest_L17] at hf
    cases hf
  | succ n ih =>
    intro h l3 l4 l6 hf
    rw [YM_rowDigest_L17] at hf
    refine sd_iload (i := 6) (q := 3) (pc' := 19) (by decide +kernel) rfl ?_
    refine sd_iconst (n := 3) (v := 3) (pc' := 20) (by decide +kernel) (by decide) ?_
    refine sd_icmp_ge (off := 26) (tgt := 46) (pc' := 23) (by decide +kernel) (fun c4 => ?_) (fun c4 => ?_)
    · replace hf := ite_p c4 hf
      refine sd_iconst (n := 0) (v := 0) (pc' := 47) (by decide +kernel) (by decide) ?_
      refine sd_istore (i := 6) (pc' := 49) (lo' := [(6, .int 0), (0, .ref (G.1 + 126)), (3, .int l3), (4, .long l4)]) (by decide +kernel) (by decide) rfl ?_
      refine sd_J.sub (lo' := [(0, .ref (G.1 + 126)), (3, .int l3), (4, .long l4), (6, .int 0)]) [1, 2, 3, 0] rfl ?_
      exact J_YM_rowDigest_L49 hE _ _ _ _ _ hf
    · replace hf := ite_n c4 hf
      refine sd_ldc2 (idx := 423) (v := 31) (pc' := 26) (by decide +kernel) (sd_mem (i := 1739) (by decide +kernel)) ?_
      refine sd_lload (i := 4) (q := 2) (pc' := 28) (by decide +kernel) rfl ?_
      refine sd_lmul (pc' := 29) (by decide +kernel) ?_
      refine sd_aload_n (k := 0) (i := 0) (q := 0) (pc' := 30) (by decide +kernel) rfl rfl ?_
      refine sd_iload_n (k := 3) (i := 3) (q := 1) (pc' := 31) (by decide +kernel) rfl rfl ?_
      refine sd_iload (i := 6) (q := 3) (pc' := 33) (by decide +kernel) rfl ?_
      obtain ⟨h20, t21, q19, hf⟩ := b2_some hf
      refine sF_callV (idx := 316) (b := 126) (As := [.int l3, .int l6]) (ci := 12) (nn := 47) (pc' := 36) 2 (T_YM_witnessOf (G := G) (h := h)  q19) (by decide +kernel) mv_YM_witnessOf ml_X12_316 (by decide +kernel) rfl rfl (Nat.le_of_ble_eq_true rfl) SH_126 rfl (by decide) rfl rfl ?_
      refine sd_i2l (pc' := 37) (by decide +kernel) rfl ?_
      refine sd_ladd (pc' := 38) (by decide +kernel) ?_
      refine sd_lstore (i := 4) (pc' := 40) (lo' := [(4, .long ((31 * l4) + (Int32.toInt64 t21))), (0, .ref (G.1 + 126)), (3, .int l3), (6, .int l6)]) (by decide +kernel) (by decide) rfl ?_
      refine sd_iinc (i := 6) (q := 3) (n := 1) (v := (l6 + 1)) (pc' := 43) (lo' := [(6, .int (l6 + 1)), (4, .long ((31 * l4) + (Int32.toInt64 t21))), (0, .ref (G.1 + 126)), (3, .int l3)]) (by decide +kernel) rfl rfl (by decide) rfl ?_
      refine sd_goto (off := -26) (tgt := 17) (pc' := 46) (by decide +kernel) ?_
      refine sd_J.sub (lo' := [(0, .ref (G.1 + 126)), (3, .int l3), (4, .long ((31 * l4) + (Int32.toInt64 t21))), (6, .int (l6 + 1))]) [2, 3, 1, 0] rfl ?_
      exact ih _ _ _ _ hf
def YM_rowDigest (h : sd_H) (a0 : Int64) (a1 : Int32) : Option (sd_H × Int64) :=
  b2 (YM_verdictOf h a1) (fun h2 t3 => YM_rowDigest_L17 FU h2 a1 ((31 * a0) + (Int32.toInt64 t3)) 0)
set_option maxHeartbeats 4000000 in
set_option maxRecDepth 100000 in
theorem T_YM_rowDigest {G : sd_GX} {h : sd_H} {a0 : Int64} {a1 : Int32} {r : (sd_H × Int64)} (hf : YM_rowDigest h a0 a1 = some r) : sd_RunF G M_YM_rowDigest [.ref (G.1 + 126), .long a0, .int a1] h (some (.long r.2)) r.1 := by
  refine sF_run ⟨rfl, rfl⟩ (by decide +kernel) (Nat.le_of_ble_eq_true rfl) (lo := [(0, .ref (G.1 + 126)), (1, .long a0), (3, .int a1)]) rfl (fun X hE => ?_)
  unfold YM_rowDigest at hf
  refine sd_ldc2 (idx := 423) (v := 31) (pc' := 3) (by decide +kernel) (sd_mem (i := 1739) (by decide +kernel)) ?_
  refine sd_lload_n (k := 1) (i := 1) (q := 1) (pc' := 4) (by decide +kernel) rfl rfl ?_
  refine sd_lmul (pc' := 5) (by decide +kernel) ?_
  refine sd_aload_n (k := 0) (i := 0) (q := 0) (pc' := 6) (by decide +kernel) rfl rfl ?_
  refine sd_iload_n (k := 3) (i := 3) (q := 2) (pc' := 7) (by decide +kernel) rfl rfl ?_
  obtain ⟨h2, t3, q1, hf⟩ := b2_some hf
  refine sF_callV (idx := 313) (b := 126) (As := [.int a1]) (ci := 12) (nn := 47) (pc' := 10) 1 (T_YM_verdictOf (G := G) (h := h)  q1) (by decide +kernel) mv_YM_verdictOf ml_X12_313 (by decide +kernel) rfl rfl (Nat.le_of_ble_eq_true rfl) SH_126 rfl (by decide) rfl rfl ?_
  refine sd_i2l (pc' := 11) (by decide +kernel) rfl ?_
  refine sd_ladd (pc' := 12) (by decide +kernel) ?_
  refine sd_lstore (i := 4) (pc' := 14) (lo' := [(4, .long ((31 * a0) + (Int32.toInt64 t3))), (0, .ref (G.1 + 126)), (1, .long a0), (3, .int a1)]) (by decide +kernel) (by decide) rfl ?_
  refine sd_iconst (n := 0) (v := 0) (pc' := 15) (by decide +kernel) (by decide) ?_
  refine sd_istore (i := 6) (pc' := 17) (lo' := [(6, .int 0), (4, .long ((31 * a0) + (Int32.toInt64 t3))), (0, .ref (G.1 + 126)), (1, .long a0), (3, .int a1)]) (by decide +kernel) (by decide) rfl ?_
  refine sd_J.sub (lo' := [(0, .ref (G.1 + 126)), (3, .int a1), (4, .long ((31 * a0) + (Int32.toInt64 t3))), (6, .int 0)]) [2, 4, 1, 0] rfl ?_
  exact J_YM_rowDigest_L17 hE _ _ _ _ _ hf

def M_YM_cellsDigest : sd_MX := (yX12_cellsDigest, cX12_cellsDigest, 7, (some .long), { frames := 9, cells := 0, slots := 0, locals := 228 })
def YM_cellsDigest_L6 : Nat → sd_H → Int32 → Int64 → Int32 → Option (sd_H × Int64)
  | 0, _, _, _, _ => none
  | n + 1, h, l3, l4, l6 =>
  gd (sd_inB l3 6) ((if (h.1 128 (l3 : Int32).toNatClampNeg) ≤ l6 then some (h, l4) else gd (sd_inB l3 6) ((if (h.1 127 (l3 : Int32).toNatClampNeg) = (-1) then some (h, l4) else b1 (YM_toldOf h ((24 * l3) + l6)) (fun t6 => gd (sd_inB ((24 * l3) + l6) 144) (b2 (YM_lastOf h 1 l3 l6) (fun h9 t10 => b2 (YM_lastOf h9 2 l3 l6) (fun h12 t13 => YM_cellsDigest_L6 n h12 l3 ((31 * ((31 * ((31 * ((31 * l4) + t6)) + (Int32.toInt64 (h.1 130 (((24 * l3) + l6) : Int32).toNatClampNeg)))) + (Int32.toInt64 t10))) + (Int32.toInt64 t13)) (l6 + 1)))))))))
set_option maxHeartbeats 4000000 in
set_option maxRecDepth 100000 in
theorem J_YM_cellsDigest_L6 {G : sd_GX} {X : sd_CX} (hE : ∀ g : sd_H, sd_end G X M_YM_cellsDigest (sd_F g))  {r : (sd_H × Int64)} : ∀ (n : Nat) (h : sd_H) (l3 : Int32) (l4 : Int64) (l6 : Int32), YM_cellsDigest_L6 n h l3 l4 l6 = some r → sd_J G X (sd_QR G X M_YM_cellsDigest (some (.long r.2), sd_F r.1)) M_YM_cellsDigest 6 [(0, .ref (G.1 + 126)), (3, .int l3), (4, .long l4), (6, .int l6)] [] (sd_F h) := by
  intro n
  induction n with
  | zero =>
    intro h l3 l4 l6 hf
    rw [YM_cellsDigest_L6] at hf
    cases hf
  | succ n ih =>
    intro h l3 l4 l6 hf
    rw [YM_cellsDigest_L6] at hf
    refine sd_iload (i := 6) (q := 3) (pc' := 8) (by decide +kernel) rfl ?_
    refine sd_aload_n (k := 0) (i := 0) (q := 0) (pc' := 9) (by decide +kernel) rfl rfl ?_
    refine sF_gr (idx := 13) (ci := 12) (k := 1) (n := 47) (r := 128) (pc' := 12) (by decide +kernel) fl_X12_13 (by decide +kernel) rfl SH_126 (by decide) (by decide +kernel) ?_
    refine sd_iload_n (k := 3) (i := 3) (q := 1) (pc' := 13) (by decide +kernel) rfl rfl ?_
    obtain ⟨g1, hf⟩ := gd_some hf
    refine sF_iald (n := 6) (pc' := 14) (by decide +kernel) SH_128 g1 ?_
    refine sd_icmp_ge (off := 97) (tgt := 111) (pc' := 17) (by decide +kernel) (fun c2 => ?_) (fun c2 => ?_)
    · replace hf := ite_p c2 hf
      refine sd_lload (i := 4) (q := 2) (pc' := 113) (by decide +kernel) rfl ?_
      obtain rfl := Option.some.inj hf
      exact sd_lret (by decide +kernel) rfl (hE _)
    · replace hf := ite_n c2 hf
      refine sd_aload_n (k := 0) (i := 0) (q := 0) (pc' := 18) (by decide +kernel) rfl rfl ?_
      refine sF_gr (idx := 7) (ci := 12) (k := 0) (n := 47) (r := 127) (pc' := 21) (by decide +kernel) fl_X12_7 (by decide +kernel) rfl SH_126 (by decide) (by decide +kernel) ?_
      refine sd_iload_n (k := 3) (i := 3) (q := 1) (pc' := 22) (by decide +kernel) rfl rfl ?_
      obtain ⟨g3, hf⟩ := gd_some hf
      refine sF_iald (n := 6) (pc' := 23) (by decide +kernel) SH_127 g3 ?_
      refine sd_iconst (n := -1) (v := (-1)) (pc' := 24) (by decide +kernel) (by decide) ?_
      refine sd_icmp_eq (off := 87) (tgt := 111) (pc' := 27) (by decide +kernel) (fun c4 => ?_) (fun c4 => ?_)
      · replace hf := ite_p c4 hf
        refine sd_lload (i := 4) (q := 2) (pc' := 113) (by decide +kernel) rfl ?_
        obtain rfl := Option.some.inj hf
        exact sd_lret (by decide +kernel) rfl (hE _)
      · replace hf := ite_n c4 hf
        refine sd_ldc2 (idx := 423) (v := 31) (pc' := 30) (by decide +kernel) (sd_mem (i := 1739) (by decide +kernel)) ?_
        refine sd_lload (i := 4) (q := 2) (pc' := 32) (by decide +kernel) rfl ?_
        refine sd_lmul (pc' := 33) (by decide +kernel) ?_
        refine sd_aload_n (k := 0) (i := 0) (q := 0) (pc' := 34) (by decide +kernel) rfl rfl ?_
        refine sd_bipush (n := 24) (v := 24) (pc' := 36) (by decide +kernel) (by decide) ?_
        refine sd_iload_n (k := 3) (i := 3) (q := 1) (pc' := 37) (by decide +kernel) rfl rfl ?_
        refine sd_imul (pc' := 38) (by decide +kernel) ?_
        refine sd_iload (i := 6) (q := 3) (pc' := 40) (by decide +kernel) rfl ?_
        refine sd_iadd (pc' := 41) (by decide +kernel) ?_
        obtain ⟨t6, q5, hf⟩ := b1_some hf
        refine sF_callV (idx := 148) (b := 126) (As := [.int ((24 * l3) + l6)]) (ci := 12) (nn := 47) (pc' := 44) 1 (T_YM_toldOf (G := G) (h := h)  q5) (by decide +kernel) mv_YM_toldOf ml_X12_148 (by decide +kernel) rfl rfl (Nat.le_of_ble_eq_true rfl) SH_126 rfl (by decide) rfl rfl ?_
        refine sd_ladd (pc' := 45) (by decide +kernel) ?_
        refine sd_lstore (i := 4) (pc' := 47) (lo' := [(4, .long ((31 * l4) + t6)), (0, .ref (G.1 + 126)), (3, .int l3), (6, .int l6)]) (by decide +kernel) (by decide) rfl ?_
        refine sd_ldc2 (idx := 423) (v := 31) (pc' := 50) (by decide +kernel) (sd_mem (i := 1739) (by decide +kernel)) ?_
        refine sd_lload (i := 4) (q := 0) (pc' := 52) (by decide +kernel) rfl ?_
        refine sd_lmul (pc' := 53) (by decide +kernel) ?_
        refine sd_aload_n (k := 0) (i := 0) (q := 1) (pc' := 54) (by decide +kernel) rfl rfl ?_
        refine sF_gr (idx := 20) (ci := 12) (k := 3) (n := 47) (r := 130) (pc' := 57) (by decide +kernel) fl_X12_20 (by decide +kernel) rfl SH_126 (by decide) (by decide +kernel) ?_
        refine sd_bipush (n := 24) (v := 24) (pc' := 59) (by decide +kernel) (by decide) ?_
        refine sd_iload_n (k := 3) (i := 3) (q := 2) (pc' := 60) (by decide +kernel) rfl rfl ?_
        refine sd_imul (pc' := 61) (by decide +kernel) ?_
        refine sd_iload (i := 6) (q := 3) (pc' := 63) (by decide +kernel) rfl ?_
        refine sd_iadd (pc' := 64) (by decide +kernel) ?_
        obtain ⟨g7, hf⟩ := gd_some hf
        refine sF_iald (n := 144) (pc' := 65) (by decide +kernel) SH_130 g7 ?_
        refine sd_i2l (pc' := 66) (by decide +kernel) rfl ?_
        refine sd_ladd (pc' := 67) (by decide +kernel) ?_
        refine sd_lstore (i := 4) (pc' := 69) (lo' := [(4, .long ((31 * ((31 * l4) + t6)) + (Int32.toInt64 (h.1 130 (((24 * l3) + l6) : Int32).toNatClampNeg)))), (0, .ref (G.1 + 126)), (3, .int l3), (6, .int l6)]) (by decide +kernel) (by decide) rfl ?_
        refine sd_ldc2 (idx := 423) (v := 31) (pc' := 72) (by decide +kernel) (sd_mem (i := 1739) (by decide +kernel)) ?_
        refine sd_lload (i := 4) (q := 0) (pc' := 74) (by decide +kernel) rfl ?_
        refine sd_lmul (pc' := 75) (by decide +kernel) ?_
        refine sd_aload_n (k := 0) (i := 0) (q := 1) (pc' := 76) (by decide +kernel) rfl rfl ?_
        refine sd_iconst (n := 1) (v := 1) (pc' := 77) (by decide +kernel) (by decide) ?_
        refine sd_iload_n (k := 3) (i := 3) (q := 2) (pc' := 78) (by decide +kernel) rfl rfl ?_
        refine sd_iload (i := 6) (q := 3) (pc' := 80) (by decide +kernel) rfl ?_
        obtain ⟨h9, t10, q8, hf⟩ := b2_some hf
        refine sF_callV (idx := 319) (b := 126) (As := [.int 1, .int l3, .int l6]) (ci := 12) (nn := 47) (pc' := 83) 3 (T_YM_lastOf (G := G) (h := h)  q8) (by decide +kernel) mv_YM_lastOf ml_X12_319 (by decide +kernel) rfl rfl (Nat.le_of_ble_eq_true rfl) SH_126 rfl (by decide) rfl rfl ?_
        refine sd_i2l (pc' := 84) (by decide +kernel) rfl ?_
        refine sd_ladd (pc' := 85) (by decide +kernel) ?_
        refine sd_lstore (i := 4) (pc' := 87) (lo' := [(4, .long ((31 * ((31 * ((31 * l4) + t6)) + (Int32.toInt64 (h.1 130 (((24 * l3) + l6) : Int32).toNatClampNeg)))) + (Int32.toInt64 t10))), (0, .ref (G.1 + 126)), (3, .int l3), (6, .int l6)]) (by decide +kernel) (by decide) rfl ?_
        refine sd_ldc2 (idx := 423) (v := 31) (pc' := 90) (by decide +kernel) (sd_mem (i := 1739) (by decide +kernel)) ?_
        refine sd_lload (i := 4) (q := 0) (pc' := 92) (by decide +kernel) rfl ?_
        refine sd_lmul (pc' := 93) (by decide +kernel) ?_
        refine sd_aload_n (k := 0) (i := 0) (q := 1) (pc' := 94) (by decide +kernel) rfl rfl ?_
        refine sd_iconst (n := 2) (v := 2) (pc' := 95) (by decide +kernel) (by decide) ?_
        refine sd_iload_n (k := 3) (i := 3) (q := 2) (pc' := 96) (by decide +kernel) rfl rfl ?_
        refine sd_iload (i := 6) (q := 3) (pc' := 98) (by decide +kernel) rfl ?_
        obtain ⟨h12, t13, q11, hf⟩ := b2_some hf
        refine sF_callV (idx := 319) (b := 126) (As := [.int 2, .int l3, .int l6]) (ci := 12) (nn := 47) (pc' := 101) 3 (T_YM_lastOf (G := G) (h := h9)  q11) (by decide +kernel) mv_YM_lastOf ml_X12_319 (by decide +kernel) rfl rfl (Nat.le_of_ble_eq_true rfl) SH_126 rfl (by decide) rfl rfl ?_
        refine sd_i2l (pc' := 102) (by decide +kernel) rfl ?_
        refine sd_ladd (pc' := 103) (by decide +kernel) ?_
        refine sd_lstore (i := 4) (pc' := 105) (lo' := [(4, .long ((31 * ((31 * ((31 * ((31 * l4) + t6)) + (Int32.toInt64 (h.1 130 (((24 * l3) + l6) : Int32).toNatClampNeg)))) + (Int32.toInt64 t10))) + (Int32.toInt64 t13))), (0, .ref (G.1 + 126)), (3, .int l3), (6, .int l6)]) (by decide +kernel) (by decide) rfl ?_
        refine sd_iinc (i := 6) (q := 3) (n := 1) (v := (l6 + 1)) (pc' := 108) (lo' := [(6, .int (l6 + 1)), (4, .long ((31 * ((31 * ((31 * ((31 * l4) + t6)) + (Int32.toInt64 (h.1 130 (((24 * l3) + l6) : Int32).toNatClampNeg)))) + (Int32.toInt64 t10))) + (Int32.toInt64 t13))), (0, .ref (G.1 + 126)), (3, .int l3)]) (by decide +kernel) rfl rfl (by decide) rfl ?_
        refine sd_goto (off := -102) (tgt := 6) (pc' := 111) (by decide +kernel) ?_
        refine sd_J.sub (lo' := [(0, .ref (G.1 + 126)), (3, .int l3), (4, .long ((31 * ((31 * ((31 * ((31 * l4) + t6)) + (Int32.toInt64 (h.1 130 (((24 * l3) + l6) : Int32).toNatClampNeg)))) + (Int32.toInt64 t10))) + (Int32.toInt64 t13))), (6, .int (l6 + 1))]) [2, 3, 1, 0] rfl ?_
        exact ih _ _ _ _ hf
def YM_cellsDigest (h : sd_H) (a0 : Int64) (a1 : Int32) : Option (sd_H × Int64) :=
  YM_cellsDigest_L6 FU h a1 a0 0
set_option maxHeartbeats 4000000 in
set_option maxRecDepth 100000 in
theorem T_YM_cellsDigest {G : sd_GX} {h : sd_H} {a0 : Int64} {a1 : Int32} {r : (sd_H × Int64)} (hf : YM_cellsDigest h a0 a1 = some r) : sd_RunF G M_YM_cellsDigest [.ref (G.1 + 126), .long a0, .int a1] h (some (.long r.2)) r.1 := by
  refine sF_run ⟨rfl, rfl⟩ (by decide +kernel) (Nat.le_of_ble_eq_true rfl) (lo := [(0, .ref (G.1 + 126)), (1, .long a0), (3, .int a1)]) rfl (fun X hE => ?_)
  unfold YM_cellsDigest at hf
  refine sd_lload_n (k := 1) (i := 1) (q := 1) (pc' := 1) (by decide +kernel) rfl rfl ?_
  refine sd_lstore (i := 4) (pc' := 3) (lo' := [(4, .long a0), (0, .ref (G.1 + 126)), (1, .long a0), (3, .int a1)]) (by decide +kernel) (by decide) rfl ?_
  refine sd_iconst (n := 0) (v := 0) (pc' := 4) (by decide +kernel) (by decide) ?_
  refine sd_istore (i := 6) (pc' := 6) (lo' := [(6, .int 0), (4, .long a0), (0, .ref (G.1 + 126)), (1, .long a0), (3, .int a1)]) (by decide +kernel) (by decide) rfl ?_
  refine sd_J.sub (lo' := [(0, .ref (G.1 + 126)), (3, .int a1), (4, .long a0), (6, .int 0)]) [2, 4, 1, 0] rfl ?_
  exact J_YM_cellsDigest_L6 hE _ _ _ _ _ hf

theorem ml_X12_440 : Cond.methodLink RX12 440 yX12_ended ∈ sd_tb := sd_mem (i := 1753) (by decide +kernel)
theorem mv_YM_ended : sd_mV M_YM_ended 1 := ⟨sd_mem (i := 1719) (by decide +kernel), sd_mem (i := 1720) (by decide +kernel), ⟨sd_mem (i := 1721) (by decide +kernel), sd_mem (i := 119) (by decide +kernel), by decide +kernel, by decide +kernel, by decide +kernel⟩⟩
theorem ml_X12_437 : Cond.methodLink RX12 437 yX12_cellsDigest ∈ sd_tb := sd_mem (i := 1749) (by decide +kernel)
theorem mv_YM_cellsDigest : sd_mV M_YM_cellsDigest 2 := ⟨sd_mem (i := 1751) (by decide +kernel), sd_mem (i := 106) (by decide +kernel), ⟨sd_mem (i := 1752) (by decide +kernel), sd_mem (i := 119) (by decide +kernel), by decide +kernel, by decide +kernel, by decide +kernel⟩⟩
theorem ml_X12_434 : Cond.methodLink RX12 434 yX12_rowDigest ∈ sd_tb := sd_mem (i := 1745) (by decide +kernel)
theorem mv_YM_rowDigest : sd_mV M_YM_rowDigest 2 := ⟨sd_mem (i := 1747) (by decide +kernel), sd_mem (i := 105) (by decide +kernel), ⟨sd_mem (i := 1748) (by decide +kernel), sd_mem (i := 119) (by decide +kernel), by decide +kernel, by decide +kernel, by decide +kernel⟩⟩
theorem ml_X12_430 : Cond.methodLink RX12 430 yX12_statementDigest ∈ sd_tb := sd_mem (i := 1741) (by decide +kernel)
theorem mv_YM_statementDigest : sd_mV M_YM_statementDigest 2 := ⟨sd_mem (i := 1743) (by decide +kernel), sd_mem (i := 104) (by decide +kernel), ⟨sd_mem (i := 1744) (by decide +kernel), sd_mem (i := 119) (by decide +kernel), by decide +kernel, by decide +kernel, by decide +kernel⟩⟩
theorem ml_X12_427 : Cond.methodLink RX12 427 yX12_count ∈ sd_tb := sd_mem (i := 1740) (by decide +kernel)
theorem mv_YM_count : sd_mV M_YM_count 1 := ⟨sd_mem (i := 1727) (by decide +kernel), sd_mem (i := 1728) (by decide +kernel), ⟨sd_mem (i := 1729) (by decide +kernel), sd_mem (i := 119) (by decide +kernel), by decide +kernel, by decide +kernel, by decide +kernel⟩⟩
def M_YM_digest : sd_MX := (yX12_digest, cX12_digest, 4, (some .long), { frames := 12, cells := 0, slots := 0, locals := 290 })
def YM_digest_L125 : Nat → sd_H → Int64 → Int32 → Option (sd_H × Int64)
  | 0, _, _, _ => none
  | n + 1, h, l1, l3 =>
  (if 10 ≤ l3 then some (h, l1) else b1 (YM_ended h l3) (fun t8 => YM_digest_L125 n h ((31 * l1) + (Int32.toInt64 t8)) (l3 + 1)))
set_option maxHeartbeats 4000000 in
set_option maxRecDepth 100000 in
theorem J_YM_digest_L125 {G : sd_GX} {X : sd_CX} (hE : ∀ g : sd_H, sd_end G X M_YM_digest (sd_F g))  {r : (sd_H × Int64)} : ∀ (n : Nat) (h : sd_H) (l1 : Int64) (l3 : Int32), YM_digest_L125 n h l1 l3 = some r → sd_J G X (sd_QR G X M_YM_digest (some (.long r.2), sd_F r.1)) M_YM_digest 125 [(0, .ref (G.1 + 126)), (1, .long l1), (3, .int l3)] [] (sd_F h) := by
  intro n
  induction n with
  | zero =>
    intro h l1 l3 hf
    rw [YM_digest_L125] at hf
    cases hf
  | succ n ih =>
    intro h l1 l3 hf
    rw [YM_digest_L125] at hf
    refine sd_iload_n (k := 3) (i := 3) (q := 2) (pc' := 126) (by decide +kernel) rfl rfl ?_
    refine sd_bipush (n := 10) (v := 10) (pc' := 128) (by decide +kernel) (by decide) ?_
    refine sd_icmp_ge (off := 22) (tgt := 150) (pc' := 131) (by decide +kernel) (fun c6 => ?_) (fun c6 => ?_)
    · replace hf := ite_p c6 hf
      refine sd_lload_n (k := 1) (i := 1) (q := 1) (pc' := 151) (by decide +kernel) rfl rfl ?_
      obtain rfl := Option.some.inj hf
      exact sd_lret (by decide +kernel) rfl (hE _)
    · replace hf := ite_n c6 hf
      refine sd_ldc2 (idx := 423) (v := 31) (pc' := 134) (by decide +kernel) (sd_mem (i := 1739) (by decide +kernel)) ?_
      refine sd_lload_n (k := 1) (i := 1) (q := 1) (pc' := 135) (by decide +kernel) rfl rfl ?_
      refine sd_lmul (pc' := 136) (by decide +kernel) ?_
      refine sd_aload_n (k := 0) (i := 0) (q := 0) (pc' := 137) (by decide +kernel) rfl rfl ?_
      refine sd_iload_n (k := 3) (i := 3) (q := 2) (pc' := 138) (by decide +kernel) rfl rfl ?_
      obtain ⟨t8, q7, hf⟩ := b1_some hf
      refine sF_callV (idx := 440) (b := 126) (As := [.int l3]) (ci := 12) (nn := 47) (pc' := 141) 1 (T_YM_ended (G := G) (h := h)  q7) (by decide +kernel) mv_YM_ended ml_X12_440 (by decide +kernel) rfl rfl (Nat.le_of_ble_eq_true rfl) SH_126 rfl (by decide) rfl rfl ?_
      refine sd_i2l (pc' := 142) (by decide +kernel) rfl ?_
      refine sd_ladd (pc' := 143) (by decide +kernel) ?_
      refine sd_lstore_n (k := 1) (i := 1) (pc' := 144) (lo' := [(1, .long ((31 * l1) + (Int32.toInt64 t8))), (0, .ref (G.1 + 126)), (3, .int l3)]) (by decide +kernel) rfl (by decide) rfl ?_
      refine sd_iinc (i := 3) (q := 2) (n := 1) (v := (l3 + 1)) (pc' := 147) (lo' := [(3, .int (l3 + 1)), (1, .long ((31 * l1) + (Int32.toInt64 t8))), (0, .ref (G.1 + 126))]) (by decide +kernel) rfl rfl (by decide) rfl ?_
      refine sd_goto (off := -22) (tgt := 125) (pc' := 150) (by decide +kernel) ?_
      refine sd_J.sub (lo' := [(0, .ref (G.1 + 126)), (1, .long ((31 * l1) + (Int32.toInt64 t8))), (3, .int (l3 + 1))]) [2, 1, 0] rfl ?_
      exact ih _ _ _ hf
def YM_digest_L98 : Nat → sd_H → Int64 → Int32 → Option (sd_H × Int64)
  | 0, _, _, _ => none
  | n + 1, h, l1, l3 =>
  (if 3 ≤ l3 then YM_digest_L125 FU h l1 0 else gd (sd_inB l3 3) (YM_digest_L98 n h ((31 * l1) + (Int32.toInt64 (h.1 150 (l3 : Int32).toNatClampNeg))) (l3 + 1)))
set_option maxHeartbeats 4000000 in
set_option maxRecDepth 100000 in
theorem J_YM_digest_L98 {G : sd_GX} {X : sd_CX} (hE : ∀ g : sd_H, sd_end G X M_YM_digest (sd_F g))  {r : (sd_H × Int64)} : ∀ (n : Nat) (h : sd_H) (l1 : Int64) (l3 : Int32), YM_digest_L98 n h l1 l3 = some r → sd_J G X (sd_QR G X M_YM_digest (some (.long r.2), sd_F r.1)) M_YM_digest 98 [(0, .ref (G.1 + 126)), (1, .long l1), (3, .int l3)] [] (sd_F h) := by
  intro n
  induction n with
  | zero =>
    intro h l1 l3 hf
    rw [YM_digest_L98] at hf
    cases hf
  | succ n ih =>
    intro h l1 l3 hf
    rw [YM_digest_L98] at hf
    refine sd_iload_n (k := 3) (i := 3) (q := 2) (pc' := 99) (by decide +kernel) rfl rfl ?_
    refine sd_iconst (n := 3) (v := 3) (pc' := 100) (by decide +kernel) (by decide) ?_
    refine sd_icmp_ge (off := 23) (tgt := 123) (pc' := 103) (by decide +kernel) (fun c5 => ?_) (fun c5 => ?_)
    · replace hf := ite_p c5 hf
      refine sd_iconst (n := 0) (v := 0) (pc' := 124) (by decide +kernel) (by decide) ?_
      refine sd_istore_n (k := 3) (i := 3) (pc' := 125) (lo' := [(3, .int 0), (0, .ref (G.1 + 126)), (1, .long l1)]) (by decide +kernel) rfl (by decide) rfl ?_
      refine sd_J.sub (lo' := [(0, .ref (G.1 + 126)), (1, .long l1), (3, .int 0)]) [1, 2, 0] rfl ?_
      exact J_YM_digest_L125 hE _ _ _ _ hf
    · replace hf := ite_n c5 hf
      refine sd_ldc2 (idx := 423) (v := 31) (pc' := 106) (by decide +kernel) (sd_mem (i := 1739) (by decide +kernel)) ?_
      refine sd_lload_n (k := 1) (i := 1) (q := 1) (pc' := 107) (by decide +kernel) rfl rfl ?_
      refine sd_lmul (pc' := 108) (by decide +kernel) ?_
      refine sd_aload_n (k := 0) (i := 0) (q := 0) (pc' := 109) (by decide +kernel) rfl rfl ?_
      refine sF_gr (idx := 81) (ci := 12) (k := 35) (n := 47) (r := 150) (pc' := 112) (by decide +kernel) fl_X12_81 (by decide +kernel) rfl SH_126 (by decide) (by decide +kernel) ?_
      refine sd_iload_n (k := 3) (i := 3) (q := 2) (pc' := 113) (by decide +kernel) rfl rfl ?_
      obtain ⟨g9, hf⟩ := gd_some hf
      refine sF_iald (n := 3) (pc' := 114) (by decide +kernel) SH_150 g9 ?_
      refine sd_i2l (pc' := 115) (by decide +kernel) rfl ?_
      refine sd_ladd (pc' := 116) (by decide +kernel) ?_
      refine sd_lstore_n (k := 1) (i := 1) (pc' := 117) (lo' := [(1, .long ((31 * l1) + (Int32.toInt64 (h.1 150 (l3 : Int32).toNatClampNeg)))), (0, .ref (G.1 + 126)), (3, .int l3)]) (by decide +kernel) rfl (by decide) rfl ?_
      refine sd_iinc (i := 3) (q := 2) (n := 1) (v := (l3 + 1)) (pc' := 120) (lo' := [(3, .int (l3 + 1)), (1, .long ((31 * l1) + (Int32.toInt64 (h.1 150 (l3 : Int32).toNatClampNeg)))), (0, .ref (G.1 + 126))]) (by decide +kernel) rfl rfl (by decide) rfl ?_
      refine sd_goto (off := -22) (tgt := 98) (pc' := 123) (by decide +kernel) ?_
      refine sd_J.sub (lo' := [(0, .ref (G.1 + 126)), (1, .long ((31 * l1) + (Int32.toInt64 (h.1 150 (l3 : Int32).toNatClampNeg)))), (3, .int (l3 + 1))]) [2, 1, 0] rfl ?_
      exact ih _ _ _ hf
def YM_digest_L77 : Nat → sd_H → Int64 → Int32 → Option (sd_H × Int64)
  | 0, _, _, _ => none
  | n + 1, h, l1, l3 =>
  (if 6 ≤ l3 then YM_digest_L98 FU h l1 0 else b2 (YM_cellsDigest h l1 l3) (fun h11 t12 => YM_digest_L77 n h11 t12 (l3 + 1)))
set_option maxHeartbeats 4000000 in
set_option maxRecDepth 100000 in
theorem J_YM_digest_L77 {G : sd_GX} {X : sd_CX} (hE : ∀ g : sd_H, sd_end G X M_YM_digest (sd_F g))  {r : (sd_H × Int64)} : ∀ (n : Nat) (h : sd_H) (l1 : Int64) (l3 : Int32), YM_digest_L77 n h l1 l3 = some r → sd_J G X (sd_QR G X M_YM_digest (some (.long r.2), sd_F r.1)) M_YM_digest 77 [(0, .ref (G.1 + 126)), (1, .long l1), (3, .int l3)] [] (sd_F h) := by
  intro n
  induction n with
  | zero =>
    intro h l1 l3 hf
    rw [YM_digest_L77] at hf
    cases hf
  | succ n ih =>
    intro h l1 l3 hf
    rw [YM_digest_L77] at hf
    refine sd_iload_n (k := 3) (i := 3) (q := 2) (pc' := 78) (by decide +kernel) rfl rfl ?_
    refine sd_bipush (n := 6) (v := 6) (pc' := 80) (by decide +kernel) (by decide) ?_
    refine sd_icmp_ge (off := 16) (tgt := 96) (pc' := 83) (by decide +kernel) (fun c4 => ?_) (fun c4 => ?_)
    · replace hf := ite_p c4 hf
      refine sd_iconst (n := 0) (v := 0) (pc' := 97) (by decide +kernel) (by decide) ?_
      refine sd_istore_n (k := 3) (i := 3) (pc' := 98) (lo' := [(3, .int 0), (0, .ref (G.1 + 126)), (1, .long l1)]) (by decide +kernel) rfl (by decide) rfl ?_
      refine sd_J.sub (lo' := [(0, .ref (G.1 + 126)), (1, .long l1), (3, .int 0)]) [1, 2, 0] rfl ?_
      exact J_YM_digest_L98 hE _ _ _ _ hf
    · replace hf := ite_n c4 hf
      refine sd_aload_n (k := 0) (i := 0) (q := 0) (pc' := 84) (by decide +kernel) rfl rfl ?_
      refine sd_lload_n (k := 1) (i := 1) (q := 1) (pc' := 85) (by decide +kernel) rfl rfl ?_
      refine sd_iload_n (k := 3) (i := 3) (q := 2) (pc' := 86) (by decide +kernel) rfl rfl ?_
      obtain ⟨h11, t12, q10, hf⟩ := b2_some hf
      refine sF_callV (idx := 437) (b := 126) (As := [.long l1, .int l3]) (ci := 12) (nn := 47) (pc' := 89) 2 (T_YM_cellsDigest (G := G) (h := h)  q10) (by decide +kernel) mv_YM_cellsDigest ml_X12_437 (by decide +kernel) rfl rfl (Nat.le_of_ble_eq_true rfl) SH_126 rfl (by decide) rfl rfl ?_
      refine sd_lstore_n (k := 1) (i := 1) (pc' := 90) (lo' := [(1, .long t12), (0, .ref (G.1 + 126)), (3, .int l3)]) (by decide +kernel) rfl (by decide) rfl ?_
      refine sd_iinc (i := 3) (q := 2) (n := 1) (v := (l3 + 1)) (pc' := 93) (lo' := [(3, .int (l3 + 1)), (1, .long t12), (0, .ref (G.1 + 126))]) (by decide +kernel) rfl rfl (by decide) rfl ?_
      refine sd_goto (off := -16) (tgt := 77) (pc' := 96) (by decide +kernel) ?_
      refine sd_J.sub (lo' := [(0, .ref (G.1 + 126)), (1, .long t12), (3, .int (l3 + 1))]) [2, 1, 0] rfl ?_
      exact ih _ _ _ hf
def YM_digest_L56 : Nat → sd_H → Int64 → Int32 → Option (sd_H × Int64)
  | 0, _, _, _ => none
  | n + 1, h, l1, l3 =>
  (if 6 ≤ l3 then YM_digest_L77 FU h l1 0 else b2 (YM_rowDigest h l1 l3) (fun h14 t15 => YM_digest_L56 n h14 t15 (l3 + 1)))
set_option maxHeartbeats 4000000 in
set_option maxRecDepth 100000 in
theorem J_YM_digest_L56 {G : sd_GX} {X : sd_CX} (hE : ∀ g : sd_H, sd_end G X M_YM_digest (sd_F g))  {r : (sd_H × Int64)} : ∀ (n : Nat) (h : sd_H) (l1 : Int64) (l3 : Int32), YM_digest_L56 n h l1 l3 = some r → sd_J G X (sd_QR G X M_YM_digest (some (.long r.2), sd_F r.1)) M_YM_digest 56 [(0, .ref (G.1 + 126)), (1, .long l1), (3, .int l3)] [] (sd_F h) := by
  intro n
  induction n with
  | zero =>
    intro h l1 l3 hf
    rw [YM_digest_L56] at hf
    cases hf
  | succ n ih =>
    intro h l1 l3 hf
    rw [YM_digest_L56] at hf
    refine sd_iload_n (k := 3) (i := 3) (q := 2) (pc' := 57) (by decide +kernel) rfl rfl ?_
    refine sd_bipush (n := 6) (v := 6) (pc' := 59) (by decide +kernel) (by decide) ?_
    refine sd_icmp_ge (off := 16) (tgt := 75) (pc' := 62) (by decide +kernel) (fun c3 => ?_) (fun c3 => ?_)
    · replace hf := ite_p c3 hf
      refine sd_iconst (n := 0) (v := 0) (pc' := 76) (by decide +kernel) (by decide) ?_
      refine sd_istore_n (k := 3) (i := 3) (pc' := 77) (lo' := [(3, .int 0), (0, .ref (G.1 + 126)), (1, .long l1)]) (by decide +kernel) rfl (by decide) rfl ?_
      refine sd_J.sub (lo' := [(0, .ref (G.1 + 126)), (1, .long l1), (3, .int 0)]) [1, 2, 0] rfl ?_
      exact J_YM_digest_L77 hE _ _ _ _ hf
    · replace hf := ite_n c3 hf
      refine sd_aload_n (k := 0) (i := 0) (q := 0) (pc' := 63) (by decide +kernel) rfl rfl ?_
      refine sd_lload_n (k := 1) (i := 1) (q := 1) (pc' := 64) (by decide +kernel) rfl rfl ?_
      refine sd_iload_n (k := 3) (i := 3) (q := 2) (pc' := 65) (by decide +kernel) rfl rfl ?_
      obtain ⟨h14, t15, q13, hf⟩ := b2_some hf
      refine sF_callV (idx := 434) (b := 126) (As := [.long l1, .int l3]) (ci := 12) (nn := 47) (pc' := 68) 2 (T_YM_rowDigest (G := G) (h := h)  q13) (by decide +kernel) mv_YM_rowDigest ml_X12_434 (by decide +kernel) rfl rfl (Nat.le_of_ble_eq_true rfl) SH_126 rfl (by decide) rfl rfl ?_
      refine sd_lstore_n (k := 1) (i := 1) (pc' := 69) (lo' := [(1, .long t15), (0, .ref (G.1 + 126)), (3, .int l3)]) (by decide +kernel) rfl (by decide) rfl ?_
      refine sd_iinc (i := 3) (q := 2) (n := 1) (v := (l3 + 1)) (pc' := 72) (lo' := [(3, .int (l3 + 1)), (1, .long t15), (0, .ref (G.1 + 126))]) (by decide +kernel) rfl rfl (by decide) rfl ?_
      refine sd_goto (off := -16) (tgt := 56) (pc' := 75) (by decide +kernel) ?_
      refine sd_J.sub (lo' := [(0, .ref (G.1 + 126)), (1, .long t15), (3, .int (l3 + 1))]) [2, 1, 0] rfl ?_
      exact ih _ _ _ hf
def YM_digest_L33 : Nat → sd_H → Int64 → Int32 → Option (sd_H × Int64)
  | 0, _, _, _ => none
  | n + 1, h, l1, l3 =>
  (if (h.1 126 7) ≤ l3 then YM_digest_L56 FU h l1 0 else b2 (YM_statementDigest h l1 l3) (fun h17 t18 => YM_digest_L33 n h17 t18 (l3 + 1)))
set_option maxHeartbeats 4000000 in
set_option maxRecDepth 100000 in
theorem J_YM_digest_L33 {G : sd_GX} {X : sd_CX} (hE : ∀ g : sd_H, sd_end G X M_YM_digest (sd_F g))  {r : (sd_H × Int64)} : ∀ (n : Nat) (h : sd_H) (l1 : Int64) (l3 : Int32), YM_digest_L33 n h l1 l3 = some r → sd_J G X (sd_QR G X M_YM_digest (some (.long r.2), sd_F r.1)) M_YM_digest 33 [(0, .ref (G.1 + 126)), (1, .long l1), (3, .int l3)] [] (sd_F h) := by
  intro n
  induction n with
  | zero =>
    intro h l1 l3 hf
    rw [YM_digest_L33] at hf
    cases hf
  | succ n ih =>
    intro h l1 l3 hf
    rw [YM_digest_L33] at hf
    refine sd_iload_n (k := 3) (i := 3) (q := 2) (pc' := 34) (by decide +kernel) rfl rfl ?_
    refine sd_aload_n (k := 0) (i := 0) (q := 0) (pc' := 35) (by decide +kernel) rfl rfl ?_
    refine sF_gi (idx := 171) (ci := 12) (k := 7) (n := 47) (pc' := 38) (by decide +kernel) fl_X12_171 (by decide +kernel) rfl SH_126 ?_
    refine sd_icmp_ge (off := 16) (tgt := 54) (pc' := 41) (by decide +kernel) (fun c2 => ?_) (fun c2 => ?_)
    · replace hf := ite_p c2 hf
      refine sd_iconst (n := 0) (v := 0) (pc' := 55) (by decide +kernel) (by decide) ?_
      refine sd_istore_n (k := 3) (i := 3) (pc' := 56) (lo' := [(3, .int 0), (0, .ref (G.1 + 126)), (1, .long l1)]) (by decide +kernel) rfl (by decide) rfl ?_
      refine sd_J.sub (lo' := [(0, .ref (G.1 + 126)), (1, .long l1), (3, .int 0)]) [1, 2, 0] rfl ?_
      exact J_YM_digest_L56 hE _ _ _ _ hf
    · replace hf := ite_n c2 hf
      refine sd_aload_n (k := 0) (i := 0) (q := 0) (pc' := 42) (by decide +kernel) rfl rfl ?_
      refine sd_lload_n (k := 1) (i := 1) (q := 1) (pc' := 43) (by decide +kernel) rfl rfl ?_
      refine sd_iload_n (k := 3) (i := 3) (q := 2) (pc' := 44) (by decide +kernel) rfl rfl ?_
      obtain ⟨h17, t18, q16, hf⟩ := b2_some hf
      refine sF_callV (idx := 430) (b := 126) (As := [.long l1, .int l3]) (ci := 12) (nn := 47) (pc' := 47) 2 (T_YM_statementDigest (G := G) (h := h)  q16) (by decide +kernel) mv_YM_statementDigest ml_X12_430 (by decide +kernel) rfl rfl (Nat.le_of_ble_eq_true rfl) SH_126 rfl (by decide) rfl rfl ?_
      refine sd_lstore_n (k := 1) (i := 1) (pc' := 48) (lo' := [(1, .long t18), (0, .ref (G.1 + 126)), (3, .int l3)]) (by decide +kernel) rfl (by decide) rfl ?_
      refine sd_iinc (i := 3) (q := 2) (n := 1) (v := (l3 + 1)) (pc' := 51) (lo' := [(3, .int (l3 + 1)), (1, .long t18), (0, .ref (G.1 + 126))]) (by decide +kernel) rfl rfl (by decide) rfl ?_
      refine sd_goto (off := -18) (tgt := 33) (pc' := 54) (by decide +kernel) ?_
      refine sd_J.sub (lo' := [(0, .ref (G.1 + 126)), (1, .long t18), (3, .int (l3 + 1))]) [2, 1, 0] rfl ?_
      exact ih _ _ _ hf
def YM_digest_L6 : Nat → sd_H → Int64 → Int32 → Option (sd_H × Int64)
  | 0, _, _, _ => none
  | n + 1, h, l1, l3 =>
  (if 8 ≤ l3 then YM_digest_L33 FU h l1 0 else b2 (YM_count h l3) (fun h20 t21 => YM_digest_L6 n h20 ((31 * l1) + (Int32.toInt64 t21)) (l3 + 1)))
set_option maxHeartbeats 4000000 in
set_option maxRecDepth 100000 in
theorem J_YM_digest_L6 {G : sd_GX} {X : sd_CX} (hE : ∀ g : sd_H, sd_end G X M_YM_digest (sd_F g))  {r : (sd_H × Int64)} : ∀ (n : Nat) (h : sd_H) (l1 : Int64) (l3 : Int32), YM_digest_L6 n h l1 l3 = some r → sd_J G X (sd_QR G X M_YM_digest (some (.long r.2), sd_F r.1)) M_YM_digest 6 [(0, .ref (G.1 + 126)), (1, .long l1), (3, .int l3)] [] (sd_F h) := by
  intro n
  induction n with
  | zero =>
    intro h l1 l3 hf
    rw [YM_digest_L6] at hf
    cases hf
  | succ n ih =>
    intro h l1 l3 hf
    rw [YM_digest_L6] at hf
    refine sd_iload_n (k := 3) (i := 3) (q := 2) (pc' := 7) (by decide +kernel) rfl rfl ?_
    refine sd_bipush (n := 8) (v := 8) (pc' := 9) (by decide +kernel) (by decide) ?_
    refine sd_icmp_ge (off := 22) (tgt := 31) (pc' := 12) (by decide +kernel) (fun c1 => ?_) (fun c1 => ?_)
    · replace hf := ite_p c1 hf
      refine sd_iconst (n := 0) (v := 0) (pc' := 32) (by decide +kernel) (by decide) ?_
      refine sd_istore_n (k := 3) (i := 3) (pc' := 33) (lo' := [(3, .int 0), (0, .ref (G.1 + 126)), (1, .long l1)]) (by decide +kernel) rfl (by decide) rfl ?_
      refine sd_J.sub (lo' := [(0, .ref (G.1 + 126)), (1, .long l1), (3, .int 0)]) [1, 2, 0] rfl ?_
      exact J_YM_digest_L33 hE _ _ _ _ hf
    · replace hf := ite_n c1 hf
      refine sd_ldc2 (idx := 423) (v := 31) (pc' := 15) (by decide +kernel) (sd_mem (i := 1739) (by decide +kernel)) ?_
      refine sd_lload_n (k := 1) (i := 1) (q := 1) (pc' := 16) (by decide +kernel) rfl rfl ?_
      refine sd_lmul (pc' := 17) (by decide +kernel) ?_
      refine sd_aload_n (k := 0) (i := 0) (q := 0) (pc' := 18) (by decide +kernel) rfl rfl ?_
      refine sd_iload_n (k := 3) (i := 3) (q := 2) (pc' := 19) (by decide +kernel) rfl rfl ?_
      obtain ⟨h20, t21, q19, hf⟩ := b2_some hf
      refine sF_callV (idx := 427) (b := 126) (As := [.int l3]) (ci := 12) (nn := 47) (pc' := 22) 1 (T_YM_count (G := G) (h := h)  q19) (by decide +kernel) mv_YM_count ml_X12_427 (by decide +kernel) rfl rfl (Nat.le_of_ble_eq_true rfl) SH_126 rfl (by decide) rfl rfl ?_
      refine sd_i2l (pc' := 23) (by decide +kernel) rfl ?_
      refine sd_ladd (pc' := 24) (by decide +kernel) ?_
      refine sd_lstore_n (k := 1) (i := 1) (pc' := 25) (lo' := [(1, .long ((31 * l1) + (Int32.toInt64 t21))), (0, .ref (G.1 + 126)), (3, .int l3)]) (by decide +kernel) rfl (by decide) rfl ?_
      refine sd_iinc (i := 3) (q := 2) (n := 1) (v := (l3 + 1)) (pc' := 28) (lo' := [(3, .int (l3 + 1)), (1, .long ((31 * l1) + (Int32.toInt64 t21))), (0, .ref (G.1 + 126))]) (by decide +kernel) rfl rfl (by decide) rfl ?_
      refine sd_goto (off := -22) (tgt := 6) (pc' := 31) (by decide +kernel) ?_
      refine sd_J.sub (lo' := [(0, .ref (G.1 + 126)), (1, .long ((31 * l1) + (Int32.toInt64 t21))), (3, .int (l3 + 1))]) [2, 1, 0] rfl ?_
      exact ih _ _ _ hf
def YM_digest (h : sd_H) : Option (sd_H × Int64) :=
  YM_digest_L6 FU h 17 0
set_option maxHeartbeats 4000000 in
set_option maxRecDepth 100000 in
theorem T_YM_digest {G : sd_GX} {h : sd_H} {r : (sd_H × Int64)} (hf : YM_digest h = some r) : sd_RunF G M_YM_digest [.ref (G.1 + 126)] h (some (.long r.2)) r.1 := by
  refine sF_run ⟨rfl, rfl⟩ (by decide +kernel) (Nat.le_of_ble_eq_true rfl) (lo := [(0, .ref (G.1 + 126))]) rfl (fun X hE => ?_)
  unfold YM_digest at hf
  refine sd_ldc2 (idx := 425) (v := 17) (pc' := 3) (by decide +kernel) (sd_mem (i := 1738) (by decide +kernel)) ?_
  refine sd_lstore_n (k := 1) (i := 1) (pc' := 4) (lo' := [(1, .long 17), (0, .ref (G.1 + 126))]) (by decide +kernel) rfl (by decide) rfl ?_
  refine sd_iconst (n := 0) (v := 0) (pc' := 5) (by decide +kernel) (by decide) ?_
  refine sd_istore_n (k := 3) (i := 3) (pc' := 6) (lo' := [(3, .int 0), (1, .long 17), (0, .ref (G.1 + 126))]) (by decide +kernel) rfl (by decide) rfl ?_
  refine sd_J.sub (lo' := [(0, .ref (G.1 + 126)), (1, .long 17), (3, .int 0)]) [2, 1, 0] rfl ?_
  exact J_YM_digest_L6 hE _ _ _ _ hf
