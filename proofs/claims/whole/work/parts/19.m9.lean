def M_YM_guard : sd_MX := (yX12_guard, cX12_guard, 4, (some .int), { frames := 3, cells := 0, slots := 0, locals := 83 })
def YM_guard (h : sd_H) (a0 : Int32) (a1 : Int32) (a2 : Int32) : Option (sd_H × Int32) :=
  b1 (YM_isStatement h a0) (fun t2 => (if t2 = 0 then some (h, (-2)) else b1 (YM_in a1 1 6) (fun t5 => (if t5 = 0 then some (h, (-2)) else b1 (YM_in a2 0 (a1 - 1)) (fun t8 => (if t8 = 0 then some (h, (-2)) else gd (sd_inB a0 5) (gd (sd_inB a0 5) (b1 (YM_logs h 4 a0 (h.1 134 (a0 : Int32).toNatClampNeg) (h.1 135 (a0 : Int32).toNatClampNeg) 0) (fun h13 => gd (sd_inB a0 5) (hb (wI h13 134 (a0 : Int32).toNatClampNeg a1) (fun h15 => gd (sd_inB a0 5) (hb (wI h15 135 (a0 : Int32).toNatClampNeg a2) (fun h18 => some (h18, 1))))))))))))))
set_option maxHeartbeats 4000000 in
set_option maxRecDepth 100000 in
theorem T_YM_guard {G : sd_GX} {h : sd_H} {a0 : Int32} {a1 : Int32} {a2 : Int32} {r : (sd_H × Int32)} (hf : YM_guard h a0 a1 a2 = some r) : sd_RunF G M_YM_guard [.ref (G.1 + 126), .int a0, .int a1, .int a2] h (some (.int r.2)) r.1 := by
  refine sF_run ⟨rfl, rfl⟩ (by decide +kernel) (Nat.le_of_ble_eq_true rfl) (lo := [(0, .ref (G.1 + 126)), (1, .int a0), (2, .int a1), (3, .int a2)]) rfl (fun X hE => ?_)
  unfold YM_guard at hf
  refine sd_aload_n (k := 0) (i := 0) (q := 0) (pc' := 1) (by decide +kernel) rfl rfl ?_
  refine sd_iload_n (k := 1) (i := 1) (q := 1) (pc' := 2) (by decide +kernel) rfl rfl ?_
  obtain ⟨t2, q1, hf⟩ := b1_some hf
  refine sF_callV (idx := 174) (b := 126) (As := [.int a0]) (ci := 12) (nn := 47) (pc' := 5) 1 (T_YM_isStatement (G := G) (h := h)  q1) (by decide +kernel) mv_YM_isStatement ml_X12_174 (by decide +kernel) rfl rfl (Nat.le_of_ble_eq_true rfl) SH_126 rfl (by decide) rfl rfl ?_
  refine sd_if_eq (off := 24) (tgt := 29) (pc' := 8) (by decide +kernel) (fun c3 => ?_) (fun c3 => ?_)
  · replace hf := ite_p c3 hf
    refine sd_bipush (n := -2) (v := (-2)) (pc' := 31) (by decide +kernel) (by decide) ?_
    obtain rfl := Option.some.inj hf
    exact sd_iret (by decide +kernel) rfl (hE _)
  · replace hf := ite_n c3 hf
    refine sd_iload_n (k := 2) (i := 2) (q := 2) (pc' := 9) (by decide +kernel) rfl rfl ?_
    refine sd_iconst (n := 1) (v := 1) (pc' := 10) (by decide +kernel) (by decide) ?_
    refine sd_bipush (n := 6) (v := 6) (pc' := 12) (by decide +kernel) (by decide) ?_
    obtain ⟨t5, q4, hf⟩ := b1_some hf
    refine sF_callS (idx := 114) (As := [.int a1, .int 1, .int 6]) (pc' := 15) 3 (T_YM_in (G := G) (h := h)  q4) (by decide +kernel) mv_YM_in ml_X12_114 (by decide +kernel) rfl rfl (Nat.le_of_ble_eq_true rfl) rfl ?_
    refine sd_if_eq (off := 14) (tgt := 29) (pc' := 18) (by decide +kernel) (fun c6 => ?_) (fun c6 => ?_)
    · replace hf := ite_p c6 hf
      refine sd_bipush (n := -2) (v := (-2)) (pc' := 31) (by decide +kernel) (by decide) ?_
      obtain rfl := Option.some.inj hf
      exact sd_iret (by decide +kernel) rfl (hE _)
    · replace hf := ite_n c6 hf
      refine sd_iload_n (k := 3) (i := 3) (q := 3) (pc' := 19) (by decide +kernel) rfl rfl ?_
      refine sd_iconst (n := 0) (v := 0) (pc' := 20) (by decide +kernel) (by decide) ?_
      refine sd_iload_n (k := 2) (i := 2) (q := 2) (pc' := 21) (by decide +kernel) rfl rfl ?_
      refine sd_iconst (n := 1) (v := 1) (pc' := 22) (by decide +kernel) (by decide) ?_
      refine sd_isub (pc' := 23) (by decide +kernel) ?_
      obtain ⟨t8, q7, hf⟩ := b1_some hf
      refine sF_callS (idx := 114) (As := [.int a2, .int 0, .int (a1 - 1)]) (pc' := 26) 3 (T_YM_in (G := G) (h := h)  q7) (by decide +kernel) mv_YM_in ml_X12_114 (by decide +kernel) rfl rfl (Nat.le_of_ble_eq_true rfl) rfl ?_
      refine sd_if_ne (off := 6) (tgt := 32) (pc' := 29) (by decide +kernel) (fun c9 => ?_) (fun c9 => ?_)
      · replace hf := ite_n c9 hf
        refine sd_aload_n (k := 0) (i := 0) (q := 0) (pc' := 33) (by decide +kernel) rfl rfl ?_
        refine sd_iconst (n := 4) (v := 4) (pc' := 34) (by decide +kernel) (by decide) ?_
        refine sd_iload_n (k := 1) (i := 1) (q := 1) (pc' := 35) (by decide +kernel) rfl rfl ?_
        refine sd_aload_n (k := 0) (i := 0) (q := 0) (pc' := 36) (by decide +kernel) rfl rfl ?_
        refine sF_gr (idx := 32) (ci := 12) (k := 10) (n := 47) (r := 134) (pc' := 39) (by decide +kernel) fl_X12_32 (by decide +kernel) rfl SH_126 (by decide) (by decide +kernel) ?_
        refine sd_iload_n (k := 1) (i := 1) (q := 1) (pc' := 40) (by decide +kernel) rfl rfl ?_
        obtain ⟨g10, hf⟩ := gd_some hf
        refine sF_iald (n := 5) (pc' := 41) (by decide +kernel) SH_134 g10 ?_
        refine sd_aload_n (k := 0) (i := 0) (q := 0) (pc' := 42) (by decide +kernel) rfl rfl ?_
        refine sF_gr (idx := 35) (ci := 12) (k := 11) (n := 47) (r := 135) (pc' := 45) (by decide +kernel) fl_X12_35 (by decide +kernel) rfl SH_126 (by decide) (by decide +kernel) ?_
        refine sd_iload_n (k := 1) (i := 1) (q := 1) (pc' := 46) (by decide +kernel) rfl rfl ?_
        obtain ⟨g11, hf⟩ := gd_some hf
        refine sF_iald (n := 5) (pc' := 47) (by decide +kernel) SH_135 g11 ?_
        refine sd_iconst (n := 0) (v := 0) (pc' := 48) (by decide +kernel) (by decide) ?_
        obtain ⟨h13, q12, hf⟩ := b1_some hf
        refine sF_callV0 (idx := 157) (b := 126) (As := [.int 4, .int a0, .int (h.1 134 (a0 : Int32).toNatClampNeg), .int (h.1 135 (a0 : Int32).toNatClampNeg), .int 0]) (ci := 12) (nn := 47) (pc' := 51) 5 (T_YM_logs (G := G) (h := h)  q12) (by decide +kernel) mv_YM_logs ml_X12_157 (by decide +kernel) rfl rfl (Nat.le_of_ble_eq_true rfl) SH_126 rfl (by decide) rfl rfl ?_
        refine sd_aload_n (k := 0) (i := 0) (q := 0) (pc' := 52) (by decide +kernel) rfl rfl ?_
        refine sF_gr (idx := 32) (ci := 12) (k := 10) (n := 47) (r := 134) (pc' := 55) (by decide +kernel) fl_X12_32 (by decide +kernel) rfl SH_126 (by decide) (by decide +kernel) ?_
        refine sd_iload_n (k := 1) (i := 1) (q := 1) (pc' := 56) (by decide +kernel) rfl rfl ?_
        refine sd_iload_n (k := 2) (i := 2) (q := 2) (pc' := 57) (by decide +kernel) rfl rfl ?_
        obtain ⟨g14, hf⟩ := gd_some hf
        obtain ⟨h15, e16, hf⟩ := hb_some hf
        refine sF_iast (n := 5) (pc' := 58) (by decide +kernel) SH_134 g14 ?_
        rw [← e16]; clear e16
        refine sd_aload_n (k := 0) (i := 0) (q := 0) (pc' := 59) (by decide +kernel) rfl rfl ?_
        refine sF_gr (idx := 35) (ci := 12) (k := 11) (n := 47) (r := 135) (pc' := 62) (by decide +kernel) fl_X12_35 (by decide +kernel) rfl SH_126 (by decide) (by decide +kernel) ?_
        refine sd_iload_n (k := 1) (i := 1) (q := 1) (pc' := 63) (by decide +kernel) rfl rfl ?_
        refine sd_iload_n (k := 3) (i := 3) (q := 3) (pc' := 64) (by decide +kernel) rfl rfl ?_
        obtain ⟨g17, hf⟩ := gd_some hf
        obtain ⟨h18, e19, hf⟩ := hb_some hf
        refine sF_iast (n := 5) (pc' := 65) (by decide +kernel) SH_135 g17 ?_
        rw [← e19]; clear e19
        refine sd_iconst (n := 1) (v := 1) (pc' := 66) (by decide +kernel) (by decide) ?_
        obtain rfl := Option.some.inj hf
        exact sd_iret (by decide +kernel) rfl (hE _)
      · replace hf := ite_p c9 hf
        refine sd_bipush (n := -2) (v := (-2)) (pc' := 31) (by decide +kernel) (by decide) ?_
        obtain rfl := Option.some.inj hf
        exact sd_iret (by decide +kernel) rfl (hE _)

def M_YM_mask : sd_MX := (yX12_mask, cX12_mask, 4, (some .int), { frames := 3, cells := 0, slots := 0, locals := 83 })
def YM_mask (h : sd_H) (a0 : Int32) (a1 : Int32) : Option (sd_H × Int32) :=
  b1 (YM_isStatement h a0) (fun t2 => (if t2 = 0 then some (h, (-2)) else b1 (YM_in a1 (-1) 5) (fun t5 => (if t5 = 0 then some (h, (-2)) else gd (sd_inB a0 5) (b1 (YM_logs h 5 a0 (h.1 136 (a0 : Int32).toNatClampNeg) 0 0) (fun h9 => gd (sd_inB a0 5) (hb (wI h9 136 (a0 : Int32).toNatClampNeg a1) (fun h11 => some (h11, (h.1 136 (a0 : Int32).toNatClampNeg))))))))))
set_option maxHeartbeats 4000000 in
set_option maxRecDepth 100000 in
theorem T_YM_mask {G : sd_GX} {h : sd_H} {a0 : Int32} {a1 : Int32} {r : (sd_H × Int32)} (hf : YM_mask h a0 a1 = some r) : sd_RunF G M_YM_mask [.ref (G.1 + 126), .int a0, .int a1] h (some (.int r.2)) r.1 := by
  refine sF_run ⟨rfl, rfl⟩ (by decide +kernel) (Nat.le_of_ble_eq_true rfl) (lo := [(0, .ref (G.1 + 126)), (1, .int a0), (2, .int a1)]) rfl (fun X hE => ?_)
  unfold YM_mask at hf
  refine sd_aload_n (k := 0) (i := 0) (q := 0) (pc' := 1) (by decide +kernel) rfl rfl ?_
  refine sd_iload_n (k := 1) (i := 1) (q := 1) (pc' := 2) (by decide +kernel) rfl rfl ?_
  obtain ⟨t2, q1, hf⟩ := b1_some hf
  refine sF_callV (idx := 174) (b := 126) (As := [.int a0]) (ci := 12) (nn := 47) (pc' := 5) 1 (T_YM_isStatement (G := G) (h := h)  q1) (by decide +kernel) mv_YM_isStatement ml_X12_174 (by decide +kernel) rfl rfl (Nat.le_of_ble_eq_true rfl) SH_126 rfl (by decide) rfl rfl ?_
  refine sd_if_eq (off := 12) (tgt := 17) (pc' := 8) (by decide +kernel) (fun c3 => ?_) (fun c3 => ?_)
  · replace hf := ite_p c3 hf
    refine sd_bipush (n := -2) (v := (-2)) (pc' := 19) (by decide +kernel) (by decide) ?_
    obtain rfl := Option.some.inj hf
    exact sd_iret (by decide +kernel) rfl (hE _)
  · replace hf := ite_n c3 hf
    refine sd_iload_n (k := 2) (i := 2) (q := 2) (pc' := 9) (by decide +kernel) rfl rfl ?_
    refine sd_iconst (n := -1) (v := (-1)) (pc' := 10) (by decide +kernel) (by decide) ?_
    refine sd_iconst (n := 5) (v := 5) (pc' := 11) (by decide +kernel) (by decide) ?_
    obtain ⟨t5, q4, hf⟩ := b1_some hf
    refine sF_callS (idx := 114) (As := [.int a1, .int (-1), .int 5]) (pc' := 14) 3 (T_YM_in (G := G) (h := h)  q4) (by decide +kernel) mv_YM_in ml_X12_114 (by decide +kernel) rfl rfl (Nat.le_of_ble_eq_true rfl) rfl ?_
    refine sd_if_ne (off := 6) (tgt := 20) (pc' := 17) (by decide +kernel) (fun c6 => ?_) (fun c6 => ?_)
    · replace hf := ite_n c6 hf
      refine sd_aload_n (k := 0) (i := 0) (q := 0) (pc' := 21) (by decide +kernel) rfl rfl ?_
      refine sF_gr (idx := 38) (ci := 12) (k := 12) (n := 47) (r := 136) (pc' := 24) (by decide +kernel) fl_X12_38 (by decide +kernel) rfl SH_126 (by decide) (by decide +kernel) ?_
      refine sd_iload_n (k := 1) (i := 1) (q := 1) (pc' := 25) (by decide +kernel) rfl rfl ?_
      obtain ⟨g7, hf⟩ := gd_some hf
      refine sF_iald (n := 5) (pc' := 26) (by decide +kernel) SH_136 g7 ?_
      refine sd_istore_n (k := 3) (i := 3) (pc' := 27) (lo' := [(3, .int (h.1 136 (a0 : Int32).toNatClampNeg)), (0, .ref (G.1 + 126)), (1, .int a0), (2, .int a1)]) (by decide +kernel) rfl (by decide) rfl ?_
      refine sd_aload_n (k := 0) (i := 0) (q := 1) (pc' := 28) (by decide +kernel) rfl rfl ?_
      refine sd_iconst (n := 5) (v := 5) (pc' := 29) (by decide +kernel) (by decide) ?_
      refine sd_iload_n (k := 1) (i := 1) (q := 2) (pc' := 30) (by decide +kernel) rfl rfl ?_
      refine sd_iload_n (k := 3) (i := 3) (q := 0) (pc' := 31) (by decide +kernel) rfl rfl ?_
      refine sd_iconst (n := 0) (v := 0) (pc' := 32) (by decide +kernel) (by decide) ?_
      refine sd_iconst (n := 0) (v := 0) (pc' := 33) (by decide +kernel) (by decide) ?_
      obtain ⟨h9, q8, hf⟩ := b1_some hf
      refine sF_callV0 (idx := 157) (b := 126) (As := [.int 5, .int a0, .int (h.1 136 (a0 : Int32).toNatClampNeg), .int 0, .int 0]) (ci := 12) (nn := 47) (pc' := 36) 5 (T_YM_logs (G := G) (h := h)  q8) (by decide +kernel) mv_YM_logs ml_X12_157 (by decide +kernel) rfl rfl (Nat.le_of_ble_eq_true rfl) SH_126 rfl (by decide) rfl rfl ?_
      refine sd_aload_n (k := 0) (i := 0) (q := 1) (pc' := 37) (by decide +kernel) rfl rfl ?_
      refine sF_gr (idx := 38) (ci := 12) (k := 12) (n := 47) (r := 136) (pc' := 40) (by decide +kernel) fl_X12_38 (by decide +kernel) rfl SH_126 (by decide) (by decide +kernel) ?_
      refine sd_iload_n (k := 1) (i := 1) (q := 2) (pc' := 41) (by decide +kernel) rfl rfl ?_
      refine sd_iload_n (k := 2) (i := 2) (q := 3) (pc' := 42) (by decide +kernel) rfl rfl ?_
      obtain ⟨g10, hf⟩ := gd_some hf
      obtain ⟨h11, e12, hf⟩ := hb_some hf
      refine sF_iast (n := 5) (pc' := 43) (by decide +kernel) SH_136 g10 ?_
      rw [← e12]; clear e12
      refine sd_iload_n (k := 3) (i := 3) (q := 0) (pc' := 44) (by decide +kernel) rfl rfl ?_
      obtain rfl := Option.some.inj hf
      exact sd_iret (by decide +kernel) rfl (hE _)
    · replace hf := ite_p c6 hf
      refine sd_bipush (n := -2) (v := (-2)) (pc' := 19) (by decide +kernel) (by decide) ?_
      obtain rfl := Option.some.inj hf
      exact sd_iret (by decide +kernel) rfl (hE _)

def M_YM_undo : sd_MX := (yX12_undo, cX12_undo, 5, (some .int), { frames := 1, cells := 0, slots := 0, locals := 40 })
def YM_undo (h : sd_H) : Option (sd_H × Int32) :=
  (if (h.1 126 18) = 0 then some (h, (-3)) else hb (wI h 126 18 ((h.1 126 18) - 1)) (fun h2 => gd (sd_inB (6 * (h2.1 126 18)) 120) (gd (sd_inB ((6 * (h2.1 126 18)) + 1) 120) (gd (sd_inB ((6 * (h2.1 126 18)) + 2) 120) (gd (sd_inB ((6 * (h2.1 126 18)) + 3) 120) ((if (h2.1 141 ((6 * (h2.1 126 18)) : Int32).toNatClampNeg) = 0 then hb (wI h2 126 6 (h2.1 141 (((6 * (h2.1 126 18)) + 2) : Int32).toNatClampNeg)) (fun h9 => some (h9, (h2.1 141 ((6 * (h2.1 126 18)) : Int32).toNatClampNeg))) else (if (h2.1 141 ((6 * (h2.1 126 18)) : Int32).toNatClampNeg) = 1 then hb (wI h2 126 7 ((h2.1 126 7) - 1)) (fun h11 => some (h11, (h2.1 141 ((6 * (h2.1 126 18)) : Int32).toNatClampNeg))) else (if (h2.1 141 ((6 * (h2.1 126 18)) : Int32).toNatClampNeg) = 2 then gd (sd_inB (h2.1 141 (((6 * (h2.1 126 18)) + 1) : Int32).toNatClampNeg) 15) (hb (wI h2 137 ((h2.1 141 (((6 * (h2.1 126 18)) + 1) : Int32).toNatClampNeg) : Int32).toNatClampNeg (h2.1 141 (((6 * (h2.1 126 18)) + 2) : Int32).toNatClampNeg)) (fun h14 => some (h14, (h2.1 141 ((6 * (h2.1 126 18)) : Int32).toNatClampNeg)))) else (if (h2.1 141 ((6 * (h2.1 126 18)) : Int32).toNatClampNeg) = 3 then gd (sd_inB (h2.1 141 (((6 * (h2.1 126 18)) + 1) : Int32).toNatClampNeg) 15) (hb (wI h2 138 ((h2.1 141 (((6 * (h2.1 126 18)) + 1) : Int32).toNatClampNeg) : Int32).toNatClampNeg (h2.1 141 (((6 * (h2.1 126 18)) + 2) : Int32).toNatClampNeg)) (fun h17 => gd (sd_inB (h2.1 141 (((6 * (h2.1 126 18)) + 1) : Int32).toNatClampNeg) 15) (hb (wI h17 139 ((h2.1 141 (((6 * (h2.1 126 18)) + 1) : Int32).toNatClampNeg) : Int32).toNatClampNeg (h2.1 141 (((6 * (h2.1 126 18)) + 3) : Int32).toNatClampNeg)) (fun h20 => gd (sd_inB ((6 * (h20.1 126 18)) + 4) 120) (gd (sd_inB (h2.1 141 (((6 * (h2.1 126 18)) + 1) : Int32).toNatClampNeg) 15) (hb (wI h20 140 ((h2.1 141 (((6 * (h2.1 126 18)) + 1) : Int32).toNatClampNeg) : Int32).toNatClampNeg (h20.1 141 (((6 * (h20.1 126 18)) + 4) : Int32).toNatClampNeg)) (fun h24 => some (h24, (h2.1 141 ((6 * (h2.1 126 18)) : Int32).toNatClampNeg))))))))) else (if (h2.1 141 ((6 * (h2.1 126 18)) : Int32).toNatClampNeg) = 4 then gd (sd_inB (h2.1 141 (((6 * (h2.1 126 18)) + 1) : Int32).toNatClampNeg) 5) (hb (wI h2 134 ((h2.1 141 (((6 * (h2.1 126 18)) + 1) : Int32).toNatClampNeg) : Int32).toNatClampNeg (h2.1 141 (((6 * (h2.1 126 18)) + 2) : Int32).toNatClampNeg)) (fun h27 => gd (sd_inB (h2.1 141 (((6 * (h2.1 126 18)) + 1) : Int32).toNatClampNeg) 5) (hb (wI h27 135 ((h2.1 141 (((6 * (h2.1 126 18)) + 1) : Int32).toNatClampNeg) : Int32).toNatClampNeg (h2.1 141 (((6 * (h2.1 126 18)) + 3) : Int32).toNatClampNeg)) (fun h30 => some (h30, (h2.1 141 ((6 * (h2.1 126 18)) : Int32).toNatClampNeg)))))) else (gd (sd_inB (h2.1 141 (((6 * (h2.1 126 18)) + 1) : Int32).toNatClampNeg) 5) (hb (wI h2 136 ((h2.1 141 (((6 * (h2.1 126 18)) + 1) : Int32).toNatClampNeg) : Int32).toNatClampNeg (h2.1 141 (((6 * (h2.1 126 18)) + 2) : Int32).toNatClampNeg)) (fun h33 => some (h33, (h2.1 141 ((6 * (h2.1 126 18)) : Int32).toNatClampNeg))))))))))))))))
set_option maxHeartbeats 4000000 in
set_option maxRecDepth 100000 in
theorem T_YM_undo {G : sd_GX} {h : sd_H} {r : (sd_H × Int32)} (hf : YM_undo h = some r) : sd_RunF G M_YM_undo [.ref (G.1 + 126)] h (some (.int r.2)) r.1 := by
  refine sF_run ⟨rfl, rfl⟩ (by decide +kernel) (Nat.le_of_ble_eq_true rfl) (lo := [(0, .ref (G.1 + 126))]) rfl (fun X hE => ?_)
  unfold YM_undo at hf
  refine sd_aload_n (k := 0) (i := 0) (q := 0) (pc' := 1) (by decide +kernel) rfl rfl ?_
  refine sF_gi (idx := 151) (ci := 12) (k := 18) (n := 47) (pc' := 4) (by decide +kernel) fl_X12_151 (by decide +kernel) rfl SH_126 ?_
  refine sd_if_ne (off := 6) (tgt := 10) (pc' := 7) (by decide +kernel) (fun c1 => ?_) (fun c1 => ?_)
  · replace hf := ite_n c1 hf
    refine sd_aload_n (k := 0) (i := 0) (q := 0) (pc' := 11) (by decide +kernel) rfl rfl ?_
    refine sd_dup (pc' := 12) (by decide +kernel) rfl ?_
    refine sF_gi (idx := 151) (ci := 12) (k := 18) (n := 47) (pc' := 15) (by decide +kernel) fl_X12_151 (by decide +kernel) rfl SH_126 ?_
    refine sd_iconst (n := 1) (v := 1) (pc' := 16) (by decide +kernel) (by decide) ?_
    refine sd_isub (pc' := 17) (by decide +kernel) ?_
    obtain ⟨h2, e3, hf⟩ := hb_some hf
    refine sF_pi (idx := 151) (ci := 12) (k := 18) (n := 47) (pc' := 20) (by decide +kernel) fl_X12_151 (by decide +kernel) rfl rfl rfl SH_126 ?_
    rw [← e3]; clear e3
    refine sd_aload_n (k := 0) (i := 0) (q := 0) (pc' := 21) (by decide +kernel) rfl rfl ?_
    refine sF_gr (idx := 53) (ci := 12) (k := 17) (n := 47) (r := 141) (pc' := 24) (by decide +kernel) fl_X12_53 (by decide +kernel) rfl SH_126 (by decide) (by decide +kernel) ?_
    refine sd_bipush (n := 6) (v := 6) (pc' := 26) (by decide +kernel) (by decide) ?_
    refine sd_aload_n (k := 0) (i := 0) (q := 0) (pc' := 27) (by decide +kernel) rfl rfl ?_
    refine sF_gi (idx := 151) (ci := 12) (k := 18) (n := 47) (pc' := 30) (by decide +kernel) fl_X12_151 (by decide +kernel) rfl SH_126 ?_
    refine sd_imul (pc' := 31) (by decide +kernel) ?_
    obtain ⟨g4, hf⟩ := gd_some hf
    refine sF_iald (n := 120) (pc' := 32) (by decide +kernel) SH_141 g4 ?_
    refine sd_istore_n (k := 1) (i := 1) (pc' := 33) (lo' := [(1, .int (h2.1 141 ((6 * (h2.1 126 18)) : Int32).toNatClampNeg)), (0, .ref (G.1 + 126))]) (by decide +kernel) rfl (by decide) rfl ?_
    refine sd_aload_n (k := 0) (i := 0) (q := 1) (pc' := 34) (by decide +kernel) rfl rfl ?_
    refine sF_gr (idx := 53) (ci := 12) (k := 17) (n := 47) (r := 141) (pc' := 37) (by decide +kernel) fl_X12_53 (by decide +kernel) rfl SH_126 (by decide) (by decide +kernel) ?_
    refine sd_bipush (n := 6) (v := 6) (pc' := 39) (by decide +kernel) (by decide) ?_
    refine sd_aload_n (k := 0) (i := 0) (q := 1) (pc' := 40) (by decide +kernel) rfl rfl ?_
    refine sF_gi (idx := 151) (ci := 12) (k := 18) (n := 47) (pc' := 43) (by decide +kernel) fl_X12_151 (by decide +kernel) rfl SH_126 ?_
    refine sd_imul (pc' := 44) (by decide +kernel) ?_
    refine sd_iconst (n := 1) (v := 1) (pc' := 45) (by decide +kernel) (by decide) ?_
    refine sd_iadd (pc' := 46) (by decide +kernel) ?_
    obtain ⟨g5, hf⟩ := gd_some hf
    refine sF_iald (n := 120) (pc' := 47) (by decide +kernel) SH_141 g5 ?_
    refine sd_istore_n (k := 2) (i := 2) (pc' := 48) (lo' := [(2, .int (h2.1 141 (((6 * (h2.1 126 18)) + 1) : Int32).toNatClampNeg)), (1, .int (h2.1 141 ((6 * (h2.1 126 18)) : Int32).toNatClampNeg)), (0, .ref (G.1 + 126))]) (by decide +kernel) rfl (by decide) rfl ?_
    refine sd_aload_n (k := 0) (i := 0) (q := 2) (pc' := 49) (by decide +kernel) rfl rfl ?_
    refine sF_gr (idx := 53) (ci := 12) (k := 17) (n := 47) (r := 141) (pc' := 52) (by decide +kernel) fl_X12_53 (by decide +kernel) rfl SH_126 (by decide) (by decide +kernel) ?_
    refine sd_bipush (n := 6) (v := 6) (pc' := 54) (by decide +kernel) (by decide) ?_
    refine sd_aload_n (k := 0) (i := 0) (q := 2) (pc' := 55) (by decide +kernel) rfl rfl ?_
    refine sF_gi (idx := 151) (ci := 12) (k := 18) (n := 47) (pc' := 58) (by decide +kernel) fl_X12_151 (by decide +kernel) rfl SH_126 ?_
    refine sd_imul (pc' := 59) (by decide +kernel) ?_
    refine sd_iconst (n := 2) (v := 2) (pc' := 60) (by decide +kernel) (by decide) ?_
    refine sd_iadd (pc' := 61) (by decide +kernel) ?_
    obtain ⟨g6, hf⟩ := gd_some hf
    refine sF_iald (n := 120) (pc' := 62) (by decide +kernel) SH_141 g6 ?_
    refine sd_istore_n (k := 3) (i := 3) (pc' := 63) (lo' := [(3, .int (h2.1 141 (((6 * (h2.1 126 18)) + 2) : Int32).toNatClampNeg)), (2, .int (h2.1 141 (((6 * (h2.1 126 18)) + 1) : Int32).toNatClampNeg)), (1, .int (h2.1 141 ((6 * (h2.1 126 18)) : Int32).toNatClampNeg)), (0, .ref (G.1 + 126))]) (by decide +kernel) rfl (by decide) rfl ?_
    refine sd_aload_n (k := 0) (i := 0) (q := 3) (pc' := 64) (by decide +kernel) rfl rfl ?_
    refine sF_gr (idx := 53) (ci := 12) (k := 17) (n := 47) (r := 141) (pc' := 67) (by decide +kernel) fl_X12_53 (by decide +kernel) rfl SH_126 (by decide) (by decide +kernel) ?_
    refine sd_bipush (n := 6) (v := 6) (pc' := 69) (by decide +kernel) (by decide) ?_
    refine sd_aload_n (k := 0) (i := 0) (q := 3) (pc' := 70) (by decide +kernel) rfl rfl ?_
    refine sF_gi (idx := 151) (ci := 12) (k := 18) (n := 47) (pc' := 73) (by decide +kernel) fl_X12_151 (by decide +kernel) rfl SH_126 ?_
    refine sd_imul (pc' := 74) (by decide +kernel) ?_
    refine sd_iconst (n := 3) (v := 3) (pc' := 75) (by decide +kernel) (by decide) ?_
    refine sd_iadd (pc' := 76) (by decide +kernel) ?_
    obtain ⟨g7, hf⟩ := gd_some hf
    refine sF_iald (n := 120) (pc' := 77) (by decide +kernel) SH_141 g7 ?_
    refine sd_istore (i := 4) (pc' := 79) (lo' := [(4, .int (h2.1 141 (((6 * (h2.1 126 18)) + 3) : Int32).toNatClampNeg)), (3, .int (h2.1 141 (((6 * (h2.1 126 18)) + 2) : Int32).toNatClampNeg)), (2, .int (h2.1 141 (((6 * (h2.1 126 18)) + 1) : Int32).toNatClampNeg)), (1, .int (h2.1 141 ((6 * (h2.1 126 18)) : Int32).toNatClampNeg)), (0, .ref (G.1 + 126))]) (by decide +kernel) (by decide) rfl ?_
    refine sd_iload_n (k := 1) (i := 1) (q := 3) (pc' := 80) (by decide +kernel) rfl rfl ?_
    by_cases c8_0 : (h2.1 141 ((6 * (h2.1 126 18)) : Int32).toNatClampNeg) = 0
    · replace hf := ite_p c8_0 hf
      refine sd_tswIn (dflt := 123) (lo0 := 0) (hi0 := 4) (offs := #[36, 44, 57, 67, 105]) (len := 36) (off := 36) (tgt := 116) (pc' := 116) (by decide +kernel) (by rw [c8_0]; decide) (by rw [c8_0]; decide) (by rw [c8_0]; decide) ?_
      refine sd_aload_n (k := 0) (i := 0) (q := 4) (pc' := 117) (by decide +kernel) rfl rfl ?_
      refine sd_iload_n (k := 3) (i := 3) (q := 1) (pc' := 118) (by decide +kernel) rfl rfl ?_
      obtain ⟨h9, e10, hf⟩ := hb_some hf
      refine sF_pi (idx := 154) (ci := 12) (k := 6) (n := 47) (pc' := 121) (by decide +kernel) fl_X12_154 (by decide +kernel) rfl rfl rfl SH_126 ?_
      rw [← e10]; clear e10
      refine sd_goto (off := 89) (tgt := 210) (pc' := 124) (by decide +kernel) ?_
      refine sd_iload_n (k := 1) (i := 1) (q := 3) (pc' := 211) (by decide +kernel) rfl rfl ?_
      obtain rfl := Option.some.inj hf
      exact sd_iret (by decide +kernel) rfl (hE _)
    · replace hf := ite_n c8_0 hf
      by_cases c8_1 : (h2.1 141 ((6 * (h2.1 126 18)) : Int32).toNatClampNeg) = 1
      · replace hf := ite_p c8_1 hf
        refine sd_tswIn (dflt := 123) (lo0 := 0) (hi0 := 4) (offs := #[36, 44, 57, 67, 105]) (len := 36) (off := 44) (tgt := 124) (pc' := 116) (by decide +kernel) (by rw [c8_1]; decide) (by rw [c8_1]; decide) (by rw [c8_1]; decide) ?_
        refine sd_aload_n (k := 0) (i := 0) (q := 4) (pc' := 125) (by decide +kernel) rfl rfl ?_
        refine sd_dup (pc' := 126) (by decide +kernel) rfl ?_
        refine sF_gi (idx := 171) (ci := 12) (k := 7) (n := 47) (pc' := 129) (by decide +kernel) fl_X12_171 (by decide +kernel) rfl SH_126 ?_
        refine sd_iconst (n := 1) (v := 1) (pc' := 130) (by decide +kernel) (by decide) ?_
        refine sd_isub (pc' := 131) (by decide +kernel) ?_
        obtain ⟨h11, e12, hf⟩ := hb_some hf
        refine sF_pi (idx := 171) (ci := 12) (k := 7) (n := 47) (pc' := 134) (by decide +kernel) fl_X12_171 (by decide +kernel) rfl rfl rfl SH_126 ?_
        rw [← e12]; clear e12
        refine sd_goto (off := 76) (tgt := 210) (pc' := 137) (by decide +kernel) ?_
        refine sd_iload_n (k := 1) (i := 1) (q := 3) (pc' := 211) (by decide +kernel) rfl rfl ?_
        obtain rfl := Option.some.inj hf
        exact sd_iret (by decide +kernel) rfl (hE _)
      · replace hf := ite_n c8_1 hf
        by_cases c8_2 : (h2.1 141 ((6 * (h2.1 126 18)) : Int32).toNatClampNeg) = 2
        · replace hf := ite_p c8_2 hf
          refine sd_tswIn (dflt := 123) (lo0 := 0) (hi0 := 4) (offs := #[36, 44, 57, 67, 105]) (len := 36) (off := 57) (tgt := 137) (pc' := 116) (by decide +kernel) (by rw [c8_2]; decide) (by rw [c8_2]; decide) (by rw [c8_2]; decide) ?_
          refine sd_aload_n (k := 0) (i := 0) (q := 4) (pc' := 138) (by decide +kernel) rfl rfl ?_
          refine sF_gr (idx := 41) (ci := 12) (k := 13) (n := 47) (r := 137) (pc' := 141) (by decide +kernel) fl_X12_41 (by decide +kernel) rfl SH_126 (by decide) (by decide +kernel) ?_
          refine sd_iload_n (k := 2) (i := 2) (q := 2) (pc' := 142) (by decide +kernel) rfl rfl ?_
          refine sd_iload_n (k := 3) (i := 3) (q := 1) (pc' := 143) (by decide +kernel) rfl rfl ?_
          obtain ⟨g13, hf⟩ := gd_some hf
          obtain ⟨h14, e15, hf⟩ := hb_some hf
          refine sF_iast (n := 15) (pc' := 144) (by decide +kernel) SH_137 g13 ?_
          rw [← e15]; clear e15
          refine sd_goto (off := 66) (tgt := 210) (pc' := 147) (by decide +kernel) ?_
          refine sd_iload_n (k := 1) (i := 1) (q := 3) (pc' := 211) (by decide +kernel) rfl rfl ?_
          obtain rfl := Option.some.inj hf
          exact sd_iret (by decide +kernel) rfl (hE _)
        · replace hf := ite_n c8_2 hf
          by_cases c8_3 : (h2.1 141 ((6 * (h2.1 126 18)) : Int32).toNatClampNeg) = 3
          · replace hf := ite_p c8_3 hf
            refine sd_tswIn (dflt := 123) (lo0 := 0) (hi0 := 4) (offs := #[36, 44, 57, 67, 105]) (len := 36) (off := 67) (tgt := 147) (pc' := 116) (by decide +kernel) (by rw [c8_3]; decide) (by rw [c8_3]; decide) (by rw [c8_3]; decide) ?_
            refine sd_aload_n (k := 0) (i := 0) (q := 4) (pc' := 148) (by decide +kernel) rfl rfl ?_
            refine sF_gr (idx := 44) (ci := 12) (k := 14) (n := 47) (r := 138) (pc' := 151) (by decide +kernel) fl_X12_44 (by decide +kernel) rfl SH_126 (by decide) (by decide +kernel) ?_
            refine sd_iload_n (k := 2) (i := 2) (q := 2) (pc' := 152) (by decide +kernel) rfl rfl ?_
            refine sd_iload_n (k := 3) (i := 3) (q := 1) (pc' := 153) (by decide +kernel) rfl rfl ?_
            obtain ⟨g16, hf⟩ := gd_some hf
            obtain ⟨h17, e18, hf⟩ := hb_some hf
            refine sF_iast (n := 15) (pc' := 154) (by decide +kernel) SH_138 g16 ?_
            rw [← e18]; clear e18
            refine sd_aload_n (k := 0) (i := 0) (q := 4) (pc' := 155) (by decide +kernel) rfl rfl ?_
            refine sF_gr (idx := 47) (ci := 12) (k := 15) (n := 47) (r := 139) (pc' := 158) (by decide +kernel) fl_X12_47 (by decide +kernel) rfl SH_126 (by decide) (by decide +kernel) ?_
            refine sd_iload_n (k := 2) (i := 2) (q := 2) (pc' := 159) (by decide +kernel) rfl rfl ?_
            refine sd_iload (i := 4) (q := 0) (pc' := 161) (by decide +kernel) rfl ?_
            obtain ⟨g19, hf⟩ := gd_some hf
            obtain ⟨h20, e21, hf⟩ := hb_some hf
            refine sF_iast (n := 15) (pc' := 162) (by decide +kernel) SH_139 g19 ?_
            rw [← e21]; clear e21
            refine sd_aload_n (k := 0) (i := 0) (q := 4) (pc' := 163) (by decide +kernel) rfl rfl ?_
            refine sF_gr (idx := 50) (ci := 12) (k := 16) (n := 47) (r := 140) (pc' := 166) (by decide +kernel) fl_X12_50 (by decide +kernel) rfl SH_126 (by decide) (by decide +kernel) ?_
            refine sd_iload_n (k := 2) (i := 2) (q := 2) (pc' := 167) (by decide +kernel) rfl rfl ?_
            refine sd_aload_n (k := 0) (i := 0) (q := 4) (pc' := 168) (by decide +kernel) rfl rfl ?_
            refine sF_gr (idx := 53) (ci := 12) (k := 17) (n := 47) (r := 141) (pc' := 171) (by decide +kernel) fl_X12_53 (by decide +kernel) rfl SH_126 (by decide) (by decide +kernel) ?_
            refine sd_bipush (n := 6) (v := 6) (pc' := 173) (by decide +kernel) (by decide) ?_
            refine sd_aload_n (k := 0) (i := 0) (q := 4) (pc' := 174) (by decide +kernel) rfl rfl ?_
            refine sF_gi (idx := 151) (ci := 12) (k := 18) (n := 47) (pc' := 177) (by decide +kernel) fl_X12_151 (by decide +kernel) rfl SH_126 ?_
            refine sd_imul (pc' := 178) (by decide +kernel) ?_
            refine sd_iconst (n := 4) (v := 4) (pc' := 179) (by decide +kernel) (by decide) ?_
            refine sd_iadd (pc' := 180) (by decide +kernel) ?_
            obtain ⟨g22, hf⟩ := gd_some hf
            refine sF_iald (n := 120) (pc' := 181) (by decide +kernel) SH_141 g22 ?_
            obtain ⟨g23, hf⟩ := gd_some hf
            obtain ⟨h24, e25, hf⟩ := hb_some hf
            refine sF_iast (n := 15) (pc' := 182) (by decide +kernel) SH_140 g23 ?_
            rw [← e25]; clear e25
            refine sd_goto (off := 28) (tgt := 210) (pc' := 185) (by decide +kernel) ?_
            refine sd_iload_n (k := 1) (i := 1) (q := 3) (pc' := 211) (by decide +kernel) rfl rfl ?_
            obtain rfl := Option.some.inj hf
            exact sd_iret (by decide +kernel) rfl (hE _)
          · replace hf := ite_n c8_3 hf
            by_cases c8_4 : (h2.1 141 ((6 * (h2.1 126 18)) : Int32).toNatClampNeg) = 4
            · replace hf := ite_p c8_4 hf
              refine sd_tswIn (dflt := 123) (lo0 := 0) (hi0 := 4) (offs := #[36, 44, 57, 67, 105]) (len := 36) (off := 105) (tgt := 185) (pc' := 116) (by decide +kernel) (by rw [c8_4]; decide) (by rw [c8_4]; decide) (by rw [c8_4]; decide) ?_
              refine sd_aload_n (k := 0) (i := 0) (q := 4) (pc' := 186) (by decide +kernel) rfl rfl ?_
              refine sF_gr (idx := 32) (ci := 12) (k := 10) (n := 47) (r := 134) (pc' := 189) (by decide +kernel) fl_X12_32 (by decide +kernel) rfl SH_126 (by decide) (by decide +kernel) ?_
              refine sd_iload_n (k := 2) (i := 2) (q := 2) (pc' := 190) (by decide +kernel) rfl rfl ?_
              refine sd_iload_n (k := 3) (i := 3) (q := 1) (pc' := 191) (by decide +kernel) rfl rfl ?_
              obtain ⟨g26, hf⟩ := gd_some hf
              obtain ⟨h27, e28, hf⟩ := hb_some hf
              refine sF_iast (n := 5) (pc' := 192) (by decide +kernel) SH_134 g26 ?_
              rw [← e28]; clear e28
              refine sd_aload_n (k := 0) (i := 0) (q := 4) (pc' := 193) (by decide +kernel) rfl rfl ?_
              refine sF_gr (idx := 35) (ci := 12) (k := 11) (n := 47) (r := 135) (pc' := 196) (by decide +kernel) fl_X12_35 (by decide +kernel) rfl SH_126 (by decide) (by decide +kernel) ?_
              refine sd_iload_n (k := 2) (i := 2) (q := 2) (pc' := 197) (by decide +kernel) rfl rfl ?_
              refine sd_iload (i := 4) (q := 0) (pc' := 199) (by decide +kernel) rfl ?_
              obtain ⟨g29, hf⟩ := gd_some hf
              obtain ⟨h30, e31, hf⟩ := hb_some hf
              refine sF_iast (n := 5) (pc' := 200) (by decide +kernel) SH_135 g29 ?_
              rw [← e31]; clear e31
              refine sd_goto (off := 10) (tgt := 210) (pc' := 203) (by decide +kernel) ?_
              refine sd_iload_n (k := 1) (i := 1) (q := 3) (pc' := 211) (by decide +kernel) rfl rfl ?_
              obtain rfl := Option.some.inj hf
              exact sd_iret (by decide +kernel) rfl (hE _)
            · replace hf := ite_n c8_4 hf
              have nc8_0 := ne_ti c8_0 (n := 0) (by decide)
              have nc8_1 := ne_ti c8_1 (n := 1) (by decide)
              have nc8_2 := ne_ti c8_2 (n := 2) (by decide)
              have nc8_3 := ne_ti c8_3 (n := 3) (by decide)
              have nc8_4 := ne_ti c8_4 (n := 4) (by decide)
              refine sd_tswOut (dflt := 123) (lo0 := 0) (hi0 := 4) (offs := #[36, 44, 57, 67, 105]) (len := 36) (tgt := 203) (pc' := 116) (by decide +kernel) (by omega) ?_
              refine sd_aload_n (k := 0) (i := 0) (q := 4) (pc' := 204) (by decide +kernel) rfl rfl ?_
              refine sF_gr (idx := 38) (ci := 12) (k := 12) (n := 47) (r := 136) (pc' := 207) (by decide +kernel) fl_X12_38 (by decide +kernel) rfl SH_126 (by decide) (by decide +kernel) ?_
              refine sd_iload_n (k := 2) (i := 2) (q := 2) (pc' := 208) (by decide +kernel) rfl rfl ?_
              refine sd_iload_n (k := 3) (i := 3) (q := 1) (pc' := 209) (by decide +kernel) rfl rfl ?_
              obtain ⟨g32, hf⟩ := gd_some hf
              obtain ⟨h33, e34, hf⟩ := hb_some hf
              refine sF_iast (n := 5) (pc' := 210) (by decide +kernel) SH_136 g32 ?_
              rw [← e34]; clear e34
              refine sd_iload_n (k := 1) (i := 1) (q := 3) (pc' := 211) (by decide +kernel) rfl rfl ?_
              obtain rfl := Option.some.inj hf
              exact sd_iret (by decide +kernel) rfl (hE _)
  · replace hf := ite_p c1 hf
    refine sd_bipush (n := -3) (v := (-3)) (pc' := 9) (by decide +kernel) (by decide) ?_
    obtain rfl := Option.some.inj hf
    exact sd_iret (by decide +kernel) rfl (hE _)

def M_YM_isDone : sd_MX := (yX12_isDone, cX12_isDone, 5, (some .boolean), { frames := 1, cells := 0, slots := 0, locals := 40 })
def YM_isDone_B53 (h : sd_H) (l1 : Int32) (l2 : Int32) (s0 : Int32) : Option Int32 :=
  (if s0 = 0 then some 0 else gd (sd_inB l1 5) (gd (nz (h.1 134 (l1 : Int32).toNatClampNeg)) (gd (sd_inB l1 5) ((if (l2 - l2 / (h.1 134 (l1 : Int32).toNatClampNeg) * (h.1 134 (l1 : Int32).toNatClampNeg)) = (h.1 135 (l1 : Int32).toNatClampNeg) then some 1 else some 0)))))
set_option maxHeartbeats 4000000 in
set_option maxRecDepth 100000 in
theorem J_YM_isDone_B53 {G : sd_GX} {X : sd_CX} (hE : ∀ g : sd_H, sd_end G X M_YM_isDone (sd_F g)) {h : sd_H} {r : Int32} {l1 : Int32} {l2 : Int32} {s0 : Int32} (hf : YM_isDone_B53 h l1 l2 s0 = some r) : sd_J G X (sd_QR G X M_YM_isDone (some (.int r), sd_F h)) M_YM_isDone 53 [(0, .ref (G.1 + 126)), (1, .int l1), (2, .int l2)] [.int s0] (sd_F h) := by
  unfold YM_isDone_B53 at hf
  refine sd_istore (i := 4) (pc' := 55) (lo' := [(4, .int s0), (0, .ref (G.1 + 126)), (1, .int l1), (2, .int l2)]) (by decide +kernel) (by decide) rfl ?_
  refine sd_iload (i := 4) (q := 0) (pc' := 57) (by decide +kernel) rfl ?_
  refine sd_if_eq (off := 24) (tgt := 81) (pc' := 60) (by decide +kernel) (fun c3 => ?_) (fun c3 => ?_)
  · replace hf := ite_p c3 hf
    refine sd_iconst (n := 0) (v := 0) (pc' := 82) (by decide +kernel) (by decide) ?_
    obtain rfl := Option.some.inj hf
    exact sd_zret (by decide +kernel) rfl rfl (hE _)
  · replace hf := ite_n c3 hf
    refine sd_iload_n (k := 2) (i := 2) (q := 3) (pc' := 61) (by decide +kernel) rfl rfl ?_
    refine sd_aload_n (k := 0) (i := 0) (q := 1) (pc' := 62) (by decide +kernel) rfl rfl ?_
    refine sF_gr (idx := 32) (ci := 12) (k := 10) (n := 47) (r := 134) (pc' := 65) (by decide +kernel) fl_X12_32 (by decide +kernel) rfl SH_126 (by decide) (by decide +kernel) ?_
    refine sd_iload_n (k := 1) (i := 1) (q := 2) (pc' := 66) (by decide +kernel) rfl rfl ?_
    obtain ⟨g4, hf⟩ := gd_some hf
    refine sF_iald (n := 5) (pc' := 67) (by decide +kernel) SH_134 g4 ?_
    obtain ⟨g5, hf⟩ := gd_some hf
    refine sd_irem (pc' := 68) (by decide +kernel) (nz_of g5) ?_
    refine sd_aload_n (k := 0) (i := 0) (q := 1) (pc' := 69) (by decide +kernel) rfl rfl ?_
    refine sF_gr (idx := 35) (ci := 12) (k := 11) (n := 47) (r := 135) (pc' := 72) (by decide +kernel) fl_X12_35 (by decide +kernel) rfl SH_126 (by decide) (by decide +kernel) ?_
    refine sd_iload_n (k := 1) (i := 1) (q := 2) (pc' := 73) (by decide +kernel) rfl rfl ?_
    obtain ⟨g6, hf⟩ := gd_some hf
    refine sF_iald (n := 5) (pc' := 74) (by decide +kernel) SH_135 g6 ?_
    refine sd_icmp_ne (off := 7) (tgt := 81) (pc' := 77) (by decide +kernel) (fun c7 => ?_) (fun c7 => ?_)
    · replace hf := ite_n c7 hf
      refine sd_iconst (n := 0) (v := 0) (pc' := 82) (by decide +kernel) (by decide) ?_
      obtain rfl := Option.some.inj hf
      exact sd_zret (by decide +kernel) rfl rfl (hE _)
    · replace hf := ite_p c7 hf
      refine sd_iconst (n := 1) (v := 1) (pc' := 78) (by decide +kernel) (by decide) ?_
      refine sd_goto (off := 4) (tgt := 82) (pc' := 81) (by decide +kernel) ?_
      obtain rfl := Option.some.inj hf
      exact sd_zret (by decide +kernel) rfl rfl (hE _)
def YM_isDone_B48 (h : sd_H) (l1 : Int32) (l2 : Int32) : Option Int32 :=
  YM_isDone_B53 h l1 l2 1
set_option maxHeartbeats 4000000 in
set_option maxRecDepth 100000 in
theorem J_YM_isDone_B48 {G : sd_GX} {X : sd_CX} (hE : ∀ g : sd_H, sd_end G X M_YM_isDone (sd_F g)) {h : sd_H} {r : Int32} {l1 : Int32} {l2 : Int32} (hf : YM_isDone_B48 h l1 l2 = some r) : sd_J G X (sd_QR G X M_YM_isDone (some (.int r), sd_F h)) M_YM_isDone 48 [(0, .ref (G.1 + 126)), (1, .int l1), (2, .int l2)] [] (sd_F h) := by
  unfold YM_isDone_B48 at hf
  refine sd_iconst (n := 1) (v := 1) (pc' := 49) (by decide +kernel) (by decide) ?_
  refine sd_goto (off := 4) (tgt := 53) (pc' := 52) (by decide +kernel) ?_
  refine sd_J.sub (lo' := [(0, .ref (G.1 + 126)), (1, .int l1), (2, .int l2)]) [0, 1, 2] rfl ?_
  exact J_YM_isDone_B53 hE hf
def YM_isDone_B52 (h : sd_H) (l1 : Int32) (l2 : Int32) : Option Int32 :=
  YM_isDone_B53 h l1 l2 0
set_option maxHeartbeats 4000000 in
set_option maxRecDepth 100000 in
theorem J_YM_isDone_B52 {G : sd_GX} {X : sd_CX} (hE : ∀ g : sd_H, sd_end G X M_YM_isDone (sd_F g)) {h : sd_H} {r : Int32} {l1 : Int32} {l2 : Int32} (hf : YM_isDone_B52 h l1 l2 = some r) : sd_J G X (sd_QR G X M_YM_isDone (some (.int r), sd_F h)) M_YM_isDone 52 [(0, .ref (G.1 + 126)), (1, .int l1), (2, .int l2)] [] (sd_F h) := by
  unfold YM_isDone_B52 at hf
  refine sd_iconst (n := 0) (v := 0) (pc' := 53) (by decide +kernel) (by decide) ?_
  refine sd_J.sub (lo' := [(0, .ref (G.1 + 126)), (1, .int l1), (2, .int l2)]) [0, 1, 2] rfl ?_
  exact J_YM_isDone_B53 hE hf
def YM_isDone (h : sd_H) (a0 : Int32) (a1 : Int32) : Option Int32 :=
  gd (sd_inB a0 5) ((if (h.1 136 (a0 : Int32).toNatClampNeg) = (-1) then YM_isDone_B48 h a0 a1 else gd (sd_inB (h.1 136 (a0 : Int32).toNatClampNeg) 6) ((if (h.1 127 ((h.1 136 (a0 : Int32).toNatClampNeg) : Int32).toNatClampNeg) = 4 then gd (sd_inB (h.1 136 (a0 : Int32).toNatClampNeg) 6) ((if (h.1 128 ((h.1 136 (a0 : Int32).toNatClampNeg) : Int32).toNatClampNeg) ≤ a1 then YM_isDone_B52 h a0 a1 else gd (sd_inB ((24 * (h.1 136 (a0 : Int32).toNatClampNeg)) + a1) 144) ((if (Op.cmpValue (FP.dcmp (h.2.1 129 (((24 * (h.1 136 (a0 : Int32).toNatClampNeg)) + a1) : Int32).toNatClampNeg) FP.dconst0) .l) = 0 then YM_isDone_B52 h a0 a1 else YM_isDone_B48 h a0 a1)))) else YM_isDone_B52 h a0 a1))))
set_option maxHeartbeats 4000000 in
set_option maxRecDepth 100000 in
theorem T_YM_isDone {G : sd_GX} {h : sd_H} {a0 : Int32} {a1 : Int32} {r : Int32} (hf : YM_isDone h a0 a1 = some r) : sd_RunF G M_YM_isDone [.ref (G.1 + 126), .int a0, .int a1] h (some (.int r)) h := by
  refine sF_run ⟨rfl, rfl⟩ (by decide +kernel) (Nat.le_of_ble_eq_true rfl) (lo := [(0, .ref (G.1 + 126)), (1, .int a0), (2, .int a1)]) rfl (fun X hE => ?_)
  unfold YM_isDone at hf
  refine sd_aload_n (k := 0) (i := 0) (q := 0) (pc' := 1) (by decide +kernel) rfl rfl ?_
  refine sF_gr (idx := 38) (ci := 12) (k := 12) (n := 47) (r := 136) (pc' := 4) (by decide +kernel) fl_X12_38 (by decide +kernel) rfl SH_126 (by decide) (by decide +kernel) ?_
  refine sd_iload_n (k := 1) (i := 1) (q := 1) (pc' := 5) (by decide +kernel) rfl rfl ?_
  obtain ⟨g1, hf⟩ := gd_some hf
  refine sF_iald (n := 5) (pc' := 6) (by decide +kernel) SH_136 g1 ?_
  refine sd_istore_n (k := 3) (i := 3) (pc' := 7) (lo' := [(3, .int (h.1 136 (a0 : Int32).toNatClampNeg)), (0, .ref (G.1 + 126)), (1, .int a0), (2, .int a1)]) (by decide +kernel) rfl (by decide) rfl ?_
  refine sd_iload_n (k := 3) (i := 3) (q := 0) (pc' := 8) (by decide +kernel) rfl rfl ?_
  refine sd_iconst (n := -1) (v := (-1)) (pc' := 9) (by decide +kernel) (by decide) ?_
  refine sd_icmp_eq (off := 39) (tgt := 48) (pc' := 12) (by decide +kernel) (fun c2 => ?_) (fun c2 => ?_)
  · replace hf := ite_p c2 hf
    refine sd_J.sub (lo' := [(0, .ref (G.1 + 126)), (1, .int a0), (2, .int a1)]) [1, 2, 3] rfl ?_
    exact J_YM_isDone_B48 hE hf
  · replace hf := ite_n c2 hf
    refine sd_aload_n (k := 0) (i := 0) (q := 1) (pc' := 13) (by decide +kernel) rfl rfl ?_
    refine sF_gr (idx := 7) (ci := 12) (k := 0) (n := 47) (r := 127) (pc' := 16) (by decide +kernel) fl_X12_7 (by decide +kernel) rfl SH_126 (by decide) (by decide +kernel) ?_
    refine sd_iload_n (k := 3) (i := 3) (q := 0) (pc' := 17) (by decide +kernel) rfl rfl ?_
    obtain ⟨g8, hf⟩ := gd_some hf
    refine sF_iald (n := 6) (pc' := 18) (by decide +kernel) SH_127 g8 ?_
    refine sd_iconst (n := 4) (v := 4) (pc' := 19) (by decide +kernel) (by decide) ?_
    refine sd_icmp_ne (off := 33) (tgt := 52) (pc' := 22) (by decide +kernel) (fun c9 => ?_) (fun c9 => ?_)
    · replace hf := ite_n c9 hf
      refine sd_J.sub (lo' := [(0, .ref (G.1 + 126)), (1, .int a0), (2, .int a1)]) [1, 2, 3] rfl ?_
      exact J_YM_isDone_B52 hE hf
    · replace hf := ite_p c9 hf
      refine sd_iload_n (k := 2) (i := 2) (q := 3) (pc' := 23) (by decide +kernel) rfl rfl ?_
      refine sd_aload_n (k := 0) (i := 0) (q := 1) (pc' := 24) (by decide +kernel) rfl rfl ?_
      refine sF_gr (idx := 13) (ci := 12) (k := 1) (n := 47) (r := 128) (pc' := 27) (by decide +kernel) fl_X12_13 (by decide +kernel) rfl SH_126 (by decide) (by decide +kernel) ?_
      refine sd_iload_n (k := 3) (i := 3) (q := 0) (pc' := 28) (by decide +kernel) rfl rfl ?_
      obtain ⟨g10, hf⟩ := gd_some hf
      refine sF_iald (n := 6) (pc' := 29) (by decide +kernel) SH_128 g10 ?_
      refine sd_icmp_ge (off := 23) (tgt := 52) (pc' := 32) (by decide +kernel) (fun c11 => ?_) (fun c11 => ?_)
      · replace hf := ite_p c11 hf
        refine sd_J.sub (lo' := [(0, .ref (G.1 + 126)), (1, .int a0), (2, .int a1)]) [1, 2, 3] rfl ?_
        exact J_YM_isDone_B52 hE hf
      · replace hf := ite_n c11 hf
        refine sd_aload_n (k := 0) (i := 0) (q := 1) (pc' := 33) (by decide +kernel) rfl rfl ?_
        refine sF_gr (idx := 16) (ci := 12) (k := 2) (n := 47) (r := 129) (pc' := 36) (by decide +kernel) fl_X12_16 (by decide +kernel) rfl SH_126 (by decide) (by decide +kernel) ?_
        refine sd_bipush (n := 24) (v := 24) (pc' := 38) (by decide +kernel) (by decide) ?_
        refine sd_iload_n (k := 3) (i := 3) (q := 0) (pc' := 39) (by decide +kernel) rfl rfl ?_
        refine sd_imul (pc' := 40) (by decide +kernel) ?_
        refine sd_iload_n (k := 2) (i := 2) (q := 3) (pc' := 41) (by decide +kernel) rfl rfl ?_
        refine sd_iadd (pc' := 42) (by decide +kernel) ?_
        obtain ⟨g12, hf⟩ := gd_some hf
        refine sF_dald (n := 144) (pc' := 43) (by decide +kernel) SH_129 g12 ?_
        refine sd_dconst0 (pc' := 44) (by decide +kernel) ?_
        refine sd_dcmp (op := .l) (pc' := 45) (by decide +kernel) ?_
        refine sd_if_eq (off := 7) (tgt := 52) (pc' := 48) (by decide +kernel) (fun c13 => ?_) (fun c13 => ?_)
        · replace hf := ite_p c13 hf
          refine sd_J.sub (lo' := [(0, .ref (G.1 + 126)), (1, .int a0), (2, .int a1)]) [1, 2, 3] rfl ?_
          exact J_YM_isDone_B52 hE hf
        · replace hf := ite_n c13 hf
          refine sd_J.sub (lo' := [(0, .ref (G.1 + 126)), (1, .int a0), (2, .int a1)]) [1, 2, 3] rfl ?_
          exact J_YM_isDone_B48 hE hf

theorem ml_X12_177 : Cond.methodLink RX12 177 yX12_isDone ∈ sd_tb := sd_mem (i := 1415) (by decide +kernel)
theorem mv_YM_isDone : sd_mV M_YM_isDone 2 := ⟨sd_mem (i := 1417) (by decide +kernel), sd_mem (i := 48) (by decide +kernel), ⟨sd_mem (i := 1418) (by decide +kernel), sd_mem (i := 119) (by decide +kernel), by decide +kernel, by decide +kernel, by decide +kernel⟩⟩
def M_YM_doneMany : sd_MX := (yX12_doneMany, cX12_doneMany, 4, (some .int), { frames := 2, cells := 0, slots := 0, locals := 64 })
def YM_doneMany_B27 (h : sd_H) (K4 : Int32 → Int32 → Int32 → Option Int32) (l1 : Int32) (l3 : Int32) (s0 : Int32) (s1 : Int32) : Option Int32 :=
  K4 l1 (s1 + s0) (l3 + 1)
set_option maxHeartbeats 4000000 in
set_option maxRecDepth 100000 in
theorem J_YM_doneMany_B27 {G : sd_GX} {X : sd_CX} (hE : ∀ g : sd_H, sd_end G X M_YM_doneMany (sd_F g)) {h : sd_H} {K4 : Int32 → Int32 → Int32 → Option Int32} {r : Int32} (hK4 : ∀ (l1 : Int32) (l2 : Int32) (l3 : Int32), K4 l1 l2 l3 = some r → sd_J G X (sd_QR G X M_YM_doneMany (some (.int r), sd_F h)) M_YM_doneMany 4 [(0, .ref (G.1 + 126)), (1, .int l1), (2, .int l2), (3, .int l3)] [] (sd_F h)) {l1 : Int32} {l3 : Int32} {s0 : Int32} {s1 : Int32} (hf : YM_doneMany_B27 h K4 l1 l3 s0 s1 = some r) : sd_J G X (sd_QR G X M_YM_doneMany (some (.int r), sd_F h)) M_YM_doneMany 27 [(0, .ref (G.1 + 126)), (1, .int l1), (3, .int l3)] [.int s0, .int s1] (sd_F h) := by
  unfold YM_doneMany_B27 at hf
  refine sd_iadd (pc' := 28) (by decide +kernel) ?_
  refine sd_istore_n (k := 2) (i := 2) (pc' := 29) (lo' := [(2, .int (s1 + s0)), (0, .ref (G.1 + 126)), (1, .int l1), (3, .int l3)]) (by decide +kernel) rfl (by decide) rfl ?_
  refine sd_iinc (i := 3) (q := 3) (n := 1) (v := (l3 + 1)) (pc' := 32) (lo' := [(3, .int (l3 + 1)), (2, .int (s1 + s0)), (0, .ref (G.1 + 126)), (1, .int l1)]) (by decide +kernel) rfl rfl (by decide) rfl ?_
  refine sd_goto (off := -28) (tgt := 4) (pc' := 35) (by decide +kernel) ?_
  refine sd_J.sub (lo' := [(0, .ref (G.1 + 126)), (1, .int l1), (2, .int (s1 + s0)), (3, .int (l3 + 1))]) [2, 3, 1, 0] rfl ?_
  exact hK4 _ _ _ hf
def YM_doneMany_L4 (h : sd_H) : Nat → Int32 → Int32 → Int32 → Option Int32
  | 0, _, _, _ => none
  | n + 1, l1, l2, l3 =>
  (if (h.1 126 6) ≤ l3 then some l2 else b1 (YM_isDone h l1 l3) (fun t3 => (if t3 = 0 then YM_doneMany_B27 h (YM_doneMany_L4 h n) l1 l3 0 l2 else YM_doneMany_B27 h (YM_doneMany_L4 h n) l1 l3 1 l2)))
set_option maxHeartbeats 4000000 in
set_option maxRecDepth 100000 in
theorem J_YM_doneMany_L4 {G : sd_GX} {X : sd_CX} (hE : ∀ g : sd_H, sd_end G X M_YM_doneMany (sd_F g)) {h : sd_H} {r : Int32} : ∀ (n : Nat) (l1 : Int32) (l2 : Int32) (l3 : Int32), YM_doneMany_L4 h n l1 l2 l3 = some r → sd_J G X (sd_QR G X M_YM_doneMany (some (.int r), sd_F h)) M_YM_doneMany 4 [(0, .ref (G.1 + 126)), (1, .int l1), (2, .int l2), (3, .int l3)] [] (sd_F h) := by
  intro n
  induction n with
  | zero =>
    intro l1 l2 l3 hf
    rw [YM_doneMany_L4] at hf
    cases hf
  | succ n ih =>
    intro l1 l2 l3 hf
    rw [YM_doneMany_L4] at hf
    refine sd_iload_n (k := 3) (i := 3) (q := 3) (pc' := 5) (by decide +kernel) rfl rfl ?_
    refine sd_aload_n (k := 0) (i := 0) (q := 0) (pc' := 6) (by decide +kernel) rfl rfl ?_
    refine sF_gi (idx := 154) (ci := 12) (k := 6) (n := 47) (pc' := 9) (by decide +kernel) fl_X12_154 (by decide +kernel) rfl SH_126 ?_
    refine sd_icmp_ge (off := 26) (tgt := 35) (pc' := 12) (by decide +kernel) (fun c1 => ?_) (fun c1 => ?_)
    · replace hf := ite_p c1 hf
      refine sd_iload_n (k := 2) (i := 2) (q := 2) (pc' := 36) (by decide +kernel) rfl rfl ?_
      obtain rfl := Option.some.inj hf
      exact sd_iret (by decide +kernel) rfl (hE _)
    · replace hf := ite_n c1 hf
      refine sd_iload_n (k := 2) (i := 2) (q := 2) (pc' := 13) (by decide +kernel) rfl rfl ?_
      refine sd_aload_n (k := 0) (i := 0) (q := 0) (pc' := 14) (by decide +kernel) rfl rfl ?_
      refine sd_iload_n (k := 1) (i := 1) (q := 1) (pc' := 15) (by decide +kernel) rfl rfl ?_
      refine sd_iload_n (k := 3) (i := 3) (q := 3) (pc' := 16) (by decide +kernel) rfl rfl ?_
      obtain ⟨t3, q2, hf⟩ := b1_some hf
      refine sF_callV (idx := 177) (b := 126) (As := [.int l1, .int l3]) (ci := 12) (nn := 47) (pc' := 19) 2 (T_YM_isDone (G := G) (h := h)  q2) (by decide +kernel) mv_YM_isDone ml_X12_177 (by decide +kernel) rfl rfl (Nat.le_of_ble_eq_true rfl) SH_126 rfl (by decide) rfl rfl ?_
      refine sd_if_eq (off := 7) (tgt := 26) (pc' := 22) (by decide +kernel) (fun c4 => ?_) (fun c4 => ?_)
      · replace hf := ite_p c4 hf
        refine sd_iconst (n := 0) (v := 0) (pc' := 27) (by decide +kernel) (by decide) ?_
        refine sd_J.sub (lo' := [(0, .ref (G.1 + 126)), (1, .int l1), (3, .int l3)]) [0, 1, 3] rfl ?_
        exact J_YM_doneMany_B27 hE ih hf
      · replace hf := ite_n c4 hf
        refine sd_iconst (n := 1) (v := 1) (pc' := 23) (by decide +kernel) (by decide) ?_
        refine sd_goto (off := 4) (tgt := 27) (pc' := 26) (by decide +kernel) ?_
        refine sd_J.sub (lo' := [(0, .ref (G.1 + 126)), (1, .int l1), (3, .int l3)]) [0, 1, 3] rfl ?_
        exact J_YM_doneMany_B27 hE ih hf
def YM_doneMany (h : sd_H) (a0 : Int32) : Option Int32 :=
  YM_doneMany_L4 h FU a0 0 0
set_option maxHeartbeats 4000000 in
set_option maxRecDepth 100000 in
theorem T_YM_doneMany {G : sd_GX} {h : sd_H} {a0 : Int32} {r : Int32} (hf : YM_doneMany h a0 = some r) : sd_RunF G M_YM_doneMany [.ref (G.1 + 126), .int a0] h (some (.int r)) h := by
  refine sF_run ⟨rfl, rfl⟩ (by decide +kernel) (Nat.le_of_ble_eq_true rfl) (lo := [(0, .ref (G.1 + 126)), (1, .int a0)]) rfl (fun X hE => ?_)
  unfold YM_doneMany at hf
  refine sd_iconst (n := 0) (v := 0) (pc' := 1) (by decide +kernel) (by decide) ?_
  refine sd_istore_n (k := 2) (i := 2) (pc' := 2) (lo' := [(2, .int 0), (0, .ref (G.1 + 126)), (1, .int a0)]) (by decide +kernel) rfl (by decide) rfl ?_
  refine sd_iconst (n := 0) (v := 0) (pc' := 3) (by decide +kernel) (by decide) ?_
  refine sd_istore_n (k := 3) (i := 3) (pc' := 4) (lo' := [(3, .int 0), (2, .int 0), (0, .ref (G.1 + 126)), (1, .int a0)]) (by decide +kernel) rfl (by decide) rfl ?_
  refine sd_J.sub (lo' := [(0, .ref (G.1 + 126)), (1, .int a0), (2, .int 0), (3, .int 0)]) [2, 3, 1, 0] rfl ?_
  exact J_YM_doneMany_L4 hE _ _ _ _ hf

def M_YM_isLooked : sd_MX := (yX12_isLooked, cX12_isLooked, 2, (some .boolean), { frames := 1, cells := 0, slots := 0, locals := 40 })
def YM_isLooked_B30 (h : sd_H) : Option Int32 :=
  some 1
set_option maxHeartbeats 4000000 in
set_option maxRecDepth 100000 in
theorem J_YM_isLooked_B30 {G : sd_GX} {X : sd_CX} (hE : ∀ g : sd_H, sd_end G X M_YM_isLooked (sd_F g)) {h : sd_H} {r : Int32} (hf : YM_isLooked_B30 h = some r) : sd_J G X (sd_QR G X M_YM_isLooked (some (.int r), sd_F h)) M_YM_isLooked 30 [] [] (sd_F h) := by
  unfold YM_isLooked_B30 at hf
  refine sd_iconst (n := 1) (v := 1) (pc' := 31) (by decide +kernel) (by decide) ?_
  refine sd_goto (off := 4) (tgt := 35) (pc' := 34) (by decide +kernel) ?_
  obtain rfl := Option.some.inj hf
  exact sd_zret (by decide +kernel) rfl rfl (hE _)
def YM_isLooked (h : sd_H) (a0 : Int32) : Option Int32 :=
  gd (sd_inB a0 15) ((if (h.1 137 (a0 : Int32).toNatClampNeg) = (-1) then some 0 else (if (a0 - a0 / 3 * 3) < 2 then YM_isLooked_B30 h else gd (sd_inB (a0 / 3) 5) ((if (h.1 132 ((a0 / 3) : Int32).toNatClampNeg) = 9 then some 0 else YM_isLooked_B30 h)))))
set_option maxHeartbeats 4000000 in
set_option maxRecDepth 100000 in
theorem T_YM_isLooked {G : sd_GX} {h : sd_H} {a0 : Int32} {r : Int32} (hf : YM_isLooked h a0 = some r) : sd_RunF G M_YM_isLooked [.ref (G.1 + 126), .int a0] h (some (.int r)) h := by
  refine sF_run ⟨rfl, rfl⟩ (by decide +kernel) (Nat.le_of_ble_eq_true rfl) (lo := [(0, .ref (G.1 + 126)), (1, .int a0)]) rfl (fun X hE => ?_)
  unfold YM_isLooked at hf
  refine sd_aload_n (k := 0) (i := 0) (q := 0) (pc' := 1) (by decide +kernel) rfl rfl ?_
  refine sF_gr (idx := 41) (ci := 12) (k := 13) (n := 47) (r := 137) (pc' := 4) (by decide +kernel) fl_X12_41 (by decide +kernel) rfl SH_126 (by decide) (by decide +kernel) ?_
  refine sd_iload_n (k := 1) (i := 1) (q := 1) (pc' := 5) (by decide +kernel) rfl rfl ?_
  obtain ⟨g1, hf⟩ := gd_some hf
  refine sF_iald (n := 15) (pc' := 6) (by decide +kernel) SH_137 g1 ?_
  refine sd_iconst (n := -1) (v := (-1)) (pc' := 7) (by decide +kernel) (by decide) ?_
  refine sd_icmp_eq (off := 27) (tgt := 34) (pc' := 10) (by decide +kernel) (fun c2 => ?_) (fun c2 => ?_)
  · replace hf := ite_p c2 hf
    refine sd_iconst (n := 0) (v := 0) (pc' := 35) (by decide +kernel) (by decide) ?_
    obtain rfl := Option.some.inj hf
    exact sd_zret (by decide +kernel) rfl rfl (hE _)
  · replace hf := ite_n c2 hf
    refine sd_iload_n (k := 1) (i := 1) (q := 1) (pc' := 11) (by decide +kernel) rfl rfl ?_
    refine sd_iconst (n := 3) (v := 3) (pc' := 12) (by decide +kernel) (by decide) ?_
    refine sd_irem (pc' := 13) (by decide +kernel) (by decide) ?_
    refine sd_iconst (n := 2) (v := 2) (pc' := 14) (by decide +kernel) (by decide) ?_
    refine sd_icmp_lt (off := 16) (tgt := 30) (pc' := 17) (by decide +kernel) (fun c3 => ?_) (fun c3 => ?_)
    · replace hf := ite_p c3 hf
      refine sd_J.sub (lo' := []) [] rfl ?_
      exact J_YM_isLooked_B30 hE hf
    · replace hf := ite_n c3 hf
      refine sd_aload_n (k := 0) (i := 0) (q := 0) (pc' := 18) (by decide +kernel) rfl rfl ?_
      refine sF_gr (idx := 26) (ci := 12) (k := 8) (n := 47) (r := 132) (pc' := 21) (by decide +kernel) fl_X12_26 (by decide +kernel) rfl SH_126 (by decide) (by decide +kernel) ?_
      refine sd_iload_n (k := 1) (i := 1) (q := 1) (pc' := 22) (by decide +kernel) rfl rfl ?_
      refine sd_iconst (n := 3) (v := 3) (pc' := 23) (by decide +kernel) (by decide) ?_
      refine sd_idiv (pc' := 24) (by decide +kernel) (by decide) ?_
      obtain ⟨g4, hf⟩ := gd_some hf
      refine sF_iald (n := 5) (pc' := 25) (by decide +kernel) SH_132 g4 ?_
      refine sd_bipush (n := 9) (v := 9) (pc' := 27) (by decide +kernel) (by decide) ?_
      refine sd_icmp_eq (off := 7) (tgt := 34) (pc' := 30) (by decide +kernel) (fun c5 => ?_) (fun c5 => ?_)
      · replace hf := ite_p c5 hf
        refine sd_iconst (n := 0) (v := 0) (pc' := 35) (by decide +kernel) (by decide) ?_
        obtain rfl := Option.some.inj hf
        exact sd_zret (by decide +kernel) rfl rfl (hE _)
      · replace hf := ite_n c5 hf
        refine sd_J.sub (lo' := []) [] rfl ?_
        exact J_YM_isLooked_B30 hE hf

def M_YM_isNumbers : sd_MX := (yX12_isNumbers, cX12_isNumbers, 1, (some .boolean), { frames := 2, cells := 0, slots := 0, locals := 62 })
def YM_isNumbers (a0 : Int32) : Option Int32 :=
  b1 (YM_in a0 0 3) (fun t2 => gd (sd_isB t2) (some t2))
set_option maxHeartbeats 4000000 in
set_option maxRecDepth 100000 in
theorem T_YM_isNumbers {G : sd_GX} {h : sd_H} {a0 : Int32} {r : Int32} (hf : YM_isNumbers a0 = some r) : sd_RunF G M_YM_isNumbers [.int a0] h (some (.int r)) h := by
  refine sF_run ⟨rfl, rfl⟩ (by decide +kernel) (Nat.le_of_ble_eq_true rfl) (lo := [(0, .int a0)]) rfl (fun X hE => ?_)
  unfold YM_isNumbers at hf
  refine sd_iload_n (k := 0) (i := 0) (q := 0) (pc' := 1) (by decide +kernel) rfl rfl ?_
  refine sd_iconst (n := 0) (v := 0) (pc' := 2) (by decide +kernel) (by decide) ?_
  refine sd_iconst (n := 3) (v := 3) (pc' := 3) (by decide +kernel) (by decide) ?_
  obtain ⟨t2, q1, hf⟩ := b1_some hf
  refine sF_callS (idx := 114) (As := [.int a0, .int 0, .int 3]) (pc' := 6) 3 (T_YM_in (G := G) (h := h)  q1) (by decide +kernel) mv_YM_in ml_X12_114 (by decide +kernel) rfl rfl (Nat.le_of_ble_eq_true rfl) rfl ?_
  obtain ⟨g3, hf⟩ := gd_some hf
  obtain rfl := Option.some.inj hf
  exact sd_zret (by decide +kernel) rfl g3 (hE _)

def M_YM_formAs : sd_MX := (yX12_formAs, cX12_formAs, 4, (some .int), { frames := 1, cells := 0, slots := 0, locals := 40 })
def YM_formAs (h : sd_H) (a0 : Int32) (a1 : Int32) (a2 : Int32) : Option Int32 :=
  (if a0 = a1 then some a2 else gd (sd_inB a0 6) (some (h.1 127 (a0 : Int32).toNatClampNeg)))
set_option maxHeartbeats 4000000 in
set_option maxRecDepth 100000 in
theorem T_YM_formAs {G : sd_GX} {h : sd_H} {a0 : Int32} {a1 : Int32} {a2 : Int32} {r : Int32} (hf : YM_formAs h a0 a1 a2 = some r) : sd_RunF G M_YM_formAs [.ref (G.1 + 126), .int a0, .int a1, .int a2] h (some (.int r)) h := by
  refine sF_run ⟨rfl, rfl⟩ (by decide +kernel) (Nat.le_of_ble_eq_true rfl) (lo := [(0, .ref (G.1 + 126)), (1, .int a0), (2, .int a1), (3, .int a2)]) rfl (fun X hE => ?_)
  unfold YM_formAs at hf
  refine sd_iload_n (k := 1) (i := 1) (q := 1) (pc' := 1) (by decide +kernel) rfl rfl ?_
  refine sd_iload_n (k := 2) (i := 2) (q := 2) (pc' := 2) (by decide +kernel) rfl rfl ?_
  refine sd_icmp_ne (off := 7) (tgt := 9) (pc' := 5) (by decide +kernel) (fun c1 => ?_) (fun c1 => ?_)
  · replace hf := ite_n c1 hf
    refine sd_aload_n (k := 0) (i := 0) (q := 0) (pc' := 10) (by decide +kernel) rfl rfl ?_
    refine sF_gr (idx := 7) (ci := 12) (k := 0) (n := 47) (r := 127) (pc' := 13) (by decide +kernel) fl_X12_7 (by decide +kernel) rfl SH_126 (by decide) (by decide +kernel) ?_
    refine sd_iload_n (k := 1) (i := 1) (q := 1) (pc' := 14) (by decide +kernel) rfl rfl ?_
    obtain ⟨g2, hf⟩ := gd_some hf
    refine sF_iald (n := 6) (pc' := 15) (by decide +kernel) SH_127 g2 ?_
    obtain rfl := Option.some.inj hf
    exact sd_iret (by decide +kernel) rfl (hE _)
  · replace hf := ite_p c1 hf
    refine sd_iload_n (k := 3) (i := 3) (q := 3) (pc' := 6) (by decide +kernel) rfl rfl ?_
    refine sd_goto (off := 9) (tgt := 15) (pc' := 9) (by decide +kernel) ?_
    obtain rfl := Option.some.inj hf
    exact sd_iret (by decide +kernel) rfl (hE _)

theorem ml_X12_181 : Cond.methodLink RX12 181 yX12_formAs ∈ sd_tb := sd_mem (i := 1404) (by decide +kernel)
theorem mv_YM_formAs : sd_mV M_YM_formAs 3 := ⟨sd_mem (i := 1406) (by decide +kernel), sd_mem (i := 46) (by decide +kernel), ⟨sd_mem (i := 1407) (by decide +kernel), sd_mem (i := 119) (by decide +kernel), by decide +kernel, by decide +kernel, by decide +kernel⟩⟩
theorem ml_X12_185 : Cond.methodLink RX12 185 yX12_isNumbers ∈ sd_tb := sd_mem (i := 1408) (by decide +kernel)
theorem mv_YM_isNumbers : sd_mS M_YM_isNumbers 1 := ⟨sd_mem (i := 1409) (by decide +kernel), ⟨sd_mem (i := 1410) (by decide +kernel), sd_mem (i := 119) (by decide +kernel), by decide +kernel, by decide +kernel, by decide +kernel⟩⟩
def M_YM_familyAs : sd_MX := (yX12_familyAs, cX12_familyAs, 11, (some .int), { frames := 3, cells := 0, slots := 0, locals := 82 })
def YM_familyAs_B256 (h : sd_H) (l9 : Int32) : Option Int32 :=
  (if l9 = 0 then some 1 else (if l9 = 1 then some 1 else (if l9 = 2 then some 2 else (if l9 = 3 then some 0 else (if l9 = 4 then some (l9 - 1) else (if l9 = 5 then some (l9 - 1) else (if l9 = 6 then some (l9 - 1) else (if l9 = 7 then some (l9 - 1) else (if l9 = 8 then some (l9 - 1) else (some 0))))))))))
set_option maxHeartbeats 4000000 in
set_option maxRecDepth 100000 in
theorem J_YM_familyAs_B256 {G : sd_GX} {X : sd_CX} (hE : ∀ g : sd_H, sd_end G X M_YM_familyAs (sd_F g)) {h : sd_H} {r : Int32} {l9 : Int32} (hf : YM_familyAs_B256 h l9 = some r) : sd_J G X (sd_QR G X M_YM_familyAs (some (.int r), sd_F h)) M_YM_familyAs 256 [(9, .int l9)] [] (sd_F h) := by
  unfold YM_familyAs_B256 at hf
  refine sd_iload (i := 9) (q := 0) (pc' := 258) (by decide +kernel) rfl ?_
  by_cases c23_0 : l9 = 0
  · replace hf := ite_p c23_0 hf
    refine sd_tswIn (dflt := 64) (lo0 := 0) (hi0 := 8) (offs := #[50, 50, 52, 64, 54, 54, 59, 59, 59]) (len := 50) (off := 50) (tgt := 308) (pc' := 308) (by decide +kernel) (by rw [c23_0]; decide) (by rw [c23_0]; decide) (by rw [c23_0]; decide) ?_
    refine sd_iconst (n := 1) (v := 1) (pc' := 309) (by decide +kernel) (by decide) ?_
    obtain rfl := Option.some.inj hf
    exact sd_iret (by decide +kernel) rfl (hE _)
  · replace hf := ite_n c23_0 hf
    by_cases c23_1 : l9 = 1
    · replace hf := ite_p c23_1 hf
      refine sd_tswIn (dflt := 64) (lo0 := 0) (hi0 := 8) (offs := #[50, 50, 52, 64, 54, 54, 59, 59, 59]) (len := 50) (off := 50) (tgt := 308) (pc' := 308) (by decide +kernel) (by rw [c23_1]; decide) (by rw [c23_1]; decide) (by rw [c23_1]; decide) ?_
      refine sd_iconst (n := 1) (v := 1) (pc' := 309) (by decide +kernel) (by decide) ?_
      obtain rfl := Option.some.inj hf
      exact sd_iret (by decide +kernel) rfl (hE _)
    · replace hf := ite_n c23_1 hf
      by_cases c23_2 : l9 = 2
      · replace hf := ite_p c23_2 hf
        refine sd_tswIn (dflt := 64) (lo0 := 0) (hi0 := 8) (offs := #[50, 50, 52, 64, 54, 54, 59, 59, 59]) (len := 50) (off := 52) (tgt := 310) (pc' := 308) (by decide +kernel) (by rw [c23_2]; decide) (by rw [c23_2]; decide) (by rw [c23_2]; decide) ?_
        refine sd_iconst (n := 2) (v := 2) (pc' := 311) (by decide +kernel) (by decide) ?_
        obtain rfl := Option.some.inj hf
        exact sd_iret (by decide +kernel) rfl (hE _)
      · replace hf := ite_n c23_2 hf
        by_cases c23_3 : l9 = 3
        · replace hf := ite_p c23_3 hf
          refine sd_tswIn (dflt := 64) (lo0 := 0) (hi0 := 8) (offs := #[50, 50, 52, 64, 54, 54, 59, 59, 59]) (len := 50) (off := 64) (tgt := 322) (pc' := 308) (by decide +kernel) (by rw [c23_3]; decide) (by rw [c23_3]; decide) (by rw [c23_3]; decide) ?_
          refine sd_iconst (n := 0) (v := 0) (pc' := 323) (by decide +kernel) (by decide) ?_
          obtain rfl := Option.some.inj hf
          exact sd_iret (by decide +kernel) rfl (hE _)
        · replace hf := ite_n c23_3 hf
          by_cases c23_4 : l9 = 4
          · replace hf := ite_p c23_4 hf
            refine sd_tswIn (dflt := 64) (lo0 := 0) (hi0 := 8) (offs := #[50, 50, 52, 64, 54, 54, 59, 59, 59]) (len := 50) (off := 54) (tgt := 312) (pc' := 308) (by decide +kernel) (by rw [c23_4]; decide) (by rw [c23_4]; decide) (by rw [c23_4]; decide) ?_
            refine sd_iload (i := 9) (q := 0) (pc' := 314) (by decide +kernel) rfl ?_
            refine sd_iconst (n := 1) (v := 1) (pc' := 315) (by decide +kernel) (by decide) ?_
            refine sd_isub (pc' := 316) (by decide +kernel) ?_
            obtain rfl := Option.some.inj hf
            exact sd_iret (by decide +kernel) rfl (hE _)
          · replace hf := ite_n c23_4 hf
            by_cases c23_5 : l9 = 5
            · replace hf := ite_p c23_5 hf
              refine sd_tswIn (dflt := 64) (lo0 := 0) (hi0 := 8) (offs := #[50, 50, 52, 64, 54, 54, 59, 59, 59]) (len := 50) (off := 54) (tgt := 312) (pc' := 308) (by decide +kernel) (by rw [c23_5]; decide) (by rw [c23_5]; decide) (by rw [c23_5]; decide) ?_
              refine sd_iload (i := 9) (q := 0) (pc' := 314) (by decide +kernel) rfl ?_
              refine sd_iconst (n := 1) (v := 1) (pc' := 315) (by decide +kernel) (by decide) ?_
              refine sd_isub (pc' := 316) (by decide +kernel) ?_
              obtain rfl := Option.some.inj hf
              exact sd_iret (by decide +kernel) rfl (hE _)
            · replace hf := ite_n c23_5 hf
              by_cases c23_6 : l9 = 6
              · replace hf := ite_p c23_6 hf
                refine sd_tswIn (dflt := 64) (lo0 := 0) (hi0 := 8) (offs := #[50, 50, 52, 64, 54, 54, 59, 59, 59]) (len := 50) (off := 59) (tgt := 317) (pc' := 308) (by decide +kernel) (by rw [c23_6]; decide) (by rw [c23_6]; decide) (by rw [c23_6]; decide) ?_
                refine sd_iload (i := 9) (q := 0) (pc' := 319) (by decide +kernel) rfl ?_
                refine sd_iconst (n := 1) (v := 1) (pc' := 320) (by decide +kernel) (by decide) ?_
                refine sd_isub (pc' := 321) (by decide +kernel) ?_
                obtain rfl := Option.some.inj hf
                exact sd_iret (by decide +kernel) rfl (hE _)
              · replace hf := ite_n c23_6 hf
                by_cases c23_7 : l9 = 7
                · replace hf := ite_p c23_7 hf
                  refine sd_tswIn (dflt := 64) (lo0 := 0) (hi0 := 8) (offs := #[50, 50, 52, 64, 54, 54, 59, 59, 59]) (len := 50) (off := 59) (tgt := 317) (pc' := 308) (by decide +kernel) (by rw [c23_7]; decide) (by rw [c23_7]; decide) (by rw [c23_7]; decide) ?_
                  refine sd_iload (i := 9) (q := 0) (pc' := 319) (by decide +kernel) rfl ?_
                  refine sd_iconst (n := 1) (v := 1) (pc' := 320) (by decide +kernel) (by decide) ?_
                  refine sd_isub (pc' := 321) (by decide +kernel) ?_
                  obtain rfl := Option.some.inj hf
                  exact sd_iret (by decide +kernel) rfl (hE _)
                · replace hf := ite_n c23_7 hf
                  by_cases c23_8 : l9 = 8
                  · replace hf := ite_p c23_8 hf
                    refine sd_tswIn (dflt := 64) (lo0 := 0) (hi0 := 8) (offs := #[50, 50, 52, 64, 54, 54, 59, 59, 59]) (len := 50) (off := 59) (tgt := 317) (pc' := 308) (by decide +kernel) (by rw [c23_8]; decide) (by rw [c23_8]; decide) (by rw [c23_8]; decide) ?_
                    refine sd_iload (i := 9) (q := 0) (pc' := 319) (by decide +kernel) rfl ?_
                    refine sd_iconst (n := 1) (v := 1) (pc' := 320) (by decide +kernel) (by decide) ?_
                    refine sd_isub (pc' := 321) (by decide +kernel) ?_
                    obtain rfl := Option.some.inj hf
                    exact sd_iret (by decide +kernel) rfl (hE _)
                  · replace hf := ite_n c23_8 hf
                    have nc23_0 := ne_ti c23_0 (n := 0) (by decide)
                    have nc23_1 := ne_ti c23_1 (n := 1) (by decide)
                    have nc23_2 := ne_ti c23_2 (n := 2) (by decide)
                    have nc23_3 := ne_ti c23_3 (n := 3) (by decide)
                    have nc23_4 := ne_ti c23_4 (n := 4) (by decide)
                    have nc23_5 := ne_ti c23_5 (n := 5) (by decide)
                    have nc23_6 := ne_ti c23_6 (n := 6) (by decide)
                    have nc23_7 := ne_ti c23_7 (n := 7) (by decide)
                    have nc23_8 := ne_ti c23_8 (n := 8) (by decide)
                    refine sd_tswOut (dflt := 64) (lo0 := 0) (hi0 := 8) (offs := #[50, 50, 52, 64, 54, 54, 59, 59, 59]) (len := 50) (tgt := 322) (pc' := 308) (by decide +kernel) (by omega) ?_
                    refine sd_iconst (n := 0) (v := 0) (pc' := 323) (by decide +kernel) (by decide) ?_
                    obtain rfl := Option.some.inj hf
                    exact sd_iret (by decide +kernel) rfl (hE _)
def YM_familyAs_B217 (h : sd_H) (l9 : Int32) : Option Int32 :=
  some (l9 - 1)
set_option maxHeartbeats 4000000 in
set_option maxRecDepth 100000 in
theorem J_YM_familyAs_B217 {G : sd_GX} {X : sd_CX} (hE : ∀ g : sd_H, sd_end G X M_YM_familyAs (sd_F g)) {h : sd_H} {r : Int32} {l9 : Int32} (hf : YM_familyAs_B217 h l9 = some r) : sd_J G X (sd_QR G X M_YM_familyAs (some (.int r), sd_F h)) M_YM_familyAs 217 [(9, .int l9)] [] (sd_F h) := by
  unfold YM_familyAs_B217 at hf
  refine sd_iload (i := 9) (q := 0) (pc' := 219) (by decide +kernel) rfl ?_
  refine sd_iconst (n := 1) (v := 1) (pc' := 220) (by decide +kernel) (by decide) ?_
  refine sd_isub (pc' := 221) (by decide +kernel) ?_
  refine sd_goto (off := 4) (tgt := 225) (pc' := 224) (by decide +kernel) ?_
  obtain rfl := Option.some.inj hf
  exact sd_iret (by decide +kernel) rfl (hE _)
def YM_familyAs_B192 (h : sd_H) (l5 : Int32) (l7 : Int32) (l8 : Int32) (l9 : Int32) (s0 : Int32) : Option Int32 :=
  (if l7 ≤ 1 then (if 1 < l8 then some 0 else (if s0 = 0 then YM_familyAs_B256 h l9 else (if l7 = 0 then (if l8 = 1 then (if l5 = (-1) then YM_familyAs_B256 h l9 else some 0) else YM_familyAs_B256 h l9) else YM_familyAs_B256 h l9))) else (if s0 = 0 then some 0 else (if l7 = 3 then YM_familyAs_B217 h l9 else (if l8 = 3 then some 0 else YM_familyAs_B217 h l9))))
set_option maxHeartbeats 4000000 in
set_option maxRecDepth 100000 in
theorem J_YM_familyAs_B192 {G : sd_GX} {X : sd_CX} (hE : ∀ g : sd_H, sd_end G X M_YM_familyAs (sd_F g)) {h : sd_H} {r : Int32} {l5 : Int32} {l7 : Int32} {l8 : Int32} {l9 : Int32} {s0 : Int32} (hf : YM_familyAs_B192 h l5 l7 l8 l9 s0 = some r) : sd_J G X (sd_QR G X M_YM_familyAs (some (.int r), sd_F h)) M_YM_familyAs 192 [(5, .int l5), (7, .int l7), (8, .int l8), (9, .int l9)] [.int s0] (sd_F h) := by
  unfold YM_familyAs_B192 at hf
  refine sd_istore (i := 10) (pc' := 194) (lo' := [(10, .int s0), (5, .int l5), (7, .int l7), (8, .int l8), (9, .int l9)]) (by decide +kernel) (by decide) rfl ?_
  refine sd_iload (i := 7) (q := 2) (pc' := 196) (by decide +kernel) rfl ?_
  refine sd_iconst (n := 1) (v := 1) (pc' := 197) (by decide +kernel) (by decide) ?_
  refine sd_icmp_le (off := 29) (tgt := 226) (pc' := 200) (by decide +kernel) (fun c20 => ?_) (fun c20 => ?_)
  · replace hf := ite_p c20 hf
    refine sd_iload (i := 8) (q := 3) (pc' := 228) (by decide +kernel) rfl ?_
    refine sd_iconst (n := 1) (v := 1) (pc' := 229) (by decide +kernel) (by decide) ?_
    refine sd_icmp_gt (off := 25) (tgt := 254) (pc' := 232) (by decide +kernel) (fun c21 => ?_) (fun c21 => ?_)
    · replace hf := ite_p c21 hf
      refine sd_iconst (n := 0) (v := 0) (pc' := 255) (by decide +kernel) (by decide) ?_
      obtain rfl := Option.some.inj hf
      exact sd_iret (by decide +kernel) rfl (hE _)
    · replace hf := ite_n c21 hf
      refine sd_iload (i := 10) (q := 0) (pc' := 234) (by decide +kernel) rfl ?_
      refine sd_if_eq (off := 22) (tgt := 256) (pc' := 237) (by decide +kernel) (fun c22 => ?_) (fun c22 => ?_)
      · replace hf := ite_p c22 hf
        refine sd_J.sub (lo' := [(9, .int l9)]) [4] rfl ?_
        exact J_YM_familyAs_B256 hE hf
      · replace hf := ite_n c22 hf
        refine sd_iload (i := 7) (q := 2) (pc' := 239) (by decide +kernel) rfl ?_
        refine sd_if_ne (off := 17) (tgt := 256) (pc' := 242) (by decide +kernel) (fun c24 => ?_) (fun c24 => ?_)
        · replace hf := ite_n c24 hf
          refine sd_J.sub (lo' := [(9, .int l9)]) [4] rfl ?_
          exact J_YM_familyAs_B256 hE hf
        · replace hf := ite_p c24 hf
          refine sd_iload (i := 8) (q := 3) (pc' := 244) (by decide +kernel) rfl ?_
          refine sd_iconst (n := 1) (v := 1) (pc' := 245) (by decide +kernel) (by decide) ?_
          refine sd_icmp_ne (off := 11) (tgt := 256) (pc' := 248) (by decide +kernel) (fun c25 => ?_) (fun c25 => ?_)
          · replace hf := ite_n c25 hf
            refine sd_J.sub (lo' := [(9, .int l9)]) [4] rfl ?_
            exact J_YM_familyAs_B256 hE hf
          · replace hf := ite_p c25 hf
            refine sd_iload (i := 5) (q := 1) (pc' := 250) (by decide +kernel) rfl ?_
            refine sd_iconst (n := -1) (v := (-1)) (pc' := 251) (by decide +kernel) (by decide) ?_
            refine sd_icmp_eq (off := 5) (tgt := 256) (pc' := 254) (by decide +kernel) (fun c26 => ?_) (fun c26 => ?_)
            · replace hf := ite_p c26 hf
              refine sd_J.sub (lo' := [(9, .int l9)]) [4] rfl ?_
              exact J_YM_familyAs_B256 hE hf
            · replace hf := ite_n c26 hf
              refine sd_iconst (n := 0) (v := 0) (pc' := 255) (by decide +kernel) (by decide) ?_
              obtain rfl := Option.some.inj hf
              exact sd_iret (by decide +kernel) rfl (hE _)
  · replace hf := ite_n c20 hf
    refine sd_iload (i := 10) (q := 0) (pc' := 202) (by decide +kernel) rfl ?_
    refine sd_if_eq (off := 22) (tgt := 224) (pc' := 205) (by decide +kernel) (fun c27 => ?_) (fun c27 => ?_)
    · replace hf := ite_p c27 hf
      refine sd_iconst (n := 0) (v := 0) (pc' := 225) (by decide +kernel) (by decide) ?_
      obtain rfl := Option.some.inj hf
      exact sd_iret (by decide +kernel) rfl (hE _)
    · replace hf := ite_n c27 hf
      refine sd_iload (i := 7) (q := 2) (pc' := 207) (by decide +kernel) rfl ?_
      refine sd_iconst (n := 3) (v := 3) (pc' := 208) (by decide +kernel) (by decide) ?_
      refine sd_icmp_eq (off := 9) (tgt := 217) (pc' := 211) (by decide +kernel) (fun c28 => ?_) (fun c28 => ?_)
      · replace hf := ite_p c28 hf
        refine sd_J.sub (lo' := [(9, .int l9)]) [4] rfl ?_
        exact J_YM_familyAs_B217 hE hf
      · replace hf := ite_n c28 hf
        refine sd_iload (i := 8) (q := 3) (pc' := 213) (by decide +kernel) rfl ?_
        refine sd_iconst (n := 3) (v := 3) (pc' := 214) (by decide +kernel) (by decide) ?_
        refine sd_icmp_eq (off := 10) (tgt := 224) (pc' := 217) (by decide +kernel) (fun c29 => ?_) (fun c29 => ?_)
        · replace hf := ite_p c29 hf
          refine sd_iconst (n := 0) (v := 0) (pc' := 225) (by decide +kernel) (by decide) ?_
          obtain rfl := Option.some.inj hf
          exact sd_iret (by decide +kernel) rfl (hE _)
        · replace hf := ite_n c29 hf
          refine sd_J.sub (lo' := [(9, .int l9)]) [4] rfl ?_
          exact J_YM_familyAs_B217 hE hf
def YM_familyAs_B187 (h : sd_H) (l5 : Int32) (l7 : Int32) (l8 : Int32) (l9 : Int32) : Option Int32 :=
  YM_familyAs_B192 h l5 l7 l8 l9 1
set_option maxHeartbeats 4000000 in
set_option maxRecDepth 100000 in
theorem J_YM_familyAs_B187 {G : sd_GX} {X : sd_CX} (hE : ∀ g : sd_H, sd_end G X M_YM_familyAs (sd_F g)) {h : sd_H} {r : Int32} {l5 : Int32} {l7 : Int32} {l8 : Int32} {l9 : Int32} (hf : YM_familyAs_B187 h l5 l7 l8 l9 = some r) : sd_J G X (sd_QR G X M_YM_familyAs (some (.int r), sd_F h)) M_YM_familyAs 187 [(5, .int l5), (7, .int l7), (8, .int l8), (9, .int l9)] [] (sd_F h) := by
  unfold YM_familyAs_B187 at hf
  refine sd_iconst (n := 1) (v := 1) (pc' := 188) (by decide +kernel) (by decide) ?_
  refine sd_goto (off := 4) (tgt := 192) (pc' := 191) (by decide +kernel) ?_
  refine sd_J.sub (lo' := [(5, .int l5), (7, .int l7), (8, .int l8), (9, .int l9)]) [0, 1, 2, 3] rfl ?_
  exact J_YM_familyAs_B192 hE hf
def YM_familyAs_B135 (h : sd_H) (l1 : Int32) (l4 : Int32) (l5 : Int32) (l6 : Int32) (l7 : Int32) (s0 : Int32) : Option Int32 :=
  (if l6 = 0 then some 0 else b1 (YM_isNumbers l7) (fun t12 => (if t12 = 0 then some 0 else b1 (YM_isNumbers s0) (fun t15 => (if t15 = 0 then some 0 else (if l5 = l4 then some 0 else gd (sd_inB l1 5) ((if (h.1 132 (l1 : Int32).toNatClampNeg) = 4 then YM_familyAs_B187 h l5 l7 s0 (h.1 132 (l1 : Int32).toNatClampNeg) else (if (h.1 132 (l1 : Int32).toNatClampNeg) = 5 then YM_familyAs_B187 h l5 l7 s0 (h.1 132 (l1 : Int32).toNatClampNeg) else YM_familyAs_B192 h l5 l7 s0 (h.1 132 (l1 : Int32).toNatClampNeg) 0)))))))))
set_option maxHeartbeats 4000000 in
set_option maxRecDepth 100000 in
theorem J_YM_familyAs_B135 {G : sd_GX} {X : sd_CX} (hE : ∀ g : sd_H, sd_end G X M_YM_familyAs (sd_F g)) {h : sd_H} {r : Int32} {l1 : Int32} {l4 : Int32} {l5 : Int32} {l6 : Int32} {l7 : Int32} {s0 : Int32} (hf : YM_familyAs_B135 h l1 l4 l5 l6 l7 s0 = some r) : sd_J G X (sd_QR G X M_YM_familyAs (some (.int r), sd_F h)) M_YM_familyAs 135 [(0, .ref (G.1 + 126)), (1, .int l1), (4, .int l4), (5, .int l5), (6, .int l6), (7, .int l7)] [.int s0] (sd_F h) := by
  unfold YM_familyAs_B135 at hf
  refine sd_istore (i := 8) (pc' := 137) (lo' := [(8, .int s0), (0, .ref (G.1 + 126)), (1, .int l1), (4, .int l4), (5, .int l5), (6, .int l6), (7, .int l7)]) (by decide +kernel) (by decide) rfl ?_
  refine sd_iload (i := 6) (q := 5) (pc' := 139) (by decide +kernel) rfl ?_
  refine sd_if_eq (off := 26) (tgt := 165) (pc' := 142) (by decide +kernel) (fun c10 => ?_) (fun c10 => ?_)
  · replace hf := ite_p c10 hf
    refine sd_iconst (n := 0) (v := 0) (pc' := 166) (by decide +kernel) (by decide) ?_
    obtain rfl := Option.some.inj hf
    exact sd_iret (by decide +kernel) rfl (hE _)
  · replace hf := ite_n c10 hf
    refine sd_iload (i := 7) (q := 6) (pc' := 144) (by decide +kernel) rfl ?_
    obtain ⟨t12, q11, hf⟩ := b1_some hf
    refine sF_callS (idx := 185) (As := [.int l7]) (pc' := 147) 1 (T_YM_isNumbers (G := G) (h := h)  q11) (by decide +kernel) mv_YM_isNumbers ml_X12_185 (by decide +kernel) rfl rfl (Nat.le_of_ble_eq_true rfl) rfl ?_
    refine sd_if_eq (off := 18) (tgt := 165) (pc' := 150) (by decide +kernel) (fun c13 => ?_) (fun c13 => ?_)
    · replace hf := ite_p c13 hf
      refine sd_iconst (n := 0) (v := 0) (pc' := 166) (by decide +kernel) (by decide) ?_
      obtain rfl := Option.some.inj hf
      exact sd_iret (by decide +kernel) rfl (hE _)
    · replace hf := ite_n c13 hf
      refine sd_iload (i := 8) (q := 0) (pc' := 152) (by decide +kernel) rfl ?_
      obtain ⟨t15, q14, hf⟩ := b1_some hf
      refine sF_callS (idx := 185) (As := [.int s0]) (pc' := 155) 1 (T_YM_isNumbers (G := G) (h := h)  q14) (by decide +kernel) mv_YM_isNumbers ml_X12_185 (by decide +kernel) rfl rfl (Nat.le_of_ble_eq_true rfl) rfl ?_
      refine sd_if_eq (off := 10) (tgt := 165) (pc' := 158) (by decide +kernel) (fun c16 => ?_) (fun c16 => ?_)
      · replace hf := ite_p c16 hf
        refine sd_iconst (n := 0) (v := 0) (pc' := 166) (by decide +kernel) (by decide) ?_
        obtain rfl := Option.some.inj hf
        exact sd_iret (by decide +kernel) rfl (hE _)
      · replace hf := ite_n c16 hf
        refine sd_iload (i := 5) (q := 4) (pc' := 160) (by decide +kernel) rfl ?_
        refine sd_iload (i := 4) (q := 3) (pc' := 162) (by decide +kernel) rfl ?_
        refine sd_icmp_ne (off := 5) (tgt := 167) (pc' := 165) (by decide +kernel) (fun c17 => ?_) (fun c17 => ?_)
        · replace hf := ite_n c17 hf
          refine sd_aload_n (k := 0) (i := 0) (q := 1) (pc' := 168) (by decide +kernel) rfl rfl ?_
          refine sF_gr (idx := 26) (ci := 12) (k := 8) (n := 47) (r := 132) (pc' := 171) (by decide +kernel) fl_X12_26 (by decide +kernel) rfl SH_126 (by decide) (by decide +kernel) ?_
          refine sd_iload_n (k := 1) (i := 1) (q := 2) (pc' := 172) (by decide +kernel) rfl rfl ?_
          obtain ⟨g18, hf⟩ := gd_some hf
          refine sF_iald (n := 5) (pc' := 173) (by decide +kernel) SH_132 g18 ?_
          refine sd_istore (i := 9) (pc' := 175) (lo' := [(9, .int (h.1 132 (l1 : Int32).toNatClampNeg)), (8, .int s0), (0, .ref (G.1 + 126)), (1, .int l1), (4, .int l4), (5, .int l5), (6, .int l6), (7, .int l7)]) (by decide +kernel) (by decide) rfl ?_
          refine sd_iload (i := 9) (q := 0) (pc' := 177) (by decide +kernel) rfl ?_
          refine sd_iconst (n := 4) (v := 4) (pc' := 178) (by decide +kernel) (by decide) ?_
          refine sd_icmp_eq (off := 9) (tgt := 187) (pc' := 181) (by decide +kernel) (fun c19 => ?_) (fun c19 => ?_)
          · replace hf := ite_p c19 hf
            refine sd_J.sub (lo' := [(5, .int l5), (7, .int l7), (8, .int s0), (9, .int (h.1 132 (l1 : Int32).toNatClampNeg))]) [5, 7, 1, 0] rfl ?_
            exact J_YM_familyAs_B187 hE hf
          · replace hf := ite_n c19 hf
            refine sd_iload (i := 9) (q := 0) (pc' := 183) (by decide +kernel) rfl ?_
            refine sd_iconst (n := 5) (v := 5) (pc' := 184) (by decide +kernel) (by decide) ?_
            refine sd_icmp_ne (off := 7) (tgt := 191) (pc' := 187) (by decide +kernel) (fun c30 => ?_) (fun c30 => ?_)
            · replace hf := ite_n c30 hf
              refine sd_iconst (n := 0) (v := 0) (pc' := 192) (by decide +kernel) (by decide) ?_
              refine sd_J.sub (lo' := [(5, .int l5), (7, .int l7), (8, .int s0), (9, .int (h.1 132 (l1 : Int32).toNatClampNeg))]) [5, 7, 1, 0] rfl ?_
              exact J_YM_familyAs_B192 hE hf
            · replace hf := ite_p c30 hf
              refine sd_J.sub (lo' := [(5, .int l5), (7, .int l7), (8, .int s0), (9, .int (h.1 132 (l1 : Int32).toNatClampNeg))]) [5, 7, 1, 0] rfl ?_
              exact J_YM_familyAs_B187 hE hf
        · replace hf := ite_p c17 hf
          refine sd_iconst (n := 0) (v := 0) (pc' := 166) (by decide +kernel) (by decide) ?_
          obtain rfl := Option.some.inj hf
          exact sd_iret (by decide +kernel) rfl (hE _)
def YM_familyAs_B105 (h : sd_H) (l1 : Int32) (l2 : Int32) (l3 : Int32) (l4 : Int32) (l5 : Int32) (s0 : Int32) : Option Int32 :=
  b1 (YM_formAs h l4 l2 l3) (fun t6 => (if l5 = (-1) then YM_familyAs_B135 h l1 l4 l5 s0 t6 1 else b1 (YM_formAs h l5 l2 l3) (fun t9 => YM_familyAs_B135 h l1 l4 l5 s0 t6 t9)))
set_option maxHeartbeats 4000000 in
set_option maxRecDepth 100000 in
theorem J_YM_familyAs_B105 {G : sd_GX} {X : sd_CX} (hE : ∀ g : sd_H, sd_end G X M_YM_familyAs (sd_F g)) {h : sd_H} {r : Int32} {l1 : Int32} {l2 : Int32} {l3 : Int32} {l4 : Int32} {l5 : Int32} {s0 : Int32} (hf : YM_familyAs_B105 h l1 l2 l3 l4 l5 s0 = some r) : sd_J G X (sd_QR G X M_YM_familyAs (some (.int r), sd_F h)) M_YM_familyAs 105 [(0, .ref (G.1 + 126)), (1, .int l1), (2, .int l2), (3, .int l3), (4, .int l4), (5, .int l5)] [.int s0] (sd_F h) := by
  unfold YM_familyAs_B105 at hf
  refine sd_istore (i := 6) (pc' := 107) (lo' := [(6, .int s0), (0, .ref (G.1 + 126)), (1, .int l1), (2, .int l2), (3, .int l3), (4, .int l4), (5, .int l5)]) (by decide +kernel) (by decide) rfl ?_
  refine sd_aload_n (k := 0) (i := 0) (q := 1) (pc' := 108) (by decide +kernel) rfl rfl ?_
  refine sd_iload (i := 4) (q := 5) (pc' := 110) (by decide +kernel) rfl ?_
  refine sd_iload_n (k := 2) (i := 2) (q := 3) (pc' := 111) (by decide +kernel) rfl rfl ?_
  refine sd_iload_n (k := 3) (i := 3) (q := 4) (pc' := 112) (by decide +kernel) rfl rfl ?_
  obtain ⟨t6, q5, hf⟩ := b1_some hf
  refine sF_callV (idx := 181) (b := 126) (As := [.int l4, .int l2, .int l3]) (ci := 12) (nn := 47) (pc' := 115) 3 (T_YM_formAs (G := G) (h := h)  q5) (by decide +kernel) mv_YM_formAs ml_X12_181 (by decide +kernel) rfl rfl (Nat.le_of_ble_eq_true rfl) SH_126 rfl (by decide) rfl rfl ?_
  refine sd_istore (i := 7) (pc' := 117) (lo' := [(7, .int t6), (6, .int s0), (0, .ref (G.1 + 126)), (1, .int l1), (2, .int l2), (3, .int l3), (4, .int l4), (5, .int l5)]) (by decide +kernel) (by decide) rfl ?_
  refine sd_iload (i := 5) (q := 7) (pc' := 119) (by decide +kernel) rfl ?_
  refine sd_iconst (n := -1) (v := (-1)) (pc' := 120) (by decide +kernel) (by decide) ?_
  refine sd_icmp_ne (off := 7) (tgt := 127) (pc' := 123) (by decide +kernel) (fun c7 => ?_) (fun c7 => ?_)
  · replace hf := ite_n c7 hf
    refine sd_aload_n (k := 0) (i := 0) (q := 2) (pc' := 128) (by decide +kernel) rfl rfl ?_
    refine sd_iload (i := 5) (q := 7) (pc' := 130) (by decide +kernel) rfl ?_
    refine sd_iload_n (k := 2) (i := 2) (q := 4) (pc' := 131) (by decide +kernel) rfl rfl ?_
    refine sd_iload_n (k := 3) (i := 3) (q := 5) (pc' := 132) (by decide +kernel) rfl rfl ?_
    obtain ⟨t9, q8, hf⟩ := b1_some hf
    refine sF_callV (idx := 181) (b := 126) (As := [.int l5, .int l2, .int l3]) (ci := 12) (nn := 47) (pc' := 135) 3 (T_YM_formAs (G := G) (h := h)  q8) (by decide +kernel) mv_YM_formAs ml_X12_181 (by decide +kernel) rfl rfl (Nat.le_of_ble_eq_true rfl) SH_126 rfl (by decide) rfl rfl ?_
    refine sd_J.sub (lo' := [(0, .ref (G.1 + 126)), (1, .int l1), (4, .int l4), (5, .int l5), (6, .int s0), (7, .int t6)]) [2, 3, 6, 7, 1, 0] rfl ?_
    exact J_YM_familyAs_B135 hE hf
  · replace hf := ite_p c7 hf
    refine sd_iconst (n := 1) (v := 1) (pc' := 124) (by decide +kernel) (by decide) ?_
    refine sd_goto (off := 11) (tgt := 135) (pc' := 127) (by decide +kernel) ?_
    refine sd_J.sub (lo' := [(0, .ref (G.1 + 126)), (1, .int l1), (4, .int l4), (5, .int l5), (6, .int s0), (7, .int t6)]) [2, 3, 6, 7, 1, 0] rfl ?_
    exact J_YM_familyAs_B135 hE hf
def YM_familyAs_B104 (h : sd_H) (l1 : Int32) (l2 : Int32) (l3 : Int32) (l4 : Int32) (l5 : Int32) : Option Int32 :=
  YM_familyAs_B105 h l1 l2 l3 l4 l5 0
set_option maxHeartbeats 4000000 in
set_option maxRecDepth 100000 in
theorem J_YM_familyAs_B104 {G : sd_GX} {X : sd_CX} (hE : ∀ g : sd_H, sd_end G X M_YM_familyAs (sd_F g)) {h : sd_H} {r : Int32} {l1 : Int32} {l2 : Int32} {l3 : Int32} {l4 : Int32} {l5 : Int32} (hf : YM_familyAs_B104 h l1 l2 l3 l4 l5 = some r) : sd_J G X (sd_QR G X M_YM_familyAs (some (.int r), sd_F h)) M_YM_familyAs 104 [(0, .ref (G.1 + 126)), (1, .int l1), (2, .int l2), (3, .int l3), (4, .int l4), (5, .int l5)] [] (sd_F h) := by
  unfold YM_familyAs_B104 at hf
  refine sd_iconst (n := 0) (v := 0) (pc' := 105) (by decide +kernel) (by decide) ?_
  refine sd_J.sub (lo' := [(0, .ref (G.1 + 126)), (1, .int l1), (2, .int l2), (3, .int l3), (4, .int l4), (5, .int l5)]) [0, 1, 2, 3, 4, 5] rfl ?_
  exact J_YM_familyAs_B105 hE hf
def YM_familyAs (h : sd_H) (a0 : Int32) (a1 : Int32) (a2 : Int32) : Option Int32 :=
  gd (sd_inB (3 * a0) 15) (gd (sd_inB ((3 * a0) + 2) 15) (gd (sd_inB ((3 * a0) + 1) 15) ((if (h.1 137 (((3 * a0) + 1) : Int32).toNatClampNeg) = (h.1 137 ((3 * a0) : Int32).toNatClampNeg) then gd (sd_inB (3 * a0) 15) (gd (sd_inB ((3 * a0) + 1) 15) ((if (h.1 138 ((3 * a0) : Int32).toNatClampNeg) = (h.1 138 (((3 * a0) + 1) : Int32).toNatClampNeg) then gd (sd_inB (3 * a0) 15) (gd (sd_inB ((3 * a0) + 1) 15) ((if (h.1 139 ((3 * a0) : Int32).toNatClampNeg) = (h.1 139 (((3 * a0) + 1) : Int32).toNatClampNeg) then gd (sd_inB (3 * a0) 15) (gd (sd_inB ((3 * a0) + 1) 15) ((if (h.1 140 ((3 * a0) : Int32).toNatClampNeg) = (h.1 140 (((3 * a0) + 1) : Int32).toNatClampNeg) then YM_familyAs_B105 h a0 a1 a2 (h.1 137 ((3 * a0) : Int32).toNatClampNeg) (h.1 137 (((3 * a0) + 2) : Int32).toNatClampNeg) 1 else YM_familyAs_B104 h a0 a1 a2 (h.1 137 ((3 * a0) : Int32).toNatClampNeg) (h.1 137 (((3 * a0) + 2) : Int32).toNatClampNeg)))) else YM_familyAs_B104 h a0 a1 a2 (h.1 137 ((3 * a0) : Int32).toNatClampNeg) (h.1 137 (((3 * a0) + 2) : Int32).toNatClampNeg)))) else YM_familyAs_B104 h a0 a1 a2 (h.1 137 ((3 * a0) : Int32).toNatClampNeg) (h.1 137 (((3 * a0) + 2) : Int32).toNatClampNeg)))) else YM_familyAs_B104 h a0 a1 a2 (h.1 137 ((3 * a0) : Int32).toNatClampNeg) (h.1 137 (((3 * a0) + 2) : Int32).toNatClampNeg)))))
set_option maxHeartbeats 4000000 in
set_option maxRecDepth 100000 in
theorem T_YM_familyAs {G : sd_GX} {h : sd_H} {a0 : Int32} {a1 : Int32} {a2 : Int32} {r : Int32} (hf : YM_familyAs h a0 a1 a2 = some r) : sd_RunF G M_YM_familyAs [.ref (G.1 + 126), .int a0, .int a1, .int a2] h (some (.int r)) h := by
  refine sF_run ⟨rfl, rfl⟩ (by decide +kernel) (Nat.le_of_ble_eq_true rfl) (lo := [(0, .ref (G.1 + 126)), (1, .int a0), (2, .int a1), (3, .int a2)]) rfl (fun X hE => ?_)
  unfold YM_familyAs at hf
  refine sd_aload_n (k := 0) (i := 0) (q := 0) (pc' := 1) (by decide +kernel) rfl rfl ?_
  refine sF_gr (idx := 41) (ci := 12) (k := 13) (n := 47) (r := 137) (pc' := 4) (by decide +kernel) fl_X12_41 (by decide +kernel) rfl SH_126 (by decide) (by decide +kernel) ?_
  refine sd_iconst (n := 3) (v := 3) (pc' := 5) (by decide +kernel) (by decide) ?_
  refine sd_iload_n (k := 1) (i := 1) (q := 1) (pc' := 6) (by decide +kernel) rfl rfl ?_
  refine sd_imul (pc' := 7) (by decide +kernel) ?_
  obtain ⟨g1, hf⟩ := gd_some hf
  refine sF_iald (n := 15) (pc' := 8) (by decide +kernel) SH_137 g1 ?_
  refine sd_istore (i := 4) (pc' := 10) (lo' := [(4, .int (h.1 137 ((3 * a0) : Int32).toNatClampNeg)), (0, .ref (G.1 + 126)), (1, .int a0), (2, .int a1), (3, .int a2)]) (by decide +kernel) (by decide) rfl ?_
  refine sd_aload_n (k := 0) (i := 0) (q := 1) (pc' := 11) (by decide +kernel) rfl rfl ?_
  refine sF_gr (idx := 41) (ci := 12) (k := 13) (n := 47) (r := 137) (pc' := 14) (by decide +kernel) fl_X12_41 (by decide +kernel) rfl SH_126 (by decide) (by decide +kernel) ?_
  refine sd_iconst (n := 3) (v := 3) (pc' := 15) (by decide +kernel) (by decide) ?_
  refine sd_iload_n (k := 1) (i := 1) (q := 2) (pc' := 16) (by decide +kernel) rfl rfl ?_
  refine sd_imul (pc' := 17) (by decide +kernel) ?_
  refine sd_iconst (n := 2) (v := 2) (pc' := 18) (by decide +kernel) (by decide) ?_
  refine sd_iadd (pc' := 19) (by decide +kernel) ?_
  obtain ⟨g2, hf⟩ := gd_some hf
  refine sF_iald (n := 15) (pc' := 20) (by decide +kernel) SH_137 g2 ?_
  refine sd_istore (i := 5) (pc' := 22) (lo' := [(5, .int (h.1 137 (((3 * a0) + 2) : Int32).toNatClampNeg)), (4, .int (h.1 137 ((3 * a0) : Int32).toNatClampNeg)), (0, .ref (G.1 + 126)), (1, .int a0), (2, .int a1), (3, .int a2)]) (by decide +kernel) (by decide) rfl ?_
  refine sd_aload_n (k := 0) (i := 0) (q := 2) (pc' := 23) (by decide +kernel) rfl rfl ?_
  refine sF_gr (idx := 41) (ci := 12) (k := 13) (n := 47) (r := 137) (pc' := 26) (by decide +kernel) fl_X12_41 (by decide +kernel) rfl SH_126 (by decide) (by decide +kernel) ?_
  refine sd_iconst (n := 3) (v := 3) (pc' := 27) (by decide +kernel) (by decide) ?_
  refine sd_iload_n (k := 1) (i := 1) (q := 3) (pc' := 28) (by decide +kernel) rfl rfl ?_
  refine sd_imul (pc' := 29) (by decide +kernel) ?_
  refine sd_iconst (n := 1) (v := 1) (pc' := 30) (by decide +kernel) (by decide) ?_
  refine sd_iadd (pc' := 31) (by decide +kernel) ?_
  obtain ⟨g3, hf⟩ := gd_some hf
  refine sF_iald (n := 15) (pc' := 32) (by decide +kernel) SH_137 g3 ?_
  refine sd_iload (i := 4) (q := 1) (pc' := 34) (by decide +kernel) rfl ?_
  refine sd_icmp_ne (off := 70) (tgt := 104) (pc' := 37) (by decide +kernel) (fun c4 => ?_) (fun c4 => ?_)
  · replace hf := ite_n c4 hf
    refine sd_J.sub (lo' := [(0, .ref (G.1 + 126)), (1, .int a0), (2, .int a1), (3, .int a2), (4, .int (h.1 137 ((3 * a0) : Int32).toNatClampNeg)), (5, .int (h.1 137 (((3 * a0) + 2) : Int32).toNatClampNeg))]) [2, 3, 4, 5, 1, 0] rfl ?_
    exact J_YM_familyAs_B104 hE hf
  · replace hf := ite_p c4 hf
    refine sd_aload_n (k := 0) (i := 0) (q := 2) (pc' := 38) (by decide +kernel) rfl rfl ?_
    refine sF_gr (idx := 44) (ci := 12) (k := 14) (n := 47) (r := 138) (pc' := 41) (by decide +kernel) fl_X12_44 (by decide +kernel) rfl SH_126 (by decide) (by decide +kernel) ?_
    refine sd_iconst (n := 3) (v := 3) (pc' := 42) (by decide +kernel) (by decide) ?_
    refine sd_iload_n (k := 1) (i := 1) (q := 3) (pc' := 43) (by decide +kernel) rfl rfl ?_
    refine sd_imul (pc' := 44) (by decide +kernel) ?_
    obtain ⟨g31, hf⟩ := gd_some hf
    refine sF_iald (n := 15) (pc' := 45) (by decide +kernel) SH_138 g31 ?_
    refine sd_aload_n (k := 0) (i := 0) (q := 2) (pc' := 46) (by decide +kernel) rfl rfl ?_
    refine sF_gr (idx := 44) (ci := 12) (k := 14) (n := 47) (r := 138) (pc' := 49) (by decide +kernel) fl_X12_44 (by decide +kernel) rfl SH_126 (by decide) (by decide +kernel) ?_
    refine sd_iconst (n := 3) (v := 3) (pc' := 50) (by decide +kernel) (by decide) ?_
    refine sd_iload_n (k := 1) (i := 1) (q := 3) (pc' := 51) (by decide +kernel) rfl rfl ?_
    refine sd_imul (pc' := 52) (by decide +kernel) ?_
    refine sd_iconst (n := 1) (v := 1) (pc' := 53) (by decide +kernel) (by decide) ?_
    refine sd_iadd (pc' := 54) (by decide +kernel) ?_
    obtain ⟨g32, hf⟩ := gd_some hf
    refine sF_iald (n := 15) (pc' := 55) (by decide +kernel) SH_138 g32 ?_
    refine sd_icmp_ne (off := 49) (tgt := 104) (pc' := 58) (by decide +kernel) (fun c33 => ?_) (fun c33 => ?_)
    · replace hf := ite_n c33 hf
      refine sd_J.sub (lo' := [(0, .ref (G.1 + 126)), (1, .int a0), (2, .int a1), (3, .int a2), (4, .int (h.1 137 ((3 * a0) : Int32).toNatClampNeg)), (5, .int (h.1 137 (((3 * a0) + 2) : Int32).toNatClampNeg))]) [2, 3, 4, 5, 1, 0] rfl ?_
      exact J_YM_familyAs_B104 hE hf
    · replace hf := ite_p c33 hf
      refine sd_aload_n (k := 0) (i := 0) (q := 2) (pc' := 59) (by decide +kernel) rfl rfl ?_
      refine sF_gr (idx := 47) (ci := 12) (k := 15) (n := 47) (r := 139) (pc' := 62) (by decide +kernel) fl_X12_47 (by decide +kernel) rfl SH_126 (by decide) (by decide +kernel) ?_
      refine sd_iconst (n := 3) (v := 3) (pc' := 63) (by decide +kernel) (by decide) ?_
      refine sd_iload_n (k := 1) (i := 1) (q := 3) (pc' := 64) (by decide +kernel) rfl rfl ?_
      refine sd_imul (pc' := 65) (by decide +kernel) ?_
      obtain ⟨g34, hf⟩ := gd_some hf
      refine sF_iald (n := 15) (pc' := 66) (by decide +kernel) SH_139 g34 ?_
      refine sd_aload_n (k := 0) (i := 0) (q := 2) (pc' := 67) (by decide +kernel) rfl rfl ?_
      refine sF_gr (idx := 47) (ci := 12) (k := 15) (n := 47) (r := 139) (pc' := 70) (by decide +kernel) fl_X12_47 (by decide +kernel) rfl SH_126 (by decide) (by decide +kernel) ?_
      refine sd_iconst (n := 3) (v := 3) (pc' := 71) (by decide +kernel) (by decide) ?_
      refine sd_iload_n (k := 1) (i := 1) (q := 3) (pc' := 72) (by decide +kernel) rfl rfl ?_
      refine sd_imul (pc' := 73) (by decide +kernel) ?_
      refine sd_iconst (n := 1) (v := 1) (pc' := 74) (by decide +kernel) (by decide) ?_
      refine sd_iadd (pc' := 75) (by decide +kernel) ?_
      obtain ⟨g35, hf⟩ := gd_some hf
      refine sF_iald (n := 15) (pc' := 76) (by decide +kernel) SH_139 g35 ?_
      refine sd_icmp_ne (off := 28) (tgt := 104) (pc' := 79) (by decide +kernel) (fun c36 => ?_) (fun c36 => ?_)
      · replace hf := ite_n c36 hf
        refine sd_J.sub (lo' := [(0, .ref (G.1 + 126)), (1, .int a0), (2, .int a1), (3, .int a2), (4, .int (h.1 137 ((3 * a0) : Int32).toNatClampNeg)), (5, .int (h.1 137 (((3 * a0) + 2) : Int32).toNatClampNeg))]) [2, 3, 4, 5, 1, 0] rfl ?_
        exact J_YM_familyAs_B104 hE hf
      · replace hf := ite_p c36 hf
        refine sd_aload_n (k := 0) (i := 0) (q := 2) (pc' := 80) (by decide +kernel) rfl rfl ?_
        refine sF_gr (idx := 50) (ci := 12) (k := 16) (n := 47) (r := 140) (pc' := 83) (by decide +kernel) fl_X12_50 (by decide +kernel) rfl SH_126 (by decide) (by decide +kernel) ?_
        refine sd_iconst (n := 3) (v := 3) (pc' := 84) (by decide +kernel) (by decide) ?_
        refine sd_iload_n (k := 1) (i := 1) (q := 3) (pc' := 85) (by decide +kernel) rfl rfl ?_
        refine sd_imul (pc' := 86) (by decide +kernel) ?_
        obtain ⟨g37, hf⟩ := gd_some hf
        refine sF_iald (n := 15) (pc' := 87) (by decide +kernel) SH_140 g37 ?_
        refine sd_aload_n (k := 0) (i := 0) (q := 2) (pc' := 88) (by decide +kernel) rfl rfl ?_
        refine sF_gr (idx := 50) (ci := 12) (k := 16) (n := 47) (r := 140) (pc' := 91) (by decide +kernel) fl_X12_50 (by decide +kernel) rfl SH_126 (by decide) (by decide +kernel) ?_
        refine sd_iconst (n := 3) (v := 3) (pc' := 92) (by decide +kernel) (by decide) ?_
        refine sd_iload_n (k := 1) (i := 1) (q := 3) (pc' := 93) (by decide +kernel) rfl rfl ?_
        refine sd_imul (pc' := 94) (by decide +kernel) ?_
        refine sd_iconst (n := 1) (v := 1) (pc' := 95) (by decide +kernel) (by decide) ?_
        refine sd_iadd (pc' := 96) (by decide +kernel) ?_
        obtain ⟨g38, hf⟩ := gd_some hf
        refine sF_iald (n := 15) (pc' := 97) (by decide +kernel) SH_140 g38 ?_
        refine sd_icmp_ne (off := 7) (tgt := 104) (pc' := 100) (by decide +kernel) (fun c39 => ?_) (fun c39 => ?_)
        · replace hf := ite_n c39 hf
          refine sd_J.sub (lo' := [(0, .ref (G.1 + 126)), (1, .int a0), (2, .int a1), (3, .int a2), (4, .int (h.1 137 ((3 * a0) : Int32).toNatClampNeg)), (5, .int (h.1 137 (((3 * a0) + 2) : Int32).toNatClampNeg))]) [2, 3, 4, 5, 1, 0] rfl ?_
          exact J_YM_familyAs_B104 hE hf
        · replace hf := ite_p c39 hf
          refine sd_iconst (n := 1) (v := 1) (pc' := 101) (by decide +kernel) (by decide) ?_
          refine sd_goto (off := 4) (tgt := 105) (pc' := 104) (by decide +kernel) ?_
          refine sd_J.sub (lo' := [(0, .ref (G.1 + 126)), (1, .int a0), (2, .int a1), (3, .int a2), (4, .int (h.1 137 ((3 * a0) : Int32).toNatClampNeg)), (5, .int (h.1 137 (((3 * a0) + 2) : Int32).toNatClampNeg))]) [2, 3, 4, 5, 1, 0] rfl ?_
          exact J_YM_familyAs_B105 hE hf

theorem ml_X12_188 : Cond.methodLink RX12 188 yX12_familyAs ∈ sd_tb := sd_mem (i := 1400) (by decide +kernel)
theorem mv_YM_familyAs : sd_mV M_YM_familyAs 3 := ⟨sd_mem (i := 1402) (by decide +kernel), sd_mem (i := 45) (by decide +kernel), ⟨sd_mem (i := 1403) (by decide +kernel), sd_mem (i := 119) (by decide +kernel), by decide +kernel, by decide +kernel, by decide +kernel⟩⟩
theorem ml_X12_191 : Cond.methodLink RX12 191 yX12_doneMany ∈ sd_tb := sd_mem (i := 1411) (by decide +kernel)
theorem mv_YM_doneMany : sd_mV M_YM_doneMany 1 := ⟨sd_mem (i := 1413) (by decide +kernel), sd_mem (i := 47) (by decide +kernel), ⟨sd_mem (i := 1414) (by decide +kernel), sd_mem (i := 119) (by decide +kernel), by decide +kernel, by decide +kernel, by decide +kernel⟩⟩
def M_YM_infoOf : sd_MX := (yX12_infoOf, cX12_infoOf, 3, (some .int), { frames := 4, cells := 0, slots := 0, locals := 112 })
def YM_infoOf (h : sd_H) (a0 : Int32) (a1 : Int32) : Option Int32 :=
  (if a1 = 0 then gd (sd_inB a0 5) (some (h.1 132 (a0 : Int32).toNatClampNeg)) else (if a1 = 1 then gd (sd_inB a0 5) (some (h.1 133 (a0 : Int32).toNatClampNeg)) else (if a1 = 2 then gd (sd_inB a0 5) (some (h.1 134 (a0 : Int32).toNatClampNeg)) else (if a1 = 3 then gd (sd_inB a0 5) (some (h.1 135 (a0 : Int32).toNatClampNeg)) else (if a1 = 4 then gd (sd_inB a0 5) (some (h.1 136 (a0 : Int32).toNatClampNeg)) else (if a1 = 5 then b1 (YM_familyAs h a0 (-1) 0) (fun t8 => some t8) else (b1 (YM_doneMany h a0) (fun t10 => some t10))))))))
set_option maxHeartbeats 4000000 in
set_option maxRecDepth 100000 in
theorem T_YM_infoOf {G : sd_GX} {h : sd_H} {a0 : Int32} {a1 : Int32} {r : Int32} (hf : YM_infoOf h a0 a1 = some r) : sd_RunF G M_YM_infoOf [.ref (G.1 + 126), .int a0, .int a1] h (some (.int r)) h := by
  refine sF_run ⟨rfl, rfl⟩ (by decide +kernel) (Nat.le_of_ble_eq_true rfl) (lo := [(0, .ref (G.1 + 126)), (1, .int a0), (2, .int a1)]) rfl (fun X hE => ?_)
  unfold YM_infoOf at hf
  refine sd_iload_n (k := 2) (i := 2) (q := 2) (pc' := 1) (by decide +kernel) rfl rfl ?_
  by_cases c1_0 : a1 = 0
  · replace hf := ite_p c1_0 hf
    refine sd_tswIn (dflt := 82) (lo0 := 0) (hi0 := 5) (offs := #[39, 46, 53, 60, 67, 74]) (len := 39) (off := 39) (tgt := 40) (pc' := 40) (by decide +kernel) (by rw [c1_0]; decide) (by rw [c1_0]; decide) (by rw [c1_0]; decide) ?_
    refine sd_aload_n (k := 0) (i := 0) (q := 0) (pc' := 41) (by decide +kernel) rfl rfl ?_
    refine sF_gr (idx := 26) (ci := 12) (k := 8) (n := 47) (r := 132) (pc' := 44) (by decide +kernel) fl_X12_26 (by decide +kernel) rfl SH_126 (by decide) (by decide +kernel) ?_
    refine sd_iload_n (k := 1) (i := 1) (q := 1) (pc' := 45) (by decide +kernel) rfl rfl ?_
    obtain ⟨g2, hf⟩ := gd_some hf
    refine sF_iald (n := 5) (pc' := 46) (by decide +kernel) SH_132 g2 ?_
    obtain rfl := Option.some.inj hf
    exact sd_iret (by decide +kernel) rfl (hE _)
  · replace hf := ite_n c1_0 hf
    by_cases c1_1 : a1 = 1
    · replace hf := ite_p c1_1 hf
      refine sd_tswIn (dflt := 82) (lo0 := 0) (hi0 := 5) (offs := #[39, 46, 53, 60, 67, 74]) (len := 39) (off := 46) (tgt := 47) (pc' := 40) (by decide +kernel) (by rw [c1_1]; decide) (by rw [c1_1]; decide) (by rw [c1_1]; decide) ?_
      refine sd_aload_n (k := 0) (i := 0) (q := 0) (pc' := 48) (by decide +kernel) rfl rfl ?_
      refine sF_gr (idx := 29) (ci := 12) (k := 9) (n := 47) (r := 133) (pc' := 51) (by decide +kernel) fl_X12_29 (by decide +kernel) rfl SH_126 (by decide) (by decide +kernel) ?_
      refine sd_iload_n (k := 1) (i := 1) (q := 1) (pc' := 52) (by decide +kernel) rfl rfl ?_
      obtain ⟨g3, hf⟩ := gd_some hf
      refine sF_iald (n := 5) (pc' := 53) (by decide +kernel) SH_133 g3 ?_
      obtain rfl := Option.some.inj hf
      exact sd_iret (by decide +kernel) rfl (hE _)
    · replace hf := ite_n c1_1 hf
      by_cases c1_2 : a1 = 2
      · replace hf := ite_p c1_2 hf
        refine sd_tswIn (dflt := 82) (lo0 := 0) (hi0 := 5) (offs := #[39, 46, 53, 60, 67, 74]) (len := 39) (off := 53) (tgt := 54) (pc' := 40) (by decide +kernel) (by rw [c1_2]; decide) (by rw [c1_2]; decide) (by rw [c1_2]; decide) ?_
        refine sd_aload_n (k := 0) (i := 0) (q := 0) (pc' := 55) (by decide +kernel) rfl rfl ?_
        refine sF_gr (idx := 32) (ci := 12) (k := 10) (n := 47) (r := 134) (pc' := 58) (by decide +kernel) fl_X12_32 (by decide +kernel) rfl SH_126 (by decide) (by decide +kernel) ?_
        refine sd_iload_n (k := 1) (i := 1) (q := 1) (pc' := 59) (by decide +kernel) rfl rfl ?_
        obtain ⟨g4, hf⟩ := gd_some hf
        refine sF_iald (n := 5) (pc' := 60) (by decide +kernel) SH_134 g4 ?_
        obtain rfl := Option.some.inj hf
        exact sd_iret (by decide +kernel) rfl (hE _)
      · replace hf := ite_n c1_2 hf
        by_cases c1_3 : a1 = 3
        · replace hf := ite_p c1_3 hf
          refine sd_tswIn (dflt := 82) (lo0 := 0) (hi0 := 5) (offs := #[39, 46, 53, 60, 67, 74]) (len := 39) (off := 60) (tgt := 61) (pc' := 40) (by decide +kernel) (by rw [c1_3]; decide) (by rw [c1_3]; decide) (by rw [c1_3]; decide) ?_
          refine sd_aload_n (k := 0) (i := 0) (q := 0) (pc' := 62) (by decide +kernel) rfl rfl ?_
          refine sF_gr (idx := 35) (ci := 12) (k := 11) (n := 47) (r := 135) (pc' := 65) (by decide +kernel) fl_X12_35 (by decide +kernel) rfl SH_126 (by decide) (by decide +kernel) ?_
          refine sd_iload_n (k := 1) (i := 1) (q := 1) (pc' := 66) (by decide +kernel) rfl rfl ?_
          obtain ⟨g5, hf⟩ := gd_some hf
          refine sF_iald (n := 5) (pc' := 67) (by decide +kernel) SH_135 g5 ?_
          obtain rfl := Option.some.inj hf
          exact sd_iret (by decide +kernel) rfl (hE _)
        · replace hf := ite_n c1_3 hf
          by_cases c1_4 : a1 = 4
          · replace hf := ite_p c1_4 hf
            refine sd_tswIn (dflt := 82) (lo0 := 0) (hi0 := 5) (offs := #[39, 46, 53, 60, 67, 74]) (len := 39) (off := 67) (tgt := 68) (pc' := 40) (by decide +kernel) (by rw [c1_4]; decide) (by rw [c1_4]; decide) (by rw [c1_4]; decide) ?_
            refine sd_aload_n (k := 0) (i := 0) (q := 0) (pc' := 69) (by decide +kernel) rfl rfl ?_
            refine sF_gr (idx := 38) (ci := 12) (k := 12) (n := 47) (r := 136) (pc' := 72) (by decide +kernel) fl_X12_38 (by decide +kernel) rfl SH_126 (by decide) (by decide +kernel) ?_
            refine sd_iload_n (k := 1) (i := 1) (q := 1) (pc' := 73) (by decide +kernel) rfl rfl ?_
            obtain ⟨g6, hf⟩ := gd_some hf
            refine sF_iald (n := 5) (pc' := 74) (by decide +kernel) SH_136 g6 ?_
            obtain rfl := Option.some.inj hf
            exact sd_iret (by decide +kernel) rfl (hE _)
          · replace hf := ite_n c1_4 hf
            by_cases c1_5 : a1 = 5
            · replace hf := ite_p c1_5 hf
              refine sd_tswIn (dflt := 82) (lo0 := 0) (hi0 := 5) (offs := #[39, 46, 53, 60, 67, 74]) (len := 39) (off := 74) (tgt := 75) (pc' := 40) (by decide +kernel) (by rw [c1_5]; decide) (by rw [c1_5]; decide) (by rw [c1_5]; decide) ?_
              refine sd_aload_n (k := 0) (i := 0) (q := 0) (pc' := 76) (by decide +kernel) rfl rfl ?_
              refine sd_iload_n (k := 1) (i := 1) (q := 1) (pc' := 77) (by decide +kernel) rfl rfl ?_
              refine sd_iconst (n := -1) (v := (-1)) (pc' := 78) (by decide +kernel) (by decide) ?_
              refine sd_iconst (n := 0) (v := 0) (pc' := 79) (by decide +kernel) (by decide) ?_
              obtain ⟨t8, q7, hf⟩ := b1_some hf
              refine sF_callV (idx := 188) (b := 126) (As := [.int a0, .int (-1), .int 0]) (ci := 12) (nn := 47) (pc' := 82) 3 (T_YM_familyAs (G := G) (h := h)  q7) (by decide +kernel) mv_YM_familyAs ml_X12_188 (by decide +kernel) rfl rfl (Nat.le_of_ble_eq_true rfl) SH_126 rfl (by decide) rfl rfl ?_
              obtain rfl := Option.some.inj hf
              exact sd_iret (by decide +kernel) rfl (hE _)
            · replace hf := ite_n c1_5 hf
              have nc1_0 := ne_ti c1_0 (n := 0) (by decide)
              have nc1_1 := ne_ti c1_1 (n := 1) (by decide)
              have nc1_2 := ne_ti c1_2 (n := 2) (by decide)
              have nc1_3 := ne_ti c1_3 (n := 3) (by decide)
              have nc1_4 := ne_ti c1_4 (n := 4) (by decide)
              have nc1_5 := ne_ti c1_5 (n := 5) (by decide)
              refine sd_tswOut (dflt := 82) (lo0 := 0) (hi0 := 5) (offs := #[39, 46, 53, 60, 67, 74]) (len := 39) (tgt := 83) (pc' := 40) (by decide +kernel) (by omega) ?_
              refine sd_aload_n (k := 0) (i := 0) (q := 0) (pc' := 84) (by decide +kernel) rfl rfl ?_
              refine sd_iload_n (k := 1) (i := 1) (q := 1) (pc' := 85) (by decide +kernel) rfl rfl ?_
              obtain ⟨t10, q9, hf⟩ := b1_some hf
              refine sF_callV (idx := 191) (b := 126) (As := [.int a0]) (ci := 12) (nn := 47) (pc' := 88) 1 (T_YM_doneMany (G := G) (h := h)  q9) (by decide +kernel) mv_YM_doneMany ml_X12_191 (by decide +kernel) rfl rfl (Nat.le_of_ble_eq_true rfl) SH_126 rfl (by decide) rfl rfl ?_
              obtain rfl := Option.some.inj hf
              exact sd_iret (by decide +kernel) rfl (hE _)

theorem ml_X12_194 : Cond.methodLink RX12 194 yX12_infoOf ∈ sd_tb := sd_mem (i := 1396) (by decide +kernel)
theorem mv_YM_infoOf : sd_mV M_YM_infoOf 2 := ⟨sd_mem (i := 1398) (by decide +kernel), sd_mem (i := 44) (by decide +kernel), ⟨sd_mem (i := 1399) (by decide +kernel), sd_mem (i := 119) (by decide +kernel), by decide +kernel, by decide +kernel, by decide +kernel⟩⟩
def M_YM_info : sd_MX := (yX12_info, cX12_info, 3, (some .int), { frames := 5, cells := 0, slots := 0, locals := 134 })
def YM_info (h : sd_H) (a0 : Int32) (a1 : Int32) : Option Int32 :=
  b1 (YM_isStatement h a0) (fun t2 => (if t2 = 0 then some (-2) else b1 (YM_in a1 0 6) (fun t5 => (if t5 = 0 then some (-2) else b1 (YM_infoOf h a0 a1) (fun t8 => some t8)))))
set_option maxHeartbeats 4000000 in
set_option maxRecDepth 100000 in
theorem T_YM_info {G : sd_GX} {h : sd_H} {a0 : Int32} {a1 : Int32} {r : Int32} (hf : YM_info h a0 a1 = some r) : sd_RunF G M_YM_info [.ref (G.1 + 126), .int a0, .int a1] h (some (.int r)) h := by
  refine sF_run ⟨rfl, rfl⟩ (by decide +kernel) (Nat.le_of_ble_eq_true rfl) (lo := [(0, .ref (G.1 + 126)), (1, .int a0), (2, .int a1)]) rfl (fun X hE => ?_)
  unfold YM_info at hf
  refine sd_aload_n (k := 0) (i := 0) (q := 0) (pc' := 1) (by decide +kernel) rfl rfl ?_
  refine sd_iload_n (k := 1) (i := 1) (q := 1) (pc' := 2) (by decide +kernel) rfl rfl ?_
  obtain ⟨t2, q1, hf⟩ := b1_some hf
  refine sF_callV (idx := 174) (b := 126) (As := [.int a0]) (ci := 12) (nn := 47) (pc' := 5) 1 (T_YM_isStatement (G := G) (h := h)  q1) (by decide +kernel) mv_YM_isStatement ml_X12_174 (by decide +kernel) rfl rfl (Nat.le_of_ble_eq_true rfl) SH_126 rfl (by decide) rfl rfl ?_
  refine sd_if_eq (off := 22) (tgt := 27) (pc' := 8) (by decide +kernel) (fun c3 => ?_) (fun c3 => ?_)
  · replace hf := ite_p c3 hf
    refine sd_bipush (n := -2) (v := (-2)) (pc' := 29) (by decide +kernel) (by decide) ?_
    obtain rfl := Option.some.inj hf
    exact sd_iret (by decide +kernel) rfl (hE _)
  · replace hf := ite_n c3 hf
    refine sd_iload_n (k := 2) (i := 2) (q := 2) (pc' := 9) (by decide +kernel) rfl rfl ?_
    refine sd_iconst (n := 0) (v := 0) (pc' := 10) (by decide +kernel) (by decide) ?_
    refine sd_bipush (n := 6) (v := 6) (pc' := 12) (by decide +kernel) (by decide) ?_
    obtain ⟨t5, q4, hf⟩ := b1_some hf
    refine sF_callS (idx := 114) (As := [.int a1, .int 0, .int 6]) (pc' := 15) 3 (T_YM_in (G := G) (h := h)  q4) (by decide +kernel) mv_YM_in ml_X12_114 (by decide +kernel) rfl rfl (Nat.le_of_ble_eq_true rfl) rfl ?_
    refine sd_if_eq (off := 12) (tgt := 27) (pc' := 18) (by decide +kernel) (fun c6 => ?_) (fun c6 => ?_)
    · replace hf := ite_p c6 hf
      refine sd_bipush (n := -2) (v := (-2)) (pc' := 29) (by decide +kernel) (by decide) ?_
      obtain rfl := Option.some.inj hf
      exact sd_iret (by decide +kernel) rfl (hE _)
    · replace hf := ite_n c6 hf
      refine sd_aload_n (k := 0) (i := 0) (q := 0) (pc' := 19) (by decide +kernel) rfl rfl ?_
      refine sd_iload_n (k := 1) (i := 1) (q := 1) (pc' := 20) (by decide +kernel) rfl rfl ?_
      refine sd_iload_n (k := 2) (i := 2) (q := 2) (pc' := 21) (by decide +kernel) rfl rfl ?_
      obtain ⟨t8, q7, hf⟩ := b1_some hf
      refine sF_callV (idx := 194) (b := 126) (As := [.int a0, .int a1]) (ci := 12) (nn := 47) (pc' := 24) 2 (T_YM_infoOf (G := G) (h := h)  q7) (by decide +kernel) mv_YM_infoOf ml_X12_194 (by decide +kernel) rfl rfl (Nat.le_of_ble_eq_true rfl) SH_126 rfl (by decide) rfl rfl ?_
      refine sd_goto (off := 5) (tgt := 29) (pc' := 27) (by decide +kernel) ?_
      obtain rfl := Option.some.inj hf
      exact sd_iret (by decide +kernel) rfl (hE _)

def M_YM_referenceOf : sd_MX := (yX12_referenceOf, cX12_referenceOf, 3, (some .int), { frames := 1, cells := 0, slots := 0, locals := 40 })
def YM_referenceOf (h : sd_H) (a0 : Int32) (a1 : Int32) : Option Int32 :=
  (if a1 = 0 then gd (sd_inB a0 15) (some (h.1 137 (a0 : Int32).toNatClampNeg)) else (if a1 = 1 then gd (sd_inB a0 15) (some (h.1 138 (a0 : Int32).toNatClampNeg)) else (if a1 = 2 then gd (sd_inB a0 15) (some (h.1 139 (a0 : Int32).toNatClampNeg)) else gd (sd_inB a0 15) (some (h.1 140 (a0 : Int32).toNatClampNeg)))))
set_option maxHeartbeats 4000000 in
set_option maxRecDepth 100000 in
theorem T_YM_referenceOf {G : sd_GX} {h : sd_H} {a0 : Int32} {a1 : Int32} {r : Int32} (hf : YM_referenceOf h a0 a1 = some r) : sd_RunF G M_YM_referenceOf [.ref (G.1 + 126), .int a0, .int a1] h (some (.int r)) h := by
  refine sF_run ⟨rfl, rfl⟩ (by decide +kernel) (Nat.le_of_ble_eq_true rfl) (lo := [(0, .ref (G.1 + 126)), (1, .int a0), (2, .int a1)]) rfl (fun X hE => ?_)
  unfold YM_referenceOf at hf
  refine sd_iload_n (k := 2) (i := 2) (q := 2) (pc' := 1) (by decide +kernel) rfl rfl ?_
  refine sd_if_ne (off := 12) (tgt := 13) (pc' := 4) (by decide +kernel) (fun c1 => ?_) (fun c1 => ?_)
  · replace hf := ite_n c1 hf
    refine sd_iload_n (k := 2) (i := 2) (q := 2) (pc' := 14) (by decide +kernel) rfl rfl ?_
    refine sd_iconst (n := 1) (v := 1) (pc' := 15) (by decide +kernel) (by decide) ?_
    refine sd_icmp_ne (off := 12) (tgt := 27) (pc' := 18) (by decide +kernel) (fun c2 => ?_) (fun c2 => ?_)
    · replace hf := ite_n c2 hf
      refine sd_iload_n (k := 2) (i := 2) (q := 2) (pc' := 28) (by decide +kernel) rfl rfl ?_
      refine sd_iconst (n := 2) (v := 2) (pc' := 29) (by decide +kernel) (by decide) ?_
      refine sd_icmp_ne (off := 12) (tgt := 41) (pc' := 32) (by decide +kernel) (fun c3 => ?_) (fun c3 => ?_)
      · replace hf := ite_n c3 hf
        refine sd_aload_n (k := 0) (i := 0) (q := 0) (pc' := 42) (by decide +kernel) rfl rfl ?_
        refine sF_gr (idx := 50) (ci := 12) (k := 16) (n := 47) (r := 140) (pc' := 45) (by decide +kernel) fl_X12_50 (by decide +kernel) rfl SH_126 (by decide) (by decide +kernel) ?_
        refine sd_iload_n (k := 1) (i := 1) (q := 1) (pc' := 46) (by decide +kernel) rfl rfl ?_
        obtain ⟨g4, hf⟩ := gd_some hf
        refine sF_iald (n := 15) (pc' := 47) (by decide +kernel) SH_140 g4 ?_
        obtain rfl := Option.some.inj hf
        exact sd_iret (by decide +kernel) rfl (hE _)
      · replace hf := ite_p c3 hf
        refine sd_aload_n (k := 0) (i := 0) (q := 0) (pc' := 33) (by decide +kernel) rfl rfl ?_
        refine sF_gr (idx := 47) (ci := 12) (k := 15) (n := 47) (r := 139) (pc' := 36) (by decide +kernel) fl_X12_47 (by decide +kernel) rfl SH_126 (by decide) (by decide +kernel) ?_
        refine sd_iload_n (k := 1) (i := 1) (q := 1) (pc' := 37) (by decide +kernel) rfl rfl ?_
        obtain ⟨g5, hf⟩ := gd_some hf
        refine sF_iald (n := 15) (pc' := 38) (by decide +kernel) SH_139 g5 ?_
        refine sd_goto (off := 9) (tgt := 47) (pc' := 41) (by decide +kernel) ?_
        obtain rfl := Option.some.inj hf
        exact sd_iret (by decide +kernel) rfl (hE _)
    · replace hf := ite_p c2 hf
      refine sd_aload_n (k := 0) (i := 0) (q := 0) (pc' := 19) (by decide +kernel) rfl rfl ?_
      refine sF_gr (idx := 44) (ci := 12) (k := 14) (n := 47) (r := 138) (pc' := 22) (by decide +kernel) fl_X12_44 (by decide +kernel) rfl SH_126 (by decide) (by decide +kernel) ?_
      refine sd_iload_n (k := 1) (i := 1) (q := 1) (pc' := 23) (by decide +kernel) rfl rfl ?_
      obtain ⟨g6, hf⟩ := gd_some hf
      refine sF_iald (n := 15) (pc' := 24) (by decide +kernel) SH_138 g6 ?_
      refine sd_goto (off := 23) (tgt := 47) (pc' := 27) (by decide +kernel) ?_
      obtain rfl := Option.some.inj hf
      exact sd_iret (by decide +kernel) rfl (hE _)
  · replace hf := ite_p c1 hf
    refine sd_aload_n (k := 0) (i := 0) (q := 0) (pc' := 5) (by decide +kernel) rfl rfl ?_
    refine sF_gr (idx := 41) (ci := 12) (k := 13) (n := 47) (r := 137) (pc' := 8) (by decide +kernel) fl_X12_41 (by decide +kernel) rfl SH_126 (by decide) (by decide +kernel) ?_
    refine sd_iload_n (k := 1) (i := 1) (q := 1) (pc' := 9) (by decide +kernel) rfl rfl ?_
    obtain ⟨g7, hf⟩ := gd_some hf
    refine sF_iald (n := 15) (pc' := 10) (by decide +kernel) SH_137 g7 ?_
    refine sd_goto (off := 37) (tgt := 47) (pc' := 13) (by decide +kernel) ?_
    obtain rfl := Option.some.inj hf
    exact sd_iret (by decide +kernel) rfl (hE _)

theorem ml_X12_197 : Cond.methodLink RX12 197 yX12_referenceOf ∈ sd_tb := sd_mem (i := 1423) (by decide +kernel)
theorem mv_YM_referenceOf : sd_mV M_YM_referenceOf 2 := ⟨sd_mem (i := 1425) (by decide +kernel), sd_mem (i := 49) (by decide +kernel), ⟨sd_mem (i := 1426) (by decide +kernel), sd_mem (i := 119) (by decide +kernel), by decide +kernel, by decide +kernel, by decide +kernel⟩⟩
def M_YM_reference : sd_MX := (yX12_reference, cX12_reference, 4, (some .int), { frames := 3, cells := 0, slots := 0, locals := 83 })
def YM_reference (h : sd_H) (a0 : Int32) (a1 : Int32) (a2 : Int32) : Option Int32 :=
  b1 (YM_isStatement h a0) (fun t2 => (if t2 = 0 then some (-2147483648) else b1 (YM_in a1 0 2) (fun t5 => (if t5 = 0 then some (-2147483648) else b1 (YM_in a2 0 3) (fun t8 => (if t8 = 0 then some (-2147483648) else b1 (YM_referenceOf h ((3 * a0) + a1) a2) (fun t11 => some t11)))))))
set_option maxHeartbeats 4000000 in
set_option maxRecDepth 100000 in
theorem T_YM_reference {G : sd_GX} {h : sd_H} {a0 : Int32} {a1 : Int32} {a2 : Int32} {r : Int32} (hf : YM_reference h a0 a1 a2 = some r) : sd_RunF G M_YM_reference [.ref (G.1 + 126), .int a0, .int a1, .int a2] h (some (.int r)) h := by
  refine sF_run ⟨rfl, rfl⟩ (by decide +kernel) (Nat.le_of_ble_eq_true rfl) (lo := [(0, .ref (G.1 + 126)), (1, .int a0), (2, .int a1), (3, .int a2)]) rfl (fun X hE => ?_)
  unfold YM_reference at hf
  refine sd_aload_n (k := 0) (i := 0) (q := 0) (pc' := 1) (by decide +kernel) rfl rfl ?_
  refine sd_iload_n (k := 1) (i := 1) (q := 1) (pc' := 2) (by decide +kernel) rfl rfl ?_
  obtain ⟨t2, q1, hf⟩ := b1_some hf
  refine sF_callV (idx := 174) (b := 126) (As := [.int a0]) (ci := 12) (nn := 47) (pc' := 5) 1 (T_YM_isStatement (G := G) (h := h)  q1) (by decide +kernel) mv_YM_isStatement ml_X12_174 (by decide +kernel) rfl rfl (Nat.le_of_ble_eq_true rfl) SH_126 rfl (by decide) rfl rfl ?_
  refine sd_if_eq (off := 34) (tgt := 39) (pc' := 8) (by decide +kernel) (fun c3 => ?_) (fun c3 => ?_)
  · replace hf := ite_p c3 hf
    refine sd_ldc (idx := 139) (v := (-2147483648)) (pc' := 41) (by decide +kernel) (sd_mem (i := 1335) (by decide +kernel)) ?_
    obtain rfl := Option.some.inj hf
    exact sd_iret (by decide +kernel) rfl (hE _)
  · replace hf := ite_n c3 hf
    refine sd_iload_n (k := 2) (i := 2) (q := 2) (pc' := 9) (by decide +kernel) rfl rfl ?_
    refine sd_iconst (n := 0) (v := 0) (pc' := 10) (by decide +kernel) (by decide) ?_
    refine sd_iconst (n := 2) (v := 2) (pc' := 11) (by decide +kernel) (by decide) ?_
    obtain ⟨t5, q4, hf⟩ := b1_some hf
    refine sF_callS (idx := 114) (As := [.int a1, .int 0, .int 2]) (pc' := 14) 3 (T_YM_in (G := G) (h := h)  q4) (by decide +kernel) mv_YM_in ml_X12_114 (by decide +kernel) rfl rfl (Nat.le_of_ble_eq_true rfl) rfl ?_
    refine sd_if_eq (off := 25) (tgt := 39) (pc' := 17) (by decide +kernel) (fun c6 => ?_) (fun c6 => ?_)
    · replace hf := ite_p c6 hf
      refine sd_ldc (idx := 139) (v := (-2147483648)) (pc' := 41) (by decide +kernel) (sd_mem (i := 1335) (by decide +kernel)) ?_
      obtain rfl := Option.some.inj hf
      exact sd_iret (by decide +kernel) rfl (hE _)
    · replace hf := ite_n c6 hf
      refine sd_iload_n (k := 3) (i := 3) (q := 3) (pc' := 18) (by decide +kernel) rfl rfl ?_
      refine sd_iconst (n := 0) (v := 0) (pc' := 19) (by decide +kernel) (by decide) ?_
      refine sd_iconst (n := 3) (v := 3) (pc' := 20) (by decide +kernel) (by decide) ?_
      obtain ⟨t8, q7, hf⟩ := b1_some hf
      refine sF_callS (idx := 114) (As := [.int a2, .int 0, .int 3]) (pc' := 23) 3 (T_YM_in (G := G) (h := h)  q7) (by decide +kernel) mv_YM_in ml_X12_114 (by decide +kernel) rfl rfl (Nat.le_of_ble_eq_true rfl) rfl ?_
      refine sd_if_eq (off := 16) (tgt := 39) (pc' := 26) (by decide +kernel) (fun c9 => ?_) (fun c9 => ?_)
      · replace hf := ite_p c9 hf
        refine sd_ldc (idx := 139) (v := (-2147483648)) (pc' := 41) (by decide +kernel) (sd_mem (i := 1335) (by decide +kernel)) ?_
        obtain rfl := Option.some.inj hf
        exact sd_iret (by decide +kernel) rfl (hE _)
      · replace hf := ite_n c9 hf
        refine sd_aload_n (k := 0) (i := 0) (q := 0) (pc' := 27) (by decide +kernel) rfl rfl ?_
        refine sd_iconst (n := 3) (v := 3) (pc' := 28) (by decide +kernel) (by decide) ?_
        refine sd_iload_n (k := 1) (i := 1) (q := 1) (pc' := 29) (by decide +kernel) rfl rfl ?_
        refine sd_imul (pc' := 30) (by decide +kernel) ?_
        refine sd_iload_n (k := 2) (i := 2) (q := 2) (pc' := 31) (by decide +kernel) rfl rfl ?_
        refine sd_iadd (pc' := 32) (by decide +kernel) ?_
        refine sd_iload_n (k := 3) (i := 3) (q := 3) (pc' := 33) (by decide +kernel) rfl rfl ?_
        obtain ⟨t11, q10, hf⟩ := b1_some hf
        refine sF_callV (idx := 197) (b := 126) (As := [.int ((3 * a0) + a1), .int a2]) (ci := 12) (nn := 47) (pc' := 36) 2 (T_YM_referenceOf (G := G) (h := h)  q10) (by decide +kernel) mv_YM_referenceOf ml_X12_197 (by decide +kernel) rfl rfl (Nat.le_of_ble_eq_true rfl) SH_126 rfl (by decide) rfl rfl ?_
        refine sd_goto (off := 5) (tgt := 41) (pc' := 39) (by decide +kernel) ?_
        obtain rfl := Option.some.inj hf
        exact sd_iret (by decide +kernel) rfl (hE _)

def M_YM_placeOf : sd_MX := (yX12_placeOf, cX12_placeOf, 4, (some .int), { frames := 1, cells := 0, slots := 0, locals := 40 })
def YM_placeOf (h : sd_H) (a0 : Int32) (a1 : Int32) (a2 : Int32) : Option Int32 :=
  gd (sd_inB a0 15) (gd (sd_inB a0 15) (gd (sd_inB a0 15) (some (((h.1 138 (a0 : Int32).toNatClampNeg) + ((h.1 139 (a0 : Int32).toNatClampNeg) * a1)) + ((h.1 140 (a0 : Int32).toNatClampNeg) * a2)))))
set_option maxHeartbeats 4000000 in
set_option maxRecDepth 100000 in
theorem T_YM_placeOf {G : sd_GX} {h : sd_H} {a0 : Int32} {a1 : Int32} {a2 : Int32} {r : Int32} (hf : YM_placeOf h a0 a1 a2 = some r) : sd_RunF G M_YM_placeOf [.ref (G.1 + 126), .int a0, .int a1, .int a2] h (some (.int r)) h := by
  refine sF_run ⟨rfl, rfl⟩ (by decide +kernel) (Nat.le_of_ble_eq_true rfl) (lo := [(0, .ref (G.1 + 126)), (1, .int a0), (2, .int a1), (3, .int a2)]) rfl (fun X hE => ?_)
  unfold YM_placeOf at hf
  refine sd_aload_n (k := 0) (i := 0) (q := 0) (pc' := 1) (by decide +kernel) rfl rfl ?_
  refine sF_gr (idx := 44) (ci := 12) (k := 14) (n := 47) (r := 138) (pc' := 4) (by decide +kernel) fl_X12_44 (by decide +kernel) rfl SH_126 (by decide) (by decide +kernel) ?_
  refine sd_iload_n (k := 1) (i := 1) (q := 1) (pc' := 5) (by decide +kernel) rfl rfl ?_
  obtain ⟨g1, hf⟩ := gd_some hf
  refine sF_iald (n := 15) (pc' := 6) (by decide +kernel) SH_138 g1 ?_
  refine sd_aload_n (k := 0) (i := 0) (q := 0) (pc' := 7) (by decide +kernel) rfl rfl ?_
  refine sF_gr (idx := 47) (ci := 12) (k := 15) (n := 47) (r := 139) (pc' := 10) (by decide +kernel) fl_X12_47 (by decide +kernel) rfl SH_126 (by decide) (by decide +kernel) ?_
  refine sd_iload_n (k := 1) (i := 1) (q := 1) (pc' := 11) (by decide +kernel) rfl rfl ?_
  obtain ⟨g2, hf⟩ := gd_some hf
  refine sF_iald (n := 15) (pc' := 12) (by decide +kernel) SH_139 g2 ?_
  refine sd_iload_n (k := 2) (i := 2) (q := 2) (pc' := 13) (by decide +kernel) rfl rfl ?_
  refine sd_imul (pc' := 14) (by decide +kernel) ?_
  refine sd_iadd (pc' := 15) (by decide +kernel) ?_
  refine sd_aload_n (k := 0) (i := 0) (q := 0) (pc' := 16) (by decide +kernel) rfl rfl ?_
  refine sF_gr (idx := 50) (ci := 12) (k := 16) (n := 47) (r := 140) (pc' := 19) (by decide +kernel) fl_X12_50 (by decide +kernel) rfl SH_126 (by decide) (by decide +kernel) ?_
  refine sd_iload_n (k := 1) (i := 1) (q := 1) (pc' := 20) (by decide +kernel) rfl rfl ?_
  obtain ⟨g3, hf⟩ := gd_some hf
  refine sF_iald (n := 15) (pc' := 21) (by decide +kernel) SH_140 g3 ?_
  refine sd_iload_n (k := 3) (i := 3) (q := 3) (pc' := 22) (by decide +kernel) rfl rfl ?_
  refine sd_imul (pc' := 23) (by decide +kernel) ?_
  refine sd_iadd (pc' := 24) (by decide +kernel) ?_
  obtain rfl := Option.some.inj hf
  exact sd_iret (by decide +kernel) rfl (hE _)

theorem ml_X12_200 : Cond.methodLink RX12 200 yX12_placeOf ∈ sd_tb := sd_mem (i := 1443) (by decide +kernel)
theorem mv_YM_placeOf : sd_mV M_YM_placeOf 3 := ⟨sd_mem (i := 1445) (by decide +kernel), sd_mem (i := 53) (by decide +kernel), ⟨sd_mem (i := 1446) (by decide +kernel), sd_mem (i := 119) (by decide +kernel), by decide +kernel, by decide +kernel, by decide +kernel⟩⟩
def M_YM_firstOf : sd_MX := (yX12_firstOf, cX12_firstOf, 5, (some .int), { frames := 2, cells := 0, slots := 0, locals := 63 })
def YM_firstOf (h : sd_H) (a0 : Int32) (a1 : Int32) : Option Int32 :=
  gd (sd_inB (a0 / 3) 5) (b1 (YM_placeOf h a0 a1 ((h.1 133 ((a0 / 3) : Int32).toNatClampNeg) - 1)) (fun t3 => b1 (YM_placeOf h a0 a1 0) (fun t5 => (if t3 ≤ t5 then some t3 else some t5))))
set_option maxHeartbeats 4000000 in
set_option maxRecDepth 100000 in
theorem T_YM_firstOf {G : sd_GX} {h : sd_H} {a0 : Int32} {a1 : Int32} {r : Int32} (hf : YM_firstOf h a0 a1 = some r) : sd_RunF G M_YM_firstOf [.ref (G.1 + 126), .int a0, .int a1] h (some (.int r)) h := by
  refine sF_run ⟨rfl, rfl⟩ (by decide +kernel) (Nat.le_of_ble_eq_true rfl) (lo := [(0, .ref (G.1 + 126)), (1, .int a0), (2, .int a1)]) rfl (fun X hE => ?_)
  unfold YM_firstOf at hf
  refine sd_aload_n (k := 0) (i := 0) (q := 0) (pc' := 1) (by decide +kernel) rfl rfl ?_
  refine sd_iload_n (k := 1) (i := 1) (q := 1) (pc' := 2) (by decide +kernel) rfl rfl ?_
  refine sd_iload_n (k := 2) (i := 2) (q := 2) (pc' := 3) (by decide +kernel) rfl rfl ?_
  refine sd_aload_n (k := 0) (i := 0) (q := 0) (pc' := 4) (by decide +kernel) rfl rfl ?_
  refine sF_gr (idx := 29) (ci := 12) (k := 9) (n := 47) (r := 133) (pc' := 7) (by decide +kernel) fl_X12_29 (by decide +kernel) rfl SH_126 (by decide) (by decide +kernel) ?_
  refine sd_iload_n (k := 1) (i := 1) (q := 1) (pc' := 8) (by decide +kernel) rfl rfl ?_
  refine sd_iconst (n := 3) (v := 3) (pc' := 9) (by decide +kernel) (by decide) ?_
  refine sd_idiv (pc' := 10) (by decide +kernel) (by decide) ?_
  obtain ⟨g1, hf⟩ := gd_some hf
  refine sF_iald (n := 5) (pc' := 11) (by decide +kernel) SH_133 g1 ?_
  refine sd_iconst (n := 1) (v := 1) (pc' := 12) (by decide +kernel) (by decide) ?_
  refine sd_isub (pc' := 13) (by decide +kernel) ?_
  obtain ⟨t3, q2, hf⟩ := b1_some hf
  refine sF_callV (idx := 200) (b := 126) (As := [.int a0, .int a1, .int ((h.1 133 ((a0 / 3) : Int32).toNatClampNeg) - 1)]) (ci := 12) (nn := 47) (pc' := 16) 3 (T_YM_placeOf (G := G) (h := h)  q2) (by decide +kernel) mv_YM_placeOf ml_X12_200 (by decide +kernel) rfl rfl (Nat.le_of_ble_eq_true rfl) SH_126 rfl (by decide) rfl rfl ?_
  refine sd_istore_n (k := 3) (i := 3) (pc' := 17) (lo' := [(3, .int t3), (0, .ref (G.1 + 126)), (1, .int a0), (2, .int a1)]) (by decide +kernel) rfl (by decide) rfl ?_
  refine sd_aload_n (k := 0) (i := 0) (q := 1) (pc' := 18) (by decide +kernel) rfl rfl ?_
  refine sd_iload_n (k := 1) (i := 1) (q := 2) (pc' := 19) (by decide +kernel) rfl rfl ?_
  refine sd_iload_n (k := 2) (i := 2) (q := 3) (pc' := 20) (by decide +kernel) rfl rfl ?_
  refine sd_iconst (n := 0) (v := 0) (pc' := 21) (by decide +kernel) (by decide) ?_
  obtain ⟨t5, q4, hf⟩ := b1_some hf
  refine sF_callV (idx := 200) (b := 126) (As := [.int a0, .int a1, .int 0]) (ci := 12) (nn := 47) (pc' := 24) 3 (T_YM_placeOf (G := G) (h := h)  q4) (by decide +kernel) mv_YM_placeOf ml_X12_200 (by decide +kernel) rfl rfl (Nat.le_of_ble_eq_true rfl) SH_126 rfl (by decide) rfl rfl ?_
  refine sd_istore (i := 4) (pc' := 26) (lo' := [(4, .int t5), (3, .int t3), (0, .ref (G.1 + 126)), (1, .int a0), (2, .int a1)]) (by decide +kernel) (by decide) rfl ?_
  refine sd_iload (i := 4) (q := 0) (pc' := 28) (by decide +kernel) rfl ?_
  refine sd_iload_n (k := 3) (i := 3) (q := 1) (pc' := 29) (by decide +kernel) rfl rfl ?_
  refine sd_icmp_ge (off := 8) (tgt := 37) (pc' := 32) (by decide +kernel) (fun c6 => ?_) (fun c6 => ?_)
  · replace hf := ite_p c6 hf
    refine sd_iload_n (k := 3) (i := 3) (q := 1) (pc' := 38) (by decide +kernel) rfl rfl ?_
    obtain rfl := Option.some.inj hf
    exact sd_iret (by decide +kernel) rfl (hE _)
  · replace hf := ite_n c6 hf
    refine sd_iload (i := 4) (q := 0) (pc' := 34) (by decide +kernel) rfl ?_
    refine sd_goto (off := 4) (tgt := 38) (pc' := 37) (by decide +kernel) ?_
    obtain rfl := Option.some.inj hf
    exact sd_iret (by decide +kernel) rfl (hE _)

def M_YM_manyOf : sd_MX := (yX12_manyOf, cX12_manyOf, 2, (some .int), { frames := 1, cells := 0, slots := 0, locals := 40 })
def YM_manyOf (h : sd_H) (a0 : Int32) : Option Int32 :=
  gd (sd_inB a0 15) ((if (h.1 140 (a0 : Int32).toNatClampNeg) = 0 then some 1 else gd (sd_inB (a0 / 3) 5) (some (h.1 133 ((a0 / 3) : Int32).toNatClampNeg))))
set_option maxHeartbeats 4000000 in
set_option maxRecDepth 100000 in
theorem T_YM_manyOf {G : sd_GX} {h : sd_H} {a0 : Int32} {r : Int32} (hf : YM_manyOf h a0 = some r) : sd_RunF G M_YM_manyOf [.ref (G.1 + 126), .int a0] h (some (.int r)) h := by
  refine sF_run ⟨rfl, rfl⟩ (by decide +kernel) (Nat.le_of_ble_eq_true rfl) (lo := [(0, .ref (G.1 + 126)), (1, .int a0)]) rfl (fun X hE => ?_)
  unfold YM_manyOf at hf
  refine sd_aload_n (k := 0) (i := 0) (q := 0) (pc' := 1) (by decide +kernel) rfl rfl ?_
  refine sF_gr (idx := 50) (ci := 12) (k := 16) (n := 47) (r := 140) (pc' := 4) (by decide +kernel) fl_X12_50 (by decide +kernel) rfl SH_126 (by decide) (by decide +kernel) ?_
  refine sd_iload_n (k := 1) (i := 1) (q := 1) (pc' := 5) (by decide +kernel) rfl rfl ?_
  obtain ⟨g1, hf⟩ := gd_some hf
  refine sF_iald (n := 15) (pc' := 6) (by decide +kernel) SH_140 g1 ?_
  refine sd_if_ne (off := 7) (tgt := 13) (pc' := 9) (by decide +kernel) (fun c2 => ?_) (fun c2 => ?_)
  · replace hf := ite_n c2 hf
    refine sd_aload_n (k := 0) (i := 0) (q := 0) (pc' := 14) (by decide +kernel) rfl rfl ?_
    refine sF_gr (idx := 29) (ci := 12) (k := 9) (n := 47) (r := 133) (pc' := 17) (by decide +kernel) fl_X12_29 (by decide +kernel) rfl SH_126 (by decide) (by decide +kernel) ?_
    refine sd_iload_n (k := 1) (i := 1) (q := 1) (pc' := 18) (by decide +kernel) rfl rfl ?_
    refine sd_iconst (n := 3) (v := 3) (pc' := 19) (by decide +kernel) (by decide) ?_
    refine sd_idiv (pc' := 20) (by decide +kernel) (by decide) ?_
    obtain ⟨g3, hf⟩ := gd_some hf
    refine sF_iald (n := 5) (pc' := 21) (by decide +kernel) SH_133 g3 ?_
    obtain rfl := Option.some.inj hf
    exact sd_iret (by decide +kernel) rfl (hE _)
  · replace hf := ite_p c2 hf
    refine sd_iconst (n := 1) (v := 1) (pc' := 10) (by decide +kernel) (by decide) ?_
    refine sd_goto (off := 11) (tgt := 21) (pc' := 13) (by decide +kernel) ?_
    obtain rfl := Option.some.inj hf
    exact sd_iret (by decide +kernel) rfl (hE _)

theorem ml_X12_203 : Cond.methodLink RX12 203 yX12_manyOf ∈ sd_tb := sd_mem (i := 1451) (by decide +kernel)
theorem mv_YM_manyOf : sd_mV M_YM_manyOf 1 := ⟨sd_mem (i := 1453) (by decide +kernel), sd_mem (i := 55) (by decide +kernel), ⟨sd_mem (i := 1454) (by decide +kernel), sd_mem (i := 119) (by decide +kernel), by decide +kernel, by decide +kernel, by decide +kernel⟩⟩
def M_YM_strideOf : sd_MX := (yX12_strideOf, cX12_strideOf, 2, (some .int), { frames := 2, cells := 0, slots := 0, locals := 61 })
def YM_strideOf (h : sd_H) (a0 : Int32) : Option Int32 :=
  b1 (YM_manyOf h a0) (fun t2 => (if t2 = 1 then some 1 else gd (sd_inB a0 15) ((if 0 ≤ (h.1 140 (a0 : Int32).toNatClampNeg) then gd (sd_inB a0 15) (some (h.1 140 (a0 : Int32).toNatClampNeg)) else gd (sd_inB a0 15) (some (-(h.1 140 (a0 : Int32).toNatClampNeg)))))))
set_option maxHeartbeats 4000000 in
set_option maxRecDepth 100000 in
theorem T_YM_strideOf {G : sd_GX} {h : sd_H} {a0 : Int32} {r : Int32} (hf : YM_strideOf h a0 = some r) : sd_RunF G M_YM_strideOf [.ref (G.1 + 126), .int a0] h (some (.int r)) h := by
  refine sF_run ⟨rfl, rfl⟩ (by decide +kernel) (Nat.le_of_ble_eq_true rfl) (lo := [(0, .ref (G.1 + 126)), (1, .int a0)]) rfl (fun X hE => ?_)
  unfold YM_strideOf at hf
  refine sd_aload_n (k := 0) (i := 0) (q := 0) (pc' := 1) (by decide +kernel) rfl rfl ?_
  refine sd_iload_n (k := 1) (i := 1) (q := 1) (pc' := 2) (by decide +kernel) rfl rfl ?_
  obtain ⟨t2, q1, hf⟩ := b1_some hf
  refine sF_callV (idx := 203) (b := 126) (As := [.int a0]) (ci := 12) (nn := 47) (pc' := 5) 1 (T_YM_manyOf (G := G) (h := h)  q1) (by decide +kernel) mv_YM_manyOf ml_X12_203 (by decide +kernel) rfl rfl (Nat.le_of_ble_eq_true rfl) SH_126 rfl (by decide) rfl rfl ?_
  refine sd_iconst (n := 1) (v := 1) (pc' := 6) (by decide +kernel) (by decide) ?_
  refine sd_icmp_ne (off := 7) (tgt := 13) (pc' := 9) (by decide +kernel) (fun c3 => ?_) (fun c3 => ?_)
  · replace hf := ite_n c3 hf
    refine sd_aload_n (k := 0) (i := 0) (q := 0) (pc' := 14) (by decide +kernel) rfl rfl ?_
    refine sF_gr (idx := 50) (ci := 12) (k := 16) (n := 47) (r := 140) (pc' := 17) (by decide +kernel) fl_X12_50 (by decide +kernel) rfl SH_126 (by decide) (by decide +kernel) ?_
    refine sd_iload_n (k := 1) (i := 1) (q := 1) (pc' := 18) (by decide +kernel) rfl rfl ?_
    obtain ⟨g4, hf⟩ := gd_some hf
    refine sF_iald (n := 15) (pc' := 19) (by decide +kernel) SH_140 g4 ?_
    refine sd_if_ge (off := 13) (tgt := 32) (pc' := 22) (by decide +kernel) (fun c5 => ?_) (fun c5 => ?_)
    · replace hf := ite_p c5 hf
      refine sd_aload_n (k := 0) (i := 0) (q := 0) (pc' := 33) (by decide +kernel) rfl rfl ?_
      refine sF_gr (idx := 50) (ci := 12) (k := 16) (n := 47) (r := 140) (pc' := 36) (by decide +kernel) fl_X12_50 (by decide +kernel) rfl SH_126 (by decide) (by decide +kernel) ?_
      refine sd_iload_n (k := 1) (i := 1) (q := 1) (pc' := 37) (by decide +kernel) rfl rfl ?_
      obtain ⟨g6, hf⟩ := gd_some hf
      refine sF_iald (n := 15) (pc' := 38) (by decide +kernel) SH_140 g6 ?_
      obtain rfl := Option.some.inj hf
      exact sd_iret (by decide +kernel) rfl (hE _)
    · replace hf := ite_n c5 hf
      refine sd_aload_n (k := 0) (i := 0) (q := 0) (pc' := 23) (by decide +kernel) rfl rfl ?_
      refine sF_gr (idx := 50) (ci := 12) (k := 16) (n := 47) (r := 140) (pc' := 26) (by decide +kernel) fl_X12_50 (by decide +kernel) rfl SH_126 (by decide) (by decide +kernel) ?_
      refine sd_iload_n (k := 1) (i := 1) (q := 1) (pc' := 27) (by decide +kernel) rfl rfl ?_
      obtain ⟨g7, hf⟩ := gd_some hf
      refine sF_iald (n := 15) (pc' := 28) (by decide +kernel) SH_140 g7 ?_
      refine sd_ineg (pc' := 29) (by decide +kernel) ?_
      refine sd_goto (off := 9) (tgt := 38) (pc' := 32) (by decide +kernel) ?_
      obtain rfl := Option.some.inj hf
      exact sd_iret (by decide +kernel) rfl (hE _)
  · replace hf := ite_p c3 hf
    refine sd_iconst (n := 1) (v := 1) (pc' := 10) (by decide +kernel) (by decide) ?_
    refine sd_goto (off := 28) (tgt := 38) (pc' := 13) (by decide +kernel) ?_
    obtain rfl := Option.some.inj hf
    exact sd_iret (by decide +kernel) rfl (hE _)

theorem ml_X12_209 : Cond.methodLink RX12 209 yX12_strideOf ∈ sd_tb := sd_mem (i := 1447) (by decide +kernel)
theorem mv_YM_strideOf : sd_mV M_YM_strideOf 1 := ⟨sd_mem (i := 1449) (by decide +kernel), sd_mem (i := 54) (by decide +kernel), ⟨sd_mem (i := 1450) (by decide +kernel), sd_mem (i := 119) (by decide +kernel), by decide +kernel, by decide +kernel, by decide +kernel⟩⟩
theorem ml_X12_206 : Cond.methodLink RX12 206 yX12_firstOf ∈ sd_tb := sd_mem (i := 1439) (by decide +kernel)
theorem mv_YM_firstOf : sd_mV M_YM_firstOf 2 := ⟨sd_mem (i := 1441) (by decide +kernel), sd_mem (i := 52) (by decide +kernel), ⟨sd_mem (i := 1442) (by decide +kernel), sd_mem (i := 119) (by decide +kernel), by decide +kernel, by decide +kernel, by decide +kernel⟩⟩
def M_YM_sectionOf : sd_MX := (yX12_sectionOf, cX12_sectionOf, 4, (some .int), { frames := 3, cells := 0, slots := 0, locals := 87 })
def YM_sectionOf (h : sd_H) (a0 : Int32) (a1 : Int32) (a2 : Int32) : Option Int32 :=
  (if a2 = 0 then b1 (YM_firstOf h a0 a1) (fun t8 => some t8) else (if a2 = 1 then b1 (YM_strideOf h a0) (fun t6 => some t6) else b1 (YM_manyOf h a0) (fun t4 => some t4)))
set_option maxHeartbeats 4000000 in
set_option maxRecDepth 100000 in
theorem T_YM_sectionOf {G : sd_GX} {h : sd_H} {a0 : Int32} {a1 : Int32} {a2 : Int32} {r : Int32} (hf : YM_sectionOf h a0 a1 a2 = some r) : sd_RunF G M_YM_sectionOf [.ref (G.1 + 126), .int a0, .int a1, .int a2] h (some (.int r)) h := by
  refine sF_run ⟨rfl, rfl⟩ (by decide +kernel) (Nat.le_of_ble_eq_true rfl) (lo := [(0, .ref (G.1 + 126)), (1, .int a0), (2, .int a1), (3, .int a2)]) rfl (fun X hE => ?_)
  unfold YM_sectionOf at hf
  refine sd_iload_n (k := 3) (i := 3) (q := 3) (pc' := 1) (by decide +kernel) rfl rfl ?_
  refine sd_if_ne (off := 12) (tgt := 13) (pc' := 4) (by decide +kernel) (fun c1 => ?_) (fun c1 => ?_)
  · replace hf := ite_n c1 hf
    refine sd_iload_n (k := 3) (i := 3) (q := 3) (pc' := 14) (by decide +kernel) rfl rfl ?_
    refine sd_iconst (n := 1) (v := 1) (pc' := 15) (by decide +kernel) (by decide) ?_
    refine sd_icmp_ne (off := 11) (tgt := 26) (pc' := 18) (by decide +kernel) (fun c2 => ?_) (fun c2 => ?_)
    · replace hf := ite_n c2 hf
      refine sd_aload_n (k := 0) (i := 0) (q := 0) (pc' := 27) (by decide +kernel) rfl rfl ?_
      refine sd_iload_n (k := 1) (i := 1) (q := 1) (pc' := 28) (by decide +kernel) rfl rfl ?_
      obtain ⟨t4, q3, hf⟩ := b1_some hf
      refine sF_callV (idx := 203) (b := 126) (As := [.int a0]) (ci := 12) (nn := 47) (pc' := 31) 1 (T_YM_manyOf (G := G) (h := h)  q3) (by decide +kernel) mv_YM_manyOf ml_X12_203 (by decide +kernel) rfl rfl (Nat.le_of_ble_eq_true rfl) SH_126 rfl (by decide) rfl rfl ?_
      obtain rfl := Option.some.inj hf
      exact sd_iret (by decide +kernel) rfl (hE _)
    · replace hf := ite_p c2 hf
      refine sd_aload_n (k := 0) (i := 0) (q := 0) (pc' := 19) (by decide +kernel) rfl rfl ?_
      refine sd_iload_n (k := 1) (i := 1) (q := 1) (pc' := 20) (by decide +kernel) rfl rfl ?_
      obtain ⟨t6, q5, hf⟩ := b1_some hf
      refine sF_callV (idx := 209) (b := 126) (As := [.int a0]) (ci := 12) (nn := 47) (pc' := 23) 1 (T_YM_strideOf (G := G) (h := h)  q5) (by decide +kernel) mv_YM_strideOf ml_X12_209 (by decide +kernel) rfl rfl (Nat.le_of_ble_eq_true rfl) SH_126 rfl (by decide) rfl rfl ?_
      refine sd_goto (off := 8) (tgt := 31) (pc' := 26) (by decide +kernel) ?_
      obtain rfl := Option.some.inj hf
      exact sd_iret (by decide +kernel) rfl (hE _)
  · replace hf := ite_p c1 hf
    refine sd_aload_n (k := 0) (i := 0) (q := 0) (pc' := 5) (by decide +kernel) rfl rfl ?_
    refine sd_iload_n (k := 1) (i := 1) (q := 1) (pc' := 6) (by decide +kernel) rfl rfl ?_
    refine sd_iload_n (k := 2) (i := 2) (q := 2) (pc' := 7) (by decide +kernel) rfl rfl ?_
    obtain ⟨t8, q7, hf⟩ := b1_some hf
    refine sF_callV (idx := 206) (b := 126) (As := [.int a0, .int a1]) (ci := 12) (nn := 47) (pc' := 10) 2 (T_YM_firstOf (G := G) (h := h)  q7) (by decide +kernel) mv_YM_firstOf ml_X12_206 (by decide +kernel) rfl rfl (Nat.le_of_ble_eq_true rfl) SH_126 rfl (by decide) rfl rfl ?_
    refine sd_goto (off := 21) (tgt := 31) (pc' := 13) (by decide +kernel) ?_
    obtain rfl := Option.some.inj hf
    exact sd_iret (by decide +kernel) rfl (hE _)
