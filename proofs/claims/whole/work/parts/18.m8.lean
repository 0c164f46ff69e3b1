def M_YM_lacks : sd_MX := (yX12_lacks, cX12_lacks, 3, (some .int), { frames := 2, cells := 0, slots := 0, locals := 62 })
def YM_lacks (h : sd_H) (a0 : Int32) (a1 : Int32) : Option Int32 :=
  gd (sd_inB a0 6) ((if (h.1 127 (a0 : Int32).toNatClampNeg) = (-1) then some 1 else gd (sd_inB a0 6) (b1 (YM_in a1 0 ((h.1 128 (a0 : Int32).toNatClampNeg) - 1)) (fun t5 => (if t5 = 0 then some 2 else some 0)))))
set_option maxHeartbeats 4000000 in
set_option maxRecDepth 100000 in
theorem T_YM_lacks {G : sd_GX} {h : sd_H} {a0 : Int32} {a1 : Int32} {r : Int32} (hf : YM_lacks h a0 a1 = some r) : sd_RunF G M_YM_lacks [.ref (G.1 + 126), .int a0, .int a1] h (some (.int r)) h := by
  refine sF_run ⟨rfl, rfl⟩ (by decide +kernel) (Nat.le_of_ble_eq_true rfl) (lo := [(0, .ref (G.1 + 126)), (1, .int a0), (2, .int a1)]) rfl (fun X hE => ?_)
  unfold YM_lacks at hf
  refine sd_aload_n (k := 0) (i := 0) (q := 0) (pc' := 1) (by decide +kernel) rfl rfl ?_
  refine sF_gr (idx := 7) (ci := 12) (k := 0) (n := 47) (r := 127) (pc' := 4) (by decide +kernel) fl_X12_7 (by decide +kernel) rfl SH_126 (by decide) (by decide +kernel) ?_
  refine sd_iload_n (k := 1) (i := 1) (q := 1) (pc' := 5) (by decide +kernel) rfl rfl ?_
  obtain ⟨g1, hf⟩ := gd_some hf
  refine sF_iald (n := 6) (pc' := 6) (by decide +kernel) SH_127 g1 ?_
  refine sd_iconst (n := -1) (v := (-1)) (pc' := 7) (by decide +kernel) (by decide) ?_
  refine sd_icmp_ne (off := 7) (tgt := 14) (pc' := 10) (by decide +kernel) (fun c2 => ?_) (fun c2 => ?_)
  · replace hf := ite_n c2 hf
    refine sd_iload_n (k := 2) (i := 2) (q := 2) (pc' := 15) (by decide +kernel) rfl rfl ?_
    refine sd_iconst (n := 0) (v := 0) (pc' := 16) (by decide +kernel) (by decide) ?_
    refine sd_aload_n (k := 0) (i := 0) (q := 0) (pc' := 17) (by decide +kernel) rfl rfl ?_
    refine sF_gr (idx := 13) (ci := 12) (k := 1) (n := 47) (r := 128) (pc' := 20) (by decide +kernel) fl_X12_13 (by decide +kernel) rfl SH_126 (by decide) (by decide +kernel) ?_
    refine sd_iload_n (k := 1) (i := 1) (q := 1) (pc' := 21) (by decide +kernel) rfl rfl ?_
    obtain ⟨g3, hf⟩ := gd_some hf
    refine sF_iald (n := 6) (pc' := 22) (by decide +kernel) SH_128 g3 ?_
    refine sd_iconst (n := 1) (v := 1) (pc' := 23) (by decide +kernel) (by decide) ?_
    refine sd_isub (pc' := 24) (by decide +kernel) ?_
    obtain ⟨t5, q4, hf⟩ := b1_some hf
    refine sF_callS (idx := 114) (As := [.int a1, .int 0, .int ((h.1 128 (a0 : Int32).toNatClampNeg) - 1)]) (pc' := 27) 3 (T_YM_in (G := G) (h := h)  q4) (by decide +kernel) mv_YM_in ml_X12_114 (by decide +kernel) rfl rfl (Nat.le_of_ble_eq_true rfl) rfl ?_
    refine sd_if_eq (off := 7) (tgt := 34) (pc' := 30) (by decide +kernel) (fun c6 => ?_) (fun c6 => ?_)
    · replace hf := ite_p c6 hf
      refine sd_iconst (n := 2) (v := 2) (pc' := 35) (by decide +kernel) (by decide) ?_
      obtain rfl := Option.some.inj hf
      exact sd_iret (by decide +kernel) rfl (hE _)
    · replace hf := ite_n c6 hf
      refine sd_iconst (n := 0) (v := 0) (pc' := 31) (by decide +kernel) (by decide) ?_
      refine sd_goto (off := 4) (tgt := 35) (pc' := 34) (by decide +kernel) ?_
      obtain rfl := Option.some.inj hf
      exact sd_iret (by decide +kernel) rfl (hE _)
  · replace hf := ite_p c2 hf
    refine sd_iconst (n := 1) (v := 1) (pc' := 11) (by decide +kernel) (by decide) ?_
    refine sd_goto (off := 24) (tgt := 35) (pc' := 14) (by decide +kernel) ?_
    obtain rfl := Option.some.inj hf
    exact sd_iret (by decide +kernel) rfl (hE _)

theorem ml_X12_144 : Cond.methodLink RX12 144 yX12_lacks ∈ sd_tb := sd_mem (i := 1323) (by decide +kernel)
theorem mv_YM_lacks : sd_mV M_YM_lacks 2 := ⟨sd_mem (i := 1325) (by decide +kernel), sd_mem (i := 38) (by decide +kernel), ⟨sd_mem (i := 1326) (by decide +kernel), sd_mem (i := 119) (by decide +kernel), by decide +kernel, by decide +kernel, by decide +kernel⟩⟩
theorem ml_X12_148 : Cond.methodLink RX12 148 yX12_toldOf ∈ sd_tb := sd_mem (i := 1327) (by decide +kernel)
theorem mv_YM_toldOf : sd_mV M_YM_toldOf 1 := ⟨sd_mem (i := 1329) (by decide +kernel), sd_mem (i := 39) (by decide +kernel), ⟨sd_mem (i := 1330) (by decide +kernel), sd_mem (i := 119) (by decide +kernel), by decide +kernel, by decide +kernel, by decide +kernel⟩⟩
theorem ml_X12_140 : Cond.methodLink RX12 140 yX12_no ∈ sd_tb := sd_mem (i := 1319) (by decide +kernel)
theorem mv_YM_no : sd_mS M_YM_no 1 := ⟨sd_mem (i := 1320) (by decide +kernel), ⟨sd_mem (i := 1321) (by decide +kernel), sd_mem (i := 119) (by decide +kernel), by decide +kernel, by decide +kernel, by decide +kernel⟩⟩
def M_YM_get : sd_MX := (yX12_get, cX12_get, 4, (some .long), { frames := 3, cells := 0, slots := 0, locals := 96 })
def YM_get (h : sd_H) (a0 : Int32) (a1 : Int32) : Option (sd_H × Int64) :=
  b1 (YM_isRow a0) (fun t2 => (if t2 = 0 then b1 (YM_no (-2)) (fun t15 => some (h, t15)) else b1 (YM_lacks h a0 a1) (fun t5 => (if t5 ≤ 0 then b1 (YM_toldOf h ((24 * a0) + a1)) (fun t8 => some (h, t8)) else b2 (YM_meets h t5) (fun h10 t11 => b1 (YM_no t11) (fun t13 => some (h10, t13)))))))
set_option maxHeartbeats 4000000 in
set_option maxRecDepth 100000 in
theorem T_YM_get {G : sd_GX} {h : sd_H} {a0 : Int32} {a1 : Int32} {r : (sd_H × Int64)} (hf : YM_get h a0 a1 = some r) : sd_RunF G M_YM_get [.ref (G.1 + 126), .int a0, .int a1] h (some (.long r.2)) r.1 := by
  refine sF_run ⟨rfl, rfl⟩ (by decide +kernel) (Nat.le_of_ble_eq_true rfl) (lo := [(0, .ref (G.1 + 126)), (1, .int a0), (2, .int a1)]) rfl (fun X hE => ?_)
  unfold YM_get at hf
  refine sd_iload_n (k := 1) (i := 1) (q := 1) (pc' := 1) (by decide +kernel) rfl rfl ?_
  obtain ⟨t2, q1, hf⟩ := b1_some hf
  refine sF_callS (idx := 122) (As := [.int a0]) (pc' := 4) 1 (T_YM_isRow (G := G) (h := h)  q1) (by decide +kernel) mv_YM_isRow ml_X12_122 (by decide +kernel) rfl rfl (Nat.le_of_ble_eq_true rfl) rfl ?_
  refine sd_if_ne (off := 9) (tgt := 13) (pc' := 7) (by decide +kernel) (fun c3 => ?_) (fun c3 => ?_)
  · replace hf := ite_n c3 hf
    refine sd_aload_n (k := 0) (i := 0) (q := 0) (pc' := 14) (by decide +kernel) rfl rfl ?_
    refine sd_iload_n (k := 1) (i := 1) (q := 1) (pc' := 15) (by decide +kernel) rfl rfl ?_
    refine sd_iload_n (k := 2) (i := 2) (q := 2) (pc' := 16) (by decide +kernel) rfl rfl ?_
    obtain ⟨t5, q4, hf⟩ := b1_some hf
    refine sF_callV (idx := 144) (b := 126) (As := [.int a0, .int a1]) (ci := 12) (nn := 47) (pc' := 19) 2 (T_YM_lacks (G := G) (h := h)  q4) (by decide +kernel) mv_YM_lacks ml_X12_144 (by decide +kernel) rfl rfl (Nat.le_of_ble_eq_true rfl) SH_126 rfl (by decide) rfl rfl ?_
    refine sd_istore_n (k := 3) (i := 3) (pc' := 20) (lo' := [(3, .int t5), (0, .ref (G.1 + 126)), (1, .int a0), (2, .int a1)]) (by decide +kernel) rfl (by decide) rfl ?_
    refine sd_iload_n (k := 3) (i := 3) (q := 0) (pc' := 21) (by decide +kernel) rfl rfl ?_
    refine sd_if_le (off := 14) (tgt := 35) (pc' := 24) (by decide +kernel) (fun c6 => ?_) (fun c6 => ?_)
    · replace hf := ite_p c6 hf
      refine sd_aload_n (k := 0) (i := 0) (q := 1) (pc' := 36) (by decide +kernel) rfl rfl ?_
      refine sd_bipush (n := 24) (v := 24) (pc' := 38) (by decide +kernel) (by decide) ?_
      refine sd_iload_n (k := 1) (i := 1) (q := 2) (pc' := 39) (by decide +kernel) rfl rfl ?_
      refine sd_imul (pc' := 40) (by decide +kernel) ?_
      refine sd_iload_n (k := 2) (i := 2) (q := 3) (pc' := 41) (by decide +kernel) rfl rfl ?_
      refine sd_iadd (pc' := 42) (by decide +kernel) ?_
      obtain ⟨t8, q7, hf⟩ := b1_some hf
      refine sF_callV (idx := 148) (b := 126) (As := [.int ((24 * a0) + a1)]) (ci := 12) (nn := 47) (pc' := 45) 1 (T_YM_toldOf (G := G) (h := h)  q7) (by decide +kernel) mv_YM_toldOf ml_X12_148 (by decide +kernel) rfl rfl (Nat.le_of_ble_eq_true rfl) SH_126 rfl (by decide) rfl rfl ?_
      obtain rfl := Option.some.inj hf
      exact sd_lret (by decide +kernel) rfl (hE _)
    · replace hf := ite_n c6 hf
      refine sd_aload_n (k := 0) (i := 0) (q := 1) (pc' := 25) (by decide +kernel) rfl rfl ?_
      refine sd_iload_n (k := 3) (i := 3) (q := 0) (pc' := 26) (by decide +kernel) rfl rfl ?_
      obtain ⟨h10, t11, q9, hf⟩ := b2_some hf
      refine sF_callV (idx := 126) (b := 126) (As := [.int t5]) (ci := 12) (nn := 47) (pc' := 29) 1 (T_YM_meets (G := G) (h := h)  q9) (by decide +kernel) mv_YM_meets ml_X12_126 (by decide +kernel) rfl rfl (Nat.le_of_ble_eq_true rfl) SH_126 rfl (by decide) rfl rfl ?_
      obtain ⟨t13, q12, hf⟩ := b1_some hf
      refine sF_callS (idx := 140) (As := [.int t11]) (pc' := 32) 1 (T_YM_no (G := G) (h := h10)  q12) (by decide +kernel) mv_YM_no ml_X12_140 (by decide +kernel) rfl rfl (Nat.le_of_ble_eq_true rfl) rfl ?_
      refine sd_goto (off := 13) (tgt := 45) (pc' := 35) (by decide +kernel) ?_
      obtain rfl := Option.some.inj hf
      exact sd_lret (by decide +kernel) rfl (hE _)
  · replace hf := ite_p c3 hf
    refine sd_bipush (n := -2) (v := (-2)) (pc' := 9) (by decide +kernel) (by decide) ?_
    obtain ⟨t15, q14, hf⟩ := b1_some hf
    refine sF_callS (idx := 140) (As := [.int (-2)]) (pc' := 12) 1 (T_YM_no (G := G) (h := h)  q14) (by decide +kernel) mv_YM_no ml_X12_140 (by decide +kernel) rfl rfl (Nat.le_of_ble_eq_true rfl) rfl ?_
    obtain rfl := Option.some.inj hf
    exact sd_lret (by decide +kernel) rfl (hE _)

theorem fl_X12_23 : sd_fl RX12 23 12 5 := ⟨sd_mem (i := 1153) (by decide +kernel), by decide, by decide⟩
def M_YM_copy : sd_MX := (yX12_copy, cX12_copy, 7, (some .int), { frames := 3, cells := 0, slots := 0, locals := 82 })
def YM_copy_B37 (h : sd_H) : Option (sd_H × Int32) :=
  b2 (YM_meets h 1) (fun h10 t11 => some (h10, t11))
set_option maxHeartbeats 4000000 in
set_option maxRecDepth 100000 in
theorem J_YM_copy_B37 {G : sd_GX} {X : sd_CX} (hE : ∀ g : sd_H, sd_end G X M_YM_copy (sd_F g)) {h : sd_H} {r : (sd_H × Int32)} (hf : YM_copy_B37 h = some r) : sd_J G X (sd_QR G X M_YM_copy (some (.int r.2), sd_F r.1)) M_YM_copy 37 [(0, .ref (G.1 + 126))] [] (sd_F h) := by
  unfold YM_copy_B37 at hf
  refine sd_aload_n (k := 0) (i := 0) (q := 0) (pc' := 38) (by decide +kernel) rfl rfl ?_
  refine sd_iconst (n := 1) (v := 1) (pc' := 39) (by decide +kernel) (by decide) ?_
  obtain ⟨h10, t11, q9, hf⟩ := b2_some hf
  refine sF_callV (idx := 126) (b := 126) (As := [.int 1]) (ci := 12) (nn := 47) (pc' := 42) 1 (T_YM_meets (G := G) (h := h)  q9) (by decide +kernel) mv_YM_meets ml_X12_126 (by decide +kernel) rfl rfl (Nat.le_of_ble_eq_true rfl) SH_126 rfl (by decide) rfl rfl ?_
  obtain rfl := Option.some.inj hf
  exact sd_iret (by decide +kernel) rfl (hE _)
def YM_copy_B113 (h : sd_H) : Option (sd_H × Int32) :=
  b2 (YM_meets h 2) (fun h19 t20 => some (h19, t20))
set_option maxHeartbeats 4000000 in
set_option maxRecDepth 100000 in
theorem J_YM_copy_B113 {G : sd_GX} {X : sd_CX} (hE : ∀ g : sd_H, sd_end G X M_YM_copy (sd_F g)) {h : sd_H} {r : (sd_H × Int32)} (hf : YM_copy_B113 h = some r) : sd_J G X (sd_QR G X M_YM_copy (some (.int r.2), sd_F r.1)) M_YM_copy 113 [(0, .ref (G.1 + 126))] [] (sd_F h) := by
  unfold YM_copy_B113 at hf
  refine sd_aload_n (k := 0) (i := 0) (q := 0) (pc' := 114) (by decide +kernel) rfl rfl ?_
  refine sd_iconst (n := 2) (v := 2) (pc' := 115) (by decide +kernel) (by decide) ?_
  obtain ⟨h19, t20, q18, hf⟩ := b2_some hf
  refine sF_callV (idx := 126) (b := 126) (As := [.int 2]) (ci := 12) (nn := 47) (pc' := 118) 1 (T_YM_meets (G := G) (h := h)  q18) (by decide +kernel) mv_YM_meets ml_X12_126 (by decide +kernel) rfl rfl (Nat.le_of_ble_eq_true rfl) SH_126 rfl (by decide) rfl rfl ?_
  obtain rfl := Option.some.inj hf
  exact sd_iret (by decide +kernel) rfl (hE _)
def YM_copy_L159 : Nat → sd_H → Int32 → Int32 → Int32 → Int32 → Option (sd_H × Int32)
  | 0, _, _, _, _, _ => none
  | n + 1, h, l3, l4, l5, l6 =>
  (if l5 ≤ l6 then some (h, 1) else gd (sd_inB l6 24) (gd (sd_inB (((24 * l3) + l4) + l6) 144) (hb (wD h 129 ((((24 * l3) + l4) + l6) : Int32).toNatClampNeg (h.2.1 131 (l6 : Int32).toNatClampNeg)) (fun h31 => YM_copy_L159 n h31 l3 l4 l5 (l6 + 1)))))
set_option maxHeartbeats 4000000 in
set_option maxRecDepth 100000 in
theorem J_YM_copy_L159 {G : sd_GX} {X : sd_CX} (hE : ∀ g : sd_H, sd_end G X M_YM_copy (sd_F g))  {r : (sd_H × Int32)} : ∀ (n : Nat) (h : sd_H) (l3 : Int32) (l4 : Int32) (l5 : Int32) (l6 : Int32), YM_copy_L159 n h l3 l4 l5 l6 = some r → sd_J G X (sd_QR G X M_YM_copy (some (.int r.2), sd_F r.1)) M_YM_copy 159 [(0, .ref (G.1 + 126)), (3, .int l3), (4, .int l4), (5, .int l5), (6, .int l6)] [] (sd_F h) := by
  intro n
  induction n with
  | zero =>
    intro h l3 l4 l5 l6 hf
    rw [YM_copy_L159] at hf
    cases hf
  | succ n ih =>
    intro h l3 l4 l5 l6 hf
    rw [YM_copy_L159] at hf
    refine sd_iload (i := 6) (q := 4) (pc' := 161) (by decide +kernel) rfl ?_
    refine sd_iload (i := 5) (q := 3) (pc' := 163) (by decide +kernel) rfl ?_
    refine sd_icmp_ge (off := 31) (tgt := 194) (pc' := 166) (by decide +kernel) (fun c28 => ?_) (fun c28 => ?_)
    · replace hf := ite_p c28 hf
      refine sd_iconst (n := 1) (v := 1) (pc' := 195) (by decide +kernel) (by decide) ?_
      obtain rfl := Option.some.inj hf
      exact sd_iret (by decide +kernel) rfl (hE _)
    · replace hf := ite_n c28 hf
      refine sd_aload_n (k := 0) (i := 0) (q := 0) (pc' := 167) (by decide +kernel) rfl rfl ?_
      refine sF_gr (idx := 16) (ci := 12) (k := 2) (n := 47) (r := 129) (pc' := 170) (by decide +kernel) fl_X12_16 (by decide +kernel) rfl SH_126 (by decide) (by decide +kernel) ?_
      refine sd_bipush (n := 24) (v := 24) (pc' := 172) (by decide +kernel) (by decide) ?_
      refine sd_iload_n (k := 3) (i := 3) (q := 1) (pc' := 173) (by decide +kernel) rfl rfl ?_
      refine sd_imul (pc' := 174) (by decide +kernel) ?_
      refine sd_iload (i := 4) (q := 2) (pc' := 176) (by decide +kernel) rfl ?_
      refine sd_iadd (pc' := 177) (by decide +kernel) ?_
      refine sd_iload (i := 6) (q := 4) (pc' := 179) (by decide +kernel) rfl ?_
      refine sd_iadd (pc' := 180) (by decide +kernel) ?_
      refine sd_aload_n (k := 0) (i := 0) (q := 0) (pc' := 181) (by decide +kernel) rfl rfl ?_
      refine sF_gr (idx := 23) (ci := 12) (k := 5) (n := 47) (r := 131) (pc' := 184) (by decide +kernel) fl_X12_23 (by decide +kernel) rfl SH_126 (by decide) (by decide +kernel) ?_
      refine sd_iload (i := 6) (q := 4) (pc' := 186) (by decide +kernel) rfl ?_
      obtain ⟨g29, hf⟩ := gd_some hf
      refine sF_dald (n := 24) (pc' := 187) (by decide +kernel) SH_131 g29 ?_
      obtain ⟨g30, hf⟩ := gd_some hf
      obtain ⟨h31, e32, hf⟩ := hb_some hf
      refine sF_dast (n := 144) (pc' := 188) (by decide +kernel) SH_129 g30 ?_
      rw [← e32]; clear e32
      refine sd_iinc (i := 6) (q := 4) (n := 1) (v := (l6 + 1)) (pc' := 191) (lo' := [(6, .int (l6 + 1)), (0, .ref (G.1 + 126)), (3, .int l3), (4, .int l4), (5, .int l5)]) (by decide +kernel) rfl rfl (by decide) rfl ?_
      refine sd_goto (off := -32) (tgt := 159) (pc' := 194) (by decide +kernel) ?_
      refine sd_J.sub (lo' := [(0, .ref (G.1 + 126)), (3, .int l3), (4, .int l4), (5, .int l5), (6, .int (l6 + 1))]) [1, 2, 3, 4, 0] rfl ?_
      exact ih _ _ _ _ _ hf
def YM_copy_L122 : Nat → sd_H → Int32 → Int32 → Int32 → Int32 → Int32 → Int32 → Option (sd_H × Int32)
  | 0, _, _, _, _, _, _, _ => none
  | n + 1, h, l1, l2, l3, l4, l5, l6 =>
  (if l5 ≤ l6 then YM_copy_L159 FU h l3 l4 l5 0 else gd (sd_inB (((24 * l1) + l2) + l6) 144) (gd (sd_inB l6 24) (hb (wD h 131 (l6 : Int32).toNatClampNeg (h.2.1 129 ((((24 * l1) + l2) + l6) : Int32).toNatClampNeg)) (fun h35 => YM_copy_L122 n h35 l1 l2 l3 l4 l5 (l6 + 1)))))
set_option maxHeartbeats 4000000 in
set_option maxRecDepth 100000 in
theorem J_YM_copy_L122 {G : sd_GX} {X : sd_CX} (hE : ∀ g : sd_H, sd_end G X M_YM_copy (sd_F g))  {r : (sd_H × Int32)} : ∀ (n : Nat) (h : sd_H) (l1 : Int32) (l2 : Int32) (l3 : Int32) (l4 : Int32) (l5 : Int32) (l6 : Int32), YM_copy_L122 n h l1 l2 l3 l4 l5 l6 = some r → sd_J G X (sd_QR G X M_YM_copy (some (.int r.2), sd_F r.1)) M_YM_copy 122 [(0, .ref (G.1 + 126)), (1, .int l1), (2, .int l2), (3, .int l3), (4, .int l4), (5, .int l5), (6, .int l6)] [] (sd_F h) := by
  intro n
  induction n with
  | zero =>
    intro h l1 l2 l3 l4 l5 l6 hf
    rw [YM_copy_L122] at hf
    cases hf
  | succ n ih =>
    intro h l1 l2 l3 l4 l5 l6 hf
    rw [YM_copy_L122] at hf
    refine sd_iload (i := 6) (q := 6) (pc' := 124) (by decide +kernel) rfl ?_
    refine sd_iload (i := 5) (q := 5) (pc' := 126) (by decide +kernel) rfl ?_
    refine sd_icmp_ge (off := 30) (tgt := 156) (pc' := 129) (by decide +kernel) (fun c27 => ?_) (fun c27 => ?_)
    · replace hf := ite_p c27 hf
      refine sd_iconst (n := 0) (v := 0) (pc' := 157) (by decide +kernel) (by decide) ?_
      refine sd_istore (i := 6) (pc' := 159) (lo' := [(6, .int 0), (0, .ref (G.1 + 126)), (1, .int l1), (2, .int l2), (3, .int l3), (4, .int l4), (5, .int l5)]) (by decide +kernel) (by decide) rfl ?_
      refine sd_J.sub (lo' := [(0, .ref (G.1 + 126)), (3, .int l3), (4, .int l4), (5, .int l5), (6, .int 0)]) [1, 4, 5, 6, 0] rfl ?_
      exact J_YM_copy_L159 hE _ _ _ _ _ _ hf
    · replace hf := ite_n c27 hf
      refine sd_aload_n (k := 0) (i := 0) (q := 0) (pc' := 130) (by decide +kernel) rfl rfl ?_
      refine sF_gr (idx := 23) (ci := 12) (k := 5) (n := 47) (r := 131) (pc' := 133) (by decide +kernel) fl_X12_23 (by decide +kernel) rfl SH_126 (by decide) (by decide +kernel) ?_
      refine sd_iload (i := 6) (q := 6) (pc' := 135) (by decide +kernel) rfl ?_
      refine sd_aload_n (k := 0) (i := 0) (q := 0) (pc' := 136) (by decide +kernel) rfl rfl ?_
      refine sF_gr (idx := 16) (ci := 12) (k := 2) (n := 47) (r := 129) (pc' := 139) (by decide +kernel) fl_X12_16 (by decide +kernel) rfl SH_126 (by decide) (by decide +kernel) ?_
      refine sd_bipush (n := 24) (v := 24) (pc' := 141) (by decide +kernel) (by decide) ?_
      refine sd_iload_n (k := 1) (i := 1) (q := 1) (pc' := 142) (by decide +kernel) rfl rfl ?_
      refine sd_imul (pc' := 143) (by decide +kernel) ?_
      refine sd_iload_n (k := 2) (i := 2) (q := 2) (pc' := 144) (by decide +kernel) rfl rfl ?_
      refine sd_iadd (pc' := 145) (by decide +kernel) ?_
      refine sd_iload (i := 6) (q := 6) (pc' := 147) (by decide +kernel) rfl ?_
      refine sd_iadd (pc' := 148) (by decide +kernel) ?_
      obtain ⟨g33, hf⟩ := gd_some hf
      refine sF_dald (n := 144) (pc' := 149) (by decide +kernel) SH_129 g33 ?_
      obtain ⟨g34, hf⟩ := gd_some hf
      obtain ⟨h35, e36, hf⟩ := hb_some hf
      refine sF_dast (n := 24) (pc' := 150) (by decide +kernel) SH_131 g34 ?_
      rw [← e36]; clear e36
      refine sd_iinc (i := 6) (q := 6) (n := 1) (v := (l6 + 1)) (pc' := 153) (lo' := [(6, .int (l6 + 1)), (0, .ref (G.1 + 126)), (1, .int l1), (2, .int l2), (3, .int l3), (4, .int l4), (5, .int l5)]) (by decide +kernel) rfl rfl (by decide) rfl ?_
      refine sd_goto (off := -31) (tgt := 122) (pc' := 156) (by decide +kernel) ?_
      refine sd_J.sub (lo' := [(0, .ref (G.1 + 126)), (1, .int l1), (2, .int l2), (3, .int l3), (4, .int l4), (5, .int l5), (6, .int (l6 + 1))]) [1, 2, 3, 4, 5, 6, 0] rfl ?_
      exact ih _ _ _ _ _ _ _ hf
def YM_copy (h : sd_H) (a0 : Int32) (a1 : Int32) (a2 : Int32) (a3 : Int32) (a4 : Int32) : Option (sd_H × Int32) :=
  b1 (YM_isRow a0) (fun t2 => (if t2 = 0 then some (h, (-2)) else b1 (YM_isRow a2) (fun t5 => (if t5 = 0 then some (h, (-2)) else gd (sd_inB a0 6) ((if (h.1 127 (a0 : Int32).toNatClampNeg) = (-1) then YM_copy_B37 h else gd (sd_inB a2 6) ((if (h.1 127 (a2 : Int32).toNatClampNeg) = (-1) then YM_copy_B37 h else gd (sd_inB a0 6) (gd (sd_inB a2 6) ((if (h.1 127 (a0 : Int32).toNatClampNeg) = (h.1 127 (a2 : Int32).toNatClampNeg) then (if a1 < 0 then YM_copy_B113 h else (if a3 < 0 then YM_copy_B113 h else (if a4 < 0 then YM_copy_B113 h else gd (sd_inB a0 6) ((if 0 < (lg_cmp ((Int32.toInt64 a1) + (Int32.toInt64 a4)) (Int32.toInt64 (h.1 128 (a0 : Int32).toNatClampNeg))) then YM_copy_B113 h else gd (sd_inB a2 6) ((if (lg_cmp ((Int32.toInt64 a3) + (Int32.toInt64 a4)) (Int32.toInt64 (h.1 128 (a2 : Int32).toNatClampNeg))) ≤ 0 then YM_copy_L122 FU h a0 a1 a2 a3 a4 0 else YM_copy_B113 h))))))) else b2 (YM_meets h 4) (fun h38 t39 => some (h38, t39)))))))))))))
set_option maxHeartbeats 4000000 in
set_option maxRecDepth 100000 in
theorem T_YM_copy {G : sd_GX} {h : sd_H} {a0 : Int32} {a1 : Int32} {a2 : Int32} {a3 : Int32} {a4 : Int32} {r : (sd_H × Int32)} (hf : YM_copy h a0 a1 a2 a3 a4 = some r) : sd_RunF G M_YM_copy [.ref (G.1 + 126), .int a0, .int a1, .int a2, .int a3, .int a4] h (some (.int r.2)) r.1 := by
  refine sF_run ⟨rfl, rfl⟩ (by decide +kernel) (Nat.le_of_ble_eq_true rfl) (lo := [(0, .ref (G.1 + 126)), (1, .int a0), (2, .int a1), (3, .int a2), (4, .int a3), (5, .int a4)]) rfl (fun X hE => ?_)
  unfold YM_copy at hf
  refine sd_iload_n (k := 1) (i := 1) (q := 1) (pc' := 1) (by decide +kernel) rfl rfl ?_
  obtain ⟨t2, q1, hf⟩ := b1_some hf
  refine sF_callS (idx := 122) (As := [.int a0]) (pc' := 4) 1 (T_YM_isRow (G := G) (h := h)  q1) (by decide +kernel) mv_YM_isRow ml_X12_122 (by decide +kernel) rfl rfl (Nat.le_of_ble_eq_true rfl) rfl ?_
  refine sd_if_eq (off := 10) (tgt := 14) (pc' := 7) (by decide +kernel) (fun c3 => ?_) (fun c3 => ?_)
  · replace hf := ite_p c3 hf
    refine sd_bipush (n := -2) (v := (-2)) (pc' := 16) (by decide +kernel) (by decide) ?_
    obtain rfl := Option.some.inj hf
    exact sd_iret (by decide +kernel) rfl (hE _)
  · replace hf := ite_n c3 hf
    refine sd_iload_n (k := 3) (i := 3) (q := 3) (pc' := 8) (by decide +kernel) rfl rfl ?_
    obtain ⟨t5, q4, hf⟩ := b1_some hf
    refine sF_callS (idx := 122) (As := [.int a2]) (pc' := 11) 1 (T_YM_isRow (G := G) (h := h)  q4) (by decide +kernel) mv_YM_isRow ml_X12_122 (by decide +kernel) rfl rfl (Nat.le_of_ble_eq_true rfl) rfl ?_
    refine sd_if_ne (off := 6) (tgt := 17) (pc' := 14) (by decide +kernel) (fun c6 => ?_) (fun c6 => ?_)
    · replace hf := ite_n c6 hf
      refine sd_aload_n (k := 0) (i := 0) (q := 0) (pc' := 18) (by decide +kernel) rfl rfl ?_
      refine sF_gr (idx := 7) (ci := 12) (k := 0) (n := 47) (r := 127) (pc' := 21) (by decide +kernel) fl_X12_7 (by decide +kernel) rfl SH_126 (by decide) (by decide +kernel) ?_
      refine sd_iload_n (k := 1) (i := 1) (q := 1) (pc' := 22) (by decide +kernel) rfl rfl ?_
      obtain ⟨g7, hf⟩ := gd_some hf
      refine sF_iald (n := 6) (pc' := 23) (by decide +kernel) SH_127 g7 ?_
      refine sd_iconst (n := -1) (v := (-1)) (pc' := 24) (by decide +kernel) (by decide) ?_
      refine sd_icmp_eq (off := 13) (tgt := 37) (pc' := 27) (by decide +kernel) (fun c8 => ?_) (fun c8 => ?_)
      · replace hf := ite_p c8 hf
        refine sd_J.sub (lo' := [(0, .ref (G.1 + 126))]) [0] rfl ?_
        exact J_YM_copy_B37 hE hf
      · replace hf := ite_n c8 hf
        refine sd_aload_n (k := 0) (i := 0) (q := 0) (pc' := 28) (by decide +kernel) rfl rfl ?_
        refine sF_gr (idx := 7) (ci := 12) (k := 0) (n := 47) (r := 127) (pc' := 31) (by decide +kernel) fl_X12_7 (by decide +kernel) rfl SH_126 (by decide) (by decide +kernel) ?_
        refine sd_iload_n (k := 3) (i := 3) (q := 3) (pc' := 32) (by decide +kernel) rfl rfl ?_
        obtain ⟨g12, hf⟩ := gd_some hf
        refine sF_iald (n := 6) (pc' := 33) (by decide +kernel) SH_127 g12 ?_
        refine sd_iconst (n := -1) (v := (-1)) (pc' := 34) (by decide +kernel) (by decide) ?_
        refine sd_icmp_ne (off := 9) (tgt := 43) (pc' := 37) (by decide +kernel) (fun c13 => ?_) (fun c13 => ?_)
        · replace hf := ite_n c13 hf
          refine sd_aload_n (k := 0) (i := 0) (q := 0) (pc' := 44) (by decide +kernel) rfl rfl ?_
          refine sF_gr (idx := 7) (ci := 12) (k := 0) (n := 47) (r := 127) (pc' := 47) (by decide +kernel) fl_X12_7 (by decide +kernel) rfl SH_126 (by decide) (by decide +kernel) ?_
          refine sd_iload_n (k := 1) (i := 1) (q := 1) (pc' := 48) (by decide +kernel) rfl rfl ?_
          obtain ⟨g14, hf⟩ := gd_some hf
          refine sF_iald (n := 6) (pc' := 49) (by decide +kernel) SH_127 g14 ?_
          refine sd_aload_n (k := 0) (i := 0) (q := 0) (pc' := 50) (by decide +kernel) rfl rfl ?_
          refine sF_gr (idx := 7) (ci := 12) (k := 0) (n := 47) (r := 127) (pc' := 53) (by decide +kernel) fl_X12_7 (by decide +kernel) rfl SH_126 (by decide) (by decide +kernel) ?_
          refine sd_iload_n (k := 3) (i := 3) (q := 3) (pc' := 54) (by decide +kernel) rfl rfl ?_
          obtain ⟨g15, hf⟩ := gd_some hf
          refine sF_iald (n := 6) (pc' := 55) (by decide +kernel) SH_127 g15 ?_
          refine sd_icmp_eq (off := 9) (tgt := 64) (pc' := 58) (by decide +kernel) (fun c16 => ?_) (fun c16 => ?_)
          · replace hf := ite_p c16 hf
            refine sd_iload_n (k := 2) (i := 2) (q := 2) (pc' := 65) (by decide +kernel) rfl rfl ?_
            refine sd_if_lt (off := 48) (tgt := 113) (pc' := 68) (by decide +kernel) (fun c17 => ?_) (fun c17 => ?_)
            · replace hf := ite_p c17 hf
              refine sd_J.sub (lo' := [(0, .ref (G.1 + 126))]) [0] rfl ?_
              exact J_YM_copy_B113 hE hf
            · replace hf := ite_n c17 hf
              refine sd_iload (i := 4) (q := 4) (pc' := 70) (by decide +kernel) rfl ?_
              refine sd_if_lt (off := 43) (tgt := 113) (pc' := 73) (by decide +kernel) (fun c21 => ?_) (fun c21 => ?_)
              · replace hf := ite_p c21 hf
                refine sd_J.sub (lo' := [(0, .ref (G.1 + 126))]) [0] rfl ?_
                exact J_YM_copy_B113 hE hf
              · replace hf := ite_n c21 hf
                refine sd_iload (i := 5) (q := 5) (pc' := 75) (by decide +kernel) rfl ?_
                refine sd_if_lt (off := 38) (tgt := 113) (pc' := 78) (by decide +kernel) (fun c22 => ?_) (fun c22 => ?_)
                · replace hf := ite_p c22 hf
                  refine sd_J.sub (lo' := [(0, .ref (G.1 + 126))]) [0] rfl ?_
                  exact J_YM_copy_B113 hE hf
                · replace hf := ite_n c22 hf
                  refine sd_iload_n (k := 2) (i := 2) (q := 2) (pc' := 79) (by decide +kernel) rfl rfl ?_
                  refine sd_i2l (pc' := 80) (by decide +kernel) rfl ?_
                  refine sd_iload (i := 5) (q := 5) (pc' := 82) (by decide +kernel) rfl ?_
                  refine sd_i2l (pc' := 83) (by decide +kernel) rfl ?_
                  refine sd_ladd (pc' := 84) (by decide +kernel) ?_
                  refine sd_aload_n (k := 0) (i := 0) (q := 0) (pc' := 85) (by decide +kernel) rfl rfl ?_
                  refine sF_gr (idx := 13) (ci := 12) (k := 1) (n := 47) (r := 128) (pc' := 88) (by decide +kernel) fl_X12_13 (by decide +kernel) rfl SH_126 (by decide) (by decide +kernel) ?_
                  refine sd_iload_n (k := 1) (i := 1) (q := 1) (pc' := 89) (by decide +kernel) rfl rfl ?_
                  obtain ⟨g23, hf⟩ := gd_some hf
                  refine sF_iald (n := 6) (pc' := 90) (by decide +kernel) SH_128 g23 ?_
                  refine sd_i2l (pc' := 91) (by decide +kernel) rfl ?_
                  refine sd_lcmp (pc' := 92) (by decide +kernel) ?_
                  refine sd_if_gt (off := 21) (tgt := 113) (pc' := 95) (by decide +kernel) (fun c24 => ?_) (fun c24 => ?_)
                  · replace hf := ite_p c24 hf
                    refine sd_J.sub (lo' := [(0, .ref (G.1 + 126))]) [0] rfl ?_
                    exact J_YM_copy_B113 hE hf
                  · replace hf := ite_n c24 hf
                    refine sd_iload (i := 4) (q := 4) (pc' := 97) (by decide +kernel) rfl ?_
                    refine sd_i2l (pc' := 98) (by decide +kernel) rfl ?_
                    refine sd_iload (i := 5) (q := 5) (pc' := 100) (by decide +kernel) rfl ?_
                    refine sd_i2l (pc' := 101) (by decide +kernel) rfl ?_
                    refine sd_ladd (pc' := 102) (by decide +kernel) ?_
                    refine sd_aload_n (k := 0) (i := 0) (q := 0) (pc' := 103) (by decide +kernel) rfl rfl ?_
                    refine sF_gr (idx := 13) (ci := 12) (k := 1) (n := 47) (r := 128) (pc' := 106) (by decide +kernel) fl_X12_13 (by decide +kernel) rfl SH_126 (by decide) (by decide +kernel) ?_
                    refine sd_iload_n (k := 3) (i := 3) (q := 3) (pc' := 107) (by decide +kernel) rfl rfl ?_
                    obtain ⟨g25, hf⟩ := gd_some hf
                    refine sF_iald (n := 6) (pc' := 108) (by decide +kernel) SH_128 g25 ?_
                    refine sd_i2l (pc' := 109) (by decide +kernel) rfl ?_
                    refine sd_lcmp (pc' := 110) (by decide +kernel) ?_
                    refine sd_if_le (off := 9) (tgt := 119) (pc' := 113) (by decide +kernel) (fun c26 => ?_) (fun c26 => ?_)
                    · replace hf := ite_p c26 hf
                      refine sd_iconst (n := 0) (v := 0) (pc' := 120) (by decide +kernel) (by decide) ?_
                      refine sd_istore (i := 6) (pc' := 122) (lo' := [(6, .int 0), (0, .ref (G.1 + 126)), (1, .int a0), (2, .int a1), (3, .int a2), (4, .int a3), (5, .int a4)]) (by decide +kernel) (by decide) rfl ?_
                      refine sd_J.sub (lo' := [(0, .ref (G.1 + 126)), (1, .int a0), (2, .int a1), (3, .int a2), (4, .int a3), (5, .int a4), (6, .int 0)]) [1, 2, 3, 4, 5, 6, 0] rfl ?_
                      exact J_YM_copy_L122 hE _ _ _ _ _ _ _ _ hf
                    · replace hf := ite_n c26 hf
                      refine sd_J.sub (lo' := [(0, .ref (G.1 + 126))]) [0] rfl ?_
                      exact J_YM_copy_B113 hE hf
          · replace hf := ite_n c16 hf
            refine sd_aload_n (k := 0) (i := 0) (q := 0) (pc' := 59) (by decide +kernel) rfl rfl ?_
            refine sd_iconst (n := 4) (v := 4) (pc' := 60) (by decide +kernel) (by decide) ?_
            obtain ⟨h38, t39, q37, hf⟩ := b2_some hf
            refine sF_callV (idx := 126) (b := 126) (As := [.int 4]) (ci := 12) (nn := 47) (pc' := 63) 1 (T_YM_meets (G := G) (h := h)  q37) (by decide +kernel) mv_YM_meets ml_X12_126 (by decide +kernel) rfl rfl (Nat.le_of_ble_eq_true rfl) SH_126 rfl (by decide) rfl rfl ?_
            obtain rfl := Option.some.inj hf
            exact sd_iret (by decide +kernel) rfl (hE _)
        · replace hf := ite_p c13 hf
          refine sd_J.sub (lo' := [(0, .ref (G.1 + 126))]) [0] rfl ?_
          exact J_YM_copy_B37 hE hf
    · replace hf := ite_p c6 hf
      refine sd_bipush (n := -2) (v := (-2)) (pc' := 16) (by decide +kernel) (by decide) ?_
      obtain rfl := Option.some.inj hf
      exact sd_iret (by decide +kernel) rfl (hE _)

theorem fl_X12_151 : sd_fl RX12 151 12 18 := ⟨sd_mem (i := 1166) (by decide +kernel), by decide, by decide⟩
theorem fl_X12_53 : sd_fl RX12 53 12 17 := ⟨sd_mem (i := 1165) (by decide +kernel), by decide, by decide⟩
def M_YM_logs : sd_MX := (yX12_logs, cX12_logs, 7, none, { frames := 1, cells := 0, slots := 0, locals := 40 })
def YM_logs_B53 (h : sd_H) (l1 : Int32) (l2 : Int32) (l3 : Int32) (l4 : Int32) (l5 : Int32) : Option sd_H :=
  gd (sd_inB (6 * (h.1 126 18)) 120) (hb (wI h 141 ((6 * (h.1 126 18)) : Int32).toNatClampNeg l1) (fun h3 => gd (sd_inB ((6 * (h3.1 126 18)) + 1) 120) (hb (wI h3 141 (((6 * (h3.1 126 18)) + 1) : Int32).toNatClampNeg l2) (fun h6 => gd (sd_inB ((6 * (h6.1 126 18)) + 2) 120) (hb (wI h6 141 (((6 * (h6.1 126 18)) + 2) : Int32).toNatClampNeg l3) (fun h9 => gd (sd_inB ((6 * (h9.1 126 18)) + 3) 120) (hb (wI h9 141 (((6 * (h9.1 126 18)) + 3) : Int32).toNatClampNeg l4) (fun h12 => gd (sd_inB ((6 * (h12.1 126 18)) + 4) 120) (hb (wI h12 141 (((6 * (h12.1 126 18)) + 4) : Int32).toNatClampNeg l5) (fun h15 => hb (wI h15 126 18 ((h15.1 126 18) + 1)) (fun h17 => some h17)))))))))))
set_option maxHeartbeats 4000000 in
set_option maxRecDepth 100000 in
theorem J_YM_logs_B53 {G : sd_GX} {X : sd_CX} (hE : ∀ g : sd_H, sd_end G X M_YM_logs (sd_F g)) {h : sd_H} {r : sd_H} {l1 : Int32} {l2 : Int32} {l3 : Int32} {l4 : Int32} {l5 : Int32} (hf : YM_logs_B53 h l1 l2 l3 l4 l5 = some r) : sd_J G X (sd_QR G X M_YM_logs (none, sd_F r)) M_YM_logs 53 [(0, .ref (G.1 + 126)), (1, .int l1), (2, .int l2), (3, .int l3), (4, .int l4), (5, .int l5)] [] (sd_F h) := by
  unfold YM_logs_B53 at hf
  refine sd_aload_n (k := 0) (i := 0) (q := 0) (pc' := 54) (by decide +kernel) rfl rfl ?_
  refine sF_gr (idx := 53) (ci := 12) (k := 17) (n := 47) (r := 141) (pc' := 57) (by decide +kernel) fl_X12_53 (by decide +kernel) rfl SH_126 (by decide) (by decide +kernel) ?_
  refine sd_bipush (n := 6) (v := 6) (pc' := 59) (by decide +kernel) (by decide) ?_
  refine sd_aload_n (k := 0) (i := 0) (q := 0) (pc' := 60) (by decide +kernel) rfl rfl ?_
  refine sF_gi (idx := 151) (ci := 12) (k := 18) (n := 47) (pc' := 63) (by decide +kernel) fl_X12_151 (by decide +kernel) rfl SH_126 ?_
  refine sd_imul (pc' := 64) (by decide +kernel) ?_
  refine sd_iload_n (k := 1) (i := 1) (q := 1) (pc' := 65) (by decide +kernel) rfl rfl ?_
  obtain ⟨g2, hf⟩ := gd_some hf
  obtain ⟨h3, e4, hf⟩ := hb_some hf
  refine sF_iast (n := 120) (pc' := 66) (by decide +kernel) SH_141 g2 ?_
  rw [← e4]; clear e4
  refine sd_aload_n (k := 0) (i := 0) (q := 0) (pc' := 67) (by decide +kernel) rfl rfl ?_
  refine sF_gr (idx := 53) (ci := 12) (k := 17) (n := 47) (r := 141) (pc' := 70) (by decide +kernel) fl_X12_53 (by decide +kernel) rfl SH_126 (by decide) (by decide +kernel) ?_
  refine sd_bipush (n := 6) (v := 6) (pc' := 72) (by decide +kernel) (by decide) ?_
  refine sd_aload_n (k := 0) (i := 0) (q := 0) (pc' := 73) (by decide +kernel) rfl rfl ?_
  refine sF_gi (idx := 151) (ci := 12) (k := 18) (n := 47) (pc' := 76) (by decide +kernel) fl_X12_151 (by decide +kernel) rfl SH_126 ?_
  refine sd_imul (pc' := 77) (by decide +kernel) ?_
  refine sd_iconst (n := 1) (v := 1) (pc' := 78) (by decide +kernel) (by decide) ?_
  refine sd_iadd (pc' := 79) (by decide +kernel) ?_
  refine sd_iload_n (k := 2) (i := 2) (q := 2) (pc' := 80) (by decide +kernel) rfl rfl ?_
  obtain ⟨g5, hf⟩ := gd_some hf
  obtain ⟨h6, e7, hf⟩ := hb_some hf
  refine sF_iast (n := 120) (pc' := 81) (by decide +kernel) SH_141 g5 ?_
  rw [← e7]; clear e7
  refine sd_aload_n (k := 0) (i := 0) (q := 0) (pc' := 82) (by decide +kernel) rfl rfl ?_
  refine sF_gr (idx := 53) (ci := 12) (k := 17) (n := 47) (r := 141) (pc' := 85) (by decide +kernel) fl_X12_53 (by decide +kernel) rfl SH_126 (by decide) (by decide +kernel) ?_
  refine sd_bipush (n := 6) (v := 6) (pc' := 87) (by decide +kernel) (by decide) ?_
  refine sd_aload_n (k := 0) (i := 0) (q := 0) (pc' := 88) (by decide +kernel) rfl rfl ?_
  refine sF_gi (idx := 151) (ci := 12) (k := 18) (n := 47) (pc' := 91) (by decide +kernel) fl_X12_151 (by decide +kernel) rfl SH_126 ?_
  refine sd_imul (pc' := 92) (by decide +kernel) ?_
  refine sd_iconst (n := 2) (v := 2) (pc' := 93) (by decide +kernel) (by decide) ?_
  refine sd_iadd (pc' := 94) (by decide +kernel) ?_
  refine sd_iload_n (k := 3) (i := 3) (q := 3) (pc' := 95) (by decide +kernel) rfl rfl ?_
  obtain ⟨g8, hf⟩ := gd_some hf
  obtain ⟨h9, e10, hf⟩ := hb_some hf
  refine sF_iast (n := 120) (pc' := 96) (by decide +kernel) SH_141 g8 ?_
  rw [← e10]; clear e10
  refine sd_aload_n (k := 0) (i := 0) (q := 0) (pc' := 97) (by decide +kernel) rfl rfl ?_
  refine sF_gr (idx := 53) (ci := 12) (k := 17) (n := 47) (r := 141) (pc' := 100) (by decide +kernel) fl_X12_53 (by decide +kernel) rfl SH_126 (by decide) (by decide +kernel) ?_
  refine sd_bipush (n := 6) (v := 6) (pc' := 102) (by decide +kernel) (by decide) ?_
  refine sd_aload_n (k := 0) (i := 0) (q := 0) (pc' := 103) (by decide +kernel) rfl rfl ?_
  refine sF_gi (idx := 151) (ci := 12) (k := 18) (n := 47) (pc' := 106) (by decide +kernel) fl_X12_151 (by decide +kernel) rfl SH_126 ?_
  refine sd_imul (pc' := 107) (by decide +kernel) ?_
  refine sd_iconst (n := 3) (v := 3) (pc' := 108) (by decide +kernel) (by decide) ?_
  refine sd_iadd (pc' := 109) (by decide +kernel) ?_
  refine sd_iload (i := 4) (q := 4) (pc' := 111) (by decide +kernel) rfl ?_
  obtain ⟨g11, hf⟩ := gd_some hf
  obtain ⟨h12, e13, hf⟩ := hb_some hf
  refine sF_iast (n := 120) (pc' := 112) (by decide +kernel) SH_141 g11 ?_
  rw [← e13]; clear e13
  refine sd_aload_n (k := 0) (i := 0) (q := 0) (pc' := 113) (by decide +kernel) rfl rfl ?_
  refine sF_gr (idx := 53) (ci := 12) (k := 17) (n := 47) (r := 141) (pc' := 116) (by decide +kernel) fl_X12_53 (by decide +kernel) rfl SH_126 (by decide) (by decide +kernel) ?_
  refine sd_bipush (n := 6) (v := 6) (pc' := 118) (by decide +kernel) (by decide) ?_
  refine sd_aload_n (k := 0) (i := 0) (q := 0) (pc' := 119) (by decide +kernel) rfl rfl ?_
  refine sF_gi (idx := 151) (ci := 12) (k := 18) (n := 47) (pc' := 122) (by decide +kernel) fl_X12_151 (by decide +kernel) rfl SH_126 ?_
  refine sd_imul (pc' := 123) (by decide +kernel) ?_
  refine sd_iconst (n := 4) (v := 4) (pc' := 124) (by decide +kernel) (by decide) ?_
  refine sd_iadd (pc' := 125) (by decide +kernel) ?_
  refine sd_iload (i := 5) (q := 5) (pc' := 127) (by decide +kernel) rfl ?_
  obtain ⟨g14, hf⟩ := gd_some hf
  obtain ⟨h15, e16, hf⟩ := hb_some hf
  refine sF_iast (n := 120) (pc' := 128) (by decide +kernel) SH_141 g14 ?_
  rw [← e16]; clear e16
  refine sd_aload_n (k := 0) (i := 0) (q := 0) (pc' := 129) (by decide +kernel) rfl rfl ?_
  refine sd_dup (pc' := 130) (by decide +kernel) rfl ?_
  refine sF_gi (idx := 151) (ci := 12) (k := 18) (n := 47) (pc' := 133) (by decide +kernel) fl_X12_151 (by decide +kernel) rfl SH_126 ?_
  refine sd_iconst (n := 1) (v := 1) (pc' := 134) (by decide +kernel) (by decide) ?_
  refine sd_iadd (pc' := 135) (by decide +kernel) ?_
  obtain ⟨h17, e18, hf⟩ := hb_some hf
  refine sF_pi (idx := 151) (ci := 12) (k := 18) (n := 47) (pc' := 138) (by decide +kernel) fl_X12_151 (by decide +kernel) rfl rfl rfl SH_126 ?_
  rw [← e18]; clear e18
  obtain rfl := Option.some.inj hf
  exact sd_vret (by decide +kernel) rfl (hE _)
def YM_logs_L13 : Nat → sd_H → Int32 → Int32 → Int32 → Int32 → Int32 → Int32 → Option sd_H
  | 0, _, _, _, _, _, _, _ => none
  | n + 1, h, l1, l2, l3, l4, l5, l6 =>
  (if 120 ≤ l6 then hb (wI h 126 18 ((h.1 126 18) - 1)) (fun h20 => YM_logs_B53 h20 l1 l2 l3 l4 l5) else gd (sd_inB l6 120) (gd (sd_inB (l6 - 6) 120) (hb (wI h 141 ((l6 - 6) : Int32).toNatClampNeg (h.1 141 (l6 : Int32).toNatClampNeg)) (fun h24 => YM_logs_L13 n h24 l1 l2 l3 l4 l5 (l6 + 1)))))
set_option maxHeartbeats 4000000 in
set_option maxRecDepth 100000 in
theorem J_YM_logs_L13 {G : sd_GX} {X : sd_CX} (hE : ∀ g : sd_H, sd_end G X M_YM_logs (sd_F g))  {r : sd_H} : ∀ (n : Nat) (h : sd_H) (l1 : Int32) (l2 : Int32) (l3 : Int32) (l4 : Int32) (l5 : Int32) (l6 : Int32), YM_logs_L13 n h l1 l2 l3 l4 l5 l6 = some r → sd_J G X (sd_QR G X M_YM_logs (none, sd_F r)) M_YM_logs 13 [(0, .ref (G.1 + 126)), (1, .int l1), (2, .int l2), (3, .int l3), (4, .int l4), (5, .int l5), (6, .int l6)] [] (sd_F h) := by
  intro n
  induction n with
  | zero =>
    intro h l1 l2 l3 l4 l5 l6 hf
    rw [YM_logs_L13] at hf
    cases hf
  | succ n ih =>
    intro h l1 l2 l3 l4 l5 l6 hf
    rw [YM_logs_L13] at hf
    refine sd_iload (i := 6) (q := 6) (pc' := 15) (by decide +kernel) rfl ?_
    refine sd_bipush (n := 120) (v := 120) (pc' := 17) (by decide +kernel) (by decide) ?_
    refine sd_icmp_ge (off := 26) (tgt := 43) (pc' := 20) (by decide +kernel) (fun c19 => ?_) (fun c19 => ?_)
    · replace hf := ite_p c19 hf
      refine sd_aload_n (k := 0) (i := 0) (q := 0) (pc' := 44) (by decide +kernel) rfl rfl ?_
      refine sd_dup (pc' := 45) (by decide +kernel) rfl ?_
      refine sF_gi (idx := 151) (ci := 12) (k := 18) (n := 47) (pc' := 48) (by decide +kernel) fl_X12_151 (by decide +kernel) rfl SH_126 ?_
      refine sd_iconst (n := 1) (v := 1) (pc' := 49) (by decide +kernel) (by decide) ?_
      refine sd_isub (pc' := 50) (by decide +kernel) ?_
      obtain ⟨h20, e21, hf⟩ := hb_some hf
      refine sF_pi (idx := 151) (ci := 12) (k := 18) (n := 47) (pc' := 53) (by decide +kernel) fl_X12_151 (by decide +kernel) rfl rfl rfl SH_126 ?_
      rw [← e21]; clear e21
      refine sd_J.sub (lo' := [(0, .ref (G.1 + 126)), (1, .int l1), (2, .int l2), (3, .int l3), (4, .int l4), (5, .int l5)]) [0, 1, 2, 3, 4, 5] rfl ?_
      exact J_YM_logs_B53 hE hf
    · replace hf := ite_n c19 hf
      refine sd_aload_n (k := 0) (i := 0) (q := 0) (pc' := 21) (by decide +kernel) rfl rfl ?_
      refine sF_gr (idx := 53) (ci := 12) (k := 17) (n := 47) (r := 141) (pc' := 24) (by decide +kernel) fl_X12_53 (by decide +kernel) rfl SH_126 (by decide) (by decide +kernel) ?_
      refine sd_iload (i := 6) (q := 6) (pc' := 26) (by decide +kernel) rfl ?_
      refine sd_bipush (n := 6) (v := 6) (pc' := 28) (by decide +kernel) (by decide) ?_
      refine sd_isub (pc' := 29) (by decide +kernel) ?_
      refine sd_aload_n (k := 0) (i := 0) (q := 0) (pc' := 30) (by decide +kernel) rfl rfl ?_
      refine sF_gr (idx := 53) (ci := 12) (k := 17) (n := 47) (r := 141) (pc' := 33) (by decide +kernel) fl_X12_53 (by decide +kernel) rfl SH_126 (by decide) (by decide +kernel) ?_
      refine sd_iload (i := 6) (q := 6) (pc' := 35) (by decide +kernel) rfl ?_
      obtain ⟨g22, hf⟩ := gd_some hf
      refine sF_iald (n := 120) (pc' := 36) (by decide +kernel) SH_141 g22 ?_
      obtain ⟨g23, hf⟩ := gd_some hf
      obtain ⟨h24, e25, hf⟩ := hb_some hf
      refine sF_iast (n := 120) (pc' := 37) (by decide +kernel) SH_141 g23 ?_
      rw [← e25]; clear e25
      refine sd_iinc (i := 6) (q := 6) (n := 1) (v := (l6 + 1)) (pc' := 40) (lo' := [(6, .int (l6 + 1)), (0, .ref (G.1 + 126)), (1, .int l1), (2, .int l2), (3, .int l3), (4, .int l4), (5, .int l5)]) (by decide +kernel) rfl rfl (by decide) rfl ?_
      refine sd_goto (off := -27) (tgt := 13) (pc' := 43) (by decide +kernel) ?_
      refine sd_J.sub (lo' := [(0, .ref (G.1 + 126)), (1, .int l1), (2, .int l2), (3, .int l3), (4, .int l4), (5, .int l5), (6, .int (l6 + 1))]) [1, 2, 3, 4, 5, 6, 0] rfl ?_
      exact ih _ _ _ _ _ _ _ hf
def YM_logs (h : sd_H) (a0 : Int32) (a1 : Int32) (a2 : Int32) (a3 : Int32) (a4 : Int32) : Option sd_H :=
  (if (h.1 126 18) = 20 then YM_logs_L13 FU h a0 a1 a2 a3 a4 6 else YM_logs_B53 h a0 a1 a2 a3 a4)
set_option maxHeartbeats 4000000 in
set_option maxRecDepth 100000 in
theorem T_YM_logs {G : sd_GX} {h : sd_H} {a0 : Int32} {a1 : Int32} {a2 : Int32} {a3 : Int32} {a4 : Int32} {r : sd_H} (hf : YM_logs h a0 a1 a2 a3 a4 = some r) : sd_RunF G M_YM_logs [.ref (G.1 + 126), .int a0, .int a1, .int a2, .int a3, .int a4] h none r := by
  refine sF_run ⟨rfl, rfl⟩ (by decide +kernel) (Nat.le_of_ble_eq_true rfl) (lo := [(0, .ref (G.1 + 126)), (1, .int a0), (2, .int a1), (3, .int a2), (4, .int a3), (5, .int a4)]) rfl (fun X hE => ?_)
  unfold YM_logs at hf
  refine sd_aload_n (k := 0) (i := 0) (q := 0) (pc' := 1) (by decide +kernel) rfl rfl ?_
  refine sF_gi (idx := 151) (ci := 12) (k := 18) (n := 47) (pc' := 4) (by decide +kernel) fl_X12_151 (by decide +kernel) rfl SH_126 ?_
  refine sd_bipush (n := 20) (v := 20) (pc' := 6) (by decide +kernel) (by decide) ?_
  refine sd_icmp_ne (off := 47) (tgt := 53) (pc' := 9) (by decide +kernel) (fun c1 => ?_) (fun c1 => ?_)
  · replace hf := ite_n c1 hf
    refine sd_J.sub (lo' := [(0, .ref (G.1 + 126)), (1, .int a0), (2, .int a1), (3, .int a2), (4, .int a3), (5, .int a4)]) [0, 1, 2, 3, 4, 5] rfl ?_
    exact J_YM_logs_B53 hE hf
  · replace hf := ite_p c1 hf
    refine sd_bipush (n := 6) (v := 6) (pc' := 11) (by decide +kernel) (by decide) ?_
    refine sd_istore (i := 6) (pc' := 13) (lo' := [(6, .int 6), (0, .ref (G.1 + 126)), (1, .int a0), (2, .int a1), (3, .int a2), (4, .int a3), (5, .int a4)]) (by decide +kernel) (by decide) rfl ?_
    refine sd_J.sub (lo' := [(0, .ref (G.1 + 126)), (1, .int a0), (2, .int a1), (3, .int a2), (4, .int a3), (5, .int a4), (6, .int 6)]) [1, 2, 3, 4, 5, 6, 0] rfl ?_
    exact J_YM_logs_L13 hE _ _ _ _ _ _ _ _ hf

theorem fl_X12_154 : sd_fl RX12 154 12 6 := ⟨sd_mem (i := 1154) (by decide +kernel), by decide, by decide⟩
theorem ml_X12_157 : Cond.methodLink RX12 157 yX12_logs ∈ sd_tb := sd_mem (i := 1344) (by decide +kernel)
theorem mv_YM_logs : sd_mV M_YM_logs 5 := ⟨sd_mem (i := 1346) (by decide +kernel), sd_mem (i := 40) (by decide +kernel), ⟨sd_mem (i := 1347) (by decide +kernel), sd_mem (i := 119) (by decide +kernel), by decide +kernel, by decide +kernel, by decide +kernel⟩⟩
def M_YM_turns : sd_MX := (yX12_turns, cX12_turns, 3, (some .int), { frames := 2, cells := 0, slots := 0, locals := 66 })
def YM_turns (h : sd_H) (a0 : Int32) : Option (sd_H × Int32) :=
  b1 (YM_in a0 0 10) (fun t2 => (if t2 = 0 then some (h, (-2)) else b1 (YM_logs h 0 0 (h.1 126 6) 0 0) (fun h5 => hb (wI h5 126 6 a0) (fun h6 => some (h6, (h.1 126 6))))))
set_option maxHeartbeats 4000000 in
set_option maxRecDepth 100000 in
theorem T_YM_turns {G : sd_GX} {h : sd_H} {a0 : Int32} {r : (sd_H × Int32)} (hf : YM_turns h a0 = some r) : sd_RunF G M_YM_turns [.ref (G.1 + 126), .int a0] h (some (.int r.2)) r.1 := by
  refine sF_run ⟨rfl, rfl⟩ (by decide +kernel) (Nat.le_of_ble_eq_true rfl) (lo := [(0, .ref (G.1 + 126)), (1, .int a0)]) rfl (fun X hE => ?_)
  unfold YM_turns at hf
  refine sd_iload_n (k := 1) (i := 1) (q := 1) (pc' := 1) (by decide +kernel) rfl rfl ?_
  refine sd_iconst (n := 0) (v := 0) (pc' := 2) (by decide +kernel) (by decide) ?_
  refine sd_bipush (n := 10) (v := 10) (pc' := 4) (by decide +kernel) (by decide) ?_
  obtain ⟨t2, q1, hf⟩ := b1_some hf
  refine sF_callS (idx := 114) (As := [.int a0, .int 0, .int 10]) (pc' := 7) 3 (T_YM_in (G := G) (h := h)  q1) (by decide +kernel) mv_YM_in ml_X12_114 (by decide +kernel) rfl rfl (Nat.le_of_ble_eq_true rfl) rfl ?_
  refine sd_if_ne (off := 6) (tgt := 13) (pc' := 10) (by decide +kernel) (fun c3 => ?_) (fun c3 => ?_)
  · replace hf := ite_n c3 hf
    refine sd_aload_n (k := 0) (i := 0) (q := 0) (pc' := 14) (by decide +kernel) rfl rfl ?_
    refine sF_gi (idx := 154) (ci := 12) (k := 6) (n := 47) (pc' := 17) (by decide +kernel) fl_X12_154 (by decide +kernel) rfl SH_126 ?_
    refine sd_istore_n (k := 2) (i := 2) (pc' := 18) (lo' := [(2, .int (h.1 126 6)), (0, .ref (G.1 + 126)), (1, .int a0)]) (by decide +kernel) rfl (by decide) rfl ?_
    refine sd_aload_n (k := 0) (i := 0) (q := 1) (pc' := 19) (by decide +kernel) rfl rfl ?_
    refine sd_iconst (n := 0) (v := 0) (pc' := 20) (by decide +kernel) (by decide) ?_
    refine sd_iconst (n := 0) (v := 0) (pc' := 21) (by decide +kernel) (by decide) ?_
    refine sd_aload_n (k := 0) (i := 0) (q := 1) (pc' := 22) (by decide +kernel) rfl rfl ?_
    refine sF_gi (idx := 154) (ci := 12) (k := 6) (n := 47) (pc' := 25) (by decide +kernel) fl_X12_154 (by decide +kernel) rfl SH_126 ?_
    refine sd_iconst (n := 0) (v := 0) (pc' := 26) (by decide +kernel) (by decide) ?_
    refine sd_iconst (n := 0) (v := 0) (pc' := 27) (by decide +kernel) (by decide) ?_
    obtain ⟨h5, q4, hf⟩ := b1_some hf
    refine sF_callV0 (idx := 157) (b := 126) (As := [.int 0, .int 0, .int (h.1 126 6), .int 0, .int 0]) (ci := 12) (nn := 47) (pc' := 30) 5 (T_YM_logs (G := G) (h := h)  q4) (by decide +kernel) mv_YM_logs ml_X12_157 (by decide +kernel) rfl rfl (Nat.le_of_ble_eq_true rfl) SH_126 rfl (by decide) rfl rfl ?_
    refine sd_aload_n (k := 0) (i := 0) (q := 1) (pc' := 31) (by decide +kernel) rfl rfl ?_
    refine sd_iload_n (k := 1) (i := 1) (q := 2) (pc' := 32) (by decide +kernel) rfl rfl ?_
    obtain ⟨h6, e7, hf⟩ := hb_some hf
    refine sF_pi (idx := 154) (ci := 12) (k := 6) (n := 47) (pc' := 35) (by decide +kernel) fl_X12_154 (by decide +kernel) rfl rfl rfl SH_126 ?_
    rw [← e7]; clear e7
    refine sd_iload_n (k := 2) (i := 2) (q := 0) (pc' := 36) (by decide +kernel) rfl rfl ?_
    obtain rfl := Option.some.inj hf
    exact sd_iret (by decide +kernel) rfl (hE _)
  · replace hf := ite_p c3 hf
    refine sd_bipush (n := -2) (v := (-2)) (pc' := 12) (by decide +kernel) (by decide) ?_
    obtain rfl := Option.some.inj hf
    exact sd_iret (by decide +kernel) rfl (hE _)

theorem fl_X12_161 : sd_fl RX12 161 12 20 := ⟨sd_mem (i := 1168) (by decide +kernel), by decide, by decide⟩
theorem fl_X12_56 : sd_fl RX12 56 12 19 := ⟨sd_mem (i := 1167) (by decide +kernel), by decide, by decide⟩
def M_YM_type : sd_MX := (yX12_type, cX12_type, 2, (some .int), { frames := 2, cells := 0, slots := 0, locals := 62 })
def YM_type (h : sd_H) (a0 : Int32) : Option (sd_H × Int32) :=
  b1 (YM_in a0 0 255) (fun t2 => (if t2 = 0 then some (h, (-2)) else (if (h.1 126 20) = 5 then some (h, (-4)) else gd (sd_inB (h.1 126 20) 5) (hb (wI h 142 ((h.1 126 20) : Int32).toNatClampNeg a0) (fun h6 => hb (wI h6 126 20 ((h6.1 126 20) + 1)) (fun h8 => some (h8, (h8.1 126 20))))))))
set_option maxHeartbeats 4000000 in
set_option maxRecDepth 100000 in
theorem T_YM_type {G : sd_GX} {h : sd_H} {a0 : Int32} {r : (sd_H × Int32)} (hf : YM_type h a0 = some r) : sd_RunF G M_YM_type [.ref (G.1 + 126), .int a0] h (some (.int r.2)) r.1 := by
  refine sF_run ⟨rfl, rfl⟩ (by decide +kernel) (Nat.le_of_ble_eq_true rfl) (lo := [(0, .ref (G.1 + 126)), (1, .int a0)]) rfl (fun X hE => ?_)
  unfold YM_type at hf
  refine sd_iload_n (k := 1) (i := 1) (q := 1) (pc' := 1) (by decide +kernel) rfl rfl ?_
  refine sd_iconst (n := 0) (v := 0) (pc' := 2) (by decide +kernel) (by decide) ?_
  refine sd_sipush (n := 255) (v := 255) (pc' := 5) (by decide +kernel) (by decide) ?_
  obtain ⟨t2, q1, hf⟩ := b1_some hf
  refine sF_callS (idx := 114) (As := [.int a0, .int 0, .int 255]) (pc' := 8) 3 (T_YM_in (G := G) (h := h)  q1) (by decide +kernel) mv_YM_in ml_X12_114 (by decide +kernel) rfl rfl (Nat.le_of_ble_eq_true rfl) rfl ?_
  refine sd_if_ne (off := 6) (tgt := 14) (pc' := 11) (by decide +kernel) (fun c3 => ?_) (fun c3 => ?_)
  · replace hf := ite_n c3 hf
    refine sd_aload_n (k := 0) (i := 0) (q := 0) (pc' := 15) (by decide +kernel) rfl rfl ?_
    refine sF_gi (idx := 161) (ci := 12) (k := 20) (n := 47) (pc' := 18) (by decide +kernel) fl_X12_161 (by decide +kernel) rfl SH_126 ?_
    refine sd_iconst (n := 5) (v := 5) (pc' := 19) (by decide +kernel) (by decide) ?_
    refine sd_icmp_ne (off := 6) (tgt := 25) (pc' := 22) (by decide +kernel) (fun c4 => ?_) (fun c4 => ?_)
    · replace hf := ite_n c4 hf
      refine sd_aload_n (k := 0) (i := 0) (q := 0) (pc' := 26) (by decide +kernel) rfl rfl ?_
      refine sF_gr (idx := 56) (ci := 12) (k := 19) (n := 47) (r := 142) (pc' := 29) (by decide +kernel) fl_X12_56 (by decide +kernel) rfl SH_126 (by decide) (by decide +kernel) ?_
      refine sd_aload_n (k := 0) (i := 0) (q := 0) (pc' := 30) (by decide +kernel) rfl rfl ?_
      refine sF_gi (idx := 161) (ci := 12) (k := 20) (n := 47) (pc' := 33) (by decide +kernel) fl_X12_161 (by decide +kernel) rfl SH_126 ?_
      refine sd_iload_n (k := 1) (i := 1) (q := 1) (pc' := 34) (by decide +kernel) rfl rfl ?_
      obtain ⟨g5, hf⟩ := gd_some hf
      obtain ⟨h6, e7, hf⟩ := hb_some hf
      refine sF_iast (n := 5) (pc' := 35) (by decide +kernel) SH_142 g5 ?_
      rw [← e7]; clear e7
      refine sd_aload_n (k := 0) (i := 0) (q := 0) (pc' := 36) (by decide +kernel) rfl rfl ?_
      refine sd_dup (pc' := 37) (by decide +kernel) rfl ?_
      refine sF_gi (idx := 161) (ci := 12) (k := 20) (n := 47) (pc' := 40) (by decide +kernel) fl_X12_161 (by decide +kernel) rfl SH_126 ?_
      refine sd_iconst (n := 1) (v := 1) (pc' := 41) (by decide +kernel) (by decide) ?_
      refine sd_iadd (pc' := 42) (by decide +kernel) ?_
      obtain ⟨h8, e9, hf⟩ := hb_some hf
      refine sF_pi (idx := 161) (ci := 12) (k := 20) (n := 47) (pc' := 45) (by decide +kernel) fl_X12_161 (by decide +kernel) rfl rfl rfl SH_126 ?_
      rw [← e9]; clear e9
      refine sd_aload_n (k := 0) (i := 0) (q := 0) (pc' := 46) (by decide +kernel) rfl rfl ?_
      refine sF_gi (idx := 161) (ci := 12) (k := 20) (n := 47) (pc' := 49) (by decide +kernel) fl_X12_161 (by decide +kernel) rfl SH_126 ?_
      obtain rfl := Option.some.inj hf
      exact sd_iret (by decide +kernel) rfl (hE _)
    · replace hf := ite_p c4 hf
      refine sd_bipush (n := -4) (v := (-4)) (pc' := 24) (by decide +kernel) (by decide) ?_
      obtain rfl := Option.some.inj hf
      exact sd_iret (by decide +kernel) rfl (hE _)
  · replace hf := ite_p c3 hf
    refine sd_bipush (n := -2) (v := (-2)) (pc' := 13) (by decide +kernel) (by decide) ?_
    obtain rfl := Option.some.inj hf
    exact sd_iret (by decide +kernel) rfl (hE _)

def M_YM_wipe : sd_MX := (yX12_wipe, cX12_wipe, 2, (some .int), { frames := 1, cells := 0, slots := 0, locals := 40 })
def YM_wipe (h : sd_H) : Option (sd_H × Int32) :=
  hb (wI h 126 20 0) (fun h1 => some (h1, (h.1 126 20)))
set_option maxHeartbeats 4000000 in
set_option maxRecDepth 100000 in
theorem T_YM_wipe {G : sd_GX} {h : sd_H} {r : (sd_H × Int32)} (hf : YM_wipe h = some r) : sd_RunF G M_YM_wipe [.ref (G.1 + 126)] h (some (.int r.2)) r.1 := by
  refine sF_run ⟨rfl, rfl⟩ (by decide +kernel) (Nat.le_of_ble_eq_true rfl) (lo := [(0, .ref (G.1 + 126))]) rfl (fun X hE => ?_)
  unfold YM_wipe at hf
  refine sd_aload_n (k := 0) (i := 0) (q := 0) (pc' := 1) (by decide +kernel) rfl rfl ?_
  refine sF_gi (idx := 161) (ci := 12) (k := 20) (n := 47) (pc' := 4) (by decide +kernel) fl_X12_161 (by decide +kernel) rfl SH_126 ?_
  refine sd_istore_n (k := 1) (i := 1) (pc' := 5) (lo' := [(1, .int (h.1 126 20)), (0, .ref (G.1 + 126))]) (by decide +kernel) rfl (by decide) rfl ?_
  refine sd_aload_n (k := 0) (i := 0) (q := 1) (pc' := 6) (by decide +kernel) rfl rfl ?_
  refine sd_iconst (n := 0) (v := 0) (pc' := 7) (by decide +kernel) (by decide) ?_
  obtain ⟨h1, e2, hf⟩ := hb_some hf
  refine sF_pi (idx := 161) (ci := 12) (k := 20) (n := 47) (pc' := 10) (by decide +kernel) fl_X12_161 (by decide +kernel) rfl rfl rfl SH_126 ?_
  rw [← e2]; clear e2
  refine sd_iload_n (k := 1) (i := 1) (q := 0) (pc' := 11) (by decide +kernel) rfl rfl ?_
  obtain rfl := Option.some.inj hf
  exact sd_iret (by decide +kernel) rfl (hE _)

def M_YM_isTyped : sd_MX := (yX12_isTyped, cX12_isTyped, 8, (some .boolean), { frames := 1, cells := 0, slots := 0, locals := 40 })
def YM_isTyped_B132 (h : sd_H) : Option Int32 :=
  some 1
set_option maxHeartbeats 4000000 in
set_option maxRecDepth 100000 in
theorem J_YM_isTyped_B132 {G : sd_GX} {X : sd_CX} (hE : ∀ g : sd_H, sd_end G X M_YM_isTyped (sd_F g)) {h : sd_H} {r : Int32} (hf : YM_isTyped_B132 h = some r) : sd_J G X (sd_QR G X M_YM_isTyped (some (.int r), sd_F h)) M_YM_isTyped 132 [] [] (sd_F h) := by
  unfold YM_isTyped_B132 at hf
  refine sd_iconst (n := 1) (v := 1) (pc' := 133) (by decide +kernel) (by decide) ?_
  refine sd_goto (off := 4) (tgt := 137) (pc' := 136) (by decide +kernel) ?_
  obtain rfl := Option.some.inj hf
  exact sd_zret (by decide +kernel) rfl rfl (hE _)
def YM_isTyped_B108 (h : sd_H) (l5 : Int32) (l6 : Int32) (s0 : Int32) : Option Int32 :=
  (if s0 = 0 then some 0 else (if l6 < 5 then YM_isTyped_B132 h else (if (h.1 142 (4 : Int32).toNatClampNeg) = l5 then YM_isTyped_B132 h else some 0)))
set_option maxHeartbeats 4000000 in
set_option maxRecDepth 100000 in
theorem J_YM_isTyped_B108 {G : sd_GX} {X : sd_CX} (hE : ∀ g : sd_H, sd_end G X M_YM_isTyped (sd_F g)) {h : sd_H} {r : Int32} {l5 : Int32} {l6 : Int32} {s0 : Int32} (hf : YM_isTyped_B108 h l5 l6 s0 = some r) : sd_J G X (sd_QR G X M_YM_isTyped (some (.int r), sd_F h)) M_YM_isTyped 108 [(0, .ref (G.1 + 126)), (5, .int l5), (6, .int l6)] [.int s0] (sd_F h) := by
  unfold YM_isTyped_B108 at hf
  refine sd_istore (i := 7) (pc' := 110) (lo' := [(7, .int s0), (0, .ref (G.1 + 126)), (5, .int l5), (6, .int l6)]) (by decide +kernel) (by decide) rfl ?_
  refine sd_iload (i := 7) (q := 0) (pc' := 112) (by decide +kernel) rfl ?_
  refine sd_if_eq (off := 24) (tgt := 136) (pc' := 115) (by decide +kernel) (fun c6 => ?_) (fun c6 => ?_)
  · replace hf := ite_p c6 hf
    refine sd_iconst (n := 0) (v := 0) (pc' := 137) (by decide +kernel) (by decide) ?_
    obtain rfl := Option.some.inj hf
    exact sd_zret (by decide +kernel) rfl rfl (hE _)
  · replace hf := ite_n c6 hf
    refine sd_iload (i := 6) (q := 3) (pc' := 117) (by decide +kernel) rfl ?_
    refine sd_iconst (n := 5) (v := 5) (pc' := 118) (by decide +kernel) (by decide) ?_
    refine sd_icmp_lt (off := 14) (tgt := 132) (pc' := 121) (by decide +kernel) (fun c7 => ?_) (fun c7 => ?_)
    · replace hf := ite_p c7 hf
      refine sd_J.sub (lo' := []) [] rfl ?_
      exact J_YM_isTyped_B132 hE hf
    · replace hf := ite_n c7 hf
      refine sd_aload_n (k := 0) (i := 0) (q := 1) (pc' := 122) (by decide +kernel) rfl rfl ?_
      refine sF_gr (idx := 56) (ci := 12) (k := 19) (n := 47) (r := 142) (pc' := 125) (by decide +kernel) fl_X12_56 (by decide +kernel) rfl SH_126 (by decide) (by decide +kernel) ?_
      refine sd_iconst (n := 4) (v := 4) (pc' := 126) (by decide +kernel) (by decide) ?_
      refine sF_iald (n := 5) (pc' := 127) (by decide +kernel) SH_142 (by decide) ?_
      refine sd_iload (i := 5) (q := 2) (pc' := 129) (by decide +kernel) rfl ?_
      refine sd_icmp_ne (off := 7) (tgt := 136) (pc' := 132) (by decide +kernel) (fun c8 => ?_) (fun c8 => ?_)
      · replace hf := ite_n c8 hf
        refine sd_iconst (n := 0) (v := 0) (pc' := 137) (by decide +kernel) (by decide) ?_
        obtain rfl := Option.some.inj hf
        exact sd_zret (by decide +kernel) rfl rfl (hE _)
      · replace hf := ite_p c8 hf
        refine sd_J.sub (lo' := []) [] rfl ?_
        exact J_YM_isTyped_B132 hE hf
def YM_isTyped_B107 (h : sd_H) (l5 : Int32) (l6 : Int32) : Option Int32 :=
  YM_isTyped_B108 h l5 l6 0
set_option maxHeartbeats 4000000 in
set_option maxRecDepth 100000 in
theorem J_YM_isTyped_B107 {G : sd_GX} {X : sd_CX} (hE : ∀ g : sd_H, sd_end G X M_YM_isTyped (sd_F g)) {h : sd_H} {r : Int32} {l5 : Int32} {l6 : Int32} (hf : YM_isTyped_B107 h l5 l6 = some r) : sd_J G X (sd_QR G X M_YM_isTyped (some (.int r), sd_F h)) M_YM_isTyped 107 [(0, .ref (G.1 + 126)), (5, .int l5), (6, .int l6)] [] (sd_F h) := by
  unfold YM_isTyped_B107 at hf
  refine sd_iconst (n := 0) (v := 0) (pc' := 108) (by decide +kernel) (by decide) ?_
  refine sd_J.sub (lo' := [(0, .ref (G.1 + 126)), (5, .int l5), (6, .int l6)]) [0, 1, 2] rfl ?_
  exact J_YM_isTyped_B108 hE hf
def YM_isTyped_B103 (h : sd_H) (l5 : Int32) (l6 : Int32) : Option Int32 :=
  YM_isTyped_B108 h l5 l6 1
set_option maxHeartbeats 4000000 in
set_option maxRecDepth 100000 in
theorem J_YM_isTyped_B103 {G : sd_GX} {X : sd_CX} (hE : ∀ g : sd_H, sd_end G X M_YM_isTyped (sd_F g)) {h : sd_H} {r : Int32} {l5 : Int32} {l6 : Int32} (hf : YM_isTyped_B103 h l5 l6 = some r) : sd_J G X (sd_QR G X M_YM_isTyped (some (.int r), sd_F h)) M_YM_isTyped 103 [(0, .ref (G.1 + 126)), (5, .int l5), (6, .int l6)] [] (sd_F h) := by
  unfold YM_isTyped_B103 at hf
  refine sd_iconst (n := 1) (v := 1) (pc' := 104) (by decide +kernel) (by decide) ?_
  refine sd_goto (off := 4) (tgt := 108) (pc' := 107) (by decide +kernel) ?_
  refine sd_J.sub (lo' := [(0, .ref (G.1 + 126)), (5, .int l5), (6, .int l6)]) [0, 1, 2] rfl ?_
  exact J_YM_isTyped_B108 hE hf
def YM_isTyped_B86 (h : sd_H) (l4 : Int32) (l5 : Int32) (l6 : Int32) : Option Int32 :=
  (if l6 < 4 then YM_isTyped_B103 h l5 l6 else (if (h.1 142 (3 : Int32).toNatClampNeg) = l4 then YM_isTyped_B103 h l5 l6 else YM_isTyped_B107 h l5 l6))
set_option maxHeartbeats 4000000 in
set_option maxRecDepth 100000 in
theorem J_YM_isTyped_B86 {G : sd_GX} {X : sd_CX} (hE : ∀ g : sd_H, sd_end G X M_YM_isTyped (sd_F g)) {h : sd_H} {r : Int32} {l4 : Int32} {l5 : Int32} {l6 : Int32} (hf : YM_isTyped_B86 h l4 l5 l6 = some r) : sd_J G X (sd_QR G X M_YM_isTyped (some (.int r), sd_F h)) M_YM_isTyped 86 [(0, .ref (G.1 + 126)), (4, .int l4), (5, .int l5), (6, .int l6)] [] (sd_F h) := by
  unfold YM_isTyped_B86 at hf
  refine sd_iload (i := 6) (q := 3) (pc' := 88) (by decide +kernel) rfl ?_
  refine sd_iconst (n := 4) (v := 4) (pc' := 89) (by decide +kernel) (by decide) ?_
  refine sd_icmp_lt (off := 14) (tgt := 103) (pc' := 92) (by decide +kernel) (fun c10 => ?_) (fun c10 => ?_)
  · replace hf := ite_p c10 hf
    refine sd_J.sub (lo' := [(0, .ref (G.1 + 126)), (5, .int l5), (6, .int l6)]) [0, 2, 3] rfl ?_
    exact J_YM_isTyped_B103 hE hf
  · replace hf := ite_n c10 hf
    refine sd_aload_n (k := 0) (i := 0) (q := 0) (pc' := 93) (by decide +kernel) rfl rfl ?_
    refine sF_gr (idx := 56) (ci := 12) (k := 19) (n := 47) (r := 142) (pc' := 96) (by decide +kernel) fl_X12_56 (by decide +kernel) rfl SH_126 (by decide) (by decide +kernel) ?_
    refine sd_iconst (n := 3) (v := 3) (pc' := 97) (by decide +kernel) (by decide) ?_
    refine sF_iald (n := 5) (pc' := 98) (by decide +kernel) SH_142 (by decide) ?_
    refine sd_iload (i := 4) (q := 1) (pc' := 100) (by decide +kernel) rfl ?_
    refine sd_icmp_ne (off := 7) (tgt := 107) (pc' := 103) (by decide +kernel) (fun c11 => ?_) (fun c11 => ?_)
    · replace hf := ite_n c11 hf
      refine sd_J.sub (lo' := [(0, .ref (G.1 + 126)), (5, .int l5), (6, .int l6)]) [0, 2, 3] rfl ?_
      exact J_YM_isTyped_B107 hE hf
    · replace hf := ite_p c11 hf
      refine sd_J.sub (lo' := [(0, .ref (G.1 + 126)), (5, .int l5), (6, .int l6)]) [0, 2, 3] rfl ?_
      exact J_YM_isTyped_B103 hE hf
def YM_isTyped_B63 (h : sd_H) (l3 : Int32) (l4 : Int32) (l5 : Int32) (l6 : Int32) (s0 : Int32) : Option Int32 :=
  (if s0 = 0 then YM_isTyped_B107 h l5 l6 else (if l6 < 3 then YM_isTyped_B86 h l4 l5 l6 else (if (h.1 142 (2 : Int32).toNatClampNeg) = l3 then YM_isTyped_B86 h l4 l5 l6 else YM_isTyped_B107 h l5 l6)))
set_option maxHeartbeats 4000000 in
set_option maxRecDepth 100000 in
theorem J_YM_isTyped_B63 {G : sd_GX} {X : sd_CX} (hE : ∀ g : sd_H, sd_end G X M_YM_isTyped (sd_F g)) {h : sd_H} {r : Int32} {l3 : Int32} {l4 : Int32} {l5 : Int32} {l6 : Int32} {s0 : Int32} (hf : YM_isTyped_B63 h l3 l4 l5 l6 s0 = some r) : sd_J G X (sd_QR G X M_YM_isTyped (some (.int r), sd_F h)) M_YM_isTyped 63 [(0, .ref (G.1 + 126)), (3, .int l3), (4, .int l4), (5, .int l5), (6, .int l6)] [.int s0] (sd_F h) := by
  unfold YM_isTyped_B63 at hf
  refine sd_istore (i := 7) (pc' := 65) (lo' := [(7, .int s0), (0, .ref (G.1 + 126)), (3, .int l3), (4, .int l4), (5, .int l5), (6, .int l6)]) (by decide +kernel) (by decide) rfl ?_
  refine sd_iload (i := 7) (q := 0) (pc' := 67) (by decide +kernel) rfl ?_
  refine sd_if_eq (off := 40) (tgt := 107) (pc' := 70) (by decide +kernel) (fun c5 => ?_) (fun c5 => ?_)
  · replace hf := ite_p c5 hf
    refine sd_J.sub (lo' := [(0, .ref (G.1 + 126)), (5, .int l5), (6, .int l6)]) [1, 4, 5] rfl ?_
    exact J_YM_isTyped_B107 hE hf
  · replace hf := ite_n c5 hf
    refine sd_iload (i := 6) (q := 5) (pc' := 72) (by decide +kernel) rfl ?_
    refine sd_iconst (n := 3) (v := 3) (pc' := 73) (by decide +kernel) (by decide) ?_
    refine sd_icmp_lt (off := 13) (tgt := 86) (pc' := 76) (by decide +kernel) (fun c9 => ?_) (fun c9 => ?_)
    · replace hf := ite_p c9 hf
      refine sd_J.sub (lo' := [(0, .ref (G.1 + 126)), (4, .int l4), (5, .int l5), (6, .int l6)]) [1, 3, 4, 5] rfl ?_
      exact J_YM_isTyped_B86 hE hf
    · replace hf := ite_n c9 hf
      refine sd_aload_n (k := 0) (i := 0) (q := 1) (pc' := 77) (by decide +kernel) rfl rfl ?_
      refine sF_gr (idx := 56) (ci := 12) (k := 19) (n := 47) (r := 142) (pc' := 80) (by decide +kernel) fl_X12_56 (by decide +kernel) rfl SH_126 (by decide) (by decide +kernel) ?_
      refine sd_iconst (n := 2) (v := 2) (pc' := 81) (by decide +kernel) (by decide) ?_
      refine sF_iald (n := 5) (pc' := 82) (by decide +kernel) SH_142 (by decide) ?_
      refine sd_iload_n (k := 3) (i := 3) (q := 2) (pc' := 83) (by decide +kernel) rfl rfl ?_
      refine sd_icmp_ne (off := 24) (tgt := 107) (pc' := 86) (by decide +kernel) (fun c12 => ?_) (fun c12 => ?_)
      · replace hf := ite_n c12 hf
        refine sd_J.sub (lo' := [(0, .ref (G.1 + 126)), (5, .int l5), (6, .int l6)]) [1, 4, 5] rfl ?_
        exact J_YM_isTyped_B107 hE hf
      · replace hf := ite_p c12 hf
        refine sd_J.sub (lo' := [(0, .ref (G.1 + 126)), (4, .int l4), (5, .int l5), (6, .int l6)]) [1, 3, 4, 5] rfl ?_
        exact J_YM_isTyped_B86 hE hf
def YM_isTyped_B62 (h : sd_H) (l3 : Int32) (l4 : Int32) (l5 : Int32) (l6 : Int32) : Option Int32 :=
  YM_isTyped_B63 h l3 l4 l5 l6 0
set_option maxHeartbeats 4000000 in
set_option maxRecDepth 100000 in
theorem J_YM_isTyped_B62 {G : sd_GX} {X : sd_CX} (hE : ∀ g : sd_H, sd_end G X M_YM_isTyped (sd_F g)) {h : sd_H} {r : Int32} {l3 : Int32} {l4 : Int32} {l5 : Int32} {l6 : Int32} (hf : YM_isTyped_B62 h l3 l4 l5 l6 = some r) : sd_J G X (sd_QR G X M_YM_isTyped (some (.int r), sd_F h)) M_YM_isTyped 62 [(0, .ref (G.1 + 126)), (3, .int l3), (4, .int l4), (5, .int l5), (6, .int l6)] [] (sd_F h) := by
  unfold YM_isTyped_B62 at hf
  refine sd_iconst (n := 0) (v := 0) (pc' := 63) (by decide +kernel) (by decide) ?_
  refine sd_J.sub (lo' := [(0, .ref (G.1 + 126)), (3, .int l3), (4, .int l4), (5, .int l5), (6, .int l6)]) [0, 1, 2, 3, 4] rfl ?_
  exact J_YM_isTyped_B63 hE hf
def YM_isTyped_B27 (h : sd_H) (l1 : Int32) (l2 : Int32) (l3 : Int32) (l4 : Int32) (l5 : Int32) (s0 : Int32) : Option Int32 :=
  (if (h.1 126 20) = s0 then (if (h.1 142 (0 : Int32).toNatClampNeg) = l1 then (if (h.1 142 (1 : Int32).toNatClampNeg) = l2 then YM_isTyped_B63 h l3 l4 l5 s0 1 else YM_isTyped_B62 h l3 l4 l5 s0) else YM_isTyped_B62 h l3 l4 l5 s0) else YM_isTyped_B62 h l3 l4 l5 s0)
set_option maxHeartbeats 4000000 in
set_option maxRecDepth 100000 in
theorem J_YM_isTyped_B27 {G : sd_GX} {X : sd_CX} (hE : ∀ g : sd_H, sd_end G X M_YM_isTyped (sd_F g)) {h : sd_H} {r : Int32} {l1 : Int32} {l2 : Int32} {l3 : Int32} {l4 : Int32} {l5 : Int32} {s0 : Int32} (hf : YM_isTyped_B27 h l1 l2 l3 l4 l5 s0 = some r) : sd_J G X (sd_QR G X M_YM_isTyped (some (.int r), sd_F h)) M_YM_isTyped 27 [(0, .ref (G.1 + 126)), (1, .int l1), (2, .int l2), (3, .int l3), (4, .int l4), (5, .int l5)] [.int s0] (sd_F h) := by
  unfold YM_isTyped_B27 at hf
  refine sd_istore (i := 6) (pc' := 29) (lo' := [(6, .int s0), (0, .ref (G.1 + 126)), (1, .int l1), (2, .int l2), (3, .int l3), (4, .int l4), (5, .int l5)]) (by decide +kernel) (by decide) rfl ?_
  refine sd_aload_n (k := 0) (i := 0) (q := 1) (pc' := 30) (by decide +kernel) rfl rfl ?_
  refine sF_gi (idx := 161) (ci := 12) (k := 20) (n := 47) (pc' := 33) (by decide +kernel) fl_X12_161 (by decide +kernel) rfl SH_126 ?_
  refine sd_iload (i := 6) (q := 0) (pc' := 35) (by decide +kernel) rfl ?_
  refine sd_icmp_ne (off := 27) (tgt := 62) (pc' := 38) (by decide +kernel) (fun c4 => ?_) (fun c4 => ?_)
  · replace hf := ite_n c4 hf
    refine sd_J.sub (lo' := [(0, .ref (G.1 + 126)), (3, .int l3), (4, .int l4), (5, .int l5), (6, .int s0)]) [1, 4, 5, 6, 0] rfl ?_
    exact J_YM_isTyped_B62 hE hf
  · replace hf := ite_p c4 hf
    refine sd_aload_n (k := 0) (i := 0) (q := 1) (pc' := 39) (by decide +kernel) rfl rfl ?_
    refine sF_gr (idx := 56) (ci := 12) (k := 19) (n := 47) (r := 142) (pc' := 42) (by decide +kernel) fl_X12_56 (by decide +kernel) rfl SH_126 (by decide) (by decide +kernel) ?_
    refine sd_iconst (n := 0) (v := 0) (pc' := 43) (by decide +kernel) (by decide) ?_
    refine sF_iald (n := 5) (pc' := 44) (by decide +kernel) SH_142 (by decide) ?_
    refine sd_iload_n (k := 1) (i := 1) (q := 2) (pc' := 45) (by decide +kernel) rfl rfl ?_
    refine sd_icmp_ne (off := 17) (tgt := 62) (pc' := 48) (by decide +kernel) (fun c13 => ?_) (fun c13 => ?_)
    · replace hf := ite_n c13 hf
      refine sd_J.sub (lo' := [(0, .ref (G.1 + 126)), (3, .int l3), (4, .int l4), (5, .int l5), (6, .int s0)]) [1, 4, 5, 6, 0] rfl ?_
      exact J_YM_isTyped_B62 hE hf
    · replace hf := ite_p c13 hf
      refine sd_aload_n (k := 0) (i := 0) (q := 1) (pc' := 49) (by decide +kernel) rfl rfl ?_
      refine sF_gr (idx := 56) (ci := 12) (k := 19) (n := 47) (r := 142) (pc' := 52) (by decide +kernel) fl_X12_56 (by decide +kernel) rfl SH_126 (by decide) (by decide +kernel) ?_
      refine sd_iconst (n := 1) (v := 1) (pc' := 53) (by decide +kernel) (by decide) ?_
      refine sF_iald (n := 5) (pc' := 54) (by decide +kernel) SH_142 (by decide) ?_
      refine sd_iload_n (k := 2) (i := 2) (q := 3) (pc' := 55) (by decide +kernel) rfl rfl ?_
      refine sd_icmp_ne (off := 7) (tgt := 62) (pc' := 58) (by decide +kernel) (fun c14 => ?_) (fun c14 => ?_)
      · replace hf := ite_n c14 hf
        refine sd_J.sub (lo' := [(0, .ref (G.1 + 126)), (3, .int l3), (4, .int l4), (5, .int l5), (6, .int s0)]) [1, 4, 5, 6, 0] rfl ?_
        exact J_YM_isTyped_B62 hE hf
      · replace hf := ite_p c14 hf
        refine sd_iconst (n := 1) (v := 1) (pc' := 59) (by decide +kernel) (by decide) ?_
        refine sd_goto (off := 4) (tgt := 63) (pc' := 62) (by decide +kernel) ?_
        refine sd_J.sub (lo' := [(0, .ref (G.1 + 126)), (3, .int l3), (4, .int l4), (5, .int l5), (6, .int s0)]) [1, 4, 5, 6, 0] rfl ?_
        exact J_YM_isTyped_B63 hE hf
def YM_isTyped (h : sd_H) (a0 : Int32) (a1 : Int32) (a2 : Int32) (a3 : Int32) (a4 : Int32) : Option Int32 :=
  (if a4 ≤ 0 then (if a3 ≤ 0 then (if a2 ≤ 0 then YM_isTyped_B27 h a0 a1 a2 a3 a4 2 else YM_isTyped_B27 h a0 a1 a2 a3 a4 3) else YM_isTyped_B27 h a0 a1 a2 a3 a4 4) else YM_isTyped_B27 h a0 a1 a2 a3 a4 5)
set_option maxHeartbeats 4000000 in
set_option maxRecDepth 100000 in
theorem T_YM_isTyped {G : sd_GX} {h : sd_H} {a0 : Int32} {a1 : Int32} {a2 : Int32} {a3 : Int32} {a4 : Int32} {r : Int32} (hf : YM_isTyped h a0 a1 a2 a3 a4 = some r) : sd_RunF G M_YM_isTyped [.ref (G.1 + 126), .int a0, .int a1, .int a2, .int a3, .int a4] h (some (.int r)) h := by
  refine sF_run ⟨rfl, rfl⟩ (by decide +kernel) (Nat.le_of_ble_eq_true rfl) (lo := [(0, .ref (G.1 + 126)), (1, .int a0), (2, .int a1), (3, .int a2), (4, .int a3), (5, .int a4)]) rfl (fun X hE => ?_)
  unfold YM_isTyped at hf
  refine sd_iload (i := 5) (q := 5) (pc' := 2) (by decide +kernel) rfl ?_
  refine sd_if_le (off := 7) (tgt := 9) (pc' := 5) (by decide +kernel) (fun c1 => ?_) (fun c1 => ?_)
  · replace hf := ite_p c1 hf
    refine sd_iload (i := 4) (q := 4) (pc' := 11) (by decide +kernel) rfl ?_
    refine sd_if_le (off := 7) (tgt := 18) (pc' := 14) (by decide +kernel) (fun c2 => ?_) (fun c2 => ?_)
    · replace hf := ite_p c2 hf
      refine sd_iload_n (k := 3) (i := 3) (q := 3) (pc' := 19) (by decide +kernel) rfl rfl ?_
      refine sd_if_le (off := 7) (tgt := 26) (pc' := 22) (by decide +kernel) (fun c3 => ?_) (fun c3 => ?_)
      · replace hf := ite_p c3 hf
        refine sd_iconst (n := 2) (v := 2) (pc' := 27) (by decide +kernel) (by decide) ?_
        refine sd_J.sub (lo' := [(0, .ref (G.1 + 126)), (1, .int a0), (2, .int a1), (3, .int a2), (4, .int a3), (5, .int a4)]) [0, 1, 2, 3, 4, 5] rfl ?_
        exact J_YM_isTyped_B27 hE hf
      · replace hf := ite_n c3 hf
        refine sd_iconst (n := 3) (v := 3) (pc' := 23) (by decide +kernel) (by decide) ?_
        refine sd_goto (off := 4) (tgt := 27) (pc' := 26) (by decide +kernel) ?_
        refine sd_J.sub (lo' := [(0, .ref (G.1 + 126)), (1, .int a0), (2, .int a1), (3, .int a2), (4, .int a3), (5, .int a4)]) [0, 1, 2, 3, 4, 5] rfl ?_
        exact J_YM_isTyped_B27 hE hf
    · replace hf := ite_n c2 hf
      refine sd_iconst (n := 4) (v := 4) (pc' := 15) (by decide +kernel) (by decide) ?_
      refine sd_goto (off := 12) (tgt := 27) (pc' := 18) (by decide +kernel) ?_
      refine sd_J.sub (lo' := [(0, .ref (G.1 + 126)), (1, .int a0), (2, .int a1), (3, .int a2), (4, .int a3), (5, .int a4)]) [0, 1, 2, 3, 4, 5] rfl ?_
      exact J_YM_isTyped_B27 hE hf
  · replace hf := ite_n c1 hf
    refine sd_iconst (n := 5) (v := 5) (pc' := 6) (by decide +kernel) (by decide) ?_
    refine sd_goto (off := 21) (tgt := 27) (pc' := 9) (by decide +kernel) ?_
    refine sd_J.sub (lo' := [(0, .ref (G.1 + 126)), (1, .int a0), (2, .int a1), (3, .int a2), (4, .int a3), (5, .int a4)]) [0, 1, 2, 3, 4, 5] rfl ?_
    exact J_YM_isTyped_B27 hE hf

theorem ml_X12_164 : Cond.methodLink RX12 164 yX12_isTyped ∈ sd_tb := sd_mem (i := 1364) (by decide +kernel)
theorem mv_YM_isTyped : sd_mV M_YM_isTyped 5 := ⟨sd_mem (i := 1366) (by decide +kernel), sd_mem (i := 42) (by decide +kernel), ⟨sd_mem (i := 1367) (by decide +kernel), sd_mem (i := 119) (by decide +kernel), by decide +kernel, by decide +kernel, by decide +kernel⟩⟩
def M_YM_isName : sd_MX := (yX12_isName, cX12_isName, 2, (some .boolean), { frames := 2, cells := 0, slots := 0, locals := 67 })
def YM_isName (h : sd_H) (a0 : Int32) : Option Int32 :=
  (if a0 = 0 then b1 (YM_isTyped h 97 100 100 0 0) (fun t3 => gd (sd_isB t3) (some t3)) else (if a0 = 1 then b1 (YM_isTyped h 115 117 98 0 0) (fun t6 => gd (sd_isB t6) (some t6)) else (if a0 = 2 then b1 (YM_isTyped h 109 117 108 0 0) (fun t9 => gd (sd_isB t9) (some t9)) else (if a0 = 3 then b1 (YM_isTyped h 114 101 109 0 0) (fun t12 => gd (sd_isB t12) (some t12)) else (if a0 = 4 then b1 (YM_isTyped h 109 97 120 0 0) (fun t15 => gd (sd_isB t15) (some t15)) else (if a0 = 5 then b1 (YM_isTyped h 109 105 110 0 0) (fun t18 => gd (sd_isB t18) (some t18)) else (if a0 = 6 then b1 (YM_isTyped h 97 110 100 0 0) (fun t21 => gd (sd_isB t21) (some t21)) else (if a0 = 7 then b1 (YM_isTyped h 111 114 0 0 0) (fun t24 => gd (sd_isB t24) (some t24)) else (if a0 = 8 then b1 (YM_isTyped h 120 111 114 0 0) (fun t27 => gd (sd_isB t27) (some t27)) else (if a0 = 9 then b1 (YM_isTyped h 99 111 112 121 0) (fun t30 => gd (sd_isB t30) (some t30)) else (if a0 = 10 then b1 (YM_isTyped h 112 105 99 107 0) (fun t33 => gd (sd_isB t33) (some t33)) else (if a0 = 11 then b1 (YM_isTyped h 115 117 114 101 0) (fun t36 => gd (sd_isB t36) (some t36)) else (b1 (YM_isTyped h 116 105 109 101 115) (fun t39 => gd (sd_isB t39) (some t39)))))))))))))))
set_option maxHeartbeats 4000000 in
set_option maxRecDepth 100000 in
theorem T_YM_isName {G : sd_GX} {h : sd_H} {a0 : Int32} {r : Int32} (hf : YM_isName h a0 = some r) : sd_RunF G M_YM_isName [.ref (G.1 + 126), .int a0] h (some (.int r)) h := by
  refine sF_run ⟨rfl, rfl⟩ (by decide +kernel) (Nat.le_of_ble_eq_true rfl) (lo := [(0, .ref (G.1 + 126)), (1, .int a0)]) rfl (fun X hE => ?_)
  unfold YM_isName at hf
  refine sd_iload_n (k := 1) (i := 1) (q := 1) (pc' := 1) (by decide +kernel) rfl rfl ?_
  by_cases c1_0 : a0 = 0
  · replace hf := ite_p c1_0 hf
    refine sd_tswIn (dflt := 221) (lo0 := 0) (hi0 := 11) (offs := #[63, 76, 89, 102, 115, 128, 141, 154, 166, 179, 193, 207]) (len := 63) (off := 63) (tgt := 64) (pc' := 64) (by decide +kernel) (by rw [c1_0]; decide) (by rw [c1_0]; decide) (by rw [c1_0]; decide) ?_
    refine sd_aload_n (k := 0) (i := 0) (q := 0) (pc' := 65) (by decide +kernel) rfl rfl ?_
    refine sd_bipush (n := 97) (v := 97) (pc' := 67) (by decide +kernel) (by decide) ?_
    refine sd_bipush (n := 100) (v := 100) (pc' := 69) (by decide +kernel) (by decide) ?_
    refine sd_bipush (n := 100) (v := 100) (pc' := 71) (by decide +kernel) (by decide) ?_
    refine sd_iconst (n := 0) (v := 0) (pc' := 72) (by decide +kernel) (by decide) ?_
    refine sd_iconst (n := 0) (v := 0) (pc' := 73) (by decide +kernel) (by decide) ?_
    obtain ⟨t3, q2, hf⟩ := b1_some hf
    refine sF_callV (idx := 164) (b := 126) (As := [.int 97, .int 100, .int 100, .int 0, .int 0]) (ci := 12) (nn := 47) (pc' := 76) 5 (T_YM_isTyped (G := G) (h := h)  q2) (by decide +kernel) mv_YM_isTyped ml_X12_164 (by decide +kernel) rfl rfl (Nat.le_of_ble_eq_true rfl) SH_126 rfl (by decide) rfl rfl ?_
    obtain ⟨g4, hf⟩ := gd_some hf
    obtain rfl := Option.some.inj hf
    exact sd_zret (by decide +kernel) rfl g4 (hE _)
  · replace hf := ite_n c1_0 hf
    by_cases c1_1 : a0 = 1
    · replace hf := ite_p c1_1 hf
      refine sd_tswIn (dflt := 221) (lo0 := 0) (hi0 := 11) (offs := #[63, 76, 89, 102, 115, 128, 141, 154, 166, 179, 193, 207]) (len := 63) (off := 76) (tgt := 77) (pc' := 64) (by decide +kernel) (by rw [c1_1]; decide) (by rw [c1_1]; decide) (by rw [c1_1]; decide) ?_
      refine sd_aload_n (k := 0) (i := 0) (q := 0) (pc' := 78) (by decide +kernel) rfl rfl ?_
      refine sd_bipush (n := 115) (v := 115) (pc' := 80) (by decide +kernel) (by decide) ?_
      refine sd_bipush (n := 117) (v := 117) (pc' := 82) (by decide +kernel) (by decide) ?_
      refine sd_bipush (n := 98) (v := 98) (pc' := 84) (by decide +kernel) (by decide) ?_
      refine sd_iconst (n := 0) (v := 0) (pc' := 85) (by decide +kernel) (by decide) ?_
      refine sd_iconst (n := 0) (v := 0) (pc' := 86) (by decide +kernel) (by decide) ?_
      obtain ⟨t6, q5, hf⟩ := b1_some hf
      refine sF_callV (idx := 164) (b := 126) (As := [.int 115, .int 117, .int 98, .int 0, .int 0]) (ci := 12) (nn := 47) (pc' := 89) 5 (T_YM_isTyped (G := G) (h := h)  q5) (by decide +kernel) mv_YM_isTyped ml_X12_164 (by decide +kernel) rfl rfl (Nat.le_of_ble_eq_true rfl) SH_126 rfl (by decide) rfl rfl ?_
      obtain ⟨g7, hf⟩ := gd_some hf
      obtain rfl := Option.some.inj hf
      exact sd_zret (by decide +kernel) rfl g7 (hE _)
    · replace hf := ite_n c1_1 hf
      by_cases c1_2 : a0 = 2
      · replace hf := ite_p c1_2 hf
        refine sd_tswIn (dflt := 221) (lo0 := 0) (hi0 := 11) (offs := #[63, 76, 89, 102, 115, 128, 141, 154, 166, 179, 193, 207]) (len := 63) (off := 89) (tgt := 90) (pc' := 64) (by decide +kernel) (by rw [c1_2]; decide) (by rw [c1_2]; decide) (by rw [c1_2]; decide) ?_
        refine sd_aload_n (k := 0) (i := 0) (q := 0) (pc' := 91) (by decide +kernel) rfl rfl ?_
        refine sd_bipush (n := 109) (v := 109) (pc' := 93) (by decide +kernel) (by decide) ?_
        refine sd_bipush (n := 117) (v := 117) (pc' := 95) (by decide +kernel) (by decide) ?_
        refine sd_bipush (n := 108) (v := 108) (pc' := 97) (by decide +kernel) (by decide) ?_
        refine sd_iconst (n := 0) (v := 0) (pc' := 98) (by decide +kernel) (by decide) ?_
        refine sd_iconst (n := 0) (v := 0) (pc' := 99) (by decide +kernel) (by decide) ?_
        obtain ⟨t9, q8, hf⟩ := b1_some hf
        refine sF_callV (idx := 164) (b := 126) (As := [.int 109, .int 117, .int 108, .int 0, .int 0]) (ci := 12) (nn := 47) (pc' := 102) 5 (T_YM_isTyped (G := G) (h := h)  q8) (by decide +kernel) mv_YM_isTyped ml_X12_164 (by decide +kernel) rfl rfl (Nat.le_of_ble_eq_true rfl) SH_126 rfl (by decide) rfl rfl ?_
        obtain ⟨g10, hf⟩ := gd_some hf
        obtain rfl := Option.some.inj hf
        exact sd_zret (by decide +kernel) rfl g10 (hE _)
      · replace hf := ite_n c1_2 hf
        by_cases c1_3 : a0 = 3
        · replace hf := ite_p c1_3 hf
          refine sd_tswIn (dflt := 221) (lo0 := 0) (hi0 := 11) (offs := #[63, 76, 89, 102, 115, 128, 141, 154, 166, 179, 193, 207]) (len := 63) (off := 102) (tgt := 103) (pc' := 64) (by decide +kernel) (by rw [c1_3]; decide) (by rw [c1_3]; decide) (by rw [c1_3]; decide) ?_
          refine sd_aload_n (k := 0) (i := 0) (q := 0) (pc' := 104) (by decide +kernel) rfl rfl ?_
          refine sd_bipush (n := 114) (v := 114) (pc' := 106) (by decide +kernel) (by decide) ?_
          refine sd_bipush (n := 101) (v := 101) (pc' := 108) (by decide +kernel) (by decide) ?_
          refine sd_bipush (n := 109) (v := 109) (pc' := 110) (by decide +kernel) (by decide) ?_
          refine sd_iconst (n := 0) (v := 0) (pc' := 111) (by decide +kernel) (by decide) ?_
          refine sd_iconst (n := 0) (v := 0) (pc' := 112) (by decide +kernel) (by decide) ?_
          obtain ⟨t12, q11, hf⟩ := b1_some hf
          refine sF_callV (idx := 164) (b := 126) (As := [.int 114, .int 101, .int 109, .int 0, .int 0]) (ci := 12) (nn := 47) (pc' := 115) 5 (T_YM_isTyped (G := G) (h := h)  q11) (by decide +kernel) mv_YM_isTyped ml_X12_164 (by decide +kernel) rfl rfl (Nat.le_of_ble_eq_true rfl) SH_126 rfl (by decide) rfl rfl ?_
          obtain ⟨g13, hf⟩ := gd_some hf
          obtain rfl := Option.some.inj hf
          exact sd_zret (by decide +kernel) rfl g13 (hE _)
        · replace hf := ite_n c1_3 hf
          by_cases c1_4 : a0 = 4
          · replace hf := ite_p c1_4 hf
            refine sd_tswIn (dflt := 221) (lo0 := 0) (hi0 := 11) (offs := #[63, 76, 89, 102, 115, 128, 141, 154, 166, 179, 193, 207]) (len := 63) (off := 115) (tgt := 116) (pc' := 64) (by decide +kernel) (by rw [c1_4]; decide) (by rw [c1_4]; decide) (by rw [c1_4]; decide) ?_
            refine sd_aload_n (k := 0) (i := 0) (q := 0) (pc' := 117) (by decide +kernel) rfl rfl ?_
            refine sd_bipush (n := 109) (v := 109) (pc' := 119) (by decide +kernel) (by decide) ?_
            refine sd_bipush (n := 97) (v := 97) (pc' := 121) (by decide +kernel) (by decide) ?_
            refine sd_bipush (n := 120) (v := 120) (pc' := 123) (by decide +kernel) (by decide) ?_
            refine sd_iconst (n := 0) (v := 0) (pc' := 124) (by decide +kernel) (by decide) ?_
            refine sd_iconst (n := 0) (v := 0) (pc' := 125) (by decide +kernel) (by decide) ?_
            obtain ⟨t15, q14, hf⟩ := b1_some hf
            refine sF_callV (idx := 164) (b := 126) (As := [.int 109, .int 97, .int 120, .int 0, .int 0]) (ci := 12) (nn := 47) (pc' := 128) 5 (T_YM_isTyped (G := G) (h := h)  q14) (by decide +kernel) mv_YM_isTyped ml_X12_164 (by decide +kernel) rfl rfl (Nat.le_of_ble_eq_true rfl) SH_126 rfl (by decide) rfl rfl ?_
            obtain ⟨g16, hf⟩ := gd_some hf
            obtain rfl := Option.some.inj hf
            exact sd_zret (by decide +kernel) rfl g16 (hE _)
          · replace hf := ite_n c1_4 hf
            by_cases c1_5 : a0 = 5
            · replace hf := ite_p c1_5 hf
              refine sd_tswIn (dflt := 221) (lo0 := 0) (hi0 := 11) (offs := #[63, 76, 89, 102, 115, 128, 141, 154, 166, 179, 193, 207]) (len := 63) (off := 128) (tgt := 129) (pc' := 64) (by decide +kernel) (by rw [c1_5]; decide) (by rw [c1_5]; decide) (by rw [c1_5]; decide) ?_
              refine sd_aload_n (k := 0) (i := 0) (q := 0) (pc' := 130) (by decide +kernel) rfl rfl ?_
              refine sd_bipush (n := 109) (v := 109) (pc' := 132) (by decide +kernel) (by decide) ?_
              refine sd_bipush (n := 105) (v := 105) (pc' := 134) (by decide +kernel) (by decide) ?_
              refine sd_bipush (n := 110) (v := 110) (pc' := 136) (by decide +kernel) (by decide) ?_
              refine sd_iconst (n := 0) (v := 0) (pc' := 137) (by decide +kernel) (by decide) ?_
              refine sd_iconst (n := 0) (v := 0) (pc' := 138) (by decide +kernel) (by decide) ?_
              obtain ⟨t18, q17, hf⟩ := b1_some hf
              refine sF_callV (idx := 164) (b := 126) (As := [.int 109, .int 105, .int 110, .int 0, .int 0]) (ci := 12) (nn := 47) (pc' := 141) 5 (T_YM_isTyped (G := G) (h := h)  q17) (by decide +kernel) mv_YM_isTyped ml_X12_164 (by decide +kernel) rfl rfl (Nat.le_of_ble_eq_true rfl) SH_126 rfl (by decide) rfl rfl ?_
              obtain ⟨g19, hf⟩ := gd_some hf
              obtain rfl := Option.some.inj hf
              exact sd_zret (by decide +kernel) rfl g19 (hE _)
            · replace hf := ite_n c1_5 hf
              by_cases c1_6 : a0 = 6
              · replace hf := ite_p c1_6 hf
                refine sd_tswIn (dflt := 221) (lo0 := 0) (hi0 := 11) (offs := #[63, 76, 89, 102, 115, 128, 141, 154, 166, 179, 193, 207]) (len := 63) (off := 141) (tgt := 142) (pc' := 64) (by decide +kernel) (by rw [c1_6]; decide) (by rw [c1_6]; decide) (by rw [c1_6]; decide) ?_
                refine sd_aload_n (k := 0) (i := 0) (q := 0) (pc' := 143) (by decide +kernel) rfl rfl ?_
                refine sd_bipush (n := 97) (v := 97) (pc' := 145) (by decide +kernel) (by decide) ?_
                refine sd_bipush (n := 110) (v := 110) (pc' := 147) (by decide +kernel) (by decide) ?_
                refine sd_bipush (n := 100) (v := 100) (pc' := 149) (by decide +kernel) (by decide) ?_
                refine sd_iconst (n := 0) (v := 0) (pc' := 150) (by decide +kernel) (by decide) ?_
                refine sd_iconst (n := 0) (v := 0) (pc' := 151) (by decide +kernel) (by decide) ?_
                obtain ⟨t21, q20, hf⟩ := b1_some hf
                refine sF_callV (idx := 164) (b := 126) (As := [.int 97, .int 110, .int 100, .int 0, .int 0]) (ci := 12) (nn := 47) (pc' := 154) 5 (T_YM_isTyped (G := G) (h := h)  q20) (by decide +kernel) mv_YM_isTyped ml_X12_164 (by decide +kernel) rfl rfl (Nat.le_of_ble_eq_true rfl) SH_126 rfl (by decide) rfl rfl ?_
                obtain ⟨g22, hf⟩ := gd_some hf
                obtain rfl := Option.some.inj hf
                exact sd_zret (by decide +kernel) rfl g22 (hE _)
              · replace hf := ite_n c1_6 hf
                by_cases c1_7 : a0 = 7
                · replace hf := ite_p c1_7 hf
                  refine sd_tswIn (dflt := 221) (lo0 := 0) (hi0 := 11) (offs := #[63, 76, 89, 102, 115, 128, 141, 154, 166, 179, 193, 207]) (len := 63) (off := 154) (tgt := 155) (pc' := 64) (by decide +kernel) (by rw [c1_7]; decide) (by rw [c1_7]; decide) (by rw [c1_7]; decide) ?_
                  refine sd_aload_n (k := 0) (i := 0) (q := 0) (pc' := 156) (by decide +kernel) rfl rfl ?_
                  refine sd_bipush (n := 111) (v := 111) (pc' := 158) (by decide +kernel) (by decide) ?_
                  refine sd_bipush (n := 114) (v := 114) (pc' := 160) (by decide +kernel) (by decide) ?_
                  refine sd_iconst (n := 0) (v := 0) (pc' := 161) (by decide +kernel) (by decide) ?_
                  refine sd_iconst (n := 0) (v := 0) (pc' := 162) (by decide +kernel) (by decide) ?_
                  refine sd_iconst (n := 0) (v := 0) (pc' := 163) (by decide +kernel) (by decide) ?_
                  obtain ⟨t24, q23, hf⟩ := b1_some hf
                  refine sF_callV (idx := 164) (b := 126) (As := [.int 111, .int 114, .int 0, .int 0, .int 0]) (ci := 12) (nn := 47) (pc' := 166) 5 (T_YM_isTyped (G := G) (h := h)  q23) (by decide +kernel) mv_YM_isTyped ml_X12_164 (by decide +kernel) rfl rfl (Nat.le_of_ble_eq_true rfl) SH_126 rfl (by decide) rfl rfl ?_
                  obtain ⟨g25, hf⟩ := gd_some hf
                  obtain rfl := Option.some.inj hf
                  exact sd_zret (by decide +kernel) rfl g25 (hE _)
                · replace hf := ite_n c1_7 hf
                  by_cases c1_8 : a0 = 8
                  · replace hf := ite_p c1_8 hf
                    refine sd_tswIn (dflt := 221) (lo0 := 0) (hi0 := 11) (offs := #[63, 76, 89, 102, 115, 128, 141, 154, 166, 179, 193, 207]) (len := 63) (off := 166) (tgt := 167) (pc' := 64) (by decide +kernel) (by rw [c1_8]; decide) (by rw [c1_8]; decide) (by rw [c1_8]; decide) ?_
                    refine sd_aload_n (k := 0) (i := 0) (q := 0) (pc' := 168) (by decide +kernel) rfl rfl ?_
                    refine sd_bipush (n := 120) (v := 120) (pc' := 170) (by decide +kernel) (by decide) ?_
                    refine sd_bipush (n := 111) (v := 111) (pc' := 172) (by decide +kernel) (by decide) ?_
                    refine sd_bipush (n := 114) (v := 114) (pc' := 174) (by decide +kernel) (by decide) ?_
                    refine sd_iconst (n := 0) (v := 0) (pc' := 175) (by decide +kernel) (by decide) ?_
                    refine sd_iconst (n := 0) (v := 0) (pc' := 176) (by decide +kernel) (by decide) ?_
                    obtain ⟨t27, q26, hf⟩ := b1_some hf
                    refine sF_callV (idx := 164) (b := 126) (As := [.int 120, .int 111, .int 114, .int 0, .int 0]) (ci := 12) (nn := 47) (pc' := 179) 5 (T_YM_isTyped (G := G) (h := h)  q26) (by decide +kernel) mv_YM_isTyped ml_X12_164 (by decide +kernel) rfl rfl (Nat.le_of_ble_eq_true rfl) SH_126 rfl (by decide) rfl rfl ?_
                    obtain ⟨g28, hf⟩ := gd_some hf
                    obtain rfl := Option.some.inj hf
                    exact sd_zret (by decide +kernel) rfl g28 (hE _)
                  · replace hf := ite_n c1_8 hf
                    by_cases c1_9 : a0 = 9
                    · replace hf := ite_p c1_9 hf
                      refine sd_tswIn (dflt := 221) (lo0 := 0) (hi0 := 11) (offs := #[63, 76, 89, 102, 115, 128, 141, 154, 166, 179, 193, 207]) (len := 63) (off := 179) (tgt := 180) (pc' := 64) (by decide +kernel) (by rw [c1_9]; decide) (by rw [c1_9]; decide) (by rw [c1_9]; decide) ?_
                      refine sd_aload_n (k := 0) (i := 0) (q := 0) (pc' := 181) (by decide +kernel) rfl rfl ?_
                      refine sd_bipush (n := 99) (v := 99) (pc' := 183) (by decide +kernel) (by decide) ?_
                      refine sd_bipush (n := 111) (v := 111) (pc' := 185) (by decide +kernel) (by decide) ?_
                      refine sd_bipush (n := 112) (v := 112) (pc' := 187) (by decide +kernel) (by decide) ?_
                      refine sd_bipush (n := 121) (v := 121) (pc' := 189) (by decide +kernel) (by decide) ?_
                      refine sd_iconst (n := 0) (v := 0) (pc' := 190) (by decide +kernel) (by decide) ?_
                      obtain ⟨t30, q29, hf⟩ := b1_some hf
                      refine sF_callV (idx := 164) (b := 126) (As := [.int 99, .int 111, .int 112, .int 121, .int 0]) (ci := 12) (nn := 47) (pc' := 193) 5 (T_YM_isTyped (G := G) (h := h)  q29) (by decide +kernel) mv_YM_isTyped ml_X12_164 (by decide +kernel) rfl rfl (Nat.le_of_ble_eq_true rfl) SH_126 rfl (by decide) rfl rfl ?_
                      obtain ⟨g31, hf⟩ := gd_some hf
                      obtain rfl := Option.some.inj hf
                      exact sd_zret (by decide +kernel) rfl g31 (hE _)
                    · replace hf := ite_n c1_9 hf
                      by_cases c1_10 : a0 = 10
                      · replace hf := ite_p c1_10 hf
                        refine sd_tswIn (dflt := 221) (lo0 := 0) (hi0 := 11) (offs := #[63, 76, 89, 102, 115, 128, 141, 154, 166, 179, 193, 207]) (len := 63) (off := 193) (tgt := 194) (pc' := 64) (by decide +kernel) (by rw [c1_10]; decide) (by rw [c1_10]; decide) (by rw [c1_10]; decide) ?_
                        refine sd_aload_n (k := 0) (i := 0) (q := 0) (pc' := 195) (by decide +kernel) rfl rfl ?_
                        refine sd_bipush (n := 112) (v := 112) (pc' := 197) (by decide +kernel) (by decide) ?_
                        refine sd_bipush (n := 105) (v := 105) (pc' := 199) (by decide +kernel) (by decide) ?_
                        refine sd_bipush (n := 99) (v := 99) (pc' := 201) (by decide +kernel) (by decide) ?_
                        refine sd_bipush (n := 107) (v := 107) (pc' := 203) (by decide +kernel) (by decide) ?_
                        refine sd_iconst (n := 0) (v := 0) (pc' := 204) (by decide +kernel) (by decide) ?_
                        obtain ⟨t33, q32, hf⟩ := b1_some hf
                        refine sF_callV (idx := 164) (b := 126) (As := [.int 112, .int 105, .int 99, .int 107, .int 0]) (ci := 12) (nn := 47) (pc' := 207) 5 (T_YM_isTyped (G := G) (h := h)  q32) (by decide +kernel) mv_YM_isTyped ml_X12_164 (by decide +kernel) rfl rfl (Nat.le_of_ble_eq_true rfl) SH_126 rfl (by decide) rfl rfl ?_
                        obtain ⟨g34, hf⟩ := gd_some hf
                        obtain rfl := Option.some.inj hf
                        exact sd_zret (by decide +kernel) rfl g34 (hE _)
                      · replace hf := ite_n c1_10 hf
                        by_cases c1_11 : a0 = 11
                        · replace hf := ite_p c1_11 hf
                          refine sd_tswIn (dflt := 221) (lo0 := 0) (hi0 := 11) (offs := #[63, 76, 89, 102, 115, 128, 141, 154, 166, 179, 193, 207]) (len := 63) (off := 207) (tgt := 208) (pc' := 64) (by decide +kernel) (by rw [c1_11]; decide) (by rw [c1_11]; decide) (by rw [c1_11]; decide) ?_
                          refine sd_aload_n (k := 0) (i := 0) (q := 0) (pc' := 209) (by decide +kernel) rfl rfl ?_
                          refine sd_bipush (n := 115) (v := 115) (pc' := 211) (by decide +kernel) (by decide) ?_
                          refine sd_bipush (n := 117) (v := 117) (pc' := 213) (by decide +kernel) (by decide) ?_
                          refine sd_bipush (n := 114) (v := 114) (pc' := 215) (by decide +kernel) (by decide) ?_
                          refine sd_bipush (n := 101) (v := 101) (pc' := 217) (by decide +kernel) (by decide) ?_
                          refine sd_iconst (n := 0) (v := 0) (pc' := 218) (by decide +kernel) (by decide) ?_
                          obtain ⟨t36, q35, hf⟩ := b1_some hf
                          refine sF_callV (idx := 164) (b := 126) (As := [.int 115, .int 117, .int 114, .int 101, .int 0]) (ci := 12) (nn := 47) (pc' := 221) 5 (T_YM_isTyped (G := G) (h := h)  q35) (by decide +kernel) mv_YM_isTyped ml_X12_164 (by decide +kernel) rfl rfl (Nat.le_of_ble_eq_true rfl) SH_126 rfl (by decide) rfl rfl ?_
                          obtain ⟨g37, hf⟩ := gd_some hf
                          obtain rfl := Option.some.inj hf
                          exact sd_zret (by decide +kernel) rfl g37 (hE _)
                        · replace hf := ite_n c1_11 hf
                          have nc1_0 := ne_ti c1_0 (n := 0) (by decide)
                          have nc1_1 := ne_ti c1_1 (n := 1) (by decide)
                          have nc1_2 := ne_ti c1_2 (n := 2) (by decide)
                          have nc1_3 := ne_ti c1_3 (n := 3) (by decide)
                          have nc1_4 := ne_ti c1_4 (n := 4) (by decide)
                          have nc1_5 := ne_ti c1_5 (n := 5) (by decide)
                          have nc1_6 := ne_ti c1_6 (n := 6) (by decide)
                          have nc1_7 := ne_ti c1_7 (n := 7) (by decide)
                          have nc1_8 := ne_ti c1_8 (n := 8) (by decide)
                          have nc1_9 := ne_ti c1_9 (n := 9) (by decide)
                          have nc1_10 := ne_ti c1_10 (n := 10) (by decide)
                          have nc1_11 := ne_ti c1_11 (n := 11) (by decide)
                          refine sd_tswOut (dflt := 221) (lo0 := 0) (hi0 := 11) (offs := #[63, 76, 89, 102, 115, 128, 141, 154, 166, 179, 193, 207]) (len := 63) (tgt := 222) (pc' := 64) (by decide +kernel) (by omega) ?_
                          refine sd_aload_n (k := 0) (i := 0) (q := 0) (pc' := 223) (by decide +kernel) rfl rfl ?_
                          refine sd_bipush (n := 116) (v := 116) (pc' := 225) (by decide +kernel) (by decide) ?_
                          refine sd_bipush (n := 105) (v := 105) (pc' := 227) (by decide +kernel) (by decide) ?_
                          refine sd_bipush (n := 109) (v := 109) (pc' := 229) (by decide +kernel) (by decide) ?_
                          refine sd_bipush (n := 101) (v := 101) (pc' := 231) (by decide +kernel) (by decide) ?_
                          refine sd_bipush (n := 115) (v := 115) (pc' := 233) (by decide +kernel) (by decide) ?_
                          obtain ⟨t39, q38, hf⟩ := b1_some hf
                          refine sF_callV (idx := 164) (b := 126) (As := [.int 116, .int 105, .int 109, .int 101, .int 115]) (ci := 12) (nn := 47) (pc' := 236) 5 (T_YM_isTyped (G := G) (h := h)  q38) (by decide +kernel) mv_YM_isTyped ml_X12_164 (by decide +kernel) rfl rfl (Nat.le_of_ble_eq_true rfl) SH_126 rfl (by decide) rfl rfl ?_
                          obtain ⟨g40, hf⟩ := gd_some hf
                          obtain rfl := Option.some.inj hf
                          exact sd_zret (by decide +kernel) rfl g40 (hE _)

theorem fl_X12_171 : sd_fl RX12 171 12 7 := ⟨sd_mem (i := 1155) (by decide +kernel), by decide, by decide⟩
theorem fl_X12_26 : sd_fl RX12 26 12 8 := ⟨sd_mem (i := 1156) (by decide +kernel), by decide, by decide⟩
theorem fl_X12_29 : sd_fl RX12 29 12 9 := ⟨sd_mem (i := 1157) (by decide +kernel), by decide, by decide⟩
theorem fl_X12_32 : sd_fl RX12 32 12 10 := ⟨sd_mem (i := 1158) (by decide +kernel), by decide, by decide⟩
theorem fl_X12_35 : sd_fl RX12 35 12 11 := ⟨sd_mem (i := 1159) (by decide +kernel), by decide, by decide⟩
theorem fl_X12_38 : sd_fl RX12 38 12 12 := ⟨sd_mem (i := 1160) (by decide +kernel), by decide, by decide⟩
theorem fl_X12_41 : sd_fl RX12 41 12 13 := ⟨sd_mem (i := 1161) (by decide +kernel), by decide, by decide⟩
theorem fl_X12_44 : sd_fl RX12 44 12 14 := ⟨sd_mem (i := 1162) (by decide +kernel), by decide, by decide⟩
theorem fl_X12_47 : sd_fl RX12 47 12 15 := ⟨sd_mem (i := 1163) (by decide +kernel), by decide, by decide⟩
theorem fl_X12_50 : sd_fl RX12 50 12 16 := ⟨sd_mem (i := 1164) (by decide +kernel), by decide, by decide⟩
theorem ml_X12_168 : Cond.methodLink RX12 168 yX12_isName ∈ sd_tb := sd_mem (i := 1360) (by decide +kernel)
theorem mv_YM_isName : sd_mV M_YM_isName 1 := ⟨sd_mem (i := 1362) (by decide +kernel), sd_mem (i := 41) (by decide +kernel), ⟨sd_mem (i := 1363) (by decide +kernel), sd_mem (i := 119) (by decide +kernel), by decide +kernel, by decide +kernel, by decide +kernel⟩⟩
def M_YM_statement : sd_MX := (yX12_statement, cX12_statement, 4, (some .int), { frames := 3, cells := 0, slots := 0, locals := 88 })
def YM_statement_B163 (h : sd_H) (K135 : sd_H → Int32 → Option (sd_H × Int32)) (l3 : Int32) (s0 : Int32) (s1 : Int32) : Option (sd_H × Int32) :=
  gd (sd_inB s1 15) (hb (wI h 137 (s1 : Int32).toNatClampNeg s0) (fun h31 => gd (sd_inB l3 15) (hb (wI h31 138 (l3 : Int32).toNatClampNeg 0) (fun h34 => gd (sd_inB l3 15) (hb (wI h34 139 (l3 : Int32).toNatClampNeg 0) (fun h37 => gd (sd_inB l3 15) (hb (wI h37 140 (l3 : Int32).toNatClampNeg 0) (fun h40 => K135 h40 (l3 + 1)))))))))
set_option maxHeartbeats 4000000 in
set_option maxRecDepth 100000 in
theorem J_YM_statement_B163 {G : sd_GX} {X : sd_CX} (hE : ∀ g : sd_H, sd_end G X M_YM_statement (sd_F g)) {h : sd_H} {K135 : sd_H → Int32 → Option (sd_H × Int32)} {r : (sd_H × Int32)} (hK135 : ∀ (g : sd_H) (l3 : Int32), K135 g l3 = some r → sd_J G X (sd_QR G X M_YM_statement (some (.int r.2), sd_F r.1)) M_YM_statement 135 [(0, .ref (G.1 + 126)), (3, .int l3)] [] (sd_F g)) {l3 : Int32} {s0 : Int32} {s1 : Int32} (hf : YM_statement_B163 h K135 l3 s0 s1 = some r) : sd_J G X (sd_QR G X M_YM_statement (some (.int r.2), sd_F r.1)) M_YM_statement 163 [(0, .ref (G.1 + 126)), (3, .int l3)] [.int s0, .int s1, .ref (G.1 + 137)] (sd_F h) := by
  unfold YM_statement_B163 at hf
  obtain ⟨g30, hf⟩ := gd_some hf
  obtain ⟨h31, e32, hf⟩ := hb_some hf
  refine sF_iast (n := 15) (pc' := 164) (by decide +kernel) SH_137 g30 ?_
  rw [← e32]; clear e32
  refine sd_aload_n (k := 0) (i := 0) (q := 0) (pc' := 165) (by decide +kernel) rfl rfl ?_
  refine sF_gr (idx := 44) (ci := 12) (k := 14) (n := 47) (r := 138) (pc' := 168) (by decide +kernel) fl_X12_44 (by decide +kernel) rfl SH_126 (by decide) (by decide +kernel) ?_
  refine sd_iload_n (k := 3) (i := 3) (q := 1) (pc' := 169) (by decide +kernel) rfl rfl ?_
  refine sd_iconst (n := 0) (v := 0) (pc' := 170) (by decide +kernel) (by decide) ?_
  obtain ⟨g33, hf⟩ := gd_some hf
  obtain ⟨h34, e35, hf⟩ := hb_some hf
  refine sF_iast (n := 15) (pc' := 171) (by decide +kernel) SH_138 g33 ?_
  rw [← e35]; clear e35
  refine sd_aload_n (k := 0) (i := 0) (q := 0) (pc' := 172) (by decide +kernel) rfl rfl ?_
  refine sF_gr (idx := 47) (ci := 12) (k := 15) (n := 47) (r := 139) (pc' := 175) (by decide +kernel) fl_X12_47 (by decide +kernel) rfl SH_126 (by decide) (by decide +kernel) ?_
  refine sd_iload_n (k := 3) (i := 3) (q := 1) (pc' := 176) (by decide +kernel) rfl rfl ?_
  refine sd_iconst (n := 0) (v := 0) (pc' := 177) (by decide +kernel) (by decide) ?_
  obtain ⟨g36, hf⟩ := gd_some hf
  obtain ⟨h37, e38, hf⟩ := hb_some hf
  refine sF_iast (n := 15) (pc' := 178) (by decide +kernel) SH_139 g36 ?_
  rw [← e38]; clear e38
  refine sd_aload_n (k := 0) (i := 0) (q := 0) (pc' := 179) (by decide +kernel) rfl rfl ?_
  refine sF_gr (idx := 50) (ci := 12) (k := 16) (n := 47) (r := 140) (pc' := 182) (by decide +kernel) fl_X12_50 (by decide +kernel) rfl SH_126 (by decide) (by decide +kernel) ?_
  refine sd_iload_n (k := 3) (i := 3) (q := 1) (pc' := 183) (by decide +kernel) rfl rfl ?_
  refine sd_iconst (n := 0) (v := 0) (pc' := 184) (by decide +kernel) (by decide) ?_
  obtain ⟨g39, hf⟩ := gd_some hf
  obtain ⟨h40, e41, hf⟩ := hb_some hf
  refine sF_iast (n := 15) (pc' := 185) (by decide +kernel) SH_140 g39 ?_
  rw [← e41]; clear e41
  refine sd_iinc (i := 3) (q := 1) (n := 1) (v := (l3 + 1)) (pc' := 188) (lo' := [(3, .int (l3 + 1)), (0, .ref (G.1 + 126))]) (by decide +kernel) rfl rfl (by decide) rfl ?_
  refine sd_goto (off := -53) (tgt := 135) (pc' := 191) (by decide +kernel) ?_
  refine sd_J.sub (lo' := [(0, .ref (G.1 + 126)), (3, .int (l3 + 1))]) [1, 0] rfl ?_
  exact hK135 _ _ hf
def YM_statement_L135 : Nat → sd_H → Int32 → Option (sd_H × Int32)
  | 0, _, _ => none
  | n + 1, h, l3 =>
  (if ((3 * (h.1 126 7)) + 3) ≤ l3 then hb (wI h 126 7 ((h.1 126 7) + 1)) (fun h27 => some (h27, ((h27.1 126 7) - 1))) else (if (l3 - l3 / 3 * 3) = 0 then YM_statement_B163 h (YM_statement_L135 n) l3 0 l3 else YM_statement_B163 h (YM_statement_L135 n) l3 (-1) l3))
set_option maxHeartbeats 4000000 in
set_option maxRecDepth 100000 in
theorem J_YM_statement_L135 {G : sd_GX} {X : sd_CX} (hE : ∀ g : sd_H, sd_end G X M_YM_statement (sd_F g))  {r : (sd_H × Int32)} : ∀ (n : Nat) (h : sd_H) (l3 : Int32), YM_statement_L135 n h l3 = some r → sd_J G X (sd_QR G X M_YM_statement (some (.int r.2), sd_F r.1)) M_YM_statement 135 [(0, .ref (G.1 + 126)), (3, .int l3)] [] (sd_F h) := by
  intro n
  induction n with
  | zero =>
    intro h l3 hf
    rw [YM_statement_L135] at hf
    cases hf
  | succ n ih =>
    intro h l3 hf
    rw [YM_statement_L135] at hf
    refine sd_iload_n (k := 3) (i := 3) (q := 1) (pc' := 136) (by decide +kernel) rfl rfl ?_
    refine sd_iconst (n := 3) (v := 3) (pc' := 137) (by decide +kernel) (by decide) ?_
    refine sd_aload_n (k := 0) (i := 0) (q := 0) (pc' := 138) (by decide +kernel) rfl rfl ?_
    refine sF_gi (idx := 171) (ci := 12) (k := 7) (n := 47) (pc' := 141) (by decide +kernel) fl_X12_171 (by decide +kernel) rfl SH_126 ?_
    refine sd_imul (pc' := 142) (by decide +kernel) ?_
    refine sd_iconst (n := 3) (v := 3) (pc' := 143) (by decide +kernel) (by decide) ?_
    refine sd_iadd (pc' := 144) (by decide +kernel) ?_
    refine sd_icmp_ge (off := 47) (tgt := 191) (pc' := 147) (by decide +kernel) (fun c26 => ?_) (fun c26 => ?_)
    · replace hf := ite_p c26 hf
      refine sd_aload_n (k := 0) (i := 0) (q := 0) (pc' := 192) (by decide +kernel) rfl rfl ?_
      refine sd_dup (pc' := 193) (by decide +kernel) rfl ?_
      refine sF_gi (idx := 171) (ci := 12) (k := 7) (n := 47) (pc' := 196) (by decide +kernel) fl_X12_171 (by decide +kernel) rfl SH_126 ?_
      refine sd_iconst (n := 1) (v := 1) (pc' := 197) (by decide +kernel) (by decide) ?_
      refine sd_iadd (pc' := 198) (by decide +kernel) ?_
      obtain ⟨h27, e28, hf⟩ := hb_some hf
      refine sF_pi (idx := 171) (ci := 12) (k := 7) (n := 47) (pc' := 201) (by decide +kernel) fl_X12_171 (by decide +kernel) rfl rfl rfl SH_126 ?_
      rw [← e28]; clear e28
      refine sd_aload_n (k := 0) (i := 0) (q := 0) (pc' := 202) (by decide +kernel) rfl rfl ?_
      refine sF_gi (idx := 171) (ci := 12) (k := 7) (n := 47) (pc' := 205) (by decide +kernel) fl_X12_171 (by decide +kernel) rfl SH_126 ?_
      refine sd_iconst (n := 1) (v := 1) (pc' := 206) (by decide +kernel) (by decide) ?_
      refine sd_isub (pc' := 207) (by decide +kernel) ?_
      obtain rfl := Option.some.inj hf
      exact sd_iret (by decide +kernel) rfl (hE _)
    · replace hf := ite_n c26 hf
      refine sd_aload_n (k := 0) (i := 0) (q := 0) (pc' := 148) (by decide +kernel) rfl rfl ?_
      refine sF_gr (idx := 41) (ci := 12) (k := 13) (n := 47) (r := 137) (pc' := 151) (by decide +kernel) fl_X12_41 (by decide +kernel) rfl SH_126 (by decide) (by decide +kernel) ?_
      refine sd_iload_n (k := 3) (i := 3) (q := 1) (pc' := 152) (by decide +kernel) rfl rfl ?_
      refine sd_iload_n (k := 3) (i := 3) (q := 1) (pc' := 153) (by decide +kernel) rfl rfl ?_
      refine sd_iconst (n := 3) (v := 3) (pc' := 154) (by decide +kernel) (by decide) ?_
      refine sd_irem (pc' := 155) (by decide +kernel) (by decide) ?_
      refine sd_if_ne (off := 7) (tgt := 162) (pc' := 158) (by decide +kernel) (fun c29 => ?_) (fun c29 => ?_)
      · replace hf := ite_n c29 hf
        refine sd_iconst (n := -1) (v := (-1)) (pc' := 163) (by decide +kernel) (by decide) ?_
        refine sd_J.sub (lo' := [(0, .ref (G.1 + 126)), (3, .int l3)]) [0, 1] rfl ?_
        exact J_YM_statement_B163 hE ih hf
      · replace hf := ite_p c29 hf
        refine sd_iconst (n := 0) (v := 0) (pc' := 159) (by decide +kernel) (by decide) ?_
        refine sd_goto (off := 4) (tgt := 163) (pc' := 162) (by decide +kernel) ?_
        refine sd_J.sub (lo' := [(0, .ref (G.1 + 126)), (3, .int l3)]) [0, 1] rfl ?_
        exact J_YM_statement_B163 hE ih hf
def YM_statement_B35 (h : sd_H) (K16 : sd_H → Int32 → Int32 → Int32 → Option (sd_H × Int32)) (l1 : Int32) (l3 : Int32) (s0 : Int32) : Option (sd_H × Int32) :=
  K16 h l1 s0 (l3 + 1)
set_option maxHeartbeats 4000000 in
set_option maxRecDepth 100000 in
theorem J_YM_statement_B35 {G : sd_GX} {X : sd_CX} (hE : ∀ g : sd_H, sd_end G X M_YM_statement (sd_F g)) {h : sd_H} {K16 : sd_H → Int32 → Int32 → Int32 → Option (sd_H × Int32)} {r : (sd_H × Int32)} (hK16 : ∀ (g : sd_H) (l1 : Int32) (l2 : Int32) (l3 : Int32), K16 g l1 l2 l3 = some r → sd_J G X (sd_QR G X M_YM_statement (some (.int r.2), sd_F r.1)) M_YM_statement 16 [(0, .ref (G.1 + 126)), (1, .int l1), (2, .int l2), (3, .int l3)] [] (sd_F g)) {l1 : Int32} {l3 : Int32} {s0 : Int32} (hf : YM_statement_B35 h K16 l1 l3 s0 = some r) : sd_J G X (sd_QR G X M_YM_statement (some (.int r.2), sd_F r.1)) M_YM_statement 35 [(0, .ref (G.1 + 126)), (1, .int l1), (3, .int l3)] [.int s0] (sd_F h) := by
  unfold YM_statement_B35 at hf
  refine sd_istore_n (k := 2) (i := 2) (pc' := 36) (lo' := [(2, .int s0), (0, .ref (G.1 + 126)), (1, .int l1), (3, .int l3)]) (by decide +kernel) rfl (by decide) rfl ?_
  refine sd_iinc (i := 3) (q := 3) (n := 1) (v := (l3 + 1)) (pc' := 39) (lo' := [(3, .int (l3 + 1)), (2, .int s0), (0, .ref (G.1 + 126)), (1, .int l1)]) (by decide +kernel) rfl rfl (by decide) rfl ?_
  refine sd_goto (off := -23) (tgt := 16) (pc' := 42) (by decide +kernel) ?_
  refine sd_J.sub (lo' := [(0, .ref (G.1 + 126)), (1, .int l1), (2, .int s0), (3, .int (l3 + 1))]) [2, 3, 1, 0] rfl ?_
  exact hK16 _ _ _ _ hf
def YM_statement_L16 : Nat → sd_H → Int32 → Int32 → Int32 → Option (sd_H × Int32)
  | 0, _, _, _, _ => none
  | n + 1, h, l1, l2, l3 =>
  (if 13 ≤ l3 then (if l2 = (-1) then some (h, (-3)) else (if (h.1 126 7) = 5 then some (h, (-4)) else hb (wI h 126 20 0) (fun h7 => b1 (YM_logs h7 1 (h7.1 126 7) 0 0 0) (fun h10 => gd (sd_inB (h10.1 126 7) 5) (hb (wI h10 132 ((h10.1 126 7) : Int32).toNatClampNeg l2) (fun h12 => gd (sd_inB (h12.1 126 7) 5) (hb (wI h12 133 ((h12.1 126 7) : Int32).toNatClampNeg l1) (fun h15 => gd (sd_inB (h15.1 126 7) 5) (hb (wI h15 134 ((h15.1 126 7) : Int32).toNatClampNeg 1) (fun h18 => gd (sd_inB (h18.1 126 7) 5) (hb (wI h18 135 ((h18.1 126 7) : Int32).toNatClampNeg 0) (fun h21 => gd (sd_inB (h21.1 126 7) 5) (hb (wI h21 136 ((h21.1 126 7) : Int32).toNatClampNeg (-1)) (fun h24 => YM_statement_L135 FU h24 (3 * (h24.1 126 7)))))))))))))))) else b1 (YM_isName h l3) (fun t43 => (if t43 = 0 then YM_statement_B35 h (YM_statement_L16 n) l1 l3 l2 else YM_statement_B35 h (YM_statement_L16 n) l1 l3 l3)))
set_option maxHeartbeats 4000000 in
set_option maxRecDepth 100000 in
theorem J_YM_statement_L16 {G : sd_GX} {X : sd_CX} (hE : ∀ g : sd_H, sd_end G X M_YM_statement (sd_F g))  {r : (sd_H × Int32)} : ∀ (n : Nat) (h : sd_H) (l1 : Int32) (l2 : Int32) (l3 : Int32), YM_statement_L16 n h l1 l2 l3 = some r → sd_J G X (sd_QR G X M_YM_statement (some (.int r.2), sd_F r.1)) M_YM_statement 16 [(0, .ref (G.1 + 126)), (1, .int l1), (2, .int l2), (3, .int l3)] [] (sd_F h) := by
  intro n
  induction n with
  | zero =>
    intro h l1 l2 l3 hf
    rw [YM_statement_L16] at hf
    cases hf
  | succ n ih =>
    intro h l1 l2 l3 hf
    rw [YM_statement_L16] at hf
    refine sd_iload_n (k := 3) (i := 3) (q := 3) (pc' := 17) (by decide +kernel) rfl rfl ?_
    refine sd_bipush (n := 13) (v := 13) (pc' := 19) (by decide +kernel) (by decide) ?_
    refine sd_icmp_ge (off := 23) (tgt := 42) (pc' := 22) (by decide +kernel) (fun c4 => ?_) (fun c4 => ?_)
    · replace hf := ite_p c4 hf
      refine sd_iload_n (k := 2) (i := 2) (q := 2) (pc' := 43) (by decide +kernel) rfl rfl ?_
      refine sd_iconst (n := -1) (v := (-1)) (pc' := 44) (by decide +kernel) (by decide) ?_
      refine sd_icmp_ne (off := 6) (tgt := 50) (pc' := 47) (by decide +kernel) (fun c5 => ?_) (fun c5 => ?_)
      · replace hf := ite_n c5 hf
        refine sd_aload_n (k := 0) (i := 0) (q := 0) (pc' := 51) (by decide +kernel) rfl rfl ?_
        refine sF_gi (idx := 171) (ci := 12) (k := 7) (n := 47) (pc' := 54) (by decide +kernel) fl_X12_171 (by decide +kernel) rfl SH_126 ?_
        refine sd_iconst (n := 5) (v := 5) (pc' := 55) (by decide +kernel) (by decide) ?_
        refine sd_icmp_ne (off := 6) (tgt := 61) (pc' := 58) (by decide +kernel) (fun c6 => ?_) (fun c6 => ?_)
        · replace hf := ite_n c6 hf
          refine sd_aload_n (k := 0) (i := 0) (q := 0) (pc' := 62) (by decide +kernel) rfl rfl ?_
          refine sd_iconst (n := 0) (v := 0) (pc' := 63) (by decide +kernel) (by decide) ?_
          obtain ⟨h7, e8, hf⟩ := hb_some hf
          refine sF_pi (idx := 161) (ci := 12) (k := 20) (n := 47) (pc' := 66) (by decide +kernel) fl_X12_161 (by decide +kernel) rfl rfl rfl SH_126 ?_
          rw [← e8]; clear e8
          refine sd_aload_n (k := 0) (i := 0) (q := 0) (pc' := 67) (by decide +kernel) rfl rfl ?_
          refine sd_iconst (n := 1) (v := 1) (pc' := 68) (by decide +kernel) (by decide) ?_
          refine sd_aload_n (k := 0) (i := 0) (q := 0) (pc' := 69) (by decide +kernel) rfl rfl ?_
          refine sF_gi (idx := 171) (ci := 12) (k := 7) (n := 47) (pc' := 72) (by decide +kernel) fl_X12_171 (by decide +kernel) rfl SH_126 ?_
          refine sd_iconst (n := 0) (v := 0) (pc' := 73) (by decide +kernel) (by decide) ?_
          refine sd_iconst (n := 0) (v := 0) (pc' := 74) (by decide +kernel) (by decide) ?_
          refine sd_iconst (n := 0) (v := 0) (pc' := 75) (by decide +kernel) (by decide) ?_
          obtain ⟨h10, q9, hf⟩ := b1_some hf
          refine sF_callV0 (idx := 157) (b := 126) (As := [.int 1, .int (h7.1 126 7), .int 0, .int 0, .int 0]) (ci := 12) (nn := 47) (pc' := 78) 5 (T_YM_logs (G := G) (h := h7)  q9) (by decide +kernel) mv_YM_logs ml_X12_157 (by decide +kernel) rfl rfl (Nat.le_of_ble_eq_true rfl) SH_126 rfl (by decide) rfl rfl ?_
          refine sd_aload_n (k := 0) (i := 0) (q := 0) (pc' := 79) (by decide +kernel) rfl rfl ?_
          refine sF_gr (idx := 26) (ci := 12) (k := 8) (n := 47) (r := 132) (pc' := 82) (by decide +kernel) fl_X12_26 (by decide +kernel) rfl SH_126 (by decide) (by decide +kernel) ?_
          refine sd_aload_n (k := 0) (i := 0) (q := 0) (pc' := 83) (by decide +kernel) rfl rfl ?_
          refine sF_gi (idx := 171) (ci := 12) (k := 7) (n := 47) (pc' := 86) (by decide +kernel) fl_X12_171 (by decide +kernel) rfl SH_126 ?_
          refine sd_iload_n (k := 2) (i := 2) (q := 2) (pc' := 87) (by decide +kernel) rfl rfl ?_
          obtain ⟨g11, hf⟩ := gd_some hf
          obtain ⟨h12, e13, hf⟩ := hb_some hf
          refine sF_iast (n := 5) (pc' := 88) (by decide +kernel) SH_132 g11 ?_
          rw [← e13]; clear e13
          refine sd_aload_n (k := 0) (i := 0) (q := 0) (pc' := 89) (by decide +kernel) rfl rfl ?_
          refine sF_gr (idx := 29) (ci := 12) (k := 9) (n := 47) (r := 133) (pc' := 92) (by decide +kernel) fl_X12_29 (by decide +kernel) rfl SH_126 (by decide) (by decide +kernel) ?_
          refine sd_aload_n (k := 0) (i := 0) (q := 0) (pc' := 93) (by decide +kernel) rfl rfl ?_
          refine sF_gi (idx := 171) (ci := 12) (k := 7) (n := 47) (pc' := 96) (by decide +kernel) fl_X12_171 (by decide +kernel) rfl SH_126 ?_
          refine sd_iload_n (k := 1) (i := 1) (q := 1) (pc' := 97) (by decide +kernel) rfl rfl ?_
          obtain ⟨g14, hf⟩ := gd_some hf
          obtain ⟨h15, e16, hf⟩ := hb_some hf
          refine sF_iast (n := 5) (pc' := 98) (by decide +kernel) SH_133 g14 ?_
          rw [← e16]; clear e16
          refine sd_aload_n (k := 0) (i := 0) (q := 0) (pc' := 99) (by decide +kernel) rfl rfl ?_
          refine sF_gr (idx := 32) (ci := 12) (k := 10) (n := 47) (r := 134) (pc' := 102) (by decide +kernel) fl_X12_32 (by decide +kernel) rfl SH_126 (by decide) (by decide +kernel) ?_
          refine sd_aload_n (k := 0) (i := 0) (q := 0) (pc' := 103) (by decide +kernel) rfl rfl ?_
          refine sF_gi (idx := 171) (ci := 12) (k := 7) (n := 47) (pc' := 106) (by decide +kernel) fl_X12_171 (by decide +kernel) rfl SH_126 ?_
          refine sd_iconst (n := 1) (v := 1) (pc' := 107) (by decide +kernel) (by decide) ?_
          obtain ⟨g17, hf⟩ := gd_some hf
          obtain ⟨h18, e19, hf⟩ := hb_some hf
          refine sF_iast (n := 5) (pc' := 108) (by decide +kernel) SH_134 g17 ?_
          rw [← e19]; clear e19
          refine sd_aload_n (k := 0) (i := 0) (q := 0) (pc' := 109) (by decide +kernel) rfl rfl ?_
          refine sF_gr (idx := 35) (ci := 12) (k := 11) (n := 47) (r := 135) (pc' := 112) (by decide +kernel) fl_X12_35 (by decide +kernel) rfl SH_126 (by decide) (by decide +kernel) ?_
          refine sd_aload_n (k := 0) (i := 0) (q := 0) (pc' := 113) (by decide +kernel) rfl rfl ?_
          refine sF_gi (idx := 171) (ci := 12) (k := 7) (n := 47) (pc' := 116) (by decide +kernel) fl_X12_171 (by decide +kernel) rfl SH_126 ?_
          refine sd_iconst (n := 0) (v := 0) (pc' := 117) (by decide +kernel) (by decide) ?_
          obtain ⟨g20, hf⟩ := gd_some hf
          obtain ⟨h21, e22, hf⟩ := hb_some hf
          refine sF_iast (n := 5) (pc' := 118) (by decide +kernel) SH_135 g20 ?_
          rw [← e22]; clear e22
          refine sd_aload_n (k := 0) (i := 0) (q := 0) (pc' := 119) (by decide +kernel) rfl rfl ?_
          refine sF_gr (idx := 38) (ci := 12) (k := 12) (n := 47) (r := 136) (pc' := 122) (by decide +kernel) fl_X12_38 (by decide +kernel) rfl SH_126 (by decide) (by decide +kernel) ?_
          refine sd_aload_n (k := 0) (i := 0) (q := 0) (pc' := 123) (by decide +kernel) rfl rfl ?_
          refine sF_gi (idx := 171) (ci := 12) (k := 7) (n := 47) (pc' := 126) (by decide +kernel) fl_X12_171 (by decide +kernel) rfl SH_126 ?_
          refine sd_iconst (n := -1) (v := (-1)) (pc' := 127) (by decide +kernel) (by decide) ?_
          obtain ⟨g23, hf⟩ := gd_some hf
          obtain ⟨h24, e25, hf⟩ := hb_some hf
          refine sF_iast (n := 5) (pc' := 128) (by decide +kernel) SH_136 g23 ?_
          rw [← e25]; clear e25
          refine sd_iconst (n := 3) (v := 3) (pc' := 129) (by decide +kernel) (by decide) ?_
          refine sd_aload_n (k := 0) (i := 0) (q := 0) (pc' := 130) (by decide +kernel) rfl rfl ?_
          refine sF_gi (idx := 171) (ci := 12) (k := 7) (n := 47) (pc' := 133) (by decide +kernel) fl_X12_171 (by decide +kernel) rfl SH_126 ?_
          refine sd_imul (pc' := 134) (by decide +kernel) ?_
          refine sd_istore_n (k := 3) (i := 3) (pc' := 135) (lo' := [(3, .int (3 * (h24.1 126 7))), (0, .ref (G.1 + 126)), (1, .int l1), (2, .int l2)]) (by decide +kernel) rfl (by decide) rfl ?_
          refine sd_J.sub (lo' := [(0, .ref (G.1 + 126)), (3, .int (3 * (h24.1 126 7)))]) [1, 0] rfl ?_
          exact J_YM_statement_L135 hE _ _ _ hf
        · replace hf := ite_p c6 hf
          refine sd_bipush (n := -4) (v := (-4)) (pc' := 60) (by decide +kernel) (by decide) ?_
          obtain rfl := Option.some.inj hf
          exact sd_iret (by decide +kernel) rfl (hE _)
      · replace hf := ite_p c5 hf
        refine sd_bipush (n := -3) (v := (-3)) (pc' := 49) (by decide +kernel) (by decide) ?_
        obtain rfl := Option.some.inj hf
        exact sd_iret (by decide +kernel) rfl (hE _)
    · replace hf := ite_n c4 hf
      refine sd_aload_n (k := 0) (i := 0) (q := 0) (pc' := 23) (by decide +kernel) rfl rfl ?_
      refine sd_iload_n (k := 3) (i := 3) (q := 3) (pc' := 24) (by decide +kernel) rfl rfl ?_
      obtain ⟨t43, q42, hf⟩ := b1_some hf
      refine sF_callV (idx := 168) (b := 126) (As := [.int l3]) (ci := 12) (nn := 47) (pc' := 27) 1 (T_YM_isName (G := G) (h := h)  q42) (by decide +kernel) mv_YM_isName ml_X12_168 (by decide +kernel) rfl rfl (Nat.le_of_ble_eq_true rfl) SH_126 rfl (by decide) rfl rfl ?_
      refine sd_if_eq (off := 7) (tgt := 34) (pc' := 30) (by decide +kernel) (fun c44 => ?_) (fun c44 => ?_)
      · replace hf := ite_p c44 hf
        refine sd_iload_n (k := 2) (i := 2) (q := 2) (pc' := 35) (by decide +kernel) rfl rfl ?_
        refine sd_J.sub (lo' := [(0, .ref (G.1 + 126)), (1, .int l1), (3, .int l3)]) [0, 1, 3] rfl ?_
        exact J_YM_statement_B35 hE ih hf
      · replace hf := ite_n c44 hf
        refine sd_iload_n (k := 3) (i := 3) (q := 3) (pc' := 31) (by decide +kernel) rfl rfl ?_
        refine sd_goto (off := 4) (tgt := 35) (pc' := 34) (by decide +kernel) ?_
        refine sd_J.sub (lo' := [(0, .ref (G.1 + 126)), (1, .int l1), (3, .int l3)]) [0, 1, 3] rfl ?_
        exact J_YM_statement_B35 hE ih hf
def YM_statement (h : sd_H) (a0 : Int32) : Option (sd_H × Int32) :=
  b1 (YM_in a0 1 5) (fun t2 => (if t2 = 0 then some (h, (-2)) else YM_statement_L16 FU h a0 (-1) 0))
set_option maxHeartbeats 4000000 in
set_option maxRecDepth 100000 in
theorem T_YM_statement {G : sd_GX} {h : sd_H} {a0 : Int32} {r : (sd_H × Int32)} (hf : YM_statement h a0 = some r) : sd_RunF G M_YM_statement [.ref (G.1 + 126), .int a0] h (some (.int r.2)) r.1 := by
  refine sF_run ⟨rfl, rfl⟩ (by decide +kernel) (Nat.le_of_ble_eq_true rfl) (lo := [(0, .ref (G.1 + 126)), (1, .int a0)]) rfl (fun X hE => ?_)
  unfold YM_statement at hf
  refine sd_iload_n (k := 1) (i := 1) (q := 1) (pc' := 1) (by decide +kernel) rfl rfl ?_
  refine sd_iconst (n := 1) (v := 1) (pc' := 2) (by decide +kernel) (by decide) ?_
  refine sd_iconst (n := 5) (v := 5) (pc' := 3) (by decide +kernel) (by decide) ?_
  obtain ⟨t2, q1, hf⟩ := b1_some hf
  refine sF_callS (idx := 114) (As := [.int a0, .int 1, .int 5]) (pc' := 6) 3 (T_YM_in (G := G) (h := h)  q1) (by decide +kernel) mv_YM_in ml_X12_114 (by decide +kernel) rfl rfl (Nat.le_of_ble_eq_true rfl) rfl ?_
  refine sd_if_ne (off := 6) (tgt := 12) (pc' := 9) (by decide +kernel) (fun c3 => ?_) (fun c3 => ?_)
  · replace hf := ite_n c3 hf
    refine sd_iconst (n := -1) (v := (-1)) (pc' := 13) (by decide +kernel) (by decide) ?_
    refine sd_istore_n (k := 2) (i := 2) (pc' := 14) (lo' := [(2, .int (-1)), (0, .ref (G.1 + 126)), (1, .int a0)]) (by decide +kernel) rfl (by decide) rfl ?_
    refine sd_iconst (n := 0) (v := 0) (pc' := 15) (by decide +kernel) (by decide) ?_
    refine sd_istore_n (k := 3) (i := 3) (pc' := 16) (lo' := [(3, .int 0), (2, .int (-1)), (0, .ref (G.1 + 126)), (1, .int a0)]) (by decide +kernel) rfl (by decide) rfl ?_
    refine sd_J.sub (lo' := [(0, .ref (G.1 + 126)), (1, .int a0), (2, .int (-1)), (3, .int 0)]) [2, 3, 1, 0] rfl ?_
    exact J_YM_statement_L16 hE _ _ _ _ _ hf
  · replace hf := ite_p c3 hf
    refine sd_bipush (n := -2) (v := (-2)) (pc' := 11) (by decide +kernel) (by decide) ?_
    obtain rfl := Option.some.inj hf
    exact sd_iret (by decide +kernel) rfl (hE _)

def M_YM_isStatement : sd_MX := (yX12_isStatement, cX12_isStatement, 2, (some .boolean), { frames := 2, cells := 0, slots := 0, locals := 62 })
def YM_isStatement (h : sd_H) (a0 : Int32) : Option Int32 :=
  b1 (YM_in a0 0 ((h.1 126 7) - 1)) (fun t2 => gd (sd_isB t2) (some t2))
set_option maxHeartbeats 4000000 in
set_option maxRecDepth 100000 in
theorem T_YM_isStatement {G : sd_GX} {h : sd_H} {a0 : Int32} {r : Int32} (hf : YM_isStatement h a0 = some r) : sd_RunF G M_YM_isStatement [.ref (G.1 + 126), .int a0] h (some (.int r)) h := by
  refine sF_run ⟨rfl, rfl⟩ (by decide +kernel) (Nat.le_of_ble_eq_true rfl) (lo := [(0, .ref (G.1 + 126)), (1, .int a0)]) rfl (fun X hE => ?_)
  unfold YM_isStatement at hf
  refine sd_iload_n (k := 1) (i := 1) (q := 1) (pc' := 1) (by decide +kernel) rfl rfl ?_
  refine sd_iconst (n := 0) (v := 0) (pc' := 2) (by decide +kernel) (by decide) ?_
  refine sd_aload_n (k := 0) (i := 0) (q := 0) (pc' := 3) (by decide +kernel) rfl rfl ?_
  refine sF_gi (idx := 171) (ci := 12) (k := 7) (n := 47) (pc' := 6) (by decide +kernel) fl_X12_171 (by decide +kernel) rfl SH_126 ?_
  refine sd_iconst (n := 1) (v := 1) (pc' := 7) (by decide +kernel) (by decide) ?_
  refine sd_isub (pc' := 8) (by decide +kernel) ?_
  obtain ⟨t2, q1, hf⟩ := b1_some hf
  refine sF_callS (idx := 114) (As := [.int a0, .int 0, .int ((h.1 126 7) - 1)]) (pc' := 11) 3 (T_YM_in (G := G) (h := h)  q1) (by decide +kernel) mv_YM_in ml_X12_114 (by decide +kernel) rfl rfl (Nat.le_of_ble_eq_true rfl) rfl ?_
  obtain ⟨g3, hf⟩ := gd_some hf
  obtain rfl := Option.some.inj hf
  exact sd_zret (by decide +kernel) rfl g3 (hE _)

theorem ml_X12_174 : Cond.methodLink RX12 174 yX12_isStatement ∈ sd_tb := sd_mem (i := 1372) (by decide +kernel)
theorem mv_YM_isStatement : sd_mV M_YM_isStatement 1 := ⟨sd_mem (i := 1374) (by decide +kernel), sd_mem (i := 43) (by decide +kernel), ⟨sd_mem (i := 1375) (by decide +kernel), sd_mem (i := 119) (by decide +kernel), by decide +kernel, by decide +kernel, by decide +kernel⟩⟩
def M_YM_refer : sd_MX := (yX12_refer, cX12_refer, 5, (some .int), { frames := 3, cells := 0, slots := 0, locals := 83 })
def YM_refer_B27 (h : sd_H) (l1 : Int32) (l2 : Int32) (l3 : Int32) (s0 : Int32) (s1 : Int32) : Option (sd_H × Int32) :=
  b1 (YM_in s1 s0 5) (fun t9 => (if t9 = 0 then some (h, (-2)) else gd (sd_inB ((3 * l1) + l2) 15) (b1 (YM_logs h 2 ((3 * l1) + l2) (h.1 137 (((3 * l1) + l2) : Int32).toNatClampNeg) 0 0) (fun h13 => gd (sd_inB ((3 * l1) + l2) 15) (hb (wI h13 137 (((3 * l1) + l2) : Int32).toNatClampNeg l3) (fun h15 => some (h15, (h.1 137 (((3 * l1) + l2) : Int32).toNatClampNeg))))))))
set_option maxHeartbeats 4000000 in
set_option maxRecDepth 100000 in
theorem J_YM_refer_B27 {G : sd_GX} {X : sd_CX} (hE : ∀ g : sd_H, sd_end G X M_YM_refer (sd_F g)) {h : sd_H} {r : (sd_H × Int32)} {l1 : Int32} {l2 : Int32} {l3 : Int32} {s0 : Int32} {s1 : Int32} (hf : YM_refer_B27 h l1 l2 l3 s0 s1 = some r) : sd_J G X (sd_QR G X M_YM_refer (some (.int r.2), sd_F r.1)) M_YM_refer 27 [(0, .ref (G.1 + 126)), (1, .int l1), (2, .int l2), (3, .int l3)] [.int s0, .int s1] (sd_F h) := by
  unfold YM_refer_B27 at hf
  refine sd_iconst (n := 5) (v := 5) (pc' := 28) (by decide +kernel) (by decide) ?_
  obtain ⟨t9, q8, hf⟩ := b1_some hf
  refine sF_callS (idx := 114) (As := [.int s1, .int s0, .int 5]) (pc' := 31) 3 (T_YM_in (G := G) (h := h)  q8) (by decide +kernel) mv_YM_in ml_X12_114 (by decide +kernel) rfl rfl (Nat.le_of_ble_eq_true rfl) rfl ?_
  refine sd_if_ne (off := 6) (tgt := 37) (pc' := 34) (by decide +kernel) (fun c10 => ?_) (fun c10 => ?_)
  · replace hf := ite_n c10 hf
    refine sd_aload_n (k := 0) (i := 0) (q := 0) (pc' := 38) (by decide +kernel) rfl rfl ?_
    refine sF_gr (idx := 41) (ci := 12) (k := 13) (n := 47) (r := 137) (pc' := 41) (by decide +kernel) fl_X12_41 (by decide +kernel) rfl SH_126 (by decide) (by decide +kernel) ?_
    refine sd_iconst (n := 3) (v := 3) (pc' := 42) (by decide +kernel) (by decide) ?_
    refine sd_iload_n (k := 1) (i := 1) (q := 1) (pc' := 43) (by decide +kernel) rfl rfl ?_
    refine sd_imul (pc' := 44) (by decide +kernel) ?_
    refine sd_iload_n (k := 2) (i := 2) (q := 2) (pc' := 45) (by decide +kernel) rfl rfl ?_
    refine sd_iadd (pc' := 46) (by decide +kernel) ?_
    obtain ⟨g11, hf⟩ := gd_some hf
    refine sF_iald (n := 15) (pc' := 47) (by decide +kernel) SH_137 g11 ?_
    refine sd_istore (i := 4) (pc' := 49) (lo' := [(4, .int (h.1 137 (((3 * l1) + l2) : Int32).toNatClampNeg)), (0, .ref (G.1 + 126)), (1, .int l1), (2, .int l2), (3, .int l3)]) (by decide +kernel) (by decide) rfl ?_
    refine sd_aload_n (k := 0) (i := 0) (q := 1) (pc' := 50) (by decide +kernel) rfl rfl ?_
    refine sd_iconst (n := 2) (v := 2) (pc' := 51) (by decide +kernel) (by decide) ?_
    refine sd_iconst (n := 3) (v := 3) (pc' := 52) (by decide +kernel) (by decide) ?_
    refine sd_iload_n (k := 1) (i := 1) (q := 2) (pc' := 53) (by decide +kernel) rfl rfl ?_
    refine sd_imul (pc' := 54) (by decide +kernel) ?_
    refine sd_iload_n (k := 2) (i := 2) (q := 3) (pc' := 55) (by decide +kernel) rfl rfl ?_
    refine sd_iadd (pc' := 56) (by decide +kernel) ?_
    refine sd_iload (i := 4) (q := 0) (pc' := 58) (by decide +kernel) rfl ?_
    refine sd_iconst (n := 0) (v := 0) (pc' := 59) (by decide +kernel) (by decide) ?_
    refine sd_iconst (n := 0) (v := 0) (pc' := 60) (by decide +kernel) (by decide) ?_
    obtain ⟨h13, q12, hf⟩ := b1_some hf
    refine sF_callV0 (idx := 157) (b := 126) (As := [.int 2, .int ((3 * l1) + l2), .int (h.1 137 (((3 * l1) + l2) : Int32).toNatClampNeg), .int 0, .int 0]) (ci := 12) (nn := 47) (pc' := 63) 5 (T_YM_logs (G := G) (h := h)  q12) (by decide +kernel) mv_YM_logs ml_X12_157 (by decide +kernel) rfl rfl (Nat.le_of_ble_eq_true rfl) SH_126 rfl (by decide) rfl rfl ?_
    refine sd_aload_n (k := 0) (i := 0) (q := 1) (pc' := 64) (by decide +kernel) rfl rfl ?_
    refine sF_gr (idx := 41) (ci := 12) (k := 13) (n := 47) (r := 137) (pc' := 67) (by decide +kernel) fl_X12_41 (by decide +kernel) rfl SH_126 (by decide) (by decide +kernel) ?_
    refine sd_iconst (n := 3) (v := 3) (pc' := 68) (by decide +kernel) (by decide) ?_
    refine sd_iload_n (k := 1) (i := 1) (q := 2) (pc' := 69) (by decide +kernel) rfl rfl ?_
    refine sd_imul (pc' := 70) (by decide +kernel) ?_
    refine sd_iload_n (k := 2) (i := 2) (q := 3) (pc' := 71) (by decide +kernel) rfl rfl ?_
    refine sd_iadd (pc' := 72) (by decide +kernel) ?_
    refine sd_iload_n (k := 3) (i := 3) (q := 4) (pc' := 73) (by decide +kernel) rfl rfl ?_
    obtain ⟨g14, hf⟩ := gd_some hf
    obtain ⟨h15, e16, hf⟩ := hb_some hf
    refine sF_iast (n := 15) (pc' := 74) (by decide +kernel) SH_137 g14 ?_
    rw [← e16]; clear e16
    refine sd_iload (i := 4) (q := 0) (pc' := 76) (by decide +kernel) rfl ?_
    obtain rfl := Option.some.inj hf
    exact sd_iret (by decide +kernel) rfl (hE _)
  · replace hf := ite_p c10 hf
    refine sd_bipush (n := -2) (v := (-2)) (pc' := 36) (by decide +kernel) (by decide) ?_
    obtain rfl := Option.some.inj hf
    exact sd_iret (by decide +kernel) rfl (hE _)
def YM_refer (h : sd_H) (a0 : Int32) (a1 : Int32) (a2 : Int32) : Option (sd_H × Int32) :=
  b1 (YM_isStatement h a0) (fun t2 => (if t2 = 0 then some (h, (-2)) else b1 (YM_in a1 0 2) (fun t5 => (if t5 = 0 then some (h, (-2)) else (if a1 = 0 then YM_refer_B27 h a0 a1 a2 0 a2 else YM_refer_B27 h a0 a1 a2 (-1) a2)))))
set_option maxHeartbeats 4000000 in
set_option maxRecDepth 100000 in
theorem T_YM_refer {G : sd_GX} {h : sd_H} {a0 : Int32} {a1 : Int32} {a2 : Int32} {r : (sd_H × Int32)} (hf : YM_refer h a0 a1 a2 = some r) : sd_RunF G M_YM_refer [.ref (G.1 + 126), .int a0, .int a1, .int a2] h (some (.int r.2)) r.1 := by
  refine sF_run ⟨rfl, rfl⟩ (by decide +kernel) (Nat.le_of_ble_eq_true rfl) (lo := [(0, .ref (G.1 + 126)), (1, .int a0), (2, .int a1), (3, .int a2)]) rfl (fun X hE => ?_)
  unfold YM_refer at hf
  refine sd_aload_n (k := 0) (i := 0) (q := 0) (pc' := 1) (by decide +kernel) rfl rfl ?_
  refine sd_iload_n (k := 1) (i := 1) (q := 1) (pc' := 2) (by decide +kernel) rfl rfl ?_
  obtain ⟨t2, q1, hf⟩ := b1_some hf
  refine sF_callV (idx := 174) (b := 126) (As := [.int a0]) (ci := 12) (nn := 47) (pc' := 5) 1 (T_YM_isStatement (G := G) (h := h)  q1) (by decide +kernel) mv_YM_isStatement ml_X12_174 (by decide +kernel) rfl rfl (Nat.le_of_ble_eq_true rfl) SH_126 rfl (by decide) rfl rfl ?_
  refine sd_if_eq (off := 29) (tgt := 34) (pc' := 8) (by decide +kernel) (fun c3 => ?_) (fun c3 => ?_)
  · replace hf := ite_p c3 hf
    refine sd_bipush (n := -2) (v := (-2)) (pc' := 36) (by decide +kernel) (by decide) ?_
    obtain rfl := Option.some.inj hf
    exact sd_iret (by decide +kernel) rfl (hE _)
  · replace hf := ite_n c3 hf
    refine sd_iload_n (k := 2) (i := 2) (q := 2) (pc' := 9) (by decide +kernel) rfl rfl ?_
    refine sd_iconst (n := 0) (v := 0) (pc' := 10) (by decide +kernel) (by decide) ?_
    refine sd_iconst (n := 2) (v := 2) (pc' := 11) (by decide +kernel) (by decide) ?_
    obtain ⟨t5, q4, hf⟩ := b1_some hf
    refine sF_callS (idx := 114) (As := [.int a1, .int 0, .int 2]) (pc' := 14) 3 (T_YM_in (G := G) (h := h)  q4) (by decide +kernel) mv_YM_in ml_X12_114 (by decide +kernel) rfl rfl (Nat.le_of_ble_eq_true rfl) rfl ?_
    refine sd_if_eq (off := 20) (tgt := 34) (pc' := 17) (by decide +kernel) (fun c6 => ?_) (fun c6 => ?_)
    · replace hf := ite_p c6 hf
      refine sd_bipush (n := -2) (v := (-2)) (pc' := 36) (by decide +kernel) (by decide) ?_
      obtain rfl := Option.some.inj hf
      exact sd_iret (by decide +kernel) rfl (hE _)
    · replace hf := ite_n c6 hf
      refine sd_iload_n (k := 3) (i := 3) (q := 3) (pc' := 18) (by decide +kernel) rfl rfl ?_
      refine sd_iload_n (k := 2) (i := 2) (q := 2) (pc' := 19) (by decide +kernel) rfl rfl ?_
      refine sd_if_ne (off := 7) (tgt := 26) (pc' := 22) (by decide +kernel) (fun c7 => ?_) (fun c7 => ?_)
      · replace hf := ite_n c7 hf
        refine sd_iconst (n := -1) (v := (-1)) (pc' := 27) (by decide +kernel) (by decide) ?_
        refine sd_J.sub (lo' := [(0, .ref (G.1 + 126)), (1, .int a0), (2, .int a1), (3, .int a2)]) [0, 1, 2, 3] rfl ?_
        exact J_YM_refer_B27 hE hf
      · replace hf := ite_p c7 hf
        refine sd_iconst (n := 0) (v := 0) (pc' := 23) (by decide +kernel) (by decide) ?_
        refine sd_goto (off := 4) (tgt := 27) (pc' := 26) (by decide +kernel) ?_
        refine sd_J.sub (lo' := [(0, .ref (G.1 + 126)), (1, .int a0), (2, .int a1), (3, .int a2)]) [0, 1, 2, 3] rfl ?_
        exact J_YM_refer_B27 hE hf

def M_YM_place : sd_MX := (yX12_place, cX12_place, 7, (some .int), { frames := 3, cells := 0, slots := 0, locals := 83 })
def YM_place (h : sd_H) (a0 : Int32) (a1 : Int32) (a2 : Int32) (a3 : Int32) (a4 : Int32) : Option (sd_H × Int32) :=
  b1 (YM_isStatement h a0) (fun t2 => (if t2 = 0 then some (h, (-2)) else b1 (YM_in a1 0 2) (fun t5 => (if t5 = 0 then some (h, (-2)) else b1 (YM_in a2 (-60) 60) (fun t8 => (if t8 = 0 then some (h, (-2)) else b1 (YM_in a3 (-6) 6) (fun t11 => (if t11 = 0 then some (h, (-2)) else b1 (YM_in a4 (-6) 6) (fun t14 => (if t14 = 0 then some (h, (-2)) else gd (sd_inB ((3 * a0) + a1) 15) (gd (sd_inB ((3 * a0) + a1) 15) (gd (sd_inB ((3 * a0) + a1) 15) (b1 (YM_logs h 3 ((3 * a0) + a1) (h.1 138 (((3 * a0) + a1) : Int32).toNatClampNeg) (h.1 139 (((3 * a0) + a1) : Int32).toNatClampNeg) (h.1 140 (((3 * a0) + a1) : Int32).toNatClampNeg)) (fun h20 => gd (sd_inB ((3 * a0) + a1) 15) (hb (wI h20 138 (((3 * a0) + a1) : Int32).toNatClampNeg a2) (fun h22 => gd (sd_inB ((3 * a0) + a1) 15) (hb (wI h22 139 (((3 * a0) + a1) : Int32).toNatClampNeg a3) (fun h25 => gd (sd_inB ((3 * a0) + a1) 15) (hb (wI h25 140 (((3 * a0) + a1) : Int32).toNatClampNeg a4) (fun h28 => some (h28, 1)))))))))))))))))))))
set_option maxHeartbeats 4000000 in
set_option maxRecDepth 100000 in
theorem T_YM_place {G : sd_GX} {h : sd_H} {a0 : Int32} {a1 : Int32} {a2 : Int32} {a3 : Int32} {a4 : Int32} {r : (sd_H × Int32)} (hf : YM_place h a0 a1 a2 a3 a4 = some r) : sd_RunF G M_YM_place [.ref (G.1 + 126), .int a0, .int a1, .int a2, .int a3, .int a4] h (some (.int r.2)) r.1 := by
  refine sF_run ⟨rfl, rfl⟩ (by decide +kernel) (Nat.le_of_ble_eq_true rfl) (lo := [(0, .ref (G.1 + 126)), (1, .int a0), (2, .int a1), (3, .int a2), (4, .int a3), (5, .int a4)]) rfl (fun X hE => ?_)
  unfold YM_place at hf
  refine sd_aload_n (k := 0) (i := 0) (q := 0) (pc' := 1) (by decide +kernel) rfl rfl ?_
  refine sd_iload_n (k := 1) (i := 1) (q := 1) (pc' := 2) (by decide +kernel) rfl rfl ?_
  obtain ⟨t2, q1, hf⟩ := b1_some hf
  refine sF_callV (idx := 174) (b := 126) (As := [.int a0]) (ci := 12) (nn := 47) (pc' := 5) 1 (T_YM_isStatement (G := G) (h := h)  q1) (by decide +kernel) mv_YM_isStatement ml_X12_174 (by decide +kernel) rfl rfl (Nat.le_of_ble_eq_true rfl) SH_126 rfl (by decide) rfl rfl ?_
  refine sd_if_eq (off := 47) (tgt := 52) (pc' := 8) (by decide +kernel) (fun c3 => ?_) (fun c3 => ?_)
  · replace hf := ite_p c3 hf
    refine sd_bipush (n := -2) (v := (-2)) (pc' := 54) (by decide +kernel) (by decide) ?_
    obtain rfl := Option.some.inj hf
    exact sd_iret (by decide +kernel) rfl (hE _)
  · replace hf := ite_n c3 hf
    refine sd_iload_n (k := 2) (i := 2) (q := 2) (pc' := 9) (by decide +kernel) rfl rfl ?_
    refine sd_iconst (n := 0) (v := 0) (pc' := 10) (by decide +kernel) (by decide) ?_
    refine sd_iconst (n := 2) (v := 2) (pc' := 11) (by decide +kernel) (by decide) ?_
    obtain ⟨t5, q4, hf⟩ := b1_some hf
    refine sF_callS (idx := 114) (As := [.int a1, .int 0, .int 2]) (pc' := 14) 3 (T_YM_in (G := G) (h := h)  q4) (by decide +kernel) mv_YM_in ml_X12_114 (by decide +kernel) rfl rfl (Nat.le_of_ble_eq_true rfl) rfl ?_
    refine sd_if_eq (off := 38) (tgt := 52) (pc' := 17) (by decide +kernel) (fun c6 => ?_) (fun c6 => ?_)
    · replace hf := ite_p c6 hf
      refine sd_bipush (n := -2) (v := (-2)) (pc' := 54) (by decide +kernel) (by decide) ?_
      obtain rfl := Option.some.inj hf
      exact sd_iret (by decide +kernel) rfl (hE _)
    · replace hf := ite_n c6 hf
      refine sd_iload_n (k := 3) (i := 3) (q := 3) (pc' := 18) (by decide +kernel) rfl rfl ?_
      refine sd_bipush (n := -60) (v := (-60)) (pc' := 20) (by decide +kernel) (by decide) ?_
      refine sd_bipush (n := 60) (v := 60) (pc' := 22) (by decide +kernel) (by decide) ?_
      obtain ⟨t8, q7, hf⟩ := b1_some hf
      refine sF_callS (idx := 114) (As := [.int a2, .int (-60), .int 60]) (pc' := 25) 3 (T_YM_in (G := G) (h := h)  q7) (by decide +kernel) mv_YM_in ml_X12_114 (by decide +kernel) rfl rfl (Nat.le_of_ble_eq_true rfl) rfl ?_
      refine sd_if_eq (off := 27) (tgt := 52) (pc' := 28) (by decide +kernel) (fun c9 => ?_) (fun c9 => ?_)
      · replace hf := ite_p c9 hf
        refine sd_bipush (n := -2) (v := (-2)) (pc' := 54) (by decide +kernel) (by decide) ?_
        obtain rfl := Option.some.inj hf
        exact sd_iret (by decide +kernel) rfl (hE _)
      · replace hf := ite_n c9 hf
        refine sd_iload (i := 4) (q := 4) (pc' := 30) (by decide +kernel) rfl ?_
        refine sd_bipush (n := -6) (v := (-6)) (pc' := 32) (by decide +kernel) (by decide) ?_
        refine sd_bipush (n := 6) (v := 6) (pc' := 34) (by decide +kernel) (by decide) ?_
        obtain ⟨t11, q10, hf⟩ := b1_some hf
        refine sF_callS (idx := 114) (As := [.int a3, .int (-6), .int 6]) (pc' := 37) 3 (T_YM_in (G := G) (h := h)  q10) (by decide +kernel) mv_YM_in ml_X12_114 (by decide +kernel) rfl rfl (Nat.le_of_ble_eq_true rfl) rfl ?_
        refine sd_if_eq (off := 15) (tgt := 52) (pc' := 40) (by decide +kernel) (fun c12 => ?_) (fun c12 => ?_)
        · replace hf := ite_p c12 hf
          refine sd_bipush (n := -2) (v := (-2)) (pc' := 54) (by decide +kernel) (by decide) ?_
          obtain rfl := Option.some.inj hf
          exact sd_iret (by decide +kernel) rfl (hE _)
        · replace hf := ite_n c12 hf
          refine sd_iload (i := 5) (q := 5) (pc' := 42) (by decide +kernel) rfl ?_
          refine sd_bipush (n := -6) (v := (-6)) (pc' := 44) (by decide +kernel) (by decide) ?_
          refine sd_bipush (n := 6) (v := 6) (pc' := 46) (by decide +kernel) (by decide) ?_
          obtain ⟨t14, q13, hf⟩ := b1_some hf
          refine sF_callS (idx := 114) (As := [.int a4, .int (-6), .int 6]) (pc' := 49) 3 (T_YM_in (G := G) (h := h)  q13) (by decide +kernel) mv_YM_in ml_X12_114 (by decide +kernel) rfl rfl (Nat.le_of_ble_eq_true rfl) rfl ?_
          refine sd_if_ne (off := 6) (tgt := 55) (pc' := 52) (by decide +kernel) (fun c15 => ?_) (fun c15 => ?_)
          · replace hf := ite_n c15 hf
            refine sd_iconst (n := 3) (v := 3) (pc' := 56) (by decide +kernel) (by decide) ?_
            refine sd_iload_n (k := 1) (i := 1) (q := 1) (pc' := 57) (by decide +kernel) rfl rfl ?_
            refine sd_imul (pc' := 58) (by decide +kernel) ?_
            refine sd_iload_n (k := 2) (i := 2) (q := 2) (pc' := 59) (by decide +kernel) rfl rfl ?_
            refine sd_iadd (pc' := 60) (by decide +kernel) ?_
            refine sd_istore (i := 6) (pc' := 62) (lo' := [(6, .int ((3 * a0) + a1)), (0, .ref (G.1 + 126)), (1, .int a0), (2, .int a1), (3, .int a2), (4, .int a3), (5, .int a4)]) (by decide +kernel) (by decide) rfl ?_
            refine sd_aload_n (k := 0) (i := 0) (q := 1) (pc' := 63) (by decide +kernel) rfl rfl ?_
            refine sd_iconst (n := 3) (v := 3) (pc' := 64) (by decide +kernel) (by decide) ?_
            refine sd_iload (i := 6) (q := 0) (pc' := 66) (by decide +kernel) rfl ?_
            refine sd_aload_n (k := 0) (i := 0) (q := 1) (pc' := 67) (by decide +kernel) rfl rfl ?_
            refine sF_gr (idx := 44) (ci := 12) (k := 14) (n := 47) (r := 138) (pc' := 70) (by decide +kernel) fl_X12_44 (by decide +kernel) rfl SH_126 (by decide) (by decide +kernel) ?_
            refine sd_iload (i := 6) (q := 0) (pc' := 72) (by decide +kernel) rfl ?_
            obtain ⟨g16, hf⟩ := gd_some hf
            refine sF_iald (n := 15) (pc' := 73) (by decide +kernel) SH_138 g16 ?_
            refine sd_aload_n (k := 0) (i := 0) (q := 1) (pc' := 74) (by decide +kernel) rfl rfl ?_
            refine sF_gr (idx := 47) (ci := 12) (k := 15) (n := 47) (r := 139) (pc' := 77) (by decide +kernel) fl_X12_47 (by decide +kernel) rfl SH_126 (by decide) (by decide +kernel) ?_
            refine sd_iload (i := 6) (q := 0) (pc' := 79) (by decide +kernel) rfl ?_
            obtain ⟨g17, hf⟩ := gd_some hf
            refine sF_iald (n := 15) (pc' := 80) (by decide +kernel) SH_139 g17 ?_
            refine sd_aload_n (k := 0) (i := 0) (q := 1) (pc' := 81) (by decide +kernel) rfl rfl ?_
            refine sF_gr (idx := 50) (ci := 12) (k := 16) (n := 47) (r := 140) (pc' := 84) (by decide +kernel) fl_X12_50 (by decide +kernel) rfl SH_126 (by decide) (by decide +kernel) ?_
            refine sd_iload (i := 6) (q := 0) (pc' := 86) (by decide +kernel) rfl ?_
            obtain ⟨g18, hf⟩ := gd_some hf
            refine sF_iald (n := 15) (pc' := 87) (by decide +kernel) SH_140 g18 ?_
            obtain ⟨h20, q19, hf⟩ := b1_some hf
            refine sF_callV0 (idx := 157) (b := 126) (As := [.int 3, .int ((3 * a0) + a1), .int (h.1 138 (((3 * a0) + a1) : Int32).toNatClampNeg), .int (h.1 139 (((3 * a0) + a1) : Int32).toNatClampNeg), .int (h.1 140 (((3 * a0) + a1) : Int32).toNatClampNeg)]) (ci := 12) (nn := 47) (pc' := 90) 5 (T_YM_logs (G := G) (h := h)  q19) (by decide +kernel) mv_YM_logs ml_X12_157 (by decide +kernel) rfl rfl (Nat.le_of_ble_eq_true rfl) SH_126 rfl (by decide) rfl rfl ?_
            refine sd_aload_n (k := 0) (i := 0) (q := 1) (pc' := 91) (by decide +kernel) rfl rfl ?_
            refine sF_gr (idx := 44) (ci := 12) (k := 14) (n := 47) (r := 138) (pc' := 94) (by decide +kernel) fl_X12_44 (by decide +kernel) rfl SH_126 (by decide) (by decide +kernel) ?_
            refine sd_iload (i := 6) (q := 0) (pc' := 96) (by decide +kernel) rfl ?_
            refine sd_iload_n (k := 3) (i := 3) (q := 4) (pc' := 97) (by decide +kernel) rfl rfl ?_
            obtain ⟨g21, hf⟩ := gd_some hf
            obtain ⟨h22, e23, hf⟩ := hb_some hf
            refine sF_iast (n := 15) (pc' := 98) (by decide +kernel) SH_138 g21 ?_
            rw [← e23]; clear e23
            refine sd_aload_n (k := 0) (i := 0) (q := 1) (pc' := 99) (by decide +kernel) rfl rfl ?_
            refine sF_gr (idx := 47) (ci := 12) (k := 15) (n := 47) (r := 139) (pc' := 102) (by decide +kernel) fl_X12_47 (by decide +kernel) rfl SH_126 (by decide) (by decide +kernel) ?_
            refine sd_iload (i := 6) (q := 0) (pc' := 104) (by decide +kernel) rfl ?_
            refine sd_iload (i := 4) (q := 5) (pc' := 106) (by decide +kernel) rfl ?_
            obtain ⟨g24, hf⟩ := gd_some hf
            obtain ⟨h25, e26, hf⟩ := hb_some hf
            refine sF_iast (n := 15) (pc' := 107) (by decide +kernel) SH_139 g24 ?_
            rw [← e26]; clear e26
            refine sd_aload_n (k := 0) (i := 0) (q := 1) (pc' := 108) (by decide +kernel) rfl rfl ?_
            refine sF_gr (idx := 50) (ci := 12) (k := 16) (n := 47) (r := 140) (pc' := 111) (by decide +kernel) fl_X12_50 (by decide +kernel) rfl SH_126 (by decide) (by decide +kernel) ?_
            refine sd_iload (i := 6) (q := 0) (pc' := 113) (by decide +kernel) rfl ?_
            refine sd_iload (i := 5) (q := 6) (pc' := 115) (by decide +kernel) rfl ?_
            obtain ⟨g27, hf⟩ := gd_some hf
            obtain ⟨h28, e29, hf⟩ := hb_some hf
            refine sF_iast (n := 15) (pc' := 116) (by decide +kernel) SH_140 g27 ?_
            rw [← e29]; clear e29
            refine sd_iconst (n := 1) (v := 1) (pc' := 117) (by decide +kernel) (by decide) ?_
            obtain rfl := Option.some.inj hf
            exact sd_iret (by decide +kernel) rfl (hE _)
          · replace hf := ite_p c15 hf
            refine sd_bipush (n := -2) (v := (-2)) (pc' := 54) (by decide +kernel) (by decide) ?_
            obtain rfl := Option.some.inj hf
            exact sd_iret (by decide +kernel) rfl (hE _)
