def M_YM_isSection : sd_MX := (yX12_isSection, cX12_isSection, 3, (some .boolean), { frames := 2, cells := 0, slots := 0, locals := 62 })
def YM_isSection (h : sd_H) (a0 : Int32) (a1 : Int32) : Option Int32 :=
  b1 (YM_in a0 0 ((3 * (h.1 126 7)) - 1)) (fun t2 => (if t2 = 0 then some 0 else b1 (YM_in a1 0 ((h.1 126 6) - 1)) (fun t5 => (if t5 = 0 then some 0 else gd (sd_inB a0 15) ((if (h.1 137 (a0 : Int32).toNatClampNeg) = (-1) then some 0 else some 1))))))
set_option maxHeartbeats 4000000 in
set_option maxRecDepth 100000 in
theorem T_YM_isSection {G : sd_GX} {h : sd_H} {a0 : Int32} {a1 : Int32} {r : Int32} (hf : YM_isSection h a0 a1 = some r) : sd_RunF G M_YM_isSection [.ref (G.1 + 126), .int a0, .int a1] h (some (.int r)) h := by
  refine sF_run ⟨rfl, rfl⟩ (by decide +kernel) (Nat.le_of_ble_eq_true rfl) (lo := [(0, .ref (G.1 + 126)), (1, .int a0), (2, .int a1)]) rfl (fun X hE => ?_)
  unfold YM_isSection at hf
  refine sd_iload_n (k := 1) (i := 1) (q := 1) (pc' := 1) (by decide +kernel) rfl rfl ?_
  refine sd_iconst (n := 0) (v := 0) (pc' := 2) (by decide +kernel) (by decide) ?_
  refine sd_iconst (n := 3) (v := 3) (pc' := 3) (by decide +kernel) (by decide) ?_
  refine sd_aload_n (k := 0) (i := 0) (q := 0) (pc' := 4) (by decide +kernel) rfl rfl ?_
  refine sF_gi (idx := 171) (ci := 12) (k := 7) (n := 47) (pc' := 7) (by decide +kernel) fl_X12_171 (by decide +kernel) rfl SH_126 ?_
  refine sd_imul (pc' := 8) (by decide +kernel) ?_
  refine sd_iconst (n := 1) (v := 1) (pc' := 9) (by decide +kernel) (by decide) ?_
  refine sd_isub (pc' := 10) (by decide +kernel) ?_
  obtain ⟨t2, q1, hf⟩ := b1_some hf
  refine sF_callS (idx := 114) (As := [.int a0, .int 0, .int ((3 * (h.1 126 7)) - 1)]) (pc' := 13) 3 (T_YM_in (G := G) (h := h)  q1) (by decide +kernel) mv_YM_in ml_X12_114 (by decide +kernel) rfl rfl (Nat.le_of_ble_eq_true rfl) rfl ?_
  refine sd_if_eq (off := 31) (tgt := 44) (pc' := 16) (by decide +kernel) (fun c3 => ?_) (fun c3 => ?_)
  · replace hf := ite_p c3 hf
    refine sd_iconst (n := 0) (v := 0) (pc' := 45) (by decide +kernel) (by decide) ?_
    obtain rfl := Option.some.inj hf
    exact sd_zret (by decide +kernel) rfl rfl (hE _)
  · replace hf := ite_n c3 hf
    refine sd_iload_n (k := 2) (i := 2) (q := 2) (pc' := 17) (by decide +kernel) rfl rfl ?_
    refine sd_iconst (n := 0) (v := 0) (pc' := 18) (by decide +kernel) (by decide) ?_
    refine sd_aload_n (k := 0) (i := 0) (q := 0) (pc' := 19) (by decide +kernel) rfl rfl ?_
    refine sF_gi (idx := 154) (ci := 12) (k := 6) (n := 47) (pc' := 22) (by decide +kernel) fl_X12_154 (by decide +kernel) rfl SH_126 ?_
    refine sd_iconst (n := 1) (v := 1) (pc' := 23) (by decide +kernel) (by decide) ?_
    refine sd_isub (pc' := 24) (by decide +kernel) ?_
    obtain ⟨t5, q4, hf⟩ := b1_some hf
    refine sF_callS (idx := 114) (As := [.int a1, .int 0, .int ((h.1 126 6) - 1)]) (pc' := 27) 3 (T_YM_in (G := G) (h := h)  q4) (by decide +kernel) mv_YM_in ml_X12_114 (by decide +kernel) rfl rfl (Nat.le_of_ble_eq_true rfl) rfl ?_
    refine sd_if_eq (off := 17) (tgt := 44) (pc' := 30) (by decide +kernel) (fun c6 => ?_) (fun c6 => ?_)
    · replace hf := ite_p c6 hf
      refine sd_iconst (n := 0) (v := 0) (pc' := 45) (by decide +kernel) (by decide) ?_
      obtain rfl := Option.some.inj hf
      exact sd_zret (by decide +kernel) rfl rfl (hE _)
    · replace hf := ite_n c6 hf
      refine sd_aload_n (k := 0) (i := 0) (q := 0) (pc' := 31) (by decide +kernel) rfl rfl ?_
      refine sF_gr (idx := 41) (ci := 12) (k := 13) (n := 47) (r := 137) (pc' := 34) (by decide +kernel) fl_X12_41 (by decide +kernel) rfl SH_126 (by decide) (by decide +kernel) ?_
      refine sd_iload_n (k := 1) (i := 1) (q := 1) (pc' := 35) (by decide +kernel) rfl rfl ?_
      obtain ⟨g7, hf⟩ := gd_some hf
      refine sF_iald (n := 15) (pc' := 36) (by decide +kernel) SH_137 g7 ?_
      refine sd_iconst (n := -1) (v := (-1)) (pc' := 37) (by decide +kernel) (by decide) ?_
      refine sd_icmp_eq (off := 7) (tgt := 44) (pc' := 40) (by decide +kernel) (fun c8 => ?_) (fun c8 => ?_)
      · replace hf := ite_p c8 hf
        refine sd_iconst (n := 0) (v := 0) (pc' := 45) (by decide +kernel) (by decide) ?_
        obtain rfl := Option.some.inj hf
        exact sd_zret (by decide +kernel) rfl rfl (hE _)
      · replace hf := ite_n c8 hf
        refine sd_iconst (n := 1) (v := 1) (pc' := 41) (by decide +kernel) (by decide) ?_
        refine sd_goto (off := 4) (tgt := 45) (pc' := 44) (by decide +kernel) ?_
        obtain rfl := Option.some.inj hf
        exact sd_zret (by decide +kernel) rfl rfl (hE _)

theorem ml_X12_212 : Cond.methodLink RX12 212 yX12_isSection ∈ sd_tb := sd_mem (i := 1431) (by decide +kernel)
theorem mv_YM_isSection : sd_mV M_YM_isSection 2 := ⟨sd_mem (i := 1433) (by decide +kernel), sd_mem (i := 50) (by decide +kernel), ⟨sd_mem (i := 1434) (by decide +kernel), sd_mem (i := 119) (by decide +kernel), by decide +kernel, by decide +kernel, by decide +kernel⟩⟩
theorem ml_X12_215 : Cond.methodLink RX12 215 yX12_sectionOf ∈ sd_tb := sd_mem (i := 1435) (by decide +kernel)
theorem mv_YM_sectionOf : sd_mV M_YM_sectionOf 3 := ⟨sd_mem (i := 1437) (by decide +kernel), sd_mem (i := 51) (by decide +kernel), ⟨sd_mem (i := 1438) (by decide +kernel), sd_mem (i := 119) (by decide +kernel), by decide +kernel, by decide +kernel, by decide +kernel⟩⟩
def M_YM_section : sd_MX := (yX12_section, cX12_section, 4, (some .int), { frames := 4, cells := 0, slots := 0, locals := 110 })
def YM_section (h : sd_H) (a0 : Int32) (a1 : Int32) (a2 : Int32) : Option Int32 :=
  b1 (YM_isSection h a0 a1) (fun t2 => (if t2 = 0 then some (-2147483648) else b1 (YM_in a2 0 2) (fun t5 => (if t5 = 0 then some (-2147483648) else b1 (YM_sectionOf h a0 a1 a2) (fun t8 => some t8)))))
set_option maxHeartbeats 4000000 in
set_option maxRecDepth 100000 in
theorem T_YM_section {G : sd_GX} {h : sd_H} {a0 : Int32} {a1 : Int32} {a2 : Int32} {r : Int32} (hf : YM_section h a0 a1 a2 = some r) : sd_RunF G M_YM_section [.ref (G.1 + 126), .int a0, .int a1, .int a2] h (some (.int r)) h := by
  refine sF_run ⟨rfl, rfl⟩ (by decide +kernel) (Nat.le_of_ble_eq_true rfl) (lo := [(0, .ref (G.1 + 126)), (1, .int a0), (2, .int a1), (3, .int a2)]) rfl (fun X hE => ?_)
  unfold YM_section at hf
  refine sd_aload_n (k := 0) (i := 0) (q := 0) (pc' := 1) (by decide +kernel) rfl rfl ?_
  refine sd_iload_n (k := 1) (i := 1) (q := 1) (pc' := 2) (by decide +kernel) rfl rfl ?_
  refine sd_iload_n (k := 2) (i := 2) (q := 2) (pc' := 3) (by decide +kernel) rfl rfl ?_
  obtain ⟨t2, q1, hf⟩ := b1_some hf
  refine sF_callV (idx := 212) (b := 126) (As := [.int a0, .int a1]) (ci := 12) (nn := 47) (pc' := 6) 2 (T_YM_isSection (G := G) (h := h)  q1) (by decide +kernel) mv_YM_isSection ml_X12_212 (by decide +kernel) rfl rfl (Nat.le_of_ble_eq_true rfl) SH_126 rfl (by decide) rfl rfl ?_
  refine sd_if_eq (off := 22) (tgt := 28) (pc' := 9) (by decide +kernel) (fun c3 => ?_) (fun c3 => ?_)
  · replace hf := ite_p c3 hf
    refine sd_ldc (idx := 139) (v := (-2147483648)) (pc' := 30) (by decide +kernel) (sd_mem (i := 1335) (by decide +kernel)) ?_
    obtain rfl := Option.some.inj hf
    exact sd_iret (by decide +kernel) rfl (hE _)
  · replace hf := ite_n c3 hf
    refine sd_iload_n (k := 3) (i := 3) (q := 3) (pc' := 10) (by decide +kernel) rfl rfl ?_
    refine sd_iconst (n := 0) (v := 0) (pc' := 11) (by decide +kernel) (by decide) ?_
    refine sd_iconst (n := 2) (v := 2) (pc' := 12) (by decide +kernel) (by decide) ?_
    obtain ⟨t5, q4, hf⟩ := b1_some hf
    refine sF_callS (idx := 114) (As := [.int a2, .int 0, .int 2]) (pc' := 15) 3 (T_YM_in (G := G) (h := h)  q4) (by decide +kernel) mv_YM_in ml_X12_114 (by decide +kernel) rfl rfl (Nat.le_of_ble_eq_true rfl) rfl ?_
    refine sd_if_eq (off := 13) (tgt := 28) (pc' := 18) (by decide +kernel) (fun c6 => ?_) (fun c6 => ?_)
    · replace hf := ite_p c6 hf
      refine sd_ldc (idx := 139) (v := (-2147483648)) (pc' := 30) (by decide +kernel) (sd_mem (i := 1335) (by decide +kernel)) ?_
      obtain rfl := Option.some.inj hf
      exact sd_iret (by decide +kernel) rfl (hE _)
    · replace hf := ite_n c6 hf
      refine sd_aload_n (k := 0) (i := 0) (q := 0) (pc' := 19) (by decide +kernel) rfl rfl ?_
      refine sd_iload_n (k := 1) (i := 1) (q := 1) (pc' := 20) (by decide +kernel) rfl rfl ?_
      refine sd_iload_n (k := 2) (i := 2) (q := 2) (pc' := 21) (by decide +kernel) rfl rfl ?_
      refine sd_iload_n (k := 3) (i := 3) (q := 3) (pc' := 22) (by decide +kernel) rfl rfl ?_
      obtain ⟨t8, q7, hf⟩ := b1_some hf
      refine sF_callV (idx := 215) (b := 126) (As := [.int a0, .int a1, .int a2]) (ci := 12) (nn := 47) (pc' := 25) 3 (T_YM_sectionOf (G := G) (h := h)  q7) (by decide +kernel) mv_YM_sectionOf ml_X12_215 (by decide +kernel) rfl rfl (Nat.le_of_ble_eq_true rfl) SH_126 rfl (by decide) rfl rfl ?_
      refine sd_goto (off := 5) (tgt := 30) (pc' := 28) (by decide +kernel) ?_
      obtain rfl := Option.some.inj hf
      exact sd_iret (by decide +kernel) rfl (hE _)

def M_YM_hasPlace : sd_MX := (yX12_hasPlace, cX12_hasPlace, 6, (some .boolean), { frames := 2, cells := 0, slots := 0, locals := 63 })
def YM_hasPlace_B41 (h : sd_H) (K6 : Int32 → Int32 → Int32 → Int32 → Int32 → Option Int32) (l1 : Int32) (l2 : Int32) (l3 : Int32) (l5 : Int32) (s0 : Int32) : Option Int32 :=
  K6 l1 l2 l3 s0 (l5 + 1)
set_option maxHeartbeats 4000000 in
set_option maxRecDepth 100000 in
theorem J_YM_hasPlace_B41 {G : sd_GX} {X : sd_CX} (hE : ∀ g : sd_H, sd_end G X M_YM_hasPlace (sd_F g)) {h : sd_H} {K6 : Int32 → Int32 → Int32 → Int32 → Int32 → Option Int32} {r : Int32} (hK6 : ∀ (l1 : Int32) (l2 : Int32) (l3 : Int32) (l4 : Int32) (l5 : Int32), K6 l1 l2 l3 l4 l5 = some r → sd_J G X (sd_QR G X M_YM_hasPlace (some (.int r), sd_F h)) M_YM_hasPlace 6 [(0, .ref (G.1 + 126)), (1, .int l1), (2, .int l2), (3, .int l3), (4, .int l4), (5, .int l5)] [] (sd_F h)) {l1 : Int32} {l2 : Int32} {l3 : Int32} {l5 : Int32} {s0 : Int32} (hf : YM_hasPlace_B41 h K6 l1 l2 l3 l5 s0 = some r) : sd_J G X (sd_QR G X M_YM_hasPlace (some (.int r), sd_F h)) M_YM_hasPlace 41 [(0, .ref (G.1 + 126)), (1, .int l1), (2, .int l2), (3, .int l3), (5, .int l5)] [.int s0] (sd_F h) := by
  unfold YM_hasPlace_B41 at hf
  refine sd_istore (i := 4) (pc' := 43) (lo' := [(4, .int s0), (0, .ref (G.1 + 126)), (1, .int l1), (2, .int l2), (3, .int l3), (5, .int l5)]) (by decide +kernel) (by decide) rfl ?_
  refine sd_iinc (i := 5) (q := 5) (n := 1) (v := (l5 + 1)) (pc' := 46) (lo' := [(5, .int (l5 + 1)), (4, .int s0), (0, .ref (G.1 + 126)), (1, .int l1), (2, .int l2), (3, .int l3)]) (by decide +kernel) rfl rfl (by decide) rfl ?_
  refine sd_goto (off := -40) (tgt := 6) (pc' := 49) (by decide +kernel) ?_
  refine sd_J.sub (lo' := [(0, .ref (G.1 + 126)), (1, .int l1), (2, .int l2), (3, .int l3), (4, .int s0), (5, .int (l5 + 1))]) [2, 3, 4, 5, 1, 0] rfl ?_
  exact hK6 _ _ _ _ _ hf
def YM_hasPlace_B36 (h : sd_H) (K6 : Int32 → Int32 → Int32 → Int32 → Int32 → Option Int32) (l1 : Int32) (l2 : Int32) (l3 : Int32) (l5 : Int32) : Option Int32 :=
  YM_hasPlace_B41 h K6 l1 l2 l3 l5 1
set_option maxHeartbeats 4000000 in
set_option maxRecDepth 100000 in
theorem J_YM_hasPlace_B36 {G : sd_GX} {X : sd_CX} (hE : ∀ g : sd_H, sd_end G X M_YM_hasPlace (sd_F g)) {h : sd_H} {K6 : Int32 → Int32 → Int32 → Int32 → Int32 → Option Int32} {r : Int32} (hK6 : ∀ (l1 : Int32) (l2 : Int32) (l3 : Int32) (l4 : Int32) (l5 : Int32), K6 l1 l2 l3 l4 l5 = some r → sd_J G X (sd_QR G X M_YM_hasPlace (some (.int r), sd_F h)) M_YM_hasPlace 6 [(0, .ref (G.1 + 126)), (1, .int l1), (2, .int l2), (3, .int l3), (4, .int l4), (5, .int l5)] [] (sd_F h)) {l1 : Int32} {l2 : Int32} {l3 : Int32} {l5 : Int32} (hf : YM_hasPlace_B36 h K6 l1 l2 l3 l5 = some r) : sd_J G X (sd_QR G X M_YM_hasPlace (some (.int r), sd_F h)) M_YM_hasPlace 36 [(0, .ref (G.1 + 126)), (1, .int l1), (2, .int l2), (3, .int l3), (5, .int l5)] [] (sd_F h) := by
  unfold YM_hasPlace_B36 at hf
  refine sd_iconst (n := 1) (v := 1) (pc' := 37) (by decide +kernel) (by decide) ?_
  refine sd_goto (off := 4) (tgt := 41) (pc' := 40) (by decide +kernel) ?_
  refine sd_J.sub (lo' := [(0, .ref (G.1 + 126)), (1, .int l1), (2, .int l2), (3, .int l3), (5, .int l5)]) [0, 1, 2, 3, 4] rfl ?_
  exact J_YM_hasPlace_B41 hE hK6 hf
def YM_hasPlace_L6 (h : sd_H) : Nat → Int32 → Int32 → Int32 → Int32 → Int32 → Option Int32
  | 0, _, _, _, _, _ => none
  | n + 1, l1, l2, l3, l4, l5 =>
  gd (sd_inB (l1 / 3) 5) ((if (h.1 133 ((l1 / 3) : Int32).toNatClampNeg) ≤ l5 then gd (sd_isB l4) (some l4) else (if l4 = 0 then b1 (YM_placeOf h l1 l2 l5) (fun t6 => (if t6 = l3 then YM_hasPlace_B36 h (YM_hasPlace_L6 h n) l1 l2 l3 l5 else YM_hasPlace_B41 h (YM_hasPlace_L6 h n) l1 l2 l3 l5 0)) else YM_hasPlace_B36 h (YM_hasPlace_L6 h n) l1 l2 l3 l5)))
set_option maxHeartbeats 4000000 in
set_option maxRecDepth 100000 in
theorem J_YM_hasPlace_L6 {G : sd_GX} {X : sd_CX} (hE : ∀ g : sd_H, sd_end G X M_YM_hasPlace (sd_F g)) {h : sd_H} {r : Int32} : ∀ (n : Nat) (l1 : Int32) (l2 : Int32) (l3 : Int32) (l4 : Int32) (l5 : Int32), YM_hasPlace_L6 h n l1 l2 l3 l4 l5 = some r → sd_J G X (sd_QR G X M_YM_hasPlace (some (.int r), sd_F h)) M_YM_hasPlace 6 [(0, .ref (G.1 + 126)), (1, .int l1), (2, .int l2), (3, .int l3), (4, .int l4), (5, .int l5)] [] (sd_F h) := by
  intro n
  induction n with
  | zero =>
    intro l1 l2 l3 l4 l5 hf
    rw [YM_hasPlace_L6] at hf
    cases hf
  | succ n ih =>
    intro l1 l2 l3 l4 l5 hf
    rw [YM_hasPlace_L6] at hf
    refine sd_iload (i := 5) (q := 5) (pc' := 8) (by decide +kernel) rfl ?_
    refine sd_aload_n (k := 0) (i := 0) (q := 0) (pc' := 9) (by decide +kernel) rfl rfl ?_
    refine sF_gr (idx := 29) (ci := 12) (k := 9) (n := 47) (r := 133) (pc' := 12) (by decide +kernel) fl_X12_29 (by decide +kernel) rfl SH_126 (by decide) (by decide +kernel) ?_
    refine sd_iload_n (k := 1) (i := 1) (q := 1) (pc' := 13) (by decide +kernel) rfl rfl ?_
    refine sd_iconst (n := 3) (v := 3) (pc' := 14) (by decide +kernel) (by decide) ?_
    refine sd_idiv (pc' := 15) (by decide +kernel) (by decide) ?_
    obtain ⟨g1, hf⟩ := gd_some hf
    refine sF_iald (n := 5) (pc' := 16) (by decide +kernel) SH_133 g1 ?_
    refine sd_icmp_ge (off := 33) (tgt := 49) (pc' := 19) (by decide +kernel) (fun c2 => ?_) (fun c2 => ?_)
    · replace hf := ite_p c2 hf
      refine sd_iload (i := 4) (q := 4) (pc' := 51) (by decide +kernel) rfl ?_
      obtain ⟨g3, hf⟩ := gd_some hf
      obtain rfl := Option.some.inj hf
      exact sd_zret (by decide +kernel) rfl g3 (hE _)
    · replace hf := ite_n c2 hf
      refine sd_iload (i := 4) (q := 4) (pc' := 21) (by decide +kernel) rfl ?_
      refine sd_if_ne (off := 15) (tgt := 36) (pc' := 24) (by decide +kernel) (fun c4 => ?_) (fun c4 => ?_)
      · replace hf := ite_n c4 hf
        refine sd_J.sub (lo' := [(0, .ref (G.1 + 126)), (1, .int l1), (2, .int l2), (3, .int l3), (5, .int l5)]) [0, 1, 2, 3, 5] rfl ?_
        exact J_YM_hasPlace_B36 hE ih hf
      · replace hf := ite_p c4 hf
        refine sd_aload_n (k := 0) (i := 0) (q := 0) (pc' := 25) (by decide +kernel) rfl rfl ?_
        refine sd_iload_n (k := 1) (i := 1) (q := 1) (pc' := 26) (by decide +kernel) rfl rfl ?_
        refine sd_iload_n (k := 2) (i := 2) (q := 2) (pc' := 27) (by decide +kernel) rfl rfl ?_
        refine sd_iload (i := 5) (q := 5) (pc' := 29) (by decide +kernel) rfl ?_
        obtain ⟨t6, q5, hf⟩ := b1_some hf
        refine sF_callV (idx := 200) (b := 126) (As := [.int l1, .int l2, .int l5]) (ci := 12) (nn := 47) (pc' := 32) 3 (T_YM_placeOf (G := G) (h := h)  q5) (by decide +kernel) mv_YM_placeOf ml_X12_200 (by decide +kernel) rfl rfl (Nat.le_of_ble_eq_true rfl) SH_126 rfl (by decide) rfl rfl ?_
        refine sd_iload_n (k := 3) (i := 3) (q := 3) (pc' := 33) (by decide +kernel) rfl rfl ?_
        refine sd_icmp_ne (off := 7) (tgt := 40) (pc' := 36) (by decide +kernel) (fun c7 => ?_) (fun c7 => ?_)
        · replace hf := ite_n c7 hf
          refine sd_iconst (n := 0) (v := 0) (pc' := 41) (by decide +kernel) (by decide) ?_
          refine sd_J.sub (lo' := [(0, .ref (G.1 + 126)), (1, .int l1), (2, .int l2), (3, .int l3), (5, .int l5)]) [0, 1, 2, 3, 5] rfl ?_
          exact J_YM_hasPlace_B41 hE ih hf
        · replace hf := ite_p c7 hf
          refine sd_J.sub (lo' := [(0, .ref (G.1 + 126)), (1, .int l1), (2, .int l2), (3, .int l3), (5, .int l5)]) [0, 1, 2, 3, 5] rfl ?_
          exact J_YM_hasPlace_B36 hE ih hf
def YM_hasPlace (h : sd_H) (a0 : Int32) (a1 : Int32) (a2 : Int32) : Option Int32 :=
  YM_hasPlace_L6 h FU a0 a1 a2 0 0
set_option maxHeartbeats 4000000 in
set_option maxRecDepth 100000 in
theorem T_YM_hasPlace {G : sd_GX} {h : sd_H} {a0 : Int32} {a1 : Int32} {a2 : Int32} {r : Int32} (hf : YM_hasPlace h a0 a1 a2 = some r) : sd_RunF G M_YM_hasPlace [.ref (G.1 + 126), .int a0, .int a1, .int a2] h (some (.int r)) h := by
  refine sF_run ⟨rfl, rfl⟩ (by decide +kernel) (Nat.le_of_ble_eq_true rfl) (lo := [(0, .ref (G.1 + 126)), (1, .int a0), (2, .int a1), (3, .int a2)]) rfl (fun X hE => ?_)
  unfold YM_hasPlace at hf
  refine sd_iconst (n := 0) (v := 0) (pc' := 1) (by decide +kernel) (by decide) ?_
  refine sd_istore (i := 4) (pc' := 3) (lo' := [(4, .int 0), (0, .ref (G.1 + 126)), (1, .int a0), (2, .int a1), (3, .int a2)]) (by decide +kernel) (by decide) rfl ?_
  refine sd_iconst (n := 0) (v := 0) (pc' := 4) (by decide +kernel) (by decide) ?_
  refine sd_istore (i := 5) (pc' := 6) (lo' := [(5, .int 0), (4, .int 0), (0, .ref (G.1 + 126)), (1, .int a0), (2, .int a1), (3, .int a2)]) (by decide +kernel) (by decide) rfl ?_
  refine sd_J.sub (lo' := [(0, .ref (G.1 + 126)), (1, .int a0), (2, .int a1), (3, .int a2), (4, .int 0), (5, .int 0)]) [2, 3, 4, 5, 1, 0] rfl ?_
  exact J_YM_hasPlace_L6 hE _ _ _ _ _ _ hf

theorem ml_X12_218 : Cond.methodLink RX12 218 yX12_hasPlace ∈ sd_tb := sd_mem (i := 1463) (by decide +kernel)
theorem mv_YM_hasPlace : sd_mV M_YM_hasPlace 3 := ⟨sd_mem (i := 1465) (by decide +kernel), sd_mem (i := 57) (by decide +kernel), ⟨sd_mem (i := 1466) (by decide +kernel), sd_mem (i := 119) (by decide +kernel), by decide +kernel, by decide +kernel, by decide +kernel⟩⟩
def M_YM_meetOf : sd_MX := (yX12_meetOf, cX12_meetOf, 11, (some .int), { frames := 3, cells := 0, slots := 0, locals := 88 })
def YM_meetOf_B86 (h : sd_H) (K12 : Int32 → Int32 → Int32 → Int32 → Int32 → Int32 → Int32 → Int32 → Int32 → Option Int32) (l1 : Int32) (l2 : Int32) (l3 : Int32) (l4 : Int32) (l5 : Int32) (l6 : Int32) (l7 : Int32) (l8 : Int32) (l9 : Int32) : Option Int32 :=
  K12 l1 l2 l3 l4 l5 l6 l7 l8 (l9 + 1)
set_option maxHeartbeats 4000000 in
set_option maxRecDepth 100000 in
theorem J_YM_meetOf_B86 {G : sd_GX} {X : sd_CX} (hE : ∀ g : sd_H, sd_end G X M_YM_meetOf (sd_F g)) {h : sd_H} {K12 : Int32 → Int32 → Int32 → Int32 → Int32 → Int32 → Int32 → Int32 → Int32 → Option Int32} {r : Int32} (hK12 : ∀ (l1 : Int32) (l2 : Int32) (l3 : Int32) (l4 : Int32) (l5 : Int32) (l6 : Int32) (l7 : Int32) (l8 : Int32) (l9 : Int32), K12 l1 l2 l3 l4 l5 l6 l7 l8 l9 = some r → sd_J G X (sd_QR G X M_YM_meetOf (some (.int r), sd_F h)) M_YM_meetOf 12 [(0, .ref (G.1 + 126)), (1, .int l1), (2, .int l2), (3, .int l3), (4, .int l4), (5, .int l5), (6, .int l6), (7, .int l7), (8, .int l8), (9, .int l9)] [] (sd_F h)) {l1 : Int32} {l2 : Int32} {l3 : Int32} {l4 : Int32} {l5 : Int32} {l6 : Int32} {l7 : Int32} {l8 : Int32} {l9 : Int32} (hf : YM_meetOf_B86 h K12 l1 l2 l3 l4 l5 l6 l7 l8 l9 = some r) : sd_J G X (sd_QR G X M_YM_meetOf (some (.int r), sd_F h)) M_YM_meetOf 86 [(0, .ref (G.1 + 126)), (1, .int l1), (2, .int l2), (3, .int l3), (4, .int l4), (5, .int l5), (6, .int l6), (7, .int l7), (8, .int l8), (9, .int l9)] [] (sd_F h) := by
  unfold YM_meetOf_B86 at hf
  refine sd_iinc (i := 9) (q := 9) (n := 1) (v := (l9 + 1)) (pc' := 89) (lo' := [(9, .int (l9 + 1)), (0, .ref (G.1 + 126)), (1, .int l1), (2, .int l2), (3, .int l3), (4, .int l4), (5, .int l5), (6, .int l6), (7, .int l7), (8, .int l8)]) (by decide +kernel) rfl rfl (by decide) rfl ?_
  refine sd_goto (off := -77) (tgt := 12) (pc' := 92) (by decide +kernel) ?_
  refine sd_J.sub (lo' := [(0, .ref (G.1 + 126)), (1, .int l1), (2, .int l2), (3, .int l3), (4, .int l4), (5, .int l5), (6, .int l6), (7, .int l7), (8, .int l8), (9, .int (l9 + 1))]) [1, 2, 3, 4, 5, 6, 7, 8, 9, 0] rfl ?_
  exact hK12 _ _ _ _ _ _ _ _ _ hf
def YM_meetOf_B81 (h : sd_H) (K12 : Int32 → Int32 → Int32 → Int32 → Int32 → Int32 → Int32 → Int32 → Int32 → Option Int32) (l1 : Int32) (l2 : Int32) (l3 : Int32) (l4 : Int32) (l5 : Int32) (l7 : Int32) (l8 : Int32) (l9 : Int32) (s0 : Int32) : Option Int32 :=
  YM_meetOf_B86 h K12 l1 l2 l3 l4 l5 s0 l7 (l8 + 1) l9
set_option maxHeartbeats 4000000 in
set_option maxRecDepth 100000 in
theorem J_YM_meetOf_B81 {G : sd_GX} {X : sd_CX} (hE : ∀ g : sd_H, sd_end G X M_YM_meetOf (sd_F g)) {h : sd_H} {K12 : Int32 → Int32 → Int32 → Int32 → Int32 → Int32 → Int32 → Int32 → Int32 → Option Int32} {r : Int32} (hK12 : ∀ (l1 : Int32) (l2 : Int32) (l3 : Int32) (l4 : Int32) (l5 : Int32) (l6 : Int32) (l7 : Int32) (l8 : Int32) (l9 : Int32), K12 l1 l2 l3 l4 l5 l6 l7 l8 l9 = some r → sd_J G X (sd_QR G X M_YM_meetOf (some (.int r), sd_F h)) M_YM_meetOf 12 [(0, .ref (G.1 + 126)), (1, .int l1), (2, .int l2), (3, .int l3), (4, .int l4), (5, .int l5), (6, .int l6), (7, .int l7), (8, .int l8), (9, .int l9)] [] (sd_F h)) {l1 : Int32} {l2 : Int32} {l3 : Int32} {l4 : Int32} {l5 : Int32} {l7 : Int32} {l8 : Int32} {l9 : Int32} {s0 : Int32} (hf : YM_meetOf_B81 h K12 l1 l2 l3 l4 l5 l7 l8 l9 s0 = some r) : sd_J G X (sd_QR G X M_YM_meetOf (some (.int r), sd_F h)) M_YM_meetOf 81 [(0, .ref (G.1 + 126)), (1, .int l1), (2, .int l2), (3, .int l3), (4, .int l4), (5, .int l5), (7, .int l7), (8, .int l8), (9, .int l9)] [.int s0] (sd_F h) := by
  unfold YM_meetOf_B81 at hf
  refine sd_istore (i := 6) (pc' := 83) (lo' := [(6, .int s0), (0, .ref (G.1 + 126)), (1, .int l1), (2, .int l2), (3, .int l3), (4, .int l4), (5, .int l5), (7, .int l7), (8, .int l8), (9, .int l9)]) (by decide +kernel) (by decide) rfl ?_
  refine sd_iinc (i := 8) (q := 8) (n := 1) (v := (l8 + 1)) (pc' := 86) (lo' := [(8, .int (l8 + 1)), (6, .int s0), (0, .ref (G.1 + 126)), (1, .int l1), (2, .int l2), (3, .int l3), (4, .int l4), (5, .int l5), (7, .int l7), (9, .int l9)]) (by decide +kernel) rfl rfl (by decide) rfl ?_
  refine sd_J.sub (lo' := [(0, .ref (G.1 + 126)), (1, .int l1), (2, .int l2), (3, .int l3), (4, .int l4), (5, .int l5), (6, .int s0), (7, .int l7), (8, .int (l8 + 1)), (9, .int l9)]) [2, 3, 4, 5, 6, 7, 1, 8, 0, 9] rfl ?_
  exact J_YM_meetOf_B86 hE hK12 hf
def YM_meetOf_B67 (h : sd_H) (K12 : Int32 → Int32 → Int32 → Int32 → Int32 → Int32 → Int32 → Int32 → Int32 → Option Int32) (l1 : Int32) (l2 : Int32) (l3 : Int32) (l4 : Int32) (l5 : Int32) (l6 : Int32) (l8 : Int32) (l9 : Int32) (l10 : Int32) (s0 : Int32) : Option Int32 :=
  (if l8 = 0 then YM_meetOf_B81 h K12 l1 l2 l3 l4 l5 s0 l8 l9 l10 else YM_meetOf_B81 h K12 l1 l2 l3 l4 l5 s0 l8 l9 l6)
set_option maxHeartbeats 4000000 in
set_option maxRecDepth 100000 in
theorem J_YM_meetOf_B67 {G : sd_GX} {X : sd_CX} (hE : ∀ g : sd_H, sd_end G X M_YM_meetOf (sd_F g)) {h : sd_H} {K12 : Int32 → Int32 → Int32 → Int32 → Int32 → Int32 → Int32 → Int32 → Int32 → Option Int32} {r : Int32} (hK12 : ∀ (l1 : Int32) (l2 : Int32) (l3 : Int32) (l4 : Int32) (l5 : Int32) (l6 : Int32) (l7 : Int32) (l8 : Int32) (l9 : Int32), K12 l1 l2 l3 l4 l5 l6 l7 l8 l9 = some r → sd_J G X (sd_QR G X M_YM_meetOf (some (.int r), sd_F h)) M_YM_meetOf 12 [(0, .ref (G.1 + 126)), (1, .int l1), (2, .int l2), (3, .int l3), (4, .int l4), (5, .int l5), (6, .int l6), (7, .int l7), (8, .int l8), (9, .int l9)] [] (sd_F h)) {l1 : Int32} {l2 : Int32} {l3 : Int32} {l4 : Int32} {l5 : Int32} {l6 : Int32} {l8 : Int32} {l9 : Int32} {l10 : Int32} {s0 : Int32} (hf : YM_meetOf_B67 h K12 l1 l2 l3 l4 l5 l6 l8 l9 l10 s0 = some r) : sd_J G X (sd_QR G X M_YM_meetOf (some (.int r), sd_F h)) M_YM_meetOf 67 [(0, .ref (G.1 + 126)), (1, .int l1), (2, .int l2), (3, .int l3), (4, .int l4), (5, .int l5), (6, .int l6), (8, .int l8), (9, .int l9), (10, .int l10)] [.int s0] (sd_F h) := by
  unfold YM_meetOf_B67 at hf
  refine sd_istore (i := 7) (pc' := 69) (lo' := [(7, .int s0), (0, .ref (G.1 + 126)), (1, .int l1), (2, .int l2), (3, .int l3), (4, .int l4), (5, .int l5), (6, .int l6), (8, .int l8), (9, .int l9), (10, .int l10)]) (by decide +kernel) (by decide) rfl ?_
  refine sd_iload (i := 8) (q := 8) (pc' := 71) (by decide +kernel) rfl ?_
  refine sd_if_ne (off := 8) (tgt := 79) (pc' := 74) (by decide +kernel) (fun c17 => ?_) (fun c17 => ?_)
  · replace hf := ite_n c17 hf
    refine sd_iload (i := 6) (q := 7) (pc' := 81) (by decide +kernel) rfl ?_
    refine sd_J.sub (lo' := [(0, .ref (G.1 + 126)), (1, .int l1), (2, .int l2), (3, .int l3), (4, .int l4), (5, .int l5), (7, .int s0), (8, .int l8), (9, .int l9)]) [1, 2, 3, 4, 5, 6, 0, 8, 9] rfl ?_
    exact J_YM_meetOf_B81 hE hK12 hf
  · replace hf := ite_p c17 hf
    refine sd_iload (i := 10) (q := 10) (pc' := 76) (by decide +kernel) rfl ?_
    refine sd_goto (off := 5) (tgt := 81) (pc' := 79) (by decide +kernel) ?_
    refine sd_J.sub (lo' := [(0, .ref (G.1 + 126)), (1, .int l1), (2, .int l2), (3, .int l3), (4, .int l4), (5, .int l5), (7, .int s0), (8, .int l8), (9, .int l9)]) [1, 2, 3, 4, 5, 6, 0, 8, 9] rfl ?_
    exact J_YM_meetOf_B81 hE hK12 hf
def YM_meetOf_L12 (h : sd_H) : Nat → Int32 → Int32 → Int32 → Int32 → Int32 → Int32 → Int32 → Int32 → Int32 → Option Int32
  | 0, _, _, _, _, _, _, _, _, _ => none
  | n + 1, l1, l2, l3, l4, l5, l6, l7, l8, l9 =>
  b1 (YM_manyOf h l1) (fun t2 => (if t2 ≤ l9 then (if l5 = 0 then some l6 else (if l5 = 1 then some l7 else (if l5 = 2 then some l8 else b1 (YM_manyOf h l1) (fun t8 => some (t8 - l8))))) else b1 (YM_firstOf h l1 l2) (fun t10 => b1 (YM_strideOf h l1) (fun t12 => b1 (YM_hasPlace h l3 l4 (t10 + (t12 * l9))) (fun t14 => (if t14 = 0 then YM_meetOf_B86 h (YM_meetOf_L12 h n) l1 l2 l3 l4 l5 l6 l7 l8 l9 else (if l8 = 1 then YM_meetOf_B67 h (YM_meetOf_L12 h n) l1 l2 l3 l4 l5 l6 l8 l9 (t10 + (t12 * l9)) ((t10 + (t12 * l9)) - l6) else YM_meetOf_B67 h (YM_meetOf_L12 h n) l1 l2 l3 l4 l5 l6 l8 l9 (t10 + (t12 * l9)) l7)))))))
set_option maxHeartbeats 4000000 in
set_option maxRecDepth 100000 in
theorem J_YM_meetOf_L12 {G : sd_GX} {X : sd_CX} (hE : ∀ g : sd_H, sd_end G X M_YM_meetOf (sd_F g)) {h : sd_H} {r : Int32} : ∀ (n : Nat) (l1 : Int32) (l2 : Int32) (l3 : Int32) (l4 : Int32) (l5 : Int32) (l6 : Int32) (l7 : Int32) (l8 : Int32) (l9 : Int32), YM_meetOf_L12 h n l1 l2 l3 l4 l5 l6 l7 l8 l9 = some r → sd_J G X (sd_QR G X M_YM_meetOf (some (.int r), sd_F h)) M_YM_meetOf 12 [(0, .ref (G.1 + 126)), (1, .int l1), (2, .int l2), (3, .int l3), (4, .int l4), (5, .int l5), (6, .int l6), (7, .int l7), (8, .int l8), (9, .int l9)] [] (sd_F h) := by
  intro n
  induction n with
  | zero =>
    intro l1 l2 l3 l4 l5 l6 l7 l8 l9 hf
    rw [YM_meetOf_L12] at hf
    cases hf
  | succ n ih =>
    intro l1 l2 l3 l4 l5 l6 l7 l8 l9 hf
    rw [YM_meetOf_L12] at hf
    refine sd_iload (i := 9) (q := 9) (pc' := 14) (by decide +kernel) rfl ?_
    refine sd_aload_n (k := 0) (i := 0) (q := 0) (pc' := 15) (by decide +kernel) rfl rfl ?_
    refine sd_iload_n (k := 1) (i := 1) (q := 1) (pc' := 16) (by decide +kernel) rfl rfl ?_
    obtain ⟨t2, q1, hf⟩ := b1_some hf
    refine sF_callV (idx := 203) (b := 126) (As := [.int l1]) (ci := 12) (nn := 47) (pc' := 19) 1 (T_YM_manyOf (G := G) (h := h)  q1) (by decide +kernel) mv_YM_manyOf ml_X12_203 (by decide +kernel) rfl rfl (Nat.le_of_ble_eq_true rfl) SH_126 rfl (by decide) rfl rfl ?_
    refine sd_icmp_ge (off := 73) (tgt := 92) (pc' := 22) (by decide +kernel) (fun c3 => ?_) (fun c3 => ?_)
    · replace hf := ite_p c3 hf
      refine sd_iload (i := 5) (q := 5) (pc' := 94) (by decide +kernel) rfl ?_
      refine sd_if_ne (off := 8) (tgt := 102) (pc' := 97) (by decide +kernel) (fun c4 => ?_) (fun c4 => ?_)
      · replace hf := ite_n c4 hf
        refine sd_iload (i := 5) (q := 5) (pc' := 104) (by decide +kernel) rfl ?_
        refine sd_iconst (n := 1) (v := 1) (pc' := 105) (by decide +kernel) (by decide) ?_
        refine sd_icmp_ne (off := 8) (tgt := 113) (pc' := 108) (by decide +kernel) (fun c5 => ?_) (fun c5 => ?_)
        · replace hf := ite_n c5 hf
          refine sd_iload (i := 5) (q := 5) (pc' := 115) (by decide +kernel) rfl ?_
          refine sd_iconst (n := 2) (v := 2) (pc' := 116) (by decide +kernel) (by decide) ?_
          refine sd_icmp_ne (off := 8) (tgt := 124) (pc' := 119) (by decide +kernel) (fun c6 => ?_) (fun c6 => ?_)
          · replace hf := ite_n c6 hf
            refine sd_aload_n (k := 0) (i := 0) (q := 0) (pc' := 125) (by decide +kernel) rfl rfl ?_
            refine sd_iload_n (k := 1) (i := 1) (q := 1) (pc' := 126) (by decide +kernel) rfl rfl ?_
            obtain ⟨t8, q7, hf⟩ := b1_some hf
            refine sF_callV (idx := 203) (b := 126) (As := [.int l1]) (ci := 12) (nn := 47) (pc' := 129) 1 (T_YM_manyOf (G := G) (h := h)  q7) (by decide +kernel) mv_YM_manyOf ml_X12_203 (by decide +kernel) rfl rfl (Nat.le_of_ble_eq_true rfl) SH_126 rfl (by decide) rfl rfl ?_
            refine sd_iload (i := 8) (q := 8) (pc' := 131) (by decide +kernel) rfl ?_
            refine sd_isub (pc' := 132) (by decide +kernel) ?_
            obtain rfl := Option.some.inj hf
            exact sd_iret (by decide +kernel) rfl (hE _)
          · replace hf := ite_p c6 hf
            refine sd_iload (i := 8) (q := 8) (pc' := 121) (by decide +kernel) rfl ?_
            refine sd_goto (off := 11) (tgt := 132) (pc' := 124) (by decide +kernel) ?_
            obtain rfl := Option.some.inj hf
            exact sd_iret (by decide +kernel) rfl (hE _)
        · replace hf := ite_p c5 hf
          refine sd_iload (i := 7) (q := 7) (pc' := 110) (by decide +kernel) rfl ?_
          refine sd_goto (off := 22) (tgt := 132) (pc' := 113) (by decide +kernel) ?_
          obtain rfl := Option.some.inj hf
          exact sd_iret (by decide +kernel) rfl (hE _)
      · replace hf := ite_p c4 hf
        refine sd_iload (i := 6) (q := 6) (pc' := 99) (by decide +kernel) rfl ?_
        refine sd_goto (off := 33) (tgt := 132) (pc' := 102) (by decide +kernel) ?_
        obtain rfl := Option.some.inj hf
        exact sd_iret (by decide +kernel) rfl (hE _)
    · replace hf := ite_n c3 hf
      refine sd_aload_n (k := 0) (i := 0) (q := 0) (pc' := 23) (by decide +kernel) rfl rfl ?_
      refine sd_iload_n (k := 1) (i := 1) (q := 1) (pc' := 24) (by decide +kernel) rfl rfl ?_
      refine sd_iload_n (k := 2) (i := 2) (q := 2) (pc' := 25) (by decide +kernel) rfl rfl ?_
      obtain ⟨t10, q9, hf⟩ := b1_some hf
      refine sF_callV (idx := 206) (b := 126) (As := [.int l1, .int l2]) (ci := 12) (nn := 47) (pc' := 28) 2 (T_YM_firstOf (G := G) (h := h)  q9) (by decide +kernel) mv_YM_firstOf ml_X12_206 (by decide +kernel) rfl rfl (Nat.le_of_ble_eq_true rfl) SH_126 rfl (by decide) rfl rfl ?_
      refine sd_aload_n (k := 0) (i := 0) (q := 0) (pc' := 29) (by decide +kernel) rfl rfl ?_
      refine sd_iload_n (k := 1) (i := 1) (q := 1) (pc' := 30) (by decide +kernel) rfl rfl ?_
      obtain ⟨t12, q11, hf⟩ := b1_some hf
      refine sF_callV (idx := 209) (b := 126) (As := [.int l1]) (ci := 12) (nn := 47) (pc' := 33) 1 (T_YM_strideOf (G := G) (h := h)  q11) (by decide +kernel) mv_YM_strideOf ml_X12_209 (by decide +kernel) rfl rfl (Nat.le_of_ble_eq_true rfl) SH_126 rfl (by decide) rfl rfl ?_
      refine sd_iload (i := 9) (q := 9) (pc' := 35) (by decide +kernel) rfl ?_
      refine sd_imul (pc' := 36) (by decide +kernel) ?_
      refine sd_iadd (pc' := 37) (by decide +kernel) ?_
      refine sd_istore (i := 10) (pc' := 39) (lo' := [(10, .int (t10 + (t12 * l9))), (0, .ref (G.1 + 126)), (1, .int l1), (2, .int l2), (3, .int l3), (4, .int l4), (5, .int l5), (6, .int l6), (7, .int l7), (8, .int l8), (9, .int l9)]) (by decide +kernel) (by decide) rfl ?_
      refine sd_aload_n (k := 0) (i := 0) (q := 1) (pc' := 40) (by decide +kernel) rfl rfl ?_
      refine sd_iload_n (k := 3) (i := 3) (q := 4) (pc' := 41) (by decide +kernel) rfl rfl ?_
      refine sd_iload (i := 4) (q := 5) (pc' := 43) (by decide +kernel) rfl ?_
      refine sd_iload (i := 10) (q := 0) (pc' := 45) (by decide +kernel) rfl ?_
      obtain ⟨t14, q13, hf⟩ := b1_some hf
      refine sF_callV (idx := 218) (b := 126) (As := [.int l3, .int l4, .int (t10 + (t12 * l9))]) (ci := 12) (nn := 47) (pc' := 48) 3 (T_YM_hasPlace (G := G) (h := h)  q13) (by decide +kernel) mv_YM_hasPlace ml_X12_218 (by decide +kernel) rfl rfl (Nat.le_of_ble_eq_true rfl) SH_126 rfl (by decide) rfl rfl ?_
      refine sd_if_eq (off := 38) (tgt := 86) (pc' := 51) (by decide +kernel) (fun c15 => ?_) (fun c15 => ?_)
      · replace hf := ite_p c15 hf
        refine sd_J.sub (lo' := [(0, .ref (G.1 + 126)), (1, .int l1), (2, .int l2), (3, .int l3), (4, .int l4), (5, .int l5), (6, .int l6), (7, .int l7), (8, .int l8), (9, .int l9)]) [1, 2, 3, 4, 5, 6, 7, 8, 9, 10] rfl ?_
        exact J_YM_meetOf_B86 hE ih hf
      · replace hf := ite_n c15 hf
        refine sd_iload (i := 8) (q := 9) (pc' := 53) (by decide +kernel) rfl ?_
        refine sd_iconst (n := 1) (v := 1) (pc' := 54) (by decide +kernel) (by decide) ?_
        refine sd_icmp_ne (off := 11) (tgt := 65) (pc' := 57) (by decide +kernel) (fun c16 => ?_) (fun c16 => ?_)
        · replace hf := ite_n c16 hf
          refine sd_iload (i := 7) (q := 8) (pc' := 67) (by decide +kernel) rfl ?_
          refine sd_J.sub (lo' := [(0, .ref (G.1 + 126)), (1, .int l1), (2, .int l2), (3, .int l3), (4, .int l4), (5, .int l5), (6, .int l6), (8, .int l8), (9, .int l9), (10, .int (t10 + (t12 * l9)))]) [1, 2, 3, 4, 5, 6, 7, 9, 10, 0] rfl ?_
          exact J_YM_meetOf_B67 hE ih hf
        · replace hf := ite_p c16 hf
          refine sd_iload (i := 10) (q := 0) (pc' := 59) (by decide +kernel) rfl ?_
          refine sd_iload (i := 6) (q := 7) (pc' := 61) (by decide +kernel) rfl ?_
          refine sd_isub (pc' := 62) (by decide +kernel) ?_
          refine sd_goto (off := 5) (tgt := 67) (pc' := 65) (by decide +kernel) ?_
          refine sd_J.sub (lo' := [(0, .ref (G.1 + 126)), (1, .int l1), (2, .int l2), (3, .int l3), (4, .int l4), (5, .int l5), (6, .int l6), (8, .int l8), (9, .int l9), (10, .int (t10 + (t12 * l9)))]) [1, 2, 3, 4, 5, 6, 7, 9, 10, 0] rfl ?_
          exact J_YM_meetOf_B67 hE ih hf
def YM_meetOf (h : sd_H) (a0 : Int32) (a1 : Int32) (a2 : Int32) (a3 : Int32) (a4 : Int32) : Option Int32 :=
  YM_meetOf_L12 h FU a0 a1 a2 a3 a4 0 1 0 0
set_option maxHeartbeats 4000000 in
set_option maxRecDepth 100000 in
theorem T_YM_meetOf {G : sd_GX} {h : sd_H} {a0 : Int32} {a1 : Int32} {a2 : Int32} {a3 : Int32} {a4 : Int32} {r : Int32} (hf : YM_meetOf h a0 a1 a2 a3 a4 = some r) : sd_RunF G M_YM_meetOf [.ref (G.1 + 126), .int a0, .int a1, .int a2, .int a3, .int a4] h (some (.int r)) h := by
  refine sF_run ⟨rfl, rfl⟩ (by decide +kernel) (Nat.le_of_ble_eq_true rfl) (lo := [(0, .ref (G.1 + 126)), (1, .int a0), (2, .int a1), (3, .int a2), (4, .int a3), (5, .int a4)]) rfl (fun X hE => ?_)
  unfold YM_meetOf at hf
  refine sd_iconst (n := 0) (v := 0) (pc' := 1) (by decide +kernel) (by decide) ?_
  refine sd_istore (i := 6) (pc' := 3) (lo' := [(6, .int 0), (0, .ref (G.1 + 126)), (1, .int a0), (2, .int a1), (3, .int a2), (4, .int a3), (5, .int a4)]) (by decide +kernel) (by decide) rfl ?_
  refine sd_iconst (n := 1) (v := 1) (pc' := 4) (by decide +kernel) (by decide) ?_
  refine sd_istore (i := 7) (pc' := 6) (lo' := [(7, .int 1), (6, .int 0), (0, .ref (G.1 + 126)), (1, .int a0), (2, .int a1), (3, .int a2), (4, .int a3), (5, .int a4)]) (by decide +kernel) (by decide) rfl ?_
  refine sd_iconst (n := 0) (v := 0) (pc' := 7) (by decide +kernel) (by decide) ?_
  refine sd_istore (i := 8) (pc' := 9) (lo' := [(8, .int 0), (7, .int 1), (6, .int 0), (0, .ref (G.1 + 126)), (1, .int a0), (2, .int a1), (3, .int a2), (4, .int a3), (5, .int a4)]) (by decide +kernel) (by decide) rfl ?_
  refine sd_iconst (n := 0) (v := 0) (pc' := 10) (by decide +kernel) (by decide) ?_
  refine sd_istore (i := 9) (pc' := 12) (lo' := [(9, .int 0), (8, .int 0), (7, .int 1), (6, .int 0), (0, .ref (G.1 + 126)), (1, .int a0), (2, .int a1), (3, .int a2), (4, .int a3), (5, .int a4)]) (by decide +kernel) (by decide) rfl ?_
  refine sd_J.sub (lo' := [(0, .ref (G.1 + 126)), (1, .int a0), (2, .int a1), (3, .int a2), (4, .int a3), (5, .int a4), (6, .int 0), (7, .int 1), (8, .int 0), (9, .int 0)]) [4, 5, 6, 7, 8, 9, 3, 2, 1, 0] rfl ?_
  exact J_YM_meetOf_L12 hE _ _ _ _ _ _ _ _ _ _ hf

theorem ml_X12_221 : Cond.methodLink RX12 221 yX12_meetOf ∈ sd_tb := sd_mem (i := 1459) (by decide +kernel)
theorem mv_YM_meetOf : sd_mV M_YM_meetOf 5 := ⟨sd_mem (i := 1461) (by decide +kernel), sd_mem (i := 56) (by decide +kernel), ⟨sd_mem (i := 1462) (by decide +kernel), sd_mem (i := 119) (by decide +kernel), by decide +kernel, by decide +kernel, by decide +kernel⟩⟩
def M_YM_meet : sd_MX := (yX12_meet, cX12_meet, 6, (some .int), { frames := 4, cells := 0, slots := 0, locals := 118 })
def YM_meet (h : sd_H) (a0 : Int32) (a1 : Int32) (a2 : Int32) (a3 : Int32) (a4 : Int32) : Option Int32 :=
  b1 (YM_isSection h a0 a1) (fun t2 => (if t2 = 0 then some (-2147483648) else b1 (YM_isSection h a2 a3) (fun t5 => (if t5 = 0 then some (-2147483648) else b1 (YM_in a4 0 3) (fun t8 => (if t8 = 0 then some (-2147483648) else b1 (YM_meetOf h a0 a1 a2 a3 a4) (fun t11 => some t11)))))))
set_option maxHeartbeats 4000000 in
set_option maxRecDepth 100000 in
theorem T_YM_meet {G : sd_GX} {h : sd_H} {a0 : Int32} {a1 : Int32} {a2 : Int32} {a3 : Int32} {a4 : Int32} {r : Int32} (hf : YM_meet h a0 a1 a2 a3 a4 = some r) : sd_RunF G M_YM_meet [.ref (G.1 + 126), .int a0, .int a1, .int a2, .int a3, .int a4] h (some (.int r)) h := by
  refine sF_run ⟨rfl, rfl⟩ (by decide +kernel) (Nat.le_of_ble_eq_true rfl) (lo := [(0, .ref (G.1 + 126)), (1, .int a0), (2, .int a1), (3, .int a2), (4, .int a3), (5, .int a4)]) rfl (fun X hE => ?_)
  unfold YM_meet at hf
  refine sd_aload_n (k := 0) (i := 0) (q := 0) (pc' := 1) (by decide +kernel) rfl rfl ?_
  refine sd_iload_n (k := 1) (i := 1) (q := 1) (pc' := 2) (by decide +kernel) rfl rfl ?_
  refine sd_iload_n (k := 2) (i := 2) (q := 2) (pc' := 3) (by decide +kernel) rfl rfl ?_
  obtain ⟨t2, q1, hf⟩ := b1_some hf
  refine sF_callV (idx := 212) (b := 126) (As := [.int a0, .int a1]) (ci := 12) (nn := 47) (pc' := 6) 2 (T_YM_isSection (G := G) (h := h)  q1) (by decide +kernel) mv_YM_isSection ml_X12_212 (by decide +kernel) rfl rfl (Nat.le_of_ble_eq_true rfl) SH_126 rfl (by decide) rfl rfl ?_
  refine sd_if_eq (off := 37) (tgt := 43) (pc' := 9) (by decide +kernel) (fun c3 => ?_) (fun c3 => ?_)
  · replace hf := ite_p c3 hf
    refine sd_ldc (idx := 139) (v := (-2147483648)) (pc' := 45) (by decide +kernel) (sd_mem (i := 1335) (by decide +kernel)) ?_
    obtain rfl := Option.some.inj hf
    exact sd_iret (by decide +kernel) rfl (hE _)
  · replace hf := ite_n c3 hf
    refine sd_aload_n (k := 0) (i := 0) (q := 0) (pc' := 10) (by decide +kernel) rfl rfl ?_
    refine sd_iload_n (k := 3) (i := 3) (q := 3) (pc' := 11) (by decide +kernel) rfl rfl ?_
    refine sd_iload (i := 4) (q := 4) (pc' := 13) (by decide +kernel) rfl ?_
    obtain ⟨t5, q4, hf⟩ := b1_some hf
    refine sF_callV (idx := 212) (b := 126) (As := [.int a2, .int a3]) (ci := 12) (nn := 47) (pc' := 16) 2 (T_YM_isSection (G := G) (h := h)  q4) (by decide +kernel) mv_YM_isSection ml_X12_212 (by decide +kernel) rfl rfl (Nat.le_of_ble_eq_true rfl) SH_126 rfl (by decide) rfl rfl ?_
    refine sd_if_eq (off := 27) (tgt := 43) (pc' := 19) (by decide +kernel) (fun c6 => ?_) (fun c6 => ?_)
    · replace hf := ite_p c6 hf
      refine sd_ldc (idx := 139) (v := (-2147483648)) (pc' := 45) (by decide +kernel) (sd_mem (i := 1335) (by decide +kernel)) ?_
      obtain rfl := Option.some.inj hf
      exact sd_iret (by decide +kernel) rfl (hE _)
    · replace hf := ite_n c6 hf
      refine sd_iload (i := 5) (q := 5) (pc' := 21) (by decide +kernel) rfl ?_
      refine sd_iconst (n := 0) (v := 0) (pc' := 22) (by decide +kernel) (by decide) ?_
      refine sd_iconst (n := 3) (v := 3) (pc' := 23) (by decide +kernel) (by decide) ?_
      obtain ⟨t8, q7, hf⟩ := b1_some hf
      refine sF_callS (idx := 114) (As := [.int a4, .int 0, .int 3]) (pc' := 26) 3 (T_YM_in (G := G) (h := h)  q7) (by decide +kernel) mv_YM_in ml_X12_114 (by decide +kernel) rfl rfl (Nat.le_of_ble_eq_true rfl) rfl ?_
      refine sd_if_eq (off := 17) (tgt := 43) (pc' := 29) (by decide +kernel) (fun c9 => ?_) (fun c9 => ?_)
      · replace hf := ite_p c9 hf
        refine sd_ldc (idx := 139) (v := (-2147483648)) (pc' := 45) (by decide +kernel) (sd_mem (i := 1335) (by decide +kernel)) ?_
        obtain rfl := Option.some.inj hf
        exact sd_iret (by decide +kernel) rfl (hE _)
      · replace hf := ite_n c9 hf
        refine sd_aload_n (k := 0) (i := 0) (q := 0) (pc' := 30) (by decide +kernel) rfl rfl ?_
        refine sd_iload_n (k := 1) (i := 1) (q := 1) (pc' := 31) (by decide +kernel) rfl rfl ?_
        refine sd_iload_n (k := 2) (i := 2) (q := 2) (pc' := 32) (by decide +kernel) rfl rfl ?_
        refine sd_iload_n (k := 3) (i := 3) (q := 3) (pc' := 33) (by decide +kernel) rfl rfl ?_
        refine sd_iload (i := 4) (q := 4) (pc' := 35) (by decide +kernel) rfl ?_
        refine sd_iload (i := 5) (q := 5) (pc' := 37) (by decide +kernel) rfl ?_
        obtain ⟨t11, q10, hf⟩ := b1_some hf
        refine sF_callV (idx := 221) (b := 126) (As := [.int a0, .int a1, .int a2, .int a3, .int a4]) (ci := 12) (nn := 47) (pc' := 40) 5 (T_YM_meetOf (G := G) (h := h)  q10) (by decide +kernel) mv_YM_meetOf ml_X12_221 (by decide +kernel) rfl rfl (Nat.le_of_ble_eq_true rfl) SH_126 rfl (by decide) rfl rfl ?_
        refine sd_goto (off := 5) (tgt := 45) (pc' := 43) (by decide +kernel) ?_
        obtain rfl := Option.some.inj hf
        exact sd_iret (by decide +kernel) rfl (hE _)

theorem fl_X12_225 : sd_fl RX12 225 12 22 := ⟨sd_mem (i := 1170) (by decide +kernel), by decide, by decide⟩
theorem fl_X12_59 : sd_fl RX12 59 12 21 := ⟨sd_mem (i := 1169) (by decide +kernel), by decide, by decide⟩
def M_YM_addsKind : sd_MX := (yX12_addsKind, cX12_addsKind, 6, none, { frames := 3, cells := 0, slots := 0, locals := 87 })
def YM_addsKind_B170 (h : sd_H) (l3 : Int32) : Option sd_H :=
  gd (sd_inB ((4 * l3) + 3) 120) (gd (sd_inB ((4 * l3) + 3) 120) (hb (wI h 143 (((4 * l3) + 3) : Int32).toNatClampNeg ((h.1 143 (((4 * l3) + 3) : Int32).toNatClampNeg) + 1)) (fun h5 => some h5)))
set_option maxHeartbeats 4000000 in
set_option maxRecDepth 100000 in
theorem J_YM_addsKind_B170 {G : sd_GX} {X : sd_CX} (hE : ∀ g : sd_H, sd_end G X M_YM_addsKind (sd_F g)) {h : sd_H} {r : sd_H} {l3 : Int32} (hf : YM_addsKind_B170 h l3 = some r) : sd_J G X (sd_QR G X M_YM_addsKind (none, sd_F r)) M_YM_addsKind 170 [(0, .ref (G.1 + 126)), (3, .int l3)] [] (sd_F h) := by
  unfold YM_addsKind_B170 at hf
  refine sd_aload_n (k := 0) (i := 0) (q := 0) (pc' := 171) (by decide +kernel) rfl rfl ?_
  refine sF_gr (idx := 59) (ci := 12) (k := 21) (n := 47) (r := 143) (pc' := 174) (by decide +kernel) fl_X12_59 (by decide +kernel) rfl SH_126 (by decide) (by decide +kernel) ?_
  refine sd_iconst (n := 4) (v := 4) (pc' := 175) (by decide +kernel) (by decide) ?_
  refine sd_iload_n (k := 3) (i := 3) (q := 1) (pc' := 176) (by decide +kernel) rfl rfl ?_
  refine sd_imul (pc' := 177) (by decide +kernel) ?_
  refine sd_iconst (n := 3) (v := 3) (pc' := 178) (by decide +kernel) (by decide) ?_
  refine sd_iadd (pc' := 179) (by decide +kernel) ?_
  refine sd_dup2 (pc' := 180) (by decide +kernel) rfl rfl ?_
  obtain ⟨g3, hf⟩ := gd_some hf
  refine sF_iald (n := 120) (pc' := 181) (by decide +kernel) SH_143 g3 ?_
  refine sd_iconst (n := 1) (v := 1) (pc' := 182) (by decide +kernel) (by decide) ?_
  refine sd_iadd (pc' := 183) (by decide +kernel) ?_
  obtain ⟨g4, hf⟩ := gd_some hf
  obtain ⟨h5, e6, hf⟩ := hb_some hf
  refine sF_iast (n := 120) (pc' := 184) (by decide +kernel) SH_143 g4 ?_
  rw [← e6]; clear e6
  obtain rfl := Option.some.inj hf
  exact sd_vret (by decide +kernel) rfl (hE _)
def YM_addsKind_B88 (h : sd_H) (K5 : sd_H → Int32 → Int32 → Int32 → Int32 → Option sd_H) (l1 : Int32) (l2 : Int32) (l4 : Int32) (s0 : Int32) : Option sd_H :=
  K5 h l1 l2 s0 (l4 + 1)
set_option maxHeartbeats 4000000 in
set_option maxRecDepth 100000 in
theorem J_YM_addsKind_B88 {G : sd_GX} {X : sd_CX} (hE : ∀ g : sd_H, sd_end G X M_YM_addsKind (sd_F g)) {h : sd_H} {K5 : sd_H → Int32 → Int32 → Int32 → Int32 → Option sd_H} {r : sd_H} (hK5 : ∀ (g : sd_H) (l1 : Int32) (l2 : Int32) (l3 : Int32) (l4 : Int32), K5 g l1 l2 l3 l4 = some r → sd_J G X (sd_QR G X M_YM_addsKind (none, sd_F r)) M_YM_addsKind 5 [(0, .ref (G.1 + 126)), (1, .int l1), (2, .int l2), (3, .int l3), (4, .int l4)] [] (sd_F g)) {l1 : Int32} {l2 : Int32} {l4 : Int32} {s0 : Int32} (hf : YM_addsKind_B88 h K5 l1 l2 l4 s0 = some r) : sd_J G X (sd_QR G X M_YM_addsKind (none, sd_F r)) M_YM_addsKind 88 [(0, .ref (G.1 + 126)), (1, .int l1), (2, .int l2), (4, .int l4)] [.int s0] (sd_F h) := by
  unfold YM_addsKind_B88 at hf
  refine sd_istore_n (k := 3) (i := 3) (pc' := 89) (lo' := [(3, .int s0), (0, .ref (G.1 + 126)), (1, .int l1), (2, .int l2), (4, .int l4)]) (by decide +kernel) rfl (by decide) rfl ?_
  refine sd_iinc (i := 4) (q := 4) (n := 1) (v := (l4 + 1)) (pc' := 92) (lo' := [(4, .int (l4 + 1)), (3, .int s0), (0, .ref (G.1 + 126)), (1, .int l1), (2, .int l2)]) (by decide +kernel) rfl rfl (by decide) rfl ?_
  refine sd_goto (off := -87) (tgt := 5) (pc' := 95) (by decide +kernel) ?_
  refine sd_J.sub (lo' := [(0, .ref (G.1 + 126)), (1, .int l1), (2, .int l2), (3, .int s0), (4, .int (l4 + 1))]) [2, 3, 4, 1, 0] rfl ?_
  exact hK5 _ _ _ _ _ hf
def YM_addsKind_B75 (h : sd_H) (K5 : sd_H → Int32 → Int32 → Int32 → Int32 → Option sd_H) (l1 : Int32) (l2 : Int32) (l3 : Int32) (l4 : Int32) (s0 : Int32) : Option sd_H :=
  (if s0 = 0 then YM_addsKind_B88 h K5 l1 l2 l4 l3 else YM_addsKind_B88 h K5 l1 l2 l4 l4)
set_option maxHeartbeats 4000000 in
set_option maxRecDepth 100000 in
theorem J_YM_addsKind_B75 {G : sd_GX} {X : sd_CX} (hE : ∀ g : sd_H, sd_end G X M_YM_addsKind (sd_F g)) {h : sd_H} {K5 : sd_H → Int32 → Int32 → Int32 → Int32 → Option sd_H} {r : sd_H} (hK5 : ∀ (g : sd_H) (l1 : Int32) (l2 : Int32) (l3 : Int32) (l4 : Int32), K5 g l1 l2 l3 l4 = some r → sd_J G X (sd_QR G X M_YM_addsKind (none, sd_F r)) M_YM_addsKind 5 [(0, .ref (G.1 + 126)), (1, .int l1), (2, .int l2), (3, .int l3), (4, .int l4)] [] (sd_F g)) {l1 : Int32} {l2 : Int32} {l3 : Int32} {l4 : Int32} {s0 : Int32} (hf : YM_addsKind_B75 h K5 l1 l2 l3 l4 s0 = some r) : sd_J G X (sd_QR G X M_YM_addsKind (none, sd_F r)) M_YM_addsKind 75 [(0, .ref (G.1 + 126)), (1, .int l1), (2, .int l2), (3, .int l3), (4, .int l4)] [.int s0] (sd_F h) := by
  unfold YM_addsKind_B75 at hf
  refine sd_istore (i := 5) (pc' := 77) (lo' := [(5, .int s0), (0, .ref (G.1 + 126)), (1, .int l1), (2, .int l2), (3, .int l3), (4, .int l4)]) (by decide +kernel) (by decide) rfl ?_
  refine sd_iload (i := 5) (q := 0) (pc' := 79) (by decide +kernel) rfl ?_
  refine sd_if_eq (off := 8) (tgt := 87) (pc' := 82) (by decide +kernel) (fun c31 => ?_) (fun c31 => ?_)
  · replace hf := ite_p c31 hf
    refine sd_iload_n (k := 3) (i := 3) (q := 4) (pc' := 88) (by decide +kernel) rfl rfl ?_
    refine sd_J.sub (lo' := [(0, .ref (G.1 + 126)), (1, .int l1), (2, .int l2), (4, .int l4)]) [1, 2, 3, 5] rfl ?_
    exact J_YM_addsKind_B88 hE hK5 hf
  · replace hf := ite_n c31 hf
    refine sd_iload (i := 4) (q := 5) (pc' := 84) (by decide +kernel) rfl ?_
    refine sd_goto (off := 4) (tgt := 88) (pc' := 87) (by decide +kernel) ?_
    refine sd_J.sub (lo' := [(0, .ref (G.1 + 126)), (1, .int l1), (2, .int l2), (4, .int l4)]) [1, 2, 3, 5] rfl ?_
    exact J_YM_addsKind_B88 hE hK5 hf
def YM_addsKind_B74 (h : sd_H) (K5 : sd_H → Int32 → Int32 → Int32 → Int32 → Option sd_H) (l1 : Int32) (l2 : Int32) (l3 : Int32) (l4 : Int32) : Option sd_H :=
  YM_addsKind_B75 h K5 l1 l2 l3 l4 0
set_option maxHeartbeats 4000000 in
set_option maxRecDepth 100000 in
theorem J_YM_addsKind_B74 {G : sd_GX} {X : sd_CX} (hE : ∀ g : sd_H, sd_end G X M_YM_addsKind (sd_F g)) {h : sd_H} {K5 : sd_H → Int32 → Int32 → Int32 → Int32 → Option sd_H} {r : sd_H} (hK5 : ∀ (g : sd_H) (l1 : Int32) (l2 : Int32) (l3 : Int32) (l4 : Int32), K5 g l1 l2 l3 l4 = some r → sd_J G X (sd_QR G X M_YM_addsKind (none, sd_F r)) M_YM_addsKind 5 [(0, .ref (G.1 + 126)), (1, .int l1), (2, .int l2), (3, .int l3), (4, .int l4)] [] (sd_F g)) {l1 : Int32} {l2 : Int32} {l3 : Int32} {l4 : Int32} (hf : YM_addsKind_B74 h K5 l1 l2 l3 l4 = some r) : sd_J G X (sd_QR G X M_YM_addsKind (none, sd_F r)) M_YM_addsKind 74 [(0, .ref (G.1 + 126)), (1, .int l1), (2, .int l2), (3, .int l3), (4, .int l4)] [] (sd_F h) := by
  unfold YM_addsKind_B74 at hf
  refine sd_iconst (n := 0) (v := 0) (pc' := 75) (by decide +kernel) (by decide) ?_
  refine sd_J.sub (lo' := [(0, .ref (G.1 + 126)), (1, .int l1), (2, .int l2), (3, .int l3), (4, .int l4)]) [0, 1, 2, 3, 4] rfl ?_
  exact J_YM_addsKind_B75 hE hK5 hf
def YM_addsKind_L5 : Nat → sd_H → Int32 → Int32 → Int32 → Int32 → Option sd_H
  | 0, _, _, _, _, _ => none
  | n + 1, h, l1, l2, l3, l4 =>
  (if (h.1 126 22) ≤ l4 then (if l3 = (-1) then b1 (YM_firstOf h l1 l2) (fun t8 => gd (sd_inB (4 * (h.1 126 22)) 120) (hb (wI h 143 ((4 * (h.1 126 22)) : Int32).toNatClampNeg t8) (fun h10 => b1 (YM_strideOf h10 l1) (fun t13 => gd (sd_inB ((4 * (h.1 126 22)) + 1) 120) (hb (wI h10 143 (((4 * (h.1 126 22)) + 1) : Int32).toNatClampNeg t13) (fun h15 => b1 (YM_manyOf h15 l1) (fun t18 => gd (sd_inB ((4 * (h.1 126 22)) + 2) 120) (hb (wI h15 143 (((4 * (h.1 126 22)) + 2) : Int32).toNatClampNeg t18) (fun h20 => gd (sd_inB ((4 * (h.1 126 22)) + 3) 120) (hb (wI h20 143 (((4 * (h.1 126 22)) + 3) : Int32).toNatClampNeg 0) (fun h23 => hb (wI h23 126 22 ((h23.1 126 22) + 1)) (fun h25 => YM_addsKind_B170 h25 (h.1 126 22))))))))))))) else YM_addsKind_B170 h l3) else gd (sd_inB (4 * l4) 120) (b1 (YM_firstOf h l1 l2) (fun t29 => (if (h.1 143 ((4 * l4) : Int32).toNatClampNeg) = t29 then gd (sd_inB ((4 * l4) + 1) 120) (b1 (YM_strideOf h l1) (fun t34 => (if (h.1 143 (((4 * l4) + 1) : Int32).toNatClampNeg) = t34 then gd (sd_inB ((4 * l4) + 2) 120) (b1 (YM_manyOf h l1) (fun t38 => (if (h.1 143 (((4 * l4) + 2) : Int32).toNatClampNeg) = t38 then YM_addsKind_B75 h (YM_addsKind_L5 n) l1 l2 l3 l4 1 else YM_addsKind_B74 h (YM_addsKind_L5 n) l1 l2 l3 l4))) else YM_addsKind_B74 h (YM_addsKind_L5 n) l1 l2 l3 l4))) else YM_addsKind_B74 h (YM_addsKind_L5 n) l1 l2 l3 l4))))
set_option maxHeartbeats 4000000 in
set_option maxRecDepth 100000 in
theorem J_YM_addsKind_L5 {G : sd_GX} {X : sd_CX} (hE : ∀ g : sd_H, sd_end G X M_YM_addsKind (sd_F g))  {r : sd_H} : ∀ (n : Nat) (h : sd_H) (l1 : Int32) (l2 : Int32) (l3 : Int32) (l4 : Int32), YM_addsKind_L5 n h l1 l2 l3 l4 = some r → sd_J G X (sd_QR G X M_YM_addsKind (none, sd_F r)) M_YM_addsKind 5 [(0, .ref (G.1 + 126)), (1, .int l1), (2, .int l2), (3, .int l3), (4, .int l4)] [] (sd_F h) := by
  intro n
  induction n with
  | zero =>
    intro h l1 l2 l3 l4 hf
    rw [YM_addsKind_L5] at hf
    cases hf
  | succ n ih =>
    intro h l1 l2 l3 l4 hf
    rw [YM_addsKind_L5] at hf
    refine sd_iload (i := 4) (q := 4) (pc' := 7) (by decide +kernel) rfl ?_
    refine sd_aload_n (k := 0) (i := 0) (q := 0) (pc' := 8) (by decide +kernel) rfl rfl ?_
    refine sF_gi (idx := 225) (ci := 12) (k := 22) (n := 47) (pc' := 11) (by decide +kernel) fl_X12_225 (by decide +kernel) rfl SH_126 ?_
    refine sd_icmp_ge (off := 84) (tgt := 95) (pc' := 14) (by decide +kernel) (fun c1 => ?_) (fun c1 => ?_)
    · replace hf := ite_p c1 hf
      refine sd_iload_n (k := 3) (i := 3) (q := 3) (pc' := 96) (by decide +kernel) rfl rfl ?_
      refine sd_iconst (n := -1) (v := (-1)) (pc' := 97) (by decide +kernel) (by decide) ?_
      refine sd_icmp_ne (off := 73) (tgt := 170) (pc' := 100) (by decide +kernel) (fun c2 => ?_) (fun c2 => ?_)
      · replace hf := ite_n c2 hf
        refine sd_J.sub (lo' := [(0, .ref (G.1 + 126)), (3, .int l3)]) [0, 3] rfl ?_
        exact J_YM_addsKind_B170 hE hf
      · replace hf := ite_p c2 hf
        refine sd_aload_n (k := 0) (i := 0) (q := 0) (pc' := 101) (by decide +kernel) rfl rfl ?_
        refine sF_gi (idx := 225) (ci := 12) (k := 22) (n := 47) (pc' := 104) (by decide +kernel) fl_X12_225 (by decide +kernel) rfl SH_126 ?_
        refine sd_istore_n (k := 3) (i := 3) (pc' := 105) (lo' := [(3, .int (h.1 126 22)), (0, .ref (G.1 + 126)), (1, .int l1), (2, .int l2), (4, .int l4)]) (by decide +kernel) rfl (by decide) rfl ?_
        refine sd_aload_n (k := 0) (i := 0) (q := 1) (pc' := 106) (by decide +kernel) rfl rfl ?_
        refine sF_gr (idx := 59) (ci := 12) (k := 21) (n := 47) (r := 143) (pc' := 109) (by decide +kernel) fl_X12_59 (by decide +kernel) rfl SH_126 (by decide) (by decide +kernel) ?_
        refine sd_iconst (n := 4) (v := 4) (pc' := 110) (by decide +kernel) (by decide) ?_
        refine sd_iload_n (k := 3) (i := 3) (q := 0) (pc' := 111) (by decide +kernel) rfl rfl ?_
        refine sd_imul (pc' := 112) (by decide +kernel) ?_
        refine sd_aload_n (k := 0) (i := 0) (q := 1) (pc' := 113) (by decide +kernel) rfl rfl ?_
        refine sd_iload_n (k := 1) (i := 1) (q := 2) (pc' := 114) (by decide +kernel) rfl rfl ?_
        refine sd_iload_n (k := 2) (i := 2) (q := 3) (pc' := 115) (by decide +kernel) rfl rfl ?_
        obtain ⟨t8, q7, hf⟩ := b1_some hf
        refine sF_callV (idx := 206) (b := 126) (As := [.int l1, .int l2]) (ci := 12) (nn := 47) (pc' := 118) 2 (T_YM_firstOf (G := G) (h := h)  q7) (by decide +kernel) mv_YM_firstOf ml_X12_206 (by decide +kernel) rfl rfl (Nat.le_of_ble_eq_true rfl) SH_126 rfl (by decide) rfl rfl ?_
        obtain ⟨g9, hf⟩ := gd_some hf
        obtain ⟨h10, e11, hf⟩ := hb_some hf
        refine sF_iast (n := 120) (pc' := 119) (by decide +kernel) SH_143 g9 ?_
        rw [← e11]; clear e11
        refine sd_aload_n (k := 0) (i := 0) (q := 1) (pc' := 120) (by decide +kernel) rfl rfl ?_
        refine sF_gr (idx := 59) (ci := 12) (k := 21) (n := 47) (r := 143) (pc' := 123) (by decide +kernel) fl_X12_59 (by decide +kernel) rfl SH_126 (by decide) (by decide +kernel) ?_
        refine sd_iconst (n := 4) (v := 4) (pc' := 124) (by decide +kernel) (by decide) ?_
        refine sd_iload_n (k := 3) (i := 3) (q := 0) (pc' := 125) (by decide +kernel) rfl rfl ?_
        refine sd_imul (pc' := 126) (by decide +kernel) ?_
        refine sd_iconst (n := 1) (v := 1) (pc' := 127) (by decide +kernel) (by decide) ?_
        refine sd_iadd (pc' := 128) (by decide +kernel) ?_
        refine sd_aload_n (k := 0) (i := 0) (q := 1) (pc' := 129) (by decide +kernel) rfl rfl ?_
        refine sd_iload_n (k := 1) (i := 1) (q := 2) (pc' := 130) (by decide +kernel) rfl rfl ?_
        obtain ⟨t13, q12, hf⟩ := b1_some hf
        refine sF_callV (idx := 209) (b := 126) (As := [.int l1]) (ci := 12) (nn := 47) (pc' := 133) 1 (T_YM_strideOf (G := G) (h := h10)  q12) (by decide +kernel) mv_YM_strideOf ml_X12_209 (by decide +kernel) rfl rfl (Nat.le_of_ble_eq_true rfl) SH_126 rfl (by decide) rfl rfl ?_
        obtain ⟨g14, hf⟩ := gd_some hf
        obtain ⟨h15, e16, hf⟩ := hb_some hf
        refine sF_iast (n := 120) (pc' := 134) (by decide +kernel) SH_143 g14 ?_
        rw [← e16]; clear e16
        refine sd_aload_n (k := 0) (i := 0) (q := 1) (pc' := 135) (by decide +kernel) rfl rfl ?_
        refine sF_gr (idx := 59) (ci := 12) (k := 21) (n := 47) (r := 143) (pc' := 138) (by decide +kernel) fl_X12_59 (by decide +kernel) rfl SH_126 (by decide) (by decide +kernel) ?_
        refine sd_iconst (n := 4) (v := 4) (pc' := 139) (by decide +kernel) (by decide) ?_
        refine sd_iload_n (k := 3) (i := 3) (q := 0) (pc' := 140) (by decide +kernel) rfl rfl ?_
        refine sd_imul (pc' := 141) (by decide +kernel) ?_
        refine sd_iconst (n := 2) (v := 2) (pc' := 142) (by decide +kernel) (by decide) ?_
        refine sd_iadd (pc' := 143) (by decide +kernel) ?_
        refine sd_aload_n (k := 0) (i := 0) (q := 1) (pc' := 144) (by decide +kernel) rfl rfl ?_
        refine sd_iload_n (k := 1) (i := 1) (q := 2) (pc' := 145) (by decide +kernel) rfl rfl ?_
        obtain ⟨t18, q17, hf⟩ := b1_some hf
        refine sF_callV (idx := 203) (b := 126) (As := [.int l1]) (ci := 12) (nn := 47) (pc' := 148) 1 (T_YM_manyOf (G := G) (h := h15)  q17) (by decide +kernel) mv_YM_manyOf ml_X12_203 (by decide +kernel) rfl rfl (Nat.le_of_ble_eq_true rfl) SH_126 rfl (by decide) rfl rfl ?_
        obtain ⟨g19, hf⟩ := gd_some hf
        obtain ⟨h20, e21, hf⟩ := hb_some hf
        refine sF_iast (n := 120) (pc' := 149) (by decide +kernel) SH_143 g19 ?_
        rw [← e21]; clear e21
        refine sd_aload_n (k := 0) (i := 0) (q := 1) (pc' := 150) (by decide +kernel) rfl rfl ?_
        refine sF_gr (idx := 59) (ci := 12) (k := 21) (n := 47) (r := 143) (pc' := 153) (by decide +kernel) fl_X12_59 (by decide +kernel) rfl SH_126 (by decide) (by decide +kernel) ?_
        refine sd_iconst (n := 4) (v := 4) (pc' := 154) (by decide +kernel) (by decide) ?_
        refine sd_iload_n (k := 3) (i := 3) (q := 0) (pc' := 155) (by decide +kernel) rfl rfl ?_
        refine sd_imul (pc' := 156) (by decide +kernel) ?_
        refine sd_iconst (n := 3) (v := 3) (pc' := 157) (by decide +kernel) (by decide) ?_
        refine sd_iadd (pc' := 158) (by decide +kernel) ?_
        refine sd_iconst (n := 0) (v := 0) (pc' := 159) (by decide +kernel) (by decide) ?_
        obtain ⟨g22, hf⟩ := gd_some hf
        obtain ⟨h23, e24, hf⟩ := hb_some hf
        refine sF_iast (n := 120) (pc' := 160) (by decide +kernel) SH_143 g22 ?_
        rw [← e24]; clear e24
        refine sd_aload_n (k := 0) (i := 0) (q := 1) (pc' := 161) (by decide +kernel) rfl rfl ?_
        refine sd_dup (pc' := 162) (by decide +kernel) rfl ?_
        refine sF_gi (idx := 225) (ci := 12) (k := 22) (n := 47) (pc' := 165) (by decide +kernel) fl_X12_225 (by decide +kernel) rfl SH_126 ?_
        refine sd_iconst (n := 1) (v := 1) (pc' := 166) (by decide +kernel) (by decide) ?_
        refine sd_iadd (pc' := 167) (by decide +kernel) ?_
        obtain ⟨h25, e26, hf⟩ := hb_some hf
        refine sF_pi (idx := 225) (ci := 12) (k := 22) (n := 47) (pc' := 170) (by decide +kernel) fl_X12_225 (by decide +kernel) rfl rfl rfl SH_126 ?_
        rw [← e26]; clear e26
        refine sd_J.sub (lo' := [(0, .ref (G.1 + 126)), (3, .int (h.1 126 22))]) [1, 0] rfl ?_
        exact J_YM_addsKind_B170 hE hf
    · replace hf := ite_n c1 hf
      refine sd_aload_n (k := 0) (i := 0) (q := 0) (pc' := 15) (by decide +kernel) rfl rfl ?_
      refine sF_gr (idx := 59) (ci := 12) (k := 21) (n := 47) (r := 143) (pc' := 18) (by decide +kernel) fl_X12_59 (by decide +kernel) rfl SH_126 (by decide) (by decide +kernel) ?_
      refine sd_iconst (n := 4) (v := 4) (pc' := 19) (by decide +kernel) (by decide) ?_
      refine sd_iload (i := 4) (q := 4) (pc' := 21) (by decide +kernel) rfl ?_
      refine sd_imul (pc' := 22) (by decide +kernel) ?_
      obtain ⟨g27, hf⟩ := gd_some hf
      refine sF_iald (n := 120) (pc' := 23) (by decide +kernel) SH_143 g27 ?_
      refine sd_aload_n (k := 0) (i := 0) (q := 0) (pc' := 24) (by decide +kernel) rfl rfl ?_
      refine sd_iload_n (k := 1) (i := 1) (q := 1) (pc' := 25) (by decide +kernel) rfl rfl ?_
      refine sd_iload_n (k := 2) (i := 2) (q := 2) (pc' := 26) (by decide +kernel) rfl rfl ?_
      obtain ⟨t29, q28, hf⟩ := b1_some hf
      refine sF_callV (idx := 206) (b := 126) (As := [.int l1, .int l2]) (ci := 12) (nn := 47) (pc' := 29) 2 (T_YM_firstOf (G := G) (h := h)  q28) (by decide +kernel) mv_YM_firstOf ml_X12_206 (by decide +kernel) rfl rfl (Nat.le_of_ble_eq_true rfl) SH_126 rfl (by decide) rfl rfl ?_
      refine sd_icmp_ne (off := 45) (tgt := 74) (pc' := 32) (by decide +kernel) (fun c30 => ?_) (fun c30 => ?_)
      · replace hf := ite_n c30 hf
        refine sd_J.sub (lo' := [(0, .ref (G.1 + 126)), (1, .int l1), (2, .int l2), (3, .int l3), (4, .int l4)]) [0, 1, 2, 3, 4] rfl ?_
        exact J_YM_addsKind_B74 hE ih hf
      · replace hf := ite_p c30 hf
        refine sd_aload_n (k := 0) (i := 0) (q := 0) (pc' := 33) (by decide +kernel) rfl rfl ?_
        refine sF_gr (idx := 59) (ci := 12) (k := 21) (n := 47) (r := 143) (pc' := 36) (by decide +kernel) fl_X12_59 (by decide +kernel) rfl SH_126 (by decide) (by decide +kernel) ?_
        refine sd_iconst (n := 4) (v := 4) (pc' := 37) (by decide +kernel) (by decide) ?_
        refine sd_iload (i := 4) (q := 4) (pc' := 39) (by decide +kernel) rfl ?_
        refine sd_imul (pc' := 40) (by decide +kernel) ?_
        refine sd_iconst (n := 1) (v := 1) (pc' := 41) (by decide +kernel) (by decide) ?_
        refine sd_iadd (pc' := 42) (by decide +kernel) ?_
        obtain ⟨g32, hf⟩ := gd_some hf
        refine sF_iald (n := 120) (pc' := 43) (by decide +kernel) SH_143 g32 ?_
        refine sd_aload_n (k := 0) (i := 0) (q := 0) (pc' := 44) (by decide +kernel) rfl rfl ?_
        refine sd_iload_n (k := 1) (i := 1) (q := 1) (pc' := 45) (by decide +kernel) rfl rfl ?_
        obtain ⟨t34, q33, hf⟩ := b1_some hf
        refine sF_callV (idx := 209) (b := 126) (As := [.int l1]) (ci := 12) (nn := 47) (pc' := 48) 1 (T_YM_strideOf (G := G) (h := h)  q33) (by decide +kernel) mv_YM_strideOf ml_X12_209 (by decide +kernel) rfl rfl (Nat.le_of_ble_eq_true rfl) SH_126 rfl (by decide) rfl rfl ?_
        refine sd_icmp_ne (off := 26) (tgt := 74) (pc' := 51) (by decide +kernel) (fun c35 => ?_) (fun c35 => ?_)
        · replace hf := ite_n c35 hf
          refine sd_J.sub (lo' := [(0, .ref (G.1 + 126)), (1, .int l1), (2, .int l2), (3, .int l3), (4, .int l4)]) [0, 1, 2, 3, 4] rfl ?_
          exact J_YM_addsKind_B74 hE ih hf
        · replace hf := ite_p c35 hf
          refine sd_aload_n (k := 0) (i := 0) (q := 0) (pc' := 52) (by decide +kernel) rfl rfl ?_
          refine sF_gr (idx := 59) (ci := 12) (k := 21) (n := 47) (r := 143) (pc' := 55) (by decide +kernel) fl_X12_59 (by decide +kernel) rfl SH_126 (by decide) (by decide +kernel) ?_
          refine sd_iconst (n := 4) (v := 4) (pc' := 56) (by decide +kernel) (by decide) ?_
          refine sd_iload (i := 4) (q := 4) (pc' := 58) (by decide +kernel) rfl ?_
          refine sd_imul (pc' := 59) (by decide +kernel) ?_
          refine sd_iconst (n := 2) (v := 2) (pc' := 60) (by decide +kernel) (by decide) ?_
          refine sd_iadd (pc' := 61) (by decide +kernel) ?_
          obtain ⟨g36, hf⟩ := gd_some hf
          refine sF_iald (n := 120) (pc' := 62) (by decide +kernel) SH_143 g36 ?_
          refine sd_aload_n (k := 0) (i := 0) (q := 0) (pc' := 63) (by decide +kernel) rfl rfl ?_
          refine sd_iload_n (k := 1) (i := 1) (q := 1) (pc' := 64) (by decide +kernel) rfl rfl ?_
          obtain ⟨t38, q37, hf⟩ := b1_some hf
          refine sF_callV (idx := 203) (b := 126) (As := [.int l1]) (ci := 12) (nn := 47) (pc' := 67) 1 (T_YM_manyOf (G := G) (h := h)  q37) (by decide +kernel) mv_YM_manyOf ml_X12_203 (by decide +kernel) rfl rfl (Nat.le_of_ble_eq_true rfl) SH_126 rfl (by decide) rfl rfl ?_
          refine sd_icmp_ne (off := 7) (tgt := 74) (pc' := 70) (by decide +kernel) (fun c39 => ?_) (fun c39 => ?_)
          · replace hf := ite_n c39 hf
            refine sd_J.sub (lo' := [(0, .ref (G.1 + 126)), (1, .int l1), (2, .int l2), (3, .int l3), (4, .int l4)]) [0, 1, 2, 3, 4] rfl ?_
            exact J_YM_addsKind_B74 hE ih hf
          · replace hf := ite_p c39 hf
            refine sd_iconst (n := 1) (v := 1) (pc' := 71) (by decide +kernel) (by decide) ?_
            refine sd_goto (off := 4) (tgt := 75) (pc' := 74) (by decide +kernel) ?_
            refine sd_J.sub (lo' := [(0, .ref (G.1 + 126)), (1, .int l1), (2, .int l2), (3, .int l3), (4, .int l4)]) [0, 1, 2, 3, 4] rfl ?_
            exact J_YM_addsKind_B75 hE ih hf
def YM_addsKind (h : sd_H) (a0 : Int32) (a1 : Int32) : Option sd_H :=
  YM_addsKind_L5 FU h a0 a1 (-1) 0
set_option maxHeartbeats 4000000 in
set_option maxRecDepth 100000 in
theorem T_YM_addsKind {G : sd_GX} {h : sd_H} {a0 : Int32} {a1 : Int32} {r : sd_H} (hf : YM_addsKind h a0 a1 = some r) : sd_RunF G M_YM_addsKind [.ref (G.1 + 126), .int a0, .int a1] h none r := by
  refine sF_run ⟨rfl, rfl⟩ (by decide +kernel) (Nat.le_of_ble_eq_true rfl) (lo := [(0, .ref (G.1 + 126)), (1, .int a0), (2, .int a1)]) rfl (fun X hE => ?_)
  unfold YM_addsKind at hf
  refine sd_iconst (n := -1) (v := (-1)) (pc' := 1) (by decide +kernel) (by decide) ?_
  refine sd_istore_n (k := 3) (i := 3) (pc' := 2) (lo' := [(3, .int (-1)), (0, .ref (G.1 + 126)), (1, .int a0), (2, .int a1)]) (by decide +kernel) rfl (by decide) rfl ?_
  refine sd_iconst (n := 0) (v := 0) (pc' := 3) (by decide +kernel) (by decide) ?_
  refine sd_istore (i := 4) (pc' := 5) (lo' := [(4, .int 0), (3, .int (-1)), (0, .ref (G.1 + 126)), (1, .int a0), (2, .int a1)]) (by decide +kernel) (by decide) rfl ?_
  refine sd_J.sub (lo' := [(0, .ref (G.1 + 126)), (1, .int a0), (2, .int a1), (3, .int (-1)), (4, .int 0)]) [2, 3, 4, 1, 0] rfl ?_
  exact J_YM_addsKind_L5 hE _ _ _ _ _ _ hf

theorem ml_X12_228 : Cond.methodLink RX12 228 yX12_isLooked ∈ sd_tb := sd_mem (i := 1479) (by decide +kernel)
theorem mv_YM_isLooked : sd_mV M_YM_isLooked 1 := ⟨sd_mem (i := 1481) (by decide +kernel), sd_mem (i := 60) (by decide +kernel), ⟨sd_mem (i := 1482) (by decide +kernel), sd_mem (i := 119) (by decide +kernel), by decide +kernel, by decide +kernel, by decide +kernel⟩⟩
theorem ml_X12_231 : Cond.methodLink RX12 231 yX12_addsKind ∈ sd_tb := sd_mem (i := 1483) (by decide +kernel)
theorem mv_YM_addsKind : sd_mV M_YM_addsKind 2 := ⟨sd_mem (i := 1485) (by decide +kernel), sd_mem (i := 61) (by decide +kernel), ⟨sd_mem (i := 1486) (by decide +kernel), sd_mem (i := 119) (by decide +kernel), by decide +kernel, by decide +kernel, by decide +kernel⟩⟩
def M_YM_addsIf : sd_MX := (yX12_addsIf, cX12_addsIf, 4, none, { frames := 4, cells := 0, slots := 0, locals := 112 })
def YM_addsIf (h : sd_H) (a0 : Int32) (a1 : Int32) (a2 : Int32) : Option sd_H :=
  b1 (YM_isLooked h a0) (fun t2 => (if t2 = 0 then some h else gd (sd_inB a0 15) ((if (h.1 137 (a0 : Int32).toNatClampNeg) = a2 then b1 (YM_addsKind h a0 a1) (fun h7 => some h7) else some h))))
set_option maxHeartbeats 4000000 in
set_option maxRecDepth 100000 in
theorem T_YM_addsIf {G : sd_GX} {h : sd_H} {a0 : Int32} {a1 : Int32} {a2 : Int32} {r : sd_H} (hf : YM_addsIf h a0 a1 a2 = some r) : sd_RunF G M_YM_addsIf [.ref (G.1 + 126), .int a0, .int a1, .int a2] h none r := by
  refine sF_run ⟨rfl, rfl⟩ (by decide +kernel) (Nat.le_of_ble_eq_true rfl) (lo := [(0, .ref (G.1 + 126)), (1, .int a0), (2, .int a1), (3, .int a2)]) rfl (fun X hE => ?_)
  unfold YM_addsIf at hf
  refine sd_aload_n (k := 0) (i := 0) (q := 0) (pc' := 1) (by decide +kernel) rfl rfl ?_
  refine sd_iload_n (k := 1) (i := 1) (q := 1) (pc' := 2) (by decide +kernel) rfl rfl ?_
  obtain ⟨t2, q1, hf⟩ := b1_some hf
  refine sF_callV (idx := 228) (b := 126) (As := [.int a0]) (ci := 12) (nn := 47) (pc' := 5) 1 (T_YM_isLooked (G := G) (h := h)  q1) (by decide +kernel) mv_YM_isLooked ml_X12_228 (by decide +kernel) rfl rfl (Nat.le_of_ble_eq_true rfl) SH_126 rfl (by decide) rfl rfl ?_
  refine sd_if_eq (off := 19) (tgt := 24) (pc' := 8) (by decide +kernel) (fun c3 => ?_) (fun c3 => ?_)
  · replace hf := ite_p c3 hf
    obtain rfl := Option.some.inj hf
    exact sd_vret (by decide +kernel) rfl (hE _)
  · replace hf := ite_n c3 hf
    refine sd_aload_n (k := 0) (i := 0) (q := 0) (pc' := 9) (by decide +kernel) rfl rfl ?_
    refine sF_gr (idx := 41) (ci := 12) (k := 13) (n := 47) (r := 137) (pc' := 12) (by decide +kernel) fl_X12_41 (by decide +kernel) rfl SH_126 (by decide) (by decide +kernel) ?_
    refine sd_iload_n (k := 1) (i := 1) (q := 1) (pc' := 13) (by decide +kernel) rfl rfl ?_
    obtain ⟨g4, hf⟩ := gd_some hf
    refine sF_iald (n := 15) (pc' := 14) (by decide +kernel) SH_137 g4 ?_
    refine sd_iload_n (k := 3) (i := 3) (q := 3) (pc' := 15) (by decide +kernel) rfl rfl ?_
    refine sd_icmp_ne (off := 9) (tgt := 24) (pc' := 18) (by decide +kernel) (fun c5 => ?_) (fun c5 => ?_)
    · replace hf := ite_n c5 hf
      obtain rfl := Option.some.inj hf
      exact sd_vret (by decide +kernel) rfl (hE _)
    · replace hf := ite_p c5 hf
      refine sd_aload_n (k := 0) (i := 0) (q := 0) (pc' := 19) (by decide +kernel) rfl rfl ?_
      refine sd_iload_n (k := 1) (i := 1) (q := 1) (pc' := 20) (by decide +kernel) rfl rfl ?_
      refine sd_iload_n (k := 2) (i := 2) (q := 2) (pc' := 21) (by decide +kernel) rfl rfl ?_
      obtain ⟨h7, q6, hf⟩ := b1_some hf
      refine sF_callV0 (idx := 231) (b := 126) (As := [.int a0, .int a1]) (ci := 12) (nn := 47) (pc' := 24) 2 (T_YM_addsKind (G := G) (h := h)  q6) (by decide +kernel) mv_YM_addsKind ml_X12_231 (by decide +kernel) rfl rfl (Nat.le_of_ble_eq_true rfl) SH_126 rfl (by decide) rfl rfl ?_
      obtain rfl := Option.some.inj hf
      exact sd_vret (by decide +kernel) rfl (hE _)

theorem ml_X12_235 : Cond.methodLink RX12 235 yX12_addsIf ∈ sd_tb := sd_mem (i := 1475) (by decide +kernel)
theorem mv_YM_addsIf : sd_mV M_YM_addsIf 3 := ⟨sd_mem (i := 1477) (by decide +kernel), sd_mem (i := 59) (by decide +kernel), ⟨sd_mem (i := 1478) (by decide +kernel), sd_mem (i := 119) (by decide +kernel), by decide +kernel, by decide +kernel, by decide +kernel⟩⟩
def M_YM_findsKinds : sd_MX := (yX12_findsKinds, cX12_findsKinds, 4, (some .int), { frames := 5, cells := 0, slots := 0, locals := 135 })
def YM_findsKinds_B55 (h : sd_H) (K7 : sd_H → Int32 → Int32 → Int32 → Option (sd_H × Int32)) (l1 : Int32) (l2 : Int32) (l3 : Int32) : Option (sd_H × Int32) :=
  K7 h l1 l2 (l3 + 1)
set_option maxHeartbeats 4000000 in
set_option maxRecDepth 100000 in
theorem J_YM_findsKinds_B55 {G : sd_GX} {X : sd_CX} (hE : ∀ g : sd_H, sd_end G X M_YM_findsKinds (sd_F g)) {h : sd_H} {K7 : sd_H → Int32 → Int32 → Int32 → Option (sd_H × Int32)} {r : (sd_H × Int32)} (hK7 : ∀ (g : sd_H) (l1 : Int32) (l2 : Int32) (l3 : Int32), K7 g l1 l2 l3 = some r → sd_J G X (sd_QR G X M_YM_findsKinds (some (.int r.2), sd_F r.1)) M_YM_findsKinds 7 [(0, .ref (G.1 + 126)), (1, .int l1), (2, .int l2), (3, .int l3)] [] (sd_F g)) {l1 : Int32} {l2 : Int32} {l3 : Int32} (hf : YM_findsKinds_B55 h K7 l1 l2 l3 = some r) : sd_J G X (sd_QR G X M_YM_findsKinds (some (.int r.2), sd_F r.1)) M_YM_findsKinds 55 [(0, .ref (G.1 + 126)), (1, .int l1), (2, .int l2), (3, .int l3)] [] (sd_F h) := by
  unfold YM_findsKinds_B55 at hf
  refine sd_iinc (i := 3) (q := 3) (n := 1) (v := (l3 + 1)) (pc' := 58) (lo' := [(3, .int (l3 + 1)), (0, .ref (G.1 + 126)), (1, .int l1), (2, .int l2)]) (by decide +kernel) rfl rfl (by decide) rfl ?_
  refine sd_goto (off := -51) (tgt := 7) (pc' := 61) (by decide +kernel) ?_
  refine sd_J.sub (lo' := [(0, .ref (G.1 + 126)), (1, .int l1), (2, .int l2), (3, .int (l3 + 1))]) [1, 2, 3, 0] rfl ?_
  exact hK7 _ _ _ _ hf
def YM_findsKinds_L7 : Nat → sd_H → Int32 → Int32 → Int32 → Option (sd_H × Int32)
  | 0, _, _, _, _ => none
  | n + 1, h, l1, l2, l3 =>
  (if (h.1 126 6) ≤ l3 then some (h, (h.1 126 22)) else b1 (YM_isDone h l1 l3) (fun t5 => (if t5 = 0 then YM_findsKinds_B55 h (YM_findsKinds_L7 n) l1 l2 l3 else b1 (YM_addsIf h ((3 * l1) + 1) l3 l2) (fun h8 => b1 (YM_addsIf h8 ((3 * l1) + 2) l3 l2) (fun h10 => b1 (YM_addsIf h10 (3 * l1) l3 l2) (fun h12 => YM_findsKinds_B55 h12 (YM_findsKinds_L7 n) l1 l2 l3))))))
set_option maxHeartbeats 4000000 in
set_option maxRecDepth 100000 in
theorem J_YM_findsKinds_L7 {G : sd_GX} {X : sd_CX} (hE : ∀ g : sd_H, sd_end G X M_YM_findsKinds (sd_F g))  {r : (sd_H × Int32)} : ∀ (n : Nat) (h : sd_H) (l1 : Int32) (l2 : Int32) (l3 : Int32), YM_findsKinds_L7 n h l1 l2 l3 = some r → sd_J G X (sd_QR G X M_YM_findsKinds (some (.int r.2), sd_F r.1)) M_YM_findsKinds 7 [(0, .ref (G.1 + 126)), (1, .int l1), (2, .int l2), (3, .int l3)] [] (sd_F h) := by
  intro n
  induction n with
  | zero =>
    intro h l1 l2 l3 hf
    rw [YM_findsKinds_L7] at hf
    cases hf
  | succ n ih =>
    intro h l1 l2 l3 hf
    rw [YM_findsKinds_L7] at hf
    refine sd_iload_n (k := 3) (i := 3) (q := 3) (pc' := 8) (by decide +kernel) rfl rfl ?_
    refine sd_aload_n (k := 0) (i := 0) (q := 0) (pc' := 9) (by decide +kernel) rfl rfl ?_
    refine sF_gi (idx := 154) (ci := 12) (k := 6) (n := 47) (pc' := 12) (by decide +kernel) fl_X12_154 (by decide +kernel) rfl SH_126 ?_
    refine sd_icmp_ge (off := 49) (tgt := 61) (pc' := 15) (by decide +kernel) (fun c3 => ?_) (fun c3 => ?_)
    · replace hf := ite_p c3 hf
      refine sd_aload_n (k := 0) (i := 0) (q := 0) (pc' := 62) (by decide +kernel) rfl rfl ?_
      refine sF_gi (idx := 225) (ci := 12) (k := 22) (n := 47) (pc' := 65) (by decide +kernel) fl_X12_225 (by decide +kernel) rfl SH_126 ?_
      obtain rfl := Option.some.inj hf
      exact sd_iret (by decide +kernel) rfl (hE _)
    · replace hf := ite_n c3 hf
      refine sd_aload_n (k := 0) (i := 0) (q := 0) (pc' := 16) (by decide +kernel) rfl rfl ?_
      refine sd_iload_n (k := 1) (i := 1) (q := 1) (pc' := 17) (by decide +kernel) rfl rfl ?_
      refine sd_iload_n (k := 3) (i := 3) (q := 3) (pc' := 18) (by decide +kernel) rfl rfl ?_
      obtain ⟨t5, q4, hf⟩ := b1_some hf
      refine sF_callV (idx := 177) (b := 126) (As := [.int l1, .int l3]) (ci := 12) (nn := 47) (pc' := 21) 2 (T_YM_isDone (G := G) (h := h)  q4) (by decide +kernel) mv_YM_isDone ml_X12_177 (by decide +kernel) rfl rfl (Nat.le_of_ble_eq_true rfl) SH_126 rfl (by decide) rfl rfl ?_
      refine sd_if_eq (off := 34) (tgt := 55) (pc' := 24) (by decide +kernel) (fun c6 => ?_) (fun c6 => ?_)
      · replace hf := ite_p c6 hf
        refine sd_J.sub (lo' := [(0, .ref (G.1 + 126)), (1, .int l1), (2, .int l2), (3, .int l3)]) [0, 1, 2, 3] rfl ?_
        exact J_YM_findsKinds_B55 hE ih hf
      · replace hf := ite_n c6 hf
        refine sd_aload_n (k := 0) (i := 0) (q := 0) (pc' := 25) (by decide +kernel) rfl rfl ?_
        refine sd_iconst (n := 3) (v := 3) (pc' := 26) (by decide +kernel) (by decide) ?_
        refine sd_iload_n (k := 1) (i := 1) (q := 1) (pc' := 27) (by decide +kernel) rfl rfl ?_
        refine sd_imul (pc' := 28) (by decide +kernel) ?_
        refine sd_iconst (n := 1) (v := 1) (pc' := 29) (by decide +kernel) (by decide) ?_
        refine sd_iadd (pc' := 30) (by decide +kernel) ?_
        refine sd_iload_n (k := 3) (i := 3) (q := 3) (pc' := 31) (by decide +kernel) rfl rfl ?_
        refine sd_iload_n (k := 2) (i := 2) (q := 2) (pc' := 32) (by decide +kernel) rfl rfl ?_
        obtain ⟨h8, q7, hf⟩ := b1_some hf
        refine sF_callV0 (idx := 235) (b := 126) (As := [.int ((3 * l1) + 1), .int l3, .int l2]) (ci := 12) (nn := 47) (pc' := 35) 3 (T_YM_addsIf (G := G) (h := h)  q7) (by decide +kernel) mv_YM_addsIf ml_X12_235 (by decide +kernel) rfl rfl (Nat.le_of_ble_eq_true rfl) SH_126 rfl (by decide) rfl rfl ?_
        refine sd_aload_n (k := 0) (i := 0) (q := 0) (pc' := 36) (by decide +kernel) rfl rfl ?_
        refine sd_iconst (n := 3) (v := 3) (pc' := 37) (by decide +kernel) (by decide) ?_
        refine sd_iload_n (k := 1) (i := 1) (q := 1) (pc' := 38) (by decide +kernel) rfl rfl ?_
        refine sd_imul (pc' := 39) (by decide +kernel) ?_
        refine sd_iconst (n := 2) (v := 2) (pc' := 40) (by decide +kernel) (by decide) ?_
        refine sd_iadd (pc' := 41) (by decide +kernel) ?_
        refine sd_iload_n (k := 3) (i := 3) (q := 3) (pc' := 42) (by decide +kernel) rfl rfl ?_
        refine sd_iload_n (k := 2) (i := 2) (q := 2) (pc' := 43) (by decide +kernel) rfl rfl ?_
        obtain ⟨h10, q9, hf⟩ := b1_some hf
        refine sF_callV0 (idx := 235) (b := 126) (As := [.int ((3 * l1) + 2), .int l3, .int l2]) (ci := 12) (nn := 47) (pc' := 46) 3 (T_YM_addsIf (G := G) (h := h8)  q9) (by decide +kernel) mv_YM_addsIf ml_X12_235 (by decide +kernel) rfl rfl (Nat.le_of_ble_eq_true rfl) SH_126 rfl (by decide) rfl rfl ?_
        refine sd_aload_n (k := 0) (i := 0) (q := 0) (pc' := 47) (by decide +kernel) rfl rfl ?_
        refine sd_iconst (n := 3) (v := 3) (pc' := 48) (by decide +kernel) (by decide) ?_
        refine sd_iload_n (k := 1) (i := 1) (q := 1) (pc' := 49) (by decide +kernel) rfl rfl ?_
        refine sd_imul (pc' := 50) (by decide +kernel) ?_
        refine sd_iload_n (k := 3) (i := 3) (q := 3) (pc' := 51) (by decide +kernel) rfl rfl ?_
        refine sd_iload_n (k := 2) (i := 2) (q := 2) (pc' := 52) (by decide +kernel) rfl rfl ?_
        obtain ⟨h12, q11, hf⟩ := b1_some hf
        refine sF_callV0 (idx := 235) (b := 126) (As := [.int (3 * l1), .int l3, .int l2]) (ci := 12) (nn := 47) (pc' := 55) 3 (T_YM_addsIf (G := G) (h := h10)  q11) (by decide +kernel) mv_YM_addsIf ml_X12_235 (by decide +kernel) rfl rfl (Nat.le_of_ble_eq_true rfl) SH_126 rfl (by decide) rfl rfl ?_
        refine sd_J.sub (lo' := [(0, .ref (G.1 + 126)), (1, .int l1), (2, .int l2), (3, .int l3)]) [0, 1, 2, 3] rfl ?_
        exact J_YM_findsKinds_B55 hE ih hf
def YM_findsKinds (h : sd_H) (a0 : Int32) (a1 : Int32) : Option (sd_H × Int32) :=
  hb (wI h 126 22 0) (fun h1 => YM_findsKinds_L7 FU h1 a0 a1 0)
set_option maxHeartbeats 4000000 in
set_option maxRecDepth 100000 in
theorem T_YM_findsKinds {G : sd_GX} {h : sd_H} {a0 : Int32} {a1 : Int32} {r : (sd_H × Int32)} (hf : YM_findsKinds h a0 a1 = some r) : sd_RunF G M_YM_findsKinds [.ref (G.1 + 126), .int a0, .int a1] h (some (.int r.2)) r.1 := by
  refine sF_run ⟨rfl, rfl⟩ (by decide +kernel) (Nat.le_of_ble_eq_true rfl) (lo := [(0, .ref (G.1 + 126)), (1, .int a0), (2, .int a1)]) rfl (fun X hE => ?_)
  unfold YM_findsKinds at hf
  refine sd_aload_n (k := 0) (i := 0) (q := 0) (pc' := 1) (by decide +kernel) rfl rfl ?_
  refine sd_iconst (n := 0) (v := 0) (pc' := 2) (by decide +kernel) (by decide) ?_
  obtain ⟨h1, e2, hf⟩ := hb_some hf
  refine sF_pi (idx := 225) (ci := 12) (k := 22) (n := 47) (pc' := 5) (by decide +kernel) fl_X12_225 (by decide +kernel) rfl rfl rfl SH_126 ?_
  rw [← e2]; clear e2
  refine sd_iconst (n := 0) (v := 0) (pc' := 6) (by decide +kernel) (by decide) ?_
  refine sd_istore_n (k := 3) (i := 3) (pc' := 7) (lo' := [(3, .int 0), (0, .ref (G.1 + 126)), (1, .int a0), (2, .int a1)]) (by decide +kernel) rfl (by decide) rfl ?_
  refine sd_J.sub (lo' := [(0, .ref (G.1 + 126)), (1, .int a0), (2, .int a1), (3, .int 0)]) [1, 2, 3, 0] rfl ?_
  exact J_YM_findsKinds_L7 hE _ _ _ _ _ hf

theorem ml_X12_239 : Cond.methodLink RX12 239 yX12_findsKinds ∈ sd_tb := sd_mem (i := 1471) (by decide +kernel)
theorem mv_YM_findsKinds : sd_mV M_YM_findsKinds 2 := ⟨sd_mem (i := 1473) (by decide +kernel), sd_mem (i := 58) (by decide +kernel), ⟨sd_mem (i := 1474) (by decide +kernel), sd_mem (i := 119) (by decide +kernel), by decide +kernel, by decide +kernel, by decide +kernel⟩⟩
def M_YM_kinds : sd_MX := (yX12_kinds, cX12_kinds, 3, (some .int), { frames := 6, cells := 0, slots := 0, locals := 158 })
def YM_kinds (h : sd_H) (a0 : Int32) (a1 : Int32) : Option (sd_H × Int32) :=
  b1 (YM_isStatement h a0) (fun t2 => (if t2 = 0 then some (h, (-2)) else b1 (YM_isRow a1) (fun t5 => (if t5 = 0 then some (h, (-2)) else b2 (YM_findsKinds h a0 a1) (fun h8 t9 => some (h8, t9))))))
set_option maxHeartbeats 4000000 in
set_option maxRecDepth 100000 in
theorem T_YM_kinds {G : sd_GX} {h : sd_H} {a0 : Int32} {a1 : Int32} {r : (sd_H × Int32)} (hf : YM_kinds h a0 a1 = some r) : sd_RunF G M_YM_kinds [.ref (G.1 + 126), .int a0, .int a1] h (some (.int r.2)) r.1 := by
  refine sF_run ⟨rfl, rfl⟩ (by decide +kernel) (Nat.le_of_ble_eq_true rfl) (lo := [(0, .ref (G.1 + 126)), (1, .int a0), (2, .int a1)]) rfl (fun X hE => ?_)
  unfold YM_kinds at hf
  refine sd_aload_n (k := 0) (i := 0) (q := 0) (pc' := 1) (by decide +kernel) rfl rfl ?_
  refine sd_iload_n (k := 1) (i := 1) (q := 1) (pc' := 2) (by decide +kernel) rfl rfl ?_
  obtain ⟨t2, q1, hf⟩ := b1_some hf
  refine sF_callV (idx := 174) (b := 126) (As := [.int a0]) (ci := 12) (nn := 47) (pc' := 5) 1 (T_YM_isStatement (G := G) (h := h)  q1) (by decide +kernel) mv_YM_isStatement ml_X12_174 (by decide +kernel) rfl rfl (Nat.le_of_ble_eq_true rfl) SH_126 rfl (by decide) rfl rfl ?_
  refine sd_if_eq (off := 19) (tgt := 24) (pc' := 8) (by decide +kernel) (fun c3 => ?_) (fun c3 => ?_)
  · replace hf := ite_p c3 hf
    refine sd_bipush (n := -2) (v := (-2)) (pc' := 26) (by decide +kernel) (by decide) ?_
    obtain rfl := Option.some.inj hf
    exact sd_iret (by decide +kernel) rfl (hE _)
  · replace hf := ite_n c3 hf
    refine sd_iload_n (k := 2) (i := 2) (q := 2) (pc' := 9) (by decide +kernel) rfl rfl ?_
    obtain ⟨t5, q4, hf⟩ := b1_some hf
    refine sF_callS (idx := 122) (As := [.int a1]) (pc' := 12) 1 (T_YM_isRow (G := G) (h := h)  q4) (by decide +kernel) mv_YM_isRow ml_X12_122 (by decide +kernel) rfl rfl (Nat.le_of_ble_eq_true rfl) rfl ?_
    refine sd_if_eq (off := 12) (tgt := 24) (pc' := 15) (by decide +kernel) (fun c6 => ?_) (fun c6 => ?_)
    · replace hf := ite_p c6 hf
      refine sd_bipush (n := -2) (v := (-2)) (pc' := 26) (by decide +kernel) (by decide) ?_
      obtain rfl := Option.some.inj hf
      exact sd_iret (by decide +kernel) rfl (hE _)
    · replace hf := ite_n c6 hf
      refine sd_aload_n (k := 0) (i := 0) (q := 0) (pc' := 16) (by decide +kernel) rfl rfl ?_
      refine sd_iload_n (k := 1) (i := 1) (q := 1) (pc' := 17) (by decide +kernel) rfl rfl ?_
      refine sd_iload_n (k := 2) (i := 2) (q := 2) (pc' := 18) (by decide +kernel) rfl rfl ?_
      obtain ⟨h8, t9, q7, hf⟩ := b2_some hf
      refine sF_callV (idx := 239) (b := 126) (As := [.int a0, .int a1]) (ci := 12) (nn := 47) (pc' := 21) 2 (T_YM_findsKinds (G := G) (h := h)  q7) (by decide +kernel) mv_YM_findsKinds ml_X12_239 (by decide +kernel) rfl rfl (Nat.le_of_ble_eq_true rfl) SH_126 rfl (by decide) rfl rfl ?_
      refine sd_goto (off := 5) (tgt := 26) (pc' := 24) (by decide +kernel) ?_
      obtain rfl := Option.some.inj hf
      exact sd_iret (by decide +kernel) rfl (hE _)

def M_YM_kind : sd_MX := (yX12_kind, cX12_kind, 5, (some .int), { frames := 6, cells := 0, slots := 0, locals := 158 })
def YM_kind (h : sd_H) (a0 : Int32) (a1 : Int32) (a2 : Int32) (a3 : Int32) : Option (sd_H × Int32) :=
  b1 (YM_isStatement h a0) (fun t2 => (if t2 = 0 then some (h, (-2147483648)) else b1 (YM_isRow a1) (fun t5 => (if t5 = 0 then some (h, (-2147483648)) else b1 (YM_in a3 0 3) (fun t8 => (if t8 = 0 then some (h, (-2147483648)) else b2 (YM_findsKinds h a0 a1) (fun h11 t12 => b1 (YM_in a2 0 (t12 - 1)) (fun t14 => (if t14 = 0 then some (h11, (-2147483648)) else gd (sd_inB ((4 * a2) + a3) 120) (some (h11, (h11.1 143 (((4 * a2) + a3) : Int32).toNatClampNeg))))))))))))
set_option maxHeartbeats 4000000 in
set_option maxRecDepth 100000 in
theorem T_YM_kind {G : sd_GX} {h : sd_H} {a0 : Int32} {a1 : Int32} {a2 : Int32} {a3 : Int32} {r : (sd_H × Int32)} (hf : YM_kind h a0 a1 a2 a3 = some r) : sd_RunF G M_YM_kind [.ref (G.1 + 126), .int a0, .int a1, .int a2, .int a3] h (some (.int r.2)) r.1 := by
  refine sF_run ⟨rfl, rfl⟩ (by decide +kernel) (Nat.le_of_ble_eq_true rfl) (lo := [(0, .ref (G.1 + 126)), (1, .int a0), (2, .int a1), (3, .int a2), (4, .int a3)]) rfl (fun X hE => ?_)
  unfold YM_kind at hf
  refine sd_aload_n (k := 0) (i := 0) (q := 0) (pc' := 1) (by decide +kernel) rfl rfl ?_
  refine sd_iload_n (k := 1) (i := 1) (q := 1) (pc' := 2) (by decide +kernel) rfl rfl ?_
  obtain ⟨t2, q1, hf⟩ := b1_some hf
  refine sF_callV (idx := 174) (b := 126) (As := [.int a0]) (ci := 12) (nn := 47) (pc' := 5) 1 (T_YM_isStatement (G := G) (h := h)  q1) (by decide +kernel) mv_YM_isStatement ml_X12_174 (by decide +kernel) rfl rfl (Nat.le_of_ble_eq_true rfl) SH_126 rfl (by decide) rfl rfl ?_
  refine sd_if_eq (off := 20) (tgt := 25) (pc' := 8) (by decide +kernel) (fun c3 => ?_) (fun c3 => ?_)
  · replace hf := ite_p c3 hf
    refine sd_ldc (idx := 139) (v := (-2147483648)) (pc' := 27) (by decide +kernel) (sd_mem (i := 1335) (by decide +kernel)) ?_
    obtain rfl := Option.some.inj hf
    exact sd_iret (by decide +kernel) rfl (hE _)
  · replace hf := ite_n c3 hf
    refine sd_iload_n (k := 2) (i := 2) (q := 2) (pc' := 9) (by decide +kernel) rfl rfl ?_
    obtain ⟨t5, q4, hf⟩ := b1_some hf
    refine sF_callS (idx := 122) (As := [.int a1]) (pc' := 12) 1 (T_YM_isRow (G := G) (h := h)  q4) (by decide +kernel) mv_YM_isRow ml_X12_122 (by decide +kernel) rfl rfl (Nat.le_of_ble_eq_true rfl) rfl ?_
    refine sd_if_eq (off := 13) (tgt := 25) (pc' := 15) (by decide +kernel) (fun c6 => ?_) (fun c6 => ?_)
    · replace hf := ite_p c6 hf
      refine sd_ldc (idx := 139) (v := (-2147483648)) (pc' := 27) (by decide +kernel) (sd_mem (i := 1335) (by decide +kernel)) ?_
      obtain rfl := Option.some.inj hf
      exact sd_iret (by decide +kernel) rfl (hE _)
    · replace hf := ite_n c6 hf
      refine sd_iload (i := 4) (q := 4) (pc' := 17) (by decide +kernel) rfl ?_
      refine sd_iconst (n := 0) (v := 0) (pc' := 18) (by decide +kernel) (by decide) ?_
      refine sd_iconst (n := 3) (v := 3) (pc' := 19) (by decide +kernel) (by decide) ?_
      obtain ⟨t8, q7, hf⟩ := b1_some hf
      refine sF_callS (idx := 114) (As := [.int a3, .int 0, .int 3]) (pc' := 22) 3 (T_YM_in (G := G) (h := h)  q7) (by decide +kernel) mv_YM_in ml_X12_114 (by decide +kernel) rfl rfl (Nat.le_of_ble_eq_true rfl) rfl ?_
      refine sd_if_ne (off := 6) (tgt := 28) (pc' := 25) (by decide +kernel) (fun c9 => ?_) (fun c9 => ?_)
      · replace hf := ite_n c9 hf
        refine sd_iload_n (k := 3) (i := 3) (q := 3) (pc' := 29) (by decide +kernel) rfl rfl ?_
        refine sd_iconst (n := 0) (v := 0) (pc' := 30) (by decide +kernel) (by decide) ?_
        refine sd_aload_n (k := 0) (i := 0) (q := 0) (pc' := 31) (by decide +kernel) rfl rfl ?_
        refine sd_iload_n (k := 1) (i := 1) (q := 1) (pc' := 32) (by decide +kernel) rfl rfl ?_
        refine sd_iload_n (k := 2) (i := 2) (q := 2) (pc' := 33) (by decide +kernel) rfl rfl ?_
        obtain ⟨h11, t12, q10, hf⟩ := b2_some hf
        refine sF_callV (idx := 239) (b := 126) (As := [.int a0, .int a1]) (ci := 12) (nn := 47) (pc' := 36) 2 (T_YM_findsKinds (G := G) (h := h)  q10) (by decide +kernel) mv_YM_findsKinds ml_X12_239 (by decide +kernel) rfl rfl (Nat.le_of_ble_eq_true rfl) SH_126 rfl (by decide) rfl rfl ?_
        refine sd_iconst (n := 1) (v := 1) (pc' := 37) (by decide +kernel) (by decide) ?_
        refine sd_isub (pc' := 38) (by decide +kernel) ?_
        obtain ⟨t14, q13, hf⟩ := b1_some hf
        refine sF_callS (idx := 114) (As := [.int a2, .int 0, .int (t12 - 1)]) (pc' := 41) 3 (T_YM_in (G := G) (h := h11)  q13) (by decide +kernel) mv_YM_in ml_X12_114 (by decide +kernel) rfl rfl (Nat.le_of_ble_eq_true rfl) rfl ?_
        refine sd_if_eq (off := 17) (tgt := 58) (pc' := 44) (by decide +kernel) (fun c15 => ?_) (fun c15 => ?_)
        · replace hf := ite_p c15 hf
          refine sd_ldc (idx := 139) (v := (-2147483648)) (pc' := 60) (by decide +kernel) (sd_mem (i := 1335) (by decide +kernel)) ?_
          obtain rfl := Option.some.inj hf
          exact sd_iret (by decide +kernel) rfl (hE _)
        · replace hf := ite_n c15 hf
          refine sd_aload_n (k := 0) (i := 0) (q := 0) (pc' := 45) (by decide +kernel) rfl rfl ?_
          refine sF_gr (idx := 59) (ci := 12) (k := 21) (n := 47) (r := 143) (pc' := 48) (by decide +kernel) fl_X12_59 (by decide +kernel) rfl SH_126 (by decide) (by decide +kernel) ?_
          refine sd_iconst (n := 4) (v := 4) (pc' := 49) (by decide +kernel) (by decide) ?_
          refine sd_iload_n (k := 3) (i := 3) (q := 3) (pc' := 50) (by decide +kernel) rfl rfl ?_
          refine sd_imul (pc' := 51) (by decide +kernel) ?_
          refine sd_iload (i := 4) (q := 4) (pc' := 53) (by decide +kernel) rfl ?_
          refine sd_iadd (pc' := 54) (by decide +kernel) ?_
          obtain ⟨g16, hf⟩ := gd_some hf
          refine sF_iald (n := 120) (pc' := 55) (by decide +kernel) SH_143 g16 ?_
          refine sd_goto (off := 5) (tgt := 60) (pc' := 58) (by decide +kernel) ?_
          obtain rfl := Option.some.inj hf
          exact sd_iret (by decide +kernel) rfl (hE _)
      · replace hf := ite_p c9 hf
        refine sd_ldc (idx := 139) (v := (-2147483648)) (pc' := 27) (by decide +kernel) (sd_mem (i := 1335) (by decide +kernel)) ?_
        obtain rfl := Option.some.inj hf
        exact sd_iret (by decide +kernel) rfl (hE _)

def M_YM_bitAt : sd_MX := (yX12_bitAt, cX12_bitAt, 6, (some .int), { frames := 3, cells := 0, slots := 0, locals := 82 })
def YM_bitAt (h : sd_H) (a0 : Int32) (a1 : Int32) (a2 : Int32) : Option Int32 :=
  gd (sd_inB a0 15) (b1 (YM_placeOf h a0 a1 a2) (fun t3 => gd (sd_inB (h.1 137 (a0 : Int32).toNatClampNeg) 6) (b1 (YM_isNumbers (h.1 127 ((h.1 137 (a0 : Int32).toNatClampNeg) : Int32).toNatClampNeg)) (fun t6 => (if t6 = 0 then some 0 else gd (sd_inB (h.1 137 (a0 : Int32).toNatClampNeg) 6) (b1 (YM_in t3 0 ((h.1 128 ((h.1 137 (a0 : Int32).toNatClampNeg) : Int32).toNatClampNeg) - 1)) (fun t10 => (if t10 = 0 then some 0 else some (1 <<< (t3 &&& 31))))))))))
set_option maxHeartbeats 4000000 in
set_option maxRecDepth 100000 in
theorem T_YM_bitAt {G : sd_GX} {h : sd_H} {a0 : Int32} {a1 : Int32} {a2 : Int32} {r : Int32} (hf : YM_bitAt h a0 a1 a2 = some r) : sd_RunF G M_YM_bitAt [.ref (G.1 + 126), .int a0, .int a1, .int a2] h (some (.int r)) h := by
  refine sF_run ⟨rfl, rfl⟩ (by decide +kernel) (Nat.le_of_ble_eq_true rfl) (lo := [(0, .ref (G.1 + 126)), (1, .int a0), (2, .int a1), (3, .int a2)]) rfl (fun X hE => ?_)
  unfold YM_bitAt at hf
  refine sd_aload_n (k := 0) (i := 0) (q := 0) (pc' := 1) (by decide +kernel) rfl rfl ?_
  refine sF_gr (idx := 41) (ci := 12) (k := 13) (n := 47) (r := 137) (pc' := 4) (by decide +kernel) fl_X12_41 (by decide +kernel) rfl SH_126 (by decide) (by decide +kernel) ?_
  refine sd_iload_n (k := 1) (i := 1) (q := 1) (pc' := 5) (by decide +kernel) rfl rfl ?_
  obtain ⟨g1, hf⟩ := gd_some hf
  refine sF_iald (n := 15) (pc' := 6) (by decide +kernel) SH_137 g1 ?_
  refine sd_istore (i := 4) (pc' := 8) (lo' := [(4, .int (h.1 137 (a0 : Int32).toNatClampNeg)), (0, .ref (G.1 + 126)), (1, .int a0), (2, .int a1), (3, .int a2)]) (by decide +kernel) (by decide) rfl ?_
  refine sd_aload_n (k := 0) (i := 0) (q := 1) (pc' := 9) (by decide +kernel) rfl rfl ?_
  refine sd_iload_n (k := 1) (i := 1) (q := 2) (pc' := 10) (by decide +kernel) rfl rfl ?_
  refine sd_iload_n (k := 2) (i := 2) (q := 3) (pc' := 11) (by decide +kernel) rfl rfl ?_
  refine sd_iload_n (k := 3) (i := 3) (q := 4) (pc' := 12) (by decide +kernel) rfl rfl ?_
  obtain ⟨t3, q2, hf⟩ := b1_some hf
  refine sF_callV (idx := 200) (b := 126) (As := [.int a0, .int a1, .int a2]) (ci := 12) (nn := 47) (pc' := 15) 3 (T_YM_placeOf (G := G) (h := h)  q2) (by decide +kernel) mv_YM_placeOf ml_X12_200 (by decide +kernel) rfl rfl (Nat.le_of_ble_eq_true rfl) SH_126 rfl (by decide) rfl rfl ?_
  refine sd_istore (i := 5) (pc' := 17) (lo' := [(5, .int t3), (4, .int (h.1 137 (a0 : Int32).toNatClampNeg)), (0, .ref (G.1 + 126)), (1, .int a0), (2, .int a1), (3, .int a2)]) (by decide +kernel) (by decide) rfl ?_
  refine sd_aload_n (k := 0) (i := 0) (q := 2) (pc' := 18) (by decide +kernel) rfl rfl ?_
  refine sF_gr (idx := 7) (ci := 12) (k := 0) (n := 47) (r := 127) (pc' := 21) (by decide +kernel) fl_X12_7 (by decide +kernel) rfl SH_126 (by decide) (by decide +kernel) ?_
  refine sd_iload (i := 4) (q := 1) (pc' := 23) (by decide +kernel) rfl ?_
  obtain ⟨g4, hf⟩ := gd_some hf
  refine sF_iald (n := 6) (pc' := 24) (by decide +kernel) SH_127 g4 ?_
  obtain ⟨t6, q5, hf⟩ := b1_some hf
  refine sF_callS (idx := 185) (As := [.int (h.1 127 ((h.1 137 (a0 : Int32).toNatClampNeg) : Int32).toNatClampNeg)]) (pc' := 27) 1 (T_YM_isNumbers (G := G) (h := h)  q5) (by decide +kernel) mv_YM_isNumbers ml_X12_185 (by decide +kernel) rfl rfl (Nat.le_of_ble_eq_true rfl) rfl ?_
  refine sd_if_eq (off := 28) (tgt := 55) (pc' := 30) (by decide +kernel) (fun c7 => ?_) (fun c7 => ?_)
  · replace hf := ite_p c7 hf
    refine sd_iconst (n := 0) (v := 0) (pc' := 56) (by decide +kernel) (by decide) ?_
    obtain rfl := Option.some.inj hf
    exact sd_iret (by decide +kernel) rfl (hE _)
  · replace hf := ite_n c7 hf
    refine sd_iload (i := 5) (q := 0) (pc' := 32) (by decide +kernel) rfl ?_
    refine sd_iconst (n := 0) (v := 0) (pc' := 33) (by decide +kernel) (by decide) ?_
    refine sd_aload_n (k := 0) (i := 0) (q := 2) (pc' := 34) (by decide +kernel) rfl rfl ?_
    refine sF_gr (idx := 13) (ci := 12) (k := 1) (n := 47) (r := 128) (pc' := 37) (by decide +kernel) fl_X12_13 (by decide +kernel) rfl SH_126 (by decide) (by decide +kernel) ?_
    refine sd_iload (i := 4) (q := 1) (pc' := 39) (by decide +kernel) rfl ?_
    obtain ⟨g8, hf⟩ := gd_some hf
    refine sF_iald (n := 6) (pc' := 40) (by decide +kernel) SH_128 g8 ?_
    refine sd_iconst (n := 1) (v := 1) (pc' := 41) (by decide +kernel) (by decide) ?_
    refine sd_isub (pc' := 42) (by decide +kernel) ?_
    obtain ⟨t10, q9, hf⟩ := b1_some hf
    refine sF_callS (idx := 114) (As := [.int t3, .int 0, .int ((h.1 128 ((h.1 137 (a0 : Int32).toNatClampNeg) : Int32).toNatClampNeg) - 1)]) (pc' := 45) 3 (T_YM_in (G := G) (h := h)  q9) (by decide +kernel) mv_YM_in ml_X12_114 (by decide +kernel) rfl rfl (Nat.le_of_ble_eq_true rfl) rfl ?_
    refine sd_if_eq (off := 10) (tgt := 55) (pc' := 48) (by decide +kernel) (fun c11 => ?_) (fun c11 => ?_)
    · replace hf := ite_p c11 hf
      refine sd_iconst (n := 0) (v := 0) (pc' := 56) (by decide +kernel) (by decide) ?_
      obtain rfl := Option.some.inj hf
      exact sd_iret (by decide +kernel) rfl (hE _)
    · replace hf := ite_n c11 hf
      refine sd_iconst (n := 1) (v := 1) (pc' := 49) (by decide +kernel) (by decide) ?_
      refine sd_iload (i := 5) (q := 0) (pc' := 51) (by decide +kernel) rfl ?_
      refine sd_ishl (pc' := 52) (by decide +kernel) ?_
      refine sd_goto (off := 4) (tgt := 56) (pc' := 55) (by decide +kernel) ?_
      obtain rfl := Option.some.inj hf
      exact sd_iret (by decide +kernel) rfl (hE _)

theorem ml_X12_242 : Cond.methodLink RX12 242 yX12_bitAt ∈ sd_tb := sd_mem (i := 1519) (by decide +kernel)
theorem mv_YM_bitAt : sd_mV M_YM_bitAt 3 := ⟨sd_mem (i := 1521) (by decide +kernel), sd_mem (i := 68) (by decide +kernel), ⟨sd_mem (i := 1522) (by decide +kernel), sd_mem (i := 119) (by decide +kernel), by decide +kernel, by decide +kernel, by decide +kernel⟩⟩
theorem fl_X12_62 : sd_fl RX12 62 12 23 := ⟨sd_mem (i := 1171) (by decide +kernel), by decide, by decide⟩
theorem fl_X12_65 : sd_fl RX12 65 12 24 := ⟨sd_mem (i := 1172) (by decide +kernel), by decide, by decide⟩
def M_YM_reads : sd_MX := (yX12_reads, cX12_reads, 6, (some .boolean), { frames := 4, cells := 0, slots := 0, locals := 107 })
def YM_reads (h : sd_H) (a0 : Int32) (a1 : Int32) (a2 : Int32) : Option (sd_H × Int32) :=
  b1 (YM_isLooked h a0) (fun t2 => (if t2 = 0 then some (h, 1) else b1 (YM_bitAt h a0 a1 a2) (fun t5 => gd (sd_inB a0 15) (gd (sd_inB ((24 * a1) + (h.1 137 (a0 : Int32).toNatClampNeg)) 240) (gd (sd_inB ((24 * a1) + (h.1 137 (a0 : Int32).toNatClampNeg)) 240) (hb (wI h 144 (((24 * a1) + (h.1 137 (a0 : Int32).toNatClampNeg)) : Int32).toNatClampNeg ((h.1 144 (((24 * a1) + (h.1 137 (a0 : Int32).toNatClampNeg)) : Int32).toNatClampNeg) ||| t5)) (fun h9 => gd (sd_inB (((24 * a1) + 18) + (h.1 137 (a0 : Int32).toNatClampNeg)) 240) (gd (sd_inB (h.1 137 (a0 : Int32).toNatClampNeg) 6) (gd (sd_inB (((24 * a1) + 18) + (h.1 137 (a0 : Int32).toNatClampNeg)) 240) (hb (wI h9 144 ((((24 * a1) + 18) + (h.1 137 (a0 : Int32).toNatClampNeg)) : Int32).toNatClampNeg ((h9.1 144 ((((24 * a1) + 18) + (h.1 137 (a0 : Int32).toNatClampNeg)) : Int32).toNatClampNeg) ||| (t5 &&& ((h9.1 145 ((h.1 137 (a0 : Int32).toNatClampNeg) : Int32).toNatClampNeg) ^^^ (-1))))) (fun h14 => (if t5 = 0 then some (h14, 0) else some (h14, 1)))))))))))))
set_option maxHeartbeats 4000000 in
set_option maxRecDepth 100000 in
theorem T_YM_reads {G : sd_GX} {h : sd_H} {a0 : Int32} {a1 : Int32} {a2 : Int32} {r : (sd_H × Int32)} (hf : YM_reads h a0 a1 a2 = some r) : sd_RunF G M_YM_reads [.ref (G.1 + 126), .int a0, .int a1, .int a2] h (some (.int r.2)) r.1 := by
  refine sF_run ⟨rfl, rfl⟩ (by decide +kernel) (Nat.le_of_ble_eq_true rfl) (lo := [(0, .ref (G.1 + 126)), (1, .int a0), (2, .int a1), (3, .int a2)]) rfl (fun X hE => ?_)
  unfold YM_reads at hf
  refine sd_aload_n (k := 0) (i := 0) (q := 0) (pc' := 1) (by decide +kernel) rfl rfl ?_
  refine sd_iload_n (k := 1) (i := 1) (q := 1) (pc' := 2) (by decide +kernel) rfl rfl ?_
  obtain ⟨t2, q1, hf⟩ := b1_some hf
  refine sF_callV (idx := 228) (b := 126) (As := [.int a0]) (ci := 12) (nn := 47) (pc' := 5) 1 (T_YM_isLooked (G := G) (h := h)  q1) (by decide +kernel) mv_YM_isLooked ml_X12_228 (by decide +kernel) rfl rfl (Nat.le_of_ble_eq_true rfl) SH_126 rfl (by decide) rfl rfl ?_
  refine sd_if_ne (off := 5) (tgt := 10) (pc' := 8) (by decide +kernel) (fun c3 => ?_) (fun c3 => ?_)
  · replace hf := ite_n c3 hf
    refine sd_aload_n (k := 0) (i := 0) (q := 0) (pc' := 11) (by decide +kernel) rfl rfl ?_
    refine sd_iload_n (k := 1) (i := 1) (q := 1) (pc' := 12) (by decide +kernel) rfl rfl ?_
    refine sd_iload_n (k := 2) (i := 2) (q := 2) (pc' := 13) (by decide +kernel) rfl rfl ?_
    refine sd_iload_n (k := 3) (i := 3) (q := 3) (pc' := 14) (by decide +kernel) rfl rfl ?_
    obtain ⟨t5, q4, hf⟩ := b1_some hf
    refine sF_callV (idx := 242) (b := 126) (As := [.int a0, .int a1, .int a2]) (ci := 12) (nn := 47) (pc' := 17) 3 (T_YM_bitAt (G := G) (h := h)  q4) (by decide +kernel) mv_YM_bitAt ml_X12_242 (by decide +kernel) rfl rfl (Nat.le_of_ble_eq_true rfl) SH_126 rfl (by decide) rfl rfl ?_
    refine sd_istore (i := 4) (pc' := 19) (lo' := [(4, .int t5), (0, .ref (G.1 + 126)), (1, .int a0), (2, .int a1), (3, .int a2)]) (by decide +kernel) (by decide) rfl ?_
    refine sd_aload_n (k := 0) (i := 0) (q := 1) (pc' := 20) (by decide +kernel) rfl rfl ?_
    refine sF_gr (idx := 41) (ci := 12) (k := 13) (n := 47) (r := 137) (pc' := 23) (by decide +kernel) fl_X12_41 (by decide +kernel) rfl SH_126 (by decide) (by decide +kernel) ?_
    refine sd_iload_n (k := 1) (i := 1) (q := 2) (pc' := 24) (by decide +kernel) rfl rfl ?_
    obtain ⟨g6, hf⟩ := gd_some hf
    refine sF_iald (n := 15) (pc' := 25) (by decide +kernel) SH_137 g6 ?_
    refine sd_istore (i := 5) (pc' := 27) (lo' := [(5, .int (h.1 137 (a0 : Int32).toNatClampNeg)), (4, .int t5), (0, .ref (G.1 + 126)), (1, .int a0), (2, .int a1), (3, .int a2)]) (by decide +kernel) (by decide) rfl ?_
    refine sd_aload_n (k := 0) (i := 0) (q := 2) (pc' := 28) (by decide +kernel) rfl rfl ?_
    refine sF_gr (idx := 62) (ci := 12) (k := 23) (n := 47) (r := 144) (pc' := 31) (by decide +kernel) fl_X12_62 (by decide +kernel) rfl SH_126 (by decide) (by decide +kernel) ?_
    refine sd_bipush (n := 24) (v := 24) (pc' := 33) (by decide +kernel) (by decide) ?_
    refine sd_iload_n (k := 2) (i := 2) (q := 4) (pc' := 34) (by decide +kernel) rfl rfl ?_
    refine sd_imul (pc' := 35) (by decide +kernel) ?_
    refine sd_iload (i := 5) (q := 0) (pc' := 37) (by decide +kernel) rfl ?_
    refine sd_iadd (pc' := 38) (by decide +kernel) ?_
    refine sd_dup2 (pc' := 39) (by decide +kernel) rfl rfl ?_
    obtain ⟨g7, hf⟩ := gd_some hf
    refine sF_iald (n := 240) (pc' := 40) (by decide +kernel) SH_144 g7 ?_
    refine sd_iload (i := 4) (q := 1) (pc' := 42) (by decide +kernel) rfl ?_
    refine sd_ior (pc' := 43) (by decide +kernel) ?_
    obtain ⟨g8, hf⟩ := gd_some hf
    obtain ⟨h9, e10, hf⟩ := hb_some hf
    refine sF_iast (n := 240) (pc' := 44) (by decide +kernel) SH_144 g8 ?_
    rw [← e10]; clear e10
    refine sd_aload_n (k := 0) (i := 0) (q := 2) (pc' := 45) (by decide +kernel) rfl rfl ?_
    refine sF_gr (idx := 62) (ci := 12) (k := 23) (n := 47) (r := 144) (pc' := 48) (by decide +kernel) fl_X12_62 (by decide +kernel) rfl SH_126 (by decide) (by decide +kernel) ?_
    refine sd_bipush (n := 24) (v := 24) (pc' := 50) (by decide +kernel) (by decide) ?_
    refine sd_iload_n (k := 2) (i := 2) (q := 4) (pc' := 51) (by decide +kernel) rfl rfl ?_
    refine sd_imul (pc' := 52) (by decide +kernel) ?_
    refine sd_bipush (n := 18) (v := 18) (pc' := 54) (by decide +kernel) (by decide) ?_
    refine sd_iadd (pc' := 55) (by decide +kernel) ?_
    refine sd_iload (i := 5) (q := 0) (pc' := 57) (by decide +kernel) rfl ?_
    refine sd_iadd (pc' := 58) (by decide +kernel) ?_
    refine sd_dup2 (pc' := 59) (by decide +kernel) rfl rfl ?_
    obtain ⟨g11, hf⟩ := gd_some hf
    refine sF_iald (n := 240) (pc' := 60) (by decide +kernel) SH_144 g11 ?_
    refine sd_iload (i := 4) (q := 1) (pc' := 62) (by decide +kernel) rfl ?_
    refine sd_aload_n (k := 0) (i := 0) (q := 2) (pc' := 63) (by decide +kernel) rfl rfl ?_
    refine sF_gr (idx := 65) (ci := 12) (k := 24) (n := 47) (r := 145) (pc' := 66) (by decide +kernel) fl_X12_65 (by decide +kernel) rfl SH_126 (by decide) (by decide +kernel) ?_
    refine sd_iload (i := 5) (q := 0) (pc' := 68) (by decide +kernel) rfl ?_
    obtain ⟨g12, hf⟩ := gd_some hf
    refine sF_iald (n := 6) (pc' := 69) (by decide +kernel) SH_145 g12 ?_
    refine sd_iconst (n := -1) (v := (-1)) (pc' := 70) (by decide +kernel) (by decide) ?_
    refine sd_ixor (pc' := 71) (by decide +kernel) ?_
    refine sd_iand (pc' := 72) (by decide +kernel) ?_
    refine sd_ior (pc' := 73) (by decide +kernel) ?_
    obtain ⟨g13, hf⟩ := gd_some hf
    obtain ⟨h14, e15, hf⟩ := hb_some hf
    refine sF_iast (n := 240) (pc' := 74) (by decide +kernel) SH_144 g13 ?_
    rw [← e15]; clear e15
    refine sd_iload (i := 4) (q := 1) (pc' := 76) (by decide +kernel) rfl ?_
    refine sd_if_eq (off := 7) (tgt := 83) (pc' := 79) (by decide +kernel) (fun c16 => ?_) (fun c16 => ?_)
    · replace hf := ite_p c16 hf
      refine sd_iconst (n := 0) (v := 0) (pc' := 84) (by decide +kernel) (by decide) ?_
      obtain rfl := Option.some.inj hf
      exact sd_zret (by decide +kernel) rfl rfl (hE _)
    · replace hf := ite_n c16 hf
      refine sd_iconst (n := 1) (v := 1) (pc' := 80) (by decide +kernel) (by decide) ?_
      refine sd_goto (off := 4) (tgt := 84) (pc' := 83) (by decide +kernel) ?_
      obtain rfl := Option.some.inj hf
      exact sd_zret (by decide +kernel) rfl rfl (hE _)
  · replace hf := ite_p c3 hf
    refine sd_iconst (n := 1) (v := 1) (pc' := 9) (by decide +kernel) (by decide) ?_
    obtain rfl := Option.some.inj hf
    exact sd_zret (by decide +kernel) rfl rfl (hE _)

theorem ml_X12_245 : Cond.methodLink RX12 245 yX12_reads ∈ sd_tb := sd_mem (i := 1515) (by decide +kernel)
theorem mv_YM_reads : sd_mV M_YM_reads 3 := ⟨sd_mem (i := 1517) (by decide +kernel), sd_mem (i := 67) (by decide +kernel), ⟨sd_mem (i := 1518) (by decide +kernel), sd_mem (i := 119) (by decide +kernel), by decide +kernel, by decide +kernel, by decide +kernel⟩⟩
theorem fl_X12_248 : sd_fl RX12 248 12 25 := ⟨sd_mem (i := 1173) (by decide +kernel), by decide, by decide⟩
def M_YM_knows : sd_MX := (yX12_knows, cX12_knows, 7, (some .boolean), { frames := 5, cells := 0, slots := 0, locals := 132 })
def YM_knows_B166 (h : sd_H) (l4 : Int32) (s0 : Int32) (s1 : Int32) (s2 : Int32) : Option (sd_H × Int32) :=
  gd (sd_inB s2 6) (hb (wI h 145 (s2 : Int32).toNatClampNeg (s1 ||| s0)) (fun h29 => (if l4 = 0 then some (h29, 0) else some (h29, 1))))
set_option maxHeartbeats 4000000 in
set_option maxRecDepth 100000 in
theorem J_YM_knows_B166 {G : sd_GX} {X : sd_CX} (hE : ∀ g : sd_H, sd_end G X M_YM_knows (sd_F g)) {h : sd_H} {r : (sd_H × Int32)} {l4 : Int32} {s0 : Int32} {s1 : Int32} {s2 : Int32} (hf : YM_knows_B166 h l4 s0 s1 s2 = some r) : sd_J G X (sd_QR G X M_YM_knows (some (.int r.2), sd_F r.1)) M_YM_knows 166 [(4, .int l4)] [.int s0, .int s1, .int s2, .ref (G.1 + 145)] (sd_F h) := by
  unfold YM_knows_B166 at hf
  refine sd_ior (pc' := 167) (by decide +kernel) ?_
  obtain ⟨g28, hf⟩ := gd_some hf
  obtain ⟨h29, e30, hf⟩ := hb_some hf
  refine sF_iast (n := 6) (pc' := 168) (by decide +kernel) SH_145 g28 ?_
  rw [← e30]; clear e30
  refine sd_iload (i := 4) (q := 0) (pc' := 170) (by decide +kernel) rfl ?_
  refine sd_if_eq (off := 7) (tgt := 177) (pc' := 173) (by decide +kernel) (fun c31 => ?_) (fun c31 => ?_)
  · replace hf := ite_p c31 hf
    refine sd_iconst (n := 0) (v := 0) (pc' := 178) (by decide +kernel) (by decide) ?_
    obtain rfl := Option.some.inj hf
    exact sd_zret (by decide +kernel) rfl rfl (hE _)
  · replace hf := ite_n c31 hf
    refine sd_iconst (n := 1) (v := 1) (pc' := 174) (by decide +kernel) (by decide) ?_
    refine sd_goto (off := 4) (tgt := 178) (pc' := 177) (by decide +kernel) ?_
    obtain rfl := Option.some.inj hf
    exact sd_zret (by decide +kernel) rfl rfl (hE _)
def YM_knows_B143 (h : sd_H) (l4 : Int32) (l5 : Int32) (l6 : Int32) (s0 : Int32) (s1 : Int32) (s2 : Int32) : Option (sd_H × Int32) :=
  gd (sd_inB s2 240) (hb (wI h 144 (s2 : Int32).toNatClampNeg (s1 ||| s0)) (fun h24 => gd (sd_inB l5 6) ((if l6 = 10 then YM_knows_B166 h24 l4 0 (h24.1 145 (l5 : Int32).toNatClampNeg) l5 else YM_knows_B166 h24 l4 l4 (h24.1 145 (l5 : Int32).toNatClampNeg) l5))))
set_option maxHeartbeats 4000000 in
set_option maxRecDepth 100000 in
theorem J_YM_knows_B143 {G : sd_GX} {X : sd_CX} (hE : ∀ g : sd_H, sd_end G X M_YM_knows (sd_F g)) {h : sd_H} {r : (sd_H × Int32)} {l4 : Int32} {l5 : Int32} {l6 : Int32} {s0 : Int32} {s1 : Int32} {s2 : Int32} (hf : YM_knows_B143 h l4 l5 l6 s0 s1 s2 = some r) : sd_J G X (sd_QR G X M_YM_knows (some (.int r.2), sd_F r.1)) M_YM_knows 143 [(0, .ref (G.1 + 126)), (4, .int l4), (5, .int l5), (6, .int l6)] [.int s0, .int s1, .int s2, .ref (G.1 + 144)] (sd_F h) := by
  unfold YM_knows_B143 at hf
  refine sd_ior (pc' := 144) (by decide +kernel) ?_
  obtain ⟨g23, hf⟩ := gd_some hf
  obtain ⟨h24, e25, hf⟩ := hb_some hf
  refine sF_iast (n := 240) (pc' := 145) (by decide +kernel) SH_144 g23 ?_
  rw [← e25]; clear e25
  refine sd_aload_n (k := 0) (i := 0) (q := 0) (pc' := 146) (by decide +kernel) rfl rfl ?_
  refine sF_gr (idx := 65) (ci := 12) (k := 24) (n := 47) (r := 145) (pc' := 149) (by decide +kernel) fl_X12_65 (by decide +kernel) rfl SH_126 (by decide) (by decide +kernel) ?_
  refine sd_iload (i := 5) (q := 2) (pc' := 151) (by decide +kernel) rfl ?_
  refine sd_dup2 (pc' := 152) (by decide +kernel) rfl rfl ?_
  obtain ⟨g26, hf⟩ := gd_some hf
  refine sF_iald (n := 6) (pc' := 153) (by decide +kernel) SH_145 g26 ?_
  refine sd_iload (i := 6) (q := 3) (pc' := 155) (by decide +kernel) rfl ?_
  refine sd_bipush (n := 10) (v := 10) (pc' := 157) (by decide +kernel) (by decide) ?_
  refine sd_icmp_ne (off := 7) (tgt := 164) (pc' := 160) (by decide +kernel) (fun c27 => ?_) (fun c27 => ?_)
  · replace hf := ite_n c27 hf
    refine sd_iload (i := 4) (q := 1) (pc' := 166) (by decide +kernel) rfl ?_
    refine sd_J.sub (lo' := [(4, .int l4)]) [1] rfl ?_
    exact J_YM_knows_B166 hE hf
  · replace hf := ite_p c27 hf
    refine sd_iconst (n := 0) (v := 0) (pc' := 161) (by decide +kernel) (by decide) ?_
    refine sd_goto (off := 5) (tgt := 166) (pc' := 164) (by decide +kernel) ?_
    refine sd_J.sub (lo' := [(4, .int l4)]) [1] rfl ?_
    exact J_YM_knows_B166 hE hf
def YM_knows_B137 (h : sd_H) (l4 : Int32) (l5 : Int32) (l6 : Int32) (s0 : Int32) (s1 : Int32) : Option (sd_H × Int32) :=
  YM_knows_B143 h l4 l5 l6 0 s0 s1
set_option maxHeartbeats 4000000 in
set_option maxRecDepth 100000 in
theorem J_YM_knows_B137 {G : sd_GX} {X : sd_CX} (hE : ∀ g : sd_H, sd_end G X M_YM_knows (sd_F g)) {h : sd_H} {r : (sd_H × Int32)} {l4 : Int32} {l5 : Int32} {l6 : Int32} {s0 : Int32} {s1 : Int32} (hf : YM_knows_B137 h l4 l5 l6 s0 s1 = some r) : sd_J G X (sd_QR G X M_YM_knows (some (.int r.2), sd_F r.1)) M_YM_knows 137 [(0, .ref (G.1 + 126)), (4, .int l4), (5, .int l5), (6, .int l6)] [.int s0, .int s1, .ref (G.1 + 144)] (sd_F h) := by
  unfold YM_knows_B137 at hf
  refine sd_iconst (n := 0) (v := 0) (pc' := 138) (by decide +kernel) (by decide) ?_
  refine sd_goto (off := 5) (tgt := 143) (pc' := 141) (by decide +kernel) ?_
  refine sd_J.sub (lo' := [(0, .ref (G.1 + 126)), (4, .int l4), (5, .int l5), (6, .int l6)]) [0, 1, 2, 3] rfl ?_
  exact J_YM_knows_B143 hE hf
def YM_knows_B84 (h : sd_H) (l2 : Int32) (l4 : Int32) (l5 : Int32) (l6 : Int32) (s0 : Int32) : Option (sd_H × Int32) :=
  gd (sd_isB s0) (hb (wI h 126 25 s0) (fun h14 => gd (sd_inB (((24 * l2) + 6) + l5) 240) (gd (sd_inB (((24 * l2) + 6) + l5) 240) (hb (wI h14 144 ((((24 * l2) + 6) + l5) : Int32).toNatClampNeg ((h14.1 144 ((((24 * l2) + 6) + l5) : Int32).toNatClampNeg) ||| l4)) (fun h19 => gd (sd_inB (((24 * l2) + 12) + l5) 240) ((if l6 = 10 then YM_knows_B137 h19 l4 l5 l6 (h19.1 144 ((((24 * l2) + 12) + l5) : Int32).toNatClampNeg) (((24 * l2) + 12) + l5) else (if (h19.1 126 25) = 0 then YM_knows_B143 h19 l4 l5 l6 l4 (h19.1 144 ((((24 * l2) + 12) + l5) : Int32).toNatClampNeg) (((24 * l2) + 12) + l5) else YM_knows_B137 h19 l4 l5 l6 (h19.1 144 ((((24 * l2) + 12) + l5) : Int32).toNatClampNeg) (((24 * l2) + 12) + l5)))))))))
set_option maxHeartbeats 4000000 in
set_option maxRecDepth 100000 in
theorem J_YM_knows_B84 {G : sd_GX} {X : sd_CX} (hE : ∀ g : sd_H, sd_end G X M_YM_knows (sd_F g)) {h : sd_H} {r : (sd_H × Int32)} {l2 : Int32} {l4 : Int32} {l5 : Int32} {l6 : Int32} {s0 : Int32} (hf : YM_knows_B84 h l2 l4 l5 l6 s0 = some r) : sd_J G X (sd_QR G X M_YM_knows (some (.int r.2), sd_F r.1)) M_YM_knows 84 [(0, .ref (G.1 + 126)), (2, .int l2), (4, .int l4), (5, .int l5), (6, .int l6)] [.int s0, .ref (G.1 + 126)] (sd_F h) := by
  unfold YM_knows_B84 at hf
  obtain ⟨g16, hf⟩ := gd_some hf
  obtain ⟨h14, e15, hf⟩ := hb_some hf
  refine sF_pz (idx := 248) (ci := 12) (k := 25) (n := 47) (pc' := 87) (by decide +kernel) fl_X12_248 (by decide +kernel) rfl rfl rfl SH_126 g16 ?_
  rw [← e15]; clear e15
  refine sd_aload_n (k := 0) (i := 0) (q := 0) (pc' := 88) (by decide +kernel) rfl rfl ?_
  refine sF_gr (idx := 62) (ci := 12) (k := 23) (n := 47) (r := 144) (pc' := 91) (by decide +kernel) fl_X12_62 (by decide +kernel) rfl SH_126 (by decide) (by decide +kernel) ?_
  refine sd_bipush (n := 24) (v := 24) (pc' := 93) (by decide +kernel) (by decide) ?_
  refine sd_iload_n (k := 2) (i := 2) (q := 1) (pc' := 94) (by decide +kernel) rfl rfl ?_
  refine sd_imul (pc' := 95) (by decide +kernel) ?_
  refine sd_bipush (n := 6) (v := 6) (pc' := 97) (by decide +kernel) (by decide) ?_
  refine sd_iadd (pc' := 98) (by decide +kernel) ?_
  refine sd_iload (i := 5) (q := 3) (pc' := 100) (by decide +kernel) rfl ?_
  refine sd_iadd (pc' := 101) (by decide +kernel) ?_
  refine sd_dup2 (pc' := 102) (by decide +kernel) rfl rfl ?_
  obtain ⟨g17, hf⟩ := gd_some hf
  refine sF_iald (n := 240) (pc' := 103) (by decide +kernel) SH_144 g17 ?_
  refine sd_iload (i := 4) (q := 2) (pc' := 105) (by decide +kernel) rfl ?_
  refine sd_ior (pc' := 106) (by decide +kernel) ?_
  obtain ⟨g18, hf⟩ := gd_some hf
  obtain ⟨h19, e20, hf⟩ := hb_some hf
  refine sF_iast (n := 240) (pc' := 107) (by decide +kernel) SH_144 g18 ?_
  rw [← e20]; clear e20
  refine sd_aload_n (k := 0) (i := 0) (q := 0) (pc' := 108) (by decide +kernel) rfl rfl ?_
  refine sF_gr (idx := 62) (ci := 12) (k := 23) (n := 47) (r := 144) (pc' := 111) (by decide +kernel) fl_X12_62 (by decide +kernel) rfl SH_126 (by decide) (by decide +kernel) ?_
  refine sd_bipush (n := 24) (v := 24) (pc' := 113) (by decide +kernel) (by decide) ?_
  refine sd_iload_n (k := 2) (i := 2) (q := 1) (pc' := 114) (by decide +kernel) rfl rfl ?_
  refine sd_imul (pc' := 115) (by decide +kernel) ?_
  refine sd_bipush (n := 12) (v := 12) (pc' := 117) (by decide +kernel) (by decide) ?_
  refine sd_iadd (pc' := 118) (by decide +kernel) ?_
  refine sd_iload (i := 5) (q := 3) (pc' := 120) (by decide +kernel) rfl ?_
  refine sd_iadd (pc' := 121) (by decide +kernel) ?_
  refine sd_dup2 (pc' := 122) (by decide +kernel) rfl rfl ?_
  obtain ⟨g21, hf⟩ := gd_some hf
  refine sF_iald (n := 240) (pc' := 123) (by decide +kernel) SH_144 g21 ?_
  refine sd_iload (i := 6) (q := 4) (pc' := 125) (by decide +kernel) rfl ?_
  refine sd_bipush (n := 10) (v := 10) (pc' := 127) (by decide +kernel) (by decide) ?_
  refine sd_icmp_eq (off := 10) (tgt := 137) (pc' := 130) (by decide +kernel) (fun c22 => ?_) (fun c22 => ?_)
  · replace hf := ite_p c22 hf
    refine sd_J.sub (lo' := [(0, .ref (G.1 + 126)), (4, .int l4), (5, .int l5), (6, .int l6)]) [0, 2, 3, 4] rfl ?_
    exact J_YM_knows_B137 hE hf
  · replace hf := ite_n c22 hf
    refine sd_aload_n (k := 0) (i := 0) (q := 0) (pc' := 131) (by decide +kernel) rfl rfl ?_
    refine sF_gi (idx := 248) (ci := 12) (k := 25) (n := 47) (pc' := 134) (by decide +kernel) fl_X12_248 (by decide +kernel) rfl SH_126 ?_
    refine sd_if_eq (off := 7) (tgt := 141) (pc' := 137) (by decide +kernel) (fun c32 => ?_) (fun c32 => ?_)
    · replace hf := ite_p c32 hf
      refine sd_iload (i := 4) (q := 2) (pc' := 143) (by decide +kernel) rfl ?_
      refine sd_J.sub (lo' := [(0, .ref (G.1 + 126)), (4, .int l4), (5, .int l5), (6, .int l6)]) [0, 2, 3, 4] rfl ?_
      exact J_YM_knows_B143 hE hf
    · replace hf := ite_n c32 hf
      refine sd_J.sub (lo' := [(0, .ref (G.1 + 126)), (4, .int l4), (5, .int l5), (6, .int l6)]) [0, 2, 3, 4] rfl ?_
      exact J_YM_knows_B137 hE hf
def YM_knows_B79 (h : sd_H) (l2 : Int32) (l4 : Int32) (l5 : Int32) (l6 : Int32) : Option (sd_H × Int32) :=
  YM_knows_B84 h l2 l4 l5 l6 1
set_option maxHeartbeats 4000000 in
set_option maxRecDepth 100000 in
theorem J_YM_knows_B79 {G : sd_GX} {X : sd_CX} (hE : ∀ g : sd_H, sd_end G X M_YM_knows (sd_F g)) {h : sd_H} {r : (sd_H × Int32)} {l2 : Int32} {l4 : Int32} {l5 : Int32} {l6 : Int32} (hf : YM_knows_B79 h l2 l4 l5 l6 = some r) : sd_J G X (sd_QR G X M_YM_knows (some (.int r.2), sd_F r.1)) M_YM_knows 79 [(0, .ref (G.1 + 126)), (2, .int l2), (4, .int l4), (5, .int l5), (6, .int l6)] [.ref (G.1 + 126)] (sd_F h) := by
  unfold YM_knows_B79 at hf
  refine sd_iconst (n := 1) (v := 1) (pc' := 80) (by decide +kernel) (by decide) ?_
  refine sd_goto (off := 4) (tgt := 84) (pc' := 83) (by decide +kernel) ?_
  refine sd_J.sub (lo' := [(0, .ref (G.1 + 126)), (2, .int l2), (4, .int l4), (5, .int l5), (6, .int l6)]) [0, 1, 2, 3, 4] rfl ?_
  exact J_YM_knows_B84 hE hf
def YM_knows_B83 (h : sd_H) (l2 : Int32) (l4 : Int32) (l5 : Int32) (l6 : Int32) : Option (sd_H × Int32) :=
  YM_knows_B84 h l2 l4 l5 l6 0
set_option maxHeartbeats 4000000 in
set_option maxRecDepth 100000 in
theorem J_YM_knows_B83 {G : sd_GX} {X : sd_CX} (hE : ∀ g : sd_H, sd_end G X M_YM_knows (sd_F g)) {h : sd_H} {r : (sd_H × Int32)} {l2 : Int32} {l4 : Int32} {l5 : Int32} {l6 : Int32} (hf : YM_knows_B83 h l2 l4 l5 l6 = some r) : sd_J G X (sd_QR G X M_YM_knows (some (.int r.2), sd_F r.1)) M_YM_knows 83 [(0, .ref (G.1 + 126)), (2, .int l2), (4, .int l4), (5, .int l5), (6, .int l6)] [.ref (G.1 + 126)] (sd_F h) := by
  unfold YM_knows_B83 at hf
  refine sd_iconst (n := 0) (v := 0) (pc' := 84) (by decide +kernel) (by decide) ?_
  refine sd_J.sub (lo' := [(0, .ref (G.1 + 126)), (2, .int l2), (4, .int l4), (5, .int l5), (6, .int l6)]) [0, 1, 2, 3, 4] rfl ?_
  exact J_YM_knows_B84 hE hf
def YM_knows (h : sd_H) (a0 : Int32) (a1 : Int32) (a2 : Int32) : Option (sd_H × Int32) :=
  b2 (YM_reads h ((3 * a0) + 1) a1 a2) (fun h2 t3 => (if t3 = 0 then some (h2, 0) else b2 (YM_reads h2 ((3 * a0) + 2) a1 a2) (fun h6 t7 => (if t7 = 0 then some (h6, 0) else b1 (YM_bitAt h6 (3 * a0) a1 a2) (fun t10 => gd (sd_inB (3 * a0) 15) (gd (sd_inB a0 5) ((if (h6.1 126 25) = 0 then (if t10 = 0 then YM_knows_B83 h6 a1 t10 (h6.1 137 ((3 * a0) : Int32).toNatClampNeg) (h6.1 132 (a0 : Int32).toNatClampNeg) else (if (h6.1 132 (a0 : Int32).toNatClampNeg) < 11 then YM_knows_B83 h6 a1 t10 (h6.1 137 ((3 * a0) : Int32).toNatClampNeg) (h6.1 132 (a0 : Int32).toNatClampNeg) else YM_knows_B79 h6 a1 t10 (h6.1 137 ((3 * a0) : Int32).toNatClampNeg) (h6.1 132 (a0 : Int32).toNatClampNeg))) else YM_knows_B79 h6 a1 t10 (h6.1 137 ((3 * a0) : Int32).toNatClampNeg) (h6.1 132 (a0 : Int32).toNatClampNeg)))))))))
set_option maxHeartbeats 4000000 in
set_option maxRecDepth 100000 in
theorem T_YM_knows {G : sd_GX} {h : sd_H} {a0 : Int32} {a1 : Int32} {a2 : Int32} {r : (sd_H × Int32)} (hf : YM_knows h a0 a1 a2 = some r) : sd_RunF G M_YM_knows [.ref (G.1 + 126), .int a0, .int a1, .int a2] h (some (.int r.2)) r.1 := by
  refine sF_run ⟨rfl, rfl⟩ (by decide +kernel) (Nat.le_of_ble_eq_true rfl) (lo := [(0, .ref (G.1 + 126)), (1, .int a0), (2, .int a1), (3, .int a2)]) rfl (fun X hE => ?_)
  unfold YM_knows at hf
  refine sd_aload_n (k := 0) (i := 0) (q := 0) (pc' := 1) (by decide +kernel) rfl rfl ?_
  refine sd_iconst (n := 3) (v := 3) (pc' := 2) (by decide +kernel) (by decide) ?_
  refine sd_iload_n (k := 1) (i := 1) (q := 1) (pc' := 3) (by decide +kernel) rfl rfl ?_
  refine sd_imul (pc' := 4) (by decide +kernel) ?_
  refine sd_iconst (n := 1) (v := 1) (pc' := 5) (by decide +kernel) (by decide) ?_
  refine sd_iadd (pc' := 6) (by decide +kernel) ?_
  refine sd_iload_n (k := 2) (i := 2) (q := 2) (pc' := 7) (by decide +kernel) rfl rfl ?_
  refine sd_iload_n (k := 3) (i := 3) (q := 3) (pc' := 8) (by decide +kernel) rfl rfl ?_
  obtain ⟨h2, t3, q1, hf⟩ := b2_some hf
  refine sF_callV (idx := 245) (b := 126) (As := [.int ((3 * a0) + 1), .int a1, .int a2]) (ci := 12) (nn := 47) (pc' := 11) 3 (T_YM_reads (G := G) (h := h)  q1) (by decide +kernel) mv_YM_reads ml_X12_245 (by decide +kernel) rfl rfl (Nat.le_of_ble_eq_true rfl) SH_126 rfl (by decide) rfl rfl ?_
  refine sd_if_eq (off := 17) (tgt := 28) (pc' := 14) (by decide +kernel) (fun c4 => ?_) (fun c4 => ?_)
  · replace hf := ite_p c4 hf
    refine sd_iconst (n := 0) (v := 0) (pc' := 29) (by decide +kernel) (by decide) ?_
    obtain rfl := Option.some.inj hf
    exact sd_zret (by decide +kernel) rfl rfl (hE _)
  · replace hf := ite_n c4 hf
    refine sd_aload_n (k := 0) (i := 0) (q := 0) (pc' := 15) (by decide +kernel) rfl rfl ?_
    refine sd_iconst (n := 3) (v := 3) (pc' := 16) (by decide +kernel) (by decide) ?_
    refine sd_iload_n (k := 1) (i := 1) (q := 1) (pc' := 17) (by decide +kernel) rfl rfl ?_
    refine sd_imul (pc' := 18) (by decide +kernel) ?_
    refine sd_iconst (n := 2) (v := 2) (pc' := 19) (by decide +kernel) (by decide) ?_
    refine sd_iadd (pc' := 20) (by decide +kernel) ?_
    refine sd_iload_n (k := 2) (i := 2) (q := 2) (pc' := 21) (by decide +kernel) rfl rfl ?_
    refine sd_iload_n (k := 3) (i := 3) (q := 3) (pc' := 22) (by decide +kernel) rfl rfl ?_
    obtain ⟨h6, t7, q5, hf⟩ := b2_some hf
    refine sF_callV (idx := 245) (b := 126) (As := [.int ((3 * a0) + 2), .int a1, .int a2]) (ci := 12) (nn := 47) (pc' := 25) 3 (T_YM_reads (G := G) (h := h2)  q5) (by decide +kernel) mv_YM_reads ml_X12_245 (by decide +kernel) rfl rfl (Nat.le_of_ble_eq_true rfl) SH_126 rfl (by decide) rfl rfl ?_
    refine sd_if_ne (off := 5) (tgt := 30) (pc' := 28) (by decide +kernel) (fun c8 => ?_) (fun c8 => ?_)
    · replace hf := ite_n c8 hf
      refine sd_aload_n (k := 0) (i := 0) (q := 0) (pc' := 31) (by decide +kernel) rfl rfl ?_
      refine sd_iconst (n := 3) (v := 3) (pc' := 32) (by decide +kernel) (by decide) ?_
      refine sd_iload_n (k := 1) (i := 1) (q := 1) (pc' := 33) (by decide +kernel) rfl rfl ?_
      refine sd_imul (pc' := 34) (by decide +kernel) ?_
      refine sd_iload_n (k := 2) (i := 2) (q := 2) (pc' := 35) (by decide +kernel) rfl rfl ?_
      refine sd_iload_n (k := 3) (i := 3) (q := 3) (pc' := 36) (by decide +kernel) rfl rfl ?_
      obtain ⟨t10, q9, hf⟩ := b1_some hf
      refine sF_callV (idx := 242) (b := 126) (As := [.int (3 * a0), .int a1, .int a2]) (ci := 12) (nn := 47) (pc' := 39) 3 (T_YM_bitAt (G := G) (h := h6)  q9) (by decide +kernel) mv_YM_bitAt ml_X12_242 (by decide +kernel) rfl rfl (Nat.le_of_ble_eq_true rfl) SH_126 rfl (by decide) rfl rfl ?_
      refine sd_istore (i := 4) (pc' := 41) (lo' := [(4, .int t10), (0, .ref (G.1 + 126)), (1, .int a0), (2, .int a1), (3, .int a2)]) (by decide +kernel) (by decide) rfl ?_
      refine sd_aload_n (k := 0) (i := 0) (q := 1) (pc' := 42) (by decide +kernel) rfl rfl ?_
      refine sF_gr (idx := 41) (ci := 12) (k := 13) (n := 47) (r := 137) (pc' := 45) (by decide +kernel) fl_X12_41 (by decide +kernel) rfl SH_126 (by decide) (by decide +kernel) ?_
      refine sd_iconst (n := 3) (v := 3) (pc' := 46) (by decide +kernel) (by decide) ?_
      refine sd_iload_n (k := 1) (i := 1) (q := 2) (pc' := 47) (by decide +kernel) rfl rfl ?_
      refine sd_imul (pc' := 48) (by decide +kernel) ?_
      obtain ⟨g11, hf⟩ := gd_some hf
      refine sF_iald (n := 15) (pc' := 49) (by decide +kernel) SH_137 g11 ?_
      refine sd_istore (i := 5) (pc' := 51) (lo' := [(5, .int (h6.1 137 ((3 * a0) : Int32).toNatClampNeg)), (4, .int t10), (0, .ref (G.1 + 126)), (1, .int a0), (2, .int a1), (3, .int a2)]) (by decide +kernel) (by decide) rfl ?_
      refine sd_aload_n (k := 0) (i := 0) (q := 2) (pc' := 52) (by decide +kernel) rfl rfl ?_
      refine sF_gr (idx := 26) (ci := 12) (k := 8) (n := 47) (r := 132) (pc' := 55) (by decide +kernel) fl_X12_26 (by decide +kernel) rfl SH_126 (by decide) (by decide +kernel) ?_
      refine sd_iload_n (k := 1) (i := 1) (q := 3) (pc' := 56) (by decide +kernel) rfl rfl ?_
      obtain ⟨g12, hf⟩ := gd_some hf
      refine sF_iald (n := 5) (pc' := 57) (by decide +kernel) SH_132 g12 ?_
      refine sd_istore (i := 6) (pc' := 59) (lo' := [(6, .int (h6.1 132 (a0 : Int32).toNatClampNeg)), (5, .int (h6.1 137 ((3 * a0) : Int32).toNatClampNeg)), (4, .int t10), (0, .ref (G.1 + 126)), (1, .int a0), (2, .int a1), (3, .int a2)]) (by decide +kernel) (by decide) rfl ?_
      refine sd_aload_n (k := 0) (i := 0) (q := 3) (pc' := 60) (by decide +kernel) rfl rfl ?_
      refine sd_aload_n (k := 0) (i := 0) (q := 3) (pc' := 61) (by decide +kernel) rfl rfl ?_
      refine sF_gi (idx := 248) (ci := 12) (k := 25) (n := 47) (pc' := 64) (by decide +kernel) fl_X12_248 (by decide +kernel) rfl SH_126 ?_
      refine sd_if_ne (off := 15) (tgt := 79) (pc' := 67) (by decide +kernel) (fun c13 => ?_) (fun c13 => ?_)
      · replace hf := ite_n c13 hf
        refine sd_J.sub (lo' := [(0, .ref (G.1 + 126)), (2, .int a1), (4, .int t10), (5, .int (h6.1 137 ((3 * a0) : Int32).toNatClampNeg)), (6, .int (h6.1 132 (a0 : Int32).toNatClampNeg))]) [3, 5, 2, 1, 0] rfl ?_
        exact J_YM_knows_B79 hE hf
      · replace hf := ite_p c13 hf
        refine sd_iload (i := 4) (q := 2) (pc' := 69) (by decide +kernel) rfl ?_
        refine sd_if_eq (off := 14) (tgt := 83) (pc' := 72) (by decide +kernel) (fun c33 => ?_) (fun c33 => ?_)
        · replace hf := ite_p c33 hf
          refine sd_J.sub (lo' := [(0, .ref (G.1 + 126)), (2, .int a1), (4, .int t10), (5, .int (h6.1 137 ((3 * a0) : Int32).toNatClampNeg)), (6, .int (h6.1 132 (a0 : Int32).toNatClampNeg))]) [3, 5, 2, 1, 0] rfl ?_
          exact J_YM_knows_B83 hE hf
        · replace hf := ite_n c33 hf
          refine sd_iload (i := 6) (q := 0) (pc' := 74) (by decide +kernel) rfl ?_
          refine sd_bipush (n := 11) (v := 11) (pc' := 76) (by decide +kernel) (by decide) ?_
          refine sd_icmp_lt (off := 7) (tgt := 83) (pc' := 79) (by decide +kernel) (fun c34 => ?_) (fun c34 => ?_)
          · replace hf := ite_p c34 hf
            refine sd_J.sub (lo' := [(0, .ref (G.1 + 126)), (2, .int a1), (4, .int t10), (5, .int (h6.1 137 ((3 * a0) : Int32).toNatClampNeg)), (6, .int (h6.1 132 (a0 : Int32).toNatClampNeg))]) [3, 5, 2, 1, 0] rfl ?_
            exact J_YM_knows_B83 hE hf
          · replace hf := ite_n c34 hf
            refine sd_J.sub (lo' := [(0, .ref (G.1 + 126)), (2, .int a1), (4, .int t10), (5, .int (h6.1 137 ((3 * a0) : Int32).toNatClampNeg)), (6, .int (h6.1 132 (a0 : Int32).toNatClampNeg))]) [3, 5, 2, 1, 0] rfl ?_
            exact J_YM_knows_B79 hE hf
    · replace hf := ite_p c8 hf
      refine sd_iconst (n := 0) (v := 0) (pc' := 29) (by decide +kernel) (by decide) ?_
      obtain rfl := Option.some.inj hf
      exact sd_zret (by decide +kernel) rfl rfl (hE _)

theorem ml_X12_252 : Cond.methodLink RX12 252 yX12_knows ∈ sd_tb := sd_mem (i := 1511) (by decide +kernel)
theorem mv_YM_knows : sd_mV M_YM_knows 3 := ⟨sd_mem (i := 1513) (by decide +kernel), sd_mem (i := 66) (by decide +kernel), ⟨sd_mem (i := 1514) (by decide +kernel), sd_mem (i := 119) (by decide +kernel), by decide +kernel, by decide +kernel, by decide +kernel⟩⟩
def M_YM_findsTurn : sd_MX := (yX12_findsTurn, cX12_findsTurn, 5, none, { frames := 6, cells := 0, slots := 0, locals := 158 })
def YM_findsTurn_B84 (h : sd_H) (K30 : sd_H → Int32 → Int32 → Int32 → Option sd_H) (l1 : Int32) (l2 : Int32) (l3 : Int32) : Option sd_H :=
  K30 h l1 l2 (l3 + 1)
set_option maxHeartbeats 4000000 in
set_option maxRecDepth 100000 in
theorem J_YM_findsTurn_B84 {G : sd_GX} {X : sd_CX} (hE : ∀ g : sd_H, sd_end G X M_YM_findsTurn (sd_F g)) {h : sd_H} {K30 : sd_H → Int32 → Int32 → Int32 → Option sd_H} {r : sd_H} (hK30 : ∀ (g : sd_H) (l1 : Int32) (l2 : Int32) (l3 : Int32), K30 g l1 l2 l3 = some r → sd_J G X (sd_QR G X M_YM_findsTurn (none, sd_F r)) M_YM_findsTurn 30 [(0, .ref (G.1 + 126)), (1, .int l1), (2, .int l2), (3, .int l3)] [] (sd_F g)) {l1 : Int32} {l2 : Int32} {l3 : Int32} (hf : YM_findsTurn_B84 h K30 l1 l2 l3 = some r) : sd_J G X (sd_QR G X M_YM_findsTurn (none, sd_F r)) M_YM_findsTurn 84 [(0, .ref (G.1 + 126)), (1, .int l1), (2, .int l2), (3, .int l3)] [] (sd_F h) := by
  unfold YM_findsTurn_B84 at hf
  refine sd_iinc (i := 3) (q := 3) (n := 1) (v := (l3 + 1)) (pc' := 87) (lo' := [(3, .int (l3 + 1)), (0, .ref (G.1 + 126)), (1, .int l1), (2, .int l2)]) (by decide +kernel) rfl rfl (by decide) rfl ?_
  refine sd_goto (off := -57) (tgt := 30) (pc' := 90) (by decide +kernel) ?_
  refine sd_J.sub (lo' := [(0, .ref (G.1 + 126)), (1, .int l1), (2, .int l2), (3, .int (l3 + 1))]) [1, 2, 3, 0] rfl ?_
  exact hK30 _ _ _ _ hf
def YM_findsTurn_L45 (K30 : sd_H → Int32 → Int32 → Int32 → Option sd_H) : Nat → sd_H → Int32 → Int32 → Int32 → Int32 → Option sd_H
  | 0, _, _, _, _, _ => none
  | n + 1, h, l1, l2, l3, l4 =>
  gd (sd_inB l3 5) ((if (h.1 133 (l3 : Int32).toNatClampNeg) ≤ l4 then YM_findsTurn_B84 h K30 l1 l2 l3 else (if l2 = 0 then YM_findsTurn_B84 h K30 l1 l2 l3 else b1 (YM_isDone h l3 l1) (fun t10 => (if t10 = 0 then YM_findsTurn_B84 h K30 l1 l2 l3 else b2 (YM_knows h l3 l1 l4) (fun h13 t14 => YM_findsTurn_L45 K30 n h13 l1 t14 l3 (l4 + 1)))))))
set_option maxHeartbeats 4000000 in
set_option maxRecDepth 100000 in
theorem J_YM_findsTurn_L45 {G : sd_GX} {X : sd_CX} (hE : ∀ g : sd_H, sd_end G X M_YM_findsTurn (sd_F g))  {K30 : sd_H → Int32 → Int32 → Int32 → Option sd_H} {r : sd_H} (hK30 : ∀ (g : sd_H) (l1 : Int32) (l2 : Int32) (l3 : Int32), K30 g l1 l2 l3 = some r → sd_J G X (sd_QR G X M_YM_findsTurn (none, sd_F r)) M_YM_findsTurn 30 [(0, .ref (G.1 + 126)), (1, .int l1), (2, .int l2), (3, .int l3)] [] (sd_F g)) : ∀ (n : Nat) (h : sd_H) (l1 : Int32) (l2 : Int32) (l3 : Int32) (l4 : Int32), YM_findsTurn_L45 K30 n h l1 l2 l3 l4 = some r → sd_J G X (sd_QR G X M_YM_findsTurn (none, sd_F r)) M_YM_findsTurn 45 [(0, .ref (G.1 + 126)), (1, .int l1), (2, .int l2), (3, .int l3), (4, .int l4)] [] (sd_F h) := by
  intro n
  induction n with
  | zero =>
    intro h l1 l2 l3 l4 hf
    rw [YM_findsTurn_L45] at hf
    cases hf
  | succ n ih =>
    intro h l1 l2 l3 l4 hf
    rw [YM_findsTurn_L45] at hf
    refine sd_iload (i := 4) (q := 4) (pc' := 47) (by decide +kernel) rfl ?_
    refine sd_aload_n (k := 0) (i := 0) (q := 0) (pc' := 48) (by decide +kernel) rfl rfl ?_
    refine sF_gr (idx := 29) (ci := 12) (k := 9) (n := 47) (r := 133) (pc' := 51) (by decide +kernel) fl_X12_29 (by decide +kernel) rfl SH_126 (by decide) (by decide +kernel) ?_
    refine sd_iload_n (k := 3) (i := 3) (q := 3) (pc' := 52) (by decide +kernel) rfl rfl ?_
    obtain ⟨g6, hf⟩ := gd_some hf
    refine sF_iald (n := 5) (pc' := 53) (by decide +kernel) SH_133 g6 ?_
    refine sd_icmp_ge (off := 31) (tgt := 84) (pc' := 56) (by decide +kernel) (fun c7 => ?_) (fun c7 => ?_)
    · replace hf := ite_p c7 hf
      refine sd_J.sub (lo' := [(0, .ref (G.1 + 126)), (1, .int l1), (2, .int l2), (3, .int l3)]) [0, 1, 2, 3] rfl ?_
      exact J_YM_findsTurn_B84 hE hK30 hf
    · replace hf := ite_n c7 hf
      refine sd_iload_n (k := 2) (i := 2) (q := 2) (pc' := 57) (by decide +kernel) rfl rfl ?_
      refine sd_if_eq (off := 27) (tgt := 84) (pc' := 60) (by decide +kernel) (fun c8 => ?_) (fun c8 => ?_)
      · replace hf := ite_p c8 hf
        refine sd_J.sub (lo' := [(0, .ref (G.1 + 126)), (1, .int l1), (2, .int l2), (3, .int l3)]) [0, 1, 2, 3] rfl ?_
        exact J_YM_findsTurn_B84 hE hK30 hf
      · replace hf := ite_n c8 hf
        refine sd_aload_n (k := 0) (i := 0) (q := 0) (pc' := 61) (by decide +kernel) rfl rfl ?_
        refine sd_iload_n (k := 3) (i := 3) (q := 3) (pc' := 62) (by decide +kernel) rfl rfl ?_
        refine sd_iload_n (k := 1) (i := 1) (q := 1) (pc' := 63) (by decide +kernel) rfl rfl ?_
        obtain ⟨t10, q9, hf⟩ := b1_some hf
        refine sF_callV (idx := 177) (b := 126) (As := [.int l3, .int l1]) (ci := 12) (nn := 47) (pc' := 66) 2 (T_YM_isDone (G := G) (h := h)  q9) (by decide +kernel) mv_YM_isDone ml_X12_177 (by decide +kernel) rfl rfl (Nat.le_of_ble_eq_true rfl) SH_126 rfl (by decide) rfl rfl ?_
        refine sd_if_eq (off := 18) (tgt := 84) (pc' := 69) (by decide +kernel) (fun c11 => ?_) (fun c11 => ?_)
        · replace hf := ite_p c11 hf
          refine sd_J.sub (lo' := [(0, .ref (G.1 + 126)), (1, .int l1), (2, .int l2), (3, .int l3)]) [0, 1, 2, 3] rfl ?_
          exact J_YM_findsTurn_B84 hE hK30 hf
        · replace hf := ite_n c11 hf
          refine sd_aload_n (k := 0) (i := 0) (q := 0) (pc' := 70) (by decide +kernel) rfl rfl ?_
          refine sd_iload_n (k := 3) (i := 3) (q := 3) (pc' := 71) (by decide +kernel) rfl rfl ?_
          refine sd_iload_n (k := 1) (i := 1) (q := 1) (pc' := 72) (by decide +kernel) rfl rfl ?_
          refine sd_iload (i := 4) (q := 4) (pc' := 74) (by decide +kernel) rfl ?_
          obtain ⟨h13, t14, q12, hf⟩ := b2_some hf
          refine sF_callV (idx := 252) (b := 126) (As := [.int l3, .int l1, .int l4]) (ci := 12) (nn := 47) (pc' := 77) 3 (T_YM_knows (G := G) (h := h)  q12) (by decide +kernel) mv_YM_knows ml_X12_252 (by decide +kernel) rfl rfl (Nat.le_of_ble_eq_true rfl) SH_126 rfl (by decide) rfl rfl ?_
          refine sd_istore_n (k := 2) (i := 2) (pc' := 78) (lo' := [(2, .int t14), (0, .ref (G.1 + 126)), (1, .int l1), (3, .int l3), (4, .int l4)]) (by decide +kernel) rfl (by decide) rfl ?_
          refine sd_iinc (i := 4) (q := 4) (n := 1) (v := (l4 + 1)) (pc' := 81) (lo' := [(4, .int (l4 + 1)), (2, .int t14), (0, .ref (G.1 + 126)), (1, .int l1), (3, .int l3)]) (by decide +kernel) rfl rfl (by decide) rfl ?_
          refine sd_goto (off := -36) (tgt := 45) (pc' := 84) (by decide +kernel) ?_
          refine sd_J.sub (lo' := [(0, .ref (G.1 + 126)), (1, .int l1), (2, .int t14), (3, .int l3), (4, .int (l4 + 1))]) [2, 3, 1, 4, 0] rfl ?_
          exact ih _ _ _ _ _ hf
def YM_findsTurn_L30 : Nat → sd_H → Int32 → Int32 → Int32 → Option sd_H
  | 0, _, _, _, _ => none
  | n + 1, h, l1, l2, l3 =>
  (if (h.1 126 7) ≤ l3 then some h else (if l2 = 0 then some h else YM_findsTurn_L45 (YM_findsTurn_L30 n) FU h l1 l2 l3 0))
set_option maxHeartbeats 4000000 in
set_option maxRecDepth 100000 in
theorem J_YM_findsTurn_L30 {G : sd_GX} {X : sd_CX} (hE : ∀ g : sd_H, sd_end G X M_YM_findsTurn (sd_F g))  {r : sd_H} : ∀ (n : Nat) (h : sd_H) (l1 : Int32) (l2 : Int32) (l3 : Int32), YM_findsTurn_L30 n h l1 l2 l3 = some r → sd_J G X (sd_QR G X M_YM_findsTurn (none, sd_F r)) M_YM_findsTurn 30 [(0, .ref (G.1 + 126)), (1, .int l1), (2, .int l2), (3, .int l3)] [] (sd_F h) := by
  intro n
  induction n with
  | zero =>
    intro h l1 l2 l3 hf
    rw [YM_findsTurn_L30] at hf
    cases hf
  | succ n ih =>
    intro h l1 l2 l3 hf
    rw [YM_findsTurn_L30] at hf
    refine sd_iload_n (k := 3) (i := 3) (q := 3) (pc' := 31) (by decide +kernel) rfl rfl ?_
    refine sd_aload_n (k := 0) (i := 0) (q := 0) (pc' := 32) (by decide +kernel) rfl rfl ?_
    refine sF_gi (idx := 171) (ci := 12) (k := 7) (n := 47) (pc' := 35) (by decide +kernel) fl_X12_171 (by decide +kernel) rfl SH_126 ?_
    refine sd_icmp_ge (off := 55) (tgt := 90) (pc' := 38) (by decide +kernel) (fun c4 => ?_) (fun c4 => ?_)
    · replace hf := ite_p c4 hf
      obtain rfl := Option.some.inj hf
      exact sd_vret (by decide +kernel) rfl (hE _)
    · replace hf := ite_n c4 hf
      refine sd_iload_n (k := 2) (i := 2) (q := 2) (pc' := 39) (by decide +kernel) rfl rfl ?_
      refine sd_if_eq (off := 51) (tgt := 90) (pc' := 42) (by decide +kernel) (fun c5 => ?_) (fun c5 => ?_)
      · replace hf := ite_p c5 hf
        obtain rfl := Option.some.inj hf
        exact sd_vret (by decide +kernel) rfl (hE _)
      · replace hf := ite_n c5 hf
        refine sd_iconst (n := 0) (v := 0) (pc' := 43) (by decide +kernel) (by decide) ?_
        refine sd_istore (i := 4) (pc' := 45) (lo' := [(4, .int 0), (0, .ref (G.1 + 126)), (1, .int l1), (2, .int l2), (3, .int l3)]) (by decide +kernel) (by decide) rfl ?_
        refine sd_J.sub (lo' := [(0, .ref (G.1 + 126)), (1, .int l1), (2, .int l2), (3, .int l3), (4, .int 0)]) [1, 2, 3, 4, 0] rfl ?_
        exact J_YM_findsTurn_L45 hE ih _ _ _ _ _ _ hf
def YM_findsTurn_L7 : Nat → sd_H → Int32 → Int32 → Option sd_H
  | 0, _, _, _ => none
  | n + 1, h, l1, l2 =>
  (if 6 ≤ l2 then YM_findsTurn_L30 FU h l1 1 0 else gd (sd_inB l2 6) (hb (wI h 145 (l2 : Int32).toNatClampNeg 0) (fun h16 => YM_findsTurn_L7 n h16 l1 (l2 + 1))))
set_option maxHeartbeats 4000000 in
set_option maxRecDepth 100000 in
theorem J_YM_findsTurn_L7 {G : sd_GX} {X : sd_CX} (hE : ∀ g : sd_H, sd_end G X M_YM_findsTurn (sd_F g))  {r : sd_H} : ∀ (n : Nat) (h : sd_H) (l1 : Int32) (l2 : Int32), YM_findsTurn_L7 n h l1 l2 = some r → sd_J G X (sd_QR G X M_YM_findsTurn (none, sd_F r)) M_YM_findsTurn 7 [(0, .ref (G.1 + 126)), (1, .int l1), (2, .int l2)] [] (sd_F h) := by
  intro n
  induction n with
  | zero =>
    intro h l1 l2 hf
    rw [YM_findsTurn_L7] at hf
    cases hf
  | succ n ih =>
    intro h l1 l2 hf
    rw [YM_findsTurn_L7] at hf
    refine sd_iload_n (k := 2) (i := 2) (q := 2) (pc' := 8) (by decide +kernel) rfl rfl ?_
    refine sd_bipush (n := 6) (v := 6) (pc' := 10) (by decide +kernel) (by decide) ?_
    refine sd_icmp_ge (off := 16) (tgt := 26) (pc' := 13) (by decide +kernel) (fun c3 => ?_) (fun c3 => ?_)
    · replace hf := ite_p c3 hf
      refine sd_iconst (n := 1) (v := 1) (pc' := 27) (by decide +kernel) (by decide) ?_
      refine sd_istore_n (k := 2) (i := 2) (pc' := 28) (lo' := [(2, .int 1), (0, .ref (G.1 + 126)), (1, .int l1)]) (by decide +kernel) rfl (by decide) rfl ?_
      refine sd_iconst (n := 0) (v := 0) (pc' := 29) (by decide +kernel) (by decide) ?_
      refine sd_istore_n (k := 3) (i := 3) (pc' := 30) (lo' := [(3, .int 0), (2, .int 1), (0, .ref (G.1 + 126)), (1, .int l1)]) (by decide +kernel) rfl (by decide) rfl ?_
      refine sd_J.sub (lo' := [(0, .ref (G.1 + 126)), (1, .int l1), (2, .int 1), (3, .int 0)]) [2, 3, 1, 0] rfl ?_
      exact J_YM_findsTurn_L30 hE _ _ _ _ _ hf
    · replace hf := ite_n c3 hf
      refine sd_aload_n (k := 0) (i := 0) (q := 0) (pc' := 14) (by decide +kernel) rfl rfl ?_
      refine sF_gr (idx := 65) (ci := 12) (k := 24) (n := 47) (r := 145) (pc' := 17) (by decide +kernel) fl_X12_65 (by decide +kernel) rfl SH_126 (by decide) (by decide +kernel) ?_
      refine sd_iload_n (k := 2) (i := 2) (q := 2) (pc' := 18) (by decide +kernel) rfl rfl ?_
      refine sd_iconst (n := 0) (v := 0) (pc' := 19) (by decide +kernel) (by decide) ?_
      obtain ⟨g15, hf⟩ := gd_some hf
      obtain ⟨h16, e17, hf⟩ := hb_some hf
      refine sF_iast (n := 6) (pc' := 20) (by decide +kernel) SH_145 g15 ?_
      rw [← e17]; clear e17
      refine sd_iinc (i := 2) (q := 2) (n := 1) (v := (l2 + 1)) (pc' := 23) (lo' := [(2, .int (l2 + 1)), (0, .ref (G.1 + 126)), (1, .int l1)]) (by decide +kernel) rfl rfl (by decide) rfl ?_
      refine sd_goto (off := -16) (tgt := 7) (pc' := 26) (by decide +kernel) ?_
      refine sd_J.sub (lo' := [(0, .ref (G.1 + 126)), (1, .int l1), (2, .int (l2 + 1))]) [1, 2, 0] rfl ?_
      exact ih _ _ _ hf
def YM_findsTurn (h : sd_H) (a0 : Int32) : Option sd_H :=
  hb (wI h 126 25 0) (fun h1 => YM_findsTurn_L7 FU h1 a0 0)
set_option maxHeartbeats 4000000 in
set_option maxRecDepth 100000 in
theorem T_YM_findsTurn {G : sd_GX} {h : sd_H} {a0 : Int32} {r : sd_H} (hf : YM_findsTurn h a0 = some r) : sd_RunF G M_YM_findsTurn [.ref (G.1 + 126), .int a0] h none r := by
  refine sF_run ⟨rfl, rfl⟩ (by decide +kernel) (Nat.le_of_ble_eq_true rfl) (lo := [(0, .ref (G.1 + 126)), (1, .int a0)]) rfl (fun X hE => ?_)
  unfold YM_findsTurn at hf
  refine sd_aload_n (k := 0) (i := 0) (q := 0) (pc' := 1) (by decide +kernel) rfl rfl ?_
  refine sd_iconst (n := 0) (v := 0) (pc' := 2) (by decide +kernel) (by decide) ?_
  obtain ⟨h1, e2, hf⟩ := hb_some hf
  refine sF_pz (idx := 248) (ci := 12) (k := 25) (n := 47) (pc' := 5) (by decide +kernel) fl_X12_248 (by decide +kernel) rfl rfl rfl SH_126 (by decide) ?_
  rw [← e2]; clear e2
  refine sd_iconst (n := 0) (v := 0) (pc' := 6) (by decide +kernel) (by decide) ?_
  refine sd_istore_n (k := 2) (i := 2) (pc' := 7) (lo' := [(2, .int 0), (0, .ref (G.1 + 126)), (1, .int a0)]) (by decide +kernel) rfl (by decide) rfl ?_
  refine sd_J.sub (lo' := [(0, .ref (G.1 + 126)), (1, .int a0), (2, .int 0)]) [1, 2, 0] rfl ?_
  exact J_YM_findsTurn_L7 hE _ _ _ _ hf
