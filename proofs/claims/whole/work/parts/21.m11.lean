theorem ml_X12_255 : Cond.methodLink RX12 255 yX12_findsTurn ∈ sd_tb := sd_mem (i := 1507) (by decide +kernel)
theorem mv_YM_findsTurn : sd_mV M_YM_findsTurn 1 := ⟨sd_mem (i := 1509) (by decide +kernel), sd_mem (i := 65) (by decide +kernel), ⟨sd_mem (i := 1510) (by decide +kernel), sd_mem (i := 119) (by decide +kernel), by decide +kernel, by decide +kernel, by decide +kernel⟩⟩
def M_YM_findsSets : sd_MX := (yX12_findsSets, cX12_findsSets, 2, none, { frames := 7, cells := 0, slots := 0, locals := 182 })
def YM_findsSets_L24 : Nat → sd_H → Int32 → Option sd_H
  | 0, _, _ => none
  | n + 1, h, l1 =>
  (if (h.1 126 6) ≤ l1 then some h else b1 (YM_findsTurn h l1) (fun h4 => YM_findsSets_L24 n h4 (l1 + 1)))
set_option maxHeartbeats 4000000 in
set_option maxRecDepth 100000 in
theorem J_YM_findsSets_L24 {G : sd_GX} {X : sd_CX} (hE : ∀ g : sd_H, sd_end G X M_YM_findsSets (sd_F g))  {r : sd_H} : ∀ (n : Nat) (h : sd_H) (l1 : Int32), YM_findsSets_L24 n h l1 = some r → sd_J G X (sd_QR G X M_YM_findsSets (none, sd_F r)) M_YM_findsSets 24 [(0, .ref (G.1 + 126)), (1, .int l1)] [] (sd_F h) := by
  intro n
  induction n with
  | zero =>
    intro h l1 hf
    rw [YM_findsSets_L24] at hf
    cases hf
  | succ n ih =>
    intro h l1 hf
    rw [YM_findsSets_L24] at hf
    refine sd_iload_n (k := 1) (i := 1) (q := 1) (pc' := 25) (by decide +kernel) rfl rfl ?_
    refine sd_aload_n (k := 0) (i := 0) (q := 0) (pc' := 26) (by decide +kernel) rfl rfl ?_
    refine sF_gi (idx := 154) (ci := 12) (k := 6) (n := 47) (pc' := 29) (by decide +kernel) fl_X12_154 (by decide +kernel) rfl SH_126 ?_
    refine sd_icmp_ge (off := 14) (tgt := 43) (pc' := 32) (by decide +kernel) (fun c2 => ?_) (fun c2 => ?_)
    · replace hf := ite_p c2 hf
      obtain rfl := Option.some.inj hf
      exact sd_vret (by decide +kernel) rfl (hE _)
    · replace hf := ite_n c2 hf
      refine sd_aload_n (k := 0) (i := 0) (q := 0) (pc' := 33) (by decide +kernel) rfl rfl ?_
      refine sd_iload_n (k := 1) (i := 1) (q := 1) (pc' := 34) (by decide +kernel) rfl rfl ?_
      obtain ⟨h4, q3, hf⟩ := b1_some hf
      refine sF_callV0 (idx := 255) (b := 126) (As := [.int l1]) (ci := 12) (nn := 47) (pc' := 37) 1 (T_YM_findsTurn (G := G) (h := h)  q3) (by decide +kernel) mv_YM_findsTurn ml_X12_255 (by decide +kernel) rfl rfl (Nat.le_of_ble_eq_true rfl) SH_126 rfl (by decide) rfl rfl ?_
      refine sd_iinc (i := 1) (q := 1) (n := 1) (v := (l1 + 1)) (pc' := 40) (lo' := [(1, .int (l1 + 1)), (0, .ref (G.1 + 126))]) (by decide +kernel) rfl rfl (by decide) rfl ?_
      refine sd_goto (off := -16) (tgt := 24) (pc' := 43) (by decide +kernel) ?_
      refine sd_J.sub (lo' := [(0, .ref (G.1 + 126)), (1, .int (l1 + 1))]) [1, 0] rfl ?_
      exact ih _ _ hf
def YM_findsSets_L2 : Nat → sd_H → Int32 → Option sd_H
  | 0, _, _ => none
  | n + 1, h, l1 =>
  (if 240 ≤ l1 then YM_findsSets_L24 FU h 0 else gd (sd_inB l1 240) (hb (wI h 144 (l1 : Int32).toNatClampNeg 0) (fun h6 => YM_findsSets_L2 n h6 (l1 + 1))))
set_option maxHeartbeats 4000000 in
set_option maxRecDepth 100000 in
theorem J_YM_findsSets_L2 {G : sd_GX} {X : sd_CX} (hE : ∀ g : sd_H, sd_end G X M_YM_findsSets (sd_F g))  {r : sd_H} : ∀ (n : Nat) (h : sd_H) (l1 : Int32), YM_findsSets_L2 n h l1 = some r → sd_J G X (sd_QR G X M_YM_findsSets (none, sd_F r)) M_YM_findsSets 2 [(0, .ref (G.1 + 126)), (1, .int l1)] [] (sd_F h) := by
  intro n
  induction n with
  | zero =>
    intro h l1 hf
    rw [YM_findsSets_L2] at hf
    cases hf
  | succ n ih =>
    intro h l1 hf
    rw [YM_findsSets_L2] at hf
    refine sd_iload_n (k := 1) (i := 1) (q := 1) (pc' := 3) (by decide +kernel) rfl rfl ?_
    refine sd_sipush (n := 240) (v := 240) (pc' := 6) (by decide +kernel) (by decide) ?_
    refine sd_icmp_ge (off := 16) (tgt := 22) (pc' := 9) (by decide +kernel) (fun c1 => ?_) (fun c1 => ?_)
    · replace hf := ite_p c1 hf
      refine sd_iconst (n := 0) (v := 0) (pc' := 23) (by decide +kernel) (by decide) ?_
      refine sd_istore_n (k := 1) (i := 1) (pc' := 24) (lo' := [(1, .int 0), (0, .ref (G.1 + 126))]) (by decide +kernel) rfl (by decide) rfl ?_
      refine sd_J.sub (lo' := [(0, .ref (G.1 + 126)), (1, .int 0)]) [1, 0] rfl ?_
      exact J_YM_findsSets_L24 hE _ _ _ hf
    · replace hf := ite_n c1 hf
      refine sd_aload_n (k := 0) (i := 0) (q := 0) (pc' := 10) (by decide +kernel) rfl rfl ?_
      refine sF_gr (idx := 62) (ci := 12) (k := 23) (n := 47) (r := 144) (pc' := 13) (by decide +kernel) fl_X12_62 (by decide +kernel) rfl SH_126 (by decide) (by decide +kernel) ?_
      refine sd_iload_n (k := 1) (i := 1) (q := 1) (pc' := 14) (by decide +kernel) rfl rfl ?_
      refine sd_iconst (n := 0) (v := 0) (pc' := 15) (by decide +kernel) (by decide) ?_
      obtain ⟨g5, hf⟩ := gd_some hf
      obtain ⟨h6, e7, hf⟩ := hb_some hf
      refine sF_iast (n := 240) (pc' := 16) (by decide +kernel) SH_144 g5 ?_
      rw [← e7]; clear e7
      refine sd_iinc (i := 1) (q := 1) (n := 1) (v := (l1 + 1)) (pc' := 19) (lo' := [(1, .int (l1 + 1)), (0, .ref (G.1 + 126))]) (by decide +kernel) rfl rfl (by decide) rfl ?_
      refine sd_goto (off := -17) (tgt := 2) (pc' := 22) (by decide +kernel) ?_
      refine sd_J.sub (lo' := [(0, .ref (G.1 + 126)), (1, .int (l1 + 1))]) [1, 0] rfl ?_
      exact ih _ _ hf
def YM_findsSets (h : sd_H) : Option sd_H :=
  YM_findsSets_L2 FU h 0
set_option maxHeartbeats 4000000 in
set_option maxRecDepth 100000 in
theorem T_YM_findsSets {G : sd_GX} {h : sd_H} {r : sd_H} (hf : YM_findsSets h = some r) : sd_RunF G M_YM_findsSets [.ref (G.1 + 126)] h none r := by
  refine sF_run ⟨rfl, rfl⟩ (by decide +kernel) (Nat.le_of_ble_eq_true rfl) (lo := [(0, .ref (G.1 + 126))]) rfl (fun X hE => ?_)
  unfold YM_findsSets at hf
  refine sd_iconst (n := 0) (v := 0) (pc' := 1) (by decide +kernel) (by decide) ?_
  refine sd_istore_n (k := 1) (i := 1) (pc' := 2) (lo' := [(1, .int 0), (0, .ref (G.1 + 126))]) (by decide +kernel) rfl (by decide) rfl ?_
  refine sd_J.sub (lo' := [(0, .ref (G.1 + 126)), (1, .int 0)]) [1, 0] rfl ?_
  exact J_YM_findsSets_L2 hE _ _ _ hf

def M_YM_bitsOfTurn : sd_MX := (yX12_bitsOfTurn, cX12_bitsOfTurn, 4, (some .int), { frames := 1, cells := 0, slots := 0, locals := 40 })
def YM_bitsOfTurn (h : sd_H) (a0 : Int32) (a1 : Int32) (a2 : Int32) : Option Int32 :=
  gd (sd_inB (((24 * a2) + (6 * a0)) + a1) 240) (some (h.1 144 ((((24 * a2) + (6 * a0)) + a1) : Int32).toNatClampNeg))
set_option maxHeartbeats 4000000 in
set_option maxRecDepth 100000 in
theorem T_YM_bitsOfTurn {G : sd_GX} {h : sd_H} {a0 : Int32} {a1 : Int32} {a2 : Int32} {r : Int32} (hf : YM_bitsOfTurn h a0 a1 a2 = some r) : sd_RunF G M_YM_bitsOfTurn [.ref (G.1 + 126), .int a0, .int a1, .int a2] h (some (.int r)) h := by
  refine sF_run ⟨rfl, rfl⟩ (by decide +kernel) (Nat.le_of_ble_eq_true rfl) (lo := [(0, .ref (G.1 + 126)), (1, .int a0), (2, .int a1), (3, .int a2)]) rfl (fun X hE => ?_)
  unfold YM_bitsOfTurn at hf
  refine sd_aload_n (k := 0) (i := 0) (q := 0) (pc' := 1) (by decide +kernel) rfl rfl ?_
  refine sF_gr (idx := 62) (ci := 12) (k := 23) (n := 47) (r := 144) (pc' := 4) (by decide +kernel) fl_X12_62 (by decide +kernel) rfl SH_126 (by decide) (by decide +kernel) ?_
  refine sd_bipush (n := 24) (v := 24) (pc' := 6) (by decide +kernel) (by decide) ?_
  refine sd_iload_n (k := 3) (i := 3) (q := 3) (pc' := 7) (by decide +kernel) rfl rfl ?_
  refine sd_imul (pc' := 8) (by decide +kernel) ?_
  refine sd_bipush (n := 6) (v := 6) (pc' := 10) (by decide +kernel) (by decide) ?_
  refine sd_iload_n (k := 1) (i := 1) (q := 1) (pc' := 11) (by decide +kernel) rfl rfl ?_
  refine sd_imul (pc' := 12) (by decide +kernel) ?_
  refine sd_iadd (pc' := 13) (by decide +kernel) ?_
  refine sd_iload_n (k := 2) (i := 2) (q := 2) (pc' := 14) (by decide +kernel) rfl rfl ?_
  refine sd_iadd (pc' := 15) (by decide +kernel) ?_
  obtain ⟨g1, hf⟩ := gd_some hf
  refine sF_iald (n := 240) (pc' := 16) (by decide +kernel) SH_144 g1 ?_
  obtain rfl := Option.some.inj hf
  exact sd_iret (by decide +kernel) rfl (hE _)

theorem ml_X12_259 : Cond.methodLink RX12 259 yX12_findsSets ∈ sd_tb := sd_mem (i := 1503) (by decide +kernel)
theorem mv_YM_findsSets : sd_mV M_YM_findsSets 0 := ⟨sd_mem (i := 1505) (by decide +kernel), sd_mem (i := 64) (by decide +kernel), ⟨sd_mem (i := 1506) (by decide +kernel), sd_mem (i := 119) (by decide +kernel), by decide +kernel, by decide +kernel, by decide +kernel⟩⟩
theorem ml_X12_262 : Cond.methodLink RX12 262 yX12_bitsOfTurn ∈ sd_tb := sd_mem (i := 1523) (by decide +kernel)
theorem mv_YM_bitsOfTurn : sd_mV M_YM_bitsOfTurn 3 := ⟨sd_mem (i := 1525) (by decide +kernel), sd_mem (i := 69) (by decide +kernel), ⟨sd_mem (i := 1526) (by decide +kernel), sd_mem (i := 119) (by decide +kernel), by decide +kernel, by decide +kernel, by decide +kernel⟩⟩
def M_YM_bitsOfSet : sd_MX := (yX12_bitsOfSet, cX12_bitsOfSet, 6, (some .int), { frames := 8, cells := 0, slots := 0, locals := 203 })
def YM_bitsOfSet_B44 (h : sd_H) (K10 : sd_H → Int32 → Int32 → Int32 → Int32 → Int32 → Option (sd_H × Int32)) (l1 : Int32) (l2 : Int32) (l3 : Int32) (l5 : Int32) (s0 : Int32) (s1 : Int32) : Option (sd_H × Int32) :=
  K10 h l1 l2 l3 (s1 ||| s0) (l5 + 1)
set_option maxHeartbeats 4000000 in
set_option maxRecDepth 100000 in
theorem J_YM_bitsOfSet_B44 {G : sd_GX} {X : sd_CX} (hE : ∀ g : sd_H, sd_end G X M_YM_bitsOfSet (sd_F g)) {h : sd_H} {K10 : sd_H → Int32 → Int32 → Int32 → Int32 → Int32 → Option (sd_H × Int32)} {r : (sd_H × Int32)} (hK10 : ∀ (g : sd_H) (l1 : Int32) (l2 : Int32) (l3 : Int32) (l4 : Int32) (l5 : Int32), K10 g l1 l2 l3 l4 l5 = some r → sd_J G X (sd_QR G X M_YM_bitsOfSet (some (.int r.2), sd_F r.1)) M_YM_bitsOfSet 10 [(0, .ref (G.1 + 126)), (1, .int l1), (2, .int l2), (3, .int l3), (4, .int l4), (5, .int l5)] [] (sd_F g)) {l1 : Int32} {l2 : Int32} {l3 : Int32} {l5 : Int32} {s0 : Int32} {s1 : Int32} (hf : YM_bitsOfSet_B44 h K10 l1 l2 l3 l5 s0 s1 = some r) : sd_J G X (sd_QR G X M_YM_bitsOfSet (some (.int r.2), sd_F r.1)) M_YM_bitsOfSet 44 [(0, .ref (G.1 + 126)), (1, .int l1), (2, .int l2), (3, .int l3), (5, .int l5)] [.int s0, .int s1] (sd_F h) := by
  unfold YM_bitsOfSet_B44 at hf
  refine sd_ior (pc' := 45) (by decide +kernel) ?_
  refine sd_istore (i := 4) (pc' := 47) (lo' := [(4, .int (s1 ||| s0)), (0, .ref (G.1 + 126)), (1, .int l1), (2, .int l2), (3, .int l3), (5, .int l5)]) (by decide +kernel) (by decide) rfl ?_
  refine sd_iinc (i := 5) (q := 5) (n := 1) (v := (l5 + 1)) (pc' := 50) (lo' := [(5, .int (l5 + 1)), (4, .int (s1 ||| s0)), (0, .ref (G.1 + 126)), (1, .int l1), (2, .int l2), (3, .int l3)]) (by decide +kernel) rfl rfl (by decide) rfl ?_
  refine sd_goto (off := -40) (tgt := 10) (pc' := 53) (by decide +kernel) ?_
  refine sd_J.sub (lo' := [(0, .ref (G.1 + 126)), (1, .int l1), (2, .int l2), (3, .int l3), (4, .int (s1 ||| s0)), (5, .int (l5 + 1))]) [2, 3, 4, 5, 1, 0] rfl ?_
  exact hK10 _ _ _ _ _ _ hf
def YM_bitsOfSet_B32 (h : sd_H) (K10 : sd_H → Int32 → Int32 → Int32 → Int32 → Int32 → Option (sd_H × Int32)) (l1 : Int32) (l2 : Int32) (l3 : Int32) (l5 : Int32) (s0 : Int32) : Option (sd_H × Int32) :=
  b1 (YM_bitsOfTurn h l1 l2 l5) (fun t6 => YM_bitsOfSet_B44 h K10 l1 l2 l3 l5 t6 s0)
set_option maxHeartbeats 4000000 in
set_option maxRecDepth 100000 in
theorem J_YM_bitsOfSet_B32 {G : sd_GX} {X : sd_CX} (hE : ∀ g : sd_H, sd_end G X M_YM_bitsOfSet (sd_F g)) {h : sd_H} {K10 : sd_H → Int32 → Int32 → Int32 → Int32 → Int32 → Option (sd_H × Int32)} {r : (sd_H × Int32)} (hK10 : ∀ (g : sd_H) (l1 : Int32) (l2 : Int32) (l3 : Int32) (l4 : Int32) (l5 : Int32), K10 g l1 l2 l3 l4 l5 = some r → sd_J G X (sd_QR G X M_YM_bitsOfSet (some (.int r.2), sd_F r.1)) M_YM_bitsOfSet 10 [(0, .ref (G.1 + 126)), (1, .int l1), (2, .int l2), (3, .int l3), (4, .int l4), (5, .int l5)] [] (sd_F g)) {l1 : Int32} {l2 : Int32} {l3 : Int32} {l5 : Int32} {s0 : Int32} (hf : YM_bitsOfSet_B32 h K10 l1 l2 l3 l5 s0 = some r) : sd_J G X (sd_QR G X M_YM_bitsOfSet (some (.int r.2), sd_F r.1)) M_YM_bitsOfSet 32 [(0, .ref (G.1 + 126)), (1, .int l1), (2, .int l2), (3, .int l3), (5, .int l5)] [.int s0] (sd_F h) := by
  unfold YM_bitsOfSet_B32 at hf
  refine sd_aload_n (k := 0) (i := 0) (q := 0) (pc' := 33) (by decide +kernel) rfl rfl ?_
  refine sd_iload_n (k := 1) (i := 1) (q := 1) (pc' := 34) (by decide +kernel) rfl rfl ?_
  refine sd_iload_n (k := 2) (i := 2) (q := 2) (pc' := 35) (by decide +kernel) rfl rfl ?_
  refine sd_iload (i := 5) (q := 4) (pc' := 37) (by decide +kernel) rfl ?_
  obtain ⟨t6, q5, hf⟩ := b1_some hf
  refine sF_callV (idx := 262) (b := 126) (As := [.int l1, .int l2, .int l5]) (ci := 12) (nn := 47) (pc' := 40) 3 (T_YM_bitsOfTurn (G := G) (h := h)  q5) (by decide +kernel) mv_YM_bitsOfTurn ml_X12_262 (by decide +kernel) rfl rfl (Nat.le_of_ble_eq_true rfl) SH_126 rfl (by decide) rfl rfl ?_
  refine sd_goto (off := 4) (tgt := 44) (pc' := 43) (by decide +kernel) ?_
  refine sd_J.sub (lo' := [(0, .ref (G.1 + 126)), (1, .int l1), (2, .int l2), (3, .int l3), (5, .int l5)]) [0, 1, 2, 3, 4] rfl ?_
  exact J_YM_bitsOfSet_B44 hE hK10 hf
def YM_bitsOfSet_L10 : Nat → sd_H → Int32 → Int32 → Int32 → Int32 → Int32 → Option (sd_H × Int32)
  | 0, _, _, _, _, _, _ => none
  | n + 1, h, l1, l2, l3, l4, l5 =>
  (if (h.1 126 6) ≤ l5 then some (h, l4) else (if l3 = (-1) then YM_bitsOfSet_B32 h (YM_bitsOfSet_L10 n) l1 l2 l3 l5 l4 else (if l3 = l5 then YM_bitsOfSet_B32 h (YM_bitsOfSet_L10 n) l1 l2 l3 l5 l4 else YM_bitsOfSet_B44 h (YM_bitsOfSet_L10 n) l1 l2 l3 l5 0 l4)))
set_option maxHeartbeats 4000000 in
set_option maxRecDepth 100000 in
theorem J_YM_bitsOfSet_L10 {G : sd_GX} {X : sd_CX} (hE : ∀ g : sd_H, sd_end G X M_YM_bitsOfSet (sd_F g))  {r : (sd_H × Int32)} : ∀ (n : Nat) (h : sd_H) (l1 : Int32) (l2 : Int32) (l3 : Int32) (l4 : Int32) (l5 : Int32), YM_bitsOfSet_L10 n h l1 l2 l3 l4 l5 = some r → sd_J G X (sd_QR G X M_YM_bitsOfSet (some (.int r.2), sd_F r.1)) M_YM_bitsOfSet 10 [(0, .ref (G.1 + 126)), (1, .int l1), (2, .int l2), (3, .int l3), (4, .int l4), (5, .int l5)] [] (sd_F h) := by
  intro n
  induction n with
  | zero =>
    intro h l1 l2 l3 l4 l5 hf
    rw [YM_bitsOfSet_L10] at hf
    cases hf
  | succ n ih =>
    intro h l1 l2 l3 l4 l5 hf
    rw [YM_bitsOfSet_L10] at hf
    refine sd_iload (i := 5) (q := 5) (pc' := 12) (by decide +kernel) rfl ?_
    refine sd_aload_n (k := 0) (i := 0) (q := 0) (pc' := 13) (by decide +kernel) rfl rfl ?_
    refine sF_gi (idx := 154) (ci := 12) (k := 6) (n := 47) (pc' := 16) (by decide +kernel) fl_X12_154 (by decide +kernel) rfl SH_126 ?_
    refine sd_icmp_ge (off := 37) (tgt := 53) (pc' := 19) (by decide +kernel) (fun c3 => ?_) (fun c3 => ?_)
    · replace hf := ite_p c3 hf
      refine sd_iload (i := 4) (q := 4) (pc' := 55) (by decide +kernel) rfl ?_
      obtain rfl := Option.some.inj hf
      exact sd_iret (by decide +kernel) rfl (hE _)
    · replace hf := ite_n c3 hf
      refine sd_iload (i := 4) (q := 4) (pc' := 21) (by decide +kernel) rfl ?_
      refine sd_iload_n (k := 3) (i := 3) (q := 3) (pc' := 22) (by decide +kernel) rfl rfl ?_
      refine sd_iconst (n := -1) (v := (-1)) (pc' := 23) (by decide +kernel) (by decide) ?_
      refine sd_icmp_eq (off := 9) (tgt := 32) (pc' := 26) (by decide +kernel) (fun c4 => ?_) (fun c4 => ?_)
      · replace hf := ite_p c4 hf
        refine sd_J.sub (lo' := [(0, .ref (G.1 + 126)), (1, .int l1), (2, .int l2), (3, .int l3), (5, .int l5)]) [0, 1, 2, 3, 5] rfl ?_
        exact J_YM_bitsOfSet_B32 hE ih hf
      · replace hf := ite_n c4 hf
        refine sd_iload_n (k := 3) (i := 3) (q := 3) (pc' := 27) (by decide +kernel) rfl rfl ?_
        refine sd_iload (i := 5) (q := 5) (pc' := 29) (by decide +kernel) rfl ?_
        refine sd_icmp_ne (off := 14) (tgt := 43) (pc' := 32) (by decide +kernel) (fun c7 => ?_) (fun c7 => ?_)
        · replace hf := ite_n c7 hf
          refine sd_iconst (n := 0) (v := 0) (pc' := 44) (by decide +kernel) (by decide) ?_
          refine sd_J.sub (lo' := [(0, .ref (G.1 + 126)), (1, .int l1), (2, .int l2), (3, .int l3), (5, .int l5)]) [0, 1, 2, 3, 5] rfl ?_
          exact J_YM_bitsOfSet_B44 hE ih hf
        · replace hf := ite_p c7 hf
          refine sd_J.sub (lo' := [(0, .ref (G.1 + 126)), (1, .int l1), (2, .int l2), (3, .int l3), (5, .int l5)]) [0, 1, 2, 3, 5] rfl ?_
          exact J_YM_bitsOfSet_B32 hE ih hf
def YM_bitsOfSet (h : sd_H) (a0 : Int32) (a1 : Int32) (a2 : Int32) : Option (sd_H × Int32) :=
  b1 (YM_findsSets h) (fun h2 => YM_bitsOfSet_L10 FU h2 a0 a1 a2 0 0)
set_option maxHeartbeats 4000000 in
set_option maxRecDepth 100000 in
theorem T_YM_bitsOfSet {G : sd_GX} {h : sd_H} {a0 : Int32} {a1 : Int32} {a2 : Int32} {r : (sd_H × Int32)} (hf : YM_bitsOfSet h a0 a1 a2 = some r) : sd_RunF G M_YM_bitsOfSet [.ref (G.1 + 126), .int a0, .int a1, .int a2] h (some (.int r.2)) r.1 := by
  refine sF_run ⟨rfl, rfl⟩ (by decide +kernel) (Nat.le_of_ble_eq_true rfl) (lo := [(0, .ref (G.1 + 126)), (1, .int a0), (2, .int a1), (3, .int a2)]) rfl (fun X hE => ?_)
  unfold YM_bitsOfSet at hf
  refine sd_aload_n (k := 0) (i := 0) (q := 0) (pc' := 1) (by decide +kernel) rfl rfl ?_
  obtain ⟨h2, q1, hf⟩ := b1_some hf
  refine sF_callV0 (idx := 259) (b := 126) (As := []) (ci := 12) (nn := 47) (pc' := 4) 0 (T_YM_findsSets (G := G) (h := h)  q1) (by decide +kernel) mv_YM_findsSets ml_X12_259 (by decide +kernel) rfl rfl (Nat.le_of_ble_eq_true rfl) SH_126 rfl (by decide) rfl rfl ?_
  refine sd_iconst (n := 0) (v := 0) (pc' := 5) (by decide +kernel) (by decide) ?_
  refine sd_istore (i := 4) (pc' := 7) (lo' := [(4, .int 0), (0, .ref (G.1 + 126)), (1, .int a0), (2, .int a1), (3, .int a2)]) (by decide +kernel) (by decide) rfl ?_
  refine sd_iconst (n := 0) (v := 0) (pc' := 8) (by decide +kernel) (by decide) ?_
  refine sd_istore (i := 5) (pc' := 10) (lo' := [(5, .int 0), (4, .int 0), (0, .ref (G.1 + 126)), (1, .int a0), (2, .int a1), (3, .int a2)]) (by decide +kernel) (by decide) rfl ?_
  refine sd_J.sub (lo' := [(0, .ref (G.1 + 126)), (1, .int a0), (2, .int a1), (3, .int a2), (4, .int 0), (5, .int 0)]) [2, 3, 4, 5, 1, 0] rfl ?_
  exact J_YM_bitsOfSet_L10 hE _ _ _ _ _ _ _ hf

def M_YM_size : sd_MX := (yX12_size, cX12_size, 3, (some .int), { frames := 1, cells := 0, slots := 0, locals := 40 })
def YM_size_L4 : Nat → Int32 → Int32 → Int32 → Option Int32
  | 0, _, _, _ => none
  | n + 1, l0, l1, l2 =>
  (if 24 ≤ l2 then some l1 else YM_size_L4 n l0 (l1 + ((l0 >>> (l2 &&& 31)) &&& 1)) (l2 + 1))
set_option maxHeartbeats 4000000 in
set_option maxRecDepth 100000 in
theorem J_YM_size_L4 {G : sd_GX} {X : sd_CX} (hE : ∀ g : sd_H, sd_end G X M_YM_size (sd_F g)) {h : sd_H} {r : Int32} : ∀ (n : Nat) (l0 : Int32) (l1 : Int32) (l2 : Int32), YM_size_L4 n l0 l1 l2 = some r → sd_J G X (sd_QR G X M_YM_size (some (.int r), sd_F h)) M_YM_size 4 [(0, .int l0), (1, .int l1), (2, .int l2)] [] (sd_F h) := by
  intro n
  induction n with
  | zero =>
    intro l0 l1 l2 hf
    rw [YM_size_L4] at hf
    cases hf
  | succ n ih =>
    intro l0 l1 l2 hf
    rw [YM_size_L4] at hf
    refine sd_iload_n (k := 2) (i := 2) (q := 2) (pc' := 5) (by decide +kernel) rfl rfl ?_
    refine sd_bipush (n := 24) (v := 24) (pc' := 7) (by decide +kernel) (by decide) ?_
    refine sd_icmp_ge (off := 17) (tgt := 24) (pc' := 10) (by decide +kernel) (fun c1 => ?_) (fun c1 => ?_)
    · replace hf := ite_p c1 hf
      refine sd_iload_n (k := 1) (i := 1) (q := 1) (pc' := 25) (by decide +kernel) rfl rfl ?_
      obtain rfl := Option.some.inj hf
      exact sd_iret (by decide +kernel) rfl (hE _)
    · replace hf := ite_n c1 hf
      refine sd_iload_n (k := 1) (i := 1) (q := 1) (pc' := 11) (by decide +kernel) rfl rfl ?_
      refine sd_iload_n (k := 0) (i := 0) (q := 0) (pc' := 12) (by decide +kernel) rfl rfl ?_
      refine sd_iload_n (k := 2) (i := 2) (q := 2) (pc' := 13) (by decide +kernel) rfl rfl ?_
      refine sd_ishr (pc' := 14) (by decide +kernel) ?_
      refine sd_iconst (n := 1) (v := 1) (pc' := 15) (by decide +kernel) (by decide) ?_
      refine sd_iand (pc' := 16) (by decide +kernel) ?_
      refine sd_iadd (pc' := 17) (by decide +kernel) ?_
      refine sd_istore_n (k := 1) (i := 1) (pc' := 18) (lo' := [(1, .int (l1 + ((l0 >>> (l2 &&& 31)) &&& 1))), (0, .int l0), (2, .int l2)]) (by decide +kernel) rfl (by decide) rfl ?_
      refine sd_iinc (i := 2) (q := 2) (n := 1) (v := (l2 + 1)) (pc' := 21) (lo' := [(2, .int (l2 + 1)), (1, .int (l1 + ((l0 >>> (l2 &&& 31)) &&& 1))), (0, .int l0)]) (by decide +kernel) rfl rfl (by decide) rfl ?_
      refine sd_goto (off := -17) (tgt := 4) (pc' := 24) (by decide +kernel) ?_
      refine sd_J.sub (lo' := [(0, .int l0), (1, .int (l1 + ((l0 >>> (l2 &&& 31)) &&& 1))), (2, .int (l2 + 1))]) [2, 1, 0] rfl ?_
      exact ih _ _ _ hf
def YM_size (a0 : Int32) : Option Int32 :=
  YM_size_L4 FU a0 0 0
set_option maxHeartbeats 4000000 in
set_option maxRecDepth 100000 in
theorem T_YM_size {G : sd_GX} {h : sd_H} {a0 : Int32} {r : Int32} (hf : YM_size a0 = some r) : sd_RunF G M_YM_size [.int a0] h (some (.int r)) h := by
  refine sF_run ⟨rfl, rfl⟩ (by decide +kernel) (Nat.le_of_ble_eq_true rfl) (lo := [(0, .int a0)]) rfl (fun X hE => ?_)
  unfold YM_size at hf
  refine sd_iconst (n := 0) (v := 0) (pc' := 1) (by decide +kernel) (by decide) ?_
  refine sd_istore_n (k := 1) (i := 1) (pc' := 2) (lo' := [(1, .int 0), (0, .int a0)]) (by decide +kernel) rfl (by decide) rfl ?_
  refine sd_iconst (n := 0) (v := 0) (pc' := 3) (by decide +kernel) (by decide) ?_
  refine sd_istore_n (k := 2) (i := 2) (pc' := 4) (lo' := [(2, .int 0), (1, .int 0), (0, .int a0)]) (by decide +kernel) rfl (by decide) rfl ?_
  refine sd_J.sub (lo' := [(0, .int a0), (1, .int 0), (2, .int 0)]) [2, 1, 0] rfl ?_
  exact J_YM_size_L4 hE (h := h) _ _ _ _ hf

def M_YM_isSet : sd_MX := (yX12_isSet, cX12_isSet, 4, (some .boolean), { frames := 3, cells := 0, slots := 0, locals := 82 })
def YM_isSet (h : sd_H) (a0 : Int32) (a1 : Int32) (a2 : Int32) : Option Int32 :=
  b1 (YM_in a0 0 3) (fun t2 => (if t2 = 0 then some 0 else b1 (YM_isRow a1) (fun t5 => (if t5 = 0 then some 0 else b1 (YM_in a2 (-1) ((h.1 126 6) - 1)) (fun t8 => (if t8 = 0 then some 0 else some 1))))))
set_option maxHeartbeats 4000000 in
set_option maxRecDepth 100000 in
theorem T_YM_isSet {G : sd_GX} {h : sd_H} {a0 : Int32} {a1 : Int32} {a2 : Int32} {r : Int32} (hf : YM_isSet h a0 a1 a2 = some r) : sd_RunF G M_YM_isSet [.ref (G.1 + 126), .int a0, .int a1, .int a2] h (some (.int r)) h := by
  refine sF_run ⟨rfl, rfl⟩ (by decide +kernel) (Nat.le_of_ble_eq_true rfl) (lo := [(0, .ref (G.1 + 126)), (1, .int a0), (2, .int a1), (3, .int a2)]) rfl (fun X hE => ?_)
  unfold YM_isSet at hf
  refine sd_iload_n (k := 1) (i := 1) (q := 1) (pc' := 1) (by decide +kernel) rfl rfl ?_
  refine sd_iconst (n := 0) (v := 0) (pc' := 2) (by decide +kernel) (by decide) ?_
  refine sd_iconst (n := 3) (v := 3) (pc' := 3) (by decide +kernel) (by decide) ?_
  obtain ⟨t2, q1, hf⟩ := b1_some hf
  refine sF_callS (idx := 114) (As := [.int a0, .int 0, .int 3]) (pc' := 6) 3 (T_YM_in (G := G) (h := h)  q1) (by decide +kernel) mv_YM_in ml_X12_114 (by decide +kernel) rfl rfl (Nat.le_of_ble_eq_true rfl) rfl ?_
  refine sd_if_eq (off := 28) (tgt := 34) (pc' := 9) (by decide +kernel) (fun c3 => ?_) (fun c3 => ?_)
  · replace hf := ite_p c3 hf
    refine sd_iconst (n := 0) (v := 0) (pc' := 35) (by decide +kernel) (by decide) ?_
    obtain rfl := Option.some.inj hf
    exact sd_zret (by decide +kernel) rfl rfl (hE _)
  · replace hf := ite_n c3 hf
    refine sd_iload_n (k := 2) (i := 2) (q := 2) (pc' := 10) (by decide +kernel) rfl rfl ?_
    obtain ⟨t5, q4, hf⟩ := b1_some hf
    refine sF_callS (idx := 122) (As := [.int a1]) (pc' := 13) 1 (T_YM_isRow (G := G) (h := h)  q4) (by decide +kernel) mv_YM_isRow ml_X12_122 (by decide +kernel) rfl rfl (Nat.le_of_ble_eq_true rfl) rfl ?_
    refine sd_if_eq (off := 21) (tgt := 34) (pc' := 16) (by decide +kernel) (fun c6 => ?_) (fun c6 => ?_)
    · replace hf := ite_p c6 hf
      refine sd_iconst (n := 0) (v := 0) (pc' := 35) (by decide +kernel) (by decide) ?_
      obtain rfl := Option.some.inj hf
      exact sd_zret (by decide +kernel) rfl rfl (hE _)
    · replace hf := ite_n c6 hf
      refine sd_iload_n (k := 3) (i := 3) (q := 3) (pc' := 17) (by decide +kernel) rfl rfl ?_
      refine sd_iconst (n := -1) (v := (-1)) (pc' := 18) (by decide +kernel) (by decide) ?_
      refine sd_aload_n (k := 0) (i := 0) (q := 0) (pc' := 19) (by decide +kernel) rfl rfl ?_
      refine sF_gi (idx := 154) (ci := 12) (k := 6) (n := 47) (pc' := 22) (by decide +kernel) fl_X12_154 (by decide +kernel) rfl SH_126 ?_
      refine sd_iconst (n := 1) (v := 1) (pc' := 23) (by decide +kernel) (by decide) ?_
      refine sd_isub (pc' := 24) (by decide +kernel) ?_
      obtain ⟨t8, q7, hf⟩ := b1_some hf
      refine sF_callS (idx := 114) (As := [.int a2, .int (-1), .int ((h.1 126 6) - 1)]) (pc' := 27) 3 (T_YM_in (G := G) (h := h)  q7) (by decide +kernel) mv_YM_in ml_X12_114 (by decide +kernel) rfl rfl (Nat.le_of_ble_eq_true rfl) rfl ?_
      refine sd_if_eq (off := 7) (tgt := 34) (pc' := 30) (by decide +kernel) (fun c9 => ?_) (fun c9 => ?_)
      · replace hf := ite_p c9 hf
        refine sd_iconst (n := 0) (v := 0) (pc' := 35) (by decide +kernel) (by decide) ?_
        obtain rfl := Option.some.inj hf
        exact sd_zret (by decide +kernel) rfl rfl (hE _)
      · replace hf := ite_n c9 hf
        refine sd_iconst (n := 1) (v := 1) (pc' := 31) (by decide +kernel) (by decide) ?_
        refine sd_goto (off := 4) (tgt := 35) (pc' := 34) (by decide +kernel) ?_
        obtain rfl := Option.some.inj hf
        exact sd_zret (by decide +kernel) rfl rfl (hE _)

theorem ml_X12_265 : Cond.methodLink RX12 265 yX12_isSet ∈ sd_tb := sd_mem (i := 1495) (by decide +kernel)
theorem mv_YM_isSet : sd_mV M_YM_isSet 3 := ⟨sd_mem (i := 1497) (by decide +kernel), sd_mem (i := 62) (by decide +kernel), ⟨sd_mem (i := 1498) (by decide +kernel), sd_mem (i := 119) (by decide +kernel), by decide +kernel, by decide +kernel, by decide +kernel⟩⟩
theorem ml_X12_268 : Cond.methodLink RX12 268 yX12_bitsOfSet ∈ sd_tb := sd_mem (i := 1499) (by decide +kernel)
theorem mv_YM_bitsOfSet : sd_mV M_YM_bitsOfSet 3 := ⟨sd_mem (i := 1501) (by decide +kernel), sd_mem (i := 63) (by decide +kernel), ⟨sd_mem (i := 1502) (by decide +kernel), sd_mem (i := 119) (by decide +kernel), by decide +kernel, by decide +kernel, by decide +kernel⟩⟩
theorem ml_X12_271 : Cond.methodLink RX12 271 yX12_size ∈ sd_tb := sd_mem (i := 1527) (by decide +kernel)
theorem mv_YM_size : sd_mS M_YM_size 1 := ⟨sd_mem (i := 1528) (by decide +kernel), ⟨sd_mem (i := 1529) (by decide +kernel), sd_mem (i := 119) (by decide +kernel), by decide +kernel, by decide +kernel, by decide +kernel⟩⟩
def M_YM_many : sd_MX := (yX12_many, cX12_many, 4, (some .int), { frames := 9, cells := 0, slots := 0, locals := 228 })
def YM_many (h : sd_H) (a0 : Int32) (a1 : Int32) (a2 : Int32) : Option (sd_H × Int32) :=
  b1 (YM_isSet h a0 a1 a2) (fun t2 => (if t2 = 0 then some (h, (-2)) else b2 (YM_bitsOfSet h a0 a1 a2) (fun h5 t6 => b1 (YM_size t6) (fun t8 => some (h5, t8)))))
set_option maxHeartbeats 4000000 in
set_option maxRecDepth 100000 in
theorem T_YM_many {G : sd_GX} {h : sd_H} {a0 : Int32} {a1 : Int32} {a2 : Int32} {r : (sd_H × Int32)} (hf : YM_many h a0 a1 a2 = some r) : sd_RunF G M_YM_many [.ref (G.1 + 126), .int a0, .int a1, .int a2] h (some (.int r.2)) r.1 := by
  refine sF_run ⟨rfl, rfl⟩ (by decide +kernel) (Nat.le_of_ble_eq_true rfl) (lo := [(0, .ref (G.1 + 126)), (1, .int a0), (2, .int a1), (3, .int a2)]) rfl (fun X hE => ?_)
  unfold YM_many at hf
  refine sd_aload_n (k := 0) (i := 0) (q := 0) (pc' := 1) (by decide +kernel) rfl rfl ?_
  refine sd_iload_n (k := 1) (i := 1) (q := 1) (pc' := 2) (by decide +kernel) rfl rfl ?_
  refine sd_iload_n (k := 2) (i := 2) (q := 2) (pc' := 3) (by decide +kernel) rfl rfl ?_
  refine sd_iload_n (k := 3) (i := 3) (q := 3) (pc' := 4) (by decide +kernel) rfl rfl ?_
  obtain ⟨t2, q1, hf⟩ := b1_some hf
  refine sF_callV (idx := 265) (b := 126) (As := [.int a0, .int a1, .int a2]) (ci := 12) (nn := 47) (pc' := 7) 3 (T_YM_isSet (G := G) (h := h)  q1) (by decide +kernel) mv_YM_isSet ml_X12_265 (by decide +kernel) rfl rfl (Nat.le_of_ble_eq_true rfl) SH_126 rfl (by decide) rfl rfl ?_
  refine sd_if_eq (off := 16) (tgt := 23) (pc' := 10) (by decide +kernel) (fun c3 => ?_) (fun c3 => ?_)
  · replace hf := ite_p c3 hf
    refine sd_bipush (n := -2) (v := (-2)) (pc' := 25) (by decide +kernel) (by decide) ?_
    obtain rfl := Option.some.inj hf
    exact sd_iret (by decide +kernel) rfl (hE _)
  · replace hf := ite_n c3 hf
    refine sd_aload_n (k := 0) (i := 0) (q := 0) (pc' := 11) (by decide +kernel) rfl rfl ?_
    refine sd_iload_n (k := 1) (i := 1) (q := 1) (pc' := 12) (by decide +kernel) rfl rfl ?_
    refine sd_iload_n (k := 2) (i := 2) (q := 2) (pc' := 13) (by decide +kernel) rfl rfl ?_
    refine sd_iload_n (k := 3) (i := 3) (q := 3) (pc' := 14) (by decide +kernel) rfl rfl ?_
    obtain ⟨h5, t6, q4, hf⟩ := b2_some hf
    refine sF_callV (idx := 268) (b := 126) (As := [.int a0, .int a1, .int a2]) (ci := 12) (nn := 47) (pc' := 17) 3 (T_YM_bitsOfSet (G := G) (h := h)  q4) (by decide +kernel) mv_YM_bitsOfSet ml_X12_268 (by decide +kernel) rfl rfl (Nat.le_of_ble_eq_true rfl) SH_126 rfl (by decide) rfl rfl ?_
    obtain ⟨t8, q7, hf⟩ := b1_some hf
    refine sF_callS (idx := 271) (As := [.int t6]) (pc' := 20) 1 (T_YM_size (G := G) (h := h5)  q7) (by decide +kernel) mv_YM_size ml_X12_271 (by decide +kernel) rfl rfl (Nat.le_of_ble_eq_true rfl) rfl ?_
    refine sd_goto (off := 5) (tgt := 25) (pc' := 23) (by decide +kernel) ?_
    obtain rfl := Option.some.inj hf
    exact sd_iret (by decide +kernel) rfl (hE _)

def M_YM_nextBit : sd_MX := (yX12_nextBit, cX12_nextBit, 4, (some .int), { frames := 1, cells := 0, slots := 0, locals := 40 })
def YM_nextBit_B24 (K5 : Int32 → Int32 → Int32 → Int32 → Option Int32) (l0 : Int32) (l1 : Int32) (l3 : Int32) (s0 : Int32) : Option Int32 :=
  K5 l0 l1 s0 (l3 + (-1))
set_option maxHeartbeats 4000000 in
set_option maxRecDepth 100000 in
theorem J_YM_nextBit_B24 {G : sd_GX} {X : sd_CX} (hE : ∀ g : sd_H, sd_end G X M_YM_nextBit (sd_F g)) {h : sd_H} {K5 : Int32 → Int32 → Int32 → Int32 → Option Int32} {r : Int32} (hK5 : ∀ (l0 : Int32) (l1 : Int32) (l2 : Int32) (l3 : Int32), K5 l0 l1 l2 l3 = some r → sd_J G X (sd_QR G X M_YM_nextBit (some (.int r), sd_F h)) M_YM_nextBit 5 [(0, .int l0), (1, .int l1), (2, .int l2), (3, .int l3)] [] (sd_F h)) {l0 : Int32} {l1 : Int32} {l3 : Int32} {s0 : Int32} (hf : YM_nextBit_B24 K5 l0 l1 l3 s0 = some r) : sd_J G X (sd_QR G X M_YM_nextBit (some (.int r), sd_F h)) M_YM_nextBit 24 [(0, .int l0), (1, .int l1), (3, .int l3)] [.int s0] (sd_F h) := by
  unfold YM_nextBit_B24 at hf
  refine sd_istore_n (k := 2) (i := 2) (pc' := 25) (lo' := [(2, .int s0), (0, .int l0), (1, .int l1), (3, .int l3)]) (by decide +kernel) rfl (by decide) rfl ?_
  refine sd_iinc (i := 3) (q := 3) (n := -1) (v := (l3 + (-1))) (pc' := 28) (lo' := [(3, .int (l3 + (-1))), (2, .int s0), (0, .int l0), (1, .int l1)]) (by decide +kernel) rfl rfl (by decide) rfl ?_
  refine sd_goto (off := -23) (tgt := 5) (pc' := 31) (by decide +kernel) ?_
  refine sd_J.sub (lo' := [(0, .int l0), (1, .int l1), (2, .int s0), (3, .int (l3 + (-1)))]) [2, 3, 1, 0] rfl ?_
  exact hK5 _ _ _ _ hf
def YM_nextBit_L5 : Nat → Int32 → Int32 → Int32 → Int32 → Option Int32
  | 0, _, _, _, _ => none
  | n + 1, l0, l1, l2, l3 =>
  (if l3 < l1 then some l2 else (if ((l0 >>> (l3 &&& 31)) &&& 1) = 1 then YM_nextBit_B24 (YM_nextBit_L5 n) l0 l1 l3 l3 else YM_nextBit_B24 (YM_nextBit_L5 n) l0 l1 l3 l2))
set_option maxHeartbeats 4000000 in
set_option maxRecDepth 100000 in
theorem J_YM_nextBit_L5 {G : sd_GX} {X : sd_CX} (hE : ∀ g : sd_H, sd_end G X M_YM_nextBit (sd_F g)) {h : sd_H} {r : Int32} : ∀ (n : Nat) (l0 : Int32) (l1 : Int32) (l2 : Int32) (l3 : Int32), YM_nextBit_L5 n l0 l1 l2 l3 = some r → sd_J G X (sd_QR G X M_YM_nextBit (some (.int r), sd_F h)) M_YM_nextBit 5 [(0, .int l0), (1, .int l1), (2, .int l2), (3, .int l3)] [] (sd_F h) := by
  intro n
  induction n with
  | zero =>
    intro l0 l1 l2 l3 hf
    rw [YM_nextBit_L5] at hf
    cases hf
  | succ n ih =>
    intro l0 l1 l2 l3 hf
    rw [YM_nextBit_L5] at hf
    refine sd_iload_n (k := 3) (i := 3) (q := 3) (pc' := 6) (by decide +kernel) rfl rfl ?_
    refine sd_iload_n (k := 1) (i := 1) (q := 1) (pc' := 7) (by decide +kernel) rfl rfl ?_
    refine sd_icmp_lt (off := 24) (tgt := 31) (pc' := 10) (by decide +kernel) (fun c1 => ?_) (fun c1 => ?_)
    · replace hf := ite_p c1 hf
      refine sd_iload_n (k := 2) (i := 2) (q := 2) (pc' := 32) (by decide +kernel) rfl rfl ?_
      obtain rfl := Option.some.inj hf
      exact sd_iret (by decide +kernel) rfl (hE _)
    · replace hf := ite_n c1 hf
      refine sd_iload_n (k := 0) (i := 0) (q := 0) (pc' := 11) (by decide +kernel) rfl rfl ?_
      refine sd_iload_n (k := 3) (i := 3) (q := 3) (pc' := 12) (by decide +kernel) rfl rfl ?_
      refine sd_ishr (pc' := 13) (by decide +kernel) ?_
      refine sd_iconst (n := 1) (v := 1) (pc' := 14) (by decide +kernel) (by decide) ?_
      refine sd_iand (pc' := 15) (by decide +kernel) ?_
      refine sd_iconst (n := 1) (v := 1) (pc' := 16) (by decide +kernel) (by decide) ?_
      refine sd_icmp_ne (off := 7) (tgt := 23) (pc' := 19) (by decide +kernel) (fun c2 => ?_) (fun c2 => ?_)
      · replace hf := ite_n c2 hf
        refine sd_iload_n (k := 2) (i := 2) (q := 2) (pc' := 24) (by decide +kernel) rfl rfl ?_
        refine sd_J.sub (lo' := [(0, .int l0), (1, .int l1), (3, .int l3)]) [0, 1, 3] rfl ?_
        exact J_YM_nextBit_B24 hE (h := h) ih hf
      · replace hf := ite_p c2 hf
        refine sd_iload_n (k := 3) (i := 3) (q := 3) (pc' := 20) (by decide +kernel) rfl rfl ?_
        refine sd_goto (off := 4) (tgt := 24) (pc' := 23) (by decide +kernel) ?_
        refine sd_J.sub (lo' := [(0, .int l0), (1, .int l1), (3, .int l3)]) [0, 1, 3] rfl ?_
        exact J_YM_nextBit_B24 hE (h := h) ih hf
def YM_nextBit (a0 : Int32) (a1 : Int32) : Option Int32 :=
  YM_nextBit_L5 FU a0 a1 (-1) 23
set_option maxHeartbeats 4000000 in
set_option maxRecDepth 100000 in
theorem T_YM_nextBit {G : sd_GX} {h : sd_H} {a0 : Int32} {a1 : Int32} {r : Int32} (hf : YM_nextBit a0 a1 = some r) : sd_RunF G M_YM_nextBit [.int a0, .int a1] h (some (.int r)) h := by
  refine sF_run ⟨rfl, rfl⟩ (by decide +kernel) (Nat.le_of_ble_eq_true rfl) (lo := [(0, .int a0), (1, .int a1)]) rfl (fun X hE => ?_)
  unfold YM_nextBit at hf
  refine sd_iconst (n := -1) (v := (-1)) (pc' := 1) (by decide +kernel) (by decide) ?_
  refine sd_istore_n (k := 2) (i := 2) (pc' := 2) (lo' := [(2, .int (-1)), (0, .int a0), (1, .int a1)]) (by decide +kernel) rfl (by decide) rfl ?_
  refine sd_bipush (n := 23) (v := 23) (pc' := 4) (by decide +kernel) (by decide) ?_
  refine sd_istore_n (k := 3) (i := 3) (pc' := 5) (lo' := [(3, .int 23), (2, .int (-1)), (0, .int a0), (1, .int a1)]) (by decide +kernel) rfl (by decide) rfl ?_
  refine sd_J.sub (lo' := [(0, .int a0), (1, .int a1), (2, .int (-1)), (3, .int 23)]) [2, 3, 1, 0] rfl ?_
  exact J_YM_nextBit_L5 hE (h := h) _ _ _ _ _ hf

theorem ml_X12_274 : Cond.methodLink RX12 274 yX12_nextBit ∈ sd_tb := sd_mem (i := 1542) (by decide +kernel)
theorem mv_YM_nextBit : sd_mS M_YM_nextBit 2 := ⟨sd_mem (i := 1543) (by decide +kernel), ⟨sd_mem (i := 1544) (by decide +kernel), sd_mem (i := 119) (by decide +kernel), by decide +kernel, by decide +kernel, by decide +kernel⟩⟩
theorem fl_X12_277 : sd_fl RX12 277 12 26 := ⟨sd_mem (i := 1174) (by decide +kernel), by decide, by decide⟩
theorem fl_X12_280 : sd_fl RX12 280 12 27 := ⟨sd_mem (i := 1175) (by decide +kernel), by decide, by decide⟩
theorem fl_X12_283 : sd_fl RX12 283 12 28 := ⟨sd_mem (i := 1176) (by decide +kernel), by decide, by decide⟩
def M_YM_without : sd_MX := (yX12_without, cX12_without, 5, (some .int), { frames := 2, cells := 0, slots := 0, locals := 63 })
def YM_without_L52 : Nat → sd_H → Int32 → Int32 → Int32 → Option (sd_H × Int32)
  | 0, _, _, _, _ => none
  | n + 1, h, l1, l3, l4 =>
  (if 24 ≤ l4 then some (h, l3) else (if ((l1 >>> (l4 &&& 31)) &&& 1) = 1 then hb (wI h 126 28 ((h.1 126 28) + 1)) (fun h14 => YM_without_L52 n h14 l1 (l3 &&& ((1 <<< (l4 &&& 31)) ^^^ (-1))) (l4 + (h14.1 126 27))) else some (h, l3)))
set_option maxHeartbeats 4000000 in
set_option maxRecDepth 100000 in
theorem J_YM_without_L52 {G : sd_GX} {X : sd_CX} (hE : ∀ g : sd_H, sd_end G X M_YM_without (sd_F g))  {r : (sd_H × Int32)} : ∀ (n : Nat) (h : sd_H) (l1 : Int32) (l3 : Int32) (l4 : Int32), YM_without_L52 n h l1 l3 l4 = some r → sd_J G X (sd_QR G X M_YM_without (some (.int r.2), sd_F r.1)) M_YM_without 52 [(0, .ref (G.1 + 126)), (1, .int l1), (3, .int l3), (4, .int l4)] [] (sd_F h) := by
  intro n
  induction n with
  | zero =>
    intro h l1 l3 l4 hf
    rw [YM_without_L52] at hf
    cases hf
  | succ n ih =>
    intro h l1 l3 l4 hf
    rw [YM_without_L52] at hf
    refine sd_iload (i := 4) (q := 3) (pc' := 54) (by decide +kernel) rfl ?_
    refine sd_bipush (n := 24) (v := 24) (pc' := 56) (by decide +kernel) (by decide) ?_
    refine sd_icmp_ge (off := 44) (tgt := 100) (pc' := 59) (by decide +kernel) (fun c12 => ?_) (fun c12 => ?_)
    · replace hf := ite_p c12 hf
      refine sd_iload_n (k := 3) (i := 3) (q := 2) (pc' := 101) (by decide +kernel) rfl rfl ?_
      obtain rfl := Option.some.inj hf
      exact sd_iret (by decide +kernel) rfl (hE _)
    · replace hf := ite_n c12 hf
      refine sd_iload_n (k := 1) (i := 1) (q := 1) (pc' := 60) (by decide +kernel) rfl rfl ?_
      refine sd_iload (i := 4) (q := 3) (pc' := 62) (by decide +kernel) rfl ?_
      refine sd_ishr (pc' := 63) (by decide +kernel) ?_
      refine sd_iconst (n := 1) (v := 1) (pc' := 64) (by decide +kernel) (by decide) ?_
      refine sd_iand (pc' := 65) (by decide +kernel) ?_
      refine sd_iconst (n := 1) (v := 1) (pc' := 66) (by decide +kernel) (by decide) ?_
      refine sd_icmp_ne (off := 34) (tgt := 100) (pc' := 69) (by decide +kernel) (fun c13 => ?_) (fun c13 => ?_)
      · replace hf := ite_n c13 hf
        refine sd_iload_n (k := 3) (i := 3) (q := 2) (pc' := 101) (by decide +kernel) rfl rfl ?_
        obtain rfl := Option.some.inj hf
        exact sd_iret (by decide +kernel) rfl (hE _)
      · replace hf := ite_p c13 hf
        refine sd_iload_n (k := 3) (i := 3) (q := 2) (pc' := 70) (by decide +kernel) rfl rfl ?_
        refine sd_iconst (n := 1) (v := 1) (pc' := 71) (by decide +kernel) (by decide) ?_
        refine sd_iload (i := 4) (q := 3) (pc' := 73) (by decide +kernel) rfl ?_
        refine sd_ishl (pc' := 74) (by decide +kernel) ?_
        refine sd_iconst (n := -1) (v := (-1)) (pc' := 75) (by decide +kernel) (by decide) ?_
        refine sd_ixor (pc' := 76) (by decide +kernel) ?_
        refine sd_iand (pc' := 77) (by decide +kernel) ?_
        refine sd_istore_n (k := 3) (i := 3) (pc' := 78) (lo' := [(3, .int (l3 &&& ((1 <<< (l4 &&& 31)) ^^^ (-1)))), (0, .ref (G.1 + 126)), (1, .int l1), (4, .int l4)]) (by decide +kernel) rfl (by decide) rfl ?_
        refine sd_aload_n (k := 0) (i := 0) (q := 1) (pc' := 79) (by decide +kernel) rfl rfl ?_
        refine sd_dup (pc' := 80) (by decide +kernel) rfl ?_
        refine sF_gi (idx := 283) (ci := 12) (k := 28) (n := 47) (pc' := 83) (by decide +kernel) fl_X12_283 (by decide +kernel) rfl SH_126 ?_
        refine sd_iconst (n := 1) (v := 1) (pc' := 84) (by decide +kernel) (by decide) ?_
        refine sd_iadd (pc' := 85) (by decide +kernel) ?_
        obtain ⟨h14, e15, hf⟩ := hb_some hf
        refine sF_pi (idx := 283) (ci := 12) (k := 28) (n := 47) (pc' := 88) (by decide +kernel) fl_X12_283 (by decide +kernel) rfl rfl rfl SH_126 ?_
        rw [← e15]; clear e15
        refine sd_iload (i := 4) (q := 3) (pc' := 90) (by decide +kernel) rfl ?_
        refine sd_aload_n (k := 0) (i := 0) (q := 1) (pc' := 91) (by decide +kernel) rfl rfl ?_
        refine sF_gi (idx := 280) (ci := 12) (k := 27) (n := 47) (pc' := 94) (by decide +kernel) fl_X12_280 (by decide +kernel) rfl SH_126 ?_
        refine sd_iadd (pc' := 95) (by decide +kernel) ?_
        refine sd_istore (i := 4) (pc' := 97) (lo' := [(4, .int (l4 + (h14.1 126 27))), (3, .int (l3 &&& ((1 <<< (l4 &&& 31)) ^^^ (-1)))), (0, .ref (G.1 + 126)), (1, .int l1)]) (by decide +kernel) (by decide) rfl ?_
        refine sd_goto (off := -45) (tgt := 52) (pc' := 100) (by decide +kernel) ?_
        refine sd_J.sub (lo' := [(0, .ref (G.1 + 126)), (1, .int l1), (3, .int (l3 &&& ((1 <<< (l4 &&& 31)) ^^^ (-1)))), (4, .int (l4 + (h14.1 126 27)))]) [2, 3, 1, 0] rfl ?_
        exact ih _ _ _ _ hf
def YM_without_B36 (h : sd_H) (l1 : Int32) (s0 : Int32) : Option (sd_H × Int32) :=
  hb (wI h 126 27 s0) (fun h8 => hb (wI h8 126 28 0) (fun h10 => YM_without_L52 FU h10 l1 l1 (h10.1 126 26)))
set_option maxHeartbeats 4000000 in
set_option maxRecDepth 100000 in
theorem J_YM_without_B36 {G : sd_GX} {X : sd_CX} (hE : ∀ g : sd_H, sd_end G X M_YM_without (sd_F g)) {h : sd_H} {r : (sd_H × Int32)} {l1 : Int32} {s0 : Int32} (hf : YM_without_B36 h l1 s0 = some r) : sd_J G X (sd_QR G X M_YM_without (some (.int r.2), sd_F r.1)) M_YM_without 36 [(0, .ref (G.1 + 126)), (1, .int l1)] [.int s0, .ref (G.1 + 126)] (sd_F h) := by
  unfold YM_without_B36 at hf
  obtain ⟨h8, e9, hf⟩ := hb_some hf
  refine sF_pi (idx := 280) (ci := 12) (k := 27) (n := 47) (pc' := 39) (by decide +kernel) fl_X12_280 (by decide +kernel) rfl rfl rfl SH_126 ?_
  rw [← e9]; clear e9
  refine sd_aload_n (k := 0) (i := 0) (q := 0) (pc' := 40) (by decide +kernel) rfl rfl ?_
  refine sd_iconst (n := 0) (v := 0) (pc' := 41) (by decide +kernel) (by decide) ?_
  obtain ⟨h10, e11, hf⟩ := hb_some hf
  refine sF_pi (idx := 283) (ci := 12) (k := 28) (n := 47) (pc' := 44) (by decide +kernel) fl_X12_283 (by decide +kernel) rfl rfl rfl SH_126 ?_
  rw [← e11]; clear e11
  refine sd_iload_n (k := 1) (i := 1) (q := 1) (pc' := 45) (by decide +kernel) rfl rfl ?_
  refine sd_istore_n (k := 3) (i := 3) (pc' := 46) (lo' := [(3, .int l1), (0, .ref (G.1 + 126)), (1, .int l1)]) (by decide +kernel) rfl (by decide) rfl ?_
  refine sd_aload_n (k := 0) (i := 0) (q := 1) (pc' := 47) (by decide +kernel) rfl rfl ?_
  refine sF_gi (idx := 277) (ci := 12) (k := 26) (n := 47) (pc' := 50) (by decide +kernel) fl_X12_277 (by decide +kernel) rfl SH_126 ?_
  refine sd_istore (i := 4) (pc' := 52) (lo' := [(4, .int (h10.1 126 26)), (3, .int l1), (0, .ref (G.1 + 126)), (1, .int l1)]) (by decide +kernel) (by decide) rfl ?_
  refine sd_J.sub (lo' := [(0, .ref (G.1 + 126)), (1, .int l1), (3, .int l1), (4, .int (h10.1 126 26))]) [2, 3, 1, 0] rfl ?_
  exact J_YM_without_L52 hE _ _ _ _ _ hf
def YM_without (h : sd_H) (a0 : Int32) : Option (sd_H × Int32) :=
  b1 (YM_nextBit a0 0) (fun t2 => hb (wI h 126 26 t2) (fun h3 => b1 (YM_nextBit a0 ((h3.1 126 26) + 1)) (fun t6 => (if t6 = (-1) then YM_without_B36 h3 a0 1 else YM_without_B36 h3 a0 (t6 - (h3.1 126 26))))))
set_option maxHeartbeats 4000000 in
set_option maxRecDepth 100000 in
theorem T_YM_without {G : sd_GX} {h : sd_H} {a0 : Int32} {r : (sd_H × Int32)} (hf : YM_without h a0 = some r) : sd_RunF G M_YM_without [.ref (G.1 + 126), .int a0] h (some (.int r.2)) r.1 := by
  refine sF_run ⟨rfl, rfl⟩ (by decide +kernel) (Nat.le_of_ble_eq_true rfl) (lo := [(0, .ref (G.1 + 126)), (1, .int a0)]) rfl (fun X hE => ?_)
  unfold YM_without at hf
  refine sd_aload_n (k := 0) (i := 0) (q := 0) (pc' := 1) (by decide +kernel) rfl rfl ?_
  refine sd_iload_n (k := 1) (i := 1) (q := 1) (pc' := 2) (by decide +kernel) rfl rfl ?_
  refine sd_iconst (n := 0) (v := 0) (pc' := 3) (by decide +kernel) (by decide) ?_
  obtain ⟨t2, q1, hf⟩ := b1_some hf
  refine sF_callS (idx := 274) (As := [.int a0, .int 0]) (pc' := 6) 2 (T_YM_nextBit (G := G) (h := h)  q1) (by decide +kernel) mv_YM_nextBit ml_X12_274 (by decide +kernel) rfl rfl (Nat.le_of_ble_eq_true rfl) rfl ?_
  obtain ⟨h3, e4, hf⟩ := hb_some hf
  refine sF_pi (idx := 277) (ci := 12) (k := 26) (n := 47) (pc' := 9) (by decide +kernel) fl_X12_277 (by decide +kernel) rfl rfl rfl SH_126 ?_
  rw [← e4]; clear e4
  refine sd_iload_n (k := 1) (i := 1) (q := 1) (pc' := 10) (by decide +kernel) rfl rfl ?_
  refine sd_aload_n (k := 0) (i := 0) (q := 0) (pc' := 11) (by decide +kernel) rfl rfl ?_
  refine sF_gi (idx := 277) (ci := 12) (k := 26) (n := 47) (pc' := 14) (by decide +kernel) fl_X12_277 (by decide +kernel) rfl SH_126 ?_
  refine sd_iconst (n := 1) (v := 1) (pc' := 15) (by decide +kernel) (by decide) ?_
  refine sd_iadd (pc' := 16) (by decide +kernel) ?_
  obtain ⟨t6, q5, hf⟩ := b1_some hf
  refine sF_callS (idx := 274) (As := [.int a0, .int ((h3.1 126 26) + 1)]) (pc' := 19) 2 (T_YM_nextBit (G := G) (h := h3)  q5) (by decide +kernel) mv_YM_nextBit ml_X12_274 (by decide +kernel) rfl rfl (Nat.le_of_ble_eq_true rfl) rfl ?_
  refine sd_istore_n (k := 2) (i := 2) (pc' := 20) (lo' := [(2, .int t6), (0, .ref (G.1 + 126)), (1, .int a0)]) (by decide +kernel) rfl (by decide) rfl ?_
  refine sd_aload_n (k := 0) (i := 0) (q := 1) (pc' := 21) (by decide +kernel) rfl rfl ?_
  refine sd_iload_n (k := 2) (i := 2) (q := 0) (pc' := 22) (by decide +kernel) rfl rfl ?_
  refine sd_iconst (n := -1) (v := (-1)) (pc' := 23) (by decide +kernel) (by decide) ?_
  refine sd_icmp_ne (off := 7) (tgt := 30) (pc' := 26) (by decide +kernel) (fun c7 => ?_) (fun c7 => ?_)
  · replace hf := ite_n c7 hf
    refine sd_iload_n (k := 2) (i := 2) (q := 0) (pc' := 31) (by decide +kernel) rfl rfl ?_
    refine sd_aload_n (k := 0) (i := 0) (q := 1) (pc' := 32) (by decide +kernel) rfl rfl ?_
    refine sF_gi (idx := 277) (ci := 12) (k := 26) (n := 47) (pc' := 35) (by decide +kernel) fl_X12_277 (by decide +kernel) rfl SH_126 ?_
    refine sd_isub (pc' := 36) (by decide +kernel) ?_
    refine sd_J.sub (lo' := [(0, .ref (G.1 + 126)), (1, .int a0)]) [1, 2] rfl ?_
    exact J_YM_without_B36 hE hf
  · replace hf := ite_p c7 hf
    refine sd_iconst (n := 1) (v := 1) (pc' := 27) (by decide +kernel) (by decide) ?_
    refine sd_goto (off := 9) (tgt := 36) (pc' := 30) (by decide +kernel) ?_
    refine sd_J.sub (lo' := [(0, .ref (G.1 + 126)), (1, .int a0)]) [1, 2] rfl ?_
    exact J_YM_without_B36 hE hf

theorem ml_X12_286 : Cond.methodLink RX12 286 yX12_without ∈ sd_tb := sd_mem (i := 1538) (by decide +kernel)
theorem mv_YM_without : sd_mV M_YM_without 1 := ⟨sd_mem (i := 1540) (by decide +kernel), sd_mem (i := 71) (by decide +kernel), ⟨sd_mem (i := 1541) (by decide +kernel), sd_mem (i := 119) (by decide +kernel), by decide +kernel, by decide +kernel, by decide +kernel⟩⟩
def M_YM_piecesOf : sd_MX := (yX12_piecesOf, cX12_piecesOf, 4, (some .int), { frames := 3, cells := 0, slots := 0, locals := 87 })
def YM_piecesOf_L4 : Nat → sd_H → Int32 → Int32 → Option (sd_H × Int32)
  | 0, _, _, _ => none
  | n + 1, h, l2, l3 =>
  (if l3 = 0 then some (h, l2) else b2 (YM_without h l3) (fun h3 t4 => YM_piecesOf_L4 n h3 (l2 + 1) t4))
set_option maxHeartbeats 4000000 in
set_option maxRecDepth 100000 in
theorem J_YM_piecesOf_L4 {G : sd_GX} {X : sd_CX} (hE : ∀ g : sd_H, sd_end G X M_YM_piecesOf (sd_F g))  {r : (sd_H × Int32)} : ∀ (n : Nat) (h : sd_H) (l2 : Int32) (l3 : Int32), YM_piecesOf_L4 n h l2 l3 = some r → sd_J G X (sd_QR G X M_YM_piecesOf (some (.int r.2), sd_F r.1)) M_YM_piecesOf 4 [(0, .ref (G.1 + 126)), (2, .int l2), (3, .int l3)] [] (sd_F h) := by
  intro n
  induction n with
  | zero =>
    intro h l2 l3 hf
    rw [YM_piecesOf_L4] at hf
    cases hf
  | succ n ih =>
    intro h l2 l3 hf
    rw [YM_piecesOf_L4] at hf
    refine sd_iload_n (k := 3) (i := 3) (q := 2) (pc' := 5) (by decide +kernel) rfl rfl ?_
    refine sd_if_eq (off := 15) (tgt := 20) (pc' := 8) (by decide +kernel) (fun c1 => ?_) (fun c1 => ?_)
    · replace hf := ite_p c1 hf
      refine sd_iload_n (k := 2) (i := 2) (q := 1) (pc' := 21) (by decide +kernel) rfl rfl ?_
      obtain rfl := Option.some.inj hf
      exact sd_iret (by decide +kernel) rfl (hE _)
    · replace hf := ite_n c1 hf
      refine sd_aload_n (k := 0) (i := 0) (q := 0) (pc' := 9) (by decide +kernel) rfl rfl ?_
      refine sd_iload_n (k := 3) (i := 3) (q := 2) (pc' := 10) (by decide +kernel) rfl rfl ?_
      obtain ⟨h3, t4, q2, hf⟩ := b2_some hf
      refine sF_callV (idx := 286) (b := 126) (As := [.int l3]) (ci := 12) (nn := 47) (pc' := 13) 1 (T_YM_without (G := G) (h := h)  q2) (by decide +kernel) mv_YM_without ml_X12_286 (by decide +kernel) rfl rfl (Nat.le_of_ble_eq_true rfl) SH_126 rfl (by decide) rfl rfl ?_
      refine sd_istore_n (k := 3) (i := 3) (pc' := 14) (lo' := [(3, .int t4), (0, .ref (G.1 + 126)), (2, .int l2)]) (by decide +kernel) rfl (by decide) rfl ?_
      refine sd_iinc (i := 2) (q := 2) (n := 1) (v := (l2 + 1)) (pc' := 17) (lo' := [(2, .int (l2 + 1)), (3, .int t4), (0, .ref (G.1 + 126))]) (by decide +kernel) rfl rfl (by decide) rfl ?_
      refine sd_goto (off := -13) (tgt := 4) (pc' := 20) (by decide +kernel) ?_
      refine sd_J.sub (lo' := [(0, .ref (G.1 + 126)), (2, .int (l2 + 1)), (3, .int t4)]) [2, 0, 1] rfl ?_
      exact ih _ _ _ hf
def YM_piecesOf (h : sd_H) (a0 : Int32) : Option (sd_H × Int32) :=
  YM_piecesOf_L4 FU h 0 a0
set_option maxHeartbeats 4000000 in
set_option maxRecDepth 100000 in
theorem T_YM_piecesOf {G : sd_GX} {h : sd_H} {a0 : Int32} {r : (sd_H × Int32)} (hf : YM_piecesOf h a0 = some r) : sd_RunF G M_YM_piecesOf [.ref (G.1 + 126), .int a0] h (some (.int r.2)) r.1 := by
  refine sF_run ⟨rfl, rfl⟩ (by decide +kernel) (Nat.le_of_ble_eq_true rfl) (lo := [(0, .ref (G.1 + 126)), (1, .int a0)]) rfl (fun X hE => ?_)
  unfold YM_piecesOf at hf
  refine sd_iconst (n := 0) (v := 0) (pc' := 1) (by decide +kernel) (by decide) ?_
  refine sd_istore_n (k := 2) (i := 2) (pc' := 2) (lo' := [(2, .int 0), (0, .ref (G.1 + 126)), (1, .int a0)]) (by decide +kernel) rfl (by decide) rfl ?_
  refine sd_iload_n (k := 1) (i := 1) (q := 2) (pc' := 3) (by decide +kernel) rfl rfl ?_
  refine sd_istore_n (k := 3) (i := 3) (pc' := 4) (lo' := [(3, .int a0), (2, .int 0), (0, .ref (G.1 + 126)), (1, .int a0)]) (by decide +kernel) rfl (by decide) rfl ?_
  refine sd_J.sub (lo' := [(0, .ref (G.1 + 126)), (2, .int 0), (3, .int a0)]) [2, 1, 0] rfl ?_
  exact J_YM_piecesOf_L4 hE _ _ _ _ hf

theorem ml_X12_289 : Cond.methodLink RX12 289 yX12_piecesOf ∈ sd_tb := sd_mem (i := 1534) (by decide +kernel)
theorem mv_YM_piecesOf : sd_mV M_YM_piecesOf 1 := ⟨sd_mem (i := 1536) (by decide +kernel), sd_mem (i := 70) (by decide +kernel), ⟨sd_mem (i := 1537) (by decide +kernel), sd_mem (i := 119) (by decide +kernel), by decide +kernel, by decide +kernel, by decide +kernel⟩⟩
def M_YM_pieces : sd_MX := (yX12_pieces, cX12_pieces, 4, (some .int), { frames := 9, cells := 0, slots := 0, locals := 228 })
def YM_pieces (h : sd_H) (a0 : Int32) (a1 : Int32) (a2 : Int32) : Option (sd_H × Int32) :=
  b1 (YM_isSet h a0 a1 a2) (fun t2 => (if t2 = 0 then some (h, (-2)) else b2 (YM_bitsOfSet h a0 a1 a2) (fun h5 t6 => b2 (YM_piecesOf h5 t6) (fun h8 t9 => some (h8, t9)))))
set_option maxHeartbeats 4000000 in
set_option maxRecDepth 100000 in
theorem T_YM_pieces {G : sd_GX} {h : sd_H} {a0 : Int32} {a1 : Int32} {a2 : Int32} {r : (sd_H × Int32)} (hf : YM_pieces h a0 a1 a2 = some r) : sd_RunF G M_YM_pieces [.ref (G.1 + 126), .int a0, .int a1, .int a2] h (some (.int r.2)) r.1 := by
  refine sF_run ⟨rfl, rfl⟩ (by decide +kernel) (Nat.le_of_ble_eq_true rfl) (lo := [(0, .ref (G.1 + 126)), (1, .int a0), (2, .int a1), (3, .int a2)]) rfl (fun X hE => ?_)
  unfold YM_pieces at hf
  refine sd_aload_n (k := 0) (i := 0) (q := 0) (pc' := 1) (by decide +kernel) rfl rfl ?_
  refine sd_iload_n (k := 1) (i := 1) (q := 1) (pc' := 2) (by decide +kernel) rfl rfl ?_
  refine sd_iload_n (k := 2) (i := 2) (q := 2) (pc' := 3) (by decide +kernel) rfl rfl ?_
  refine sd_iload_n (k := 3) (i := 3) (q := 3) (pc' := 4) (by decide +kernel) rfl rfl ?_
  obtain ⟨t2, q1, hf⟩ := b1_some hf
  refine sF_callV (idx := 265) (b := 126) (As := [.int a0, .int a1, .int a2]) (ci := 12) (nn := 47) (pc' := 7) 3 (T_YM_isSet (G := G) (h := h)  q1) (by decide +kernel) mv_YM_isSet ml_X12_265 (by decide +kernel) rfl rfl (Nat.le_of_ble_eq_true rfl) SH_126 rfl (by decide) rfl rfl ?_
  refine sd_if_eq (off := 17) (tgt := 24) (pc' := 10) (by decide +kernel) (fun c3 => ?_) (fun c3 => ?_)
  · replace hf := ite_p c3 hf
    refine sd_bipush (n := -2) (v := (-2)) (pc' := 26) (by decide +kernel) (by decide) ?_
    obtain rfl := Option.some.inj hf
    exact sd_iret (by decide +kernel) rfl (hE _)
  · replace hf := ite_n c3 hf
    refine sd_aload_n (k := 0) (i := 0) (q := 0) (pc' := 11) (by decide +kernel) rfl rfl ?_
    refine sd_aload_n (k := 0) (i := 0) (q := 0) (pc' := 12) (by decide +kernel) rfl rfl ?_
    refine sd_iload_n (k := 1) (i := 1) (q := 1) (pc' := 13) (by decide +kernel) rfl rfl ?_
    refine sd_iload_n (k := 2) (i := 2) (q := 2) (pc' := 14) (by decide +kernel) rfl rfl ?_
    refine sd_iload_n (k := 3) (i := 3) (q := 3) (pc' := 15) (by decide +kernel) rfl rfl ?_
    obtain ⟨h5, t6, q4, hf⟩ := b2_some hf
    refine sF_callV (idx := 268) (b := 126) (As := [.int a0, .int a1, .int a2]) (ci := 12) (nn := 47) (pc' := 18) 3 (T_YM_bitsOfSet (G := G) (h := h)  q4) (by decide +kernel) mv_YM_bitsOfSet ml_X12_268 (by decide +kernel) rfl rfl (Nat.le_of_ble_eq_true rfl) SH_126 rfl (by decide) rfl rfl ?_
    obtain ⟨h8, t9, q7, hf⟩ := b2_some hf
    refine sF_callV (idx := 289) (b := 126) (As := [.int t6]) (ci := 12) (nn := 47) (pc' := 21) 1 (T_YM_piecesOf (G := G) (h := h5)  q7) (by decide +kernel) mv_YM_piecesOf ml_X12_289 (by decide +kernel) rfl rfl (Nat.le_of_ble_eq_true rfl) SH_126 rfl (by decide) rfl rfl ?_
    refine sd_goto (off := 5) (tgt := 26) (pc' := 24) (by decide +kernel) ?_
    obtain rfl := Option.some.inj hf
    exact sd_iret (by decide +kernel) rfl (hE _)

def M_YM_pieceOf : sd_MX := (yX12_pieceOf, cX12_pieceOf, 6, (some .int), { frames := 3, cells := 0, slots := 0, locals := 87 })
def YM_pieceOf_L6 : Nat → sd_H → Int32 → Int32 → Int32 → Int32 → Option (sd_H × Int32)
  | 0, _, _, _, _, _ => none
  | n + 1, h, l2, l3, l4, l5 =>
  (if l2 < l5 then some (h, (-2)) else (if l4 = 0 then some (h, (-2)) else b2 (YM_without h l4) (fun h4 t5 => (if l5 = l2 then (if l3 = 0 then some (h4, (h4.1 126 26)) else (if l3 = 1 then some (h4, (h4.1 126 27)) else some (h4, (h4.1 126 28)))) else YM_pieceOf_L6 n h4 l2 l3 t5 (l5 + 1)))))
set_option maxHeartbeats 4000000 in
set_option maxRecDepth 100000 in
theorem J_YM_pieceOf_L6 {G : sd_GX} {X : sd_CX} (hE : ∀ g : sd_H, sd_end G X M_YM_pieceOf (sd_F g))  {r : (sd_H × Int32)} : ∀ (n : Nat) (h : sd_H) (l2 : Int32) (l3 : Int32) (l4 : Int32) (l5 : Int32), YM_pieceOf_L6 n h l2 l3 l4 l5 = some r → sd_J G X (sd_QR G X M_YM_pieceOf (some (.int r.2), sd_F r.1)) M_YM_pieceOf 6 [(0, .ref (G.1 + 126)), (2, .int l2), (3, .int l3), (4, .int l4), (5, .int l5)] [] (sd_F h) := by
  intro n
  induction n with
  | zero =>
    intro h l2 l3 l4 l5 hf
    rw [YM_pieceOf_L6] at hf
    cases hf
  | succ n ih =>
    intro h l2 l3 l4 l5 hf
    rw [YM_pieceOf_L6] at hf
    refine sd_iload (i := 5) (q := 4) (pc' := 8) (by decide +kernel) rfl ?_
    refine sd_iload_n (k := 2) (i := 2) (q := 1) (pc' := 9) (by decide +kernel) rfl rfl ?_
    refine sd_icmp_gt (off := 56) (tgt := 65) (pc' := 12) (by decide +kernel) (fun c1 => ?_) (fun c1 => ?_)
    · replace hf := ite_p c1 hf
      refine sd_bipush (n := -2) (v := (-2)) (pc' := 67) (by decide +kernel) (by decide) ?_
      obtain rfl := Option.some.inj hf
      exact sd_iret (by decide +kernel) rfl (hE _)
    · replace hf := ite_n c1 hf
      refine sd_iload (i := 4) (q := 3) (pc' := 14) (by decide +kernel) rfl ?_
      refine sd_if_eq (off := 51) (tgt := 65) (pc' := 17) (by decide +kernel) (fun c2 => ?_) (fun c2 => ?_)
      · replace hf := ite_p c2 hf
        refine sd_bipush (n := -2) (v := (-2)) (pc' := 67) (by decide +kernel) (by decide) ?_
        obtain rfl := Option.some.inj hf
        exact sd_iret (by decide +kernel) rfl (hE _)
      · replace hf := ite_n c2 hf
        refine sd_aload_n (k := 0) (i := 0) (q := 0) (pc' := 18) (by decide +kernel) rfl rfl ?_
        refine sd_iload (i := 4) (q := 3) (pc' := 20) (by decide +kernel) rfl ?_
        obtain ⟨h4, t5, q3, hf⟩ := b2_some hf
        refine sF_callV (idx := 286) (b := 126) (As := [.int l4]) (ci := 12) (nn := 47) (pc' := 23) 1 (T_YM_without (G := G) (h := h)  q3) (by decide +kernel) mv_YM_without ml_X12_286 (by decide +kernel) rfl rfl (Nat.le_of_ble_eq_true rfl) SH_126 rfl (by decide) rfl rfl ?_
        refine sd_istore (i := 4) (pc' := 25) (lo' := [(4, .int t5), (0, .ref (G.1 + 126)), (2, .int l2), (3, .int l3), (5, .int l5)]) (by decide +kernel) (by decide) rfl ?_
        refine sd_iload (i := 5) (q := 4) (pc' := 27) (by decide +kernel) rfl ?_
        refine sd_iload_n (k := 2) (i := 2) (q := 2) (pc' := 28) (by decide +kernel) rfl rfl ?_
        refine sd_icmp_ne (off := 31) (tgt := 59) (pc' := 31) (by decide +kernel) (fun c6 => ?_) (fun c6 => ?_)
        · replace hf := ite_n c6 hf
          refine sd_iinc (i := 5) (q := 4) (n := 1) (v := (l5 + 1)) (pc' := 62) (lo' := [(5, .int (l5 + 1)), (4, .int t5), (0, .ref (G.1 + 126)), (2, .int l2), (3, .int l3)]) (by decide +kernel) rfl rfl (by decide) rfl ?_
          refine sd_goto (off := -56) (tgt := 6) (pc' := 65) (by decide +kernel) ?_
          refine sd_J.sub (lo' := [(0, .ref (G.1 + 126)), (2, .int l2), (3, .int l3), (4, .int t5), (5, .int (l5 + 1))]) [2, 3, 4, 1, 0] rfl ?_
          exact ih _ _ _ _ _ hf
        · replace hf := ite_p c6 hf
          refine sd_iload_n (k := 3) (i := 3) (q := 3) (pc' := 32) (by decide +kernel) rfl rfl ?_
          refine sd_if_ne (off := 10) (tgt := 42) (pc' := 35) (by decide +kernel) (fun c7 => ?_) (fun c7 => ?_)
          · replace hf := ite_n c7 hf
            refine sd_iload_n (k := 3) (i := 3) (q := 3) (pc' := 43) (by decide +kernel) rfl rfl ?_
            refine sd_iconst (n := 1) (v := 1) (pc' := 44) (by decide +kernel) (by decide) ?_
            refine sd_icmp_ne (off := 10) (tgt := 54) (pc' := 47) (by decide +kernel) (fun c8 => ?_) (fun c8 => ?_)
            · replace hf := ite_n c8 hf
              refine sd_aload_n (k := 0) (i := 0) (q := 1) (pc' := 55) (by decide +kernel) rfl rfl ?_
              refine sF_gi (idx := 283) (ci := 12) (k := 28) (n := 47) (pc' := 58) (by decide +kernel) fl_X12_283 (by decide +kernel) rfl SH_126 ?_
              obtain rfl := Option.some.inj hf
              exact sd_iret (by decide +kernel) rfl (hE _)
            · replace hf := ite_p c8 hf
              refine sd_aload_n (k := 0) (i := 0) (q := 1) (pc' := 48) (by decide +kernel) rfl rfl ?_
              refine sF_gi (idx := 280) (ci := 12) (k := 27) (n := 47) (pc' := 51) (by decide +kernel) fl_X12_280 (by decide +kernel) rfl SH_126 ?_
              refine sd_goto (off := 7) (tgt := 58) (pc' := 54) (by decide +kernel) ?_
              obtain rfl := Option.some.inj hf
              exact sd_iret (by decide +kernel) rfl (hE _)
          · replace hf := ite_p c7 hf
            refine sd_aload_n (k := 0) (i := 0) (q := 1) (pc' := 36) (by decide +kernel) rfl rfl ?_
            refine sF_gi (idx := 277) (ci := 12) (k := 26) (n := 47) (pc' := 39) (by decide +kernel) fl_X12_277 (by decide +kernel) rfl SH_126 ?_
            refine sd_goto (off := 19) (tgt := 58) (pc' := 42) (by decide +kernel) ?_
            obtain rfl := Option.some.inj hf
            exact sd_iret (by decide +kernel) rfl (hE _)
def YM_pieceOf (h : sd_H) (a0 : Int32) (a1 : Int32) (a2 : Int32) : Option (sd_H × Int32) :=
  YM_pieceOf_L6 FU h a1 a2 a0 0
set_option maxHeartbeats 4000000 in
set_option maxRecDepth 100000 in
theorem T_YM_pieceOf {G : sd_GX} {h : sd_H} {a0 : Int32} {a1 : Int32} {a2 : Int32} {r : (sd_H × Int32)} (hf : YM_pieceOf h a0 a1 a2 = some r) : sd_RunF G M_YM_pieceOf [.ref (G.1 + 126), .int a0, .int a1, .int a2] h (some (.int r.2)) r.1 := by
  refine sF_run ⟨rfl, rfl⟩ (by decide +kernel) (Nat.le_of_ble_eq_true rfl) (lo := [(0, .ref (G.1 + 126)), (1, .int a0), (2, .int a1), (3, .int a2)]) rfl (fun X hE => ?_)
  unfold YM_pieceOf at hf
  refine sd_iload_n (k := 1) (i := 1) (q := 1) (pc' := 1) (by decide +kernel) rfl rfl ?_
  refine sd_istore (i := 4) (pc' := 3) (lo' := [(4, .int a0), (0, .ref (G.1 + 126)), (1, .int a0), (2, .int a1), (3, .int a2)]) (by decide +kernel) (by decide) rfl ?_
  refine sd_iconst (n := 0) (v := 0) (pc' := 4) (by decide +kernel) (by decide) ?_
  refine sd_istore (i := 5) (pc' := 6) (lo' := [(5, .int 0), (4, .int a0), (0, .ref (G.1 + 126)), (1, .int a0), (2, .int a1), (3, .int a2)]) (by decide +kernel) (by decide) rfl ?_
  refine sd_J.sub (lo' := [(0, .ref (G.1 + 126)), (2, .int a1), (3, .int a2), (4, .int a0), (5, .int 0)]) [2, 4, 5, 1, 0] rfl ?_
  exact J_YM_pieceOf_L6 hE _ _ _ _ _ _ hf

theorem ml_X12_292 : Cond.methodLink RX12 292 yX12_pieceOf ∈ sd_tb := sd_mem (i := 1549) (by decide +kernel)
theorem mv_YM_pieceOf : sd_mV M_YM_pieceOf 3 := ⟨sd_mem (i := 1551) (by decide +kernel), sd_mem (i := 72) (by decide +kernel), ⟨sd_mem (i := 1552) (by decide +kernel), sd_mem (i := 119) (by decide +kernel), by decide +kernel, by decide +kernel, by decide +kernel⟩⟩
def M_YM_piece : sd_MX := (yX12_piece, cX12_piece, 6, (some .int), { frames := 9, cells := 0, slots := 0, locals := 228 })
def YM_piece (h : sd_H) (a0 : Int32) (a1 : Int32) (a2 : Int32) (a3 : Int32) (a4 : Int32) : Option (sd_H × Int32) :=
  b1 (YM_isSet h a0 a1 a2) (fun t2 => (if t2 = 0 then some (h, (-2)) else (if a3 < 0 then some (h, (-2)) else b1 (YM_in a4 0 2) (fun t6 => (if t6 = 0 then some (h, (-2)) else b2 (YM_bitsOfSet h a0 a1 a2) (fun h9 t10 => b2 (YM_pieceOf h9 t10 a3 a4) (fun h12 t13 => some (h12, t13))))))))
set_option maxHeartbeats 4000000 in
set_option maxRecDepth 100000 in
theorem T_YM_piece {G : sd_GX} {h : sd_H} {a0 : Int32} {a1 : Int32} {a2 : Int32} {a3 : Int32} {a4 : Int32} {r : (sd_H × Int32)} (hf : YM_piece h a0 a1 a2 a3 a4 = some r) : sd_RunF G M_YM_piece [.ref (G.1 + 126), .int a0, .int a1, .int a2, .int a3, .int a4] h (some (.int r.2)) r.1 := by
  refine sF_run ⟨rfl, rfl⟩ (by decide +kernel) (Nat.le_of_ble_eq_true rfl) (lo := [(0, .ref (G.1 + 126)), (1, .int a0), (2, .int a1), (3, .int a2), (4, .int a3), (5, .int a4)]) rfl (fun X hE => ?_)
  unfold YM_piece at hf
  refine sd_aload_n (k := 0) (i := 0) (q := 0) (pc' := 1) (by decide +kernel) rfl rfl ?_
  refine sd_iload_n (k := 1) (i := 1) (q := 1) (pc' := 2) (by decide +kernel) rfl rfl ?_
  refine sd_iload_n (k := 2) (i := 2) (q := 2) (pc' := 3) (by decide +kernel) rfl rfl ?_
  refine sd_iload_n (k := 3) (i := 3) (q := 3) (pc' := 4) (by decide +kernel) rfl rfl ?_
  obtain ⟨t2, q1, hf⟩ := b1_some hf
  refine sF_callV (idx := 265) (b := 126) (As := [.int a0, .int a1, .int a2]) (ci := 12) (nn := 47) (pc' := 7) 3 (T_YM_isSet (G := G) (h := h)  q1) (by decide +kernel) mv_YM_isSet ml_X12_265 (by decide +kernel) rfl rfl (Nat.le_of_ble_eq_true rfl) SH_126 rfl (by decide) rfl rfl ?_
  refine sd_if_eq (off := 36) (tgt := 43) (pc' := 10) (by decide +kernel) (fun c3 => ?_) (fun c3 => ?_)
  · replace hf := ite_p c3 hf
    refine sd_bipush (n := -2) (v := (-2)) (pc' := 45) (by decide +kernel) (by decide) ?_
    obtain rfl := Option.some.inj hf
    exact sd_iret (by decide +kernel) rfl (hE _)
  · replace hf := ite_n c3 hf
    refine sd_iload (i := 4) (q := 4) (pc' := 12) (by decide +kernel) rfl ?_
    refine sd_if_lt (off := 31) (tgt := 43) (pc' := 15) (by decide +kernel) (fun c4 => ?_) (fun c4 => ?_)
    · replace hf := ite_p c4 hf
      refine sd_bipush (n := -2) (v := (-2)) (pc' := 45) (by decide +kernel) (by decide) ?_
      obtain rfl := Option.some.inj hf
      exact sd_iret (by decide +kernel) rfl (hE _)
    · replace hf := ite_n c4 hf
      refine sd_iload (i := 5) (q := 5) (pc' := 17) (by decide +kernel) rfl ?_
      refine sd_iconst (n := 0) (v := 0) (pc' := 18) (by decide +kernel) (by decide) ?_
      refine sd_iconst (n := 2) (v := 2) (pc' := 19) (by decide +kernel) (by decide) ?_
      obtain ⟨t6, q5, hf⟩ := b1_some hf
      refine sF_callS (idx := 114) (As := [.int a4, .int 0, .int 2]) (pc' := 22) 3 (T_YM_in (G := G) (h := h)  q5) (by decide +kernel) mv_YM_in ml_X12_114 (by decide +kernel) rfl rfl (Nat.le_of_ble_eq_true rfl) rfl ?_
      refine sd_if_eq (off := 21) (tgt := 43) (pc' := 25) (by decide +kernel) (fun c7 => ?_) (fun c7 => ?_)
      · replace hf := ite_p c7 hf
        refine sd_bipush (n := -2) (v := (-2)) (pc' := 45) (by decide +kernel) (by decide) ?_
        obtain rfl := Option.some.inj hf
        exact sd_iret (by decide +kernel) rfl (hE _)
      · replace hf := ite_n c7 hf
        refine sd_aload_n (k := 0) (i := 0) (q := 0) (pc' := 26) (by decide +kernel) rfl rfl ?_
        refine sd_aload_n (k := 0) (i := 0) (q := 0) (pc' := 27) (by decide +kernel) rfl rfl ?_
        refine sd_iload_n (k := 1) (i := 1) (q := 1) (pc' := 28) (by decide +kernel) rfl rfl ?_
        refine sd_iload_n (k := 2) (i := 2) (q := 2) (pc' := 29) (by decide +kernel) rfl rfl ?_
        refine sd_iload_n (k := 3) (i := 3) (q := 3) (pc' := 30) (by decide +kernel) rfl rfl ?_
        obtain ⟨h9, t10, q8, hf⟩ := b2_some hf
        refine sF_callV (idx := 268) (b := 126) (As := [.int a0, .int a1, .int a2]) (ci := 12) (nn := 47) (pc' := 33) 3 (T_YM_bitsOfSet (G := G) (h := h)  q8) (by decide +kernel) mv_YM_bitsOfSet ml_X12_268 (by decide +kernel) rfl rfl (Nat.le_of_ble_eq_true rfl) SH_126 rfl (by decide) rfl rfl ?_
        refine sd_iload (i := 4) (q := 4) (pc' := 35) (by decide +kernel) rfl ?_
        refine sd_iload (i := 5) (q := 5) (pc' := 37) (by decide +kernel) rfl ?_
        obtain ⟨h12, t13, q11, hf⟩ := b2_some hf
        refine sF_callV (idx := 292) (b := 126) (As := [.int t10, .int a3, .int a4]) (ci := 12) (nn := 47) (pc' := 40) 3 (T_YM_pieceOf (G := G) (h := h9)  q11) (by decide +kernel) mv_YM_pieceOf ml_X12_292 (by decide +kernel) rfl rfl (Nat.le_of_ble_eq_true rfl) SH_126 rfl (by decide) rfl rfl ?_
        refine sd_goto (off := 5) (tgt := 45) (pc' := 43) (by decide +kernel) ?_
        obtain rfl := Option.some.inj hf
        exact sd_iret (by decide +kernel) rfl (hE _)

def M_YM_isWritten : sd_MX := (yX12_isWritten, cX12_isWritten, 4, (some .boolean), { frames := 2, cells := 0, slots := 0, locals := 63 })
def YM_isWritten_L4 (h : sd_H) : Nat → Int32 → Int32 → Int32 → Option Int32
  | 0, _, _, _ => none
  | n + 1, l1, l2, l3 =>
  (if (h.1 126 6) ≤ l3 then (if l2 = 0 then some 0 else some 1) else b1 (YM_bitsOfTurn h 1 l1 l3) (fun t4 => YM_isWritten_L4 h n l1 (l2 ||| t4) (l3 + 1)))
set_option maxHeartbeats 4000000 in
set_option maxRecDepth 100000 in
theorem J_YM_isWritten_L4 {G : sd_GX} {X : sd_CX} (hE : ∀ g : sd_H, sd_end G X M_YM_isWritten (sd_F g)) {h : sd_H} {r : Int32} : ∀ (n : Nat) (l1 : Int32) (l2 : Int32) (l3 : Int32), YM_isWritten_L4 h n l1 l2 l3 = some r → sd_J G X (sd_QR G X M_YM_isWritten (some (.int r), sd_F h)) M_YM_isWritten 4 [(0, .ref (G.1 + 126)), (1, .int l1), (2, .int l2), (3, .int l3)] [] (sd_F h) := by
  intro n
  induction n with
  | zero =>
    intro l1 l2 l3 hf
    rw [YM_isWritten_L4] at hf
    cases hf
  | succ n ih =>
    intro l1 l2 l3 hf
    rw [YM_isWritten_L4] at hf
    refine sd_iload_n (k := 3) (i := 3) (q := 3) (pc' := 5) (by decide +kernel) rfl rfl ?_
    refine sd_aload_n (k := 0) (i := 0) (q := 0) (pc' := 6) (by decide +kernel) rfl rfl ?_
    refine sF_gi (idx := 154) (ci := 12) (k := 6) (n := 47) (pc' := 9) (by decide +kernel) fl_X12_154 (by decide +kernel) rfl SH_126 ?_
    refine sd_icmp_ge (off := 19) (tgt := 28) (pc' := 12) (by decide +kernel) (fun c1 => ?_) (fun c1 => ?_)
    · replace hf := ite_p c1 hf
      refine sd_iload_n (k := 2) (i := 2) (q := 2) (pc' := 29) (by decide +kernel) rfl rfl ?_
      refine sd_if_eq (off := 7) (tgt := 36) (pc' := 32) (by decide +kernel) (fun c2 => ?_) (fun c2 => ?_)
      · replace hf := ite_p c2 hf
        refine sd_iconst (n := 0) (v := 0) (pc' := 37) (by decide +kernel) (by decide) ?_
        obtain rfl := Option.some.inj hf
        exact sd_zret (by decide +kernel) rfl rfl (hE _)
      · replace hf := ite_n c2 hf
        refine sd_iconst (n := 1) (v := 1) (pc' := 33) (by decide +kernel) (by decide) ?_
        refine sd_goto (off := 4) (tgt := 37) (pc' := 36) (by decide +kernel) ?_
        obtain rfl := Option.some.inj hf
        exact sd_zret (by decide +kernel) rfl rfl (hE _)
    · replace hf := ite_n c1 hf
      refine sd_iload_n (k := 2) (i := 2) (q := 2) (pc' := 13) (by decide +kernel) rfl rfl ?_
      refine sd_aload_n (k := 0) (i := 0) (q := 0) (pc' := 14) (by decide +kernel) rfl rfl ?_
      refine sd_iconst (n := 1) (v := 1) (pc' := 15) (by decide +kernel) (by decide) ?_
      refine sd_iload_n (k := 1) (i := 1) (q := 1) (pc' := 16) (by decide +kernel) rfl rfl ?_
      refine sd_iload_n (k := 3) (i := 3) (q := 3) (pc' := 17) (by decide +kernel) rfl rfl ?_
      obtain ⟨t4, q3, hf⟩ := b1_some hf
      refine sF_callV (idx := 262) (b := 126) (As := [.int 1, .int l1, .int l3]) (ci := 12) (nn := 47) (pc' := 20) 3 (T_YM_bitsOfTurn (G := G) (h := h)  q3) (by decide +kernel) mv_YM_bitsOfTurn ml_X12_262 (by decide +kernel) rfl rfl (Nat.le_of_ble_eq_true rfl) SH_126 rfl (by decide) rfl rfl ?_
      refine sd_ior (pc' := 21) (by decide +kernel) ?_
      refine sd_istore_n (k := 2) (i := 2) (pc' := 22) (lo' := [(2, .int (l2 ||| t4)), (0, .ref (G.1 + 126)), (1, .int l1), (3, .int l3)]) (by decide +kernel) rfl (by decide) rfl ?_
      refine sd_iinc (i := 3) (q := 3) (n := 1) (v := (l3 + 1)) (pc' := 25) (lo' := [(3, .int (l3 + 1)), (2, .int (l2 ||| t4)), (0, .ref (G.1 + 126)), (1, .int l1)]) (by decide +kernel) rfl rfl (by decide) rfl ?_
      refine sd_goto (off := -21) (tgt := 4) (pc' := 28) (by decide +kernel) ?_
      refine sd_J.sub (lo' := [(0, .ref (G.1 + 126)), (1, .int l1), (2, .int (l2 ||| t4)), (3, .int (l3 + 1))]) [2, 3, 1, 0] rfl ?_
      exact ih _ _ _ hf
def YM_isWritten (h : sd_H) (a0 : Int32) : Option Int32 :=
  YM_isWritten_L4 h FU a0 0 0
set_option maxHeartbeats 4000000 in
set_option maxRecDepth 100000 in
theorem T_YM_isWritten {G : sd_GX} {h : sd_H} {a0 : Int32} {r : Int32} (hf : YM_isWritten h a0 = some r) : sd_RunF G M_YM_isWritten [.ref (G.1 + 126), .int a0] h (some (.int r)) h := by
  refine sF_run ⟨rfl, rfl⟩ (by decide +kernel) (Nat.le_of_ble_eq_true rfl) (lo := [(0, .ref (G.1 + 126)), (1, .int a0)]) rfl (fun X hE => ?_)
  unfold YM_isWritten at hf
  refine sd_iconst (n := 0) (v := 0) (pc' := 1) (by decide +kernel) (by decide) ?_
  refine sd_istore_n (k := 2) (i := 2) (pc' := 2) (lo' := [(2, .int 0), (0, .ref (G.1 + 126)), (1, .int a0)]) (by decide +kernel) rfl (by decide) rfl ?_
  refine sd_iconst (n := 0) (v := 0) (pc' := 3) (by decide +kernel) (by decide) ?_
  refine sd_istore_n (k := 3) (i := 3) (pc' := 4) (lo' := [(3, .int 0), (2, .int 0), (0, .ref (G.1 + 126)), (1, .int a0)]) (by decide +kernel) rfl (by decide) rfl ?_
  refine sd_J.sub (lo' := [(0, .ref (G.1 + 126)), (1, .int a0), (2, .int 0), (3, .int 0)]) [2, 3, 1, 0] rfl ?_
  exact J_YM_isWritten_L4 hE _ _ _ _ hf

def M_YM_isShared : sd_MX := (yX12_isShared, cX12_isShared, 6, (some .boolean), { frames := 2, cells := 0, slots := 0, locals := 63 })
def YM_isShared_B71 (h : sd_H) (K4 : Int32 → Int32 → Int32 → Option Int32) (K15 : Int32 → Int32 → Int32 → Int32 → Option Int32) (l1 : Int32) (l3 : Int32) (l4 : Int32) (s0 : Int32) : Option Int32 :=
  K15 l1 s0 l3 (l4 + 1)
set_option maxHeartbeats 4000000 in
set_option maxRecDepth 100000 in
theorem J_YM_isShared_B71 {G : sd_GX} {X : sd_CX} (hE : ∀ g : sd_H, sd_end G X M_YM_isShared (sd_F g)) {h : sd_H} {K4 : Int32 → Int32 → Int32 → Option Int32} {K15 : Int32 → Int32 → Int32 → Int32 → Option Int32} {r : Int32} (hK4 : ∀ (l1 : Int32) (l2 : Int32) (l3 : Int32), K4 l1 l2 l3 = some r → sd_J G X (sd_QR G X M_YM_isShared (some (.int r), sd_F h)) M_YM_isShared 4 [(0, .ref (G.1 + 126)), (1, .int l1), (2, .int l2), (3, .int l3)] [] (sd_F h)) (hK15 : ∀ (l1 : Int32) (l2 : Int32) (l3 : Int32) (l4 : Int32), K15 l1 l2 l3 l4 = some r → sd_J G X (sd_QR G X M_YM_isShared (some (.int r), sd_F h)) M_YM_isShared 15 [(0, .ref (G.1 + 126)), (1, .int l1), (2, .int l2), (3, .int l3), (4, .int l4)] [] (sd_F h)) {l1 : Int32} {l3 : Int32} {l4 : Int32} {s0 : Int32} (hf : YM_isShared_B71 h K4 K15 l1 l3 l4 s0 = some r) : sd_J G X (sd_QR G X M_YM_isShared (some (.int r), sd_F h)) M_YM_isShared 71 [(0, .ref (G.1 + 126)), (1, .int l1), (3, .int l3), (4, .int l4)] [.int s0] (sd_F h) := by
  unfold YM_isShared_B71 at hf
  refine sd_istore_n (k := 2) (i := 2) (pc' := 72) (lo' := [(2, .int s0), (0, .ref (G.1 + 126)), (1, .int l1), (3, .int l3), (4, .int l4)]) (by decide +kernel) rfl (by decide) rfl ?_
  refine sd_iinc (i := 4) (q := 4) (n := 1) (v := (l4 + 1)) (pc' := 75) (lo' := [(4, .int (l4 + 1)), (2, .int s0), (0, .ref (G.1 + 126)), (1, .int l1), (3, .int l3)]) (by decide +kernel) rfl rfl (by decide) rfl ?_
  refine sd_goto (off := -60) (tgt := 15) (pc' := 78) (by decide +kernel) ?_
  refine sd_J.sub (lo' := [(0, .ref (G.1 + 126)), (1, .int l1), (2, .int s0), (3, .int l3), (4, .int (l4 + 1))]) [2, 3, 1, 4, 0] rfl ?_
  exact hK15 _ _ _ _ hf
def YM_isShared_B70 (h : sd_H) (K4 : Int32 → Int32 → Int32 → Option Int32) (K15 : Int32 → Int32 → Int32 → Int32 → Option Int32) (l1 : Int32) (l3 : Int32) (l4 : Int32) : Option Int32 :=
  YM_isShared_B71 h K4 K15 l1 l3 l4 0
set_option maxHeartbeats 4000000 in
set_option maxRecDepth 100000 in
theorem J_YM_isShared_B70 {G : sd_GX} {X : sd_CX} (hE : ∀ g : sd_H, sd_end G X M_YM_isShared (sd_F g)) {h : sd_H} {K4 : Int32 → Int32 → Int32 → Option Int32} {K15 : Int32 → Int32 → Int32 → Int32 → Option Int32} {r : Int32} (hK4 : ∀ (l1 : Int32) (l2 : Int32) (l3 : Int32), K4 l1 l2 l3 = some r → sd_J G X (sd_QR G X M_YM_isShared (some (.int r), sd_F h)) M_YM_isShared 4 [(0, .ref (G.1 + 126)), (1, .int l1), (2, .int l2), (3, .int l3)] [] (sd_F h)) (hK15 : ∀ (l1 : Int32) (l2 : Int32) (l3 : Int32) (l4 : Int32), K15 l1 l2 l3 l4 = some r → sd_J G X (sd_QR G X M_YM_isShared (some (.int r), sd_F h)) M_YM_isShared 15 [(0, .ref (G.1 + 126)), (1, .int l1), (2, .int l2), (3, .int l3), (4, .int l4)] [] (sd_F h)) {l1 : Int32} {l3 : Int32} {l4 : Int32} (hf : YM_isShared_B70 h K4 K15 l1 l3 l4 = some r) : sd_J G X (sd_QR G X M_YM_isShared (some (.int r), sd_F h)) M_YM_isShared 70 [(0, .ref (G.1 + 126)), (1, .int l1), (3, .int l3), (4, .int l4)] [] (sd_F h) := by
  unfold YM_isShared_B70 at hf
  refine sd_iconst (n := 0) (v := 0) (pc' := 71) (by decide +kernel) (by decide) ?_
  refine sd_J.sub (lo' := [(0, .ref (G.1 + 126)), (1, .int l1), (3, .int l3), (4, .int l4)]) [0, 1, 2, 3] rfl ?_
  exact J_YM_isShared_B71 hE hK4 hK15 hf
def YM_isShared_B66 (h : sd_H) (K4 : Int32 → Int32 → Int32 → Option Int32) (K15 : Int32 → Int32 → Int32 → Int32 → Option Int32) (l1 : Int32) (l3 : Int32) (l4 : Int32) : Option Int32 :=
  YM_isShared_B71 h K4 K15 l1 l3 l4 1
set_option maxHeartbeats 4000000 in
set_option maxRecDepth 100000 in
theorem J_YM_isShared_B66 {G : sd_GX} {X : sd_CX} (hE : ∀ g : sd_H, sd_end G X M_YM_isShared (sd_F g)) {h : sd_H} {K4 : Int32 → Int32 → Int32 → Option Int32} {K15 : Int32 → Int32 → Int32 → Int32 → Option Int32} {r : Int32} (hK4 : ∀ (l1 : Int32) (l2 : Int32) (l3 : Int32), K4 l1 l2 l3 = some r → sd_J G X (sd_QR G X M_YM_isShared (some (.int r), sd_F h)) M_YM_isShared 4 [(0, .ref (G.1 + 126)), (1, .int l1), (2, .int l2), (3, .int l3)] [] (sd_F h)) (hK15 : ∀ (l1 : Int32) (l2 : Int32) (l3 : Int32) (l4 : Int32), K15 l1 l2 l3 l4 = some r → sd_J G X (sd_QR G X M_YM_isShared (some (.int r), sd_F h)) M_YM_isShared 15 [(0, .ref (G.1 + 126)), (1, .int l1), (2, .int l2), (3, .int l3), (4, .int l4)] [] (sd_F h)) {l1 : Int32} {l3 : Int32} {l4 : Int32} (hf : YM_isShared_B66 h K4 K15 l1 l3 l4 = some r) : sd_J G X (sd_QR G X M_YM_isShared (some (.int r), sd_F h)) M_YM_isShared 66 [(0, .ref (G.1 + 126)), (1, .int l1), (3, .int l3), (4, .int l4)] [] (sd_F h) := by
  unfold YM_isShared_B66 at hf
  refine sd_iconst (n := 1) (v := 1) (pc' := 67) (by decide +kernel) (by decide) ?_
  refine sd_goto (off := 4) (tgt := 71) (pc' := 70) (by decide +kernel) ?_
  refine sd_J.sub (lo' := [(0, .ref (G.1 + 126)), (1, .int l1), (3, .int l3), (4, .int l4)]) [0, 1, 2, 3] rfl ?_
  exact J_YM_isShared_B71 hE hK4 hK15 hf
def YM_isShared_L15 (h : sd_H) (K4 : Int32 → Int32 → Int32 → Option Int32) : Nat → Int32 → Int32 → Int32 → Int32 → Option Int32
  | 0, _, _, _, _ => none
  | n + 1, l1, l2, l3, l4 =>
  (if (h.1 126 6) ≤ l4 then K4 l1 l2 (l3 + 1) else b1 (YM_bitsOfTurn h 0 l1 l4) (fun t5 => b1 (YM_bitsOfTurn h 1 l1 l4) (fun t7 => (if l2 = 0 then YM_isShared_B70 h K4 (YM_isShared_L15 h K4 n) l1 l3 l4 else (if l3 = l4 then YM_isShared_B66 h K4 (YM_isShared_L15 h K4 n) l1 l3 l4 else b1 (YM_bitsOfTurn h 1 l1 l3) (fun t11 => (if (t11 &&& (t5 ||| t7)) = 0 then YM_isShared_B66 h K4 (YM_isShared_L15 h K4 n) l1 l3 l4 else YM_isShared_B70 h K4 (YM_isShared_L15 h K4 n) l1 l3 l4)))))))
set_option maxHeartbeats 4000000 in
set_option maxRecDepth 100000 in
theorem J_YM_isShared_L15 {G : sd_GX} {X : sd_CX} (hE : ∀ g : sd_H, sd_end G X M_YM_isShared (sd_F g)) {h : sd_H} {K4 : Int32 → Int32 → Int32 → Option Int32} {r : Int32} (hK4 : ∀ (l1 : Int32) (l2 : Int32) (l3 : Int32), K4 l1 l2 l3 = some r → sd_J G X (sd_QR G X M_YM_isShared (some (.int r), sd_F h)) M_YM_isShared 4 [(0, .ref (G.1 + 126)), (1, .int l1), (2, .int l2), (3, .int l3)] [] (sd_F h)) : ∀ (n : Nat) (l1 : Int32) (l2 : Int32) (l3 : Int32) (l4 : Int32), YM_isShared_L15 h K4 n l1 l2 l3 l4 = some r → sd_J G X (sd_QR G X M_YM_isShared (some (.int r), sd_F h)) M_YM_isShared 15 [(0, .ref (G.1 + 126)), (1, .int l1), (2, .int l2), (3, .int l3), (4, .int l4)] [] (sd_F h) := by
  intro n
  induction n with
  | zero =>
    intro l1 l2 l3 l4 hf
    rw [YM_isShared_L15] at hf
    cases hf
  | succ n ih =>
    intro l1 l2 l3 l4 hf
    rw [YM_isShared_L15] at hf
    refine sd_iload (i := 4) (q := 4) (pc' := 17) (by decide +kernel) rfl ?_
    refine sd_aload_n (k := 0) (i := 0) (q := 0) (pc' := 18) (by decide +kernel) rfl rfl ?_
    refine sF_gi (idx := 154) (ci := 12) (k := 6) (n := 47) (pc' := 21) (by decide +kernel) fl_X12_154 (by decide +kernel) rfl SH_126 ?_
    refine sd_icmp_ge (off := 57) (tgt := 78) (pc' := 24) (by decide +kernel) (fun c3 => ?_) (fun c3 => ?_)
    · replace hf := ite_p c3 hf
      refine sd_iinc (i := 3) (q := 3) (n := 1) (v := (l3 + 1)) (pc' := 81) (lo' := [(3, .int (l3 + 1)), (0, .ref (G.1 + 126)), (1, .int l1), (2, .int l2), (4, .int l4)]) (by decide +kernel) rfl rfl (by decide) rfl ?_
      refine sd_goto (off := -77) (tgt := 4) (pc' := 84) (by decide +kernel) ?_
      refine sd_J.sub (lo' := [(0, .ref (G.1 + 126)), (1, .int l1), (2, .int l2), (3, .int (l3 + 1))]) [1, 2, 3, 0] rfl ?_
      exact hK4 _ _ _ hf
    · replace hf := ite_n c3 hf
      refine sd_aload_n (k := 0) (i := 0) (q := 0) (pc' := 25) (by decide +kernel) rfl rfl ?_
      refine sd_iconst (n := 0) (v := 0) (pc' := 26) (by decide +kernel) (by decide) ?_
      refine sd_iload_n (k := 1) (i := 1) (q := 1) (pc' := 27) (by decide +kernel) rfl rfl ?_
      refine sd_iload (i := 4) (q := 4) (pc' := 29) (by decide +kernel) rfl ?_
      obtain ⟨t5, q4, hf⟩ := b1_some hf
      refine sF_callV (idx := 262) (b := 126) (As := [.int 0, .int l1, .int l4]) (ci := 12) (nn := 47) (pc' := 32) 3 (T_YM_bitsOfTurn (G := G) (h := h)  q4) (by decide +kernel) mv_YM_bitsOfTurn ml_X12_262 (by decide +kernel) rfl rfl (Nat.le_of_ble_eq_true rfl) SH_126 rfl (by decide) rfl rfl ?_
      refine sd_aload_n (k := 0) (i := 0) (q := 0) (pc' := 33) (by decide +kernel) rfl rfl ?_
      refine sd_iconst (n := 1) (v := 1) (pc' := 34) (by decide +kernel) (by decide) ?_
      refine sd_iload_n (k := 1) (i := 1) (q := 1) (pc' := 35) (by decide +kernel) rfl rfl ?_
      refine sd_iload (i := 4) (q := 4) (pc' := 37) (by decide +kernel) rfl ?_
      obtain ⟨t7, q6, hf⟩ := b1_some hf
      refine sF_callV (idx := 262) (b := 126) (As := [.int 1, .int l1, .int l4]) (ci := 12) (nn := 47) (pc' := 40) 3 (T_YM_bitsOfTurn (G := G) (h := h)  q6) (by decide +kernel) mv_YM_bitsOfTurn ml_X12_262 (by decide +kernel) rfl rfl (Nat.le_of_ble_eq_true rfl) SH_126 rfl (by decide) rfl rfl ?_
      refine sd_ior (pc' := 41) (by decide +kernel) ?_
      refine sd_istore (i := 5) (pc' := 43) (lo' := [(5, .int (t5 ||| t7)), (0, .ref (G.1 + 126)), (1, .int l1), (2, .int l2), (3, .int l3), (4, .int l4)]) (by decide +kernel) (by decide) rfl ?_
      refine sd_iload_n (k := 2) (i := 2) (q := 3) (pc' := 44) (by decide +kernel) rfl rfl ?_
      refine sd_if_eq (off := 26) (tgt := 70) (pc' := 47) (by decide +kernel) (fun c8 => ?_) (fun c8 => ?_)
      · replace hf := ite_p c8 hf
        refine sd_J.sub (lo' := [(0, .ref (G.1 + 126)), (1, .int l1), (3, .int l3), (4, .int l4)]) [1, 2, 4, 5] rfl ?_
        exact J_YM_isShared_B70 hE hK4 ih hf
      · replace hf := ite_n c8 hf
        refine sd_iload_n (k := 3) (i := 3) (q := 4) (pc' := 48) (by decide +kernel) rfl rfl ?_
        refine sd_iload (i := 4) (q := 5) (pc' := 50) (by decide +kernel) rfl ?_
        refine sd_icmp_eq (off := 16) (tgt := 66) (pc' := 53) (by decide +kernel) (fun c9 => ?_) (fun c9 => ?_)
        · replace hf := ite_p c9 hf
          refine sd_J.sub (lo' := [(0, .ref (G.1 + 126)), (1, .int l1), (3, .int l3), (4, .int l4)]) [1, 2, 4, 5] rfl ?_
          exact J_YM_isShared_B66 hE hK4 ih hf
        · replace hf := ite_n c9 hf
          refine sd_aload_n (k := 0) (i := 0) (q := 1) (pc' := 54) (by decide +kernel) rfl rfl ?_
          refine sd_iconst (n := 1) (v := 1) (pc' := 55) (by decide +kernel) (by decide) ?_
          refine sd_iload_n (k := 1) (i := 1) (q := 2) (pc' := 56) (by decide +kernel) rfl rfl ?_
          refine sd_iload_n (k := 3) (i := 3) (q := 4) (pc' := 57) (by decide +kernel) rfl rfl ?_
          obtain ⟨t11, q10, hf⟩ := b1_some hf
          refine sF_callV (idx := 262) (b := 126) (As := [.int 1, .int l1, .int l3]) (ci := 12) (nn := 47) (pc' := 60) 3 (T_YM_bitsOfTurn (G := G) (h := h)  q10) (by decide +kernel) mv_YM_bitsOfTurn ml_X12_262 (by decide +kernel) rfl rfl (Nat.le_of_ble_eq_true rfl) SH_126 rfl (by decide) rfl rfl ?_
          refine sd_iload (i := 5) (q := 0) (pc' := 62) (by decide +kernel) rfl ?_
          refine sd_iand (pc' := 63) (by decide +kernel) ?_
          refine sd_if_ne (off := 7) (tgt := 70) (pc' := 66) (by decide +kernel) (fun c12 => ?_) (fun c12 => ?_)
          · replace hf := ite_n c12 hf
            refine sd_J.sub (lo' := [(0, .ref (G.1 + 126)), (1, .int l1), (3, .int l3), (4, .int l4)]) [1, 2, 4, 5] rfl ?_
            exact J_YM_isShared_B70 hE hK4 ih hf
          · replace hf := ite_p c12 hf
            refine sd_J.sub (lo' := [(0, .ref (G.1 + 126)), (1, .int l1), (3, .int l3), (4, .int l4)]) [1, 2, 4, 5] rfl ?_
            exact J_YM_isShared_B66 hE hK4 ih hf
def YM_isShared_L4 (h : sd_H) : Nat → Int32 → Int32 → Int32 → Option Int32
  | 0, _, _, _ => none
  | n + 1, l1, l2, l3 =>
  (if (h.1 126 6) ≤ l3 then gd (sd_isB l2) (some l2) else YM_isShared_L15 h (YM_isShared_L4 h n) FU l1 l2 l3 0)
set_option maxHeartbeats 4000000 in
set_option maxRecDepth 100000 in
theorem J_YM_isShared_L4 {G : sd_GX} {X : sd_CX} (hE : ∀ g : sd_H, sd_end G X M_YM_isShared (sd_F g)) {h : sd_H} {r : Int32} : ∀ (n : Nat) (l1 : Int32) (l2 : Int32) (l3 : Int32), YM_isShared_L4 h n l1 l2 l3 = some r → sd_J G X (sd_QR G X M_YM_isShared (some (.int r), sd_F h)) M_YM_isShared 4 [(0, .ref (G.1 + 126)), (1, .int l1), (2, .int l2), (3, .int l3)] [] (sd_F h) := by
  intro n
  induction n with
  | zero =>
    intro l1 l2 l3 hf
    rw [YM_isShared_L4] at hf
    cases hf
  | succ n ih =>
    intro l1 l2 l3 hf
    rw [YM_isShared_L4] at hf
    refine sd_iload_n (k := 3) (i := 3) (q := 3) (pc' := 5) (by decide +kernel) rfl rfl ?_
    refine sd_aload_n (k := 0) (i := 0) (q := 0) (pc' := 6) (by decide +kernel) rfl rfl ?_
    refine sF_gi (idx := 154) (ci := 12) (k := 6) (n := 47) (pc' := 9) (by decide +kernel) fl_X12_154 (by decide +kernel) rfl SH_126 ?_
    refine sd_icmp_ge (off := 75) (tgt := 84) (pc' := 12) (by decide +kernel) (fun c1 => ?_) (fun c1 => ?_)
    · replace hf := ite_p c1 hf
      refine sd_iload_n (k := 2) (i := 2) (q := 2) (pc' := 85) (by decide +kernel) rfl rfl ?_
      obtain ⟨g2, hf⟩ := gd_some hf
      obtain rfl := Option.some.inj hf
      exact sd_zret (by decide +kernel) rfl g2 (hE _)
    · replace hf := ite_n c1 hf
      refine sd_iconst (n := 0) (v := 0) (pc' := 13) (by decide +kernel) (by decide) ?_
      refine sd_istore (i := 4) (pc' := 15) (lo' := [(4, .int 0), (0, .ref (G.1 + 126)), (1, .int l1), (2, .int l2), (3, .int l3)]) (by decide +kernel) (by decide) rfl ?_
      refine sd_J.sub (lo' := [(0, .ref (G.1 + 126)), (1, .int l1), (2, .int l2), (3, .int l3), (4, .int 0)]) [1, 2, 3, 4, 0] rfl ?_
      exact J_YM_isShared_L15 hE ih _ _ _ _ _ hf
def YM_isShared (h : sd_H) (a0 : Int32) : Option Int32 :=
  YM_isShared_L4 h FU a0 1 0
set_option maxHeartbeats 4000000 in
set_option maxRecDepth 100000 in
theorem T_YM_isShared {G : sd_GX} {h : sd_H} {a0 : Int32} {r : Int32} (hf : YM_isShared h a0 = some r) : sd_RunF G M_YM_isShared [.ref (G.1 + 126), .int a0] h (some (.int r)) h := by
  refine sF_run ⟨rfl, rfl⟩ (by decide +kernel) (Nat.le_of_ble_eq_true rfl) (lo := [(0, .ref (G.1 + 126)), (1, .int a0)]) rfl (fun X hE => ?_)
  unfold YM_isShared at hf
  refine sd_iconst (n := 1) (v := 1) (pc' := 1) (by decide +kernel) (by decide) ?_
  refine sd_istore_n (k := 2) (i := 2) (pc' := 2) (lo' := [(2, .int 1), (0, .ref (G.1 + 126)), (1, .int a0)]) (by decide +kernel) rfl (by decide) rfl ?_
  refine sd_iconst (n := 0) (v := 0) (pc' := 3) (by decide +kernel) (by decide) ?_
  refine sd_istore_n (k := 3) (i := 3) (pc' := 4) (lo' := [(3, .int 0), (2, .int 1), (0, .ref (G.1 + 126)), (1, .int a0)]) (by decide +kernel) rfl (by decide) rfl ?_
  refine sd_J.sub (lo' := [(0, .ref (G.1 + 126)), (1, .int a0), (2, .int 1), (3, .int 0)]) [2, 3, 1, 0] rfl ?_
  exact J_YM_isShared_L4 hE _ _ _ _ hf

def M_YM_isAbout : sd_MX := (yX12_isAbout, cX12_isAbout, 3, (some .boolean), { frames := 1, cells := 0, slots := 0, locals := 40 })
def YM_isAbout_B51 (h : sd_H) : Option Int32 :=
  some 1
set_option maxHeartbeats 4000000 in
set_option maxRecDepth 100000 in
theorem J_YM_isAbout_B51 {G : sd_GX} {X : sd_CX} (hE : ∀ g : sd_H, sd_end G X M_YM_isAbout (sd_F g)) {h : sd_H} {r : Int32} (hf : YM_isAbout_B51 h = some r) : sd_J G X (sd_QR G X M_YM_isAbout (some (.int r), sd_F h)) M_YM_isAbout 51 [] [] (sd_F h) := by
  unfold YM_isAbout_B51 at hf
  refine sd_iconst (n := 1) (v := 1) (pc' := 52) (by decide +kernel) (by decide) ?_
  refine sd_goto (off := 4) (tgt := 56) (pc' := 55) (by decide +kernel) ?_
  obtain rfl := Option.some.inj hf
  exact sd_zret (by decide +kernel) rfl rfl (hE _)
def YM_isAbout (h : sd_H) (a0 : Int32) (a1 : Int32) : Option Int32 :=
  gd (sd_inB (3 * a0) 15) ((if (h.1 137 ((3 * a0) : Int32).toNatClampNeg) = a1 then YM_isAbout_B51 h else gd (sd_inB ((3 * a0) + 1) 15) ((if (h.1 137 (((3 * a0) + 1) : Int32).toNatClampNeg) = a1 then YM_isAbout_B51 h else gd (sd_inB ((3 * a0) + 2) 15) ((if (h.1 137 (((3 * a0) + 2) : Int32).toNatClampNeg) = a1 then gd (sd_inB a0 5) ((if (h.1 132 (a0 : Int32).toNatClampNeg) = 9 then some 0 else YM_isAbout_B51 h)) else some 0))))))
set_option maxHeartbeats 4000000 in
set_option maxRecDepth 100000 in
theorem T_YM_isAbout {G : sd_GX} {h : sd_H} {a0 : Int32} {a1 : Int32} {r : Int32} (hf : YM_isAbout h a0 a1 = some r) : sd_RunF G M_YM_isAbout [.ref (G.1 + 126), .int a0, .int a1] h (some (.int r)) h := by
  refine sF_run ⟨rfl, rfl⟩ (by decide +kernel) (Nat.le_of_ble_eq_true rfl) (lo := [(0, .ref (G.1 + 126)), (1, .int a0), (2, .int a1)]) rfl (fun X hE => ?_)
  unfold YM_isAbout at hf
  refine sd_aload_n (k := 0) (i := 0) (q := 0) (pc' := 1) (by decide +kernel) rfl rfl ?_
  refine sF_gr (idx := 41) (ci := 12) (k := 13) (n := 47) (r := 137) (pc' := 4) (by decide +kernel) fl_X12_41 (by decide +kernel) rfl SH_126 (by decide) (by decide +kernel) ?_
  refine sd_iconst (n := 3) (v := 3) (pc' := 5) (by decide +kernel) (by decide) ?_
  refine sd_iload_n (k := 1) (i := 1) (q := 1) (pc' := 6) (by decide +kernel) rfl rfl ?_
  refine sd_imul (pc' := 7) (by decide +kernel) ?_
  obtain ⟨g1, hf⟩ := gd_some hf
  refine sF_iald (n := 15) (pc' := 8) (by decide +kernel) SH_137 g1 ?_
  refine sd_iload_n (k := 2) (i := 2) (q := 2) (pc' := 9) (by decide +kernel) rfl rfl ?_
  refine sd_icmp_eq (off := 42) (tgt := 51) (pc' := 12) (by decide +kernel) (fun c2 => ?_) (fun c2 => ?_)
  · replace hf := ite_p c2 hf
    refine sd_J.sub (lo' := []) [] rfl ?_
    exact J_YM_isAbout_B51 hE hf
  · replace hf := ite_n c2 hf
    refine sd_aload_n (k := 0) (i := 0) (q := 0) (pc' := 13) (by decide +kernel) rfl rfl ?_
    refine sF_gr (idx := 41) (ci := 12) (k := 13) (n := 47) (r := 137) (pc' := 16) (by decide +kernel) fl_X12_41 (by decide +kernel) rfl SH_126 (by decide) (by decide +kernel) ?_
    refine sd_iconst (n := 3) (v := 3) (pc' := 17) (by decide +kernel) (by decide) ?_
    refine sd_iload_n (k := 1) (i := 1) (q := 1) (pc' := 18) (by decide +kernel) rfl rfl ?_
    refine sd_imul (pc' := 19) (by decide +kernel) ?_
    refine sd_iconst (n := 1) (v := 1) (pc' := 20) (by decide +kernel) (by decide) ?_
    refine sd_iadd (pc' := 21) (by decide +kernel) ?_
    obtain ⟨g3, hf⟩ := gd_some hf
    refine sF_iald (n := 15) (pc' := 22) (by decide +kernel) SH_137 g3 ?_
    refine sd_iload_n (k := 2) (i := 2) (q := 2) (pc' := 23) (by decide +kernel) rfl rfl ?_
    refine sd_icmp_eq (off := 28) (tgt := 51) (pc' := 26) (by decide +kernel) (fun c4 => ?_) (fun c4 => ?_)
    · replace hf := ite_p c4 hf
      refine sd_J.sub (lo' := []) [] rfl ?_
      exact J_YM_isAbout_B51 hE hf
    · replace hf := ite_n c4 hf
      refine sd_aload_n (k := 0) (i := 0) (q := 0) (pc' := 27) (by decide +kernel) rfl rfl ?_
      refine sF_gr (idx := 41) (ci := 12) (k := 13) (n := 47) (r := 137) (pc' := 30) (by decide +kernel) fl_X12_41 (by decide +kernel) rfl SH_126 (by decide) (by decide +kernel) ?_
      refine sd_iconst (n := 3) (v := 3) (pc' := 31) (by decide +kernel) (by decide) ?_
      refine sd_iload_n (k := 1) (i := 1) (q := 1) (pc' := 32) (by decide +kernel) rfl rfl ?_
      refine sd_imul (pc' := 33) (by decide +kernel) ?_
      refine sd_iconst (n := 2) (v := 2) (pc' := 34) (by decide +kernel) (by decide) ?_
      refine sd_iadd (pc' := 35) (by decide +kernel) ?_
      obtain ⟨g5, hf⟩ := gd_some hf
      refine sF_iald (n := 15) (pc' := 36) (by decide +kernel) SH_137 g5 ?_
      refine sd_iload_n (k := 2) (i := 2) (q := 2) (pc' := 37) (by decide +kernel) rfl rfl ?_
      refine sd_icmp_ne (off := 18) (tgt := 55) (pc' := 40) (by decide +kernel) (fun c6 => ?_) (fun c6 => ?_)
      · replace hf := ite_n c6 hf
        refine sd_iconst (n := 0) (v := 0) (pc' := 56) (by decide +kernel) (by decide) ?_
        obtain rfl := Option.some.inj hf
        exact sd_zret (by decide +kernel) rfl rfl (hE _)
      · replace hf := ite_p c6 hf
        refine sd_aload_n (k := 0) (i := 0) (q := 0) (pc' := 41) (by decide +kernel) rfl rfl ?_
        refine sF_gr (idx := 26) (ci := 12) (k := 8) (n := 47) (r := 132) (pc' := 44) (by decide +kernel) fl_X12_26 (by decide +kernel) rfl SH_126 (by decide) (by decide +kernel) ?_
        refine sd_iload_n (k := 1) (i := 1) (q := 1) (pc' := 45) (by decide +kernel) rfl rfl ?_
        obtain ⟨g7, hf⟩ := gd_some hf
        refine sF_iald (n := 5) (pc' := 46) (by decide +kernel) SH_132 g7 ?_
        refine sd_bipush (n := 9) (v := 9) (pc' := 48) (by decide +kernel) (by decide) ?_
        refine sd_icmp_eq (off := 7) (tgt := 55) (pc' := 51) (by decide +kernel) (fun c8 => ?_) (fun c8 => ?_)
        · replace hf := ite_p c8 hf
          refine sd_iconst (n := 0) (v := 0) (pc' := 56) (by decide +kernel) (by decide) ?_
          obtain rfl := Option.some.inj hf
          exact sd_zret (by decide +kernel) rfl rfl (hE _)
        · replace hf := ite_n c8 hf
          refine sd_J.sub (lo' := []) [] rfl ?_
          exact J_YM_isAbout_B51 hE hf

theorem ml_X12_295 : Cond.methodLink RX12 295 yX12_isAbout ∈ sd_tb := sd_mem (i := 1577) (by decide +kernel)
theorem mv_YM_isAbout : sd_mV M_YM_isAbout 2 := ⟨sd_mem (i := 1579) (by decide +kernel), sd_mem (i := 78) (by decide +kernel), ⟨sd_mem (i := 1580) (by decide +kernel), sd_mem (i := 119) (by decide +kernel), by decide +kernel, by decide +kernel, by decide +kernel⟩⟩
def M_YM_isGathered : sd_MX := (yX12_isGathered, cX12_isGathered, 8, (some .boolean), { frames := 4, cells := 0, slots := 0, locals := 112 })
def YM_isGathered_B84 (h : sd_H) (K9 : Int32 → Int32 → Int32 → Int32 → Int32 → Int32 → Option Int32) (l1 : Int32) (l2 : Int32) (l3 : Int32) (l4 : Int32) (l5 : Int32) (l6 : Int32) : Option Int32 :=
  K9 l1 l2 l3 l4 l5 (l6 + 1)
set_option maxHeartbeats 4000000 in
set_option maxRecDepth 100000 in
theorem J_YM_isGathered_B84 {G : sd_GX} {X : sd_CX} (hE : ∀ g : sd_H, sd_end G X M_YM_isGathered (sd_F g)) {h : sd_H} {K9 : Int32 → Int32 → Int32 → Int32 → Int32 → Int32 → Option Int32} {r : Int32} (hK9 : ∀ (l1 : Int32) (l2 : Int32) (l3 : Int32) (l4 : Int32) (l5 : Int32) (l6 : Int32), K9 l1 l2 l3 l4 l5 l6 = some r → sd_J G X (sd_QR G X M_YM_isGathered (some (.int r), sd_F h)) M_YM_isGathered 9 [(0, .ref (G.1 + 126)), (1, .int l1), (2, .int l2), (3, .int l3), (4, .int l4), (5, .int l5), (6, .int l6)] [] (sd_F h)) {l1 : Int32} {l2 : Int32} {l3 : Int32} {l4 : Int32} {l5 : Int32} {l6 : Int32} (hf : YM_isGathered_B84 h K9 l1 l2 l3 l4 l5 l6 = some r) : sd_J G X (sd_QR G X M_YM_isGathered (some (.int r), sd_F h)) M_YM_isGathered 84 [(0, .ref (G.1 + 126)), (1, .int l1), (2, .int l2), (3, .int l3), (4, .int l4), (5, .int l5), (6, .int l6)] [] (sd_F h) := by
  unfold YM_isGathered_B84 at hf
  refine sd_iinc (i := 6) (q := 6) (n := 1) (v := (l6 + 1)) (pc' := 87) (lo' := [(6, .int (l6 + 1)), (0, .ref (G.1 + 126)), (1, .int l1), (2, .int l2), (3, .int l3), (4, .int l4), (5, .int l5)]) (by decide +kernel) rfl rfl (by decide) rfl ?_
  refine sd_goto (off := -78) (tgt := 9) (pc' := 90) (by decide +kernel) ?_
  refine sd_J.sub (lo' := [(0, .ref (G.1 + 126)), (1, .int l1), (2, .int l2), (3, .int l3), (4, .int l4), (5, .int l5), (6, .int (l6 + 1))]) [1, 2, 3, 4, 5, 6, 0] rfl ?_
  exact hK9 _ _ _ _ _ _ hf
def YM_isGathered_B78 (h : sd_H) (K9 : Int32 → Int32 → Int32 → Int32 → Int32 → Int32 → Option Int32) (l1 : Int32) (l2 : Int32) (l3 : Int32) (l6 : Int32) (l7 : Int32) (s0 : Int32) : Option Int32 :=
  YM_isGathered_B84 h K9 l1 l2 l3 l7 s0 l6
set_option maxHeartbeats 4000000 in
set_option maxRecDepth 100000 in
theorem J_YM_isGathered_B78 {G : sd_GX} {X : sd_CX} (hE : ∀ g : sd_H, sd_end G X M_YM_isGathered (sd_F g)) {h : sd_H} {K9 : Int32 → Int32 → Int32 → Int32 → Int32 → Int32 → Option Int32} {r : Int32} (hK9 : ∀ (l1 : Int32) (l2 : Int32) (l3 : Int32) (l4 : Int32) (l5 : Int32) (l6 : Int32), K9 l1 l2 l3 l4 l5 l6 = some r → sd_J G X (sd_QR G X M_YM_isGathered (some (.int r), sd_F h)) M_YM_isGathered 9 [(0, .ref (G.1 + 126)), (1, .int l1), (2, .int l2), (3, .int l3), (4, .int l4), (5, .int l5), (6, .int l6)] [] (sd_F h)) {l1 : Int32} {l2 : Int32} {l3 : Int32} {l6 : Int32} {l7 : Int32} {s0 : Int32} (hf : YM_isGathered_B78 h K9 l1 l2 l3 l6 l7 s0 = some r) : sd_J G X (sd_QR G X M_YM_isGathered (some (.int r), sd_F h)) M_YM_isGathered 78 [(0, .ref (G.1 + 126)), (1, .int l1), (2, .int l2), (3, .int l3), (6, .int l6), (7, .int l7)] [.int s0] (sd_F h) := by
  unfold YM_isGathered_B78 at hf
  refine sd_istore (i := 5) (pc' := 80) (lo' := [(5, .int s0), (0, .ref (G.1 + 126)), (1, .int l1), (2, .int l2), (3, .int l3), (6, .int l6), (7, .int l7)]) (by decide +kernel) (by decide) rfl ?_
  refine sd_iload (i := 7) (q := 6) (pc' := 82) (by decide +kernel) rfl ?_
  refine sd_istore (i := 4) (pc' := 84) (lo' := [(4, .int l7), (5, .int s0), (0, .ref (G.1 + 126)), (1, .int l1), (2, .int l2), (3, .int l3), (6, .int l6), (7, .int l7)]) (by decide +kernel) (by decide) rfl ?_
  refine sd_J.sub (lo' := [(0, .ref (G.1 + 126)), (1, .int l1), (2, .int l2), (3, .int l3), (4, .int l7), (5, .int s0), (6, .int l6)]) [2, 3, 4, 5, 0, 1, 6] rfl ?_
  exact J_YM_isGathered_B84 hE hK9 hf
def YM_isGathered_B77 (h : sd_H) (K9 : Int32 → Int32 → Int32 → Int32 → Int32 → Int32 → Option Int32) (l1 : Int32) (l2 : Int32) (l3 : Int32) (l6 : Int32) (l7 : Int32) : Option Int32 :=
  YM_isGathered_B78 h K9 l1 l2 l3 l6 l7 0
set_option maxHeartbeats 4000000 in
set_option maxRecDepth 100000 in
theorem J_YM_isGathered_B77 {G : sd_GX} {X : sd_CX} (hE : ∀ g : sd_H, sd_end G X M_YM_isGathered (sd_F g)) {h : sd_H} {K9 : Int32 → Int32 → Int32 → Int32 → Int32 → Int32 → Option Int32} {r : Int32} (hK9 : ∀ (l1 : Int32) (l2 : Int32) (l3 : Int32) (l4 : Int32) (l5 : Int32) (l6 : Int32), K9 l1 l2 l3 l4 l5 l6 = some r → sd_J G X (sd_QR G X M_YM_isGathered (some (.int r), sd_F h)) M_YM_isGathered 9 [(0, .ref (G.1 + 126)), (1, .int l1), (2, .int l2), (3, .int l3), (4, .int l4), (5, .int l5), (6, .int l6)] [] (sd_F h)) {l1 : Int32} {l2 : Int32} {l3 : Int32} {l6 : Int32} {l7 : Int32} (hf : YM_isGathered_B77 h K9 l1 l2 l3 l6 l7 = some r) : sd_J G X (sd_QR G X M_YM_isGathered (some (.int r), sd_F h)) M_YM_isGathered 77 [(0, .ref (G.1 + 126)), (1, .int l1), (2, .int l2), (3, .int l3), (6, .int l6), (7, .int l7)] [] (sd_F h) := by
  unfold YM_isGathered_B77 at hf
  refine sd_iconst (n := 0) (v := 0) (pc' := 78) (by decide +kernel) (by decide) ?_
  refine sd_J.sub (lo' := [(0, .ref (G.1 + 126)), (1, .int l1), (2, .int l2), (3, .int l3), (6, .int l6), (7, .int l7)]) [0, 1, 2, 3, 4, 5] rfl ?_
  exact J_YM_isGathered_B78 hE hK9 hf
def YM_isGathered_B73 (h : sd_H) (K9 : Int32 → Int32 → Int32 → Int32 → Int32 → Int32 → Option Int32) (l1 : Int32) (l2 : Int32) (l3 : Int32) (l6 : Int32) (l7 : Int32) : Option Int32 :=
  YM_isGathered_B78 h K9 l1 l2 l3 l6 l7 1
set_option maxHeartbeats 4000000 in
set_option maxRecDepth 100000 in
theorem J_YM_isGathered_B73 {G : sd_GX} {X : sd_CX} (hE : ∀ g : sd_H, sd_end G X M_YM_isGathered (sd_F g)) {h : sd_H} {K9 : Int32 → Int32 → Int32 → Int32 → Int32 → Int32 → Option Int32} {r : Int32} (hK9 : ∀ (l1 : Int32) (l2 : Int32) (l3 : Int32) (l4 : Int32) (l5 : Int32) (l6 : Int32), K9 l1 l2 l3 l4 l5 l6 = some r → sd_J G X (sd_QR G X M_YM_isGathered (some (.int r), sd_F h)) M_YM_isGathered 9 [(0, .ref (G.1 + 126)), (1, .int l1), (2, .int l2), (3, .int l3), (4, .int l4), (5, .int l5), (6, .int l6)] [] (sd_F h)) {l1 : Int32} {l2 : Int32} {l3 : Int32} {l6 : Int32} {l7 : Int32} (hf : YM_isGathered_B73 h K9 l1 l2 l3 l6 l7 = some r) : sd_J G X (sd_QR G X M_YM_isGathered (some (.int r), sd_F h)) M_YM_isGathered 73 [(0, .ref (G.1 + 126)), (1, .int l1), (2, .int l2), (3, .int l3), (6, .int l6), (7, .int l7)] [] (sd_F h) := by
  unfold YM_isGathered_B73 at hf
  refine sd_iconst (n := 1) (v := 1) (pc' := 74) (by decide +kernel) (by decide) ?_
  refine sd_goto (off := 4) (tgt := 78) (pc' := 77) (by decide +kernel) ?_
  refine sd_J.sub (lo' := [(0, .ref (G.1 + 126)), (1, .int l1), (2, .int l2), (3, .int l3), (6, .int l6), (7, .int l7)]) [0, 1, 2, 3, 4, 5] rfl ?_
  exact J_YM_isGathered_B78 hE hK9 hf
def YM_isGathered_L9 (h : sd_H) : Nat → Int32 → Int32 → Int32 → Int32 → Int32 → Int32 → Option Int32
  | 0, _, _, _, _, _, _ => none
  | n + 1, l1, l2, l3, l4, l5, l6 =>
  (if (h.1 126 7) ≤ l6 then (if l5 = 0 then some 0 else (if l4 ≤ 0 then some 0 else some 1)) else b1 (YM_isAbout h l6 l1) (fun t5 => (if t5 = 0 then YM_isGathered_B84 h (YM_isGathered_L9 h n) l1 l2 l3 l4 l5 l6 else b1 (YM_familyAs h l6 l2 l3) (fun t8 => (if l5 = 0 then YM_isGathered_B77 h (YM_isGathered_L9 h n) l1 l2 l3 l6 t8 else gd (sd_inB (3 * l6) 15) ((if (h.1 137 ((3 * l6) : Int32).toNatClampNeg) = l1 then (if t8 ≤ 0 then YM_isGathered_B77 h (YM_isGathered_L9 h n) l1 l2 l3 l6 t8 else (if l4 = 0 then YM_isGathered_B73 h (YM_isGathered_L9 h n) l1 l2 l3 l6 t8 else (if l4 = t8 then YM_isGathered_B73 h (YM_isGathered_L9 h n) l1 l2 l3 l6 t8 else YM_isGathered_B77 h (YM_isGathered_L9 h n) l1 l2 l3 l6 t8))) else YM_isGathered_B77 h (YM_isGathered_L9 h n) l1 l2 l3 l6 t8)))))))
set_option maxHeartbeats 4000000 in
set_option maxRecDepth 100000 in
theorem J_YM_isGathered_L9 {G : sd_GX} {X : sd_CX} (hE : ∀ g : sd_H, sd_end G X M_YM_isGathered (sd_F g)) {h : sd_H} {r : Int32} : ∀ (n : Nat) (l1 : Int32) (l2 : Int32) (l3 : Int32) (l4 : Int32) (l5 : Int32) (l6 : Int32), YM_isGathered_L9 h n l1 l2 l3 l4 l5 l6 = some r → sd_J G X (sd_QR G X M_YM_isGathered (some (.int r), sd_F h)) M_YM_isGathered 9 [(0, .ref (G.1 + 126)), (1, .int l1), (2, .int l2), (3, .int l3), (4, .int l4), (5, .int l5), (6, .int l6)] [] (sd_F h) := by
  intro n
  induction n with
  | zero =>
    intro l1 l2 l3 l4 l5 l6 hf
    rw [YM_isGathered_L9] at hf
    cases hf
  | succ n ih =>
    intro l1 l2 l3 l4 l5 l6 hf
    rw [YM_isGathered_L9] at hf
    refine sd_iload (i := 6) (q := 6) (pc' := 11) (by decide +kernel) rfl ?_
    refine sd_aload_n (k := 0) (i := 0) (q := 0) (pc' := 12) (by decide +kernel) rfl rfl ?_
    refine sF_gi (idx := 171) (ci := 12) (k := 7) (n := 47) (pc' := 15) (by decide +kernel) fl_X12_171 (by decide +kernel) rfl SH_126 ?_
    refine sd_icmp_ge (off := 75) (tgt := 90) (pc' := 18) (by decide +kernel) (fun c1 => ?_) (fun c1 => ?_)
    · replace hf := ite_p c1 hf
      refine sd_iload (i := 5) (q := 5) (pc' := 92) (by decide +kernel) rfl ?_
      refine sd_if_eq (off := 12) (tgt := 104) (pc' := 95) (by decide +kernel) (fun c2 => ?_) (fun c2 => ?_)
      · replace hf := ite_p c2 hf
        refine sd_iconst (n := 0) (v := 0) (pc' := 105) (by decide +kernel) (by decide) ?_
        obtain rfl := Option.some.inj hf
        exact sd_zret (by decide +kernel) rfl rfl (hE _)
      · replace hf := ite_n c2 hf
        refine sd_iload (i := 4) (q := 4) (pc' := 97) (by decide +kernel) rfl ?_
        refine sd_if_le (off := 7) (tgt := 104) (pc' := 100) (by decide +kernel) (fun c3 => ?_) (fun c3 => ?_)
        · replace hf := ite_p c3 hf
          refine sd_iconst (n := 0) (v := 0) (pc' := 105) (by decide +kernel) (by decide) ?_
          obtain rfl := Option.some.inj hf
          exact sd_zret (by decide +kernel) rfl rfl (hE _)
        · replace hf := ite_n c3 hf
          refine sd_iconst (n := 1) (v := 1) (pc' := 101) (by decide +kernel) (by decide) ?_
          refine sd_goto (off := 4) (tgt := 105) (pc' := 104) (by decide +kernel) ?_
          obtain rfl := Option.some.inj hf
          exact sd_zret (by decide +kernel) rfl rfl (hE _)
    · replace hf := ite_n c1 hf
      refine sd_aload_n (k := 0) (i := 0) (q := 0) (pc' := 19) (by decide +kernel) rfl rfl ?_
      refine sd_iload (i := 6) (q := 6) (pc' := 21) (by decide +kernel) rfl ?_
      refine sd_iload_n (k := 1) (i := 1) (q := 1) (pc' := 22) (by decide +kernel) rfl rfl ?_
      obtain ⟨t5, q4, hf⟩ := b1_some hf
      refine sF_callV (idx := 295) (b := 126) (As := [.int l6, .int l1]) (ci := 12) (nn := 47) (pc' := 25) 2 (T_YM_isAbout (G := G) (h := h)  q4) (by decide +kernel) mv_YM_isAbout ml_X12_295 (by decide +kernel) rfl rfl (Nat.le_of_ble_eq_true rfl) SH_126 rfl (by decide) rfl rfl ?_
      refine sd_if_eq (off := 59) (tgt := 84) (pc' := 28) (by decide +kernel) (fun c6 => ?_) (fun c6 => ?_)
      · replace hf := ite_p c6 hf
        refine sd_J.sub (lo' := [(0, .ref (G.1 + 126)), (1, .int l1), (2, .int l2), (3, .int l3), (4, .int l4), (5, .int l5), (6, .int l6)]) [0, 1, 2, 3, 4, 5, 6] rfl ?_
        exact J_YM_isGathered_B84 hE ih hf
      · replace hf := ite_n c6 hf
        refine sd_aload_n (k := 0) (i := 0) (q := 0) (pc' := 29) (by decide +kernel) rfl rfl ?_
        refine sd_iload (i := 6) (q := 6) (pc' := 31) (by decide +kernel) rfl ?_
        refine sd_iload_n (k := 2) (i := 2) (q := 2) (pc' := 32) (by decide +kernel) rfl rfl ?_
        refine sd_iload_n (k := 3) (i := 3) (q := 3) (pc' := 33) (by decide +kernel) rfl rfl ?_
        obtain ⟨t8, q7, hf⟩ := b1_some hf
        refine sF_callV (idx := 188) (b := 126) (As := [.int l6, .int l2, .int l3]) (ci := 12) (nn := 47) (pc' := 36) 3 (T_YM_familyAs (G := G) (h := h)  q7) (by decide +kernel) mv_YM_familyAs ml_X12_188 (by decide +kernel) rfl rfl (Nat.le_of_ble_eq_true rfl) SH_126 rfl (by decide) rfl rfl ?_
        refine sd_istore (i := 7) (pc' := 38) (lo' := [(7, .int t8), (0, .ref (G.1 + 126)), (1, .int l1), (2, .int l2), (3, .int l3), (4, .int l4), (5, .int l5), (6, .int l6)]) (by decide +kernel) (by decide) rfl ?_
        refine sd_iload (i := 5) (q := 6) (pc' := 40) (by decide +kernel) rfl ?_
        refine sd_if_eq (off := 37) (tgt := 77) (pc' := 43) (by decide +kernel) (fun c9 => ?_) (fun c9 => ?_)
        · replace hf := ite_p c9 hf
          refine sd_J.sub (lo' := [(0, .ref (G.1 + 126)), (1, .int l1), (2, .int l2), (3, .int l3), (6, .int l6), (7, .int t8)]) [1, 2, 3, 4, 7, 0] rfl ?_
          exact J_YM_isGathered_B77 hE ih hf
        · replace hf := ite_n c9 hf
          refine sd_aload_n (k := 0) (i := 0) (q := 1) (pc' := 44) (by decide +kernel) rfl rfl ?_
          refine sF_gr (idx := 41) (ci := 12) (k := 13) (n := 47) (r := 137) (pc' := 47) (by decide +kernel) fl_X12_41 (by decide +kernel) rfl SH_126 (by decide) (by decide +kernel) ?_
          refine sd_iconst (n := 3) (v := 3) (pc' := 48) (by decide +kernel) (by decide) ?_
          refine sd_iload (i := 6) (q := 7) (pc' := 50) (by decide +kernel) rfl ?_
          refine sd_imul (pc' := 51) (by decide +kernel) ?_
          obtain ⟨g10, hf⟩ := gd_some hf
          refine sF_iald (n := 15) (pc' := 52) (by decide +kernel) SH_137 g10 ?_
          refine sd_iload_n (k := 1) (i := 1) (q := 2) (pc' := 53) (by decide +kernel) rfl rfl ?_
          refine sd_icmp_ne (off := 24) (tgt := 77) (pc' := 56) (by decide +kernel) (fun c11 => ?_) (fun c11 => ?_)
          · replace hf := ite_n c11 hf
            refine sd_J.sub (lo' := [(0, .ref (G.1 + 126)), (1, .int l1), (2, .int l2), (3, .int l3), (6, .int l6), (7, .int t8)]) [1, 2, 3, 4, 7, 0] rfl ?_
            exact J_YM_isGathered_B77 hE ih hf
          · replace hf := ite_p c11 hf
            refine sd_iload (i := 7) (q := 0) (pc' := 58) (by decide +kernel) rfl ?_
            refine sd_if_le (off := 19) (tgt := 77) (pc' := 61) (by decide +kernel) (fun c12 => ?_) (fun c12 => ?_)
            · replace hf := ite_p c12 hf
              refine sd_J.sub (lo' := [(0, .ref (G.1 + 126)), (1, .int l1), (2, .int l2), (3, .int l3), (6, .int l6), (7, .int t8)]) [1, 2, 3, 4, 7, 0] rfl ?_
              exact J_YM_isGathered_B77 hE ih hf
            · replace hf := ite_n c12 hf
              refine sd_iload (i := 4) (q := 5) (pc' := 63) (by decide +kernel) rfl ?_
              refine sd_if_eq (off := 10) (tgt := 73) (pc' := 66) (by decide +kernel) (fun c13 => ?_) (fun c13 => ?_)
              · replace hf := ite_p c13 hf
                refine sd_J.sub (lo' := [(0, .ref (G.1 + 126)), (1, .int l1), (2, .int l2), (3, .int l3), (6, .int l6), (7, .int t8)]) [1, 2, 3, 4, 7, 0] rfl ?_
                exact J_YM_isGathered_B73 hE ih hf
              · replace hf := ite_n c13 hf
                refine sd_iload (i := 4) (q := 5) (pc' := 68) (by decide +kernel) rfl ?_
                refine sd_iload (i := 7) (q := 0) (pc' := 70) (by decide +kernel) rfl ?_
                refine sd_icmp_ne (off := 7) (tgt := 77) (pc' := 73) (by decide +kernel) (fun c14 => ?_) (fun c14 => ?_)
                · replace hf := ite_n c14 hf
                  refine sd_J.sub (lo' := [(0, .ref (G.1 + 126)), (1, .int l1), (2, .int l2), (3, .int l3), (6, .int l6), (7, .int t8)]) [1, 2, 3, 4, 7, 0] rfl ?_
                  exact J_YM_isGathered_B77 hE ih hf
                · replace hf := ite_p c14 hf
                  refine sd_J.sub (lo' := [(0, .ref (G.1 + 126)), (1, .int l1), (2, .int l2), (3, .int l3), (6, .int l6), (7, .int t8)]) [1, 2, 3, 4, 7, 0] rfl ?_
                  exact J_YM_isGathered_B73 hE ih hf
def YM_isGathered (h : sd_H) (a0 : Int32) (a1 : Int32) (a2 : Int32) : Option Int32 :=
  YM_isGathered_L9 h FU a0 a1 a2 0 1 0
set_option maxHeartbeats 4000000 in
set_option maxRecDepth 100000 in
theorem T_YM_isGathered {G : sd_GX} {h : sd_H} {a0 : Int32} {a1 : Int32} {a2 : Int32} {r : Int32} (hf : YM_isGathered h a0 a1 a2 = some r) : sd_RunF G M_YM_isGathered [.ref (G.1 + 126), .int a0, .int a1, .int a2] h (some (.int r)) h := by
  refine sF_run ⟨rfl, rfl⟩ (by decide +kernel) (Nat.le_of_ble_eq_true rfl) (lo := [(0, .ref (G.1 + 126)), (1, .int a0), (2, .int a1), (3, .int a2)]) rfl (fun X hE => ?_)
  unfold YM_isGathered at hf
  refine sd_iconst (n := 0) (v := 0) (pc' := 1) (by decide +kernel) (by decide) ?_
  refine sd_istore (i := 4) (pc' := 3) (lo' := [(4, .int 0), (0, .ref (G.1 + 126)), (1, .int a0), (2, .int a1), (3, .int a2)]) (by decide +kernel) (by decide) rfl ?_
  refine sd_iconst (n := 1) (v := 1) (pc' := 4) (by decide +kernel) (by decide) ?_
  refine sd_istore (i := 5) (pc' := 6) (lo' := [(5, .int 1), (4, .int 0), (0, .ref (G.1 + 126)), (1, .int a0), (2, .int a1), (3, .int a2)]) (by decide +kernel) (by decide) rfl ?_
  refine sd_iconst (n := 0) (v := 0) (pc' := 7) (by decide +kernel) (by decide) ?_
  refine sd_istore (i := 6) (pc' := 9) (lo' := [(6, .int 0), (5, .int 1), (4, .int 0), (0, .ref (G.1 + 126)), (1, .int a0), (2, .int a1), (3, .int a2)]) (by decide +kernel) (by decide) rfl ?_
  refine sd_J.sub (lo' := [(0, .ref (G.1 + 126)), (1, .int a0), (2, .int a1), (3, .int a2), (4, .int 0), (5, .int 1), (6, .int 0)]) [3, 4, 5, 6, 2, 1, 0] rfl ?_
  exact J_YM_isGathered_L9 hE _ _ _ _ _ _ _ hf

def M_YM_isCopied : sd_MX := (yX12_isCopied, cX12_isCopied, 5, (some .boolean), { frames := 2, cells := 0, slots := 0, locals := 63 })
def YM_isCopied_B38 (h : sd_H) (K7 : Int32 → Int32 → Int32 → Int32 → Option Int32) (l1 : Int32) (l3 : Int32) (l4 : Int32) (s0 : Int32) : Option Int32 :=
  b1 (YM_bitsOfTurn h 1 l1 l4) (fun t5 => K7 l1 s0 (l3 ||| t5) (l4 + 1))
set_option maxHeartbeats 4000000 in
set_option maxRecDepth 100000 in
theorem J_YM_isCopied_B38 {G : sd_GX} {X : sd_CX} (hE : ∀ g : sd_H, sd_end G X M_YM_isCopied (sd_F g)) {h : sd_H} {K7 : Int32 → Int32 → Int32 → Int32 → Option Int32} {r : Int32} (hK7 : ∀ (l1 : Int32) (l2 : Int32) (l3 : Int32) (l4 : Int32), K7 l1 l2 l3 l4 = some r → sd_J G X (sd_QR G X M_YM_isCopied (some (.int r), sd_F h)) M_YM_isCopied 7 [(0, .ref (G.1 + 126)), (1, .int l1), (2, .int l2), (3, .int l3), (4, .int l4)] [] (sd_F h)) {l1 : Int32} {l3 : Int32} {l4 : Int32} {s0 : Int32} (hf : YM_isCopied_B38 h K7 l1 l3 l4 s0 = some r) : sd_J G X (sd_QR G X M_YM_isCopied (some (.int r), sd_F h)) M_YM_isCopied 38 [(0, .ref (G.1 + 126)), (1, .int l1), (3, .int l3), (4, .int l4)] [.int s0] (sd_F h) := by
  unfold YM_isCopied_B38 at hf
  refine sd_istore_n (k := 2) (i := 2) (pc' := 39) (lo' := [(2, .int s0), (0, .ref (G.1 + 126)), (1, .int l1), (3, .int l3), (4, .int l4)]) (by decide +kernel) rfl (by decide) rfl ?_
  refine sd_iload_n (k := 3) (i := 3) (q := 3) (pc' := 40) (by decide +kernel) rfl rfl ?_
  refine sd_aload_n (k := 0) (i := 0) (q := 1) (pc' := 41) (by decide +kernel) rfl rfl ?_
  refine sd_iconst (n := 1) (v := 1) (pc' := 42) (by decide +kernel) (by decide) ?_
  refine sd_iload_n (k := 1) (i := 1) (q := 2) (pc' := 43) (by decide +kernel) rfl rfl ?_
  refine sd_iload (i := 4) (q := 4) (pc' := 45) (by decide +kernel) rfl ?_
  obtain ⟨t5, q4, hf⟩ := b1_some hf
  refine sF_callV (idx := 262) (b := 126) (As := [.int 1, .int l1, .int l4]) (ci := 12) (nn := 47) (pc' := 48) 3 (T_YM_bitsOfTurn (G := G) (h := h)  q4) (by decide +kernel) mv_YM_bitsOfTurn ml_X12_262 (by decide +kernel) rfl rfl (Nat.le_of_ble_eq_true rfl) SH_126 rfl (by decide) rfl rfl ?_
  refine sd_ior (pc' := 49) (by decide +kernel) ?_
  refine sd_istore_n (k := 3) (i := 3) (pc' := 50) (lo' := [(3, .int (l3 ||| t5)), (2, .int s0), (0, .ref (G.1 + 126)), (1, .int l1), (4, .int l4)]) (by decide +kernel) rfl (by decide) rfl ?_
  refine sd_iinc (i := 4) (q := 4) (n := 1) (v := (l4 + 1)) (pc' := 53) (lo' := [(4, .int (l4 + 1)), (3, .int (l3 ||| t5)), (2, .int s0), (0, .ref (G.1 + 126)), (1, .int l1)]) (by decide +kernel) rfl rfl (by decide) rfl ?_
  refine sd_goto (off := -46) (tgt := 7) (pc' := 56) (by decide +kernel) ?_
  refine sd_J.sub (lo' := [(0, .ref (G.1 + 126)), (1, .int l1), (2, .int s0), (3, .int (l3 ||| t5)), (4, .int (l4 + 1))]) [3, 4, 2, 1, 0] rfl ?_
  exact hK7 _ _ _ _ hf
def YM_isCopied_B37 (h : sd_H) (K7 : Int32 → Int32 → Int32 → Int32 → Option Int32) (l1 : Int32) (l3 : Int32) (l4 : Int32) : Option Int32 :=
  YM_isCopied_B38 h K7 l1 l3 l4 0
set_option maxHeartbeats 4000000 in
set_option maxRecDepth 100000 in
theorem J_YM_isCopied_B37 {G : sd_GX} {X : sd_CX} (hE : ∀ g : sd_H, sd_end G X M_YM_isCopied (sd_F g)) {h : sd_H} {K7 : Int32 → Int32 → Int32 → Int32 → Option Int32} {r : Int32} (hK7 : ∀ (l1 : Int32) (l2 : Int32) (l3 : Int32) (l4 : Int32), K7 l1 l2 l3 l4 = some r → sd_J G X (sd_QR G X M_YM_isCopied (some (.int r), sd_F h)) M_YM_isCopied 7 [(0, .ref (G.1 + 126)), (1, .int l1), (2, .int l2), (3, .int l3), (4, .int l4)] [] (sd_F h)) {l1 : Int32} {l3 : Int32} {l4 : Int32} (hf : YM_isCopied_B37 h K7 l1 l3 l4 = some r) : sd_J G X (sd_QR G X M_YM_isCopied (some (.int r), sd_F h)) M_YM_isCopied 37 [(0, .ref (G.1 + 126)), (1, .int l1), (3, .int l3), (4, .int l4)] [] (sd_F h) := by
  unfold YM_isCopied_B37 at hf
  refine sd_iconst (n := 0) (v := 0) (pc' := 38) (by decide +kernel) (by decide) ?_
  refine sd_J.sub (lo' := [(0, .ref (G.1 + 126)), (1, .int l1), (3, .int l3), (4, .int l4)]) [0, 1, 2, 3] rfl ?_
  exact J_YM_isCopied_B38 hE hK7 hf
def YM_isCopied_L7 (h : sd_H) : Nat → Int32 → Int32 → Int32 → Int32 → Option Int32
  | 0, _, _, _, _ => none
  | n + 1, l1, l2, l3, l4 =>
  (if (h.1 126 6) ≤ l4 then gd (sd_isB l2) (some l2) else (if l2 = 0 then YM_isCopied_B37 h (YM_isCopied_L7 h n) l1 l3 l4 else b1 (YM_bitsOfTurn h 3 l1 l4) (fun t7 => (if (t7 &&& l3) = 0 then YM_isCopied_B38 h (YM_isCopied_L7 h n) l1 l3 l4 1 else YM_isCopied_B37 h (YM_isCopied_L7 h n) l1 l3 l4))))
set_option maxHeartbeats 4000000 in
set_option maxRecDepth 100000 in
theorem J_YM_isCopied_L7 {G : sd_GX} {X : sd_CX} (hE : ∀ g : sd_H, sd_end G X M_YM_isCopied (sd_F g)) {h : sd_H} {r : Int32} : ∀ (n : Nat) (l1 : Int32) (l2 : Int32) (l3 : Int32) (l4 : Int32), YM_isCopied_L7 h n l1 l2 l3 l4 = some r → sd_J G X (sd_QR G X M_YM_isCopied (some (.int r), sd_F h)) M_YM_isCopied 7 [(0, .ref (G.1 + 126)), (1, .int l1), (2, .int l2), (3, .int l3), (4, .int l4)] [] (sd_F h) := by
  intro n
  induction n with
  | zero =>
    intro l1 l2 l3 l4 hf
    rw [YM_isCopied_L7] at hf
    cases hf
  | succ n ih =>
    intro l1 l2 l3 l4 hf
    rw [YM_isCopied_L7] at hf
    refine sd_iload (i := 4) (q := 4) (pc' := 9) (by decide +kernel) rfl ?_
    refine sd_aload_n (k := 0) (i := 0) (q := 0) (pc' := 10) (by decide +kernel) rfl rfl ?_
    refine sF_gi (idx := 154) (ci := 12) (k := 6) (n := 47) (pc' := 13) (by decide +kernel) fl_X12_154 (by decide +kernel) rfl SH_126 ?_
    refine sd_icmp_ge (off := 43) (tgt := 56) (pc' := 16) (by decide +kernel) (fun c1 => ?_) (fun c1 => ?_)
    · replace hf := ite_p c1 hf
      refine sd_iload_n (k := 2) (i := 2) (q := 2) (pc' := 57) (by decide +kernel) rfl rfl ?_
      obtain ⟨g2, hf⟩ := gd_some hf
      obtain rfl := Option.some.inj hf
      exact sd_zret (by decide +kernel) rfl g2 (hE _)
    · replace hf := ite_n c1 hf
      refine sd_iload_n (k := 2) (i := 2) (q := 2) (pc' := 17) (by decide +kernel) rfl rfl ?_
      refine sd_if_eq (off := 20) (tgt := 37) (pc' := 20) (by decide +kernel) (fun c3 => ?_) (fun c3 => ?_)
      · replace hf := ite_p c3 hf
        refine sd_J.sub (lo' := [(0, .ref (G.1 + 126)), (1, .int l1), (3, .int l3), (4, .int l4)]) [0, 1, 3, 4] rfl ?_
        exact J_YM_isCopied_B37 hE ih hf
      · replace hf := ite_n c3 hf
        refine sd_aload_n (k := 0) (i := 0) (q := 0) (pc' := 21) (by decide +kernel) rfl rfl ?_
        refine sd_iconst (n := 3) (v := 3) (pc' := 22) (by decide +kernel) (by decide) ?_
        refine sd_iload_n (k := 1) (i := 1) (q := 1) (pc' := 23) (by decide +kernel) rfl rfl ?_
        refine sd_iload (i := 4) (q := 4) (pc' := 25) (by decide +kernel) rfl ?_
        obtain ⟨t7, q6, hf⟩ := b1_some hf
        refine sF_callV (idx := 262) (b := 126) (As := [.int 3, .int l1, .int l4]) (ci := 12) (nn := 47) (pc' := 28) 3 (T_YM_bitsOfTurn (G := G) (h := h)  q6) (by decide +kernel) mv_YM_bitsOfTurn ml_X12_262 (by decide +kernel) rfl rfl (Nat.le_of_ble_eq_true rfl) SH_126 rfl (by decide) rfl rfl ?_
        refine sd_iload_n (k := 3) (i := 3) (q := 3) (pc' := 29) (by decide +kernel) rfl rfl ?_
        refine sd_iand (pc' := 30) (by decide +kernel) ?_
        refine sd_if_ne (off := 7) (tgt := 37) (pc' := 33) (by decide +kernel) (fun c8 => ?_) (fun c8 => ?_)
        · replace hf := ite_n c8 hf
          refine sd_J.sub (lo' := [(0, .ref (G.1 + 126)), (1, .int l1), (3, .int l3), (4, .int l4)]) [0, 1, 3, 4] rfl ?_
          exact J_YM_isCopied_B37 hE ih hf
        · replace hf := ite_p c8 hf
          refine sd_iconst (n := 1) (v := 1) (pc' := 34) (by decide +kernel) (by decide) ?_
          refine sd_goto (off := 4) (tgt := 38) (pc' := 37) (by decide +kernel) ?_
          refine sd_J.sub (lo' := [(0, .ref (G.1 + 126)), (1, .int l1), (3, .int l3), (4, .int l4)]) [0, 1, 3, 4] rfl ?_
          exact J_YM_isCopied_B38 hE ih hf
def YM_isCopied (h : sd_H) (a0 : Int32) : Option Int32 :=
  YM_isCopied_L7 h FU a0 1 0 0
set_option maxHeartbeats 4000000 in
set_option maxRecDepth 100000 in
theorem T_YM_isCopied {G : sd_GX} {h : sd_H} {a0 : Int32} {r : Int32} (hf : YM_isCopied h a0 = some r) : sd_RunF G M_YM_isCopied [.ref (G.1 + 126), .int a0] h (some (.int r)) h := by
  refine sF_run ⟨rfl, rfl⟩ (by decide +kernel) (Nat.le_of_ble_eq_true rfl) (lo := [(0, .ref (G.1 + 126)), (1, .int a0)]) rfl (fun X hE => ?_)
  unfold YM_isCopied at hf
  refine sd_iconst (n := 1) (v := 1) (pc' := 1) (by decide +kernel) (by decide) ?_
  refine sd_istore_n (k := 2) (i := 2) (pc' := 2) (lo' := [(2, .int 1), (0, .ref (G.1 + 126)), (1, .int a0)]) (by decide +kernel) rfl (by decide) rfl ?_
  refine sd_iconst (n := 0) (v := 0) (pc' := 3) (by decide +kernel) (by decide) ?_
  refine sd_istore_n (k := 3) (i := 3) (pc' := 4) (lo' := [(3, .int 0), (2, .int 1), (0, .ref (G.1 + 126)), (1, .int a0)]) (by decide +kernel) rfl (by decide) rfl ?_
  refine sd_iconst (n := 0) (v := 0) (pc' := 5) (by decide +kernel) (by decide) ?_
  refine sd_istore (i := 4) (pc' := 7) (lo' := [(4, .int 0), (3, .int 0), (2, .int 1), (0, .ref (G.1 + 126)), (1, .int a0)]) (by decide +kernel) (by decide) rfl ?_
  refine sd_J.sub (lo' := [(0, .ref (G.1 + 126)), (1, .int a0), (2, .int 1), (3, .int 0), (4, .int 0)]) [3, 4, 2, 1, 0] rfl ?_
  exact J_YM_isCopied_L7 hE _ _ _ _ _ hf

theorem ml_X12_298 : Cond.methodLink RX12 298 yX12_isWritten ∈ sd_tb := sd_mem (i := 1565) (by decide +kernel)
theorem mv_YM_isWritten : sd_mV M_YM_isWritten 1 := ⟨sd_mem (i := 1567) (by decide +kernel), sd_mem (i := 75) (by decide +kernel), ⟨sd_mem (i := 1568) (by decide +kernel), sd_mem (i := 119) (by decide +kernel), by decide +kernel, by decide +kernel, by decide +kernel⟩⟩
theorem ml_X12_301 : Cond.methodLink RX12 301 yX12_isShared ∈ sd_tb := sd_mem (i := 1569) (by decide +kernel)
theorem mv_YM_isShared : sd_mV M_YM_isShared 1 := ⟨sd_mem (i := 1571) (by decide +kernel), sd_mem (i := 76) (by decide +kernel), ⟨sd_mem (i := 1572) (by decide +kernel), sd_mem (i := 119) (by decide +kernel), by decide +kernel, by decide +kernel, by decide +kernel⟩⟩
theorem ml_X12_304 : Cond.methodLink RX12 304 yX12_isGathered ∈ sd_tb := sd_mem (i := 1573) (by decide +kernel)
theorem mv_YM_isGathered : sd_mV M_YM_isGathered 3 := ⟨sd_mem (i := 1575) (by decide +kernel), sd_mem (i := 77) (by decide +kernel), ⟨sd_mem (i := 1576) (by decide +kernel), sd_mem (i := 119) (by decide +kernel), by decide +kernel, by decide +kernel, by decide +kernel⟩⟩
theorem ml_X12_307 : Cond.methodLink RX12 307 yX12_isCopied ∈ sd_tb := sd_mem (i := 1581) (by decide +kernel)
theorem mv_YM_isCopied : sd_mV M_YM_isCopied 1 := ⟨sd_mem (i := 1583) (by decide +kernel), sd_mem (i := 79) (by decide +kernel), ⟨sd_mem (i := 1584) (by decide +kernel), sd_mem (i := 119) (by decide +kernel), by decide +kernel, by decide +kernel, by decide +kernel⟩⟩
def M_YM_verdictAs : sd_MX := (yX12_verdictAs, cX12_verdictAs, 4, (some .int), { frames := 8, cells := 0, slots := 0, locals := 203 })
def YM_verdictAs (h : sd_H) (a0 : Int32) (a1 : Int32) (a2 : Int32) : Option (sd_H × Int32) :=
  b1 (YM_findsSets h) (fun h2 => b1 (YM_isWritten h2 a0) (fun t4 => (if t4 = 0 then some (h2, 0) else b1 (YM_isShared h2 a0) (fun t7 => (if t7 = 0 then b1 (YM_isGathered h2 a0 a1 a2) (fun t10 => (if t10 = 0 then b1 (YM_isCopied h2 a0) (fun t13 => (if t13 = 0 then some (h2, 4) else some (h2, 3))) else some (h2, 2))) else some (h2, 1))))))
set_option maxHeartbeats 4000000 in
set_option maxRecDepth 100000 in
theorem T_YM_verdictAs {G : sd_GX} {h : sd_H} {a0 : Int32} {a1 : Int32} {a2 : Int32} {r : (sd_H × Int32)} (hf : YM_verdictAs h a0 a1 a2 = some r) : sd_RunF G M_YM_verdictAs [.ref (G.1 + 126), .int a0, .int a1, .int a2] h (some (.int r.2)) r.1 := by
  refine sF_run ⟨rfl, rfl⟩ (by decide +kernel) (Nat.le_of_ble_eq_true rfl) (lo := [(0, .ref (G.1 + 126)), (1, .int a0), (2, .int a1), (3, .int a2)]) rfl (fun X hE => ?_)
  unfold YM_verdictAs at hf
  refine sd_aload_n (k := 0) (i := 0) (q := 0) (pc' := 1) (by decide +kernel) rfl rfl ?_
  obtain ⟨h2, q1, hf⟩ := b1_some hf
  refine sF_callV0 (idx := 259) (b := 126) (As := []) (ci := 12) (nn := 47) (pc' := 4) 0 (T_YM_findsSets (G := G) (h := h)  q1) (by decide +kernel) mv_YM_findsSets ml_X12_259 (by decide +kernel) rfl rfl (Nat.le_of_ble_eq_true rfl) SH_126 rfl (by decide) rfl rfl ?_
  refine sd_aload_n (k := 0) (i := 0) (q := 0) (pc' := 5) (by decide +kernel) rfl rfl ?_
  refine sd_iload_n (k := 1) (i := 1) (q := 1) (pc' := 6) (by decide +kernel) rfl rfl ?_
  obtain ⟨t4, q3, hf⟩ := b1_some hf
  refine sF_callV (idx := 298) (b := 126) (As := [.int a0]) (ci := 12) (nn := 47) (pc' := 9) 1 (T_YM_isWritten (G := G) (h := h2)  q3) (by decide +kernel) mv_YM_isWritten ml_X12_298 (by decide +kernel) rfl rfl (Nat.le_of_ble_eq_true rfl) SH_126 rfl (by decide) rfl rfl ?_
  refine sd_if_ne (off := 7) (tgt := 16) (pc' := 12) (by decide +kernel) (fun c5 => ?_) (fun c5 => ?_)
  · replace hf := ite_n c5 hf
    refine sd_aload_n (k := 0) (i := 0) (q := 0) (pc' := 17) (by decide +kernel) rfl rfl ?_
    refine sd_iload_n (k := 1) (i := 1) (q := 1) (pc' := 18) (by decide +kernel) rfl rfl ?_
    obtain ⟨t7, q6, hf⟩ := b1_some hf
    refine sF_callV (idx := 301) (b := 126) (As := [.int a0]) (ci := 12) (nn := 47) (pc' := 21) 1 (T_YM_isShared (G := G) (h := h2)  q6) (by decide +kernel) mv_YM_isShared ml_X12_301 (by decide +kernel) rfl rfl (Nat.le_of_ble_eq_true rfl) SH_126 rfl (by decide) rfl rfl ?_
    refine sd_if_eq (off := 7) (tgt := 28) (pc' := 24) (by decide +kernel) (fun c8 => ?_) (fun c8 => ?_)
    · replace hf := ite_p c8 hf
      refine sd_aload_n (k := 0) (i := 0) (q := 0) (pc' := 29) (by decide +kernel) rfl rfl ?_
      refine sd_iload_n (k := 1) (i := 1) (q := 1) (pc' := 30) (by decide +kernel) rfl rfl ?_
      refine sd_iload_n (k := 2) (i := 2) (q := 2) (pc' := 31) (by decide +kernel) rfl rfl ?_
      refine sd_iload_n (k := 3) (i := 3) (q := 3) (pc' := 32) (by decide +kernel) rfl rfl ?_
      obtain ⟨t10, q9, hf⟩ := b1_some hf
      refine sF_callV (idx := 304) (b := 126) (As := [.int a0, .int a1, .int a2]) (ci := 12) (nn := 47) (pc' := 35) 3 (T_YM_isGathered (G := G) (h := h2)  q9) (by decide +kernel) mv_YM_isGathered ml_X12_304 (by decide +kernel) rfl rfl (Nat.le_of_ble_eq_true rfl) SH_126 rfl (by decide) rfl rfl ?_
      refine sd_if_eq (off := 7) (tgt := 42) (pc' := 38) (by decide +kernel) (fun c11 => ?_) (fun c11 => ?_)
      · replace hf := ite_p c11 hf
        refine sd_aload_n (k := 0) (i := 0) (q := 0) (pc' := 43) (by decide +kernel) rfl rfl ?_
        refine sd_iload_n (k := 1) (i := 1) (q := 1) (pc' := 44) (by decide +kernel) rfl rfl ?_
        obtain ⟨t13, q12, hf⟩ := b1_some hf
        refine sF_callV (idx := 307) (b := 126) (As := [.int a0]) (ci := 12) (nn := 47) (pc' := 47) 1 (T_YM_isCopied (G := G) (h := h2)  q12) (by decide +kernel) mv_YM_isCopied ml_X12_307 (by decide +kernel) rfl rfl (Nat.le_of_ble_eq_true rfl) SH_126 rfl (by decide) rfl rfl ?_
        refine sd_if_eq (off := 7) (tgt := 54) (pc' := 50) (by decide +kernel) (fun c14 => ?_) (fun c14 => ?_)
        · replace hf := ite_p c14 hf
          refine sd_iconst (n := 4) (v := 4) (pc' := 55) (by decide +kernel) (by decide) ?_
          obtain rfl := Option.some.inj hf
          exact sd_iret (by decide +kernel) rfl (hE _)
        · replace hf := ite_n c14 hf
          refine sd_iconst (n := 3) (v := 3) (pc' := 51) (by decide +kernel) (by decide) ?_
          refine sd_goto (off := 4) (tgt := 55) (pc' := 54) (by decide +kernel) ?_
          obtain rfl := Option.some.inj hf
          exact sd_iret (by decide +kernel) rfl (hE _)
      · replace hf := ite_n c11 hf
        refine sd_iconst (n := 2) (v := 2) (pc' := 39) (by decide +kernel) (by decide) ?_
        refine sd_goto (off := 16) (tgt := 55) (pc' := 42) (by decide +kernel) ?_
        obtain rfl := Option.some.inj hf
        exact sd_iret (by decide +kernel) rfl (hE _)
    · replace hf := ite_n c8 hf
      refine sd_iconst (n := 1) (v := 1) (pc' := 25) (by decide +kernel) (by decide) ?_
      refine sd_goto (off := 30) (tgt := 55) (pc' := 28) (by decide +kernel) ?_
      obtain rfl := Option.some.inj hf
      exact sd_iret (by decide +kernel) rfl (hE _)
  · replace hf := ite_p c5 hf
    refine sd_iconst (n := 0) (v := 0) (pc' := 13) (by decide +kernel) (by decide) ?_
    refine sd_goto (off := 42) (tgt := 55) (pc' := 16) (by decide +kernel) ?_
    obtain rfl := Option.some.inj hf
    exact sd_iret (by decide +kernel) rfl (hE _)

theorem ml_X12_310 : Cond.methodLink RX12 310 yX12_verdictAs ∈ sd_tb := sd_mem (i := 1561) (by decide +kernel)
theorem mv_YM_verdictAs : sd_mV M_YM_verdictAs 3 := ⟨sd_mem (i := 1563) (by decide +kernel), sd_mem (i := 74) (by decide +kernel), ⟨sd_mem (i := 1564) (by decide +kernel), sd_mem (i := 119) (by decide +kernel), by decide +kernel, by decide +kernel, by decide +kernel⟩⟩
def M_YM_verdictOf : sd_MX := (yX12_verdictOf, cX12_verdictOf, 2, (some .int), { frames := 9, cells := 0, slots := 0, locals := 226 })
def YM_verdictOf (h : sd_H) (a0 : Int32) : Option (sd_H × Int32) :=
  b2 (YM_verdictAs h a0 (-1) 0) (fun h2 t3 => some (h2, t3))
set_option maxHeartbeats 4000000 in
set_option maxRecDepth 100000 in
theorem T_YM_verdictOf {G : sd_GX} {h : sd_H} {a0 : Int32} {r : (sd_H × Int32)} (hf : YM_verdictOf h a0 = some r) : sd_RunF G M_YM_verdictOf [.ref (G.1 + 126), .int a0] h (some (.int r.2)) r.1 := by
  refine sF_run ⟨rfl, rfl⟩ (by decide +kernel) (Nat.le_of_ble_eq_true rfl) (lo := [(0, .ref (G.1 + 126)), (1, .int a0)]) rfl (fun X hE => ?_)
  unfold YM_verdictOf at hf
  refine sd_aload_n (k := 0) (i := 0) (q := 0) (pc' := 1) (by decide +kernel) rfl rfl ?_
  refine sd_iload_n (k := 1) (i := 1) (q := 1) (pc' := 2) (by decide +kernel) rfl rfl ?_
  refine sd_iconst (n := -1) (v := (-1)) (pc' := 3) (by decide +kernel) (by decide) ?_
  refine sd_iconst (n := 0) (v := 0) (pc' := 4) (by decide +kernel) (by decide) ?_
  obtain ⟨h2, t3, q1, hf⟩ := b2_some hf
  refine sF_callV (idx := 310) (b := 126) (As := [.int a0, .int (-1), .int 0]) (ci := 12) (nn := 47) (pc' := 7) 3 (T_YM_verdictAs (G := G) (h := h)  q1) (by decide +kernel) mv_YM_verdictAs ml_X12_310 (by decide +kernel) rfl rfl (Nat.le_of_ble_eq_true rfl) SH_126 rfl (by decide) rfl rfl ?_
  obtain rfl := Option.some.inj hf
  exact sd_iret (by decide +kernel) rfl (hE _)

theorem ml_X12_313 : Cond.methodLink RX12 313 yX12_verdictOf ∈ sd_tb := sd_mem (i := 1557) (by decide +kernel)
theorem mv_YM_verdictOf : sd_mV M_YM_verdictOf 1 := ⟨sd_mem (i := 1559) (by decide +kernel), sd_mem (i := 73) (by decide +kernel), ⟨sd_mem (i := 1560) (by decide +kernel), sd_mem (i := 119) (by decide +kernel), by decide +kernel, by decide +kernel, by decide +kernel⟩⟩
def M_YM_verdict : sd_MX := (yX12_verdict, cX12_verdict, 2, (some .int), { frames := 10, cells := 0, slots := 0, locals := 247 })
def YM_verdict (h : sd_H) (a0 : Int32) : Option (sd_H × Int32) :=
  b1 (YM_isRow a0) (fun t2 => (if t2 = 0 then some (h, (-2)) else b2 (YM_verdictOf h a0) (fun h5 t6 => some (h5, t6))))
set_option maxHeartbeats 4000000 in
set_option maxRecDepth 100000 in
theorem T_YM_verdict {G : sd_GX} {h : sd_H} {a0 : Int32} {r : (sd_H × Int32)} (hf : YM_verdict h a0 = some r) : sd_RunF G M_YM_verdict [.ref (G.1 + 126), .int a0] h (some (.int r.2)) r.1 := by
  refine sF_run ⟨rfl, rfl⟩ (by decide +kernel) (Nat.le_of_ble_eq_true rfl) (lo := [(0, .ref (G.1 + 126)), (1, .int a0)]) rfl (fun X hE => ?_)
  unfold YM_verdict at hf
  refine sd_iload_n (k := 1) (i := 1) (q := 1) (pc' := 1) (by decide +kernel) rfl rfl ?_
  obtain ⟨t2, q1, hf⟩ := b1_some hf
  refine sF_callS (idx := 122) (As := [.int a0]) (pc' := 4) 1 (T_YM_isRow (G := G) (h := h)  q1) (by decide +kernel) mv_YM_isRow ml_X12_122 (by decide +kernel) rfl rfl (Nat.le_of_ble_eq_true rfl) rfl ?_
  refine sd_if_eq (off := 11) (tgt := 15) (pc' := 7) (by decide +kernel) (fun c3 => ?_) (fun c3 => ?_)
  · replace hf := ite_p c3 hf
    refine sd_bipush (n := -2) (v := (-2)) (pc' := 17) (by decide +kernel) (by decide) ?_
    obtain rfl := Option.some.inj hf
    exact sd_iret (by decide +kernel) rfl (hE _)
  · replace hf := ite_n c3 hf
    refine sd_aload_n (k := 0) (i := 0) (q := 0) (pc' := 8) (by decide +kernel) rfl rfl ?_
    refine sd_iload_n (k := 1) (i := 1) (q := 1) (pc' := 9) (by decide +kernel) rfl rfl ?_
    obtain ⟨h5, t6, q4, hf⟩ := b2_some hf
    refine sF_callV (idx := 313) (b := 126) (As := [.int a0]) (ci := 12) (nn := 47) (pc' := 12) 1 (T_YM_verdictOf (G := G) (h := h)  q4) (by decide +kernel) mv_YM_verdictOf ml_X12_313 (by decide +kernel) rfl rfl (Nat.le_of_ble_eq_true rfl) SH_126 rfl (by decide) rfl rfl ?_
    refine sd_goto (off := 5) (tgt := 17) (pc' := 15) (by decide +kernel) ?_
    obtain rfl := Option.some.inj hf
    exact sd_iret (by decide +kernel) rfl (hE _)

def M_YM_would : sd_MX := (yX12_would, cX12_would, 3, (some .int), { frames := 9, cells := 0, slots := 0, locals := 226 })
def YM_would (h : sd_H) (a0 : Int32) (a1 : Int32) : Option (sd_H × Int32) :=
  b1 (YM_isRow a0) (fun t2 => (if t2 = 0 then some (h, (-2)) else b1 (YM_in a1 0 3) (fun t5 => (if t5 = 0 then some (h, (-2)) else gd (sd_inB a0 6) ((if (h.1 127 (a0 : Int32).toNatClampNeg) = (-1) then b2 (YM_meets h 1) (fun h15 t16 => some (h15, t16)) else gd (sd_inB a0 6) ((if (h.1 127 (a0 : Int32).toNatClampNeg) = 4 then some (h, (-3)) else b2 (YM_verdictAs h a0 a0 a1) (fun h12 t13 => some (h12, t13))))))))))
set_option maxHeartbeats 4000000 in
set_option maxRecDepth 100000 in
theorem T_YM_would {G : sd_GX} {h : sd_H} {a0 : Int32} {a1 : Int32} {r : (sd_H × Int32)} (hf : YM_would h a0 a1 = some r) : sd_RunF G M_YM_would [.ref (G.1 + 126), .int a0, .int a1] h (some (.int r.2)) r.1 := by
  refine sF_run ⟨rfl, rfl⟩ (by decide +kernel) (Nat.le_of_ble_eq_true rfl) (lo := [(0, .ref (G.1 + 126)), (1, .int a0), (2, .int a1)]) rfl (fun X hE => ?_)
  unfold YM_would at hf
  refine sd_iload_n (k := 1) (i := 1) (q := 1) (pc' := 1) (by decide +kernel) rfl rfl ?_
  obtain ⟨t2, q1, hf⟩ := b1_some hf
  refine sF_callS (idx := 122) (As := [.int a0]) (pc' := 4) 1 (T_YM_isRow (G := G) (h := h)  q1) (by decide +kernel) mv_YM_isRow ml_X12_122 (by decide +kernel) rfl rfl (Nat.le_of_ble_eq_true rfl) rfl ?_
  refine sd_if_eq (off := 12) (tgt := 16) (pc' := 7) (by decide +kernel) (fun c3 => ?_) (fun c3 => ?_)
  · replace hf := ite_p c3 hf
    refine sd_bipush (n := -2) (v := (-2)) (pc' := 18) (by decide +kernel) (by decide) ?_
    obtain rfl := Option.some.inj hf
    exact sd_iret (by decide +kernel) rfl (hE _)
  · replace hf := ite_n c3 hf
    refine sd_iload_n (k := 2) (i := 2) (q := 2) (pc' := 8) (by decide +kernel) rfl rfl ?_
    refine sd_iconst (n := 0) (v := 0) (pc' := 9) (by decide +kernel) (by decide) ?_
    refine sd_iconst (n := 3) (v := 3) (pc' := 10) (by decide +kernel) (by decide) ?_
    obtain ⟨t5, q4, hf⟩ := b1_some hf
    refine sF_callS (idx := 114) (As := [.int a1, .int 0, .int 3]) (pc' := 13) 3 (T_YM_in (G := G) (h := h)  q4) (by decide +kernel) mv_YM_in ml_X12_114 (by decide +kernel) rfl rfl (Nat.le_of_ble_eq_true rfl) rfl ?_
    refine sd_if_ne (off := 6) (tgt := 19) (pc' := 16) (by decide +kernel) (fun c6 => ?_) (fun c6 => ?_)
    · replace hf := ite_n c6 hf
      refine sd_aload_n (k := 0) (i := 0) (q := 0) (pc' := 20) (by decide +kernel) rfl rfl ?_
      refine sF_gr (idx := 7) (ci := 12) (k := 0) (n := 47) (r := 127) (pc' := 23) (by decide +kernel) fl_X12_7 (by decide +kernel) rfl SH_126 (by decide) (by decide +kernel) ?_
      refine sd_iload_n (k := 1) (i := 1) (q := 1) (pc' := 24) (by decide +kernel) rfl rfl ?_
      obtain ⟨g7, hf⟩ := gd_some hf
      refine sF_iald (n := 6) (pc' := 25) (by decide +kernel) SH_127 g7 ?_
      refine sd_iconst (n := -1) (v := (-1)) (pc' := 26) (by decide +kernel) (by decide) ?_
      refine sd_icmp_ne (off := 11) (tgt := 37) (pc' := 29) (by decide +kernel) (fun c8 => ?_) (fun c8 => ?_)
      · replace hf := ite_n c8 hf
        refine sd_aload_n (k := 0) (i := 0) (q := 0) (pc' := 38) (by decide +kernel) rfl rfl ?_
        refine sF_gr (idx := 7) (ci := 12) (k := 0) (n := 47) (r := 127) (pc' := 41) (by decide +kernel) fl_X12_7 (by decide +kernel) rfl SH_126 (by decide) (by decide +kernel) ?_
        refine sd_iload_n (k := 1) (i := 1) (q := 1) (pc' := 42) (by decide +kernel) rfl rfl ?_
        obtain ⟨g9, hf⟩ := gd_some hf
        refine sF_iald (n := 6) (pc' := 43) (by decide +kernel) SH_127 g9 ?_
        refine sd_iconst (n := 4) (v := 4) (pc' := 44) (by decide +kernel) (by decide) ?_
        refine sd_icmp_ne (off := 8) (tgt := 52) (pc' := 47) (by decide +kernel) (fun c10 => ?_) (fun c10 => ?_)
        · replace hf := ite_n c10 hf
          refine sd_aload_n (k := 0) (i := 0) (q := 0) (pc' := 53) (by decide +kernel) rfl rfl ?_
          refine sd_iload_n (k := 1) (i := 1) (q := 1) (pc' := 54) (by decide +kernel) rfl rfl ?_
          refine sd_iload_n (k := 1) (i := 1) (q := 1) (pc' := 55) (by decide +kernel) rfl rfl ?_
          refine sd_iload_n (k := 2) (i := 2) (q := 2) (pc' := 56) (by decide +kernel) rfl rfl ?_
          obtain ⟨h12, t13, q11, hf⟩ := b2_some hf
          refine sF_callV (idx := 310) (b := 126) (As := [.int a0, .int a0, .int a1]) (ci := 12) (nn := 47) (pc' := 59) 3 (T_YM_verdictAs (G := G) (h := h)  q11) (by decide +kernel) mv_YM_verdictAs ml_X12_310 (by decide +kernel) rfl rfl (Nat.le_of_ble_eq_true rfl) SH_126 rfl (by decide) rfl rfl ?_
          obtain rfl := Option.some.inj hf
          exact sd_iret (by decide +kernel) rfl (hE _)
        · replace hf := ite_p c10 hf
          refine sd_bipush (n := -3) (v := (-3)) (pc' := 49) (by decide +kernel) (by decide) ?_
          refine sd_goto (off := 10) (tgt := 59) (pc' := 52) (by decide +kernel) ?_
          obtain rfl := Option.some.inj hf
          exact sd_iret (by decide +kernel) rfl (hE _)
      · replace hf := ite_p c8 hf
        refine sd_aload_n (k := 0) (i := 0) (q := 0) (pc' := 30) (by decide +kernel) rfl rfl ?_
        refine sd_iconst (n := 1) (v := 1) (pc' := 31) (by decide +kernel) (by decide) ?_
        obtain ⟨h15, t16, q14, hf⟩ := b2_some hf
        refine sF_callV (idx := 126) (b := 126) (As := [.int 1]) (ci := 12) (nn := 47) (pc' := 34) 1 (T_YM_meets (G := G) (h := h)  q14) (by decide +kernel) mv_YM_meets ml_X12_126 (by decide +kernel) rfl rfl (Nat.le_of_ble_eq_true rfl) SH_126 rfl (by decide) rfl rfl ?_
        refine sd_goto (off := 25) (tgt := 59) (pc' := 37) (by decide +kernel) ?_
        obtain rfl := Option.some.inj hf
        exact sd_iret (by decide +kernel) rfl (hE _)
    · replace hf := ite_p c6 hf
      refine sd_bipush (n := -2) (v := (-2)) (pc' := 18) (by decide +kernel) (by decide) ?_
      obtain rfl := Option.some.inj hf
      exact sd_iret (by decide +kernel) rfl (hE _)
