theorem fl_X7_159 : sd_fl RX7 159 9 0 := ⟨sd_mem (i := 216) (by decide +kernel), by decide, by decide⟩
theorem fl_X7_180 : sd_fl RX7 180 5 0 := ⟨sd_mem (i := 192) (by decide +kernel), by decide, by decide⟩
theorem ml_X7_183 : Cond.methodLink RX7 183 yX5_at ∈ sd_tb := sd_mem (i := 983) (by decide +kernel)
theorem ml_X7_186 : Cond.methodLink RX7 186 yX6_faultAt ∈ sd_tb := sd_mem (i := 984) (by decide +kernel)
theorem ml_X7_171 : Cond.methodLink RX7 171 yX9_looksAt ∈ sd_tb := sd_mem (i := 981) (by decide +kernel)
theorem ml_X7_175 : Cond.methodLink RX7 175 yX5_isConstant ∈ sd_tb := sd_mem (i := 982) (by decide +kernel)
def M_XU_faultOf : sd_MX := (yX7_faultOf, cX7_faultOf, 7, (some .int), { frames := 2, cells := 0, slots := 0, locals := 62 })
def XU_faultOf_B65 (h : sd_H) (K3 : Nat → Int32 → Int32 → Int32 → Option Int32) (l1 : Nat) (l2 : Int32) (l3 : Int32) (l4 : Int32) : Option Int32 :=
  K3 l1 l2 l3 (l4 + 1)
set_option maxHeartbeats 4000000 in
set_option maxRecDepth 100000 in
theorem J_XU_faultOf_B65 {G : sd_GX} {X : sd_CX} (hE : ∀ g : sd_H, sd_end G X M_XU_faultOf (sd_F g)) {h : sd_H} {K3 : Nat → Int32 → Int32 → Int32 → Option Int32} {r : Int32} (hK3 : ∀ (l1 : Nat) (l2 : Int32) (l3 : Int32) (l4 : Int32), sd_SH l1 = (9, 6) → K3 l1 l2 l3 l4 = some r → sd_J G X (sd_QR G X M_XU_faultOf (some (.int r), sd_F h)) M_XU_faultOf 3 [(0, .ref (G.1 + 100)), (1, .ref (G.1 + l1)), (2, .int l2), (3, .int l3), (4, .int l4)] [] (sd_F h)) {l1 : Nat} {l2 : Int32} {l3 : Int32} {l4 : Int32} (p1 : sd_SH l1 = (9, 6)) (hf : XU_faultOf_B65 h K3 l1 l2 l3 l4 = some r) : sd_J G X (sd_QR G X M_XU_faultOf (some (.int r), sd_F h)) M_XU_faultOf 65 [(0, .ref (G.1 + 100)), (1, .ref (G.1 + l1)), (2, .int l2), (3, .int l3), (4, .int l4)] [] (sd_F h) := by
  unfold XU_faultOf_B65 at hf
  refine sd_iinc (i := 4) (q := 4) (n := 1) (v := (l4 + 1)) (pc' := 68) (lo' := [(4, .int (l4 + 1)), (0, .ref (G.1 + 100)), (1, .ref (G.1 + l1)), (2, .int l2), (3, .int l3)]) (by decide +kernel) rfl rfl (by decide) rfl ?_
  refine sd_goto (off := -65) (tgt := 3) (pc' := 71) (by decide +kernel) ?_
  refine sd_J.sub (lo' := [(0, .ref (G.1 + 100)), (1, .ref (G.1 + l1)), (2, .int l2), (3, .int l3), (4, .int (l4 + 1))]) [1, 2, 3, 4, 0] rfl ?_
  exact hK3 _ _ _ _ p1 hf
def XU_faultOf_L3 (h : sd_H) : Nat → Nat → Int32 → Int32 → Int32 → Option Int32
  | 0, _, _, _, _ => none
  | n + 1, l1, l2, l3, l4 =>
  (if 3 ≤ l4 then op (h.2.2 0) 6 4 (fun w2 => b1 (XF_at h ((l1 + 1) + 1 + 0) l2 l3) (fun t6 => b1 (XR_faultAt h w2 (h.1 ((l1 + 1) + 1 + 0) 0) t6) (fun t8 => some t8))) else gd (sd_inB l4 3) (b1 (XA_looksAt h l1 l4) (fun t11 => (if t11 = 0 then XU_faultOf_B65 h (XU_faultOf_L3 h n) l1 l2 l3 l4 else b1 (XF_isConstant h ((l1 + 1) + 1 + (l4 : Int32).toNatClampNeg)) (fun t14 => (if t14 = 0 then op (h.2.2 0) 6 4 (fun w16 => b1 (XF_at h ((l1 + 1) + 1 + (l4 : Int32).toNatClampNeg) l2 l3) (fun t20 => b1 (XR_faultAt h w16 (h.1 ((l1 + 1) + 1 + (l4 : Int32).toNatClampNeg) 0) t20) (fun t22 => (if t22 = (-1) then XU_faultOf_B65 h (XU_faultOf_L3 h n) l1 l2 l3 l4 else some t22)))) else XU_faultOf_B65 h (XU_faultOf_L3 h n) l1 l2 l3 l4))))))
set_option maxHeartbeats 4000000 in
set_option maxRecDepth 100000 in
theorem J_XU_faultOf_L3 {G : sd_GX} {X : sd_CX} (hE : ∀ g : sd_H, sd_end G X M_XU_faultOf (sd_F g)) {h : sd_H} {r : Int32} : ∀ (n : Nat) (l1 : Nat) (l2 : Int32) (l3 : Int32) (l4 : Int32), sd_SH l1 = (9, 6) → XU_faultOf_L3 h n l1 l2 l3 l4 = some r → sd_J G X (sd_QR G X M_XU_faultOf (some (.int r), sd_F h)) M_XU_faultOf 3 [(0, .ref (G.1 + 100)), (1, .ref (G.1 + l1)), (2, .int l2), (3, .int l3), (4, .int l4)] [] (sd_F h) := by
  intro n
  induction n with
  | zero =>
    intro l1 l2 l3 l4 p1 hf
    rw [XU_faultOf_L3] at hf
    cases hf
  | succ n ih =>
    intro l1 l2 l3 l4 p1 hf
    rw [XU_faultOf_L3] at hf
    refine sd_iload (i := 4) (q := 4) (pc' := 5) (by decide +kernel) rfl ?_
    refine sd_iconst (n := 3) (v := 3) (pc' := 6) (by decide +kernel) (by decide) ?_
    refine sd_icmp_ge (off := 65) (tgt := 71) (pc' := 9) (by decide +kernel) (fun c1 => ?_) (fun c1 => ?_)
    · replace hf := ite_p c1 hf
      refine sd_aload_n (k := 1) (i := 1) (q := 1) (pc' := 72) (by decide +kernel) rfl rfl ?_
      refine sF_gr (idx := 159) (ci := 9) (k := 0) (n := 6) (r := (l1 + 1)) (pc' := 75) (by decide +kernel) fl_X7_159 (by decide +kernel) rfl p1 (by decide) (rt_9_0 p1) ?_
      refine sd_iconst (n := 0) (v := 0) (pc' := 76) (by decide +kernel) (by decide) ?_
      refine sF_aald (n := 3) (r := ((l1 + 1) + 1 + 0)) (pc' := 77) (by decide +kernel) (sh_9_0 p1) (by decide) (by decide) (by rw [show ((0 : Int32)).toNatClampNeg = 0 from by decide]; exact rta_R (sh_9_0 p1) (by decide)) ?_
      refine sd_astore (i := 4) (pc' := 79) (lo' := [(4, .ref (G.1 + ((l1 + 1) + 1 + 0))), (0, .ref (G.1 + 100)), (1, .ref (G.1 + l1)), (2, .int l2), (3, .int l3)]) (by decide +kernel) (by decide) rfl ?_
      refine sd_aload_n (k := 0) (i := 0) (q := 1) (pc' := 80) (by decide +kernel) rfl rfl ?_
      obtain ⟨w2, e3, pw4, hf⟩ := op_some hf
      refine sF_gm (idx := 76) (k := 7) (w := 0) (r := w2) (pc' := 83) (by decide +kernel) fl_X7_76 (by decide) e3 ?_
      refine sd_aload (i := 4) (q := 0) (pc' := 85) (by decide +kernel) rfl ?_
      refine sF_gi (idx := 180) (ci := 5) (k := 0) (n := 4) (pc' := 88) (by decide +kernel) fl_X7_180 (by decide +kernel) rfl (sha_R (sh_9_0 p1) (j := 0) (by decide)) ?_
      refine sd_aload (i := 4) (q := 0) (pc' := 90) (by decide +kernel) rfl ?_
      refine sd_iload_n (k := 2) (i := 2) (q := 3) (pc' := 91) (by decide +kernel) rfl rfl ?_
      refine sd_iload_n (k := 3) (i := 3) (q := 4) (pc' := 92) (by decide +kernel) rfl rfl ?_
      obtain ⟨t6, q5, hf⟩ := b1_some hf
      refine sF_callV (idx := 183) (b := ((l1 + 1) + 1 + 0)) (As := [.int l2, .int l3]) (ci := 5) (nn := 4) (pc' := 95) 2 (T_XF_at (G := G) (h := h) (sha_R (sh_9_0 p1) (j := 0) (by decide)) q5) (by decide +kernel) mv_XF_at ml_X7_183 (by decide +kernel) rfl rfl (Nat.le_of_ble_eq_true rfl) (sha_R (sh_9_0 p1) (j := 0) (by decide)) rfl (by decide) rfl rfl ?_
      obtain ⟨t8, q7, hf⟩ := b1_some hf
      refine sF_callV (idx := 186) (b := w2) (As := [.int (h.1 ((l1 + 1) + 1 + 0) 0), .int t6]) (ci := 6) (nn := 4) (pc' := 98) 2 (T_XR_faultAt (G := G) (h := h) pw4 q7) (by decide +kernel) mv_XR_faultAt ml_X7_186 (by decide +kernel) rfl rfl (Nat.le_of_ble_eq_true rfl) pw4 rfl (by decide) rfl rfl ?_
      obtain rfl := Option.some.inj hf
      exact sd_iret (by decide +kernel) rfl (hE _)
    · replace hf := ite_n c1 hf
      refine sd_aload_n (k := 1) (i := 1) (q := 1) (pc' := 10) (by decide +kernel) rfl rfl ?_
      refine sF_gr (idx := 159) (ci := 9) (k := 0) (n := 6) (r := (l1 + 1)) (pc' := 13) (by decide +kernel) fl_X7_159 (by decide +kernel) rfl p1 (by decide) (rt_9_0 p1) ?_
      refine sd_iload (i := 4) (q := 4) (pc' := 15) (by decide +kernel) rfl ?_
      obtain ⟨g9, hf⟩ := gd_some hf
      refine sF_aald (n := 3) (r := ((l1 + 1) + 1 + (l4 : Int32).toNatClampNeg)) (pc' := 16) (by decide +kernel) (sh_9_0 p1) (by decide) g9 (rta_R (sh_9_0 p1) (inB_lt g9)) ?_
      refine sd_astore (i := 5) (pc' := 18) (lo' := [(5, .ref (G.1 + ((l1 + 1) + 1 + (l4 : Int32).toNatClampNeg))), (0, .ref (G.1 + 100)), (1, .ref (G.1 + l1)), (2, .int l2), (3, .int l3), (4, .int l4)]) (by decide +kernel) (by decide) rfl ?_
      refine sd_aload_n (k := 1) (i := 1) (q := 2) (pc' := 19) (by decide +kernel) rfl rfl ?_
      refine sd_iload (i := 4) (q := 5) (pc' := 21) (by decide +kernel) rfl ?_
      obtain ⟨t11, q10, hf⟩ := b1_some hf
      refine sF_callV (idx := 171) (b := l1) (As := [.int l4]) (ci := 9) (nn := 6) (pc' := 24) 1 (T_XA_looksAt (G := G) (h := h) p1 q10) (by decide +kernel) mv_XA_looksAt ml_X7_171 (by decide +kernel) rfl rfl (Nat.le_of_ble_eq_true rfl) p1 rfl (by decide) rfl rfl ?_
      refine sd_if_eq (off := 41) (tgt := 65) (pc' := 27) (by decide +kernel) (fun c12 => ?_) (fun c12 => ?_)
      · replace hf := ite_p c12 hf
        refine sd_J.sub (lo' := [(0, .ref (G.1 + 100)), (1, .ref (G.1 + l1)), (2, .int l2), (3, .int l3), (4, .int l4)]) [1, 2, 3, 4, 5] rfl ?_
        exact J_XU_faultOf_B65 hE ih p1 hf
      · replace hf := ite_n c12 hf
        refine sd_aload (i := 5) (q := 0) (pc' := 29) (by decide +kernel) rfl ?_
        obtain ⟨t14, q13, hf⟩ := b1_some hf
        refine sF_callV (idx := 175) (b := ((l1 + 1) + 1 + (l4 : Int32).toNatClampNeg)) (As := []) (ci := 5) (nn := 4) (pc' := 32) 0 (T_XF_isConstant (G := G) (h := h) (sha_R (sh_9_0 p1) (inB_lt g9)) q13) (by decide +kernel) mv_XF_isConstant ml_X7_175 (by decide +kernel) rfl rfl (Nat.le_of_ble_eq_true rfl) (sha_R (sh_9_0 p1) (inB_lt g9)) rfl (by decide) rfl rfl ?_
        refine sd_if_ne (off := 33) (tgt := 65) (pc' := 35) (by decide +kernel) (fun c15 => ?_) (fun c15 => ?_)
        · replace hf := ite_n c15 hf
          refine sd_J.sub (lo' := [(0, .ref (G.1 + 100)), (1, .ref (G.1 + l1)), (2, .int l2), (3, .int l3), (4, .int l4)]) [1, 2, 3, 4, 5] rfl ?_
          exact J_XU_faultOf_B65 hE ih p1 hf
        · replace hf := ite_p c15 hf
          refine sd_aload_n (k := 0) (i := 0) (q := 1) (pc' := 36) (by decide +kernel) rfl rfl ?_
          obtain ⟨w16, e17, pw18, hf⟩ := op_some hf
          refine sF_gm (idx := 76) (k := 7) (w := 0) (r := w16) (pc' := 39) (by decide +kernel) fl_X7_76 (by decide) e17 ?_
          refine sd_aload (i := 5) (q := 0) (pc' := 41) (by decide +kernel) rfl ?_
          refine sF_gi (idx := 180) (ci := 5) (k := 0) (n := 4) (pc' := 44) (by decide +kernel) fl_X7_180 (by decide +kernel) rfl (sha_R (sh_9_0 p1) (inB_lt g9)) ?_
          refine sd_aload (i := 5) (q := 0) (pc' := 46) (by decide +kernel) rfl ?_
          refine sd_iload_n (k := 2) (i := 2) (q := 3) (pc' := 47) (by decide +kernel) rfl rfl ?_
          refine sd_iload_n (k := 3) (i := 3) (q := 4) (pc' := 48) (by decide +kernel) rfl rfl ?_
          obtain ⟨t20, q19, hf⟩ := b1_some hf
          refine sF_callV (idx := 183) (b := ((l1 + 1) + 1 + (l4 : Int32).toNatClampNeg)) (As := [.int l2, .int l3]) (ci := 5) (nn := 4) (pc' := 51) 2 (T_XF_at (G := G) (h := h) (sha_R (sh_9_0 p1) (inB_lt g9)) q19) (by decide +kernel) mv_XF_at ml_X7_183 (by decide +kernel) rfl rfl (Nat.le_of_ble_eq_true rfl) (sha_R (sh_9_0 p1) (inB_lt g9)) rfl (by decide) rfl rfl ?_
          obtain ⟨t22, q21, hf⟩ := b1_some hf
          refine sF_callV (idx := 186) (b := w16) (As := [.int (h.1 ((l1 + 1) + 1 + (l4 : Int32).toNatClampNeg) 0), .int t20]) (ci := 6) (nn := 4) (pc' := 54) 2 (T_XR_faultAt (G := G) (h := h) pw18 q21) (by decide +kernel) mv_XR_faultAt ml_X7_186 (by decide +kernel) rfl rfl (Nat.le_of_ble_eq_true rfl) pw18 rfl (by decide) rfl rfl ?_
          refine sd_istore (i := 6) (pc' := 56) (lo' := [(6, .int t22), (5, .ref (G.1 + ((l1 + 1) + 1 + (l4 : Int32).toNatClampNeg))), (0, .ref (G.1 + 100)), (1, .ref (G.1 + l1)), (2, .int l2), (3, .int l3), (4, .int l4)]) (by decide +kernel) (by decide) rfl ?_
          refine sd_iload (i := 6) (q := 0) (pc' := 58) (by decide +kernel) rfl ?_
          refine sd_iconst (n := -1) (v := (-1)) (pc' := 59) (by decide +kernel) (by decide) ?_
          refine sd_icmp_eq (off := 6) (tgt := 65) (pc' := 62) (by decide +kernel) (fun c23 => ?_) (fun c23 => ?_)
          · replace hf := ite_p c23 hf
            refine sd_J.sub (lo' := [(0, .ref (G.1 + 100)), (1, .ref (G.1 + l1)), (2, .int l2), (3, .int l3), (4, .int l4)]) [2, 3, 4, 5, 6] rfl ?_
            exact J_XU_faultOf_B65 hE ih p1 hf
          · replace hf := ite_n c23 hf
            refine sd_iload (i := 6) (q := 0) (pc' := 64) (by decide +kernel) rfl ?_
            obtain rfl := Option.some.inj hf
            exact sd_iret (by decide +kernel) rfl (hE _)
def XU_faultOf (h : sd_H) (a0 : Nat) (a1 : Int32) (a2 : Int32) : Option Int32 :=
  XU_faultOf_L3 h FU a0 a1 a2 1
set_option maxHeartbeats 4000000 in
set_option maxRecDepth 100000 in
theorem T_XU_faultOf {G : sd_GX} {h : sd_H} {a0 : Nat} {a1 : Int32} {a2 : Int32} {r : Int32} (pa0 : sd_SH a0 = (9, 6)) (hf : XU_faultOf h a0 a1 a2 = some r) : sd_RunF G M_XU_faultOf [.ref (G.1 + 100), .ref (G.1 + a0), .int a1, .int a2] h (some (.int r)) h := by
  refine sF_run ⟨rfl, rfl⟩ (by decide +kernel) (Nat.le_of_ble_eq_true rfl) (lo := [(0, .ref (G.1 + 100)), (1, .ref (G.1 + a0)), (2, .int a1), (3, .int a2)]) rfl (fun X hE => ?_)
  unfold XU_faultOf at hf
  refine sd_iconst (n := 1) (v := 1) (pc' := 1) (by decide +kernel) (by decide) ?_
  refine sd_istore (i := 4) (pc' := 3) (lo' := [(4, .int 1), (0, .ref (G.1 + 100)), (1, .ref (G.1 + a0)), (2, .int a1), (3, .int a2)]) (by decide +kernel) (by decide) rfl ?_
  refine sd_J.sub (lo' := [(0, .ref (G.1 + 100)), (1, .ref (G.1 + a0)), (2, .int a1), (3, .int a2), (4, .int 1)]) [1, 2, 3, 4, 0] rfl ?_
  exact J_XU_faultOf_L3 hE _ _ _ _ _ pa0 hf

theorem ml_X9_45 : Cond.methodLink RX9 45 yX9_mayBeOver ∈ sd_tb := sd_mem (i := 993) (by decide +kernel)
def M_XA_isOfIntsAlways : sd_MX := (yX9_isOfIntsAlways, cX9_isOfIntsAlways, 1, (some .boolean), { frames := 2, cells := 0, slots := 0, locals := 60 })
def XA_isOfIntsAlways_B25 (h : sd_H) : Option Int32 :=
  some 1
set_option maxHeartbeats 4000000 in
set_option maxRecDepth 100000 in
theorem J_XA_isOfIntsAlways_B25 {G : sd_GX} {X : sd_CX} (hE : ∀ g : sd_H, sd_end G X M_XA_isOfIntsAlways (sd_F g)) {h : sd_H} {r : Int32} (hf : XA_isOfIntsAlways_B25 h = some r) : sd_J G X (sd_QR G X M_XA_isOfIntsAlways (some (.int r), sd_F h)) M_XA_isOfIntsAlways 25 [] [] (sd_F h) := by
  unfold XA_isOfIntsAlways_B25 at hf
  refine sd_iconst (n := 1) (v := 1) (pc' := 26) (by decide +kernel) (by decide) ?_
  refine sd_goto (off := 4) (tgt := 30) (pc' := 29) (by decide +kernel) ?_
  obtain rfl := Option.some.inj hf
  exact sd_zret (by decide +kernel) rfl rfl (hE _)
def XA_isOfIntsAlways_B18 (h : sd_H) (l0 : Nat) : Option Int32 :=
  b1 (XA_mayBeOver h l0) (fun t3 => (if t3 = 0 then some 0 else XA_isOfIntsAlways_B25 h))
set_option maxHeartbeats 4000000 in
set_option maxRecDepth 100000 in
theorem J_XA_isOfIntsAlways_B18 {G : sd_GX} {X : sd_CX} (hE : ∀ g : sd_H, sd_end G X M_XA_isOfIntsAlways (sd_F g)) {h : sd_H} {r : Int32} {l0 : Nat} (p0 : sd_SH l0 = (9, 6)) (hf : XA_isOfIntsAlways_B18 h l0 = some r) : sd_J G X (sd_QR G X M_XA_isOfIntsAlways (some (.int r), sd_F h)) M_XA_isOfIntsAlways 18 [(0, .ref (G.1 + l0))] [] (sd_F h) := by
  unfold XA_isOfIntsAlways_B18 at hf
  refine sd_aload_n (k := 0) (i := 0) (q := 0) (pc' := 19) (by decide +kernel) rfl rfl ?_
  obtain ⟨t3, q2, hf⟩ := b1_some hf
  refine sF_callV (idx := 45) (b := l0) (As := []) (ci := 9) (nn := 6) (pc' := 22) 0 (T_XA_mayBeOver (G := G) (h := h) p0 q2) (by decide +kernel) mv_XA_mayBeOver ml_X9_45 (by decide +kernel) rfl rfl (Nat.le_of_ble_eq_true rfl) p0 rfl (by decide) rfl rfl ?_
  refine sd_if_eq (off := 7) (tgt := 29) (pc' := 25) (by decide +kernel) (fun c4 => ?_) (fun c4 => ?_)
  · replace hf := ite_p c4 hf
    refine sd_iconst (n := 0) (v := 0) (pc' := 30) (by decide +kernel) (by decide) ?_
    obtain rfl := Option.some.inj hf
    exact sd_zret (by decide +kernel) rfl rfl (hE _)
  · replace hf := ite_n c4 hf
    refine sd_J.sub (lo' := []) [] rfl ?_
    exact J_XA_isOfIntsAlways_B25 hE hf
def XA_isOfIntsAlways (h : sd_H) (this : Nat) : Option Int32 :=
  (if (h.1 this 1) < 6 then XA_isOfIntsAlways_B18 h this else (if (h.1 this 1) ≤ 8 then XA_isOfIntsAlways_B25 h else XA_isOfIntsAlways_B18 h this))
set_option maxHeartbeats 4000000 in
set_option maxRecDepth 100000 in
theorem T_XA_isOfIntsAlways {G : sd_GX} {h : sd_H} {this : Nat} {r : Int32} (pt : sd_SH this = (9, 6)) (hf : XA_isOfIntsAlways h this = some r) : sd_RunF G M_XA_isOfIntsAlways [.ref (G.1 + this)] h (some (.int r)) h := by
  refine sF_run ⟨rfl, rfl⟩ (by decide +kernel) (Nat.le_of_ble_eq_true rfl) (lo := [(0, .ref (G.1 + this))]) rfl (fun X hE => ?_)
  unfold XA_isOfIntsAlways at hf
  refine sd_aload_n (k := 0) (i := 0) (q := 0) (pc' := 1) (by decide +kernel) rfl rfl ?_
  refine sF_gi (idx := 22) (ci := 9) (k := 1) (n := 6) (pc' := 4) (by decide +kernel) fl_X9_22 (by decide +kernel) rfl pt ?_
  refine sd_bipush (n := 6) (v := 6) (pc' := 6) (by decide +kernel) (by decide) ?_
  refine sd_icmp_lt (off := 12) (tgt := 18) (pc' := 9) (by decide +kernel) (fun c1 => ?_) (fun c1 => ?_)
  · replace hf := ite_p c1 hf
    refine sd_J.sub (lo' := [(0, .ref (G.1 + this))]) [0] rfl ?_
    exact J_XA_isOfIntsAlways_B18 hE pt hf
  · replace hf := ite_n c1 hf
    refine sd_aload_n (k := 0) (i := 0) (q := 0) (pc' := 10) (by decide +kernel) rfl rfl ?_
    refine sF_gi (idx := 22) (ci := 9) (k := 1) (n := 6) (pc' := 13) (by decide +kernel) fl_X9_22 (by decide +kernel) rfl pt ?_
    refine sd_bipush (n := 8) (v := 8) (pc' := 15) (by decide +kernel) (by decide) ?_
    refine sd_icmp_le (off := 10) (tgt := 25) (pc' := 18) (by decide +kernel) (fun c5 => ?_) (fun c5 => ?_)
    · replace hf := ite_p c5 hf
      refine sd_J.sub (lo' := []) [] rfl ?_
      exact J_XA_isOfIntsAlways_B25 hE hf
    · replace hf := ite_n c5 hf
      refine sd_J.sub (lo' := [(0, .ref (G.1 + this))]) [0] rfl ?_
      exact J_XA_isOfIntsAlways_B18 hE pt hf

theorem ml_X6_35 : Cond.methodLink RX6 35 yX9_isOfIntsAlways ∈ sd_tb := sd_mem (i := 989) (by decide +kernel)
theorem mv_XA_isOfIntsAlways : sd_mV M_XA_isOfIntsAlways 0 := ⟨sd_mem (i := 990) (by decide +kernel), sd_mem (i := 991) (by decide +kernel), ⟨sd_mem (i := 992) (by decide +kernel), sd_mem (i := 111) (by decide +kernel), by decide +kernel, by decide +kernel, by decide +kernel⟩⟩
theorem fl_X6_41 : sd_fl RX6 41 9 0 := ⟨sd_mem (i := 215) (by decide +kernel), by decide, by decide⟩
theorem ml_X6_45 : Cond.methodLink RX6 45 yX9_looksAt ∈ sd_tb := sd_mem (i := 994) (by decide +kernel)
theorem ml_X6_48 : Cond.methodLink RX6 48 yX5_isConstant ∈ sd_tb := sd_mem (i := 995) (by decide +kernel)
theorem fl_X6_53 : sd_fl RX6 53 5 0 := ⟨sd_mem (i := 191) (by decide +kernel), by decide, by decide⟩
theorem mm_X6_57 : sd_mm RX6 57 Lib.Math.max.name Lib.Math.max.code 2 := ⟨sd_mem (i := 996) (by decide +kernel), sd_mem (i := 997) (by decide +kernel), sd_mem (i := 126) (by decide +kernel), sd_mem (i := 998) (by decide +kernel)⟩
def M_XR_widthOf : sd_MX := (yX6_widthOf, cX6_widthOf, 5, (some .int), { frames := 3, cells := 0, slots := 0, locals := 80 })
def XR_widthOf_B57 (h : sd_H) (K13 : Nat → Nat → Int32 → Int32 → Option Int32) (l0 : Nat) (l1 : Nat) (l2 : Int32) (l3 : Int32) : Option Int32 :=
  K13 l0 l1 l2 (l3 + 1)
set_option maxHeartbeats 4000000 in
set_option maxRecDepth 100000 in
theorem J_XR_widthOf_B57 {G : sd_GX} {X : sd_CX} (hE : ∀ g : sd_H, sd_end G X M_XR_widthOf (sd_F g)) {h : sd_H} {K13 : Nat → Nat → Int32 → Int32 → Option Int32} {r : Int32} (hK13 : ∀ (l0 : Nat) (l1 : Nat) (l2 : Int32) (l3 : Int32), sd_SH l0 = (6, 4) → sd_SH l1 = (9, 6) → K13 l0 l1 l2 l3 = some r → sd_J G X (sd_QR G X M_XR_widthOf (some (.int r), sd_F h)) M_XR_widthOf 13 [(0, .ref (G.1 + l0)), (1, .ref (G.1 + l1)), (2, .int l2), (3, .int l3)] [] (sd_F h)) {l0 : Nat} {l1 : Nat} {l2 : Int32} {l3 : Int32} (p0 : sd_SH l0 = (6, 4)) (p1 : sd_SH l1 = (9, 6)) (hf : XR_widthOf_B57 h K13 l0 l1 l2 l3 = some r) : sd_J G X (sd_QR G X M_XR_widthOf (some (.int r), sd_F h)) M_XR_widthOf 57 [(0, .ref (G.1 + l0)), (1, .ref (G.1 + l1)), (2, .int l2), (3, .int l3)] [] (sd_F h) := by
  unfold XR_widthOf_B57 at hf
  refine sd_iinc (i := 3) (q := 3) (n := 1) (v := (l3 + 1)) (pc' := 60) (lo' := [(3, .int (l3 + 1)), (0, .ref (G.1 + l0)), (1, .ref (G.1 + l1)), (2, .int l2)]) (by decide +kernel) rfl rfl (by decide) rfl ?_
  refine sd_goto (off := -47) (tgt := 13) (pc' := 63) (by decide +kernel) ?_
  refine sd_J.sub (lo' := [(0, .ref (G.1 + l0)), (1, .ref (G.1 + l1)), (2, .int l2), (3, .int (l3 + 1))]) [1, 2, 3, 0] rfl ?_
  exact hK13 _ _ _ _ p0 p1 hf
def XR_widthOf_L13 (h : sd_H) : Nat → Nat → Nat → Int32 → Int32 → Option Int32
  | 0, _, _, _, _ => none
  | n + 1, l0, l1, l2, l3 =>
  (if 3 ≤ l3 then some l2 else gd (sd_inB l3 3) (b1 (XA_looksAt h l1 l3) (fun t7 => (if t7 = 0 then XR_widthOf_B57 h (XR_widthOf_L13 h n) l0 l1 l2 l3 else b1 (XF_isConstant h ((l1 + 1) + 1 + (l3 : Int32).toNatClampNeg)) (fun t10 => (if t10 = 0 then gd (sd_inB (h.1 ((l1 + 1) + 1 + (l3 : Int32).toNatClampNeg) 0) 6) (XR_widthOf_B57 h (XR_widthOf_L13 h n) l0 l1 (if l2 < (h.1 (l0 + 1) ((h.1 ((l1 + 1) + 1 + (l3 : Int32).toNatClampNeg) 0) : Int32).toNatClampNeg) then (h.1 (l0 + 1) ((h.1 ((l1 + 1) + 1 + (l3 : Int32).toNatClampNeg) 0) : Int32).toNatClampNeg) else l2) l3) else XR_widthOf_B57 h (XR_widthOf_L13 h n) l0 l1 l2 l3))))))
set_option maxHeartbeats 4000000 in
set_option maxRecDepth 100000 in
theorem J_XR_widthOf_L13 {G : sd_GX} {X : sd_CX} (hE : ∀ g : sd_H, sd_end G X M_XR_widthOf (sd_F g)) {h : sd_H} {r : Int32} : ∀ (n : Nat) (l0 : Nat) (l1 : Nat) (l2 : Int32) (l3 : Int32), sd_SH l0 = (6, 4) → sd_SH l1 = (9, 6) → XR_widthOf_L13 h n l0 l1 l2 l3 = some r → sd_J G X (sd_QR G X M_XR_widthOf (some (.int r), sd_F h)) M_XR_widthOf 13 [(0, .ref (G.1 + l0)), (1, .ref (G.1 + l1)), (2, .int l2), (3, .int l3)] [] (sd_F h) := by
  intro n
  induction n with
  | zero =>
    intro l0 l1 l2 l3 p0 p1 hf
    rw [XR_widthOf_L13] at hf
    cases hf
  | succ n ih =>
    intro l0 l1 l2 l3 p0 p1 hf
    rw [XR_widthOf_L13] at hf
    refine sd_iload_n (k := 3) (i := 3) (q := 3) (pc' := 14) (by decide +kernel) rfl rfl ?_
    refine sd_iconst (n := 3) (v := 3) (pc' := 15) (by decide +kernel) (by decide) ?_
    refine sd_icmp_ge (off := 48) (tgt := 63) (pc' := 18) (by decide +kernel) (fun c4 => ?_) (fun c4 => ?_)
    · replace hf := ite_p c4 hf
      refine sd_iload_n (k := 2) (i := 2) (q := 2) (pc' := 64) (by decide +kernel) rfl rfl ?_
      obtain rfl := Option.some.inj hf
      exact sd_iret (by decide +kernel) rfl (hE _)
    · replace hf := ite_n c4 hf
      refine sd_aload_n (k := 1) (i := 1) (q := 1) (pc' := 19) (by decide +kernel) rfl rfl ?_
      refine sF_gr (idx := 41) (ci := 9) (k := 0) (n := 6) (r := (l1 + 1)) (pc' := 22) (by decide +kernel) fl_X6_41 (by decide +kernel) rfl p1 (by decide) (rt_9_0 p1) ?_
      refine sd_iload_n (k := 3) (i := 3) (q := 3) (pc' := 23) (by decide +kernel) rfl rfl ?_
      obtain ⟨g5, hf⟩ := gd_some hf
      refine sF_aald (n := 3) (r := ((l1 + 1) + 1 + (l3 : Int32).toNatClampNeg)) (pc' := 24) (by decide +kernel) (sh_9_0 p1) (by decide) g5 (rta_R (sh_9_0 p1) (inB_lt g5)) ?_
      refine sd_astore (i := 4) (pc' := 26) (lo' := [(4, .ref (G.1 + ((l1 + 1) + 1 + (l3 : Int32).toNatClampNeg))), (0, .ref (G.1 + l0)), (1, .ref (G.1 + l1)), (2, .int l2), (3, .int l3)]) (by decide +kernel) (by decide) rfl ?_
      refine sd_aload_n (k := 1) (i := 1) (q := 2) (pc' := 27) (by decide +kernel) rfl rfl ?_
      refine sd_iload_n (k := 3) (i := 3) (q := 4) (pc' := 28) (by decide +kernel) rfl rfl ?_
      obtain ⟨t7, q6, hf⟩ := b1_some hf
      refine sF_callV (idx := 45) (b := l1) (As := [.int l3]) (ci := 9) (nn := 6) (pc' := 31) 1 (T_XA_looksAt (G := G) (h := h) p1 q6) (by decide +kernel) mv_XA_looksAt ml_X6_45 (by decide +kernel) rfl rfl (Nat.le_of_ble_eq_true rfl) p1 rfl (by decide) rfl rfl ?_
      refine sd_if_eq (off := 26) (tgt := 57) (pc' := 34) (by decide +kernel) (fun c8 => ?_) (fun c8 => ?_)
      · replace hf := ite_p c8 hf
        refine sd_J.sub (lo' := [(0, .ref (G.1 + l0)), (1, .ref (G.1 + l1)), (2, .int l2), (3, .int l3)]) [1, 2, 3, 4] rfl ?_
        exact J_XR_widthOf_B57 hE ih p0 p1 hf
      · replace hf := ite_n c8 hf
        refine sd_aload (i := 4) (q := 0) (pc' := 36) (by decide +kernel) rfl ?_
        obtain ⟨t10, q9, hf⟩ := b1_some hf
        refine sF_callV (idx := 48) (b := ((l1 + 1) + 1 + (l3 : Int32).toNatClampNeg)) (As := []) (ci := 5) (nn := 4) (pc' := 39) 0 (T_XF_isConstant (G := G) (h := h) (sha_R (sh_9_0 p1) (inB_lt g5)) q9) (by decide +kernel) mv_XF_isConstant ml_X6_48 (by decide +kernel) rfl rfl (Nat.le_of_ble_eq_true rfl) (sha_R (sh_9_0 p1) (inB_lt g5)) rfl (by decide) rfl rfl ?_
        refine sd_if_ne (off := 18) (tgt := 57) (pc' := 42) (by decide +kernel) (fun c11 => ?_) (fun c11 => ?_)
        · replace hf := ite_n c11 hf
          refine sd_J.sub (lo' := [(0, .ref (G.1 + l0)), (1, .ref (G.1 + l1)), (2, .int l2), (3, .int l3)]) [1, 2, 3, 4] rfl ?_
          exact J_XR_widthOf_B57 hE ih p0 p1 hf
        · replace hf := ite_p c11 hf
          refine sd_iload_n (k := 2) (i := 2) (q := 3) (pc' := 43) (by decide +kernel) rfl rfl ?_
          refine sd_aload_n (k := 0) (i := 0) (q := 1) (pc' := 44) (by decide +kernel) rfl rfl ?_
          refine sF_gr (idx := 9) (ci := 6) (k := 0) (n := 4) (r := (l0 + 1)) (pc' := 47) (by decide +kernel) fl_X6_9 (by decide +kernel) rfl p0 (by decide) (rt_6_0 p0) ?_
          refine sd_aload (i := 4) (q := 0) (pc' := 49) (by decide +kernel) rfl ?_
          refine sF_gi (idx := 53) (ci := 5) (k := 0) (n := 4) (pc' := 52) (by decide +kernel) fl_X6_53 (by decide +kernel) rfl (sha_R (sh_9_0 p1) (inB_lt g5)) ?_
          obtain ⟨g12, hf⟩ := gd_some hf
          refine sF_iald (n := 6) (pc' := 53) (by decide +kernel) (sh_6_0 p0) g12 ?_
          refine sF_mmax (idx := 57) (pc' := 56) (by decide +kernel) rfl mm_X6_57 (by decide) (Nat.le_of_ble_eq_true rfl) ?_
          refine sd_istore_n (k := 2) (i := 2) (pc' := 57) (lo' := [(2, .int (if l2 < (h.1 (l0 + 1) ((h.1 ((l1 + 1) + 1 + (l3 : Int32).toNatClampNeg) 0) : Int32).toNatClampNeg) then (h.1 (l0 + 1) ((h.1 ((l1 + 1) + 1 + (l3 : Int32).toNatClampNeg) 0) : Int32).toNatClampNeg) else l2)), (4, .ref (G.1 + ((l1 + 1) + 1 + (l3 : Int32).toNatClampNeg))), (0, .ref (G.1 + l0)), (1, .ref (G.1 + l1)), (3, .int l3)]) (by decide +kernel) rfl (by decide) rfl ?_
          refine sd_J.sub (lo' := [(0, .ref (G.1 + l0)), (1, .ref (G.1 + l1)), (2, .int (if l2 < (h.1 (l0 + 1) ((h.1 ((l1 + 1) + 1 + (l3 : Int32).toNatClampNeg) 0) : Int32).toNatClampNeg) then (h.1 (l0 + 1) ((h.1 ((l1 + 1) + 1 + (l3 : Int32).toNatClampNeg) 0) : Int32).toNatClampNeg) else l2)), (3, .int l3)]) [2, 3, 0, 4] rfl ?_
          exact J_XR_widthOf_B57 hE ih p0 p1 hf
def XR_widthOf (h : sd_H) (this : Nat) (a0 : Nat) : Option Int32 :=
  b1 (XA_isOfIntsAlways h a0) (fun t2 => (if t2 = 0 then XR_widthOf_L13 h FU this a0 1 0 else some 1))
set_option maxHeartbeats 4000000 in
set_option maxRecDepth 100000 in
theorem T_XR_widthOf {G : sd_GX} {h : sd_H} {this : Nat} {a0 : Nat} {r : Int32} (pt : sd_SH this = (6, 4)) (pa0 : sd_SH a0 = (9, 6)) (hf : XR_widthOf h this a0 = some r) : sd_RunF G M_XR_widthOf [.ref (G.1 + this), .ref (G.1 + a0)] h (some (.int r)) h := by
  refine sF_run ⟨rfl, rfl⟩ (by decide +kernel) (Nat.le_of_ble_eq_true rfl) (lo := [(0, .ref (G.1 + this)), (1, .ref (G.1 + a0))]) rfl (fun X hE => ?_)
  unfold XR_widthOf at hf
  refine sd_aload_n (k := 1) (i := 1) (q := 1) (pc' := 1) (by decide +kernel) rfl rfl ?_
  obtain ⟨t2, q1, hf⟩ := b1_some hf
  refine sF_callV (idx := 35) (b := a0) (As := []) (ci := 9) (nn := 6) (pc' := 4) 0 (T_XA_isOfIntsAlways (G := G) (h := h) pa0 q1) (by decide +kernel) mv_XA_isOfIntsAlways ml_X6_35 (by decide +kernel) rfl rfl (Nat.le_of_ble_eq_true rfl) pa0 rfl (by decide) rfl rfl ?_
  refine sd_if_eq (off := 5) (tgt := 9) (pc' := 7) (by decide +kernel) (fun c3 => ?_) (fun c3 => ?_)
  · replace hf := ite_p c3 hf
    refine sd_iconst (n := 1) (v := 1) (pc' := 10) (by decide +kernel) (by decide) ?_
    refine sd_istore_n (k := 2) (i := 2) (pc' := 11) (lo' := [(2, .int 1), (0, .ref (G.1 + this)), (1, .ref (G.1 + a0))]) (by decide +kernel) rfl (by decide) rfl ?_
    refine sd_iconst (n := 0) (v := 0) (pc' := 12) (by decide +kernel) (by decide) ?_
    refine sd_istore_n (k := 3) (i := 3) (pc' := 13) (lo' := [(3, .int 0), (2, .int 1), (0, .ref (G.1 + this)), (1, .ref (G.1 + a0))]) (by decide +kernel) rfl (by decide) rfl ?_
    refine sd_J.sub (lo' := [(0, .ref (G.1 + this)), (1, .ref (G.1 + a0)), (2, .int 1), (3, .int 0)]) [2, 3, 1, 0] rfl ?_
    exact J_XR_widthOf_L13 hE _ _ _ _ _ pt pa0 hf
  · replace hf := ite_n c3 hf
    refine sd_iconst (n := 1) (v := 1) (pc' := 8) (by decide +kernel) (by decide) ?_
    obtain rfl := Option.some.inj hf
    exact sd_iret (by decide +kernel) rfl (hE _)

theorem fl_X7_192 : sd_fl RX7 192 6 2 := ⟨sd_mem (i := 150) (by decide +kernel), by decide, by decide⟩
theorem fl_X7_15 : sd_fl RX7 15 7 2 := ⟨sd_mem (i := 367) (by decide +kernel), by decide, by decide⟩
theorem fl_X7_189 : sd_fl RX7 189 5 1 := ⟨sd_mem (i := 195) (by decide +kernel), by decide, by decide⟩
def M_XU_read : sd_MX := (yX7_read, cX7_read, 8, (some .double), { frames := 2, cells := 0, slots := 0, locals := 62 })
def XU_read (h : sd_H) (a0 : Nat) (a1 : Int32) (a2 : Int32) (a3 : Int32) : Option UInt64 :=
  gd (sd_inB a1 3) (b1 (XA_looksAt h a0 a1) (fun t3 => (if t3 = 0 then some FP.dconst0 else b1 (XF_isConstant h ((a0 + 1) + 1 + (a1 : Int32).toNatClampNeg)) (fun t6 => (if t6 = 0 then b1 (XF_at h ((a0 + 1) + 1 + (a1 : Int32).toNatClampNeg) a2 a3) (fun t9 => gd (sd_inB ((a2 * 6) + (h.1 ((a0 + 1) + 1 + (a1 : Int32).toNatClampNeg) 0)) 60) ((if (((h.1 103 (((a2 * 6) + (h.1 ((a0 + 1) + 1 + (a1 : Int32).toNatClampNeg) 0)) : Int32).toNatClampNeg) >>> (t9 &&& 31)) &&& 1) = 0 then op (h.2.2 0) 6 4 (fun w12 => gd (sd_inB (((h.1 ((a0 + 1) + 1 + (a1 : Int32).toNatClampNeg) 0) * 24) + t9) 144) (some (h.2.1 (w12 + 3) ((((h.1 ((a0 + 1) + 1 + (a1 : Int32).toNatClampNeg) 0) * 24) + t9) : Int32).toNatClampNeg))) else gd (sd_inB ((((a2 * 6) + (h.1 ((a0 + 1) + 1 + (a1 : Int32).toNatClampNeg) 0)) * 24) + t9) 1440) (some (h.2.1 102 (((((a2 * 6) + (h.1 ((a0 + 1) + 1 + (a1 : Int32).toNatClampNeg) 0)) * 24) + t9) : Int32).toNatClampNeg))))) else some (FP.i2d (h.1 ((a0 + 1) + 1 + (a1 : Int32).toNatClampNeg) 1)))))))
set_option maxHeartbeats 4000000 in
set_option maxRecDepth 100000 in
theorem T_XU_read {G : sd_GX} {h : sd_H} {a0 : Nat} {a1 : Int32} {a2 : Int32} {a3 : Int32} {r : UInt64} (pa0 : sd_SH a0 = (9, 6)) (hf : XU_read h a0 a1 a2 a3 = some r) : sd_RunF G M_XU_read [.ref (G.1 + 100), .ref (G.1 + a0), .int a1, .int a2, .int a3] h (some (.double r)) h := by
  refine sF_run ⟨rfl, rfl⟩ (by decide +kernel) (Nat.le_of_ble_eq_true rfl) (lo := [(0, .ref (G.1 + 100)), (1, .ref (G.1 + a0)), (2, .int a1), (3, .int a2), (4, .int a3)]) rfl (fun X hE => ?_)
  unfold XU_read at hf
  refine sd_aload_n (k := 1) (i := 1) (q := 1) (pc' := 1) (by decide +kernel) rfl rfl ?_
  refine sF_gr (idx := 159) (ci := 9) (k := 0) (n := 6) (r := (a0 + 1)) (pc' := 4) (by decide +kernel) fl_X7_159 (by decide +kernel) rfl pa0 (by decide) (rt_9_0 pa0) ?_
  refine sd_iload_n (k := 2) (i := 2) (q := 2) (pc' := 5) (by decide +kernel) rfl rfl ?_
  obtain ⟨g1, hf⟩ := gd_some hf
  refine sF_aald (n := 3) (r := ((a0 + 1) + 1 + (a1 : Int32).toNatClampNeg)) (pc' := 6) (by decide +kernel) (sh_9_0 pa0) (by decide) g1 (rta_R (sh_9_0 pa0) (inB_lt g1)) ?_
  refine sd_astore (i := 5) (pc' := 8) (lo' := [(5, .ref (G.1 + ((a0 + 1) + 1 + (a1 : Int32).toNatClampNeg))), (0, .ref (G.1 + 100)), (1, .ref (G.1 + a0)), (2, .int a1), (3, .int a2), (4, .int a3)]) (by decide +kernel) (by decide) rfl ?_
  refine sd_aload_n (k := 1) (i := 1) (q := 2) (pc' := 9) (by decide +kernel) rfl rfl ?_
  refine sd_iload_n (k := 2) (i := 2) (q := 3) (pc' := 10) (by decide +kernel) rfl rfl ?_
  obtain ⟨t3, q2, hf⟩ := b1_some hf
  refine sF_callV (idx := 171) (b := a0) (As := [.int a1]) (ci := 9) (nn := 6) (pc' := 13) 1 (T_XA_looksAt (G := G) (h := h) pa0 q2) (by decide +kernel) mv_XA_looksAt ml_X7_171 (by decide +kernel) rfl rfl (Nat.le_of_ble_eq_true rfl) pa0 rfl (by decide) rfl rfl ?_
  refine sd_if_ne (off := 5) (tgt := 18) (pc' := 16) (by decide +kernel) (fun c4 => ?_) (fun c4 => ?_)
  · replace hf := ite_n c4 hf
    refine sd_aload (i := 5) (q := 0) (pc' := 20) (by decide +kernel) rfl ?_
    obtain ⟨t6, q5, hf⟩ := b1_some hf
    refine sF_callV (idx := 175) (b := ((a0 + 1) + 1 + (a1 : Int32).toNatClampNeg)) (As := []) (ci := 5) (nn := 4) (pc' := 23) 0 (T_XF_isConstant (G := G) (h := h) (sha_R (sh_9_0 pa0) (inB_lt g1)) q5) (by decide +kernel) mv_XF_isConstant ml_X7_175 (by decide +kernel) rfl rfl (Nat.le_of_ble_eq_true rfl) (sha_R (sh_9_0 pa0) (inB_lt g1)) rfl (by decide) rfl rfl ?_
    refine sd_if_eq (off := 10) (tgt := 33) (pc' := 26) (by decide +kernel) (fun c7 => ?_) (fun c7 => ?_)
    · replace hf := ite_p c7 hf
      refine sd_aload (i := 5) (q := 0) (pc' := 35) (by decide +kernel) rfl ?_
      refine sF_gi (idx := 180) (ci := 5) (k := 0) (n := 4) (pc' := 38) (by decide +kernel) fl_X7_180 (by decide +kernel) rfl (sha_R (sh_9_0 pa0) (inB_lt g1)) ?_
      refine sd_istore (i := 6) (pc' := 40) (lo' := [(6, .int (h.1 ((a0 + 1) + 1 + (a1 : Int32).toNatClampNeg) 0)), (5, .ref (G.1 + ((a0 + 1) + 1 + (a1 : Int32).toNatClampNeg))), (0, .ref (G.1 + 100)), (1, .ref (G.1 + a0)), (2, .int a1), (3, .int a2), (4, .int a3)]) (by decide +kernel) (by decide) rfl ?_
      refine sd_aload (i := 5) (q := 1) (pc' := 42) (by decide +kernel) rfl ?_
      refine sd_iload_n (k := 3) (i := 3) (q := 5) (pc' := 43) (by decide +kernel) rfl rfl ?_
      refine sd_iload (i := 4) (q := 6) (pc' := 45) (by decide +kernel) rfl ?_
      obtain ⟨t9, q8, hf⟩ := b1_some hf
      refine sF_callV (idx := 183) (b := ((a0 + 1) + 1 + (a1 : Int32).toNatClampNeg)) (As := [.int a2, .int a3]) (ci := 5) (nn := 4) (pc' := 48) 2 (T_XF_at (G := G) (h := h) (sha_R (sh_9_0 pa0) (inB_lt g1)) q8) (by decide +kernel) mv_XF_at ml_X7_183 (by decide +kernel) rfl rfl (Nat.le_of_ble_eq_true rfl) (sha_R (sh_9_0 pa0) (inB_lt g1)) rfl (by decide) rfl rfl ?_
      refine sd_istore (i := 7) (pc' := 50) (lo' := [(7, .int t9), (6, .int (h.1 ((a0 + 1) + 1 + (a1 : Int32).toNatClampNeg) 0)), (5, .ref (G.1 + ((a0 + 1) + 1 + (a1 : Int32).toNatClampNeg))), (0, .ref (G.1 + 100)), (1, .ref (G.1 + a0)), (2, .int a1), (3, .int a2), (4, .int a3)]) (by decide +kernel) (by decide) rfl ?_
      refine sd_aload_n (k := 0) (i := 0) (q := 3) (pc' := 51) (by decide +kernel) rfl rfl ?_
      refine sF_gr (idx := 19) (ci := 7) (k := 3) (n := 11) (r := 103) (pc' := 54) (by decide +kernel) fl_X7_19 (by decide +kernel) rfl SH_100 (by decide) (by decide +kernel) ?_
      refine sd_iload_n (k := 3) (i := 3) (q := 6) (pc' := 55) (by decide +kernel) rfl rfl ?_
      refine sd_bipush (n := 6) (v := 6) (pc' := 57) (by decide +kernel) (by decide) ?_
      refine sd_imul (pc' := 58) (by decide +kernel) ?_
      refine sd_iload (i := 6) (q := 1) (pc' := 60) (by decide +kernel) rfl ?_
      refine sd_iadd (pc' := 61) (by decide +kernel) ?_
      obtain ⟨g10, hf⟩ := gd_some hf
      refine sF_iald (n := 60) (pc' := 62) (by decide +kernel) SH_103 g10 ?_
      refine sd_iload (i := 7) (q := 0) (pc' := 64) (by decide +kernel) rfl ?_
      refine sd_ishr (pc' := 65) (by decide +kernel) ?_
      refine sd_iconst (n := 1) (v := 1) (pc' := 66) (by decide +kernel) (by decide) ?_
      refine sd_iand (pc' := 67) (by decide +kernel) ?_
      refine sd_if_eq (off := 22) (tgt := 89) (pc' := 70) (by decide +kernel) (fun c11 => ?_) (fun c11 => ?_)
      · replace hf := ite_p c11 hf
        refine sd_aload_n (k := 0) (i := 0) (q := 3) (pc' := 90) (by decide +kernel) rfl rfl ?_
        obtain ⟨w12, e13, pw14, hf⟩ := op_some hf
        refine sF_gm (idx := 76) (k := 7) (w := 0) (r := w12) (pc' := 93) (by decide +kernel) fl_X7_76 (by decide) e13 ?_
        refine sF_gr (idx := 192) (ci := 6) (k := 2) (n := 4) (r := (w12 + 3)) (pc' := 96) (by decide +kernel) fl_X7_192 (by decide +kernel) rfl pw14 (by decide) (rt_6_2 pw14) ?_
        refine sd_iload (i := 6) (q := 1) (pc' := 98) (by decide +kernel) rfl ?_
        refine sd_bipush (n := 24) (v := 24) (pc' := 100) (by decide +kernel) (by decide) ?_
        refine sd_imul (pc' := 101) (by decide +kernel) ?_
        refine sd_iload (i := 7) (q := 0) (pc' := 103) (by decide +kernel) rfl ?_
        refine sd_iadd (pc' := 104) (by decide +kernel) ?_
        obtain ⟨g15, hf⟩ := gd_some hf
        refine sF_dald (n := 144) (pc' := 105) (by decide +kernel) (sh_6_2 pw14) g15 ?_
        obtain rfl := Option.some.inj hf
        exact sd_dret (by decide +kernel) rfl (hE _)
      · replace hf := ite_n c11 hf
        refine sd_aload_n (k := 0) (i := 0) (q := 3) (pc' := 71) (by decide +kernel) rfl rfl ?_
        refine sF_gr (idx := 15) (ci := 7) (k := 2) (n := 11) (r := 102) (pc' := 74) (by decide +kernel) fl_X7_15 (by decide +kernel) rfl SH_100 (by decide) (by decide +kernel) ?_
        refine sd_iload_n (k := 3) (i := 3) (q := 6) (pc' := 75) (by decide +kernel) rfl rfl ?_
        refine sd_bipush (n := 6) (v := 6) (pc' := 77) (by decide +kernel) (by decide) ?_
        refine sd_imul (pc' := 78) (by decide +kernel) ?_
        refine sd_iload (i := 6) (q := 1) (pc' := 80) (by decide +kernel) rfl ?_
        refine sd_iadd (pc' := 81) (by decide +kernel) ?_
        refine sd_bipush (n := 24) (v := 24) (pc' := 83) (by decide +kernel) (by decide) ?_
        refine sd_imul (pc' := 84) (by decide +kernel) ?_
        refine sd_iload (i := 7) (q := 0) (pc' := 86) (by decide +kernel) rfl ?_
        refine sd_iadd (pc' := 87) (by decide +kernel) ?_
        obtain ⟨g16, hf⟩ := gd_some hf
        refine sF_dald (n := 1440) (pc' := 88) (by decide +kernel) SH_102 g16 ?_
        obtain rfl := Option.some.inj hf
        exact sd_dret (by decide +kernel) rfl (hE _)
    · replace hf := ite_n c7 hf
      refine sd_aload (i := 5) (q := 0) (pc' := 28) (by decide +kernel) rfl ?_
      refine sF_gi (idx := 189) (ci := 5) (k := 1) (n := 4) (pc' := 31) (by decide +kernel) fl_X7_189 (by decide +kernel) rfl (sha_R (sh_9_0 pa0) (inB_lt g1)) ?_
      refine sd_i2d (pc' := 32) (by decide +kernel) ?_
      obtain rfl := Option.some.inj hf
      exact sd_dret (by decide +kernel) rfl (hE _)
  · replace hf := ite_p c4 hf
    refine sd_dconst0 (pc' := 17) (by decide +kernel) ?_
    obtain rfl := Option.some.inj hf
    exact sd_dret (by decide +kernel) rfl (hE _)

def M_XN_plain : sd_MX := (yX3_plain, cX3_plain, 2, (some .double), { frames := 1, cells := 0, slots := 0, locals := 40 })
def XN_plain (a0 : UInt64) : Option UInt64 :=
  (if (Op.cmpValue (FP.dcmp a0 FP.dconst0) .l) = 0 then some FP.dconst0 else some a0)
set_option maxHeartbeats 4000000 in
set_option maxRecDepth 100000 in
theorem T_XN_plain {G : sd_GX} {h : sd_H} {a0 : UInt64} {r : UInt64} (hf : XN_plain a0 = some r) : sd_RunF G M_XN_plain [.double a0] h (some (.double r)) h := by
  refine sF_run ⟨rfl, rfl⟩ (by decide +kernel) (Nat.le_of_ble_eq_true rfl) (lo := [(0, .double a0)]) rfl (fun X hE => ?_)
  unfold XN_plain at hf
  refine sd_dload_n (k := 0) (i := 0) (q := 0) (pc' := 1) (by decide +kernel) rfl rfl ?_
  refine sd_dconst0 (pc' := 2) (by decide +kernel) ?_
  refine sd_dcmp (op := .l) (pc' := 3) (by decide +kernel) ?_
  refine sd_if_ne (off := 7) (tgt := 10) (pc' := 6) (by decide +kernel) (fun c1 => ?_) (fun c1 => ?_)
  · replace hf := ite_n c1 hf
    refine sd_dload_n (k := 0) (i := 0) (q := 0) (pc' := 11) (by decide +kernel) rfl rfl ?_
    obtain rfl := Option.some.inj hf
    exact sd_dret (by decide +kernel) rfl (hE _)
  · replace hf := ite_p c1 hf
    refine sd_dconst0 (pc' := 7) (by decide +kernel) ?_
    refine sd_goto (off := 4) (tgt := 11) (pc' := 10) (by decide +kernel) ?_
    obtain rfl := Option.some.inj hf
    exact sd_dret (by decide +kernel) rfl (hE _)

theorem ml_X3_31 : Cond.methodLink RX3 31 yX3_plain ∈ sd_tb := sd_mem (i := 1006) (by decide +kernel)
theorem mv_XN_plain : sd_mS M_XN_plain 1 := ⟨sd_mem (i := 1007) (by decide +kernel), ⟨sd_mem (i := 1008) (by decide +kernel), sd_mem (i := 120) (by decide +kernel), by decide +kernel, by decide +kernel, by decide +kernel⟩⟩
def M_XN_cast : sd_MX := (yX3_cast, cX3_cast, 3, (some .double), { frames := 2, cells := 0, slots := 0, locals := 61 })
def XN_cast (a0 : Int32) (a1 : UInt64) : Option UInt64 :=
  (if a0 = 0 then some (FP.i2d (i2s (FP.d2i a1))) else (if a0 = 1 then some (FP.i2d (FP.d2i a1)) else (if a0 = 2 then gd (nf (FP.d2f a1)) (gd (nd (FP.f2d (FP.d2f a1))) (b1 (XN_plain (FP.f2d (FP.d2f a1))) (fun t5 => some t5))) else (some a1))))
set_option maxHeartbeats 4000000 in
set_option maxRecDepth 100000 in
theorem T_XN_cast {G : sd_GX} {h : sd_H} {a0 : Int32} {a1 : UInt64} {r : UInt64} (hf : XN_cast a0 a1 = some r) : sd_RunF G M_XN_cast [.int a0, .double a1] h (some (.double r)) h := by
  refine sF_run ⟨rfl, rfl⟩ (by decide +kernel) (Nat.le_of_ble_eq_true rfl) (lo := [(0, .int a0), (1, .double a1)]) rfl (fun X hE => ?_)
  unfold XN_cast at hf
  refine sd_iload_n (k := 0) (i := 0) (q := 0) (pc' := 1) (by decide +kernel) rfl rfl ?_
  by_cases c1_0 : a0 = 0
  · replace hf := ite_p c1_0 hf
    refine sd_tswIn (dflt := 43) (lo0 := 0) (hi0 := 2) (offs := #[27, 32, 36]) (len := 27) (off := 27) (tgt := 28) (pc' := 28) (by decide +kernel) (by rw [c1_0]; decide) (by rw [c1_0]; decide) (by rw [c1_0]; decide) ?_
    refine sd_dload_n (k := 1) (i := 1) (q := 1) (pc' := 29) (by decide +kernel) rfl rfl ?_
    refine sd_d2i (pc' := 30) (by decide +kernel) ?_
    refine sd_i2s (pc' := 31) (by decide +kernel) rfl ?_
    refine sd_i2d (pc' := 32) (by decide +kernel) ?_
    obtain rfl := Option.some.inj hf
    exact sd_dret (by decide +kernel) rfl (hE _)
  · replace hf := ite_n c1_0 hf
    by_cases c1_1 : a0 = 1
    · replace hf := ite_p c1_1 hf
      refine sd_tswIn (dflt := 43) (lo0 := 0) (hi0 := 2) (offs := #[27, 32, 36]) (len := 27) (off := 32) (tgt := 33) (pc' := 28) (by decide +kernel) (by rw [c1_1]; decide) (by rw [c1_1]; decide) (by rw [c1_1]; decide) ?_
      refine sd_dload_n (k := 1) (i := 1) (q := 1) (pc' := 34) (by decide +kernel) rfl rfl ?_
      refine sd_d2i (pc' := 35) (by decide +kernel) ?_
      refine sd_i2d (pc' := 36) (by decide +kernel) ?_
      obtain rfl := Option.some.inj hf
      exact sd_dret (by decide +kernel) rfl (hE _)
    · replace hf := ite_n c1_1 hf
      by_cases c1_2 : a0 = 2
      · replace hf := ite_p c1_2 hf
        refine sd_tswIn (dflt := 43) (lo0 := 0) (hi0 := 2) (offs := #[27, 32, 36]) (len := 27) (off := 36) (tgt := 37) (pc' := 28) (by decide +kernel) (by rw [c1_2]; decide) (by rw [c1_2]; decide) (by rw [c1_2]; decide) ?_
        refine sd_dload_n (k := 1) (i := 1) (q := 1) (pc' := 38) (by decide +kernel) rfl rfl ?_
        obtain ⟨g2, hf⟩ := gd_some hf
        refine sd_d2f (pc' := 39) (by decide +kernel) (nf_of g2) ?_
        obtain ⟨g3, hf⟩ := gd_some hf
        refine sd_f2d (pc' := 40) (by decide +kernel) (nd_of g3) ?_
        obtain ⟨t5, q4, hf⟩ := b1_some hf
        refine sF_callS (idx := 31) (As := [.double (FP.f2d (FP.d2f a1))]) (pc' := 43) 1 (T_XN_plain (G := G) (h := h)  q4) (by decide +kernel) mv_XN_plain ml_X3_31 (by decide +kernel) rfl rfl (Nat.le_of_ble_eq_true rfl) rfl ?_
        obtain rfl := Option.some.inj hf
        exact sd_dret (by decide +kernel) rfl (hE _)
      · replace hf := ite_n c1_2 hf
        have nc1_0 := ne_ti c1_0 (n := 0) (by decide)
        have nc1_1 := ne_ti c1_1 (n := 1) (by decide)
        have nc1_2 := ne_ti c1_2 (n := 2) (by decide)
        refine sd_tswOut (dflt := 43) (lo0 := 0) (hi0 := 2) (offs := #[27, 32, 36]) (len := 27) (tgt := 44) (pc' := 28) (by decide +kernel) (by omega) ?_
        refine sd_dload_n (k := 1) (i := 1) (q := 1) (pc' := 45) (by decide +kernel) rfl rfl ?_
        obtain rfl := Option.some.inj hf
        exact sd_dret (by decide +kernel) rfl (hE _)

def M_XN_isOver : sd_MX := (yX3_isOver, cX3_isOver, 5, (some .boolean), { frames := 1, cells := 0, slots := 0, locals := 40 })
def XN_isOver_B19 (s0 : Int64) : Option Int32 :=
  (if (lg_cmp s0 (Int32.toInt64 (Int64.toInt32 s0))) = 0 then some 0 else some 1)
set_option maxHeartbeats 4000000 in
set_option maxRecDepth 100000 in
theorem J_XN_isOver_B19 {G : sd_GX} {X : sd_CX} (hE : ∀ g : sd_H, sd_end G X M_XN_isOver (sd_F g)) {h : sd_H} {r : Int32} {s0 : Int64} (hf : XN_isOver_B19 s0 = some r) : sd_J G X (sd_QR G X M_XN_isOver (some (.int r), sd_F h)) M_XN_isOver 19 [] [.long s0] (sd_F h) := by
  unfold XN_isOver_B19 at hf
  refine sd_lstore_n (k := 3) (i := 3) (pc' := 20) (lo' := [(3, .long s0)]) (by decide +kernel) rfl (by decide) rfl ?_
  refine sd_lload_n (k := 3) (i := 3) (q := 0) (pc' := 21) (by decide +kernel) rfl rfl ?_
  refine sd_lload_n (k := 3) (i := 3) (q := 0) (pc' := 22) (by decide +kernel) rfl rfl ?_
  refine sd_l2i (pc' := 23) (by decide +kernel) rfl ?_
  refine sd_i2l (pc' := 24) (by decide +kernel) rfl ?_
  refine sd_lcmp (pc' := 25) (by decide +kernel) ?_
  refine sd_if_eq (off := 7) (tgt := 32) (pc' := 28) (by decide +kernel) (fun c2 => ?_) (fun c2 => ?_)
  · replace hf := ite_p c2 hf
    refine sd_iconst (n := 0) (v := 0) (pc' := 33) (by decide +kernel) (by decide) ?_
    obtain rfl := Option.some.inj hf
    exact sd_zret (by decide +kernel) rfl rfl (hE _)
  · replace hf := ite_n c2 hf
    refine sd_iconst (n := 1) (v := 1) (pc' := 29) (by decide +kernel) (by decide) ?_
    refine sd_goto (off := 4) (tgt := 33) (pc' := 32) (by decide +kernel) ?_
    obtain rfl := Option.some.inj hf
    exact sd_zret (by decide +kernel) rfl rfl (hE _)
def XN_isOver (a0 : Int32) (a1 : Int32) (a2 : Int32) : Option Int32 :=
  (if a0 = 11 then XN_isOver_B19 ((Int32.toInt64 a1) + (Int32.toInt64 a2)) else XN_isOver_B19 ((Int32.toInt64 a1) * (Int32.toInt64 a2)))
set_option maxHeartbeats 4000000 in
set_option maxRecDepth 100000 in
theorem T_XN_isOver {G : sd_GX} {h : sd_H} {a0 : Int32} {a1 : Int32} {a2 : Int32} {r : Int32} (hf : XN_isOver a0 a1 a2 = some r) : sd_RunF G M_XN_isOver [.int a0, .int a1, .int a2] h (some (.int r)) h := by
  refine sF_run ⟨rfl, rfl⟩ (by decide +kernel) (Nat.le_of_ble_eq_true rfl) (lo := [(0, .int a0), (1, .int a1), (2, .int a2)]) rfl (fun X hE => ?_)
  unfold XN_isOver at hf
  refine sd_iload_n (k := 0) (i := 0) (q := 0) (pc' := 1) (by decide +kernel) rfl rfl ?_
  refine sd_bipush (n := 11) (v := 11) (pc' := 3) (by decide +kernel) (by decide) ?_
  refine sd_icmp_ne (off := 11) (tgt := 14) (pc' := 6) (by decide +kernel) (fun c1 => ?_) (fun c1 => ?_)
  · replace hf := ite_n c1 hf
    refine sd_iload_n (k := 1) (i := 1) (q := 1) (pc' := 15) (by decide +kernel) rfl rfl ?_
    refine sd_i2l (pc' := 16) (by decide +kernel) rfl ?_
    refine sd_iload_n (k := 2) (i := 2) (q := 2) (pc' := 17) (by decide +kernel) rfl rfl ?_
    refine sd_i2l (pc' := 18) (by decide +kernel) rfl ?_
    refine sd_lmul (pc' := 19) (by decide +kernel) ?_
    refine sd_J.sub (lo' := []) [] rfl ?_
    exact J_XN_isOver_B19 hE (h := h) hf
  · replace hf := ite_p c1 hf
    refine sd_iload_n (k := 1) (i := 1) (q := 1) (pc' := 7) (by decide +kernel) rfl rfl ?_
    refine sd_i2l (pc' := 8) (by decide +kernel) rfl ?_
    refine sd_iload_n (k := 2) (i := 2) (q := 2) (pc' := 9) (by decide +kernel) rfl rfl ?_
    refine sd_i2l (pc' := 10) (by decide +kernel) rfl ?_
    refine sd_ladd (pc' := 11) (by decide +kernel) ?_
    refine sd_goto (off := 8) (tgt := 19) (pc' := 14) (by decide +kernel) ?_
    refine sd_J.sub (lo' := []) [] rfl ?_
    exact J_XN_isOver_B19 hE (h := h) hf

def M_XN_calculateInts : sd_MX := (yX3_calculateInts, cX3_calculateInts, 3, (some .int), { frames := 1, cells := 0, slots := 0, locals := 40 })
def XN_calculateInts (a0 : Int32) (a1 : Int32) (a2 : Int32) : Option Int32 :=
  (if a0 = 0 then some (a1 + a2) else (if a0 = 1 then some (a1 - a2) else (if a0 = 2 then some (a1 * a2) else (if a0 = 3 then (if a2 = 0 then some 0 else gd (nz a2) (some (a1 - a1 / a2 * a2))) else (if a0 = 4 then some (a1 * a2) else (if a0 = 5 then some (a1 * a2) else (if a0 = 6 then some (a1 &&& a2) else (if a0 = 7 then some (a1 ||| a2) else (if a0 = 8 then some (a1 ^^^ a2) else (if a0 = 9 then some (a1 * a2) else (if a0 = 10 then some (a1 * a2) else (if a0 = 11 then some (a1 + a2) else (some (a1 * a2))))))))))))))
set_option maxHeartbeats 4000000 in
set_option maxRecDepth 100000 in
theorem T_XN_calculateInts {G : sd_GX} {h : sd_H} {a0 : Int32} {a1 : Int32} {a2 : Int32} {r : Int32} (hf : XN_calculateInts a0 a1 a2 = some r) : sd_RunF G M_XN_calculateInts [.int a0, .int a1, .int a2] h (some (.int r)) h := by
  refine sF_run ⟨rfl, rfl⟩ (by decide +kernel) (Nat.le_of_ble_eq_true rfl) (lo := [(0, .int a0), (1, .int a1), (2, .int a2)]) rfl (fun X hE => ?_)
  unfold XN_calculateInts at hf
  refine sd_iload_n (k := 0) (i := 0) (q := 0) (pc' := 1) (by decide +kernel) rfl rfl ?_
  by_cases c1_0 : a0 = 0
  · replace hf := ite_p c1_0 hf
    refine sd_tswIn (dflt := 95) (lo0 := 0) (hi0 := 11) (offs := #[63, 67, 95, 71, 95, 95, 83, 87, 91, 95, 95, 63]) (len := 63) (off := 63) (tgt := 64) (pc' := 64) (by decide +kernel) (by rw [c1_0]; decide) (by rw [c1_0]; decide) (by rw [c1_0]; decide) ?_
    refine sd_iload_n (k := 1) (i := 1) (q := 1) (pc' := 65) (by decide +kernel) rfl rfl ?_
    refine sd_iload_n (k := 2) (i := 2) (q := 2) (pc' := 66) (by decide +kernel) rfl rfl ?_
    refine sd_iadd (pc' := 67) (by decide +kernel) ?_
    obtain rfl := Option.some.inj hf
    exact sd_iret (by decide +kernel) rfl (hE _)
  · replace hf := ite_n c1_0 hf
    by_cases c1_1 : a0 = 1
    · replace hf := ite_p c1_1 hf
      refine sd_tswIn (dflt := 95) (lo0 := 0) (hi0 := 11) (offs := #[63, 67, 95, 71, 95, 95, 83, 87, 91, 95, 95, 63]) (len := 63) (off := 67) (tgt := 68) (pc' := 64) (by decide +kernel) (by rw [c1_1]; decide) (by rw [c1_1]; decide) (by rw [c1_1]; decide) ?_
      refine sd_iload_n (k := 1) (i := 1) (q := 1) (pc' := 69) (by decide +kernel) rfl rfl ?_
      refine sd_iload_n (k := 2) (i := 2) (q := 2) (pc' := 70) (by decide +kernel) rfl rfl ?_
      refine sd_isub (pc' := 71) (by decide +kernel) ?_
      obtain rfl := Option.some.inj hf
      exact sd_iret (by decide +kernel) rfl (hE _)
    · replace hf := ite_n c1_1 hf
      by_cases c1_2 : a0 = 2
      · replace hf := ite_p c1_2 hf
        refine sd_tswIn (dflt := 95) (lo0 := 0) (hi0 := 11) (offs := #[63, 67, 95, 71, 95, 95, 83, 87, 91, 95, 95, 63]) (len := 63) (off := 95) (tgt := 96) (pc' := 64) (by decide +kernel) (by rw [c1_2]; decide) (by rw [c1_2]; decide) (by rw [c1_2]; decide) ?_
        refine sd_iload_n (k := 1) (i := 1) (q := 1) (pc' := 97) (by decide +kernel) rfl rfl ?_
        refine sd_iload_n (k := 2) (i := 2) (q := 2) (pc' := 98) (by decide +kernel) rfl rfl ?_
        refine sd_imul (pc' := 99) (by decide +kernel) ?_
        obtain rfl := Option.some.inj hf
        exact sd_iret (by decide +kernel) rfl (hE _)
      · replace hf := ite_n c1_2 hf
        by_cases c1_3 : a0 = 3
        · replace hf := ite_p c1_3 hf
          refine sd_tswIn (dflt := 95) (lo0 := 0) (hi0 := 11) (offs := #[63, 67, 95, 71, 95, 95, 83, 87, 91, 95, 95, 63]) (len := 63) (off := 71) (tgt := 72) (pc' := 64) (by decide +kernel) (by rw [c1_3]; decide) (by rw [c1_3]; decide) (by rw [c1_3]; decide) ?_
          refine sd_iload_n (k := 2) (i := 2) (q := 2) (pc' := 73) (by decide +kernel) rfl rfl ?_
          refine sd_if_ne (off := 7) (tgt := 80) (pc' := 76) (by decide +kernel) (fun c2 => ?_) (fun c2 => ?_)
          · replace hf := ite_n c2 hf
            refine sd_iload_n (k := 1) (i := 1) (q := 1) (pc' := 81) (by decide +kernel) rfl rfl ?_
            refine sd_iload_n (k := 2) (i := 2) (q := 2) (pc' := 82) (by decide +kernel) rfl rfl ?_
            obtain ⟨g3, hf⟩ := gd_some hf
            refine sd_irem (pc' := 83) (by decide +kernel) (nz_of g3) ?_
            obtain rfl := Option.some.inj hf
            exact sd_iret (by decide +kernel) rfl (hE _)
          · replace hf := ite_p c2 hf
            refine sd_iconst (n := 0) (v := 0) (pc' := 77) (by decide +kernel) (by decide) ?_
            refine sd_goto (off := 6) (tgt := 83) (pc' := 80) (by decide +kernel) ?_
            obtain rfl := Option.some.inj hf
            exact sd_iret (by decide +kernel) rfl (hE _)
        · replace hf := ite_n c1_3 hf
          by_cases c1_4 : a0 = 4
          · replace hf := ite_p c1_4 hf
            refine sd_tswIn (dflt := 95) (lo0 := 0) (hi0 := 11) (offs := #[63, 67, 95, 71, 95, 95, 83, 87, 91, 95, 95, 63]) (len := 63) (off := 95) (tgt := 96) (pc' := 64) (by decide +kernel) (by rw [c1_4]; decide) (by rw [c1_4]; decide) (by rw [c1_4]; decide) ?_
            refine sd_iload_n (k := 1) (i := 1) (q := 1) (pc' := 97) (by decide +kernel) rfl rfl ?_
            refine sd_iload_n (k := 2) (i := 2) (q := 2) (pc' := 98) (by decide +kernel) rfl rfl ?_
            refine sd_imul (pc' := 99) (by decide +kernel) ?_
            obtain rfl := Option.some.inj hf
            exact sd_iret (by decide +kernel) rfl (hE _)
          · replace hf := ite_n c1_4 hf
            by_cases c1_5 : a0 = 5
            · replace hf := ite_p c1_5 hf
              refine sd_tswIn (dflt := 95) (lo0 := 0) (hi0 := 11) (offs := #[63, 67, 95, 71, 95, 95, 83, 87, 91, 95, 95, 63]) (len := 63) (off := 95) (tgt := 96) (pc' := 64) (by decide +kernel) (by rw [c1_5]; decide) (by rw [c1_5]; decide) (by rw [c1_5]; decide) ?_
              refine sd_iload_n (k := 1) (i := 1) (q := 1) (pc' := 97) (by decide +kernel) rfl rfl ?_
              refine sd_iload_n (k := 2) (i := 2) (q := 2) (pc' := 98) (by decide +kernel) rfl rfl ?_
              refine sd_imul (pc' := 99) (by decide +kernel) ?_
              obtain rfl := Option.some.inj hf
              exact sd_iret (by decide +kernel) rfl (hE _)
            · replace hf := ite_n c1_5 hf
              by_cases c1_6 : a0 = 6
              · replace hf := ite_p c1_6 hf
                refine sd_tswIn (dflt := 95) (lo0 := 0) (hi0 := 11) (offs := #[63, 67, 95, 71, 95, 95, 83, 87, 91, 95, 95, 63]) (len := 63) (off := 83) (tgt := 84) (pc' := 64) (by decide +kernel) (by rw [c1_6]; decide) (by rw [c1_6]; decide) (by rw [c1_6]; decide) ?_
                refine sd_iload_n (k := 1) (i := 1) (q := 1) (pc' := 85) (by decide +kernel) rfl rfl ?_
                refine sd_iload_n (k := 2) (i := 2) (q := 2) (pc' := 86) (by decide +kernel) rfl rfl ?_
                refine sd_iand (pc' := 87) (by decide +kernel) ?_
                obtain rfl := Option.some.inj hf
                exact sd_iret (by decide +kernel) rfl (hE _)
              · replace hf := ite_n c1_6 hf
                by_cases c1_7 : a0 = 7
                · replace hf := ite_p c1_7 hf
                  refine sd_tswIn (dflt := 95) (lo0 := 0) (hi0 := 11) (offs := #[63, 67, 95, 71, 95, 95, 83, 87, 91, 95, 95, 63]) (len := 63) (off := 87) (tgt := 88) (pc' := 64) (by decide +kernel) (by rw [c1_7]; decide) (by rw [c1_7]; decide) (by rw [c1_7]; decide) ?_
                  refine sd_iload_n (k := 1) (i := 1) (q := 1) (pc' := 89) (by decide +kernel) rfl rfl ?_
                  refine sd_iload_n (k := 2) (i := 2) (q := 2) (pc' := 90) (by decide +kernel) rfl rfl ?_
                  refine sd_ior (pc' := 91) (by decide +kernel) ?_
                  obtain rfl := Option.some.inj hf
                  exact sd_iret (by decide +kernel) rfl (hE _)
                · replace hf := ite_n c1_7 hf
                  by_cases c1_8 : a0 = 8
                  · replace hf := ite_p c1_8 hf
                    refine sd_tswIn (dflt := 95) (lo0 := 0) (hi0 := 11) (offs := #[63, 67, 95, 71, 95, 95, 83, 87, 91, 95, 95, 63]) (len := 63) (off := 91) (tgt := 92) (pc' := 64) (by decide +kernel) (by rw [c1_8]; decide) (by rw [c1_8]; decide) (by rw [c1_8]; decide) ?_
                    refine sd_iload_n (k := 1) (i := 1) (q := 1) (pc' := 93) (by decide +kernel) rfl rfl ?_
                    refine sd_iload_n (k := 2) (i := 2) (q := 2) (pc' := 94) (by decide +kernel) rfl rfl ?_
                    refine sd_ixor (pc' := 95) (by decide +kernel) ?_
                    obtain rfl := Option.some.inj hf
                    exact sd_iret (by decide +kernel) rfl (hE _)
                  · replace hf := ite_n c1_8 hf
                    by_cases c1_9 : a0 = 9
                    · replace hf := ite_p c1_9 hf
                      refine sd_tswIn (dflt := 95) (lo0 := 0) (hi0 := 11) (offs := #[63, 67, 95, 71, 95, 95, 83, 87, 91, 95, 95, 63]) (len := 63) (off := 95) (tgt := 96) (pc' := 64) (by decide +kernel) (by rw [c1_9]; decide) (by rw [c1_9]; decide) (by rw [c1_9]; decide) ?_
                      refine sd_iload_n (k := 1) (i := 1) (q := 1) (pc' := 97) (by decide +kernel) rfl rfl ?_
                      refine sd_iload_n (k := 2) (i := 2) (q := 2) (pc' := 98) (by decide +kernel) rfl rfl ?_
                      refine sd_imul (pc' := 99) (by decide +kernel) ?_
                      obtain rfl := Option.some.inj hf
                      exact sd_iret (by decide +kernel) rfl (hE _)
                    · replace hf := ite_n c1_9 hf
                      by_cases c1_10 : a0 = 10
                      · replace hf := ite_p c1_10 hf
                        refine sd_tswIn (dflt := 95) (lo0 := 0) (hi0 := 11) (offs := #[63, 67, 95, 71, 95, 95, 83, 87, 91, 95, 95, 63]) (len := 63) (off := 95) (tgt := 96) (pc' := 64) (by decide +kernel) (by rw [c1_10]; decide) (by rw [c1_10]; decide) (by rw [c1_10]; decide) ?_
                        refine sd_iload_n (k := 1) (i := 1) (q := 1) (pc' := 97) (by decide +kernel) rfl rfl ?_
                        refine sd_iload_n (k := 2) (i := 2) (q := 2) (pc' := 98) (by decide +kernel) rfl rfl ?_
                        refine sd_imul (pc' := 99) (by decide +kernel) ?_
                        obtain rfl := Option.some.inj hf
                        exact sd_iret (by decide +kernel) rfl (hE _)
                      · replace hf := ite_n c1_10 hf
                        by_cases c1_11 : a0 = 11
                        · replace hf := ite_p c1_11 hf
                          refine sd_tswIn (dflt := 95) (lo0 := 0) (hi0 := 11) (offs := #[63, 67, 95, 71, 95, 95, 83, 87, 91, 95, 95, 63]) (len := 63) (off := 63) (tgt := 64) (pc' := 64) (by decide +kernel) (by rw [c1_11]; decide) (by rw [c1_11]; decide) (by rw [c1_11]; decide) ?_
                          refine sd_iload_n (k := 1) (i := 1) (q := 1) (pc' := 65) (by decide +kernel) rfl rfl ?_
                          refine sd_iload_n (k := 2) (i := 2) (q := 2) (pc' := 66) (by decide +kernel) rfl rfl ?_
                          refine sd_iadd (pc' := 67) (by decide +kernel) ?_
                          obtain rfl := Option.some.inj hf
                          exact sd_iret (by decide +kernel) rfl (hE _)
                        · replace hf := ite_n c1_11 hf
                          have nc1_0 := ne_ti c1_0 (n := 0) (by decide)
                          have nc1_1 := ne_ti c1_1 (n := 1) (by decide)
                          have nc1_2 := ne_ti c1_2 (n := 2) (by decide)
                          have nc1_3 := ne_ti c1_3 (n := 3) (by decide)
                          have nc1_4 := ne_ti c1_4 (n := 4) (by decide)
                          have nc1_5 := ne_ti c1_5 (n := 5) (by decide)
                          have nc1_6 := ne_ti c1_6 (n := 6) (by decide)
                          have nc1_7 := ne_ti c1_7 (n := 7) (by decide)
                          have nc1_8 := ne_ti c1_8 (n := 8) (by decide)
                          have nc1_9 := ne_ti c1_9 (n := 9) (by decide)
                          have nc1_10 := ne_ti c1_10 (n := 10) (by decide)
                          have nc1_11 := ne_ti c1_11 (n := 11) (by decide)
                          refine sd_tswOut (dflt := 95) (lo0 := 0) (hi0 := 11) (offs := #[63, 67, 95, 71, 95, 95, 83, 87, 91, 95, 95, 63]) (len := 63) (tgt := 96) (pc' := 64) (by decide +kernel) (by omega) ?_
                          refine sd_iload_n (k := 1) (i := 1) (q := 1) (pc' := 97) (by decide +kernel) rfl rfl ?_
                          refine sd_iload_n (k := 2) (i := 2) (q := 2) (pc' := 98) (by decide +kernel) rfl rfl ?_
                          refine sd_imul (pc' := 99) (by decide +kernel) ?_
                          obtain rfl := Option.some.inj hf
                          exact sd_iret (by decide +kernel) rfl (hE _)

def M_XN_remainder : sd_MX := (yX3_remainder, cX3_remainder, 9, (some .double), { frames := 2, cells := 0, slots := 0, locals := 61 })
def XN_remainder_B93 (s0 : UInt64) : Option UInt64 :=
  b1 (XN_plain s0) (fun t9 => some t9)
set_option maxHeartbeats 4000000 in
set_option maxRecDepth 100000 in
theorem J_XN_remainder_B93 {G : sd_GX} {X : sd_CX} (hE : ∀ g : sd_H, sd_end G X M_XN_remainder (sd_F g)) {h : sd_H} {r : UInt64} {s0 : UInt64} (hf : XN_remainder_B93 s0 = some r) : sd_J G X (sd_QR G X M_XN_remainder (some (.double r), sd_F h)) M_XN_remainder 93 [] [.double s0] (sd_F h) := by
  unfold XN_remainder_B93 at hf
  obtain ⟨t9, q8, hf⟩ := b1_some hf
  refine sF_callS (idx := 31) (As := [.double s0]) (pc' := 96) 1 (T_XN_plain (G := G) (h := h)  q8) (by decide +kernel) mv_XN_plain ml_X3_31 (by decide +kernel) rfl rfl (Nat.le_of_ble_eq_true rfl) rfl ?_
  obtain rfl := Option.some.inj hf
  exact sd_dret (by decide +kernel) rfl (hE _)
def XN_remainder_B73 (K45 : UInt64 → UInt64 → UInt64 → Int32 → Option UInt64) (l0 : UInt64) (l4 : UInt64) (l6 : UInt64) (l8 : Int32) : Option UInt64 :=
  K45 l0 l4 l6 (l8 + (-1))
set_option maxHeartbeats 4000000 in
set_option maxRecDepth 100000 in
theorem J_XN_remainder_B73 {G : sd_GX} {X : sd_CX} (hE : ∀ g : sd_H, sd_end G X M_XN_remainder (sd_F g)) {h : sd_H} {K45 : UInt64 → UInt64 → UInt64 → Int32 → Option UInt64} {r : UInt64} (hK45 : ∀ (l0 : UInt64) (l4 : UInt64) (l6 : UInt64) (l8 : Int32), K45 l0 l4 l6 l8 = some r → sd_J G X (sd_QR G X M_XN_remainder (some (.double r), sd_F h)) M_XN_remainder 45 [(0, .double l0), (4, .double l4), (6, .double l6), (8, .int l8)] [] (sd_F h)) {l0 : UInt64} {l4 : UInt64} {l6 : UInt64} {l8 : Int32} (hf : XN_remainder_B73 K45 l0 l4 l6 l8 = some r) : sd_J G X (sd_QR G X M_XN_remainder (some (.double r), sd_F h)) M_XN_remainder 73 [(0, .double l0), (4, .double l4), (6, .double l6), (8, .int l8)] [] (sd_F h) := by
  unfold XN_remainder_B73 at hf
  refine sd_iinc (i := 8) (q := 3) (n := -1) (v := (l8 + (-1))) (pc' := 76) (lo' := [(8, .int (l8 + (-1))), (0, .double l0), (4, .double l4), (6, .double l6)]) (by decide +kernel) rfl rfl (by decide) rfl ?_
  refine sd_goto (off := -31) (tgt := 45) (pc' := 79) (by decide +kernel) ?_
  refine sd_J.sub (lo' := [(0, .double l0), (4, .double l4), (6, .double l6), (8, .int (l8 + (-1)))]) [1, 2, 3, 0] rfl ?_
  exact hK45 _ _ _ _ hf
def XN_remainder_L45 : Nat → UInt64 → UInt64 → UInt64 → Int32 → Option UInt64
  | 0, _, _, _, _ => none
  | n + 1, l0, l4, l6, l8 =>
  (if l8 ≤ 0 then (if 0 ≤ (Op.cmpValue (FP.dcmp l0 FP.dconst0) .g) then XN_remainder_B93 l4 else XN_remainder_B93 (FP.dneg l4)) else gd (nd (FP.ddiv l6 4611686018427387904)) ((if (Op.cmpValue (FP.dcmp l4 (FP.ddiv l6 4611686018427387904)) .l) < 0 then XN_remainder_B73 (XN_remainder_L45 n) l0 l4 (FP.ddiv l6 4611686018427387904) l8 else gd (nd (FP.dsub l4 (FP.ddiv l6 4611686018427387904))) (XN_remainder_B73 (XN_remainder_L45 n) l0 (FP.dsub l4 (FP.ddiv l6 4611686018427387904)) (FP.ddiv l6 4611686018427387904) l8))))
set_option maxHeartbeats 4000000 in
set_option maxRecDepth 100000 in
theorem J_XN_remainder_L45 {G : sd_GX} {X : sd_CX} (hE : ∀ g : sd_H, sd_end G X M_XN_remainder (sd_F g)) {h : sd_H} {r : UInt64} : ∀ (n : Nat) (l0 : UInt64) (l4 : UInt64) (l6 : UInt64) (l8 : Int32), XN_remainder_L45 n l0 l4 l6 l8 = some r → sd_J G X (sd_QR G X M_XN_remainder (some (.double r), sd_F h)) M_XN_remainder 45 [(0, .double l0), (4, .double l4), (6, .double l6), (8, .int l8)] [] (sd_F h) := by
  intro n
  induction n with
  | zero =>
    intro l0 l4 l6 l8 hf
    rw [XN_remainder_L45] at hf
    cases hf
  | succ n ih =>
    intro l0 l4 l6 l8 hf
    rw [XN_remainder_L45] at hf
    refine sd_iload (i := 8) (q := 3) (pc' := 47) (by decide +kernel) rfl ?_
    refine sd_if_le (off := 32) (tgt := 79) (pc' := 50) (by decide +kernel) (fun c6 => ?_) (fun c6 => ?_)
    · replace hf := ite_p c6 hf
      refine sd_dload_n (k := 0) (i := 0) (q := 0) (pc' := 80) (by decide +kernel) rfl rfl ?_
      refine sd_dconst0 (pc' := 81) (by decide +kernel) ?_
      refine sd_dcmp (op := .g) (pc' := 82) (by decide +kernel) ?_
      refine sd_if_ge (off := 9) (tgt := 91) (pc' := 85) (by decide +kernel) (fun c7 => ?_) (fun c7 => ?_)
      · replace hf := ite_p c7 hf
        refine sd_dload (i := 4) (q := 1) (pc' := 93) (by decide +kernel) rfl ?_
        refine sd_J.sub (lo' := []) [] rfl ?_
        exact J_XN_remainder_B93 hE (h := h) hf
      · replace hf := ite_n c7 hf
        refine sd_dload (i := 4) (q := 1) (pc' := 87) (by decide +kernel) rfl ?_
        refine sd_dneg (pc' := 88) (by decide +kernel) ?_
        refine sd_goto (off := 5) (tgt := 93) (pc' := 91) (by decide +kernel) ?_
        refine sd_J.sub (lo' := []) [] rfl ?_
        exact J_XN_remainder_B93 hE (h := h) hf
    · replace hf := ite_n c6 hf
      refine sd_dload (i := 6) (q := 2) (pc' := 52) (by decide +kernel) rfl ?_
      refine sd_ldc2d (idx := 29) (v := 4611686018427387904) (pc' := 55) (by decide +kernel) (sd_mem (i := 532) (by decide +kernel)) ?_
      obtain ⟨g10, hf⟩ := gd_some hf
      refine sd_ddiv (pc' := 56) (by decide +kernel) (nd_of g10) ?_
      refine sd_dstore (i := 6) (pc' := 58) (lo' := [(6, .double (FP.ddiv l6 4611686018427387904)), (0, .double l0), (4, .double l4), (8, .int l8)]) (by decide +kernel) (by decide) rfl ?_
      refine sd_dload (i := 4) (q := 2) (pc' := 60) (by decide +kernel) rfl ?_
      refine sd_dload (i := 6) (q := 0) (pc' := 62) (by decide +kernel) rfl ?_
      refine sd_dcmp (op := .l) (pc' := 63) (by decide +kernel) ?_
      refine sd_if_lt (off := 10) (tgt := 73) (pc' := 66) (by decide +kernel) (fun c11 => ?_) (fun c11 => ?_)
      · replace hf := ite_p c11 hf
        refine sd_J.sub (lo' := [(0, .double l0), (4, .double l4), (6, .double (FP.ddiv l6 4611686018427387904)), (8, .int l8)]) [1, 2, 0, 3] rfl ?_
        exact J_XN_remainder_B73 hE (h := h) ih hf
      · replace hf := ite_n c11 hf
        refine sd_dload (i := 4) (q := 2) (pc' := 68) (by decide +kernel) rfl ?_
        refine sd_dload (i := 6) (q := 0) (pc' := 70) (by decide +kernel) rfl ?_
        obtain ⟨g12, hf⟩ := gd_some hf
        refine sd_dsub (pc' := 71) (by decide +kernel) (nd_of g12) ?_
        refine sd_dstore (i := 4) (pc' := 73) (lo' := [(4, .double (FP.dsub l4 (FP.ddiv l6 4611686018427387904))), (6, .double (FP.ddiv l6 4611686018427387904)), (0, .double l0), (8, .int l8)]) (by decide +kernel) (by decide) rfl ?_
        refine sd_J.sub (lo' := [(0, .double l0), (4, .double (FP.dsub l4 (FP.ddiv l6 4611686018427387904))), (6, .double (FP.ddiv l6 4611686018427387904)), (8, .int l8)]) [2, 0, 1, 3] rfl ?_
        exact J_XN_remainder_B73 hE (h := h) ih hf
def XN_remainder_L15 : Nat → UInt64 → UInt64 → UInt64 → Int32 → Option UInt64
  | 0, _, _, _, _ => none
  | n + 1, l0, l4, l6, l8 =>
  (if 2200 ≤ l8 then XN_remainder_L45 FU l0 l4 l6 l8 else (if 0 < (Op.cmpValue (FP.dcmp l6 l4) .g) then XN_remainder_L45 FU l0 l4 l6 l8 else gd (nd (FP.dmul l6 4611686018427387904)) (XN_remainder_L15 n l0 l4 (FP.dmul l6 4611686018427387904) (l8 + 1))))
set_option maxHeartbeats 4000000 in
set_option maxRecDepth 100000 in
theorem J_XN_remainder_L15 {G : sd_GX} {X : sd_CX} (hE : ∀ g : sd_H, sd_end G X M_XN_remainder (sd_F g)) {h : sd_H} {r : UInt64} : ∀ (n : Nat) (l0 : UInt64) (l4 : UInt64) (l6 : UInt64) (l8 : Int32), XN_remainder_L15 n l0 l4 l6 l8 = some r → sd_J G X (sd_QR G X M_XN_remainder (some (.double r), sd_F h)) M_XN_remainder 15 [(0, .double l0), (4, .double l4), (6, .double l6), (8, .int l8)] [] (sd_F h) := by
  intro n
  induction n with
  | zero =>
    intro l0 l4 l6 l8 hf
    rw [XN_remainder_L15] at hf
    cases hf
  | succ n ih =>
    intro l0 l4 l6 l8 hf
    rw [XN_remainder_L15] at hf
    refine sd_iload (i := 8) (q := 3) (pc' := 17) (by decide +kernel) rfl ?_
    refine sd_sipush (n := 2200) (v := 2200) (pc' := 20) (by decide +kernel) (by decide) ?_
    refine sd_icmp_ge (off := 25) (tgt := 45) (pc' := 23) (by decide +kernel) (fun c5 => ?_) (fun c5 => ?_)
    · replace hf := ite_p c5 hf
      refine sd_J.sub (lo' := [(0, .double l0), (4, .double l4), (6, .double l6), (8, .int l8)]) [0, 1, 2, 3] rfl ?_
      exact J_XN_remainder_L45 hE (h := h) _ _ _ _ _ hf
    · replace hf := ite_n c5 hf
      refine sd_dload (i := 6) (q := 2) (pc' := 25) (by decide +kernel) rfl ?_
      refine sd_dload (i := 4) (q := 1) (pc' := 27) (by decide +kernel) rfl ?_
      refine sd_dcmp (op := .g) (pc' := 28) (by decide +kernel) ?_
      refine sd_if_gt (off := 17) (tgt := 45) (pc' := 31) (by decide +kernel) (fun c13 => ?_) (fun c13 => ?_)
      · replace hf := ite_p c13 hf
        refine sd_J.sub (lo' := [(0, .double l0), (4, .double l4), (6, .double l6), (8, .int l8)]) [0, 1, 2, 3] rfl ?_
        exact J_XN_remainder_L45 hE (h := h) _ _ _ _ _ hf
      · replace hf := ite_n c13 hf
        refine sd_dload (i := 6) (q := 2) (pc' := 33) (by decide +kernel) rfl ?_
        refine sd_ldc2d (idx := 29) (v := 4611686018427387904) (pc' := 36) (by decide +kernel) (sd_mem (i := 532) (by decide +kernel)) ?_
        obtain ⟨g14, hf⟩ := gd_some hf
        refine sd_dmul (pc' := 37) (by decide +kernel) (nd_of g14) ?_
        refine sd_dstore (i := 6) (pc' := 39) (lo' := [(6, .double (FP.dmul l6 4611686018427387904)), (0, .double l0), (4, .double l4), (8, .int l8)]) (by decide +kernel) (by decide) rfl ?_
        refine sd_iinc (i := 8) (q := 3) (n := 1) (v := (l8 + 1)) (pc' := 42) (lo' := [(8, .int (l8 + 1)), (6, .double (FP.dmul l6 4611686018427387904)), (0, .double l0), (4, .double l4)]) (by decide +kernel) rfl rfl (by decide) rfl ?_
        refine sd_goto (off := -27) (tgt := 15) (pc' := 45) (by decide +kernel) ?_
        refine sd_J.sub (lo' := [(0, .double l0), (4, .double l4), (6, .double (FP.dmul l6 4611686018427387904)), (8, .int (l8 + 1))]) [2, 3, 1, 0] rfl ?_
        exact ih _ _ _ _ hf
def XN_remainder (a0 : UInt64) (a1 : UInt64) : Option UInt64 :=
  b1 (XN_sizeOf a0) (fun t2 => b1 (XN_sizeOf a1) (fun t4 => XN_remainder_L15 FU a0 t2 t4 0))
set_option maxHeartbeats 4000000 in
set_option maxRecDepth 100000 in
theorem T_XN_remainder {G : sd_GX} {h : sd_H} {a0 : UInt64} {a1 : UInt64} {r : UInt64} (hf : XN_remainder a0 a1 = some r) : sd_RunF G M_XN_remainder [.double a0, .double a1] h (some (.double r)) h := by
  refine sF_run ⟨rfl, rfl⟩ (by decide +kernel) (Nat.le_of_ble_eq_true rfl) (lo := [(0, .double a0), (2, .double a1)]) rfl (fun X hE => ?_)
  unfold XN_remainder at hf
  refine sd_dload_n (k := 0) (i := 0) (q := 0) (pc' := 1) (by decide +kernel) rfl rfl ?_
  obtain ⟨t2, q1, hf⟩ := b1_some hf
  refine sF_callS (idx := 25) (As := [.double a0]) (pc' := 4) 1 (T_XN_sizeOf (G := G) (h := h)  q1) (by decide +kernel) mv_XN_sizeOf ml_X3_25 (by decide +kernel) rfl rfl (Nat.le_of_ble_eq_true rfl) rfl ?_
  refine sd_dstore (i := 4) (pc' := 6) (lo' := [(4, .double t2), (0, .double a0), (2, .double a1)]) (by decide +kernel) (by decide) rfl ?_
  refine sd_dload_n (k := 2) (i := 2) (q := 2) (pc' := 7) (by decide +kernel) rfl rfl ?_
  obtain ⟨t4, q3, hf⟩ := b1_some hf
  refine sF_callS (idx := 25) (As := [.double a1]) (pc' := 10) 1 (T_XN_sizeOf (G := G) (h := h)  q3) (by decide +kernel) mv_XN_sizeOf ml_X3_25 (by decide +kernel) rfl rfl (Nat.le_of_ble_eq_true rfl) rfl ?_
  refine sd_dstore (i := 6) (pc' := 12) (lo' := [(6, .double t4), (4, .double t2), (0, .double a0), (2, .double a1)]) (by decide +kernel) (by decide) rfl ?_
  refine sd_iconst (n := 0) (v := 0) (pc' := 13) (by decide +kernel) (by decide) ?_
  refine sd_istore (i := 8) (pc' := 15) (lo' := [(8, .int 0), (6, .double t4), (4, .double t2), (0, .double a0), (2, .double a1)]) (by decide +kernel) (by decide) rfl ?_
  refine sd_J.sub (lo' := [(0, .double a0), (4, .double t2), (6, .double t4), (8, .int 0)]) [3, 2, 1, 0] rfl ?_
  exact J_XN_remainder_L15 hE (h := h) _ _ _ _ _ hf

def M_XN_calculateFloats : sd_MX := (yX3_calculateFloats, cX3_calculateFloats, 3, (some .float), { frames := 1, cells := 0, slots := 0, locals := 40 })
def XN_calculateFloats (a0 : Int32) (a1 : UInt32) (a2 : UInt32) : Option UInt32 :=
  (if a0 = 0 then gd (nf (FP.fadd a1 a2)) (some (FP.fadd a1 a2)) else (if a0 = 1 then gd (nf (FP.fsub a1 a2)) (some (FP.fsub a1 a2)) else (gd (nf (FP.fmul a1 a2)) (some (FP.fmul a1 a2)))))
set_option maxHeartbeats 4000000 in
set_option maxRecDepth 100000 in
theorem T_XN_calculateFloats {G : sd_GX} {h : sd_H} {a0 : Int32} {a1 : UInt32} {a2 : UInt32} {r : UInt32} (hf : XN_calculateFloats a0 a1 a2 = some r) : sd_RunF G M_XN_calculateFloats [.int a0, .float a1, .float a2] h (some (.float r)) h := by
  refine sF_run ⟨rfl, rfl⟩ (by decide +kernel) (Nat.le_of_ble_eq_true rfl) (lo := [(0, .int a0), (1, .float a1), (2, .float a2)]) rfl (fun X hE => ?_)
  unfold XN_calculateFloats at hf
  refine sd_iload_n (k := 0) (i := 0) (q := 0) (pc' := 1) (by decide +kernel) rfl rfl ?_
  by_cases c1_0 : a0 = 0
  · replace hf := ite_p c1_0 hf
    refine sd_lsw (dflt := 35) (ps := #[(0, 27), (1, 31)]) (len := 27) (off := 27) (tgt := 28) (pc' := 28) (by decide +kernel) (by decide) (by rw [c1_0]; decide) ?_
    refine sd_fload_n (k := 1) (i := 1) (q := 1) (pc' := 29) (by decide +kernel) rfl rfl ?_
    refine sd_fload_n (k := 2) (i := 2) (q := 2) (pc' := 30) (by decide +kernel) rfl rfl ?_
    obtain ⟨g2, hf⟩ := gd_some hf
    refine sd_fadd (pc' := 31) (by decide +kernel) (nf_of g2) ?_
    obtain rfl := Option.some.inj hf
    exact sd_fret (by decide +kernel) rfl (hE _)
  · replace hf := ite_n c1_0 hf
    by_cases c1_1 : a0 = 1
    · replace hf := ite_p c1_1 hf
      refine sd_lsw (dflt := 35) (ps := #[(0, 27), (1, 31)]) (len := 27) (off := 31) (tgt := 32) (pc' := 28) (by decide +kernel) (by decide) (by rw [c1_1]; decide) ?_
      refine sd_fload_n (k := 1) (i := 1) (q := 1) (pc' := 33) (by decide +kernel) rfl rfl ?_
      refine sd_fload_n (k := 2) (i := 2) (q := 2) (pc' := 34) (by decide +kernel) rfl rfl ?_
      obtain ⟨g3, hf⟩ := gd_some hf
      refine sd_fsub (pc' := 35) (by decide +kernel) (nf_of g3) ?_
      obtain rfl := Option.some.inj hf
      exact sd_fret (by decide +kernel) rfl (hE _)
    · replace hf := ite_n c1_1 hf
      refine sd_lsw (dflt := 35) (ps := #[(0, 27), (1, 31)]) (len := 27) (off := 35) (tgt := 36) (pc' := 28) (by decide +kernel) (by decide) (by show Op.lookupswitch.offset [(0, 27), (1, 31)] 35 (a0 : Int32).toInt = 35; rw [lv_osw c1_0 (by decide), lv_osw c1_1 (by decide)]; rfl) ?_
      refine sd_fload_n (k := 1) (i := 1) (q := 1) (pc' := 37) (by decide +kernel) rfl rfl ?_
      refine sd_fload_n (k := 2) (i := 2) (q := 2) (pc' := 38) (by decide +kernel) rfl rfl ?_
      obtain ⟨g4, hf⟩ := gd_some hf
      refine sd_fmul (pc' := 39) (by decide +kernel) (nf_of g4) ?_
      obtain rfl := Option.some.inj hf
      exact sd_fret (by decide +kernel) rfl (hE _)

def M_XN_calculateDoubles : sd_MX := (yX3_calculateDoubles, cX3_calculateDoubles, 5, (some .double), { frames := 1, cells := 0, slots := 0, locals := 40 })
def XN_calculateDoubles (a0 : Int32) (a1 : UInt64) (a2 : UInt64) : Option UInt64 :=
  (if a0 = 0 then gd (nd (FP.dadd a1 a2)) (some (FP.dadd a1 a2)) else (if a0 = 1 then gd (nd (FP.dsub a1 a2)) (some (FP.dsub a1 a2)) else (gd (nd (FP.dmul a1 a2)) (some (FP.dmul a1 a2)))))
set_option maxHeartbeats 4000000 in
set_option maxRecDepth 100000 in
theorem T_XN_calculateDoubles {G : sd_GX} {h : sd_H} {a0 : Int32} {a1 : UInt64} {a2 : UInt64} {r : UInt64} (hf : XN_calculateDoubles a0 a1 a2 = some r) : sd_RunF G M_XN_calculateDoubles [.int a0, .double a1, .double a2] h (some (.double r)) h := by
  refine sF_run ⟨rfl, rfl⟩ (by decide +kernel) (Nat.le_of_ble_eq_true rfl) (lo := [(0, .int a0), (1, .double a1), (3, .double a2)]) rfl (fun X hE => ?_)
  unfold XN_calculateDoubles at hf
  refine sd_iload_n (k := 0) (i := 0) (q := 0) (pc' := 1) (by decide +kernel) rfl rfl ?_
  by_cases c1_0 : a0 = 0
  · replace hf := ite_p c1_0 hf
    refine sd_lsw (dflt := 35) (ps := #[(0, 27), (1, 31)]) (len := 27) (off := 27) (tgt := 28) (pc' := 28) (by decide +kernel) (by decide) (by rw [c1_0]; decide) ?_
    refine sd_dload_n (k := 1) (i := 1) (q := 1) (pc' := 29) (by decide +kernel) rfl rfl ?_
    refine sd_dload_n (k := 3) (i := 3) (q := 2) (pc' := 30) (by decide +kernel) rfl rfl ?_
    obtain ⟨g2, hf⟩ := gd_some hf
    refine sd_dadd (pc' := 31) (by decide +kernel) (nd_of g2) ?_
    obtain rfl := Option.some.inj hf
    exact sd_dret (by decide +kernel) rfl (hE _)
  · replace hf := ite_n c1_0 hf
    by_cases c1_1 : a0 = 1
    · replace hf := ite_p c1_1 hf
      refine sd_lsw (dflt := 35) (ps := #[(0, 27), (1, 31)]) (len := 27) (off := 31) (tgt := 32) (pc' := 28) (by decide +kernel) (by decide) (by rw [c1_1]; decide) ?_
      refine sd_dload_n (k := 1) (i := 1) (q := 1) (pc' := 33) (by decide +kernel) rfl rfl ?_
      refine sd_dload_n (k := 3) (i := 3) (q := 2) (pc' := 34) (by decide +kernel) rfl rfl ?_
      obtain ⟨g3, hf⟩ := gd_some hf
      refine sd_dsub (pc' := 35) (by decide +kernel) (nd_of g3) ?_
      obtain rfl := Option.some.inj hf
      exact sd_dret (by decide +kernel) rfl (hE _)
    · replace hf := ite_n c1_1 hf
      refine sd_lsw (dflt := 35) (ps := #[(0, 27), (1, 31)]) (len := 27) (off := 35) (tgt := 36) (pc' := 28) (by decide +kernel) (by decide) (by show Op.lookupswitch.offset [(0, 27), (1, 31)] 35 (a0 : Int32).toInt = 35; rw [lv_osw c1_0 (by decide), lv_osw c1_1 (by decide)]; rfl) ?_
      refine sd_dload_n (k := 1) (i := 1) (q := 1) (pc' := 37) (by decide +kernel) rfl rfl ?_
      refine sd_dload_n (k := 3) (i := 3) (q := 2) (pc' := 38) (by decide +kernel) rfl rfl ?_
      obtain ⟨g4, hf⟩ := gd_some hf
      refine sd_dmul (pc' := 39) (by decide +kernel) (nd_of g4) ?_
      obtain rfl := Option.some.inj hf
      exact sd_dret (by decide +kernel) rfl (hE _)

theorem ml_X3_46 : Cond.methodLink RX3 46 yX3_calculateDoubles ∈ sd_tb := sd_mem (i := 1025) (by decide +kernel)
theorem mv_XN_calculateDoubles : sd_mS M_XN_calculateDoubles 3 := ⟨sd_mem (i := 1026) (by decide +kernel), ⟨sd_mem (i := 1027) (by decide +kernel), sd_mem (i := 120) (by decide +kernel), by decide +kernel, by decide +kernel, by decide +kernel⟩⟩
theorem ml_X3_38 : Cond.methodLink RX3 38 yX3_remainder ∈ sd_tb := sd_mem (i := 1019) (by decide +kernel)
theorem mv_XN_remainder : sd_mS M_XN_remainder 2 := ⟨sd_mem (i := 1020) (by decide +kernel), ⟨sd_mem (i := 1021) (by decide +kernel), sd_mem (i := 120) (by decide +kernel), by decide +kernel, by decide +kernel, by decide +kernel⟩⟩
theorem ml_X3_42 : Cond.methodLink RX3 42 yX3_calculateFloats ∈ sd_tb := sd_mem (i := 1022) (by decide +kernel)
theorem mv_XN_calculateFloats : sd_mS M_XN_calculateFloats 3 := ⟨sd_mem (i := 1023) (by decide +kernel), ⟨sd_mem (i := 1024) (by decide +kernel), sd_mem (i := 120) (by decide +kernel), by decide +kernel, by decide +kernel, by decide +kernel⟩⟩
theorem ml_X3_34 : Cond.methodLink RX3 34 yX3_calculateInts ∈ sd_tb := sd_mem (i := 1016) (by decide +kernel)
theorem mv_XN_calculateInts : sd_mS M_XN_calculateInts 3 := ⟨sd_mem (i := 1017) (by decide +kernel), ⟨sd_mem (i := 1018) (by decide +kernel), sd_mem (i := 120) (by decide +kernel), by decide +kernel, by decide +kernel, by decide +kernel⟩⟩
def M_XN_calculate : sd_MX := (yX3_calculate, cX3_calculate, 6, (some .double), { frames := 3, cells := 0, slots := 0, locals := 89 })
def XN_calculate_B138 (s0 : UInt64) : Option UInt64 :=
  b1 (XN_remainder s0 4652218415073722368) (fun t10 => some t10)
set_option maxHeartbeats 4000000 in
set_option maxRecDepth 100000 in
theorem J_XN_calculate_B138 {G : sd_GX} {X : sd_CX} (hE : ∀ g : sd_H, sd_end G X M_XN_calculate (sd_F g)) {h : sd_H} {r : UInt64} {s0 : UInt64} (hf : XN_calculate_B138 s0 = some r) : sd_J G X (sd_QR G X M_XN_calculate (some (.double r), sd_F h)) M_XN_calculate 138 [] [.double s0] (sd_F h) := by
  unfold XN_calculate_B138 at hf
  refine sd_ldc2d (idx := 50) (v := 4652218415073722368) (pc' := 141) (by decide +kernel) (sd_mem (i := 1028) (by decide +kernel)) ?_
  obtain ⟨t10, q9, hf⟩ := b1_some hf
  refine sF_callS (idx := 38) (As := [.double s0, .double 4652218415073722368]) (pc' := 144) 2 (T_XN_remainder (G := G) (h := h)  q9) (by decide +kernel) mv_XN_remainder ml_X3_38 (by decide +kernel) rfl rfl (Nat.le_of_ble_eq_true rfl) rfl ?_
  obtain rfl := Option.some.inj hf
  exact sd_dret (by decide +kernel) rfl (hE _)
def XN_calculate (a0 : Int32) (a1 : Int32) (a2 : UInt64) (a3 : UInt64) : Option UInt64 :=
  (if a0 = 4 then (if (Op.cmpValue (FP.dcmp a2 a3) .l) < 0 then some a3 else some a2) else (if a0 = 5 then (if 0 < (Op.cmpValue (FP.dcmp a2 a3) .g) then some a3 else some a2) else (if a0 = 6 then (if a1 = 1 then b1 (XN_calculateInts a0 (FP.d2i a2) (FP.d2i a3)) (fun t20 => some (FP.i2d t20)) else (if a0 = 3 then (if (Op.cmpValue (FP.dcmp a3 FP.dconst0) .l) = 0 then some FP.dconst0 else b1 (XN_remainder a2 a3) (fun t18 => some t18)) else (if a1 = 2 then gd (nf (FP.d2f a2)) (gd (nf (FP.d2f a3)) (b1 (XN_calculateFloats a0 (FP.d2f a2) (FP.d2f a3)) (fun t14 => gd (nd (FP.f2d t14)) (XN_calculate_B138 (FP.f2d t14))))) else b1 (XN_calculateDoubles a0 a2 a3) (fun t8 => XN_calculate_B138 t8)))) else (if a0 = 7 then (if a1 = 1 then b1 (XN_calculateInts a0 (FP.d2i a2) (FP.d2i a3)) (fun t35 => some (FP.i2d t35)) else (if a0 = 3 then (if (Op.cmpValue (FP.dcmp a3 FP.dconst0) .l) = 0 then some FP.dconst0 else b1 (XN_remainder a2 a3) (fun t33 => some t33)) else (if a1 = 2 then gd (nf (FP.d2f a2)) (gd (nf (FP.d2f a3)) (b1 (XN_calculateFloats a0 (FP.d2f a2) (FP.d2f a3)) (fun t29 => gd (nd (FP.f2d t29)) (XN_calculate_B138 (FP.f2d t29))))) else b1 (XN_calculateDoubles a0 a2 a3) (fun t25 => XN_calculate_B138 t25)))) else (if a0 = 8 then (if a1 = 1 then b1 (XN_calculateInts a0 (FP.d2i a2) (FP.d2i a3)) (fun t50 => some (FP.i2d t50)) else (if a0 = 3 then (if (Op.cmpValue (FP.dcmp a3 FP.dconst0) .l) = 0 then some FP.dconst0 else b1 (XN_remainder a2 a3) (fun t48 => some t48)) else (if a1 = 2 then gd (nf (FP.d2f a2)) (gd (nf (FP.d2f a3)) (b1 (XN_calculateFloats a0 (FP.d2f a2) (FP.d2f a3)) (fun t44 => gd (nd (FP.f2d t44)) (XN_calculate_B138 (FP.f2d t44))))) else b1 (XN_calculateDoubles a0 a2 a3) (fun t40 => XN_calculate_B138 t40)))) else (if a0 = 9 then some a2 else (if a0 = 10 then some a2 else ((if a1 = 1 then b1 (XN_calculateInts a0 (FP.d2i a2) (FP.d2i a3)) (fun t65 => some (FP.i2d t65)) else (if a0 = 3 then (if (Op.cmpValue (FP.dcmp a3 FP.dconst0) .l) = 0 then some FP.dconst0 else b1 (XN_remainder a2 a3) (fun t63 => some t63)) else (if a1 = 2 then gd (nf (FP.d2f a2)) (gd (nf (FP.d2f a3)) (b1 (XN_calculateFloats a0 (FP.d2f a2) (FP.d2f a3)) (fun t59 => gd (nd (FP.f2d t59)) (XN_calculate_B138 (FP.f2d t59))))) else b1 (XN_calculateDoubles a0 a2 a3) (fun t55 => XN_calculate_B138 t55))))))))))))
set_option maxHeartbeats 4000000 in
set_option maxRecDepth 100000 in
theorem T_XN_calculate {G : sd_GX} {h : sd_H} {a0 : Int32} {a1 : Int32} {a2 : UInt64} {a3 : UInt64} {r : UInt64} (hf : XN_calculate a0 a1 a2 a3 = some r) : sd_RunF G M_XN_calculate [.int a0, .int a1, .double a2, .double a3] h (some (.double r)) h := by
  refine sF_run ⟨rfl, rfl⟩ (by decide +kernel) (Nat.le_of_ble_eq_true rfl) (lo := [(0, .int a0), (1, .int a1), (2, .double a2), (4, .double a3)]) rfl (fun X hE => ?_)
  unfold XN_calculate at hf
  refine sd_iload_n (k := 0) (i := 0) (q := 0) (pc' := 1) (by decide +kernel) rfl rfl ?_
  by_cases c1_4 : a0 = 4
  · replace hf := ite_p c1_4 hf
    refine sd_tswIn (dflt := 73) (lo0 := 4) (hi0 := 10) (offs := #[43, 57, 73, 73, 73, 71, 71]) (len := 43) (off := 43) (tgt := 44) (pc' := 44) (by decide +kernel) (by rw [c1_4]; decide) (by rw [c1_4]; decide) (by rw [c1_4]; decide) ?_
    refine sd_dload_n (k := 2) (i := 2) (q := 2) (pc' := 45) (by decide +kernel) rfl rfl ?_
    refine sd_dload (i := 4) (q := 3) (pc' := 47) (by decide +kernel) rfl ?_
    refine sd_dcmp (op := .l) (pc' := 48) (by decide +kernel) ?_
    refine sd_if_lt (off := 7) (tgt := 55) (pc' := 51) (by decide +kernel) (fun c2 => ?_) (fun c2 => ?_)
    · replace hf := ite_p c2 hf
      refine sd_dload (i := 4) (q := 3) (pc' := 57) (by decide +kernel) rfl ?_
      obtain rfl := Option.some.inj hf
      exact sd_dret (by decide +kernel) rfl (hE _)
    · replace hf := ite_n c2 hf
      refine sd_dload_n (k := 2) (i := 2) (q := 2) (pc' := 52) (by decide +kernel) rfl rfl ?_
      refine sd_goto (off := 5) (tgt := 57) (pc' := 55) (by decide +kernel) ?_
      obtain rfl := Option.some.inj hf
      exact sd_dret (by decide +kernel) rfl (hE _)
  · replace hf := ite_n c1_4 hf
    by_cases c1_5 : a0 = 5
    · replace hf := ite_p c1_5 hf
      refine sd_tswIn (dflt := 73) (lo0 := 4) (hi0 := 10) (offs := #[43, 57, 73, 73, 73, 71, 71]) (len := 43) (off := 57) (tgt := 58) (pc' := 44) (by decide +kernel) (by rw [c1_5]; decide) (by rw [c1_5]; decide) (by rw [c1_5]; decide) ?_
      refine sd_dload_n (k := 2) (i := 2) (q := 2) (pc' := 59) (by decide +kernel) rfl rfl ?_
      refine sd_dload (i := 4) (q := 3) (pc' := 61) (by decide +kernel) rfl ?_
      refine sd_dcmp (op := .g) (pc' := 62) (by decide +kernel) ?_
      refine sd_if_gt (off := 7) (tgt := 69) (pc' := 65) (by decide +kernel) (fun c3 => ?_) (fun c3 => ?_)
      · replace hf := ite_p c3 hf
        refine sd_dload (i := 4) (q := 3) (pc' := 71) (by decide +kernel) rfl ?_
        obtain rfl := Option.some.inj hf
        exact sd_dret (by decide +kernel) rfl (hE _)
      · replace hf := ite_n c3 hf
        refine sd_dload_n (k := 2) (i := 2) (q := 2) (pc' := 66) (by decide +kernel) rfl rfl ?_
        refine sd_goto (off := 5) (tgt := 71) (pc' := 69) (by decide +kernel) ?_
        obtain rfl := Option.some.inj hf
        exact sd_dret (by decide +kernel) rfl (hE _)
    · replace hf := ite_n c1_5 hf
      by_cases c1_6 : a0 = 6
      · replace hf := ite_p c1_6 hf
        refine sd_tswIn (dflt := 73) (lo0 := 4) (hi0 := 10) (offs := #[43, 57, 73, 73, 73, 71, 71]) (len := 43) (off := 73) (tgt := 74) (pc' := 44) (by decide +kernel) (by rw [c1_6]; decide) (by rw [c1_6]; decide) (by rw [c1_6]; decide) ?_
        refine sd_iload_n (k := 1) (i := 1) (q := 1) (pc' := 75) (by decide +kernel) rfl rfl ?_
        refine sd_iconst (n := 1) (v := 1) (pc' := 76) (by decide +kernel) (by decide) ?_
        refine sd_icmp_ne (off := 14) (tgt := 90) (pc' := 79) (by decide +kernel) (fun c4 => ?_) (fun c4 => ?_)
        · replace hf := ite_n c4 hf
          refine sd_iload_n (k := 0) (i := 0) (q := 0) (pc' := 91) (by decide +kernel) rfl rfl ?_
          refine sd_iconst (n := 3) (v := 3) (pc' := 92) (by decide +kernel) (by decide) ?_
          refine sd_icmp_ne (off := 21) (tgt := 113) (pc' := 95) (by decide +kernel) (fun c5 => ?_) (fun c5 => ?_)
          · replace hf := ite_n c5 hf
            refine sd_iload_n (k := 1) (i := 1) (q := 1) (pc' := 114) (by decide +kernel) rfl rfl ?_
            refine sd_iconst (n := 2) (v := 2) (pc' := 115) (by decide +kernel) (by decide) ?_
            refine sd_icmp_ne (off := 16) (tgt := 131) (pc' := 118) (by decide +kernel) (fun c6 => ?_) (fun c6 => ?_)
            · replace hf := ite_n c6 hf
              refine sd_iload_n (k := 0) (i := 0) (q := 0) (pc' := 132) (by decide +kernel) rfl rfl ?_
              refine sd_dload_n (k := 2) (i := 2) (q := 2) (pc' := 133) (by decide +kernel) rfl rfl ?_
              refine sd_dload (i := 4) (q := 3) (pc' := 135) (by decide +kernel) rfl ?_
              obtain ⟨t8, q7, hf⟩ := b1_some hf
              refine sF_callS (idx := 46) (As := [.int a0, .double a2, .double a3]) (pc' := 138) 3 (T_XN_calculateDoubles (G := G) (h := h)  q7) (by decide +kernel) mv_XN_calculateDoubles ml_X3_46 (by decide +kernel) rfl rfl (Nat.le_of_ble_eq_true rfl) rfl ?_
              refine sd_J.sub (lo' := []) [] rfl ?_
              exact J_XN_calculate_B138 hE (h := h) hf
            · replace hf := ite_p c6 hf
              refine sd_iload_n (k := 0) (i := 0) (q := 0) (pc' := 119) (by decide +kernel) rfl rfl ?_
              refine sd_dload_n (k := 2) (i := 2) (q := 2) (pc' := 120) (by decide +kernel) rfl rfl ?_
              obtain ⟨g11, hf⟩ := gd_some hf
              refine sd_d2f (pc' := 121) (by decide +kernel) (nf_of g11) ?_
              refine sd_dload (i := 4) (q := 3) (pc' := 123) (by decide +kernel) rfl ?_
              obtain ⟨g12, hf⟩ := gd_some hf
              refine sd_d2f (pc' := 124) (by decide +kernel) (nf_of g12) ?_
              obtain ⟨t14, q13, hf⟩ := b1_some hf
              refine sF_callS (idx := 42) (As := [.int a0, .float (FP.d2f a2), .float (FP.d2f a3)]) (pc' := 127) 3 (T_XN_calculateFloats (G := G) (h := h)  q13) (by decide +kernel) mv_XN_calculateFloats ml_X3_42 (by decide +kernel) rfl rfl (Nat.le_of_ble_eq_true rfl) rfl ?_
              obtain ⟨g15, hf⟩ := gd_some hf
              refine sd_f2d (pc' := 128) (by decide +kernel) (nd_of g15) ?_
              refine sd_goto (off := 10) (tgt := 138) (pc' := 131) (by decide +kernel) ?_
              refine sd_J.sub (lo' := []) [] rfl ?_
              exact J_XN_calculate_B138 hE (h := h) hf
          · replace hf := ite_p c5 hf
            refine sd_dload (i := 4) (q := 3) (pc' := 97) (by decide +kernel) rfl ?_
            refine sd_dconst0 (pc' := 98) (by decide +kernel) ?_
            refine sd_dcmp (op := .l) (pc' := 99) (by decide +kernel) ?_
            refine sd_if_ne (off := 7) (tgt := 106) (pc' := 102) (by decide +kernel) (fun c16 => ?_) (fun c16 => ?_)
            · replace hf := ite_n c16 hf
              refine sd_dload_n (k := 2) (i := 2) (q := 2) (pc' := 107) (by decide +kernel) rfl rfl ?_
              refine sd_dload (i := 4) (q := 3) (pc' := 109) (by decide +kernel) rfl ?_
              obtain ⟨t18, q17, hf⟩ := b1_some hf
              refine sF_callS (idx := 38) (As := [.double a2, .double a3]) (pc' := 112) 2 (T_XN_remainder (G := G) (h := h)  q17) (by decide +kernel) mv_XN_remainder ml_X3_38 (by decide +kernel) rfl rfl (Nat.le_of_ble_eq_true rfl) rfl ?_
              obtain rfl := Option.some.inj hf
              exact sd_dret (by decide +kernel) rfl (hE _)
            · replace hf := ite_p c16 hf
              refine sd_dconst0 (pc' := 103) (by decide +kernel) ?_
              refine sd_goto (off := 9) (tgt := 112) (pc' := 106) (by decide +kernel) ?_
              obtain rfl := Option.some.inj hf
              exact sd_dret (by decide +kernel) rfl (hE _)
        · replace hf := ite_p c4 hf
          refine sd_iload_n (k := 0) (i := 0) (q := 0) (pc' := 80) (by decide +kernel) rfl rfl ?_
          refine sd_dload_n (k := 2) (i := 2) (q := 2) (pc' := 81) (by decide +kernel) rfl rfl ?_
          refine sd_d2i (pc' := 82) (by decide +kernel) ?_
          refine sd_dload (i := 4) (q := 3) (pc' := 84) (by decide +kernel) rfl ?_
          refine sd_d2i (pc' := 85) (by decide +kernel) ?_
          obtain ⟨t20, q19, hf⟩ := b1_some hf
          refine sF_callS (idx := 34) (As := [.int a0, .int (FP.d2i a2), .int (FP.d2i a3)]) (pc' := 88) 3 (T_XN_calculateInts (G := G) (h := h)  q19) (by decide +kernel) mv_XN_calculateInts ml_X3_34 (by decide +kernel) rfl rfl (Nat.le_of_ble_eq_true rfl) rfl ?_
          refine sd_i2d (pc' := 89) (by decide +kernel) ?_
          obtain rfl := Option.some.inj hf
          exact sd_dret (by decide +kernel) rfl (hE _)
      · replace hf := ite_n c1_6 hf
        by_cases c1_7 : a0 = 7
        · replace hf := ite_p c1_7 hf
          refine sd_tswIn (dflt := 73) (lo0 := 4) (hi0 := 10) (offs := #[43, 57, 73, 73, 73, 71, 71]) (len := 43) (off := 73) (tgt := 74) (pc' := 44) (by decide +kernel) (by rw [c1_7]; decide) (by rw [c1_7]; decide) (by rw [c1_7]; decide) ?_
          refine sd_iload_n (k := 1) (i := 1) (q := 1) (pc' := 75) (by decide +kernel) rfl rfl ?_
          refine sd_iconst (n := 1) (v := 1) (pc' := 76) (by decide +kernel) (by decide) ?_
          refine sd_icmp_ne (off := 14) (tgt := 90) (pc' := 79) (by decide +kernel) (fun c21 => ?_) (fun c21 => ?_)
          · replace hf := ite_n c21 hf
            refine sd_iload_n (k := 0) (i := 0) (q := 0) (pc' := 91) (by decide +kernel) rfl rfl ?_
            refine sd_iconst (n := 3) (v := 3) (pc' := 92) (by decide +kernel) (by decide) ?_
            refine sd_icmp_ne (off := 21) (tgt := 113) (pc' := 95) (by decide +kernel) (fun c22 => ?_) (fun c22 => ?_)
            · replace hf := ite_n c22 hf
              refine sd_iload_n (k := 1) (i := 1) (q := 1) (pc' := 114) (by decide +kernel) rfl rfl ?_
              refine sd_iconst (n := 2) (v := 2) (pc' := 115) (by decide +kernel) (by decide) ?_
              refine sd_icmp_ne (off := 16) (tgt := 131) (pc' := 118) (by decide +kernel) (fun c23 => ?_) (fun c23 => ?_)
              · replace hf := ite_n c23 hf
                refine sd_iload_n (k := 0) (i := 0) (q := 0) (pc' := 132) (by decide +kernel) rfl rfl ?_
                refine sd_dload_n (k := 2) (i := 2) (q := 2) (pc' := 133) (by decide +kernel) rfl rfl ?_
                refine sd_dload (i := 4) (q := 3) (pc' := 135) (by decide +kernel) rfl ?_
                obtain ⟨t25, q24, hf⟩ := b1_some hf
                refine sF_callS (idx := 46) (As := [.int a0, .double a2, .double a3]) (pc' := 138) 3 (T_XN_calculateDoubles (G := G) (h := h)  q24) (by decide +kernel) mv_XN_calculateDoubles ml_X3_46 (by decide +kernel) rfl rfl (Nat.le_of_ble_eq_true rfl) rfl ?_
                refine sd_J.sub (lo' := []) [] rfl ?_
                exact J_XN_calculate_B138 hE (h := h) hf
              · replace hf := ite_p c23 hf
                refine sd_iload_n (k := 0) (i := 0) (q := 0) (pc' := 119) (by decide +kernel) rfl rfl ?_
                refine sd_dload_n (k := 2) (i := 2) (q := 2) (pc' := 120) (by decide +kernel) rfl rfl ?_
                obtain ⟨g26, hf⟩ := gd_some hf
                refine sd_d2f (pc' := 121) (by decide +kernel) (nf_of g26) ?_
                refine sd_dload (i := 4) (q := 3) (pc' := 123) (by decide +kernel) rfl ?_
                obtain ⟨g27, hf⟩ := gd_some hf
                refine sd_d2f (pc' := 124) (by decide +kernel) (nf_of g27) ?_
                obtain ⟨t29, q28, hf⟩ := b1_some hf
                refine sF_callS (idx := 42) (As := [.int a0, .float (FP.d2f a2), .float (FP.d2f a3)]) (pc' := 127) 3 (T_XN_calculateFloats (G := G) (h := h)  q28) (by decide +kernel) mv_XN_calculateFloats ml_X3_42 (by decide +kernel) rfl rfl (Nat.le_of_ble_eq_true rfl) rfl ?_
                obtain ⟨g30, hf⟩ := gd_some hf
                refine sd_f2d (pc' := 128) (by decide +kernel) (nd_of g30) ?_
                refine sd_goto (off := 10) (tgt := 138) (pc' := 131) (by decide +kernel) ?_
                refine sd_J.sub (lo' := []) [] rfl ?_
                exact J_XN_calculate_B138 hE (h := h) hf
            · replace hf := ite_p c22 hf
              refine sd_dload (i := 4) (q := 3) (pc' := 97) (by decide +kernel) rfl ?_
              refine sd_dconst0 (pc' := 98) (by decide +kernel) ?_
              refine sd_dcmp (op := .l) (pc' := 99) (by decide +kernel) ?_
              refine sd_if_ne (off := 7) (tgt := 106) (pc' := 102) (by decide +kernel) (fun c31 => ?_) (fun c31 => ?_)
              · replace hf := ite_n c31 hf
                refine sd_dload_n (k := 2) (i := 2) (q := 2) (pc' := 107) (by decide +kernel) rfl rfl ?_
                refine sd_dload (i := 4) (q := 3) (pc' := 109) (by decide +kernel) rfl ?_
                obtain ⟨t33, q32, hf⟩ := b1_some hf
                refine sF_callS (idx := 38) (As := [.double a2, .double a3]) (pc' := 112) 2 (T_XN_remainder (G := G) (h := h)  q32) (by decide +kernel) mv_XN_remainder ml_X3_38 (by decide +kernel) rfl rfl (Nat.le_of_ble_eq_true rfl) rfl ?_
                obtain rfl := Option.some.inj hf
                exact sd_dret (by decide +kernel) rfl (hE _)
              · replace hf := ite_p c31 hf
                refine sd_dconst0 (pc' := 103) (by decide +kernel) ?_
                refine sd_goto (off := 9) (tgt := 112) (pc' := 106) (by decide +kernel) ?_
                obtain rfl := Option.some.inj hf
                exact sd_dret (by decide +kernel) rfl (hE _)
          · replace hf := ite_p c21 hf
            refine sd_iload_n (k := 0) (i := 0) (q := 0) (pc' := 80) (by decide +kernel) rfl rfl ?_
            refine sd_dload_n (k := 2) (i := 2) (q := 2) (pc' := 81) (by decide +kernel) rfl rfl ?_
            refine sd_d2i (pc' := 82) (by decide +kernel) ?_
            refine sd_dload (i := 4) (q := 3) (pc' := 84) (by decide +kernel) rfl ?_
            refine sd_d2i (pc' := 85) (by decide +kernel) ?_
            obtain ⟨t35, q34, hf⟩ := b1_some hf
            refine sF_callS (idx := 34) (As := [.int a0, .int (FP.d2i a2), .int (FP.d2i a3)]) (pc' := 88) 3 (T_XN_calculateInts (G := G) (h := h)  q34) (by decide +kernel) mv_XN_calculateInts ml_X3_34 (by decide +kernel) rfl rfl (Nat.le_of_ble_eq_true rfl) rfl ?_
            refine sd_i2d (pc' := 89) (by decide +kernel) ?_
            obtain rfl := Option.some.inj hf
            exact sd_dret (by decide +kernel) rfl (hE _)
        · replace hf := ite_n c1_7 hf
          by_cases c1_8 : a0 = 8
          · replace hf := ite_p c1_8 hf
            refine sd_tswIn (dflt := 73) (lo0 := 4) (hi0 := 10) (offs := #[43, 57, 73, 73, 73, 71, 71]) (len := 43) (off := 73) (tgt := 74) (pc' := 44) (by decide +kernel) (by rw [c1_8]; decide) (by rw [c1_8]; decide) (by rw [c1_8]; decide) ?_
            refine sd_iload_n (k := 1) (i := 1) (q := 1) (pc' := 75) (by decide +kernel) rfl rfl ?_
            refine sd_iconst (n := 1) (v := 1) (pc' := 76) (by decide +kernel) (by decide) ?_
            refine sd_icmp_ne (off := 14) (tgt := 90) (pc' := 79) (by decide +kernel) (fun c36 => ?_) (fun c36 => ?_)
            · replace hf := ite_n c36 hf
              refine sd_iload_n (k := 0) (i := 0) (q := 0) (pc' := 91) (by decide +kernel) rfl rfl ?_
              refine sd_iconst (n := 3) (v := 3) (pc' := 92) (by decide +kernel) (by decide) ?_
              refine sd_icmp_ne (off := 21) (tgt := 113) (pc' := 95) (by decide +kernel) (fun c37 => ?_) (fun c37 => ?_)
              · replace hf := ite_n c37 hf
                refine sd_iload_n (k := 1) (i := 1) (q := 1) (pc' := 114) (by decide +kernel) rfl rfl ?_
                refine sd_iconst (n := 2) (v := 2) (pc' := 115) (by decide +kernel) (by decide) ?_
                refine sd_icmp_ne (off := 16) (tgt := 131) (pc' := 118) (by decide +kernel) (fun c38 => ?_) (fun c38 => ?_)
                · replace hf := ite_n c38 hf
                  refine sd_iload_n (k := 0) (i := 0) (q := 0) (pc' := 132) (by decide +kernel) rfl rfl ?_
                  refine sd_dload_n (k := 2) (i := 2) (q := 2) (pc' := 133) (by decide +kernel) rfl rfl ?_
                  refine sd_dload (i := 4) (q := 3) (pc' := 135) (by decide +kernel) rfl ?_
                  obtain ⟨t40, q39, hf⟩ := b1_some hf
                  refine sF_callS (idx := 46) (As := [.int a0, .double a2, .double a3]) (pc' := 138) 3 (T_XN_calculateDoubles (G := G) (h := h)  q39) (by decide +kernel) mv_XN_calculateDoubles ml_X3_46 (by decide +kernel) rfl rfl (Nat.le_of_ble_eq_true rfl) rfl ?_
                  refine sd_J.sub (lo' := []) [] rfl ?_
                  exact J_XN_calculate_B138 hE (h := h) hf
                · replace hf := ite_p c38 hf
                  refine sd_iload_n (k := 0) (i := 0) (q := 0) (pc' := 119) (by decide +kernel) rfl rfl ?_
                  refine sd_dload_n (k := 2) (i := 2) (q := 2) (pc' := 120) (by decide +kernel) rfl rfl ?_
                  obtain ⟨g41, hf⟩ := gd_some hf
                  refine sd_d2f (pc' := 121) (by decide +kernel) (nf_of g41) ?_
                  refine sd_dload (i := 4) (q := 3) (pc' := 123) (by decide +kernel) rfl ?_
                  obtain ⟨g42, hf⟩ := gd_some hf
                  refine sd_d2f (pc' := 124) (by decide +kernel) (nf_of g42) ?_
                  obtain ⟨t44, q43, hf⟩ := b1_some hf
                  refine sF_callS (idx := 42) (As := [.int a0, .float (FP.d2f a2), .float (FP.d2f a3)]) (pc' := 127) 3 (T_XN_calculateFloats (G := G) (h := h)  q43) (by decide +kernel) mv_XN_calculateFloats ml_X3_42 (by decide +kernel) rfl rfl (Nat.le_of_ble_eq_true rfl) rfl ?_
                  obtain ⟨g45, hf⟩ := gd_some hf
                  refine sd_f2d (pc' := 128) (by decide +kernel) (nd_of g45) ?_
                  refine sd_goto (off := 10) (tgt := 138) (pc' := 131) (by decide +kernel) ?_
                  refine sd_J.sub (lo' := []) [] rfl ?_
                  exact J_XN_calculate_B138 hE (h := h) hf
              · replace hf := ite_p c37 hf
                refine sd_dload (i := 4) (q := 3) (pc' := 97) (by decide +kernel) rfl ?_
                refine sd_dconst0 (pc' := 98) (by decide +kernel) ?_
                refine sd_dcmp (op := .l) (pc' := 99) (by decide +kernel) ?_
                refine sd_if_ne (off := 7) (tgt := 106) (pc' := 102) (by decide +kernel) (fun c46 => ?_) (fun c46 => ?_)
                · replace hf := ite_n c46 hf
                  refine sd_dload_n (k := 2) (i := 2) (q := 2) (pc' := 107) (by decide +kernel) rfl rfl ?_
                  refine sd_dload (i := 4) (q := 3) (pc' := 109) (by decide +kernel) rfl ?_
                  obtain ⟨t48, q47, hf⟩ := b1_some hf
                  refine sF_callS (idx := 38) (As := [.double a2, .double a3]) (pc' := 112) 2 (T_XN_remainder (G := G) (h := h)  q47) (by decide +kernel) mv_XN_remainder ml_X3_38 (by decide +kernel) rfl rfl (Nat.le_of_ble_eq_true rfl) rfl ?_
                  obtain rfl := Option.some.inj hf
                  exact sd_dret (by decide +kernel) rfl (hE _)
                · replace hf := ite_p c46 hf
                  refine sd_dconst0 (pc' := 103) (by decide +kernel) ?_
                  refine sd_goto (off := 9) (tgt := 112) (pc' := 106) (by decide +kernel) ?_
                  obtain rfl := Option.some.inj hf
                  exact sd_dret (by decide +kernel) rfl (hE _)
            · replace hf := ite_p c36 hf
              refine sd_iload_n (k := 0) (i := 0) (q := 0) (pc' := 80) (by decide +kernel) rfl rfl ?_
              refine sd_dload_n (k := 2) (i := 2) (q := 2) (pc' := 81) (by decide +kernel) rfl rfl ?_
              refine sd_d2i (pc' := 82) (by decide +kernel) ?_
              refine sd_dload (i := 4) (q := 3) (pc' := 84) (by decide +kernel) rfl ?_
              refine sd_d2i (pc' := 85) (by decide +kernel) ?_
              obtain ⟨t50, q49, hf⟩ := b1_some hf
              refine sF_callS (idx := 34) (As := [.int a0, .int (FP.d2i a2), .int (FP.d2i a3)]) (pc' := 88) 3 (T_XN_calculateInts (G := G) (h := h)  q49) (by decide +kernel) mv_XN_calculateInts ml_X3_34 (by decide +kernel) rfl rfl (Nat.le_of_ble_eq_true rfl) rfl ?_
              refine sd_i2d (pc' := 89) (by decide +kernel) ?_
              obtain rfl := Option.some.inj hf
              exact sd_dret (by decide +kernel) rfl (hE _)
          · replace hf := ite_n c1_8 hf
            by_cases c1_9 : a0 = 9
            · replace hf := ite_p c1_9 hf
              refine sd_tswIn (dflt := 73) (lo0 := 4) (hi0 := 10) (offs := #[43, 57, 73, 73, 73, 71, 71]) (len := 43) (off := 71) (tgt := 72) (pc' := 44) (by decide +kernel) (by rw [c1_9]; decide) (by rw [c1_9]; decide) (by rw [c1_9]; decide) ?_
              refine sd_dload_n (k := 2) (i := 2) (q := 2) (pc' := 73) (by decide +kernel) rfl rfl ?_
              obtain rfl := Option.some.inj hf
              exact sd_dret (by decide +kernel) rfl (hE _)
            · replace hf := ite_n c1_9 hf
              by_cases c1_10 : a0 = 10
              · replace hf := ite_p c1_10 hf
                refine sd_tswIn (dflt := 73) (lo0 := 4) (hi0 := 10) (offs := #[43, 57, 73, 73, 73, 71, 71]) (len := 43) (off := 71) (tgt := 72) (pc' := 44) (by decide +kernel) (by rw [c1_10]; decide) (by rw [c1_10]; decide) (by rw [c1_10]; decide) ?_
                refine sd_dload_n (k := 2) (i := 2) (q := 2) (pc' := 73) (by decide +kernel) rfl rfl ?_
                obtain rfl := Option.some.inj hf
                exact sd_dret (by decide +kernel) rfl (hE _)
              · replace hf := ite_n c1_10 hf
                have nc1_4 := ne_ti c1_4 (n := 4) (by decide)
                have nc1_5 := ne_ti c1_5 (n := 5) (by decide)
                have nc1_6 := ne_ti c1_6 (n := 6) (by decide)
                have nc1_7 := ne_ti c1_7 (n := 7) (by decide)
                have nc1_8 := ne_ti c1_8 (n := 8) (by decide)
                have nc1_9 := ne_ti c1_9 (n := 9) (by decide)
                have nc1_10 := ne_ti c1_10 (n := 10) (by decide)
                refine sd_tswOut (dflt := 73) (lo0 := 4) (hi0 := 10) (offs := #[43, 57, 73, 73, 73, 71, 71]) (len := 43) (tgt := 74) (pc' := 44) (by decide +kernel) (by omega) ?_
                refine sd_iload_n (k := 1) (i := 1) (q := 1) (pc' := 75) (by decide +kernel) rfl rfl ?_
                refine sd_iconst (n := 1) (v := 1) (pc' := 76) (by decide +kernel) (by decide) ?_
                refine sd_icmp_ne (off := 14) (tgt := 90) (pc' := 79) (by decide +kernel) (fun c51 => ?_) (fun c51 => ?_)
                · replace hf := ite_n c51 hf
                  refine sd_iload_n (k := 0) (i := 0) (q := 0) (pc' := 91) (by decide +kernel) rfl rfl ?_
                  refine sd_iconst (n := 3) (v := 3) (pc' := 92) (by decide +kernel) (by decide) ?_
                  refine sd_icmp_ne (off := 21) (tgt := 113) (pc' := 95) (by decide +kernel) (fun c52 => ?_) (fun c52 => ?_)
                  · replace hf := ite_n c52 hf
                    refine sd_iload_n (k := 1) (i := 1) (q := 1) (pc' := 114) (by decide +kernel) rfl rfl ?_
                    refine sd_iconst (n := 2) (v := 2) (pc' := 115) (by decide +kernel) (by decide) ?_
                    refine sd_icmp_ne (off := 16) (tgt := 131) (pc' := 118) (by decide +kernel) (fun c53 => ?_) (fun c53 => ?_)
                    · replace hf := ite_n c53 hf
                      refine sd_iload_n (k := 0) (i := 0) (q := 0) (pc' := 132) (by decide +kernel) rfl rfl ?_
                      refine sd_dload_n (k := 2) (i := 2) (q := 2) (pc' := 133) (by decide +kernel) rfl rfl ?_
                      refine sd_dload (i := 4) (q := 3) (pc' := 135) (by decide +kernel) rfl ?_
                      obtain ⟨t55, q54, hf⟩ := b1_some hf
                      refine sF_callS (idx := 46) (As := [.int a0, .double a2, .double a3]) (pc' := 138) 3 (T_XN_calculateDoubles (G := G) (h := h)  q54) (by decide +kernel) mv_XN_calculateDoubles ml_X3_46 (by decide +kernel) rfl rfl (Nat.le_of_ble_eq_true rfl) rfl ?_
                      refine sd_J.sub (lo' := []) [] rfl ?_
                      exact J_XN_calculate_B138 hE (h := h) hf
                    · replace hf := ite_p c53 hf
                      refine sd_iload_n (k := 0) (i := 0) (q := 0) (pc' := 119) (by decide +kernel) rfl rfl ?_
                      refine sd_dload_n (k := 2) (i := 2) (q := 2) (pc' := 120) (by decide +kernel) rfl rfl ?_
                      obtain ⟨g56, hf⟩ := gd_some hf
                      refine sd_d2f (pc' := 121) (by decide +kernel) (nf_of g56) ?_
                      refine sd_dload (i := 4) (q := 3) (pc' := 123) (by decide +kernel) rfl ?_
                      obtain ⟨g57, hf⟩ := gd_some hf
                      refine sd_d2f (pc' := 124) (by decide +kernel) (nf_of g57) ?_
                      obtain ⟨t59, q58, hf⟩ := b1_some hf
                      refine sF_callS (idx := 42) (As := [.int a0, .float (FP.d2f a2), .float (FP.d2f a3)]) (pc' := 127) 3 (T_XN_calculateFloats (G := G) (h := h)  q58) (by decide +kernel) mv_XN_calculateFloats ml_X3_42 (by decide +kernel) rfl rfl (Nat.le_of_ble_eq_true rfl) rfl ?_
                      obtain ⟨g60, hf⟩ := gd_some hf
                      refine sd_f2d (pc' := 128) (by decide +kernel) (nd_of g60) ?_
                      refine sd_goto (off := 10) (tgt := 138) (pc' := 131) (by decide +kernel) ?_
                      refine sd_J.sub (lo' := []) [] rfl ?_
                      exact J_XN_calculate_B138 hE (h := h) hf
                  · replace hf := ite_p c52 hf
                    refine sd_dload (i := 4) (q := 3) (pc' := 97) (by decide +kernel) rfl ?_
                    refine sd_dconst0 (pc' := 98) (by decide +kernel) ?_
                    refine sd_dcmp (op := .l) (pc' := 99) (by decide +kernel) ?_
                    refine sd_if_ne (off := 7) (tgt := 106) (pc' := 102) (by decide +kernel) (fun c61 => ?_) (fun c61 => ?_)
                    · replace hf := ite_n c61 hf
                      refine sd_dload_n (k := 2) (i := 2) (q := 2) (pc' := 107) (by decide +kernel) rfl rfl ?_
                      refine sd_dload (i := 4) (q := 3) (pc' := 109) (by decide +kernel) rfl ?_
                      obtain ⟨t63, q62, hf⟩ := b1_some hf
                      refine sF_callS (idx := 38) (As := [.double a2, .double a3]) (pc' := 112) 2 (T_XN_remainder (G := G) (h := h)  q62) (by decide +kernel) mv_XN_remainder ml_X3_38 (by decide +kernel) rfl rfl (Nat.le_of_ble_eq_true rfl) rfl ?_
                      obtain rfl := Option.some.inj hf
                      exact sd_dret (by decide +kernel) rfl (hE _)
                    · replace hf := ite_p c61 hf
                      refine sd_dconst0 (pc' := 103) (by decide +kernel) ?_
                      refine sd_goto (off := 9) (tgt := 112) (pc' := 106) (by decide +kernel) ?_
                      obtain rfl := Option.some.inj hf
                      exact sd_dret (by decide +kernel) rfl (hE _)
                · replace hf := ite_p c51 hf
                  refine sd_iload_n (k := 0) (i := 0) (q := 0) (pc' := 80) (by decide +kernel) rfl rfl ?_
                  refine sd_dload_n (k := 2) (i := 2) (q := 2) (pc' := 81) (by decide +kernel) rfl rfl ?_
                  refine sd_d2i (pc' := 82) (by decide +kernel) ?_
                  refine sd_dload (i := 4) (q := 3) (pc' := 84) (by decide +kernel) rfl ?_
                  refine sd_d2i (pc' := 85) (by decide +kernel) ?_
                  obtain ⟨t65, q64, hf⟩ := b1_some hf
                  refine sF_callS (idx := 34) (As := [.int a0, .int (FP.d2i a2), .int (FP.d2i a3)]) (pc' := 88) 3 (T_XN_calculateInts (G := G) (h := h)  q64) (by decide +kernel) mv_XN_calculateInts ml_X3_34 (by decide +kernel) rfl rfl (Nat.le_of_ble_eq_true rfl) rfl ?_
                  refine sd_i2d (pc' := 89) (by decide +kernel) ?_
                  obtain rfl := Option.some.inj hf
                  exact sd_dret (by decide +kernel) rfl (hE _)

theorem fl_X7_48 : sd_fl RX7 48 6 0 := ⟨sd_mem (i := 143) (by decide +kernel), by decide, by decide⟩
theorem ml_X7_142 : Cond.methodLink RX7 142 yX3_cast ∈ sd_tb := sd_mem (i := 1003) (by decide +kernel)
theorem mv_XN_cast : sd_mS M_XN_cast 2 := ⟨sd_mem (i := 1004) (by decide +kernel), ⟨sd_mem (i := 1005) (by decide +kernel), sd_mem (i := 120) (by decide +kernel), by decide +kernel, by decide +kernel, by decide +kernel⟩⟩
theorem fl_X7_195 : sd_fl RX7 195 6 3 := ⟨sd_mem (i := 152) (by decide +kernel), by decide, by decide⟩
theorem mm_X7_198 : sd_mm RX7 198 Lib.Math.max.name Lib.Math.max.code 2 := ⟨sd_mem (i := 1033) (by decide +kernel), sd_mem (i := 997) (by decide +kernel), sd_mem (i := 126) (by decide +kernel), sd_mem (i := 998) (by decide +kernel)⟩
def M_XU_write : sd_MX := (yX7_write, cX7_write, 11, none, { frames := 3, cells := 0, slots := 0, locals := 83 })
def XU_write_B142 (h : sd_H) (s0 : Int32) (s1 : Int32) (s2 : Nat) : Option sd_H :=
  gd (sd_inB s1 144) (hb (wI h s2 (s1 : Int32).toNatClampNeg s0) (fun h23 => some h23))
set_option maxHeartbeats 4000000 in
set_option maxRecDepth 100000 in
theorem J_XU_write_B142 {G : sd_GX} {X : sd_CX} (hE : ∀ g : sd_H, sd_end G X M_XU_write (sd_F g)) {h : sd_H} {r : sd_H} {s0 : Int32} {s1 : Int32} {s2 : Nat} (ps2 : sd_SH s2 = (100, 144)) (hf : XU_write_B142 h s0 s1 s2 = some r) : sd_J G X (sd_QR G X M_XU_write (none, sd_F r)) M_XU_write 142 [] [.int s0, .int s1, .ref (G.1 + s2)] (sd_F h) := by
  unfold XU_write_B142 at hf
  obtain ⟨g22, hf⟩ := gd_some hf
  obtain ⟨h23, e24, hf⟩ := hb_some hf
  refine sF_iast (n := 144) (pc' := 143) (by decide +kernel) ps2 g22 ?_
  rw [← e24]; clear e24
  obtain rfl := Option.some.inj hf
  exact sd_vret (by decide +kernel) rfl (hE _)
def XU_write (h : sd_H) (a0 : Nat) (a1 : Int32) (a2 : Int32) (a3 : UInt64) : Option sd_H :=
  b1 (XF_at h a0 a1 a2) (fun t2 => op (h.2.2 0) 6 4 (fun w3 => gd (sd_inB (h.1 a0 0) 6) (b1 (XN_cast (h.1 (w3 + 1) ((h.1 a0 0) : Int32).toNatClampNeg) a3) (fun t8 => gd (sd_inB (h.1 a0 0) 6) ((if (h.1 101 ((h.1 a0 0) : Int32).toNatClampNeg) = 3 then gd (sd_inB ((a1 * 6) + (h.1 a0 0)) 60) (gd (sd_inB ((a1 * 6) + (h.1 a0 0)) 60) (hb (wI h 103 (((a1 * 6) + (h.1 a0 0)) : Int32).toNatClampNeg ((h.1 103 (((a1 * 6) + (h.1 a0 0)) : Int32).toNatClampNeg) ||| (1 <<< (t2 &&& 31)))) (fun h31 => gd (sd_inB ((((a1 * 6) + (h.1 a0 0)) * 24) + t2) 1440) (hb (wD h31 102 (((((a1 * 6) + (h.1 a0 0)) * 24) + t2) : Int32).toNatClampNeg t8) (fun h34 => some h34))))) else op (h.2.2 0) 6 4 (fun w11 => gd (sd_inB (((h.1 a0 0) * 24) + t2) 144) (hb (wD h (w11 + 3) ((((h.1 a0 0) * 24) + t2) : Int32).toNatClampNeg t8) (fun h15 => op (h15.2.2 0) 6 4 (fun w17 => gd (sd_inB (h.1 a0 0) 6) ((if (h15.1 101 ((h.1 a0 0) : Int32).toNatClampNeg) = 2 then op (h15.2.2 0) 6 4 (fun w25 => gd (sd_inB (((h.1 a0 0) * 24) + t2) 144) (XU_write_B142 h15 (if (h15.1 (w25 + 4) ((((h.1 a0 0) * 24) + t2) : Int32).toNatClampNeg) < a1 then a1 else (h15.1 (w25 + 4) ((((h.1 a0 0) * 24) + t2) : Int32).toNatClampNeg)) (((h.1 a0 0) * 24) + t2) (w17 + 4))) else XU_write_B142 h15 a1 (((h.1 a0 0) * 24) + t2) (w17 + 4)))))))))))))
set_option maxHeartbeats 4000000 in
set_option maxRecDepth 100000 in
theorem T_XU_write {G : sd_GX} {h : sd_H} {a0 : Nat} {a1 : Int32} {a2 : Int32} {a3 : UInt64} {r : sd_H} (pa0 : sd_SH a0 = (5, 4)) (hf : XU_write h a0 a1 a2 a3 = some r) : sd_RunF G M_XU_write [.ref (G.1 + 100), .ref (G.1 + a0), .int a1, .int a2, .double a3] h none r := by
  refine sF_run ⟨rfl, rfl⟩ (by decide +kernel) (Nat.le_of_ble_eq_true rfl) (lo := [(0, .ref (G.1 + 100)), (1, .ref (G.1 + a0)), (2, .int a1), (3, .int a2), (4, .double a3)]) rfl (fun X hE => ?_)
  unfold XU_write at hf
  refine sd_aload_n (k := 1) (i := 1) (q := 1) (pc' := 1) (by decide +kernel) rfl rfl ?_
  refine sF_gi (idx := 180) (ci := 5) (k := 0) (n := 4) (pc' := 4) (by decide +kernel) fl_X7_180 (by decide +kernel) rfl pa0 ?_
  refine sd_istore (i := 6) (pc' := 6) (lo' := [(6, .int (h.1 a0 0)), (0, .ref (G.1 + 100)), (1, .ref (G.1 + a0)), (2, .int a1), (3, .int a2), (4, .double a3)]) (by decide +kernel) (by decide) rfl ?_
  refine sd_aload_n (k := 1) (i := 1) (q := 2) (pc' := 7) (by decide +kernel) rfl rfl ?_
  refine sd_iload_n (k := 2) (i := 2) (q := 3) (pc' := 8) (by decide +kernel) rfl rfl ?_
  refine sd_iload_n (k := 3) (i := 3) (q := 4) (pc' := 9) (by decide +kernel) rfl rfl ?_
  obtain ⟨t2, q1, hf⟩ := b1_some hf
  refine sF_callV (idx := 183) (b := a0) (As := [.int a1, .int a2]) (ci := 5) (nn := 4) (pc' := 12) 2 (T_XF_at (G := G) (h := h) pa0 q1) (by decide +kernel) mv_XF_at ml_X7_183 (by decide +kernel) rfl rfl (Nat.le_of_ble_eq_true rfl) pa0 rfl (by decide) rfl rfl ?_
  refine sd_istore (i := 7) (pc' := 14) (lo' := [(7, .int t2), (6, .int (h.1 a0 0)), (0, .ref (G.1 + 100)), (1, .ref (G.1 + a0)), (2, .int a1), (3, .int a2), (4, .double a3)]) (by decide +kernel) (by decide) rfl ?_
  refine sd_aload_n (k := 0) (i := 0) (q := 2) (pc' := 15) (by decide +kernel) rfl rfl ?_
  obtain ⟨w3, e4, pw5, hf⟩ := op_some hf
  refine sF_gm (idx := 76) (k := 7) (w := 0) (r := w3) (pc' := 18) (by decide +kernel) fl_X7_76 (by decide) e4 ?_
  refine sF_gr (idx := 48) (ci := 6) (k := 0) (n := 4) (r := (w3 + 1)) (pc' := 21) (by decide +kernel) fl_X7_48 (by decide +kernel) rfl pw5 (by decide) (rt_6_0 pw5) ?_
  refine sd_iload (i := 6) (q := 1) (pc' := 23) (by decide +kernel) rfl ?_
  obtain ⟨g6, hf⟩ := gd_some hf
  refine sF_iald (n := 6) (pc' := 24) (by decide +kernel) (sh_6_0 pw5) g6 ?_
  refine sd_dload (i := 4) (q := 6) (pc' := 26) (by decide +kernel) rfl ?_
  obtain ⟨t8, q7, hf⟩ := b1_some hf
  refine sF_callS (idx := 142) (As := [.int (h.1 (w3 + 1) ((h.1 a0 0) : Int32).toNatClampNeg), .double a3]) (pc' := 29) 2 (T_XN_cast (G := G) (h := h)  q7) (by decide +kernel) mv_XN_cast ml_X7_142 (by decide +kernel) rfl rfl (Nat.le_of_ble_eq_true rfl) rfl ?_
  refine sd_dstore (i := 8) (pc' := 31) (lo' := [(8, .double t8), (7, .int t2), (6, .int (h.1 a0 0)), (0, .ref (G.1 + 100)), (1, .ref (G.1 + a0)), (2, .int a1), (3, .int a2), (4, .double a3)]) (by decide +kernel) (by decide) rfl ?_
  refine sd_aload_n (k := 0) (i := 0) (q := 3) (pc' := 32) (by decide +kernel) rfl rfl ?_
  refine sF_gr (idx := 9) (ci := 7) (k := 1) (n := 11) (r := 101) (pc' := 35) (by decide +kernel) fl_X7_9 (by decide +kernel) rfl SH_100 (by decide) (by decide +kernel) ?_
  refine sd_iload (i := 6) (q := 2) (pc' := 37) (by decide +kernel) rfl ?_
  obtain ⟨g9, hf⟩ := gd_some hf
  refine sF_iald (n := 6) (pc' := 38) (by decide +kernel) SH_101 g9 ?_
  refine sd_iconst (n := 3) (v := 3) (pc' := 39) (by decide +kernel) (by decide) ?_
  refine sd_icmp_ne (off := 43) (tgt := 82) (pc' := 42) (by decide +kernel) (fun c10 => ?_) (fun c10 => ?_)
  · replace hf := ite_n c10 hf
    refine sd_iload (i := 6) (q := 2) (pc' := 84) (by decide +kernel) rfl ?_
    refine sd_bipush (n := 24) (v := 24) (pc' := 86) (by decide +kernel) (by decide) ?_
    refine sd_imul (pc' := 87) (by decide +kernel) ?_
    refine sd_iload (i := 7) (q := 1) (pc' := 89) (by decide +kernel) rfl ?_
    refine sd_iadd (pc' := 90) (by decide +kernel) ?_
    refine sd_istore (i := 10) (pc' := 92) (lo' := [(10, .int (((h.1 a0 0) * 24) + t2)), (8, .double t8), (7, .int t2), (6, .int (h.1 a0 0)), (0, .ref (G.1 + 100)), (1, .ref (G.1 + a0)), (2, .int a1), (3, .int a2), (4, .double a3)]) (by decide +kernel) (by decide) rfl ?_
    refine sd_aload_n (k := 0) (i := 0) (q := 4) (pc' := 93) (by decide +kernel) rfl rfl ?_
    obtain ⟨w11, e12, pw13, hf⟩ := op_some hf
    refine sF_gm (idx := 76) (k := 7) (w := 0) (r := w11) (pc' := 96) (by decide +kernel) fl_X7_76 (by decide) e12 ?_
    refine sF_gr (idx := 192) (ci := 6) (k := 2) (n := 4) (r := (w11 + 3)) (pc' := 99) (by decide +kernel) fl_X7_192 (by decide +kernel) rfl pw13 (by decide) (rt_6_2 pw13) ?_
    refine sd_iload (i := 10) (q := 0) (pc' := 101) (by decide +kernel) rfl ?_
    refine sd_dload (i := 8) (q := 1) (pc' := 103) (by decide +kernel) rfl ?_
    obtain ⟨g14, hf⟩ := gd_some hf
    obtain ⟨h15, e16, hf⟩ := hb_some hf
    refine sF_dast (n := 144) (pc' := 104) (by decide +kernel) (sh_6_2 pw13) g14 ?_
    rw [← e16]; clear e16
    refine sd_aload_n (k := 0) (i := 0) (q := 4) (pc' := 105) (by decide +kernel) rfl rfl ?_
    obtain ⟨w17, e18, pw19, hf⟩ := op_some hf
    refine sF_gm (idx := 76) (k := 7) (w := 0) (r := w17) (pc' := 108) (by decide +kernel) fl_X7_76 (by decide) e18 ?_
    refine sF_gr (idx := 195) (ci := 6) (k := 3) (n := 4) (r := (w17 + 4)) (pc' := 111) (by decide +kernel) fl_X7_195 (by decide +kernel) rfl pw19 (by decide) (rt_6_3 pw19) ?_
    refine sd_iload (i := 10) (q := 0) (pc' := 113) (by decide +kernel) rfl ?_
    refine sd_aload_n (k := 0) (i := 0) (q := 4) (pc' := 114) (by decide +kernel) rfl rfl ?_
    refine sF_gr (idx := 9) (ci := 7) (k := 1) (n := 11) (r := 101) (pc' := 117) (by decide +kernel) fl_X7_9 (by decide +kernel) rfl SH_100 (by decide) (by decide +kernel) ?_
    refine sd_iload (i := 6) (q := 3) (pc' := 119) (by decide +kernel) rfl ?_
    obtain ⟨g20, hf⟩ := gd_some hf
    refine sF_iald (n := 6) (pc' := 120) (by decide +kernel) SH_101 g20 ?_
    refine sd_iconst (n := 2) (v := 2) (pc' := 121) (by decide +kernel) (by decide) ?_
    refine sd_icmp_ne (off := 20) (tgt := 141) (pc' := 124) (by decide +kernel) (fun c21 => ?_) (fun c21 => ?_)
    · replace hf := ite_n c21 hf
      refine sd_iload_n (k := 2) (i := 2) (q := 6) (pc' := 142) (by decide +kernel) rfl rfl ?_
      refine sd_J.sub (lo' := []) [] rfl ?_
      exact J_XU_write_B142 hE (sh_6_3 pw19) hf
    · replace hf := ite_p c21 hf
      refine sd_aload_n (k := 0) (i := 0) (q := 4) (pc' := 125) (by decide +kernel) rfl rfl ?_
      obtain ⟨w25, e26, pw27, hf⟩ := op_some hf
      refine sF_gm (idx := 76) (k := 7) (w := 0) (r := w25) (pc' := 128) (by decide +kernel) fl_X7_76 (by decide) e26 ?_
      refine sF_gr (idx := 195) (ci := 6) (k := 3) (n := 4) (r := (w25 + 4)) (pc' := 131) (by decide +kernel) fl_X7_195 (by decide +kernel) rfl pw27 (by decide) (rt_6_3 pw27) ?_
      refine sd_iload (i := 10) (q := 0) (pc' := 133) (by decide +kernel) rfl ?_
      obtain ⟨g28, hf⟩ := gd_some hf
      refine sF_iald (n := 144) (pc' := 134) (by decide +kernel) (sh_6_3 pw27) g28 ?_
      refine sd_iload_n (k := 2) (i := 2) (q := 6) (pc' := 135) (by decide +kernel) rfl rfl ?_
      refine sF_mmax (idx := 198) (pc' := 138) (by decide +kernel) rfl mm_X7_198 (by decide) (Nat.le_of_ble_eq_true rfl) ?_
      refine sd_goto (off := 4) (tgt := 142) (pc' := 141) (by decide +kernel) ?_
      refine sd_J.sub (lo' := []) [] rfl ?_
      exact J_XU_write_B142 hE (sh_6_3 pw19) hf
  · replace hf := ite_p c10 hf
    refine sd_aload_n (k := 0) (i := 0) (q := 3) (pc' := 43) (by decide +kernel) rfl rfl ?_
    refine sF_gr (idx := 19) (ci := 7) (k := 3) (n := 11) (r := 103) (pc' := 46) (by decide +kernel) fl_X7_19 (by decide +kernel) rfl SH_100 (by decide) (by decide +kernel) ?_
    refine sd_iload_n (k := 2) (i := 2) (q := 5) (pc' := 47) (by decide +kernel) rfl rfl ?_
    refine sd_bipush (n := 6) (v := 6) (pc' := 49) (by decide +kernel) (by decide) ?_
    refine sd_imul (pc' := 50) (by decide +kernel) ?_
    refine sd_iload (i := 6) (q := 2) (pc' := 52) (by decide +kernel) rfl ?_
    refine sd_iadd (pc' := 53) (by decide +kernel) ?_
    refine sd_dup2 (pc' := 54) (by decide +kernel) rfl rfl ?_
    obtain ⟨g29, hf⟩ := gd_some hf
    refine sF_iald (n := 60) (pc' := 55) (by decide +kernel) SH_103 g29 ?_
    refine sd_iconst (n := 1) (v := 1) (pc' := 56) (by decide +kernel) (by decide) ?_
    refine sd_iload (i := 7) (q := 1) (pc' := 58) (by decide +kernel) rfl ?_
    refine sd_ishl (pc' := 59) (by decide +kernel) ?_
    refine sd_ior (pc' := 60) (by decide +kernel) ?_
    obtain ⟨g30, hf⟩ := gd_some hf
    obtain ⟨h31, e32, hf⟩ := hb_some hf
    refine sF_iast (n := 60) (pc' := 61) (by decide +kernel) SH_103 g30 ?_
    rw [← e32]; clear e32
    refine sd_aload_n (k := 0) (i := 0) (q := 3) (pc' := 62) (by decide +kernel) rfl rfl ?_
    refine sF_gr (idx := 15) (ci := 7) (k := 2) (n := 11) (r := 102) (pc' := 65) (by decide +kernel) fl_X7_15 (by decide +kernel) rfl SH_100 (by decide) (by decide +kernel) ?_
    refine sd_iload_n (k := 2) (i := 2) (q := 5) (pc' := 66) (by decide +kernel) rfl rfl ?_
    refine sd_bipush (n := 6) (v := 6) (pc' := 68) (by decide +kernel) (by decide) ?_
    refine sd_imul (pc' := 69) (by decide +kernel) ?_
    refine sd_iload (i := 6) (q := 2) (pc' := 71) (by decide +kernel) rfl ?_
    refine sd_iadd (pc' := 72) (by decide +kernel) ?_
    refine sd_bipush (n := 24) (v := 24) (pc' := 74) (by decide +kernel) (by decide) ?_
    refine sd_imul (pc' := 75) (by decide +kernel) ?_
    refine sd_iload (i := 7) (q := 1) (pc' := 77) (by decide +kernel) rfl ?_
    refine sd_iadd (pc' := 78) (by decide +kernel) ?_
    refine sd_dload (i := 8) (q := 0) (pc' := 80) (by decide +kernel) rfl ?_
    obtain ⟨g33, hf⟩ := gd_some hf
    obtain ⟨h34, e35, hf⟩ := hb_some hf
    refine sF_dast (n := 1440) (pc' := 81) (by decide +kernel) SH_102 g33 ?_
    rw [← e35]; clear e35
    obtain rfl := Option.some.inj hf
    exact sd_vret (by decide +kernel) rfl (hE _)

theorem ml_X7_131 : Cond.methodLink RX7 131 yX7_faultOf ∈ sd_tb := sd_mem (i := 977) (by decide +kernel)
theorem mv_XU_faultOf : sd_mV M_XU_faultOf 3 := ⟨sd_mem (i := 979) (by decide +kernel), sd_mem (i := 25) (by decide +kernel), ⟨sd_mem (i := 980) (by decide +kernel), sd_mem (i := 117) (by decide +kernel), by decide +kernel, by decide +kernel, by decide +kernel⟩⟩
theorem ml_X7_134 : Cond.methodLink RX7 134 yX6_widthOf ∈ sd_tb := sd_mem (i := 985) (by decide +kernel)
theorem mv_XR_widthOf : sd_mV M_XR_widthOf 1 := ⟨sd_mem (i := 986) (by decide +kernel), sd_mem (i := 987) (by decide +kernel), ⟨sd_mem (i := 988) (by decide +kernel), sd_mem (i := 109) (by decide +kernel), by decide +kernel, by decide +kernel, by decide +kernel⟩⟩
theorem ml_X7_138 : Cond.methodLink RX7 138 yX7_read ∈ sd_tb := sd_mem (i := 999) (by decide +kernel)
theorem mv_XU_read : sd_mV M_XU_read 4 := ⟨sd_mem (i := 1001) (by decide +kernel), sd_mem (i := 26) (by decide +kernel), ⟨sd_mem (i := 1002) (by decide +kernel), sd_mem (i := 117) (by decide +kernel), by decide +kernel, by decide +kernel, by decide +kernel⟩⟩
theorem ml_X7_148 : Cond.methodLink RX7 148 yX9_mayBeOver ∈ sd_tb := sd_mem (i := 1009) (by decide +kernel)
theorem fl_X7_152 : sd_fl RX7 152 9 1 := ⟨sd_mem (i := 219) (by decide +kernel), by decide, by decide⟩
theorem ml_X7_163 : Cond.methodLink RX7 163 yX3_calculate ∈ sd_tb := sd_mem (i := 1013) (by decide +kernel)
theorem mv_XN_calculate : sd_mS M_XN_calculate 4 := ⟨sd_mem (i := 1014) (by decide +kernel), ⟨sd_mem (i := 1015) (by decide +kernel), sd_mem (i := 120) (by decide +kernel), by decide +kernel, by decide +kernel, by decide +kernel⟩⟩
theorem ml_X7_167 : Cond.methodLink RX7 167 yX7_write ∈ sd_tb := sd_mem (i := 1029) (by decide +kernel)
theorem mv_XU_write : sd_mV M_XU_write 4 := ⟨sd_mem (i := 1031) (by decide +kernel), sd_mem (i := 27) (by decide +kernel), ⟨sd_mem (i := 1032) (by decide +kernel), sd_mem (i := 117) (by decide +kernel), by decide +kernel, by decide +kernel, by decide +kernel⟩⟩
theorem ml_X7_155 : Cond.methodLink RX7 155 yX3_isOver ∈ sd_tb := sd_mem (i := 1010) (by decide +kernel)
theorem mv_XN_isOver : sd_mS M_XN_isOver 3 := ⟨sd_mem (i := 1011) (by decide +kernel), ⟨sd_mem (i := 1012) (by decide +kernel), sd_mem (i := 120) (by decide +kernel), by decide +kernel, by decide +kernel, by decide +kernel⟩⟩
def M_XU_doItem : sd_MX := (yX7_doItem, cX7_doItem, 10, (some .int), { frames := 4, cells := 0, slots := 0, locals := 114 })
def XU_doItem_B100 (h : sd_H) (l1 : Nat) (l2 : Int32) (l3 : Int32) (l5 : Int32) (l6 : UInt64) (l8 : UInt64) : Option (sd_H × Int32) :=
  b1 (XN_calculate (h.1 l1 1) l5 l6 l8) (fun t22 => b1 (XU_write h ((l1 + 1) + 1 + 0) l2 l3 t22) (fun h24 => some (h24, (-1))))
set_option maxHeartbeats 4000000 in
set_option maxRecDepth 100000 in
theorem J_XU_doItem_B100 {G : sd_GX} {X : sd_CX} (hE : ∀ g : sd_H, sd_end G X M_XU_doItem (sd_F g)) {h : sd_H} {r : (sd_H × Int32)} {l1 : Nat} {l2 : Int32} {l3 : Int32} {l5 : Int32} {l6 : UInt64} {l8 : UInt64} (p1 : sd_SH l1 = (9, 6)) (hf : XU_doItem_B100 h l1 l2 l3 l5 l6 l8 = some r) : sd_J G X (sd_QR G X M_XU_doItem (some (.int r.2), sd_F r.1)) M_XU_doItem 100 [(0, .ref (G.1 + 100)), (1, .ref (G.1 + l1)), (2, .int l2), (3, .int l3), (5, .int l5), (6, .double l6), (8, .double l8)] [] (sd_F h) := by
  unfold XU_doItem_B100 at hf
  refine sd_aload_n (k := 0) (i := 0) (q := 0) (pc' := 101) (by decide +kernel) rfl rfl ?_
  refine sd_aload_n (k := 1) (i := 1) (q := 1) (pc' := 102) (by decide +kernel) rfl rfl ?_
  refine sF_gr (idx := 159) (ci := 9) (k := 0) (n := 6) (r := (l1 + 1)) (pc' := 105) (by decide +kernel) fl_X7_159 (by decide +kernel) rfl p1 (by decide) (rt_9_0 p1) ?_
  refine sd_iconst (n := 0) (v := 0) (pc' := 106) (by decide +kernel) (by decide) ?_
  refine sF_aald (n := 3) (r := ((l1 + 1) + 1 + 0)) (pc' := 107) (by decide +kernel) (sh_9_0 p1) (by decide) (by decide) (by rw [show ((0 : Int32)).toNatClampNeg = 0 from by decide]; exact rta_R (sh_9_0 p1) (by decide)) ?_
  refine sd_iload_n (k := 2) (i := 2) (q := 2) (pc' := 108) (by decide +kernel) rfl rfl ?_
  refine sd_iload_n (k := 3) (i := 3) (q := 3) (pc' := 109) (by decide +kernel) rfl rfl ?_
  refine sd_aload_n (k := 1) (i := 1) (q := 1) (pc' := 110) (by decide +kernel) rfl rfl ?_
  refine sF_gi (idx := 152) (ci := 9) (k := 1) (n := 6) (pc' := 113) (by decide +kernel) fl_X7_152 (by decide +kernel) rfl p1 ?_
  refine sd_iload (i := 5) (q := 4) (pc' := 115) (by decide +kernel) rfl ?_
  refine sd_dload (i := 6) (q := 5) (pc' := 117) (by decide +kernel) rfl ?_
  refine sd_dload (i := 8) (q := 6) (pc' := 119) (by decide +kernel) rfl ?_
  obtain ⟨t22, q21, hf⟩ := b1_some hf
  refine sF_callS (idx := 163) (As := [.int (h.1 l1 1), .int l5, .double l6, .double l8]) (pc' := 122) 4 (T_XN_calculate (G := G) (h := h)  q21) (by decide +kernel) mv_XN_calculate ml_X7_163 (by decide +kernel) rfl rfl (Nat.le_of_ble_eq_true rfl) rfl ?_
  obtain ⟨h24, q23, hf⟩ := b1_some hf
  refine sF_callV0 (idx := 167) (b := 100) (As := [.ref (G.1 + ((l1 + 1) + 1 + 0)), .int l2, .int l3, .double t22]) (ci := 7) (nn := 11) (pc' := 125) 4 (T_XU_write (G := G) (h := h) (sha_R (sh_9_0 p1) (j := 0) (by decide)) q23) (by decide +kernel) mv_XU_write ml_X7_167 (by decide +kernel) rfl rfl (Nat.le_of_ble_eq_true rfl) SH_100 rfl (by decide) rfl rfl ?_
  refine sd_iconst (n := -1) (v := (-1)) (pc' := 126) (by decide +kernel) (by decide) ?_
  obtain rfl := Option.some.inj hf
  exact sd_iret (by decide +kernel) rfl (hE _)
def XU_doItem_B83 (h : sd_H) (l1 : Nat) (l2 : Int32) (l3 : Int32) (l5 : Int32) (l6 : UInt64) (l8 : UInt64) : Option (sd_H × Int32) :=
  (if (h.1 l1 1) = 10 then (if (Op.cmpValue (FP.dcmp l6 l8) .l) ≤ 0 then some (h, (-1)) else XU_doItem_B100 h l1 l2 l3 l5 l6 l8) else XU_doItem_B100 h l1 l2 l3 l5 l6 l8)
set_option maxHeartbeats 4000000 in
set_option maxRecDepth 100000 in
theorem J_XU_doItem_B83 {G : sd_GX} {X : sd_CX} (hE : ∀ g : sd_H, sd_end G X M_XU_doItem (sd_F g)) {h : sd_H} {r : (sd_H × Int32)} {l1 : Nat} {l2 : Int32} {l3 : Int32} {l5 : Int32} {l6 : UInt64} {l8 : UInt64} (p1 : sd_SH l1 = (9, 6)) (hf : XU_doItem_B83 h l1 l2 l3 l5 l6 l8 = some r) : sd_J G X (sd_QR G X M_XU_doItem (some (.int r.2), sd_F r.1)) M_XU_doItem 83 [(0, .ref (G.1 + 100)), (1, .ref (G.1 + l1)), (2, .int l2), (3, .int l3), (5, .int l5), (6, .double l6), (8, .double l8)] [] (sd_F h) := by
  unfold XU_doItem_B83 at hf
  refine sd_aload_n (k := 1) (i := 1) (q := 1) (pc' := 84) (by decide +kernel) rfl rfl ?_
  refine sF_gi (idx := 152) (ci := 9) (k := 1) (n := 6) (pc' := 87) (by decide +kernel) fl_X7_152 (by decide +kernel) rfl p1 ?_
  refine sd_bipush (n := 10) (v := 10) (pc' := 89) (by decide +kernel) (by decide) ?_
  refine sd_icmp_ne (off := 11) (tgt := 100) (pc' := 92) (by decide +kernel) (fun c20 => ?_) (fun c20 => ?_)
  · replace hf := ite_n c20 hf
    refine sd_J.sub (lo' := [(0, .ref (G.1 + 100)), (1, .ref (G.1 + l1)), (2, .int l2), (3, .int l3), (5, .int l5), (6, .double l6), (8, .double l8)]) [0, 1, 2, 3, 4, 5, 6] rfl ?_
    exact J_XU_doItem_B100 hE p1 hf
  · replace hf := ite_p c20 hf
    refine sd_dload (i := 6) (q := 5) (pc' := 94) (by decide +kernel) rfl ?_
    refine sd_dload (i := 8) (q := 6) (pc' := 96) (by decide +kernel) rfl ?_
    refine sd_dcmp (op := .l) (pc' := 97) (by decide +kernel) ?_
    refine sd_if_le (off := 28) (tgt := 125) (pc' := 100) (by decide +kernel) (fun c25 => ?_) (fun c25 => ?_)
    · replace hf := ite_p c25 hf
      refine sd_iconst (n := -1) (v := (-1)) (pc' := 126) (by decide +kernel) (by decide) ?_
      obtain rfl := Option.some.inj hf
      exact sd_iret (by decide +kernel) rfl (hE _)
    · replace hf := ite_n c25 hf
      refine sd_J.sub (lo' := [(0, .ref (G.1 + 100)), (1, .ref (G.1 + l1)), (2, .int l2), (3, .int l3), (5, .int l5), (6, .double l6), (8, .double l8)]) [0, 1, 2, 3, 4, 5, 6] rfl ?_
      exact J_XU_doItem_B100 hE p1 hf
def XU_doItem (h : sd_H) (a0 : Nat) (a1 : Int32) (a2 : Int32) : Option (sd_H × Int32) :=
  b1 (XU_faultOf h a0 a1 a2) (fun t2 => (if t2 = (-1) then op (h.2.2 0) 6 4 (fun w4 => b1 (XR_widthOf h w4 a0) (fun t8 => b1 (XU_read h a0 1 a1 a2) (fun t10 => b1 (XN_cast t8 t10) (fun t12 => b1 (XU_read h a0 2 a1 a2) (fun t14 => b1 (XN_cast t8 t14) (fun t16 => b1 (XA_mayBeOver h a0) (fun t18 => (if t18 = 0 then XU_doItem_B83 h a0 a1 a2 t8 t12 t16 else b1 (XN_isOver (h.1 a0 1) (FP.d2i t12) (FP.d2i t16)) (fun t27 => (if t27 = 0 then XU_doItem_B83 h a0 a1 a2 t8 t12 t16 else some (h, 2))))))))))) else some (h, t2)))
set_option maxHeartbeats 4000000 in
set_option maxRecDepth 100000 in
theorem T_XU_doItem {G : sd_GX} {h : sd_H} {a0 : Nat} {a1 : Int32} {a2 : Int32} {r : (sd_H × Int32)} (pa0 : sd_SH a0 = (9, 6)) (hf : XU_doItem h a0 a1 a2 = some r) : sd_RunF G M_XU_doItem [.ref (G.1 + 100), .ref (G.1 + a0), .int a1, .int a2] h (some (.int r.2)) r.1 := by
  refine sF_run ⟨rfl, rfl⟩ (by decide +kernel) (Nat.le_of_ble_eq_true rfl) (lo := [(0, .ref (G.1 + 100)), (1, .ref (G.1 + a0)), (2, .int a1), (3, .int a2)]) rfl (fun X hE => ?_)
  unfold XU_doItem at hf
  refine sd_aload_n (k := 0) (i := 0) (q := 0) (pc' := 1) (by decide +kernel) rfl rfl ?_
  refine sd_aload_n (k := 1) (i := 1) (q := 1) (pc' := 2) (by decide +kernel) rfl rfl ?_
  refine sd_iload_n (k := 2) (i := 2) (q := 2) (pc' := 3) (by decide +kernel) rfl rfl ?_
  refine sd_iload_n (k := 3) (i := 3) (q := 3) (pc' := 4) (by decide +kernel) rfl rfl ?_
  obtain ⟨t2, q1, hf⟩ := b1_some hf
  refine sF_callV (idx := 131) (b := 100) (As := [.ref (G.1 + a0), .int a1, .int a2]) (ci := 7) (nn := 11) (pc' := 7) 3 (T_XU_faultOf (G := G) (h := h) pa0 q1) (by decide +kernel) mv_XU_faultOf ml_X7_131 (by decide +kernel) rfl rfl (Nat.le_of_ble_eq_true rfl) SH_100 rfl (by decide) rfl rfl ?_
  refine sd_istore (i := 4) (pc' := 9) (lo' := [(4, .int t2), (0, .ref (G.1 + 100)), (1, .ref (G.1 + a0)), (2, .int a1), (3, .int a2)]) (by decide +kernel) (by decide) rfl ?_
  refine sd_iload (i := 4) (q := 0) (pc' := 11) (by decide +kernel) rfl ?_
  refine sd_iconst (n := -1) (v := (-1)) (pc' := 12) (by decide +kernel) (by decide) ?_
  refine sd_icmp_eq (off := 6) (tgt := 18) (pc' := 15) (by decide +kernel) (fun c3 => ?_) (fun c3 => ?_)
  · replace hf := ite_p c3 hf
    refine sd_aload_n (k := 0) (i := 0) (q := 1) (pc' := 19) (by decide +kernel) rfl rfl ?_
    obtain ⟨w4, e5, pw6, hf⟩ := op_some hf
    refine sF_gm (idx := 76) (k := 7) (w := 0) (r := w4) (pc' := 22) (by decide +kernel) fl_X7_76 (by decide) e5 ?_
    refine sd_aload_n (k := 1) (i := 1) (q := 2) (pc' := 23) (by decide +kernel) rfl rfl ?_
    obtain ⟨t8, q7, hf⟩ := b1_some hf
    refine sF_callV (idx := 134) (b := w4) (As := [.ref (G.1 + a0)]) (ci := 6) (nn := 4) (pc' := 26) 1 (T_XR_widthOf (G := G) (h := h) pw6 pa0 q7) (by decide +kernel) mv_XR_widthOf ml_X7_134 (by decide +kernel) rfl rfl (Nat.le_of_ble_eq_true rfl) pw6 rfl (by decide) rfl rfl ?_
    refine sd_istore (i := 5) (pc' := 28) (lo' := [(5, .int t8), (4, .int t2), (0, .ref (G.1 + 100)), (1, .ref (G.1 + a0)), (2, .int a1), (3, .int a2)]) (by decide +kernel) (by decide) rfl ?_
    refine sd_iload (i := 5) (q := 0) (pc' := 30) (by decide +kernel) rfl ?_
    refine sd_aload_n (k := 0) (i := 0) (q := 2) (pc' := 31) (by decide +kernel) rfl rfl ?_
    refine sd_aload_n (k := 1) (i := 1) (q := 3) (pc' := 32) (by decide +kernel) rfl rfl ?_
    refine sd_iconst (n := 1) (v := 1) (pc' := 33) (by decide +kernel) (by decide) ?_
    refine sd_iload_n (k := 2) (i := 2) (q := 4) (pc' := 34) (by decide +kernel) rfl rfl ?_
    refine sd_iload_n (k := 3) (i := 3) (q := 5) (pc' := 35) (by decide +kernel) rfl rfl ?_
    obtain ⟨t10, q9, hf⟩ := b1_some hf
    refine sF_callV (idx := 138) (b := 100) (As := [.ref (G.1 + a0), .int 1, .int a1, .int a2]) (ci := 7) (nn := 11) (pc' := 38) 4 (T_XU_read (G := G) (h := h) pa0 q9) (by decide +kernel) mv_XU_read ml_X7_138 (by decide +kernel) rfl rfl (Nat.le_of_ble_eq_true rfl) SH_100 rfl (by decide) rfl rfl ?_
    obtain ⟨t12, q11, hf⟩ := b1_some hf
    refine sF_callS (idx := 142) (As := [.int t8, .double t10]) (pc' := 41) 2 (T_XN_cast (G := G) (h := h)  q11) (by decide +kernel) mv_XN_cast ml_X7_142 (by decide +kernel) rfl rfl (Nat.le_of_ble_eq_true rfl) rfl ?_
    refine sd_dstore (i := 6) (pc' := 43) (lo' := [(6, .double t12), (5, .int t8), (4, .int t2), (0, .ref (G.1 + 100)), (1, .ref (G.1 + a0)), (2, .int a1), (3, .int a2)]) (by decide +kernel) (by decide) rfl ?_
    refine sd_iload (i := 5) (q := 1) (pc' := 45) (by decide +kernel) rfl ?_
    refine sd_aload_n (k := 0) (i := 0) (q := 3) (pc' := 46) (by decide +kernel) rfl rfl ?_
    refine sd_aload_n (k := 1) (i := 1) (q := 4) (pc' := 47) (by decide +kernel) rfl rfl ?_
    refine sd_iconst (n := 2) (v := 2) (pc' := 48) (by decide +kernel) (by decide) ?_
    refine sd_iload_n (k := 2) (i := 2) (q := 5) (pc' := 49) (by decide +kernel) rfl rfl ?_
    refine sd_iload_n (k := 3) (i := 3) (q := 6) (pc' := 50) (by decide +kernel) rfl rfl ?_
    obtain ⟨t14, q13, hf⟩ := b1_some hf
    refine sF_callV (idx := 138) (b := 100) (As := [.ref (G.1 + a0), .int 2, .int a1, .int a2]) (ci := 7) (nn := 11) (pc' := 53) 4 (T_XU_read (G := G) (h := h) pa0 q13) (by decide +kernel) mv_XU_read ml_X7_138 (by decide +kernel) rfl rfl (Nat.le_of_ble_eq_true rfl) SH_100 rfl (by decide) rfl rfl ?_
    obtain ⟨t16, q15, hf⟩ := b1_some hf
    refine sF_callS (idx := 142) (As := [.int t8, .double t14]) (pc' := 56) 2 (T_XN_cast (G := G) (h := h)  q15) (by decide +kernel) mv_XN_cast ml_X7_142 (by decide +kernel) rfl rfl (Nat.le_of_ble_eq_true rfl) rfl ?_
    refine sd_dstore (i := 8) (pc' := 58) (lo' := [(8, .double t16), (6, .double t12), (5, .int t8), (4, .int t2), (0, .ref (G.1 + 100)), (1, .ref (G.1 + a0)), (2, .int a1), (3, .int a2)]) (by decide +kernel) (by decide) rfl ?_
    refine sd_aload_n (k := 1) (i := 1) (q := 5) (pc' := 59) (by decide +kernel) rfl rfl ?_
    obtain ⟨t18, q17, hf⟩ := b1_some hf
    refine sF_callV (idx := 148) (b := a0) (As := []) (ci := 9) (nn := 6) (pc' := 62) 0 (T_XA_mayBeOver (G := G) (h := h) pa0 q17) (by decide +kernel) mv_XA_mayBeOver ml_X7_148 (by decide +kernel) rfl rfl (Nat.le_of_ble_eq_true rfl) pa0 rfl (by decide) rfl rfl ?_
    refine sd_if_eq (off := 21) (tgt := 83) (pc' := 65) (by decide +kernel) (fun c19 => ?_) (fun c19 => ?_)
    · replace hf := ite_p c19 hf
      refine sd_J.sub (lo' := [(0, .ref (G.1 + 100)), (1, .ref (G.1 + a0)), (2, .int a1), (3, .int a2), (5, .int t8), (6, .double t12), (8, .double t16)]) [4, 5, 6, 7, 2, 1, 0] rfl ?_
      exact J_XU_doItem_B83 hE pa0 hf
    · replace hf := ite_n c19 hf
      refine sd_aload_n (k := 1) (i := 1) (q := 5) (pc' := 66) (by decide +kernel) rfl rfl ?_
      refine sF_gi (idx := 152) (ci := 9) (k := 1) (n := 6) (pc' := 69) (by decide +kernel) fl_X7_152 (by decide +kernel) rfl pa0 ?_
      refine sd_dload (i := 6) (q := 1) (pc' := 71) (by decide +kernel) rfl ?_
      refine sd_d2i (pc' := 72) (by decide +kernel) ?_
      refine sd_dload (i := 8) (q := 0) (pc' := 74) (by decide +kernel) rfl ?_
      refine sd_d2i (pc' := 75) (by decide +kernel) ?_
      obtain ⟨t27, q26, hf⟩ := b1_some hf
      refine sF_callS (idx := 155) (As := [.int (h.1 a0 1), .int (FP.d2i t12), .int (FP.d2i t16)]) (pc' := 78) 3 (T_XN_isOver (G := G) (h := h)  q26) (by decide +kernel) mv_XN_isOver ml_X7_155 (by decide +kernel) rfl rfl (Nat.le_of_ble_eq_true rfl) rfl ?_
      refine sd_if_eq (off := 5) (tgt := 83) (pc' := 81) (by decide +kernel) (fun c28 => ?_) (fun c28 => ?_)
      · replace hf := ite_p c28 hf
        refine sd_J.sub (lo' := [(0, .ref (G.1 + 100)), (1, .ref (G.1 + a0)), (2, .int a1), (3, .int a2), (5, .int t8), (6, .double t12), (8, .double t16)]) [4, 5, 6, 7, 2, 1, 0] rfl ?_
        exact J_XU_doItem_B83 hE pa0 hf
      · replace hf := ite_n c28 hf
        refine sd_iconst (n := 2) (v := 2) (pc' := 82) (by decide +kernel) (by decide) ?_
        obtain rfl := Option.some.inj hf
        exact sd_iret (by decide +kernel) rfl (hE _)
  · replace hf := ite_n c3 hf
    refine sd_iload (i := 4) (q := 0) (pc' := 17) (by decide +kernel) rfl ?_
    obtain rfl := Option.some.inj hf
    exact sd_iret (by decide +kernel) rfl (hE _)
