theorem fl_X11_271 : sd_fl RX11 271 1 0 := ⟨sd_mem (i := 342) (by decide +kernel), by decide, by decide⟩
theorem fl_X11_268 : sd_fl RX11 268 1 1 := ⟨sd_mem (i := 344) (by decide +kernel), by decide, by decide⟩
def M_XT_kind : sd_MX := (yX11_kind, cX11_kind, 5, (some .int), { frames := 5, cells := 0, slots := 0, locals := 138 })
def XT_kind (h : sd_H) (a0 : Int32) (a1 : Int32) (a2 : Int32) (a3 : Int32) : Option (sd_H × Int32) :=
  b1 (XT_isStatement h a0) (fun t2 => (if t2 = 0 then some (h, (-2147483648)) else b1 (XT_isRow a1) (fun t5 => (if t5 = 0 then some (h, (-2147483648)) else gd (sd_inB a0 5) (b1 (XK_collect h 1 (8 + 5 * (a0 : Int32).toNatClampNeg) a1) (fun h9 => b1 (XT_within a2 0 ((h9.1 63 3) - 1)) (fun t11 => (if t11 = 0 then some (h9, (-2147483648)) else (if a3 = 3 then gd (sd_inB a2 30) (some (h9, (h9.1 65 (a2 : Int32).toNatClampNeg))) else gd (sd_inB a2 30) (b1 (XS_part h9 (67 + 1 * (a2 : Int32).toNatClampNeg) a3 (-2147483648)) (fun t16 => some (h9, t16))))))))))))
set_option maxHeartbeats 4000000 in
set_option maxRecDepth 100000 in
theorem T_XT_kind {G : sd_GX} {h : sd_H} {a0 : Int32} {a1 : Int32} {a2 : Int32} {a3 : Int32} {r : (sd_H × Int32)} (hf : XT_kind h a0 a1 a2 a3 = some r) : sd_RunF G M_XT_kind [.ref (G.1 + 0), .int a0, .int a1, .int a2, .int a3] h (some (.int r.2)) r.1 := by
  refine sF_run ⟨rfl, rfl⟩ (by decide +kernel) (Nat.le_of_ble_eq_true rfl) (lo := [(0, .ref (G.1 + 0)), (1, .int a0), (2, .int a1), (3, .int a2), (4, .int a3)]) rfl (fun X hE => ?_)
  unfold XT_kind at hf
  refine sd_aload_n (k := 0) (i := 0) (q := 0) (pc' := 1) (by decide +kernel) rfl rfl ?_
  refine sd_iload_n (k := 1) (i := 1) (q := 1) (pc' := 2) (by decide +kernel) rfl rfl ?_
  obtain ⟨t2, q1, hf⟩ := b1_some hf
  refine sF_callV (idx := 207) (b := 0) (As := [.int a0]) (ci := 11) (nn := 17) (pc' := 5) 1 (T_XT_isStatement (G := G) (h := h)  q1) (by decide +kernel) mv_XT_isStatement ml_X11_207 (by decide +kernel) rfl rfl (Nat.le_of_ble_eq_true rfl) SH_0 rfl (by decide) rfl rfl ?_
  refine sd_if_eq (off := 10) (tgt := 15) (pc' := 8) (by decide +kernel) (fun c3 => ?_) (fun c3 => ?_)
  · replace hf := ite_p c3 hf
    refine sd_ldc (idx := 240) (v := (-2147483648)) (pc' := 17) (by decide +kernel) (sd_mem (i := 729) (by decide +kernel)) ?_
    obtain rfl := Option.some.inj hf
    exact sd_iret (by decide +kernel) rfl (hE _)
  · replace hf := ite_n c3 hf
    refine sd_iload_n (k := 2) (i := 2) (q := 2) (pc' := 9) (by decide +kernel) rfl rfl ?_
    obtain ⟨t5, q4, hf⟩ := b1_some hf
    refine sF_callS (idx := 93) (As := [.int a1]) (pc' := 12) 1 (T_XT_isRow (G := G) (h := h)  q4) (by decide +kernel) mv_XT_isRow ml_X11_93 (by decide +kernel) rfl rfl (Nat.le_of_ble_eq_true rfl) rfl ?_
    refine sd_if_ne (off := 6) (tgt := 18) (pc' := 15) (by decide +kernel) (fun c6 => ?_) (fun c6 => ?_)
    · replace hf := ite_n c6 hf
      refine sd_aload_n (k := 0) (i := 0) (q := 0) (pc' := 19) (by decide +kernel) rfl rfl ?_
      refine sF_gr (idx := 48) (ci := 11) (k := 5) (n := 17) (r := 63) (pc' := 22) (by decide +kernel) fl_X11_48 (by decide +kernel) rfl SH_0 (by decide) (by decide +kernel) ?_
      refine sd_aload_n (k := 0) (i := 0) (q := 0) (pc' := 23) (by decide +kernel) rfl rfl ?_
      refine sF_gr (idx := 21) (ci := 11) (k := 1) (n := 17) (r := 6) (pc' := 26) (by decide +kernel) fl_X11_21 (by decide +kernel) rfl SH_0 (by decide) (by decide +kernel) ?_
      refine sd_aload_n (k := 0) (i := 0) (q := 0) (pc' := 27) (by decide +kernel) rfl rfl ?_
      refine sF_gr (idx := 12) (ci := 11) (k := 0) (n := 17) (r := 1) (pc' := 30) (by decide +kernel) fl_X11_12 (by decide +kernel) rfl SH_0 (by decide) (by decide +kernel) ?_
      refine sd_aload_n (k := 0) (i := 0) (q := 0) (pc' := 31) (by decide +kernel) rfl rfl ?_
      refine sF_gr (idx := 21) (ci := 11) (k := 1) (n := 17) (r := 6) (pc' := 34) (by decide +kernel) fl_X11_21 (by decide +kernel) rfl SH_0 (by decide) (by decide +kernel) ?_
      refine sF_gr (idx := 173) (ci := 2) (k := 0) (n := 3) (r := 7) (pc' := 37) (by decide +kernel) fl_X11_173 (by decide +kernel) rfl SH_6 (by decide) (by decide +kernel) ?_
      refine sd_iload_n (k := 1) (i := 1) (q := 1) (pc' := 38) (by decide +kernel) rfl rfl ?_
      obtain ⟨g7, hf⟩ := gd_some hf
      refine sF_aald (n := 5) (r := (8 + 5 * (a0 : Int32).toNatClampNeg)) (pc' := 39) (by decide +kernel) SH_7 (by decide) g7 (rta_7 (inB_lt g7)) ?_
      refine sd_iload_n (k := 2) (i := 2) (q := 2) (pc' := 40) (by decide +kernel) rfl rfl ?_
      obtain ⟨h9, q8, hf⟩ := b1_some hf
      refine sF_callV0 (idx := 262) (b := 63) (As := [.ref (G.1 + 6), .ref (G.1 + 1), .ref (G.1 + (8 + 5 * (a0 : Int32).toNatClampNeg)), .int a1]) (ci := 1) (nn := 4) (pc' := 43) 4 (T_XK_collect (G := G) (h := h) SH_1 (sha_7 (inB_lt g7)) q8) (by decide +kernel) mv_XK_collect ml_X11_262 (by decide +kernel) rfl rfl (Nat.le_of_ble_eq_true rfl) SH_63 rfl (by decide) rfl rfl ?_
      refine sd_iload_n (k := 3) (i := 3) (q := 3) (pc' := 44) (by decide +kernel) rfl rfl ?_
      refine sd_iconst (n := 0) (v := 0) (pc' := 45) (by decide +kernel) (by decide) ?_
      refine sd_aload_n (k := 0) (i := 0) (q := 0) (pc' := 46) (by decide +kernel) rfl rfl ?_
      refine sF_gr (idx := 48) (ci := 11) (k := 5) (n := 17) (r := 63) (pc' := 49) (by decide +kernel) fl_X11_48 (by decide +kernel) rfl SH_0 (by decide) (by decide +kernel) ?_
      refine sF_gi (idx := 266) (ci := 1) (k := 3) (n := 4) (pc' := 52) (by decide +kernel) fl_X11_266 (by decide +kernel) rfl SH_63 ?_
      refine sd_iconst (n := 1) (v := 1) (pc' := 53) (by decide +kernel) (by decide) ?_
      refine sd_isub (pc' := 54) (by decide +kernel) ?_
      obtain ⟨t11, q10, hf⟩ := b1_some hf
      refine sF_callS (idx := 97) (As := [.int a2, .int 0, .int ((h9.1 63 3) - 1)]) (pc' := 57) 3 (T_XT_within (G := G) (h := h9)  q10) (by decide +kernel) mv_XT_within ml_X11_97 (by decide +kernel) rfl rfl (Nat.le_of_ble_eq_true rfl) rfl ?_
      refine sd_if_ne (off := 6) (tgt := 63) (pc' := 60) (by decide +kernel) (fun c12 => ?_) (fun c12 => ?_)
      · replace hf := ite_n c12 hf
        refine sd_iload (i := 4) (q := 4) (pc' := 65) (by decide +kernel) rfl ?_
        refine sd_iconst (n := 3) (v := 3) (pc' := 66) (by decide +kernel) (by decide) ?_
        refine sd_icmp_ne (off := 15) (tgt := 81) (pc' := 69) (by decide +kernel) (fun c13 => ?_) (fun c13 => ?_)
        · replace hf := ite_n c13 hf
          refine sd_aload_n (k := 0) (i := 0) (q := 0) (pc' := 82) (by decide +kernel) rfl rfl ?_
          refine sF_gr (idx := 48) (ci := 11) (k := 5) (n := 17) (r := 63) (pc' := 85) (by decide +kernel) fl_X11_48 (by decide +kernel) rfl SH_0 (by decide) (by decide +kernel) ?_
          refine sF_gr (idx := 271) (ci := 1) (k := 0) (n := 4) (r := 64) (pc' := 88) (by decide +kernel) fl_X11_271 (by decide +kernel) rfl SH_63 (by decide) (by decide +kernel) ?_
          refine sd_iload_n (k := 3) (i := 3) (q := 3) (pc' := 89) (by decide +kernel) rfl rfl ?_
          obtain ⟨g14, hf⟩ := gd_some hf
          refine sF_aald (n := 30) (r := (67 + 1 * (a2 : Int32).toNatClampNeg)) (pc' := 90) (by decide +kernel) SH_64 (by decide) g14 (rta_64 (inB_lt g14)) ?_
          refine sd_iload (i := 4) (q := 4) (pc' := 92) (by decide +kernel) rfl ?_
          refine sd_ldc (idx := 240) (v := (-2147483648)) (pc' := 94) (by decide +kernel) (sd_mem (i := 729) (by decide +kernel)) ?_
          obtain ⟨t16, q15, hf⟩ := b1_some hf
          refine sF_callV (idx := 251) (b := (67 + 1 * (a2 : Int32).toNatClampNeg)) (As := [.int a3, .int (-2147483648)]) (ci := 8) (nn := 3) (pc' := 97) 2 (T_XS_part (G := G) (h := h9) (sha_64 (inB_lt g14)) q15) (by decide +kernel) mv_XS_part ml_X11_251 (by decide +kernel) rfl rfl (Nat.le_of_ble_eq_true rfl) (sha_64 (inB_lt g14)) rfl (by decide) rfl rfl ?_
          obtain rfl := Option.some.inj hf
          exact sd_iret (by decide +kernel) rfl (hE _)
        · replace hf := ite_p c13 hf
          refine sd_aload_n (k := 0) (i := 0) (q := 0) (pc' := 70) (by decide +kernel) rfl rfl ?_
          refine sF_gr (idx := 48) (ci := 11) (k := 5) (n := 17) (r := 63) (pc' := 73) (by decide +kernel) fl_X11_48 (by decide +kernel) rfl SH_0 (by decide) (by decide +kernel) ?_
          refine sF_gr (idx := 268) (ci := 1) (k := 1) (n := 4) (r := 65) (pc' := 76) (by decide +kernel) fl_X11_268 (by decide +kernel) rfl SH_63 (by decide) (by decide +kernel) ?_
          refine sd_iload_n (k := 3) (i := 3) (q := 3) (pc' := 77) (by decide +kernel) rfl rfl ?_
          obtain ⟨g17, hf⟩ := gd_some hf
          refine sF_iald (n := 30) (pc' := 78) (by decide +kernel) SH_65 g17 ?_
          refine sd_goto (off := 19) (tgt := 97) (pc' := 81) (by decide +kernel) ?_
          obtain rfl := Option.some.inj hf
          exact sd_iret (by decide +kernel) rfl (hE _)
      · replace hf := ite_p c12 hf
        refine sd_ldc (idx := 240) (v := (-2147483648)) (pc' := 62) (by decide +kernel) (sd_mem (i := 729) (by decide +kernel)) ?_
        obtain rfl := Option.some.inj hf
        exact sd_iret (by decide +kernel) rfl (hE _)
    · replace hf := ite_p c6 hf
      refine sd_ldc (idx := 240) (v := (-2147483648)) (pc' := 17) (by decide +kernel) (sd_mem (i := 729) (by decide +kernel)) ?_
      obtain rfl := Option.some.inj hf
      exact sd_iret (by decide +kernel) rfl (hE _)

def M_XT_isSet : sd_MX := (yX11_isSet, cX11_isSet, 4, (some .boolean), { frames := 3, cells := 0, slots := 0, locals := 83 })
def XT_isSet_B29 (h : sd_H) : Option Int32 :=
  some 1
set_option maxHeartbeats 4000000 in
set_option maxRecDepth 100000 in
theorem J_XT_isSet_B29 {G : sd_GX} {X : sd_CX} (hE : ∀ g : sd_H, sd_end G X M_XT_isSet (sd_F g)) {h : sd_H} {r : Int32} (hf : XT_isSet_B29 h = some r) : sd_J G X (sd_QR G X M_XT_isSet (some (.int r), sd_F h)) M_XT_isSet 29 [] [] (sd_F h) := by
  unfold XT_isSet_B29 at hf
  refine sd_iconst (n := 1) (v := 1) (pc' := 30) (by decide +kernel) (by decide) ?_
  refine sd_goto (off := 4) (tgt := 34) (pc' := 33) (by decide +kernel) ?_
  obtain rfl := Option.some.inj hf
  exact sd_zret (by decide +kernel) rfl rfl (hE _)
def XT_isSet (h : sd_H) (a0 : Int32) (a1 : Int32) (a2 : Int32) : Option Int32 :=
  b1 (XT_within a0 0 3) (fun t2 => (if t2 = 0 then some 0 else b1 (XT_isRow a1) (fun t5 => (if t5 = 0 then some 0 else (if a2 = (-1) then XT_isSet_B29 h else b1 (XT_isTurn h a2) (fun t9 => (if t9 = 0 then some 0 else XT_isSet_B29 h)))))))
set_option maxHeartbeats 4000000 in
set_option maxRecDepth 100000 in
theorem T_XT_isSet {G : sd_GX} {h : sd_H} {a0 : Int32} {a1 : Int32} {a2 : Int32} {r : Int32} (hf : XT_isSet h a0 a1 a2 = some r) : sd_RunF G M_XT_isSet [.ref (G.1 + 0), .int a0, .int a1, .int a2] h (some (.int r)) h := by
  refine sF_run ⟨rfl, rfl⟩ (by decide +kernel) (Nat.le_of_ble_eq_true rfl) (lo := [(0, .ref (G.1 + 0)), (1, .int a0), (2, .int a1), (3, .int a2)]) rfl (fun X hE => ?_)
  unfold XT_isSet at hf
  refine sd_iload_n (k := 1) (i := 1) (q := 1) (pc' := 1) (by decide +kernel) rfl rfl ?_
  refine sd_iconst (n := 0) (v := 0) (pc' := 2) (by decide +kernel) (by decide) ?_
  refine sd_iconst (n := 3) (v := 3) (pc' := 3) (by decide +kernel) (by decide) ?_
  obtain ⟨t2, q1, hf⟩ := b1_some hf
  refine sF_callS (idx := 97) (As := [.int a0, .int 0, .int 3]) (pc' := 6) 3 (T_XT_within (G := G) (h := h)  q1) (by decide +kernel) mv_XT_within ml_X11_97 (by decide +kernel) rfl rfl (Nat.le_of_ble_eq_true rfl) rfl ?_
  refine sd_if_eq (off := 27) (tgt := 33) (pc' := 9) (by decide +kernel) (fun c3 => ?_) (fun c3 => ?_)
  · replace hf := ite_p c3 hf
    refine sd_iconst (n := 0) (v := 0) (pc' := 34) (by decide +kernel) (by decide) ?_
    obtain rfl := Option.some.inj hf
    exact sd_zret (by decide +kernel) rfl rfl (hE _)
  · replace hf := ite_n c3 hf
    refine sd_iload_n (k := 2) (i := 2) (q := 2) (pc' := 10) (by decide +kernel) rfl rfl ?_
    obtain ⟨t5, q4, hf⟩ := b1_some hf
    refine sF_callS (idx := 93) (As := [.int a1]) (pc' := 13) 1 (T_XT_isRow (G := G) (h := h)  q4) (by decide +kernel) mv_XT_isRow ml_X11_93 (by decide +kernel) rfl rfl (Nat.le_of_ble_eq_true rfl) rfl ?_
    refine sd_if_eq (off := 20) (tgt := 33) (pc' := 16) (by decide +kernel) (fun c6 => ?_) (fun c6 => ?_)
    · replace hf := ite_p c6 hf
      refine sd_iconst (n := 0) (v := 0) (pc' := 34) (by decide +kernel) (by decide) ?_
      obtain rfl := Option.some.inj hf
      exact sd_zret (by decide +kernel) rfl rfl (hE _)
    · replace hf := ite_n c6 hf
      refine sd_iload_n (k := 3) (i := 3) (q := 3) (pc' := 17) (by decide +kernel) rfl rfl ?_
      refine sd_iconst (n := -1) (v := (-1)) (pc' := 18) (by decide +kernel) (by decide) ?_
      refine sd_icmp_eq (off := 11) (tgt := 29) (pc' := 21) (by decide +kernel) (fun c7 => ?_) (fun c7 => ?_)
      · replace hf := ite_p c7 hf
        refine sd_J.sub (lo' := []) [] rfl ?_
        exact J_XT_isSet_B29 hE hf
      · replace hf := ite_n c7 hf
        refine sd_aload_n (k := 0) (i := 0) (q := 0) (pc' := 22) (by decide +kernel) rfl rfl ?_
        refine sd_iload_n (k := 3) (i := 3) (q := 3) (pc' := 23) (by decide +kernel) rfl rfl ?_
        obtain ⟨t9, q8, hf⟩ := b1_some hf
        refine sF_callV (idx := 244) (b := 0) (As := [.int a2]) (ci := 11) (nn := 17) (pc' := 26) 1 (T_XT_isTurn (G := G) (h := h)  q8) (by decide +kernel) mv_XT_isTurn ml_X11_244 (by decide +kernel) rfl rfl (Nat.le_of_ble_eq_true rfl) SH_0 rfl (by decide) rfl rfl ?_
        refine sd_if_eq (off := 7) (tgt := 33) (pc' := 29) (by decide +kernel) (fun c10 => ?_) (fun c10 => ?_)
        · replace hf := ite_p c10 hf
          refine sd_iconst (n := 0) (v := 0) (pc' := 34) (by decide +kernel) (by decide) ?_
          obtain rfl := Option.some.inj hf
          exact sd_zret (by decide +kernel) rfl rfl (hE _)
        · replace hf := ite_n c10 hf
          refine sd_J.sub (lo' := []) [] rfl ?_
          exact J_XT_isSet_B29 hE hf

def M_XA_mayBeOver : sd_MX := (yX9_mayBeOver, cX9_mayBeOver, 1, (some .boolean), { frames := 1, cells := 0, slots := 0, locals := 40 })
def XA_mayBeOver_B18 (h : sd_H) : Option Int32 :=
  some 1
set_option maxHeartbeats 4000000 in
set_option maxRecDepth 100000 in
theorem J_XA_mayBeOver_B18 {G : sd_GX} {X : sd_CX} (hE : ∀ g : sd_H, sd_end G X M_XA_mayBeOver (sd_F g)) {h : sd_H} {r : Int32} (hf : XA_mayBeOver_B18 h = some r) : sd_J G X (sd_QR G X M_XA_mayBeOver (some (.int r), sd_F h)) M_XA_mayBeOver 18 [] [] (sd_F h) := by
  unfold XA_mayBeOver_B18 at hf
  refine sd_iconst (n := 1) (v := 1) (pc' := 19) (by decide +kernel) (by decide) ?_
  refine sd_goto (off := 4) (tgt := 23) (pc' := 22) (by decide +kernel) ?_
  obtain rfl := Option.some.inj hf
  exact sd_zret (by decide +kernel) rfl rfl (hE _)
def XA_mayBeOver (h : sd_H) (this : Nat) : Option Int32 :=
  (if (h.1 this 1) = 11 then XA_mayBeOver_B18 h else (if (h.1 this 1) = 12 then XA_mayBeOver_B18 h else some 0))
set_option maxHeartbeats 4000000 in
set_option maxRecDepth 100000 in
theorem T_XA_mayBeOver {G : sd_GX} {h : sd_H} {this : Nat} {r : Int32} (pt : sd_SH this = (9, 6)) (hf : XA_mayBeOver h this = some r) : sd_RunF G M_XA_mayBeOver [.ref (G.1 + this)] h (some (.int r)) h := by
  refine sF_run ⟨rfl, rfl⟩ (by decide +kernel) (Nat.le_of_ble_eq_true rfl) (lo := [(0, .ref (G.1 + this))]) rfl (fun X hE => ?_)
  unfold XA_mayBeOver at hf
  refine sd_aload_n (k := 0) (i := 0) (q := 0) (pc' := 1) (by decide +kernel) rfl rfl ?_
  refine sF_gi (idx := 22) (ci := 9) (k := 1) (n := 6) (pc' := 4) (by decide +kernel) fl_X9_22 (by decide +kernel) rfl pt ?_
  refine sd_bipush (n := 11) (v := 11) (pc' := 6) (by decide +kernel) (by decide) ?_
  refine sd_icmp_eq (off := 12) (tgt := 18) (pc' := 9) (by decide +kernel) (fun c1 => ?_) (fun c1 => ?_)
  · replace hf := ite_p c1 hf
    refine sd_J.sub (lo' := []) [] rfl ?_
    exact J_XA_mayBeOver_B18 hE hf
  · replace hf := ite_n c1 hf
    refine sd_aload_n (k := 0) (i := 0) (q := 0) (pc' := 10) (by decide +kernel) rfl rfl ?_
    refine sF_gi (idx := 22) (ci := 9) (k := 1) (n := 6) (pc' := 13) (by decide +kernel) fl_X9_22 (by decide +kernel) rfl pt ?_
    refine sd_bipush (n := 12) (v := 12) (pc' := 15) (by decide +kernel) (by decide) ?_
    refine sd_icmp_ne (off := 7) (tgt := 22) (pc' := 18) (by decide +kernel) (fun c2 => ?_) (fun c2 => ?_)
    · replace hf := ite_n c2 hf
      refine sd_iconst (n := 0) (v := 0) (pc' := 23) (by decide +kernel) (by decide) ?_
      obtain rfl := Option.some.inj hf
      exact sd_zret (by decide +kernel) rfl rfl (hE _)
    · replace hf := ite_p c2 hf
      refine sd_J.sub (lo' := []) [] rfl ?_
      exact J_XA_mayBeOver_B18 hE hf

def M_XR_faultAt : sd_MX := (yX6_faultAt, cX6_faultAt, 3, (some .int), { frames := 1, cells := 0, slots := 0, locals := 40 })
def XR_faultAt (h : sd_H) (this : Nat) (a0 : Int32) (a1 : Int32) : Option Int32 :=
  gd (sd_inB a0 6) ((if (h.1 (this + 1) (a0 : Int32).toNatClampNeg) < 0 then some 0 else gd (sd_inB a0 6) ((if (h.1 (this + 1) (a0 : Int32).toNatClampNeg) ≤ 3 then (if a1 < 0 then some 1 else gd (sd_inB a0 6) ((if (h.1 (this + 2) (a0 : Int32).toNatClampNeg) ≤ a1 then some 1 else some (-1)))) else some 0))))
set_option maxHeartbeats 4000000 in
set_option maxRecDepth 100000 in
theorem T_XR_faultAt {G : sd_GX} {h : sd_H} {this : Nat} {a0 : Int32} {a1 : Int32} {r : Int32} (pt : sd_SH this = (6, 4)) (hf : XR_faultAt h this a0 a1 = some r) : sd_RunF G M_XR_faultAt [.ref (G.1 + this), .int a0, .int a1] h (some (.int r)) h := by
  refine sF_run ⟨rfl, rfl⟩ (by decide +kernel) (Nat.le_of_ble_eq_true rfl) (lo := [(0, .ref (G.1 + this)), (1, .int a0), (2, .int a1)]) rfl (fun X hE => ?_)
  unfold XR_faultAt at hf
  refine sd_aload_n (k := 0) (i := 0) (q := 0) (pc' := 1) (by decide +kernel) rfl rfl ?_
  refine sF_gr (idx := 9) (ci := 6) (k := 0) (n := 4) (r := (this + 1)) (pc' := 4) (by decide +kernel) fl_X6_9 (by decide +kernel) rfl pt (by decide) (rt_6_0 pt) ?_
  refine sd_iload_n (k := 1) (i := 1) (q := 1) (pc' := 5) (by decide +kernel) rfl rfl ?_
  obtain ⟨g1, hf⟩ := gd_some hf
  refine sF_iald (n := 6) (pc' := 6) (by decide +kernel) (sh_6_0 pt) g1 ?_
  refine sd_if_lt (off := 13) (tgt := 19) (pc' := 9) (by decide +kernel) (fun c2 => ?_) (fun c2 => ?_)
  · replace hf := ite_p c2 hf
    refine sd_iconst (n := 0) (v := 0) (pc' := 20) (by decide +kernel) (by decide) ?_
    obtain rfl := Option.some.inj hf
    exact sd_iret (by decide +kernel) rfl (hE _)
  · replace hf := ite_n c2 hf
    refine sd_aload_n (k := 0) (i := 0) (q := 0) (pc' := 10) (by decide +kernel) rfl rfl ?_
    refine sF_gr (idx := 9) (ci := 6) (k := 0) (n := 4) (r := (this + 1)) (pc' := 13) (by decide +kernel) fl_X6_9 (by decide +kernel) rfl pt (by decide) (rt_6_0 pt) ?_
    refine sd_iload_n (k := 1) (i := 1) (q := 1) (pc' := 14) (by decide +kernel) rfl rfl ?_
    obtain ⟨g3, hf⟩ := gd_some hf
    refine sF_iald (n := 6) (pc' := 15) (by decide +kernel) (sh_6_0 pt) g3 ?_
    refine sd_iconst (n := 3) (v := 3) (pc' := 16) (by decide +kernel) (by decide) ?_
    refine sd_icmp_le (off := 5) (tgt := 21) (pc' := 19) (by decide +kernel) (fun c4 => ?_) (fun c4 => ?_)
    · replace hf := ite_p c4 hf
      refine sd_iload_n (k := 2) (i := 2) (q := 2) (pc' := 22) (by decide +kernel) rfl rfl ?_
      refine sd_if_lt (off := 17) (tgt := 39) (pc' := 25) (by decide +kernel) (fun c5 => ?_) (fun c5 => ?_)
      · replace hf := ite_p c5 hf
        refine sd_iconst (n := 1) (v := 1) (pc' := 40) (by decide +kernel) (by decide) ?_
        obtain rfl := Option.some.inj hf
        exact sd_iret (by decide +kernel) rfl (hE _)
      · replace hf := ite_n c5 hf
        refine sd_iload_n (k := 2) (i := 2) (q := 2) (pc' := 26) (by decide +kernel) rfl rfl ?_
        refine sd_aload_n (k := 0) (i := 0) (q := 0) (pc' := 27) (by decide +kernel) rfl rfl ?_
        refine sF_gr (idx := 15) (ci := 6) (k := 1) (n := 4) (r := (this + 2)) (pc' := 30) (by decide +kernel) fl_X6_15 (by decide +kernel) rfl pt (by decide) (rt_6_1 pt) ?_
        refine sd_iload_n (k := 1) (i := 1) (q := 1) (pc' := 31) (by decide +kernel) rfl rfl ?_
        obtain ⟨g6, hf⟩ := gd_some hf
        refine sF_iald (n := 6) (pc' := 32) (by decide +kernel) (sh_6_1 pt) g6 ?_
        refine sd_icmp_ge (off := 7) (tgt := 39) (pc' := 35) (by decide +kernel) (fun c7 => ?_) (fun c7 => ?_)
        · replace hf := ite_p c7 hf
          refine sd_iconst (n := 1) (v := 1) (pc' := 40) (by decide +kernel) (by decide) ?_
          obtain rfl := Option.some.inj hf
          exact sd_iret (by decide +kernel) rfl (hE _)
        · replace hf := ite_n c7 hf
          refine sd_iconst (n := -1) (v := (-1)) (pc' := 36) (by decide +kernel) (by decide) ?_
          refine sd_goto (off := 4) (tgt := 40) (pc' := 39) (by decide +kernel) ?_
          obtain rfl := Option.some.inj hf
          exact sd_iret (by decide +kernel) rfl (hE _)
    · replace hf := ite_n c4 hf
      refine sd_iconst (n := 0) (v := 0) (pc' := 20) (by decide +kernel) (by decide) ?_
      obtain rfl := Option.some.inj hf
      exact sd_iret (by decide +kernel) rfl (hE _)

theorem fl_X10_11 : sd_fl RX10 11 10 2 := ⟨sd_mem (i := 299) (by decide +kernel), by decide, by decide⟩
theorem fl_X10_16 : sd_fl RX10 16 10 3 := ⟨sd_mem (i := 300) (by decide +kernel), by decide, by decide⟩
def M_XY_addRead : sd_MX := (yX10_addRead, cX10_addRead, 4, none, { frames := 1, cells := 0, slots := 0, locals := 40 })
def XY_addRead (h : sd_H) (a0 : Int32) (a1 : Int32) (a2 : Int32) : Option sd_H :=
  gd (sd_inB ((a1 * 6) + a0) 60) (gd (sd_inB ((a1 * 6) + a0) 60) (hb (wI h 58 (((a1 * 6) + a0) : Int32).toNatClampNeg ((h.1 58 (((a1 * 6) + a0) : Int32).toNatClampNeg) ||| a2)) (fun h3 => gd (sd_inB ((a1 * 6) + a0) 60) (gd (sd_inB a0 6) (gd (sd_inB ((a1 * 6) + a0) 60) (hb (wI h3 61 (((a1 * 6) + a0) : Int32).toNatClampNeg ((h3.1 61 (((a1 * 6) + a0) : Int32).toNatClampNeg) ||| (a2 &&& ((h3.1 62 (a0 : Int32).toNatClampNeg) ^^^ (-1))))) (fun h8 => some h8)))))))
set_option maxHeartbeats 4000000 in
set_option maxRecDepth 100000 in
theorem T_XY_addRead {G : sd_GX} {h : sd_H} {a0 : Int32} {a1 : Int32} {a2 : Int32} {r : sd_H} (hf : XY_addRead h a0 a1 a2 = some r) : sd_RunF G M_XY_addRead [.ref (G.1 + 56), .int a0, .int a1, .int a2] h none r := by
  refine sF_run ⟨rfl, rfl⟩ (by decide +kernel) (Nat.le_of_ble_eq_true rfl) (lo := [(0, .ref (G.1 + 56)), (1, .int a0), (2, .int a1), (3, .int a2)]) rfl (fun X hE => ?_)
  unfold XY_addRead at hf
  refine sd_aload_n (k := 0) (i := 0) (q := 0) (pc' := 1) (by decide +kernel) rfl rfl ?_
  refine sF_gr (idx := 11) (ci := 10) (k := 2) (n := 6) (r := 57) (pc' := 4) (by decide +kernel) fl_X10_11 (by decide +kernel) rfl SH_56 (by decide) (by decide +kernel) ?_
  refine sd_iconst (n := 0) (v := 0) (pc' := 5) (by decide +kernel) (by decide) ?_
  refine sF_aald2 (n := 4) (r := 58) (pc' := 6) (by decide +kernel) SH_57 (by decide) (by decide +kernel) ?_
  refine sd_iload_n (k := 2) (i := 2) (q := 2) (pc' := 7) (by decide +kernel) rfl rfl ?_
  refine sd_bipush (n := 6) (v := 6) (pc' := 9) (by decide +kernel) (by decide) ?_
  refine sd_imul (pc' := 10) (by decide +kernel) ?_
  refine sd_iload_n (k := 1) (i := 1) (q := 1) (pc' := 11) (by decide +kernel) rfl rfl ?_
  refine sd_iadd (pc' := 12) (by decide +kernel) ?_
  refine sd_dup2 (pc' := 13) (by decide +kernel) rfl rfl ?_
  obtain ⟨g1, hf⟩ := gd_some hf
  refine sF_iald (n := 60) (pc' := 14) (by decide +kernel) SH_58 g1 ?_
  refine sd_iload_n (k := 3) (i := 3) (q := 3) (pc' := 15) (by decide +kernel) rfl rfl ?_
  refine sd_ior (pc' := 16) (by decide +kernel) ?_
  obtain ⟨g2, hf⟩ := gd_some hf
  obtain ⟨h3, e4, hf⟩ := hb_some hf
  refine sF_iast (n := 60) (pc' := 17) (by decide +kernel) SH_58 g2 ?_
  rw [← e4]; clear e4
  refine sd_aload_n (k := 0) (i := 0) (q := 0) (pc' := 18) (by decide +kernel) rfl rfl ?_
  refine sF_gr (idx := 11) (ci := 10) (k := 2) (n := 6) (r := 57) (pc' := 21) (by decide +kernel) fl_X10_11 (by decide +kernel) rfl SH_56 (by decide) (by decide +kernel) ?_
  refine sd_iconst (n := 3) (v := 3) (pc' := 22) (by decide +kernel) (by decide) ?_
  refine sF_aald2 (n := 4) (r := 61) (pc' := 23) (by decide +kernel) SH_57 (by decide) (by decide +kernel) ?_
  refine sd_iload_n (k := 2) (i := 2) (q := 2) (pc' := 24) (by decide +kernel) rfl rfl ?_
  refine sd_bipush (n := 6) (v := 6) (pc' := 26) (by decide +kernel) (by decide) ?_
  refine sd_imul (pc' := 27) (by decide +kernel) ?_
  refine sd_iload_n (k := 1) (i := 1) (q := 1) (pc' := 28) (by decide +kernel) rfl rfl ?_
  refine sd_iadd (pc' := 29) (by decide +kernel) ?_
  refine sd_dup2 (pc' := 30) (by decide +kernel) rfl rfl ?_
  obtain ⟨g5, hf⟩ := gd_some hf
  refine sF_iald (n := 60) (pc' := 31) (by decide +kernel) SH_61 g5 ?_
  refine sd_iload_n (k := 3) (i := 3) (q := 3) (pc' := 32) (by decide +kernel) rfl rfl ?_
  refine sd_aload_n (k := 0) (i := 0) (q := 0) (pc' := 33) (by decide +kernel) rfl rfl ?_
  refine sF_gr (idx := 16) (ci := 10) (k := 3) (n := 6) (r := 62) (pc' := 36) (by decide +kernel) fl_X10_16 (by decide +kernel) rfl SH_56 (by decide) (by decide +kernel) ?_
  refine sd_iload_n (k := 1) (i := 1) (q := 1) (pc' := 37) (by decide +kernel) rfl rfl ?_
  obtain ⟨g6, hf⟩ := gd_some hf
  refine sF_iald (n := 6) (pc' := 38) (by decide +kernel) SH_62 g6 ?_
  refine sd_iconst (n := -1) (v := (-1)) (pc' := 39) (by decide +kernel) (by decide) ?_
  refine sd_ixor (pc' := 40) (by decide +kernel) ?_
  refine sd_iand (pc' := 41) (by decide +kernel) ?_
  refine sd_ior (pc' := 42) (by decide +kernel) ?_
  obtain ⟨g7, hf⟩ := gd_some hf
  obtain ⟨h8, e9, hf⟩ := hb_some hf
  refine sF_iast (n := 60) (pc' := 43) (by decide +kernel) SH_61 g7 ?_
  rw [← e9]; clear e9
  obtain rfl := Option.some.inj hf
  exact sd_vret (by decide +kernel) rfl (hE _)

theorem fl_X10_42 : sd_fl RX10 42 10 4 := ⟨sd_mem (i := 301) (by decide +kernel), by decide, by decide⟩
def M_XY_addWrite : sd_MX := (yX10_addWrite, cX10_addWrite, 5, none, { frames := 1, cells := 0, slots := 0, locals := 40 })
def XY_addWrite (h : sd_H) (a0 : Nat) (a1 : Int32) (a2 : Int32) : Option sd_H :=
  gd (sd_inB ((a1 * 6) + (h.1 ((a0 + 1) + 1 + 0) 0)) 60) (gd (sd_inB ((a1 * 6) + (h.1 ((a0 + 1) + 1 + 0) 0)) 60) (hb (wI h 59 (((a1 * 6) + (h.1 ((a0 + 1) + 1 + 0) 0)) : Int32).toNatClampNeg ((h.1 59 (((a1 * 6) + (h.1 ((a0 + 1) + 1 + 0) 0)) : Int32).toNatClampNeg) ||| a2)) (fun h3 => (if (h3.1 a0 1) = 10 then some h3 else gd (sd_inB (h.1 ((a0 + 1) + 1 + 0) 0) 6) (gd (sd_inB (h.1 ((a0 + 1) + 1 + 0) 0) 6) (hb (wI h3 62 ((h.1 ((a0 + 1) + 1 + 0) 0) : Int32).toNatClampNeg ((h3.1 62 ((h.1 ((a0 + 1) + 1 + 0) 0) : Int32).toNatClampNeg) ||| a2)) (fun h8 => (if (h8.1 56 4) = 0 then gd (sd_inB ((a1 * 6) + (h.1 ((a0 + 1) + 1 + 0) 0)) 60) (gd (sd_inB ((a1 * 6) + (h.1 ((a0 + 1) + 1 + 0) 0)) 60) (hb (wI h8 60 (((a1 * 6) + (h.1 ((a0 + 1) + 1 + 0) 0)) : Int32).toNatClampNeg ((h8.1 60 (((a1 * 6) + (h.1 ((a0 + 1) + 1 + 0) 0)) : Int32).toNatClampNeg) ||| a2)) (fun h13 => some h13))) else some h8))))))))
set_option maxHeartbeats 4000000 in
set_option maxRecDepth 100000 in
theorem T_XY_addWrite {G : sd_GX} {h : sd_H} {a0 : Nat} {a1 : Int32} {a2 : Int32} {r : sd_H} (pa0 : sd_SH a0 = (9, 6)) (hf : XY_addWrite h a0 a1 a2 = some r) : sd_RunF G M_XY_addWrite [.ref (G.1 + 56), .ref (G.1 + a0), .int a1, .int a2] h none r := by
  refine sF_run ⟨rfl, rfl⟩ (by decide +kernel) (Nat.le_of_ble_eq_true rfl) (lo := [(0, .ref (G.1 + 56)), (1, .ref (G.1 + a0)), (2, .int a1), (3, .int a2)]) rfl (fun X hE => ?_)
  unfold XY_addWrite at hf
  refine sd_aload_n (k := 1) (i := 1) (q := 1) (pc' := 1) (by decide +kernel) rfl rfl ?_
  refine sF_gr (idx := 69) (ci := 9) (k := 0) (n := 6) (r := (a0 + 1)) (pc' := 4) (by decide +kernel) fl_X10_69 (by decide +kernel) rfl pa0 (by decide) (rt_9_0 pa0) ?_
  refine sd_iconst (n := 0) (v := 0) (pc' := 5) (by decide +kernel) (by decide) ?_
  refine sF_aald (n := 3) (r := ((a0 + 1) + 1 + 0)) (pc' := 6) (by decide +kernel) (sh_9_0 pa0) (by decide) (by decide) (by rw [show ((0 : Int32)).toNatClampNeg = 0 from by decide]; exact rta_R (sh_9_0 pa0) (by decide)) ?_
  refine sF_gi (idx := 86) (ci := 5) (k := 0) (n := 4) (pc' := 9) (by decide +kernel) fl_X10_86 (by decide +kernel) rfl (sha_R (sh_9_0 pa0) (j := 0) (by decide)) ?_
  refine sd_istore (i := 4) (pc' := 11) (lo' := [(4, .int (h.1 ((a0 + 1) + 1 + 0) 0)), (0, .ref (G.1 + 56)), (1, .ref (G.1 + a0)), (2, .int a1), (3, .int a2)]) (by decide +kernel) (by decide) rfl ?_
  refine sd_aload_n (k := 0) (i := 0) (q := 1) (pc' := 12) (by decide +kernel) rfl rfl ?_
  refine sF_gr (idx := 11) (ci := 10) (k := 2) (n := 6) (r := 57) (pc' := 15) (by decide +kernel) fl_X10_11 (by decide +kernel) rfl SH_56 (by decide) (by decide +kernel) ?_
  refine sd_iconst (n := 1) (v := 1) (pc' := 16) (by decide +kernel) (by decide) ?_
  refine sF_aald2 (n := 4) (r := 59) (pc' := 17) (by decide +kernel) SH_57 (by decide) (by decide +kernel) ?_
  refine sd_iload_n (k := 2) (i := 2) (q := 3) (pc' := 18) (by decide +kernel) rfl rfl ?_
  refine sd_bipush (n := 6) (v := 6) (pc' := 20) (by decide +kernel) (by decide) ?_
  refine sd_imul (pc' := 21) (by decide +kernel) ?_
  refine sd_iload (i := 4) (q := 0) (pc' := 23) (by decide +kernel) rfl ?_
  refine sd_iadd (pc' := 24) (by decide +kernel) ?_
  refine sd_dup2 (pc' := 25) (by decide +kernel) rfl rfl ?_
  obtain ⟨g1, hf⟩ := gd_some hf
  refine sF_iald (n := 60) (pc' := 26) (by decide +kernel) SH_59 g1 ?_
  refine sd_iload_n (k := 3) (i := 3) (q := 4) (pc' := 27) (by decide +kernel) rfl rfl ?_
  refine sd_ior (pc' := 28) (by decide +kernel) ?_
  obtain ⟨g2, hf⟩ := gd_some hf
  obtain ⟨h3, e4, hf⟩ := hb_some hf
  refine sF_iast (n := 60) (pc' := 29) (by decide +kernel) SH_59 g2 ?_
  rw [← e4]; clear e4
  refine sd_aload_n (k := 1) (i := 1) (q := 2) (pc' := 30) (by decide +kernel) rfl rfl ?_
  refine sF_gi (idx := 102) (ci := 9) (k := 1) (n := 6) (pc' := 33) (by decide +kernel) fl_X10_102 (by decide +kernel) rfl pa0 ?_
  refine sd_bipush (n := 10) (v := 10) (pc' := 35) (by decide +kernel) (by decide) ?_
  refine sd_icmp_eq (off := 39) (tgt := 74) (pc' := 38) (by decide +kernel) (fun c5 => ?_) (fun c5 => ?_)
  · replace hf := ite_p c5 hf
    obtain rfl := Option.some.inj hf
    exact sd_vret (by decide +kernel) rfl (hE _)
  · replace hf := ite_n c5 hf
    refine sd_aload_n (k := 0) (i := 0) (q := 1) (pc' := 39) (by decide +kernel) rfl rfl ?_
    refine sF_gr (idx := 16) (ci := 10) (k := 3) (n := 6) (r := 62) (pc' := 42) (by decide +kernel) fl_X10_16 (by decide +kernel) rfl SH_56 (by decide) (by decide +kernel) ?_
    refine sd_iload (i := 4) (q := 0) (pc' := 44) (by decide +kernel) rfl ?_
    refine sd_dup2 (pc' := 45) (by decide +kernel) rfl rfl ?_
    obtain ⟨g6, hf⟩ := gd_some hf
    refine sF_iald (n := 6) (pc' := 46) (by decide +kernel) SH_62 g6 ?_
    refine sd_iload_n (k := 3) (i := 3) (q := 4) (pc' := 47) (by decide +kernel) rfl rfl ?_
    refine sd_ior (pc' := 48) (by decide +kernel) ?_
    obtain ⟨g7, hf⟩ := gd_some hf
    obtain ⟨h8, e9, hf⟩ := hb_some hf
    refine sF_iast (n := 6) (pc' := 49) (by decide +kernel) SH_62 g7 ?_
    rw [← e9]; clear e9
    refine sd_aload_n (k := 0) (i := 0) (q := 1) (pc' := 50) (by decide +kernel) rfl rfl ?_
    refine sF_gi (idx := 42) (ci := 10) (k := 4) (n := 6) (pc' := 53) (by decide +kernel) fl_X10_42 (by decide +kernel) rfl SH_56 ?_
    refine sd_if_ne (off := 21) (tgt := 74) (pc' := 56) (by decide +kernel) (fun c10 => ?_) (fun c10 => ?_)
    · replace hf := ite_n c10 hf
      obtain rfl := Option.some.inj hf
      exact sd_vret (by decide +kernel) rfl (hE _)
    · replace hf := ite_p c10 hf
      refine sd_aload_n (k := 0) (i := 0) (q := 1) (pc' := 57) (by decide +kernel) rfl rfl ?_
      refine sF_gr (idx := 11) (ci := 10) (k := 2) (n := 6) (r := 57) (pc' := 60) (by decide +kernel) fl_X10_11 (by decide +kernel) rfl SH_56 (by decide) (by decide +kernel) ?_
      refine sd_iconst (n := 2) (v := 2) (pc' := 61) (by decide +kernel) (by decide) ?_
      refine sF_aald2 (n := 4) (r := 60) (pc' := 62) (by decide +kernel) SH_57 (by decide) (by decide +kernel) ?_
      refine sd_iload_n (k := 2) (i := 2) (q := 3) (pc' := 63) (by decide +kernel) rfl rfl ?_
      refine sd_bipush (n := 6) (v := 6) (pc' := 65) (by decide +kernel) (by decide) ?_
      refine sd_imul (pc' := 66) (by decide +kernel) ?_
      refine sd_iload (i := 4) (q := 0) (pc' := 68) (by decide +kernel) rfl ?_
      refine sd_iadd (pc' := 69) (by decide +kernel) ?_
      refine sd_dup2 (pc' := 70) (by decide +kernel) rfl rfl ?_
      obtain ⟨g11, hf⟩ := gd_some hf
      refine sF_iald (n := 60) (pc' := 71) (by decide +kernel) SH_60 g11 ?_
      refine sd_iload_n (k := 3) (i := 3) (q := 4) (pc' := 72) (by decide +kernel) rfl rfl ?_
      refine sd_ior (pc' := 73) (by decide +kernel) ?_
      obtain ⟨g12, hf⟩ := gd_some hf
      obtain ⟨h13, e14, hf⟩ := hb_some hf
      refine sF_iast (n := 60) (pc' := 74) (by decide +kernel) SH_60 g12 ?_
      rw [← e14]; clear e14
      obtain rfl := Option.some.inj hf
      exact sd_vret (by decide +kernel) rfl (hE _)

theorem ml_X10_73 : Cond.methodLink RX10 73 yX5_at ∈ sd_tb := sd_mem (i := 841) (by decide +kernel)
theorem ml_X10_89 : Cond.methodLink RX10 89 yX6_faultAt ∈ sd_tb := sd_mem (i := 843) (by decide +kernel)
theorem mv_XR_faultAt : sd_mV M_XR_faultAt 2 := ⟨sd_mem (i := 844) (by decide +kernel), sd_mem (i := 845) (by decide +kernel), ⟨sd_mem (i := 846) (by decide +kernel), sd_mem (i := 109) (by decide +kernel), by decide +kernel, by decide +kernel, by decide +kernel⟩⟩
theorem ml_X10_98 : Cond.methodLink RX10 98 yX10_addWrite ∈ sd_tb := sd_mem (i := 851) (by decide +kernel)
theorem mv_XY_addWrite : sd_mV M_XY_addWrite 3 := ⟨sd_mem (i := 853) (by decide +kernel), sd_mem (i := 15) (by decide +kernel), ⟨sd_mem (i := 854) (by decide +kernel), sd_mem (i := 114) (by decide +kernel), by decide +kernel, by decide +kernel, by decide +kernel⟩⟩
theorem ml_X10_79 : Cond.methodLink RX10 79 yX9_looksAt ∈ sd_tb := sd_mem (i := 842) (by decide +kernel)
theorem ml_X10_94 : Cond.methodLink RX10 94 yX10_addRead ∈ sd_tb := sd_mem (i := 847) (by decide +kernel)
theorem mv_XY_addRead : sd_mV M_XY_addRead 3 := ⟨sd_mem (i := 849) (by decide +kernel), sd_mem (i := 14) (by decide +kernel), ⟨sd_mem (i := 850) (by decide +kernel), sd_mem (i := 114) (by decide +kernel), by decide +kernel, by decide +kernel, by decide +kernel⟩⟩
def M_XY_addItem : sd_MX := (yX10_addItem, cX10_addItem, 7, (some .boolean), { frames := 2, cells := 0, slots := 0, locals := 64 })
def XY_addItem_B78 (h : sd_H) (K3 : sd_H → Nat → Int32 → Int32 → Int32 → Option (sd_H × Int32)) (l1 : Nat) (l2 : Int32) (l3 : Int32) (l4 : Int32) : Option (sd_H × Int32) :=
  K3 h l1 l2 l3 (l4 + 1)
set_option maxHeartbeats 4000000 in
set_option maxRecDepth 100000 in
theorem J_XY_addItem_B78 {G : sd_GX} {X : sd_CX} (hE : ∀ g : sd_H, sd_end G X M_XY_addItem (sd_F g)) {h : sd_H} {K3 : sd_H → Nat → Int32 → Int32 → Int32 → Option (sd_H × Int32)} {r : (sd_H × Int32)} (hK3 : ∀ (g : sd_H) (l1 : Nat) (l2 : Int32) (l3 : Int32) (l4 : Int32), sd_SH l1 = (9, 6) → K3 g l1 l2 l3 l4 = some r → sd_J G X (sd_QR G X M_XY_addItem (some (.int r.2), sd_F r.1)) M_XY_addItem 3 [(0, .ref (G.1 + 56)), (1, .ref (G.1 + l1)), (2, .int l2), (3, .int l3), (4, .int l4)] [] (sd_F g)) {l1 : Nat} {l2 : Int32} {l3 : Int32} {l4 : Int32} (p1 : sd_SH l1 = (9, 6)) (hf : XY_addItem_B78 h K3 l1 l2 l3 l4 = some r) : sd_J G X (sd_QR G X M_XY_addItem (some (.int r.2), sd_F r.1)) M_XY_addItem 78 [(0, .ref (G.1 + 56)), (1, .ref (G.1 + l1)), (2, .int l2), (3, .int l3), (4, .int l4)] [] (sd_F h) := by
  unfold XY_addItem_B78 at hf
  refine sd_iinc (i := 4) (q := 4) (n := 1) (v := (l4 + 1)) (pc' := 81) (lo' := [(4, .int (l4 + 1)), (0, .ref (G.1 + 56)), (1, .ref (G.1 + l1)), (2, .int l2), (3, .int l3)]) (by decide +kernel) rfl rfl (by decide) rfl ?_
  refine sd_goto (off := -78) (tgt := 3) (pc' := 84) (by decide +kernel) ?_
  refine sd_J.sub (lo' := [(0, .ref (G.1 + 56)), (1, .ref (G.1 + l1)), (2, .int l2), (3, .int l3), (4, .int (l4 + 1))]) [1, 2, 3, 4, 0] rfl ?_
  exact hK3 _ _ _ _ _ p1 hf
def XY_addItem_L3 : Nat → sd_H → Nat → Int32 → Int32 → Int32 → Option (sd_H × Int32)
  | 0, _, _, _, _, _ => none
  | n + 1, h, l1, l2, l3, l4 =>
  (if 3 ≤ l4 then b1 (XF_at h ((l1 + 1) + 1 + 0) l2 l3) (fun t3 => b1 (XR_faultAt h 1 (h.1 ((l1 + 1) + 1 + 0) 0) t3) (fun t5 => (if t5 = (-1) then b1 (XY_addWrite h l1 l2 (1 <<< (t3 &&& 31))) (fun h8 => some (h8, 1)) else some (h, 0)))) else gd (sd_inB l4 3) (b1 (XF_at h ((l1 + 1) + 1 + (l4 : Int32).toNatClampNeg) l2 l3) (fun t11 => b1 (XA_looksAt h l1 l4) (fun t13 => (if t13 = 0 then XY_addItem_B78 h (XY_addItem_L3 n) l1 l2 l3 l4 else b1 (XF_isConstant h ((l1 + 1) + 1 + (l4 : Int32).toNatClampNeg)) (fun t16 => (if t16 = 0 then b1 (XR_faultAt h 1 (h.1 ((l1 + 1) + 1 + (l4 : Int32).toNatClampNeg) 0) t11) (fun t19 => (if t19 = (-1) then b1 (XY_addRead h (h.1 ((l1 + 1) + 1 + (l4 : Int32).toNatClampNeg) 0) l2 (1 <<< (t11 &&& 31))) (fun h22 => XY_addItem_B78 h22 (XY_addItem_L3 n) l1 l2 l3 l4) else some (h, 0))) else XY_addItem_B78 h (XY_addItem_L3 n) l1 l2 l3 l4)))))))
set_option maxHeartbeats 4000000 in
set_option maxRecDepth 100000 in
theorem J_XY_addItem_L3 {G : sd_GX} {X : sd_CX} (hE : ∀ g : sd_H, sd_end G X M_XY_addItem (sd_F g))  {r : (sd_H × Int32)} : ∀ (n : Nat) (h : sd_H) (l1 : Nat) (l2 : Int32) (l3 : Int32) (l4 : Int32), sd_SH l1 = (9, 6) → XY_addItem_L3 n h l1 l2 l3 l4 = some r → sd_J G X (sd_QR G X M_XY_addItem (some (.int r.2), sd_F r.1)) M_XY_addItem 3 [(0, .ref (G.1 + 56)), (1, .ref (G.1 + l1)), (2, .int l2), (3, .int l3), (4, .int l4)] [] (sd_F h) := by
  intro n
  induction n with
  | zero =>
    intro h l1 l2 l3 l4 p1 hf
    rw [XY_addItem_L3] at hf
    cases hf
  | succ n ih =>
    intro h l1 l2 l3 l4 p1 hf
    rw [XY_addItem_L3] at hf
    refine sd_iload (i := 4) (q := 4) (pc' := 5) (by decide +kernel) rfl ?_
    refine sd_iconst (n := 3) (v := 3) (pc' := 6) (by decide +kernel) (by decide) ?_
    refine sd_icmp_ge (off := 78) (tgt := 84) (pc' := 9) (by decide +kernel) (fun c1 => ?_) (fun c1 => ?_)
    · replace hf := ite_p c1 hf
      refine sd_aload_n (k := 1) (i := 1) (q := 1) (pc' := 85) (by decide +kernel) rfl rfl ?_
      refine sF_gr (idx := 69) (ci := 9) (k := 0) (n := 6) (r := (l1 + 1)) (pc' := 88) (by decide +kernel) fl_X10_69 (by decide +kernel) rfl p1 (by decide) (rt_9_0 p1) ?_
      refine sd_iconst (n := 0) (v := 0) (pc' := 89) (by decide +kernel) (by decide) ?_
      refine sF_aald (n := 3) (r := ((l1 + 1) + 1 + 0)) (pc' := 90) (by decide +kernel) (sh_9_0 p1) (by decide) (by decide) (by rw [show ((0 : Int32)).toNatClampNeg = 0 from by decide]; exact rta_R (sh_9_0 p1) (by decide)) ?_
      refine sd_astore (i := 4) (pc' := 92) (lo' := [(4, .ref (G.1 + ((l1 + 1) + 1 + 0))), (0, .ref (G.1 + 56)), (1, .ref (G.1 + l1)), (2, .int l2), (3, .int l3)]) (by decide +kernel) (by decide) rfl ?_
      refine sd_aload (i := 4) (q := 0) (pc' := 94) (by decide +kernel) rfl ?_
      refine sd_iload_n (k := 2) (i := 2) (q := 3) (pc' := 95) (by decide +kernel) rfl rfl ?_
      refine sd_iload_n (k := 3) (i := 3) (q := 4) (pc' := 96) (by decide +kernel) rfl rfl ?_
      obtain ⟨t3, q2, hf⟩ := b1_some hf
      refine sF_callV (idx := 73) (b := ((l1 + 1) + 1 + 0)) (As := [.int l2, .int l3]) (ci := 5) (nn := 4) (pc' := 99) 2 (T_XF_at (G := G) (h := h) (sha_R (sh_9_0 p1) (j := 0) (by decide)) q2) (by decide +kernel) mv_XF_at ml_X10_73 (by decide +kernel) rfl rfl (Nat.le_of_ble_eq_true rfl) (sha_R (sh_9_0 p1) (j := 0) (by decide)) rfl (by decide) rfl rfl ?_
      refine sd_istore (i := 5) (pc' := 101) (lo' := [(5, .int t3), (4, .ref (G.1 + ((l1 + 1) + 1 + 0))), (0, .ref (G.1 + 56)), (1, .ref (G.1 + l1)), (2, .int l2), (3, .int l3)]) (by decide +kernel) (by decide) rfl ?_
      refine sd_aload_n (k := 0) (i := 0) (q := 2) (pc' := 102) (by decide +kernel) rfl rfl ?_
      refine sF_gr (idx := 24) (ci := 10) (k := 0) (n := 6) (r := 1) (pc' := 105) (by decide +kernel) fl_X10_24 (by decide +kernel) rfl SH_56 (by decide) (by decide +kernel) ?_
      refine sd_aload (i := 4) (q := 1) (pc' := 107) (by decide +kernel) rfl ?_
      refine sF_gi (idx := 86) (ci := 5) (k := 0) (n := 4) (pc' := 110) (by decide +kernel) fl_X10_86 (by decide +kernel) rfl (sha_R (sh_9_0 p1) (j := 0) (by decide)) ?_
      refine sd_iload (i := 5) (q := 0) (pc' := 112) (by decide +kernel) rfl ?_
      obtain ⟨t5, q4, hf⟩ := b1_some hf
      refine sF_callV (idx := 89) (b := 1) (As := [.int (h.1 ((l1 + 1) + 1 + 0) 0), .int t3]) (ci := 6) (nn := 4) (pc' := 115) 2 (T_XR_faultAt (G := G) (h := h) SH_1 q4) (by decide +kernel) mv_XR_faultAt ml_X10_89 (by decide +kernel) rfl rfl (Nat.le_of_ble_eq_true rfl) SH_1 rfl (by decide) rfl rfl ?_
      refine sd_iconst (n := -1) (v := (-1)) (pc' := 116) (by decide +kernel) (by decide) ?_
      refine sd_icmp_eq (off := 5) (tgt := 121) (pc' := 119) (by decide +kernel) (fun c6 => ?_) (fun c6 => ?_)
      · replace hf := ite_p c6 hf
        refine sd_aload_n (k := 0) (i := 0) (q := 2) (pc' := 122) (by decide +kernel) rfl rfl ?_
        refine sd_aload_n (k := 1) (i := 1) (q := 3) (pc' := 123) (by decide +kernel) rfl rfl ?_
        refine sd_iload_n (k := 2) (i := 2) (q := 4) (pc' := 124) (by decide +kernel) rfl rfl ?_
        refine sd_iconst (n := 1) (v := 1) (pc' := 125) (by decide +kernel) (by decide) ?_
        refine sd_iload (i := 5) (q := 0) (pc' := 127) (by decide +kernel) rfl ?_
        refine sd_ishl (pc' := 128) (by decide +kernel) ?_
        obtain ⟨h8, q7, hf⟩ := b1_some hf
        refine sF_callV0 (idx := 98) (b := 56) (As := [.ref (G.1 + l1), .int l2, .int (1 <<< (t3 &&& 31))]) (ci := 10) (nn := 6) (pc' := 131) 3 (T_XY_addWrite (G := G) (h := h) p1 q7) (by decide +kernel) mv_XY_addWrite ml_X10_98 (by decide +kernel) rfl rfl (Nat.le_of_ble_eq_true rfl) SH_56 rfl (by decide) rfl rfl ?_
        refine sd_iconst (n := 1) (v := 1) (pc' := 132) (by decide +kernel) (by decide) ?_
        obtain rfl := Option.some.inj hf
        exact sd_zret (by decide +kernel) rfl rfl (hE _)
      · replace hf := ite_n c6 hf
        refine sd_iconst (n := 0) (v := 0) (pc' := 120) (by decide +kernel) (by decide) ?_
        obtain rfl := Option.some.inj hf
        exact sd_zret (by decide +kernel) rfl rfl (hE _)
    · replace hf := ite_n c1 hf
      refine sd_aload_n (k := 1) (i := 1) (q := 1) (pc' := 10) (by decide +kernel) rfl rfl ?_
      refine sF_gr (idx := 69) (ci := 9) (k := 0) (n := 6) (r := (l1 + 1)) (pc' := 13) (by decide +kernel) fl_X10_69 (by decide +kernel) rfl p1 (by decide) (rt_9_0 p1) ?_
      refine sd_iload (i := 4) (q := 4) (pc' := 15) (by decide +kernel) rfl ?_
      obtain ⟨g9, hf⟩ := gd_some hf
      refine sF_aald (n := 3) (r := ((l1 + 1) + 1 + (l4 : Int32).toNatClampNeg)) (pc' := 16) (by decide +kernel) (sh_9_0 p1) (by decide) g9 (rta_R (sh_9_0 p1) (inB_lt g9)) ?_
      refine sd_astore (i := 5) (pc' := 18) (lo' := [(5, .ref (G.1 + ((l1 + 1) + 1 + (l4 : Int32).toNatClampNeg))), (0, .ref (G.1 + 56)), (1, .ref (G.1 + l1)), (2, .int l2), (3, .int l3), (4, .int l4)]) (by decide +kernel) (by decide) rfl ?_
      refine sd_aload (i := 5) (q := 0) (pc' := 20) (by decide +kernel) rfl ?_
      refine sd_iload_n (k := 2) (i := 2) (q := 3) (pc' := 21) (by decide +kernel) rfl rfl ?_
      refine sd_iload_n (k := 3) (i := 3) (q := 4) (pc' := 22) (by decide +kernel) rfl rfl ?_
      obtain ⟨t11, q10, hf⟩ := b1_some hf
      refine sF_callV (idx := 73) (b := ((l1 + 1) + 1 + (l4 : Int32).toNatClampNeg)) (As := [.int l2, .int l3]) (ci := 5) (nn := 4) (pc' := 25) 2 (T_XF_at (G := G) (h := h) (sha_R (sh_9_0 p1) (inB_lt g9)) q10) (by decide +kernel) mv_XF_at ml_X10_73 (by decide +kernel) rfl rfl (Nat.le_of_ble_eq_true rfl) (sha_R (sh_9_0 p1) (inB_lt g9)) rfl (by decide) rfl rfl ?_
      refine sd_istore (i := 6) (pc' := 27) (lo' := [(6, .int t11), (5, .ref (G.1 + ((l1 + 1) + 1 + (l4 : Int32).toNatClampNeg))), (0, .ref (G.1 + 56)), (1, .ref (G.1 + l1)), (2, .int l2), (3, .int l3), (4, .int l4)]) (by decide +kernel) (by decide) rfl ?_
      refine sd_aload_n (k := 1) (i := 1) (q := 3) (pc' := 28) (by decide +kernel) rfl rfl ?_
      refine sd_iload (i := 4) (q := 6) (pc' := 30) (by decide +kernel) rfl ?_
      obtain ⟨t13, q12, hf⟩ := b1_some hf
      refine sF_callV (idx := 79) (b := l1) (As := [.int l4]) (ci := 9) (nn := 6) (pc' := 33) 1 (T_XA_looksAt (G := G) (h := h) p1 q12) (by decide +kernel) mv_XA_looksAt ml_X10_79 (by decide +kernel) rfl rfl (Nat.le_of_ble_eq_true rfl) p1 rfl (by decide) rfl rfl ?_
      refine sd_if_eq (off := 45) (tgt := 78) (pc' := 36) (by decide +kernel) (fun c14 => ?_) (fun c14 => ?_)
      · replace hf := ite_p c14 hf
        refine sd_J.sub (lo' := [(0, .ref (G.1 + 56)), (1, .ref (G.1 + l1)), (2, .int l2), (3, .int l3), (4, .int l4)]) [2, 3, 4, 5, 6] rfl ?_
        exact J_XY_addItem_B78 hE ih p1 hf
      · replace hf := ite_n c14 hf
        refine sd_aload (i := 5) (q := 1) (pc' := 38) (by decide +kernel) rfl ?_
        obtain ⟨t16, q15, hf⟩ := b1_some hf
        refine sF_callV (idx := 83) (b := ((l1 + 1) + 1 + (l4 : Int32).toNatClampNeg)) (As := []) (ci := 5) (nn := 4) (pc' := 41) 0 (T_XF_isConstant (G := G) (h := h) (sha_R (sh_9_0 p1) (inB_lt g9)) q15) (by decide +kernel) mv_XF_isConstant ml_X10_83 (by decide +kernel) rfl rfl (Nat.le_of_ble_eq_true rfl) (sha_R (sh_9_0 p1) (inB_lt g9)) rfl (by decide) rfl rfl ?_
        refine sd_if_ne (off := 37) (tgt := 78) (pc' := 44) (by decide +kernel) (fun c17 => ?_) (fun c17 => ?_)
        · replace hf := ite_n c17 hf
          refine sd_J.sub (lo' := [(0, .ref (G.1 + 56)), (1, .ref (G.1 + l1)), (2, .int l2), (3, .int l3), (4, .int l4)]) [2, 3, 4, 5, 6] rfl ?_
          exact J_XY_addItem_B78 hE ih p1 hf
        · replace hf := ite_p c17 hf
          refine sd_aload_n (k := 0) (i := 0) (q := 2) (pc' := 45) (by decide +kernel) rfl rfl ?_
          refine sF_gr (idx := 24) (ci := 10) (k := 0) (n := 6) (r := 1) (pc' := 48) (by decide +kernel) fl_X10_24 (by decide +kernel) rfl SH_56 (by decide) (by decide +kernel) ?_
          refine sd_aload (i := 5) (q := 1) (pc' := 50) (by decide +kernel) rfl ?_
          refine sF_gi (idx := 86) (ci := 5) (k := 0) (n := 4) (pc' := 53) (by decide +kernel) fl_X10_86 (by decide +kernel) rfl (sha_R (sh_9_0 p1) (inB_lt g9)) ?_
          refine sd_iload (i := 6) (q := 0) (pc' := 55) (by decide +kernel) rfl ?_
          obtain ⟨t19, q18, hf⟩ := b1_some hf
          refine sF_callV (idx := 89) (b := 1) (As := [.int (h.1 ((l1 + 1) + 1 + (l4 : Int32).toNatClampNeg) 0), .int t11]) (ci := 6) (nn := 4) (pc' := 58) 2 (T_XR_faultAt (G := G) (h := h) SH_1 q18) (by decide +kernel) mv_XR_faultAt ml_X10_89 (by decide +kernel) rfl rfl (Nat.le_of_ble_eq_true rfl) SH_1 rfl (by decide) rfl rfl ?_
          refine sd_iconst (n := -1) (v := (-1)) (pc' := 59) (by decide +kernel) (by decide) ?_
          refine sd_icmp_eq (off := 5) (tgt := 64) (pc' := 62) (by decide +kernel) (fun c20 => ?_) (fun c20 => ?_)
          · replace hf := ite_p c20 hf
            refine sd_aload_n (k := 0) (i := 0) (q := 2) (pc' := 65) (by decide +kernel) rfl rfl ?_
            refine sd_aload (i := 5) (q := 1) (pc' := 67) (by decide +kernel) rfl ?_
            refine sF_gi (idx := 86) (ci := 5) (k := 0) (n := 4) (pc' := 70) (by decide +kernel) fl_X10_86 (by decide +kernel) rfl (sha_R (sh_9_0 p1) (inB_lt g9)) ?_
            refine sd_iload_n (k := 2) (i := 2) (q := 4) (pc' := 71) (by decide +kernel) rfl rfl ?_
            refine sd_iconst (n := 1) (v := 1) (pc' := 72) (by decide +kernel) (by decide) ?_
            refine sd_iload (i := 6) (q := 0) (pc' := 74) (by decide +kernel) rfl ?_
            refine sd_ishl (pc' := 75) (by decide +kernel) ?_
            obtain ⟨h22, q21, hf⟩ := b1_some hf
            refine sF_callV0 (idx := 94) (b := 56) (As := [.int (h.1 ((l1 + 1) + 1 + (l4 : Int32).toNatClampNeg) 0), .int l2, .int (1 <<< (t11 &&& 31))]) (ci := 10) (nn := 6) (pc' := 78) 3 (T_XY_addRead (G := G) (h := h)  q21) (by decide +kernel) mv_XY_addRead ml_X10_94 (by decide +kernel) rfl rfl (Nat.le_of_ble_eq_true rfl) SH_56 rfl (by decide) rfl rfl ?_
            refine sd_J.sub (lo' := [(0, .ref (G.1 + 56)), (1, .ref (G.1 + l1)), (2, .int l2), (3, .int l3), (4, .int l4)]) [2, 3, 4, 5, 6] rfl ?_
            exact J_XY_addItem_B78 hE ih p1 hf
          · replace hf := ite_n c20 hf
            refine sd_iconst (n := 0) (v := 0) (pc' := 63) (by decide +kernel) (by decide) ?_
            obtain rfl := Option.some.inj hf
            exact sd_zret (by decide +kernel) rfl rfl (hE _)
def XY_addItem (h : sd_H) (a0 : Nat) (a1 : Int32) (a2 : Int32) : Option (sd_H × Int32) :=
  XY_addItem_L3 FU h a0 a1 a2 1
set_option maxHeartbeats 4000000 in
set_option maxRecDepth 100000 in
theorem T_XY_addItem {G : sd_GX} {h : sd_H} {a0 : Nat} {a1 : Int32} {a2 : Int32} {r : (sd_H × Int32)} (pa0 : sd_SH a0 = (9, 6)) (hf : XY_addItem h a0 a1 a2 = some r) : sd_RunF G M_XY_addItem [.ref (G.1 + 56), .ref (G.1 + a0), .int a1, .int a2] h (some (.int r.2)) r.1 := by
  refine sF_run ⟨rfl, rfl⟩ (by decide +kernel) (Nat.le_of_ble_eq_true rfl) (lo := [(0, .ref (G.1 + 56)), (1, .ref (G.1 + a0)), (2, .int a1), (3, .int a2)]) rfl (fun X hE => ?_)
  unfold XY_addItem at hf
  refine sd_iconst (n := 1) (v := 1) (pc' := 1) (by decide +kernel) (by decide) ?_
  refine sd_istore (i := 4) (pc' := 3) (lo' := [(4, .int 1), (0, .ref (G.1 + 56)), (1, .ref (G.1 + a0)), (2, .int a1), (3, .int a2)]) (by decide +kernel) (by decide) rfl ?_
  refine sd_J.sub (lo' := [(0, .ref (G.1 + 56)), (1, .ref (G.1 + a0)), (2, .int a1), (3, .int a2), (4, .int 1)]) [1, 2, 3, 4, 0] rfl ?_
  exact J_XY_addItem_L3 hE _ _ _ _ _ _ pa0 hf

theorem fl_X10_28 : sd_fl RX10 28 10 1 := ⟨sd_mem (i := 298) (by decide +kernel), by decide, by decide⟩
theorem fl_X10_45 : sd_fl RX10 45 2 2 := ⟨sd_mem (i := 260) (by decide +kernel), by decide, by decide⟩
theorem fl_X10_48 : sd_fl RX10 48 2 0 := ⟨sd_mem (i := 249) (by decide +kernel), by decide, by decide⟩
theorem ml_X10_52 : Cond.methodLink RX10 52 yX9_isDone ∈ sd_tb := sd_mem (i := 832) (by decide +kernel)
theorem ml_X10_65 : Cond.methodLink RX10 65 yX10_addItem ∈ sd_tb := sd_mem (i := 837) (by decide +kernel)
theorem mv_XY_addItem : sd_mV M_XY_addItem 3 := ⟨sd_mem (i := 839) (by decide +kernel), sd_mem (i := 13) (by decide +kernel), ⟨sd_mem (i := 840) (by decide +kernel), sd_mem (i := 114) (by decide +kernel), by decide +kernel, by decide +kernel, by decide +kernel⟩⟩
theorem ml_X10_61 : Cond.methodLink RX10 61 yX9_mayBeOver ∈ sd_tb := sd_mem (i := 833) (by decide +kernel)
theorem mv_XA_mayBeOver : sd_mV M_XA_mayBeOver 0 := ⟨sd_mem (i := 834) (by decide +kernel), sd_mem (i := 835) (by decide +kernel), ⟨sd_mem (i := 836) (by decide +kernel), sd_mem (i := 111) (by decide +kernel), by decide +kernel, by decide +kernel, by decide +kernel⟩⟩
theorem fl_X10_58 : sd_fl RX10 58 9 2 := ⟨sd_mem (i := 223) (by decide +kernel), by decide, by decide⟩
def M_XY_addTurn : sd_MX := (yX10_addTurn, cX10_addTurn, 6, none, { frames := 3, cells := 0, slots := 0, locals := 90 })
def XY_addTurn_L100 (K28 : sd_H → Int32 → Int32 → Option sd_H) : Nat → sd_H → Int32 → Int32 → Nat → Int32 → Int32 → Option sd_H
  | 0, _, _, _, _, _, _ => none
  | n + 1, h, l1, l2, l3, l4, l5 =>
  (if l4 ≤ l5 then K28 h l1 (l2 + 1) else b2 (XY_addItem h l3 l1 l5) (fun h15 t16 => (if t16 = 0 then some h15 else XY_addTurn_L100 K28 n h15 l1 l2 l3 l4 (l5 + 1))))
set_option maxHeartbeats 4000000 in
set_option maxRecDepth 100000 in
theorem J_XY_addTurn_L100 {G : sd_GX} {X : sd_CX} (hE : ∀ g : sd_H, sd_end G X M_XY_addTurn (sd_F g))  {K28 : sd_H → Int32 → Int32 → Option sd_H} {r : sd_H} (hK28 : ∀ (g : sd_H) (l1 : Int32) (l2 : Int32), K28 g l1 l2 = some r → sd_J G X (sd_QR G X M_XY_addTurn (none, sd_F r)) M_XY_addTurn 28 [(0, .ref (G.1 + 56)), (1, .int l1), (2, .int l2)] [] (sd_F g)) : ∀ (n : Nat) (h : sd_H) (l1 : Int32) (l2 : Int32) (l3 : Nat) (l4 : Int32) (l5 : Int32), sd_SH l3 = (9, 6) → XY_addTurn_L100 K28 n h l1 l2 l3 l4 l5 = some r → sd_J G X (sd_QR G X M_XY_addTurn (none, sd_F r)) M_XY_addTurn 100 [(0, .ref (G.1 + 56)), (1, .int l1), (2, .int l2), (3, .ref (G.1 + l3)), (4, .int l4), (5, .int l5)] [] (sd_F h) := by
  intro n
  induction n with
  | zero =>
    intro h l1 l2 l3 l4 l5 p3 hf
    rw [XY_addTurn_L100] at hf
    cases hf
  | succ n ih =>
    intro h l1 l2 l3 l4 l5 p3 hf
    rw [XY_addTurn_L100] at hf
    refine sd_iload (i := 5) (q := 5) (pc' := 102) (by decide +kernel) rfl ?_
    refine sd_iload (i := 4) (q := 4) (pc' := 104) (by decide +kernel) rfl ?_
    refine sd_icmp_ge (off := 21) (tgt := 125) (pc' := 107) (by decide +kernel) (fun c13 => ?_) (fun c13 => ?_)
    · replace hf := ite_p c13 hf
      refine sd_iinc (i := 2) (q := 2) (n := 1) (v := (l2 + 1)) (pc' := 128) (lo' := [(2, .int (l2 + 1)), (0, .ref (G.1 + 56)), (1, .int l1), (3, .ref (G.1 + l3)), (4, .int l4), (5, .int l5)]) (by decide +kernel) rfl rfl (by decide) rfl ?_
      refine sd_goto (off := -100) (tgt := 28) (pc' := 131) (by decide +kernel) ?_
      refine sd_J.sub (lo' := [(0, .ref (G.1 + 56)), (1, .int l1), (2, .int (l2 + 1))]) [1, 2, 0] rfl ?_
      exact hK28 _ _ _ hf
    · replace hf := ite_n c13 hf
      refine sd_aload_n (k := 0) (i := 0) (q := 0) (pc' := 108) (by decide +kernel) rfl rfl ?_
      refine sd_aload_n (k := 3) (i := 3) (q := 3) (pc' := 109) (by decide +kernel) rfl rfl ?_
      refine sd_iload_n (k := 1) (i := 1) (q := 1) (pc' := 110) (by decide +kernel) rfl rfl ?_
      refine sd_iload (i := 5) (q := 5) (pc' := 112) (by decide +kernel) rfl ?_
      obtain ⟨h15, t16, q14, hf⟩ := b2_some hf
      refine sF_callV (idx := 65) (b := 56) (As := [.ref (G.1 + l3), .int l1, .int l5]) (ci := 10) (nn := 6) (pc' := 115) 3 (T_XY_addItem (G := G) (h := h) p3 q14) (by decide +kernel) mv_XY_addItem ml_X10_65 (by decide +kernel) rfl rfl (Nat.le_of_ble_eq_true rfl) SH_56 rfl (by decide) rfl rfl ?_
      refine sd_if_ne (off := 4) (tgt := 119) (pc' := 118) (by decide +kernel) (fun c17 => ?_) (fun c17 => ?_)
      · replace hf := ite_n c17 hf
        refine sd_iinc (i := 5) (q := 5) (n := 1) (v := (l5 + 1)) (pc' := 122) (lo' := [(5, .int (l5 + 1)), (0, .ref (G.1 + 56)), (1, .int l1), (2, .int l2), (3, .ref (G.1 + l3)), (4, .int l4)]) (by decide +kernel) rfl rfl (by decide) rfl ?_
        refine sd_goto (off := -22) (tgt := 100) (pc' := 125) (by decide +kernel) ?_
        refine sd_J.sub (lo' := [(0, .ref (G.1 + 56)), (1, .int l1), (2, .int l2), (3, .ref (G.1 + l3)), (4, .int l4), (5, .int (l5 + 1))]) [1, 2, 3, 4, 5, 0] rfl ?_
        exact ih _ _ _ _ _ _ p3 hf
      · replace hf := ite_p c17 hf
        obtain rfl := Option.some.inj hf
        exact sd_vret (by decide +kernel) rfl (hE _)
def XY_addTurn_B93 (h : sd_H) (K28 : sd_H → Int32 → Int32 → Option sd_H) (l1 : Int32) (l2 : Int32) (l3 : Nat) (l4 : Int32) (s0 : Int32) (s1 : Int32) : Option sd_H :=
  gd (sd_isB (s1 ||| s0)) (hb (wI h 56 4 (s1 ||| s0)) (fun h10 => XY_addTurn_L100 K28 FU h10 l1 l2 l3 l4 0))
set_option maxHeartbeats 4000000 in
set_option maxRecDepth 100000 in
theorem J_XY_addTurn_B93 {G : sd_GX} {X : sd_CX} (hE : ∀ g : sd_H, sd_end G X M_XY_addTurn (sd_F g)) {h : sd_H} {K28 : sd_H → Int32 → Int32 → Option sd_H} {r : sd_H} (hK28 : ∀ (g : sd_H) (l1 : Int32) (l2 : Int32), K28 g l1 l2 = some r → sd_J G X (sd_QR G X M_XY_addTurn (none, sd_F r)) M_XY_addTurn 28 [(0, .ref (G.1 + 56)), (1, .int l1), (2, .int l2)] [] (sd_F g)) {l1 : Int32} {l2 : Int32} {l3 : Nat} {l4 : Int32} {s0 : Int32} {s1 : Int32} (p3 : sd_SH l3 = (9, 6)) (hf : XY_addTurn_B93 h K28 l1 l2 l3 l4 s0 s1 = some r) : sd_J G X (sd_QR G X M_XY_addTurn (none, sd_F r)) M_XY_addTurn 93 [(0, .ref (G.1 + 56)), (1, .int l1), (2, .int l2), (3, .ref (G.1 + l3)), (4, .int l4)] [.int s0, .int s1, .ref (G.1 + 56)] (sd_F h) := by
  unfold XY_addTurn_B93 at hf
  refine sd_ior (pc' := 94) (by decide +kernel) ?_
  obtain ⟨g12, hf⟩ := gd_some hf
  obtain ⟨h10, e11, hf⟩ := hb_some hf
  refine sF_pz (idx := 42) (ci := 10) (k := 4) (n := 6) (pc' := 97) (by decide +kernel) fl_X10_42 (by decide +kernel) rfl rfl rfl SH_56 g12 ?_
  rw [← e11]; clear e11
  refine sd_iconst (n := 0) (v := 0) (pc' := 98) (by decide +kernel) (by decide) ?_
  refine sd_istore (i := 5) (pc' := 100) (lo' := [(5, .int 0), (0, .ref (G.1 + 56)), (1, .int l1), (2, .int l2), (3, .ref (G.1 + l3)), (4, .int l4)]) (by decide +kernel) (by decide) rfl ?_
  refine sd_J.sub (lo' := [(0, .ref (G.1 + 56)), (1, .int l1), (2, .int l2), (3, .ref (G.1 + l3)), (4, .int l4), (5, .int 0)]) [1, 2, 3, 4, 5, 0] rfl ?_
  exact J_XY_addTurn_L100 hE hK28 _ _ _ _ _ _ _ p3 hf
def XY_addTurn_B92 (h : sd_H) (K28 : sd_H → Int32 → Int32 → Option sd_H) (l1 : Int32) (l2 : Int32) (l3 : Nat) (l4 : Int32) (s0 : Int32) : Option sd_H :=
  XY_addTurn_B93 h K28 l1 l2 l3 l4 0 s0
set_option maxHeartbeats 4000000 in
set_option maxRecDepth 100000 in
theorem J_XY_addTurn_B92 {G : sd_GX} {X : sd_CX} (hE : ∀ g : sd_H, sd_end G X M_XY_addTurn (sd_F g)) {h : sd_H} {K28 : sd_H → Int32 → Int32 → Option sd_H} {r : sd_H} (hK28 : ∀ (g : sd_H) (l1 : Int32) (l2 : Int32), K28 g l1 l2 = some r → sd_J G X (sd_QR G X M_XY_addTurn (none, sd_F r)) M_XY_addTurn 28 [(0, .ref (G.1 + 56)), (1, .int l1), (2, .int l2)] [] (sd_F g)) {l1 : Int32} {l2 : Int32} {l3 : Nat} {l4 : Int32} {s0 : Int32} (p3 : sd_SH l3 = (9, 6)) (hf : XY_addTurn_B92 h K28 l1 l2 l3 l4 s0 = some r) : sd_J G X (sd_QR G X M_XY_addTurn (none, sd_F r)) M_XY_addTurn 92 [(0, .ref (G.1 + 56)), (1, .int l1), (2, .int l2), (3, .ref (G.1 + l3)), (4, .int l4)] [.int s0, .ref (G.1 + 56)] (sd_F h) := by
  unfold XY_addTurn_B92 at hf
  refine sd_iconst (n := 0) (v := 0) (pc' := 93) (by decide +kernel) (by decide) ?_
  refine sd_J.sub (lo' := [(0, .ref (G.1 + 56)), (1, .int l1), (2, .int l2), (3, .ref (G.1 + l3)), (4, .int l4)]) [0, 1, 2, 3, 4] rfl ?_
  exact J_XY_addTurn_B93 hE hK28 p3 hf
def XY_addTurn_B69 (h : sd_H) (K28 : sd_H → Int32 → Int32 → Option sd_H) (l1 : Int32) (l2 : Int32) (l3 : Nat) (s0 : Int32) : Option sd_H :=
  (if s0 ≤ 0 then XY_addTurn_B92 h K28 l1 l2 l3 s0 (h.1 56 4) else b1 (XA_mayBeOver h l3) (fun t19 => (if t19 = 0 then XY_addTurn_B92 h K28 l1 l2 l3 s0 (h.1 56 4) else XY_addTurn_B93 h K28 l1 l2 l3 s0 1 (h.1 56 4))))
set_option maxHeartbeats 4000000 in
set_option maxRecDepth 100000 in
theorem J_XY_addTurn_B69 {G : sd_GX} {X : sd_CX} (hE : ∀ g : sd_H, sd_end G X M_XY_addTurn (sd_F g)) {h : sd_H} {K28 : sd_H → Int32 → Int32 → Option sd_H} {r : sd_H} (hK28 : ∀ (g : sd_H) (l1 : Int32) (l2 : Int32), K28 g l1 l2 = some r → sd_J G X (sd_QR G X M_XY_addTurn (none, sd_F r)) M_XY_addTurn 28 [(0, .ref (G.1 + 56)), (1, .int l1), (2, .int l2)] [] (sd_F g)) {l1 : Int32} {l2 : Int32} {l3 : Nat} {s0 : Int32} (p3 : sd_SH l3 = (9, 6)) (hf : XY_addTurn_B69 h K28 l1 l2 l3 s0 = some r) : sd_J G X (sd_QR G X M_XY_addTurn (none, sd_F r)) M_XY_addTurn 69 [(0, .ref (G.1 + 56)), (1, .int l1), (2, .int l2), (3, .ref (G.1 + l3))] [.int s0] (sd_F h) := by
  unfold XY_addTurn_B69 at hf
  refine sd_istore (i := 4) (pc' := 71) (lo' := [(4, .int s0), (0, .ref (G.1 + 56)), (1, .int l1), (2, .int l2), (3, .ref (G.1 + l3))]) (by decide +kernel) (by decide) rfl ?_
  refine sd_aload_n (k := 0) (i := 0) (q := 1) (pc' := 72) (by decide +kernel) rfl rfl ?_
  refine sd_dup (pc' := 73) (by decide +kernel) rfl ?_
  refine sF_gi (idx := 42) (ci := 10) (k := 4) (n := 6) (pc' := 76) (by decide +kernel) fl_X10_42 (by decide +kernel) rfl SH_56 ?_
  refine sd_iload (i := 4) (q := 0) (pc' := 78) (by decide +kernel) rfl ?_
  refine sd_if_le (off := 14) (tgt := 92) (pc' := 81) (by decide +kernel) (fun c9 => ?_) (fun c9 => ?_)
  · replace hf := ite_p c9 hf
    refine sd_J.sub (lo' := [(0, .ref (G.1 + 56)), (1, .int l1), (2, .int l2), (3, .ref (G.1 + l3)), (4, .int s0)]) [1, 2, 3, 4, 0] rfl ?_
    exact J_XY_addTurn_B92 hE hK28 p3 hf
  · replace hf := ite_n c9 hf
    refine sd_aload_n (k := 3) (i := 3) (q := 4) (pc' := 82) (by decide +kernel) rfl rfl ?_
    obtain ⟨t19, q18, hf⟩ := b1_some hf
    refine sF_callV (idx := 61) (b := l3) (As := []) (ci := 9) (nn := 6) (pc' := 85) 0 (T_XA_mayBeOver (G := G) (h := h) p3 q18) (by decide +kernel) mv_XA_mayBeOver ml_X10_61 (by decide +kernel) rfl rfl (Nat.le_of_ble_eq_true rfl) p3 rfl (by decide) rfl rfl ?_
    refine sd_if_eq (off := 7) (tgt := 92) (pc' := 88) (by decide +kernel) (fun c20 => ?_) (fun c20 => ?_)
    · replace hf := ite_p c20 hf
      refine sd_J.sub (lo' := [(0, .ref (G.1 + 56)), (1, .int l1), (2, .int l2), (3, .ref (G.1 + l3)), (4, .int s0)]) [1, 2, 3, 4, 0] rfl ?_
      exact J_XY_addTurn_B92 hE hK28 p3 hf
    · replace hf := ite_n c20 hf
      refine sd_iconst (n := 1) (v := 1) (pc' := 89) (by decide +kernel) (by decide) ?_
      refine sd_goto (off := 4) (tgt := 93) (pc' := 92) (by decide +kernel) ?_
      refine sd_J.sub (lo' := [(0, .ref (G.1 + 56)), (1, .int l1), (2, .int l2), (3, .ref (G.1 + l3)), (4, .int s0)]) [1, 2, 3, 4, 0] rfl ?_
      exact J_XY_addTurn_B93 hE hK28 p3 hf
def XY_addTurn_L28 : Nat → sd_H → Int32 → Int32 → Option sd_H
  | 0, _, _, _ => none
  | n + 1, h, l1, l2 =>
  (if (h.1 6 2) ≤ l2 then some h else gd (sd_inB l2 5) (b1 (XA_isDone h (8 + 5 * (l2 : Int32).toNatClampNeg) l1 1) (fun t7 => (if t7 = 0 then XY_addTurn_B69 h (XY_addTurn_L28 n) l1 l2 (8 + 5 * (l2 : Int32).toNatClampNeg) 0 else XY_addTurn_B69 h (XY_addTurn_L28 n) l1 l2 (8 + 5 * (l2 : Int32).toNatClampNeg) (h.1 (8 + 5 * (l2 : Int32).toNatClampNeg) 2)))))
set_option maxHeartbeats 4000000 in
set_option maxRecDepth 100000 in
theorem J_XY_addTurn_L28 {G : sd_GX} {X : sd_CX} (hE : ∀ g : sd_H, sd_end G X M_XY_addTurn (sd_F g))  {r : sd_H} : ∀ (n : Nat) (h : sd_H) (l1 : Int32) (l2 : Int32), XY_addTurn_L28 n h l1 l2 = some r → sd_J G X (sd_QR G X M_XY_addTurn (none, sd_F r)) M_XY_addTurn 28 [(0, .ref (G.1 + 56)), (1, .int l1), (2, .int l2)] [] (sd_F h) := by
  intro n
  induction n with
  | zero =>
    intro h l1 l2 hf
    rw [XY_addTurn_L28] at hf
    cases hf
  | succ n ih =>
    intro h l1 l2 hf
    rw [XY_addTurn_L28] at hf
    refine sd_iload_n (k := 2) (i := 2) (q := 2) (pc' := 29) (by decide +kernel) rfl rfl ?_
    refine sd_aload_n (k := 0) (i := 0) (q := 0) (pc' := 30) (by decide +kernel) rfl rfl ?_
    refine sF_gr (idx := 28) (ci := 10) (k := 1) (n := 6) (r := 6) (pc' := 33) (by decide +kernel) fl_X10_28 (by decide +kernel) rfl SH_56 (by decide) (by decide +kernel) ?_
    refine sF_gi (idx := 45) (ci := 2) (k := 2) (n := 3) (pc' := 36) (by decide +kernel) fl_X10_45 (by decide +kernel) rfl SH_6 ?_
    refine sd_icmp_ge (off := 95) (tgt := 131) (pc' := 39) (by decide +kernel) (fun c4 => ?_) (fun c4 => ?_)
    · replace hf := ite_p c4 hf
      obtain rfl := Option.some.inj hf
      exact sd_vret (by decide +kernel) rfl (hE _)
    · replace hf := ite_n c4 hf
      refine sd_aload_n (k := 0) (i := 0) (q := 0) (pc' := 40) (by decide +kernel) rfl rfl ?_
      refine sF_gr (idx := 28) (ci := 10) (k := 1) (n := 6) (r := 6) (pc' := 43) (by decide +kernel) fl_X10_28 (by decide +kernel) rfl SH_56 (by decide) (by decide +kernel) ?_
      refine sF_gr (idx := 48) (ci := 2) (k := 0) (n := 3) (r := 7) (pc' := 46) (by decide +kernel) fl_X10_48 (by decide +kernel) rfl SH_6 (by decide) (by decide +kernel) ?_
      refine sd_iload_n (k := 2) (i := 2) (q := 2) (pc' := 47) (by decide +kernel) rfl rfl ?_
      obtain ⟨g5, hf⟩ := gd_some hf
      refine sF_aald (n := 5) (r := (8 + 5 * (l2 : Int32).toNatClampNeg)) (pc' := 48) (by decide +kernel) SH_7 (by decide) g5 (rta_7 (inB_lt g5)) ?_
      refine sd_astore_n (k := 3) (i := 3) (pc' := 49) (lo' := [(3, .ref (G.1 + (8 + 5 * (l2 : Int32).toNatClampNeg))), (0, .ref (G.1 + 56)), (1, .int l1), (2, .int l2)]) (by decide +kernel) rfl (by decide) rfl ?_
      refine sd_aload_n (k := 3) (i := 3) (q := 0) (pc' := 50) (by decide +kernel) rfl rfl ?_
      refine sd_iload_n (k := 1) (i := 1) (q := 2) (pc' := 51) (by decide +kernel) rfl rfl ?_
      refine sd_aload_n (k := 0) (i := 0) (q := 1) (pc' := 52) (by decide +kernel) rfl rfl ?_
      refine sF_gr (idx := 24) (ci := 10) (k := 0) (n := 6) (r := 1) (pc' := 55) (by decide +kernel) fl_X10_24 (by decide +kernel) rfl SH_56 (by decide) (by decide +kernel) ?_
      obtain ⟨t7, q6, hf⟩ := b1_some hf
      refine sF_callV (idx := 52) (b := (8 + 5 * (l2 : Int32).toNatClampNeg)) (As := [.int l1, .ref (G.1 + 1)]) (ci := 9) (nn := 6) (pc' := 58) 2 (T_XA_isDone (G := G) (h := h) (sha_7 (inB_lt g5)) SH_1 q6) (by decide +kernel) mv_XA_isDone ml_X10_52 (by decide +kernel) rfl rfl (Nat.le_of_ble_eq_true rfl) (sha_7 (inB_lt g5)) rfl (by decide) rfl rfl ?_
      refine sd_if_eq (off := 10) (tgt := 68) (pc' := 61) (by decide +kernel) (fun c8 => ?_) (fun c8 => ?_)
      · replace hf := ite_p c8 hf
        refine sd_iconst (n := 0) (v := 0) (pc' := 69) (by decide +kernel) (by decide) ?_
        refine sd_J.sub (lo' := [(0, .ref (G.1 + 56)), (1, .int l1), (2, .int l2), (3, .ref (G.1 + (8 + 5 * (l2 : Int32).toNatClampNeg)))]) [1, 2, 3, 0] rfl ?_
        exact J_XY_addTurn_B69 hE ih (sha_7 (inB_lt g5)) hf
      · replace hf := ite_n c8 hf
        refine sd_aload_n (k := 3) (i := 3) (q := 0) (pc' := 62) (by decide +kernel) rfl rfl ?_
        refine sF_gi (idx := 58) (ci := 9) (k := 2) (n := 6) (pc' := 65) (by decide +kernel) fl_X10_58 (by decide +kernel) rfl (sha_7 (inB_lt g5)) ?_
        refine sd_goto (off := 4) (tgt := 69) (pc' := 68) (by decide +kernel) ?_
        refine sd_J.sub (lo' := [(0, .ref (G.1 + 56)), (1, .int l1), (2, .int l2), (3, .ref (G.1 + (8 + 5 * (l2 : Int32).toNatClampNeg)))]) [1, 2, 3, 0] rfl ?_
        exact J_XY_addTurn_B69 hE ih (sha_7 (inB_lt g5)) hf
def XY_addTurn_L2 : Nat → sd_H → Int32 → Int32 → Option sd_H
  | 0, _, _, _ => none
  | n + 1, h, l1, l2 =>
  (if 6 ≤ l2 then hb (wI h 56 4 0) (fun h2 => XY_addTurn_L28 FU h2 l1 0) else gd (sd_inB l2 6) (hb (wI h 62 (l2 : Int32).toNatClampNeg 0) (fun h22 => XY_addTurn_L2 n h22 l1 (l2 + 1))))
set_option maxHeartbeats 4000000 in
set_option maxRecDepth 100000 in
theorem J_XY_addTurn_L2 {G : sd_GX} {X : sd_CX} (hE : ∀ g : sd_H, sd_end G X M_XY_addTurn (sd_F g))  {r : sd_H} : ∀ (n : Nat) (h : sd_H) (l1 : Int32) (l2 : Int32), XY_addTurn_L2 n h l1 l2 = some r → sd_J G X (sd_QR G X M_XY_addTurn (none, sd_F r)) M_XY_addTurn 2 [(0, .ref (G.1 + 56)), (1, .int l1), (2, .int l2)] [] (sd_F h) := by
  intro n
  induction n with
  | zero =>
    intro h l1 l2 hf
    rw [XY_addTurn_L2] at hf
    cases hf
  | succ n ih =>
    intro h l1 l2 hf
    rw [XY_addTurn_L2] at hf
    refine sd_iload_n (k := 2) (i := 2) (q := 2) (pc' := 3) (by decide +kernel) rfl rfl ?_
    refine sd_bipush (n := 6) (v := 6) (pc' := 5) (by decide +kernel) (by decide) ?_
    refine sd_icmp_ge (off := 16) (tgt := 21) (pc' := 8) (by decide +kernel) (fun c1 => ?_) (fun c1 => ?_)
    · replace hf := ite_p c1 hf
      refine sd_aload_n (k := 0) (i := 0) (q := 0) (pc' := 22) (by decide +kernel) rfl rfl ?_
      refine sd_iconst (n := 0) (v := 0) (pc' := 23) (by decide +kernel) (by decide) ?_
      obtain ⟨h2, e3, hf⟩ := hb_some hf
      refine sF_pz (idx := 42) (ci := 10) (k := 4) (n := 6) (pc' := 26) (by decide +kernel) fl_X10_42 (by decide +kernel) rfl rfl rfl SH_56 (by decide) ?_
      rw [← e3]; clear e3
      refine sd_iconst (n := 0) (v := 0) (pc' := 27) (by decide +kernel) (by decide) ?_
      refine sd_istore_n (k := 2) (i := 2) (pc' := 28) (lo' := [(2, .int 0), (0, .ref (G.1 + 56)), (1, .int l1)]) (by decide +kernel) rfl (by decide) rfl ?_
      refine sd_J.sub (lo' := [(0, .ref (G.1 + 56)), (1, .int l1), (2, .int 0)]) [1, 2, 0] rfl ?_
      exact J_XY_addTurn_L28 hE _ _ _ _ hf
    · replace hf := ite_n c1 hf
      refine sd_aload_n (k := 0) (i := 0) (q := 0) (pc' := 9) (by decide +kernel) rfl rfl ?_
      refine sF_gr (idx := 16) (ci := 10) (k := 3) (n := 6) (r := 62) (pc' := 12) (by decide +kernel) fl_X10_16 (by decide +kernel) rfl SH_56 (by decide) (by decide +kernel) ?_
      refine sd_iload_n (k := 2) (i := 2) (q := 2) (pc' := 13) (by decide +kernel) rfl rfl ?_
      refine sd_iconst (n := 0) (v := 0) (pc' := 14) (by decide +kernel) (by decide) ?_
      obtain ⟨g21, hf⟩ := gd_some hf
      obtain ⟨h22, e23, hf⟩ := hb_some hf
      refine sF_iast (n := 6) (pc' := 15) (by decide +kernel) SH_62 g21 ?_
      rw [← e23]; clear e23
      refine sd_iinc (i := 2) (q := 2) (n := 1) (v := (l2 + 1)) (pc' := 18) (lo' := [(2, .int (l2 + 1)), (0, .ref (G.1 + 56)), (1, .int l1)]) (by decide +kernel) rfl rfl (by decide) rfl ?_
      refine sd_goto (off := -16) (tgt := 2) (pc' := 21) (by decide +kernel) ?_
      refine sd_J.sub (lo' := [(0, .ref (G.1 + 56)), (1, .int l1), (2, .int (l2 + 1))]) [1, 2, 0] rfl ?_
      exact ih _ _ _ hf
def XY_addTurn (h : sd_H) (a0 : Int32) : Option sd_H :=
  XY_addTurn_L2 FU h a0 0
set_option maxHeartbeats 4000000 in
set_option maxRecDepth 100000 in
theorem T_XY_addTurn {G : sd_GX} {h : sd_H} {a0 : Int32} {r : sd_H} (hf : XY_addTurn h a0 = some r) : sd_RunF G M_XY_addTurn [.ref (G.1 + 56), .int a0] h none r := by
  refine sF_run ⟨rfl, rfl⟩ (by decide +kernel) (Nat.le_of_ble_eq_true rfl) (lo := [(0, .ref (G.1 + 56)), (1, .int a0)]) rfl (fun X hE => ?_)
  unfold XY_addTurn at hf
  refine sd_iconst (n := 0) (v := 0) (pc' := 1) (by decide +kernel) (by decide) ?_
  refine sd_istore_n (k := 2) (i := 2) (pc' := 2) (lo' := [(2, .int 0), (0, .ref (G.1 + 56)), (1, .int a0)]) (by decide +kernel) rfl (by decide) rfl ?_
  refine sd_J.sub (lo' := [(0, .ref (G.1 + 56)), (1, .int a0), (2, .int 0)]) [1, 2, 0] rfl ?_
  exact J_XY_addTurn_L2 hE _ _ _ _ hf

theorem fl_X10_20 : sd_fl RX10 20 10 5 := ⟨sd_mem (i := 302) (by decide +kernel), by decide, by decide⟩
theorem fl_X10_32 : sd_fl RX10 32 2 1 := ⟨sd_mem (i := 255) (by decide +kernel), by decide, by decide⟩
theorem ml_X10_38 : Cond.methodLink RX10 38 yX10_addTurn ∈ sd_tb := sd_mem (i := 828) (by decide +kernel)
theorem mv_XY_addTurn : sd_mV M_XY_addTurn 1 := ⟨sd_mem (i := 830) (by decide +kernel), sd_mem (i := 12) (by decide +kernel), ⟨sd_mem (i := 831) (by decide +kernel), sd_mem (i := 114) (by decide +kernel), by decide +kernel, by decide +kernel, by decide +kernel⟩⟩
def M_XY_refresh : sd_MX := (yX10_refresh, cX10_refresh, 3, none, { frames := 4, cells := 0, slots := 0, locals := 115 })
def XY_refresh_L46 : Nat → sd_H → Int32 → Option sd_H
  | 0, _, _ => none
  | n + 1, h, l1 =>
  (if (h.1 6 1) ≤ l1 then hb (wI h 56 5 0) (fun h4 => some h4) else b1 (XY_addTurn h l1) (fun h7 => XY_refresh_L46 n h7 (l1 + 1)))
set_option maxHeartbeats 4000000 in
set_option maxRecDepth 100000 in
theorem J_XY_refresh_L46 {G : sd_GX} {X : sd_CX} (hE : ∀ g : sd_H, sd_end G X M_XY_refresh (sd_F g))  {r : sd_H} : ∀ (n : Nat) (h : sd_H) (l1 : Int32), XY_refresh_L46 n h l1 = some r → sd_J G X (sd_QR G X M_XY_refresh (none, sd_F r)) M_XY_refresh 46 [(0, .ref (G.1 + 56)), (1, .int l1)] [] (sd_F h) := by
  intro n
  induction n with
  | zero =>
    intro h l1 hf
    rw [XY_refresh_L46] at hf
    cases hf
  | succ n ih =>
    intro h l1 hf
    rw [XY_refresh_L46] at hf
    refine sd_iload_n (k := 1) (i := 1) (q := 1) (pc' := 47) (by decide +kernel) rfl rfl ?_
    refine sd_aload_n (k := 0) (i := 0) (q := 0) (pc' := 48) (by decide +kernel) rfl rfl ?_
    refine sF_gr (idx := 28) (ci := 10) (k := 1) (n := 6) (r := 6) (pc' := 51) (by decide +kernel) fl_X10_28 (by decide +kernel) rfl SH_56 (by decide) (by decide +kernel) ?_
    refine sF_gi (idx := 32) (ci := 2) (k := 1) (n := 3) (pc' := 54) (by decide +kernel) fl_X10_32 (by decide +kernel) rfl SH_6 ?_
    refine sd_icmp_ge (off := 14) (tgt := 68) (pc' := 57) (by decide +kernel) (fun c3 => ?_) (fun c3 => ?_)
    · replace hf := ite_p c3 hf
      refine sd_aload_n (k := 0) (i := 0) (q := 0) (pc' := 69) (by decide +kernel) rfl rfl ?_
      refine sd_iconst (n := 0) (v := 0) (pc' := 70) (by decide +kernel) (by decide) ?_
      obtain ⟨h4, e5, hf⟩ := hb_some hf
      refine sF_pz (idx := 20) (ci := 10) (k := 5) (n := 6) (pc' := 73) (by decide +kernel) fl_X10_20 (by decide +kernel) rfl rfl rfl SH_56 (by decide) ?_
      rw [← e5]; clear e5
      obtain rfl := Option.some.inj hf
      exact sd_vret (by decide +kernel) rfl (hE _)
    · replace hf := ite_n c3 hf
      refine sd_aload_n (k := 0) (i := 0) (q := 0) (pc' := 58) (by decide +kernel) rfl rfl ?_
      refine sd_iload_n (k := 1) (i := 1) (q := 1) (pc' := 59) (by decide +kernel) rfl rfl ?_
      obtain ⟨h7, q6, hf⟩ := b1_some hf
      refine sF_callV0 (idx := 38) (b := 56) (As := [.int l1]) (ci := 10) (nn := 6) (pc' := 62) 1 (T_XY_addTurn (G := G) (h := h)  q6) (by decide +kernel) mv_XY_addTurn ml_X10_38 (by decide +kernel) rfl rfl (Nat.le_of_ble_eq_true rfl) SH_56 rfl (by decide) rfl rfl ?_
      refine sd_iinc (i := 1) (q := 1) (n := 1) (v := (l1 + 1)) (pc' := 65) (lo' := [(1, .int (l1 + 1)), (0, .ref (G.1 + 56))]) (by decide +kernel) rfl rfl (by decide) rfl ?_
      refine sd_goto (off := -19) (tgt := 46) (pc' := 68) (by decide +kernel) ?_
      refine sd_J.sub (lo' := [(0, .ref (G.1 + 56)), (1, .int (l1 + 1))]) [1, 0] rfl ?_
      exact ih _ _ hf
def XY_refresh_L17 (K10 : sd_H → Int32 → Option sd_H) : Nat → sd_H → Int32 → Int32 → Option sd_H
  | 0, _, _, _ => none
  | n + 1, h, l1, l2 =>
  (if 60 ≤ l2 then K10 h (l1 + 1) else gd (sd_inB l1 4) (gd (sd_inB l2 60) (hb (wI h (58 + 1 * (l1 : Int32).toNatClampNeg) (l2 : Int32).toNatClampNeg 0) (fun h11 => XY_refresh_L17 K10 n h11 l1 (l2 + 1)))))
set_option maxHeartbeats 4000000 in
set_option maxRecDepth 100000 in
theorem J_XY_refresh_L17 {G : sd_GX} {X : sd_CX} (hE : ∀ g : sd_H, sd_end G X M_XY_refresh (sd_F g))  {K10 : sd_H → Int32 → Option sd_H} {r : sd_H} (hK10 : ∀ (g : sd_H) (l1 : Int32), K10 g l1 = some r → sd_J G X (sd_QR G X M_XY_refresh (none, sd_F r)) M_XY_refresh 10 [(0, .ref (G.1 + 56)), (1, .int l1)] [] (sd_F g)) : ∀ (n : Nat) (h : sd_H) (l1 : Int32) (l2 : Int32), XY_refresh_L17 K10 n h l1 l2 = some r → sd_J G X (sd_QR G X M_XY_refresh (none, sd_F r)) M_XY_refresh 17 [(0, .ref (G.1 + 56)), (1, .int l1), (2, .int l2)] [] (sd_F h) := by
  intro n
  induction n with
  | zero =>
    intro h l1 l2 hf
    rw [XY_refresh_L17] at hf
    cases hf
  | succ n ih =>
    intro h l1 l2 hf
    rw [XY_refresh_L17] at hf
    refine sd_iload_n (k := 2) (i := 2) (q := 2) (pc' := 18) (by decide +kernel) rfl rfl ?_
    refine sd_bipush (n := 60) (v := 60) (pc' := 20) (by decide +kernel) (by decide) ?_
    refine sd_icmp_ge (off := 18) (tgt := 38) (pc' := 23) (by decide +kernel) (fun c8 => ?_) (fun c8 => ?_)
    · replace hf := ite_p c8 hf
      refine sd_iinc (i := 1) (q := 1) (n := 1) (v := (l1 + 1)) (pc' := 41) (lo' := [(1, .int (l1 + 1)), (0, .ref (G.1 + 56)), (2, .int l2)]) (by decide +kernel) rfl rfl (by decide) rfl ?_
      refine sd_goto (off := -31) (tgt := 10) (pc' := 44) (by decide +kernel) ?_
      refine sd_J.sub (lo' := [(0, .ref (G.1 + 56)), (1, .int (l1 + 1))]) [1, 0] rfl ?_
      exact hK10 _ _ hf
    · replace hf := ite_n c8 hf
      refine sd_aload_n (k := 0) (i := 0) (q := 0) (pc' := 24) (by decide +kernel) rfl rfl ?_
      refine sF_gr (idx := 11) (ci := 10) (k := 2) (n := 6) (r := 57) (pc' := 27) (by decide +kernel) fl_X10_11 (by decide +kernel) rfl SH_56 (by decide) (by decide +kernel) ?_
      refine sd_iload_n (k := 1) (i := 1) (q := 1) (pc' := 28) (by decide +kernel) rfl rfl ?_
      obtain ⟨g9, hf⟩ := gd_some hf
      refine sF_aald2 (n := 4) (r := (58 + 1 * (l1 : Int32).toNatClampNeg)) (pc' := 29) (by decide +kernel) SH_57 g9 (rta_57 (inB_lt g9)) ?_
      refine sd_iload_n (k := 2) (i := 2) (q := 2) (pc' := 30) (by decide +kernel) rfl rfl ?_
      refine sd_iconst (n := 0) (v := 0) (pc' := 31) (by decide +kernel) (by decide) ?_
      obtain ⟨g10, hf⟩ := gd_some hf
      obtain ⟨h11, e12, hf⟩ := hb_some hf
      refine sF_iast (n := 60) (pc' := 32) (by decide +kernel) (sha_57 (inB_lt g9)) g10 ?_
      rw [← e12]; clear e12
      refine sd_iinc (i := 2) (q := 2) (n := 1) (v := (l2 + 1)) (pc' := 35) (lo' := [(2, .int (l2 + 1)), (0, .ref (G.1 + 56)), (1, .int l1)]) (by decide +kernel) rfl rfl (by decide) rfl ?_
      refine sd_goto (off := -18) (tgt := 17) (pc' := 38) (by decide +kernel) ?_
      refine sd_J.sub (lo' := [(0, .ref (G.1 + 56)), (1, .int l1), (2, .int (l2 + 1))]) [1, 2, 0] rfl ?_
      exact ih _ _ _ hf
def XY_refresh_L10 : Nat → sd_H → Int32 → Option sd_H
  | 0, _, _ => none
  | n + 1, h, l1 =>
  (if 4 ≤ l1 then XY_refresh_L46 FU h 0 else XY_refresh_L17 (XY_refresh_L10 n) FU h l1 0)
set_option maxHeartbeats 4000000 in
set_option maxRecDepth 100000 in
theorem J_XY_refresh_L10 {G : sd_GX} {X : sd_CX} (hE : ∀ g : sd_H, sd_end G X M_XY_refresh (sd_F g))  {r : sd_H} : ∀ (n : Nat) (h : sd_H) (l1 : Int32), XY_refresh_L10 n h l1 = some r → sd_J G X (sd_QR G X M_XY_refresh (none, sd_F r)) M_XY_refresh 10 [(0, .ref (G.1 + 56)), (1, .int l1)] [] (sd_F h) := by
  intro n
  induction n with
  | zero =>
    intro h l1 hf
    rw [XY_refresh_L10] at hf
    cases hf
  | succ n ih =>
    intro h l1 hf
    rw [XY_refresh_L10] at hf
    refine sd_iload_n (k := 1) (i := 1) (q := 1) (pc' := 11) (by decide +kernel) rfl rfl ?_
    refine sd_iconst (n := 4) (v := 4) (pc' := 12) (by decide +kernel) (by decide) ?_
    refine sd_icmp_ge (off := 32) (tgt := 44) (pc' := 15) (by decide +kernel) (fun c2 => ?_) (fun c2 => ?_)
    · replace hf := ite_p c2 hf
      refine sd_iconst (n := 0) (v := 0) (pc' := 45) (by decide +kernel) (by decide) ?_
      refine sd_istore_n (k := 1) (i := 1) (pc' := 46) (lo' := [(1, .int 0), (0, .ref (G.1 + 56))]) (by decide +kernel) rfl (by decide) rfl ?_
      refine sd_J.sub (lo' := [(0, .ref (G.1 + 56)), (1, .int 0)]) [1, 0] rfl ?_
      exact J_XY_refresh_L46 hE _ _ _ hf
    · replace hf := ite_n c2 hf
      refine sd_iconst (n := 0) (v := 0) (pc' := 16) (by decide +kernel) (by decide) ?_
      refine sd_istore_n (k := 2) (i := 2) (pc' := 17) (lo' := [(2, .int 0), (0, .ref (G.1 + 56)), (1, .int l1)]) (by decide +kernel) rfl (by decide) rfl ?_
      refine sd_J.sub (lo' := [(0, .ref (G.1 + 56)), (1, .int l1), (2, .int 0)]) [1, 2, 0] rfl ?_
      exact J_XY_refresh_L17 hE ih _ _ _ _ hf
def XY_refresh (h : sd_H) : Option sd_H :=
  (if (h.1 56 5) = 0 then some h else XY_refresh_L10 FU h 0)
set_option maxHeartbeats 4000000 in
set_option maxRecDepth 100000 in
theorem T_XY_refresh {G : sd_GX} {h : sd_H} {r : sd_H} (hf : XY_refresh h = some r) : sd_RunF G M_XY_refresh [.ref (G.1 + 56)] h none r := by
  refine sF_run ⟨rfl, rfl⟩ (by decide +kernel) (Nat.le_of_ble_eq_true rfl) (lo := [(0, .ref (G.1 + 56))]) rfl (fun X hE => ?_)
  unfold XY_refresh at hf
  refine sd_aload_n (k := 0) (i := 0) (q := 0) (pc' := 1) (by decide +kernel) rfl rfl ?_
  refine sF_gi (idx := 20) (ci := 10) (k := 5) (n := 6) (pc' := 4) (by decide +kernel) fl_X10_20 (by decide +kernel) rfl SH_56 ?_
  refine sd_if_ne (off := 4) (tgt := 8) (pc' := 7) (by decide +kernel) (fun c1 => ?_) (fun c1 => ?_)
  · replace hf := ite_n c1 hf
    refine sd_iconst (n := 0) (v := 0) (pc' := 9) (by decide +kernel) (by decide) ?_
    refine sd_istore_n (k := 1) (i := 1) (pc' := 10) (lo' := [(1, .int 0), (0, .ref (G.1 + 56))]) (by decide +kernel) rfl (by decide) rfl ?_
    refine sd_J.sub (lo' := [(0, .ref (G.1 + 56)), (1, .int 0)]) [1, 0] rfl ?_
    exact J_XY_refresh_L10 hE _ _ _ hf
  · replace hf := ite_p c1 hf
    obtain rfl := Option.some.inj hf
    exact sd_vret (by decide +kernel) rfl (hE _)

def M_XY_cellsOf : sd_MX := (yX10_cellsOf, cX10_cellsOf, 6, (some .int), { frames := 1, cells := 0, slots := 0, locals := 40 })
def XY_cellsOf_L25 (h : sd_H) : Nat → Int32 → Int32 → Int32 → Int32 → Option Int32
  | 0, _, _, _, _ => none
  | n + 1, l1, l2, l4, l5 =>
  (if (h.1 6 1) ≤ l5 then some l4 else gd (sd_inB l1 4) (gd (sd_inB ((l5 * 6) + l2) 60) (XY_cellsOf_L25 h n l1 l2 (l4 ||| (h.1 (58 + 1 * (l1 : Int32).toNatClampNeg) (((l5 * 6) + l2) : Int32).toNatClampNeg)) (l5 + 1))))
set_option maxHeartbeats 4000000 in
set_option maxRecDepth 100000 in
theorem J_XY_cellsOf_L25 {G : sd_GX} {X : sd_CX} (hE : ∀ g : sd_H, sd_end G X M_XY_cellsOf (sd_F g)) {h : sd_H} {r : Int32} : ∀ (n : Nat) (l1 : Int32) (l2 : Int32) (l4 : Int32) (l5 : Int32), XY_cellsOf_L25 h n l1 l2 l4 l5 = some r → sd_J G X (sd_QR G X M_XY_cellsOf (some (.int r), sd_F h)) M_XY_cellsOf 25 [(0, .ref (G.1 + 56)), (1, .int l1), (2, .int l2), (4, .int l4), (5, .int l5)] [] (sd_F h) := by
  intro n
  induction n with
  | zero =>
    intro l1 l2 l4 l5 hf
    rw [XY_cellsOf_L25] at hf
    cases hf
  | succ n ih =>
    intro l1 l2 l4 l5 hf
    rw [XY_cellsOf_L25] at hf
    refine sd_iload (i := 5) (q := 4) (pc' := 27) (by decide +kernel) rfl ?_
    refine sd_aload_n (k := 0) (i := 0) (q := 0) (pc' := 28) (by decide +kernel) rfl rfl ?_
    refine sF_gr (idx := 28) (ci := 10) (k := 1) (n := 6) (r := 6) (pc' := 31) (by decide +kernel) fl_X10_28 (by decide +kernel) rfl SH_56 (by decide) (by decide +kernel) ?_
    refine sF_gi (idx := 32) (ci := 2) (k := 1) (n := 3) (pc' := 34) (by decide +kernel) fl_X10_32 (by decide +kernel) rfl SH_6 ?_
    refine sd_icmp_ge (off := 28) (tgt := 62) (pc' := 37) (by decide +kernel) (fun c2 => ?_) (fun c2 => ?_)
    · replace hf := ite_p c2 hf
      refine sd_iload (i := 4) (q := 3) (pc' := 64) (by decide +kernel) rfl ?_
      obtain rfl := Option.some.inj hf
      exact sd_iret (by decide +kernel) rfl (hE _)
    · replace hf := ite_n c2 hf
      refine sd_iload (i := 4) (q := 3) (pc' := 39) (by decide +kernel) rfl ?_
      refine sd_aload_n (k := 0) (i := 0) (q := 0) (pc' := 40) (by decide +kernel) rfl rfl ?_
      refine sF_gr (idx := 11) (ci := 10) (k := 2) (n := 6) (r := 57) (pc' := 43) (by decide +kernel) fl_X10_11 (by decide +kernel) rfl SH_56 (by decide) (by decide +kernel) ?_
      refine sd_iload_n (k := 1) (i := 1) (q := 1) (pc' := 44) (by decide +kernel) rfl rfl ?_
      obtain ⟨g3, hf⟩ := gd_some hf
      refine sF_aald2 (n := 4) (r := (58 + 1 * (l1 : Int32).toNatClampNeg)) (pc' := 45) (by decide +kernel) SH_57 g3 (rta_57 (inB_lt g3)) ?_
      refine sd_iload (i := 5) (q := 4) (pc' := 47) (by decide +kernel) rfl ?_
      refine sd_bipush (n := 6) (v := 6) (pc' := 49) (by decide +kernel) (by decide) ?_
      refine sd_imul (pc' := 50) (by decide +kernel) ?_
      refine sd_iload_n (k := 2) (i := 2) (q := 2) (pc' := 51) (by decide +kernel) rfl rfl ?_
      refine sd_iadd (pc' := 52) (by decide +kernel) ?_
      obtain ⟨g4, hf⟩ := gd_some hf
      refine sF_iald (n := 60) (pc' := 53) (by decide +kernel) (sha_57 (inB_lt g3)) g4 ?_
      refine sd_ior (pc' := 54) (by decide +kernel) ?_
      refine sd_istore (i := 4) (pc' := 56) (lo' := [(4, .int (l4 ||| (h.1 (58 + 1 * (l1 : Int32).toNatClampNeg) (((l5 * 6) + l2) : Int32).toNatClampNeg))), (0, .ref (G.1 + 56)), (1, .int l1), (2, .int l2), (5, .int l5)]) (by decide +kernel) (by decide) rfl ?_
      refine sd_iinc (i := 5) (q := 4) (n := 1) (v := (l5 + 1)) (pc' := 59) (lo' := [(5, .int (l5 + 1)), (4, .int (l4 ||| (h.1 (58 + 1 * (l1 : Int32).toNatClampNeg) (((l5 * 6) + l2) : Int32).toNatClampNeg))), (0, .ref (G.1 + 56)), (1, .int l1), (2, .int l2)]) (by decide +kernel) rfl rfl (by decide) rfl ?_
      refine sd_goto (off := -34) (tgt := 25) (pc' := 62) (by decide +kernel) ?_
      refine sd_J.sub (lo' := [(0, .ref (G.1 + 56)), (1, .int l1), (2, .int l2), (4, .int (l4 ||| (h.1 (58 + 1 * (l1 : Int32).toNatClampNeg) (((l5 * 6) + l2) : Int32).toNatClampNeg))), (5, .int (l5 + 1))]) [2, 3, 4, 1, 0] rfl ?_
      exact ih _ _ _ _ hf
def XY_cellsOf (h : sd_H) (a0 : Int32) (a1 : Int32) (a2 : Int32) : Option Int32 :=
  (if a2 = (-1) then XY_cellsOf_L25 h FU a0 a1 0 0 else gd (sd_inB a0 4) (gd (sd_inB ((a2 * 6) + a1) 60) (some (h.1 (58 + 1 * (a0 : Int32).toNatClampNeg) (((a2 * 6) + a1) : Int32).toNatClampNeg))))
set_option maxHeartbeats 4000000 in
set_option maxRecDepth 100000 in
theorem T_XY_cellsOf {G : sd_GX} {h : sd_H} {a0 : Int32} {a1 : Int32} {a2 : Int32} {r : Int32} (hf : XY_cellsOf h a0 a1 a2 = some r) : sd_RunF G M_XY_cellsOf [.ref (G.1 + 56), .int a0, .int a1, .int a2] h (some (.int r)) h := by
  refine sF_run ⟨rfl, rfl⟩ (by decide +kernel) (Nat.le_of_ble_eq_true rfl) (lo := [(0, .ref (G.1 + 56)), (1, .int a0), (2, .int a1), (3, .int a2)]) rfl (fun X hE => ?_)
  unfold XY_cellsOf at hf
  refine sd_iload_n (k := 3) (i := 3) (q := 3) (pc' := 1) (by decide +kernel) rfl rfl ?_
  refine sd_iconst (n := -1) (v := (-1)) (pc' := 2) (by decide +kernel) (by decide) ?_
  refine sd_icmp_eq (off := 17) (tgt := 19) (pc' := 5) (by decide +kernel) (fun c1 => ?_) (fun c1 => ?_)
  · replace hf := ite_p c1 hf
    refine sd_iconst (n := 0) (v := 0) (pc' := 20) (by decide +kernel) (by decide) ?_
    refine sd_istore (i := 4) (pc' := 22) (lo' := [(4, .int 0), (0, .ref (G.1 + 56)), (1, .int a0), (2, .int a1), (3, .int a2)]) (by decide +kernel) (by decide) rfl ?_
    refine sd_iconst (n := 0) (v := 0) (pc' := 23) (by decide +kernel) (by decide) ?_
    refine sd_istore (i := 5) (pc' := 25) (lo' := [(5, .int 0), (4, .int 0), (0, .ref (G.1 + 56)), (1, .int a0), (2, .int a1), (3, .int a2)]) (by decide +kernel) (by decide) rfl ?_
    refine sd_J.sub (lo' := [(0, .ref (G.1 + 56)), (1, .int a0), (2, .int a1), (4, .int 0), (5, .int 0)]) [2, 3, 4, 1, 0] rfl ?_
    exact J_XY_cellsOf_L25 hE _ _ _ _ _ hf
  · replace hf := ite_n c1 hf
    refine sd_aload_n (k := 0) (i := 0) (q := 0) (pc' := 6) (by decide +kernel) rfl rfl ?_
    refine sF_gr (idx := 11) (ci := 10) (k := 2) (n := 6) (r := 57) (pc' := 9) (by decide +kernel) fl_X10_11 (by decide +kernel) rfl SH_56 (by decide) (by decide +kernel) ?_
    refine sd_iload_n (k := 1) (i := 1) (q := 1) (pc' := 10) (by decide +kernel) rfl rfl ?_
    obtain ⟨g5, hf⟩ := gd_some hf
    refine sF_aald2 (n := 4) (r := (58 + 1 * (a0 : Int32).toNatClampNeg)) (pc' := 11) (by decide +kernel) SH_57 g5 (rta_57 (inB_lt g5)) ?_
    refine sd_iload_n (k := 3) (i := 3) (q := 3) (pc' := 12) (by decide +kernel) rfl rfl ?_
    refine sd_bipush (n := 6) (v := 6) (pc' := 14) (by decide +kernel) (by decide) ?_
    refine sd_imul (pc' := 15) (by decide +kernel) ?_
    refine sd_iload_n (k := 2) (i := 2) (q := 2) (pc' := 16) (by decide +kernel) rfl rfl ?_
    refine sd_iadd (pc' := 17) (by decide +kernel) ?_
    obtain ⟨g6, hf⟩ := gd_some hf
    refine sF_iald (n := 60) (pc' := 18) (by decide +kernel) (sha_57 (inB_lt g5)) g6 ?_
    obtain rfl := Option.some.inj hf
    exact sd_iret (by decide +kernel) rfl (hE _)

def M_JI_bitCount : sd_MX := (yJ6_bitCount_0f7a4, cJ6_bitCount_0f7a4, 1, (some .int), { frames := 1, cells := 0, slots := 0, locals := 40 })
def JI_bitCount (a0 : Int32) : Option Int32 :=
  some ((((((((a0 - ((iushr a0 1) &&& 1431655765)) &&& 858993459) + ((iushr (a0 - ((iushr a0 1) &&& 1431655765)) 2) &&& 858993459)) + (iushr (((a0 - ((iushr a0 1) &&& 1431655765)) &&& 858993459) + ((iushr (a0 - ((iushr a0 1) &&& 1431655765)) 2) &&& 858993459)) 4)) &&& 252645135) + (iushr (((((a0 - ((iushr a0 1) &&& 1431655765)) &&& 858993459) + ((iushr (a0 - ((iushr a0 1) &&& 1431655765)) 2) &&& 858993459)) + (iushr (((a0 - ((iushr a0 1) &&& 1431655765)) &&& 858993459) + ((iushr (a0 - ((iushr a0 1) &&& 1431655765)) 2) &&& 858993459)) 4)) &&& 252645135) 8)) + (iushr ((((((a0 - ((iushr a0 1) &&& 1431655765)) &&& 858993459) + ((iushr (a0 - ((iushr a0 1) &&& 1431655765)) 2) &&& 858993459)) + (iushr (((a0 - ((iushr a0 1) &&& 1431655765)) &&& 858993459) + ((iushr (a0 - ((iushr a0 1) &&& 1431655765)) 2) &&& 858993459)) 4)) &&& 252645135) + (iushr (((((a0 - ((iushr a0 1) &&& 1431655765)) &&& 858993459) + ((iushr (a0 - ((iushr a0 1) &&& 1431655765)) 2) &&& 858993459)) + (iushr (((a0 - ((iushr a0 1) &&& 1431655765)) &&& 858993459) + ((iushr (a0 - ((iushr a0 1) &&& 1431655765)) 2) &&& 858993459)) 4)) &&& 252645135) 8)) 16)) &&& 63)
set_option maxHeartbeats 4000000 in
set_option maxRecDepth 100000 in
theorem T_JI_bitCount {G : sd_GX} {h : sd_H} {a0 : Int32} {r : Int32} (hf : JI_bitCount a0 = some r) : sd_RunF G M_JI_bitCount [.int a0] h (some (.int r)) h := by
  refine sF_run ⟨rfl, rfl⟩ (by decide +kernel) (Nat.le_of_ble_eq_true rfl) (lo := [(0, .int a0)]) rfl (fun X hE => ?_)
  unfold JI_bitCount at hf
  refine sd_iload_n (k := 0) (i := 0) (q := 0) (pc' := 1) (by decide +kernel) rfl rfl ?_
  refine sd_iload_n (k := 0) (i := 0) (q := 0) (pc' := 2) (by decide +kernel) rfl rfl ?_
  refine sd_iconst (n := 1) (v := 1) (pc' := 3) (by decide +kernel) (by decide) ?_
  refine sd_iushr (pc' := 4) (by decide +kernel) rfl ?_
  refine sd_ldcw (idx := 265) (v := 1431655765) (pc' := 7) (by decide +kernel) (sd_mem (i := 862) (by decide +kernel)) ?_
  refine sd_iand (pc' := 8) (by decide +kernel) ?_
  refine sd_isub (pc' := 9) (by decide +kernel) ?_
  refine sd_istore_n (k := 0) (i := 0) (pc' := 10) (lo' := [(0, .int (a0 - ((iushr a0 1) &&& 1431655765)))]) (by decide +kernel) rfl (by decide) rfl ?_
  refine sd_iload_n (k := 0) (i := 0) (q := 0) (pc' := 11) (by decide +kernel) rfl rfl ?_
  refine sd_ldcw (idx := 266) (v := 858993459) (pc' := 14) (by decide +kernel) (sd_mem (i := 863) (by decide +kernel)) ?_
  refine sd_iand (pc' := 15) (by decide +kernel) ?_
  refine sd_iload_n (k := 0) (i := 0) (q := 0) (pc' := 16) (by decide +kernel) rfl rfl ?_
  refine sd_iconst (n := 2) (v := 2) (pc' := 17) (by decide +kernel) (by decide) ?_
  refine sd_iushr (pc' := 18) (by decide +kernel) rfl ?_
  refine sd_ldcw (idx := 266) (v := 858993459) (pc' := 21) (by decide +kernel) (sd_mem (i := 863) (by decide +kernel)) ?_
  refine sd_iand (pc' := 22) (by decide +kernel) ?_
  refine sd_iadd (pc' := 23) (by decide +kernel) ?_
  refine sd_istore_n (k := 0) (i := 0) (pc' := 24) (lo' := [(0, .int (((a0 - ((iushr a0 1) &&& 1431655765)) &&& 858993459) + ((iushr (a0 - ((iushr a0 1) &&& 1431655765)) 2) &&& 858993459)))]) (by decide +kernel) rfl (by decide) rfl ?_
  refine sd_iload_n (k := 0) (i := 0) (q := 0) (pc' := 25) (by decide +kernel) rfl rfl ?_
  refine sd_iload_n (k := 0) (i := 0) (q := 0) (pc' := 26) (by decide +kernel) rfl rfl ?_
  refine sd_iconst (n := 4) (v := 4) (pc' := 27) (by decide +kernel) (by decide) ?_
  refine sd_iushr (pc' := 28) (by decide +kernel) rfl ?_
  refine sd_iadd (pc' := 29) (by decide +kernel) ?_
  refine sd_ldcw (idx := 267) (v := 252645135) (pc' := 32) (by decide +kernel) (sd_mem (i := 864) (by decide +kernel)) ?_
  refine sd_iand (pc' := 33) (by decide +kernel) ?_
  refine sd_istore_n (k := 0) (i := 0) (pc' := 34) (lo' := [(0, .int (((((a0 - ((iushr a0 1) &&& 1431655765)) &&& 858993459) + ((iushr (a0 - ((iushr a0 1) &&& 1431655765)) 2) &&& 858993459)) + (iushr (((a0 - ((iushr a0 1) &&& 1431655765)) &&& 858993459) + ((iushr (a0 - ((iushr a0 1) &&& 1431655765)) 2) &&& 858993459)) 4)) &&& 252645135))]) (by decide +kernel) rfl (by decide) rfl ?_
  refine sd_iload_n (k := 0) (i := 0) (q := 0) (pc' := 35) (by decide +kernel) rfl rfl ?_
  refine sd_iload_n (k := 0) (i := 0) (q := 0) (pc' := 36) (by decide +kernel) rfl rfl ?_
  refine sd_bipush (n := 8) (v := 8) (pc' := 38) (by decide +kernel) (by decide) ?_
  refine sd_iushr (pc' := 39) (by decide +kernel) rfl ?_
  refine sd_iadd (pc' := 40) (by decide +kernel) ?_
  refine sd_istore_n (k := 0) (i := 0) (pc' := 41) (lo' := [(0, .int ((((((a0 - ((iushr a0 1) &&& 1431655765)) &&& 858993459) + ((iushr (a0 - ((iushr a0 1) &&& 1431655765)) 2) &&& 858993459)) + (iushr (((a0 - ((iushr a0 1) &&& 1431655765)) &&& 858993459) + ((iushr (a0 - ((iushr a0 1) &&& 1431655765)) 2) &&& 858993459)) 4)) &&& 252645135) + (iushr (((((a0 - ((iushr a0 1) &&& 1431655765)) &&& 858993459) + ((iushr (a0 - ((iushr a0 1) &&& 1431655765)) 2) &&& 858993459)) + (iushr (((a0 - ((iushr a0 1) &&& 1431655765)) &&& 858993459) + ((iushr (a0 - ((iushr a0 1) &&& 1431655765)) 2) &&& 858993459)) 4)) &&& 252645135) 8)))]) (by decide +kernel) rfl (by decide) rfl ?_
  refine sd_iload_n (k := 0) (i := 0) (q := 0) (pc' := 42) (by decide +kernel) rfl rfl ?_
  refine sd_iload_n (k := 0) (i := 0) (q := 0) (pc' := 43) (by decide +kernel) rfl rfl ?_
  refine sd_bipush (n := 16) (v := 16) (pc' := 45) (by decide +kernel) (by decide) ?_
  refine sd_iushr (pc' := 46) (by decide +kernel) rfl ?_
  refine sd_iadd (pc' := 47) (by decide +kernel) ?_
  refine sd_istore_n (k := 0) (i := 0) (pc' := 48) (lo' := [(0, .int (((((((a0 - ((iushr a0 1) &&& 1431655765)) &&& 858993459) + ((iushr (a0 - ((iushr a0 1) &&& 1431655765)) 2) &&& 858993459)) + (iushr (((a0 - ((iushr a0 1) &&& 1431655765)) &&& 858993459) + ((iushr (a0 - ((iushr a0 1) &&& 1431655765)) 2) &&& 858993459)) 4)) &&& 252645135) + (iushr (((((a0 - ((iushr a0 1) &&& 1431655765)) &&& 858993459) + ((iushr (a0 - ((iushr a0 1) &&& 1431655765)) 2) &&& 858993459)) + (iushr (((a0 - ((iushr a0 1) &&& 1431655765)) &&& 858993459) + ((iushr (a0 - ((iushr a0 1) &&& 1431655765)) 2) &&& 858993459)) 4)) &&& 252645135) 8)) + (iushr ((((((a0 - ((iushr a0 1) &&& 1431655765)) &&& 858993459) + ((iushr (a0 - ((iushr a0 1) &&& 1431655765)) 2) &&& 858993459)) + (iushr (((a0 - ((iushr a0 1) &&& 1431655765)) &&& 858993459) + ((iushr (a0 - ((iushr a0 1) &&& 1431655765)) 2) &&& 858993459)) 4)) &&& 252645135) + (iushr (((((a0 - ((iushr a0 1) &&& 1431655765)) &&& 858993459) + ((iushr (a0 - ((iushr a0 1) &&& 1431655765)) 2) &&& 858993459)) + (iushr (((a0 - ((iushr a0 1) &&& 1431655765)) &&& 858993459) + ((iushr (a0 - ((iushr a0 1) &&& 1431655765)) 2) &&& 858993459)) 4)) &&& 252645135) 8)) 16)))]) (by decide +kernel) rfl (by decide) rfl ?_
  refine sd_iload_n (k := 0) (i := 0) (q := 0) (pc' := 49) (by decide +kernel) rfl rfl ?_
  refine sd_bipush (n := 63) (v := 63) (pc' := 51) (by decide +kernel) (by decide) ?_
  refine sd_iand (pc' := 52) (by decide +kernel) ?_
  obtain rfl := Option.some.inj hf
  exact sd_iret (by decide +kernel) rfl (hE _)

theorem ml_X11_275 : Cond.methodLink RX11 275 yX11_isSet ∈ sd_tb := sd_mem (i := 820) (by decide +kernel)
theorem mv_XT_isSet : sd_mV M_XT_isSet 3 := ⟨sd_mem (i := 822) (by decide +kernel), sd_mem (i := 11) (by decide +kernel), ⟨sd_mem (i := 823) (by decide +kernel), sd_mem (i := 108) (by decide +kernel), by decide +kernel, by decide +kernel, by decide +kernel⟩⟩
theorem ml_X11_278 : Cond.methodLink RX11 278 yX10_refresh ∈ sd_tb := sd_mem (i := 824) (by decide +kernel)
theorem mv_XY_refresh : sd_mV M_XY_refresh 0 := ⟨sd_mem (i := 825) (by decide +kernel), sd_mem (i := 826) (by decide +kernel), ⟨sd_mem (i := 827) (by decide +kernel), sd_mem (i := 114) (by decide +kernel), by decide +kernel, by decide +kernel, by decide +kernel⟩⟩
theorem ml_X11_281 : Cond.methodLink RX11 281 yX10_cellsOf ∈ sd_tb := sd_mem (i := 855) (by decide +kernel)
theorem mv_XY_cellsOf : sd_mV M_XY_cellsOf 3 := ⟨sd_mem (i := 856) (by decide +kernel), sd_mem (i := 857) (by decide +kernel), ⟨sd_mem (i := 858) (by decide +kernel), sd_mem (i := 114) (by decide +kernel), by decide +kernel, by decide +kernel, by decide +kernel⟩⟩
theorem ml_X11_285 : Cond.methodLink RX11 285 yJ6_bitCount_0f7a4 ∈ sd_tb := sd_mem (i := 859) (by decide +kernel)
theorem mv_JI_bitCount : sd_mS M_JI_bitCount 1 := ⟨sd_mem (i := 860) (by decide +kernel), ⟨sd_mem (i := 861) (by decide +kernel), sd_mem (i := 127) (by decide +kernel), by decide +kernel, by decide +kernel, by decide +kernel⟩⟩
def M_XT_many : sd_MX := (yX11_many, cX11_many, 4, (some .int), { frames := 5, cells := 0, slots := 0, locals := 137 })
def XT_many (h : sd_H) (a0 : Int32) (a1 : Int32) (a2 : Int32) : Option (sd_H × Int32) :=
  b1 (XT_isSet h a0 a1 a2) (fun t2 => (if t2 = 0 then some (h, (-2)) else b1 (XY_refresh h) (fun h5 => b1 (XY_cellsOf h5 a0 a1 a2) (fun t7 => b1 (JI_bitCount t7) (fun t9 => some (h5, t9))))))
set_option maxHeartbeats 4000000 in
set_option maxRecDepth 100000 in
theorem T_XT_many {G : sd_GX} {h : sd_H} {a0 : Int32} {a1 : Int32} {a2 : Int32} {r : (sd_H × Int32)} (hf : XT_many h a0 a1 a2 = some r) : sd_RunF G M_XT_many [.ref (G.1 + 0), .int a0, .int a1, .int a2] h (some (.int r.2)) r.1 := by
  refine sF_run ⟨rfl, rfl⟩ (by decide +kernel) (Nat.le_of_ble_eq_true rfl) (lo := [(0, .ref (G.1 + 0)), (1, .int a0), (2, .int a1), (3, .int a2)]) rfl (fun X hE => ?_)
  unfold XT_many at hf
  refine sd_aload_n (k := 0) (i := 0) (q := 0) (pc' := 1) (by decide +kernel) rfl rfl ?_
  refine sd_iload_n (k := 1) (i := 1) (q := 1) (pc' := 2) (by decide +kernel) rfl rfl ?_
  refine sd_iload_n (k := 2) (i := 2) (q := 2) (pc' := 3) (by decide +kernel) rfl rfl ?_
  refine sd_iload_n (k := 3) (i := 3) (q := 3) (pc' := 4) (by decide +kernel) rfl rfl ?_
  obtain ⟨t2, q1, hf⟩ := b1_some hf
  refine sF_callV (idx := 275) (b := 0) (As := [.int a0, .int a1, .int a2]) (ci := 11) (nn := 17) (pc' := 7) 3 (T_XT_isSet (G := G) (h := h)  q1) (by decide +kernel) mv_XT_isSet ml_X11_275 (by decide +kernel) rfl rfl (Nat.le_of_ble_eq_true rfl) SH_0 rfl (by decide) rfl rfl ?_
  refine sd_if_ne (off := 6) (tgt := 13) (pc' := 10) (by decide +kernel) (fun c3 => ?_) (fun c3 => ?_)
  · replace hf := ite_n c3 hf
    refine sd_aload_n (k := 0) (i := 0) (q := 0) (pc' := 14) (by decide +kernel) rfl rfl ?_
    refine sF_gr (idx := 41) (ci := 11) (k := 4) (n := 17) (r := 56) (pc' := 17) (by decide +kernel) fl_X11_41 (by decide +kernel) rfl SH_0 (by decide) (by decide +kernel) ?_
    obtain ⟨h5, q4, hf⟩ := b1_some hf
    refine sF_callV0 (idx := 278) (b := 56) (As := []) (ci := 10) (nn := 6) (pc' := 20) 0 (T_XY_refresh (G := G) (h := h)  q4) (by decide +kernel) mv_XY_refresh ml_X11_278 (by decide +kernel) rfl rfl (Nat.le_of_ble_eq_true rfl) SH_56 rfl (by decide) rfl rfl ?_
    refine sd_aload_n (k := 0) (i := 0) (q := 0) (pc' := 21) (by decide +kernel) rfl rfl ?_
    refine sF_gr (idx := 41) (ci := 11) (k := 4) (n := 17) (r := 56) (pc' := 24) (by decide +kernel) fl_X11_41 (by decide +kernel) rfl SH_0 (by decide) (by decide +kernel) ?_
    refine sd_iload_n (k := 1) (i := 1) (q := 1) (pc' := 25) (by decide +kernel) rfl rfl ?_
    refine sd_iload_n (k := 2) (i := 2) (q := 2) (pc' := 26) (by decide +kernel) rfl rfl ?_
    refine sd_iload_n (k := 3) (i := 3) (q := 3) (pc' := 27) (by decide +kernel) rfl rfl ?_
    obtain ⟨t7, q6, hf⟩ := b1_some hf
    refine sF_callV (idx := 281) (b := 56) (As := [.int a0, .int a1, .int a2]) (ci := 10) (nn := 6) (pc' := 30) 3 (T_XY_cellsOf (G := G) (h := h5)  q6) (by decide +kernel) mv_XY_cellsOf ml_X11_281 (by decide +kernel) rfl rfl (Nat.le_of_ble_eq_true rfl) SH_56 rfl (by decide) rfl rfl ?_
    obtain ⟨t9, q8, hf⟩ := b1_some hf
    refine sF_callS (idx := 285) (As := [.int t7]) (pc' := 33) 1 (T_JI_bitCount (G := G) (h := h5)  q8) (by decide +kernel) mv_JI_bitCount ml_X11_285 (by decide +kernel) rfl rfl (Nat.le_of_ble_eq_true rfl) rfl ?_
    obtain rfl := Option.some.inj hf
    exact sd_iret (by decide +kernel) rfl (hE _)
  · replace hf := ite_p c3 hf
    refine sd_bipush (n := -2) (v := (-2)) (pc' := 12) (by decide +kernel) (by decide) ?_
    obtain rfl := Option.some.inj hf
    exact sd_iret (by decide +kernel) rfl (hE _)

def M_XS_leastCell : sd_MX := (yX8_leastCell, cX8_leastCell, 2, (some .int), { frames := 1, cells := 0, slots := 0, locals := 40 })
def XS_leastCell_L2 : Nat → Int32 → Int32 → Option Int32
  | 0, _, _ => none
  | n + 1, l0, l1 =>
  (if 23 ≤ l1 then some l1 else (if ((l0 >>> (l1 &&& 31)) &&& 1) = 0 then XS_leastCell_L2 n l0 (l1 + 1) else some l1))
set_option maxHeartbeats 4000000 in
set_option maxRecDepth 100000 in
theorem J_XS_leastCell_L2 {G : sd_GX} {X : sd_CX} (hE : ∀ g : sd_H, sd_end G X M_XS_leastCell (sd_F g)) {h : sd_H} {r : Int32} : ∀ (n : Nat) (l0 : Int32) (l1 : Int32), XS_leastCell_L2 n l0 l1 = some r → sd_J G X (sd_QR G X M_XS_leastCell (some (.int r), sd_F h)) M_XS_leastCell 2 [(0, .int l0), (1, .int l1)] [] (sd_F h) := by
  intro n
  induction n with
  | zero =>
    intro l0 l1 hf
    rw [XS_leastCell_L2] at hf
    cases hf
  | succ n ih =>
    intro l0 l1 hf
    rw [XS_leastCell_L2] at hf
    refine sd_iload_n (k := 1) (i := 1) (q := 1) (pc' := 3) (by decide +kernel) rfl rfl ?_
    refine sd_bipush (n := 23) (v := 23) (pc' := 5) (by decide +kernel) (by decide) ?_
    refine sd_icmp_ge (off := 17) (tgt := 22) (pc' := 8) (by decide +kernel) (fun c1 => ?_) (fun c1 => ?_)
    · replace hf := ite_p c1 hf
      refine sd_iload_n (k := 1) (i := 1) (q := 1) (pc' := 23) (by decide +kernel) rfl rfl ?_
      obtain rfl := Option.some.inj hf
      exact sd_iret (by decide +kernel) rfl (hE _)
    · replace hf := ite_n c1 hf
      refine sd_iload_n (k := 0) (i := 0) (q := 0) (pc' := 9) (by decide +kernel) rfl rfl ?_
      refine sd_iload_n (k := 1) (i := 1) (q := 1) (pc' := 10) (by decide +kernel) rfl rfl ?_
      refine sd_ishr (pc' := 11) (by decide +kernel) ?_
      refine sd_iconst (n := 1) (v := 1) (pc' := 12) (by decide +kernel) (by decide) ?_
      refine sd_iand (pc' := 13) (by decide +kernel) ?_
      refine sd_if_ne (off := 9) (tgt := 22) (pc' := 16) (by decide +kernel) (fun c2 => ?_) (fun c2 => ?_)
      · replace hf := ite_n c2 hf
        refine sd_iload_n (k := 1) (i := 1) (q := 1) (pc' := 23) (by decide +kernel) rfl rfl ?_
        obtain rfl := Option.some.inj hf
        exact sd_iret (by decide +kernel) rfl (hE _)
      · replace hf := ite_p c2 hf
        refine sd_iinc (i := 1) (q := 1) (n := 1) (v := (l1 + 1)) (pc' := 19) (lo' := [(1, .int (l1 + 1)), (0, .int l0)]) (by decide +kernel) rfl rfl (by decide) rfl ?_
        refine sd_goto (off := -17) (tgt := 2) (pc' := 22) (by decide +kernel) ?_
        refine sd_J.sub (lo' := [(0, .int l0), (1, .int (l1 + 1))]) [1, 0] rfl ?_
        exact ih _ _ hf
def XS_leastCell (a0 : Int32) : Option Int32 :=
  XS_leastCell_L2 FU a0 0
set_option maxHeartbeats 4000000 in
set_option maxRecDepth 100000 in
theorem T_XS_leastCell {G : sd_GX} {h : sd_H} {a0 : Int32} {r : Int32} (hf : XS_leastCell a0 = some r) : sd_RunF G M_XS_leastCell [.int a0] h (some (.int r)) h := by
  refine sF_run ⟨rfl, rfl⟩ (by decide +kernel) (Nat.le_of_ble_eq_true rfl) (lo := [(0, .int a0)]) rfl (fun X hE => ?_)
  unfold XS_leastCell at hf
  refine sd_iconst (n := 0) (v := 0) (pc' := 1) (by decide +kernel) (by decide) ?_
  refine sd_istore_n (k := 1) (i := 1) (pc' := 2) (lo' := [(1, .int 0), (0, .int a0)]) (by decide +kernel) rfl (by decide) rfl ?_
  refine sd_J.sub (lo' := [(0, .int a0), (1, .int 0)]) [1, 0] rfl ?_
  exact J_XS_leastCell_L2 hE (h := h) _ _ _ hf

theorem ml_X8_47 : Cond.methodLink RX8 47 yX8_leastCell ∈ sd_tb := sd_mem (i := 873) (by decide +kernel)
theorem mv_XS_leastCell : sd_mS M_XS_leastCell 1 := ⟨sd_mem (i := 874) (by decide +kernel), ⟨sd_mem (i := 875) (by decide +kernel), sd_mem (i := 116) (by decide +kernel), by decide +kernel, by decide +kernel, by decide +kernel⟩⟩
def M_XS_takePiece : sd_MX := (yX8_takePiece, cX8_takePiece, 6, (some .int), { frames := 2, cells := 0, slots := 0, locals := 61 })
def XS_takePiece_L56 : Nat → sd_H → Nat → Int32 → Int32 → Int32 → Option (sd_H × Int32)
  | 0, _, _, _, _, _ => none
  | n + 1, h, l0, l3, l4, l5 =>
  (if 24 ≤ l5 then some (h, l3) else (if 24 ≤ l4 then some (h, l3) else (if ((l3 >>> (l4 &&& 31)) &&& 1) = 0 then some (h, l3) else hb (wI h l0 2 ((h.1 l0 2) + 1)) (fun h15 => XS_takePiece_L56 n h15 l0 (l3 &&& ((1 <<< (l4 &&& 31)) ^^^ (-1))) (l4 + (h15.1 l0 1)) (l5 + 1)))))
set_option maxHeartbeats 4000000 in
set_option maxRecDepth 100000 in
theorem J_XS_takePiece_L56 {G : sd_GX} {X : sd_CX} (hE : ∀ g : sd_H, sd_end G X M_XS_takePiece (sd_F g))  {r : (sd_H × Int32)} : ∀ (n : Nat) (h : sd_H) (l0 : Nat) (l3 : Int32) (l4 : Int32) (l5 : Int32), sd_SH l0 = (8, 3) → XS_takePiece_L56 n h l0 l3 l4 l5 = some r → sd_J G X (sd_QR G X M_XS_takePiece (some (.int r.2), sd_F r.1)) M_XS_takePiece 56 [(0, .ref (G.1 + l0)), (3, .int l3), (4, .int l4), (5, .int l5)] [] (sd_F h) := by
  intro n
  induction n with
  | zero =>
    intro h l0 l3 l4 l5 p0 hf
    rw [XS_takePiece_L56] at hf
    cases hf
  | succ n ih =>
    intro h l0 l3 l4 l5 p0 hf
    rw [XS_takePiece_L56] at hf
    refine sd_iload (i := 5) (q := 3) (pc' := 58) (by decide +kernel) rfl ?_
    refine sd_bipush (n := 24) (v := 24) (pc' := 60) (by decide +kernel) (by decide) ?_
    refine sd_icmp_ge (off := 53) (tgt := 113) (pc' := 63) (by decide +kernel) (fun c12 => ?_) (fun c12 => ?_)
    · replace hf := ite_p c12 hf
      refine sd_iload_n (k := 3) (i := 3) (q := 1) (pc' := 114) (by decide +kernel) rfl rfl ?_
      obtain rfl := Option.some.inj hf
      exact sd_iret (by decide +kernel) rfl (hE _)
    · replace hf := ite_n c12 hf
      refine sd_iload (i := 4) (q := 2) (pc' := 65) (by decide +kernel) rfl ?_
      refine sd_bipush (n := 24) (v := 24) (pc' := 67) (by decide +kernel) (by decide) ?_
      refine sd_icmp_ge (off := 46) (tgt := 113) (pc' := 70) (by decide +kernel) (fun c13 => ?_) (fun c13 => ?_)
      · replace hf := ite_p c13 hf
        refine sd_iload_n (k := 3) (i := 3) (q := 1) (pc' := 114) (by decide +kernel) rfl rfl ?_
        obtain rfl := Option.some.inj hf
        exact sd_iret (by decide +kernel) rfl (hE _)
      · replace hf := ite_n c13 hf
        refine sd_iload_n (k := 3) (i := 3) (q := 1) (pc' := 71) (by decide +kernel) rfl rfl ?_
        refine sd_iload (i := 4) (q := 2) (pc' := 73) (by decide +kernel) rfl ?_
        refine sd_ishr (pc' := 74) (by decide +kernel) ?_
        refine sd_iconst (n := 1) (v := 1) (pc' := 75) (by decide +kernel) (by decide) ?_
        refine sd_iand (pc' := 76) (by decide +kernel) ?_
        refine sd_if_eq (off := 37) (tgt := 113) (pc' := 79) (by decide +kernel) (fun c14 => ?_) (fun c14 => ?_)
        · replace hf := ite_p c14 hf
          refine sd_iload_n (k := 3) (i := 3) (q := 1) (pc' := 114) (by decide +kernel) rfl rfl ?_
          obtain rfl := Option.some.inj hf
          exact sd_iret (by decide +kernel) rfl (hE _)
        · replace hf := ite_n c14 hf
          refine sd_iload_n (k := 3) (i := 3) (q := 1) (pc' := 80) (by decide +kernel) rfl rfl ?_
          refine sd_iconst (n := 1) (v := 1) (pc' := 81) (by decide +kernel) (by decide) ?_
          refine sd_iload (i := 4) (q := 2) (pc' := 83) (by decide +kernel) rfl ?_
          refine sd_ishl (pc' := 84) (by decide +kernel) ?_
          refine sd_iconst (n := -1) (v := (-1)) (pc' := 85) (by decide +kernel) (by decide) ?_
          refine sd_ixor (pc' := 86) (by decide +kernel) ?_
          refine sd_iand (pc' := 87) (by decide +kernel) ?_
          refine sd_istore_n (k := 3) (i := 3) (pc' := 88) (lo' := [(3, .int (l3 &&& ((1 <<< (l4 &&& 31)) ^^^ (-1)))), (0, .ref (G.1 + l0)), (4, .int l4), (5, .int l5)]) (by decide +kernel) rfl (by decide) rfl ?_
          refine sd_aload_n (k := 0) (i := 0) (q := 1) (pc' := 89) (by decide +kernel) rfl rfl ?_
          refine sd_dup (pc' := 90) (by decide +kernel) rfl ?_
          refine sF_gi (idx := 36) (ci := 8) (k := 2) (n := 3) (pc' := 93) (by decide +kernel) fl_X8_36 (by decide +kernel) rfl p0 ?_
          refine sd_iconst (n := 1) (v := 1) (pc' := 94) (by decide +kernel) (by decide) ?_
          refine sd_iadd (pc' := 95) (by decide +kernel) ?_
          obtain ⟨h15, e16, hf⟩ := hb_some hf
          refine sF_pi (idx := 36) (ci := 8) (k := 2) (n := 3) (pc' := 98) (by decide +kernel) fl_X8_36 (by decide +kernel) rfl rfl rfl p0 ?_
          rw [← e16]; clear e16
          refine sd_iload (i := 4) (q := 2) (pc' := 100) (by decide +kernel) rfl ?_
          refine sd_aload_n (k := 0) (i := 0) (q := 1) (pc' := 101) (by decide +kernel) rfl rfl ?_
          refine sF_gi (idx := 33) (ci := 8) (k := 1) (n := 3) (pc' := 104) (by decide +kernel) fl_X8_33 (by decide +kernel) rfl p0 ?_
          refine sd_iadd (pc' := 105) (by decide +kernel) ?_
          refine sd_istore (i := 4) (pc' := 107) (lo' := [(4, .int (l4 + (h15.1 l0 1))), (3, .int (l3 &&& ((1 <<< (l4 &&& 31)) ^^^ (-1)))), (0, .ref (G.1 + l0)), (5, .int l5)]) (by decide +kernel) (by decide) rfl ?_
          refine sd_iinc (i := 5) (q := 3) (n := 1) (v := (l5 + 1)) (pc' := 110) (lo' := [(5, .int (l5 + 1)), (4, .int (l4 + (h15.1 l0 1))), (3, .int (l3 &&& ((1 <<< (l4 &&& 31)) ^^^ (-1)))), (0, .ref (G.1 + l0))]) (by decide +kernel) rfl rfl (by decide) rfl ?_
          refine sd_goto (off := -54) (tgt := 56) (pc' := 113) (by decide +kernel) ?_
          refine sd_J.sub (lo' := [(0, .ref (G.1 + l0)), (3, .int (l3 &&& ((1 <<< (l4 &&& 31)) ^^^ (-1)))), (4, .int (l4 + (h15.1 l0 1))), (5, .int (l5 + 1))]) [3, 2, 1, 0] rfl ?_
          exact ih _ _ _ _ _ p0 hf
def XS_takePiece_B37 (h : sd_H) (l0 : Nat) (l1 : Int32) (s0 : Int32) (s1 : Nat) : Option (sd_H × Int32) :=
  hb (wI h s1 1 s0) (fun h8 => hb (wI h8 l0 2 0) (fun h10 => XS_takePiece_L56 FU h10 l0 l1 (h10.1 l0 0) 0))
set_option maxHeartbeats 4000000 in
set_option maxRecDepth 100000 in
theorem J_XS_takePiece_B37 {G : sd_GX} {X : sd_CX} (hE : ∀ g : sd_H, sd_end G X M_XS_takePiece (sd_F g)) {h : sd_H} {r : (sd_H × Int32)} {l0 : Nat} {l1 : Int32} {s0 : Int32} {s1 : Nat} (p0 : sd_SH l0 = (8, 3)) (ps1 : sd_SH s1 = (8, 3)) (hf : XS_takePiece_B37 h l0 l1 s0 s1 = some r) : sd_J G X (sd_QR G X M_XS_takePiece (some (.int r.2), sd_F r.1)) M_XS_takePiece 37 [(0, .ref (G.1 + l0)), (1, .int l1)] [.int s0, .ref (G.1 + s1)] (sd_F h) := by
  unfold XS_takePiece_B37 at hf
  obtain ⟨h8, e9, hf⟩ := hb_some hf
  refine sF_pi (idx := 33) (ci := 8) (k := 1) (n := 3) (pc' := 40) (by decide +kernel) fl_X8_33 (by decide +kernel) rfl rfl rfl ps1 ?_
  rw [← e9]; clear e9
  refine sd_aload_n (k := 0) (i := 0) (q := 0) (pc' := 41) (by decide +kernel) rfl rfl ?_
  refine sd_iconst (n := 0) (v := 0) (pc' := 42) (by decide +kernel) (by decide) ?_
  obtain ⟨h10, e11, hf⟩ := hb_some hf
  refine sF_pi (idx := 36) (ci := 8) (k := 2) (n := 3) (pc' := 45) (by decide +kernel) fl_X8_36 (by decide +kernel) rfl rfl rfl p0 ?_
  rw [← e11]; clear e11
  refine sd_iload_n (k := 1) (i := 1) (q := 1) (pc' := 46) (by decide +kernel) rfl rfl ?_
  refine sd_istore_n (k := 3) (i := 3) (pc' := 47) (lo' := [(3, .int l1), (0, .ref (G.1 + l0)), (1, .int l1)]) (by decide +kernel) rfl (by decide) rfl ?_
  refine sd_aload_n (k := 0) (i := 0) (q := 1) (pc' := 48) (by decide +kernel) rfl rfl ?_
  refine sF_gi (idx := 20) (ci := 8) (k := 0) (n := 3) (pc' := 51) (by decide +kernel) fl_X8_20 (by decide +kernel) rfl p0 ?_
  refine sd_istore (i := 4) (pc' := 53) (lo' := [(4, .int (h10.1 l0 0)), (3, .int l1), (0, .ref (G.1 + l0)), (1, .int l1)]) (by decide +kernel) (by decide) rfl ?_
  refine sd_iconst (n := 0) (v := 0) (pc' := 54) (by decide +kernel) (by decide) ?_
  refine sd_istore (i := 5) (pc' := 56) (lo' := [(5, .int 0), (4, .int (h10.1 l0 0)), (3, .int l1), (0, .ref (G.1 + l0)), (1, .int l1)]) (by decide +kernel) (by decide) rfl ?_
  refine sd_J.sub (lo' := [(0, .ref (G.1 + l0)), (3, .int l1), (4, .int (h10.1 l0 0)), (5, .int 0)]) [3, 2, 1, 0] rfl ?_
  exact J_XS_takePiece_L56 hE _ _ _ _ _ _ p0 hf
def XS_takePiece (h : sd_H) (this : Nat) (a0 : Int32) : Option (sd_H × Int32) :=
  b1 (XS_leastCell a0) (fun t2 => hb (wI h this 0 t2) (fun h3 => (if (a0 &&& ((1 <<< ((h3.1 this 0) &&& 31)) ^^^ (-1))) = 0 then XS_takePiece_B37 h3 this a0 1 this else b1 (XS_leastCell (a0 &&& ((1 <<< ((h3.1 this 0) &&& 31)) ^^^ (-1)))) (fun t7 => XS_takePiece_B37 h3 this a0 (t7 - (h3.1 this 0)) this))))
set_option maxHeartbeats 4000000 in
set_option maxRecDepth 100000 in
theorem T_XS_takePiece {G : sd_GX} {h : sd_H} {this : Nat} {a0 : Int32} {r : (sd_H × Int32)} (pt : sd_SH this = (8, 3)) (hf : XS_takePiece h this a0 = some r) : sd_RunF G M_XS_takePiece [.ref (G.1 + this), .int a0] h (some (.int r.2)) r.1 := by
  refine sF_run ⟨rfl, rfl⟩ (by decide +kernel) (Nat.le_of_ble_eq_true rfl) (lo := [(0, .ref (G.1 + this)), (1, .int a0)]) rfl (fun X hE => ?_)
  unfold XS_takePiece at hf
  refine sd_aload_n (k := 0) (i := 0) (q := 0) (pc' := 1) (by decide +kernel) rfl rfl ?_
  refine sd_iload_n (k := 1) (i := 1) (q := 1) (pc' := 2) (by decide +kernel) rfl rfl ?_
  obtain ⟨t2, q1, hf⟩ := b1_some hf
  refine sF_callS (idx := 47) (As := [.int a0]) (pc' := 5) 1 (T_XS_leastCell (G := G) (h := h)  q1) (by decide +kernel) mv_XS_leastCell ml_X8_47 (by decide +kernel) rfl rfl (Nat.le_of_ble_eq_true rfl) rfl ?_
  obtain ⟨h3, e4, hf⟩ := hb_some hf
  refine sF_pi (idx := 20) (ci := 8) (k := 0) (n := 3) (pc' := 8) (by decide +kernel) fl_X8_20 (by decide +kernel) rfl rfl rfl pt ?_
  rw [← e4]; clear e4
  refine sd_iload_n (k := 1) (i := 1) (q := 1) (pc' := 9) (by decide +kernel) rfl rfl ?_
  refine sd_iconst (n := 1) (v := 1) (pc' := 10) (by decide +kernel) (by decide) ?_
  refine sd_aload_n (k := 0) (i := 0) (q := 0) (pc' := 11) (by decide +kernel) rfl rfl ?_
  refine sF_gi (idx := 20) (ci := 8) (k := 0) (n := 3) (pc' := 14) (by decide +kernel) fl_X8_20 (by decide +kernel) rfl pt ?_
  refine sd_ishl (pc' := 15) (by decide +kernel) ?_
  refine sd_iconst (n := -1) (v := (-1)) (pc' := 16) (by decide +kernel) (by decide) ?_
  refine sd_ixor (pc' := 17) (by decide +kernel) ?_
  refine sd_iand (pc' := 18) (by decide +kernel) ?_
  refine sd_istore_n (k := 2) (i := 2) (pc' := 19) (lo' := [(2, .int (a0 &&& ((1 <<< ((h3.1 this 0) &&& 31)) ^^^ (-1)))), (0, .ref (G.1 + this)), (1, .int a0)]) (by decide +kernel) rfl (by decide) rfl ?_
  refine sd_aload_n (k := 0) (i := 0) (q := 1) (pc' := 20) (by decide +kernel) rfl rfl ?_
  refine sd_iload_n (k := 2) (i := 2) (q := 0) (pc' := 21) (by decide +kernel) rfl rfl ?_
  refine sd_if_ne (off := 7) (tgt := 28) (pc' := 24) (by decide +kernel) (fun c5 => ?_) (fun c5 => ?_)
  · replace hf := ite_n c5 hf
    refine sd_iload_n (k := 2) (i := 2) (q := 0) (pc' := 29) (by decide +kernel) rfl rfl ?_
    obtain ⟨t7, q6, hf⟩ := b1_some hf
    refine sF_callS (idx := 47) (As := [.int (a0 &&& ((1 <<< ((h3.1 this 0) &&& 31)) ^^^ (-1)))]) (pc' := 32) 1 (T_XS_leastCell (G := G) (h := h3)  q6) (by decide +kernel) mv_XS_leastCell ml_X8_47 (by decide +kernel) rfl rfl (Nat.le_of_ble_eq_true rfl) rfl ?_
    refine sd_aload_n (k := 0) (i := 0) (q := 1) (pc' := 33) (by decide +kernel) rfl rfl ?_
    refine sF_gi (idx := 20) (ci := 8) (k := 0) (n := 3) (pc' := 36) (by decide +kernel) fl_X8_20 (by decide +kernel) rfl pt ?_
    refine sd_isub (pc' := 37) (by decide +kernel) ?_
    refine sd_J.sub (lo' := [(0, .ref (G.1 + this)), (1, .int a0)]) [1, 2] rfl ?_
    exact J_XS_takePiece_B37 hE pt pt hf
  · replace hf := ite_p c5 hf
    refine sd_iconst (n := 1) (v := 1) (pc' := 25) (by decide +kernel) (by decide) ?_
    refine sd_goto (off := 12) (tgt := 37) (pc' := 28) (by decide +kernel) ?_
    refine sd_J.sub (lo' := [(0, .ref (G.1 + this)), (1, .int a0)]) [1, 2] rfl ?_
    exact J_XS_takePiece_B37 hE pt pt hf

theorem ml_X11_288 : Cond.methodLink RX11 288 yX8_takePiece ∈ sd_tb := sd_mem (i := 869) (by decide +kernel)
theorem mv_XS_takePiece : sd_mV M_XS_takePiece 1 := ⟨sd_mem (i := 870) (by decide +kernel), sd_mem (i := 871) (by decide +kernel), ⟨sd_mem (i := 872) (by decide +kernel), sd_mem (i := 116) (by decide +kernel), by decide +kernel, by decide +kernel, by decide +kernel⟩⟩
def M_XT_pieces : sd_MX := (yX11_pieces, cX11_pieces, 6, (some .int), { frames := 5, cells := 0, slots := 0, locals := 137 })
def XT_pieces_L35 : Nat → sd_H → Int32 → Int32 → Option (sd_H × Int32)
  | 0, _, _, _ => none
  | n + 1, h, l4, l5 =>
  (if 24 ≤ l5 then some (h, l5) else (if l4 = 0 then some (h, l5) else b2 (XS_takePiece h 97 l4) (fun h11 t12 => XT_pieces_L35 n h11 t12 (l5 + 1))))
set_option maxHeartbeats 4000000 in
set_option maxRecDepth 100000 in
theorem J_XT_pieces_L35 {G : sd_GX} {X : sd_CX} (hE : ∀ g : sd_H, sd_end G X M_XT_pieces (sd_F g))  {r : (sd_H × Int32)} : ∀ (n : Nat) (h : sd_H) (l4 : Int32) (l5 : Int32), XT_pieces_L35 n h l4 l5 = some r → sd_J G X (sd_QR G X M_XT_pieces (some (.int r.2), sd_F r.1)) M_XT_pieces 35 [(0, .ref (G.1 + 0)), (4, .int l4), (5, .int l5)] [] (sd_F h) := by
  intro n
  induction n with
  | zero =>
    intro h l4 l5 hf
    rw [XT_pieces_L35] at hf
    cases hf
  | succ n ih =>
    intro h l4 l5 hf
    rw [XT_pieces_L35] at hf
    refine sd_iload (i := 5) (q := 2) (pc' := 37) (by decide +kernel) rfl ?_
    refine sd_bipush (n := 24) (v := 24) (pc' := 39) (by decide +kernel) (by decide) ?_
    refine sd_icmp_ge (off := 25) (tgt := 64) (pc' := 42) (by decide +kernel) (fun c8 => ?_) (fun c8 => ?_)
    · replace hf := ite_p c8 hf
      refine sd_iload (i := 5) (q := 2) (pc' := 66) (by decide +kernel) rfl ?_
      obtain rfl := Option.some.inj hf
      exact sd_iret (by decide +kernel) rfl (hE _)
    · replace hf := ite_n c8 hf
      refine sd_iload (i := 4) (q := 1) (pc' := 44) (by decide +kernel) rfl ?_
      refine sd_if_eq (off := 20) (tgt := 64) (pc' := 47) (by decide +kernel) (fun c9 => ?_) (fun c9 => ?_)
      · replace hf := ite_p c9 hf
        refine sd_iload (i := 5) (q := 2) (pc' := 66) (by decide +kernel) rfl ?_
        obtain rfl := Option.some.inj hf
        exact sd_iret (by decide +kernel) rfl (hE _)
      · replace hf := ite_n c9 hf
        refine sd_aload_n (k := 0) (i := 0) (q := 0) (pc' := 48) (by decide +kernel) rfl rfl ?_
        refine sF_gr (idx := 55) (ci := 11) (k := 6) (n := 17) (r := 97) (pc' := 51) (by decide +kernel) fl_X11_55 (by decide +kernel) rfl SH_0 (by decide) (by decide +kernel) ?_
        refine sd_iload (i := 4) (q := 1) (pc' := 53) (by decide +kernel) rfl ?_
        obtain ⟨h11, t12, q10, hf⟩ := b2_some hf
        refine sF_callV (idx := 288) (b := 97) (As := [.int l4]) (ci := 8) (nn := 3) (pc' := 56) 1 (T_XS_takePiece (G := G) (h := h) SH_97 q10) (by decide +kernel) mv_XS_takePiece ml_X11_288 (by decide +kernel) rfl rfl (Nat.le_of_ble_eq_true rfl) SH_97 rfl (by decide) rfl rfl ?_
        refine sd_istore (i := 4) (pc' := 58) (lo' := [(4, .int t12), (0, .ref (G.1 + 0)), (5, .int l5)]) (by decide +kernel) (by decide) rfl ?_
        refine sd_iinc (i := 5) (q := 2) (n := 1) (v := (l5 + 1)) (pc' := 61) (lo' := [(5, .int (l5 + 1)), (4, .int t12), (0, .ref (G.1 + 0))]) (by decide +kernel) rfl rfl (by decide) rfl ?_
        refine sd_goto (off := -26) (tgt := 35) (pc' := 64) (by decide +kernel) ?_
        refine sd_J.sub (lo' := [(0, .ref (G.1 + 0)), (4, .int t12), (5, .int (l5 + 1))]) [2, 1, 0] rfl ?_
        exact ih _ _ _ hf
def XT_pieces (h : sd_H) (a0 : Int32) (a1 : Int32) (a2 : Int32) : Option (sd_H × Int32) :=
  b1 (XT_isSet h a0 a1 a2) (fun t2 => (if t2 = 0 then some (h, (-2)) else b1 (XY_refresh h) (fun h5 => b1 (XY_cellsOf h5 a0 a1 a2) (fun t7 => XT_pieces_L35 FU h5 t7 0))))
set_option maxHeartbeats 4000000 in
set_option maxRecDepth 100000 in
theorem T_XT_pieces {G : sd_GX} {h : sd_H} {a0 : Int32} {a1 : Int32} {a2 : Int32} {r : (sd_H × Int32)} (hf : XT_pieces h a0 a1 a2 = some r) : sd_RunF G M_XT_pieces [.ref (G.1 + 0), .int a0, .int a1, .int a2] h (some (.int r.2)) r.1 := by
  refine sF_run ⟨rfl, rfl⟩ (by decide +kernel) (Nat.le_of_ble_eq_true rfl) (lo := [(0, .ref (G.1 + 0)), (1, .int a0), (2, .int a1), (3, .int a2)]) rfl (fun X hE => ?_)
  unfold XT_pieces at hf
  refine sd_aload_n (k := 0) (i := 0) (q := 0) (pc' := 1) (by decide +kernel) rfl rfl ?_
  refine sd_iload_n (k := 1) (i := 1) (q := 1) (pc' := 2) (by decide +kernel) rfl rfl ?_
  refine sd_iload_n (k := 2) (i := 2) (q := 2) (pc' := 3) (by decide +kernel) rfl rfl ?_
  refine sd_iload_n (k := 3) (i := 3) (q := 3) (pc' := 4) (by decide +kernel) rfl rfl ?_
  obtain ⟨t2, q1, hf⟩ := b1_some hf
  refine sF_callV (idx := 275) (b := 0) (As := [.int a0, .int a1, .int a2]) (ci := 11) (nn := 17) (pc' := 7) 3 (T_XT_isSet (G := G) (h := h)  q1) (by decide +kernel) mv_XT_isSet ml_X11_275 (by decide +kernel) rfl rfl (Nat.le_of_ble_eq_true rfl) SH_0 rfl (by decide) rfl rfl ?_
  refine sd_if_ne (off := 6) (tgt := 13) (pc' := 10) (by decide +kernel) (fun c3 => ?_) (fun c3 => ?_)
  · replace hf := ite_n c3 hf
    refine sd_aload_n (k := 0) (i := 0) (q := 0) (pc' := 14) (by decide +kernel) rfl rfl ?_
    refine sF_gr (idx := 41) (ci := 11) (k := 4) (n := 17) (r := 56) (pc' := 17) (by decide +kernel) fl_X11_41 (by decide +kernel) rfl SH_0 (by decide) (by decide +kernel) ?_
    obtain ⟨h5, q4, hf⟩ := b1_some hf
    refine sF_callV0 (idx := 278) (b := 56) (As := []) (ci := 10) (nn := 6) (pc' := 20) 0 (T_XY_refresh (G := G) (h := h)  q4) (by decide +kernel) mv_XY_refresh ml_X11_278 (by decide +kernel) rfl rfl (Nat.le_of_ble_eq_true rfl) SH_56 rfl (by decide) rfl rfl ?_
    refine sd_aload_n (k := 0) (i := 0) (q := 0) (pc' := 21) (by decide +kernel) rfl rfl ?_
    refine sF_gr (idx := 41) (ci := 11) (k := 4) (n := 17) (r := 56) (pc' := 24) (by decide +kernel) fl_X11_41 (by decide +kernel) rfl SH_0 (by decide) (by decide +kernel) ?_
    refine sd_iload_n (k := 1) (i := 1) (q := 1) (pc' := 25) (by decide +kernel) rfl rfl ?_
    refine sd_iload_n (k := 2) (i := 2) (q := 2) (pc' := 26) (by decide +kernel) rfl rfl ?_
    refine sd_iload_n (k := 3) (i := 3) (q := 3) (pc' := 27) (by decide +kernel) rfl rfl ?_
    obtain ⟨t7, q6, hf⟩ := b1_some hf
    refine sF_callV (idx := 281) (b := 56) (As := [.int a0, .int a1, .int a2]) (ci := 10) (nn := 6) (pc' := 30) 3 (T_XY_cellsOf (G := G) (h := h5)  q6) (by decide +kernel) mv_XY_cellsOf ml_X11_281 (by decide +kernel) rfl rfl (Nat.le_of_ble_eq_true rfl) SH_56 rfl (by decide) rfl rfl ?_
    refine sd_istore (i := 4) (pc' := 32) (lo' := [(4, .int t7), (0, .ref (G.1 + 0)), (1, .int a0), (2, .int a1), (3, .int a2)]) (by decide +kernel) (by decide) rfl ?_
    refine sd_iconst (n := 0) (v := 0) (pc' := 33) (by decide +kernel) (by decide) ?_
    refine sd_istore (i := 5) (pc' := 35) (lo' := [(5, .int 0), (4, .int t7), (0, .ref (G.1 + 0)), (1, .int a0), (2, .int a1), (3, .int a2)]) (by decide +kernel) (by decide) rfl ?_
    refine sd_J.sub (lo' := [(0, .ref (G.1 + 0)), (4, .int t7), (5, .int 0)]) [2, 1, 0] rfl ?_
    exact J_XT_pieces_L35 hE _ _ _ _ hf
  · replace hf := ite_p c3 hf
    refine sd_bipush (n := -2) (v := (-2)) (pc' := 12) (by decide +kernel) (by decide) ?_
    obtain rfl := Option.some.inj hf
    exact sd_iret (by decide +kernel) rfl (hE _)

def M_XT_piece : sd_MX := (yX11_piece, cX11_piece, 8, (some .int), { frames := 5, cells := 0, slots := 0, locals := 137 })
def XT_piece_B75 (h : sd_H) (l5 : Int32) (l6 : Int32) : Option (sd_H × Int32) :=
  (if l6 = 0 then some (h, (-2)) else b2 (XS_takePiece h 97 l6) (fun h14 t15 => b1 (XS_part h14 97 l5 (-2)) (fun t17 => some (h14, t17))))
set_option maxHeartbeats 4000000 in
set_option maxRecDepth 100000 in
theorem J_XT_piece_B75 {G : sd_GX} {X : sd_CX} (hE : ∀ g : sd_H, sd_end G X M_XT_piece (sd_F g)) {h : sd_H} {r : (sd_H × Int32)} {l5 : Int32} {l6 : Int32} (hf : XT_piece_B75 h l5 l6 = some r) : sd_J G X (sd_QR G X M_XT_piece (some (.int r.2), sd_F r.1)) M_XT_piece 75 [(0, .ref (G.1 + 0)), (5, .int l5), (6, .int l6)] [] (sd_F h) := by
  unfold XT_piece_B75 at hf
  refine sd_iload (i := 6) (q := 2) (pc' := 77) (by decide +kernel) rfl ?_
  refine sd_if_ne (off := 6) (tgt := 83) (pc' := 80) (by decide +kernel) (fun c12 => ?_) (fun c12 => ?_)
  · replace hf := ite_n c12 hf
    refine sd_aload_n (k := 0) (i := 0) (q := 0) (pc' := 84) (by decide +kernel) rfl rfl ?_
    refine sF_gr (idx := 55) (ci := 11) (k := 6) (n := 17) (r := 97) (pc' := 87) (by decide +kernel) fl_X11_55 (by decide +kernel) rfl SH_0 (by decide) (by decide +kernel) ?_
    refine sd_iload (i := 6) (q := 2) (pc' := 89) (by decide +kernel) rfl ?_
    obtain ⟨h14, t15, q13, hf⟩ := b2_some hf
    refine sF_callV (idx := 288) (b := 97) (As := [.int l6]) (ci := 8) (nn := 3) (pc' := 92) 1 (T_XS_takePiece (G := G) (h := h) SH_97 q13) (by decide +kernel) mv_XS_takePiece ml_X11_288 (by decide +kernel) rfl rfl (Nat.le_of_ble_eq_true rfl) SH_97 rfl (by decide) rfl rfl ?_
    refine sd_pop (pc' := 93) (by decide +kernel) rfl ?_
    refine sd_aload_n (k := 0) (i := 0) (q := 0) (pc' := 94) (by decide +kernel) rfl rfl ?_
    refine sF_gr (idx := 55) (ci := 11) (k := 6) (n := 17) (r := 97) (pc' := 97) (by decide +kernel) fl_X11_55 (by decide +kernel) rfl SH_0 (by decide) (by decide +kernel) ?_
    refine sd_iload (i := 5) (q := 1) (pc' := 99) (by decide +kernel) rfl ?_
    refine sd_bipush (n := -2) (v := (-2)) (pc' := 101) (by decide +kernel) (by decide) ?_
    obtain ⟨t17, q16, hf⟩ := b1_some hf
    refine sF_callV (idx := 251) (b := 97) (As := [.int l5, .int (-2)]) (ci := 8) (nn := 3) (pc' := 104) 2 (T_XS_part (G := G) (h := h14) SH_97 q16) (by decide +kernel) mv_XS_part ml_X11_251 (by decide +kernel) rfl rfl (Nat.le_of_ble_eq_true rfl) SH_97 rfl (by decide) rfl rfl ?_
    obtain rfl := Option.some.inj hf
    exact sd_iret (by decide +kernel) rfl (hE _)
  · replace hf := ite_p c12 hf
    refine sd_bipush (n := -2) (v := (-2)) (pc' := 82) (by decide +kernel) (by decide) ?_
    obtain rfl := Option.some.inj hf
    exact sd_iret (by decide +kernel) rfl (hE _)
def XT_piece_L46 : Nat → sd_H → Int32 → Int32 → Int32 → Int32 → Option (sd_H × Int32)
  | 0, _, _, _, _, _ => none
  | n + 1, h, l4, l5, l6, l7 =>
  (if l4 ≤ l7 then XT_piece_B75 h l5 l6 else (if l6 = 0 then XT_piece_B75 h l5 l6 else b2 (XS_takePiece h 97 l6) (fun h20 t21 => XT_piece_L46 n h20 l4 l5 t21 (l7 + 1))))
set_option maxHeartbeats 4000000 in
set_option maxRecDepth 100000 in
theorem J_XT_piece_L46 {G : sd_GX} {X : sd_CX} (hE : ∀ g : sd_H, sd_end G X M_XT_piece (sd_F g))  {r : (sd_H × Int32)} : ∀ (n : Nat) (h : sd_H) (l4 : Int32) (l5 : Int32) (l6 : Int32) (l7 : Int32), XT_piece_L46 n h l4 l5 l6 l7 = some r → sd_J G X (sd_QR G X M_XT_piece (some (.int r.2), sd_F r.1)) M_XT_piece 46 [(0, .ref (G.1 + 0)), (4, .int l4), (5, .int l5), (6, .int l6), (7, .int l7)] [] (sd_F h) := by
  intro n
  induction n with
  | zero =>
    intro h l4 l5 l6 l7 hf
    rw [XT_piece_L46] at hf
    cases hf
  | succ n ih =>
    intro h l4 l5 l6 l7 hf
    rw [XT_piece_L46] at hf
    refine sd_iload (i := 7) (q := 4) (pc' := 48) (by decide +kernel) rfl ?_
    refine sd_iload (i := 4) (q := 1) (pc' := 50) (by decide +kernel) rfl ?_
    refine sd_icmp_ge (off := 25) (tgt := 75) (pc' := 53) (by decide +kernel) (fun c11 => ?_) (fun c11 => ?_)
    · replace hf := ite_p c11 hf
      refine sd_J.sub (lo' := [(0, .ref (G.1 + 0)), (5, .int l5), (6, .int l6)]) [0, 2, 3] rfl ?_
      exact J_XT_piece_B75 hE hf
    · replace hf := ite_n c11 hf
      refine sd_iload (i := 6) (q := 3) (pc' := 55) (by decide +kernel) rfl ?_
      refine sd_if_eq (off := 20) (tgt := 75) (pc' := 58) (by decide +kernel) (fun c18 => ?_) (fun c18 => ?_)
      · replace hf := ite_p c18 hf
        refine sd_J.sub (lo' := [(0, .ref (G.1 + 0)), (5, .int l5), (6, .int l6)]) [0, 2, 3] rfl ?_
        exact J_XT_piece_B75 hE hf
      · replace hf := ite_n c18 hf
        refine sd_aload_n (k := 0) (i := 0) (q := 0) (pc' := 59) (by decide +kernel) rfl rfl ?_
        refine sF_gr (idx := 55) (ci := 11) (k := 6) (n := 17) (r := 97) (pc' := 62) (by decide +kernel) fl_X11_55 (by decide +kernel) rfl SH_0 (by decide) (by decide +kernel) ?_
        refine sd_iload (i := 6) (q := 3) (pc' := 64) (by decide +kernel) rfl ?_
        obtain ⟨h20, t21, q19, hf⟩ := b2_some hf
        refine sF_callV (idx := 288) (b := 97) (As := [.int l6]) (ci := 8) (nn := 3) (pc' := 67) 1 (T_XS_takePiece (G := G) (h := h) SH_97 q19) (by decide +kernel) mv_XS_takePiece ml_X11_288 (by decide +kernel) rfl rfl (Nat.le_of_ble_eq_true rfl) SH_97 rfl (by decide) rfl rfl ?_
        refine sd_istore (i := 6) (pc' := 69) (lo' := [(6, .int t21), (0, .ref (G.1 + 0)), (4, .int l4), (5, .int l5), (7, .int l7)]) (by decide +kernel) (by decide) rfl ?_
        refine sd_iinc (i := 7) (q := 4) (n := 1) (v := (l7 + 1)) (pc' := 72) (lo' := [(7, .int (l7 + 1)), (6, .int t21), (0, .ref (G.1 + 0)), (4, .int l4), (5, .int l5)]) (by decide +kernel) rfl rfl (by decide) rfl ?_
        refine sd_goto (off := -26) (tgt := 46) (pc' := 75) (by decide +kernel) ?_
        refine sd_J.sub (lo' := [(0, .ref (G.1 + 0)), (4, .int l4), (5, .int l5), (6, .int t21), (7, .int (l7 + 1))]) [2, 3, 4, 1, 0] rfl ?_
        exact ih _ _ _ _ _ hf
def XT_piece (h : sd_H) (a0 : Int32) (a1 : Int32) (a2 : Int32) (a3 : Int32) (a4 : Int32) : Option (sd_H × Int32) :=
  b1 (XT_isSet h a0 a1 a2) (fun t2 => (if t2 = 0 then some (h, (-2)) else b1 (XT_within a3 0 23) (fun t5 => (if t5 = 0 then some (h, (-2)) else b1 (XY_refresh h) (fun h8 => b1 (XY_cellsOf h8 a0 a1 a2) (fun t10 => XT_piece_L46 FU h8 a3 a4 t10 0))))))
set_option maxHeartbeats 4000000 in
set_option maxRecDepth 100000 in
theorem T_XT_piece {G : sd_GX} {h : sd_H} {a0 : Int32} {a1 : Int32} {a2 : Int32} {a3 : Int32} {a4 : Int32} {r : (sd_H × Int32)} (hf : XT_piece h a0 a1 a2 a3 a4 = some r) : sd_RunF G M_XT_piece [.ref (G.1 + 0), .int a0, .int a1, .int a2, .int a3, .int a4] h (some (.int r.2)) r.1 := by
  refine sF_run ⟨rfl, rfl⟩ (by decide +kernel) (Nat.le_of_ble_eq_true rfl) (lo := [(0, .ref (G.1 + 0)), (1, .int a0), (2, .int a1), (3, .int a2), (4, .int a3), (5, .int a4)]) rfl (fun X hE => ?_)
  unfold XT_piece at hf
  refine sd_aload_n (k := 0) (i := 0) (q := 0) (pc' := 1) (by decide +kernel) rfl rfl ?_
  refine sd_iload_n (k := 1) (i := 1) (q := 1) (pc' := 2) (by decide +kernel) rfl rfl ?_
  refine sd_iload_n (k := 2) (i := 2) (q := 2) (pc' := 3) (by decide +kernel) rfl rfl ?_
  refine sd_iload_n (k := 3) (i := 3) (q := 3) (pc' := 4) (by decide +kernel) rfl rfl ?_
  obtain ⟨t2, q1, hf⟩ := b1_some hf
  refine sF_callV (idx := 275) (b := 0) (As := [.int a0, .int a1, .int a2]) (ci := 11) (nn := 17) (pc' := 7) 3 (T_XT_isSet (G := G) (h := h)  q1) (by decide +kernel) mv_XT_isSet ml_X11_275 (by decide +kernel) rfl rfl (Nat.le_of_ble_eq_true rfl) SH_0 rfl (by decide) rfl rfl ?_
  refine sd_if_eq (off := 14) (tgt := 21) (pc' := 10) (by decide +kernel) (fun c3 => ?_) (fun c3 => ?_)
  · replace hf := ite_p c3 hf
    refine sd_bipush (n := -2) (v := (-2)) (pc' := 23) (by decide +kernel) (by decide) ?_
    obtain rfl := Option.some.inj hf
    exact sd_iret (by decide +kernel) rfl (hE _)
  · replace hf := ite_n c3 hf
    refine sd_iload (i := 4) (q := 4) (pc' := 12) (by decide +kernel) rfl ?_
    refine sd_iconst (n := 0) (v := 0) (pc' := 13) (by decide +kernel) (by decide) ?_
    refine sd_bipush (n := 23) (v := 23) (pc' := 15) (by decide +kernel) (by decide) ?_
    obtain ⟨t5, q4, hf⟩ := b1_some hf
    refine sF_callS (idx := 97) (As := [.int a3, .int 0, .int 23]) (pc' := 18) 3 (T_XT_within (G := G) (h := h)  q4) (by decide +kernel) mv_XT_within ml_X11_97 (by decide +kernel) rfl rfl (Nat.le_of_ble_eq_true rfl) rfl ?_
    refine sd_if_ne (off := 6) (tgt := 24) (pc' := 21) (by decide +kernel) (fun c6 => ?_) (fun c6 => ?_)
    · replace hf := ite_n c6 hf
      refine sd_aload_n (k := 0) (i := 0) (q := 0) (pc' := 25) (by decide +kernel) rfl rfl ?_
      refine sF_gr (idx := 41) (ci := 11) (k := 4) (n := 17) (r := 56) (pc' := 28) (by decide +kernel) fl_X11_41 (by decide +kernel) rfl SH_0 (by decide) (by decide +kernel) ?_
      obtain ⟨h8, q7, hf⟩ := b1_some hf
      refine sF_callV0 (idx := 278) (b := 56) (As := []) (ci := 10) (nn := 6) (pc' := 31) 0 (T_XY_refresh (G := G) (h := h)  q7) (by decide +kernel) mv_XY_refresh ml_X11_278 (by decide +kernel) rfl rfl (Nat.le_of_ble_eq_true rfl) SH_56 rfl (by decide) rfl rfl ?_
      refine sd_aload_n (k := 0) (i := 0) (q := 0) (pc' := 32) (by decide +kernel) rfl rfl ?_
      refine sF_gr (idx := 41) (ci := 11) (k := 4) (n := 17) (r := 56) (pc' := 35) (by decide +kernel) fl_X11_41 (by decide +kernel) rfl SH_0 (by decide) (by decide +kernel) ?_
      refine sd_iload_n (k := 1) (i := 1) (q := 1) (pc' := 36) (by decide +kernel) rfl rfl ?_
      refine sd_iload_n (k := 2) (i := 2) (q := 2) (pc' := 37) (by decide +kernel) rfl rfl ?_
      refine sd_iload_n (k := 3) (i := 3) (q := 3) (pc' := 38) (by decide +kernel) rfl rfl ?_
      obtain ⟨t10, q9, hf⟩ := b1_some hf
      refine sF_callV (idx := 281) (b := 56) (As := [.int a0, .int a1, .int a2]) (ci := 10) (nn := 6) (pc' := 41) 3 (T_XY_cellsOf (G := G) (h := h8)  q9) (by decide +kernel) mv_XY_cellsOf ml_X11_281 (by decide +kernel) rfl rfl (Nat.le_of_ble_eq_true rfl) SH_56 rfl (by decide) rfl rfl ?_
      refine sd_istore (i := 6) (pc' := 43) (lo' := [(6, .int t10), (0, .ref (G.1 + 0)), (1, .int a0), (2, .int a1), (3, .int a2), (4, .int a3), (5, .int a4)]) (by decide +kernel) (by decide) rfl ?_
      refine sd_iconst (n := 0) (v := 0) (pc' := 44) (by decide +kernel) (by decide) ?_
      refine sd_istore (i := 7) (pc' := 46) (lo' := [(7, .int 0), (6, .int t10), (0, .ref (G.1 + 0)), (1, .int a0), (2, .int a1), (3, .int a2), (4, .int a3), (5, .int a4)]) (by decide +kernel) (by decide) rfl ?_
      refine sd_J.sub (lo' := [(0, .ref (G.1 + 0)), (4, .int a3), (5, .int a4), (6, .int t10), (7, .int 0)]) [2, 6, 7, 1, 0] rfl ?_
      exact J_XT_piece_L46 hE _ _ _ _ _ _ hf
    · replace hf := ite_p c6 hf
      refine sd_bipush (n := -2) (v := (-2)) (pc' := 23) (by decide +kernel) (by decide) ?_
      obtain rfl := Option.some.inj hf
      exact sd_iret (by decide +kernel) rfl (hE _)
