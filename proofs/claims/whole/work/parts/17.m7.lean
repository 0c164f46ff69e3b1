theorem ml_X11_384 : Cond.methodLink RX11 384 yX11_reference ∈ sd_tb := sd_mem (i := 1122) (by decide +kernel)
theorem mv_XT_reference : sd_mV M_XT_reference 3 := ⟨sd_mem (i := 726) (by decide +kernel), sd_mem (i := 727) (by decide +kernel), ⟨sd_mem (i := 728) (by decide +kernel), sd_mem (i := 108) (by decide +kernel), by decide +kernel, by decide +kernel, by decide +kernel⟩⟩
theorem ml_X11_387 : Cond.methodLink RX11 387 yX11_section ∈ sd_tb := sd_mem (i := 1123) (by decide +kernel)
theorem mv_XT_section : sd_mV M_XT_section 3 := ⟨sd_mem (i := 731) (by decide +kernel), sd_mem (i := 732) (by decide +kernel), ⟨sd_mem (i := 733) (by decide +kernel), sd_mem (i := 108) (by decide +kernel), by decide +kernel, by decide +kernel, by decide +kernel⟩⟩
def M_XT_withReference : sd_MX := (yX11_withReference, cX11_withReference, 8, (some .long), { frames := 5, cells := 0, slots := 0, locals := 135 })
def XT_withReference_L62 : Nat → sd_H → Int32 → Int32 → Int64 → Int32 → Option (sd_H × Int64)
  | 0, _, _, _, _, _ => none
  | n + 1, h, l3, l4, l5, l7 =>
  (if 2 < l7 then some (h, l5) else b2 (XT_section h ((3 * l3) + l4) 0 l7) (fun h8 t9 => XT_withReference_L62 n h8 l3 l4 ((31 * l5) + (Int32.toInt64 t9)) (l7 + 1)))
set_option maxHeartbeats 4000000 in
set_option maxRecDepth 100000 in
theorem J_XT_withReference_L62 {G : sd_GX} {X : sd_CX} (hE : ∀ g : sd_H, sd_end G X M_XT_withReference (sd_F g))  {r : (sd_H × Int64)} : ∀ (n : Nat) (h : sd_H) (l3 : Int32) (l4 : Int32) (l5 : Int64) (l7 : Int32), XT_withReference_L62 n h l3 l4 l5 l7 = some r → sd_J G X (sd_QR G X M_XT_withReference (some (.long r.2), sd_F r.1)) M_XT_withReference 62 [(0, .ref (G.1 + 0)), (3, .int l3), (4, .int l4), (5, .long l5), (7, .int l7)] [] (sd_F h) := by
  intro n
  induction n with
  | zero =>
    intro h l3 l4 l5 l7 hf
    rw [XT_withReference_L62] at hf
    cases hf
  | succ n ih =>
    intro h l3 l4 l5 l7 hf
    rw [XT_withReference_L62] at hf
    refine sd_iload (i := 7) (q := 4) (pc' := 64) (by decide +kernel) rfl ?_
    refine sd_iconst (n := 2) (v := 2) (pc' := 65) (by decide +kernel) (by decide) ?_
    refine sd_icmp_gt (off := 32) (tgt := 97) (pc' := 68) (by decide +kernel) (fun c6 => ?_) (fun c6 => ?_)
    · replace hf := ite_p c6 hf
      refine sd_lload (i := 5) (q := 3) (pc' := 99) (by decide +kernel) rfl ?_
      obtain rfl := Option.some.inj hf
      exact sd_lret (by decide +kernel) rfl (hE _)
    · replace hf := ite_n c6 hf
      refine sd_ldc2 (idx := 353) (v := 31) (pc' := 71) (by decide +kernel) (sd_mem (i := 1111) (by decide +kernel)) ?_
      refine sd_lload (i := 5) (q := 3) (pc' := 73) (by decide +kernel) rfl ?_
      refine sd_lmul (pc' := 74) (by decide +kernel) ?_
      refine sd_aload_n (k := 0) (i := 0) (q := 0) (pc' := 75) (by decide +kernel) rfl rfl ?_
      refine sd_iconst (n := 3) (v := 3) (pc' := 76) (by decide +kernel) (by decide) ?_
      refine sd_iload_n (k := 3) (i := 3) (q := 1) (pc' := 77) (by decide +kernel) rfl rfl ?_
      refine sd_imul (pc' := 78) (by decide +kernel) ?_
      refine sd_iload (i := 4) (q := 2) (pc' := 80) (by decide +kernel) rfl ?_
      refine sd_iadd (pc' := 81) (by decide +kernel) ?_
      refine sd_iconst (n := 0) (v := 0) (pc' := 82) (by decide +kernel) (by decide) ?_
      refine sd_iload (i := 7) (q := 4) (pc' := 84) (by decide +kernel) rfl ?_
      obtain ⟨h8, t9, q7, hf⟩ := b2_some hf
      refine sF_callV (idx := 387) (b := 0) (As := [.int ((3 * l3) + l4), .int 0, .int l7]) (ci := 11) (nn := 17) (pc' := 87) 3 (T_XT_section (G := G) (h := h)  q7) (by decide +kernel) mv_XT_section ml_X11_387 (by decide +kernel) rfl rfl (Nat.le_of_ble_eq_true rfl) SH_0 rfl (by decide) rfl rfl ?_
      refine sd_i2l (pc' := 88) (by decide +kernel) rfl ?_
      refine sd_ladd (pc' := 89) (by decide +kernel) ?_
      refine sd_lstore (i := 5) (pc' := 91) (lo' := [(5, .long ((31 * l5) + (Int32.toInt64 t9))), (0, .ref (G.1 + 0)), (3, .int l3), (4, .int l4), (7, .int l7)]) (by decide +kernel) (by decide) rfl ?_
      refine sd_iinc (i := 7) (q := 4) (n := 1) (v := (l7 + 1)) (pc' := 94) (lo' := [(7, .int (l7 + 1)), (5, .long ((31 * l5) + (Int32.toInt64 t9))), (0, .ref (G.1 + 0)), (3, .int l3), (4, .int l4)]) (by decide +kernel) rfl rfl (by decide) rfl ?_
      refine sd_goto (off := -32) (tgt := 62) (pc' := 97) (by decide +kernel) ?_
      refine sd_J.sub (lo' := [(0, .ref (G.1 + 0)), (3, .int l3), (4, .int l4), (5, .long ((31 * l5) + (Int32.toInt64 t9))), (7, .int (l7 + 1))]) [2, 3, 4, 1, 0] rfl ?_
      exact ih _ _ _ _ _ hf
def XT_withReference_L6 : Nat → sd_H → Int32 → Int32 → Int64 → Int32 → Option (sd_H × Int64)
  | 0, _, _, _, _, _ => none
  | n + 1, h, l3, l4, l5, l7 =>
  (if 3 < l7 then b1 (XT_reference h l3 l4 0) (fun t3 => (if t3 = (-1) then some (h, l5) else (if (h.1 6 1) ≤ 0 then some (h, l5) else XT_withReference_L62 FU h l3 l4 l5 0))) else b1 (XT_reference h l3 l4 l7) (fun t11 => XT_withReference_L6 n h l3 l4 ((31 * l5) + (Int32.toInt64 t11)) (l7 + 1)))
set_option maxHeartbeats 4000000 in
set_option maxRecDepth 100000 in
theorem J_XT_withReference_L6 {G : sd_GX} {X : sd_CX} (hE : ∀ g : sd_H, sd_end G X M_XT_withReference (sd_F g))  {r : (sd_H × Int64)} : ∀ (n : Nat) (h : sd_H) (l3 : Int32) (l4 : Int32) (l5 : Int64) (l7 : Int32), XT_withReference_L6 n h l3 l4 l5 l7 = some r → sd_J G X (sd_QR G X M_XT_withReference (some (.long r.2), sd_F r.1)) M_XT_withReference 6 [(0, .ref (G.1 + 0)), (3, .int l3), (4, .int l4), (5, .long l5), (7, .int l7)] [] (sd_F h) := by
  intro n
  induction n with
  | zero =>
    intro h l3 l4 l5 l7 hf
    rw [XT_withReference_L6] at hf
    cases hf
  | succ n ih =>
    intro h l3 l4 l5 l7 hf
    rw [XT_withReference_L6] at hf
    refine sd_iload (i := 7) (q := 4) (pc' := 8) (by decide +kernel) rfl ?_
    refine sd_iconst (n := 3) (v := 3) (pc' := 9) (by decide +kernel) (by decide) ?_
    refine sd_icmp_gt (off := 28) (tgt := 37) (pc' := 12) (by decide +kernel) (fun c1 => ?_) (fun c1 => ?_)
    · replace hf := ite_p c1 hf
      refine sd_aload_n (k := 0) (i := 0) (q := 0) (pc' := 38) (by decide +kernel) rfl rfl ?_
      refine sd_iload_n (k := 3) (i := 3) (q := 1) (pc' := 39) (by decide +kernel) rfl rfl ?_
      refine sd_iload (i := 4) (q := 2) (pc' := 41) (by decide +kernel) rfl ?_
      refine sd_iconst (n := 0) (v := 0) (pc' := 42) (by decide +kernel) (by decide) ?_
      obtain ⟨t3, q2, hf⟩ := b1_some hf
      refine sF_callV (idx := 384) (b := 0) (As := [.int l3, .int l4, .int 0]) (ci := 11) (nn := 17) (pc' := 45) 3 (T_XT_reference (G := G) (h := h)  q2) (by decide +kernel) mv_XT_reference ml_X11_384 (by decide +kernel) rfl rfl (Nat.le_of_ble_eq_true rfl) SH_0 rfl (by decide) rfl rfl ?_
      refine sd_iconst (n := -1) (v := (-1)) (pc' := 46) (by decide +kernel) (by decide) ?_
      refine sd_icmp_eq (off := 51) (tgt := 97) (pc' := 49) (by decide +kernel) (fun c4 => ?_) (fun c4 => ?_)
      · replace hf := ite_p c4 hf
        refine sd_lload (i := 5) (q := 3) (pc' := 99) (by decide +kernel) rfl ?_
        obtain rfl := Option.some.inj hf
        exact sd_lret (by decide +kernel) rfl (hE _)
      · replace hf := ite_n c4 hf
        refine sd_aload_n (k := 0) (i := 0) (q := 0) (pc' := 50) (by decide +kernel) rfl rfl ?_
        refine sF_gr (idx := 21) (ci := 11) (k := 1) (n := 17) (r := 6) (pc' := 53) (by decide +kernel) fl_X11_21 (by decide +kernel) rfl SH_0 (by decide) (by decide +kernel) ?_
        refine sF_gi (idx := 153) (ci := 2) (k := 1) (n := 3) (pc' := 56) (by decide +kernel) fl_X11_153 (by decide +kernel) rfl SH_6 ?_
        refine sd_if_le (off := 41) (tgt := 97) (pc' := 59) (by decide +kernel) (fun c5 => ?_) (fun c5 => ?_)
        · replace hf := ite_p c5 hf
          refine sd_lload (i := 5) (q := 3) (pc' := 99) (by decide +kernel) rfl ?_
          obtain rfl := Option.some.inj hf
          exact sd_lret (by decide +kernel) rfl (hE _)
        · replace hf := ite_n c5 hf
          refine sd_iconst (n := 0) (v := 0) (pc' := 60) (by decide +kernel) (by decide) ?_
          refine sd_istore (i := 7) (pc' := 62) (lo' := [(7, .int 0), (0, .ref (G.1 + 0)), (3, .int l3), (4, .int l4), (5, .long l5)]) (by decide +kernel) (by decide) rfl ?_
          refine sd_J.sub (lo' := [(0, .ref (G.1 + 0)), (3, .int l3), (4, .int l4), (5, .long l5), (7, .int 0)]) [1, 2, 3, 4, 0] rfl ?_
          exact J_XT_withReference_L62 hE _ _ _ _ _ _ hf
    · replace hf := ite_n c1 hf
      refine sd_ldc2 (idx := 353) (v := 31) (pc' := 15) (by decide +kernel) (sd_mem (i := 1111) (by decide +kernel)) ?_
      refine sd_lload (i := 5) (q := 3) (pc' := 17) (by decide +kernel) rfl ?_
      refine sd_lmul (pc' := 18) (by decide +kernel) ?_
      refine sd_aload_n (k := 0) (i := 0) (q := 0) (pc' := 19) (by decide +kernel) rfl rfl ?_
      refine sd_iload_n (k := 3) (i := 3) (q := 1) (pc' := 20) (by decide +kernel) rfl rfl ?_
      refine sd_iload (i := 4) (q := 2) (pc' := 22) (by decide +kernel) rfl ?_
      refine sd_iload (i := 7) (q := 4) (pc' := 24) (by decide +kernel) rfl ?_
      obtain ⟨t11, q10, hf⟩ := b1_some hf
      refine sF_callV (idx := 384) (b := 0) (As := [.int l3, .int l4, .int l7]) (ci := 11) (nn := 17) (pc' := 27) 3 (T_XT_reference (G := G) (h := h)  q10) (by decide +kernel) mv_XT_reference ml_X11_384 (by decide +kernel) rfl rfl (Nat.le_of_ble_eq_true rfl) SH_0 rfl (by decide) rfl rfl ?_
      refine sd_i2l (pc' := 28) (by decide +kernel) rfl ?_
      refine sd_ladd (pc' := 29) (by decide +kernel) ?_
      refine sd_lstore (i := 5) (pc' := 31) (lo' := [(5, .long ((31 * l5) + (Int32.toInt64 t11))), (0, .ref (G.1 + 0)), (3, .int l3), (4, .int l4), (7, .int l7)]) (by decide +kernel) (by decide) rfl ?_
      refine sd_iinc (i := 7) (q := 4) (n := 1) (v := (l7 + 1)) (pc' := 34) (lo' := [(7, .int (l7 + 1)), (5, .long ((31 * l5) + (Int32.toInt64 t11))), (0, .ref (G.1 + 0)), (3, .int l3), (4, .int l4)]) (by decide +kernel) rfl rfl (by decide) rfl ?_
      refine sd_goto (off := -28) (tgt := 6) (pc' := 37) (by decide +kernel) ?_
      refine sd_J.sub (lo' := [(0, .ref (G.1 + 0)), (3, .int l3), (4, .int l4), (5, .long ((31 * l5) + (Int32.toInt64 t11))), (7, .int (l7 + 1))]) [2, 3, 4, 1, 0] rfl ?_
      exact ih _ _ _ _ _ hf
def XT_withReference (h : sd_H) (a0 : Int64) (a1 : Int32) (a2 : Int32) : Option (sd_H × Int64) :=
  XT_withReference_L6 FU h a1 a2 a0 0
set_option maxHeartbeats 4000000 in
set_option maxRecDepth 100000 in
theorem T_XT_withReference {G : sd_GX} {h : sd_H} {a0 : Int64} {a1 : Int32} {a2 : Int32} {r : (sd_H × Int64)} (hf : XT_withReference h a0 a1 a2 = some r) : sd_RunF G M_XT_withReference [.ref (G.1 + 0), .long a0, .int a1, .int a2] h (some (.long r.2)) r.1 := by
  refine sF_run ⟨rfl, rfl⟩ (by decide +kernel) (Nat.le_of_ble_eq_true rfl) (lo := [(0, .ref (G.1 + 0)), (1, .long a0), (3, .int a1), (4, .int a2)]) rfl (fun X hE => ?_)
  unfold XT_withReference at hf
  refine sd_lload_n (k := 1) (i := 1) (q := 1) (pc' := 1) (by decide +kernel) rfl rfl ?_
  refine sd_lstore (i := 5) (pc' := 3) (lo' := [(5, .long a0), (0, .ref (G.1 + 0)), (1, .long a0), (3, .int a1), (4, .int a2)]) (by decide +kernel) (by decide) rfl ?_
  refine sd_iconst (n := 0) (v := 0) (pc' := 4) (by decide +kernel) (by decide) ?_
  refine sd_istore (i := 7) (pc' := 6) (lo' := [(7, .int 0), (5, .long a0), (0, .ref (G.1 + 0)), (1, .long a0), (3, .int a1), (4, .int a2)]) (by decide +kernel) (by decide) rfl ?_
  refine sd_J.sub (lo' := [(0, .ref (G.1 + 0)), (3, .int a1), (4, .int a2), (5, .long a0), (7, .int 0)]) [2, 4, 5, 1, 0] rfl ?_
  exact J_XT_withReference_L6 hE _ _ _ _ _ _ hf

theorem ml_X11_381 : Cond.methodLink RX11 381 yX11_kinds ∈ sd_tb := sd_mem (i := 1124) (by decide +kernel)
theorem mv_XT_kinds : sd_mV M_XT_kinds 2 := ⟨sd_mem (i := 782) (by decide +kernel), sd_mem (i := 783) (by decide +kernel), ⟨sd_mem (i := 784) (by decide +kernel), sd_mem (i := 108) (by decide +kernel), by decide +kernel, by decide +kernel, by decide +kernel⟩⟩
theorem ml_X11_377 : Cond.methodLink RX11 377 yX11_withReference ∈ sd_tb := sd_mem (i := 1118) (by decide +kernel)
theorem mv_XT_withReference : sd_mV M_XT_withReference 3 := ⟨sd_mem (i := 1120) (by decide +kernel), sd_mem (i := 34) (by decide +kernel), ⟨sd_mem (i := 1121) (by decide +kernel), sd_mem (i := 108) (by decide +kernel), by decide +kernel, by decide +kernel, by decide +kernel⟩⟩
theorem ml_X11_374 : Cond.methodLink RX11 374 yX11_info ∈ sd_tb := sd_mem (i := 1117) (by decide +kernel)
theorem mv_XT_info : sd_mV M_XT_info 2 := ⟨sd_mem (i := 690) (by decide +kernel), sd_mem (i := 691) (by decide +kernel), ⟨sd_mem (i := 692) (by decide +kernel), sd_mem (i := 108) (by decide +kernel), by decide +kernel, by decide +kernel, by decide +kernel⟩⟩
def M_XT_withStatement : sd_MX := (yX11_withStatement, cX11_withStatement, 7, (some .long), { frames := 6, cells := 0, slots := 0, locals := 162 })
def XT_withStatement_L65 : Nat → sd_H → Int32 → Int64 → Int32 → Option (sd_H × Int64)
  | 0, _, _, _, _ => none
  | n + 1, h, l3, l4, l6 =>
  (if 6 ≤ l6 then some (h, l4) else b2 (XT_kinds h l3 l6) (fun h5 t6 => XT_withStatement_L65 n h5 l3 ((31 * l4) + (Int32.toInt64 t6)) (l6 + 1)))
set_option maxHeartbeats 4000000 in
set_option maxRecDepth 100000 in
theorem J_XT_withStatement_L65 {G : sd_GX} {X : sd_CX} (hE : ∀ g : sd_H, sd_end G X M_XT_withStatement (sd_F g))  {r : (sd_H × Int64)} : ∀ (n : Nat) (h : sd_H) (l3 : Int32) (l4 : Int64) (l6 : Int32), XT_withStatement_L65 n h l3 l4 l6 = some r → sd_J G X (sd_QR G X M_XT_withStatement (some (.long r.2), sd_F r.1)) M_XT_withStatement 65 [(0, .ref (G.1 + 0)), (3, .int l3), (4, .long l4), (6, .int l6)] [] (sd_F h) := by
  intro n
  induction n with
  | zero =>
    intro h l3 l4 l6 hf
    rw [XT_withStatement_L65] at hf
    cases hf
  | succ n ih =>
    intro h l3 l4 l6 hf
    rw [XT_withStatement_L65] at hf
    refine sd_iload (i := 6) (q := 3) (pc' := 67) (by decide +kernel) rfl ?_
    refine sd_bipush (n := 6) (v := 6) (pc' := 69) (by decide +kernel) (by decide) ?_
    refine sd_icmp_ge (off := 26) (tgt := 95) (pc' := 72) (by decide +kernel) (fun c3 => ?_) (fun c3 => ?_)
    · replace hf := ite_p c3 hf
      refine sd_lload (i := 4) (q := 2) (pc' := 97) (by decide +kernel) rfl ?_
      obtain rfl := Option.some.inj hf
      exact sd_lret (by decide +kernel) rfl (hE _)
    · replace hf := ite_n c3 hf
      refine sd_ldc2 (idx := 353) (v := 31) (pc' := 75) (by decide +kernel) (sd_mem (i := 1111) (by decide +kernel)) ?_
      refine sd_lload (i := 4) (q := 2) (pc' := 77) (by decide +kernel) rfl ?_
      refine sd_lmul (pc' := 78) (by decide +kernel) ?_
      refine sd_aload_n (k := 0) (i := 0) (q := 0) (pc' := 79) (by decide +kernel) rfl rfl ?_
      refine sd_iload_n (k := 3) (i := 3) (q := 1) (pc' := 80) (by decide +kernel) rfl rfl ?_
      refine sd_iload (i := 6) (q := 3) (pc' := 82) (by decide +kernel) rfl ?_
      obtain ⟨h5, t6, q4, hf⟩ := b2_some hf
      refine sF_callV (idx := 381) (b := 0) (As := [.int l3, .int l6]) (ci := 11) (nn := 17) (pc' := 85) 2 (T_XT_kinds (G := G) (h := h)  q4) (by decide +kernel) mv_XT_kinds ml_X11_381 (by decide +kernel) rfl rfl (Nat.le_of_ble_eq_true rfl) SH_0 rfl (by decide) rfl rfl ?_
      refine sd_i2l (pc' := 86) (by decide +kernel) rfl ?_
      refine sd_ladd (pc' := 87) (by decide +kernel) ?_
      refine sd_lstore (i := 4) (pc' := 89) (lo' := [(4, .long ((31 * l4) + (Int32.toInt64 t6))), (0, .ref (G.1 + 0)), (3, .int l3), (6, .int l6)]) (by decide +kernel) (by decide) rfl ?_
      refine sd_iinc (i := 6) (q := 3) (n := 1) (v := (l6 + 1)) (pc' := 92) (lo' := [(6, .int (l6 + 1)), (4, .long ((31 * l4) + (Int32.toInt64 t6))), (0, .ref (G.1 + 0)), (3, .int l3)]) (by decide +kernel) rfl rfl (by decide) rfl ?_
      refine sd_goto (off := -27) (tgt := 65) (pc' := 95) (by decide +kernel) ?_
      refine sd_J.sub (lo' := [(0, .ref (G.1 + 0)), (3, .int l3), (4, .long ((31 * l4) + (Int32.toInt64 t6))), (6, .int (l6 + 1))]) [2, 3, 1, 0] rfl ?_
      exact ih _ _ _ _ hf
def XT_withStatement_L39 : Nat → sd_H → Int32 → Int64 → Int32 → Option (sd_H × Int64)
  | 0, _, _, _, _ => none
  | n + 1, h, l3, l4, l6 =>
  (if 3 ≤ l6 then XT_withStatement_L65 FU h l3 l4 0 else b2 (XT_withReference h l4 l3 l6) (fun h8 t9 => XT_withStatement_L39 n h8 l3 t9 (l6 + 1)))
set_option maxHeartbeats 4000000 in
set_option maxRecDepth 100000 in
theorem J_XT_withStatement_L39 {G : sd_GX} {X : sd_CX} (hE : ∀ g : sd_H, sd_end G X M_XT_withStatement (sd_F g))  {r : (sd_H × Int64)} : ∀ (n : Nat) (h : sd_H) (l3 : Int32) (l4 : Int64) (l6 : Int32), XT_withStatement_L39 n h l3 l4 l6 = some r → sd_J G X (sd_QR G X M_XT_withStatement (some (.long r.2), sd_F r.1)) M_XT_withStatement 39 [(0, .ref (G.1 + 0)), (3, .int l3), (4, .long l4), (6, .int l6)] [] (sd_F h) := by
  intro n
  induction n with
  | zero =>
    intro h l3 l4 l6 hf
    rw [XT_withStatement_L39] at hf
    cases hf
  | succ n ih =>
    intro h l3 l4 l6 hf
    rw [XT_withStatement_L39] at hf
    refine sd_iload (i := 6) (q := 3) (pc' := 41) (by decide +kernel) rfl ?_
    refine sd_iconst (n := 3) (v := 3) (pc' := 42) (by decide +kernel) (by decide) ?_
    refine sd_icmp_ge (off := 20) (tgt := 62) (pc' := 45) (by decide +kernel) (fun c2 => ?_) (fun c2 => ?_)
    · replace hf := ite_p c2 hf
      refine sd_iconst (n := 0) (v := 0) (pc' := 63) (by decide +kernel) (by decide) ?_
      refine sd_istore (i := 6) (pc' := 65) (lo' := [(6, .int 0), (0, .ref (G.1 + 0)), (3, .int l3), (4, .long l4)]) (by decide +kernel) (by decide) rfl ?_
      refine sd_J.sub (lo' := [(0, .ref (G.1 + 0)), (3, .int l3), (4, .long l4), (6, .int 0)]) [1, 2, 3, 0] rfl ?_
      exact J_XT_withStatement_L65 hE _ _ _ _ _ hf
    · replace hf := ite_n c2 hf
      refine sd_aload_n (k := 0) (i := 0) (q := 0) (pc' := 46) (by decide +kernel) rfl rfl ?_
      refine sd_lload (i := 4) (q := 2) (pc' := 48) (by decide +kernel) rfl ?_
      refine sd_iload_n (k := 3) (i := 3) (q := 1) (pc' := 49) (by decide +kernel) rfl rfl ?_
      refine sd_iload (i := 6) (q := 3) (pc' := 51) (by decide +kernel) rfl ?_
      obtain ⟨h8, t9, q7, hf⟩ := b2_some hf
      refine sF_callV (idx := 377) (b := 0) (As := [.long l4, .int l3, .int l6]) (ci := 11) (nn := 17) (pc' := 54) 3 (T_XT_withReference (G := G) (h := h)  q7) (by decide +kernel) mv_XT_withReference ml_X11_377 (by decide +kernel) rfl rfl (Nat.le_of_ble_eq_true rfl) SH_0 rfl (by decide) rfl rfl ?_
      refine sd_lstore (i := 4) (pc' := 56) (lo' := [(4, .long t9), (0, .ref (G.1 + 0)), (3, .int l3), (6, .int l6)]) (by decide +kernel) (by decide) rfl ?_
      refine sd_iinc (i := 6) (q := 3) (n := 1) (v := (l6 + 1)) (pc' := 59) (lo' := [(6, .int (l6 + 1)), (4, .long t9), (0, .ref (G.1 + 0)), (3, .int l3)]) (by decide +kernel) rfl rfl (by decide) rfl ?_
      refine sd_goto (off := -20) (tgt := 39) (pc' := 62) (by decide +kernel) ?_
      refine sd_J.sub (lo' := [(0, .ref (G.1 + 0)), (3, .int l3), (4, .long t9), (6, .int (l6 + 1))]) [2, 3, 1, 0] rfl ?_
      exact ih _ _ _ _ hf
def XT_withStatement_L6 : Nat → sd_H → Int32 → Int64 → Int32 → Option (sd_H × Int64)
  | 0, _, _, _, _ => none
  | n + 1, h, l3, l4, l6 =>
  (if 6 < l6 then XT_withStatement_L39 FU h l3 l4 0 else b1 (XT_info h l3 l6) (fun t11 => XT_withStatement_L6 n h l3 ((31 * l4) + (Int32.toInt64 t11)) (l6 + 1)))
set_option maxHeartbeats 4000000 in
set_option maxRecDepth 100000 in
theorem J_XT_withStatement_L6 {G : sd_GX} {X : sd_CX} (hE : ∀ g : sd_H, sd_end G X M_XT_withStatement (sd_F g))  {r : (sd_H × Int64)} : ∀ (n : Nat) (h : sd_H) (l3 : Int32) (l4 : Int64) (l6 : Int32), XT_withStatement_L6 n h l3 l4 l6 = some r → sd_J G X (sd_QR G X M_XT_withStatement (some (.long r.2), sd_F r.1)) M_XT_withStatement 6 [(0, .ref (G.1 + 0)), (3, .int l3), (4, .long l4), (6, .int l6)] [] (sd_F h) := by
  intro n
  induction n with
  | zero =>
    intro h l3 l4 l6 hf
    rw [XT_withStatement_L6] at hf
    cases hf
  | succ n ih =>
    intro h l3 l4 l6 hf
    rw [XT_withStatement_L6] at hf
    refine sd_iload (i := 6) (q := 3) (pc' := 8) (by decide +kernel) rfl ?_
    refine sd_bipush (n := 6) (v := 6) (pc' := 10) (by decide +kernel) (by decide) ?_
    refine sd_icmp_gt (off := 26) (tgt := 36) (pc' := 13) (by decide +kernel) (fun c1 => ?_) (fun c1 => ?_)
    · replace hf := ite_p c1 hf
      refine sd_iconst (n := 0) (v := 0) (pc' := 37) (by decide +kernel) (by decide) ?_
      refine sd_istore (i := 6) (pc' := 39) (lo' := [(6, .int 0), (0, .ref (G.1 + 0)), (3, .int l3), (4, .long l4)]) (by decide +kernel) (by decide) rfl ?_
      refine sd_J.sub (lo' := [(0, .ref (G.1 + 0)), (3, .int l3), (4, .long l4), (6, .int 0)]) [1, 2, 3, 0] rfl ?_
      exact J_XT_withStatement_L39 hE _ _ _ _ _ hf
    · replace hf := ite_n c1 hf
      refine sd_ldc2 (idx := 353) (v := 31) (pc' := 16) (by decide +kernel) (sd_mem (i := 1111) (by decide +kernel)) ?_
      refine sd_lload (i := 4) (q := 2) (pc' := 18) (by decide +kernel) rfl ?_
      refine sd_lmul (pc' := 19) (by decide +kernel) ?_
      refine sd_aload_n (k := 0) (i := 0) (q := 0) (pc' := 20) (by decide +kernel) rfl rfl ?_
      refine sd_iload_n (k := 3) (i := 3) (q := 1) (pc' := 21) (by decide +kernel) rfl rfl ?_
      refine sd_iload (i := 6) (q := 3) (pc' := 23) (by decide +kernel) rfl ?_
      obtain ⟨t11, q10, hf⟩ := b1_some hf
      refine sF_callV (idx := 374) (b := 0) (As := [.int l3, .int l6]) (ci := 11) (nn := 17) (pc' := 26) 2 (T_XT_info (G := G) (h := h)  q10) (by decide +kernel) mv_XT_info ml_X11_374 (by decide +kernel) rfl rfl (Nat.le_of_ble_eq_true rfl) SH_0 rfl (by decide) rfl rfl ?_
      refine sd_i2l (pc' := 27) (by decide +kernel) rfl ?_
      refine sd_ladd (pc' := 28) (by decide +kernel) ?_
      refine sd_lstore (i := 4) (pc' := 30) (lo' := [(4, .long ((31 * l4) + (Int32.toInt64 t11))), (0, .ref (G.1 + 0)), (3, .int l3), (6, .int l6)]) (by decide +kernel) (by decide) rfl ?_
      refine sd_iinc (i := 6) (q := 3) (n := 1) (v := (l6 + 1)) (pc' := 33) (lo' := [(6, .int (l6 + 1)), (4, .long ((31 * l4) + (Int32.toInt64 t11))), (0, .ref (G.1 + 0)), (3, .int l3)]) (by decide +kernel) rfl rfl (by decide) rfl ?_
      refine sd_goto (off := -27) (tgt := 6) (pc' := 36) (by decide +kernel) ?_
      refine sd_J.sub (lo' := [(0, .ref (G.1 + 0)), (3, .int l3), (4, .long ((31 * l4) + (Int32.toInt64 t11))), (6, .int (l6 + 1))]) [2, 3, 1, 0] rfl ?_
      exact ih _ _ _ _ hf
def XT_withStatement (h : sd_H) (a0 : Int64) (a1 : Int32) : Option (sd_H × Int64) :=
  XT_withStatement_L6 FU h a1 a0 0
set_option maxHeartbeats 4000000 in
set_option maxRecDepth 100000 in
theorem T_XT_withStatement {G : sd_GX} {h : sd_H} {a0 : Int64} {a1 : Int32} {r : (sd_H × Int64)} (hf : XT_withStatement h a0 a1 = some r) : sd_RunF G M_XT_withStatement [.ref (G.1 + 0), .long a0, .int a1] h (some (.long r.2)) r.1 := by
  refine sF_run ⟨rfl, rfl⟩ (by decide +kernel) (Nat.le_of_ble_eq_true rfl) (lo := [(0, .ref (G.1 + 0)), (1, .long a0), (3, .int a1)]) rfl (fun X hE => ?_)
  unfold XT_withStatement at hf
  refine sd_lload_n (k := 1) (i := 1) (q := 1) (pc' := 1) (by decide +kernel) rfl rfl ?_
  refine sd_lstore (i := 4) (pc' := 3) (lo' := [(4, .long a0), (0, .ref (G.1 + 0)), (1, .long a0), (3, .int a1)]) (by decide +kernel) (by decide) rfl ?_
  refine sd_iconst (n := 0) (v := 0) (pc' := 4) (by decide +kernel) (by decide) ?_
  refine sd_istore (i := 6) (pc' := 6) (lo' := [(6, .int 0), (4, .long a0), (0, .ref (G.1 + 0)), (1, .long a0), (3, .int a1)]) (by decide +kernel) (by decide) rfl ?_
  refine sd_J.sub (lo' := [(0, .ref (G.1 + 0)), (3, .int a1), (4, .long a0), (6, .int 0)]) [2, 4, 1, 0] rfl ?_
  exact J_XT_withStatement_L6 hE _ _ _ _ _ hf

theorem ml_X11_390 : Cond.methodLink RX11 390 yX11_verdict ∈ sd_tb := sd_mem (i := 1129) (by decide +kernel)
theorem mv_XT_verdict : sd_mV M_XT_verdict 1 := ⟨sd_mem (i := 881) (by decide +kernel), sd_mem (i := 882) (by decide +kernel), ⟨sd_mem (i := 883) (by decide +kernel), sd_mem (i := 108) (by decide +kernel), by decide +kernel, by decide +kernel, by decide +kernel⟩⟩
theorem ml_X11_396 : Cond.methodLink RX11 396 yX11_many ∈ sd_tb := sd_mem (i := 1131) (by decide +kernel)
theorem mv_XT_many : sd_mV M_XT_many 3 := ⟨sd_mem (i := 817) (by decide +kernel), sd_mem (i := 818) (by decide +kernel), ⟨sd_mem (i := 819) (by decide +kernel), sd_mem (i := 108) (by decide +kernel), by decide +kernel, by decide +kernel, by decide +kernel⟩⟩
theorem ml_X11_399 : Cond.methodLink RX11 399 yX11_pieces ∈ sd_tb := sd_mem (i := 1132) (by decide +kernel)
theorem mv_XT_pieces : sd_mV M_XT_pieces 3 := ⟨sd_mem (i := 866) (by decide +kernel), sd_mem (i := 867) (by decide +kernel), ⟨sd_mem (i := 868) (by decide +kernel), sd_mem (i := 108) (by decide +kernel), by decide +kernel, by decide +kernel, by decide +kernel⟩⟩
theorem ml_X11_393 : Cond.methodLink RX11 393 yX11_witness ∈ sd_tb := sd_mem (i := 1130) (by decide +kernel)
theorem mv_XT_witness : sd_mV M_XT_witness 2 := ⟨sd_mem (i := 908) (by decide +kernel), sd_mem (i := 909) (by decide +kernel), ⟨sd_mem (i := 910) (by decide +kernel), sd_mem (i := 108) (by decide +kernel), by decide +kernel, by decide +kernel, by decide +kernel⟩⟩
def M_XT_withSets : sd_MX := (yX11_withSets, cX11_withSets, 8, (some .long), { frames := 6, cells := 0, slots := 0, locals := 162 })
def XT_withSets_L94 (K49 : sd_H → Int32 → Int64 → Int32 → Option (sd_H × Int64)) : Nat → sd_H → Int32 → Int64 → Int32 → Int32 → Option (sd_H × Int64)
  | 0, _, _, _, _, _ => none
  | n + 1, h, l3, l4, l6, l7 =>
  (if (h.1 6 1) ≤ l7 then K49 h l3 l4 (l6 + 1) else b2 (XT_many h l6 l3 l7) (fun h14 t15 => XT_withSets_L94 K49 n h14 l3 ((31 * l4) + (Int32.toInt64 t15)) l6 (l7 + 1)))
set_option maxHeartbeats 4000000 in
set_option maxRecDepth 100000 in
theorem J_XT_withSets_L94 {G : sd_GX} {X : sd_CX} (hE : ∀ g : sd_H, sd_end G X M_XT_withSets (sd_F g))  {K49 : sd_H → Int32 → Int64 → Int32 → Option (sd_H × Int64)} {r : (sd_H × Int64)} (hK49 : ∀ (g : sd_H) (l3 : Int32) (l4 : Int64) (l6 : Int32), K49 g l3 l4 l6 = some r → sd_J G X (sd_QR G X M_XT_withSets (some (.long r.2), sd_F r.1)) M_XT_withSets 49 [(0, .ref (G.1 + 0)), (3, .int l3), (4, .long l4), (6, .int l6)] [] (sd_F g)) : ∀ (n : Nat) (h : sd_H) (l3 : Int32) (l4 : Int64) (l6 : Int32) (l7 : Int32), XT_withSets_L94 K49 n h l3 l4 l6 l7 = some r → sd_J G X (sd_QR G X M_XT_withSets (some (.long r.2), sd_F r.1)) M_XT_withSets 94 [(0, .ref (G.1 + 0)), (3, .int l3), (4, .long l4), (6, .int l6), (7, .int l7)] [] (sd_F h) := by
  intro n
  induction n with
  | zero =>
    intro h l3 l4 l6 l7 hf
    rw [XT_withSets_L94] at hf
    cases hf
  | succ n ih =>
    intro h l3 l4 l6 l7 hf
    rw [XT_withSets_L94] at hf
    refine sd_iload (i := 7) (q := 4) (pc' := 96) (by decide +kernel) rfl ?_
    refine sd_aload_n (k := 0) (i := 0) (q := 0) (pc' := 97) (by decide +kernel) rfl rfl ?_
    refine sF_gr (idx := 21) (ci := 11) (k := 1) (n := 17) (r := 6) (pc' := 100) (by decide +kernel) fl_X11_21 (by decide +kernel) rfl SH_0 (by decide) (by decide +kernel) ?_
    refine sF_gi (idx := 153) (ci := 2) (k := 1) (n := 3) (pc' := 103) (by decide +kernel) fl_X11_153 (by decide +kernel) rfl SH_6 ?_
    refine sd_icmp_ge (off := 28) (tgt := 131) (pc' := 106) (by decide +kernel) (fun c12 => ?_) (fun c12 => ?_)
    · replace hf := ite_p c12 hf
      refine sd_iinc (i := 6) (q := 3) (n := 1) (v := (l6 + 1)) (pc' := 134) (lo' := [(6, .int (l6 + 1)), (0, .ref (G.1 + 0)), (3, .int l3), (4, .long l4), (7, .int l7)]) (by decide +kernel) rfl rfl (by decide) rfl ?_
      refine sd_goto (off := -85) (tgt := 49) (pc' := 137) (by decide +kernel) ?_
      refine sd_J.sub (lo' := [(0, .ref (G.1 + 0)), (3, .int l3), (4, .long l4), (6, .int (l6 + 1))]) [1, 2, 3, 0] rfl ?_
      exact hK49 _ _ _ _ hf
    · replace hf := ite_n c12 hf
      refine sd_ldc2 (idx := 353) (v := 31) (pc' := 109) (by decide +kernel) (sd_mem (i := 1111) (by decide +kernel)) ?_
      refine sd_lload (i := 4) (q := 2) (pc' := 111) (by decide +kernel) rfl ?_
      refine sd_lmul (pc' := 112) (by decide +kernel) ?_
      refine sd_aload_n (k := 0) (i := 0) (q := 0) (pc' := 113) (by decide +kernel) rfl rfl ?_
      refine sd_iload (i := 6) (q := 3) (pc' := 115) (by decide +kernel) rfl ?_
      refine sd_iload_n (k := 3) (i := 3) (q := 1) (pc' := 116) (by decide +kernel) rfl rfl ?_
      refine sd_iload (i := 7) (q := 4) (pc' := 118) (by decide +kernel) rfl ?_
      obtain ⟨h14, t15, q13, hf⟩ := b2_some hf
      refine sF_callV (idx := 396) (b := 0) (As := [.int l6, .int l3, .int l7]) (ci := 11) (nn := 17) (pc' := 121) 3 (T_XT_many (G := G) (h := h)  q13) (by decide +kernel) mv_XT_many ml_X11_396 (by decide +kernel) rfl rfl (Nat.le_of_ble_eq_true rfl) SH_0 rfl (by decide) rfl rfl ?_
      refine sd_i2l (pc' := 122) (by decide +kernel) rfl ?_
      refine sd_ladd (pc' := 123) (by decide +kernel) ?_
      refine sd_lstore (i := 4) (pc' := 125) (lo' := [(4, .long ((31 * l4) + (Int32.toInt64 t15))), (0, .ref (G.1 + 0)), (3, .int l3), (6, .int l6), (7, .int l7)]) (by decide +kernel) (by decide) rfl ?_
      refine sd_iinc (i := 7) (q := 4) (n := 1) (v := (l7 + 1)) (pc' := 128) (lo' := [(7, .int (l7 + 1)), (4, .long ((31 * l4) + (Int32.toInt64 t15))), (0, .ref (G.1 + 0)), (3, .int l3), (6, .int l6)]) (by decide +kernel) rfl rfl (by decide) rfl ?_
      refine sd_goto (off := -34) (tgt := 94) (pc' := 131) (by decide +kernel) ?_
      refine sd_J.sub (lo' := [(0, .ref (G.1 + 0)), (3, .int l3), (4, .long ((31 * l4) + (Int32.toInt64 t15))), (6, .int l6), (7, .int (l7 + 1))]) [2, 3, 1, 4, 0] rfl ?_
      exact ih _ _ _ _ _ hf
def XT_withSets_L49 : Nat → sd_H → Int32 → Int64 → Int32 → Option (sd_H × Int64)
  | 0, _, _, _, _ => none
  | n + 1, h, l3, l4, l6 =>
  (if 4 ≤ l6 then some (h, l4) else b2 (XT_many h l6 l3 (-1)) (fun h7 t8 => b2 (XT_pieces h7 l6 l3 (-1)) (fun h10 t11 => XT_withSets_L94 (XT_withSets_L49 n) FU h10 l3 ((31 * ((31 * l4) + (Int32.toInt64 t8))) + (Int32.toInt64 t11)) l6 0)))
set_option maxHeartbeats 4000000 in
set_option maxRecDepth 100000 in
theorem J_XT_withSets_L49 {G : sd_GX} {X : sd_CX} (hE : ∀ g : sd_H, sd_end G X M_XT_withSets (sd_F g))  {r : (sd_H × Int64)} : ∀ (n : Nat) (h : sd_H) (l3 : Int32) (l4 : Int64) (l6 : Int32), XT_withSets_L49 n h l3 l4 l6 = some r → sd_J G X (sd_QR G X M_XT_withSets (some (.long r.2), sd_F r.1)) M_XT_withSets 49 [(0, .ref (G.1 + 0)), (3, .int l3), (4, .long l4), (6, .int l6)] [] (sd_F h) := by
  intro n
  induction n with
  | zero =>
    intro h l3 l4 l6 hf
    rw [XT_withSets_L49] at hf
    cases hf
  | succ n ih =>
    intro h l3 l4 l6 hf
    rw [XT_withSets_L49] at hf
    refine sd_iload (i := 6) (q := 3) (pc' := 51) (by decide +kernel) rfl ?_
    refine sd_iconst (n := 4) (v := 4) (pc' := 52) (by decide +kernel) (by decide) ?_
    refine sd_icmp_ge (off := 85) (tgt := 137) (pc' := 55) (by decide +kernel) (fun c5 => ?_) (fun c5 => ?_)
    · replace hf := ite_p c5 hf
      refine sd_lload (i := 4) (q := 2) (pc' := 139) (by decide +kernel) rfl ?_
      obtain rfl := Option.some.inj hf
      exact sd_lret (by decide +kernel) rfl (hE _)
    · replace hf := ite_n c5 hf
      refine sd_ldc2 (idx := 353) (v := 31) (pc' := 58) (by decide +kernel) (sd_mem (i := 1111) (by decide +kernel)) ?_
      refine sd_lload (i := 4) (q := 2) (pc' := 60) (by decide +kernel) rfl ?_
      refine sd_lmul (pc' := 61) (by decide +kernel) ?_
      refine sd_aload_n (k := 0) (i := 0) (q := 0) (pc' := 62) (by decide +kernel) rfl rfl ?_
      refine sd_iload (i := 6) (q := 3) (pc' := 64) (by decide +kernel) rfl ?_
      refine sd_iload_n (k := 3) (i := 3) (q := 1) (pc' := 65) (by decide +kernel) rfl rfl ?_
      refine sd_iconst (n := -1) (v := (-1)) (pc' := 66) (by decide +kernel) (by decide) ?_
      obtain ⟨h7, t8, q6, hf⟩ := b2_some hf
      refine sF_callV (idx := 396) (b := 0) (As := [.int l6, .int l3, .int (-1)]) (ci := 11) (nn := 17) (pc' := 69) 3 (T_XT_many (G := G) (h := h)  q6) (by decide +kernel) mv_XT_many ml_X11_396 (by decide +kernel) rfl rfl (Nat.le_of_ble_eq_true rfl) SH_0 rfl (by decide) rfl rfl ?_
      refine sd_i2l (pc' := 70) (by decide +kernel) rfl ?_
      refine sd_ladd (pc' := 71) (by decide +kernel) ?_
      refine sd_lstore (i := 4) (pc' := 73) (lo' := [(4, .long ((31 * l4) + (Int32.toInt64 t8))), (0, .ref (G.1 + 0)), (3, .int l3), (6, .int l6)]) (by decide +kernel) (by decide) rfl ?_
      refine sd_ldc2 (idx := 353) (v := 31) (pc' := 76) (by decide +kernel) (sd_mem (i := 1111) (by decide +kernel)) ?_
      refine sd_lload (i := 4) (q := 0) (pc' := 78) (by decide +kernel) rfl ?_
      refine sd_lmul (pc' := 79) (by decide +kernel) ?_
      refine sd_aload_n (k := 0) (i := 0) (q := 1) (pc' := 80) (by decide +kernel) rfl rfl ?_
      refine sd_iload (i := 6) (q := 3) (pc' := 82) (by decide +kernel) rfl ?_
      refine sd_iload_n (k := 3) (i := 3) (q := 2) (pc' := 83) (by decide +kernel) rfl rfl ?_
      refine sd_iconst (n := -1) (v := (-1)) (pc' := 84) (by decide +kernel) (by decide) ?_
      obtain ⟨h10, t11, q9, hf⟩ := b2_some hf
      refine sF_callV (idx := 399) (b := 0) (As := [.int l6, .int l3, .int (-1)]) (ci := 11) (nn := 17) (pc' := 87) 3 (T_XT_pieces (G := G) (h := h7)  q9) (by decide +kernel) mv_XT_pieces ml_X11_399 (by decide +kernel) rfl rfl (Nat.le_of_ble_eq_true rfl) SH_0 rfl (by decide) rfl rfl ?_
      refine sd_i2l (pc' := 88) (by decide +kernel) rfl ?_
      refine sd_ladd (pc' := 89) (by decide +kernel) ?_
      refine sd_lstore (i := 4) (pc' := 91) (lo' := [(4, .long ((31 * ((31 * l4) + (Int32.toInt64 t8))) + (Int32.toInt64 t11))), (0, .ref (G.1 + 0)), (3, .int l3), (6, .int l6)]) (by decide +kernel) (by decide) rfl ?_
      refine sd_iconst (n := 0) (v := 0) (pc' := 92) (by decide +kernel) (by decide) ?_
      refine sd_istore (i := 7) (pc' := 94) (lo' := [(7, .int 0), (4, .long ((31 * ((31 * l4) + (Int32.toInt64 t8))) + (Int32.toInt64 t11))), (0, .ref (G.1 + 0)), (3, .int l3), (6, .int l6)]) (by decide +kernel) (by decide) rfl ?_
      refine sd_J.sub (lo' := [(0, .ref (G.1 + 0)), (3, .int l3), (4, .long ((31 * ((31 * l4) + (Int32.toInt64 t8))) + (Int32.toInt64 t11))), (6, .int l6), (7, .int 0)]) [2, 3, 1, 4, 0] rfl ?_
      exact J_XT_withSets_L94 hE ih _ _ _ _ _ _ hf
def XT_withSets_L17 : Nat → sd_H → Int32 → Int64 → Int32 → Option (sd_H × Int64)
  | 0, _, _, _, _ => none
  | n + 1, h, l3, l4, l6 =>
  (if 2 < l6 then XT_withSets_L49 FU h l3 l4 0 else b2 (XT_witness h l3 l6) (fun h17 t18 => XT_withSets_L17 n h17 l3 ((31 * l4) + (Int32.toInt64 t18)) (l6 + 1)))
set_option maxHeartbeats 4000000 in
set_option maxRecDepth 100000 in
theorem J_XT_withSets_L17 {G : sd_GX} {X : sd_CX} (hE : ∀ g : sd_H, sd_end G X M_XT_withSets (sd_F g))  {r : (sd_H × Int64)} : ∀ (n : Nat) (h : sd_H) (l3 : Int32) (l4 : Int64) (l6 : Int32), XT_withSets_L17 n h l3 l4 l6 = some r → sd_J G X (sd_QR G X M_XT_withSets (some (.long r.2), sd_F r.1)) M_XT_withSets 17 [(0, .ref (G.1 + 0)), (3, .int l3), (4, .long l4), (6, .int l6)] [] (sd_F h) := by
  intro n
  induction n with
  | zero =>
    intro h l3 l4 l6 hf
    rw [XT_withSets_L17] at hf
    cases hf
  | succ n ih =>
    intro h l3 l4 l6 hf
    rw [XT_withSets_L17] at hf
    refine sd_iload (i := 6) (q := 3) (pc' := 19) (by decide +kernel) rfl ?_
    refine sd_iconst (n := 2) (v := 2) (pc' := 20) (by decide +kernel) (by decide) ?_
    refine sd_icmp_gt (off := 26) (tgt := 46) (pc' := 23) (by decide +kernel) (fun c4 => ?_) (fun c4 => ?_)
    · replace hf := ite_p c4 hf
      refine sd_iconst (n := 0) (v := 0) (pc' := 47) (by decide +kernel) (by decide) ?_
      refine sd_istore (i := 6) (pc' := 49) (lo' := [(6, .int 0), (0, .ref (G.1 + 0)), (3, .int l3), (4, .long l4)]) (by decide +kernel) (by decide) rfl ?_
      refine sd_J.sub (lo' := [(0, .ref (G.1 + 0)), (3, .int l3), (4, .long l4), (6, .int 0)]) [1, 2, 3, 0] rfl ?_
      exact J_XT_withSets_L49 hE _ _ _ _ _ hf
    · replace hf := ite_n c4 hf
      refine sd_ldc2 (idx := 353) (v := 31) (pc' := 26) (by decide +kernel) (sd_mem (i := 1111) (by decide +kernel)) ?_
      refine sd_lload (i := 4) (q := 2) (pc' := 28) (by decide +kernel) rfl ?_
      refine sd_lmul (pc' := 29) (by decide +kernel) ?_
      refine sd_aload_n (k := 0) (i := 0) (q := 0) (pc' := 30) (by decide +kernel) rfl rfl ?_
      refine sd_iload_n (k := 3) (i := 3) (q := 1) (pc' := 31) (by decide +kernel) rfl rfl ?_
      refine sd_iload (i := 6) (q := 3) (pc' := 33) (by decide +kernel) rfl ?_
      obtain ⟨h17, t18, q16, hf⟩ := b2_some hf
      refine sF_callV (idx := 393) (b := 0) (As := [.int l3, .int l6]) (ci := 11) (nn := 17) (pc' := 36) 2 (T_XT_witness (G := G) (h := h)  q16) (by decide +kernel) mv_XT_witness ml_X11_393 (by decide +kernel) rfl rfl (Nat.le_of_ble_eq_true rfl) SH_0 rfl (by decide) rfl rfl ?_
      refine sd_i2l (pc' := 37) (by decide +kernel) rfl ?_
      refine sd_ladd (pc' := 38) (by decide +kernel) ?_
      refine sd_lstore (i := 4) (pc' := 40) (lo' := [(4, .long ((31 * l4) + (Int32.toInt64 t18))), (0, .ref (G.1 + 0)), (3, .int l3), (6, .int l6)]) (by decide +kernel) (by decide) rfl ?_
      refine sd_iinc (i := 6) (q := 3) (n := 1) (v := (l6 + 1)) (pc' := 43) (lo' := [(6, .int (l6 + 1)), (4, .long ((31 * l4) + (Int32.toInt64 t18))), (0, .ref (G.1 + 0)), (3, .int l3)]) (by decide +kernel) rfl rfl (by decide) rfl ?_
      refine sd_goto (off := -26) (tgt := 17) (pc' := 46) (by decide +kernel) ?_
      refine sd_J.sub (lo' := [(0, .ref (G.1 + 0)), (3, .int l3), (4, .long ((31 * l4) + (Int32.toInt64 t18))), (6, .int (l6 + 1))]) [2, 3, 1, 0] rfl ?_
      exact ih _ _ _ _ hf
def XT_withSets (h : sd_H) (a0 : Int64) (a1 : Int32) : Option (sd_H × Int64) :=
  b2 (XT_verdict h a1) (fun h2 t3 => XT_withSets_L17 FU h2 a1 ((31 * a0) + (Int32.toInt64 t3)) 0)
set_option maxHeartbeats 4000000 in
set_option maxRecDepth 100000 in
theorem T_XT_withSets {G : sd_GX} {h : sd_H} {a0 : Int64} {a1 : Int32} {r : (sd_H × Int64)} (hf : XT_withSets h a0 a1 = some r) : sd_RunF G M_XT_withSets [.ref (G.1 + 0), .long a0, .int a1] h (some (.long r.2)) r.1 := by
  refine sF_run ⟨rfl, rfl⟩ (by decide +kernel) (Nat.le_of_ble_eq_true rfl) (lo := [(0, .ref (G.1 + 0)), (1, .long a0), (3, .int a1)]) rfl (fun X hE => ?_)
  unfold XT_withSets at hf
  refine sd_ldc2 (idx := 353) (v := 31) (pc' := 3) (by decide +kernel) (sd_mem (i := 1111) (by decide +kernel)) ?_
  refine sd_lload_n (k := 1) (i := 1) (q := 1) (pc' := 4) (by decide +kernel) rfl rfl ?_
  refine sd_lmul (pc' := 5) (by decide +kernel) ?_
  refine sd_aload_n (k := 0) (i := 0) (q := 0) (pc' := 6) (by decide +kernel) rfl rfl ?_
  refine sd_iload_n (k := 3) (i := 3) (q := 2) (pc' := 7) (by decide +kernel) rfl rfl ?_
  obtain ⟨h2, t3, q1, hf⟩ := b2_some hf
  refine sF_callV (idx := 390) (b := 0) (As := [.int a1]) (ci := 11) (nn := 17) (pc' := 10) 1 (T_XT_verdict (G := G) (h := h)  q1) (by decide +kernel) mv_XT_verdict ml_X11_390 (by decide +kernel) rfl rfl (Nat.le_of_ble_eq_true rfl) SH_0 rfl (by decide) rfl rfl ?_
  refine sd_i2l (pc' := 11) (by decide +kernel) rfl ?_
  refine sd_ladd (pc' := 12) (by decide +kernel) ?_
  refine sd_lstore (i := 4) (pc' := 14) (lo' := [(4, .long ((31 * a0) + (Int32.toInt64 t3))), (0, .ref (G.1 + 0)), (1, .long a0), (3, .int a1)]) (by decide +kernel) (by decide) rfl ?_
  refine sd_iconst (n := 0) (v := 0) (pc' := 15) (by decide +kernel) (by decide) ?_
  refine sd_istore (i := 6) (pc' := 17) (lo' := [(6, .int 0), (4, .long ((31 * a0) + (Int32.toInt64 t3))), (0, .ref (G.1 + 0)), (1, .long a0), (3, .int a1)]) (by decide +kernel) (by decide) rfl ?_
  refine sd_J.sub (lo' := [(0, .ref (G.1 + 0)), (3, .int a1), (4, .long ((31 * a0) + (Int32.toInt64 t3))), (6, .int 0)]) [2, 4, 1, 0] rfl ?_
  exact J_XT_withSets_L17 hE _ _ _ _ _ hf

theorem ml_X11_402 : Cond.methodLink RX11 402 yX11_get ∈ sd_tb := sd_mem (i := 1137) (by decide +kernel)
theorem mv_XT_get : sd_mV M_XT_get 2 := ⟨sd_mem (i := 516) (by decide +kernel), sd_mem (i := 517) (by decide +kernel), ⟨sd_mem (i := 518) (by decide +kernel), sd_mem (i := 108) (by decide +kernel), by decide +kernel, by decide +kernel, by decide +kernel⟩⟩
theorem ml_X11_406 : Cond.methodLink RX11 406 yX11_writer ∈ sd_tb := sd_mem (i := 1138) (by decide +kernel)
theorem mv_XT_writer : sd_mV M_XT_writer 2 := ⟨sd_mem (i := 1094) (by decide +kernel), sd_mem (i := 1095) (by decide +kernel), ⟨sd_mem (i := 1096) (by decide +kernel), sd_mem (i := 108) (by decide +kernel), by decide +kernel, by decide +kernel, by decide +kernel⟩⟩
theorem ml_X11_409 : Cond.methodLink RX11 409 yX11_last ∈ sd_tb := sd_mem (i := 1139) (by decide +kernel)
theorem mv_XT_last : sd_mV M_XT_last 3 := ⟨sd_mem (i := 922) (by decide +kernel), sd_mem (i := 923) (by decide +kernel), ⟨sd_mem (i := 924) (by decide +kernel), sd_mem (i := 108) (by decide +kernel), by decide +kernel, by decide +kernel, by decide +kernel⟩⟩
def M_XT_withCells : sd_MX := (yX11_withCells, cX11_withCells, 7, (some .long), { frames := 6, cells := 0, slots := 0, locals := 160 })
def XT_withCells_L6 : Nat → sd_H → Int32 → Int64 → Int32 → Option (sd_H × Int64)
  | 0, _, _, _, _ => none
  | n + 1, h, l3, l4, l6 =>
  gd (sd_inB l3 6) ((if (h.1 3 (l3 : Int32).toNatClampNeg) ≤ l6 then some (h, l4) else b2 (XT_get h l3 l6) (fun h4 t5 => b2 (XT_writer h4 l3 l6) (fun h7 t8 => b2 (XT_last h7 1 l3 l6) (fun h10 t11 => b2 (XT_last h10 2 l3 l6) (fun h13 t14 => XT_withCells_L6 n h13 l3 ((31 * ((31 * ((31 * ((31 * l4) + t5)) + (Int32.toInt64 t8))) + (Int32.toInt64 t11))) + (Int32.toInt64 t14)) (l6 + 1)))))))
set_option maxHeartbeats 4000000 in
set_option maxRecDepth 100000 in
theorem J_XT_withCells_L6 {G : sd_GX} {X : sd_CX} (hE : ∀ g : sd_H, sd_end G X M_XT_withCells (sd_F g))  {r : (sd_H × Int64)} : ∀ (n : Nat) (h : sd_H) (l3 : Int32) (l4 : Int64) (l6 : Int32), XT_withCells_L6 n h l3 l4 l6 = some r → sd_J G X (sd_QR G X M_XT_withCells (some (.long r.2), sd_F r.1)) M_XT_withCells 6 [(0, .ref (G.1 + 0)), (3, .int l3), (4, .long l4), (6, .int l6)] [] (sd_F h) := by
  intro n
  induction n with
  | zero =>
    intro h l3 l4 l6 hf
    rw [XT_withCells_L6] at hf
    cases hf
  | succ n ih =>
    intro h l3 l4 l6 hf
    rw [XT_withCells_L6] at hf
    refine sd_iload (i := 6) (q := 3) (pc' := 8) (by decide +kernel) rfl ?_
    refine sd_aload_n (k := 0) (i := 0) (q := 0) (pc' := 9) (by decide +kernel) rfl rfl ?_
    refine sF_gr (idx := 12) (ci := 11) (k := 0) (n := 17) (r := 1) (pc' := 12) (by decide +kernel) fl_X11_12 (by decide +kernel) rfl SH_0 (by decide) (by decide +kernel) ?_
    refine sF_gr (idx := 116) (ci := 6) (k := 1) (n := 4) (r := 3) (pc' := 15) (by decide +kernel) fl_X11_116 (by decide +kernel) rfl SH_1 (by decide) (by decide +kernel) ?_
    refine sd_iload_n (k := 3) (i := 3) (q := 1) (pc' := 16) (by decide +kernel) rfl rfl ?_
    obtain ⟨g1, hf⟩ := gd_some hf
    refine sF_iald (n := 6) (pc' := 17) (by decide +kernel) SH_3 g1 ?_
    refine sd_icmp_ge (off := 78) (tgt := 95) (pc' := 20) (by decide +kernel) (fun c2 => ?_) (fun c2 => ?_)
    · replace hf := ite_p c2 hf
      refine sd_lload (i := 4) (q := 2) (pc' := 97) (by decide +kernel) rfl ?_
      obtain rfl := Option.some.inj hf
      exact sd_lret (by decide +kernel) rfl (hE _)
    · replace hf := ite_n c2 hf
      refine sd_ldc2 (idx := 353) (v := 31) (pc' := 23) (by decide +kernel) (sd_mem (i := 1111) (by decide +kernel)) ?_
      refine sd_lload (i := 4) (q := 2) (pc' := 25) (by decide +kernel) rfl ?_
      refine sd_lmul (pc' := 26) (by decide +kernel) ?_
      refine sd_aload_n (k := 0) (i := 0) (q := 0) (pc' := 27) (by decide +kernel) rfl rfl ?_
      refine sd_iload_n (k := 3) (i := 3) (q := 1) (pc' := 28) (by decide +kernel) rfl rfl ?_
      refine sd_iload (i := 6) (q := 3) (pc' := 30) (by decide +kernel) rfl ?_
      obtain ⟨h4, t5, q3, hf⟩ := b2_some hf
      refine sF_callV (idx := 402) (b := 0) (As := [.int l3, .int l6]) (ci := 11) (nn := 17) (pc' := 33) 2 (T_XT_get (G := G) (h := h)  q3) (by decide +kernel) mv_XT_get ml_X11_402 (by decide +kernel) rfl rfl (Nat.le_of_ble_eq_true rfl) SH_0 rfl (by decide) rfl rfl ?_
      refine sd_ladd (pc' := 34) (by decide +kernel) ?_
      refine sd_lstore (i := 4) (pc' := 36) (lo' := [(4, .long ((31 * l4) + t5)), (0, .ref (G.1 + 0)), (3, .int l3), (6, .int l6)]) (by decide +kernel) (by decide) rfl ?_
      refine sd_ldc2 (idx := 353) (v := 31) (pc' := 39) (by decide +kernel) (sd_mem (i := 1111) (by decide +kernel)) ?_
      refine sd_lload (i := 4) (q := 0) (pc' := 41) (by decide +kernel) rfl ?_
      refine sd_lmul (pc' := 42) (by decide +kernel) ?_
      refine sd_aload_n (k := 0) (i := 0) (q := 1) (pc' := 43) (by decide +kernel) rfl rfl ?_
      refine sd_iload_n (k := 3) (i := 3) (q := 2) (pc' := 44) (by decide +kernel) rfl rfl ?_
      refine sd_iload (i := 6) (q := 3) (pc' := 46) (by decide +kernel) rfl ?_
      obtain ⟨h7, t8, q6, hf⟩ := b2_some hf
      refine sF_callV (idx := 406) (b := 0) (As := [.int l3, .int l6]) (ci := 11) (nn := 17) (pc' := 49) 2 (T_XT_writer (G := G) (h := h4)  q6) (by decide +kernel) mv_XT_writer ml_X11_406 (by decide +kernel) rfl rfl (Nat.le_of_ble_eq_true rfl) SH_0 rfl (by decide) rfl rfl ?_
      refine sd_i2l (pc' := 50) (by decide +kernel) rfl ?_
      refine sd_ladd (pc' := 51) (by decide +kernel) ?_
      refine sd_lstore (i := 4) (pc' := 53) (lo' := [(4, .long ((31 * ((31 * l4) + t5)) + (Int32.toInt64 t8))), (0, .ref (G.1 + 0)), (3, .int l3), (6, .int l6)]) (by decide +kernel) (by decide) rfl ?_
      refine sd_ldc2 (idx := 353) (v := 31) (pc' := 56) (by decide +kernel) (sd_mem (i := 1111) (by decide +kernel)) ?_
      refine sd_lload (i := 4) (q := 0) (pc' := 58) (by decide +kernel) rfl ?_
      refine sd_lmul (pc' := 59) (by decide +kernel) ?_
      refine sd_aload_n (k := 0) (i := 0) (q := 1) (pc' := 60) (by decide +kernel) rfl rfl ?_
      refine sd_iconst (n := 1) (v := 1) (pc' := 61) (by decide +kernel) (by decide) ?_
      refine sd_iload_n (k := 3) (i := 3) (q := 2) (pc' := 62) (by decide +kernel) rfl rfl ?_
      refine sd_iload (i := 6) (q := 3) (pc' := 64) (by decide +kernel) rfl ?_
      obtain ⟨h10, t11, q9, hf⟩ := b2_some hf
      refine sF_callV (idx := 409) (b := 0) (As := [.int 1, .int l3, .int l6]) (ci := 11) (nn := 17) (pc' := 67) 3 (T_XT_last (G := G) (h := h7)  q9) (by decide +kernel) mv_XT_last ml_X11_409 (by decide +kernel) rfl rfl (Nat.le_of_ble_eq_true rfl) SH_0 rfl (by decide) rfl rfl ?_
      refine sd_i2l (pc' := 68) (by decide +kernel) rfl ?_
      refine sd_ladd (pc' := 69) (by decide +kernel) ?_
      refine sd_lstore (i := 4) (pc' := 71) (lo' := [(4, .long ((31 * ((31 * ((31 * l4) + t5)) + (Int32.toInt64 t8))) + (Int32.toInt64 t11))), (0, .ref (G.1 + 0)), (3, .int l3), (6, .int l6)]) (by decide +kernel) (by decide) rfl ?_
      refine sd_ldc2 (idx := 353) (v := 31) (pc' := 74) (by decide +kernel) (sd_mem (i := 1111) (by decide +kernel)) ?_
      refine sd_lload (i := 4) (q := 0) (pc' := 76) (by decide +kernel) rfl ?_
      refine sd_lmul (pc' := 77) (by decide +kernel) ?_
      refine sd_aload_n (k := 0) (i := 0) (q := 1) (pc' := 78) (by decide +kernel) rfl rfl ?_
      refine sd_iconst (n := 2) (v := 2) (pc' := 79) (by decide +kernel) (by decide) ?_
      refine sd_iload_n (k := 3) (i := 3) (q := 2) (pc' := 80) (by decide +kernel) rfl rfl ?_
      refine sd_iload (i := 6) (q := 3) (pc' := 82) (by decide +kernel) rfl ?_
      obtain ⟨h13, t14, q12, hf⟩ := b2_some hf
      refine sF_callV (idx := 409) (b := 0) (As := [.int 2, .int l3, .int l6]) (ci := 11) (nn := 17) (pc' := 85) 3 (T_XT_last (G := G) (h := h10)  q12) (by decide +kernel) mv_XT_last ml_X11_409 (by decide +kernel) rfl rfl (Nat.le_of_ble_eq_true rfl) SH_0 rfl (by decide) rfl rfl ?_
      refine sd_i2l (pc' := 86) (by decide +kernel) rfl ?_
      refine sd_ladd (pc' := 87) (by decide +kernel) ?_
      refine sd_lstore (i := 4) (pc' := 89) (lo' := [(4, .long ((31 * ((31 * ((31 * ((31 * l4) + t5)) + (Int32.toInt64 t8))) + (Int32.toInt64 t11))) + (Int32.toInt64 t14))), (0, .ref (G.1 + 0)), (3, .int l3), (6, .int l6)]) (by decide +kernel) (by decide) rfl ?_
      refine sd_iinc (i := 6) (q := 3) (n := 1) (v := (l6 + 1)) (pc' := 92) (lo' := [(6, .int (l6 + 1)), (4, .long ((31 * ((31 * ((31 * ((31 * l4) + t5)) + (Int32.toInt64 t8))) + (Int32.toInt64 t11))) + (Int32.toInt64 t14))), (0, .ref (G.1 + 0)), (3, .int l3)]) (by decide +kernel) rfl rfl (by decide) rfl ?_
      refine sd_goto (off := -86) (tgt := 6) (pc' := 95) (by decide +kernel) ?_
      refine sd_J.sub (lo' := [(0, .ref (G.1 + 0)), (3, .int l3), (4, .long ((31 * ((31 * ((31 * ((31 * l4) + t5)) + (Int32.toInt64 t8))) + (Int32.toInt64 t11))) + (Int32.toInt64 t14))), (6, .int (l6 + 1))]) [2, 3, 1, 0] rfl ?_
      exact ih _ _ _ _ hf
def XT_withCells (h : sd_H) (a0 : Int64) (a1 : Int32) : Option (sd_H × Int64) :=
  XT_withCells_L6 FU h a1 a0 0
set_option maxHeartbeats 4000000 in
set_option maxRecDepth 100000 in
theorem T_XT_withCells {G : sd_GX} {h : sd_H} {a0 : Int64} {a1 : Int32} {r : (sd_H × Int64)} (hf : XT_withCells h a0 a1 = some r) : sd_RunF G M_XT_withCells [.ref (G.1 + 0), .long a0, .int a1] h (some (.long r.2)) r.1 := by
  refine sF_run ⟨rfl, rfl⟩ (by decide +kernel) (Nat.le_of_ble_eq_true rfl) (lo := [(0, .ref (G.1 + 0)), (1, .long a0), (3, .int a1)]) rfl (fun X hE => ?_)
  unfold XT_withCells at hf
  refine sd_lload_n (k := 1) (i := 1) (q := 1) (pc' := 1) (by decide +kernel) rfl rfl ?_
  refine sd_lstore (i := 4) (pc' := 3) (lo' := [(4, .long a0), (0, .ref (G.1 + 0)), (1, .long a0), (3, .int a1)]) (by decide +kernel) (by decide) rfl ?_
  refine sd_iconst (n := 0) (v := 0) (pc' := 4) (by decide +kernel) (by decide) ?_
  refine sd_istore (i := 6) (pc' := 6) (lo' := [(6, .int 0), (4, .long a0), (0, .ref (G.1 + 0)), (1, .long a0), (3, .int a1)]) (by decide +kernel) (by decide) rfl ?_
  refine sd_J.sub (lo' := [(0, .ref (G.1 + 0)), (3, .int a1), (4, .long a0), (6, .int 0)]) [2, 4, 1, 0] rfl ?_
  exact J_XT_withCells_L6 hE _ _ _ _ _ hf

theorem ml_X11_371 : Cond.methodLink RX11 371 yX11_ended ∈ sd_tb := sd_mem (i := 1141) (by decide +kernel)
theorem mv_XT_ended : sd_mV M_XT_ended 1 := ⟨sd_mem (i := 1090) (by decide +kernel), sd_mem (i := 1091) (by decide +kernel), ⟨sd_mem (i := 1092) (by decide +kernel), sd_mem (i := 108) (by decide +kernel), by decide +kernel, by decide +kernel, by decide +kernel⟩⟩
theorem ml_X11_368 : Cond.methodLink RX11 368 yX11_faults ∈ sd_tb := sd_mem (i := 1140) (by decide +kernel)
theorem mv_XT_faults : sd_mV M_XT_faults 1 := ⟨sd_mem (i := 1086) (by decide +kernel), sd_mem (i := 1087) (by decide +kernel), ⟨sd_mem (i := 1088) (by decide +kernel), sd_mem (i := 108) (by decide +kernel), by decide +kernel, by decide +kernel, by decide +kernel⟩⟩
theorem ml_X11_365 : Cond.methodLink RX11 365 yX11_withCells ∈ sd_tb := sd_mem (i := 1133) (by decide +kernel)
theorem mv_XT_withCells : sd_mV M_XT_withCells 2 := ⟨sd_mem (i := 1135) (by decide +kernel), sd_mem (i := 36) (by decide +kernel), ⟨sd_mem (i := 1136) (by decide +kernel), sd_mem (i := 108) (by decide +kernel), by decide +kernel, by decide +kernel, by decide +kernel⟩⟩
theorem ml_X11_362 : Cond.methodLink RX11 362 yX11_withSets ∈ sd_tb := sd_mem (i := 1125) (by decide +kernel)
theorem mv_XT_withSets : sd_mV M_XT_withSets 2 := ⟨sd_mem (i := 1127) (by decide +kernel), sd_mem (i := 35) (by decide +kernel), ⟨sd_mem (i := 1128) (by decide +kernel), sd_mem (i := 108) (by decide +kernel), by decide +kernel, by decide +kernel, by decide +kernel⟩⟩
theorem ml_X11_358 : Cond.methodLink RX11 358 yX11_withStatement ∈ sd_tb := sd_mem (i := 1113) (by decide +kernel)
theorem mv_XT_withStatement : sd_mV M_XT_withStatement 2 := ⟨sd_mem (i := 1115) (by decide +kernel), sd_mem (i := 33) (by decide +kernel), ⟨sd_mem (i := 1116) (by decide +kernel), sd_mem (i := 108) (by decide +kernel), by decide +kernel, by decide +kernel, by decide +kernel⟩⟩
theorem ml_X11_355 : Cond.methodLink RX11 355 yX11_count ∈ sd_tb := sd_mem (i := 1112) (by decide +kernel)
theorem mv_XT_count : sd_mV M_XT_count 1 := ⟨sd_mem (i := 1098) (by decide +kernel), sd_mem (i := 1099) (by decide +kernel), ⟨sd_mem (i := 1100) (by decide +kernel), sd_mem (i := 108) (by decide +kernel), by decide +kernel, by decide +kernel, by decide +kernel⟩⟩
def M_XT_digest : sd_MX := (yX11_digest, cX11_digest, 4, (some .long), { frames := 7, cells := 0, slots := 0, locals := 189 })
def XT_digest_L127 : Nat → sd_H → Int64 → Int32 → Option (sd_H × Int64)
  | 0, _, _, _ => none
  | n + 1, h, l1, l3 =>
  (if 10 ≤ l3 then some (h, l1) else b1 (XT_ended h l3) (fun t8 => XT_digest_L127 n h ((31 * l1) + (Int32.toInt64 t8)) (l3 + 1)))
set_option maxHeartbeats 4000000 in
set_option maxRecDepth 100000 in
theorem J_XT_digest_L127 {G : sd_GX} {X : sd_CX} (hE : ∀ g : sd_H, sd_end G X M_XT_digest (sd_F g))  {r : (sd_H × Int64)} : ∀ (n : Nat) (h : sd_H) (l1 : Int64) (l3 : Int32), XT_digest_L127 n h l1 l3 = some r → sd_J G X (sd_QR G X M_XT_digest (some (.long r.2), sd_F r.1)) M_XT_digest 127 [(0, .ref (G.1 + 0)), (1, .long l1), (3, .int l3)] [] (sd_F h) := by
  intro n
  induction n with
  | zero =>
    intro h l1 l3 hf
    rw [XT_digest_L127] at hf
    cases hf
  | succ n ih =>
    intro h l1 l3 hf
    rw [XT_digest_L127] at hf
    refine sd_iload_n (k := 3) (i := 3) (q := 2) (pc' := 128) (by decide +kernel) rfl rfl ?_
    refine sd_bipush (n := 10) (v := 10) (pc' := 130) (by decide +kernel) (by decide) ?_
    refine sd_icmp_ge (off := 22) (tgt := 152) (pc' := 133) (by decide +kernel) (fun c6 => ?_) (fun c6 => ?_)
    · replace hf := ite_p c6 hf
      refine sd_lload_n (k := 1) (i := 1) (q := 1) (pc' := 153) (by decide +kernel) rfl rfl ?_
      obtain rfl := Option.some.inj hf
      exact sd_lret (by decide +kernel) rfl (hE _)
    · replace hf := ite_n c6 hf
      refine sd_ldc2 (idx := 353) (v := 31) (pc' := 136) (by decide +kernel) (sd_mem (i := 1111) (by decide +kernel)) ?_
      refine sd_lload_n (k := 1) (i := 1) (q := 1) (pc' := 137) (by decide +kernel) rfl rfl ?_
      refine sd_lmul (pc' := 138) (by decide +kernel) ?_
      refine sd_aload_n (k := 0) (i := 0) (q := 0) (pc' := 139) (by decide +kernel) rfl rfl ?_
      refine sd_iload_n (k := 3) (i := 3) (q := 2) (pc' := 140) (by decide +kernel) rfl rfl ?_
      obtain ⟨t8, q7, hf⟩ := b1_some hf
      refine sF_callV (idx := 371) (b := 0) (As := [.int l3]) (ci := 11) (nn := 17) (pc' := 143) 1 (T_XT_ended (G := G) (h := h)  q7) (by decide +kernel) mv_XT_ended ml_X11_371 (by decide +kernel) rfl rfl (Nat.le_of_ble_eq_true rfl) SH_0 rfl (by decide) rfl rfl ?_
      refine sd_i2l (pc' := 144) (by decide +kernel) rfl ?_
      refine sd_ladd (pc' := 145) (by decide +kernel) ?_
      refine sd_lstore_n (k := 1) (i := 1) (pc' := 146) (lo' := [(1, .long ((31 * l1) + (Int32.toInt64 t8))), (0, .ref (G.1 + 0)), (3, .int l3)]) (by decide +kernel) rfl (by decide) rfl ?_
      refine sd_iinc (i := 3) (q := 2) (n := 1) (v := (l3 + 1)) (pc' := 149) (lo' := [(3, .int (l3 + 1)), (1, .long ((31 * l1) + (Int32.toInt64 t8))), (0, .ref (G.1 + 0))]) (by decide +kernel) rfl rfl (by decide) rfl ?_
      refine sd_goto (off := -22) (tgt := 127) (pc' := 152) (by decide +kernel) ?_
      refine sd_J.sub (lo' := [(0, .ref (G.1 + 0)), (1, .long ((31 * l1) + (Int32.toInt64 t8))), (3, .int (l3 + 1))]) [2, 1, 0] rfl ?_
      exact ih _ _ _ hf
def XT_digest_L101 : Nat → sd_H → Int64 → Int32 → Option (sd_H × Int64)
  | 0, _, _, _ => none
  | n + 1, h, l1, l3 =>
  (if 3 ≤ l3 then XT_digest_L127 FU h l1 0 else b1 (XT_faults h l3) (fun t10 => XT_digest_L101 n h ((31 * l1) + (Int32.toInt64 t10)) (l3 + 1)))
set_option maxHeartbeats 4000000 in
set_option maxRecDepth 100000 in
theorem J_XT_digest_L101 {G : sd_GX} {X : sd_CX} (hE : ∀ g : sd_H, sd_end G X M_XT_digest (sd_F g))  {r : (sd_H × Int64)} : ∀ (n : Nat) (h : sd_H) (l1 : Int64) (l3 : Int32), XT_digest_L101 n h l1 l3 = some r → sd_J G X (sd_QR G X M_XT_digest (some (.long r.2), sd_F r.1)) M_XT_digest 101 [(0, .ref (G.1 + 0)), (1, .long l1), (3, .int l3)] [] (sd_F h) := by
  intro n
  induction n with
  | zero =>
    intro h l1 l3 hf
    rw [XT_digest_L101] at hf
    cases hf
  | succ n ih =>
    intro h l1 l3 hf
    rw [XT_digest_L101] at hf
    refine sd_iload_n (k := 3) (i := 3) (q := 2) (pc' := 102) (by decide +kernel) rfl rfl ?_
    refine sd_iconst (n := 3) (v := 3) (pc' := 103) (by decide +kernel) (by decide) ?_
    refine sd_icmp_ge (off := 22) (tgt := 125) (pc' := 106) (by decide +kernel) (fun c5 => ?_) (fun c5 => ?_)
    · replace hf := ite_p c5 hf
      refine sd_iconst (n := 0) (v := 0) (pc' := 126) (by decide +kernel) (by decide) ?_
      refine sd_istore_n (k := 3) (i := 3) (pc' := 127) (lo' := [(3, .int 0), (0, .ref (G.1 + 0)), (1, .long l1)]) (by decide +kernel) rfl (by decide) rfl ?_
      refine sd_J.sub (lo' := [(0, .ref (G.1 + 0)), (1, .long l1), (3, .int 0)]) [1, 2, 0] rfl ?_
      exact J_XT_digest_L127 hE _ _ _ _ hf
    · replace hf := ite_n c5 hf
      refine sd_ldc2 (idx := 353) (v := 31) (pc' := 109) (by decide +kernel) (sd_mem (i := 1111) (by decide +kernel)) ?_
      refine sd_lload_n (k := 1) (i := 1) (q := 1) (pc' := 110) (by decide +kernel) rfl rfl ?_
      refine sd_lmul (pc' := 111) (by decide +kernel) ?_
      refine sd_aload_n (k := 0) (i := 0) (q := 0) (pc' := 112) (by decide +kernel) rfl rfl ?_
      refine sd_iload_n (k := 3) (i := 3) (q := 2) (pc' := 113) (by decide +kernel) rfl rfl ?_
      obtain ⟨t10, q9, hf⟩ := b1_some hf
      refine sF_callV (idx := 368) (b := 0) (As := [.int l3]) (ci := 11) (nn := 17) (pc' := 116) 1 (T_XT_faults (G := G) (h := h)  q9) (by decide +kernel) mv_XT_faults ml_X11_368 (by decide +kernel) rfl rfl (Nat.le_of_ble_eq_true rfl) SH_0 rfl (by decide) rfl rfl ?_
      refine sd_i2l (pc' := 117) (by decide +kernel) rfl ?_
      refine sd_ladd (pc' := 118) (by decide +kernel) ?_
      refine sd_lstore_n (k := 1) (i := 1) (pc' := 119) (lo' := [(1, .long ((31 * l1) + (Int32.toInt64 t10))), (0, .ref (G.1 + 0)), (3, .int l3)]) (by decide +kernel) rfl (by decide) rfl ?_
      refine sd_iinc (i := 3) (q := 2) (n := 1) (v := (l3 + 1)) (pc' := 122) (lo' := [(3, .int (l3 + 1)), (1, .long ((31 * l1) + (Int32.toInt64 t10))), (0, .ref (G.1 + 0))]) (by decide +kernel) rfl rfl (by decide) rfl ?_
      refine sd_goto (off := -21) (tgt := 101) (pc' := 125) (by decide +kernel) ?_
      refine sd_J.sub (lo' := [(0, .ref (G.1 + 0)), (1, .long ((31 * l1) + (Int32.toInt64 t10))), (3, .int (l3 + 1))]) [2, 1, 0] rfl ?_
      exact ih _ _ _ hf
def XT_digest_L80 : Nat → sd_H → Int64 → Int32 → Option (sd_H × Int64)
  | 0, _, _, _ => none
  | n + 1, h, l1, l3 =>
  (if 6 ≤ l3 then XT_digest_L101 FU h l1 0 else b2 (XT_withCells h l1 l3) (fun h12 t13 => XT_digest_L80 n h12 t13 (l3 + 1)))
set_option maxHeartbeats 4000000 in
set_option maxRecDepth 100000 in
theorem J_XT_digest_L80 {G : sd_GX} {X : sd_CX} (hE : ∀ g : sd_H, sd_end G X M_XT_digest (sd_F g))  {r : (sd_H × Int64)} : ∀ (n : Nat) (h : sd_H) (l1 : Int64) (l3 : Int32), XT_digest_L80 n h l1 l3 = some r → sd_J G X (sd_QR G X M_XT_digest (some (.long r.2), sd_F r.1)) M_XT_digest 80 [(0, .ref (G.1 + 0)), (1, .long l1), (3, .int l3)] [] (sd_F h) := by
  intro n
  induction n with
  | zero =>
    intro h l1 l3 hf
    rw [XT_digest_L80] at hf
    cases hf
  | succ n ih =>
    intro h l1 l3 hf
    rw [XT_digest_L80] at hf
    refine sd_iload_n (k := 3) (i := 3) (q := 2) (pc' := 81) (by decide +kernel) rfl rfl ?_
    refine sd_bipush (n := 6) (v := 6) (pc' := 83) (by decide +kernel) (by decide) ?_
    refine sd_icmp_ge (off := 16) (tgt := 99) (pc' := 86) (by decide +kernel) (fun c4 => ?_) (fun c4 => ?_)
    · replace hf := ite_p c4 hf
      refine sd_iconst (n := 0) (v := 0) (pc' := 100) (by decide +kernel) (by decide) ?_
      refine sd_istore_n (k := 3) (i := 3) (pc' := 101) (lo' := [(3, .int 0), (0, .ref (G.1 + 0)), (1, .long l1)]) (by decide +kernel) rfl (by decide) rfl ?_
      refine sd_J.sub (lo' := [(0, .ref (G.1 + 0)), (1, .long l1), (3, .int 0)]) [1, 2, 0] rfl ?_
      exact J_XT_digest_L101 hE _ _ _ _ hf
    · replace hf := ite_n c4 hf
      refine sd_aload_n (k := 0) (i := 0) (q := 0) (pc' := 87) (by decide +kernel) rfl rfl ?_
      refine sd_lload_n (k := 1) (i := 1) (q := 1) (pc' := 88) (by decide +kernel) rfl rfl ?_
      refine sd_iload_n (k := 3) (i := 3) (q := 2) (pc' := 89) (by decide +kernel) rfl rfl ?_
      obtain ⟨h12, t13, q11, hf⟩ := b2_some hf
      refine sF_callV (idx := 365) (b := 0) (As := [.long l1, .int l3]) (ci := 11) (nn := 17) (pc' := 92) 2 (T_XT_withCells (G := G) (h := h)  q11) (by decide +kernel) mv_XT_withCells ml_X11_365 (by decide +kernel) rfl rfl (Nat.le_of_ble_eq_true rfl) SH_0 rfl (by decide) rfl rfl ?_
      refine sd_lstore_n (k := 1) (i := 1) (pc' := 93) (lo' := [(1, .long t13), (0, .ref (G.1 + 0)), (3, .int l3)]) (by decide +kernel) rfl (by decide) rfl ?_
      refine sd_iinc (i := 3) (q := 2) (n := 1) (v := (l3 + 1)) (pc' := 96) (lo' := [(3, .int (l3 + 1)), (1, .long t13), (0, .ref (G.1 + 0))]) (by decide +kernel) rfl rfl (by decide) rfl ?_
      refine sd_goto (off := -16) (tgt := 80) (pc' := 99) (by decide +kernel) ?_
      refine sd_J.sub (lo' := [(0, .ref (G.1 + 0)), (1, .long t13), (3, .int (l3 + 1))]) [2, 1, 0] rfl ?_
      exact ih _ _ _ hf
def XT_digest_L59 : Nat → sd_H → Int64 → Int32 → Option (sd_H × Int64)
  | 0, _, _, _ => none
  | n + 1, h, l1, l3 =>
  (if 6 ≤ l3 then XT_digest_L80 FU h l1 0 else b2 (XT_withSets h l1 l3) (fun h15 t16 => XT_digest_L59 n h15 t16 (l3 + 1)))
set_option maxHeartbeats 4000000 in
set_option maxRecDepth 100000 in
theorem J_XT_digest_L59 {G : sd_GX} {X : sd_CX} (hE : ∀ g : sd_H, sd_end G X M_XT_digest (sd_F g))  {r : (sd_H × Int64)} : ∀ (n : Nat) (h : sd_H) (l1 : Int64) (l3 : Int32), XT_digest_L59 n h l1 l3 = some r → sd_J G X (sd_QR G X M_XT_digest (some (.long r.2), sd_F r.1)) M_XT_digest 59 [(0, .ref (G.1 + 0)), (1, .long l1), (3, .int l3)] [] (sd_F h) := by
  intro n
  induction n with
  | zero =>
    intro h l1 l3 hf
    rw [XT_digest_L59] at hf
    cases hf
  | succ n ih =>
    intro h l1 l3 hf
    rw [XT_digest_L59] at hf
    refine sd_iload_n (k := 3) (i := 3) (q := 2) (pc' := 60) (by decide +kernel) rfl rfl ?_
    refine sd_bipush (n := 6) (v := 6) (pc' := 62) (by decide +kernel) (by decide) ?_
    refine sd_icmp_ge (off := 16) (tgt := 78) (pc' := 65) (by decide +kernel) (fun c3 => ?_) (fun c3 => ?_)
    · replace hf := ite_p c3 hf
      refine sd_iconst (n := 0) (v := 0) (pc' := 79) (by decide +kernel) (by decide) ?_
      refine sd_istore_n (k := 3) (i := 3) (pc' := 80) (lo' := [(3, .int 0), (0, .ref (G.1 + 0)), (1, .long l1)]) (by decide +kernel) rfl (by decide) rfl ?_
      refine sd_J.sub (lo' := [(0, .ref (G.1 + 0)), (1, .long l1), (3, .int 0)]) [1, 2, 0] rfl ?_
      exact J_XT_digest_L80 hE _ _ _ _ hf
    · replace hf := ite_n c3 hf
      refine sd_aload_n (k := 0) (i := 0) (q := 0) (pc' := 66) (by decide +kernel) rfl rfl ?_
      refine sd_lload_n (k := 1) (i := 1) (q := 1) (pc' := 67) (by decide +kernel) rfl rfl ?_
      refine sd_iload_n (k := 3) (i := 3) (q := 2) (pc' := 68) (by decide +kernel) rfl rfl ?_
      obtain ⟨h15, t16, q14, hf⟩ := b2_some hf
      refine sF_callV (idx := 362) (b := 0) (As := [.long l1, .int l3]) (ci := 11) (nn := 17) (pc' := 71) 2 (T_XT_withSets (G := G) (h := h)  q14) (by decide +kernel) mv_XT_withSets ml_X11_362 (by decide +kernel) rfl rfl (Nat.le_of_ble_eq_true rfl) SH_0 rfl (by decide) rfl rfl ?_
      refine sd_lstore_n (k := 1) (i := 1) (pc' := 72) (lo' := [(1, .long t16), (0, .ref (G.1 + 0)), (3, .int l3)]) (by decide +kernel) rfl (by decide) rfl ?_
      refine sd_iinc (i := 3) (q := 2) (n := 1) (v := (l3 + 1)) (pc' := 75) (lo' := [(3, .int (l3 + 1)), (1, .long t16), (0, .ref (G.1 + 0))]) (by decide +kernel) rfl rfl (by decide) rfl ?_
      refine sd_goto (off := -16) (tgt := 59) (pc' := 78) (by decide +kernel) ?_
      refine sd_J.sub (lo' := [(0, .ref (G.1 + 0)), (1, .long t16), (3, .int (l3 + 1))]) [2, 1, 0] rfl ?_
      exact ih _ _ _ hf
def XT_digest_L33 : Nat → sd_H → Int64 → Int32 → Option (sd_H × Int64)
  | 0, _, _, _ => none
  | n + 1, h, l1, l3 =>
  (if (h.1 6 2) ≤ l3 then XT_digest_L59 FU h l1 0 else b2 (XT_withStatement h l1 l3) (fun h18 t19 => XT_digest_L33 n h18 t19 (l3 + 1)))
set_option maxHeartbeats 4000000 in
set_option maxRecDepth 100000 in
theorem J_XT_digest_L33 {G : sd_GX} {X : sd_CX} (hE : ∀ g : sd_H, sd_end G X M_XT_digest (sd_F g))  {r : (sd_H × Int64)} : ∀ (n : Nat) (h : sd_H) (l1 : Int64) (l3 : Int32), XT_digest_L33 n h l1 l3 = some r → sd_J G X (sd_QR G X M_XT_digest (some (.long r.2), sd_F r.1)) M_XT_digest 33 [(0, .ref (G.1 + 0)), (1, .long l1), (3, .int l3)] [] (sd_F h) := by
  intro n
  induction n with
  | zero =>
    intro h l1 l3 hf
    rw [XT_digest_L33] at hf
    cases hf
  | succ n ih =>
    intro h l1 l3 hf
    rw [XT_digest_L33] at hf
    refine sd_iload_n (k := 3) (i := 3) (q := 2) (pc' := 34) (by decide +kernel) rfl rfl ?_
    refine sd_aload_n (k := 0) (i := 0) (q := 0) (pc' := 35) (by decide +kernel) rfl rfl ?_
    refine sF_gr (idx := 21) (ci := 11) (k := 1) (n := 17) (r := 6) (pc' := 38) (by decide +kernel) fl_X11_21 (by decide +kernel) rfl SH_0 (by decide) (by decide +kernel) ?_
    refine sF_gi (idx := 170) (ci := 2) (k := 2) (n := 3) (pc' := 41) (by decide +kernel) fl_X11_170 (by decide +kernel) rfl SH_6 ?_
    refine sd_icmp_ge (off := 16) (tgt := 57) (pc' := 44) (by decide +kernel) (fun c2 => ?_) (fun c2 => ?_)
    · replace hf := ite_p c2 hf
      refine sd_iconst (n := 0) (v := 0) (pc' := 58) (by decide +kernel) (by decide) ?_
      refine sd_istore_n (k := 3) (i := 3) (pc' := 59) (lo' := [(3, .int 0), (0, .ref (G.1 + 0)), (1, .long l1)]) (by decide +kernel) rfl (by decide) rfl ?_
      refine sd_J.sub (lo' := [(0, .ref (G.1 + 0)), (1, .long l1), (3, .int 0)]) [1, 2, 0] rfl ?_
      exact J_XT_digest_L59 hE _ _ _ _ hf
    · replace hf := ite_n c2 hf
      refine sd_aload_n (k := 0) (i := 0) (q := 0) (pc' := 45) (by decide +kernel) rfl rfl ?_
      refine sd_lload_n (k := 1) (i := 1) (q := 1) (pc' := 46) (by decide +kernel) rfl rfl ?_
      refine sd_iload_n (k := 3) (i := 3) (q := 2) (pc' := 47) (by decide +kernel) rfl rfl ?_
      obtain ⟨h18, t19, q17, hf⟩ := b2_some hf
      refine sF_callV (idx := 358) (b := 0) (As := [.long l1, .int l3]) (ci := 11) (nn := 17) (pc' := 50) 2 (T_XT_withStatement (G := G) (h := h)  q17) (by decide +kernel) mv_XT_withStatement ml_X11_358 (by decide +kernel) rfl rfl (Nat.le_of_ble_eq_true rfl) SH_0 rfl (by decide) rfl rfl ?_
      refine sd_lstore_n (k := 1) (i := 1) (pc' := 51) (lo' := [(1, .long t19), (0, .ref (G.1 + 0)), (3, .int l3)]) (by decide +kernel) rfl (by decide) rfl ?_
      refine sd_iinc (i := 3) (q := 2) (n := 1) (v := (l3 + 1)) (pc' := 54) (lo' := [(3, .int (l3 + 1)), (1, .long t19), (0, .ref (G.1 + 0))]) (by decide +kernel) rfl rfl (by decide) rfl ?_
      refine sd_goto (off := -21) (tgt := 33) (pc' := 57) (by decide +kernel) ?_
      refine sd_J.sub (lo' := [(0, .ref (G.1 + 0)), (1, .long t19), (3, .int (l3 + 1))]) [2, 1, 0] rfl ?_
      exact ih _ _ _ hf
def XT_digest_L6 : Nat → sd_H → Int64 → Int32 → Option (sd_H × Int64)
  | 0, _, _, _ => none
  | n + 1, h, l1, l3 =>
  (if 7 < l3 then XT_digest_L33 FU h l1 0 else b2 (XT_count h l3) (fun h21 t22 => XT_digest_L6 n h21 ((31 * l1) + (Int32.toInt64 t22)) (l3 + 1)))
set_option maxHeartbeats 4000000 in
set_option maxRecDepth 100000 in
theorem J_XT_digest_L6 {G : sd_GX} {X : sd_CX} (hE : ∀ g : sd_H, sd_end G X M_XT_digest (sd_F g))  {r : (sd_H × Int64)} : ∀ (n : Nat) (h : sd_H) (l1 : Int64) (l3 : Int32), XT_digest_L6 n h l1 l3 = some r → sd_J G X (sd_QR G X M_XT_digest (some (.long r.2), sd_F r.1)) M_XT_digest 6 [(0, .ref (G.1 + 0)), (1, .long l1), (3, .int l3)] [] (sd_F h) := by
  intro n
  induction n with
  | zero =>
    intro h l1 l3 hf
    rw [XT_digest_L6] at hf
    cases hf
  | succ n ih =>
    intro h l1 l3 hf
    rw [XT_digest_L6] at hf
    refine sd_iload_n (k := 3) (i := 3) (q := 2) (pc' := 7) (by decide +kernel) rfl rfl ?_
    refine sd_bipush (n := 7) (v := 7) (pc' := 9) (by decide +kernel) (by decide) ?_
    refine sd_icmp_gt (off := 22) (tgt := 31) (pc' := 12) (by decide +kernel) (fun c1 => ?_) (fun c1 => ?_)
    · replace hf := ite_p c1 hf
      refine sd_iconst (n := 0) (v := 0) (pc' := 32) (by decide +kernel) (by decide) ?_
      refine sd_istore_n (k := 3) (i := 3) (pc' := 33) (lo' := [(3, .int 0), (0, .ref (G.1 + 0)), (1, .long l1)]) (by decide +kernel) rfl (by decide) rfl ?_
      refine sd_J.sub (lo' := [(0, .ref (G.1 + 0)), (1, .long l1), (3, .int 0)]) [1, 2, 0] rfl ?_
      exact J_XT_digest_L33 hE _ _ _ _ hf
    · replace hf := ite_n c1 hf
      refine sd_ldc2 (idx := 353) (v := 31) (pc' := 15) (by decide +kernel) (sd_mem (i := 1111) (by decide +kernel)) ?_
      refine sd_lload_n (k := 1) (i := 1) (q := 1) (pc' := 16) (by decide +kernel) rfl rfl ?_
      refine sd_lmul (pc' := 17) (by decide +kernel) ?_
      refine sd_aload_n (k := 0) (i := 0) (q := 0) (pc' := 18) (by decide +kernel) rfl rfl ?_
      refine sd_iload_n (k := 3) (i := 3) (q := 2) (pc' := 19) (by decide +kernel) rfl rfl ?_
      obtain ⟨h21, t22, q20, hf⟩ := b2_some hf
      refine sF_callV (idx := 355) (b := 0) (As := [.int l3]) (ci := 11) (nn := 17) (pc' := 22) 1 (T_XT_count (G := G) (h := h)  q20) (by decide +kernel) mv_XT_count ml_X11_355 (by decide +kernel) rfl rfl (Nat.le_of_ble_eq_true rfl) SH_0 rfl (by decide) rfl rfl ?_
      refine sd_i2l (pc' := 23) (by decide +kernel) rfl ?_
      refine sd_ladd (pc' := 24) (by decide +kernel) ?_
      refine sd_lstore_n (k := 1) (i := 1) (pc' := 25) (lo' := [(1, .long ((31 * l1) + (Int32.toInt64 t22))), (0, .ref (G.1 + 0)), (3, .int l3)]) (by decide +kernel) rfl (by decide) rfl ?_
      refine sd_iinc (i := 3) (q := 2) (n := 1) (v := (l3 + 1)) (pc' := 28) (lo' := [(3, .int (l3 + 1)), (1, .long ((31 * l1) + (Int32.toInt64 t22))), (0, .ref (G.1 + 0))]) (by decide +kernel) rfl rfl (by decide) rfl ?_
      refine sd_goto (off := -22) (tgt := 6) (pc' := 31) (by decide +kernel) ?_
      refine sd_J.sub (lo' := [(0, .ref (G.1 + 0)), (1, .long ((31 * l1) + (Int32.toInt64 t22))), (3, .int (l3 + 1))]) [2, 1, 0] rfl ?_
      exact ih _ _ _ hf
def XT_digest (h : sd_H) : Option (sd_H × Int64) :=
  XT_digest_L6 FU h 17 0
set_option maxHeartbeats 4000000 in
set_option maxRecDepth 100000 in
theorem T_XT_digest {G : sd_GX} {h : sd_H} {r : (sd_H × Int64)} (hf : XT_digest h = some r) : sd_RunF G M_XT_digest [.ref (G.1 + 0)] h (some (.long r.2)) r.1 := by
  refine sF_run ⟨rfl, rfl⟩ (by decide +kernel) (Nat.le_of_ble_eq_true rfl) (lo := [(0, .ref (G.1 + 0))]) rfl (fun X hE => ?_)
  unfold XT_digest at hf
  refine sd_ldc2 (idx := 351) (v := 17) (pc' := 3) (by decide +kernel) (sd_mem (i := 1110) (by decide +kernel)) ?_
  refine sd_lstore_n (k := 1) (i := 1) (pc' := 4) (lo' := [(1, .long 17), (0, .ref (G.1 + 0))]) (by decide +kernel) rfl (by decide) rfl ?_
  refine sd_iconst (n := 0) (v := 0) (pc' := 5) (by decide +kernel) (by decide) ?_
  refine sd_istore_n (k := 3) (i := 3) (pc' := 6) (lo' := [(3, .int 0), (1, .long 17), (0, .ref (G.1 + 0))]) (by decide +kernel) rfl (by decide) rfl ?_
  refine sd_J.sub (lo' := [(0, .ref (G.1 + 0)), (1, .long 17), (3, .int 0)]) [2, 1, 0] rfl ?_
  exact J_XT_digest_L6 hE _ _ _ _ hf

def M_YM_in : sd_MX := (yX12_in, cX12_in, 3, (some .boolean), { frames := 1, cells := 0, slots := 0, locals := 40 })
def YM_in (a0 : Int32) (a1 : Int32) (a2 : Int32) : Option Int32 :=
  (if a0 < a1 then some 0 else (if a2 < a0 then some 0 else some 1))
set_option maxHeartbeats 4000000 in
set_option maxRecDepth 100000 in
theorem T_YM_in {G : sd_GX} {h : sd_H} {a0 : Int32} {a1 : Int32} {a2 : Int32} {r : Int32} (hf : YM_in a0 a1 a2 = some r) : sd_RunF G M_YM_in [.int a0, .int a1, .int a2] h (some (.int r)) h := by
  refine sF_run ⟨rfl, rfl⟩ (by decide +kernel) (Nat.le_of_ble_eq_true rfl) (lo := [(0, .int a0), (1, .int a1), (2, .int a2)]) rfl (fun X hE => ?_)
  unfold YM_in at hf
  refine sd_iload_n (k := 0) (i := 0) (q := 0) (pc' := 1) (by decide +kernel) rfl rfl ?_
  refine sd_iload_n (k := 1) (i := 1) (q := 1) (pc' := 2) (by decide +kernel) rfl rfl ?_
  refine sd_icmp_lt (off := 12) (tgt := 14) (pc' := 5) (by decide +kernel) (fun c1 => ?_) (fun c1 => ?_)
  · replace hf := ite_p c1 hf
    refine sd_iconst (n := 0) (v := 0) (pc' := 15) (by decide +kernel) (by decide) ?_
    obtain rfl := Option.some.inj hf
    exact sd_zret (by decide +kernel) rfl rfl (hE _)
  · replace hf := ite_n c1 hf
    refine sd_iload_n (k := 0) (i := 0) (q := 0) (pc' := 6) (by decide +kernel) rfl rfl ?_
    refine sd_iload_n (k := 2) (i := 2) (q := 2) (pc' := 7) (by decide +kernel) rfl rfl ?_
    refine sd_icmp_gt (off := 7) (tgt := 14) (pc' := 10) (by decide +kernel) (fun c2 => ?_) (fun c2 => ?_)
    · replace hf := ite_p c2 hf
      refine sd_iconst (n := 0) (v := 0) (pc' := 15) (by decide +kernel) (by decide) ?_
      obtain rfl := Option.some.inj hf
      exact sd_zret (by decide +kernel) rfl rfl (hE _)
    · replace hf := ite_n c2 hf
      refine sd_iconst (n := 1) (v := 1) (pc' := 11) (by decide +kernel) (by decide) ?_
      refine sd_goto (off := 4) (tgt := 15) (pc' := 14) (by decide +kernel) ?_
      obtain rfl := Option.some.inj hf
      exact sd_zret (by decide +kernel) rfl rfl (hE _)

def M_YM_no : sd_MX := (yX12_no, cX12_no, 1, (some .long), { frames := 1, cells := 0, slots := 0, locals := 40 })
def YM_no (a0 : Int32) : Option Int64 :=
  some ((-9223372036854775808) - (Int32.toInt64 a0))
set_option maxHeartbeats 4000000 in
set_option maxRecDepth 100000 in
theorem T_YM_no {G : sd_GX} {h : sd_H} {a0 : Int32} {r : Int64} (hf : YM_no a0 = some r) : sd_RunF G M_YM_no [.int a0] h (some (.long r)) h := by
  refine sF_run ⟨rfl, rfl⟩ (by decide +kernel) (Nat.le_of_ble_eq_true rfl) (lo := [(0, .int a0)]) rfl (fun X hE => ?_)
  unfold YM_no at hf
  refine sd_ldc2 (idx := 108) (v := (-9223372036854775808)) (pc' := 3) (by decide +kernel) (sd_mem (i := 1322) (by decide +kernel)) ?_
  refine sd_iload_n (k := 0) (i := 0) (q := 0) (pc' := 4) (by decide +kernel) rfl rfl ?_
  refine sd_i2l (pc' := 5) (by decide +kernel) rfl ?_
  refine sd_lsub (pc' := 6) (by decide +kernel) ?_
  obtain rfl := Option.some.inj hf
  exact sd_lret (by decide +kernel) rfl (hE _)

theorem fl_X12_110 : sd_fl RX12 110 12 4 := ⟨sd_mem (i := 1152) (by decide +kernel), by decide, by decide⟩
def M_YM_meets : sd_MX := (yX12_meets, cX12_meets, 2, (some .int), { frames := 1, cells := 0, slots := 0, locals := 40 })
def YM_meets (h : sd_H) (a0 : Int32) : Option (sd_H × Int32) :=
  hb (wI h 126 4 a0) (fun h1 => some (h1, ((-10) - a0)))
set_option maxHeartbeats 4000000 in
set_option maxRecDepth 100000 in
theorem T_YM_meets {G : sd_GX} {h : sd_H} {a0 : Int32} {r : (sd_H × Int32)} (hf : YM_meets h a0 = some r) : sd_RunF G M_YM_meets [.ref (G.1 + 126), .int a0] h (some (.int r.2)) r.1 := by
  refine sF_run ⟨rfl, rfl⟩ (by decide +kernel) (Nat.le_of_ble_eq_true rfl) (lo := [(0, .ref (G.1 + 126)), (1, .int a0)]) rfl (fun X hE => ?_)
  unfold YM_meets at hf
  refine sd_aload_n (k := 0) (i := 0) (q := 0) (pc' := 1) (by decide +kernel) rfl rfl ?_
  refine sd_iload_n (k := 1) (i := 1) (q := 1) (pc' := 2) (by decide +kernel) rfl rfl ?_
  obtain ⟨h1, e2, hf⟩ := hb_some hf
  refine sF_pi (idx := 110) (ci := 12) (k := 4) (n := 47) (pc' := 5) (by decide +kernel) fl_X12_110 (by decide +kernel) rfl rfl rfl SH_126 ?_
  rw [← e2]; clear e2
  refine sd_bipush (n := -10) (v := (-10)) (pc' := 7) (by decide +kernel) (by decide) ?_
  refine sd_iload_n (k := 1) (i := 1) (q := 1) (pc' := 8) (by decide +kernel) rfl rfl ?_
  refine sd_isub (pc' := 9) (by decide +kernel) ?_
  obtain rfl := Option.some.inj hf
  exact sd_iret (by decide +kernel) rfl (hE _)

theorem ml_X12_114 : Cond.methodLink RX12 114 yX12_in ∈ sd_tb := sd_mem (i := 1298) (by decide +kernel)
theorem mv_YM_in : sd_mS M_YM_in 3 := ⟨sd_mem (i := 1299) (by decide +kernel), ⟨sd_mem (i := 1300) (by decide +kernel), sd_mem (i := 119) (by decide +kernel), by decide +kernel, by decide +kernel, by decide +kernel⟩⟩
def M_YM_isRow : sd_MX := (yX12_isRow, cX12_isRow, 1, (some .boolean), { frames := 2, cells := 0, slots := 0, locals := 62 })
def YM_isRow (a0 : Int32) : Option Int32 :=
  b1 (YM_in a0 0 5) (fun t2 => gd (sd_isB t2) (some t2))
set_option maxHeartbeats 4000000 in
set_option maxRecDepth 100000 in
theorem T_YM_isRow {G : sd_GX} {h : sd_H} {a0 : Int32} {r : Int32} (hf : YM_isRow a0 = some r) : sd_RunF G M_YM_isRow [.int a0] h (some (.int r)) h := by
  refine sF_run ⟨rfl, rfl⟩ (by decide +kernel) (Nat.le_of_ble_eq_true rfl) (lo := [(0, .int a0)]) rfl (fun X hE => ?_)
  unfold YM_isRow at hf
  refine sd_iload_n (k := 0) (i := 0) (q := 0) (pc' := 1) (by decide +kernel) rfl rfl ?_
  refine sd_iconst (n := 0) (v := 0) (pc' := 2) (by decide +kernel) (by decide) ?_
  refine sd_iconst (n := 5) (v := 5) (pc' := 3) (by decide +kernel) (by decide) ?_
  obtain ⟨t2, q1, hf⟩ := b1_some hf
  refine sF_callS (idx := 114) (As := [.int a0, .int 0, .int 5]) (pc' := 6) 3 (T_YM_in (G := G) (h := h)  q1) (by decide +kernel) mv_YM_in ml_X12_114 (by decide +kernel) rfl rfl (Nat.le_of_ble_eq_true rfl) rfl ?_
  obtain ⟨g3, hf⟩ := gd_some hf
  obtain rfl := Option.some.inj hf
  exact sd_zret (by decide +kernel) rfl g3 (hE _)

def M_YM_zeroed : sd_MX := (yX12_zeroed, cX12_zeroed, 2, (some .double), { frames := 1, cells := 0, slots := 0, locals := 40 })
def YM_zeroed (a0 : UInt64) : Option UInt64 :=
  (if (Op.cmpValue (FP.dcmp a0 FP.dconst0) .l) = 0 then some FP.dconst0 else some a0)
set_option maxHeartbeats 4000000 in
set_option maxRecDepth 100000 in
theorem T_YM_zeroed {G : sd_GX} {h : sd_H} {a0 : UInt64} {r : UInt64} (hf : YM_zeroed a0 = some r) : sd_RunF G M_YM_zeroed [.double a0] h (some (.double r)) h := by
  refine sF_run ⟨rfl, rfl⟩ (by decide +kernel) (Nat.le_of_ble_eq_true rfl) (lo := [(0, .double a0)]) rfl (fun X hE => ?_)
  unfold YM_zeroed at hf
  refine sd_dload_n (k := 0) (i := 0) (q := 0) (pc' := 1) (by decide +kernel) rfl rfl ?_
  refine sd_dconst0 (pc' := 2) (by decide +kernel) ?_
  refine sd_dcmp (op := .l) (pc' := 3) (by decide +kernel) ?_
  refine sd_if_ne (off := 7) (tgt := 10) (pc' := 6) (by decide +kernel) (fun c1 => ?_) (fun c1 => ?_)
  · replace hf := ite_n c1 hf
    refine sd_dload_n (k := 0) (i := 0) (q := 0) (pc' := 11) (by decide +kernel) rfl rfl ?_
    obtain rfl := Option.some.inj hf
    exact sd_dret (by decide +kernel) rfl (hE _)
  · replace hf := ite_p c1 hf
    refine sd_dconst0 (pc' := 7) (by decide +kernel) ?_
    refine sd_goto (off := 4) (tgt := 11) (pc' := 10) (by decide +kernel) ?_
    obtain rfl := Option.some.inj hf
    exact sd_dret (by decide +kernel) rfl (hE _)

theorem ml_X12_118 : Cond.methodLink RX12 118 yX12_zeroed ∈ sd_tb := sd_mem (i := 1663) (by decide +kernel)
theorem mv_YM_zeroed : sd_mS M_YM_zeroed 1 := ⟨sd_mem (i := 1664) (by decide +kernel), ⟨sd_mem (i := 1665) (by decide +kernel), sd_mem (i := 119) (by decide +kernel), by decide +kernel, by decide +kernel, by decide +kernel⟩⟩
def M_YM_castTo : sd_MX := (yX12_castTo, cX12_castTo, 3, (some .double), { frames := 2, cells := 0, slots := 0, locals := 61 })
def YM_castTo (a0 : Int32) (a1 : UInt64) : Option UInt64 :=
  (if a0 = 0 then some (FP.i2d (i2s (FP.d2i a1))) else (if a0 = 1 then some (FP.i2d (FP.d2i a1)) else (if a0 = 2 then gd (nf (FP.d2f a1)) (gd (nd (FP.f2d (FP.d2f a1))) (b1 (YM_zeroed (FP.f2d (FP.d2f a1))) (fun t5 => some t5))) else (some a1))))
set_option maxHeartbeats 4000000 in
set_option maxRecDepth 100000 in
theorem T_YM_castTo {G : sd_GX} {h : sd_H} {a0 : Int32} {a1 : UInt64} {r : UInt64} (hf : YM_castTo a0 a1 = some r) : sd_RunF G M_YM_castTo [.int a0, .double a1] h (some (.double r)) h := by
  refine sF_run ⟨rfl, rfl⟩ (by decide +kernel) (Nat.le_of_ble_eq_true rfl) (lo := [(0, .int a0), (1, .double a1)]) rfl (fun X hE => ?_)
  unfold YM_castTo at hf
  refine sd_iload_n (k := 0) (i := 0) (q := 0) (pc' := 1) (by decide +kernel) rfl rfl ?_
  by_cases c1_0 : a0 = 0
  · replace hf := ite_p c1_0 hf
    refine sd_tswIn (dflt := 43) (lo0 := 0) (hi0 := 2) (offs := #[27, 32, 36]) (len := 27) (off := 27) (tgt := 28) (pc' := 28) (by decide +kernel) (by rw [c1_0]; decide) (by rw [c1_0]; decide) (by rw [c1_0]; decide) ?_
    refine sd_dload_n (k := 1) (i := 1) (q := 1) (pc' := 29) (by decide +kernel) rfl rfl ?_
    refine sd_d2i (pc' := 30) (by decide +kernel) ?_
    refine sd_i2s (pc' := 31) (by decide +kernel) rfl ?_
    refine sd_i2d (pc' := 32) (by decide +kernel) ?_
    obtain rfl := Option.some.inj hf
    exact sd_dret (by decide +kernel) rfl (hE _)
  · replace hf := ite_n c1_0 hf
    by_cases c1_1 : a0 = 1
    · replace hf := ite_p c1_1 hf
      refine sd_tswIn (dflt := 43) (lo0 := 0) (hi0 := 2) (offs := #[27, 32, 36]) (len := 27) (off := 32) (tgt := 33) (pc' := 28) (by decide +kernel) (by rw [c1_1]; decide) (by rw [c1_1]; decide) (by rw [c1_1]; decide) ?_
      refine sd_dload_n (k := 1) (i := 1) (q := 1) (pc' := 34) (by decide +kernel) rfl rfl ?_
      refine sd_d2i (pc' := 35) (by decide +kernel) ?_
      refine sd_i2d (pc' := 36) (by decide +kernel) ?_
      obtain rfl := Option.some.inj hf
      exact sd_dret (by decide +kernel) rfl (hE _)
    · replace hf := ite_n c1_1 hf
      by_cases c1_2 : a0 = 2
      · replace hf := ite_p c1_2 hf
        refine sd_tswIn (dflt := 43) (lo0 := 0) (hi0 := 2) (offs := #[27, 32, 36]) (len := 27) (off := 36) (tgt := 37) (pc' := 28) (by decide +kernel) (by rw [c1_2]; decide) (by rw [c1_2]; decide) (by rw [c1_2]; decide) ?_
        refine sd_dload_n (k := 1) (i := 1) (q := 1) (pc' := 38) (by decide +kernel) rfl rfl ?_
        obtain ⟨g2, hf⟩ := gd_some hf
        refine sd_d2f (pc' := 39) (by decide +kernel) (nf_of g2) ?_
        obtain ⟨g3, hf⟩ := gd_some hf
        refine sd_f2d (pc' := 40) (by decide +kernel) (nd_of g3) ?_
        obtain ⟨t5, q4, hf⟩ := b1_some hf
        refine sF_callS (idx := 118) (As := [.double (FP.f2d (FP.d2f a1))]) (pc' := 43) 1 (T_YM_zeroed (G := G) (h := h)  q4) (by decide +kernel) mv_YM_zeroed ml_X12_118 (by decide +kernel) rfl rfl (Nat.le_of_ble_eq_true rfl) rfl ?_
        obtain rfl := Option.some.inj hf
        exact sd_dret (by decide +kernel) rfl (hE _)
      · replace hf := ite_n c1_2 hf
        have nc1_0 := ne_ti c1_0 (n := 0) (by decide)
        have nc1_1 := ne_ti c1_1 (n := 1) (by decide)
        have nc1_2 := ne_ti c1_2 (n := 2) (by decide)
        refine sd_tswOut (dflt := 43) (lo0 := 0) (hi0 := 2) (offs := #[27, 32, 36]) (len := 27) (tgt := 44) (pc' := 28) (by decide +kernel) (by omega) ?_
        refine sd_dload_n (k := 1) (i := 1) (q := 1) (pc' := 45) (by decide +kernel) rfl rfl ?_
        obtain rfl := Option.some.inj hf
        exact sd_dret (by decide +kernel) rfl (hE _)

theorem ml_X12_122 : Cond.methodLink RX12 122 yX12_isRow ∈ sd_tb := sd_mem (i := 1295) (by decide +kernel)
theorem mv_YM_isRow : sd_mS M_YM_isRow 1 := ⟨sd_mem (i := 1296) (by decide +kernel), ⟨sd_mem (i := 1297) (by decide +kernel), sd_mem (i := 119) (by decide +kernel), by decide +kernel, by decide +kernel, by decide +kernel⟩⟩
theorem fl_X12_7 : sd_fl RX12 7 12 0 := ⟨sd_mem (i := 1148) (by decide +kernel), by decide, by decide⟩
theorem fl_X12_13 : sd_fl RX12 13 12 1 := ⟨sd_mem (i := 1149) (by decide +kernel), by decide, by decide⟩
theorem fl_X12_16 : sd_fl RX12 16 12 2 := ⟨sd_mem (i := 1150) (by decide +kernel), by decide, by decide⟩
theorem fl_X12_20 : sd_fl RX12 20 12 3 := ⟨sd_mem (i := 1151) (by decide +kernel), by decide, by decide⟩
theorem ml_X12_126 : Cond.methodLink RX12 126 yX12_meets ∈ sd_tb := sd_mem (i := 1301) (by decide +kernel)
theorem mv_YM_meets : sd_mV M_YM_meets 1 := ⟨sd_mem (i := 1303) (by decide +kernel), sd_mem (i := 37) (by decide +kernel), ⟨sd_mem (i := 1304) (by decide +kernel), sd_mem (i := 119) (by decide +kernel), by decide +kernel, by decide +kernel, by decide +kernel⟩⟩
def M_YM_row : sd_MX := (yX12_row, cX12_row, 5, (some .int), { frames := 3, cells := 0, slots := 0, locals := 82 })
def YM_row_L52 : Nat → sd_H → Int32 → Int32 → Int32 → Option (sd_H × Int32)
  | 0, _, _, _, _ => none
  | n + 1, h, l1, l3, l4 =>
  (if 24 ≤ l4 then some (h, l3) else gd (sd_inB ((24 * l1) + l4) 144) (hb (wD h 129 (((24 * l1) + l4) : Int32).toNatClampNeg FP.dconst0) (fun h17 => gd (sd_inB ((24 * l1) + l4) 144) (hb (wI h17 130 (((24 * l1) + l4) : Int32).toNatClampNeg (-1)) (fun h20 => YM_row_L52 n h20 l1 l3 (l4 + 1))))))
set_option maxHeartbeats 4000000 in
set_option maxRecDepth 100000 in
theorem J_YM_row_L52 {G : sd_GX} {X : sd_CX} (hE : ∀ g : sd_H, sd_end G X M_YM_row (sd_F g))  {r : (sd_H × Int32)} : ∀ (n : Nat) (h : sd_H) (l1 : Int32) (l3 : Int32) (l4 : Int32), YM_row_L52 n h l1 l3 l4 = some r → sd_J G X (sd_QR G X M_YM_row (some (.int r.2), sd_F r.1)) M_YM_row 52 [(0, .ref (G.1 + 126)), (1, .int l1), (3, .int l3), (4, .int l4)] [] (sd_F h) := by
  intro n
  induction n with
  | zero =>
    intro h l1 l3 l4 hf
    rw [YM_row_L52] at hf
    cases hf
  | succ n ih =>
    intro h l1 l3 l4 hf
    rw [YM_row_L52] at hf
    refine sd_iload (i := 4) (q := 3) (pc' := 54) (by decide +kernel) rfl ?_
    refine sd_bipush (n := 24) (v := 24) (pc' := 56) (by decide +kernel) (by decide) ?_
    refine sd_icmp_ge (off := 35) (tgt := 91) (pc' := 59) (by decide +kernel) (fun c15 => ?_) (fun c15 => ?_)
    · replace hf := ite_p c15 hf
      refine sd_iload_n (k := 3) (i := 3) (q := 2) (pc' := 92) (by decide +kernel) rfl rfl ?_
      obtain rfl := Option.some.inj hf
      exact sd_iret (by decide +kernel) rfl (hE _)
    · replace hf := ite_n c15 hf
      refine sd_aload_n (k := 0) (i := 0) (q := 0) (pc' := 60) (by decide +kernel) rfl rfl ?_
      refine sF_gr (idx := 16) (ci := 12) (k := 2) (n := 47) (r := 129) (pc' := 63) (by decide +kernel) fl_X12_16 (by decide +kernel) rfl SH_126 (by decide) (by decide +kernel) ?_
      refine sd_bipush (n := 24) (v := 24) (pc' := 65) (by decide +kernel) (by decide) ?_
      refine sd_iload_n (k := 1) (i := 1) (q := 1) (pc' := 66) (by decide +kernel) rfl rfl ?_
      refine sd_imul (pc' := 67) (by decide +kernel) ?_
      refine sd_iload (i := 4) (q := 3) (pc' := 69) (by decide +kernel) rfl ?_
      refine sd_iadd (pc' := 70) (by decide +kernel) ?_
      refine sd_dconst0 (pc' := 71) (by decide +kernel) ?_
      obtain ⟨g16, hf⟩ := gd_some hf
      obtain ⟨h17, e18, hf⟩ := hb_some hf
      refine sF_dast (n := 144) (pc' := 72) (by decide +kernel) SH_129 g16 ?_
      rw [← e18]; clear e18
      refine sd_aload_n (k := 0) (i := 0) (q := 0) (pc' := 73) (by decide +kernel) rfl rfl ?_
      refine sF_gr (idx := 20) (ci := 12) (k := 3) (n := 47) (r := 130) (pc' := 76) (by decide +kernel) fl_X12_20 (by decide +kernel) rfl SH_126 (by decide) (by decide +kernel) ?_
      refine sd_bipush (n := 24) (v := 24) (pc' := 78) (by decide +kernel) (by decide) ?_
      refine sd_iload_n (k := 1) (i := 1) (q := 1) (pc' := 79) (by decide +kernel) rfl rfl ?_
      refine sd_imul (pc' := 80) (by decide +kernel) ?_
      refine sd_iload (i := 4) (q := 3) (pc' := 82) (by decide +kernel) rfl ?_
      refine sd_iadd (pc' := 83) (by decide +kernel) ?_
      refine sd_iconst (n := -1) (v := (-1)) (pc' := 84) (by decide +kernel) (by decide) ?_
      obtain ⟨g19, hf⟩ := gd_some hf
      obtain ⟨h20, e21, hf⟩ := hb_some hf
      refine sF_iast (n := 144) (pc' := 85) (by decide +kernel) SH_130 g19 ?_
      rw [← e21]; clear e21
      refine sd_iinc (i := 4) (q := 3) (n := 1) (v := (l4 + 1)) (pc' := 88) (lo' := [(4, .int (l4 + 1)), (0, .ref (G.1 + 126)), (1, .int l1), (3, .int l3)]) (by decide +kernel) rfl rfl (by decide) rfl ?_
      refine sd_goto (off := -36) (tgt := 52) (pc' := 91) (by decide +kernel) ?_
      refine sd_J.sub (lo' := [(0, .ref (G.1 + 126)), (1, .int l1), (3, .int l3), (4, .int (l4 + 1))]) [1, 2, 3, 0] rfl ?_
      exact ih _ _ _ _ hf
def YM_row (h : sd_H) (a0 : Int32) (a1 : Int32) (a2 : Int32) : Option (sd_H × Int32) :=
  b1 (YM_isRow a0) (fun t2 => (if t2 = 0 then some (h, (-2)) else b1 (YM_in a1 0 4) (fun t5 => (if t5 = 0 then some (h, (-2)) else (if a2 ≤ 24 then (if 0 ≤ a2 then gd (sd_inB a0 6) (hb (wI h 127 (a0 : Int32).toNatClampNeg a1) (fun h10 => gd (sd_inB a0 6) (hb (wI h10 128 (a0 : Int32).toNatClampNeg a2) (fun h13 => YM_row_L52 FU h13 a0 a2 0)))) else b2 (YM_meets h 5) (fun h23 t24 => some (h23, t24))) else some (h, (-2)))))))
set_option maxHeartbeats 4000000 in
set_option maxRecDepth 100000 in
theorem T_YM_row {G : sd_GX} {h : sd_H} {a0 : Int32} {a1 : Int32} {a2 : Int32} {r : (sd_H × Int32)} (hf : YM_row h a0 a1 a2 = some r) : sd_RunF G M_YM_row [.ref (G.1 + 126), .int a0, .int a1, .int a2] h (some (.int r.2)) r.1 := by
  refine sF_run ⟨rfl, rfl⟩ (by decide +kernel) (Nat.le_of_ble_eq_true rfl) (lo := [(0, .ref (G.1 + 126)), (1, .int a0), (2, .int a1), (3, .int a2)]) rfl (fun X hE => ?_)
  unfold YM_row at hf
  refine sd_iload_n (k := 1) (i := 1) (q := 1) (pc' := 1) (by decide +kernel) rfl rfl ?_
  obtain ⟨t2, q1, hf⟩ := b1_some hf
  refine sF_callS (idx := 122) (As := [.int a0]) (pc' := 4) 1 (T_YM_isRow (G := G) (h := h)  q1) (by decide +kernel) mv_YM_isRow ml_X12_122 (by decide +kernel) rfl rfl (Nat.le_of_ble_eq_true rfl) rfl ?_
  refine sd_if_eq (off := 18) (tgt := 22) (pc' := 7) (by decide +kernel) (fun c3 => ?_) (fun c3 => ?_)
  · replace hf := ite_p c3 hf
    refine sd_bipush (n := -2) (v := (-2)) (pc' := 24) (by decide +kernel) (by decide) ?_
    obtain rfl := Option.some.inj hf
    exact sd_iret (by decide +kernel) rfl (hE _)
  · replace hf := ite_n c3 hf
    refine sd_iload_n (k := 2) (i := 2) (q := 2) (pc' := 8) (by decide +kernel) rfl rfl ?_
    refine sd_iconst (n := 0) (v := 0) (pc' := 9) (by decide +kernel) (by decide) ?_
    refine sd_iconst (n := 4) (v := 4) (pc' := 10) (by decide +kernel) (by decide) ?_
    obtain ⟨t5, q4, hf⟩ := b1_some hf
    refine sF_callS (idx := 114) (As := [.int a1, .int 0, .int 4]) (pc' := 13) 3 (T_YM_in (G := G) (h := h)  q4) (by decide +kernel) mv_YM_in ml_X12_114 (by decide +kernel) rfl rfl (Nat.le_of_ble_eq_true rfl) rfl ?_
    refine sd_if_eq (off := 9) (tgt := 22) (pc' := 16) (by decide +kernel) (fun c6 => ?_) (fun c6 => ?_)
    · replace hf := ite_p c6 hf
      refine sd_bipush (n := -2) (v := (-2)) (pc' := 24) (by decide +kernel) (by decide) ?_
      obtain rfl := Option.some.inj hf
      exact sd_iret (by decide +kernel) rfl (hE _)
    · replace hf := ite_n c6 hf
      refine sd_iload_n (k := 3) (i := 3) (q := 3) (pc' := 17) (by decide +kernel) rfl rfl ?_
      refine sd_bipush (n := 24) (v := 24) (pc' := 19) (by decide +kernel) (by decide) ?_
      refine sd_icmp_le (off := 6) (tgt := 25) (pc' := 22) (by decide +kernel) (fun c7 => ?_) (fun c7 => ?_)
      · replace hf := ite_p c7 hf
        refine sd_iload_n (k := 3) (i := 3) (q := 3) (pc' := 26) (by decide +kernel) rfl rfl ?_
        refine sd_if_ge (off := 9) (tgt := 35) (pc' := 29) (by decide +kernel) (fun c8 => ?_) (fun c8 => ?_)
        · replace hf := ite_p c8 hf
          refine sd_aload_n (k := 0) (i := 0) (q := 0) (pc' := 36) (by decide +kernel) rfl rfl ?_
          refine sF_gr (idx := 7) (ci := 12) (k := 0) (n := 47) (r := 127) (pc' := 39) (by decide +kernel) fl_X12_7 (by decide +kernel) rfl SH_126 (by decide) (by decide +kernel) ?_
          refine sd_iload_n (k := 1) (i := 1) (q := 1) (pc' := 40) (by decide +kernel) rfl rfl ?_
          refine sd_iload_n (k := 2) (i := 2) (q := 2) (pc' := 41) (by decide +kernel) rfl rfl ?_
          obtain ⟨g9, hf⟩ := gd_some hf
          obtain ⟨h10, e11, hf⟩ := hb_some hf
          refine sF_iast (n := 6) (pc' := 42) (by decide +kernel) SH_127 g9 ?_
          rw [← e11]; clear e11
          refine sd_aload_n (k := 0) (i := 0) (q := 0) (pc' := 43) (by decide +kernel) rfl rfl ?_
          refine sF_gr (idx := 13) (ci := 12) (k := 1) (n := 47) (r := 128) (pc' := 46) (by decide +kernel) fl_X12_13 (by decide +kernel) rfl SH_126 (by decide) (by decide +kernel) ?_
          refine sd_iload_n (k := 1) (i := 1) (q := 1) (pc' := 47) (by decide +kernel) rfl rfl ?_
          refine sd_iload_n (k := 3) (i := 3) (q := 3) (pc' := 48) (by decide +kernel) rfl rfl ?_
          obtain ⟨g12, hf⟩ := gd_some hf
          obtain ⟨h13, e14, hf⟩ := hb_some hf
          refine sF_iast (n := 6) (pc' := 49) (by decide +kernel) SH_128 g12 ?_
          rw [← e14]; clear e14
          refine sd_iconst (n := 0) (v := 0) (pc' := 50) (by decide +kernel) (by decide) ?_
          refine sd_istore (i := 4) (pc' := 52) (lo' := [(4, .int 0), (0, .ref (G.1 + 126)), (1, .int a0), (2, .int a1), (3, .int a2)]) (by decide +kernel) (by decide) rfl ?_
          refine sd_J.sub (lo' := [(0, .ref (G.1 + 126)), (1, .int a0), (3, .int a2), (4, .int 0)]) [1, 2, 4, 0] rfl ?_
          exact J_YM_row_L52 hE _ _ _ _ _ hf
        · replace hf := ite_n c8 hf
          refine sd_aload_n (k := 0) (i := 0) (q := 0) (pc' := 30) (by decide +kernel) rfl rfl ?_
          refine sd_iconst (n := 5) (v := 5) (pc' := 31) (by decide +kernel) (by decide) ?_
          obtain ⟨h23, t24, q22, hf⟩ := b2_some hf
          refine sF_callV (idx := 126) (b := 126) (As := [.int 5]) (ci := 12) (nn := 47) (pc' := 34) 1 (T_YM_meets (G := G) (h := h)  q22) (by decide +kernel) mv_YM_meets ml_X12_126 (by decide +kernel) rfl rfl (Nat.le_of_ble_eq_true rfl) SH_126 rfl (by decide) rfl rfl ?_
          obtain rfl := Option.some.inj hf
          exact sd_iret (by decide +kernel) rfl (hE _)
      · replace hf := ite_n c7 hf
        refine sd_bipush (n := -2) (v := (-2)) (pc' := 24) (by decide +kernel) (by decide) ?_
        obtain rfl := Option.some.inj hf
        exact sd_iret (by decide +kernel) rfl (hE _)

def M_YM_lose : sd_MX := (yX12_lose, cX12_lose, 3, (some .int), { frames := 3, cells := 0, slots := 0, locals := 82 })
def YM_lose_L35 : Nat → sd_H → Int32 → Int32 → Option (sd_H × Int32)
  | 0, _, _, _ => none
  | n + 1, h, l1, l2 =>
  (if 24 ≤ l2 then gd (sd_inB l1 6) (some (h, (h.1 128 (l1 : Int32).toNatClampNeg))) else gd (sd_inB ((24 * l1) + l2) 144) (hb (wI h 130 (((24 * l1) + l2) : Int32).toNatClampNeg (-1)) (fun h12 => YM_lose_L35 n h12 l1 (l2 + 1))))
set_option maxHeartbeats 4000000 in
set_option maxRecDepth 100000 in
theorem J_YM_lose_L35 {G : sd_GX} {X : sd_CX} (hE : ∀ g : sd_H, sd_end G X M_YM_lose (sd_F g))  {r : (sd_H × Int32)} : ∀ (n : Nat) (h : sd_H) (l1 : Int32) (l2 : Int32), YM_lose_L35 n h l1 l2 = some r → sd_J G X (sd_QR G X M_YM_lose (some (.int r.2), sd_F r.1)) M_YM_lose 35 [(0, .ref (G.1 + 126)), (1, .int l1), (2, .int l2)] [] (sd_F h) := by
  intro n
  induction n with
  | zero =>
    intro h l1 l2 hf
    rw [YM_lose_L35] at hf
    cases hf
  | succ n ih =>
    intro h l1 l2 hf
    rw [YM_lose_L35] at hf
    refine sd_iload_n (k := 2) (i := 2) (q := 2) (pc' := 36) (by decide +kernel) rfl rfl ?_
    refine sd_bipush (n := 24) (v := 24) (pc' := 38) (by decide +kernel) (by decide) ?_
    refine sd_icmp_ge (off := 21) (tgt := 59) (pc' := 41) (by decide +kernel) (fun c9 => ?_) (fun c9 => ?_)
    · replace hf := ite_p c9 hf
      refine sd_aload_n (k := 0) (i := 0) (q := 0) (pc' := 60) (by decide +kernel) rfl rfl ?_
      refine sF_gr (idx := 13) (ci := 12) (k := 1) (n := 47) (r := 128) (pc' := 63) (by decide +kernel) fl_X12_13 (by decide +kernel) rfl SH_126 (by decide) (by decide +kernel) ?_
      refine sd_iload_n (k := 1) (i := 1) (q := 1) (pc' := 64) (by decide +kernel) rfl rfl ?_
      obtain ⟨g10, hf⟩ := gd_some hf
      refine sF_iald (n := 6) (pc' := 65) (by decide +kernel) SH_128 g10 ?_
      obtain rfl := Option.some.inj hf
      exact sd_iret (by decide +kernel) rfl (hE _)
    · replace hf := ite_n c9 hf
      refine sd_aload_n (k := 0) (i := 0) (q := 0) (pc' := 42) (by decide +kernel) rfl rfl ?_
      refine sF_gr (idx := 20) (ci := 12) (k := 3) (n := 47) (r := 130) (pc' := 45) (by decide +kernel) fl_X12_20 (by decide +kernel) rfl SH_126 (by decide) (by decide +kernel) ?_
      refine sd_bipush (n := 24) (v := 24) (pc' := 47) (by decide +kernel) (by decide) ?_
      refine sd_iload_n (k := 1) (i := 1) (q := 1) (pc' := 48) (by decide +kernel) rfl rfl ?_
      refine sd_imul (pc' := 49) (by decide +kernel) ?_
      refine sd_iload_n (k := 2) (i := 2) (q := 2) (pc' := 50) (by decide +kernel) rfl rfl ?_
      refine sd_iadd (pc' := 51) (by decide +kernel) ?_
      refine sd_iconst (n := -1) (v := (-1)) (pc' := 52) (by decide +kernel) (by decide) ?_
      obtain ⟨g11, hf⟩ := gd_some hf
      obtain ⟨h12, e13, hf⟩ := hb_some hf
      refine sF_iast (n := 144) (pc' := 53) (by decide +kernel) SH_130 g11 ?_
      rw [← e13]; clear e13
      refine sd_iinc (i := 2) (q := 2) (n := 1) (v := (l2 + 1)) (pc' := 56) (lo' := [(2, .int (l2 + 1)), (0, .ref (G.1 + 126)), (1, .int l1)]) (by decide +kernel) rfl rfl (by decide) rfl ?_
      refine sd_goto (off := -21) (tgt := 35) (pc' := 59) (by decide +kernel) ?_
      refine sd_J.sub (lo' := [(0, .ref (G.1 + 126)), (1, .int l1), (2, .int (l2 + 1))]) [1, 2, 0] rfl ?_
      exact ih _ _ _ hf
def YM_lose (h : sd_H) (a0 : Int32) : Option (sd_H × Int32) :=
  b1 (YM_isRow a0) (fun t2 => (if t2 = 0 then some (h, (-2)) else gd (sd_inB a0 6) ((if (h.1 127 (a0 : Int32).toNatClampNeg) = (-1) then b2 (YM_meets h 1) (fun h15 t16 => some (h15, t16)) else gd (sd_inB a0 6) (hb (wI h 127 (a0 : Int32).toNatClampNeg (-1)) (fun h7 => YM_lose_L35 FU h7 a0 0))))))
set_option maxHeartbeats 4000000 in
set_option maxRecDepth 100000 in
theorem T_YM_lose {G : sd_GX} {h : sd_H} {a0 : Int32} {r : (sd_H × Int32)} (hf : YM_lose h a0 = some r) : sd_RunF G M_YM_lose [.ref (G.1 + 126), .int a0] h (some (.int r.2)) r.1 := by
  refine sF_run ⟨rfl, rfl⟩ (by decide +kernel) (Nat.le_of_ble_eq_true rfl) (lo := [(0, .ref (G.1 + 126)), (1, .int a0)]) rfl (fun X hE => ?_)
  unfold YM_lose at hf
  refine sd_iload_n (k := 1) (i := 1) (q := 1) (pc' := 1) (by decide +kernel) rfl rfl ?_
  obtain ⟨t2, q1, hf⟩ := b1_some hf
  refine sF_callS (idx := 122) (As := [.int a0]) (pc' := 4) 1 (T_YM_isRow (G := G) (h := h)  q1) (by decide +kernel) mv_YM_isRow ml_X12_122 (by decide +kernel) rfl rfl (Nat.le_of_ble_eq_true rfl) rfl ?_
  refine sd_if_ne (off := 6) (tgt := 10) (pc' := 7) (by decide +kernel) (fun c3 => ?_) (fun c3 => ?_)
  · replace hf := ite_n c3 hf
    refine sd_aload_n (k := 0) (i := 0) (q := 0) (pc' := 11) (by decide +kernel) rfl rfl ?_
    refine sF_gr (idx := 7) (ci := 12) (k := 0) (n := 47) (r := 127) (pc' := 14) (by decide +kernel) fl_X12_7 (by decide +kernel) rfl SH_126 (by decide) (by decide +kernel) ?_
    refine sd_iload_n (k := 1) (i := 1) (q := 1) (pc' := 15) (by decide +kernel) rfl rfl ?_
    obtain ⟨g4, hf⟩ := gd_some hf
    refine sF_iald (n := 6) (pc' := 16) (by decide +kernel) SH_127 g4 ?_
    refine sd_iconst (n := -1) (v := (-1)) (pc' := 17) (by decide +kernel) (by decide) ?_
    refine sd_icmp_ne (off := 9) (tgt := 26) (pc' := 20) (by decide +kernel) (fun c5 => ?_) (fun c5 => ?_)
    · replace hf := ite_n c5 hf
      refine sd_aload_n (k := 0) (i := 0) (q := 0) (pc' := 27) (by decide +kernel) rfl rfl ?_
      refine sF_gr (idx := 7) (ci := 12) (k := 0) (n := 47) (r := 127) (pc' := 30) (by decide +kernel) fl_X12_7 (by decide +kernel) rfl SH_126 (by decide) (by decide +kernel) ?_
      refine sd_iload_n (k := 1) (i := 1) (q := 1) (pc' := 31) (by decide +kernel) rfl rfl ?_
      refine sd_iconst (n := -1) (v := (-1)) (pc' := 32) (by decide +kernel) (by decide) ?_
      obtain ⟨g6, hf⟩ := gd_some hf
      obtain ⟨h7, e8, hf⟩ := hb_some hf
      refine sF_iast (n := 6) (pc' := 33) (by decide +kernel) SH_127 g6 ?_
      rw [← e8]; clear e8
      refine sd_iconst (n := 0) (v := 0) (pc' := 34) (by decide +kernel) (by decide) ?_
      refine sd_istore_n (k := 2) (i := 2) (pc' := 35) (lo' := [(2, .int 0), (0, .ref (G.1 + 126)), (1, .int a0)]) (by decide +kernel) rfl (by decide) rfl ?_
      refine sd_J.sub (lo' := [(0, .ref (G.1 + 126)), (1, .int a0), (2, .int 0)]) [1, 2, 0] rfl ?_
      exact J_YM_lose_L35 hE _ _ _ _ hf
    · replace hf := ite_p c5 hf
      refine sd_aload_n (k := 0) (i := 0) (q := 0) (pc' := 21) (by decide +kernel) rfl rfl ?_
      refine sd_iconst (n := 1) (v := 1) (pc' := 22) (by decide +kernel) (by decide) ?_
      obtain ⟨h15, t16, q14, hf⟩ := b2_some hf
      refine sF_callV (idx := 126) (b := 126) (As := [.int 1]) (ci := 12) (nn := 47) (pc' := 25) 1 (T_YM_meets (G := G) (h := h)  q14) (by decide +kernel) mv_YM_meets ml_X12_126 (by decide +kernel) rfl rfl (Nat.le_of_ble_eq_true rfl) SH_126 rfl (by decide) rfl rfl ?_
      obtain rfl := Option.some.inj hf
      exact sd_iret (by decide +kernel) rfl (hE _)
  · replace hf := ite_p c3 hf
    refine sd_bipush (n := -2) (v := (-2)) (pc' := 9) (by decide +kernel) (by decide) ?_
    obtain rfl := Option.some.inj hf
    exact sd_iret (by decide +kernel) rfl (hE _)

def M_YM_put : sd_MX := (yX12_put, cX12_put, 6, (some .int), { frames := 3, cells := 0, slots := 0, locals := 82 })
def YM_put_B149 (h : sd_H) (s0 : UInt64) (s1 : Int32) : Option (sd_H × Int32) :=
  gd (sd_inB s1 144) (hb (wD h 129 (s1 : Int32).toNatClampNeg s0) (fun h21 => some (h21, 1)))
set_option maxHeartbeats 4000000 in
set_option maxRecDepth 100000 in
theorem J_YM_put_B149 {G : sd_GX} {X : sd_CX} (hE : ∀ g : sd_H, sd_end G X M_YM_put (sd_F g)) {h : sd_H} {r : (sd_H × Int32)} {s0 : UInt64} {s1 : Int32} (hf : YM_put_B149 h s0 s1 = some r) : sd_J G X (sd_QR G X M_YM_put (some (.int r.2), sd_F r.1)) M_YM_put 149 [] [.double s0, .int s1, .ref (G.1 + 129)] (sd_F h) := by
  unfold YM_put_B149 at hf
  obtain ⟨g20, hf⟩ := gd_some hf
  obtain ⟨h21, e22, hf⟩ := hb_some hf
  refine sF_dast (n := 144) (pc' := 150) (by decide +kernel) SH_129 g20 ?_
  rw [← e22]; clear e22
  refine sd_iconst (n := 1) (v := 1) (pc' := 151) (by decide +kernel) (by decide) ?_
  obtain rfl := Option.some.inj hf
  exact sd_iret (by decide +kernel) rfl (hE _)
def YM_put_B68 (h : sd_H) (l1 : Int32) (l2 : Int32) (l3 : Int32) (l4 : Int32) (s0 : Int32) : Option (sd_H × Int32) :=
  (if s0 ≤ 0 then (if l2 = 0 then YM_put_B149 h (FP.i2d (i2s l4)) ((24 * l1) + l3) else (if l2 = 1 then YM_put_B149 h (FP.i2d l4) ((24 * l1) + l3) else (if l2 = 2 then gd (nf (FP.fdiv (FP.i2f l4) 1090519040)) (gd (nd (FP.f2d (FP.fdiv (FP.i2f l4) 1090519040))) (YM_put_B149 h (FP.f2d (FP.fdiv (FP.i2f l4) 1090519040)) ((24 * l1) + l3))) else (if l2 = 3 then gd (nd (FP.ddiv (FP.i2d l4) 4620693217682128896)) (YM_put_B149 h (FP.ddiv (FP.i2d l4) 4620693217682128896) ((24 * l1) + l3)) else YM_put_B149 h (FP.i2d (l4 &&& 1)) ((24 * l1) + l3))))) else b2 (YM_meets h s0) (fun h27 t28 => some (h27, t28)))
set_option maxHeartbeats 4000000 in
set_option maxRecDepth 100000 in
theorem J_YM_put_B68 {G : sd_GX} {X : sd_CX} (hE : ∀ g : sd_H, sd_end G X M_YM_put (sd_F g)) {h : sd_H} {r : (sd_H × Int32)} {l1 : Int32} {l2 : Int32} {l3 : Int32} {l4 : Int32} {s0 : Int32} (hf : YM_put_B68 h l1 l2 l3 l4 s0 = some r) : sd_J G X (sd_QR G X M_YM_put (some (.int r.2), sd_F r.1)) M_YM_put 68 [(0, .ref (G.1 + 126)), (1, .int l1), (2, .int l2), (3, .int l3), (4, .int l4)] [.int s0] (sd_F h) := by
  unfold YM_put_B68 at hf
  refine sd_istore (i := 5) (pc' := 70) (lo' := [(5, .int s0), (0, .ref (G.1 + 126)), (1, .int l1), (2, .int l2), (3, .int l3), (4, .int l4)]) (by decide +kernel) (by decide) rfl ?_
  refine sd_iload (i := 5) (q := 0) (pc' := 72) (by decide +kernel) rfl ?_
  refine sd_if_le (off := 10) (tgt := 82) (pc' := 75) (by decide +kernel) (fun c15 => ?_) (fun c15 => ?_)
  · replace hf := ite_p c15 hf
    refine sd_aload_n (k := 0) (i := 0) (q := 1) (pc' := 83) (by decide +kernel) rfl rfl ?_
    refine sF_gr (idx := 16) (ci := 12) (k := 2) (n := 47) (r := 129) (pc' := 86) (by decide +kernel) fl_X12_16 (by decide +kernel) rfl SH_126 (by decide) (by decide +kernel) ?_
    refine sd_bipush (n := 24) (v := 24) (pc' := 88) (by decide +kernel) (by decide) ?_
    refine sd_iload_n (k := 1) (i := 1) (q := 2) (pc' := 89) (by decide +kernel) rfl rfl ?_
    refine sd_imul (pc' := 90) (by decide +kernel) ?_
    refine sd_iload_n (k := 3) (i := 3) (q := 4) (pc' := 91) (by decide +kernel) rfl rfl ?_
    refine sd_iadd (pc' := 92) (by decide +kernel) ?_
    refine sd_iload_n (k := 2) (i := 2) (q := 3) (pc' := 93) (by decide +kernel) rfl rfl ?_
    refine sd_if_ne (off := 10) (tgt := 103) (pc' := 96) (by decide +kernel) (fun c16 => ?_) (fun c16 => ?_)
    · replace hf := ite_n c16 hf
      refine sd_iload_n (k := 2) (i := 2) (q := 3) (pc' := 104) (by decide +kernel) rfl rfl ?_
      refine sd_iconst (n := 1) (v := 1) (pc' := 105) (by decide +kernel) (by decide) ?_
      refine sd_icmp_ne (off := 9) (tgt := 114) (pc' := 108) (by decide +kernel) (fun c17 => ?_) (fun c17 => ?_)
      · replace hf := ite_n c17 hf
        refine sd_iload_n (k := 2) (i := 2) (q := 3) (pc' := 115) (by decide +kernel) rfl rfl ?_
        refine sd_iconst (n := 2) (v := 2) (pc' := 116) (by decide +kernel) (by decide) ?_
        refine sd_icmp_ne (off := 13) (tgt := 129) (pc' := 119) (by decide +kernel) (fun c18 => ?_) (fun c18 => ?_)
        · replace hf := ite_n c18 hf
          refine sd_iload_n (k := 2) (i := 2) (q := 3) (pc' := 130) (by decide +kernel) rfl rfl ?_
          refine sd_iconst (n := 3) (v := 3) (pc' := 131) (by decide +kernel) (by decide) ?_
          refine sd_icmp_ne (off := 13) (tgt := 144) (pc' := 134) (by decide +kernel) (fun c19 => ?_) (fun c19 => ?_)
          · replace hf := ite_n c19 hf
            refine sd_iload (i := 4) (q := 5) (pc' := 146) (by decide +kernel) rfl ?_
            refine sd_iconst (n := 1) (v := 1) (pc' := 147) (by decide +kernel) (by decide) ?_
            refine sd_iand (pc' := 148) (by decide +kernel) ?_
            refine sd_i2d (pc' := 149) (by decide +kernel) ?_
            refine sd_J.sub (lo' := []) [] rfl ?_
            exact J_YM_put_B149 hE hf
          · replace hf := ite_p c19 hf
            refine sd_iload (i := 4) (q := 5) (pc' := 136) (by decide +kernel) rfl ?_
            refine sd_i2d (pc' := 137) (by decide +kernel) ?_
            refine sd_ldc2d (idx := 131) (v := 4620693217682128896) (pc' := 140) (by decide +kernel) (sd_mem (i := 1314) (by decide +kernel)) ?_
            obtain ⟨g23, hf⟩ := gd_some hf
            refine sd_ddiv (pc' := 141) (by decide +kernel) (nd_of g23) ?_
            refine sd_goto (off := 8) (tgt := 149) (pc' := 144) (by decide +kernel) ?_
            refine sd_J.sub (lo' := []) [] rfl ?_
            exact J_YM_put_B149 hE hf
        · replace hf := ite_p c18 hf
          refine sd_iload (i := 4) (q := 5) (pc' := 121) (by decide +kernel) rfl ?_
          refine sd_i2f (pc' := 122) (by decide +kernel) ?_
          refine sd_ldcf (idx := 130) (v := 1090519040) (pc' := 124) (by decide +kernel) (sd_mem (i := 1313) (by decide +kernel)) ?_
          obtain ⟨g24, hf⟩ := gd_some hf
          refine sd_fdiv (pc' := 125) (by decide +kernel) (nf_of g24) ?_
          obtain ⟨g25, hf⟩ := gd_some hf
          refine sd_f2d (pc' := 126) (by decide +kernel) (nd_of g25) ?_
          refine sd_goto (off := 23) (tgt := 149) (pc' := 129) (by decide +kernel) ?_
          refine sd_J.sub (lo' := []) [] rfl ?_
          exact J_YM_put_B149 hE hf
      · replace hf := ite_p c17 hf
        refine sd_iload (i := 4) (q := 5) (pc' := 110) (by decide +kernel) rfl ?_
        refine sd_i2d (pc' := 111) (by decide +kernel) ?_
        refine sd_goto (off := 38) (tgt := 149) (pc' := 114) (by decide +kernel) ?_
        refine sd_J.sub (lo' := []) [] rfl ?_
        exact J_YM_put_B149 hE hf
    · replace hf := ite_p c16 hf
      refine sd_iload (i := 4) (q := 5) (pc' := 98) (by decide +kernel) rfl ?_
      refine sd_i2s (pc' := 99) (by decide +kernel) rfl ?_
      refine sd_i2d (pc' := 100) (by decide +kernel) ?_
      refine sd_goto (off := 49) (tgt := 149) (pc' := 103) (by decide +kernel) ?_
      refine sd_J.sub (lo' := []) [] rfl ?_
      exact J_YM_put_B149 hE hf
  · replace hf := ite_n c15 hf
    refine sd_aload_n (k := 0) (i := 0) (q := 1) (pc' := 76) (by decide +kernel) rfl rfl ?_
    refine sd_iload (i := 5) (q := 0) (pc' := 78) (by decide +kernel) rfl ?_
    obtain ⟨h27, t28, q26, hf⟩ := b2_some hf
    refine sF_callV (idx := 126) (b := 126) (As := [.int s0]) (ci := 12) (nn := 47) (pc' := 81) 1 (T_YM_meets (G := G) (h := h)  q26) (by decide +kernel) mv_YM_meets ml_X12_126 (by decide +kernel) rfl rfl (Nat.le_of_ble_eq_true rfl) SH_126 rfl (by decide) rfl rfl ?_
    obtain rfl := Option.some.inj hf
    exact sd_iret (by decide +kernel) rfl (hE _)
def YM_put (h : sd_H) (a0 : Int32) (a1 : Int32) (a2 : Int32) (a3 : Int32) : Option (sd_H × Int32) :=
  b1 (YM_isRow a0) (fun t2 => (if t2 = 0 then some (h, (-2)) else b1 (YM_in a1 0 4) (fun t5 => (if t5 = 0 then some (h, (-2)) else gd (sd_inB a0 6) ((if (h.1 127 (a0 : Int32).toNatClampNeg) = (-1) then YM_put_B68 h a0 a1 a2 a3 1 else gd (sd_inB a0 6) ((if (h.1 127 (a0 : Int32).toNatClampNeg) = a1 then gd (sd_inB a0 6) (b1 (YM_in a2 0 ((h.1 128 (a0 : Int32).toNatClampNeg) - 1)) (fun t13 => (if t13 = 0 then YM_put_B68 h a0 a1 a2 a3 2 else YM_put_B68 h a0 a1 a2 a3 0))) else YM_put_B68 h a0 a1 a2 a3 3))))))))
set_option maxHeartbeats 4000000 in
set_option maxRecDepth 100000 in
theorem T_YM_put {G : sd_GX} {h : sd_H} {a0 : Int32} {a1 : Int32} {a2 : Int32} {a3 : Int32} {r : (sd_H × Int32)} (hf : YM_put h a0 a1 a2 a3 = some r) : sd_RunF G M_YM_put [.ref (G.1 + 126), .int a0, .int a1, .int a2, .int a3] h (some (.int r.2)) r.1 := by
  refine sF_run ⟨rfl, rfl⟩ (by decide +kernel) (Nat.le_of_ble_eq_true rfl) (lo := [(0, .ref (G.1 + 126)), (1, .int a0), (2, .int a1), (3, .int a2), (4, .int a3)]) rfl (fun X hE => ?_)
  unfold YM_put at hf
  refine sd_iload_n (k := 1) (i := 1) (q := 1) (pc' := 1) (by decide +kernel) rfl rfl ?_
  obtain ⟨t2, q1, hf⟩ := b1_some hf
  refine sF_callS (idx := 122) (As := [.int a0]) (pc' := 4) 1 (T_YM_isRow (G := G) (h := h)  q1) (by decide +kernel) mv_YM_isRow ml_X12_122 (by decide +kernel) rfl rfl (Nat.le_of_ble_eq_true rfl) rfl ?_
  refine sd_if_eq (off := 12) (tgt := 16) (pc' := 7) (by decide +kernel) (fun c3 => ?_) (fun c3 => ?_)
  · replace hf := ite_p c3 hf
    refine sd_bipush (n := -2) (v := (-2)) (pc' := 18) (by decide +kernel) (by decide) ?_
    obtain rfl := Option.some.inj hf
    exact sd_iret (by decide +kernel) rfl (hE _)
  · replace hf := ite_n c3 hf
    refine sd_iload_n (k := 2) (i := 2) (q := 2) (pc' := 8) (by decide +kernel) rfl rfl ?_
    refine sd_iconst (n := 0) (v := 0) (pc' := 9) (by decide +kernel) (by decide) ?_
    refine sd_iconst (n := 4) (v := 4) (pc' := 10) (by decide +kernel) (by decide) ?_
    obtain ⟨t5, q4, hf⟩ := b1_some hf
    refine sF_callS (idx := 114) (As := [.int a1, .int 0, .int 4]) (pc' := 13) 3 (T_YM_in (G := G) (h := h)  q4) (by decide +kernel) mv_YM_in ml_X12_114 (by decide +kernel) rfl rfl (Nat.le_of_ble_eq_true rfl) rfl ?_
    refine sd_if_ne (off := 6) (tgt := 19) (pc' := 16) (by decide +kernel) (fun c6 => ?_) (fun c6 => ?_)
    · replace hf := ite_n c6 hf
      refine sd_aload_n (k := 0) (i := 0) (q := 0) (pc' := 20) (by decide +kernel) rfl rfl ?_
      refine sF_gr (idx := 7) (ci := 12) (k := 0) (n := 47) (r := 127) (pc' := 23) (by decide +kernel) fl_X12_7 (by decide +kernel) rfl SH_126 (by decide) (by decide +kernel) ?_
      refine sd_iload_n (k := 1) (i := 1) (q := 1) (pc' := 24) (by decide +kernel) rfl rfl ?_
      obtain ⟨g7, hf⟩ := gd_some hf
      refine sF_iald (n := 6) (pc' := 25) (by decide +kernel) SH_127 g7 ?_
      refine sd_iconst (n := -1) (v := (-1)) (pc' := 26) (by decide +kernel) (by decide) ?_
      refine sd_icmp_ne (off := 7) (tgt := 33) (pc' := 29) (by decide +kernel) (fun c8 => ?_) (fun c8 => ?_)
      · replace hf := ite_n c8 hf
        refine sd_aload_n (k := 0) (i := 0) (q := 0) (pc' := 34) (by decide +kernel) rfl rfl ?_
        refine sF_gr (idx := 7) (ci := 12) (k := 0) (n := 47) (r := 127) (pc' := 37) (by decide +kernel) fl_X12_7 (by decide +kernel) rfl SH_126 (by decide) (by decide +kernel) ?_
        refine sd_iload_n (k := 1) (i := 1) (q := 1) (pc' := 38) (by decide +kernel) rfl rfl ?_
        obtain ⟨g9, hf⟩ := gd_some hf
        refine sF_iald (n := 6) (pc' := 39) (by decide +kernel) SH_127 g9 ?_
        refine sd_iload_n (k := 2) (i := 2) (q := 2) (pc' := 40) (by decide +kernel) rfl rfl ?_
        refine sd_icmp_eq (off := 7) (tgt := 47) (pc' := 43) (by decide +kernel) (fun c10 => ?_) (fun c10 => ?_)
        · replace hf := ite_p c10 hf
          refine sd_iload_n (k := 3) (i := 3) (q := 3) (pc' := 48) (by decide +kernel) rfl rfl ?_
          refine sd_iconst (n := 0) (v := 0) (pc' := 49) (by decide +kernel) (by decide) ?_
          refine sd_aload_n (k := 0) (i := 0) (q := 0) (pc' := 50) (by decide +kernel) rfl rfl ?_
          refine sF_gr (idx := 13) (ci := 12) (k := 1) (n := 47) (r := 128) (pc' := 53) (by decide +kernel) fl_X12_13 (by decide +kernel) rfl SH_126 (by decide) (by decide +kernel) ?_
          refine sd_iload_n (k := 1) (i := 1) (q := 1) (pc' := 54) (by decide +kernel) rfl rfl ?_
          obtain ⟨g11, hf⟩ := gd_some hf
          refine sF_iald (n := 6) (pc' := 55) (by decide +kernel) SH_128 g11 ?_
          refine sd_iconst (n := 1) (v := 1) (pc' := 56) (by decide +kernel) (by decide) ?_
          refine sd_isub (pc' := 57) (by decide +kernel) ?_
          obtain ⟨t13, q12, hf⟩ := b1_some hf
          refine sF_callS (idx := 114) (As := [.int a2, .int 0, .int ((h.1 128 (a0 : Int32).toNatClampNeg) - 1)]) (pc' := 60) 3 (T_YM_in (G := G) (h := h)  q12) (by decide +kernel) mv_YM_in ml_X12_114 (by decide +kernel) rfl rfl (Nat.le_of_ble_eq_true rfl) rfl ?_
          refine sd_if_eq (off := 7) (tgt := 67) (pc' := 63) (by decide +kernel) (fun c14 => ?_) (fun c14 => ?_)
          · replace hf := ite_p c14 hf
            refine sd_iconst (n := 2) (v := 2) (pc' := 68) (by decide +kernel) (by decide) ?_
            refine sd_J.sub (lo' := [(0, .ref (G.1 + 126)), (1, .int a0), (2, .int a1), (3, .int a2), (4, .int a3)]) [0, 1, 2, 3, 4] rfl ?_
            exact J_YM_put_B68 hE hf
          · replace hf := ite_n c14 hf
            refine sd_iconst (n := 0) (v := 0) (pc' := 64) (by decide +kernel) (by decide) ?_
            refine sd_goto (off := 4) (tgt := 68) (pc' := 67) (by decide +kernel) ?_
            refine sd_J.sub (lo' := [(0, .ref (G.1 + 126)), (1, .int a0), (2, .int a1), (3, .int a2), (4, .int a3)]) [0, 1, 2, 3, 4] rfl ?_
            exact J_YM_put_B68 hE hf
        · replace hf := ite_n c10 hf
          refine sd_iconst (n := 3) (v := 3) (pc' := 44) (by decide +kernel) (by decide) ?_
          refine sd_goto (off := 24) (tgt := 68) (pc' := 47) (by decide +kernel) ?_
          refine sd_J.sub (lo' := [(0, .ref (G.1 + 126)), (1, .int a0), (2, .int a1), (3, .int a2), (4, .int a3)]) [0, 1, 2, 3, 4] rfl ?_
          exact J_YM_put_B68 hE hf
      · replace hf := ite_p c8 hf
        refine sd_iconst (n := 1) (v := 1) (pc' := 30) (by decide +kernel) (by decide) ?_
        refine sd_goto (off := 38) (tgt := 68) (pc' := 33) (by decide +kernel) ?_
        refine sd_J.sub (lo' := [(0, .ref (G.1 + 126)), (1, .int a0), (2, .int a1), (3, .int a2), (4, .int a3)]) [0, 1, 2, 3, 4] rfl ?_
        exact J_YM_put_B68 hE hf
    · replace hf := ite_p c6 hf
      refine sd_bipush (n := -2) (v := (-2)) (pc' := 18) (by decide +kernel) (by decide) ?_
      obtain rfl := Option.some.inj hf
      exact sd_iret (by decide +kernel) rfl (hE _)

def M_YM_bitsOf : sd_MX := (yX12_bitsOf, cX12_bitsOf, 11, (some .long), { frames := 1, cells := 0, slots := 0, locals := 40 })
def YM_bitsOf_L81 : Nat → Int32 → Int32 → UInt64 → Int32 → UInt64 → Int32 → Option Int64
  | 0, _, _, _, _, _, _ => none
  | n + 1, l2, l3, l4, l6, l7, l9 =>
  (if l2 ≤ l9 then (if 0 ≤ (Op.cmpValue (FP.dcmp l4 FP.dconst1) .g) then some (((FP.d2l l7) - (lshl 1 l2)) + (lshl (Int32.toInt64 ((l6 - l3) + 1)) l2)) else some (FP.d2l l7)) else gd (nd (FP.dmul l7 4611686018427387904)) (YM_bitsOf_L81 n l2 l3 l4 l6 (FP.dmul l7 4611686018427387904) (l9 + 1)))
set_option maxHeartbeats 4000000 in
set_option maxRecDepth 100000 in
theorem J_YM_bitsOf_L81 {G : sd_GX} {X : sd_CX} (hE : ∀ g : sd_H, sd_end G X M_YM_bitsOf (sd_F g)) {h : sd_H} {r : Int64} : ∀ (n : Nat) (l2 : Int32) (l3 : Int32) (l4 : UInt64) (l6 : Int32) (l7 : UInt64) (l9 : Int32), YM_bitsOf_L81 n l2 l3 l4 l6 l7 l9 = some r → sd_J G X (sd_QR G X M_YM_bitsOf (some (.long r), sd_F h)) M_YM_bitsOf 81 [(2, .int l2), (3, .int l3), (4, .double l4), (6, .int l6), (7, .double l7), (9, .int l9)] [] (sd_F h) := by
  intro n
  induction n with
  | zero =>
    intro l2 l3 l4 l6 l7 l9 hf
    rw [YM_bitsOf_L81] at hf
    cases hf
  | succ n ih =>
    intro l2 l3 l4 l6 l7 l9 hf
    rw [YM_bitsOf_L81] at hf
    refine sd_iload (i := 9) (q := 5) (pc' := 83) (by decide +kernel) rfl ?_
    refine sd_iload_n (k := 2) (i := 2) (q := 0) (pc' := 84) (by decide +kernel) rfl rfl ?_
    refine sd_icmp_ge (off := 17) (tgt := 101) (pc' := 87) (by decide +kernel) (fun c4 => ?_) (fun c4 => ?_)
    · replace hf := ite_p c4 hf
      refine sd_dload (i := 7) (q := 4) (pc' := 103) (by decide +kernel) rfl ?_
      refine sd_d2l (pc' := 104) (by decide +kernel) ?_
      refine sd_lstore (i := 9) (pc' := 106) (lo' := [(9, .long (FP.d2l l7)), (2, .int l2), (3, .int l3), (4, .double l4), (6, .int l6), (7, .double l7)]) (by decide +kernel) (by decide) rfl ?_
      refine sd_dload (i := 4) (q := 3) (pc' := 108) (by decide +kernel) rfl ?_
      refine sd_dconst1 (pc' := 109) (by decide +kernel) ?_
      refine sd_dcmp (op := .g) (pc' := 110) (by decide +kernel) ?_
      refine sd_if_ge (off := 8) (tgt := 118) (pc' := 113) (by decide +kernel) (fun c5 => ?_) (fun c5 => ?_)
      · replace hf := ite_p c5 hf
        refine sd_lload (i := 9) (q := 0) (pc' := 120) (by decide +kernel) rfl ?_
        refine sd_lconst (n := 1) (v := 1) (pc' := 121) (by decide +kernel) (by decide) ?_
        refine sd_iload_n (k := 2) (i := 2) (q := 1) (pc' := 122) (by decide +kernel) rfl rfl ?_
        refine sd_lshl (pc' := 123) (by decide +kernel) rfl ?_
        refine sd_lsub (pc' := 124) (by decide +kernel) ?_
        refine sd_iload (i := 6) (q := 4) (pc' := 126) (by decide +kernel) rfl ?_
        refine sd_iload_n (k := 3) (i := 3) (q := 2) (pc' := 127) (by decide +kernel) rfl rfl ?_
        refine sd_isub (pc' := 128) (by decide +kernel) ?_
        refine sd_iconst (n := 1) (v := 1) (pc' := 129) (by decide +kernel) (by decide) ?_
        refine sd_iadd (pc' := 130) (by decide +kernel) ?_
        refine sd_i2l (pc' := 131) (by decide +kernel) rfl ?_
        refine sd_iload_n (k := 2) (i := 2) (q := 1) (pc' := 132) (by decide +kernel) rfl rfl ?_
        refine sd_lshl (pc' := 133) (by decide +kernel) rfl ?_
        refine sd_ladd (pc' := 134) (by decide +kernel) ?_
        obtain rfl := Option.some.inj hf
        exact sd_lret (by decide +kernel) rfl (hE _)
      · replace hf := ite_n c5 hf
        refine sd_lload (i := 9) (q := 0) (pc' := 115) (by decide +kernel) rfl ?_
        refine sd_goto (off := 19) (tgt := 134) (pc' := 118) (by decide +kernel) ?_
        obtain rfl := Option.some.inj hf
        exact sd_lret (by decide +kernel) rfl (hE _)
    · replace hf := ite_n c4 hf
      refine sd_dload (i := 7) (q := 4) (pc' := 89) (by decide +kernel) rfl ?_
      refine sd_ldc2d (idx := 133) (v := 4611686018427387904) (pc' := 92) (by decide +kernel) (sd_mem (i := 1334) (by decide +kernel)) ?_
      obtain ⟨g6, hf⟩ := gd_some hf
      refine sd_dmul (pc' := 93) (by decide +kernel) (nd_of g6) ?_
      refine sd_dstore (i := 7) (pc' := 95) (lo' := [(7, .double (FP.dmul l7 4611686018427387904)), (2, .int l2), (3, .int l3), (4, .double l4), (6, .int l6), (9, .int l9)]) (by decide +kernel) (by decide) rfl ?_
      refine sd_iinc (i := 9) (q := 5) (n := 1) (v := (l9 + 1)) (pc' := 98) (lo' := [(9, .int (l9 + 1)), (7, .double (FP.dmul l7 4611686018427387904)), (2, .int l2), (3, .int l3), (4, .double l4), (6, .int l6)]) (by decide +kernel) rfl rfl (by decide) rfl ?_
      refine sd_goto (off := -17) (tgt := 81) (pc' := 101) (by decide +kernel) ?_
      refine sd_J.sub (lo' := [(2, .int l2), (3, .int l3), (4, .double l4), (6, .int l6), (7, .double (FP.dmul l7 4611686018427387904)), (9, .int (l9 + 1))]) [2, 3, 4, 5, 1, 0] rfl ?_
      exact ih _ _ _ _ _ _ hf
def YM_bitsOf_B74 (l2 : Int32) (l3 : Int32) (l4 : UInt64) (l6 : Int32) : Option Int64 :=
  YM_bitsOf_L81 FU l2 l3 l4 l6 l4 0
set_option maxHeartbeats 4000000 in
set_option maxRecDepth 100000 in
theorem J_YM_bitsOf_B74 {G : sd_GX} {X : sd_CX} (hE : ∀ g : sd_H, sd_end G X M_YM_bitsOf (sd_F g)) {h : sd_H} {r : Int64} {l2 : Int32} {l3 : Int32} {l4 : UInt64} {l6 : Int32} (hf : YM_bitsOf_B74 l2 l3 l4 l6 = some r) : sd_J G X (sd_QR G X M_YM_bitsOf (some (.long r), sd_F h)) M_YM_bitsOf 74 [(2, .int l2), (3, .int l3), (4, .double l4), (6, .int l6)] [] (sd_F h) := by
  unfold YM_bitsOf_B74 at hf
  refine sd_dload (i := 4) (q := 2) (pc' := 76) (by decide +kernel) rfl ?_
  refine sd_dstore (i := 7) (pc' := 78) (lo' := [(7, .double l4), (2, .int l2), (3, .int l3), (4, .double l4), (6, .int l6)]) (by decide +kernel) (by decide) rfl ?_
  refine sd_iconst (n := 0) (v := 0) (pc' := 79) (by decide +kernel) (by decide) ?_
  refine sd_istore (i := 9) (pc' := 81) (lo' := [(9, .int 0), (7, .double l4), (2, .int l2), (3, .int l3), (4, .double l4), (6, .int l6)]) (by decide +kernel) (by decide) rfl ?_
  refine sd_J.sub (lo' := [(2, .int l2), (3, .int l3), (4, .double l4), (6, .int l6), (7, .double l4), (9, .int 0)]) [2, 3, 4, 5, 1, 0] rfl ?_
  exact J_YM_bitsOf_L81 hE (h := h) _ _ _ _ _ _ _ hf
def YM_bitsOf_L40 : Nat → Int32 → Int32 → UInt64 → Int32 → Option Int64
  | 0, _, _, _, _ => none
  | n + 1, l2, l3, l4, l6 =>
  (if 0 ≤ (Op.cmpValue (FP.dcmp l4 FP.dconst1) .g) then YM_bitsOf_B74 l2 l3 l4 l6 else (if l6 ≤ l3 then YM_bitsOf_B74 l2 l3 l4 l6 else (if (Op.cmpValue (FP.dcmp l4 FP.dconst0) .l) ≤ 0 then YM_bitsOf_B74 l2 l3 l4 l6 else gd (nd (FP.dmul l4 4611686018427387904)) (YM_bitsOf_L40 n l2 l3 (FP.dmul l4 4611686018427387904) (l6 + (-1))))))
set_option maxHeartbeats 4000000 in
set_option maxRecDepth 100000 in
theorem J_YM_bitsOf_L40 {G : sd_GX} {X : sd_CX} (hE : ∀ g : sd_H, sd_end G X M_YM_bitsOf (sd_F g)) {h : sd_H} {r : Int64} : ∀ (n : Nat) (l2 : Int32) (l3 : Int32) (l4 : UInt64) (l6 : Int32), YM_bitsOf_L40 n l2 l3 l4 l6 = some r → sd_J G X (sd_QR G X M_YM_bitsOf (some (.long r), sd_F h)) M_YM_bitsOf 40 [(2, .int l2), (3, .int l3), (4, .double l4), (6, .int l6)] [] (sd_F h) := by
  intro n
  induction n with
  | zero =>
    intro l2 l3 l4 l6 hf
    rw [YM_bitsOf_L40] at hf
    cases hf
  | succ n ih =>
    intro l2 l3 l4 l6 hf
    rw [YM_bitsOf_L40] at hf
    refine sd_dload (i := 4) (q := 2) (pc' := 42) (by decide +kernel) rfl ?_
    refine sd_dconst1 (pc' := 43) (by decide +kernel) ?_
    refine sd_dcmp (op := .g) (pc' := 44) (by decide +kernel) ?_
    refine sd_if_ge (off := 30) (tgt := 74) (pc' := 47) (by decide +kernel) (fun c3 => ?_) (fun c3 => ?_)
    · replace hf := ite_p c3 hf
      refine sd_J.sub (lo' := [(2, .int l2), (3, .int l3), (4, .double l4), (6, .int l6)]) [0, 1, 2, 3] rfl ?_
      exact J_YM_bitsOf_B74 hE (h := h) hf
    · replace hf := ite_n c3 hf
      refine sd_iload (i := 6) (q := 3) (pc' := 49) (by decide +kernel) rfl ?_
      refine sd_iload_n (k := 3) (i := 3) (q := 1) (pc' := 50) (by decide +kernel) rfl rfl ?_
      refine sd_icmp_le (off := 24) (tgt := 74) (pc' := 53) (by decide +kernel) (fun c7 => ?_) (fun c7 => ?_)
      · replace hf := ite_p c7 hf
        refine sd_J.sub (lo' := [(2, .int l2), (3, .int l3), (4, .double l4), (6, .int l6)]) [0, 1, 2, 3] rfl ?_
        exact J_YM_bitsOf_B74 hE (h := h) hf
      · replace hf := ite_n c7 hf
        refine sd_dload (i := 4) (q := 2) (pc' := 55) (by decide +kernel) rfl ?_
        refine sd_dconst0 (pc' := 56) (by decide +kernel) ?_
        refine sd_dcmp (op := .l) (pc' := 57) (by decide +kernel) ?_
        refine sd_if_le (off := 17) (tgt := 74) (pc' := 60) (by decide +kernel) (fun c8 => ?_) (fun c8 => ?_)
        · replace hf := ite_p c8 hf
          refine sd_J.sub (lo' := [(2, .int l2), (3, .int l3), (4, .double l4), (6, .int l6)]) [0, 1, 2, 3] rfl ?_
          exact J_YM_bitsOf_B74 hE (h := h) hf
        · replace hf := ite_n c8 hf
          refine sd_dload (i := 4) (q := 2) (pc' := 62) (by decide +kernel) rfl ?_
          refine sd_ldc2d (idx := 133) (v := 4611686018427387904) (pc' := 65) (by decide +kernel) (sd_mem (i := 1334) (by decide +kernel)) ?_
          obtain ⟨g9, hf⟩ := gd_some hf
          refine sd_dmul (pc' := 66) (by decide +kernel) (nd_of g9) ?_
          refine sd_dstore (i := 4) (pc' := 68) (lo' := [(4, .double (FP.dmul l4 4611686018427387904)), (2, .int l2), (3, .int l3), (6, .int l6)]) (by decide +kernel) (by decide) rfl ?_
          refine sd_iinc (i := 6) (q := 3) (n := -1) (v := (l6 + (-1))) (pc' := 71) (lo' := [(6, .int (l6 + (-1))), (4, .double (FP.dmul l4 4611686018427387904)), (2, .int l2), (3, .int l3)]) (by decide +kernel) rfl rfl (by decide) rfl ?_
          refine sd_goto (off := -31) (tgt := 40) (pc' := 74) (by decide +kernel) ?_
          refine sd_J.sub (lo' := [(2, .int l2), (3, .int l3), (4, .double (FP.dmul l4 4611686018427387904)), (6, .int (l6 + (-1)))]) [2, 3, 1, 0] rfl ?_
          exact ih _ _ _ _ hf
def YM_bitsOf_L17 : Nat → Int32 → Int32 → UInt64 → Int32 → Option Int64
  | 0, _, _, _, _ => none
  | n + 1, l2, l3, l4, l6 =>
  (if (Op.cmpValue (FP.dcmp l4 4611686018427387904) .l) < 0 then YM_bitsOf_L40 FU l2 l3 l4 l6 else gd (nd (FP.ddiv l4 4611686018427387904)) (YM_bitsOf_L17 n l2 l3 (FP.ddiv l4 4611686018427387904) (l6 + 1)))
set_option maxHeartbeats 4000000 in
set_option maxRecDepth 100000 in
theorem J_YM_bitsOf_L17 {G : sd_GX} {X : sd_CX} (hE : ∀ g : sd_H, sd_end G X M_YM_bitsOf (sd_F g)) {h : sd_H} {r : Int64} : ∀ (n : Nat) (l2 : Int32) (l3 : Int32) (l4 : UInt64) (l6 : Int32), YM_bitsOf_L17 n l2 l3 l4 l6 = some r → sd_J G X (sd_QR G X M_YM_bitsOf (some (.long r), sd_F h)) M_YM_bitsOf 17 [(2, .int l2), (3, .int l3), (4, .double l4), (6, .int l6)] [] (sd_F h) := by
  intro n
  induction n with
  | zero =>
    intro l2 l3 l4 l6 hf
    rw [YM_bitsOf_L17] at hf
    cases hf
  | succ n ih =>
    intro l2 l3 l4 l6 hf
    rw [YM_bitsOf_L17] at hf
    refine sd_dload (i := 4) (q := 2) (pc' := 19) (by decide +kernel) rfl ?_
    refine sd_ldc2d (idx := 133) (v := 4611686018427387904) (pc' := 22) (by decide +kernel) (sd_mem (i := 1334) (by decide +kernel)) ?_
    refine sd_dcmp (op := .l) (pc' := 23) (by decide +kernel) ?_
    refine sd_if_lt (off := 17) (tgt := 40) (pc' := 26) (by decide +kernel) (fun c2 => ?_) (fun c2 => ?_)
    · replace hf := ite_p c2 hf
      refine sd_J.sub (lo' := [(2, .int l2), (3, .int l3), (4, .double l4), (6, .int l6)]) [0, 1, 2, 3] rfl ?_
      exact J_YM_bitsOf_L40 hE (h := h) _ _ _ _ _ hf
    · replace hf := ite_n c2 hf
      refine sd_dload (i := 4) (q := 2) (pc' := 28) (by decide +kernel) rfl ?_
      refine sd_ldc2d (idx := 133) (v := 4611686018427387904) (pc' := 31) (by decide +kernel) (sd_mem (i := 1334) (by decide +kernel)) ?_
      obtain ⟨g10, hf⟩ := gd_some hf
      refine sd_ddiv (pc' := 32) (by decide +kernel) (nd_of g10) ?_
      refine sd_dstore (i := 4) (pc' := 34) (lo' := [(4, .double (FP.ddiv l4 4611686018427387904)), (2, .int l2), (3, .int l3), (6, .int l6)]) (by decide +kernel) (by decide) rfl ?_
      refine sd_iinc (i := 6) (q := 3) (n := 1) (v := (l6 + 1)) (pc' := 37) (lo' := [(6, .int (l6 + 1)), (4, .double (FP.ddiv l4 4611686018427387904)), (2, .int l2), (3, .int l3)]) (by decide +kernel) rfl rfl (by decide) rfl ?_
      refine sd_goto (off := -20) (tgt := 17) (pc' := 40) (by decide +kernel) ?_
      refine sd_J.sub (lo' := [(2, .int l2), (3, .int l3), (4, .double (FP.ddiv l4 4611686018427387904)), (6, .int (l6 + 1))]) [2, 3, 1, 0] rfl ?_
      exact ih _ _ _ _ hf
def YM_bitsOf_B12 (l2 : Int32) (l3 : Int32) (s0 : UInt64) : Option Int64 :=
  YM_bitsOf_L17 FU l2 l3 s0 0
set_option maxHeartbeats 4000000 in
set_option maxRecDepth 100000 in
theorem J_YM_bitsOf_B12 {G : sd_GX} {X : sd_CX} (hE : ∀ g : sd_H, sd_end G X M_YM_bitsOf (sd_F g)) {h : sd_H} {r : Int64} {l2 : Int32} {l3 : Int32} {s0 : UInt64} (hf : YM_bitsOf_B12 l2 l3 s0 = some r) : sd_J G X (sd_QR G X M_YM_bitsOf (some (.long r), sd_F h)) M_YM_bitsOf 12 [(2, .int l2), (3, .int l3)] [.double s0] (sd_F h) := by
  unfold YM_bitsOf_B12 at hf
  refine sd_dstore (i := 4) (pc' := 14) (lo' := [(4, .double s0), (2, .int l2), (3, .int l3)]) (by decide +kernel) (by decide) rfl ?_
  refine sd_iconst (n := 0) (v := 0) (pc' := 15) (by decide +kernel) (by decide) ?_
  refine sd_istore (i := 6) (pc' := 17) (lo' := [(6, .int 0), (4, .double s0), (2, .int l2), (3, .int l3)]) (by decide +kernel) (by decide) rfl ?_
  refine sd_J.sub (lo' := [(2, .int l2), (3, .int l3), (4, .double s0), (6, .int 0)]) [2, 3, 1, 0] rfl ?_
  exact J_YM_bitsOf_L17 hE (h := h) _ _ _ _ _ hf
def YM_bitsOf (a0 : UInt64) (a1 : Int32) (a2 : Int32) : Option Int64 :=
  (if 0 ≤ (Op.cmpValue (FP.dcmp a0 FP.dconst0) .g) then YM_bitsOf_B12 a1 a2 a0 else YM_bitsOf_B12 a1 a2 (FP.dneg a0))
set_option maxHeartbeats 4000000 in
set_option maxRecDepth 100000 in
theorem T_YM_bitsOf {G : sd_GX} {h : sd_H} {a0 : UInt64} {a1 : Int32} {a2 : Int32} {r : Int64} (hf : YM_bitsOf a0 a1 a2 = some r) : sd_RunF G M_YM_bitsOf [.double a0, .int a1, .int a2] h (some (.long r)) h := by
  refine sF_run ⟨rfl, rfl⟩ (by decide +kernel) (Nat.le_of_ble_eq_true rfl) (lo := [(0, .double a0), (2, .int a1), (3, .int a2)]) rfl (fun X hE => ?_)
  unfold YM_bitsOf at hf
  refine sd_dload_n (k := 0) (i := 0) (q := 0) (pc' := 1) (by decide +kernel) rfl rfl ?_
  refine sd_dconst0 (pc' := 2) (by decide +kernel) ?_
  refine sd_dcmp (op := .g) (pc' := 3) (by decide +kernel) ?_
  refine sd_if_ge (off := 8) (tgt := 11) (pc' := 6) (by decide +kernel) (fun c1 => ?_) (fun c1 => ?_)
  · replace hf := ite_p c1 hf
    refine sd_dload_n (k := 0) (i := 0) (q := 0) (pc' := 12) (by decide +kernel) rfl rfl ?_
    refine sd_J.sub (lo' := [(2, .int a1), (3, .int a2)]) [1, 2] rfl ?_
    exact J_YM_bitsOf_B12 hE (h := h) hf
  · replace hf := ite_n c1 hf
    refine sd_dload_n (k := 0) (i := 0) (q := 0) (pc' := 7) (by decide +kernel) rfl rfl ?_
    refine sd_dneg (pc' := 8) (by decide +kernel) ?_
    refine sd_goto (off := 4) (tgt := 12) (pc' := 11) (by decide +kernel) ?_
    refine sd_J.sub (lo' := [(2, .int a1), (3, .int a2)]) [1, 2] rfl ?_
    exact J_YM_bitsOf_B12 hE (h := h) hf

theorem ml_X12_135 : Cond.methodLink RX12 135 yX12_bitsOf ∈ sd_tb := sd_mem (i := 1331) (by decide +kernel)
theorem mv_YM_bitsOf : sd_mS M_YM_bitsOf 3 := ⟨sd_mem (i := 1332) (by decide +kernel), ⟨sd_mem (i := 1333) (by decide +kernel), sd_mem (i := 119) (by decide +kernel), by decide +kernel, by decide +kernel, by decide +kernel⟩⟩
def M_YM_toldOf : sd_MX := (yX12_toldOf, cX12_toldOf, 7, (some .long), { frames := 2, cells := 0, slots := 0, locals := 70 })
def YM_toldOf (h : sd_H) (a0 : Int32) : Option Int64 :=
  gd (sd_inB (a0 / 24) 6) (gd (sd_inB a0 144) ((if (h.1 127 ((a0 / 24) : Int32).toNatClampNeg) = 2 then b1 (YM_bitsOf (h.2.1 129 (a0 : Int32).toNatClampNeg) 23 (-126)) (fun t9 => (if 0 ≤ (Op.cmpValue (FP.dcmp (h.2.1 129 (a0 : Int32).toNatClampNeg) FP.dconst0) .g) then some (Int32.toInt64 (Int64.toInt32 t9)) else some (Int32.toInt64 ((Int64.toInt32 t9) ||| (-2147483648))))) else (if (h.1 127 ((a0 / 24) : Int32).toNatClampNeg) = 3 then b1 (YM_bitsOf (h.2.1 129 (a0 : Int32).toNatClampNeg) 52 (-1022)) (fun t6 => (if 0 ≤ (Op.cmpValue (FP.dcmp (h.2.1 129 (a0 : Int32).toNatClampNeg) FP.dconst0) .g) then some t6 else some (t6 ||| (-9223372036854775808)))) else some (FP.d2l (h.2.1 129 (a0 : Int32).toNatClampNeg))))))
set_option maxHeartbeats 4000000 in
set_option maxRecDepth 100000 in
theorem T_YM_toldOf {G : sd_GX} {h : sd_H} {a0 : Int32} {r : Int64} (hf : YM_toldOf h a0 = some r) : sd_RunF G M_YM_toldOf [.ref (G.1 + 126), .int a0] h (some (.long r)) h := by
  refine sF_run ⟨rfl, rfl⟩ (by decide +kernel) (Nat.le_of_ble_eq_true rfl) (lo := [(0, .ref (G.1 + 126)), (1, .int a0)]) rfl (fun X hE => ?_)
  unfold YM_toldOf at hf
  refine sd_aload_n (k := 0) (i := 0) (q := 0) (pc' := 1) (by decide +kernel) rfl rfl ?_
  refine sF_gr (idx := 7) (ci := 12) (k := 0) (n := 47) (r := 127) (pc' := 4) (by decide +kernel) fl_X12_7 (by decide +kernel) rfl SH_126 (by decide) (by decide +kernel) ?_
  refine sd_iload_n (k := 1) (i := 1) (q := 1) (pc' := 5) (by decide +kernel) rfl rfl ?_
  refine sd_bipush (n := 24) (v := 24) (pc' := 7) (by decide +kernel) (by decide) ?_
  refine sd_idiv (pc' := 8) (by decide +kernel) (by decide) ?_
  obtain ⟨g1, hf⟩ := gd_some hf
  refine sF_iald (n := 6) (pc' := 9) (by decide +kernel) SH_127 g1 ?_
  refine sd_istore_n (k := 2) (i := 2) (pc' := 10) (lo' := [(2, .int (h.1 127 ((a0 / 24) : Int32).toNatClampNeg)), (0, .ref (G.1 + 126)), (1, .int a0)]) (by decide +kernel) rfl (by decide) rfl ?_
  refine sd_aload_n (k := 0) (i := 0) (q := 1) (pc' := 11) (by decide +kernel) rfl rfl ?_
  refine sF_gr (idx := 16) (ci := 12) (k := 2) (n := 47) (r := 129) (pc' := 14) (by decide +kernel) fl_X12_16 (by decide +kernel) rfl SH_126 (by decide) (by decide +kernel) ?_
  refine sd_iload_n (k := 1) (i := 1) (q := 2) (pc' := 15) (by decide +kernel) rfl rfl ?_
  obtain ⟨g2, hf⟩ := gd_some hf
  refine sF_dald (n := 144) (pc' := 16) (by decide +kernel) SH_129 g2 ?_
  refine sd_dstore_n (k := 3) (i := 3) (pc' := 17) (lo' := [(3, .double (h.2.1 129 (a0 : Int32).toNatClampNeg)), (2, .int (h.1 127 ((a0 / 24) : Int32).toNatClampNeg)), (0, .ref (G.1 + 126)), (1, .int a0)]) (by decide +kernel) rfl (by decide) rfl ?_
  refine sd_iload_n (k := 2) (i := 2) (q := 1) (pc' := 18) (by decide +kernel) rfl rfl ?_
  refine sd_iconst (n := 2) (v := 2) (pc' := 19) (by decide +kernel) (by decide) ?_
  refine sd_icmp_ne (off := 33) (tgt := 52) (pc' := 22) (by decide +kernel) (fun c3 => ?_) (fun c3 => ?_)
  · replace hf := ite_n c3 hf
    refine sd_iload_n (k := 2) (i := 2) (q := 1) (pc' := 53) (by decide +kernel) rfl rfl ?_
    refine sd_iconst (n := 3) (v := 3) (pc' := 54) (by decide +kernel) (by decide) ?_
    refine sd_icmp_ne (off := 32) (tgt := 86) (pc' := 57) (by decide +kernel) (fun c4 => ?_) (fun c4 => ?_)
    · replace hf := ite_n c4 hf
      refine sd_dload_n (k := 3) (i := 3) (q := 0) (pc' := 87) (by decide +kernel) rfl rfl ?_
      refine sd_d2l (pc' := 88) (by decide +kernel) ?_
      obtain rfl := Option.some.inj hf
      exact sd_lret (by decide +kernel) rfl (hE _)
    · replace hf := ite_p c4 hf
      refine sd_dload_n (k := 3) (i := 3) (q := 0) (pc' := 58) (by decide +kernel) rfl rfl ?_
      refine sd_bipush (n := 52) (v := 52) (pc' := 60) (by decide +kernel) (by decide) ?_
      refine sd_sipush (n := -1022) (v := (-1022)) (pc' := 63) (by decide +kernel) (by decide) ?_
      obtain ⟨t6, q5, hf⟩ := b1_some hf
      refine sF_callS (idx := 135) (As := [.double (h.2.1 129 (a0 : Int32).toNatClampNeg), .int 52, .int (-1022)]) (pc' := 66) 3 (T_YM_bitsOf (G := G) (h := h)  q5) (by decide +kernel) mv_YM_bitsOf ml_X12_135 (by decide +kernel) rfl rfl (Nat.le_of_ble_eq_true rfl) rfl ?_
      refine sd_lstore (i := 5) (pc' := 68) (lo' := [(5, .long t6), (3, .double (h.2.1 129 (a0 : Int32).toNatClampNeg)), (2, .int (h.1 127 ((a0 / 24) : Int32).toNatClampNeg)), (0, .ref (G.1 + 126)), (1, .int a0)]) (by decide +kernel) (by decide) rfl ?_
      refine sd_dload_n (k := 3) (i := 3) (q := 1) (pc' := 69) (by decide +kernel) rfl rfl ?_
      refine sd_dconst0 (pc' := 70) (by decide +kernel) ?_
      refine sd_dcmp (op := .g) (pc' := 71) (by decide +kernel) ?_
      refine sd_if_ge (off := 12) (tgt := 83) (pc' := 74) (by decide +kernel) (fun c7 => ?_) (fun c7 => ?_)
      · replace hf := ite_p c7 hf
        refine sd_lload (i := 5) (q := 0) (pc' := 85) (by decide +kernel) rfl ?_
        obtain rfl := Option.some.inj hf
        exact sd_lret (by decide +kernel) rfl (hE _)
      · replace hf := ite_n c7 hf
        refine sd_lload (i := 5) (q := 0) (pc' := 76) (by decide +kernel) rfl ?_
        refine sd_ldc2 (idx := 108) (v := (-9223372036854775808)) (pc' := 79) (by decide +kernel) (sd_mem (i := 1322) (by decide +kernel)) ?_
        refine sd_lor (pc' := 80) (by decide +kernel) ?_
        refine sd_goto (off := 5) (tgt := 85) (pc' := 83) (by decide +kernel) ?_
        obtain rfl := Option.some.inj hf
        exact sd_lret (by decide +kernel) rfl (hE _)
  · replace hf := ite_p c3 hf
    refine sd_dload_n (k := 3) (i := 3) (q := 0) (pc' := 23) (by decide +kernel) rfl rfl ?_
    refine sd_bipush (n := 23) (v := 23) (pc' := 25) (by decide +kernel) (by decide) ?_
    refine sd_bipush (n := -126) (v := (-126)) (pc' := 27) (by decide +kernel) (by decide) ?_
    obtain ⟨t9, q8, hf⟩ := b1_some hf
    refine sF_callS (idx := 135) (As := [.double (h.2.1 129 (a0 : Int32).toNatClampNeg), .int 23, .int (-126)]) (pc' := 30) 3 (T_YM_bitsOf (G := G) (h := h)  q8) (by decide +kernel) mv_YM_bitsOf ml_X12_135 (by decide +kernel) rfl rfl (Nat.le_of_ble_eq_true rfl) rfl ?_
    refine sd_l2i (pc' := 31) (by decide +kernel) rfl ?_
    refine sd_istore (i := 5) (pc' := 33) (lo' := [(5, .int (Int64.toInt32 t9)), (3, .double (h.2.1 129 (a0 : Int32).toNatClampNeg)), (2, .int (h.1 127 ((a0 / 24) : Int32).toNatClampNeg)), (0, .ref (G.1 + 126)), (1, .int a0)]) (by decide +kernel) (by decide) rfl ?_
    refine sd_dload_n (k := 3) (i := 3) (q := 1) (pc' := 34) (by decide +kernel) rfl rfl ?_
    refine sd_dconst0 (pc' := 35) (by decide +kernel) ?_
    refine sd_dcmp (op := .g) (pc' := 36) (by decide +kernel) ?_
    refine sd_if_ge (off := 12) (tgt := 48) (pc' := 39) (by decide +kernel) (fun c10 => ?_) (fun c10 => ?_)
    · replace hf := ite_p c10 hf
      refine sd_iload (i := 5) (q := 0) (pc' := 50) (by decide +kernel) rfl ?_
      refine sd_i2l (pc' := 51) (by decide +kernel) rfl ?_
      obtain rfl := Option.some.inj hf
      exact sd_lret (by decide +kernel) rfl (hE _)
    · replace hf := ite_n c10 hf
      refine sd_iload (i := 5) (q := 0) (pc' := 41) (by decide +kernel) rfl ?_
      refine sd_ldc (idx := 139) (v := (-2147483648)) (pc' := 43) (by decide +kernel) (sd_mem (i := 1335) (by decide +kernel)) ?_
      refine sd_ior (pc' := 44) (by decide +kernel) ?_
      refine sd_i2l (pc' := 45) (by decide +kernel) rfl ?_
      refine sd_goto (off := 6) (tgt := 51) (pc' := 48) (by decide +kernel) ?_
      obtain rfl := Option.some.inj hf
      exact sd_lret (by decide +kernel) rfl (hE _)
