theorem fl_X5_9 : sd_fl RX5 9 5 1 := ⟨sd_mem (i := 193) (by decide +kernel), by decide, by decide⟩
theorem fl_X5_15 : sd_fl RX5 15 5 2 := ⟨sd_mem (i := 196) (by decide +kernel), by decide, by decide⟩
theorem fl_X5_18 : sd_fl RX5 18 5 3 := ⟨sd_mem (i := 198) (by decide +kernel), by decide, by decide⟩
def M_XF_lie : sd_MX := (yX5_lie, cX5_lie, 4, none, { frames := 1, cells := 0, slots := 0, locals := 40 })
def XF_lie (h : sd_H) (this : Nat) (a0 : Int32) (a1 : Int32) (a2 : Int32) : Option sd_H :=
  hb (wI h this 1 a0) (fun h1 => hb (wI h1 this 2 a1) (fun h3 => hb (wI h3 this 3 a2) (fun h5 => some h5)))
set_option maxHeartbeats 4000000 in
set_option maxRecDepth 100000 in
theorem T_XF_lie {G : sd_GX} {h : sd_H} {this : Nat} {a0 : Int32} {a1 : Int32} {a2 : Int32} {r : sd_H} (pt : sd_SH this = (5, 4)) (hf : XF_lie h this a0 a1 a2 = some r) : sd_RunF G M_XF_lie [.ref (G.1 + this), .int a0, .int a1, .int a2] h none r := by
  refine sF_run ⟨rfl, rfl⟩ (by decide +kernel) (Nat.le_of_ble_eq_true rfl) (lo := [(0, .ref (G.1 + this)), (1, .int a0), (2, .int a1), (3, .int a2)]) rfl (fun X hE => ?_)
  unfold XF_lie at hf
  refine sd_aload_n (k := 0) (i := 0) (q := 0) (pc' := 1) (by decide +kernel) rfl rfl ?_
  refine sd_iload_n (k := 1) (i := 1) (q := 1) (pc' := 2) (by decide +kernel) rfl rfl ?_
  obtain ⟨h1, e2, hf⟩ := hb_some hf
  refine sF_pi (idx := 9) (ci := 5) (k := 1) (n := 4) (pc' := 5) (by decide +kernel) fl_X5_9 (by decide +kernel) rfl rfl rfl pt ?_
  rw [← e2]; clear e2
  refine sd_aload_n (k := 0) (i := 0) (q := 0) (pc' := 6) (by decide +kernel) rfl rfl ?_
  refine sd_iload_n (k := 2) (i := 2) (q := 2) (pc' := 7) (by decide +kernel) rfl rfl ?_
  obtain ⟨h3, e4, hf⟩ := hb_some hf
  refine sF_pi (idx := 15) (ci := 5) (k := 2) (n := 4) (pc' := 10) (by decide +kernel) fl_X5_15 (by decide +kernel) rfl rfl rfl pt ?_
  rw [← e4]; clear e4
  refine sd_aload_n (k := 0) (i := 0) (q := 0) (pc' := 11) (by decide +kernel) rfl rfl ?_
  refine sd_iload_n (k := 3) (i := 3) (q := 3) (pc' := 12) (by decide +kernel) rfl rfl ?_
  obtain ⟨h5, e6, hf⟩ := hb_some hf
  refine sF_pi (idx := 18) (ci := 5) (k := 3) (n := 4) (pc' := 15) (by decide +kernel) fl_X5_18 (by decide +kernel) rfl rfl rfl pt ?_
  rw [← e6]; clear e6
  obtain rfl := Option.some.inj hf
  exact sd_vret (by decide +kernel) rfl (hE _)

theorem fl_X9_22 : sd_fl RX9 22 9 1 := ⟨sd_mem (i := 217) (by decide +kernel), by decide, by decide⟩
theorem fl_X9_25 : sd_fl RX9 25 9 2 := ⟨sd_mem (i := 221) (by decide +kernel), by decide, by decide⟩
theorem fl_X9_18 : sd_fl RX9 18 9 3 := ⟨sd_mem (i := 226) (by decide +kernel), by decide, by decide⟩
theorem fl_X9_28 : sd_fl RX9 28 9 4 := ⟨sd_mem (i := 229) (by decide +kernel), by decide, by decide⟩
theorem fl_X9_31 : sd_fl RX9 31 9 5 := ⟨sd_mem (i := 232) (by decide +kernel), by decide, by decide⟩
theorem fl_X9_12 : sd_fl RX9 12 9 0 := ⟨sd_mem (i := 210) (by decide +kernel), by decide, by decide⟩
theorem fl_X9_34 : sd_fl RX9 34 5 0 := ⟨sd_mem (i := 185) (by decide +kernel), by decide, by decide⟩
theorem ml_X9_37 : Cond.methodLink RX9 37 yX5_lie ∈ sd_tb := sd_mem (i := 650) (by decide +kernel)
theorem mv_XF_lie : sd_mV M_XF_lie 3 := ⟨sd_mem (i := 651) (by decide +kernel), sd_mem (i := 652) (by decide +kernel), ⟨sd_mem (i := 653) (by decide +kernel), sd_mem (i := 112) (by decide +kernel), by decide +kernel, by decide +kernel, by decide +kernel⟩⟩
def M_XA_begin : sd_MX := (yX9_begin, cX9_begin, 4, none, { frames := 2, cells := 0, slots := 0, locals := 63 })
def XA_begin_B47 (h : sd_H) (K27 : sd_H → Nat → Int32 → Option sd_H) (l0 : Nat) (l3 : Int32) (s0 : Int32) (s1 : Nat) : Option sd_H :=
  hb (wI h s1 0 s0) (fun h14 => gd (sd_inB l3 3) (b1 (XF_lie h14 ((l0 + 1) + 1 + (l3 : Int32).toNatClampNeg) 0 0 0) (fun h18 => K27 h18 l0 (l3 + 1))))
set_option maxHeartbeats 4000000 in
set_option maxRecDepth 100000 in
theorem J_XA_begin_B47 {G : sd_GX} {X : sd_CX} (hE : ∀ g : sd_H, sd_end G X M_XA_begin (sd_F g)) {h : sd_H} {K27 : sd_H → Nat → Int32 → Option sd_H} {r : sd_H} (hK27 : ∀ (g : sd_H) (l0 : Nat) (l3 : Int32), sd_SH l0 = (9, 6) → K27 g l0 l3 = some r → sd_J G X (sd_QR G X M_XA_begin (none, sd_F r)) M_XA_begin 27 [(0, .ref (G.1 + l0)), (3, .int l3)] [] (sd_F g)) {l0 : Nat} {l3 : Int32} {s0 : Int32} {s1 : Nat} (p0 : sd_SH l0 = (9, 6)) (ps1 : sd_SH s1 = (5, 4)) (hf : XA_begin_B47 h K27 l0 l3 s0 s1 = some r) : sd_J G X (sd_QR G X M_XA_begin (none, sd_F r)) M_XA_begin 47 [(0, .ref (G.1 + l0)), (3, .int l3)] [.int s0, .ref (G.1 + s1)] (sd_F h) := by
  unfold XA_begin_B47 at hf
  obtain ⟨h14, e15, hf⟩ := hb_some hf
  refine sF_pi (idx := 34) (ci := 5) (k := 0) (n := 4) (pc' := 50) (by decide +kernel) fl_X9_34 (by decide +kernel) rfl rfl rfl ps1 ?_
  rw [← e15]; clear e15
  refine sd_aload_n (k := 0) (i := 0) (q := 0) (pc' := 51) (by decide +kernel) rfl rfl ?_
  refine sF_gr (idx := 12) (ci := 9) (k := 0) (n := 6) (r := (l0 + 1)) (pc' := 54) (by decide +kernel) fl_X9_12 (by decide +kernel) rfl p0 (by decide) (rt_9_0 p0) ?_
  refine sd_iload_n (k := 3) (i := 3) (q := 1) (pc' := 55) (by decide +kernel) rfl rfl ?_
  obtain ⟨g16, hf⟩ := gd_some hf
  refine sF_aald (n := 3) (r := ((l0 + 1) + 1 + (l3 : Int32).toNatClampNeg)) (pc' := 56) (by decide +kernel) (sh_9_0 p0) (by decide) g16 (rta_R (sh_9_0 p0) (inB_lt g16)) ?_
  refine sd_iconst (n := 0) (v := 0) (pc' := 57) (by decide +kernel) (by decide) ?_
  refine sd_iconst (n := 0) (v := 0) (pc' := 58) (by decide +kernel) (by decide) ?_
  refine sd_iconst (n := 0) (v := 0) (pc' := 59) (by decide +kernel) (by decide) ?_
  obtain ⟨h18, q17, hf⟩ := b1_some hf
  refine sF_callV0 (idx := 37) (b := ((l0 + 1) + 1 + (l3 : Int32).toNatClampNeg)) (As := [.int 0, .int 0, .int 0]) (ci := 5) (nn := 4) (pc' := 62) 3 (T_XF_lie (G := G) (h := h14) (sha_R (sh_9_0 p0) (inB_lt g16)) q17) (by decide +kernel) mv_XF_lie ml_X9_37 (by decide +kernel) rfl rfl (Nat.le_of_ble_eq_true rfl) (sha_R (sh_9_0 p0) (inB_lt g16)) rfl (by decide) rfl rfl ?_
  refine sd_iinc (i := 3) (q := 1) (n := 1) (v := (l3 + 1)) (pc' := 65) (lo' := [(3, .int (l3 + 1)), (0, .ref (G.1 + l0))]) (by decide +kernel) rfl rfl (by decide) rfl ?_
  refine sd_goto (off := -38) (tgt := 27) (pc' := 68) (by decide +kernel) ?_
  refine sd_J.sub (lo' := [(0, .ref (G.1 + l0)), (3, .int (l3 + 1))]) [1, 0] rfl ?_
  exact hK27 _ _ _ p0 hf
def XA_begin_L27 : Nat → sd_H → Nat → Int32 → Option sd_H
  | 0, _, _, _ => none
  | n + 1, h, l0, l3 =>
  (if 3 ≤ l3 then some h else gd (sd_inB l3 3) ((if l3 = 0 then XA_begin_B47 h (XA_begin_L27 n) l0 l3 0 ((l0 + 1) + 1 + (l3 : Int32).toNatClampNeg) else XA_begin_B47 h (XA_begin_L27 n) l0 l3 (-1) ((l0 + 1) + 1 + (l3 : Int32).toNatClampNeg))))
set_option maxHeartbeats 4000000 in
set_option maxRecDepth 100000 in
theorem J_XA_begin_L27 {G : sd_GX} {X : sd_CX} (hE : ∀ g : sd_H, sd_end G X M_XA_begin (sd_F g))  {r : sd_H} : ∀ (n : Nat) (h : sd_H) (l0 : Nat) (l3 : Int32), sd_SH l0 = (9, 6) → XA_begin_L27 n h l0 l3 = some r → sd_J G X (sd_QR G X M_XA_begin (none, sd_F r)) M_XA_begin 27 [(0, .ref (G.1 + l0)), (3, .int l3)] [] (sd_F h) := by
  intro n
  induction n with
  | zero =>
    intro h l0 l3 p0 hf
    rw [XA_begin_L27] at hf
    cases hf
  | succ n ih =>
    intro h l0 l3 p0 hf
    rw [XA_begin_L27] at hf
    refine sd_iload_n (k := 3) (i := 3) (q := 1) (pc' := 28) (by decide +kernel) rfl rfl ?_
    refine sd_iconst (n := 3) (v := 3) (pc' := 29) (by decide +kernel) (by decide) ?_
    refine sd_icmp_ge (off := 39) (tgt := 68) (pc' := 32) (by decide +kernel) (fun c11 => ?_) (fun c11 => ?_)
    · replace hf := ite_p c11 hf
      obtain rfl := Option.some.inj hf
      exact sd_vret (by decide +kernel) rfl (hE _)
    · replace hf := ite_n c11 hf
      refine sd_aload_n (k := 0) (i := 0) (q := 0) (pc' := 33) (by decide +kernel) rfl rfl ?_
      refine sF_gr (idx := 12) (ci := 9) (k := 0) (n := 6) (r := (l0 + 1)) (pc' := 36) (by decide +kernel) fl_X9_12 (by decide +kernel) rfl p0 (by decide) (rt_9_0 p0) ?_
      refine sd_iload_n (k := 3) (i := 3) (q := 1) (pc' := 37) (by decide +kernel) rfl rfl ?_
      obtain ⟨g12, hf⟩ := gd_some hf
      refine sF_aald (n := 3) (r := ((l0 + 1) + 1 + (l3 : Int32).toNatClampNeg)) (pc' := 38) (by decide +kernel) (sh_9_0 p0) (by decide) g12 (rta_R (sh_9_0 p0) (inB_lt g12)) ?_
      refine sd_iload_n (k := 3) (i := 3) (q := 1) (pc' := 39) (by decide +kernel) rfl rfl ?_
      refine sd_if_ne (off := 7) (tgt := 46) (pc' := 42) (by decide +kernel) (fun c13 => ?_) (fun c13 => ?_)
      · replace hf := ite_n c13 hf
        refine sd_iconst (n := -1) (v := (-1)) (pc' := 47) (by decide +kernel) (by decide) ?_
        refine sd_J.sub (lo' := [(0, .ref (G.1 + l0)), (3, .int l3)]) [0, 1] rfl ?_
        exact J_XA_begin_B47 hE ih p0 (sha_R (sh_9_0 p0) (inB_lt g12)) hf
      · replace hf := ite_p c13 hf
        refine sd_iconst (n := 0) (v := 0) (pc' := 43) (by decide +kernel) (by decide) ?_
        refine sd_goto (off := 4) (tgt := 47) (pc' := 46) (by decide +kernel) ?_
        refine sd_J.sub (lo' := [(0, .ref (G.1 + l0)), (3, .int l3)]) [0, 1] rfl ?_
        exact J_XA_begin_B47 hE ih p0 (sha_R (sh_9_0 p0) (inB_lt g12)) hf
def XA_begin (h : sd_H) (this : Nat) (a0 : Int32) (a1 : Int32) : Option sd_H :=
  hb (wI h this 1 a0) (fun h1 => hb (wI h1 this 2 a1) (fun h3 => hb (wI h3 this 3 1) (fun h5 => hb (wI h5 this 4 0) (fun h7 => hb (wI h7 this 5 (-1)) (fun h9 => XA_begin_L27 FU h9 this 0)))))
set_option maxHeartbeats 4000000 in
set_option maxRecDepth 100000 in
theorem T_XA_begin {G : sd_GX} {h : sd_H} {this : Nat} {a0 : Int32} {a1 : Int32} {r : sd_H} (pt : sd_SH this = (9, 6)) (hf : XA_begin h this a0 a1 = some r) : sd_RunF G M_XA_begin [.ref (G.1 + this), .int a0, .int a1] h none r := by
  refine sF_run ⟨rfl, rfl⟩ (by decide +kernel) (Nat.le_of_ble_eq_true rfl) (lo := [(0, .ref (G.1 + this)), (1, .int a0), (2, .int a1)]) rfl (fun X hE => ?_)
  unfold XA_begin at hf
  refine sd_aload_n (k := 0) (i := 0) (q := 0) (pc' := 1) (by decide +kernel) rfl rfl ?_
  refine sd_iload_n (k := 1) (i := 1) (q := 1) (pc' := 2) (by decide +kernel) rfl rfl ?_
  obtain ⟨h1, e2, hf⟩ := hb_some hf
  refine sF_pi (idx := 22) (ci := 9) (k := 1) (n := 6) (pc' := 5) (by decide +kernel) fl_X9_22 (by decide +kernel) rfl rfl rfl pt ?_
  rw [← e2]; clear e2
  refine sd_aload_n (k := 0) (i := 0) (q := 0) (pc' := 6) (by decide +kernel) rfl rfl ?_
  refine sd_iload_n (k := 2) (i := 2) (q := 2) (pc' := 7) (by decide +kernel) rfl rfl ?_
  obtain ⟨h3, e4, hf⟩ := hb_some hf
  refine sF_pi (idx := 25) (ci := 9) (k := 2) (n := 6) (pc' := 10) (by decide +kernel) fl_X9_25 (by decide +kernel) rfl rfl rfl pt ?_
  rw [← e4]; clear e4
  refine sd_aload_n (k := 0) (i := 0) (q := 0) (pc' := 11) (by decide +kernel) rfl rfl ?_
  refine sd_iconst (n := 1) (v := 1) (pc' := 12) (by decide +kernel) (by decide) ?_
  obtain ⟨h5, e6, hf⟩ := hb_some hf
  refine sF_pi (idx := 18) (ci := 9) (k := 3) (n := 6) (pc' := 15) (by decide +kernel) fl_X9_18 (by decide +kernel) rfl rfl rfl pt ?_
  rw [← e6]; clear e6
  refine sd_aload_n (k := 0) (i := 0) (q := 0) (pc' := 16) (by decide +kernel) rfl rfl ?_
  refine sd_iconst (n := 0) (v := 0) (pc' := 17) (by decide +kernel) (by decide) ?_
  obtain ⟨h7, e8, hf⟩ := hb_some hf
  refine sF_pi (idx := 28) (ci := 9) (k := 4) (n := 6) (pc' := 20) (by decide +kernel) fl_X9_28 (by decide +kernel) rfl rfl rfl pt ?_
  rw [← e8]; clear e8
  refine sd_aload_n (k := 0) (i := 0) (q := 0) (pc' := 21) (by decide +kernel) rfl rfl ?_
  refine sd_iconst (n := -1) (v := (-1)) (pc' := 22) (by decide +kernel) (by decide) ?_
  obtain ⟨h9, e10, hf⟩ := hb_some hf
  refine sF_pi (idx := 31) (ci := 9) (k := 5) (n := 6) (pc' := 25) (by decide +kernel) fl_X9_31 (by decide +kernel) rfl rfl rfl pt ?_
  rw [← e10]; clear e10
  refine sd_iconst (n := 0) (v := 0) (pc' := 26) (by decide +kernel) (by decide) ?_
  refine sd_istore_n (k := 3) (i := 3) (pc' := 27) (lo' := [(3, .int 0), (0, .ref (G.1 + this)), (1, .int a0), (2, .int a1)]) (by decide +kernel) rfl (by decide) rfl ?_
  refine sd_J.sub (lo' := [(0, .ref (G.1 + this)), (3, .int 0)]) [1, 0] rfl ?_
  exact J_XA_begin_L27 hE _ _ _ _ pt hf

theorem ml_X11_166 : Cond.methodLink RX11 166 yX11_operationTyped ∈ sd_tb := sd_mem (i := 574) (by decide +kernel)
theorem mv_XT_operationTyped : sd_mV M_XT_operationTyped 0 := ⟨sd_mem (i := 576) (by decide +kernel), sd_mem (i := 2) (by decide +kernel), ⟨sd_mem (i := 577) (by decide +kernel), sd_mem (i := 108) (by decide +kernel), by decide +kernel, by decide +kernel, by decide +kernel⟩⟩
theorem fl_X11_170 : sd_fl RX11 170 2 2 := ⟨sd_mem (i := 262) (by decide +kernel), by decide, by decide⟩
theorem fl_X11_173 : sd_fl RX11 173 2 0 := ⟨sd_mem (i := 252) (by decide +kernel), by decide, by decide⟩
theorem ml_X11_177 : Cond.methodLink RX11 177 yX9_begin ∈ sd_tb := sd_mem (i := 646) (by decide +kernel)
theorem mv_XA_begin : sd_mV M_XA_begin 2 := ⟨sd_mem (i := 647) (by decide +kernel), sd_mem (i := 648) (by decide +kernel), ⟨sd_mem (i := 649) (by decide +kernel), sd_mem (i := 111) (by decide +kernel), by decide +kernel, by decide +kernel, by decide +kernel⟩⟩
def M_XT_statement : sd_MX := (yX11_statement, cX11_statement, 4, (some .int), { frames := 8, cells := 0, slots := 0, locals := 183 })
def XT_statement (h : sd_H) (a0 : Int32) : Option (sd_H × Int32) :=
  b1 (XT_within a0 1 5) (fun t2 => (if t2 = 0 then some (h, (-2)) else b1 (XT_operationTyped h) (fun t5 => (if t5 = (-1) then some (h, (-3)) else (if (h.1 6 2) < 5 then hb (wI h 6 2 ((h.1 6 2) + 1)) (fun h8 => gd (sd_inB (h.1 6 2) 5) (b1 (XA_begin h8 (8 + 5 * ((h.1 6 2) : Int32).toNatClampNeg) t5 a0) (fun h12 => b1 (XH_note h12 1 (h.1 6 2) (-1)) (fun h14 => hb (wI h14 0 15 0) (fun h15 => hb (wI h15 56 5 1) (fun h17 => some (h17, (h.1 6 2)))))))) else some (h, (-4)))))))
set_option maxHeartbeats 4000000 in
set_option maxRecDepth 100000 in
theorem T_XT_statement {G : sd_GX} {h : sd_H} {a0 : Int32} {r : (sd_H × Int32)} (hf : XT_statement h a0 = some r) : sd_RunF G M_XT_statement [.ref (G.1 + 0), .int a0] h (some (.int r.2)) r.1 := by
  refine sF_run ⟨rfl, rfl⟩ (by decide +kernel) (Nat.le_of_ble_eq_true rfl) (lo := [(0, .ref (G.1 + 0)), (1, .int a0)]) rfl (fun X hE => ?_)
  unfold XT_statement at hf
  refine sd_iload_n (k := 1) (i := 1) (q := 1) (pc' := 1) (by decide +kernel) rfl rfl ?_
  refine sd_iconst (n := 1) (v := 1) (pc' := 2) (by decide +kernel) (by decide) ?_
  refine sd_iconst (n := 5) (v := 5) (pc' := 3) (by decide +kernel) (by decide) ?_
  obtain ⟨t2, q1, hf⟩ := b1_some hf
  refine sF_callS (idx := 97) (As := [.int a0, .int 1, .int 5]) (pc' := 6) 3 (T_XT_within (G := G) (h := h)  q1) (by decide +kernel) mv_XT_within ml_X11_97 (by decide +kernel) rfl rfl (Nat.le_of_ble_eq_true rfl) rfl ?_
  refine sd_if_ne (off := 6) (tgt := 12) (pc' := 9) (by decide +kernel) (fun c3 => ?_) (fun c3 => ?_)
  · replace hf := ite_n c3 hf
    refine sd_aload_n (k := 0) (i := 0) (q := 0) (pc' := 13) (by decide +kernel) rfl rfl ?_
    obtain ⟨t5, q4, hf⟩ := b1_some hf
    refine sF_callV (idx := 166) (b := 0) (As := []) (ci := 11) (nn := 17) (pc' := 16) 0 (T_XT_operationTyped (G := G) (h := h)  q4) (by decide +kernel) mv_XT_operationTyped ml_X11_166 (by decide +kernel) rfl rfl (Nat.le_of_ble_eq_true rfl) SH_0 rfl (by decide) rfl rfl ?_
    refine sd_istore_n (k := 2) (i := 2) (pc' := 17) (lo' := [(2, .int t5), (0, .ref (G.1 + 0)), (1, .int a0)]) (by decide +kernel) rfl (by decide) rfl ?_
    refine sd_iload_n (k := 2) (i := 2) (q := 0) (pc' := 18) (by decide +kernel) rfl rfl ?_
    refine sd_iconst (n := -1) (v := (-1)) (pc' := 19) (by decide +kernel) (by decide) ?_
    refine sd_icmp_ne (off := 6) (tgt := 25) (pc' := 22) (by decide +kernel) (fun c6 => ?_) (fun c6 => ?_)
    · replace hf := ite_n c6 hf
      refine sd_aload_n (k := 0) (i := 0) (q := 1) (pc' := 26) (by decide +kernel) rfl rfl ?_
      refine sF_gr (idx := 21) (ci := 11) (k := 1) (n := 17) (r := 6) (pc' := 29) (by decide +kernel) fl_X11_21 (by decide +kernel) rfl SH_0 (by decide) (by decide +kernel) ?_
      refine sF_gi (idx := 170) (ci := 2) (k := 2) (n := 3) (pc' := 32) (by decide +kernel) fl_X11_170 (by decide +kernel) rfl SH_6 ?_
      refine sd_iconst (n := 5) (v := 5) (pc' := 33) (by decide +kernel) (by decide) ?_
      refine sd_icmp_lt (off := 6) (tgt := 39) (pc' := 36) (by decide +kernel) (fun c7 => ?_) (fun c7 => ?_)
      · replace hf := ite_p c7 hf
        refine sd_aload_n (k := 0) (i := 0) (q := 1) (pc' := 40) (by decide +kernel) rfl rfl ?_
        refine sF_gr (idx := 21) (ci := 11) (k := 1) (n := 17) (r := 6) (pc' := 43) (by decide +kernel) fl_X11_21 (by decide +kernel) rfl SH_0 (by decide) (by decide +kernel) ?_
        refine sd_dup (pc' := 44) (by decide +kernel) rfl ?_
        refine sF_gi (idx := 170) (ci := 2) (k := 2) (n := 3) (pc' := 47) (by decide +kernel) fl_X11_170 (by decide +kernel) rfl SH_6 ?_
        refine sd_dup_x1 (pc' := 48) (by decide +kernel) rfl rfl ?_
        refine sd_iconst (n := 1) (v := 1) (pc' := 49) (by decide +kernel) (by decide) ?_
        refine sd_iadd (pc' := 50) (by decide +kernel) ?_
        obtain ⟨h8, e9, hf⟩ := hb_some hf
        refine sF_pi (idx := 170) (ci := 2) (k := 2) (n := 3) (pc' := 53) (by decide +kernel) fl_X11_170 (by decide +kernel) rfl rfl rfl SH_6 ?_
        rw [← e9]; clear e9
        refine sd_istore_n (k := 3) (i := 3) (pc' := 54) (lo' := [(3, .int (h.1 6 2)), (2, .int t5), (0, .ref (G.1 + 0)), (1, .int a0)]) (by decide +kernel) rfl (by decide) rfl ?_
        refine sd_aload_n (k := 0) (i := 0) (q := 2) (pc' := 55) (by decide +kernel) rfl rfl ?_
        refine sF_gr (idx := 21) (ci := 11) (k := 1) (n := 17) (r := 6) (pc' := 58) (by decide +kernel) fl_X11_21 (by decide +kernel) rfl SH_0 (by decide) (by decide +kernel) ?_
        refine sF_gr (idx := 173) (ci := 2) (k := 0) (n := 3) (r := 7) (pc' := 61) (by decide +kernel) fl_X11_173 (by decide +kernel) rfl SH_6 (by decide) (by decide +kernel) ?_
        refine sd_iload_n (k := 3) (i := 3) (q := 0) (pc' := 62) (by decide +kernel) rfl rfl ?_
        obtain ⟨g10, hf⟩ := gd_some hf
        refine sF_aald (n := 5) (r := (8 + 5 * ((h.1 6 2) : Int32).toNatClampNeg)) (pc' := 63) (by decide +kernel) SH_7 (by decide) g10 (rta_7 (inB_lt g10)) ?_
        refine sd_iload_n (k := 2) (i := 2) (q := 1) (pc' := 64) (by decide +kernel) rfl rfl ?_
        refine sd_iload_n (k := 1) (i := 1) (q := 3) (pc' := 65) (by decide +kernel) rfl rfl ?_
        obtain ⟨h12, q11, hf⟩ := b1_some hf
        refine sF_callV0 (idx := 177) (b := (8 + 5 * ((h.1 6 2) : Int32).toNatClampNeg)) (As := [.int t5, .int a0]) (ci := 9) (nn := 6) (pc' := 68) 2 (T_XA_begin (G := G) (h := h8) (sha_7 (inB_lt g10)) q11) (by decide +kernel) mv_XA_begin ml_X11_177 (by decide +kernel) rfl rfl (Nat.le_of_ble_eq_true rfl) (sha_7 (inB_lt g10)) rfl (by decide) rfl rfl ?_
        refine sd_aload_n (k := 0) (i := 0) (q := 2) (pc' := 69) (by decide +kernel) rfl rfl ?_
        refine sF_gr (idx := 28) (ci := 11) (k := 2) (n := 17) (r := 33) (pc' := 72) (by decide +kernel) fl_X11_28 (by decide +kernel) rfl SH_0 (by decide) (by decide +kernel) ?_
        refine sd_iconst (n := 1) (v := 1) (pc' := 73) (by decide +kernel) (by decide) ?_
        refine sd_iload_n (k := 3) (i := 3) (q := 0) (pc' := 74) (by decide +kernel) rfl rfl ?_
        refine sd_iconst (n := -1) (v := (-1)) (pc' := 75) (by decide +kernel) (by decide) ?_
        obtain ⟨h14, q13, hf⟩ := b1_some hf
        refine sF_callV0 (idx := 157) (b := 33) (As := [.int 1, .int (h.1 6 2), .int (-1)]) (ci := 0) (nn := 3) (pc' := 78) 3 (T_XH_note (G := G) (h := h12)  q13) (by decide +kernel) mv_XH_note ml_X11_157 (by decide +kernel) rfl rfl (Nat.le_of_ble_eq_true rfl) SH_33 rfl (by decide) rfl rfl ?_
        refine sd_aload_n (k := 0) (i := 0) (q := 2) (pc' := 79) (by decide +kernel) rfl rfl ?_
        refine sd_iconst (n := 0) (v := 0) (pc' := 80) (by decide +kernel) (by decide) ?_
        obtain ⟨h15, e16, hf⟩ := hb_some hf
        refine sF_pi (idx := 163) (ci := 11) (k := 15) (n := 17) (pc' := 83) (by decide +kernel) fl_X11_163 (by decide +kernel) rfl rfl rfl SH_0 ?_
        rw [← e16]; clear e16
        refine sd_aload_n (k := 0) (i := 0) (q := 2) (pc' := 84) (by decide +kernel) rfl rfl ?_
        refine sF_gr (idx := 41) (ci := 11) (k := 4) (n := 17) (r := 56) (pc' := 87) (by decide +kernel) fl_X11_41 (by decide +kernel) rfl SH_0 (by decide) (by decide +kernel) ?_
        refine sd_iconst (n := 1) (v := 1) (pc' := 88) (by decide +kernel) (by decide) ?_
        obtain ⟨h17, e18, hf⟩ := hb_some hf
        refine sF_pz (idx := 109) (ci := 10) (k := 5) (n := 6) (pc' := 91) (by decide +kernel) fl_X11_109 (by decide +kernel) rfl rfl rfl SH_56 (by decide) ?_
        rw [← e18]; clear e18
        refine sd_iload_n (k := 3) (i := 3) (q := 0) (pc' := 92) (by decide +kernel) rfl rfl ?_
        obtain rfl := Option.some.inj hf
        exact sd_iret (by decide +kernel) rfl (hE _)
      · replace hf := ite_n c7 hf
        refine sd_bipush (n := -4) (v := (-4)) (pc' := 38) (by decide +kernel) (by decide) ?_
        obtain rfl := Option.some.inj hf
        exact sd_iret (by decide +kernel) rfl (hE _)
    · replace hf := ite_p c6 hf
      refine sd_bipush (n := -3) (v := (-3)) (pc' := 24) (by decide +kernel) (by decide) ?_
      obtain rfl := Option.some.inj hf
      exact sd_iret (by decide +kernel) rfl (hE _)
  · replace hf := ite_p c3 hf
    refine sd_bipush (n := -2) (v := (-2)) (pc' := 11) (by decide +kernel) (by decide) ?_
    obtain rfl := Option.some.inj hf
    exact sd_iret (by decide +kernel) rfl (hE _)

def M_XT_isStatement : sd_MX := (yX11_isStatement, cX11_isStatement, 2, (some .boolean), { frames := 2, cells := 0, slots := 0, locals := 62 })
def XT_isStatement (h : sd_H) (a0 : Int32) : Option Int32 :=
  b1 (XT_within a0 0 ((h.1 6 2) - 1)) (fun t2 => gd (sd_isB t2) (some t2))
set_option maxHeartbeats 4000000 in
set_option maxRecDepth 100000 in
theorem T_XT_isStatement {G : sd_GX} {h : sd_H} {a0 : Int32} {r : Int32} (hf : XT_isStatement h a0 = some r) : sd_RunF G M_XT_isStatement [.ref (G.1 + 0), .int a0] h (some (.int r)) h := by
  refine sF_run ⟨rfl, rfl⟩ (by decide +kernel) (Nat.le_of_ble_eq_true rfl) (lo := [(0, .ref (G.1 + 0)), (1, .int a0)]) rfl (fun X hE => ?_)
  unfold XT_isStatement at hf
  refine sd_iload_n (k := 1) (i := 1) (q := 1) (pc' := 1) (by decide +kernel) rfl rfl ?_
  refine sd_iconst (n := 0) (v := 0) (pc' := 2) (by decide +kernel) (by decide) ?_
  refine sd_aload_n (k := 0) (i := 0) (q := 0) (pc' := 3) (by decide +kernel) rfl rfl ?_
  refine sF_gr (idx := 21) (ci := 11) (k := 1) (n := 17) (r := 6) (pc' := 6) (by decide +kernel) fl_X11_21 (by decide +kernel) rfl SH_0 (by decide) (by decide +kernel) ?_
  refine sF_gi (idx := 170) (ci := 2) (k := 2) (n := 3) (pc' := 9) (by decide +kernel) fl_X11_170 (by decide +kernel) rfl SH_6 ?_
  refine sd_iconst (n := 1) (v := 1) (pc' := 10) (by decide +kernel) (by decide) ?_
  refine sd_isub (pc' := 11) (by decide +kernel) ?_
  obtain ⟨t2, q1, hf⟩ := b1_some hf
  refine sF_callS (idx := 97) (As := [.int a0, .int 0, .int ((h.1 6 2) - 1)]) (pc' := 14) 3 (T_XT_within (G := G) (h := h)  q1) (by decide +kernel) mv_XT_within ml_X11_97 (by decide +kernel) rfl rfl (Nat.le_of_ble_eq_true rfl) rfl ?_
  obtain ⟨g3, hf⟩ := gd_some hf
  obtain rfl := Option.some.inj hf
  exact sd_zret (by decide +kernel) rfl g3 (hE _)

theorem ml_X11_207 : Cond.methodLink RX11 207 yX11_isStatement ∈ sd_tb := sd_mem (i := 663) (by decide +kernel)
theorem mv_XT_isStatement : sd_mV M_XT_isStatement 1 := ⟨sd_mem (i := 665) (by decide +kernel), sd_mem (i := 5) (by decide +kernel), ⟨sd_mem (i := 666) (by decide +kernel), sd_mem (i := 108) (by decide +kernel), by decide +kernel, by decide +kernel, by decide +kernel⟩⟩
def M_XT_isReference : sd_MX := (yX11_isReference, cX11_isReference, 3, (some .boolean), { frames := 3, cells := 0, slots := 0, locals := 83 })
def XT_isReference (h : sd_H) (a0 : Int32) (a1 : Int32) : Option Int32 :=
  b1 (XT_isStatement h a0) (fun t2 => (if t2 = 0 then some 0 else b1 (XT_within a1 0 2) (fun t5 => (if t5 = 0 then some 0 else some 1))))
set_option maxHeartbeats 4000000 in
set_option maxRecDepth 100000 in
theorem T_XT_isReference {G : sd_GX} {h : sd_H} {a0 : Int32} {a1 : Int32} {r : Int32} (hf : XT_isReference h a0 a1 = some r) : sd_RunF G M_XT_isReference [.ref (G.1 + 0), .int a0, .int a1] h (some (.int r)) h := by
  refine sF_run ⟨rfl, rfl⟩ (by decide +kernel) (Nat.le_of_ble_eq_true rfl) (lo := [(0, .ref (G.1 + 0)), (1, .int a0), (2, .int a1)]) rfl (fun X hE => ?_)
  unfold XT_isReference at hf
  refine sd_aload_n (k := 0) (i := 0) (q := 0) (pc' := 1) (by decide +kernel) rfl rfl ?_
  refine sd_iload_n (k := 1) (i := 1) (q := 1) (pc' := 2) (by decide +kernel) rfl rfl ?_
  obtain ⟨t2, q1, hf⟩ := b1_some hf
  refine sF_callV (idx := 207) (b := 0) (As := [.int a0]) (ci := 11) (nn := 17) (pc' := 5) 1 (T_XT_isStatement (G := G) (h := h)  q1) (by decide +kernel) mv_XT_isStatement ml_X11_207 (by decide +kernel) rfl rfl (Nat.le_of_ble_eq_true rfl) SH_0 rfl (by decide) rfl rfl ?_
  refine sd_if_eq (off := 16) (tgt := 21) (pc' := 8) (by decide +kernel) (fun c3 => ?_) (fun c3 => ?_)
  · replace hf := ite_p c3 hf
    refine sd_iconst (n := 0) (v := 0) (pc' := 22) (by decide +kernel) (by decide) ?_
    obtain rfl := Option.some.inj hf
    exact sd_zret (by decide +kernel) rfl rfl (hE _)
  · replace hf := ite_n c3 hf
    refine sd_iload_n (k := 2) (i := 2) (q := 2) (pc' := 9) (by decide +kernel) rfl rfl ?_
    refine sd_iconst (n := 0) (v := 0) (pc' := 10) (by decide +kernel) (by decide) ?_
    refine sd_iconst (n := 2) (v := 2) (pc' := 11) (by decide +kernel) (by decide) ?_
    obtain ⟨t5, q4, hf⟩ := b1_some hf
    refine sF_callS (idx := 97) (As := [.int a1, .int 0, .int 2]) (pc' := 14) 3 (T_XT_within (G := G) (h := h)  q4) (by decide +kernel) mv_XT_within ml_X11_97 (by decide +kernel) rfl rfl (Nat.le_of_ble_eq_true rfl) rfl ?_
    refine sd_if_eq (off := 7) (tgt := 21) (pc' := 17) (by decide +kernel) (fun c6 => ?_) (fun c6 => ?_)
    · replace hf := ite_p c6 hf
      refine sd_iconst (n := 0) (v := 0) (pc' := 22) (by decide +kernel) (by decide) ?_
      obtain rfl := Option.some.inj hf
      exact sd_zret (by decide +kernel) rfl rfl (hE _)
    · replace hf := ite_n c6 hf
      refine sd_iconst (n := 1) (v := 1) (pc' := 18) (by decide +kernel) (by decide) ?_
      refine sd_goto (off := 4) (tgt := 22) (pc' := 21) (by decide +kernel) ?_
      obtain rfl := Option.some.inj hf
      exact sd_zret (by decide +kernel) rfl rfl (hE _)

theorem ml_X11_183 : Cond.methodLink RX11 183 yX11_isReference ∈ sd_tb := sd_mem (i := 659) (by decide +kernel)
theorem mv_XT_isReference : sd_mV M_XT_isReference 2 := ⟨sd_mem (i := 661) (by decide +kernel), sd_mem (i := 4) (by decide +kernel), ⟨sd_mem (i := 662) (by decide +kernel), sd_mem (i := 108) (by decide +kernel), by decide +kernel, by decide +kernel, by decide +kernel⟩⟩
theorem fl_X11_186 : sd_fl RX11 186 9 0 := ⟨sd_mem (i := 214) (by decide +kernel), by decide, by decide⟩
theorem fl_X11_190 : sd_fl RX11 190 5 0 := ⟨sd_mem (i := 190) (by decide +kernel), by decide, by decide⟩
def M_XT_refer : sd_MX := (yX11_refer, cX11_refer, 6, (some .int), { frames := 4, cells := 0, slots := 0, locals := 105 })
def XT_refer_B19 (h : sd_H) (l1 : Int32) (l2 : Int32) (l3 : Int32) (s0 : Int32) (s1 : Int32) : Option (sd_H × Int32) :=
  b1 (XT_within s1 s0 5) (fun t6 => (if t6 = 0 then some (h, (-2)) else gd (sd_inB l1 5) (gd (sd_inB l2 3) (b1 (XH_note h 2 l1 l2) (fun h11 => b1 (XH_keep h11 (h.1 (((8 + 5 * (l1 : Int32).toNatClampNeg) + 1) + 1 + (l2 : Int32).toNatClampNeg) 0) 0 0) (fun h13 => hb (wI h13 (((8 + 5 * (l1 : Int32).toNatClampNeg) + 1) + 1 + (l2 : Int32).toNatClampNeg) 0 l3) (fun h14 => hb (wI h14 56 5 1) (fun h16 => some (h16, (h.1 (((8 + 5 * (l1 : Int32).toNatClampNeg) + 1) + 1 + (l2 : Int32).toNatClampNeg) 0))))))))))
set_option maxHeartbeats 4000000 in
set_option maxRecDepth 100000 in
theorem J_XT_refer_B19 {G : sd_GX} {X : sd_CX} (hE : ∀ g : sd_H, sd_end G X M_XT_refer (sd_F g)) {h : sd_H} {r : (sd_H × Int32)} {l1 : Int32} {l2 : Int32} {l3 : Int32} {s0 : Int32} {s1 : Int32} (hf : XT_refer_B19 h l1 l2 l3 s0 s1 = some r) : sd_J G X (sd_QR G X M_XT_refer (some (.int r.2), sd_F r.1)) M_XT_refer 19 [(0, .ref (G.1 + 0)), (1, .int l1), (2, .int l2), (3, .int l3)] [.int s0, .int s1] (sd_F h) := by
  unfold XT_refer_B19 at hf
  refine sd_iconst (n := 5) (v := 5) (pc' := 20) (by decide +kernel) (by decide) ?_
  obtain ⟨t6, q5, hf⟩ := b1_some hf
  refine sF_callS (idx := 97) (As := [.int s1, .int s0, .int 5]) (pc' := 23) 3 (T_XT_within (G := G) (h := h)  q5) (by decide +kernel) mv_XT_within ml_X11_97 (by decide +kernel) rfl rfl (Nat.le_of_ble_eq_true rfl) rfl ?_
  refine sd_if_ne (off := 6) (tgt := 29) (pc' := 26) (by decide +kernel) (fun c7 => ?_) (fun c7 => ?_)
  · replace hf := ite_n c7 hf
    refine sd_aload_n (k := 0) (i := 0) (q := 0) (pc' := 30) (by decide +kernel) rfl rfl ?_
    refine sF_gr (idx := 21) (ci := 11) (k := 1) (n := 17) (r := 6) (pc' := 33) (by decide +kernel) fl_X11_21 (by decide +kernel) rfl SH_0 (by decide) (by decide +kernel) ?_
    refine sF_gr (idx := 173) (ci := 2) (k := 0) (n := 3) (r := 7) (pc' := 36) (by decide +kernel) fl_X11_173 (by decide +kernel) rfl SH_6 (by decide) (by decide +kernel) ?_
    refine sd_iload_n (k := 1) (i := 1) (q := 1) (pc' := 37) (by decide +kernel) rfl rfl ?_
    obtain ⟨g8, hf⟩ := gd_some hf
    refine sF_aald (n := 5) (r := (8 + 5 * (l1 : Int32).toNatClampNeg)) (pc' := 38) (by decide +kernel) SH_7 (by decide) g8 (rta_7 (inB_lt g8)) ?_
    refine sF_gr (idx := 186) (ci := 9) (k := 0) (n := 6) (r := ((8 + 5 * (l1 : Int32).toNatClampNeg) + 1)) (pc' := 41) (by decide +kernel) fl_X11_186 (by decide +kernel) rfl (sha_7 (inB_lt g8)) (by decide) (rt_9_0 (sha_7 (inB_lt g8))) ?_
    refine sd_iload_n (k := 2) (i := 2) (q := 2) (pc' := 42) (by decide +kernel) rfl rfl ?_
    obtain ⟨g9, hf⟩ := gd_some hf
    refine sF_aald (n := 3) (r := (((8 + 5 * (l1 : Int32).toNatClampNeg) + 1) + 1 + (l2 : Int32).toNatClampNeg)) (pc' := 43) (by decide +kernel) (sh_9_0 (sha_7 (inB_lt g8))) (by decide) g9 (rta_R (sh_9_0 (sha_7 (inB_lt g8))) (inB_lt g9)) ?_
    refine sd_astore (i := 4) (pc' := 45) (lo' := [(4, .ref (G.1 + (((8 + 5 * (l1 : Int32).toNatClampNeg) + 1) + 1 + (l2 : Int32).toNatClampNeg))), (0, .ref (G.1 + 0)), (1, .int l1), (2, .int l2), (3, .int l3)]) (by decide +kernel) (by decide) rfl ?_
    refine sd_aload (i := 4) (q := 0) (pc' := 47) (by decide +kernel) rfl ?_
    refine sF_gi (idx := 190) (ci := 5) (k := 0) (n := 4) (pc' := 50) (by decide +kernel) fl_X11_190 (by decide +kernel) rfl (sha_R (sh_9_0 (sha_7 (inB_lt g8))) (inB_lt g9)) ?_
    refine sd_istore (i := 5) (pc' := 52) (lo' := [(5, .int (h.1 (((8 + 5 * (l1 : Int32).toNatClampNeg) + 1) + 1 + (l2 : Int32).toNatClampNeg) 0)), (4, .ref (G.1 + (((8 + 5 * (l1 : Int32).toNatClampNeg) + 1) + 1 + (l2 : Int32).toNatClampNeg))), (0, .ref (G.1 + 0)), (1, .int l1), (2, .int l2), (3, .int l3)]) (by decide +kernel) (by decide) rfl ?_
    refine sd_aload_n (k := 0) (i := 0) (q := 2) (pc' := 53) (by decide +kernel) rfl rfl ?_
    refine sF_gr (idx := 28) (ci := 11) (k := 2) (n := 17) (r := 33) (pc' := 56) (by decide +kernel) fl_X11_28 (by decide +kernel) rfl SH_0 (by decide) (by decide +kernel) ?_
    refine sd_iconst (n := 2) (v := 2) (pc' := 57) (by decide +kernel) (by decide) ?_
    refine sd_iload_n (k := 1) (i := 1) (q := 3) (pc' := 58) (by decide +kernel) rfl rfl ?_
    refine sd_iload_n (k := 2) (i := 2) (q := 4) (pc' := 59) (by decide +kernel) rfl rfl ?_
    obtain ⟨h11, q10, hf⟩ := b1_some hf
    refine sF_callV0 (idx := 157) (b := 33) (As := [.int 2, .int l1, .int l2]) (ci := 0) (nn := 3) (pc' := 62) 3 (T_XH_note (G := G) (h := h)  q10) (by decide +kernel) mv_XH_note ml_X11_157 (by decide +kernel) rfl rfl (Nat.le_of_ble_eq_true rfl) SH_33 rfl (by decide) rfl rfl ?_
    refine sd_aload_n (k := 0) (i := 0) (q := 2) (pc' := 63) (by decide +kernel) rfl rfl ?_
    refine sF_gr (idx := 28) (ci := 11) (k := 2) (n := 17) (r := 33) (pc' := 66) (by decide +kernel) fl_X11_28 (by decide +kernel) rfl SH_0 (by decide) (by decide +kernel) ?_
    refine sd_iload (i := 5) (q := 0) (pc' := 68) (by decide +kernel) rfl ?_
    refine sd_iconst (n := 0) (v := 0) (pc' := 69) (by decide +kernel) (by decide) ?_
    refine sd_iconst (n := 0) (v := 0) (pc' := 70) (by decide +kernel) (by decide) ?_
    obtain ⟨h13, q12, hf⟩ := b1_some hf
    refine sF_callV0 (idx := 160) (b := 33) (As := [.int (h.1 (((8 + 5 * (l1 : Int32).toNatClampNeg) + 1) + 1 + (l2 : Int32).toNatClampNeg) 0), .int 0, .int 0]) (ci := 0) (nn := 3) (pc' := 73) 3 (T_XH_keep (G := G) (h := h11)  q12) (by decide +kernel) mv_XH_keep ml_X11_160 (by decide +kernel) rfl rfl (Nat.le_of_ble_eq_true rfl) SH_33 rfl (by decide) rfl rfl ?_
    refine sd_aload (i := 4) (q := 1) (pc' := 75) (by decide +kernel) rfl ?_
    refine sd_iload_n (k := 3) (i := 3) (q := 5) (pc' := 76) (by decide +kernel) rfl rfl ?_
    obtain ⟨h14, e15, hf⟩ := hb_some hf
    refine sF_pi (idx := 190) (ci := 5) (k := 0) (n := 4) (pc' := 79) (by decide +kernel) fl_X11_190 (by decide +kernel) rfl rfl rfl (sha_R (sh_9_0 (sha_7 (inB_lt g8))) (inB_lt g9)) ?_
    rw [← e15]; clear e15
    refine sd_aload_n (k := 0) (i := 0) (q := 2) (pc' := 80) (by decide +kernel) rfl rfl ?_
    refine sF_gr (idx := 41) (ci := 11) (k := 4) (n := 17) (r := 56) (pc' := 83) (by decide +kernel) fl_X11_41 (by decide +kernel) rfl SH_0 (by decide) (by decide +kernel) ?_
    refine sd_iconst (n := 1) (v := 1) (pc' := 84) (by decide +kernel) (by decide) ?_
    obtain ⟨h16, e17, hf⟩ := hb_some hf
    refine sF_pz (idx := 109) (ci := 10) (k := 5) (n := 6) (pc' := 87) (by decide +kernel) fl_X11_109 (by decide +kernel) rfl rfl rfl SH_56 (by decide) ?_
    rw [← e17]; clear e17
    refine sd_iload (i := 5) (q := 0) (pc' := 89) (by decide +kernel) rfl ?_
    obtain rfl := Option.some.inj hf
    exact sd_iret (by decide +kernel) rfl (hE _)
  · replace hf := ite_p c7 hf
    refine sd_bipush (n := -2) (v := (-2)) (pc' := 28) (by decide +kernel) (by decide) ?_
    obtain rfl := Option.some.inj hf
    exact sd_iret (by decide +kernel) rfl (hE _)
def XT_refer (h : sd_H) (a0 : Int32) (a1 : Int32) (a2 : Int32) : Option (sd_H × Int32) :=
  b1 (XT_isReference h a0 a1) (fun t2 => (if t2 = 0 then some (h, (-2)) else (if a1 = 0 then XT_refer_B19 h a0 a1 a2 0 a2 else XT_refer_B19 h a0 a1 a2 (-1) a2)))
set_option maxHeartbeats 4000000 in
set_option maxRecDepth 100000 in
theorem T_XT_refer {G : sd_GX} {h : sd_H} {a0 : Int32} {a1 : Int32} {a2 : Int32} {r : (sd_H × Int32)} (hf : XT_refer h a0 a1 a2 = some r) : sd_RunF G M_XT_refer [.ref (G.1 + 0), .int a0, .int a1, .int a2] h (some (.int r.2)) r.1 := by
  refine sF_run ⟨rfl, rfl⟩ (by decide +kernel) (Nat.le_of_ble_eq_true rfl) (lo := [(0, .ref (G.1 + 0)), (1, .int a0), (2, .int a1), (3, .int a2)]) rfl (fun X hE => ?_)
  unfold XT_refer at hf
  refine sd_aload_n (k := 0) (i := 0) (q := 0) (pc' := 1) (by decide +kernel) rfl rfl ?_
  refine sd_iload_n (k := 1) (i := 1) (q := 1) (pc' := 2) (by decide +kernel) rfl rfl ?_
  refine sd_iload_n (k := 2) (i := 2) (q := 2) (pc' := 3) (by decide +kernel) rfl rfl ?_
  obtain ⟨t2, q1, hf⟩ := b1_some hf
  refine sF_callV (idx := 183) (b := 0) (As := [.int a0, .int a1]) (ci := 11) (nn := 17) (pc' := 6) 2 (T_XT_isReference (G := G) (h := h)  q1) (by decide +kernel) mv_XT_isReference ml_X11_183 (by decide +kernel) rfl rfl (Nat.le_of_ble_eq_true rfl) SH_0 rfl (by decide) rfl rfl ?_
  refine sd_if_eq (off := 20) (tgt := 26) (pc' := 9) (by decide +kernel) (fun c3 => ?_) (fun c3 => ?_)
  · replace hf := ite_p c3 hf
    refine sd_bipush (n := -2) (v := (-2)) (pc' := 28) (by decide +kernel) (by decide) ?_
    obtain rfl := Option.some.inj hf
    exact sd_iret (by decide +kernel) rfl (hE _)
  · replace hf := ite_n c3 hf
    refine sd_iload_n (k := 3) (i := 3) (q := 3) (pc' := 10) (by decide +kernel) rfl rfl ?_
    refine sd_iload_n (k := 2) (i := 2) (q := 2) (pc' := 11) (by decide +kernel) rfl rfl ?_
    refine sd_if_ne (off := 7) (tgt := 18) (pc' := 14) (by decide +kernel) (fun c4 => ?_) (fun c4 => ?_)
    · replace hf := ite_n c4 hf
      refine sd_iconst (n := -1) (v := (-1)) (pc' := 19) (by decide +kernel) (by decide) ?_
      refine sd_J.sub (lo' := [(0, .ref (G.1 + 0)), (1, .int a0), (2, .int a1), (3, .int a2)]) [0, 1, 2, 3] rfl ?_
      exact J_XT_refer_B19 hE hf
    · replace hf := ite_p c4 hf
      refine sd_iconst (n := 0) (v := 0) (pc' := 15) (by decide +kernel) (by decide) ?_
      refine sd_goto (off := 4) (tgt := 19) (pc' := 18) (by decide +kernel) ?_
      refine sd_J.sub (lo' := [(0, .ref (G.1 + 0)), (1, .int a0), (2, .int a1), (3, .int a2)]) [0, 1, 2, 3] rfl ?_
      exact J_XT_refer_B19 hE hf

theorem fl_X11_195 : sd_fl RX11 195 5 1 := ⟨sd_mem (i := 194) (by decide +kernel), by decide, by decide⟩
theorem fl_X11_198 : sd_fl RX11 198 5 2 := ⟨sd_mem (i := 197) (by decide +kernel), by decide, by decide⟩
theorem fl_X11_201 : sd_fl RX11 201 5 3 := ⟨sd_mem (i := 200) (by decide +kernel), by decide, by decide⟩
theorem ml_X11_204 : Cond.methodLink RX11 204 yX5_lie ∈ sd_tb := sd_mem (i := 671) (by decide +kernel)
def M_XT_place : sd_MX := (yX11_place, cX11_place, 7, (some .int), { frames := 4, cells := 0, slots := 0, locals := 105 })
def XT_place (h : sd_H) (a0 : Int32) (a1 : Int32) (a2 : Int32) (a3 : Int32) (a4 : Int32) : Option (sd_H × Int32) :=
  b1 (XT_isReference h a0 a1) (fun t2 => (if t2 = 0 then some (h, (-2)) else b1 (XT_within a2 (-60) 60) (fun t5 => (if t5 = 0 then some (h, (-2)) else b1 (XT_within a3 (-6) 6) (fun t8 => (if t8 = 0 then some (h, (-2)) else b1 (XT_within a4 (-6) 6) (fun t11 => (if t11 = 0 then some (h, (-2)) else gd (sd_inB a0 5) (gd (sd_inB a1 3) (b1 (XH_note h 3 a0 a1) (fun h16 => b1 (XH_keep h16 (h16.1 (((8 + 5 * (a0 : Int32).toNatClampNeg) + 1) + 1 + (a1 : Int32).toNatClampNeg) 1) (h16.1 (((8 + 5 * (a0 : Int32).toNatClampNeg) + 1) + 1 + (a1 : Int32).toNatClampNeg) 2) (h16.1 (((8 + 5 * (a0 : Int32).toNatClampNeg) + 1) + 1 + (a1 : Int32).toNatClampNeg) 3)) (fun h18 => b1 (XF_lie h18 (((8 + 5 * (a0 : Int32).toNatClampNeg) + 1) + 1 + (a1 : Int32).toNatClampNeg) a2 a3 a4) (fun h20 => hb (wI h20 56 5 1) (fun h21 => some (h21, 1)))))))))))))))
set_option maxHeartbeats 4000000 in
set_option maxRecDepth 100000 in
theorem T_XT_place {G : sd_GX} {h : sd_H} {a0 : Int32} {a1 : Int32} {a2 : Int32} {a3 : Int32} {a4 : Int32} {r : (sd_H × Int32)} (hf : XT_place h a0 a1 a2 a3 a4 = some r) : sd_RunF G M_XT_place [.ref (G.1 + 0), .int a0, .int a1, .int a2, .int a3, .int a4] h (some (.int r.2)) r.1 := by
  refine sF_run ⟨rfl, rfl⟩ (by decide +kernel) (Nat.le_of_ble_eq_true rfl) (lo := [(0, .ref (G.1 + 0)), (1, .int a0), (2, .int a1), (3, .int a2), (4, .int a3), (5, .int a4)]) rfl (fun X hE => ?_)
  unfold XT_place at hf
  refine sd_aload_n (k := 0) (i := 0) (q := 0) (pc' := 1) (by decide +kernel) rfl rfl ?_
  refine sd_iload_n (k := 1) (i := 1) (q := 1) (pc' := 2) (by decide +kernel) rfl rfl ?_
  refine sd_iload_n (k := 2) (i := 2) (q := 2) (pc' := 3) (by decide +kernel) rfl rfl ?_
  obtain ⟨t2, q1, hf⟩ := b1_some hf
  refine sF_callV (idx := 183) (b := 0) (As := [.int a0, .int a1]) (ci := 11) (nn := 17) (pc' := 6) 2 (T_XT_isReference (G := G) (h := h)  q1) (by decide +kernel) mv_XT_isReference ml_X11_183 (by decide +kernel) rfl rfl (Nat.le_of_ble_eq_true rfl) SH_0 rfl (by decide) rfl rfl ?_
  refine sd_if_eq (off := 38) (tgt := 44) (pc' := 9) (by decide +kernel) (fun c3 => ?_) (fun c3 => ?_)
  · replace hf := ite_p c3 hf
    refine sd_bipush (n := -2) (v := (-2)) (pc' := 46) (by decide +kernel) (by decide) ?_
    obtain rfl := Option.some.inj hf
    exact sd_iret (by decide +kernel) rfl (hE _)
  · replace hf := ite_n c3 hf
    refine sd_iload_n (k := 3) (i := 3) (q := 3) (pc' := 10) (by decide +kernel) rfl rfl ?_
    refine sd_bipush (n := -60) (v := (-60)) (pc' := 12) (by decide +kernel) (by decide) ?_
    refine sd_bipush (n := 60) (v := 60) (pc' := 14) (by decide +kernel) (by decide) ?_
    obtain ⟨t5, q4, hf⟩ := b1_some hf
    refine sF_callS (idx := 97) (As := [.int a2, .int (-60), .int 60]) (pc' := 17) 3 (T_XT_within (G := G) (h := h)  q4) (by decide +kernel) mv_XT_within ml_X11_97 (by decide +kernel) rfl rfl (Nat.le_of_ble_eq_true rfl) rfl ?_
    refine sd_if_eq (off := 27) (tgt := 44) (pc' := 20) (by decide +kernel) (fun c6 => ?_) (fun c6 => ?_)
    · replace hf := ite_p c6 hf
      refine sd_bipush (n := -2) (v := (-2)) (pc' := 46) (by decide +kernel) (by decide) ?_
      obtain rfl := Option.some.inj hf
      exact sd_iret (by decide +kernel) rfl (hE _)
    · replace hf := ite_n c6 hf
      refine sd_iload (i := 4) (q := 4) (pc' := 22) (by decide +kernel) rfl ?_
      refine sd_bipush (n := -6) (v := (-6)) (pc' := 24) (by decide +kernel) (by decide) ?_
      refine sd_bipush (n := 6) (v := 6) (pc' := 26) (by decide +kernel) (by decide) ?_
      obtain ⟨t8, q7, hf⟩ := b1_some hf
      refine sF_callS (idx := 97) (As := [.int a3, .int (-6), .int 6]) (pc' := 29) 3 (T_XT_within (G := G) (h := h)  q7) (by decide +kernel) mv_XT_within ml_X11_97 (by decide +kernel) rfl rfl (Nat.le_of_ble_eq_true rfl) rfl ?_
      refine sd_if_eq (off := 15) (tgt := 44) (pc' := 32) (by decide +kernel) (fun c9 => ?_) (fun c9 => ?_)
      · replace hf := ite_p c9 hf
        refine sd_bipush (n := -2) (v := (-2)) (pc' := 46) (by decide +kernel) (by decide) ?_
        obtain rfl := Option.some.inj hf
        exact sd_iret (by decide +kernel) rfl (hE _)
      · replace hf := ite_n c9 hf
        refine sd_iload (i := 5) (q := 5) (pc' := 34) (by decide +kernel) rfl ?_
        refine sd_bipush (n := -6) (v := (-6)) (pc' := 36) (by decide +kernel) (by decide) ?_
        refine sd_bipush (n := 6) (v := 6) (pc' := 38) (by decide +kernel) (by decide) ?_
        obtain ⟨t11, q10, hf⟩ := b1_some hf
        refine sF_callS (idx := 97) (As := [.int a4, .int (-6), .int 6]) (pc' := 41) 3 (T_XT_within (G := G) (h := h)  q10) (by decide +kernel) mv_XT_within ml_X11_97 (by decide +kernel) rfl rfl (Nat.le_of_ble_eq_true rfl) rfl ?_
        refine sd_if_ne (off := 6) (tgt := 47) (pc' := 44) (by decide +kernel) (fun c12 => ?_) (fun c12 => ?_)
        · replace hf := ite_n c12 hf
          refine sd_aload_n (k := 0) (i := 0) (q := 0) (pc' := 48) (by decide +kernel) rfl rfl ?_
          refine sF_gr (idx := 21) (ci := 11) (k := 1) (n := 17) (r := 6) (pc' := 51) (by decide +kernel) fl_X11_21 (by decide +kernel) rfl SH_0 (by decide) (by decide +kernel) ?_
          refine sF_gr (idx := 173) (ci := 2) (k := 0) (n := 3) (r := 7) (pc' := 54) (by decide +kernel) fl_X11_173 (by decide +kernel) rfl SH_6 (by decide) (by decide +kernel) ?_
          refine sd_iload_n (k := 1) (i := 1) (q := 1) (pc' := 55) (by decide +kernel) rfl rfl ?_
          obtain ⟨g13, hf⟩ := gd_some hf
          refine sF_aald (n := 5) (r := (8 + 5 * (a0 : Int32).toNatClampNeg)) (pc' := 56) (by decide +kernel) SH_7 (by decide) g13 (rta_7 (inB_lt g13)) ?_
          refine sF_gr (idx := 186) (ci := 9) (k := 0) (n := 6) (r := ((8 + 5 * (a0 : Int32).toNatClampNeg) + 1)) (pc' := 59) (by decide +kernel) fl_X11_186 (by decide +kernel) rfl (sha_7 (inB_lt g13)) (by decide) (rt_9_0 (sha_7 (inB_lt g13))) ?_
          refine sd_iload_n (k := 2) (i := 2) (q := 2) (pc' := 60) (by decide +kernel) rfl rfl ?_
          obtain ⟨g14, hf⟩ := gd_some hf
          refine sF_aald (n := 3) (r := (((8 + 5 * (a0 : Int32).toNatClampNeg) + 1) + 1 + (a1 : Int32).toNatClampNeg)) (pc' := 61) (by decide +kernel) (sh_9_0 (sha_7 (inB_lt g13))) (by decide) g14 (rta_R (sh_9_0 (sha_7 (inB_lt g13))) (inB_lt g14)) ?_
          refine sd_astore (i := 6) (pc' := 63) (lo' := [(6, .ref (G.1 + (((8 + 5 * (a0 : Int32).toNatClampNeg) + 1) + 1 + (a1 : Int32).toNatClampNeg))), (0, .ref (G.1 + 0)), (1, .int a0), (2, .int a1), (3, .int a2), (4, .int a3), (5, .int a4)]) (by decide +kernel) (by decide) rfl ?_
          refine sd_aload_n (k := 0) (i := 0) (q := 1) (pc' := 64) (by decide +kernel) rfl rfl ?_
          refine sF_gr (idx := 28) (ci := 11) (k := 2) (n := 17) (r := 33) (pc' := 67) (by decide +kernel) fl_X11_28 (by decide +kernel) rfl SH_0 (by decide) (by decide +kernel) ?_
          refine sd_iconst (n := 3) (v := 3) (pc' := 68) (by decide +kernel) (by decide) ?_
          refine sd_iload_n (k := 1) (i := 1) (q := 2) (pc' := 69) (by decide +kernel) rfl rfl ?_
          refine sd_iload_n (k := 2) (i := 2) (q := 3) (pc' := 70) (by decide +kernel) rfl rfl ?_
          obtain ⟨h16, q15, hf⟩ := b1_some hf
          refine sF_callV0 (idx := 157) (b := 33) (As := [.int 3, .int a0, .int a1]) (ci := 0) (nn := 3) (pc' := 73) 3 (T_XH_note (G := G) (h := h)  q15) (by decide +kernel) mv_XH_note ml_X11_157 (by decide +kernel) rfl rfl (Nat.le_of_ble_eq_true rfl) SH_33 rfl (by decide) rfl rfl ?_
          refine sd_aload_n (k := 0) (i := 0) (q := 1) (pc' := 74) (by decide +kernel) rfl rfl ?_
          refine sF_gr (idx := 28) (ci := 11) (k := 2) (n := 17) (r := 33) (pc' := 77) (by decide +kernel) fl_X11_28 (by decide +kernel) rfl SH_0 (by decide) (by decide +kernel) ?_
          refine sd_aload (i := 6) (q := 0) (pc' := 79) (by decide +kernel) rfl ?_
          refine sF_gi (idx := 195) (ci := 5) (k := 1) (n := 4) (pc' := 82) (by decide +kernel) fl_X11_195 (by decide +kernel) rfl (sha_R (sh_9_0 (sha_7 (inB_lt g13))) (inB_lt g14)) ?_
          refine sd_aload (i := 6) (q := 0) (pc' := 84) (by decide +kernel) rfl ?_
          refine sF_gi (idx := 198) (ci := 5) (k := 2) (n := 4) (pc' := 87) (by decide +kernel) fl_X11_198 (by decide +kernel) rfl (sha_R (sh_9_0 (sha_7 (inB_lt g13))) (inB_lt g14)) ?_
          refine sd_aload (i := 6) (q := 0) (pc' := 89) (by decide +kernel) rfl ?_
          refine sF_gi (idx := 201) (ci := 5) (k := 3) (n := 4) (pc' := 92) (by decide +kernel) fl_X11_201 (by decide +kernel) rfl (sha_R (sh_9_0 (sha_7 (inB_lt g13))) (inB_lt g14)) ?_
          obtain ⟨h18, q17, hf⟩ := b1_some hf
          refine sF_callV0 (idx := 160) (b := 33) (As := [.int (h16.1 (((8 + 5 * (a0 : Int32).toNatClampNeg) + 1) + 1 + (a1 : Int32).toNatClampNeg) 1), .int (h16.1 (((8 + 5 * (a0 : Int32).toNatClampNeg) + 1) + 1 + (a1 : Int32).toNatClampNeg) 2), .int (h16.1 (((8 + 5 * (a0 : Int32).toNatClampNeg) + 1) + 1 + (a1 : Int32).toNatClampNeg) 3)]) (ci := 0) (nn := 3) (pc' := 95) 3 (T_XH_keep (G := G) (h := h16)  q17) (by decide +kernel) mv_XH_keep ml_X11_160 (by decide +kernel) rfl rfl (Nat.le_of_ble_eq_true rfl) SH_33 rfl (by decide) rfl rfl ?_
          refine sd_aload (i := 6) (q := 0) (pc' := 97) (by decide +kernel) rfl ?_
          refine sd_iload_n (k := 3) (i := 3) (q := 4) (pc' := 98) (by decide +kernel) rfl rfl ?_
          refine sd_iload (i := 4) (q := 5) (pc' := 100) (by decide +kernel) rfl ?_
          refine sd_iload (i := 5) (q := 6) (pc' := 102) (by decide +kernel) rfl ?_
          obtain ⟨h20, q19, hf⟩ := b1_some hf
          refine sF_callV0 (idx := 204) (b := (((8 + 5 * (a0 : Int32).toNatClampNeg) + 1) + 1 + (a1 : Int32).toNatClampNeg)) (As := [.int a2, .int a3, .int a4]) (ci := 5) (nn := 4) (pc' := 105) 3 (T_XF_lie (G := G) (h := h18) (sha_R (sh_9_0 (sha_7 (inB_lt g13))) (inB_lt g14)) q19) (by decide +kernel) mv_XF_lie ml_X11_204 (by decide +kernel) rfl rfl (Nat.le_of_ble_eq_true rfl) (sha_R (sh_9_0 (sha_7 (inB_lt g13))) (inB_lt g14)) rfl (by decide) rfl rfl ?_
          refine sd_aload_n (k := 0) (i := 0) (q := 1) (pc' := 106) (by decide +kernel) rfl rfl ?_
          refine sF_gr (idx := 41) (ci := 11) (k := 4) (n := 17) (r := 56) (pc' := 109) (by decide +kernel) fl_X11_41 (by decide +kernel) rfl SH_0 (by decide) (by decide +kernel) ?_
          refine sd_iconst (n := 1) (v := 1) (pc' := 110) (by decide +kernel) (by decide) ?_
          obtain ⟨h21, e22, hf⟩ := hb_some hf
          refine sF_pz (idx := 109) (ci := 10) (k := 5) (n := 6) (pc' := 113) (by decide +kernel) fl_X11_109 (by decide +kernel) rfl rfl rfl SH_56 (by decide) ?_
          rw [← e22]; clear e22
          refine sd_iconst (n := 1) (v := 1) (pc' := 114) (by decide +kernel) (by decide) ?_
          obtain rfl := Option.some.inj hf
          exact sd_iret (by decide +kernel) rfl (hE _)
        · replace hf := ite_p c12 hf
          refine sd_bipush (n := -2) (v := (-2)) (pc' := 46) (by decide +kernel) (by decide) ?_
          obtain rfl := Option.some.inj hf
          exact sd_iret (by decide +kernel) rfl (hE _)

theorem fl_X11_210 : sd_fl RX11 210 9 3 := ⟨sd_mem (i := 228) (by decide +kernel), by decide, by decide⟩
theorem fl_X11_213 : sd_fl RX11 213 9 4 := ⟨sd_mem (i := 231) (by decide +kernel), by decide, by decide⟩
def M_XT_guard : sd_MX := (yX11_guard, cX11_guard, 5, (some .int), { frames := 3, cells := 0, slots := 0, locals := 84 })
def XT_guard (h : sd_H) (a0 : Int32) (a1 : Int32) (a2 : Int32) : Option (sd_H × Int32) :=
  b1 (XT_isStatement h a0) (fun t2 => (if t2 = 0 then some (h, (-2)) else b1 (XT_within a1 1 6) (fun t5 => (if t5 = 0 then some (h, (-2)) else b1 (XT_within a2 0 (a1 - 1)) (fun t8 => (if t8 = 0 then some (h, (-2)) else gd (sd_inB a0 5) (b1 (XH_note h 4 a0 (-1)) (fun h12 => b1 (XH_keep h12 (h12.1 (8 + 5 * (a0 : Int32).toNatClampNeg) 3) (h12.1 (8 + 5 * (a0 : Int32).toNatClampNeg) 4) 0) (fun h14 => hb (wI h14 (8 + 5 * (a0 : Int32).toNatClampNeg) 3 a1) (fun h15 => hb (wI h15 (8 + 5 * (a0 : Int32).toNatClampNeg) 4 a2) (fun h17 => hb (wI h17 56 5 1) (fun h19 => some (h19, 1)))))))))))))
set_option maxHeartbeats 4000000 in
set_option maxRecDepth 100000 in
theorem T_XT_guard {G : sd_GX} {h : sd_H} {a0 : Int32} {a1 : Int32} {a2 : Int32} {r : (sd_H × Int32)} (hf : XT_guard h a0 a1 a2 = some r) : sd_RunF G M_XT_guard [.ref (G.1 + 0), .int a0, .int a1, .int a2] h (some (.int r.2)) r.1 := by
  refine sF_run ⟨rfl, rfl⟩ (by decide +kernel) (Nat.le_of_ble_eq_true rfl) (lo := [(0, .ref (G.1 + 0)), (1, .int a0), (2, .int a1), (3, .int a2)]) rfl (fun X hE => ?_)
  unfold XT_guard at hf
  refine sd_aload_n (k := 0) (i := 0) (q := 0) (pc' := 1) (by decide +kernel) rfl rfl ?_
  refine sd_iload_n (k := 1) (i := 1) (q := 1) (pc' := 2) (by decide +kernel) rfl rfl ?_
  obtain ⟨t2, q1, hf⟩ := b1_some hf
  refine sF_callV (idx := 207) (b := 0) (As := [.int a0]) (ci := 11) (nn := 17) (pc' := 5) 1 (T_XT_isStatement (G := G) (h := h)  q1) (by decide +kernel) mv_XT_isStatement ml_X11_207 (by decide +kernel) rfl rfl (Nat.le_of_ble_eq_true rfl) SH_0 rfl (by decide) rfl rfl ?_
  refine sd_if_eq (off := 24) (tgt := 29) (pc' := 8) (by decide +kernel) (fun c3 => ?_) (fun c3 => ?_)
  · replace hf := ite_p c3 hf
    refine sd_bipush (n := -2) (v := (-2)) (pc' := 31) (by decide +kernel) (by decide) ?_
    obtain rfl := Option.some.inj hf
    exact sd_iret (by decide +kernel) rfl (hE _)
  · replace hf := ite_n c3 hf
    refine sd_iload_n (k := 2) (i := 2) (q := 2) (pc' := 9) (by decide +kernel) rfl rfl ?_
    refine sd_iconst (n := 1) (v := 1) (pc' := 10) (by decide +kernel) (by decide) ?_
    refine sd_bipush (n := 6) (v := 6) (pc' := 12) (by decide +kernel) (by decide) ?_
    obtain ⟨t5, q4, hf⟩ := b1_some hf
    refine sF_callS (idx := 97) (As := [.int a1, .int 1, .int 6]) (pc' := 15) 3 (T_XT_within (G := G) (h := h)  q4) (by decide +kernel) mv_XT_within ml_X11_97 (by decide +kernel) rfl rfl (Nat.le_of_ble_eq_true rfl) rfl ?_
    refine sd_if_eq (off := 14) (tgt := 29) (pc' := 18) (by decide +kernel) (fun c6 => ?_) (fun c6 => ?_)
    · replace hf := ite_p c6 hf
      refine sd_bipush (n := -2) (v := (-2)) (pc' := 31) (by decide +kernel) (by decide) ?_
      obtain rfl := Option.some.inj hf
      exact sd_iret (by decide +kernel) rfl (hE _)
    · replace hf := ite_n c6 hf
      refine sd_iload_n (k := 3) (i := 3) (q := 3) (pc' := 19) (by decide +kernel) rfl rfl ?_
      refine sd_iconst (n := 0) (v := 0) (pc' := 20) (by decide +kernel) (by decide) ?_
      refine sd_iload_n (k := 2) (i := 2) (q := 2) (pc' := 21) (by decide +kernel) rfl rfl ?_
      refine sd_iconst (n := 1) (v := 1) (pc' := 22) (by decide +kernel) (by decide) ?_
      refine sd_isub (pc' := 23) (by decide +kernel) ?_
      obtain ⟨t8, q7, hf⟩ := b1_some hf
      refine sF_callS (idx := 97) (As := [.int a2, .int 0, .int (a1 - 1)]) (pc' := 26) 3 (T_XT_within (G := G) (h := h)  q7) (by decide +kernel) mv_XT_within ml_X11_97 (by decide +kernel) rfl rfl (Nat.le_of_ble_eq_true rfl) rfl ?_
      refine sd_if_ne (off := 6) (tgt := 32) (pc' := 29) (by decide +kernel) (fun c9 => ?_) (fun c9 => ?_)
      · replace hf := ite_n c9 hf
        refine sd_aload_n (k := 0) (i := 0) (q := 0) (pc' := 33) (by decide +kernel) rfl rfl ?_
        refine sF_gr (idx := 21) (ci := 11) (k := 1) (n := 17) (r := 6) (pc' := 36) (by decide +kernel) fl_X11_21 (by decide +kernel) rfl SH_0 (by decide) (by decide +kernel) ?_
        refine sF_gr (idx := 173) (ci := 2) (k := 0) (n := 3) (r := 7) (pc' := 39) (by decide +kernel) fl_X11_173 (by decide +kernel) rfl SH_6 (by decide) (by decide +kernel) ?_
        refine sd_iload_n (k := 1) (i := 1) (q := 1) (pc' := 40) (by decide +kernel) rfl rfl ?_
        obtain ⟨g10, hf⟩ := gd_some hf
        refine sF_aald (n := 5) (r := (8 + 5 * (a0 : Int32).toNatClampNeg)) (pc' := 41) (by decide +kernel) SH_7 (by decide) g10 (rta_7 (inB_lt g10)) ?_
        refine sd_astore (i := 4) (pc' := 43) (lo' := [(4, .ref (G.1 + (8 + 5 * (a0 : Int32).toNatClampNeg))), (0, .ref (G.1 + 0)), (1, .int a0), (2, .int a1), (3, .int a2)]) (by decide +kernel) (by decide) rfl ?_
        refine sd_aload_n (k := 0) (i := 0) (q := 1) (pc' := 44) (by decide +kernel) rfl rfl ?_
        refine sF_gr (idx := 28) (ci := 11) (k := 2) (n := 17) (r := 33) (pc' := 47) (by decide +kernel) fl_X11_28 (by decide +kernel) rfl SH_0 (by decide) (by decide +kernel) ?_
        refine sd_iconst (n := 4) (v := 4) (pc' := 48) (by decide +kernel) (by decide) ?_
        refine sd_iload_n (k := 1) (i := 1) (q := 2) (pc' := 49) (by decide +kernel) rfl rfl ?_
        refine sd_iconst (n := -1) (v := (-1)) (pc' := 50) (by decide +kernel) (by decide) ?_
        obtain ⟨h12, q11, hf⟩ := b1_some hf
        refine sF_callV0 (idx := 157) (b := 33) (As := [.int 4, .int a0, .int (-1)]) (ci := 0) (nn := 3) (pc' := 53) 3 (T_XH_note (G := G) (h := h)  q11) (by decide +kernel) mv_XH_note ml_X11_157 (by decide +kernel) rfl rfl (Nat.le_of_ble_eq_true rfl) SH_33 rfl (by decide) rfl rfl ?_
        refine sd_aload_n (k := 0) (i := 0) (q := 1) (pc' := 54) (by decide +kernel) rfl rfl ?_
        refine sF_gr (idx := 28) (ci := 11) (k := 2) (n := 17) (r := 33) (pc' := 57) (by decide +kernel) fl_X11_28 (by decide +kernel) rfl SH_0 (by decide) (by decide +kernel) ?_
        refine sd_aload (i := 4) (q := 0) (pc' := 59) (by decide +kernel) rfl ?_
        refine sF_gi (idx := 210) (ci := 9) (k := 3) (n := 6) (pc' := 62) (by decide +kernel) fl_X11_210 (by decide +kernel) rfl (sha_7 (inB_lt g10)) ?_
        refine sd_aload (i := 4) (q := 0) (pc' := 64) (by decide +kernel) rfl ?_
        refine sF_gi (idx := 213) (ci := 9) (k := 4) (n := 6) (pc' := 67) (by decide +kernel) fl_X11_213 (by decide +kernel) rfl (sha_7 (inB_lt g10)) ?_
        refine sd_iconst (n := 0) (v := 0) (pc' := 68) (by decide +kernel) (by decide) ?_
        obtain ⟨h14, q13, hf⟩ := b1_some hf
        refine sF_callV0 (idx := 160) (b := 33) (As := [.int (h12.1 (8 + 5 * (a0 : Int32).toNatClampNeg) 3), .int (h12.1 (8 + 5 * (a0 : Int32).toNatClampNeg) 4), .int 0]) (ci := 0) (nn := 3) (pc' := 71) 3 (T_XH_keep (G := G) (h := h12)  q13) (by decide +kernel) mv_XH_keep ml_X11_160 (by decide +kernel) rfl rfl (Nat.le_of_ble_eq_true rfl) SH_33 rfl (by decide) rfl rfl ?_
        refine sd_aload (i := 4) (q := 0) (pc' := 73) (by decide +kernel) rfl ?_
        refine sd_iload_n (k := 2) (i := 2) (q := 3) (pc' := 74) (by decide +kernel) rfl rfl ?_
        obtain ⟨h15, e16, hf⟩ := hb_some hf
        refine sF_pi (idx := 210) (ci := 9) (k := 3) (n := 6) (pc' := 77) (by decide +kernel) fl_X11_210 (by decide +kernel) rfl rfl rfl (sha_7 (inB_lt g10)) ?_
        rw [← e16]; clear e16
        refine sd_aload (i := 4) (q := 0) (pc' := 79) (by decide +kernel) rfl ?_
        refine sd_iload_n (k := 3) (i := 3) (q := 4) (pc' := 80) (by decide +kernel) rfl rfl ?_
        obtain ⟨h17, e18, hf⟩ := hb_some hf
        refine sF_pi (idx := 213) (ci := 9) (k := 4) (n := 6) (pc' := 83) (by decide +kernel) fl_X11_213 (by decide +kernel) rfl rfl rfl (sha_7 (inB_lt g10)) ?_
        rw [← e18]; clear e18
        refine sd_aload_n (k := 0) (i := 0) (q := 1) (pc' := 84) (by decide +kernel) rfl rfl ?_
        refine sF_gr (idx := 41) (ci := 11) (k := 4) (n := 17) (r := 56) (pc' := 87) (by decide +kernel) fl_X11_41 (by decide +kernel) rfl SH_0 (by decide) (by decide +kernel) ?_
        refine sd_iconst (n := 1) (v := 1) (pc' := 88) (by decide +kernel) (by decide) ?_
        obtain ⟨h19, e20, hf⟩ := hb_some hf
        refine sF_pz (idx := 109) (ci := 10) (k := 5) (n := 6) (pc' := 91) (by decide +kernel) fl_X11_109 (by decide +kernel) rfl rfl rfl SH_56 (by decide) ?_
        rw [← e20]; clear e20
        refine sd_iconst (n := 1) (v := 1) (pc' := 92) (by decide +kernel) (by decide) ?_
        obtain rfl := Option.some.inj hf
        exact sd_iret (by decide +kernel) rfl (hE _)
      · replace hf := ite_p c9 hf
        refine sd_bipush (n := -2) (v := (-2)) (pc' := 31) (by decide +kernel) (by decide) ?_
        obtain rfl := Option.some.inj hf
        exact sd_iret (by decide +kernel) rfl (hE _)

theorem fl_X11_216 : sd_fl RX11 216 9 5 := ⟨sd_mem (i := 234) (by decide +kernel), by decide, by decide⟩
def M_XT_mask : sd_MX := (yX11_mask, cX11_mask, 5, (some .int), { frames := 3, cells := 0, slots := 0, locals := 84 })
def XT_mask (h : sd_H) (a0 : Int32) (a1 : Int32) : Option (sd_H × Int32) :=
  b1 (XT_isStatement h a0) (fun t2 => (if t2 = 0 then some (h, (-2)) else b1 (XT_within a1 (-1) 5) (fun t5 => (if t5 = 0 then some (h, (-2)) else gd (sd_inB a0 5) (b1 (XH_note h 5 a0 (-1)) (fun h9 => b1 (XH_keep h9 (h.1 (8 + 5 * (a0 : Int32).toNatClampNeg) 5) 0 0) (fun h11 => hb (wI h11 (8 + 5 * (a0 : Int32).toNatClampNeg) 5 a1) (fun h12 => hb (wI h12 56 5 1) (fun h14 => some (h14, (h.1 (8 + 5 * (a0 : Int32).toNatClampNeg) 5)))))))))))
set_option maxHeartbeats 4000000 in
set_option maxRecDepth 100000 in
theorem T_XT_mask {G : sd_GX} {h : sd_H} {a0 : Int32} {a1 : Int32} {r : (sd_H × Int32)} (hf : XT_mask h a0 a1 = some r) : sd_RunF G M_XT_mask [.ref (G.1 + 0), .int a0, .int a1] h (some (.int r.2)) r.1 := by
  refine sF_run ⟨rfl, rfl⟩ (by decide +kernel) (Nat.le_of_ble_eq_true rfl) (lo := [(0, .ref (G.1 + 0)), (1, .int a0), (2, .int a1)]) rfl (fun X hE => ?_)
  unfold XT_mask at hf
  refine sd_aload_n (k := 0) (i := 0) (q := 0) (pc' := 1) (by decide +kernel) rfl rfl ?_
  refine sd_iload_n (k := 1) (i := 1) (q := 1) (pc' := 2) (by decide +kernel) rfl rfl ?_
  obtain ⟨t2, q1, hf⟩ := b1_some hf
  refine sF_callV (idx := 207) (b := 0) (As := [.int a0]) (ci := 11) (nn := 17) (pc' := 5) 1 (T_XT_isStatement (G := G) (h := h)  q1) (by decide +kernel) mv_XT_isStatement ml_X11_207 (by decide +kernel) rfl rfl (Nat.le_of_ble_eq_true rfl) SH_0 rfl (by decide) rfl rfl ?_
  refine sd_if_eq (off := 12) (tgt := 17) (pc' := 8) (by decide +kernel) (fun c3 => ?_) (fun c3 => ?_)
  · replace hf := ite_p c3 hf
    refine sd_bipush (n := -2) (v := (-2)) (pc' := 19) (by decide +kernel) (by decide) ?_
    obtain rfl := Option.some.inj hf
    exact sd_iret (by decide +kernel) rfl (hE _)
  · replace hf := ite_n c3 hf
    refine sd_iload_n (k := 2) (i := 2) (q := 2) (pc' := 9) (by decide +kernel) rfl rfl ?_
    refine sd_iconst (n := -1) (v := (-1)) (pc' := 10) (by decide +kernel) (by decide) ?_
    refine sd_iconst (n := 5) (v := 5) (pc' := 11) (by decide +kernel) (by decide) ?_
    obtain ⟨t5, q4, hf⟩ := b1_some hf
    refine sF_callS (idx := 97) (As := [.int a1, .int (-1), .int 5]) (pc' := 14) 3 (T_XT_within (G := G) (h := h)  q4) (by decide +kernel) mv_XT_within ml_X11_97 (by decide +kernel) rfl rfl (Nat.le_of_ble_eq_true rfl) rfl ?_
    refine sd_if_ne (off := 6) (tgt := 20) (pc' := 17) (by decide +kernel) (fun c6 => ?_) (fun c6 => ?_)
    · replace hf := ite_n c6 hf
      refine sd_aload_n (k := 0) (i := 0) (q := 0) (pc' := 21) (by decide +kernel) rfl rfl ?_
      refine sF_gr (idx := 21) (ci := 11) (k := 1) (n := 17) (r := 6) (pc' := 24) (by decide +kernel) fl_X11_21 (by decide +kernel) rfl SH_0 (by decide) (by decide +kernel) ?_
      refine sF_gr (idx := 173) (ci := 2) (k := 0) (n := 3) (r := 7) (pc' := 27) (by decide +kernel) fl_X11_173 (by decide +kernel) rfl SH_6 (by decide) (by decide +kernel) ?_
      refine sd_iload_n (k := 1) (i := 1) (q := 1) (pc' := 28) (by decide +kernel) rfl rfl ?_
      obtain ⟨g7, hf⟩ := gd_some hf
      refine sF_aald (n := 5) (r := (8 + 5 * (a0 : Int32).toNatClampNeg)) (pc' := 29) (by decide +kernel) SH_7 (by decide) g7 (rta_7 (inB_lt g7)) ?_
      refine sd_astore_n (k := 3) (i := 3) (pc' := 30) (lo' := [(3, .ref (G.1 + (8 + 5 * (a0 : Int32).toNatClampNeg))), (0, .ref (G.1 + 0)), (1, .int a0), (2, .int a1)]) (by decide +kernel) rfl (by decide) rfl ?_
      refine sd_aload_n (k := 3) (i := 3) (q := 0) (pc' := 31) (by decide +kernel) rfl rfl ?_
      refine sF_gi (idx := 216) (ci := 9) (k := 5) (n := 6) (pc' := 34) (by decide +kernel) fl_X11_216 (by decide +kernel) rfl (sha_7 (inB_lt g7)) ?_
      refine sd_istore (i := 4) (pc' := 36) (lo' := [(4, .int (h.1 (8 + 5 * (a0 : Int32).toNatClampNeg) 5)), (3, .ref (G.1 + (8 + 5 * (a0 : Int32).toNatClampNeg))), (0, .ref (G.1 + 0)), (1, .int a0), (2, .int a1)]) (by decide +kernel) (by decide) rfl ?_
      refine sd_aload_n (k := 0) (i := 0) (q := 2) (pc' := 37) (by decide +kernel) rfl rfl ?_
      refine sF_gr (idx := 28) (ci := 11) (k := 2) (n := 17) (r := 33) (pc' := 40) (by decide +kernel) fl_X11_28 (by decide +kernel) rfl SH_0 (by decide) (by decide +kernel) ?_
      refine sd_iconst (n := 5) (v := 5) (pc' := 41) (by decide +kernel) (by decide) ?_
      refine sd_iload_n (k := 1) (i := 1) (q := 3) (pc' := 42) (by decide +kernel) rfl rfl ?_
      refine sd_iconst (n := -1) (v := (-1)) (pc' := 43) (by decide +kernel) (by decide) ?_
      obtain ⟨h9, q8, hf⟩ := b1_some hf
      refine sF_callV0 (idx := 157) (b := 33) (As := [.int 5, .int a0, .int (-1)]) (ci := 0) (nn := 3) (pc' := 46) 3 (T_XH_note (G := G) (h := h)  q8) (by decide +kernel) mv_XH_note ml_X11_157 (by decide +kernel) rfl rfl (Nat.le_of_ble_eq_true rfl) SH_33 rfl (by decide) rfl rfl ?_
      refine sd_aload_n (k := 0) (i := 0) (q := 2) (pc' := 47) (by decide +kernel) rfl rfl ?_
      refine sF_gr (idx := 28) (ci := 11) (k := 2) (n := 17) (r := 33) (pc' := 50) (by decide +kernel) fl_X11_28 (by decide +kernel) rfl SH_0 (by decide) (by decide +kernel) ?_
      refine sd_iload (i := 4) (q := 0) (pc' := 52) (by decide +kernel) rfl ?_
      refine sd_iconst (n := 0) (v := 0) (pc' := 53) (by decide +kernel) (by decide) ?_
      refine sd_iconst (n := 0) (v := 0) (pc' := 54) (by decide +kernel) (by decide) ?_
      obtain ⟨h11, q10, hf⟩ := b1_some hf
      refine sF_callV0 (idx := 160) (b := 33) (As := [.int (h.1 (8 + 5 * (a0 : Int32).toNatClampNeg) 5), .int 0, .int 0]) (ci := 0) (nn := 3) (pc' := 57) 3 (T_XH_keep (G := G) (h := h9)  q10) (by decide +kernel) mv_XH_keep ml_X11_160 (by decide +kernel) rfl rfl (Nat.le_of_ble_eq_true rfl) SH_33 rfl (by decide) rfl rfl ?_
      refine sd_aload_n (k := 3) (i := 3) (q := 1) (pc' := 58) (by decide +kernel) rfl rfl ?_
      refine sd_iload_n (k := 2) (i := 2) (q := 4) (pc' := 59) (by decide +kernel) rfl rfl ?_
      obtain ⟨h12, e13, hf⟩ := hb_some hf
      refine sF_pi (idx := 216) (ci := 9) (k := 5) (n := 6) (pc' := 62) (by decide +kernel) fl_X11_216 (by decide +kernel) rfl rfl rfl (sha_7 (inB_lt g7)) ?_
      rw [← e13]; clear e13
      refine sd_aload_n (k := 0) (i := 0) (q := 2) (pc' := 63) (by decide +kernel) rfl rfl ?_
      refine sF_gr (idx := 41) (ci := 11) (k := 4) (n := 17) (r := 56) (pc' := 66) (by decide +kernel) fl_X11_41 (by decide +kernel) rfl SH_0 (by decide) (by decide +kernel) ?_
      refine sd_iconst (n := 1) (v := 1) (pc' := 67) (by decide +kernel) (by decide) ?_
      obtain ⟨h14, e15, hf⟩ := hb_some hf
      refine sF_pz (idx := 109) (ci := 10) (k := 5) (n := 6) (pc' := 70) (by decide +kernel) fl_X11_109 (by decide +kernel) rfl rfl rfl SH_56 (by decide) ?_
      rw [← e15]; clear e15
      refine sd_iload (i := 4) (q := 0) (pc' := 72) (by decide +kernel) rfl ?_
      obtain rfl := Option.some.inj hf
      exact sd_iret (by decide +kernel) rfl (hE _)
    · replace hf := ite_p c6 hf
      refine sd_bipush (n := -2) (v := (-2)) (pc' := 19) (by decide +kernel) (by decide) ?_
      obtain rfl := Option.some.inj hf
      exact sd_iret (by decide +kernel) rfl (hE _)

theorem fl_X0_27 : sd_fl RX0 27 2 1 := ⟨sd_mem (i := 256) (by decide +kernel), by decide, by decide⟩
theorem fl_X0_32 : sd_fl RX0 32 2 2 := ⟨sd_mem (i := 261) (by decide +kernel), by decide, by decide⟩
theorem fl_X0_35 : sd_fl RX0 35 2 0 := ⟨sd_mem (i := 250) (by decide +kernel), by decide, by decide⟩
theorem fl_X0_39 : sd_fl RX0 39 9 0 := ⟨sd_mem (i := 213) (by decide +kernel), by decide, by decide⟩
theorem fl_X0_45 : sd_fl RX0 45 5 0 := ⟨sd_mem (i := 189) (by decide +kernel), by decide, by decide⟩
theorem ml_X0_50 : Cond.methodLink RX0 50 yX5_lie ∈ sd_tb := sd_mem (i := 688) (by decide +kernel)
theorem fl_X0_54 : sd_fl RX0 54 9 3 := ⟨sd_mem (i := 227) (by decide +kernel), by decide, by decide⟩
theorem fl_X0_57 : sd_fl RX0 57 9 4 := ⟨sd_mem (i := 230) (by decide +kernel), by decide, by decide⟩
theorem fl_X0_60 : sd_fl RX0 60 9 5 := ⟨sd_mem (i := 233) (by decide +kernel), by decide, by decide⟩
def M_XH_takeBack : sd_MX := (yX0_takeBack, cX0_takeBack, 3, (some .int), { frames := 2, cells := 0, slots := 0, locals := 63 })
def XH_takeBack_B171 (h : sd_H) (l2 : Nat) : Option (sd_H × Int32) :=
  some (h, (h.1 l2 (0 : Int32).toNatClampNeg))
set_option maxHeartbeats 4000000 in
set_option maxRecDepth 100000 in
theorem J_XH_takeBack_B171 {G : sd_GX} {X : sd_CX} (hE : ∀ g : sd_H, sd_end G X M_XH_takeBack (sd_F g)) {h : sd_H} {r : (sd_H × Int32)} {l2 : Nat} (p2 : sd_SH l2 = (100, 6)) (hf : XH_takeBack_B171 h l2 = some r) : sd_J G X (sd_QR G X M_XH_takeBack (some (.int r.2), sd_F r.1)) M_XH_takeBack 171 [(2, .ref (G.1 + l2))] [] (sd_F h) := by
  unfold XH_takeBack_B171 at hf
  refine sd_aload_n (k := 2) (i := 2) (q := 0) (pc' := 172) (by decide +kernel) rfl rfl ?_
  refine sd_iconst (n := 0) (v := 0) (pc' := 173) (by decide +kernel) (by decide) ?_
  refine sF_iald (n := 6) (pc' := 174) (by decide +kernel) p2 (by decide) ?_
  obtain rfl := Option.some.inj hf
  exact sd_iret (by decide +kernel) rfl (hE _)
def XH_takeBack (h : sd_H) : Option (sd_H × Int32) :=
  b1 (XH_latest h) (fun t2 => gd (decide (sd_SH t2 = (100, 6))) (hb (wI h 33 2 ((h.1 33 2) - 1)) (fun h4 => (if (h4.1 t2 (0 : Int32).toNatClampNeg) = 0 then hb (wI h4 6 1 (h4.1 t2 (3 : Int32).toNatClampNeg)) (fun h7 => XH_takeBack_B171 h7 t2) else (if (h4.1 t2 (0 : Int32).toNatClampNeg) = 1 then hb (wI h4 6 2 (h4.1 t2 (1 : Int32).toNatClampNeg)) (fun h9 => XH_takeBack_B171 h9 t2) else (if (h4.1 t2 (0 : Int32).toNatClampNeg) = 2 then gd (sd_inB (h4.1 t2 (1 : Int32).toNatClampNeg) 5) (gd (sd_inB (h4.1 t2 (2 : Int32).toNatClampNeg) 3) (hb (wI h4 (((8 + 5 * ((h4.1 t2 (1 : Int32).toNatClampNeg) : Int32).toNatClampNeg) + 1) + 1 + ((h4.1 t2 (2 : Int32).toNatClampNeg) : Int32).toNatClampNeg) 0 (h4.1 t2 (3 : Int32).toNatClampNeg)) (fun h13 => XH_takeBack_B171 h13 t2))) else (if (h4.1 t2 (0 : Int32).toNatClampNeg) = 3 then gd (sd_inB (h4.1 t2 (1 : Int32).toNatClampNeg) 5) (gd (sd_inB (h4.1 t2 (2 : Int32).toNatClampNeg) 3) (b1 (XF_lie h4 (((8 + 5 * ((h4.1 t2 (1 : Int32).toNatClampNeg) : Int32).toNatClampNeg) + 1) + 1 + ((h4.1 t2 (2 : Int32).toNatClampNeg) : Int32).toNatClampNeg) (h4.1 t2 (3 : Int32).toNatClampNeg) (h4.1 t2 (4 : Int32).toNatClampNeg) (h4.1 t2 (5 : Int32).toNatClampNeg)) (fun h18 => XH_takeBack_B171 h18 t2))) else (if (h4.1 t2 (0 : Int32).toNatClampNeg) = 4 then gd (sd_inB (h4.1 t2 (1 : Int32).toNatClampNeg) 5) (hb (wI h4 (8 + 5 * ((h4.1 t2 (1 : Int32).toNatClampNeg) : Int32).toNatClampNeg) 3 (h4.1 t2 (3 : Int32).toNatClampNeg)) (fun h20 => gd (sd_inB (h20.1 t2 (1 : Int32).toNatClampNeg) 5) (hb (wI h20 (8 + 5 * ((h20.1 t2 (1 : Int32).toNatClampNeg) : Int32).toNatClampNeg) 4 (h20.1 t2 (4 : Int32).toNatClampNeg)) (fun h23 => XH_takeBack_B171 h23 t2)))) else (gd (sd_inB (h4.1 t2 (1 : Int32).toNatClampNeg) 5) (hb (wI h4 (8 + 5 * ((h4.1 t2 (1 : Int32).toNatClampNeg) : Int32).toNatClampNeg) 5 (h4.1 t2 (3 : Int32).toNatClampNeg)) (fun h26 => XH_takeBack_B171 h26 t2)))))))))))
set_option maxHeartbeats 4000000 in
set_option maxRecDepth 100000 in
theorem T_XH_takeBack {G : sd_GX} {h : sd_H} {r : (sd_H × Int32)} (hf : XH_takeBack h = some r) : sd_RunF G M_XH_takeBack [.ref (G.1 + 33), .ref (G.1 + 6)] h (some (.int r.2)) r.1 := by
  refine sF_run ⟨rfl, rfl⟩ (by decide +kernel) (Nat.le_of_ble_eq_true rfl) (lo := [(0, .ref (G.1 + 33)), (1, .ref (G.1 + 6))]) rfl (fun X hE => ?_)
  unfold XH_takeBack at hf
  refine sd_aload_n (k := 0) (i := 0) (q := 0) (pc' := 1) (by decide +kernel) rfl rfl ?_
  obtain ⟨t2, q1, hf⟩ := b1_some hf
  refine sF_callV (idx := 23) (b := 33) (As := []) (ci := 0) (nn := 3) (pc' := 4) 0 (T_XH_latest (G := G) (h := h)  q1) (by decide +kernel) mv_XH_latest ml_X0_23 (by decide +kernel) rfl rfl (Nat.le_of_ble_eq_true rfl) SH_33 rfl (by decide) rfl rfl ?_
  obtain ⟨g3, hf⟩ := gd_some hf
  have g3 := of_decide_eq_true g3
  refine sd_astore_n (k := 2) (i := 2) (pc' := 5) (lo' := [(2, .ref (G.1 + t2)), (0, .ref (G.1 + 33)), (1, .ref (G.1 + 6))]) (by decide +kernel) rfl (by decide) rfl ?_
  refine sd_aload_n (k := 0) (i := 0) (q := 1) (pc' := 6) (by decide +kernel) rfl rfl ?_
  refine sd_dup (pc' := 7) (by decide +kernel) rfl ?_
  refine sF_gi (idx := 16) (ci := 0) (k := 2) (n := 3) (pc' := 10) (by decide +kernel) fl_X0_16 (by decide +kernel) rfl SH_33 ?_
  refine sd_iconst (n := 1) (v := 1) (pc' := 11) (by decide +kernel) (by decide) ?_
  refine sd_isub (pc' := 12) (by decide +kernel) ?_
  obtain ⟨h4, e5, hf⟩ := hb_some hf
  refine sF_pi (idx := 16) (ci := 0) (k := 2) (n := 3) (pc' := 15) (by decide +kernel) fl_X0_16 (by decide +kernel) rfl rfl rfl SH_33 ?_
  rw [← e5]; clear e5
  refine sd_aload_n (k := 2) (i := 2) (q := 0) (pc' := 16) (by decide +kernel) rfl rfl ?_
  refine sd_iconst (n := 0) (v := 0) (pc' := 17) (by decide +kernel) (by decide) ?_
  refine sF_iald (n := 6) (pc' := 18) (by decide +kernel) g3 (by decide) ?_
  by_cases c6_0 : (h4.1 t2 (0 : Int32).toNatClampNeg) = 0
  · replace hf := ite_p c6_0 hf
    refine sd_tswIn (dflt := 139) (lo0 := 0) (hi0 := 4) (offs := #[34, 44, 54, 78, 108]) (len := 34) (off := 34) (tgt := 52) (pc' := 52) (by decide +kernel) (by rw [c6_0]; decide) (by rw [c6_0]; decide) (by rw [c6_0]; decide) ?_
    refine sd_aload_n (k := 1) (i := 1) (q := 2) (pc' := 53) (by decide +kernel) rfl rfl ?_
    refine sd_aload_n (k := 2) (i := 2) (q := 0) (pc' := 54) (by decide +kernel) rfl rfl ?_
    refine sd_iconst (n := 3) (v := 3) (pc' := 55) (by decide +kernel) (by decide) ?_
    refine sF_iald (n := 6) (pc' := 56) (by decide +kernel) g3 (by decide) ?_
    obtain ⟨h7, e8, hf⟩ := hb_some hf
    refine sF_pi (idx := 27) (ci := 2) (k := 1) (n := 3) (pc' := 59) (by decide +kernel) fl_X0_27 (by decide +kernel) rfl rfl rfl SH_6 ?_
    rw [← e8]; clear e8
    refine sd_goto (off := 112) (tgt := 171) (pc' := 62) (by decide +kernel) ?_
    refine sd_J.sub (lo' := [(2, .ref (G.1 + t2))]) [0] rfl ?_
    exact J_XH_takeBack_B171 hE g3 hf
  · replace hf := ite_n c6_0 hf
    by_cases c6_1 : (h4.1 t2 (0 : Int32).toNatClampNeg) = 1
    · replace hf := ite_p c6_1 hf
      refine sd_tswIn (dflt := 139) (lo0 := 0) (hi0 := 4) (offs := #[34, 44, 54, 78, 108]) (len := 34) (off := 44) (tgt := 62) (pc' := 52) (by decide +kernel) (by rw [c6_1]; decide) (by rw [c6_1]; decide) (by rw [c6_1]; decide) ?_
      refine sd_aload_n (k := 1) (i := 1) (q := 2) (pc' := 63) (by decide +kernel) rfl rfl ?_
      refine sd_aload_n (k := 2) (i := 2) (q := 0) (pc' := 64) (by decide +kernel) rfl rfl ?_
      refine sd_iconst (n := 1) (v := 1) (pc' := 65) (by decide +kernel) (by decide) ?_
      refine sF_iald (n := 6) (pc' := 66) (by decide +kernel) g3 (by decide) ?_
      obtain ⟨h9, e10, hf⟩ := hb_some hf
      refine sF_pi (idx := 32) (ci := 2) (k := 2) (n := 3) (pc' := 69) (by decide +kernel) fl_X0_32 (by decide +kernel) rfl rfl rfl SH_6 ?_
      rw [← e10]; clear e10
      refine sd_goto (off := 102) (tgt := 171) (pc' := 72) (by decide +kernel) ?_
      refine sd_J.sub (lo' := [(2, .ref (G.1 + t2))]) [0] rfl ?_
      exact J_XH_takeBack_B171 hE g3 hf
    · replace hf := ite_n c6_1 hf
      by_cases c6_2 : (h4.1 t2 (0 : Int32).toNatClampNeg) = 2
      · replace hf := ite_p c6_2 hf
        refine sd_tswIn (dflt := 139) (lo0 := 0) (hi0 := 4) (offs := #[34, 44, 54, 78, 108]) (len := 34) (off := 54) (tgt := 72) (pc' := 52) (by decide +kernel) (by rw [c6_2]; decide) (by rw [c6_2]; decide) (by rw [c6_2]; decide) ?_
        refine sd_aload_n (k := 1) (i := 1) (q := 2) (pc' := 73) (by decide +kernel) rfl rfl ?_
        refine sF_gr (idx := 35) (ci := 2) (k := 0) (n := 3) (r := 7) (pc' := 76) (by decide +kernel) fl_X0_35 (by decide +kernel) rfl SH_6 (by decide) (by decide +kernel) ?_
        refine sd_aload_n (k := 2) (i := 2) (q := 0) (pc' := 77) (by decide +kernel) rfl rfl ?_
        refine sd_iconst (n := 1) (v := 1) (pc' := 78) (by decide +kernel) (by decide) ?_
        refine sF_iald (n := 6) (pc' := 79) (by decide +kernel) g3 (by decide) ?_
        obtain ⟨g11, hf⟩ := gd_some hf
        refine sF_aald (n := 5) (r := (8 + 5 * ((h4.1 t2 (1 : Int32).toNatClampNeg) : Int32).toNatClampNeg)) (pc' := 80) (by decide +kernel) SH_7 (by decide) g11 (rta_7 (inB_lt g11)) ?_
        refine sF_gr (idx := 39) (ci := 9) (k := 0) (n := 6) (r := ((8 + 5 * ((h4.1 t2 (1 : Int32).toNatClampNeg) : Int32).toNatClampNeg) + 1)) (pc' := 83) (by decide +kernel) fl_X0_39 (by decide +kernel) rfl (sha_7 (inB_lt g11)) (by decide) (rt_9_0 (sha_7 (inB_lt g11))) ?_
        refine sd_aload_n (k := 2) (i := 2) (q := 0) (pc' := 84) (by decide +kernel) rfl rfl ?_
        refine sd_iconst (n := 2) (v := 2) (pc' := 85) (by decide +kernel) (by decide) ?_
        refine sF_iald (n := 6) (pc' := 86) (by decide +kernel) g3 (by decide) ?_
        obtain ⟨g12, hf⟩ := gd_some hf
        refine sF_aald (n := 3) (r := (((8 + 5 * ((h4.1 t2 (1 : Int32).toNatClampNeg) : Int32).toNatClampNeg) + 1) + 1 + ((h4.1 t2 (2 : Int32).toNatClampNeg) : Int32).toNatClampNeg)) (pc' := 87) (by decide +kernel) (sh_9_0 (sha_7 (inB_lt g11))) (by decide) g12 (rta_R (sh_9_0 (sha_7 (inB_lt g11))) (inB_lt g12)) ?_
        refine sd_aload_n (k := 2) (i := 2) (q := 0) (pc' := 88) (by decide +kernel) rfl rfl ?_
        refine sd_iconst (n := 3) (v := 3) (pc' := 89) (by decide +kernel) (by decide) ?_
        refine sF_iald (n := 6) (pc' := 90) (by decide +kernel) g3 (by decide) ?_
        obtain ⟨h13, e14, hf⟩ := hb_some hf
        refine sF_pi (idx := 45) (ci := 5) (k := 0) (n := 4) (pc' := 93) (by decide +kernel) fl_X0_45 (by decide +kernel) rfl rfl rfl (sha_R (sh_9_0 (sha_7 (inB_lt g11))) (inB_lt g12)) ?_
        rw [← e14]; clear e14
        refine sd_goto (off := 78) (tgt := 171) (pc' := 96) (by decide +kernel) ?_
        refine sd_J.sub (lo' := [(2, .ref (G.1 + t2))]) [0] rfl ?_
        exact J_XH_takeBack_B171 hE g3 hf
      · replace hf := ite_n c6_2 hf
        by_cases c6_3 : (h4.1 t2 (0 : Int32).toNatClampNeg) = 3
        · replace hf := ite_p c6_3 hf
          refine sd_tswIn (dflt := 139) (lo0 := 0) (hi0 := 4) (offs := #[34, 44, 54, 78, 108]) (len := 34) (off := 78) (tgt := 96) (pc' := 52) (by decide +kernel) (by rw [c6_3]; decide) (by rw [c6_3]; decide) (by rw [c6_3]; decide) ?_
          refine sd_aload_n (k := 1) (i := 1) (q := 2) (pc' := 97) (by decide +kernel) rfl rfl ?_
          refine sF_gr (idx := 35) (ci := 2) (k := 0) (n := 3) (r := 7) (pc' := 100) (by decide +kernel) fl_X0_35 (by decide +kernel) rfl SH_6 (by decide) (by decide +kernel) ?_
          refine sd_aload_n (k := 2) (i := 2) (q := 0) (pc' := 101) (by decide +kernel) rfl rfl ?_
          refine sd_iconst (n := 1) (v := 1) (pc' := 102) (by decide +kernel) (by decide) ?_
          refine sF_iald (n := 6) (pc' := 103) (by decide +kernel) g3 (by decide) ?_
          obtain ⟨g15, hf⟩ := gd_some hf
          refine sF_aald (n := 5) (r := (8 + 5 * ((h4.1 t2 (1 : Int32).toNatClampNeg) : Int32).toNatClampNeg)) (pc' := 104) (by decide +kernel) SH_7 (by decide) g15 (rta_7 (inB_lt g15)) ?_
          refine sF_gr (idx := 39) (ci := 9) (k := 0) (n := 6) (r := ((8 + 5 * ((h4.1 t2 (1 : Int32).toNatClampNeg) : Int32).toNatClampNeg) + 1)) (pc' := 107) (by decide +kernel) fl_X0_39 (by decide +kernel) rfl (sha_7 (inB_lt g15)) (by decide) (rt_9_0 (sha_7 (inB_lt g15))) ?_
          refine sd_aload_n (k := 2) (i := 2) (q := 0) (pc' := 108) (by decide +kernel) rfl rfl ?_
          refine sd_iconst (n := 2) (v := 2) (pc' := 109) (by decide +kernel) (by decide) ?_
          refine sF_iald (n := 6) (pc' := 110) (by decide +kernel) g3 (by decide) ?_
          obtain ⟨g16, hf⟩ := gd_some hf
          refine sF_aald (n := 3) (r := (((8 + 5 * ((h4.1 t2 (1 : Int32).toNatClampNeg) : Int32).toNatClampNeg) + 1) + 1 + ((h4.1 t2 (2 : Int32).toNatClampNeg) : Int32).toNatClampNeg)) (pc' := 111) (by decide +kernel) (sh_9_0 (sha_7 (inB_lt g15))) (by decide) g16 (rta_R (sh_9_0 (sha_7 (inB_lt g15))) (inB_lt g16)) ?_
          refine sd_aload_n (k := 2) (i := 2) (q := 0) (pc' := 112) (by decide +kernel) rfl rfl ?_
          refine sd_iconst (n := 3) (v := 3) (pc' := 113) (by decide +kernel) (by decide) ?_
          refine sF_iald (n := 6) (pc' := 114) (by decide +kernel) g3 (by decide) ?_
          refine sd_aload_n (k := 2) (i := 2) (q := 0) (pc' := 115) (by decide +kernel) rfl rfl ?_
          refine sd_iconst (n := 4) (v := 4) (pc' := 116) (by decide +kernel) (by decide) ?_
          refine sF_iald (n := 6) (pc' := 117) (by decide +kernel) g3 (by decide) ?_
          refine sd_aload_n (k := 2) (i := 2) (q := 0) (pc' := 118) (by decide +kernel) rfl rfl ?_
          refine sd_iconst (n := 5) (v := 5) (pc' := 119) (by decide +kernel) (by decide) ?_
          refine sF_iald (n := 6) (pc' := 120) (by decide +kernel) g3 (by decide) ?_
          obtain ⟨h18, q17, hf⟩ := b1_some hf
          refine sF_callV0 (idx := 50) (b := (((8 + 5 * ((h4.1 t2 (1 : Int32).toNatClampNeg) : Int32).toNatClampNeg) + 1) + 1 + ((h4.1 t2 (2 : Int32).toNatClampNeg) : Int32).toNatClampNeg)) (As := [.int (h4.1 t2 (3 : Int32).toNatClampNeg), .int (h4.1 t2 (4 : Int32).toNatClampNeg), .int (h4.1 t2 (5 : Int32).toNatClampNeg)]) (ci := 5) (nn := 4) (pc' := 123) 3 (T_XF_lie (G := G) (h := h4) (sha_R (sh_9_0 (sha_7 (inB_lt g15))) (inB_lt g16)) q17) (by decide +kernel) mv_XF_lie ml_X0_50 (by decide +kernel) rfl rfl (Nat.le_of_ble_eq_true rfl) (sha_R (sh_9_0 (sha_7 (inB_lt g15))) (inB_lt g16)) rfl (by decide) rfl rfl ?_
          refine sd_goto (off := 48) (tgt := 171) (pc' := 126) (by decide +kernel) ?_
          refine sd_J.sub (lo' := [(2, .ref (G.1 + t2))]) [0] rfl ?_
          exact J_XH_takeBack_B171 hE g3 hf
        · replace hf := ite_n c6_3 hf
          by_cases c6_4 : (h4.1 t2 (0 : Int32).toNatClampNeg) = 4
          · replace hf := ite_p c6_4 hf
            refine sd_tswIn (dflt := 139) (lo0 := 0) (hi0 := 4) (offs := #[34, 44, 54, 78, 108]) (len := 34) (off := 108) (tgt := 126) (pc' := 52) (by decide +kernel) (by rw [c6_4]; decide) (by rw [c6_4]; decide) (by rw [c6_4]; decide) ?_
            refine sd_aload_n (k := 1) (i := 1) (q := 2) (pc' := 127) (by decide +kernel) rfl rfl ?_
            refine sF_gr (idx := 35) (ci := 2) (k := 0) (n := 3) (r := 7) (pc' := 130) (by decide +kernel) fl_X0_35 (by decide +kernel) rfl SH_6 (by decide) (by decide +kernel) ?_
            refine sd_aload_n (k := 2) (i := 2) (q := 0) (pc' := 131) (by decide +kernel) rfl rfl ?_
            refine sd_iconst (n := 1) (v := 1) (pc' := 132) (by decide +kernel) (by decide) ?_
            refine sF_iald (n := 6) (pc' := 133) (by decide +kernel) g3 (by decide) ?_
            obtain ⟨g19, hf⟩ := gd_some hf
            refine sF_aald (n := 5) (r := (8 + 5 * ((h4.1 t2 (1 : Int32).toNatClampNeg) : Int32).toNatClampNeg)) (pc' := 134) (by decide +kernel) SH_7 (by decide) g19 (rta_7 (inB_lt g19)) ?_
            refine sd_aload_n (k := 2) (i := 2) (q := 0) (pc' := 135) (by decide +kernel) rfl rfl ?_
            refine sd_iconst (n := 3) (v := 3) (pc' := 136) (by decide +kernel) (by decide) ?_
            refine sF_iald (n := 6) (pc' := 137) (by decide +kernel) g3 (by decide) ?_
            obtain ⟨h20, e21, hf⟩ := hb_some hf
            refine sF_pi (idx := 54) (ci := 9) (k := 3) (n := 6) (pc' := 140) (by decide +kernel) fl_X0_54 (by decide +kernel) rfl rfl rfl (sha_7 (inB_lt g19)) ?_
            rw [← e21]; clear e21
            refine sd_aload_n (k := 1) (i := 1) (q := 2) (pc' := 141) (by decide +kernel) rfl rfl ?_
            refine sF_gr (idx := 35) (ci := 2) (k := 0) (n := 3) (r := 7) (pc' := 144) (by decide +kernel) fl_X0_35 (by decide +kernel) rfl SH_6 (by decide) (by decide +kernel) ?_
            refine sd_aload_n (k := 2) (i := 2) (q := 0) (pc' := 145) (by decide +kernel) rfl rfl ?_
            refine sd_iconst (n := 1) (v := 1) (pc' := 146) (by decide +kernel) (by decide) ?_
            refine sF_iald (n := 6) (pc' := 147) (by decide +kernel) g3 (by decide) ?_
            obtain ⟨g22, hf⟩ := gd_some hf
            refine sF_aald (n := 5) (r := (8 + 5 * ((h20.1 t2 (1 : Int32).toNatClampNeg) : Int32).toNatClampNeg)) (pc' := 148) (by decide +kernel) SH_7 (by decide) g22 (rta_7 (inB_lt g22)) ?_
            refine sd_aload_n (k := 2) (i := 2) (q := 0) (pc' := 149) (by decide +kernel) rfl rfl ?_
            refine sd_iconst (n := 4) (v := 4) (pc' := 150) (by decide +kernel) (by decide) ?_
            refine sF_iald (n := 6) (pc' := 151) (by decide +kernel) g3 (by decide) ?_
            obtain ⟨h23, e24, hf⟩ := hb_some hf
            refine sF_pi (idx := 57) (ci := 9) (k := 4) (n := 6) (pc' := 154) (by decide +kernel) fl_X0_57 (by decide +kernel) rfl rfl rfl (sha_7 (inB_lt g22)) ?_
            rw [← e24]; clear e24
            refine sd_goto (off := 17) (tgt := 171) (pc' := 157) (by decide +kernel) ?_
            refine sd_J.sub (lo' := [(2, .ref (G.1 + t2))]) [0] rfl ?_
            exact J_XH_takeBack_B171 hE g3 hf
          · replace hf := ite_n c6_4 hf
            have nc6_0 := ne_ti c6_0 (n := 0) (by decide)
            have nc6_1 := ne_ti c6_1 (n := 1) (by decide)
            have nc6_2 := ne_ti c6_2 (n := 2) (by decide)
            have nc6_3 := ne_ti c6_3 (n := 3) (by decide)
            have nc6_4 := ne_ti c6_4 (n := 4) (by decide)
            refine sd_tswOut (dflt := 139) (lo0 := 0) (hi0 := 4) (offs := #[34, 44, 54, 78, 108]) (len := 34) (tgt := 157) (pc' := 52) (by decide +kernel) (by omega) ?_
            refine sd_aload_n (k := 1) (i := 1) (q := 2) (pc' := 158) (by decide +kernel) rfl rfl ?_
            refine sF_gr (idx := 35) (ci := 2) (k := 0) (n := 3) (r := 7) (pc' := 161) (by decide +kernel) fl_X0_35 (by decide +kernel) rfl SH_6 (by decide) (by decide +kernel) ?_
            refine sd_aload_n (k := 2) (i := 2) (q := 0) (pc' := 162) (by decide +kernel) rfl rfl ?_
            refine sd_iconst (n := 1) (v := 1) (pc' := 163) (by decide +kernel) (by decide) ?_
            refine sF_iald (n := 6) (pc' := 164) (by decide +kernel) g3 (by decide) ?_
            obtain ⟨g25, hf⟩ := gd_some hf
            refine sF_aald (n := 5) (r := (8 + 5 * ((h4.1 t2 (1 : Int32).toNatClampNeg) : Int32).toNatClampNeg)) (pc' := 165) (by decide +kernel) SH_7 (by decide) g25 (rta_7 (inB_lt g25)) ?_
            refine sd_aload_n (k := 2) (i := 2) (q := 0) (pc' := 166) (by decide +kernel) rfl rfl ?_
            refine sd_iconst (n := 3) (v := 3) (pc' := 167) (by decide +kernel) (by decide) ?_
            refine sF_iald (n := 6) (pc' := 168) (by decide +kernel) g3 (by decide) ?_
            obtain ⟨h26, e27, hf⟩ := hb_some hf
            refine sF_pi (idx := 60) (ci := 9) (k := 5) (n := 6) (pc' := 171) (by decide +kernel) fl_X0_60 (by decide +kernel) rfl rfl rfl (sha_7 (inB_lt g25)) ?_
            rw [← e27]; clear e27
            refine sd_J.sub (lo' := [(2, .ref (G.1 + t2))]) [0] rfl ?_
            exact J_XH_takeBack_B171 hE g3 hf

theorem fl_X11_219 : sd_fl RX11 219 0 2 := ⟨sd_mem (i := 281) (by decide +kernel), by decide, by decide⟩
theorem ml_X11_222 : Cond.methodLink RX11 222 yX0_takeBack ∈ sd_tb := sd_mem (i := 684) (by decide +kernel)
theorem mv_XH_takeBack : sd_mV M_XH_takeBack 1 := ⟨sd_mem (i := 685) (by decide +kernel), sd_mem (i := 686) (by decide +kernel), ⟨sd_mem (i := 687) (by decide +kernel), sd_mem (i := 113) (by decide +kernel), by decide +kernel, by decide +kernel, by decide +kernel⟩⟩
def M_XT_undo : sd_MX := (yX11_undo, cX11_undo, 2, (some .int), { frames := 3, cells := 0, slots := 0, locals := 85 })
def XT_undo (h : sd_H) : Option (sd_H × Int32) :=
  (if (h.1 33 2) = 0 then some (h, (-3)) else b2 (XH_takeBack h) (fun h3 t4 => hb (wI h3 56 5 1) (fun h5 => some (h5, t4))))
set_option maxHeartbeats 4000000 in
set_option maxRecDepth 100000 in
theorem T_XT_undo {G : sd_GX} {h : sd_H} {r : (sd_H × Int32)} (hf : XT_undo h = some r) : sd_RunF G M_XT_undo [.ref (G.1 + 0)] h (some (.int r.2)) r.1 := by
  refine sF_run ⟨rfl, rfl⟩ (by decide +kernel) (Nat.le_of_ble_eq_true rfl) (lo := [(0, .ref (G.1 + 0))]) rfl (fun X hE => ?_)
  unfold XT_undo at hf
  refine sd_aload_n (k := 0) (i := 0) (q := 0) (pc' := 1) (by decide +kernel) rfl rfl ?_
  refine sF_gr (idx := 28) (ci := 11) (k := 2) (n := 17) (r := 33) (pc' := 4) (by decide +kernel) fl_X11_28 (by decide +kernel) rfl SH_0 (by decide) (by decide +kernel) ?_
  refine sF_gi (idx := 219) (ci := 0) (k := 2) (n := 3) (pc' := 7) (by decide +kernel) fl_X11_219 (by decide +kernel) rfl SH_33 ?_
  refine sd_if_ne (off := 6) (tgt := 13) (pc' := 10) (by decide +kernel) (fun c1 => ?_) (fun c1 => ?_)
  · replace hf := ite_n c1 hf
    refine sd_aload_n (k := 0) (i := 0) (q := 0) (pc' := 14) (by decide +kernel) rfl rfl ?_
    refine sF_gr (idx := 28) (ci := 11) (k := 2) (n := 17) (r := 33) (pc' := 17) (by decide +kernel) fl_X11_28 (by decide +kernel) rfl SH_0 (by decide) (by decide +kernel) ?_
    refine sd_aload_n (k := 0) (i := 0) (q := 0) (pc' := 18) (by decide +kernel) rfl rfl ?_
    refine sF_gr (idx := 21) (ci := 11) (k := 1) (n := 17) (r := 6) (pc' := 21) (by decide +kernel) fl_X11_21 (by decide +kernel) rfl SH_0 (by decide) (by decide +kernel) ?_
    obtain ⟨h3, t4, q2, hf⟩ := b2_some hf
    refine sF_callV (idx := 222) (b := 33) (As := [.ref (G.1 + 6)]) (ci := 0) (nn := 3) (pc' := 24) 1 (T_XH_takeBack (G := G) (h := h)  q2) (by decide +kernel) mv_XH_takeBack ml_X11_222 (by decide +kernel) rfl rfl (Nat.le_of_ble_eq_true rfl) SH_33 rfl (by decide) rfl rfl ?_
    refine sd_istore_n (k := 1) (i := 1) (pc' := 25) (lo' := [(1, .int t4), (0, .ref (G.1 + 0))]) (by decide +kernel) rfl (by decide) rfl ?_
    refine sd_aload_n (k := 0) (i := 0) (q := 1) (pc' := 26) (by decide +kernel) rfl rfl ?_
    refine sF_gr (idx := 41) (ci := 11) (k := 4) (n := 17) (r := 56) (pc' := 29) (by decide +kernel) fl_X11_41 (by decide +kernel) rfl SH_0 (by decide) (by decide +kernel) ?_
    refine sd_iconst (n := 1) (v := 1) (pc' := 30) (by decide +kernel) (by decide) ?_
    obtain ⟨h5, e6, hf⟩ := hb_some hf
    refine sF_pz (idx := 109) (ci := 10) (k := 5) (n := 6) (pc' := 33) (by decide +kernel) fl_X11_109 (by decide +kernel) rfl rfl rfl SH_56 (by decide) ?_
    rw [← e6]; clear e6
    refine sd_iload_n (k := 1) (i := 1) (q := 0) (pc' := 34) (by decide +kernel) rfl rfl ?_
    obtain rfl := Option.some.inj hf
    exact sd_iret (by decide +kernel) rfl (hE _)
  · replace hf := ite_p c1 hf
    refine sd_bipush (n := -3) (v := (-3)) (pc' := 12) (by decide +kernel) (by decide) ?_
    obtain rfl := Option.some.inj hf
    exact sd_iret (by decide +kernel) rfl (hE _)

theorem fl_X5_21 : sd_fl RX5 21 5 0 := ⟨sd_mem (i := 186) (by decide +kernel), by decide, by decide⟩
def M_XF_liesAs : sd_MX := (yX5_liesAs, cX5_liesAs, 2, (some .boolean), { frames := 1, cells := 0, slots := 0, locals := 40 })
def XF_liesAs (h : sd_H) (this : Nat) (a0 : Nat) : Option Int32 :=
  (if (h.1 this 0) = (h.1 a0 0) then (if (h.1 this 1) = (h.1 a0 1) then (if (h.1 this 2) = (h.1 a0 2) then (if (h.1 this 3) = (h.1 a0 3) then some 1 else some 0) else some 0) else some 0) else some 0)
set_option maxHeartbeats 4000000 in
set_option maxRecDepth 100000 in
theorem T_XF_liesAs {G : sd_GX} {h : sd_H} {this : Nat} {a0 : Nat} {r : Int32} (pt : sd_SH this = (5, 4)) (pa0 : sd_SH a0 = (5, 4)) (hf : XF_liesAs h this a0 = some r) : sd_RunF G M_XF_liesAs [.ref (G.1 + this), .ref (G.1 + a0)] h (some (.int r)) h := by
  refine sF_run ⟨rfl, rfl⟩ (by decide +kernel) (Nat.le_of_ble_eq_true rfl) (lo := [(0, .ref (G.1 + this)), (1, .ref (G.1 + a0))]) rfl (fun X hE => ?_)
  unfold XF_liesAs at hf
  refine sd_aload_n (k := 0) (i := 0) (q := 0) (pc' := 1) (by decide +kernel) rfl rfl ?_
  refine sF_gi (idx := 21) (ci := 5) (k := 0) (n := 4) (pc' := 4) (by decide +kernel) fl_X5_21 (by decide +kernel) rfl pt ?_
  refine sd_aload_n (k := 1) (i := 1) (q := 1) (pc' := 5) (by decide +kernel) rfl rfl ?_
  refine sF_gi (idx := 21) (ci := 5) (k := 0) (n := 4) (pc' := 8) (by decide +kernel) fl_X5_21 (by decide +kernel) rfl pa0 ?_
  refine sd_icmp_ne (off := 40) (tgt := 48) (pc' := 11) (by decide +kernel) (fun c1 => ?_) (fun c1 => ?_)
  · replace hf := ite_n c1 hf
    refine sd_iconst (n := 0) (v := 0) (pc' := 49) (by decide +kernel) (by decide) ?_
    obtain rfl := Option.some.inj hf
    exact sd_zret (by decide +kernel) rfl rfl (hE _)
  · replace hf := ite_p c1 hf
    refine sd_aload_n (k := 0) (i := 0) (q := 0) (pc' := 12) (by decide +kernel) rfl rfl ?_
    refine sF_gi (idx := 9) (ci := 5) (k := 1) (n := 4) (pc' := 15) (by decide +kernel) fl_X5_9 (by decide +kernel) rfl pt ?_
    refine sd_aload_n (k := 1) (i := 1) (q := 1) (pc' := 16) (by decide +kernel) rfl rfl ?_
    refine sF_gi (idx := 9) (ci := 5) (k := 1) (n := 4) (pc' := 19) (by decide +kernel) fl_X5_9 (by decide +kernel) rfl pa0 ?_
    refine sd_icmp_ne (off := 29) (tgt := 48) (pc' := 22) (by decide +kernel) (fun c2 => ?_) (fun c2 => ?_)
    · replace hf := ite_n c2 hf
      refine sd_iconst (n := 0) (v := 0) (pc' := 49) (by decide +kernel) (by decide) ?_
      obtain rfl := Option.some.inj hf
      exact sd_zret (by decide +kernel) rfl rfl (hE _)
    · replace hf := ite_p c2 hf
      refine sd_aload_n (k := 0) (i := 0) (q := 0) (pc' := 23) (by decide +kernel) rfl rfl ?_
      refine sF_gi (idx := 15) (ci := 5) (k := 2) (n := 4) (pc' := 26) (by decide +kernel) fl_X5_15 (by decide +kernel) rfl pt ?_
      refine sd_aload_n (k := 1) (i := 1) (q := 1) (pc' := 27) (by decide +kernel) rfl rfl ?_
      refine sF_gi (idx := 15) (ci := 5) (k := 2) (n := 4) (pc' := 30) (by decide +kernel) fl_X5_15 (by decide +kernel) rfl pa0 ?_
      refine sd_icmp_ne (off := 18) (tgt := 48) (pc' := 33) (by decide +kernel) (fun c3 => ?_) (fun c3 => ?_)
      · replace hf := ite_n c3 hf
        refine sd_iconst (n := 0) (v := 0) (pc' := 49) (by decide +kernel) (by decide) ?_
        obtain rfl := Option.some.inj hf
        exact sd_zret (by decide +kernel) rfl rfl (hE _)
      · replace hf := ite_p c3 hf
        refine sd_aload_n (k := 0) (i := 0) (q := 0) (pc' := 34) (by decide +kernel) rfl rfl ?_
        refine sF_gi (idx := 18) (ci := 5) (k := 3) (n := 4) (pc' := 37) (by decide +kernel) fl_X5_18 (by decide +kernel) rfl pt ?_
        refine sd_aload_n (k := 1) (i := 1) (q := 1) (pc' := 38) (by decide +kernel) rfl rfl ?_
        refine sF_gi (idx := 18) (ci := 5) (k := 3) (n := 4) (pc' := 41) (by decide +kernel) fl_X5_18 (by decide +kernel) rfl pa0 ?_
        refine sd_icmp_ne (off := 7) (tgt := 48) (pc' := 44) (by decide +kernel) (fun c4 => ?_) (fun c4 => ?_)
        · replace hf := ite_n c4 hf
          refine sd_iconst (n := 0) (v := 0) (pc' := 49) (by decide +kernel) (by decide) ?_
          obtain rfl := Option.some.inj hf
          exact sd_zret (by decide +kernel) rfl rfl (hE _)
        · replace hf := ite_p c4 hf
          refine sd_iconst (n := 1) (v := 1) (pc' := 45) (by decide +kernel) (by decide) ?_
          refine sd_goto (off := 4) (tgt := 49) (pc' := 48) (by decide +kernel) ?_
          obtain rfl := Option.some.inj hf
          exact sd_zret (by decide +kernel) rfl rfl (hE _)

def M_XF_isConstant : sd_MX := (yX5_isConstant, cX5_isConstant, 1, (some .boolean), { frames := 1, cells := 0, slots := 0, locals := 40 })
def XF_isConstant (h : sd_H) (this : Nat) : Option Int32 :=
  (if (h.1 this 0) = (-1) then some 1 else some 0)
set_option maxHeartbeats 4000000 in
set_option maxRecDepth 100000 in
theorem T_XF_isConstant {G : sd_GX} {h : sd_H} {this : Nat} {r : Int32} (pt : sd_SH this = (5, 4)) (hf : XF_isConstant h this = some r) : sd_RunF G M_XF_isConstant [.ref (G.1 + this)] h (some (.int r)) h := by
  refine sF_run ⟨rfl, rfl⟩ (by decide +kernel) (Nat.le_of_ble_eq_true rfl) (lo := [(0, .ref (G.1 + this))]) rfl (fun X hE => ?_)
  unfold XF_isConstant at hf
  refine sd_aload_n (k := 0) (i := 0) (q := 0) (pc' := 1) (by decide +kernel) rfl rfl ?_
  refine sF_gi (idx := 21) (ci := 5) (k := 0) (n := 4) (pc' := 4) (by decide +kernel) fl_X5_21 (by decide +kernel) rfl pt ?_
  refine sd_iconst (n := -1) (v := (-1)) (pc' := 5) (by decide +kernel) (by decide) ?_
  refine sd_icmp_ne (off := 7) (tgt := 12) (pc' := 8) (by decide +kernel) (fun c1 => ?_) (fun c1 => ?_)
  · replace hf := ite_n c1 hf
    refine sd_iconst (n := 0) (v := 0) (pc' := 13) (by decide +kernel) (by decide) ?_
    obtain rfl := Option.some.inj hf
    exact sd_zret (by decide +kernel) rfl rfl (hE _)
  · replace hf := ite_p c1 hf
    refine sd_iconst (n := 1) (v := 1) (pc' := 9) (by decide +kernel) (by decide) ?_
    refine sd_goto (off := 4) (tgt := 13) (pc' := 12) (by decide +kernel) ?_
    obtain rfl := Option.some.inj hf
    exact sd_zret (by decide +kernel) rfl rfl (hE _)

def M_XY_familyFor : sd_MX := (yX10_familyFor, cX10_familyFor, 3, (some .int), { frames := 1, cells := 0, slots := 0, locals := 40 })
def XY_familyFor_B10 (l0 : Int32) (l1 : Int32) (l2 : Int32) : Option Int32 :=
  (if l2 ≤ l1 then (if l0 = 4 then some 3 else some 4) else some 0)
set_option maxHeartbeats 4000000 in
set_option maxRecDepth 100000 in
theorem J_XY_familyFor_B10 {G : sd_GX} {X : sd_CX} (hE : ∀ g : sd_H, sd_end G X M_XY_familyFor (sd_F g)) {h : sd_H} {r : Int32} {l0 : Int32} {l1 : Int32} {l2 : Int32} (hf : XY_familyFor_B10 l0 l1 l2 = some r) : sd_J G X (sd_QR G X M_XY_familyFor (some (.int r), sd_F h)) M_XY_familyFor 10 [(0, .int l0), (1, .int l1), (2, .int l2)] [] (sd_F h) := by
  unfold XY_familyFor_B10 at hf
  refine sd_iload_n (k := 2) (i := 2) (q := 2) (pc' := 11) (by decide +kernel) rfl rfl ?_
  refine sd_iload_n (k := 1) (i := 1) (q := 1) (pc' := 12) (by decide +kernel) rfl rfl ?_
  refine sd_icmp_le (off := 5) (tgt := 17) (pc' := 15) (by decide +kernel) (fun c2 => ?_) (fun c2 => ?_)
  · replace hf := ite_p c2 hf
    refine sd_iload_n (k := 0) (i := 0) (q := 0) (pc' := 18) (by decide +kernel) rfl rfl ?_
    refine sd_iconst (n := 4) (v := 4) (pc' := 19) (by decide +kernel) (by decide) ?_
    refine sd_icmp_ne (off := 7) (tgt := 26) (pc' := 22) (by decide +kernel) (fun c3 => ?_) (fun c3 => ?_)
    · replace hf := ite_n c3 hf
      refine sd_iconst (n := 4) (v := 4) (pc' := 27) (by decide +kernel) (by decide) ?_
      obtain rfl := Option.some.inj hf
      exact sd_iret (by decide +kernel) rfl (hE _)
    · replace hf := ite_p c3 hf
      refine sd_iconst (n := 3) (v := 3) (pc' := 23) (by decide +kernel) (by decide) ?_
      refine sd_goto (off := 4) (tgt := 27) (pc' := 26) (by decide +kernel) ?_
      obtain rfl := Option.some.inj hf
      exact sd_iret (by decide +kernel) rfl (hE _)
  · replace hf := ite_n c2 hf
    refine sd_iconst (n := 0) (v := 0) (pc' := 16) (by decide +kernel) (by decide) ?_
    obtain rfl := Option.some.inj hf
    exact sd_iret (by decide +kernel) rfl (hE _)
def XY_familyFor (a0 : Int32) (a1 : Int32) (a2 : Int32) : Option Int32 :=
  (if a0 = 4 then XY_familyFor_B10 a0 a1 a2 else (if a0 = 5 then XY_familyFor_B10 a0 a1 a2 else (if 1 < a1 then some 0 else (if a2 ≤ 1 then (if a0 = 0 then some 1 else (if a0 = 1 then some 1 else (if a0 = 2 then some 2 else (if a0 = 3 then some 0 else (if a0 = 4 then some 0 else (if a0 = 5 then some 0 else (if a0 = 6 then some 5 else (if a0 = 7 then some 6 else (if a0 = 8 then some 7 else (some 0)))))))))) else some 0))))
set_option maxHeartbeats 4000000 in
set_option maxRecDepth 100000 in
theorem T_XY_familyFor {G : sd_GX} {h : sd_H} {a0 : Int32} {a1 : Int32} {a2 : Int32} {r : Int32} (hf : XY_familyFor a0 a1 a2 = some r) : sd_RunF G M_XY_familyFor [.int a0, .int a1, .int a2] h (some (.int r)) h := by
  refine sF_run ⟨rfl, rfl⟩ (by decide +kernel) (Nat.le_of_ble_eq_true rfl) (lo := [(0, .int a0), (1, .int a1), (2, .int a2)]) rfl (fun X hE => ?_)
  unfold XY_familyFor at hf
  refine sd_iload_n (k := 0) (i := 0) (q := 0) (pc' := 1) (by decide +kernel) rfl rfl ?_
  refine sd_iconst (n := 4) (v := 4) (pc' := 2) (by decide +kernel) (by decide) ?_
  refine sd_icmp_eq (off := 8) (tgt := 10) (pc' := 5) (by decide +kernel) (fun c1 => ?_) (fun c1 => ?_)
  · replace hf := ite_p c1 hf
    refine sd_J.sub (lo' := [(0, .int a0), (1, .int a1), (2, .int a2)]) [0, 1, 2] rfl ?_
    exact J_XY_familyFor_B10 hE (h := h) hf
  · replace hf := ite_n c1 hf
    refine sd_iload_n (k := 0) (i := 0) (q := 0) (pc' := 6) (by decide +kernel) rfl rfl ?_
    refine sd_iconst (n := 5) (v := 5) (pc' := 7) (by decide +kernel) (by decide) ?_
    refine sd_icmp_ne (off := 21) (tgt := 28) (pc' := 10) (by decide +kernel) (fun c4 => ?_) (fun c4 => ?_)
    · replace hf := ite_n c4 hf
      refine sd_iload_n (k := 1) (i := 1) (q := 1) (pc' := 29) (by decide +kernel) rfl rfl ?_
      refine sd_iconst (n := 1) (v := 1) (pc' := 30) (by decide +kernel) (by decide) ?_
      refine sd_icmp_gt (off := 8) (tgt := 38) (pc' := 33) (by decide +kernel) (fun c5 => ?_) (fun c5 => ?_)
      · replace hf := ite_p c5 hf
        refine sd_iconst (n := 0) (v := 0) (pc' := 39) (by decide +kernel) (by decide) ?_
        obtain rfl := Option.some.inj hf
        exact sd_iret (by decide +kernel) rfl (hE _)
      · replace hf := ite_n c5 hf
        refine sd_iload_n (k := 2) (i := 2) (q := 2) (pc' := 34) (by decide +kernel) rfl rfl ?_
        refine sd_iconst (n := 1) (v := 1) (pc' := 35) (by decide +kernel) (by decide) ?_
        refine sd_icmp_le (off := 5) (tgt := 40) (pc' := 38) (by decide +kernel) (fun c6 => ?_) (fun c6 => ?_)
        · replace hf := ite_p c6 hf
          refine sd_iload_n (k := 0) (i := 0) (q := 0) (pc' := 41) (by decide +kernel) rfl rfl ?_
          by_cases c7_0 : a0 = 0
          · replace hf := ite_p c7_0 hf
            refine sd_tswIn (dflt := 63) (lo0 := 0) (hi0 := 8) (offs := #[51, 51, 53, 63, 63, 63, 55, 57, 60]) (len := 51) (off := 51) (tgt := 92) (pc' := 92) (by decide +kernel) (by rw [c7_0]; decide) (by rw [c7_0]; decide) (by rw [c7_0]; decide) ?_
            refine sd_iconst (n := 1) (v := 1) (pc' := 93) (by decide +kernel) (by decide) ?_
            obtain rfl := Option.some.inj hf
            exact sd_iret (by decide +kernel) rfl (hE _)
          · replace hf := ite_n c7_0 hf
            by_cases c7_1 : a0 = 1
            · replace hf := ite_p c7_1 hf
              refine sd_tswIn (dflt := 63) (lo0 := 0) (hi0 := 8) (offs := #[51, 51, 53, 63, 63, 63, 55, 57, 60]) (len := 51) (off := 51) (tgt := 92) (pc' := 92) (by decide +kernel) (by rw [c7_1]; decide) (by rw [c7_1]; decide) (by rw [c7_1]; decide) ?_
              refine sd_iconst (n := 1) (v := 1) (pc' := 93) (by decide +kernel) (by decide) ?_
              obtain rfl := Option.some.inj hf
              exact sd_iret (by decide +kernel) rfl (hE _)
            · replace hf := ite_n c7_1 hf
              by_cases c7_2 : a0 = 2
              · replace hf := ite_p c7_2 hf
                refine sd_tswIn (dflt := 63) (lo0 := 0) (hi0 := 8) (offs := #[51, 51, 53, 63, 63, 63, 55, 57, 60]) (len := 51) (off := 53) (tgt := 94) (pc' := 92) (by decide +kernel) (by rw [c7_2]; decide) (by rw [c7_2]; decide) (by rw [c7_2]; decide) ?_
                refine sd_iconst (n := 2) (v := 2) (pc' := 95) (by decide +kernel) (by decide) ?_
                obtain rfl := Option.some.inj hf
                exact sd_iret (by decide +kernel) rfl (hE _)
              · replace hf := ite_n c7_2 hf
                by_cases c7_3 : a0 = 3
                · replace hf := ite_p c7_3 hf
                  refine sd_tswIn (dflt := 63) (lo0 := 0) (hi0 := 8) (offs := #[51, 51, 53, 63, 63, 63, 55, 57, 60]) (len := 51) (off := 63) (tgt := 104) (pc' := 92) (by decide +kernel) (by rw [c7_3]; decide) (by rw [c7_3]; decide) (by rw [c7_3]; decide) ?_
                  refine sd_iconst (n := 0) (v := 0) (pc' := 105) (by decide +kernel) (by decide) ?_
                  obtain rfl := Option.some.inj hf
                  exact sd_iret (by decide +kernel) rfl (hE _)
                · replace hf := ite_n c7_3 hf
                  by_cases c7_4 : a0 = 4
                  · replace hf := ite_p c7_4 hf
                    refine sd_tswIn (dflt := 63) (lo0 := 0) (hi0 := 8) (offs := #[51, 51, 53, 63, 63, 63, 55, 57, 60]) (len := 51) (off := 63) (tgt := 104) (pc' := 92) (by decide +kernel) (by rw [c7_4]; decide) (by rw [c7_4]; decide) (by rw [c7_4]; decide) ?_
                    refine sd_iconst (n := 0) (v := 0) (pc' := 105) (by decide +kernel) (by decide) ?_
                    obtain rfl := Option.some.inj hf
                    exact sd_iret (by decide +kernel) rfl (hE _)
                  · replace hf := ite_n c7_4 hf
                    by_cases c7_5 : a0 = 5
                    · replace hf := ite_p c7_5 hf
                      refine sd_tswIn (dflt := 63) (lo0 := 0) (hi0 := 8) (offs := #[51, 51, 53, 63, 63, 63, 55, 57, 60]) (len := 51) (off := 63) (tgt := 104) (pc' := 92) (by decide +kernel) (by rw [c7_5]; decide) (by rw [c7_5]; decide) (by rw [c7_5]; decide) ?_
                      refine sd_iconst (n := 0) (v := 0) (pc' := 105) (by decide +kernel) (by decide) ?_
                      obtain rfl := Option.some.inj hf
                      exact sd_iret (by decide +kernel) rfl (hE _)
                    · replace hf := ite_n c7_5 hf
                      by_cases c7_6 : a0 = 6
                      · replace hf := ite_p c7_6 hf
                        refine sd_tswIn (dflt := 63) (lo0 := 0) (hi0 := 8) (offs := #[51, 51, 53, 63, 63, 63, 55, 57, 60]) (len := 51) (off := 55) (tgt := 96) (pc' := 92) (by decide +kernel) (by rw [c7_6]; decide) (by rw [c7_6]; decide) (by rw [c7_6]; decide) ?_
                        refine sd_iconst (n := 5) (v := 5) (pc' := 97) (by decide +kernel) (by decide) ?_
                        obtain rfl := Option.some.inj hf
                        exact sd_iret (by decide +kernel) rfl (hE _)
                      · replace hf := ite_n c7_6 hf
                        by_cases c7_7 : a0 = 7
                        · replace hf := ite_p c7_7 hf
                          refine sd_tswIn (dflt := 63) (lo0 := 0) (hi0 := 8) (offs := #[51, 51, 53, 63, 63, 63, 55, 57, 60]) (len := 51) (off := 57) (tgt := 98) (pc' := 92) (by decide +kernel) (by rw [c7_7]; decide) (by rw [c7_7]; decide) (by rw [c7_7]; decide) ?_
                          refine sd_bipush (n := 6) (v := 6) (pc' := 100) (by decide +kernel) (by decide) ?_
                          obtain rfl := Option.some.inj hf
                          exact sd_iret (by decide +kernel) rfl (hE _)
                        · replace hf := ite_n c7_7 hf
                          by_cases c7_8 : a0 = 8
                          · replace hf := ite_p c7_8 hf
                            refine sd_tswIn (dflt := 63) (lo0 := 0) (hi0 := 8) (offs := #[51, 51, 53, 63, 63, 63, 55, 57, 60]) (len := 51) (off := 60) (tgt := 101) (pc' := 92) (by decide +kernel) (by rw [c7_8]; decide) (by rw [c7_8]; decide) (by rw [c7_8]; decide) ?_
                            refine sd_bipush (n := 7) (v := 7) (pc' := 103) (by decide +kernel) (by decide) ?_
                            obtain rfl := Option.some.inj hf
                            exact sd_iret (by decide +kernel) rfl (hE _)
                          · replace hf := ite_n c7_8 hf
                            have nc7_0 := ne_ti c7_0 (n := 0) (by decide)
                            have nc7_1 := ne_ti c7_1 (n := 1) (by decide)
                            have nc7_2 := ne_ti c7_2 (n := 2) (by decide)
                            have nc7_3 := ne_ti c7_3 (n := 3) (by decide)
                            have nc7_4 := ne_ti c7_4 (n := 4) (by decide)
                            have nc7_5 := ne_ti c7_5 (n := 5) (by decide)
                            have nc7_6 := ne_ti c7_6 (n := 6) (by decide)
                            have nc7_7 := ne_ti c7_7 (n := 7) (by decide)
                            have nc7_8 := ne_ti c7_8 (n := 8) (by decide)
                            refine sd_tswOut (dflt := 63) (lo0 := 0) (hi0 := 8) (offs := #[51, 51, 53, 63, 63, 63, 55, 57, 60]) (len := 51) (tgt := 104) (pc' := 92) (by decide +kernel) (by omega) ?_
                            refine sd_iconst (n := 0) (v := 0) (pc' := 105) (by decide +kernel) (by decide) ?_
                            obtain rfl := Option.some.inj hf
                            exact sd_iret (by decide +kernel) rfl (hE _)
        · replace hf := ite_n c6 hf
          refine sd_iconst (n := 0) (v := 0) (pc' := 39) (by decide +kernel) (by decide) ?_
          obtain rfl := Option.some.inj hf
          exact sd_iret (by decide +kernel) rfl (hE _)
    · replace hf := ite_p c4 hf
      refine sd_J.sub (lo' := [(0, .int a0), (1, .int a1), (2, .int a2)]) [0, 1, 2] rfl ?_
      exact J_XY_familyFor_B10 hE (h := h) hf

def M_XR_isOfNumbers : sd_MX := (yX6_isOfNumbers, cX6_isOfNumbers, 2, (some .boolean), { frames := 1, cells := 0, slots := 0, locals := 40 })
def XR_isOfNumbers (h : sd_H) (this : Nat) (a0 : Int32) : Option Int32 :=
  gd (sd_inB a0 6) ((if (h.1 (this + 1) (a0 : Int32).toNatClampNeg) < 0 then some 0 else gd (sd_inB a0 6) ((if 3 < (h.1 (this + 1) (a0 : Int32).toNatClampNeg) then some 0 else some 1))))
set_option maxHeartbeats 4000000 in
set_option maxRecDepth 100000 in
theorem T_XR_isOfNumbers {G : sd_GX} {h : sd_H} {this : Nat} {a0 : Int32} {r : Int32} (pt : sd_SH this = (6, 4)) (hf : XR_isOfNumbers h this a0 = some r) : sd_RunF G M_XR_isOfNumbers [.ref (G.1 + this), .int a0] h (some (.int r)) h := by
  refine sF_run ⟨rfl, rfl⟩ (by decide +kernel) (Nat.le_of_ble_eq_true rfl) (lo := [(0, .ref (G.1 + this)), (1, .int a0)]) rfl (fun X hE => ?_)
  unfold XR_isOfNumbers at hf
  refine sd_aload_n (k := 0) (i := 0) (q := 0) (pc' := 1) (by decide +kernel) rfl rfl ?_
  refine sF_gr (idx := 9) (ci := 6) (k := 0) (n := 4) (r := (this + 1)) (pc' := 4) (by decide +kernel) fl_X6_9 (by decide +kernel) rfl pt (by decide) (rt_6_0 pt) ?_
  refine sd_iload_n (k := 1) (i := 1) (q := 1) (pc' := 5) (by decide +kernel) rfl rfl ?_
  obtain ⟨g1, hf⟩ := gd_some hf
  refine sF_iald (n := 6) (pc' := 6) (by decide +kernel) (sh_6_0 pt) g1 ?_
  refine sd_if_lt (off := 17) (tgt := 23) (pc' := 9) (by decide +kernel) (fun c2 => ?_) (fun c2 => ?_)
  · replace hf := ite_p c2 hf
    refine sd_iconst (n := 0) (v := 0) (pc' := 24) (by decide +kernel) (by decide) ?_
    obtain rfl := Option.some.inj hf
    exact sd_zret (by decide +kernel) rfl rfl (hE _)
  · replace hf := ite_n c2 hf
    refine sd_aload_n (k := 0) (i := 0) (q := 0) (pc' := 10) (by decide +kernel) rfl rfl ?_
    refine sF_gr (idx := 9) (ci := 6) (k := 0) (n := 4) (r := (this + 1)) (pc' := 13) (by decide +kernel) fl_X6_9 (by decide +kernel) rfl pt (by decide) (rt_6_0 pt) ?_
    refine sd_iload_n (k := 1) (i := 1) (q := 1) (pc' := 14) (by decide +kernel) rfl rfl ?_
    obtain ⟨g3, hf⟩ := gd_some hf
    refine sF_iald (n := 6) (pc' := 15) (by decide +kernel) (sh_6_0 pt) g3 ?_
    refine sd_iconst (n := 3) (v := 3) (pc' := 16) (by decide +kernel) (by decide) ?_
    refine sd_icmp_gt (off := 7) (tgt := 23) (pc' := 19) (by decide +kernel) (fun c4 => ?_) (fun c4 => ?_)
    · replace hf := ite_p c4 hf
      refine sd_iconst (n := 0) (v := 0) (pc' := 24) (by decide +kernel) (by decide) ?_
      obtain rfl := Option.some.inj hf
      exact sd_zret (by decide +kernel) rfl rfl (hE _)
    · replace hf := ite_n c4 hf
      refine sd_iconst (n := 1) (v := 1) (pc' := 20) (by decide +kernel) (by decide) ?_
      refine sd_goto (off := 4) (tgt := 24) (pc' := 23) (by decide +kernel) ?_
      obtain rfl := Option.some.inj hf
      exact sd_zret (by decide +kernel) rfl rfl (hE _)

theorem fl_X10_69 : sd_fl RX10 69 9 0 := ⟨sd_mem (i := 212) (by decide +kernel), by decide, by decide⟩
theorem ml_X10_127 : Cond.methodLinkNest RX10 127 yX11_within RX11 ∈ lw_tbl := List.mem_of_getElem? (i := 697) (by decide +kernel)
theorem ml_X10_131 : Cond.methodLink RX10 131 yX5_liesAs ∈ sd_tb := sd_mem (i := 698) (by decide +kernel)
theorem mv_XF_liesAs : sd_mV M_XF_liesAs 1 := ⟨sd_mem (i := 699) (by decide +kernel), sd_mem (i := 700) (by decide +kernel), ⟨sd_mem (i := 701) (by decide +kernel), sd_mem (i := 112) (by decide +kernel), by decide +kernel, by decide +kernel, by decide +kernel⟩⟩
theorem fl_X10_86 : sd_fl RX10 86 5 0 := ⟨sd_mem (i := 188) (by decide +kernel), by decide, by decide⟩
theorem ml_X10_83 : Cond.methodLink RX10 83 yX5_isConstant ∈ sd_tb := sd_mem (i := 702) (by decide +kernel)
theorem mv_XF_isConstant : sd_mV M_XF_isConstant 0 := ⟨sd_mem (i := 703) (by decide +kernel), sd_mem (i := 704) (by decide +kernel), ⟨sd_mem (i := 705) (by decide +kernel), sd_mem (i := 112) (by decide +kernel), by decide +kernel, by decide +kernel, by decide +kernel⟩⟩
theorem fl_X10_24 : sd_fl RX10 24 10 0 := ⟨sd_mem (i := 296) (by decide +kernel), by decide, by decide⟩
theorem ml_X10_138 : Cond.methodLink RX10 138 yX6_isOfNumbers ∈ sd_tb := sd_mem (i := 709) (by decide +kernel)
theorem mv_XR_isOfNumbers : sd_mV M_XR_isOfNumbers 1 := ⟨sd_mem (i := 710) (by decide +kernel), sd_mem (i := 711) (by decide +kernel), ⟨sd_mem (i := 712) (by decide +kernel), sd_mem (i := 109) (by decide +kernel), by decide +kernel, by decide +kernel, by decide +kernel⟩⟩
theorem fl_X10_102 : sd_fl RX10 102 9 1 := ⟨sd_mem (i := 218) (by decide +kernel), by decide, by decide⟩
theorem fl_X10_141 : sd_fl RX10 141 6 0 := ⟨sd_mem (i := 145) (by decide +kernel), by decide, by decide⟩
theorem ml_X10_135 : Cond.methodLink RX10 135 yX10_familyFor ∈ sd_tb := sd_mem (i := 706) (by decide +kernel)
theorem mv_XY_familyFor : sd_mS M_XY_familyFor 3 := ⟨sd_mem (i := 707) (by decide +kernel), ⟨sd_mem (i := 708) (by decide +kernel), sd_mem (i := 114) (by decide +kernel), by decide +kernel, by decide +kernel, by decide +kernel⟩⟩
def M_XY_familyOf : sd_MX := (yX10_familyOf, cX10_familyOf, 5, (some .int), { frames := 2, cells := 0, slots := 0, locals := 62 })
def XY_familyOf (h : sd_H) (a0 : Nat) (a1 : Int32) : Option Int32 :=
  b1 (XT_within a1 0 3) (fun t2 => (if t2 = 0 then some 0 else b1 (XF_liesAs h ((a0 + 1) + 1 + 1) ((a0 + 1) + 1 + 0)) (fun t5 => (if t5 = 0 then some 0 else (if (h.1 ((a0 + 1) + 1 + 2) 0) = (h.1 ((a0 + 1) + 1 + 0) 0) then some 0 else b1 (XF_isConstant h ((a0 + 1) + 1 + 2)) (fun t9 => (if t9 = 0 then b1 (XR_isOfNumbers h 1 (h.1 ((a0 + 1) + 1 + 2) 0)) (fun t12 => (if t12 = 0 then some 0 else gd (sd_inB (h.1 ((a0 + 1) + 1 + 2) 0) 6) (b1 (XY_familyFor (h.1 a0 1) a1 (h.1 2 ((h.1 ((a0 + 1) + 1 + 2) 0) : Int32).toNatClampNeg)) (fun t16 => some t16)))) else b1 (XY_familyFor (h.1 a0 1) a1 0) (fun t18 => some t18))))))))
set_option maxHeartbeats 4000000 in
set_option maxRecDepth 100000 in
theorem T_XY_familyOf {G : sd_GX} {h : sd_H} {a0 : Nat} {a1 : Int32} {r : Int32} (pa0 : sd_SH a0 = (9, 6)) (hf : XY_familyOf h a0 a1 = some r) : sd_RunF G M_XY_familyOf [.ref (G.1 + 56), .ref (G.1 + a0), .int a1] h (some (.int r)) h := by
  refine sF_run ⟨rfl, rfl⟩ (by decide +kernel) (Nat.le_of_ble_eq_true rfl) (lo := [(0, .ref (G.1 + 56)), (1, .ref (G.1 + a0)), (2, .int a1)]) rfl (fun X hE => ?_)
  unfold XY_familyOf at hf
  refine sd_aload_n (k := 1) (i := 1) (q := 1) (pc' := 1) (by decide +kernel) rfl rfl ?_
  refine sF_gr (idx := 69) (ci := 9) (k := 0) (n := 6) (r := (a0 + 1)) (pc' := 4) (by decide +kernel) fl_X10_69 (by decide +kernel) rfl pa0 (by decide) (rt_9_0 pa0) ?_
  refine sd_iconst (n := 0) (v := 0) (pc' := 5) (by decide +kernel) (by decide) ?_
  refine sF_aald (n := 3) (r := ((a0 + 1) + 1 + 0)) (pc' := 6) (by decide +kernel) (sh_9_0 pa0) (by decide) (by decide) (by rw [show ((0 : Int32)).toNatClampNeg = 0 from by decide]; exact rta_R (sh_9_0 pa0) (by decide)) ?_
  refine sd_astore_n (k := 3) (i := 3) (pc' := 7) (lo' := [(3, .ref (G.1 + ((a0 + 1) + 1 + 0))), (0, .ref (G.1 + 56)), (1, .ref (G.1 + a0)), (2, .int a1)]) (by decide +kernel) rfl (by decide) rfl ?_
  refine sd_aload_n (k := 1) (i := 1) (q := 2) (pc' := 8) (by decide +kernel) rfl rfl ?_
  refine sF_gr (idx := 69) (ci := 9) (k := 0) (n := 6) (r := (a0 + 1)) (pc' := 11) (by decide +kernel) fl_X10_69 (by decide +kernel) rfl pa0 (by decide) (rt_9_0 pa0) ?_
  refine sd_iconst (n := 2) (v := 2) (pc' := 12) (by decide +kernel) (by decide) ?_
  refine sF_aald (n := 3) (r := ((a0 + 1) + 1 + 2)) (pc' := 13) (by decide +kernel) (sh_9_0 pa0) (by decide) (by decide) (by rw [show ((2 : Int32)).toNatClampNeg = 2 from by decide]; exact rta_R (sh_9_0 pa0) (by decide)) ?_
  refine sd_astore (i := 4) (pc' := 15) (lo' := [(4, .ref (G.1 + ((a0 + 1) + 1 + 2))), (3, .ref (G.1 + ((a0 + 1) + 1 + 0))), (0, .ref (G.1 + 56)), (1, .ref (G.1 + a0)), (2, .int a1)]) (by decide +kernel) (by decide) rfl ?_
  refine sd_iload_n (k := 2) (i := 2) (q := 4) (pc' := 16) (by decide +kernel) rfl rfl ?_
  refine sd_iconst (n := 0) (v := 0) (pc' := 17) (by decide +kernel) (by decide) ?_
  refine sd_iconst (n := 3) (v := 3) (pc' := 18) (by decide +kernel) (by decide) ?_
  obtain ⟨t2, q1, hf⟩ := b1_some hf
  refine sF_callSN (host := RX11) (idx := 127) (As := [.int a1, .int 0, .int 3]) (pc' := 21) 3 (T_XT_within (G := G) (h := h)  q1) (by decide +kernel) mv_XT_within ml_X10_127 (by decide +kernel) rfl rfl (Nat.le_of_ble_eq_true rfl) rfl ?_
  refine sd_if_eq (off := 28) (tgt := 49) (pc' := 24) (by decide +kernel) (fun c3 => ?_) (fun c3 => ?_)
  · replace hf := ite_p c3 hf
    refine sd_iconst (n := 0) (v := 0) (pc' := 50) (by decide +kernel) (by decide) ?_
    obtain rfl := Option.some.inj hf
    exact sd_iret (by decide +kernel) rfl (hE _)
  · replace hf := ite_n c3 hf
    refine sd_aload_n (k := 1) (i := 1) (q := 3) (pc' := 25) (by decide +kernel) rfl rfl ?_
    refine sF_gr (idx := 69) (ci := 9) (k := 0) (n := 6) (r := (a0 + 1)) (pc' := 28) (by decide +kernel) fl_X10_69 (by decide +kernel) rfl pa0 (by decide) (rt_9_0 pa0) ?_
    refine sd_iconst (n := 1) (v := 1) (pc' := 29) (by decide +kernel) (by decide) ?_
    refine sF_aald (n := 3) (r := ((a0 + 1) + 1 + 1)) (pc' := 30) (by decide +kernel) (sh_9_0 pa0) (by decide) (by decide) (by rw [show ((1 : Int32)).toNatClampNeg = 1 from by decide]; exact rta_R (sh_9_0 pa0) (by decide)) ?_
    refine sd_aload_n (k := 3) (i := 3) (q := 1) (pc' := 31) (by decide +kernel) rfl rfl ?_
    obtain ⟨t5, q4, hf⟩ := b1_some hf
    refine sF_callV (idx := 131) (b := ((a0 + 1) + 1 + 1)) (As := [.ref (G.1 + ((a0 + 1) + 1 + 0))]) (ci := 5) (nn := 4) (pc' := 34) 1 (T_XF_liesAs (G := G) (h := h) (sha_R (sh_9_0 pa0) (j := 1) (by decide)) (sha_R (sh_9_0 pa0) (j := 0) (by decide)) q4) (by decide +kernel) mv_XF_liesAs ml_X10_131 (by decide +kernel) rfl rfl (Nat.le_of_ble_eq_true rfl) (sha_R (sh_9_0 pa0) (j := 1) (by decide)) rfl (by decide) rfl rfl ?_
    refine sd_if_eq (off := 15) (tgt := 49) (pc' := 37) (by decide +kernel) (fun c6 => ?_) (fun c6 => ?_)
    · replace hf := ite_p c6 hf
      refine sd_iconst (n := 0) (v := 0) (pc' := 50) (by decide +kernel) (by decide) ?_
      obtain rfl := Option.some.inj hf
      exact sd_iret (by decide +kernel) rfl (hE _)
    · replace hf := ite_n c6 hf
      refine sd_aload (i := 4) (q := 0) (pc' := 39) (by decide +kernel) rfl ?_
      refine sF_gi (idx := 86) (ci := 5) (k := 0) (n := 4) (pc' := 42) (by decide +kernel) fl_X10_86 (by decide +kernel) rfl (sha_R (sh_9_0 pa0) (j := 2) (by decide)) ?_
      refine sd_aload_n (k := 3) (i := 3) (q := 1) (pc' := 43) (by decide +kernel) rfl rfl ?_
      refine sF_gi (idx := 86) (ci := 5) (k := 0) (n := 4) (pc' := 46) (by decide +kernel) fl_X10_86 (by decide +kernel) rfl (sha_R (sh_9_0 pa0) (j := 0) (by decide)) ?_
      refine sd_icmp_ne (off := 5) (tgt := 51) (pc' := 49) (by decide +kernel) (fun c7 => ?_) (fun c7 => ?_)
      · replace hf := ite_n c7 hf
        refine sd_aload (i := 4) (q := 0) (pc' := 53) (by decide +kernel) rfl ?_
        obtain ⟨t9, q8, hf⟩ := b1_some hf
        refine sF_callV (idx := 83) (b := ((a0 + 1) + 1 + 2)) (As := []) (ci := 5) (nn := 4) (pc' := 56) 0 (T_XF_isConstant (G := G) (h := h) (sha_R (sh_9_0 pa0) (j := 2) (by decide)) q8) (by decide +kernel) mv_XF_isConstant ml_X10_83 (by decide +kernel) rfl rfl (Nat.le_of_ble_eq_true rfl) (sha_R (sh_9_0 pa0) (j := 2) (by decide)) rfl (by decide) rfl rfl ?_
        refine sd_if_eq (off := 13) (tgt := 69) (pc' := 59) (by decide +kernel) (fun c10 => ?_) (fun c10 => ?_)
        · replace hf := ite_p c10 hf
          refine sd_aload_n (k := 0) (i := 0) (q := 2) (pc' := 70) (by decide +kernel) rfl rfl ?_
          refine sF_gr (idx := 24) (ci := 10) (k := 0) (n := 6) (r := 1) (pc' := 73) (by decide +kernel) fl_X10_24 (by decide +kernel) rfl SH_56 (by decide) (by decide +kernel) ?_
          refine sd_aload (i := 4) (q := 0) (pc' := 75) (by decide +kernel) rfl ?_
          refine sF_gi (idx := 86) (ci := 5) (k := 0) (n := 4) (pc' := 78) (by decide +kernel) fl_X10_86 (by decide +kernel) rfl (sha_R (sh_9_0 pa0) (j := 2) (by decide)) ?_
          obtain ⟨t12, q11, hf⟩ := b1_some hf
          refine sF_callV (idx := 138) (b := 1) (As := [.int (h.1 ((a0 + 1) + 1 + 2) 0)]) (ci := 6) (nn := 4) (pc' := 81) 1 (T_XR_isOfNumbers (G := G) (h := h) SH_1 q11) (by decide +kernel) mv_XR_isOfNumbers ml_X10_138 (by decide +kernel) rfl rfl (Nat.le_of_ble_eq_true rfl) SH_1 rfl (by decide) rfl rfl ?_
          refine sd_if_eq (off := 27) (tgt := 108) (pc' := 84) (by decide +kernel) (fun c13 => ?_) (fun c13 => ?_)
          · replace hf := ite_p c13 hf
            refine sd_iconst (n := 0) (v := 0) (pc' := 109) (by decide +kernel) (by decide) ?_
            obtain rfl := Option.some.inj hf
            exact sd_iret (by decide +kernel) rfl (hE _)
          · replace hf := ite_n c13 hf
            refine sd_aload_n (k := 1) (i := 1) (q := 3) (pc' := 85) (by decide +kernel) rfl rfl ?_
            refine sF_gi (idx := 102) (ci := 9) (k := 1) (n := 6) (pc' := 88) (by decide +kernel) fl_X10_102 (by decide +kernel) rfl pa0 ?_
            refine sd_iload_n (k := 2) (i := 2) (q := 4) (pc' := 89) (by decide +kernel) rfl rfl ?_
            refine sd_aload_n (k := 0) (i := 0) (q := 2) (pc' := 90) (by decide +kernel) rfl rfl ?_
            refine sF_gr (idx := 24) (ci := 10) (k := 0) (n := 6) (r := 1) (pc' := 93) (by decide +kernel) fl_X10_24 (by decide +kernel) rfl SH_56 (by decide) (by decide +kernel) ?_
            refine sF_gr (idx := 141) (ci := 6) (k := 0) (n := 4) (r := 2) (pc' := 96) (by decide +kernel) fl_X10_141 (by decide +kernel) rfl SH_1 (by decide) (by decide +kernel) ?_
            refine sd_aload (i := 4) (q := 0) (pc' := 98) (by decide +kernel) rfl ?_
            refine sF_gi (idx := 86) (ci := 5) (k := 0) (n := 4) (pc' := 101) (by decide +kernel) fl_X10_86 (by decide +kernel) rfl (sha_R (sh_9_0 pa0) (j := 2) (by decide)) ?_
            obtain ⟨g14, hf⟩ := gd_some hf
            refine sF_iald (n := 6) (pc' := 102) (by decide +kernel) SH_2 g14 ?_
            obtain ⟨t16, q15, hf⟩ := b1_some hf
            refine sF_callS (idx := 135) (As := [.int (h.1 a0 1), .int a1, .int (h.1 2 ((h.1 ((a0 + 1) + 1 + 2) 0) : Int32).toNatClampNeg)]) (pc' := 105) 3 (T_XY_familyFor (G := G) (h := h)  q15) (by decide +kernel) mv_XY_familyFor ml_X10_135 (by decide +kernel) rfl rfl (Nat.le_of_ble_eq_true rfl) rfl ?_
            refine sd_goto (off := 4) (tgt := 109) (pc' := 108) (by decide +kernel) ?_
            obtain rfl := Option.some.inj hf
            exact sd_iret (by decide +kernel) rfl (hE _)
        · replace hf := ite_n c10 hf
          refine sd_aload_n (k := 1) (i := 1) (q := 3) (pc' := 60) (by decide +kernel) rfl rfl ?_
          refine sF_gi (idx := 102) (ci := 9) (k := 1) (n := 6) (pc' := 63) (by decide +kernel) fl_X10_102 (by decide +kernel) rfl pa0 ?_
          refine sd_iload_n (k := 2) (i := 2) (q := 4) (pc' := 64) (by decide +kernel) rfl rfl ?_
          refine sd_iconst (n := 0) (v := 0) (pc' := 65) (by decide +kernel) (by decide) ?_
          obtain ⟨t18, q17, hf⟩ := b1_some hf
          refine sF_callS (idx := 135) (As := [.int (h.1 a0 1), .int a1, .int 0]) (pc' := 68) 3 (T_XY_familyFor (G := G) (h := h)  q17) (by decide +kernel) mv_XY_familyFor ml_X10_135 (by decide +kernel) rfl rfl (Nat.le_of_ble_eq_true rfl) rfl ?_
          obtain rfl := Option.some.inj hf
          exact sd_iret (by decide +kernel) rfl (hE _)
      · replace hf := ite_p c7 hf
        refine sd_iconst (n := 0) (v := 0) (pc' := 50) (by decide +kernel) (by decide) ?_
        obtain rfl := Option.some.inj hf
        exact sd_iret (by decide +kernel) rfl (hE _)

def M_XR_isTrue : sd_MX := (yX6_isTrue, cX6_isTrue, 3, (some .boolean), { frames := 1, cells := 0, slots := 0, locals := 40 })
def XR_isTrue (h : sd_H) (this : Nat) (a0 : Int32) (a1 : Int32) : Option Int32 :=
  gd (sd_inB a0 6) ((if (h.1 (this + 1) (a0 : Int32).toNatClampNeg) = 4 then (if a1 < 0 then some 0 else gd (sd_inB a0 6) ((if (h.1 (this + 2) (a0 : Int32).toNatClampNeg) ≤ a1 then some 0 else gd (sd_inB ((a0 * 24) + a1) 144) ((if (Op.cmpValue (FP.dcmp (h.2.1 (this + 3) (((a0 * 24) + a1) : Int32).toNatClampNeg) FP.dconst0) .l) = 0 then some 0 else some 1))))) else some 0))
set_option maxHeartbeats 4000000 in
set_option maxRecDepth 100000 in
theorem T_XR_isTrue {G : sd_GX} {h : sd_H} {this : Nat} {a0 : Int32} {a1 : Int32} {r : Int32} (pt : sd_SH this = (6, 4)) (hf : XR_isTrue h this a0 a1 = some r) : sd_RunF G M_XR_isTrue [.ref (G.1 + this), .int a0, .int a1] h (some (.int r)) h := by
  refine sF_run ⟨rfl, rfl⟩ (by decide +kernel) (Nat.le_of_ble_eq_true rfl) (lo := [(0, .ref (G.1 + this)), (1, .int a0), (2, .int a1)]) rfl (fun X hE => ?_)
  unfold XR_isTrue at hf
  refine sd_aload_n (k := 0) (i := 0) (q := 0) (pc' := 1) (by decide +kernel) rfl rfl ?_
  refine sF_gr (idx := 9) (ci := 6) (k := 0) (n := 4) (r := (this + 1)) (pc' := 4) (by decide +kernel) fl_X6_9 (by decide +kernel) rfl pt (by decide) (rt_6_0 pt) ?_
  refine sd_iload_n (k := 1) (i := 1) (q := 1) (pc' := 5) (by decide +kernel) rfl rfl ?_
  obtain ⟨g1, hf⟩ := gd_some hf
  refine sF_iald (n := 6) (pc' := 6) (by decide +kernel) (sh_6_0 pt) g1 ?_
  refine sd_iconst (n := 4) (v := 4) (pc' := 7) (by decide +kernel) (by decide) ?_
  refine sd_icmp_ne (off := 37) (tgt := 44) (pc' := 10) (by decide +kernel) (fun c2 => ?_) (fun c2 => ?_)
  · replace hf := ite_n c2 hf
    refine sd_iconst (n := 0) (v := 0) (pc' := 45) (by decide +kernel) (by decide) ?_
    obtain rfl := Option.some.inj hf
    exact sd_zret (by decide +kernel) rfl rfl (hE _)
  · replace hf := ite_p c2 hf
    refine sd_iload_n (k := 2) (i := 2) (q := 2) (pc' := 11) (by decide +kernel) rfl rfl ?_
    refine sd_if_lt (off := 33) (tgt := 44) (pc' := 14) (by decide +kernel) (fun c3 => ?_) (fun c3 => ?_)
    · replace hf := ite_p c3 hf
      refine sd_iconst (n := 0) (v := 0) (pc' := 45) (by decide +kernel) (by decide) ?_
      obtain rfl := Option.some.inj hf
      exact sd_zret (by decide +kernel) rfl rfl (hE _)
    · replace hf := ite_n c3 hf
      refine sd_iload_n (k := 2) (i := 2) (q := 2) (pc' := 15) (by decide +kernel) rfl rfl ?_
      refine sd_aload_n (k := 0) (i := 0) (q := 0) (pc' := 16) (by decide +kernel) rfl rfl ?_
      refine sF_gr (idx := 15) (ci := 6) (k := 1) (n := 4) (r := (this + 2)) (pc' := 19) (by decide +kernel) fl_X6_15 (by decide +kernel) rfl pt (by decide) (rt_6_1 pt) ?_
      refine sd_iload_n (k := 1) (i := 1) (q := 1) (pc' := 20) (by decide +kernel) rfl rfl ?_
      obtain ⟨g4, hf⟩ := gd_some hf
      refine sF_iald (n := 6) (pc' := 21) (by decide +kernel) (sh_6_1 pt) g4 ?_
      refine sd_icmp_ge (off := 23) (tgt := 44) (pc' := 24) (by decide +kernel) (fun c5 => ?_) (fun c5 => ?_)
      · replace hf := ite_p c5 hf
        refine sd_iconst (n := 0) (v := 0) (pc' := 45) (by decide +kernel) (by decide) ?_
        obtain rfl := Option.some.inj hf
        exact sd_zret (by decide +kernel) rfl rfl (hE _)
      · replace hf := ite_n c5 hf
        refine sd_aload_n (k := 0) (i := 0) (q := 0) (pc' := 25) (by decide +kernel) rfl rfl ?_
        refine sF_gr (idx := 18) (ci := 6) (k := 2) (n := 4) (r := (this + 3)) (pc' := 28) (by decide +kernel) fl_X6_18 (by decide +kernel) rfl pt (by decide) (rt_6_2 pt) ?_
        refine sd_iload_n (k := 1) (i := 1) (q := 1) (pc' := 29) (by decide +kernel) rfl rfl ?_
        refine sd_bipush (n := 24) (v := 24) (pc' := 31) (by decide +kernel) (by decide) ?_
        refine sd_imul (pc' := 32) (by decide +kernel) ?_
        refine sd_iload_n (k := 2) (i := 2) (q := 2) (pc' := 33) (by decide +kernel) rfl rfl ?_
        refine sd_iadd (pc' := 34) (by decide +kernel) ?_
        obtain ⟨g6, hf⟩ := gd_some hf
        refine sF_dald (n := 144) (pc' := 35) (by decide +kernel) (sh_6_2 pt) g6 ?_
        refine sd_dconst0 (pc' := 36) (by decide +kernel) ?_
        refine sd_dcmp (op := .l) (pc' := 37) (by decide +kernel) ?_
        refine sd_if_eq (off := 7) (tgt := 44) (pc' := 40) (by decide +kernel) (fun c7 => ?_) (fun c7 => ?_)
        · replace hf := ite_p c7 hf
          refine sd_iconst (n := 0) (v := 0) (pc' := 45) (by decide +kernel) (by decide) ?_
          obtain rfl := Option.some.inj hf
          exact sd_zret (by decide +kernel) rfl rfl (hE _)
        · replace hf := ite_n c7 hf
          refine sd_iconst (n := 1) (v := 1) (pc' := 41) (by decide +kernel) (by decide) ?_
          refine sd_goto (off := 4) (tgt := 45) (pc' := 44) (by decide +kernel) ?_
          obtain rfl := Option.some.inj hf
          exact sd_zret (by decide +kernel) rfl rfl (hE _)

theorem ml_X9_49 : Cond.methodLink RX9 49 yX6_isTrue ∈ sd_tb := sd_mem (i := 721) (by decide +kernel)
theorem mv_XR_isTrue : sd_mV M_XR_isTrue 2 := ⟨sd_mem (i := 722) (by decide +kernel), sd_mem (i := 723) (by decide +kernel), ⟨sd_mem (i := 724) (by decide +kernel), sd_mem (i := 109) (by decide +kernel), by decide +kernel, by decide +kernel, by decide +kernel⟩⟩
def M_XA_isDone : sd_MX := (yX9_isDone, cX9_isDone, 3, (some .boolean), { frames := 2, cells := 0, slots := 0, locals := 62 })
def XA_isDone_B33 (h : sd_H) : Option Int32 :=
  some 1
set_option maxHeartbeats 4000000 in
set_option maxRecDepth 100000 in
theorem J_XA_isDone_B33 {G : sd_GX} {X : sd_CX} (hE : ∀ g : sd_H, sd_end G X M_XA_isDone (sd_F g)) {h : sd_H} {r : Int32} (hf : XA_isDone_B33 h = some r) : sd_J G X (sd_QR G X M_XA_isDone (some (.int r), sd_F h)) M_XA_isDone 33 [] [] (sd_F h) := by
  unfold XA_isDone_B33 at hf
  refine sd_iconst (n := 1) (v := 1) (pc' := 34) (by decide +kernel) (by decide) ?_
  refine sd_goto (off := 4) (tgt := 38) (pc' := 37) (by decide +kernel) ?_
  obtain rfl := Option.some.inj hf
  exact sd_zret (by decide +kernel) rfl rfl (hE _)
def XA_isDone (h : sd_H) (this : Nat) (a0 : Int32) (a1 : Nat) : Option Int32 :=
  gd (nz (h.1 this 3)) ((if (a0 - a0 / (h.1 this 3) * (h.1 this 3)) = (h.1 this 4) then (if (h.1 this 5) = (-1) then XA_isDone_B33 h else b1 (XR_isTrue h a1 (h.1 this 5) a0) (fun t5 => (if t5 = 0 then some 0 else XA_isDone_B33 h))) else some 0))
set_option maxHeartbeats 4000000 in
set_option maxRecDepth 100000 in
theorem T_XA_isDone {G : sd_GX} {h : sd_H} {this : Nat} {a0 : Int32} {a1 : Nat} {r : Int32} (pt : sd_SH this = (9, 6)) (pa1 : sd_SH a1 = (6, 4)) (hf : XA_isDone h this a0 a1 = some r) : sd_RunF G M_XA_isDone [.ref (G.1 + this), .int a0, .ref (G.1 + a1)] h (some (.int r)) h := by
  refine sF_run ⟨rfl, rfl⟩ (by decide +kernel) (Nat.le_of_ble_eq_true rfl) (lo := [(0, .ref (G.1 + this)), (1, .int a0), (2, .ref (G.1 + a1))]) rfl (fun X hE => ?_)
  unfold XA_isDone at hf
  refine sd_iload_n (k := 1) (i := 1) (q := 1) (pc' := 1) (by decide +kernel) rfl rfl ?_
  refine sd_aload_n (k := 0) (i := 0) (q := 0) (pc' := 2) (by decide +kernel) rfl rfl ?_
  refine sF_gi (idx := 18) (ci := 9) (k := 3) (n := 6) (pc' := 5) (by decide +kernel) fl_X9_18 (by decide +kernel) rfl pt ?_
  obtain ⟨g1, hf⟩ := gd_some hf
  refine sd_irem (pc' := 6) (by decide +kernel) (nz_of g1) ?_
  refine sd_aload_n (k := 0) (i := 0) (q := 0) (pc' := 7) (by decide +kernel) rfl rfl ?_
  refine sF_gi (idx := 28) (ci := 9) (k := 4) (n := 6) (pc' := 10) (by decide +kernel) fl_X9_28 (by decide +kernel) rfl pt ?_
  refine sd_icmp_ne (off := 27) (tgt := 37) (pc' := 13) (by decide +kernel) (fun c2 => ?_) (fun c2 => ?_)
  · replace hf := ite_n c2 hf
    refine sd_iconst (n := 0) (v := 0) (pc' := 38) (by decide +kernel) (by decide) ?_
    obtain rfl := Option.some.inj hf
    exact sd_zret (by decide +kernel) rfl rfl (hE _)
  · replace hf := ite_p c2 hf
    refine sd_aload_n (k := 0) (i := 0) (q := 0) (pc' := 14) (by decide +kernel) rfl rfl ?_
    refine sF_gi (idx := 31) (ci := 9) (k := 5) (n := 6) (pc' := 17) (by decide +kernel) fl_X9_31 (by decide +kernel) rfl pt ?_
    refine sd_iconst (n := -1) (v := (-1)) (pc' := 18) (by decide +kernel) (by decide) ?_
    refine sd_icmp_eq (off := 15) (tgt := 33) (pc' := 21) (by decide +kernel) (fun c3 => ?_) (fun c3 => ?_)
    · replace hf := ite_p c3 hf
      refine sd_J.sub (lo' := []) [] rfl ?_
      exact J_XA_isDone_B33 hE hf
    · replace hf := ite_n c3 hf
      refine sd_aload_n (k := 2) (i := 2) (q := 2) (pc' := 22) (by decide +kernel) rfl rfl ?_
      refine sd_aload_n (k := 0) (i := 0) (q := 0) (pc' := 23) (by decide +kernel) rfl rfl ?_
      refine sF_gi (idx := 31) (ci := 9) (k := 5) (n := 6) (pc' := 26) (by decide +kernel) fl_X9_31 (by decide +kernel) rfl pt ?_
      refine sd_iload_n (k := 1) (i := 1) (q := 1) (pc' := 27) (by decide +kernel) rfl rfl ?_
      obtain ⟨t5, q4, hf⟩ := b1_some hf
      refine sF_callV (idx := 49) (b := a1) (As := [.int (h.1 this 5), .int a0]) (ci := 6) (nn := 4) (pc' := 30) 2 (T_XR_isTrue (G := G) (h := h) pa1 q4) (by decide +kernel) mv_XR_isTrue ml_X9_49 (by decide +kernel) rfl rfl (Nat.le_of_ble_eq_true rfl) pa1 rfl (by decide) rfl rfl ?_
      refine sd_if_eq (off := 7) (tgt := 37) (pc' := 33) (by decide +kernel) (fun c6 => ?_) (fun c6 => ?_)
      · replace hf := ite_p c6 hf
        refine sd_iconst (n := 0) (v := 0) (pc' := 38) (by decide +kernel) (by decide) ?_
        obtain rfl := Option.some.inj hf
        exact sd_zret (by decide +kernel) rfl rfl (hE _)
      · replace hf := ite_n c6 hf
        refine sd_J.sub (lo' := []) [] rfl ?_
        exact J_XA_isDone_B33 hE hf
