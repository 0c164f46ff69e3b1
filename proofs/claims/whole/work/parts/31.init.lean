theorem oi_X6 : Cond.methodLink RX6 3 Lib.objectInit ∈ sd_tb := sd_mem (i := 141) (by decide +kernel)
theorem na_int : Cond.arrayClass (newarray.typeOf .int) ∈ sd_tb := sd_mem (i := 163) (by decide +kernel)
theorem na_double : Cond.arrayClass (newarray.typeOf .double) ∈ sd_tb := sd_mem (i := 164) (by decide +kernel)
def M_XR_init : sd_MX := (yX6_init, cX6_init, 2, none, { frames := 1, cells := 4, slots := 300, locals := 40 })
def XR_init_L40 (h0 : sd_HX) : Nat → sd_HX → Nat → Int32 → Option sd_HX
  | 0, _, _, _ => none
  | n + 1, h, l0, l1 =>
  (if 6 ≤ l1 then some h else gd (okO h l0 6 4) (opR (h.2.2.2 l0 0) (fun w27 => gd (okO h w27 100 6) (gd (sd_inB l1 6) (gu (sd_wi h w27 (l1 : Int32).toNatClampNeg (-1)) (fun h31 => XR_init_L40 h0 n h31 l0 (l1 + 1)))))))
set_option maxHeartbeats 4000000 in
set_option maxRecDepth 100000 in
theorem J_XR_init_L40 {G : sd_GX} {X : sd_CX} {h0 : sd_HX} (h0s : (sd_s X).heap.size = G.1 + h0.1) {r : sd_HX} (hE : okE h0 r M_XR_init = true) : ∀ (n : Nat) (h : sd_HX) (l0 : Nat) (l1 : Int32), XR_init_L40 h0 n h l0 l1 = some r → sd_J G X (sd_QR G X M_XR_init (none, r)) M_XR_init 40 [(0, .ref (G.1 + l0)), (1, .int l1)] [] h := by
  intro n
  induction n with
  | zero =>
    intro h l0 l1 hf
    rw [XR_init_L40] at hf
    cases hf
  | succ n ih =>
    intro h l0 l1 hf
    rw [XR_init_L40] at hf
    refine sd_iload_n (k := 1) (i := 1) (q := 1) (pc' := 41) (by decide +kernel) rfl rfl ?_
    refine sd_bipush (n := 6) (v := 6) (pc' := 43) (by decide +kernel) (by decide) ?_
    refine sd_icmp_ge (off := 16) (tgt := 59) (pc' := 46) (by decide +kernel) (fun c25 => ?_) (fun c25 => ?_)
    · replace hf := ite_p c25 hf
      obtain rfl := Option.some.inj hf
      exact sI_ret h0s (by decide +kernel) rfl hE
    · replace hf := ite_n c25 hf
      refine sd_aload_n (k := 0) (i := 0) (q := 0) (pc' := 47) (by decide +kernel) rfl rfl ?_
      obtain ⟨g26, hf⟩ := gd_some hf
      obtain ⟨w27, e28, hf⟩ := opR_some hf
      refine sI_get (idx := 9) (ci := 6) (k := 0) (n := 4) (r := w27) (pc' := 50) (by decide +kernel) fl_X6_9 (by decide +kernel) rfl g26 e28 ?_
      refine sd_iload_n (k := 1) (i := 1) (q := 1) (pc' := 51) (by decide +kernel) rfl rfl ?_
      refine sd_iconst (n := -1) (v := (-1)) (pc' := 52) (by decide +kernel) (by decide) ?_
      obtain ⟨g29, hf⟩ := gd_some hf
      obtain ⟨g30, hf⟩ := gd_some hf
      obtain ⟨h31, e32, hf⟩ := gu_some hf
      refine sI_iast (n := 6) (pc' := 53) (by decide +kernel) g29 g30 ?_
      rw [← e32]; clear e32
      refine sd_iinc (i := 1) (q := 1) (n := 1) (v := (l1 + 1)) (pc' := 56) (lo' := [(1, .int (l1 + 1)), (0, .ref (G.1 + l0))]) (by decide +kernel) rfl rfl (by decide) rfl ?_
      refine sd_goto (off := -16) (tgt := 40) (pc' := 59) (by decide +kernel) ?_
      refine sd_J.sub (lo' := [(0, .ref (G.1 + l0)), (1, .int (l1 + 1))]) [1, 0] rfl ?_
      exact ih _ _ _ hf
def XR_init_0 (h0 : sd_HX) (this : Nat) : Option sd_HX :=
  gd (okN h0 h0 M_XR_init 100 6) (gu (nw h0) (fun h2 => gd (okO h2 this 6 4) (gu (sd_wr h2 this 0 (some h0.1)) (fun h5 => gd (okN h0 h5 M_XR_init 100 6) (gu (nw h5) (fun h8 => gd (okO h8 this 6 4) (gu (sd_wr h8 this 1 (some h5.1)) (fun h11 => gd (okN h0 h11 M_XR_init 101 144) (gu (nw h11) (fun h14 => gd (okO h14 this 6 4) (gu (sd_wr h14 this 2 (some h11.1)) (fun h17 => gd (okN h0 h17 M_XR_init 100 144) (gu (nw h17) (fun h20 => gd (okO h20 this 6 4) (gu (sd_wr h20 this 3 (some h17.1)) (fun h23 => XR_init_L40 h0 2000 h23 this 0))))))))))))))))
def XR_init (h0 : sd_HX) (this : Nat) : Option sd_HX := b1 (XR_init_0 h0 this) (fun r => gd (okE h0 r M_XR_init) (some r))
set_option maxHeartbeats 4000000 in
set_option maxRecDepth 100000 in
theorem T_XR_init {G : sd_GX} {h0 : sd_HX} {this : Nat} {r : sd_HX} (hf : XR_init h0 this = some r) : sd_Run G M_XR_init [.ref (G.1 + this)] h0 (none, r) := by
  unfold XR_init at hf
  obtain ⟨r1, q0, hf⟩ := b1_some hf
  obtain ⟨hE, hf⟩ := gd_some hf
  obtain rfl := Option.some.inj hf
  clear hf
  have hf := q0
  refine sd_Run_of (okE_of hE) (by decide +kernel) (Nat.le_of_ble_eq_true rfl) (lo := [(0, .ref (G.1 + this))]) rfl (fun X h0s _ => ?_)
  unfold XR_init_0 at hf
  refine sd_aload_n (k := 0) (i := 0) (q := 0) (pc' := 1) (by decide +kernel) rfl rfl ?_
  refine sd_oinit (idx := 3) (pc' := 4) (by decide +kernel) oi_X6 (by decide) (Nat.le_of_ble_eq_true rfl) ?_
  refine sd_aload_n (k := 0) (i := 0) (q := 0) (pc' := 5) (by decide +kernel) rfl rfl ?_
  refine sd_bipush (n := 6) (v := 6) (pc' := 7) (by decide +kernel) (by decide) ?_
  obtain ⟨g1, hf⟩ := gd_some hf
  obtain ⟨h2, e3, hf⟩ := gu_some hf
  refine sd_newA (k := 0) (N := 6) (pc' := 9) h0s (by decide +kernel) na_int (by decide) (by decide) (by decide) (by decide) g1 ?_
  rw [← e3]; clear e3
  obtain ⟨g4, hf⟩ := gd_some hf
  obtain ⟨h5, e6, hf⟩ := gu_some hf
  refine sI_pr (idx := 9) (ci := 6) (k := 0) (n := 4) (pc' := 12) (by decide +kernel) fl_X6_9 (by decide +kernel) rfl (fun _ => rfl) (fun _ => rfl) ⟨rfl, rfl, rfl⟩ rfl g4 ?_
  rw [← e6]; clear e6
  refine sd_aload_n (k := 0) (i := 0) (q := 0) (pc' := 13) (by decide +kernel) rfl rfl ?_
  refine sd_bipush (n := 6) (v := 6) (pc' := 15) (by decide +kernel) (by decide) ?_
  obtain ⟨g7, hf⟩ := gd_some hf
  obtain ⟨h8, e9, hf⟩ := gu_some hf
  refine sd_newA (k := 0) (N := 6) (pc' := 17) h0s (by decide +kernel) na_int (by decide) (by decide) (by decide) (by decide) g7 ?_
  rw [← e9]; clear e9
  obtain ⟨g10, hf⟩ := gd_some hf
  obtain ⟨h11, e12, hf⟩ := gu_some hf
  refine sI_pr (idx := 15) (ci := 6) (k := 1) (n := 4) (pc' := 20) (by decide +kernel) fl_X6_15 (by decide +kernel) rfl (fun _ => rfl) (fun _ => rfl) ⟨rfl, rfl, rfl⟩ rfl g10 ?_
  rw [← e12]; clear e12
  refine sd_aload_n (k := 0) (i := 0) (q := 0) (pc' := 21) (by decide +kernel) rfl rfl ?_
  refine sd_sipush (n := 144) (v := 144) (pc' := 24) (by decide +kernel) (by decide) ?_
  obtain ⟨g13, hf⟩ := gd_some hf
  obtain ⟨h14, e15, hf⟩ := gu_some hf
  refine sd_newA (k := 1) (N := 144) (pc' := 26) h0s (by decide +kernel) na_double (by decide) (by decide) (by decide) (by decide) g13 ?_
  rw [← e15]; clear e15
  obtain ⟨g16, hf⟩ := gd_some hf
  obtain ⟨h17, e18, hf⟩ := gu_some hf
  refine sI_pr (idx := 18) (ci := 6) (k := 2) (n := 4) (pc' := 29) (by decide +kernel) fl_X6_18 (by decide +kernel) rfl (fun _ => rfl) (fun _ => rfl) ⟨rfl, rfl, rfl⟩ rfl g16 ?_
  rw [← e18]; clear e18
  refine sd_aload_n (k := 0) (i := 0) (q := 0) (pc' := 30) (by decide +kernel) rfl rfl ?_
  refine sd_sipush (n := 144) (v := 144) (pc' := 33) (by decide +kernel) (by decide) ?_
  obtain ⟨g19, hf⟩ := gd_some hf
  obtain ⟨h20, e21, hf⟩ := gu_some hf
  refine sd_newA (k := 0) (N := 144) (pc' := 35) h0s (by decide +kernel) na_int (by decide) (by decide) (by decide) (by decide) g19 ?_
  rw [← e21]; clear e21
  obtain ⟨g22, hf⟩ := gd_some hf
  obtain ⟨h23, e24, hf⟩ := gu_some hf
  refine sI_pr (idx := 22) (ci := 6) (k := 3) (n := 4) (pc' := 38) (by decide +kernel) fl_X6_22 (by decide +kernel) rfl (fun _ => rfl) (fun _ => rfl) ⟨rfl, rfl, rfl⟩ rfl g22 ?_
  rw [← e24]; clear e24
  refine sd_iconst (n := 0) (v := 0) (pc' := 39) (by decide +kernel) (by decide) ?_
  refine sd_istore_n (k := 1) (i := 1) (pc' := 40) (lo' := [(1, .int 0), (0, .ref (G.1 + this))]) (by decide +kernel) rfl (by decide) rfl ?_
  refine sd_J.sub (lo' := [(0, .ref (G.1 + this)), (1, .int 0)]) [1, 0] rfl ?_
  exact J_XR_init_L40 h0s hE _ _ _ _ hf
theorem oi_X5 : Cond.methodLink RX5 3 Lib.objectInit ∈ sd_tb := sd_mem (i := 184) (by decide +kernel)
def M_XF_init : sd_MX := (yX5_init, cX5_init, 1, none, { frames := 1, cells := 0, slots := 0, locals := 40 })
def XF_init_0 (h0 : sd_HX) (this : Nat) : Option sd_HX :=
  some h0
def XF_init (h0 : sd_HX) (this : Nat) : Option sd_HX := b1 (XF_init_0 h0 this) (fun r => gd (okE h0 r M_XF_init) (some r))
set_option maxHeartbeats 4000000 in
set_option maxRecDepth 100000 in
theorem T_XF_init {G : sd_GX} {h0 : sd_HX} {this : Nat} {r : sd_HX} (hf : XF_init h0 this = some r) : sd_Run G M_XF_init [.ref (G.1 + this)] h0 (none, r) := by
  unfold XF_init at hf
  obtain ⟨r1, q0, hf⟩ := b1_some hf
  obtain ⟨hE, hf⟩ := gd_some hf
  obtain rfl := Option.some.inj hf
  clear hf
  have hf := q0
  refine sd_Run_of (okE_of hE) (by decide +kernel) (Nat.le_of_ble_eq_true rfl) (lo := [(0, .ref (G.1 + this))]) rfl (fun X h0s _ => ?_)
  unfold XF_init_0 at hf
  refine sd_aload_n (k := 0) (i := 0) (q := 0) (pc' := 1) (by decide +kernel) rfl rfl ?_
  refine sd_oinit (idx := 3) (pc' := 4) (by decide +kernel) oi_X5 (by decide) (Nat.le_of_ble_eq_true rfl) ?_
  obtain rfl := Option.some.inj hf
  exact sI_ret h0s (by decide +kernel) rfl hE
theorem oi_X9 : Cond.methodLink RX9 3 Lib.objectInit ∈ sd_tb := sd_mem (i := 177) (by decide +kernel)
theorem nq_X9_9 : Cond.classLink RX9 9 RX5 ∈ sd_tb ∧ Cond.arrayOver (.object RX5) ∈ lw_tbl := ⟨sd_mem (i := 178) (by decide +kernel), List.mem_of_getElem? (i := 179) (by decide +kernel)⟩
theorem nd_X9_9 : sd_nwd RX9 9 5 := ⟨sd_mem (i := 178) (by decide +kernel), sd_mem (i := 180) (by decide +kernel), sd_mem (i := 112) (by decide +kernel), by decide⟩
theorem ml_X9_11 : Cond.methodLinkNest RX9 11 yX5_init RX11 ∈ lw_tbl := List.mem_of_getElem? (i := 181) (by decide +kernel)
theorem mv_XF_init : sd_mI M_XF_init 0 := ⟨sd_mem (i := 182) (by decide +kernel), rfl, rfl, ⟨sd_mem (i := 183) (by decide +kernel), sd_mem (i := 112) (by decide +kernel), by decide +kernel, by decide +kernel, by decide +kernel⟩⟩
def M_XA_init : sd_MX := (yX9_init, cX9_init, 1, none, { frames := 2, cells := 4, slots := 15, locals := 60 })
def XA_init_0 (h0 : sd_HX) (this : Nat) : Option sd_HX :=
  gd (okN h0 h0 M_XA_init 105 3) (gu (nw h0) (fun h2 => gd (okN h0 h2 M_XA_init 5 4) (gu (nw h2) (fun h5 => b1 (XF_init h5 h2.1) (fun h7 => gd (okL h0 h7 M_XA_init) (gd (okO h7 h0.1 105 3) (gd (sd_inB 0 3) (gd (okO h7 h2.1 5 4) (gu (sd_wr h7 h0.1 (0 : Int32).toNatClampNeg (some h2.1)) (fun h13 => gd (okN h0 h13 M_XA_init 5 4) (gu (nw h13) (fun h16 => b1 (XF_init h16 h13.1) (fun h18 => gd (okL h0 h18 M_XA_init) (gd (okO h18 h0.1 105 3) (gd (sd_inB 1 3) (gd (okO h18 h13.1 5 4) (gu (sd_wr h18 h0.1 (1 : Int32).toNatClampNeg (some h13.1)) (fun h24 => gd (okN h0 h24 M_XA_init 5 4) (gu (nw h24) (fun h27 => b1 (XF_init h27 h24.1) (fun h29 => gd (okL h0 h29 M_XA_init) (gd (okO h29 h0.1 105 3) (gd (sd_inB 2 3) (gd (okO h29 h24.1 5 4) (gu (sd_wr h29 h0.1 (2 : Int32).toNatClampNeg (some h24.1)) (fun h35 => gd (okO h35 this 9 6) (gu (sd_wr h35 this 0 (some h0.1)) (fun h38 => gd (okO h38 this 9 6) (gu (sd_wi h38 this 3 1) (fun h41 => some h41))))))))))))))))))))))))))))))
def XA_init (h0 : sd_HX) (this : Nat) : Option sd_HX := b1 (XA_init_0 h0 this) (fun r => gd (okE h0 r M_XA_init) (some r))
set_option maxHeartbeats 4000000 in
set_option maxRecDepth 100000 in
theorem T_XA_init {G : sd_GX} {h0 : sd_HX} {this : Nat} {r : sd_HX} (hf : XA_init h0 this = some r) : sd_Run G M_XA_init [.ref (G.1 + this)] h0 (none, r) := by
  unfold XA_init at hf
  obtain ⟨r1, q0, hf⟩ := b1_some hf
  obtain ⟨hE, hf⟩ := gd_some hf
  obtain rfl := Option.some.inj hf
  clear hf
  have hf := q0
  refine sd_Run_of (okE_of hE) (by decide +kernel) (Nat.le_of_ble_eq_true rfl) (lo := [(0, .ref (G.1 + this))]) rfl (fun X h0s _ => ?_)
  unfold XA_init_0 at hf
  refine sd_aload_n (k := 0) (i := 0) (q := 0) (pc' := 1) (by decide +kernel) rfl rfl ?_
  refine sd_oinit (idx := 3) (pc' := 4) (by decide +kernel) oi_X9 (by decide) (Nat.le_of_ble_eq_true rfl) ?_
  refine sd_aload_n (k := 0) (i := 0) (q := 0) (pc' := 5) (by decide +kernel) rfl rfl ?_
  refine sd_iconst (n := 3) (v := 3) (pc' := 6) (by decide +kernel) (by decide) ?_
  obtain ⟨g1, hf⟩ := gd_some hf
  obtain ⟨h2, e3, hf⟩ := gu_some hf
  refine sd_newQ (idx := 9) (k := 5) (N := 3) (C := RX5) (pc' := 9) h0s (by decide +kernel) nq_X9_9.1 nq_X9_9.2 (by simp) (by decide) (by decide) (by decide) g1 ?_
  rw [← e3]; clear e3
  refine sd_dup (pc' := 10) (by decide +kernel) rfl ?_
  refine sd_iconst (n := 0) (v := 0) (pc' := 11) (by decide +kernel) (by decide) ?_
  obtain ⟨g4, hf⟩ := gd_some hf
  obtain ⟨h5, e6, hf⟩ := gu_some hf
  refine sd_new (idx := 9) (ci := 5) (n := 4) (pc' := 14) h0s (by decide +kernel) nd_X9_9 rfl g4 ?_
  rw [← e6]; clear e6
  refine sd_dup (pc' := 15) (by decide +kernel) rfl ?_
  obtain ⟨h7, q8, hf⟩ := b1_some hf
  obtain ⟨g9, hf⟩ := gd_some hf
  refine sI_call (idx := 11) (b := h2.1) (As := []) (pc' := 18) 0 h0s (T_XF_init (G := G) q8) (by decide +kernel) mv_XF_init (Or.inr ml_X9_11) (by decide +kernel) rfl rfl (Nat.le_of_ble_eq_true rfl) (okL_of g9) rfl ?_
  obtain ⟨g10, hf⟩ := gd_some hf
  obtain ⟨g11, hf⟩ := gd_some hf
  obtain ⟨g12, hf⟩ := gd_some hf
  obtain ⟨h13, e14, hf⟩ := gu_some hf
  refine sI_aast (n := 3) (t := 105) (ci := 5) (m := 4) (pc' := 19) (by decide +kernel) g10 g11 g12 (by decide) ?_
  rw [← e14]; clear e14
  refine sd_dup (pc' := 20) (by decide +kernel) rfl ?_
  refine sd_iconst (n := 1) (v := 1) (pc' := 21) (by decide +kernel) (by decide) ?_
  obtain ⟨g15, hf⟩ := gd_some hf
  obtain ⟨h16, e17, hf⟩ := gu_some hf
  refine sd_new (idx := 9) (ci := 5) (n := 4) (pc' := 24) h0s (by decide +kernel) nd_X9_9 rfl g15 ?_
  rw [← e17]; clear e17
  refine sd_dup (pc' := 25) (by decide +kernel) rfl ?_
  obtain ⟨h18, q19, hf⟩ := b1_some hf
  obtain ⟨g20, hf⟩ := gd_some hf
  refine sI_call (idx := 11) (b := h13.1) (As := []) (pc' := 28) 0 h0s (T_XF_init (G := G) q19) (by decide +kernel) mv_XF_init (Or.inr ml_X9_11) (by decide +kernel) rfl rfl (Nat.le_of_ble_eq_true rfl) (okL_of g20) rfl ?_
  obtain ⟨g21, hf⟩ := gd_some hf
  obtain ⟨g22, hf⟩ := gd_some hf
  obtain ⟨g23, hf⟩ := gd_some hf
  obtain ⟨h24, e25, hf⟩ := gu_some hf
  refine sI_aast (n := 3) (t := 105) (ci := 5) (m := 4) (pc' := 29) (by decide +kernel) g21 g22 g23 (by decide) ?_
  rw [← e25]; clear e25
  refine sd_dup (pc' := 30) (by decide +kernel) rfl ?_
  refine sd_iconst (n := 2) (v := 2) (pc' := 31) (by decide +kernel) (by decide) ?_
  obtain ⟨g26, hf⟩ := gd_some hf
  obtain ⟨h27, e28, hf⟩ := gu_some hf
  refine sd_new (idx := 9) (ci := 5) (n := 4) (pc' := 34) h0s (by decide +kernel) nd_X9_9 rfl g26 ?_
  rw [← e28]; clear e28
  refine sd_dup (pc' := 35) (by decide +kernel) rfl ?_
  obtain ⟨h29, q30, hf⟩ := b1_some hf
  obtain ⟨g31, hf⟩ := gd_some hf
  refine sI_call (idx := 11) (b := h24.1) (As := []) (pc' := 38) 0 h0s (T_XF_init (G := G) q30) (by decide +kernel) mv_XF_init (Or.inr ml_X9_11) (by decide +kernel) rfl rfl (Nat.le_of_ble_eq_true rfl) (okL_of g31) rfl ?_
  obtain ⟨g32, hf⟩ := gd_some hf
  obtain ⟨g33, hf⟩ := gd_some hf
  obtain ⟨g34, hf⟩ := gd_some hf
  obtain ⟨h35, e36, hf⟩ := gu_some hf
  refine sI_aast (n := 3) (t := 105) (ci := 5) (m := 4) (pc' := 39) (by decide +kernel) g32 g33 g34 (by decide) ?_
  rw [← e36]; clear e36
  obtain ⟨g37, hf⟩ := gd_some hf
  obtain ⟨h38, e39, hf⟩ := gu_some hf
  refine sI_pr (idx := 12) (ci := 9) (k := 0) (n := 6) (pc' := 42) (by decide +kernel) fl_X9_12 (by decide +kernel) rfl (fun _ => rfl) (fun _ => rfl) ⟨rfl, rfl, rfl⟩ rfl g37 ?_
  rw [← e39]; clear e39
  refine sd_aload_n (k := 0) (i := 0) (q := 0) (pc' := 43) (by decide +kernel) rfl rfl ?_
  refine sd_iconst (n := 1) (v := 1) (pc' := 44) (by decide +kernel) (by decide) ?_
  obtain ⟨g40, hf⟩ := gd_some hf
  obtain ⟨h41, e42, hf⟩ := gu_some hf
  refine sI_pi (idx := 18) (ci := 9) (k := 3) (n := 6) (pc' := 47) (by decide +kernel) fl_X9_18 (Or.inl ⟨by decide +kernel, rfl⟩) rfl rfl g40 ?_
  rw [← e42]; clear e42
  obtain rfl := Option.some.inj hf
  exact sI_ret h0s (by decide +kernel) rfl hE
theorem oi_X2 : Cond.methodLink RX2 3 Lib.objectInit ∈ sd_tb := sd_mem (i := 170) (by decide +kernel)
theorem nq_X2_9 : Cond.classLink RX2 9 RX9 ∈ sd_tb ∧ Cond.arrayOver (.object RX9) ∈ lw_tbl := ⟨sd_mem (i := 171) (by decide +kernel), List.mem_of_getElem? (i := 172) (by decide +kernel)⟩
theorem nd_X2_9 : sd_nwd RX2 9 9 := ⟨sd_mem (i := 171) (by decide +kernel), sd_mem (i := 173) (by decide +kernel), sd_mem (i := 111) (by decide +kernel), by decide⟩
theorem ml_X2_11 : Cond.methodLinkNest RX2 11 yX9_init RX11 ∈ lw_tbl := List.mem_of_getElem? (i := 174) (by decide +kernel)
theorem mv_XA_init : sd_mI M_XA_init 0 := ⟨sd_mem (i := 175) (by decide +kernel), rfl, rfl, ⟨sd_mem (i := 176) (by decide +kernel), sd_mem (i := 111) (by decide +kernel), by decide +kernel, by decide +kernel, by decide +kernel⟩⟩
def M_XL_init : sd_MX := (yX2_init, cX2_init, 1, none, { frames := 3, cells := 26, slots := 110, locals := 80 })
def XL_init_0 (h0 : sd_HX) (this : Nat) : Option sd_HX :=
  gd (okN h0 h0 M_XL_init 104 5) (gu (nw h0) (fun h2 => gd (okN h0 h2 M_XL_init 9 6) (gu (nw h2) (fun h5 => b1 (XA_init h5 h2.1) (fun h7 => gd (okL h0 h7 M_XL_init) (gd (okO h7 h0.1 104 5) (gd (sd_inB 0 5) (gd (okO h7 h2.1 9 6) (gu (sd_wr h7 h0.1 (0 : Int32).toNatClampNeg (some h2.1)) (fun h13 => gd (okN h0 h13 M_XL_init 9 6) (gu (nw h13) (fun h16 => b1 (XA_init h16 h13.1) (fun h18 => gd (okL h0 h18 M_XL_init) (gd (okO h18 h0.1 104 5) (gd (sd_inB 1 5) (gd (okO h18 h13.1 9 6) (gu (sd_wr h18 h0.1 (1 : Int32).toNatClampNeg (some h13.1)) (fun h24 => gd (okN h0 h24 M_XL_init 9 6) (gu (nw h24) (fun h27 => b1 (XA_init h27 h24.1) (fun h29 => gd (okL h0 h29 M_XL_init) (gd (okO h29 h0.1 104 5) (gd (sd_inB 2 5) (gd (okO h29 h24.1 9 6) (gu (sd_wr h29 h0.1 (2 : Int32).toNatClampNeg (some h24.1)) (fun h35 => gd (okN h0 h35 M_XL_init 9 6) (gu (nw h35) (fun h38 => b1 (XA_init h38 h35.1) (fun h40 => gd (okL h0 h40 M_XL_init) (gd (okO h40 h0.1 104 5) (gd (sd_inB 3 5) (gd (okO h40 h35.1 9 6) (gu (sd_wr h40 h0.1 (3 : Int32).toNatClampNeg (some h35.1)) (fun h46 => gd (okN h0 h46 M_XL_init 9 6) (gu (nw h46) (fun h49 => b1 (XA_init h49 h46.1) (fun h51 => gd (okL h0 h51 M_XL_init) (gd (okO h51 h0.1 104 5) (gd (sd_inB 4 5) (gd (okO h51 h46.1 9 6) (gu (sd_wr h51 h0.1 (4 : Int32).toNatClampNeg (some h46.1)) (fun h57 => gd (okO h57 this 2 3) (gu (sd_wr h57 this 0 (some h0.1)) (fun h60 => some h60))))))))))))))))))))))))))))))))))))))))))))
def XL_init (h0 : sd_HX) (this : Nat) : Option sd_HX := b1 (XL_init_0 h0 this) (fun r => gd (okE h0 r M_XL_init) (some r))
set_option maxHeartbeats 4000000 in
set_option maxRecDepth 100000 in
theorem T_XL_init {G : sd_GX} {h0 : sd_HX} {this : Nat} {r : sd_HX} (hf : XL_init h0 this = some r) : sd_Run G M_XL_init [.ref (G.1 + this)] h0 (none, r) := by
  unfold XL_init at hf
  obtain ⟨r1, q0, hf⟩ := b1_some hf
  obtain ⟨hE, hf⟩ := gd_some hf
  obtain rfl := Option.some.inj hf
  clear hf
  have hf := q0
  refine sd_Run_of (okE_of hE) (by decide +kernel) (Nat.le_of_ble_eq_true rfl) (lo := [(0, .ref (G.1 + this))]) rfl (fun X h0s _ => ?_)
  unfold XL_init_0 at hf
  refine sd_aload_n (k := 0) (i := 0) (q := 0) (pc' := 1) (by decide +kernel) rfl rfl ?_
  refine sd_oinit (idx := 3) (pc' := 4) (by decide +kernel) oi_X2 (by decide) (Nat.le_of_ble_eq_true rfl) ?_
  refine sd_aload_n (k := 0) (i := 0) (q := 0) (pc' := 5) (by decide +kernel) rfl rfl ?_
  refine sd_iconst (n := 5) (v := 5) (pc' := 6) (by decide +kernel) (by decide) ?_
  obtain ⟨g1, hf⟩ := gd_some hf
  obtain ⟨h2, e3, hf⟩ := gu_some hf
  refine sd_newQ (idx := 9) (k := 4) (N := 5) (C := RX9) (pc' := 9) h0s (by decide +kernel) nq_X2_9.1 nq_X2_9.2 (by simp) (by decide) (by decide) (by decide) g1 ?_
  rw [← e3]; clear e3
  refine sd_dup (pc' := 10) (by decide +kernel) rfl ?_
  refine sd_iconst (n := 0) (v := 0) (pc' := 11) (by decide +kernel) (by decide) ?_
  obtain ⟨g4, hf⟩ := gd_some hf
  obtain ⟨h5, e6, hf⟩ := gu_some hf
  refine sd_new (idx := 9) (ci := 9) (n := 6) (pc' := 14) h0s (by decide +kernel) nd_X2_9 rfl g4 ?_
  rw [← e6]; clear e6
  refine sd_dup (pc' := 15) (by decide +kernel) rfl ?_
  obtain ⟨h7, q8, hf⟩ := b1_some hf
  obtain ⟨g9, hf⟩ := gd_some hf
  refine sI_call (idx := 11) (b := h2.1) (As := []) (pc' := 18) 0 h0s (T_XA_init (G := G) q8) (by decide +kernel) mv_XA_init (Or.inr ml_X2_11) (by decide +kernel) rfl rfl (Nat.le_of_ble_eq_true rfl) (okL_of g9) rfl ?_
  obtain ⟨g10, hf⟩ := gd_some hf
  obtain ⟨g11, hf⟩ := gd_some hf
  obtain ⟨g12, hf⟩ := gd_some hf
  obtain ⟨h13, e14, hf⟩ := gu_some hf
  refine sI_aast (n := 5) (t := 104) (ci := 9) (m := 6) (pc' := 19) (by decide +kernel) g10 g11 g12 (by decide) ?_
  rw [← e14]; clear e14
  refine sd_dup (pc' := 20) (by decide +kernel) rfl ?_
  refine sd_iconst (n := 1) (v := 1) (pc' := 21) (by decide +kernel) (by decide) ?_
  obtain ⟨g15, hf⟩ := gd_some hf
  obtain ⟨h16, e17, hf⟩ := gu_some hf
  refine sd_new (idx := 9) (ci := 9) (n := 6) (pc' := 24) h0s (by decide +kernel) nd_X2_9 rfl g15 ?_
  rw [← e17]; clear e17
  refine sd_dup (pc' := 25) (by decide +kernel) rfl ?_
  obtain ⟨h18, q19, hf⟩ := b1_some hf
  obtain ⟨g20, hf⟩ := gd_some hf
  refine sI_call (idx := 11) (b := h13.1) (As := []) (pc' := 28) 0 h0s (T_XA_init (G := G) q19) (by decide +kernel) mv_XA_init (Or.inr ml_X2_11) (by decide +kernel) rfl rfl (Nat.le_of_ble_eq_true rfl) (okL_of g20) rfl ?_
  obtain ⟨g21, hf⟩ := gd_some hf
  obtain ⟨g22, hf⟩ := gd_some hf
  obtain ⟨g23, hf⟩ := gd_some hf
  obtain ⟨h24, e25, hf⟩ := gu_some hf
  refine sI_aast (n := 5) (t := 104) (ci := 9) (m := 6) (pc' := 29) (by decide +kernel) g21 g22 g23 (by decide) ?_
  rw [← e25]; clear e25
  refine sd_dup (pc' := 30) (by decide +kernel) rfl ?_
  refine sd_iconst (n := 2) (v := 2) (pc' := 31) (by decide +kernel) (by decide) ?_
  obtain ⟨g26, hf⟩ := gd_some hf
  obtain ⟨h27, e28, hf⟩ := gu_some hf
  refine sd_new (idx := 9) (ci := 9) (n := 6) (pc' := 34) h0s (by decide +kernel) nd_X2_9 rfl g26 ?_
  rw [← e28]; clear e28
  refine sd_dup (pc' := 35) (by decide +kernel) rfl ?_
  obtain ⟨h29, q30, hf⟩ := b1_some hf
  obtain ⟨g31, hf⟩ := gd_some hf
  refine sI_call (idx := 11) (b := h24.1) (As := []) (pc' := 38) 0 h0s (T_XA_init (G := G) q30) (by decide +kernel) mv_XA_init (Or.inr ml_X2_11) (by decide +kernel) rfl rfl (Nat.le_of_ble_eq_true rfl) (okL_of g31) rfl ?_
  obtain ⟨g32, hf⟩ := gd_some hf
  obtain ⟨g33, hf⟩ := gd_some hf
  obtain ⟨g34, hf⟩ := gd_some hf
  obtain ⟨h35, e36, hf⟩ := gu_some hf
  refine sI_aast (n := 5) (t := 104) (ci := 9) (m := 6) (pc' := 39) (by decide +kernel) g32 g33 g34 (by decide) ?_
  rw [← e36]; clear e36
  refine sd_dup (pc' := 40) (by decide +kernel) rfl ?_
  refine sd_iconst (n := 3) (v := 3) (pc' := 41) (by decide +kernel) (by decide) ?_
  obtain ⟨g37, hf⟩ := gd_some hf
  obtain ⟨h38, e39, hf⟩ := gu_some hf
  refine sd_new (idx := 9) (ci := 9) (n := 6) (pc' := 44) h0s (by decide +kernel) nd_X2_9 rfl g37 ?_
  rw [← e39]; clear e39
  refine sd_dup (pc' := 45) (by decide +kernel) rfl ?_
  obtain ⟨h40, q41, hf⟩ := b1_some hf
  obtain ⟨g42, hf⟩ := gd_some hf
  refine sI_call (idx := 11) (b := h35.1) (As := []) (pc' := 48) 0 h0s (T_XA_init (G := G) q41) (by decide +kernel) mv_XA_init (Or.inr ml_X2_11) (by decide +kernel) rfl rfl (Nat.le_of_ble_eq_true rfl) (okL_of g42) rfl ?_
  obtain ⟨g43, hf⟩ := gd_some hf
  obtain ⟨g44, hf⟩ := gd_some hf
  obtain ⟨g45, hf⟩ := gd_some hf
  obtain ⟨h46, e47, hf⟩ := gu_some hf
  refine sI_aast (n := 5) (t := 104) (ci := 9) (m := 6) (pc' := 49) (by decide +kernel) g43 g44 g45 (by decide) ?_
  rw [← e47]; clear e47
  refine sd_dup (pc' := 50) (by decide +kernel) rfl ?_
  refine sd_iconst (n := 4) (v := 4) (pc' := 51) (by decide +kernel) (by decide) ?_
  obtain ⟨g48, hf⟩ := gd_some hf
  obtain ⟨h49, e50, hf⟩ := gu_some hf
  refine sd_new (idx := 9) (ci := 9) (n := 6) (pc' := 54) h0s (by decide +kernel) nd_X2_9 rfl g48 ?_
  rw [← e50]; clear e50
  refine sd_dup (pc' := 55) (by decide +kernel) rfl ?_
  obtain ⟨h51, q52, hf⟩ := b1_some hf
  obtain ⟨g53, hf⟩ := gd_some hf
  refine sI_call (idx := 11) (b := h46.1) (As := []) (pc' := 58) 0 h0s (T_XA_init (G := G) q52) (by decide +kernel) mv_XA_init (Or.inr ml_X2_11) (by decide +kernel) rfl rfl (Nat.le_of_ble_eq_true rfl) (okL_of g53) rfl ?_
  obtain ⟨g54, hf⟩ := gd_some hf
  obtain ⟨g55, hf⟩ := gd_some hf
  obtain ⟨g56, hf⟩ := gd_some hf
  obtain ⟨h57, e58, hf⟩ := gu_some hf
  refine sI_aast (n := 5) (t := 104) (ci := 9) (m := 6) (pc' := 59) (by decide +kernel) g54 g55 g56 (by decide) ?_
  rw [← e58]; clear e58
  obtain ⟨g59, hf⟩ := gd_some hf
  obtain ⟨h60, e61, hf⟩ := gu_some hf
  refine sI_pr (idx := 12) (ci := 2) (k := 0) (n := 3) (pc' := 62) (by decide +kernel) fl_X2_12 (by decide +kernel) rfl (fun _ => rfl) (fun _ => rfl) ⟨rfl, rfl, rfl⟩ rfl g59 ?_
  rw [← e61]; clear e61
  obtain rfl := Option.some.inj hf
  exact sI_ret h0s (by decide +kernel) rfl hE
theorem oi_X0 : Cond.methodLink RX0 3 Lib.objectInit ∈ sd_tb := sd_mem (i := 275) (by decide +kernel)
theorem nm_X0_11 : Cond.classLink RX0 11 ("[" ++ (FieldType.array .int).toString) ∈ sd_tb ∧ Cond.arrayOver (.array .int) ∈ lw_tbl ∧ Cond.arrayClass .int ∈ sd_tb := ⟨sd_mem (i := 276) (by decide +kernel), List.mem_of_getElem? (i := 277) (by decide +kernel), sd_mem (i := 163) (by decide +kernel)⟩
def M_XH_init : sd_MX := (yX0_init, cX0_init, 1, none, { frames := 1, cells := 21, slots := 140, locals := 40 })
def XH_init_0 (h0 : sd_HX) (this : Nat) : Option sd_HX :=
  gd (okM h0 h0 M_XH_init 20 6) (gu (nwM h0 20) (fun h2 => gd (okO h2 this 0 3) (gu (sd_wr h2 this 0 (some h0.1)) (fun h5 => some h5))))
def XH_init (h0 : sd_HX) (this : Nat) : Option sd_HX := b1 (XH_init_0 h0 this) (fun r => gd (okE h0 r M_XH_init) (some r))
set_option maxHeartbeats 4000000 in
set_option maxRecDepth 100000 in
theorem T_XH_init {G : sd_GX} {h0 : sd_HX} {this : Nat} {r : sd_HX} (hf : XH_init h0 this = some r) : sd_Run G M_XH_init [.ref (G.1 + this)] h0 (none, r) := by
  unfold XH_init at hf
  obtain ⟨r1, q0, hf⟩ := b1_some hf
  obtain ⟨hE, hf⟩ := gd_some hf
  obtain rfl := Option.some.inj hf
  clear hf
  have hf := q0
  refine sd_Run_of (okE_of hE) (by decide +kernel) (Nat.le_of_ble_eq_true rfl) (lo := [(0, .ref (G.1 + this))]) rfl (fun X h0s _ => ?_)
  unfold XH_init_0 at hf
  refine sd_aload_n (k := 0) (i := 0) (q := 0) (pc' := 1) (by decide +kernel) rfl rfl ?_
  refine sd_oinit (idx := 3) (pc' := 4) (by decide +kernel) oi_X0 (by decide) (Nat.le_of_ble_eq_true rfl) ?_
  refine sd_aload_n (k := 0) (i := 0) (q := 0) (pc' := 5) (by decide +kernel) rfl rfl ?_
  refine sd_bipush (n := 20) (v := 20) (pc' := 7) (by decide +kernel) (by decide) ?_
  refine sd_bipush (n := 6) (v := 6) (pc' := 9) (by decide +kernel) (by decide) ?_
  obtain ⟨g1, hf⟩ := gd_some hf
  obtain ⟨h2, e3, hf⟩ := gu_some hf
  refine sd_newM (idx := 11) (N' := 20) (K' := 6) (pc' := 13) h0s (by decide +kernel) nm_X0_11.1 nm_X0_11.2.1 nm_X0_11.2.2 (by decide) (by decide) (by decide) (by decide) (by decide) (by decide) g1 ?_
  rw [← e3]; clear e3
  obtain ⟨g4, hf⟩ := gd_some hf
  obtain ⟨h5, e6, hf⟩ := gu_some hf
  refine sI_pr (idx := 13) (ci := 0) (k := 0) (n := 3) (pc' := 16) (by decide +kernel) fl_X0_13 (by decide +kernel) rfl (fun _ => rfl) (fun _ => rfl) ⟨rfl, rfl, rfl⟩ rfl g4 ?_
  rw [← e6]; clear e6
  obtain rfl := Option.some.inj hf
  exact sI_ret h0s (by decide +kernel) rfl hE
theorem oi_X10 : Cond.methodLink RX10 3 Lib.objectInit ∈ sd_tb := sd_mem (i := 294) (by decide +kernel)
theorem nm_X10_9 : Cond.classLink RX10 9 ("[" ++ (FieldType.array .int).toString) ∈ sd_tb ∧ Cond.arrayOver (.array .int) ∈ lw_tbl ∧ Cond.arrayClass .int ∈ sd_tb := ⟨sd_mem (i := 295) (by decide +kernel), List.mem_of_getElem? (i := 277) (by decide +kernel), sd_mem (i := 163) (by decide +kernel)⟩
def M_XY_init : sd_MX := (yX10_init, cX10_init, 3, none, { frames := 1, cells := 6, slots := 250, locals := 40 })
def XY_init_0 (h0 : sd_HX) (this : Nat) (a0 : Nat) (a1 : Nat) : Option sd_HX :=
  gd (okM h0 h0 M_XY_init 4 60) (gu (nwM h0 4) (fun h2 => gd (okO h2 this 10 6) (gu (sd_wr h2 this 2 (some h0.1)) (fun h5 => gd (okN h0 h5 M_XY_init 100 6) (gu (nw h5) (fun h8 => gd (okO h8 this 10 6) (gu (sd_wr h8 this 3 (some h5.1)) (fun h11 => gd (okO h11 this 10 6) (gu (sd_wi h11 this 5 1) (fun h14 => gd (okO h14 this 10 6) (gu (sd_wr h14 this 0 (some a0)) (fun h17 => gd (okO h17 this 10 6) (gu (sd_wr h17 this 1 (some a1)) (fun h20 => some h20))))))))))))))
def XY_init (h0 : sd_HX) (this : Nat) (a0 : Nat) (a1 : Nat) : Option sd_HX := b1 (XY_init_0 h0 this a0 a1) (fun r => gd (okE h0 r M_XY_init) (some r))
set_option maxHeartbeats 4000000 in
set_option maxRecDepth 100000 in
theorem T_XY_init {G : sd_GX} {h0 : sd_HX} {this : Nat} {a0 : Nat} {a1 : Nat} {r : sd_HX} (hf : XY_init h0 this a0 a1 = some r) : sd_Run G M_XY_init [.ref (G.1 + this), .ref (G.1 + a0), .ref (G.1 + a1)] h0 (none, r) := by
  unfold XY_init at hf
  obtain ⟨r1, q0, hf⟩ := b1_some hf
  obtain ⟨hE, hf⟩ := gd_some hf
  obtain rfl := Option.some.inj hf
  clear hf
  have hf := q0
  refine sd_Run_of (okE_of hE) (by decide +kernel) (Nat.le_of_ble_eq_true rfl) (lo := [(0, .ref (G.1 + this)), (1, .ref (G.1 + a0)), (2, .ref (G.1 + a1))]) rfl (fun X h0s _ => ?_)
  unfold XY_init_0 at hf
  refine sd_aload_n (k := 0) (i := 0) (q := 0) (pc' := 1) (by decide +kernel) rfl rfl ?_
  refine sd_oinit (idx := 3) (pc' := 4) (by decide +kernel) oi_X10 (by decide) (Nat.le_of_ble_eq_true rfl) ?_
  refine sd_aload_n (k := 0) (i := 0) (q := 0) (pc' := 5) (by decide +kernel) rfl rfl ?_
  refine sd_iconst (n := 4) (v := 4) (pc' := 6) (by decide +kernel) (by decide) ?_
  refine sd_bipush (n := 60) (v := 60) (pc' := 8) (by decide +kernel) (by decide) ?_
  obtain ⟨g1, hf⟩ := gd_some hf
  obtain ⟨h2, e3, hf⟩ := gu_some hf
  refine sd_newM (idx := 9) (N' := 4) (K' := 60) (pc' := 12) h0s (by decide +kernel) nm_X10_9.1 nm_X10_9.2.1 nm_X10_9.2.2 (by decide) (by decide) (by decide) (by decide) (by decide) (by decide) g1 ?_
  rw [← e3]; clear e3
  obtain ⟨g4, hf⟩ := gd_some hf
  obtain ⟨h5, e6, hf⟩ := gu_some hf
  refine sI_pr (idx := 11) (ci := 10) (k := 2) (n := 6) (pc' := 15) (by decide +kernel) fl_X10_11 (by decide +kernel) rfl (fun _ => rfl) (fun _ => rfl) ⟨rfl, rfl, rfl⟩ rfl g4 ?_
  rw [← e6]; clear e6
  refine sd_aload_n (k := 0) (i := 0) (q := 0) (pc' := 16) (by decide +kernel) rfl rfl ?_
  refine sd_bipush (n := 6) (v := 6) (pc' := 18) (by decide +kernel) (by decide) ?_
  obtain ⟨g7, hf⟩ := gd_some hf
  obtain ⟨h8, e9, hf⟩ := gu_some hf
  refine sd_newA (k := 0) (N := 6) (pc' := 20) h0s (by decide +kernel) na_int (by decide) (by decide) (by decide) (by decide) g7 ?_
  rw [← e9]; clear e9
  obtain ⟨g10, hf⟩ := gd_some hf
  obtain ⟨h11, e12, hf⟩ := gu_some hf
  refine sI_pr (idx := 16) (ci := 10) (k := 3) (n := 6) (pc' := 23) (by decide +kernel) fl_X10_16 (by decide +kernel) rfl (fun _ => rfl) (fun _ => rfl) ⟨rfl, rfl, rfl⟩ rfl g10 ?_
  rw [← e12]; clear e12
  refine sd_aload_n (k := 0) (i := 0) (q := 0) (pc' := 24) (by decide +kernel) rfl rfl ?_
  refine sd_iconst (n := 1) (v := 1) (pc' := 25) (by decide +kernel) (by decide) ?_
  obtain ⟨g13, hf⟩ := gd_some hf
  obtain ⟨h14, e15, hf⟩ := gu_some hf
  refine sI_pi (idx := 20) (ci := 10) (k := 5) (n := 6) (pc' := 28) (by decide +kernel) fl_X10_20 (Or.inr ⟨by decide +kernel, rfl, by decide⟩) rfl rfl g13 ?_
  rw [← e15]; clear e15
  refine sd_aload_n (k := 0) (i := 0) (q := 0) (pc' := 29) (by decide +kernel) rfl rfl ?_
  refine sd_aload_n (k := 1) (i := 1) (q := 1) (pc' := 30) (by decide +kernel) rfl rfl ?_
  obtain ⟨g16, hf⟩ := gd_some hf
  obtain ⟨h17, e18, hf⟩ := gu_some hf
  refine sI_pr (idx := 24) (ci := 10) (k := 0) (n := 6) (pc' := 33) (by decide +kernel) fl_X10_24 (by decide +kernel) rfl (fun _ => rfl) (fun _ => rfl) ⟨rfl, rfl, rfl⟩ rfl g16 ?_
  rw [← e18]; clear e18
  refine sd_aload_n (k := 0) (i := 0) (q := 0) (pc' := 34) (by decide +kernel) rfl rfl ?_
  refine sd_aload_n (k := 2) (i := 2) (q := 2) (pc' := 35) (by decide +kernel) rfl rfl ?_
  obtain ⟨g19, hf⟩ := gd_some hf
  obtain ⟨h20, e21, hf⟩ := gu_some hf
  refine sI_pr (idx := 28) (ci := 10) (k := 1) (n := 6) (pc' := 38) (by decide +kernel) fl_X10_28 (by decide +kernel) rfl (fun _ => rfl) (fun _ => rfl) ⟨rfl, rfl, rfl⟩ rfl g19 ?_
  rw [← e21]; clear e21
  obtain rfl := Option.some.inj hf
  exact sI_ret h0s (by decide +kernel) rfl hE
theorem oi_X8 : Cond.methodLink RX8 3 Lib.objectInit ∈ sd_tb := sd_mem (i := 329) (by decide +kernel)
def M_XS_init : sd_MX := (yX8_init, cX8_init, 1, none, { frames := 1, cells := 0, slots := 0, locals := 40 })
def XS_init_0 (h0 : sd_HX) (this : Nat) : Option sd_HX :=
  some h0
def XS_init (h0 : sd_HX) (this : Nat) : Option sd_HX := b1 (XS_init_0 h0 this) (fun r => gd (okE h0 r M_XS_init) (some r))
set_option maxHeartbeats 4000000 in
set_option maxRecDepth 100000 in
theorem T_XS_init {G : sd_GX} {h0 : sd_HX} {this : Nat} {r : sd_HX} (hf : XS_init h0 this = some r) : sd_Run G M_XS_init [.ref (G.1 + this)] h0 (none, r) := by
  unfold XS_init at hf
  obtain ⟨r1, q0, hf⟩ := b1_some hf
  obtain ⟨hE, hf⟩ := gd_some hf
  obtain rfl := Option.some.inj hf
  clear hf
  have hf := q0
  refine sd_Run_of (okE_of hE) (by decide +kernel) (Nat.le_of_ble_eq_true rfl) (lo := [(0, .ref (G.1 + this))]) rfl (fun X h0s _ => ?_)
  unfold XS_init_0 at hf
  refine sd_aload_n (k := 0) (i := 0) (q := 0) (pc' := 1) (by decide +kernel) rfl rfl ?_
  refine sd_oinit (idx := 3) (pc' := 4) (by decide +kernel) oi_X8 (by decide) (Nat.le_of_ble_eq_true rfl) ?_
  obtain rfl := Option.some.inj hf
  exact sI_ret h0s (by decide +kernel) rfl hE
theorem oi_X1 : Cond.methodLink RX1 3 Lib.objectInit ∈ sd_tb := sd_mem (i := 322) (by decide +kernel)
theorem nq_X1_11 : Cond.classLink RX1 11 RX8 ∈ sd_tb ∧ Cond.arrayOver (.object RX8) ∈ lw_tbl := ⟨sd_mem (i := 323) (by decide +kernel), List.mem_of_getElem? (i := 324) (by decide +kernel)⟩
theorem nd_X1_11 : sd_nwd RX1 11 8 := ⟨sd_mem (i := 323) (by decide +kernel), sd_mem (i := 325) (by decide +kernel), sd_mem (i := 116) (by decide +kernel), by decide⟩
theorem ml_X1_21 : Cond.methodLinkNest RX1 21 yX8_init RX11 ∈ lw_tbl := List.mem_of_getElem? (i := 326) (by decide +kernel)
theorem mv_XS_init : sd_mI M_XS_init 0 := ⟨sd_mem (i := 327) (by decide +kernel), rfl, rfl, ⟨sd_mem (i := 328) (by decide +kernel), sd_mem (i := 116) (by decide +kernel), by decide +kernel, by decide +kernel, by decide +kernel⟩⟩
def M_XK_init : sd_MX := (yX1_init, cX1_init, 2, none, { frames := 2, cells := 33, slots := 153, locals := 60 })
def XK_init_L34 (h0 : sd_HX) : Nat → sd_HX → Nat → Int32 → Option sd_HX
  | 0, _, _, _ => none
  | n + 1, h, l0, l1 =>
  (if 30 ≤ l1 then some h else gd (okO h l0 1 4) (opR (h.2.2.2 l0 0) (fun w24 => gd (okN h0 h M_XK_init 8 3) (gu (nw h) (fun h27 => b1 (XS_init h27 h.1) (fun h29 => gd (okL h0 h29 M_XK_init) (gd (okO h29 w24 103 30) (gd (sd_inB l1 30) (gd (okO h29 h.1 8 3) (gu (sd_wr h29 w24 (l1 : Int32).toNatClampNeg (some h.1)) (fun h35 => XK_init_L34 h0 n h35 l0 (l1 + 1))))))))))))
set_option maxHeartbeats 4000000 in
set_option maxRecDepth 100000 in
theorem J_XK_init_L34 {G : sd_GX} {X : sd_CX} {h0 : sd_HX} (h0s : (sd_s X).heap.size = G.1 + h0.1) {r : sd_HX} (hE : okE h0 r M_XK_init = true) : ∀ (n : Nat) (h : sd_HX) (l0 : Nat) (l1 : Int32), XK_init_L34 h0 n h l0 l1 = some r → sd_J G X (sd_QR G X M_XK_init (none, r)) M_XK_init 34 [(0, .ref (G.1 + l0)), (1, .int l1)] [] h := by
  intro n
  induction n with
  | zero =>
    intro h l0 l1 hf
    rw [XK_init_L34] at hf
    cases hf
  | succ n ih =>
    intro h l0 l1 hf
    rw [XK_init_L34] at hf
    refine sd_iload_n (k := 1) (i := 1) (q := 1) (pc' := 35) (by decide +kernel) rfl rfl ?_
    refine sd_bipush (n := 30) (v := 30) (pc' := 37) (by decide +kernel) (by decide) ?_
    refine sd_icmp_ge (off := 22) (tgt := 59) (pc' := 40) (by decide +kernel) (fun c22 => ?_) (fun c22 => ?_)
    · replace hf := ite_p c22 hf
      obtain rfl := Option.some.inj hf
      exact sI_ret h0s (by decide +kernel) rfl hE
    · replace hf := ite_n c22 hf
      refine sd_aload_n (k := 0) (i := 0) (q := 0) (pc' := 41) (by decide +kernel) rfl rfl ?_
      obtain ⟨g23, hf⟩ := gd_some hf
      obtain ⟨w24, e25, hf⟩ := opR_some hf
      refine sI_get (idx := 13) (ci := 1) (k := 0) (n := 4) (r := w24) (pc' := 44) (by decide +kernel) fl_X1_13 (by decide +kernel) rfl g23 e25 ?_
      refine sd_iload_n (k := 1) (i := 1) (q := 1) (pc' := 45) (by decide +kernel) rfl rfl ?_
      obtain ⟨g26, hf⟩ := gd_some hf
      obtain ⟨h27, e28, hf⟩ := gu_some hf
      refine sd_new (idx := 11) (ci := 8) (n := 3) (pc' := 48) h0s (by decide +kernel) nd_X1_11 rfl g26 ?_
      rw [← e28]; clear e28
      refine sd_dup (pc' := 49) (by decide +kernel) rfl ?_
      obtain ⟨h29, q30, hf⟩ := b1_some hf
      obtain ⟨g31, hf⟩ := gd_some hf
      refine sI_call (idx := 21) (b := h.1) (As := []) (pc' := 52) 0 h0s (T_XS_init (G := G) q30) (by decide +kernel) mv_XS_init (Or.inr ml_X1_21) (by decide +kernel) rfl rfl (Nat.le_of_ble_eq_true rfl) (okL_of g31) rfl ?_
      obtain ⟨g32, hf⟩ := gd_some hf
      obtain ⟨g33, hf⟩ := gd_some hf
      obtain ⟨g34, hf⟩ := gd_some hf
      obtain ⟨h35, e36, hf⟩ := gu_some hf
      refine sI_aast (n := 30) (t := 103) (ci := 8) (m := 3) (pc' := 53) (by decide +kernel) g32 g33 g34 (by decide) ?_
      rw [← e36]; clear e36
      refine sd_iinc (i := 1) (q := 1) (n := 1) (v := (l1 + 1)) (pc' := 56) (lo' := [(1, .int (l1 + 1)), (0, .ref (G.1 + l0))]) (by decide +kernel) rfl rfl (by decide) rfl ?_
      refine sd_goto (off := -22) (tgt := 34) (pc' := 59) (by decide +kernel) ?_
      refine sd_J.sub (lo' := [(0, .ref (G.1 + l0)), (1, .int (l1 + 1))]) [1, 0] rfl ?_
      exact ih _ _ _ hf
def XK_init_0 (h0 : sd_HX) (this : Nat) : Option sd_HX :=
  gd (okN h0 h0 M_XK_init 103 30) (gu (nw h0) (fun h2 => gd (okO h2 this 1 4) (gu (sd_wr h2 this 0 (some h0.1)) (fun h5 => gd (okN h0 h5 M_XK_init 100 30) (gu (nw h5) (fun h8 => gd (okO h8 this 1 4) (gu (sd_wr h8 this 1 (some h5.1)) (fun h11 => gd (okN h0 h11 M_XK_init 8 3) (gu (nw h11) (fun h14 => b1 (XS_init h14 h11.1) (fun h16 => gd (okL h0 h16 M_XK_init) (gd (okO h16 this 1 4) (gu (sd_wr h16 this 2 (some h11.1)) (fun h20 => XK_init_L34 h0 2000 h20 this 0))))))))))))))
def XK_init (h0 : sd_HX) (this : Nat) : Option sd_HX := b1 (XK_init_0 h0 this) (fun r => gd (okE h0 r M_XK_init) (some r))
set_option maxHeartbeats 4000000 in
set_option maxRecDepth 100000 in
theorem T_XK_init {G : sd_GX} {h0 : sd_HX} {this : Nat} {r : sd_HX} (hf : XK_init h0 this = some r) : sd_Run G M_XK_init [.ref (G.1 + this)] h0 (none, r) := by
  unfold XK_init at hf
  obtain ⟨r1, q0, hf⟩ := b1_some hf
  obtain ⟨hE, hf⟩ := gd_some hf
  obtain rfl := Option.some.inj hf
  clear hf
  have hf := q0
  refine sd_Run_of (okE_of hE) (by decide +kernel) (Nat.le_of_ble_eq_true rfl) (lo := [(0, .ref (G.1 + this))]) rfl (fun X h0s _ => ?_)
  unfold XK_init_0 at hf
  refine sd_aload_n (k := 0) (i := 0) (q := 0) (pc' := 1) (by decide +kernel) rfl rfl ?_
  refine sd_oinit (idx := 3) (pc' := 4) (by decide +kernel) oi_X1 (by decide) (Nat.le_of_ble_eq_true rfl) ?_
  refine sd_aload_n (k := 0) (i := 0) (q := 0) (pc' := 5) (by decide +kernel) rfl rfl ?_
  refine sd_bipush (n := 30) (v := 30) (pc' := 7) (by decide +kernel) (by decide) ?_
  obtain ⟨g1, hf⟩ := gd_some hf
  obtain ⟨h2, e3, hf⟩ := gu_some hf
  refine sd_newQ (idx := 11) (k := 3) (N := 30) (C := RX8) (pc' := 10) h0s (by decide +kernel) nq_X1_11.1 nq_X1_11.2 (by simp) (by decide) (by decide) (by decide) g1 ?_
  rw [← e3]; clear e3
  obtain ⟨g4, hf⟩ := gd_some hf
  obtain ⟨h5, e6, hf⟩ := gu_some hf
  refine sI_pr (idx := 13) (ci := 1) (k := 0) (n := 4) (pc' := 13) (by decide +kernel) fl_X1_13 (by decide +kernel) rfl (fun _ => rfl) (fun _ => rfl) ⟨rfl, rfl, rfl⟩ rfl g4 ?_
  rw [← e6]; clear e6
  refine sd_aload_n (k := 0) (i := 0) (q := 0) (pc' := 14) (by decide +kernel) rfl rfl ?_
  refine sd_bipush (n := 30) (v := 30) (pc' := 16) (by decide +kernel) (by decide) ?_
  obtain ⟨g7, hf⟩ := gd_some hf
  obtain ⟨h8, e9, hf⟩ := gu_some hf
  refine sd_newA (k := 0) (N := 30) (pc' := 18) h0s (by decide +kernel) na_int (by decide) (by decide) (by decide) (by decide) g7 ?_
  rw [← e9]; clear e9
  obtain ⟨g10, hf⟩ := gd_some hf
  obtain ⟨h11, e12, hf⟩ := gu_some hf
  refine sI_pr (idx := 17) (ci := 1) (k := 1) (n := 4) (pc' := 21) (by decide +kernel) fl_X1_17 (by decide +kernel) rfl (fun _ => rfl) (fun _ => rfl) ⟨rfl, rfl, rfl⟩ rfl g10 ?_
  rw [← e12]; clear e12
  refine sd_aload_n (k := 0) (i := 0) (q := 0) (pc' := 22) (by decide +kernel) rfl rfl ?_
  obtain ⟨g13, hf⟩ := gd_some hf
  obtain ⟨h14, e15, hf⟩ := gu_some hf
  refine sd_new (idx := 11) (ci := 8) (n := 3) (pc' := 25) h0s (by decide +kernel) nd_X1_11 rfl g13 ?_
  rw [← e15]; clear e15
  refine sd_dup (pc' := 26) (by decide +kernel) rfl ?_
  obtain ⟨h16, q17, hf⟩ := b1_some hf
  obtain ⟨g18, hf⟩ := gd_some hf
  refine sI_call (idx := 21) (b := h11.1) (As := []) (pc' := 29) 0 h0s (T_XS_init (G := G) q17) (by decide +kernel) mv_XS_init (Or.inr ml_X1_21) (by decide +kernel) rfl rfl (Nat.le_of_ble_eq_true rfl) (okL_of g18) rfl ?_
  obtain ⟨g19, hf⟩ := gd_some hf
  obtain ⟨h20, e21, hf⟩ := gu_some hf
  refine sI_pr (idx := 22) (ci := 1) (k := 2) (n := 4) (pc' := 32) (by decide +kernel) fl_X1_22 (by decide +kernel) rfl (fun _ => rfl) (fun _ => rfl) ⟨rfl, rfl, rfl⟩ rfl g19 ?_
  rw [← e21]; clear e21
  refine sd_iconst (n := 0) (v := 0) (pc' := 33) (by decide +kernel) (by decide) ?_
  refine sd_istore_n (k := 1) (i := 1) (pc' := 34) (lo' := [(1, .int 0), (0, .ref (G.1 + this))]) (by decide +kernel) rfl (by decide) rfl ?_
  refine sd_J.sub (lo' := [(0, .ref (G.1 + this)), (1, .int 0)]) [1, 0] rfl ?_
  exact J_XK_init_L34 h0s hE _ _ _ _ hf
theorem oi_X7 : Cond.methodLink RX7 3 Lib.objectInit ∈ sd_tb := sd_mem (i := 364) (by decide +kernel)
def M_XU_init : sd_MX := (yX7_init, cX7_init, 2, none, { frames := 1, cells := 6, slots := 1518, locals := 40 })
def XU_init_0 (h0 : sd_HX) (this : Nat) (a0 : Nat) : Option sd_HX :=
  gd (okN h0 h0 M_XU_init 100 6) (gu (nw h0) (fun h2 => gd (okO h2 this 7 11) (gu (sd_wr h2 this 1 (some h0.1)) (fun h5 => gd (okN h0 h5 M_XU_init 101 1440) (gu (nw h5) (fun h8 => gd (okO h8 this 7 11) (gu (sd_wr h8 this 2 (some h5.1)) (fun h11 => gd (okN h0 h11 M_XU_init 100 60) (gu (nw h11) (fun h14 => gd (okO h14 this 7 11) (gu (sd_wr h14 this 3 (some h11.1)) (fun h17 => gd (okN h0 h17 M_XU_init 100 4) (gu (nw h17) (fun h20 => gd (okO h20 this 7 11) (gu (sd_wr h20 this 4 (some h17.1)) (fun h23 => gd (okN h0 h23 M_XU_init 100 4) (gu (nw h23) (fun h26 => gd (okO h26 this 7 11) (gu (sd_wr h26 this 5 (some h23.1)) (fun h29 => gd (okN h0 h29 M_XU_init 100 4) (gu (nw h29) (fun h32 => gd (okO h32 this 7 11) (gu (sd_wr h32 this 6 (some h29.1)) (fun h35 => gd (okO h35 this 7 11) (gu (sd_wi h35 this 9 1) (fun h38 => gd (okO h38 this 7 11) (gu (sd_wr h38 this 0 (some a0)) (fun h41 => some h41))))))))))))))))))))))))))))
def XU_init (h0 : sd_HX) (this : Nat) (a0 : Nat) : Option sd_HX := b1 (XU_init_0 h0 this a0) (fun r => gd (okE h0 r M_XU_init) (some r))
set_option maxHeartbeats 4000000 in
set_option maxRecDepth 100000 in
theorem T_XU_init {G : sd_GX} {h0 : sd_HX} {this : Nat} {a0 : Nat} {r : sd_HX} (hf : XU_init h0 this a0 = some r) : sd_Run G M_XU_init [.ref (G.1 + this), .ref (G.1 + a0)] h0 (none, r) := by
  unfold XU_init at hf
  obtain ⟨r1, q0, hf⟩ := b1_some hf
  obtain ⟨hE, hf⟩ := gd_some hf
  obtain rfl := Option.some.inj hf
  clear hf
  have hf := q0
  refine sd_Run_of (okE_of hE) (by decide +kernel) (Nat.le_of_ble_eq_true rfl) (lo := [(0, .ref (G.1 + this)), (1, .ref (G.1 + a0))]) rfl (fun X h0s _ => ?_)
  unfold XU_init_0 at hf
  refine sd_aload_n (k := 0) (i := 0) (q := 0) (pc' := 1) (by decide +kernel) rfl rfl ?_
  refine sd_oinit (idx := 3) (pc' := 4) (by decide +kernel) oi_X7 (by decide) (Nat.le_of_ble_eq_true rfl) ?_
  refine sd_aload_n (k := 0) (i := 0) (q := 0) (pc' := 5) (by decide +kernel) rfl rfl ?_
  refine sd_bipush (n := 6) (v := 6) (pc' := 7) (by decide +kernel) (by decide) ?_
  obtain ⟨g1, hf⟩ := gd_some hf
  obtain ⟨h2, e3, hf⟩ := gu_some hf
  refine sd_newA (k := 0) (N := 6) (pc' := 9) h0s (by decide +kernel) na_int (by decide) (by decide) (by decide) (by decide) g1 ?_
  rw [← e3]; clear e3
  obtain ⟨g4, hf⟩ := gd_some hf
  obtain ⟨h5, e6, hf⟩ := gu_some hf
  refine sI_pr (idx := 9) (ci := 7) (k := 1) (n := 11) (pc' := 12) (by decide +kernel) fl_X7_9 (by decide +kernel) rfl (fun _ => rfl) (fun _ => rfl) ⟨rfl, rfl, rfl⟩ rfl g4 ?_
  rw [← e6]; clear e6
  refine sd_aload_n (k := 0) (i := 0) (q := 0) (pc' := 13) (by decide +kernel) rfl rfl ?_
  refine sd_sipush (n := 1440) (v := 1440) (pc' := 16) (by decide +kernel) (by decide) ?_
  obtain ⟨g7, hf⟩ := gd_some hf
  obtain ⟨h8, e9, hf⟩ := gu_some hf
  refine sd_newA (k := 1) (N := 1440) (pc' := 18) h0s (by decide +kernel) na_double (by decide) (by decide) (by decide) (by decide) g7 ?_
  rw [← e9]; clear e9
  obtain ⟨g10, hf⟩ := gd_some hf
  obtain ⟨h11, e12, hf⟩ := gu_some hf
  refine sI_pr (idx := 15) (ci := 7) (k := 2) (n := 11) (pc' := 21) (by decide +kernel) fl_X7_15 (by decide +kernel) rfl (fun _ => rfl) (fun _ => rfl) ⟨rfl, rfl, rfl⟩ rfl g10 ?_
  rw [← e12]; clear e12
  refine sd_aload_n (k := 0) (i := 0) (q := 0) (pc' := 22) (by decide +kernel) rfl rfl ?_
  refine sd_bipush (n := 60) (v := 60) (pc' := 24) (by decide +kernel) (by decide) ?_
  obtain ⟨g13, hf⟩ := gd_some hf
  obtain ⟨h14, e15, hf⟩ := gu_some hf
  refine sd_newA (k := 0) (N := 60) (pc' := 26) h0s (by decide +kernel) na_int (by decide) (by decide) (by decide) (by decide) g13 ?_
  rw [← e15]; clear e15
  obtain ⟨g16, hf⟩ := gd_some hf
  obtain ⟨h17, e18, hf⟩ := gu_some hf
  refine sI_pr (idx := 19) (ci := 7) (k := 3) (n := 11) (pc' := 29) (by decide +kernel) fl_X7_19 (by decide +kernel) rfl (fun _ => rfl) (fun _ => rfl) ⟨rfl, rfl, rfl⟩ rfl g16 ?_
  rw [← e18]; clear e18
  refine sd_aload_n (k := 0) (i := 0) (q := 0) (pc' := 30) (by decide +kernel) rfl rfl ?_
  refine sd_iconst (n := 4) (v := 4) (pc' := 31) (by decide +kernel) (by decide) ?_
  obtain ⟨g19, hf⟩ := gd_some hf
  obtain ⟨h20, e21, hf⟩ := gu_some hf
  refine sd_newA (k := 0) (N := 4) (pc' := 33) h0s (by decide +kernel) na_int (by decide) (by decide) (by decide) (by decide) g19 ?_
  rw [← e21]; clear e21
  obtain ⟨g22, hf⟩ := gd_some hf
  obtain ⟨h23, e24, hf⟩ := gu_some hf
  refine sI_pr (idx := 22) (ci := 7) (k := 4) (n := 11) (pc' := 36) (by decide +kernel) fl_X7_22 (by decide +kernel) rfl (fun _ => rfl) (fun _ => rfl) ⟨rfl, rfl, rfl⟩ rfl g22 ?_
  rw [← e24]; clear e24
  refine sd_aload_n (k := 0) (i := 0) (q := 0) (pc' := 37) (by decide +kernel) rfl rfl ?_
  refine sd_iconst (n := 4) (v := 4) (pc' := 38) (by decide +kernel) (by decide) ?_
  obtain ⟨g25, hf⟩ := gd_some hf
  obtain ⟨h26, e27, hf⟩ := gu_some hf
  refine sd_newA (k := 0) (N := 4) (pc' := 40) h0s (by decide +kernel) na_int (by decide) (by decide) (by decide) (by decide) g25 ?_
  rw [← e27]; clear e27
  obtain ⟨g28, hf⟩ := gd_some hf
  obtain ⟨h29, e30, hf⟩ := gu_some hf
  refine sI_pr (idx := 25) (ci := 7) (k := 5) (n := 11) (pc' := 43) (by decide +kernel) fl_X7_25 (by decide +kernel) rfl (fun _ => rfl) (fun _ => rfl) ⟨rfl, rfl, rfl⟩ rfl g28 ?_
  rw [← e30]; clear e30
  refine sd_aload_n (k := 0) (i := 0) (q := 0) (pc' := 44) (by decide +kernel) rfl rfl ?_
  refine sd_iconst (n := 4) (v := 4) (pc' := 45) (by decide +kernel) (by decide) ?_
  obtain ⟨g31, hf⟩ := gd_some hf
  obtain ⟨h32, e33, hf⟩ := gu_some hf
  refine sd_newA (k := 0) (N := 4) (pc' := 47) h0s (by decide +kernel) na_int (by decide) (by decide) (by decide) (by decide) g31 ?_
  rw [← e33]; clear e33
  obtain ⟨g34, hf⟩ := gd_some hf
  obtain ⟨h35, e36, hf⟩ := gu_some hf
  refine sI_pr (idx := 28) (ci := 7) (k := 6) (n := 11) (pc' := 50) (by decide +kernel) fl_X7_28 (by decide +kernel) rfl (fun _ => rfl) (fun _ => rfl) ⟨rfl, rfl, rfl⟩ rfl g34 ?_
  rw [← e36]; clear e36
  refine sd_aload_n (k := 0) (i := 0) (q := 0) (pc' := 51) (by decide +kernel) rfl rfl ?_
  refine sd_iconst (n := 1) (v := 1) (pc' := 52) (by decide +kernel) (by decide) ?_
  obtain ⟨g37, hf⟩ := gd_some hf
  obtain ⟨h38, e39, hf⟩ := gu_some hf
  refine sI_pi (idx := 31) (ci := 7) (k := 9) (n := 11) (pc' := 55) (by decide +kernel) fl_X7_31 (Or.inl ⟨by decide +kernel, rfl⟩) rfl rfl g37 ?_
  rw [← e39]; clear e39
  refine sd_aload_n (k := 0) (i := 0) (q := 0) (pc' := 56) (by decide +kernel) rfl rfl ?_
  refine sd_aload_n (k := 1) (i := 1) (q := 1) (pc' := 57) (by decide +kernel) rfl rfl ?_
  obtain ⟨g40, hf⟩ := gd_some hf
  obtain ⟨h41, e42, hf⟩ := gu_some hf
  refine sI_pr (idx := 35) (ci := 7) (k := 0) (n := 11) (pc' := 60) (by decide +kernel) fl_X7_35 (by decide +kernel) rfl (fun _ => rfl) (fun _ => rfl) ⟨rfl, rfl, rfl⟩ rfl g40 ?_
  rw [← e42]; clear e42
  obtain rfl := Option.some.inj hf
  exact sI_ret h0s (by decide +kernel) rfl hE
theorem oi_X4 : Cond.methodLink RX4 3 Lib.objectInit ∈ sd_tb := sd_mem (i := 404) (by decide +kernel)
def M_XO_init : sd_MX := (yX4_init, cX4_init, 1, none, { frames := 1, cells := 2, slots := 13, locals := 40 })
def XO_init_0 (h0 : sd_HX) (this : Nat) : Option sd_HX :=
  gd (okN h0 h0 M_XO_init 100 3) (gu (nw h0) (fun h2 => gd (okO h2 this 4 4) (gu (sd_wr h2 this 0 (some h0.1)) (fun h5 => gd (okN h0 h5 M_XO_init 100 10) (gu (nw h5) (fun h8 => gd (okO h8 this 4 4) (gu (sd_wr h8 this 1 (some h5.1)) (fun h11 => some h11))))))))
def XO_init (h0 : sd_HX) (this : Nat) : Option sd_HX := b1 (XO_init_0 h0 this) (fun r => gd (okE h0 r M_XO_init) (some r))
set_option maxHeartbeats 4000000 in
set_option maxRecDepth 100000 in
theorem T_XO_init {G : sd_GX} {h0 : sd_HX} {this : Nat} {r : sd_HX} (hf : XO_init h0 this = some r) : sd_Run G M_XO_init [.ref (G.1 + this)] h0 (none, r) := by
  unfold XO_init at hf
  obtain ⟨r1, q0, hf⟩ := b1_some hf
  obtain ⟨hE, hf⟩ := gd_some hf
  obtain rfl := Option.some.inj hf
  clear hf
  have hf := q0
  refine sd_Run_of (okE_of hE) (by decide +kernel) (Nat.le_of_ble_eq_true rfl) (lo := [(0, .ref (G.1 + this))]) rfl (fun X h0s _ => ?_)
  unfold XO_init_0 at hf
  refine sd_aload_n (k := 0) (i := 0) (q := 0) (pc' := 1) (by decide +kernel) rfl rfl ?_
  refine sd_oinit (idx := 3) (pc' := 4) (by decide +kernel) oi_X4 (by decide) (Nat.le_of_ble_eq_true rfl) ?_
  refine sd_aload_n (k := 0) (i := 0) (q := 0) (pc' := 5) (by decide +kernel) rfl rfl ?_
  refine sd_iconst (n := 3) (v := 3) (pc' := 6) (by decide +kernel) (by decide) ?_
  obtain ⟨g1, hf⟩ := gd_some hf
  obtain ⟨h2, e3, hf⟩ := gu_some hf
  refine sd_newA (k := 0) (N := 3) (pc' := 8) h0s (by decide +kernel) na_int (by decide) (by decide) (by decide) (by decide) g1 ?_
  rw [← e3]; clear e3
  obtain ⟨g4, hf⟩ := gd_some hf
  obtain ⟨h5, e6, hf⟩ := gu_some hf
  refine sI_pr (idx := 9) (ci := 4) (k := 0) (n := 4) (pc' := 11) (by decide +kernel) fl_X4_9 (by decide +kernel) rfl (fun _ => rfl) (fun _ => rfl) ⟨rfl, rfl, rfl⟩ rfl g4 ?_
  rw [← e6]; clear e6
  refine sd_aload_n (k := 0) (i := 0) (q := 0) (pc' := 12) (by decide +kernel) rfl rfl ?_
  refine sd_bipush (n := 10) (v := 10) (pc' := 14) (by decide +kernel) (by decide) ?_
  obtain ⟨g7, hf⟩ := gd_some hf
  obtain ⟨h8, e9, hf⟩ := gu_some hf
  refine sd_newA (k := 0) (N := 10) (pc' := 16) h0s (by decide +kernel) na_int (by decide) (by decide) (by decide) (by decide) g7 ?_
  rw [← e9]; clear e9
  obtain ⟨g10, hf⟩ := gd_some hf
  obtain ⟨h11, e12, hf⟩ := gu_some hf
  refine sI_pr (idx := 15) (ci := 4) (k := 1) (n := 4) (pc' := 19) (by decide +kernel) fl_X4_15 (by decide +kernel) rfl (fun _ => rfl) (fun _ => rfl) ⟨rfl, rfl, rfl⟩ rfl g10 ?_
  rw [← e12]; clear e12
  obtain rfl := Option.some.inj hf
  exact sI_ret h0s (by decide +kernel) rfl hE
theorem oi_X11 : Cond.methodLink RX11 3 Lib.objectInit ∈ sd_tb := sd_mem (i := 133) (by decide +kernel)
theorem nd_X11_9 : sd_nwd RX11 9 6 := ⟨sd_mem (i := 136) (by decide +kernel), sd_mem (i := 137) (by decide +kernel), sd_mem (i := 109) (by decide +kernel), by decide⟩
theorem ml_X11_11 : Cond.methodLink RX11 11 yX6_init ∈ sd_tb := sd_mem (i := 138) (by decide +kernel)
theorem mv_XR_init : sd_mI M_XR_init 0 := ⟨sd_mem (i := 139) (by decide +kernel), rfl, rfl, ⟨sd_mem (i := 140) (by decide +kernel), sd_mem (i := 109) (by decide +kernel), by decide +kernel, by decide +kernel, by decide +kernel⟩⟩
theorem nd_X11_18 : sd_nwd RX11 18 2 := ⟨sd_mem (i := 165) (by decide +kernel), sd_mem (i := 166) (by decide +kernel), sd_mem (i := 110) (by decide +kernel), by decide⟩
theorem ml_X11_20 : Cond.methodLinkNest RX11 20 yX2_init RX11 ∈ lw_tbl := List.mem_of_getElem? (i := 167) (by decide +kernel)
theorem mv_XL_init : sd_mI M_XL_init 0 := ⟨sd_mem (i := 168) (by decide +kernel), rfl, rfl, ⟨sd_mem (i := 169) (by decide +kernel), sd_mem (i := 110) (by decide +kernel), by decide +kernel, by decide +kernel, by decide +kernel⟩⟩
theorem nd_X11_25 : sd_nwd RX11 25 0 := ⟨sd_mem (i := 270) (by decide +kernel), sd_mem (i := 271) (by decide +kernel), sd_mem (i := 113) (by decide +kernel), by decide⟩
theorem ml_X11_27 : Cond.methodLinkNest RX11 27 yX0_init RX11 ∈ lw_tbl := List.mem_of_getElem? (i := 272) (by decide +kernel)
theorem mv_XH_init : sd_mI M_XH_init 0 := ⟨sd_mem (i := 273) (by decide +kernel), rfl, rfl, ⟨sd_mem (i := 274) (by decide +kernel), sd_mem (i := 113) (by decide +kernel), by decide +kernel, by decide +kernel, by decide +kernel⟩⟩
theorem nd_X11_36 : sd_nwd RX11 36 10 := ⟨sd_mem (i := 289) (by decide +kernel), sd_mem (i := 290) (by decide +kernel), sd_mem (i := 114) (by decide +kernel), by decide⟩
theorem ml_X11_38 : Cond.methodLink RX11 38 yX10_init ∈ sd_tb := sd_mem (i := 291) (by decide +kernel)
theorem mv_XY_init : sd_mI M_XY_init 2 := ⟨sd_mem (i := 292) (by decide +kernel), rfl, rfl, ⟨sd_mem (i := 293) (by decide +kernel), sd_mem (i := 114) (by decide +kernel), by decide +kernel, by decide +kernel, by decide +kernel⟩⟩
theorem nd_X11_45 : sd_nwd RX11 45 1 := ⟨sd_mem (i := 317) (by decide +kernel), sd_mem (i := 318) (by decide +kernel), sd_mem (i := 115) (by decide +kernel), by decide⟩
theorem ml_X11_47 : Cond.methodLink RX11 47 yX1_init ∈ sd_tb := sd_mem (i := 319) (by decide +kernel)
theorem mv_XK_init : sd_mI M_XK_init 0 := ⟨sd_mem (i := 320) (by decide +kernel), rfl, rfl, ⟨sd_mem (i := 321) (by decide +kernel), sd_mem (i := 115) (by decide +kernel), by decide +kernel, by decide +kernel, by decide +kernel⟩⟩
theorem nd_X11_52 : sd_nwd RX11 52 8 := ⟨sd_mem (i := 357) (by decide +kernel), sd_mem (i := 325) (by decide +kernel), sd_mem (i := 116) (by decide +kernel), by decide⟩
theorem ml_X11_54 : Cond.methodLinkNest RX11 54 yX8_init RX11 ∈ lw_tbl := List.mem_of_getElem? (i := 358) (by decide +kernel)
theorem nd_X11_65 : sd_nwd RX11 65 7 := ⟨sd_mem (i := 359) (by decide +kernel), sd_mem (i := 360) (by decide +kernel), sd_mem (i := 117) (by decide +kernel), by decide⟩
theorem ml_X11_67 : Cond.methodLink RX11 67 yX7_init ∈ sd_tb := sd_mem (i := 361) (by decide +kernel)
theorem mv_XU_init : sd_mI M_XU_init 1 := ⟨sd_mem (i := 362) (by decide +kernel), rfl, rfl, ⟨sd_mem (i := 363) (by decide +kernel), sd_mem (i := 117) (by decide +kernel), by decide +kernel, by decide +kernel, by decide +kernel⟩⟩
theorem nd_X11_74 : sd_nwd RX11 74 4 := ⟨sd_mem (i := 399) (by decide +kernel), sd_mem (i := 400) (by decide +kernel), sd_mem (i := 118) (by decide +kernel), by decide⟩
theorem ml_X11_76 : Cond.methodLinkNest RX11 76 yX4_init RX11 ∈ lw_tbl := List.mem_of_getElem? (i := 401) (by decide +kernel)
theorem mv_XO_init : sd_mI M_XO_init 0 := ⟨sd_mem (i := 402) (by decide +kernel), rfl, rfl, ⟨sd_mem (i := 403) (by decide +kernel), sd_mem (i := 118) (by decide +kernel), by decide +kernel, by decide +kernel, by decide +kernel⟩⟩
def M_XT_init : sd_MX := (yX11_init, cX11_init, 1, none, { frames := 4, cells := 125, slots := 3175, locals := 100 })
def XT_init_0 (h0 : sd_HX) (this : Nat) : Option sd_HX :=
  gd (okN h0 h0 M_XT_init 6 4) (gu (nw h0) (fun h2 => b1 (XR_init h2 h0.1) (fun h4 => gd (okL h0 h4 M_XT_init) (gd (okO h4 this 11 17) (gu (sd_wr h4 this 0 (some h0.1)) (fun h8 => gd (okN h0 h8 M_XT_init 2 3) (gu (nw h8) (fun h11 => b1 (XL_init h11 h8.1) (fun h13 => gd (okL h0 h13 M_XT_init) (gd (okO h13 this 11 17) (gu (sd_wr h13 this 1 (some h8.1)) (fun h17 => gd (okN h0 h17 M_XT_init 0 3) (gu (nw h17) (fun h20 => b1 (XH_init h20 h17.1) (fun h22 => gd (okL h0 h22 M_XT_init) (gd (okO h22 this 11 17) (gu (sd_wr h22 this 2 (some h17.1)) (fun h26 => gd (okN h0 h26 M_XT_init 100 5) (gu (nw h26) (fun h29 => gd (okO h29 this 11 17) (gu (sd_wr h29 this 3 (some h26.1)) (fun h32 => gd (okN h0 h32 M_XT_init 10 6) (gu (nw h32) (fun h35 => gd (okO h35 this 11 17) (opR (h35.2.2.2 this 0) (fun w38 => gd (okO h35 this 11 17) (opR (h35.2.2.2 this 1) (fun w41 => b1 (XY_init h35 h32.1 w38 w41) (fun h43 => gd (okL h0 h43 M_XT_init) (gd (okO h43 this 11 17) (gu (sd_wr h43 this 4 (some h32.1)) (fun h47 => gd (okN h0 h47 M_XT_init 1 4) (gu (nw h47) (fun h50 => b1 (XK_init h50 h47.1) (fun h52 => gd (okL h0 h52 M_XT_init) (gd (okO h52 this 11 17) (gu (sd_wr h52 this 5 (some h47.1)) (fun h56 => gd (okN h0 h56 M_XT_init 8 3) (gu (nw h56) (fun h59 => b1 (XS_init h59 h56.1) (fun h61 => gd (okL h0 h61 M_XT_init) (gd (okO h61 this 11 17) (gu (sd_wr h61 this 6 (some h56.1)) (fun h65 => gd (okN h0 h65 M_XT_init 8 3) (gu (nw h65) (fun h68 => b1 (XS_init h68 h65.1) (fun h70 => gd (okL h0 h70 M_XT_init) (gd (okO h70 this 11 17) (gu (sd_wr h70 this 7 (some h65.1)) (fun h74 => gd (okN h0 h74 M_XT_init 8 3) (gu (nw h74) (fun h77 => b1 (XS_init h77 h74.1) (fun h79 => gd (okL h0 h79 M_XT_init) (gd (okO h79 this 11 17) (gu (sd_wr h79 this 8 (some h74.1)) (fun h83 => gd (okN h0 h83 M_XT_init 7 11) (gu (nw h83) (fun h86 => gd (okO h86 this 11 17) (opR (h86.2.2.2 this 1) (fun w89 => b1 (XU_init h86 h83.1 w89) (fun h91 => gd (okL h0 h91 M_XT_init) (gd (okO h91 this 11 17) (gu (sd_wr h91 this 9 (some h83.1)) (fun h95 => gd (okN h0 h95 M_XT_init 4 4) (gu (nw h95) (fun h98 => b1 (XO_init h98 h95.1) (fun h100 => gd (okL h0 h100 M_XT_init) (gd (okO h100 this 11 17) (gu (sd_wr h100 this 10 (some h95.1)) (fun h104 => gd (okN h0 h104 M_XT_init 6 4) (gu (nw h104) (fun h107 => b1 (XR_init h107 h104.1) (fun h109 => gd (okL h0 h109 M_XT_init) (gd (okO h109 this 11 17) (gu (sd_wr h109 this 11 (some h104.1)) (fun h113 => gd (okN h0 h113 M_XT_init 6 4) (gu (nw h113) (fun h116 => b1 (XR_init h116 h113.1) (fun h118 => gd (okL h0 h118 M_XT_init) (gd (okO h118 this 11 17) (gu (sd_wr h118 this 12 (some h113.1)) (fun h122 => gd (okN h0 h122 M_XT_init 4 4) (gu (nw h122) (fun h125 => b1 (XO_init h125 h122.1) (fun h127 => gd (okL h0 h127 M_XT_init) (gd (okO h127 this 11 17) (gu (sd_wr h127 this 13 (some h122.1)) (fun h131 => gd (okN h0 h131 M_XT_init 4 4) (gu (nw h131) (fun h134 => b1 (XO_init h134 h131.1) (fun h136 => gd (okL h0 h136 M_XT_init) (gd (okO h136 this 11 17) (gu (sd_wr h136 this 14 (some h131.1)) (fun h140 => some h140))))))))))))))))))))))))))))))))))))))))))))))))))))))))))))))))))))))))))))))))))))))))))))))
def XT_init (h0 : sd_HX) (this : Nat) : Option sd_HX := b1 (XT_init_0 h0 this) (fun r => gd (okE h0 r M_XT_init) (some r))
set_option maxHeartbeats 4000000 in
set_option maxRecDepth 100000 in
theorem T_XT_init {G : sd_GX} {h0 : sd_HX} {this : Nat} {r : sd_HX} (hf : XT_init h0 this = some r) : sd_Run G M_XT_init [.ref (G.1 + this)] h0 (none, r) := by
  unfold XT_init at hf
  obtain ⟨r1, q0, hf⟩ := b1_some hf
  obtain ⟨hE, hf⟩ := gd_some hf
  obtain rfl := Option.some.inj hf
  clear hf
  have hf := q0
  refine sd_Run_of (okE_of hE) (by decide +kernel) (Nat.le_of_ble_eq_true rfl) (lo := [(0, .ref (G.1 + this))]) rfl (fun X h0s _ => ?_)
  unfold XT_init_0 at hf
  refine sd_aload_n (k := 0) (i := 0) (q := 0) (pc' := 1) (by decide +kernel) rfl rfl ?_
  refine sd_oinit (idx := 3) (pc' := 4) (by decide +kernel) oi_X11 (by decide) (Nat.le_of_ble_eq_true rfl) ?_
  refine sd_aload_n (k := 0) (i := 0) (q := 0) (pc' := 5) (by decide +kernel) rfl rfl ?_
  obtain ⟨g1, hf⟩ := gd_some hf
  obtain ⟨h2, e3, hf⟩ := gu_some hf
  refine sd_new (idx := 9) (ci := 6) (n := 4) (pc' := 8) h0s (by decide +kernel) nd_X11_9 rfl g1 ?_
  rw [← e3]; clear e3
  refine sd_dup (pc' := 9) (by decide +kernel) rfl ?_
  obtain ⟨h4, q5, hf⟩ := b1_some hf
  obtain ⟨g6, hf⟩ := gd_some hf
  refine sI_call (idx := 11) (b := h0.1) (As := []) (pc' := 12) 0 h0s (T_XR_init (G := G) q5) (by decide +kernel) mv_XR_init (Or.inl ml_X11_11) (by decide +kernel) rfl rfl (Nat.le_of_ble_eq_true rfl) (okL_of g6) rfl ?_
  obtain ⟨g7, hf⟩ := gd_some hf
  obtain ⟨h8, e9, hf⟩ := gu_some hf
  refine sI_pr (idx := 12) (ci := 11) (k := 0) (n := 17) (pc' := 15) (by decide +kernel) fl_X11_12 (by decide +kernel) rfl (fun _ => rfl) (fun _ => rfl) ⟨rfl, rfl, rfl⟩ rfl g7 ?_
  rw [← e9]; clear e9
  refine sd_aload_n (k := 0) (i := 0) (q := 0) (pc' := 16) (by decide +kernel) rfl rfl ?_
  obtain ⟨g10, hf⟩ := gd_some hf
  obtain ⟨h11, e12, hf⟩ := gu_some hf
  refine sd_new (idx := 18) (ci := 2) (n := 3) (pc' := 19) h0s (by decide +kernel) nd_X11_18 rfl g10 ?_
  rw [← e12]; clear e12
  refine sd_dup (pc' := 20) (by decide +kernel) rfl ?_
  obtain ⟨h13, q14, hf⟩ := b1_some hf
  obtain ⟨g15, hf⟩ := gd_some hf
  refine sI_call (idx := 20) (b := h8.1) (As := []) (pc' := 23) 0 h0s (T_XL_init (G := G) q14) (by decide +kernel) mv_XL_init (Or.inr ml_X11_20) (by decide +kernel) rfl rfl (Nat.le_of_ble_eq_true rfl) (okL_of g15) rfl ?_
  obtain ⟨g16, hf⟩ := gd_some hf
  obtain ⟨h17, e18, hf⟩ := gu_some hf
  refine sI_pr (idx := 21) (ci := 11) (k := 1) (n := 17) (pc' := 26) (by decide +kernel) fl_X11_21 (by decide +kernel) rfl (fun _ => rfl) (fun _ => rfl) ⟨rfl, rfl, rfl⟩ rfl g16 ?_
  rw [← e18]; clear e18
  refine sd_aload_n (k := 0) (i := 0) (q := 0) (pc' := 27) (by decide +kernel) rfl rfl ?_
  obtain ⟨g19, hf⟩ := gd_some hf
  obtain ⟨h20, e21, hf⟩ := gu_some hf
  refine sd_new (idx := 25) (ci := 0) (n := 3) (pc' := 30) h0s (by decide +kernel) nd_X11_25 rfl g19 ?_
  rw [← e21]; clear e21
  refine sd_dup (pc' := 31) (by decide +kernel) rfl ?_
  obtain ⟨h22, q23, hf⟩ := b1_some hf
  obtain ⟨g24, hf⟩ := gd_some hf
  refine sI_call (idx := 27) (b := h17.1) (As := []) (pc' := 34) 0 h0s (T_XH_init (G := G) q23) (by decide +kernel) mv_XH_init (Or.inr ml_X11_27) (by decide +kernel) rfl rfl (Nat.le_of_ble_eq_true rfl) (okL_of g24) rfl ?_
  obtain ⟨g25, hf⟩ := gd_some hf
  obtain ⟨h26, e27, hf⟩ := gu_some hf
  refine sI_pr (idx := 28) (ci := 11) (k := 2) (n := 17) (pc' := 37) (by decide +kernel) fl_X11_28 (by decide +kernel) rfl (fun _ => rfl) (fun _ => rfl) ⟨rfl, rfl, rfl⟩ rfl g25 ?_
  rw [← e27]; clear e27
  refine sd_aload_n (k := 0) (i := 0) (q := 0) (pc' := 38) (by decide +kernel) rfl rfl ?_
  refine sd_iconst (n := 5) (v := 5) (pc' := 39) (by decide +kernel) (by decide) ?_
  obtain ⟨g28, hf⟩ := gd_some hf
  obtain ⟨h29, e30, hf⟩ := gu_some hf
  refine sd_newA (k := 0) (N := 5) (pc' := 41) h0s (by decide +kernel) na_int (by decide) (by decide) (by decide) (by decide) g28 ?_
  rw [← e30]; clear e30
  obtain ⟨g31, hf⟩ := gd_some hf
  obtain ⟨h32, e33, hf⟩ := gu_some hf
  refine sI_pr (idx := 32) (ci := 11) (k := 3) (n := 17) (pc' := 44) (by decide +kernel) fl_X11_32 (by decide +kernel) rfl (fun _ => rfl) (fun _ => rfl) ⟨rfl, rfl, rfl⟩ rfl g31 ?_
  rw [← e33]; clear e33
  refine sd_aload_n (k := 0) (i := 0) (q := 0) (pc' := 45) (by decide +kernel) rfl rfl ?_
  obtain ⟨g34, hf⟩ := gd_some hf
  obtain ⟨h35, e36, hf⟩ := gu_some hf
  refine sd_new (idx := 36) (ci := 10) (n := 6) (pc' := 48) h0s (by decide +kernel) nd_X11_36 rfl g34 ?_
  rw [← e36]; clear e36
  refine sd_dup (pc' := 49) (by decide +kernel) rfl ?_
  refine sd_aload_n (k := 0) (i := 0) (q := 0) (pc' := 50) (by decide +kernel) rfl rfl ?_
  obtain ⟨g37, hf⟩ := gd_some hf
  obtain ⟨w38, e39, hf⟩ := opR_some hf
  refine sI_get (idx := 12) (ci := 11) (k := 0) (n := 17) (r := w38) (pc' := 53) (by decide +kernel) fl_X11_12 (by decide +kernel) rfl g37 e39 ?_
  refine sd_aload_n (k := 0) (i := 0) (q := 0) (pc' := 54) (by decide +kernel) rfl rfl ?_
  obtain ⟨g40, hf⟩ := gd_some hf
  obtain ⟨w41, e42, hf⟩ := opR_some hf
  refine sI_get (idx := 21) (ci := 11) (k := 1) (n := 17) (r := w41) (pc' := 57) (by decide +kernel) fl_X11_21 (by decide +kernel) rfl g40 e42 ?_
  obtain ⟨h43, q44, hf⟩ := b1_some hf
  obtain ⟨g45, hf⟩ := gd_some hf
  refine sI_call (idx := 38) (b := h32.1) (As := [.ref (G.1 + w38), .ref (G.1 + w41)]) (pc' := 60) 2 h0s (T_XY_init (G := G) q44) (by decide +kernel) mv_XY_init (Or.inl ml_X11_38) (by decide +kernel) rfl rfl (Nat.le_of_ble_eq_true rfl) (okL_of g45) rfl ?_
  obtain ⟨g46, hf⟩ := gd_some hf
  obtain ⟨h47, e48, hf⟩ := gu_some hf
  refine sI_pr (idx := 41) (ci := 11) (k := 4) (n := 17) (pc' := 63) (by decide +kernel) fl_X11_41 (by decide +kernel) rfl (fun _ => rfl) (fun _ => rfl) ⟨rfl, rfl, rfl⟩ rfl g46 ?_
  rw [← e48]; clear e48
  refine sd_aload_n (k := 0) (i := 0) (q := 0) (pc' := 64) (by decide +kernel) rfl rfl ?_
  obtain ⟨g49, hf⟩ := gd_some hf
  obtain ⟨h50, e51, hf⟩ := gu_some hf
  refine sd_new (idx := 45) (ci := 1) (n := 4) (pc' := 67) h0s (by decide +kernel) nd_X11_45 rfl g49 ?_
  rw [← e51]; clear e51
  refine sd_dup (pc' := 68) (by decide +kernel) rfl ?_
  obtain ⟨h52, q53, hf⟩ := b1_some hf
  obtain ⟨g54, hf⟩ := gd_some hf
  refine sI_call (idx := 47) (b := h47.1) (As := []) (pc' := 71) 0 h0s (T_XK_init (G := G) q53) (by decide +kernel) mv_XK_init (Or.inl ml_X11_47) (by decide +kernel) rfl rfl (Nat.le_of_ble_eq_true rfl) (okL_of g54) rfl ?_
  obtain ⟨g55, hf⟩ := gd_some hf
  obtain ⟨h56, e57, hf⟩ := gu_some hf
  refine sI_pr (idx := 48) (ci := 11) (k := 5) (n := 17) (pc' := 74) (by decide +kernel) fl_X11_48 (by decide +kernel) rfl (fun _ => rfl) (fun _ => rfl) ⟨rfl, rfl, rfl⟩ rfl g55 ?_
  rw [← e57]; clear e57
  refine sd_aload_n (k := 0) (i := 0) (q := 0) (pc' := 75) (by decide +kernel) rfl rfl ?_
  obtain ⟨g58, hf⟩ := gd_some hf
  obtain ⟨h59, e60, hf⟩ := gu_some hf
  refine sd_new (idx := 52) (ci := 8) (n := 3) (pc' := 78) h0s (by decide +kernel) nd_X11_52 rfl g58 ?_
  rw [← e60]; clear e60
  refine sd_dup (pc' := 79) (by decide +kernel) rfl ?_
  obtain ⟨h61, q62, hf⟩ := b1_some hf
  obtain ⟨g63, hf⟩ := gd_some hf
  refine sI_call (idx := 54) (b := h56.1) (As := []) (pc' := 82) 0 h0s (T_XS_init (G := G) q62) (by decide +kernel) mv_XS_init (Or.inr ml_X11_54) (by decide +kernel) rfl rfl (Nat.le_of_ble_eq_true rfl) (okL_of g63) rfl ?_
  obtain ⟨g64, hf⟩ := gd_some hf
  obtain ⟨h65, e66, hf⟩ := gu_some hf
  refine sI_pr (idx := 55) (ci := 11) (k := 6) (n := 17) (pc' := 85) (by decide +kernel) fl_X11_55 (by decide +kernel) rfl (fun _ => rfl) (fun _ => rfl) ⟨rfl, rfl, rfl⟩ rfl g64 ?_
  rw [← e66]; clear e66
  refine sd_aload_n (k := 0) (i := 0) (q := 0) (pc' := 86) (by decide +kernel) rfl rfl ?_
  obtain ⟨g67, hf⟩ := gd_some hf
  obtain ⟨h68, e69, hf⟩ := gu_some hf
  refine sd_new (idx := 52) (ci := 8) (n := 3) (pc' := 89) h0s (by decide +kernel) nd_X11_52 rfl g67 ?_
  rw [← e69]; clear e69
  refine sd_dup (pc' := 90) (by decide +kernel) rfl ?_
  obtain ⟨h70, q71, hf⟩ := b1_some hf
  obtain ⟨g72, hf⟩ := gd_some hf
  refine sI_call (idx := 54) (b := h65.1) (As := []) (pc' := 93) 0 h0s (T_XS_init (G := G) q71) (by decide +kernel) mv_XS_init (Or.inr ml_X11_54) (by decide +kernel) rfl rfl (Nat.le_of_ble_eq_true rfl) (okL_of g72) rfl ?_
  obtain ⟨g73, hf⟩ := gd_some hf
  obtain ⟨h74, e75, hf⟩ := gu_some hf
  refine sI_pr (idx := 59) (ci := 11) (k := 7) (n := 17) (pc' := 96) (by decide +kernel) fl_X11_59 (by decide +kernel) rfl (fun _ => rfl) (fun _ => rfl) ⟨rfl, rfl, rfl⟩ rfl g73 ?_
  rw [← e75]; clear e75
  refine sd_aload_n (k := 0) (i := 0) (q := 0) (pc' := 97) (by decide +kernel) rfl rfl ?_
  obtain ⟨g76, hf⟩ := gd_some hf
  obtain ⟨h77, e78, hf⟩ := gu_some hf
  refine sd_new (idx := 52) (ci := 8) (n := 3) (pc' := 100) h0s (by decide +kernel) nd_X11_52 rfl g76 ?_
  rw [← e78]; clear e78
  refine sd_dup (pc' := 101) (by decide +kernel) rfl ?_
  obtain ⟨h79, q80, hf⟩ := b1_some hf
  obtain ⟨g81, hf⟩ := gd_some hf
  refine sI_call (idx := 54) (b := h74.1) (As := []) (pc' := 104) 0 h0s (T_XS_init (G := G) q80) (by decide +kernel) mv_XS_init (Or.inr ml_X11_54) (by decide +kernel) rfl rfl (Nat.le_of_ble_eq_true rfl) (okL_of g81) rfl ?_
  obtain ⟨g82, hf⟩ := gd_some hf
  obtain ⟨h83, e84, hf⟩ := gu_some hf
  refine sI_pr (idx := 62) (ci := 11) (k := 8) (n := 17) (pc' := 107) (by decide +kernel) fl_X11_62 (by decide +kernel) rfl (fun _ => rfl) (fun _ => rfl) ⟨rfl, rfl, rfl⟩ rfl g82 ?_
  rw [← e84]; clear e84
  refine sd_aload_n (k := 0) (i := 0) (q := 0) (pc' := 108) (by decide +kernel) rfl rfl ?_
  obtain ⟨g85, hf⟩ := gd_some hf
  obtain ⟨h86, e87, hf⟩ := gu_some hf
  refine sd_new (idx := 65) (ci := 7) (n := 11) (pc' := 111) h0s (by decide +kernel) nd_X11_65 rfl g85 ?_
  rw [← e87]; clear e87
  refine sd_dup (pc' := 112) (by decide +kernel) rfl ?_
  refine sd_aload_n (k := 0) (i := 0) (q := 0) (pc' := 113) (by decide +kernel) rfl rfl ?_
  obtain ⟨g88, hf⟩ := gd_some hf
  obtain ⟨w89, e90, hf⟩ := opR_some hf
  refine sI_get (idx := 21) (ci := 11) (k := 1) (n := 17) (r := w89) (pc' := 116) (by decide +kernel) fl_X11_21 (by decide +kernel) rfl g88 e90 ?_
  obtain ⟨h91, q92, hf⟩ := b1_some hf
  obtain ⟨g93, hf⟩ := gd_some hf
  refine sI_call (idx := 67) (b := h83.1) (As := [.ref (G.1 + w89)]) (pc' := 119) 1 h0s (T_XU_init (G := G) q92) (by decide +kernel) mv_XU_init (Or.inl ml_X11_67) (by decide +kernel) rfl rfl (Nat.le_of_ble_eq_true rfl) (okL_of g93) rfl ?_
  obtain ⟨g94, hf⟩ := gd_some hf
  obtain ⟨h95, e96, hf⟩ := gu_some hf
  refine sI_pr (idx := 70) (ci := 11) (k := 9) (n := 17) (pc' := 122) (by decide +kernel) fl_X11_70 (by decide +kernel) rfl (fun _ => rfl) (fun _ => rfl) ⟨rfl, rfl, rfl⟩ rfl g94 ?_
  rw [← e96]; clear e96
  refine sd_aload_n (k := 0) (i := 0) (q := 0) (pc' := 123) (by decide +kernel) rfl rfl ?_
  obtain ⟨g97, hf⟩ := gd_some hf
  obtain ⟨h98, e99, hf⟩ := gu_some hf
  refine sd_new (idx := 74) (ci := 4) (n := 4) (pc' := 126) h0s (by decide +kernel) nd_X11_74 rfl g97 ?_
  rw [← e99]; clear e99
  refine sd_dup (pc' := 127) (by decide +kernel) rfl ?_
  obtain ⟨h100, q101, hf⟩ := b1_some hf
  obtain ⟨g102, hf⟩ := gd_some hf
  refine sI_call (idx := 76) (b := h95.1) (As := []) (pc' := 130) 0 h0s (T_XO_init (G := G) q101) (by decide +kernel) mv_XO_init (Or.inr ml_X11_76) (by decide +kernel) rfl rfl (Nat.le_of_ble_eq_true rfl) (okL_of g102) rfl ?_
  obtain ⟨g103, hf⟩ := gd_some hf
  obtain ⟨h104, e105, hf⟩ := gu_some hf
  refine sI_pr (idx := 77) (ci := 11) (k := 10) (n := 17) (pc' := 133) (by decide +kernel) fl_X11_77 (by decide +kernel) rfl (fun _ => rfl) (fun _ => rfl) ⟨rfl, rfl, rfl⟩ rfl g103 ?_
  rw [← e105]; clear e105
  refine sd_aload_n (k := 0) (i := 0) (q := 0) (pc' := 134) (by decide +kernel) rfl rfl ?_
  obtain ⟨g106, hf⟩ := gd_some hf
  obtain ⟨h107, e108, hf⟩ := gu_some hf
  refine sd_new (idx := 9) (ci := 6) (n := 4) (pc' := 137) h0s (by decide +kernel) nd_X11_9 rfl g106 ?_
  rw [← e108]; clear e108
  refine sd_dup (pc' := 138) (by decide +kernel) rfl ?_
  obtain ⟨h109, q110, hf⟩ := b1_some hf
  obtain ⟨g111, hf⟩ := gd_some hf
  refine sI_call (idx := 11) (b := h104.1) (As := []) (pc' := 141) 0 h0s (T_XR_init (G := G) q110) (by decide +kernel) mv_XR_init (Or.inl ml_X11_11) (by decide +kernel) rfl rfl (Nat.le_of_ble_eq_true rfl) (okL_of g111) rfl ?_
  obtain ⟨g112, hf⟩ := gd_some hf
  obtain ⟨h113, e114, hf⟩ := gu_some hf
  refine sI_pr (idx := 81) (ci := 11) (k := 11) (n := 17) (pc' := 144) (by decide +kernel) fl_X11_81 (by decide +kernel) rfl (fun _ => rfl) (fun _ => rfl) ⟨rfl, rfl, rfl⟩ rfl g112 ?_
  rw [← e114]; clear e114
  refine sd_aload_n (k := 0) (i := 0) (q := 0) (pc' := 145) (by decide +kernel) rfl rfl ?_
  obtain ⟨g115, hf⟩ := gd_some hf
  obtain ⟨h116, e117, hf⟩ := gu_some hf
  refine sd_new (idx := 9) (ci := 6) (n := 4) (pc' := 148) h0s (by decide +kernel) nd_X11_9 rfl g115 ?_
  rw [← e117]; clear e117
  refine sd_dup (pc' := 149) (by decide +kernel) rfl ?_
  obtain ⟨h118, q119, hf⟩ := b1_some hf
  obtain ⟨g120, hf⟩ := gd_some hf
  refine sI_call (idx := 11) (b := h113.1) (As := []) (pc' := 152) 0 h0s (T_XR_init (G := G) q119) (by decide +kernel) mv_XR_init (Or.inl ml_X11_11) (by decide +kernel) rfl rfl (Nat.le_of_ble_eq_true rfl) (okL_of g120) rfl ?_
  obtain ⟨g121, hf⟩ := gd_some hf
  obtain ⟨h122, e123, hf⟩ := gu_some hf
  refine sI_pr (idx := 84) (ci := 11) (k := 12) (n := 17) (pc' := 155) (by decide +kernel) fl_X11_84 (by decide +kernel) rfl (fun _ => rfl) (fun _ => rfl) ⟨rfl, rfl, rfl⟩ rfl g121 ?_
  rw [← e123]; clear e123
  refine sd_aload_n (k := 0) (i := 0) (q := 0) (pc' := 156) (by decide +kernel) rfl rfl ?_
  obtain ⟨g124, hf⟩ := gd_some hf
  obtain ⟨h125, e126, hf⟩ := gu_some hf
  refine sd_new (idx := 74) (ci := 4) (n := 4) (pc' := 159) h0s (by decide +kernel) nd_X11_74 rfl g124 ?_
  rw [← e126]; clear e126
  refine sd_dup (pc' := 160) (by decide +kernel) rfl ?_
  obtain ⟨h127, q128, hf⟩ := b1_some hf
  obtain ⟨g129, hf⟩ := gd_some hf
  refine sI_call (idx := 76) (b := h122.1) (As := []) (pc' := 163) 0 h0s (T_XO_init (G := G) q128) (by decide +kernel) mv_XO_init (Or.inr ml_X11_76) (by decide +kernel) rfl rfl (Nat.le_of_ble_eq_true rfl) (okL_of g129) rfl ?_
  obtain ⟨g130, hf⟩ := gd_some hf
  obtain ⟨h131, e132, hf⟩ := gu_some hf
  refine sI_pr (idx := 87) (ci := 11) (k := 13) (n := 17) (pc' := 166) (by decide +kernel) fl_X11_87 (by decide +kernel) rfl (fun _ => rfl) (fun _ => rfl) ⟨rfl, rfl, rfl⟩ rfl g130 ?_
  rw [← e132]; clear e132
  refine sd_aload_n (k := 0) (i := 0) (q := 0) (pc' := 167) (by decide +kernel) rfl rfl ?_
  obtain ⟨g133, hf⟩ := gd_some hf
  obtain ⟨h134, e135, hf⟩ := gu_some hf
  refine sd_new (idx := 74) (ci := 4) (n := 4) (pc' := 170) h0s (by decide +kernel) nd_X11_74 rfl g133 ?_
  rw [← e135]; clear e135
  refine sd_dup (pc' := 171) (by decide +kernel) rfl ?_
  obtain ⟨h136, q137, hf⟩ := b1_some hf
  obtain ⟨g138, hf⟩ := gd_some hf
  refine sI_call (idx := 76) (b := h131.1) (As := []) (pc' := 174) 0 h0s (T_XO_init (G := G) q137) (by decide +kernel) mv_XO_init (Or.inr ml_X11_76) (by decide +kernel) rfl rfl (Nat.le_of_ble_eq_true rfl) (okL_of g138) rfl ?_
  obtain ⟨g139, hf⟩ := gd_some hf
  obtain ⟨h140, e141, hf⟩ := gu_some hf
  refine sI_pr (idx := 90) (ci := 11) (k := 14) (n := 17) (pc' := 177) (by decide +kernel) fl_X11_90 (by decide +kernel) rfl (fun _ => rfl) (fun _ => rfl) ⟨rfl, rfl, rfl⟩ rfl g139 ?_
  rw [← e141]; clear e141
  obtain rfl := Option.some.inj hf
  exact sI_ret h0s (by decide +kernel) rfl hE
theorem oi_X12 : Cond.methodLink RX12 1 Lib.objectInit ∈ sd_tb := sd_mem (i := 1147) (by decide +kernel)
theorem na_boolean : Cond.arrayClass (newarray.typeOf .boolean) ∈ sd_tb := sd_mem (i := 1290) (by decide +kernel)
def M_YM_init : sd_MX := (yX12_init, cX12_init, 2, none, { frames := 1, cells := 32, slots := 4401, locals := 40 })
def YM_init_L283 (h0 : sd_HX) : Nat → sd_HX → Nat → Int32 → Option sd_HX
  | 0, _, _, _ => none
  | n + 1, h, l0, l1 =>
  (if 144 ≤ l1 then some h else gd (okO h l0 12 47) (opR (h.2.2.2 l0 3) (fun w196 => gd (okO h w196 100 144) (gd (sd_inB l1 144) (gu (sd_wi h w196 (l1 : Int32).toNatClampNeg (-1)) (fun h200 => YM_init_L283 h0 n h200 l0 (l1 + 1)))))))
set_option maxHeartbeats 4000000 in
set_option maxRecDepth 100000 in
theorem J_YM_init_L283 {G : sd_GX} {X : sd_CX} {h0 : sd_HX} (h0s : (sd_s X).heap.size = G.1 + h0.1) {r : sd_HX} (hE : okE h0 r M_YM_init = true) : ∀ (n : Nat) (h : sd_HX) (l0 : Nat) (l1 : Int32), YM_init_L283 h0 n h l0 l1 = some r → sd_J G X (sd_QR G X M_YM_init (none, r)) M_YM_init 283 [(0, .ref (G.1 + l0)), (1, .int l1)] [] h := by
  intro n
  induction n with
  | zero =>
    intro h l0 l1 hf
    rw [YM_init_L283] at hf
    cases hf
  | succ n ih =>
    intro h l0 l1 hf
    rw [YM_init_L283] at hf
    refine sd_iload_n (k := 1) (i := 1) (q := 1) (pc' := 284) (by decide +kernel) rfl rfl ?_
    refine sd_sipush (n := 144) (v := 144) (pc' := 287) (by decide +kernel) (by decide) ?_
    refine sd_icmp_ge (off := 16) (tgt := 303) (pc' := 290) (by decide +kernel) (fun c194 => ?_) (fun c194 => ?_)
    · replace hf := ite_p c194 hf
      obtain rfl := Option.some.inj hf
      exact sI_ret h0s (by decide +kernel) rfl hE
    · replace hf := ite_n c194 hf
      refine sd_aload_n (k := 0) (i := 0) (q := 0) (pc' := 291) (by decide +kernel) rfl rfl ?_
      obtain ⟨g195, hf⟩ := gd_some hf
      obtain ⟨w196, e197, hf⟩ := opR_some hf
      refine sI_get (idx := 20) (ci := 12) (k := 3) (n := 47) (r := w196) (pc' := 294) (by decide +kernel) fl_X12_20 (by decide +kernel) rfl g195 e197 ?_
      refine sd_iload_n (k := 1) (i := 1) (q := 1) (pc' := 295) (by decide +kernel) rfl rfl ?_
      refine sd_iconst (n := -1) (v := (-1)) (pc' := 296) (by decide +kernel) (by decide) ?_
      obtain ⟨g198, hf⟩ := gd_some hf
      obtain ⟨g199, hf⟩ := gd_some hf
      obtain ⟨h200, e201, hf⟩ := gu_some hf
      refine sI_iast (n := 144) (pc' := 297) (by decide +kernel) g198 g199 ?_
      rw [← e201]; clear e201
      refine sd_iinc (i := 1) (q := 1) (n := 1) (v := (l1 + 1)) (pc' := 300) (lo' := [(1, .int (l1 + 1)), (0, .ref (G.1 + l0))]) (by decide +kernel) rfl rfl (by decide) rfl ?_
      refine sd_goto (off := -17) (tgt := 283) (pc' := 303) (by decide +kernel) ?_
      refine sd_J.sub (lo' := [(0, .ref (G.1 + l0)), (1, .int (l1 + 1))]) [1, 0] rfl ?_
      exact ih _ _ _ hf
def YM_init_L262 (h0 : sd_HX) : Nat → sd_HX → Nat → Int32 → Option sd_HX
  | 0, _, _, _ => none
  | n + 1, h, l0, l1 =>
  (if 6 ≤ l1 then YM_init_L283 h0 2000 h l0 0 else gd (okO h l0 12 47) (opR (h.2.2.2 l0 0) (fun w203 => gd (okO h w203 100 6) (gd (sd_inB l1 6) (gu (sd_wi h w203 (l1 : Int32).toNatClampNeg (-1)) (fun h207 => YM_init_L262 h0 n h207 l0 (l1 + 1)))))))
set_option maxHeartbeats 4000000 in
set_option maxRecDepth 100000 in
theorem J_YM_init_L262 {G : sd_GX} {X : sd_CX} {h0 : sd_HX} (h0s : (sd_s X).heap.size = G.1 + h0.1) {r : sd_HX} (hE : okE h0 r M_YM_init = true) : ∀ (n : Nat) (h : sd_HX) (l0 : Nat) (l1 : Int32), YM_init_L262 h0 n h l0 l1 = some r → sd_J G X (sd_QR G X M_YM_init (none, r)) M_YM_init 262 [(0, .ref (G.1 + l0)), (1, .int l1)] [] h := by
  intro n
  induction n with
  | zero =>
    intro h l0 l1 hf
    rw [YM_init_L262] at hf
    cases hf
  | succ n ih =>
    intro h l0 l1 hf
    rw [YM_init_L262] at hf
    refine sd_iload_n (k := 1) (i := 1) (q := 1) (pc' := 263) (by decide +kernel) rfl rfl ?_
    refine sd_bipush (n := 6) (v := 6) (pc' := 265) (by decide +kernel) (by decide) ?_
    refine sd_icmp_ge (off := 16) (tgt := 281) (pc' := 268) (by decide +kernel) (fun c193 => ?_) (fun c193 => ?_)
    · replace hf := ite_p c193 hf
      refine sd_iconst (n := 0) (v := 0) (pc' := 282) (by decide +kernel) (by decide) ?_
      refine sd_istore_n (k := 1) (i := 1) (pc' := 283) (lo' := [(1, .int 0), (0, .ref (G.1 + l0))]) (by decide +kernel) rfl (by decide) rfl ?_
      refine sd_J.sub (lo' := [(0, .ref (G.1 + l0)), (1, .int 0)]) [1, 0] rfl ?_
      exact J_YM_init_L283 h0s hE _ _ _ _ hf
    · replace hf := ite_n c193 hf
      refine sd_aload_n (k := 0) (i := 0) (q := 0) (pc' := 269) (by decide +kernel) rfl rfl ?_
      obtain ⟨g202, hf⟩ := gd_some hf
      obtain ⟨w203, e204, hf⟩ := opR_some hf
      refine sI_get (idx := 7) (ci := 12) (k := 0) (n := 47) (r := w203) (pc' := 272) (by decide +kernel) fl_X12_7 (by decide +kernel) rfl g202 e204 ?_
      refine sd_iload_n (k := 1) (i := 1) (q := 1) (pc' := 273) (by decide +kernel) rfl rfl ?_
      refine sd_iconst (n := -1) (v := (-1)) (pc' := 274) (by decide +kernel) (by decide) ?_
      obtain ⟨g205, hf⟩ := gd_some hf
      obtain ⟨g206, hf⟩ := gd_some hf
      obtain ⟨h207, e208, hf⟩ := gu_some hf
      refine sI_iast (n := 6) (pc' := 275) (by decide +kernel) g205 g206 ?_
      rw [← e208]; clear e208
      refine sd_iinc (i := 1) (q := 1) (n := 1) (v := (l1 + 1)) (pc' := 278) (lo' := [(1, .int (l1 + 1)), (0, .ref (G.1 + l0))]) (by decide +kernel) rfl rfl (by decide) rfl ?_
      refine sd_goto (off := -16) (tgt := 262) (pc' := 281) (by decide +kernel) ?_
      refine sd_J.sub (lo' := [(0, .ref (G.1 + l0)), (1, .int (l1 + 1))]) [1, 0] rfl ?_
      exact ih _ _ _ hf
def YM_init_0 (h0 : sd_HX) (this : Nat) : Option sd_HX :=
  gd (okN h0 h0 M_YM_init 100 6) (gu (nw h0) (fun h2 => gd (okO h2 this 12 47) (gu (sd_wr h2 this 0 (some h0.1)) (fun h5 => gd (okN h0 h5 M_YM_init 100 6) (gu (nw h5) (fun h8 => gd (okO h8 this 12 47) (gu (sd_wr h8 this 1 (some h5.1)) (fun h11 => gd (okN h0 h11 M_YM_init 101 144) (gu (nw h11) (fun h14 => gd (okO h14 this 12 47) (gu (sd_wr h14 this 2 (some h11.1)) (fun h17 => gd (okN h0 h17 M_YM_init 100 144) (gu (nw h17) (fun h20 => gd (okO h20 this 12 47) (gu (sd_wr h20 this 3 (some h17.1)) (fun h23 => gd (okN h0 h23 M_YM_init 101 24) (gu (nw h23) (fun h26 => gd (okO h26 this 12 47) (gu (sd_wr h26 this 5 (some h23.1)) (fun h29 => gd (okN h0 h29 M_YM_init 100 5) (gu (nw h29) (fun h32 => gd (okO h32 this 12 47) (gu (sd_wr h32 this 8 (some h29.1)) (fun h35 => gd (okN h0 h35 M_YM_init 100 5) (gu (nw h35) (fun h38 => gd (okO h38 this 12 47) (gu (sd_wr h38 this 9 (some h35.1)) (fun h41 => gd (okN h0 h41 M_YM_init 100 5) (gu (nw h41) (fun h44 => gd (okO h44 this 12 47) (gu (sd_wr h44 this 10 (some h41.1)) (fun h47 => gd (okN h0 h47 M_YM_init 100 5) (gu (nw h47) (fun h50 => gd (okO h50 this 12 47) (gu (sd_wr h50 this 11 (some h47.1)) (fun h53 => gd (okN h0 h53 M_YM_init 100 5) (gu (nw h53) (fun h56 => gd (okO h56 this 12 47) (gu (sd_wr h56 this 12 (some h53.1)) (fun h59 => gd (okN h0 h59 M_YM_init 100 15) (gu (nw h59) (fun h62 => gd (okO h62 this 12 47) (gu (sd_wr h62 this 13 (some h59.1)) (fun h65 => gd (okN h0 h65 M_YM_init 100 15) (gu (nw h65) (fun h68 => gd (okO h68 this 12 47) (gu (sd_wr h68 this 14 (some h65.1)) (fun h71 => gd (okN h0 h71 M_YM_init 100 15) (gu (nw h71) (fun h74 => gd (okO h74 this 12 47) (gu (sd_wr h74 this 15 (some h71.1)) (fun h77 => gd (okN h0 h77 M_YM_init 100 15) (gu (nw h77) (fun h80 => gd (okO h80 this 12 47) (gu (sd_wr h80 this 16 (some h77.1)) (fun h83 => gd (okN h0 h83 M_YM_init 100 120) (gu (nw h83) (fun h86 => gd (okO h86 this 12 47) (gu (sd_wr h86 this 17 (some h83.1)) (fun h89 => gd (okN h0 h89 M_YM_init 100 5) (gu (nw h89) (fun h92 => gd (okO h92 this 12 47) (gu (sd_wr h92 this 19 (some h89.1)) (fun h95 => gd (okN h0 h95 M_YM_init 100 120) (gu (nw h95) (fun h98 => gd (okO h98 this 12 47) (gu (sd_wr h98 this 21 (some h95.1)) (fun h101 => gd (okN h0 h101 M_YM_init 100 240) (gu (nw h101) (fun h104 => gd (okO h104 this 12 47) (gu (sd_wr h104 this 23 (some h101.1)) (fun h107 => gd (okN h0 h107 M_YM_init 100 6) (gu (nw h107) (fun h110 => gd (okO h110 this 12 47) (gu (sd_wr h110 this 24 (some h107.1)) (fun h113 => gd (okN h0 h113 M_YM_init 100 6) (gu (nw h113) (fun h116 => gd (okO h116 this 12 47) (gu (sd_wr h116 this 29 (some h113.1)) (fun h119 => gd (okN h0 h119 M_YM_init 101 144) (gu (nw h119) (fun h122 => gd (okO h122 this 12 47) (gu (sd_wr h122 this 30 (some h119.1)) (fun h125 => gd (okN h0 h125 M_YM_init 101 1440) (gu (nw h125) (fun h128 => gd (okO h128 this 12 47) (gu (sd_wr h128 this 31 (some h125.1)) (fun h131 => gd (okN h0 h131 M_YM_init 102 1440) (gu (nw h131) (fun h134 => gd (okO h134 this 12 47) (gu (sd_wr h134 this 32 (some h131.1)) (fun h137 => gd (okN h0 h137 M_YM_init 100 3) (gu (nw h137) (fun h140 => gd (okO h140 this 12 47) (gu (sd_wr h140 this 35 (some h137.1)) (fun h143 => gd (okN h0 h143 M_YM_init 100 10) (gu (nw h143) (fun h146 => gd (okO h146 this 12 47) (gu (sd_wr h146 this 36 (some h143.1)) (fun h149 => gd (okN h0 h149 M_YM_init 100 10) (gu (nw h149) (fun h152 => gd (okO h152 this 12 47) (gu (sd_wr h152 this 40 (some h149.1)) (fun h155 => gd (okN h0 h155 M_YM_init 101 144) (gu (nw h155) (fun h158 => gd (okO h158 this 12 47) (gu (sd_wr h158 this 41 (some h155.1)) (fun h161 => gd (okN h0 h161 M_YM_init 101 144) (gu (nw h161) (fun h164 => gd (okO h164 this 12 47) (gu (sd_wr h164 this 42 (some h161.1)) (fun h167 => gd (okN h0 h167 M_YM_init 100 144) (gu (nw h167) (fun h170 => gd (okO h170 this 12 47) (gu (sd_wr h170 this 43 (some h167.1)) (fun h173 => gd (okN h0 h173 M_YM_init 100 10) (gu (nw h173) (fun h176 => gd (okO h176 this 12 47) (gu (sd_wr h176 this 44 (some h173.1)) (fun h179 => gd (okN h0 h179 M_YM_init 100 3) (gu (nw h179) (fun h182 => gd (okO h182 this 12 47) (gu (sd_wr h182 this 45 (some h179.1)) (fun h185 => gd (okN h0 h185 M_YM_init 100 3) (gu (nw h185) (fun h188 => gd (okO h188 this 12 47) (gu (sd_wr h188 this 46 (some h185.1)) (fun h191 => YM_init_L262 h0 2000 h191 this 0))))))))))))))))))))))))))))))))))))))))))))))))))))))))))))))))))))))))))))))))))))))))))))))))))))))))))))))))))))))))))))))))
def YM_init (h0 : sd_HX) (this : Nat) : Option sd_HX := b1 (YM_init_0 h0 this) (fun r => gd (okE h0 r M_YM_init) (some r))
set_option maxHeartbeats 4000000 in
set_option maxRecDepth 100000 in
theorem T_YM_init {G : sd_GX} {h0 : sd_HX} {this : Nat} {r : sd_HX} (hf : YM_init h0 this = some r) : sd_Run G M_YM_init [.ref (G.1 + this)] h0 (none, r) := by
  unfold YM_init at hf
  obtain ⟨r1, q0, hf⟩ := b1_some hf
  obtain ⟨hE, hf⟩ := gd_some hf
  obtain rfl := Option.some.inj hf
  clear hf
  have hf := q0
  refine sd_Run_of (okE_of hE) (by decide +kernel) (Nat.le_of_ble_eq_true rfl) (lo := [(0, .ref (G.1 + this))]) rfl (fun X h0s _ => ?_)
  unfold YM_init_0 at hf
  refine sd_aload_n (k := 0) (i := 0) (q := 0) (pc' := 1) (by decide +kernel) rfl rfl ?_
  refine sd_oinit (idx := 1) (pc' := 4) (by decide +kernel) oi_X12 (by decide) (Nat.le_of_ble_eq_true rfl) ?_
  refine sd_aload_n (k := 0) (i := 0) (q := 0) (pc' := 5) (by decide +kernel) rfl rfl ?_
  refine sd_bipush (n := 6) (v := 6) (pc' := 7) (by decide +kernel) (by decide) ?_
  obtain ⟨g1, hf⟩ := gd_some hf
  obtain ⟨h2, e3, hf⟩ := gu_some hf
  refine sd_newA (k := 0) (N := 6) (pc' := 9) h0s (by decide +kernel) na_int (by decide) (by decide) (by decide) (by decide) g1 ?_
  rw [← e3]; clear e3
  obtain ⟨g4, hf⟩ := gd_some hf
  obtain ⟨h5, e6, hf⟩ := gu_some hf
  refine sI_pr (idx := 7) (ci := 12) (k := 0) (n := 47) (pc' := 12) (by decide +kernel) fl_X12_7 (by decide +kernel) rfl (fun _ => rfl) (fun _ => rfl) ⟨rfl, rfl, rfl⟩ rfl g4 ?_
  rw [← e6]; clear e6
  refine sd_aload_n (k := 0) (i := 0) (q := 0) (pc' := 13) (by decide +kernel) rfl rfl ?_
  refine sd_bipush (n := 6) (v := 6) (pc' := 15) (by decide +kernel) (by decide) ?_
  obtain ⟨g7, hf⟩ := gd_some hf
  obtain ⟨h8, e9, hf⟩ := gu_some hf
  refine sd_newA (k := 0) (N := 6) (pc' := 17) h0s (by decide +kernel) na_int (by decide) (by decide) (by decide) (by decide) g7 ?_
  rw [← e9]; clear e9
  obtain ⟨g10, hf⟩ := gd_some hf
  obtain ⟨h11, e12, hf⟩ := gu_some hf
  refine sI_pr (idx := 13) (ci := 12) (k := 1) (n := 47) (pc' := 20) (by decide +kernel) fl_X12_13 (by decide +kernel) rfl (fun _ => rfl) (fun _ => rfl) ⟨rfl, rfl, rfl⟩ rfl g10 ?_
  rw [← e12]; clear e12
  refine sd_aload_n (k := 0) (i := 0) (q := 0) (pc' := 21) (by decide +kernel) rfl rfl ?_
  refine sd_sipush (n := 144) (v := 144) (pc' := 24) (by decide +kernel) (by decide) ?_
  obtain ⟨g13, hf⟩ := gd_some hf
  obtain ⟨h14, e15, hf⟩ := gu_some hf
  refine sd_newA (k := 1) (N := 144) (pc' := 26) h0s (by decide +kernel) na_double (by decide) (by decide) (by decide) (by decide) g13 ?_
  rw [← e15]; clear e15
  obtain ⟨g16, hf⟩ := gd_some hf
  obtain ⟨h17, e18, hf⟩ := gu_some hf
  refine sI_pr (idx := 16) (ci := 12) (k := 2) (n := 47) (pc' := 29) (by decide +kernel) fl_X12_16 (by decide +kernel) rfl (fun _ => rfl) (fun _ => rfl) ⟨rfl, rfl, rfl⟩ rfl g16 ?_
  rw [← e18]; clear e18
  refine sd_aload_n (k := 0) (i := 0) (q := 0) (pc' := 30) (by decide +kernel) rfl rfl ?_
  refine sd_sipush (n := 144) (v := 144) (pc' := 33) (by decide +kernel) (by decide) ?_
  obtain ⟨g19, hf⟩ := gd_some hf
  obtain ⟨h20, e21, hf⟩ := gu_some hf
  refine sd_newA (k := 0) (N := 144) (pc' := 35) h0s (by decide +kernel) na_int (by decide) (by decide) (by decide) (by decide) g19 ?_
  rw [← e21]; clear e21
  obtain ⟨g22, hf⟩ := gd_some hf
  obtain ⟨h23, e24, hf⟩ := gu_some hf
  refine sI_pr (idx := 20) (ci := 12) (k := 3) (n := 47) (pc' := 38) (by decide +kernel) fl_X12_20 (by decide +kernel) rfl (fun _ => rfl) (fun _ => rfl) ⟨rfl, rfl, rfl⟩ rfl g22 ?_
  rw [← e24]; clear e24
  refine sd_aload_n (k := 0) (i := 0) (q := 0) (pc' := 39) (by decide +kernel) rfl rfl ?_
  refine sd_bipush (n := 24) (v := 24) (pc' := 41) (by decide +kernel) (by decide) ?_
  obtain ⟨g25, hf⟩ := gd_some hf
  obtain ⟨h26, e27, hf⟩ := gu_some hf
  refine sd_newA (k := 1) (N := 24) (pc' := 43) h0s (by decide +kernel) na_double (by decide) (by decide) (by decide) (by decide) g25 ?_
  rw [← e27]; clear e27
  obtain ⟨g28, hf⟩ := gd_some hf
  obtain ⟨h29, e30, hf⟩ := gu_some hf
  refine sI_pr (idx := 23) (ci := 12) (k := 5) (n := 47) (pc' := 46) (by decide +kernel) fl_X12_23 (by decide +kernel) rfl (fun _ => rfl) (fun _ => rfl) ⟨rfl, rfl, rfl⟩ rfl g28 ?_
  rw [← e30]; clear e30
  refine sd_aload_n (k := 0) (i := 0) (q := 0) (pc' := 47) (by decide +kernel) rfl rfl ?_
  refine sd_iconst (n := 5) (v := 5) (pc' := 48) (by decide +kernel) (by decide) ?_
  obtain ⟨g31, hf⟩ := gd_some hf
  obtain ⟨h32, e33, hf⟩ := gu_some hf
  refine sd_newA (k := 0) (N := 5) (pc' := 50) h0s (by decide +kernel) na_int (by decide) (by decide) (by decide) (by decide) g31 ?_
  rw [← e33]; clear e33
  obtain ⟨g34, hf⟩ := gd_some hf
  obtain ⟨h35, e36, hf⟩ := gu_some hf
  refine sI_pr (idx := 26) (ci := 12) (k := 8) (n := 47) (pc' := 53) (by decide +kernel) fl_X12_26 (by decide +kernel) rfl (fun _ => rfl) (fun _ => rfl) ⟨rfl, rfl, rfl⟩ rfl g34 ?_
  rw [← e36]; clear e36
  refine sd_aload_n (k := 0) (i := 0) (q := 0) (pc' := 54) (by decide +kernel) rfl rfl ?_
  refine sd_iconst (n := 5) (v := 5) (pc' := 55) (by decide +kernel) (by decide) ?_
  obtain ⟨g37, hf⟩ := gd_some hf
  obtain ⟨h38, e39, hf⟩ := gu_some hf
  refine sd_newA (k := 0) (N := 5) (pc' := 57) h0s (by decide +kernel) na_int (by decide) (by decide) (by decide) (by decide) g37 ?_
  rw [← e39]; clear e39
  obtain ⟨g40, hf⟩ := gd_some hf
  obtain ⟨h41, e42, hf⟩ := gu_some hf
  refine sI_pr (idx := 29) (ci := 12) (k := 9) (n := 47) (pc' := 60) (by decide +kernel) fl_X12_29 (by decide +kernel) rfl (fun _ => rfl) (fun _ => rfl) ⟨rfl, rfl, rfl⟩ rfl g40 ?_
  rw [← e42]; clear e42
  refine sd_aload_n (k := 0) (i := 0) (q := 0) (pc' := 61) (by decide +kernel) rfl rfl ?_
  refine sd_iconst (n := 5) (v := 5) (pc' := 62) (by decide +kernel) (by decide) ?_
  obtain ⟨g43, hf⟩ := gd_some hf
  obtain ⟨h44, e45, hf⟩ := gu_some hf
  refine sd_newA (k := 0) (N := 5) (pc' := 64) h0s (by decide +kernel) na_int (by decide) (by decide) (by decide) (by decide) g43 ?_
  rw [← e45]; clear e45
  obtain ⟨g46, hf⟩ := gd_some hf
  obtain ⟨h47, e48, hf⟩ := gu_some hf
  refine sI_pr (idx := 32) (ci := 12) (k := 10) (n := 47) (pc' := 67) (by decide +kernel) fl_X12_32 (by decide +kernel) rfl (fun _ => rfl) (fun _ => rfl) ⟨rfl, rfl, rfl⟩ rfl g46 ?_
  rw [← e48]; clear e48
  refine sd_aload_n (k := 0) (i := 0) (q := 0) (pc' := 68) (by decide +kernel) rfl rfl ?_
  refine sd_iconst (n := 5) (v := 5) (pc' := 69) (by decide +kernel) (by decide) ?_
  obtain ⟨g49, hf⟩ := gd_some hf
  obtain ⟨h50, e51, hf⟩ := gu_some hf
  refine sd_newA (k := 0) (N := 5) (pc' := 71) h0s (by decide +kernel) na_int (by decide) (by decide) (by decide) (by decide) g49 ?_
  rw [← e51]; clear e51
  obtain ⟨g52, hf⟩ := gd_some hf
  obtain ⟨h53, e54, hf⟩ := gu_some hf
  refine sI_pr (idx := 35) (ci := 12) (k := 11) (n := 47) (pc' := 74) (by decide +kernel) fl_X12_35 (by decide +kernel) rfl (fun _ => rfl) (fun _ => rfl) ⟨rfl, rfl, rfl⟩ rfl g52 ?_
  rw [← e54]; clear e54
  refine sd_aload_n (k := 0) (i := 0) (q := 0) (pc' := 75) (by decide +kernel) rfl rfl ?_
  refine sd_iconst (n := 5) (v := 5) (pc' := 76) (by decide +kernel) (by decide) ?_
  obtain ⟨g55, hf⟩ := gd_some hf
  obtain ⟨h56, e57, hf⟩ := gu_some hf
  refine sd_newA (k := 0) (N := 5) (pc' := 78) h0s (by decide +kernel) na_int (by decide) (by decide) (by decide) (by decide) g55 ?_
  rw [← e57]; clear e57
  obtain ⟨g58, hf⟩ := gd_some hf
  obtain ⟨h59, e60, hf⟩ := gu_some hf
  refine sI_pr (idx := 38) (ci := 12) (k := 12) (n := 47) (pc' := 81) (by decide +kernel) fl_X12_38 (by decide +kernel) rfl (fun _ => rfl) (fun _ => rfl) ⟨rfl, rfl, rfl⟩ rfl g58 ?_
  rw [← e60]; clear e60
  refine sd_aload_n (k := 0) (i := 0) (q := 0) (pc' := 82) (by decide +kernel) rfl rfl ?_
  refine sd_bipush (n := 15) (v := 15) (pc' := 84) (by decide +kernel) (by decide) ?_
  obtain ⟨g61, hf⟩ := gd_some hf
  obtain ⟨h62, e63, hf⟩ := gu_some hf
  refine sd_newA (k := 0) (N := 15) (pc' := 86) h0s (by decide +kernel) na_int (by decide) (by decide) (by decide) (by decide) g61 ?_
  rw [← e63]; clear e63
  obtain ⟨g64, hf⟩ := gd_some hf
  obtain ⟨h65, e66, hf⟩ := gu_some hf
  refine sI_pr (idx := 41) (ci := 12) (k := 13) (n := 47) (pc' := 89) (by decide +kernel) fl_X12_41 (by decide +kernel) rfl (fun _ => rfl) (fun _ => rfl) ⟨rfl, rfl, rfl⟩ rfl g64 ?_
  rw [← e66]; clear e66
  refine sd_aload_n (k := 0) (i := 0) (q := 0) (pc' := 90) (by decide +kernel) rfl rfl ?_
  refine sd_bipush (n := 15) (v := 15) (pc' := 92) (by decide +kernel) (by decide) ?_
  obtain ⟨g67, hf⟩ := gd_some hf
  obtain ⟨h68, e69, hf⟩ := gu_some hf
  refine sd_newA (k := 0) (N := 15) (pc' := 94) h0s (by decide +kernel) na_int (by decide) (by decide) (by decide) (by decide) g67 ?_
  rw [← e69]; clear e69
  obtain ⟨g70, hf⟩ := gd_some hf
  obtain ⟨h71, e72, hf⟩ := gu_some hf
  refine sI_pr (idx := 44) (ci := 12) (k := 14) (n := 47) (pc' := 97) (by decide +kernel) fl_X12_44 (by decide +kernel) rfl (fun _ => rfl) (fun _ => rfl) ⟨rfl, rfl, rfl⟩ rfl g70 ?_
  rw [← e72]; clear e72
  refine sd_aload_n (k := 0) (i := 0) (q := 0) (pc' := 98) (by decide +kernel) rfl rfl ?_
  refine sd_bipush (n := 15) (v := 15) (pc' := 100) (by decide +kernel) (by decide) ?_
  obtain ⟨g73, hf⟩ := gd_some hf
  obtain ⟨h74, e75, hf⟩ := gu_some hf
  refine sd_newA (k := 0) (N := 15) (pc' := 102) h0s (by decide +kernel) na_int (by decide) (by decide) (by decide) (by decide) g73 ?_
  rw [← e75]; clear e75
  obtain ⟨g76, hf⟩ := gd_some hf
  obtain ⟨h77, e78, hf⟩ := gu_some hf
  refine sI_pr (idx := 47) (ci := 12) (k := 15) (n := 47) (pc' := 105) (by decide +kernel) fl_X12_47 (by decide +kernel) rfl (fun _ => rfl) (fun _ => rfl) ⟨rfl, rfl, rfl⟩ rfl g76 ?_
  rw [← e78]; clear e78
  refine sd_aload_n (k := 0) (i := 0) (q := 0) (pc' := 106) (by decide +kernel) rfl rfl ?_
  refine sd_bipush (n := 15) (v := 15) (pc' := 108) (by decide +kernel) (by decide) ?_
  obtain ⟨g79, hf⟩ := gd_some hf
  obtain ⟨h80, e81, hf⟩ := gu_some hf
  refine sd_newA (k := 0) (N := 15) (pc' := 110) h0s (by decide +kernel) na_int (by decide) (by decide) (by decide) (by decide) g79 ?_
  rw [← e81]; clear e81
  obtain ⟨g82, hf⟩ := gd_some hf
  obtain ⟨h83, e84, hf⟩ := gu_some hf
  refine sI_pr (idx := 50) (ci := 12) (k := 16) (n := 47) (pc' := 113) (by decide +kernel) fl_X12_50 (by decide +kernel) rfl (fun _ => rfl) (fun _ => rfl) ⟨rfl, rfl, rfl⟩ rfl g82 ?_
  rw [← e84]; clear e84
  refine sd_aload_n (k := 0) (i := 0) (q := 0) (pc' := 114) (by decide +kernel) rfl rfl ?_
  refine sd_bipush (n := 120) (v := 120) (pc' := 116) (by decide +kernel) (by decide) ?_
  obtain ⟨g85, hf⟩ := gd_some hf
  obtain ⟨h86, e87, hf⟩ := gu_some hf
  refine sd_newA (k := 0) (N := 120) (pc' := 118) h0s (by decide +kernel) na_int (by decide) (by decide) (by decide) (by decide) g85 ?_
  rw [← e87]; clear e87
  obtain ⟨g88, hf⟩ := gd_some hf
  obtain ⟨h89, e90, hf⟩ := gu_some hf
  refine sI_pr (idx := 53) (ci := 12) (k := 17) (n := 47) (pc' := 121) (by decide +kernel) fl_X12_53 (by decide +kernel) rfl (fun _ => rfl) (fun _ => rfl) ⟨rfl, rfl, rfl⟩ rfl g88 ?_
  rw [← e90]; clear e90
  refine sd_aload_n (k := 0) (i := 0) (q := 0) (pc' := 122) (by decide +kernel) rfl rfl ?_
  refine sd_iconst (n := 5) (v := 5) (pc' := 123) (by decide +kernel) (by decide) ?_
  obtain ⟨g91, hf⟩ := gd_some hf
  obtain ⟨h92, e93, hf⟩ := gu_some hf
  refine sd_newA (k := 0) (N := 5) (pc' := 125) h0s (by decide +kernel) na_int (by decide) (by decide) (by decide) (by decide) g91 ?_
  rw [← e93]; clear e93
  obtain ⟨g94, hf⟩ := gd_some hf
  obtain ⟨h95, e96, hf⟩ := gu_some hf
  refine sI_pr (idx := 56) (ci := 12) (k := 19) (n := 47) (pc' := 128) (by decide +kernel) fl_X12_56 (by decide +kernel) rfl (fun _ => rfl) (fun _ => rfl) ⟨rfl, rfl, rfl⟩ rfl g94 ?_
  rw [← e96]; clear e96
  refine sd_aload_n (k := 0) (i := 0) (q := 0) (pc' := 129) (by decide +kernel) rfl rfl ?_
  refine sd_bipush (n := 120) (v := 120) (pc' := 131) (by decide +kernel) (by decide) ?_
  obtain ⟨g97, hf⟩ := gd_some hf
  obtain ⟨h98, e99, hf⟩ := gu_some hf
  refine sd_newA (k := 0) (N := 120) (pc' := 133) h0s (by decide +kernel) na_int (by decide) (by decide) (by decide) (by decide) g97 ?_
  rw [← e99]; clear e99
  obtain ⟨g100, hf⟩ := gd_some hf
  obtain ⟨h101, e102, hf⟩ := gu_some hf
  refine sI_pr (idx := 59) (ci := 12) (k := 21) (n := 47) (pc' := 136) (by decide +kernel) fl_X12_59 (by decide +kernel) rfl (fun _ => rfl) (fun _ => rfl) ⟨rfl, rfl, rfl⟩ rfl g100 ?_
  rw [← e102]; clear e102
  refine sd_aload_n (k := 0) (i := 0) (q := 0) (pc' := 137) (by decide +kernel) rfl rfl ?_
  refine sd_sipush (n := 240) (v := 240) (pc' := 140) (by decide +kernel) (by decide) ?_
  obtain ⟨g103, hf⟩ := gd_some hf
  obtain ⟨h104, e105, hf⟩ := gu_some hf
  refine sd_newA (k := 0) (N := 240) (pc' := 142) h0s (by decide +kernel) na_int (by decide) (by decide) (by decide) (by decide) g103 ?_
  rw [← e105]; clear e105
  obtain ⟨g106, hf⟩ := gd_some hf
  obtain ⟨h107, e108, hf⟩ := gu_some hf
  refine sI_pr (idx := 62) (ci := 12) (k := 23) (n := 47) (pc' := 145) (by decide +kernel) fl_X12_62 (by decide +kernel) rfl (fun _ => rfl) (fun _ => rfl) ⟨rfl, rfl, rfl⟩ rfl g106 ?_
  rw [← e108]; clear e108
  refine sd_aload_n (k := 0) (i := 0) (q := 0) (pc' := 146) (by decide +kernel) rfl rfl ?_
  refine sd_bipush (n := 6) (v := 6) (pc' := 148) (by decide +kernel) (by decide) ?_
  obtain ⟨g109, hf⟩ := gd_some hf
  obtain ⟨h110, e111, hf⟩ := gu_some hf
  refine sd_newA (k := 0) (N := 6) (pc' := 150) h0s (by decide +kernel) na_int (by decide) (by decide) (by decide) (by decide) g109 ?_
  rw [← e111]; clear e111
  obtain ⟨g112, hf⟩ := gd_some hf
  obtain ⟨h113, e114, hf⟩ := gu_some hf
  refine sI_pr (idx := 65) (ci := 12) (k := 24) (n := 47) (pc' := 153) (by decide +kernel) fl_X12_65 (by decide +kernel) rfl (fun _ => rfl) (fun _ => rfl) ⟨rfl, rfl, rfl⟩ rfl g112 ?_
  rw [← e114]; clear e114
  refine sd_aload_n (k := 0) (i := 0) (q := 0) (pc' := 154) (by decide +kernel) rfl rfl ?_
  refine sd_bipush (n := 6) (v := 6) (pc' := 156) (by decide +kernel) (by decide) ?_
  obtain ⟨g115, hf⟩ := gd_some hf
  obtain ⟨h116, e117, hf⟩ := gu_some hf
  refine sd_newA (k := 0) (N := 6) (pc' := 158) h0s (by decide +kernel) na_int (by decide) (by decide) (by decide) (by decide) g115 ?_
  rw [← e117]; clear e117
  obtain ⟨g118, hf⟩ := gd_some hf
  obtain ⟨h119, e120, hf⟩ := gu_some hf
  refine sI_pr (idx := 68) (ci := 12) (k := 29) (n := 47) (pc' := 161) (by decide +kernel) fl_X12_68 (by decide +kernel) rfl (fun _ => rfl) (fun _ => rfl) ⟨rfl, rfl, rfl⟩ rfl g118 ?_
  rw [← e120]; clear e120
  refine sd_aload_n (k := 0) (i := 0) (q := 0) (pc' := 162) (by decide +kernel) rfl rfl ?_
  refine sd_sipush (n := 144) (v := 144) (pc' := 165) (by decide +kernel) (by decide) ?_
  obtain ⟨g121, hf⟩ := gd_some hf
  obtain ⟨h122, e123, hf⟩ := gu_some hf
  refine sd_newA (k := 1) (N := 144) (pc' := 167) h0s (by decide +kernel) na_double (by decide) (by decide) (by decide) (by decide) g121 ?_
  rw [← e123]; clear e123
  obtain ⟨g124, hf⟩ := gd_some hf
  obtain ⟨h125, e126, hf⟩ := gu_some hf
  refine sI_pr (idx := 71) (ci := 12) (k := 30) (n := 47) (pc' := 170) (by decide +kernel) fl_X12_71 (by decide +kernel) rfl (fun _ => rfl) (fun _ => rfl) ⟨rfl, rfl, rfl⟩ rfl g124 ?_
  rw [← e126]; clear e126
  refine sd_aload_n (k := 0) (i := 0) (q := 0) (pc' := 171) (by decide +kernel) rfl rfl ?_
  refine sd_sipush (n := 1440) (v := 1440) (pc' := 174) (by decide +kernel) (by decide) ?_
  obtain ⟨g127, hf⟩ := gd_some hf
  obtain ⟨h128, e129, hf⟩ := gu_some hf
  refine sd_newA (k := 1) (N := 1440) (pc' := 176) h0s (by decide +kernel) na_double (by decide) (by decide) (by decide) (by decide) g127 ?_
  rw [← e129]; clear e129
  obtain ⟨g130, hf⟩ := gd_some hf
  obtain ⟨h131, e132, hf⟩ := gu_some hf
  refine sI_pr (idx := 74) (ci := 12) (k := 31) (n := 47) (pc' := 179) (by decide +kernel) fl_X12_74 (by decide +kernel) rfl (fun _ => rfl) (fun _ => rfl) ⟨rfl, rfl, rfl⟩ rfl g130 ?_
  rw [← e132]; clear e132
  refine sd_aload_n (k := 0) (i := 0) (q := 0) (pc' := 180) (by decide +kernel) rfl rfl ?_
  refine sd_sipush (n := 1440) (v := 1440) (pc' := 183) (by decide +kernel) (by decide) ?_
  obtain ⟨g133, hf⟩ := gd_some hf
  obtain ⟨h134, e135, hf⟩ := gu_some hf
  refine sd_newA (k := 2) (N := 1440) (pc' := 185) h0s (by decide +kernel) na_boolean (by decide) (by decide) (by decide) (by decide) g133 ?_
  rw [← e135]; clear e135
  obtain ⟨g136, hf⟩ := gd_some hf
  obtain ⟨h137, e138, hf⟩ := gu_some hf
  refine sI_pr (idx := 77) (ci := 12) (k := 32) (n := 47) (pc' := 188) (by decide +kernel) fl_X12_77 (by decide +kernel) rfl (fun _ => rfl) (fun _ => rfl) ⟨rfl, rfl, rfl⟩ rfl g136 ?_
  rw [← e138]; clear e138
  refine sd_aload_n (k := 0) (i := 0) (q := 0) (pc' := 189) (by decide +kernel) rfl rfl ?_
  refine sd_iconst (n := 3) (v := 3) (pc' := 190) (by decide +kernel) (by decide) ?_
  obtain ⟨g139, hf⟩ := gd_some hf
  obtain ⟨h140, e141, hf⟩ := gu_some hf
  refine sd_newA (k := 0) (N := 3) (pc' := 192) h0s (by decide +kernel) na_int (by decide) (by decide) (by decide) (by decide) g139 ?_
  rw [← e141]; clear e141
  obtain ⟨g142, hf⟩ := gd_some hf
  obtain ⟨h143, e144, hf⟩ := gu_some hf
  refine sI_pr (idx := 81) (ci := 12) (k := 35) (n := 47) (pc' := 195) (by decide +kernel) fl_X12_81 (by decide +kernel) rfl (fun _ => rfl) (fun _ => rfl) ⟨rfl, rfl, rfl⟩ rfl g142 ?_
  rw [← e144]; clear e144
  refine sd_aload_n (k := 0) (i := 0) (q := 0) (pc' := 196) (by decide +kernel) rfl rfl ?_
  refine sd_bipush (n := 10) (v := 10) (pc' := 198) (by decide +kernel) (by decide) ?_
  obtain ⟨g145, hf⟩ := gd_some hf
  obtain ⟨h146, e147, hf⟩ := gu_some hf
  refine sd_newA (k := 0) (N := 10) (pc' := 200) h0s (by decide +kernel) na_int (by decide) (by decide) (by decide) (by decide) g145 ?_
  rw [← e147]; clear e147
  obtain ⟨g148, hf⟩ := gd_some hf
  obtain ⟨h149, e150, hf⟩ := gu_some hf
  refine sI_pr (idx := 84) (ci := 12) (k := 36) (n := 47) (pc' := 203) (by decide +kernel) fl_X12_84 (by decide +kernel) rfl (fun _ => rfl) (fun _ => rfl) ⟨rfl, rfl, rfl⟩ rfl g148 ?_
  rw [← e150]; clear e150
  refine sd_aload_n (k := 0) (i := 0) (q := 0) (pc' := 204) (by decide +kernel) rfl rfl ?_
  refine sd_bipush (n := 10) (v := 10) (pc' := 206) (by decide +kernel) (by decide) ?_
  obtain ⟨g151, hf⟩ := gd_some hf
  obtain ⟨h152, e153, hf⟩ := gu_some hf
  refine sd_newA (k := 0) (N := 10) (pc' := 208) h0s (by decide +kernel) na_int (by decide) (by decide) (by decide) (by decide) g151 ?_
  rw [← e153]; clear e153
  obtain ⟨g154, hf⟩ := gd_some hf
  obtain ⟨h155, e156, hf⟩ := gu_some hf
  refine sI_pr (idx := 87) (ci := 12) (k := 40) (n := 47) (pc' := 211) (by decide +kernel) fl_X12_87 (by decide +kernel) rfl (fun _ => rfl) (fun _ => rfl) ⟨rfl, rfl, rfl⟩ rfl g154 ?_
  rw [← e156]; clear e156
  refine sd_aload_n (k := 0) (i := 0) (q := 0) (pc' := 212) (by decide +kernel) rfl rfl ?_
  refine sd_sipush (n := 144) (v := 144) (pc' := 215) (by decide +kernel) (by decide) ?_
  obtain ⟨g157, hf⟩ := gd_some hf
  obtain ⟨h158, e159, hf⟩ := gu_some hf
  refine sd_newA (k := 1) (N := 144) (pc' := 217) h0s (by decide +kernel) na_double (by decide) (by decide) (by decide) (by decide) g157 ?_
  rw [← e159]; clear e159
  obtain ⟨g160, hf⟩ := gd_some hf
  obtain ⟨h161, e162, hf⟩ := gu_some hf
  refine sI_pr (idx := 90) (ci := 12) (k := 41) (n := 47) (pc' := 220) (by decide +kernel) fl_X12_90 (by decide +kernel) rfl (fun _ => rfl) (fun _ => rfl) ⟨rfl, rfl, rfl⟩ rfl g160 ?_
  rw [← e162]; clear e162
  refine sd_aload_n (k := 0) (i := 0) (q := 0) (pc' := 221) (by decide +kernel) rfl rfl ?_
  refine sd_sipush (n := 144) (v := 144) (pc' := 224) (by decide +kernel) (by decide) ?_
  obtain ⟨g163, hf⟩ := gd_some hf
  obtain ⟨h164, e165, hf⟩ := gu_some hf
  refine sd_newA (k := 1) (N := 144) (pc' := 226) h0s (by decide +kernel) na_double (by decide) (by decide) (by decide) (by decide) g163 ?_
  rw [← e165]; clear e165
  obtain ⟨g166, hf⟩ := gd_some hf
  obtain ⟨h167, e168, hf⟩ := gu_some hf
  refine sI_pr (idx := 93) (ci := 12) (k := 42) (n := 47) (pc' := 229) (by decide +kernel) fl_X12_93 (by decide +kernel) rfl (fun _ => rfl) (fun _ => rfl) ⟨rfl, rfl, rfl⟩ rfl g166 ?_
  rw [← e168]; clear e168
  refine sd_aload_n (k := 0) (i := 0) (q := 0) (pc' := 230) (by decide +kernel) rfl rfl ?_
  refine sd_sipush (n := 144) (v := 144) (pc' := 233) (by decide +kernel) (by decide) ?_
  obtain ⟨g169, hf⟩ := gd_some hf
  obtain ⟨h170, e171, hf⟩ := gu_some hf
  refine sd_newA (k := 0) (N := 144) (pc' := 235) h0s (by decide +kernel) na_int (by decide) (by decide) (by decide) (by decide) g169 ?_
  rw [← e171]; clear e171
  obtain ⟨g172, hf⟩ := gd_some hf
  obtain ⟨h173, e174, hf⟩ := gu_some hf
  refine sI_pr (idx := 96) (ci := 12) (k := 43) (n := 47) (pc' := 238) (by decide +kernel) fl_X12_96 (by decide +kernel) rfl (fun _ => rfl) (fun _ => rfl) ⟨rfl, rfl, rfl⟩ rfl g172 ?_
  rw [← e174]; clear e174
  refine sd_aload_n (k := 0) (i := 0) (q := 0) (pc' := 239) (by decide +kernel) rfl rfl ?_
  refine sd_bipush (n := 10) (v := 10) (pc' := 241) (by decide +kernel) (by decide) ?_
  obtain ⟨g175, hf⟩ := gd_some hf
  obtain ⟨h176, e177, hf⟩ := gu_some hf
  refine sd_newA (k := 0) (N := 10) (pc' := 243) h0s (by decide +kernel) na_int (by decide) (by decide) (by decide) (by decide) g175 ?_
  rw [← e177]; clear e177
  obtain ⟨g178, hf⟩ := gd_some hf
  obtain ⟨h179, e180, hf⟩ := gu_some hf
  refine sI_pr (idx := 99) (ci := 12) (k := 44) (n := 47) (pc' := 246) (by decide +kernel) fl_X12_99 (by decide +kernel) rfl (fun _ => rfl) (fun _ => rfl) ⟨rfl, rfl, rfl⟩ rfl g178 ?_
  rw [← e180]; clear e180
  refine sd_aload_n (k := 0) (i := 0) (q := 0) (pc' := 247) (by decide +kernel) rfl rfl ?_
  refine sd_iconst (n := 3) (v := 3) (pc' := 248) (by decide +kernel) (by decide) ?_
  obtain ⟨g181, hf⟩ := gd_some hf
  obtain ⟨h182, e183, hf⟩ := gu_some hf
  refine sd_newA (k := 0) (N := 3) (pc' := 250) h0s (by decide +kernel) na_int (by decide) (by decide) (by decide) (by decide) g181 ?_
  rw [← e183]; clear e183
  obtain ⟨g184, hf⟩ := gd_some hf
  obtain ⟨h185, e186, hf⟩ := gu_some hf
  refine sI_pr (idx := 102) (ci := 12) (k := 45) (n := 47) (pc' := 253) (by decide +kernel) fl_X12_102 (by decide +kernel) rfl (fun _ => rfl) (fun _ => rfl) ⟨rfl, rfl, rfl⟩ rfl g184 ?_
  rw [← e186]; clear e186
  refine sd_aload_n (k := 0) (i := 0) (q := 0) (pc' := 254) (by decide +kernel) rfl rfl ?_
  refine sd_iconst (n := 3) (v := 3) (pc' := 255) (by decide +kernel) (by decide) ?_
  obtain ⟨g187, hf⟩ := gd_some hf
  obtain ⟨h188, e189, hf⟩ := gu_some hf
  refine sd_newA (k := 0) (N := 3) (pc' := 257) h0s (by decide +kernel) na_int (by decide) (by decide) (by decide) (by decide) g187 ?_
  rw [← e189]; clear e189
  obtain ⟨g190, hf⟩ := gd_some hf
  obtain ⟨h191, e192, hf⟩ := gu_some hf
  refine sI_pr (idx := 105) (ci := 12) (k := 46) (n := 47) (pc' := 260) (by decide +kernel) fl_X12_105 (by decide +kernel) rfl (fun _ => rfl) (fun _ => rfl) ⟨rfl, rfl, rfl⟩ rfl g190 ?_
  rw [← e192]; clear e192
  refine sd_iconst (n := 0) (v := 0) (pc' := 261) (by decide +kernel) (by decide) ?_
  refine sd_istore_n (k := 1) (i := 1) (pc' := 262) (lo' := [(1, .int 0), (0, .ref (G.1 + this))]) (by decide +kernel) rfl (by decide) rfl ?_
  refine sd_J.sub (lo' := [(0, .ref (G.1 + this)), (1, .int 0)]) [1, 0] rfl ?_
  exact J_YM_init_L262 h0s hE _ _ _ _ hf
