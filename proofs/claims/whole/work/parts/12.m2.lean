theorem fl_X2_18 : sd_fl RX2 18 2 1 := ⟨sd_mem (i := 253) (by decide +kernel), by decide, by decide⟩
theorem ml_X2_22 : Cond.methodLink RX2 22 yX9_isDone ∈ sd_tb := sd_mem (i := 717) (by decide +kernel)
theorem mv_XA_isDone : sd_mV M_XA_isDone 2 := ⟨sd_mem (i := 718) (by decide +kernel), sd_mem (i := 719) (by decide +kernel), ⟨sd_mem (i := 720) (by decide +kernel), sd_mem (i := 111) (by decide +kernel), by decide +kernel, by decide +kernel, by decide +kernel⟩⟩
def M_XL_turnsDone : sd_MX := (yX2_turnsDone, cX2_turnsDone, 5, (some .int), { frames := 3, cells := 0, slots := 0, locals := 84 })
def XL_turnsDone_B27 (h : sd_H) (K5 : Nat → Nat → Int32 → Int32 → Option Int32) (l1 : Nat) (l2 : Nat) (l3 : Int32) (l4 : Int32) : Option Int32 :=
  K5 l1 l2 l3 (l4 + 1)
set_option maxHeartbeats 4000000 in
set_option maxRecDepth 100000 in
theorem J_XL_turnsDone_B27 {G : sd_GX} {X : sd_CX} (hE : ∀ g : sd_H, sd_end G X M_XL_turnsDone (sd_F g)) {h : sd_H} {K5 : Nat → Nat → Int32 → Int32 → Option Int32} {r : Int32} (hK5 : ∀ (l1 : Nat) (l2 : Nat) (l3 : Int32) (l4 : Int32), sd_SH l1 = (9, 6) → sd_SH l2 = (6, 4) → K5 l1 l2 l3 l4 = some r → sd_J G X (sd_QR G X M_XL_turnsDone (some (.int r), sd_F h)) M_XL_turnsDone 5 [(0, .ref (G.1 + 6)), (1, .ref (G.1 + l1)), (2, .ref (G.1 + l2)), (3, .int l3), (4, .int l4)] [] (sd_F h)) {l1 : Nat} {l2 : Nat} {l3 : Int32} {l4 : Int32} (p1 : sd_SH l1 = (9, 6)) (p2 : sd_SH l2 = (6, 4)) (hf : XL_turnsDone_B27 h K5 l1 l2 l3 l4 = some r) : sd_J G X (sd_QR G X M_XL_turnsDone (some (.int r), sd_F h)) M_XL_turnsDone 27 [(0, .ref (G.1 + 6)), (1, .ref (G.1 + l1)), (2, .ref (G.1 + l2)), (3, .int l3), (4, .int l4)] [] (sd_F h) := by
  unfold XL_turnsDone_B27 at hf
  refine sd_iinc (i := 4) (q := 4) (n := 1) (v := (l4 + 1)) (pc' := 30) (lo' := [(4, .int (l4 + 1)), (0, .ref (G.1 + 6)), (1, .ref (G.1 + l1)), (2, .ref (G.1 + l2)), (3, .int l3)]) (by decide +kernel) rfl rfl (by decide) rfl ?_
  refine sd_goto (off := -25) (tgt := 5) (pc' := 33) (by decide +kernel) ?_
  refine sd_J.sub (lo' := [(0, .ref (G.1 + 6)), (1, .ref (G.1 + l1)), (2, .ref (G.1 + l2)), (3, .int l3), (4, .int (l4 + 1))]) [1, 2, 3, 4, 0] rfl ?_
  exact hK5 _ _ _ _ p1 p2 hf
def XL_turnsDone_L5 (h : sd_H) : Nat → Nat → Nat → Int32 → Int32 → Option Int32
  | 0, _, _, _, _ => none
  | n + 1, l1, l2, l3, l4 =>
  (if (h.1 6 1) ≤ l4 then some l3 else b1 (XA_isDone h l1 l4 l2) (fun t3 => (if t3 = 0 then XL_turnsDone_B27 h (XL_turnsDone_L5 h n) l1 l2 l3 l4 else XL_turnsDone_B27 h (XL_turnsDone_L5 h n) l1 l2 (l3 + 1) l4)))
set_option maxHeartbeats 4000000 in
set_option maxRecDepth 100000 in
theorem J_XL_turnsDone_L5 {G : sd_GX} {X : sd_CX} (hE : ∀ g : sd_H, sd_end G X M_XL_turnsDone (sd_F g)) {h : sd_H} {r : Int32} : ∀ (n : Nat) (l1 : Nat) (l2 : Nat) (l3 : Int32) (l4 : Int32), sd_SH l1 = (9, 6) → sd_SH l2 = (6, 4) → XL_turnsDone_L5 h n l1 l2 l3 l4 = some r → sd_J G X (sd_QR G X M_XL_turnsDone (some (.int r), sd_F h)) M_XL_turnsDone 5 [(0, .ref (G.1 + 6)), (1, .ref (G.1 + l1)), (2, .ref (G.1 + l2)), (3, .int l3), (4, .int l4)] [] (sd_F h) := by
  intro n
  induction n with
  | zero =>
    intro l1 l2 l3 l4 p1 p2 hf
    rw [XL_turnsDone_L5] at hf
    cases hf
  | succ n ih =>
    intro l1 l2 l3 l4 p1 p2 hf
    rw [XL_turnsDone_L5] at hf
    refine sd_iload (i := 4) (q := 4) (pc' := 7) (by decide +kernel) rfl ?_
    refine sd_aload_n (k := 0) (i := 0) (q := 0) (pc' := 8) (by decide +kernel) rfl rfl ?_
    refine sF_gi (idx := 18) (ci := 2) (k := 1) (n := 3) (pc' := 11) (by decide +kernel) fl_X2_18 (by decide +kernel) rfl SH_6 ?_
    refine sd_icmp_ge (off := 22) (tgt := 33) (pc' := 14) (by decide +kernel) (fun c1 => ?_) (fun c1 => ?_)
    · replace hf := ite_p c1 hf
      refine sd_iload_n (k := 3) (i := 3) (q := 3) (pc' := 34) (by decide +kernel) rfl rfl ?_
      obtain rfl := Option.some.inj hf
      exact sd_iret (by decide +kernel) rfl (hE _)
    · replace hf := ite_n c1 hf
      refine sd_aload_n (k := 1) (i := 1) (q := 1) (pc' := 15) (by decide +kernel) rfl rfl ?_
      refine sd_iload (i := 4) (q := 4) (pc' := 17) (by decide +kernel) rfl ?_
      refine sd_aload_n (k := 2) (i := 2) (q := 2) (pc' := 18) (by decide +kernel) rfl rfl ?_
      obtain ⟨t3, q2, hf⟩ := b1_some hf
      refine sF_callV (idx := 22) (b := l1) (As := [.int l4, .ref (G.1 + l2)]) (ci := 9) (nn := 6) (pc' := 21) 2 (T_XA_isDone (G := G) (h := h) p1 p2 q2) (by decide +kernel) mv_XA_isDone ml_X2_22 (by decide +kernel) rfl rfl (Nat.le_of_ble_eq_true rfl) p1 rfl (by decide) rfl rfl ?_
      refine sd_if_eq (off := 6) (tgt := 27) (pc' := 24) (by decide +kernel) (fun c4 => ?_) (fun c4 => ?_)
      · replace hf := ite_p c4 hf
        refine sd_J.sub (lo' := [(0, .ref (G.1 + 6)), (1, .ref (G.1 + l1)), (2, .ref (G.1 + l2)), (3, .int l3), (4, .int l4)]) [0, 1, 2, 3, 4] rfl ?_
        exact J_XL_turnsDone_B27 hE ih p1 p2 hf
      · replace hf := ite_n c4 hf
        refine sd_iinc (i := 3) (q := 3) (n := 1) (v := (l3 + 1)) (pc' := 27) (lo' := [(3, .int (l3 + 1)), (0, .ref (G.1 + 6)), (1, .ref (G.1 + l1)), (2, .ref (G.1 + l2)), (4, .int l4)]) (by decide +kernel) rfl rfl (by decide) rfl ?_
        refine sd_J.sub (lo' := [(0, .ref (G.1 + 6)), (1, .ref (G.1 + l1)), (2, .ref (G.1 + l2)), (3, .int (l3 + 1)), (4, .int l4)]) [1, 2, 3, 0, 4] rfl ?_
        exact J_XL_turnsDone_B27 hE ih p1 p2 hf
def XL_turnsDone (h : sd_H) (a0 : Nat) (a1 : Nat) : Option Int32 :=
  XL_turnsDone_L5 h FU a0 a1 0 0
set_option maxHeartbeats 4000000 in
set_option maxRecDepth 100000 in
theorem T_XL_turnsDone {G : sd_GX} {h : sd_H} {a0 : Nat} {a1 : Nat} {r : Int32} (pa0 : sd_SH a0 = (9, 6)) (pa1 : sd_SH a1 = (6, 4)) (hf : XL_turnsDone h a0 a1 = some r) : sd_RunF G M_XL_turnsDone [.ref (G.1 + 6), .ref (G.1 + a0), .ref (G.1 + a1)] h (some (.int r)) h := by
  refine sF_run ⟨rfl, rfl⟩ (by decide +kernel) (Nat.le_of_ble_eq_true rfl) (lo := [(0, .ref (G.1 + 6)), (1, .ref (G.1 + a0)), (2, .ref (G.1 + a1))]) rfl (fun X hE => ?_)
  unfold XL_turnsDone at hf
  refine sd_iconst (n := 0) (v := 0) (pc' := 1) (by decide +kernel) (by decide) ?_
  refine sd_istore_n (k := 3) (i := 3) (pc' := 2) (lo' := [(3, .int 0), (0, .ref (G.1 + 6)), (1, .ref (G.1 + a0)), (2, .ref (G.1 + a1))]) (by decide +kernel) rfl (by decide) rfl ?_
  refine sd_iconst (n := 0) (v := 0) (pc' := 3) (by decide +kernel) (by decide) ?_
  refine sd_istore (i := 4) (pc' := 5) (lo' := [(4, .int 0), (3, .int 0), (0, .ref (G.1 + 6)), (1, .ref (G.1 + a0)), (2, .ref (G.1 + a1))]) (by decide +kernel) (by decide) rfl ?_
  refine sd_J.sub (lo' := [(0, .ref (G.1 + 6)), (1, .ref (G.1 + a0)), (2, .ref (G.1 + a1)), (3, .int 0), (4, .int 0)]) [2, 3, 4, 1, 0] rfl ?_
  exact J_XL_turnsDone_L5 hE _ _ _ _ _ pa0 pa1 hf

theorem fl_X11_226 : sd_fl RX11 226 9 1 := ⟨sd_mem (i := 220) (by decide +kernel), by decide, by decide⟩
theorem fl_X11_229 : sd_fl RX11 229 9 2 := ⟨sd_mem (i := 225) (by decide +kernel), by decide, by decide⟩
theorem ml_X11_232 : Cond.methodLink RX11 232 yX10_familyOf ∈ sd_tb := sd_mem (i := 693) (by decide +kernel)
theorem mv_XY_familyOf : sd_mV M_XY_familyOf 2 := ⟨sd_mem (i := 694) (by decide +kernel), sd_mem (i := 695) (by decide +kernel), ⟨sd_mem (i := 696) (by decide +kernel), sd_mem (i := 114) (by decide +kernel), by decide +kernel, by decide +kernel, by decide +kernel⟩⟩
theorem ml_X11_236 : Cond.methodLink RX11 236 yX2_turnsDone ∈ sd_tb := sd_mem (i := 713) (by decide +kernel)
theorem mv_XL_turnsDone : sd_mV M_XL_turnsDone 2 := ⟨sd_mem (i := 714) (by decide +kernel), sd_mem (i := 715) (by decide +kernel), ⟨sd_mem (i := 716) (by decide +kernel), sd_mem (i := 110) (by decide +kernel), by decide +kernel, by decide +kernel, by decide +kernel⟩⟩
def M_XT_info : sd_MX := (yX11_info, cX11_info, 4, (some .int), { frames := 4, cells := 0, slots := 0, locals := 108 })
def XT_info (h : sd_H) (a0 : Int32) (a1 : Int32) : Option Int32 :=
  b1 (XT_isStatement h a0) (fun t2 => (if t2 = 0 then some (-2) else gd (sd_inB a0 5) ((if a1 = 0 then some (h.1 (8 + 5 * (a0 : Int32).toNatClampNeg) 1) else (if a1 = 1 then some (h.1 (8 + 5 * (a0 : Int32).toNatClampNeg) 2) else (if a1 = 2 then some (h.1 (8 + 5 * (a0 : Int32).toNatClampNeg) 3) else (if a1 = 3 then some (h.1 (8 + 5 * (a0 : Int32).toNatClampNeg) 4) else (if a1 = 4 then some (h.1 (8 + 5 * (a0 : Int32).toNatClampNeg) 5) else (if a1 = 5 then gd (sd_inB (h.1 (((8 + 5 * (a0 : Int32).toNatClampNeg) + 1) + 1 + 0) 0) 6) (b1 (XY_familyOf h (8 + 5 * (a0 : Int32).toNatClampNeg) (h.1 2 ((h.1 (((8 + 5 * (a0 : Int32).toNatClampNeg) + 1) + 1 + 0) 0) : Int32).toNatClampNeg)) (fun t8 => some t8)) else (if a1 = 6 then b1 (XL_turnsDone h (8 + 5 * (a0 : Int32).toNatClampNeg) 1) (fun t10 => some t10) else (some (-2))))))))))))
set_option maxHeartbeats 4000000 in
set_option maxRecDepth 100000 in
theorem T_XT_info {G : sd_GX} {h : sd_H} {a0 : Int32} {a1 : Int32} {r : Int32} (hf : XT_info h a0 a1 = some r) : sd_RunF G M_XT_info [.ref (G.1 + 0), .int a0, .int a1] h (some (.int r)) h := by
  refine sF_run ⟨rfl, rfl⟩ (by decide +kernel) (Nat.le_of_ble_eq_true rfl) (lo := [(0, .ref (G.1 + 0)), (1, .int a0), (2, .int a1)]) rfl (fun X hE => ?_)
  unfold XT_info at hf
  refine sd_aload_n (k := 0) (i := 0) (q := 0) (pc' := 1) (by decide +kernel) rfl rfl ?_
  refine sd_iload_n (k := 1) (i := 1) (q := 1) (pc' := 2) (by decide +kernel) rfl rfl ?_
  obtain ⟨t2, q1, hf⟩ := b1_some hf
  refine sF_callV (idx := 207) (b := 0) (As := [.int a0]) (ci := 11) (nn := 17) (pc' := 5) 1 (T_XT_isStatement (G := G) (h := h)  q1) (by decide +kernel) mv_XT_isStatement ml_X11_207 (by decide +kernel) rfl rfl (Nat.le_of_ble_eq_true rfl) SH_0 rfl (by decide) rfl rfl ?_
  refine sd_if_ne (off := 6) (tgt := 11) (pc' := 8) (by decide +kernel) (fun c3 => ?_) (fun c3 => ?_)
  · replace hf := ite_n c3 hf
    refine sd_aload_n (k := 0) (i := 0) (q := 0) (pc' := 12) (by decide +kernel) rfl rfl ?_
    refine sF_gr (idx := 21) (ci := 11) (k := 1) (n := 17) (r := 6) (pc' := 15) (by decide +kernel) fl_X11_21 (by decide +kernel) rfl SH_0 (by decide) (by decide +kernel) ?_
    refine sF_gr (idx := 173) (ci := 2) (k := 0) (n := 3) (r := 7) (pc' := 18) (by decide +kernel) fl_X11_173 (by decide +kernel) rfl SH_6 (by decide) (by decide +kernel) ?_
    refine sd_iload_n (k := 1) (i := 1) (q := 1) (pc' := 19) (by decide +kernel) rfl rfl ?_
    obtain ⟨g4, hf⟩ := gd_some hf
    refine sF_aald (n := 5) (r := (8 + 5 * (a0 : Int32).toNatClampNeg)) (pc' := 20) (by decide +kernel) SH_7 (by decide) g4 (rta_7 (inB_lt g4)) ?_
    refine sd_astore_n (k := 3) (i := 3) (pc' := 21) (lo' := [(3, .ref (G.1 + (8 + 5 * (a0 : Int32).toNatClampNeg))), (0, .ref (G.1 + 0)), (1, .int a0), (2, .int a1)]) (by decide +kernel) rfl (by decide) rfl ?_
    refine sd_iload_n (k := 2) (i := 2) (q := 3) (pc' := 22) (by decide +kernel) rfl rfl ?_
    by_cases c5_0 : a1 = 0
    · replace hf := ite_p c5_0 hf
      refine sd_tswIn (dflt := 106) (lo0 := 0) (hi0 := 6) (offs := #[42, 47, 52, 57, 62, 67, 93]) (len := 42) (off := 42) (tgt := 64) (pc' := 64) (by decide +kernel) (by rw [c5_0]; decide) (by rw [c5_0]; decide) (by rw [c5_0]; decide) ?_
      refine sd_aload_n (k := 3) (i := 3) (q := 0) (pc' := 65) (by decide +kernel) rfl rfl ?_
      refine sF_gi (idx := 226) (ci := 9) (k := 1) (n := 6) (pc' := 68) (by decide +kernel) fl_X11_226 (by decide +kernel) rfl (sha_7 (inB_lt g4)) ?_
      obtain rfl := Option.some.inj hf
      exact sd_iret (by decide +kernel) rfl (hE _)
    · replace hf := ite_n c5_0 hf
      by_cases c5_1 : a1 = 1
      · replace hf := ite_p c5_1 hf
        refine sd_tswIn (dflt := 106) (lo0 := 0) (hi0 := 6) (offs := #[42, 47, 52, 57, 62, 67, 93]) (len := 42) (off := 47) (tgt := 69) (pc' := 64) (by decide +kernel) (by rw [c5_1]; decide) (by rw [c5_1]; decide) (by rw [c5_1]; decide) ?_
        refine sd_aload_n (k := 3) (i := 3) (q := 0) (pc' := 70) (by decide +kernel) rfl rfl ?_
        refine sF_gi (idx := 229) (ci := 9) (k := 2) (n := 6) (pc' := 73) (by decide +kernel) fl_X11_229 (by decide +kernel) rfl (sha_7 (inB_lt g4)) ?_
        obtain rfl := Option.some.inj hf
        exact sd_iret (by decide +kernel) rfl (hE _)
      · replace hf := ite_n c5_1 hf
        by_cases c5_2 : a1 = 2
        · replace hf := ite_p c5_2 hf
          refine sd_tswIn (dflt := 106) (lo0 := 0) (hi0 := 6) (offs := #[42, 47, 52, 57, 62, 67, 93]) (len := 42) (off := 52) (tgt := 74) (pc' := 64) (by decide +kernel) (by rw [c5_2]; decide) (by rw [c5_2]; decide) (by rw [c5_2]; decide) ?_
          refine sd_aload_n (k := 3) (i := 3) (q := 0) (pc' := 75) (by decide +kernel) rfl rfl ?_
          refine sF_gi (idx := 210) (ci := 9) (k := 3) (n := 6) (pc' := 78) (by decide +kernel) fl_X11_210 (by decide +kernel) rfl (sha_7 (inB_lt g4)) ?_
          obtain rfl := Option.some.inj hf
          exact sd_iret (by decide +kernel) rfl (hE _)
        · replace hf := ite_n c5_2 hf
          by_cases c5_3 : a1 = 3
          · replace hf := ite_p c5_3 hf
            refine sd_tswIn (dflt := 106) (lo0 := 0) (hi0 := 6) (offs := #[42, 47, 52, 57, 62, 67, 93]) (len := 42) (off := 57) (tgt := 79) (pc' := 64) (by decide +kernel) (by rw [c5_3]; decide) (by rw [c5_3]; decide) (by rw [c5_3]; decide) ?_
            refine sd_aload_n (k := 3) (i := 3) (q := 0) (pc' := 80) (by decide +kernel) rfl rfl ?_
            refine sF_gi (idx := 213) (ci := 9) (k := 4) (n := 6) (pc' := 83) (by decide +kernel) fl_X11_213 (by decide +kernel) rfl (sha_7 (inB_lt g4)) ?_
            obtain rfl := Option.some.inj hf
            exact sd_iret (by decide +kernel) rfl (hE _)
          · replace hf := ite_n c5_3 hf
            by_cases c5_4 : a1 = 4
            · replace hf := ite_p c5_4 hf
              refine sd_tswIn (dflt := 106) (lo0 := 0) (hi0 := 6) (offs := #[42, 47, 52, 57, 62, 67, 93]) (len := 42) (off := 62) (tgt := 84) (pc' := 64) (by decide +kernel) (by rw [c5_4]; decide) (by rw [c5_4]; decide) (by rw [c5_4]; decide) ?_
              refine sd_aload_n (k := 3) (i := 3) (q := 0) (pc' := 85) (by decide +kernel) rfl rfl ?_
              refine sF_gi (idx := 216) (ci := 9) (k := 5) (n := 6) (pc' := 88) (by decide +kernel) fl_X11_216 (by decide +kernel) rfl (sha_7 (inB_lt g4)) ?_
              obtain rfl := Option.some.inj hf
              exact sd_iret (by decide +kernel) rfl (hE _)
            · replace hf := ite_n c5_4 hf
              by_cases c5_5 : a1 = 5
              · replace hf := ite_p c5_5 hf
                refine sd_tswIn (dflt := 106) (lo0 := 0) (hi0 := 6) (offs := #[42, 47, 52, 57, 62, 67, 93]) (len := 42) (off := 67) (tgt := 89) (pc' := 64) (by decide +kernel) (by rw [c5_5]; decide) (by rw [c5_5]; decide) (by rw [c5_5]; decide) ?_
                refine sd_aload_n (k := 0) (i := 0) (q := 1) (pc' := 90) (by decide +kernel) rfl rfl ?_
                refine sF_gr (idx := 41) (ci := 11) (k := 4) (n := 17) (r := 56) (pc' := 93) (by decide +kernel) fl_X11_41 (by decide +kernel) rfl SH_0 (by decide) (by decide +kernel) ?_
                refine sd_aload_n (k := 3) (i := 3) (q := 0) (pc' := 94) (by decide +kernel) rfl rfl ?_
                refine sd_aload_n (k := 0) (i := 0) (q := 1) (pc' := 95) (by decide +kernel) rfl rfl ?_
                refine sF_gr (idx := 12) (ci := 11) (k := 0) (n := 17) (r := 1) (pc' := 98) (by decide +kernel) fl_X11_12 (by decide +kernel) rfl SH_0 (by decide) (by decide +kernel) ?_
                refine sF_gr (idx := 119) (ci := 6) (k := 0) (n := 4) (r := 2) (pc' := 101) (by decide +kernel) fl_X11_119 (by decide +kernel) rfl SH_1 (by decide) (by decide +kernel) ?_
                refine sd_aload_n (k := 3) (i := 3) (q := 0) (pc' := 102) (by decide +kernel) rfl rfl ?_
                refine sF_gr (idx := 186) (ci := 9) (k := 0) (n := 6) (r := ((8 + 5 * (a0 : Int32).toNatClampNeg) + 1)) (pc' := 105) (by decide +kernel) fl_X11_186 (by decide +kernel) rfl (sha_7 (inB_lt g4)) (by decide) (rt_9_0 (sha_7 (inB_lt g4))) ?_
                refine sd_iconst (n := 0) (v := 0) (pc' := 106) (by decide +kernel) (by decide) ?_
                refine sF_aald (n := 3) (r := (((8 + 5 * (a0 : Int32).toNatClampNeg) + 1) + 1 + 0)) (pc' := 107) (by decide +kernel) (sh_9_0 (sha_7 (inB_lt g4))) (by decide) (by decide) (by rw [show ((0 : Int32)).toNatClampNeg = 0 from by decide]; exact rta_R (sh_9_0 (sha_7 (inB_lt g4))) (by decide)) ?_
                refine sF_gi (idx := 190) (ci := 5) (k := 0) (n := 4) (pc' := 110) (by decide +kernel) fl_X11_190 (by decide +kernel) rfl (sha_R (sh_9_0 (sha_7 (inB_lt g4))) (j := 0) (by decide)) ?_
                obtain ⟨g6, hf⟩ := gd_some hf
                refine sF_iald (n := 6) (pc' := 111) (by decide +kernel) SH_2 g6 ?_
                obtain ⟨t8, q7, hf⟩ := b1_some hf
                refine sF_callV (idx := 232) (b := 56) (As := [.ref (G.1 + (8 + 5 * (a0 : Int32).toNatClampNeg)), .int (h.1 2 ((h.1 (((8 + 5 * (a0 : Int32).toNatClampNeg) + 1) + 1 + 0) 0) : Int32).toNatClampNeg)]) (ci := 10) (nn := 6) (pc' := 114) 2 (T_XY_familyOf (G := G) (h := h) (sha_7 (inB_lt g4)) q7) (by decide +kernel) mv_XY_familyOf ml_X11_232 (by decide +kernel) rfl rfl (Nat.le_of_ble_eq_true rfl) SH_56 rfl (by decide) rfl rfl ?_
                obtain rfl := Option.some.inj hf
                exact sd_iret (by decide +kernel) rfl (hE _)
              · replace hf := ite_n c5_5 hf
                by_cases c5_6 : a1 = 6
                · replace hf := ite_p c5_6 hf
                  refine sd_tswIn (dflt := 106) (lo0 := 0) (hi0 := 6) (offs := #[42, 47, 52, 57, 62, 67, 93]) (len := 42) (off := 93) (tgt := 115) (pc' := 64) (by decide +kernel) (by rw [c5_6]; decide) (by rw [c5_6]; decide) (by rw [c5_6]; decide) ?_
                  refine sd_aload_n (k := 0) (i := 0) (q := 1) (pc' := 116) (by decide +kernel) rfl rfl ?_
                  refine sF_gr (idx := 21) (ci := 11) (k := 1) (n := 17) (r := 6) (pc' := 119) (by decide +kernel) fl_X11_21 (by decide +kernel) rfl SH_0 (by decide) (by decide +kernel) ?_
                  refine sd_aload_n (k := 3) (i := 3) (q := 0) (pc' := 120) (by decide +kernel) rfl rfl ?_
                  refine sd_aload_n (k := 0) (i := 0) (q := 1) (pc' := 121) (by decide +kernel) rfl rfl ?_
                  refine sF_gr (idx := 12) (ci := 11) (k := 0) (n := 17) (r := 1) (pc' := 124) (by decide +kernel) fl_X11_12 (by decide +kernel) rfl SH_0 (by decide) (by decide +kernel) ?_
                  obtain ⟨t10, q9, hf⟩ := b1_some hf
                  refine sF_callV (idx := 236) (b := 6) (As := [.ref (G.1 + (8 + 5 * (a0 : Int32).toNatClampNeg)), .ref (G.1 + 1)]) (ci := 2) (nn := 3) (pc' := 127) 2 (T_XL_turnsDone (G := G) (h := h) (sha_7 (inB_lt g4)) SH_1 q9) (by decide +kernel) mv_XL_turnsDone ml_X11_236 (by decide +kernel) rfl rfl (Nat.le_of_ble_eq_true rfl) SH_6 rfl (by decide) rfl rfl ?_
                  obtain rfl := Option.some.inj hf
                  exact sd_iret (by decide +kernel) rfl (hE _)
                · replace hf := ite_n c5_6 hf
                  have nc5_0 := ne_ti c5_0 (n := 0) (by decide)
                  have nc5_1 := ne_ti c5_1 (n := 1) (by decide)
                  have nc5_2 := ne_ti c5_2 (n := 2) (by decide)
                  have nc5_3 := ne_ti c5_3 (n := 3) (by decide)
                  have nc5_4 := ne_ti c5_4 (n := 4) (by decide)
                  have nc5_5 := ne_ti c5_5 (n := 5) (by decide)
                  have nc5_6 := ne_ti c5_6 (n := 6) (by decide)
                  refine sd_tswOut (dflt := 106) (lo0 := 0) (hi0 := 6) (offs := #[42, 47, 52, 57, 62, 67, 93]) (len := 42) (tgt := 128) (pc' := 64) (by decide +kernel) (by omega) ?_
                  refine sd_bipush (n := -2) (v := (-2)) (pc' := 130) (by decide +kernel) (by decide) ?_
                  obtain rfl := Option.some.inj hf
                  exact sd_iret (by decide +kernel) rfl (hE _)
  · replace hf := ite_p c3 hf
    refine sd_bipush (n := -2) (v := (-2)) (pc' := 10) (by decide +kernel) (by decide) ?_
    obtain rfl := Option.some.inj hf
    exact sd_iret (by decide +kernel) rfl (hE _)

def M_XT_reference : sd_MX := (yX11_reference, cX11_reference, 5, (some .int), { frames := 4, cells := 0, slots := 0, locals := 105 })
def XT_reference (h : sd_H) (a0 : Int32) (a1 : Int32) (a2 : Int32) : Option Int32 :=
  b1 (XT_isReference h a0 a1) (fun t2 => (if t2 = 0 then some (-2147483648) else gd (sd_inB a0 5) (gd (sd_inB a1 3) ((if a2 = 0 then some (h.1 (((8 + 5 * (a0 : Int32).toNatClampNeg) + 1) + 1 + (a1 : Int32).toNatClampNeg) 0) else (if a2 = 1 then some (h.1 (((8 + 5 * (a0 : Int32).toNatClampNeg) + 1) + 1 + (a1 : Int32).toNatClampNeg) 1) else (if a2 = 2 then some (h.1 (((8 + 5 * (a0 : Int32).toNatClampNeg) + 1) + 1 + (a1 : Int32).toNatClampNeg) 2) else (if a2 = 3 then some (h.1 (((8 + 5 * (a0 : Int32).toNatClampNeg) + 1) + 1 + (a1 : Int32).toNatClampNeg) 3) else (some (-2147483648))))))))))
set_option maxHeartbeats 4000000 in
set_option maxRecDepth 100000 in
theorem T_XT_reference {G : sd_GX} {h : sd_H} {a0 : Int32} {a1 : Int32} {a2 : Int32} {r : Int32} (hf : XT_reference h a0 a1 a2 = some r) : sd_RunF G M_XT_reference [.ref (G.1 + 0), .int a0, .int a1, .int a2] h (some (.int r)) h := by
  refine sF_run ⟨rfl, rfl⟩ (by decide +kernel) (Nat.le_of_ble_eq_true rfl) (lo := [(0, .ref (G.1 + 0)), (1, .int a0), (2, .int a1), (3, .int a2)]) rfl (fun X hE => ?_)
  unfold XT_reference at hf
  refine sd_aload_n (k := 0) (i := 0) (q := 0) (pc' := 1) (by decide +kernel) rfl rfl ?_
  refine sd_iload_n (k := 1) (i := 1) (q := 1) (pc' := 2) (by decide +kernel) rfl rfl ?_
  refine sd_iload_n (k := 2) (i := 2) (q := 2) (pc' := 3) (by decide +kernel) rfl rfl ?_
  obtain ⟨t2, q1, hf⟩ := b1_some hf
  refine sF_callV (idx := 183) (b := 0) (As := [.int a0, .int a1]) (ci := 11) (nn := 17) (pc' := 6) 2 (T_XT_isReference (G := G) (h := h)  q1) (by decide +kernel) mv_XT_isReference ml_X11_183 (by decide +kernel) rfl rfl (Nat.le_of_ble_eq_true rfl) SH_0 rfl (by decide) rfl rfl ?_
  refine sd_if_ne (off := 6) (tgt := 12) (pc' := 9) (by decide +kernel) (fun c3 => ?_) (fun c3 => ?_)
  · replace hf := ite_n c3 hf
    refine sd_aload_n (k := 0) (i := 0) (q := 0) (pc' := 13) (by decide +kernel) rfl rfl ?_
    refine sF_gr (idx := 21) (ci := 11) (k := 1) (n := 17) (r := 6) (pc' := 16) (by decide +kernel) fl_X11_21 (by decide +kernel) rfl SH_0 (by decide) (by decide +kernel) ?_
    refine sF_gr (idx := 173) (ci := 2) (k := 0) (n := 3) (r := 7) (pc' := 19) (by decide +kernel) fl_X11_173 (by decide +kernel) rfl SH_6 (by decide) (by decide +kernel) ?_
    refine sd_iload_n (k := 1) (i := 1) (q := 1) (pc' := 20) (by decide +kernel) rfl rfl ?_
    obtain ⟨g4, hf⟩ := gd_some hf
    refine sF_aald (n := 5) (r := (8 + 5 * (a0 : Int32).toNatClampNeg)) (pc' := 21) (by decide +kernel) SH_7 (by decide) g4 (rta_7 (inB_lt g4)) ?_
    refine sF_gr (idx := 186) (ci := 9) (k := 0) (n := 6) (r := ((8 + 5 * (a0 : Int32).toNatClampNeg) + 1)) (pc' := 24) (by decide +kernel) fl_X11_186 (by decide +kernel) rfl (sha_7 (inB_lt g4)) (by decide) (rt_9_0 (sha_7 (inB_lt g4))) ?_
    refine sd_iload_n (k := 2) (i := 2) (q := 2) (pc' := 25) (by decide +kernel) rfl rfl ?_
    obtain ⟨g5, hf⟩ := gd_some hf
    refine sF_aald (n := 3) (r := (((8 + 5 * (a0 : Int32).toNatClampNeg) + 1) + 1 + (a1 : Int32).toNatClampNeg)) (pc' := 26) (by decide +kernel) (sh_9_0 (sha_7 (inB_lt g4))) (by decide) g5 (rta_R (sh_9_0 (sha_7 (inB_lt g4))) (inB_lt g5)) ?_
    refine sd_astore (i := 4) (pc' := 28) (lo' := [(4, .ref (G.1 + (((8 + 5 * (a0 : Int32).toNatClampNeg) + 1) + 1 + (a1 : Int32).toNatClampNeg))), (0, .ref (G.1 + 0)), (1, .int a0), (2, .int a1), (3, .int a2)]) (by decide +kernel) (by decide) rfl ?_
    refine sd_iload_n (k := 3) (i := 3) (q := 4) (pc' := 29) (by decide +kernel) rfl rfl ?_
    by_cases c6_0 : a2 = 0
    · replace hf := ite_p c6_0 hf
      refine sd_tswIn (dflt := 55) (lo0 := 0) (hi0 := 3) (offs := #[31, 37, 43, 49]) (len := 31) (off := 31) (tgt := 60) (pc' := 60) (by decide +kernel) (by rw [c6_0]; decide) (by rw [c6_0]; decide) (by rw [c6_0]; decide) ?_
      refine sd_aload (i := 4) (q := 0) (pc' := 62) (by decide +kernel) rfl ?_
      refine sF_gi (idx := 190) (ci := 5) (k := 0) (n := 4) (pc' := 65) (by decide +kernel) fl_X11_190 (by decide +kernel) rfl (sha_R (sh_9_0 (sha_7 (inB_lt g4))) (inB_lt g5)) ?_
      obtain rfl := Option.some.inj hf
      exact sd_iret (by decide +kernel) rfl (hE _)
    · replace hf := ite_n c6_0 hf
      by_cases c6_1 : a2 = 1
      · replace hf := ite_p c6_1 hf
        refine sd_tswIn (dflt := 55) (lo0 := 0) (hi0 := 3) (offs := #[31, 37, 43, 49]) (len := 31) (off := 37) (tgt := 66) (pc' := 60) (by decide +kernel) (by rw [c6_1]; decide) (by rw [c6_1]; decide) (by rw [c6_1]; decide) ?_
        refine sd_aload (i := 4) (q := 0) (pc' := 68) (by decide +kernel) rfl ?_
        refine sF_gi (idx := 195) (ci := 5) (k := 1) (n := 4) (pc' := 71) (by decide +kernel) fl_X11_195 (by decide +kernel) rfl (sha_R (sh_9_0 (sha_7 (inB_lt g4))) (inB_lt g5)) ?_
        obtain rfl := Option.some.inj hf
        exact sd_iret (by decide +kernel) rfl (hE _)
      · replace hf := ite_n c6_1 hf
        by_cases c6_2 : a2 = 2
        · replace hf := ite_p c6_2 hf
          refine sd_tswIn (dflt := 55) (lo0 := 0) (hi0 := 3) (offs := #[31, 37, 43, 49]) (len := 31) (off := 43) (tgt := 72) (pc' := 60) (by decide +kernel) (by rw [c6_2]; decide) (by rw [c6_2]; decide) (by rw [c6_2]; decide) ?_
          refine sd_aload (i := 4) (q := 0) (pc' := 74) (by decide +kernel) rfl ?_
          refine sF_gi (idx := 198) (ci := 5) (k := 2) (n := 4) (pc' := 77) (by decide +kernel) fl_X11_198 (by decide +kernel) rfl (sha_R (sh_9_0 (sha_7 (inB_lt g4))) (inB_lt g5)) ?_
          obtain rfl := Option.some.inj hf
          exact sd_iret (by decide +kernel) rfl (hE _)
        · replace hf := ite_n c6_2 hf
          by_cases c6_3 : a2 = 3
          · replace hf := ite_p c6_3 hf
            refine sd_tswIn (dflt := 55) (lo0 := 0) (hi0 := 3) (offs := #[31, 37, 43, 49]) (len := 31) (off := 49) (tgt := 78) (pc' := 60) (by decide +kernel) (by rw [c6_3]; decide) (by rw [c6_3]; decide) (by rw [c6_3]; decide) ?_
            refine sd_aload (i := 4) (q := 0) (pc' := 80) (by decide +kernel) rfl ?_
            refine sF_gi (idx := 201) (ci := 5) (k := 3) (n := 4) (pc' := 83) (by decide +kernel) fl_X11_201 (by decide +kernel) rfl (sha_R (sh_9_0 (sha_7 (inB_lt g4))) (inB_lt g5)) ?_
            obtain rfl := Option.some.inj hf
            exact sd_iret (by decide +kernel) rfl (hE _)
          · replace hf := ite_n c6_3 hf
            have nc6_0 := ne_ti c6_0 (n := 0) (by decide)
            have nc6_1 := ne_ti c6_1 (n := 1) (by decide)
            have nc6_2 := ne_ti c6_2 (n := 2) (by decide)
            have nc6_3 := ne_ti c6_3 (n := 3) (by decide)
            refine sd_tswOut (dflt := 55) (lo0 := 0) (hi0 := 3) (offs := #[31, 37, 43, 49]) (len := 31) (tgt := 84) (pc' := 60) (by decide +kernel) (by omega) ?_
            refine sd_ldc (idx := 240) (v := (-2147483648)) (pc' := 86) (by decide +kernel) (sd_mem (i := 729) (by decide +kernel)) ?_
            obtain rfl := Option.some.inj hf
            exact sd_iret (by decide +kernel) rfl (hE _)
  · replace hf := ite_p c3 hf
    refine sd_ldc (idx := 240) (v := (-2147483648)) (pc' := 11) (by decide +kernel) (sd_mem (i := 729) (by decide +kernel)) ?_
    obtain rfl := Option.some.inj hf
    exact sd_iret (by decide +kernel) rfl (hE _)

theorem ml_X11_412 : Cond.methodLink RX11 412 yX5_isConstant ∈ sd_tb := sd_mem (i := 738) (by decide +kernel)
def M_XT_hasSection : sd_MX := (yX11_hasSection, cX11_hasSection, 2, (some .boolean), { frames := 3, cells := 0, slots := 0, locals := 83 })
def XT_hasSection (h : sd_H) (a0 : Int32) : Option Int32 :=
  (if a0 < 0 then some 0 else b1 (XT_isStatement h (a0 / 3)) (fun t3 => (if t3 = 0 then some 0 else gd (sd_inB (a0 / 3) 5) (gd (sd_inB (a0 - a0 / 3 * 3) 3) (b1 (XF_isConstant h (((8 + 5 * ((a0 / 3) : Int32).toNatClampNeg) + 1) + 1 + ((a0 - a0 / 3 * 3) : Int32).toNatClampNeg)) (fun t8 => (if t8 = 0 then some 1 else some 0)))))))
set_option maxHeartbeats 4000000 in
set_option maxRecDepth 100000 in
theorem T_XT_hasSection {G : sd_GX} {h : sd_H} {a0 : Int32} {r : Int32} (hf : XT_hasSection h a0 = some r) : sd_RunF G M_XT_hasSection [.ref (G.1 + 0), .int a0] h (some (.int r)) h := by
  refine sF_run ⟨rfl, rfl⟩ (by decide +kernel) (Nat.le_of_ble_eq_true rfl) (lo := [(0, .ref (G.1 + 0)), (1, .int a0)]) rfl (fun X hE => ?_)
  unfold XT_hasSection at hf
  refine sd_iload_n (k := 1) (i := 1) (q := 1) (pc' := 1) (by decide +kernel) rfl rfl ?_
  refine sd_if_lt (off := 41) (tgt := 42) (pc' := 4) (by decide +kernel) (fun c1 => ?_) (fun c1 => ?_)
  · replace hf := ite_p c1 hf
    refine sd_iconst (n := 0) (v := 0) (pc' := 43) (by decide +kernel) (by decide) ?_
    obtain rfl := Option.some.inj hf
    exact sd_zret (by decide +kernel) rfl rfl (hE _)
  · replace hf := ite_n c1 hf
    refine sd_aload_n (k := 0) (i := 0) (q := 0) (pc' := 5) (by decide +kernel) rfl rfl ?_
    refine sd_iload_n (k := 1) (i := 1) (q := 1) (pc' := 6) (by decide +kernel) rfl rfl ?_
    refine sd_iconst (n := 3) (v := 3) (pc' := 7) (by decide +kernel) (by decide) ?_
    refine sd_idiv (pc' := 8) (by decide +kernel) (by decide) ?_
    obtain ⟨t3, q2, hf⟩ := b1_some hf
    refine sF_callV (idx := 207) (b := 0) (As := [.int (a0 / 3)]) (ci := 11) (nn := 17) (pc' := 11) 1 (T_XT_isStatement (G := G) (h := h)  q2) (by decide +kernel) mv_XT_isStatement ml_X11_207 (by decide +kernel) rfl rfl (Nat.le_of_ble_eq_true rfl) SH_0 rfl (by decide) rfl rfl ?_
    refine sd_if_eq (off := 31) (tgt := 42) (pc' := 14) (by decide +kernel) (fun c4 => ?_) (fun c4 => ?_)
    · replace hf := ite_p c4 hf
      refine sd_iconst (n := 0) (v := 0) (pc' := 43) (by decide +kernel) (by decide) ?_
      obtain rfl := Option.some.inj hf
      exact sd_zret (by decide +kernel) rfl rfl (hE _)
    · replace hf := ite_n c4 hf
      refine sd_aload_n (k := 0) (i := 0) (q := 0) (pc' := 15) (by decide +kernel) rfl rfl ?_
      refine sF_gr (idx := 21) (ci := 11) (k := 1) (n := 17) (r := 6) (pc' := 18) (by decide +kernel) fl_X11_21 (by decide +kernel) rfl SH_0 (by decide) (by decide +kernel) ?_
      refine sF_gr (idx := 173) (ci := 2) (k := 0) (n := 3) (r := 7) (pc' := 21) (by decide +kernel) fl_X11_173 (by decide +kernel) rfl SH_6 (by decide) (by decide +kernel) ?_
      refine sd_iload_n (k := 1) (i := 1) (q := 1) (pc' := 22) (by decide +kernel) rfl rfl ?_
      refine sd_iconst (n := 3) (v := 3) (pc' := 23) (by decide +kernel) (by decide) ?_
      refine sd_idiv (pc' := 24) (by decide +kernel) (by decide) ?_
      obtain ⟨g5, hf⟩ := gd_some hf
      refine sF_aald (n := 5) (r := (8 + 5 * ((a0 / 3) : Int32).toNatClampNeg)) (pc' := 25) (by decide +kernel) SH_7 (by decide) g5 (rta_7 (inB_lt g5)) ?_
      refine sF_gr (idx := 186) (ci := 9) (k := 0) (n := 6) (r := ((8 + 5 * ((a0 / 3) : Int32).toNatClampNeg) + 1)) (pc' := 28) (by decide +kernel) fl_X11_186 (by decide +kernel) rfl (sha_7 (inB_lt g5)) (by decide) (rt_9_0 (sha_7 (inB_lt g5))) ?_
      refine sd_iload_n (k := 1) (i := 1) (q := 1) (pc' := 29) (by decide +kernel) rfl rfl ?_
      refine sd_iconst (n := 3) (v := 3) (pc' := 30) (by decide +kernel) (by decide) ?_
      refine sd_irem (pc' := 31) (by decide +kernel) (by decide) ?_
      obtain ⟨g6, hf⟩ := gd_some hf
      refine sF_aald (n := 3) (r := (((8 + 5 * ((a0 / 3) : Int32).toNatClampNeg) + 1) + 1 + ((a0 - a0 / 3 * 3) : Int32).toNatClampNeg)) (pc' := 32) (by decide +kernel) (sh_9_0 (sha_7 (inB_lt g5))) (by decide) g6 (rta_R (sh_9_0 (sha_7 (inB_lt g5))) (inB_lt g6)) ?_
      obtain ⟨t8, q7, hf⟩ := b1_some hf
      refine sF_callV (idx := 412) (b := (((8 + 5 * ((a0 / 3) : Int32).toNatClampNeg) + 1) + 1 + ((a0 - a0 / 3 * 3) : Int32).toNatClampNeg)) (As := []) (ci := 5) (nn := 4) (pc' := 35) 0 (T_XF_isConstant (G := G) (h := h) (sha_R (sh_9_0 (sha_7 (inB_lt g5))) (inB_lt g6)) q7) (by decide +kernel) mv_XF_isConstant ml_X11_412 (by decide +kernel) rfl rfl (Nat.le_of_ble_eq_true rfl) (sha_R (sh_9_0 (sha_7 (inB_lt g5))) (inB_lt g6)) rfl (by decide) rfl rfl ?_
      refine sd_if_ne (off := 7) (tgt := 42) (pc' := 38) (by decide +kernel) (fun c9 => ?_) (fun c9 => ?_)
      · replace hf := ite_n c9 hf
        refine sd_iconst (n := 0) (v := 0) (pc' := 43) (by decide +kernel) (by decide) ?_
        obtain rfl := Option.some.inj hf
        exact sd_zret (by decide +kernel) rfl rfl (hE _)
      · replace hf := ite_p c9 hf
        refine sd_iconst (n := 1) (v := 1) (pc' := 39) (by decide +kernel) (by decide) ?_
        refine sd_goto (off := 4) (tgt := 43) (pc' := 42) (by decide +kernel) ?_
        obtain rfl := Option.some.inj hf
        exact sd_zret (by decide +kernel) rfl rfl (hE _)

def M_XT_isTurn : sd_MX := (yX11_isTurn, cX11_isTurn, 2, (some .boolean), { frames := 2, cells := 0, slots := 0, locals := 62 })
def XT_isTurn (h : sd_H) (a0 : Int32) : Option Int32 :=
  b1 (XT_within a0 0 ((h.1 6 1) - 1)) (fun t2 => gd (sd_isB t2) (some t2))
set_option maxHeartbeats 4000000 in
set_option maxRecDepth 100000 in
theorem T_XT_isTurn {G : sd_GX} {h : sd_H} {a0 : Int32} {r : Int32} (hf : XT_isTurn h a0 = some r) : sd_RunF G M_XT_isTurn [.ref (G.1 + 0), .int a0] h (some (.int r)) h := by
  refine sF_run ⟨rfl, rfl⟩ (by decide +kernel) (Nat.le_of_ble_eq_true rfl) (lo := [(0, .ref (G.1 + 0)), (1, .int a0)]) rfl (fun X hE => ?_)
  unfold XT_isTurn at hf
  refine sd_iload_n (k := 1) (i := 1) (q := 1) (pc' := 1) (by decide +kernel) rfl rfl ?_
  refine sd_iconst (n := 0) (v := 0) (pc' := 2) (by decide +kernel) (by decide) ?_
  refine sd_aload_n (k := 0) (i := 0) (q := 0) (pc' := 3) (by decide +kernel) rfl rfl ?_
  refine sF_gr (idx := 21) (ci := 11) (k := 1) (n := 17) (r := 6) (pc' := 6) (by decide +kernel) fl_X11_21 (by decide +kernel) rfl SH_0 (by decide) (by decide +kernel) ?_
  refine sF_gi (idx := 153) (ci := 2) (k := 1) (n := 3) (pc' := 9) (by decide +kernel) fl_X11_153 (by decide +kernel) rfl SH_6 ?_
  refine sd_iconst (n := 1) (v := 1) (pc' := 10) (by decide +kernel) (by decide) ?_
  refine sd_isub (pc' := 11) (by decide +kernel) ?_
  obtain ⟨t2, q1, hf⟩ := b1_some hf
  refine sF_callS (idx := 97) (As := [.int a0, .int 0, .int ((h.1 6 1) - 1)]) (pc' := 14) 3 (T_XT_within (G := G) (h := h)  q1) (by decide +kernel) mv_XT_within ml_X11_97 (by decide +kernel) rfl rfl (Nat.le_of_ble_eq_true rfl) rfl ?_
  obtain ⟨g3, hf⟩ := gd_some hf
  obtain rfl := Option.some.inj hf
  exact sd_zret (by decide +kernel) rfl g3 (hE _)

def M_XF_at : sd_MX := (yX5_at, cX5_at, 3, (some .int), { frames := 1, cells := 0, slots := 0, locals := 40 })
def XF_at (h : sd_H) (this : Nat) (a0 : Int32) (a1 : Int32) : Option Int32 :=
  some (((h.1 this 1) + ((h.1 this 2) * a0)) + ((h.1 this 3) * a1))
set_option maxHeartbeats 4000000 in
set_option maxRecDepth 100000 in
theorem T_XF_at {G : sd_GX} {h : sd_H} {this : Nat} {a0 : Int32} {a1 : Int32} {r : Int32} (pt : sd_SH this = (5, 4)) (hf : XF_at h this a0 a1 = some r) : sd_RunF G M_XF_at [.ref (G.1 + this), .int a0, .int a1] h (some (.int r)) h := by
  refine sF_run ⟨rfl, rfl⟩ (by decide +kernel) (Nat.le_of_ble_eq_true rfl) (lo := [(0, .ref (G.1 + this)), (1, .int a0), (2, .int a1)]) rfl (fun X hE => ?_)
  unfold XF_at at hf
  refine sd_aload_n (k := 0) (i := 0) (q := 0) (pc' := 1) (by decide +kernel) rfl rfl ?_
  refine sF_gi (idx := 9) (ci := 5) (k := 1) (n := 4) (pc' := 4) (by decide +kernel) fl_X5_9 (by decide +kernel) rfl pt ?_
  refine sd_aload_n (k := 0) (i := 0) (q := 0) (pc' := 5) (by decide +kernel) rfl rfl ?_
  refine sF_gi (idx := 15) (ci := 5) (k := 2) (n := 4) (pc' := 8) (by decide +kernel) fl_X5_15 (by decide +kernel) rfl pt ?_
  refine sd_iload_n (k := 1) (i := 1) (q := 1) (pc' := 9) (by decide +kernel) rfl rfl ?_
  refine sd_imul (pc' := 10) (by decide +kernel) ?_
  refine sd_iadd (pc' := 11) (by decide +kernel) ?_
  refine sd_aload_n (k := 0) (i := 0) (q := 0) (pc' := 12) (by decide +kernel) rfl rfl ?_
  refine sF_gi (idx := 18) (ci := 5) (k := 3) (n := 4) (pc' := 15) (by decide +kernel) fl_X5_18 (by decide +kernel) rfl pt ?_
  refine sd_iload_n (k := 2) (i := 2) (q := 2) (pc' := 16) (by decide +kernel) rfl rfl ?_
  refine sd_imul (pc' := 17) (by decide +kernel) ?_
  refine sd_iadd (pc' := 18) (by decide +kernel) ?_
  obtain rfl := Option.some.inj hf
  exact sd_iret (by decide +kernel) rfl (hE _)

theorem ml_X8_9 : Cond.methodLink RX8 9 yX5_at ∈ sd_tb := sd_mem (i := 751) (by decide +kernel)
theorem mv_XF_at : sd_mV M_XF_at 2 := ⟨sd_mem (i := 752) (by decide +kernel), sd_mem (i := 753) (by decide +kernel), ⟨sd_mem (i := 754) (by decide +kernel), sd_mem (i := 112) (by decide +kernel), by decide +kernel, by decide +kernel, by decide +kernel⟩⟩
theorem mm_X8_15 : sd_mm RX8 15 Lib.Math.min.name Lib.Math.min.code 2 := ⟨sd_mem (i := 755) (by decide +kernel), sd_mem (i := 756) (by decide +kernel), sd_mem (i := 126) (by decide +kernel), sd_mem (i := 757) (by decide +kernel)⟩
theorem fl_X8_20 : sd_fl RX8 20 8 0 := ⟨sd_mem (i := 330) (by decide +kernel), by decide, by decide⟩
theorem fl_X8_26 : sd_fl RX8 26 5 3 := ⟨sd_mem (i := 199) (by decide +kernel), by decide, by decide⟩
theorem mm_X8_29 : sd_mm RX8 29 Lib.Math.abs.name Lib.Math.abs.code 1 := ⟨sd_mem (i := 758) (by decide +kernel), sd_mem (i := 759) (by decide +kernel), sd_mem (i := 126) (by decide +kernel), sd_mem (i := 760) (by decide +kernel)⟩
theorem fl_X8_33 : sd_fl RX8 33 8 1 := ⟨sd_mem (i := 331) (by decide +kernel), by decide, by decide⟩
theorem fl_X8_36 : sd_fl RX8 36 8 2 := ⟨sd_mem (i := 332) (by decide +kernel), by decide, by decide⟩
def M_XS_lay : sd_MX := (yX8_lay, cX8_lay, 7, none, { frames := 2, cells := 0, slots := 0, locals := 62 })
def XS_lay_B74 (h : sd_H) (s0 : Int32) (s1 : Nat) : Option sd_H :=
  hb (wI h s1 2 s0) (fun h12 => some h12)
set_option maxHeartbeats 4000000 in
set_option maxRecDepth 100000 in
theorem J_XS_lay_B74 {G : sd_GX} {X : sd_CX} (hE : ∀ g : sd_H, sd_end G X M_XS_lay (sd_F g)) {h : sd_H} {r : sd_H} {s0 : Int32} {s1 : Nat} (ps1 : sd_SH s1 = (8, 3)) (hf : XS_lay_B74 h s0 s1 = some r) : sd_J G X (sd_QR G X M_XS_lay (none, sd_F r)) M_XS_lay 74 [] [.int s0, .ref (G.1 + s1)] (sd_F h) := by
  unfold XS_lay_B74 at hf
  obtain ⟨h12, e13, hf⟩ := hb_some hf
  refine sF_pi (idx := 36) (ci := 8) (k := 2) (n := 3) (pc' := 77) (by decide +kernel) fl_X8_36 (by decide +kernel) rfl rfl rfl ps1 ?_
  rw [← e13]; clear e13
  obtain rfl := Option.some.inj hf
  exact sd_vret (by decide +kernel) rfl (hE _)
def XS_lay_B60 (h : sd_H) (l0 : Nat) (l3 : Int32) (l6 : Int32) (s0 : Int32) (s1 : Nat) : Option sd_H :=
  hb (wI h s1 1 s0) (fun h9 => (if l6 = 0 then XS_lay_B74 h9 l3 l0 else XS_lay_B74 h9 1 l0))
set_option maxHeartbeats 4000000 in
set_option maxRecDepth 100000 in
theorem J_XS_lay_B60 {G : sd_GX} {X : sd_CX} (hE : ∀ g : sd_H, sd_end G X M_XS_lay (sd_F g)) {h : sd_H} {r : sd_H} {l0 : Nat} {l3 : Int32} {l6 : Int32} {s0 : Int32} {s1 : Nat} (p0 : sd_SH l0 = (8, 3)) (ps1 : sd_SH s1 = (8, 3)) (hf : XS_lay_B60 h l0 l3 l6 s0 s1 = some r) : sd_J G X (sd_QR G X M_XS_lay (none, sd_F r)) M_XS_lay 60 [(0, .ref (G.1 + l0)), (3, .int l3), (6, .int l6)] [.int s0, .ref (G.1 + s1)] (sd_F h) := by
  unfold XS_lay_B60 at hf
  obtain ⟨h9, e10, hf⟩ := hb_some hf
  refine sF_pi (idx := 33) (ci := 8) (k := 1) (n := 3) (pc' := 63) (by decide +kernel) fl_X8_33 (by decide +kernel) rfl rfl rfl ps1 ?_
  rw [← e10]; clear e10
  refine sd_aload_n (k := 0) (i := 0) (q := 0) (pc' := 64) (by decide +kernel) rfl rfl ?_
  refine sd_iload (i := 6) (q := 2) (pc' := 66) (by decide +kernel) rfl ?_
  refine sd_if_eq (off := 7) (tgt := 73) (pc' := 69) (by decide +kernel) (fun c11 => ?_) (fun c11 => ?_)
  · replace hf := ite_p c11 hf
    refine sd_iload_n (k := 3) (i := 3) (q := 1) (pc' := 74) (by decide +kernel) rfl rfl ?_
    refine sd_J.sub (lo' := []) [] rfl ?_
    exact J_XS_lay_B74 hE p0 hf
  · replace hf := ite_n c11 hf
    refine sd_iconst (n := 1) (v := 1) (pc' := 70) (by decide +kernel) (by decide) ?_
    refine sd_goto (off := 4) (tgt := 74) (pc' := 73) (by decide +kernel) ?_
    refine sd_J.sub (lo' := []) [] rfl ?_
    exact J_XS_lay_B74 hE p0 hf
def XS_lay_B30 (h : sd_H) (l0 : Nat) (l1 : Nat) (l3 : Int32) (l4 : Int32) (l5 : Int32) (s0 : Int32) : Option sd_H :=
  hb (wI h l0 0 (if l5 < l4 then l5 else l4)) (fun h6 => (if s0 = 0 then XS_lay_B60 h6 l0 l3 s0 (if 0 ≤ (h6.1 l1 3) then (h6.1 l1 3) else 0 - (h6.1 l1 3)) l0 else XS_lay_B60 h6 l0 l3 s0 1 l0))
set_option maxHeartbeats 4000000 in
set_option maxRecDepth 100000 in
theorem J_XS_lay_B30 {G : sd_GX} {X : sd_CX} (hE : ∀ g : sd_H, sd_end G X M_XS_lay (sd_F g)) {h : sd_H} {r : sd_H} {l0 : Nat} {l1 : Nat} {l3 : Int32} {l4 : Int32} {l5 : Int32} {s0 : Int32} (p0 : sd_SH l0 = (8, 3)) (p1 : sd_SH l1 = (5, 4)) (hf : XS_lay_B30 h l0 l1 l3 l4 l5 s0 = some r) : sd_J G X (sd_QR G X M_XS_lay (none, sd_F r)) M_XS_lay 30 [(0, .ref (G.1 + l0)), (1, .ref (G.1 + l1)), (3, .int l3), (4, .int l4), (5, .int l5)] [.int s0] (sd_F h) := by
  unfold XS_lay_B30 at hf
  refine sd_istore (i := 6) (pc' := 32) (lo' := [(6, .int s0), (0, .ref (G.1 + l0)), (1, .ref (G.1 + l1)), (3, .int l3), (4, .int l4), (5, .int l5)]) (by decide +kernel) (by decide) rfl ?_
  refine sd_aload_n (k := 0) (i := 0) (q := 1) (pc' := 33) (by decide +kernel) rfl rfl ?_
  refine sd_iload (i := 4) (q := 4) (pc' := 35) (by decide +kernel) rfl ?_
  refine sd_iload (i := 5) (q := 5) (pc' := 37) (by decide +kernel) rfl ?_
  refine sF_mmin (idx := 15) (pc' := 40) (by decide +kernel) rfl mm_X8_15 (by decide) (Nat.le_of_ble_eq_true rfl) ?_
  obtain ⟨h6, e7, hf⟩ := hb_some hf
  refine sF_pi (idx := 20) (ci := 8) (k := 0) (n := 3) (pc' := 43) (by decide +kernel) fl_X8_20 (by decide +kernel) rfl rfl rfl p0 ?_
  rw [← e7]; clear e7
  refine sd_aload_n (k := 0) (i := 0) (q := 1) (pc' := 44) (by decide +kernel) rfl rfl ?_
  refine sd_iload (i := 6) (q := 0) (pc' := 46) (by decide +kernel) rfl ?_
  refine sd_if_eq (off := 7) (tgt := 53) (pc' := 49) (by decide +kernel) (fun c8 => ?_) (fun c8 => ?_)
  · replace hf := ite_p c8 hf
    refine sd_aload_n (k := 1) (i := 1) (q := 2) (pc' := 54) (by decide +kernel) rfl rfl ?_
    refine sF_gi (idx := 26) (ci := 5) (k := 3) (n := 4) (pc' := 57) (by decide +kernel) fl_X8_26 (by decide +kernel) rfl p1 ?_
    refine sF_mabs (idx := 29) (pc' := 60) (by decide +kernel) rfl mm_X8_29 (by decide) (Nat.le_of_ble_eq_true rfl) ?_
    refine sd_J.sub (lo' := [(0, .ref (G.1 + l0)), (3, .int l3), (6, .int s0)]) [1, 3, 0] rfl ?_
    exact J_XS_lay_B60 hE p0 p0 hf
  · replace hf := ite_n c8 hf
    refine sd_iconst (n := 1) (v := 1) (pc' := 50) (by decide +kernel) (by decide) ?_
    refine sd_goto (off := 10) (tgt := 60) (pc' := 53) (by decide +kernel) ?_
    refine sd_J.sub (lo' := [(0, .ref (G.1 + l0)), (3, .int l3), (6, .int s0)]) [1, 3, 0] rfl ?_
    exact J_XS_lay_B60 hE p0 p0 hf
def XS_lay (h : sd_H) (this : Nat) (a0 : Nat) (a1 : Int32) (a2 : Int32) : Option sd_H :=
  b1 (XF_at h a0 a1 0) (fun t2 => b1 (XF_at h a0 a1 (a2 - 1)) (fun t4 => (if t2 = t4 then XS_lay_B30 h this a0 a2 t2 t4 1 else XS_lay_B30 h this a0 a2 t2 t4 0)))
set_option maxHeartbeats 4000000 in
set_option maxRecDepth 100000 in
theorem T_XS_lay {G : sd_GX} {h : sd_H} {this : Nat} {a0 : Nat} {a1 : Int32} {a2 : Int32} {r : sd_H} (pt : sd_SH this = (8, 3)) (pa0 : sd_SH a0 = (5, 4)) (hf : XS_lay h this a0 a1 a2 = some r) : sd_RunF G M_XS_lay [.ref (G.1 + this), .ref (G.1 + a0), .int a1, .int a2] h none r := by
  refine sF_run ⟨rfl, rfl⟩ (by decide +kernel) (Nat.le_of_ble_eq_true rfl) (lo := [(0, .ref (G.1 + this)), (1, .ref (G.1 + a0)), (2, .int a1), (3, .int a2)]) rfl (fun X hE => ?_)
  unfold XS_lay at hf
  refine sd_aload_n (k := 1) (i := 1) (q := 1) (pc' := 1) (by decide +kernel) rfl rfl ?_
  refine sd_iload_n (k := 2) (i := 2) (q := 2) (pc' := 2) (by decide +kernel) rfl rfl ?_
  refine sd_iconst (n := 0) (v := 0) (pc' := 3) (by decide +kernel) (by decide) ?_
  obtain ⟨t2, q1, hf⟩ := b1_some hf
  refine sF_callV (idx := 9) (b := a0) (As := [.int a1, .int 0]) (ci := 5) (nn := 4) (pc' := 6) 2 (T_XF_at (G := G) (h := h) pa0 q1) (by decide +kernel) mv_XF_at ml_X8_9 (by decide +kernel) rfl rfl (Nat.le_of_ble_eq_true rfl) pa0 rfl (by decide) rfl rfl ?_
  refine sd_istore (i := 4) (pc' := 8) (lo' := [(4, .int t2), (0, .ref (G.1 + this)), (1, .ref (G.1 + a0)), (2, .int a1), (3, .int a2)]) (by decide +kernel) (by decide) rfl ?_
  refine sd_aload_n (k := 1) (i := 1) (q := 2) (pc' := 9) (by decide +kernel) rfl rfl ?_
  refine sd_iload_n (k := 2) (i := 2) (q := 3) (pc' := 10) (by decide +kernel) rfl rfl ?_
  refine sd_iload_n (k := 3) (i := 3) (q := 4) (pc' := 11) (by decide +kernel) rfl rfl ?_
  refine sd_iconst (n := 1) (v := 1) (pc' := 12) (by decide +kernel) (by decide) ?_
  refine sd_isub (pc' := 13) (by decide +kernel) ?_
  obtain ⟨t4, q3, hf⟩ := b1_some hf
  refine sF_callV (idx := 9) (b := a0) (As := [.int a1, .int (a2 - 1)]) (ci := 5) (nn := 4) (pc' := 16) 2 (T_XF_at (G := G) (h := h) pa0 q3) (by decide +kernel) mv_XF_at ml_X8_9 (by decide +kernel) rfl rfl (Nat.le_of_ble_eq_true rfl) pa0 rfl (by decide) rfl rfl ?_
  refine sd_istore (i := 5) (pc' := 18) (lo' := [(5, .int t4), (4, .int t2), (0, .ref (G.1 + this)), (1, .ref (G.1 + a0)), (2, .int a1), (3, .int a2)]) (by decide +kernel) (by decide) rfl ?_
  refine sd_iload (i := 4) (q := 1) (pc' := 20) (by decide +kernel) rfl ?_
  refine sd_iload (i := 5) (q := 0) (pc' := 22) (by decide +kernel) rfl ?_
  refine sd_icmp_ne (off := 7) (tgt := 29) (pc' := 25) (by decide +kernel) (fun c5 => ?_) (fun c5 => ?_)
  · replace hf := ite_n c5 hf
    refine sd_iconst (n := 0) (v := 0) (pc' := 30) (by decide +kernel) (by decide) ?_
    refine sd_J.sub (lo' := [(0, .ref (G.1 + this)), (1, .ref (G.1 + a0)), (3, .int a2), (4, .int t2), (5, .int t4)]) [2, 3, 5, 1, 0] rfl ?_
    exact J_XS_lay_B30 hE pt pa0 hf
  · replace hf := ite_p c5 hf
    refine sd_iconst (n := 1) (v := 1) (pc' := 26) (by decide +kernel) (by decide) ?_
    refine sd_goto (off := 4) (tgt := 30) (pc' := 29) (by decide +kernel) ?_
    refine sd_J.sub (lo' := [(0, .ref (G.1 + this)), (1, .ref (G.1 + a0)), (3, .int a2), (4, .int t2), (5, .int t4)]) [2, 3, 5, 1, 0] rfl ?_
    exact J_XS_lay_B30 hE pt pa0 hf

theorem ml_X11_416 : Cond.methodLink RX11 416 yX8_lay ∈ sd_tb := sd_mem (i := 747) (by decide +kernel)
theorem mv_XS_lay : sd_mV M_XS_lay 3 := ⟨sd_mem (i := 748) (by decide +kernel), sd_mem (i := 749) (by decide +kernel), ⟨sd_mem (i := 750) (by decide +kernel), sd_mem (i := 116) (by decide +kernel), by decide +kernel, by decide +kernel, by decide +kernel⟩⟩
def M_XT_lay : sd_MX := (yX11_lay, cX11_lay, 5, none, { frames := 3, cells := 0, slots := 0, locals := 88 })
def XT_lay (h : sd_H) (a0 : Nat) (a1 : Int32) (a2 : Int32) : Option sd_H :=
  gd (sd_inB (a1 / 3) 5) (gd (sd_inB (a1 - a1 / 3 * 3) 3) (b1 (XS_lay h a0 (((8 + 5 * ((a1 / 3) : Int32).toNatClampNeg) + 1) + 1 + ((a1 - a1 / 3 * 3) : Int32).toNatClampNeg) a2 (h.1 (8 + 5 * ((a1 / 3) : Int32).toNatClampNeg) 2)) (fun h4 => some h4)))
set_option maxHeartbeats 4000000 in
set_option maxRecDepth 100000 in
theorem T_XT_lay {G : sd_GX} {h : sd_H} {a0 : Nat} {a1 : Int32} {a2 : Int32} {r : sd_H} (pa0 : sd_SH a0 = (8, 3)) (hf : XT_lay h a0 a1 a2 = some r) : sd_RunF G M_XT_lay [.ref (G.1 + 0), .ref (G.1 + a0), .int a1, .int a2] h none r := by
  refine sF_run ⟨rfl, rfl⟩ (by decide +kernel) (Nat.le_of_ble_eq_true rfl) (lo := [(0, .ref (G.1 + 0)), (1, .ref (G.1 + a0)), (2, .int a1), (3, .int a2)]) rfl (fun X hE => ?_)
  unfold XT_lay at hf
  refine sd_aload_n (k := 0) (i := 0) (q := 0) (pc' := 1) (by decide +kernel) rfl rfl ?_
  refine sF_gr (idx := 21) (ci := 11) (k := 1) (n := 17) (r := 6) (pc' := 4) (by decide +kernel) fl_X11_21 (by decide +kernel) rfl SH_0 (by decide) (by decide +kernel) ?_
  refine sF_gr (idx := 173) (ci := 2) (k := 0) (n := 3) (r := 7) (pc' := 7) (by decide +kernel) fl_X11_173 (by decide +kernel) rfl SH_6 (by decide) (by decide +kernel) ?_
  refine sd_iload_n (k := 2) (i := 2) (q := 2) (pc' := 8) (by decide +kernel) rfl rfl ?_
  refine sd_iconst (n := 3) (v := 3) (pc' := 9) (by decide +kernel) (by decide) ?_
  refine sd_idiv (pc' := 10) (by decide +kernel) (by decide) ?_
  obtain ⟨g1, hf⟩ := gd_some hf
  refine sF_aald (n := 5) (r := (8 + 5 * ((a1 / 3) : Int32).toNatClampNeg)) (pc' := 11) (by decide +kernel) SH_7 (by decide) g1 (rta_7 (inB_lt g1)) ?_
  refine sd_astore (i := 4) (pc' := 13) (lo' := [(4, .ref (G.1 + (8 + 5 * ((a1 / 3) : Int32).toNatClampNeg))), (0, .ref (G.1 + 0)), (1, .ref (G.1 + a0)), (2, .int a1), (3, .int a2)]) (by decide +kernel) (by decide) rfl ?_
  refine sd_aload_n (k := 1) (i := 1) (q := 2) (pc' := 14) (by decide +kernel) rfl rfl ?_
  refine sd_aload (i := 4) (q := 0) (pc' := 16) (by decide +kernel) rfl ?_
  refine sF_gr (idx := 186) (ci := 9) (k := 0) (n := 6) (r := ((8 + 5 * ((a1 / 3) : Int32).toNatClampNeg) + 1)) (pc' := 19) (by decide +kernel) fl_X11_186 (by decide +kernel) rfl (sha_7 (inB_lt g1)) (by decide) (rt_9_0 (sha_7 (inB_lt g1))) ?_
  refine sd_iload_n (k := 2) (i := 2) (q := 3) (pc' := 20) (by decide +kernel) rfl rfl ?_
  refine sd_iconst (n := 3) (v := 3) (pc' := 21) (by decide +kernel) (by decide) ?_
  refine sd_irem (pc' := 22) (by decide +kernel) (by decide) ?_
  obtain ⟨g2, hf⟩ := gd_some hf
  refine sF_aald (n := 3) (r := (((8 + 5 * ((a1 / 3) : Int32).toNatClampNeg) + 1) + 1 + ((a1 - a1 / 3 * 3) : Int32).toNatClampNeg)) (pc' := 23) (by decide +kernel) (sh_9_0 (sha_7 (inB_lt g1))) (by decide) g2 (rta_R (sh_9_0 (sha_7 (inB_lt g1))) (inB_lt g2)) ?_
  refine sd_iload_n (k := 3) (i := 3) (q := 4) (pc' := 24) (by decide +kernel) rfl rfl ?_
  refine sd_aload (i := 4) (q := 0) (pc' := 26) (by decide +kernel) rfl ?_
  refine sF_gi (idx := 229) (ci := 9) (k := 2) (n := 6) (pc' := 29) (by decide +kernel) fl_X11_229 (by decide +kernel) rfl (sha_7 (inB_lt g1)) ?_
  obtain ⟨h4, q3, hf⟩ := b1_some hf
  refine sF_callV0 (idx := 416) (b := a0) (As := [.ref (G.1 + (((8 + 5 * ((a1 / 3) : Int32).toNatClampNeg) + 1) + 1 + ((a1 - a1 / 3 * 3) : Int32).toNatClampNeg)), .int a2, .int (h.1 (8 + 5 * ((a1 / 3) : Int32).toNatClampNeg) 2)]) (ci := 8) (nn := 3) (pc' := 32) 3 (T_XS_lay (G := G) (h := h) pa0 (sha_R (sh_9_0 (sha_7 (inB_lt g1))) (inB_lt g2)) q3) (by decide +kernel) mv_XS_lay ml_X11_416 (by decide +kernel) rfl rfl (Nat.le_of_ble_eq_true rfl) pa0 rfl (by decide) rfl rfl ?_
  obtain rfl := Option.some.inj hf
  exact sd_vret (by decide +kernel) rfl (hE _)

def M_XS_part : sd_MX := (yX8_part, cX8_part, 3, (some .int), { frames := 1, cells := 0, slots := 0, locals := 40 })
def XS_part (h : sd_H) (this : Nat) (a0 : Int32) (a1 : Int32) : Option Int32 :=
  (if a0 = 0 then some (h.1 this 0) else (if a0 = 1 then some (h.1 this 1) else (if a0 = 2 then some (h.1 this 2) else (some a1))))
set_option maxHeartbeats 4000000 in
set_option maxRecDepth 100000 in
theorem T_XS_part {G : sd_GX} {h : sd_H} {this : Nat} {a0 : Int32} {a1 : Int32} {r : Int32} (pt : sd_SH this = (8, 3)) (hf : XS_part h this a0 a1 = some r) : sd_RunF G M_XS_part [.ref (G.1 + this), .int a0, .int a1] h (some (.int r)) h := by
  refine sF_run ⟨rfl, rfl⟩ (by decide +kernel) (Nat.le_of_ble_eq_true rfl) (lo := [(0, .ref (G.1 + this)), (1, .int a0), (2, .int a1)]) rfl (fun X hE => ?_)
  unfold XS_part at hf
  refine sd_iload_n (k := 1) (i := 1) (q := 1) (pc' := 1) (by decide +kernel) rfl rfl ?_
  by_cases c1_0 : a0 = 0
  · replace hf := ite_p c1_0 hf
    refine sd_tswIn (dflt := 42) (lo0 := 0) (hi0 := 2) (offs := #[27, 32, 37]) (len := 27) (off := 27) (tgt := 28) (pc' := 28) (by decide +kernel) (by rw [c1_0]; decide) (by rw [c1_0]; decide) (by rw [c1_0]; decide) ?_
    refine sd_aload_n (k := 0) (i := 0) (q := 0) (pc' := 29) (by decide +kernel) rfl rfl ?_
    refine sF_gi (idx := 20) (ci := 8) (k := 0) (n := 3) (pc' := 32) (by decide +kernel) fl_X8_20 (by decide +kernel) rfl pt ?_
    obtain rfl := Option.some.inj hf
    exact sd_iret (by decide +kernel) rfl (hE _)
  · replace hf := ite_n c1_0 hf
    by_cases c1_1 : a0 = 1
    · replace hf := ite_p c1_1 hf
      refine sd_tswIn (dflt := 42) (lo0 := 0) (hi0 := 2) (offs := #[27, 32, 37]) (len := 27) (off := 32) (tgt := 33) (pc' := 28) (by decide +kernel) (by rw [c1_1]; decide) (by rw [c1_1]; decide) (by rw [c1_1]; decide) ?_
      refine sd_aload_n (k := 0) (i := 0) (q := 0) (pc' := 34) (by decide +kernel) rfl rfl ?_
      refine sF_gi (idx := 33) (ci := 8) (k := 1) (n := 3) (pc' := 37) (by decide +kernel) fl_X8_33 (by decide +kernel) rfl pt ?_
      obtain rfl := Option.some.inj hf
      exact sd_iret (by decide +kernel) rfl (hE _)
    · replace hf := ite_n c1_1 hf
      by_cases c1_2 : a0 = 2
      · replace hf := ite_p c1_2 hf
        refine sd_tswIn (dflt := 42) (lo0 := 0) (hi0 := 2) (offs := #[27, 32, 37]) (len := 27) (off := 37) (tgt := 38) (pc' := 28) (by decide +kernel) (by rw [c1_2]; decide) (by rw [c1_2]; decide) (by rw [c1_2]; decide) ?_
        refine sd_aload_n (k := 0) (i := 0) (q := 0) (pc' := 39) (by decide +kernel) rfl rfl ?_
        refine sF_gi (idx := 36) (ci := 8) (k := 2) (n := 3) (pc' := 42) (by decide +kernel) fl_X8_36 (by decide +kernel) rfl pt ?_
        obtain rfl := Option.some.inj hf
        exact sd_iret (by decide +kernel) rfl (hE _)
      · replace hf := ite_n c1_2 hf
        have nc1_0 := ne_ti c1_0 (n := 0) (by decide)
        have nc1_1 := ne_ti c1_1 (n := 1) (by decide)
        have nc1_2 := ne_ti c1_2 (n := 2) (by decide)
        refine sd_tswOut (dflt := 42) (lo0 := 0) (hi0 := 2) (offs := #[27, 32, 37]) (len := 27) (tgt := 43) (pc' := 28) (by decide +kernel) (by omega) ?_
        refine sd_iload_n (k := 2) (i := 2) (q := 2) (pc' := 44) (by decide +kernel) rfl rfl ?_
        obtain rfl := Option.some.inj hf
        exact sd_iret (by decide +kernel) rfl (hE _)

theorem ml_X11_241 : Cond.methodLink RX11 241 yX11_hasSection ∈ sd_tb := sd_mem (i := 734) (by decide +kernel)
theorem mv_XT_hasSection : sd_mV M_XT_hasSection 1 := ⟨sd_mem (i := 736) (by decide +kernel), sd_mem (i := 6) (by decide +kernel), ⟨sd_mem (i := 737) (by decide +kernel), sd_mem (i := 108) (by decide +kernel), by decide +kernel, by decide +kernel, by decide +kernel⟩⟩
theorem ml_X11_244 : Cond.methodLink RX11 244 yX11_isTurn ∈ sd_tb := sd_mem (i := 739) (by decide +kernel)
theorem mv_XT_isTurn : sd_mV M_XT_isTurn 1 := ⟨sd_mem (i := 741) (by decide +kernel), sd_mem (i := 7) (by decide +kernel), ⟨sd_mem (i := 742) (by decide +kernel), sd_mem (i := 108) (by decide +kernel), by decide +kernel, by decide +kernel, by decide +kernel⟩⟩
theorem fl_X11_55 : sd_fl RX11 55 11 6 := ⟨sd_mem (i := 430) (by decide +kernel), by decide, by decide⟩
theorem ml_X11_247 : Cond.methodLink RX11 247 yX11_lay ∈ sd_tb := sd_mem (i := 743) (by decide +kernel)
theorem mv_XT_lay : sd_mV M_XT_lay 3 := ⟨sd_mem (i := 745) (by decide +kernel), sd_mem (i := 8) (by decide +kernel), ⟨sd_mem (i := 746) (by decide +kernel), sd_mem (i := 108) (by decide +kernel), by decide +kernel, by decide +kernel, by decide +kernel⟩⟩
theorem ml_X11_251 : Cond.methodLink RX11 251 yX8_part ∈ sd_tb := sd_mem (i := 761) (by decide +kernel)
theorem mv_XS_part : sd_mV M_XS_part 2 := ⟨sd_mem (i := 762) (by decide +kernel), sd_mem (i := 763) (by decide +kernel), ⟨sd_mem (i := 764) (by decide +kernel), sd_mem (i := 116) (by decide +kernel), by decide +kernel, by decide +kernel, by decide +kernel⟩⟩
def M_XT_section : sd_MX := (yX11_section, cX11_section, 4, (some .int), { frames := 4, cells := 0, slots := 0, locals := 112 })
def XT_section (h : sd_H) (a0 : Int32) (a1 : Int32) (a2 : Int32) : Option (sd_H × Int32) :=
  b1 (XT_hasSection h a0) (fun t2 => (if t2 = 0 then some (h, (-2147483648)) else b1 (XT_isTurn h a1) (fun t5 => (if t5 = 0 then some (h, (-2147483648)) else b1 (XT_lay h 97 a0 a1) (fun h8 => b1 (XS_part h8 97 a2 (-2147483648)) (fun t10 => some (h8, t10)))))))
set_option maxHeartbeats 4000000 in
set_option maxRecDepth 100000 in
theorem T_XT_section {G : sd_GX} {h : sd_H} {a0 : Int32} {a1 : Int32} {a2 : Int32} {r : (sd_H × Int32)} (hf : XT_section h a0 a1 a2 = some r) : sd_RunF G M_XT_section [.ref (G.1 + 0), .int a0, .int a1, .int a2] h (some (.int r.2)) r.1 := by
  refine sF_run ⟨rfl, rfl⟩ (by decide +kernel) (Nat.le_of_ble_eq_true rfl) (lo := [(0, .ref (G.1 + 0)), (1, .int a0), (2, .int a1), (3, .int a2)]) rfl (fun X hE => ?_)
  unfold XT_section at hf
  refine sd_aload_n (k := 0) (i := 0) (q := 0) (pc' := 1) (by decide +kernel) rfl rfl ?_
  refine sd_iload_n (k := 1) (i := 1) (q := 1) (pc' := 2) (by decide +kernel) rfl rfl ?_
  obtain ⟨t2, q1, hf⟩ := b1_some hf
  refine sF_callV (idx := 241) (b := 0) (As := [.int a0]) (ci := 11) (nn := 17) (pc' := 5) 1 (T_XT_hasSection (G := G) (h := h)  q1) (by decide +kernel) mv_XT_hasSection ml_X11_241 (by decide +kernel) rfl rfl (Nat.le_of_ble_eq_true rfl) SH_0 rfl (by decide) rfl rfl ?_
  refine sd_if_eq (off := 11) (tgt := 16) (pc' := 8) (by decide +kernel) (fun c3 => ?_) (fun c3 => ?_)
  · replace hf := ite_p c3 hf
    refine sd_ldc (idx := 240) (v := (-2147483648)) (pc' := 18) (by decide +kernel) (sd_mem (i := 729) (by decide +kernel)) ?_
    obtain rfl := Option.some.inj hf
    exact sd_iret (by decide +kernel) rfl (hE _)
  · replace hf := ite_n c3 hf
    refine sd_aload_n (k := 0) (i := 0) (q := 0) (pc' := 9) (by decide +kernel) rfl rfl ?_
    refine sd_iload_n (k := 2) (i := 2) (q := 2) (pc' := 10) (by decide +kernel) rfl rfl ?_
    obtain ⟨t5, q4, hf⟩ := b1_some hf
    refine sF_callV (idx := 244) (b := 0) (As := [.int a1]) (ci := 11) (nn := 17) (pc' := 13) 1 (T_XT_isTurn (G := G) (h := h)  q4) (by decide +kernel) mv_XT_isTurn ml_X11_244 (by decide +kernel) rfl rfl (Nat.le_of_ble_eq_true rfl) SH_0 rfl (by decide) rfl rfl ?_
    refine sd_if_ne (off := 6) (tgt := 19) (pc' := 16) (by decide +kernel) (fun c6 => ?_) (fun c6 => ?_)
    · replace hf := ite_n c6 hf
      refine sd_aload_n (k := 0) (i := 0) (q := 0) (pc' := 20) (by decide +kernel) rfl rfl ?_
      refine sd_aload_n (k := 0) (i := 0) (q := 0) (pc' := 21) (by decide +kernel) rfl rfl ?_
      refine sF_gr (idx := 55) (ci := 11) (k := 6) (n := 17) (r := 97) (pc' := 24) (by decide +kernel) fl_X11_55 (by decide +kernel) rfl SH_0 (by decide) (by decide +kernel) ?_
      refine sd_iload_n (k := 1) (i := 1) (q := 1) (pc' := 25) (by decide +kernel) rfl rfl ?_
      refine sd_iload_n (k := 2) (i := 2) (q := 2) (pc' := 26) (by decide +kernel) rfl rfl ?_
      obtain ⟨h8, q7, hf⟩ := b1_some hf
      refine sF_callV0 (idx := 247) (b := 0) (As := [.ref (G.1 + 97), .int a0, .int a1]) (ci := 11) (nn := 17) (pc' := 29) 3 (T_XT_lay (G := G) (h := h) SH_97 q7) (by decide +kernel) mv_XT_lay ml_X11_247 (by decide +kernel) rfl rfl (Nat.le_of_ble_eq_true rfl) SH_0 rfl (by decide) rfl rfl ?_
      refine sd_aload_n (k := 0) (i := 0) (q := 0) (pc' := 30) (by decide +kernel) rfl rfl ?_
      refine sF_gr (idx := 55) (ci := 11) (k := 6) (n := 17) (r := 97) (pc' := 33) (by decide +kernel) fl_X11_55 (by decide +kernel) rfl SH_0 (by decide) (by decide +kernel) ?_
      refine sd_iload_n (k := 3) (i := 3) (q := 3) (pc' := 34) (by decide +kernel) rfl rfl ?_
      refine sd_ldc (idx := 240) (v := (-2147483648)) (pc' := 36) (by decide +kernel) (sd_mem (i := 729) (by decide +kernel)) ?_
      obtain ⟨t10, q9, hf⟩ := b1_some hf
      refine sF_callV (idx := 251) (b := 97) (As := [.int a2, .int (-2147483648)]) (ci := 8) (nn := 3) (pc' := 39) 2 (T_XS_part (G := G) (h := h8) SH_97 q9) (by decide +kernel) mv_XS_part ml_X11_251 (by decide +kernel) rfl rfl (Nat.le_of_ble_eq_true rfl) SH_97 rfl (by decide) rfl rfl ?_
      obtain rfl := Option.some.inj hf
      exact sd_iret (by decide +kernel) rfl (hE _)
    · replace hf := ite_p c6 hf
      refine sd_ldc (idx := 240) (v := (-2147483648)) (pc' := 18) (by decide +kernel) (sd_mem (i := 729) (by decide +kernel)) ?_
      obtain rfl := Option.some.inj hf
      exact sd_iret (by decide +kernel) rfl (hE _)

def M_XS_holds : sd_MX := (yX8_holds, cX8_holds, 3, (some .boolean), { frames := 1, cells := 0, slots := 0, locals := 40 })
def XS_holds_L2 (h : sd_H) : Nat → Nat → Int32 → Int32 → Option Int32
  | 0, _, _, _ => none
  | n + 1, l0, l1, l2 =>
  (if (h.1 l0 2) ≤ l2 then some 0 else (if ((h.1 l0 0) + (l2 * (h.1 l0 1))) = l1 then some 1 else XS_holds_L2 h n l0 l1 (l2 + 1)))
set_option maxHeartbeats 4000000 in
set_option maxRecDepth 100000 in
theorem J_XS_holds_L2 {G : sd_GX} {X : sd_CX} (hE : ∀ g : sd_H, sd_end G X M_XS_holds (sd_F g)) {h : sd_H} {r : Int32} : ∀ (n : Nat) (l0 : Nat) (l1 : Int32) (l2 : Int32), sd_SH l0 = (8, 3) → XS_holds_L2 h n l0 l1 l2 = some r → sd_J G X (sd_QR G X M_XS_holds (some (.int r), sd_F h)) M_XS_holds 2 [(0, .ref (G.1 + l0)), (1, .int l1), (2, .int l2)] [] (sd_F h) := by
  intro n
  induction n with
  | zero =>
    intro l0 l1 l2 p0 hf
    rw [XS_holds_L2] at hf
    cases hf
  | succ n ih =>
    intro l0 l1 l2 p0 hf
    rw [XS_holds_L2] at hf
    refine sd_iload_n (k := 2) (i := 2) (q := 2) (pc' := 3) (by decide +kernel) rfl rfl ?_
    refine sd_aload_n (k := 0) (i := 0) (q := 0) (pc' := 4) (by decide +kernel) rfl rfl ?_
    refine sF_gi (idx := 36) (ci := 8) (k := 2) (n := 3) (pc' := 7) (by decide +kernel) fl_X8_36 (by decide +kernel) rfl p0 ?_
    refine sd_icmp_ge (off := 26) (tgt := 33) (pc' := 10) (by decide +kernel) (fun c1 => ?_) (fun c1 => ?_)
    · replace hf := ite_p c1 hf
      refine sd_iconst (n := 0) (v := 0) (pc' := 34) (by decide +kernel) (by decide) ?_
      obtain rfl := Option.some.inj hf
      exact sd_zret (by decide +kernel) rfl rfl (hE _)
    · replace hf := ite_n c1 hf
      refine sd_aload_n (k := 0) (i := 0) (q := 0) (pc' := 11) (by decide +kernel) rfl rfl ?_
      refine sF_gi (idx := 20) (ci := 8) (k := 0) (n := 3) (pc' := 14) (by decide +kernel) fl_X8_20 (by decide +kernel) rfl p0 ?_
      refine sd_iload_n (k := 2) (i := 2) (q := 2) (pc' := 15) (by decide +kernel) rfl rfl ?_
      refine sd_aload_n (k := 0) (i := 0) (q := 0) (pc' := 16) (by decide +kernel) rfl rfl ?_
      refine sF_gi (idx := 33) (ci := 8) (k := 1) (n := 3) (pc' := 19) (by decide +kernel) fl_X8_33 (by decide +kernel) rfl p0 ?_
      refine sd_imul (pc' := 20) (by decide +kernel) ?_
      refine sd_iadd (pc' := 21) (by decide +kernel) ?_
      refine sd_iload_n (k := 1) (i := 1) (q := 1) (pc' := 22) (by decide +kernel) rfl rfl ?_
      refine sd_icmp_ne (off := 5) (tgt := 27) (pc' := 25) (by decide +kernel) (fun c2 => ?_) (fun c2 => ?_)
      · replace hf := ite_n c2 hf
        refine sd_iinc (i := 2) (q := 2) (n := 1) (v := (l2 + 1)) (pc' := 30) (lo' := [(2, .int (l2 + 1)), (0, .ref (G.1 + l0)), (1, .int l1)]) (by decide +kernel) rfl rfl (by decide) rfl ?_
        refine sd_goto (off := -28) (tgt := 2) (pc' := 33) (by decide +kernel) ?_
        refine sd_J.sub (lo' := [(0, .ref (G.1 + l0)), (1, .int l1), (2, .int (l2 + 1))]) [1, 2, 0] rfl ?_
        exact ih _ _ _ p0 hf
      · replace hf := ite_p c2 hf
        refine sd_iconst (n := 1) (v := 1) (pc' := 26) (by decide +kernel) (by decide) ?_
        obtain rfl := Option.some.inj hf
        exact sd_zret (by decide +kernel) rfl rfl (hE _)
def XS_holds (h : sd_H) (this : Nat) (a0 : Int32) : Option Int32 :=
  XS_holds_L2 h FU this a0 0
set_option maxHeartbeats 4000000 in
set_option maxRecDepth 100000 in
theorem T_XS_holds {G : sd_GX} {h : sd_H} {this : Nat} {a0 : Int32} {r : Int32} (pt : sd_SH this = (8, 3)) (hf : XS_holds h this a0 = some r) : sd_RunF G M_XS_holds [.ref (G.1 + this), .int a0] h (some (.int r)) h := by
  refine sF_run ⟨rfl, rfl⟩ (by decide +kernel) (Nat.le_of_ble_eq_true rfl) (lo := [(0, .ref (G.1 + this)), (1, .int a0)]) rfl (fun X hE => ?_)
  unfold XS_holds at hf
  refine sd_iconst (n := 0) (v := 0) (pc' := 1) (by decide +kernel) (by decide) ?_
  refine sd_istore_n (k := 2) (i := 2) (pc' := 2) (lo' := [(2, .int 0), (0, .ref (G.1 + this)), (1, .int a0)]) (by decide +kernel) rfl (by decide) rfl ?_
  refine sd_J.sub (lo' := [(0, .ref (G.1 + this)), (1, .int a0), (2, .int 0)]) [1, 2, 0] rfl ?_
  exact J_XS_holds_L2 hE _ _ _ _ pt hf

def M_XS_addBehind : sd_MX := (yX8_addBehind, cX8_addBehind, 2, none, { frames := 1, cells := 0, slots := 0, locals := 40 })
def XS_addBehind_B33 (h : sd_H) (l0 : Nat) : Option sd_H :=
  hb (wI h l0 2 ((h.1 l0 2) + 1)) (fun h3 => some h3)
set_option maxHeartbeats 4000000 in
set_option maxRecDepth 100000 in
theorem J_XS_addBehind_B33 {G : sd_GX} {X : sd_CX} (hE : ∀ g : sd_H, sd_end G X M_XS_addBehind (sd_F g)) {h : sd_H} {r : sd_H} {l0 : Nat} (p0 : sd_SH l0 = (8, 3)) (hf : XS_addBehind_B33 h l0 = some r) : sd_J G X (sd_QR G X M_XS_addBehind (none, sd_F r)) M_XS_addBehind 33 [(0, .ref (G.1 + l0))] [] (sd_F h) := by
  unfold XS_addBehind_B33 at hf
  refine sd_aload_n (k := 0) (i := 0) (q := 0) (pc' := 34) (by decide +kernel) rfl rfl ?_
  refine sd_dup (pc' := 35) (by decide +kernel) rfl ?_
  refine sF_gi (idx := 36) (ci := 8) (k := 2) (n := 3) (pc' := 38) (by decide +kernel) fl_X8_36 (by decide +kernel) rfl p0 ?_
  refine sd_iconst (n := 1) (v := 1) (pc' := 39) (by decide +kernel) (by decide) ?_
  refine sd_iadd (pc' := 40) (by decide +kernel) ?_
  obtain ⟨h3, e4, hf⟩ := hb_some hf
  refine sF_pi (idx := 36) (ci := 8) (k := 2) (n := 3) (pc' := 43) (by decide +kernel) fl_X8_36 (by decide +kernel) rfl rfl rfl p0 ?_
  rw [← e4]; clear e4
  obtain rfl := Option.some.inj hf
  exact sd_vret (by decide +kernel) rfl (hE _)
def XS_addBehind (h : sd_H) (this : Nat) (a0 : Int32) : Option sd_H :=
  (if (h.1 this 2) = 0 then hb (wI h this 0 a0) (fun h7 => XS_addBehind_B33 h7 this) else (if (h.1 this 2) = 1 then hb (wI h this 1 (a0 - (h.1 this 0))) (fun h5 => XS_addBehind_B33 h5 this) else XS_addBehind_B33 h this))
set_option maxHeartbeats 4000000 in
set_option maxRecDepth 100000 in
theorem T_XS_addBehind {G : sd_GX} {h : sd_H} {this : Nat} {a0 : Int32} {r : sd_H} (pt : sd_SH this = (8, 3)) (hf : XS_addBehind h this a0 = some r) : sd_RunF G M_XS_addBehind [.ref (G.1 + this), .int a0] h none r := by
  refine sF_run ⟨rfl, rfl⟩ (by decide +kernel) (Nat.le_of_ble_eq_true rfl) (lo := [(0, .ref (G.1 + this)), (1, .int a0)]) rfl (fun X hE => ?_)
  unfold XS_addBehind at hf
  refine sd_aload_n (k := 0) (i := 0) (q := 0) (pc' := 1) (by decide +kernel) rfl rfl ?_
  refine sF_gi (idx := 36) (ci := 8) (k := 2) (n := 3) (pc' := 4) (by decide +kernel) fl_X8_36 (by decide +kernel) rfl pt ?_
  refine sd_if_ne (off := 11) (tgt := 15) (pc' := 7) (by decide +kernel) (fun c1 => ?_) (fun c1 => ?_)
  · replace hf := ite_n c1 hf
    refine sd_aload_n (k := 0) (i := 0) (q := 0) (pc' := 16) (by decide +kernel) rfl rfl ?_
    refine sF_gi (idx := 36) (ci := 8) (k := 2) (n := 3) (pc' := 19) (by decide +kernel) fl_X8_36 (by decide +kernel) rfl pt ?_
    refine sd_iconst (n := 1) (v := 1) (pc' := 20) (by decide +kernel) (by decide) ?_
    refine sd_icmp_ne (off := 13) (tgt := 33) (pc' := 23) (by decide +kernel) (fun c2 => ?_) (fun c2 => ?_)
    · replace hf := ite_n c2 hf
      refine sd_J.sub (lo' := [(0, .ref (G.1 + this))]) [0] rfl ?_
      exact J_XS_addBehind_B33 hE pt hf
    · replace hf := ite_p c2 hf
      refine sd_aload_n (k := 0) (i := 0) (q := 0) (pc' := 24) (by decide +kernel) rfl rfl ?_
      refine sd_iload_n (k := 1) (i := 1) (q := 1) (pc' := 25) (by decide +kernel) rfl rfl ?_
      refine sd_aload_n (k := 0) (i := 0) (q := 0) (pc' := 26) (by decide +kernel) rfl rfl ?_
      refine sF_gi (idx := 20) (ci := 8) (k := 0) (n := 3) (pc' := 29) (by decide +kernel) fl_X8_20 (by decide +kernel) rfl pt ?_
      refine sd_isub (pc' := 30) (by decide +kernel) ?_
      obtain ⟨h5, e6, hf⟩ := hb_some hf
      refine sF_pi (idx := 33) (ci := 8) (k := 1) (n := 3) (pc' := 33) (by decide +kernel) fl_X8_33 (by decide +kernel) rfl rfl rfl pt ?_
      rw [← e6]; clear e6
      refine sd_J.sub (lo' := [(0, .ref (G.1 + this))]) [0] rfl ?_
      exact J_XS_addBehind_B33 hE pt hf
  · replace hf := ite_p c1 hf
    refine sd_aload_n (k := 0) (i := 0) (q := 0) (pc' := 8) (by decide +kernel) rfl rfl ?_
    refine sd_iload_n (k := 1) (i := 1) (q := 1) (pc' := 9) (by decide +kernel) rfl rfl ?_
    obtain ⟨h7, e8, hf⟩ := hb_some hf
    refine sF_pi (idx := 20) (ci := 8) (k := 0) (n := 3) (pc' := 12) (by decide +kernel) fl_X8_20 (by decide +kernel) rfl rfl rfl pt ?_
    rw [← e8]; clear e8
    refine sd_goto (off := 21) (tgt := 33) (pc' := 15) (by decide +kernel) ?_
    refine sd_J.sub (lo' := [(0, .ref (G.1 + this))]) [0] rfl ?_
    exact J_XS_addBehind_B33 hE pt hf

theorem ml_X8_39 : Cond.methodLink RX8 39 yX8_holds ∈ sd_tb := sd_mem (i := 773) (by decide +kernel)
theorem mv_XS_holds : sd_mV M_XS_holds 1 := ⟨sd_mem (i := 774) (by decide +kernel), sd_mem (i := 775) (by decide +kernel), ⟨sd_mem (i := 776) (by decide +kernel), sd_mem (i := 116) (by decide +kernel), by decide +kernel, by decide +kernel, by decide +kernel⟩⟩
theorem ml_X8_43 : Cond.methodLink RX8 43 yX8_addBehind ∈ sd_tb := sd_mem (i := 777) (by decide +kernel)
theorem mv_XS_addBehind : sd_mV M_XS_addBehind 1 := ⟨sd_mem (i := 779) (by decide +kernel), sd_mem (i := 9) (by decide +kernel), ⟨sd_mem (i := 780) (by decide +kernel), sd_mem (i := 116) (by decide +kernel), by decide +kernel, by decide +kernel, by decide +kernel⟩⟩
def M_XS_cross : sd_MX := (yX8_cross, cX8_cross, 5, none, { frames := 2, cells := 0, slots := 0, locals := 62 })
def XS_cross_B53 (h : sd_H) (K17 : sd_H → Nat → Nat → Nat → Int32 → Option sd_H) (l0 : Nat) (l1 : Nat) (l2 : Nat) (l3 : Int32) : Option sd_H :=
  K17 h l0 l1 l2 (l3 + 1)
set_option maxHeartbeats 4000000 in
set_option maxRecDepth 100000 in
theorem J_XS_cross_B53 {G : sd_GX} {X : sd_CX} (hE : ∀ g : sd_H, sd_end G X M_XS_cross (sd_F g)) {h : sd_H} {K17 : sd_H → Nat → Nat → Nat → Int32 → Option sd_H} {r : sd_H} (hK17 : ∀ (g : sd_H) (l0 : Nat) (l1 : Nat) (l2 : Nat) (l3 : Int32), sd_SH l0 = (8, 3) → sd_SH l1 = (8, 3) → sd_SH l2 = (8, 3) → K17 g l0 l1 l2 l3 = some r → sd_J G X (sd_QR G X M_XS_cross (none, sd_F r)) M_XS_cross 17 [(0, .ref (G.1 + l0)), (1, .ref (G.1 + l1)), (2, .ref (G.1 + l2)), (3, .int l3)] [] (sd_F g)) {l0 : Nat} {l1 : Nat} {l2 : Nat} {l3 : Int32} (p0 : sd_SH l0 = (8, 3)) (p1 : sd_SH l1 = (8, 3)) (p2 : sd_SH l2 = (8, 3)) (hf : XS_cross_B53 h K17 l0 l1 l2 l3 = some r) : sd_J G X (sd_QR G X M_XS_cross (none, sd_F r)) M_XS_cross 53 [(0, .ref (G.1 + l0)), (1, .ref (G.1 + l1)), (2, .ref (G.1 + l2)), (3, .int l3)] [] (sd_F h) := by
  unfold XS_cross_B53 at hf
  refine sd_iinc (i := 3) (q := 3) (n := 1) (v := (l3 + 1)) (pc' := 56) (lo' := [(3, .int (l3 + 1)), (0, .ref (G.1 + l0)), (1, .ref (G.1 + l1)), (2, .ref (G.1 + l2))]) (by decide +kernel) rfl rfl (by decide) rfl ?_
  refine sd_goto (off := -39) (tgt := 17) (pc' := 59) (by decide +kernel) ?_
  refine sd_J.sub (lo' := [(0, .ref (G.1 + l0)), (1, .ref (G.1 + l1)), (2, .ref (G.1 + l2)), (3, .int (l3 + 1))]) [1, 2, 3, 0] rfl ?_
  exact hK17 _ _ _ _ _ p0 p1 p2 hf
def XS_cross_L17 : Nat → sd_H → Nat → Nat → Nat → Int32 → Option sd_H
  | 0, _, _, _, _, _ => none
  | n + 1, h, l0, l1, l2, l3 =>
  (if (h.1 l1 2) ≤ l3 then some h else b1 (XS_holds h l2 ((h.1 l1 0) + (l3 * (h.1 l1 1)))) (fun t9 => (if t9 = 0 then XS_cross_B53 h (XS_cross_L17 n) l0 l1 l2 l3 else b1 (XS_addBehind h l0 ((h.1 l1 0) + (l3 * (h.1 l1 1)))) (fun h12 => XS_cross_B53 h12 (XS_cross_L17 n) l0 l1 l2 l3))))
set_option maxHeartbeats 4000000 in
set_option maxRecDepth 100000 in
theorem J_XS_cross_L17 {G : sd_GX} {X : sd_CX} (hE : ∀ g : sd_H, sd_end G X M_XS_cross (sd_F g))  {r : sd_H} : ∀ (n : Nat) (h : sd_H) (l0 : Nat) (l1 : Nat) (l2 : Nat) (l3 : Int32), sd_SH l0 = (8, 3) → sd_SH l1 = (8, 3) → sd_SH l2 = (8, 3) → XS_cross_L17 n h l0 l1 l2 l3 = some r → sd_J G X (sd_QR G X M_XS_cross (none, sd_F r)) M_XS_cross 17 [(0, .ref (G.1 + l0)), (1, .ref (G.1 + l1)), (2, .ref (G.1 + l2)), (3, .int l3)] [] (sd_F h) := by
  intro n
  induction n with
  | zero =>
    intro h l0 l1 l2 l3 p0 p1 p2 hf
    rw [XS_cross_L17] at hf
    cases hf
  | succ n ih =>
    intro h l0 l1 l2 l3 p0 p1 p2 hf
    rw [XS_cross_L17] at hf
    refine sd_iload_n (k := 3) (i := 3) (q := 3) (pc' := 18) (by decide +kernel) rfl rfl ?_
    refine sd_aload_n (k := 1) (i := 1) (q := 1) (pc' := 19) (by decide +kernel) rfl rfl ?_
    refine sF_gi (idx := 36) (ci := 8) (k := 2) (n := 3) (pc' := 22) (by decide +kernel) fl_X8_36 (by decide +kernel) rfl p1 ?_
    refine sd_icmp_ge (off := 37) (tgt := 59) (pc' := 25) (by decide +kernel) (fun c7 => ?_) (fun c7 => ?_)
    · replace hf := ite_p c7 hf
      obtain rfl := Option.some.inj hf
      exact sd_vret (by decide +kernel) rfl (hE _)
    · replace hf := ite_n c7 hf
      refine sd_aload_n (k := 1) (i := 1) (q := 1) (pc' := 26) (by decide +kernel) rfl rfl ?_
      refine sF_gi (idx := 20) (ci := 8) (k := 0) (n := 3) (pc' := 29) (by decide +kernel) fl_X8_20 (by decide +kernel) rfl p1 ?_
      refine sd_iload_n (k := 3) (i := 3) (q := 3) (pc' := 30) (by decide +kernel) rfl rfl ?_
      refine sd_aload_n (k := 1) (i := 1) (q := 1) (pc' := 31) (by decide +kernel) rfl rfl ?_
      refine sF_gi (idx := 33) (ci := 8) (k := 1) (n := 3) (pc' := 34) (by decide +kernel) fl_X8_33 (by decide +kernel) rfl p1 ?_
      refine sd_imul (pc' := 35) (by decide +kernel) ?_
      refine sd_iadd (pc' := 36) (by decide +kernel) ?_
      refine sd_istore (i := 4) (pc' := 38) (lo' := [(4, .int ((h.1 l1 0) + (l3 * (h.1 l1 1)))), (0, .ref (G.1 + l0)), (1, .ref (G.1 + l1)), (2, .ref (G.1 + l2)), (3, .int l3)]) (by decide +kernel) (by decide) rfl ?_
      refine sd_aload_n (k := 2) (i := 2) (q := 3) (pc' := 39) (by decide +kernel) rfl rfl ?_
      refine sd_iload (i := 4) (q := 0) (pc' := 41) (by decide +kernel) rfl ?_
      obtain ⟨t9, q8, hf⟩ := b1_some hf
      refine sF_callV (idx := 39) (b := l2) (As := [.int ((h.1 l1 0) + (l3 * (h.1 l1 1)))]) (ci := 8) (nn := 3) (pc' := 44) 1 (T_XS_holds (G := G) (h := h) p2 q8) (by decide +kernel) mv_XS_holds ml_X8_39 (by decide +kernel) rfl rfl (Nat.le_of_ble_eq_true rfl) p2 rfl (by decide) rfl rfl ?_
      refine sd_if_eq (off := 9) (tgt := 53) (pc' := 47) (by decide +kernel) (fun c10 => ?_) (fun c10 => ?_)
      · replace hf := ite_p c10 hf
        refine sd_J.sub (lo' := [(0, .ref (G.1 + l0)), (1, .ref (G.1 + l1)), (2, .ref (G.1 + l2)), (3, .int l3)]) [1, 2, 3, 4] rfl ?_
        exact J_XS_cross_B53 hE ih p0 p1 p2 hf
      · replace hf := ite_n c10 hf
        refine sd_aload_n (k := 0) (i := 0) (q := 1) (pc' := 48) (by decide +kernel) rfl rfl ?_
        refine sd_iload (i := 4) (q := 0) (pc' := 50) (by decide +kernel) rfl ?_
        obtain ⟨h12, q11, hf⟩ := b1_some hf
        refine sF_callV0 (idx := 43) (b := l0) (As := [.int ((h.1 l1 0) + (l3 * (h.1 l1 1)))]) (ci := 8) (nn := 3) (pc' := 53) 1 (T_XS_addBehind (G := G) (h := h) p0 q11) (by decide +kernel) mv_XS_addBehind ml_X8_43 (by decide +kernel) rfl rfl (Nat.le_of_ble_eq_true rfl) p0 rfl (by decide) rfl rfl ?_
        refine sd_J.sub (lo' := [(0, .ref (G.1 + l0)), (1, .ref (G.1 + l1)), (2, .ref (G.1 + l2)), (3, .int l3)]) [1, 2, 3, 4] rfl ?_
        exact J_XS_cross_B53 hE ih p0 p1 p2 hf
def XS_cross (h : sd_H) (this : Nat) (a0 : Nat) (a1 : Nat) : Option sd_H :=
  hb (wI h this 0 0) (fun h1 => hb (wI h1 this 1 1) (fun h3 => hb (wI h3 this 2 0) (fun h5 => XS_cross_L17 FU h5 this a0 a1 0)))
set_option maxHeartbeats 4000000 in
set_option maxRecDepth 100000 in
theorem T_XS_cross {G : sd_GX} {h : sd_H} {this : Nat} {a0 : Nat} {a1 : Nat} {r : sd_H} (pt : sd_SH this = (8, 3)) (pa0 : sd_SH a0 = (8, 3)) (pa1 : sd_SH a1 = (8, 3)) (hf : XS_cross h this a0 a1 = some r) : sd_RunF G M_XS_cross [.ref (G.1 + this), .ref (G.1 + a0), .ref (G.1 + a1)] h none r := by
  refine sF_run ⟨rfl, rfl⟩ (by decide +kernel) (Nat.le_of_ble_eq_true rfl) (lo := [(0, .ref (G.1 + this)), (1, .ref (G.1 + a0)), (2, .ref (G.1 + a1))]) rfl (fun X hE => ?_)
  unfold XS_cross at hf
  refine sd_aload_n (k := 0) (i := 0) (q := 0) (pc' := 1) (by decide +kernel) rfl rfl ?_
  refine sd_iconst (n := 0) (v := 0) (pc' := 2) (by decide +kernel) (by decide) ?_
  obtain ⟨h1, e2, hf⟩ := hb_some hf
  refine sF_pi (idx := 20) (ci := 8) (k := 0) (n := 3) (pc' := 5) (by decide +kernel) fl_X8_20 (by decide +kernel) rfl rfl rfl pt ?_
  rw [← e2]; clear e2
  refine sd_aload_n (k := 0) (i := 0) (q := 0) (pc' := 6) (by decide +kernel) rfl rfl ?_
  refine sd_iconst (n := 1) (v := 1) (pc' := 7) (by decide +kernel) (by decide) ?_
  obtain ⟨h3, e4, hf⟩ := hb_some hf
  refine sF_pi (idx := 33) (ci := 8) (k := 1) (n := 3) (pc' := 10) (by decide +kernel) fl_X8_33 (by decide +kernel) rfl rfl rfl pt ?_
  rw [← e4]; clear e4
  refine sd_aload_n (k := 0) (i := 0) (q := 0) (pc' := 11) (by decide +kernel) rfl rfl ?_
  refine sd_iconst (n := 0) (v := 0) (pc' := 12) (by decide +kernel) (by decide) ?_
  obtain ⟨h5, e6, hf⟩ := hb_some hf
  refine sF_pi (idx := 36) (ci := 8) (k := 2) (n := 3) (pc' := 15) (by decide +kernel) fl_X8_36 (by decide +kernel) rfl rfl rfl pt ?_
  rw [← e6]; clear e6
  refine sd_iconst (n := 0) (v := 0) (pc' := 16) (by decide +kernel) (by decide) ?_
  refine sd_istore_n (k := 3) (i := 3) (pc' := 17) (lo' := [(3, .int 0), (0, .ref (G.1 + this)), (1, .ref (G.1 + a0)), (2, .ref (G.1 + a1))]) (by decide +kernel) rfl (by decide) rfl ?_
  refine sd_J.sub (lo' := [(0, .ref (G.1 + this)), (1, .ref (G.1 + a0)), (2, .ref (G.1 + a1)), (3, .int 0)]) [1, 2, 3, 0] rfl ?_
  exact J_XS_cross_L17 hE _ _ _ _ _ _ pt pa0 pa1 hf

theorem fl_X11_59 : sd_fl RX11 59 11 7 := ⟨sd_mem (i := 431) (by decide +kernel), by decide, by decide⟩
theorem fl_X11_62 : sd_fl RX11 62 11 8 := ⟨sd_mem (i := 432) (by decide +kernel), by decide, by decide⟩
theorem ml_X11_255 : Cond.methodLink RX11 255 yX8_cross ∈ sd_tb := sd_mem (i := 769) (by decide +kernel)
theorem mv_XS_cross : sd_mV M_XS_cross 2 := ⟨sd_mem (i := 770) (by decide +kernel), sd_mem (i := 771) (by decide +kernel), ⟨sd_mem (i := 772) (by decide +kernel), sd_mem (i := 116) (by decide +kernel), by decide +kernel, by decide +kernel, by decide +kernel⟩⟩
theorem fl_X11_259 : sd_fl RX11 259 8 2 := ⟨sd_mem (i := 333) (by decide +kernel), by decide, by decide⟩
def M_XT_meet : sd_MX := (yX11_meet, cX11_meet, 6, (some .int), { frames := 4, cells := 0, slots := 0, locals := 112 })
def XT_meet (h : sd_H) (a0 : Int32) (a1 : Int32) (a2 : Int32) (a3 : Int32) (a4 : Int32) : Option (sd_H × Int32) :=
  b1 (XT_hasSection h a0) (fun t2 => (if t2 = 0 then some (h, (-2147483648)) else b1 (XT_isTurn h a1) (fun t5 => (if t5 = 0 then some (h, (-2147483648)) else b1 (XT_hasSection h a2) (fun t8 => (if t8 = 0 then some (h, (-2147483648)) else b1 (XT_isTurn h a3) (fun t11 => (if t11 = 0 then some (h, (-2147483648)) else b1 (XT_lay h 97 a0 a1) (fun h14 => b1 (XT_lay h14 98 a2 a3) (fun h16 => b1 (XS_cross h16 99 97 98) (fun h18 => (if a4 = 3 then some (h18, ((h18.1 97 2) - (h18.1 99 2))) else b1 (XS_part h18 99 a4 (-2147483648)) (fun t21 => some (h18, t21))))))))))))))
set_option maxHeartbeats 4000000 in
set_option maxRecDepth 100000 in
theorem T_XT_meet {G : sd_GX} {h : sd_H} {a0 : Int32} {a1 : Int32} {a2 : Int32} {a3 : Int32} {a4 : Int32} {r : (sd_H × Int32)} (hf : XT_meet h a0 a1 a2 a3 a4 = some r) : sd_RunF G M_XT_meet [.ref (G.1 + 0), .int a0, .int a1, .int a2, .int a3, .int a4] h (some (.int r.2)) r.1 := by
  refine sF_run ⟨rfl, rfl⟩ (by decide +kernel) (Nat.le_of_ble_eq_true rfl) (lo := [(0, .ref (G.1 + 0)), (1, .int a0), (2, .int a1), (3, .int a2), (4, .int a3), (5, .int a4)]) rfl (fun X hE => ?_)
  unfold XT_meet at hf
  refine sd_aload_n (k := 0) (i := 0) (q := 0) (pc' := 1) (by decide +kernel) rfl rfl ?_
  refine sd_iload_n (k := 1) (i := 1) (q := 1) (pc' := 2) (by decide +kernel) rfl rfl ?_
  obtain ⟨t2, q1, hf⟩ := b1_some hf
  refine sF_callV (idx := 241) (b := 0) (As := [.int a0]) (ci := 11) (nn := 17) (pc' := 5) 1 (T_XT_hasSection (G := G) (h := h)  q1) (by decide +kernel) mv_XT_hasSection ml_X11_241 (by decide +kernel) rfl rfl (Nat.le_of_ble_eq_true rfl) SH_0 rfl (by decide) rfl rfl ?_
  refine sd_if_eq (off := 28) (tgt := 33) (pc' := 8) (by decide +kernel) (fun c3 => ?_) (fun c3 => ?_)
  · replace hf := ite_p c3 hf
    refine sd_ldc (idx := 240) (v := (-2147483648)) (pc' := 35) (by decide +kernel) (sd_mem (i := 729) (by decide +kernel)) ?_
    obtain rfl := Option.some.inj hf
    exact sd_iret (by decide +kernel) rfl (hE _)
  · replace hf := ite_n c3 hf
    refine sd_aload_n (k := 0) (i := 0) (q := 0) (pc' := 9) (by decide +kernel) rfl rfl ?_
    refine sd_iload_n (k := 2) (i := 2) (q := 2) (pc' := 10) (by decide +kernel) rfl rfl ?_
    obtain ⟨t5, q4, hf⟩ := b1_some hf
    refine sF_callV (idx := 244) (b := 0) (As := [.int a1]) (ci := 11) (nn := 17) (pc' := 13) 1 (T_XT_isTurn (G := G) (h := h)  q4) (by decide +kernel) mv_XT_isTurn ml_X11_244 (by decide +kernel) rfl rfl (Nat.le_of_ble_eq_true rfl) SH_0 rfl (by decide) rfl rfl ?_
    refine sd_if_eq (off := 20) (tgt := 33) (pc' := 16) (by decide +kernel) (fun c6 => ?_) (fun c6 => ?_)
    · replace hf := ite_p c6 hf
      refine sd_ldc (idx := 240) (v := (-2147483648)) (pc' := 35) (by decide +kernel) (sd_mem (i := 729) (by decide +kernel)) ?_
      obtain rfl := Option.some.inj hf
      exact sd_iret (by decide +kernel) rfl (hE _)
    · replace hf := ite_n c6 hf
      refine sd_aload_n (k := 0) (i := 0) (q := 0) (pc' := 17) (by decide +kernel) rfl rfl ?_
      refine sd_iload_n (k := 3) (i := 3) (q := 3) (pc' := 18) (by decide +kernel) rfl rfl ?_
      obtain ⟨t8, q7, hf⟩ := b1_some hf
      refine sF_callV (idx := 241) (b := 0) (As := [.int a2]) (ci := 11) (nn := 17) (pc' := 21) 1 (T_XT_hasSection (G := G) (h := h)  q7) (by decide +kernel) mv_XT_hasSection ml_X11_241 (by decide +kernel) rfl rfl (Nat.le_of_ble_eq_true rfl) SH_0 rfl (by decide) rfl rfl ?_
      refine sd_if_eq (off := 12) (tgt := 33) (pc' := 24) (by decide +kernel) (fun c9 => ?_) (fun c9 => ?_)
      · replace hf := ite_p c9 hf
        refine sd_ldc (idx := 240) (v := (-2147483648)) (pc' := 35) (by decide +kernel) (sd_mem (i := 729) (by decide +kernel)) ?_
        obtain rfl := Option.some.inj hf
        exact sd_iret (by decide +kernel) rfl (hE _)
      · replace hf := ite_n c9 hf
        refine sd_aload_n (k := 0) (i := 0) (q := 0) (pc' := 25) (by decide +kernel) rfl rfl ?_
        refine sd_iload (i := 4) (q := 4) (pc' := 27) (by decide +kernel) rfl ?_
        obtain ⟨t11, q10, hf⟩ := b1_some hf
        refine sF_callV (idx := 244) (b := 0) (As := [.int a3]) (ci := 11) (nn := 17) (pc' := 30) 1 (T_XT_isTurn (G := G) (h := h)  q10) (by decide +kernel) mv_XT_isTurn ml_X11_244 (by decide +kernel) rfl rfl (Nat.le_of_ble_eq_true rfl) SH_0 rfl (by decide) rfl rfl ?_
        refine sd_if_ne (off := 6) (tgt := 36) (pc' := 33) (by decide +kernel) (fun c12 => ?_) (fun c12 => ?_)
        · replace hf := ite_n c12 hf
          refine sd_aload_n (k := 0) (i := 0) (q := 0) (pc' := 37) (by decide +kernel) rfl rfl ?_
          refine sd_aload_n (k := 0) (i := 0) (q := 0) (pc' := 38) (by decide +kernel) rfl rfl ?_
          refine sF_gr (idx := 55) (ci := 11) (k := 6) (n := 17) (r := 97) (pc' := 41) (by decide +kernel) fl_X11_55 (by decide +kernel) rfl SH_0 (by decide) (by decide +kernel) ?_
          refine sd_iload_n (k := 1) (i := 1) (q := 1) (pc' := 42) (by decide +kernel) rfl rfl ?_
          refine sd_iload_n (k := 2) (i := 2) (q := 2) (pc' := 43) (by decide +kernel) rfl rfl ?_
          obtain ⟨h14, q13, hf⟩ := b1_some hf
          refine sF_callV0 (idx := 247) (b := 0) (As := [.ref (G.1 + 97), .int a0, .int a1]) (ci := 11) (nn := 17) (pc' := 46) 3 (T_XT_lay (G := G) (h := h) SH_97 q13) (by decide +kernel) mv_XT_lay ml_X11_247 (by decide +kernel) rfl rfl (Nat.le_of_ble_eq_true rfl) SH_0 rfl (by decide) rfl rfl ?_
          refine sd_aload_n (k := 0) (i := 0) (q := 0) (pc' := 47) (by decide +kernel) rfl rfl ?_
          refine sd_aload_n (k := 0) (i := 0) (q := 0) (pc' := 48) (by decide +kernel) rfl rfl ?_
          refine sF_gr (idx := 59) (ci := 11) (k := 7) (n := 17) (r := 98) (pc' := 51) (by decide +kernel) fl_X11_59 (by decide +kernel) rfl SH_0 (by decide) (by decide +kernel) ?_
          refine sd_iload_n (k := 3) (i := 3) (q := 3) (pc' := 52) (by decide +kernel) rfl rfl ?_
          refine sd_iload (i := 4) (q := 4) (pc' := 54) (by decide +kernel) rfl ?_
          obtain ⟨h16, q15, hf⟩ := b1_some hf
          refine sF_callV0 (idx := 247) (b := 0) (As := [.ref (G.1 + 98), .int a2, .int a3]) (ci := 11) (nn := 17) (pc' := 57) 3 (T_XT_lay (G := G) (h := h14) SH_98 q15) (by decide +kernel) mv_XT_lay ml_X11_247 (by decide +kernel) rfl rfl (Nat.le_of_ble_eq_true rfl) SH_0 rfl (by decide) rfl rfl ?_
          refine sd_aload_n (k := 0) (i := 0) (q := 0) (pc' := 58) (by decide +kernel) rfl rfl ?_
          refine sF_gr (idx := 62) (ci := 11) (k := 8) (n := 17) (r := 99) (pc' := 61) (by decide +kernel) fl_X11_62 (by decide +kernel) rfl SH_0 (by decide) (by decide +kernel) ?_
          refine sd_aload_n (k := 0) (i := 0) (q := 0) (pc' := 62) (by decide +kernel) rfl rfl ?_
          refine sF_gr (idx := 55) (ci := 11) (k := 6) (n := 17) (r := 97) (pc' := 65) (by decide +kernel) fl_X11_55 (by decide +kernel) rfl SH_0 (by decide) (by decide +kernel) ?_
          refine sd_aload_n (k := 0) (i := 0) (q := 0) (pc' := 66) (by decide +kernel) rfl rfl ?_
          refine sF_gr (idx := 59) (ci := 11) (k := 7) (n := 17) (r := 98) (pc' := 69) (by decide +kernel) fl_X11_59 (by decide +kernel) rfl SH_0 (by decide) (by decide +kernel) ?_
          obtain ⟨h18, q17, hf⟩ := b1_some hf
          refine sF_callV0 (idx := 255) (b := 99) (As := [.ref (G.1 + 97), .ref (G.1 + 98)]) (ci := 8) (nn := 3) (pc' := 72) 2 (T_XS_cross (G := G) (h := h16) SH_99 SH_97 SH_98 q17) (by decide +kernel) mv_XS_cross ml_X11_255 (by decide +kernel) rfl rfl (Nat.le_of_ble_eq_true rfl) SH_99 rfl (by decide) rfl rfl ?_
          refine sd_iload (i := 5) (q := 5) (pc' := 74) (by decide +kernel) rfl ?_
          refine sd_iconst (n := 3) (v := 3) (pc' := 75) (by decide +kernel) (by decide) ?_
          refine sd_icmp_ne (off := 21) (tgt := 96) (pc' := 78) (by decide +kernel) (fun c19 => ?_) (fun c19 => ?_)
          · replace hf := ite_n c19 hf
            refine sd_aload_n (k := 0) (i := 0) (q := 0) (pc' := 97) (by decide +kernel) rfl rfl ?_
            refine sF_gr (idx := 62) (ci := 11) (k := 8) (n := 17) (r := 99) (pc' := 100) (by decide +kernel) fl_X11_62 (by decide +kernel) rfl SH_0 (by decide) (by decide +kernel) ?_
            refine sd_iload (i := 5) (q := 5) (pc' := 102) (by decide +kernel) rfl ?_
            refine sd_ldc (idx := 240) (v := (-2147483648)) (pc' := 104) (by decide +kernel) (sd_mem (i := 729) (by decide +kernel)) ?_
            obtain ⟨t21, q20, hf⟩ := b1_some hf
            refine sF_callV (idx := 251) (b := 99) (As := [.int a4, .int (-2147483648)]) (ci := 8) (nn := 3) (pc' := 107) 2 (T_XS_part (G := G) (h := h18) SH_99 q20) (by decide +kernel) mv_XS_part ml_X11_251 (by decide +kernel) rfl rfl (Nat.le_of_ble_eq_true rfl) SH_99 rfl (by decide) rfl rfl ?_
            obtain rfl := Option.some.inj hf
            exact sd_iret (by decide +kernel) rfl (hE _)
          · replace hf := ite_p c19 hf
            refine sd_aload_n (k := 0) (i := 0) (q := 0) (pc' := 79) (by decide +kernel) rfl rfl ?_
            refine sF_gr (idx := 55) (ci := 11) (k := 6) (n := 17) (r := 97) (pc' := 82) (by decide +kernel) fl_X11_55 (by decide +kernel) rfl SH_0 (by decide) (by decide +kernel) ?_
            refine sF_gi (idx := 259) (ci := 8) (k := 2) (n := 3) (pc' := 85) (by decide +kernel) fl_X11_259 (by decide +kernel) rfl SH_97 ?_
            refine sd_aload_n (k := 0) (i := 0) (q := 0) (pc' := 86) (by decide +kernel) rfl rfl ?_
            refine sF_gr (idx := 62) (ci := 11) (k := 8) (n := 17) (r := 99) (pc' := 89) (by decide +kernel) fl_X11_62 (by decide +kernel) rfl SH_0 (by decide) (by decide +kernel) ?_
            refine sF_gi (idx := 259) (ci := 8) (k := 2) (n := 3) (pc' := 92) (by decide +kernel) fl_X11_259 (by decide +kernel) rfl SH_99 ?_
            refine sd_isub (pc' := 93) (by decide +kernel) ?_
            refine sd_goto (off := 14) (tgt := 107) (pc' := 96) (by decide +kernel) ?_
            obtain rfl := Option.some.inj hf
            exact sd_iret (by decide +kernel) rfl (hE _)
        · replace hf := ite_p c12 hf
          refine sd_ldc (idx := 240) (v := (-2147483648)) (pc' := 35) (by decide +kernel) (sd_mem (i := 729) (by decide +kernel)) ?_
          obtain rfl := Option.some.inj hf
          exact sd_iret (by decide +kernel) rfl (hE _)

def M_XA_looksAt : sd_MX := (yX9_looksAt, cX9_looksAt, 2, (some .boolean), { frames := 1, cells := 0, slots := 0, locals := 40 })
def XA_looksAt_B14 (h : sd_H) : Option Int32 :=
  some 1
set_option maxHeartbeats 4000000 in
set_option maxRecDepth 100000 in
theorem J_XA_looksAt_B14 {G : sd_GX} {X : sd_CX} (hE : ∀ g : sd_H, sd_end G X M_XA_looksAt (sd_F g)) {h : sd_H} {r : Int32} (hf : XA_looksAt_B14 h = some r) : sd_J G X (sd_QR G X M_XA_looksAt (some (.int r), sd_F h)) M_XA_looksAt 14 [] [] (sd_F h) := by
  unfold XA_looksAt_B14 at hf
  refine sd_iconst (n := 1) (v := 1) (pc' := 15) (by decide +kernel) (by decide) ?_
  refine sd_goto (off := 4) (tgt := 19) (pc' := 18) (by decide +kernel) ?_
  obtain rfl := Option.some.inj hf
  exact sd_zret (by decide +kernel) rfl rfl (hE _)
def XA_looksAt (h : sd_H) (this : Nat) (a0 : Int32) : Option Int32 :=
  (if a0 = 2 then (if (h.1 this 1) = 9 then some 0 else XA_looksAt_B14 h) else XA_looksAt_B14 h)
set_option maxHeartbeats 4000000 in
set_option maxRecDepth 100000 in
theorem T_XA_looksAt {G : sd_GX} {h : sd_H} {this : Nat} {a0 : Int32} {r : Int32} (pt : sd_SH this = (9, 6)) (hf : XA_looksAt h this a0 = some r) : sd_RunF G M_XA_looksAt [.ref (G.1 + this), .int a0] h (some (.int r)) h := by
  refine sF_run ⟨rfl, rfl⟩ (by decide +kernel) (Nat.le_of_ble_eq_true rfl) (lo := [(0, .ref (G.1 + this)), (1, .int a0)]) rfl (fun X hE => ?_)
  unfold XA_looksAt at hf
  refine sd_iload_n (k := 1) (i := 1) (q := 1) (pc' := 1) (by decide +kernel) rfl rfl ?_
  refine sd_iconst (n := 2) (v := 2) (pc' := 2) (by decide +kernel) (by decide) ?_
  refine sd_icmp_ne (off := 12) (tgt := 14) (pc' := 5) (by decide +kernel) (fun c1 => ?_) (fun c1 => ?_)
  · replace hf := ite_n c1 hf
    refine sd_J.sub (lo' := []) [] rfl ?_
    exact J_XA_looksAt_B14 hE hf
  · replace hf := ite_p c1 hf
    refine sd_aload_n (k := 0) (i := 0) (q := 0) (pc' := 6) (by decide +kernel) rfl rfl ?_
    refine sF_gi (idx := 22) (ci := 9) (k := 1) (n := 6) (pc' := 9) (by decide +kernel) fl_X9_22 (by decide +kernel) rfl pt ?_
    refine sd_bipush (n := 9) (v := 9) (pc' := 11) (by decide +kernel) (by decide) ?_
    refine sd_icmp_eq (off := 7) (tgt := 18) (pc' := 14) (by decide +kernel) (fun c2 => ?_) (fun c2 => ?_)
    · replace hf := ite_p c2 hf
      refine sd_iconst (n := 0) (v := 0) (pc' := 19) (by decide +kernel) (by decide) ?_
      obtain rfl := Option.some.inj hf
      exact sd_zret (by decide +kernel) rfl rfl (hE _)
    · replace hf := ite_n c2 hf
      refine sd_J.sub (lo' := []) [] rfl ?_
      exact J_XA_looksAt_B14 hE hf

theorem ml_X9_41 : Cond.methodLink RX9 41 yX9_looksAt ∈ sd_tb := sd_mem (i := 793) (by decide +kernel)
theorem mv_XA_looksAt : sd_mV M_XA_looksAt 1 := ⟨sd_mem (i := 794) (by decide +kernel), sd_mem (i := 795) (by decide +kernel), ⟨sd_mem (i := 796) (by decide +kernel), sd_mem (i := 111) (by decide +kernel), by decide +kernel, by decide +kernel, by decide +kernel⟩⟩
def M_XA_looksAtRow : sd_MX := (yX9_looksAtRow, cX9_looksAtRow, 3, (some .boolean), { frames := 2, cells := 0, slots := 0, locals := 61 })
def XA_looksAtRow_B30 (h : sd_H) (K2 : Nat → Int32 → Int32 → Option Int32) (l0 : Nat) (l1 : Int32) (l2 : Int32) : Option Int32 :=
  K2 l0 l1 (l2 + 1)
set_option maxHeartbeats 4000000 in
set_option maxRecDepth 100000 in
theorem J_XA_looksAtRow_B30 {G : sd_GX} {X : sd_CX} (hE : ∀ g : sd_H, sd_end G X M_XA_looksAtRow (sd_F g)) {h : sd_H} {K2 : Nat → Int32 → Int32 → Option Int32} {r : Int32} (hK2 : ∀ (l0 : Nat) (l1 : Int32) (l2 : Int32), sd_SH l0 = (9, 6) → K2 l0 l1 l2 = some r → sd_J G X (sd_QR G X M_XA_looksAtRow (some (.int r), sd_F h)) M_XA_looksAtRow 2 [(0, .ref (G.1 + l0)), (1, .int l1), (2, .int l2)] [] (sd_F h)) {l0 : Nat} {l1 : Int32} {l2 : Int32} (p0 : sd_SH l0 = (9, 6)) (hf : XA_looksAtRow_B30 h K2 l0 l1 l2 = some r) : sd_J G X (sd_QR G X M_XA_looksAtRow (some (.int r), sd_F h)) M_XA_looksAtRow 30 [(0, .ref (G.1 + l0)), (1, .int l1), (2, .int l2)] [] (sd_F h) := by
  unfold XA_looksAtRow_B30 at hf
  refine sd_iinc (i := 2) (q := 2) (n := 1) (v := (l2 + 1)) (pc' := 33) (lo' := [(2, .int (l2 + 1)), (0, .ref (G.1 + l0)), (1, .int l1)]) (by decide +kernel) rfl rfl (by decide) rfl ?_
  refine sd_goto (off := -31) (tgt := 2) (pc' := 36) (by decide +kernel) ?_
  refine sd_J.sub (lo' := [(0, .ref (G.1 + l0)), (1, .int l1), (2, .int (l2 + 1))]) [1, 2, 0] rfl ?_
  exact hK2 _ _ _ p0 hf
def XA_looksAtRow_L2 (h : sd_H) : Nat → Nat → Int32 → Int32 → Option Int32
  | 0, _, _, _ => none
  | n + 1, l0, l1, l2 =>
  (if 3 ≤ l2 then some 0 else b1 (XA_looksAt h l0 l2) (fun t3 => (if t3 = 0 then XA_looksAtRow_B30 h (XA_looksAtRow_L2 h n) l0 l1 l2 else gd (sd_inB l2 3) ((if (h.1 ((l0 + 1) + 1 + (l2 : Int32).toNatClampNeg) 0) = l1 then some 1 else XA_looksAtRow_B30 h (XA_looksAtRow_L2 h n) l0 l1 l2)))))
set_option maxHeartbeats 4000000 in
set_option maxRecDepth 100000 in
theorem J_XA_looksAtRow_L2 {G : sd_GX} {X : sd_CX} (hE : ∀ g : sd_H, sd_end G X M_XA_looksAtRow (sd_F g)) {h : sd_H} {r : Int32} : ∀ (n : Nat) (l0 : Nat) (l1 : Int32) (l2 : Int32), sd_SH l0 = (9, 6) → XA_looksAtRow_L2 h n l0 l1 l2 = some r → sd_J G X (sd_QR G X M_XA_looksAtRow (some (.int r), sd_F h)) M_XA_looksAtRow 2 [(0, .ref (G.1 + l0)), (1, .int l1), (2, .int l2)] [] (sd_F h) := by
  intro n
  induction n with
  | zero =>
    intro l0 l1 l2 p0 hf
    rw [XA_looksAtRow_L2] at hf
    cases hf
  | succ n ih =>
    intro l0 l1 l2 p0 hf
    rw [XA_looksAtRow_L2] at hf
    refine sd_iload_n (k := 2) (i := 2) (q := 2) (pc' := 3) (by decide +kernel) rfl rfl ?_
    refine sd_iconst (n := 3) (v := 3) (pc' := 4) (by decide +kernel) (by decide) ?_
    refine sd_icmp_ge (off := 32) (tgt := 36) (pc' := 7) (by decide +kernel) (fun c1 => ?_) (fun c1 => ?_)
    · replace hf := ite_p c1 hf
      refine sd_iconst (n := 0) (v := 0) (pc' := 37) (by decide +kernel) (by decide) ?_
      obtain rfl := Option.some.inj hf
      exact sd_zret (by decide +kernel) rfl rfl (hE _)
    · replace hf := ite_n c1 hf
      refine sd_aload_n (k := 0) (i := 0) (q := 0) (pc' := 8) (by decide +kernel) rfl rfl ?_
      refine sd_iload_n (k := 2) (i := 2) (q := 2) (pc' := 9) (by decide +kernel) rfl rfl ?_
      obtain ⟨t3, q2, hf⟩ := b1_some hf
      refine sF_callV (idx := 41) (b := l0) (As := [.int l2]) (ci := 9) (nn := 6) (pc' := 12) 1 (T_XA_looksAt (G := G) (h := h) p0 q2) (by decide +kernel) mv_XA_looksAt ml_X9_41 (by decide +kernel) rfl rfl (Nat.le_of_ble_eq_true rfl) p0 rfl (by decide) rfl rfl ?_
      refine sd_if_eq (off := 18) (tgt := 30) (pc' := 15) (by decide +kernel) (fun c4 => ?_) (fun c4 => ?_)
      · replace hf := ite_p c4 hf
        refine sd_J.sub (lo' := [(0, .ref (G.1 + l0)), (1, .int l1), (2, .int l2)]) [0, 1, 2] rfl ?_
        exact J_XA_looksAtRow_B30 hE ih p0 hf
      · replace hf := ite_n c4 hf
        refine sd_aload_n (k := 0) (i := 0) (q := 0) (pc' := 16) (by decide +kernel) rfl rfl ?_
        refine sF_gr (idx := 12) (ci := 9) (k := 0) (n := 6) (r := (l0 + 1)) (pc' := 19) (by decide +kernel) fl_X9_12 (by decide +kernel) rfl p0 (by decide) (rt_9_0 p0) ?_
        refine sd_iload_n (k := 2) (i := 2) (q := 2) (pc' := 20) (by decide +kernel) rfl rfl ?_
        obtain ⟨g5, hf⟩ := gd_some hf
        refine sF_aald (n := 3) (r := ((l0 + 1) + 1 + (l2 : Int32).toNatClampNeg)) (pc' := 21) (by decide +kernel) (sh_9_0 p0) (by decide) g5 (rta_R (sh_9_0 p0) (inB_lt g5)) ?_
        refine sF_gi (idx := 34) (ci := 5) (k := 0) (n := 4) (pc' := 24) (by decide +kernel) fl_X9_34 (by decide +kernel) rfl (sha_R (sh_9_0 p0) (inB_lt g5)) ?_
        refine sd_iload_n (k := 1) (i := 1) (q := 1) (pc' := 25) (by decide +kernel) rfl rfl ?_
        refine sd_icmp_ne (off := 5) (tgt := 30) (pc' := 28) (by decide +kernel) (fun c6 => ?_) (fun c6 => ?_)
        · replace hf := ite_n c6 hf
          refine sd_J.sub (lo' := [(0, .ref (G.1 + l0)), (1, .int l1), (2, .int l2)]) [0, 1, 2] rfl ?_
          exact J_XA_looksAtRow_B30 hE ih p0 hf
        · replace hf := ite_p c6 hf
          refine sd_iconst (n := 1) (v := 1) (pc' := 29) (by decide +kernel) (by decide) ?_
          obtain rfl := Option.some.inj hf
          exact sd_zret (by decide +kernel) rfl rfl (hE _)
def XA_looksAtRow (h : sd_H) (this : Nat) (a0 : Int32) : Option Int32 :=
  XA_looksAtRow_L2 h FU this a0 0
set_option maxHeartbeats 4000000 in
set_option maxRecDepth 100000 in
theorem T_XA_looksAtRow {G : sd_GX} {h : sd_H} {this : Nat} {a0 : Int32} {r : Int32} (pt : sd_SH this = (9, 6)) (hf : XA_looksAtRow h this a0 = some r) : sd_RunF G M_XA_looksAtRow [.ref (G.1 + this), .int a0] h (some (.int r)) h := by
  refine sF_run ⟨rfl, rfl⟩ (by decide +kernel) (Nat.le_of_ble_eq_true rfl) (lo := [(0, .ref (G.1 + this)), (1, .int a0)]) rfl (fun X hE => ?_)
  unfold XA_looksAtRow at hf
  refine sd_iconst (n := 0) (v := 0) (pc' := 1) (by decide +kernel) (by decide) ?_
  refine sd_istore_n (k := 2) (i := 2) (pc' := 2) (lo' := [(2, .int 0), (0, .ref (G.1 + this)), (1, .int a0)]) (by decide +kernel) rfl (by decide) rfl ?_
  refine sd_J.sub (lo' := [(0, .ref (G.1 + this)), (1, .int a0), (2, .int 0)]) [1, 2, 0] rfl ?_
  exact J_XA_looksAtRow_L2 hE _ _ _ _ pt hf

def M_XS_liesAs : sd_MX := (yX8_liesAs, cX8_liesAs, 2, (some .boolean), { frames := 1, cells := 0, slots := 0, locals := 40 })
def XS_liesAs (h : sd_H) (this : Nat) (a0 : Nat) : Option Int32 :=
  (if (h.1 this 0) = (h.1 a0 0) then (if (h.1 this 1) = (h.1 a0 1) then (if (h.1 this 2) = (h.1 a0 2) then some 1 else some 0) else some 0) else some 0)
set_option maxHeartbeats 4000000 in
set_option maxRecDepth 100000 in
theorem T_XS_liesAs {G : sd_GX} {h : sd_H} {this : Nat} {a0 : Nat} {r : Int32} (pt : sd_SH this = (8, 3)) (pa0 : sd_SH a0 = (8, 3)) (hf : XS_liesAs h this a0 = some r) : sd_RunF G M_XS_liesAs [.ref (G.1 + this), .ref (G.1 + a0)] h (some (.int r)) h := by
  refine sF_run ⟨rfl, rfl⟩ (by decide +kernel) (Nat.le_of_ble_eq_true rfl) (lo := [(0, .ref (G.1 + this)), (1, .ref (G.1 + a0))]) rfl (fun X hE => ?_)
  unfold XS_liesAs at hf
  refine sd_aload_n (k := 0) (i := 0) (q := 0) (pc' := 1) (by decide +kernel) rfl rfl ?_
  refine sF_gi (idx := 20) (ci := 8) (k := 0) (n := 3) (pc' := 4) (by decide +kernel) fl_X8_20 (by decide +kernel) rfl pt ?_
  refine sd_aload_n (k := 1) (i := 1) (q := 1) (pc' := 5) (by decide +kernel) rfl rfl ?_
  refine sF_gi (idx := 20) (ci := 8) (k := 0) (n := 3) (pc' := 8) (by decide +kernel) fl_X8_20 (by decide +kernel) rfl pa0 ?_
  refine sd_icmp_ne (off := 29) (tgt := 37) (pc' := 11) (by decide +kernel) (fun c1 => ?_) (fun c1 => ?_)
  · replace hf := ite_n c1 hf
    refine sd_iconst (n := 0) (v := 0) (pc' := 38) (by decide +kernel) (by decide) ?_
    obtain rfl := Option.some.inj hf
    exact sd_zret (by decide +kernel) rfl rfl (hE _)
  · replace hf := ite_p c1 hf
    refine sd_aload_n (k := 0) (i := 0) (q := 0) (pc' := 12) (by decide +kernel) rfl rfl ?_
    refine sF_gi (idx := 33) (ci := 8) (k := 1) (n := 3) (pc' := 15) (by decide +kernel) fl_X8_33 (by decide +kernel) rfl pt ?_
    refine sd_aload_n (k := 1) (i := 1) (q := 1) (pc' := 16) (by decide +kernel) rfl rfl ?_
    refine sF_gi (idx := 33) (ci := 8) (k := 1) (n := 3) (pc' := 19) (by decide +kernel) fl_X8_33 (by decide +kernel) rfl pa0 ?_
    refine sd_icmp_ne (off := 18) (tgt := 37) (pc' := 22) (by decide +kernel) (fun c2 => ?_) (fun c2 => ?_)
    · replace hf := ite_n c2 hf
      refine sd_iconst (n := 0) (v := 0) (pc' := 38) (by decide +kernel) (by decide) ?_
      obtain rfl := Option.some.inj hf
      exact sd_zret (by decide +kernel) rfl rfl (hE _)
    · replace hf := ite_p c2 hf
      refine sd_aload_n (k := 0) (i := 0) (q := 0) (pc' := 23) (by decide +kernel) rfl rfl ?_
      refine sF_gi (idx := 36) (ci := 8) (k := 2) (n := 3) (pc' := 26) (by decide +kernel) fl_X8_36 (by decide +kernel) rfl pt ?_
      refine sd_aload_n (k := 1) (i := 1) (q := 1) (pc' := 27) (by decide +kernel) rfl rfl ?_
      refine sF_gi (idx := 36) (ci := 8) (k := 2) (n := 3) (pc' := 30) (by decide +kernel) fl_X8_36 (by decide +kernel) rfl pa0 ?_
      refine sd_icmp_ne (off := 7) (tgt := 37) (pc' := 33) (by decide +kernel) (fun c3 => ?_) (fun c3 => ?_)
      · replace hf := ite_n c3 hf
        refine sd_iconst (n := 0) (v := 0) (pc' := 38) (by decide +kernel) (by decide) ?_
        obtain rfl := Option.some.inj hf
        exact sd_zret (by decide +kernel) rfl rfl (hE _)
      · replace hf := ite_p c3 hf
        refine sd_iconst (n := 1) (v := 1) (pc' := 34) (by decide +kernel) (by decide) ?_
        refine sd_goto (off := 4) (tgt := 38) (pc' := 37) (by decide +kernel) ?_
        obtain rfl := Option.some.inj hf
        exact sd_zret (by decide +kernel) rfl rfl (hE _)

def M_XS_take : sd_MX := (yX8_take, cX8_take, 2, none, { frames := 1, cells := 0, slots := 0, locals := 40 })
def XS_take (h : sd_H) (this : Nat) (a0 : Nat) : Option sd_H :=
  hb (wI h this 0 (h.1 a0 0)) (fun h1 => hb (wI h1 this 1 (h1.1 a0 1)) (fun h3 => hb (wI h3 this 2 (h3.1 a0 2)) (fun h5 => some h5)))
set_option maxHeartbeats 4000000 in
set_option maxRecDepth 100000 in
theorem T_XS_take {G : sd_GX} {h : sd_H} {this : Nat} {a0 : Nat} {r : sd_H} (pt : sd_SH this = (8, 3)) (pa0 : sd_SH a0 = (8, 3)) (hf : XS_take h this a0 = some r) : sd_RunF G M_XS_take [.ref (G.1 + this), .ref (G.1 + a0)] h none r := by
  refine sF_run ⟨rfl, rfl⟩ (by decide +kernel) (Nat.le_of_ble_eq_true rfl) (lo := [(0, .ref (G.1 + this)), (1, .ref (G.1 + a0))]) rfl (fun X hE => ?_)
  unfold XS_take at hf
  refine sd_aload_n (k := 0) (i := 0) (q := 0) (pc' := 1) (by decide +kernel) rfl rfl ?_
  refine sd_aload_n (k := 1) (i := 1) (q := 1) (pc' := 2) (by decide +kernel) rfl rfl ?_
  refine sF_gi (idx := 20) (ci := 8) (k := 0) (n := 3) (pc' := 5) (by decide +kernel) fl_X8_20 (by decide +kernel) rfl pa0 ?_
  obtain ⟨h1, e2, hf⟩ := hb_some hf
  refine sF_pi (idx := 20) (ci := 8) (k := 0) (n := 3) (pc' := 8) (by decide +kernel) fl_X8_20 (by decide +kernel) rfl rfl rfl pt ?_
  rw [← e2]; clear e2
  refine sd_aload_n (k := 0) (i := 0) (q := 0) (pc' := 9) (by decide +kernel) rfl rfl ?_
  refine sd_aload_n (k := 1) (i := 1) (q := 1) (pc' := 10) (by decide +kernel) rfl rfl ?_
  refine sF_gi (idx := 33) (ci := 8) (k := 1) (n := 3) (pc' := 13) (by decide +kernel) fl_X8_33 (by decide +kernel) rfl pa0 ?_
  obtain ⟨h3, e4, hf⟩ := hb_some hf
  refine sF_pi (idx := 33) (ci := 8) (k := 1) (n := 3) (pc' := 16) (by decide +kernel) fl_X8_33 (by decide +kernel) rfl rfl rfl pt ?_
  rw [← e4]; clear e4
  refine sd_aload_n (k := 0) (i := 0) (q := 0) (pc' := 17) (by decide +kernel) rfl rfl ?_
  refine sd_aload_n (k := 1) (i := 1) (q := 1) (pc' := 18) (by decide +kernel) rfl rfl ?_
  refine sF_gi (idx := 36) (ci := 8) (k := 2) (n := 3) (pc' := 21) (by decide +kernel) fl_X8_36 (by decide +kernel) rfl pa0 ?_
  obtain ⟨h5, e6, hf⟩ := hb_some hf
  refine sF_pi (idx := 36) (ci := 8) (k := 2) (n := 3) (pc' := 24) (by decide +kernel) fl_X8_36 (by decide +kernel) rfl rfl rfl pt ?_
  rw [← e6]; clear e6
  obtain rfl := Option.some.inj hf
  exact sd_vret (by decide +kernel) rfl (hE _)

theorem ml_X1_49 : Cond.methodLink RX1 49 yX9_looksAt ∈ sd_tb := sd_mem (i := 802) (by decide +kernel)
theorem fl_X1_52 : sd_fl RX1 52 9 0 := ⟨sd_mem (i := 211) (by decide +kernel), by decide, by decide⟩
theorem fl_X1_56 : sd_fl RX1 56 5 0 := ⟨sd_mem (i := 187) (by decide +kernel), by decide, by decide⟩
theorem fl_X1_22 : sd_fl RX1 22 1 2 := ⟨sd_mem (i := 345) (by decide +kernel), by decide, by decide⟩
theorem fl_X1_61 : sd_fl RX1 61 9 2 := ⟨sd_mem (i := 222) (by decide +kernel), by decide, by decide⟩
theorem ml_X1_64 : Cond.methodLink RX1 64 yX8_lay ∈ sd_tb := sd_mem (i := 803) (by decide +kernel)
theorem fl_X1_26 : sd_fl RX1 26 1 3 := ⟨sd_mem (i := 346) (by decide +kernel), by decide, by decide⟩
theorem fl_X1_17 : sd_fl RX1 17 1 1 := ⟨sd_mem (i := 343) (by decide +kernel), by decide, by decide⟩
theorem fl_X1_13 : sd_fl RX1 13 1 0 := ⟨sd_mem (i := 341) (by decide +kernel), by decide, by decide⟩
theorem ml_X1_72 : Cond.methodLink RX1 72 yX8_take ∈ sd_tb := sd_mem (i := 808) (by decide +kernel)
theorem mv_XS_take : sd_mV M_XS_take 1 := ⟨sd_mem (i := 809) (by decide +kernel), sd_mem (i := 810) (by decide +kernel), ⟨sd_mem (i := 811) (by decide +kernel), sd_mem (i := 116) (by decide +kernel), by decide +kernel, by decide +kernel, by decide +kernel⟩⟩
theorem ml_X1_68 : Cond.methodLink RX1 68 yX8_liesAs ∈ sd_tb := sd_mem (i := 804) (by decide +kernel)
theorem mv_XS_liesAs : sd_mV M_XS_liesAs 1 := ⟨sd_mem (i := 805) (by decide +kernel), sd_mem (i := 806) (by decide +kernel), ⟨sd_mem (i := 807) (by decide +kernel), sd_mem (i := 116) (by decide +kernel), by decide +kernel, by decide +kernel, by decide +kernel⟩⟩
def M_XK_addFrom : sd_MX := (yX1_addFrom, cX1_addFrom, 6, none, { frames := 3, cells := 0, slots := 0, locals := 88 })
def XK_addFrom_B117 (h : sd_H) (l5 : Int32) : Option sd_H :=
  gd (sd_inB l5 30) (gd (sd_inB l5 30) (hb (wI h 65 (l5 : Int32).toNatClampNeg ((h.1 65 (l5 : Int32).toNatClampNeg) + 1)) (fun h13 => some h13)))
set_option maxHeartbeats 4000000 in
set_option maxRecDepth 100000 in
theorem J_XK_addFrom_B117 {G : sd_GX} {X : sd_CX} (hE : ∀ g : sd_H, sd_end G X M_XK_addFrom (sd_F g)) {h : sd_H} {r : sd_H} {l5 : Int32} (hf : XK_addFrom_B117 h l5 = some r) : sd_J G X (sd_QR G X M_XK_addFrom (none, sd_F r)) M_XK_addFrom 117 [(0, .ref (G.1 + 63)), (5, .int l5)] [] (sd_F h) := by
  unfold XK_addFrom_B117 at hf
  refine sd_aload_n (k := 0) (i := 0) (q := 0) (pc' := 118) (by decide +kernel) rfl rfl ?_
  refine sF_gr (idx := 17) (ci := 1) (k := 1) (n := 4) (r := 65) (pc' := 121) (by decide +kernel) fl_X1_17 (by decide +kernel) rfl SH_63 (by decide) (by decide +kernel) ?_
  refine sd_iload (i := 5) (q := 1) (pc' := 123) (by decide +kernel) rfl ?_
  refine sd_dup2 (pc' := 124) (by decide +kernel) rfl rfl ?_
  obtain ⟨g11, hf⟩ := gd_some hf
  refine sF_iald (n := 30) (pc' := 125) (by decide +kernel) SH_65 g11 ?_
  refine sd_iconst (n := 1) (v := 1) (pc' := 126) (by decide +kernel) (by decide) ?_
  refine sd_iadd (pc' := 127) (by decide +kernel) ?_
  obtain ⟨g12, hf⟩ := gd_some hf
  obtain ⟨h13, e14, hf⟩ := hb_some hf
  refine sF_iast (n := 30) (pc' := 128) (by decide +kernel) SH_65 g12 ?_
  rw [← e14]; clear e14
  obtain rfl := Option.some.inj hf
  exact sd_vret (by decide +kernel) rfl (hE _)
def XK_addFrom_B76 (h : sd_H) (l5 : Int32) : Option sd_H :=
  (if l5 = (h.1 63 3) then gd (sd_inB l5 30) (b1 (XS_take h (67 + 1 * (l5 : Int32).toNatClampNeg) 66) (fun h17 => gd (sd_inB l5 30) (hb (wI h17 65 (l5 : Int32).toNatClampNeg 0) (fun h19 => hb (wI h19 63 3 ((h19.1 63 3) + 1)) (fun h21 => XK_addFrom_B117 h21 l5))))) else XK_addFrom_B117 h l5)
set_option maxHeartbeats 4000000 in
set_option maxRecDepth 100000 in
theorem J_XK_addFrom_B76 {G : sd_GX} {X : sd_CX} (hE : ∀ g : sd_H, sd_end G X M_XK_addFrom (sd_F g)) {h : sd_H} {r : sd_H} {l5 : Int32} (hf : XK_addFrom_B76 h l5 = some r) : sd_J G X (sd_QR G X M_XK_addFrom (none, sd_F r)) M_XK_addFrom 76 [(0, .ref (G.1 + 63)), (5, .int l5)] [] (sd_F h) := by
  unfold XK_addFrom_B76 at hf
  refine sd_iload (i := 5) (q := 1) (pc' := 78) (by decide +kernel) rfl ?_
  refine sd_aload_n (k := 0) (i := 0) (q := 0) (pc' := 79) (by decide +kernel) rfl rfl ?_
  refine sF_gi (idx := 26) (ci := 1) (k := 3) (n := 4) (pc' := 82) (by decide +kernel) fl_X1_26 (by decide +kernel) rfl SH_63 ?_
  refine sd_icmp_ne (off := 35) (tgt := 117) (pc' := 85) (by decide +kernel) (fun c10 => ?_) (fun c10 => ?_)
  · replace hf := ite_n c10 hf
    refine sd_J.sub (lo' := [(0, .ref (G.1 + 63)), (5, .int l5)]) [0, 1] rfl ?_
    exact J_XK_addFrom_B117 hE hf
  · replace hf := ite_p c10 hf
    refine sd_aload_n (k := 0) (i := 0) (q := 0) (pc' := 86) (by decide +kernel) rfl rfl ?_
    refine sF_gr (idx := 13) (ci := 1) (k := 0) (n := 4) (r := 64) (pc' := 89) (by decide +kernel) fl_X1_13 (by decide +kernel) rfl SH_63 (by decide) (by decide +kernel) ?_
    refine sd_iload (i := 5) (q := 1) (pc' := 91) (by decide +kernel) rfl ?_
    obtain ⟨g15, hf⟩ := gd_some hf
    refine sF_aald (n := 30) (r := (67 + 1 * (l5 : Int32).toNatClampNeg)) (pc' := 92) (by decide +kernel) SH_64 (by decide) g15 (rta_64 (inB_lt g15)) ?_
    refine sd_aload_n (k := 0) (i := 0) (q := 0) (pc' := 93) (by decide +kernel) rfl rfl ?_
    refine sF_gr (idx := 22) (ci := 1) (k := 2) (n := 4) (r := 66) (pc' := 96) (by decide +kernel) fl_X1_22 (by decide +kernel) rfl SH_63 (by decide) (by decide +kernel) ?_
    obtain ⟨h17, q16, hf⟩ := b1_some hf
    refine sF_callV0 (idx := 72) (b := (67 + 1 * (l5 : Int32).toNatClampNeg)) (As := [.ref (G.1 + 66)]) (ci := 8) (nn := 3) (pc' := 99) 1 (T_XS_take (G := G) (h := h) (sha_64 (inB_lt g15)) SH_66 q16) (by decide +kernel) mv_XS_take ml_X1_72 (by decide +kernel) rfl rfl (Nat.le_of_ble_eq_true rfl) (sha_64 (inB_lt g15)) rfl (by decide) rfl rfl ?_
    refine sd_aload_n (k := 0) (i := 0) (q := 0) (pc' := 100) (by decide +kernel) rfl rfl ?_
    refine sF_gr (idx := 17) (ci := 1) (k := 1) (n := 4) (r := 65) (pc' := 103) (by decide +kernel) fl_X1_17 (by decide +kernel) rfl SH_63 (by decide) (by decide +kernel) ?_
    refine sd_iload (i := 5) (q := 1) (pc' := 105) (by decide +kernel) rfl ?_
    refine sd_iconst (n := 0) (v := 0) (pc' := 106) (by decide +kernel) (by decide) ?_
    obtain ⟨g18, hf⟩ := gd_some hf
    obtain ⟨h19, e20, hf⟩ := hb_some hf
    refine sF_iast (n := 30) (pc' := 107) (by decide +kernel) SH_65 g18 ?_
    rw [← e20]; clear e20
    refine sd_aload_n (k := 0) (i := 0) (q := 0) (pc' := 108) (by decide +kernel) rfl rfl ?_
    refine sd_dup (pc' := 109) (by decide +kernel) rfl ?_
    refine sF_gi (idx := 26) (ci := 1) (k := 3) (n := 4) (pc' := 112) (by decide +kernel) fl_X1_26 (by decide +kernel) rfl SH_63 ?_
    refine sd_iconst (n := 1) (v := 1) (pc' := 113) (by decide +kernel) (by decide) ?_
    refine sd_iadd (pc' := 114) (by decide +kernel) ?_
    obtain ⟨h21, e22, hf⟩ := hb_some hf
    refine sF_pi (idx := 26) (ci := 1) (k := 3) (n := 4) (pc' := 117) (by decide +kernel) fl_X1_26 (by decide +kernel) rfl rfl rfl SH_63 ?_
    rw [← e22]; clear e22
    refine sd_J.sub (lo' := [(0, .ref (G.1 + 63)), (5, .int l5)]) [0, 1] rfl ?_
    exact J_XK_addFrom_B117 hE hf
def XK_addFrom_L44 : Nat → sd_H → Int32 → Option sd_H
  | 0, _, _ => none
  | n + 1, h, l5 =>
  (if (h.1 63 3) ≤ l5 then XK_addFrom_B76 h l5 else gd (sd_inB l5 30) (b1 (XS_liesAs h (67 + 1 * (l5 : Int32).toNatClampNeg) 66) (fun t25 => (if t25 = 0 then XK_addFrom_L44 n h (l5 + 1) else XK_addFrom_B76 h l5))))
set_option maxHeartbeats 4000000 in
set_option maxRecDepth 100000 in
theorem J_XK_addFrom_L44 {G : sd_GX} {X : sd_CX} (hE : ∀ g : sd_H, sd_end G X M_XK_addFrom (sd_F g))  {r : sd_H} : ∀ (n : Nat) (h : sd_H) (l5 : Int32), XK_addFrom_L44 n h l5 = some r → sd_J G X (sd_QR G X M_XK_addFrom (none, sd_F r)) M_XK_addFrom 44 [(0, .ref (G.1 + 63)), (5, .int l5)] [] (sd_F h) := by
  intro n
  induction n with
  | zero =>
    intro h l5 hf
    rw [XK_addFrom_L44] at hf
    cases hf
  | succ n ih =>
    intro h l5 hf
    rw [XK_addFrom_L44] at hf
    refine sd_iload (i := 5) (q := 1) (pc' := 46) (by decide +kernel) rfl ?_
    refine sd_aload_n (k := 0) (i := 0) (q := 0) (pc' := 47) (by decide +kernel) rfl rfl ?_
    refine sF_gi (idx := 26) (ci := 1) (k := 3) (n := 4) (pc' := 50) (by decide +kernel) fl_X1_26 (by decide +kernel) rfl SH_63 ?_
    refine sd_icmp_ge (off := 26) (tgt := 76) (pc' := 53) (by decide +kernel) (fun c9 => ?_) (fun c9 => ?_)
    · replace hf := ite_p c9 hf
      refine sd_J.sub (lo' := [(0, .ref (G.1 + 63)), (5, .int l5)]) [0, 1] rfl ?_
      exact J_XK_addFrom_B76 hE hf
    · replace hf := ite_n c9 hf
      refine sd_aload_n (k := 0) (i := 0) (q := 0) (pc' := 54) (by decide +kernel) rfl rfl ?_
      refine sF_gr (idx := 13) (ci := 1) (k := 0) (n := 4) (r := 64) (pc' := 57) (by decide +kernel) fl_X1_13 (by decide +kernel) rfl SH_63 (by decide) (by decide +kernel) ?_
      refine sd_iload (i := 5) (q := 1) (pc' := 59) (by decide +kernel) rfl ?_
      obtain ⟨g23, hf⟩ := gd_some hf
      refine sF_aald (n := 30) (r := (67 + 1 * (l5 : Int32).toNatClampNeg)) (pc' := 60) (by decide +kernel) SH_64 (by decide) g23 (rta_64 (inB_lt g23)) ?_
      refine sd_aload_n (k := 0) (i := 0) (q := 0) (pc' := 61) (by decide +kernel) rfl rfl ?_
      refine sF_gr (idx := 22) (ci := 1) (k := 2) (n := 4) (r := 66) (pc' := 64) (by decide +kernel) fl_X1_22 (by decide +kernel) rfl SH_63 (by decide) (by decide +kernel) ?_
      obtain ⟨t25, q24, hf⟩ := b1_some hf
      refine sF_callV (idx := 68) (b := (67 + 1 * (l5 : Int32).toNatClampNeg)) (As := [.ref (G.1 + 66)]) (ci := 8) (nn := 3) (pc' := 67) 1 (T_XS_liesAs (G := G) (h := h) (sha_64 (inB_lt g23)) SH_66 q24) (by decide +kernel) mv_XS_liesAs ml_X1_68 (by decide +kernel) rfl rfl (Nat.le_of_ble_eq_true rfl) (sha_64 (inB_lt g23)) rfl (by decide) rfl rfl ?_
      refine sd_if_ne (off := 9) (tgt := 76) (pc' := 70) (by decide +kernel) (fun c26 => ?_) (fun c26 => ?_)
      · replace hf := ite_n c26 hf
        refine sd_J.sub (lo' := [(0, .ref (G.1 + 63)), (5, .int l5)]) [0, 1] rfl ?_
        exact J_XK_addFrom_B76 hE hf
      · replace hf := ite_p c26 hf
        refine sd_iinc (i := 5) (q := 1) (n := 1) (v := (l5 + 1)) (pc' := 73) (lo' := [(5, .int (l5 + 1)), (0, .ref (G.1 + 63))]) (by decide +kernel) rfl rfl (by decide) rfl ?_
        refine sd_goto (off := -29) (tgt := 44) (pc' := 76) (by decide +kernel) ?_
        refine sd_J.sub (lo' := [(0, .ref (G.1 + 63)), (5, .int (l5 + 1))]) [1, 0] rfl ?_
        exact ih _ _ hf
def XK_addFrom (h : sd_H) (a0 : Nat) (a1 : Int32) (a2 : Int32) (a3 : Int32) : Option sd_H :=
  b1 (XA_looksAt h a0 a1) (fun t2 => (if t2 = 0 then some h else gd (sd_inB a1 3) ((if (h.1 ((a0 + 1) + 1 + (a1 : Int32).toNatClampNeg) 0) = a2 then gd (sd_inB a1 3) (b1 (XS_lay h 66 ((a0 + 1) + 1 + (a1 : Int32).toNatClampNeg) a3 (h.1 a0 2)) (fun h8 => XK_addFrom_L44 FU h8 0)) else some h))))
set_option maxHeartbeats 4000000 in
set_option maxRecDepth 100000 in
theorem T_XK_addFrom {G : sd_GX} {h : sd_H} {a0 : Nat} {a1 : Int32} {a2 : Int32} {a3 : Int32} {r : sd_H} (pa0 : sd_SH a0 = (9, 6)) (hf : XK_addFrom h a0 a1 a2 a3 = some r) : sd_RunF G M_XK_addFrom [.ref (G.1 + 63), .ref (G.1 + a0), .int a1, .int a2, .int a3] h none r := by
  refine sF_run ⟨rfl, rfl⟩ (by decide +kernel) (Nat.le_of_ble_eq_true rfl) (lo := [(0, .ref (G.1 + 63)), (1, .ref (G.1 + a0)), (2, .int a1), (3, .int a2), (4, .int a3)]) rfl (fun X hE => ?_)
  unfold XK_addFrom at hf
  refine sd_aload_n (k := 1) (i := 1) (q := 1) (pc' := 1) (by decide +kernel) rfl rfl ?_
  refine sd_iload_n (k := 2) (i := 2) (q := 2) (pc' := 2) (by decide +kernel) rfl rfl ?_
  obtain ⟨t2, q1, hf⟩ := b1_some hf
  refine sF_callV (idx := 49) (b := a0) (As := [.int a1]) (ci := 9) (nn := 6) (pc' := 5) 1 (T_XA_looksAt (G := G) (h := h) pa0 q1) (by decide +kernel) mv_XA_looksAt ml_X1_49 (by decide +kernel) rfl rfl (Nat.le_of_ble_eq_true rfl) pa0 rfl (by decide) rfl rfl ?_
  refine sd_if_eq (off := 16) (tgt := 21) (pc' := 8) (by decide +kernel) (fun c3 => ?_) (fun c3 => ?_)
  · replace hf := ite_p c3 hf
    obtain rfl := Option.some.inj hf
    exact sd_vret (by decide +kernel) rfl (hE _)
  · replace hf := ite_n c3 hf
    refine sd_aload_n (k := 1) (i := 1) (q := 1) (pc' := 9) (by decide +kernel) rfl rfl ?_
    refine sF_gr (idx := 52) (ci := 9) (k := 0) (n := 6) (r := (a0 + 1)) (pc' := 12) (by decide +kernel) fl_X1_52 (by decide +kernel) rfl pa0 (by decide) (rt_9_0 pa0) ?_
    refine sd_iload_n (k := 2) (i := 2) (q := 2) (pc' := 13) (by decide +kernel) rfl rfl ?_
    obtain ⟨g4, hf⟩ := gd_some hf
    refine sF_aald (n := 3) (r := ((a0 + 1) + 1 + (a1 : Int32).toNatClampNeg)) (pc' := 14) (by decide +kernel) (sh_9_0 pa0) (by decide) g4 (rta_R (sh_9_0 pa0) (inB_lt g4)) ?_
    refine sF_gi (idx := 56) (ci := 5) (k := 0) (n := 4) (pc' := 17) (by decide +kernel) fl_X1_56 (by decide +kernel) rfl (sha_R (sh_9_0 pa0) (inB_lt g4)) ?_
    refine sd_iload_n (k := 3) (i := 3) (q := 3) (pc' := 18) (by decide +kernel) rfl rfl ?_
    refine sd_icmp_eq (off := 4) (tgt := 22) (pc' := 21) (by decide +kernel) (fun c5 => ?_) (fun c5 => ?_)
    · replace hf := ite_p c5 hf
      refine sd_aload_n (k := 0) (i := 0) (q := 0) (pc' := 23) (by decide +kernel) rfl rfl ?_
      refine sF_gr (idx := 22) (ci := 1) (k := 2) (n := 4) (r := 66) (pc' := 26) (by decide +kernel) fl_X1_22 (by decide +kernel) rfl SH_63 (by decide) (by decide +kernel) ?_
      refine sd_aload_n (k := 1) (i := 1) (q := 1) (pc' := 27) (by decide +kernel) rfl rfl ?_
      refine sF_gr (idx := 52) (ci := 9) (k := 0) (n := 6) (r := (a0 + 1)) (pc' := 30) (by decide +kernel) fl_X1_52 (by decide +kernel) rfl pa0 (by decide) (rt_9_0 pa0) ?_
      refine sd_iload_n (k := 2) (i := 2) (q := 2) (pc' := 31) (by decide +kernel) rfl rfl ?_
      obtain ⟨g6, hf⟩ := gd_some hf
      refine sF_aald (n := 3) (r := ((a0 + 1) + 1 + (a1 : Int32).toNatClampNeg)) (pc' := 32) (by decide +kernel) (sh_9_0 pa0) (by decide) g6 (rta_R (sh_9_0 pa0) (inB_lt g6)) ?_
      refine sd_iload (i := 4) (q := 4) (pc' := 34) (by decide +kernel) rfl ?_
      refine sd_aload_n (k := 1) (i := 1) (q := 1) (pc' := 35) (by decide +kernel) rfl rfl ?_
      refine sF_gi (idx := 61) (ci := 9) (k := 2) (n := 6) (pc' := 38) (by decide +kernel) fl_X1_61 (by decide +kernel) rfl pa0 ?_
      obtain ⟨h8, q7, hf⟩ := b1_some hf
      refine sF_callV0 (idx := 64) (b := 66) (As := [.ref (G.1 + ((a0 + 1) + 1 + (a1 : Int32).toNatClampNeg)), .int a3, .int (h.1 a0 2)]) (ci := 8) (nn := 3) (pc' := 41) 3 (T_XS_lay (G := G) (h := h) SH_66 (sha_R (sh_9_0 pa0) (inB_lt g6)) q7) (by decide +kernel) mv_XS_lay ml_X1_64 (by decide +kernel) rfl rfl (Nat.le_of_ble_eq_true rfl) SH_66 rfl (by decide) rfl rfl ?_
      refine sd_iconst (n := 0) (v := 0) (pc' := 42) (by decide +kernel) (by decide) ?_
      refine sd_istore (i := 5) (pc' := 44) (lo' := [(5, .int 0), (0, .ref (G.1 + 63)), (1, .ref (G.1 + a0)), (2, .int a1), (3, .int a2), (4, .int a3)]) (by decide +kernel) (by decide) rfl ?_
      refine sd_J.sub (lo' := [(0, .ref (G.1 + 63)), (5, .int 0)]) [1, 0] rfl ?_
      exact J_XK_addFrom_L44 hE _ _ _ hf
    · replace hf := ite_n c5 hf
      obtain rfl := Option.some.inj hf
      exact sd_vret (by decide +kernel) rfl (hE _)

theorem ml_X1_30 : Cond.methodLink RX1 30 yX9_looksAtRow ∈ sd_tb := sd_mem (i := 789) (by decide +kernel)
theorem mv_XA_looksAtRow : sd_mV M_XA_looksAtRow 1 := ⟨sd_mem (i := 790) (by decide +kernel), sd_mem (i := 791) (by decide +kernel), ⟨sd_mem (i := 792) (by decide +kernel), sd_mem (i := 111) (by decide +kernel), by decide +kernel, by decide +kernel, by decide +kernel⟩⟩
theorem fl_X1_36 : sd_fl RX1 36 2 1 := ⟨sd_mem (i := 254) (by decide +kernel), by decide, by decide⟩
theorem ml_X1_41 : Cond.methodLink RX1 41 yX9_isDone ∈ sd_tb := sd_mem (i := 797) (by decide +kernel)
theorem ml_X1_45 : Cond.methodLink RX1 45 yX1_addFrom ∈ sd_tb := sd_mem (i := 798) (by decide +kernel)
theorem mv_XK_addFrom : sd_mV M_XK_addFrom 4 := ⟨sd_mem (i := 800) (by decide +kernel), sd_mem (i := 10) (by decide +kernel), ⟨sd_mem (i := 801) (by decide +kernel), sd_mem (i := 115) (by decide +kernel), by decide +kernel, by decide +kernel, by decide +kernel⟩⟩
def M_XK_collect : sd_MX := (yX1_collect, cX1_collect, 6, none, { frames := 4, cells := 0, slots := 0, locals := 113 })
def XK_collect_B67 (h : sd_H) (K18 : sd_H → Nat → Nat → Int32 → Int32 → Option sd_H) (l2 : Nat) (l3 : Nat) (l4 : Int32) (l5 : Int32) : Option sd_H :=
  K18 h l2 l3 l4 (l5 + 1)
set_option maxHeartbeats 4000000 in
set_option maxRecDepth 100000 in
theorem J_XK_collect_B67 {G : sd_GX} {X : sd_CX} (hE : ∀ g : sd_H, sd_end G X M_XK_collect (sd_F g)) {h : sd_H} {K18 : sd_H → Nat → Nat → Int32 → Int32 → Option sd_H} {r : sd_H} (hK18 : ∀ (g : sd_H) (l2 : Nat) (l3 : Nat) (l4 : Int32) (l5 : Int32), sd_SH l2 = (6, 4) → sd_SH l3 = (9, 6) → K18 g l2 l3 l4 l5 = some r → sd_J G X (sd_QR G X M_XK_collect (none, sd_F r)) M_XK_collect 18 [(0, .ref (G.1 + 63)), (1, .ref (G.1 + 6)), (2, .ref (G.1 + l2)), (3, .ref (G.1 + l3)), (4, .int l4), (5, .int l5)] [] (sd_F g)) {l2 : Nat} {l3 : Nat} {l4 : Int32} {l5 : Int32} (p2 : sd_SH l2 = (6, 4)) (p3 : sd_SH l3 = (9, 6)) (hf : XK_collect_B67 h K18 l2 l3 l4 l5 = some r) : sd_J G X (sd_QR G X M_XK_collect (none, sd_F r)) M_XK_collect 67 [(0, .ref (G.1 + 63)), (1, .ref (G.1 + 6)), (2, .ref (G.1 + l2)), (3, .ref (G.1 + l3)), (4, .int l4), (5, .int l5)] [] (sd_F h) := by
  unfold XK_collect_B67 at hf
  refine sd_iinc (i := 5) (q := 5) (n := 1) (v := (l5 + 1)) (pc' := 70) (lo' := [(5, .int (l5 + 1)), (0, .ref (G.1 + 63)), (1, .ref (G.1 + 6)), (2, .ref (G.1 + l2)), (3, .ref (G.1 + l3)), (4, .int l4)]) (by decide +kernel) rfl rfl (by decide) rfl ?_
  refine sd_goto (off := -52) (tgt := 18) (pc' := 73) (by decide +kernel) ?_
  refine sd_J.sub (lo' := [(0, .ref (G.1 + 63)), (1, .ref (G.1 + 6)), (2, .ref (G.1 + l2)), (3, .ref (G.1 + l3)), (4, .int l4), (5, .int (l5 + 1))]) [1, 2, 3, 4, 5, 0] rfl ?_
  exact hK18 _ _ _ _ _ p2 p3 hf
def XK_collect_L18 : Nat → sd_H → Nat → Nat → Int32 → Int32 → Option sd_H
  | 0, _, _, _, _, _ => none
  | n + 1, h, l2, l3, l4, l5 =>
  (if (h.1 6 1) ≤ l5 then some h else b1 (XA_isDone h l3 l5 l2) (fun t8 => (if t8 = 0 then XK_collect_B67 h (XK_collect_L18 n) l2 l3 l4 l5 else b1 (XK_addFrom h l3 1 l4 l5) (fun h11 => b1 (XK_addFrom h11 l3 2 l4 l5) (fun h13 => b1 (XK_addFrom h13 l3 0 l4 l5) (fun h15 => XK_collect_B67 h15 (XK_collect_L18 n) l2 l3 l4 l5))))))
set_option maxHeartbeats 4000000 in
set_option maxRecDepth 100000 in
theorem J_XK_collect_L18 {G : sd_GX} {X : sd_CX} (hE : ∀ g : sd_H, sd_end G X M_XK_collect (sd_F g))  {r : sd_H} : ∀ (n : Nat) (h : sd_H) (l2 : Nat) (l3 : Nat) (l4 : Int32) (l5 : Int32), sd_SH l2 = (6, 4) → sd_SH l3 = (9, 6) → XK_collect_L18 n h l2 l3 l4 l5 = some r → sd_J G X (sd_QR G X M_XK_collect (none, sd_F r)) M_XK_collect 18 [(0, .ref (G.1 + 63)), (1, .ref (G.1 + 6)), (2, .ref (G.1 + l2)), (3, .ref (G.1 + l3)), (4, .int l4), (5, .int l5)] [] (sd_F h) := by
  intro n
  induction n with
  | zero =>
    intro h l2 l3 l4 l5 p2 p3 hf
    rw [XK_collect_L18] at hf
    cases hf
  | succ n ih =>
    intro h l2 l3 l4 l5 p2 p3 hf
    rw [XK_collect_L18] at hf
    refine sd_iload (i := 5) (q := 5) (pc' := 20) (by decide +kernel) rfl ?_
    refine sd_aload_n (k := 1) (i := 1) (q := 1) (pc' := 21) (by decide +kernel) rfl rfl ?_
    refine sF_gi (idx := 36) (ci := 2) (k := 1) (n := 3) (pc' := 24) (by decide +kernel) fl_X1_36 (by decide +kernel) rfl SH_6 ?_
    refine sd_icmp_ge (off := 49) (tgt := 73) (pc' := 27) (by decide +kernel) (fun c6 => ?_) (fun c6 => ?_)
    · replace hf := ite_p c6 hf
      obtain rfl := Option.some.inj hf
      exact sd_vret (by decide +kernel) rfl (hE _)
    · replace hf := ite_n c6 hf
      refine sd_aload_n (k := 3) (i := 3) (q := 3) (pc' := 28) (by decide +kernel) rfl rfl ?_
      refine sd_iload (i := 5) (q := 5) (pc' := 30) (by decide +kernel) rfl ?_
      refine sd_aload_n (k := 2) (i := 2) (q := 2) (pc' := 31) (by decide +kernel) rfl rfl ?_
      obtain ⟨t8, q7, hf⟩ := b1_some hf
      refine sF_callV (idx := 41) (b := l3) (As := [.int l5, .ref (G.1 + l2)]) (ci := 9) (nn := 6) (pc' := 34) 2 (T_XA_isDone (G := G) (h := h) p3 p2 q7) (by decide +kernel) mv_XA_isDone ml_X1_41 (by decide +kernel) rfl rfl (Nat.le_of_ble_eq_true rfl) p3 rfl (by decide) rfl rfl ?_
      refine sd_if_eq (off := 33) (tgt := 67) (pc' := 37) (by decide +kernel) (fun c9 => ?_) (fun c9 => ?_)
      · replace hf := ite_p c9 hf
        refine sd_J.sub (lo' := [(0, .ref (G.1 + 63)), (1, .ref (G.1 + 6)), (2, .ref (G.1 + l2)), (3, .ref (G.1 + l3)), (4, .int l4), (5, .int l5)]) [0, 1, 2, 3, 4, 5] rfl ?_
        exact J_XK_collect_B67 hE ih p2 p3 hf
      · replace hf := ite_n c9 hf
        refine sd_aload_n (k := 0) (i := 0) (q := 0) (pc' := 38) (by decide +kernel) rfl rfl ?_
        refine sd_aload_n (k := 3) (i := 3) (q := 3) (pc' := 39) (by decide +kernel) rfl rfl ?_
        refine sd_iconst (n := 1) (v := 1) (pc' := 40) (by decide +kernel) (by decide) ?_
        refine sd_iload (i := 4) (q := 4) (pc' := 42) (by decide +kernel) rfl ?_
        refine sd_iload (i := 5) (q := 5) (pc' := 44) (by decide +kernel) rfl ?_
        obtain ⟨h11, q10, hf⟩ := b1_some hf
        refine sF_callV0 (idx := 45) (b := 63) (As := [.ref (G.1 + l3), .int 1, .int l4, .int l5]) (ci := 1) (nn := 4) (pc' := 47) 4 (T_XK_addFrom (G := G) (h := h) p3 q10) (by decide +kernel) mv_XK_addFrom ml_X1_45 (by decide +kernel) rfl rfl (Nat.le_of_ble_eq_true rfl) SH_63 rfl (by decide) rfl rfl ?_
        refine sd_aload_n (k := 0) (i := 0) (q := 0) (pc' := 48) (by decide +kernel) rfl rfl ?_
        refine sd_aload_n (k := 3) (i := 3) (q := 3) (pc' := 49) (by decide +kernel) rfl rfl ?_
        refine sd_iconst (n := 2) (v := 2) (pc' := 50) (by decide +kernel) (by decide) ?_
        refine sd_iload (i := 4) (q := 4) (pc' := 52) (by decide +kernel) rfl ?_
        refine sd_iload (i := 5) (q := 5) (pc' := 54) (by decide +kernel) rfl ?_
        obtain ⟨h13, q12, hf⟩ := b1_some hf
        refine sF_callV0 (idx := 45) (b := 63) (As := [.ref (G.1 + l3), .int 2, .int l4, .int l5]) (ci := 1) (nn := 4) (pc' := 57) 4 (T_XK_addFrom (G := G) (h := h11) p3 q12) (by decide +kernel) mv_XK_addFrom ml_X1_45 (by decide +kernel) rfl rfl (Nat.le_of_ble_eq_true rfl) SH_63 rfl (by decide) rfl rfl ?_
        refine sd_aload_n (k := 0) (i := 0) (q := 0) (pc' := 58) (by decide +kernel) rfl rfl ?_
        refine sd_aload_n (k := 3) (i := 3) (q := 3) (pc' := 59) (by decide +kernel) rfl rfl ?_
        refine sd_iconst (n := 0) (v := 0) (pc' := 60) (by decide +kernel) (by decide) ?_
        refine sd_iload (i := 4) (q := 4) (pc' := 62) (by decide +kernel) rfl ?_
        refine sd_iload (i := 5) (q := 5) (pc' := 64) (by decide +kernel) rfl ?_
        obtain ⟨h15, q14, hf⟩ := b1_some hf
        refine sF_callV0 (idx := 45) (b := 63) (As := [.ref (G.1 + l3), .int 0, .int l4, .int l5]) (ci := 1) (nn := 4) (pc' := 67) 4 (T_XK_addFrom (G := G) (h := h13) p3 q14) (by decide +kernel) mv_XK_addFrom ml_X1_45 (by decide +kernel) rfl rfl (Nat.le_of_ble_eq_true rfl) SH_63 rfl (by decide) rfl rfl ?_
        refine sd_J.sub (lo' := [(0, .ref (G.1 + 63)), (1, .ref (G.1 + 6)), (2, .ref (G.1 + l2)), (3, .ref (G.1 + l3)), (4, .int l4), (5, .int l5)]) [0, 1, 2, 3, 4, 5] rfl ?_
        exact J_XK_collect_B67 hE ih p2 p3 hf
def XK_collect (h : sd_H) (a1 : Nat) (a2 : Nat) (a3 : Int32) : Option sd_H :=
  hb (wI h 63 3 0) (fun h1 => b1 (XA_looksAtRow h1 a2 a3) (fun t4 => (if t4 = 0 then some h1 else XK_collect_L18 FU h1 a1 a2 a3 0)))
set_option maxHeartbeats 4000000 in
set_option maxRecDepth 100000 in
theorem T_XK_collect {G : sd_GX} {h : sd_H} {a1 : Nat} {a2 : Nat} {a3 : Int32} {r : sd_H} (pa1 : sd_SH a1 = (6, 4)) (pa2 : sd_SH a2 = (9, 6)) (hf : XK_collect h a1 a2 a3 = some r) : sd_RunF G M_XK_collect [.ref (G.1 + 63), .ref (G.1 + 6), .ref (G.1 + a1), .ref (G.1 + a2), .int a3] h none r := by
  refine sF_run ⟨rfl, rfl⟩ (by decide +kernel) (Nat.le_of_ble_eq_true rfl) (lo := [(0, .ref (G.1 + 63)), (1, .ref (G.1 + 6)), (2, .ref (G.1 + a1)), (3, .ref (G.1 + a2)), (4, .int a3)]) rfl (fun X hE => ?_)
  unfold XK_collect at hf
  refine sd_aload_n (k := 0) (i := 0) (q := 0) (pc' := 1) (by decide +kernel) rfl rfl ?_
  refine sd_iconst (n := 0) (v := 0) (pc' := 2) (by decide +kernel) (by decide) ?_
  obtain ⟨h1, e2, hf⟩ := hb_some hf
  refine sF_pi (idx := 26) (ci := 1) (k := 3) (n := 4) (pc' := 5) (by decide +kernel) fl_X1_26 (by decide +kernel) rfl rfl rfl SH_63 ?_
  rw [← e2]; clear e2
  refine sd_aload_n (k := 3) (i := 3) (q := 3) (pc' := 6) (by decide +kernel) rfl rfl ?_
  refine sd_iload (i := 4) (q := 4) (pc' := 8) (by decide +kernel) rfl ?_
  obtain ⟨t4, q3, hf⟩ := b1_some hf
  refine sF_callV (idx := 30) (b := a2) (As := [.int a3]) (ci := 9) (nn := 6) (pc' := 11) 1 (T_XA_looksAtRow (G := G) (h := h1) pa2 q3) (by decide +kernel) mv_XA_looksAtRow ml_X1_30 (by decide +kernel) rfl rfl (Nat.le_of_ble_eq_true rfl) pa2 rfl (by decide) rfl rfl ?_
  refine sd_if_ne (off := 4) (tgt := 15) (pc' := 14) (by decide +kernel) (fun c5 => ?_) (fun c5 => ?_)
  · replace hf := ite_n c5 hf
    refine sd_iconst (n := 0) (v := 0) (pc' := 16) (by decide +kernel) (by decide) ?_
    refine sd_istore (i := 5) (pc' := 18) (lo' := [(5, .int 0), (0, .ref (G.1 + 63)), (1, .ref (G.1 + 6)), (2, .ref (G.1 + a1)), (3, .ref (G.1 + a2)), (4, .int a3)]) (by decide +kernel) (by decide) rfl ?_
    refine sd_J.sub (lo' := [(0, .ref (G.1 + 63)), (1, .ref (G.1 + 6)), (2, .ref (G.1 + a1)), (3, .ref (G.1 + a2)), (4, .int a3), (5, .int 0)]) [1, 2, 3, 4, 5, 0] rfl ?_
    exact J_XK_collect_L18 hE _ _ _ _ _ _ pa1 pa2 hf
  · replace hf := ite_p c5 hf
    obtain rfl := Option.some.inj hf
    exact sd_vret (by decide +kernel) rfl (hE _)

theorem fl_X11_48 : sd_fl RX11 48 11 5 := ⟨sd_mem (i := 429) (by decide +kernel), by decide, by decide⟩
theorem ml_X11_262 : Cond.methodLink RX11 262 yX1_collect ∈ sd_tb := sd_mem (i := 785) (by decide +kernel)
theorem mv_XK_collect : sd_mV M_XK_collect 4 := ⟨sd_mem (i := 786) (by decide +kernel), sd_mem (i := 787) (by decide +kernel), ⟨sd_mem (i := 788) (by decide +kernel), sd_mem (i := 115) (by decide +kernel), by decide +kernel, by decide +kernel, by decide +kernel⟩⟩
theorem fl_X11_266 : sd_fl RX11 266 1 3 := ⟨sd_mem (i := 347) (by decide +kernel), by decide, by decide⟩
def M_XT_kinds : sd_MX := (yX11_kinds, cX11_kinds, 3, (some .int), { frames := 5, cells := 0, slots := 0, locals := 138 })
def XT_kinds (h : sd_H) (a0 : Int32) (a1 : Int32) : Option (sd_H × Int32) :=
  b1 (XT_isStatement h a0) (fun t2 => (if t2 = 0 then some (h, (-2)) else b1 (XT_isRow a1) (fun t5 => (if t5 = 0 then some (h, (-2)) else gd (sd_inB a0 5) (b1 (XK_collect h 1 (8 + 5 * (a0 : Int32).toNatClampNeg) a1) (fun h9 => some (h9, (h9.1 63 3))))))))
set_option maxHeartbeats 4000000 in
set_option maxRecDepth 100000 in
theorem T_XT_kinds {G : sd_GX} {h : sd_H} {a0 : Int32} {a1 : Int32} {r : (sd_H × Int32)} (hf : XT_kinds h a0 a1 = some r) : sd_RunF G M_XT_kinds [.ref (G.1 + 0), .int a0, .int a1] h (some (.int r.2)) r.1 := by
  refine sF_run ⟨rfl, rfl⟩ (by decide +kernel) (Nat.le_of_ble_eq_true rfl) (lo := [(0, .ref (G.1 + 0)), (1, .int a0), (2, .int a1)]) rfl (fun X hE => ?_)
  unfold XT_kinds at hf
  refine sd_aload_n (k := 0) (i := 0) (q := 0) (pc' := 1) (by decide +kernel) rfl rfl ?_
  refine sd_iload_n (k := 1) (i := 1) (q := 1) (pc' := 2) (by decide +kernel) rfl rfl ?_
  obtain ⟨t2, q1, hf⟩ := b1_some hf
  refine sF_callV (idx := 207) (b := 0) (As := [.int a0]) (ci := 11) (nn := 17) (pc' := 5) 1 (T_XT_isStatement (G := G) (h := h)  q1) (by decide +kernel) mv_XT_isStatement ml_X11_207 (by decide +kernel) rfl rfl (Nat.le_of_ble_eq_true rfl) SH_0 rfl (by decide) rfl rfl ?_
  refine sd_if_eq (off := 10) (tgt := 15) (pc' := 8) (by decide +kernel) (fun c3 => ?_) (fun c3 => ?_)
  · replace hf := ite_p c3 hf
    refine sd_bipush (n := -2) (v := (-2)) (pc' := 17) (by decide +kernel) (by decide) ?_
    obtain rfl := Option.some.inj hf
    exact sd_iret (by decide +kernel) rfl (hE _)
  · replace hf := ite_n c3 hf
    refine sd_iload_n (k := 2) (i := 2) (q := 2) (pc' := 9) (by decide +kernel) rfl rfl ?_
    obtain ⟨t5, q4, hf⟩ := b1_some hf
    refine sF_callS (idx := 93) (As := [.int a1]) (pc' := 12) 1 (T_XT_isRow (G := G) (h := h)  q4) (by decide +kernel) mv_XT_isRow ml_X11_93 (by decide +kernel) rfl rfl (Nat.le_of_ble_eq_true rfl) rfl ?_
    refine sd_if_ne (off := 6) (tgt := 18) (pc' := 15) (by decide +kernel) (fun c6 => ?_) (fun c6 => ?_)
    · replace hf := ite_n c6 hf
      refine sd_aload_n (k := 0) (i := 0) (q := 0) (pc' := 19) (by decide +kernel) rfl rfl ?_
      refine sF_gr (idx := 48) (ci := 11) (k := 5) (n := 17) (r := 63) (pc' := 22) (by decide +kernel) fl_X11_48 (by decide +kernel) rfl SH_0 (by decide) (by decide +kernel) ?_
      refine sd_aload_n (k := 0) (i := 0) (q := 0) (pc' := 23) (by decide +kernel) rfl rfl ?_
      refine sF_gr (idx := 21) (ci := 11) (k := 1) (n := 17) (r := 6) (pc' := 26) (by decide +kernel) fl_X11_21 (by decide +kernel) rfl SH_0 (by decide) (by decide +kernel) ?_
      refine sd_aload_n (k := 0) (i := 0) (q := 0) (pc' := 27) (by decide +kernel) rfl rfl ?_
      refine sF_gr (idx := 12) (ci := 11) (k := 0) (n := 17) (r := 1) (pc' := 30) (by decide +kernel) fl_X11_12 (by decide +kernel) rfl SH_0 (by decide) (by decide +kernel) ?_
      refine sd_aload_n (k := 0) (i := 0) (q := 0) (pc' := 31) (by decide +kernel) rfl rfl ?_
      refine sF_gr (idx := 21) (ci := 11) (k := 1) (n := 17) (r := 6) (pc' := 34) (by decide +kernel) fl_X11_21 (by decide +kernel) rfl SH_0 (by decide) (by decide +kernel) ?_
      refine sF_gr (idx := 173) (ci := 2) (k := 0) (n := 3) (r := 7) (pc' := 37) (by decide +kernel) fl_X11_173 (by decide +kernel) rfl SH_6 (by decide) (by decide +kernel) ?_
      refine sd_iload_n (k := 1) (i := 1) (q := 1) (pc' := 38) (by decide +kernel) rfl rfl ?_
      obtain ⟨g7, hf⟩ := gd_some hf
      refine sF_aald (n := 5) (r := (8 + 5 * (a0 : Int32).toNatClampNeg)) (pc' := 39) (by decide +kernel) SH_7 (by decide) g7 (rta_7 (inB_lt g7)) ?_
      refine sd_iload_n (k := 2) (i := 2) (q := 2) (pc' := 40) (by decide +kernel) rfl rfl ?_
      obtain ⟨h9, q8, hf⟩ := b1_some hf
      refine sF_callV0 (idx := 262) (b := 63) (As := [.ref (G.1 + 6), .ref (G.1 + 1), .ref (G.1 + (8 + 5 * (a0 : Int32).toNatClampNeg)), .int a1]) (ci := 1) (nn := 4) (pc' := 43) 4 (T_XK_collect (G := G) (h := h) SH_1 (sha_7 (inB_lt g7)) q8) (by decide +kernel) mv_XK_collect ml_X11_262 (by decide +kernel) rfl rfl (Nat.le_of_ble_eq_true rfl) SH_63 rfl (by decide) rfl rfl ?_
      refine sd_aload_n (k := 0) (i := 0) (q := 0) (pc' := 44) (by decide +kernel) rfl rfl ?_
      refine sF_gr (idx := 48) (ci := 11) (k := 5) (n := 17) (r := 63) (pc' := 47) (by decide +kernel) fl_X11_48 (by decide +kernel) rfl SH_0 (by decide) (by decide +kernel) ?_
      refine sF_gi (idx := 266) (ci := 1) (k := 3) (n := 4) (pc' := 50) (by decide +kernel) fl_X11_266 (by decide +kernel) rfl SH_63 ?_
      obtain rfl := Option.some.inj hf
      exact sd_iret (by decide +kernel) rfl (hE _)
    · replace hf := ite_p c6 hf
      refine sd_bipush (n := -2) (v := (-2)) (pc' := 17) (by decide +kernel) (by decide) ?_
      obtain rfl := Option.some.inj hf
      exact sd_iret (by decide +kernel) rfl (hE _)
