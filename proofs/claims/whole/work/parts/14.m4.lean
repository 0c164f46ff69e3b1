def M_XY_isShared : sd_MX := (yX10_isShared, cX10_isShared, 7, (some .boolean), { frames := 1, cells := 0, slots := 0, locals := 40 })
def XY_isShared_L7 (h : sd_H) : Nat → Int32 → Int32 → Int32 → Int32 → Option Int32
  | 0, _, _, _, _ => none
  | n + 1, l1, l2, l3, l4 =>
  (if (h.1 6 1) ≤ l4 then some 1 else gd (sd_inB ((l4 * 6) + l1) 60) (gd (sd_inB ((l4 * 6) + l1) 60) ((if ((h.1 59 (((l4 * 6) + l1) : Int32).toNatClampNeg) &&& (l2 ||| l3)) = 0 then (if ((h.1 58 (((l4 * 6) + l1) : Int32).toNatClampNeg) &&& l3) = 0 then XY_isShared_L7 h n l1 (l2 ||| (h.1 58 (((l4 * 6) + l1) : Int32).toNatClampNeg)) (l3 ||| (h.1 59 (((l4 * 6) + l1) : Int32).toNatClampNeg)) (l4 + 1) else some 0) else some 0))))
set_option maxHeartbeats 4000000 in
set_option maxRecDepth 100000 in
theorem J_XY_isShared_L7 {G : sd_GX} {X : sd_CX} (hE : ∀ g : sd_H, sd_end G X M_XY_isShared (sd_F g)) {h : sd_H} {r : Int32} : ∀ (n : Nat) (l1 : Int32) (l2 : Int32) (l3 : Int32) (l4 : Int32), XY_isShared_L7 h n l1 l2 l3 l4 = some r → sd_J G X (sd_QR G X M_XY_isShared (some (.int r), sd_F h)) M_XY_isShared 7 [(0, .ref (G.1 + 56)), (1, .int l1), (2, .int l2), (3, .int l3), (4, .int l4)] [] (sd_F h) := by
  intro n
  induction n with
  | zero =>
    intro l1 l2 l3 l4 hf
    rw [XY_isShared_L7] at hf
    cases hf
  | succ n ih =>
    intro l1 l2 l3 l4 hf
    rw [XY_isShared_L7] at hf
    refine sd_iload (i := 4) (q := 4) (pc' := 9) (by decide +kernel) rfl ?_
    refine sd_aload_n (k := 0) (i := 0) (q := 0) (pc' := 10) (by decide +kernel) rfl rfl ?_
    refine sF_gr (idx := 28) (ci := 10) (k := 1) (n := 6) (r := 6) (pc' := 13) (by decide +kernel) fl_X10_28 (by decide +kernel) rfl SH_56 (by decide) (by decide +kernel) ?_
    refine sF_gi (idx := 32) (ci := 2) (k := 1) (n := 3) (pc' := 16) (by decide +kernel) fl_X10_32 (by decide +kernel) rfl SH_6 ?_
    refine sd_icmp_ge (off := 69) (tgt := 85) (pc' := 19) (by decide +kernel) (fun c1 => ?_) (fun c1 => ?_)
    · replace hf := ite_p c1 hf
      refine sd_iconst (n := 1) (v := 1) (pc' := 86) (by decide +kernel) (by decide) ?_
      obtain rfl := Option.some.inj hf
      exact sd_zret (by decide +kernel) rfl rfl (hE _)
    · replace hf := ite_n c1 hf
      refine sd_aload_n (k := 0) (i := 0) (q := 0) (pc' := 20) (by decide +kernel) rfl rfl ?_
      refine sF_gr (idx := 11) (ci := 10) (k := 2) (n := 6) (r := 57) (pc' := 23) (by decide +kernel) fl_X10_11 (by decide +kernel) rfl SH_56 (by decide) (by decide +kernel) ?_
      refine sd_iconst (n := 0) (v := 0) (pc' := 24) (by decide +kernel) (by decide) ?_
      refine sF_aald2 (n := 4) (r := 58) (pc' := 25) (by decide +kernel) SH_57 (by decide) (by decide +kernel) ?_
      refine sd_iload (i := 4) (q := 4) (pc' := 27) (by decide +kernel) rfl ?_
      refine sd_bipush (n := 6) (v := 6) (pc' := 29) (by decide +kernel) (by decide) ?_
      refine sd_imul (pc' := 30) (by decide +kernel) ?_
      refine sd_iload_n (k := 1) (i := 1) (q := 1) (pc' := 31) (by decide +kernel) rfl rfl ?_
      refine sd_iadd (pc' := 32) (by decide +kernel) ?_
      obtain ⟨g2, hf⟩ := gd_some hf
      refine sF_iald (n := 60) (pc' := 33) (by decide +kernel) SH_58 g2 ?_
      refine sd_istore (i := 5) (pc' := 35) (lo' := [(5, .int (h.1 58 (((l4 * 6) + l1) : Int32).toNatClampNeg)), (0, .ref (G.1 + 56)), (1, .int l1), (2, .int l2), (3, .int l3), (4, .int l4)]) (by decide +kernel) (by decide) rfl ?_
      refine sd_aload_n (k := 0) (i := 0) (q := 1) (pc' := 36) (by decide +kernel) rfl rfl ?_
      refine sF_gr (idx := 11) (ci := 10) (k := 2) (n := 6) (r := 57) (pc' := 39) (by decide +kernel) fl_X10_11 (by decide +kernel) rfl SH_56 (by decide) (by decide +kernel) ?_
      refine sd_iconst (n := 1) (v := 1) (pc' := 40) (by decide +kernel) (by decide) ?_
      refine sF_aald2 (n := 4) (r := 59) (pc' := 41) (by decide +kernel) SH_57 (by decide) (by decide +kernel) ?_
      refine sd_iload (i := 4) (q := 5) (pc' := 43) (by decide +kernel) rfl ?_
      refine sd_bipush (n := 6) (v := 6) (pc' := 45) (by decide +kernel) (by decide) ?_
      refine sd_imul (pc' := 46) (by decide +kernel) ?_
      refine sd_iload_n (k := 1) (i := 1) (q := 2) (pc' := 47) (by decide +kernel) rfl rfl ?_
      refine sd_iadd (pc' := 48) (by decide +kernel) ?_
      obtain ⟨g3, hf⟩ := gd_some hf
      refine sF_iald (n := 60) (pc' := 49) (by decide +kernel) SH_59 g3 ?_
      refine sd_istore (i := 6) (pc' := 51) (lo' := [(6, .int (h.1 59 (((l4 * 6) + l1) : Int32).toNatClampNeg)), (5, .int (h.1 58 (((l4 * 6) + l1) : Int32).toNatClampNeg)), (0, .ref (G.1 + 56)), (1, .int l1), (2, .int l2), (3, .int l3), (4, .int l4)]) (by decide +kernel) (by decide) rfl ?_
      refine sd_iload (i := 6) (q := 0) (pc' := 53) (by decide +kernel) rfl ?_
      refine sd_iload_n (k := 2) (i := 2) (q := 4) (pc' := 54) (by decide +kernel) rfl rfl ?_
      refine sd_iload_n (k := 3) (i := 3) (q := 5) (pc' := 55) (by decide +kernel) rfl rfl ?_
      refine sd_ior (pc' := 56) (by decide +kernel) ?_
      refine sd_iand (pc' := 57) (by decide +kernel) ?_
      refine sd_if_ne (off := 10) (tgt := 67) (pc' := 60) (by decide +kernel) (fun c4 => ?_) (fun c4 => ?_)
      · replace hf := ite_n c4 hf
        refine sd_iconst (n := 0) (v := 0) (pc' := 68) (by decide +kernel) (by decide) ?_
        obtain rfl := Option.some.inj hf
        exact sd_zret (by decide +kernel) rfl rfl (hE _)
      · replace hf := ite_p c4 hf
        refine sd_iload (i := 5) (q := 1) (pc' := 62) (by decide +kernel) rfl ?_
        refine sd_iload_n (k := 3) (i := 3) (q := 5) (pc' := 63) (by decide +kernel) rfl rfl ?_
        refine sd_iand (pc' := 64) (by decide +kernel) ?_
        refine sd_if_eq (off := 5) (tgt := 69) (pc' := 67) (by decide +kernel) (fun c5 => ?_) (fun c5 => ?_)
        · replace hf := ite_p c5 hf
          refine sd_iload_n (k := 2) (i := 2) (q := 4) (pc' := 70) (by decide +kernel) rfl rfl ?_
          refine sd_iload (i := 5) (q := 1) (pc' := 72) (by decide +kernel) rfl ?_
          refine sd_ior (pc' := 73) (by decide +kernel) ?_
          refine sd_istore_n (k := 2) (i := 2) (pc' := 74) (lo' := [(2, .int (l2 ||| (h.1 58 (((l4 * 6) + l1) : Int32).toNatClampNeg))), (6, .int (h.1 59 (((l4 * 6) + l1) : Int32).toNatClampNeg)), (5, .int (h.1 58 (((l4 * 6) + l1) : Int32).toNatClampNeg)), (0, .ref (G.1 + 56)), (1, .int l1), (3, .int l3), (4, .int l4)]) (by decide +kernel) rfl (by decide) rfl ?_
          refine sd_iload_n (k := 3) (i := 3) (q := 5) (pc' := 75) (by decide +kernel) rfl rfl ?_
          refine sd_iload (i := 6) (q := 1) (pc' := 77) (by decide +kernel) rfl ?_
          refine sd_ior (pc' := 78) (by decide +kernel) ?_
          refine sd_istore_n (k := 3) (i := 3) (pc' := 79) (lo' := [(3, .int (l3 ||| (h.1 59 (((l4 * 6) + l1) : Int32).toNatClampNeg))), (2, .int (l2 ||| (h.1 58 (((l4 * 6) + l1) : Int32).toNatClampNeg))), (6, .int (h.1 59 (((l4 * 6) + l1) : Int32).toNatClampNeg)), (5, .int (h.1 58 (((l4 * 6) + l1) : Int32).toNatClampNeg)), (0, .ref (G.1 + 56)), (1, .int l1), (4, .int l4)]) (by decide +kernel) rfl (by decide) rfl ?_
          refine sd_iinc (i := 4) (q := 6) (n := 1) (v := (l4 + 1)) (pc' := 82) (lo' := [(4, .int (l4 + 1)), (3, .int (l3 ||| (h.1 59 (((l4 * 6) + l1) : Int32).toNatClampNeg))), (2, .int (l2 ||| (h.1 58 (((l4 * 6) + l1) : Int32).toNatClampNeg))), (6, .int (h.1 59 (((l4 * 6) + l1) : Int32).toNatClampNeg)), (5, .int (h.1 58 (((l4 * 6) + l1) : Int32).toNatClampNeg)), (0, .ref (G.1 + 56)), (1, .int l1)]) (by decide +kernel) rfl rfl (by decide) rfl ?_
          refine sd_goto (off := -75) (tgt := 7) (pc' := 85) (by decide +kernel) ?_
          refine sd_J.sub (lo' := [(0, .ref (G.1 + 56)), (1, .int l1), (2, .int (l2 ||| (h.1 58 (((l4 * 6) + l1) : Int32).toNatClampNeg))), (3, .int (l3 ||| (h.1 59 (((l4 * 6) + l1) : Int32).toNatClampNeg))), (4, .int (l4 + 1))]) [5, 6, 2, 1, 0] rfl ?_
          exact ih _ _ _ _ hf
        · replace hf := ite_n c5 hf
          refine sd_iconst (n := 0) (v := 0) (pc' := 68) (by decide +kernel) (by decide) ?_
          obtain rfl := Option.some.inj hf
          exact sd_zret (by decide +kernel) rfl rfl (hE _)
def XY_isShared (h : sd_H) (a0 : Int32) : Option Int32 :=
  XY_isShared_L7 h FU a0 0 0 0
set_option maxHeartbeats 4000000 in
set_option maxRecDepth 100000 in
theorem T_XY_isShared {G : sd_GX} {h : sd_H} {a0 : Int32} {r : Int32} (hf : XY_isShared h a0 = some r) : sd_RunF G M_XY_isShared [.ref (G.1 + 56), .int a0] h (some (.int r)) h := by
  refine sF_run ⟨rfl, rfl⟩ (by decide +kernel) (Nat.le_of_ble_eq_true rfl) (lo := [(0, .ref (G.1 + 56)), (1, .int a0)]) rfl (fun X hE => ?_)
  unfold XY_isShared at hf
  refine sd_iconst (n := 0) (v := 0) (pc' := 1) (by decide +kernel) (by decide) ?_
  refine sd_istore_n (k := 2) (i := 2) (pc' := 2) (lo' := [(2, .int 0), (0, .ref (G.1 + 56)), (1, .int a0)]) (by decide +kernel) rfl (by decide) rfl ?_
  refine sd_iconst (n := 0) (v := 0) (pc' := 3) (by decide +kernel) (by decide) ?_
  refine sd_istore_n (k := 3) (i := 3) (pc' := 4) (lo' := [(3, .int 0), (2, .int 0), (0, .ref (G.1 + 56)), (1, .int a0)]) (by decide +kernel) rfl (by decide) rfl ?_
  refine sd_iconst (n := 0) (v := 0) (pc' := 5) (by decide +kernel) (by decide) ?_
  refine sd_istore (i := 4) (pc' := 7) (lo' := [(4, .int 0), (3, .int 0), (2, .int 0), (0, .ref (G.1 + 56)), (1, .int a0)]) (by decide +kernel) (by decide) rfl ?_
  refine sd_J.sub (lo' := [(0, .ref (G.1 + 56)), (1, .int a0), (2, .int 0), (3, .int 0), (4, .int 0)]) [3, 4, 2, 1, 0] rfl ?_
  exact J_XY_isShared_L7 hE _ _ _ _ _ hf

theorem ml_X10_120 : Cond.methodLink RX10 120 yX9_looksAtRow ∈ sd_tb := sd_mem (i := 897) (by decide +kernel)
theorem ml_X10_123 : Cond.methodLink RX10 123 yX10_familyOf ∈ sd_tb := sd_mem (i := 898) (by decide +kernel)
def M_XY_isGathered : sd_MX := (yX10_isGathered, cX10_isGathered, 7, (some .boolean), { frames := 3, cells := 0, slots := 0, locals := 86 })
def XY_isGathered_B85 (h : sd_H) (K5 : Int32 → Int32 → Int32 → Int32 → Option Int32) (l1 : Int32) (l2 : Int32) (l3 : Int32) (l4 : Int32) : Option Int32 :=
  K5 l1 l2 l3 (l4 + 1)
set_option maxHeartbeats 4000000 in
set_option maxRecDepth 100000 in
theorem J_XY_isGathered_B85 {G : sd_GX} {X : sd_CX} (hE : ∀ g : sd_H, sd_end G X M_XY_isGathered (sd_F g)) {h : sd_H} {K5 : Int32 → Int32 → Int32 → Int32 → Option Int32} {r : Int32} (hK5 : ∀ (l1 : Int32) (l2 : Int32) (l3 : Int32) (l4 : Int32), K5 l1 l2 l3 l4 = some r → sd_J G X (sd_QR G X M_XY_isGathered (some (.int r), sd_F h)) M_XY_isGathered 5 [(0, .ref (G.1 + 56)), (1, .int l1), (2, .int l2), (3, .int l3), (4, .int l4)] [] (sd_F h)) {l1 : Int32} {l2 : Int32} {l3 : Int32} {l4 : Int32} (hf : XY_isGathered_B85 h K5 l1 l2 l3 l4 = some r) : sd_J G X (sd_QR G X M_XY_isGathered (some (.int r), sd_F h)) M_XY_isGathered 85 [(0, .ref (G.1 + 56)), (1, .int l1), (2, .int l2), (3, .int l3), (4, .int l4)] [] (sd_F h) := by
  unfold XY_isGathered_B85 at hf
  refine sd_iinc (i := 4) (q := 4) (n := 1) (v := (l4 + 1)) (pc' := 88) (lo' := [(4, .int (l4 + 1)), (0, .ref (G.1 + 56)), (1, .int l1), (2, .int l2), (3, .int l3)]) (by decide +kernel) rfl rfl (by decide) rfl ?_
  refine sd_goto (off := -83) (tgt := 5) (pc' := 91) (by decide +kernel) ?_
  refine sd_J.sub (lo' := [(0, .ref (G.1 + 56)), (1, .int l1), (2, .int l2), (3, .int l3), (4, .int (l4 + 1))]) [1, 2, 3, 4, 0] rfl ?_
  exact hK5 _ _ _ _ hf
def XY_isGathered_B82 (h : sd_H) (K5 : Int32 → Int32 → Int32 → Int32 → Option Int32) (l1 : Int32) (l2 : Int32) (l4 : Int32) (l6 : Int32) : Option Int32 :=
  XY_isGathered_B85 h K5 l1 l2 l6 l4
set_option maxHeartbeats 4000000 in
set_option maxRecDepth 100000 in
theorem J_XY_isGathered_B82 {G : sd_GX} {X : sd_CX} (hE : ∀ g : sd_H, sd_end G X M_XY_isGathered (sd_F g)) {h : sd_H} {K5 : Int32 → Int32 → Int32 → Int32 → Option Int32} {r : Int32} (hK5 : ∀ (l1 : Int32) (l2 : Int32) (l3 : Int32) (l4 : Int32), K5 l1 l2 l3 l4 = some r → sd_J G X (sd_QR G X M_XY_isGathered (some (.int r), sd_F h)) M_XY_isGathered 5 [(0, .ref (G.1 + 56)), (1, .int l1), (2, .int l2), (3, .int l3), (4, .int l4)] [] (sd_F h)) {l1 : Int32} {l2 : Int32} {l4 : Int32} {l6 : Int32} (hf : XY_isGathered_B82 h K5 l1 l2 l4 l6 = some r) : sd_J G X (sd_QR G X M_XY_isGathered (some (.int r), sd_F h)) M_XY_isGathered 82 [(0, .ref (G.1 + 56)), (1, .int l1), (2, .int l2), (4, .int l4), (6, .int l6)] [] (sd_F h) := by
  unfold XY_isGathered_B82 at hf
  refine sd_iload (i := 6) (q := 4) (pc' := 84) (by decide +kernel) rfl ?_
  refine sd_istore_n (k := 3) (i := 3) (pc' := 85) (lo' := [(3, .int l6), (0, .ref (G.1 + 56)), (1, .int l1), (2, .int l2), (4, .int l4), (6, .int l6)]) (by decide +kernel) rfl (by decide) rfl ?_
  refine sd_J.sub (lo' := [(0, .ref (G.1 + 56)), (1, .int l1), (2, .int l2), (3, .int l6), (4, .int l4)]) [1, 2, 3, 0, 4] rfl ?_
  exact J_XY_isGathered_B85 hE hK5 hf
def XY_isGathered_B63 (h : sd_H) (K5 : Int32 → Int32 → Int32 → Int32 → Option Int32) (l1 : Int32) (l2 : Int32) (l3 : Int32) (l4 : Int32) (s0 : Int32) : Option Int32 :=
  (if s0 = 0 then some 0 else (if l3 = 0 then XY_isGathered_B82 h K5 l1 l2 l4 s0 else (if s0 = l3 then XY_isGathered_B82 h K5 l1 l2 l4 s0 else some 0)))
set_option maxHeartbeats 4000000 in
set_option maxRecDepth 100000 in
theorem J_XY_isGathered_B63 {G : sd_GX} {X : sd_CX} (hE : ∀ g : sd_H, sd_end G X M_XY_isGathered (sd_F g)) {h : sd_H} {K5 : Int32 → Int32 → Int32 → Int32 → Option Int32} {r : Int32} (hK5 : ∀ (l1 : Int32) (l2 : Int32) (l3 : Int32) (l4 : Int32), K5 l1 l2 l3 l4 = some r → sd_J G X (sd_QR G X M_XY_isGathered (some (.int r), sd_F h)) M_XY_isGathered 5 [(0, .ref (G.1 + 56)), (1, .int l1), (2, .int l2), (3, .int l3), (4, .int l4)] [] (sd_F h)) {l1 : Int32} {l2 : Int32} {l3 : Int32} {l4 : Int32} {s0 : Int32} (hf : XY_isGathered_B63 h K5 l1 l2 l3 l4 s0 = some r) : sd_J G X (sd_QR G X M_XY_isGathered (some (.int r), sd_F h)) M_XY_isGathered 63 [(0, .ref (G.1 + 56)), (1, .int l1), (2, .int l2), (3, .int l3), (4, .int l4)] [.int s0] (sd_F h) := by
  unfold XY_isGathered_B63 at hf
  refine sd_istore (i := 6) (pc' := 65) (lo' := [(6, .int s0), (0, .ref (G.1 + 56)), (1, .int l1), (2, .int l2), (3, .int l3), (4, .int l4)]) (by decide +kernel) (by decide) rfl ?_
  refine sd_iload (i := 6) (q := 0) (pc' := 67) (by decide +kernel) rfl ?_
  refine sd_if_eq (off := 13) (tgt := 80) (pc' := 70) (by decide +kernel) (fun c8 => ?_) (fun c8 => ?_)
  · replace hf := ite_p c8 hf
    refine sd_iconst (n := 0) (v := 0) (pc' := 81) (by decide +kernel) (by decide) ?_
    obtain rfl := Option.some.inj hf
    exact sd_zret (by decide +kernel) rfl rfl (hE _)
  · replace hf := ite_n c8 hf
    refine sd_iload_n (k := 3) (i := 3) (q := 4) (pc' := 71) (by decide +kernel) rfl rfl ?_
    refine sd_if_eq (off := 11) (tgt := 82) (pc' := 74) (by decide +kernel) (fun c9 => ?_) (fun c9 => ?_)
    · replace hf := ite_p c9 hf
      refine sd_J.sub (lo' := [(0, .ref (G.1 + 56)), (1, .int l1), (2, .int l2), (4, .int l4), (6, .int s0)]) [1, 2, 3, 5, 0] rfl ?_
      exact J_XY_isGathered_B82 hE hK5 hf
    · replace hf := ite_n c9 hf
      refine sd_iload (i := 6) (q := 0) (pc' := 76) (by decide +kernel) rfl ?_
      refine sd_iload_n (k := 3) (i := 3) (q := 4) (pc' := 77) (by decide +kernel) rfl rfl ?_
      refine sd_icmp_eq (off := 5) (tgt := 82) (pc' := 80) (by decide +kernel) (fun c10 => ?_) (fun c10 => ?_)
      · replace hf := ite_p c10 hf
        refine sd_J.sub (lo' := [(0, .ref (G.1 + 56)), (1, .int l1), (2, .int l2), (4, .int l4), (6, .int s0)]) [1, 2, 3, 5, 0] rfl ?_
        exact J_XY_isGathered_B82 hE hK5 hf
      · replace hf := ite_n c10 hf
        refine sd_iconst (n := 0) (v := 0) (pc' := 81) (by decide +kernel) (by decide) ?_
        obtain rfl := Option.some.inj hf
        exact sd_zret (by decide +kernel) rfl rfl (hE _)
def XY_isGathered_L5 (h : sd_H) : Nat → Int32 → Int32 → Int32 → Int32 → Option Int32
  | 0, _, _, _, _ => none
  | n + 1, l1, l2, l3, l4 =>
  (if (h.1 6 2) ≤ l4 then (if l3 = 0 then some 0 else some 1) else gd (sd_inB l4 5) (b1 (XA_looksAtRow h (8 + 5 * (l4 : Int32).toNatClampNeg) l1) (fun t5 => (if t5 = 0 then XY_isGathered_B85 h (XY_isGathered_L5 h n) l1 l2 l3 l4 else (if (h.1 (((8 + 5 * (l4 : Int32).toNatClampNeg) + 1) + 1 + 0) 0) = l1 then b1 (XY_familyOf h (8 + 5 * (l4 : Int32).toNatClampNeg) l2) (fun t12 => XY_isGathered_B63 h (XY_isGathered_L5 h n) l1 l2 l3 l4 t12) else XY_isGathered_B63 h (XY_isGathered_L5 h n) l1 l2 l3 l4 0)))))
set_option maxHeartbeats 4000000 in
set_option maxRecDepth 100000 in
theorem J_XY_isGathered_L5 {G : sd_GX} {X : sd_CX} (hE : ∀ g : sd_H, sd_end G X M_XY_isGathered (sd_F g)) {h : sd_H} {r : Int32} : ∀ (n : Nat) (l1 : Int32) (l2 : Int32) (l3 : Int32) (l4 : Int32), XY_isGathered_L5 h n l1 l2 l3 l4 = some r → sd_J G X (sd_QR G X M_XY_isGathered (some (.int r), sd_F h)) M_XY_isGathered 5 [(0, .ref (G.1 + 56)), (1, .int l1), (2, .int l2), (3, .int l3), (4, .int l4)] [] (sd_F h) := by
  intro n
  induction n with
  | zero =>
    intro l1 l2 l3 l4 hf
    rw [XY_isGathered_L5] at hf
    cases hf
  | succ n ih =>
    intro l1 l2 l3 l4 hf
    rw [XY_isGathered_L5] at hf
    refine sd_iload (i := 4) (q := 4) (pc' := 7) (by decide +kernel) rfl ?_
    refine sd_aload_n (k := 0) (i := 0) (q := 0) (pc' := 8) (by decide +kernel) rfl rfl ?_
    refine sF_gr (idx := 28) (ci := 10) (k := 1) (n := 6) (r := 6) (pc' := 11) (by decide +kernel) fl_X10_28 (by decide +kernel) rfl SH_56 (by decide) (by decide +kernel) ?_
    refine sF_gi (idx := 45) (ci := 2) (k := 2) (n := 3) (pc' := 14) (by decide +kernel) fl_X10_45 (by decide +kernel) rfl SH_6 ?_
    refine sd_icmp_ge (off := 77) (tgt := 91) (pc' := 17) (by decide +kernel) (fun c1 => ?_) (fun c1 => ?_)
    · replace hf := ite_p c1 hf
      refine sd_iload_n (k := 3) (i := 3) (q := 3) (pc' := 92) (by decide +kernel) rfl rfl ?_
      refine sd_if_eq (off := 7) (tgt := 99) (pc' := 95) (by decide +kernel) (fun c2 => ?_) (fun c2 => ?_)
      · replace hf := ite_p c2 hf
        refine sd_iconst (n := 0) (v := 0) (pc' := 100) (by decide +kernel) (by decide) ?_
        obtain rfl := Option.some.inj hf
        exact sd_zret (by decide +kernel) rfl rfl (hE _)
      · replace hf := ite_n c2 hf
        refine sd_iconst (n := 1) (v := 1) (pc' := 96) (by decide +kernel) (by decide) ?_
        refine sd_goto (off := 4) (tgt := 100) (pc' := 99) (by decide +kernel) ?_
        obtain rfl := Option.some.inj hf
        exact sd_zret (by decide +kernel) rfl rfl (hE _)
    · replace hf := ite_n c1 hf
      refine sd_aload_n (k := 0) (i := 0) (q := 0) (pc' := 18) (by decide +kernel) rfl rfl ?_
      refine sF_gr (idx := 28) (ci := 10) (k := 1) (n := 6) (r := 6) (pc' := 21) (by decide +kernel) fl_X10_28 (by decide +kernel) rfl SH_56 (by decide) (by decide +kernel) ?_
      refine sF_gr (idx := 48) (ci := 2) (k := 0) (n := 3) (r := 7) (pc' := 24) (by decide +kernel) fl_X10_48 (by decide +kernel) rfl SH_6 (by decide) (by decide +kernel) ?_
      refine sd_iload (i := 4) (q := 4) (pc' := 26) (by decide +kernel) rfl ?_
      obtain ⟨g3, hf⟩ := gd_some hf
      refine sF_aald (n := 5) (r := (8 + 5 * (l4 : Int32).toNatClampNeg)) (pc' := 27) (by decide +kernel) SH_7 (by decide) g3 (rta_7 (inB_lt g3)) ?_
      refine sd_astore (i := 5) (pc' := 29) (lo' := [(5, .ref (G.1 + (8 + 5 * (l4 : Int32).toNatClampNeg))), (0, .ref (G.1 + 56)), (1, .int l1), (2, .int l2), (3, .int l3), (4, .int l4)]) (by decide +kernel) (by decide) rfl ?_
      refine sd_aload (i := 5) (q := 0) (pc' := 31) (by decide +kernel) rfl ?_
      refine sd_iload_n (k := 1) (i := 1) (q := 2) (pc' := 32) (by decide +kernel) rfl rfl ?_
      obtain ⟨t5, q4, hf⟩ := b1_some hf
      refine sF_callV (idx := 120) (b := (8 + 5 * (l4 : Int32).toNatClampNeg)) (As := [.int l1]) (ci := 9) (nn := 6) (pc' := 35) 1 (T_XA_looksAtRow (G := G) (h := h) (sha_7 (inB_lt g3)) q4) (by decide +kernel) mv_XA_looksAtRow ml_X10_120 (by decide +kernel) rfl rfl (Nat.le_of_ble_eq_true rfl) (sha_7 (inB_lt g3)) rfl (by decide) rfl rfl ?_
      refine sd_if_eq (off := 50) (tgt := 85) (pc' := 38) (by decide +kernel) (fun c6 => ?_) (fun c6 => ?_)
      · replace hf := ite_p c6 hf
        refine sd_J.sub (lo' := [(0, .ref (G.1 + 56)), (1, .int l1), (2, .int l2), (3, .int l3), (4, .int l4)]) [1, 2, 3, 4, 5] rfl ?_
        exact J_XY_isGathered_B85 hE ih hf
      · replace hf := ite_n c6 hf
        refine sd_aload (i := 5) (q := 0) (pc' := 40) (by decide +kernel) rfl ?_
        refine sF_gr (idx := 69) (ci := 9) (k := 0) (n := 6) (r := ((8 + 5 * (l4 : Int32).toNatClampNeg) + 1)) (pc' := 43) (by decide +kernel) fl_X10_69 (by decide +kernel) rfl (sha_7 (inB_lt g3)) (by decide) (rt_9_0 (sha_7 (inB_lt g3))) ?_
        refine sd_iconst (n := 0) (v := 0) (pc' := 44) (by decide +kernel) (by decide) ?_
        refine sF_aald (n := 3) (r := (((8 + 5 * (l4 : Int32).toNatClampNeg) + 1) + 1 + 0)) (pc' := 45) (by decide +kernel) (sh_9_0 (sha_7 (inB_lt g3))) (by decide) (by decide) (by rw [show ((0 : Int32)).toNatClampNeg = 0 from by decide]; exact rta_R (sh_9_0 (sha_7 (inB_lt g3))) (by decide)) ?_
        refine sF_gi (idx := 86) (ci := 5) (k := 0) (n := 4) (pc' := 48) (by decide +kernel) fl_X10_86 (by decide +kernel) rfl (sha_R (sh_9_0 (sha_7 (inB_lt g3))) (j := 0) (by decide)) ?_
        refine sd_iload_n (k := 1) (i := 1) (q := 2) (pc' := 49) (by decide +kernel) rfl rfl ?_
        refine sd_icmp_ne (off := 13) (tgt := 62) (pc' := 52) (by decide +kernel) (fun c7 => ?_) (fun c7 => ?_)
        · replace hf := ite_n c7 hf
          refine sd_iconst (n := 0) (v := 0) (pc' := 63) (by decide +kernel) (by decide) ?_
          refine sd_J.sub (lo' := [(0, .ref (G.1 + 56)), (1, .int l1), (2, .int l2), (3, .int l3), (4, .int l4)]) [1, 2, 3, 4, 5] rfl ?_
          exact J_XY_isGathered_B63 hE ih hf
        · replace hf := ite_p c7 hf
          refine sd_aload_n (k := 0) (i := 0) (q := 1) (pc' := 53) (by decide +kernel) rfl rfl ?_
          refine sd_aload (i := 5) (q := 0) (pc' := 55) (by decide +kernel) rfl ?_
          refine sd_iload_n (k := 2) (i := 2) (q := 3) (pc' := 56) (by decide +kernel) rfl rfl ?_
          obtain ⟨t12, q11, hf⟩ := b1_some hf
          refine sF_callV (idx := 123) (b := 56) (As := [.ref (G.1 + (8 + 5 * (l4 : Int32).toNatClampNeg)), .int l2]) (ci := 10) (nn := 6) (pc' := 59) 2 (T_XY_familyOf (G := G) (h := h) (sha_7 (inB_lt g3)) q11) (by decide +kernel) mv_XY_familyOf ml_X10_123 (by decide +kernel) rfl rfl (Nat.le_of_ble_eq_true rfl) SH_56 rfl (by decide) rfl rfl ?_
          refine sd_goto (off := 4) (tgt := 63) (pc' := 62) (by decide +kernel) ?_
          refine sd_J.sub (lo' := [(0, .ref (G.1 + 56)), (1, .int l1), (2, .int l2), (3, .int l3), (4, .int l4)]) [1, 2, 3, 4, 5] rfl ?_
          exact J_XY_isGathered_B63 hE ih hf
def XY_isGathered (h : sd_H) (a0 : Int32) (a1 : Int32) : Option Int32 :=
  XY_isGathered_L5 h FU a0 a1 0 0
set_option maxHeartbeats 4000000 in
set_option maxRecDepth 100000 in
theorem T_XY_isGathered {G : sd_GX} {h : sd_H} {a0 : Int32} {a1 : Int32} {r : Int32} (hf : XY_isGathered h a0 a1 = some r) : sd_RunF G M_XY_isGathered [.ref (G.1 + 56), .int a0, .int a1] h (some (.int r)) h := by
  refine sF_run ⟨rfl, rfl⟩ (by decide +kernel) (Nat.le_of_ble_eq_true rfl) (lo := [(0, .ref (G.1 + 56)), (1, .int a0), (2, .int a1)]) rfl (fun X hE => ?_)
  unfold XY_isGathered at hf
  refine sd_iconst (n := 0) (v := 0) (pc' := 1) (by decide +kernel) (by decide) ?_
  refine sd_istore_n (k := 3) (i := 3) (pc' := 2) (lo' := [(3, .int 0), (0, .ref (G.1 + 56)), (1, .int a0), (2, .int a1)]) (by decide +kernel) rfl (by decide) rfl ?_
  refine sd_iconst (n := 0) (v := 0) (pc' := 3) (by decide +kernel) (by decide) ?_
  refine sd_istore (i := 4) (pc' := 5) (lo' := [(4, .int 0), (3, .int 0), (0, .ref (G.1 + 56)), (1, .int a0), (2, .int a1)]) (by decide +kernel) (by decide) rfl ?_
  refine sd_J.sub (lo' := [(0, .ref (G.1 + 56)), (1, .int a0), (2, .int a1), (3, .int 0), (4, .int 0)]) [2, 3, 4, 1, 0] rfl ?_
  exact J_XY_isGathered_L5 hE _ _ _ _ _ hf

def M_XY_exposedTurn : sd_MX := (yX10_exposedTurn, cX10_exposedTurn, 4, (some .int), { frames := 1, cells := 0, slots := 0, locals := 40 })
def XY_exposedTurn_L4 (h : sd_H) : Nat → Int32 → Int32 → Int32 → Option Int32
  | 0, _, _, _ => none
  | n + 1, l1, l2, l3 =>
  (if (h.1 6 1) ≤ l3 then some (-1) else gd (sd_inB ((l3 * 6) + l1) 60) ((if ((h.1 61 (((l3 * 6) + l1) : Int32).toNatClampNeg) &&& l2) = 0 then gd (sd_inB ((l3 * 6) + l1) 60) (XY_exposedTurn_L4 h n l1 (l2 ||| (h.1 59 (((l3 * 6) + l1) : Int32).toNatClampNeg)) (l3 + 1)) else some l3)))
set_option maxHeartbeats 4000000 in
set_option maxRecDepth 100000 in
theorem J_XY_exposedTurn_L4 {G : sd_GX} {X : sd_CX} (hE : ∀ g : sd_H, sd_end G X M_XY_exposedTurn (sd_F g)) {h : sd_H} {r : Int32} : ∀ (n : Nat) (l1 : Int32) (l2 : Int32) (l3 : Int32), XY_exposedTurn_L4 h n l1 l2 l3 = some r → sd_J G X (sd_QR G X M_XY_exposedTurn (some (.int r), sd_F h)) M_XY_exposedTurn 4 [(0, .ref (G.1 + 56)), (1, .int l1), (2, .int l2), (3, .int l3)] [] (sd_F h) := by
  intro n
  induction n with
  | zero =>
    intro l1 l2 l3 hf
    rw [XY_exposedTurn_L4] at hf
    cases hf
  | succ n ih =>
    intro l1 l2 l3 hf
    rw [XY_exposedTurn_L4] at hf
    refine sd_iload_n (k := 3) (i := 3) (q := 3) (pc' := 5) (by decide +kernel) rfl rfl ?_
    refine sd_aload_n (k := 0) (i := 0) (q := 0) (pc' := 6) (by decide +kernel) rfl rfl ?_
    refine sF_gr (idx := 28) (ci := 10) (k := 1) (n := 6) (r := 6) (pc' := 9) (by decide +kernel) fl_X10_28 (by decide +kernel) rfl SH_56 (by decide) (by decide +kernel) ?_
    refine sF_gi (idx := 32) (ci := 2) (k := 1) (n := 3) (pc' := 12) (by decide +kernel) fl_X10_32 (by decide +kernel) rfl SH_6 ?_
    refine sd_icmp_ge (off := 45) (tgt := 57) (pc' := 15) (by decide +kernel) (fun c1 => ?_) (fun c1 => ?_)
    · replace hf := ite_p c1 hf
      refine sd_iconst (n := -1) (v := (-1)) (pc' := 58) (by decide +kernel) (by decide) ?_
      obtain rfl := Option.some.inj hf
      exact sd_iret (by decide +kernel) rfl (hE _)
    · replace hf := ite_n c1 hf
      refine sd_aload_n (k := 0) (i := 0) (q := 0) (pc' := 16) (by decide +kernel) rfl rfl ?_
      refine sF_gr (idx := 11) (ci := 10) (k := 2) (n := 6) (r := 57) (pc' := 19) (by decide +kernel) fl_X10_11 (by decide +kernel) rfl SH_56 (by decide) (by decide +kernel) ?_
      refine sd_iconst (n := 3) (v := 3) (pc' := 20) (by decide +kernel) (by decide) ?_
      refine sF_aald2 (n := 4) (r := 61) (pc' := 21) (by decide +kernel) SH_57 (by decide) (by decide +kernel) ?_
      refine sd_iload_n (k := 3) (i := 3) (q := 3) (pc' := 22) (by decide +kernel) rfl rfl ?_
      refine sd_bipush (n := 6) (v := 6) (pc' := 24) (by decide +kernel) (by decide) ?_
      refine sd_imul (pc' := 25) (by decide +kernel) ?_
      refine sd_iload_n (k := 1) (i := 1) (q := 1) (pc' := 26) (by decide +kernel) rfl rfl ?_
      refine sd_iadd (pc' := 27) (by decide +kernel) ?_
      obtain ⟨g2, hf⟩ := gd_some hf
      refine sF_iald (n := 60) (pc' := 28) (by decide +kernel) SH_61 g2 ?_
      refine sd_iload_n (k := 2) (i := 2) (q := 2) (pc' := 29) (by decide +kernel) rfl rfl ?_
      refine sd_iand (pc' := 30) (by decide +kernel) ?_
      refine sd_if_eq (off := 5) (tgt := 35) (pc' := 33) (by decide +kernel) (fun c3 => ?_) (fun c3 => ?_)
      · replace hf := ite_p c3 hf
        refine sd_iload_n (k := 2) (i := 2) (q := 2) (pc' := 36) (by decide +kernel) rfl rfl ?_
        refine sd_aload_n (k := 0) (i := 0) (q := 0) (pc' := 37) (by decide +kernel) rfl rfl ?_
        refine sF_gr (idx := 11) (ci := 10) (k := 2) (n := 6) (r := 57) (pc' := 40) (by decide +kernel) fl_X10_11 (by decide +kernel) rfl SH_56 (by decide) (by decide +kernel) ?_
        refine sd_iconst (n := 1) (v := 1) (pc' := 41) (by decide +kernel) (by decide) ?_
        refine sF_aald2 (n := 4) (r := 59) (pc' := 42) (by decide +kernel) SH_57 (by decide) (by decide +kernel) ?_
        refine sd_iload_n (k := 3) (i := 3) (q := 3) (pc' := 43) (by decide +kernel) rfl rfl ?_
        refine sd_bipush (n := 6) (v := 6) (pc' := 45) (by decide +kernel) (by decide) ?_
        refine sd_imul (pc' := 46) (by decide +kernel) ?_
        refine sd_iload_n (k := 1) (i := 1) (q := 1) (pc' := 47) (by decide +kernel) rfl rfl ?_
        refine sd_iadd (pc' := 48) (by decide +kernel) ?_
        obtain ⟨g4, hf⟩ := gd_some hf
        refine sF_iald (n := 60) (pc' := 49) (by decide +kernel) SH_59 g4 ?_
        refine sd_ior (pc' := 50) (by decide +kernel) ?_
        refine sd_istore_n (k := 2) (i := 2) (pc' := 51) (lo' := [(2, .int (l2 ||| (h.1 59 (((l3 * 6) + l1) : Int32).toNatClampNeg))), (0, .ref (G.1 + 56)), (1, .int l1), (3, .int l3)]) (by decide +kernel) rfl (by decide) rfl ?_
        refine sd_iinc (i := 3) (q := 3) (n := 1) (v := (l3 + 1)) (pc' := 54) (lo' := [(3, .int (l3 + 1)), (2, .int (l2 ||| (h.1 59 (((l3 * 6) + l1) : Int32).toNatClampNeg))), (0, .ref (G.1 + 56)), (1, .int l1)]) (by decide +kernel) rfl rfl (by decide) rfl ?_
        refine sd_goto (off := -50) (tgt := 4) (pc' := 57) (by decide +kernel) ?_
        refine sd_J.sub (lo' := [(0, .ref (G.1 + 56)), (1, .int l1), (2, .int (l2 ||| (h.1 59 (((l3 * 6) + l1) : Int32).toNatClampNeg))), (3, .int (l3 + 1))]) [2, 3, 1, 0] rfl ?_
        exact ih _ _ _ hf
      · replace hf := ite_n c3 hf
        refine sd_iload_n (k := 3) (i := 3) (q := 3) (pc' := 34) (by decide +kernel) rfl rfl ?_
        obtain rfl := Option.some.inj hf
        exact sd_iret (by decide +kernel) rfl (hE _)
def XY_exposedTurn (h : sd_H) (a0 : Int32) : Option Int32 :=
  XY_exposedTurn_L4 h FU a0 0 0
set_option maxHeartbeats 4000000 in
set_option maxRecDepth 100000 in
theorem T_XY_exposedTurn {G : sd_GX} {h : sd_H} {a0 : Int32} {r : Int32} (hf : XY_exposedTurn h a0 = some r) : sd_RunF G M_XY_exposedTurn [.ref (G.1 + 56), .int a0] h (some (.int r)) h := by
  refine sF_run ⟨rfl, rfl⟩ (by decide +kernel) (Nat.le_of_ble_eq_true rfl) (lo := [(0, .ref (G.1 + 56)), (1, .int a0)]) rfl (fun X hE => ?_)
  unfold XY_exposedTurn at hf
  refine sd_iconst (n := 0) (v := 0) (pc' := 1) (by decide +kernel) (by decide) ?_
  refine sd_istore_n (k := 2) (i := 2) (pc' := 2) (lo' := [(2, .int 0), (0, .ref (G.1 + 56)), (1, .int a0)]) (by decide +kernel) rfl (by decide) rfl ?_
  refine sd_iconst (n := 0) (v := 0) (pc' := 3) (by decide +kernel) (by decide) ?_
  refine sd_istore_n (k := 3) (i := 3) (pc' := 4) (lo' := [(3, .int 0), (2, .int 0), (0, .ref (G.1 + 56)), (1, .int a0)]) (by decide +kernel) rfl (by decide) rfl ?_
  refine sd_J.sub (lo' := [(0, .ref (G.1 + 56)), (1, .int a0), (2, .int 0), (3, .int 0)]) [2, 3, 1, 0] rfl ?_
  exact J_XY_exposedTurn_L4 hE _ _ _ _ hf

theorem ml_X10_105 : Cond.methodLink RX10 105 yX10_cellsOf ∈ sd_tb := sd_mem (i := 888) (by decide +kernel)
theorem ml_X10_109 : Cond.methodLink RX10 109 yX10_isShared ∈ sd_tb := sd_mem (i := 889) (by decide +kernel)
theorem mv_XY_isShared : sd_mV M_XY_isShared 1 := ⟨sd_mem (i := 891) (by decide +kernel), sd_mem (i := 16) (by decide +kernel), ⟨sd_mem (i := 892) (by decide +kernel), sd_mem (i := 114) (by decide +kernel), by decide +kernel, by decide +kernel, by decide +kernel⟩⟩
theorem ml_X10_112 : Cond.methodLink RX10 112 yX10_isGathered ∈ sd_tb := sd_mem (i := 893) (by decide +kernel)
theorem mv_XY_isGathered : sd_mV M_XY_isGathered 2 := ⟨sd_mem (i := 895) (by decide +kernel), sd_mem (i := 17) (by decide +kernel), ⟨sd_mem (i := 896) (by decide +kernel), sd_mem (i := 114) (by decide +kernel), by decide +kernel, by decide +kernel, by decide +kernel⟩⟩
theorem ml_X10_116 : Cond.methodLink RX10 116 yX10_exposedTurn ∈ sd_tb := sd_mem (i := 899) (by decide +kernel)
theorem mv_XY_exposedTurn : sd_mV M_XY_exposedTurn 1 := ⟨sd_mem (i := 900) (by decide +kernel), sd_mem (i := 901) (by decide +kernel), ⟨sd_mem (i := 902) (by decide +kernel), sd_mem (i := 114) (by decide +kernel), by decide +kernel, by decide +kernel, by decide +kernel⟩⟩
def M_XY_judge : sd_MX := (yX10_judge, cX10_judge, 3, (some .int), { frames := 4, cells := 0, slots := 0, locals := 112 })
def XY_judge (h : sd_H) (a0 : Int32) (a1 : Int32) : Option Int32 :=
  b1 (XY_cellsOf h 1 a0 (-1)) (fun t2 => (if t2 = 0 then some 0 else b1 (XY_isShared h a0) (fun t5 => (if t5 = 0 then b1 (XY_isGathered h a0 a1) (fun t8 => (if t8 = 0 then b1 (XY_exposedTurn h a0) (fun t11 => (if t11 = (-1) then some 3 else some 4)) else some 2)) else some 1))))
set_option maxHeartbeats 4000000 in
set_option maxRecDepth 100000 in
theorem T_XY_judge {G : sd_GX} {h : sd_H} {a0 : Int32} {a1 : Int32} {r : Int32} (hf : XY_judge h a0 a1 = some r) : sd_RunF G M_XY_judge [.ref (G.1 + 56), .int a0, .int a1] h (some (.int r)) h := by
  refine sF_run ⟨rfl, rfl⟩ (by decide +kernel) (Nat.le_of_ble_eq_true rfl) (lo := [(0, .ref (G.1 + 56)), (1, .int a0), (2, .int a1)]) rfl (fun X hE => ?_)
  unfold XY_judge at hf
  refine sd_aload_n (k := 0) (i := 0) (q := 0) (pc' := 1) (by decide +kernel) rfl rfl ?_
  refine sd_iconst (n := 1) (v := 1) (pc' := 2) (by decide +kernel) (by decide) ?_
  refine sd_iload_n (k := 1) (i := 1) (q := 1) (pc' := 3) (by decide +kernel) rfl rfl ?_
  refine sd_iconst (n := -1) (v := (-1)) (pc' := 4) (by decide +kernel) (by decide) ?_
  obtain ⟨t2, q1, hf⟩ := b1_some hf
  refine sF_callV (idx := 105) (b := 56) (As := [.int 1, .int a0, .int (-1)]) (ci := 10) (nn := 6) (pc' := 7) 3 (T_XY_cellsOf (G := G) (h := h)  q1) (by decide +kernel) mv_XY_cellsOf ml_X10_105 (by decide +kernel) rfl rfl (Nat.le_of_ble_eq_true rfl) SH_56 rfl (by decide) rfl rfl ?_
  refine sd_if_ne (off := 5) (tgt := 12) (pc' := 10) (by decide +kernel) (fun c3 => ?_) (fun c3 => ?_)
  · replace hf := ite_n c3 hf
    refine sd_aload_n (k := 0) (i := 0) (q := 0) (pc' := 13) (by decide +kernel) rfl rfl ?_
    refine sd_iload_n (k := 1) (i := 1) (q := 1) (pc' := 14) (by decide +kernel) rfl rfl ?_
    obtain ⟨t5, q4, hf⟩ := b1_some hf
    refine sF_callV (idx := 109) (b := 56) (As := [.int a0]) (ci := 10) (nn := 6) (pc' := 17) 1 (T_XY_isShared (G := G) (h := h)  q4) (by decide +kernel) mv_XY_isShared ml_X10_109 (by decide +kernel) rfl rfl (Nat.le_of_ble_eq_true rfl) SH_56 rfl (by decide) rfl rfl ?_
    refine sd_if_eq (off := 5) (tgt := 22) (pc' := 20) (by decide +kernel) (fun c6 => ?_) (fun c6 => ?_)
    · replace hf := ite_p c6 hf
      refine sd_aload_n (k := 0) (i := 0) (q := 0) (pc' := 23) (by decide +kernel) rfl rfl ?_
      refine sd_iload_n (k := 1) (i := 1) (q := 1) (pc' := 24) (by decide +kernel) rfl rfl ?_
      refine sd_iload_n (k := 2) (i := 2) (q := 2) (pc' := 25) (by decide +kernel) rfl rfl ?_
      obtain ⟨t8, q7, hf⟩ := b1_some hf
      refine sF_callV (idx := 112) (b := 56) (As := [.int a0, .int a1]) (ci := 10) (nn := 6) (pc' := 28) 2 (T_XY_isGathered (G := G) (h := h)  q7) (by decide +kernel) mv_XY_isGathered ml_X10_112 (by decide +kernel) rfl rfl (Nat.le_of_ble_eq_true rfl) SH_56 rfl (by decide) rfl rfl ?_
      refine sd_if_eq (off := 5) (tgt := 33) (pc' := 31) (by decide +kernel) (fun c9 => ?_) (fun c9 => ?_)
      · replace hf := ite_p c9 hf
        refine sd_aload_n (k := 0) (i := 0) (q := 0) (pc' := 34) (by decide +kernel) rfl rfl ?_
        refine sd_iload_n (k := 1) (i := 1) (q := 1) (pc' := 35) (by decide +kernel) rfl rfl ?_
        obtain ⟨t11, q10, hf⟩ := b1_some hf
        refine sF_callV (idx := 116) (b := 56) (As := [.int a0]) (ci := 10) (nn := 6) (pc' := 38) 1 (T_XY_exposedTurn (G := G) (h := h)  q10) (by decide +kernel) mv_XY_exposedTurn ml_X10_116 (by decide +kernel) rfl rfl (Nat.le_of_ble_eq_true rfl) SH_56 rfl (by decide) rfl rfl ?_
        refine sd_iconst (n := -1) (v := (-1)) (pc' := 39) (by decide +kernel) (by decide) ?_
        refine sd_icmp_ne (off := 7) (tgt := 46) (pc' := 42) (by decide +kernel) (fun c12 => ?_) (fun c12 => ?_)
        · replace hf := ite_n c12 hf
          refine sd_iconst (n := 4) (v := 4) (pc' := 47) (by decide +kernel) (by decide) ?_
          obtain rfl := Option.some.inj hf
          exact sd_iret (by decide +kernel) rfl (hE _)
        · replace hf := ite_p c12 hf
          refine sd_iconst (n := 3) (v := 3) (pc' := 43) (by decide +kernel) (by decide) ?_
          refine sd_goto (off := 4) (tgt := 47) (pc' := 46) (by decide +kernel) ?_
          obtain rfl := Option.some.inj hf
          exact sd_iret (by decide +kernel) rfl (hE _)
      · replace hf := ite_n c9 hf
        refine sd_iconst (n := 2) (v := 2) (pc' := 32) (by decide +kernel) (by decide) ?_
        obtain rfl := Option.some.inj hf
        exact sd_iret (by decide +kernel) rfl (hE _)
    · replace hf := ite_n c6 hf
      refine sd_iconst (n := 1) (v := 1) (pc' := 21) (by decide +kernel) (by decide) ?_
      obtain rfl := Option.some.inj hf
      exact sd_iret (by decide +kernel) rfl (hE _)
  · replace hf := ite_p c3 hf
    refine sd_iconst (n := 0) (v := 0) (pc' := 11) (by decide +kernel) (by decide) ?_
    obtain rfl := Option.some.inj hf
    exact sd_iret (by decide +kernel) rfl (hE _)

theorem ml_X11_291 : Cond.methodLink RX11 291 yX10_judge ∈ sd_tb := sd_mem (i := 884) (by decide +kernel)
theorem mv_XY_judge : sd_mV M_XY_judge 2 := ⟨sd_mem (i := 885) (by decide +kernel), sd_mem (i := 886) (by decide +kernel), ⟨sd_mem (i := 887) (by decide +kernel), sd_mem (i := 114) (by decide +kernel), by decide +kernel, by decide +kernel, by decide +kernel⟩⟩
def M_XT_verdict : sd_MX := (yX11_verdict, cX11_verdict, 2, (some .int), { frames := 5, cells := 0, slots := 0, locals := 137 })
def XT_verdict (h : sd_H) (a0 : Int32) : Option (sd_H × Int32) :=
  b1 (XT_isRow a0) (fun t2 => (if t2 = 0 then some (h, (-2)) else b1 (XY_refresh h) (fun h5 => gd (sd_inB a0 6) (b1 (XY_judge h5 a0 (h5.1 2 (a0 : Int32).toNatClampNeg)) (fun t8 => some (h5, t8))))))
set_option maxHeartbeats 4000000 in
set_option maxRecDepth 100000 in
theorem T_XT_verdict {G : sd_GX} {h : sd_H} {a0 : Int32} {r : (sd_H × Int32)} (hf : XT_verdict h a0 = some r) : sd_RunF G M_XT_verdict [.ref (G.1 + 0), .int a0] h (some (.int r.2)) r.1 := by
  refine sF_run ⟨rfl, rfl⟩ (by decide +kernel) (Nat.le_of_ble_eq_true rfl) (lo := [(0, .ref (G.1 + 0)), (1, .int a0)]) rfl (fun X hE => ?_)
  unfold XT_verdict at hf
  refine sd_iload_n (k := 1) (i := 1) (q := 1) (pc' := 1) (by decide +kernel) rfl rfl ?_
  obtain ⟨t2, q1, hf⟩ := b1_some hf
  refine sF_callS (idx := 93) (As := [.int a0]) (pc' := 4) 1 (T_XT_isRow (G := G) (h := h)  q1) (by decide +kernel) mv_XT_isRow ml_X11_93 (by decide +kernel) rfl rfl (Nat.le_of_ble_eq_true rfl) rfl ?_
  refine sd_if_ne (off := 6) (tgt := 10) (pc' := 7) (by decide +kernel) (fun c3 => ?_) (fun c3 => ?_)
  · replace hf := ite_n c3 hf
    refine sd_aload_n (k := 0) (i := 0) (q := 0) (pc' := 11) (by decide +kernel) rfl rfl ?_
    refine sF_gr (idx := 41) (ci := 11) (k := 4) (n := 17) (r := 56) (pc' := 14) (by decide +kernel) fl_X11_41 (by decide +kernel) rfl SH_0 (by decide) (by decide +kernel) ?_
    obtain ⟨h5, q4, hf⟩ := b1_some hf
    refine sF_callV0 (idx := 278) (b := 56) (As := []) (ci := 10) (nn := 6) (pc' := 17) 0 (T_XY_refresh (G := G) (h := h)  q4) (by decide +kernel) mv_XY_refresh ml_X11_278 (by decide +kernel) rfl rfl (Nat.le_of_ble_eq_true rfl) SH_56 rfl (by decide) rfl rfl ?_
    refine sd_aload_n (k := 0) (i := 0) (q := 0) (pc' := 18) (by decide +kernel) rfl rfl ?_
    refine sF_gr (idx := 41) (ci := 11) (k := 4) (n := 17) (r := 56) (pc' := 21) (by decide +kernel) fl_X11_41 (by decide +kernel) rfl SH_0 (by decide) (by decide +kernel) ?_
    refine sd_iload_n (k := 1) (i := 1) (q := 1) (pc' := 22) (by decide +kernel) rfl rfl ?_
    refine sd_aload_n (k := 0) (i := 0) (q := 0) (pc' := 23) (by decide +kernel) rfl rfl ?_
    refine sF_gr (idx := 12) (ci := 11) (k := 0) (n := 17) (r := 1) (pc' := 26) (by decide +kernel) fl_X11_12 (by decide +kernel) rfl SH_0 (by decide) (by decide +kernel) ?_
    refine sF_gr (idx := 119) (ci := 6) (k := 0) (n := 4) (r := 2) (pc' := 29) (by decide +kernel) fl_X11_119 (by decide +kernel) rfl SH_1 (by decide) (by decide +kernel) ?_
    refine sd_iload_n (k := 1) (i := 1) (q := 1) (pc' := 30) (by decide +kernel) rfl rfl ?_
    obtain ⟨g6, hf⟩ := gd_some hf
    refine sF_iald (n := 6) (pc' := 31) (by decide +kernel) SH_2 g6 ?_
    obtain ⟨t8, q7, hf⟩ := b1_some hf
    refine sF_callV (idx := 291) (b := 56) (As := [.int a0, .int (h5.1 2 (a0 : Int32).toNatClampNeg)]) (ci := 10) (nn := 6) (pc' := 34) 2 (T_XY_judge (G := G) (h := h5)  q7) (by decide +kernel) mv_XY_judge ml_X11_291 (by decide +kernel) rfl rfl (Nat.le_of_ble_eq_true rfl) SH_56 rfl (by decide) rfl rfl ?_
    obtain rfl := Option.some.inj hf
    exact sd_iret (by decide +kernel) rfl (hE _)
  · replace hf := ite_p c3 hf
    refine sd_bipush (n := -2) (v := (-2)) (pc' := 9) (by decide +kernel) (by decide) ?_
    obtain rfl := Option.some.inj hf
    exact sd_iret (by decide +kernel) rfl (hE _)

def M_XT_would : sd_MX := (yX11_would, cX11_would, 3, (some .int), { frames := 5, cells := 0, slots := 0, locals := 137 })
def XT_would (h : sd_H) (a0 : Int32) (a1 : Int32) : Option (sd_H × Int32) :=
  b1 (XT_isRow a0) (fun t2 => (if t2 = 0 then some (h, (-2)) else b1 (XT_within a1 0 3) (fun t5 => (if t5 = 0 then some (h, (-2)) else b1 (XR_isMissing h 1 a0) (fun t8 => (if t8 = 0 then gd (sd_inB a0 6) ((if (h.1 2 (a0 : Int32).toNatClampNeg) = 4 then some (h, (-3)) else b1 (XY_refresh h) (fun h13 => b1 (XY_judge h13 a0 a1) (fun t15 => some (h13, t15))))) else b2 (XT_found h 1) (fun h17 t18 => some (h17, t18))))))))
set_option maxHeartbeats 4000000 in
set_option maxRecDepth 100000 in
theorem T_XT_would {G : sd_GX} {h : sd_H} {a0 : Int32} {a1 : Int32} {r : (sd_H × Int32)} (hf : XT_would h a0 a1 = some r) : sd_RunF G M_XT_would [.ref (G.1 + 0), .int a0, .int a1] h (some (.int r.2)) r.1 := by
  refine sF_run ⟨rfl, rfl⟩ (by decide +kernel) (Nat.le_of_ble_eq_true rfl) (lo := [(0, .ref (G.1 + 0)), (1, .int a0), (2, .int a1)]) rfl (fun X hE => ?_)
  unfold XT_would at hf
  refine sd_iload_n (k := 1) (i := 1) (q := 1) (pc' := 1) (by decide +kernel) rfl rfl ?_
  obtain ⟨t2, q1, hf⟩ := b1_some hf
  refine sF_callS (idx := 93) (As := [.int a0]) (pc' := 4) 1 (T_XT_isRow (G := G) (h := h)  q1) (by decide +kernel) mv_XT_isRow ml_X11_93 (by decide +kernel) rfl rfl (Nat.le_of_ble_eq_true rfl) rfl ?_
  refine sd_if_eq (off := 12) (tgt := 16) (pc' := 7) (by decide +kernel) (fun c3 => ?_) (fun c3 => ?_)
  · replace hf := ite_p c3 hf
    refine sd_bipush (n := -2) (v := (-2)) (pc' := 18) (by decide +kernel) (by decide) ?_
    obtain rfl := Option.some.inj hf
    exact sd_iret (by decide +kernel) rfl (hE _)
  · replace hf := ite_n c3 hf
    refine sd_iload_n (k := 2) (i := 2) (q := 2) (pc' := 8) (by decide +kernel) rfl rfl ?_
    refine sd_iconst (n := 0) (v := 0) (pc' := 9) (by decide +kernel) (by decide) ?_
    refine sd_iconst (n := 3) (v := 3) (pc' := 10) (by decide +kernel) (by decide) ?_
    obtain ⟨t5, q4, hf⟩ := b1_some hf
    refine sF_callS (idx := 97) (As := [.int a1, .int 0, .int 3]) (pc' := 13) 3 (T_XT_within (G := G) (h := h)  q4) (by decide +kernel) mv_XT_within ml_X11_97 (by decide +kernel) rfl rfl (Nat.le_of_ble_eq_true rfl) rfl ?_
    refine sd_if_ne (off := 6) (tgt := 19) (pc' := 16) (by decide +kernel) (fun c6 => ?_) (fun c6 => ?_)
    · replace hf := ite_n c6 hf
      refine sd_aload_n (k := 0) (i := 0) (q := 0) (pc' := 20) (by decide +kernel) rfl rfl ?_
      refine sF_gr (idx := 12) (ci := 11) (k := 0) (n := 17) (r := 1) (pc' := 23) (by decide +kernel) fl_X11_12 (by decide +kernel) rfl SH_0 (by decide) (by decide +kernel) ?_
      refine sd_iload_n (k := 1) (i := 1) (q := 1) (pc' := 24) (by decide +kernel) rfl rfl ?_
      obtain ⟨t8, q7, hf⟩ := b1_some hf
      refine sF_callV (idx := 113) (b := 1) (As := [.int a0]) (ci := 6) (nn := 4) (pc' := 27) 1 (T_XR_isMissing (G := G) (h := h) SH_1 q7) (by decide +kernel) mv_XR_isMissing ml_X11_113 (by decide +kernel) rfl rfl (Nat.le_of_ble_eq_true rfl) SH_1 rfl (by decide) rfl rfl ?_
      refine sd_if_eq (off := 9) (tgt := 36) (pc' := 30) (by decide +kernel) (fun c9 => ?_) (fun c9 => ?_)
      · replace hf := ite_p c9 hf
        refine sd_aload_n (k := 0) (i := 0) (q := 0) (pc' := 37) (by decide +kernel) rfl rfl ?_
        refine sF_gr (idx := 12) (ci := 11) (k := 0) (n := 17) (r := 1) (pc' := 40) (by decide +kernel) fl_X11_12 (by decide +kernel) rfl SH_0 (by decide) (by decide +kernel) ?_
        refine sF_gr (idx := 119) (ci := 6) (k := 0) (n := 4) (r := 2) (pc' := 43) (by decide +kernel) fl_X11_119 (by decide +kernel) rfl SH_1 (by decide) (by decide +kernel) ?_
        refine sd_iload_n (k := 1) (i := 1) (q := 1) (pc' := 44) (by decide +kernel) rfl rfl ?_
        obtain ⟨g10, hf⟩ := gd_some hf
        refine sF_iald (n := 6) (pc' := 45) (by decide +kernel) SH_2 g10 ?_
        refine sd_iconst (n := 4) (v := 4) (pc' := 46) (by decide +kernel) (by decide) ?_
        refine sd_icmp_ne (off := 6) (tgt := 52) (pc' := 49) (by decide +kernel) (fun c11 => ?_) (fun c11 => ?_)
        · replace hf := ite_n c11 hf
          refine sd_aload_n (k := 0) (i := 0) (q := 0) (pc' := 53) (by decide +kernel) rfl rfl ?_
          refine sF_gr (idx := 41) (ci := 11) (k := 4) (n := 17) (r := 56) (pc' := 56) (by decide +kernel) fl_X11_41 (by decide +kernel) rfl SH_0 (by decide) (by decide +kernel) ?_
          obtain ⟨h13, q12, hf⟩ := b1_some hf
          refine sF_callV0 (idx := 278) (b := 56) (As := []) (ci := 10) (nn := 6) (pc' := 59) 0 (T_XY_refresh (G := G) (h := h)  q12) (by decide +kernel) mv_XY_refresh ml_X11_278 (by decide +kernel) rfl rfl (Nat.le_of_ble_eq_true rfl) SH_56 rfl (by decide) rfl rfl ?_
          refine sd_aload_n (k := 0) (i := 0) (q := 0) (pc' := 60) (by decide +kernel) rfl rfl ?_
          refine sF_gr (idx := 41) (ci := 11) (k := 4) (n := 17) (r := 56) (pc' := 63) (by decide +kernel) fl_X11_41 (by decide +kernel) rfl SH_0 (by decide) (by decide +kernel) ?_
          refine sd_iload_n (k := 1) (i := 1) (q := 1) (pc' := 64) (by decide +kernel) rfl rfl ?_
          refine sd_iload_n (k := 2) (i := 2) (q := 2) (pc' := 65) (by decide +kernel) rfl rfl ?_
          obtain ⟨t15, q14, hf⟩ := b1_some hf
          refine sF_callV (idx := 291) (b := 56) (As := [.int a0, .int a1]) (ci := 10) (nn := 6) (pc' := 68) 2 (T_XY_judge (G := G) (h := h13)  q14) (by decide +kernel) mv_XY_judge ml_X11_291 (by decide +kernel) rfl rfl (Nat.le_of_ble_eq_true rfl) SH_56 rfl (by decide) rfl rfl ?_
          obtain rfl := Option.some.inj hf
          exact sd_iret (by decide +kernel) rfl (hE _)
        · replace hf := ite_p c11 hf
          refine sd_bipush (n := -3) (v := (-3)) (pc' := 51) (by decide +kernel) (by decide) ?_
          obtain rfl := Option.some.inj hf
          exact sd_iret (by decide +kernel) rfl (hE _)
      · replace hf := ite_n c9 hf
        refine sd_aload_n (k := 0) (i := 0) (q := 0) (pc' := 31) (by decide +kernel) rfl rfl ?_
        refine sd_iconst (n := 1) (v := 1) (pc' := 32) (by decide +kernel) (by decide) ?_
        obtain ⟨h17, t18, q16, hf⟩ := b2_some hf
        refine sF_callV (idx := 101) (b := 0) (As := [.int 1]) (ci := 11) (nn := 17) (pc' := 35) 1 (T_XT_found (G := G) (h := h)  q16) (by decide +kernel) mv_XT_found ml_X11_101 (by decide +kernel) rfl rfl (Nat.le_of_ble_eq_true rfl) SH_0 rfl (by decide) rfl rfl ?_
        obtain rfl := Option.some.inj hf
        exact sd_iret (by decide +kernel) rfl (hE _)
    · replace hf := ite_p c6 hf
      refine sd_bipush (n := -2) (v := (-2)) (pc' := 18) (by decide +kernel) (by decide) ?_
      obtain rfl := Option.some.inj hf
      exact sd_iret (by decide +kernel) rfl (hE _)

theorem ml_X10_144 : Cond.methodLink RX10 144 yX8_leastCell ∈ sd_tb := sd_mem (i := 916) (by decide +kernel)
def M_XY_exposedCell : sd_MX := (yX10_exposedCell, cX10_exposedCell, 5, (some .int), { frames := 2, cells := 0, slots := 0, locals := 61 })
def XY_exposedCell_L5 (h : sd_H) : Nat → Int32 → Int32 → Int32 → Int32 → Option Int32
  | 0, _, _, _, _ => none
  | n + 1, l1, l2, l3, l4 =>
  (if l2 ≤ l4 then gd (sd_inB ((l2 * 6) + l1) 60) (b1 (XS_leastCell ((h.1 61 (((l2 * 6) + l1) : Int32).toNatClampNeg) &&& l3)) (fun t4 => some t4)) else gd (sd_inB ((l4 * 6) + l1) 60) (XY_exposedCell_L5 h n l1 l2 (l3 ||| (h.1 59 (((l4 * 6) + l1) : Int32).toNatClampNeg)) (l4 + 1)))
set_option maxHeartbeats 4000000 in
set_option maxRecDepth 100000 in
theorem J_XY_exposedCell_L5 {G : sd_GX} {X : sd_CX} (hE : ∀ g : sd_H, sd_end G X M_XY_exposedCell (sd_F g)) {h : sd_H} {r : Int32} : ∀ (n : Nat) (l1 : Int32) (l2 : Int32) (l3 : Int32) (l4 : Int32), XY_exposedCell_L5 h n l1 l2 l3 l4 = some r → sd_J G X (sd_QR G X M_XY_exposedCell (some (.int r), sd_F h)) M_XY_exposedCell 5 [(0, .ref (G.1 + 56)), (1, .int l1), (2, .int l2), (3, .int l3), (4, .int l4)] [] (sd_F h) := by
  intro n
  induction n with
  | zero =>
    intro l1 l2 l3 l4 hf
    rw [XY_exposedCell_L5] at hf
    cases hf
  | succ n ih =>
    intro l1 l2 l3 l4 hf
    rw [XY_exposedCell_L5] at hf
    refine sd_iload (i := 4) (q := 4) (pc' := 7) (by decide +kernel) rfl ?_
    refine sd_iload_n (k := 2) (i := 2) (q := 2) (pc' := 8) (by decide +kernel) rfl rfl ?_
    refine sd_icmp_ge (off := 26) (tgt := 34) (pc' := 11) (by decide +kernel) (fun c1 => ?_) (fun c1 => ?_)
    · replace hf := ite_p c1 hf
      refine sd_aload_n (k := 0) (i := 0) (q := 0) (pc' := 35) (by decide +kernel) rfl rfl ?_
      refine sF_gr (idx := 11) (ci := 10) (k := 2) (n := 6) (r := 57) (pc' := 38) (by decide +kernel) fl_X10_11 (by decide +kernel) rfl SH_56 (by decide) (by decide +kernel) ?_
      refine sd_iconst (n := 3) (v := 3) (pc' := 39) (by decide +kernel) (by decide) ?_
      refine sF_aald2 (n := 4) (r := 61) (pc' := 40) (by decide +kernel) SH_57 (by decide) (by decide +kernel) ?_
      refine sd_iload_n (k := 2) (i := 2) (q := 2) (pc' := 41) (by decide +kernel) rfl rfl ?_
      refine sd_bipush (n := 6) (v := 6) (pc' := 43) (by decide +kernel) (by decide) ?_
      refine sd_imul (pc' := 44) (by decide +kernel) ?_
      refine sd_iload_n (k := 1) (i := 1) (q := 1) (pc' := 45) (by decide +kernel) rfl rfl ?_
      refine sd_iadd (pc' := 46) (by decide +kernel) ?_
      obtain ⟨g2, hf⟩ := gd_some hf
      refine sF_iald (n := 60) (pc' := 47) (by decide +kernel) SH_61 g2 ?_
      refine sd_iload_n (k := 3) (i := 3) (q := 3) (pc' := 48) (by decide +kernel) rfl rfl ?_
      refine sd_iand (pc' := 49) (by decide +kernel) ?_
      obtain ⟨t4, q3, hf⟩ := b1_some hf
      refine sF_callS (idx := 144) (As := [.int ((h.1 61 (((l2 * 6) + l1) : Int32).toNatClampNeg) &&& l3)]) (pc' := 52) 1 (T_XS_leastCell (G := G) (h := h)  q3) (by decide +kernel) mv_XS_leastCell ml_X10_144 (by decide +kernel) rfl rfl (Nat.le_of_ble_eq_true rfl) rfl ?_
      obtain rfl := Option.some.inj hf
      exact sd_iret (by decide +kernel) rfl (hE _)
    · replace hf := ite_n c1 hf
      refine sd_iload_n (k := 3) (i := 3) (q := 3) (pc' := 12) (by decide +kernel) rfl rfl ?_
      refine sd_aload_n (k := 0) (i := 0) (q := 0) (pc' := 13) (by decide +kernel) rfl rfl ?_
      refine sF_gr (idx := 11) (ci := 10) (k := 2) (n := 6) (r := 57) (pc' := 16) (by decide +kernel) fl_X10_11 (by decide +kernel) rfl SH_56 (by decide) (by decide +kernel) ?_
      refine sd_iconst (n := 1) (v := 1) (pc' := 17) (by decide +kernel) (by decide) ?_
      refine sF_aald2 (n := 4) (r := 59) (pc' := 18) (by decide +kernel) SH_57 (by decide) (by decide +kernel) ?_
      refine sd_iload (i := 4) (q := 4) (pc' := 20) (by decide +kernel) rfl ?_
      refine sd_bipush (n := 6) (v := 6) (pc' := 22) (by decide +kernel) (by decide) ?_
      refine sd_imul (pc' := 23) (by decide +kernel) ?_
      refine sd_iload_n (k := 1) (i := 1) (q := 1) (pc' := 24) (by decide +kernel) rfl rfl ?_
      refine sd_iadd (pc' := 25) (by decide +kernel) ?_
      obtain ⟨g5, hf⟩ := gd_some hf
      refine sF_iald (n := 60) (pc' := 26) (by decide +kernel) SH_59 g5 ?_
      refine sd_ior (pc' := 27) (by decide +kernel) ?_
      refine sd_istore_n (k := 3) (i := 3) (pc' := 28) (lo' := [(3, .int (l3 ||| (h.1 59 (((l4 * 6) + l1) : Int32).toNatClampNeg))), (0, .ref (G.1 + 56)), (1, .int l1), (2, .int l2), (4, .int l4)]) (by decide +kernel) rfl (by decide) rfl ?_
      refine sd_iinc (i := 4) (q := 4) (n := 1) (v := (l4 + 1)) (pc' := 31) (lo' := [(4, .int (l4 + 1)), (3, .int (l3 ||| (h.1 59 (((l4 * 6) + l1) : Int32).toNatClampNeg))), (0, .ref (G.1 + 56)), (1, .int l1), (2, .int l2)]) (by decide +kernel) rfl rfl (by decide) rfl ?_
      refine sd_goto (off := -26) (tgt := 5) (pc' := 34) (by decide +kernel) ?_
      refine sd_J.sub (lo' := [(0, .ref (G.1 + 56)), (1, .int l1), (2, .int l2), (3, .int (l3 ||| (h.1 59 (((l4 * 6) + l1) : Int32).toNatClampNeg))), (4, .int (l4 + 1))]) [2, 3, 4, 1, 0] rfl ?_
      exact ih _ _ _ _ hf
def XY_exposedCell (h : sd_H) (a0 : Int32) (a1 : Int32) : Option Int32 :=
  XY_exposedCell_L5 h FU a0 a1 0 0
set_option maxHeartbeats 4000000 in
set_option maxRecDepth 100000 in
theorem T_XY_exposedCell {G : sd_GX} {h : sd_H} {a0 : Int32} {a1 : Int32} {r : Int32} (hf : XY_exposedCell h a0 a1 = some r) : sd_RunF G M_XY_exposedCell [.ref (G.1 + 56), .int a0, .int a1] h (some (.int r)) h := by
  refine sF_run ⟨rfl, rfl⟩ (by decide +kernel) (Nat.le_of_ble_eq_true rfl) (lo := [(0, .ref (G.1 + 56)), (1, .int a0), (2, .int a1)]) rfl (fun X hE => ?_)
  unfold XY_exposedCell at hf
  refine sd_iconst (n := 0) (v := 0) (pc' := 1) (by decide +kernel) (by decide) ?_
  refine sd_istore_n (k := 3) (i := 3) (pc' := 2) (lo' := [(3, .int 0), (0, .ref (G.1 + 56)), (1, .int a0), (2, .int a1)]) (by decide +kernel) rfl (by decide) rfl ?_
  refine sd_iconst (n := 0) (v := 0) (pc' := 3) (by decide +kernel) (by decide) ?_
  refine sd_istore (i := 4) (pc' := 5) (lo' := [(4, .int 0), (3, .int 0), (0, .ref (G.1 + 56)), (1, .int a0), (2, .int a1)]) (by decide +kernel) (by decide) rfl ?_
  refine sd_J.sub (lo' := [(0, .ref (G.1 + 56)), (1, .int a0), (2, .int a1), (3, .int 0), (4, .int 0)]) [2, 3, 4, 1, 0] rfl ?_
  exact J_XY_exposedCell_L5 hE _ _ _ _ _ hf

def M_XY_lastTurn : sd_MX := (yX10_lastTurn, cX10_lastTurn, 6, (some .int), { frames := 1, cells := 0, slots := 0, locals := 40 })
def XY_lastTurn_L6 (h : sd_H) : Nat → Int32 → Int32 → Int32 → Int32 → Option Int32
  | 0, _, _, _, _ => none
  | n + 1, l1, l2, l3, l5 =>
  (if l5 < 0 then some (-1) else gd (sd_inB l1 4) (gd (sd_inB ((l5 * 6) + l2) 60) ((if (((h.1 (58 + 1 * (l1 : Int32).toNatClampNeg) (((l5 * 6) + l2) : Int32).toNatClampNeg) >>> (l3 &&& 31)) &&& 1) = 0 then XY_lastTurn_L6 h n l1 l2 l3 (l5 + (-1)) else some l5))))
set_option maxHeartbeats 4000000 in
set_option maxRecDepth 100000 in
theorem J_XY_lastTurn_L6 {G : sd_GX} {X : sd_CX} (hE : ∀ g : sd_H, sd_end G X M_XY_lastTurn (sd_F g)) {h : sd_H} {r : Int32} : ∀ (n : Nat) (l1 : Int32) (l2 : Int32) (l3 : Int32) (l5 : Int32), XY_lastTurn_L6 h n l1 l2 l3 l5 = some r → sd_J G X (sd_QR G X M_XY_lastTurn (some (.int r), sd_F h)) M_XY_lastTurn 6 [(0, .ref (G.1 + 56)), (1, .int l1), (2, .int l2), (3, .int l3), (5, .int l5)] [] (sd_F h) := by
  intro n
  induction n with
  | zero =>
    intro l1 l2 l3 l5 hf
    rw [XY_lastTurn_L6] at hf
    cases hf
  | succ n ih =>
    intro l1 l2 l3 l5 hf
    rw [XY_lastTurn_L6] at hf
    refine sd_iload (i := 5) (q := 4) (pc' := 8) (by decide +kernel) rfl ?_
    refine sd_if_lt (off := 33) (tgt := 41) (pc' := 11) (by decide +kernel) (fun c1 => ?_) (fun c1 => ?_)
    · replace hf := ite_p c1 hf
      refine sd_iconst (n := -1) (v := (-1)) (pc' := 42) (by decide +kernel) (by decide) ?_
      obtain rfl := Option.some.inj hf
      exact sd_iret (by decide +kernel) rfl (hE _)
    · replace hf := ite_n c1 hf
      refine sd_aload_n (k := 0) (i := 0) (q := 0) (pc' := 12) (by decide +kernel) rfl rfl ?_
      refine sF_gr (idx := 11) (ci := 10) (k := 2) (n := 6) (r := 57) (pc' := 15) (by decide +kernel) fl_X10_11 (by decide +kernel) rfl SH_56 (by decide) (by decide +kernel) ?_
      refine sd_iload_n (k := 1) (i := 1) (q := 1) (pc' := 16) (by decide +kernel) rfl rfl ?_
      obtain ⟨g2, hf⟩ := gd_some hf
      refine sF_aald2 (n := 4) (r := (58 + 1 * (l1 : Int32).toNatClampNeg)) (pc' := 17) (by decide +kernel) SH_57 g2 (rta_57 (inB_lt g2)) ?_
      refine sd_iload (i := 5) (q := 4) (pc' := 19) (by decide +kernel) rfl ?_
      refine sd_bipush (n := 6) (v := 6) (pc' := 21) (by decide +kernel) (by decide) ?_
      refine sd_imul (pc' := 22) (by decide +kernel) ?_
      refine sd_iload_n (k := 2) (i := 2) (q := 2) (pc' := 23) (by decide +kernel) rfl rfl ?_
      refine sd_iadd (pc' := 24) (by decide +kernel) ?_
      obtain ⟨g3, hf⟩ := gd_some hf
      refine sF_iald (n := 60) (pc' := 25) (by decide +kernel) (sha_57 (inB_lt g2)) g3 ?_
      refine sd_iload_n (k := 3) (i := 3) (q := 3) (pc' := 26) (by decide +kernel) rfl rfl ?_
      refine sd_ishr (pc' := 27) (by decide +kernel) ?_
      refine sd_iconst (n := 1) (v := 1) (pc' := 28) (by decide +kernel) (by decide) ?_
      refine sd_iand (pc' := 29) (by decide +kernel) ?_
      refine sd_if_eq (off := 6) (tgt := 35) (pc' := 32) (by decide +kernel) (fun c4 => ?_) (fun c4 => ?_)
      · replace hf := ite_p c4 hf
        refine sd_iinc (i := 5) (q := 4) (n := -1) (v := (l5 + (-1))) (pc' := 38) (lo' := [(5, .int (l5 + (-1))), (0, .ref (G.1 + 56)), (1, .int l1), (2, .int l2), (3, .int l3)]) (by decide +kernel) rfl rfl (by decide) rfl ?_
        refine sd_goto (off := -32) (tgt := 6) (pc' := 41) (by decide +kernel) ?_
        refine sd_J.sub (lo' := [(0, .ref (G.1 + 56)), (1, .int l1), (2, .int l2), (3, .int l3), (5, .int (l5 + (-1)))]) [1, 2, 3, 4, 0] rfl ?_
        exact ih _ _ _ _ hf
      · replace hf := ite_n c4 hf
        refine sd_iload (i := 5) (q := 4) (pc' := 34) (by decide +kernel) rfl ?_
        obtain rfl := Option.some.inj hf
        exact sd_iret (by decide +kernel) rfl (hE _)
def XY_lastTurn (h : sd_H) (a0 : Int32) (a1 : Int32) (a2 : Int32) (a3 : Int32) : Option Int32 :=
  XY_lastTurn_L6 h FU a0 a1 a2 (a3 - 1)
set_option maxHeartbeats 4000000 in
set_option maxRecDepth 100000 in
theorem T_XY_lastTurn {G : sd_GX} {h : sd_H} {a0 : Int32} {a1 : Int32} {a2 : Int32} {a3 : Int32} {r : Int32} (hf : XY_lastTurn h a0 a1 a2 a3 = some r) : sd_RunF G M_XY_lastTurn [.ref (G.1 + 56), .int a0, .int a1, .int a2, .int a3] h (some (.int r)) h := by
  refine sF_run ⟨rfl, rfl⟩ (by decide +kernel) (Nat.le_of_ble_eq_true rfl) (lo := [(0, .ref (G.1 + 56)), (1, .int a0), (2, .int a1), (3, .int a2), (4, .int a3)]) rfl (fun X hE => ?_)
  unfold XY_lastTurn at hf
  refine sd_iload (i := 4) (q := 4) (pc' := 2) (by decide +kernel) rfl ?_
  refine sd_iconst (n := 1) (v := 1) (pc' := 3) (by decide +kernel) (by decide) ?_
  refine sd_isub (pc' := 4) (by decide +kernel) ?_
  refine sd_istore (i := 5) (pc' := 6) (lo' := [(5, .int (a3 - 1)), (0, .ref (G.1 + 56)), (1, .int a0), (2, .int a1), (3, .int a2), (4, .int a3)]) (by decide +kernel) (by decide) rfl ?_
  refine sd_J.sub (lo' := [(0, .ref (G.1 + 56)), (1, .int a0), (2, .int a1), (3, .int a2), (5, .int (a3 - 1))]) [1, 2, 3, 4, 0] rfl ?_
  exact J_XY_lastTurn_L6 hE _ _ _ _ _ hf

theorem ml_X11_294 : Cond.methodLink RX11 294 yX10_exposedTurn ∈ sd_tb := sd_mem (i := 911) (by decide +kernel)
theorem ml_X11_297 : Cond.methodLink RX11 297 yX10_exposedCell ∈ sd_tb := sd_mem (i := 912) (by decide +kernel)
theorem mv_XY_exposedCell : sd_mV M_XY_exposedCell 2 := ⟨sd_mem (i := 913) (by decide +kernel), sd_mem (i := 914) (by decide +kernel), ⟨sd_mem (i := 915) (by decide +kernel), sd_mem (i := 114) (by decide +kernel), by decide +kernel, by decide +kernel, by decide +kernel⟩⟩
theorem ml_X11_300 : Cond.methodLink RX11 300 yX10_lastTurn ∈ sd_tb := sd_mem (i := 917) (by decide +kernel)
theorem mv_XY_lastTurn : sd_mV M_XY_lastTurn 4 := ⟨sd_mem (i := 918) (by decide +kernel), sd_mem (i := 919) (by decide +kernel), ⟨sd_mem (i := 920) (by decide +kernel), sd_mem (i := 114) (by decide +kernel), by decide +kernel, by decide +kernel, by decide +kernel⟩⟩
def M_XT_witness : sd_MX := (yX11_witness, cX11_witness, 5, (some .int), { frames := 5, cells := 0, slots := 0, locals := 137 })
def XT_witness (h : sd_H) (a0 : Int32) (a1 : Int32) : Option (sd_H × Int32) :=
  b1 (XT_isRow a0) (fun t2 => (if t2 = 0 then some (h, (-2)) else b1 (XT_within a1 0 2) (fun t5 => (if t5 = 0 then some (h, (-2)) else b1 (XY_refresh h) (fun h8 => b1 (XY_exposedTurn h8 a0) (fun t10 => (if t10 = (-1) then some (h8, (-1)) else (if a1 = 1 then some (h8, t10) else b1 (XY_exposedCell h8 a0 t10) (fun t14 => (if a1 = 2 then some (h8, t14) else b1 (XY_lastTurn h8 1 a0 t14 t10) (fun t17 => some (h8, t17))))))))))))
set_option maxHeartbeats 4000000 in
set_option maxRecDepth 100000 in
theorem T_XT_witness {G : sd_GX} {h : sd_H} {a0 : Int32} {a1 : Int32} {r : (sd_H × Int32)} (hf : XT_witness h a0 a1 = some r) : sd_RunF G M_XT_witness [.ref (G.1 + 0), .int a0, .int a1] h (some (.int r.2)) r.1 := by
  refine sF_run ⟨rfl, rfl⟩ (by decide +kernel) (Nat.le_of_ble_eq_true rfl) (lo := [(0, .ref (G.1 + 0)), (1, .int a0), (2, .int a1)]) rfl (fun X hE => ?_)
  unfold XT_witness at hf
  refine sd_iload_n (k := 1) (i := 1) (q := 1) (pc' := 1) (by decide +kernel) rfl rfl ?_
  obtain ⟨t2, q1, hf⟩ := b1_some hf
  refine sF_callS (idx := 93) (As := [.int a0]) (pc' := 4) 1 (T_XT_isRow (G := G) (h := h)  q1) (by decide +kernel) mv_XT_isRow ml_X11_93 (by decide +kernel) rfl rfl (Nat.le_of_ble_eq_true rfl) rfl ?_
  refine sd_if_eq (off := 12) (tgt := 16) (pc' := 7) (by decide +kernel) (fun c3 => ?_) (fun c3 => ?_)
  · replace hf := ite_p c3 hf
    refine sd_bipush (n := -2) (v := (-2)) (pc' := 18) (by decide +kernel) (by decide) ?_
    obtain rfl := Option.some.inj hf
    exact sd_iret (by decide +kernel) rfl (hE _)
  · replace hf := ite_n c3 hf
    refine sd_iload_n (k := 2) (i := 2) (q := 2) (pc' := 8) (by decide +kernel) rfl rfl ?_
    refine sd_iconst (n := 0) (v := 0) (pc' := 9) (by decide +kernel) (by decide) ?_
    refine sd_iconst (n := 2) (v := 2) (pc' := 10) (by decide +kernel) (by decide) ?_
    obtain ⟨t5, q4, hf⟩ := b1_some hf
    refine sF_callS (idx := 97) (As := [.int a1, .int 0, .int 2]) (pc' := 13) 3 (T_XT_within (G := G) (h := h)  q4) (by decide +kernel) mv_XT_within ml_X11_97 (by decide +kernel) rfl rfl (Nat.le_of_ble_eq_true rfl) rfl ?_
    refine sd_if_ne (off := 6) (tgt := 19) (pc' := 16) (by decide +kernel) (fun c6 => ?_) (fun c6 => ?_)
    · replace hf := ite_n c6 hf
      refine sd_aload_n (k := 0) (i := 0) (q := 0) (pc' := 20) (by decide +kernel) rfl rfl ?_
      refine sF_gr (idx := 41) (ci := 11) (k := 4) (n := 17) (r := 56) (pc' := 23) (by decide +kernel) fl_X11_41 (by decide +kernel) rfl SH_0 (by decide) (by decide +kernel) ?_
      obtain ⟨h8, q7, hf⟩ := b1_some hf
      refine sF_callV0 (idx := 278) (b := 56) (As := []) (ci := 10) (nn := 6) (pc' := 26) 0 (T_XY_refresh (G := G) (h := h)  q7) (by decide +kernel) mv_XY_refresh ml_X11_278 (by decide +kernel) rfl rfl (Nat.le_of_ble_eq_true rfl) SH_56 rfl (by decide) rfl rfl ?_
      refine sd_aload_n (k := 0) (i := 0) (q := 0) (pc' := 27) (by decide +kernel) rfl rfl ?_
      refine sF_gr (idx := 41) (ci := 11) (k := 4) (n := 17) (r := 56) (pc' := 30) (by decide +kernel) fl_X11_41 (by decide +kernel) rfl SH_0 (by decide) (by decide +kernel) ?_
      refine sd_iload_n (k := 1) (i := 1) (q := 1) (pc' := 31) (by decide +kernel) rfl rfl ?_
      obtain ⟨t10, q9, hf⟩ := b1_some hf
      refine sF_callV (idx := 294) (b := 56) (As := [.int a0]) (ci := 10) (nn := 6) (pc' := 34) 1 (T_XY_exposedTurn (G := G) (h := h8)  q9) (by decide +kernel) mv_XY_exposedTurn ml_X11_294 (by decide +kernel) rfl rfl (Nat.le_of_ble_eq_true rfl) SH_56 rfl (by decide) rfl rfl ?_
      refine sd_istore_n (k := 3) (i := 3) (pc' := 35) (lo' := [(3, .int t10), (0, .ref (G.1 + 0)), (1, .int a0), (2, .int a1)]) (by decide +kernel) rfl (by decide) rfl ?_
      refine sd_iload_n (k := 3) (i := 3) (q := 0) (pc' := 36) (by decide +kernel) rfl rfl ?_
      refine sd_iconst (n := -1) (v := (-1)) (pc' := 37) (by decide +kernel) (by decide) ?_
      refine sd_icmp_ne (off := 5) (tgt := 42) (pc' := 40) (by decide +kernel) (fun c11 => ?_) (fun c11 => ?_)
      · replace hf := ite_n c11 hf
        refine sd_iload_n (k := 2) (i := 2) (q := 3) (pc' := 43) (by decide +kernel) rfl rfl ?_
        refine sd_iconst (n := 1) (v := 1) (pc' := 44) (by decide +kernel) (by decide) ?_
        refine sd_icmp_ne (off := 5) (tgt := 49) (pc' := 47) (by decide +kernel) (fun c12 => ?_) (fun c12 => ?_)
        · replace hf := ite_n c12 hf
          refine sd_aload_n (k := 0) (i := 0) (q := 1) (pc' := 50) (by decide +kernel) rfl rfl ?_
          refine sF_gr (idx := 41) (ci := 11) (k := 4) (n := 17) (r := 56) (pc' := 53) (by decide +kernel) fl_X11_41 (by decide +kernel) rfl SH_0 (by decide) (by decide +kernel) ?_
          refine sd_iload_n (k := 1) (i := 1) (q := 2) (pc' := 54) (by decide +kernel) rfl rfl ?_
          refine sd_iload_n (k := 3) (i := 3) (q := 0) (pc' := 55) (by decide +kernel) rfl rfl ?_
          obtain ⟨t14, q13, hf⟩ := b1_some hf
          refine sF_callV (idx := 297) (b := 56) (As := [.int a0, .int t10]) (ci := 10) (nn := 6) (pc' := 58) 2 (T_XY_exposedCell (G := G) (h := h8)  q13) (by decide +kernel) mv_XY_exposedCell ml_X11_297 (by decide +kernel) rfl rfl (Nat.le_of_ble_eq_true rfl) SH_56 rfl (by decide) rfl rfl ?_
          refine sd_istore (i := 4) (pc' := 60) (lo' := [(4, .int t14), (3, .int t10), (0, .ref (G.1 + 0)), (1, .int a0), (2, .int a1)]) (by decide +kernel) (by decide) rfl ?_
          refine sd_iload_n (k := 2) (i := 2) (q := 4) (pc' := 61) (by decide +kernel) rfl rfl ?_
          refine sd_iconst (n := 2) (v := 2) (pc' := 62) (by decide +kernel) (by decide) ?_
          refine sd_icmp_ne (off := 8) (tgt := 70) (pc' := 65) (by decide +kernel) (fun c15 => ?_) (fun c15 => ?_)
          · replace hf := ite_n c15 hf
            refine sd_aload_n (k := 0) (i := 0) (q := 2) (pc' := 71) (by decide +kernel) rfl rfl ?_
            refine sF_gr (idx := 41) (ci := 11) (k := 4) (n := 17) (r := 56) (pc' := 74) (by decide +kernel) fl_X11_41 (by decide +kernel) rfl SH_0 (by decide) (by decide +kernel) ?_
            refine sd_iconst (n := 1) (v := 1) (pc' := 75) (by decide +kernel) (by decide) ?_
            refine sd_iload_n (k := 1) (i := 1) (q := 3) (pc' := 76) (by decide +kernel) rfl rfl ?_
            refine sd_iload (i := 4) (q := 0) (pc' := 78) (by decide +kernel) rfl ?_
            refine sd_iload_n (k := 3) (i := 3) (q := 1) (pc' := 79) (by decide +kernel) rfl rfl ?_
            obtain ⟨t17, q16, hf⟩ := b1_some hf
            refine sF_callV (idx := 300) (b := 56) (As := [.int 1, .int a0, .int t14, .int t10]) (ci := 10) (nn := 6) (pc' := 82) 4 (T_XY_lastTurn (G := G) (h := h8)  q16) (by decide +kernel) mv_XY_lastTurn ml_X11_300 (by decide +kernel) rfl rfl (Nat.le_of_ble_eq_true rfl) SH_56 rfl (by decide) rfl rfl ?_
            obtain rfl := Option.some.inj hf
            exact sd_iret (by decide +kernel) rfl (hE _)
          · replace hf := ite_p c15 hf
            refine sd_iload (i := 4) (q := 0) (pc' := 67) (by decide +kernel) rfl ?_
            refine sd_goto (off := 15) (tgt := 82) (pc' := 70) (by decide +kernel) ?_
            obtain rfl := Option.some.inj hf
            exact sd_iret (by decide +kernel) rfl (hE _)
        · replace hf := ite_p c12 hf
          refine sd_iload_n (k := 3) (i := 3) (q := 0) (pc' := 48) (by decide +kernel) rfl rfl ?_
          obtain rfl := Option.some.inj hf
          exact sd_iret (by decide +kernel) rfl (hE _)
      · replace hf := ite_p c11 hf
        refine sd_iconst (n := -1) (v := (-1)) (pc' := 41) (by decide +kernel) (by decide) ?_
        obtain rfl := Option.some.inj hf
        exact sd_iret (by decide +kernel) rfl (hE _)
    · replace hf := ite_p c6 hf
      refine sd_bipush (n := -2) (v := (-2)) (pc' := 18) (by decide +kernel) (by decide) ?_
      obtain rfl := Option.some.inj hf
      exact sd_iret (by decide +kernel) rfl (hE _)

def M_XT_last : sd_MX := (yX11_last, cX11_last, 4, (some .int), { frames := 5, cells := 0, slots := 0, locals := 137 })
def XT_last (h : sd_H) (a0 : Int32) (a1 : Int32) (a2 : Int32) : Option (sd_H × Int32) :=
  b1 (XT_within a0 1 2) (fun t2 => (if t2 = 0 then some (h, (-2)) else b1 (XT_isRow a1) (fun t5 => (if t5 = 0 then some (h, (-2)) else b1 (XT_within a2 0 23) (fun t8 => (if t8 = 0 then some (h, (-2)) else b1 (XY_refresh h) (fun h11 => b1 (XY_lastTurn h11 a0 a1 a2 (h11.1 6 1)) (fun t13 => some (h11, t13)))))))))
set_option maxHeartbeats 4000000 in
set_option maxRecDepth 100000 in
theorem T_XT_last {G : sd_GX} {h : sd_H} {a0 : Int32} {a1 : Int32} {a2 : Int32} {r : (sd_H × Int32)} (hf : XT_last h a0 a1 a2 = some r) : sd_RunF G M_XT_last [.ref (G.1 + 0), .int a0, .int a1, .int a2] h (some (.int r.2)) r.1 := by
  refine sF_run ⟨rfl, rfl⟩ (by decide +kernel) (Nat.le_of_ble_eq_true rfl) (lo := [(0, .ref (G.1 + 0)), (1, .int a0), (2, .int a1), (3, .int a2)]) rfl (fun X hE => ?_)
  unfold XT_last at hf
  refine sd_iload_n (k := 1) (i := 1) (q := 1) (pc' := 1) (by decide +kernel) rfl rfl ?_
  refine sd_iconst (n := 1) (v := 1) (pc' := 2) (by decide +kernel) (by decide) ?_
  refine sd_iconst (n := 2) (v := 2) (pc' := 3) (by decide +kernel) (by decide) ?_
  obtain ⟨t2, q1, hf⟩ := b1_some hf
  refine sF_callS (idx := 97) (As := [.int a0, .int 1, .int 2]) (pc' := 6) 3 (T_XT_within (G := G) (h := h)  q1) (by decide +kernel) mv_XT_within ml_X11_97 (by decide +kernel) rfl rfl (Nat.le_of_ble_eq_true rfl) rfl ?_
  refine sd_if_eq (off := 20) (tgt := 26) (pc' := 9) (by decide +kernel) (fun c3 => ?_) (fun c3 => ?_)
  · replace hf := ite_p c3 hf
    refine sd_bipush (n := -2) (v := (-2)) (pc' := 28) (by decide +kernel) (by decide) ?_
    obtain rfl := Option.some.inj hf
    exact sd_iret (by decide +kernel) rfl (hE _)
  · replace hf := ite_n c3 hf
    refine sd_iload_n (k := 2) (i := 2) (q := 2) (pc' := 10) (by decide +kernel) rfl rfl ?_
    obtain ⟨t5, q4, hf⟩ := b1_some hf
    refine sF_callS (idx := 93) (As := [.int a1]) (pc' := 13) 1 (T_XT_isRow (G := G) (h := h)  q4) (by decide +kernel) mv_XT_isRow ml_X11_93 (by decide +kernel) rfl rfl (Nat.le_of_ble_eq_true rfl) rfl ?_
    refine sd_if_eq (off := 13) (tgt := 26) (pc' := 16) (by decide +kernel) (fun c6 => ?_) (fun c6 => ?_)
    · replace hf := ite_p c6 hf
      refine sd_bipush (n := -2) (v := (-2)) (pc' := 28) (by decide +kernel) (by decide) ?_
      obtain rfl := Option.some.inj hf
      exact sd_iret (by decide +kernel) rfl (hE _)
    · replace hf := ite_n c6 hf
      refine sd_iload_n (k := 3) (i := 3) (q := 3) (pc' := 17) (by decide +kernel) rfl rfl ?_
      refine sd_iconst (n := 0) (v := 0) (pc' := 18) (by decide +kernel) (by decide) ?_
      refine sd_bipush (n := 23) (v := 23) (pc' := 20) (by decide +kernel) (by decide) ?_
      obtain ⟨t8, q7, hf⟩ := b1_some hf
      refine sF_callS (idx := 97) (As := [.int a2, .int 0, .int 23]) (pc' := 23) 3 (T_XT_within (G := G) (h := h)  q7) (by decide +kernel) mv_XT_within ml_X11_97 (by decide +kernel) rfl rfl (Nat.le_of_ble_eq_true rfl) rfl ?_
      refine sd_if_ne (off := 6) (tgt := 29) (pc' := 26) (by decide +kernel) (fun c9 => ?_) (fun c9 => ?_)
      · replace hf := ite_n c9 hf
        refine sd_aload_n (k := 0) (i := 0) (q := 0) (pc' := 30) (by decide +kernel) rfl rfl ?_
        refine sF_gr (idx := 41) (ci := 11) (k := 4) (n := 17) (r := 56) (pc' := 33) (by decide +kernel) fl_X11_41 (by decide +kernel) rfl SH_0 (by decide) (by decide +kernel) ?_
        obtain ⟨h11, q10, hf⟩ := b1_some hf
        refine sF_callV0 (idx := 278) (b := 56) (As := []) (ci := 10) (nn := 6) (pc' := 36) 0 (T_XY_refresh (G := G) (h := h)  q10) (by decide +kernel) mv_XY_refresh ml_X11_278 (by decide +kernel) rfl rfl (Nat.le_of_ble_eq_true rfl) SH_56 rfl (by decide) rfl rfl ?_
        refine sd_aload_n (k := 0) (i := 0) (q := 0) (pc' := 37) (by decide +kernel) rfl rfl ?_
        refine sF_gr (idx := 41) (ci := 11) (k := 4) (n := 17) (r := 56) (pc' := 40) (by decide +kernel) fl_X11_41 (by decide +kernel) rfl SH_0 (by decide) (by decide +kernel) ?_
        refine sd_iload_n (k := 1) (i := 1) (q := 1) (pc' := 41) (by decide +kernel) rfl rfl ?_
        refine sd_iload_n (k := 2) (i := 2) (q := 2) (pc' := 42) (by decide +kernel) rfl rfl ?_
        refine sd_iload_n (k := 3) (i := 3) (q := 3) (pc' := 43) (by decide +kernel) rfl rfl ?_
        refine sd_aload_n (k := 0) (i := 0) (q := 0) (pc' := 44) (by decide +kernel) rfl rfl ?_
        refine sF_gr (idx := 21) (ci := 11) (k := 1) (n := 17) (r := 6) (pc' := 47) (by decide +kernel) fl_X11_21 (by decide +kernel) rfl SH_0 (by decide) (by decide +kernel) ?_
        refine sF_gi (idx := 153) (ci := 2) (k := 1) (n := 3) (pc' := 50) (by decide +kernel) fl_X11_153 (by decide +kernel) rfl SH_6 ?_
        obtain ⟨t13, q12, hf⟩ := b1_some hf
        refine sF_callV (idx := 300) (b := 56) (As := [.int a0, .int a1, .int a2, .int (h11.1 6 1)]) (ci := 10) (nn := 6) (pc' := 53) 4 (T_XY_lastTurn (G := G) (h := h11)  q12) (by decide +kernel) mv_XY_lastTurn ml_X11_300 (by decide +kernel) rfl rfl (Nat.le_of_ble_eq_true rfl) SH_56 rfl (by decide) rfl rfl ?_
        obtain rfl := Option.some.inj hf
        exact sd_iret (by decide +kernel) rfl (hE _)
      · replace hf := ite_p c9 hf
        refine sd_bipush (n := -2) (v := (-2)) (pc' := 28) (by decide +kernel) (by decide) ?_
        obtain rfl := Option.some.inj hf
        exact sd_iret (by decide +kernel) rfl (hE _)

theorem fl_X7_9 : sd_fl RX7 9 7 1 := ⟨sd_mem (i := 366) (by decide +kernel), by decide, by decide⟩
def M_XU_treatAsTheyAre : sd_MX := (yX7_treatAsTheyAre, cX7_treatAsTheyAre, 2, none, { frames := 1, cells := 0, slots := 0, locals := 40 })
def XU_treatAsTheyAre_L2 : Nat → sd_H → Int32 → Option sd_H
  | 0, _, _ => none
  | n + 1, h, l1 =>
  (if 6 ≤ l1 then some h else gd (sd_inB l1 6) (hb (wI h 101 (l1 : Int32).toNatClampNeg 1) (fun h3 => XU_treatAsTheyAre_L2 n h3 (l1 + 1))))
set_option maxHeartbeats 4000000 in
set_option maxRecDepth 100000 in
theorem J_XU_treatAsTheyAre_L2 {G : sd_GX} {X : sd_CX} (hE : ∀ g : sd_H, sd_end G X M_XU_treatAsTheyAre (sd_F g))  {r : sd_H} : ∀ (n : Nat) (h : sd_H) (l1 : Int32), XU_treatAsTheyAre_L2 n h l1 = some r → sd_J G X (sd_QR G X M_XU_treatAsTheyAre (none, sd_F r)) M_XU_treatAsTheyAre 2 [(0, .ref (G.1 + 100)), (1, .int l1)] [] (sd_F h) := by
  intro n
  induction n with
  | zero =>
    intro h l1 hf
    rw [XU_treatAsTheyAre_L2] at hf
    cases hf
  | succ n ih =>
    intro h l1 hf
    rw [XU_treatAsTheyAre_L2] at hf
    refine sd_iload_n (k := 1) (i := 1) (q := 1) (pc' := 3) (by decide +kernel) rfl rfl ?_
    refine sd_bipush (n := 6) (v := 6) (pc' := 5) (by decide +kernel) (by decide) ?_
    refine sd_icmp_ge (off := 16) (tgt := 21) (pc' := 8) (by decide +kernel) (fun c1 => ?_) (fun c1 => ?_)
    · replace hf := ite_p c1 hf
      obtain rfl := Option.some.inj hf
      exact sd_vret (by decide +kernel) rfl (hE _)
    · replace hf := ite_n c1 hf
      refine sd_aload_n (k := 0) (i := 0) (q := 0) (pc' := 9) (by decide +kernel) rfl rfl ?_
      refine sF_gr (idx := 9) (ci := 7) (k := 1) (n := 11) (r := 101) (pc' := 12) (by decide +kernel) fl_X7_9 (by decide +kernel) rfl SH_100 (by decide) (by decide +kernel) ?_
      refine sd_iload_n (k := 1) (i := 1) (q := 1) (pc' := 13) (by decide +kernel) rfl rfl ?_
      refine sd_iconst (n := 1) (v := 1) (pc' := 14) (by decide +kernel) (by decide) ?_
      obtain ⟨g2, hf⟩ := gd_some hf
      obtain ⟨h3, e4, hf⟩ := hb_some hf
      refine sF_iast (n := 6) (pc' := 15) (by decide +kernel) SH_101 g2 ?_
      rw [← e4]; clear e4
      refine sd_iinc (i := 1) (q := 1) (n := 1) (v := (l1 + 1)) (pc' := 18) (lo' := [(1, .int (l1 + 1)), (0, .ref (G.1 + 100))]) (by decide +kernel) rfl rfl (by decide) rfl ?_
      refine sd_goto (off := -16) (tgt := 2) (pc' := 21) (by decide +kernel) ?_
      refine sd_J.sub (lo' := [(0, .ref (G.1 + 100)), (1, .int (l1 + 1))]) [1, 0] rfl ?_
      exact ih _ _ hf
def XU_treatAsTheyAre (h : sd_H) : Option sd_H :=
  XU_treatAsTheyAre_L2 FU h 0
set_option maxHeartbeats 4000000 in
set_option maxRecDepth 100000 in
theorem T_XU_treatAsTheyAre {G : sd_GX} {h : sd_H} {r : sd_H} (hf : XU_treatAsTheyAre h = some r) : sd_RunF G M_XU_treatAsTheyAre [.ref (G.1 + 100)] h none r := by
  refine sF_run ⟨rfl, rfl⟩ (by decide +kernel) (Nat.le_of_ble_eq_true rfl) (lo := [(0, .ref (G.1 + 100))]) rfl (fun X hE => ?_)
  unfold XU_treatAsTheyAre at hf
  refine sd_iconst (n := 0) (v := 0) (pc' := 1) (by decide +kernel) (by decide) ?_
  refine sd_istore_n (k := 1) (i := 1) (pc' := 2) (lo' := [(1, .int 0), (0, .ref (G.1 + 100))]) (by decide +kernel) rfl (by decide) rfl ?_
  refine sd_J.sub (lo' := [(0, .ref (G.1 + 100)), (1, .int 0)]) [1, 0] rfl ?_
  exact J_XU_treatAsTheyAre_L2 hE _ _ _ hf

def M_XR_forgetWriters : sd_MX := (yX6_forgetWriters, cX6_forgetWriters, 2, none, { frames := 1, cells := 0, slots := 0, locals := 40 })
def XR_forgetWriters_L2 : Nat → sd_H → Nat → Int32 → Option sd_H
  | 0, _, _, _ => none
  | n + 1, h, l0, l1 =>
  (if 144 ≤ l1 then some h else gd (sd_inB l1 144) (hb (wI h (l0 + 4) (l1 : Int32).toNatClampNeg (-1)) (fun h3 => XR_forgetWriters_L2 n h3 l0 (l1 + 1))))
set_option maxHeartbeats 4000000 in
set_option maxRecDepth 100000 in
theorem J_XR_forgetWriters_L2 {G : sd_GX} {X : sd_CX} (hE : ∀ g : sd_H, sd_end G X M_XR_forgetWriters (sd_F g))  {r : sd_H} : ∀ (n : Nat) (h : sd_H) (l0 : Nat) (l1 : Int32), sd_SH l0 = (6, 4) → XR_forgetWriters_L2 n h l0 l1 = some r → sd_J G X (sd_QR G X M_XR_forgetWriters (none, sd_F r)) M_XR_forgetWriters 2 [(0, .ref (G.1 + l0)), (1, .int l1)] [] (sd_F h) := by
  intro n
  induction n with
  | zero =>
    intro h l0 l1 p0 hf
    rw [XR_forgetWriters_L2] at hf
    cases hf
  | succ n ih =>
    intro h l0 l1 p0 hf
    rw [XR_forgetWriters_L2] at hf
    refine sd_iload_n (k := 1) (i := 1) (q := 1) (pc' := 3) (by decide +kernel) rfl rfl ?_
    refine sd_sipush (n := 144) (v := 144) (pc' := 6) (by decide +kernel) (by decide) ?_
    refine sd_icmp_ge (off := 16) (tgt := 22) (pc' := 9) (by decide +kernel) (fun c1 => ?_) (fun c1 => ?_)
    · replace hf := ite_p c1 hf
      obtain rfl := Option.some.inj hf
      exact sd_vret (by decide +kernel) rfl (hE _)
    · replace hf := ite_n c1 hf
      refine sd_aload_n (k := 0) (i := 0) (q := 0) (pc' := 10) (by decide +kernel) rfl rfl ?_
      refine sF_gr (idx := 22) (ci := 6) (k := 3) (n := 4) (r := (l0 + 4)) (pc' := 13) (by decide +kernel) fl_X6_22 (by decide +kernel) rfl p0 (by decide) (rt_6_3 p0) ?_
      refine sd_iload_n (k := 1) (i := 1) (q := 1) (pc' := 14) (by decide +kernel) rfl rfl ?_
      refine sd_iconst (n := -1) (v := (-1)) (pc' := 15) (by decide +kernel) (by decide) ?_
      obtain ⟨g2, hf⟩ := gd_some hf
      obtain ⟨h3, e4, hf⟩ := hb_some hf
      refine sF_iast (n := 144) (pc' := 16) (by decide +kernel) (sh_6_3 p0) g2 ?_
      rw [← e4]; clear e4
      refine sd_iinc (i := 1) (q := 1) (n := 1) (v := (l1 + 1)) (pc' := 19) (lo' := [(1, .int (l1 + 1)), (0, .ref (G.1 + l0))]) (by decide +kernel) rfl rfl (by decide) rfl ?_
      refine sd_goto (off := -17) (tgt := 2) (pc' := 22) (by decide +kernel) ?_
      refine sd_J.sub (lo' := [(0, .ref (G.1 + l0)), (1, .int (l1 + 1))]) [1, 0] rfl ?_
      exact ih _ _ _ p0 hf
def XR_forgetWriters (h : sd_H) (this : Nat) : Option sd_H :=
  XR_forgetWriters_L2 FU h this 0
set_option maxHeartbeats 4000000 in
set_option maxRecDepth 100000 in
theorem T_XR_forgetWriters {G : sd_GX} {h : sd_H} {this : Nat} {r : sd_H} (pt : sd_SH this = (6, 4)) (hf : XR_forgetWriters h this = some r) : sd_RunF G M_XR_forgetWriters [.ref (G.1 + this)] h none r := by
  refine sF_run ⟨rfl, rfl⟩ (by decide +kernel) (Nat.le_of_ble_eq_true rfl) (lo := [(0, .ref (G.1 + this))]) rfl (fun X hE => ?_)
  unfold XR_forgetWriters at hf
  refine sd_iconst (n := 0) (v := 0) (pc' := 1) (by decide +kernel) (by decide) ?_
  refine sd_istore_n (k := 1) (i := 1) (pc' := 2) (lo' := [(1, .int 0), (0, .ref (G.1 + this))]) (by decide +kernel) rfl (by decide) rfl ?_
  refine sd_J.sub (lo' := [(0, .ref (G.1 + this)), (1, .int 0)]) [1, 0] rfl ?_
  exact J_XR_forgetWriters_L2 hE _ _ _ _ pt hf

theorem fl_X4_18 : sd_fl RX4 18 4 3 := ⟨sd_mem (i := 412) (by decide +kernel), by decide, by decide⟩
theorem fl_X4_22 : sd_fl RX4 22 4 2 := ⟨sd_mem (i := 410) (by decide +kernel), by decide, by decide⟩
theorem fl_X4_9 : sd_fl RX4 9 4 0 := ⟨sd_mem (i := 405) (by decide +kernel), by decide, by decide⟩
def M_XO_begin : sd_MX := (yX4_begin, cX4_begin, 2, none, { frames := 1, cells := 0, slots := 0, locals := 40 })
def XO_begin_L12 : Nat → sd_H → Nat → Int32 → Option sd_H
  | 0, _, _, _ => none
  | n + 1, h, l0, l1 =>
  (if 3 ≤ l1 then some h else gd (sd_inB l1 3) (hb (wI h (l0 + 1) (l1 : Int32).toNatClampNeg 0) (fun h7 => XO_begin_L12 n h7 l0 (l1 + 1))))
set_option maxHeartbeats 4000000 in
set_option maxRecDepth 100000 in
theorem J_XO_begin_L12 {G : sd_GX} {X : sd_CX} (hE : ∀ g : sd_H, sd_end G X M_XO_begin (sd_F g))  {r : sd_H} : ∀ (n : Nat) (h : sd_H) (l0 : Nat) (l1 : Int32), sd_SH l0 = (4, 4) → XO_begin_L12 n h l0 l1 = some r → sd_J G X (sd_QR G X M_XO_begin (none, sd_F r)) M_XO_begin 12 [(0, .ref (G.1 + l0)), (1, .int l1)] [] (sd_F h) := by
  intro n
  induction n with
  | zero =>
    intro h l0 l1 p0 hf
    rw [XO_begin_L12] at hf
    cases hf
  | succ n ih =>
    intro h l0 l1 p0 hf
    rw [XO_begin_L12] at hf
    refine sd_iload_n (k := 1) (i := 1) (q := 1) (pc' := 13) (by decide +kernel) rfl rfl ?_
    refine sd_iconst (n := 3) (v := 3) (pc' := 14) (by decide +kernel) (by decide) ?_
    refine sd_icmp_ge (off := 16) (tgt := 30) (pc' := 17) (by decide +kernel) (fun c5 => ?_) (fun c5 => ?_)
    · replace hf := ite_p c5 hf
      obtain rfl := Option.some.inj hf
      exact sd_vret (by decide +kernel) rfl (hE _)
    · replace hf := ite_n c5 hf
      refine sd_aload_n (k := 0) (i := 0) (q := 0) (pc' := 18) (by decide +kernel) rfl rfl ?_
      refine sF_gr (idx := 9) (ci := 4) (k := 0) (n := 4) (r := (l0 + 1)) (pc' := 21) (by decide +kernel) fl_X4_9 (by decide +kernel) rfl p0 (by decide) (rt_4_0 p0) ?_
      refine sd_iload_n (k := 1) (i := 1) (q := 1) (pc' := 22) (by decide +kernel) rfl rfl ?_
      refine sd_iconst (n := 0) (v := 0) (pc' := 23) (by decide +kernel) (by decide) ?_
      obtain ⟨g6, hf⟩ := gd_some hf
      obtain ⟨h7, e8, hf⟩ := hb_some hf
      refine sF_iast (n := 3) (pc' := 24) (by decide +kernel) (sh_4_0 p0) g6 ?_
      rw [← e8]; clear e8
      refine sd_iinc (i := 1) (q := 1) (n := 1) (v := (l1 + 1)) (pc' := 27) (lo' := [(1, .int (l1 + 1)), (0, .ref (G.1 + l0))]) (by decide +kernel) rfl rfl (by decide) rfl ?_
      refine sd_goto (off := -15) (tgt := 12) (pc' := 30) (by decide +kernel) ?_
      refine sd_J.sub (lo' := [(0, .ref (G.1 + l0)), (1, .int (l1 + 1))]) [1, 0] rfl ?_
      exact ih _ _ _ p0 hf
def XO_begin (h : sd_H) (this : Nat) : Option sd_H :=
  hb (wI h this 3 0) (fun h1 => hb (wI h1 this 2 0) (fun h3 => XO_begin_L12 FU h3 this 0))
set_option maxHeartbeats 4000000 in
set_option maxRecDepth 100000 in
theorem T_XO_begin {G : sd_GX} {h : sd_H} {this : Nat} {r : sd_H} (pt : sd_SH this = (4, 4)) (hf : XO_begin h this = some r) : sd_RunF G M_XO_begin [.ref (G.1 + this)] h none r := by
  refine sF_run ⟨rfl, rfl⟩ (by decide +kernel) (Nat.le_of_ble_eq_true rfl) (lo := [(0, .ref (G.1 + this))]) rfl (fun X hE => ?_)
  unfold XO_begin at hf
  refine sd_aload_n (k := 0) (i := 0) (q := 0) (pc' := 1) (by decide +kernel) rfl rfl ?_
  refine sd_iconst (n := 0) (v := 0) (pc' := 2) (by decide +kernel) (by decide) ?_
  obtain ⟨h1, e2, hf⟩ := hb_some hf
  refine sF_pi (idx := 18) (ci := 4) (k := 3) (n := 4) (pc' := 5) (by decide +kernel) fl_X4_18 (by decide +kernel) rfl rfl rfl pt ?_
  rw [← e2]; clear e2
  refine sd_aload_n (k := 0) (i := 0) (q := 0) (pc' := 6) (by decide +kernel) rfl rfl ?_
  refine sd_iconst (n := 0) (v := 0) (pc' := 7) (by decide +kernel) (by decide) ?_
  obtain ⟨h3, e4, hf⟩ := hb_some hf
  refine sF_pi (idx := 22) (ci := 4) (k := 2) (n := 4) (pc' := 10) (by decide +kernel) fl_X4_22 (by decide +kernel) rfl rfl rfl pt ?_
  rw [← e4]; clear e4
  refine sd_iconst (n := 0) (v := 0) (pc' := 11) (by decide +kernel) (by decide) ?_
  refine sd_istore_n (k := 1) (i := 1) (pc' := 12) (lo' := [(1, .int 0), (0, .ref (G.1 + this))]) (by decide +kernel) rfl (by decide) rfl ?_
  refine sd_J.sub (lo' := [(0, .ref (G.1 + this)), (1, .int 0)]) [1, 0] rfl ?_
  exact J_XO_begin_L12 hE _ _ _ _ pt hf

theorem fl_X7_81 : sd_fl RX7 81 7 10 := ⟨sd_mem (i := 375) (by decide +kernel), by decide, by decide⟩
theorem fl_X7_35 : sd_fl RX7 35 7 0 := ⟨sd_mem (i := 365) (by decide +kernel), by decide, by decide⟩
theorem fl_X7_91 : sd_fl RX7 91 2 1 := ⟨sd_mem (i := 257) (by decide +kernel), by decide, by decide⟩
theorem fl_X7_31 : sd_fl RX7 31 7 9 := ⟨sd_mem (i := 374) (by decide +kernel), by decide, by decide⟩
def M_XU_workerOf : sd_MX := (yX7_workerOf, cX7_workerOf, 3, (some .int), { frames := 1, cells := 0, slots := 0, locals := 40 })
def XU_workerOf (h : sd_H) (a0 : Int32) : Option Int32 :=
  (if (h.1 100 10) = 1 then gd (nz (h.1 100 9)) ((if ((((h.1 6 1) + (h.1 100 9)) - 1) / (h.1 100 9)) = 0 then some 0 else gd (nz ((((h.1 6 1) + (h.1 100 9)) - 1) / (h.1 100 9))) (some (a0 / ((((h.1 6 1) + (h.1 100 9)) - 1) / (h.1 100 9)))))) else gd (nz (h.1 100 9)) (some (a0 - a0 / (h.1 100 9) * (h.1 100 9))))
set_option maxHeartbeats 4000000 in
set_option maxRecDepth 100000 in
theorem T_XU_workerOf {G : sd_GX} {h : sd_H} {a0 : Int32} {r : Int32} (hf : XU_workerOf h a0 = some r) : sd_RunF G M_XU_workerOf [.ref (G.1 + 100), .int a0] h (some (.int r)) h := by
  refine sF_run ⟨rfl, rfl⟩ (by decide +kernel) (Nat.le_of_ble_eq_true rfl) (lo := [(0, .ref (G.1 + 100)), (1, .int a0)]) rfl (fun X hE => ?_)
  unfold XU_workerOf at hf
  refine sd_aload_n (k := 0) (i := 0) (q := 0) (pc' := 1) (by decide +kernel) rfl rfl ?_
  refine sF_gi (idx := 81) (ci := 7) (k := 10) (n := 11) (pc' := 4) (by decide +kernel) fl_X7_81 (by decide +kernel) rfl SH_100 ?_
  refine sd_iconst (n := 1) (v := 1) (pc' := 5) (by decide +kernel) (by decide) ?_
  refine sd_icmp_eq (off := 10) (tgt := 15) (pc' := 8) (by decide +kernel) (fun c1 => ?_) (fun c1 => ?_)
  · replace hf := ite_p c1 hf
    refine sd_aload_n (k := 0) (i := 0) (q := 0) (pc' := 16) (by decide +kernel) rfl rfl ?_
    refine sF_gr (idx := 35) (ci := 7) (k := 0) (n := 11) (r := 6) (pc' := 19) (by decide +kernel) fl_X7_35 (by decide +kernel) rfl SH_100 (by decide) (by decide +kernel) ?_
    refine sF_gi (idx := 91) (ci := 2) (k := 1) (n := 3) (pc' := 22) (by decide +kernel) fl_X7_91 (by decide +kernel) rfl SH_6 ?_
    refine sd_aload_n (k := 0) (i := 0) (q := 0) (pc' := 23) (by decide +kernel) rfl rfl ?_
    refine sF_gi (idx := 31) (ci := 7) (k := 9) (n := 11) (pc' := 26) (by decide +kernel) fl_X7_31 (by decide +kernel) rfl SH_100 ?_
    refine sd_iadd (pc' := 27) (by decide +kernel) ?_
    refine sd_iconst (n := 1) (v := 1) (pc' := 28) (by decide +kernel) (by decide) ?_
    refine sd_isub (pc' := 29) (by decide +kernel) ?_
    refine sd_aload_n (k := 0) (i := 0) (q := 0) (pc' := 30) (by decide +kernel) rfl rfl ?_
    refine sF_gi (idx := 31) (ci := 7) (k := 9) (n := 11) (pc' := 33) (by decide +kernel) fl_X7_31 (by decide +kernel) rfl SH_100 ?_
    obtain ⟨g2, hf⟩ := gd_some hf
    refine sd_idiv (pc' := 34) (by decide +kernel) (nz_of g2) ?_
    refine sd_istore_n (k := 2) (i := 2) (pc' := 35) (lo' := [(2, .int ((((h.1 6 1) + (h.1 100 9)) - 1) / (h.1 100 9))), (0, .ref (G.1 + 100)), (1, .int a0)]) (by decide +kernel) rfl (by decide) rfl ?_
    refine sd_iload_n (k := 2) (i := 2) (q := 0) (pc' := 36) (by decide +kernel) rfl rfl ?_
    refine sd_if_ne (off := 7) (tgt := 43) (pc' := 39) (by decide +kernel) (fun c3 => ?_) (fun c3 => ?_)
    · replace hf := ite_n c3 hf
      refine sd_iload_n (k := 1) (i := 1) (q := 2) (pc' := 44) (by decide +kernel) rfl rfl ?_
      refine sd_iload_n (k := 2) (i := 2) (q := 0) (pc' := 45) (by decide +kernel) rfl rfl ?_
      obtain ⟨g4, hf⟩ := gd_some hf
      refine sd_idiv (pc' := 46) (by decide +kernel) (nz_of g4) ?_
      obtain rfl := Option.some.inj hf
      exact sd_iret (by decide +kernel) rfl (hE _)
    · replace hf := ite_p c3 hf
      refine sd_iconst (n := 0) (v := 0) (pc' := 40) (by decide +kernel) (by decide) ?_
      refine sd_goto (off := 6) (tgt := 46) (pc' := 43) (by decide +kernel) ?_
      obtain rfl := Option.some.inj hf
      exact sd_iret (by decide +kernel) rfl (hE _)
  · replace hf := ite_n c1 hf
    refine sd_iload_n (k := 1) (i := 1) (q := 1) (pc' := 9) (by decide +kernel) rfl rfl ?_
    refine sd_aload_n (k := 0) (i := 0) (q := 0) (pc' := 10) (by decide +kernel) rfl rfl ?_
    refine sF_gi (idx := 31) (ci := 7) (k := 9) (n := 11) (pc' := 13) (by decide +kernel) fl_X7_31 (by decide +kernel) rfl SH_100 ?_
    obtain ⟨g5, hf⟩ := gd_some hf
    refine sd_irem (pc' := 14) (by decide +kernel) (nz_of g5) ?_
    obtain rfl := Option.some.inj hf
    exact sd_iret (by decide +kernel) rfl (hE _)

theorem fl_X2_26 : sd_fl RX2 26 2 2 := ⟨sd_mem (i := 259) (by decide +kernel), by decide, by decide⟩
theorem fl_X2_12 : sd_fl RX2 12 2 0 := ⟨sd_mem (i := 248) (by decide +kernel), by decide, by decide⟩
def M_XL_nextDone : sd_MX := (yX2_nextDone, cX2_nextDone, 5, (some .int), { frames := 3, cells := 0, slots := 0, locals := 84 })
def XL_nextDone_L3 (h : sd_H) : Nat → Int32 → Nat → Int32 → Option Int32
  | 0, _, _, _ => none
  | n + 1, l1, l3, l4 =>
  (if (h.1 6 2) ≤ l4 then some (-1) else gd (sd_inB l4 5) (b1 (XA_isDone h (8 + 5 * (l4 : Int32).toNatClampNeg) l1 l3) (fun t4 => (if t4 = 0 then XL_nextDone_L3 h n l1 l3 (l4 + 1) else some l4))))
set_option maxHeartbeats 4000000 in
set_option maxRecDepth 100000 in
theorem J_XL_nextDone_L3 {G : sd_GX} {X : sd_CX} (hE : ∀ g : sd_H, sd_end G X M_XL_nextDone (sd_F g)) {h : sd_H} {r : Int32} : ∀ (n : Nat) (l1 : Int32) (l3 : Nat) (l4 : Int32), sd_SH l3 = (6, 4) → XL_nextDone_L3 h n l1 l3 l4 = some r → sd_J G X (sd_QR G X M_XL_nextDone (some (.int r), sd_F h)) M_XL_nextDone 3 [(0, .ref (G.1 + 6)), (1, .int l1), (3, .ref (G.1 + l3)), (4, .int l4)] [] (sd_F h) := by
  intro n
  induction n with
  | zero =>
    intro l1 l3 l4 p3 hf
    rw [XL_nextDone_L3] at hf
    cases hf
  | succ n ih =>
    intro l1 l3 l4 p3 hf
    rw [XL_nextDone_L3] at hf
    refine sd_iload (i := 4) (q := 3) (pc' := 5) (by decide +kernel) rfl ?_
    refine sd_aload_n (k := 0) (i := 0) (q := 0) (pc' := 6) (by decide +kernel) rfl rfl ?_
    refine sF_gi (idx := 26) (ci := 2) (k := 2) (n := 3) (pc' := 9) (by decide +kernel) fl_X2_26 (by decide +kernel) rfl SH_6 ?_
    refine sd_icmp_ge (off := 27) (tgt := 36) (pc' := 12) (by decide +kernel) (fun c1 => ?_) (fun c1 => ?_)
    · replace hf := ite_p c1 hf
      refine sd_iconst (n := -1) (v := (-1)) (pc' := 37) (by decide +kernel) (by decide) ?_
      obtain rfl := Option.some.inj hf
      exact sd_iret (by decide +kernel) rfl (hE _)
    · replace hf := ite_n c1 hf
      refine sd_aload_n (k := 0) (i := 0) (q := 0) (pc' := 13) (by decide +kernel) rfl rfl ?_
      refine sF_gr (idx := 12) (ci := 2) (k := 0) (n := 3) (r := 7) (pc' := 16) (by decide +kernel) fl_X2_12 (by decide +kernel) rfl SH_6 (by decide) (by decide +kernel) ?_
      refine sd_iload (i := 4) (q := 3) (pc' := 18) (by decide +kernel) rfl ?_
      obtain ⟨g2, hf⟩ := gd_some hf
      refine sF_aald (n := 5) (r := (8 + 5 * (l4 : Int32).toNatClampNeg)) (pc' := 19) (by decide +kernel) SH_7 (by decide) g2 (rta_7 (inB_lt g2)) ?_
      refine sd_iload_n (k := 1) (i := 1) (q := 1) (pc' := 20) (by decide +kernel) rfl rfl ?_
      refine sd_aload_n (k := 3) (i := 3) (q := 2) (pc' := 21) (by decide +kernel) rfl rfl ?_
      obtain ⟨t4, q3, hf⟩ := b1_some hf
      refine sF_callV (idx := 22) (b := (8 + 5 * (l4 : Int32).toNatClampNeg)) (As := [.int l1, .ref (G.1 + l3)]) (ci := 9) (nn := 6) (pc' := 24) 2 (T_XA_isDone (G := G) (h := h) (sha_7 (inB_lt g2)) p3 q3) (by decide +kernel) mv_XA_isDone ml_X2_22 (by decide +kernel) rfl rfl (Nat.le_of_ble_eq_true rfl) (sha_7 (inB_lt g2)) rfl (by decide) rfl rfl ?_
      refine sd_if_eq (off := 6) (tgt := 30) (pc' := 27) (by decide +kernel) (fun c5 => ?_) (fun c5 => ?_)
      · replace hf := ite_p c5 hf
        refine sd_iinc (i := 4) (q := 3) (n := 1) (v := (l4 + 1)) (pc' := 33) (lo' := [(4, .int (l4 + 1)), (0, .ref (G.1 + 6)), (1, .int l1), (3, .ref (G.1 + l3))]) (by decide +kernel) rfl rfl (by decide) rfl ?_
        refine sd_goto (off := -30) (tgt := 3) (pc' := 36) (by decide +kernel) ?_
        refine sd_J.sub (lo' := [(0, .ref (G.1 + 6)), (1, .int l1), (3, .ref (G.1 + l3)), (4, .int (l4 + 1))]) [1, 2, 3, 0] rfl ?_
        exact ih _ _ _ p3 hf
      · replace hf := ite_n c5 hf
        refine sd_iload (i := 4) (q := 3) (pc' := 29) (by decide +kernel) rfl ?_
        obtain rfl := Option.some.inj hf
        exact sd_iret (by decide +kernel) rfl (hE _)
def XL_nextDone (h : sd_H) (a0 : Int32) (a1 : Int32) (a2 : Nat) : Option Int32 :=
  XL_nextDone_L3 h FU a0 a2 a1
set_option maxHeartbeats 4000000 in
set_option maxRecDepth 100000 in
theorem T_XL_nextDone {G : sd_GX} {h : sd_H} {a0 : Int32} {a1 : Int32} {a2 : Nat} {r : Int32} (pa2 : sd_SH a2 = (6, 4)) (hf : XL_nextDone h a0 a1 a2 = some r) : sd_RunF G M_XL_nextDone [.ref (G.1 + 6), .int a0, .int a1, .ref (G.1 + a2)] h (some (.int r)) h := by
  refine sF_run ⟨rfl, rfl⟩ (by decide +kernel) (Nat.le_of_ble_eq_true rfl) (lo := [(0, .ref (G.1 + 6)), (1, .int a0), (2, .int a1), (3, .ref (G.1 + a2))]) rfl (fun X hE => ?_)
  unfold XL_nextDone at hf
  refine sd_iload_n (k := 2) (i := 2) (q := 2) (pc' := 1) (by decide +kernel) rfl rfl ?_
  refine sd_istore (i := 4) (pc' := 3) (lo' := [(4, .int a1), (0, .ref (G.1 + 6)), (1, .int a0), (2, .int a1), (3, .ref (G.1 + a2))]) (by decide +kernel) (by decide) rfl ?_
  refine sd_J.sub (lo' := [(0, .ref (G.1 + 6)), (1, .int a0), (3, .ref (G.1 + a2)), (4, .int a1)]) [1, 2, 4, 0] rfl ?_
  exact J_XL_nextDone_L3 hE _ _ _ _ pa2 hf

theorem fl_X7_22 : sd_fl RX7 22 7 4 := ⟨sd_mem (i := 369) (by decide +kernel), by decide, by decide⟩
theorem ml_X7_100 : Cond.methodLink RX7 100 yX7_workerOf ∈ sd_tb := sd_mem (i := 953) (by decide +kernel)
theorem mv_XU_workerOf : sd_mV M_XU_workerOf 1 := ⟨sd_mem (i := 955) (by decide +kernel), sd_mem (i := 20) (by decide +kernel), ⟨sd_mem (i := 956) (by decide +kernel), sd_mem (i := 117) (by decide +kernel), by decide +kernel, by decide +kernel, by decide +kernel⟩⟩
theorem fl_X7_25 : sd_fl RX7 25 7 5 := ⟨sd_mem (i := 370) (by decide +kernel), by decide, by decide⟩
theorem fl_X7_28 : sd_fl RX7 28 7 6 := ⟨sd_mem (i := 371) (by decide +kernel), by decide, by decide⟩
theorem fl_X7_76 : sd_fl RX7 76 7 7 := ⟨sd_mem (i := 372) (by decide +kernel), by decide, by decide⟩
theorem ml_X7_103 : Cond.methodLink RX7 103 yX2_nextDone ∈ sd_tb := sd_mem (i := 957) (by decide +kernel)
theorem mv_XL_nextDone : sd_mV M_XL_nextDone 3 := ⟨sd_mem (i := 958) (by decide +kernel), sd_mem (i := 959) (by decide +kernel), ⟨sd_mem (i := 960) (by decide +kernel), sd_mem (i := 110) (by decide +kernel), by decide +kernel, by decide +kernel, by decide +kernel⟩⟩
def M_XU_enter : sd_MX := (yX7_enter, cX7_enter, 6, none, { frames := 4, cells := 0, slots := 0, locals := 108 })
def XU_enter_B69 (h : sd_H) (K24 : sd_H → Int32 → Int32 → Int32 → Option sd_H) (l1 : Int32) (l3 : Int32) (l4 : Int32) (s0 : Int32) : Option sd_H :=
  (if s0 = (-1) then K24 h l1 l3 (l4 + l3) else gd (sd_inB l1 4) (hb (wI h 104 (l1 : Int32).toNatClampNeg l4) (fun h12 => gd (sd_inB l1 4) (hb (wI h12 105 (l1 : Int32).toNatClampNeg s0) (fun h15 => gd (sd_inB l1 4) (hb (wI h15 106 (l1 : Int32).toNatClampNeg 0) (fun h18 => some h18)))))))
set_option maxHeartbeats 4000000 in
set_option maxRecDepth 100000 in
theorem J_XU_enter_B69 {G : sd_GX} {X : sd_CX} (hE : ∀ g : sd_H, sd_end G X M_XU_enter (sd_F g)) {h : sd_H} {K24 : sd_H → Int32 → Int32 → Int32 → Option sd_H} {r : sd_H} (hK24 : ∀ (g : sd_H) (l1 : Int32) (l3 : Int32) (l4 : Int32), K24 g l1 l3 l4 = some r → sd_J G X (sd_QR G X M_XU_enter (none, sd_F r)) M_XU_enter 24 [(0, .ref (G.1 + 100)), (1, .int l1), (3, .int l3), (4, .int l4)] [] (sd_F g)) {l1 : Int32} {l3 : Int32} {l4 : Int32} {s0 : Int32} (hf : XU_enter_B69 h K24 l1 l3 l4 s0 = some r) : sd_J G X (sd_QR G X M_XU_enter (none, sd_F r)) M_XU_enter 69 [(0, .ref (G.1 + 100)), (1, .int l1), (3, .int l3), (4, .int l4)] [.int s0] (sd_F h) := by
  unfold XU_enter_B69 at hf
  refine sd_istore (i := 5) (pc' := 71) (lo' := [(5, .int s0), (0, .ref (G.1 + 100)), (1, .int l1), (3, .int l3), (4, .int l4)]) (by decide +kernel) (by decide) rfl ?_
  refine sd_iload (i := 5) (q := 0) (pc' := 73) (by decide +kernel) rfl ?_
  refine sd_iconst (n := -1) (v := (-1)) (pc' := 74) (by decide +kernel) (by decide) ?_
  refine sd_icmp_eq (off := 27) (tgt := 101) (pc' := 77) (by decide +kernel) (fun c10 => ?_) (fun c10 => ?_)
  · replace hf := ite_p c10 hf
    refine sd_iload (i := 4) (q := 4) (pc' := 103) (by decide +kernel) rfl ?_
    refine sd_iload_n (k := 3) (i := 3) (q := 3) (pc' := 104) (by decide +kernel) rfl rfl ?_
    refine sd_iadd (pc' := 105) (by decide +kernel) ?_
    refine sd_istore (i := 4) (pc' := 107) (lo' := [(4, .int (l4 + l3)), (5, .int s0), (0, .ref (G.1 + 100)), (1, .int l1), (3, .int l3)]) (by decide +kernel) (by decide) rfl ?_
    refine sd_goto (off := -83) (tgt := 24) (pc' := 110) (by decide +kernel) ?_
    refine sd_J.sub (lo' := [(0, .ref (G.1 + 100)), (1, .int l1), (3, .int l3), (4, .int (l4 + l3))]) [2, 3, 4, 0] rfl ?_
    exact hK24 _ _ _ _ hf
  · replace hf := ite_n c10 hf
    refine sd_aload_n (k := 0) (i := 0) (q := 1) (pc' := 78) (by decide +kernel) rfl rfl ?_
    refine sF_gr (idx := 22) (ci := 7) (k := 4) (n := 11) (r := 104) (pc' := 81) (by decide +kernel) fl_X7_22 (by decide +kernel) rfl SH_100 (by decide) (by decide +kernel) ?_
    refine sd_iload_n (k := 1) (i := 1) (q := 2) (pc' := 82) (by decide +kernel) rfl rfl ?_
    refine sd_iload (i := 4) (q := 4) (pc' := 84) (by decide +kernel) rfl ?_
    obtain ⟨g11, hf⟩ := gd_some hf
    obtain ⟨h12, e13, hf⟩ := hb_some hf
    refine sF_iast (n := 4) (pc' := 85) (by decide +kernel) SH_104 g11 ?_
    rw [← e13]; clear e13
    refine sd_aload_n (k := 0) (i := 0) (q := 1) (pc' := 86) (by decide +kernel) rfl rfl ?_
    refine sF_gr (idx := 25) (ci := 7) (k := 5) (n := 11) (r := 105) (pc' := 89) (by decide +kernel) fl_X7_25 (by decide +kernel) rfl SH_100 (by decide) (by decide +kernel) ?_
    refine sd_iload_n (k := 1) (i := 1) (q := 2) (pc' := 90) (by decide +kernel) rfl rfl ?_
    refine sd_iload (i := 5) (q := 0) (pc' := 92) (by decide +kernel) rfl ?_
    obtain ⟨g14, hf⟩ := gd_some hf
    obtain ⟨h15, e16, hf⟩ := hb_some hf
    refine sF_iast (n := 4) (pc' := 93) (by decide +kernel) SH_105 g14 ?_
    rw [← e16]; clear e16
    refine sd_aload_n (k := 0) (i := 0) (q := 1) (pc' := 94) (by decide +kernel) rfl rfl ?_
    refine sF_gr (idx := 28) (ci := 7) (k := 6) (n := 11) (r := 106) (pc' := 97) (by decide +kernel) fl_X7_28 (by decide +kernel) rfl SH_100 (by decide) (by decide +kernel) ?_
    refine sd_iload_n (k := 1) (i := 1) (q := 2) (pc' := 98) (by decide +kernel) rfl rfl ?_
    refine sd_iconst (n := 0) (v := 0) (pc' := 99) (by decide +kernel) (by decide) ?_
    obtain ⟨g17, hf⟩ := gd_some hf
    obtain ⟨h18, e19, hf⟩ := hb_some hf
    refine sF_iast (n := 4) (pc' := 100) (by decide +kernel) SH_106 g17 ?_
    rw [← e19]; clear e19
    obtain rfl := Option.some.inj hf
    exact sd_vret (by decide +kernel) rfl (hE _)
def XU_enter_L24 : Nat → sd_H → Int32 → Int32 → Int32 → Option sd_H
  | 0, _, _, _, _ => none
  | n + 1, h, l1, l3, l4 =>
  (if l4 < 0 then some h else (if (h.1 6 1) ≤ l4 then some h else b1 (XU_workerOf h l4) (fun t8 => (if t8 = l1 then op (h.2.2 0) 6 4 (fun w20 => b1 (XL_nextDone h l4 0 w20) (fun t24 => XU_enter_B69 h (XU_enter_L24 n) l1 l3 l4 t24)) else XU_enter_B69 h (XU_enter_L24 n) l1 l3 l4 (-1)))))
set_option maxHeartbeats 4000000 in
set_option maxRecDepth 100000 in
theorem J_XU_enter_L24 {G : sd_GX} {X : sd_CX} (hE : ∀ g : sd_H, sd_end G X M_XU_enter (sd_F g))  {r : sd_H} : ∀ (n : Nat) (h : sd_H) (l1 : Int32) (l3 : Int32) (l4 : Int32), XU_enter_L24 n h l1 l3 l4 = some r → sd_J G X (sd_QR G X M_XU_enter (none, sd_F r)) M_XU_enter 24 [(0, .ref (G.1 + 100)), (1, .int l1), (3, .int l3), (4, .int l4)] [] (sd_F h) := by
  intro n
  induction n with
  | zero =>
    intro h l1 l3 l4 hf
    rw [XU_enter_L24] at hf
    cases hf
  | succ n ih =>
    intro h l1 l3 l4 hf
    rw [XU_enter_L24] at hf
    refine sd_iload (i := 4) (q := 3) (pc' := 26) (by decide +kernel) rfl ?_
    refine sd_if_lt (off := 84) (tgt := 110) (pc' := 29) (by decide +kernel) (fun c5 => ?_) (fun c5 => ?_)
    · replace hf := ite_p c5 hf
      obtain rfl := Option.some.inj hf
      exact sd_vret (by decide +kernel) rfl (hE _)
    · replace hf := ite_n c5 hf
      refine sd_iload (i := 4) (q := 3) (pc' := 31) (by decide +kernel) rfl ?_
      refine sd_aload_n (k := 0) (i := 0) (q := 0) (pc' := 32) (by decide +kernel) rfl rfl ?_
      refine sF_gr (idx := 35) (ci := 7) (k := 0) (n := 11) (r := 6) (pc' := 35) (by decide +kernel) fl_X7_35 (by decide +kernel) rfl SH_100 (by decide) (by decide +kernel) ?_
      refine sF_gi (idx := 91) (ci := 2) (k := 1) (n := 3) (pc' := 38) (by decide +kernel) fl_X7_91 (by decide +kernel) rfl SH_6 ?_
      refine sd_icmp_ge (off := 72) (tgt := 110) (pc' := 41) (by decide +kernel) (fun c6 => ?_) (fun c6 => ?_)
      · replace hf := ite_p c6 hf
        obtain rfl := Option.some.inj hf
        exact sd_vret (by decide +kernel) rfl (hE _)
      · replace hf := ite_n c6 hf
        refine sd_aload_n (k := 0) (i := 0) (q := 0) (pc' := 42) (by decide +kernel) rfl rfl ?_
        refine sd_iload (i := 4) (q := 3) (pc' := 44) (by decide +kernel) rfl ?_
        obtain ⟨t8, q7, hf⟩ := b1_some hf
        refine sF_callV (idx := 100) (b := 100) (As := [.int l4]) (ci := 7) (nn := 11) (pc' := 47) 1 (T_XU_workerOf (G := G) (h := h)  q7) (by decide +kernel) mv_XU_workerOf ml_X7_100 (by decide +kernel) rfl rfl (Nat.le_of_ble_eq_true rfl) SH_100 rfl (by decide) rfl rfl ?_
        refine sd_iload_n (k := 1) (i := 1) (q := 1) (pc' := 48) (by decide +kernel) rfl rfl ?_
        refine sd_icmp_ne (off := 20) (tgt := 68) (pc' := 51) (by decide +kernel) (fun c9 => ?_) (fun c9 => ?_)
        · replace hf := ite_n c9 hf
          refine sd_iconst (n := -1) (v := (-1)) (pc' := 69) (by decide +kernel) (by decide) ?_
          refine sd_J.sub (lo' := [(0, .ref (G.1 + 100)), (1, .int l1), (3, .int l3), (4, .int l4)]) [0, 1, 2, 3] rfl ?_
          exact J_XU_enter_B69 hE ih hf
        · replace hf := ite_p c9 hf
          refine sd_aload_n (k := 0) (i := 0) (q := 0) (pc' := 52) (by decide +kernel) rfl rfl ?_
          refine sF_gr (idx := 35) (ci := 7) (k := 0) (n := 11) (r := 6) (pc' := 55) (by decide +kernel) fl_X7_35 (by decide +kernel) rfl SH_100 (by decide) (by decide +kernel) ?_
          refine sd_iload (i := 4) (q := 3) (pc' := 57) (by decide +kernel) rfl ?_
          refine sd_iconst (n := 0) (v := 0) (pc' := 58) (by decide +kernel) (by decide) ?_
          refine sd_aload_n (k := 0) (i := 0) (q := 0) (pc' := 59) (by decide +kernel) rfl rfl ?_
          obtain ⟨w20, e21, pw22, hf⟩ := op_some hf
          refine sF_gm (idx := 76) (k := 7) (w := 0) (r := w20) (pc' := 62) (by decide +kernel) fl_X7_76 (by decide) e21 ?_
          obtain ⟨t24, q23, hf⟩ := b1_some hf
          refine sF_callV (idx := 103) (b := 6) (As := [.int l4, .int 0, .ref (G.1 + w20)]) (ci := 2) (nn := 3) (pc' := 65) 3 (T_XL_nextDone (G := G) (h := h) pw22 q23) (by decide +kernel) mv_XL_nextDone ml_X7_103 (by decide +kernel) rfl rfl (Nat.le_of_ble_eq_true rfl) SH_6 rfl (by decide) rfl rfl ?_
          refine sd_goto (off := 4) (tgt := 69) (pc' := 68) (by decide +kernel) ?_
          refine sd_J.sub (lo' := [(0, .ref (G.1 + 100)), (1, .int l1), (3, .int l3), (4, .int l4)]) [0, 1, 2, 3] rfl ?_
          exact J_XU_enter_B69 hE ih hf
def XU_enter_B13 (h : sd_H) (l1 : Int32) (l2 : Int32) (s0 : Int32) : Option sd_H :=
  gd (sd_inB l1 4) (hb (wI h 104 (l1 : Int32).toNatClampNeg (-1)) (fun h3 => XU_enter_L24 FU h3 l1 s0 l2))
set_option maxHeartbeats 4000000 in
set_option maxRecDepth 100000 in
theorem J_XU_enter_B13 {G : sd_GX} {X : sd_CX} (hE : ∀ g : sd_H, sd_end G X M_XU_enter (sd_F g)) {h : sd_H} {r : sd_H} {l1 : Int32} {l2 : Int32} {s0 : Int32} (hf : XU_enter_B13 h l1 l2 s0 = some r) : sd_J G X (sd_QR G X M_XU_enter (none, sd_F r)) M_XU_enter 13 [(0, .ref (G.1 + 100)), (1, .int l1), (2, .int l2)] [.int s0] (sd_F h) := by
  unfold XU_enter_B13 at hf
  refine sd_istore_n (k := 3) (i := 3) (pc' := 14) (lo' := [(3, .int s0), (0, .ref (G.1 + 100)), (1, .int l1), (2, .int l2)]) (by decide +kernel) rfl (by decide) rfl ?_
  refine sd_aload_n (k := 0) (i := 0) (q := 1) (pc' := 15) (by decide +kernel) rfl rfl ?_
  refine sF_gr (idx := 22) (ci := 7) (k := 4) (n := 11) (r := 104) (pc' := 18) (by decide +kernel) fl_X7_22 (by decide +kernel) rfl SH_100 (by decide) (by decide +kernel) ?_
  refine sd_iload_n (k := 1) (i := 1) (q := 2) (pc' := 19) (by decide +kernel) rfl rfl ?_
  refine sd_iconst (n := -1) (v := (-1)) (pc' := 20) (by decide +kernel) (by decide) ?_
  obtain ⟨g2, hf⟩ := gd_some hf
  obtain ⟨h3, e4, hf⟩ := hb_some hf
  refine sF_iast (n := 4) (pc' := 21) (by decide +kernel) SH_104 g2 ?_
  rw [← e4]; clear e4
  refine sd_iload_n (k := 2) (i := 2) (q := 3) (pc' := 22) (by decide +kernel) rfl rfl ?_
  refine sd_istore (i := 4) (pc' := 24) (lo' := [(4, .int l2), (3, .int s0), (0, .ref (G.1 + 100)), (1, .int l1), (2, .int l2)]) (by decide +kernel) (by decide) rfl ?_
  refine sd_J.sub (lo' := [(0, .ref (G.1 + 100)), (1, .int l1), (3, .int s0), (4, .int l2)]) [2, 3, 1, 0] rfl ?_
  exact J_XU_enter_L24 hE _ _ _ _ _ hf
def XU_enter (h : sd_H) (a0 : Int32) (a1 : Int32) : Option sd_H :=
  (if (h.1 100 10) = 2 then XU_enter_B13 h a0 a1 (-1) else XU_enter_B13 h a0 a1 1)
set_option maxHeartbeats 4000000 in
set_option maxRecDepth 100000 in
theorem T_XU_enter {G : sd_GX} {h : sd_H} {a0 : Int32} {a1 : Int32} {r : sd_H} (hf : XU_enter h a0 a1 = some r) : sd_RunF G M_XU_enter [.ref (G.1 + 100), .int a0, .int a1] h none r := by
  refine sF_run ⟨rfl, rfl⟩ (by decide +kernel) (Nat.le_of_ble_eq_true rfl) (lo := [(0, .ref (G.1 + 100)), (1, .int a0), (2, .int a1)]) rfl (fun X hE => ?_)
  unfold XU_enter at hf
  refine sd_aload_n (k := 0) (i := 0) (q := 0) (pc' := 1) (by decide +kernel) rfl rfl ?_
  refine sF_gi (idx := 81) (ci := 7) (k := 10) (n := 11) (pc' := 4) (by decide +kernel) fl_X7_81 (by decide +kernel) rfl SH_100 ?_
  refine sd_iconst (n := 2) (v := 2) (pc' := 5) (by decide +kernel) (by decide) ?_
  refine sd_icmp_ne (off := 7) (tgt := 12) (pc' := 8) (by decide +kernel) (fun c1 => ?_) (fun c1 => ?_)
  · replace hf := ite_n c1 hf
    refine sd_iconst (n := 1) (v := 1) (pc' := 13) (by decide +kernel) (by decide) ?_
    refine sd_J.sub (lo' := [(0, .ref (G.1 + 100)), (1, .int a0), (2, .int a1)]) [0, 1, 2] rfl ?_
    exact J_XU_enter_B13 hE hf
  · replace hf := ite_p c1 hf
    refine sd_iconst (n := -1) (v := (-1)) (pc' := 9) (by decide +kernel) (by decide) ?_
    refine sd_goto (off := 4) (tgt := 13) (pc' := 12) (by decide +kernel) ?_
    refine sd_J.sub (lo' := [(0, .ref (G.1 + 100)), (1, .int a0), (2, .int a1)]) [0, 1, 2] rfl ?_
    exact J_XU_enter_B13 hE hf

theorem fl_X7_77 : sd_fl RX7 77 7 8 := ⟨sd_mem (i := 373) (by decide +kernel), by decide, by decide⟩
theorem ml_X7_84 : Cond.methodLink RX7 84 yX6_forgetWriters ∈ sd_tb := sd_mem (i := 941) (by decide +kernel)
theorem mv_XR_forgetWriters : sd_mV M_XR_forgetWriters 0 := ⟨sd_mem (i := 942) (by decide +kernel), sd_mem (i := 943) (by decide +kernel), ⟨sd_mem (i := 944) (by decide +kernel), sd_mem (i := 109) (by decide +kernel), by decide +kernel, by decide +kernel, by decide +kernel⟩⟩
theorem ml_X7_87 : Cond.methodLink RX7 87 yX4_begin ∈ sd_tb := sd_mem (i := 945) (by decide +kernel)
theorem mv_XO_begin : sd_mV M_XO_begin 0 := ⟨sd_mem (i := 946) (by decide +kernel), sd_mem (i := 947) (by decide +kernel), ⟨sd_mem (i := 948) (by decide +kernel), sd_mem (i := 118) (by decide +kernel), by decide +kernel, by decide +kernel, by decide +kernel⟩⟩
theorem ml_X7_96 : Cond.methodLink RX7 96 yX7_enter ∈ sd_tb := sd_mem (i := 949) (by decide +kernel)
theorem mv_XU_enter : sd_mV M_XU_enter 2 := ⟨sd_mem (i := 951) (by decide +kernel), sd_mem (i := 19) (by decide +kernel), ⟨sd_mem (i := 952) (by decide +kernel), sd_mem (i := 117) (by decide +kernel), by decide +kernel, by decide +kernel, by decide +kernel⟩⟩
theorem fl_X7_19 : sd_fl RX7 19 7 3 := ⟨sd_mem (i := 368) (by decide +kernel), by decide, by decide⟩
def M_XU_begin : sd_MX := (yX7_begin, cX7_begin, 6, none, { frames := 5, cells := 0, slots := 0, locals := 133 })
def XU_begin_B95 (h : sd_H) (K62 : sd_H → Int32 → Option sd_H) (l5 : Int32) (s0 : Int32) (s1 : Int32) : Option sd_H :=
  b1 (XU_enter h s1 s0) (fun h23 => K62 h23 (l5 + 1))
set_option maxHeartbeats 4000000 in
set_option maxRecDepth 100000 in
theorem J_XU_begin_B95 {G : sd_GX} {X : sd_CX} (hE : ∀ g : sd_H, sd_end G X M_XU_begin (sd_F g)) {h : sd_H} {K62 : sd_H → Int32 → Option sd_H} {r : sd_H} (hK62 : ∀ (g : sd_H) (l5 : Int32), K62 g l5 = some r → sd_J G X (sd_QR G X M_XU_begin (none, sd_F r)) M_XU_begin 62 [(0, .ref (G.1 + 100)), (5, .int l5)] [] (sd_F g)) {l5 : Int32} {s0 : Int32} {s1 : Int32} (hf : XU_begin_B95 h K62 l5 s0 s1 = some r) : sd_J G X (sd_QR G X M_XU_begin (none, sd_F r)) M_XU_begin 95 [(0, .ref (G.1 + 100)), (5, .int l5)] [.int s0, .int s1, .ref (G.1 + 100)] (sd_F h) := by
  unfold XU_begin_B95 at hf
  obtain ⟨h23, q22, hf⟩ := b1_some hf
  refine sF_callV0 (idx := 96) (b := 100) (As := [.int s1, .int s0]) (ci := 7) (nn := 11) (pc' := 98) 2 (T_XU_enter (G := G) (h := h)  q22) (by decide +kernel) mv_XU_enter ml_X7_96 (by decide +kernel) rfl rfl (Nat.le_of_ble_eq_true rfl) SH_100 rfl (by decide) rfl rfl ?_
  refine sd_iinc (i := 5) (q := 1) (n := 1) (v := (l5 + 1)) (pc' := 101) (lo' := [(5, .int (l5 + 1)), (0, .ref (G.1 + 100))]) (by decide +kernel) rfl rfl (by decide) rfl ?_
  refine sd_goto (off := -39) (tgt := 62) (pc' := 104) (by decide +kernel) ?_
  refine sd_J.sub (lo' := [(0, .ref (G.1 + 100)), (5, .int (l5 + 1))]) [1, 0] rfl ?_
  exact hK62 _ _ hf
def XU_begin_L62 : Nat → sd_H → Int32 → Option sd_H
  | 0, _, _ => none
  | n + 1, h, l5 =>
  (if (h.1 100 9) ≤ l5 then some h else (if (h.1 100 10) = 2 then XU_begin_B95 h (XU_begin_L62 n) l5 ((h.1 6 1) - 1) l5 else XU_begin_B95 h (XU_begin_L62 n) l5 0 l5))
set_option maxHeartbeats 4000000 in
set_option maxRecDepth 100000 in
theorem J_XU_begin_L62 {G : sd_GX} {X : sd_CX} (hE : ∀ g : sd_H, sd_end G X M_XU_begin (sd_F g))  {r : sd_H} : ∀ (n : Nat) (h : sd_H) (l5 : Int32), XU_begin_L62 n h l5 = some r → sd_J G X (sd_QR G X M_XU_begin (none, sd_F r)) M_XU_begin 62 [(0, .ref (G.1 + 100)), (5, .int l5)] [] (sd_F h) := by
  intro n
  induction n with
  | zero =>
    intro h l5 hf
    rw [XU_begin_L62] at hf
    cases hf
  | succ n ih =>
    intro h l5 hf
    rw [XU_begin_L62] at hf
    refine sd_iload (i := 5) (q := 1) (pc' := 64) (by decide +kernel) rfl ?_
    refine sd_aload_n (k := 0) (i := 0) (q := 0) (pc' := 65) (by decide +kernel) rfl rfl ?_
    refine sF_gi (idx := 31) (ci := 7) (k := 9) (n := 11) (pc' := 68) (by decide +kernel) fl_X7_31 (by decide +kernel) rfl SH_100 ?_
    refine sd_icmp_ge (off := 36) (tgt := 104) (pc' := 71) (by decide +kernel) (fun c20 => ?_) (fun c20 => ?_)
    · replace hf := ite_p c20 hf
      obtain rfl := Option.some.inj hf
      exact sd_vret (by decide +kernel) rfl (hE _)
    · replace hf := ite_n c20 hf
      refine sd_aload_n (k := 0) (i := 0) (q := 0) (pc' := 72) (by decide +kernel) rfl rfl ?_
      refine sd_iload (i := 5) (q := 1) (pc' := 74) (by decide +kernel) rfl ?_
      refine sd_aload_n (k := 0) (i := 0) (q := 0) (pc' := 75) (by decide +kernel) rfl rfl ?_
      refine sF_gi (idx := 81) (ci := 7) (k := 10) (n := 11) (pc' := 78) (by decide +kernel) fl_X7_81 (by decide +kernel) rfl SH_100 ?_
      refine sd_iconst (n := 2) (v := 2) (pc' := 79) (by decide +kernel) (by decide) ?_
      refine sd_icmp_ne (off := 15) (tgt := 94) (pc' := 82) (by decide +kernel) (fun c21 => ?_) (fun c21 => ?_)
      · replace hf := ite_n c21 hf
        refine sd_iconst (n := 0) (v := 0) (pc' := 95) (by decide +kernel) (by decide) ?_
        refine sd_J.sub (lo' := [(0, .ref (G.1 + 100)), (5, .int l5)]) [0, 1] rfl ?_
        exact J_XU_begin_B95 hE ih hf
      · replace hf := ite_p c21 hf
        refine sd_aload_n (k := 0) (i := 0) (q := 0) (pc' := 83) (by decide +kernel) rfl rfl ?_
        refine sF_gr (idx := 35) (ci := 7) (k := 0) (n := 11) (r := 6) (pc' := 86) (by decide +kernel) fl_X7_35 (by decide +kernel) rfl SH_100 (by decide) (by decide +kernel) ?_
        refine sF_gi (idx := 91) (ci := 2) (k := 1) (n := 3) (pc' := 89) (by decide +kernel) fl_X7_91 (by decide +kernel) rfl SH_6 ?_
        refine sd_iconst (n := 1) (v := 1) (pc' := 90) (by decide +kernel) (by decide) ?_
        refine sd_isub (pc' := 91) (by decide +kernel) ?_
        refine sd_goto (off := 4) (tgt := 95) (pc' := 94) (by decide +kernel) ?_
        refine sd_J.sub (lo' := [(0, .ref (G.1 + 100)), (5, .int l5)]) [0, 1] rfl ?_
        exact J_XU_begin_B95 hE ih hf
def XU_begin_L38 : Nat → sd_H → Int32 → Option sd_H
  | 0, _, _ => none
  | n + 1, h, l5 =>
  (if 60 ≤ l5 then XU_begin_L62 FU h 0 else gd (sd_inB l5 60) (hb (wI h 103 (l5 : Int32).toNatClampNeg 0) (fun h25 => XU_begin_L38 n h25 (l5 + 1))))
set_option maxHeartbeats 4000000 in
set_option maxRecDepth 100000 in
theorem J_XU_begin_L38 {G : sd_GX} {X : sd_CX} (hE : ∀ g : sd_H, sd_end G X M_XU_begin (sd_F g))  {r : sd_H} : ∀ (n : Nat) (h : sd_H) (l5 : Int32), XU_begin_L38 n h l5 = some r → sd_J G X (sd_QR G X M_XU_begin (none, sd_F r)) M_XU_begin 38 [(0, .ref (G.1 + 100)), (5, .int l5)] [] (sd_F h) := by
  intro n
  induction n with
  | zero =>
    intro h l5 hf
    rw [XU_begin_L38] at hf
    cases hf
  | succ n ih =>
    intro h l5 hf
    rw [XU_begin_L38] at hf
    refine sd_iload (i := 5) (q := 1) (pc' := 40) (by decide +kernel) rfl ?_
    refine sd_bipush (n := 60) (v := 60) (pc' := 42) (by decide +kernel) (by decide) ?_
    refine sd_icmp_ge (off := 17) (tgt := 59) (pc' := 45) (by decide +kernel) (fun c19 => ?_) (fun c19 => ?_)
    · replace hf := ite_p c19 hf
      refine sd_iconst (n := 0) (v := 0) (pc' := 60) (by decide +kernel) (by decide) ?_
      refine sd_istore (i := 5) (pc' := 62) (lo' := [(5, .int 0), (0, .ref (G.1 + 100))]) (by decide +kernel) (by decide) rfl ?_
      refine sd_J.sub (lo' := [(0, .ref (G.1 + 100)), (5, .int 0)]) [1, 0] rfl ?_
      exact J_XU_begin_L62 hE _ _ _ hf
    · replace hf := ite_n c19 hf
      refine sd_aload_n (k := 0) (i := 0) (q := 0) (pc' := 46) (by decide +kernel) rfl rfl ?_
      refine sF_gr (idx := 19) (ci := 7) (k := 3) (n := 11) (r := 103) (pc' := 49) (by decide +kernel) fl_X7_19 (by decide +kernel) rfl SH_100 (by decide) (by decide +kernel) ?_
      refine sd_iload (i := 5) (q := 1) (pc' := 51) (by decide +kernel) rfl ?_
      refine sd_iconst (n := 0) (v := 0) (pc' := 52) (by decide +kernel) (by decide) ?_
      obtain ⟨g24, hf⟩ := gd_some hf
      obtain ⟨h25, e26, hf⟩ := hb_some hf
      refine sF_iast (n := 60) (pc' := 53) (by decide +kernel) SH_103 g24 ?_
      rw [← e26]; clear e26
      refine sd_iinc (i := 5) (q := 1) (n := 1) (v := (l5 + 1)) (pc' := 56) (lo' := [(5, .int (l5 + 1)), (0, .ref (G.1 + 100))]) (by decide +kernel) rfl rfl (by decide) rfl ?_
      refine sd_goto (off := -18) (tgt := 38) (pc' := 59) (by decide +kernel) ?_
      refine sd_J.sub (lo' := [(0, .ref (G.1 + 100)), (5, .int (l5 + 1))]) [1, 0] rfl ?_
      exact ih _ _ hf
def XU_begin (h : sd_H) (a0 : Nat) (a1 : Nat) (a2 : Int32) (a3 : Int32) : Option sd_H :=
  hb (wP h 0 (some a0)) (fun h1 => hb (wP h1 1 (some a1)) (fun h3 => hb (wI h3 100 9 a2) (fun h5 => hb (wI h5 100 10 a3) (fun h7 => op (h7.2.2 0) 6 4 (fun w9 => b1 (XR_forgetWriters h7 w9) (fun h13 => op (h13.2.2 1) 4 4 (fun w14 => b1 (XO_begin h13 w14) (fun h18 => XU_begin_L38 FU h18 0))))))))
set_option maxHeartbeats 4000000 in
set_option maxRecDepth 100000 in
theorem T_XU_begin {G : sd_GX} {h : sd_H} {a0 : Nat} {a1 : Nat} {a2 : Int32} {a3 : Int32} {r : sd_H} (pa0 : sd_SH a0 = (6, 4)) (pa1 : sd_SH a1 = (4, 4)) (hf : XU_begin h a0 a1 a2 a3 = some r) : sd_RunF G M_XU_begin [.ref (G.1 + 100), .ref (G.1 + a0), .ref (G.1 + a1), .int a2, .int a3] h none r := by
  refine sF_run ⟨rfl, rfl⟩ (by decide +kernel) (Nat.le_of_ble_eq_true rfl) (lo := [(0, .ref (G.1 + 100)), (1, .ref (G.1 + a0)), (2, .ref (G.1 + a1)), (3, .int a2), (4, .int a3)]) rfl (fun X hE => ?_)
  unfold XU_begin at hf
  refine sd_aload_n (k := 0) (i := 0) (q := 0) (pc' := 1) (by decide +kernel) rfl rfl ?_
  refine sd_aload_n (k := 1) (i := 1) (q := 1) (pc' := 2) (by decide +kernel) rfl rfl ?_
  obtain ⟨h1, e2, hf⟩ := hb_some hf
  refine sF_pm (idx := 76) (k := 7) (w := 0) (r := a0) (pc' := 5) (by decide +kernel) fl_X7_76 (by decide) rfl (fun _ => rfl) (fun _ => rfl) rfl ?_
  rw [← e2]; clear e2
  refine sd_aload_n (k := 0) (i := 0) (q := 0) (pc' := 6) (by decide +kernel) rfl rfl ?_
  refine sd_aload_n (k := 2) (i := 2) (q := 2) (pc' := 7) (by decide +kernel) rfl rfl ?_
  obtain ⟨h3, e4, hf⟩ := hb_some hf
  refine sF_pm (idx := 77) (k := 8) (w := 1) (r := a1) (pc' := 10) (by decide +kernel) fl_X7_77 (by decide) rfl (fun _ => rfl) (fun _ => rfl) rfl ?_
  rw [← e4]; clear e4
  refine sd_aload_n (k := 0) (i := 0) (q := 0) (pc' := 11) (by decide +kernel) rfl rfl ?_
  refine sd_iload_n (k := 3) (i := 3) (q := 3) (pc' := 12) (by decide +kernel) rfl rfl ?_
  obtain ⟨h5, e6, hf⟩ := hb_some hf
  refine sF_pi (idx := 31) (ci := 7) (k := 9) (n := 11) (pc' := 15) (by decide +kernel) fl_X7_31 (by decide +kernel) rfl rfl rfl SH_100 ?_
  rw [← e6]; clear e6
  refine sd_aload_n (k := 0) (i := 0) (q := 0) (pc' := 16) (by decide +kernel) rfl rfl ?_
  refine sd_iload (i := 4) (q := 4) (pc' := 18) (by decide +kernel) rfl ?_
  obtain ⟨h7, e8, hf⟩ := hb_some hf
  refine sF_pi (idx := 81) (ci := 7) (k := 10) (n := 11) (pc' := 21) (by decide +kernel) fl_X7_81 (by decide +kernel) rfl rfl rfl SH_100 ?_
  rw [← e8]; clear e8
  refine sd_aload_n (k := 0) (i := 0) (q := 0) (pc' := 22) (by decide +kernel) rfl rfl ?_
  obtain ⟨w9, e10, pw11, hf⟩ := op_some hf
  refine sF_gm (idx := 76) (k := 7) (w := 0) (r := w9) (pc' := 25) (by decide +kernel) fl_X7_76 (by decide) e10 ?_
  obtain ⟨h13, q12, hf⟩ := b1_some hf
  refine sF_callV0 (idx := 84) (b := w9) (As := []) (ci := 6) (nn := 4) (pc' := 28) 0 (T_XR_forgetWriters (G := G) (h := h7) pw11 q12) (by decide +kernel) mv_XR_forgetWriters ml_X7_84 (by decide +kernel) rfl rfl (Nat.le_of_ble_eq_true rfl) pw11 rfl (by decide) rfl rfl ?_
  refine sd_aload_n (k := 0) (i := 0) (q := 0) (pc' := 29) (by decide +kernel) rfl rfl ?_
  obtain ⟨w14, e15, pw16, hf⟩ := op_some hf
  refine sF_gm (idx := 77) (k := 8) (w := 1) (r := w14) (pc' := 32) (by decide +kernel) fl_X7_77 (by decide) e15 ?_
  obtain ⟨h18, q17, hf⟩ := b1_some hf
  refine sF_callV0 (idx := 87) (b := w14) (As := []) (ci := 4) (nn := 4) (pc' := 35) 0 (T_XO_begin (G := G) (h := h13) pw16 q17) (by decide +kernel) mv_XO_begin ml_X7_87 (by decide +kernel) rfl rfl (Nat.le_of_ble_eq_true rfl) pw16 rfl (by decide) rfl rfl ?_
  refine sd_iconst (n := 0) (v := 0) (pc' := 36) (by decide +kernel) (by decide) ?_
  refine sd_istore (i := 5) (pc' := 38) (lo' := [(5, .int 0), (0, .ref (G.1 + 100)), (1, .ref (G.1 + a0)), (2, .ref (G.1 + a1)), (3, .int a2), (4, .int a3)]) (by decide +kernel) (by decide) rfl ?_
  refine sd_J.sub (lo' := [(0, .ref (G.1 + 100)), (5, .int 0)]) [1, 0] rfl ?_
  exact J_XU_begin_L38 hE _ _ _ hf

def M_XU_busyWorkers : sd_MX := (yX7_busyWorkers, cX7_busyWorkers, 3, (some .int), { frames := 1, cells := 0, slots := 0, locals := 40 })
def XU_busyWorkers_B25 (h : sd_H) (K4 : Int32 → Int32 → Option Int32) (l1 : Int32) (l2 : Int32) : Option Int32 :=
  K4 l1 (l2 + 1)
set_option maxHeartbeats 4000000 in
set_option maxRecDepth 100000 in
theorem J_XU_busyWorkers_B25 {G : sd_GX} {X : sd_CX} (hE : ∀ g : sd_H, sd_end G X M_XU_busyWorkers (sd_F g)) {h : sd_H} {K4 : Int32 → Int32 → Option Int32} {r : Int32} (hK4 : ∀ (l1 : Int32) (l2 : Int32), K4 l1 l2 = some r → sd_J G X (sd_QR G X M_XU_busyWorkers (some (.int r), sd_F h)) M_XU_busyWorkers 4 [(0, .ref (G.1 + 100)), (1, .int l1), (2, .int l2)] [] (sd_F h)) {l1 : Int32} {l2 : Int32} (hf : XU_busyWorkers_B25 h K4 l1 l2 = some r) : sd_J G X (sd_QR G X M_XU_busyWorkers (some (.int r), sd_F h)) M_XU_busyWorkers 25 [(0, .ref (G.1 + 100)), (1, .int l1), (2, .int l2)] [] (sd_F h) := by
  unfold XU_busyWorkers_B25 at hf
  refine sd_iinc (i := 2) (q := 2) (n := 1) (v := (l2 + 1)) (pc' := 28) (lo' := [(2, .int (l2 + 1)), (0, .ref (G.1 + 100)), (1, .int l1)]) (by decide +kernel) rfl rfl (by decide) rfl ?_
  refine sd_goto (off := -24) (tgt := 4) (pc' := 31) (by decide +kernel) ?_
  refine sd_J.sub (lo' := [(0, .ref (G.1 + 100)), (1, .int l1), (2, .int (l2 + 1))]) [1, 2, 0] rfl ?_
  exact hK4 _ _ hf
def XU_busyWorkers_L4 (h : sd_H) : Nat → Int32 → Int32 → Option Int32
  | 0, _, _ => none
  | n + 1, l1, l2 =>
  (if (h.1 100 9) ≤ l2 then some l1 else gd (sd_inB l2 4) ((if (h.1 104 (l2 : Int32).toNatClampNeg) = (-1) then XU_busyWorkers_B25 h (XU_busyWorkers_L4 h n) l1 l2 else XU_busyWorkers_B25 h (XU_busyWorkers_L4 h n) (l1 + 1) l2)))
set_option maxHeartbeats 4000000 in
set_option maxRecDepth 100000 in
theorem J_XU_busyWorkers_L4 {G : sd_GX} {X : sd_CX} (hE : ∀ g : sd_H, sd_end G X M_XU_busyWorkers (sd_F g)) {h : sd_H} {r : Int32} : ∀ (n : Nat) (l1 : Int32) (l2 : Int32), XU_busyWorkers_L4 h n l1 l2 = some r → sd_J G X (sd_QR G X M_XU_busyWorkers (some (.int r), sd_F h)) M_XU_busyWorkers 4 [(0, .ref (G.1 + 100)), (1, .int l1), (2, .int l2)] [] (sd_F h) := by
  intro n
  induction n with
  | zero =>
    intro l1 l2 hf
    rw [XU_busyWorkers_L4] at hf
    cases hf
  | succ n ih =>
    intro l1 l2 hf
    rw [XU_busyWorkers_L4] at hf
    refine sd_iload_n (k := 2) (i := 2) (q := 2) (pc' := 5) (by decide +kernel) rfl rfl ?_
    refine sd_aload_n (k := 0) (i := 0) (q := 0) (pc' := 6) (by decide +kernel) rfl rfl ?_
    refine sF_gi (idx := 31) (ci := 7) (k := 9) (n := 11) (pc' := 9) (by decide +kernel) fl_X7_31 (by decide +kernel) rfl SH_100 ?_
    refine sd_icmp_ge (off := 22) (tgt := 31) (pc' := 12) (by decide +kernel) (fun c1 => ?_) (fun c1 => ?_)
    · replace hf := ite_p c1 hf
      refine sd_iload_n (k := 1) (i := 1) (q := 1) (pc' := 32) (by decide +kernel) rfl rfl ?_
      obtain rfl := Option.some.inj hf
      exact sd_iret (by decide +kernel) rfl (hE _)
    · replace hf := ite_n c1 hf
      refine sd_aload_n (k := 0) (i := 0) (q := 0) (pc' := 13) (by decide +kernel) rfl rfl ?_
      refine sF_gr (idx := 22) (ci := 7) (k := 4) (n := 11) (r := 104) (pc' := 16) (by decide +kernel) fl_X7_22 (by decide +kernel) rfl SH_100 (by decide) (by decide +kernel) ?_
      refine sd_iload_n (k := 2) (i := 2) (q := 2) (pc' := 17) (by decide +kernel) rfl rfl ?_
      obtain ⟨g2, hf⟩ := gd_some hf
      refine sF_iald (n := 4) (pc' := 18) (by decide +kernel) SH_104 g2 ?_
      refine sd_iconst (n := -1) (v := (-1)) (pc' := 19) (by decide +kernel) (by decide) ?_
      refine sd_icmp_eq (off := 6) (tgt := 25) (pc' := 22) (by decide +kernel) (fun c3 => ?_) (fun c3 => ?_)
      · replace hf := ite_p c3 hf
        refine sd_J.sub (lo' := [(0, .ref (G.1 + 100)), (1, .int l1), (2, .int l2)]) [0, 1, 2] rfl ?_
        exact J_XU_busyWorkers_B25 hE ih hf
      · replace hf := ite_n c3 hf
        refine sd_iinc (i := 1) (q := 1) (n := 1) (v := (l1 + 1)) (pc' := 25) (lo' := [(1, .int (l1 + 1)), (0, .ref (G.1 + 100)), (2, .int l2)]) (by decide +kernel) rfl rfl (by decide) rfl ?_
        refine sd_J.sub (lo' := [(0, .ref (G.1 + 100)), (1, .int (l1 + 1)), (2, .int l2)]) [1, 0, 2] rfl ?_
        exact J_XU_busyWorkers_B25 hE ih hf
def XU_busyWorkers (h : sd_H) : Option Int32 :=
  XU_busyWorkers_L4 h FU 0 0
set_option maxHeartbeats 4000000 in
set_option maxRecDepth 100000 in
theorem T_XU_busyWorkers {G : sd_GX} {h : sd_H} {r : Int32} (hf : XU_busyWorkers h = some r) : sd_RunF G M_XU_busyWorkers [.ref (G.1 + 100)] h (some (.int r)) h := by
  refine sF_run ⟨rfl, rfl⟩ (by decide +kernel) (Nat.le_of_ble_eq_true rfl) (lo := [(0, .ref (G.1 + 100))]) rfl (fun X hE => ?_)
  unfold XU_busyWorkers at hf
  refine sd_iconst (n := 0) (v := 0) (pc' := 1) (by decide +kernel) (by decide) ?_
  refine sd_istore_n (k := 1) (i := 1) (pc' := 2) (lo' := [(1, .int 0), (0, .ref (G.1 + 100))]) (by decide +kernel) rfl (by decide) rfl ?_
  refine sd_iconst (n := 0) (v := 0) (pc' := 3) (by decide +kernel) (by decide) ?_
  refine sd_istore_n (k := 2) (i := 2) (pc' := 4) (lo' := [(2, .int 0), (1, .int 0), (0, .ref (G.1 + 100))]) (by decide +kernel) rfl (by decide) rfl ?_
  refine sd_J.sub (lo' := [(0, .ref (G.1 + 100)), (1, .int 0), (2, .int 0)]) [2, 1, 0] rfl ?_
  exact J_XU_busyWorkers_L4 hE _ _ _ hf

def M_XU_busyWorker : sd_MX := (yX7_busyWorker, cX7_busyWorker, 4, (some .int), { frames := 1, cells := 0, slots := 0, locals := 40 })
def XU_busyWorker_B31 (h : sd_H) (K4 : Int32 → Int32 → Option Int32) (l2 : Int32) (l3 : Int32) : Option Int32 :=
  K4 l2 (l3 + 1)
set_option maxHeartbeats 4000000 in
set_option maxRecDepth 100000 in
theorem J_XU_busyWorker_B31 {G : sd_GX} {X : sd_CX} (hE : ∀ g : sd_H, sd_end G X M_XU_busyWorker (sd_F g)) {h : sd_H} {K4 : Int32 → Int32 → Option Int32} {r : Int32} (hK4 : ∀ (l2 : Int32) (l3 : Int32), K4 l2 l3 = some r → sd_J G X (sd_QR G X M_XU_busyWorker (some (.int r), sd_F h)) M_XU_busyWorker 4 [(0, .ref (G.1 + 100)), (2, .int l2), (3, .int l3)] [] (sd_F h)) {l2 : Int32} {l3 : Int32} (hf : XU_busyWorker_B31 h K4 l2 l3 = some r) : sd_J G X (sd_QR G X M_XU_busyWorker (some (.int r), sd_F h)) M_XU_busyWorker 31 [(0, .ref (G.1 + 100)), (2, .int l2), (3, .int l3)] [] (sd_F h) := by
  unfold XU_busyWorker_B31 at hf
  refine sd_iinc (i := 3) (q := 2) (n := 1) (v := (l3 + 1)) (pc' := 34) (lo' := [(3, .int (l3 + 1)), (0, .ref (G.1 + 100)), (2, .int l2)]) (by decide +kernel) rfl rfl (by decide) rfl ?_
  refine sd_goto (off := -30) (tgt := 4) (pc' := 37) (by decide +kernel) ?_
  refine sd_J.sub (lo' := [(0, .ref (G.1 + 100)), (2, .int l2), (3, .int (l3 + 1))]) [1, 2, 0] rfl ?_
  exact hK4 _ _ hf
def XU_busyWorker_L4 (h : sd_H) : Nat → Int32 → Int32 → Option Int32
  | 0, _, _ => none
  | n + 1, l2, l3 =>
  (if (h.1 100 9) ≤ l3 then some 0 else gd (sd_inB l3 4) ((if (h.1 104 (l3 : Int32).toNatClampNeg) = (-1) then XU_busyWorker_B31 h (XU_busyWorker_L4 h n) l2 l3 else (if l2 = 0 then some l3 else XU_busyWorker_B31 h (XU_busyWorker_L4 h n) (l2 + (-1)) l3))))
set_option maxHeartbeats 4000000 in
set_option maxRecDepth 100000 in
theorem J_XU_busyWorker_L4 {G : sd_GX} {X : sd_CX} (hE : ∀ g : sd_H, sd_end G X M_XU_busyWorker (sd_F g)) {h : sd_H} {r : Int32} : ∀ (n : Nat) (l2 : Int32) (l3 : Int32), XU_busyWorker_L4 h n l2 l3 = some r → sd_J G X (sd_QR G X M_XU_busyWorker (some (.int r), sd_F h)) M_XU_busyWorker 4 [(0, .ref (G.1 + 100)), (2, .int l2), (3, .int l3)] [] (sd_F h) := by
  intro n
  induction n with
  | zero =>
    intro l2 l3 hf
    rw [XU_busyWorker_L4] at hf
    cases hf
  | succ n ih =>
    intro l2 l3 hf
    rw [XU_busyWorker_L4] at hf
    refine sd_iload_n (k := 3) (i := 3) (q := 2) (pc' := 5) (by decide +kernel) rfl rfl ?_
    refine sd_aload_n (k := 0) (i := 0) (q := 0) (pc' := 6) (by decide +kernel) rfl rfl ?_
    refine sF_gi (idx := 31) (ci := 7) (k := 9) (n := 11) (pc' := 9) (by decide +kernel) fl_X7_31 (by decide +kernel) rfl SH_100 ?_
    refine sd_icmp_ge (off := 28) (tgt := 37) (pc' := 12) (by decide +kernel) (fun c1 => ?_) (fun c1 => ?_)
    · replace hf := ite_p c1 hf
      refine sd_iconst (n := 0) (v := 0) (pc' := 38) (by decide +kernel) (by decide) ?_
      obtain rfl := Option.some.inj hf
      exact sd_iret (by decide +kernel) rfl (hE _)
    · replace hf := ite_n c1 hf
      refine sd_aload_n (k := 0) (i := 0) (q := 0) (pc' := 13) (by decide +kernel) rfl rfl ?_
      refine sF_gr (idx := 22) (ci := 7) (k := 4) (n := 11) (r := 104) (pc' := 16) (by decide +kernel) fl_X7_22 (by decide +kernel) rfl SH_100 (by decide) (by decide +kernel) ?_
      refine sd_iload_n (k := 3) (i := 3) (q := 2) (pc' := 17) (by decide +kernel) rfl rfl ?_
      obtain ⟨g2, hf⟩ := gd_some hf
      refine sF_iald (n := 4) (pc' := 18) (by decide +kernel) SH_104 g2 ?_
      refine sd_iconst (n := -1) (v := (-1)) (pc' := 19) (by decide +kernel) (by decide) ?_
      refine sd_icmp_eq (off := 12) (tgt := 31) (pc' := 22) (by decide +kernel) (fun c3 => ?_) (fun c3 => ?_)
      · replace hf := ite_p c3 hf
        refine sd_J.sub (lo' := [(0, .ref (G.1 + 100)), (2, .int l2), (3, .int l3)]) [0, 1, 2] rfl ?_
        exact J_XU_busyWorker_B31 hE ih hf
      · replace hf := ite_n c3 hf
        refine sd_iload_n (k := 2) (i := 2) (q := 1) (pc' := 23) (by decide +kernel) rfl rfl ?_
        refine sd_iinc (i := 2) (q := 1) (n := -1) (v := (l2 + (-1))) (pc' := 26) (lo' := [(2, .int (l2 + (-1))), (0, .ref (G.1 + 100)), (3, .int l3)]) (by decide +kernel) rfl rfl (by decide) rfl ?_
        refine sd_if_ne (off := 5) (tgt := 31) (pc' := 29) (by decide +kernel) (fun c4 => ?_) (fun c4 => ?_)
        · replace hf := ite_n c4 hf
          refine sd_J.sub (lo' := [(0, .ref (G.1 + 100)), (2, .int (l2 + (-1))), (3, .int l3)]) [1, 0, 2] rfl ?_
          exact J_XU_busyWorker_B31 hE ih hf
        · replace hf := ite_p c4 hf
          refine sd_iload_n (k := 3) (i := 3) (q := 2) (pc' := 30) (by decide +kernel) rfl rfl ?_
          obtain rfl := Option.some.inj hf
          exact sd_iret (by decide +kernel) rfl (hE _)
def XU_busyWorker (h : sd_H) (a0 : Int32) : Option Int32 :=
  XU_busyWorker_L4 h FU a0 0
set_option maxHeartbeats 4000000 in
set_option maxRecDepth 100000 in
theorem T_XU_busyWorker {G : sd_GX} {h : sd_H} {a0 : Int32} {r : Int32} (hf : XU_busyWorker h a0 = some r) : sd_RunF G M_XU_busyWorker [.ref (G.1 + 100), .int a0] h (some (.int r)) h := by
  refine sF_run ⟨rfl, rfl⟩ (by decide +kernel) (Nat.le_of_ble_eq_true rfl) (lo := [(0, .ref (G.1 + 100)), (1, .int a0)]) rfl (fun X hE => ?_)
  unfold XU_busyWorker at hf
  refine sd_iload_n (k := 1) (i := 1) (q := 1) (pc' := 1) (by decide +kernel) rfl rfl ?_
  refine sd_istore_n (k := 2) (i := 2) (pc' := 2) (lo' := [(2, .int a0), (0, .ref (G.1 + 100)), (1, .int a0)]) (by decide +kernel) rfl (by decide) rfl ?_
  refine sd_iconst (n := 0) (v := 0) (pc' := 3) (by decide +kernel) (by decide) ?_
  refine sd_istore_n (k := 3) (i := 3) (pc' := 4) (lo' := [(3, .int 0), (2, .int a0), (0, .ref (G.1 + 100)), (1, .int a0)]) (by decide +kernel) rfl (by decide) rfl ?_
  refine sd_J.sub (lo' := [(0, .ref (G.1 + 100)), (2, .int a0), (3, .int 0)]) [2, 1, 0] rfl ?_
  exact J_XU_busyWorker_L4 hE _ _ _ hf
