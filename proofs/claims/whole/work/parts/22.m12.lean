def M_YM_serials : sd_MX := (yX12_serials, cX12_serials, 3, (some .int), { frames := 10, cells := 0, slots := 0, locals := 247 })
def YM_serials_B25 (h : sd_H) (K4 : sd_H → Int32 → Int32 → Option (sd_H × Int32)) (l2 : Int32) (s0 : Int32) (s1 : Int32) : Option (sd_H × Int32) :=
  K4 h (s1 + s0) (l2 + 1)
set_option maxHeartbeats 4000000 in
set_option maxRecDepth 100000 in
theorem J_YM_serials_B25 {G : sd_GX} {X : sd_CX} (hE : ∀ g : sd_H, sd_end G X M_YM_serials (sd_F g)) {h : sd_H} {K4 : sd_H → Int32 → Int32 → Option (sd_H × Int32)} {r : (sd_H × Int32)} (hK4 : ∀ (g : sd_H) (l1 : Int32) (l2 : Int32), K4 g l1 l2 = some r → sd_J G X (sd_QR G X M_YM_serials (some (.int r.2), sd_F r.1)) M_YM_serials 4 [(0, .ref (G.1 + 126)), (1, .int l1), (2, .int l2)] [] (sd_F g)) {l2 : Int32} {s0 : Int32} {s1 : Int32} (hf : YM_serials_B25 h K4 l2 s0 s1 = some r) : sd_J G X (sd_QR G X M_YM_serials (some (.int r.2), sd_F r.1)) M_YM_serials 25 [(0, .ref (G.1 + 126)), (2, .int l2)] [.int s0, .int s1] (sd_F h) := by
  unfold YM_serials_B25 at hf
  refine sd_iadd (pc' := 26) (by decide +kernel) ?_
  refine sd_istore_n (k := 1) (i := 1) (pc' := 27) (lo' := [(1, .int (s1 + s0)), (0, .ref (G.1 + 126)), (2, .int l2)]) (by decide +kernel) rfl (by decide) rfl ?_
  refine sd_iinc (i := 2) (q := 2) (n := 1) (v := (l2 + 1)) (pc' := 30) (lo' := [(2, .int (l2 + 1)), (1, .int (s1 + s0)), (0, .ref (G.1 + 126))]) (by decide +kernel) rfl rfl (by decide) rfl ?_
  refine sd_goto (off := -26) (tgt := 4) (pc' := 33) (by decide +kernel) ?_
  refine sd_J.sub (lo' := [(0, .ref (G.1 + 126)), (1, .int (s1 + s0)), (2, .int (l2 + 1))]) [2, 1, 0] rfl ?_
  exact hK4 _ _ _ hf
def YM_serials_L4 : Nat → sd_H → Int32 → Int32 → Option (sd_H × Int32)
  | 0, _, _, _ => none
  | n + 1, h, l1, l2 =>
  (if 6 ≤ l2 then some (h, l1) else b2 (YM_verdictOf h l2) (fun h3 t4 => (if t4 = 4 then YM_serials_B25 h3 (YM_serials_L4 n) l2 1 l1 else YM_serials_B25 h3 (YM_serials_L4 n) l2 0 l1)))
set_option maxHeartbeats 4000000 in
set_option maxRecDepth 100000 in
theorem J_YM_serials_L4 {G : sd_GX} {X : sd_CX} (hE : ∀ g : sd_H, sd_end G X M_YM_serials (sd_F g))  {r : (sd_H × Int32)} : ∀ (n : Nat) (h : sd_H) (l1 : Int32) (l2 : Int32), YM_serials_L4 n h l1 l2 = some r → sd_J G X (sd_QR G X M_YM_serials (some (.int r.2), sd_F r.1)) M_YM_serials 4 [(0, .ref (G.1 + 126)), (1, .int l1), (2, .int l2)] [] (sd_F h) := by
  intro n
  induction n with
  | zero =>
    intro h l1 l2 hf
    rw [YM_serials_L4] at hf
    cases hf
  | succ n ih =>
    intro h l1 l2 hf
    rw [YM_serials_L4] at hf
    refine sd_iload_n (k := 2) (i := 2) (q := 2) (pc' := 5) (by decide +kernel) rfl rfl ?_
    refine sd_bipush (n := 6) (v := 6) (pc' := 7) (by decide +kernel) (by decide) ?_
    refine sd_icmp_ge (off := 26) (tgt := 33) (pc' := 10) (by decide +kernel) (fun c1 => ?_) (fun c1 => ?_)
    · replace hf := ite_p c1 hf
      refine sd_iload_n (k := 1) (i := 1) (q := 1) (pc' := 34) (by decide +kernel) rfl rfl ?_
      obtain rfl := Option.some.inj hf
      exact sd_iret (by decide +kernel) rfl (hE _)
    · replace hf := ite_n c1 hf
      refine sd_iload_n (k := 1) (i := 1) (q := 1) (pc' := 11) (by decide +kernel) rfl rfl ?_
      refine sd_aload_n (k := 0) (i := 0) (q := 0) (pc' := 12) (by decide +kernel) rfl rfl ?_
      refine sd_iload_n (k := 2) (i := 2) (q := 2) (pc' := 13) (by decide +kernel) rfl rfl ?_
      obtain ⟨h3, t4, q2, hf⟩ := b2_some hf
      refine sF_callV (idx := 313) (b := 126) (As := [.int l2]) (ci := 12) (nn := 47) (pc' := 16) 1 (T_YM_verdictOf (G := G) (h := h)  q2) (by decide +kernel) mv_YM_verdictOf ml_X12_313 (by decide +kernel) rfl rfl (Nat.le_of_ble_eq_true rfl) SH_126 rfl (by decide) rfl rfl ?_
      refine sd_iconst (n := 4) (v := 4) (pc' := 17) (by decide +kernel) (by decide) ?_
      refine sd_icmp_ne (off := 7) (tgt := 24) (pc' := 20) (by decide +kernel) (fun c5 => ?_) (fun c5 => ?_)
      · replace hf := ite_n c5 hf
        refine sd_iconst (n := 0) (v := 0) (pc' := 25) (by decide +kernel) (by decide) ?_
        refine sd_J.sub (lo' := [(0, .ref (G.1 + 126)), (2, .int l2)]) [0, 2] rfl ?_
        exact J_YM_serials_B25 hE ih hf
      · replace hf := ite_p c5 hf
        refine sd_iconst (n := 1) (v := 1) (pc' := 21) (by decide +kernel) (by decide) ?_
        refine sd_goto (off := 4) (tgt := 25) (pc' := 24) (by decide +kernel) ?_
        refine sd_J.sub (lo' := [(0, .ref (G.1 + 126)), (2, .int l2)]) [0, 2] rfl ?_
        exact J_YM_serials_B25 hE ih hf
def YM_serials (h : sd_H) : Option (sd_H × Int32) :=
  YM_serials_L4 FU h 0 0
set_option maxHeartbeats 4000000 in
set_option maxRecDepth 100000 in
theorem T_YM_serials {G : sd_GX} {h : sd_H} {r : (sd_H × Int32)} (hf : YM_serials h = some r) : sd_RunF G M_YM_serials [.ref (G.1 + 126)] h (some (.int r.2)) r.1 := by
  refine sF_run ⟨rfl, rfl⟩ (by decide +kernel) (Nat.le_of_ble_eq_true rfl) (lo := [(0, .ref (G.1 + 126))]) rfl (fun X hE => ?_)
  unfold YM_serials at hf
  refine sd_iconst (n := 0) (v := 0) (pc' := 1) (by decide +kernel) (by decide) ?_
  refine sd_istore_n (k := 1) (i := 1) (pc' := 2) (lo' := [(1, .int 0), (0, .ref (G.1 + 126))]) (by decide +kernel) rfl (by decide) rfl ?_
  refine sd_iconst (n := 0) (v := 0) (pc' := 3) (by decide +kernel) (by decide) ?_
  refine sd_istore_n (k := 2) (i := 2) (pc' := 4) (lo' := [(2, .int 0), (1, .int 0), (0, .ref (G.1 + 126))]) (by decide +kernel) rfl (by decide) rfl ?_
  refine sd_J.sub (lo' := [(0, .ref (G.1 + 126)), (1, .int 0), (2, .int 0)]) [2, 1, 0] rfl ?_
  exact J_YM_serials_L4 hE _ _ _ _ hf

def M_YM_witnessOf : sd_MX := (yX12_witnessOf, cX12_witnessOf, 8, (some .int), { frames := 8, cells := 0, slots := 0, locals := 203 })
def YM_witnessOf_B77 (h : sd_H) (K46 : sd_H → Int32 → Int32 → Int32 → Int32 → Int32 → Int32 → Option (sd_H × Int32)) (l1 : Int32) (l2 : Int32) (l4 : Int32) (l5 : Int32) (l7 : Int32) (s0 : Int32) : Option (sd_H × Int32) :=
  K46 h l1 l2 l4 l5 s0 (l7 + 1)
set_option maxHeartbeats 4000000 in
set_option maxRecDepth 100000 in
theorem J_YM_witnessOf_B77 {G : sd_GX} {X : sd_CX} (hE : ∀ g : sd_H, sd_end G X M_YM_witnessOf (sd_F g)) {h : sd_H} {K46 : sd_H → Int32 → Int32 → Int32 → Int32 → Int32 → Int32 → Option (sd_H × Int32)} {r : (sd_H × Int32)} (hK46 : ∀ (g : sd_H) (l1 : Int32) (l2 : Int32) (l4 : Int32) (l5 : Int32) (l6 : Int32) (l7 : Int32), K46 g l1 l2 l4 l5 l6 l7 = some r → sd_J G X (sd_QR G X M_YM_witnessOf (some (.int r.2), sd_F r.1)) M_YM_witnessOf 46 [(0, .ref (G.1 + 126)), (1, .int l1), (2, .int l2), (4, .int l4), (5, .int l5), (6, .int l6), (7, .int l7)] [] (sd_F g)) {l1 : Int32} {l2 : Int32} {l4 : Int32} {l5 : Int32} {l7 : Int32} {s0 : Int32} (hf : YM_witnessOf_B77 h K46 l1 l2 l4 l5 l7 s0 = some r) : sd_J G X (sd_QR G X M_YM_witnessOf (some (.int r.2), sd_F r.1)) M_YM_witnessOf 77 [(0, .ref (G.1 + 126)), (1, .int l1), (2, .int l2), (4, .int l4), (5, .int l5), (7, .int l7)] [.int s0] (sd_F h) := by
  unfold YM_witnessOf_B77 at hf
  refine sd_istore (i := 6) (pc' := 79) (lo' := [(6, .int s0), (0, .ref (G.1 + 126)), (1, .int l1), (2, .int l2), (4, .int l4), (5, .int l5), (7, .int l7)]) (by decide +kernel) (by decide) rfl ?_
  refine sd_iinc (i := 7) (q := 6) (n := 1) (v := (l7 + 1)) (pc' := 82) (lo' := [(7, .int (l7 + 1)), (6, .int s0), (0, .ref (G.1 + 126)), (1, .int l1), (2, .int l2), (4, .int l4), (5, .int l5)]) (by decide +kernel) rfl rfl (by decide) rfl ?_
  refine sd_goto (off := -36) (tgt := 46) (pc' := 85) (by decide +kernel) ?_
  refine sd_J.sub (lo' := [(0, .ref (G.1 + 126)), (1, .int l1), (2, .int l2), (4, .int l4), (5, .int l5), (6, .int s0), (7, .int (l7 + 1))]) [2, 3, 4, 5, 6, 1, 0] rfl ?_
  exact hK46 _ _ _ _ _ _ _ hf
def YM_witnessOf_L46 : Nat → sd_H → Int32 → Int32 → Int32 → Int32 → Int32 → Int32 → Option (sd_H × Int32)
  | 0, _, _, _, _, _, _, _ => none
  | n + 1, h, l1, l2, l4, l5, l6, l7 =>
  (if l4 ≤ l7 then (if l2 = 0 then some (h, l6) else (if l2 = 1 then some (h, l4) else some (h, l5))) else b1 (YM_bitsOfTurn h 1 l1 l7) (fun t15 => (if ((t15 >>> (l5 &&& 31)) &&& 1) = 1 then YM_witnessOf_B77 h (YM_witnessOf_L46 n) l1 l2 l4 l5 l7 l7 else YM_witnessOf_B77 h (YM_witnessOf_L46 n) l1 l2 l4 l5 l7 l6)))
set_option maxHeartbeats 4000000 in
set_option maxRecDepth 100000 in
theorem J_YM_witnessOf_L46 {G : sd_GX} {X : sd_CX} (hE : ∀ g : sd_H, sd_end G X M_YM_witnessOf (sd_F g))  {r : (sd_H × Int32)} : ∀ (n : Nat) (h : sd_H) (l1 : Int32) (l2 : Int32) (l4 : Int32) (l5 : Int32) (l6 : Int32) (l7 : Int32), YM_witnessOf_L46 n h l1 l2 l4 l5 l6 l7 = some r → sd_J G X (sd_QR G X M_YM_witnessOf (some (.int r.2), sd_F r.1)) M_YM_witnessOf 46 [(0, .ref (G.1 + 126)), (1, .int l1), (2, .int l2), (4, .int l4), (5, .int l5), (6, .int l6), (7, .int l7)] [] (sd_F h) := by
  intro n
  induction n with
  | zero =>
    intro h l1 l2 l4 l5 l6 l7 hf
    rw [YM_witnessOf_L46] at hf
    cases hf
  | succ n ih =>
    intro h l1 l2 l4 l5 l6 l7 hf
    rw [YM_witnessOf_L46] at hf
    refine sd_iload (i := 7) (q := 6) (pc' := 48) (by decide +kernel) rfl ?_
    refine sd_iload (i := 4) (q := 3) (pc' := 50) (by decide +kernel) rfl ?_
    refine sd_icmp_ge (off := 35) (tgt := 85) (pc' := 53) (by decide +kernel) (fun c11 => ?_) (fun c11 => ?_)
    · replace hf := ite_p c11 hf
      refine sd_iload_n (k := 2) (i := 2) (q := 2) (pc' := 86) (by decide +kernel) rfl rfl ?_
      refine sd_if_ne (off := 8) (tgt := 94) (pc' := 89) (by decide +kernel) (fun c12 => ?_) (fun c12 => ?_)
      · replace hf := ite_n c12 hf
        refine sd_iload_n (k := 2) (i := 2) (q := 2) (pc' := 95) (by decide +kernel) rfl rfl ?_
        refine sd_iconst (n := 1) (v := 1) (pc' := 96) (by decide +kernel) (by decide) ?_
        refine sd_icmp_ne (off := 8) (tgt := 104) (pc' := 99) (by decide +kernel) (fun c13 => ?_) (fun c13 => ?_)
        · replace hf := ite_n c13 hf
          refine sd_iload (i := 5) (q := 4) (pc' := 106) (by decide +kernel) rfl ?_
          obtain rfl := Option.some.inj hf
          exact sd_iret (by decide +kernel) rfl (hE _)
        · replace hf := ite_p c13 hf
          refine sd_iload (i := 4) (q := 3) (pc' := 101) (by decide +kernel) rfl ?_
          refine sd_goto (off := 5) (tgt := 106) (pc' := 104) (by decide +kernel) ?_
          obtain rfl := Option.some.inj hf
          exact sd_iret (by decide +kernel) rfl (hE _)
      · replace hf := ite_p c12 hf
        refine sd_iload (i := 6) (q := 5) (pc' := 91) (by decide +kernel) rfl ?_
        refine sd_goto (off := 15) (tgt := 106) (pc' := 94) (by decide +kernel) ?_
        obtain rfl := Option.some.inj hf
        exact sd_iret (by decide +kernel) rfl (hE _)
    · replace hf := ite_n c11 hf
      refine sd_aload_n (k := 0) (i := 0) (q := 0) (pc' := 54) (by decide +kernel) rfl rfl ?_
      refine sd_iconst (n := 1) (v := 1) (pc' := 55) (by decide +kernel) (by decide) ?_
      refine sd_iload_n (k := 1) (i := 1) (q := 1) (pc' := 56) (by decide +kernel) rfl rfl ?_
      refine sd_iload (i := 7) (q := 6) (pc' := 58) (by decide +kernel) rfl ?_
      obtain ⟨t15, q14, hf⟩ := b1_some hf
      refine sF_callV (idx := 262) (b := 126) (As := [.int 1, .int l1, .int l7]) (ci := 12) (nn := 47) (pc' := 61) 3 (T_YM_bitsOfTurn (G := G) (h := h)  q14) (by decide +kernel) mv_YM_bitsOfTurn ml_X12_262 (by decide +kernel) rfl rfl (Nat.le_of_ble_eq_true rfl) SH_126 rfl (by decide) rfl rfl ?_
      refine sd_iload (i := 5) (q := 4) (pc' := 63) (by decide +kernel) rfl ?_
      refine sd_ishr (pc' := 64) (by decide +kernel) ?_
      refine sd_iconst (n := 1) (v := 1) (pc' := 65) (by decide +kernel) (by decide) ?_
      refine sd_iand (pc' := 66) (by decide +kernel) ?_
      refine sd_iconst (n := 1) (v := 1) (pc' := 67) (by decide +kernel) (by decide) ?_
      refine sd_icmp_ne (off := 8) (tgt := 75) (pc' := 70) (by decide +kernel) (fun c16 => ?_) (fun c16 => ?_)
      · replace hf := ite_n c16 hf
        refine sd_iload (i := 6) (q := 5) (pc' := 77) (by decide +kernel) rfl ?_
        refine sd_J.sub (lo' := [(0, .ref (G.1 + 126)), (1, .int l1), (2, .int l2), (4, .int l4), (5, .int l5), (7, .int l7)]) [0, 1, 2, 3, 4, 6] rfl ?_
        exact J_YM_witnessOf_B77 hE ih hf
      · replace hf := ite_p c16 hf
        refine sd_iload (i := 7) (q := 6) (pc' := 72) (by decide +kernel) rfl ?_
        refine sd_goto (off := 5) (tgt := 77) (pc' := 75) (by decide +kernel) ?_
        refine sd_J.sub (lo' := [(0, .ref (G.1 + 126)), (1, .int l1), (2, .int l2), (4, .int l4), (5, .int l5), (7, .int l7)]) [0, 1, 2, 3, 4, 6] rfl ?_
        exact J_YM_witnessOf_B77 hE ih hf
def YM_witnessOf_L9 : Nat → sd_H → Int32 → Int32 → Int32 → Int32 → Option (sd_H × Int32)
  | 0, _, _, _, _, _ => none
  | n + 1, h, l1, l2, l3, l4 =>
  (if (h.1 126 6) ≤ l4 then some (h, (-1)) else b1 (YM_bitsOfTurn h 3 l1 l4) (fun t5 => b1 (YM_nextBit (t5 &&& l3) 0) (fun t7 => (if t7 = (-1) then b1 (YM_bitsOfTurn h 1 l1 l4) (fun t10 => YM_witnessOf_L9 n h l1 l2 (l3 ||| t10) (l4 + 1)) else YM_witnessOf_L46 FU h l1 l2 l4 t7 (-1) 0))))
set_option maxHeartbeats 4000000 in
set_option maxRecDepth 100000 in
theorem J_YM_witnessOf_L9 {G : sd_GX} {X : sd_CX} (hE : ∀ g : sd_H, sd_end G X M_YM_witnessOf (sd_F g))  {r : (sd_H × Int32)} : ∀ (n : Nat) (h : sd_H) (l1 : Int32) (l2 : Int32) (l3 : Int32) (l4 : Int32), YM_witnessOf_L9 n h l1 l2 l3 l4 = some r → sd_J G X (sd_QR G X M_YM_witnessOf (some (.int r.2), sd_F r.1)) M_YM_witnessOf 9 [(0, .ref (G.1 + 126)), (1, .int l1), (2, .int l2), (3, .int l3), (4, .int l4)] [] (sd_F h) := by
  intro n
  induction n with
  | zero =>
    intro h l1 l2 l3 l4 hf
    rw [YM_witnessOf_L9] at hf
    cases hf
  | succ n ih =>
    intro h l1 l2 l3 l4 hf
    rw [YM_witnessOf_L9] at hf
    refine sd_iload (i := 4) (q := 4) (pc' := 11) (by decide +kernel) rfl ?_
    refine sd_aload_n (k := 0) (i := 0) (q := 0) (pc' := 12) (by decide +kernel) rfl rfl ?_
    refine sF_gi (idx := 154) (ci := 12) (k := 6) (n := 47) (pc' := 15) (by decide +kernel) fl_X12_154 (by decide +kernel) rfl SH_126 ?_
    refine sd_icmp_ge (off := 109) (tgt := 124) (pc' := 18) (by decide +kernel) (fun c3 => ?_) (fun c3 => ?_)
    · replace hf := ite_p c3 hf
      refine sd_iconst (n := -1) (v := (-1)) (pc' := 125) (by decide +kernel) (by decide) ?_
      obtain rfl := Option.some.inj hf
      exact sd_iret (by decide +kernel) rfl (hE _)
    · replace hf := ite_n c3 hf
      refine sd_aload_n (k := 0) (i := 0) (q := 0) (pc' := 19) (by decide +kernel) rfl rfl ?_
      refine sd_iconst (n := 3) (v := 3) (pc' := 20) (by decide +kernel) (by decide) ?_
      refine sd_iload_n (k := 1) (i := 1) (q := 1) (pc' := 21) (by decide +kernel) rfl rfl ?_
      refine sd_iload (i := 4) (q := 4) (pc' := 23) (by decide +kernel) rfl ?_
      obtain ⟨t5, q4, hf⟩ := b1_some hf
      refine sF_callV (idx := 262) (b := 126) (As := [.int 3, .int l1, .int l4]) (ci := 12) (nn := 47) (pc' := 26) 3 (T_YM_bitsOfTurn (G := G) (h := h)  q4) (by decide +kernel) mv_YM_bitsOfTurn ml_X12_262 (by decide +kernel) rfl rfl (Nat.le_of_ble_eq_true rfl) SH_126 rfl (by decide) rfl rfl ?_
      refine sd_iload_n (k := 3) (i := 3) (q := 3) (pc' := 27) (by decide +kernel) rfl rfl ?_
      refine sd_iand (pc' := 28) (by decide +kernel) ?_
      refine sd_iconst (n := 0) (v := 0) (pc' := 29) (by decide +kernel) (by decide) ?_
      obtain ⟨t7, q6, hf⟩ := b1_some hf
      refine sF_callS (idx := 274) (As := [.int (t5 &&& l3), .int 0]) (pc' := 32) 2 (T_YM_nextBit (G := G) (h := h)  q6) (by decide +kernel) mv_YM_nextBit ml_X12_274 (by decide +kernel) rfl rfl (Nat.le_of_ble_eq_true rfl) rfl ?_
      refine sd_istore (i := 5) (pc' := 34) (lo' := [(5, .int t7), (0, .ref (G.1 + 126)), (1, .int l1), (2, .int l2), (3, .int l3), (4, .int l4)]) (by decide +kernel) (by decide) rfl ?_
      refine sd_iload (i := 5) (q := 0) (pc' := 36) (by decide +kernel) rfl ?_
      refine sd_iconst (n := -1) (v := (-1)) (pc' := 37) (by decide +kernel) (by decide) ?_
      refine sd_icmp_eq (off := 70) (tgt := 107) (pc' := 40) (by decide +kernel) (fun c8 => ?_) (fun c8 => ?_)
      · replace hf := ite_p c8 hf
        refine sd_iload_n (k := 3) (i := 3) (q := 4) (pc' := 108) (by decide +kernel) rfl rfl ?_
        refine sd_aload_n (k := 0) (i := 0) (q := 1) (pc' := 109) (by decide +kernel) rfl rfl ?_
        refine sd_iconst (n := 1) (v := 1) (pc' := 110) (by decide +kernel) (by decide) ?_
        refine sd_iload_n (k := 1) (i := 1) (q := 2) (pc' := 111) (by decide +kernel) rfl rfl ?_
        refine sd_iload (i := 4) (q := 5) (pc' := 113) (by decide +kernel) rfl ?_
        obtain ⟨t10, q9, hf⟩ := b1_some hf
        refine sF_callV (idx := 262) (b := 126) (As := [.int 1, .int l1, .int l4]) (ci := 12) (nn := 47) (pc' := 116) 3 (T_YM_bitsOfTurn (G := G) (h := h)  q9) (by decide +kernel) mv_YM_bitsOfTurn ml_X12_262 (by decide +kernel) rfl rfl (Nat.le_of_ble_eq_true rfl) SH_126 rfl (by decide) rfl rfl ?_
        refine sd_ior (pc' := 117) (by decide +kernel) ?_
        refine sd_istore_n (k := 3) (i := 3) (pc' := 118) (lo' := [(3, .int (l3 ||| t10)), (5, .int t7), (0, .ref (G.1 + 126)), (1, .int l1), (2, .int l2), (4, .int l4)]) (by decide +kernel) rfl (by decide) rfl ?_
        refine sd_iinc (i := 4) (q := 5) (n := 1) (v := (l4 + 1)) (pc' := 121) (lo' := [(4, .int (l4 + 1)), (3, .int (l3 ||| t10)), (5, .int t7), (0, .ref (G.1 + 126)), (1, .int l1), (2, .int l2)]) (by decide +kernel) rfl rfl (by decide) rfl ?_
        refine sd_goto (off := -112) (tgt := 9) (pc' := 124) (by decide +kernel) ?_
        refine sd_J.sub (lo' := [(0, .ref (G.1 + 126)), (1, .int l1), (2, .int l2), (3, .int (l3 ||| t10)), (4, .int (l4 + 1))]) [3, 4, 5, 1, 0] rfl ?_
        exact ih _ _ _ _ _ hf
      · replace hf := ite_n c8 hf
        refine sd_iconst (n := -1) (v := (-1)) (pc' := 41) (by decide +kernel) (by decide) ?_
        refine sd_istore (i := 6) (pc' := 43) (lo' := [(6, .int (-1)), (5, .int t7), (0, .ref (G.1 + 126)), (1, .int l1), (2, .int l2), (3, .int l3), (4, .int l4)]) (by decide +kernel) (by decide) rfl ?_
        refine sd_iconst (n := 0) (v := 0) (pc' := 44) (by decide +kernel) (by decide) ?_
        refine sd_istore (i := 7) (pc' := 46) (lo' := [(7, .int 0), (6, .int (-1)), (5, .int t7), (0, .ref (G.1 + 126)), (1, .int l1), (2, .int l2), (3, .int l3), (4, .int l4)]) (by decide +kernel) (by decide) rfl ?_
        refine sd_J.sub (lo' := [(0, .ref (G.1 + 126)), (1, .int l1), (2, .int l2), (4, .int l4), (5, .int t7), (6, .int (-1)), (7, .int 0)]) [3, 4, 5, 7, 2, 1, 0] rfl ?_
        exact J_YM_witnessOf_L46 hE _ _ _ _ _ _ _ _ hf
def YM_witnessOf (h : sd_H) (a0 : Int32) (a1 : Int32) : Option (sd_H × Int32) :=
  b1 (YM_findsSets h) (fun h2 => YM_witnessOf_L9 FU h2 a0 a1 0 0)
set_option maxHeartbeats 4000000 in
set_option maxRecDepth 100000 in
theorem T_YM_witnessOf {G : sd_GX} {h : sd_H} {a0 : Int32} {a1 : Int32} {r : (sd_H × Int32)} (hf : YM_witnessOf h a0 a1 = some r) : sd_RunF G M_YM_witnessOf [.ref (G.1 + 126), .int a0, .int a1] h (some (.int r.2)) r.1 := by
  refine sF_run ⟨rfl, rfl⟩ (by decide +kernel) (Nat.le_of_ble_eq_true rfl) (lo := [(0, .ref (G.1 + 126)), (1, .int a0), (2, .int a1)]) rfl (fun X hE => ?_)
  unfold YM_witnessOf at hf
  refine sd_aload_n (k := 0) (i := 0) (q := 0) (pc' := 1) (by decide +kernel) rfl rfl ?_
  obtain ⟨h2, q1, hf⟩ := b1_some hf
  refine sF_callV0 (idx := 259) (b := 126) (As := []) (ci := 12) (nn := 47) (pc' := 4) 0 (T_YM_findsSets (G := G) (h := h)  q1) (by decide +kernel) mv_YM_findsSets ml_X12_259 (by decide +kernel) rfl rfl (Nat.le_of_ble_eq_true rfl) SH_126 rfl (by decide) rfl rfl ?_
  refine sd_iconst (n := 0) (v := 0) (pc' := 5) (by decide +kernel) (by decide) ?_
  refine sd_istore_n (k := 3) (i := 3) (pc' := 6) (lo' := [(3, .int 0), (0, .ref (G.1 + 126)), (1, .int a0), (2, .int a1)]) (by decide +kernel) rfl (by decide) rfl ?_
  refine sd_iconst (n := 0) (v := 0) (pc' := 7) (by decide +kernel) (by decide) ?_
  refine sd_istore (i := 4) (pc' := 9) (lo' := [(4, .int 0), (3, .int 0), (0, .ref (G.1 + 126)), (1, .int a0), (2, .int a1)]) (by decide +kernel) (by decide) rfl ?_
  refine sd_J.sub (lo' := [(0, .ref (G.1 + 126)), (1, .int a0), (2, .int a1), (3, .int 0), (4, .int 0)]) [2, 3, 4, 1, 0] rfl ?_
  exact J_YM_witnessOf_L9 hE _ _ _ _ _ _ hf

theorem ml_X12_316 : Cond.methodLink RX12 316 yX12_witnessOf ∈ sd_tb := sd_mem (i := 1593) (by decide +kernel)
theorem mv_YM_witnessOf : sd_mV M_YM_witnessOf 2 := ⟨sd_mem (i := 1595) (by decide +kernel), sd_mem (i := 80) (by decide +kernel), ⟨sd_mem (i := 1596) (by decide +kernel), sd_mem (i := 119) (by decide +kernel), by decide +kernel, by decide +kernel, by decide +kernel⟩⟩
def M_YM_witness : sd_MX := (yX12_witness, cX12_witness, 3, (some .int), { frames := 9, cells := 0, slots := 0, locals := 230 })
def YM_witness (h : sd_H) (a0 : Int32) (a1 : Int32) : Option (sd_H × Int32) :=
  b1 (YM_isRow a0) (fun t2 => (if t2 = 0 then some (h, (-2)) else b1 (YM_in a1 0 2) (fun t5 => (if t5 = 0 then some (h, (-2)) else b2 (YM_witnessOf h a0 a1) (fun h8 t9 => some (h8, t9))))))
set_option maxHeartbeats 4000000 in
set_option maxRecDepth 100000 in
theorem T_YM_witness {G : sd_GX} {h : sd_H} {a0 : Int32} {a1 : Int32} {r : (sd_H × Int32)} (hf : YM_witness h a0 a1 = some r) : sd_RunF G M_YM_witness [.ref (G.1 + 126), .int a0, .int a1] h (some (.int r.2)) r.1 := by
  refine sF_run ⟨rfl, rfl⟩ (by decide +kernel) (Nat.le_of_ble_eq_true rfl) (lo := [(0, .ref (G.1 + 126)), (1, .int a0), (2, .int a1)]) rfl (fun X hE => ?_)
  unfold YM_witness at hf
  refine sd_iload_n (k := 1) (i := 1) (q := 1) (pc' := 1) (by decide +kernel) rfl rfl ?_
  obtain ⟨t2, q1, hf⟩ := b1_some hf
  refine sF_callS (idx := 122) (As := [.int a0]) (pc' := 4) 1 (T_YM_isRow (G := G) (h := h)  q1) (by decide +kernel) mv_YM_isRow ml_X12_122 (by decide +kernel) rfl rfl (Nat.le_of_ble_eq_true rfl) rfl ?_
  refine sd_if_eq (off := 21) (tgt := 25) (pc' := 7) (by decide +kernel) (fun c3 => ?_) (fun c3 => ?_)
  · replace hf := ite_p c3 hf
    refine sd_bipush (n := -2) (v := (-2)) (pc' := 27) (by decide +kernel) (by decide) ?_
    obtain rfl := Option.some.inj hf
    exact sd_iret (by decide +kernel) rfl (hE _)
  · replace hf := ite_n c3 hf
    refine sd_iload_n (k := 2) (i := 2) (q := 2) (pc' := 8) (by decide +kernel) rfl rfl ?_
    refine sd_iconst (n := 0) (v := 0) (pc' := 9) (by decide +kernel) (by decide) ?_
    refine sd_iconst (n := 2) (v := 2) (pc' := 10) (by decide +kernel) (by decide) ?_
    obtain ⟨t5, q4, hf⟩ := b1_some hf
    refine sF_callS (idx := 114) (As := [.int a1, .int 0, .int 2]) (pc' := 13) 3 (T_YM_in (G := G) (h := h)  q4) (by decide +kernel) mv_YM_in ml_X12_114 (by decide +kernel) rfl rfl (Nat.le_of_ble_eq_true rfl) rfl ?_
    refine sd_if_eq (off := 12) (tgt := 25) (pc' := 16) (by decide +kernel) (fun c6 => ?_) (fun c6 => ?_)
    · replace hf := ite_p c6 hf
      refine sd_bipush (n := -2) (v := (-2)) (pc' := 27) (by decide +kernel) (by decide) ?_
      obtain rfl := Option.some.inj hf
      exact sd_iret (by decide +kernel) rfl (hE _)
    · replace hf := ite_n c6 hf
      refine sd_aload_n (k := 0) (i := 0) (q := 0) (pc' := 17) (by decide +kernel) rfl rfl ?_
      refine sd_iload_n (k := 1) (i := 1) (q := 1) (pc' := 18) (by decide +kernel) rfl rfl ?_
      refine sd_iload_n (k := 2) (i := 2) (q := 2) (pc' := 19) (by decide +kernel) rfl rfl ?_
      obtain ⟨h8, t9, q7, hf⟩ := b2_some hf
      refine sF_callV (idx := 316) (b := 126) (As := [.int a0, .int a1]) (ci := 12) (nn := 47) (pc' := 22) 2 (T_YM_witnessOf (G := G) (h := h)  q7) (by decide +kernel) mv_YM_witnessOf ml_X12_316 (by decide +kernel) rfl rfl (Nat.le_of_ble_eq_true rfl) SH_126 rfl (by decide) rfl rfl ?_
      refine sd_goto (off := 5) (tgt := 27) (pc' := 25) (by decide +kernel) ?_
      obtain rfl := Option.some.inj hf
      exact sd_iret (by decide +kernel) rfl (hE _)

def M_YM_lastOf : sd_MX := (yX12_lastOf, cX12_lastOf, 6, (some .int), { frames := 8, cells := 0, slots := 0, locals := 203 })
def YM_lastOf_B42 (h : sd_H) (K10 : sd_H → Int32 → Int32 → Int32 → Int32 → Int32 → Option (sd_H × Int32)) (l1 : Int32) (l2 : Int32) (l3 : Int32) (l5 : Int32) (s0 : Int32) : Option (sd_H × Int32) :=
  K10 h l1 l2 l3 s0 (l5 + 1)
set_option maxHeartbeats 4000000 in
set_option maxRecDepth 100000 in
theorem J_YM_lastOf_B42 {G : sd_GX} {X : sd_CX} (hE : ∀ g : sd_H, sd_end G X M_YM_lastOf (sd_F g)) {h : sd_H} {K10 : sd_H → Int32 → Int32 → Int32 → Int32 → Int32 → Option (sd_H × Int32)} {r : (sd_H × Int32)} (hK10 : ∀ (g : sd_H) (l1 : Int32) (l2 : Int32) (l3 : Int32) (l4 : Int32) (l5 : Int32), K10 g l1 l2 l3 l4 l5 = some r → sd_J G X (sd_QR G X M_YM_lastOf (some (.int r.2), sd_F r.1)) M_YM_lastOf 10 [(0, .ref (G.1 + 126)), (1, .int l1), (2, .int l2), (3, .int l3), (4, .int l4), (5, .int l5)] [] (sd_F g)) {l1 : Int32} {l2 : Int32} {l3 : Int32} {l5 : Int32} {s0 : Int32} (hf : YM_lastOf_B42 h K10 l1 l2 l3 l5 s0 = some r) : sd_J G X (sd_QR G X M_YM_lastOf (some (.int r.2), sd_F r.1)) M_YM_lastOf 42 [(0, .ref (G.1 + 126)), (1, .int l1), (2, .int l2), (3, .int l3), (5, .int l5)] [.int s0] (sd_F h) := by
  unfold YM_lastOf_B42 at hf
  refine sd_istore (i := 4) (pc' := 44) (lo' := [(4, .int s0), (0, .ref (G.1 + 126)), (1, .int l1), (2, .int l2), (3, .int l3), (5, .int l5)]) (by decide +kernel) (by decide) rfl ?_
  refine sd_iinc (i := 5) (q := 5) (n := 1) (v := (l5 + 1)) (pc' := 47) (lo' := [(5, .int (l5 + 1)), (4, .int s0), (0, .ref (G.1 + 126)), (1, .int l1), (2, .int l2), (3, .int l3)]) (by decide +kernel) rfl rfl (by decide) rfl ?_
  refine sd_goto (off := -37) (tgt := 10) (pc' := 50) (by decide +kernel) ?_
  refine sd_J.sub (lo' := [(0, .ref (G.1 + 126)), (1, .int l1), (2, .int l2), (3, .int l3), (4, .int s0), (5, .int (l5 + 1))]) [2, 3, 4, 5, 1, 0] rfl ?_
  exact hK10 _ _ _ _ _ _ hf
def YM_lastOf_L10 : Nat → sd_H → Int32 → Int32 → Int32 → Int32 → Int32 → Option (sd_H × Int32)
  | 0, _, _, _, _, _, _ => none
  | n + 1, h, l1, l2, l3, l4, l5 =>
  (if (h.1 126 6) ≤ l5 then some (h, l4) else b1 (YM_bitsOfTurn h l1 l2 l5) (fun t5 => (if ((t5 >>> (l3 &&& 31)) &&& 1) = 1 then YM_lastOf_B42 h (YM_lastOf_L10 n) l1 l2 l3 l5 l5 else YM_lastOf_B42 h (YM_lastOf_L10 n) l1 l2 l3 l5 l4)))
set_option maxHeartbeats 4000000 in
set_option maxRecDepth 100000 in
theorem J_YM_lastOf_L10 {G : sd_GX} {X : sd_CX} (hE : ∀ g : sd_H, sd_end G X M_YM_lastOf (sd_F g))  {r : (sd_H × Int32)} : ∀ (n : Nat) (h : sd_H) (l1 : Int32) (l2 : Int32) (l3 : Int32) (l4 : Int32) (l5 : Int32), YM_lastOf_L10 n h l1 l2 l3 l4 l5 = some r → sd_J G X (sd_QR G X M_YM_lastOf (some (.int r.2), sd_F r.1)) M_YM_lastOf 10 [(0, .ref (G.1 + 126)), (1, .int l1), (2, .int l2), (3, .int l3), (4, .int l4), (5, .int l5)] [] (sd_F h) := by
  intro n
  induction n with
  | zero =>
    intro h l1 l2 l3 l4 l5 hf
    rw [YM_lastOf_L10] at hf
    cases hf
  | succ n ih =>
    intro h l1 l2 l3 l4 l5 hf
    rw [YM_lastOf_L10] at hf
    refine sd_iload (i := 5) (q := 5) (pc' := 12) (by decide +kernel) rfl ?_
    refine sd_aload_n (k := 0) (i := 0) (q := 0) (pc' := 13) (by decide +kernel) rfl rfl ?_
    refine sF_gi (idx := 154) (ci := 12) (k := 6) (n := 47) (pc' := 16) (by decide +kernel) fl_X12_154 (by decide +kernel) rfl SH_126 ?_
    refine sd_icmp_ge (off := 34) (tgt := 50) (pc' := 19) (by decide +kernel) (fun c3 => ?_) (fun c3 => ?_)
    · replace hf := ite_p c3 hf
      refine sd_iload (i := 4) (q := 4) (pc' := 52) (by decide +kernel) rfl ?_
      obtain rfl := Option.some.inj hf
      exact sd_iret (by decide +kernel) rfl (hE _)
    · replace hf := ite_n c3 hf
      refine sd_aload_n (k := 0) (i := 0) (q := 0) (pc' := 20) (by decide +kernel) rfl rfl ?_
      refine sd_iload_n (k := 1) (i := 1) (q := 1) (pc' := 21) (by decide +kernel) rfl rfl ?_
      refine sd_iload_n (k := 2) (i := 2) (q := 2) (pc' := 22) (by decide +kernel) rfl rfl ?_
      refine sd_iload (i := 5) (q := 5) (pc' := 24) (by decide +kernel) rfl ?_
      obtain ⟨t5, q4, hf⟩ := b1_some hf
      refine sF_callV (idx := 262) (b := 126) (As := [.int l1, .int l2, .int l5]) (ci := 12) (nn := 47) (pc' := 27) 3 (T_YM_bitsOfTurn (G := G) (h := h)  q4) (by decide +kernel) mv_YM_bitsOfTurn ml_X12_262 (by decide +kernel) rfl rfl (Nat.le_of_ble_eq_true rfl) SH_126 rfl (by decide) rfl rfl ?_
      refine sd_iload_n (k := 3) (i := 3) (q := 3) (pc' := 28) (by decide +kernel) rfl rfl ?_
      refine sd_ishr (pc' := 29) (by decide +kernel) ?_
      refine sd_iconst (n := 1) (v := 1) (pc' := 30) (by decide +kernel) (by decide) ?_
      refine sd_iand (pc' := 31) (by decide +kernel) ?_
      refine sd_iconst (n := 1) (v := 1) (pc' := 32) (by decide +kernel) (by decide) ?_
      refine sd_icmp_ne (off := 8) (tgt := 40) (pc' := 35) (by decide +kernel) (fun c6 => ?_) (fun c6 => ?_)
      · replace hf := ite_n c6 hf
        refine sd_iload (i := 4) (q := 4) (pc' := 42) (by decide +kernel) rfl ?_
        refine sd_J.sub (lo' := [(0, .ref (G.1 + 126)), (1, .int l1), (2, .int l2), (3, .int l3), (5, .int l5)]) [0, 1, 2, 3, 5] rfl ?_
        exact J_YM_lastOf_B42 hE ih hf
      · replace hf := ite_p c6 hf
        refine sd_iload (i := 5) (q := 5) (pc' := 37) (by decide +kernel) rfl ?_
        refine sd_goto (off := 5) (tgt := 42) (pc' := 40) (by decide +kernel) ?_
        refine sd_J.sub (lo' := [(0, .ref (G.1 + 126)), (1, .int l1), (2, .int l2), (3, .int l3), (5, .int l5)]) [0, 1, 2, 3, 5] rfl ?_
        exact J_YM_lastOf_B42 hE ih hf
def YM_lastOf (h : sd_H) (a0 : Int32) (a1 : Int32) (a2 : Int32) : Option (sd_H × Int32) :=
  b1 (YM_findsSets h) (fun h2 => YM_lastOf_L10 FU h2 a0 a1 a2 (-1) 0)
set_option maxHeartbeats 4000000 in
set_option maxRecDepth 100000 in
theorem T_YM_lastOf {G : sd_GX} {h : sd_H} {a0 : Int32} {a1 : Int32} {a2 : Int32} {r : (sd_H × Int32)} (hf : YM_lastOf h a0 a1 a2 = some r) : sd_RunF G M_YM_lastOf [.ref (G.1 + 126), .int a0, .int a1, .int a2] h (some (.int r.2)) r.1 := by
  refine sF_run ⟨rfl, rfl⟩ (by decide +kernel) (Nat.le_of_ble_eq_true rfl) (lo := [(0, .ref (G.1 + 126)), (1, .int a0), (2, .int a1), (3, .int a2)]) rfl (fun X hE => ?_)
  unfold YM_lastOf at hf
  refine sd_aload_n (k := 0) (i := 0) (q := 0) (pc' := 1) (by decide +kernel) rfl rfl ?_
  obtain ⟨h2, q1, hf⟩ := b1_some hf
  refine sF_callV0 (idx := 259) (b := 126) (As := []) (ci := 12) (nn := 47) (pc' := 4) 0 (T_YM_findsSets (G := G) (h := h)  q1) (by decide +kernel) mv_YM_findsSets ml_X12_259 (by decide +kernel) rfl rfl (Nat.le_of_ble_eq_true rfl) SH_126 rfl (by decide) rfl rfl ?_
  refine sd_iconst (n := -1) (v := (-1)) (pc' := 5) (by decide +kernel) (by decide) ?_
  refine sd_istore (i := 4) (pc' := 7) (lo' := [(4, .int (-1)), (0, .ref (G.1 + 126)), (1, .int a0), (2, .int a1), (3, .int a2)]) (by decide +kernel) (by decide) rfl ?_
  refine sd_iconst (n := 0) (v := 0) (pc' := 8) (by decide +kernel) (by decide) ?_
  refine sd_istore (i := 5) (pc' := 10) (lo' := [(5, .int 0), (4, .int (-1)), (0, .ref (G.1 + 126)), (1, .int a0), (2, .int a1), (3, .int a2)]) (by decide +kernel) (by decide) rfl ?_
  refine sd_J.sub (lo' := [(0, .ref (G.1 + 126)), (1, .int a0), (2, .int a1), (3, .int a2), (4, .int (-1)), (5, .int 0)]) [2, 3, 4, 5, 1, 0] rfl ?_
  exact J_YM_lastOf_L10 hE _ _ _ _ _ _ _ hf

theorem ml_X12_319 : Cond.methodLink RX12 319 yX12_lastOf ∈ sd_tb := sd_mem (i := 1601) (by decide +kernel)
theorem mv_YM_lastOf : sd_mV M_YM_lastOf 3 := ⟨sd_mem (i := 1603) (by decide +kernel), sd_mem (i := 81) (by decide +kernel), ⟨sd_mem (i := 1604) (by decide +kernel), sd_mem (i := 119) (by decide +kernel), by decide +kernel, by decide +kernel, by decide +kernel⟩⟩
def M_YM_last : sd_MX := (yX12_last, cX12_last, 4, (some .int), { frames := 9, cells := 0, slots := 0, locals := 228 })
def YM_last (h : sd_H) (a0 : Int32) (a1 : Int32) (a2 : Int32) : Option (sd_H × Int32) :=
  b1 (YM_in a0 1 2) (fun t2 => (if t2 = 0 then some (h, (-2)) else b1 (YM_isRow a1) (fun t5 => (if t5 = 0 then some (h, (-2)) else b1 (YM_in a2 0 23) (fun t8 => (if t8 = 0 then some (h, (-2)) else b2 (YM_lastOf h a0 a1 a2) (fun h11 t12 => some (h11, t12))))))))
set_option maxHeartbeats 4000000 in
set_option maxRecDepth 100000 in
theorem T_YM_last {G : sd_GX} {h : sd_H} {a0 : Int32} {a1 : Int32} {a2 : Int32} {r : (sd_H × Int32)} (hf : YM_last h a0 a1 a2 = some r) : sd_RunF G M_YM_last [.ref (G.1 + 126), .int a0, .int a1, .int a2] h (some (.int r.2)) r.1 := by
  refine sF_run ⟨rfl, rfl⟩ (by decide +kernel) (Nat.le_of_ble_eq_true rfl) (lo := [(0, .ref (G.1 + 126)), (1, .int a0), (2, .int a1), (3, .int a2)]) rfl (fun X hE => ?_)
  unfold YM_last at hf
  refine sd_iload_n (k := 1) (i := 1) (q := 1) (pc' := 1) (by decide +kernel) rfl rfl ?_
  refine sd_iconst (n := 1) (v := 1) (pc' := 2) (by decide +kernel) (by decide) ?_
  refine sd_iconst (n := 2) (v := 2) (pc' := 3) (by decide +kernel) (by decide) ?_
  obtain ⟨t2, q1, hf⟩ := b1_some hf
  refine sF_callS (idx := 114) (As := [.int a0, .int 1, .int 2]) (pc' := 6) 3 (T_YM_in (G := G) (h := h)  q1) (by decide +kernel) mv_YM_in ml_X12_114 (by decide +kernel) rfl rfl (Nat.le_of_ble_eq_true rfl) rfl ?_
  refine sd_if_eq (off := 30) (tgt := 36) (pc' := 9) (by decide +kernel) (fun c3 => ?_) (fun c3 => ?_)
  · replace hf := ite_p c3 hf
    refine sd_bipush (n := -2) (v := (-2)) (pc' := 38) (by decide +kernel) (by decide) ?_
    obtain rfl := Option.some.inj hf
    exact sd_iret (by decide +kernel) rfl (hE _)
  · replace hf := ite_n c3 hf
    refine sd_iload_n (k := 2) (i := 2) (q := 2) (pc' := 10) (by decide +kernel) rfl rfl ?_
    obtain ⟨t5, q4, hf⟩ := b1_some hf
    refine sF_callS (idx := 122) (As := [.int a1]) (pc' := 13) 1 (T_YM_isRow (G := G) (h := h)  q4) (by decide +kernel) mv_YM_isRow ml_X12_122 (by decide +kernel) rfl rfl (Nat.le_of_ble_eq_true rfl) rfl ?_
    refine sd_if_eq (off := 23) (tgt := 36) (pc' := 16) (by decide +kernel) (fun c6 => ?_) (fun c6 => ?_)
    · replace hf := ite_p c6 hf
      refine sd_bipush (n := -2) (v := (-2)) (pc' := 38) (by decide +kernel) (by decide) ?_
      obtain rfl := Option.some.inj hf
      exact sd_iret (by decide +kernel) rfl (hE _)
    · replace hf := ite_n c6 hf
      refine sd_iload_n (k := 3) (i := 3) (q := 3) (pc' := 17) (by decide +kernel) rfl rfl ?_
      refine sd_iconst (n := 0) (v := 0) (pc' := 18) (by decide +kernel) (by decide) ?_
      refine sd_bipush (n := 23) (v := 23) (pc' := 20) (by decide +kernel) (by decide) ?_
      obtain ⟨t8, q7, hf⟩ := b1_some hf
      refine sF_callS (idx := 114) (As := [.int a2, .int 0, .int 23]) (pc' := 23) 3 (T_YM_in (G := G) (h := h)  q7) (by decide +kernel) mv_YM_in ml_X12_114 (by decide +kernel) rfl rfl (Nat.le_of_ble_eq_true rfl) rfl ?_
      refine sd_if_eq (off := 13) (tgt := 36) (pc' := 26) (by decide +kernel) (fun c9 => ?_) (fun c9 => ?_)
      · replace hf := ite_p c9 hf
        refine sd_bipush (n := -2) (v := (-2)) (pc' := 38) (by decide +kernel) (by decide) ?_
        obtain rfl := Option.some.inj hf
        exact sd_iret (by decide +kernel) rfl (hE _)
      · replace hf := ite_n c9 hf
        refine sd_aload_n (k := 0) (i := 0) (q := 0) (pc' := 27) (by decide +kernel) rfl rfl ?_
        refine sd_iload_n (k := 1) (i := 1) (q := 1) (pc' := 28) (by decide +kernel) rfl rfl ?_
        refine sd_iload_n (k := 2) (i := 2) (q := 2) (pc' := 29) (by decide +kernel) rfl rfl ?_
        refine sd_iload_n (k := 3) (i := 3) (q := 3) (pc' := 30) (by decide +kernel) rfl rfl ?_
        obtain ⟨h11, t12, q10, hf⟩ := b2_some hf
        refine sF_callV (idx := 319) (b := 126) (As := [.int a0, .int a1, .int a2]) (ci := 12) (nn := 47) (pc' := 33) 3 (T_YM_lastOf (G := G) (h := h)  q10) (by decide +kernel) mv_YM_lastOf ml_X12_319 (by decide +kernel) rfl rfl (Nat.le_of_ble_eq_true rfl) SH_126 rfl (by decide) rfl rfl ?_
        refine sd_goto (off := 5) (tgt := 38) (pc' := 36) (by decide +kernel) ?_
        obtain rfl := Option.some.inj hf
        exact sd_iret (by decide +kernel) rfl (hE _)

def M_YM_isInt : sd_MX := (yX12_isInt, cX12_isInt, 2, (some .boolean), { frames := 1, cells := 0, slots := 0, locals := 40 })
def YM_isInt (a0 : Int64) : Option Int32 :=
  (if (lg_cmp a0 (-2147483648)) < 0 then some 0 else (if 0 < (lg_cmp a0 2147483647) then some 0 else some 1))
set_option maxHeartbeats 4000000 in
set_option maxRecDepth 100000 in
theorem T_YM_isInt {G : sd_GX} {h : sd_H} {a0 : Int64} {r : Int32} (hf : YM_isInt a0 = some r) : sd_RunF G M_YM_isInt [.long a0] h (some (.int r)) h := by
  refine sF_run ⟨rfl, rfl⟩ (by decide +kernel) (Nat.le_of_ble_eq_true rfl) (lo := [(0, .long a0)]) rfl (fun X hE => ?_)
  unfold YM_isInt at hf
  refine sd_lload_n (k := 0) (i := 0) (q := 0) (pc' := 1) (by decide +kernel) rfl rfl ?_
  refine sd_ldc2 (idx := 324) (v := (-2147483648)) (pc' := 4) (by decide +kernel) (sd_mem (i := 1656) (by decide +kernel)) ?_
  refine sd_lcmp (pc' := 5) (by decide +kernel) ?_
  refine sd_if_lt (off := 15) (tgt := 20) (pc' := 8) (by decide +kernel) (fun c1 => ?_) (fun c1 => ?_)
  · replace hf := ite_p c1 hf
    refine sd_iconst (n := 0) (v := 0) (pc' := 21) (by decide +kernel) (by decide) ?_
    obtain rfl := Option.some.inj hf
    exact sd_zret (by decide +kernel) rfl rfl (hE _)
  · replace hf := ite_n c1 hf
    refine sd_lload_n (k := 0) (i := 0) (q := 0) (pc' := 9) (by decide +kernel) rfl rfl ?_
    refine sd_ldc2 (idx := 326) (v := 2147483647) (pc' := 12) (by decide +kernel) (sd_mem (i := 1657) (by decide +kernel)) ?_
    refine sd_lcmp (pc' := 13) (by decide +kernel) ?_
    refine sd_if_gt (off := 7) (tgt := 20) (pc' := 16) (by decide +kernel) (fun c2 => ?_) (fun c2 => ?_)
    · replace hf := ite_p c2 hf
      refine sd_iconst (n := 0) (v := 0) (pc' := 21) (by decide +kernel) (by decide) ?_
      obtain rfl := Option.some.inj hf
      exact sd_zret (by decide +kernel) rfl rfl (hE _)
    · replace hf := ite_n c2 hf
      refine sd_iconst (n := 1) (v := 1) (pc' := 17) (by decide +kernel) (by decide) ?_
      refine sd_goto (off := 4) (tgt := 21) (pc' := 20) (by decide +kernel) ?_
      obtain rfl := Option.some.inj hf
      exact sd_zret (by decide +kernel) rfl rfl (hE _)

def M_YM_formBy : sd_MX := (yX12_formBy, cX12_formBy, 2, (some .int), { frames := 1, cells := 0, slots := 0, locals := 40 })
def YM_formBy (h : sd_H) (a0 : Int32) : Option Int32 :=
  gd (sd_inB a0 15) ((if (h.1 137 (a0 : Int32).toNatClampNeg) = (-1) then some 1 else gd (sd_inB a0 15) (gd (sd_inB (h.1 137 (a0 : Int32).toNatClampNeg) 6) (some (h.1 127 ((h.1 137 (a0 : Int32).toNatClampNeg) : Int32).toNatClampNeg)))))
set_option maxHeartbeats 4000000 in
set_option maxRecDepth 100000 in
theorem T_YM_formBy {G : sd_GX} {h : sd_H} {a0 : Int32} {r : Int32} (hf : YM_formBy h a0 = some r) : sd_RunF G M_YM_formBy [.ref (G.1 + 126), .int a0] h (some (.int r)) h := by
  refine sF_run ⟨rfl, rfl⟩ (by decide +kernel) (Nat.le_of_ble_eq_true rfl) (lo := [(0, .ref (G.1 + 126)), (1, .int a0)]) rfl (fun X hE => ?_)
  unfold YM_formBy at hf
  refine sd_aload_n (k := 0) (i := 0) (q := 0) (pc' := 1) (by decide +kernel) rfl rfl ?_
  refine sF_gr (idx := 41) (ci := 12) (k := 13) (n := 47) (r := 137) (pc' := 4) (by decide +kernel) fl_X12_41 (by decide +kernel) rfl SH_126 (by decide) (by decide +kernel) ?_
  refine sd_iload_n (k := 1) (i := 1) (q := 1) (pc' := 5) (by decide +kernel) rfl rfl ?_
  obtain ⟨g1, hf⟩ := gd_some hf
  refine sF_iald (n := 15) (pc' := 6) (by decide +kernel) SH_137 g1 ?_
  refine sd_iconst (n := -1) (v := (-1)) (pc' := 7) (by decide +kernel) (by decide) ?_
  refine sd_icmp_ne (off := 7) (tgt := 14) (pc' := 10) (by decide +kernel) (fun c2 => ?_) (fun c2 => ?_)
  · replace hf := ite_n c2 hf
    refine sd_aload_n (k := 0) (i := 0) (q := 0) (pc' := 15) (by decide +kernel) rfl rfl ?_
    refine sF_gr (idx := 7) (ci := 12) (k := 0) (n := 47) (r := 127) (pc' := 18) (by decide +kernel) fl_X12_7 (by decide +kernel) rfl SH_126 (by decide) (by decide +kernel) ?_
    refine sd_aload_n (k := 0) (i := 0) (q := 0) (pc' := 19) (by decide +kernel) rfl rfl ?_
    refine sF_gr (idx := 41) (ci := 12) (k := 13) (n := 47) (r := 137) (pc' := 22) (by decide +kernel) fl_X12_41 (by decide +kernel) rfl SH_126 (by decide) (by decide +kernel) ?_
    refine sd_iload_n (k := 1) (i := 1) (q := 1) (pc' := 23) (by decide +kernel) rfl rfl ?_
    obtain ⟨g3, hf⟩ := gd_some hf
    refine sF_iald (n := 15) (pc' := 24) (by decide +kernel) SH_137 g3 ?_
    obtain ⟨g4, hf⟩ := gd_some hf
    refine sF_iald (n := 6) (pc' := 25) (by decide +kernel) SH_127 g4 ?_
    obtain rfl := Option.some.inj hf
    exact sd_iret (by decide +kernel) rfl (hE _)
  · replace hf := ite_p c2 hf
    refine sd_iconst (n := 1) (v := 1) (pc' := 11) (by decide +kernel) (by decide) ?_
    refine sd_goto (off := 14) (tgt := 25) (pc' := 14) (by decide +kernel) ?_
    obtain rfl := Option.some.inj hf
    exact sd_iret (by decide +kernel) rfl (hE _)

theorem ml_X12_328 : Cond.methodLink RX12 328 yX12_formBy ∈ sd_tb := sd_mem (i := 1645) (by decide +kernel)
theorem mv_YM_formBy : sd_mV M_YM_formBy 1 := ⟨sd_mem (i := 1647) (by decide +kernel), sd_mem (i := 91) (by decide +kernel), ⟨sd_mem (i := 1648) (by decide +kernel), sd_mem (i := 119) (by decide +kernel), by decide +kernel, by decide +kernel, by decide +kernel⟩⟩
def M_YM_widthOf : sd_MX := (yX12_widthOf, cX12_widthOf, 6, (some .int), { frames := 2, cells := 0, slots := 0, locals := 62 })
def YM_widthOf_B94 (h : sd_H) : Option Int32 :=
  some 1
set_option maxHeartbeats 4000000 in
set_option maxRecDepth 100000 in
theorem J_YM_widthOf_B94 {G : sd_GX} {X : sd_CX} (hE : ∀ g : sd_H, sd_end G X M_YM_widthOf (sd_F g)) {h : sd_H} {r : Int32} (hf : YM_widthOf_B94 h = some r) : sd_J G X (sd_QR G X M_YM_widthOf (some (.int r), sd_F h)) M_YM_widthOf 94 [] [] (sd_F h) := by
  unfold YM_widthOf_B94 at hf
  refine sd_iconst (n := 1) (v := 1) (pc' := 95) (by decide +kernel) (by decide) ?_
  refine sd_goto (off := 4) (tgt := 99) (pc' := 98) (by decide +kernel) ?_
  obtain rfl := Option.some.inj hf
  exact sd_iret (by decide +kernel) rfl (hE _)
def YM_widthOf_B70 (h : sd_H) (K14 : Int32 → Int32 → Int32 → Int32 → Option Int32) (l1 : Int32) (l2 : Int32) (l4 : Int32) (s0 : Int32) : Option Int32 :=
  K14 l1 l2 s0 (l4 + 1)
set_option maxHeartbeats 4000000 in
set_option maxRecDepth 100000 in
theorem J_YM_widthOf_B70 {G : sd_GX} {X : sd_CX} (hE : ∀ g : sd_H, sd_end G X M_YM_widthOf (sd_F g)) {h : sd_H} {K14 : Int32 → Int32 → Int32 → Int32 → Option Int32} {r : Int32} (hK14 : ∀ (l1 : Int32) (l2 : Int32) (l3 : Int32) (l4 : Int32), K14 l1 l2 l3 l4 = some r → sd_J G X (sd_QR G X M_YM_widthOf (some (.int r), sd_F h)) M_YM_widthOf 14 [(0, .ref (G.1 + 126)), (1, .int l1), (2, .int l2), (3, .int l3), (4, .int l4)] [] (sd_F h)) {l1 : Int32} {l2 : Int32} {l4 : Int32} {s0 : Int32} (hf : YM_widthOf_B70 h K14 l1 l2 l4 s0 = some r) : sd_J G X (sd_QR G X M_YM_widthOf (some (.int r), sd_F h)) M_YM_widthOf 70 [(0, .ref (G.1 + 126)), (1, .int l1), (2, .int l2), (4, .int l4)] [.int s0] (sd_F h) := by
  unfold YM_widthOf_B70 at hf
  refine sd_istore_n (k := 3) (i := 3) (pc' := 71) (lo' := [(3, .int s0), (0, .ref (G.1 + 126)), (1, .int l1), (2, .int l2), (4, .int l4)]) (by decide +kernel) rfl (by decide) rfl ?_
  refine sd_iinc (i := 4) (q := 4) (n := 1) (v := (l4 + 1)) (pc' := 74) (lo' := [(4, .int (l4 + 1)), (3, .int s0), (0, .ref (G.1 + 126)), (1, .int l1), (2, .int l2)]) (by decide +kernel) rfl rfl (by decide) rfl ?_
  refine sd_goto (off := -60) (tgt := 14) (pc' := 77) (by decide +kernel) ?_
  refine sd_J.sub (lo' := [(0, .ref (G.1 + 126)), (1, .int l1), (2, .int l2), (3, .int s0), (4, .int (l4 + 1))]) [2, 3, 4, 1, 0] rfl ?_
  exact hK14 _ _ _ _ hf
def YM_widthOf_B69 (h : sd_H) (K14 : Int32 → Int32 → Int32 → Int32 → Option Int32) (l1 : Int32) (l2 : Int32) (l3 : Int32) (l4 : Int32) : Option Int32 :=
  YM_widthOf_B70 h K14 l1 l2 l4 l3
set_option maxHeartbeats 4000000 in
set_option maxRecDepth 100000 in
theorem J_YM_widthOf_B69 {G : sd_GX} {X : sd_CX} (hE : ∀ g : sd_H, sd_end G X M_YM_widthOf (sd_F g)) {h : sd_H} {K14 : Int32 → Int32 → Int32 → Int32 → Option Int32} {r : Int32} (hK14 : ∀ (l1 : Int32) (l2 : Int32) (l3 : Int32) (l4 : Int32), K14 l1 l2 l3 l4 = some r → sd_J G X (sd_QR G X M_YM_widthOf (some (.int r), sd_F h)) M_YM_widthOf 14 [(0, .ref (G.1 + 126)), (1, .int l1), (2, .int l2), (3, .int l3), (4, .int l4)] [] (sd_F h)) {l1 : Int32} {l2 : Int32} {l3 : Int32} {l4 : Int32} (hf : YM_widthOf_B69 h K14 l1 l2 l3 l4 = some r) : sd_J G X (sd_QR G X M_YM_widthOf (some (.int r), sd_F h)) M_YM_widthOf 69 [(0, .ref (G.1 + 126)), (1, .int l1), (2, .int l2), (3, .int l3), (4, .int l4)] [] (sd_F h) := by
  unfold YM_widthOf_B69 at hf
  refine sd_iload_n (k := 3) (i := 3) (q := 3) (pc' := 70) (by decide +kernel) rfl rfl ?_
  refine sd_J.sub (lo' := [(0, .ref (G.1 + 126)), (1, .int l1), (2, .int l2), (4, .int l4)]) [0, 1, 2, 4] rfl ?_
  exact J_YM_widthOf_B70 hE hK14 hf
def YM_widthOf_B43 (h : sd_H) (K14 : Int32 → Int32 → Int32 → Int32 → Option Int32) (l1 : Int32) (l2 : Int32) (l3 : Int32) (l4 : Int32) (s0 : Int32) : Option Int32 :=
  (if s0 = 0 then YM_widthOf_B69 h K14 l1 l2 l3 l4 else b1 (YM_formBy h l4) (fun t10 => (if t10 ≤ l3 then YM_widthOf_B69 h K14 l1 l2 l3 l4 else b1 (YM_formBy h l4) (fun t13 => YM_widthOf_B70 h K14 l1 l2 l4 t13))))
set_option maxHeartbeats 4000000 in
set_option maxRecDepth 100000 in
theorem J_YM_widthOf_B43 {G : sd_GX} {X : sd_CX} (hE : ∀ g : sd_H, sd_end G X M_YM_widthOf (sd_F g)) {h : sd_H} {K14 : Int32 → Int32 → Int32 → Int32 → Option Int32} {r : Int32} (hK14 : ∀ (l1 : Int32) (l2 : Int32) (l3 : Int32) (l4 : Int32), K14 l1 l2 l3 l4 = some r → sd_J G X (sd_QR G X M_YM_widthOf (some (.int r), sd_F h)) M_YM_widthOf 14 [(0, .ref (G.1 + 126)), (1, .int l1), (2, .int l2), (3, .int l3), (4, .int l4)] [] (sd_F h)) {l1 : Int32} {l2 : Int32} {l3 : Int32} {l4 : Int32} {s0 : Int32} (hf : YM_widthOf_B43 h K14 l1 l2 l3 l4 s0 = some r) : sd_J G X (sd_QR G X M_YM_widthOf (some (.int r), sd_F h)) M_YM_widthOf 43 [(0, .ref (G.1 + 126)), (1, .int l1), (2, .int l2), (3, .int l3), (4, .int l4)] [.int s0] (sd_F h) := by
  unfold YM_widthOf_B43 at hf
  refine sd_istore (i := 5) (pc' := 45) (lo' := [(5, .int s0), (0, .ref (G.1 + 126)), (1, .int l1), (2, .int l2), (3, .int l3), (4, .int l4)]) (by decide +kernel) (by decide) rfl ?_
  refine sd_iload (i := 5) (q := 0) (pc' := 47) (by decide +kernel) rfl ?_
  refine sd_if_eq (off := 22) (tgt := 69) (pc' := 50) (by decide +kernel) (fun c8 => ?_) (fun c8 => ?_)
  · replace hf := ite_p c8 hf
    refine sd_J.sub (lo' := [(0, .ref (G.1 + 126)), (1, .int l1), (2, .int l2), (3, .int l3), (4, .int l4)]) [1, 2, 3, 4, 5] rfl ?_
    exact J_YM_widthOf_B69 hE hK14 hf
  · replace hf := ite_n c8 hf
    refine sd_aload_n (k := 0) (i := 0) (q := 1) (pc' := 51) (by decide +kernel) rfl rfl ?_
    refine sd_iload (i := 4) (q := 5) (pc' := 53) (by decide +kernel) rfl ?_
    obtain ⟨t10, q9, hf⟩ := b1_some hf
    refine sF_callV (idx := 328) (b := 126) (As := [.int l4]) (ci := 12) (nn := 47) (pc' := 56) 1 (T_YM_formBy (G := G) (h := h)  q9) (by decide +kernel) mv_YM_formBy ml_X12_328 (by decide +kernel) rfl rfl (Nat.le_of_ble_eq_true rfl) SH_126 rfl (by decide) rfl rfl ?_
    refine sd_iload_n (k := 3) (i := 3) (q := 4) (pc' := 57) (by decide +kernel) rfl rfl ?_
    refine sd_icmp_le (off := 12) (tgt := 69) (pc' := 60) (by decide +kernel) (fun c11 => ?_) (fun c11 => ?_)
    · replace hf := ite_p c11 hf
      refine sd_J.sub (lo' := [(0, .ref (G.1 + 126)), (1, .int l1), (2, .int l2), (3, .int l3), (4, .int l4)]) [1, 2, 3, 4, 5] rfl ?_
      exact J_YM_widthOf_B69 hE hK14 hf
    · replace hf := ite_n c11 hf
      refine sd_aload_n (k := 0) (i := 0) (q := 1) (pc' := 61) (by decide +kernel) rfl rfl ?_
      refine sd_iload (i := 4) (q := 5) (pc' := 63) (by decide +kernel) rfl ?_
      obtain ⟨t13, q12, hf⟩ := b1_some hf
      refine sF_callV (idx := 328) (b := 126) (As := [.int l4]) (ci := 12) (nn := 47) (pc' := 66) 1 (T_YM_formBy (G := G) (h := h)  q12) (by decide +kernel) mv_YM_formBy ml_X12_328 (by decide +kernel) rfl rfl (Nat.le_of_ble_eq_true rfl) SH_126 rfl (by decide) rfl rfl ?_
      refine sd_goto (off := 4) (tgt := 70) (pc' := 69) (by decide +kernel) ?_
      refine sd_J.sub (lo' := [(0, .ref (G.1 + 126)), (1, .int l1), (2, .int l2), (4, .int l4)]) [1, 2, 3, 5] rfl ?_
      exact J_YM_widthOf_B70 hE hK14 hf
def YM_widthOf_B38 (h : sd_H) (K14 : Int32 → Int32 → Int32 → Int32 → Option Int32) (l1 : Int32) (l2 : Int32) (l3 : Int32) (l4 : Int32) : Option Int32 :=
  YM_widthOf_B43 h K14 l1 l2 l3 l4 1
set_option maxHeartbeats 4000000 in
set_option maxRecDepth 100000 in
theorem J_YM_widthOf_B38 {G : sd_GX} {X : sd_CX} (hE : ∀ g : sd_H, sd_end G X M_YM_widthOf (sd_F g)) {h : sd_H} {K14 : Int32 → Int32 → Int32 → Int32 → Option Int32} {r : Int32} (hK14 : ∀ (l1 : Int32) (l2 : Int32) (l3 : Int32) (l4 : Int32), K14 l1 l2 l3 l4 = some r → sd_J G X (sd_QR G X M_YM_widthOf (some (.int r), sd_F h)) M_YM_widthOf 14 [(0, .ref (G.1 + 126)), (1, .int l1), (2, .int l2), (3, .int l3), (4, .int l4)] [] (sd_F h)) {l1 : Int32} {l2 : Int32} {l3 : Int32} {l4 : Int32} (hf : YM_widthOf_B38 h K14 l1 l2 l3 l4 = some r) : sd_J G X (sd_QR G X M_YM_widthOf (some (.int r), sd_F h)) M_YM_widthOf 38 [(0, .ref (G.1 + 126)), (1, .int l1), (2, .int l2), (3, .int l3), (4, .int l4)] [] (sd_F h) := by
  unfold YM_widthOf_B38 at hf
  refine sd_iconst (n := 1) (v := 1) (pc' := 39) (by decide +kernel) (by decide) ?_
  refine sd_goto (off := 4) (tgt := 43) (pc' := 42) (by decide +kernel) ?_
  refine sd_J.sub (lo' := [(0, .ref (G.1 + 126)), (1, .int l1), (2, .int l2), (3, .int l3), (4, .int l4)]) [0, 1, 2, 3, 4] rfl ?_
  exact J_YM_widthOf_B43 hE hK14 hf
def YM_widthOf_L14 (h : sd_H) : Nat → Int32 → Int32 → Int32 → Int32 → Option Int32
  | 0, _, _, _, _ => none
  | n + 1, l1, l2, l3, l4 =>
  (if ((3 * l1) + 3) ≤ l4 then b1 (YM_in l2 6 8) (fun t4 => (if t4 = 0 then (if l2 < 11 then some l3 else YM_widthOf_B94 h) else YM_widthOf_B94 h)) else (if (l4 - l4 / 3 * 3) < 2 then YM_widthOf_B38 h (YM_widthOf_L14 h n) l1 l2 l3 l4 else (if l2 = 9 then YM_widthOf_B43 h (YM_widthOf_L14 h n) l1 l2 l3 l4 0 else YM_widthOf_B38 h (YM_widthOf_L14 h n) l1 l2 l3 l4)))
set_option maxHeartbeats 4000000 in
set_option maxRecDepth 100000 in
theorem J_YM_widthOf_L14 {G : sd_GX} {X : sd_CX} (hE : ∀ g : sd_H, sd_end G X M_YM_widthOf (sd_F g)) {h : sd_H} {r : Int32} : ∀ (n : Nat) (l1 : Int32) (l2 : Int32) (l3 : Int32) (l4 : Int32), YM_widthOf_L14 h n l1 l2 l3 l4 = some r → sd_J G X (sd_QR G X M_YM_widthOf (some (.int r), sd_F h)) M_YM_widthOf 14 [(0, .ref (G.1 + 126)), (1, .int l1), (2, .int l2), (3, .int l3), (4, .int l4)] [] (sd_F h) := by
  intro n
  induction n with
  | zero =>
    intro l1 l2 l3 l4 hf
    rw [YM_widthOf_L14] at hf
    cases hf
  | succ n ih =>
    intro l1 l2 l3 l4 hf
    rw [YM_widthOf_L14] at hf
    refine sd_iload (i := 4) (q := 4) (pc' := 16) (by decide +kernel) rfl ?_
    refine sd_iconst (n := 3) (v := 3) (pc' := 17) (by decide +kernel) (by decide) ?_
    refine sd_iload_n (k := 1) (i := 1) (q := 1) (pc' := 18) (by decide +kernel) rfl rfl ?_
    refine sd_imul (pc' := 19) (by decide +kernel) ?_
    refine sd_iconst (n := 3) (v := 3) (pc' := 20) (by decide +kernel) (by decide) ?_
    refine sd_iadd (pc' := 21) (by decide +kernel) ?_
    refine sd_icmp_ge (off := 56) (tgt := 77) (pc' := 24) (by decide +kernel) (fun c2 => ?_) (fun c2 => ?_)
    · replace hf := ite_p c2 hf
      refine sd_iload_n (k := 2) (i := 2) (q := 2) (pc' := 78) (by decide +kernel) rfl rfl ?_
      refine sd_bipush (n := 6) (v := 6) (pc' := 80) (by decide +kernel) (by decide) ?_
      refine sd_bipush (n := 8) (v := 8) (pc' := 82) (by decide +kernel) (by decide) ?_
      obtain ⟨t4, q3, hf⟩ := b1_some hf
      refine sF_callS (idx := 114) (As := [.int l2, .int 6, .int 8]) (pc' := 85) 3 (T_YM_in (G := G) (h := h)  q3) (by decide +kernel) mv_YM_in ml_X12_114 (by decide +kernel) rfl rfl (Nat.le_of_ble_eq_true rfl) rfl ?_
      refine sd_if_ne (off := 9) (tgt := 94) (pc' := 88) (by decide +kernel) (fun c5 => ?_) (fun c5 => ?_)
      · replace hf := ite_n c5 hf
        refine sd_J.sub (lo' := []) [] rfl ?_
        exact J_YM_widthOf_B94 hE hf
      · replace hf := ite_p c5 hf
        refine sd_iload_n (k := 2) (i := 2) (q := 2) (pc' := 89) (by decide +kernel) rfl rfl ?_
        refine sd_bipush (n := 11) (v := 11) (pc' := 91) (by decide +kernel) (by decide) ?_
        refine sd_icmp_lt (off := 7) (tgt := 98) (pc' := 94) (by decide +kernel) (fun c6 => ?_) (fun c6 => ?_)
        · replace hf := ite_p c6 hf
          refine sd_iload_n (k := 3) (i := 3) (q := 3) (pc' := 99) (by decide +kernel) rfl rfl ?_
          obtain rfl := Option.some.inj hf
          exact sd_iret (by decide +kernel) rfl (hE _)
        · replace hf := ite_n c6 hf
          refine sd_J.sub (lo' := []) [] rfl ?_
          exact J_YM_widthOf_B94 hE hf
    · replace hf := ite_n c2 hf
      refine sd_iload (i := 4) (q := 4) (pc' := 26) (by decide +kernel) rfl ?_
      refine sd_iconst (n := 3) (v := 3) (pc' := 27) (by decide +kernel) (by decide) ?_
      refine sd_irem (pc' := 28) (by decide +kernel) (by decide) ?_
      refine sd_iconst (n := 2) (v := 2) (pc' := 29) (by decide +kernel) (by decide) ?_
      refine sd_icmp_lt (off := 9) (tgt := 38) (pc' := 32) (by decide +kernel) (fun c7 => ?_) (fun c7 => ?_)
      · replace hf := ite_p c7 hf
        refine sd_J.sub (lo' := [(0, .ref (G.1 + 126)), (1, .int l1), (2, .int l2), (3, .int l3), (4, .int l4)]) [0, 1, 2, 3, 4] rfl ?_
        exact J_YM_widthOf_B38 hE ih hf
      · replace hf := ite_n c7 hf
        refine sd_iload_n (k := 2) (i := 2) (q := 2) (pc' := 33) (by decide +kernel) rfl rfl ?_
        refine sd_bipush (n := 9) (v := 9) (pc' := 35) (by decide +kernel) (by decide) ?_
        refine sd_icmp_eq (off := 7) (tgt := 42) (pc' := 38) (by decide +kernel) (fun c14 => ?_) (fun c14 => ?_)
        · replace hf := ite_p c14 hf
          refine sd_iconst (n := 0) (v := 0) (pc' := 43) (by decide +kernel) (by decide) ?_
          refine sd_J.sub (lo' := [(0, .ref (G.1 + 126)), (1, .int l1), (2, .int l2), (3, .int l3), (4, .int l4)]) [0, 1, 2, 3, 4] rfl ?_
          exact J_YM_widthOf_B43 hE ih hf
        · replace hf := ite_n c14 hf
          refine sd_J.sub (lo' := [(0, .ref (G.1 + 126)), (1, .int l1), (2, .int l2), (3, .int l3), (4, .int l4)]) [0, 1, 2, 3, 4] rfl ?_
          exact J_YM_widthOf_B38 hE ih hf
def YM_widthOf (h : sd_H) (a0 : Int32) : Option Int32 :=
  gd (sd_inB a0 5) (YM_widthOf_L14 h FU a0 (h.1 132 (a0 : Int32).toNatClampNeg) 1 (3 * a0))
set_option maxHeartbeats 4000000 in
set_option maxRecDepth 100000 in
theorem T_YM_widthOf {G : sd_GX} {h : sd_H} {a0 : Int32} {r : Int32} (hf : YM_widthOf h a0 = some r) : sd_RunF G M_YM_widthOf [.ref (G.1 + 126), .int a0] h (some (.int r)) h := by
  refine sF_run ⟨rfl, rfl⟩ (by decide +kernel) (Nat.le_of_ble_eq_true rfl) (lo := [(0, .ref (G.1 + 126)), (1, .int a0)]) rfl (fun X hE => ?_)
  unfold YM_widthOf at hf
  refine sd_aload_n (k := 0) (i := 0) (q := 0) (pc' := 1) (by decide +kernel) rfl rfl ?_
  refine sF_gr (idx := 26) (ci := 12) (k := 8) (n := 47) (r := 132) (pc' := 4) (by decide +kernel) fl_X12_26 (by decide +kernel) rfl SH_126 (by decide) (by decide +kernel) ?_
  refine sd_iload_n (k := 1) (i := 1) (q := 1) (pc' := 5) (by decide +kernel) rfl rfl ?_
  obtain ⟨g1, hf⟩ := gd_some hf
  refine sF_iald (n := 5) (pc' := 6) (by decide +kernel) SH_132 g1 ?_
  refine sd_istore_n (k := 2) (i := 2) (pc' := 7) (lo' := [(2, .int (h.1 132 (a0 : Int32).toNatClampNeg)), (0, .ref (G.1 + 126)), (1, .int a0)]) (by decide +kernel) rfl (by decide) rfl ?_
  refine sd_iconst (n := 1) (v := 1) (pc' := 8) (by decide +kernel) (by decide) ?_
  refine sd_istore_n (k := 3) (i := 3) (pc' := 9) (lo' := [(3, .int 1), (2, .int (h.1 132 (a0 : Int32).toNatClampNeg)), (0, .ref (G.1 + 126)), (1, .int a0)]) (by decide +kernel) rfl (by decide) rfl ?_
  refine sd_iconst (n := 3) (v := 3) (pc' := 10) (by decide +kernel) (by decide) ?_
  refine sd_iload_n (k := 1) (i := 1) (q := 3) (pc' := 11) (by decide +kernel) rfl rfl ?_
  refine sd_imul (pc' := 12) (by decide +kernel) ?_
  refine sd_istore (i := 4) (pc' := 14) (lo' := [(4, .int (3 * a0)), (3, .int 1), (2, .int (h.1 132 (a0 : Int32).toNatClampNeg)), (0, .ref (G.1 + 126)), (1, .int a0)]) (by decide +kernel) (by decide) rfl ?_
  refine sd_J.sub (lo' := [(0, .ref (G.1 + 126)), (1, .int a0), (2, .int (h.1 132 (a0 : Int32).toNatClampNeg)), (3, .int 1), (4, .int (3 * a0))]) [3, 4, 2, 1, 0] rfl ?_
  exact J_YM_widthOf_L14 hE _ _ _ _ _ hf

theorem fl_X12_331 : sd_fl RX12 331 12 39 := ⟨sd_mem (i := 1187) (by decide +kernel), by decide, by decide⟩
theorem ml_X12_334 : Cond.methodLink RX12 334 yX12_isInt ∈ sd_tb := sd_mem (i := 1653) (by decide +kernel)
theorem mv_YM_isInt : sd_mS M_YM_isInt 1 := ⟨sd_mem (i := 1654) (by decide +kernel), ⟨sd_mem (i := 1655) (by decide +kernel), sd_mem (i := 119) (by decide +kernel), by decide +kernel, by decide +kernel, by decide +kernel⟩⟩
theorem fl_X12_338 : sd_fl RX12 338 12 38 := ⟨sd_mem (i := 1186) (by decide +kernel), by decide, by decide⟩
def M_YM_byInts : sd_MX := (yX12_byInts, cX12_byInts, 6, (some .int), { frames := 2, cells := 0, slots := 0, locals := 61 })
def YM_byInts_B151 (h : sd_H) (l2 : Int32) (s0 : Int32) : Option (sd_H × Int32) :=
  gd (sd_isB s0) (hb (wI h 126 39 s0) (fun h8 => some (h8, l2)))
set_option maxHeartbeats 4000000 in
set_option maxRecDepth 100000 in
theorem J_YM_byInts_B151 {G : sd_GX} {X : sd_CX} (hE : ∀ g : sd_H, sd_end G X M_YM_byInts (sd_F g)) {h : sd_H} {r : (sd_H × Int32)} {l2 : Int32} {s0 : Int32} (hf : YM_byInts_B151 h l2 s0 = some r) : sd_J G X (sd_QR G X M_YM_byInts (some (.int r.2), sd_F r.1)) M_YM_byInts 151 [(2, .int l2)] [.int s0, .ref (G.1 + 126)] (sd_F h) := by
  unfold YM_byInts_B151 at hf
  obtain ⟨g10, hf⟩ := gd_some hf
  obtain ⟨h8, e9, hf⟩ := hb_some hf
  refine sF_pz (idx := 331) (ci := 12) (k := 39) (n := 47) (pc' := 154) (by decide +kernel) fl_X12_331 (by decide +kernel) rfl rfl rfl SH_126 g10 ?_
  rw [← e9]; clear e9
  refine sd_iload_n (k := 2) (i := 2) (q := 0) (pc' := 155) (by decide +kernel) rfl rfl ?_
  obtain rfl := Option.some.inj hf
  exact sd_iret (by decide +kernel) rfl (hE _)
def YM_byInts_B170 (h : sd_H) (l4 : Int64) (s0 : Int32) : Option (sd_H × Int32) :=
  hb (wI h 126 38 s0) (fun h14 => some (h14, (Int64.toInt32 l4)))
set_option maxHeartbeats 4000000 in
set_option maxRecDepth 100000 in
theorem J_YM_byInts_B170 {G : sd_GX} {X : sd_CX} (hE : ∀ g : sd_H, sd_end G X M_YM_byInts (sd_F g)) {h : sd_H} {r : (sd_H × Int32)} {l4 : Int64} {s0 : Int32} (hf : YM_byInts_B170 h l4 s0 = some r) : sd_J G X (sd_QR G X M_YM_byInts (some (.int r.2), sd_F r.1)) M_YM_byInts 170 [(4, .long l4)] [.int s0, .ref (G.1 + 126)] (sd_F h) := by
  unfold YM_byInts_B170 at hf
  obtain ⟨h14, e15, hf⟩ := hb_some hf
  refine sF_pi (idx := 338) (ci := 12) (k := 38) (n := 47) (pc' := 173) (by decide +kernel) fl_X12_338 (by decide +kernel) rfl rfl rfl SH_126 ?_
  rw [← e15]; clear e15
  refine sd_lload (i := 4) (q := 0) (pc' := 175) (by decide +kernel) rfl ?_
  refine sd_l2i (pc' := 176) (by decide +kernel) rfl ?_
  obtain rfl := Option.some.inj hf
  exact sd_iret (by decide +kernel) rfl (hE _)
def YM_byInts_B19 (h : sd_H) (l1 : Int32) (l2 : Int32) (l3 : Int32) (s0 : Int64) : Option (sd_H × Int32) :=
  (if l1 = 0 then some (h, (l2 + l3)) else (if l1 = 1 then some (h, (l2 - l3)) else (if l1 = 2 then some (h, (l2 * l3)) else (if l1 = 3 then (if l3 = 0 then some (h, 0) else gd (nz l3) (some (h, (l2 - l2 / l3 * l3)))) else (if l1 = 4 then (if l2 ≤ l3 then some (h, l3) else some (h, l2)) else (if l1 = 5 then (if l3 ≤ l2 then some (h, l3) else some (h, l2)) else (if l1 = 6 then some (h, (l2 &&& l3)) else (if l1 = 7 then some (h, (l2 ||| l3)) else (if l1 = 8 then some (h, (l2 ^^^ l3)) else (if l1 = 9 then some (h, l2) else (if l1 = 10 then (if l3 < l2 then YM_byInts_B151 h l2 0 else YM_byInts_B151 h l2 1) else (b1 (YM_isInt s0) (fun t12 => (if t12 = 0 then YM_byInts_B170 h s0 2 else YM_byInts_B170 h s0 (-1)))))))))))))))
set_option maxHeartbeats 4000000 in
set_option maxRecDepth 100000 in
theorem J_YM_byInts_B19 {G : sd_GX} {X : sd_CX} (hE : ∀ g : sd_H, sd_end G X M_YM_byInts (sd_F g)) {h : sd_H} {r : (sd_H × Int32)} {l1 : Int32} {l2 : Int32} {l3 : Int32} {s0 : Int64} (hf : YM_byInts_B19 h l1 l2 l3 s0 = some r) : sd_J G X (sd_QR G X M_YM_byInts (some (.int r.2), sd_F r.1)) M_YM_byInts 19 [(0, .ref (G.1 + 126)), (1, .int l1), (2, .int l2), (3, .int l3)] [.long s0] (sd_F h) := by
  unfold YM_byInts_B19 at hf
  refine sd_lstore (i := 4) (pc' := 21) (lo' := [(4, .long s0), (0, .ref (G.1 + 126)), (1, .int l1), (2, .int l2), (3, .int l3)]) (by decide +kernel) (by decide) rfl ?_
  refine sd_iload_n (k := 1) (i := 1) (q := 2) (pc' := 22) (by decide +kernel) rfl rfl ?_
  by_cases c2_0 : l1 = 0
  · replace hf := ite_p c2_0 hf
    refine sd_tswIn (dflt := 134) (lo0 := 0) (hi0 := 10) (offs := #[58, 62, 66, 70, 82, 93, 104, 108, 112, 116, 118]) (len := 58) (off := 58) (tgt := 80) (pc' := 80) (by decide +kernel) (by rw [c2_0]; decide) (by rw [c2_0]; decide) (by rw [c2_0]; decide) ?_
    refine sd_iload_n (k := 2) (i := 2) (q := 3) (pc' := 81) (by decide +kernel) rfl rfl ?_
    refine sd_iload_n (k := 3) (i := 3) (q := 4) (pc' := 82) (by decide +kernel) rfl rfl ?_
    refine sd_iadd (pc' := 83) (by decide +kernel) ?_
    obtain rfl := Option.some.inj hf
    exact sd_iret (by decide +kernel) rfl (hE _)
  · replace hf := ite_n c2_0 hf
    by_cases c2_1 : l1 = 1
    · replace hf := ite_p c2_1 hf
      refine sd_tswIn (dflt := 134) (lo0 := 0) (hi0 := 10) (offs := #[58, 62, 66, 70, 82, 93, 104, 108, 112, 116, 118]) (len := 58) (off := 62) (tgt := 84) (pc' := 80) (by decide +kernel) (by rw [c2_1]; decide) (by rw [c2_1]; decide) (by rw [c2_1]; decide) ?_
      refine sd_iload_n (k := 2) (i := 2) (q := 3) (pc' := 85) (by decide +kernel) rfl rfl ?_
      refine sd_iload_n (k := 3) (i := 3) (q := 4) (pc' := 86) (by decide +kernel) rfl rfl ?_
      refine sd_isub (pc' := 87) (by decide +kernel) ?_
      obtain rfl := Option.some.inj hf
      exact sd_iret (by decide +kernel) rfl (hE _)
    · replace hf := ite_n c2_1 hf
      by_cases c2_2 : l1 = 2
      · replace hf := ite_p c2_2 hf
        refine sd_tswIn (dflt := 134) (lo0 := 0) (hi0 := 10) (offs := #[58, 62, 66, 70, 82, 93, 104, 108, 112, 116, 118]) (len := 58) (off := 66) (tgt := 88) (pc' := 80) (by decide +kernel) (by rw [c2_2]; decide) (by rw [c2_2]; decide) (by rw [c2_2]; decide) ?_
        refine sd_iload_n (k := 2) (i := 2) (q := 3) (pc' := 89) (by decide +kernel) rfl rfl ?_
        refine sd_iload_n (k := 3) (i := 3) (q := 4) (pc' := 90) (by decide +kernel) rfl rfl ?_
        refine sd_imul (pc' := 91) (by decide +kernel) ?_
        obtain rfl := Option.some.inj hf
        exact sd_iret (by decide +kernel) rfl (hE _)
      · replace hf := ite_n c2_2 hf
        by_cases c2_3 : l1 = 3
        · replace hf := ite_p c2_3 hf
          refine sd_tswIn (dflt := 134) (lo0 := 0) (hi0 := 10) (offs := #[58, 62, 66, 70, 82, 93, 104, 108, 112, 116, 118]) (len := 58) (off := 70) (tgt := 92) (pc' := 80) (by decide +kernel) (by rw [c2_3]; decide) (by rw [c2_3]; decide) (by rw [c2_3]; decide) ?_
          refine sd_iload_n (k := 3) (i := 3) (q := 4) (pc' := 93) (by decide +kernel) rfl rfl ?_
          refine sd_if_ne (off := 7) (tgt := 100) (pc' := 96) (by decide +kernel) (fun c3 => ?_) (fun c3 => ?_)
          · replace hf := ite_n c3 hf
            refine sd_iload_n (k := 2) (i := 2) (q := 3) (pc' := 101) (by decide +kernel) rfl rfl ?_
            refine sd_iload_n (k := 3) (i := 3) (q := 4) (pc' := 102) (by decide +kernel) rfl rfl ?_
            obtain ⟨g4, hf⟩ := gd_some hf
            refine sd_irem (pc' := 103) (by decide +kernel) (nz_of g4) ?_
            obtain rfl := Option.some.inj hf
            exact sd_iret (by decide +kernel) rfl (hE _)
          · replace hf := ite_p c3 hf
            refine sd_iconst (n := 0) (v := 0) (pc' := 97) (by decide +kernel) (by decide) ?_
            refine sd_goto (off := 6) (tgt := 103) (pc' := 100) (by decide +kernel) ?_
            obtain rfl := Option.some.inj hf
            exact sd_iret (by decide +kernel) rfl (hE _)
        · replace hf := ite_n c2_3 hf
          by_cases c2_4 : l1 = 4
          · replace hf := ite_p c2_4 hf
            refine sd_tswIn (dflt := 134) (lo0 := 0) (hi0 := 10) (offs := #[58, 62, 66, 70, 82, 93, 104, 108, 112, 116, 118]) (len := 58) (off := 82) (tgt := 104) (pc' := 80) (by decide +kernel) (by rw [c2_4]; decide) (by rw [c2_4]; decide) (by rw [c2_4]; decide) ?_
            refine sd_iload_n (k := 2) (i := 2) (q := 3) (pc' := 105) (by decide +kernel) rfl rfl ?_
            refine sd_iload_n (k := 3) (i := 3) (q := 4) (pc' := 106) (by decide +kernel) rfl rfl ?_
            refine sd_icmp_le (off := 7) (tgt := 113) (pc' := 109) (by decide +kernel) (fun c5 => ?_) (fun c5 => ?_)
            · replace hf := ite_p c5 hf
              refine sd_iload_n (k := 3) (i := 3) (q := 4) (pc' := 114) (by decide +kernel) rfl rfl ?_
              obtain rfl := Option.some.inj hf
              exact sd_iret (by decide +kernel) rfl (hE _)
            · replace hf := ite_n c5 hf
              refine sd_iload_n (k := 2) (i := 2) (q := 3) (pc' := 110) (by decide +kernel) rfl rfl ?_
              refine sd_goto (off := 4) (tgt := 114) (pc' := 113) (by decide +kernel) ?_
              obtain rfl := Option.some.inj hf
              exact sd_iret (by decide +kernel) rfl (hE _)
          · replace hf := ite_n c2_4 hf
            by_cases c2_5 : l1 = 5
            · replace hf := ite_p c2_5 hf
              refine sd_tswIn (dflt := 134) (lo0 := 0) (hi0 := 10) (offs := #[58, 62, 66, 70, 82, 93, 104, 108, 112, 116, 118]) (len := 58) (off := 93) (tgt := 115) (pc' := 80) (by decide +kernel) (by rw [c2_5]; decide) (by rw [c2_5]; decide) (by rw [c2_5]; decide) ?_
              refine sd_iload_n (k := 2) (i := 2) (q := 3) (pc' := 116) (by decide +kernel) rfl rfl ?_
              refine sd_iload_n (k := 3) (i := 3) (q := 4) (pc' := 117) (by decide +kernel) rfl rfl ?_
              refine sd_icmp_ge (off := 7) (tgt := 124) (pc' := 120) (by decide +kernel) (fun c6 => ?_) (fun c6 => ?_)
              · replace hf := ite_p c6 hf
                refine sd_iload_n (k := 3) (i := 3) (q := 4) (pc' := 125) (by decide +kernel) rfl rfl ?_
                obtain rfl := Option.some.inj hf
                exact sd_iret (by decide +kernel) rfl (hE _)
              · replace hf := ite_n c6 hf
                refine sd_iload_n (k := 2) (i := 2) (q := 3) (pc' := 121) (by decide +kernel) rfl rfl ?_
                refine sd_goto (off := 4) (tgt := 125) (pc' := 124) (by decide +kernel) ?_
                obtain rfl := Option.some.inj hf
                exact sd_iret (by decide +kernel) rfl (hE _)
            · replace hf := ite_n c2_5 hf
              by_cases c2_6 : l1 = 6
              · replace hf := ite_p c2_6 hf
                refine sd_tswIn (dflt := 134) (lo0 := 0) (hi0 := 10) (offs := #[58, 62, 66, 70, 82, 93, 104, 108, 112, 116, 118]) (len := 58) (off := 104) (tgt := 126) (pc' := 80) (by decide +kernel) (by rw [c2_6]; decide) (by rw [c2_6]; decide) (by rw [c2_6]; decide) ?_
                refine sd_iload_n (k := 2) (i := 2) (q := 3) (pc' := 127) (by decide +kernel) rfl rfl ?_
                refine sd_iload_n (k := 3) (i := 3) (q := 4) (pc' := 128) (by decide +kernel) rfl rfl ?_
                refine sd_iand (pc' := 129) (by decide +kernel) ?_
                obtain rfl := Option.some.inj hf
                exact sd_iret (by decide +kernel) rfl (hE _)
              · replace hf := ite_n c2_6 hf
                by_cases c2_7 : l1 = 7
                · replace hf := ite_p c2_7 hf
                  refine sd_tswIn (dflt := 134) (lo0 := 0) (hi0 := 10) (offs := #[58, 62, 66, 70, 82, 93, 104, 108, 112, 116, 118]) (len := 58) (off := 108) (tgt := 130) (pc' := 80) (by decide +kernel) (by rw [c2_7]; decide) (by rw [c2_7]; decide) (by rw [c2_7]; decide) ?_
                  refine sd_iload_n (k := 2) (i := 2) (q := 3) (pc' := 131) (by decide +kernel) rfl rfl ?_
                  refine sd_iload_n (k := 3) (i := 3) (q := 4) (pc' := 132) (by decide +kernel) rfl rfl ?_
                  refine sd_ior (pc' := 133) (by decide +kernel) ?_
                  obtain rfl := Option.some.inj hf
                  exact sd_iret (by decide +kernel) rfl (hE _)
                · replace hf := ite_n c2_7 hf
                  by_cases c2_8 : l1 = 8
                  · replace hf := ite_p c2_8 hf
                    refine sd_tswIn (dflt := 134) (lo0 := 0) (hi0 := 10) (offs := #[58, 62, 66, 70, 82, 93, 104, 108, 112, 116, 118]) (len := 58) (off := 112) (tgt := 134) (pc' := 80) (by decide +kernel) (by rw [c2_8]; decide) (by rw [c2_8]; decide) (by rw [c2_8]; decide) ?_
                    refine sd_iload_n (k := 2) (i := 2) (q := 3) (pc' := 135) (by decide +kernel) rfl rfl ?_
                    refine sd_iload_n (k := 3) (i := 3) (q := 4) (pc' := 136) (by decide +kernel) rfl rfl ?_
                    refine sd_ixor (pc' := 137) (by decide +kernel) ?_
                    obtain rfl := Option.some.inj hf
                    exact sd_iret (by decide +kernel) rfl (hE _)
                  · replace hf := ite_n c2_8 hf
                    by_cases c2_9 : l1 = 9
                    · replace hf := ite_p c2_9 hf
                      refine sd_tswIn (dflt := 134) (lo0 := 0) (hi0 := 10) (offs := #[58, 62, 66, 70, 82, 93, 104, 108, 112, 116, 118]) (len := 58) (off := 116) (tgt := 138) (pc' := 80) (by decide +kernel) (by rw [c2_9]; decide) (by rw [c2_9]; decide) (by rw [c2_9]; decide) ?_
                      refine sd_iload_n (k := 2) (i := 2) (q := 3) (pc' := 139) (by decide +kernel) rfl rfl ?_
                      obtain rfl := Option.some.inj hf
                      exact sd_iret (by decide +kernel) rfl (hE _)
                    · replace hf := ite_n c2_9 hf
                      by_cases c2_10 : l1 = 10
                      · replace hf := ite_p c2_10 hf
                        refine sd_tswIn (dflt := 134) (lo0 := 0) (hi0 := 10) (offs := #[58, 62, 66, 70, 82, 93, 104, 108, 112, 116, 118]) (len := 58) (off := 118) (tgt := 140) (pc' := 80) (by decide +kernel) (by rw [c2_10]; decide) (by rw [c2_10]; decide) (by rw [c2_10]; decide) ?_
                        refine sd_aload_n (k := 0) (i := 0) (q := 1) (pc' := 141) (by decide +kernel) rfl rfl ?_
                        refine sd_iload_n (k := 2) (i := 2) (q := 3) (pc' := 142) (by decide +kernel) rfl rfl ?_
                        refine sd_iload_n (k := 3) (i := 3) (q := 4) (pc' := 143) (by decide +kernel) rfl rfl ?_
                        refine sd_icmp_gt (off := 7) (tgt := 150) (pc' := 146) (by decide +kernel) (fun c7 => ?_) (fun c7 => ?_)
                        · replace hf := ite_p c7 hf
                          refine sd_iconst (n := 0) (v := 0) (pc' := 151) (by decide +kernel) (by decide) ?_
                          refine sd_J.sub (lo' := [(2, .int l2)]) [3] rfl ?_
                          exact J_YM_byInts_B151 hE hf
                        · replace hf := ite_n c7 hf
                          refine sd_iconst (n := 1) (v := 1) (pc' := 147) (by decide +kernel) (by decide) ?_
                          refine sd_goto (off := 4) (tgt := 151) (pc' := 150) (by decide +kernel) ?_
                          refine sd_J.sub (lo' := [(2, .int l2)]) [3] rfl ?_
                          exact J_YM_byInts_B151 hE hf
                      · replace hf := ite_n c2_10 hf
                        have nc2_0 := ne_ti c2_0 (n := 0) (by decide)
                        have nc2_1 := ne_ti c2_1 (n := 1) (by decide)
                        have nc2_2 := ne_ti c2_2 (n := 2) (by decide)
                        have nc2_3 := ne_ti c2_3 (n := 3) (by decide)
                        have nc2_4 := ne_ti c2_4 (n := 4) (by decide)
                        have nc2_5 := ne_ti c2_5 (n := 5) (by decide)
                        have nc2_6 := ne_ti c2_6 (n := 6) (by decide)
                        have nc2_7 := ne_ti c2_7 (n := 7) (by decide)
                        have nc2_8 := ne_ti c2_8 (n := 8) (by decide)
                        have nc2_9 := ne_ti c2_9 (n := 9) (by decide)
                        have nc2_10 := ne_ti c2_10 (n := 10) (by decide)
                        refine sd_tswOut (dflt := 134) (lo0 := 0) (hi0 := 10) (offs := #[58, 62, 66, 70, 82, 93, 104, 108, 112, 116, 118]) (len := 58) (tgt := 156) (pc' := 80) (by decide +kernel) (by omega) ?_
                        refine sd_aload_n (k := 0) (i := 0) (q := 1) (pc' := 157) (by decide +kernel) rfl rfl ?_
                        refine sd_lload (i := 4) (q := 0) (pc' := 159) (by decide +kernel) rfl ?_
                        obtain ⟨t12, q11, hf⟩ := b1_some hf
                        refine sF_callS (idx := 334) (As := [.long s0]) (pc' := 162) 1 (T_YM_isInt (G := G) (h := h)  q11) (by decide +kernel) mv_YM_isInt ml_X12_334 (by decide +kernel) rfl rfl (Nat.le_of_ble_eq_true rfl) rfl ?_
                        refine sd_if_eq (off := 7) (tgt := 169) (pc' := 165) (by decide +kernel) (fun c13 => ?_) (fun c13 => ?_)
                        · replace hf := ite_p c13 hf
                          refine sd_iconst (n := 2) (v := 2) (pc' := 170) (by decide +kernel) (by decide) ?_
                          refine sd_J.sub (lo' := [(4, .long s0)]) [0] rfl ?_
                          exact J_YM_byInts_B170 hE hf
                        · replace hf := ite_n c13 hf
                          refine sd_iconst (n := -1) (v := (-1)) (pc' := 166) (by decide +kernel) (by decide) ?_
                          refine sd_goto (off := 4) (tgt := 170) (pc' := 169) (by decide +kernel) ?_
                          refine sd_J.sub (lo' := [(4, .long s0)]) [0] rfl ?_
                          exact J_YM_byInts_B170 hE hf
def YM_byInts (h : sd_H) (a0 : Int32) (a1 : Int32) (a2 : Int32) : Option (sd_H × Int32) :=
  (if a0 = 12 then YM_byInts_B19 h a0 a1 a2 ((Int32.toInt64 a1) * (Int32.toInt64 a2)) else YM_byInts_B19 h a0 a1 a2 ((Int32.toInt64 a1) + (Int32.toInt64 a2)))
set_option maxHeartbeats 4000000 in
set_option maxRecDepth 100000 in
theorem T_YM_byInts {G : sd_GX} {h : sd_H} {a0 : Int32} {a1 : Int32} {a2 : Int32} {r : (sd_H × Int32)} (hf : YM_byInts h a0 a1 a2 = some r) : sd_RunF G M_YM_byInts [.ref (G.1 + 126), .int a0, .int a1, .int a2] h (some (.int r.2)) r.1 := by
  refine sF_run ⟨rfl, rfl⟩ (by decide +kernel) (Nat.le_of_ble_eq_true rfl) (lo := [(0, .ref (G.1 + 126)), (1, .int a0), (2, .int a1), (3, .int a2)]) rfl (fun X hE => ?_)
  unfold YM_byInts at hf
  refine sd_iload_n (k := 1) (i := 1) (q := 1) (pc' := 1) (by decide +kernel) rfl rfl ?_
  refine sd_bipush (n := 12) (v := 12) (pc' := 3) (by decide +kernel) (by decide) ?_
  refine sd_icmp_ne (off := 11) (tgt := 14) (pc' := 6) (by decide +kernel) (fun c1 => ?_) (fun c1 => ?_)
  · replace hf := ite_n c1 hf
    refine sd_iload_n (k := 2) (i := 2) (q := 2) (pc' := 15) (by decide +kernel) rfl rfl ?_
    refine sd_i2l (pc' := 16) (by decide +kernel) rfl ?_
    refine sd_iload_n (k := 3) (i := 3) (q := 3) (pc' := 17) (by decide +kernel) rfl rfl ?_
    refine sd_i2l (pc' := 18) (by decide +kernel) rfl ?_
    refine sd_ladd (pc' := 19) (by decide +kernel) ?_
    refine sd_J.sub (lo' := [(0, .ref (G.1 + 126)), (1, .int a0), (2, .int a1), (3, .int a2)]) [0, 1, 2, 3] rfl ?_
    exact J_YM_byInts_B19 hE hf
  · replace hf := ite_p c1 hf
    refine sd_iload_n (k := 2) (i := 2) (q := 2) (pc' := 7) (by decide +kernel) rfl rfl ?_
    refine sd_i2l (pc' := 8) (by decide +kernel) rfl ?_
    refine sd_iload_n (k := 3) (i := 3) (q := 3) (pc' := 9) (by decide +kernel) rfl rfl ?_
    refine sd_i2l (pc' := 10) (by decide +kernel) rfl ?_
    refine sd_lmul (pc' := 11) (by decide +kernel) ?_
    refine sd_goto (off := 8) (tgt := 19) (pc' := 14) (by decide +kernel) ?_
    refine sd_J.sub (lo' := [(0, .ref (G.1 + 126)), (1, .int a0), (2, .int a1), (3, .int a2)]) [0, 1, 2, 3] rfl ?_
    exact J_YM_byInts_B19 hE hf

theorem sd_ldcwf0 {p : Program} {l : Launch} {e : Env} {R : Room} {s : State} {m : MethodId} {args : Array Value} {below : List Frame} {meth : Method} {c : Code} {T : State} {locs : List Loc} {cells slots : Nat} (X : Stand p l e R s m args below meth c T locs cells slots) (hexec : p.tables.exec = Jvm.exec) {own : String} {index : Nat} {b : UInt32} (hown : s.vm.findClass own = some m.cls)
    (hconst : (Cond.constantFloat own index b).before args s = true) {g : JFrame} (hg : g.method = m) (hdg : decode c.code g.pc = .ok (.ldc_w index, 3)) :
    ∀ target, Steps p.tables e below (T.setTop { g with pc := g.pc + 3, stack := .float b :: g.stack }) target → Steps p.tables e below (T.setTop g) target := by
  obtain ⟨k, cf, hk, hcf, hc⟩ := Cond.constantFloat_spec hown hconst
  obtain ⟨k', hk', he⟩ := X.warmed.alike.2.2 _ _ hk
  intro target hrest
  subst hg
  jvm_step X.here [hexec, hdg, ldc_w.wp_float (s := T) (f := g) X.here.top hk' (by rw [he]; exact hcf) hc]
  exact hrest
theorem sd_ldcwf {G : sd_GX} {X : sd_CX} {Q : State → Prop} {M : sd_MX} {pc pc' : Nat} {lo : List (Nat × Value)} {st : List Value} {h : sd_HX} {idx : Nat} {v : UInt32} (d : sd_d M pc (.ldc_w idx) 3 pc') (hw : Cond.constantFloat M.1.cls idx v ∈ sd_tb) (k : sd_J G X Q M pc' lo (.float v :: st) h) : sd_J G X Q M pc lo st h := fun hB H locs ls hH hS hl hf => by
  obtain ⟨d, rfl⟩ := d
  intro T hT Xs
  obtain ⟨t, a, b⟩ := k hB H locs ls hH hS hl hf T hT Xs
  exact ⟨t, sd_ldcwf0 Xs hB.1 hB.2.2.2.2.1 (hB.2.2.2.2.2.1 _ hw) (g := F0 _ pc ls st) rfl (by rw [hB.2.1]; exact d) t a, b⟩
def M_YM_byFloats : sd_MX := (yX12_byFloats, cX12_byFloats, 4, (some .float), { frames := 1, cells := 0, slots := 0, locals := 40 })
def YM_byFloats_B134 (h : sd_H) (l2 : UInt32) (s0 : Int32) : Option (sd_H × UInt32) :=
  gd (sd_isB s0) (hb (wI h 126 39 s0) (fun h13 => some (h13, l2)))
set_option maxHeartbeats 4000000 in
set_option maxRecDepth 100000 in
theorem J_YM_byFloats_B134 {G : sd_GX} {X : sd_CX} (hE : ∀ g : sd_H, sd_end G X M_YM_byFloats (sd_F g)) {h : sd_H} {r : (sd_H × UInt32)} {l2 : UInt32} {s0 : Int32} (hf : YM_byFloats_B134 h l2 s0 = some r) : sd_J G X (sd_QR G X M_YM_byFloats (some (.float r.2), sd_F r.1)) M_YM_byFloats 134 [(2, .float l2)] [.int s0, .ref (G.1 + 126)] (sd_F h) := by
  unfold YM_byFloats_B134 at hf
  obtain ⟨g15, hf⟩ := gd_some hf
  obtain ⟨h13, e14, hf⟩ := hb_some hf
  refine sF_pz (idx := 331) (ci := 12) (k := 39) (n := 47) (pc' := 137) (by decide +kernel) fl_X12_331 (by decide +kernel) rfl rfl rfl SH_126 g15 ?_
  rw [← e14]; clear e14
  refine sd_fload_n (k := 2) (i := 2) (q := 0) (pc' := 138) (by decide +kernel) rfl rfl ?_
  obtain rfl := Option.some.inj hf
  exact sd_fret (by decide +kernel) rfl (hE _)
def YM_byFloats (h : sd_H) (a0 : Int32) (a1 : UInt32) (a2 : UInt32) : Option (sd_H × UInt32) :=
  (if a0 = 0 then gd (nf (FP.fadd a1 a2)) (gd (nf (FP.frem (FP.fadd a1 a2) 1149239296)) (some (h, (FP.frem (FP.fadd a1 a2) 1149239296)))) else (if a0 = 1 then gd (nf (FP.fsub a1 a2)) (gd (nf (FP.frem (FP.fsub a1 a2) 1149239296)) (some (h, (FP.frem (FP.fsub a1 a2) 1149239296)))) else (if a0 = 2 then gd (nf (FP.fmul a1 a2)) (gd (nf (FP.frem (FP.fmul a1 a2) 1149239296)) (some (h, (FP.frem (FP.fmul a1 a2) 1149239296)))) else (if a0 = 3 then (if (Op.cmpValue (FP.fcmp a2 FP.fconst0) .l) = 0 then some (h, FP.fconst0) else gd (nf (FP.frem a1 a2)) (some (h, (FP.frem a1 a2)))) else (if a0 = 4 then (if (Op.cmpValue (FP.fcmp a1 a2) .l) ≤ 0 then some (h, a2) else some (h, a1)) else (if a0 = 5 then (if 0 ≤ (Op.cmpValue (FP.fcmp a1 a2) .g) then some (h, a2) else some (h, a1)) else (if a0 = 6 then some (h, a1) else (if a0 = 7 then some (h, a1) else (if a0 = 8 then some (h, a1) else (if a0 = 9 then some (h, a1) else (if a0 = 10 then (if 0 < (Op.cmpValue (FP.fcmp a1 a2) .g) then YM_byFloats_B134 h a1 0 else YM_byFloats_B134 h a1 1) else (some (h, a1)))))))))))))
set_option maxHeartbeats 4000000 in
set_option maxRecDepth 100000 in
theorem T_YM_byFloats {G : sd_GX} {h : sd_H} {a0 : Int32} {a1 : UInt32} {a2 : UInt32} {r : (sd_H × UInt32)} (hf : YM_byFloats h a0 a1 a2 = some r) : sd_RunF G M_YM_byFloats [.ref (G.1 + 126), .int a0, .float a1, .float a2] h (some (.float r.2)) r.1 := by
  refine sF_run ⟨rfl, rfl⟩ (by decide +kernel) (Nat.le_of_ble_eq_true rfl) (lo := [(0, .ref (G.1 + 126)), (1, .int a0), (2, .float a1), (3, .float a2)]) rfl (fun X hE => ?_)
  unfold YM_byFloats at hf
  refine sd_iload_n (k := 1) (i := 1) (q := 1) (pc' := 1) (by decide +kernel) rfl rfl ?_
  by_cases c1_0 : a0 = 0
  · replace hf := ite_p c1_0 hf
    refine sd_tswIn (dflt := 138) (lo0 := 0) (hi0 := 10) (offs := #[59, 67, 75, 83, 97, 109, 138, 138, 138, 138, 121]) (len := 59) (off := 59) (tgt := 60) (pc' := 60) (by decide +kernel) (by rw [c1_0]; decide) (by rw [c1_0]; decide) (by rw [c1_0]; decide) ?_
    refine sd_fload_n (k := 2) (i := 2) (q := 2) (pc' := 61) (by decide +kernel) rfl rfl ?_
    refine sd_fload_n (k := 3) (i := 3) (q := 3) (pc' := 62) (by decide +kernel) rfl rfl ?_
    obtain ⟨g2, hf⟩ := gd_some hf
    refine sd_fadd (pc' := 63) (by decide +kernel) (nf_of g2) ?_
    refine sd_ldcwf (idx := 341) (v := 1149239296) (pc' := 66) (by decide +kernel) (sd_mem (i := 1662) (by decide +kernel)) ?_
    obtain ⟨g3, hf⟩ := gd_some hf
    refine sd_frem (pc' := 67) (by decide +kernel) (nf_of g3) ?_
    obtain rfl := Option.some.inj hf
    exact sd_fret (by decide +kernel) rfl (hE _)
  · replace hf := ite_n c1_0 hf
    by_cases c1_1 : a0 = 1
    · replace hf := ite_p c1_1 hf
      refine sd_tswIn (dflt := 138) (lo0 := 0) (hi0 := 10) (offs := #[59, 67, 75, 83, 97, 109, 138, 138, 138, 138, 121]) (len := 59) (off := 67) (tgt := 68) (pc' := 60) (by decide +kernel) (by rw [c1_1]; decide) (by rw [c1_1]; decide) (by rw [c1_1]; decide) ?_
      refine sd_fload_n (k := 2) (i := 2) (q := 2) (pc' := 69) (by decide +kernel) rfl rfl ?_
      refine sd_fload_n (k := 3) (i := 3) (q := 3) (pc' := 70) (by decide +kernel) rfl rfl ?_
      obtain ⟨g4, hf⟩ := gd_some hf
      refine sd_fsub (pc' := 71) (by decide +kernel) (nf_of g4) ?_
      refine sd_ldcwf (idx := 341) (v := 1149239296) (pc' := 74) (by decide +kernel) (sd_mem (i := 1662) (by decide +kernel)) ?_
      obtain ⟨g5, hf⟩ := gd_some hf
      refine sd_frem (pc' := 75) (by decide +kernel) (nf_of g5) ?_
      obtain rfl := Option.some.inj hf
      exact sd_fret (by decide +kernel) rfl (hE _)
    · replace hf := ite_n c1_1 hf
      by_cases c1_2 : a0 = 2
      · replace hf := ite_p c1_2 hf
        refine sd_tswIn (dflt := 138) (lo0 := 0) (hi0 := 10) (offs := #[59, 67, 75, 83, 97, 109, 138, 138, 138, 138, 121]) (len := 59) (off := 75) (tgt := 76) (pc' := 60) (by decide +kernel) (by rw [c1_2]; decide) (by rw [c1_2]; decide) (by rw [c1_2]; decide) ?_
        refine sd_fload_n (k := 2) (i := 2) (q := 2) (pc' := 77) (by decide +kernel) rfl rfl ?_
        refine sd_fload_n (k := 3) (i := 3) (q := 3) (pc' := 78) (by decide +kernel) rfl rfl ?_
        obtain ⟨g6, hf⟩ := gd_some hf
        refine sd_fmul (pc' := 79) (by decide +kernel) (nf_of g6) ?_
        refine sd_ldcwf (idx := 341) (v := 1149239296) (pc' := 82) (by decide +kernel) (sd_mem (i := 1662) (by decide +kernel)) ?_
        obtain ⟨g7, hf⟩ := gd_some hf
        refine sd_frem (pc' := 83) (by decide +kernel) (nf_of g7) ?_
        obtain rfl := Option.some.inj hf
        exact sd_fret (by decide +kernel) rfl (hE _)
      · replace hf := ite_n c1_2 hf
        by_cases c1_3 : a0 = 3
        · replace hf := ite_p c1_3 hf
          refine sd_tswIn (dflt := 138) (lo0 := 0) (hi0 := 10) (offs := #[59, 67, 75, 83, 97, 109, 138, 138, 138, 138, 121]) (len := 59) (off := 83) (tgt := 84) (pc' := 60) (by decide +kernel) (by rw [c1_3]; decide) (by rw [c1_3]; decide) (by rw [c1_3]; decide) ?_
          refine sd_fload_n (k := 3) (i := 3) (q := 3) (pc' := 85) (by decide +kernel) rfl rfl ?_
          refine sd_fconst0 (pc' := 86) (by decide +kernel) ?_
          refine sd_fcmp (op := .l) (pc' := 87) (by decide +kernel) ?_
          refine sd_if_ne (off := 7) (tgt := 94) (pc' := 90) (by decide +kernel) (fun c8 => ?_) (fun c8 => ?_)
          · replace hf := ite_n c8 hf
            refine sd_fload_n (k := 2) (i := 2) (q := 2) (pc' := 95) (by decide +kernel) rfl rfl ?_
            refine sd_fload_n (k := 3) (i := 3) (q := 3) (pc' := 96) (by decide +kernel) rfl rfl ?_
            obtain ⟨g9, hf⟩ := gd_some hf
            refine sd_frem (pc' := 97) (by decide +kernel) (nf_of g9) ?_
            obtain rfl := Option.some.inj hf
            exact sd_fret (by decide +kernel) rfl (hE _)
          · replace hf := ite_p c8 hf
            refine sd_fconst0 (pc' := 91) (by decide +kernel) ?_
            refine sd_goto (off := 6) (tgt := 97) (pc' := 94) (by decide +kernel) ?_
            obtain rfl := Option.some.inj hf
            exact sd_fret (by decide +kernel) rfl (hE _)
        · replace hf := ite_n c1_3 hf
          by_cases c1_4 : a0 = 4
          · replace hf := ite_p c1_4 hf
            refine sd_tswIn (dflt := 138) (lo0 := 0) (hi0 := 10) (offs := #[59, 67, 75, 83, 97, 109, 138, 138, 138, 138, 121]) (len := 59) (off := 97) (tgt := 98) (pc' := 60) (by decide +kernel) (by rw [c1_4]; decide) (by rw [c1_4]; decide) (by rw [c1_4]; decide) ?_
            refine sd_fload_n (k := 2) (i := 2) (q := 2) (pc' := 99) (by decide +kernel) rfl rfl ?_
            refine sd_fload_n (k := 3) (i := 3) (q := 3) (pc' := 100) (by decide +kernel) rfl rfl ?_
            refine sd_fcmp (op := .l) (pc' := 101) (by decide +kernel) ?_
            refine sd_if_le (off := 7) (tgt := 108) (pc' := 104) (by decide +kernel) (fun c10 => ?_) (fun c10 => ?_)
            · replace hf := ite_p c10 hf
              refine sd_fload_n (k := 3) (i := 3) (q := 3) (pc' := 109) (by decide +kernel) rfl rfl ?_
              obtain rfl := Option.some.inj hf
              exact sd_fret (by decide +kernel) rfl (hE _)
            · replace hf := ite_n c10 hf
              refine sd_fload_n (k := 2) (i := 2) (q := 2) (pc' := 105) (by decide +kernel) rfl rfl ?_
              refine sd_goto (off := 4) (tgt := 109) (pc' := 108) (by decide +kernel) ?_
              obtain rfl := Option.some.inj hf
              exact sd_fret (by decide +kernel) rfl (hE _)
          · replace hf := ite_n c1_4 hf
            by_cases c1_5 : a0 = 5
            · replace hf := ite_p c1_5 hf
              refine sd_tswIn (dflt := 138) (lo0 := 0) (hi0 := 10) (offs := #[59, 67, 75, 83, 97, 109, 138, 138, 138, 138, 121]) (len := 59) (off := 109) (tgt := 110) (pc' := 60) (by decide +kernel) (by rw [c1_5]; decide) (by rw [c1_5]; decide) (by rw [c1_5]; decide) ?_
              refine sd_fload_n (k := 2) (i := 2) (q := 2) (pc' := 111) (by decide +kernel) rfl rfl ?_
              refine sd_fload_n (k := 3) (i := 3) (q := 3) (pc' := 112) (by decide +kernel) rfl rfl ?_
              refine sd_fcmp (op := .g) (pc' := 113) (by decide +kernel) ?_
              refine sd_if_ge (off := 7) (tgt := 120) (pc' := 116) (by decide +kernel) (fun c11 => ?_) (fun c11 => ?_)
              · replace hf := ite_p c11 hf
                refine sd_fload_n (k := 3) (i := 3) (q := 3) (pc' := 121) (by decide +kernel) rfl rfl ?_
                obtain rfl := Option.some.inj hf
                exact sd_fret (by decide +kernel) rfl (hE _)
              · replace hf := ite_n c11 hf
                refine sd_fload_n (k := 2) (i := 2) (q := 2) (pc' := 117) (by decide +kernel) rfl rfl ?_
                refine sd_goto (off := 4) (tgt := 121) (pc' := 120) (by decide +kernel) ?_
                obtain rfl := Option.some.inj hf
                exact sd_fret (by decide +kernel) rfl (hE _)
            · replace hf := ite_n c1_5 hf
              by_cases c1_6 : a0 = 6
              · replace hf := ite_p c1_6 hf
                refine sd_tswIn (dflt := 138) (lo0 := 0) (hi0 := 10) (offs := #[59, 67, 75, 83, 97, 109, 138, 138, 138, 138, 121]) (len := 59) (off := 138) (tgt := 139) (pc' := 60) (by decide +kernel) (by rw [c1_6]; decide) (by rw [c1_6]; decide) (by rw [c1_6]; decide) ?_
                refine sd_fload_n (k := 2) (i := 2) (q := 2) (pc' := 140) (by decide +kernel) rfl rfl ?_
                obtain rfl := Option.some.inj hf
                exact sd_fret (by decide +kernel) rfl (hE _)
              · replace hf := ite_n c1_6 hf
                by_cases c1_7 : a0 = 7
                · replace hf := ite_p c1_7 hf
                  refine sd_tswIn (dflt := 138) (lo0 := 0) (hi0 := 10) (offs := #[59, 67, 75, 83, 97, 109, 138, 138, 138, 138, 121]) (len := 59) (off := 138) (tgt := 139) (pc' := 60) (by decide +kernel) (by rw [c1_7]; decide) (by rw [c1_7]; decide) (by rw [c1_7]; decide) ?_
                  refine sd_fload_n (k := 2) (i := 2) (q := 2) (pc' := 140) (by decide +kernel) rfl rfl ?_
                  obtain rfl := Option.some.inj hf
                  exact sd_fret (by decide +kernel) rfl (hE _)
                · replace hf := ite_n c1_7 hf
                  by_cases c1_8 : a0 = 8
                  · replace hf := ite_p c1_8 hf
                    refine sd_tswIn (dflt := 138) (lo0 := 0) (hi0 := 10) (offs := #[59, 67, 75, 83, 97, 109, 138, 138, 138, 138, 121]) (len := 59) (off := 138) (tgt := 139) (pc' := 60) (by decide +kernel) (by rw [c1_8]; decide) (by rw [c1_8]; decide) (by rw [c1_8]; decide) ?_
                    refine sd_fload_n (k := 2) (i := 2) (q := 2) (pc' := 140) (by decide +kernel) rfl rfl ?_
                    obtain rfl := Option.some.inj hf
                    exact sd_fret (by decide +kernel) rfl (hE _)
                  · replace hf := ite_n c1_8 hf
                    by_cases c1_9 : a0 = 9
                    · replace hf := ite_p c1_9 hf
                      refine sd_tswIn (dflt := 138) (lo0 := 0) (hi0 := 10) (offs := #[59, 67, 75, 83, 97, 109, 138, 138, 138, 138, 121]) (len := 59) (off := 138) (tgt := 139) (pc' := 60) (by decide +kernel) (by rw [c1_9]; decide) (by rw [c1_9]; decide) (by rw [c1_9]; decide) ?_
                      refine sd_fload_n (k := 2) (i := 2) (q := 2) (pc' := 140) (by decide +kernel) rfl rfl ?_
                      obtain rfl := Option.some.inj hf
                      exact sd_fret (by decide +kernel) rfl (hE _)
                    · replace hf := ite_n c1_9 hf
                      by_cases c1_10 : a0 = 10
                      · replace hf := ite_p c1_10 hf
                        refine sd_tswIn (dflt := 138) (lo0 := 0) (hi0 := 10) (offs := #[59, 67, 75, 83, 97, 109, 138, 138, 138, 138, 121]) (len := 59) (off := 121) (tgt := 122) (pc' := 60) (by decide +kernel) (by rw [c1_10]; decide) (by rw [c1_10]; decide) (by rw [c1_10]; decide) ?_
                        refine sd_aload_n (k := 0) (i := 0) (q := 0) (pc' := 123) (by decide +kernel) rfl rfl ?_
                        refine sd_fload_n (k := 2) (i := 2) (q := 2) (pc' := 124) (by decide +kernel) rfl rfl ?_
                        refine sd_fload_n (k := 3) (i := 3) (q := 3) (pc' := 125) (by decide +kernel) rfl rfl ?_
                        refine sd_fcmp (op := .g) (pc' := 126) (by decide +kernel) ?_
                        refine sd_if_gt (off := 7) (tgt := 133) (pc' := 129) (by decide +kernel) (fun c12 => ?_) (fun c12 => ?_)
                        · replace hf := ite_p c12 hf
                          refine sd_iconst (n := 0) (v := 0) (pc' := 134) (by decide +kernel) (by decide) ?_
                          refine sd_J.sub (lo' := [(2, .float a1)]) [2] rfl ?_
                          exact J_YM_byFloats_B134 hE hf
                        · replace hf := ite_n c12 hf
                          refine sd_iconst (n := 1) (v := 1) (pc' := 130) (by decide +kernel) (by decide) ?_
                          refine sd_goto (off := 4) (tgt := 134) (pc' := 133) (by decide +kernel) ?_
                          refine sd_J.sub (lo' := [(2, .float a1)]) [2] rfl ?_
                          exact J_YM_byFloats_B134 hE hf
                      · replace hf := ite_n c1_10 hf
                        have nc1_0 := ne_ti c1_0 (n := 0) (by decide)
                        have nc1_1 := ne_ti c1_1 (n := 1) (by decide)
                        have nc1_2 := ne_ti c1_2 (n := 2) (by decide)
                        have nc1_3 := ne_ti c1_3 (n := 3) (by decide)
                        have nc1_4 := ne_ti c1_4 (n := 4) (by decide)
                        have nc1_5 := ne_ti c1_5 (n := 5) (by decide)
                        have nc1_6 := ne_ti c1_6 (n := 6) (by decide)
                        have nc1_7 := ne_ti c1_7 (n := 7) (by decide)
                        have nc1_8 := ne_ti c1_8 (n := 8) (by decide)
                        have nc1_9 := ne_ti c1_9 (n := 9) (by decide)
                        have nc1_10 := ne_ti c1_10 (n := 10) (by decide)
                        refine sd_tswOut (dflt := 138) (lo0 := 0) (hi0 := 10) (offs := #[59, 67, 75, 83, 97, 109, 138, 138, 138, 138, 121]) (len := 59) (tgt := 139) (pc' := 60) (by decide +kernel) (by omega) ?_
                        refine sd_fload_n (k := 2) (i := 2) (q := 2) (pc' := 140) (by decide +kernel) rfl rfl ?_
                        obtain rfl := Option.some.inj hf
                        exact sd_fret (by decide +kernel) rfl (hE _)

def M_YM_byDoubles : sd_MX := (yX12_byDoubles, cX12_byDoubles, 6, (some .double), { frames := 1, cells := 0, slots := 0, locals := 40 })
def YM_byDoubles_B144 (h : sd_H) (l2 : UInt64) (s0 : Int32) : Option (sd_H × UInt64) :=
  gd (sd_isB s0) (hb (wI h 126 39 s0) (fun h13 => some (h13, l2)))
set_option maxHeartbeats 4000000 in
set_option maxRecDepth 100000 in
theorem J_YM_byDoubles_B144 {G : sd_GX} {X : sd_CX} (hE : ∀ g : sd_H, sd_end G X M_YM_byDoubles (sd_F g)) {h : sd_H} {r : (sd_H × UInt64)} {l2 : UInt64} {s0 : Int32} (hf : YM_byDoubles_B144 h l2 s0 = some r) : sd_J G X (sd_QR G X M_YM_byDoubles (some (.double r.2), sd_F r.1)) M_YM_byDoubles 144 [(2, .double l2)] [.int s0, .ref (G.1 + 126)] (sd_F h) := by
  unfold YM_byDoubles_B144 at hf
  obtain ⟨g15, hf⟩ := gd_some hf
  obtain ⟨h13, e14, hf⟩ := hb_some hf
  refine sF_pz (idx := 331) (ci := 12) (k := 39) (n := 47) (pc' := 147) (by decide +kernel) fl_X12_331 (by decide +kernel) rfl rfl rfl SH_126 g15 ?_
  rw [← e14]; clear e14
  refine sd_dload_n (k := 2) (i := 2) (q := 0) (pc' := 148) (by decide +kernel) rfl rfl ?_
  obtain rfl := Option.some.inj hf
  exact sd_dret (by decide +kernel) rfl (hE _)
def YM_byDoubles (h : sd_H) (a0 : Int32) (a1 : UInt64) (a2 : UInt64) : Option (sd_H × UInt64) :=
  (if a0 = 0 then gd (nd (FP.dadd a1 a2)) (gd (nd (FP.drem (FP.dadd a1 a2) 4652218415073722368)) (some (h, (FP.drem (FP.dadd a1 a2) 4652218415073722368)))) else (if a0 = 1 then gd (nd (FP.dsub a1 a2)) (gd (nd (FP.drem (FP.dsub a1 a2) 4652218415073722368)) (some (h, (FP.drem (FP.dsub a1 a2) 4652218415073722368)))) else (if a0 = 2 then gd (nd (FP.dmul a1 a2)) (gd (nd (FP.drem (FP.dmul a1 a2) 4652218415073722368)) (some (h, (FP.drem (FP.dmul a1 a2) 4652218415073722368)))) else (if a0 = 3 then (if (Op.cmpValue (FP.dcmp a2 FP.dconst0) .l) = 0 then some (h, FP.dconst0) else gd (nd (FP.drem a1 a2)) (some (h, (FP.drem a1 a2)))) else (if a0 = 4 then (if (Op.cmpValue (FP.dcmp a1 a2) .l) ≤ 0 then some (h, a2) else some (h, a1)) else (if a0 = 5 then (if 0 ≤ (Op.cmpValue (FP.dcmp a1 a2) .g) then some (h, a2) else some (h, a1)) else (if a0 = 6 then some (h, a1) else (if a0 = 7 then some (h, a1) else (if a0 = 8 then some (h, a1) else (if a0 = 9 then some (h, a1) else (if a0 = 10 then (if 0 < (Op.cmpValue (FP.dcmp a1 a2) .g) then YM_byDoubles_B144 h a1 0 else YM_byDoubles_B144 h a1 1) else (some (h, a1)))))))))))))
set_option maxHeartbeats 4000000 in
set_option maxRecDepth 100000 in
theorem T_YM_byDoubles {G : sd_GX} {h : sd_H} {a0 : Int32} {a1 : UInt64} {a2 : UInt64} {r : (sd_H × UInt64)} (hf : YM_byDoubles h a0 a1 a2 = some r) : sd_RunF G M_YM_byDoubles [.ref (G.1 + 126), .int a0, .double a1, .double a2] h (some (.double r.2)) r.1 := by
  refine sF_run ⟨rfl, rfl⟩ (by decide +kernel) (Nat.le_of_ble_eq_true rfl) (lo := [(0, .ref (G.1 + 126)), (1, .int a0), (2, .double a1), (4, .double a2)]) rfl (fun X hE => ?_)
  unfold YM_byDoubles at hf
  refine sd_iload_n (k := 1) (i := 1) (q := 1) (pc' := 1) (by decide +kernel) rfl rfl ?_
  by_cases c1_0 : a0 = 0
  · replace hf := ite_p c1_0 hf
    refine sd_tswIn (dflt := 148) (lo0 := 0) (hi0 := 10) (offs := #[59, 68, 77, 86, 102, 116, 148, 148, 148, 148, 130]) (len := 59) (off := 59) (tgt := 60) (pc' := 60) (by decide +kernel) (by rw [c1_0]; decide) (by rw [c1_0]; decide) (by rw [c1_0]; decide) ?_
    refine sd_dload_n (k := 2) (i := 2) (q := 2) (pc' := 61) (by decide +kernel) rfl rfl ?_
    refine sd_dload (i := 4) (q := 3) (pc' := 63) (by decide +kernel) rfl ?_
    obtain ⟨g2, hf⟩ := gd_some hf
    refine sd_dadd (pc' := 64) (by decide +kernel) (nd_of g2) ?_
    refine sd_ldc2d (idx := 322) (v := 4652218415073722368) (pc' := 67) (by decide +kernel) (sd_mem (i := 1670) (by decide +kernel)) ?_
    obtain ⟨g3, hf⟩ := gd_some hf
    refine sd_drem (pc' := 68) (by decide +kernel) (nd_of g3) ?_
    obtain rfl := Option.some.inj hf
    exact sd_dret (by decide +kernel) rfl (hE _)
  · replace hf := ite_n c1_0 hf
    by_cases c1_1 : a0 = 1
    · replace hf := ite_p c1_1 hf
      refine sd_tswIn (dflt := 148) (lo0 := 0) (hi0 := 10) (offs := #[59, 68, 77, 86, 102, 116, 148, 148, 148, 148, 130]) (len := 59) (off := 68) (tgt := 69) (pc' := 60) (by decide +kernel) (by rw [c1_1]; decide) (by rw [c1_1]; decide) (by rw [c1_1]; decide) ?_
      refine sd_dload_n (k := 2) (i := 2) (q := 2) (pc' := 70) (by decide +kernel) rfl rfl ?_
      refine sd_dload (i := 4) (q := 3) (pc' := 72) (by decide +kernel) rfl ?_
      obtain ⟨g4, hf⟩ := gd_some hf
      refine sd_dsub (pc' := 73) (by decide +kernel) (nd_of g4) ?_
      refine sd_ldc2d (idx := 322) (v := 4652218415073722368) (pc' := 76) (by decide +kernel) (sd_mem (i := 1670) (by decide +kernel)) ?_
      obtain ⟨g5, hf⟩ := gd_some hf
      refine sd_drem (pc' := 77) (by decide +kernel) (nd_of g5) ?_
      obtain rfl := Option.some.inj hf
      exact sd_dret (by decide +kernel) rfl (hE _)
    · replace hf := ite_n c1_1 hf
      by_cases c1_2 : a0 = 2
      · replace hf := ite_p c1_2 hf
        refine sd_tswIn (dflt := 148) (lo0 := 0) (hi0 := 10) (offs := #[59, 68, 77, 86, 102, 116, 148, 148, 148, 148, 130]) (len := 59) (off := 77) (tgt := 78) (pc' := 60) (by decide +kernel) (by rw [c1_2]; decide) (by rw [c1_2]; decide) (by rw [c1_2]; decide) ?_
        refine sd_dload_n (k := 2) (i := 2) (q := 2) (pc' := 79) (by decide +kernel) rfl rfl ?_
        refine sd_dload (i := 4) (q := 3) (pc' := 81) (by decide +kernel) rfl ?_
        obtain ⟨g6, hf⟩ := gd_some hf
        refine sd_dmul (pc' := 82) (by decide +kernel) (nd_of g6) ?_
        refine sd_ldc2d (idx := 322) (v := 4652218415073722368) (pc' := 85) (by decide +kernel) (sd_mem (i := 1670) (by decide +kernel)) ?_
        obtain ⟨g7, hf⟩ := gd_some hf
        refine sd_drem (pc' := 86) (by decide +kernel) (nd_of g7) ?_
        obtain rfl := Option.some.inj hf
        exact sd_dret (by decide +kernel) rfl (hE _)
      · replace hf := ite_n c1_2 hf
        by_cases c1_3 : a0 = 3
        · replace hf := ite_p c1_3 hf
          refine sd_tswIn (dflt := 148) (lo0 := 0) (hi0 := 10) (offs := #[59, 68, 77, 86, 102, 116, 148, 148, 148, 148, 130]) (len := 59) (off := 86) (tgt := 87) (pc' := 60) (by decide +kernel) (by rw [c1_3]; decide) (by rw [c1_3]; decide) (by rw [c1_3]; decide) ?_
          refine sd_dload (i := 4) (q := 3) (pc' := 89) (by decide +kernel) rfl ?_
          refine sd_dconst0 (pc' := 90) (by decide +kernel) ?_
          refine sd_dcmp (op := .l) (pc' := 91) (by decide +kernel) ?_
          refine sd_if_ne (off := 7) (tgt := 98) (pc' := 94) (by decide +kernel) (fun c8 => ?_) (fun c8 => ?_)
          · replace hf := ite_n c8 hf
            refine sd_dload_n (k := 2) (i := 2) (q := 2) (pc' := 99) (by decide +kernel) rfl rfl ?_
            refine sd_dload (i := 4) (q := 3) (pc' := 101) (by decide +kernel) rfl ?_
            obtain ⟨g9, hf⟩ := gd_some hf
            refine sd_drem (pc' := 102) (by decide +kernel) (nd_of g9) ?_
            obtain rfl := Option.some.inj hf
            exact sd_dret (by decide +kernel) rfl (hE _)
          · replace hf := ite_p c8 hf
            refine sd_dconst0 (pc' := 95) (by decide +kernel) ?_
            refine sd_goto (off := 7) (tgt := 102) (pc' := 98) (by decide +kernel) ?_
            obtain rfl := Option.some.inj hf
            exact sd_dret (by decide +kernel) rfl (hE _)
        · replace hf := ite_n c1_3 hf
          by_cases c1_4 : a0 = 4
          · replace hf := ite_p c1_4 hf
            refine sd_tswIn (dflt := 148) (lo0 := 0) (hi0 := 10) (offs := #[59, 68, 77, 86, 102, 116, 148, 148, 148, 148, 130]) (len := 59) (off := 102) (tgt := 103) (pc' := 60) (by decide +kernel) (by rw [c1_4]; decide) (by rw [c1_4]; decide) (by rw [c1_4]; decide) ?_
            refine sd_dload_n (k := 2) (i := 2) (q := 2) (pc' := 104) (by decide +kernel) rfl rfl ?_
            refine sd_dload (i := 4) (q := 3) (pc' := 106) (by decide +kernel) rfl ?_
            refine sd_dcmp (op := .l) (pc' := 107) (by decide +kernel) ?_
            refine sd_if_le (off := 7) (tgt := 114) (pc' := 110) (by decide +kernel) (fun c10 => ?_) (fun c10 => ?_)
            · replace hf := ite_p c10 hf
              refine sd_dload (i := 4) (q := 3) (pc' := 116) (by decide +kernel) rfl ?_
              obtain rfl := Option.some.inj hf
              exact sd_dret (by decide +kernel) rfl (hE _)
            · replace hf := ite_n c10 hf
              refine sd_dload_n (k := 2) (i := 2) (q := 2) (pc' := 111) (by decide +kernel) rfl rfl ?_
              refine sd_goto (off := 5) (tgt := 116) (pc' := 114) (by decide +kernel) ?_
              obtain rfl := Option.some.inj hf
              exact sd_dret (by decide +kernel) rfl (hE _)
          · replace hf := ite_n c1_4 hf
            by_cases c1_5 : a0 = 5
            · replace hf := ite_p c1_5 hf
              refine sd_tswIn (dflt := 148) (lo0 := 0) (hi0 := 10) (offs := #[59, 68, 77, 86, 102, 116, 148, 148, 148, 148, 130]) (len := 59) (off := 116) (tgt := 117) (pc' := 60) (by decide +kernel) (by rw [c1_5]; decide) (by rw [c1_5]; decide) (by rw [c1_5]; decide) ?_
              refine sd_dload_n (k := 2) (i := 2) (q := 2) (pc' := 118) (by decide +kernel) rfl rfl ?_
              refine sd_dload (i := 4) (q := 3) (pc' := 120) (by decide +kernel) rfl ?_
              refine sd_dcmp (op := .g) (pc' := 121) (by decide +kernel) ?_
              refine sd_if_ge (off := 7) (tgt := 128) (pc' := 124) (by decide +kernel) (fun c11 => ?_) (fun c11 => ?_)
              · replace hf := ite_p c11 hf
                refine sd_dload (i := 4) (q := 3) (pc' := 130) (by decide +kernel) rfl ?_
                obtain rfl := Option.some.inj hf
                exact sd_dret (by decide +kernel) rfl (hE _)
              · replace hf := ite_n c11 hf
                refine sd_dload_n (k := 2) (i := 2) (q := 2) (pc' := 125) (by decide +kernel) rfl rfl ?_
                refine sd_goto (off := 5) (tgt := 130) (pc' := 128) (by decide +kernel) ?_
                obtain rfl := Option.some.inj hf
                exact sd_dret (by decide +kernel) rfl (hE _)
            · replace hf := ite_n c1_5 hf
              by_cases c1_6 : a0 = 6
              · replace hf := ite_p c1_6 hf
                refine sd_tswIn (dflt := 148) (lo0 := 0) (hi0 := 10) (offs := #[59, 68, 77, 86, 102, 116, 148, 148, 148, 148, 130]) (len := 59) (off := 148) (tgt := 149) (pc' := 60) (by decide +kernel) (by rw [c1_6]; decide) (by rw [c1_6]; decide) (by rw [c1_6]; decide) ?_
                refine sd_dload_n (k := 2) (i := 2) (q := 2) (pc' := 150) (by decide +kernel) rfl rfl ?_
                obtain rfl := Option.some.inj hf
                exact sd_dret (by decide +kernel) rfl (hE _)
              · replace hf := ite_n c1_6 hf
                by_cases c1_7 : a0 = 7
                · replace hf := ite_p c1_7 hf
                  refine sd_tswIn (dflt := 148) (lo0 := 0) (hi0 := 10) (offs := #[59, 68, 77, 86, 102, 116, 148, 148, 148, 148, 130]) (len := 59) (off := 148) (tgt := 149) (pc' := 60) (by decide +kernel) (by rw [c1_7]; decide) (by rw [c1_7]; decide) (by rw [c1_7]; decide) ?_
                  refine sd_dload_n (k := 2) (i := 2) (q := 2) (pc' := 150) (by decide +kernel) rfl rfl ?_
                  obtain rfl := Option.some.inj hf
                  exact sd_dret (by decide +kernel) rfl (hE _)
                · replace hf := ite_n c1_7 hf
                  by_cases c1_8 : a0 = 8
                  · replace hf := ite_p c1_8 hf
                    refine sd_tswIn (dflt := 148) (lo0 := 0) (hi0 := 10) (offs := #[59, 68, 77, 86, 102, 116, 148, 148, 148, 148, 130]) (len := 59) (off := 148) (tgt := 149) (pc' := 60) (by decide +kernel) (by rw [c1_8]; decide) (by rw [c1_8]; decide) (by rw [c1_8]; decide) ?_
                    refine sd_dload_n (k := 2) (i := 2) (q := 2) (pc' := 150) (by decide +kernel) rfl rfl ?_
                    obtain rfl := Option.some.inj hf
                    exact sd_dret (by decide +kernel) rfl (hE _)
                  · replace hf := ite_n c1_8 hf
                    by_cases c1_9 : a0 = 9
                    · replace hf := ite_p c1_9 hf
                      refine sd_tswIn (dflt := 148) (lo0 := 0) (hi0 := 10) (offs := #[59, 68, 77, 86, 102, 116, 148, 148, 148, 148, 130]) (len := 59) (off := 148) (tgt := 149) (pc' := 60) (by decide +kernel) (by rw [c1_9]; decide) (by rw [c1_9]; decide) (by rw [c1_9]; decide) ?_
                      refine sd_dload_n (k := 2) (i := 2) (q := 2) (pc' := 150) (by decide +kernel) rfl rfl ?_
                      obtain rfl := Option.some.inj hf
                      exact sd_dret (by decide +kernel) rfl (hE _)
                    · replace hf := ite_n c1_9 hf
                      by_cases c1_10 : a0 = 10
                      · replace hf := ite_p c1_10 hf
                        refine sd_tswIn (dflt := 148) (lo0 := 0) (hi0 := 10) (offs := #[59, 68, 77, 86, 102, 116, 148, 148, 148, 148, 130]) (len := 59) (off := 130) (tgt := 131) (pc' := 60) (by decide +kernel) (by rw [c1_10]; decide) (by rw [c1_10]; decide) (by rw [c1_10]; decide) ?_
                        refine sd_aload_n (k := 0) (i := 0) (q := 0) (pc' := 132) (by decide +kernel) rfl rfl ?_
                        refine sd_dload_n (k := 2) (i := 2) (q := 2) (pc' := 133) (by decide +kernel) rfl rfl ?_
                        refine sd_dload (i := 4) (q := 3) (pc' := 135) (by decide +kernel) rfl ?_
                        refine sd_dcmp (op := .g) (pc' := 136) (by decide +kernel) ?_
                        refine sd_if_gt (off := 7) (tgt := 143) (pc' := 139) (by decide +kernel) (fun c12 => ?_) (fun c12 => ?_)
                        · replace hf := ite_p c12 hf
                          refine sd_iconst (n := 0) (v := 0) (pc' := 144) (by decide +kernel) (by decide) ?_
                          refine sd_J.sub (lo' := [(2, .double a1)]) [2] rfl ?_
                          exact J_YM_byDoubles_B144 hE hf
                        · replace hf := ite_n c12 hf
                          refine sd_iconst (n := 1) (v := 1) (pc' := 140) (by decide +kernel) (by decide) ?_
                          refine sd_goto (off := 4) (tgt := 144) (pc' := 143) (by decide +kernel) ?_
                          refine sd_J.sub (lo' := [(2, .double a1)]) [2] rfl ?_
                          exact J_YM_byDoubles_B144 hE hf
                      · replace hf := ite_n c1_10 hf
                        have nc1_0 := ne_ti c1_0 (n := 0) (by decide)
                        have nc1_1 := ne_ti c1_1 (n := 1) (by decide)
                        have nc1_2 := ne_ti c1_2 (n := 2) (by decide)
                        have nc1_3 := ne_ti c1_3 (n := 3) (by decide)
                        have nc1_4 := ne_ti c1_4 (n := 4) (by decide)
                        have nc1_5 := ne_ti c1_5 (n := 5) (by decide)
                        have nc1_6 := ne_ti c1_6 (n := 6) (by decide)
                        have nc1_7 := ne_ti c1_7 (n := 7) (by decide)
                        have nc1_8 := ne_ti c1_8 (n := 8) (by decide)
                        have nc1_9 := ne_ti c1_9 (n := 9) (by decide)
                        have nc1_10 := ne_ti c1_10 (n := 10) (by decide)
                        refine sd_tswOut (dflt := 148) (lo0 := 0) (hi0 := 10) (offs := #[59, 68, 77, 86, 102, 116, 148, 148, 148, 148, 130]) (len := 59) (tgt := 149) (pc' := 60) (by decide +kernel) (by omega) ?_
                        refine sd_dload_n (k := 2) (i := 2) (q := 2) (pc' := 150) (by decide +kernel) rfl rfl ?_
                        obtain rfl := Option.some.inj hf
                        exact sd_dret (by decide +kernel) rfl (hE _)

theorem ml_X12_342 : Cond.methodLink RX12 342 yX12_widthOf ∈ sd_tb := sd_mem (i := 1641) (by decide +kernel)
theorem mv_YM_widthOf : sd_mV M_YM_widthOf 1 := ⟨sd_mem (i := 1643) (by decide +kernel), sd_mem (i := 90) (by decide +kernel), ⟨sd_mem (i := 1644) (by decide +kernel), sd_mem (i := 119) (by decide +kernel), by decide +kernel, by decide +kernel, by decide +kernel⟩⟩
theorem ml_X12_345 : Cond.methodLink RX12 345 yX12_byInts ∈ sd_tb := sd_mem (i := 1649) (by decide +kernel)
theorem mv_YM_byInts : sd_mV M_YM_byInts 3 := ⟨sd_mem (i := 1651) (by decide +kernel), sd_mem (i := 92) (by decide +kernel), ⟨sd_mem (i := 1652) (by decide +kernel), sd_mem (i := 119) (by decide +kernel), by decide +kernel, by decide +kernel, by decide +kernel⟩⟩
theorem ml_X12_348 : Cond.methodLink RX12 348 yX12_byFloats ∈ sd_tb := sd_mem (i := 1658) (by decide +kernel)
theorem mv_YM_byFloats : sd_mV M_YM_byFloats 3 := ⟨sd_mem (i := 1660) (by decide +kernel), sd_mem (i := 93) (by decide +kernel), ⟨sd_mem (i := 1661) (by decide +kernel), sd_mem (i := 119) (by decide +kernel), by decide +kernel, by decide +kernel, by decide +kernel⟩⟩
theorem ml_X12_352 : Cond.methodLink RX12 352 yX12_byDoubles ∈ sd_tb := sd_mem (i := 1666) (by decide +kernel)
theorem mv_YM_byDoubles : sd_mV M_YM_byDoubles 3 := ⟨sd_mem (i := 1668) (by decide +kernel), sd_mem (i := 94) (by decide +kernel), ⟨sd_mem (i := 1669) (by decide +kernel), sd_mem (i := 119) (by decide +kernel), by decide +kernel, by decide +kernel, by decide +kernel⟩⟩
def M_YM_does : sd_MX := (yX12_does, cX12_does, 7, (some .double), { frames := 3, cells := 0, slots := 0, locals := 87 })
def YM_does (h : sd_H) (a0 : Int32) (a1 : UInt64) (a2 : UInt64) : Option (sd_H × UInt64) :=
  hb (wI h 126 39 0) (fun h1 => gd (sd_inB a0 5) (b1 (YM_widthOf h1 a0) (fun t5 => (if t5 = 1 then b2 (YM_byInts h1 (h1.1 132 (a0 : Int32).toNatClampNeg) (FP.d2i a1) (FP.d2i a2)) (fun h8 t9 => some (h8, (FP.i2d t9))) else (if t5 = 2 then gd (nf (FP.d2f a1)) (gd (nf (FP.d2f a2)) (b2 (YM_byFloats h1 (h1.1 132 (a0 : Int32).toNatClampNeg) (FP.d2f a1) (FP.d2f a2)) (fun h13 t14 => gd (nd (FP.f2d t14)) (b1 (YM_zeroed (FP.f2d t14)) (fun t17 => some (h13, t17)))))) else (b2 (YM_byDoubles h1 (h1.1 132 (a0 : Int32).toNatClampNeg) a1 a2) (fun h19 t20 => b1 (YM_zeroed t20) (fun t22 => some (h19, t22)))))))))
set_option maxHeartbeats 4000000 in
set_option maxRecDepth 100000 in
theorem T_YM_does {G : sd_GX} {h : sd_H} {a0 : Int32} {a1 : UInt64} {a2 : UInt64} {r : (sd_H × UInt64)} (hf : YM_does h a0 a1 a2 = some r) : sd_RunF G M_YM_does [.ref (G.1 + 126), .int a0, .double a1, .double a2] h (some (.double r.2)) r.1 := by
  refine sF_run ⟨rfl, rfl⟩ (by decide +kernel) (Nat.le_of_ble_eq_true rfl) (lo := [(0, .ref (G.1 + 126)), (1, .int a0), (2, .double a1), (4, .double a2)]) rfl (fun X hE => ?_)
  unfold YM_does at hf
  refine sd_aload_n (k := 0) (i := 0) (q := 0) (pc' := 1) (by decide +kernel) rfl rfl ?_
  refine sd_iconst (n := 0) (v := 0) (pc' := 2) (by decide +kernel) (by decide) ?_
  obtain ⟨h1, e2, hf⟩ := hb_some hf
  refine sF_pz (idx := 331) (ci := 12) (k := 39) (n := 47) (pc' := 5) (by decide +kernel) fl_X12_331 (by decide +kernel) rfl rfl rfl SH_126 (by decide) ?_
  rw [← e2]; clear e2
  refine sd_aload_n (k := 0) (i := 0) (q := 0) (pc' := 6) (by decide +kernel) rfl rfl ?_
  refine sF_gr (idx := 26) (ci := 12) (k := 8) (n := 47) (r := 132) (pc' := 9) (by decide +kernel) fl_X12_26 (by decide +kernel) rfl SH_126 (by decide) (by decide +kernel) ?_
  refine sd_iload_n (k := 1) (i := 1) (q := 1) (pc' := 10) (by decide +kernel) rfl rfl ?_
  obtain ⟨g3, hf⟩ := gd_some hf
  refine sF_iald (n := 5) (pc' := 11) (by decide +kernel) SH_132 g3 ?_
  refine sd_istore (i := 6) (pc' := 13) (lo' := [(6, .int (h1.1 132 (a0 : Int32).toNatClampNeg)), (0, .ref (G.1 + 126)), (1, .int a0), (2, .double a1), (4, .double a2)]) (by decide +kernel) (by decide) rfl ?_
  refine sd_aload_n (k := 0) (i := 0) (q := 1) (pc' := 14) (by decide +kernel) rfl rfl ?_
  refine sd_iload_n (k := 1) (i := 1) (q := 2) (pc' := 15) (by decide +kernel) rfl rfl ?_
  obtain ⟨t5, q4, hf⟩ := b1_some hf
  refine sF_callV (idx := 342) (b := 126) (As := [.int a0]) (ci := 12) (nn := 47) (pc' := 18) 1 (T_YM_widthOf (G := G) (h := h1)  q4) (by decide +kernel) mv_YM_widthOf ml_X12_342 (by decide +kernel) rfl rfl (Nat.le_of_ble_eq_true rfl) SH_126 rfl (by decide) rfl rfl ?_
  by_cases c6_1 : t5 = 1
  · replace hf := ite_p c6_1 hf
    refine sd_lsw (dflt := 55) (ps := #[(1, 26), (2, 39)]) (len := 26) (off := 26) (tgt := 44) (pc' := 44) (by decide +kernel) (by decide) (by rw [c6_1]; decide) ?_
    refine sd_aload_n (k := 0) (i := 0) (q := 1) (pc' := 45) (by decide +kernel) rfl rfl ?_
    refine sd_iload (i := 6) (q := 0) (pc' := 47) (by decide +kernel) rfl ?_
    refine sd_dload_n (k := 2) (i := 2) (q := 3) (pc' := 48) (by decide +kernel) rfl rfl ?_
    refine sd_d2i (pc' := 49) (by decide +kernel) ?_
    refine sd_dload (i := 4) (q := 4) (pc' := 51) (by decide +kernel) rfl ?_
    refine sd_d2i (pc' := 52) (by decide +kernel) ?_
    obtain ⟨h8, t9, q7, hf⟩ := b2_some hf
    refine sF_callV (idx := 345) (b := 126) (As := [.int (h1.1 132 (a0 : Int32).toNatClampNeg), .int (FP.d2i a1), .int (FP.d2i a2)]) (ci := 12) (nn := 47) (pc' := 55) 3 (T_YM_byInts (G := G) (h := h1)  q7) (by decide +kernel) mv_YM_byInts ml_X12_345 (by decide +kernel) rfl rfl (Nat.le_of_ble_eq_true rfl) SH_126 rfl (by decide) rfl rfl ?_
    refine sd_i2d (pc' := 56) (by decide +kernel) ?_
    obtain rfl := Option.some.inj hf
    exact sd_dret (by decide +kernel) rfl (hE _)
  · replace hf := ite_n c6_1 hf
    by_cases c6_2 : t5 = 2
    · replace hf := ite_p c6_2 hf
      refine sd_lsw (dflt := 55) (ps := #[(1, 26), (2, 39)]) (len := 26) (off := 39) (tgt := 57) (pc' := 44) (by decide +kernel) (by decide) (by rw [c6_2]; decide) ?_
      refine sd_aload_n (k := 0) (i := 0) (q := 1) (pc' := 58) (by decide +kernel) rfl rfl ?_
      refine sd_iload (i := 6) (q := 0) (pc' := 60) (by decide +kernel) rfl ?_
      refine sd_dload_n (k := 2) (i := 2) (q := 3) (pc' := 61) (by decide +kernel) rfl rfl ?_
      obtain ⟨g10, hf⟩ := gd_some hf
      refine sd_d2f (pc' := 62) (by decide +kernel) (nf_of g10) ?_
      refine sd_dload (i := 4) (q := 4) (pc' := 64) (by decide +kernel) rfl ?_
      obtain ⟨g11, hf⟩ := gd_some hf
      refine sd_d2f (pc' := 65) (by decide +kernel) (nf_of g11) ?_
      obtain ⟨h13, t14, q12, hf⟩ := b2_some hf
      refine sF_callV (idx := 348) (b := 126) (As := [.int (h1.1 132 (a0 : Int32).toNatClampNeg), .float (FP.d2f a1), .float (FP.d2f a2)]) (ci := 12) (nn := 47) (pc' := 68) 3 (T_YM_byFloats (G := G) (h := h1)  q12) (by decide +kernel) mv_YM_byFloats ml_X12_348 (by decide +kernel) rfl rfl (Nat.le_of_ble_eq_true rfl) SH_126 rfl (by decide) rfl rfl ?_
      obtain ⟨g15, hf⟩ := gd_some hf
      refine sd_f2d (pc' := 69) (by decide +kernel) (nd_of g15) ?_
      obtain ⟨t17, q16, hf⟩ := b1_some hf
      refine sF_callS (idx := 118) (As := [.double (FP.f2d t14)]) (pc' := 72) 1 (T_YM_zeroed (G := G) (h := h13)  q16) (by decide +kernel) mv_YM_zeroed ml_X12_118 (by decide +kernel) rfl rfl (Nat.le_of_ble_eq_true rfl) rfl ?_
      obtain rfl := Option.some.inj hf
      exact sd_dret (by decide +kernel) rfl (hE _)
    · replace hf := ite_n c6_2 hf
      refine sd_lsw (dflt := 55) (ps := #[(1, 26), (2, 39)]) (len := 26) (off := 55) (tgt := 73) (pc' := 44) (by decide +kernel) (by decide) (by show Op.lookupswitch.offset [(1, 26), (2, 39)] 55 (t5 : Int32).toInt = 55; rw [lv_osw c6_1 (by decide), lv_osw c6_2 (by decide)]; rfl) ?_
      refine sd_aload_n (k := 0) (i := 0) (q := 1) (pc' := 74) (by decide +kernel) rfl rfl ?_
      refine sd_iload (i := 6) (q := 0) (pc' := 76) (by decide +kernel) rfl ?_
      refine sd_dload_n (k := 2) (i := 2) (q := 3) (pc' := 77) (by decide +kernel) rfl rfl ?_
      refine sd_dload (i := 4) (q := 4) (pc' := 79) (by decide +kernel) rfl ?_
      obtain ⟨h19, t20, q18, hf⟩ := b2_some hf
      refine sF_callV (idx := 352) (b := 126) (As := [.int (h1.1 132 (a0 : Int32).toNatClampNeg), .double a1, .double a2]) (ci := 12) (nn := 47) (pc' := 82) 3 (T_YM_byDoubles (G := G) (h := h1)  q18) (by decide +kernel) mv_YM_byDoubles ml_X12_352 (by decide +kernel) rfl rfl (Nat.le_of_ble_eq_true rfl) SH_126 rfl (by decide) rfl rfl ?_
      obtain ⟨t22, q21, hf⟩ := b1_some hf
      refine sF_callS (idx := 118) (As := [.double t20]) (pc' := 85) 1 (T_YM_zeroed (G := G) (h := h19)  q21) (by decide +kernel) mv_YM_zeroed ml_X12_118 (by decide +kernel) rfl rfl (Nat.le_of_ble_eq_true rfl) rfl ?_
      obtain rfl := Option.some.inj hf
      exact sd_dret (by decide +kernel) rfl (hE _)

def M_YM_lacksPlace : sd_MX := (yX12_lacksPlace, cX12_lacksPlace, 5, (some .int), { frames := 3, cells := 0, slots := 0, locals := 82 })
def YM_lacksPlace (h : sd_H) (a0 : Int32) (a1 : Int32) (a2 : Int32) : Option Int32 :=
  gd (sd_inB a0 15) (gd (sd_inB (h.1 137 (a0 : Int32).toNatClampNeg) 6) (b1 (YM_isNumbers (h.1 127 ((h.1 137 (a0 : Int32).toNatClampNeg) : Int32).toNatClampNeg)) (fun t4 => (if t4 = 0 then some 0 else b1 (YM_placeOf h a0 a1 a2) (fun t7 => gd (sd_inB (h.1 137 (a0 : Int32).toNatClampNeg) 6) (b1 (YM_in t7 0 ((h.1 128 ((h.1 137 (a0 : Int32).toNatClampNeg) : Int32).toNatClampNeg) - 1)) (fun t10 => (if t10 = 0 then some 1 else some (-1)))))))))
set_option maxHeartbeats 4000000 in
set_option maxRecDepth 100000 in
theorem T_YM_lacksPlace {G : sd_GX} {h : sd_H} {a0 : Int32} {a1 : Int32} {a2 : Int32} {r : Int32} (hf : YM_lacksPlace h a0 a1 a2 = some r) : sd_RunF G M_YM_lacksPlace [.ref (G.1 + 126), .int a0, .int a1, .int a2] h (some (.int r)) h := by
  refine sF_run ⟨rfl, rfl⟩ (by decide +kernel) (Nat.le_of_ble_eq_true rfl) (lo := [(0, .ref (G.1 + 126)), (1, .int a0), (2, .int a1), (3, .int a2)]) rfl (fun X hE => ?_)
  unfold YM_lacksPlace at hf
  refine sd_aload_n (k := 0) (i := 0) (q := 0) (pc' := 1) (by decide +kernel) rfl rfl ?_
  refine sF_gr (idx := 41) (ci := 12) (k := 13) (n := 47) (r := 137) (pc' := 4) (by decide +kernel) fl_X12_41 (by decide +kernel) rfl SH_126 (by decide) (by decide +kernel) ?_
  refine sd_iload_n (k := 1) (i := 1) (q := 1) (pc' := 5) (by decide +kernel) rfl rfl ?_
  obtain ⟨g1, hf⟩ := gd_some hf
  refine sF_iald (n := 15) (pc' := 6) (by decide +kernel) SH_137 g1 ?_
  refine sd_istore (i := 4) (pc' := 8) (lo' := [(4, .int (h.1 137 (a0 : Int32).toNatClampNeg)), (0, .ref (G.1 + 126)), (1, .int a0), (2, .int a1), (3, .int a2)]) (by decide +kernel) (by decide) rfl ?_
  refine sd_aload_n (k := 0) (i := 0) (q := 1) (pc' := 9) (by decide +kernel) rfl rfl ?_
  refine sF_gr (idx := 7) (ci := 12) (k := 0) (n := 47) (r := 127) (pc' := 12) (by decide +kernel) fl_X12_7 (by decide +kernel) rfl SH_126 (by decide) (by decide +kernel) ?_
  refine sd_iload (i := 4) (q := 0) (pc' := 14) (by decide +kernel) rfl ?_
  obtain ⟨g2, hf⟩ := gd_some hf
  refine sF_iald (n := 6) (pc' := 15) (by decide +kernel) SH_127 g2 ?_
  obtain ⟨t4, q3, hf⟩ := b1_some hf
  refine sF_callS (idx := 185) (As := [.int (h.1 127 ((h.1 137 (a0 : Int32).toNatClampNeg) : Int32).toNatClampNeg)]) (pc' := 18) 1 (T_YM_isNumbers (G := G) (h := h)  q3) (by decide +kernel) mv_YM_isNumbers ml_X12_185 (by decide +kernel) rfl rfl (Nat.le_of_ble_eq_true rfl) rfl ?_
  refine sd_if_ne (off := 7) (tgt := 25) (pc' := 21) (by decide +kernel) (fun c5 => ?_) (fun c5 => ?_)
  · replace hf := ite_n c5 hf
    refine sd_aload_n (k := 0) (i := 0) (q := 1) (pc' := 26) (by decide +kernel) rfl rfl ?_
    refine sd_iload_n (k := 1) (i := 1) (q := 2) (pc' := 27) (by decide +kernel) rfl rfl ?_
    refine sd_iload_n (k := 2) (i := 2) (q := 3) (pc' := 28) (by decide +kernel) rfl rfl ?_
    refine sd_iload_n (k := 3) (i := 3) (q := 4) (pc' := 29) (by decide +kernel) rfl rfl ?_
    obtain ⟨t7, q6, hf⟩ := b1_some hf
    refine sF_callV (idx := 200) (b := 126) (As := [.int a0, .int a1, .int a2]) (ci := 12) (nn := 47) (pc' := 32) 3 (T_YM_placeOf (G := G) (h := h)  q6) (by decide +kernel) mv_YM_placeOf ml_X12_200 (by decide +kernel) rfl rfl (Nat.le_of_ble_eq_true rfl) SH_126 rfl (by decide) rfl rfl ?_
    refine sd_iconst (n := 0) (v := 0) (pc' := 33) (by decide +kernel) (by decide) ?_
    refine sd_aload_n (k := 0) (i := 0) (q := 1) (pc' := 34) (by decide +kernel) rfl rfl ?_
    refine sF_gr (idx := 13) (ci := 12) (k := 1) (n := 47) (r := 128) (pc' := 37) (by decide +kernel) fl_X12_13 (by decide +kernel) rfl SH_126 (by decide) (by decide +kernel) ?_
    refine sd_iload (i := 4) (q := 0) (pc' := 39) (by decide +kernel) rfl ?_
    obtain ⟨g8, hf⟩ := gd_some hf
    refine sF_iald (n := 6) (pc' := 40) (by decide +kernel) SH_128 g8 ?_
    refine sd_iconst (n := 1) (v := 1) (pc' := 41) (by decide +kernel) (by decide) ?_
    refine sd_isub (pc' := 42) (by decide +kernel) ?_
    obtain ⟨t10, q9, hf⟩ := b1_some hf
    refine sF_callS (idx := 114) (As := [.int t7, .int 0, .int ((h.1 128 ((h.1 137 (a0 : Int32).toNatClampNeg) : Int32).toNatClampNeg) - 1)]) (pc' := 45) 3 (T_YM_in (G := G) (h := h)  q9) (by decide +kernel) mv_YM_in ml_X12_114 (by decide +kernel) rfl rfl (Nat.le_of_ble_eq_true rfl) rfl ?_
    refine sd_if_eq (off := 7) (tgt := 52) (pc' := 48) (by decide +kernel) (fun c11 => ?_) (fun c11 => ?_)
    · replace hf := ite_p c11 hf
      refine sd_iconst (n := 1) (v := 1) (pc' := 53) (by decide +kernel) (by decide) ?_
      obtain rfl := Option.some.inj hf
      exact sd_iret (by decide +kernel) rfl (hE _)
    · replace hf := ite_n c11 hf
      refine sd_iconst (n := -1) (v := (-1)) (pc' := 49) (by decide +kernel) (by decide) ?_
      refine sd_goto (off := 4) (tgt := 53) (pc' := 52) (by decide +kernel) ?_
      obtain rfl := Option.some.inj hf
      exact sd_iret (by decide +kernel) rfl (hE _)
  · replace hf := ite_p c5 hf
    refine sd_iconst (n := 0) (v := 0) (pc' := 22) (by decide +kernel) (by decide) ?_
    refine sd_goto (off := 31) (tgt := 53) (pc' := 25) (by decide +kernel) ?_
    obtain rfl := Option.some.inj hf
    exact sd_iret (by decide +kernel) rfl (hE _)

theorem ml_X12_356 : Cond.methodLink RX12 356 yX12_lacksPlace ∈ sd_tb := sd_mem (i := 1633) (by decide +kernel)
theorem mv_YM_lacksPlace : sd_mV M_YM_lacksPlace 3 := ⟨sd_mem (i := 1635) (by decide +kernel), sd_mem (i := 88) (by decide +kernel), ⟨sd_mem (i := 1636) (by decide +kernel), sd_mem (i := 119) (by decide +kernel), by decide +kernel, by decide +kernel, by decide +kernel⟩⟩
theorem fl_X12_359 : sd_fl RX12 359 12 33 := ⟨sd_mem (i := 1181) (by decide +kernel), by decide, by decide⟩
theorem fl_X12_68 : sd_fl RX12 68 12 29 := ⟨sd_mem (i := 1177) (by decide +kernel), by decide, by decide⟩
theorem fl_X12_77 : sd_fl RX12 77 12 32 := ⟨sd_mem (i := 1180) (by decide +kernel), by decide, by decide⟩
theorem fl_X12_71 : sd_fl RX12 71 12 30 := ⟨sd_mem (i := 1178) (by decide +kernel), by decide, by decide⟩
theorem fl_X12_74 : sd_fl RX12 74 12 31 := ⟨sd_mem (i := 1179) (by decide +kernel), by decide, by decide⟩
def M_YM_read : sd_MX := (yX12_read, cX12_read, 5, (some .double), { frames := 4, cells := 0, slots := 0, locals := 106 })
def YM_read_B78 (h : sd_H) (l4 : Int32) : Option (sd_H × UInt64) :=
  gd (sd_inB l4 144) (some (h, (h.2.1 129 (l4 : Int32).toNatClampNeg)))
set_option maxHeartbeats 4000000 in
set_option maxRecDepth 100000 in
theorem J_YM_read_B78 {G : sd_GX} {X : sd_CX} (hE : ∀ g : sd_H, sd_end G X M_YM_read (sd_F g)) {h : sd_H} {r : (sd_H × UInt64)} {l4 : Int32} (hf : YM_read_B78 h l4 = some r) : sd_J G X (sd_QR G X M_YM_read (some (.double r.2), sd_F r.1)) M_YM_read 78 [(0, .ref (G.1 + 126)), (4, .int l4)] [] (sd_F h) := by
  unfold YM_read_B78 at hf
  refine sd_aload_n (k := 0) (i := 0) (q := 0) (pc' := 79) (by decide +kernel) rfl rfl ?_
  refine sF_gr (idx := 16) (ci := 12) (k := 2) (n := 47) (r := 129) (pc' := 82) (by decide +kernel) fl_X12_16 (by decide +kernel) rfl SH_126 (by decide) (by decide +kernel) ?_
  refine sd_iload (i := 4) (q := 1) (pc' := 84) (by decide +kernel) rfl ?_
  obtain ⟨g13, hf⟩ := gd_some hf
  refine sF_dald (n := 144) (pc' := 85) (by decide +kernel) SH_129 g13 ?_
  obtain rfl := Option.some.inj hf
  exact sd_dret (by decide +kernel) rfl (hE _)
def YM_read (h : sd_H) (a0 : Int32) (a1 : Int32) (a2 : Int32) : Option (sd_H × UInt64) :=
  b1 (YM_isLooked h a0) (fun t2 => (if t2 = 0 then gd (sd_inB a0 15) (some (h, (FP.i2d (h.1 138 (a0 : Int32).toNatClampNeg)))) else b1 (YM_lacksPlace h a0 a1 a2) (fun t5 => hb (wI h 126 38 t5) (fun h6 => (if (h6.1 126 38) = (-1) then gd (sd_inB a0 15) (b1 (YM_placeOf h6 a0 a1 a2) (fun t11 => (if (h6.1 126 33) = 0 then YM_read_B78 h6 ((24 * (h6.1 137 (a0 : Int32).toNatClampNeg)) + t11) else gd (sd_inB a0 15) (gd (sd_inB (h6.1 137 (a0 : Int32).toNatClampNeg) 6) ((if (h6.1 146 ((h6.1 137 (a0 : Int32).toNatClampNeg) : Int32).toNatClampNeg) = 3 then gd (sd_inB ((144 * a1) + ((24 * (h6.1 137 (a0 : Int32).toNatClampNeg)) + t11)) 1440) ((if (h6.1 149 (((144 * a1) + ((24 * (h6.1 137 (a0 : Int32).toNatClampNeg)) + t11)) : Int32).toNatClampNeg) = 0 then gd (sd_inB ((24 * (h6.1 137 (a0 : Int32).toNatClampNeg)) + t11) 144) (some (h6, (h6.2.1 147 (((24 * (h6.1 137 (a0 : Int32).toNatClampNeg)) + t11) : Int32).toNatClampNeg))) else gd (sd_inB ((144 * a1) + ((24 * (h6.1 137 (a0 : Int32).toNatClampNeg)) + t11)) 1440) (some (h6, (h6.2.1 148 (((144 * a1) + ((24 * (h6.1 137 (a0 : Int32).toNatClampNeg)) + t11)) : Int32).toNatClampNeg))))) else YM_read_B78 h6 ((24 * (h6.1 137 (a0 : Int32).toNatClampNeg)) + t11))))))) else some (h6, FP.dconst0))))))
set_option maxHeartbeats 4000000 in
set_option maxRecDepth 100000 in
theorem T_YM_read {G : sd_GX} {h : sd_H} {a0 : Int32} {a1 : Int32} {a2 : Int32} {r : (sd_H × UInt64)} (hf : YM_read h a0 a1 a2 = some r) : sd_RunF G M_YM_read [.ref (G.1 + 126), .int a0, .int a1, .int a2] h (some (.double r.2)) r.1 := by
  refine sF_run ⟨rfl, rfl⟩ (by decide +kernel) (Nat.le_of_ble_eq_true rfl) (lo := [(0, .ref (G.1 + 126)), (1, .int a0), (2, .int a1), (3, .int a2)]) rfl (fun X hE => ?_)
  unfold YM_read at hf
  refine sd_aload_n (k := 0) (i := 0) (q := 0) (pc' := 1) (by decide +kernel) rfl rfl ?_
  refine sd_iload_n (k := 1) (i := 1) (q := 1) (pc' := 2) (by decide +kernel) rfl rfl ?_
  obtain ⟨t2, q1, hf⟩ := b1_some hf
  refine sF_callV (idx := 228) (b := 126) (As := [.int a0]) (ci := 12) (nn := 47) (pc' := 5) 1 (T_YM_isLooked (G := G) (h := h)  q1) (by decide +kernel) mv_YM_isLooked ml_X12_228 (by decide +kernel) rfl rfl (Nat.le_of_ble_eq_true rfl) SH_126 rfl (by decide) rfl rfl ?_
  refine sd_if_ne (off := 11) (tgt := 16) (pc' := 8) (by decide +kernel) (fun c3 => ?_) (fun c3 => ?_)
  · replace hf := ite_n c3 hf
    refine sd_aload_n (k := 0) (i := 0) (q := 0) (pc' := 17) (by decide +kernel) rfl rfl ?_
    refine sd_aload_n (k := 0) (i := 0) (q := 0) (pc' := 18) (by decide +kernel) rfl rfl ?_
    refine sd_iload_n (k := 1) (i := 1) (q := 1) (pc' := 19) (by decide +kernel) rfl rfl ?_
    refine sd_iload_n (k := 2) (i := 2) (q := 2) (pc' := 20) (by decide +kernel) rfl rfl ?_
    refine sd_iload_n (k := 3) (i := 3) (q := 3) (pc' := 21) (by decide +kernel) rfl rfl ?_
    obtain ⟨t5, q4, hf⟩ := b1_some hf
    refine sF_callV (idx := 356) (b := 126) (As := [.int a0, .int a1, .int a2]) (ci := 12) (nn := 47) (pc' := 24) 3 (T_YM_lacksPlace (G := G) (h := h)  q4) (by decide +kernel) mv_YM_lacksPlace ml_X12_356 (by decide +kernel) rfl rfl (Nat.le_of_ble_eq_true rfl) SH_126 rfl (by decide) rfl rfl ?_
    obtain ⟨h6, e7, hf⟩ := hb_some hf
    refine sF_pi (idx := 338) (ci := 12) (k := 38) (n := 47) (pc' := 27) (by decide +kernel) fl_X12_338 (by decide +kernel) rfl rfl rfl SH_126 ?_
    rw [← e7]; clear e7
    refine sd_aload_n (k := 0) (i := 0) (q := 0) (pc' := 28) (by decide +kernel) rfl rfl ?_
    refine sF_gi (idx := 338) (ci := 12) (k := 38) (n := 47) (pc' := 31) (by decide +kernel) fl_X12_338 (by decide +kernel) rfl SH_126 ?_
    refine sd_iconst (n := -1) (v := (-1)) (pc' := 32) (by decide +kernel) (by decide) ?_
    refine sd_icmp_eq (off := 5) (tgt := 37) (pc' := 35) (by decide +kernel) (fun c8 => ?_) (fun c8 => ?_)
    · replace hf := ite_p c8 hf
      refine sd_bipush (n := 24) (v := 24) (pc' := 39) (by decide +kernel) (by decide) ?_
      refine sd_aload_n (k := 0) (i := 0) (q := 0) (pc' := 40) (by decide +kernel) rfl rfl ?_
      refine sF_gr (idx := 41) (ci := 12) (k := 13) (n := 47) (r := 137) (pc' := 43) (by decide +kernel) fl_X12_41 (by decide +kernel) rfl SH_126 (by decide) (by decide +kernel) ?_
      refine sd_iload_n (k := 1) (i := 1) (q := 1) (pc' := 44) (by decide +kernel) rfl rfl ?_
      obtain ⟨g9, hf⟩ := gd_some hf
      refine sF_iald (n := 15) (pc' := 45) (by decide +kernel) SH_137 g9 ?_
      refine sd_imul (pc' := 46) (by decide +kernel) ?_
      refine sd_aload_n (k := 0) (i := 0) (q := 0) (pc' := 47) (by decide +kernel) rfl rfl ?_
      refine sd_iload_n (k := 1) (i := 1) (q := 1) (pc' := 48) (by decide +kernel) rfl rfl ?_
      refine sd_iload_n (k := 2) (i := 2) (q := 2) (pc' := 49) (by decide +kernel) rfl rfl ?_
      refine sd_iload_n (k := 3) (i := 3) (q := 3) (pc' := 50) (by decide +kernel) rfl rfl ?_
      obtain ⟨t11, q10, hf⟩ := b1_some hf
      refine sF_callV (idx := 200) (b := 126) (As := [.int a0, .int a1, .int a2]) (ci := 12) (nn := 47) (pc' := 53) 3 (T_YM_placeOf (G := G) (h := h6)  q10) (by decide +kernel) mv_YM_placeOf ml_X12_200 (by decide +kernel) rfl rfl (Nat.le_of_ble_eq_true rfl) SH_126 rfl (by decide) rfl rfl ?_
      refine sd_iadd (pc' := 54) (by decide +kernel) ?_
      refine sd_istore (i := 4) (pc' := 56) (lo' := [(4, .int ((24 * (h6.1 137 (a0 : Int32).toNatClampNeg)) + t11)), (0, .ref (G.1 + 126)), (1, .int a0), (2, .int a1), (3, .int a2)]) (by decide +kernel) (by decide) rfl ?_
      refine sd_aload_n (k := 0) (i := 0) (q := 1) (pc' := 57) (by decide +kernel) rfl rfl ?_
      refine sF_gi (idx := 359) (ci := 12) (k := 33) (n := 47) (pc' := 60) (by decide +kernel) fl_X12_359 (by decide +kernel) rfl SH_126 ?_
      refine sd_if_eq (off := 18) (tgt := 78) (pc' := 63) (by decide +kernel) (fun c12 => ?_) (fun c12 => ?_)
      · replace hf := ite_p c12 hf
        refine sd_J.sub (lo' := [(0, .ref (G.1 + 126)), (4, .int ((24 * (h6.1 137 (a0 : Int32).toNatClampNeg)) + t11))]) [1, 0] rfl ?_
        exact J_YM_read_B78 hE hf
      · replace hf := ite_n c12 hf
        refine sd_aload_n (k := 0) (i := 0) (q := 1) (pc' := 64) (by decide +kernel) rfl rfl ?_
        refine sF_gr (idx := 68) (ci := 12) (k := 29) (n := 47) (r := 146) (pc' := 67) (by decide +kernel) fl_X12_68 (by decide +kernel) rfl SH_126 (by decide) (by decide +kernel) ?_
        refine sd_aload_n (k := 0) (i := 0) (q := 1) (pc' := 68) (by decide +kernel) rfl rfl ?_
        refine sF_gr (idx := 41) (ci := 12) (k := 13) (n := 47) (r := 137) (pc' := 71) (by decide +kernel) fl_X12_41 (by decide +kernel) rfl SH_126 (by decide) (by decide +kernel) ?_
        refine sd_iload_n (k := 1) (i := 1) (q := 2) (pc' := 72) (by decide +kernel) rfl rfl ?_
        obtain ⟨g14, hf⟩ := gd_some hf
        refine sF_iald (n := 15) (pc' := 73) (by decide +kernel) SH_137 g14 ?_
        obtain ⟨g15, hf⟩ := gd_some hf
        refine sF_iald (n := 6) (pc' := 74) (by decide +kernel) SH_146 g15 ?_
        refine sd_iconst (n := 3) (v := 3) (pc' := 75) (by decide +kernel) (by decide) ?_
        refine sd_icmp_eq (off := 11) (tgt := 86) (pc' := 78) (by decide +kernel) (fun c16 => ?_) (fun c16 => ?_)
        · replace hf := ite_p c16 hf
          refine sd_aload_n (k := 0) (i := 0) (q := 1) (pc' := 87) (by decide +kernel) rfl rfl ?_
          refine sF_gr (idx := 77) (ci := 12) (k := 32) (n := 47) (r := 149) (pc' := 90) (by decide +kernel) fl_X12_77 (by decide +kernel) rfl SH_126 (by decide) (by decide +kernel) ?_
          refine sd_sipush (n := 144) (v := 144) (pc' := 93) (by decide +kernel) (by decide) ?_
          refine sd_iload_n (k := 2) (i := 2) (q := 3) (pc' := 94) (by decide +kernel) rfl rfl ?_
          refine sd_imul (pc' := 95) (by decide +kernel) ?_
          refine sd_iload (i := 4) (q := 0) (pc' := 97) (by decide +kernel) rfl ?_
          refine sd_iadd (pc' := 98) (by decide +kernel) ?_
          obtain ⟨g17, hf⟩ := gd_some hf
          refine sF_zald (n := 1440) (pc' := 99) (by decide +kernel) SH_149 g17 ?_
          refine sd_if_eq (off := 19) (tgt := 118) (pc' := 102) (by decide +kernel) (fun c18 => ?_) (fun c18 => ?_)
          · replace hf := ite_p c18 hf
            refine sd_aload_n (k := 0) (i := 0) (q := 1) (pc' := 119) (by decide +kernel) rfl rfl ?_
            refine sF_gr (idx := 71) (ci := 12) (k := 30) (n := 47) (r := 147) (pc' := 122) (by decide +kernel) fl_X12_71 (by decide +kernel) rfl SH_126 (by decide) (by decide +kernel) ?_
            refine sd_iload (i := 4) (q := 0) (pc' := 124) (by decide +kernel) rfl ?_
            obtain ⟨g19, hf⟩ := gd_some hf
            refine sF_dald (n := 144) (pc' := 125) (by decide +kernel) SH_147 g19 ?_
            obtain rfl := Option.some.inj hf
            exact sd_dret (by decide +kernel) rfl (hE _)
          · replace hf := ite_n c18 hf
            refine sd_aload_n (k := 0) (i := 0) (q := 1) (pc' := 103) (by decide +kernel) rfl rfl ?_
            refine sF_gr (idx := 74) (ci := 12) (k := 31) (n := 47) (r := 148) (pc' := 106) (by decide +kernel) fl_X12_74 (by decide +kernel) rfl SH_126 (by decide) (by decide +kernel) ?_
            refine sd_sipush (n := 144) (v := 144) (pc' := 109) (by decide +kernel) (by decide) ?_
            refine sd_iload_n (k := 2) (i := 2) (q := 3) (pc' := 110) (by decide +kernel) rfl rfl ?_
            refine sd_imul (pc' := 111) (by decide +kernel) ?_
            refine sd_iload (i := 4) (q := 0) (pc' := 113) (by decide +kernel) rfl ?_
            refine sd_iadd (pc' := 114) (by decide +kernel) ?_
            obtain ⟨g20, hf⟩ := gd_some hf
            refine sF_dald (n := 1440) (pc' := 115) (by decide +kernel) SH_148 g20 ?_
            refine sd_goto (off := 10) (tgt := 125) (pc' := 118) (by decide +kernel) ?_
            obtain rfl := Option.some.inj hf
            exact sd_dret (by decide +kernel) rfl (hE _)
        · replace hf := ite_n c16 hf
          refine sd_J.sub (lo' := [(0, .ref (G.1 + 126)), (4, .int ((24 * (h6.1 137 (a0 : Int32).toNatClampNeg)) + t11))]) [1, 0] rfl ?_
          exact J_YM_read_B78 hE hf
    · replace hf := ite_n c8 hf
      refine sd_dconst0 (pc' := 36) (by decide +kernel) ?_
      obtain rfl := Option.some.inj hf
      exact sd_dret (by decide +kernel) rfl (hE _)
  · replace hf := ite_p c3 hf
    refine sd_aload_n (k := 0) (i := 0) (q := 0) (pc' := 9) (by decide +kernel) rfl rfl ?_
    refine sF_gr (idx := 44) (ci := 12) (k := 14) (n := 47) (r := 138) (pc' := 12) (by decide +kernel) fl_X12_44 (by decide +kernel) rfl SH_126 (by decide) (by decide +kernel) ?_
    refine sd_iload_n (k := 1) (i := 1) (q := 1) (pc' := 13) (by decide +kernel) rfl rfl ?_
    obtain ⟨g21, hf⟩ := gd_some hf
    refine sF_iald (n := 15) (pc' := 14) (by decide +kernel) SH_138 g21 ?_
    refine sd_i2d (pc' := 15) (by decide +kernel) ?_
    obtain rfl := Option.some.inj hf
    exact sd_dret (by decide +kernel) rfl (hE _)
