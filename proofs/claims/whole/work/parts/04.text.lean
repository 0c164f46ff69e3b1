def M_TS_cod : sd_MX := (yJ0_coder_7d493, cJ0_coder_7d493, 1, (some .byte), { frames := 1, cells := 0, slots := 0, locals := 40 })
theorem mv_TS_cod : sd_mV M_TS_cod 0 := ⟨sd_mem (i := 603) (by decide +kernel), sd_mem (i := 604) (by decide +kernel), ⟨sd_mem (i := 605) (by decide +kernel), sd_mem (i := 122) (by decide +kernel), by decide +kernel, by decide +kernel, by decide +kernel⟩⟩
def M_TS_lat : sd_MX := (yJ0_isLatin1_aae02, cJ0_isLatin1_aae02, 1, (some .boolean), { frames := 1, cells := 0, slots := 0, locals := 40 })
theorem mv_TS_lat : sd_mV M_TS_lat 0 := ⟨sd_mem (i := 613) (by decide +kernel), sd_mem (i := 614) (by decide +kernel), ⟨sd_mem (i := 615) (by decide +kernel), sd_mem (i := 122) (by decide +kernel), by decide +kernel, by decide +kernel, by decide +kernel⟩⟩
def M_TS_pch : sd_MX := (yJ3_checkIndex_8e157, cJ3_checkIndex_8e157, 3, (some .int), { frames := 1, cells := 0, slots := 0, locals := 40 })
theorem mv_TS_pch : sd_mS M_TS_pch 3 := ⟨sd_mem (i := 625) (by decide +kernel), ⟨sd_mem (i := 626) (by decide +kernel), sd_mem (i := 124) (by decide +kernel), by decide +kernel, by decide +kernel, by decide +kernel⟩⟩
def M_TS_len : sd_MX := (yJ0_length_8abf5, cJ0_length_8abf5, 1, (some .int), { frames := 2, cells := 0, slots := 0, locals := 60 })
theorem mv_TS_len : sd_mV M_TS_len 0 := ⟨sd_mem (i := 599) (by decide +kernel), sd_mem (i := 600) (by decide +kernel), ⟨sd_mem (i := 601) (by decide +kernel), sd_mem (i := 122) (by decide +kernel), by decide +kernel, by decide +kernel, by decide +kernel⟩⟩
def M_TS_chk : sd_MX := (yJ0_checkIndex_df160, cJ0_checkIndex_df160, 2, none, { frames := 2, cells := 0, slots := 0, locals := 62 })
theorem mv_TS_chk : sd_mS M_TS_chk 2 := ⟨sd_mem (i := 620) (by decide +kernel), ⟨sd_mem (i := 621) (by decide +kernel), sd_mem (i := 122) (by decide +kernel), by decide +kernel, by decide +kernel, by decide +kernel⟩⟩
def M_TS_lch : sd_MX := (yJ1_charAt_3b067, cJ1_charAt_3b067, 2, (some .char), { frames := 3, cells := 0, slots := 0, locals := 83 })
theorem mv_TS_lch : sd_mS M_TS_lch 2 := ⟨sd_mem (i := 617) (by decide +kernel), ⟨sd_mem (i := 618) (by decide +kernel), sd_mem (i := 123) (by decide +kernel), by decide +kernel, by decide +kernel, by decide +kernel⟩⟩
def M_TS_chr : sd_MX := (yJ0_charAt_5068e, cJ0_charAt_5068e, 2, (some .char), { frames := 4, cells := 0, slots := 0, locals := 104 })
theorem mv_TS_chr : sd_mV M_TS_chr 1 := ⟨sd_mem (i := 609) (by decide +kernel), sd_mem (i := 610) (by decide +kernel), ⟨sd_mem (i := 611) (by decide +kernel), sd_mem (i := 122) (by decide +kernel), by decide +kernel, by decide +kernel, by decide +kernel⟩⟩
theorem lk_cod : Cond.methodLink RJ0 335 M_TS_cod.1 ∈ sd_tb := sd_mem (i := 602) (by decide +kernel)
theorem lk_lat : Cond.methodLink RJ0 492 M_TS_lat.1 ∈ sd_tb := sd_mem (i := 612) (by decide +kernel)
theorem lk_lch : Cond.methodLink RJ0 495 M_TS_lch.1 ∈ sd_tb := sd_mem (i := 616) (by decide +kernel)
theorem lk_chk : Cond.methodLink RJ1 9 M_TS_chk.1 ∈ sd_tb := sd_mem (i := 619) (by decide +kernel)
theorem lk_pch : Cond.methodLink RJ0 1059 M_TS_pch.1 ∈ sd_tb := sd_mem (i := 624) (by decide +kernel)
theorem lk_len : Cond.methodLink RX11 431 M_TS_len.1 ∈ sd_tb := sd_mem (i := 598) (by decide +kernel)
theorem lk_chr : Cond.methodLink RX11 435 M_TS_chr.1 ∈ sd_tb := sd_mem (i := 608) (by decide +kernel)
theorem fk_val : Cond.fieldLink RJ0 9 "java/lang/String" "value" "[B" ∈ sd_tb := sd_mem (i := 1754) (by decide +kernel)
theorem fk_cod : Cond.fieldLink RJ0 15 "java/lang/String" "coder" "B" ∈ sd_tb := sd_mem (i := 1755) (by decide +kernel)
theorem fk_cs : Cond.fieldLink RJ0 38 "java/lang/String" "COMPACT_STRINGS" "Z" ∈ sd_tb := sd_mem (i := 606) (by decide +kernel)
theorem fk_sio : Cond.fieldLink RJ0 1053 "jdk/internal/util/Preconditions" "SIOOBE_FORMATTER" "Ljava/util/function/BiFunction;" ∈ sd_tb := sd_mem (i := 622) (by decide +kernel)
section ST
variable {G : sd_GX} {X : sd_CX} {Q : State → Prop} {M M' : sd_MX} {pc pc' : Nat} {lo : List (Nat × Value)} {st st0 : List Value} {h : sd_H}
theorem sS_gcs {idx : Nat} (d : sd_d M pc (.getstatic idx) 3 pc') (hw : Cond.fieldLink M.1.cls idx "java/lang/String" "COMPACT_STRINGS" "Z" ∈ sd_tb) (kk : sd_J G X Q M pc' lo (.int 1 :: st) (sd_F h)) : sd_J G X Q M pc lo st (sd_F h) := fun hB H locs ls hH hS hl hf => by
  obtain ⟨d, rfl⟩ := d
  exact va_gets hB.1 hB.2.1 hB.2.2.2.2.2.2.2.2.2.2.2.2.1 hS hB.2.2.2.2.1 (hB.2.2.2.2.2.1 _ hw) (fun _ q => q) d (kk hB H locs ls hH hS hl hf)
theorem sS_gsio {idx : Nat} (d : sd_d M pc (.getstatic idx) 3 pc') (hw : Cond.fieldLink M.1.cls idx "jdk/internal/util/Preconditions" "SIOOBE_FORMATTER" "Ljava/util/function/BiFunction;" ∈ sd_tb) (kk : ∀ v : Value, (v = .null ∨ ∃ t, v = .ref t) → sd_J G X Q M pc' lo (v :: st) (sd_F h)) : sd_J G X Q M pc lo st (sd_F h) := fun hB H locs ls hH hS hl hf => by
  obtain ⟨d, rfl⟩ := d
  rcases hB.2.2.2.2.2.2.2.2.2.2.2.2.2.1 with hZ | ⟨t, hZ⟩
  · exact va_gets hB.1 hB.2.1 hZ hS hB.2.2.2.2.1 (hB.2.2.2.2.2.1 _ hw) (fun _ q => q) d (kk _ (Or.inl rfl) hB H locs ls hH hS hl hf)
  · exact va_gets hB.1 hB.2.1 hZ hS hB.2.2.2.2.1 (hB.2.2.2.2.2.1 _ hw) (fun _ q => q) d (kk _ (Or.inr ⟨t, rfl⟩) hB H locs ls hH hS hl hf)
theorem sS_gcod {idx j : Nat} (d : sd_d M pc (.getfield idx) 3 pc') (hw : Cond.fieldLink M.1.cls idx "java/lang/String" "coder" "B" ∈ sd_tb) (hj : j < 13) (kk : sd_J G X Q M pc' lo (.int 0 :: st) (sd_F h)) : sd_J G X Q M pc lo (.ref (G.2.2.2.2.1 j) :: st) (sd_F h) := fun hB H locs ls hH hS hl hf => by
  obtain ⟨d, rfl⟩ := d
  exact vk_getf hB.1 hB.2.1 (hB.2.2.2.2.2.2.2.2.2.2.2.1.1 j hj).2.1 hS hB.2.2.2.2.1 (hB.2.2.2.2.2.1 _ hw) (fun _ q => q) d (kk hB H locs ls hH hS hl hf)
theorem sS_gval {idx j : Nat} (d : sd_d M pc (.getfield idx) 3 pc') (hw : Cond.fieldLink M.1.cls idx "java/lang/String" "value" "[B" ∈ sd_tb) (hj : j < 13) (kk : sd_J G X Q M pc' lo (.ref (G.2.2.2.2.2 j) :: st) (sd_F h)) : sd_J G X Q M pc lo (.ref (G.2.2.2.2.1 j) :: st) (sd_F h) := fun hB H locs ls hH hS hl hf => by
  obtain ⟨d, rfl⟩ := d
  exact vk_getf hB.1 hB.2.1 (hB.2.2.2.2.2.2.2.2.2.2.2.1.1 j hj).2.2.1 hS hB.2.2.2.2.1 (hB.2.2.2.2.2.1 _ hw) (fun _ q => q) d (kk hB H locs ls hH hS hl hf)
theorem sS_tlen {j : Nat} (d : sd_d M pc .arraylength 1 pc') (hj : j < 13) (kk : sd_J G X Q M pc' lo (.int (slen j) :: st) (sd_F h)) : sd_J G X Q M pc lo (.ref (G.2.2.2.2.2 j) :: st) (sd_F h) := fun hB H locs ls hH hS hl hf => by
  obtain ⟨d, rfl⟩ := d
  exact va_tlen hB.1 hB.2.1 (hB.2.2.2.2.2.2.2.2.2.2.2.1.1 j hj).2.2.2 hS rfl d (kk hB H locs ls hH hS hl hf)
theorem sS_tb {j : Nat} {i : Int32} (d : sd_d M pc .baload 1 pc') (hj : j < 13) (hi : sd_inB i (sd_len.getD j 0) = true) (kk : sd_J G X Q M pc' lo (.int (schr j i) :: st) (sd_F h)) : sd_J G X Q M pc lo (.int i :: .ref (G.2.2.2.2.2 j) :: st) (sd_F h) := fun hB H locs ls hH hS hl hf => by
  obtain ⟨d, rfl⟩ := d
  exact va_tb hB.1 hB.2.1 (hB.2.2.2.2.2.2.2.2.2.2.2.1.1 j hj).2.2.2 hS (sd_in_of hi) rfl d (kk hB H locs ls hH hS hl hf)
theorem sS_i2c {x v : Int32} (d : sd_d M pc .i2c 1 pc') (hv : (x.toUInt32 % 65536).toInt32 = v) (kk : sd_J G X Q M pc' lo (.int v :: st) (sd_F h)) : sd_J G X Q M pc lo (.int x :: st) (sd_F h) := fun hB H locs ls hH hS hl hf => by
  obtain ⟨d, rfl⟩ := d
  exact lv_i2c hB.1 hB.2.1 d hv (kk hB H locs ls hH hS hl hf)
theorem sS_nret {v : Int32} {ty : FieldType} (d : decode M.2.1 pc = .ok (.ireturn, 1)) (hr : M.2.2.2.1 = some ty) (hn : narrow ty (.int v) = .int v) (he : sd_end G X M (sd_F h)) : sd_J G X (sd_QR G X M (some (.int v), sd_F h)) M pc lo [.int v] (sd_F h) := fun hB H locs ls hH hS hl hf => by
  rw [he.1, he.2]
  exact W.zret hB.1 hB.2.1 (ty := ty) (by rw [hB.2.2.1, hr]) hn (sd_fin hB hH hS _) hS.2.2 d hB.2.2.2.2.2.2.1
theorem sS_callV {idx j : Nat} {As : List Value} {v : Value} (n : Nat) (hj : j < 13) (hR : sd_RunF G M' (.ref (G.2.2.2.2.1 j) :: As) h (some v) h) (d : decode M.2.1 pc = .ok (.invokevirtual idx, 3)) (hm : sd_mV M' n) (hcc : M'.1.cls = "java/lang/String") (hlk : Cond.methodLink M.1.cls idx M'.1 ∈ sd_tb) (hrm : sd_rm M M') (hn : As.length = n) (hst : st0 = As.reverse ++ .ref (G.2.2.2.2.1 j) :: st) (hw : (st.map fun v => v.category).sum ≤ 8)
    (hp : pc + 3 = pc') (kk : sd_J G X Q M pc' lo (v :: st) (sd_F h)) : sd_J G X Q M pc lo st0 (sd_F h) := by
  subst hp
  refine sd_call (o := (some v, sd_F h)) hR (fun hB H locs ls hH hS hl hc => ?_) (fun q => q) kk
  have hpre := sd_pre hB hH hS (.ref (G.2.2.2.2.1 j) :: As)
  have hrec := vk_recv hB.2.2.2.2.2.2.2.2.2.2.2.1 hj hS
  rw [← hcc] at hrec
  rw [hst]
  exact va_runV (sd_fix hB) (hR.2 X.2.1) (cwV n hB.2.2.2.2.2.1 (C := M'.1.cls) (index := idx) (own := M.1.cls) (sd_gws hm.2.2 (fun w hw => by
    simp only [List.mem_cons, List.not_mem_nil, or_false] at hw
    rcases hw with rfl | rfl | rfl | rfl
    · exact hlk
    · exact hm.1
    · exact hm.2.1
    · exact hm.2.2.2.1)) rfl rfl rfl ⟨rfl, hm.2.2.2.2⟩ (by rw [hB.2.2.2.2.2.2.2.2.1]; exact hrm)) ⟨hpre.1, hrec, hpre.2⟩ rfl hn hl.1 rfl (lv_room hw) d hc
end ST
theorem T_cod {G : sd_GX} {h : sd_H} {j : Nat} (hj : j < 13) : sd_RunF G M_TS_cod [.ref (G.2.2.2.2.1 j)] h (some (.int 0)) h := by
  refine sF_run ⟨rfl, rfl⟩ (by decide +kernel) (Nat.le_of_ble_eq_true rfl) (lo := [(0, .ref (G.2.2.2.2.1 j))]) rfl (fun X hE => ?_)
  refine sS_gcs (idx := 38) (pc' := 3) (by decide +kernel) fk_cs ?_
  refine sd_if_eq (off := 10) (tgt := 13) (pc' := 6) (by decide +kernel) (fun c => absurd c (by decide)) (fun _ => ?_)
  refine sd_aload_n (k := 0) (i := 0) (q := 0) (pc' := 7) (by decide +kernel) rfl rfl ?_
  refine sS_gcod (idx := 15) (j := j) (pc' := 10) (by decide +kernel) fk_cod hj ?_
  refine sd_goto (off := 4) (tgt := 14) (pc' := 13) (by decide +kernel) ?_
  exact sS_nret (by decide +kernel) (ty := .byte) rfl (by decide) (hE _)
theorem T_lat {G : sd_GX} {h : sd_H} {j : Nat} (hj : j < 13) : sd_RunF G M_TS_lat [.ref (G.2.2.2.2.1 j)] h (some (.int 1)) h := by
  refine sF_run ⟨rfl, rfl⟩ (by decide +kernel) (Nat.le_of_ble_eq_true rfl) (lo := [(0, .ref (G.2.2.2.2.1 j))]) rfl (fun X hE => ?_)
  refine sS_gcs (idx := 38) (pc' := 3) (by decide +kernel) fk_cs ?_
  refine sd_if_eq (off := 14) (tgt := 17) (pc' := 6) (by decide +kernel) (fun c => absurd c (by decide)) (fun _ => ?_)
  refine sd_aload_n (k := 0) (i := 0) (q := 0) (pc' := 7) (by decide +kernel) rfl rfl ?_
  refine sS_gcod (idx := 15) (j := j) (pc' := 10) (by decide +kernel) fk_cod hj ?_
  refine sd_if_ne (off := 7) (tgt := 17) (pc' := 13) (by decide +kernel) (fun c => absurd rfl c) (fun _ => ?_)
  refine sd_iconst (n := 1) (v := 1) (pc' := 14) (by decide +kernel) (by decide) ?_
  refine sd_goto (off := 4) (tgt := 18) (pc' := 17) (by decide +kernel) ?_
  exact sd_zret (by decide +kernel) rfl (by decide) (hE _)
theorem T_pch {G : sd_GX} {h : sd_H} {i n : Int32} {v : Value} (hi : ¬ i < 0) (hn : i < n) (hv : v = .null ∨ ∃ t, v = .ref t) : sd_RunF G M_TS_pch [.int i, .int n, v] h (some (.int i)) h := by
  have hc : v.category = 1 := by rcases hv with rfl | ⟨t, rfl⟩ <;> rfl
  refine sF_run ⟨rfl, rfl⟩ (by decide +kernel) (by rcases hv with rfl | ⟨t, rfl⟩ <;> exact Nat.le_of_ble_eq_true rfl) (lo := [(0, .int i), (1, .int n), (2, v)]) (by rcases hv with rfl | ⟨t, rfl⟩ <;> rfl) (fun X hE => ?_)
  refine sd_iload_n (k := 0) (i := 0) (q := 0) (pc' := 1) (by decide +kernel) rfl rfl ?_
  refine sd_if_lt (off := 8) (tgt := 9) (pc' := 4) (by decide +kernel) (fun c => absurd c hi) (fun _ => ?_)
  refine sd_iload_n (k := 0) (i := 0) (q := 0) (pc' := 5) (by decide +kernel) rfl rfl ?_
  refine sd_iload_n (k := 1) (i := 1) (q := 1) (pc' := 6) (by decide +kernel) rfl rfl ?_
  refine sd_icmp_lt (off := 10) (tgt := 16) (pc' := 9) (by decide +kernel) (fun _ => ?_) (fun c => absurd hn c)
  refine sd_iload_n (k := 0) (i := 0) (q := 0) (pc' := 17) (by decide +kernel) rfl rfl ?_
  exact sd_iret (by decide +kernel) rfl (hE _)
theorem T_chk {G : sd_GX} {h : sd_H} {i n : Int32} (hi : ¬ i < 0) (hn : i < n) : sd_RunF G M_TS_chk [.int i, .int n] h none h := by
  refine sF_run ⟨rfl, rfl⟩ (by decide +kernel) (Nat.le_of_ble_eq_true rfl) (lo := [(0, .int i), (1, .int n)]) rfl (fun X hE => ?_)
  refine sd_iload_n (k := 0) (i := 0) (q := 0) (pc' := 1) (by decide +kernel) rfl rfl ?_
  refine sd_iload_n (k := 1) (i := 1) (q := 1) (pc' := 2) (by decide +kernel) rfl rfl ?_
  refine sS_gsio (idx := 1053) (pc' := 5) (by decide +kernel) fk_sio (fun v hv => ?_)
  refine sF_callS (idx := 1059) (As := [.int i, .int n, v]) (pc' := 8) 3 (T_pch (G := G) (h := h) hi hn hv) (by decide +kernel) mv_TS_pch lk_pch (by decide +kernel) rfl rfl (Nat.le_of_ble_eq_true rfl) rfl ?_
  refine sd_pop (pc' := 9) (by decide +kernel) rfl ?_
  exact sd_vret (by decide +kernel) rfl (hE _)
theorem schr_ok : ∀ j, j < 13 → ∀ k, k < sd_len.getD j 0 → (((sd_byt.getD j []).getD k 0 &&& 255).toUInt32 % 65536).toInt32 = (sd_byt.getD j []).getD k 0 ∧ narrow .char (.int ((sd_byt.getD j []).getD k 0)) = .int ((sd_byt.getD j []).getD k 0) := by decide +kernel
theorem sF_callS0 {G : sd_GX} {X : sd_CX} {Q : State → Prop} {M M' : sd_MX} {pc pc' : Nat} {lo : List (Nat × Value)} {st st0 : List Value} {h g : sd_H} {idx : Nat} {As : List Value} (n : Nat) (hR : sd_RunF G M' As h none g) (d : decode M.2.1 pc = .ok (.invokestatic idx, 3)) (hm : sd_mS M' n) (hlk : Cond.methodLink M.1.cls idx M'.1 ∈ sd_tb) (hrm : sd_rm M M') (hn : As.length = n) (hst : st0 = As.reverse ++ st) (hw : (st.map fun v => v.category).sum ≤ 8)
    (hp : pc + 3 = pc') (kk : sd_J G X Q M pc' lo st (sd_F g)) : sd_J G X Q M pc lo st0 (sd_F h) := sd_callS (o := (none, sd_F g)) n hR d hm hlk hrm hn hst hw (fun q => q) hp kk
theorem T_lch {G : sd_GX} {h : sd_H} {j : Nat} {i : Int32} (hj : j < 13) (hi : sd_inB i (sd_len.getD j 0) = true) : sd_RunF G M_TS_lch [.ref (G.2.2.2.2.2 j), .int i] h (some (.int (schr j i))) h := by
  have hk := inB_lt hi
  have hc := schr_ok j hj _ hk
  have h13 : ∀ j, j < 13 → sd_len.getD j 0 < 100 := by decide +kernel
  have hl := h13 j hj
  have h0 : ¬ i < 0 := fun q => sd_in_of hi (Or.inl q)
  have h1 : i < slen j := by
    obtain ⟨q, hq, rfl⟩ := nI_of h0
    rw [nI_clamp hq] at hk
    exact nI_lt hk (by omega)
  refine sF_run ⟨rfl, rfl⟩ (by decide +kernel) (Nat.le_of_ble_eq_true rfl) (lo := [(0, .ref (G.2.2.2.2.2 j)), (1, .int i)]) rfl (fun X hE => ?_)
  refine sd_iload_n (k := 1) (i := 1) (q := 1) (pc' := 1) (by decide +kernel) rfl rfl ?_
  refine sd_aload_n (k := 0) (i := 0) (q := 0) (pc' := 2) (by decide +kernel) rfl rfl ?_
  refine sS_tlen (j := j) (pc' := 3) (by decide +kernel) hj ?_
  refine sF_callS0 (idx := 9) (As := [.int i, .int (slen j)]) (pc' := 6) 2 (T_chk (G := G) (h := h) h0 h1) (by decide +kernel) mv_TS_chk lk_chk (by decide +kernel) rfl rfl (Nat.le_of_ble_eq_true rfl) rfl ?_
  refine sd_aload_n (k := 0) (i := 0) (q := 0) (pc' := 7) (by decide +kernel) rfl rfl ?_
  refine sd_iload_n (k := 1) (i := 1) (q := 1) (pc' := 8) (by decide +kernel) rfl rfl ?_
  refine sS_tb (j := j) (pc' := 9) (by decide +kernel) hj hi ?_
  refine sd_sipush (n := 255) (v := 255) (pc' := 12) (by decide +kernel) (by decide) ?_
  refine sd_iand (pc' := 13) (by decide +kernel) ?_
  refine sS_i2c (v := schr j i) (pc' := 14) (by decide +kernel) hc.1 ?_
  exact sS_nret (by decide +kernel) (ty := .char) rfl hc.2 (hE _)
theorem T_len {G : sd_GX} {h : sd_H} {j : Nat} (hj : j < 13) : sd_RunF G M_TS_len [.ref (G.2.2.2.2.1 j)] h (some (.int (slen j))) h := by
  have h13 : ∀ j, j < 13 → slen j >>> ((0 : Int32) &&& 31) = slen j := by decide +kernel
  refine sF_run ⟨rfl, rfl⟩ (by decide +kernel) (Nat.le_of_ble_eq_true rfl) (lo := [(0, .ref (G.2.2.2.2.1 j))]) rfl (fun X hE => ?_)
  refine sd_aload_n (k := 0) (i := 0) (q := 0) (pc' := 1) (by decide +kernel) rfl rfl ?_
  refine sS_gval (idx := 9) (j := j) (pc' := 4) (by decide +kernel) fk_val hj ?_
  refine sS_tlen (j := j) (pc' := 5) (by decide +kernel) hj ?_
  refine sd_aload_n (k := 0) (i := 0) (q := 0) (pc' := 6) (by decide +kernel) rfl rfl ?_
  refine sS_callV (idx := 335) (j := j) (As := []) (pc' := 9) 0 hj (T_cod (G := G) (h := h) hj) (by decide +kernel) mv_TS_cod rfl lk_cod (by decide +kernel) rfl rfl (Nat.le_of_ble_eq_true rfl) rfl ?_
  refine sd_ishr (pc' := 10) (by decide +kernel) ?_
  rw [h13 j hj]
  exact sd_iret (by decide +kernel) rfl (hE _)
theorem T_chr {G : sd_GX} {h : sd_H} {j : Nat} {i : Int32} (hj : j < 13) (hi : sd_inB i (sd_len.getD j 0) = true) : sd_RunF G M_TS_chr [.ref (G.2.2.2.2.1 j), .int i] h (some (.int (schr j i))) h := by
  have hc := schr_ok j hj _ (inB_lt hi)
  refine sF_run ⟨rfl, rfl⟩ (by decide +kernel) (Nat.le_of_ble_eq_true rfl) (lo := [(0, .ref (G.2.2.2.2.1 j)), (1, .int i)]) rfl (fun X hE => ?_)
  refine sd_aload_n (k := 0) (i := 0) (q := 0) (pc' := 1) (by decide +kernel) rfl rfl ?_
  refine sS_callV (idx := 492) (j := j) (As := []) (pc' := 4) 0 hj (T_lat (G := G) (h := h) hj) (by decide +kernel) mv_TS_lat rfl lk_lat (by decide +kernel) rfl rfl (Nat.le_of_ble_eq_true rfl) rfl ?_
  refine sd_if_eq (off := 12) (tgt := 16) (pc' := 7) (by decide +kernel) (fun c => absurd c (by decide)) (fun _ => ?_)
  refine sd_aload_n (k := 0) (i := 0) (q := 0) (pc' := 8) (by decide +kernel) rfl rfl ?_
  refine sS_gval (idx := 9) (j := j) (pc' := 11) (by decide +kernel) fk_val hj ?_
  refine sd_iload_n (k := 1) (i := 1) (q := 1) (pc' := 12) (by decide +kernel) rfl rfl ?_
  refine sF_callS (idx := 495) (As := [.ref (G.2.2.2.2.2 j), .int i]) (pc' := 15) 2 (T_lch (G := G) (h := h) hj hi) (by decide +kernel) mv_TS_lch lk_lch (by decide +kernel) rfl rfl (Nat.le_of_ble_eq_true rfl) rfl ?_
  exact sS_nret (by decide +kernel) (ty := .char) rfl hc.2 (hE _)
theorem sF_slen {G : sd_GX} {X : sd_CX} {Q : State → Prop} {M : sd_MX} {pc pc' : Nat} {lo : List (Nat × Value)} {st : List Value} {h : sd_H} {j : Nat} (d : decode M.2.1 pc = .ok (.invokevirtual 431, 3)) (hp : pc + 3 = pc') (hc : M.1.cls = RX11) (hrm : sd_rm M M_TS_len) (hw : (st.map fun v => v.category).sum ≤ 8) (hj : j < 13) (kk : sd_J G X Q M pc' lo (.int (slen j) :: st) (sd_F h)) : sd_J G X Q M pc lo (.ref (G.2.2.2.2.1 j) :: st) (sd_F h) :=
  sS_callV (idx := 431) (j := j) (As := []) 0 hj (T_len (G := G) (h := h) hj) d mv_TS_len rfl (by rw [hc]; exact lk_len) hrm rfl rfl hw hp kk
theorem sF_schr {G : sd_GX} {X : sd_CX} {Q : State → Prop} {M : sd_MX} {pc pc' : Nat} {lo : List (Nat × Value)} {st : List Value} {h : sd_H} {j : Nat} {i : Int32} (d : decode M.2.1 pc = .ok (.invokevirtual 435, 3)) (hp : pc + 3 = pc') (hc : M.1.cls = RX11) (hrm : sd_rm M M_TS_chr) (hw : (st.map fun v => v.category).sum ≤ 8) (hj : j < 13) (hi : sd_inB i (sd_len.getD j 0) = true) (kk : sd_J G X Q M pc' lo (.int (schr j i) :: st) (sd_F h)) : sd_J G X Q M pc lo (.int i :: .ref (G.2.2.2.2.1 j) :: st) (sd_F h) :=
  sS_callV (idx := 435) (j := j) (As := [.int i]) 1 hj (T_chr (G := G) (h := h) hj hi) d mv_TS_chr rfl (by rw [hc]; exact lk_chr) hrm rfl rfl hw hp kk

