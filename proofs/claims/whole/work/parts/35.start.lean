theorem sd_nq11 : sd_nwd RL 7 11 := ⟨sd_mem (i := 128) (by decide +kernel), sd_mem (i := 129) (by decide +kernel), sd_mem (i := 108) (by decide +kernel), by decide⟩
theorem sd_nq12 : sd_nwd RL 10 12 := ⟨sd_mem (i := 1142) (by decide +kernel), sd_mem (i := 1143) (by decide +kernel), sd_mem (i := 119) (by decide +kernel), by decide⟩
theorem sd_mi11 : sd_mI M_XT_init 0 := ⟨sd_mem (i := 131) (by decide +kernel), rfl, rfl, ⟨sd_mem (i := 132) (by decide +kernel), sd_mem (i := 108) (by decide +kernel), by decide +kernel, by decide +kernel, by decide +kernel⟩⟩
theorem sd_mi12 : sd_mI M_YM_init 0 := ⟨sd_mem (i := 1145) (by decide +kernel), rfl, rfl, ⟨sd_mem (i := 1146) (by decide +kernel), sd_mem (i := 119) (by decide +kernel), by decide +kernel, by decide +kernel, by decide +kernel⟩⟩
theorem sd_ml11 : Cond.methodLink RL 9 M_XT_init.1 ∈ sd_tb := sd_mem (i := 130) (by decide +kernel)
theorem sd_ml12 : Cond.methodLink RL 12 M_YM_init.1 ∈ sd_tb := sd_mem (i := 1144) (by decide +kernel)
/-- the law from its entry: its two objects, then its loop over the heap that they leave -/
theorem sd_pre_law {G : sd_GX} {X : sd_CX} {Q : State → Prop} {b L : Nat} {xs : Nat → Int32} (hE : sd_LW G X Q b L xs) {hf : sd_HX} (hc : sd_c3 = some hf) (ha : sd_agr hf = true) (hl : LW_L18 xs L FU (sd_mk hf) 0 = some 1) : sd_J G X Q M_LW 0 [(0, .ref b)] [] sd_z := by
  have h0s : (sd_s X).heap.size = G.1 + sd_z.1 := hE.2.2.1.symm
  unfold sd_c3 at hc
  obtain ⟨h1, e1, hc⟩ := b1_some hc
  unfold sd_c1 at e1
  obtain ⟨g1, e1⟩ := gd_some e1
  obtain ⟨h2, e2, e1⟩ := b1_some e1
  obtain ⟨g2, e1⟩ := gd_some e1
  obtain rfl := Option.some.inj e1
  unfold sd_c2 at hc
  obtain ⟨g3, hc⟩ := gd_some hc
  obtain ⟨g4, hc⟩ := gd_some hc
  have g4 := of_decide_eq_true g4
  obtain ⟨h3, e3, hc⟩ := b1_some hc
  obtain ⟨g5, hc⟩ := gd_some hc
  obtain rfl := Option.some.inj hc
  refine sd_new (idx := 7) (ci := 11) (n := 17) (pc' := 3) h0s (by decide +kernel) sd_nq11 rfl g1 ?_
  refine sd_dup (pc' := 4) (by decide +kernel) rfl ?_
  refine sI_call (idx := 9) (b := 0) (As := []) (pc' := 7) 0 h0s (T_XT_init (G := G) e2) (by decide +kernel) sd_mi11 (Or.inl sd_ml11) (by decide +kernel) rfl rfl (Nat.le_of_ble_eq_true rfl) (okL_of g2) rfl ?_
  refine sd_astore_n (k := 1) (i := 1) (pc' := 8) (lo' := [(1, .ref (G.1 + 0)), (0, .ref b)]) (by decide +kernel) rfl (by decide) rfl ?_
  refine sd_new (idx := 10) (ci := 12) (n := 47) (pc' := 11) h0s (by decide +kernel) sd_nq12 rfl g3 ?_
  rw [g4]
  refine sd_dup (pc' := 12) (by decide +kernel) rfl ?_
  refine sI_call (idx := 12) (b := 126) (As := []) (pc' := 15) 0 h0s (T_YM_init (G := G) e3) (by decide +kernel) sd_mi12 (Or.inl sd_ml12) (by decide +kernel) rfl rfl (Nat.le_of_ble_eq_true rfl) (okL_of g5) rfl ?_
  refine sd_astore_n (k := 2) (i := 2) (pc' := 16) (lo' := [(2, .ref (G.1 + 126)), (1, .ref (G.1 + 0)), (0, .ref b)]) (by decide +kernel) rfl (by decide) rfl ?_
  refine sd_iconst (n := 0) (v := 0) (pc' := 17) (by decide +kernel) (by decide) ?_
  refine sd_istore_n (k := 3) (i := 3) (pc' := 18) (lo' := [(3, .int 0), (2, .ref (G.1 + 126)), (1, .ref (G.1 + 0)), (0, .ref b)]) (by decide +kernel) rfl (by decide) rfl ?_
  refine sd_J_F ha ?_
  refine sd_J.sub (lo' := [(0, .ref b), (1, .ref (G.1 + 0)), (2, .ref (G.1 + 126)), (3, .int 0)]) [3, 2, 1, 0] rfl ?_
  exact J_LW_L18 hE _ _ _ hl
theorem sd_arr0 {U : State} {ty : FieldType} {av : Array Value} (h : (Cond.arrayClass ty).before av U = true) (hp : ∀ c, va_RA U c ty ↔ U.vm.findClass ("[" ++ ty.toString) = some c) : ∃ c, ArrOfT U c ty ∧ va_RA U c ty := by
  obtain ⟨c, k, comp, h1, h2, h3⟩ := Cond.arrayClass_spec h
  exact ⟨c, fun n z => ⟨(fun q hq => by cases hq), k, h2, comp, h3⟩, (hp c).mpr h1⟩
theorem sd_arr1 {U : State} {C : String} {av : Array Value} (h : (Cond.arrayOver (.object C)).before av U = true) : ∃ c, ArrOfT U c (.object C) ∧ va_RA U c (.object C) := by
  obtain ⟨comp, c, k, h1, -, h3, h4, h5⟩ := Cond.arrayOver_spec h
  exact ⟨c, fun n z => ⟨(fun q hq => by cases hq), k, h3, comp, h4⟩, k, comp, h3, h4, h1, h5⟩
theorem sd_arr2 {U : State} {av : Array Value} (h : (Cond.arrayOver (.array .int)).before av U = true) : ∃ c, ArrOfT U c (.array .int) ∧ va_RA U c (.array .int) := by
  obtain ⟨comp, c, k, h1, h3, h4, h5⟩ := Cond.arrayOver_specA h
  exact ⟨c, fun n z => ⟨(fun q hq => by cases hq), k, h3, comp, h4⟩, h5⟩
abbrev sd_gn : List Cond := flatC (Jvm.Cond.and given_1 narrow_1)
abbrev sd_tm (i : Nat) : Term := .string "StrideTurns" (439 + 2 * i)
theorem sd_nN : ∀ i : Nat, i < 13 → sd_len.getD i 0 < 2 ^ 31 := by decide +kernel
theorem sd_nex : ∀ i : Nat, i < 13 → Cond.exactly (sd_tm i) "java/lang/String" ∈ sd_gn := by decide +kernel
theorem sd_nco : ∀ i : Nat, i < 13 → Cond.eq (.field (sd_tm i) "java/lang/String" "coder" "B") (.int 0) ∈ sd_gn := by decide +kernel
theorem sd_nar : ∀ i : Nat, i < 13 → Cond.arrayOf (.field (sd_tm i) "java/lang/String" "value" "[B") .byte ∈ sd_gn := by decide +kernel
theorem sd_nle : ∀ i : Nat, i < 13 → Cond.eq (.length (.field (sd_tm i) "java/lang/String" "value" "[B")) (.int (Int32.ofNat (sd_len.getD i 0))) ∈ sd_gn := by decide +kernel
theorem sd_nel : ∀ i : Nat, i < 13 → ∀ j : Nat, j < sd_len.getD i 0 → Cond.eq (.elem (.field (sd_tm i) "java/lang/String" "value" "[B") (.int (Int32.ofNat j))) (.int ((sd_byt.getD i []).getD j 0)) ∈ sd_gn := by decide +kernel
def sd_prs : List (Nat × Nat × Nat) := [(0, 1, 59), (0, 2, 67), (1, 2, 68), (0, 3, 76), (1, 3, 77), (2, 3, 78), (0, 4, 86), (1, 4, 87), (2, 4, 88), (3, 4, 89), (0, 5, 97), (1, 5, 98), (2, 5, 99), (3, 5, 100), (4, 5, 101), (0, 6, 109), (1, 6, 110), (2, 6, 111), (3, 6, 112), (4, 6, 113), (5, 6, 114), (0, 7, 121), (1, 7, 122), (2, 7, 123), (3, 7, 124), (4, 7, 125), (5, 7, 126), (6, 7, 127), (0, 8, 135), (1, 8, 136), (2, 8, 137), (3, 8, 138), (4, 8, 139), (5, 8, 140), (6, 8, 141), (7, 8, 142), (0, 9, 151), (1, 9, 152), (2, 9, 153), (3, 9, 154), (4, 9, 155), (5, 9, 156), (6, 9, 157), (7, 9, 158), (8, 9, 159), (0, 10, 168), (1, 10, 169), (2, 10, 170), (3, 10, 171), (4, 10, 172), (5, 10, 173), (6, 10, 174), (7, 10, 175), (8, 10, 176), (9, 10, 177), (0, 11, 186), (1, 11, 187), (2, 11, 188), (3, 11, 189), (4, 11, 190), (5, 11, 191), (6, 11, 192), (7, 11, 193), (8, 11, 194), (9, 11, 195), (10, 11, 196), (0, 12, 206), (1, 12, 207), (2, 12, 208), (3, 12, 209), (4, 12, 210), (5, 12, 211), (6, 12, 212), (7, 12, 213), (8, 12, 214), (9, 12, 215), (10, 12, 216), (11, 12, 217)]
theorem sd_prs_ok : ∀ q ∈ sd_prs, sd_gn[q.2.2]? = some (Cond.not (Cond.eq (sd_tm q.1) (sd_tm q.2.1))) := by decide +kernel
theorem sd_prs_all : ∀ i : Nat, i < 13 → ∀ j : Nat, j < 13 → i ≠ j → (sd_prs.any (fun q => q.1 == i && q.2.1 == j) || sd_prs.any (fun q => q.1 == j && q.2.1 == i)) = true := by decide +kernel
theorem sd_nne : ∀ i : Nat, i < 13 → ∀ j : Nat, j < 13 → i ≠ j → Cond.not (Cond.eq (sd_tm i) (sd_tm j)) ∈ sd_gn ∨ Cond.not (Cond.eq (sd_tm j) (sd_tm i)) ∈ sd_gn := by
  intro i hi j hj hij
  have h := sd_prs_all i hi j hj hij
  rw [Bool.or_eq_true, List.any_eq_true, List.any_eq_true] at h
  rcases h with ⟨q, hq, h⟩ | ⟨q, hq, h⟩
  · rw [Bool.and_eq_true, beq_iff_eq, beq_iff_eq] at h
    have := List.mem_of_getElem? (sd_prs_ok q hq)
    rw [h.1, h.2] at this
    exact Or.inl this
  · rw [Bool.and_eq_true, beq_iff_eq, beq_iff_eq] at h
    have := List.mem_of_getElem? (sd_prs_ok q hq)
    rw [h.1, h.2] at this
    exact Or.inr this
theorem sd_ncs : Cond.eq (.static "java/lang/String" "COMPACT_STRINGS" "Z") (.int 1) ∈ sd_gn := by decide +kernel
theorem sd_nsi : Cond.isRef (.static "jdk/internal/util/Preconditions" "SIOOBE_FORMATTER" "Ljava/util/function/BiFunction;") ∈ sd_gn := by decide +kernel
theorem sd_nsr : ∀ i : Nat, i < 13 → Cond.stringRef RX11 (439 + 2 * i) (sd_tx.getD i "") ∈ lw_tbl := by decide +kernel
