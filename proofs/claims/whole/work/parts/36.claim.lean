/-! THE CLAIM OUT OF ONE WALK OF THE LAW'S BODY. Your part is whole_start (and what it stands on); all else here is the same for every law, but numbers. -/
def R_law : String := "StrideTurnsLaw"
def lw_P (b : Addr) (xs : List Int32) (args : Array Value) (s : State) : Prop := args = #[.ref b] ∧ s.IntsAt b xs ∧ xs.length ≤ 3072 ∧ (Jvm.Cond.and given_1 narrow_1).before args s = true
/-- what a walk over the start with the record d0 says of its end, said of the start itself -/
theorem lw_closed {s t : State} {o : Outcome} {d0 : Drawn} {L : List Loc} {k n : Nat} (hd0 : s.drawn.sameBut d0 lw_cs) (hv : ∃ v, o = .returned v) (hW : (s.setDrawn d0).WarmedH t.vm) (hs : (s.setDrawn d0).sameButNew ({ t with vm := s.vm } : State) L k n) : State.butDraws s t lw_cs (fun t1 => Framed s o t1 L k n) := by
  have h2 : t.drawn = d0 := congrArg State.drawn hs.1
  refine ⟨⟨hv, hW, State.sameButNew.setDrawn hs s.drawn⟩, ?_, by decide⟩
  rw [h2]
  exact hd0
def lw_Q (_ : Array Value) (s : State) (o : Outcome) (t : State) : Prop := o = .returned (some (.int 1)) ∧ State.butDraws s t lw_cs (fun t1 => Framed s o t1 [] 600000 7302250)
def lw_Z (below : List Frame) (a : Array Value) (s : State) : State → Prop := fun t => ∃ o, t.status = .running ∧ Ended t below o ∧ lw_Q a s o t
/-- the law's own end, with 1 on the stack, nothing written that was there before, its room as the claim has it; d0: the record of draws at this point (at the entry s.drawn: begin with 'refine W.base ?_' and 'have hd0 := Drawn.sameBut.refl s.drawn lw_cs') -/
theorem lw_ret {p : Program} {l : Launch} {e : Env} {s : State} {m : MethodId} {below : List Frame} {meth : Method} {c : Code} {b : Nat} {d0 : Drawn} (hd0 : s.drawn.sameBut d0 lw_cs) (hx : p.tables.exec = Jvm.exec) (hb : c.code = code) (hr : meth.sig.returnType = ret) (hlocks : meth.locks = false) {pc : Nat} {H : Heap} {ls : Array Slot} (hdg : decode code pc = .ok (.ireturn, 1)) : W p l e room_1 (s.setDrawn d0) m #[Value.ref b] below meth c H [] 600000 7302250 (lw_Z below #[Value.ref b] s) (F0 m pc ls [.int 1]) := by
  intro T hT X
  obtain ⟨fs, hret, hrun, hended, hW, hframe⟩ := X.leave (v := some (.int 1)) (hlocks := hlocks) (fun h => by rw [hr] at h; cases h)
  have hmeth' : T.vm.method? m = some meth := X.method'
  refine ⟨T.setFrames fs, ?_, .returned (some (.int 1)), hrun, hended, rfl, lw_closed hd0 ⟨_, rfl⟩ hW hframe⟩
  jvm_step X.here [X.here.top, hx, hb, hdg, hmeth', hr, ret, narrow_b1]
  (try refine ⟨rfl, ?_⟩); (try refine ⟨rfl, ?_⟩)
  first | (intro acts; rw [hret _ acts rfl rfl rfl]) | rw [hret _ _ rfl rfl rfl]
  exact Steps.refl _
/-- what holds at the law's entry: the machine, the code, the tables' words (any of lw_tbl by 'hts w (by decide +kernel)'), the script of L ints xs at the cell b, what the Statement gives of the start (any of its parts by flat_of_before) -/
def lw_At (p : Program) (s : State) (m : MethodId) (meth : Method) (c : Code) (b L : Nat) (xs : Nat → Int32) : Prop :=
  p.tables.exec = Jvm.exec ∧ c.code = code ∧ meth.sig.returnType = ret ∧ c.maxLocals = 4 ∧ s.vm.findClass R_law = some m.cls ∧ (∀ w ∈ lw_tbl, w.before #[Value.ref b] s = true) ∧ va_X b L xs s s.heap ∧ b < s.heap.size ∧ meth.locks = false ∧ (Jvm.Cond.and given_1 narrow_1).before #[Value.ref b] s = true
theorem sd_ao8 : Cond.arrayOver (.object RX8) ∈ lw_tbl := List.mem_of_getElem? (i := 324) (by decide +kernel)
theorem sd_ao9 : Cond.arrayOver (.object RX9) ∈ lw_tbl := List.mem_of_getElem? (i := 172) (by decide +kernel)
theorem sd_ao5 : Cond.arrayOver (.object RX5) ∈ lw_tbl := List.mem_of_getElem? (i := 179) (by decide +kernel)
theorem sd_aoI : Cond.arrayOver (.array .int) ∈ lw_tbl := List.mem_of_getElem? (i := 277) (by decide +kernel)
theorem sd_ls1 : Cond.laysStatic "java/lang/String" "COMPACT_STRINGS" "Z" ∈ lw_tbl := List.mem_of_getElem? (i := 607) (by decide +kernel)
theorem sd_ls2 : Cond.initialized "java/lang/String" ∈ lw_tbl := List.mem_of_getElem? (i := 122) (by decide +kernel)
theorem sd_ls3 : Cond.laysStatic "jdk/internal/util/Preconditions" "SIOOBE_FORMATTER" "Ljava/util/function/BiFunction;" ∈ lw_tbl := List.mem_of_getElem? (i := 623) (by decide +kernel)
theorem sd_ls4 : Cond.initialized "jdk/internal/util/Preconditions" ∈ lw_tbl := List.mem_of_getElem? (i := 124) (by decide +kernel)
/-- what is owed of the printed functions alone: over the heap that the constructors leave, the law's loop ends with true -/
def sd_pure : Prop := ∀ (L : Nat) (xs : Nat → Int32) (hf : sd_HX), L ≤ 3072 → sd_ini hf = true → LW_L18 xs L FU (sd_mk hf) 0 = some 1
set_option maxHeartbeats 4000000 in
set_option maxRecDepth 100000 in
theorem whole_start_open (hpure : sd_pure) {p : Program} {e : Env} {s : State} {m : MethodId} {below : List Frame} {meth : Method} {c : Code} (l : Launch) {b L : Nat} {xs : Nat → Int32} (hL : L ≤ 3072) (C0 : lw_At p s m meth c b L xs) : W p l e room_1 s m #[Value.ref b] below meth c s.heap [] 0 0 (lw_Z below #[Value.ref b] s) (entryFrame m ([Value.ref b] : List Value).toArray 4) := by
  obtain ⟨hx, hb, hr, hml, hown, hts, hX, hbl, hlocks, hgv⟩ := C0
  refine W.base ?_
  have hd0 := Drawn.sameBut.refl s.drawn lw_cs
  have hts1 : ∀ w ∈ lw_tbl, w.before #[Value.ref b] (s.setDrawn s.drawn) = true := dr_words hts _
  have hts2 : ∀ w ∈ sd_tb, w.before #[Value.ref b] (s.setDrawn s.drawn) = true := fun w hw => hts1 w (List.mem_filter.mp hw).1
  have hg1 := flat_of_before _ hgv
  have hg : ∀ w ∈ sd_gn, w.before #[Value.ref b] (s.setDrawn s.drawn) = true := dr_words hg1 _
  have hh : (s.setDrawn s.drawn).heap = s.heap := rfl
  obtain ⟨c0, i0, hk0⟩ := u_known (C := RX0) (T := TX0) (N := 3) (n := 3) hts2 sd_inX0 (hts2 (.instantiable RX0 3) (sd_mem (i := 271) (by decide +kernel)))
  obtain ⟨c1, i1, hk1⟩ := u_known (C := RX1) (T := TX1) (N := 4) (n := 4) hts2 sd_inX1 (hts2 (.instantiable RX1 4) (sd_mem (i := 318) (by decide +kernel)))
  obtain ⟨c2, i2, hk2⟩ := u_known (C := RX2) (T := TX2) (N := 3) (n := 3) hts2 sd_inX2 (hts2 (.instantiable RX2 3) (sd_mem (i := 166) (by decide +kernel)))
  obtain ⟨c4, i4, hk4⟩ := u_known (C := RX4) (T := TX4) (N := 4) (n := 4) hts2 sd_inX4 (hts2 (.instantiable RX4 4) (sd_mem (i := 400) (by decide +kernel)))
  obtain ⟨c5, i5, hk5⟩ := u_known (C := RX5) (T := TX5) (N := 4) (n := 4) hts2 sd_inX5 (hts2 (.instantiable RX5 4) (sd_mem (i := 180) (by decide +kernel)))
  obtain ⟨c6, i6, hk6⟩ := u_known (C := RX6) (T := TX6) (N := 4) (n := 4) hts2 sd_inX6 (hts2 (.instantiable RX6 4) (sd_mem (i := 137) (by decide +kernel)))
  obtain ⟨c7, i7, hk7⟩ := u_known (C := RX7) (T := TX7) (N := 11) (n := 11) hts2 sd_inX7 (hts2 (.instantiable RX7 11) (sd_mem (i := 360) (by decide +kernel)))
  obtain ⟨c8, i8, hk8⟩ := u_known (C := RX8) (T := TX8) (N := 3) (n := 3) hts2 sd_inX8 (hts2 (.instantiable RX8 3) (sd_mem (i := 325) (by decide +kernel)))
  obtain ⟨c9, i9, hk9⟩ := u_known (C := RX9) (T := TX9) (N := 6) (n := 6) hts2 sd_inX9 (hts2 (.instantiable RX9 6) (sd_mem (i := 173) (by decide +kernel)))
  obtain ⟨c10, i10, hk10⟩ := u_known (C := RX10) (T := TX10) (N := 6) (n := 6) hts2 sd_inX10 (hts2 (.instantiable RX10 6) (sd_mem (i := 290) (by decide +kernel)))
  obtain ⟨c11, i11, hk11⟩ := u_known (C := RX11) (T := TX11) (N := 17) (n := 17) hts2 sd_inX11 (hts2 (.instantiable RX11 17) (sd_mem (i := 129) (by decide +kernel)))
  obtain ⟨c12, i12, hk12⟩ := u_known (C := RX12) (T := TX12) (N := 47) (n := 47) hts2 sd_inX12 (hts2 (.instantiable RX12 47) (sd_mem (i := 1143) (by decide +kernel)))
  obtain ⟨a0, A0, R0⟩ := sd_arr0 (ty := .int) (hts2 _ na_int) (fun _ => Iff.rfl)
  obtain ⟨a1, A1, R1⟩ := sd_arr0 (ty := .double) (hts2 _ na_double) (fun _ => Iff.rfl)
  obtain ⟨a2, A2, R2⟩ := sd_arr0 (ty := .boolean) (hts2 _ na_boolean) (fun _ => Iff.rfl)
  obtain ⟨a3, A3, R3⟩ := sd_arr1 (C := RX8) (hts1 _ sd_ao8)
  obtain ⟨a4, A4, R4⟩ := sd_arr1 (C := RX9) (hts1 _ sd_ao9)
  obtain ⟨a5, A5, R5⟩ := sd_arr1 (C := RX5) (hts1 _ sd_ao5)
  obtain ⟨a6, A6, R6⟩ := sd_arr2 (hts1 _ sd_aoI)
  have hAo : ∀ a : Nat, a < (s.setDrawn s.drawn).heap.size → ¬ (fun q : Nat => (s.setDrawn s.drawn).heap.size ≤ q) a := fun a h1 h2 => Nat.not_le.mpr h1 h2
  obtain ⟨adK, adV, hSt, hev⟩ := vk_Sof (args := #[Value.ref b]) (s := s.setDrawn s.drawn) (N := 13) (tm := sd_tm) (len := sd_len) (byt := sd_byt) (A := fun q : Nat => (s.setDrawn s.drawn).heap.size ≤ q) sd_nN (fun i hi => hg _ (sd_nex i hi)) (fun i hi => hg _ (sd_nco i hi)) (fun i hi => hg _ (sd_nar i hi)) (fun i hi => hg _ (sd_nle i hi)) (fun i hi j hj => hg _ (sd_nel i hi j hj)) (fun i j hi hj hij => (sd_nne i hi j hj hij).elim (fun q => Or.inl (hg _ q)) (fun q => Or.inr (hg _ q))) hAo
  generalize hG : (((s.setDrawn s.drawn).heap.size, (fun k => List.getD [c0, c1, c2, c0, c4, c5, c6, c7, c8, c9, c10, c11, c12] k c0), (fun k => List.getD [i0, i1, i2, i0, i4, i5, i6, i7, i8, i9, i10, i11, i12] k i0), (fun t => List.getD [a0, a1, a2, a3, a4, a5, a6] (t - 100) a0), adK, adV) : sd_GX) = G
  have hG1 : G.1 = (s.setDrawn s.drawn).heap.size := by rw [← hG]
  have hK : sd_K G (s.setDrawn s.drawn) := by
    subst hG
    refine ⟨fun k q hq => ?_, fun k q hq => ?_⟩
    · match k, hq with
      | 0, hq => cases hq; exact hk0
      | 1, hq => cases hq; exact hk1
      | 2, hq => cases hq; exact hk2
      | 3, hq => cases hq; exact hk0
      | 4, hq => cases hq; exact hk4
      | 5, hq => cases hq; exact hk5
      | 6, hq => cases hq; exact hk6
      | 7, hq => cases hq; exact hk7
      | 8, hq => cases hq; exact hk8
      | 9, hq => cases hq; exact hk9
      | 10, hq => cases hq; exact hk10
      | 11, hq => cases hq; exact hk11
      | 12, hq => cases hq; exact hk12
      | k + 13, hq => simp [sd_cls] at hq
    · match k, hq with
      | 0, hq => cases hq; exact ⟨A0, R0⟩
      | 1, hq => cases hq; exact ⟨A1, R1⟩
      | 2, hq => cases hq; exact ⟨A2, R2⟩
      | 3, hq => cases hq; exact ⟨A3, R3⟩
      | 4, hq => cases hq; exact ⟨A4, R4⟩
      | 5, hq => cases hq; exact ⟨A5, R5⟩
      | 6, hq => cases hq; exact ⟨A6, R6⟩
      | k + 7, hq => simp [sd_tys] at hq
  have hT : sd_ST G (s.setDrawn s.drawn) (s.setDrawn s.drawn).heap := by
    subst hG
    refine ⟨hSt, va_Zof (hts1 _ sd_ls1) (hts1 _ sd_ls2) (va_eqt (hg _ sd_ncs)) hAo, va_Zqof (hts1 _ sd_ls3) (hts1 _ sd_ls4) (hg _ sd_nsi) hAo, fun j hj => vk_R.of (hts1 _ (sd_nsr j hj)) (hev j hj), fun w hw hn => ?_⟩
    have h := hts1 w hw
    cases w <;> first
      | exact va_Nw.of rfl h
      | exact h
      | (simp [sd_isN] at hn)
  have hB : sd_BD G (p, l, e, room_1, s.setDrawn s.drawn, m, #[Value.ref b], below, meth, c) M_LW := ⟨hx, hb, hr, hml, hown, hts2, hlocks, fun q => absurd q (by decide), rfl, hK, by show G.1 ≤ _; rw [hG1]; exact Nat.le_refl _, hT⟩
  have hE : sd_LW G (p, l, e, room_1, s.setDrawn s.drawn, m, #[Value.ref b], below, meth, c) (lw_Z below #[Value.ref b] s) b L xs := by
    refine ⟨hX.moved (U := s.setDrawn s.drawn) (Vm.Alike.refl s.vm), hbl, hG1, hL, fun pc lo h d hB2 H locs ls hH hS hl hf => ?_⟩
    refine va_forget (fun q hq => ?_) ?_
    · have := hS.2.2 q hq
      rw [← hG1]
      exact this
    · refine W.widen (k := 600000) (n := 7302250) hf.1 hf.2 ?_
      exact lw_ret hd0 hx hb hr hlocks d
  obtain ⟨hf, hc3, hok⟩ : ∃ hf, sd_c3 = some hf ∧ (sd_agr hf && sd_ini hf) = true := by
    have h := sd_c3_ok
    cases e3 : sd_c3 with
    | none => rw [e3] at h; cases h
    | some hf => rw [e3] at h; exact ⟨hf, rfl, h⟩
  rw [Bool.and_eq_true] at hok
  have hl := lv_entry ([Value.ref b]) (n := 4) (Nat.le_of_ble_eq_true rfl)
  rw [lg_entry_eq]
  have key := sd_pre_law hE hc3 hok.1 (hpure L xs hf hL hok.2) hB s.heap [] _ ⟨fun k q hq => by simp [sd_W, sd_z] at hq, by show s.heap.size = G.1 + 0; rw [hG1]; rfl, Nat.zero_le _⟩ va_S.rf hl ⟨by show 0 + G.1 - _ ≤ _; rw [hG1]; show 0 + (s.setDrawn s.drawn).heap.size - (s.setDrawn s.drawn).heap.size ≤ _; omega, by show sd_SZ 0 - _ ≤ _; show 0 - _ ≤ _; omega⟩
  have k1 : sd_kc G ((p, l, e, room_1, s.setDrawn s.drawn, m, #[Value.ref b], below, meth, c) : sd_CX) sd_z = 0 := by
    show 0 + G.1 - (s.setDrawn s.drawn).heap.size = 0
    rw [hG1]
    omega
  have k2 : sd_ks G ((p, l, e, room_1, s.setDrawn s.drawn, m, #[Value.ref b], below, meth, c) : sd_CX) sd_z = 0 := by
    show sd_SZ 0 - _ = 0
    show 0 - _ = 0
    omega
  rw [k1, k2] at key
  exact key
