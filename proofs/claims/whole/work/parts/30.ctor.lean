theorem sd_oi1 : Cond.instanceMethod Lib.objectInit ∈ sd_tb := sd_mem (i := 134) (by decide +kernel)
theorem sd_oi2 : Cond.code Lib.objectInit ⟨#[0xb1]⟩ 1 none ∈ sd_tb := sd_mem (i := 135) (by decide +kernel)
section SI
variable {G : sd_GX} {X : sd_CX} {Q : State → Prop} {M M' : sd_MX} {pc pc' : Nat} {lo lo' : List (Nat × Value)} {st st0 : List Value} {h : sd_HX}
def gu {β : Type} (h : sd_HX) (k : sd_HX → Option β) : Option β := k h
theorem gu_some {β : Type} {e : sd_HX} {k : sd_HX → Option β} {r : β} (h : gu e k = some r) : ∃ g, g = e ∧ k g = some r := ⟨e, rfl, h⟩
def opR {β : Type} (o : Option Nat) (k : Nat → Option β) : Option β := match o with
  | some c => k c
  | none => none
theorem opR_some {β : Type} {o : Option Nat} {k : Nat → Option β} {r : β} (h : opR o k = some r) : ∃ c, o = some c ∧ k c = some r := by
  cases o with
  | none => cases h
  | some c => exact ⟨c, rfl, h⟩
/-- a cell that stands, of a shape -/
def okO (h : sd_HX) (e t n : Nat) : Bool := decide (sd_SH e = (t, n)) && decide (e < h.1)
theorem okO_of {h : sd_HX} {e t n : Nat} (q : okO h e t n = true) : sd_SH e = (t, n) ∧ e < h.1 := by
  unfold okO at q
  rw [Bool.and_eq_true, decide_eq_true_eq, decide_eq_true_eq] at q
  exact q
/-- m cells more, of that shape from the next on, within the method's room (h0: its heap at its entry) -/
def okN (h0 h : sd_HX) (M : sd_MX) (t n : Nat) : Bool := decide (sd_SH h.1 = (t, n)) && (decide (h.1 + 1 ≤ h0.1 + M.2.2.2.2.cells) && decide (sd_SZ (h.1 + 1) ≤ sd_SZ h0.1 + M.2.2.2.2.slots))
def nw (h : sd_HX) : sd_HX := (h.1 + 1, fun c k => if c = h.1 then 0 else h.2.1 c k, fun c k => if c = h.1 then 0 else h.2.2.1 c k, fun c k => if c = h.1 then none else h.2.2.2 c k)
/-- new T[n][6]: the outer row first -/
def nwM (h : sd_HX) (n : Nat) : sd_HX := (h.1 + 1 + n, fun c k => if h.1 ≤ c then 0 else h.2.1 c k, fun c k => if h.1 ≤ c then 0 else h.2.2.1 c k, fun c k => if c = h.1 then (if k < n then some (h.1 + 1 + k) else none) else if h.1 < c then none else h.2.2.2 c k)
def okM (h0 h : sd_HX) (M : sd_MX) (n m : Nat) : Bool := decide (sd_SH h.1 = (106, n)) && ((List.range n).all (fun i => decide (sd_SH (h.1 + 1 + i) = (100, m))) && (decide (h.1 + 1 + n ≤ h0.1 + M.2.2.2.2.cells) && decide (sd_SZ (h.1 + 1 + n) ≤ sd_SZ h0.1 + M.2.2.2.2.slots)))
/-- the end: all its room is taken -/
def okE (h0 h : sd_HX) (M : sd_MX) : Bool := decide (h.1 = h0.1 + M.2.2.2.2.cells) && decide (sd_SZ h.1 = sd_SZ h0.1 + M.2.2.2.2.slots)
theorem okE_of {h0 h : sd_HX} {M : sd_MX} (q : okE h0 h M = true) : h.1 = h0.1 + M.2.2.2.2.cells ∧ sd_SZ h.1 = sd_SZ h0.1 + M.2.2.2.2.slots := by
  unfold okE at q
  rw [Bool.and_eq_true, decide_eq_true_eq, decide_eq_true_eq] at q
  exact q
theorem sd_SZ_s {c t n : Nat} (hs : sd_SH c = (t, n)) (ht : t < 900) : sd_SZ (c + 1) = sd_SZ c + n := by
  have hc := sd_SHlt hs ht
  unfold sd_SZ
  rw [List.take_succ, List.map_append, List.sum_append]
  unfold sd_SH at hs
  rw [List.getD_eq_getElem?_getD] at hs
  cases e : sd_shl[c]? with
  | none => rw [e] at hs; cases hs; omega
  | some q => rw [e] at hs; cases hs; rfl
/-- the room that is left, by the heap at the entry -/
theorem sd_fitN {h0 g : sd_HX} (hB : sd_BD G X M) (h0s : (sd_s X).heap.size = G.1 + h0.1) (e : g.1 ≤ h0.1 + M.2.2.2.2.cells ∧ sd_SZ g.1 ≤ sd_SZ h0.1 + M.2.2.2.2.slots) : sd_fit G X g := by
  unfold sd_fit sd_kc sd_ks
  rw [h0s, hB.2.2.2.2.2.2.2.2.1, Nat.add_sub_cancel_left]
  omega
theorem sd_dflt : ∀ ci, ci < 13 → ∀ j, j < (sd_C ci).2.2 → defaultValue (sd_ty ci j) = if sd_FT ci j = 2 then .null else .int 0 := by decide +kernel
theorem nw_old {q : Nat} (hq : q ≠ h.1) : sd_cel G (nw h) q = sd_cel G h q := sd_cel_ext G (fun j => by show (if q = h.1 then 0 else h.2.1 q j) = _; rw [if_neg hq]) (fun j => by show (if q = h.1 then 0 else h.2.2.1 q j) = _; rw [if_neg hq]) (fun j => by show (if q = h.1 then none else h.2.2.2 q j) = _; rw [if_neg hq])
abbrev sd_nwd (own : String) (idx ci : Nat) : Prop := Cond.classLink own idx (sd_C ci).1 ∈ sd_tb ∧ Cond.instantiable (sd_C ci).1 (sd_C ci).2.2 ∈ sd_tb ∧ Cond.initialized (sd_C ci).1 ∈ sd_tb ∧ ci < 13
theorem sd_new {idx ci n : Nat} {h0 : sd_HX} (h0s : (sd_s X).heap.size = G.1 + h0.1) (d : sd_d M pc (.new idx) 3 pc') (hw : sd_nwd M.1.cls idx ci) (hn : (sd_C ci).2.2 = n) (hk : okN h0 h M ci n = true) (kk : sd_J G X Q M pc' lo (.ref (G.1 + h.1) :: st) (nw h)) : sd_J G X Q M pc lo st h := fun hB H locs ls hH hS hl hf => by
  subst hn
  obtain ⟨d, rfl⟩ := d
  obtain ⟨hw1, hw2, hw3, hci⟩ := hw
  unfold okN at hk
  simp only [Bool.and_eq_true, decide_eq_true_eq] at hk
  obtain ⟨hs, hk1, hk2⟩ := hk
  have hf2 : sd_fit G X (nw h) := sd_fitN hB h0s ⟨hk1, hk2⟩
  have hts := hB.2.2.2.2.2.1
  have hK := hB.2.2.2.2.2.2.2.2.2.1
  have hcl := sd_clsAt hci
  have hKn := hK.1 ci _ hcl
  have hadd := sd_kadd (h1 := nw h) (mc := 1) (ms := (sd_C ci).2.2) hB hH hS ⟨rfl, sd_SZ_s hs (by omega)⟩
  have hf3 := hf2
  unfold sd_fit at hf3
  rw [hadd.1, hadd.2] at hf3
  refine W.newcK hB.1 hB.2.1 hB.2.2.2.2.1 (hts _ hw1) (hts _ hw2) (hts _ hw3) rfl d hf3.1 hf3.2 hKn.2.1 hH.2.1 fun H1 kC hkC e1 z1 o1 => ?_
  have hold : ∀ (k : Nat) (x : Nat × va_E), (sd_W G h)[k]? = some x → H1[x.1]? = H[x.1]? := fun k x hx => o1 x.1 (by have := (hH.1 k x hx).lt; rw [hH.2.1] at this; exact this)
  have hW : sd_W G h ++ [(G.1 + h.1, .inr (ci, (List.range (sd_C ci).2.2).map (fun j => sd_fv G.1 (nw h) ci h.1 j)))] = sd_W G (nw h) := sd_W_push G (g := nw h) rfl (sd_cel_o G _ hs (by omega)) (fun k hk => nw_old (Nat.ne_of_lt hk))
  have hP : va_P (sd_dD G) sd_cls (sd_W G (nw h)) H1 := by
    rw [← hW]
    refine (hH.1.kept hold).app (fun k x hx => ?_)
    have hz : k < 1 := (List.getElem?_eq_some_iff.mp hx).1
    rw [show k = 0 by omega] at hx
    cases hx
    refine ⟨_, hcl, (u_born (sd_ty ci) hts (sd_in hci) hKn hkC e1 (sd_tyok hci)).to (fun j hj => ?_)⟩
    rw [sd_dflt ci hci j hj]
    unfold vp_V
    rw [List.getD_eq_getElem?_getD, List.getElem?_map, List.getElem?_range hj]
    show _ = sd_fv G.1 (nw h) ci h.1 j
    unfold sd_fv
    by_cases q : sd_FT ci j = 2
    · rw [if_pos q, if_pos q]
      show _ = va_rf ((if h.1 = h.1 then none else h.2.2.2 h.1 j).map _)
      rw [if_pos rfl]
      rfl
    · rw [if_neg q, if_neg q]
      show _ = Value.int (if h.1 = h.1 then 0 else h.2.1 h.1 j)
      rw [if_pos rfl]
  have k2 := kk hB H1 locs ls ⟨hP, by rw [z1]; show G.1 + h.1 + 1 = G.1 + (h.1 + 1); omega, by have := sd_SHlt hs (by omega); show h.1 + 1 ≤ sd_NT; omega⟩ ⟨Nat.le_trans hS.1 (by rw [z1, hH.2.1]; omega), fun x h1 h2 => (o1 x (by have := hS.1; rw [hH.2.1] at this; omega)).trans (hS.2.1 x h1 h2), hS.2.2⟩ hl hf2
  rw [hadd.1, hadd.2] at k2
  exact k2
theorem sd_cA (hB : sd_BD G X M) {k : Nat} {ty : FieldType} {cA : ClassId} (ht : (sd_tys G.2.2.2.1)[k]? = some (G.2.2.2.1 (100 + k), ty)) {nm : String} (hc : (sd_s X).vm.findClass nm = some cA) (hn : ∀ U c, va_RA U c ty → U.vm.findClass nm = some c) : cA = G.2.2.2.1 (100 + k) := Option.some.inj (hc.symm.trans (hn _ _ (hB.2.2.2.2.2.2.2.2.2.1.2 k _ ht).2))
theorem sd_newA {atype : ArrayType} {k N : Nat} {n : Int32} {h0 : sd_HX} (h0s : (sd_s X).heap.size = G.1 + h0.1) (d : sd_d M pc (.newarray atype) 2 pc') (hw : Cond.arrayClass (newarray.typeOf atype) ∈ sd_tb) (hty : (k = 0 ∧ atype = .int) ∨ (k = 1 ∧ atype = .double) ∨ (k = 2 ∧ atype = .boolean)) (hn : ¬ n < 0) (hN : n.toNatClampNeg = N) (hbig : N ≤ 60000) (hk : okN h0 h M (100 + k) N = true) (kk : sd_J G X Q M pc' lo (.ref (G.1 + h.1) :: st) (nw h)) : sd_J G X Q M pc lo (.int n :: st) h := fun hB H locs ls hH hS hl hf => by
  obtain ⟨d, rfl⟩ := d
  unfold okN at hk
  simp only [Bool.and_eq_true, decide_eq_true_eq] at hk
  obtain ⟨hs, hk1, hk2⟩ := hk
  have hk3 : k < 3 := by rcases hty with ⟨rfl, -⟩ | ⟨rfl, -⟩ | ⟨rfl, -⟩ <;> decide
  have hf2 : sd_fit G X (nw h) := sd_fitN hB h0s ⟨hk1, hk2⟩
  have hts := hB.2.2.2.2.2.1
  have hadd := sd_kadd (h1 := nw h) (mc := 1) (ms := N) hB hH hS ⟨rfl, sd_SZ_s hs (by omega)⟩
  have hf3 := hf2
  unfold sd_fit at hf3
  rw [hadd.1, hadd.2] at hf3
  refine va_newaK hB.1 hB.2.1 (hts _ hw) rfl d rfl hn hN (by rcases hty with ⟨-, rfl⟩ | ⟨-, rfl⟩ | ⟨-, rfl⟩ <;> (show N * _ ≤ _; first | (show N * 4 ≤ _; omega) | (show N * 8 ≤ _; omega) | (show N * 1 ≤ _; omega))) hf3.1 hf3.2 hH.2.1 fun H1 cA e1 z1 o1 _ hNm => ?_
  have hcA : cA = G.2.2.2.1 (100 + k) := by
    rcases hty with ⟨rfl, rfl⟩ | ⟨rfl, rfl⟩ | ⟨rfl, rfl⟩
    · exact sd_cA hB (ty := .int) rfl hNm (fun _ _ q => q)
    · exact sd_cA hB (ty := .double) rfl hNm (fun _ _ q => q)
    · exact sd_cA hB (ty := .boolean) rfl hNm (fun _ _ q => q)
  subst hcA
  have hold : ∀ (k : Nat) (x : Nat × va_E), (sd_W G h)[k]? = some x → H1[x.1]? = H[x.1]? := fun k x hx => o1 x.1 (by have := (hH.1 k x hx).lt; rw [hH.2.1] at this; exact this)
  have hW := sd_W_push G (h := h) (g := nw h) rfl (sd_cel_a G (nw h) hs (by omega)) (fun k hk => nw_old (Nat.ne_of_lt hk))
  have hP : va_P (sd_dD G) sd_cls (sd_W G (nw h)) H1 := by
    rw [← hW]
    refine (hH.1.kept hold).app (fun k9 x hx => ?_)
    have hz : k9 < 1 := (List.getElem?_eq_some_iff.mp hx).1
    rw [show k9 = 0 by omega] at hx
    cases hx
    show H1[G.1 + h.1]? = some (vp_cell _ _)
    rw [e1]
    have i0 : (nw h).2.1 h.1 = fun _ => 0 := by funext j; show (if h.1 = h.1 then 0 else h.2.1 h.1 j) = 0; rw [if_pos rfl]
    have d0 : (nw h).2.2.1 h.1 = fun _ => 0 := by funext j; show (if h.1 = h.1 then 0 else h.2.2.1 h.1 j) = 0; rw [if_pos rfl]
    rcases hty with ⟨rfl, rfl⟩ | ⟨rfl, rfl⟩ | ⟨rfl, rfl⟩
    · show _ = some (vp_cell _ (N, .inl ((nw h).2.1 h.1)))
      rw [i0]; rfl
    · show _ = some (vp_cell _ (N, .inr (.inr (.inr (.inl ((nw h).2.2.1 h.1))))))
      rw [d0]; rfl
    · show _ = some (vp_cell _ (N, .inl ((nw h).2.1 h.1)))
      rw [i0]; rfl
  have k2 := kk hB H1 locs ls ⟨hP, by rw [z1]; show G.1 + h.1 + 1 = G.1 + (h.1 + 1); omega, by have := sd_SHlt hs (by omega); show h.1 + 1 ≤ sd_NT; omega⟩ ⟨Nat.le_trans hS.1 (by rw [z1, hH.2.1]; omega), fun x h1 h2 => (o1 x (by have := hS.1; rw [hH.2.1] at this; omega)).trans (hS.2.1 x h1 h2), hS.2.2⟩ hl hf2
  rw [hadd.1, hadd.2] at k2
  exact k2
theorem sd_newQ {idx k N : Nat} {C : String} {n : Int32} {h0 : sd_HX} (h0s : (sd_s X).heap.size = G.1 + h0.1) (d : sd_d M pc (.anewarray idx) 3 pc') (hw : Cond.classLink M.1.cls idx C ∈ sd_tb) (hov : Cond.arrayOver (.object C) ∈ lw_tbl) (hty : (k = 3 ∧ C = RX8) ∨ (k = 4 ∧ C = RX9) ∨ (k = 5 ∧ C = RX5)) (hn : ¬ n < 0) (hN : n.toNatClampNeg = N) (hbig : N ≤ 60000) (hk : okN h0 h M (100 + k) N = true) (kk : sd_J G X Q M pc' lo (.ref (G.1 + h.1) :: st) (nw h)) : sd_J G X Q M pc lo (.int n :: st) h := fun hB H locs ls hH hS hl hf => by
  subst hN
  obtain ⟨d, rfl⟩ := d
  unfold okN at hk
  simp only [Bool.and_eq_true, decide_eq_true_eq] at hk
  obtain ⟨hs, hk1, hk2⟩ := hk
  have hk3 : k < 6 ∧ 3 ≤ k := by rcases hty with ⟨rfl, -⟩ | ⟨rfl, -⟩ | ⟨rfl, -⟩ <;> decide
  have hf2 : sd_fit G X (nw h) := sd_fitN hB h0s ⟨hk1, hk2⟩
  have hts := hB.2.2.2.2.2.1
  have hadd := sd_kadd (h1 := nw h) (mc := 1) (ms := n.toNatClampNeg) hB hH hS ⟨rfl, sd_SZ_s hs (by omega)⟩
  have hf3 := hf2
  unfold sd_fit at hf3
  rw [hadd.1, hadd.2] at hf3
  refine W.anew hB.1 hB.2.1 hB.2.2.2.2.1 (hts _ hw) (hB.2.2.2.2.2.2.2.2.2.2.2.2.2.2.2 _ hov rfl) rfl d rfl hn (by omega) hf3.1 hf3.2 fun cA kA comp f1 f2 f3 f4 => ?_
  have hcA : cA = G.2.2.2.1 (100 + k) := by
    rcases hty with ⟨rfl, rfl⟩ | ⟨rfl, rfl⟩ | ⟨rfl, rfl⟩
    · exact sd_cA hB (ty := .object RX8) rfl f1 (fun _ _ ⟨_, _, _, _, _, q⟩ => q)
    · exact sd_cA hB (ty := .object RX9) rfl f1 (fun _ _ ⟨_, _, _, _, _, q⟩ => q)
    · exact sd_cA hB (ty := .object RX5) rfl f1 (fun _ _ ⟨_, _, _, _, _, q⟩ => q)
  subst hcA
  generalize hH1 : H.push ({ cls := G.2.2.2.1 (100 + k), slots := Array.replicate n.toNatClampNeg .null, vm := .none } : Cell) = H1
  have z1 : H1.size = H.size + 1 := by rw [← hH1, Array.size_push]
  have e1 : H1[H.size]? = some (arrV (G.2.2.2.1 (100 + k)) n.toNatClampNeg (fun _ => .null)) := by rw [← hH1, Array.getElem?_push_size, ← arrV_new]
  have o1 : ∀ q : Nat, q < H.size → H1[q]? = H[q]? := fun q hq => by rw [← hH1, Array.getElem?_push, if_neg (Nat.ne_of_lt hq)]
  have hold : ∀ (k : Nat) (x : Nat × va_E), (sd_W G h)[k]? = some x → H1[x.1]? = H[x.1]? := fun k x hx => o1 x.1 ((hH.1 k x hx).lt)
  have hW := sd_W_push G (h := h) (g := nw h) rfl (sd_cel_a G (nw h) hs (by omega)) (fun k hk => nw_old (Nat.ne_of_lt hk))
  have hP : va_P (sd_dD G) sd_cls (sd_W G (nw h)) H1 := by
    rw [← hW]
    refine (hH.1.kept hold).app (fun k9 x hx => ?_)
    have hz : k9 < 1 := (List.getElem?_eq_some_iff.mp hx).1
    rw [show k9 = 0 by omega] at hx
    cases hx
    show H1[G.1 + h.1]? = some (vp_cell _ _)
    rw [← hH.2.1, e1]
    have r0 : (fun j => ((nw h).2.2.2 h.1 j).map (fun a => G.1 + a)) = fun _ => none := by funext j; show (if h.1 = h.1 then none else h.2.2.2 h.1 j).map _ = none; rw [if_pos rfl]; rfl
    have e2 : sd_arr G.1 (nw h) (100 + k) h.1 = .inr (.inr (.inr (.inr (fun _ => none)))) := by
      unfold sd_arr
      rw [if_neg (by omega), if_neg (by omega), r0]
    rw [e2]
    rfl
  have k2 := kk hB H1 locs ls ⟨hP, by rw [z1, hH.2.1]; show G.1 + h.1 + 1 = G.1 + (h.1 + 1); omega, by have := sd_SHlt hs (by omega); show h.1 + 1 ≤ sd_NT; omega⟩ ⟨Nat.le_trans hS.1 (by rw [z1]; omega), fun x h1 h2 => (o1 x (by have := hS.1; omega)).trans (hS.2.1 x h1 h2), hS.2.2⟩ hl hf2
  rw [hadd.1, hadd.2] at k2
  rw [hH.2.1]
  exact k2
theorem sd_oinit {idx e : Nat} (d : sd_d M pc (.invokespecial idx) 3 pc') (hw : Cond.methodLink M.1.cls idx Lib.objectInit ∈ sd_tb) (hr : 1 ≤ M.2.2.2.2.frames) (hl2 : 2 * 0 + (st.map fun v => v.category).sum + 12 ≤ M.2.2.2.2.locals) (kk : sd_J G X Q M pc' lo st h) : sd_J G X Q M pc lo (.ref e :: st) h := fun hB H locs ls hH hS hl hf => by
  obtain ⟨d, rfl⟩ := d
  have hts := hB.2.2.2.2.2.1
  have eR := hB.2.2.2.2.2.2.2.2.1
  exact W.objInit hB.1 hB.2.1 hB.2.2.2.2.1 (hts _ hw) (hts _ sd_oi1) (hts _ sd_oi2) rfl (hl.1.trans hB.2.2.2.1.symm) rfl d (by rw [eR]; exact hr) (by rw [eR]; exact hl2) (kk hB H locs ls hH hS hl hf)
theorem sI_get {idx ci k e n r : Nat} (d : sd_d M pc (.getfield idx) 3 pc') (hw : sd_fl M.1.cls idx ci k) (hf : sd_FT ci k = 2) (hn : (sd_C ci).2.2 = n) (pe : okO h e ci n = true) (hr : h.2.2.2 e k = some r) (kk : sd_J G X Q M pc' lo (.ref (G.1 + r) :: st) h) : sd_J G X Q M pc lo (.ref (G.1 + e) :: st) h := by
  subst hn
  obtain ⟨p1, p2⟩ := okO_of pe
  refine sd_get d hw p1 p2 ?_
  unfold sd_fv
  rw [if_pos hf, hr]
  exact kk
theorem sI_pi {idx ci k e n : Nat} {v : Int32} (d : sd_d M pc (.putfield idx) 3 pc') (hw : sd_fl M.1.cls idx ci k) (hf : (sd_FT ci k = 0 ∧ sd_ty ci k = .int) ∨ (sd_FT ci k = 1 ∧ sd_ty ci k = .boolean ∧ sd_isB v = true)) (hfin : ((sd_C ci).2.1 k).2.2.2 = false) (hn : (sd_C ci).2.2 = n) (pe : okO h e ci n = true) (kk : sd_J G X Q M pc' lo st (sd_wi h e k v)) : sd_J G X Q M pc lo (.int v :: .ref (G.1 + e) :: st) h := by
  subst hn
  obtain ⟨p1, p2⟩ := okO_of pe
  rcases hf with ⟨f1, f2⟩ | ⟨f1, f2, f3⟩
  · exact sd_put0 (g := sd_wi h e k v) d hw p1 p2 f2 (Or.inl hfin) (by rfl) (by rfl) rfl (sd_wi_set G hw.2.1 p1 p2 (by rw [f1]; decide)) kk
  · exact sd_put0 (g := sd_wi h e k v) d hw p1 p2 f2 (Or.inl hfin) (sd_isB_nar f3).1 (sd_isB_nar f3).2 rfl (sd_wi_set G hw.2.1 p1 p2 (by rw [f1]; decide)) kk
theorem sI_pr {idx ci k e n r : Nat} {ty : FieldType} (d : sd_d M pc (.putfield idx) 3 pc') (hw : sd_fl M.1.cls idx ci k) (hf : sd_FT ci k = 2) (hty : sd_ty ci k = ty) (hnr : ∀ a, narrow ty (.ref a) = .ref a) (hfi : ∀ a, fits ty (.ref a) = true) (hfin : M.1.name = "<init>" ∧ ((sd_C ci).2.1 k).2.2.2 = true ∧ ((sd_C ci).2.1 k).1 = M.1.cls) (hn : (sd_C ci).2.2 = n) (pe : okO h e ci n = true) (kk : sd_J G X Q M pc' lo st (sd_wr h e k (some r))) : sd_J G X Q M pc lo (.ref (G.1 + r) :: .ref (G.1 + e) :: st) h := by
  subst hn
  obtain ⟨p1, p2⟩ := okO_of pe
  exact sd_put0 (g := sd_wr h e k (some r)) d hw p1 p2 hty (Or.inr hfin) (hnr _) (hfi _) rfl (sd_wr_set G (v := some r) hw.2.1 p1 p2 hf) kk
theorem sI_iast {e n : Nat} {i v : Int32} (d : sd_d M pc .iastore 1 pc') (pe : okO h e 100 n = true) (hin : sd_inB i n = true) (kk : sd_J G X Q M pc' lo st (sd_wi h e i.toNatClampNeg v)) : sd_J G X Q M pc lo (.int v :: .int i :: .ref (G.1 + e) :: st) h := sd_iast d (okO_of pe).1 (okO_of pe).2 hin kk
theorem sI_aast {e n t r ci m : Nat} {i : Int32} (d : sd_d M pc .aastore 1 pc') (pe : okO h e t n = true) (hin : sd_inB i n = true) (pr : okO h r ci m = true) (ht : (t = 103 ∧ ci = 8) ∨ (t = 104 ∧ ci = 9) ∨ (t = 105 ∧ ci = 5)) (kk : sd_J G X Q M pc' lo st (sd_wr h e i.toNatClampNeg (some r))) : sd_J G X Q M pc lo (.ref (G.1 + r) :: .int i :: .ref (G.1 + e) :: st) h := fun hB H locs ls hH hS hl hf => by
  obtain ⟨d, rfl⟩ := d
  obtain ⟨p1, p2⟩ := okO_of pe
  obtain ⟨q1, q2⟩ := okO_of pr
  have ht3 : ¬ t < 103 ∧ t ≠ 101 ∧ ¬ t < 100 := by rcases ht with ⟨rfl, -⟩ | ⟨rfl, -⟩ | ⟨rfl, -⟩ <;> decide
  have harr : ∀ g : sd_HX, sd_arr G.1 g t e = .inr (.inr (.inr (.inr (fun j => (g.2.2.2 e j).map (fun a => G.1 + a))))) := fun g => by
    unfold sd_arr
    rw [if_neg ht3.2.1, if_neg ht3.1]
  have ha := sd_at_arr G p1 ht3.2.2 p2
  rw [harr] at ha
  have hci : ci < 13 := by rcases ht with ⟨-, rfl⟩ | ⟨-, rfl⟩ | ⟨-, rfl⟩ <;> decide
  have hv := sd_W_at G q2
  rw [sd_cel_o G h q1 (by omega)] at hv
  have hset : (sd_W G h).set e (G.1 + e, .inl (G.2.2.2.1 t, n, .inr (.inr (.inr (.inr (va_up (fun j => (h.2.2.2 e j).map (fun a => G.1 + a)) i.toNatClampNeg (some (G.1 + r)))))))) = sd_W G (sd_wr h e i.toNatClampNeg (some r)) := by
    refine sd_W_set G (g := sd_wr h e i.toNatClampNeg (some r)) rfl p2 ?_ (fun q _ hq => sd_wr_ne G h _ hq)
    rw [sd_cel_a G _ p1 ht3.2.2, harr]
    have : (fun j => ((sd_wr h e i.toNatClampNeg (some r)).2.2.2 e j).map (fun a => G.1 + a)) = va_up (fun j => (h.2.2.2 e j).map (fun a => G.1 + a)) i.toNatClampNeg (some (G.1 + r)) := by
      funext j
      show (if e = e ∧ j = i.toNatClampNeg then some r else h.2.2.2 e j).map _ = _
      unfold va_up
      by_cases q : j = i.toNatClampNeg
      · rw [if_pos ⟨rfl, q⟩, if_pos q]; rfl
      · rw [if_neg (fun z => q z.2), if_neg q]
    rw [this]
  have fin : ∀ (H1 : Heap) (locs1 : List Loc), va_P (sd_dD G) sd_cls ((sd_W G h).set e (G.1 + e, .inl (G.2.2.2.1 t, n, .inr (.inr (.inr (.inr (va_up (fun j => (h.2.2.2 e j).map (fun a => G.1 + a)) i.toNatClampNeg (some (G.1 + r))))))))) H1 → va_D (sd_A G) ((sd_W G h).set e (G.1 + e, .inl (G.2.2.2.1 t, n, .inr (.inr (.inr (.inr (va_up (fun j => (h.2.2.2 e j).map (fun a => G.1 + a)) i.toNatClampNeg (some (G.1 + r))))))))) → va_S (sd_A G) (sd_s X).heap H1 locs1 →
      W X.1 X.2.1 X.2.2.1 X.2.2.2.1 (sd_s X) X.2.2.2.2.2.1 X.2.2.2.2.2.2.1 X.2.2.2.2.2.2.2.1 X.2.2.2.2.2.2.2.2.1 X.2.2.2.2.2.2.2.2.2 H1 locs1 (sd_kc G X h) (sd_ks G X h) Q (F0 X.2.2.2.2.2.1 (pc + 1) ls st) := by
    intro H1 locs1 hP1 _ hS1 T hT Xs
    rw [hset] at hP1
    have hz := sd_size hB hH hS (g1 := sd_wr h e i.toNatClampNeg (some r)) rfl (by show 0 < h.1; omega) hP1 hT Xs
    exact kk hB H1 locs1 ls (hH.to (g := sd_wr h e i.toNatClampNeg (some r)) rfl hz hP1) hS1 hl hf T hT Xs
  rcases ht with ⟨rfl, rfl⟩ | ⟨rfl, rfl⟩ | ⟨rfl, rfl⟩
  · exact va_astq hB.1 hB.2.1 hB.2.2.2.2.2.2.2.2.2.1 hH.1 (sd_W_D G h) hS e 3 r 8 (r := sd_C 8) ha rfl hv (sd_clsAt (by decide)) (sd_in_of hin) d fin
  · exact va_astq hB.1 hB.2.1 hB.2.2.2.2.2.2.2.2.2.1 hH.1 (sd_W_D G h) hS e 4 r 9 (r := sd_C 9) ha rfl hv (sd_clsAt (by decide)) (sd_in_of hin) d fin
  · exact va_astq hB.1 hB.2.1 hB.2.2.2.2.2.2.2.2.2.1 hH.1 (sd_W_D G h) hS e 5 r 5 (r := sd_C 5) ha rfl hv (sd_clsAt (by decide)) (sd_in_of hin) d fin
/-- calls of constructors -/
theorem sI_call {idx b : Nat} {As : List Value} {g h0 : sd_HX} (n : Nat) (h0s : (sd_s X).heap.size = G.1 + h0.1) (hR : sd_Run G M' (.ref (G.1 + b) :: As) h (none, g)) (d : decode M.2.1 pc = .ok (.invokespecial idx, 3)) (hm : sd_mI M' n) (hlk : Cond.methodLink M.1.cls idx M'.1 ∈ sd_tb ∨ Cond.methodLinkNest M.1.cls idx M'.1 RX11 ∈ lw_tbl) (hrm : sd_rm M M') (hn : As.length = n) (hst : st0 = As.reverse ++ .ref (G.1 + b) :: st) (hw : (st.map fun v => v.category).sum ≤ 8)
    (hlim : g.1 ≤ h0.1 + M.2.2.2.2.cells ∧ sd_SZ g.1 ≤ sd_SZ h0.1 + M.2.2.2.2.slots) (hp : pc + 3 = pc') (kk : sd_J G X Q M pc' lo st g) : sd_J G X Q M pc lo st0 h := by
  subst hp
  intro hB
  refine sd_call (o := (none, g)) hR (fun hB H locs ls hH hS hl hc => ?_) (fun _ => sd_fitN hB h0s hlim) kk hB
  rw [hst]
  have hts := hB.2.2.2.2.2.1
  have eR := hB.2.2.2.2.2.2.2.2.1
  have hnone := hm.2.2.1
  rcases hlk with hlk | hlk
  · have cb := cwI (ws := sd_ws M') (bytes := M'.2.1) (maxL := M'.2.2.1) (ws' := sd_tb) (rm := M'.2.2.2.2) (R := X.2.2.2.1) n hts (fun w hw => (sd_gws (pre := []) hm.2.2.2 (fun w hw => absurd hw List.not_mem_nil)) w hw) (by unfold sd_ws; rw [hnone]) rfl rfl (hts _ hm.2.2.2.2.1) (hts _ hlk) (hts _ hm.1) hm.2.1 hm.2.2.2.2.2 (by rw [eR]; exact hrm)
    exact va_runI (sd_fix hB) (hR.2 X.2.1) cb (sd_pre hB hH hS _) rfl hn hl.1 rfl (lv_room hw) d hc
  · have cb := va_cnB (R := X.2.2.2.1) (rm := M'.2.2.2.2) (ws := sd_ws M') (bytes := M'.2.1) (maxL := M'.2.2.1) (ret := none) (ws' := sd_tb) n hts (fun w hw => (sd_gws (pre := []) hm.2.2.2 (fun w hw => absurd hw List.not_mem_nil)) w hw) (by unfold sd_ws; rw [hnone]) rfl rfl (hB.2.2.2.2.2.2.2.2.2.2.2.2.2.2.2 _ hlk rfl) (hts _ hm.2.2.2.2.1) hm.2.2.2.2.2 (by rw [eR]; exact hrm)
    exact va_runIN (sd_fix hB) (hR.2 X.2.1) ⟨cb, hm.2.1, hts _ hm.1⟩ (sd_pre hB hH hS _) rfl hn hl.1 rfl (lv_room hw) d hc
/-- m cells more within the room -/
def okL (h0 g : sd_HX) (M : sd_MX) : Bool := decide (g.1 ≤ h0.1 + M.2.2.2.2.cells) && decide (sd_SZ g.1 ≤ sd_SZ h0.1 + M.2.2.2.2.slots)
theorem okL_of {h0 h : sd_HX} {M : sd_MX} (q : okL h0 h M = true) : h.1 ≤ h0.1 + M.2.2.2.2.cells ∧ sd_SZ h.1 ≤ sd_SZ h0.1 + M.2.2.2.2.slots := by
  unfold okL at q
  rw [Bool.and_eq_true, decide_eq_true_eq, decide_eq_true_eq] at q
  exact q
theorem sI_ret {g h0 : sd_HX} (h0s : (sd_s X).heap.size = G.1 + h0.1) (d : decode M.2.1 pc = .ok (.return_, 1)) (hr : M.2.2.2.1 = none) (he : okE h0 g M = true) : sd_J G X (sd_QR G X M (none, g)) M pc lo [] g := by
  obtain ⟨e1, e2⟩ := okE_of he
  refine sd_vret d hr ⟨?_, ?_⟩
  · unfold sd_kc; rw [h0s, e1]; omega
  · unfold sd_ks; rw [h0s, e2, Nat.add_sub_cancel_left]; omega
end SI


theorem vr_outer (c : ClassId) (N h0 : Nat) : ∀ i : Nat, Jvm.Free.Multi.outerC c N h0 i = arrV c N (fun j => va_rf (if j < i then some (h0 + 1 + j) else none))
  | 0 => by
    show ({ cls := c, slots := Array.replicate N .null, vm := .none } : Cell) = _
    rw [arrV_new]
    refine congrArg (arrV c N) (funext fun j => ?_)
    simp [va_rf]
  | i + 1 => by
    show (Jvm.Free.Multi.outerC c N h0 i).setSlot i (.ref (h0 + 1 + i)) = _
    rw [vr_outer c N h0 i, arrV_store]
    refine congrArg (arrV c N) (funext fun j => ?_)
    by_cases e : j = i
    · subst e
      simp [updV, va_rf]
    · by_cases h : j < i
      · simp [updV, e, h, Nat.lt_succ_of_lt h]
      · simp [updV, e, h, show ¬ j < i + 1 by omega]
theorem sd_SZ_r {c m : Nat} : ∀ n : Nat, (∀ i, i < n → sd_SH (c + i) = (100, m)) → sd_SZ (c + n) = sd_SZ c + n * m
  | 0, _ => by simp
  | n + 1, h => by
    rw [show c + (n + 1) = (c + n) + 1 by omega, sd_SZ_s (h n (by omega)) (by decide), sd_SZ_r n (fun i hi => h i (by omega)), Nat.succ_mul]
    omega
theorem nwM_old {G : sd_GX} {h : sd_HX} {n q : Nat} (hq : q < h.1) : sd_cel G (nwM h n) q = sd_cel G h q := sd_cel_ext G (fun j => by show (if h.1 ≤ q then 0 else h.2.1 q j) = _; rw [if_neg (by omega)]) (fun j => by show (if h.1 ≤ q then 0 else h.2.2.1 q j) = _; rw [if_neg (by omega)]) (fun j => by show (if q = h.1 then _ else if h.1 < q then none else h.2.2.2 q j) = _; rw [if_neg (by omega), if_neg (by omega)])
theorem sd_newM {G : sd_GX} {X : sd_CX} {Q : State → Prop} {M : sd_MX} {pc pc' : Nat} {lo : List (Nat × Value)} {st : List Value} {h : sd_HX} {idx N' K' : Nat} {n k : Int32} {h0 : sd_HX} (h0s : (sd_s X).heap.size = G.1 + h0.1) (d : sd_d M pc (.multianewarray idx 2) 4 pc') (hw : Cond.classLink M.1.cls idx ("[" ++ (FieldType.array .int).toString) ∈ sd_tb) (hov : Cond.arrayOver (.array .int) ∈ lw_tbl) (har : Cond.arrayClass .int ∈ sd_tb) (hn : ¬ n < 0) (hk0 : ¬ k < 0) (hN : n.toNatClampNeg = N') (hK : k.toNatClampNeg = K') (hb : N' ≤ 1000) (hb2 : K' ≤ 60000) (hk : okM h0 h M N' K' = true) (kk : sd_J G X Q M pc' lo (.ref (G.1 + h.1) :: st) (nwM h N')) : sd_J G X Q M pc lo (.int k :: .int n :: st) h := fun hB H locs ls hH hS hl hf => by
  subst hN hK
  obtain ⟨d, rfl⟩ := d
  unfold okM at hk
  simp only [Bool.and_eq_true, decide_eq_true_eq, List.all_eq_true, List.mem_range] at hk
  obtain ⟨hs, hrow, hk1, hk2⟩ := hk
  have hf2 : sd_fit G X (nwM h n.toNatClampNeg) := sd_fitN hB h0s ⟨hk1, hk2⟩
  have hts := hB.2.2.2.2.2.1
  have hSZ : sd_SZ (h.1 + 1 + n.toNatClampNeg) = sd_SZ h.1 + (n.toNatClampNeg + n.toNatClampNeg * k.toNatClampNeg) := by
    rw [sd_SZ_r n.toNatClampNeg hrow, sd_SZ_s hs (by decide)]
    omega
  have hadd := sd_kadd (h1 := nwM h n.toNatClampNeg) (mc := 1 + n.toNatClampNeg) (ms := n.toNatClampNeg + n.toNatClampNeg * k.toNatClampNeg) hB hH hS ⟨by show h.1 + 1 + _ = _; omega, hSZ⟩
  have hf3 := hf2
  unfold sd_fit at hf3
  rw [hadd.1, hadd.2] at hf3
  intro T hT Xs
  obtain ⟨vm₁, cA, comp, -, fA, fC, hO, -, X', step⟩ := Xs.multianewarray2F (ty := .int) hB.1 hB.2.2.2.2.1 (hts _ hw) (hB.2.2.2.2.2.2.2.2.2.2.2.2.2.2.2 _ hov rfl) (hts _ har) (g := F0 X.2.2.2.2.2.1 pc ls (.int k :: .int n :: st)) rfl (by rw [hB.2.1]; exact d) rfl hn hk0 (by omega) (by show _ * 4 ≤ _; omega) (by omega) rfl rfl hf3.1 hf3.2
  have hcA : cA = G.2.2.2.1 106 := sd_cA hB (k := 6) (ty := .array .int) rfl fA (fun _ _ q => q)
  have hcy : comp = G.2.2.2.1 100 := sd_cA hB (k := 0) (ty := .int) rfl fC (fun _ _ q => q)
  subst hcA hcy
  generalize hF : Jvm.Free.Multi.fill (T.setVm vm₁) (G.2.2.2.1 106) (G.2.2.2.1 100) n.toNatClampNeg k.toNatClampNeg (defaultValue .int) n.toNatClampNeg = F at X' step
  have hTh : (T.setVm vm₁).heap = H := hT
  obtain ⟨f1, f2, -, -⟩ := Jvm.Free.Multi.fill_facts (T.setVm vm₁) (G.2.2.2.1 106) (G.2.2.2.1 100) n.toNatClampNeg k.toNatClampNeg (defaultValue .int) n.toNatClampNeg
  rw [hF, hTh] at f1 f2
  have hold : ∀ x : Nat, x < H.size → F.heap[x]? = H[x]? := fun x hx => by
    have := Jvm.Free.Multi.fill_old (T.setVm vm₁) (G.2.2.2.1 106) (G.2.2.2.1 100) n.toNatClampNeg k.toNatClampNeg (defaultValue .int) (a := x) (by rw [hTh]; exact hx) n.toNatClampNeg
    rw [hF, hTh] at this
    exact this
  have hrow2 : ∀ j : Nat, j < n.toNatClampNeg → F.heap[H.size + 1 + j]? = some (vp_cell (G.2.2.2.1 100) (k.toNatClampNeg, .inl (fun _ => 0))) := fun j hj => by
    have := Jvm.Free.Multi.fill_inner (T.setVm vm₁) (G.2.2.2.1 106) (G.2.2.2.1 100) n.toNatClampNeg k.toNatClampNeg (defaultValue .int) n.toNatClampNeg j hj
    rw [hF, hTh] at this
    rw [this, vp_cell_i]
    refine congrArg some ?_
    show ({ cls := G.2.2.2.1 100, slots := Array.replicate k.toNatClampNeg (.int 0), vm := .none } : Cell) = _
    rw [arrV_new]
  rw [vr_outer, ← vp_cell_q] at f2
  have hP : va_P (sd_dD G) sd_cls (sd_W G (nwM h n.toNatClampNeg)) F.heap := by
    intro q x hx
    by_cases hq : q < h.1
    · have e : (sd_W G (nwM h n.toNatClampNeg))[q]? = (sd_W G h)[q]? := by
        rw [sd_W_at G hq, sd_W_at G (show q < h.1 + 1 + n.toNatClampNeg by omega), nwM_old hq]
      rw [e] at hx
      exact (hH.1 q x hx).kept (hold x.1 ((hH.1 q x hx).lt))
    · by_cases hq2 : q < h.1 + 1 + n.toNatClampNeg
      · rw [sd_W_at G hq2] at hx
        by_cases hq3 : q = h.1
        · subst hq3
          rw [sd_cel_a G _ hs (by decide)] at hx
          cases hx
          show F.heap[G.1 + h.1]? = some (vp_cell _ (n.toNatClampNeg, .inr (.inr (.inr (.inr (fun j => ((nwM h n.toNatClampNeg).2.2.2 h.1 j).map (fun a => G.1 + a)))))))
          rw [← hH.2.1, f2]
          have : (fun j => ((nwM h n.toNatClampNeg).2.2.2 h.1 j).map (fun a => G.1 + a)) = (fun j => if j < n.toNatClampNeg then some (H.size + 1 + j) else none) := by
            funext j
            show ((if h.1 = h.1 then (if j < n.toNatClampNeg then some (h.1 + 1 + j) else none) else if h.1 < h.1 then none else h.2.2.2 h.1 j)).map _ = _
            rw [if_pos rfl]
            by_cases z : j < n.toNatClampNeg
            · rw [if_pos z, if_pos z, hH.2.1]
              show some (G.1 + (h.1 + 1 + j)) = _
              congr 1
              omega
            · rw [if_neg z, if_neg z]
              rfl
          rw [this]
        · obtain ⟨j, hj, rfl⟩ : ∃ j, j < n.toNatClampNeg ∧ q = h.1 + 1 + j := ⟨q - (h.1 + 1), by omega, by omega⟩
          rw [sd_cel_a G _ (hrow j hj) (by decide)] at hx
          cases hx
          show F.heap[G.1 + (h.1 + 1 + j)]? = some (vp_cell _ (k.toNatClampNeg, .inl ((nwM h n.toNatClampNeg).2.1 (h.1 + 1 + j))))
          rw [show G.1 + (h.1 + 1 + j) = H.size + 1 + j by rw [hH.2.1]; omega, hrow2 j hj]
          have : (nwM h n.toNatClampNeg).2.1 (h.1 + 1 + j) = fun _ => 0 := by
            funext z
            show (if h.1 ≤ h.1 + 1 + j then 0 else h.2.1 _ z) = 0
            rw [if_pos (by omega)]
          rw [this]
      · rw [sd_W_no G (show (nwM h n.toNatClampNeg).1 ≤ q by show h.1 + 1 + n.toNatClampNeg ≤ q; omega)] at hx
        cases hx
  have hlast : h.1 + 1 + n.toNatClampNeg ≤ sd_NT := by
    by_cases z : n.toNatClampNeg = 0
    · have := sd_SHlt hs (by decide); omega
    · have := sd_SHlt (hrow (n.toNatClampNeg - 1) (by omega)) (by decide); omega
  have k2 := kk hB F.heap locs ls ⟨hP, by rw [f1, hH.2.1]; show _ = G.1 + (h.1 + 1 + n.toNatClampNeg); omega, hlast⟩ ⟨by rw [f1]; have := hS.1; omega, fun x h1 h2 => (hold x (Nat.lt_of_lt_of_le h1 hS.1)).trans (hS.2.1 x h1 h2), hS.2.2⟩ hl hf2
  rw [hadd.1, hadd.2, ← Nat.add_assoc, ← Nat.add_assoc] at k2
  obtain ⟨t, a1, b1⟩ := k2 F rfl X'
  refine ⟨t, step t ?_, b1⟩
  have e : T.heap.size = G.1 + h.1 := by rw [hT]; exact hH.2.1
  rw [e]
  exact a1

